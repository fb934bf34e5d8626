section FZ3
variable {A : AS} {hx hm : HP} {op N c d : Nat} {one : Bool}
theorem carries_e {f : Nat → Int} {S F : Nat} {cf lv cp : Nat → Nat} {h : HP} (hN : 100 ≤ N) (w : WFt A) (hn : A 0 1 ≤ 24) (ok : okF A one f) (t : TM A h) (s : ∀ p, p < A 0 1 → h.1 1 (48 + p) = nI (op / 2 ^ p % 2)) (hf : FC A f h) (tr : trE (rF A op one f) c S cf lv) (hc : c < 16) (hcd : c ≠ d) (hd : S.testBit d = true) (cm : cmP A op one f c S cf cp h) (hfl : flw (cpF A op one) c d (rF A op one f) F) : ∃ (e : Nat) (f' : Nat → Int) (h' : HP), xX11_carries N (nI c) (nI d) (b2 one) h = some (nI e, h') ∧ 1 ≤ e ∧ (∀ k, k ≠ 26 → h'.1 k = h.1 k) ∧ FC A f' h' ∧ okF A one f' ∧ flw (cpF A op one) c d (rF A op one f') (F + e) := by
  obtain ⟨K, k1, k2, k3⟩ := path_ex tr hd
  have lvd := (tr d hd).2.1
  obtain ⟨e, e1, e2, e3, e4⟩ := car8 (N := N) w hn ok t s hf tr hc hd k3 k1 cm N 0 1000000 (by omega) (by omega) (by omega) (by omega) (fun i hi => by omega)
  unfold xX11_carries
  rw [show xX11_carries_8 N N (nI c) (nI d) (b2 one) 1000000 (nI d) h = _ from e1]
  obtain ⟨f', h', f1, f2, f3, f4, f5⟩ := car67 (N := N) (e := e) (hh := h) (nt := fun a => if a = c then (F : Int) else if a = d then -(F : Int) else 0) w hn ok tr hc hd k3 k1 cm e4 N 0 f h (by omega) (by omega) t s hf ok rfl (by
    refine ⟨hfl.1, fun a ha => ?_⟩
    rw [hfl.2 a ha]
    show _ = _ + (if a = d then (e : Int) else 0) - _
    omega) (fun _ _ _ => rfl)
  rw [show xX11_carries_67 N N (nI c) (nI e) (nI d) h = _ from f1]
  refine ⟨e, f', h', rfl, e2, f2, f3, f4, f5.1, fun a ha => ?_⟩
  rw [f5.2 a ha]
  dsimp only
  by_cases z1 : a = c
  · have z2 : ¬ a = d := fun z => hcd (by rw [← z1, z])
    simp only [if_pos z1, if_neg z2]; omega
  · by_cases z2 : a = d
    · simp only [if_neg z1, if_pos z2]; omega
    · simp only [if_neg z1, if_neg z2]; omega
/-- what laysFlow leaves alone -/
def sL (h h' : HP) : Prop := (∀ k, k ≠ 0 → k ≠ 26 → k ≠ 27 → k ≠ 28 → h'.1 k = h.1 k) ∧ ∀ j, j ≠ 44 → j ≠ 45 → h'.1 0 j = h.1 0 j
theorem sL.tr {h h1 h2 : HP} (a : sL h h1) (b : sL h1 h2) : sL h h2 := ⟨fun k q1 q2 q3 q4 => (b.1 k q1 q2 q3 q4).trans (a.1 k q1 q2 q3 q4), fun j q1 q2 => (b.2 j q1 q2).trans (a.2 j q1 q2)⟩
theorem sL.TM {h h' : HP} (q : sL h h') (t : TM A h) : TM A h' := by
  obtain ⟨t1, t2, t3, t4⟩ := t
  exact ⟨by rw [q.2 7 (by decide) (by decide)]; exact t1, by rw [q.2 8 (by decide) (by decide)]; exact t2, fun c hc => by rw [q.1 4 (by decide) (by decide) (by decide) (by decide)]; exact t3 c hc, fun p hp => by rw [q.1 5 (by decide) (by decide) (by decide) (by decide), q.1 6 (by decide) (by decide) (by decide) (by decide), q.1 7 (by decide) (by decide) (by decide) (by decide)]; exact t4 p hp⟩
theorem lays39 (hN : 100 ≤ N) (w : WFt A) (hn : A 0 1 ≤ 24) (hc : c < 16) (hd : d < 16) (hcd : c ≠ d) : ∀ n F f S cf lv cp h, 2376 - F < n → TM A h → (∀ p, p < A 0 1 → h.1 1 (48 + p) = nI (op / 2 ^ p % 2)) → FC A f h → okF A one f → flw (cpF A op one) c d (rF A op one f) F → h.1 0 45 = nI S → sdE (rF A op one f) c S → trE (rF A op one f) c S cf lv → cmP A op one f c S cf cp h → ∃ F' r' S' h', xX11_laysFlow_39 N n (nI c) (nI d) (b2 one) (nI F) h = some (nI F', h') ∧ sL h h' ∧ flw (cpF A op one) c d r' F' ∧ sdE r' c S' ∧ h'.1 0 45 = nI S' ∧ S'.testBit d = false := by
  have cs : isum (fun b => (cpF A op one c b : Int)) 16 ≤ 2376 := by
    have := capN_sum (op := op) (one := one) (a := c) w (A 0 1) (Nat.le_refl _)
    show isum (fun b => (capN A op one c b (A 0 1) : Int)) 16 ≤ 2376
    omega
  intro n
  induction n with
  | zero => intro F f S cf lv cp h q; omega
  | succ n ih =>
    intro F f S cf lv cp h hq t s hf ok hfl h45 hsd htr hcm
    rw [xX11_laysFlow_39]
    dsimp only
    rw [h45, has_e (by omega) (by have := hsd.1; omega), cl_s]
    cases hb : S.testBit d
    · rw [b2_f, if_pos rfl]
      exact ⟨F, _, S, h, rfl, ⟨fun _ _ _ _ _ => rfl, fun _ _ _ => rfl⟩, hfl, hsd, h45, hb⟩
    · obtain ⟨e, f1, h1, e1, x1, k1, c1, o1, g1⟩ := carries_e (N := N) hN w hn ok t s hf htr hc hcd hb hcm hfl
      have s1 : sL h h1 := ⟨fun k q1 q2 _ _ => k1 k q2, fun j _ _ => by rw [k1 0 (by decide)]⟩
      have fm := flw_max hc cs g1
      obtain ⟨S2, h2, cf2, lv2, cp2, e2, k2, sd2, tr2, cm2⟩ := comesOn_e (N := N) (op := op) (c := c) (f := f1) (one := one) hN w hn o1 hc (s1.TM t) (fun p hp => by rw [k1 1 (by decide)]; exact s p hp) c1
      have s2 : sL h1 (up h2 0 45 (nI S2)) := ⟨fun k q1 q2 q3 q4 => by rw [up_n q1, k2.1 k q1 q3 q4], fun j q1 q2 => by rw [up_at, if_neg (fun z => q2 z.2), k2.2 j q1]⟩
      have s3 := s1.tr s2
      rw [b2_t, if_neg (by decide), e1, cl_s, add_nn, lt_e, e2, cl_s, lt_e]
      obtain ⟨F', r', S', h', z1, z2, z3⟩ := ih (F + e) f1 S2 cf2 lv2 cp2 (up h2 0 45 (nI S2)) (by omega) (s3.TM t) (fun p hp => by rw [s3.1 1 (by decide) (by decide) (by decide) (by decide)]; exact s p hp) (fun p hp => by rw [up_n (by decide), k2.1 26 (by decide) (by decide) (by decide)]; exact c1 p hp) o1 g1 (by rw [up_at, if_pos ⟨rfl, rfl⟩]) sd2 tr2 (fun x hx hxc => by rw [up_n (by decide)]; exact cm2 x hx hxc)
      exact ⟨F', r', S', h', z1, s3.tr z2, z3⟩
theorem lays3 (hN : 5000 ≤ N) (w : WFt A) (hn : A 0 1 ≤ 24) (hc : c < 16) (hd : d < 16) (hcd : c ≠ d) : ∀ n p h, p ≤ A 0 1 → A 0 1 - p < n → TM A h → (∀ p, p < A 0 1 → h.1 1 (48 + p) = nI (op / 2 ^ p % 2)) → (∀ q, q < p → h.1 26 q = 0) → ∃ F' r' S' h', xX11_laysFlow_3 N n (nI c) (nI d) (b2 one) (nI p) h = some (nI F', h') ∧ sL h h' ∧ flw (cpF A op one) c d r' F' ∧ sdE r' c S' ∧ h'.1 0 45 = nI S' ∧ S'.testBit d = false := by
  intro n
  induction n with
  | zero => intro p h _ q; omega
  | succ n ih =>
    intro p h hp hq t s hz
    rw [xX11_laysFlow_3]
    dsimp only
    rw [t.2.1]
    by_cases e : p = A 0 1
    · subst e
      have ok : okF A one (fun _ => 0) := fun p _ => by dsimp only; omega
      have hf : FC A (fun _ => 0) h := fun p hp => hz p hp
      obtain ⟨S2, h2, cf2, lv2, cp2, e2, k2, sd2, tr2, cm2⟩ := comesOn_e (N := N) (op := op) (c := c) (f := fun _ => 0) (one := one) (by omega) w hn ok hc t s hf
      have s2 : sL h (up h2 0 45 (nI S2)) := ⟨fun k q1 q2 q3 q4 => by rw [up_n q1, k2.1 k q1 q3 q4], fun j q1 q2 => by rw [up_at, if_neg (fun z => q2 z.2), k2.2 j q1]⟩
      have fl : flw (cpF A op one) c d (rF A op one (fun _ => 0)) 0 := by
        have hh : ∀ a b n, n ≤ A 0 1 → rN A op one (fun _ => 0) a b n = capN A op one a b n := by
          intro a b n
          induction n with
          | zero => intro _; rfl
          | succ n ih =>
            intro h
            simp only [rN, capN]
            rw [ih (by omega)]
            have e : (rsI A one (fun _ => 0) n a).toNat = if one = true then 1 else A 4 n := by
              have : rsI A one (fun _ => 0) n a = (wdt A one n : Int) := by unfold rsI; dsimp only; split <;> omega
              rw [this]; rfl
            rw [e]
        refine ⟨fun a b _ _ => rN_sum w ok (A 0 1) (Nat.le_refl _), fun a _ => ?_⟩
        rw [isum_0 16 (fun i _ => by show (capN A op one a i (A 0 1) : Int) - (rN A op one (fun _ => 0) a i (A 0 1) : Int) = 0; rw [hh a i _ (Nat.le_refl _)]; omega)]
        split
        · rfl
        · split <;> rfl
      rw [if_pos (by rw [le_nn (by omega) (by omega)]; omega), e2, cl_s, lt_e]
      obtain ⟨F', r', S', h', z1, z2, z3⟩ := lays39 (N := N) (op := op) (one := one) (by omega) w hn hc hd hcd N 0 (fun _ => 0) S2 cf2 lv2 cp2 (up h2 0 45 (nI S2)) (by omega) (s2.TM t) (fun p hp => by rw [s2.1 1 (by decide) (by decide) (by decide) (by decide)]; exact s p hp) (fun p hp => by rw [up_n (by decide), k2.1 26 (by decide) (by decide) (by decide)]; exact hf p hp) ok fl (by rw [up_at, if_pos ⟨rfl, rfl⟩]) sd2 tr2 (fun x hx hxc => by rw [up_n (by decide)]; exact cm2 x hx hxc)
      exact ⟨F', r', S', h', z1, s2.tr z2, z3⟩
    · rw [if_neg (by rw [le_nn (by omega) (by omega)]; omega), ast_n (by omega) (by decide), lt_e, nI_1]
      have s1 : sL h (up h 26 p 0) := ⟨fun k q1 q2 _ _ => up_n q2, fun j _ _ => by rw [up_n (by decide)]⟩
      obtain ⟨F', r', S', h', z1, z2, z3⟩ := ih (p + 1) (up h 26 p 0) (by omega) (by omega) (s1.TM t) (fun p hp => by rw [up_n (by decide)]; exact s p hp) (fun q hq => by
        rw [up_at]
        by_cases z : q = p
        · rw [if_pos ⟨rfl, z⟩]
        · rw [if_neg (fun y => z y.2)]; exact hz q (by omega))
      exact ⟨F', r', S', h', z1, s1.tr z2, z3⟩
end FZ3
