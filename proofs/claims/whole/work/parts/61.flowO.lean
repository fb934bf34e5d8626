section FO1
variable {A : AS} {op N c : Nat} {one : Bool}
def cloM (A : AS) (op : Nat) (one : Bool) (f : Nat → Int) (a S : Nat) : Prop := ∀ p x, p < A 0 1 → op.testBit p = true → btw A p a x → rsI A one f p a ≠ 0 → S.testBit x = true
theorem com19 {f : Nat → Int} (hN : 100 ≤ N) (w : WFt A) (hn : A 0 1 ≤ 24) (ok : okF A one f) : ∀ n i S h, i ≤ pc S 16 → 16 - i < n → TM A h → (∀ p, p < A 0 1 → h.1 1 (48 + p) = nI (op / 2 ^ p % 2)) → FC A f h → srM A op one f c S h → (∀ j, j < i → ∃ a, a < 16 ∧ h.1 28 j = nI a ∧ cloM A op one f a S) → ∃ S' h', xX11_comesOn_19 N n (b2 one) (nI S) (nI i) h = some (nI S', h') ∧ sQ h h' ∧ srM A op one f c S' h' ∧ ∀ a, S'.testBit a = true → cloM A op one f a S' := by
  intro n
  induction n with
  | zero => intro i S h _ q; omega
  | succ n ih =>
    intro i S h hi hq t s hf hs hcl
    have pl := pc_le S 16
    have hs0 := hs
    obtain ⟨s1, s2, s3, ⟨q, lv, cf, cp, sq, s4⟩, s5⟩ := hs
    rw [xX11_comesOn_19]
    dsimp only
    rw [s3]
    by_cases e : i = pc S 16
    · rw [if_pos (by rw [e, le_nn (by omega) (by omega)]; omega)]
      refine ⟨S, h, rfl, ⟨fun _ _ _ _ => rfl, fun _ _ => rfl⟩, hs0, fun x hx => ?_⟩
      obtain ⟨t1, t2, t3, -⟩ := s4 x hx
      obtain ⟨a, a1, a2, a3⟩ := hcl (lv x) (by omega)
      have := (sq (lv x) t2).2
      rw [a2, t3, eq_nn (by omega) (by omega)] at this
      rw [← this]; exact a3
    · obtain ⟨q1, q2⟩ := sq i (by omega)
      have q16 := (s4 _ q1).1
      rw [if_neg (by rw [le_nn (by omega) (by omega)]; omega)]
      obtain ⟨S', h', g1, g2, g3, g4, g5, g6, g7⟩ := com31 (N := N) (K := xX11_comesOn_19 N n) (i := i) (a := q i) w hn ok q16 N 0 S h (by omega) (by omega) (by omega) q1 q2 t s hf hs0
      rw [show xX11_comesOn_31 N (xX11_comesOn_19 N n) N (b2 one) (nI S) (nI i) 0 h = _ from g1]
      obtain ⟨S2, h2, k1, k2, k3, k4⟩ := ih (i + 1) S' h' (by omega) (by omega) (g2.TM t) (fun p hp => by rw [g2.1 1 (by decide) (by decide) (by decide)]; exact s p hp) (fun p hp => by rw [g2.1 26 (by decide) (by decide) (by decide)]; exact hf p hp) g3 (fun j hj => by
        by_cases z : j = i
        · subst z
          exact ⟨q j, q16, by rw [g6 j (by omega)]; exact q2, fun p x h1 h2 h3 h4 => g7 p x (Nat.zero_le _) h1 h2 h3 h4⟩
        · obtain ⟨a, a1, a2, a3⟩ := hcl j (by omega)
          exact ⟨a, a1, by rw [g6 j (by omega)]; exact a2, fun p x h1 h2 h3 h4 => g4 x (a3 p x h1 h2 h3 h4)⟩)
      exact ⟨S2, h2, k1, ⟨fun k x1 x2 x3 => by rw [k2.1 k x1 x2 x3, g2.1 k x1 x2 x3], fun j hj => by rw [k2.2 j hj, g2.2 j hj]⟩, k3, k4⟩
theorem comesOn_e {f : Nat → Int} (hN : 100 ≤ N) (w : WFt A) (hn : A 0 1 ≤ 24) (ok : okF A one f) (hc : c < 16) {h : HP} (t : TM A h) (s : ∀ p, p < A 0 1 → h.1 1 (48 + p) = nI (op / 2 ^ p % 2)) (hf : FC A f h) : ∃ (S : Nat) (h' : HP) (cf lv cp : Nat → Nat), xX11_comesOn N (nI c) (b2 one) h = some (nI S, h') ∧ sQ h h' ∧ sdE (fun a b => rN A op one f a b (A 0 1)) c S ∧ trE (fun a b => rN A op one f a b (A 0 1)) c S cf lv ∧ ∀ x, S.testBit x = true → x ≠ c → h'.1 27 x = nI (cp x) ∧ cp x < A 0 1 ∧ op.testBit (cp x) = true ∧ btw A (cp x) (cf x) x ∧ rsI A one f (cp x) (cf x) ≠ 0 := by
  unfold xX11_comesOn
  have p1 : pc (2 ^ c) 16 = 1 := by
    have := pc_off (a := 2 ^ c) (b := 0) (k := c) (by rw [Nat.testBit_two_pow]; simp) (fun i => by
      rw [Nat.testBit_two_pow, Nat.zero_testBit]
      by_cases q : c = i
      · subst q; simp
      · simp [q]) 16 hc
    rw [this, pc_zero]
  have tb : ∀ x, (2 ^ c).testBit x = true ↔ x = c := fun x => by rw [Nat.testBit_two_pow, decide_eq_true_iff]; exact ⟨fun z => z.symm, fun z => z.symm⟩
  have sq : sQ h (up (up h 28 0 (nI c)) 0 44 1) := ⟨fun k k1 k2 k3 => by rw [up_n k1, up_n k3], fun j hj => by rw [up_at, if_neg (fun z => hj z.2), up_n (by decide)]⟩
  obtain ⟨S, h', g1, g2, ⟨s1, s2, s3, ⟨q, lv, cf, cp, sqq, s4⟩, s5⟩, g4⟩ := com19 (N := N) (A := A) (op := op) (c := c) (f := f) (one := one) hN w hn ok N 0 (2 ^ c) (up (up h 28 0 (nI c)) 0 44 1) (by omega) (by omega) (sq.TM t) (fun p hp => by rw [sq.1 1 (by decide) (by decide) (by decide)]; exact s p hp) (fun p hp => by rw [sq.1 26 (by decide) (by decide) (by decide)]; exact hf p hp) ⟨p2_lt hc, (tb c).mpr rfl, by rw [up_at, if_pos ⟨rfl, rfl⟩, p1]; rfl, ⟨fun _ => c, fun _ => 0, fun _ => 0, fun _ => 0, fun i hi => ⟨(tb c).mpr rfl, by rw [up_n (by decide), show i = 0 by omega, up_at, if_pos ⟨rfl, rfl⟩]⟩, fun x hx => ⟨by rw [(tb x).mp hx]; exact hc, by show (0 : Nat) < pc (2 ^ c) 16; omega, ((tb x).mp hx).symm, fun z => absurd ((tb x).mp hx) z⟩⟩, fun x hx => ⟨0, (tb x).mp hx⟩⟩ (fun j hj => by omega)
  rw [shl1 (by omega), lt_e, show ast h 28 16 0 (nI c) (fun h2 => lt (up h2 0 44 1) fun h3 => xX11_comesOn_19 N N (b2 one) (nI (2 ^ c)) 0 h3) = xX11_comesOn_19 N N (b2 one) (nI (2 ^ c)) 0 (up (up h 28 0 (nI c)) 0 44 1) from ast_n (i := 0) (by decide) (by decide), show xX11_comesOn_19 N N (b2 one) (nI (2 ^ c)) 0 (up (up h 28 0 (nI c)) 0 44 1) = _ from g1]
  refine ⟨S, h', cf, lv, cp, rfl, ⟨fun k x1 x2 x3 => by rw [g2.1 k x1 x2 x3, sq.1 k x1 x2 x3], fun j hj => by rw [g2.2 j hj, sq.2 j hj]⟩, ⟨s1, fun x => ⟨s5 x, fun ⟨g, hg⟩ => ?_⟩⟩, fun x hx => ?_, fun x hx hxc => ?_⟩
  · exact rr_in s2 (fun a b ha hb z1 z2 => by
      rcases Nat.eq_zero_or_pos (rN A op one f a b (A 0 1)) with y | y
      · exact y
      · obtain ⟨p, h1, h2, h3, h4⟩ := (rN_pos w ok (A 0 1) (Nat.le_refl _)).mp y
        have := g4 a z1 p b h1 h2 h3 h4
        rw [z2] at this; cases this) g x hg
  · obtain ⟨t1, t2, t3, t4⟩ := s4 x hx
    have := pc_le S 16
    refine ⟨t1, by omega, fun z => ?_⟩
    obtain ⟨u1, u2, u3, u4, u5, u6, u7⟩ := t4 z
    exact ⟨u1, (rN_pos w ok (A 0 1) (Nat.le_refl _)).mpr ⟨cp x, u4, u5, u6, u7⟩, u2⟩
  · obtain ⟨u1, u2, u3⟩ := (s4 x hx).2.2.2 hxc
    exact u3
end FO1
