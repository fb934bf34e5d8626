section FC2
variable {A : AS} {op N c : Nat} {one : Bool}
abbrev rF (A : AS) (op : Nat) (one : Bool) (f : Nat → Int) (a b : Nat) : Nat := rN A op one f a b (A 0 1)
/-- the pipes by which a search came -/
def cmP (A : AS) (op : Nat) (one : Bool) (f : Nat → Int) (c S : Nat) (cf cp : Nat → Nat) (h : HP) : Prop := ∀ x, S.testBit x = true → x ≠ c → h.1 27 x = nI (cp x) ∧ cp x < A 0 1 ∧ op.testBit (cp x) = true ∧ btw A (cp x) (cf x) x ∧ rsI A one f (cp x) (cf x) ≠ 0
theorem back_e {f : Nat → Int} {S x : Nat} {cf cp : Nat → Nat} {h : HP} (w : WFt A) (hn : A 0 1 ≤ 24) (t : TM A h) (s : ∀ p, p < A 0 1 → h.1 1 (48 + p) = nI (op / 2 ^ p % 2)) (hx : x < 16) (h1 : cp x < A 0 1) (h2 : op.testBit (cp x) = true) (h3 : btw A (cp x) (cf x) x) : xX11_beyond (nI (cp x)) (nI x) h = some (nI (cf x), h) := by
  have : ac A (cp x) x = some (cf x) := (ac_btw w h1).mpr (h3.elim (fun z => Or.inr ⟨z.2, z.1⟩) (fun z => Or.inl ⟨z.2, z.1⟩))
  rw [beyond_e w hn t s h1 hx, byI_t h2, acI_s this]
theorem car8 {f : Nat → Int} {S d K : Nat} {cf lv cp : Nat → Nat} {h : HP} (w : WFt A) (hn : A 0 1 ≤ 24) (ok : okF A one f) (t : TM A h) (s : ∀ p, p < A 0 1 → h.1 1 (48 + p) = nI (op / 2 ^ p % 2)) (hf : FC A f h) (tr : trE (rF A op one f) c S cf lv) (hc : c < 16) (hd : S.testBit d = true) (hK : ∀ j, j < K → itr cf d j ≠ c) (hKc : itr cf d K = c) (cm : cmP A op one f c S cf cp h) : ∀ n j (e : Nat), j ≤ K → K - j < n → 1 ≤ e → e ≤ 1000000 → (∀ i, i < j → (e : Int) ≤ rsI A one f (cp (itr cf d i)) (itr cf d (i + 1))) → ∃ e' : Nat, xX11_carries_8 N n (nI c) (nI d) (b2 one) (nI e) (nI (itr cf d j)) h = xX11_carries_67 N N (nI c) (nI e') (nI d) h ∧ 1 ≤ e' ∧ e' ≤ 1000000 ∧ ∀ i, i < K → (e' : Int) ≤ rsI A one f (cp (itr cf d i)) (itr cf d (i + 1)) := by
  intro n
  induction n with
  | zero => intro j e _ q; omega
  | succ n ih =>
    intro j e hj hq he1 he2 hm
    obtain ⟨p1, p2⟩ := path_in tr hd hK j hj
    obtain ⟨x16, -, g⟩ := tr _ p1
    rw [xX11_carries_8]
    dsimp only
    by_cases q : j = K
    · subst q
      rw [hKc, if_pos rfl]
      exact ⟨e, rfl, he1, he2, hm⟩
    · have hne := hK j (by omega)
      obtain ⟨c1, c2, c3, c4, c5⟩ := cm _ p1 hne
      have g0 := (rs_sum (one := one) w ok c2 c4).1
      have wl : (rsI A one f (cp (itr cf d j)) (cf (itr cf d j))).toNat < 1000 := by
        obtain ⟨o1, o2⟩ := ok _ c2
        have w5 := (w.2 _ c2).2.2.2.2.2.2
        have : wdt A one (cp (itr cf d j)) ≤ 99 := by unfold wdt; split <;> omega
        unfold rsI
        split <;> omega
      have bk := back_e (f := f) (S := S) w hn t s x16 c2 c3 c4
      rw [if_neg (by rw [eq_nn (by omega) (by omega)]; exact hne), ald_n x16 (by decide), c1, ald_n x16 (by decide), c1, bk, cl_s, restOf_e w hn ok t hf c2 c4, cl_s, minM_e (by omega) (by omega), cl_s, ald_n x16 (by decide), c1, bk, cl_s]
      exact ih (j + 1) (min e (rsI A one f (cp (itr cf d j)) (cf (itr cf d j))).toNat) (by omega) (by omega) (by omega) (by omega) (fun i hi => by
        by_cases z : i = j
        · subst z; show _ ≤ rsI A one f (cp (itr cf d i)) (cf (itr cf d i)); omega
        · have := hm i (by omega); omega)
theorem car67 {f : Nat → Int} {S d K e : Nat} {cf lv cp : Nat → Nat} {hh : HP} {nt : Nat → Int} (w : WFt A) (hn : A 0 1 ≤ 24) (ok : okF A one f) (tr : trE (rF A op one f) c S cf lv) (hc : c < 16) (hd : S.testBit d = true) (hK : ∀ j, j < K → itr cf d j ≠ c) (hKc : itr cf d K = c) (cm : cmP A op one f c S cf cp hh) (he : ∀ i, i < K → (e : Int) ≤ rsI A one f (cp (itr cf d i)) (itr cf d (i + 1))) : ∀ n j fj h, j ≤ K → K - j < n → TM A h → (∀ p, p < A 0 1 → h.1 1 (48 + p) = nI (op / 2 ^ p % 2)) → FC A fj h → okF A one fj → h.1 27 = hh.1 27 → fln (cpF A op one) (rF A op one fj) (fun a => nt a + (if a = itr cf d j then (e : Int) else 0) - (if a = d then (e : Int) else 0)) → (∀ m, j ≤ m → m < K → fj (cp (itr cf d m)) = f (cp (itr cf d m))) → ∃ f' h', xX11_carries_67 N n (nI c) (nI e) (nI (itr cf d j)) h = some (nI e, h') ∧ (∀ k, k ≠ 26 → h'.1 k = h.1 k) ∧ FC A f' h' ∧ okF A one f' ∧ fln (cpF A op one) (rF A op one f') (fun a => nt a + (if a = c then (e : Int) else 0) - (if a = d then (e : Int) else 0)) := by
  intro n
  induction n with
  | zero => intro j fj h _ q; omega
  | succ n ih =>
    intro j fj h hjK hq t s hf okj h27 hfl hm
    obtain ⟨p1, p2⟩ := path_in tr hd hK j hjK
    obtain ⟨x16, -, g⟩ := tr _ p1
    rw [xX11_carries_67]
    dsimp only
    by_cases q : j = K
    · subst q
      rw [hKc] at hfl ⊢
      rw [if_pos rfl]
      exact ⟨fj, h, rfl, fun _ _ => rfl, hf, okj, hfl⟩
    · have hne := hK j (by omega)
      obtain ⟨c1, c2, c3, c4, c5⟩ := cm _ p1 hne
      obtain ⟨g1, g2, g3⟩ := g hne
      obtain ⟨u16, -, -⟩ := tr _ g1
      have w3 := (w.2 _ c2).2.2.1
      have huv : cf (itr cf d j) ≠ itr cf d j := fun z => by rw [z] at g3; omega
      have c1' : h.1 27 (itr cf d j) = nI (cp (itr cf d j)) := by rw [h27]; exact c1
      obtain ⟨t1, -, -⟩ := t.2.2.2 _ c2
      obtain ⟨y1, y2, -⟩ := w.2 _ c2
      have rsame : rsI A one fj (cp (itr cf d j)) (cf (itr cf d j)) = rsI A one f (cp (itr cf d j)) (cf (itr cf d j)) := by
        unfold rsI; rw [hm j (Nat.le_refl _) (by omega)]
      have her : (e : Int) ≤ rsI A one fj (cp (itr cf d j)) (cf (itr cf d j)) := by rw [rsame]; exact he j (by omega)
      have ok2 := addF_ok (one := one) w okj c2 c4 her
      have rn := fun a b => (rN_add (op := op) w okj c2 c3 c4 her a b (A 0 1) (Nat.le_refl _))
      have ern : rF A op one (addF A fj (cp (itr cf d j)) (cf (itr cf d j)) e) = psh (rF A op one fj) (cf (itr cf d j)) (itr cf d j) e := by
        funext a b
        have := (rn a b).1
        rw [if_pos c2] at this
        exact this
      have her2 : e ≤ rF A op one fj (cf (itr cf d j)) (itr cf d j) := (rn _ _).2 c2 rfl rfl
      have f2 := fln.push u16 x16 huv her2 hfl
      -- the next corner
      have next : ∀ h1, (∀ k, k ≠ 26 → h1.1 k = h.1 k) → FC A (addF A fj (cp (itr cf d j)) (cf (itr cf d j)) e) h1 → ∃ f' h', xX11_carries_67 N n (nI c) (nI e) (nI (itr cf d (j + 1))) h1 = some (nI e, h') ∧ (∀ k, k ≠ 26 → h'.1 k = h.1 k) ∧ FC A f' h' ∧ okF A one f' ∧ fln (cpF A op one) (rF A op one f') (fun a => nt a + (if a = c then (e : Int) else 0) - (if a = d then (e : Int) else 0)) := by
        intro h1 k1 hf1
        have t' : TM A h1 := by
          obtain ⟨x1, x2, x3, x4⟩ := t
          exact ⟨by rw [k1 0 (by decide)]; exact x1, by rw [k1 0 (by decide)]; exact x2, fun c hc => by rw [k1 4 (by decide)]; exact x3 c hc, fun p hp => by rw [k1 5 (by decide), k1 6 (by decide), k1 7 (by decide)]; exact x4 p hp⟩
        obtain ⟨f', h', z1, z2, z3⟩ := ih (j + 1) _ h1 (by omega) (by omega) t' (fun p hp => by rw [k1 1 (by decide)]; exact s p hp) hf1 ok2 (by rw [k1 27 (by decide)]; exact h27) (by
          rw [ern]
          refine ⟨f2.1, fun a ha => ?_⟩
          rw [f2.2 a ha]
          show (nt a + (if a = itr cf d j then (e : Int) else 0) - (if a = d then (e : Int) else 0)) + (if a = cf (itr cf d j) then (e : Int) else if a = itr cf d j then -(e : Int) else 0) = nt a + (if a = cf (itr cf d j) then (e : Int) else 0) - (if a = d then (e : Int) else 0)
          by_cases v1 : a = cf (itr cf d j)
          · have v2 : ¬ a = itr cf d j := fun y => huv (by rw [← v1, y])
            simp only [v2, if_pos v1, if_false]; omega
          · by_cases v2 : a = itr cf d j
            · simp only [if_neg v1, if_pos v2]; omega
            · simp only [if_neg v1, if_neg v2]; omega) (fun m hm1 hm2 => by
          have a0 := path_in tr hd hK m (by omega)
          have a1 := a0.2 j (by omega)
          have a2 := (path_in tr hd hK (m + 1) (by omega)).2 j (by omega)
          have cmm := (cm _ a0.1 (hK m hm2)).2.2.2.1
          have pne : cp (itr cf d m) ≠ cp (itr cf d j) := fun z => by
            rw [z] at cmm
            have n1 : itr cf d j ≠ itr cf d m := fun y => by rw [y] at a1; omega
            have n2 : itr cf d j ≠ cf (itr cf d m) := fun y => by rw [show itr cf d (m + 1) = cf (itr cf d m) from rfl, ← y] at a2; omega
            unfold btw at cmm c4
            rcases c4 with k | k <;> rcases cmm with k2 | k2 <;> omega
          unfold addF
          rw [if_neg pne]
          exact hm m (by omega) hm2)
        exact ⟨f', h', z1, fun k hk => by rw [z2 k hk, k1 k hk], z3⟩
      unfold xX11_carries_115
      rw [if_neg (by rw [eq_nn (by omega) (by omega)]; exact hne), ald_n x16 (by decide), c1', ald_n (by omega) (by decide), hf _ c2, ald_n (by omega) (by decide), t1]
      have fin : ∀ v : Int32, v = Int32.ofInt (addF A fj (cp (itr cf d j)) (cf (itr cf d j)) e (cp (itr cf d j))) → ∃ f' h', (ast h 26 24 (nI (cp (itr cf d j))) v fun h1 => ald h1 27 16 (nI (itr cf d j)) fun t2 => cl (xX11_beyond t2 (nI (itr cf d j)) h1) fun t3 h4 => xX11_carries_67 N n (nI c) (nI e) t3 h4) = some (nI e, h') ∧ (∀ k, k ≠ 26 → h'.1 k = h.1 k) ∧ FC A f' h' ∧ okF A one f' ∧ fln (cpF A op one) (rF A op one f') (fun a => nt a + (if a = c then (e : Int) else 0) - (if a = d then (e : Int) else 0)) := by
        intro v hv
        have k1 : ∀ k, k ≠ 26 → (up h 26 (cp (itr cf d j)) v).1 k = h.1 k := fun k hk => up_n hk
        have t' : TM A (up h 26 (cp (itr cf d j)) v) := by
          obtain ⟨x1, x2, x3, x4⟩ := t
          exact ⟨by rw [k1 0 (by decide)]; exact x1, by rw [k1 0 (by decide)]; exact x2, fun c hc => by rw [k1 4 (by decide)]; exact x3 c hc, fun p hp => by rw [k1 5 (by decide), k1 6 (by decide), k1 7 (by decide)]; exact x4 p hp⟩
        rw [ast_n (by omega) (by decide), ald_n x16 (by decide), k1 27 (by decide), c1', back_e (f := f) (S := S) w hn t' (fun p hp => by rw [k1 1 (by decide)]; exact s p hp) x16 c2 c3 c4, cl_s]
        refine next _ k1 (fun p hp => ?_)
        rw [up_at]
        by_cases z : p = cp (itr cf d j)
        · rw [if_pos ⟨rfl, z⟩, z, hv]
        · rw [if_neg (fun y => z y.2), hf p hp]
          unfold addF
          rw [if_neg z]
      by_cases z : A 2 (cp (itr cf d j)) = itr cf d j
      · have nz : ¬ A 2 (cp (itr cf d j)) = cf (itr cf d j) := fun y => huv (by rw [← y, z])
        rw [if_neg (by rw [z]; simp)]
        apply fin
        rw [ofI_n, ofI_neg, ofI_add]
        congr 1
        unfold addF
        rw [if_pos rfl, if_neg nz]; omega
      · have yz : A 2 (cp (itr cf d j)) = cf (itr cf d j) := by
          rcases c4 with k | k
          · exact k.1
          · exact absurd k.2 z
        rw [if_pos (by rw [ne_eq, eq_nn (by omega) (by omega)]; exact z)]
        apply fin
        rw [ofI_n, ofI_add]
        congr 1
        unfold addF
        rw [if_pos rfl, if_pos yz]
end FC2
