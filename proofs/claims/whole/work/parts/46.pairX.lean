/-! ===== the class's pairs ===== -/
section PX6
variable {N s : Nat} {D : Nat → Nat → Nat}
/-- the cells of size and of the steps between -/
def apR (D : Nat → Nat → Nat) (s : Nat) (h : HP) : Prop := h.1 52 5 = nI s ∧ ∀ i j, i < s → j < s → h.1 54 (i * 16 + j) = nI (D i j) ∧ D i j < 16
theorem least_l {S l R : Nat} {u : Nat → Nat} {h : HP} (hs : s ≤ 16) (ha : apR D s h) (hl : l < s) (hR : R < 65536) (hu : ∀ j, R.testBit j = true → nbA h (mt R (2 ^ j) / 2) = u j ∧ u j ≤ 15) : ∀ n j v, j ≤ s → s - j < n → v ≤ 15 → (∀ i, R.testBit i = true → i < j → v ≤ D l i + u i) → (v = 15 ∨ ∃ i, R.testBit i = true ∧ i < j ∧ v = D l i + u i) → ∃ v', xX9_leastFor_26 N n (nI l) (nI R) (nI v) (nI j) h = some (nI v', h) ∧ v' ≤ 15 ∧ (∀ i, R.testBit i = true → i < s → v' ≤ D l i + u i) ∧ (v' = 15 ∨ ∃ i, R.testBit i = true ∧ i < s ∧ v' = D l i + u i) := by
  intro n
  induction n with
  | zero => intro j v _ q; omega
  | succ n ih =>
    intro j v hj hq hv h1 h2
    rw [xX9_leastFor_26]
    dsimp only
    unfold xX9_leastFor_82
    rw [ha.1]
    by_cases e : j = s
    · subst e
      rw [if_pos (by rw [le_nn (by omega) (by omega)]; omega)]
      exact ⟨v, rfl, hv, h1, h2⟩
    · rw [if_neg (by rw [le_nn (by omega) (by omega)]; omega), hasBit_e (by omega) (by omega), cl_s, lt_e, nI_1]
      cases hb : R.testBit j
      · rw [b2_f, if_pos rfl]
        refine ih (j + 1) v (by omega) (by omega) hv (fun i hi hij => ?_) ?_
        · by_cases q : i = j
          · subst q; rw [hb] at hi; cases hi
          · exact h1 i hi (by omega)
        · rcases h2 with z | ⟨i, z1, z2, z3⟩
          · exact Or.inl z
          · exact Or.inr ⟨i, z1, by omega, z3⟩
      · obtain ⟨u1, u2⟩ := hu j hb
        have ml := mt_lt (b := 2 ^ j) hR
        obtain ⟨d1, d2⟩ := ha.2 l j hl (by omega)
        rw [b2_t, if_neg (by decide), shl1 (by omega), lt_e, bnotw (by have := p2_lt (x := j) (by omega); omega), l16, mul_nn, add_nn, ald_n (by omega) (by decide), d1, l1, shr_nn (by decide) (by have : mt R (2 ^ j) < 65536 := ml; exact Nat.lt_trans this (by decide)), show (R &&& (4294967295 - 2 ^ j)) / 2 ^ 1 = mt R (2 ^ j) / 2 from rfl, costOf_e (by omega), cl_s, u1, add_nn, imn_nn (by omega) (by omega), lt_e, lt_e]
        refine ih (j + 1) (min v (D l j + u j)) (by omega) (by omega) (by omega) (fun i hi hij => ?_) ?_
        · by_cases q : i = j
          · subst q; exact Nat.min_le_right _ _
          · have := h1 i hi (by omega); omega
        · by_cases q : v ≤ D l j + u j
          · rw [Nat.min_eq_left q]
            rcases h2 with z | ⟨i, z1, z2, z3⟩
            · exact Or.inl z
            · exact Or.inr ⟨i, z1, by omega, z3⟩
          · rw [Nat.min_eq_right (by omega)]
            exact Or.inr ⟨j, hb, by omega, rfl⟩
def setH (k : Nat) : Nat := 2 * k + pc k 16 % 2
def metS (s S : Nat) : Prop := S = 0 ∨ ∀ l, isLow S l → (s - pc S 16) / 2 ≤ l
theorem pc_dbl {k b : Nat} (hb : b < 2) (hk : k < 32768) : pc (2 * k + b) 16 = pc k 16 + b := by
  have e := pc_add (x := b) (y := k) 1 (by omega) 15
  rw [show 2 * k + b = b + 2 ^ 1 * k by omega, e]
  have e2 : pc k 16 = pc k 15 := pc_stop (n := k) (k := 15) (by omega) 1
  have e3 : pc b 1 = b := by
    rcases Nat.eq_zero_or_pos b with z | z
    · subst z; decide
    · rw [show b = 1 by omega]; decide
  omega
theorem setH_pc {k : Nat} (hk : k < 32768) : pc (setH k) 16 % 2 = 0 ∧ setH k < 65536 := by
  unfold setH
  rw [pc_dbl (by omega) hk]
  omega
theorem setH_of {S : Nat} (hS : S < 65536) (hp : pc S 16 % 2 = 0) : setH (S / 2) = S := by
  unfold setH
  have := pc_dbl (k := S / 2) (b := S % 2) (by omega) (by omega)
  rw [show 2 * (S / 2) + S % 2 = S by omega] at this
  omega
theorem mt_low {S l j : Nat} (hS : S < 65536) (hl : isLow S l) (hj : S.testBit j = true) (hjl : j ≠ l) : rmv S l j (mt (S &&& (S - 1)) (2 ^ j)) := by
  intro b
  have lt : S &&& (S - 1) < 65536 := Nat.lt_of_le_of_lt Nat.and_le_left hS
  have j16 := tb16 hS hj
  rw [mt_tb lt (p2_lt j16), low_off hl, Nat.testBit_two_pow]
  by_cases q : b = j
  · subst q; simp
  · rw [decide_eq_false (show ¬ j = b from fun z => q z.symm), decide_eq_true q]; simp
theorem leastFor_e {S : Nat} {h : HP} (hN : 100 ≤ N) (hs : s ≤ 16) (hD : ∀ a b, D a b = D b a) (ha : apR D s h) (hS : S < 2 ^ s) (hp : pc S 16 % 2 = 0) (hm : metS s S) (hu : ∀ T, T < S → pc T 16 % 2 = 0 → metS s T → cvB D 15 T (nbA h (T / 2))) : ∃ v, xX9_leastFor N (nI S) h = some (nI v, h) ∧ v ≤ 15 ∧ cvB D 15 S v := by
  have s16 : 2 ^ s ≤ 2 ^ 16 := Nat.pow_le_pow_right (by decide) hs
  unfold xX9_leastFor
  by_cases q0 : S = 0
  · subst q0
    exact ⟨0, by rw [if_neg (show ¬ nI 0 ≠ 0 from fun z => z rfl)]; rfl, by omega, cvB.zero D 15⟩
  · obtain ⟨l, hls, hl⟩ := low_ex (n := s) hS q0
    have S16 : S < 65536 := by omega
    rw [if_pos (by rw [ne_eq, l0, eq_nn (by omega) (by decide)]; exact q0), lowest_e hl (by omega), cl_s, lt_e, lt_e, l1, sub_nn (by omega), and_nn, add_nn]
    have lt : S &&& (S - 1) < 65536 := Nat.lt_of_le_of_lt Nat.and_le_left S16
    have rb : ∀ j, (S &&& (S - 1)).testBit j = true ↔ (S.testBit j = true ∧ j ≠ l) := fun j => by rw [low_off hl, Bool.and_eq_true, decide_eq_true_iff]
    have ins : ∀ j, S.testBit j = true → j < s := fun j hj => by
      rcases Nat.lt_or_ge j s with q | q
      · exact q
      · rw [Nat.testBit_lt_two_pow (Nat.lt_of_lt_of_le hS (Nat.pow_le_pow_right (by decide) q))] at hj; cases hj
    have sub : ∀ j, S.testBit j = true → j ≠ l → cvB D 15 (mt (S &&& (S - 1)) (2 ^ j)) (nbA h (mt (S &&& (S - 1)) (2 ^ j) / 2)) := fun j hj hjl => by
      have rm := mt_low S16 hl hj hjl
      have j16 := tb16 S16 hj
      have p2 := pc_rmv (by omega) j16 (fun z => hjl z.symm) hl.1 hj rm
      have mlt : mt (S &&& (S - 1)) (2 ^ j) < S := by
        have a1 : mt (S &&& (S - 1)) (2 ^ j) ≤ S &&& (S - 1) := Nat.and_le_left
        have a2 : S &&& (S - 1) ≤ S - 1 := Nat.and_le_right
        omega
      apply hu _ mlt (by omega)
      by_cases z : mt (S &&& (S - 1)) (2 ^ j) = 0
      · exact Or.inl z
      · right
        intro l2 hl2
        obtain ⟨c1, c2, c3⟩ := rm.in hl2.1
        have : l < l2 := by
          rcases Nat.lt_or_ge l2 l with y | y
          · rw [hl.2 l2 y] at c1; cases c1
          · omega
        rcases hm with y | y
        · omega
        · have := y l hl; omega
    obtain ⟨v, v1, v2, v3, v4⟩ := least_l (N := N) (S := S) (l := l) (R := S &&& (S - 1)) (u := fun j => nbA h (mt (S &&& (S - 1)) (2 ^ j) / 2)) hs ha hls lt (fun j hj => ⟨rfl, by have := nib_lt (h.2 (mt (S &&& (S - 1)) (2 ^ j) / 2 / 16)) (mt (S &&& (S - 1)) (2 ^ j) / 2 % 16); show nbA h _ ≤ 15; unfold nbA; omega⟩) N (l + 1) 15 (by omega) (by omega) (by omega) (fun i hi hil => by
      obtain ⟨c1, c2⟩ := (rb i).mp hi
      rcases Nat.lt_or_ge i l with y | y
      · rw [hl.2 i y] at c1; cases c1
      · omega) (Or.inl rfl)
    refine ⟨v, v1, v2, cvB.step hD hl.1 (fun j => nbA h (mt (S &&& (S - 1)) (2 ^ j) / 2)) (fun j h1 h2 => ⟨_, mt_low S16 hl h1 h2, sub j h1 h2⟩) (fun j h1 h2 => v3 j ((rb j).mpr ⟨h1, h2⟩) (ins j h1)) v2 ?_⟩
    rcases v4 with z | ⟨i, z1, z2, z3⟩
    · exact Or.inl z
    · obtain ⟨c1, c2⟩ := (rb i).mp z1
      exact Or.inr ⟨i, c1, c2, z3⟩
theorem pairUp_l (hN : 100 ≤ N) (hs : s ≤ 16) (hs2 : 2 ≤ s) (hev : s % 2 = 0) (hD : ∀ a b, D a b = D b a) : ∀ n k h, k ≤ 2 ^ (s - 1) → 2 ^ (s - 1) - k < n → apR D s h → (∀ j, j < k → metS s (setH j) → cvB D 15 (setH j) (nbA h j)) → ∃ v h', xX9_pairUp_15 N n (nI (2 ^ (s - 1))) (nI k) h = some (nI v, h') ∧ h'.1 = h.1 ∧ cvB D 15 (2 ^ s - 1) v := by
  have s15 : 2 ^ (s - 1) ≤ 2 ^ 15 := Nat.pow_le_pow_right (by decide) (by omega)
  have spos : 2 ^ 1 ≤ 2 ^ (s - 1) := Nat.pow_le_pow_right (by decide) (by omega)
  have sdbl : 2 ^ s = 2 * 2 ^ (s - 1) := by rw [← Nat.pow_succ']; congr 1; omega
  have pone : pc (2 ^ (s - 1) - 1) 16 = s - 1 := by
    have := pc_top1s (n := s - 1) (by omega) (17 - s)
    rw [show s - 1 + (17 - s) = 16 by omega] at this
    exact this
  intro n
  induction n with
  | zero => intro k h _ q; omega
  | succ n ih =>
    intro k h hk hq ha hc
    rw [xX9_pairUp_15]
    dsimp only
    by_cases e : k = 2 ^ (s - 1)
    · rw [if_pos (by rw [e, le_nn (by omega) (by omega)]; omega), l1, sub_nn (by omega), costOf_e (by omega), cl_s]
      refine ⟨_, h, rfl, rfl, ?_⟩
      have e2 : setH (2 ^ (s - 1) - 1) = 2 ^ s - 1 := by unfold setH; rw [pone]; omega
      have := hc (2 ^ (s - 1) - 1) (by omega) (by
        right
        intro l hl
        have := pc_dbl (k := 2 ^ (s - 1) - 1) (b := 1) (by omega) (by omega)
        rw [e2, show 2 ^ s - 1 = 2 * (2 ^ (s - 1) - 1) + 1 by omega, this, pone]
        omega)
      rw [e2] at this
      exact this
    · have k15 : k < 32768 := by omega
      obtain ⟨sp, slt⟩ := setH_pc k15
      have pk := pc_le k 16
      have ps := pc_le (setH k) 16
      have es : (nI k <<< ((1 : Int32) &&& 31)) ||| (nI (pc k 16) &&& 1) = nI (setH k) := by
        rw [l1, shl_nn (by decide) (by omega), and_nn, show (1 : Nat) = 2 ^ 1 - 1 from rfl, Nat.and_two_pow_sub_one_eq_mod, or_nn, show k * 2 ^ (2 ^ 1 - 1) = 2 ^ 1 * k by omega, ← Nat.two_pow_add_eq_or_of_lt (i := 1) (Nat.mod_lt _ (by decide))]
        rfl
      have setlt : setH k < 2 ^ s := by unfold setH; omega
      have pcs : pc (setH k) 16 ≤ s := by
        have := pc_stop (n := setH k) (k := s) setlt (16 - s)
        rw [show s + (16 - s) = 16 by omega] at this
        have := pc_le (setH k) s
        omega
      rw [if_neg (by rw [le_nn (by omega) (by omega)]; omega), bitCount16 (by omega), cl_s, lt_e, es, bitCount16 slt, cl_s, lt_e, ha.1, sub_nn pcs]
      unfold xX9_pairUp_59 xX9_pairUp_64 xX9_pairUp_81
      rw [lt_e, nI_1, if_neg (show ¬ (1 : Int32) = 0 from by decide), if_pos (show (0 : Int32) = 0 from rfl)]
      -- the set is met
      have met : metS s (setH k) → ∃ v h', (cl (xX9_leastFor N (nI (setH k)) h) fun t1 h2 => cl (xX9_setCost (nI k) t1 h2) fun t3 h4 => lt (nI (k + 1)) fun v1 => xX9_pairUp_15 N n (nI (2 ^ (s - 1))) v1 h4) = some (nI v, h') ∧ h'.1 = h.1 ∧ cvB D 15 (2 ^ s - 1) v := by
        intro hm
        obtain ⟨v, v1, v2, v3⟩ := leastFor_e (N := N) (S := setH k) hN hs hD ha setlt sp hm (fun T hT hp2 hm2 => by
          have e := setH_of (S := T) (by omega) hp2
          have tk : T / 2 < k := by unfold setH at hT; rcases Nat.lt_or_ge (T / 2) k with z | z; exact z; exfalso; have : T / 2 = k := by omega
                                    rw [this] at e; unfold setH at e; omega
          have := hc (T / 2) tk (by rw [e]; exact hm2)
          rw [e] at this
          exact this)
        obtain ⟨h1, f1, f2, f3⟩ := setCost_e (k := k) (c := v) k15 (by omega) h
        rw [v1, cl_s, f1, cl_s, lt_e]
        obtain ⟨v', h', g1, g2, g3⟩ := ih (k + 1) h1 (by omega) (by omega) ⟨by rw [f2]; exact ha.1, fun i j hi hj => by rw [f2]; exact ha.2 i j hi hj⟩ (fun j hj hm2 => by
          rw [f3 j (by omega)]
          by_cases q : j = k
          · subst q; rw [if_pos rfl]; exact v3
          · rw [if_neg q]; exact hc j (by omega) hm2)
        exact ⟨v', h', g1, by rw [g2, f2], g3⟩
      by_cases q0 : setH k = 0
      · rw [if_pos (by rw [q0]; rfl)]
        exact met (Or.inl q0)
      · obtain ⟨l, hl16, hl⟩ := low_ex (n := 16) slt q0
        have l16' : 2 ^ l ≤ 2 ^ 15 := Nat.pow_le_pow_right (by decide) (by omega)
        have pp : 2 ^ ((s - pc (setH k) 16) / 2) ≤ 2 ^ 8 := Nat.pow_le_pow_right (by decide) (by omega)
        rw [if_neg (by rw [l0, eq_nn (by omega) (by decide)]; exact q0), neg_nn (by omega) (by omega), and_nn, low_and hl (by omega), l2, div_nn (by omega) (by decide) (by decide), shl1 (by omega)]
        by_cases q1 : (s - pc (setH k) 16) / 2 ≤ l
        · rw [if_neg (by
            rw [lt_nn (by omega) (by omega)]
            have := Nat.pow_le_pow_right (n := 2) (by decide) q1
            omega)]
          exact met (Or.inr (fun l2 hl2 => by rw [hl2.uniq hl]; exact q1))
        · rw [if_pos (by
            rw [lt_nn (by omega) (by omega)]
            exact Nat.pow_lt_pow_right (by decide) (by omega))]
          exact ih (k + 1) h (by omega) (by omega) ha (fun j hj hm2 => by
            by_cases q : j = k
            · subst q
              rcases hm2 with z | z
              · exact absurd z q0
              · exact absurd (z l hl) q1
            · exact hc j (by omega) hm2)
end PX6
