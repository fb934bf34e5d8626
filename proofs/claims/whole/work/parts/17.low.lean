/-! ===== the lowest bit ===== -/
def isLow (a k : Nat) : Prop := a.testBit k = true ∧ ∀ j, j < k → a.testBit j = false
theorem low_ex {a n : Nat} (ha : a < 2 ^ n) (h0 : a ≠ 0) : ∃ k, k < n ∧ isLow a k := by
  have h1 : ∃ k, a.testBit k = true := by
    apply Classical.byContradiction
    intro q
    apply h0
    apply Nat.eq_of_testBit_eq
    intro i
    rw [Nat.zero_testBit]
    cases hb : a.testBit i
    · rfl
    · exact absurd ⟨i, hb⟩ q
  obtain ⟨k, hk, hl⟩ := pk_least (fun k => a.testBit k = true) h1
  refine ⟨k, ?_, hk, fun j hj => by simpa using hl j hj⟩
  rcases Nat.lt_or_ge k n with q | q
  · exact q
  · have := Nat.testBit_lt_two_pow (Nat.lt_of_lt_of_le ha (Nat.pow_le_pow_right (by decide) q))
    rw [this] at hk
    cases hk
theorem isLow.uniq {a k m : Nat} (h1 : isLow a k) (h2 : isLow a m) : k = m := by
  rcases Nat.lt_trichotomy k m with q | q | q
  · have := h2.2 k q; rw [h1.1] at this; cases this
  · exact q
  · have := h1.2 m q; rw [h2.1] at this; cases this
theorem isLow.form {a k : Nat} (h : isLow a k) : ∃ m, a = 2 ^ k * (2 * m + 1) := by
  have h1 : a % 2 ^ k = 0 := by
    apply Nat.eq_of_testBit_eq
    intro i
    rw [Nat.testBit_mod_two_pow, Nat.zero_testBit]
    by_cases q : i < k
    · rw [h.2 i q, Bool.and_false]
    · simp [q]
  have h2 := (tb_iff _ _).mp h.1
  refine ⟨a / 2 ^ k / 2, ?_⟩
  have h3 : 2 * (a / 2 ^ k / 2) + 1 = a / 2 ^ k := by omega
  rw [h3, Nat.mul_comm]
  have := Nat.div_add_mod a (2 ^ k)
  rw [h1, Nat.mul_comm] at this
  omega
theorem low_and {a k : Nat} (h : isLow a k) (ha : a < 4294967296) : a &&& (4294967296 - a) = 2 ^ k := by
  obtain ⟨m, e⟩ := h.form
  have hp := Nat.two_pow_pos k
  have hk : k < 32 := by
    rcases Nat.lt_or_ge k 32 with q | q
    · exact q
    · have : 2 ^ 32 ≤ 2 ^ k := Nat.pow_le_pow_right (by decide) q
      have : 2 ^ k * 1 ≤ 2 ^ k * (2 * m + 1) := Nat.mul_le_mul_left _ (by omega)
      omega
  have h0 : 1 ≤ a := by
    have : 2 ^ k * 1 ≤ 2 ^ k * (2 * m + 1) := Nat.mul_le_mul_left _ (by omega)
    omega
  have ea : a - 1 = 2 ^ k * (2 * m) + (2 ^ k - 1) := by
    rw [e, Nat.mul_add, Nat.mul_one]
    omega
  have tb : ∀ i, (a - 1).testBit i = if i < k then true else if i = k then false else a.testBit i := by
    intro i
    rw [ea, Nat.two_pow_add_eq_or_of_lt (by omega), Nat.testBit_or, Nat.testBit_two_pow_mul, Nat.testBit_two_pow_sub_one]
    by_cases q : i < k
    · simp [q]
    · by_cases q2 : i = k
      · subst q2
        simp
      · rw [if_neg q, if_neg q2, e, Nat.testBit_two_pow_mul]
        have : i - k = (i - k - 1) + 1 := by omega
        rw [this, Nat.testBit_succ, Nat.testBit_succ, show 2 * m / 2 = m by omega, show (2 * m + 1) / 2 = m by omega, decide_eq_false q, Bool.or_false]
  apply Nat.eq_of_testBit_eq
  intro i
  rw [Nat.testBit_and, show 4294967296 - a = 2 ^ 32 - ((a - 1) + 1) by omega, Nat.testBit_two_pow_sub_succ (by omega), tb, Nat.testBit_two_pow]
  by_cases q : i < k
  · rw [h.2 i q, if_pos q]
    simp
    omega
  · by_cases q2 : i = k
    · subst q2
      simp [h.1, hk]
    · rw [if_neg q, if_neg q2]
      have : ¬ k = i := fun z => q2 z.symm
      cases a.testBit i <;> simp [this]
theorem pc_low : ∀ k, k < 24 → pc (2 ^ k - 1) 24 = k := by decide +kernel
theorem neg_nn {a : Nat} (h1 : 1 ≤ a) (h2 : a ≤ 4294967296) : -(nI a) = nI (4294967296 - a) := by
  have e : nI a + nI (4294967296 - a) = 0 := by
    rw [add_nn, show a + (4294967296 - a) = 4294967296 by omega]
    decide
  have e2 : -(nI a) = -(nI a) + (nI a + nI (4294967296 - a)) := by rw [e, Int32.add_zero]
  rw [e2, ← Int32.add_assoc, Int32.add_left_neg, Int32.zero_add]
theorem lowest_e {a k : Nat} (h : isLow a k) (ha : a < 16777216) (hh : HP) : xX10_lowest (nI a) hh = some (nI k, hh) := by
  obtain ⟨m, e⟩ := h.form
  have hp := Nat.two_pow_pos k
  have h0 : 2 ^ k * 1 ≤ 2 ^ k * (2 * m + 1) := Nat.mul_le_mul_left _ (by omega)
  have hk : k < 24 := by
    rcases Nat.lt_or_ge k 24 with q | q
    · exact q
    · have : 2 ^ 24 ≤ 2 ^ k := Nat.pow_le_pow_right (by decide) q
      omega
  unfold xX10_lowest
  rw [neg_nn (by omega) (by omega), and_nn, low_and h (by omega), l1, sub_nn hp, bitCount_e (by omega), cl_s, pc_low k hk]
