/-! ===== the next number of as many bits ===== -/
theorem pc_top1s {n : Nat} (h : n < 24) : ∀ m, pc (2 ^ n - 1) (n + m) = n := by
  intro m
  have h0 : 2 ^ n - 1 < 2 ^ n := by have := Nat.pow_pos (n := n) (show 0 < 2 by decide); omega
  rw [pc_stop h0]
  have := pc_low n h
  rw [show 24 = n + (24 - n) by omega, pc_stop h0] at this
  exact this
theorem pc_max {m e : Nat} (hm : m < 24) (h : e < 2 ^ m - 1) : pc e m < m := by
  have p0 := Nat.pow_pos (n := m) (show 0 < 2 by decide)
  have ho := pc_top1s hm 0
  rw [Nat.add_zero] at ho
  have ones : ∀ i, i < m → (2 ^ m - 1).testBit i = true := fun i hi => by rw [Nat.testBit_two_pow_sub_one]; simp [hi]
  have q := pc_sub (a := e) (b := 2 ^ m - 1) m (fun i hi _ => ones i hi)
  rw [ho] at q
  rcases Nat.lt_or_ge (pc e m) m with z | z
  · exact z
  · have z2 : pc e m = m := by omega
    have : e = 2 ^ m - 1 := by
      apply Nat.eq_of_testBit_eq
      intro i
      by_cases hi : i < m
      · exact q.2 z2 i hi
      · rw [Nat.testBit_lt_two_pow (Nat.lt_of_lt_of_le (show e < 2 ^ m by omega) (Nat.pow_le_pow_right (by decide) (by omega))), Nat.testBit_two_pow_sub_one]
        simp [hi]
    omega
theorem xor_hi {n a u v : Nat} (hu : u < 2 ^ n) (hv : v < 2 ^ n) : (2 ^ n * a + u) ^^^ (2 ^ n * a + v) = u ^^^ v := by
  apply Nat.eq_of_testBit_eq
  intro i
  rw [Nat.testBit_xor, Nat.testBit_xor, Nat.testBit_two_pow_mul_add _ hu, Nat.testBit_two_pow_mul_add _ hv]
  by_cases q : i < n
  · rw [if_pos q, if_pos q]
  · have hp : 2 ^ n ≤ 2 ^ i := Nat.pow_le_pow_right (by decide) (by omega)
    rw [if_neg q, if_neg q, Nat.testBit_lt_two_pow (show u < 2 ^ i by omega), Nat.testBit_lt_two_pow (show v < 2 ^ i by omega)]
    simp
theorem xor_top {t u : Nat} (hu : u < 2 ^ t) : u ^^^ 2 ^ t = 2 ^ t + u := by
  apply Nat.eq_of_testBit_eq
  intro i
  have e : 2 ^ t + u = 2 ^ t * 1 + u := by omega
  rw [e, Nat.testBit_xor, Nat.testBit_two_pow_mul_add _ hu, Nat.testBit_two_pow]
  by_cases q : i < t
  · rw [if_pos q, decide_eq_false (show ¬ t = i by omega)]
    simp
  · have hp : 2 ^ t ≤ 2 ^ i := Nat.pow_le_pow_right (by decide) (by omega)
    rw [if_neg q, Nat.testBit_lt_two_pow (show u < 2 ^ i by omega)]
    by_cases q2 : t = i
    · subst q2; simp
    · rw [decide_eq_false q2, Nat.testBit_lt_two_pow (Nat.lt_of_lt_of_le (show 1 < 2 ^ 1 by decide) (Nat.pow_le_pow_right (by decide) (show 1 ≤ i - t by omega)))]
      rfl
/-- a number, its lowest bit, and the lowest bit of the sum of both -/
def gos (x j t h : Nat) : Prop := j < t ∧ t < 17 ∧ x + 2 ^ j = 2 ^ t * (2 * h + 1)
theorem gos_ex {x : Nat} (hx : x < 65536) (h0 : x ≠ 0) : ∃ j t h, j < 16 ∧ isLow x j ∧ gos x j t h := by
  obtain ⟨j, hj, hl⟩ := low_ex (n := 16) hx h0
  have hj2 : 2 ^ j ≤ 2 ^ 15 := Nat.pow_le_pow_right (by decide) (by omega)
  obtain ⟨t, ht, hlt⟩ := low_ex (n := 17) (a := x + 2 ^ j) (by omega) (by have := Nat.pow_pos (n := j) (show 0 < 2 by decide); omega)
  obtain ⟨m, e1⟩ := hl.form
  obtain ⟨h, e2⟩ := hlt.form
  refine ⟨j, t, h, hj, hl, ?_, ht, e2⟩
  rcases Nat.lt_or_ge j t with q | q
  · exact q
  · exfalso
    have p : 2 ^ j = 2 ^ t * 2 ^ (j - t) := by rw [← Nat.pow_add]; congr 1; omega
    have e3 : 2 ^ t * (2 ^ (j - t) * (2 * m + 2)) = 2 ^ t * (2 * h + 1) := by
      rw [← e2, e1, ← Nat.mul_assoc, ← p]
      rw [show 2 * m + 2 = (2 * m + 1) + 1 by omega, Nat.mul_add, Nat.mul_one]
    have e4 := Nat.eq_of_mul_eq_mul_left (Nat.pow_pos (by decide)) e3
    have e5 : 2 ^ (j - t) * (2 * m + 2) = 2 * (2 ^ (j - t) * (m + 1)) := by
      rw [show 2 * m + 2 = 2 * (m + 1) by omega, Nat.mul_left_comm]
    omega
def nxG (x j t : Nat) : Nat := x + 2 ^ j + (2 ^ (t - j - 1) - 1)
theorem gos_pow {j t : Nat} (h : j < t) : 2 ^ t = 2 ^ j * 2 ^ (t - j) ∧ 2 ^ (t - j) = 2 * 2 ^ (t - j - 1) ∧ 2 ^ j ≤ 2 ^ t ∧ 1 ≤ 2 ^ j ∧ 1 ≤ 2 ^ (t - j - 1) ∧ 2 ^ (t - j - 1) ≤ 2 ^ t := by
  refine ⟨?_, ?_, Nat.pow_le_pow_right (by decide) (by omega), Nat.pow_pos (by decide), Nat.pow_pos (by decide), Nat.pow_le_pow_right (by decide) (by omega)⟩
  · rw [← Nat.pow_add]; congr 1; omega
  · rw [← Nat.pow_succ']; congr 1; omega
theorem next_e {x j t h : Nat} (hx : x < 65536) (hl : isLow x j) (hj : j < 16) (g : gos x j t h) (hh : HP) : xX3_nextOfAsMany (nI x) hh = some (nI (nxG x j t), hh) := by
  obtain ⟨g1, g2, g3⟩ := g
  obtain ⟨p1, p2, p3, p4, p5, p6⟩ := gos_pow g1
  have ht2 : 2 ^ t ≤ 2 ^ 16 := Nat.pow_le_pow_right (by decide) (by omega)
  have hj2 : 2 ^ j ≤ 2 ^ 15 := Nat.pow_le_pow_right (by decide) (by omega)
  have x1 : 1 ≤ x := by
    rcases Nat.eq_zero_or_pos x with z | z
    · subst z; have := hl.1; simp at this
    · exact z
  unfold xX3_nextOfAsMany xX3_nextOfAsMany_27
  rw [neg_nn x1 (by omega), and_nn, low_and hl (by omega), lt_e, lt_e, add_nn, if_pos (by rw [ne_eq, l0, eq_nn (by omega) (by decide)]; omega), xor_nn]
  have ex : x = 2 ^ (t + 1) * h + (2 ^ t - 2 ^ j) := by
    have : 2 ^ t * (2 * h + 1) = 2 ^ (t + 1) * h + 2 ^ t := by rw [Nat.pow_succ, Nat.mul_add, Nat.mul_one, Nat.mul_assoc]
    omega
  have ec : x + 2 ^ j = 2 ^ (t + 1) * h + 2 ^ t := by omega
  have s1 : 2 ^ t < 2 ^ (t + 1) := by rw [Nat.pow_succ]; omega
  have exo : x ^^^ (x + 2 ^ j) = 2 ^ j * (2 ^ (t - j + 1) - 1) := by
    rw [ec]
    conv => lhs; lhs; rw [ex]
    rw [xor_hi (by omega) s1, xor_top (by omega), Nat.mul_sub, Nat.pow_succ, ← Nat.mul_assoc, ← p1]
    omega
  rw [exo]
  unfold dvd
  have hb : 2 ^ j * (2 ^ (t - j + 1) - 1) < 2147483648 := by
    rw [Nat.mul_sub, Nat.pow_succ, ← Nat.mul_assoc, ← p1]; omega
  rw [if_neg (by rw [l0, eq_nn (by omega) (by decide)]; omega), div_nn hb (by omega) (by omega), Nat.mul_div_cancel_left _ (by omega)]
  have hq : 2 ^ (t - j + 1) ≤ 2 ^ 17 := Nat.pow_le_pow_right (by decide) (by omega)
  dsimp only
  rw [l2, shr_nn (by decide) (by omega), or_nn]
  have e4 : (2 ^ (t - j + 1) - 1) / 2 ^ 2 = 2 ^ (t - j - 1) - 1 := by
    rw [Nat.pow_succ, p2]; omega
  have e5 : (x + 2 ^ j) ||| (2 ^ (t - j - 1) - 1) = x + 2 ^ j + (2 ^ (t - j - 1) - 1) := by
    rw [g3]
    exact (Nat.two_pow_add_eq_or_of_lt (i := t) (b := 2 ^ (t - j - 1) - 1) (by omega) _).symm
  rw [e4, e5]
  rfl
theorem pc20 {z : Nat} (hz : z < 65536) : pc z 20 = pc z 16 := pc_stop (k := 16) hz 4
theorem pc_hi {t h r : Nat} (ht : t < 17) (hr : r < 2 ^ (t + 1)) : pc (2 ^ (t + 1) * h + r) 20 = pc r (t + 1) + pc h (19 - t) := by
  have := pc_add (x := r) (y := h) (t + 1) hr (19 - t)
  rw [show t + 1 + (19 - t) = 20 by omega] at this
  rw [Nat.add_comm, this]
theorem pc_mid {j t e : Nat} (hj : j < t) (ht : t < 17) (he : e < 2 ^ j) : pc (2 ^ t - 2 ^ j + e) (t + 1) = pc e j + (t - j) := by
  obtain ⟨p1, p2, p3, p4, p5, p6⟩ := gos_pow hj
  have := pc_add (x := e) (y := 2 ^ (t - j) - 1) j he (t - j + 1)
  rw [pc_top1s (by omega)] at this
  rw [show t + 1 = j + (t - j + 1) by omega, ← this]
  congr 1
  rw [Nat.mul_sub, ← p1]
  omega
theorem pc_top1 {t e : Nat} (he : e < 2 ^ t) : pc (2 ^ t + e) (t + 1) = pc e t + 1 := by
  have := pc_add (x := e) (y := 1) t he 1
  rw [Nat.mul_one, show pc 1 1 = 1 from by decide] at this
  rw [Nat.add_comm (2 ^ t), this]
theorem gos_pc {x j t h : Nat} (hx : x < 65536) (g : gos x j t h) : x < nxG x j t ∧ (nxG x j t < 65536 → pc (nxG x j t) 16 = pc x 16) ∧ ∀ z, x < z → z < nxG x j t → z < 65536 → pc z 16 ≠ pc x 16 := by
  obtain ⟨g1, g2, g3⟩ := g
  obtain ⟨p1, p2, p3, p4, p5, p6⟩ := gos_pow g1
  have ec : 2 ^ t * (2 * h + 1) = 2 ^ (t + 1) * h + 2 ^ t := by rw [Nat.pow_succ, Nat.mul_add, Nat.mul_one, Nat.mul_assoc]
  have s1 : 2 ^ (t + 1) = 2 ^ t * 2 := Nat.pow_succ 2 t
  have ex : x = 2 ^ (t + 1) * h + (2 ^ t - 2 ^ j + 0) := by omega
  have px : pc x 16 = (t - j) + pc h (19 - t) := by
    rw [← pc20 hx, ex, pc_hi g2 (by omega), pc_mid g1 g2 (by omega)]
    have : pc 0 j = 0 := pc_zero j
    omega
  have small : ∀ e, e < 2 ^ (t - j - 1) → pc e t = pc e (t - j - 1) := fun e he => by
    have := pc_stop he (j + 1)
    rw [show t - j - 1 + (j + 1) = t by omega] at this
    exact this
  refine ⟨by unfold nxG; omega, fun hn => ?_, fun z h1 h2 h3 => ?_⟩
  · rw [← pc20 hn, px]
    have e : nxG x j t = 2 ^ (t + 1) * h + (2 ^ t + (2 ^ (t - j - 1) - 1)) := by unfold nxG; omega
    rw [e, pc_hi g2 (by omega), pc_top1 (by omega), small _ (by omega)]
    have := pc_top1s (n := t - j - 1) (by omega) 0
    rw [Nat.add_zero] at this
    rw [this]
    omega
  · rw [← pc20 h3, px]
    unfold nxG at h2
    rcases Nat.lt_or_ge z (x + 2 ^ j) with q | q
    · obtain ⟨e, he⟩ : ∃ e, z = x + e := ⟨z - x, by omega⟩
      have : z = 2 ^ (t + 1) * h + (2 ^ t - 2 ^ j + e) := by omega
      rw [this, pc_hi g2 (by omega), pc_mid g1 g2 (by omega)]
      have := pc_pos (n := e) (k := j) (by omega) (by omega)
      omega
    · obtain ⟨e, he⟩ : ∃ e, z = x + 2 ^ j + e := ⟨z - (x + 2 ^ j), by omega⟩
      have : z = 2 ^ (t + 1) * h + (2 ^ t + e) := by omega
      rw [this, pc_hi g2 (by omega), pc_top1 (by omega), small _ (by omega)]
      have := pc_max (m := t - j - 1) (e := e) (by omega) (by omega)
      omega
