/-! ===== how many bits; the lowest; Integer.bitCount ===== -/
def pc (n : Nat) : Nat → Nat
  | 0 => 0
  | k + 1 => pc n k + n / 2 ^ k % 2
theorem pc_le (n : Nat) : ∀ k, pc n k ≤ k := by
  intro k
  induction k with
  | zero => simp [pc]
  | succ k ih => simp only [pc]; have := Nat.mod_lt (n / 2 ^ k) (by decide : 0 < 2); omega
theorem and_split {k x y p q : Nat} (hx : x < 2 ^ k) (hp : p < 2 ^ k) : (x + 2 ^ k * y) &&& (p + 2 ^ k * q) = (x &&& p) + 2 ^ k * (y &&& q) := by
  have e : ∀ a b : Nat, a < 2 ^ k → a + 2 ^ k * b = 2 ^ k * b ||| a := fun a b h => by
    rw [Nat.add_comm]
    exact Nat.two_pow_add_eq_or_of_lt h b
  have hxp : x &&& p < 2 ^ k := Nat.lt_of_le_of_lt Nat.and_le_left hx
  rw [e x y hx, e p q hp, e _ _ hxp]
  apply Nat.eq_of_testBit_eq
  intro i
  simp only [Nat.testBit_and, Nat.testBit_or, Nat.testBit_two_pow_mul]
  by_cases hi : k ≤ i
  · have f1 : x.testBit i = false := Nat.testBit_lt_two_pow (Nat.lt_of_lt_of_le hx (Nat.pow_le_pow_right (by decide) hi))
    have f2 : p.testBit i = false := Nat.testBit_lt_two_pow (Nat.lt_of_lt_of_le hp (Nat.pow_le_pow_right (by decide) hi))
    simp [hi, f1, f2]
  · simp [hi]
def sw2 (a : Nat) : Nat := ((a - ((a / 2) &&& 1431655765)) &&& 858993459) + (((a - ((a / 2) &&& 1431655765)) / 4) &&& 858993459)
def sw5 (b : Nat) : Nat := let v3 := (b + b / 16) &&& 252645135; let v4 := v3 + v3 / 256; (v4 + v4 / 65536) &&& 63
theorem sw2_sm0 : ∀ i, i < 64 → ∀ j, j < 64 → (((64 * i + j) / 2) &&& 1365 ≤ (64 * i + j)) ∧ sw2 (64 * i + j) = (((64 * i + j) - (((64 * i + j) / 2) &&& 1365)) &&& 819) + ((((64 * i + j) - (((64 * i + j) / 2) &&& 1365)) / 4) &&& 819) ∧ sw2 (64 * i + j) < 4096 ∧ pc (64 * i + j) 12 = sw2 (64 * i + j) % 16 + sw2 (64 * i + j) / 16 % 16 + sw2 (64 * i + j) / 256 ∧ sw2 (64 * i + j) % 16 ≤ 4 ∧ sw2 (64 * i + j) / 16 % 16 ≤ 4 ∧ sw2 (64 * i + j) / 256 ≤ 4 ∧ (64 * i + j) - (((64 * i + j) / 2) &&& 1365) < 4096 := by decide +kernel
theorem sw2_small (x : Nat) (hx : x < 4096) : ((x / 2) &&& 1365 ≤ x) ∧ sw2 x = ((x - ((x / 2) &&& 1365)) &&& 819) + (((x - ((x / 2) &&& 1365)) / 4) &&& 819) ∧ sw2 x < 4096 ∧ pc x 12 = sw2 x % 16 + sw2 x / 16 % 16 + sw2 x / 256 ∧ sw2 x % 16 ≤ 4 ∧ sw2 x / 16 % 16 ≤ 4 ∧ sw2 x / 256 ≤ 4 ∧ x - ((x / 2) &&& 1365) < 4096 := by
  have h := sw2_sm0 (x / 64) (by omega) (x % 64) (by omega)
  rw [show 64 * (x / 64) + x % 64 = x by omega] at h
  exact h
theorem sw5_small : ∀ a, a < 5 → ∀ b, b < 5 → ∀ c, c < 5 → ∀ d, d < 5 → ∀ e, e < 5 → ∀ f, f < 5 → sw5 (a + 16 * b + 256 * c + 4096 * d + 65536 * e + 1048576 * f) = a + b + c + d + e + f := by decide +kernel
theorem pc_add {x y : Nat} (k : Nat) (hx : x < 2 ^ k) : ∀ m, pc (x + 2 ^ k * y) (k + m) = pc x k + pc y m := by
  intro m
  induction m with
  | zero =>
    have : ∀ j, j ≤ k → pc (x + 2 ^ k * y) j = pc x j := by
      intro j
      induction j with
      | zero => intro _; rfl
      | succ j ih =>
        intro hj
        simp only [pc]
        rw [ih (by omega)]
        congr 1
        have e : 2 ^ k = 2 ^ j * (2 * 2 ^ (k - j - 1)) := by
          rw [← Nat.mul_assoc, ← Nat.pow_succ, ← Nat.pow_add]
          congr 1
          omega
        rw [e, Nat.mul_assoc, Nat.add_mul_div_left _ _ (Nat.two_pow_pos j), Nat.mul_assoc, Nat.add_mul_mod_self_left]
    simpa [pc] using this k (Nat.le_refl k)
  | succ m ih =>
    rw [← Nat.add_assoc]
    simp only [pc]
    rw [ih, Nat.pow_add, ← Nat.div_div_eq_div_mul, Nat.add_mul_div_left _ _ (Nat.two_pow_pos k), Nat.div_eq_of_lt hx, Nat.zero_add]
    omega
theorem sw_e {a : Nat} (ha : a < 16777216) : sw5 (sw2 a) = pc a 24 ∧ ((a / 2) &&& 1431655765 ≤ a) := by
  obtain ⟨x, y, hx, hy, e⟩ : ∃ x y, x < 4096 ∧ y < 4096 ∧ a = x + 2 ^ 12 * y := ⟨a % 4096, a / 4096, by omega, by omega, by omega⟩
  obtain ⟨x1, x2, x3, x4, x5, x6, x7, x8⟩ := sw2_small x hx
  obtain ⟨y1, y2, y3, y4, y5, y6, y7, y8⟩ := sw2_small y hy
  have h1 : ∀ b, b < 16777216 → b &&& 1431655765 = b &&& (1365 + 2 ^ 12 * 1365) := fun b hb => by
    apply Nat.eq_of_testBit_eq
    intro i
    simp only [Nat.testBit_and]
    by_cases hi : i < 24
    · have : ∀ i, i < 24 → Nat.testBit 1431655765 i = Nat.testBit (1365 + 2 ^ 12 * 1365) i := by decide
      rw [this i hi]
    · have : b.testBit i = false := Nat.testBit_lt_two_pow (Nat.lt_of_lt_of_le hb (show 2 ^ 24 ≤ 2 ^ i from Nat.pow_le_pow_right (n := 2) (by decide) (show 24 ≤ i by omega)))
      simp [this]
  have h2 : ∀ b, b < 16777216 → b &&& 858993459 = b &&& (819 + 2 ^ 12 * 819) := fun b hb => by
    apply Nat.eq_of_testBit_eq
    intro i
    simp only [Nat.testBit_and]
    by_cases hi : i < 24
    · have : ∀ i, i < 24 → Nat.testBit 858993459 i = Nat.testBit (819 + 2 ^ 12 * 819) i := by decide
      rw [this i hi]
    · have : b.testBit i = false := Nat.testBit_lt_two_pow (Nat.lt_of_lt_of_le hb (show 2 ^ 24 ≤ 2 ^ i from Nat.pow_le_pow_right (n := 2) (by decide) (show 24 ≤ i by omega)))
      simp [this]
  have d1 : a / 2 = (x / 2 + 2 ^ 11 * (y % 2)) + 2 ^ 12 * (y / 2) := by omega
  have m1 : (x / 2 + 2 ^ 11 * (y % 2)) &&& 1365 = (x / 2) &&& 1365 := by
    have := and_split (k := 11) (x := x / 2) (y := y % 2) (p := 1365) (q := 0) (by omega) (by decide)
    simpa using this
  have q1 : (a / 2) &&& 1431655765 = ((x / 2) &&& 1365) + 2 ^ 12 * ((y / 2) &&& 1365) := by
    rw [h1 _ (by omega), d1, and_split (by omega) (by decide), m1]
  have v1 : a - ((a / 2) &&& 1431655765) = (x - ((x / 2) &&& 1365)) + 2 ^ 12 * (y - ((y / 2) &&& 1365)) := by rw [q1]; omega
  generalize hX : x - ((x / 2) &&& 1365) = X at *
  generalize hY : y - ((y / 2) &&& 1365) = Y at *
  have d4 : (X + 2 ^ 12 * Y) / 4 = (X / 4 + 2 ^ 10 * (Y % 4)) + 2 ^ 12 * (Y / 4) := by omega
  have m4 : (X / 4 + 2 ^ 10 * (Y % 4)) &&& 819 = (X / 4) &&& 819 := by
    have := and_split (k := 10) (x := X / 4) (y := Y % 4) (p := 819) (q := 0) (by omega) (by decide)
    simpa using this
  have v2 : sw2 a = sw2 x + 4096 * sw2 y := by
    rw [x2, y2]
    unfold sw2
    rw [v1, h2 _ (by omega), h2 _ (by omega), d4, and_split (by omega) (by decide), and_split (by omega) (by decide), m4]
    omega
  refine ⟨?_, by rw [q1]; omega⟩
  have e5 := sw5_small (sw2 x % 16) (by omega) (sw2 x / 16 % 16) (by omega) (sw2 x / 256) (by omega) (sw2 y % 16) (by omega) (sw2 y / 16 % 16) (by omega) (sw2 y / 256) (by omega)
  rw [show sw2 x % 16 + 16 * (sw2 x / 16 % 16) + 256 * (sw2 x / 256) + 4096 * (sw2 y % 16) + 65536 * (sw2 y / 16 % 16) + 1048576 * (sw2 y / 256) = sw2 x + 4096 * sw2 y by omega, ← v2] at e5
  rw [e5, e, show (24 : Nat) = 12 + 12 from rfl, pc_add 12 hx, x4, y4]
  omega
theorem bitCount_e {a : Nat} (ha : a < 16777216) (h : HP) : xJ6_bitCount_0f7a4 (nI a) h = some (nI (pc a 24), h) := by
  obtain ⟨e1, e2⟩ := sw_e ha
  unfold xJ6_bitCount_0f7a4
  simp only [lt_e]
  have b1 : a - ((a / 2) &&& 1431655765) < 16777216 := by omega
  have u1 : ∀ {n : Nat}, n < 4294967296 → ushr (nI n) 1 = nI (n / 2) := fun h => by rw [l1, ushr_nn (by decide) h]
  have u2 : ∀ {n : Nat}, n < 4294967296 → ushr (nI n) 2 = nI (n / 4) := fun h => by rw [l2, ushr_nn (by decide) h]
  have u4 : ∀ {n : Nat}, n < 4294967296 → ushr (nI n) 4 = nI (n / 16) := fun h => by rw [l4, ushr_nn (by decide) h]
  have u8 : ∀ {n : Nat}, n < 4294967296 → ushr (nI n) 8 = nI (n / 256) := fun h => by rw [l8, ushr_nn (by decide) h]
  have u16 : ∀ {n : Nat}, n < 4294967296 → ushr (nI n) 16 = nI (n / 65536) := fun h => by rw [l16, ushr_nn (by decide) h]
  rw [show (1431655765 : Int32) = nI 1431655765 from rfl, show (858993459 : Int32) = nI 858993459 from rfl, show (252645135 : Int32) = nI 252645135 from rfl, show (63 : Int32) = nI 63 from rfl]
  rw [u1 (by omega), and_nn, sub_nn e2, u2 (by omega), and_nn, and_nn, add_nn]
  rw [show ((a - ((a / 2) &&& 1431655765)) &&& 858993459) + (((a - ((a / 2) &&& 1431655765)) / 4) &&& 858993459) = sw2 a from rfl]
  have b2 : sw2 a < 33554432 := by
    unfold sw2
    have i1 := Nat.and_le_left (n := a - ((a / 2) &&& 1431655765)) (m := 858993459)
    have i2 := Nat.and_le_left (n := (a - ((a / 2) &&& 1431655765)) / 4) (m := 858993459)
    omega
  have b3 : (sw2 a + sw2 a / 16) &&& 252645135 ≤ 252645135 := Nat.and_le_right
  rw [u4 (by omega), add_nn, and_nn, u8 (by omega), add_nn, u16 (by omega), add_nn, and_nn]
  rw [← e1]
  rfl
theorem pc_stop {n k : Nat} (hn : n < 2 ^ k) : ∀ m, pc n (k + m) = pc n k := by
  intro m
  induction m with
  | zero => rfl
  | succ m ih =>
    rw [← Nat.add_assoc]
    simp only [pc]
    rw [ih, Nat.div_eq_of_lt (Nat.lt_of_lt_of_le hn (Nat.pow_le_pow_right (by decide) (by omega))), Nat.zero_mod, Nat.add_zero]
theorem bitCount16 {a : Nat} (ha : a < 65536) (h : HP) : xJ6_bitCount_0f7a4 (nI a) h = some (nI (pc a 16), h) := by
  rw [bitCount_e (by omega), show (24 : Nat) = 16 + 8 from rfl, pc_stop (k := 16) ha]
theorem bits_l {N a : Nat} (ha : a < 2147483648) (h : HP) : ∀ n i, i ≤ 16 → 16 - i < n → xX11_bits_4 N n (nI a) (nI (pc a i)) (nI i) h = some (nI (pc a 16), h) := by
  intro n
  induction n with
  | zero => intro i _ q; omega
  | succ n ih =>
    intro i hi hq
    rw [xX11_bits_4]
    dsimp only
    by_cases e : i = 16
    · subst e
      rw [if_pos (by decide)]
    · rw [if_neg (by rw [l16, le_nn (by decide) (by omega)]; omega), lt_e, lt_e, bit_nn (by omega) ha, add_nn, nI_1]
      exact ih (i + 1) (by omega) (by omega)
theorem bits_e {N a : Nat} (hN : 100 ≤ N) (ha : a < 2147483648) (h : HP) : xX11_bits N (nI a) h = some (nI (pc a 16), h) := by
  unfold xX11_bits
  exact bits_l (N := N) ha h N 0 (by omega) (by omega)
