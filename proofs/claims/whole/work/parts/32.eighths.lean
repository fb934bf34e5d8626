/-! ===== byEighths: the sums over all turns of the keys ===== -/
def sumT (f : Nat → Nat) : Nat → Nat
  | 0 => 0
  | k + 1 => sumT f k + f k
def minT (f : Nat → Nat) : Nat → Nat
  | 0 => 1000000
  | k + 1 => min (minT f k) (f k)
theorem sumT_congr {f g : Nat → Nat} : ∀ k, (∀ c, c < k → f c = g c) → sumT f k = sumT g k := by
  intro k
  induction k with
  | zero => intro _; rfl
  | succ k ih => intro h; simp only [sumT]; rw [ih (fun c hc => h c (by omega)), h k (by omega)]
theorem sumT_add (f : Nat → Nat) (a : Nat) : ∀ b, sumT f (a + b) = sumT f a + sumT (fun c => f (a + c)) b := by
  intro b
  induction b with
  | zero => rfl
  | succ b ih => rw [← Nat.add_assoc]; simp only [sumT]; rw [ih]; omega
theorem sumT_mul (f : Nat → Nat) (b : Nat) : ∀ a, sumT f (a * b) = sumT (fun t => sumT (fun c => f (t * b + c)) b) a := by
  intro a
  induction a with
  | zero => rw [Nat.zero_mul]; rfl
  | succ a ih => rw [Nat.succ_mul, sumT_add, ih]; rfl
theorem sumT_0 {f : Nat → Nat} (a : Nat) : ∀ k, (∀ c, a ≤ c → c < k → f c = 0) → a ≤ k → sumT f k = sumT f a := by
  intro k
  induction k with
  | zero => intro _ h; rw [show a = 0 by omega]
  | succ k ih =>
    intro h hk
    by_cases e : a = k + 1
    · rw [e]
    · simp only [sumT]
      rw [h k (by omega) (by omega), Nat.add_zero]
      exact ih (fun c h1 h2 => h c h1 (by omega)) (by omega)
theorem sumT_le {f : Nat → Nat} {B : Nat} : ∀ k, (∀ c, c < k → f c ≤ B) → sumT f k ≤ k * B := by
  intro k
  induction k with
  | zero => intro _; simp [sumT]
  | succ k ih =>
    intro h
    simp only [sumT]
    rw [Nat.succ_mul]
    have := ih (fun c hc => h c (by omega))
    have := h k (by omega)
    omega
theorem minT_le (f : Nat → Nat) : ∀ k, minT f k ≤ 1000000 := by
  intro k
  induction k with
  | zero => exact Nat.le_refl _
  | succ k ih => simp only [minT]; omega
theorem minT_congr {f g : Nat → Nat} : ∀ k, (∀ c, c < k → min 1000000 (f c) = min 1000000 (g c)) → minT f k = minT g k := by
  intro k
  induction k with
  | zero => intro _; rfl
  | succ k ih =>
    intro h
    simp only [minT]
    rw [ih (fun c hc => h c (by omega))]
    have := h k (by omega)
    have := minT_le g k
    omega
theorem minT_add (f : Nat → Nat) (a : Nat) : ∀ b, minT f (a + b) = min (minT f a) (minT (fun c => f (a + c)) b) := by
  intro b
  induction b with
  | zero => have := minT_le f a; simp only [minT, Nat.add_zero]; omega
  | succ b ih => rw [← Nat.add_assoc]; simp only [minT]; rw [ih]; omega
theorem minT_mul (f : Nat → Nat) (b : Nat) : ∀ a, minT f (a * b) = minT (fun t => minT (fun c => f (t * b + c)) b) a := by
  intro a
  induction a with
  | zero => rw [Nat.zero_mul]; rfl
  | succ a ih => rw [Nat.succ_mul, minT_add, ih]; rfl
theorem minT_plus (f : Nat → Nat) (t : Nat) : ∀ k, minT (fun c => f c + t) k = min 1000000 (minT f k + t) := by
  intro k
  induction k with
  | zero => simp only [minT]; omega
  | succ k ih => simp only [minT]; rw [ih]; omega
theorem minT_0 {f : Nat → Nat} (a : Nat) : ∀ k, (∀ c, a ≤ c → c < k → 1000000 ≤ f c) → a ≤ k → minT f k = minT f a := by
  intro k
  induction k with
  | zero => intro _ h; rw [show a = 0 by omega]
  | succ k ih =>
    intro h hk
    by_cases e : a = k + 1
    · rw [e]
    · simp only [minT]
      have h1 := h k (by omega) (by omega)
      have h2 := ih (fun c h1 h2 => h c h1 (by omega)) (by omega)
      have h3 := minT_le f k
      omega
def joT (f g : Nat) (B : Nat) : Prop := (f = 0 ∧ 1000000 ≤ g) ∨ (0 < f ∧ g ≤ B)
theorem jo_T {f g : Nat → Nat} {B : Nat} : ∀ k, (∀ c, c < k → joT (f c) (g c) B) → joT (sumT f k) (minT g k) B := by
  intro k
  induction k with
  | zero => intro _; left; exact ⟨rfl, Nat.le_refl _⟩
  | succ k ih =>
    intro h
    have h1 := ih (fun c hc => h c (by omega))
    have h2 := h k (by omega)
    unfold joT at *
    simp only [sumT, minT]
    omega
def gvn (b : Nat → Nat) (m : Nat) : Nat → Nat → Nat
  | 0, _ => 0
  | k + 1, ch => gvn b m k ch + (ch / 9 ^ k % 9) * b (m + k)
def tnn : Nat → Nat → Nat
  | 0, _ => 0
  | k + 1, ch => tnn k ch + ch / 9 ^ k % 9
theorem dig_lo {k i t c : Nat} (h : i < k) : (t * 9 ^ k + c) / 9 ^ i % 9 = c / 9 ^ i % 9 := by
  obtain ⟨j, rfl⟩ : ∃ j, k = i + 1 + j := ⟨k - i - 1, by omega⟩
  have e : t * 9 ^ (i + 1 + j) + c = c + 9 ^ i * (9 * (t * 9 ^ j)) := by
    rw [Nat.pow_add, Nat.pow_succ]
    rw [show t * (9 ^ i * 9 * 9 ^ j) = 9 ^ i * (9 * (t * 9 ^ j)) by
      simp only [Nat.mul_assoc, Nat.mul_comm, Nat.mul_left_comm]]
    omega
  rw [e, Nat.add_mul_div_left _ _ (Nat.pow_pos (by decide)), Nat.add_mul_mod_self_left]
theorem dig_hi {k t c : Nat} (ht : t < 9) (hc : c < 9 ^ k) : (t * 9 ^ k + c) / 9 ^ k % 9 = t := by
  rw [Nat.add_comm, Nat.mul_comm, Nat.add_mul_div_left _ _ (Nat.pow_pos (by decide)), Nat.div_eq_of_lt hc, Nat.zero_add, Nat.mod_eq_of_lt ht]
theorem gvn_lo (b : Nat → Nat) (m k t c : Nat) : ∀ j, j ≤ k → gvn b m j (t * 9 ^ k + c) = gvn b m j c := by
  intro j
  induction j with
  | zero => intro _; rfl
  | succ j ih => intro h; simp only [gvn]; rw [ih (by omega), dig_lo (by omega)]
theorem tnn_lo (k t c : Nat) : ∀ j, j ≤ k → tnn j (t * 9 ^ k + c) = tnn j c := by
  intro j
  induction j with
  | zero => intro _; rfl
  | succ j ih => intro h; simp only [tnn]; rw [ih (by omega), dig_lo (by omega)]
theorem gvn_hi (b : Nat → Nat) (m k : Nat) {t c : Nat} (ht : t < 9) (hc : c < 9 ^ k) : gvn b m (k + 1) (t * 9 ^ k + c) = gvn b m k c + t * b (m + k) := by
  simp only [gvn]
  rw [gvn_lo b m k t c k (Nat.le_refl _), dig_hi ht hc]
theorem tnn_hi (k : Nat) {t c : Nat} (ht : t < 9) (hc : c < 9 ^ k) : tnn (k + 1) (t * 9 ^ k + c) = tnn k c + t := by
  simp only [tnn]
  rw [tnn_lo k t c k (Nat.le_refl _), dig_hi ht hc]
def dW (b : Nat → Nat) : Nat → Nat → Nat
  | 0, s => if s = 0 then 1 else 0
  | i + 1, s => sumT (fun t => if t * b i ≤ s then dW b i (s - t * b i) else 0) 9
def dF (b : Nat → Nat) : Nat → Nat → Nat
  | 0, s => if s = 0 then 0 else 1000000
  | i + 1, s => minT (fun t => if t * b i ≤ s then dF b i (s - t * b i) + t else 1000000) 9
theorem dF_le (b : Nat → Nat) (i s : Nat) : dF b i s ≤ 1000000 := by
  cases i with
  | zero => unfold dF; split <;> omega
  | succ i => unfold dF; exact minT_le _ _
theorem dW_k (b : Nat → Nat) (m : Nat) : ∀ k s, dW b (m + k) s = sumT (fun ch => if gvn b m k ch ≤ s then dW b m (s - gvn b m k ch) else 0) (9 ^ k) := by
  intro k
  induction k with
  | zero => intro s; rw [Nat.add_zero, Nat.pow_zero]; simp [sumT, gvn]
  | succ k ih =>
    intro s
    rw [Nat.pow_succ, Nat.mul_comm, sumT_mul, ← Nat.add_assoc]
    simp only [dW]
    apply sumT_congr
    intro t ht
    by_cases q : t * b (m + k) ≤ s
    · rw [if_pos q, ih]
      apply sumT_congr
      intro c hc
      rw [gvn_hi b m k ht hc]
      by_cases q2 : gvn b m k c ≤ s - t * b (m + k)
      · rw [if_pos q2, if_pos (by omega), show s - t * b (m + k) - gvn b m k c = s - (gvn b m k c + t * b (m + k)) by omega]
      · rw [if_neg q2, if_neg (by omega)]
    · rw [if_neg q, sumT_0 0 (9 ^ k) (fun c _ hc => by rw [gvn_hi b m k ht hc, if_neg (by omega)]) (Nat.zero_le _)]
      rfl
theorem dF_k (b : Nat → Nat) (m : Nat) : ∀ k s, dF b (m + k) s = minT (fun ch => if gvn b m k ch ≤ s then dF b m (s - gvn b m k ch) + tnn k ch else 1000000) (9 ^ k) := by
  intro k
  induction k with
  | zero => intro s; rw [Nat.add_zero, Nat.pow_zero]; have := dF_le b m s; simp [minT, gvn, tnn]; omega
  | succ k ih =>
    intro s
    rw [Nat.pow_succ, Nat.mul_comm, minT_mul, ← Nat.add_assoc]
    simp only [dF]
    apply minT_congr
    intro t ht
    by_cases q : t * b (m + k) ≤ s
    · rw [if_pos q, ih, ← minT_plus, Nat.min_eq_right (minT_le _ _)]
      apply minT_congr
      intro c hc
      rw [gvn_hi b m k ht hc, tnn_hi k ht hc]
      by_cases q2 : gvn b m k c ≤ s - t * b (m + k)
      · rw [if_pos q2, if_pos (by omega), show s - t * b (m + k) - gvn b m k c = s - (gvn b m k c + t * b (m + k)) by omega, Nat.add_assoc]
      · rw [if_neg q2, if_neg (by omega)]
        omega
    · rw [if_neg q, minT_0 0 (9 ^ k) (fun c _ hc => by rw [gvn_hi b m k ht hc, if_neg (by omega)]; exact Nat.le_refl _) (Nat.zero_le _)]
      rfl
theorem dW_le (b : Nat → Nat) : ∀ i s, dW b i s ≤ 9 ^ i := by
  intro i
  induction i with
  | zero => intro s; unfold dW; split <;> decide
  | succ i ih =>
    intro s
    simp only [dW]
    rw [Nat.pow_succ, Nat.mul_comm]
    apply sumT_le
    intro c _
    split
    · exact ih _
    · exact Nat.zero_le _
theorem dWF (b : Nat → Nat) : ∀ i s, i ≤ 8 → joT (dW b i s) (dF b i s) (8 * i) := by
  intro i
  induction i with
  | zero => intro s _; unfold dW dF joT; split <;> omega
  | succ i ih =>
    intro s hi
    simp only [dW, dF]
    apply jo_T
    intro t ht
    by_cases q : t * b i ≤ s
    · have := ih (s - t * b i) (by omega)
      rw [if_pos q, if_pos q]
      unfold joT at *
      omega
    · rw [if_neg q, if_neg q]
      left; exact ⟨rfl, Nat.le_refl _⟩
theorem dW_far {b : Nat → Nat} : ∀ i s, (∀ j, j < i → b j ≤ 255) → 2040 * i < s → dW b i s = 0 := by
  intro i
  induction i with
  | zero => intro s _ hs; unfold dW; rw [if_neg (by omega)]
  | succ i ih =>
    intro s hb hs
    simp only [dW]
    rw [sumT_0 0 9 (fun t _ ht => by
      have : t * b i ≤ 8 * 255 := Nat.mul_le_mul (by omega) (hb i (by omega))
      split
      · exact ih _ (fun j hj => hb j (by omega)) (by omega)
      · rfl) (by omega)]
    rfl
theorem gvn_le {b : Nat → Nat} {m : Nat} (ch : Nat) : ∀ k, (∀ j, j < k → b (m + j) ≤ 255) → gvn b m k ch ≤ 2040 * k := by
  intro k
  induction k with
  | zero => intro _; simp [gvn]
  | succ k ih =>
    intro h
    simp only [gvn]
    have h1 := ih (fun j hj => h j (by omega))
    have h2 : ch / 9 ^ k % 9 * b (m + k) ≤ 8 * 255 := Nat.mul_le_mul (by have := Nat.mod_lt (ch / 9 ^ k) (show 0 < 9 by decide); omega) (h k (by omega))
    omega
theorem tnn_le (ch : Nat) : ∀ k, tnn k ch ≤ 8 * k := by
  intro k
  induction k with
  | zero => simp [tnn]
  | succ k ih => simp only [tnn]; have := Nat.mod_lt (ch / 9 ^ k) (show 0 < 9 by decide); omega
