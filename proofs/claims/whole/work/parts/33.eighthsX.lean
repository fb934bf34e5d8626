/-! ===== byEighths, the class's half ===== -/
theorem l9v : (9 : Int32) = nI 9 := rfl
theorem l6v : (6 : Int32) = nI 6 := rfl
theorem p9_4 {k : Nat} (h : k ≤ 4) : 9 ^ k ≤ 6561 := Nat.pow_le_pow_right (n := 9) (by decide) h
section EI
variable {A : AS} {hx hm : HP} {N : Nat}
theorem choices_e {m : Nat} (hN : 100 ≤ N) (hm : m ≤ 4) (h : HP) : xX0_choicesOf N (nI m) h = some (nI (9 ^ m), h) := by
  unfold xX0_choicesOf
  suffices ∀ n i, i ≤ m → m - i < n → xX0_choicesOf_4 N n (nI m) (nI (9 ^ i)) (nI i) h = some (nI (9 ^ m), h) from this N 0 (by omega) (by omega)
  intro n
  induction n with
  | zero => intro i _ q; omega
  | succ n ih =>
    intro i hi hq
    rw [xX0_choicesOf_4]
    dsimp only
    by_cases e : i = m
    · subst e; rw [if_pos (by rw [le_nn (by omega) (by omega)]; omega)]
    · rw [if_neg (by rw [le_nn (by omega) (by omega)]; omega), lt_e, lt_e, l9v, mul_nn, nI_1, ← Nat.pow_succ]
      exact ih (i + 1) (by omega) (by omega)
/-- what the two numbers of a choice are, and what else stays -/
def tkR (b : Nat → Nat) (m k ch : Nat) (h h' : HP) : Prop := (∀ c, c ≠ 56 → h'.1 c = h.1 c) ∧ (∀ j, j ≠ 1 → j ≠ 2 → h'.1 56 j = h.1 56 j) ∧ h'.1 56 1 = nI (gvn b m k ch) ∧ h'.1 56 2 = nI (tnn k ch)
theorem turn_l {m k ch M : Nat} (hM : m + k ≤ M) (hm : M ≤ 8) (hch : ch < 6561) : ∀ n j h, j ≤ k → k - j < n → BX A M h → h.1 56 1 = nI (gvn (A 8) m j ch) → h.1 56 2 = nI (tnn j ch) → ∃ h', xX0_turnKeys_17 N n (nI (m + k)) (nI (ch / 9 ^ j)) (nI (m + j)) h = some (0, h') ∧ tkR (A 8) m k ch h h' := by
  intro n
  induction n with
  | zero => intro j h _ q; omega
  | succ n ih =>
    intro j h hj hq hb h1 h2
    rw [xX0_turnKeys_17]
    dsimp only
    by_cases e : j = k
    · subst e
      exact ⟨h, by rw [if_pos (by rw [le_nn (by omega) (by omega)]; omega)], fun _ _ => rfl, fun _ _ _ => rfl, h1, h2⟩
    · have hdl : ch / 9 ^ j ≤ ch := Nat.div_le_self _ _
      rw [if_neg (by rw [le_nn (by omega) (by omega)]; omega), lt_e, lt_e, l9v, rem_nn (by omega) (by decide) (by decide), div_nn (by omega) (by decide) (by decide), byteAt_e hb (by omega), cl_s, h1, mul_nn, add_nn, lt_e, lt_e, lt_e, nI_1]
      have e2 : (up h 56 1 (nI (gvn (A 8) m j ch + ch / 9 ^ j % 9 * A 8 (m + j)))).1 56 2 = nI (tnn j ch) := by
        rw [up_at, if_neg (by omega)]; exact h2
      rw [e2, add_nn, Nat.div_div_eq_div_mul, ← Nat.pow_succ, Nat.add_assoc]
      obtain ⟨h', f1, f2, f3, f4, f5⟩ := ih (j + 1) (up (up h 56 1 (nI (gvn (A 8) m j ch + ch / 9 ^ j % 9 * A 8 (m + j)))) 56 2 (nI (tnn j ch + ch / 9 ^ j % 9))) (by omega) (by omega) (by
        obtain ⟨b1, b2, b3⟩ := hb
        exact ⟨b1, by rw [up_n (by decide), up_n (by decide)]; exact b2, fun i hi => by rw [up_n (by decide), up_n (by decide)]; exact b3 i hi⟩) (by rw [up_at, if_neg (by omega), up_at, if_pos ⟨rfl, rfl⟩]; rfl) (by rw [up_at, if_pos ⟨rfl, rfl⟩]; rfl)
      exact ⟨h', f1, fun c hc => by rw [f2 c hc, up_n hc, up_n hc], fun i h1 h2 => by rw [f3 i h1 h2, up_at, if_neg (by omega), up_at, if_neg (by omega)], f4, f5⟩
theorem turn_e {m k ch M : Nat} (hN : 100 ≤ N) (hM : m + k ≤ M) (hm : M ≤ 8) (hch : ch < 6561) {h : HP} (hb : BX A M h) : ∃ h', xX0_turnKeys N (nI m) (nI (m + k)) (nI ch) h = some (0, h') ∧ tkR (A 8) m k ch h h' := by
  unfold xX0_turnKeys
  obtain ⟨b1, b2, b3⟩ := hb
  obtain ⟨h', f1, f2, f3, f4, f5⟩ := turn_l (A := A) (N := N) (m := m) (k := k) (ch := ch) hM hm hch N 0 (up (up h 56 1 0) 56 2 0) (by omega) (by omega) ⟨b1, by rw [up_n (by decide), up_n (by decide)]; exact b2, fun i hi => by rw [up_n (by decide), up_n (by decide)]; exact b3 i hi⟩ (by rw [up_at, if_neg (by omega), up_at, if_pos ⟨rfl, rfl⟩]; rfl) (by rw [up_at, if_pos ⟨rfl, rfl⟩]; rfl)
  refine ⟨h', ?_, fun c hc => by rw [f2 c hc, up_n hc, up_n hc], fun i h1 h2 => by rw [f3 i h1 h2, up_at, if_neg (by omega), up_at, if_neg (by omega)], f4, f5⟩
  rw [lt_e, lt_e, ← f1, Nat.pow_zero, Nat.div_one, Nat.add_zero]
/-- a sum's entry: ways above six bits for the fewest -/
def pk6 (w f : Nat) : Nat := if w = 0 then 0 else w * 64 + f
def cWn (b : Nat → Nat) (m s : Nat) : Nat → Nat := sumT (fun ch => if gvn b 0 m ch = s then 1 else 0)
def cFn (b : Nat → Nat) (m s : Nat) : Nat → Nat := minT (fun ch => if gvn b 0 m ch = s then tnn m ch else 1000000)
theorem cWF (b : Nat → Nat) (m s k : Nat) : joT (cWn b m s k) (cFn b m s k) (8 * m) := by
  apply jo_T
  intro c hc
  have := tnn_le c m
  unfold joT
  split
  · right; exact ⟨by decide, this⟩
  · left; exact ⟨rfl, Nat.le_refl _⟩
theorem cW_d (b : Nat → Nat) (m s : Nat) : cWn b m s (9 ^ m) = dW b m s := by
  have := dW_k b 0 m s
  rw [Nat.zero_add] at this
  rw [this]
  apply sumT_congr
  intro c hc
  unfold dW
  by_cases q : gvn b 0 m c = s
  · rw [if_pos q, if_pos (by omega), if_pos (by omega)]
  · rw [if_neg q]
    by_cases q2 : gvn b 0 m c ≤ s
    · rw [if_pos q2, if_neg (by omega)]
    · rw [if_neg q2]
theorem cF_d (b : Nat → Nat) (m s : Nat) : cFn b m s (9 ^ m) = dF b m s := by
  have := dF_k b 0 m s
  rw [Nat.zero_add] at this
  rw [this]
  apply minT_congr
  intro c hc
  unfold dF
  by_cases q : gvn b 0 m c = s
  · rw [if_pos q, if_pos (by omega), if_pos (by omega)]; omega
  · rw [if_neg q]
    by_cases q2 : gvn b 0 m c ≤ s
    · rw [if_pos q2, if_neg (by omega)]; omega
    · rw [if_neg q2]
theorem cW_le (b : Nat → Nat) (m s k : Nat) : cWn b m s k ≤ k := by
  have := sumT_le (f := fun ch => if gvn b 0 m ch = s then 1 else 0) (B := 1) k (fun c _ => by split <;> omega)
  rw [Nat.mul_one] at this
  exact this
theorem or64 {w f : Nat} (hf : f < 64) : nI (w * 64) ||| nI f = nI (w * 64 + f) := by
  rw [or_nn, show w * 64 = 2 ^ 6 * w by omega, ← Nat.two_pow_add_eq_or_of_lt (i := 6) hf]
theorem and63 (w : Nat) {f : Nat} (hf : f < 64) : nI (w * 64 + f) &&& 63 = nI f := by
  rw [show (63 : Int32) = nI 63 from rfl, and_nn, show (63 : Nat) = 2 ^ 6 - 1 from rfl, Nat.and_two_pow_sub_one_eq_mod, show w * 64 + f = f + 2 ^ 6 * w by omega, Nat.add_mul_mod_self_left, Nat.mod_eq_of_lt (by omega)]
theorem shr6 {w f : Nat} (hf : f < 64) (hw : w ≤ 6561) : nI (w * 64 + f) >>> ((6 : Int32) &&& 31) = nI w := by
  rw [l6v, shr_nn (by decide) (by omega), show (w * 64 + f) / 2 ^ 6 = w by omega]
theorem layOut_l {m M : Nat} (hN : 100 ≤ N) (h4 : m ≤ 4) (hM : m ≤ M) (hM8 : M ≤ 8) (hb : ∀ i, i < M → A 8 i ≤ 255) : ∀ n k h, k ≤ 9 ^ m → 9 ^ m - k < n → BX A M h → (∀ s, s < 8161 → h.1 57 s = nI (pk6 (cWn (A 8) m s k) (cFn (A 8) m s k))) → ∃ h', xX0_layOut_16 N n (nI m) (nI (9 ^ m)) (nI k) h = some (0, h') ∧ (∀ c, c ≠ 56 → c ≠ 57 → h'.1 c = h.1 c) ∧ ∀ s, s < 8161 → h'.1 57 s = nI (pk6 (dW (A 8) m s) (dF (A 8) m s)) := by
  have h9 := p9_4 h4
  intro n
  induction n with
  | zero => intro k h _ q; omega
  | succ n ih =>
    intro k h hk hq hB hl
    rw [xX0_layOut_16]
    dsimp only
    by_cases e : k = 9 ^ m
    · refine ⟨h, by rw [if_pos (by rw [e, le_nn (by omega) (by omega)]; omega)], fun _ _ _ => rfl, fun s hs => ?_⟩
      rw [hl s hs, e, cW_d, cF_d]
    · obtain ⟨h1, f1, f2, f3, f4, f5⟩ := turn_e (A := A) (N := N) (m := 0) (k := m) (ch := k) hN (by omega) hM8 (by omega) hB
      rw [Nat.zero_add] at f1
      have hg : gvn (A 8) 0 m k ≤ 8160 := by
        have := gvn_le (b := A 8) (m := 0) k m (fun j hj => hb _ (by omega))
        omega
      have ht := tnn_le k m
      rw [if_neg (by rw [le_nn (by omega) (by omega)]; omega), show xX0_turnKeys N 0 (nI m) (nI k) h = _ from f1, cl_s]
      unfold xX0_layOut_66
      rw [f4, ald_n (by omega) (by decide), f2 57 (by decide), hl _ (by omega), f5]
      have jo := cWF (A 8) m (gvn (A 8) 0 m k) k
      have cl := cW_le (A 8) m (gvn (A 8) 0 m k) k
      have nW : ∀ s, cWn (A 8) m s (k + 1) = cWn (A 8) m s k + if gvn (A 8) 0 m k = s then 1 else 0 := fun s => rfl
      have nF : ∀ s, cFn (A 8) m s (k + 1) = min (cFn (A 8) m s k) (if gvn (A 8) 0 m k = s then tnn m k else 1000000) := fun s => rfl
      have go : ∀ v, v = pk6 (cWn (A 8) m (gvn (A 8) 0 m k) (k + 1)) (cFn (A 8) m (gvn (A 8) 0 m k) (k + 1)) → ∃ h', xX0_layOut_16 N n (nI m) (nI (9 ^ m)) (nI (k + 1)) (up h1 57 (gvn (A 8) 0 m k) (nI v)) = some (0, h') ∧ (∀ c, c ≠ 56 → c ≠ 57 → h'.1 c = h.1 c) ∧ ∀ s, s < 8161 → h'.1 57 s = nI (pk6 (dW (A 8) m s) (dF (A 8) m s)) := by
        intro v hv
        obtain ⟨h', g1, g2, g3⟩ := ih (k + 1) (up h1 57 (gvn (A 8) 0 m k) (nI v)) (by omega) (by omega) (by
          obtain ⟨b1, b2, b3⟩ := hB
          exact ⟨b1, by rw [up_n (by decide), f2 1 (by decide)]; exact b2, fun i hi => by rw [up_n (by decide), f2 2 (by decide)]; exact b3 i hi⟩) (fun s hs => by
          rw [up_at]
          by_cases es : s = gvn (A 8) 0 m k
          · rw [if_pos ⟨rfl, es⟩, es, hv]
          · rw [if_neg (fun z => es z.2), f2 57 (by decide), hl s hs, nW, nF, if_neg (fun z => es z.symm), if_neg (fun z => es z.symm), Nat.add_zero, Nat.min_eq_left (show cFn (A 8) m s k ≤ 1000000 from minT_le _ _)])
        exact ⟨h', g1, fun c h1 h2 => by rw [g2 c h1 h2, up_n h2, f2 c h1], g3⟩
      have nW1 := nW (gvn (A 8) 0 m k)
      have nF1 := nF (gvn (A 8) 0 m k)
      rw [if_pos rfl] at nW1 nF1
      by_cases q : cWn (A 8) m (gvn (A 8) 0 m k) k = 0
      · have z : pk6 (cWn (A 8) m (gvn (A 8) 0 m k) k) (cFn (A 8) m (gvn (A 8) 0 m k) k) = 0 := if_pos q
        rw [z, if_neg (by decide), ast_n (by omega) (by decide), lt_e, nI_1, show ((nI 0 >>> ((6 : Int32) &&& 31)) + 1) <<< ((6 : Int32) &&& 31) = nI (1 * 64) from by decide, or64 (by omega)]
        apply go
        rw [nW1, nF1, q, pk6, if_neg (by decide)]
        unfold joT at jo
        omega
      · have z : pk6 (cWn (A 8) m (gvn (A 8) 0 m k) k) (cFn (A 8) m (gvn (A 8) 0 m k) k) = cWn (A 8) m (gvn (A 8) 0 m k) k * 64 + cFn (A 8) m (gvn (A 8) 0 m k) k := if_neg q
        have hf : cFn (A 8) m (gvn (A 8) 0 m k) k ≤ 32 := by unfold joT at jo; omega
        rw [z, if_pos (by rw [ne_eq, l0, eq_nn (by omega) (by decide)]; omega), shr6 (by omega) (by omega), and63 _ (by omega), imn_nn (by omega) (by omega), ast_n (by omega) (by decide), lt_e, nI_1, nI_1, l6v, shl_nn (by decide) (by omega), show (2 : Nat) ^ 6 = 64 from rfl, or64 (by omega)]
        apply go
        rw [nW1, nF1, pk6, if_neg (by omega), Nat.min_comm]
theorem layOut_e {m M : Nat} (hN : 20000 ≤ N) (h4 : m ≤ 4) (hM : m ≤ M) (hM8 : M ≤ 8) (hb : ∀ i, i < M → A 8 i ≤ 255) {h : HP} (hB : BX A M h) : ∃ h', xX0_layOut N (nI m) h = some (0, h') ∧ (∀ c, c ≠ 56 → c ≠ 57 → h'.1 c = h.1 c) ∧ ∀ s, s < 8161 → h'.1 57 s = nI (pk6 (dW (A 8) m s) (dF (A 8) m s)) := by
  have h9 := p9_4 h4
  unfold xX0_layOut
  obtain ⟨h1, e1, k1, z1, -⟩ := fill_e (N := N) (na := 8161) (ka := 57) 0 h (by decide) (by omega)
  obtain ⟨h2, e2, k2, z2⟩ := layOut_l (A := A) (N := N) (by omega) h4 hM hM8 hb N 0 h1 (Nat.zero_le _) (by omega) (by
    obtain ⟨b1, b2, b3⟩ := hB
    exact ⟨b1, by rw [k1 1 (by decide)]; exact b2, fun i hi => by rw [k1 2 (by decide)]; exact b3 i hi⟩) (fun s hs => by rw [z1 s hs]; rfl)
  rw [e1, cl_s, choices_e (by omega) h4, cl_s]
  exact ⟨h2, e2, fun c q1 q2 => by rw [k2 c q1 q2, k1 c q2], z2⟩
/-- the ways and the fewest over the choices of the second half -/
def sWn (b : Nat → Nat) (m k s : Nat) : Nat → Nat := sumT (fun ch => if gvn b m k ch ≤ s then dW b m (s - gvn b m k ch) else 0)
def sFn (b : Nat → Nat) (m k s : Nat) : Nat → Nat := minT (fun ch => if gvn b m k ch ≤ s then dF b m (s - gvn b m k ch) + tnn k ch else 1000000)
theorem reckon_l {m k M s : Nat} (hN : 100 ≤ N) (h4 : m ≤ 4) (hk4 : k ≤ 4) (hM : m + k = M) (hs : s ≤ 16320) (hb : ∀ i, i < M → A 8 i ≤ 255) : ∀ n i h, i ≤ 9 ^ k → 9 ^ k - i < n → BX A M h → (∀ s, s < 8161 → h.1 57 s = nI (pk6 (dW (A 8) m s) (dF (A 8) m s))) → h.1 56 3 = nI (sWn (A 8) m k s i) → h.1 56 4 = nI (min 64 (sFn (A 8) m k s i)) → ∃ h', xX0_reckon_35 N n (nI M) (nI s) (nI m) (nI (9 ^ k)) (nI i) h = some (0, h') ∧ (∀ c, c ≠ 56 → h'.1 c = h.1 c) ∧ h'.1 56 3 = nI (dW (A 8) M s) ∧ h'.1 56 4 = nI (min 64 (dF (A 8) M s)) := by
  have h9 := p9_4 hk4
  intro n
  induction n with
  | zero => intro k h _ q; omega
  | succ n ih =>
    intro i h hi hq hB hl h3 hF
    rw [xX0_reckon_35]
    dsimp only
    by_cases e : i = 9 ^ k
    · refine ⟨h, by rw [if_pos (by rw [e, le_nn (by omega) (by omega)]; omega)], fun _ _ => rfl, ?_, ?_⟩
      · rw [h3, e, ← hM, dW_k]; rfl
      · rw [hF, e, ← hM, dF_k]; rfl
    · subst hM
      obtain ⟨h1, f1, f2, f3, f4, f5⟩ := turn_e (A := A) (N := N) (m := m) (k := k) (ch := i) hN (Nat.le_refl _) (by omega) (by omega) hB
      have ht := tnn_le i k
      have hg : gvn (A 8) m k i ≤ 8160 := by
        have := gvn_le (b := A 8) (m := m) i k (fun j hj => hb _ (by omega))
        omega
      have b1 : BX A (m + k) h1 := ⟨hB.1, by rw [f2 1 (by decide)]; exact hB.2.1, fun i hi => by rw [f2 2 (by decide)]; exact hB.2.2 i hi⟩
      have nW : sWn (A 8) m k s (i + 1) = sWn (A 8) m k s i + if gvn (A 8) m k i ≤ s then dW (A 8) m (s - gvn (A 8) m k i) else 0 := rfl
      have nF : sFn (A 8) m k s (i + 1) = min (sFn (A 8) m k s i) (if gvn (A 8) m k i ≤ s then dF (A 8) m (s - gvn (A 8) m k i) + tnn k i else 1000000) := rfl
      have skip : (gvn (A 8) m k i ≤ s → dW (A 8) m (s - gvn (A 8) m k i) = 0) → ∃ h', xX0_reckon_35 N n (nI (m + k)) (nI s) (nI m) (nI (9 ^ k)) (nI (i + 1)) h1 = some (0, h') ∧ (∀ c, c ≠ 56 → h'.1 c = h.1 c) ∧ h'.1 56 3 = nI (dW (A 8) (m + k) s) ∧ h'.1 56 4 = nI (min 64 (dF (A 8) (m + k) s)) := by
        intro hz
        obtain ⟨h', g1, g2, g3, g4⟩ := ih (i + 1) h1 (by omega) (by omega) b1 (fun s hs => by rw [f2 57 (by decide)]; exact hl s hs) (by
          rw [f3 3 (by decide) (by decide), h3, nW]
          split
          · rename_i q; rw [hz q, Nat.add_zero]
          · rw [Nat.add_zero]) (by
          rw [f3 4 (by decide) (by decide), hF, nF]
          congr 1
          split
          · rename_i q
            have := dWF (A 8) m (s - gvn (A 8) m k i) (by omega)
            unfold joT at this
            have := hz q
            omega
          · omega)
        exact ⟨h', g1, fun c hc => by rw [g2 c hc, f2 c hc], g3, g4⟩
      rw [if_neg (by rw [le_nn (by omega) (by omega)]; omega), f1, cl_s, lt_e, f4]
      unfold xX0_reckon_130
      rw [lt_e, nI_1]
      by_cases q : gvn (A 8) m k i ≤ s
      · rw [sub_nn q, if_neg (by rw [l0, lt_nn (by omega) (by decide)]; omega)]
        by_cases q2 : 8161 ≤ s - gvn (A 8) m k i
        · rw [if_pos (by rw [l8161, le_nn (by decide) (by omega)]; exact q2)]
          exact skip (fun _ => dW_far m _ (fun j hj => hb j (by omega)) (by omega))
        · rw [if_neg (by rw [l8161, le_nn (by decide) (by omega)]; exact q2), ald_n (by omega) (by decide), f2 57 (by decide), hl _ (by omega)]
          have jo := dWF (A 8) m (s - gvn (A 8) m k i) (by omega)
          have dl := dW_le (A 8) m (s - gvn (A 8) m k i)
          have p9 := p9_4 h4
          by_cases q3 : dW (A 8) m (s - gvn (A 8) m k i) = 0
          · rw [if_pos (by rw [pk6, if_pos q3]; rfl)]
            exact skip (fun _ => q3)
          · have z : pk6 (dW (A 8) m (s - gvn (A 8) m k i)) (dF (A 8) m (s - gvn (A 8) m k i)) = dW (A 8) m (s - gvn (A 8) m k i) * 64 + dF (A 8) m (s - gvn (A 8) m k i) := if_neg q3
            have hf : dF (A 8) m (s - gvn (A 8) m k i) ≤ 32 := by unfold joT at jo; omega
            rw [z, if_neg (by rw [l0, eq_nn (by omega) (by decide)]; omega), ald_n (by omega) (by decide), f2 57 (by decide), hl _ (by omega), z, shr6 (by omega) (by omega), f3 3 (by decide) (by decide), h3, add_nn, lt_e, ald_n (by omega) (by decide), up_n (show 57 ≠ 56 by decide), f2 57 (by decide), hl _ (by omega), z, and63 _ (by omega)]
            have c4 : (up h1 56 3 (nI (sWn (A 8) m k s i + dW (A 8) m (s - gvn (A 8) m k i)))).1 56 4 = nI (min 64 (sFn (A 8) m k s i)) := by
              rw [up_at, if_neg (by omega), f3 4 (by decide) (by decide), hF]
            have c2 : (up h1 56 3 (nI (sWn (A 8) m k s i + dW (A 8) m (s - gvn (A 8) m k i)))).1 56 2 = nI (tnn k i) := by
              rw [up_at, if_neg (by omega), f5]
            rw [c4, c2, add_nn, imn_nn (by omega) (by omega), lt_e, lt_e]
            obtain ⟨h', g1, g2, g3, g4⟩ := ih (i + 1) (up (up h1 56 3 (nI (sWn (A 8) m k s i + dW (A 8) m (s - gvn (A 8) m k i)))) 56 4 (nI (min (min 64 (sFn (A 8) m k s i)) (tnn k i + dF (A 8) m (s - gvn (A 8) m k i))))) (by omega) (by omega) ⟨b1.1, by rw [up_n (by decide), up_n (by decide)]; exact b1.2.1, fun i hi => by rw [up_n (by decide), up_n (by decide)]; exact b1.2.2 i hi⟩ (fun s hs => by rw [up_n (by decide), up_n (by decide), f2 57 (by decide)]; exact hl s hs) (by
              rw [up_at, if_neg (by omega), up_at, if_pos ⟨rfl, rfl⟩, nW, if_pos q]) (by
              rw [up_at, if_pos ⟨rfl, rfl⟩, nF, if_pos q, Nat.min_assoc, Nat.add_comm (tnn k i)])
            exact ⟨h', g1, fun c hc => by rw [g2 c hc, up_n hc, up_n hc, f2 c hc], g3, g4⟩
      · rw [if_pos (by
          rw [i_lt, show (0 : Int32).toInt = 0 from by decide]
          have : (nI s - nI (gvn (A 8) m k i)).toInt = (s : Int) - (gvn (A 8) m k i : Int) := by
            rw [Int32.toInt_sub, i_n (by omega), i_n (by omega), Int.bmod_eq_of_le (by omega) (by omega)]
          rw [this]; omega)]
        exact skip (fun z => absurd z q)
theorem reckon_e {M s : Nat} (hN : 20000 ≤ N) (hM : M ≤ 8) (hs : s ≤ 16320) (hb : ∀ i, i < M → A 8 i ≤ 255) {h : HP} (hB : BX A M h) : ∃ h', xX0_reckon N (nI M) (nI s) h = some (0, h') ∧ (∀ c, c ≠ 56 → c ≠ 57 → h'.1 c = h.1 c) ∧ h'.1 56 3 = nI (dW (A 8) M s) ∧ h'.1 56 4 = nI (min 64 (dF (A 8) M s)) := by
  have h9 := p9_4 (show M - M / 2 ≤ 4 by omega)
  unfold xX0_reckon
  obtain ⟨h1, e1, k1, z1⟩ := layOut_e (A := A) (N := N) (m := M / 2) (M := M) hN (by omega) (by omega) hM hb hB
  obtain ⟨h2, e2, k2, r1, r2⟩ := reckon_l (A := A) (N := N) (m := M / 2) (k := M - M / 2) (M := M) (s := s) (by omega) (by omega) (by omega) (by omega) hs hb N 0 (up (up h1 56 3 0) 56 4 64) (Nat.zero_le _) (by omega) ⟨hB.1, by rw [up_n (by decide), up_n (by decide), k1 1 (by decide) (by decide)]; exact hB.2.1, fun i hi => by rw [up_n (by decide), up_n (by decide), k1 2 (by decide) (by decide)]; exact hB.2.2 i hi⟩ (fun s hs => by rw [up_n (by decide), up_n (by decide)]; exact z1 s hs) (by rw [up_at, if_neg (by omega), up_at, if_pos ⟨rfl, rfl⟩]; rfl) (by rw [up_at, if_pos ⟨rfl, rfl⟩]; rfl)
  rw [lt_e, l2, div_nn (by omega) (by decide) (by decide), e1, cl_s, lt_e, lt_e, sub_nn (by omega), choices_e (by omega) (by omega), cl_s]
  exact ⟨h2, e2, fun c q1 q2 => by rw [k2 c q1, up_n q1, up_n q1, k1 c q1 q2], r1, r2⟩
end EI
