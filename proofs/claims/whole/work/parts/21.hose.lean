/-! ===== Arrays.fill; hose ===== -/
theorem fill_l {N na ka : Nat} {v : Int32} {h0 : HP} (hn : na < 2147483648) : ∀ n i h, i ≤ na → na - i < n → (∀ k, k ≠ ka → h.1 k = h0.1 k) → (∀ j, j < i → h.1 ka j = v) → (h.2 = h0.2) → ∃ h', xJ7_fill_53178_5 N na ka n v (nI i) (nI na) h = some (0, h') ∧ (∀ k, k ≠ ka → h'.1 k = h0.1 k) ∧ (∀ j, j < na → h'.1 ka j = v) ∧ h'.2 = h0.2 := by
  intro n
  induction n with
  | zero => intro i h _ q; omega
  | succ n ih =>
    intro i h hi hq h1 h2 h3
    rw [xJ7_fill_53178_5]
    dsimp only
    by_cases e : i = na
    · rw [if_pos (by rw [e, le_nn hn hn]; omega)]
      exact ⟨h, rfl, h1, fun j hj => h2 j (by omega), h3⟩
    · rw [if_neg (by rw [le_nn hn (by omega)]; omega), ast_n (by omega) hn, lt_e, nI_1]
      refine ih (i + 1) _ (by omega) (by omega) (fun k hk => by rw [up_n hk]; exact h1 k hk) (fun j hj => ?_) h3
      rw [up_at]
      by_cases q : j = i
      · rw [if_pos ⟨rfl, q⟩]
      · rw [if_neg (by omega)]; exact h2 j (by omega)
theorem fill_e {N na ka : Nat} (v : Int32) (h : HP) (hn : na < 2147483648) (hN : na < N) : ∃ h', xJ7_fill_53178 N na ka v h = some (0, h') ∧ (∀ k, k ≠ ka → h'.1 k = h.1 k) ∧ (∀ j, j < na → h'.1 ka j = v) ∧ h'.2 = h.2 := by
  unfold xJ7_fill_53178
  rw [lt_e]
  exact fill_l (N := N) (h0 := h) hn N 0 h (by omega) (by omega) (fun _ _ => rfl) (fun j hj => by omega) rfl
def hc (A : AS) (m f : Nat) (bz : Nat → Nat) (b : Nat) : Nat := bz b + 2 * A 8 (f * m + b)
/-- the best of the first k + 1 brigades -/
def hb2 (A : AS) (m f : Nat) (bz : Nat → Nat) : Nat → Nat
  | 0 => 0
  | k + 1 => if hc A m f bz (k + 1) < hc A m f bz (hb2 A m f bz k) then k + 1 else hb2 A m f bz k
def upN (f : Nat → Nat) (k v : Nat) : Nat → Nat := fun j => if j = k then v else f j
def hz (A : AS) (m : Nat) : Nat → (Nat → Nat) × Nat
  | 0 => (fun _ => 0, 0)
  | f + 1 => (upN (hz A m f).1 (hb2 A m f (hz A m f).1 (m - 1)) (hc A m f (hz A m f).1 (hb2 A m f (hz A m f).1 (m - 1))), max (hz A m f).2 (hc A m f (hz A m f).1 (hb2 A m f (hz A m f).1 (m - 1))))
theorem hb2_le (A : AS) (m f : Nat) (bz : Nat → Nat) : ∀ k, hb2 A m f bz k ≤ k := by
  intro k
  induction k with
  | zero => exact Nat.le_refl _
  | succ k ih => simp only [hb2]; split <;> omega
section HO
variable {A : AS} {hx hm : HP} {N m : Nat}
theorem hz_bd (hb : ∀ i, A 8 i < 256 ∨ True) {n0 : Nat} (h8 : ∀ i, i < n0 * m → A 8 i < 256) (hm1 : 1 ≤ m) : ∀ f, f ≤ n0 → (∀ b, (hz A m f).1 b ≤ 510 * f) ∧ (hz A m f).2 ≤ 510 * f := by
  intro f
  induction f with
  | zero => intro _; exact ⟨fun b => Nat.le_refl _, Nat.le_refl _⟩
  | succ f ih =>
    intro hf
    obtain ⟨i1, i2⟩ := ih (by omega)
    have hl := hb2_le A m f (hz A m f).1 (m - 1)
    have hin : f * m + hb2 A m f (hz A m f).1 (m - 1) < n0 * m := by
      have : (f + 1) * m ≤ n0 * m := Nat.mul_le_mul_right m hf
      rw [Nat.succ_mul] at this
      omega
    have h9 := h8 _ hin
    have hcst : hc A m f (hz A m f).1 (hb2 A m f (hz A m f).1 (m - 1)) ≤ 510 * f + 510 := by
      have := i1 (hb2 A m f (hz A m f).1 (m - 1))
      unfold hc
      omega
    refine ⟨fun b => ?_, ?_⟩
    · simp only [hz, upN]
      split
      · omega
      · have := i1 b; omega
    · simp only [hz]
      omega
theorem idx_lt {n0 f b : Nat} (hf : f < n0) (hb : b < m) : f * m + b < n0 * m := by
  have : (f + 1) * m ≤ n0 * m := Nat.mul_le_mul_right m hf
  rw [Nat.succ_mul] at this
  omega
theorem hoseX_in {n0 f last : Nat} {bz : Nat → Nat} {a3 : Int32} {h : HP} {K : Int32 → Int32 → Int32 → Int32 → Int32 → HP → Option (Int32 × HP)} (b : BX A (n0 * m) h) (hf : f < n0) (hn0 : n0 ≤ 12) (hm1 : 1 ≤ m) (hm6 : m ≤ 6) (h8 : ∀ i, i < n0 * m → A 8 i < 256) (hbz : ∀ b, bz b ≤ 6120) (hl : last ≤ 6120) (hh : ∀ b, b < 6 → h.1 58 b = nI (bz b)) : ∀ n k, k < m → m - (k + 1) < n →
    xX10_hose_127 N K n (nI n0) (nI m) a3 (nI last) (nI f) (nI (hb2 A m f bz k)) (nI (hc A m f bz (hb2 A m f bz k))) (nI (k + 1)) h = if nI f ≠ a3 then K (nI n0) (nI m) a3 (nI (max last (hc A m f bz (hb2 A m f bz (m - 1))))) (nI (f + 1)) (up h 58 (hb2 A m f bz (m - 1)) (nI (hc A m f bz (hb2 A m f bz (m - 1))))) else some (nI (hb2 A m f bz (m - 1)), h) := by
  have hcb : ∀ j, j < m → hc A m f bz j < 10000 := fun j hj => by
    have := h8 _ (idx_lt hf hj)
    have := hbz j
    unfold hc
    omega
  intro n
  induction n with
  | zero => intro k _ q; omega
  | succ n ih =>
    intro k hk hq
    rw [xX10_hose_127]
    dsimp only
    have hle := hb2_le A m f bz k
    have c1 := hcb (hb2 A m f bz k) (by omega)
    by_cases e : k + 1 = m
    · rw [if_pos (by rw [e, le_nn (by omega) (by omega)]; omega), show m - 1 = k by omega, ast_n (by omega) (by decide), lt_e, lt_e, imx_nn (by omega) (by omega), nI_1]
    · have c2 := hcb (k + 1) (by omega)
      rw [if_neg (by rw [le_nn (by omega) (by omega)]; omega), ald_n (by omega) (by decide), mul_nn, add_nn, byteAt_e b (idx_lt hf (by omega)), cl_s, lt_e, hh _ (by omega), l2, mul_nn, add_nn, show bz (k + 1) + 2 * A 8 (f * m + (k + 1)) = hc A m f bz (k + 1) from rfl]
      unfold xX10_hose_174
      rw [lt_e, lt_e, nI_1]
      have ih1 := ih (k + 1) (by omega) (by omega)
      rw [← ih1]
      simp only [hb2]
      by_cases q : hc A m f bz (k + 1) < hc A m f bz (hb2 A m f bz k)
      · rw [if_neg (by rw [le_nn (by omega) (by omega)]; omega), if_pos q]
      · rw [if_pos (by rw [le_nn (by omega) (by omega)]; omega), if_neg q]
/-- what is answered: a3 is 100, or the fire j -/
def hAns (A : AS) (m n0 : Nat) (a3 : Int32) : Int32 := if a3 = 100 then nI (hz A m n0).2 else nI (hb2 A m a3.toNatClampNeg (hz A m a3.toNatClampNeg).1 (m - 1))
theorem hoseX_l {n0 : Nat} {a3 : Int32} {h0 : HP} (hN : 100 ≤ N) (ha : a3 = 100 ∨ ∃ j, j < n0 ∧ a3 = nI j) (hn0 : n0 ≤ 12) (hm1 : 1 ≤ m) (hm6 : m ≤ 6) (h8 : ∀ i, i < n0 * m → A 8 i < 256) : ∀ n f h, f ≤ n0 → n0 - f < n → BX A (n0 * m) h → (∀ b, b < 6 → h.1 58 b = nI ((hz A m f).1 b)) → (∀ k, k ≠ 58 → h.1 k = h0.1 k) → (∀ j, a3 = nI j → j < n0 → f ≤ j) → ∃ h', xX10_hose_93 N n (nI n0) (nI m) a3 (nI (hz A m f).2) (nI f) h = some (hAns A m n0 a3, h') ∧ ∀ k, k ≠ 58 → h'.1 k = h0.1 k := by
  intro n
  induction n with
  | zero => intro f h _ q; omega
  | succ n ih =>
    intro f h hf hq b hh hk hj
    rw [xX10_hose_93]
    dsimp only
    by_cases e : f = n0
    · rw [if_pos (by rw [e, le_nn (by omega) (by omega)]; omega), e]
      rcases ha with ha | ⟨j, hj1, hj2⟩
      · exact ⟨h, by unfold hAns; rw [if_pos ha], hk⟩
      · have := hj j hj2 hj1; omega
    · have hlt : f < n0 := by omega
      obtain ⟨bd1, bd2⟩ := hz_bd (fun _ => Or.inr trivial) h8 hm1 f hf
      rw [if_neg (by rw [le_nn (by omega) (by omega)]; omega), l0, ald_n (by decide) (by decide), mul_nn, byteAt_e b (by have := idx_lt (m := m) hlt (show 0 < m by omega); omega), cl_s, lt_e, hh 0 (by omega), l2, mul_nn, add_nn]
      have e0 := hoseX_in (N := N) (K := xX10_hose_93 N n) (a3 := a3) (last := (hz A m f).2) (bz := (hz A m f).1) b hlt hn0 hm1 hm6 h8 (fun b => by have := bd1 b; omega) (by omega) hh N 0 (by omega) (by omega)
      rw [show hc A m f (hz A m f).1 (hb2 A m f (hz A m f).1 0) = (hz A m f).1 0 + 2 * A 8 (f * m) from rfl] at e0
      rw [show xX10_hose_127 N (xX10_hose_93 N n) N (nI n0) (nI m) a3 (nI (hz A m f).2) (nI f) (nI 0) (nI ((hz A m f).1 0 + 2 * A 8 (f * m))) 1 h = _ from e0]
      have hle := hb2_le A m f (hz A m f).1 (m - 1)
      by_cases q : nI f = a3
      · rw [if_neg (fun z => z q)]
        refine ⟨h, ?_, hk⟩
        unfold hAns
        rw [← q, if_neg (by rw [l100, eq_nn (by omega) (by decide)]; omega), nI_clamp (by omega)]
      · rw [if_pos q]
        refine ih (f + 1) _ (by omega) (by omega) ⟨b.1, by rw [up_n (by decide)]; exact b.2.1, fun i hi => by rw [up_n (by decide)]; exact b.2.2 i hi⟩ (fun c hc => ?_) (fun k hk1 => by rw [up_n hk1]; exact hk k hk1) (fun j h1 h2 => ?_)
        · rw [up_at]
          simp only [hz, upN]
          by_cases q2 : c = hb2 A m f (hz A m f).1 (m - 1)
          · rw [if_pos ⟨trivial, q2⟩, if_pos q2]
          · rw [if_neg (fun z => q2 z.2), if_neg q2]; exact hh c hc
        · have h3 := hj j h1 h2
          have : f ≠ j := fun z => q (by rw [z, ← h1])
          omega
theorem maxM_e {a b : Nat} (ha : a < 2147483648) (hb : b < 2147483648) (h : HP) : xX11_max (nI a) (nI b) h = some (nI (max a b), h) := by
  unfold xX11_max
  by_cases q : b < a
  · simp (disch := omega) only [le_nn, lt_nn]
    first
      | (rw [if_neg (by omega), Nat.max_eq_left (by omega)]; done)
      | (rw [if_pos (by omega), Nat.max_eq_left (by omega)]; done)
      | (unfold xX11_max_10; rw [if_neg (by omega), Nat.max_eq_left (by omega)]; done)
      | (unfold xX11_max_10; rw [if_pos (by omega), Nat.max_eq_left (by omega)]; done)
  · simp (disch := omega) only [le_nn, lt_nn]
    first
      | (rw [if_neg (by omega), Nat.max_eq_right (by omega)]; done)
      | (rw [if_pos (by omega), Nat.max_eq_right (by omega)]; done)
      | (unfold xX11_max_10; rw [if_neg (by omega), Nat.max_eq_right (by omega)]; done)
      | (unfold xX11_max_10; rw [if_pos (by omega), Nat.max_eq_right (by omega)]; done)
theorem hoseM_in {n0 f last : Nat} {bz : Nat → Nat} {a3 : Int32} {h : HP} {K : Int32 → Int32 → Int32 → Int32 → Int32 → HP → Option (Int32 × HP)} (b : BM A (n0 * m) h) (hf : f < n0) (hn0 : n0 ≤ 12) (hm1 : 1 ≤ m) (hm6 : m ≤ 6) (h8 : ∀ i, i < n0 * m → A 8 i < 256) (hbz : ∀ b, bz b ≤ 6120) (hl : last ≤ 6120) (hh : ∀ b, b < m → h.1 38 b = nI (bz b)) : ∀ n k, k < m → m - (k + 1) < n →
    xX11_hose_95 N K n (nI n0) (nI m) a3 (nI last) (nI f) (nI (hb2 A m f bz k)) (nI (k + 1)) h = K (nI n0) (nI m) a3 (nI (max last (hc A m f bz (hb2 A m f bz (m - 1))))) (nI (f + 1)) (up (up h 38 (hb2 A m f bz (m - 1)) (nI (hc A m f bz (hb2 A m f bz (m - 1))))) 39 f (nI (hb2 A m f bz (m - 1)))) := by
  have hcb : ∀ j, j < m → hc A m f bz j < 10000 := fun j hj => by
    have := h8 _ (idx_lt hf hj)
    have := hbz j
    unfold hc
    omega
  have cst : ∀ j, j < m → h.1 38 j + 2 * nI (A 8 (f * m + j)) = nI (hc A m f bz j) := fun j hj => by
    rw [hh j hj, l2, mul_nn, add_nn]; rfl
  intro n
  induction n with
  | zero => intro k _ q; omega
  | succ n ih =>
    intro k hk hq
    rw [xX11_hose_95]
    dsimp only
    have hle := hb2_le A m f bz k
    have c1 := hcb (hb2 A m f bz k) (by omega)
    have em : m * f = f * m := Nat.mul_comm _ _
    by_cases e : k + 1 = m
    · rw [if_pos (by rw [e, le_nn (by omega) (by omega)]; omega), show m - 1 = k by omega, ald_n (by omega) (by decide), mul_nn, em, add_nn, octet_e b (idx_lt hf (by omega)), cl_s, cst _ (by omega), ast_n (by omega) (by decide), ast_n (by omega) (by decide), ald_n (by omega) (by decide), up_n (by decide), up_at, if_pos ⟨rfl, rfl⟩, maxM_e (by omega) (by omega), cl_s, lt_e, nI_1]
    · have c2 := hcb (k + 1) (by omega)
      rw [if_neg (by rw [le_nn (by omega) (by omega)]; omega), ald_n (by omega) (by decide), mul_nn, em, add_nn, octet_e b (idx_lt hf (by omega)), cl_s, ald_n (by omega) (by decide), add_nn, octet_e b (idx_lt hf (by omega)), cl_s, cst _ (by omega), cst _ (by omega)]
      unfold xX11_hose_150
      rw [lt_e, lt_e, nI_1]
      have ih1 := ih (k + 1) (by omega) (by omega)
      rw [← ih1]
      simp only [hb2]
      by_cases q : hc A m f bz (k + 1) < hc A m f bz (hb2 A m f bz k)
      · rw [if_neg (by rw [le_nn (by omega) (by omega)]; omega), if_pos q]
      · rw [if_pos (by rw [le_nn (by omega) (by omega)]; omega), if_neg q]
theorem hoseM_l {n0 : Nat} {a3 : Int32} {h0 : HP} (hN : 100 ≤ N) (ha : a3 = 100 ∨ ∃ j, j < n0 ∧ a3 = nI j) (hn0 : n0 ≤ 12) (hm1 : 1 ≤ m) (hm6 : m ≤ 6) (h8 : ∀ i, i < n0 * m → A 8 i < 256) : ∀ n f h, f ≤ n0 → n0 - f < n → BM A (n0 * m) h → (∀ b, b < m → h.1 38 b = nI ((hz A m f).1 b)) → (∀ j, j < f → h.1 39 j = nI (hb2 A m j (hz A m j).1 (m - 1))) → (∀ k, k ≠ 38 → k ≠ 39 → h.1 k = h0.1 k) → ∃ h', xX11_hose_83 N n (nI n0) (nI m) a3 (nI (hz A m f).2) (nI f) h = some (hAns A m n0 a3, h') ∧ ∀ k, k ≠ 38 → k ≠ 39 → h'.1 k = h0.1 k := by
  intro n
  induction n with
  | zero => intro f h _ q; omega
  | succ n ih =>
    intro f h hf hq b hh hg hk
    rw [xX11_hose_83]
    dsimp only
    by_cases e : f = n0
    · rw [if_pos (by rw [e, le_nn (by omega) (by omega)]; omega), e]
      unfold xX11_hose_230
      by_cases a1 : a3 = 100
      · rw [if_neg (fun z => z a1)]
        exact ⟨h, by unfold hAns; rw [if_pos a1], hk⟩
      · rw [if_pos a1]
        rcases ha with ha | ⟨j, hj1, hj2⟩
        · exact absurd ha a1
        · subst hj2
          rw [ald_n (by omega) (by decide), hg j (by omega)]
          exact ⟨h, by unfold hAns; rw [if_neg a1, nI_clamp (by omega)], hk⟩
    · have hlt : f < n0 := by omega
      obtain ⟨bd1, bd2⟩ := hz_bd (fun _ => Or.inr trivial) h8 hm1 f hf
      have e0 := hoseM_in (N := N) (K := xX11_hose_83 N n) (a3 := a3) (last := (hz A m f).2) (bz := (hz A m f).1) b hlt hn0 hm1 hm6 h8 (fun b => by have := bd1 b; omega) (by omega) hh N 0 (by omega) (by omega)
      rw [if_neg (by rw [le_nn (by omega) (by omega)]; omega)]
      rw [show xX11_hose_95 N (xX11_hose_83 N n) N (nI n0) (nI m) a3 (nI (hz A m f).2) (nI f) 0 1 h = _ from e0]
      refine ih (f + 1) _ (by omega) (by omega) ⟨b.1, fun i hi => by rw [up_n (by decide), up_n (by decide)]; exact b.2 i hi⟩ (fun c hc => ?_) (fun j hj => ?_) (fun k h1 h2 => by rw [up_n h2, up_n h1]; exact hk k h1 h2)
      · rw [up_n (by decide), up_at]
        simp only [hz, upN]
        by_cases q2 : c = hb2 A m f (hz A m f).1 (m - 1)
        · rw [if_pos ⟨trivial, q2⟩, if_pos q2]
        · rw [if_neg (fun z => q2 z.2), if_neg q2]; exact hh c hc
      · rw [up_at]
        by_cases q2 : j = f
        · rw [if_pos ⟨rfl, q2⟩, q2]
        · rw [if_neg (fun z => q2 z.2), up_n (by decide)]; exact hg j (by omega)
theorem hoseM_0 {n0 : Nat} {a3 : Int32} {h0 : HP} {P : Option (Int32 × HP) → Prop} (hm6 : m ≤ 6) (hP : ∀ h, (∀ b, b < m → h.1 38 b = 0) → (∀ k, k ≠ 38 → h.1 k = h0.1 k) → P (xX11_hose_83 N N (nI n0) (nI m) a3 0 0 h)) : ∀ n i h, i ≤ m → m - i < n → (∀ b, b < i → h.1 38 b = 0) → (∀ k, k ≠ 38 → h.1 k = h0.1 k) → P (xX11_hose_60 N n (nI n0) (nI m) a3 0 (nI i) h) := by
  intro n
  induction n with
  | zero => intro i h _ q; omega
  | succ n ih =>
    intro i h hi hq h1 h2
    rw [xX11_hose_60]
    dsimp only
    by_cases e : i = m
    · rw [if_pos (by rw [e, le_nn (by omega) (by omega)]; omega)]
      exact hP h (fun b hb => h1 b (by omega)) h2
    · rw [if_neg (by rw [le_nn (by omega) (by omega)]; omega), ast_n (by omega) (by decide), lt_e, nI_1]
      refine ih (i + 1) _ (by omega) (by omega) (fun b hb => ?_) (fun k hk => by rw [up_n hk]; exact h2 k hk)
      rw [up_at]
      by_cases q : b = i
      · rw [if_pos ⟨rfl, q⟩]
      · rw [if_neg (fun z => q z.2)]; exact h1 b (by omega)
theorem c_hose (hN : 100 ≤ N) (w : WF A) (rx : RX A hx) (rm : RM A hm) (a b c : Int32) : CC (xX10_hose N a b c hx) (xX11_hose N a b c hm) hx hm := by
  have wp := w.2.2.1
  have none_ : ∀ {dx dm : Option (Int32 × HP)}, dx = some (-1, hx) → dm = some (-1, hm) → CC dx dm hx hm := fun e1 e2 => (QQ.rf (-1) e1 e2).cc w rx rm
  have z26 : xX10_hose_26 N a b c hx = some (-1, hx) := by
    unfold xX10_hose_26 xX10_hose_27 xX10_hose_44 xX10_hose_48 xX10_hose_49 xX10_hose_77
    simp
  unfold xX10_hose xX11_hose xX11_hose_47
  rw [z26]
  by_cases h1 : a < 1
  · exact none_ (by rw [if_pos h1]) (by rw [in_neg h1, cl_s, if_pos rfl])
  · rw [if_neg h1]
    by_cases h2 : (12 : Int32) < a
    · exact none_ (by rw [if_pos h2]) (by rw [inM_e, decide_eq_false (fun z => z.2 h2), b2_f, cl_s, if_pos rfl])
    · have i1 : xX11_in a 1 12 hm = some (1, hm) := by rw [inM_e, decide_eq_true ⟨h1, h2⟩, b2_t]
      rw [if_neg h2, i1, cl_s, if_neg (show ¬ (1 : Int32) = 0 from by decide)]
      by_cases h3 : b < 1
      · exact none_ (by rw [if_pos h3]) (by rw [in_neg h3, cl_s, if_pos rfl])
      · rw [if_neg h3]
        by_cases h4 : (6 : Int32) < b
        · exact none_ (by rw [if_pos h4]) (by rw [inM_e, decide_eq_false (fun z => z.2 h4), b2_f, cl_s, if_pos rfl])
        · have i2 : xX11_in b 1 6 hm = some (1, hm) := by rw [inM_e, decide_eq_true ⟨h3, h4⟩, b2_t]
          rw [if_neg h4, i2, cl_s, if_neg (show ¬ (1 : Int32) = 0 from by decide)]
          obtain ⟨n0, hn1, hn2, rfl⟩ : ∃ n0, 1 ≤ n0 ∧ n0 ≤ 12 ∧ a = nI n0 := by
            obtain ⟨j, hj, e⟩ := nI_of (x := a) (fun z => h1 (by rw [i_lt] at z ⊢; rw [show (0 : Int32).toInt = 0 from by decide] at z; rw [show (1 : Int32).toInt = 1 from by decide]; omega))
            rw [e, l1, lt_nn hj (by decide)] at h1
            rw [e, l12, lt_nn (by decide) hj] at h2
            exact ⟨j, by omega, by omega, e⟩
          obtain ⟨m0, hm1, hm2, rfl⟩ : ∃ m0, 1 ≤ m0 ∧ m0 ≤ 6 ∧ b = nI m0 := by
            obtain ⟨j, hj, e⟩ := nI_of (x := b) (fun z => h3 (by rw [i_lt] at z ⊢; rw [show (0 : Int32).toInt = 0 from by decide] at z; rw [show (1 : Int32).toInt = 1 from by decide]; omega))
            rw [e, l1, lt_nn hj (by decide)] at h3
            rw [e, l6, lt_nn (by decide) hj] at h4
            exact ⟨j, by omega, by omega, e⟩
          have hnm : n0 * m0 ≤ 72 := Nat.mul_le_mul hn2 hm2
          have hnm1 : 1 ≤ n0 * m0 := Nat.mul_le_mul hn1 hm1
          -- the asked one
          have ask : (c = 100 ∨ ∃ j, j < n0 ∧ c = nI j) → CC (xX10_hose_44 N (nI n0) (nI m0) c 1 hx) (xX11_hose_37 N (nI n0) (nI m0) c hm) hx hm := by
            intro hc
            unfold xX10_hose_44 xX10_hose_49 xX10_hose_77 xX11_hose_37 xX11_hose_47
            rw [if_neg (show ¬ (1 : Int32) = 0 from by decide), if_neg (show ¬ (1 : Int32) = 0 from by decide), mul_nn, gives_e, rm.2.2.1.1, ← rx.2.2.1.1]
            by_cases h5 : nI (n0 * m0) ≤ hx.1 1 1
            · have hk1 : n0 * m0 ≤ A 0 6 := by
                rw [rx.2.2.1.1, le_nn (by omega) (by omega)] at h5
                exact h5
              rw [if_pos ⟨by rw [l1, lt_nn (by omega) (by decide)]; omega, by rw [show (72 : Int32) = nI 72 from rfl, lt_nn (by decide) (by omega)]; omega, h5⟩, cl_s, if_pos (show (1 : Int32) ≠ 0 from by decide), if_pos h5, lt_e]
              obtain ⟨h6, e6, k6, z6, -⟩ := fill_e (N := N) (na := 6) (ka := 58) 0 (gvX hx (nI (n0 * m0))) (by decide) (by omega)
              have bx := BX.of w rx hk1
              obtain ⟨h7, e7, k7⟩ := hoseX_l (A := A) (N := N) (h0 := h6) hN hc hn2 hm1 hm2 (fun i hi => wp.2 i (by omega)) N 0 h6 (by omega) (by omega) ⟨bx.1, by rw [k6 1 (by decide)]; exact bx.2.1, fun i hi => by rw [k6 2 (by decide)]; exact bx.2.2 i hi⟩ (fun b hb => z6 b hb) (fun _ _ => rfl) (fun j _ _ => by omega)
              rw [e6, cl_s, show xX10_hose_93 N N (nI n0) (nI m0) c 0 0 h6 = _ from e7]
              have bm := BM.of w rm hk1
              obtain ⟨h8, e8, k8⟩ := hoseM_0 (N := N) (m := m0) (n0 := n0) (a3 := c) (h0 := up hm 0 10 0) (P := fun d => ∃ h', d = some (hAns A m0 n0 c, h') ∧ ∀ k, k ≠ 38 → k ≠ 39 → h'.1 k = (up hm 0 10 0).1 k) hm2 (fun h q1 q2 => hoseM_l (A := A) hN hc hn2 hm1 hm2 (fun i hi => wp.2 i (by omega)) N 0 h (by omega) (by omega) ⟨bm.1, fun i hi => by rw [q2 8 (by decide)]; exact bm.2 i hi⟩ (fun b hb => q1 b hb) (fun j hj => by omega) (fun k h1 _ => q2 k h1)) N 0 (up hm 0 10 0) (by omega) (by omega) (fun b hb => by omega) (fun _ _ => rfl)
              rw [show xX11_hose_60 N N (nI n0) (nI m0) c 0 0 (up hm 0 10 0) = _ from e8]
              have kx : keX (gvX hx (nI (n0 * m0))) h7 := by
                refine ⟨fun k q1 q2 => ?_, ?_, fun k q1 q2 q3 => ?_⟩
                · rw [k7 k (by omega), k6 k (by omega)]
                · rw [k7 1 (by omega), k6 1 (by omega)]
                · rw [k7 k (by omega), k6 k (by omega)]
              have km : keM (up hm 0 10 0) h8 := ⟨fun j _ => by rw [k8 0 (by decide) (by decide)], fun k q1 => k8 k (by omega) (by omega)⟩
              exact ⟨_, h7, h8, tpA A 0 (A 8), rfl, rfl, w.gv, kx.RX (rx.gv _), km.RM rm.gv, (leX.gv _ _).tr kx.le, (leM.gv _).tr km.le⟩
            · exact none_ (by rw [if_neg (fun z => h5 z.2.2), cl_s, if_neg (by decide)]) (by rw [if_neg h5])
          unfold xX10_hose_27
          by_cases h5 : c = 100
          · rw [if_pos h5]
            have e0 : (if b2 (decide (¬ c < 0 ∧ ¬ nI n0 - 1 < c)) ≠ 0 then xX11_hose_37 N (nI n0) (nI m0) c hm else if c ≠ 100 then some (-1, hm) else xX11_hose_37 N (nI n0) (nI m0) c hm) = xX11_hose_37 N (nI n0) (nI m0) c hm := by
              rw [if_neg (show ¬ c ≠ 100 from fun z => z h5)]
              split <;> rfl
            rw [inM_e, cl_s, e0]
            exact ask (Or.inl h5)
          · rw [if_neg h5]
            have z48 : xX10_hose_48 N (nI n0) (nI m0) c 1 hx = some (-1, hx) := by
              unfold xX10_hose_48 xX10_hose_49 xX10_hose_77
              simp
            by_cases h6 : c < 0
            · exact none_ (by rw [if_pos h6, z48]) (by rw [in_neg h6, cl_s, if_neg (by decide), if_pos h5])
            · obtain ⟨j, hj, rfl⟩ := nI_of h6
              rw [if_neg h6, inP hj (by omega), cl_s]
              by_cases h7 : j < n0
              · rw [if_neg (by rw [le_nn (by omega) hj]; omega), decide_eq_true h7, b2_t, if_pos (by decide)]
                exact ask (Or.inr ⟨j, h7, rfl⟩)
              · exact none_ (by rw [if_pos (by rw [le_nn (by omega) hj]; omega), z48]) (by rw [decide_eq_false h7, b2_f, if_neg (by decide), if_pos h5])
end HO
