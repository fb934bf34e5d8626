/-! ===== all steps; farthest ===== -/
/-- the rows of steps of told corners -/
def AR (A : AS) (op : Nat) (h : HP) : Prop := ∀ c, c < 16 → (A 0 0).testBit c = true → ∀ d, d < 16 → h.1 29 (16 * c + d) = fI (dn A (am op) c d)
abbrev St3 : Type := Nat × Nat × Nat
noncomputable def frS (A : AS) (op c d : Nat) (s : St3) : St3 := if dn A (am op) c d ≠ 100 ∧ s.1 < dn A (am op) c d then (dn A (am op) c d, c, d) else s
noncomputable def frD (A : AS) (op c : Nat) (s : St3) : Nat → St3
  | 0 => s
  | k + 1 => frS A op c (c + 1 + k) (frD A op c s k)
noncomputable def frC (A : AS) (op f : Nat) : Nat → St3
  | 0 => (0, f, f)
  | k + 1 => if (A 0 0).testBit (f + k) = true then frD A op (f + k) (frC A op f k) (15 - (f + k)) else frC A op f k
def enc (s : St3) : Nat := 256 * s.1 + 16 * s.2.1 + s.2.2
theorem enc_or {m o t : Nat} (ho : o < 16) (ht : t < 16) : (m * 2 ^ 8 ||| o * 2 ^ 4) ||| t = enc (m, o, t) := by
  have e1 : m * 2 ^ 8 ||| o * 2 ^ 4 = 2 ^ 4 * (16 * m + o) := by
    rw [Nat.mul_comm m, ← Nat.two_pow_add_eq_or_of_lt (by omega)]
    omega
  rw [e1, ← Nat.two_pow_add_eq_or_of_lt (by omega)]
  unfold enc
  dsimp only
  omega
section FA
variable {A : AS} {hx hm : HP} {N op : Nat}
def okS (s : St3) : Prop := s.1 < 16 ∧ s.2.1 < 16 ∧ s.2.2 < 16
theorem frS_ok (w : WFt A) {c d : Nat} (hc : c < 16) (hd : d < 16) {s : St3} (h : okS s) : okS (frS A op c d s) := by
  unfold frS
  split
  · rename_i q
    rcases dn_cases (d := d) (act := am op) w hc with z | z
    · exact ⟨z.1, hc, hd⟩
    · exact absurd z.1 q.1
  · exact h
theorem frD_ok (w : WFt A) {c : Nat} (hc : c < 16) {s : St3} (h : okS s) : ∀ k, k ≤ 15 - c → okS (frD A op c s k) := by
  intro k
  induction k with
  | zero => intro _; exact h
  | succ k ih => intro hk; exact frS_ok w hc (by omega) (ih (by omega))
theorem frC_ok (w : WFt A) {f : Nat} (hf : f < 16) : ∀ k, f + k ≤ 16 → okS (frC A op f k) := by
  intro k
  induction k with
  | zero => intro _; exact ⟨by show (0 : Nat) < 16; omega, hf, hf⟩
  | succ k ih =>
    intro hk
    simp only [frC]
    split
    · exact frD_ok w (by omega) (ih (by omega)) _ (Nat.le_refl _)
    · exact ih (by omega)
theorem farX_in {c : Nat} (w : WFt A) (hc : c < 16) {h : HP} (hd : ∀ d, d < 16 → h.1 47 d = fI (dn A (am op) c d)) {s : St3} (hs : okS s) {K : Int32 → Int32 → Int32 → HP → Option (Int32 × HP)} : ∀ n k, k ≤ 15 - c → 15 - c - k < n → xX3_farthestPair_57 N K n (nI (frD A op c s k).1) (nI (enc (frD A op c s k))) (nI c) (nI (c + 1 + k)) h = K (nI (frD A op c s (15 - c)).1) (nI (enc (frD A op c s (15 - c)))) (nI (c + 1)) h := by
  intro n
  induction n with
  | zero => intro k _ q; omega
  | succ n ih =>
    intro k hk hq
    rw [xX3_farthestPair_57]
    dsimp only
    by_cases e : k = 15 - c
    · rw [if_pos (by rw [l16, le_nn (by omega) (by omega)]; omega)]
      unfold xX3_farthestPair_102
      rw [lt_e, nI_1, e]
    · have hlt : c + 1 + k < 16 := by omega
      have ok := frD_ok (op := op) w hc hs k hk
      have dc : dn A (am op) c (c + 1 + k) < 16 ∨ dn A (am op) c (c + 1 + k) = 100 := by
        rcases dn_cases (d := c + 1 + k) (act := am op) w hc with z | z
        · exact Or.inl z.1
        · exact Or.inr z.1
      rw [if_neg (by rw [l16, le_nn (by decide) (by omega)]; omega), ald_n hlt (by decide), ald_n hlt (by decide), hd _ hlt]
      unfold xX3_farthestPair_96
      simp only [lt_e, nI_1]
      have ih1 := ih (k + 1) (by omega) (by omega)
      rw [← ih1, show c + 1 + (k + 1) = c + 1 + k + 1 by omega]
      simp only [frD, frS]
      by_cases q : dn A (am op) c (c + 1 + k) ≠ 100 ∧ (frD A op c s k).1 < dn A (am op) c (c + 1 + k)
      · have e1 : fI (dn A (am op) c (c + 1 + k)) = nI (dn A (am op) c (c + 1 + k)) := by unfold fI; rw [if_neg q.1]
        rw [if_neg (by rw [fI_le dc ok.1]; omega), if_pos q, e1, l8, l4, shl_nn (by omega) (by omega), shl_nn (by omega) (by omega), or_nn, or_nn, enc_or (by omega) hlt]
      · rw [if_pos (by rw [fI_le dc ok.1]; omega), if_neg q]
theorem farX_l {f : Nat} (hN : 100 ≤ N) (w : WFt A) (w1 : A 0 0 < 65536) (hf : f < 16) {h0 : HP} (t0 : TX A h0) (hnr : NR A op h0) : ∀ n k h, f + k ≤ 16 → 16 - (f + k) < n → sF h0 h → ∃ h', xX3_farthestPair_22 N n (nI (frC A op f k).1) (nI (enc (frC A op f k))) (nI (f + k)) h = some (nI (enc (frC A op f (16 - f))), h') ∧ sF h0 h' := by
  intro n
  induction n with
  | zero => intro k h _ q; omega
  | succ n ih =>
    intro k h hk hq hs
    rw [xX3_farthestPair_22]
    dsimp only
    by_cases e : f + k = 16
    · rw [if_pos (by rw [l16, le_nn (by omega) (by omega)]; omega), show k = 16 - f by omega]
      exact ⟨h, rfl, hs⟩
    · have hc : f + k < 16 := by omega
      rw [if_neg (by rw [l16, le_nn (by decide) (by omega)]; omega), isToldX w1 (by rw [hs 3 (by decide)]; exact t0.1), cl_s, tld_n hc]
      have nx : frC A op f (k + 1) = if (A 0 0).testBit (f + k) = true then frD A op (f + k) (frC A op f k) (15 - (f + k)) else frC A op f k := rfl
      cases ht : (A 0 0).testBit (f + k)
      · rw [b2_f, if_neg (by decide)]
        unfold xX3_farthestPair_102
        rw [lt_e, nI_1]
        have ih1 := ih (k + 1) h (by omega) (by omega) hs
        rw [nx, ht] at ih1
        exact ih1
      · obtain ⟨S, h2, e2, s2, -, d2⟩ := measureFrom_e (A := A) (N := N) (op := op) hN w hc (h := h) (fun x hx => by rw [hs 46 (by decide)]; exact hnr x hx)
        rw [b2_t, if_pos (by decide), e2, cl_s, lt_e, nI_1]
        have e3 := farX_in (N := N) (op := op) (h := h2) w hc (fun d hd => (d2 d hd).e) (frC_ok (op := op) w hf k (by omega)) (K := xX3_farthestPair_22 N n) N 0 (by omega) (by omega)
        rw [show xX3_farthestPair_57 N (xX3_farthestPair_22 N n) N (nI (frC A op f k).1) (nI (enc (frC A op f k))) (nI (f + k)) (nI (f + k + 1)) h2 = _ from e3]
        have ih1 := ih (k + 1) h2 (by omega) (by omega) (fun q hq1 => by rw [s2 q hq1]; exact hs q hq1)
        rw [nx, ht] at ih1
        exact ih1
theorem allSteps_l (hN : 100 ≤ N) (w : WFt A) (w1 : A 0 0 < 65536) (hn : A 0 1 ≤ 24) {h0 : HP} (t0 : TM A h0) (s0 : ∀ p, p < A 0 1 → h0.1 1 (48 + p) = nI (op / 2 ^ p % 2)) : ∀ n i h, i ≤ 16 → 16 - i < n → (∀ k, k ≠ 0 → k ≠ 28 → k ≠ 29 → h.1 k = h0.1 k) → (∀ j, j ≠ 44 → h.1 0 j = h0.1 0 j) → (∀ c, c < i → (A 0 0).testBit c = true → ∀ d, d < 16 → h.1 29 (16 * c + d) = fI (dn A (am op) c d)) → ∃ h', xX11_laysAllSteps_2 N n (nI i) h = some (0, h') ∧ (∀ k, k ≠ 0 → k ≠ 28 → k ≠ 29 → h'.1 k = h0.1 k) ∧ (∀ j, j ≠ 44 → h'.1 0 j = h0.1 0 j) ∧ AR A op h' := by
  intro n
  induction n with
  | zero => intro i h _ q; omega
  | succ n ih =>
    intro i h hi hq k1 k2 hr
    have t : TM A h := by
      obtain ⟨t1, t2, t3, t4⟩ := t0
      exact ⟨by rw [k2 7 (by decide)]; exact t1, by rw [k2 8 (by decide)]; exact t2, fun c hc => by rw [k1 4 (by decide) (by decide) (by decide)]; exact t3 c hc, fun p hp => by rw [k1 5 (by decide) (by decide) (by decide), k1 6 (by decide) (by decide) (by decide), k1 7 (by decide) (by decide) (by decide)]; exact t4 p hp⟩
    have s : ∀ p, p < A 0 1 → h.1 1 (48 + p) = nI (op / 2 ^ p % 2) := fun p hp => by rw [k1 1 (by decide) (by decide) (by decide)]; exact s0 p hp
    rw [xX11_laysAllSteps_2]
    dsimp only
    by_cases e : i = 16
    · subst e
      rw [if_pos (by decide)]
      exact ⟨h, rfl, k1, k2, hr⟩
    · have hc : i < 16 := by omega
      rw [if_neg (by rw [l16, le_nn (by decide) (by omega)]; omega), isToldM w1 t.1, cl_s, tld_n hc]
      unfold xX11_laysAllSteps_22
      simp only [lt_e, nI_1]
      cases ht : (A 0 0).testBit i
      · rw [b2_f, if_pos rfl]
        refine ih (i + 1) h (by omega) (by omega) k1 k2 (fun c hc1 hc2 => ?_)
        by_cases c1 : c = i
        · rw [c1, ht] at hc2; cases hc2
        · exact hr c (by omega) hc2
      · obtain ⟨h5, e5, k5, j5, r5, d5⟩ := laysSteps_e (N := N) (op := op) hN w hn t s hc (-1)
        rw [b2_t, if_neg (by decide), e5, cl_s]
        refine ih (i + 1) h5 (by omega) (by omega) (fun k q1 q2 q3 => by rw [k5 k q1 q2 q3]; exact k1 k q1 q2 q3) (fun j hj => by rw [j5 j hj]; exact k2 j hj) (fun c hc1 hc2 d hd => ?_)
        by_cases c1 : c = i
        · subst c1
          exact (isDs_act (ak_am hn) (d5 d hd)).e
        · rw [r5 _ (by omega)]; exact hr c (by omega) hc2 d hd
theorem allSteps_e (hN : 100 ≤ N) (w : WFt A) (w1 : A 0 0 < 65536) (hn : A 0 1 ≤ 24) {h : HP} (t0 : TM A h) (s0 : ∀ p, p < A 0 1 → h.1 1 (48 + p) = nI (op / 2 ^ p % 2)) : ∃ h', xX11_laysAllSteps N h = some (0, h') ∧ (∀ k, k ≠ 0 → k ≠ 28 → k ≠ 29 → h'.1 k = h.1 k) ∧ (∀ j, j ≠ 44 → h'.1 0 j = h.1 0 j) ∧ AR A op h' :=
  allSteps_l (N := N) hN w w1 hn t0 s0 N 0 h (by omega) (by omega) (fun _ _ _ _ => rfl) (fun _ _ => rfl) (fun c hc => by omega)
theorem dn_self {c : Nat} {act : Nat → Bool} : dn A act c c = 0 := dn_of (A := A) (act := act) (c := c) (d := c) (g := 0) rfl (fun j hj => by omega)
theorem farM_e {c d : Nat} {h : HP} (hr : AR A op h) (hc : c < 16) (ht : (A 0 0).testBit c = true) (hd : d < 16) : xX11_far (nI c) (nI d) h = some (fI (dn A (am op) c d), h) := by
  unfold xX11_far
  rw [l16, mul_nn, add_nn, ald_n (by omega) (by decide), hr c hc ht d hd]
theorem dn_told {c d : Nat} {act : Nat → Bool} (w : WFt A) (hc : c < 16) (ht : (A 0 0).testBit c = true) (hd : (A 0 0).testBit d = false) : dn A act c d = 100 := by
  rcases dn_cases (d := d) (act := act) w hc with z | z
  · have := rc_told w ht _ d z.2.1
    rw [hd] at this; cases this
  · exact z.1
theorem farM_in {c : Nat} (w : WFt A) (w1 : A 0 0 < 65536) (hc : c < 16) (ht : (A 0 0).testBit c = true) {h : HP} (t : h.1 0 7 = nI (A 0 0)) (hr : AR A op h) {s : St3} (hs : okS s) (a : Int32) {K : Int32 → Int32 → Int32 → Int32 → Int32 → HP → Option (Int32 × HP)} : ∀ n k, k ≤ 15 - c → 15 - c - k < n → xX11_farthest_39 N K n a (nI (frD A op c s k).2.1) (nI (frD A op c s k).2.2) (nI (frD A op c s k).1) (nI c) (nI (c + 1 + k)) h = K a (nI (frD A op c s (15 - c)).2.1) (nI (frD A op c s (15 - c)).2.2) (nI (frD A op c s (15 - c)).1) (nI (c + 1)) h := by
  intro n
  induction n with
  | zero => intro k _ q; omega
  | succ n ih =>
    intro k hk hq
    rw [xX11_farthest_39]
    dsimp only
    by_cases e : k = 15 - c
    · rw [if_pos (by rw [l16, le_nn (by omega) (by omega)]; omega), lt_e, nI_1, e]
    · have hlt : c + 1 + k < 16 := by omega
      have ok := frD_ok (op := op) w hc hs k hk
      have dc : dn A (am op) c (c + 1 + k) < 16 ∨ dn A (am op) c (c + 1 + k) = 100 := by
        rcases dn_cases (d := c + 1 + k) (act := am op) w hc with z | z
        · exact Or.inl z.1
        · exact Or.inr z.1
      rw [if_neg (by rw [l16, le_nn (by decide) (by omega)]; omega), isToldM w1 t, cl_s, tld_n hc, ht, b2_t, if_neg (by decide), isToldM w1 t, cl_s, tld_n hlt]
      unfold xX11_farthest_96
      simp only [lt_e, nI_1]
      have ih1 := ih (k + 1) (by omega) (by omega)
      rw [show c + 1 + (k + 1) = c + 1 + k + 1 by omega] at ih1
      rw [← ih1]
      simp only [frD, frS]
      cases ht2 : (A 0 0).testBit (c + 1 + k)
      · rw [b2_f, if_pos rfl, if_neg (fun z => z.1 (dn_told w hc ht ht2))]
      · rw [b2_t, if_neg (by decide), farM_e hr hc ht hlt, cl_s, farM_e hr hc ht hlt, cl_s]
        by_cases q : dn A (am op) c (c + 1 + k) ≠ 100 ∧ (frD A op c s k).1 < dn A (am op) c (c + 1 + k)
        · have e1 : fI (dn A (am op) c (c + 1 + k)) = nI (dn A (am op) c (c + 1 + k)) := by unfold fI; rw [if_neg q.1]
          rw [if_pos (by rw [← Int32.not_le, fI_le dc ok.1]; omega), if_pos q, e1]
        · rw [if_neg (by rw [← Int32.not_le, fI_le dc ok.1]; omega), if_neg q]
theorem farM_skip {c : Nat} (w1 : A 0 0 < 65536) (hc : c < 16) (ht : (A 0 0).testBit c = false) {h : HP} (t : h.1 0 7 = nI (A 0 0)) (a x y z : Int32) {K : Int32 → Int32 → Int32 → Int32 → Int32 → HP → Option (Int32 × HP)} : ∀ n d, d ≤ 16 → 16 - d < n → xX11_farthest_39 N K n a x y z (nI c) (nI d) h = K a x y z (nI (c + 1)) h := by
  intro n
  induction n with
  | zero => intro d _ q; omega
  | succ n ih =>
    intro d hd hq
    rw [xX11_farthest_39]
    dsimp only
    by_cases e : d = 16
    · rw [if_pos (by rw [l16, le_nn (by omega) (by omega)]; omega), lt_e, nI_1]
    · rw [if_neg (by rw [l16, le_nn (by decide) (by omega)]; omega), isToldM w1 t, cl_s, tld_n hc, ht, b2_f, if_pos rfl]
      unfold xX11_farthest_96
      rw [lt_e, nI_1]
      exact ih (d + 1) (by omega) (by omega)
/-- the pick of an answer -/
def frV (a : Int32) (s : St3) : Int32 := if a = 0 then nI s.1 else if a = 1 then nI s.2.1 else nI s.2.2
theorem farM_l {f : Nat} (hN : 100 ≤ N) (w : WFt A) (w1 : A 0 0 < 65536) (hf : f < 16) {h : HP} (t : h.1 0 7 = nI (A 0 0)) (hr : AR A op h) (a : Int32) : ∀ n k, f + k ≤ 16 → 16 - (f + k) < n → xX11_farthest_28 N n a (nI (frC A op f k).2.1) (nI (frC A op f k).2.2) (nI (frC A op f k).1) (nI (f + k)) h = some (frV a (frC A op f (16 - f)), h) := by
  intro n
  induction n with
  | zero => intro k _ q; omega
  | succ n ih =>
    intro k hk hq
    rw [xX11_farthest_28]
    dsimp only
    by_cases e : f + k = 16
    · rw [if_pos (by rw [l16, le_nn (by omega) (by omega)]; omega), show k = 16 - f by omega]
      unfold xX11_farthest_127 frV
      by_cases a0 : a = 0
      · simp [a0]
      · by_cases a1 : a = 1
        · simp [a1]
        · simp [a0, a1]
    · have hc : f + k < 16 := by omega
      rw [if_neg (by rw [l16, le_nn (by decide) (by omega)]; omega)]
      have nx : frC A op f (k + 1) = if (A 0 0).testBit (f + k) = true then frD A op (f + k) (frC A op f k) (15 - (f + k)) else frC A op f k := rfl
      have ih1 := ih (k + 1) (by omega) (by omega)
      have ok := frC_ok (op := op) w hf k (by omega)
      cases ht : (A 0 0).testBit (f + k)
      · rw [farM_skip (N := N) w1 hc ht t _ _ _ _ N (f + k) (by omega) (by omega)]
        rw [nx, ht] at ih1
        exact ih1
      · obtain ⟨M, rfl⟩ : ∃ M, N = M + 1 := ⟨N - 1, by omega⟩
        rw [xX11_farthest_39]
        dsimp only
        rw [if_neg (by rw [l16, le_nn (by decide) (by omega)]; omega), isToldM w1 t, cl_s, tld_n hc, ht, b2_t, if_neg (by decide), isToldM w1 t, cl_s, tld_n hc, ht, b2_t, if_neg (by decide), farM_e hr hc ht hc, cl_s, dn_self, if_neg (by show ¬ nI _ < nI 0; rw [lt_nn (by have := ok.1; omega) (by decide)]; omega)]
        unfold xX11_farthest_96
        rw [lt_e, nI_1]
        have e3 := farM_in (N := M + 1) (op := op) (h := h) w w1 hc ht t hr ok a (K := xX11_farthest_28 (M + 1) n) M 0 (by omega) (by omega)
        rw [show xX11_farthest_39 (M + 1) (xX11_farthest_28 (M + 1) n) M a (nI (frC A op f k).2.1) (nI (frC A op f k).2.2) (nI (frC A op f k).1) (nI (f + k)) (nI (f + k + 1)) h = _ from e3]
        rw [nx, ht] at ih1
        exact ih1
theorem farM_0 {f : Nat} (hN : 100 ≤ N) (w : WFt A) (w1 : A 0 0 < 65536) (hf : f < 16) (hl : isLow (A 0 0) f) {h : HP} (t : h.1 0 7 = nI (A 0 0)) (hr : AR A op h) (a : Int32) : ∀ n c, c ≤ f → 40 - c < n → xX11_farthest_28 N n a (-2) (-2) (-2) (nI c) h = some (frV a (frC A op f (16 - f)), h) := by
  intro n
  induction n with
  | zero => intro c _ q; omega
  | succ n ih =>
    intro c hc hq
    rw [xX11_farthest_28]
    dsimp only
    rw [if_neg (by rw [l16, le_nn (by decide) (by omega)]; omega)]
    by_cases e : c = f
    · subst e
      have ht := hl.1
      obtain ⟨M, rfl⟩ : ∃ M, N = M + 1 := ⟨N - 1, by omega⟩
      rw [xX11_farthest_39]
      dsimp only
      rw [if_neg (by rw [l16, le_nn (by decide) (by omega)]; omega), isToldM w1 t, cl_s, tld_n hf, ht, b2_t, if_neg (by decide), isToldM w1 t, cl_s, tld_n hf, ht, b2_t, if_neg (by decide), farM_e hr hf ht hf, cl_s, dn_self, if_pos (by decide), farM_e hr hf ht hf, dn_self, cl_s]
      unfold xX11_farthest_96
      rw [lt_e, nI_1]
      have e3 := farM_in (N := M + 1) (op := op) (h := h) w w1 hf ht t hr (s := (0, c, c)) ⟨by show (0 : Nat) < 16; omega, hf, hf⟩ a (K := xX11_farthest_28 (M + 1) n) M 0 (by omega) (by omega)
      rw [show xX11_farthest_39 (M + 1) (xX11_farthest_28 (M + 1) n) M a (nI c) (nI c) (fI 0) (nI c) (nI (c + 1)) h = _ from e3]
      have e4 := farM_l (N := M + 1) (op := op) hN w w1 hf t hr a n 1 (by omega) (by omega)
      simp only [frC, Nat.add_zero, ht, if_true] at e4
      exact e4
    · rw [farM_skip (N := N) w1 (by omega) (hl.2 c (by omega)) t _ _ _ _ N c (by omega) (by omega)]
      exact ih (c + 1) (by omega) (by omega)
theorem dec3 {m o t : Nat} (hm : m < 16) (ho : o < 16) (ht : t < 16) : nI (enc (m, o, t)) >>> ((8 : Int32) &&& 31) = nI m ∧ (nI (enc (m, o, t)) >>> ((4 : Int32) &&& 31)) &&& 15 = nI o ∧ nI (enc (m, o, t)) &&& 15 = nI t := by
  have hl : enc (m, o, t) < 2147483648 := by unfold enc; dsimp only; omega
  have d1 : enc (m, o, t) / 2 ^ 8 = m := by unfold enc; dsimp only; omega
  have d2 : enc (m, o, t) / 2 ^ 4 % 2 ^ 4 = o := by unfold enc; dsimp only; omega
  have d3 : enc (m, o, t) % 2 ^ 4 = t := by unfold enc; dsimp only; omega
  refine ⟨?_, ?_, ?_⟩
  · rw [l8, shr_nn (by decide) hl, d1]
  · rw [l4, shr_nn (by decide) hl, l15, and_nn, show (15 : Nat) = 2 ^ 4 - 1 from rfl, Nat.and_two_pow_sub_one_eq_mod, d2]
  · rw [l15, and_nn, show (15 : Nat) = 2 ^ 4 - 1 from rfl, Nat.and_two_pow_sub_one_eq_mod, d3]
theorem q_farthest (hN : 100 ≤ N) (w : WF A) (rx : RX A hx) (rm : RM A hm) (a : Int32) : QQ (xX10_farthest N a hx) (xX11_farthest N a hm) hx hm := by
  have wo := op_lt w
  have wn := w.1.2.1
  have w1 := w.1.1
  unfold xX10_farthest xX11_farthest xX10_farthest_9 xX10_farthest_75
  rw [inM_e, cl_s]
  by_cases h1 : a < 0
  · exact QQ.rf (-1) (by rw [if_pos h1]) (by rw [decide_eq_false (fun z => z.1 h1), b2_f, if_neg (by decide)])
  · by_cases h2 : a ≤ 2
    · rw [if_neg h1, if_pos h2, decide_eq_true ⟨h1, Int32.not_lt.mpr h2⟩, b2_t, if_pos (show (1 : Int32) ≠ 0 from by decide), rx.1.1]
      obtain ⟨h3, e3, k3, j3, r3⟩ := allSteps_e (N := N) (op := A 0 2) hN w.2.1 w1 wn rm.1 rm.2.1.2.1
      rw [e3, cl_s]
      have t7 : h3.1 0 7 = nI (A 0 0) := by rw [j3 7 (by decide)]; exact rm.1.1
      by_cases z0 : A 0 0 = 0
      · rw [z0, if_neg (by decide)]
        have loop : ∀ n c, c ≤ 16 → 16 - c < n → xX11_farthest_28 N n a (-2) (-2) (-2) (nI c) h3 = some (-2, h3) := by
          intro n
          induction n with
          | zero => intro c _ q; omega
          | succ n ih =>
            intro c hc hq
            rw [xX11_farthest_28]
            dsimp only
            by_cases e : c = 16
            · rw [if_pos (by rw [l16, le_nn (by omega) (by omega)]; omega)]
              unfold xX11_farthest_127
              by_cases a0 : a = 0 <;> by_cases a1 : a = 1 <;> simp [a0, a1]
            · rw [if_neg (by rw [l16, le_nn (by decide) (by omega)]; omega), farM_skip (A := A) (N := N) w1 (by omega) (by rw [z0]; simp) t7 _ _ _ _ N c (by omega) (by omega)]
              exact ih (c + 1) (by omega) (by omega)
        have e4 : xX11_farthest_28 N N a (-2) (-2) (-2) 0 h3 = some (-2, h3) := loop N 0 (by omega) (by omega)
        rw [e4]
        exact ⟨-2, hx, h3, rfl, rfl, keX.rf hx, keM.bfs k3 j3⟩
      · obtain ⟨f, hf, hl⟩ := low_ex (n := 16) w1 z0
        have e5 : xX11_farthest_28 N N a (-2) (-2) (-2) 0 h3 = some (frV a (frC A (A 0 2) f (16 - f)), h3) := farM_0 (N := N) hN w.2.1 w1 hf hl t7 r3 a N 0 (by omega) (by omega)
        rw [e5, if_pos (by rw [l0, ne_eq, eq_nn (by omega) (by decide)]; exact z0), rx.2.1.1]
        obtain ⟨h4, e4, k4, r4, -⟩ := look_e (N := N) (op := A 0 2) hN w.2.1 wn (by omega) rx.1
        have t4 : TX A h4 := sB.TX (h0 := hx) (fun k q1 q2 _ => k4 k q1 q2) rx.1
        obtain ⟨h6, e6, s6⟩ := farX_l (N := N) (op := A 0 2) hN w.2.1 w1 hf t4 r4 N 0 h4 (by omega) (by omega) (fun _ _ => rfl)
        unfold xX3_farthestPair
        have e0 : (nI f <<< ((4 : Int32) &&& 31)) ||| nI f = nI (enc (0, f, f)) := by
          rw [l4, shl_nn (by decide) (by omega), or_nn]
          have := enc_or (m := 0) hf hf
          rw [Nat.zero_mul, Nat.zero_or] at this
          rw [this]
        rw [e4, cl_s, t4.1, lowest_e hl (by omega), cl_s, lt_e, e0]
        rw [show xX3_farthestPair_22 N N 0 (nI (enc (0, f, f))) (nI f) h4 = _ from e6, cl_s]
        have ok := frC_ok (op := A 0 2) w.2.1 hf (16 - f) (by omega)
        obtain ⟨m, o, t, e7⟩ : ∃ m o t, frC A (A 0 2) f (16 - f) = (m, o, t) := ⟨_, _, _, rfl⟩
        rw [e7] at ok ⊢
        obtain ⟨d1, d2, d3⟩ := dec3 ok.1 ok.2.1 ok.2.2
        rw [d1, d2, d3]
        refine ⟨frV a (m, o, t), h6, h3, ?_, rfl, keX.net (fun k q1 q2 q3 => by rw [s6 k q3, k4 k q1 q2]), keM.bfs k3 j3⟩
        unfold frV
        by_cases a0 : a = 0
        · simp [a0]
        · by_cases a1 : a = 1
          · simp [a1]
          · simp [a0, a1]
    · exact QQ.rf (-1) (by rw [if_neg h1, if_neg h2]) (by rw [decide_eq_false (fun z => h2 (Int32.not_lt.mp z.2)), b2_f, if_neg (by decide)])
end FA
