/-! ===== byEighths, the reference's half ===== -/
section EM
variable {A : AS} {hx hm : HP} {N : Nat}
theorem minM_e {a b : Nat} (ha : a < 2147483648) (hb : b < 2147483648) (h : HP) : xX11_min (nI a) (nI b) h = some (nI (min a b), h) := by
  unfold xX11_min xX11_min_10
  by_cases q : b ≤ a
  · rw [if_pos (by rw [le_nn hb ha]; exact q), Nat.min_eq_right q]
  · rw [if_neg (by rw [le_nn hb ha]; exact q), Nat.min_eq_left (by omega)]
def eW (b : Nat → Nat) (i s t : Nat) : Nat := if t * b i ≤ s then dW b i (s - t * b i) else 0
def eF (b : Nat → Nat) (i s t : Nat) : Nat := if t * b i ≤ s then dF b i (s - t * b i) + t else 1000000
/-- the cells of ways and fewest up to the sum -/
def WFc (b : Nat → Nat) (i S : Nat) (h : HP) : Prop := ∀ s, s ≤ S → h.1 34 s = nI (dW b i s) ∧ h.1 35 s = nI (dF b i s)
theorem adds26 {b : Nat → Nat} {i S s : Nat} (hS : S ≤ 16320) (hs : s ≤ S) (hb : b i ≤ 255) {K : Int32 → Int32 → Int32 → HP → Option (Int32 × HP)} : ∀ n t h, t ≤ 9 → 9 - t < n → WFc b i S h → h.1 36 s = nI (sumT (eW b i s) t) → h.1 37 s = nI (minT (eF b i s) t) → ∃ h', xX11_adds_26 N K n (nI (b i)) (nI S) (nI s) (nI t) h = K (nI (b i)) (nI S) (nI (s + 1)) h' ∧ (∀ c, c ≠ 36 → c ≠ 37 → h'.1 c = h.1 c) ∧ (∀ j, j ≠ s → h'.1 36 j = h.1 36 j ∧ h'.1 37 j = h.1 37 j) ∧ h'.1 36 s = nI (dW b (i + 1) s) ∧ h'.1 37 s = nI (dF b (i + 1) s) := by
  intro n
  induction n with
  | zero => intro t h _ q; omega
  | succ n ih =>
    intro t h ht hq hc h1 h2
    rw [xX11_adds_26]
    dsimp only
    unfold xX11_adds_100
    rw [lt_e, nI_1]
    by_cases e : t = 9
    · subst e
      rw [if_pos (by decide)]
      exact ⟨h, rfl, fun _ _ _ => rfl, fun _ _ => ⟨rfl, rfl⟩, h1, h2⟩
    · have htb : t * b i ≤ 9 * 255 := Nat.mul_le_mul ht hb
      rw [if_neg (by rw [l9v, le_nn (by decide) (by omega)]; omega), mul_nn]
      by_cases q : t * b i ≤ s
      · have dl := dF_le b i (s - t * b i)
        have ml := minT_le (eF b i s) t
        rw [if_neg (by rw [lt_nn (by omega) (by omega)]; omega), ald_n (by omega) (by decide), h1, sub_nn q, ald_n (by omega) (by decide), (hc _ (by omega)).1, add_nn, ast_n (by omega) (by decide), ald_n (by omega) (by decide), up_n (show 37 ≠ 36 by decide), h2, ald_n (by omega) (by decide), up_n (show 35 ≠ 36 by decide), (hc _ (by omega)).2, add_nn, minM_e (by omega) (by omega), cl_s, ast_n (by omega) (by decide), lt_e, nI_1]
        obtain ⟨h', g1, g2, g3, g4, g5⟩ := ih (t + 1) (up (up h 36 s (nI (sumT (eW b i s) t + dW b i (s - t * b i)))) 37 s (nI (min (minT (eF b i s) t) (dF b i (s - t * b i) + t)))) (by omega) (by omega) (fun s' hs' => by rw [up_n (by decide), up_n (by decide), up_n (by decide), up_n (by decide)]; exact hc s' hs') (by
          rw [up_at, if_neg (by omega), up_at, if_pos ⟨rfl, rfl⟩]
          simp only [sumT, eW, if_pos q]) (by
          rw [up_at, if_pos ⟨rfl, rfl⟩]
          simp only [minT, eF, if_pos q])
        refine ⟨h', g1, fun c c1 c2 => by rw [g2 c c1 c2, up_n c2, up_n c1], fun j hj => ?_, g4, g5⟩
        rw [(g3 j hj).1, (g3 j hj).2, up_at, if_neg (by omega), up_at, if_neg (by omega), up_at, if_neg (by omega), up_at, if_neg (by omega)]
        exact ⟨rfl, rfl⟩
      · rw [if_pos (by rw [lt_nn (by omega) (by omega)]; omega)]
        have far : ∀ c, t ≤ c → ¬ c * b i ≤ s := fun c hc z => q (Nat.le_trans (Nat.mul_le_mul_right _ hc) z)
        refine ⟨h, rfl, fun _ _ _ => rfl, fun _ _ => ⟨rfl, rfl⟩, ?_, ?_⟩
        · rw [h1, ← sumT_0 (f := eW b i s) t 9 (fun c hc _ => by unfold eW; rw [if_neg (far c hc)]) ht]; rfl
        · rw [h2, ← minT_0 (f := eF b i s) t 9 (fun c hc _ => by unfold eF; rw [if_neg (far c hc)]; exact Nat.le_refl _) ht]; rfl
theorem adds108 {b : Nat → Nat} {i S : Nat} (hS : S ≤ 16320) : ∀ n s h, s ≤ S + 1 → S + 1 - s < n → (∀ j, j ≤ S → h.1 36 j = nI (dW b i j) ∧ h.1 37 j = nI (dF b i j)) → (∀ j, j < s → h.1 34 j = nI (dW b i j) ∧ h.1 35 j = nI (dF b i j)) → ∃ h', xX11_adds_108 N n (nI S) (nI s) h = some (0, h') ∧ (∀ c, c < 34 ∨ 37 < c → h'.1 c = h.1 c) ∧ WFc b i S h' := by
  intro n
  induction n with
  | zero => intro s h _ q; omega
  | succ n ih =>
    intro s h hs hq h1 h2
    rw [xX11_adds_108]
    dsimp only
    by_cases e : s = S + 1
    · exact ⟨h, by rw [if_pos (by rw [lt_nn (by omega) (by omega)]; omega)], fun _ _ => rfl, fun j hj => h2 j (by omega)⟩
    · have k1 := h1 s (by omega)
      rw [if_neg (by rw [lt_nn (by omega) (by omega)]; omega), ald_n (by omega) (by decide), k1.1, ast_n (by omega) (by decide), ald_n (by omega) (by decide), up_n (show 37 ≠ 34 by decide), k1.2, ast_n (by omega) (by decide), lt_e, nI_1]
      obtain ⟨h', g1, g2, g3⟩ := ih (s + 1) (up (up h 34 s (nI (dW b i s))) 35 s (nI (dF b i s))) (by omega) (by omega) (fun j hj => by rw [up_n (by decide), up_n (by decide), up_n (by decide), up_n (by decide)]; exact h1 j hj) (fun j hj => by
        by_cases ej : j = s
        · subst ej
          exact ⟨by rw [up_at, if_neg (by omega), up_at, if_pos ⟨rfl, rfl⟩], by rw [up_at, if_pos ⟨rfl, rfl⟩]⟩
        · rw [up_at, if_neg (by omega), up_at, if_neg (by omega), up_at, if_neg (by omega), up_at, if_neg (by omega)]
          exact h2 j (by omega))
      exact ⟨h', g1, fun c hc => by rw [g2 c hc, up_n (by omega), up_n (by omega)], g3⟩
theorem adds2 {b : Nat → Nat} {i S : Nat} (hN : 20000 ≤ N) (hS : S ≤ 16320) (hb : b i ≤ 255) : ∀ n s h, s ≤ S + 1 → S + 1 - s < n → WFc b i S h → (∀ j, j < s → h.1 36 j = nI (dW b (i + 1) j) ∧ h.1 37 j = nI (dF b (i + 1) j)) → ∃ h', xX11_adds_2 N n (nI (b i)) (nI S) (nI s) h = some (0, h') ∧ (∀ c, c < 34 ∨ 37 < c → h'.1 c = h.1 c) ∧ WFc b (i + 1) S h' := by
  intro n
  induction n with
  | zero => intro s h _ q; omega
  | succ n ih =>
    intro s h hs hq hc h2
    rw [xX11_adds_2]
    dsimp only
    by_cases e : s = S + 1
    · rw [if_pos (by rw [lt_nn (by omega) (by omega)]; omega)]
      exact adds108 (N := N) hS N 0 h (by omega) (by omega) (fun j hj => h2 j (by omega)) (fun j hj => by omega)
    · rw [if_neg (by rw [lt_nn (by omega) (by omega)]; omega), ast_n (by omega) (by decide), ast_n (by omega) (by decide)]
      obtain ⟨h1, f1, f2, f3, f4, f5⟩ := adds26 (N := N) (b := b) (i := i) (S := S) (s := s) (K := xX11_adds_2 N n) hS (by omega) hb N 0 (up (up h 36 s 0) 37 s 1000000) (by omega) (by omega) (fun s' hs' => by rw [up_n (by decide), up_n (by decide), up_n (by decide), up_n (by decide)]; exact hc s' hs') (by rw [up_at, if_neg (by omega), up_at, if_pos ⟨rfl, rfl⟩]; rfl) (by rw [up_at, if_pos ⟨rfl, rfl⟩]; rfl)
      rw [show xX11_adds_26 N (xX11_adds_2 N n) N (nI (b i)) (nI S) (nI s) 0 (up (up h 36 s 0) 37 s 1000000) = _ from f1]
      obtain ⟨h', g1, g2, g3⟩ := ih (s + 1) h1 (by omega) (by omega) (fun s' hs' => by rw [f2 34 (by decide) (by decide), f2 35 (by decide) (by decide), up_n (by decide), up_n (by decide), up_n (by decide), up_n (by decide)]; exact hc s' hs') (fun j hj => by
        by_cases ej : j = s
        · subst ej; exact ⟨f4, f5⟩
        · rw [(f3 j ej).1, (f3 j ej).2, up_at, if_neg (by omega), up_at, if_neg (by omega), up_at, if_neg (by omega), up_at, if_neg (by omega)]
          exact h2 j (by omega))
      exact ⟨h', g1, fun c hc => by rw [g2 c hc, f2 c (by omega) (by omega), up_n (by omega), up_n (by omega)], g3⟩
def egV (b : Nat → Nat) (M S : Nat) (a : Int32) : Int32 := if a ≠ 0 then (if dW b M S = 0 then -2 else nI (dF b M S)) else nI (dW b M S)
theorem eg99 {M S : Nat} (hN : 20000 ≤ N) (hM : M ≤ 8) (hS : S ≤ 16320) (hb : ∀ i, i < M → A 8 i ≤ 255) (a : Int32) : ∀ n i h, i ≤ M → M - i < n → BM A M h → WFc (A 8) i S h → ∃ h', xX11_byEighths_99 N n (nI M) (nI S) a (nI i) h = some (egV (A 8) M S a, h') ∧ ∀ c, c < 34 ∨ 37 < c → h'.1 c = h.1 c := by
  intro n
  induction n with
  | zero => intro i h _ q; omega
  | succ n ih =>
    intro i h hi hq hB hc
    rw [xX11_byEighths_99]
    dsimp only
    unfold xX11_byEighths_156
    by_cases e : i = M
    · subst e
      refine ⟨h, ?_, fun _ _ => rfl⟩
      have jo := dWF (A 8) i S hM
      have dl := dF_le (A 8) i S
      unfold joT at jo
      rw [if_pos (by rw [le_nn (by omega) (by omega)]; omega), ald_n (by omega) (by decide), ald_n (by omega) (by decide), ald_n (by omega) (by decide), (hc S (by omega)).1, (hc S (by omega)).2]
      unfold egV
      have l1 : (nI (dF (A 8) i S) < 1000000) ↔ dF (A 8) i S < 1000000 := by rw [l1000000, lt_nn (by omega) (by decide)]
      by_cases a0 : a ≠ 0
      · rw [if_pos a0, if_pos a0]
        by_cases q : dW (A 8) i S = 0
        · rw [if_neg (fun z => by have := l1.mp z; omega), if_pos q]
        · rw [if_pos (l1.mpr (by omega)), if_neg q]
      · rw [if_neg a0, if_neg a0]
    · rw [if_neg (by rw [le_nn (by omega) (by omega)]; omega), octet_e hB (by omega), cl_s]
      unfold xX11_adds
      obtain ⟨h1, f1, f2, f3⟩ := adds2 (N := N) (b := A 8) (i := i) (S := S) hN hS (hb i (by omega)) N 0 h (by omega) (by omega) hc (fun j hj => by omega)
      rw [show xX11_adds_2 N N (nI (A 8 i)) (nI S) 0 h = _ from f1, cl_s, lt_e, nI_1]
      obtain ⟨h', g1, g2⟩ := ih (i + 1) h1 (by omega) (by omega) ⟨hB.1, fun j hj => by rw [f2 8 (by decide)]; exact hB.2 j hj⟩ f3
      exact ⟨h', g1, fun c hc => by rw [g2 c hc, f2 c hc]⟩
theorem eg48 {M S : Nat} (hN : 20000 ≤ N) (hM : M ≤ 8) (hS : S ≤ 16320) (hb : ∀ i, i < M → A 8 i ≤ 255) (a : Int32) : ∀ n i h, i ≤ S + 1 → S + 1 - i < n → BM A M h → (∀ j, j < i → h.1 34 j = nI (dW (A 8) 0 j) ∧ h.1 35 j = nI (dF (A 8) 0 j)) → ∃ h', xX11_byEighths_48 N n (nI M) (nI S) a (nI i) h = some (egV (A 8) M S a, h') ∧ ∀ c, c < 34 ∨ 37 < c → h'.1 c = h.1 c := by
  intro n
  induction n with
  | zero => intro i h _ q; omega
  | succ n ih =>
    intro i h hi hq hB hc
    rw [xX11_byEighths_48]
    dsimp only
    unfold xX11_byEighths_70 xX11_byEighths_89
    by_cases e : i = S + 1
    · rw [if_pos (by rw [lt_nn (by omega) (by omega)]; omega)]
      exact eg99 hN hM hS hb a N 0 h (by omega) (by omega) hB (fun j hj => hc j (by omega))
    · rw [if_neg (by rw [lt_nn (by omega) (by omega)]; omega)]
      have go : ∀ v1 v2, v1 = nI (dW (A 8) 0 i) → v2 = nI (dF (A 8) 0 i) → ∃ h', xX11_byEighths_48 N n (nI M) (nI S) a (nI (i + 1)) (up (up h 34 i v1) 35 i v2) = some (egV (A 8) M S a, h') ∧ ∀ c, c < 34 ∨ 37 < c → h'.1 c = h.1 c := by
        intro v1 v2 e1 e2
        obtain ⟨h', g1, g2⟩ := ih (i + 1) (up (up h 34 i v1) 35 i v2) (by omega) (by omega) ⟨hB.1, fun j hj => by rw [up_n (by decide), up_n (by decide)]; exact hB.2 j hj⟩ (fun j hj => by
          by_cases ej : j = i
          · subst ej
            exact ⟨by rw [up_at, if_neg (by omega), up_at, if_pos ⟨rfl, rfl⟩, e1], by rw [up_at, if_pos ⟨rfl, rfl⟩, e2]⟩
          · rw [up_at, if_neg (by omega), up_at, if_neg (by omega), up_at, if_neg (by omega), up_at, if_neg (by omega)]
            exact hc j (by omega))
        exact ⟨h', g1, fun c hc => by rw [g2 c hc, up_n (by omega), up_n (by omega)]⟩
      by_cases q : i = 0
      · subst q
        rw [if_neg (show ¬ nI 0 ≠ 0 from fun z => z rfl), ast_n (by omega) (by decide), if_neg (show ¬ nI 0 ≠ 0 from fun z => z rfl), ast_n (by omega) (by decide), lt_e, nI_1]
        exact go _ _ rfl rfl
      · have nz : nI i ≠ 0 := by rw [ne_eq, l0, eq_nn (by omega) (by decide)]; exact q
        rw [if_pos nz, ast_n (by omega) (by decide), if_pos nz, ast_n (by omega) (by decide), lt_e, nI_1]
        exact go _ _ (by unfold dW; rw [if_neg q]; rfl) (by unfold dF; rw [if_neg q]; rfl)
theorem c_byEighths (hN : 20000 ≤ N) (w : WF A) (rx : RX A hx) (rm : RM A hm) (a b c : Int32) : CC (xX10_byEighths N a b c hx) (xX11_byEighths N a b c hm) hx hm := by
  have wp := w.2.2.1
  have none_ : ∀ {dx dm : Option (Int32 × HP)}, dx = some (-1, hx) → dm = some (-1, hm) → CC dx dm hx hm := fun e1 e2 => (QQ.rf (-1) e1 e2).cc w rx rm
  have z24 : xX10_byEighths_24 N a b c hx = some (-1, hx) := by
    unfold xX10_byEighths_24 xX10_byEighths_25 xX10_byEighths_46
    rw [if_pos rfl]
  unfold xX10_byEighths xX11_byEighths xX11_byEighths_38
  rw [z24, inM_e, cl_s, inM_e, cl_s, inM_e, cl_s]
  -- the reference refuses
  have refM : ¬ (¬ b < 0 ∧ ¬ (16320 : Int32) < b ∧ ¬ c < 0 ∧ ¬ (1 : Int32) < c) → (if b2 (decide (¬ a < 1 ∧ ¬ (8 : Int32) < a)) = 0 then some ((-1 : Int32), hm) else if b2 (decide (¬ b < 0 ∧ ¬ (16320 : Int32) < b)) = 0 then some (-1, hm) else if b2 (decide (¬ c < 0 ∧ ¬ (1 : Int32) < c)) = 0 then some (-1, hm) else if a ≤ hm.1 0 10 then lt (up hm 0 10 0) fun h7 => xX11_byEighths_48 N N a b c 0 h7 else some (-1, hm)) = some (-1, hm) := by
    intro z
    split
    · rfl
    · split
      · rfl
      · rename_i q2
        split
        · rfl
        · rename_i q3
          exfalso
          rw [b2_0, decide_eq_false_iff_not, Classical.not_not] at q2 q3
          exact z ⟨q2.1, q2.2, q3.1, q3.2⟩
  by_cases h1 : b < 0
  · exact none_ (by rw [if_pos h1]) (refM (fun z => z.1 h1))
  · rw [if_neg h1]
    by_cases h2 : (16320 : Int32) < b
    · exact none_ (by rw [if_pos h2]) (refM (fun z => z.2.1 h2))
    · rw [if_neg h2]
      by_cases h3 : c < 0
      · exact none_ (by rw [if_pos h3]) (refM (fun z => z.2.2.1 h3))
      · rw [if_neg h3]
        by_cases h4 : (1 : Int32) < c
        · exact none_ (by rw [if_pos h4]) (refM (fun z => z.2.2.2 h4))
        · rw [if_neg h4, decide_eq_true (show ¬ b < 0 ∧ ¬ (16320 : Int32) < b from ⟨h1, h2⟩), decide_eq_true (show ¬ c < 0 ∧ ¬ (1 : Int32) < c from ⟨h3, h4⟩), b2_t, if_neg (show ¬ (1 : Int32) = 0 from by decide), if_neg (show ¬ (1 : Int32) = 0 from by decide)]
          unfold xX10_byEighths_25 xX10_byEighths_46 xX10_byEighths_95
          rw [if_neg (show ¬ (1 : Int32) = 0 from by decide), gives_e, rm.2.2.1.1, ← rx.2.2.1.1]
          by_cases h5 : ¬ a < 1 ∧ ¬ (8 : Int32) < a ∧ a ≤ hx.1 1 1
          · obtain ⟨M, hM1, rfl⟩ := gv_iff (A := A) (by decide) rx.2.2.1.1 h5 wp.1
            obtain ⟨S, hS1, rfl⟩ := nI_of h1
            have hS : S ≤ 16320 := by rw [l16320, lt_nn (by decide) hS1] at h2; omega
            have hM8 : M ≤ 8 := by have := h5.2.1; rw [show (8 : Int32) = nI 8 from rfl, lt_nn (by decide) (by omega)] at this; omega
            have hb : ∀ i, i < M → A 8 i ≤ 255 := fun i hi => by have := wp.2 i (by omega); omega
            obtain ⟨h6, e6, k6, r1, r2⟩ := reckon_e (A := A) (N := N) (M := M) (s := S) hN hM8 hS hb (BX.of w rx hM1)
            have bm := BM.of w rm hM1
            obtain ⟨h8, e8, k8⟩ := eg48 (A := A) (N := N) (M := M) (S := S) hN hM8 hS hb c N 0 (up hm 0 10 0) (by omega) (by omega) bm (fun j hj => by omega)
            rw [if_pos h5, cl_s, if_pos (show (1 : Int32) ≠ 0 from by decide), decide_eq_true (show ¬ nI M < 1 ∧ ¬ (8 : Int32) < nI M from ⟨h5.1, h5.2.1⟩), b2_t, if_neg (show ¬ (1 : Int32) = 0 from by decide), if_pos h5.2.2, lt_e, e6, cl_s, r1, r2, show xX11_byEighths_48 N N (nI M) (nI S) c 0 (up hm 0 10 0) = _ from e8]
            have kx : keX (gvX hx (nI M)) h6 := by
              refine ⟨fun k q1 q2 => k6 k (by omega) (by omega), ?_, fun k q1 q2 q3 => k6 k (by omega) (by omega)⟩
              rw [k6 1 (by omega) (by omega)]
            have km : keM (up hm 0 10 0) h8 := ⟨fun j _ => by rw [k8 0 (by omega)], fun k q1 => k8 k (by omega)⟩
            refine ⟨egV (A 8) M S c, h6, h8, tpA A 0 (A 8), ?_, rfl, w.gv, kx.RX (rx.gv _), km.RM rm.gv, (leX.gv _ _).tr kx.le, (leM.gv _).tr km.le⟩
            have jo := dWF (A 8) M S hM8
            have dl := dW_le (A 8) M S
            have p9 : 9 ^ M ≤ 43046721 := Nat.pow_le_pow_right (n := 9) (by decide) hM8
            unfold joT at jo
            unfold egV
            by_cases q : dW (A 8) M S = 0
            · rw [q, if_neg (show ¬ nI 0 ≠ 0 from fun z => z rfl), if_pos rfl]
              split <;> rfl
            · rw [if_pos (show nI (dW (A 8) M S) ≠ 0 by rw [ne_eq, l0, eq_nn (by omega) (by decide)]; exact q), if_neg q, Nat.min_eq_right (by omega)]
              split <;> rfl
          · refine none_ (by rw [if_neg h5, cl_s, if_neg (by decide)]) ?_
            split
            · rfl
            · rename_i q1
              rw [b2_0, decide_eq_false_iff_not, Classical.not_not] at q1
              rw [if_neg (fun z => h5 ⟨q1.1, q1.2, z⟩)]
end EM
