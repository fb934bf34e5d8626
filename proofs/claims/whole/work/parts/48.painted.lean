/-! ===== painted ===== -/
def esm (A : AS) (op C : Nat) : Nat → Nat
  | 0 => 0
  | d + 1 => esm A op C d + (if C.testBit d = true then opn A op d (A 0 1) else 0)
section PD
variable {A : AS} {hx hm : HP} {N op C O : Nat}
theorem esm_le (hn : A 0 1 ≤ 24) : ∀ d, esm A op C d ≤ 24 * d := by
  intro d
  induction d with
  | zero => simp [esm]
  | succ d ih => simp only [esm]; have := opn_le A op d (A 0 1); split <;> omega
def oddS (A : AS) (op C O : Nat) : Prop := O < 2 ^ 16 ∧ ∀ d, O.testBit d = true ↔ (d < 16 ∧ (C.testBit d = true ∧ opn A op d (A 0 1) % 2 = 1))
theorem paintX_l (hN : 100 ≤ N) (w : WFt A) (hn : A 0 1 ≤ 24) (ho : op < 2147483648) (hC : C < 65536) (hO : oddS A op C O) : ∀ n d h, d ≤ 16 → 16 - d < n → TX A h → h.1 52 5 = nI (pc O d) → (∀ e, e < d → O.testBit e = true → h.1 53 (pc O e) = nI e) → ∃ h', xX9_paintAll_20 N n (nI op) (nI C) (nI (esm A op C d)) (nI d) h = (if h'.1 52 5 ≠ 0 then cl (xX9_pairUp N h') fun t1 h2 => some (nI (esm A op C 16) / 2 + t1, h2) else some (nI (esm A op C 16) / 2 + 0, h')) ∧ (∀ k, k ≠ 52 → k ≠ 53 → h'.1 k = h.1 k) ∧ h'.1 52 5 = nI (pc O 16) ∧ ∀ e, e < 16 → O.testBit e = true → h'.1 53 (pc O e) = nI e := by
  intro n
  induction n with
  | zero => intro d h _ q; omega
  | succ n ih =>
    intro d h hd hq t h5 hl
    rw [xX9_paintAll_20]
    dsimp only
    unfold xX9_paintAll_109 xX9_paintAll_84
    by_cases e : d = 16
    · subst e
      rw [if_pos (by decide)]
      exact ⟨h, rfl, fun _ _ _ => rfl, h5, hl⟩
    · have d16 : d < 16 := by omega
      have ih1 := fun h => ih (d + 1) h (by omega) (by omega)
      have ps := pc_step O d
      have pl := pc_le O d
      rw [if_neg (by rw [l16, le_nn (by decide) (by omega)]; omega), hasBit_e (by omega) (by omega), cl_s, lt_e, nI_1]
      simp only [esm] at ih1
      cases hb : C.testBit d
      · have hno : ¬ O.testBit d = true := fun z => by have := ((hO.2 d).mp z).2.1; rw [hb] at this; cases this
        rw [if_neg hno, Nat.add_zero] at ps
        rw [b2_f, if_pos rfl]
        rw [if_neg (by rw [hb]; decide), Nat.add_zero] at ih1
        exact ih1 h t (by rw [ps]; exact h5) (fun e he hoe => by
          by_cases q : e = d
          · subst q; exact absurd hoe hno
          · exact hl e (by omega) hoe)
      · have ol := opn_le A op d (A 0 1)
        rw [b2_t, if_neg (by decide), openPipesOf_e w hn t ho d16 hN, cl_s, add_nn, lt_e, l2, rem_nn (by omega) (by decide) (by decide)]
        rw [if_pos hb] at ih1
        by_cases q : opn A op d (A 0 1) % 2 = 1
        · have hyes : O.testBit d = true := (hO.2 d).mpr ⟨d16, hb, q⟩
          rw [if_pos hyes] at ps
          rw [q, if_neg (show ¬ nI 1 ≠ 1 from fun z => z rfl), h5, ast_n (by omega) (by decide), lt_e, lt_e, up_n (show 52 ≠ 53 by decide), h5, nI_1]
          obtain ⟨h', g1, g2, g3, g4⟩ := ih1 (up (up h 53 (pc O d) (nI d)) 52 5 (nI (pc O d + 1))) (by
            obtain ⟨t1, t2, t3, t4⟩ := t
            exact ⟨by rw [up_n (by decide), up_n (by decide)]; exact t1, by rw [up_n (by decide), up_n (by decide)]; exact t2, fun c hc => by rw [up_n (by decide), up_n (by decide)]; exact t3 c hc, fun p hp => by rw [up_n (by decide), up_n (by decide), up_n (by decide), up_n (by decide), up_n (by decide), up_n (by decide)]; exact t4 p hp⟩) (by rw [up_at, if_pos ⟨rfl, rfl⟩, ps]) (fun e he hoe => by
            rw [up_n (by decide), up_at]
            by_cases q2 : e = d
            · subst q2; rw [if_pos ⟨rfl, rfl⟩]
            · have := pc_strict hoe (show e < d by omega)
              rw [if_neg (by omega)]; exact hl e (by omega) hoe)
          exact ⟨h', g1, fun k k1 k2 => by rw [g2 k k1 k2, up_n k1, up_n k2], g3, g4⟩
        · have hno : ¬ O.testBit d = true := fun z => q ((hO.2 d).mp z).2.2
          rw [if_neg hno, Nat.add_zero] at ps
          have q0 : opn A op d (A 0 1) % 2 = 0 := by omega
          rw [q0, if_pos (by decide)]
          exact ih1 h t (by rw [ps]; exact h5) (fun e he hoe => by
            by_cases q2 : e = d
            · subst q2; exact absurd hoe hno
            · exact hl e (by omega) hoe)
theorem paintM_l (hN : 100 ≤ N) (w : WFt A) (hn : A 0 1 ≤ 24) (hC : C < 65536) (hO : oddS A op C O) : ∀ n d h, d ≤ 16 → 16 - d < n → TM A h → (∀ p, p < A 0 1 → h.1 1 (48 + p) = nI (op / 2 ^ p % 2)) → h.1 0 49 = nI (pc O d) → (∀ e, e < d → O.testBit e = true → h.1 30 (pc O e) = nI e) → ∃ h', xX11_painted_32 N n (nI C) (nI (esm A op C d)) (nI d) h = (cl (xX11_painting N h') fun t1 h2 => some (nI (esm A op C 16) / 2 + t1, h2)) ∧ (∀ k, k ≠ 0 → k ≠ 30 → h'.1 k = h.1 k) ∧ (∀ j, j ≠ 49 → h'.1 0 j = h.1 0 j) ∧ h'.1 0 49 = nI (pc O 16) ∧ ∀ e, e < 16 → O.testBit e = true → h'.1 30 (pc O e) = nI e := by
  intro n
  induction n with
  | zero => intro d h _ q; omega
  | succ n ih =>
    intro d h hd hq t s h5 hl
    rw [xX11_painted_32]
    dsimp only
    unfold xX11_painted_95
    by_cases e : d = 16
    · subst e
      rw [if_pos (by decide)]
      exact ⟨h, rfl, fun _ _ _ => rfl, fun _ _ => rfl, h5, hl⟩
    · have d16 : d < 16 := by omega
      have ih1 := fun h => ih (d + 1) h (by omega) (by omega)
      have ps := pc_step O d
      have pl := pc_le O d
      rw [if_neg (by rw [l16, le_nn (by decide) (by omega)]; omega), has_e (by omega) (by omega), cl_s, lt_e, nI_1]
      simp only [esm] at ih1
      cases hb : C.testBit d
      · have hno : ¬ O.testBit d = true := fun z => by have := ((hO.2 d).mp z).2.1; rw [hb] at this; cases this
        rw [if_neg hno, Nat.add_zero] at ps
        rw [b2_f, if_neg (by decide)]
        rw [if_neg (by rw [hb]; decide), Nat.add_zero] at ih1
        exact ih1 h t s (by rw [ps]; exact h5) (fun e he hoe => by
          by_cases q : e = d
          · subst q; exact absurd hoe hno
          · exact hl e (by omega) hoe)
      · have ol := opn_le A op d (A 0 1)
        rw [b2_t, if_pos (by decide), openOf_e w hn t s d16 hN, cl_s, add_nn, lt_e, openOf_e w hn t s d16 hN, cl_s, l2, rem_nn (by omega) (by decide) (by decide)]
        rw [if_pos hb] at ih1
        by_cases q : opn A op d (A 0 1) % 2 = 1
        · have hyes : O.testBit d = true := (hO.2 d).mpr ⟨d16, hb, q⟩
          rw [if_pos hyes] at ps
          rw [q, if_pos (by decide), h5, ast_n (by omega) (by decide), lt_e, lt_e, up_n (show 0 ≠ 30 by decide), h5, nI_1]
          obtain ⟨h', g1, g2, g3, g4, g5⟩ := ih1 (up (up h 30 (pc O d) (nI d)) 0 49 (nI (pc O d + 1))) (by
            obtain ⟨t1, t2, t3, t4⟩ := t
            exact ⟨by rw [up_at, if_neg (by omega), up_n (by decide)]; exact t1, by rw [up_at, if_neg (by omega), up_n (by decide)]; exact t2, fun c hc => by rw [up_n (by decide), up_n (by decide)]; exact t3 c hc, fun p hp => by rw [up_n (by decide), up_n (by decide), up_n (by decide), up_n (by decide), up_n (by decide), up_n (by decide)]; exact t4 p hp⟩) (fun p hp => by rw [up_n (by decide), up_n (by decide)]; exact s p hp) (by rw [up_at, if_pos ⟨rfl, rfl⟩, ps]) (fun e he hoe => by
            rw [up_n (by decide), up_at]
            by_cases q2 : e = d
            · subst q2; rw [if_pos ⟨rfl, rfl⟩]
            · have := pc_strict hoe (show e < d by omega)
              rw [if_neg (by omega)]; exact hl e (by omega) hoe)
          exact ⟨h', g1, fun k k1 k2 => by rw [g2 k k1 k2, up_n k1, up_n k2], fun j hj => by rw [g3 j hj, up_at, if_neg (fun z => hj z.2), up_n (by decide)], g4, g5⟩
        · have hno : ¬ O.testBit d = true := fun z => q ((hO.2 d).mp z).2.2
          rw [if_neg hno, Nat.add_zero] at ps
          have q0 : opn A op d (A 0 1) % 2 = 0 := by omega
          rw [q0, if_neg (show ¬ nI 0 ≠ 0 from fun z => z rfl)]
          exact ih1 h t s (by rw [ps]; exact h5) (fun e he hoe => by
            by_cases q2 : e = d
            · subst q2; exact absurd hoe hno
            · exact hl e (by omega) hoe)
/-- the steps between the i-th and the j-th odd corner -/
noncomputable def oD (A : AS) (op O i j : Nat) : Nat := dn A (am op) (oth O i 16) (oth O j 16)
theorem odds_26 {K : Int32 → HP → Option (Int32 × HP)} {s i : Nat} (hs : s ≤ 16) (hi : i < s) (hso : s = pc O 16) (hd : ∀ j, j < s → oD A op O i j < 16) : ∀ n j h, j ≤ s → s - j < n → h.1 52 5 = nI s → (∀ e, e < 16 → O.testBit e = true → h.1 53 (pc O e) = nI e) → (∀ d, d < 16 → h.1 47 d = fI (dn A (am op) (oth O i 16) d)) → (∀ k, k < j → h.1 54 (i * 16 + k) = nI (oD A op O i k)) → ∃ h', xX9_measureOdds_26 N K n (nI i) (nI j) h = K (nI (i + 1)) h' ∧ (∀ k, k ≠ 54 → h'.1 k = h.1 k) ∧ (∀ m, (m < i * 16 ∨ i * 16 + s ≤ m) → h'.1 54 m = h.1 54 m) ∧ ∀ k, k < s → h'.1 54 (i * 16 + k) = nI (oD A op O i k) := by
  intro n
  induction n with
  | zero => intro j h _ q; omega
  | succ n ih =>
    intro j h hj hq h5 ho hf hl
    rw [xX9_measureOdds_26]
    dsimp only
    rw [h5]
    by_cases e : j = s
    · subst e
      rw [if_pos (by rw [le_nn (by omega) (by omega)]; omega), lt_e, nI_1]
      exact ⟨h, rfl, fun _ _ => rfl, fun _ _ => rfl, hl⟩
    · obtain ⟨o1, o2, o3⟩ := oth_s (O := O) (i := j) 16 (by omega)
      have c1 := ho _ o3 o1
      rw [o2] at c1
      have dd := hd j (by omega)
      have fe : fI (dn A (am op) (oth O i 16) (oth O j 16)) = nI (oD A op O i j) := by
        unfold oD at dd ⊢
        unfold fI; rw [if_neg (by omega)]
      rw [if_neg (by rw [le_nn (by omega) (by omega)]; omega), ald_n (by omega) (by decide), c1, ald_n o3 (by decide), hf _ o3, fe, l16, mul_nn, add_nn, ast_n (by omega) (by decide), lt_e, nI_1]
      obtain ⟨h', g1, g2, g3, g4⟩ := ih (j + 1) (up h 54 (i * 16 + j) (nI (oD A op O i j))) (by omega) (by omega) (by rw [up_n (by decide)]; exact h5) (fun e he hoe => by rw [up_n (by decide)]; exact ho e he hoe) (fun d hd => by rw [up_n (by decide)]; exact hf d hd) (fun k hk => by
        rw [up_at]
        by_cases q : k = j
        · subst q; rw [if_pos ⟨rfl, rfl⟩]
        · rw [if_neg (by omega)]; exact hl k (by omega))
      exact ⟨h', g1, fun k hk => by rw [g2 k hk, up_n hk], fun m hm => by rw [g3 m hm, up_at, if_neg (by omega)], g4⟩
theorem odds_2 {s : Nat} (hN : 100 ≤ N) (w : WFt A) (hs : s ≤ 16) (hso : s = pc O 16) (hd : ∀ i j, i < s → j < s → oD A op O i j < 16) : ∀ n i h, i ≤ s → s - i < n → NR A op h → h.1 52 5 = nI s → (∀ e, e < 16 → O.testBit e = true → h.1 53 (pc O e) = nI e) → (∀ a k, a < i → k < s → h.1 54 (a * 16 + k) = nI (oD A op O a k)) → ∃ h', xX9_measureOdds_2 N n (nI i) h = some (0, h') ∧ (∀ k, k ≠ 54 → k ≠ 47 → h'.1 k = h.1 k) ∧ ∀ a k, a < s → k < s → h'.1 54 (a * 16 + k) = nI (oD A op O a k) := by
  intro n
  induction n with
  | zero => intro i h _ q; omega
  | succ n ih =>
    intro i h hi hq hnr h5 ho hl
    rw [xX9_measureOdds_2]
    dsimp only
    rw [h5]
    by_cases e : i = s
    · subst e
      rw [if_pos (by rw [le_nn (by omega) (by omega)]; omega)]
      exact ⟨h, rfl, fun _ _ _ => rfl, hl⟩
    · obtain ⟨o1, o2, o3⟩ := oth_s (O := O) (i := i) 16 (by omega)
      have c1 := ho _ o3 o1
      rw [o2] at c1
      obtain ⟨C', h3, e3, s3, -, d3⟩ := measureFrom_e (N := N) (op := op) (c := oth O i 16) hN w o3 hnr
      rw [if_neg (by rw [le_nn (by omega) (by omega)]; omega), ald_n (by omega) (by decide), c1, e3, cl_s]
      obtain ⟨h4, e4, k4, m4, v4⟩ := odds_26 (N := N) (A := A) (op := op) (O := O) (K := xX9_measureOdds_2 N n) hs (show i < s by omega) hso (fun j hj => hd i j (by omega) hj) N 0 h3 (by omega) (by omega) (by rw [s3 52 (by decide)]; exact h5) (fun e he hoe => by rw [s3 53 (by decide)]; exact ho e he hoe) (fun d hd => (d3 d hd).e) (fun k hk => by omega)
      rw [show xX9_measureOdds_26 N (xX9_measureOdds_2 N n) N (nI i) 0 h3 = _ from e4]
      obtain ⟨h', g1, g2, g3⟩ := ih (i + 1) h4 (by omega) (by omega) (fun c hc => by rw [k4 46 (by decide), s3 46 (by decide)]; exact hnr c hc) (by rw [k4 52 (by decide), s3 52 (by decide)]; exact h5) (fun e he hoe => by rw [k4 53 (by decide), s3 53 (by decide)]; exact ho e he hoe) (fun a k ha hk => by
        by_cases q : a = i
        · subst q; exact v4 k hk
        · rw [m4 _ (by omega), s3 54 (by decide)]; exact hl a k (by omega) hk)
      exact ⟨h', g1, fun k k1 k2 => by rw [g2 k k1 k2, k4 k k1, s3 k k2], g3⟩
end PD
