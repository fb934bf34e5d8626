section TRI
variable {A : AS} {hx hm : HP} {N : Nat}
theorem tld_neg {x : Int32} (h : x < 0) : tld A x = false := by unfold tld; rw [if_pos (Or.inl h)]
theorem tld_big {x : Int32} (h : (16 : Int32) ≤ x) : tld A x = false := by unfold tld; rw [if_pos (Or.inr h)]
theorem trX_e (w : WF A) (rx : RX A hx) {a b : Int32} (hs : ¬ a < 1 ∧ ¬ (100 : Int32) < a) : xX10_tried N a b hx = if (¬ b < 0 ∧ ¬ (2 : Int32) < b) ∨ tld A (b - 10) = true ∨ tld A (b - 30) = true then xX10_tried_64 N a b (b2 (tld A (b - 10))) (b2 (tld A (b - 30))) hx else some (-1, hx) := by
  have e : ∀ s : Int32, xX10_tried_14 N a b s hx = if s ≠ 0 then xX10_tried_64 N a b (b2 (tld A (b - 10))) (b2 (tld A (b - 30))) hx else if b2 (tld A (b - 10)) ≠ 0 then xX10_tried_64 N a b (b2 (tld A (b - 10))) (b2 (tld A (b - 30))) hx else if b2 (tld A (b - 30)) ≠ 0 then xX10_tried_64 N a b (b2 (tld A (b - 10))) (b2 (tld A (b - 30))) hx else some (-1, hx) := fun s => by
    unfold xX10_tried_14 xX10_tried_62
    rw [isToldX w.1.1 rx.1.1, cl_s, isToldX w.1.1 rx.1.1, cl_s, isSpan_e, cl_s, decide_eq_true hs, b2_t, if_neg (show ¬ (1 : Int32) = 0 from by decide)]
  have e0 : xX10_tried_14 N a b 0 hx = if tld A (b - 10) = true ∨ tld A (b - 30) = true then xX10_tried_64 N a b (b2 (tld A (b - 10))) (b2 (tld A (b - 30))) hx else some (-1, hx) := by
    rw [e 0, if_neg (show ¬ (0 : Int32) ≠ 0 from by decide)]
    cases tld A (b - 10) <;> cases tld A (b - 30) <;> simp [b2]
  unfold xX10_tried xX10_tried_13
  by_cases h1 : b < 0
  · rw [if_pos h1, e0]
    simp [h1]
  · rw [if_neg h1]
    by_cases h2 : (2 : Int32) < b
    · rw [if_pos h2, e0]
      simp [h2]
    · rw [if_neg h2, e 1, if_pos (show (1 : Int32) ≠ 0 from by decide), if_pos (Or.inl ⟨h1, h2⟩)]
theorem trM_e (w : WF A) (rm : RM A hm) {a b : Int32} (hs : ¬ a < 1 ∧ ¬ (100 : Int32) < a) : xX11_tried N a b hm = if (¬ b < 0 ∧ ¬ (2 : Int32) < b) ∨ tld A (b - 10) = true ∨ tld A (b - 30) = true then xX11_tried_43 N a b hm else some (-1, hm) := by
  unfold xX11_tried xX11_tried_41
  rw [inM_e, cl_s, decide_eq_true hs, b2_t, if_neg (show ¬ (1 : Int32) = 0 from by decide), inM_e, cl_s]
  by_cases h1 : ¬ b < 0 ∧ ¬ (2 : Int32) < b
  · rw [decide_eq_true h1, b2_t, if_pos (show (1 : Int32) ≠ 0 from by decide), if_pos (Or.inl h1)]
  · rw [decide_eq_false h1, b2_f, if_neg (show ¬ (0 : Int32) ≠ 0 from by decide), isToldM w.1.1 rm.1.1, cl_s]
    cases t1 : tld A (b - 10)
    · rw [b2_f, if_neg (show ¬ (0 : Int32) ≠ 0 from by decide), isToldM w.1.1 rm.1.1, cl_s]
      cases t2 : tld A (b - 30)
      · rw [b2_f, if_neg (show ¬ (0 : Int32) ≠ 0 from by decide), if_neg (by rintro (z | z | z); exact h1 z; cases z; cases z)]
      · rw [b2_t, if_pos (show (1 : Int32) ≠ 0 from by decide), if_pos (Or.inr (Or.inr rfl))]
    · rw [b2_t, if_pos (show (1 : Int32) ≠ 0 from by decide), if_pos (Or.inr (Or.inl rfl))]
theorem c_tried (hN : 300 ≤ N) (w : WF A) (rx : RX A hx) (rm : RM A hm) (lw : LW hx hm) (a b : Int32) : CC (xX10_tried N a b hx) (xX11_tried N a b hm) hx hm := by
  by_cases h : ¬ a < 1 ∧ ¬ (100 : Int32) < a
  · rw [trX_e w rx h, trM_e w rm h]
    by_cases q : (¬ b < 0 ∧ ¬ (2 : Int32) < b) ∨ tld A (b - 10) = true ∨ tld A (b - 30) = true
    · rw [if_pos q, if_pos q]
      obtain ⟨m, m1, m2, rfl⟩ := span_n h
      obtain ⟨h1, e1, k1, s1⟩ := become_e (k0 := 39) (Or.inr rfl) rx.2.1
      have tx1 : TX A h1 := by
        obtain ⟨t1, t2, t3, t4⟩ := rx.1
        exact ⟨by rw [k1 3 (by omega)]; exact t1, by rw [k1 3 (by omega)]; exact t2, fun c hc => by rw [k1 4 (by omega)]; exact t3 c hc, fun p hp => by rw [k1 5 (by omega), k1 6 (by omega), k1 7 (by omega)]; exact t4 p hp⟩
      have tm1 : TM A (cpM hm 1 2 75) := by
        obtain ⟨t1, t2, t3, t4⟩ := rm.1
        exact ⟨by rw [cpM_n (by decide)]; exact t1, by rw [cpM_n (by decide)]; exact t2, fun c hc => by rw [cpM_n (by decide)]; exact t3 c hc, fun p hp => by rw [cpM_n (by decide), cpM_n (by decide), cpM_n (by decide)]; exact t4 p hp⟩
      have lw1 : LW h1 (cpM hm 1 2 75) := lw.tr (fun k q1 q2 => k1 k (by omega)) ⟨by rw [cpM_n (by decide)], fun k q1 q2 => cpM_n (by omega)⟩
      obtain ⟨out, S, x', m', a1, a2, a3, a4, a5, a6, a7, a8⟩ := pass_e (N := N) (k := 39) hN (Or.inr rfl) m2 w tx1 tm1 s1 (by rw [cpM_n (by decide)]; exact rm.2.1) lw1
      obtain ⟨w', tx, tm, sx, smm, -, -⟩ := a3
      have fj : ∀ j, j < 39 → x'.1 j = hx.1 j := fun j hj => by rw [a6 j (by omega) (by omega) (by omega), k1 j (by omega)]
      unfold xX10_tried_64 xX11_tried_43 xX10_tried_156 xX11_tried_148 xX11_tried_149
      rw [e1, cl_s, a1, cl_s, copies_e (by omega) (by decide), cl_s, a2, cl_s, a8]
      have cpy : ∀ (v : Int32) (H : HP), (cl (xX11_copies N 2 1 H) fun t1 h2 => some (v, h2)) = some (v, cpM H 2 1 75) := fun v H => by rw [copies_e (by omega) (by decide), cl_s]
      cases t1 : tld A (b - 10)
      · cases t3 : tld A (b - 30)
        · have q0 : ¬ b < 0 ∧ ¬ (2 : Int32) < b := by
            rcases q with z | z | z
            · exact z
            · rw [t1] at z; cases z
            · rw [t3] at z; cases z
          obtain ⟨x, x1, e⟩ := nI_of q0.1
          subst e
          have x2 : x ≤ 2 := by have := q0.2; rw [l2, lt_nn (by decide) x1] at this; omega
          rw [b2_f, if_pos (show (0 : Int32) = 0 from rfl), if_pos (show (0 : Int32) = 0 from rfl)]
          have x3 : x = 0 ∨ x = 1 ∨ x = 2 := by omega
          rcases x3 with rfl | rfl | rfl
          · rw [if_neg (show ¬ nI 0 ≠ 0 from fun z => z rfl), if_pos (show nI 0 = 0 from rfl), lt_e, cpy]
            exact back_c w rx rm _ rfl rfl fj a7
          · rw [if_pos (show nI 1 ≠ 0 from by decide), if_neg (show ¬ nI 1 ≠ 1 from fun z => z rfl), if_neg (show ¬ nI 1 = 0 from by decide), if_pos (show nI 1 = 1 from rfl), ald_l (j := 72) 72 rfl (by decide) (by decide), cpy, sx.2.1, smm.2.2.1]
            exact back_c w rx rm _ rfl rfl fj a7
          · have d0 : ∀ c, c < 16 → (S 0 0).testBit c = false → S 5 c = 0 := fun c hc hf => (w'.1.2.2.2.2.2.2.2 c hc hf).1
            have sO : xX11_sumOf N 0 m' = some (nI (sm (S 5) 16), m') := sumOf_e (by omega) w'.1.1 (r := 0) (by decide) tm.1 (fun c hc => by rw [Nat.zero_add]; exact (smm.1 c hc).1) d0
            rw [if_pos (show nI 2 ≠ 0 from by decide), if_pos (show nI 2 ≠ 1 from by decide), if_neg (show ¬ nI 2 = 0 from by decide), if_neg (show ¬ nI 2 = 1 from by decide), if_pos (show nI 2 = 2 from rfl), allSo_e (by omega) (fun c hc => (sx.2.2.2.2.2.2 c hc).1), cl_s, sO, cl_s, cpy]
            exact back_c w rx rm _ rfl rfl fj a7
        · obtain ⟨c, hc, e, -⟩ := tld_of t3
          have eb := sub_of (d := 30) (by omega) (by decide) e
          subst eb
          rw [b2_f, b2_t, if_pos (show (0 : Int32) = 0 from rfl), if_neg (show ¬ (1 : Int32) = 0 from by decide), show nI (c + 30) - 30 = nI c from e, ald_n hc (by decide), (sx.2.2.2.2.2.2 c hc).2.2, if_neg (show ¬ nI (c + 30) = 0 from i_ne (b := 0) (by omega) (by decide) (by omega)), if_neg (show ¬ nI (c + 30) = 1 from i_ne (b := 1) (by omega) (by decide) (by omega)), if_neg (show ¬ nI (c + 30) = 2 from i_ne (b := 2) (by omega) (by decide) (by omega)), if_pos (show (30 : Int32) ≤ nI (c + 30) from by rw [show (30 : Int32) = nI 30 from rfl, le_nn (by decide) (by omega)]; omega), ald_l (j := 32 + nI (c + 30) - 30) (32 + c) (by rw [l32, add_nn, show (30 : Int32) = nI 30 from rfl, sub_nn (by omega)]; congr 1) (by omega) (by decide), (smm.1 c hc).2.2, cpy]
          exact back_c w rx rm _ rfl rfl fj a7
      · obtain ⟨c, hc, e, -⟩ := tld_of t1
        have eb := sub_of (d := 10) (by omega) (by decide) e
        subst eb
        rw [b2_t, if_neg (show ¬ (1 : Int32) = 0 from by decide), show nI (c + 10) - 10 = nI c from e, ald_n hc (by decide), (sx.2.2.2.2.2.2 c hc).1, if_neg (show ¬ nI (c + 10) = 0 from i_ne (b := 0) (by omega) (by decide) (by omega)), if_neg (show ¬ nI (c + 10) = 1 from i_ne (b := 1) (by omega) (by decide) (by omega)), if_neg (show ¬ nI (c + 10) = 2 from i_ne (b := 2) (by omega) (by decide) (by omega)), if_neg (show ¬ (30 : Int32) ≤ nI (c + 10) from by rw [show (30 : Int32) = nI 30 from rfl, le_nn (by decide) (by omega)]; omega), ald_l (j := 0 + nI (c + 10) - 10) c (by rw [l0, add_nn, l10, sub_nn (by omega)]; congr 1; omega) (by omega) (by decide), (smm.1 c hc).1, cpy]
        exact back_c w rx rm _ rfl rfl fj a7
    · rw [if_neg q, if_neg q]
      exact (QQ.rf (-1) rfl rfl).cc w rx rm
  · refine (QQ.rf (-1) ?_ ?_).cc w rx rm
    · have e : ∀ s : Int32, xX10_tried_14 N a b s hx = some (-1, hx) := fun s => by
        unfold xX10_tried_14 xX10_tried_62
        rw [isToldX w.1.1 rx.1.1, cl_s, isToldX w.1.1 rx.1.1, cl_s, isSpan_e, cl_s, decide_eq_false h, b2_f, if_pos (show (0 : Int32) = 0 from rfl)]
      unfold xX10_tried xX10_tried_13
      rw [e, e]
      split
      · rfl
      · split <;> rfl
    · unfold xX11_tried xX11_tried_41
      rw [inM_e, cl_s, decide_eq_false h, b2_f, if_pos (show (0 : Int32) = 0 from rfl)]
end TRI
