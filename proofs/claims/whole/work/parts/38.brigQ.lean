section BQ
variable {A : AS} {hx hm : HP} {N : Nat}
theorem q_brigades (hN : 100000 ≤ N) (w : WF A) (rx : RX A hx) (rm : RM A hm) (a b : Int32) : QQ (xX10_brigades N a b hx) (xX11_brigades N a b hm) hx hm := by
  have wo := op_lt w
  have wn := w.1.2.1
  have w1 := w.1.1
  unfold xX10_brigades xX11_brigades xX10_brigades_19 xX11_brigades_18 xX10_brigades_66
  rw [inM_e, cl_s, inM_e, cl_s]
  by_cases h1 : a < 1
  · exact QQ.rf (-1) (by rw [if_pos h1]) (by rw [decide_eq_false (fun z => z.1 h1), b2_f, if_pos rfl])
  · by_cases h2 : (5 : Int32) < a
    · exact QQ.rf (-1) (by rw [if_neg h1, if_pos h2]) (by rw [decide_eq_false (fun z => z.2 h2), b2_f, if_pos rfl])
    · rw [if_neg h1, if_neg h2, decide_eq_true (show ¬ a < 1 ∧ ¬ (5 : Int32) < a from ⟨h1, h2⟩), b2_t, if_neg (show ¬ (1 : Int32) = 0 from by decide)]
      by_cases h3 : b < 0
      · exact QQ.rf (-1) (by rw [if_pos h3]) (by rw [decide_eq_false (fun z => z.1 h3), b2_f, if_neg (by decide)])
      · by_cases h4 : b ≤ 1
        · rw [if_neg h3, if_pos h4, decide_eq_true (show ¬ b < 0 ∧ ¬ (1 : Int32) < b from ⟨h3, Int32.not_lt.mpr h4⟩), b2_t, if_pos (show (1 : Int32) ≠ 0 from by decide)]
          obtain ⟨k, hk1, hk5, rfl⟩ : ∃ k, 1 ≤ k ∧ k ≤ 5 ∧ a = nI k := by
            obtain ⟨j, hj, e⟩ := nI_of (x := a) (fun z => h1 (by rw [i_lt] at z ⊢; rw [show (0 : Int32).toInt = 0 from by decide] at z; rw [show (1 : Int32).toInt = 1 from by decide]; omega))
            rw [e, l1, lt_nn hj (by decide)] at h1
            rw [e, show (5 : Int32) = nI 5 from rfl, lt_nn (by decide) hj] at h2
            exact ⟨j, by omega, by omega, e⟩
          have hb01 : b = 0 ∨ b = 1 := by
            obtain ⟨j, hj, e⟩ := nI_of h3
            rw [e, l1, le_nn hj (by decide)] at h4
            rcases Nat.eq_zero_or_pos j with z | z
            · left; rw [e, z]; rfl
            · right; rw [e, show j = 1 by omega]; rfl
          -- the reference
          obtain ⟨h5, e5, k5, j5, r5⟩ := allSteps_e (N := N) (op := A 0 2) (by omega) w.2.1 w1 wn rm.1 rm.2.1.2.1
          have t7 : h5.1 0 7 = nI (A 0 0) := by rw [j5 7 (by decide)]; exact rm.1.1
          have r1 : rbs A (am (A 0 2)) k 1 = none := by
            have nr : rbs A (am (A 0 2)) k (0 + 1) = if vld A k 0 = true ∧ wst A (am (A 0 2)) 0 16 < lmt A (am (A 0 2)) (rbs A (am (A 0 2)) k 0) then some 0 else rbs A (am (A 0 2)) k 0 := rfl
            rw [show 1 = 0 + 1 from rfl, nr, if_neg (fun z => by
              have hv := z.1
              unfold vld at hv
              rw [Bool.and_eq_true, decide_eq_true_iff, decide_eq_true_iff, pc_zero] at hv
              omega)]
            rfl
          have em := brigM_l (N := N) (k := k) (op := A 0 2) (by omega) w.2.1 w1 hk5 t7 r5 b N 1 (by omega) (by omega)
          rw [r1] at em
          rw [e5, cl_s, show xX11_brigades_35 N N (nI k) b (-2) 1000000 1 h5 = _ from em]
          have km : keM hm h5 := keM.bfs k5 j5
          -- the class
          rw [rx.2.1.1]
          obtain ⟨h6, e6, k6, n6, o6⟩ := look_e (N := N) (op := A 0 2) (by omega) w.2.1 wn (by omega) rx.1
          have t6 : TX A h6 := sB.TX (h0 := hx) (fun k q1 q2 _ => k6 k q1 q2) rx.1
          rw [e6, cl_s]
          -- the answer from what the class finds
          have fin : ∀ h', keX hx h' → xX3_bestStand N (nI k) h6 = some (bsV A (am (A 0 2)) (rbs A (am (A 0 2)) k 65536), h') → QQ (cl (xX3_bestStand N (nI k) h6) fun t3 h4 => if 0 ≤ t3 then (if b ≠ 0 then some (t3 &&& 65535, h4) else some (t3 >>> (16 &&& 31), h4)) else some (-2, h4)) (some (brV A (am (A 0 2)) b (rbs A (am (A 0 2)) k 65536), h5)) hx hm := by
            intro h' kx e
            rw [e, cl_s]
            generalize hg : rbs A (am (A 0 2)) k 65536 = o
            cases o with
            | none =>
              exact ⟨-2, h', h5, by rw [show bsV A (am (A 0 2)) none = -2 from rfl, if_neg (by decide)], rfl, kx, km⟩
            | some b0 =>
              have i1 := (rbs_s 65536 b0 hg).1
              have i3 := (rbs_s 65536 b0 hg).2.2.1
              have wc := wst_cap (A := A) (act := am (A 0 2)) w.2.1 b0 16
              rw [show bsV A (am (A 0 2)) (some b0) = nI (wst A (am (A 0 2)) b0 16 * 65536 + b0) from rfl, show brV A (am (A 0 2)) b (some b0) = if b = 1 then nI b0 else nI (wst A (am (A 0 2)) b0 16) from rfl, if_pos (show (0 : Int32) ≤ nI (wst A (am (A 0 2)) b0 16 * 65536 + b0) by rw [l0, le_nn (by decide) (by omega)]; omega), l16, shr_nn (by decide) (by omega), l65535, and_nn, show (65535 : Nat) = 2 ^ 16 - 1 from rfl, Nat.and_two_pow_sub_one_eq_mod, show (wst A (am (A 0 2)) b0 16 * 65536 + b0) / 2 ^ 16 = wst A (am (A 0 2)) b0 16 by omega, show (wst A (am (A 0 2)) b0 16 * 65536 + b0) % 2 ^ 16 = b0 by omega]
              rcases hb01 with z | z
              · subst z
                exact ⟨_, h', h5, by rw [if_neg (by decide)], by rw [if_neg (by decide)], kx, km⟩
              · subst z
                exact ⟨_, h', h5, by rw [if_pos (by decide)], by rw [if_pos rfl], kx, km⟩
          have vl : ∀ b, vld A k b = true → b &&& (4294967295 - A 0 0) = 0 ∧ pc b 16 = k := fun b hv => by
            unfold vld at hv
            rw [Bool.and_eq_true, decide_eq_true_iff, decide_eq_true_iff] at hv
            exact hv
          have kx6 : keX hx h6 := keX.net (fun k q1 q2 _ => k6 k q1 q2)
          by_cases q1 : pc (A 0 0) 16 < k
          · apply fin h6 kx6
            unfold xX3_bestStand xX3_bestStand_26
            have pl := pc_le (A 0 0) 16
            rw [t6.1, bitCount16 w1, cl_s, if_pos (by rw [lt_nn (by omega) (by omega)]; exact q1), rbs_none (fun b hb hv => by
              obtain ⟨v1, v2⟩ := vl b hv
              have := (pc_sub (a := b) (b := A 0 0) 16 (fun i hi hbt => vld_sub (k := 0) w1 v1 (by omega) hbt)).1
              omega)]
            rfl
          · obtain ⟨h7, e7, k7, n7⟩ := groupsX_e (N := N) (op := A 0 2) (by omega) w.2.1 w1 wn (by omega) t6
            have pl := pc_le (A 0 0) 16
            have gl := gp_le (A := A) (act := am (A 0 2)) 16
            have kx7 : keX hx h7 := kx6.tr (keX.net k7)
            have t7x : h7.1 3 4 = nI (A 0 0) := by rw [k7 3 (by decide) (by decide) (by decide)]; exact t6.1
            by_cases q2 : gp A (am (A 0 2)) 16 ≤ k
            · obtain ⟨h8, e8, k8⟩ := best_0 (N := N) (A := A) (op := A 0 2) hN w.2.1 w1 hk5 hk1 N 0 h7 (by omega) (by omega) n7 t7x (fun c hc => by omega)
              apply fin h8 (kx7.tr ⟨fun a q1 q2 => k8 a (by omega), by rw [k8 1 (by omega)], fun a q1 q2 q3 => k8 a (by omega)⟩)
              unfold xX3_bestStand
              rw [t6.1, bitCount16 w1, cl_s, if_neg (by rw [lt_nn (by omega) (by omega)]; exact q1), o6, e7, cl_s, if_pos (by rw [le_nn (by omega) (by omega)]; exact q2)]
              exact e8
            · apply fin h7 kx7
              unfold xX3_bestStand xX3_bestStand_26
              rw [t6.1, bitCount16 w1, cl_s, if_neg (by rw [lt_nn (by omega) (by omega)]; exact q1), o6, e7, cl_s, if_neg (by rw [le_nn (by omega) (by omega)]; exact q2), rbs_none (fun b hb hv => by
                obtain ⟨v1, v2⟩ := vl b hv
                rcases wst_cap (A := A) (act := am (A 0 2)) w.2.1 b 16 with z | z
                · exfalso
                  have := gp_cvr w.2.1 w1 ((wst_cvr (act := am (A 0 2)) w.2.1 w1 b (g := 15) (by omega)).mp (by omega))
                  omega
                · omega)]
              rfl
        · exact QQ.rf (-1) (by rw [if_neg h3, if_neg h4]) (by rw [decide_eq_false (fun z => h4 (Int32.not_lt.mp z.2)), b2_f, if_neg (by decide)])
end BQ
