section ORC
variable {A : AS} {hx hm : HP} {N : Nat}
theorem c_orders (hN : 300 ≤ N) (w : WF A) (rx : RX A hx) (rm : RM A hm) (a : Int32) : CC (xX10_orders N a hx) (xX11_orders N a hm) hx hm := by
  have wp := w.2.2.1
  have wn0 := w.1.2.1
  unfold xX10_orders xX11_orders xX11_orders_18
  rw [gives_e, inM_e, cl_s, rm.2.2.1.1, ← rx.2.2.1.1]
  by_cases h5 : ¬ a < 1 ∧ ¬ (120 : Int32) < a ∧ a ≤ hx.1 1 1
  · obtain ⟨n, hn1, rfl⟩ := gv_iff (A := A) (by decide) rx.2.2.1.1 h5 wp.1
    have hn : n ≤ 120 := by have := h5.2.1; rw [show (120 : Int32) = nI 120 from rfl, lt_nn (by decide) (by omega)] at this; omega
    rw [if_pos h5, cl_s, if_pos (show (1 : Int32) ≠ 0 from by decide), decide_eq_true (show ¬ nI n < 1 ∧ ¬ (120 : Int32) < nI n from ⟨h5.1, h5.2.1⟩), b2_t, if_neg (show ¬ (1 : Int32) = 0 from by decide), if_pos h5.2.2]
    have tp : TP (A 8) n := ⟨by omega, fun i hi => wp.2 i (by omega)⟩
    have bx := BX.of (m := n) w rx hn1
    -- the class begins
    unfold xX4_readFrom
    rw [lt_e]
    have fx : ∀ k, k ≠ 1 → k ≠ 27 → (up (gvX hx (nI n)) 27 3 0).1 k = hx.1 k := fun k q1 q2 => by rw [up_n q2, gvX_n q1]
    have x1 : (up (gvX hx (nI n)) 27 3 0).1 1 = (gvX hx (nI n)).1 1 := up_n (by decide)
    have tx : TcX (A 8) n 0 (up (gvX hx (nI n)) 27 3 0) := ⟨Nat.zero_le _, by rw [x1]; unfold gvX; simp [up_at]; rfl, by rw [x1]; exact bx.2.1, fun i hi => by rw [fx 2 (by decide) (by decide)]; exact rx.2.2.1.2 i (by omega)⟩
    have ox : OX (fun _ => (0, 0, 0)) 0 (up (gvX hx (nI n)) 27 3 0) := ⟨by rw [up_at, if_pos ⟨rfl, rfl⟩]; rfl, fun i hi => by omega⟩
    have x11 : (up (gvX hx (nI n)) 27 3 0).1 1 1 = nI 0 := by rw [x1]; unfold gvX; simp [up_at]; rfl
    have tX : TX A (up (gvX hx (nI n)) 27 3 0) := by
      obtain ⟨t1, t2, t3, t4⟩ := rx.1
      exact ⟨by rw [fx 3 (by decide) (by decide)]; exact t1, by rw [fx 3 (by decide) (by decide)]; exact t2, fun c hc => by rw [fx 4 (by decide) (by decide)]; exact t3 c hc, fun p hp => by rw [fx 5 (by decide) (by decide), fx 6 (by decide) (by decide), fx 7 (by decide) (by decide)]; exact t4 p hp⟩
    generalize up (gvX hx (nI n)) 27 3 0 = hx1 at *
    -- the reference begins
    unfold xX11_beginsText
    simp only [lt_e]
    rw [cl_s, copies_e (by omega) (by decide), cl_s]
    have mk : ∀ k, k ≠ 0 → k ≠ 2 → (cpM (up (up (up (up (up hm 0 11 0) 0 12 (nI n)) 0 16 0) 0 18 0) 0 39 0) 1 2 75).1 k = hm.1 k := fun k q1 q2 => by rw [cpM_n q2, up_n q1, up_n q1, up_n q1, up_n q1, up_n q1]
    have mo : ∀ j, j ≠ 11 → j ≠ 12 → j ≠ 16 → j ≠ 18 → j ≠ 39 → (cpM (up (up (up (up (up hm 0 11 0) 0 12 (nI n)) 0 16 0) 0 18 0) 0 39 0) 1 2 75).1 0 j = hm.1 0 j := fun j q1 q2 q3 q4 q7 => by rw [cpM_n (by decide), up_at, if_neg (by omega), up_at, if_neg (by omega), up_at, if_neg (by omega), up_at, if_neg (by omega), up_at, if_neg (by omega)]
    have tm : TcM (A 8) n 0 (cpM (up (up (up (up (up hm 0 11 0) 0 12 (nI n)) 0 16 0) 0 18 0) 0 39 0) 1 2 75) := ⟨by rw [cpM_n (by decide)]; simp [up_at]; rfl, by rw [cpM_n (by decide)]; simp [up_at], fun i hi => by rw [mk 8 (by decide) (by decide)]; exact rm.2.2.1.2 i (by omega)⟩
    have m39 : (cpM (up (up (up (up (up hm 0 11 0) 0 12 (nI n)) 0 16 0) 0 18 0) 0 39 0) 1 2 75).1 0 39 = nI 0 := by rw [cpM_n (by decide)]; simp [up_at]; rfl
    have mas : ∀ j, j < 75 → (cpM (up (up (up (up (up hm 0 11 0) 0 12 (nI n)) 0 16 0) 0 18 0) 0 39 0) 1 2 75).1 2 j = hm.1 1 j := fun j hj => by rw [cpM_k hj, up_n (by decide), up_n (by decide), up_n (by decide), up_n (by decide), up_n (by decide)]
    generalize cpM (up (up (up (up (up hm 0 11 0) 0 12 (nI n)) 0 16 0) 0 18 0) 0 39 0) 1 2 75 = m1 at *
    have tM : TM A m1 := by
      obtain ⟨t1, t2, t3, t4⟩ := rm.1
      exact ⟨by rw [mo 7 (by decide) (by decide) (by decide) (by decide) (by decide)]; exact t1, by rw [mo 8 (by decide) (by decide) (by decide) (by decide) (by decide)]; exact t2, fun c hc => by rw [mk 4 (by decide) (by decide)]; exact t3 c hc, fun p hp => by rw [mk 5 (by decide) (by decide), mk 6 (by decide) (by decide), mk 7 (by decide) (by decide)]; exact t4 p hp⟩
    obtain ⟨r, x2, m2, r1, m3, g1, g2, g3, g4, g5, g6, g7⟩ := ofrom_l (N := N) (A := A) (by omega) tp 30 N N 0 (fun _ => (0, 0, 0)) 0 hx1 m1 (by omega) (by omega) (by omega) (by omega) tx tm tX tM ox ⟨fun i hi => by rw [show i = 0 by omega]; exact w, fun i hi => by omega⟩ (by rw [mk 1 (by decide) (by decide)]; exact rm.2.1) m39
    rw [show xX4_readFrom_7 N N 0 hx1 = _ from g1, g2, cl_s, cl_s, g4]
    unfold xX11_orders_86
    rw [lt_e]
    have mk2 : ∀ k, k ≠ 0 → k ≠ 1 → k ≠ 2 → m2.1 k = hm.1 k := fun k q1 q2 q3 => by rw [g6.1 k q1 q2, mk k q1 q3]
    have mo2 : ∀ j, ¬ scM j → m2.1 0 j = hm.1 0 j := fun j q => by
      unfold scM at q
      rw [g6.2 j (by omega) (by omega) (by omega) (by omega), mo j (by omega) (by omega) (by omega) (by omega) (by omega)]
    have xk2 : ∀ k, k ≠ 1 → (k < 27 ∨ 30 < k) → x2.1 k = hx.1 k := fun k q1 q2 => by rw [g5.1 k q1 q2, fx k q1 (by omega)]
    have x211 : x2.1 1 1 = nI 0 := by rw [g5.2.1]; exact x11
    have rx2 : RX (tpA A 0 (A 8)) x2 := rx.tp (fun k q1 q2 q3 => xk2 k q1 (by omega)) x211 (fun i hi => by omega)
    have rm2 : RM (tpA A 0 (A 8)) (up hm 0 10 0) := rm.gv
    rcases g7 with ⟨rfl, os, m, m20, ox2, o2, s2, y39⟩ | ⟨rfl, g8⟩
    · obtain ⟨z1, z2, z3⟩ := fo_00 (A := A) (os := os) m
      have wS := (o2.1 m (Nat.le_refl _)).1
      rw [if_pos (show (1 : Int32) ≠ 0 from by decide), if_neg (show ¬ (1 : Int32) = 0 from by decide)]
      unfold xX4_carryOut
      obtain ⟨x3, e3, k3, s3⟩ := car_l (N := N) (A := A) m20 o2.1 o2.2 N 0 x2 (by omega) (by omega) ox2 (rx.2.1.keep (fun k q1 q2 => xk2 k (by omega) (by omega)))
      rw [show xX4_carryOut_2 N N 0 x2 = _ from e3, cl_s, show x3.1 27 3 = nI m from by rw [k3 27 (by omega)]; exact ox2.1, show (up m2 0 10 0).1 0 39 = nI m from by rw [up_at, if_neg (by decide)]; exact y39]
      refine ⟨_, _, _, stA (tpA A 0 (A 8)) (foO A os m 0 2) (foO A os m 0 3) (foO A os m 0 4) (foO A os m 0 5) (foO A os m 5) (foO A os m 6) (foO A os m 7), rfl, rfl, w.gv.st ?_, rx2.st (fun k hk => k3 k (by omega)) ?_, rm2.st (fun j hj => ?_) (fun k q1 q2 => ?_) ?_, fun k q1 q2 => ?_, ⟨?_, fun k q1 q2 => ?_⟩⟩
      · have := wS; rw [z2, z3] at this; exact this
      · have := s3; unfold SXa at this; rw [z2, z3] at this; exact this
      · rw [up_at, up_at]
        by_cases q : j = 10
        · rw [if_pos ⟨rfl, q⟩, if_pos ⟨rfl, q⟩]
        · rw [if_neg (fun y => q y.2), if_neg (fun y => q y.2), mo2 j hj]
      · rw [up_n (by omega), up_n (by omega), mk2 k (by omega) (by omega) (by omega)]
      · have := s2; unfold SMa at this; rw [z3] at this; rw [up_n (by decide)]; exact this
      · rw [k3 k (by omega), xk2 k (by omega) (by omega)]
      · rw [up_at, if_neg (by decide), mo2 19 (by unfold scM; omega)]
      · rw [up_n (by omega), mk2 k (by omega) (by omega) (by omega)]
    · rw [if_neg (show ¬ (0 : Int32) ≠ 0 from by decide), if_pos rfl, copies_e (by omega) (by decide), cl_s, cpM_n (by decide), show (up m2 0 10 0).1 0 13 = m2.1 0 13 from by rw [up_at, if_neg (by decide)], ← g8]
      refine ⟨_, _, _, stA (tpA A 0 (A 8)) (A 0 2) (A 0 3) (A 0 4) (A 0 5) (A 5) (A 6) (A 7), rfl, rfl, w.gv.st w.1, rx2.st (fun k hk => rfl) ?_, rm2.st (fun j hj => ?_) (fun k q1 q2 => ?_) ?_, fun k q1 q2 => xk2 k (by omega) (by omega), ⟨?_, fun k q1 q2 => ?_⟩⟩
      · exact rx.2.1.keep (fun k q1 q2 => xk2 k (by omega) (by omega))
      · rw [cpM_n (by decide), up_at, up_at]
        by_cases q : j = 10
        · rw [if_pos ⟨rfl, q⟩, if_pos ⟨rfl, q⟩]
        · rw [if_neg (fun y => q y.2), if_neg (fun y => q y.2), mo2 j hj]
      · rw [cpM_n (by omega), up_n (by omega), up_n (by omega), mk2 k (by omega) (by omega) (by omega)]
      · refine SM.eqv wn0 (fun j hj => ?_) rm.2.1
        rw [cpM_k hj, up_n (by decide), g6.1 2 (by decide) (by decide), mas j hj]
      · rw [cpM_n (by decide), up_at, if_neg (by decide), mo2 19 (by unfold scM; omega)]
      · rw [cpM_n (by omega), up_n (by omega), mk2 k (by omega) (by omega) (by omega)]
  · refine (QQ.rf (-1) ?_ ?_).cc w rx rm
    · rw [if_neg h5, cl_s, if_neg (show ¬ (0 : Int32) ≠ 0 from by decide)]
    · by_cases q : ¬ a < 1 ∧ ¬ (120 : Int32) < a
      · rw [decide_eq_true q, b2_t, if_neg (show ¬ (1 : Int32) = 0 from by decide), if_neg (fun z => h5 ⟨q.1, q.2, z⟩)]
      · rw [decide_eq_false q, b2_f, if_pos rfl]
end ORC
