section TID
variable {A : AS} {hx hm : HP} {N : Nat}
theorem isSpan_e (a : Int32) (h : HP) : xX10_isSpan a h = some (b2 (decide (¬ a < 1 ∧ ¬ (100 : Int32) < a)), h) := by
  unfold xX10_isSpan xX10_isSpan_15 xX10_isSpan_16
  by_cases h1 : a < 1
  · rw [if_pos h1, zok_0, decide_eq_false (fun z => z.1 h1)]; rfl
  · rw [if_neg h1]
    by_cases h2 : (100 : Int32) < a
    · rw [if_pos h2, zok_0, decide_eq_false (fun z => z.2 h2)]; rfl
    · rw [if_neg h2, zok_1, decide_eq_true ⟨h1, h2⟩]; rfl
theorem span_n {a : Int32} (h : ¬ a < 1 ∧ ¬ (100 : Int32) < a) : ∃ m, 1 ≤ m ∧ m ≤ 100 ∧ a = nI m := by
  obtain ⟨m, hm, e⟩ := nI_of (x := a) (fun q => h.1 (by rw [i_lt] at q ⊢; have : (0 : Int32).toInt = 0 := rfl; have : (1 : Int32).toInt = 1 := rfl; omega))
  subst e
  obtain ⟨h1, h2⟩ := h
  rw [l1, lt_nn hm (by decide)] at h1
  rw [l100, lt_nn (by decide) hm] at h2
  exact ⟨m, by omega, by omega, rfl⟩
theorem pass_e {k m : Nat} {S : AS} (hN : 300 ≤ N) (hk : k = 31 ∨ k = 39) (hm100 : m ≤ 100) (w : WF S) (tx : TX S hx) (tm : TM S hm) (sx : SXa k S hx) (sm : SMa (hm.1 1) S) (lw : LW hx hm) : ∃ out S' hx' hm', xX8_pass N k (nI m) hx = some (nI out, hx') ∧ xX11_minutesGo N (nI m) hm = some (0, hm') ∧ MR k S' hx' hm' ∧ S' 0 0 = S 0 0 ∧ S' 0 1 = S 0 1 ∧ fMi k hx hx' ∧ gMi hm hm' ∧ hm'.1 0 40 = nI out := by
  have f0 : fMi k hx (up hx 43 3 (nI k)) := fMi.up (Or.inl rfl)
  have g0 : gMi hm (up hm 0 40 0) := ⟨fun j q _ _ _ => up_n q, fun j q => by rw [up_at, if_neg (fun z => q z.2)]⟩
  have mr : MR k S (up hx 43 3 (nI k)) (up hm 0 40 0) := ⟨w, f0.TX hk tx, g0.TM tm, sx.keep (fun j h1 h2 => up_n (by omega)), by rw [up_n (by decide)]; exact sm, by rw [up_at, if_pos ⟨rfl, rfl⟩], lw.mi hk f0 g0⟩
  obtain ⟨out, S', x', m', a1, a2, a3, a4, a5, a6, a7, a8⟩ := pass_l (N := N) hN hk hm100 N N 0 0 S _ _ (by omega) (by omega) (by omega) mr (by rw [up_at, if_pos ⟨rfl, rfl⟩]; rfl)
  unfold xX8_pass xX11_minutesGo
  rw [lt_e, lt_e, show xX8_pass_10 N k N (nI m) 0 0 _ = _ from a1, show xX11_minutesGo_7 N N (nI m) 0 _ = _ from a2]
  exact ⟨out, S', x', m', rfl, rfl, a3, a4, a5, f0.tr a6, g0.tr a7, a8⟩
theorem c_minutes (hN : 300 ≤ N) (w : WF A) (rx : RX A hx) (rm : RM A hm) (lw : LW hx hm) (a : Int32) : CC (xX10_minutes N a hx) (xX11_minutes N a hm) hx hm := by
  unfold xX10_minutes xX11_minutes xX10_minutes_23
  rw [isSpan_e, inM_e, cl_s, cl_s]
  by_cases h : ¬ a < 1 ∧ ¬ (100 : Int32) < a
  · obtain ⟨m, m1, m2, rfl⟩ := span_n h
    obtain ⟨out, S', x', m', a1, a2, a3, a4, a5, a6, a7, a8⟩ := pass_e (N := N) (k := 31) hN (Or.inl rfl) m2 w rx.1 rm.1 rx.2.1 rm.2.1 lw
    rw [decide_eq_true h, b2_t, if_neg (show ¬ (1 : Int32) = 0 from by decide), if_pos (show (1 : Int32) ≠ 0 from by decide), a1, a2, cl_s, cl_s, a8]
    obtain ⟨w', tx, tm, sx, sm, -, -⟩ := a3
    refine ⟨_, x', m', stA A (S' 0 2) (S' 0 3) (S' 0 4) (S' 0 5) (S' 5) (S' 6) (S' 7), rfl, rfl, w.st ?_, rx.st (fun k hk => a6 k (by omega) (by omega) (by omega)) ?_, rm.st (fun j hj => a7.2 j (fun z => hj (by unfold scM; omega))) (fun k q1 q2 => a7.1 k (by omega) (by omega) (by omega) (by omega)) ?_, fun k q1 q2 => a6 k (by omega) (by omega) (by omega), ⟨a7.2 19 (by decide), fun k q1 q2 => a7.1 k (by omega) (by omega) (by omega) (by omega)⟩⟩
    · have := w'.1; rw [a4, a5] at this; exact this
    · have := sx; unfold SXa at this; rw [a4, a5] at this; exact this
    · have := sm; unfold SMa at this; rw [a5] at this; exact this
  · refine (QQ.rf (-1) ?_ ?_).cc w rx rm
    · rw [decide_eq_false h, b2_f, if_pos (show (0 : Int32) = 0 from rfl)]
    · rw [decide_eq_false h, b2_f, if_neg (show ¬ (0 : Int32) ≠ 0 from by decide)]
/-- a trial is put back -/
theorem back_c {hx' m1 : HP} (w : WF A) (rx : RX A hx) (rm : RM A hm) (r : Int32) {dx dm : Option (Int32 × HP)} (e1 : dx = some (r, hx')) (e2 : dm = some (r, cpM m1 2 1 75)) (f : ∀ j, j < 39 → hx'.1 j = hx.1 j) (g : gMi (cpM hm 1 2 75) m1) : CC dx dm hx hm := by
  have o : ∀ j, j ≠ 40 → m1.1 0 j = hm.1 0 j := fun j hj => by rw [g.2 j hj, cpM_n (by decide)]
  have kk : ∀ k, k ≠ 0 → k ≠ 1 → k ≠ 2 → k ≠ 20 → k ≠ 21 → m1.1 k = hm.1 k := fun k q1 q2 q3 q4 q5 => by rw [g.1 k q1 q2 q4 q5, cpM_n q3]
  refine ⟨r, hx', _, stA A (A 0 2) (A 0 3) (A 0 4) (A 0 5) (A 5) (A 6) (A 7), e1, e2, w.st w.1, rx.st (fun k hk => f k (by omega)) (rx.2.1.keep (fun k q1 q2 => f k (by omega))), rm.st (fun j hj => by rw [cpM_n (by decide)]; exact o j (fun z => hj (by unfold scM; omega))) (fun k q1 q2 => by rw [cpM_n (by omega)]; exact kk k (by omega) (by omega) (by omega) (by omega) (by omega)) ?_, fun k q1 q2 => f k (by omega), ⟨by rw [cpM_n (by decide)]; exact o 19 (by decide), fun k q1 q2 => by rw [cpM_n (by omega)]; exact kk k (by omega) (by omega) (by omega) (by omega) (by omega)⟩⟩
  refine SM.eqv w.1.2.1 (fun j hj => ?_) rm.2.1
  rw [cpM_k hj, g.1 2 (by decide) (by decide) (by decide) (by decide), cpM_k hj]
theorem sub_of {x : Int32} {c d : Nat} (hc : c < 100) (hd : d < 100) (h : x - nI d = nI c) : x = nI (c + d) := by
  have : x = nI c + nI d := by rw [← h]; exact (Int32.sub_add_cancel x (nI d)).symm
  rw [this, add_nn]
end TID
