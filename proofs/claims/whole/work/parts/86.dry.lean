section DRY
variable {A : AS} {hx hm : HP} {N : Nat}
theorem pass1_s {h : HP} (hN : 300 ≤ N) (h5 : h.1 39 5 = nI 9999) : xX8_pass N 39 1 h = some (0, up h 43 3 (nI 39)) := by
  obtain ⟨n, rfl⟩ : ∃ n, N = n + 1 := ⟨N - 1, by omega⟩
  unfold xX8_pass
  rw [lt_e, xX8_pass_10]
  dsimp only
  unfold xX8_pass_63
  rw [if_neg (by decide), lt_e, show (up h 43 3 (nI 39)).1 43 3 = nI 39 from by rw [up_at, if_pos ⟨rfl, rfl⟩], cl_k (Or.inr rfl), iok_t (st_k (Or.inr rfl)), show (up h 43 3 (nI 39)).1 39 5 = nI 9999 from by rw [up_n (by decide)]; exact h5, if_pos (by decide)]
theorem MR.u43 {S : AS} (mr : MR 39 S hx hm) : MR 39 S (up hx 43 3 (nI 39)) hm := by
  obtain ⟨w, tx, tm, sx, sm, h43, lw⟩ := mr
  have f0 : fMi 39 hx (up hx 43 3 (nI 39)) := fMi.up (Or.inl rfl)
  exact ⟨w, f0.TX (Or.inr rfl) tx, tm, sx.keep (fun j h1 h2 => up_n (by omega)), sm, by rw [up_at, if_pos ⟨rfl, rfl⟩], lw.mi (Or.inr rfl) f0 (gMi.rf _)⟩
theorem pass1_m {S : AS} {B : Nat} (hN : 300 ≤ N) (mr0 : MR 39 S (up hx 43 3 (nI 39)) hm) (h4 : S 0 4 < 9999) (h40 : hm.1 0 40 = nI B) : ∃ o S' hx' hm', xX8_pass N 39 1 hx = some (nI o, hx') ∧ xX11_minuteGoes N hm = some (0, hm') ∧ MR 39 S' hx' hm' ∧ S' 0 0 = S 0 0 ∧ fMi 39 hx hx' ∧ gMi hm hm' ∧ hm'.1 0 40 = nI (B + o) := by
  obtain ⟨n, e⟩ : ∃ n, N = n + 1 := ⟨N - 1, by omega⟩
  obtain ⟨n', e'⟩ : ∃ n', n = n' + 1 := ⟨n - 1, by omega⟩
  have f0 : fMi 39 hx (up hx 43 3 (nI 39)) := fMi.up (Or.inl rfl)
  obtain ⟨o, S', x', m', a1, a2, a3, a4, a5, a6, a7, a8, a9, a10, a11⟩ := minute_e (N := N) hN (Or.inr rfl) mr0 h4 h40
  refine ⟨o, S', _, m', ?_, a2, a5, a6, f0.tr a9, a10, a11⟩
  unfold xX8_pass
  have e1 : xX8_pass_10 N 39 N 1 0 0 (up hx 43 3 (nI 39)) = xX8_pass_10 N 39 n 1 (nI o) 1 (up x' 39 5 (nI (S 0 4 + 1))) := by
    rw [show xX8_pass_10 N 39 N = xX8_pass_10 N 39 (n + 1) from by rw [← e], xX8_pass_10]
    dsimp only
    rw [if_neg (by decide), lt_e, mr0.2.2.2.2.2.1, cl_k (Or.inr rfl), iok_t (st_k (Or.inr rfl)), mr0.2.2.2.1.2.2.1, if_neg (by rw [l9999, le_nn (by decide) (by omega)]; omega), a1, lt_e, lt_e, a3, cl_k (Or.inr rfl), iok_t (st_k (Or.inr rfl)), a4, nI_1, lt_e, lt_e, show (0 : Int32) + nI o = nI o from by rw [l0, add_nn, Nat.zero_add], show (0 : Int32) + 1 = 1 from by decide]
  rw [lt_e, e1, e', xX8_pass_10]
  dsimp only
  unfold xX8_pass_63
  rw [if_pos (by decide)]
theorem dry_st {c m : Nat} (hN : 300 ≤ N) (hc : c < 16) (hm100 : m ≤ 100) {s : Nat} (hs : s ≠ 0) (hs2 : s ≤ 9999) : ∀ n g h, g ≤ m + 1 → m + 1 - g < n → h.1 39 5 = nI 9999 → h.1 40 c = nI s → ∃ h', xX10_dry_33 N n (nI c) (nI m) (nI g) h = some (-2, h') ∧ fMi 39 h h' := by
  intro n
  induction n with
  | zero => intro g h _ q; omega
  | succ n ih =>
    intro g h hg hq h5 h40
    rw [xX10_dry_33]
    dsimp only
    by_cases e : g = m + 1
    · rw [if_pos (by rw [lt_nn (by omega) (by omega)]; omega)]
      exact ⟨h, rfl, fMi.rf _⟩
    · rw [if_neg (by rw [lt_nn (by omega) (by omega)]; omega), ald_n hc (by decide), h40, if_pos (show nI s ≠ 0 from i_ne (b := 0) (by omega) (by decide) hs), pass1_s hN h5, cl_s, lt_e, nI_1]
      obtain ⟨h', e1, e2⟩ := ih (g + 1) (up h 43 3 (nI 39)) (by omega) (by omega) (by rw [up_n (by decide)]; exact h5) (by rw [up_n (by decide)]; exact h40)
      exact ⟨h', e1, (fMi.up (Or.inl rfl)).tr e2⟩
theorem dry_l {c m : Nat} (hN : 300 ≤ N) (hc : c < 16) (hm100 : m ≤ 100) : ∀ n1 n2 g B S hx hm, g ≤ m → m + 1 - g < n1 → m + 1 - g < n2 → MR 39 S (up hx 43 3 (nI 39)) hm → hm.1 0 40 = nI B → ∃ r hx' m1, xX10_dry_33 N n1 (nI c) (nI m) (nI g) hx = some (r, hx') ∧ xX11_dry_33 N n2 (nI c) (nI m) (nI g) hm = some (r, cpM m1 2 1 75) ∧ fMi 39 hx hx' ∧ gMi hm m1 := by
  intro n1
  induction n1 with
  | zero => intro n2 g B S hx hm _ h; omega
  | succ n1 ih =>
    intro n2 g B S hx hm hg h1 h2 mr h40
    obtain ⟨n2, rfl⟩ : ∃ j, n2 = j + 1 := ⟨n2 - 1, by omega⟩
    obtain ⟨w, tx, tm, sx0, sm, h43, lw⟩ := id mr
    have sx : SXa 39 S hx := sx0.keep (fun j h1 h2 => (up_n (by omega)).symm)
    have k1 := (w.sk c hc).1
    have w4 := w.1.2.2.2.2.1
    have so := (sx.2.2.2.2.2.2 c hc).1
    have n0 : (0 : Int32) + nI c = nI c := by rw [l0, add_nn, Nat.zero_add]
    have cpy : ∀ (s : Int32) (H : HP), xX11_dry_89 N (nI g) s H = (if s = 0 then some (-2, cpM H 2 1 75) else some (nI g, cpM H 2 1 75)) := fun s H => by
      unfold xX11_dry_89 xX11_dry_113
      rw [copies_e (by omega) (by decide), cl_s]
    have e73 : ∀ s, hm.1 1 c = nI s → s < 100000 → xX11_dry_73 N (nI c) (nI g) hm = if s = 0 then some (nI g, cpM hm 2 1 75) else some (-2, cpM hm 2 1 75) := fun s hs hl => by
      unfold xX11_dry_73
      rw [n0, ald_n (by omega) (by decide), hs, cpy, cpy, if_pos (show (0 : Int32) = 0 from rfl), if_neg (show ¬ (1 : Int32) = 0 from by decide)]
      by_cases z : s = 0
      · rw [if_pos z, z, if_neg (fun k => k rfl)]
      · rw [if_neg z, if_pos (show nI s ≠ 0 from i_ne (b := 0) (by omega) (by decide) z)]
    have e73' := e73 (S 5 c) (sm.1 c hc).1 (by omega)
    rw [xX10_dry_33, xX11_dry_33]
    dsimp only
    rw [e73', if_neg (show ¬ nI m < nI g from by rw [lt_nn (by omega) (by omega)]; omega), ald_n (h := hx) hc (by decide), so, n0, ald_n (h := hm) (by omega) (by decide), (sm.1 c hc).1]
    by_cases z : S 5 c = 0
    · rw [z, if_neg (show ¬ nI 0 ≠ 0 from fun k => k rfl), if_pos (show nI 0 ≤ 0 from by decide), if_pos rfl]
      exact ⟨_, hx, hm, rfl, rfl, fMi.rf _, gMi.rf _⟩
    · have zi : nI (S 5 c) ≠ 0 := i_ne (b := 0) (by omega) (by decide) z
      rw [if_pos zi, if_neg (show ¬ nI (S 5 c) ≤ 0 from by rw [l0, le_nn (by omega) (by decide)]; omega), if_neg z]
      by_cases q : S 0 4 < 9999
      · obtain ⟨o, S1, x1, m1, a1, a2, a3, a4, a5, a6, a7⟩ := pass1_m (N := N) hN mr q h40
        rw [a1, cl_s, lt_e, nI_1]
        by_cases e : g = m
        · rw [if_pos (show nI m ≤ nI g from by rw [le_nn (by omega) (by omega)]; omega)]
          refine ⟨-2, x1, hm, ?_, rfl, a5, gMi.rf _⟩
          obtain ⟨n1, rfl⟩ : ∃ j, n1 = j + 1 := ⟨n1 - 1, by omega⟩
          rw [xX10_dry_33]
          dsimp only
          rw [if_pos (show nI m < nI (g + 1) from by rw [lt_nn (by omega) (by omega)]; omega)]
        · rw [if_neg (show ¬ nI m ≤ nI g from by rw [le_nn (by omega) (by omega)]; omega), ald_l (j := 73) 73 rfl (by decide) (by decide), sm.2.2.2.1, if_neg (show ¬ (9999 : Int32) ≤ nI (S 0 4) from by rw [l9999, le_nn (by decide) (by omega)]; omega), a2, cl_s, lt_e]
          obtain ⟨r, x2, m2, d1, d2, d3, d4⟩ := ih n2 (g + 1) (B + o) S1 x1 m1 (by omega) (by omega) (by omega) a3.u43 a7
          exact ⟨r, x2, m2, d1, d2, a5.tr d3, a6.tr d4⟩
      · have e4 : S 0 4 = 9999 := by omega
        have h5 : hx.1 39 5 = nI 9999 := by rw [← e4]; exact sx.2.2.1
        rw [pass1_s hN h5, cl_s, lt_e, nI_1]
        obtain ⟨h', e1, e2⟩ := dry_st (N := N) hN hc hm100 z k1 n1 (g + 1) (up hx 43 3 (nI 39)) (by omega) (by omega) (by rw [up_n (by decide)]; exact h5) (by rw [up_n (by decide)]; exact so)
        rw [e1]
        refine ⟨-2, h', hm, rfl, ?_, (fMi.up (Or.inl rfl)).tr e2, gMi.rf _⟩
        split
        · rfl
        · rw [ald_l (j := 73) 73 rfl (by decide) (by decide), sm.2.2.2.1, e4, if_pos (by decide)]
theorem c_dry (hN : 300 ≤ N) (w : WF A) (rx : RX A hx) (rm : RM A hm) (lw : LW hx hm) (a b : Int32) : CC (xX10_dry N a b hx) (xX11_dry N a b hm) hx hm := by
  unfold xX10_dry xX11_dry xX10_dry_18 xX11_dry_18
  rw [isToldX w.1.1 rx.1.1, isToldM w.1.1 rm.1.1, cl_s, cl_s]
  cases ht : tld A a
  · rw [b2_f, if_pos (show (0 : Int32) = 0 from rfl), if_pos (show (0 : Int32) = 0 from rfl)]
    exact (QQ.rf (-1) rfl rfl).cc w rx rm
  · obtain ⟨c, hc, rfl, -⟩ := tld_of ht
    rw [b2_t, if_neg (show ¬ (1 : Int32) = 0 from by decide), if_neg (show ¬ (1 : Int32) = 0 from by decide), isSpan_e, inM_e, cl_s, cl_s]
    by_cases h : ¬ b < 1 ∧ ¬ (100 : Int32) < b
    · obtain ⟨m, m1, m2, rfl⟩ := span_n h
      rw [decide_eq_true h, b2_t, if_pos (show (1 : Int32) ≠ 0 from by decide), if_pos (show (1 : Int32) ≠ 0 from by decide)]
      obtain ⟨h1, e1, k1, s1⟩ := become_e (k0 := 39) (Or.inr rfl) rx.2.1
      have tx1 : TX A h1 := by
        obtain ⟨t1, t2, t3, t4⟩ := rx.1
        exact ⟨by rw [k1 3 (by omega)]; exact t1, by rw [k1 3 (by omega)]; exact t2, fun c hc => by rw [k1 4 (by omega)]; exact t3 c hc, fun p hp => by rw [k1 5 (by omega), k1 6 (by omega), k1 7 (by omega)]; exact t4 p hp⟩
      have tm1 : TM A (cpM hm 1 2 75) := by
        obtain ⟨t1, t2, t3, t4⟩ := rm.1
        exact ⟨by rw [cpM_n (by decide)]; exact t1, by rw [cpM_n (by decide)]; exact t2, fun c hc => by rw [cpM_n (by decide)]; exact t3 c hc, fun p hp => by rw [cpM_n (by decide), cpM_n (by decide), cpM_n (by decide)]; exact t4 p hp⟩
      have lw1 : LW h1 (cpM hm 1 2 75) := lw.tr (fun k q1 q2 => k1 k (by omega)) ⟨by rw [cpM_n (by decide)], fun k q1 q2 => cpM_n (by omega)⟩
      obtain ⟨B, -, hB⟩ := I_n (hm.1 0 40)
      have f0 : fMi 39 h1 (up h1 43 3 (nI 39)) := fMi.up (Or.inl rfl)
      have mr : MR 39 A (up h1 43 3 (nI 39)) (cpM hm 1 2 75) := ⟨w, f0.TX (Or.inr rfl) tx1, tm1, s1.keep (fun j h1 h2 => up_n (by omega)), by rw [cpM_n (by decide)]; exact rm.2.1, by rw [up_at, if_pos ⟨rfl, rfl⟩], lw1.mi (Or.inr rfl) f0 (gMi.rf _)⟩
      obtain ⟨r, x', m', d1, d2, d3, d4⟩ := dry_l (N := N) hN hc m2 N N 0 B A h1 (cpM hm 1 2 75) (by omega) (by omega) (by omega) mr (by rw [cpM_n (by decide)]; exact hB)
      rw [e1, cl_s, copies_e (by omega) (by decide), cl_s]
      exact back_c w rx rm r d1 d2 (fun j hj => by rw [d3 j (by omega) (by omega) (by omega), k1 j (by omega)]) d4
    · rw [decide_eq_false h, b2_f, if_neg (show ¬ (0 : Int32) ≠ 0 from by decide), if_neg (show ¬ (0 : Int32) ≠ 0 from by decide)]
      exact (QQ.rf (-1) rfl rfl).cc w rx rm
end DRY
