section PAS
variable {N k : Nat}
theorem rise_l (hN : 300 ≤ N) (hk : k = 31 ∨ k = 39) : ∀ n1 n2 c S hx hm, c ≤ 16 → 16 - c < n1 → 16 - c < n2 → MR k S hx hm → ∃ S' hx' hm', xX8_rise_2 N n1 (nI c) hx = some (0, hx') ∧ xX11_minuteGoes_2 N n2 (nI c) hm = xX11_minuteGoes_29 N N 0 hm' ∧ MR k S' hx' hm' ∧ sameT S S' ∧ fMi k hx hx' ∧ gMi hm hm' ∧ hm'.1 0 = hm.1 0 := by
  intro n1
  induction n1 with
  | zero => intro n2 c S hx hm _ h; omega
  | succ n1 ih =>
    intro n2 c S hx hm hc h1 h2 mr
    obtain ⟨n2, rfl⟩ : ∃ j, n2 = j + 1 := ⟨n2 - 1, by omega⟩
    rw [xX8_rise_2, xX11_minuteGoes_2]
    dsimp only
    by_cases e : c = 16
    · subst e
      rw [if_pos (show (16 : Int32) ≤ nI 16 by decide), if_pos (show (16 : Int32) ≤ nI 16 by decide)]
      exact ⟨S, hx, hm, rfl, rfl, mr, ⟨rfl, rfl, rfl⟩, fMi.rf _, gMi.rf _, rfl⟩
    · have c16 : c < 16 := by omega
      have nl : ¬ (16 : Int32) ≤ nI c := by rw [l16, le_nn (by decide) (by omega)]; omega
      have w1 := mr.1.1.1
      rw [if_neg nl, if_neg nl, isToldX w1 mr.2.1.1, isToldM w1 mr.2.2.1.1, cl_s, cl_s, tld_n c16]
      cases ht : (S 0 0).testBit c
      · rw [b2_f, if_neg (show ¬ (0 : Int32) ≠ 0 from by decide), if_pos (show (0 : Int32) = 0 from rfl)]
        unfold xX8_rise_99 xX11_minuteGoes_21
        rw [lt_e, lt_e, nI_1]
        exact ih n2 (c + 1) S hx hm (by omega) (by omega) (by omega) mr
      · rw [b2_t, if_pos (show (1 : Int32) ≠ 0 from by decide), if_neg (show ¬ (1 : Int32) = 0 from by decide)]
        obtain ⟨r, x1, m1, e1, e2, e3, e4, e5, e6⟩ := rise_s (N := N) hN hk mr c16 ht (xX8_rise_99 N (xX8_rise_2 N n1))
        rw [show (lt (up hx 43 4 (nI c)) fun h3 => _) = _ from e1, e2, cl_s]
        unfold xX8_rise_99 xX11_minuteGoes_21
        rw [lt_e, lt_e, nI_1]
        obtain ⟨S', x2, m2, d1, d2, d3, d4, d5, d6, d7⟩ := ih n2 (c + 1) _ x1 m1 (by omega) (by omega) (by omega) e3
        exact ⟨S', x2, m2, d1, d2, d3, sameT.tr ⟨rfl, rfl, rfl⟩ d4, e4.tr d5, e5.tr d6, by rw [d7, e6]⟩
theorem level_l (hN : 300 ≤ N) (hk : k = 31 ∨ k = 39) : ∀ n1 n2 p S hx hm, p ≤ S 0 1 → S 0 1 - p < n1 → S 0 1 - p < n2 → MR k S hx hm → ∃ S' hx' hm', xX8_level_2 N n1 (nI p) hx = some (0, hx') ∧ xX11_minuteGoes_29 N n2 (nI p) hm = xX11_minuteGoes_58 N N 0 hm' ∧ MR k S' hx' hm' ∧ sameT S S' ∧ fMi k hx hx' ∧ gMi hm hm' ∧ hm'.1 0 = hm.1 0 := by
  intro n1
  induction n1 with
  | zero => intro n2 p S hx hm _ h; omega
  | succ n1 ih =>
    intro n2 p S hx hm hp h1 h2 mr
    obtain ⟨n2, rfl⟩ : ∃ j, n2 = j + 1 := ⟨n2 - 1, by omega⟩
    obtain ⟨w, tx, tm, sx, sm, h43, lw⟩ := id mr
    have wn := w.1.2.1
    have wo := op_lt w
    rw [xX8_level_2, xX11_minuteGoes_29]
    dsimp only
    rw [tx.2.1, tm.2.1]
    by_cases e : p = S 0 1
    · have le : nI (S 0 1) ≤ nI p := by rw [le_nn (by omega) (by omega)]; omega
      rw [if_pos le, if_pos le]
      exact ⟨S, hx, hm, rfl, rfl, mr, ⟨rfl, rfl, rfl⟩, fMi.rf _, gMi.rf _, rfl⟩
    · have le : ¬ nI (S 0 1) ≤ nI p := by rw [le_nn (by omega) (by omega)]; omega
      rw [if_neg le, if_neg le, lt_e, h43, cl_k hk, iok_t (st_k hk), sx.1, hasBit_e (by omega) (by omega), cl_s, isOpen_e wn tm sm.2.1 (by omega), cl_s, decide_eq_true (show p < S 0 1 by omega), Bool.true_and]
      cases hb : (S 0 2).testBit p
      · rw [b2_f, if_neg (show ¬ (0 : Int32) ≠ 0 from by decide), if_pos (show (0 : Int32) = 0 from rfl)]
        unfold xX8_level_144 xX11_minuteGoes_50
        rw [lt_e, lt_e, nI_1]
        exact ih n2 (p + 1) S hx hm (by omega) (by omega) (by omega) mr
      · rw [b2_t, if_pos (show (1 : Int32) ≠ 0 from by decide), if_neg (show ¬ (1 : Int32) = 0 from by decide)]
        obtain ⟨S1, x1, m1, e1, e2, e3, e4, e5, e6, e7, e8⟩ := level_s (N := N) hk mr (show p < S 0 1 by omega) (xX8_level_144 N (xX8_level_2 N n1))
        have ex : (ald hx 5 24 (nI p) fun t4 =>
        ald hx 6 24 (nI p) fun t5 =>
        ald hx 4 16 t4 fun t6 =>
        lt (nI k).toNatClampNeg fun k7 => iok (isSt k7) <|
        ald hx (k7 + 1) 16 t4 fun t8 =>
        ald hx 4 16 t5 fun t9 =>
        lt (nI k).toNatClampNeg fun k10 => iok (isSt k10) <|
        ald hx (k10 + 1) 16 t5 fun t11 =>
        lt (((t6 + t8) - t9) - t11) fun v12 =>
        if v12 < 0 then
          (ald hx 7 24 (nI p) fun t13 =>
          cl (xX8_give t5 t4 (imn t13 ((-v12) / 2)) hx) fun t14 h15 =>
          xX8_level_144 N (xX8_level_2 N n1) (nI p) h15)
        else
          (ald hx 7 24 (nI p) fun t16 =>
          cl (xX8_give t4 t5 (imn t16 (v12 / 2)) hx) fun t17 h18 =>
          xX8_level_144 N (xX8_level_2 N n1) (nI p) h18)) = xX8_level_144 N (xX8_level_2 N n1) (nI p) x1 := by
          have := e1
          unfold lvB at this
          rw [h43] at this
          exact this
        rw [e2, cl_s]
        have fin : ∀ d : Option (Int32 × HP), d = xX8_level_144 N (xX8_level_2 N n1) (nI p) x1 → ∃ S' hx' hm', d = some (0, hx') ∧ xX11_minuteGoes_50 N (xX11_minuteGoes_29 N n2) (nI p) m1 = xX11_minuteGoes_58 N N 0 hm' ∧ MR k S' hx' hm' ∧ sameT S S' ∧ fMi k hx hx' ∧ gMi hm hm' ∧ hm'.1 0 = hm.1 0 := by
          intro d hd
          rw [hd]
          unfold xX8_level_144 xX11_minuteGoes_50
          rw [lt_e, lt_e, nI_1]
          obtain ⟨S', x2, m2, d1, d2, d3, d4, d5, d6, d7⟩ := ih n2 (p + 1) S1 x1 m1 (by rw [e4.2.1]; omega) (by rw [e4.2.1]; omega) (by rw [e4.2.1]; omega) e3
          exact ⟨S', x2, m2, d1, d2, d3, e4.tr d4, e6.tr d5, e7.tr d6, by rw [d7, e8]⟩
        exact fin _ (by first | exact e1 | exact ex | (rw [h43]; exact ex))
theorem weep_l (hN : 300 ≤ N) (hk : k = 31 ∨ k = 39) : ∀ n1 n2 c a B S hx hm, c ≤ 16 → 16 - c < n1 → 16 - c < n2 → MR k S hx hm → hm.1 0 40 = nI (B + a) → ∃ a' S' hx' hm', xX8_weep_4 N n1 (nI a) (nI c) hx = some (nI a', hx') ∧ xX11_minuteGoes_58 N n2 (nI c) hm = some (0, up hm' 1 73 (nI (S' 0 4 + 1))) ∧ MR k S' hx' hm' ∧ sameT S S' ∧ fMi k hx hx' ∧ gMi hm hm' ∧ hm'.1 0 40 = nI (B + a') := by
  intro n1
  induction n1 with
  | zero => intro n2 c a B S hx hm _ h; omega
  | succ n1 ih =>
    intro n2 c a B S hx hm hc h1 h2 mr h40
    obtain ⟨n2, rfl⟩ : ∃ j, n2 = j + 1 := ⟨n2 - 1, by omega⟩
    obtain ⟨w, tx, tm, sx, sm, h43, lw⟩ := id mr
    have w1 := w.1.1
    rw [xX8_weep_4, xX11_minuteGoes_58]
    dsimp only
    by_cases e : c = 16
    · subst e
      rw [if_pos (show (16 : Int32) ≤ nI 16 by decide), if_pos (show (16 : Int32) ≤ nI 16 by decide), ald_l (j := 73) 73 rfl (by decide) (by decide), sm.2.2.2.1, nI_1, ast_l (j := 73) 73 rfl (by decide) (by decide)]
      exact ⟨a, S, hx, hm, rfl, rfl, mr, ⟨rfl, rfl, rfl⟩, fMi.rf _, gMi.rf _, h40⟩
    · have c16 : c < 16 := by omega
      have nl : ¬ (16 : Int32) ≤ nI c := by rw [l16, le_nn (by decide) (by omega)]; omega
      have skip : ∃ a' S' hx' hm', xX8_weep_133 N (xX8_weep_4 N n1) (nI a) (nI c) hx = some (nI a', hx') ∧ xX11_minuteGoes_89 N (xX11_minuteGoes_58 N n2) (nI c) hm = some (0, up hm' 1 73 (nI (S' 0 4 + 1))) ∧ MR k S' hx' hm' ∧ sameT S S' ∧ fMi k hx hx' ∧ gMi hm hm' ∧ hm'.1 0 40 = nI (B + a') := by
        unfold xX8_weep_133 xX11_minuteGoes_89
        rw [lt_e, lt_e, nI_1]
        exact ih n2 (c + 1) a B S hx hm (by omega) (by omega) (by omega) mr h40
      have tu := (sx.2.2.2.2.2.2 c c16).2.1
      have t8 := (w.sk c c16).2.1
      rw [if_neg nl, if_neg nl, isToldX w1 tx.1, isToldM w1 tm.1, cl_s, cl_s, tld_n c16]
      cases ht : (S 0 0).testBit c
      · rw [b2_f, if_pos (show (0 : Int32) = 0 from rfl), if_pos (show (0 : Int32) = 0 from rfl)]; exact skip
      · rw [b2_t, if_neg (show ¬ (1 : Int32) = 0 from by decide), if_neg (show ¬ (1 : Int32) = 0 from by decide), ald_l (j := 16 + nI c) (16 + c) (by rw [l16, add_nn]) (by omega) (by decide), (sm.1 c c16).2.1]
        have ex : (lt (hx.1 43 3).toNatClampNeg fun k3 => iok (isSt k3) <| ald hx (k3 + 2) 16 (nI c) fun t4 => if t4 ≠ 0 then wpB N (xX8_weep_133 N (xX8_weep_4 N n1)) (nI a) (nI c) hx else xX8_weep_133 N (xX8_weep_4 N n1) (nI a) (nI c) hx) = (if nI (S 6 c) ≠ 0 then wpB N (xX8_weep_133 N (xX8_weep_4 N n1)) (nI a) (nI c) hx else xX8_weep_133 N (xX8_weep_4 N n1) (nI a) (nI c) hx) := by
          rw [lt_e, h43, cl_k hk, iok_t (st_k hk), ald_n c16 (by decide), tu]
        have go : ∀ d : Option (Int32 × HP), d = (if nI (S 6 c) ≠ 0 then wpB N (xX8_weep_133 N (xX8_weep_4 N n1)) (nI a) (nI c) hx else xX8_weep_133 N (xX8_weep_4 N n1) (nI a) (nI c) hx) → ∃ a' S' hx' hm', d = some (nI a', hx') ∧ (if nI (S 6 c) ≤ 0 then xX11_minuteGoes_89 N (xX11_minuteGoes_58 N n2) (nI c) hm else cl (xX11_weeps N (nI c) hm) fun t6 h7 => xX11_minuteGoes_89 N (xX11_minuteGoes_58 N n2) (nI c) h7) = some (0, up hm' 1 73 (nI (S' 0 4 + 1))) ∧ MR k S' hx' hm' ∧ sameT S S' ∧ fMi k hx hx' ∧ gMi hm hm' ∧ hm'.1 0 40 = nI (B + a') := by
          intro d hd
          rw [hd]
          by_cases z : S 6 c = 0
          · rw [if_neg (by rw [z]; exact fun y => y rfl), if_pos (by rw [z]; decide)]; exact skip
          · rw [if_pos (by rw [ne_eq, l0, eq_nn (by omega) (by decide)]; exact z), if_neg (by rw [l0, le_nn (by omega) (by decide)]; omega)]
            obtain ⟨o, S1, x1, m1, e1, e2, e3, e4, e5, e6, e7⟩ := weep_s (N := N) hN hk mr c16 ht (xX8_weep_133 N (xX8_weep_4 N n1)) a h40
            rw [e1, e2, cl_s]
            unfold xX8_weep_133 xX11_minuteGoes_89
            rw [lt_e, lt_e, nI_1]
            obtain ⟨a', S', x2, m2, d1, d2, d3, d4, d5, d6, d7⟩ := ih n2 (c + 1) (a + o) B S1 x1 m1 (by omega) (by omega) (by omega) e3 (by rw [e7]; congr 1; omega)
            exact ⟨a', S', x2, m2, d1, d2, d3, e4.tr d4, e5.tr d5, e6.tr d6, d7⟩
        exact go _ ex
def miS (S : AS) : AS := stA S (S 0 2) (S 0 3) (S 0 4 + 1) (S 0 5) (S 5) (S 6) (S 7)
theorem minute_e {S : AS} {hx hm : HP} {B : Nat} (hN : 300 ≤ N) (hk : k = 31 ∨ k = 39) (mr : MR k S hx hm) (h4 : S 0 4 < 9999) (h40 : hm.1 0 40 = nI B) : ∃ o S' hx' hm', (∀ F : Int32 → HP → Option (Int32 × HP), (cl (xX8_rise N hx) fun t2 h3 => cl (xX8_level N h3) fun t4 h5 => cl (xX8_weep N h5) F) = F (nI o) hx') ∧ xX11_minuteGoes N hm = some (0, hm') ∧ hx'.1 43 3 = nI k ∧ hx'.1 k 5 = nI (S 0 4) ∧ MR k S' (up hx' k 5 (nI (S 0 4 + 1))) hm' ∧ S' 0 0 = S 0 0 ∧ S' 0 1 = S 0 1 ∧ S' 0 4 = S 0 4 + 1 ∧ fMi k hx (up hx' k 5 (nI (S 0 4 + 1))) ∧ gMi hm hm' ∧ hm'.1 0 40 = nI (B + o) := by
  obtain ⟨S1, x1, m1, a1, a2, a3, a4, a5, a6, a7⟩ := rise_l (N := N) hN hk N N 0 S hx hm (by omega) (by omega) (by omega) mr
  have n1 := a3.1.1.2.1
  obtain ⟨S2, x2, m2, b1, b2', b3, b4, b5, b6, b7⟩ := level_l (N := N) hN hk N N 0 S1 x1 m1 (by omega) (by omega) (by omega) a3
  obtain ⟨o, S3, x3, m3, c1, c2, c3, c4, c5, c6, c7⟩ := weep_l (N := N) hN hk N N 0 0 B S2 x2 m2 (by omega) (by omega) (by omega) b3 (by rw [b7, a7]; exact h40)
  have s3 := (a4.tr b4).tr c4
  have e4 : S3 0 4 = S 0 4 := s3.2.2
  obtain ⟨w, tx, tm, sx, sm, h43, lw⟩ := id c3
  have fx : fMi k x3 (up x3 k 5 (nI (S 0 4 + 1))) := fMi.up (Or.inr (by omega))
  refine ⟨o, miS S3, x3, up m3 1 73 (nI (S3 0 4 + 1)), fun F => ?_, ?_, h43, by rw [← e4]; exact sx.2.2.1, ?_, s3.1, s3.2.1, by show S3 0 4 + 1 = _; rw [e4], ((a5.tr b5).tr c5).tr fx, ((a6.tr b6).tr c6).tr gMi.up1, by rw [up_n (by decide)]; exact c7⟩
  · unfold xX8_rise xX8_level xX8_weep
    rw [show xX8_rise_2 N N 0 hx = _ from a1, cl_s, show xX8_level_2 N N 0 x1 = _ from b1, cl_s, show xX8_weep_4 N N 0 0 x2 = _ from c1, cl_s]
  · unfold xX11_minuteGoes
    rw [show xX11_minuteGoes_2 N N 0 hm = _ from a2, show xX11_minuteGoes_29 N N 0 m1 = _ from b2', show xX11_minuteGoes_58 N N 0 m2 = _ from c2]
  · refine MR.next hk c3 fx gMi.up1 ?_ ?_ ?_ ?_
    · rw [up_n (by omega)]; exact h43
    · obtain ⟨y1, y2, y3, y4, y5, y6, y7, y8⟩ := w.1
      exact ⟨y1, y2, y3, y4, by omega, y6, y7, y8⟩
    · obtain ⟨s1, s2, s3, s4, s5, s6, s7⟩ := sx
      have ek : ∀ j, j ≠ 5 → (up x3 k 5 (nI (S 0 4 + 1))).1 k j = x3.1 k j := fun j hj => by rw [up_at, if_neg (fun z => hj z.2)]
      refine ⟨by rw [ek 3 (by decide)]; exact s1, by rw [ek 4 (by decide)]; exact s2, by rw [up_at, if_pos ⟨rfl, rfl⟩, e4], by rw [ek 6 (by decide)]; exact s4, by rw [ek 7 (by decide)]; exact s5, by rw [ek 8 (by decide)]; exact s6, fun d hd => ?_⟩
      rw [up_n (by omega), up_n (by omega), up_n (by omega)]; exact s7 d hd
    · obtain ⟨u1, u2, u3, u4, u5⟩ := sm
      have wn := w.1.2.1
      exact ⟨fun d hd => by rw [up_at, if_neg (by omega), up_at, if_neg (by omega), up_at, if_neg (by omega)]; exact u1 d hd, fun p hp => by rw [up_at, if_neg (by omega)]; exact u2 p hp, by rw [up_at, if_neg (by decide)]; exact u3, by rw [up_at, if_pos ⟨rfl, rfl⟩], by rw [up_at, if_neg (by decide)]; exact u5⟩
theorem pass_l (hN : 300 ≤ N) (hk : k = 31 ∨ k = 39) {m : Nat} (hm100 : m ≤ 100) : ∀ n1 n2 i out S hx hm, i ≤ m → m - i < n1 → m - i < n2 → MR k S hx hm → hm.1 0 40 = nI out → ∃ out' S' hx' hm', xX8_pass_10 N k n1 (nI m) (nI out) (nI i) hx = some (nI out', hx') ∧ xX11_minutesGo_7 N n2 (nI m) (nI i) hm = some (0, hm') ∧ MR k S' hx' hm' ∧ S' 0 0 = S 0 0 ∧ S' 0 1 = S 0 1 ∧ fMi k hx hx' ∧ gMi hm hm' ∧ hm'.1 0 40 = nI out' := by
  intro n1
  induction n1 with
  | zero => intro n2 i out S hx hm _ h; omega
  | succ n1 ih =>
    intro n2 i out S hx hm hi h1 h2 mr h40
    obtain ⟨n2, rfl⟩ : ∃ j, n2 = j + 1 := ⟨n2 - 1, by omega⟩
    obtain ⟨w, tx, tm, sx, sm, h43, lw⟩ := id mr
    have w4 := w.1.2.2.2.2.1
    rw [xX8_pass_10, xX11_minutesGo_7]
    dsimp only
    unfold xX8_pass_63 xX11_minutesGo_35
    by_cases e : i = m
    · have le : nI m ≤ nI i := by rw [le_nn (by omega) (by omega)]; omega
      rw [if_pos le, if_pos le]
      exact ⟨out, S, hx, hm, rfl, rfl, mr, rfl, rfl, fMi.rf _, gMi.rf _, h40⟩
    · have le : ¬ nI m ≤ nI i := by rw [le_nn (by omega) (by omega)]; omega
      rw [if_neg le, if_neg le, lt_e, h43, cl_k hk, iok_t (st_k hk), sx.2.2.1, ald_l (j := 73) 73 rfl (by decide) (by decide), sm.2.2.2.1]
      by_cases q : S 0 4 < 9999
      · have q2 : ¬ (9999 : Int32) ≤ nI (S 0 4) := by rw [l9999, le_nn (by decide) (by omega)]; omega
        obtain ⟨o, S1, x1, m1, a1, a2, a3, a4, a5, a6, a7, a8, a9, a10, a11⟩ := minute_e (N := N) hN hk mr q h40
        rw [if_neg q2, if_neg q2, a1, a2, cl_s, add_nn, lt_e, lt_e, a3, cl_k hk, iok_t (st_k hk), a4, nI_1, lt_e, lt_e, nI_1, lt_e]
        obtain ⟨out', S', x2, m2, d1, d2, d3, d4, d5, d6, d7, d8⟩ := ih n2 (i + 1) (out + o) S1 _ m1 (by omega) (by omega) (by omega) a5 a11
        exact ⟨out', S', x2, m2, d1, d2, d3, d4.trans a6, d5.trans a7, a9.tr d6, a10.tr d7, d8⟩
      · have q2 : (9999 : Int32) ≤ nI (S 0 4) := by rw [l9999, le_nn (by decide) (by omega)]; omega
        rw [if_pos q2, if_pos q2]
        exact ⟨out, S, hx, hm, rfl, rfl, mr, rfl, rfl, fMi.rf _, gMi.rf _, h40⟩
end PAS
