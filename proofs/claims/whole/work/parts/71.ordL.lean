section ORL
variable {T : Nat → Nat} {n p : Nat} {hx hm : HP} {N : Nat} {S : AS} {ℓ : Nat}
theorem ord_turn (tp : TP T n) (tx : TcX T n p hx) (tm : TcM T n p hm) (hl : ℓ < 20) (h27 : hx.1 27 3 = nI ℓ) (wf : WF S) (s : SMa (hm.1 1) S) {c : Nat} (hc : c < 16) (ht : (S 0 0).testBit c = true) : OR T n hx hm S ℓ (xX4_readTurn (nI c) hx) (cl (xX11_here hm) fun t12 h13 =>
      cl (xX11_in t12 48 56 h13) fun t14 h15 =>
      if t14 ≠ 0 then
        (cl (xX11_here h15) fun t16 h17 =>
        ast h17 1 75 (16 + nI c) (t16 - 48) fun h18 =>
        lt (up h18 0 11 ((h18.1 0 11) + 1)) fun h19 =>
        zok 1 (some (1, h19)))
      else
        (cl (xX11_wrongAt 1 (h15.1 0 11) h15) fun t20 h21 =>
        zok t20 (some (t20, h21)))) := by
  unfold xX4_readTurn xX4_readTurn_18
  rw [peek_e tp tx, here_e tp tx.1 tm, cl_s, cl_s, lt_e, inM_e, cl_s]
  rcases tn_c (p := p) tp with ⟨d, d8, dn, e⟩ | ⟨q1, q2⟩
  · rw [e, decide_eq_true (show ¬ nI (48 + d) < 48 ∧ ¬ (56 : Int32) < nI (48 + d) from by rw [l48, show (56 : Int32) = nI 56 from rfl, lt_nn (by omega) (by decide), lt_nn (by decide) (by omega)]; omega), b2_t, if_pos (show (1 : Int32) ≠ 0 from by decide), here_e tp tx.1 tm, cl_s, e, l48, sub_nn (by omega), show 48 + d - 48 = d by omega, if_neg (by rw [l0, lt_nn (by omega) (by decide)]; omega), if_pos (by rw [l8, le_nn (by omega) (by decide)]; exact d8), lt_e, l16, add_nn, ast_n (by omega) (by decide), lt_e, zok_1]
    have fx : fP hx (up hx 1 2 (hx.1 1 2 + 1)) := fP.up (Or.inl rfl)
    obtain ⟨h', n1, n2, n3⟩ := note_e (h := up hx 1 2 (hx.1 1 2 + 1)) (k := 64) (w := c) (v := d) hl (by rw [fx.1 27 (by decide)]; exact h27)
    have ok : okO S 64 c d := Or.inr (Or.inr (Or.inl ⟨rfl, hc, ht, d8⟩))
    have tu : TcM T n p (up hm 1 (16 + c) (nI d)) := tm.u1
    have g1 : gO hm (up hm 1 (16 + c) (nI d)) := gO.up1
    have s1 : SMa ((up hm 1 (16 + c) (nI d)).1 1) (apO S 64 c d) := SMa.ap (h := hm) wf ok s (Or.inr (Or.inl ⟨rfl, rfl, rfl⟩))
    generalize up hm 1 (16 + c) (nI d) = hm1 at *
    rw [show xX4_note 64 (nI c) (nI d) _ = _ from n1, cl_s, zok_1]
    refine ⟨1, h', _, rfl, rfl, fx.O.tr (nt_f n3), g1.tr (gP.up (Or.inl rfl)).O, Or.inl ⟨rfl, p + 1, 64, c, d, nt_x (tx.mv dn) n3, tu.mv, ok, n2.fP fx, ?_⟩⟩
    rw [up_n (by decide)]; exact s1
  · rw [decide_eq_false q2, b2_f, if_neg (show ¬ (0 : Int32) ≠ 0 from by decide), wro_e, cl_s, zok_0, ref_e]
    have g : (if pk T n p - 48 < 0 then (cl (some ((0 : Int32), up hx 1 4 ((-1000) * 1 - hx.1 1 2))) fun t1 h2 => zok t1 (some (t1, h2))) else if pk T n p - 48 ≤ 8 then lt (up hx 1 2 (hx.1 1 2 + 1)) fun h4 => cl (xX4_note 64 (nI c) (pk T n p - 48) h4) fun t5 h6 => zok t5 (some (t5, h6)) else cl (some ((0 : Int32), up hx 1 4 ((-1000) * 1 - hx.1 1 2))) fun t1 h2 => zok t1 (some (t1, h2))) = some (0, up hx 1 4 ((-1000) * 1 - hx.1 1 2)) := by
      by_cases z : pk T n p - 48 < 0
      · rw [if_pos z, cl_s, zok_0]
      · rw [if_neg z, if_neg (q1.resolve_left z), cl_s, zok_0]
    exact OR.bad (v := (-1000) * 1 - nI p) (by rw [g, tx.2.1]) (by rw [tm.1]) (fP.rf _).O (gP.rf _).O
theorem ord_pipe (hN : 100 ≤ N) (tp : TP T n) (tx : TcX T n p hx) (tm : TcM T n p hm) (hl : ℓ < 20) (h27 : hx.1 27 3 = nI ℓ) (wf : WF S) (s : SMa (hm.1 1) S) (h35 : hx.1 3 5 = nI (S 0 1)) (h08 : hm.1 0 8 = nI (S 0 1)) : OR T n hx hm S ℓ (cl (xX4_readPipe N hx) fun t27 h28 => zok t27 (some (t27, h28))) (cl (xX11_readsPipeLine N hm) fun t8 h9 => zok t8 (some (t8, h9))) := by
  have np := wf.1.2.1
  unfold xX4_readPipe xX4_readPipe_81 xX4_readPipe_82 xX11_readsPipeLine xX11_readsPipeLine_62 xX11_readsPipeLine_87
  rw [lt_e, lt_e, tx.2.1, tm.1]
  rcases num_e (N := N) (D := 2) hN tp (by decide) (by decide) tx tm with ⟨v, p', x', m', e1, e2, e3, e4, e5, e6, e7, e8, e9⟩ | ⟨x', m', e1, e2, e3, e4, e5⟩
  · have hv : v < 100 := e3
    have s' : SMa (m'.1 1) S := by rw [e9.1 1 (by decide)]; exact s
    have x27 : x'.1 27 3 = nI ℓ := by rw [e8.1 27 (by decide)]; exact h27
    have hp' := e5.1
    rw [show xX7_readNumber N 2 hx = _ from e1, show xX11_readsAmount N 2 hm = _ from e2, cl_s, cl_s, if_pos (nn_m1 (by omega)), if_pos (show (1 : Int32) ≠ 0 from by decide), e7, e8.1 3 (by decide), h35, e9.2 8 (by decide) (by decide) (by decide), h08]
    by_cases q : v < S 0 1
    · have q2 : nI v < nI (S 0 1) := by rw [lt_nn (by omega) (by omega)]; exact q
      rw [if_pos q2, if_pos q2, here_e tp hp' e6, cl_s]
      by_cases z : pk T n p' = 33
      · have hp2 := (pk_is (v := 33) tp (by decide) z).1
        have ok : okO S 33 v 0 := Or.inl ⟨Or.inl rfl, q⟩
        have fx : fP x' (up x' 1 2 (x'.1 1 2 + 1)) := fP.up (Or.inl rfl)
        obtain ⟨h', n1, n2, n3⟩ := note_e (h := up x' 1 2 (x'.1 1 2 + 1)) (k := 33) (w := v) (v := 0) hl (by rw [fx.1 27 (by decide)]; exact x27)
        have tu : TcM T n p' (up m' 1 (48 + v) 0) := e6.u1
        have g1 : gO m' (up m' 1 (48 + v) 0) := gO.up1
        have s1 : SMa ((up m' 1 (48 + v) 0).1 1) (apO S 33 v 0) := SMa.ap (h := m') wf ok s' (Or.inr (Or.inr (Or.inr (Or.inl ⟨rfl, rfl, rfl⟩))))
        rw [tak_t tp e5 z, cl_s, if_neg (show ¬ (1 : Int32) = 0 from by decide), show xX4_note 33 (nI v) 0 _ = _ from n1, cl_s, zok_1, cl_s, zok_1, if_pos z, here_e tp hp' e6, cl_s, if_pos (show pk T n p' ≠ 63 by rw [z]; decide), e7, l48, add_nn, ast_n (by omega) (by decide), lt_e, zok_1, cl_s, zok_1]
        generalize up m' 1 (48 + v) 0 = hm1 at *
        refine ⟨1, h', _, rfl, rfl, e8.O.tr (fx.O.tr (nt_f n3)), e9.O.tr (g1.tr (gP.up (Or.inl rfl)).O), Or.inl ⟨rfl, p' + 1, 33, v, 0, nt_x (e5.mv hp2) n3, tu.mv, ok, (n2.fP fx).fP e8, ?_⟩⟩
        rw [up_n (by decide)]; exact s1
      · rw [tak_f tp e5 z, cl_s, if_pos rfl, if_neg z]
        by_cases y : pk T n p' = 63
        · have hp2 := (pk_is (v := 63) tp (by decide) y).1
          have ok : okO S 63 v 0 := Or.inl ⟨Or.inr rfl, q⟩
          have fx : fP x' (up x' 1 2 (x'.1 1 2 + 1)) := fP.up (Or.inl rfl)
          obtain ⟨h', n1, n2, n3⟩ := note_e (h := up x' 1 2 (x'.1 1 2 + 1)) (k := 63) (w := v) (v := 0) hl (by rw [fx.1 27 (by decide)]; exact x27)
          have tu : TcM T n p' (up m' 1 (48 + v) 1) := e6.u1
          have g1 : gO m' (up m' 1 (48 + v) 1) := gO.up1
          have s1 : SMa ((up m' 1 (48 + v) 1).1 1) (apO S 63 v 0) := SMa.ap (h := m') wf ok s' (Or.inr (Or.inr (Or.inr (Or.inr ⟨rfl, rfl, rfl⟩))))
          rw [dem_t tp e5 y, cl_s, if_neg (show ¬ (1 : Int32) = 0 from by decide), show xX4_note 63 (nI v) 0 _ = _ from n1, cl_s, if_neg (show ¬ (1 : Int32) = 0 from by decide), zok_1, cl_s, zok_1, here_e tp hp' e6, cl_s, if_pos y, here_e tp hp' e6, cl_s, if_neg (show ¬ pk T n p' ≠ 63 from fun k => k y), e7, l48, add_nn, ast_n (by omega) (by decide), lt_e, zok_1, cl_s, zok_1]
          generalize up m' 1 (48 + v) 1 = hm1 at *
          refine ⟨1, h', _, rfl, rfl, e8.O.tr (fx.O.tr (nt_f n3)), e9.O.tr (g1.tr (gP.up (Or.inl rfl)).O), Or.inl ⟨rfl, p' + 1, 63, v, 0, nt_x (e5.mv hp2) n3, tu.mv, ok, (n2.fP fx).fP e8, ?_⟩⟩
          rw [up_n (by decide)]; exact s1
        · rw [dem_f tp e5 y, cl_s, if_pos rfl, zok_0, cl_s, zok_0, here_e tp hp' e6, cl_s, if_neg y, wro_e, cl_s, zok_0, cl_s, zok_0]
          exact OR.bad (v := (-1000) * 1 - nI p') rfl (by rw [e6.1]) e8.O e9.O
    · have q2 : ¬ nI v < nI (S 0 1) := by rw [lt_nn (by omega) (by omega)]; exact q
      rw [if_neg q2, if_neg q2, ref_e, wro_e, cl_s, cl_s, zok_0, zok_0, cl_s, cl_s, zok_0, zok_0]
      exact OR.bad (v := (-1000) * 7 - nI p) rfl rfl e8.O e9.O
  · rw [show xX7_readNumber N 2 hx = _ from e1, show xX11_readsAmount N 2 hm = _ from e2, cl_s, cl_s, if_neg (show ¬ (-1 : Int32) ≠ -1 from by decide), if_neg (show ¬ (0 : Int32) ≠ 0 from by decide), zok_0, zok_0, cl_s, cl_s, zok_0, zok_0]
    exact ⟨0, x', m', rfl, rfl, e4.O, e5.O, Or.inr ⟨rfl, e3⟩⟩
/-- may a line begin so -/
def bgn (T : Nat → Nat) (n p : Nat) : Prop := (∃ c, c < 16 ∧ p < n ∧ pk T n p = nI (97 + c)) ∨ pk T n p = 35 ∨ pk T n p = 126
theorem zk2 (r : Int32) (h : HP) (hr : r = 1 ∨ r = 0) : (zok r (some (r, h)) : Option (Int32 × HP)) = some (r, h) := by
  rcases hr with rfl | rfl
  · exact zok_1 _
  · exact zok_0 _
theorem ord_e (hN : 100 ≤ N) (tp : TP T n) (tx : TcX T n p hx) (tm : TcM T n p hm) (hl : ℓ < 20) (h27 : hx.1 27 3 = nI ℓ) (wf : WF S) (s : SMa (hm.1 1) S) (tX : TX S hx) (tM : TM S hm) (b : bgn T n p) (h39 : hm.1 0 39 = nI ℓ) : OR T n hx (up hm 0 39 (nI (ℓ + 1))) S ℓ (xX4_readLine N hx) (xX11_readsOrder_34 N (pk T n p) hm) := by
  have hn := tp.1
  have w1 := wf.1.1
  unfold xX11_readsOrder_34 xX4_readLine xX4_readLine_133 xX4_readLine_134
  rw [h39, if_pos (by rw [ne_eq, l20, eq_nn (by omega) (by decide)]; omega), lt_e, nI_1]
  have tm0 : TcM T n p (up hm 0 39 (nI (ℓ + 1))) := ⟨by rw [up_at, if_neg (by decide)]; exact tm.1, by rw [up_at, if_neg (by decide)]; exact tm.2.1, fun i hi => by rw [up_n (by decide)]; exact tm.2.2 i hi⟩
  have s0 : SMa ((up hm 0 39 (nI (ℓ + 1))).1 1) S := by rw [up_n (by decide)]; exact s
  have tM7 : (up hm 0 39 (nI (ℓ + 1))).1 0 7 = nI (S 0 0) := by rw [up_at, if_neg (by decide)]; exact tM.1
  have tM8 : (up hm 0 39 (nI (ℓ + 1))).1 0 8 = nI (S 0 1) := by rw [up_at, if_neg (by decide)]; exact tM.2.1
  generalize up hm 0 39 (nI (ℓ + 1)) = hm0 at *
  have fx : fP hx (up hx 1 2 (hx.1 1 2 + 1)) := fP.up (Or.inl rfl)
  have gm : gP hm0 (up hm0 0 11 (hm0.1 0 11 + 1)) := gP.up (Or.inl rfl)
  rcases b with ⟨c, c16, cn, e⟩ | e | e
  · have x1 := tx.mv cn
    have m1 := tm0.mv
    rw [tak_f tp tx (by rw [e, show (35 : Int32) = nI 35 from rfl, ne_eq, eq_nn (by omega) (by decide)]; omega), cl_s, if_pos rfl, tak_f tp tx (by rw [e, show (126 : Int32) = nI 126 from rfl, ne_eq, eq_nn (by omega) (by decide)]; omega), cl_s, if_pos rfl, peek_e tp tx, cl_s, lt_e, e, m97 c16, isToldX w1 tX.1, cl_s, tld_n c16, isLet_t tp tx.1 tm0 c16 e, cl_s, if_neg (show ¬ (1 : Int32) = 0 from by decide)]
    unfold xX11_readsCornerLine
    rw [here_e tp tx.1 tm0, cl_s, lt_e, lt_e, e, m97 c16, isToldM w1 tM7, cl_s, tld_n c16]
    cases ht : (S 0 0).testBit c
    · rw [b2_f, if_neg (by simp), if_neg (by simp), ref_e, wro_e, cl_s, cl_s, zok_0, zok_0, cl_s, zok_0]
      exact OR.bad (v := (-1000) * 7 - nI p) (by rw [tx.2.1]) (by rw [tm0.1]) (fP.rf _).O (gP.rf _).O
    · rw [b2_t, if_pos (show (1 : Int32) ≠ 0 from by decide), if_pos (show (1 : Int32) ≠ 0 from by decide), lt_e]
      generalize hX1 : up hx 1 2 (hx.1 1 2 + 1) = hx1 at *
      generalize hM1 : up hm0 0 11 (hm0.1 0 11 + 1) = hm1 at *
      have x27 : hx1.1 27 3 = nI ℓ := by rw [fx.1 27 (by decide)]; exact h27
      have s1 : SMa (hm1.1 1) S := by rw [gm.1 1 (by decide)]; exact s0
      rw [here_e tp x1.1 m1, cl_s]
      refine OR.tr fx gm ?_
      by_cases q : pk T n (p + 1) = 64
      · have hp2 := (pk_is (v := 64) tp (by decide) q).1
        rw [tak_t tp x1 q, cl_s, if_neg (show ¬ (1 : Int32) = 0 from by decide), if_neg (fun z => z q), lt_e]
        have fx2 : fP hx1 (up hx1 1 2 (hx1.1 1 2 + 1)) := fP.up (Or.inl rfl)
        have gm2 : gP hm1 (up hm1 0 11 (hm1.1 0 11 + 1)) := gP.up (Or.inl rfl)
        have := ord_turn (ℓ := ℓ) (S := S) tp (x1.mv hp2) m1.mv hl (by rw [fx2.1 27 (by decide)]; exact x27) wf (by rw [gm2.1 1 (by decide)]; exact s1) c16 ht
        refine OR.tr fx2 gm2 ?_
        obtain ⟨r, x', m', e1, e2, e3, e4, e5⟩ := this
        have hr : r = 1 ∨ r = 0 := e5.elim (fun z => Or.inl z.1) (fun z => Or.inr z.1)
        rw [e1, e2, cl_s, cl_s, zk2 r _ hr, zk2 r _ hr]
        exact ⟨r, x', m', rfl, rfl, e3, e4, e5⟩
      · rw [tak_f tp x1 q, cl_s, if_pos rfl, if_pos q]
        by_cases y : pk T n (p + 1) = 43
        · have hp2 := (pk_is (v := 43) tp (by decide) y).1
          obtain ⟨r, x', m', e1, e2, e3, e4, e5⟩ := ord_pm (N := N) (ℓ := ℓ) (S := S) hN tp x1 m1 hl x27 wf s1 c16 ht (Or.inl rfl) hp2
          have hr : r = 1 ∨ r = 0 := e5.elim (fun z => Or.inl z.1) (fun z => Or.inr z.1)
          rw [tak_t tp x1 y, cl_s, if_neg (show ¬ (1 : Int32) = 0 from by decide), show xX4_readAmount N 43 (nI c) 4 _ = _ from e1, cl_s, zk2 r _ hr, if_pos y, y, show xX11_readsCornerLine_132 N (nI c) 43 hm1 = _ from e2, cl_s, zk2 r _ hr]
          exact ⟨r, x', m', rfl, rfl, e3, e4, e5⟩
        · rw [tak_f tp x1 y, cl_s, if_pos rfl, if_neg y]
          by_cases z : pk T n (p + 1) = 45
          · have hp2 := (pk_is (v := 45) tp (by decide) z).1
            obtain ⟨r, x', m', e1, e2, e3, e4, e5⟩ := ord_pm (N := N) (ℓ := ℓ) (S := S) hN tp x1 m1 hl x27 wf s1 c16 ht (Or.inr rfl) hp2
            have hr : r = 1 ∨ r = 0 := e5.elim (fun z => Or.inl z.1) (fun z => Or.inr z.1)
            rw [dem_t tp x1 z, cl_s, if_neg (show ¬ (1 : Int32) = 0 from by decide), show xX4_readAmount N 45 (nI c) 4 _ = _ from e1, cl_s, if_pos z, z, show xX11_readsCornerLine_132 N (nI c) 45 hm1 = _ from e2, cl_s, zk2 r _ hr]
            refine ⟨r, x', m', ?_, rfl, e3, e4, e5⟩
            rcases hr with rfl | rfl
            · rw [if_neg (by decide), zok_1]
            · rw [if_pos rfl, zok_0]
          · rw [dem_f tp x1 z, cl_s, if_pos rfl, zok_0, if_neg z, wro_e, cl_s, zok_0, cl_s, zok_0]
            exact OR.bad (v := (-1000) * 1 - nI (p + 1)) rfl (by rw [m1.1]) (fP.rf _).O (gP.rf _).O
  · have cn := (pk_is (v := 35) tp (by decide) e).1
    rw [tak_t tp tx e, cl_s, if_neg (show ¬ (1 : Int32) = 0 from by decide), isLet_f tp tx.1 tm0 (by rw [e]; decide), cl_s, if_pos rfl, lt_e, if_neg (fun z => z e)]
    exact OR.tr fx gm (ord_pipe (N := N) hN tp (tx.mv cn) tm0.mv hl (by rw [fx.1 27 (by decide)]; exact h27) wf (by rw [gm.1 1 (by decide)]; exact s0) (by rw [fx.1 3 (by decide)]; exact tX.2.1) (by rw [gm.2 8 (by decide) (by decide) (by decide)]; exact tM8))
  · have cn := (pk_is (v := 126) tp (by decide) e).1
    rw [tak_f tp tx (by rw [e]; decide), cl_s, if_pos rfl, tak_t tp tx e, cl_s, if_neg (show ¬ (1 : Int32) = 0 from by decide), isLet_f tp tx.1 tm0 (by rw [e]; decide), cl_s, if_pos rfl, lt_e, if_pos (by rw [e]; decide)]
    exact OR.tr fx gm (ord_sea (N := N) hN tp (tx.mv cn) tm0.mv hl (by rw [fx.1 27 (by decide)]; exact h27) wf (by rw [gm.1 1 (by decide)]; exact s0))
end ORL
