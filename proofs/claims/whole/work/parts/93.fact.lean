section FAC
variable {T : Nat → Nat} {n0 N : Nat}
theorem lt_c5 (tp : TP T n0) (p : Nat) : (∃ t, t < 256 ∧ p < n0 ∧ pk T n0 p = nI t) ∨ pk T n0 p = -1 := by
  unfold pk
  by_cases q : p < n0
  · rw [if_pos q]; exact Or.inl ⟨T p, tp.2 p q, q, rfl⟩
  · rw [if_neg q]; exact Or.inr rfl
theorem FS_br {b : Int32} {f n p : Nat} {hm h' : HP} (tp : TP T n0) (hp : p ≤ n0) (t : TcM T n0 p hm) (e : pk T n0 p = 91) (ho : xX11_opens 14 hm = some (1, h')) : FS N b (f + 1) n hm = FS N b f n h' := by
  unfold FS
  rw [xX11_readsFactor_0]
  dsimp only
  rw [here_e tp hp t, cl_s, if_neg (fun z => z e), ho, cl_s, if_pos (show (1 : Int32) ≠ 0 from by decide)]
theorem fac_num {o p ℓ f n : Nat} {W : List (Nat × Nat)} {hx hm : HP} {b : Int32} {cs : Int32 → HP → Option (Int32 × HP)} {d : Nat} (hN : 300 ≤ N) (tp : TP T n0) (ps : PS T n0 p ℓ o W hx hm) (hlp : ℓ ≤ p) (hn : n0 - p < n) (d9 : d ≤ 9) (hpn : p < n0) (e : pk T n0 p = nI (48 + d)) : FRs T n0 p ℓ o W hx hm (xX2_readFactor N cs (nI o) hx) (FS N b (f + 1) n hm) (fun n' h => xX11_readsSum_14 N n' b h) := by
  have hn0 := tp.1
  obtain ⟨tx, tm, lx, lm, o1, w1, o6, wl⟩ := ps
  have hp := tx.1
  have e91 : pk T n0 p ≠ 91 := by rw [e]; exact i_ne (b := 91) (by omega) (by decide) (by omega)
  have eX : xX2_readFactor N cs (nI o) hx = cl (xX7_readNumber N 5 hx) fun t3 h4 => if t3 = -1 then xX2_readFactor_104 N cs h4 else cl (xX2_write 48 t3 h4) fun t5 h6 => if t5 = -1 then xX2_readFactor_104 N cs h6 else xX2_readFactor_105 N cs 1 h6 := by
    unfold xX2_readFactor
    rw [peek_e tp tx, cl_s, if_pos e91, e, if_neg (show ¬ nI (48 + d) < 48 from by rw [l48, lt_nn (by omega) (by decide)]; omega), if_neg (show ¬ (57 : Int32) < nI (48 + d) from by rw [show (57 : Int32) = nI 57 from rfl, lt_nn (by decide) (by omega)]; omega)]
  have eM : FS N b (f + 1) n hm = cl (cl (xX11_readsNumber N hm) fun t14 h15 => if t14 ≠ 0 then (cl (xX11_notes 0 (h15.1 0 14) h15) fun t16 h17 => zok 1 (some (1, h17))) else zok 0 (some (0, h15))) fun t h' => if t ≠ 0 then xX11_readsSum_14 N n b h' else zok 0 (some (0, h')) := by
    unfold FS
    rw [xX11_readsFactor_0]
    dsimp only
    rw [here_e tp hp tm, cl_s, if_pos e91, isDigit_t tp hp tm d9 e, cl_s, if_neg (show ¬ (1 : Int32) = 0 from by decide)]
  rw [eX, eM, num5_e tp hp tm d9 e]
  unfold xX2_readFactor_104 xX2_readFactor_105
  rcases num_e (N := N) (D := 5) (by omega) tp (by decide) (by decide) tx tm with ⟨v, p', x', m', a1, a2, a3, a4, a5, a6, a7, a8, a9⟩ | ⟨x', m', a1, a2, a3, a4, a5⟩
  · have hv : v < 100000 := a3
    have pn' := a5.1
    have lx' : x'.1 20 6 = nI ℓ := by rw [a8.1 20 (by decide)]; exact lx
    have lm' : m'.1 0 16 = nI ℓ := by rw [a9.2 16 (by decide) (by decide) (by decide)]; exact lm
    have ok : okI (0, v) := ⟨by show (0 : Nat) ≤ 12; decide, hv, fun z => by cases z⟩
    obtain ⟨b1, b2', b3, b4⟩ := ntH_0 (h := m') (ℓ := ℓ) (i := (0, v))
    have fx : fL ℓ hx (wrH x' ℓ (0, v)) := (a8.L ℓ).tr (Nat.le_refl _) (wrH_f (Nat.le_refl _))
    have gm : gL ℓ hm (ntH m' ℓ (0, v)) := (a9.L ℓ).tr (Nat.le_refl _) (ntH_f (Nat.le_refl _))
    refine Or.inl ⟨p', ℓ + 1, wrH x' ℓ (0, v), ntH m' ℓ (0, v), (fun _ => some (nI v)), n, ?_, ?_, by omega, ⟨wrH_T a5, ntH_T a6, wrH_l, b1, by rw [b2' 15 (by decide), a9.2 15 (by decide) (by decide) (by decide)]; exact o1, ntH_W (w1.fr (a9.2 17 (by decide) (by decide) (by decide)) (fun j _ => by rw [a9.1 10 (by decide)])), o6, by omega⟩, a4, by omega, fx, gm, fun _ => (0, v), fun _ => (0, v), wrH_c ok rfl, ntH_c ok rfl, sg_num rfl, sg_num rfl⟩
    · rw [show xX7_readNumber N 5 hx = _ from a1, cl_s, if_neg (nn_m1 (by omega)), show xX2_write 48 (nI v) x' = some (nI ℓ, wrH x' ℓ (0, v)) from wr_e (by omega) lx' rfl (vlX_n (i := (0, v)) (show (0 : Nat) ≠ 1 by decide)).symm, cl_s, if_neg (nn_m1 (by omega)), zok_1]
    · rw [a2, cl_s, if_pos (show (1 : Int32) ≠ 0 from by decide), a7, show xX11_notes 0 (nI v) m' = some (0, ntH m' ℓ (0, v)) from ntH_e (i := (0, v)) (by omega) lm' rfl rfl, cl_s, zok_1, cl_s, if_pos (show (1 : Int32) ≠ 0 from by decide)]
  · refine Or.inr ⟨x', m', ?_, ?_, a3, a4.L ℓ, a5.L ℓ⟩
    · rw [show xX7_readNumber N 5 hx = _ from a1, cl_s, if_pos rfl, zok_0]
    · rw [a2, cl_s, if_neg (show ¬ (0 : Int32) ≠ 0 from by decide), zok_0, cl_s, if_neg (show ¬ (0 : Int32) ≠ 0 from by decide), zok_0]
theorem fac_let {o p ℓ f n : Nat} {W : List (Nat × Nat)} {hx hm : HP} {b : Int32} {cs : Int32 → HP → Option (Int32 × HP)} (hN : 300 ≤ N) (tp : TP T n0) (ps : PS T n0 p ℓ o W hx hm) (hlp : ℓ ≤ p) (hn : n0 - p < n) (hd : pk T n0 p < 48 ∨ (57 : Int32) < pk T n0 p) (e91 : pk T n0 p ≠ 91) : FRs T n0 p ℓ o W hx hm (xX2_readFactor N cs (nI o) hx) (FS N b (f + 1) n hm) (fun n' h => xX11_readsSum_14 N n' b h) := by
  have hn0 := tp.1
  obtain ⟨tx, tm, lx, lm, o1, w1, o6, wl⟩ := ps
  have hp := tx.1
  have eX : xX2_readFactor N cs (nI o) hx = xX2_readFactor_106 N cs (pk T n0 p) hx := by
    unfold xX2_readFactor
    rw [peek_e tp tx, cl_s, if_pos e91]
    by_cases z : pk T n0 p < 48
    · rw [if_pos z]
    · rw [if_neg z, if_pos (hd.resolve_left z)]
  have eM : FS N b (f + 1) n hm = cl (if foI (pk T n0 p) ≠ -1 then (cl (xX11_notes 1 (foI (pk T n0 p)) hm) fun t9 h10 => lt (up h10 0 11 ((h10.1 0 11) + 1)) fun h11 => zok 1 (some (1, h11))) else (cl (xX11_wrongAt 1 (hm.1 0 11) hm) fun t12 h13 => zok t12 (some (t12, h13)))) fun t h' => if t ≠ 0 then xX11_readsSum_14 N n b h' else zok 0 (some (0, h')) := by
    unfold FS
    rw [xX11_readsFactor_0]
    dsimp only
    rw [here_e tp hp tm, cl_s, if_pos e91, isDigit_f tp hp tm hd, cl_s, if_pos (show (0 : Int32) = 0 from rfl), here_e tp hp tm, cl_s, factOf_e, cl_s]
  rw [eX, eM]
  unfold xX2_readFactor_106 xX2_readFactor_149
  have no : foI (pk T n0 p) = -1 → xX2_isLetter N (pk T n0 p) hx = some (0, hx) → FRs T n0 p ℓ o W hx hm (cl (xX2_isLetter N (pk T n0 p) hx) fun t1 h2 => if t1 ≠ 0 then (lt (up h2 1 2 ((h2.1 1 2) + 1)) fun h3 => cl (xX2_write 97 (pk T n0 p) h3) fun t4 h5 => if t4 = (-1) then zok 0 (some (0, h5)) else zok 1 (some (1, h5))) else (cl (xX7_refuse 1 (h2.1 1 2) h2) fun t6 h7 => zok t6 (some (t6, h7)))) (cl (if foI (pk T n0 p) ≠ -1 then (cl (xX11_notes 1 (foI (pk T n0 p)) hm) fun t9 h10 => lt (up h10 0 11 ((h10.1 0 11) + 1)) fun h11 => zok 1 (some (1, h11))) else (cl (xX11_wrongAt 1 (hm.1 0 11) hm) fun t12 h13 => zok t12 (some (t12, h13)))) fun t h' => if t ≠ 0 then xX11_readsSum_14 N n b h' else zok 0 (some (0, h'))) (fun n' h => xX11_readsSum_14 N n' b h) := by
    intro z1 z2
    refine Or.inr (bad.mk (v := (-1000) * 1 - nI p) (Nat.le_refl ℓ) ?_ ?_ (fL.rf _ _) (gL.rf _ _))
    · rw [z2, cl_s, if_neg (show ¬ (0 : Int32) ≠ 0 from by decide), ref_e, cl_s, zok_0, tx.2.1]
    · rw [if_neg (fun k => k z1), wro_e, cl_s, zok_0, cl_s, if_neg (show ¬ (0 : Int32) ≠ 0 from by decide), zok_0, tm.1]
  rcases lt_c5 tp p with ⟨t, t256, tn, e⟩ | e
  · have fo := foI_n t t256
    by_cases q : lix t < 10
    · rw [if_pos q] at fo
      have ok : okI (1, lix t) := ⟨by show (1 : Nat) ≤ 12; decide, by show lix t < 100000; omega, fun _ => q⟩
      have fx : fP hx (up hx 1 2 (hx.1 1 2 + 1)) := fP.up (Or.inl rfl)
      have lx' : (up hx 1 2 (hx.1 1 2 + 1)).1 20 6 = nI ℓ := by rw [fx.1 20 (by decide)]; exact lx
      have tx' := tx.mv tn
      obtain ⟨b1, b2', b3, b4⟩ := ntH_0 (h := hm) (ℓ := ℓ) (i := (1, lix t))
      have tm' := (ntH_T (ℓ := ℓ) (i := (1, lix t)) tm).mv
      have gm : gP (ntH hm ℓ (1, lix t)) (up (ntH hm ℓ (1, lix t)) 0 11 ((ntH hm ℓ (1, lix t)).1 0 11 + 1)) := gP.up (Or.inl rfl)
      have cM : CMh 9 (fun _ => (1, lix t)) ℓ (ℓ + 1) (ntH hm ℓ (1, lix t)) := ntH_c ok rfl
      have cX : CXh 21 22 (fun _ => (1, lix t)) ℓ (ℓ + 1) (wrH (up hx 1 2 (hx.1 1 2 + 1)) ℓ (1, lix t)) := wrH_c ok rfl
      have gm0 : gL ℓ hm (ntH hm ℓ (1, lix t)) := ntH_f (Nat.le_refl _)
      have vl : nI t = vlX (1, lix t) := by rw [vlX_1 (i := (1, lix t)) rfl, lix_ch t t256 q]
      refine Or.inl ⟨p + 1, ℓ + 1, wrH (up hx 1 2 (hx.1 1 2 + 1)) ℓ (1, lix t), _, (fun F => some (F (lix t))), n, ?_, ?_, by omega, ⟨wrH_T tx', tm', wrH_l, by rw [gm.2 16 (by decide) (by decide) (by decide)]; exact b1, by rw [gm.2 15 (by decide) (by decide) (by decide), b2' 15 (by decide)]; exact o1, (ntH_W w1).fr (gm.2 17 (by decide) (by decide) (by decide)) (fun j _ => by rw [gm.1 10 (by decide)]), o6, by omega⟩, by omega, by omega, (fx.L ℓ).tr (Nat.le_refl _) (wrH_f (Nat.le_refl _)), gm0.tr (Nat.le_refl _) (gm.L ℓ), fun _ => (1, lix t), fun _ => (1, lix t), cX, cM.fr (gm.L (ℓ + 1)) (Nat.le_refl _), sg_let rfl, sg_let rfl⟩
      · rw [e, isLetX (by omega) t256, cl_s, decide_eq_true q, b2_t, if_pos (show (1 : Int32) ≠ 0 from by decide), lt_e, show xX2_write 97 (nI t) (up hx 1 2 (hx.1 1 2 + 1)) = some (nI ℓ, wrH (up hx 1 2 (hx.1 1 2 + 1)) ℓ (1, lix t)) from wr_e (i := (1, lix t)) (by omega) lx' rfl vl, cl_s, if_neg (nn_m1 (by omega)), zok_1]
      · rw [e, fo, if_pos (nn_m1 (by omega)), show xX11_notes 1 (nI (lix t)) hm = some (0, ntH hm ℓ (1, lix t)) from ntH_e (i := (1, lix t)) (by omega) lm rfl rfl, cl_s, lt_e, zok_1, cl_s, if_pos (show (1 : Int32) ≠ 0 from by decide)]
    · rw [if_neg q] at fo
      exact no (by rw [e]; exact fo) (by rw [e, isLetX (by omega) t256, decide_eq_false q]; rfl)
  · exact no (by rw [e]; decide) (by rw [e]; exact isLet_m hx)
theorem sumfac (hN : 300 ≤ N) (tp : TP T n0) : ∀ dp, (∀ o p ℓ W hx hm f n bb, 2 * (6 - o) + 2 ≤ dp → PS T n0 p ℓ o W hx hm → noS W → bb ≤ W.length → 1 ≤ p → ℓ ≤ p → n0 - p < f → n0 - p < n → SR N T n0 p ℓ o W hx hm (nI bb) ((rg0 N dp).2.2.1 (nI o) hx) (FS N (nI bb) f n hm)) ∧ (∀ o p ℓ W hx hm f n bb, 2 * (6 - o) + 1 ≤ dp → PS T n0 p ℓ o W hx hm → bb ≤ W.length → 1 ≤ p → ℓ ≤ p → n0 - p < f → n0 - p < n → FRs T n0 p ℓ o W hx hm ((rg0 N dp).2.2.2 (nI o) hx) (FS N (nI bb) f n hm) (fun n' h => xX11_readsSum_14 N n' (nI bb) h)) := by
  have hn0 := tp.1
  intro dp
  induction dp with
  | zero => exact ⟨fun o p ℓ W hx hm f n bb h => by omega, fun o p ℓ W hx hm f n bb h => by omega⟩
  | succ dp ih =>
    obtain ⟨ihS, ihF⟩ := ih
    refine ⟨fun o p ℓ W hx hm f n bb hd ps hW hb hp hl hf hn => ?_, fun o p ℓ W hx hm f n bb hd ps hb hp hl hf hn => ?_⟩
    · have pn := ps.1.1
      exact sum_l (N := N) (cf := (rg0 N dp).2.2.2) (b := nI bb) (bb := bb) (W0 := W) (p0 := p) (ℓ0 := ℓ) hN tp hW hb hp hl (fun p' ℓ' W' hx' hm' f' n' q1 q2 q3 q4 q5 q6 => ihF o p' ℓ' W' hx' hm' f' n' bb (by omega) q1 q2 q3 q4 q5 q6) N 0 p ℓ ℓ 0 0 (fun _ => (0, 0)) (fun _ => (0, 0)) hx hm f n ps ⟨Nat.le_refl _, Nat.le_refl _, Or.inl ⟨rfl, rfl⟩, Or.inl ⟨rfl, rfl⟩⟩ (fun k k1 k2 => by omega) (fun k k1 k2 => by omega) (Nat.le_refl _) (by omega) (by rw [nx_0]; omega) (by omega) hf hn hx hm (fL.rf _ _) (gL.rf _ _)
    · obtain ⟨f, rfl⟩ : ∃ j, f = j + 1 := ⟨f - 1, by omega⟩
      show FRs T n0 p ℓ o W hx hm (xX2_readFactor N (rg0 N dp).2.2.1 (nI o) hx) _ _
      by_cases e91 : pk T n0 p = 91
      · obtain ⟨tx, tm, lx, lm, o1, w1, o6, wl⟩ := id ps
        have pn := tx.1
        have pl := (pk_is (v := 91) tp (by decide) e91).1
        by_cases ho : o < 6
        · obtain ⟨h', c1, c2, c3, c4, c5, c6⟩ := opens_t (k := 14) (by decide) tm o1 ho w1 (by omega) ℓ
          have fx : fP hx (up hx 1 2 (hx.1 1 2 + 1)) := fP.up (Or.inl rfl)
          have ps' : PS T n0 (p + 1) ℓ (o + 1) ((14, 0) :: W) (up hx 1 2 (hx.1 1 2 + 1)) h' := ⟨tx.mv pl, c4, by rw [fx.1 20 (by decide)]; exact lx, by rw [c5]; exact lm, c2, c3, by omega, by rw [List.length_cons]; omega⟩
          rw [FS_br (N := N) (b := nI bb) (f := f) (n := n) tp pn tm e91 c1]
          have sr := ihS (o + 1) (p + 1) ℓ ((14, 0) :: W) _ h' f n bb (by omega) ps' (fun e W' he => by cases he; omega) (by rw [List.length_cons]; omega) (by omega) (by omega) (by omega) (by omega)
          have eX : xX2_readFactor N (rg0 N dp).2.2.1 (nI o) hx = cl ((rg0 N dp).2.2.1 (nI (o + 1)) (up hx 1 2 (hx.1 1 2 + 1))) fun t8 h9 => if t8 = 0 then xX2_readFactor_61 N (rg0 N dp).2.2.1 h9 else cl (xX7_demands 93 h9) fun t10 h11 => if t10 = 0 then xX2_readFactor_61 N (rg0 N dp).2.2.1 h11 else xX2_readFactor_62 N (rg0 N dp).2.2.1 1 h11 := by
            unfold xX2_readFactor
            rw [peek_e tp tx, cl_s, if_neg (fun z => z e91), if_pos (show nI o < 6 from by rw [l6, lt_nn (by omega) (by decide)]; exact ho), lt_e, nI_1]
          rw [eX]
          unfold xX2_readFactor_61 xX2_readFactor_62
          rcases sr with ⟨p', ℓ', x', m', m'', pd, E, n', a1, a2, a3, a4, a5, a6, a7, a8, a9, a10, ⟨b1, b2', b3, b4, b5, CX, CM, b6, b7, b8, b9⟩⟩ | ⟨x', m', a1, a2, a3, a4, a5⟩
          · obtain ⟨tx2, tm2, lx2, lm2, o2, w2, o62, wl2⟩ := b1
            have pn2 := tx2.1
            have hos : xX11_hasOpenSum N (nI bb) m' = some (1, m') := by
              have l1 : (pd ++ (14, 0) :: W).length = pd.length + (W.length + 1) := by simp
              have wl6 := a6.2.2.2
              refine ((hos_l (N := N) a6 N bb (by omega) (by omega)).2 ⟨W.length, hb, by omega, ?_⟩)
              rw [(wat_app pd ((14, 0) :: W) W.length).1 (by rw [List.length_cons]; omega)]
              show (if W.length = W.length then (14, 0) else wat W W.length).1 = 14
              rw [if_pos rfl]
            rw [a1, cl_s, if_neg (show ¬ (1 : Int32) = 0 from by decide), a2]
            by_cases z : pk T n0 p' = 93
            · have pl2 := (pk_is (v := 93) tp (by decide) z).1
              have w3 : WS W (up (up (up m'' 0 17 (nI W.length)) 0 15 (nI o)) 0 11 (nI (p' + 1))) := WS.pop (e := (14, 0)) w2 (by rw [up_at, if_neg (by decide), up_at, if_neg (by decide), up_at, if_pos ⟨rfl, rfl⟩]) (fun j _ => by rw [up_n (by decide), up_n (by decide), up_n (by decide)])
              have g3 : gL ℓ' m'' (up (up (up m'' 0 17 (nI W.length)) 0 15 (nI o)) 0 11 (nI (p' + 1))) := ⟨fun k q1 _ _ => by rw [up_n q1, up_n q1, up_n q1], fun j q => by rw [up_at, if_neg (by omega), up_at, if_neg (by omega), up_at, if_neg (by omega)], fun k _ => by rw [up_n (by decide), up_n (by decide), up_n (by decide)]⟩
              have fx2 : fP x' (up x' 1 2 (x'.1 1 2 + 1)) := fP.up (Or.inl rfl)
              refine Or.inl ⟨p' + 1, ℓ', up x' 1 2 (x'.1 1 2 + 1), up (up (up m'' 0 17 (nI W.length)) 0 15 (nI o)) 0 11 (nI (p' + 1)), E, n', ?_, ?_, by omega, ⟨tx2.mv pl2, ⟨by rw [up_at, if_pos ⟨rfl, rfl⟩], by rw [up_at, if_neg (by decide), up_at, if_neg (by decide), up_at, if_neg (by decide)]; exact tm2.2.1, fun i hi => by rw [up_n (by decide), up_n (by decide), up_n (by decide)]; exact tm2.2.2 i hi⟩, by rw [fx2.1 20 (by decide)]; exact lx2, by rw [up_at, if_neg (by decide), up_at, if_neg (by decide), up_at, if_neg (by decide)]; exact lm2, by rw [up_at, if_neg (by decide), up_at, if_pos ⟨rfl, rfl⟩], w3, by omega, by rw [List.length_cons] at wl2; omega⟩, by omega, by omega, (fx.L ℓ).tr (Nat.le_refl _) (b4.tr (Nat.le_refl _) (fx2.L ℓ)), c6.tr (Nat.le_refl _) (b5.tr b8.1 g3), CX, CM, b6.fr (fx2.L ℓ') (Nat.le_refl _), b7.fr g3 (Nat.le_refl _), b8, b9⟩
              · rw [dem_t tp tx2 z, cl_s, if_neg (show ¬ (1 : Int32) = 0 from by decide), zok_1]
              · rw [xX11_readsSum_14]
                dsimp only
                rw [here_e tp pn2 a5, cl_s, sumSign_n m' a4, cl_s, if_pos rfl, here_e tp pn2 a5, cl_s, if_neg (fun k => k z), hos, cl_s, if_neg (show ¬ (1 : Int32) = 0 from by decide), a10, cl_s, lt_e, w2.1, List.length_cons, sub_1 (by omega), show W.length + 1 - 1 = W.length by omega, lt_e, show (up m'' 0 17 (nI W.length)).1 0 15 = nI (o + 1) from by rw [up_at, if_neg (by decide)]; exact o2, sub_1 (by omega), show o + 1 - 1 = o by omega, lt_e, show (up (up m'' 0 17 (nI W.length)) 0 15 (nI o)).1 0 11 = nI p' from by rw [up_at, if_neg (by decide), up_at, if_neg (by decide)]; exact tm2.1, nI_1]
                rfl
            · refine Or.inr (bad.mk (v := (-1000) * 1 - nI p') (Nat.le_refl ℓ) ?_ ?_ ((fx.L ℓ).tr (Nat.le_refl _) b4) (c6.tr (Nat.le_refl _) a9))
              · rw [dem_f tp tx2 z, cl_s, if_pos (show (0 : Int32) = 0 from rfl), zok_0]
              · rw [xX11_readsSum_14]
                dsimp only
                unfold xX11_readsSum_138
                rw [here_e tp pn2 a5, cl_s, sumSign_n m' a4, cl_s, if_pos rfl, here_e tp pn2 a5, cl_s, if_pos z, hos, cl_s, if_neg (show ¬ (1 : Int32) = 0 from by decide), wro_e, cl_s, zok_0, a5.1]
          · refine Or.inr (bad.tr (Nat.le_refl ℓ) (fx.L ℓ) c6 ⟨x', m', ?_, a2, a3, a4, a5⟩)
            rw [a1, cl_s, if_pos (show (0 : Int32) = 0 from rfl), zok_0]
        · have o6' : o = 6 := by omega
          subst o6'
          refine Or.inr (bad.mk (v := (-1000) * 5 - nI p) (Nat.le_refl ℓ) ?_ ?_ (fL.rf _ _) (gL.rf _ _))
          · unfold xX2_readFactor
            rw [peek_e tp tx, cl_s, if_neg (fun z => z e91), if_neg (show ¬ nI 6 < 6 from by decide), ref_e, cl_s, zok_0, tx.2.1]
          · unfold FS
            rw [xX11_readsFactor_0]
            dsimp only
            rw [here_e tp pn tm, cl_s, if_neg (fun z => z e91), opens_f tm o1, cl_s, if_neg (show ¬ (0 : Int32) ≠ 0 from by decide), zok_0, cl_s, if_neg (show ¬ (0 : Int32) ≠ 0 from by decide), zok_0]
      · rcases dg_c (p := p) tp with ⟨d, d9, d1, d2, d3⟩ | ⟨-, q2⟩
        · exact fac_num hN tp ps hl hn d9 d1 d3
        · exact fac_let hN tp ps hl hn q2 e91
end FAC
