section RIS
variable {N k c : Nat} {S : AS} {hx hm : HP}
theorem draw_e {h : HP} {x : Nat} (hx : x < 65536) (e : h.1 k 6 = nI x) : xX5_drawNumber k h = some (nI (nxX x % 10), up h k 6 (nI (nxX x))) := by
  have := nxX_lt x
  unfold xX5_drawNumber
  rw [lt_e, e, nxX_e hx, up_at, if_pos ⟨rfl, rfl⟩, l10, rem_nn (by omega) (by decide) (by decide)]
def fxH (h : HP) (k c x : Nat) : HP := up (up (up h 43 4 (nI c)) k 6 (nI (nxX x))) 43 5 (nI (nxX x % 10))
theorem fxH_f {h : HP} {x : Nat} : fMi k h (fxH h k c x) := (fMi.up (Or.inl rfl)).tr ((fMi.up (Or.inr (by omega))).tr (fMi.up (Or.inl rfl)))
theorem felt (hk : k = 31 ∨ k = 39) (t : TX S hx) (s : SXa k S hx) (h43 : hx.1 43 3 = nI k) : LSt k (dwS S) c (fxH hx k c (S 0 5)) := by
  obtain ⟨s1, s2, s3, s4, s5, s6, s7⟩ := s
  have nk : k ≠ 43 := by omega
  have nk1 : ∀ j, (fxH hx k c (S 0 5)).1 k j = if j = 6 then nI (nxX (S 0 5)) else hx.1 k j := fun j => by
    unfold fxH
    rw [up_n nk, up_at]
    by_cases z : j = 6
    · rw [if_pos ⟨rfl, z⟩, if_pos z]
    · rw [if_neg (fun y => z y.2), if_neg z, up_n nk]
  have nk2 : ∀ j, j ≠ 43 → j ≠ k → (fxH hx k c (S 0 5)).1 j = hx.1 j := fun j q1 q2 => by unfold fxH; rw [up_n q1, up_n q2, up_n q1]
  refine ⟨fxH_f.TX (S := S) hk t, ⟨by rw [nk1, if_neg (by decide)]; exact s1, by rw [nk1, if_neg (by decide)]; exact s2, by rw [nk1, if_neg (by decide)]; exact s3, by rw [nk1, if_pos rfl]; rfl, by rw [nk1, if_neg (by decide)]; exact s5, by rw [nk1, if_neg (by decide)]; exact s6, fun d hd => by rw [nk2 (k + 1) (by omega) (by omega), nk2 (k + 2) (by omega) (by omega), nk2 (k + 3) (by omega) (by omega)]; exact s7 d hd⟩, ?_, ?_, ?_⟩
  · unfold fxH
    rw [up_at, if_neg (by decide), up_n (by omega), up_at, if_neg (by decide)]; exact h43
  · unfold fxH
    rw [up_at, if_neg (by decide), up_n (by omega), up_at, if_pos ⟨rfl, rfl⟩]
  · unfold fxH
    rw [up_at, if_pos ⟨rfl, rfl⟩]; rfl
def riS (S : AS) (c r : Nat) : AS := stA S (S 0 2) (S 0 3 - r) (S 0 4) (S 0 5) (fun d => if d = c then S 5 c + r else S 5 d) (S 6) (S 7)
def rsB (N : Nat) (K : Int32 → HP → Option (Int32 × HP)) (a1 : Int32) (h2 : HP) : Option (Int32 × HP) :=
        (lt (up h2 43 4 a1) fun h3 =>
        lt (h3.1 43 3).toNatClampNeg fun k4 => iok (isSt k4) <|
        cl (xX5_drawNumber k4 h3) fun t5 h6 =>
        lt (up h6 43 5 t5) fun h7 =>
        lt (h7.1 43 3).toNatClampNeg fun k8 => iok (isSt k8) <|
        lt (h7.1 43 3).toNatClampNeg fun k9 => iok (isSt k9) <|
        ald h7 (k9 + 1) 16 a1 fun t10 =>
        lt (imn (h7.1 k8 4) (9999 - t10)) fun v11 =>
        cl (xX8_amountOf N 114 h7) fun t12 h13 =>
        lt (imn t12 v11) fun v14 =>
        lt (h13.1 43 3).toNatClampNeg fun k15 => iok (isSt k15) <|
        ald h13 (k15 + 1) 16 a1 fun t16 =>
        ast h13 (k15 + 1) 16 a1 (t16 + v14) fun h17 =>
        lt (h17.1 43 3).toNatClampNeg fun k18 => iok (isSt k18) <|
        lt (up h17 k18 4 ((h17.1 k18 4) - v14)) fun h19 =>
        K a1 h19)
theorem rise_s (hN : 300 ≤ N) (hk : k = 31 ∨ k = 39) (mr : MR k S hx hm) (hc : c < 16) (ht : (S 0 0).testBit c = true) (K : Int32 → HP → Option (Int32 × HP)) : ∃ r hx' hm', rsB N K (nI c) hx = K (nI c) hx' ∧ xX11_rises N (nI c) hm = some (0, hm') ∧ MR k (riS (dwS S) c r) hx' hm' ∧ fMi k hx hx' ∧ gMi hm hm' ∧ hm'.1 0 = hm.1 0 := by
  obtain ⟨w, tx, tm, sx, sm, h43, lw⟩ := id mr
  have w5 := w.1.2.2.2.2.2.1
  have nk : k ≠ 43 := by omega
  have ls := felt (c := c) hk tx sx h43
  obtain ⟨m1, e1, g1, z1, s1, f1⟩ := feels_e (N := N) (by omega) w tm sm hc
  have wD := w.dw
  have f7 : fMi k hx (fxH hx k c (S 0 5)) := fxH_f
  have fc := letter_e (N := N) (by omega) hk wD hc ls
  obtain ⟨v, h13, m2, v99, e2, e3, q2, q3⟩ := amount_e (N := N) (κ := 114) hN (by decide) (by decide) (lw.mi hk f7 g1) fc f1
  have ls2 := ls.fW hk q2
  have k1 := (wD.sk c hc).1
  have w3 := wD.1.2.2.2.1
  obtain ⟨y1, y2, y3, y4, y5, y6, y7⟩ := ls.2.1
  obtain ⟨x1, x2, x3, x4, x5, x6, x7⟩ := ls2.2.1
  generalize hr : min v (min (dwS S 0 3) (9999 - dwS S 5 c)) = r
  have rl1 : r ≤ dwS S 0 3 := by omega
  have rl2 : r ≤ 9999 - dwS S 5 c := by omega
  -- the class
  have eX : rsB N K (nI c) hx = K (nI c) (up (up h13 (k + 1) c (nI (dwS S 5 c + r))) k 4 (nI (dwS S 0 3 - r))) := by
    unfold rsB
    rw [lt_e, lt_e, show (up hx 43 4 (nI c)).1 43 3 = nI k from by rw [up_at, if_neg (by decide)]; exact h43, cl_k hk, iok_t (st_k hk), draw_e (x := S 0 5) w5 (by rw [up_n nk]; exact sx.2.2.2.1), cl_s, lt_e]
    rw [show up (up (up hx 43 4 (nI c)) k 6 (nI (nxX (S 0 5)))) 43 5 (nI (nxX (S 0 5) % 10)) = fxH hx k c (S 0 5) from rfl]
    rw [lt_e, ls.2.2.1, cl_k hk, iok_t (st_k hk), lt_e, iok_t (st_k hk), ald_n hc (by decide), (y7 c hc).1, y2, l9999, sub_nn k1, imn_nn (by omega) (by omega), lt_e, show xX8_amountOf N 114 (fxH hx k c (S 0 5)) = _ from e2, cl_s, imn_nn (by omega) (by omega), lt_e, lt_e, hr, ls2.2.2.1, cl_k hk, iok_t (st_k hk), ald_n hc (by decide), (x7 c hc).1, add_nn, ast_n hc (by decide), lt_e]
    rw [show (up h13 (k + 1) c (nI (dwS S 5 c + r))).1 43 3 = nI k from by rw [up_n (by omega)]; exact ls2.2.2.1, cl_k hk, iok_t (st_k hk), show (up h13 (k + 1) c (nI (dwS S 5 c + r))).1 k 4 = nI (dwS S 0 3) from by rw [up_n (by omega)]; exact x2, sub_nn rl1, lt_e]
  -- the reference
  have sm2 : SMa (m2.1 1) (dwS S) := by rw [q3 1 (by decide)]; exact s1
  obtain ⟨u1, u2, u3, u4, u5⟩ := id sm2
  have eM : xX11_rises N (nI c) hm = some (0, up (up m2 1 c (nI (dwS S 5 c + r))) 1 72 (nI (dwS S 0 3 - r))) := by
    unfold xX11_rises
    rw [e1, cl_s, show xX11_byLaw N 114 m1 = _ from e3, cl_s, ald_l (j := 72) 72 rfl (by decide) (by decide), u3, ald_l (j := 0 + nI c) c (by rw [l0, add_nn, Nat.zero_add]) (by omega) (by decide), (u1 c hc).1, l9999, sub_nn k1, minM_e (by omega) (by omega), cl_s, minM_e (by omega) (by omega), cl_s, hr, ald_l (j := 0 + nI c) c (by rw [l0, add_nn, Nat.zero_add]) (by omega) (by decide), (u1 c hc).1, add_nn, ast_l (j := 0 + nI c) c (by rw [l0, add_nn, Nat.zero_add]) (by omega) (by decide), ald_l (j := 72) 72 rfl (by decide) (by decide), up_at, if_neg (by omega), u3, sub_nn rl1, ast_l (j := 72) 72 rfl (by decide) (by decide)]
  have fx : fMi k hx (up (up h13 (k + 1) c (nI (dwS S 5 c + r))) k 4 (nI (dwS S 0 3 - r))) := f7.tr ((q2.Mi).tr ((fMi.up (Or.inr (by omega))).tr (fMi.up (Or.inr (by omega)))))
  have gx : gMi hm (up (up m2 1 c (nI (dwS S 5 c + r))) 1 72 (nI (dwS S 0 3 - r))) := g1.tr ((gMi.of20 q3).tr (gMi.up1.tr gMi.up1))
  have mrD : MR k (dwS S) (fxH hx k c (S 0 5)) m1 := ⟨wD, ls.1, g1.TM tm, ls.2.1, s1, ls.2.2.1, lw.mi hk f7 g1⟩
  refine ⟨r, _, _, eX, eM, MR.next hk mrD ((q2.Mi).tr ((fMi.up (Or.inr (by omega))).tr (fMi.up (Or.inr (by omega))))) ((gMi.of20 q3).tr (gMi.up1.tr gMi.up1)) ?_ ?_ ?_ ?_, fx, gx, ?_⟩
  · rw [up_n (by omega), up_n (by omega)]; exact ls2.2.2.1
  · obtain ⟨a1, a2, a3, a4, a5, a6, a7, a8⟩ := wD.1
    refine ⟨a1, a2, a3, by omega, a5, a6, fun d hd => ?_, fun d hd hu => ?_⟩
    · obtain ⟨b1, b2', b3⟩ := a7 d hd
      refine ⟨?_, b2', b3⟩
      dsimp only
      split
      · omega
      · exact b1
    · obtain ⟨b1, b2', b3⟩ := a8 d hd hu
      refine ⟨?_, b2', b3⟩
      dsimp only
      rw [if_neg (fun z => by rw [z] at hu; rw [show dwS S 0 0 = S 0 0 from rfl, ht] at hu; cases hu)]
      exact b1
  · have ek : ∀ j, j ≠ 4 → (up (up h13 (k + 1) c (nI (dwS S 5 c + r))) k 4 (nI (dwS S 0 3 - r))).1 k j = h13.1 k j := fun j hj => by rw [up_at, if_neg (fun z => hj z.2), up_n (by omega)]
    refine ⟨by rw [ek 3 (by decide)]; exact x1, by rw [up_at, if_pos ⟨rfl, rfl⟩], by rw [ek 5 (by decide)]; exact x3, by rw [ek 6 (by decide)]; exact x4, by rw [ek 7 (by decide)]; exact x5, by rw [ek 8 (by decide)]; exact x6, fun d hd => ?_⟩
    rw [up_n (show k + 1 ≠ k by omega), up_n (show k + 2 ≠ k by omega), up_n (show k + 3 ≠ k by omega), up_n (show k + 2 ≠ k + 1 by omega), up_n (show k + 3 ≠ k + 1 by omega), up_at]
    obtain ⟨b1, b2', b3⟩ := x7 d hd
    refine ⟨?_, b2', b3⟩
    dsimp only
    by_cases z : d = c
    · rw [if_pos ⟨rfl, z⟩, if_pos z]
    · rw [if_neg (fun y => z y.2), if_neg z]; exact b1
  · refine ⟨fun d hd => ?_, fun p hp => ?_, ?_, ?_, ?_⟩
    · obtain ⟨b1, b2', b3⟩ := u1 d hd
      refine ⟨?_, ?_, ?_⟩
      · rw [up_at, if_neg (by omega), up_at]
        dsimp only
        by_cases z : d = c
        · rw [if_pos ⟨rfl, z⟩, if_pos z]
        · rw [if_neg (fun y => z y.2), if_neg z]; exact b1
      · rw [up_at, if_neg (by omega), up_at, if_neg (by omega)]; exact b2'
      · rw [up_at, if_neg (by omega), up_at, if_neg (by omega)]; exact b3
    · have wn := wD.1.2.1
      rw [up_at, if_neg (by omega), up_at, if_neg (by omega)]; exact u2 p hp
    · rw [up_at, if_pos ⟨rfl, rfl⟩]
    · rw [up_at, if_neg (by decide), up_at, if_neg (by omega)]; exact u4
    · rw [up_at, if_neg (by decide), up_at, if_neg (by omega)]; exact u5
  · rw [up_n (by decide), up_n (by decide), q3 0 (by decide)]; exact z1
end RIS
