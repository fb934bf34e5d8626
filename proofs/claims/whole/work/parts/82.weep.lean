section WEE
variable {N k c : Nat} {S : AS} {hx hm : HP}
def weS (S : AS) (c o : Nat) : AS := stA S (S 0 2) (S 0 3) (S 0 4) (S 0 5) (fun d => if d = c then S 5 c - o else S 5 d) (S 6) (fun d => if d = c then min 999999 (S 7 c + o) else S 7 d)
def wpB (N : Nat) (K : Int32 → Int32 → HP → Option (Int32 × HP)) (a1 a2 : Int32) (h2 : HP) : Option (Int32 × HP) :=
          (lt (up h2 43 4 a2) fun h5 =>
          lt (h5.1 43 3).toNatClampNeg fun k6 => iok (isSt k6) <|
          cl (xX5_drawNumber k6 h5) fun t7 h8 =>
          lt (up h8 43 5 t7) fun h9 =>
          cl (xX8_isFrozen N h9) fun t10 h11 =>
          if t10 = 0 then
            (lt (h11.1 43 3).toNatClampNeg fun k12 => iok (isSt k12) <|
            ald h11 (k12 + 2) 16 a2 fun t13 =>
            cl (xX8_amountOf N 111 h11) fun t14 h15 =>
            lt (h15.1 43 3).toNatClampNeg fun k16 => iok (isSt k16) <|
            ald h15 (k16 + 1) 16 a2 fun t17 =>
            lt (imn (t13 * t14) t17) fun v18 =>
            lt (h15.1 43 3).toNatClampNeg fun k19 => iok (isSt k19) <|
            ald h15 (k19 + 1) 16 a2 fun t20 =>
            ast h15 (k19 + 1) 16 a2 (t20 - v18) fun h21 =>
            lt (h21.1 43 3).toNatClampNeg fun k22 => iok (isSt k22) <|
            lt (h21.1 43 3).toNatClampNeg fun k23 => iok (isSt k23) <|
            ald h21 (k23 + 3) 16 a2 fun t24 =>
            ast h21 (k22 + 3) 16 a2 (imn 999999 (t24 + v18)) fun h25 =>
            lt (a1 + v18) fun v26 =>
            K v26 a2 h25)
          else
            (K a1 a2 h11))
theorem weep_s (hN : 300 ≤ N) (hk : k = 31 ∨ k = 39) (mr : MR k S hx hm) (hc : c < 16) (ht : (S 0 0).testBit c = true) (K : Int32 → Int32 → HP → Option (Int32 × HP)) (a : Nat) {B : Nat} (h40 : hm.1 0 40 = nI B) : ∃ o S' hx' hm', wpB N K (nI a) (nI c) hx = K (nI (a + o)) (nI c) hx' ∧ xX11_weeps N (nI c) hm = some (0, hm') ∧ MR k S' hx' hm' ∧ sameT S S' ∧ fMi k hx hx' ∧ gMi hm hm' ∧ hm'.1 0 40 = nI (B + o) := by
  obtain ⟨w, tx, tm, sx, sm, h43, lw⟩ := id mr
  have w5 := w.1.2.2.2.2.2.1
  have nk : k ≠ 43 := by omega
  have ls := felt (c := c) hk tx sx h43
  obtain ⟨m1, e1, g1, z1, s1, f1⟩ := feels_e (N := N) (by omega) w tm sm hc
  have wD := w.dw
  have f7 : fMi k hx (fxH hx k c (S 0 5)) := fxH_f
  have fc := letter_e (N := N) (by omega) hk wD hc ls
  have lw1 := lw.mi hk f7 g1
  obtain ⟨fz, h11, m2, e2, e3, q2, q3⟩ := frozen_e (N := N) hN lw1 fc f1
  have ls2 := ls.fW hk q2
  have g2 : gMi hm m2 := g1.tr (gMi.of20 q3)
  have sm2 : SMa (m2.1 1) (dwS S) := by rw [q3 1 (by decide)]; exact s1
  have m40 : m2.1 0 40 = nI B := by rw [q3 0 (by decide), z1]; exact h40
  have lw2 := lw1.fr q2 q3
  have mr2 : MR k (dwS S) h11 m2 := ⟨wD, ls2.1, g2.TM tm, ls2.2.1, sm2, ls2.2.2.1, lw2⟩
  have f11 : fMi k hx h11 := f7.tr q2.Mi
  have preX : wpB N K (nI a) (nI c) hx = (if b2 fz = 0 then
            (lt (h11.1 43 3).toNatClampNeg fun k12 => iok (isSt k12) <|
            ald h11 (k12 + 2) 16 (nI c) fun t13 =>
            cl (xX8_amountOf N 111 h11) fun t14 h15 =>
            lt (h15.1 43 3).toNatClampNeg fun k16 => iok (isSt k16) <|
            ald h15 (k16 + 1) 16 (nI c) fun t17 =>
            lt (imn (t13 * t14) t17) fun v18 =>
            lt (h15.1 43 3).toNatClampNeg fun k19 => iok (isSt k19) <|
            ald h15 (k19 + 1) 16 (nI c) fun t20 =>
            ast h15 (k19 + 1) 16 (nI c) (t20 - v18) fun h21 =>
            lt (h21.1 43 3).toNatClampNeg fun k22 => iok (isSt k22) <|
            lt (h21.1 43 3).toNatClampNeg fun k23 => iok (isSt k23) <|
            ald h21 (k23 + 3) 16 (nI c) fun t24 =>
            ast h21 (k22 + 3) 16 (nI c) (imn 999999 (t24 + v18)) fun h25 =>
            lt (nI a + v18) fun v26 =>
            K v26 (nI c) h25)
          else
            (K (nI a) (nI c) h11)) := by
    unfold wpB
    rw [lt_e, lt_e, show (up hx 43 4 (nI c)).1 43 3 = nI k from by rw [up_at, if_neg (by decide)]; exact h43, cl_k hk, iok_t (st_k hk), draw_e (x := S 0 5) w5 (by rw [up_n nk]; exact sx.2.2.2.1), cl_s, lt_e]
    rw [show up (up (up hx 43 4 (nI c)) k 6 (nI (nxX (S 0 5)))) 43 5 (nI (nxX (S 0 5) % 10)) = fxH hx k c (S 0 5) from rfl, e2, cl_s]
  rw [preX]
  unfold xX11_weeps
  rw [e1, cl_s, e3, cl_s]
  cases fz
  · obtain ⟨v, h15, m3, v99, e4, e5, q4, q5⟩ := amount_e (N := N) (κ := 111) hN (by decide) (by decide) lw2 (fc.fW q2) (fun i hi => by rw [q3 21 (by decide)]; exact f1 i hi)
    have ls3 := ls2.fW hk q4
    have sm3 : SMa (m3.1 1) (dwS S) := by rw [q5 1 (by decide)]; exact sm2
    obtain ⟨k1, k2, k3⟩ := wD.sk c hc
    obtain ⟨x1, x2, x3, x4, x5, x6, x7⟩ := ls3.2.1
    obtain ⟨u1, u2, u3, u4, u5⟩ := id sm3
    have tb := (ls2.2.1.2.2.2.2.2.2 c hc).2.1
    have mul : dwS S 6 c * v ≤ 8 * 99 := Nat.mul_le_mul k2 v99
    generalize ho : min (dwS S 6 c * v) (dwS S 5 c) = o
    have ol : o ≤ dwS S 5 c := by omega
    have m340 : m3.1 0 40 = nI B := by rw [q5 0 (by decide)]; exact m40
    rw [b2_f, if_pos (show (0 : Int32) = 0 from rfl), if_pos (show (0 : Int32) = 0 from rfl)]
    have eX : (lt (h11.1 43 3).toNatClampNeg fun k12 => iok (isSt k12) <|
            ald h11 (k12 + 2) 16 (nI c) fun t13 =>
            cl (xX8_amountOf N 111 h11) fun t14 h15 =>
            lt (h15.1 43 3).toNatClampNeg fun k16 => iok (isSt k16) <|
            ald h15 (k16 + 1) 16 (nI c) fun t17 =>
            lt (imn (t13 * t14) t17) fun v18 =>
            lt (h15.1 43 3).toNatClampNeg fun k19 => iok (isSt k19) <|
            ald h15 (k19 + 1) 16 (nI c) fun t20 =>
            ast h15 (k19 + 1) 16 (nI c) (t20 - v18) fun h21 =>
            lt (h21.1 43 3).toNatClampNeg fun k22 => iok (isSt k22) <|
            lt (h21.1 43 3).toNatClampNeg fun k23 => iok (isSt k23) <|
            ald h21 (k23 + 3) 16 (nI c) fun t24 =>
            ast h21 (k22 + 3) 16 (nI c) (imn 999999 (t24 + v18)) fun h25 =>
            lt (nI a + v18) fun v26 =>
            K v26 (nI c) h25) = K (nI (a + o)) (nI c) (up (up h15 (k + 1) c (nI (dwS S 5 c - o))) (k + 3) c (nI (min 999999 (dwS S 7 c + o)))) := by
      rw [lt_e, ls2.2.2.1, cl_k hk, iok_t (st_k hk), ald_n hc (by decide), tb, show xX8_amountOf N 111 h11 = _ from e4, cl_s, lt_e, ls3.2.2.1, cl_k hk, iok_t (st_k hk), ald_n hc (by decide), (x7 c hc).1, mul_nn, imn_nn (by omega) (by omega), lt_e, ho, lt_e, iok_t (st_k hk), ald_n hc (by decide), (x7 c hc).1, sub_nn ol, ast_n hc (by decide), lt_e, show (up h15 (k + 1) c (nI (dwS S 5 c - o))).1 43 3 = nI k from by rw [up_n (by omega)]; exact ls3.2.2.1, cl_k hk, iok_t (st_k hk), lt_e, iok_t (st_k hk), ald_n hc (by decide), up_n (show k + 3 ≠ k + 1 by omega), (x7 c hc).2.2, add_nn, l999999, imn_nn (by decide) (by omega), ast_n hc (by decide), add_nn, lt_e]
    have eM : (ald m2 1 75 (16 + nI c) fun t5 =>
    cl (xX11_byLaw N 111 m2) fun t6 h7 =>
    ald h7 1 75 (0 + nI c) fun t8 =>
    cl (xX11_min (t5 * t6) t8 h7) fun t9 h10 =>
    ald h10 1 75 (32 + nI c) fun t11 =>
    cl (xX11_min 999999 (t11 + t9) h10) fun t12 h13 =>
    ast h13 1 75 (32 + nI c) t12 fun h14 =>
    ald h14 1 75 (0 + nI c) fun t15 =>
    ast h14 1 75 (0 + nI c) (t15 - t9) fun h16 =>
    lt (up h16 0 40 ((h16.1 0 40) + t9)) fun h17 =>
    some ((0 : Int32), h17)) = some (0, up (up (up m3 1 (32 + c) (nI (min 999999 (dwS S 7 c + o)))) 1 c (nI (dwS S 5 c - o))) 0 40 (nI (B + o))) := by
      rw [ald_l (j := 16 + nI c) (16 + c) (by rw [l16, add_nn]) (by omega) (by decide), (sm2.1 c hc).2.1, show xX11_byLaw N 111 m2 = _ from e5, cl_s, ald_l (j := 0 + nI c) c (by rw [l0, add_nn, Nat.zero_add]) (by omega) (by decide), (u1 c hc).1, mul_nn, minM_e (by omega) (by omega), cl_s, ho, ald_l (j := 32 + nI c) (32 + c) (by rw [l32, add_nn]) (by omega) (by decide), (u1 c hc).2.2, add_nn, l999999, minM_e (by decide) (by omega), cl_s, ast_l (j := 32 + nI c) (32 + c) (by rw [l32, add_nn]) (by omega) (by decide), ald_l (j := 0 + nI c) c (by rw [l0, add_nn, Nat.zero_add]) (by omega) (by decide), up_at, if_neg (by omega), (u1 c hc).1, sub_nn ol, ast_l (j := 0 + nI c) c (by rw [l0, add_nn, Nat.zero_add]) (by omega) (by decide), lt_e, show (up (up m3 1 (32 + c) (nI (min 999999 (dwS S 7 c + o)))) 1 c (nI (dwS S 5 c - o))).1 0 40 = nI B from by rw [up_n (by decide), up_n (by decide)]; exact m340, add_nn]
    have fx : fMi k h11 (up (up h15 (k + 1) c (nI (dwS S 5 c - o))) (k + 3) c (nI (min 999999 (dwS S 7 c + o)))) := q4.Mi.tr ((fMi.up (Or.inr (by omega))).tr (fMi.up (Or.inr (by omega))))
    have gx : gMi m2 (up (up (up m3 1 (32 + c) (nI (min 999999 (dwS S 7 c + o)))) 1 c (nI (dwS S 5 c - o))) 0 40 (nI (B + o))) := (gMi.of20 q5).tr (gMi.up1.tr (gMi.up1.tr ⟨fun j q _ _ _ => up_n q, fun j q => by rw [up_at, if_neg (fun z => q z.2)]⟩))
    refine ⟨o, weS (dwS S) c o, _, _, eX, eM, MR.next hk mr2 fx gx ?_ ?_ ?_ ?_, ⟨rfl, rfl, rfl⟩, f11.tr fx, g2.tr gx, by rw [up_at, if_pos ⟨rfl, rfl⟩]⟩
    · rw [up_n (by omega), up_n (by omega)]; exact ls3.2.2.1
    · obtain ⟨a1, a2, a3, a4, a5, a6, a7, a8⟩ := wD.1
      refine ⟨a1, a2, a3, a4, a5, a6, fun d hd => ?_, fun d hd hu => ?_⟩
      · obtain ⟨b1, b2', b3⟩ := a7 d hd
        refine ⟨?_, b2', ?_⟩
        · dsimp only
          split <;> omega
        · dsimp only
          split
          · exact Nat.min_le_left _ _
          · exact b3
      · obtain ⟨b1, b2', b3⟩ := a8 d hd hu
        have dc : ¬ d = c := fun z => by rw [z] at hu; rw [show dwS S 0 0 = S 0 0 from rfl, ht] at hu; cases hu
        dsimp only
        rw [if_neg dc, if_neg dc]
        exact ⟨b1, b2', b3⟩
    · have ek : ∀ j, j ≠ k + 1 → j ≠ k + 3 → (up (up h15 (k + 1) c (nI (dwS S 5 c - o))) (k + 3) c (nI (min 999999 (dwS S 7 c + o)))).1 j = h15.1 j := fun j j1 j2 => by rw [up_n j2, up_n j1]
      refine ⟨by rw [ek k (by omega) (by omega)]; exact x1, by rw [ek k (by omega) (by omega)]; exact x2, by rw [ek k (by omega) (by omega)]; exact x3, by rw [ek k (by omega) (by omega)]; exact x4, by rw [ek k (by omega) (by omega)]; exact x5, by rw [ek k (by omega) (by omega)]; exact x6, fun d hd => ⟨?_, ?_, ?_⟩⟩
      · rw [up_n (show k + 1 ≠ k + 3 by omega), up_at]
        dsimp only
        by_cases z : d = c
        · rw [if_pos ⟨rfl, z⟩, if_pos z]
        · rw [if_neg (fun y => z y.2), if_neg z]; exact (x7 d hd).1
      · rw [ek (k + 2) (by omega) (by omega)]; exact (x7 d hd).2.1
      · rw [up_at, up_n (show k + 3 ≠ k + 1 by omega)]
        dsimp only
        by_cases z : d = c
        · rw [if_pos ⟨rfl, z⟩, if_pos z]
        · rw [if_neg (fun y => z y.2), if_neg z]; exact (x7 d hd).2.2
    · rw [up_n (show 1 ≠ 0 by decide)]
      have ej : ∀ j, j ≠ c → j ≠ 32 + c → (up (up m3 1 (32 + c) (nI (min 999999 (dwS S 7 c + o)))) 1 c (nI (dwS S 5 c - o))).1 1 j = m3.1 1 j := fun j j1 j2 => by rw [up_at, if_neg (fun z => j1 z.2), up_at, if_neg (fun z => j2 z.2)]
      refine ⟨fun d hd => ⟨?_, ?_, ?_⟩, fun p hp => ?_, ?_, ?_, ?_⟩
      · dsimp only
        by_cases z : d = c
        · rw [up_at, if_pos ⟨rfl, z⟩, if_pos z]
        · rw [ej d z (by omega), if_neg z]; exact (u1 d hd).1
      · rw [ej (16 + d) (by omega) (by omega)]; exact (u1 d hd).2.1
      · dsimp only
        by_cases z : d = c
        · rw [up_at, if_neg (by omega), up_at, if_pos ⟨rfl, by omega⟩, if_pos z]
        · rw [ej (32 + d) (by omega) (by omega), if_neg z]; exact (u1 d hd).2.2
      · rw [ej (48 + p) (by omega) (by omega)]; exact u2 p hp
      · rw [ej 72 (by omega) (by omega)]; exact u3
      · rw [ej 73 (by omega) (by omega)]; exact u4
      · rw [ej 74 (by omega) (by omega)]; exact u5
  · rw [b2_t, if_neg (show ¬ (1 : Int32) = 0 from by decide), if_neg (show ¬ (1 : Int32) = 0 from by decide)]
    exact ⟨0, dwS S, h11, m2, rfl, rfl, mr2, ⟨rfl, rfl, rfl⟩, f11, g2, m40⟩
end WEE
