section LVL
variable {N k c : Nat} {S : AS} {hx hm : HP}
def sameT (S S' : AS) : Prop := S' 0 0 = S 0 0 ∧ S' 0 1 = S 0 1 ∧ S' 0 4 = S 0 4
theorem sameT.tr {S S1 S2 : AS} (a : sameT S S1) (b : sameT S1 S2) : sameT S S2 := ⟨b.1.trans a.1, b.2.1.trans a.2.1, b.2.2.trans a.2.2⟩
def leS (S : AS) (hi lo g : Nat) : AS := stA S (S 0 2) (S 0 3) (S 0 4) (S 0 5) (fun d => if d = lo then S 5 lo + g else if d = hi then S 5 hi - g else S 5 d) (S 6) (S 7)
def lvB (N : Nat) (K : Int32 → HP → Option (Int32 × HP)) (a1 : Int32) (h3 : HP) : Option (Int32 × HP) :=
        (ald h3 5 24 a1 fun t4 =>
        ald h3 6 24 a1 fun t5 =>
        ald h3 4 16 t4 fun t6 =>
        lt (h3.1 43 3).toNatClampNeg fun k7 => iok (isSt k7) <|
        ald h3 (k7 + 1) 16 t4 fun t8 =>
        ald h3 4 16 t5 fun t9 =>
        lt (h3.1 43 3).toNatClampNeg fun k10 => iok (isSt k10) <|
        ald h3 (k10 + 1) 16 t5 fun t11 =>
        lt (((t6 + t8) - t9) - t11) fun v12 =>
        if v12 < 0 then
          (ald h3 7 24 a1 fun t13 =>
          cl (xX8_give t5 t4 (imn t13 ((-v12) / 2)) h3) fun t14 h15 =>
          K a1 h15)
        else
          (ald h3 7 24 a1 fun t16 =>
          cl (xX8_give t4 t5 (imn t16 (v12 / 2)) h3) fun t17 h18 =>
          K a1 h18))
theorem give_e {hi lo much : Nat} (hk : k = 31 ∨ k = 39) (mr : MR k S hx hm) (h1 : hi < 16) (h2 : lo < 16) (hne : hi ≠ lo) (hmu : much < 100000) : xX8_give (nI hi) (nI lo) (nI much) hx = some (0, up (up hx (k + 1) hi (nI (S 5 hi - min much (min (S 5 hi) (9999 - S 5 lo))))) (k + 1) lo (nI (S 5 lo + min much (min (S 5 hi) (9999 - S 5 lo))))) := by
  obtain ⟨w, tx, tm, sx, sm, h43, lw⟩ := mr
  have so : ∀ c, c < 16 → hx.1 (k + 1) c = nI (S 5 c) := fun c hc => (sx.2.2.2.2.2.2 c hc).1
  have b1 := (w.sk hi h1).1
  have b2' := (w.sk lo h2).1
  generalize hg : min much (min (S 5 hi) (9999 - S 5 lo)) = g
  unfold xX8_give
  rw [lt_e, h43, cl_k hk, iok_t (st_k hk), ald_n h1 (by decide), so hi h1, lt_e, iok_t (st_k hk), ald_n h2 (by decide), so lo h2, l9999, sub_nn b2', imn_nn (by omega) (by omega), lt_e, imn_nn (by omega) (by omega), lt_e, hg, lt_e, iok_t (st_k hk), ald_n h1 (by decide), so hi h1, sub_nn (by omega), ast_n h1 (by decide), lt_e, show (up hx (k + 1) hi (nI (S 5 hi - g))).1 43 3 = nI k from by rw [up_n (by omega)]; exact h43, cl_k hk, iok_t (st_k hk), ald_n h2 (by decide), up_at, if_neg (fun z => hne z.2.symm), so lo h2, add_nn, ast_n h2 (by decide)]
theorem lev_mr {hi lo g : Nat} (hk : k = 31 ∨ k = 39) (mr : MR k S hx hm) (h1 : hi < 16) (h2 : lo < 16) (hne : hi ≠ lo) (hg1 : g ≤ S 5 hi) (hg2 : g ≤ 9999 - S 5 lo) (ht1 : (S 0 0).testBit hi = true) (ht2 : (S 0 0).testBit lo = true) : MR k (leS S hi lo g) (up (up hx (k + 1) hi (nI (S 5 hi - g))) (k + 1) lo (nI (S 5 lo + g))) (up (up hm 1 hi (nI (S 5 hi - g))) 1 lo (nI (S 5 lo + g))) := by
  have mr0 := mr
  obtain ⟨w, tx, tm, sx, sm, h43, lw⟩ := mr
  have b2' := (w.sk lo h2).1
  refine MR.next hk mr0 ((fMi.up (Or.inr (by omega))).tr (fMi.up (Or.inr (by omega)))) (gMi.up1.tr gMi.up1) (by rw [up_n (by omega), up_n (by omega)]; exact h43) ?_ ?_ ?_
  · obtain ⟨a1, a2, a3, a4, a5, a6, a7, a8⟩ := w.1
    refine ⟨a1, a2, a3, a4, a5, a6, fun d hd => ⟨?_, (a7 d hd).2⟩, fun d hd hu => ⟨?_, (a8 d hd hu).2⟩⟩
    · have := (a7 d hd).1
      have := (a7 hi h1).1
      dsimp only
      split
      · omega
      · split <;> omega
    · dsimp only
      rw [if_neg (fun z => by rw [z, ht2] at hu; cases hu), if_neg (fun z => by rw [z, ht1] at hu; cases hu)]
      exact (a8 d hd hu).1
  · obtain ⟨s1, s2, s3, s4, s5, s6, s7⟩ := sx
    have ek : ∀ a, a ≠ k + 1 → (up (up hx (k + 1) hi (nI (S 5 hi - g))) (k + 1) lo (nI (S 5 lo + g))).1 a = hx.1 a := fun a ha => by rw [up_n ha, up_n ha]
    refine ⟨by rw [ek k (by omega)]; exact s1, by rw [ek k (by omega)]; exact s2, by rw [ek k (by omega)]; exact s3, by rw [ek k (by omega)]; exact s4, by rw [ek k (by omega)]; exact s5, by rw [ek k (by omega)]; exact s6, fun d hd => ⟨?_, ?_, ?_⟩⟩
    · rw [up_at, up_at]
      dsimp only
      by_cases z : d = lo
      · rw [if_pos ⟨rfl, z⟩, if_pos z]
      · rw [if_neg (fun y => z y.2), if_neg z]
        by_cases z2 : d = hi
        · rw [if_pos ⟨rfl, z2⟩, if_pos z2]
        · rw [if_neg (fun y => z2 y.2), if_neg z2]; exact (s7 d hd).1
    · rw [ek (k + 2) (by omega)]; exact (s7 d hd).2.1
    · rw [ek (k + 3) (by omega)]; exact (s7 d hd).2.2
  · obtain ⟨u1, u2, u3, u4, u5⟩ := sm
    have e1 : ∀ j, 16 ≤ j → (up (up hm 1 hi (nI (S 5 hi - g))) 1 lo (nI (S 5 lo + g))).1 1 j = hm.1 1 j := fun j hj => by rw [up_at, if_neg (by omega), up_at, if_neg (by omega)]
    refine ⟨fun d hd => ⟨?_, by rw [e1 (16 + d) (by omega)]; exact (u1 d hd).2.1, by rw [e1 (32 + d) (by omega)]; exact (u1 d hd).2.2⟩, fun p hp => by rw [e1 (48 + p) (by omega)]; exact u2 p hp, by rw [e1 72 (by decide)]; exact u3, by rw [e1 73 (by decide)]; exact u4, by rw [e1 74 (by decide)]; exact u5⟩
    rw [up_at, up_at]
    dsimp only
    by_cases z : d = lo
    · rw [if_pos ⟨rfl, z⟩, if_pos z]
    · rw [if_neg (fun y => z y.2), if_neg z]
      by_cases z2 : d = hi
      · rw [if_pos ⟨rfl, z2⟩, if_pos z2]
      · rw [if_neg (fun y => z2 y.2), if_neg z2]; exact (u1 d hd).1
theorem lvOf_e (w : WF S) (t : TM S hm) (s : SMa (hm.1 1) S) (hc : c < 16) : xX11_levelOf (nI c) hm = some (nI (S 1 c + S 5 c), hm) := by
  unfold xX11_levelOf
  rw [ald_n hc (by decide), t.2.2.1 c hc, ald_l (j := 0 + nI c) c (by rw [l0, add_nn, Nat.zero_add]) (by omega) (by decide), (s.1 c hc).1, add_nn]
theorem lev38 {hi lo p : Nat} (mr : MR k S hx hm) (hp : p < S 0 1) (h1 : hi < 16) (h2 : lo < 16) (hne : hi ≠ lo) (he : (hi = S 2 p ∧ lo = S 3 p) ∨ (hi = S 3 p ∧ lo = S 2 p)) (hle : S 1 lo + S 5 lo ≤ S 1 hi + S 5 hi) : xX11_levels_38 (nI p) (nI hi) hm = some (0, up (up hm 1 hi (nI (S 5 hi - min (min (S 4 p) ((S 1 hi + S 5 hi - (S 1 lo + S 5 lo)) / 2)) (min (S 5 hi) (9999 - S 5 lo))))) 1 lo (nI (S 5 lo + min (min (S 4 p) ((S 1 hi + S 5 hi - (S 1 lo + S 5 lo)) / 2)) (min (S 5 hi) (9999 - S 5 lo))))) := by
  obtain ⟨w, tx, tm, sx, sm, h43, lw⟩ := mr
  have wn := w.1.2.1
  obtain ⟨t1, t2, t3⟩ := tm.2.2.2 p hp
  obtain ⟨y1, y2, y3, y4, y5, y6, y7⟩ := w.2.1.2 p hp
  have b1 := (w.sk hi h1).1
  have b2' := (w.sk lo h2).1
  have c1 := w.2.1.1 hi h1
  generalize hg : min (min (S 4 p) ((S 1 hi + S 5 hi - (S 1 lo + S 5 lo)) / 2)) (min (S 5 hi) (9999 - S 5 lo)) = g
  unfold xX11_levels_38
  rw [ald_n (by omega) (by decide), ald_n (by omega) (by decide), t1, t2, add_nn, sub_nn (by omega), show S 2 p + S 3 p - hi = lo by omega, lt_e, lvOf_e w tm sm h1, cl_s, lvOf_e w tm sm h2, cl_s, sub_nn hle, l2, div_nn (by omega) (by decide) (by decide), lt_e, ald_n (by omega) (by decide), t3, minM_e (by omega) (by omega), cl_s, ald_l (j := 0 + nI hi) hi (by rw [l0, add_nn, Nat.zero_add]) (by omega) (by decide), (sm.1 hi h1).1, ald_l (j := 0 + nI lo) lo (by rw [l0, add_nn, Nat.zero_add]) (by omega) (by decide), (sm.1 lo h2).1, l9999, sub_nn b2', minM_e (by omega) (by omega), cl_s, minM_e (by omega) (by omega), cl_s, hg, ald_l (j := 0 + nI hi) hi (by rw [l0, add_nn, Nat.zero_add]) (by omega) (by decide), (sm.1 hi h1).1, sub_nn (by omega), ast_l (j := 0 + nI hi) hi (by rw [l0, add_nn, Nat.zero_add]) (by omega) (by decide), ald_l (j := 0 + nI lo) lo (by rw [l0, add_nn, Nat.zero_add]) (by omega) (by decide), up_at, if_neg (fun z => hne z.2.symm), (sm.1 lo h2).1, add_nn, ast_l (j := 0 + nI lo) lo (by rw [l0, add_nn, Nat.zero_add]) (by omega) (by decide)]
theorem level_s {p : Nat} (hk : k = 31 ∨ k = 39) (mr : MR k S hx hm) (hp : p < S 0 1) (K : Int32 → HP → Option (Int32 × HP)) : ∃ S' hx' hm', lvB N K (nI p) hx = K (nI p) hx' ∧ xX11_levels (nI p) hm = some (0, hm') ∧ MR k S' hx' hm' ∧ sameT S S' ∧ S' 0 2 = S 0 2 ∧ fMi k hx hx' ∧ gMi hm hm' ∧ hm'.1 0 = hm.1 0 := by
  have mr0 := mr
  obtain ⟨w, tx, tm, sx, sm, h43, lw⟩ := mr
  have wn := w.1.2.1
  have so : ∀ c, c < 16 → hx.1 (k + 1) c = nI (S 5 c) := fun c hc => (sx.2.2.2.2.2.2 c hc).1
  obtain ⟨t1, t2, t3⟩ := tx.2.2.2 p hp
  obtain ⟨m1, m2, m3⟩ := tm.2.2.2 p hp
  obtain ⟨y1, y2, y3, y4, y5, y6, y7⟩ := w.2.1.2 p hp
  have b1 := (w.sk _ y1).1
  have b2' := (w.sk _ y2).1
  have c1 := w.2.1.1 _ y1
  have c2 := w.2.1.1 _ y2
  have pre : lvB N K (nI p) hx = (if ((nI (S 1 (S 2 p)) + nI (S 5 (S 2 p))) - nI (S 1 (S 3 p))) - nI (S 5 (S 3 p)) < 0 then cl (xX8_give (nI (S 3 p)) (nI (S 2 p)) (imn (nI (S 4 p)) ((-(((nI (S 1 (S 2 p)) + nI (S 5 (S 2 p))) - nI (S 1 (S 3 p))) - nI (S 5 (S 3 p)))) / 2)) hx) fun t14 h15 => K (nI p) h15 else cl (xX8_give (nI (S 2 p)) (nI (S 3 p)) (imn (nI (S 4 p)) ((((nI (S 1 (S 2 p)) + nI (S 5 (S 2 p))) - nI (S 1 (S 3 p))) - nI (S 5 (S 3 p))) / 2)) hx) fun t17 h18 => K (nI p) h18) := by
    unfold lvB
    rw [ald_n (by omega) (by decide), ald_n (by omega) (by decide), t1, t2, ald_n y1 (by decide), tx.2.2.1 _ y1, lt_e, h43, cl_k hk, iok_t (st_k hk), ald_n y1 (by decide), so _ y1, ald_n y2 (by decide), tx.2.2.1 _ y2, lt_e, iok_t (st_k hk), ald_n y2 (by decide), so _ y2, lt_e, ald_n (by omega) (by decide), t3, ald_n (by omega) (by decide), t3]
  have vI : ((nI (S 1 (S 2 p)) + nI (S 5 (S 2 p))) - nI (S 1 (S 3 p))) - nI (S 5 (S 3 p)) = Int32.ofInt (((S 1 (S 2 p) + S 5 (S 2 p) : Nat) : Int) - ((S 1 (S 3 p) + S 5 (S 3 p) : Nat) : Int)) := by
    rw [add_nn, ofI_n, ofI_n (S 1 (S 3 p)), ofI_n (S 5 (S 3 p)), ofI_sub, ofI_sub]
    congr 1
    omega
  rw [pre, vI]
  unfold xX11_levels
  rw [ald_n (by omega) (by decide), m1, lvOf_e w tm sm y1, cl_s, ald_n (by omega) (by decide), m2, lvOf_e w tm sm y2, cl_s, ald_n (by omega) (by decide), m2, ald_n (by omega) (by decide), m1]
  by_cases q : S 1 (S 2 p) + S 5 (S 2 p) < S 1 (S 3 p) + S 5 (S 3 p)
  · have q1 : Int32.ofInt (((S 1 (S 2 p) + S 5 (S 2 p) : Nat) : Int) - ((S 1 (S 3 p) + S 5 (S 3 p) : Nat) : Int)) < 0 := by
      rw [i_lt, ofI_t (by omega) (by omega)]; show _ < (0 : Int); omega
    have q2 : nI (S 1 (S 2 p) + S 5 (S 2 p)) < nI (S 1 (S 3 p) + S 5 (S 3 p)) := by rw [lt_nn (by omega) (by omega)]; exact q
    rw [if_pos q1, if_pos q2, ofI_neg, show -(((S 1 (S 2 p) + S 5 (S 2 p) : Nat) : Int) - ((S 1 (S 3 p) + S 5 (S 3 p) : Nat) : Int)) = ((S 1 (S 3 p) + S 5 (S 3 p) - (S 1 (S 2 p) + S 5 (S 2 p)) : Nat) : Int) by omega, ← ofI_n, l2, div_nn (by omega) (by decide) (by decide), imn_nn (by omega) (by omega), give_e hk mr0 y2 y1 (fun z => y3 z.symm) (by omega), cl_s, lev38 mr0 hp y2 y1 (fun z => y3 z.symm) (Or.inr ⟨rfl, rfl⟩) (by omega)]
    exact ⟨_, _, _, rfl, rfl, lev_mr hk mr0 y2 y1 (fun z => y3 z.symm) (by omega) (by omega) y5 y4, ⟨rfl, rfl, rfl⟩, rfl, (fMi.up (Or.inr (by omega))).tr (fMi.up (Or.inr (by omega))), gMi.up1.tr gMi.up1, by rw [up_n (by decide), up_n (by decide)]⟩
  · have q1 : ¬ Int32.ofInt (((S 1 (S 2 p) + S 5 (S 2 p) : Nat) : Int) - ((S 1 (S 3 p) + S 5 (S 3 p) : Nat) : Int)) < 0 := by
      rw [i_lt, ofI_t (by omega) (by omega)]; show ¬ _ < (0 : Int); omega
    have q2 : ¬ nI (S 1 (S 2 p) + S 5 (S 2 p)) < nI (S 1 (S 3 p) + S 5 (S 3 p)) := by rw [lt_nn (by omega) (by omega)]; exact q
    rw [if_neg q1, if_neg q2, show (((S 1 (S 2 p) + S 5 (S 2 p) : Nat) : Int) - ((S 1 (S 3 p) + S 5 (S 3 p) : Nat) : Int)) = ((S 1 (S 2 p) + S 5 (S 2 p) - (S 1 (S 3 p) + S 5 (S 3 p)) : Nat) : Int) by omega, ← ofI_n, l2, div_nn (by omega) (by decide) (by decide), imn_nn (by omega) (by omega), give_e hk mr0 y1 y2 y3 (by omega), cl_s, lev38 mr0 hp y1 y2 y3 (Or.inl ⟨rfl, rfl⟩) (by omega)]
    exact ⟨_, _, _, rfl, rfl, lev_mr hk mr0 y1 y2 y3 (by omega) (by omega) y4 y5, ⟨rfl, rfl, rfl⟩, rfl, (fMi.up (Or.inr (by omega))).tr (fMi.up (Or.inr (by omega))), gMi.up1.tr gMi.up1, by rw [up_n (by decide), up_n (by decide)]⟩
end LVL
