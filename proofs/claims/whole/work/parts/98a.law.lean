section LAWQ
variable {T : Nat → Nat} {n0 N : Nat}
/-- one rule -/
theorem rule_e {p ℓ r k : Nat} {hx hm : HP} {CX CM : Nat → Nat × Nat} {K : Int32 → HP → Option (Int32 × HP)} (hN : 300 ≤ N) (tp : TP T n0) (tx : TcX T n0 p hx) (tm : TcM T n0 p hm) (lx : hx.1 20 6 = nI ℓ) (lm : hm.1 0 16 = nI ℓ) (h18 : hm.1 0 18 = nI r) (hr : r < 16) (hl : ℓ ≤ p) (pl : p < n0) (hk : k = 114 ∨ k = 111 ∨ k = 120) (ri : RI r ℓ CX CM hx hm) : (∃ p' ℓ' hx' hm' DX DM, xX2_readFrom_51 N K (nI r) (nI k) hx = rT N K r hx' ∧ xX11_readsRule_33 N (nI k) hm = some (1, hm') ∧ TcX T n0 p' hx' ∧ TcM T n0 p' hm' ∧ hx'.1 20 6 = nI ℓ' ∧ hm'.1 0 16 = nI ℓ' ∧ hx'.1 20 7 = nI (r + 1) ∧ hm'.1 0 18 = nI (r + 1) ∧ ℓ' ≤ p' ∧ fU hx hx' ∧ gE hm hm' ∧ RI (r + 1) ℓ' DX DM hx' hm') ∨ (∃ hx' hm', xX2_readFrom_51 N K (nI r) (nI k) hx = some (0, hx') ∧ xX11_readsRule_33 N (nI k) hm = some (0, hm') ∧ hx'.1 1 4 = hm'.1 0 13 ∧ fU hx hx' ∧ gE hm hm') := by
  have hn0 := tp.1
  obtain ⟨r1, r2, r3⟩ := ri
  have k256 : k < 256 := by omega
  have ne16 : nI r ≠ 16 := i_ne (b := 16) (by omega) (by decide) (by omega)
  unfold xX2_readFrom_51 xX11_readsRule_33
  -- the class
  have fx0 : fP hx (up hx 1 2 (hx.1 1 2 + 1)) := fP.up (Or.inl rfl)
  have tx0 := tx.mv pl
  rw [if_pos ne16, lt_e, ast_n hr (by decide), show (up (up hx 1 2 (hx.1 1 2 + 1)) 23 r (nI k)).1 20 6 = nI ℓ from by rw [up_n (by decide), fx0.1 20 (by decide)]; exact lx, ast_n hr (by decide)]
  have fu : fU hx (up (up (up hx 1 2 (hx.1 1 2 + 1)) 23 r (nI k)) 24 r (nI ℓ)) := (fx0.L ℓ).U.tr ((fU.up (by omega)).tr (fU.up (by omega)))
  have tx1 : TcX T n0 (p + 1) (up (up (up hx 1 2 (hx.1 1 2 + 1)) 23 r (nI k)) 24 r (nI ℓ)) := ⟨tx0.1, by rw [up_n (by decide), up_n (by decide)]; exact tx0.2.1, by rw [up_n (by decide), up_n (by decide)]; exact tx0.2.2.1, fun i hi => by rw [up_n (by decide), up_n (by decide)]; exact tx0.2.2.2 i hi⟩
  have ck : ∀ j, j ≠ 1 → j ≠ 23 → j ≠ 24 → (up (up (up hx 1 2 (hx.1 1 2 + 1)) 23 r (nI k)) 24 r (nI ℓ)).1 j = hx.1 j := fun j j1 j2 j3 => by rw [up_n j3, up_n j2, up_n j1]
  have c23 : ∀ i, (up (up (up hx 1 2 (hx.1 1 2 + 1)) 23 r (nI k)) 24 r (nI ℓ)).1 23 i = if i = r then nI k else hx.1 23 i := fun i => by
    rw [up_n (by decide), up_at, up_n (by decide)]; by_cases z : i = r
    · rw [if_pos ⟨rfl, z⟩, if_pos z]
    · rw [if_neg (fun y => z y.2), if_neg z]
  have c24 : ∀ i, (up (up (up hx 1 2 (hx.1 1 2 + 1)) 23 r (nI k)) 24 r (nI ℓ)).1 24 i = if i = r then nI ℓ else hx.1 24 i := fun i => by
    rw [up_at, up_n (by decide), up_n (by decide)]; by_cases z : i = r
    · rw [if_pos ⟨rfl, z⟩, if_pos z]
    · rw [if_neg (fun y => z y.2), if_neg z]
  generalize up (up (up hx 1 2 (hx.1 1 2 + 1)) 23 r (nI k)) 24 r (nI ℓ) = hx1 at *
  -- the reference
  rw [h18, if_pos ne16, ast_n hr (by decide), lt_e]
  have tm0 : TcM T n0 p (up hm 11 r (nI k)) := ⟨by rw [up_n (by decide)]; exact tm.1, by rw [up_n (by decide)]; exact tm.2.1, fun i hi => by rw [up_n (by decide)]; exact tm.2.2 i hi⟩
  have tm1 := tm0.mv
  have g1 : gP (up hm 11 r (nI k)) (up (up hm 11 r (nI k)) 0 11 ((up hm 11 r (nI k)).1 0 11 + 1)) := gP.up (Or.inl rfl)
  have g11 : ∀ j, j ≠ 0 → j ≠ 11 → (up (up hm 11 r (nI k)) 0 11 ((up hm 11 r (nI k)).1 0 11 + 1)).1 j = hm.1 j := fun j j1 j2 => by rw [up_n j1, up_n j2]
  have g110 : ∀ j, j ≠ 11 → (up (up hm 11 r (nI k)) 0 11 ((up hm 11 r (nI k)).1 0 11 + 1)).1 0 j = hm.1 0 j := fun j j1 => by rw [up_at, if_neg (fun z => j1 z.2), up_n (by decide)]
  have e11 : ∀ i, (up (up hm 11 r (nI k)) 0 11 ((up hm 11 r (nI k)).1 0 11 + 1)).1 11 i = if i = r then nI k else hm.1 11 i := fun i => by
    rw [up_n (by decide), up_at]; by_cases z : i = r
    · rw [if_pos ⟨rfl, z⟩, if_pos z]
    · rw [if_neg (fun y => z y.2), if_neg z]
  have gu1 : gE hm (up (up hm 11 r (nI k)) 0 11 ((up hm 11 r (nI k)).1 0 11 + 1)) := (gE.up (by omega)).tr (gE.up (by omega))
  generalize up (up hm 11 r (nI k)) 0 11 ((up hm 11 r (nI k)).1 0 11 + 1) = hm1 at *
  rw [g110 18 (by decide), h18, g110 16 (by decide), lm, ast_n hr (by decide), lt_e, lt_e]
  have tm2 : TcM T n0 (p + 1) (up (up (up hm1 12 r (nI ℓ)) 0 15 0) 0 17 0) := ⟨by rw [up_at, if_neg (by decide), up_at, if_neg (by decide), up_n (by decide)]; exact tm1.1, by rw [up_at, if_neg (by decide), up_at, if_neg (by decide), up_n (by decide)]; exact tm1.2.1, fun i hi => by rw [up_n (by decide), up_n (by decide), up_n (by decide)]; exact tm1.2.2 i hi⟩
  have mk : ∀ j, j ≠ 0 → j ≠ 11 → j ≠ 12 → (up (up (up hm1 12 r (nI ℓ)) 0 15 0) 0 17 0).1 j = hm.1 j := fun j j1 j2 j3 => by rw [up_n j1, up_n j1, up_n j3, g11 j j1 j2]
  have mk0 : ∀ j, j ≠ 11 → j ≠ 15 → j ≠ 17 → (up (up (up hm1 12 r (nI ℓ)) 0 15 0) 0 17 0).1 0 j = hm.1 0 j := fun j j1 j2 j3 => by rw [up_at, if_neg (fun z => j3 z.2), up_at, if_neg (fun z => j2 z.2), up_n (by decide), g110 j j1]
  have f11 : ∀ i, (up (up (up hm1 12 r (nI ℓ)) 0 15 0) 0 17 0).1 11 i = if i = r then nI k else hm.1 11 i := fun i => by rw [up_n (by decide), up_n (by decide), up_n (by decide)]; exact e11 i
  have f12 : ∀ i, (up (up (up hm1 12 r (nI ℓ)) 0 15 0) 0 17 0).1 12 i = if i = r then nI ℓ else hm.1 12 i := fun i => by
    rw [up_n (by decide), up_n (by decide), up_at]; by_cases z : i = r
    · rw [if_pos ⟨rfl, z⟩, if_pos z]
    · rw [if_neg (fun y => z y.2), if_neg z, g11 12 (by decide) (by decide)]
  have gu2 : gE hm (up (up (up hm1 12 r (nI ℓ)) 0 15 0) 0 17 0) := gu1.tr ((gE.up (by omega)).tr ((gE.up (by omega)).tr (gE.up (by omega))))
  have o15 : (up (up (up hm1 12 r (nI ℓ)) 0 15 0) 0 17 0).1 0 15 = nI 0 := by rw [up_at, if_neg (by decide), up_at, if_pos ⟨rfl, rfl⟩]; rfl
  have w0 : WS [] (up (up (up hm1 12 r (nI ℓ)) 0 15 0) 0 17 0) := ⟨by rw [up_at, if_pos ⟨rfl, rfl⟩]; rfl, trivial, (fun e he => by cases he), by decide⟩
  generalize up (up (up hm1 12 r (nI ℓ)) 0 15 0) 0 17 0 = hm2 at *
  have lx1 : hx1.1 20 6 = nI ℓ := by rw [ck 20 (by decide) (by decide) (by decide)]; exact lx
  have lm2 : hm2.1 0 16 = nI ℓ := by rw [mk0 16 (by decide) (by decide) (by decide)]; exact lm
  have m18 : hm2.1 0 18 = nI r := by rw [mk0 18 (by decide) (by decide) (by decide)]; exact h18
  -- behind the sum, both
  have fin : ∀ q ℓ1 x1 m1 E0 DX DM, TcX T n0 q x1 → TcM T n0 q m1 → x1.1 20 6 = nI ℓ1 → m1.1 0 16 = nI ℓ1 → p < q → ℓ1 ≤ q → fL ℓ hx1 x1 → gL ℓ hm2 m1 → ℓ ≤ ℓ1 → CXh 21 22 DX ℓ ℓ1 x1 → CMh 9 DM ℓ ℓ1 m1 → (k ≠ 120 → sg DX ℓ ℓ1 E0 ∧ sg DM ℓ ℓ1 E0) → (∃ p' ℓ' hx' hm' DX DM, xX2_readFrom_111 N K (nI r) x1 = rT N K r hx' ∧ xX11_readsRule_110 N m1 = some (1, hm') ∧ TcX T n0 p' hx' ∧ TcM T n0 p' hm' ∧ hx'.1 20 6 = nI ℓ' ∧ hm'.1 0 16 = nI ℓ' ∧ hx'.1 20 7 = nI (r + 1) ∧ hm'.1 0 18 = nI (r + 1) ∧ ℓ' ≤ p' ∧ fU hx hx' ∧ gE hm hm' ∧ RI (r + 1) ℓ' DX DM hx' hm') ∨ (∃ hx' hm', xX2_readFrom_111 N K (nI r) x1 = some (0, hx') ∧ xX11_readsRule_110 N m1 = some (0, hm') ∧ hx'.1 1 4 = hm'.1 0 13 ∧ fU hx hx' ∧ gE hm hm') := by
    intro q ℓ1 x1 m1 E0 DX DM t1 t2 l1 l2 hq hl1 fX gX hll d1 d2 ds
    rcases rule_b (N := N) (K := K) hN tp t1 t2 l1 l2 (by rw [gX.2.1 18 (by omega)]; exact m18) hr (by omega) hl1 with ⟨p', ℓ', x', m', E, a1, a2, a3, a4, a5, a6, a7, a8, a9, a10, a11, a12, a13, a14, a15, ⟨a16, a17, a18, a19⟩, a20, ⟨a21, a22, a23, a24⟩, FX', FM', a25, a26, a27, a28⟩ | ⟨x', m', a1, a2, a3, a4, a5⟩
    · refine Or.inl ⟨p', ℓ', x', m', glu ℓ CX (glu ℓ1 DX FX'), glu ℓ CM (glu ℓ1 DM FM'), a1, a2, a3, a4, a5, a6, a7, a8, a10, fu.tr (fX.U.tr a13), gu2.tr (gX.E.tr a14), ?_, ?_, fun i hi => ?_⟩
      · intro j j1 j2
        by_cases z : j < ℓ
        · rw [glu_l z, (a15 j (by omega)).1, (a15 j (by omega)).2.1, (fX.2.2.2 j z).1, (fX.2.2.2 j z).2, ck 21 (by decide) (by decide) (by decide), ck 22 (by decide) (by decide) (by decide)]
          exact r1 j j1 z
        · rw [glu_r (by omega)]
          by_cases y : j < ℓ1
          · rw [glu_l y, (a15 j y).1, (a15 j y).2.1]; exact d1 j (by omega) y
          · rw [glu_r (by omega)]; exact a25 j (by omega) j2
      · intro j j1 j2
        by_cases z : j < ℓ
        · rw [glu_l z, (a15 j (by omega)).2.2, gX.2.2 j z, mk 9 (by decide) (by decide) (by decide)]
          exact r2 j j1 z
        · rw [glu_r (by omega)]
          by_cases y : j < ℓ1
          · rw [glu_l y, (a15 j y).2.2]; exact d2 j (by omega) y
          · rw [glu_r (by omega)]; exact a26 j (by omega) j2
      · have k23 : x'.1 23 = hx1.1 23 := by rw [a16, fX.1 23 (by decide) (by decide) (by decide) (by decide)]
        have k24 : x'.1 24 = hx1.1 24 := by rw [a17, fX.1 24 (by decide) (by decide) (by decide) (by decide)]
        have k11 : m'.1 11 = hm2.1 11 := by rw [a18, gX.1 11 (by decide) (by decide) (by decide)]
        have k12 : m'.1 12 = hm2.1 12 := by rw [a19, gX.1 12 (by decide) (by decide) (by decide)]
        by_cases z : i = r
        · subst z
          refine ⟨k, ℓ, ℓ1, ℓ', E0, E, Nat.le_refl _, ⟨k256, hll, fun y => ⟨(ds y).1.ext (fun j j1 j2 => by rw [glu_r j1, glu_l j2]), (ds y).2.ext (fun j j1 j2 => by rw [glu_r j1, glu_l j2])⟩, a27.ext (fun j j1 j2 => by rw [glu_r (by omega), glu_r j1]), a28.ext (fun j j1 j2 => by rw [glu_r (by omega), glu_r j1]), a12⟩, ⟨by rw [k23, c23, if_pos rfl], by rw [k24, c24, if_pos rfl], a21, a22⟩, by rw [k11, f11, if_pos rfl], by rw [k12, f12, if_pos rfl], a23, a24⟩
        · obtain ⟨k', a', b', c', E0', E1', g1, g2, ⟨g3, g4, g5, g6⟩, g7, g8, g9, g10⟩ := r3 i (by omega)
          obtain ⟨v1, v2, v3, v4⟩ := a20 i z
          refine ⟨k', a', b', c', E0', E1', by omega, g2.ext g1 (fun j hj => glu_l hj) (fun j hj => glu_l hj), ⟨by rw [k23, c23, if_neg z]; exact g3, by rw [k24, c24, if_neg z]; exact g4, by rw [v1, fX.1 25 (by decide) (by decide) (by decide) (by decide), ck 25 (by decide) (by decide) (by decide)]; exact g5, by rw [v2, fX.1 26 (by decide) (by decide) (by decide) (by decide), ck 26 (by decide) (by decide) (by decide)]; exact g6⟩, by rw [k11, f11, if_neg z]; exact g7, by rw [k12, f12, if_neg z]; exact g8, by rw [v3, gX.1 13 (by decide) (by decide) (by decide), mk 13 (by decide) (by decide) (by decide)]; exact g9, by rw [v4, gX.1 14 (by decide) (by decide) (by decide), mk 14 (by decide) (by decide) (by decide)]; exact g10⟩
    · exact Or.inr ⟨x', m', a1, a2, a3, fu.tr (fX.U.tr a4), gu2.tr (gX.E.tr a5)⟩
  by_cases z : k = 120
  · subst z
    rw [if_pos (show nI 120 = 120 from rfl), if_pos (show nI 120 = 120 from rfl)]
    exact fin (p + 1) ℓ hx1 hm2 (fun _ => none) (fun _ => (0, 0)) (fun _ => (0, 0)) tx1 tm2 lx1 lm2 (by omega) (by omega) (fL.rf _ _) (gL.rf _ _) (Nat.le_refl _) (fun j j1 j2 => by omega) (fun j j1 j2 => by omega) (fun y => absurd rfl y)
  · have zi : ¬ nI k = 120 := i_ne (b := 120) (by omega) (by decide) z
    rw [if_neg zi, if_neg zi]
    have ps : PS T n0 (p + 1) ℓ 0 [] hx1 hm2 := ⟨tx1, tm2, lx1, lm2, o15, w0, by decide, Nat.zero_le _⟩
    rcases sumAl (N := N) (dp := 60) hN tp (by decide) ps (fun e W' he => by cases he) (by omega) (by omega) with ⟨q, ℓ1, x1, m1, E0, a1, a2, ⟨b1, b2', b3, b4, b5, DX, DM, b6, b7, b8, b9⟩⟩ | ⟨x', m', a1, a2, a3, a4, a5⟩
    · rw [show xr_X2_readSum N 60 0 hx1 = _ from a1, a2, cl_s, cl_s, if_pos (show (1 : Int32) ≠ 0 from by decide), if_pos (show (1 : Int32) ≠ 0 from by decide)]
      exact fin q ℓ1 x1 m1 E0 DX DM b1.1 b1.2.1 b1.2.2.1 b1.2.2.2.1 (by omega) (by omega) b4 b5 b8.1 b6 b7 (fun _ => ⟨b8, b9⟩)
    · rw [show xr_X2_readSum N 60 0 hx1 = _ from a1, a2, cl_s, cl_s, if_neg (show ¬ (0 : Int32) ≠ 0 from by decide), if_neg (show ¬ (0 : Int32) ≠ 0 from by decide), zok_0, zok_0]
      exact Or.inr ⟨x', m', rfl, rfl, a3, fu.tr a4.U, gu2.tr a5.E⟩
theorem law31_0 {k : Nat} (hk : 1 ≤ k) (h : HP) : xX11_law_31 N k 0 h = xX11_law_71 N 0 h := by
  obtain ⟨k, rfl⟩ : ∃ j, k = j + 1 := ⟨k - 1, by omega⟩
  rw [xX11_law_31]
  dsimp only
  rw [if_pos rfl]
theorem lfrom_l (hN : 300 ≤ N) (tp : TP T n0) : ∀ k n1 n2 r p ℓ CX CM hx hm, 16 - r < k → r ≤ 16 → k ≤ n1 → k < n2 → TcX T n0 p hx → TcM T n0 p hm → hx.1 20 6 = nI ℓ → hm.1 0 16 = nI ℓ → hx.1 20 7 = nI r → hm.1 0 18 = nI r → ℓ ≤ p → RI r ℓ CX CM hx hm → ∃ g hx' hm' g1 hm1, xX2_readFrom_12 N n1 (nI r) hx = some (g, hx') ∧ xX11_readsRule N hm = some (g1, hm1) ∧ (g1 = 0 ∨ g1 = 1) ∧ xX11_law_31 N n2 g1 hm1 = xX11_law_71 N g hm' ∧ fU hx hx' ∧ gE hm hm' ∧ ((g = 1 ∧ ∃ r' ℓ' DX DM, r' ≤ 16 ∧ ℓ' ≤ 240 ∧ hx'.1 20 6 = nI ℓ' ∧ hm'.1 0 16 = nI ℓ' ∧ hx'.1 20 7 = nI r' ∧ hm'.1 0 18 = nI r' ∧ RI r' ℓ' DX DM hx' hm') ∨ (g = 0 ∧ hx'.1 1 4 = hm'.1 0 13)) := by
  have hn0 := tp.1
  intro k
  induction k with
  | zero => intro n1 n2 r p ℓ CX CM hx hm h; omega
  | succ k ih =>
    intro n1 n2 r p ℓ CX CM hx hm hk hr h1 h2 tx tm lx lm h7 h18 hl ri
    obtain ⟨n1, rfl⟩ : ∃ j, n1 = j + 1 := ⟨n1 - 1, by omega⟩
    have pn := tx.1
    by_cases e : pk T n0 p = 114 ∨ pk T n0 p = 111 ∨ pk T n0 p = 120
    · obtain ⟨kk, hkk, ekk⟩ : ∃ kk, (kk = 114 ∨ kk = 111 ∨ kk = 120) ∧ pk T n0 p = nI kk := by
        rcases e with z | z | z
        · exact ⟨114, Or.inl rfl, z⟩
        · exact ⟨111, Or.inr (Or.inl rfl), z⟩
        · exact ⟨120, Or.inr (Or.inr rfl), z⟩
      have pl := (pk_is tp (by omega) ekk).1
      have eX : xX2_readFrom_12 N (n1 + 1) (nI r) hx = xX2_readFrom_51 N (xX2_readFrom_12 N n1) (nI r) (nI kk) hx := by
        rw [xX2_readFrom_12]
        dsimp only
        rw [if_neg (by rw [l16, lt_nn (by decide) (by omega)]; omega), peek_e tp tx, cl_s, ekk]
        rcases hkk with rfl | rfl | rfl
        · rw [if_pos (by decide)]
        · rw [if_neg (by decide), if_pos (by decide)]
        · rw [if_neg (by decide), if_neg (by decide), if_pos (by decide)]
      have eM : xX11_readsRule N hm = xX11_readsRule_33 N (nI kk) hm := by
        unfold xX11_readsRule
        rw [here_e tp pn tm, cl_s, ekk]
        rcases hkk with rfl | rfl | rfl
        · rw [if_pos (by decide)]
        · rw [if_neg (by decide), if_pos (by decide)]
        · rw [if_neg (by decide), if_neg (by decide), if_pos (by decide)]
      rw [eX, eM]
      by_cases q : r = 16
      · have eM2 : xX11_readsRule_33 N (nI kk) hm = some (0, up hm 0 13 ((-1000) * 4 - nI p)) := by
          unfold xX11_readsRule_33
          rw [h18, q, if_neg (fun z => z rfl), wro_e, cl_s, zok_0, tm.1]
        have eX2 : xX2_readFrom_51 N (xX2_readFrom_12 N n1) (nI r) (nI kk) hx = some (0, up hx 1 4 ((-1000) * 4 - nI p)) := by
          unfold xX2_readFrom_51
          rw [q, if_neg (fun z => z rfl), ref_e, cl_s, zok_0, tx.2.1]
        exact ⟨0, _, _, 0, _, eX2, eM2, Or.inl rfl, law31_0 (by omega) _, ((fP.up (Or.inr rfl)).L 0).U, ((gP.up (Or.inr (Or.inl rfl))).L 0).E, Or.inr ⟨rfl, by rw [up_at, if_pos ⟨rfl, rfl⟩, up_at, if_pos ⟨rfl, rfl⟩]⟩⟩
      · rcases rule_e (N := N) (K := xX2_readFrom_12 N n1) hN tp tx tm lx lm h18 (by omega) hl pl hkk ri with ⟨p', ℓ', x', m', DX, DM, a1, a2, a3, a4, a5, a6, a7, a8, a9, a10, a11, a12⟩ | ⟨x', m', a1, a2, a3, a4, a5⟩
        · have pn' := a3.1
          obtain ⟨n2, rfl⟩ : ∃ j, n2 = j + 1 := ⟨n2 - 1, by omega⟩
          rw [a1, a2]
          unfold rT
          rw [atEnd_e tp a3, cl_s]
          by_cases z : n0 ≤ p'
          · rw [decide_eq_true z, b2_t, if_neg (show ¬ (1 : Int32) = 0 from by decide), zok_1]
            refine ⟨1, x', m', 1, m', rfl, rfl, Or.inr rfl, ?_, a10, a11, Or.inl ⟨rfl, r + 1, ℓ', DX, DM, by omega, by omega, a5, a6, a7, a8, a12⟩⟩
            rw [xX11_law_31]
            dsimp only
            rw [if_neg (show ¬ (1 : Int32) = 0 from by decide), a4.1, a4.2.1, if_pos (by rw [le_nn (by omega) (by omega)]; omega)]
          · rw [decide_eq_false z, b2_f, if_pos (show (0 : Int32) = 0 from rfl)]
            by_cases y : pk T n0 p' = 59
            · have fx : fP x' (up x' 1 2 (x'.1 1 2 + 1)) := fP.up (Or.inl rfl)
              have gm : gP m' (up m' 0 11 (m'.1 0 11 + 1)) := gP.up (Or.inl rfl)
              rw [dem_t tp a3 y, cl_s, if_pos (show (1 : Int32) ≠ 0 from by decide), lt_e]
              obtain ⟨s1, s2, s3⟩ := a12
              obtain ⟨g, x2, m2, g1, m1, b1, b2', b3, b4, b5, b6, b7⟩ := ih n1 n2 (r + 1) (p' + 1) ℓ' DX DM _ _ (by omega) (by omega) (by omega) (by omega) (a3.mv (by omega)) a4.mv (by rw [fx.1 20 (by decide)]; exact a5) (by rw [gm.2 16 (by decide) (by decide) (by decide)]; exact a6) (by rw [fx.1 20 (by decide)]; exact a7) (by rw [gm.2 18 (by decide) (by decide) (by decide)]; exact a8) (by omega) ⟨s1.fr (fx.L ℓ') (Nat.le_refl _), s2.fr (gm.L ℓ') (Nat.le_refl _), fun i hi => by rw [fx.1 23 (by decide), fx.1 24 (by decide), fx.1 25 (by decide), fx.1 26 (by decide), gm.1 11 (by decide), gm.1 12 (by decide), gm.1 13 (by decide), gm.1 14 (by decide)]; exact s3 i hi⟩
              refine ⟨g, x2, m2, 1, m', b1, rfl, Or.inr rfl, ?_, a10.tr ((fx.L 0).U.tr b5), a11.tr ((gm.L 0).E.tr b6), b7⟩
              rw [xX11_law_31]
              dsimp only
              rw [if_neg (show ¬ (1 : Int32) = 0 from by decide), a4.1, a4.2.1, if_neg (by rw [le_nn (by omega) (by omega)]; omega), mta_t tp pn' a4 y, cl_s, if_neg (show ¬ (1 : Int32) = 0 from by decide), b2', cl_s]
              unfold xX11_law_66 xX11_law_67
              rcases b3 with rfl | rfl
              · rw [if_pos rfl]; exact b4
              · rw [if_neg (show ¬ (1 : Int32) = 0 from by decide)]; exact b4
            · rw [dem_f tp a3 y, cl_s, if_neg (show ¬ (0 : Int32) ≠ 0 from by decide), zok_0]
              refine ⟨0, _, up m' 0 13 ((-1000) * 1 - nI p'), 1, m', rfl, rfl, Or.inr rfl, ?_, a10.tr ((fP.up (Or.inr rfl)).L 0).U, a11.tr ((gP.up (Or.inr (Or.inl rfl))).L 0).E, Or.inr ⟨rfl, by rw [up_at, if_pos ⟨rfl, rfl⟩, up_at, if_pos ⟨rfl, rfl⟩]⟩⟩
              rw [xX11_law_31]
              dsimp only
              rw [if_neg (show ¬ (1 : Int32) = 0 from by decide), a4.1, a4.2.1, if_neg (by rw [le_nn (by omega) (by omega)]; omega), mta_f tp pn' a4 y, cl_s, if_pos rfl]
              unfold xX11_law_66 xX11_law_67
              exact law31_0 (by omega) _
        · exact ⟨0, x', m', 0, m', a1, a2, Or.inl rfl, law31_0 (by omega) _, a4, a5, Or.inr ⟨rfl, a3⟩⟩
    · have q1 : pk T n0 p ≠ 114 := fun z => e (Or.inl z)
      have q2 : pk T n0 p ≠ 111 := fun z => e (Or.inr (Or.inl z))
      have q3 : pk T n0 p ≠ 120 := fun z => e (Or.inr (Or.inr z))
      have eM2 : xX11_readsRule N hm = some (0, up hm 0 13 ((-1000) * 1 - nI p)) := by
        unfold xX11_readsRule
        rw [here_e tp pn tm, cl_s, if_neg q1, if_neg q2, if_neg q3, wro_e, cl_s, zok_0, tm.1]
      have eX2 : xX2_readFrom_12 N (n1 + 1) (nI r) hx = some (0, up hx 1 4 ((-1000) * 1 - nI p)) := by
        rw [xX2_readFrom_12]
        dsimp only
        rw [if_neg (by rw [l16, lt_nn (by decide) (by omega)]; omega), peek_e tp tx, cl_s, if_neg q1, if_neg q2, if_neg q3, ref_e, cl_s, zok_0, tx.2.1]
      exact ⟨0, _, _, 0, _, eX2, eM2, Or.inl rfl, law31_0 (by omega) _, ((fP.up (Or.inr rfl)).L 0).U, ((gP.up (Or.inr (Or.inl rfl))).L 0).E, Or.inr ⟨rfl, by rw [up_at, if_pos ⟨rfl, rfl⟩, up_at, if_pos ⟨rfl, rfl⟩]⟩⟩
end LAWQ
