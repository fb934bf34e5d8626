section TWL
variable {T : Nat → Nat} {n p : Nat} {hx hm : HP} {N : Nat} {B : AS}
theorem tak_t {h : HP} {s : Int32} (tp : TP T n) (t : TcX T n p h) (e : pk T n p = s) : xX7_takes s h = some (1, up h 1 2 (h.1 1 2 + 1)) := by
  unfold xX7_takes; rw [peek_e tp t, cl_s, if_pos e, lt_e, zok_1]
theorem tak_f {h : HP} {s : Int32} (tp : TP T n) (t : TcX T n p h) (e : pk T n p ≠ s) : xX7_takes s h = some (0, h) := by
  unfold xX7_takes; rw [peek_e tp t, cl_s, if_neg e, zok_0]
theorem dem_t {h : HP} {s : Int32} (tp : TP T n) (t : TcX T n p h) (e : pk T n p = s) : xX7_demands s h = some (1, up h 1 2 (h.1 1 2 + 1)) := by
  unfold xX7_demands; rw [peek_e tp t, cl_s, if_pos e, lt_e, zok_1]
theorem dem_f {h : HP} {s : Int32} (tp : TP T n) (t : TcX T n p h) (e : pk T n p ≠ s) : xX7_demands s h = some (0, up h 1 4 ((-1000) * 1 - nI p)) := by
  unfold xX7_demands; rw [peek_e tp t, cl_s, if_neg e, ref_e, cl_s, zok_0, t.2.1]
theorem mta_t {h : HP} {s : Int32} (tp : TP T n) (hp : p ≤ n) (t : TcM T n p h) (e : pk T n p = s) : xX11_takes s h = some (1, up h 0 11 (h.1 0 11 + 1)) := by
  unfold xX11_takes; rw [here_e tp hp t, cl_s, if_pos e, lt_e, zok_1]
theorem mta_f {h : HP} {s : Int32} (tp : TP T n) (hp : p ≤ n) (t : TcM T n p h) (e : pk T n p ≠ s) : xX11_takes s h = some (0, up h 0 13 ((-1000) * 1 - nI p)) := by
  unfold xX11_takes; rw [here_e tp hp t, cl_s, if_neg e, wro_e, cl_s, zok_0, t.1]
theorem atEnd_e {h : HP} (tp : TP T n) (t : TcX T n p h) : xX7_isAtEnd h = some (b2 (decide (n ≤ p)), h) := by
  have := tp.1
  have := t.1
  unfold xX7_isAtEnd xX7_isAtEnd_16
  rw [t.2.1, t.2.2.1]
  by_cases q : n ≤ p
  · rw [if_neg (by rw [lt_nn (by omega) (by omega)]; omega), zok_1, decide_eq_true q]; rfl
  · rw [if_pos (by rw [lt_nn (by omega) (by omega)]; omega), zok_0, decide_eq_false q]; rfl
theorem TR.tr {G : AS → Prop} {dx dm : Option (Int32 × HP)} {hx1 hm1 : HP} (f : fT hx hx1) (g : gW hm hm1) (q : TR T n hx1 hm1 G dx dm) : TR T n hx hm G dx dm := by
  obtain ⟨r, x', m', e1, e2, e3, e4, e5⟩ := q
  exact ⟨r, x', m', e1, e2, f.tr e3, g.tr e4, e5⟩
theorem tline_l (hN : 100 ≤ N) (tp : TP T n) : ∀ k n1 n2 c i p B hx hm, 24 - B 0 1 < k → k ≤ n1 → k ≤ n2 → i ≤ B 0 1 → c < 16 → (B 0 0).testBit c = true → TcX T n p hx → TcM T n p hm → NX B hx → NM B hm → WN B → TR T n hx hm (fun _ => True) (xX6_readLine_39 N n1 (nI c) (nI i) hx) (xX11_readsTownLine_117 N n2 (nI c) hm) := by
  intro k
  induction k with
  | zero => intro n1 n2 c i p B hx hm h; omega
  | succ k ih =>
    intro n1 n2 c i p B hx hm hk h1 h2 hi hc hct tx tm nx nm wn
    obtain ⟨n1, rfl⟩ : ∃ k, n1 = k + 1 := ⟨n1 - 1, by omega⟩
    obtain ⟨n2, rfl⟩ : ∃ k, n2 = k + 1 := ⟨n2 - 1, by omega⟩
    have w2 := wn.2.1
    rw [xX6_readLine_39, xX11_readsTownLine_117]
    dsimp only
    unfold xX6_readLine_83
    rw [if_neg (by rw [l24, lt_nn (by decide) (by omega)]; omega), peek_e tp tx, here_e tp tx.1 tm, cl_s, cl_s]
    by_cases q : pk T n p = 45
    · have hp := (pk_is (v := 45) tp (by decide) q).1
      rw [if_neg (fun z => z q), if_neg (fun z => z q)]
      obtain ⟨r, x', m', e1, e2, e3, e4, ⟨rfl, p', B', f1, f2, f3, f4, f5, f6, f7, f8⟩ | ⟨rfl, e5⟩⟩ := road_e (N := N) hN tp tx tm hp nx nm wn hc hct
      · have w5 := f5.2.1
        rw [e1, e2, cl_s, cl_s, if_pos (show (1 : Int32) ≠ 0 from by decide), if_pos (show (1 : Int32) ≠ 0 from by decide), f3.2.1, f4.2.1, f6, l1, sub_nn (by omega), show B 0 1 + 1 - 1 = B 0 1 by omega, ald_n (by omega) (by decide), ald_n (by omega) (by decide), (f3.2.2.2 (B 0 1) (by omega)).2.1, (f4.2.2.2 (B 0 1) (by omega)).2.1, lt_e, add_nn]
        exact TR.tr e3 e4 (ih n1 n2 (B' 3 (B 0 1)) (i + 1) p' B' x' m' (by omega) (by omega) (by omega) (by omega) f7 f8 f1 f2 f3 f4 f5)
      · rw [e1, e2, cl_s, cl_s, if_neg (show ¬ (0 : Int32) ≠ 0 from by decide), if_neg (show ¬ (0 : Int32) ≠ 0 from by decide), zok_0, zok_0]
        exact ⟨0, x', m', rfl, rfl, e3, e4, Or.inr ⟨rfl, e5⟩⟩
    · rw [if_pos q, if_pos q, zok_1, zok_1]
      exact ⟨1, hx, hm, rfl, rfl, (fP.rf _).T, (gP.rf _).T, Or.inl ⟨rfl, p, B, tx, tm, nx, nm, wn, trivial⟩⟩
theorem tline_e (hN : 100 ≤ N) (tp : TP T n) (tx : TcX T n p hx) (tm : TcM T n p hm) (nx : NX B hx) (nm : NM B hm) (wn : WN B) {c ℓ : Nat} (hc : c < 16) (hp : p < n) (e : pk T n p = nI (97 + c)) (hl : hm.1 0 39 = nI ℓ) (l24' : ℓ < 24) : TR T n hx (up hm 0 39 (nI (ℓ + 1))) (fun _ => True) (xX6_readLine N hx) (xX11_readsTownLine N hm) := by
  have hn := tp.1
  have w1 := wn.1
  unfold xX6_readLine xX11_readsTownLine xX6_readCorner
  rw [isLet_t tp tx.1 tm hc e, cl_s, if_pos (show (1 : Int32) ≠ 0 from by decide), hl, if_pos (by rw [ne_eq, l24, eq_nn (by omega) (by decide)]; omega), nI_1, lt_e, peek_e tp tx, cl_s, lt_e, lt_e, lt_e, cl_s, e, m97 hc, shl1 (by omega), nx.1, or_nn]
  have tm0 : TcM T n p (up hm 0 39 (nI (ℓ + 1))) := ⟨by rw [up_at, if_neg (by decide)]; exact tm.1, by rw [up_at, if_neg (by decide)]; exact tm.2.1, fun i hi => by rw [up_n (by decide)]; exact tm.2.2 i hi⟩
  have nm0 : NM B (up hm 0 39 (nI (ℓ + 1))) := by
    obtain ⟨a, b, c, d⟩ := nm
    exact ⟨by rw [up_at, if_neg (by decide)]; exact a, by rw [up_at, if_neg (by decide)]; exact b, fun i hi => by rw [up_n (by decide)]; exact c i hi, fun p hp => by rw [up_n (by decide), up_n (by decide), up_n (by decide)]; exact d p hp⟩
  generalize up hm 0 39 (nI (ℓ + 1)) = hm0 at *
  rw [here_e tp tx.1 tm0, cl_s, lt_e, lt_e, lt_e, e, m97 hc, shl1 (by omega)]
  -- the class: told, then on
  have tx1 : TcX T n p (up hx 8 4 (nI (B 0 0 ||| 2 ^ c))) := ⟨tx.1, by rw [up_n (by decide)]; exact tx.2.1, by rw [up_n (by decide)]; exact tx.2.2.1, fun i hi => by rw [up_n (by decide)]; exact tx.2.2.2 i hi⟩
  have f1 : fT hx (up hx 8 4 (nI (B 0 0 ||| 2 ^ c))) := fT.up (by omega)
  have nx1 : NX (tlB B c) (up hx 8 4 (nI (B 0 0 ||| 2 ^ c))) := by
    obtain ⟨a, b, c, d⟩ := nx
    exact ⟨by rw [up_at, if_pos ⟨rfl, rfl⟩]; rfl, by rw [up_at, if_neg (by decide)]; exact b, fun i hi => by rw [up_n (by decide)]; exact c i hi, fun p hp => by rw [up_n (by decide), up_n (by decide), up_n (by decide)]; exact d p hp⟩
  generalize up hx 8 4 (nI (B 0 0 ||| 2 ^ c)) = hx1 at *
  have tx2 := tx1.mv hp
  have f2 : fP hx1 (up hx1 1 2 (hx1.1 1 2 + 1)) := fP.up (Or.inl rfl)
  generalize up hx1 1 2 (hx1.1 1 2 + 1) = hx2 at *
  have nx2 := nx1.fP f2
  have k2 := f1.tr f2.T
  -- the reference: on, then told
  have tm1 := tm0.mv
  have g1 : gP hm0 (up hm0 0 11 (hm0.1 0 11 + 1)) := gP.up (Or.inl rfl)
  generalize up hm0 0 11 (hm0.1 0 11 + 1) = hm1 at *
  have nm1 := nm0.gP g1
  rw [nm1.1, or_nn]
  have tm2 : TcM T n (p + 1) (up hm1 0 37 (nI (B 0 0 ||| 2 ^ c))) := ⟨by rw [up_at, if_neg (by decide)]; exact tm1.1, by rw [up_at, if_neg (by decide)]; exact tm1.2.1, fun i hi => by rw [up_n (by decide)]; exact tm1.2.2 i hi⟩
  have g2 : gW hm1 (up hm1 0 37 (nI (B 0 0 ||| 2 ^ c))) := gW.up (by omega)
  have nm2 : NM (tlB B c) (up hm1 0 37 (nI (B 0 0 ||| 2 ^ c))) := by
    obtain ⟨a, b, c, d⟩ := nm1
    exact ⟨by rw [up_at, if_pos ⟨rfl, rfl⟩]; rfl, by rw [up_at, if_neg (by decide)]; exact b, fun i hi => by rw [up_n (by decide)]; exact c i hi, fun p hp => by rw [up_n (by decide), up_n (by decide), up_n (by decide)]; exact d p hp⟩
  generalize up hm1 0 37 (nI (B 0 0 ||| 2 ^ c)) = hm2 at *
  have j2 := g1.T.tr g2
  have wn2 := wn.tl (d := c) hc
  have hp2 := tx2.1
  rw [here_e tp hp2 tm2, cl_s]
  by_cases q : pk T n (p + 1) = 61
  · have hp3 := (pk_is (v := 61) tp (by decide) q).1
    rw [tak_t tp tx2 q, cl_s, if_neg (show ¬ (1 : Int32) = 0 from by decide), if_neg (fun z => z q), lt_e]
    have tx3 := tx2.mv hp3
    have tm3 := tm2.mv
    have f3 : fP hx2 (up hx2 1 2 (hx2.1 1 2 + 1)) := fP.up (Or.inl rfl)
    have g3 : gP hm2 (up hm2 0 11 (hm2.1 0 11 + 1)) := gP.up (Or.inl rfl)
    generalize up hx2 1 2 (hx2.1 1 2 + 1) = hx3 at *
    generalize up hm2 0 11 (hm2.1 0 11 + 1) = hm3 at *
    have nx3 := nx2.fP f3
    have nm3 := nm2.gP g3
    rcases num_e (N := N) (D := 2) hN tp (by decide) (by decide) tx3 tm3 with ⟨v, p', x', m', e1, e2, e3, e4, e5, e6, e7, e8, e9⟩ | ⟨x', m', e1, e2, e3, e4, e5⟩
    · have hv : v < 100 := e3
      have nx4 := nx3.fP e8
      have nm4 := nm3.gP e9
      rw [show xX7_readNumber N 2 hx3 = _ from e1, show xX11_readsAmount N 2 hm3 = _ from e2, cl_s, cl_s, if_pos (nn_m1 (by omega)), if_pos (show (1 : Int32) ≠ 0 from by decide), e7, ast_n hc (by decide), ast_n hc (by decide), zok_1, zok_1]
      refine ⟨1, _, _, rfl, rfl, (k2.tr (f3.T.tr e8.T)).tr (fT.up (by omega)), (j2.tr (g3.T.tr e9.T)).tr (gW.up (by omega)), Or.inl ⟨rfl, p', hgB (tlB B c) c v, ?_, ?_, ?_, ?_, wn2.hg (by omega), trivial⟩⟩
      · exact ⟨e5.1, by rw [up_n (by decide)]; exact e5.2.1, by rw [up_n (by decide)]; exact e5.2.2.1, fun i hi => by rw [up_n (by decide)]; exact e5.2.2.2 i hi⟩
      · exact ⟨by rw [up_n (by decide)]; exact e6.1, by rw [up_n (by decide)]; exact e6.2.1, fun i hi => by rw [up_n (by decide)]; exact e6.2.2 i hi⟩
      · obtain ⟨a, b, cc, d⟩ := nx4
        refine ⟨by rw [up_n (by decide)]; exact a, by rw [up_n (by decide)]; exact b, fun i hi => ?_, fun p hp => by rw [up_n (by decide), up_n (by decide), up_n (by decide)]; exact d p hp⟩
        rw [up_at]
        show _ = nI (if i = c then v else tlB B c 1 i)
        by_cases z : i = c
        · rw [if_pos ⟨rfl, z⟩, if_pos z]
        · rw [if_neg (fun y => z y.2), if_neg z]; exact cc i hi
      · obtain ⟨a, b, cc, d⟩ := nm4
        refine ⟨by rw [up_n (by decide)]; exact a, by rw [up_n (by decide)]; exact b, fun i hi => ?_, fun p hp => by rw [up_n (by decide), up_n (by decide), up_n (by decide)]; exact d p hp⟩
        rw [up_at]
        show _ = nI (if i = c then v else tlB B c 1 i)
        by_cases z : i = c
        · rw [if_pos ⟨rfl, z⟩, if_pos z]
        · rw [if_neg (fun y => z y.2), if_neg z]; exact cc i hi
    · rw [show xX7_readNumber N 2 hx3 = _ from e1, show xX11_readsAmount N 2 hm3 = _ from e2, cl_s, cl_s, if_neg (show ¬ (-1 : Int32) ≠ -1 from by decide), if_neg (show ¬ (0 : Int32) ≠ 0 from by decide), zok_0, zok_0]
      exact ⟨0, _, _, rfl, rfl, k2.tr (f3.T.tr e4.T), j2.tr (g3.T.tr e5.T), Or.inr ⟨rfl, e3⟩⟩
  · rw [tak_f tp tx2 q, cl_s, if_pos rfl, if_pos q]
    have := tline_l (N := N) hN tp N N N c 0 (p + 1) (tlB B c) hx2 hm2 (by omega) (Nat.le_refl _) (Nat.le_refl _) (Nat.zero_le _) hc (by show (B 0 0 ||| 2 ^ c).testBit c = true; rw [or2_tb]; simp) tx2 tm2 nx2 nm2 wn2
    exact TR.tr k2 j2 this
def gU (h h' : HP) : Prop := (∀ k, k ≠ 0 → (k < 22 ∨ 25 < k) → h'.1 k = h.1 k) ∧ ∀ j, j ≠ 11 → j ≠ 13 → j ≠ 14 → j ≠ 37 → j ≠ 38 → j ≠ 39 → h'.1 0 j = h.1 0 j
theorem gU.tr {h h1 h2 : HP} (a : gU h h1) (b : gU h1 h2) : gU h h2 := ⟨fun k q1 q2 => (b.1 k q1 q2).trans (a.1 k q1 q2), fun j q1 q2 q3 q4 q5 q6 => (b.2 j q1 q2 q3 q4 q5 q6).trans (a.2 j q1 q2 q3 q4 q5 q6)⟩
theorem gW.U {h h' : HP} (q : gW h h') : gU h h' := ⟨q.1, fun j q1 q2 q3 q4 q5 _ => q.2 j q1 q2 q3 q4 q5⟩
theorem gU.up39 {h : HP} {v : Int32} : gU h (up h 0 39 v) := ⟨fun k q _ => up_n q, fun j _ _ _ _ _ q => by rw [up_at, if_neg (fun z => q z.2)]⟩
theorem town67_0 {k : Nat} (hk : 1 ≤ k) (h : HP) : xX11_town_67 N k 0 h = xX11_town_107 N 0 h := by
  obtain ⟨k, rfl⟩ : ∃ j, k = j + 1 := ⟨k - 1, by omega⟩
  rw [xX11_town_67]
  dsimp only
  rw [if_pos rfl]
theorem tfrom_l (hN : 100 ≤ N) (tp : TP T n) : ∀ k n1 n2 ℓ p B hx hm, 24 - ℓ < k → ℓ ≤ 24 → k ≤ n1 → k < n2 → TcX T n p hx → TcM T n p hm → NX B hx → NM B hm → WN B → hm.1 0 39 = nI ℓ → ∃ r hx' hm' r1 hm1, xX6_readFrom_20 N n1 (nI ℓ) hx = some (r, hx') ∧ xX11_readsTownLine N hm = some (r1, hm1) ∧ (r1 = 0 ∨ r1 = 1) ∧ xX11_town_67 N n2 r1 hm1 = xX11_town_107 N r hm' ∧ fT hx hx' ∧ gU hm hm' ∧ ((r = 1 ∧ ∃ B', NX B' hx' ∧ NM B' hm' ∧ WN B') ∨ (r = 0 ∧ hx'.1 1 4 = hm'.1 0 13)) := by
  intro k
  induction k with
  | zero => intro n1 n2 ℓ p B hx hm h; omega
  | succ k ih =>
    intro n1 n2 ℓ p B hx hm hk hl h1 h2 tx tm nx nm wn h39
    obtain ⟨n1, rfl⟩ : ∃ k, n1 = k + 1 := ⟨n1 - 1, by omega⟩
    have hn := tp.1
    have hp := tx.1
    rw [xX6_readFrom_20]
    dsimp only
    rw [if_neg (by rw [l24, lt_nn (by decide) (by omega)]; omega)]
    rcases lt_c (p := p) tp with ⟨c, c16, cn, e⟩ | ⟨e1, e2⟩
    · rw [atCor_t tp tx c16 e, cl_s, if_pos (show (1 : Int32) ≠ 0 from by decide)]
      by_cases q : ℓ = 24
      · rw [if_neg (by rw [q]; simp [l24]), ref_e, cl_s, zok_0]
        refine ⟨0, _, up hm 0 13 ((-1000) * 4 - nI p), 0, up hm 0 13 ((-1000) * 4 - nI p), rfl, ?_, Or.inl rfl, town67_0 (by omega) _, (fP.up (Or.inr rfl)).T, (gP.up (Or.inr (Or.inl rfl))).T.U, Or.inr ⟨rfl, by rw [up_at, if_pos ⟨rfl, rfl⟩, up_at, if_pos ⟨rfl, rfl⟩, tx.2.1]⟩⟩
        unfold xX11_readsTownLine
        rw [isLet_t tp hp tm c16 e, cl_s, if_pos (show (1 : Int32) ≠ 0 from by decide), h39, if_neg (by rw [q]; simp [l24]), wro_e, cl_s, zok_0, tm.1]
      · rw [if_pos (by rw [ne_eq, l24, eq_nn (by omega) (by decide)]; exact q)]
        obtain ⟨r, x', m', e1, e2, e3, e4, ⟨rfl, p', B', f1, f2, f3, f4, f5, -⟩ | ⟨rfl, e5⟩⟩ := tline_e (N := N) hN tp tx tm nx nm wn c16 cn e h39 (by omega)
        · have gg : gU hm m' := gU.up39.tr e4.U
          rw [e1, cl_s, if_pos (show (1 : Int32) ≠ 0 from by decide), atEnd_e tp f1, cl_s]
          obtain ⟨n2, rfl⟩ : ∃ k, n2 = k + 1 := ⟨n2 - 1, by omega⟩
          have hp' := f1.1
          by_cases z : n ≤ p'
          · rw [decide_eq_true z, b2_t, if_neg (show ¬ (1 : Int32) = 0 from by decide), zok_1]
            refine ⟨1, x', m', 1, m', rfl, e2, Or.inr rfl, ?_, e3, gg, Or.inl ⟨rfl, B', f3, f4, f5⟩⟩
            rw [xX11_town_67]
            dsimp only
            rw [if_neg (show ¬ (1 : Int32) = 0 from by decide), f2.1, f2.2.1, if_pos (by rw [le_nn (by omega) (by omega)]; omega)]
          · rw [decide_eq_false z, b2_f, if_pos rfl]
            by_cases y : pk T n p' = 59
            · rw [dem_t tp f1 y, cl_s, if_pos (show (1 : Int32) ≠ 0 from by decide), lt_e, nI_1]
              obtain ⟨r, x2, m2, r1, m1, g1, g2, g3, g4, g5, g6, g7⟩ := ih n1 n2 (ℓ + 1) (p' + 1) B' _ _ (by omega) (by omega) (by omega) (by omega) (f1.mv (by omega)) f2.mv (f3.fP (fP.up (Or.inl rfl))) (f4.gP (gP.up (Or.inl rfl))) f5 (by rw [up_at, if_neg (by decide), e4.2 39 (by decide) (by decide) (by decide) (by decide) (by decide), up_at, if_pos ⟨rfl, rfl⟩])
              refine ⟨r, x2, m2, 1, m', g1, e2, Or.inr rfl, ?_, e3.tr ((fP.up (Or.inl rfl)).T.tr g5), gg.tr ((gP.up (Or.inl rfl)).T.U.tr g6), g7⟩
              rw [xX11_town_67]
              dsimp only
              rw [if_neg (show ¬ (1 : Int32) = 0 from by decide), f2.1, f2.2.1, if_neg (by rw [le_nn (by omega) (by omega)]; omega), mta_t tp hp' f2 y, cl_s, if_neg (show ¬ (1 : Int32) = 0 from by decide), g2, cl_s]
              unfold xX11_town_102 xX11_town_103
              rcases g3 with rfl | rfl
              · rw [if_pos rfl]; exact g4
              · rw [if_neg (by decide)]; exact g4
            · rw [dem_f tp f1 y, cl_s, if_neg (by simp), zok_0]
              refine ⟨0, _, up m' 0 13 ((-1000) * 1 - nI p'), 1, m', rfl, e2, Or.inr rfl, ?_, e3.tr (fP.up (Or.inr rfl)).T, gg.tr (gP.up (Or.inr (Or.inl rfl))).T.U, Or.inr ⟨rfl, by rw [up_at, if_pos ⟨rfl, rfl⟩, up_at, if_pos ⟨rfl, rfl⟩]⟩⟩
              rw [xX11_town_67]
              dsimp only
              rw [if_neg (show ¬ (1 : Int32) = 0 from by decide), f2.1, f2.2.1, if_neg (by rw [le_nn (by omega) (by omega)]; omega), mta_f tp hp' f2 y, cl_s, if_pos rfl]
              unfold xX11_town_102 xX11_town_103
              exact town67_0 (by omega) _
        · rw [e1, cl_s, if_neg (by simp), zok_0]
          exact ⟨0, x', m', 0, m', rfl, e2, Or.inl rfl, town67_0 (by omega) _, e3, gU.up39.tr e4.U, Or.inr ⟨rfl, e5⟩⟩
    · rw [atCor_f tp tx e1, cl_s, if_neg (by simp), ref_e, cl_s, zok_0]
      refine ⟨0, _, up hm 0 13 ((-1000) * 1 - nI p), 0, up hm 0 13 ((-1000) * 1 - nI p), rfl, ?_, Or.inl rfl, town67_0 (by omega) _, (fP.up (Or.inr rfl)).T, (gP.up (Or.inr (Or.inl rfl))).T.U, Or.inr ⟨rfl, by rw [up_at, if_pos ⟨rfl, rfl⟩, up_at, if_pos ⟨rfl, rfl⟩, tx.2.1]⟩⟩
      unfold xX11_readsTownLine
      rw [isLet_f tp hp tm e2, cl_s, if_neg (by simp), wro_e, cl_s, zok_0, tm.1]
end TWL
