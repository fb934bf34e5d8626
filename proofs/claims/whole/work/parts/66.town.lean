/-! ===== a town's text: what is built of it ===== -/
def NX (B : AS) (h : HP) : Prop := h.1 8 4 = nI (B 0 0) ∧ h.1 8 5 = nI (B 0 1) ∧ (∀ c, c < 16 → h.1 9 c = nI (B 1 c)) ∧ ∀ p, p < B 0 1 → h.1 10 p = nI (B 2 p) ∧ h.1 11 p = nI (B 3 p) ∧ h.1 12 p = nI (B 4 p)
def NM (B : AS) (h : HP) : Prop := h.1 0 37 = nI (B 0 0) ∧ h.1 0 38 = nI (B 0 1) ∧ (∀ c, c < 16 → h.1 22 c = nI (B 1 c)) ∧ ∀ p, p < B 0 1 → h.1 23 p = nI (B 2 p) ∧ h.1 24 p = nI (B 3 p) ∧ h.1 25 p = nI (B 4 p)
def WN (B : AS) : Prop := B 0 0 < 65536 ∧ B 0 1 ≤ 24 ∧ WFt B
def fT (h h' : HP) : Prop := (∀ k, k ≠ 1 → (k < 8 ∨ 12 < k) → h'.1 k = h.1 k) ∧ h'.1 1 1 = h.1 1 1 ∧ h'.1 1 3 = h.1 1 3
def gW (h h' : HP) : Prop := (∀ k, k ≠ 0 → (k < 22 ∨ 25 < k) → h'.1 k = h.1 k) ∧ ∀ j, j ≠ 11 → j ≠ 13 → j ≠ 14 → j ≠ 37 → j ≠ 38 → h'.1 0 j = h.1 0 j
theorem fT.tr {h h1 h2 : HP} (a : fT h h1) (b : fT h1 h2) : fT h h2 := ⟨fun k q1 q2 => (b.1 k q1 q2).trans (a.1 k q1 q2), b.2.1.trans a.2.1, b.2.2.trans a.2.2⟩
theorem gW.tr {h h1 h2 : HP} (a : gW h h1) (b : gW h1 h2) : gW h h2 := ⟨fun k q1 q2 => (b.1 k q1 q2).trans (a.1 k q1 q2), fun j q1 q2 q3 q4 q5 => (b.2 j q1 q2 q3 q4 q5).trans (a.2 j q1 q2 q3 q4 q5)⟩
theorem fP.T {h h' : HP} (q : fP h h') : fT h h' := ⟨fun k q1 _ => q.1 k q1, q.2 1 (by decide) (by decide), q.2 3 (by decide) (by decide)⟩
theorem gP.T {h h' : HP} (q : gP h h') : gW h h' := ⟨fun k q1 _ => q.1 k q1, fun j q1 q2 q3 _ _ => q.2 j q1 q2 q3⟩
theorem fT.up {h : HP} {k j : Nat} {v : Int32} (hk : 8 ≤ k ∧ k ≤ 12) : fT h (up h k j v) := ⟨fun a q1 q2 => up_n (by omega), by rw [up_n (by omega)], by rw [up_n (by omega)]⟩
theorem gW.up {h : HP} {k j : Nat} {v : Int32} (hk : (22 ≤ k ∧ k ≤ 25) ∨ (k = 0 ∧ (j = 37 ∨ j = 38))) : gW h (up h k j v) := ⟨fun a q1 q2 => up_n (by omega), fun i q1 q2 q3 q4 q5 => by rw [up_at, if_neg (by omega)]⟩
theorem NX.fP {B : AS} {h h' : HP} (t : NX B h) (q : fP h h') : NX B h' := by
  obtain ⟨a, b, c, d⟩ := t
  exact ⟨by rw [q.1 8 (by decide)]; exact a, by rw [q.1 8 (by decide)]; exact b, fun i hi => by rw [q.1 9 (by decide)]; exact c i hi, fun p hp => by rw [q.1 10 (by decide), q.1 11 (by decide), q.1 12 (by decide)]; exact d p hp⟩
theorem NM.gP {B : AS} {h h' : HP} (t : NM B h) (q : gP h h') : NM B h' := by
  obtain ⟨a, b, c, d⟩ := t
  exact ⟨by rw [q.2 37 (by decide) (by decide) (by decide)]; exact a, by rw [q.2 38 (by decide) (by decide) (by decide)]; exact b, fun i hi => by rw [q.1 22 (by decide)]; exact c i hi, fun p hp => by rw [q.1 23 (by decide), q.1 24 (by decide), q.1 25 (by decide)]; exact d p hp⟩
def rdB (B : AS) (c d v : Nat) : AS := fun a b => match a with
  | 0 => (match b with | 0 => B 0 0 ||| 2 ^ d | 1 => B 0 1 + 1 | _ => B 0 b)
  | 2 => if b = B 0 1 then c else B 2 b
  | 3 => if b = B 0 1 then d else B 3 b
  | 4 => if b = B 0 1 then v else B 4 b
  | _ => B a b
def tlB (B : AS) (d : Nat) : AS := fun a b => match a with
  | 0 => (match b with | 0 => B 0 0 ||| 2 ^ d | _ => B 0 b)
  | _ => B a b
def hgB (B : AS) (c v : Nat) : AS := fun a b => match a with
  | 1 => if b = c then v else B 1 b
  | _ => B a b
theorem WN.rd {B : AS} (w : WN B) {c d v : Nat} (h24 : B 0 1 < 24) (hc : c < 16) (hd : d < 16) (hcd : c ≠ d) (ht : (B 0 0).testBit c = true) (hv : 1 ≤ v ∧ v ≤ 99) : WN (rdB B c d v) := by
  obtain ⟨w1, w2, w3, w4⟩ := w
  have sub : ∀ x, (B 0 0).testBit x = true → (B 0 0 ||| 2 ^ d).testBit x = true := fun x z => by rw [or2_tb, z]; rfl
  refine ⟨or2_lt w1 hd, h24, w3, fun p hp => ?_⟩
  have hp : p < B 0 1 + 1 := hp
  show (if p = B 0 1 then c else B 2 p) < 16 ∧ (if p = B 0 1 then d else B 3 p) < 16 ∧ (if p = B 0 1 then c else B 2 p) ≠ (if p = B 0 1 then d else B 3 p) ∧ (B 0 0 ||| 2 ^ d).testBit (if p = B 0 1 then c else B 2 p) = true ∧ (B 0 0 ||| 2 ^ d).testBit (if p = B 0 1 then d else B 3 p) = true ∧ 1 ≤ (if p = B 0 1 then v else B 4 p) ∧ (if p = B 0 1 then v else B 4 p) ≤ 99
  by_cases q : p = B 0 1
  · simp only [if_pos q]
    exact ⟨hc, hd, hcd, sub c ht, by rw [or2_tb]; simp, hv⟩
  · simp only [if_neg q]
    obtain ⟨y1, y2, y3, y4, y5, y6⟩ := w4 p (by omega)
    exact ⟨y1, y2, y3, sub _ y4, sub _ y5, y6⟩
theorem WN.tl {B : AS} (w : WN B) {d : Nat} (hd : d < 16) : WN (tlB B d) := by
  obtain ⟨w1, w2, w3, w4⟩ := w
  have sub : ∀ x, (B 0 0).testBit x = true → (B 0 0 ||| 2 ^ d).testBit x = true := fun x z => by rw [or2_tb, z]; rfl
  refine ⟨or2_lt w1 hd, w2, w3, fun p hp => ?_⟩
  obtain ⟨y1, y2, y3, y4, y5, y6⟩ := w4 p hp
  exact ⟨y1, y2, y3, sub _ y4, sub _ y5, y6⟩
theorem WN.hg {B : AS} (w : WN B) {c v : Nat} (hv : v ≤ 99) : WN (hgB B c v) := by
  obtain ⟨w1, w2, w3, w4⟩ := w
  refine ⟨w1, w2, fun x hx => ?_, w4⟩
  show (if x = c then v else B 1 x) ≤ 99
  split
  · exact hv
  · exact w3 x hx
section TWN
variable {T : Nat → Nat} {n p : Nat} {hx hm : HP} {N : Nat} {B : AS}
theorem atCor_t {h : HP} {c : Nat} (tp : TP T n) (t : TcX T n p h) (hc : c < 16) (e : pk T n p = nI (97 + c)) : xX7_isAtCorner h = some (1, h) := by
  unfold xX7_isAtCorner xX7_isAtCorner_21 xX7_isAtCorner_22
  rw [peek_e tp t, cl_s, e, if_neg (by rw [l97, lt_nn (by omega) (by decide)]; omega), if_neg (by rw [l113, le_nn (by decide) (by omega)]; omega), zok_1]
theorem atCor_f {h : HP} (tp : TP T n) (t : TcX T n p h) (e : pk T n p < 97 ∨ (113 : Int32) ≤ pk T n p) : xX7_isAtCorner h = some (0, h) := by
  unfold xX7_isAtCorner xX7_isAtCorner_21 xX7_isAtCorner_22
  rw [peek_e tp t, cl_s]
  by_cases q : pk T n p < 97
  · rw [if_pos q, zok_0]
  · rw [if_neg q, if_pos (e.resolve_left q), zok_0]
theorem isLet_t {h : HP} {c : Nat} (tp : TP T n) (hp : p ≤ n) (t : TcM T n p h) (hc : c < 16) (e : pk T n p = nI (97 + c)) : xX11_isLetter h = some (1, h) := by
  unfold xX11_isLetter
  rw [here_e tp hp t, cl_s, e, l97, sub_nn (by omega), show 97 + c - 97 = c by omega, inM_e, cl_s, decide_eq_true (show ¬ nI c < 0 ∧ ¬ (15 : Int32) < nI c from by rw [l0, l15, lt_nn (by omega) (by decide), lt_nn (by decide) (by omega)]; omega), b2_t, zok_1]
theorem isLet_f {h : HP} (tp : TP T n) (hp : p ≤ n) (t : TcM T n p h) (e : pk T n p - 97 < 0 ∨ (15 : Int32) < pk T n p - 97) : xX11_isLetter h = some (0, h) := by
  unfold xX11_isLetter
  rw [here_e tp hp t, cl_s, inM_e, cl_s, decide_eq_false (show ¬ (¬ pk T n p - 97 < 0 ∧ ¬ (15 : Int32) < pk T n p - 97) from fun z => e.elim z.1 z.2), b2_f, zok_0]
theorem m97 {c : Nat} (hc : c < 16) : nI (97 + c) - 97 = nI c := by rw [l97, sub_nn (by omega), show 97 + c - 97 = c by omega]
/-- one piece of a town's text on both sides -/
def TR (T : Nat → Nat) (n : Nat) (hx hm : HP) (G : AS → Prop) (dx dm : Option (Int32 × HP)) : Prop := ∃ r hx' hm', dx = some (r, hx') ∧ dm = some (r, hm') ∧ fT hx hx' ∧ gW hm hm' ∧ ((r = 1 ∧ ∃ p' B', TcX T n p' hx' ∧ TcM T n p' hm' ∧ NX B' hx' ∧ NM B' hm' ∧ WN B' ∧ G B') ∨ (r = 0 ∧ hx'.1 1 4 = hm'.1 0 13))
theorem TR.bad {G : AS → Prop} {dx dm : Option (Int32 × HP)} {hx1 hm1 : HP} {v : Int32} (e1 : dx = some (0, up hx1 1 4 v)) (e2 : dm = some (0, up hm1 0 13 v)) (f : fT hx hx1) (g : gW hm hm1) : TR T n hx hm G dx dm :=
  ⟨0, _, _, e1, e2, f.tr (fP.up (Or.inr rfl)).T, g.tr (gP.up (Or.inr (Or.inl rfl))).T, Or.inr ⟨rfl, by rw [up_at, if_pos ⟨rfl, rfl⟩, up_at, if_pos ⟨rfl, rfl⟩]⟩⟩
theorem road_e (hN : 100 ≤ N) (tp : TP T n) (tx : TcX T n p hx) (tm : TcM T n p hm) (hp : p < n) (nx : NX B hx) (nm : NM B hm) (wn : WN B) {c : Nat} (hc : c < 16) (hct : (B 0 0).testBit c = true) : TR T n hx hm (fun B' => B' 0 1 = B 0 1 + 1 ∧ B' 3 (B 0 1) < 16 ∧ (B' 0 0).testBit (B' 3 (B 0 1)) = true) (xX6_readRoad N (nI c) hx) (xX11_readsRoad N (nI c) hm) := by
  have hn := tp.1
  have w2 := wn.2.1
  have w1 := wn.1
  unfold xX6_readRoad xX11_readsRoad
  rw [nx.2.1, nm.2.1]
  by_cases q : B 0 1 < 24
  · rw [if_pos (by rw [l24, lt_nn (by omega) (by decide)]; exact q), if_pos (by rw [l24, ne_eq, eq_nn (by omega) (by decide)]; omega), lt_e, lt_e]
    have tx1 := tx.mv hp
    have tm1 := tm.mv
    have fx1 : fT hx (up hx 1 2 (hx.1 1 2 + 1)) := (fP.up (Or.inl rfl)).T
    have gm1 : gW hm (up hm 0 11 (hm.1 0 11 + 1)) := (gP.up (Or.inl rfl)).T
    have nx1 : NX B (up hx 1 2 (hx.1 1 2 + 1)) := nx.fP (fP.up (Or.inl rfl))
    have nm1 : NM B (up hm 0 11 (hm.1 0 11 + 1)) := nm.gP (gP.up (Or.inl rfl))
    generalize up hx 1 2 (hx.1 1 2 + 1) = hx1 at *
    generalize up hm 0 11 (hm.1 0 11 + 1) = hm1 at *
    have hp1 := tx1.1
    rcases lt_c (p := p + 1) tp with ⟨d, d16, dn, e⟩ | ⟨e1, e2⟩
    · rw [atCor_t tp tx1 d16 e, isLet_t tp hp1 tm1 d16 e, cl_s, cl_s, if_pos (show (1 : Int32) ≠ 0 from by decide), if_pos (show (1 : Int32) ≠ 0 from by decide), peek_e tp tx1, here_e tp hp1 tm1, cl_s, cl_s, lt_e, e, m97 d16]
      by_cases z : d = c
      · rw [if_neg (by rw [z]; simp), if_neg (by rw [z]; simp), ref_e, wro_e, cl_s, cl_s, zok_0, zok_0]
        exact TR.bad (v := (-1000) * 6 - nI (p + 1)) (by rw [tx1.2.1]) (by rw [tm1.1]) fx1 gm1
      · rw [if_pos (by rw [ne_eq, eq_nn (by omega) (by omega)]; exact z), if_pos (by rw [ne_eq, eq_nn (by omega) (by omega)]; exact z)]
        unfold xX6_readCorner
        rw [peek_e tp tx1, cl_s, e, m97 d16, lt_e, lt_e, lt_e, cl_s, lt_e, lt_e, lt_e, shl1 (by omega), nx1.1, or_nn]
        have fb : fT hx1 (up hx1 8 4 (nI (B 0 0 ||| 2 ^ d))) := fT.up (by omega)
        have nb : (up hx1 8 4 (nI (B 0 0 ||| 2 ^ d))).1 8 4 = nI (B 0 0 ||| 2 ^ d) ∧ (up hx1 8 4 (nI (B 0 0 ||| 2 ^ d))).1 8 5 = nI (B 0 1) := ⟨by rw [up_at, if_pos ⟨rfl, rfl⟩], by rw [up_at, if_neg (by decide)]; exact nx1.2.1⟩
        have tb : TcX T n (p + 1) (up hx1 8 4 (nI (B 0 0 ||| 2 ^ d))) := ⟨tx1.1, by rw [up_n (by decide)]; exact tx1.2.1, by rw [up_n (by decide)]; exact tx1.2.2.1, fun i hi => by rw [up_n (by decide)]; exact tx1.2.2.2 i hi⟩
        have ab : ∀ k, 9 ≤ k → k ≤ 12 → (up hx1 8 4 (nI (B 0 0 ||| 2 ^ d))).1 k = hx1.1 k := fun k _ _ => up_n (by omega)
        generalize up hx1 8 4 (nI (B 0 0 ||| 2 ^ d)) = hx2 at *
        have tx3 := tb.mv dn
        have tm3 := tm1.mv
        have f3 : fP hx2 (up hx2 1 2 (hx2.1 1 2 + 1)) := fP.up (Or.inl rfl)
        have g3 : gP hm1 (up hm1 0 11 (hm1.1 0 11 + 1)) := gP.up (Or.inl rfl)
        generalize up hx2 1 2 (hx2.1 1 2 + 1) = hx3 at *
        generalize up hm1 0 11 (hm1.1 0 11 + 1) = hm3 at *
        have k3 : fT hx hx3 := (fx1.tr fb).tr f3.T
        have j3 : gW hm hm3 := gm1.tr g3.T
        rw [tx3.2.1, tm3.1]
        rcases num_e (N := N) (D := 2) hN tp (by decide) (by decide) tx3 tm3 with ⟨v, p', x', m', e1, e2, e3, e4, e5, e6, e7, e8, e9⟩ | ⟨x', m', e1, e2, e3, e4, e5⟩
        · have nm4 : NM B m' := (nm1.gP g3).gP e9
          have hvl : v < 100 := e3
          rw [show xX7_readNumber N 2 hx3 = _ from e1, show xX11_readsAmount N 2 hm3 = _ from e2, cl_s, cl_s, if_pos (nn_m1 (by omega)), if_pos (show (1 : Int32) ≠ 0 from by decide), e7]
          by_cases v0 : v = 0
          · rw [v0, if_neg (show ¬ nI 0 ≠ 0 from fun z => z rfl), if_neg (show ¬ nI 0 ≠ 0 from fun z => z rfl), ref_e, wro_e, cl_s, cl_s, zok_0, zok_0]
            exact TR.bad (v := (-1000) * 3 - nI (p + 1 + 1)) rfl rfl (k3.tr e8.T) (j3.tr e9.T)
          · have v1 : nI v ≠ 0 := by rw [ne_eq, l0, eq_nn (by omega) (by decide)]; exact v0
            rw [if_pos v1, if_pos v1, lt_e, nm4.1, or_nn]
            have x85 : x'.1 8 5 = nI (B 0 1) := by rw [e8.1 8 (by decide), f3.1 8 (by decide)]; exact nb.2
            have x84 : x'.1 8 4 = nI (B 0 0 ||| 2 ^ d) := by rw [e8.1 8 (by decide), f3.1 8 (by decide)]; exact nb.1
            have m38 := nm4.2.1
            have xk : ∀ k, 9 ≤ k → k ≤ 12 → x'.1 k = hx1.1 k := fun k k1 k2 => by rw [e8.1 k (by omega), f3.1 k (by omega), ab k k1 k2]
            rw [x85, ast_n q (by decide)]
            rw [show (up x' 10 (B 0 1) (nI c)).1 8 5 = nI (B 0 1) from by rw [up_n (by decide)]; exact x85, ast_n q (by decide)]
            rw [show (up (up x' 10 (B 0 1) (nI c)) 11 (B 0 1) (nI d)).1 8 5 = nI (B 0 1) from by rw [up_n (by decide), up_n (by decide)]; exact x85, ast_n q (by decide), lt_e]
            rw [show (up (up (up x' 10 (B 0 1) (nI c)) 11 (B 0 1) (nI d)) 12 (B 0 1) (nI v)).1 8 5 = nI (B 0 1) from by rw [up_n (by decide), up_n (by decide), up_n (by decide)]; exact x85, nI_1]
            rw [show (up m' 0 37 (nI (B 0 0 ||| 2 ^ d))).1 0 38 = nI (B 0 1) from by rw [up_at, if_neg (by decide)]; exact m38, ast_n q (by decide)]
            rw [show (up (up m' 0 37 (nI (B 0 0 ||| 2 ^ d))) 23 (B 0 1) (nI c)).1 0 38 = nI (B 0 1) from by rw [up_n (by decide), up_at, if_neg (by decide)]; exact m38, ast_n q (by decide)]
            rw [show (up (up (up m' 0 37 (nI (B 0 0 ||| 2 ^ d))) 23 (B 0 1) (nI c)) 24 (B 0 1) (nI d)).1 0 38 = nI (B 0 1) from by rw [up_n (by decide), up_n (by decide), up_at, if_neg (by decide)]; exact m38, show (up (up (up m' 0 37 (nI (B 0 0 ||| 2 ^ d))) 23 (B 0 1) (nI c)) 24 (B 0 1) (nI d)).1 0 14 = nI v from by rw [up_n (by decide), up_n (by decide), up_at, if_neg (by decide)]; exact e7, ast_n q (by decide), lt_e]
            rw [show (up (up (up (up m' 0 37 (nI (B 0 0 ||| 2 ^ d))) 23 (B 0 1) (nI c)) 24 (B 0 1) (nI d)) 25 (B 0 1) (nI v)).1 0 38 = nI (B 0 1) from by rw [up_n (by decide), up_n (by decide), up_n (by decide), up_at, if_neg (by decide)]; exact m38, nI_1, zok_1, zok_1]
            refine ⟨1, _, _, rfl, rfl, ((((k3.tr e8.T).tr (fT.up (by omega))).tr (fT.up (by omega))).tr (fT.up (by omega))).tr (fT.up (by omega)), (((((j3.tr e9.T).tr (gW.up (by omega))).tr (gW.up (by omega))).tr (gW.up (by omega))).tr (gW.up (by omega))).tr (gW.up (by omega)), Or.inl ⟨rfl, p', rdB B c d v, ?_, ?_, ?_, ?_, wn.rd q hc d16 (fun y => z y.symm) hct (by omega), rfl, ?_, ?_⟩⟩
            · exact ⟨e5.1, by rw [up_n (by decide), up_n (by decide), up_n (by decide), up_n (by decide)]; exact e5.2.1, by rw [up_n (by decide), up_n (by decide), up_n (by decide), up_n (by decide)]; exact e5.2.2.1, fun i hi => by rw [up_n (by decide), up_n (by decide), up_n (by decide), up_n (by decide)]; exact e5.2.2.2 i hi⟩
            · exact ⟨by rw [up_at, if_neg (by decide), up_n (by decide), up_n (by decide), up_n (by decide), up_at, if_neg (by decide)]; exact e6.1, by rw [up_at, if_neg (by decide), up_n (by decide), up_n (by decide), up_n (by decide), up_at, if_neg (by decide)]; exact e6.2.1, fun i hi => by rw [up_n (by decide), up_n (by decide), up_n (by decide), up_n (by decide), up_n (by decide)]; exact e6.2.2 i hi⟩
            · refine ⟨?_, ?_, fun i hi => ?_, fun i hi => ?_⟩
              · rw [up_at, if_neg (by decide), up_n (by decide), up_n (by decide), up_n (by decide)]; exact x84
              · rw [up_at, if_pos ⟨rfl, rfl⟩]; rfl
              · rw [up_n (by decide), up_n (by decide), up_n (by decide), up_n (by decide), xk 9 (by decide) (by decide)]; exact nx1.2.2.1 i hi
              · have hi : i < B 0 1 + 1 := hi
                refine ⟨?_, ?_, ?_⟩
                · rw [up_n (by decide), up_n (by decide), up_n (by decide), up_at, xk 10 (by decide) (by decide)]
                  show _ = nI (if i = B 0 1 then c else B 2 i)
                  by_cases y : i = B 0 1
                  · rw [if_pos ⟨rfl, y⟩, if_pos y]
                  · rw [if_neg (fun z => y z.2), if_neg y]; exact (nx1.2.2.2 i (by omega)).1
                · rw [up_n (by decide), up_n (by decide), up_at, up_n (by decide), xk 11 (by decide) (by decide)]
                  show _ = nI (if i = B 0 1 then d else B 3 i)
                  by_cases y : i = B 0 1
                  · rw [if_pos ⟨rfl, y⟩, if_pos y]
                  · rw [if_neg (fun z => y z.2), if_neg y]; exact (nx1.2.2.2 i (by omega)).2.1
                · rw [up_n (by decide), up_at, up_n (by decide), up_n (by decide), xk 12 (by decide) (by decide)]
                  show _ = nI (if i = B 0 1 then v else B 4 i)
                  by_cases y : i = B 0 1
                  · rw [if_pos ⟨rfl, y⟩, if_pos y]
                  · rw [if_neg (fun z => y z.2), if_neg y]; exact (nx1.2.2.2 i (by omega)).2.2
            · refine ⟨?_, ?_, fun i hi => ?_, fun i hi => ?_⟩
              · rw [up_at, if_neg (by decide), up_n (by decide), up_n (by decide), up_n (by decide), up_at, if_pos ⟨rfl, rfl⟩]; rfl
              · rw [up_at, if_pos ⟨rfl, rfl⟩]; rfl
              · rw [up_n (by decide), up_n (by decide), up_n (by decide), up_n (by decide), up_n (by decide)]; exact nm4.2.2.1 i hi
              · have hi : i < B 0 1 + 1 := hi
                refine ⟨?_, ?_, ?_⟩
                · rw [up_n (by decide), up_n (by decide), up_n (by decide), up_at, up_n (by decide)]
                  show _ = nI (if i = B 0 1 then c else B 2 i)
                  by_cases y : i = B 0 1
                  · rw [if_pos ⟨rfl, y⟩, if_pos y]
                  · rw [if_neg (fun z => y z.2), if_neg y]; exact (nm4.2.2.2 i (by omega)).1
                · rw [up_n (by decide), up_n (by decide), up_at, up_n (by decide), up_n (by decide)]
                  show _ = nI (if i = B 0 1 then d else B 3 i)
                  by_cases y : i = B 0 1
                  · rw [if_pos ⟨rfl, y⟩, if_pos y]
                  · rw [if_neg (fun z => y z.2), if_neg y]; exact (nm4.2.2.2 i (by omega)).2.1
                · rw [up_n (by decide), up_at, up_n (by decide), up_n (by decide), up_n (by decide)]
                  show _ = nI (if i = B 0 1 then v else B 4 i)
                  by_cases y : i = B 0 1
                  · rw [if_pos ⟨rfl, y⟩, if_pos y]
                  · rw [if_neg (fun z => y z.2), if_neg y]; exact (nm4.2.2.2 i (by omega)).2.2
            · show (if B 0 1 = B 0 1 then d else B 3 (B 0 1)) < 16
              rw [if_pos rfl]; exact d16
            · show (B 0 0 ||| 2 ^ d).testBit (if B 0 1 = B 0 1 then d else B 3 (B 0 1)) = true
              rw [if_pos rfl, or2_tb]; simp
        · rw [show xX7_readNumber N 2 hx3 = _ from e1, show xX11_readsAmount N 2 hm3 = _ from e2, cl_s, cl_s, if_neg (show ¬ (-1 : Int32) ≠ -1 from by decide), if_neg (show ¬ (0 : Int32) ≠ 0 from by decide), zok_0, zok_0]
          exact ⟨0, _, _, rfl, rfl, k3.tr e4.T, j3.tr e5.T, Or.inr ⟨rfl, e3⟩⟩
    · rw [atCor_f tp tx1 e1, isLet_f tp hp1 tm1 e2, cl_s, cl_s, if_neg (by simp), if_neg (by simp), ref_e, wro_e, cl_s, cl_s, zok_0, zok_0]
      exact TR.bad (v := (-1000) * 1 - nI (p + 1)) (by rw [tx1.2.1]) (by rw [tm1.1]) fx1 gm1
  · rw [if_neg (by rw [l24, lt_nn (by omega) (by decide)]; exact q), if_neg (by rw [show B 0 1 = 24 by omega]; simp [l24]), ref_e, wro_e, cl_s, cl_s, zok_0, zok_0]
    exact TR.bad (v := (-1000) * 5 - nI p) (by rw [tx.2.1]) (by rw [tm.1]) (fP.rf _).T (gP.rf _).T
end TWN
