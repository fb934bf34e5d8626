section MIN
variable {N k c : Nat} {S : AS} {hx hm : HP}
theorem ast_l {α : Type} {h : HP} {kk n : Nat} {v : Int32} {f : HP → Option α} (i : Nat) {j : Int32} (hj : j = nI i) (hi : i < n) (hn : n < 2147483648) : ast h kk n j v f = f (up h kk i v) := by rw [hj, ast_n hi hn]
theorem ald_l {α : Type} {h : HP} {kk n : Nat} {f : Int32 → Option α} (i : Nat) {j : Int32} (hj : j = nI i) (hi : i < n) (hn : n < 2147483648) : ald h kk n j f = f (h.1 kk i) := by rw [hj, ald_n hi hn]
def MR (k : Nat) (S : AS) (hx hm : HP) : Prop := WF S ∧ TX S hx ∧ TM S hm ∧ SXa k S hx ∧ SMa (hm.1 1) S ∧ hx.1 43 3 = nI k ∧ LW hx hm
def fMi (k : Nat) (h h' : HP) : Prop := ∀ j, j ≠ 43 → j ≠ 44 → (j < k ∨ k + 3 < j) → h'.1 j = h.1 j
def gMi (h h' : HP) : Prop := (∀ j, j ≠ 0 → j ≠ 1 → j ≠ 20 → j ≠ 21 → h'.1 j = h.1 j) ∧ ∀ j, j ≠ 40 → h'.1 0 j = h.1 0 j
theorem fMi.rf (h : HP) : fMi k h h := fun _ _ _ _ => rfl
theorem gMi.rf (h : HP) : gMi h h := ⟨fun _ _ _ _ _ => rfl, fun _ _ => rfl⟩
theorem fMi.tr {h h1 h2 : HP} (a : fMi k h h1) (b : fMi k h1 h2) : fMi k h h2 := fun j q1 q2 q3 => (b j q1 q2 q3).trans (a j q1 q2 q3)
theorem gMi.tr {h h1 h2 : HP} (a : gMi h h1) (b : gMi h1 h2) : gMi h h2 := ⟨fun j q1 q2 q3 q4 => (b.1 j q1 q2 q3 q4).trans (a.1 j q1 q2 q3 q4), fun j q => (b.2 j q).trans (a.2 j q)⟩
theorem fMi.up {h : HP} {a j : Nat} {v : Int32} (ha : a = 43 ∨ (k ≤ a ∧ a ≤ k + 3)) : fMi k h (up h a j v) := fun i q1 q2 q3 => up_n (by omega)
theorem fW.Mi {h h' : HP} (q : fW h h') : fMi k h h' := fun j q1 q2 _ => q.1 j q1 q2
theorem gMi.of20 {h h' : HP} (q : ∀ k, k ≠ 20 → h'.1 k = h.1 k) : gMi h h' := ⟨fun j _ _ q3 _ => q j q3, fun j _ => by rw [q 0 (by decide)]⟩
theorem gMi.up1 {h : HP} {j : Nat} {v : Int32} : gMi h (up h 1 j v) := ⟨fun i _ q _ _ => up_n q, fun j _ => by rw [up_n (by decide)]⟩
theorem fMi.TX {h h' : HP} (hk : k = 31 ∨ k = 39) (q : fMi k h h') (t : TX S h) : TX S h' := by
  obtain ⟨t1, t2, t3, t4⟩ := t
  exact ⟨by rw [q 3 (by decide) (by decide) (by omega)]; exact t1, by rw [q 3 (by decide) (by decide) (by omega)]; exact t2, fun c hc => by rw [q 4 (by decide) (by decide) (by omega)]; exact t3 c hc, fun p hp => by rw [q 5 (by decide) (by decide) (by omega), q 6 (by decide) (by decide) (by omega), q 7 (by decide) (by decide) (by omega)]; exact t4 p hp⟩
theorem gMi.TM {h h' : HP} (q : gMi h h') (t : TM S h) : TM S h' := by
  obtain ⟨t1, t2, t3, t4⟩ := t
  exact ⟨by rw [q.2 7 (by decide)]; exact t1, by rw [q.2 8 (by decide)]; exact t2, fun c hc => by rw [q.1 4 (by decide) (by decide) (by decide) (by decide)]; exact t3 c hc, fun p hp => by rw [q.1 5 (by decide) (by decide) (by decide) (by decide), q.1 6 (by decide) (by decide) (by decide) (by decide), q.1 7 (by decide) (by decide) (by decide) (by decide)]; exact t4 p hp⟩
theorem LW.mi {hx' hm' : HP} (hk : k = 31 ∨ k = 39) (l : LW hx hm) (f : fMi k hx hx') (g : gMi hm hm') : LW hx' hm' := l.tr (fun j j1 j2 => f j (by omega) (by omega) (by omega)) ⟨g.2 19 (by decide), fun j j1 j2 => g.1 j (by omega) (by omega) (by omega) (by omega)⟩
theorem MR.next {op sea mi x : Nat} {so tu we : Nat → Nat} {hx' hm' : HP} (hk : k = 31 ∨ k = 39) (mr : MR k S hx hm) (f : fMi k hx hx') (g : gMi hm hm') (h43 : hx'.1 43 3 = nI k) (ws : WFs (S 0 0) (S 0 1) op sea mi x so tu we) (sx : SX k (S 0 0) (S 0 1) op sea mi x so tu we hx') (sm : SM (hm'.1 1) (S 0 1) op sea mi x so tu we) : MR k (stA S op sea mi x so tu we) hx' hm' := by
  obtain ⟨a1, a2, a3, a4, a5, a6, a7⟩ := mr
  exact ⟨a1.st ws, f.TX hk a2, g.TM a3, sx, sm, h43, a7.mi hk f g⟩
/-- a draw -/
def nxX (x : Nat) : Nat := (25173 * x + 13849) % 65536
def dwS (S : AS) : AS := stA S (S 0 2) (S 0 3) (S 0 4) (nxX (S 0 5)) (S 5) (S 6) (S 7)
theorem nxX_e {x : Nat} (hx : x < 65536) : irem ((25173 * nI x) + 13849) 65536 = nI (nxX x) := by
  rw [show (25173 : Int32) = nI 25173 from rfl, show (13849 : Int32) = nI 13849 from rfl, l65536, mul_nn, add_nn, rem_nn (by omega) (by decide) (by decide)]
  rfl
theorem nxX_lt (x : Nat) : nxX x < 65536 := Nat.mod_lt _ (by decide)
theorem WF.dw (w : WF S) : WF (dwS S) := by
  obtain ⟨w1, w2, w3, w4, w5, w6, w7, w8⟩ := w.1
  exact w.st ⟨w1, w2, w3, w4, w5, nxX_lt _, w7, w8⟩
def fs (h : HP) (S : AS) (c : Nat) : Nat → HP
  | 0 => h
  | i + 1 => up (fs h S c i) 21 i (fct S c i)
theorem fs_n {h : HP} : ∀ i j, j ≠ 21 → (fs h S c i).1 j = h.1 j := by
  intro i
  induction i with
  | zero => intro j _; rfl
  | succ i ih => intro j hj; show (up (fs h S c i) 21 i (fct S c i)).1 j = _; rw [up_n hj, ih j hj]
theorem fs_k {h : HP} : ∀ i j, j < i → (fs h S c i).1 21 j = fct S c j := by
  intro i
  induction i with
  | zero => intro j hj; omega
  | succ i ih =>
    intro j hj
    show (up (fs h S c i) 21 i (fct S c i)).1 21 j = _
    rw [up_at]
    by_cases z : j = i
    · rw [if_pos ⟨rfl, z⟩, z]
    · rw [if_neg (fun y => z y.2)]; exact ih j (by omega)
theorem feels_e (hN : 100 ≤ N) (w : WF S) (t : TM S hm) (s : SMa (hm.1 1) S) (hc : c < 16) : ∃ hm1, xX11_feels N (nI c) hm = some (0, hm1) ∧ gMi hm hm1 ∧ hm1.1 0 = hm.1 0 ∧ SMa (hm1.1 1) (dwS S) ∧ ∀ i, i < 10 → hm1.1 21 i = fct (dwS S) c i := by
  have wn := w.1.2.1
  have wo := op_lt w
  obtain ⟨k1, k2, k3⟩ := w.sk c hc
  have w3 := w.1.2.2.2.1
  have w4 := w.1.2.2.2.2.1
  have w5 := w.1.2.2.2.2.2.1
  have sD : SMa ((up hm 1 74 (nI (nxX (S 0 5)))).1 1) (dwS S) := by
    obtain ⟨s1, s2, s3, s4, s5⟩ := s
    refine ⟨fun c hc => ?_, fun p hp => ?_, ?_, ?_, ?_⟩
    · rw [up_at, if_neg (by omega), up_at, if_neg (by omega), up_at, if_neg (by omega)]; exact s1 c hc
    · have hp : p < S 0 1 := hp
      rw [up_at, if_neg (by omega)]; exact s2 p hp
    · rw [up_at, if_neg (by decide)]; exact s3
    · rw [up_at, if_neg (by decide)]; exact s4
    · rw [up_at, if_pos ⟨rfl, rfl⟩]; rfl
  have tD : TM (dwS S) (up hm 1 74 (nI (nxX (S 0 5)))) := (gMi.up1 (h := hm)).TM t
  have wD := w.dw
  unfold xX11_feels
  rw [ald_l (j := 74) 74 rfl (by decide) (by decide), s.2.2.2.2, nxX_e w5, ast_l (j := 74) 74 rfl (by decide) (by decide)]
  have g0 : gMi hm (up hm 1 74 (nI (nxX (S 0 5)))) := gMi.up1
  have z0 : (up hm 1 74 (nI (nxX (S 0 5)))).1 0 = hm.1 0 := up_n (by decide)
  generalize up hm 1 74 (nI (nxX (S 0 5))) = h2 at *
  have f1 : ∀ i, (fs h2 (dwS S) c i).1 1 = h2.1 1 := fun i => fs_n i 1 (by decide)
  have f4 : ∀ i, (fs h2 (dwS S) c i).1 4 = h2.1 4 := fun i => fs_n i 4 (by decide)
  have tF : ∀ i, TM (dwS S) (fs h2 (dwS S) c i) := fun i => by
    obtain ⟨t1, t2, t3, t4⟩ := tD
    exact ⟨by rw [fs_n i 0 (by decide)]; exact t1, by rw [fs_n i 0 (by decide)]; exact t2, fun c hc => by rw [f4]; exact t3 c hc, fun p hp => by rw [fs_n i 5 (by decide), fs_n i 6 (by decide), fs_n i 7 (by decide)]; exact t4 p hp⟩
  have sF : ∀ i, SMa ((fs h2 (dwS S) c i).1 1) (dwS S) := fun i => by rw [f1]; exact sD
  have sc := sD.1 c hc
  have e0 : ∀ {α : Type} (f : HP → Option α) (j i : Nat) (jj v : Int32), jj = nI i → i < 10 → v = fct (dwS S) c i → j = i → ast (fs h2 (dwS S) c j) 21 10 jj v f = f (fs h2 (dwS S) c (i + 1)) := fun f j i jj v h1 h2' h3 h4 => by
    subst h4
    rw [h1, ast_n h2' (by decide), h3]
    rfl
  rw [show h2 = fs h2 (dwS S) c 0 from rfl, e0 _ 0 0 0 _ rfl (by decide) (by rfl) rfl]
  rw [ald_n hc (by decide), f4, tD.2.2.1 c hc, e0 _ 1 1 1 _ rfl (by decide) (by rfl) rfl]
  rw [ald_l (j := 0 + nI c) c (by rw [l0, add_nn, Nat.zero_add]) (by omega) (by decide), f1, sc.1, e0 _ 2 2 2 _ rfl (by decide) (by rfl) rfl]
  rw [ald_l (j := 16 + nI c) (16 + c) (by rw [l16, add_nn]) (by omega) (by decide), f1, sc.2.1, e0 _ 3 3 3 _ rfl (by decide) (by rfl) rfl]
  rw [openOf_e (A := dwS S) (op := (dwS S) 0 2) wD.2.1 wn (tF 4) (sF 4).2.1 hc hN, cl_s, e0 _ 4 4 4 _ rfl (by decide) (by rfl) rfl]
  unfold xX11_mostBeyond
  rw [show xX11_mostBeyond_4 N N (nI c) 0 0 (fs h2 (dwS S) c (4 + 1)) = _ from mostM_l (N := N) hN wD (tF 5) (sF 5) hc N 0 (by omega) (by omega), cl_s, e0 _ 5 5 5 _ rfl (by decide) (by rw [mx_eq wD.2.1]; rfl) rfl]
  rw [ald_l (j := 32 + nI c) (32 + c) (by rw [l32, add_nn]) (by omega) (by decide), f1, sc.2.2, l100, div_nn (by show S 7 c < _; omega) (by decide) (by decide), e0 _ 6 6 6 _ rfl (by decide) (by rfl) rfl]
  rw [ald_l (j := 72) 72 rfl (by decide) (by decide), f1, sD.2.2.1, div_nn (by show S 0 3 < _; omega) (by decide) (by decide), e0 _ 7 7 7 _ rfl (by decide) (by rfl) rfl]
  rw [ald_l (j := 73) 73 rfl (by decide) (by decide), f1, sD.2.2.2.1, rem_nn (by show S 0 4 < _; omega) (by decide) (by decide), e0 _ 8 8 8 _ rfl (by decide) (by rfl) rfl]
  rw [ald_l (j := 74) 74 rfl (by decide) (by decide), f1, sD.2.2.2.2, l10, rem_nn (by have := nxX_lt (S 0 5); show nxX (S 0 5) < _; omega) (by decide) (by decide), e0 _ 9 9 9 _ rfl (by decide) (by rfl) rfl]
  refine ⟨_, rfl, g0.tr ⟨fun j _ _ _ q => fs_n 10 j q, fun j _ => by rw [fs_n 10 0 (by decide)]⟩, by rw [fs_n 10 0 (by decide)]; exact z0, sF 10, fun i hi => fs_k 10 i hi⟩
end MIN
