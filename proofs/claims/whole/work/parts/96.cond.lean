section CND
variable {T : Nat → Nat} {n0 N : Nat}
def TS (N n : Nat) (h : HP) : Option (Int32 × HP) := xX11_readsCondition_40 N n h
def A92 (N n m : Nat) (h : HP) : Option (Int32 × HP) := xX11_readsCondition_92 N (xX11_readsCondition_40 N n) m h
def BS (N n m f : Nat) (h : HP) : Option (Int32 × HP) := cl (xX11_endsPiece_0 N f h) fun _ h' => A92 N n m h'
def DS (N n m : Nat) (h : HP) : Option (Int32 × HP) := if h.1 0 17 ≠ 0 then cl (xX11_endsPiece N h) fun _ h' => A92 N n m h' else zok 1 (some (1, h))
def TRs (N : Nat) (T : Nat → Nat) (n0 p ℓ o : Nat) (W : List (Nat × Nat)) (hx hm : HP) (dx dm : Option (Int32 × HP)) : Prop := (∃ p' ℓ' hx' hm' E n' m' f', dx = some (1, hx') ∧ dm = BS N n' m' f' hm' ∧ n0 - p' < n' ∧ n0 - p' < m' ∧ W.length < f' ∧ bl E ∧ gd T n0 p ℓ o W hx hm p' ℓ' hx' hm' E) ∨ bad ℓ hx hm dx dm
def CRs (N : Nat) (T : Nat → Nat) (n0 p ℓ o : Nat) (W : List (Nat × Nat)) (hx hm : HP) (dc dm : Option (Int32 × HP)) : Prop := (∃ p' ℓ' hx1 hx' hm' E n' m', dc = some (1, hx1) ∧ xX7_demands 41 hx1 = some (1, hx') ∧ dm = DS N n' m' hm' ∧ n0 - p' < n' ∧ n0 - p' < m' ∧ bl E ∧ gd T n0 p ℓ (o - 1) W hx hm p' ℓ' hx' hm' E) ∨ (∃ hx' hm', (dc = some (0, hx') ∨ ∃ hx1, dc = some (1, hx1) ∧ xX7_demands 41 hx1 = some (0, hx')) ∧ dm = some (0, hm') ∧ hx'.1 1 4 = hm'.1 0 13 ∧ fL ℓ hx hx' ∧ gL ℓ hm hm')
theorem ep_0 {h : HP} {f : Nat} {W : List (Nat × Nat)} (w : WS W h) (hc : ∀ e W', W = e :: W' → e.1 ≠ 10) : xX11_endsPiece_0 N (f + 1) h = some (0, h) := by
  rw [xX11_endsPiece_0]
  dsimp only
  rw [waitTop_e w, cl_s]
  cases W with
  | nil =>
    show (if (-1 : Int32) ≠ 10 then _ else _) = _
    rw [if_pos (by decide)]
  | cons e W =>
    obtain ⟨o1, o2⟩ := w.2.2.1 e List.mem_cons_self
    show (if nI e.1 ≠ 10 then _ else _) = _
    rw [if_pos (show nI e.1 ≠ (10 : Int32) from i_ne (b := 10) (by omega) (by decide) (hc e W rfl))]
def wqH (h : HP) (ℓ op : Nat) (x : Int32) : HP := up (up (up h 21 ℓ (nI (sgn op))) 22 ℓ x) 20 6 (nI (ℓ + 1))
theorem wqH_f {h : HP} {ℓ op ℓ0 : Nat} {x : Int32} (hl : ℓ0 ≤ ℓ) : fL ℓ0 h (wqH h ℓ op x) := by
  unfold wqH
  refine ⟨fun k q1 q2 q3 q4 => by rw [up_n q2, up_n q4, up_n q3], fun j _ _ => by rw [up_n (by decide), up_n (by decide), up_n (by decide)], fun j q => by rw [up_at, if_neg (fun z => q z.2), up_n (by decide), up_n (by decide)], fun k hk => ?_⟩
  rw [up_n (by decide), up_n (by decide), up_at, if_neg (by omega), up_n (by decide), up_at, if_neg (by omega), up_n (by decide)]
  exact ⟨rfl, rfl⟩
theorem wqH_T {h : HP} {ℓ op p : Nat} {x : Int32} (t : TcX T n0 p h) : TcX T n0 p (wqH h ℓ op x) := by
  unfold wqH
  exact ⟨t.1, by rw [up_n (by decide), up_n (by decide), up_n (by decide)]; exact t.2.1, by rw [up_n (by decide), up_n (by decide), up_n (by decide)]; exact t.2.2.1, fun i hi => by rw [up_n (by decide), up_n (by decide), up_n (by decide)]; exact t.2.2.2 i hi⟩
theorem wqH_l {h : HP} {ℓ op : Nat} {x : Int32} : (wqH h ℓ op x).1 20 6 = nI (ℓ + 1) ∧ (wqH h ℓ op x).1 22 ℓ = x ∧ ∀ j, j ≠ ℓ → (wqH h ℓ op x).1 22 j = h.1 22 j := by
  unfold wqH
  exact ⟨by rw [up_at, if_pos ⟨rfl, rfl⟩], by rw [up_n (by decide), up_at, if_pos ⟨rfl, rfl⟩], fun j hj => by rw [up_n (by decide), up_at, if_neg (fun z => hj z.2), up_n (by decide)]⟩
theorem CXq.snoc {P P' : Nat → Prop} {C : Nat → Nat × Nat} {a ℓ op : Nat} {x : Int32} {h : HP} (c : CXq P C a ℓ h) (ho : op = 11 ∨ op = 12) (hp : ∀ k, a ≤ k → k < ℓ → ¬ P' k → ¬ P k) (hl : P' ℓ) : CXq P' (glu ℓ C (fun _ => (op, 0))) a (ℓ + 1) (wqH h ℓ op x) := by
  intro k k1 k2
  by_cases z : k < ℓ
  · rw [glu_l z]
    obtain ⟨q1, q2, q3⟩ := c k k1 z
    have f := (wqH_f (h := h) (op := op) (x := x) (Nat.le_refl ℓ)).2.2.2 k z
    exact ⟨q1, by rw [f.1]; exact q2, fun y => by rw [f.2]; exact q3 (hp k k1 z y)⟩
  · have : k = ℓ := by omega
    subst this
    rw [glu_r (Nat.le_refl _)]
    refine ⟨⟨by show op ≤ 12; omega, by show (0 : Nat) < 100000; decide, fun y => by have y : op = 1 := y; omega⟩, ?_, fun y => absurd hl y⟩
    unfold wqH
    rw [up_n (by decide), up_n (by decide), up_at, if_pos ⟨rfl, rfl⟩]
theorem CXq.app {P : Nat → Prop} {C D : Nat → Nat × Nat} {a ℓ ℓ1 : Nat} {h h1 : HP} (c : CXq P C a ℓ h) (f : fL ℓ h h1) (d : CXh 21 22 D ℓ ℓ1 h1) : CXq P (glu ℓ C D) a ℓ1 h1 := by
  intro k k1 k2
  by_cases z : k < ℓ
  · rw [glu_l z]
    obtain ⟨q1, q2, q3⟩ := c k k1 z
    exact ⟨q1, by rw [(f.2.2.2 k z).1]; exact q2, fun y => by rw [(f.2.2.2 k z).2]; exact q3 y⟩
  · rw [glu_r (by omega)]
    obtain ⟨q1, q2, q3⟩ := d k (by omega) k2
    exact ⟨q1, q2, fun _ => q3⟩
theorem CXq.fP {P : Nat → Prop} {C : Nat → Nat × Nat} {a ℓ : Nat} {h h1 : HP} (c : CXq P C a ℓ h) (f : fP h h1) : CXq P C a ℓ h1 := fun k k1 k2 => by rw [f.1 21 (by decide), f.1 22 (by decide)]; exact c k k1 k2
theorem CXq.full {P : Nat → Prop} {C : Nat → Nat × Nat} {a ℓ : Nat} {h : HP} (c : CXq P C a ℓ h) (hp : ∀ k, a ≤ k → k < ℓ → ¬ P k) : CXh 21 22 C a ℓ h := fun k k1 k2 => ⟨(c k k1 k2).1, (c k k1 k2).2.1, (c k k1 k2).2.2 (hp k k1 k2)⟩
theorem jmC {h : HP} {op ℓ : Nat} (ho : op = 11 ∨ op = 12) (q : h.1 9 ℓ = nI (1048576 * op)) : CMh 9 (fun _ => (op, 0)) ℓ (ℓ + 1) h := by
  intro k k1 k2
  rw [show k = ℓ by omega, q]
  exact ⟨⟨by show op ≤ 12; omega, by show (0 : Nat) < 100000; decide, fun y => by have y : op = 1 := y; omega⟩, rfl⟩
/-- from the place behind a test -/
theorem a92_j {n m p p1 ℓ o op : Nat} {W W2 : List (Nat × Nat)} {h h2 : HP} (tp : TP T n0) (hp : p ≤ n0) (t : TcM T n0 p h) (ho : (op = 11 ∧ pk T n0 p = 38) ∨ (op = 12 ∧ pk T n0 p = 124)) (hl : xX11_lands N (if op = 11 then 0 else 1) h = some (0, h2)) (t2 : TcM T n0 p h2) {h3 : HP} (hj : xX11_jumps (nI op) h2 = some (0, h3)) : A92 N n (m + 1) h = TS N n h3 := by
  unfold A92 TS
  rw [xX11_readsCondition_92]
  dsimp only
  unfold xX11_readsCondition_180 xX11_readsCondition_195 xX11_readsCondition_215
  rcases ho with ⟨rfl, e⟩ | ⟨rfl, e⟩
  · rw [if_pos rfl] at hl
    rw [here_e tp hp t, cl_s, if_pos (show pk T n0 p ≠ 41 from by rw [e]; decide), here_e tp hp t, cl_s, if_pos e, here_e tp hp t, cl_s, if_pos (show pk T n0 p ≠ 124 from by rw [e]; decide), hl, cl_s, here_e tp hp t2, cl_s, if_neg (fun z => z e), show xX11_jumps 11 h2 = _ from hj, cl_s]
  · rw [if_neg (by decide)] at hl
    rw [here_e tp hp t, cl_s, if_pos (show pk T n0 p ≠ 41 from by rw [e]; decide), here_e tp hp t, cl_s, if_neg (show ¬ pk T n0 p = 38 from by rw [e]; decide), here_e tp hp t, cl_s, if_pos e, here_e tp hp t, cl_s, if_neg (fun z => z e), hl, cl_s, here_e tp hp t2, cl_s, if_pos (show pk T n0 p ≠ 38 from by rw [e]; decide), show xX11_jumps 12 h2 = _ from hj, cl_s]
theorem a92_w {n m p : Nat} {h : HP} (tp : TP T n0) (hp : p ≤ n0) (t : TcM T n0 p h) (e1 : pk T n0 p ≠ 41) (e2 : pk T n0 p ≠ 38) (e3 : pk T n0 p ≠ 124) : A92 N n (m + 1) h = some (0, up h 0 13 ((-1000) * 1 - nI p)) := by
  unfold A92
  rw [xX11_readsCondition_92]
  dsimp only
  rw [here_e tp hp t, cl_s, if_pos e1, here_e tp hp t, cl_s, if_neg e2, here_e tp hp t, cl_s, if_neg e3, wro_e, cl_s, zok_0, t.1]
theorem a92_c {n m p ℓ o : Nat} {W : List (Nat × Nat)} {h h2 : HP} (tp : TP T n0) (hp : p ≤ n0) (t : TcM T n0 p h) (e : pk T n0 p = 41) (hl : xX11_lands N 1 h = some (0, h2)) (w : WS ((13, 0) :: W) h2) (t2 : TcM T n0 p h2) (e15 : h2.1 0 15 = nI (o + 1)) : A92 N n (m + 1) h = DS N n m (up (up (up h2 0 17 (nI W.length)) 0 15 (nI o)) 0 11 (nI (p + 1))) := by
  have wl := w.2.2.2
  rw [List.length_cons] at wl
  unfold A92 DS
  rw [xX11_readsCondition_92]
  dsimp only
  rw [here_e tp hp t, cl_s, if_neg (fun z => z e), hl, cl_s, lt_e, w.1, List.length_cons, sub_1 (by omega), show W.length + 1 - 1 = W.length by omega, lt_e, show (up h2 0 17 (nI W.length)).1 0 15 = nI (o + 1) from by rw [up_at, if_neg (by decide)]; exact e15, sub_1 (by omega), show o + 1 - 1 = o by omega, lt_e, show (up (up h2 0 17 (nI W.length)) 0 15 (nI o)).1 0 11 = nI p from by rw [up_at, if_neg (by decide), up_at, if_neg (by decide)]; exact t2.1, nI_1]
  rfl
end CND
