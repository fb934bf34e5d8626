/-! ===== reading the law: what waits, in the reference ===== -/
def stW (h : HP) : List (Nat × Nat) → Prop
  | [] => True
  | e :: W => h.1 10 W.length = nI (1048576 * e.1 + e.2) ∧ stW h W
def okE (e : Nat × Nat) : Prop := e.1 ≤ 14 ∧ e.2 < 1000
def WS (W : List (Nat × Nat)) (h : HP) : Prop := h.1 0 17 = nI W.length ∧ stW h W ∧ (∀ e, e ∈ W → okE e) ∧ W.length ≤ 250
def wtop (W : List (Nat × Nat)) : Int32 := match W with
  | [] => -1
  | e :: _ => nI e.1
theorem stW.fr {h h' : HP} : ∀ {W : List (Nat × Nat)}, (∀ j, j < W.length → h'.1 10 j = h.1 10 j) → stW h W → stW h' W := by
  intro W
  induction W with
  | nil => intro _ _; trivial
  | cons e W ih => intro q s; exact ⟨by rw [q W.length (Nat.lt_succ_self _)]; exact s.1, ih (fun j hj => q j (Nat.lt_succ_of_lt hj)) s.2⟩
theorem WS.fr {W : List (Nat × Nat)} {h h' : HP} (w : WS W h) (h17 : h'.1 0 17 = h.1 0 17) (q : ∀ j, j < W.length → h'.1 10 j = h.1 10 j) : WS W h' := ⟨by rw [h17]; exact w.1, w.2.1.fr q, w.2.2⟩
theorem WS.pop {W : List (Nat × Nat)} {e : Nat × Nat} {h h' : HP} (w : WS (e :: W) h) (h17 : h'.1 0 17 = nI W.length) (q : ∀ j, j < W.length → h'.1 10 j = h.1 10 j) : WS W h' := ⟨h17, w.2.1.2.fr q, fun x hx => w.2.2.1 x (List.mem_cons_of_mem _ hx), by have := w.2.2.2; rw [List.length_cons] at this; omega⟩
theorem WS.push {W : List (Nat × Nat)} {e : Nat × Nat} {h h' : HP} (w : WS W h) (ok : okE e) (hl : W.length < 250) (h17 : h'.1 0 17 = nI (W.length + 1)) (h10 : h'.1 10 W.length = nI (1048576 * e.1 + e.2)) (q : ∀ j, j < W.length → h'.1 10 j = h.1 10 j) : WS (e :: W) h' := by
  refine ⟨h17, ⟨h10, w.2.1.fr q⟩, fun x hx => ?_, by rw [List.length_cons]; omega⟩
  rcases List.mem_cons.mp hx with z | z
  · rw [z]; exact ok
  · exact w.2.2.1 x z
theorem waitTop_e {W : List (Nat × Nat)} {h : HP} (w : WS W h) : xX11_waitTop h = some (wtop W, h) := by
  have wl := w.2.2.2
  unfold xX11_waitTop xX11_waitTop_25
  rw [w.1]
  cases W with
  | nil => rw [if_neg (fun z => z rfl)]; rfl
  | cons e W =>
    rw [List.length_cons] at wl
    obtain ⟨o1, o2⟩ := w.2.2.1 e (List.mem_cons_self)
    rw [List.length_cons, if_pos (show nI (W.length + 1) ≠ 0 from i_ne (b := 0) (by omega) (by decide) (by omega)), sub_1 (by omega), show W.length + 1 - 1 = W.length by omega, ald_n (by omega) (by decide), w.2.1.1, l1048576, div_nn (by omega) (by decide) (by decide), show (1048576 * e.1 + e.2) / 1048576 = e.1 by omega]
    rfl
/-- what reading a piece of the law leaves alone -/
def fL (ℓ : Nat) (h h' : HP) : Prop := (∀ k, k ≠ 1 → k ≠ 20 → k ≠ 21 → k ≠ 22 → h'.1 k = h.1 k) ∧ (∀ j, j ≠ 2 → j ≠ 4 → h'.1 1 j = h.1 1 j) ∧ (∀ j, j ≠ 6 → h'.1 20 j = h.1 20 j) ∧ ∀ k, k < ℓ → h'.1 21 k = h.1 21 k ∧ h'.1 22 k = h.1 22 k
def gL (ℓ : Nat) (h h' : HP) : Prop := (∀ k, k ≠ 0 → k ≠ 9 → k ≠ 10 → h'.1 k = h.1 k) ∧ (∀ j, (j < 11 ∨ j = 12 ∨ 17 < j) → h'.1 0 j = h.1 0 j) ∧ ∀ k, k < ℓ → h'.1 9 k = h.1 9 k
theorem fL.rf (ℓ : Nat) (h : HP) : fL ℓ h h := ⟨fun _ _ _ _ _ => rfl, fun _ _ _ => rfl, fun _ _ => rfl, fun _ _ => ⟨rfl, rfl⟩⟩
theorem gL.rf (ℓ : Nat) (h : HP) : gL ℓ h h := ⟨fun _ _ _ _ => rfl, fun _ _ => rfl, fun _ _ => rfl⟩
theorem fL.tr {ℓ ℓ2 : Nat} {h h1 h2 : HP} (hl : ℓ ≤ ℓ2) (a : fL ℓ h h1) (b : fL ℓ2 h1 h2) : fL ℓ h h2 := ⟨fun k q1 q2 q3 q4 => (b.1 k q1 q2 q3 q4).trans (a.1 k q1 q2 q3 q4), fun j q1 q2 => (b.2.1 j q1 q2).trans (a.2.1 j q1 q2), fun j q => (b.2.2.1 j q).trans (a.2.2.1 j q), fun k q => ⟨(b.2.2.2 k (by omega)).1.trans (a.2.2.2 k q).1, (b.2.2.2 k (by omega)).2.trans (a.2.2.2 k q).2⟩⟩
theorem gL.tr {ℓ ℓ2 : Nat} {h h1 h2 : HP} (hl : ℓ ≤ ℓ2) (a : gL ℓ h h1) (b : gL ℓ2 h1 h2) : gL ℓ h h2 := ⟨fun k q1 q2 q3 => (b.1 k q1 q2 q3).trans (a.1 k q1 q2 q3), fun j q => (b.2.1 j q).trans (a.2.1 j q), fun k q => (b.2.2 k (by omega)).trans (a.2.2 k q)⟩
theorem fP.L {h h' : HP} (ℓ : Nat) (q : fP h h') : fL ℓ h h' := ⟨fun k q1 _ _ _ => q.1 k q1, q.2, fun j _ => by rw [q.1 20 (by decide)], fun k _ => ⟨by rw [q.1 21 (by decide)], by rw [q.1 22 (by decide)]⟩⟩
theorem gP.L {h h' : HP} (ℓ : Nat) (q : gP h h') : gL ℓ h h' := ⟨fun k q1 _ _ => q.1 k q1, fun j hj => q.2 j (by omega) (by omega) (by omega), fun k _ => by rw [q.1 9 (by decide)]⟩
section LST
variable {T : Nat → Nat} {n p ℓ o N : Nat} {W : List (Nat × Nat)} {hx hm : HP}
/-- both sides at place p, with ℓ codes, o open, W waiting -/
def PS (T : Nat → Nat) (n p ℓ o : Nat) (W : List (Nat × Nat)) (hx hm : HP) : Prop := TcX T n p hx ∧ TcM T n p hm ∧ hx.1 20 6 = nI ℓ ∧ hm.1 0 16 = nI ℓ ∧ hm.1 0 15 = nI o ∧ WS W hm ∧ o ≤ 6 ∧ W.length ≤ p
theorem write_e {h : HP} {s v : Int32} (hl : ℓ < 240) (e : h.1 20 6 = nI ℓ) : xX2_write s v h = some (nI ℓ, up (up (up h 21 ℓ s) 22 ℓ v) 20 6 (nI (ℓ + 1))) := by
  unfold xX2_write
  rw [e, if_pos (by rw [l240, lt_nn (by omega) (by decide)]; exact hl), ast_n hl (by decide), show (up h 21 ℓ s).1 20 6 = nI ℓ from by rw [up_n (by decide)]; exact e, ast_n hl (by decide), show (up (up h 21 ℓ s) 22 ℓ v).1 20 6 = nI ℓ from by rw [up_n (by decide), up_n (by decide)]; exact e, nI_1, lt_e, show (up (up (up h 21 ℓ s) 22 ℓ v) 20 6 (nI (ℓ + 1))).1 20 6 = nI (ℓ + 1) from by rw [up_at, if_pos ⟨rfl, rfl⟩], sub_1 (by omega), show ℓ + 1 - 1 = ℓ by omega]
def wrH (h : HP) (ℓ : Nat) (i : Nat × Nat) : HP := up (up (up h 21 ℓ (nI (sgn i.1))) 22 ℓ (vlX i)) 20 6 (nI (ℓ + 1))
theorem wrH_f {h : HP} {i : Nat × Nat} {ℓ0 : Nat} (hl : ℓ0 ≤ ℓ) : fL ℓ0 h (wrH h ℓ i) := by
  unfold wrH
  refine ⟨fun k q1 q2 q3 q4 => by rw [up_n q2, up_n q4, up_n q3], fun j _ _ => by rw [up_n (by decide), up_n (by decide), up_n (by decide)], fun j q => by rw [up_at, if_neg (fun z => q z.2), up_n (by decide), up_n (by decide)], fun k hk => ?_⟩
  rw [up_n (by decide), up_n (by decide), up_at, if_neg (by omega), up_n (by decide), up_at, if_neg (by omega), up_n (by decide)]
  exact ⟨rfl, rfl⟩
theorem wrH_c {h : HP} {i : Nat × Nat} (ok : okI i) {C : Nat → Nat × Nat} (hc : C ℓ = i) : CXh 21 22 C ℓ (ℓ + 1) (wrH h ℓ i) := by
  intro k k1 k2
  have : k = ℓ := by omega
  subst this
  rw [hc]
  unfold wrH
  refine ⟨ok, ?_, ?_⟩
  · rw [up_n (by decide), up_n (by decide), up_at, if_pos ⟨rfl, rfl⟩]
  · rw [up_n (by decide), up_at, if_pos ⟨rfl, rfl⟩]
theorem wrH_l {h : HP} {i : Nat × Nat} : (wrH h ℓ i).1 20 6 = nI (ℓ + 1) := by unfold wrH; rw [up_at, if_pos ⟨rfl, rfl⟩]
theorem wrH_T {h : HP} {i : Nat × Nat} (t : TcX T n p h) : TcX T n p (wrH h ℓ i) := by
  have f := wrH_f (h := h) (i := i) (ℓ := ℓ) (Nat.le_refl ℓ)
  have e : (wrH h ℓ i).1 1 = h.1 1 := by unfold wrH; rw [up_n (by decide), up_n (by decide), up_n (by decide)]
  exact ⟨t.1, by rw [e]; exact t.2.1, by rw [e]; exact t.2.2.1, fun j hj => by rw [f.1 2 (by decide) (by decide) (by decide) (by decide)]; exact t.2.2.2 j hj⟩
theorem wr_e {h : HP} {i : Nat × Nat} (hl : ℓ < 240) (e : h.1 20 6 = nI ℓ) {s v : Int32} (hs : s = nI (sgn i.1)) (hv : v = vlX i) : xX2_write s v h = some (nI ℓ, wrH h ℓ i) := by rw [write_e hl e, hs, hv]; rfl
def ntH (h : HP) (ℓ : Nat) (i : Nat × Nat) : HP := up (up h 9 ℓ (nI (1048576 * i.1 + i.2))) 0 16 (nI (ℓ + 1))
theorem ntH_e {h : HP} {i : Nat × Nat} (hl : ℓ < 250) (e : h.1 0 16 = nI ℓ) {s v : Int32} (hs : s = nI i.1) (hv : v = nI i.2) : xX11_notes s v h = some (0, ntH h ℓ i) := by
  unfold xX11_notes
  rw [e, hs, hv, l1048576, mul_nn, add_nn, ast_n (by omega) (by decide), lt_e, show (up h 9 ℓ (nI (1048576 * i.1 + i.2))).1 0 16 = nI ℓ from by rw [up_n (by decide)]; exact e, nI_1]
  rfl
theorem ntH_f {h : HP} {i : Nat × Nat} {ℓ0 : Nat} (hl : ℓ0 ≤ ℓ) : gL ℓ0 h (ntH h ℓ i) := by
  unfold ntH
  exact ⟨fun k q1 q2 _ => by rw [up_n q1, up_n q2], fun j q => by rw [up_at, if_neg (by omega), up_n (by decide)], fun k hk => by rw [up_n (by decide), up_at, if_neg (by omega)]⟩
theorem ntH_c {h : HP} {i : Nat × Nat} (ok : okI i) {C : Nat → Nat × Nat} (hc : C ℓ = i) : CMh 9 C ℓ (ℓ + 1) (ntH h ℓ i) := by
  intro k k1 k2
  have : k = ℓ := by omega
  subst this
  rw [hc]
  unfold ntH
  exact ⟨ok, by rw [up_n (by decide), up_at, if_pos ⟨rfl, rfl⟩]⟩
theorem ntH_0 {h : HP} {i : Nat × Nat} : (ntH h ℓ i).1 0 16 = nI (ℓ + 1) ∧ (∀ j, j ≠ 16 → (ntH h ℓ i).1 0 j = h.1 0 j) ∧ (ntH h ℓ i).1 10 = h.1 10 ∧ (ntH h ℓ i).1 8 = h.1 8 := by
  unfold ntH
  exact ⟨by rw [up_at, if_pos ⟨rfl, rfl⟩], fun j hj => by rw [up_at, if_neg (fun z => hj z.2), up_n (by decide)], by rw [up_n (by decide), up_n (by decide)], by rw [up_n (by decide), up_n (by decide)]⟩
theorem ntH_T {h : HP} {i : Nat × Nat} (t : TcM T n p h) : TcM T n p (ntH h ℓ i) := by
  obtain ⟨-, a, -, b⟩ := ntH_0 (h := h) (ℓ := ℓ) (i := i)
  exact ⟨by rw [a 11 (by decide)]; exact t.1, by rw [a 12 (by decide)]; exact t.2.1, fun j hj => by rw [b]; exact t.2.2 j hj⟩
theorem ntH_W {h : HP} {i : Nat × Nat} (w : WS W h) : WS W (ntH h ℓ i) := by
  obtain ⟨-, a, b, -⟩ := ntH_0 (h := h) (ℓ := ℓ) (i := i)
  exact w.fr (a 17 (by decide)) (fun j _ => by rw [b])
/-- codes of one piece stay while another is written behind -/
theorem CXh.fr {C : Nat → Nat × Nat} {a b ℓ2 : Nat} {h h' : HP} (c : CXh 21 22 C a b h) (f : fL ℓ2 h h') (hb : b ≤ ℓ2) : CXh 21 22 C a b h' := fun k k1 k2 => by rw [(f.2.2.2 k (by omega)).1, (f.2.2.2 k (by omega)).2]; exact c k k1 k2
theorem CMh.fr {C : Nat → Nat × Nat} {a b ℓ2 : Nat} {h h' : HP} (c : CMh 9 C a b h) (f : gL ℓ2 h h') (hb : b ≤ ℓ2) : CMh 9 C a b h' := fun k k1 k2 => by rw [f.2.2 k (by omega)]; exact c k k1 k2
def glu (b : Nat) (C D : Nat → Nat × Nat) (k : Nat) : Nat × Nat := if k < b then C k else D k
theorem glu_l {b : Nat} {C D : Nat → Nat × Nat} {k : Nat} (h : k < b) : glu b C D k = C k := if_pos h
theorem glu_r {b : Nat} {C D : Nat → Nat × Nat} {k : Nat} (h : b ≤ k) : glu b C D k = D k := if_neg (by omega)
theorem CXh.glu {C D : Nat → Nat × Nat} {a b c : Nat} {h : HP} (x : CXh 21 22 C a b h) (y : CXh 21 22 D b c h) : CXh 21 22 (glu b C D) a c h := fun k k1 k2 => by
  by_cases z : k < b
  · rw [glu_l z]; exact x k k1 z
  · rw [glu_r (by omega)]; exact y k (by omega) k2
theorem CMh.glu {C D : Nat → Nat × Nat} {a b c : Nat} {h : HP} (x : CMh 9 C a b h) (y : CMh 9 D b c h) : CMh 9 (glu b C D) a c h := fun k k1 k2 => by
  by_cases z : k < b
  · rw [glu_l z]; exact x k k1 z
  · rw [glu_r (by omega)]; exact y k (by omega) k2
theorem sg.gl {C D : Nat → Nat × Nat} {a b : Nat} {E : (Nat → Int32) → Option Int32} (s : sg C a b E) : sg (glu b C D) a b E := s.ext (fun k _ k2 => glu_l k2)
theorem sg.gr {C D : Nat → Nat × Nat} {a b c : Nat} {E : (Nat → Int32) → Option Int32} (s : sg D b c E) (h : a ≤ b) : sg (glu a C D) b c E := s.ext (fun k k1 _ => glu_r (by omega))
/-! sums that wait -/
def clS (a : Int32) (op : Nat) : Prop := (4 ≤ op ∧ op ≤ 6) ∨ (a ≠ 0 ∧ (op = 2 ∨ op = 3))
def poH (h : HP) (ℓ w : Nat) (op : Nat) : HP := up (ntH h ℓ (op, 0)) 0 17 (nI w)
theorem wtop_lt {e : Nat × Nat} (h : okE e) (v : Nat) (hv : v < 100) : (nI e.1 < nI v ↔ e.1 < v) ∧ (nI e.1 ≤ nI v ↔ e.1 ≤ v) ∧ (nI e.1 = nI v ↔ e.1 = v) := by
  have := h.1
  exact ⟨lt_nn (by omega) (by omega), le_nn (by omega) (by omega), eq_nn (by omega) (by omega)⟩
theorem clo_1 {h : HP} {f : Nat} {a : Int32} {e : Nat × Nat} (w : WS (e :: W) h) (hl : ℓ < 250) (e16 : h.1 0 16 = nI ℓ) (hc : clS a e.1) : xX11_closesSums_0 N (f + 1) a h = xX11_closesSums_0 N f a (poH h ℓ W.length e.1) := by
  have ok := w.2.2.1 e List.mem_cons_self
  have wl := w.2.2.2
  rw [List.length_cons] at wl
  have t4 : nI e.1 < (4 : Int32) ↔ e.1 < 4 := (wtop_lt ok 4 (by decide)).1
  have t6 : nI e.1 ≤ (6 : Int32) ↔ e.1 ≤ 6 := (wtop_lt ok 6 (by decide)).2.1
  have t2 : nI e.1 = (2 : Int32) ↔ e.1 = 2 := (wtop_lt ok 2 (by decide)).2.2
  have t3 : nI e.1 = (3 : Int32) ↔ e.1 = 3 := (wtop_lt ok 3 (by decide)).2.2
  have e37 : xX11_closesSums_37 N (xX11_closesSums_0 N f) a h = xX11_closesSums_0 N f a (poH h ℓ W.length e.1) := by
    unfold xX11_closesSums_37
    rw [waitTop_e w, cl_s, show xX11_notes (wtop (e :: W)) 0 h = some (0, ntH h ℓ (e.1, 0)) from ntH_e hl e16 rfl rfl, cl_s, lt_e, (ntH_0 (h := h) (ℓ := ℓ) (i := (e.1, 0))).2.1 17 (by decide), w.1, List.length_cons, sub_1 (by omega), show W.length + 1 - 1 = W.length by omega]
    rfl
  rw [xX11_closesSums_0]
  dsimp only
  unfold xX11_closesSums_17
  rw [waitTop_e w, cl_s, waitTop_e w]
  show (if nI e.1 < 4 then _ else _) = _
  by_cases z : e.1 < 4
  · rcases hc with hc | ⟨h1, h2⟩
    · omega
    · rw [if_pos (t4.mpr z), if_neg h1, cl_s]
      show (if nI e.1 = 2 then _ else _) = _
      by_cases y : e.1 = 2
      · rw [if_pos (t2.mpr y)]; exact e37
      · rw [if_neg (fun k => y (t2.mp k)), waitTop_e w, cl_s]
        show (if nI e.1 ≠ 3 then _ else _) = _
        rw [if_neg (fun k => k (t3.mpr (by omega)))]; exact e37
  · rcases hc with hc | ⟨h1, h2⟩
    · rw [if_neg (fun k => z (t4.mp k)), cl_s]
      show (if nI e.1 ≤ 6 then _ else _) = _
      rw [if_pos (t6.mpr (by omega))]; exact e37
    · omega
theorem clo_0 {h : HP} {f : Nat} {a : Int32} (w : WS W h) (hc : ∀ e W', W = e :: W' → ¬ clS a e.1) : xX11_closesSums_0 N (f + 1) a h = some (0, h) := by
  rw [xX11_closesSums_0]
  dsimp only
  unfold xX11_closesSums_17 xX11_closesSums_59
  rw [waitTop_e w, cl_s]
  cases W with
  | nil =>
    show (if (-1 : Int32) < 4 then _ else _) = _
    rw [if_pos (by decide)]
    by_cases z : a = 0
    · rw [if_pos z]
    · rw [if_neg z, waitTop_e w, cl_s]
      show (if (-1 : Int32) = 2 then _ else _) = _
      rw [if_neg (by decide), waitTop_e w, cl_s]
      show (if (-1 : Int32) ≠ 3 then _ else _) = _
      rw [if_pos (by decide)]
  | cons e W =>
    have ok := w.2.2.1 e List.mem_cons_self
    have t4 : nI e.1 < (4 : Int32) ↔ e.1 < 4 := (wtop_lt ok 4 (by decide)).1
    have t6 : nI e.1 ≤ (6 : Int32) ↔ e.1 ≤ 6 := (wtop_lt ok 6 (by decide)).2.1
    have t2 : nI e.1 = (2 : Int32) ↔ e.1 = 2 := (wtop_lt ok 2 (by decide)).2.2
    have t3 : nI e.1 = (3 : Int32) ↔ e.1 = 3 := (wtop_lt ok 3 (by decide)).2.2
    have hc := hc e W rfl
    unfold clS at hc
    have e17 : (if a = 0 then some ((0 : Int32), h) else cl (xX11_waitTop h) fun t1 h2 => if t1 = 2 then xX11_closesSums_37 N (xX11_closesSums_0 N f) a h2 else cl (xX11_waitTop h2) fun t3 h4 => if t3 ≠ 3 then some (0, h4) else xX11_closesSums_37 N (xX11_closesSums_0 N f) a h4) = some (0, h) := by
      by_cases z : a = 0
      · rw [if_pos z]
      · rw [if_neg z, waitTop_e w, cl_s]
        show (if nI e.1 = 2 then _ else _) = _
        rw [if_neg (fun k => hc (Or.inr ⟨z, Or.inl (t2.mp k)⟩)), waitTop_e w, cl_s]
        show (if nI e.1 ≠ 3 then _ else _) = _
        rw [if_pos (fun k => hc (Or.inr ⟨z, Or.inr (t3.mp k)⟩))]
    show (if nI e.1 < 4 then _ else _) = _
    by_cases z : e.1 < 4
    · rw [if_pos (t4.mpr z)]; exact e17
    · rw [if_neg (fun k => z (t4.mp k)), waitTop_e w, cl_s]
      show (if nI e.1 ≤ 6 then _ else _) = _
      rw [if_neg (fun k => hc (Or.inl ⟨by omega, t6.mp k⟩))]; exact e17
end LST
