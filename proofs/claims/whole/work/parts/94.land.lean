section LND
variable {T : Nat → Nat} {n0 N : Nat}
/-- a sum that stands alone -/
theorem sumAl {dp o p ℓ : Nat} {W : List (Nat × Nat)} {hx hm : HP} (hN : 300 ≤ N) (tp : TP T n0) (hd : 2 * (6 - o) + 2 ≤ dp) (ps : PS T n0 p ℓ o W hx hm) (hW : noS W) (hp : 1 ≤ p) (hl : ℓ ≤ p) : (∃ p' ℓ' hx' hm' E, (rg0 N dp).2.2.1 (nI o) hx = some (1, hx') ∧ xX11_readsSum N hm = some (1, hm') ∧ gd T n0 p ℓ o W hx hm p' ℓ' hx' hm' E) ∨ bad ℓ hx hm ((rg0 N dp).2.2.1 (nI o) hx) (xX11_readsSum N hm) := by
  have hn0 := tp.1
  have e0 : xX11_readsSum N hm = FS N (nI W.length) N N hm := by
    unfold xX11_readsSum
    rw [lt_e, ps.2.2.2.2.2.1.1]
    rfl
  rw [e0]
  rcases (sumfac (N := N) hN tp dp).1 o p ℓ W hx hm N N W.length hd ps hW (Nat.le_refl _) hp hl (by omega) (by omega) with ⟨p', ℓ', x', m', m'', pd, E, n', a1, a2, a3, a4, a5, a6, a7, a8, a9, a10, g⟩ | b
  · refine Or.inl ⟨p', ℓ', x', m'', E, a1, ?_, g⟩
    have pn2 := g.1.1.1
    have hos : xX11_hasOpenSum N (nI W.length) m' = some (0, m') := by
      have wl6 := a6.2.2.2
      have l1 : (pd ++ W).length = pd.length + W.length := by simp
      refine ((hos_l (N := N) a6 N W.length (by omega) (by omega)).1 (fun j h1 h2 z => ?_))
      have := a7 _ ((wat_app pd W j).2 h1 h2)
      omega
    have e138 : xX11_readsSum_138 N (nI W.length) m' = some (1, m'') := by
      unfold xX11_readsSum_138
      rw [hos, cl_s, if_pos (show (0 : Int32) = 0 from rfl), a10, cl_s, zok_1]
    rw [a2, xX11_readsSum_14]
    dsimp only
    rw [here_e tp pn2 a5, cl_s, sumSign_n m' a4, cl_s, if_pos rfl, here_e tp pn2 a5, cl_s]
    by_cases z : pk T n0 p' = 93
    · rw [if_neg (fun k => k z), hos, cl_s, if_pos (show (0 : Int32) = 0 from rfl)]; exact e138
    · rw [if_pos z]; exact e138
  · exact Or.inr b
/-! jumps that wait, in the class: each holds the one ahead of it -/
def lnk (h : HP) : List Nat → Int32 → Prop
  | [], x => x = -1
  | j :: L, x => x = nI j ∧ j < 240 ∧ (∀ i, i ∈ L → i < j) ∧ lnk h L (h.1 22 j)
theorem lnk.fr {h h' : HP} : ∀ {L : List Nat} {x : Int32}, (∀ j, j ∈ L → h'.1 22 j = h.1 22 j) → lnk h L x → lnk h' L x := by
  intro L
  induction L with
  | nil => intro x _ s; exact s
  | cons j L ih => intro x q s; exact ⟨s.1, s.2.1, s.2.2.1, by rw [q j List.mem_cons_self]; exact ih (fun i hi => q i (List.mem_cons_of_mem _ hi)) s.2.2.2⟩
theorem land_l {ℓ : Nat} : ∀ (L : List Nat) k c x h, lnk h L x → c + L.length ≤ 240 → L.length < k → h.1 20 6 = nI ℓ → ∃ h', xX2_land_4 N k x (nI c) h = some (0, h') ∧ (∀ a, a ≠ 22 → h'.1 a = h.1 a) ∧ (∀ j, j ∈ L → h'.1 22 j = nI ℓ) ∧ ∀ j, j ∉ L → h'.1 22 j = h.1 22 j := by
  intro L
  induction L with
  | nil =>
    intro k c x h s hc hk hl
    obtain ⟨k, rfl⟩ : ∃ j, k = j + 1 := ⟨k - 1, by omega⟩
    have s : x = -1 := s
    subst s
    refine ⟨h, ?_, fun _ _ => rfl, fun j hj => (by cases hj), fun _ _ => rfl⟩
    rw [xX2_land_4]
    dsimp only
    unfold xX2_land_42
    by_cases z : (240 : Int32) ≤ nI c
    · rw [if_pos z]
    · rw [if_neg z, if_pos (by decide)]
  | cons j L ih =>
    intro k c x h s hc hk hl
    rw [List.length_cons] at hc hk
    obtain ⟨k, rfl⟩ : ∃ j, k = j + 1 := ⟨k - 1, by omega⟩
    obtain ⟨s1, s2, s3, s4⟩ := s
    subst s1
    rw [xX2_land_4]
    dsimp only
    rw [if_neg (by rw [l240, le_nn (by decide) (by omega)]; omega), if_neg (by rw [l0, lt_nn (by omega) (by decide)]; omega), ald_n s2 (by decide), hl, ast_n s2 (by decide), lt_e, nI_1]
    obtain ⟨h', e1, e2, e3, e4⟩ := ih k (c + 1) (h.1 22 j) (up h 22 j (nI ℓ)) (s4.fr (fun i hi => by rw [up_at, if_neg (fun z => by have := s3 i hi; omega)])) (by omega) (by omega) (by rw [up_n (by decide)]; exact hl)
    refine ⟨h', e1, fun a ha => by rw [e2 a ha, up_n ha], fun i hi => ?_, fun i hi => ?_⟩
    · rcases List.mem_cons.mp hi with z | z
      · subst z
        by_cases y : i ∈ L
        · exact e3 i y
        · rw [e4 i y, up_at, if_pos ⟨rfl, rfl⟩]
      · exact e3 i z
    · rw [e4 i (fun z => hi (List.mem_cons_of_mem _ z)), up_at, if_neg (fun z => hi (by rw [z.2]; exact List.mem_cons_self))]
/-- in the reference: one lands -/
theorem lan_1 {h : HP} {f p ℓ o op j v : Nat} {a : Int32} {W : List (Nat × Nat)} (w : WS ((op, j) :: W) h) (t : TcM T n0 p h) (e15 : h.1 0 15 = nI o) (e16 : h.1 0 16 = nI ℓ) (hℓ : ℓ < 250) (hj : j < ℓ) (hop : op = 11 ∨ (op = 12 ∧ a ≠ 0)) (hc : h.1 9 j = nI (1048576 * op + v)) (hv : v < 100000) : ∃ h', xX11_lands_0 N (f + 1) a h = xX11_lands_0 N f a h' ∧ WS W h' ∧ TcM T n0 p h' ∧ h'.1 0 15 = nI o ∧ h'.1 0 16 = nI ℓ ∧ h'.1 9 j = nI (1048576 * op + ℓ) ∧ (∀ i, i ≠ j → h'.1 9 i = h.1 9 i) ∧ (∀ k, k ≠ 0 → k ≠ 9 → h'.1 k = h.1 k) ∧ ∀ i, i ≠ 17 → h'.1 0 i = h.1 0 i := by
  have wl := w.2.2.2
  rw [List.length_cons] at wl
  have op14 : op ≤ 12 := by omega
  have e22 : xX11_lands_22 N (xX11_lands_0 N f) a h = xX11_lands_0 N f a (up (up h 9 j (nI (1048576 * op + ℓ))) 0 17 (nI W.length)) := by
    unfold xX11_lands_22
    rw [w.1, List.length_cons, sub_1 (by omega), show W.length + 1 - 1 = W.length by omega, ald_n (by omega) (by decide), w.2.1.1, l1048576, rem_nn (by show 1048576 * op + j < _; omega) (by decide) (by decide), lt_e, show (1048576 * (op, j).1 + (op, j).2) % 1048576 = j from by show (1048576 * op + j) % 1048576 = j; omega, ald_n (by omega) (by decide), hc, div_nn (by omega) (by decide) (by decide), show (1048576 * op + v) / 1048576 = op by omega, mul_nn, e16, add_nn, ast_n (by omega) (by decide), lt_e, show (up h 9 j (nI (1048576 * op + ℓ))).1 0 17 = nI (W.length + 1) from by rw [up_n (by decide)]; exact w.1, sub_1 (by omega), show W.length + 1 - 1 = W.length by omega]
  refine ⟨up (up h 9 j (nI (1048576 * op + ℓ))) 0 17 (nI W.length), ?_, WS.pop w (by rw [up_at, if_pos ⟨rfl, rfl⟩]) (fun i _ => by rw [up_n (by decide), up_n (by decide)]), ⟨by rw [up_at, if_neg (by decide), up_n (by decide)]; exact t.1, by rw [up_at, if_neg (by decide), up_n (by decide)]; exact t.2.1, fun i hi => by rw [up_n (by decide), up_n (by decide)]; exact t.2.2 i hi⟩, by rw [up_at, if_neg (by decide), up_n (by decide)]; exact e15, by rw [up_at, if_neg (by decide), up_n (by decide)]; exact e16, by rw [up_n (by decide), up_at, if_pos ⟨rfl, rfl⟩], fun i hi => by rw [up_n (by decide), up_at, if_neg (fun z => hi z.2)], fun k q1 q2 => by rw [up_n q1, up_n q2], fun i hi => by rw [up_at, if_neg (fun z => hi z.2), up_n (by decide)]⟩
  rw [xX11_lands_0]
  dsimp only
  rw [waitTop_e w, cl_s]
  show (if nI op = 11 then _ else _) = _
  rcases hop with rfl | ⟨rfl, ha⟩
  · rw [if_pos (by decide)]; exact e22
  · rw [if_neg (by decide), if_neg ha, waitTop_e w, cl_s]
    show (if nI 12 ≠ 12 then _ else _) = _
    rw [if_neg (by decide)]; exact e22
theorem lan_0 {h : HP} {f : Nat} {a : Int32} {e : Nat × Nat} {W : List (Nat × Nat)} (w : WS (e :: W) h) (hc : e.1 ≠ 11 ∧ (a = 0 ∨ e.1 ≠ 12)) : xX11_lands_0 N (f + 1) a h = some (0, h) := by
  obtain ⟨o1, o2⟩ := w.2.2.1 e List.mem_cons_self
  rw [xX11_lands_0]
  dsimp only
  unfold xX11_lands_73
  rw [waitTop_e w, cl_s]
  show (if nI e.1 = 11 then _ else _) = _
  rw [if_neg (show ¬ nI e.1 = (11 : Int32) from i_ne (b := 11) (by omega) (by decide) hc.1)]
  by_cases z : a = 0
  · rw [if_pos z]
  · rw [if_neg z, waitTop_e w, cl_s]
    show (if nI e.1 ≠ 12 then _ else _) = _
    rw [if_pos (show nI e.1 ≠ (12 : Int32) from i_ne (b := 12) (by omega) (by decide) (hc.2.resolve_left z))]
/-- a jump is written -/
theorem jumps_e {h : HP} {p ℓ o op : Nat} {W : List (Nat × Nat)} (hop : op = 11 ∨ op = 12) (w : WS W h) (hw : W.length < 250) (t : TcM T n0 p h) (e15 : h.1 0 15 = nI o) (e16 : h.1 0 16 = nI ℓ) (hℓ : ℓ < 250) : ∃ h', xX11_jumps (nI op) h = some (0, h') ∧ WS ((op, ℓ) :: W) h' ∧ TcM T n0 (p + 1) h' ∧ h'.1 0 15 = nI o ∧ h'.1 0 16 = nI (ℓ + 1) ∧ h'.1 9 ℓ = nI (1048576 * op) ∧ gL ℓ h h' := by
  unfold xX11_jumps
  rw [w.1, e16, l1048576, mul_nn, add_nn, ast_n (by omega) (by decide), lt_e, show (up h 10 W.length (nI (1048576 * op + ℓ))).1 0 17 = nI W.length from by rw [up_n (by decide)]; exact w.1, nI_1]
  have l16 : (up (up h 10 W.length (nI (1048576 * op + ℓ))) 0 17 (nI (W.length + 1))).1 0 16 = nI ℓ := by rw [up_at, if_neg (by decide), up_n (by decide)]; exact e16
  rw [show xX11_notes (nI op) 0 (up (up h 10 W.length (nI (1048576 * op + ℓ))) 0 17 (nI (W.length + 1))) = some (0, ntH (up (up h 10 W.length (nI (1048576 * op + ℓ))) 0 17 (nI (W.length + 1))) ℓ (op, 0)) from ntH_e (i := (op, 0)) hℓ l16 rfl rfl, cl_s, lt_e]
  obtain ⟨b1, b2', b3, b4⟩ := ntH_0 (h := up (up h 10 W.length (nI (1048576 * op + ℓ))) 0 17 (nI (W.length + 1))) (ℓ := ℓ) (i := (op, 0))
  have f := ntH_f (h := up (up h 10 W.length (nI (1048576 * op + ℓ))) 0 17 (nI (W.length + 1))) (i := (op, 0)) (Nat.le_refl ℓ)
  have n9 : (ntH (up (up h 10 W.length (nI (1048576 * op + ℓ))) 0 17 (nI (W.length + 1))) ℓ (op, 0)).1 9 ℓ = nI (1048576 * op) := by
    unfold ntH
    rw [up_n (by decide), up_at, if_pos ⟨rfl, rfl⟩]; rfl
  have f0 : gL ℓ h (up (up h 10 W.length (nI (1048576 * op + ℓ))) 0 17 (nI (W.length + 1))) := ⟨fun k q1 _ q3 => by rw [up_n q1, up_n q3], fun j q => by rw [up_at, if_neg (by omega), up_n (by decide)], fun k _ => by rw [up_n (by decide), up_n (by decide)]⟩
  have w1 : WS ((op, ℓ) :: W) (ntH (up (up h 10 W.length (nI (1048576 * op + ℓ))) 0 17 (nI (W.length + 1))) ℓ (op, 0)) := w.push (e := (op, ℓ)) ⟨by show op ≤ 14; omega, by show ℓ < 1000; omega⟩ hw (by rw [b2' 17 (by decide), up_at, if_pos ⟨rfl, rfl⟩]) (by rw [b3, up_n (by decide), up_at, if_pos ⟨rfl, rfl⟩]) (fun j hj => by rw [b3, up_n (by decide), up_at, if_neg (by omega)])
  have t1 : TcM T n0 p (ntH (up (up h 10 W.length (nI (1048576 * op + ℓ))) 0 17 (nI (W.length + 1))) ℓ (op, 0)) := ntH_T ⟨by rw [up_at, if_neg (by decide), up_n (by decide)]; exact t.1, by rw [up_at, if_neg (by decide), up_n (by decide)]; exact t.2.1, fun i hi => by rw [up_n (by decide), up_n (by decide)]; exact t.2.2 i hi⟩
  have k15 : (ntH (up (up h 10 W.length (nI (1048576 * op + ℓ))) 0 17 (nI (W.length + 1))) ℓ (op, 0)).1 0 15 = nI o := by rw [b2' 15 (by decide), up_at, if_neg (by decide), up_n (by decide)]; exact e15
  generalize ntH (up (up h 10 W.length (nI (1048576 * op + ℓ))) 0 17 (nI (W.length + 1))) ℓ (op, 0) = h1 at *
  have gm : gP h1 (up h1 0 11 (h1.1 0 11 + 1)) := gP.up (Or.inl rfl)
  exact ⟨_, rfl, w1.fr (gm.2 17 (by decide) (by decide) (by decide)) (fun j _ => by rw [gm.1 10 (by decide)]), t1.mv, by rw [gm.2 15 (by decide) (by decide) (by decide)]; exact k15, by rw [gm.2 16 (by decide) (by decide) (by decide)]; exact b1, by rw [gm.1 9 (by decide)]; exact n9, f0.tr (Nat.le_refl _) (f.tr (Nat.le_refl _) (gm.L ℓ))⟩
end LND
