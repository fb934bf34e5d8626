section SML
variable {T : Nat → Nat} {n0 o N : Nat}
/-- what a sum has so far: ss between the sum ahead and its term, pr between the term and the next factor -/
def SI (ss pr ℓ0 b ℓ : Nat) (CX CM : Nat → Nat × Nat) : Prop := ℓ0 ≤ b ∧ b ≤ ℓ ∧ ((ss = 0 ∧ b = ℓ0) ∨ (isS ss ∧ ∃ E, sg CX ℓ0 b E ∧ sg CM ℓ0 b E)) ∧ ((pr = 0 ∧ ℓ = b) ∨ (isP pr ∧ ∃ E, sg CX b ℓ E ∧ sg CM b ℓ E))
/-- a factor more: the term -/
theorem SI.term {ss pr ℓ0 b ℓ ℓ1 : Nat} {CX CM DX DM : Nat → Nat × Nat} {Ef : (Nat → Int32) → Option Int32} (si : SI ss pr ℓ0 b ℓ CX CM) (x : sg DX ℓ ℓ1 Ef) (y : sg DM ℓ ℓ1 Ef) : ∃ Et, sg (glu ℓ CX (glu ℓ1 DX (fun _ => (pr, 0)))) b (ℓ1 + nx pr) Et ∧ sg (glu ℓ CM (glu ℓ1 DM (fun _ => (pr, 0)))) b (ℓ1 + nx pr) Et := by
  obtain ⟨h1, h2, h3, h4⟩ := si
  have l1 := x.1
  have g : ∀ (C D : Nat → Nat × Nat), sg D ℓ ℓ1 Ef → sg (glu ℓ C (glu ℓ1 D (fun _ => (pr, 0)))) ℓ ℓ1 Ef := fun C D s => s.ext (fun k k1 k2 => by rw [glu_r k1, glu_l k2])
  rcases h4 with ⟨rfl, rfl⟩ | ⟨hp, E, e1, e2⟩
  · rw [nx_0]
    exact ⟨Ef, g _ _ x, g _ _ y⟩
  · have p0 : pr ≠ 0 := by unfold isP at hp; omega
    rw [nx_n p0]
    have hC : ∀ (C D : Nat → Nat × Nat), (glu ℓ C (glu ℓ1 D (fun _ => (pr, 0))) ℓ1).1 = pr := fun C D => by rw [glu_r l1, glu_r (Nat.le_refl _)]
    exact ⟨_, sg_bin e1.gl (g _ _ x) (hC _ _) (by unfold isP at hp; omega) (by unfold isP at hp; omega), sg_bin e2.gl (g _ _ y) (hC _ _) (by unfold isP at hp; omega) (by unfold isP at hp; omega)⟩
/-- the sum with its term -/
theorem SI.tot {ss pr ℓ0 b ℓ ℓ2 : Nat} {CX CM DX DM : Nat → Nat × Nat} {Et : (Nat → Int32) → Option Int32} (si : SI ss pr ℓ0 b ℓ CX CM) (ax : ∀ k, k < ℓ → DX k = CX k) (am : ∀ k, k < ℓ → DM k = CM k) (x : sg DX b ℓ2 Et) (y : sg DM b ℓ2 Et) : ∃ Es, sg (glu ℓ2 DX (fun _ => (ss, 0))) ℓ0 (ℓ2 + nx ss) Es ∧ sg (glu ℓ2 DM (fun _ => (ss, 0))) ℓ0 (ℓ2 + nx ss) Es := by
  obtain ⟨h1, h2, h3, h4⟩ := si
  have l2 := x.1
  rcases h3 with ⟨rfl, rfl⟩ | ⟨hs, E, e1, e2⟩
  · rw [nx_0]
    exact ⟨Et, x.gl, y.gl⟩
  · have s0 : ss ≠ 0 := by unfold isS at hs; omega
    rw [nx_n s0]
    have hC : ∀ (D : Nat → Nat × Nat), (glu ℓ2 D (fun _ => (ss, 0)) ℓ2).1 = ss := fun D => by rw [glu_r (Nat.le_refl _)]
    have g : ∀ (C D : Nat → Nat × Nat), (∀ k, k < ℓ → D k = C k) → sg C ℓ0 b E → sg (glu ℓ2 D (fun _ => (ss, 0))) ℓ0 b E := fun C D q s => s.ext (fun k k1 k2 => by rw [glu_l (by omega), q k (by omega)])
    exact ⟨_, sg_bin (g _ _ ax e1) x.gl (hC _) (by unfold isS at hs; omega) (by unfold isS at hs; omega), sg_bin (g _ _ am e2) y.gl (hC _) (by unfold isS at hs; omega) (by unfold isS at hs; omega)⟩
/-- the class writes a sign that waited -/
theorem wrt {h : HP} {op ℓ p : Nat} (h6 : op ≤ 6) (h1 : op ≠ 1) (t : TcX T n0 p h) (e : h.1 20 6 = nI ℓ) (hl : ℓ + nx op ≤ 240) : ∃ h', (∀ K : HP → Option (Int32 × HP), (if ca op = 0 then K h else cl (xX2_write (ca op) 0 h) fun _ h2 => K h2) = K h') ∧ TcX T n0 p h' ∧ h'.1 20 6 = nI (ℓ + nx op) ∧ fL ℓ h h' ∧ CXh 21 22 (fun _ => (op, 0)) ℓ (ℓ + nx op) h' := by
  by_cases z : op = 0
  · subst z
    exact ⟨h, fun K => if_pos rfl, t, e, fL.rf _ _, fun k k1 k2 => by rw [nx_0] at k2; omega⟩
  · refine ⟨wrH h ℓ (op, 0), fun K => ?_, wrH_T t, by rw [nx_n z]; exact wrH_l, wrH_f (Nat.le_refl _), ?_⟩
    · rw [if_neg (fun k => z ((ca_0 h6).mp k)), wr_e (i := (op, 0)) (by rw [nx_n z] at hl; omega) e (ca_n z) (ca_v.resolve_right h1), cl_s]
    · rw [nx_n z]
      exact wrH_c ⟨by show op ≤ 12; omega, by show (0 : Nat) < 100000; decide, fun k => absurd k h1⟩ rfl
theorem clC {h : HP} {op ℓ : Nat} (h6 : op ≤ 6) (h1 : op ≠ 1) (q : op = 0 ∨ h.1 9 ℓ = nI (1048576 * op)) : CMh 9 (fun _ => (op, 0)) ℓ (ℓ + nx op) h := by
  intro k k1 k2
  rcases q with rfl | q
  · rw [nx_0] at k2; omega
  · have z : op ≠ 0 := fun z => by rw [z, nx_0] at k2; omega
    rw [nx_n z] at k2
    rw [show k = ℓ by omega, q]
    exact ⟨⟨by show op ≤ 12; omega, by show (0 : Nat) < 100000; decide, fun k => absurd k h1⟩, rfl⟩
/-- the next sign waits -/
theorem psh_e {h : HP} {op p : Nat} {W : List (Nat × Nat)} (t : TcM T n0 p h) (w : WS W h) (hl : W.length < 250) (h6 : op ≤ 6) (ℓ : Nat) (K : HP → Option (Int32 × HP)) : ∃ h', (ast h 10 260 (h.1 0 17) (1048576 * nI op) fun h3 => lt (up h3 0 17 ((h3.1 0 17) + 1)) fun h4 => lt (up h4 0 11 ((h4.1 0 11) + 1)) fun h5 => K h5) = K h' ∧ TcM T n0 (p + 1) h' ∧ WS ((op, 0) :: W) h' ∧ gL ℓ h h' ∧ (∀ j, j ≠ 11 → j ≠ 17 → h'.1 0 j = h.1 0 j) := by
  rw [w.1, l1048576, mul_nn, ast_n (by omega) (by decide), lt_e, show (up h 10 W.length (nI (1048576 * op))).1 0 17 = nI W.length from by rw [up_n (by decide)]; exact w.1, nI_1, lt_e, show (up (up h 10 W.length (nI (1048576 * op))) 0 17 (nI (W.length + 1))).1 0 11 = nI p from by rw [up_at, if_neg (by decide), up_n (by decide)]; exact t.1, nI_1]
  refine ⟨_, rfl, ⟨by rw [up_at, if_pos ⟨rfl, rfl⟩], by rw [up_at, if_neg (by decide), up_at, if_neg (by decide), up_n (by decide)]; exact t.2.1, fun i hi => by rw [up_n (by decide), up_n (by decide), up_n (by decide)]; exact t.2.2 i hi⟩, w.push (e := (op, 0)) ⟨by show op ≤ 14; omega, by show (0 : Nat) < 1000; decide⟩ hl (by rw [up_at, if_neg (by decide), up_at, if_pos ⟨rfl, rfl⟩]) (by rw [up_n (by decide), up_n (by decide), up_at, if_pos ⟨rfl, rfl⟩]; rfl) (fun j hj => by rw [up_n (by decide), up_n (by decide), up_at, if_neg (by omega)]), ⟨fun k q1 q2 q3 => by rw [up_n q1, up_n q1, up_n q3], fun j q => by rw [up_at, if_neg (by omega), up_at, if_neg (by omega), up_n (by decide)], fun k q => by rw [up_n (by decide), up_n (by decide), up_n (by decide)]⟩, fun j q1 q2 => by rw [up_at, if_neg (fun z => q1 z.2), up_at, if_neg (fun z => q2 z.2), up_n (by decide)]⟩
theorem sum_l {W0 : List (Nat × Nat)} {p0 ℓ0 : Nat} {cf : Int32 → HP → Option (Int32 × HP)} {b : Int32} {bb : Nat} (hN : 300 ≤ N) (tp : TP T n0) (hW : noS W0) (hbb : bb ≤ W0.length) (hp0 : 1 ≤ p0) (hℓ0 : ℓ0 ≤ p0)
    (HF : ∀ p ℓ W hx hm f n, PS T n0 p ℓ o W hx hm → bb ≤ W.length → 1 ≤ p → ℓ ≤ p → n0 - p < f → n0 - p < n → FRs T n0 p ℓ o W hx hm (cf (nI o) hx) (FS N b f n hm) (fun n' h => xX11_readsSum_14 N n' b h)) :
    ∀ k i p ℓ b0 ss pr CX CM hx hm f n, PS T n0 p ℓ o (pw pr ++ (pw ss ++ W0)) hx hm → SI ss pr ℓ0 b0 ℓ CX CM → CXh 21 22 CX ℓ0 ℓ hx → CMh 9 CM ℓ0 ℓ hm → p0 ≤ p → i + p0 ≤ p → ℓ + nx pr + nx ss + p0 ≤ ℓ0 + p → n0 - p < k → n0 - p < f → n0 - p < n → ∀ hx0 hm0, fL ℓ0 hx0 hx → gL ℓ0 hm0 hm → SR N T n0 p0 ℓ0 o W0 hx0 hm0 b (xX2_readSum_8 N cf k (nI o) (ca ss) (ca pr) (nI i) hx) (FS N b f n hm) := by
  have hn := tp.1
  intro k
  induction k with
  | zero => intro i p ℓ b0 ss pr CX CM hx hm f n _ _ _ _ _ _ _ q; omega
  | succ k ih =>
    intro i p ℓ b0 ss pr CX CM hx hm f n ps si cx cm hpp hip hlp hk hf hnn hx0 hm0 fr gr
    have pn := ps.1.1
    have hp : pr = 0 ∨ isP pr := si.2.2.2.imp (fun z => z.1) (fun z => z.1)
    have hs : ss = 0 ∨ isS ss := si.2.2.1.imp (fun z => z.1) (fun z => z.1)
    have pr6 : pr ≤ 6 := by unfold isP at hp; omega
    have ss6 : ss ≤ 6 := by unfold isS at hs; omega
    have pr1 : pr ≠ 1 := by unfold isP at hp; omega
    have ss1 : ss ≠ 1 := by unfold isS at hs; omega
    have np1 : nx pr ≤ 1 := by unfold nx; split <;> omega
    have ns1 : nx ss ≤ 1 := by unfold nx; split <;> omega
    have si0 := si
    obtain ⟨i1, i2, -, -⟩ := si
    rw [xX2_readSum_8]
    dsimp only
    rw [if_neg (by rw [l240, le_nn (by decide) (by omega)]; omega)]
    rcases HF p ℓ _ hx hm f n ps (by rw [List.length_append, List.length_append]; omega) (by omega) (by omega) hf hnn with ⟨p1, ℓ1, x1, m1, Ef, n1, e1, e2, e3, ⟨q1, q2, q3, q4, q5, DX, DM, d1, d2, d3, d4⟩⟩ | ⟨x', m', e1, e2, e3, e4, e5⟩
    · have p1n := q1.1.1
      obtain ⟨tx1, tm1, lx1, lm1, o1, w1, o6, wl1⟩ := q1
      obtain ⟨n1, rfl⟩ : ∃ j, n1 = j + 1 := ⟨n1 - 1, by omega⟩
      have l01 := d3.1
      have e2 : FS N b f n hm = xX11_readsSum_14 N (n1 + 1) b m1 := e2
      -- the class: the product
      obtain ⟨x2, wx, tx2, lx2, f2, c2⟩ := wrt (op := pr) pr6 pr1 tx1 lx1 (by omega)
      have eX : (cl (cf (nI o) hx) fun t1 h2 => if t1 ≠ 0 then (if ca pr = 0 then xX2_readSum_40 N cf (xX2_readSum_8 N cf k) (nI o) (ca ss) (nI i) h2 else cl (xX2_write (ca pr) 0 h2) fun t3 h4 => xX2_readSum_40 N cf (xX2_readSum_8 N cf k) (nI o) (ca ss) (nI i) h4) else zok 0 (some (0, h2))) = xX2_readSum_40 N cf (xX2_readSum_8 N cf k) (nI o) (ca ss) (nI i) x2 := by
        rw [e1, cl_s, if_pos (show (1 : Int32) ≠ 0 from by decide)]
        exact wx (fun h => xX2_readSum_40 N cf (xX2_readSum_8 N cf k) (nI o) (ca ss) (nI i) h)
      rw [eX, e2]
      obtain ⟨Et, t1, t2⟩ := si0.term d3 d4
      have fx2 : fL ℓ0 hx0 x2 := fr.tr (show ℓ0 ≤ ℓ by omega) (q4.tr (by omega) f2)
      have gm1 : gL ℓ0 hm0 m1 := gr.tr (show ℓ0 ≤ ℓ by omega) q5
      have cX2 : CXh 21 22 (glu ℓ CX (glu ℓ1 DX (fun _ => (pr, 0)))) ℓ0 (ℓ1 + nx pr) x2 := (cx.fr (q4.tr (by omega) f2) (Nat.le_refl _)).glu ((d1.fr f2 (Nat.le_refl _)).glu c2)
      have cM1 : CMh 9 (glu ℓ CM DM) ℓ0 ℓ1 m1 := (cm.fr q5 (Nat.le_refl _)).glu d2
      unfold xX2_readSum_40
      rw [peek_e tp tx2, cl_s]
      rcases sgn_c (pk T n0 p1) with ⟨op, op2, op6, hpk⟩ | hpk
      · have p1l : p1 < n0 := (pk_is tp (by unfold sgn; split <;> omega) hpk).1
        have eM : xX11_readsSum_14 N (n1 + 1) b m1 = if (4 : Int32) ≤ nI op then xX11_readsSum_38 N (xX11_readsSum_14 N n1) b (nI op) 0 m1 else xX11_readsSum_38 N (xX11_readsSum_14 N n1) b (nI op) 1 m1 := by
          rw [xX11_readsSum_14]
          dsimp only
          rw [here_e tp p1n tm1, cl_s, hpk, sumSign_o m1 op2 op6, cl_s, if_neg (show ¬ nI op = -1 from nn_m1 (by omega))]
        rw [eM]
        by_cases hop : 4 ≤ op
        · -- a product
          obtain ⟨m2, c1, tm2, o2, lm2, w2, g2, k2⟩ := clo_A (N := N) (T := T) (n := n0) (p := p1) (o := o) hN hp hs hW tm1 o1 lm1 (by omega) w1
          have wl2 : (pw ss ++ W0).length ≤ p1 := by
            rw [List.length_append] at wl1; omega
          rw [if_pos (show (4 : Int32) ≤ nI op from by rw [l4, le_nn (by decide) (by omega)]; exact hop)]
          obtain ⟨m3, c3, tm3, w3, g3, k3⟩ := psh_e (h := m2) (op := op) tm2 w2 (by omega) op6 (ℓ1 + nx pr) (fun h5 => cl (xX11_readsFactor N h5) fun t6 h7 => if t6 ≠ 0 then xX11_readsSum_163 N (xX11_readsSum_14 N n1) b h7 else zok 0 (some (0, h7)))
          have e38 : xX11_readsSum_38 N (xX11_readsSum_14 N n1) b (nI op) 0 m1 = FS N b N n1 m3 := by
            unfold xX11_readsSum_38
            rw [c1, cl_s]
            exact c3
          have eX2 : (if pk T n0 p1 = 42 then xX2_readSum_70 N cf (xX2_readSum_8 N cf k) (nI o) (ca ss) (nI i) (pk T n0 p1) x2 else if pk T n0 p1 = 47 then xX2_readSum_70 N cf (xX2_readSum_8 N cf k) (nI o) (ca ss) (nI i) (pk T n0 p1) x2 else if pk T n0 p1 ≠ 37 then (if ca ss = 0 then xX2_readSum_98 N cf (xX2_readSum_8 N cf k) (nI o) 0 (nI i) (pk T n0 p1) x2 else cl (xX2_write (ca ss) 0 x2) fun t3 h4 => xX2_readSum_98 N cf (xX2_readSum_8 N cf k) (nI o) 0 (nI i) (pk T n0 p1) h4) else xX2_readSum_70 N cf (xX2_readSum_8 N cf k) (nI o) (ca ss) (nI i) (pk T n0 p1) x2) = xX2_readSum_8 N cf k (nI o) (ca ss) (ca op) (nI (i + 1)) (up x2 1 2 (x2.1 1 2 + 1)) := by
            have h70 : xX2_readSum_70 N cf (xX2_readSum_8 N cf k) (nI o) (ca ss) (nI i) (pk T n0 p1) x2 = xX2_readSum_8 N cf k (nI o) (ca ss) (ca op) (nI (i + 1)) (up x2 1 2 (x2.1 1 2 + 1)) := by
              unfold xX2_readSum_70 xX2_readSum_127
              rw [lt_e, lt_e, nI_1, hpk, ca_n (op := op) (by omega)]
            rw [h70]
            have : op = 4 ∨ op = 5 ∨ op = 6 := by omega
            rcases this with rfl | rfl | rfl
            · rw [if_pos (show pk T n0 p1 = 42 from hpk)]
            · rw [if_neg (by rw [hpk]; decide), if_pos (show pk T n0 p1 = 47 from hpk)]
            · rw [if_neg (by rw [hpk]; decide), if_neg (by rw [hpk]; decide), if_neg (fun z => z hpk)]
          rw [eX2, e38]
          have fx3 : fP x2 (up x2 1 2 (x2.1 1 2 + 1)) := fP.up (Or.inl rfl)
          have cM2 : CMh 9 (glu ℓ CM (glu ℓ1 DM (fun _ => (pr, 0)))) ℓ0 (ℓ1 + nx pr) m3 := by
            have a1 := (cm.fr (q5.tr (show ℓ ≤ ℓ1 by omega) g2) (Nat.le_refl _)).glu ((d2.fr g2 (Nat.le_refl _)).glu (clC pr6 pr1 k2))
            exact a1.fr g3 (Nat.le_refl _)
          refine ih (i + 1) (p1 + 1) (ℓ1 + nx pr) b0 ss op (glu ℓ CX (glu ℓ1 DX (fun _ => (pr, 0)))) (glu ℓ CM (glu ℓ1 DM (fun _ => (pr, 0)))) _ m3 N n1 ⟨tx2.mv p1l, tm3, by rw [fx3.1 20 (by decide)]; exact lx2, by rw [k3 16 (by decide) (by decide)]; exact lm2, by rw [k3 15 (by decide) (by decide)]; exact o2, by rw [pw_n (show op ≠ 0 by omega)]; exact w3, o6, ?_⟩ ⟨i1, t1.1, ?_, Or.inr ⟨by unfold isP; omega, Et, t1, t2⟩⟩ (cX2.fr (fx3.L (ℓ1 + nx pr)) (Nat.le_refl _)) cM2 (by omega) (by omega) (by rw [nx_n (show op ≠ 0 by omega)]; omega) (by omega) (by omega) (by omega) hx0 hm0 (fx2.tr (Nat.le_refl _) (fx3.L ℓ0)) (gm1.tr (show ℓ0 ≤ ℓ1 by omega) (g2.tr (by omega) g3))
          · rw [pw_n (show op ≠ 0 by omega), List.length_append]; simp at wl2 ⊢; omega
          · rcases si0.2.2.1 with z | ⟨z, E, z1, z2⟩
            · exact Or.inl z
            · exact Or.inr ⟨z, E, z1.ext (fun k k1 k2 => glu_l (by omega)), z2.ext (fun k k1 k2 => glu_l (by omega))⟩
        · -- a sum
          obtain ⟨x3, wx3, tx3, lx3, f3, c3⟩ := wrt (op := ss) ss6 ss1 tx2 lx2 (by omega)
          obtain ⟨m2, c1, tm2, o2, lm2, w2, g2, k2, k2s⟩ := clo_B (N := N) (T := T) (n := n0) (p := p1) (o := o) hN hp hs hW tm1 o1 lm1 (by omega) w1
          have wl2 : W0.length ≤ p1 := by
            rw [List.length_append, List.length_append] at wl1; omega
          rw [if_neg (show ¬ (4 : Int32) ≤ nI op from by rw [l4, le_nn (by decide) (by omega)]; exact hop)]
          obtain ⟨m3, c4, tm3, w3, g3, k3⟩ := psh_e (h := m2) (op := op) tm2 w2 (by omega) op6 (ℓ1 + nx pr + nx ss) (fun h5 => cl (xX11_readsFactor N h5) fun t6 h7 => if t6 ≠ 0 then xX11_readsSum_163 N (xX11_readsSum_14 N n1) b h7 else zok 0 (some (0, h7)))
          have e38 : xX11_readsSum_38 N (xX11_readsSum_14 N n1) b (nI op) 1 m1 = FS N b N n1 m3 := by
            unfold xX11_readsSum_38
            rw [c1, cl_s]
            exact c4
          have op23 : op = 2 ∨ op = 3 := by omega
          have h98 : ∀ h, xX2_readSum_98 N cf (xX2_readSum_8 N cf k) (nI o) 0 (nI i) (pk T n0 p1) h = xX2_readSum_8 N cf k (nI o) (ca op) (ca 0) (nI (i + 1)) (up h 1 2 (h.1 1 2 + 1)) := fun h => by
            unfold xX2_readSum_98 xX2_readSum_114 xX2_readSum_127
            rw [lt_e, lt_e, nI_1, ca_n (show op ≠ 0 by omega), hpk]
            rcases op23 with rfl | rfl
            · rw [if_pos (by decide)]; rfl
            · rw [if_neg (by decide), if_pos (by decide)]; rfl
          have eX2 : (if pk T n0 p1 = 42 then xX2_readSum_70 N cf (xX2_readSum_8 N cf k) (nI o) (ca ss) (nI i) (pk T n0 p1) x2 else if pk T n0 p1 = 47 then xX2_readSum_70 N cf (xX2_readSum_8 N cf k) (nI o) (ca ss) (nI i) (pk T n0 p1) x2 else if pk T n0 p1 ≠ 37 then (if ca ss = 0 then xX2_readSum_98 N cf (xX2_readSum_8 N cf k) (nI o) 0 (nI i) (pk T n0 p1) x2 else cl (xX2_write (ca ss) 0 x2) fun t3 h4 => xX2_readSum_98 N cf (xX2_readSum_8 N cf k) (nI o) 0 (nI i) (pk T n0 p1) h4) else xX2_readSum_70 N cf (xX2_readSum_8 N cf k) (nI o) (ca ss) (nI i) (pk T n0 p1) x2) = xX2_readSum_8 N cf k (nI o) (ca op) (ca 0) (nI (i + 1)) (up x3 1 2 (x3.1 1 2 + 1)) := by
            rw [if_neg (by rw [hpk]; rcases op23 with rfl | rfl <;> decide), if_neg (by rw [hpk]; rcases op23 with rfl | rfl <;> decide), if_pos (by rw [hpk]; rcases op23 with rfl | rfl <;> decide), ← h98 x3]
            exact wx3 (fun h => xX2_readSum_98 N cf (xX2_readSum_8 N cf k) (nI o) 0 (nI i) (pk T n0 p1) h)
          rw [eX2, e38]
          have fx4 : fP x3 (up x3 1 2 (x3.1 1 2 + 1)) := fP.up (Or.inl rfl)
          obtain ⟨Es, y1, y2⟩ := si0.tot (DX := glu ℓ CX (glu ℓ1 DX (fun _ => (pr, 0)))) (DM := glu ℓ CM (glu ℓ1 DM (fun _ => (pr, 0)))) (fun k hk => glu_l hk) (fun k hk => glu_l hk) t1 t2
          have cX3 : CXh 21 22 (glu (ℓ1 + nx pr) (glu ℓ CX (glu ℓ1 DX (fun _ => (pr, 0)))) (fun _ => (ss, 0))) ℓ0 (ℓ1 + nx pr + nx ss) x3 := (cX2.fr f3 (Nat.le_refl _)).glu c3
          have cM3 : CMh 9 (glu (ℓ1 + nx pr) (glu ℓ CM (glu ℓ1 DM (fun _ => (pr, 0)))) (fun _ => (ss, 0))) ℓ0 (ℓ1 + nx pr + nx ss) m3 := by
            have a1 := ((cm.fr (q5.tr (show ℓ ≤ ℓ1 by omega) g2) (Nat.le_refl _)).glu ((d2.fr g2 (Nat.le_refl _)).glu (clC pr6 pr1 k2))).glu (clC ss6 ss1 k2s)
            exact a1.fr g3 (Nat.le_refl _)
          refine ih (i + 1) (p1 + 1) (ℓ1 + nx pr + nx ss) (ℓ1 + nx pr + nx ss) op 0 _ _ _ m3 N n1 ⟨tx3.mv p1l, tm3, by rw [fx4.1 20 (by decide)]; exact lx3, by rw [k3 16 (by decide) (by decide)]; exact lm2, by rw [k3 15 (by decide) (by decide)]; exact o2, by rw [pw_n (show op ≠ 0 by omega)]; exact w3, o6, ?_⟩ ⟨y1.1, Nat.le_refl _, Or.inr ⟨op23, Es, y1, y2⟩, Or.inl ⟨rfl, rfl⟩⟩ (cX3.fr (fx4.L _) (Nat.le_refl _)) cM3 (by omega) (by omega) (by rw [nx_n (show op ≠ 0 by omega), nx_0]; omega) (by omega) (by omega) (by omega) hx0 hm0 (fx2.tr (show ℓ0 ≤ ℓ1 + nx pr by omega) (f3.tr (by omega) (fx4.L (ℓ1 + nx pr + nx ss)))) (gm1.tr (show ℓ0 ≤ ℓ1 by omega) (g2.tr (by omega) g3))
          rw [pw_n (show op ≠ 0 by omega), pw_0, List.nil_append, List.length_append]; simp; omega
      · -- the end of the sum
        obtain ⟨x3, wx3, tx3, lx3, f3, c3⟩ := wrt (op := ss) ss6 ss1 tx2 lx2 (by omega)
        obtain ⟨m2, c1, tm2, o2, lm2, w2, g2, k2, k2s⟩ := clo_B (N := N) (T := T) (n := n0) (p := p1) (o := o) hN hp hs hW tm1 o1 lm1 (by omega) w1
        have wl2 : W0.length ≤ p1 := by
          rw [List.length_append, List.length_append] at wl1; omega
        have h98 : ∀ h, xX2_readSum_98 N cf (xX2_readSum_8 N cf k) (nI o) 0 (nI i) (pk T n0 p1) h = some (1, h) := fun h => by
          unfold xX2_readSum_98
          rw [if_neg hpk.1, if_neg hpk.2.1, zok_1]
        have eX2 : (if ca ss = 0 then xX2_readSum_98 N cf (xX2_readSum_8 N cf k) (nI o) 0 (nI i) (pk T n0 p1) x2 else cl (xX2_write (ca ss) 0 x2) fun t3 h4 => xX2_readSum_98 N cf (xX2_readSum_8 N cf k) (nI o) 0 (nI i) (pk T n0 p1) h4) = some (1, x3) := by
          rw [← h98 x3]
          exact wx3 (fun h => xX2_readSum_98 N cf (xX2_readSum_8 N cf k) (nI o) 0 (nI i) (pk T n0 p1) h)
        rw [if_neg hpk.2.2.1, if_neg hpk.2.2.2.1, if_pos hpk.2.2.2.2, eX2]
        obtain ⟨Es, y1, y2⟩ := si0.tot (DX := glu ℓ CX (glu ℓ1 DX (fun _ => (pr, 0)))) (DM := glu ℓ CM (glu ℓ1 DM (fun _ => (pr, 0)))) (fun k hk => glu_l hk) (fun k hk => glu_l hk) t1 t2
        have cX3 : CXh 21 22 (glu (ℓ1 + nx pr) (glu ℓ CX (glu ℓ1 DX (fun _ => (pr, 0)))) (fun _ => (ss, 0))) ℓ0 (ℓ1 + nx pr + nx ss) x3 := (cX2.fr f3 (Nat.le_refl _)).glu c3
        have cM3 : CMh 9 (glu (ℓ1 + nx pr) (glu ℓ CM (glu ℓ1 DM (fun _ => (pr, 0)))) (fun _ => (ss, 0))) ℓ0 (ℓ1 + nx pr + nx ss) m2 := ((cm.fr (q5.tr (show ℓ ≤ ℓ1 by omega) g2) (Nat.le_refl _)).glu ((d2.fr g2 (Nat.le_refl _)).glu (clC pr6 pr1 k2))).glu (clC ss6 ss1 k2s)
        refine Or.inl ⟨p1, ℓ1 + nx pr + nx ss, x3, m1, m2, pw pr ++ pw ss, Es, n1, rfl, rfl, by omega, hpk, tm1, by rw [List.append_assoc]; exact w1, fun e he => ?_, o1, gm1, c1, ⟨tx3, tm2, lx3, lm2, o2, w2, o6, wl2⟩, by omega, by omega, fx2.tr (show ℓ0 ≤ ℓ1 + nx pr by omega) f3, gm1.tr (show ℓ0 ≤ ℓ1 by omega) g2, _, _, cX3, cM3, y1, y2⟩
        rcases List.mem_append.mp he with z | z
        · have := (pw_m z).1; omega
        · have := (pw_m z).1; omega
    · refine Or.inr ⟨x', m', ?_, e2, e3, fr.tr (show ℓ0 ≤ ℓ by omega) e4, gr.tr (show ℓ0 ≤ ℓ by omega) e5⟩
      rw [e1, cl_s, if_neg (show ¬ (0 : Int32) ≠ 0 from by decide), zok_0]
end SML
