section CNL
variable {T : Nat → Nat} {n0 N o : Nat}
theorem mp_no {qa qo : Option Nat} {W : List (Nat × Nat)} : (∀ e W', mp 11 qa ++ (mp 12 qo ++ ((13, 0) :: W)) = e :: W' → e.1 = 11 ∨ e.1 = 12 ∨ e.1 = 13) := by
  intro e W' h
  cases qa with
  | some j => injection h with h1 h2; rw [← h1]; exact Or.inl rfl
  | none =>
    cases qo with
    | some j => injection h with h1 h2; rw [← h1]; exact Or.inr (Or.inl rfl)
    | none => injection h with h1 h2; rw [← h1]; exact Or.inr (Or.inr rfl)
theorem cond_l {W0 : List (Nat × Nat)} {p0 ℓ0 : Nat} {ct : Int32 → HP → Option (Int32 × HP)} (hN : 300 ≤ N) (tp : TP T n0) (hp0 : 1 ≤ p0) (hℓ0 : ℓ0 ≤ p0) (ho1 : 1 ≤ o)
    (HT : ∀ p ℓ W hx hm n, PS T n0 p ℓ o W hx hm → noS W → W ≠ [] → 1 ≤ p → ℓ ≤ p → n0 - p < n → TRs N T n0 p ℓ o W hx hm (ct (nI o) hx) (TS N n hm)) :
    ∀ k i p ℓ a1 LO LA qo qa xo xa CX CM Eo Ea hx hm n hx0 hm0, PS T n0 p ℓ o (mp 11 qa ++ (mp 12 qo ++ ((13, 0) :: W0))) hx hm → ℓ0 ≤ a1 → a1 ≤ ℓ →
      CXq (fun k => k ∈ LO ∨ k ∈ LA) CX ℓ0 ℓ hx → CMh 9 CM ℓ0 ℓ hm →
      (∀ j, j ∈ LO → ℓ0 ≤ j ∧ j < a1 ∧ (CX j).1 = 12) → (∀ j, j ∈ LA → a1 ≤ j ∧ j < ℓ ∧ (CX j).1 = 11) → (∀ j, qo = some j → ℓ0 ≤ j ∧ j < a1 ∧ (CM j).1 = 12) → (∀ j, qa = some j → a1 ≤ j ∧ j < ℓ ∧ (CM j).1 = 11) →
      lnk hx LO xo → lnk hx LA xa → rw_ 12 0 CX (fun k => k ∈ LO) ℓ0 a1 Eo → rw_ 12 0 CM (fun k => qo = some k) ℓ0 a1 Eo → rw_ 11 1 CX (fun k => k ∈ LA) a1 ℓ Ea → rw_ 11 1 CM (fun k => qa = some k) a1 ℓ Ea →
      LO.length + LA.length ≤ i → p0 ≤ p → i + p0 ≤ p → ℓ + p0 ≤ ℓ0 + p → n0 - p < k → n0 - p < n → fL ℓ0 hx0 hx → gL ℓ0 hm0 hm →
      CRs N T n0 p0 ℓ0 o W0 hx0 hm0 (xX2_readCondition_8 N ct k (nI o) xa xo (nI i) hx) (TS N n hm) := by
  have hn := tp.1
  have og11 : og 11 1 := Or.inl ⟨rfl, rfl⟩
  have og12 : og 12 0 := Or.inr ⟨rfl, rfl⟩
  intro k
  induction k with
  | zero => intro i p ℓ a1 LO LA qo qa xo xa CX CM Eo Ea hx hm n hx0 hm0 _ _ _ _ _ _ _ _ _ _ _ _ _ _ _ _ _ _ _ q; omega
  | succ k ih =>
    intro i p ℓ a1 LO LA qo qa xo xa CX CM Eo Ea hx hm n hx0 hm0 ps h01 h1l cx cm hLO hLA hqo hqa lo la rO rOm rA rAm hlen hpp hip hlp hk hnn fr gr
    have pn := ps.1.1
    rw [xX2_readCondition_8]
    dsimp only
    rw [if_neg (by rw [l240, le_nn (by decide) (by omega)]; omega)]
    rcases HT p ℓ _ hx hm n ps (fun e W' he => by have := mp_no e W' he; omega) (fun z => by have := congrArg List.length z; simp at this) (by omega) (by omega) hnn with ⟨p1, ℓ1, x1, m1, E2, n', m', f', e1, e2, e3, e4, e5, e6, ⟨q1, q2, q3, q4, q5, DX, DM, d1, d2, d3, d4⟩⟩ | ⟨x', m', e1, e2, e3, e4, e5⟩
    · obtain ⟨tx1, tm1, lx1, lm1, o1, w1, o6, wl1⟩ := q1
      have p1n := tx1.1
      have l01 := d3.1
      obtain ⟨f', rfl⟩ : ∃ j, f' = j + 1 := ⟨f' - 1, by omega⟩
      obtain ⟨m', rfl⟩ : ∃ j, m' = j + 1 := ⟨m' - 1, by omega⟩
      have eB : BS N n' (m' + 1) (f' + 1) m1 = A92 N n' (m' + 1) m1 := by
        unfold BS
        rw [ep_0 w1 (fun e W' he => by have := mp_no e W' he; omega), cl_s]
      rw [e1, cl_s, if_pos (show (1 : Int32) ≠ 0 from by decide), e2, eB]
      have cX1 : CXq (fun k => k ∈ LO ∨ k ∈ LA) (glu ℓ CX DX) ℓ0 ℓ1 x1 := cx.app q4 d1
      have cM1 : CMh 9 (glu ℓ CM DM) ℓ0 ℓ1 m1 := (cm.fr q5 (Nat.le_refl _)).glu d2
      have fx1 : fL ℓ0 hx0 x1 := fr.tr (show ℓ0 ≤ ℓ by omega) q4
      have gm1 : gL ℓ0 hm0 m1 := gr.tr (show ℓ0 ≤ ℓ by omega) q5
      have lo1 : lnk x1 LO xo := lo.fr (fun j hj => (q4.2.2.2 j (by have := hLO j hj; omega)).2)
      have la1 : lnk x1 LA xa := la.fr (fun j hj => (q4.2.2.2 j (by have := hLA j hj; omega)).2)
      have hqa1 : ∀ j, qa = some j → ℓ0 ≤ j ∧ j < ℓ1 ∧ (glu ℓ CM DM j).1 = 11 := fun j hj => by
        obtain ⟨a, b, c⟩ := hqa j hj
        exact ⟨by omega, by omega, by rw [glu_l b]; exact c⟩
      have hqo1 : ∀ j, qo = some j → ℓ0 ≤ j ∧ j < ℓ1 ∧ (glu ℓ CM DM j).1 = 12 := fun j hj => by
        obtain ⟨a, b, c⟩ := hqo j hj
        exact ⟨by omega, by omega, by rw [glu_l (by omega)]; exact c⟩
      have ll : (mp 11 qa).length ≤ 1 := by cases qa <;> simp [mp]
      have lll : (mp 11 qa ++ (mp 12 qo ++ ((13, 0) :: W0))).length = (mp 11 qa).length + ((mp 12 qo).length + (W0.length + 1)) := by simp
      rw [lll] at wl1
      by_cases hA : pk T n0 p1 = 38
      · -- an &
        have p1l := (pk_is (v := 38) tp (by decide) hA).1
        have fx2 : fP x1 (up x1 1 2 (x1.1 1 2 + 1)) := fP.up (Or.inl rfl)
        have eW : xX2_write 38 xa (up x1 1 2 (x1.1 1 2 + 1)) = some (nI ℓ1, wqH (up x1 1 2 (x1.1 1 2 + 1)) ℓ1 11 xa) := write_e (by omega) (by rw [fx2.1 20 (by decide)]; exact lx1)
        rw [tak_t tp tx1 hA, cl_s, if_neg (show ¬ (1 : Int32) = 0 from by decide), eW, cl_s]
        unfold xX2_readCondition_81
        rw [lt_e, nI_1]
        obtain ⟨m2, b1, b2', b3, b4, b5, b6, b7⟩ := lands_A (N := N) (a0 := ℓ0) hN w1 tm1 o1 lm1 (by omega) hqa1 cM1
        have bl2 := b2'.2.2.2
        obtain ⟨m3, c1, c2, c3, c4, c5, c6, c7⟩ := jumps_e (op := 11) (Or.inl rfl) b2' (by simp at bl2 ⊢; omega) b3 b4 b5 (by omega)
        rw [a92_j (N := N) (n := n') (m := m') (op := 11) (p1 := p1) (ℓ := ℓ1) (o := o) (W := W0) (W2 := W0) tp p1n tm1 (Or.inl ⟨rfl, hA⟩) b1 b3 c1]
        have lw := wqH_l (h := up x1 1 2 (x1.1 1 2 + 1)) (ℓ := ℓ1) (op := 11) (x := xa)
        have gC : ∀ k, k < ℓ → glu ℓ1 (glu ℓ CX DX) (fun _ => (11, 0)) k = CX k := fun k hk => by rw [glu_l (by omega), glu_l hk]
        have sX : sg (glu ℓ1 (glu ℓ CX DX) (fun _ => (11, 0))) ℓ ℓ1 E2 := d3.ext (fun k k1 k2 => by rw [glu_l k2, glu_r k1])
        have sM : sg (glu ℓ1 (ldO qa ℓ1 (glu ℓ CM DM)) (fun _ => (11, 0))) ℓ ℓ1 E2 := d4.ext (fun k k1 k2 => by
          rw [glu_l k2]; unfold ldO
          rw [if_neg (fun z => by have := hqa k z; omega), glu_r k1])
        have gM : ∀ k, k < ℓ → qa ≠ some k → glu ℓ1 (ldO qa ℓ1 (glu ℓ CM DM)) (fun _ => (11, 0)) k = CM k := fun k hk hq => by
          rw [glu_l (by omega)]; unfold ldO; rw [if_neg hq, glu_l hk]
        refine ih (i + 1) (p1 + 1) (ℓ1 + 1) a1 LO (ℓ1 :: LA) qo (some ℓ1) xo (nI ℓ1) (glu ℓ1 (glu ℓ CX DX) (fun _ => (11, 0))) (glu ℓ1 (ldO qa ℓ1 (glu ℓ CM DM)) (fun _ => (11, 0))) Eo (fun F => jn2 1 (Ea F) (E2 F)) _ m3 n' hx0 hm0 ⟨wqH_T (tx1.mv p1l), c3, lw.1, c5, c4, c2, o6, ?_⟩ h01 (by omega) ?_ ?_ (fun j hj => ?_) (fun j hj => ?_) (fun j hj => ?_) (fun j hj => ?_) ?_ ?_ ?_ ?_ ?_ ?_ (by rw [List.length_cons]; omega) (by omega) (by omega) (by omega) (by omega) (by omega) ((fx1.tr (Nat.le_refl _) (fx2.L ℓ0)).tr (show ℓ0 ≤ ℓ1 by omega) (wqH_f (Nat.le_refl _))) ((gm1.tr (Nat.le_refl _) b7).tr (show ℓ0 ≤ ℓ1 by omega) c7)
        · show ((11, ℓ1) :: (mp 12 qo ++ ((13, 0) :: W0))).length ≤ p1 + 1
          rw [List.length_cons, List.length_append, List.length_cons]; omega
        · refine (cX1.fP fx2).snoc (Or.inl rfl) (fun k _ _ y z => y ?_) (Or.inr List.mem_cons_self)
          exact z.imp id (fun z => List.mem_cons_of_mem _ z)
        · exact (b6.fr c7 (Nat.le_refl _)).glu (jmC (Or.inl rfl) c6)
        · obtain ⟨a, b, c⟩ := hLO j hj
          exact ⟨a, b, by rw [gC j (by omega)]; exact c⟩
        · rcases List.mem_cons.mp hj with z | z
          · rw [z]; exact ⟨by omega, by omega, by rw [glu_r (Nat.le_refl _)]⟩
          · obtain ⟨a, b, c⟩ := hLA j z
            exact ⟨a, by omega, by rw [gC j b]; exact c⟩
        · obtain ⟨a, b, c⟩ := hqo j hj
          exact ⟨a, b, by rw [gM j (by omega) (fun z => by have := hqa j z; omega)]; exact c⟩
        · cases hj
          exact ⟨by omega, by omega, by rw [glu_r (Nat.le_refl _)]⟩
        · exact lo1.fr (fun j hj => by rw [lw.2.2 j (by have := hLO j hj; omega), fx2.1 22 (by decide)])
        · refine ⟨rfl, by omega, fun j hj => by have := hLA j hj; omega, ?_⟩
          rw [lw.2.1]
          exact la1.fr (fun j hj => by rw [lw.2.2 j (by have := hLA j hj; omega), fx2.1 22 (by decide)])
        · exact rO.ext (fun k _ _ => Iff.rfl) (fun k _ k2 _ => gC k (by omega))
        · exact rOm.ext (fun k _ _ => Iff.rfl) (fun k _ k2 _ => gM k (by omega) (fun z => by have := hqa k z; omega))
        · refine rA.more og11 sX e6 (fun k _ k2 _ => gC k k2) List.mem_cons_self (fun k k1 k2 z => ?_) (Or.inl (fun k k1 k2 => ⟨fun z => ?_, fun z => List.mem_cons_of_mem _ z⟩))
          · rcases List.mem_cons.mp z with y | y
            · omega
            · have := hLA k y; omega
          · rcases List.mem_cons.mp z with y | y
            · omega
            · exact y
        · refine rAm.more og11 sM e6 (fun k _ k2 z => gM k k2 z) rfl (fun k k1 k2 z => ?_) (Or.inr ⟨fun k k1 k2 z => ?_, fun k k1 k2 z => ?_⟩)
          · cases z; omega
          · cases z; omega
          · rw [glu_l (by omega)]; unfold ldO
            rw [if_pos z, glu_l k2, (hqa k z).2.2]
      · -- the row of tests ends
        obtain ⟨x2, a1', a2', a3', a4', a5', a6'⟩ := land_q (N := N) (a0 := ℓ0) hN la1 (by omega) lx1 (by omega) tx1 cX1 (fun j hj => by obtain ⟨a, b, c⟩ := hLA j hj; exact ⟨by omega, by omega, Or.inl (by rw [glu_l b]; exact c)⟩)
        have sX : sg (ldL LA ℓ1 (glu ℓ CX DX)) ℓ ℓ1 E2 := d3.ext (fun k k1 k2 => by
          unfold ldL; rw [if_neg (fun z => by have := hLA k z; omega), glu_r k1])
        have sM : sg (ldO qa ℓ1 (glu ℓ CM DM)) ℓ ℓ1 E2 := d4.ext (fun k k1 k2 => by
          unfold ldO; rw [if_neg (fun z => by have := hqa k z; omega), glu_r k1])
        obtain ⟨gX, blG⟩ := rA.fin og11 sX e6 (fun k _ k2 z => by unfold ldL; rw [if_neg z, glu_l k2]) (fun k _ k2 z => by unfold ldL; rw [if_pos z, glu_l k2, (hLA k z).2.2])
        obtain ⟨gM, -⟩ := rAm.fin og11 sM e6 (fun k _ k2 z => by unfold ldO; rw [if_neg z, glu_l k2]) (fun k _ k2 z => by unfold ldO; rw [if_pos z, glu_l k2, (hqa k z).2.2])
        have lo2 : lnk x2 LO xo := lo1.fr (fun j hj => a6' j (fun z => by have := hLO j hj; have := hLA j z; omega))
        rw [tak_f tp tx1 hA, cl_s, if_pos (show (0 : Int32) = 0 from rfl), a1', cl_s]
        by_cases hB : pk T n0 p1 = 124
        · -- an |
          have p1l := (pk_is (v := 124) tp (by decide) hB).1
          have fx3 : fP x2 (up x2 1 2 (x2.1 1 2 + 1)) := fP.up (Or.inl rfl)
          have eW : xX2_write 124 xo (up x2 1 2 (x2.1 1 2 + 1)) = some (nI ℓ1, wqH (up x2 1 2 (x2.1 1 2 + 1)) ℓ1 12 xo) := write_e (by omega) (by rw [fx3.1 20 (by decide)]; exact a3')
          rw [tak_t tp a2' hB, cl_s, if_pos (show (1 : Int32) ≠ 0 from by decide), eW, cl_s]
          unfold xX2_readCondition_81
          rw [lt_e, nI_1]
          obtain ⟨m2, b1, b2', b3, b4, b5, b6, b7⟩ := lands_B (N := N) (a0 := ℓ0) hN w1 tm1 o1 lm1 (by omega) hqa1 hqo1 cM1
          have bl2 := b2'.2.2.2
          obtain ⟨m3, c1, c2, c3, c4, c5, c6, c7⟩ := jumps_e (op := 12) (Or.inr rfl) b2' (by simp at bl2 ⊢; omega) b3 b4 b5 (by omega)
          rw [a92_j (N := N) (n := n') (m := m') (op := 12) (p1 := p1) (ℓ := ℓ1) (o := o) (W := W0) (W2 := W0) tp p1n tm1 (Or.inr ⟨rfl, hB⟩) b1 b3 c1]
          have lw := wqH_l (h := up x2 1 2 (x2.1 1 2 + 1)) (ℓ := ℓ1) (op := 12) (x := xo)
          have gC : ∀ k, k < a1 → glu ℓ1 (ldL LA ℓ1 (glu ℓ CX DX)) (fun _ => (12, 0)) k = CX k := fun k hk => by
            rw [glu_l (by omega)]; unfold ldL; rw [if_neg (fun z => by have := hLA k z; omega), glu_l (by omega)]
          have gN : ∀ k, k < a1 → qo ≠ some k → glu ℓ1 (ldO qo ℓ1 (ldO qa ℓ1 (glu ℓ CM DM))) (fun _ => (12, 0)) k = CM k := fun k hk hq => by
            rw [glu_l (by omega)]; unfold ldO; rw [if_neg hq, if_neg (fun z => by have := hqa k z; omega), glu_l (by omega)]
          have sX2 : sg (glu ℓ1 (ldL LA ℓ1 (glu ℓ CX DX)) (fun _ => (12, 0))) a1 ℓ1 (fun F => jn2 1 (Ea F) (E2 F)) := gX.ext (fun k k1 k2 => glu_l k2)
          have sM2 : sg (glu ℓ1 (ldO qo ℓ1 (ldO qa ℓ1 (glu ℓ CM DM))) (fun _ => (12, 0))) a1 ℓ1 (fun F => jn2 1 (Ea F) (E2 F)) := gM.ext (fun k k1 k2 => by
            rw [glu_l k2]
            conv => lhs; unfold ldO
            rw [if_neg (fun z => by have := hqo k z; omega)]
            rfl)
          refine ih (i + 1) (p1 + 1) (ℓ1 + 1) (ℓ1 + 1) (ℓ1 :: LO) [] (some ℓ1) none (nI ℓ1) (-1) (glu ℓ1 (ldL LA ℓ1 (glu ℓ CX DX)) (fun _ => (12, 0))) (glu ℓ1 (ldO qo ℓ1 (ldO qa ℓ1 (glu ℓ CM DM))) (fun _ => (12, 0))) (fun F => jn2 0 (Eo F) (jn2 1 (Ea F) (E2 F))) (fun _ => some 1) _ m3 n' hx0 hm0 ⟨wqH_T (a2'.mv p1l), c3, lw.1, c5, c4, c2, o6, ?_⟩ (by omega) (Nat.le_refl _) ?_ ?_ (fun j hj => ?_) (fun j hj => by cases hj) (fun j hj => ?_) (fun j hj => by cases hj) ?_ rfl ?_ ?_ (rw_0 og11 _ _ _) (rw_0 og11 _ _ _) (by rw [List.length_cons]; show LO.length + 1 + 0 ≤ i + 1; omega) (by omega) (by omega) (by omega) (by omega) (by omega) (((fx1.tr (Nat.le_refl _) a5').tr (Nat.le_refl _) (fx3.L ℓ0)).tr (show ℓ0 ≤ ℓ1 by omega) (wqH_f (Nat.le_refl _))) ((gm1.tr (Nat.le_refl _) b7).tr (show ℓ0 ≤ ℓ1 by omega) c7)
          · show ((12, ℓ1) :: ((13, 0) :: W0)).length ≤ p1 + 1
            rw [List.length_cons, List.length_cons]; omega
          · refine (a4'.fP fx3).snoc (Or.inr rfl) (fun k _ _ y z => y (Or.inl ?_)) (Or.inl List.mem_cons_self)
            rcases z.1 with w | w
            · exact List.mem_cons_of_mem _ w
            · exact absurd w z.2
          · exact (b6.fr c7 (Nat.le_refl _)).glu (jmC (Or.inr rfl) c6)
          · rcases List.mem_cons.mp hj with z | z
            · rw [z]; exact ⟨by omega, by omega, by rw [glu_r (Nat.le_refl _)]⟩
            · obtain ⟨a, b, c⟩ := hLO j z
              exact ⟨a, by omega, by rw [gC j b]; exact c⟩
          · cases hj
            exact ⟨by omega, by omega, by rw [glu_r (Nat.le_refl _)]⟩
          · refine ⟨rfl, by omega, fun j hj => by have := hLO j hj; omega, ?_⟩
            rw [lw.2.1]
            exact lo2.fr (fun j hj => by rw [lw.2.2 j (by have := hLO j hj; omega), fx3.1 22 (by decide)])
          · refine rO.more og12 sX2 blG (fun k _ k2 _ => gC k k2) List.mem_cons_self (fun k k1 k2 z => ?_) (Or.inl (fun k k1 k2 => ⟨fun z => ?_, fun z => List.mem_cons_of_mem _ z⟩))
            · rcases List.mem_cons.mp z with y | y
              · omega
              · have := hLO k y; omega
            · rcases List.mem_cons.mp z with y | y
              · omega
              · exact y
          · refine rOm.more og12 sM2 blG (fun k _ k2 z => gN k k2 z) rfl (fun k k1 k2 z => ?_) (Or.inr ⟨fun k k1 k2 z => ?_, fun k k1 k2 z => ?_⟩)
            · cases z; omega
            · cases z; omega
            · rw [glu_l (by omega)]
              have h12 : (ldO qa ℓ1 (glu ℓ CM DM) k) = CM k := by unfold ldO; rw [if_neg (fun y => by have := hqa k y; omega), glu_l (by omega)]
              conv => lhs; unfold ldO
              rw [if_pos z]
              have h12' : (if qa = some k then ((glu ℓ CM DM k).1, ℓ1) else glu ℓ CM DM k) = CM k := h12
              rw [h12', (hqo k z).2.2]
        · -- the condition ends
          obtain ⟨x3, b1, b2', b3, b4, b5, b6⟩ := land_q (N := N) (a0 := ℓ0) hN lo2 (by omega) a3' (by omega) a2' a4' (fun j hj => by
            obtain ⟨a, b, c⟩ := hLO j hj
            refine ⟨a, by omega, Or.inr ?_⟩
            unfold ldL; rw [if_neg (fun z => by have := hLA j z; omega), glu_l (by omega)]; exact c)
          rw [tak_f tp a2' hB, cl_s, if_neg (show ¬ (0 : Int32) ≠ 0 from by decide), b1, cl_s, zok_1]
          have sX2 : sg (ldL LO ℓ1 (ldL LA ℓ1 (glu ℓ CX DX))) a1 ℓ1 (fun F => jn2 1 (Ea F) (E2 F)) := gX.ext (fun k k1 k2 => by
            conv => lhs; unfold ldL
            rw [if_neg (fun z => by have := hLO k z; omega)]
            rfl)
          have sM2 : sg (ldO qo ℓ1 (ldO qa ℓ1 (glu ℓ CM DM))) a1 ℓ1 (fun F => jn2 1 (Ea F) (E2 F)) := gM.ext (fun k k1 k2 => by
            conv => lhs; unfold ldO
            rw [if_neg (fun z => by have := hqo k z; omega)]
            rfl)
          have lA : ∀ k, k < a1 → ldL LA ℓ1 (glu ℓ CX DX) k = CX k := fun k hk => by unfold ldL; rw [if_neg (fun z => by have := hLA k z; omega), glu_l (by omega)]
          have lM : ∀ k, k < a1 → ldO qa ℓ1 (glu ℓ CM DM) k = CM k := fun k hk => by unfold ldO; rw [if_neg (fun z => by have := hqa k z; omega), glu_l (by omega)]
          have lAA : ∀ k, ldL LO ℓ1 (ldL LA ℓ1 (glu ℓ CX DX)) k = if k ∈ LO then ((ldL LA ℓ1 (glu ℓ CX DX) k).1, ℓ1) else ldL LA ℓ1 (glu ℓ CX DX) k := fun k => rfl
          have lMM : ∀ k, ldO qo ℓ1 (ldO qa ℓ1 (glu ℓ CM DM)) k = if qo = some k then ((ldO qa ℓ1 (glu ℓ CM DM) k).1, ℓ1) else ldO qa ℓ1 (glu ℓ CM DM) k := fun k => rfl
          obtain ⟨gX2, bl2⟩ := rO.fin og12 sX2 blG (fun k _ k2 z => by rw [lAA, if_neg z, lA k k2]) (fun k _ k2 z => by rw [lAA, if_pos z, lA k k2, (hLO k z).2.2])
          obtain ⟨gM2, -⟩ := rOm.fin og12 sM2 blG (fun k _ k2 z => by rw [lMM, if_neg z, lM k k2]) (fun k _ k2 z => by rw [lMM, if_pos z, lM k k2, (hqo k z).2.2])
          have fx3 : fL ℓ0 hx0 x3 := (fx1.tr (Nat.le_refl _) a5').tr (Nat.le_refl _) b5
          by_cases hC : pk T n0 p1 = 41
          · have p1l := (pk_is (v := 41) tp (by decide) hC).1
            obtain ⟨m2, c1, c2, c3, c4, c5, c6, c7⟩ := lands_B (N := N) (a0 := ℓ0) hN w1 tm1 o1 lm1 (by omega) hqa1 hqo1 cM1
            have fx4 : fP x3 (up x3 1 2 (x3.1 1 2 + 1)) := fP.up (Or.inl rfl)
            have g3 : gL ℓ1 m2 (up (up (up m2 0 17 (nI W0.length)) 0 15 (nI (o - 1))) 0 11 (nI (p1 + 1))) := ⟨fun k q1 _ _ => by rw [up_n q1, up_n q1, up_n q1], fun j q => by rw [up_at, if_neg (by omega), up_at, if_neg (by omega), up_at, if_neg (by omega)], fun k _ => by rw [up_n (by decide), up_n (by decide), up_n (by decide)]⟩
            refine Or.inl ⟨p1 + 1, ℓ1, x3, up x3 1 2 (x3.1 1 2 + 1), up (up (up m2 0 17 (nI W0.length)) 0 15 (nI (o - 1))) 0 11 (nI (p1 + 1)), _, n', m', rfl, dem_t tp b2' hC, a92_c (N := N) (ℓ := ℓ1) (o := o - 1) tp p1n tm1 hC c1 c2 c3 (by rw [show o - 1 + 1 = o by omega]; exact c4), by omega, by omega, bl2, ⟨b2'.mv p1l, ⟨by rw [up_at, if_pos ⟨rfl, rfl⟩], by rw [up_at, if_neg (by decide), up_at, if_neg (by decide), up_at, if_neg (by decide)]; exact c3.2.1, fun i hi => by rw [up_n (by decide), up_n (by decide), up_n (by decide)]; exact c3.2.2 i hi⟩, by rw [fx4.1 20 (by decide)]; exact b3, by rw [up_at, if_neg (by decide), up_at, if_neg (by decide), up_at, if_neg (by decide)]; exact c5, by rw [up_at, if_neg (by decide), up_at, if_pos ⟨rfl, rfl⟩], WS.pop (e := (13, 0)) c2 (by rw [up_at, if_neg (by decide), up_at, if_neg (by decide), up_at, if_pos ⟨rfl, rfl⟩]) (fun j _ => by rw [up_n (by decide), up_n (by decide), up_n (by decide)]), by omega, by omega⟩, by omega, by omega, fx3.tr (Nat.le_refl _) (fx4.L ℓ0), (gm1.tr (Nat.le_refl _) c7).tr (show ℓ0 ≤ ℓ1 by omega) g3, _, _, ?_, c6.fr g3 (Nat.le_refl _), gX2, gM2⟩
            refine (b4.fP fx4).full (fun k _ _ z => ?_)
            rcases z.1.1 with w | w
            · exact z.2 w
            · exact z.1.2 w
          · refine Or.inr ⟨_, _, Or.inr ⟨x3, rfl, dem_f tp b2' hC⟩, a92_w tp p1n tm1 hC hA hB, by rw [up_at, if_pos ⟨rfl, rfl⟩, up_at, if_pos ⟨rfl, rfl⟩], fx3.tr (Nat.le_refl _) ((fP.up (Or.inr rfl)).L ℓ0), gm1.tr (Nat.le_refl _) ((gP.up (Or.inr (Or.inl rfl))).L ℓ0)⟩
    · refine Or.inr ⟨x', m', Or.inl ?_, e2, e3, fr.tr (show ℓ0 ≤ ℓ by omega) e4, gr.tr (show ℓ0 ≤ ℓ by omega) e5⟩
      rw [e1, cl_s, if_neg (show ¬ (0 : Int32) ≠ 0 from by decide), zok_0]
end CNL
