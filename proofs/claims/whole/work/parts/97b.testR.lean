section TSR
variable {T : Nat → Nat} {n0 N : Nat}
theorem testcond (hN : 300 ≤ N) (tp : TP T n0) : ∀ dp, (∀ o p ℓ W hx hm n, 1 ≤ o → 2 * (6 - o) + 5 ≤ dp → PS T n0 p ℓ o ((13, 0) :: W) hx hm → 1 ≤ p → ℓ ≤ p → n0 - p < n → CRs N T n0 p ℓ o W hx hm ((rg0 N dp).1 (nI o) hx) (TS N n hm)) ∧ (∀ o p ℓ W hx hm n, 2 * (6 - o) + 4 ≤ dp → PS T n0 p ℓ o W hx hm → noS W → W ≠ [] → 1 ≤ p → ℓ ≤ p → n0 - p < n → TRs N T n0 p ℓ o W hx hm ((rg0 N dp).2.1 (nI o) hx) (TS N n hm)) := by
  have hn0 := tp.1
  intro dp
  induction dp with
  | zero => exact ⟨fun o p ℓ W hx hm n _ h => by omega, fun o p ℓ W hx hm n h => by omega⟩
  | succ dp ih =>
    obtain ⟨ihC, ihT⟩ := ih
    refine ⟨fun o p ℓ W hx hm n ho hd ps hp hl hn => ?_, fun o p ℓ W hx hm n hd ps hW hW0 hp hl hn => ?_⟩
    · have pn := ps.1.1
      exact cond_l (N := N) (ct := (rg0 N dp).2.1) (W0 := W) (p0 := p) (ℓ0 := ℓ) hN tp hp hl ho (fun p' ℓ' W' hx' hm' n' q1 q2 q3 q4 q5 q6 => ihT o p' ℓ' W' hx' hm' n' (by omega) q1 q2 q3 q4 q5 q6) N 0 p ℓ ℓ [] [] none none (-1) (-1) (fun _ => (0, 0)) (fun _ => (0, 0)) (fun _ => some 0) (fun _ => some 1) hx hm n hx hm ps (Nat.le_refl _) (Nat.le_refl _) (fun k k1 k2 => by omega) (fun k k1 k2 => by omega) (fun j hj => by cases hj) (fun j hj => by cases hj) (fun j hj => by cases hj) (fun j hj => by cases hj) rfl rfl (rw_0 (Or.inr ⟨rfl, rfl⟩) _ _ _) (rw_0 (Or.inr ⟨rfl, rfl⟩) _ _ _) (rw_0 (Or.inl ⟨rfl, rfl⟩) _ _ _) (rw_0 (Or.inl ⟨rfl, rfl⟩) _ _ _) (Nat.le_refl _) (Nat.le_refl _) (by omega) (by omega) (by omega) hn (fL.rf _ _) (gL.rf _ _)
    · show TRs N T n0 p ℓ o W hx hm (xX2_readTest N (rg0 N dp).1 (rg0 N dp).2.2.1 (nI o) hx) _
      have key : ∀ k, ∀ o p ℓ W hx hm n, 6 - o < k → 2 * (6 - o) + 4 ≤ dp + 1 → PS T n0 p ℓ o W hx hm → noS W → W ≠ [] → 1 ≤ p → ℓ ≤ p → n0 - p < n → TRs N T n0 p ℓ o W hx hm (xX2_readTest N (rg0 N dp).1 (rg0 N dp).2.2.1 (nI o) hx) (TS N n hm) := by
        intro k
        induction k with
        | zero => intro o p ℓ W hx hm n h0; omega
        | succ k ihK =>
          intro o p ℓ W hx hm n hk hd ps hW hW0 hp hl hn
          obtain ⟨n, rfl⟩ : ∃ j, n = j + 1 := ⟨n - 1, by omega⟩
          obtain ⟨tx, tm, lx, lm, o1, w1, o6, wl⟩ := id ps
          have pn := tx.1
          by_cases e33 : pk T n0 p = 33 ∨ pk T n0 p = 40
          · have pl : p < n0 := by
              rcases e33 with e | e
              · exact (pk_is (v := 33) tp (by decide) e).1
              · exact (pk_is (v := 40) tp (by decide) e).1
            have eM : TS N (n + 1) hm = xX11_readsCondition_58 N (xX11_readsCondition_40 N n) hm := by
              unfold TS
              rw [xX11_readsCondition_40]
              dsimp only
              rw [here_e tp pn tm, cl_s]
              rcases e33 with e | e
              · rw [if_pos e]
              · rw [if_neg (by rw [e]; decide), here_e tp pn tm, cl_s, if_neg (fun z => z e)]
            rw [eM]
            unfold xX11_readsCondition_58 xX11_readsCondition_75
            rw [here_e tp pn tm, cl_s]
            by_cases ho : o < 6
            · have fx : fP hx (up hx 1 2 (hx.1 1 2 + 1)) := fP.up (Or.inl rfl)
              rcases e33 with e | e
              · -- a !
                obtain ⟨h', c1, c2, c3, c4, c5, c6⟩ := opens_t (k := 10) (by decide) tm o1 ho w1 (by omega) ℓ
                have ps' : PS T n0 (p + 1) ℓ (o + 1) ((10, 0) :: W) (up hx 1 2 (hx.1 1 2 + 1)) h' := ⟨tx.mv pl, c4, by rw [fx.1 20 (by decide)]; exact lx, by rw [c5]; exact lm, c2, c3, by omega, by rw [List.length_cons]; omega⟩
                rw [rt_not hN tp tx ho e, if_neg (fun z => z e), show xX11_opens 10 hm = _ from c1, cl_s, if_pos (show (1 : Int32) ≠ 0 from by decide)]
                rcases ihK (o + 1) (p + 1) ℓ ((10, 0) :: W) _ h' n (by omega) (by omega) ps' (fun e W' he => by cases he; omega) (fun z => by cases z) (by omega) (by omega) (by omega) with ⟨p', ℓ', x', m', E, n', mm, f', a1, a2, a3, a4, a5, a6, ⟨b1, b2', b3, b4, b5, CX, CM, b6, b7, b8, b9⟩⟩ | ⟨x', m', a1, a2, a3, a4, a5⟩
                · obtain ⟨tx2, tm2, lx2, lm2, o2, w2, o62, wl2⟩ := b1
                  have pn2 := tx2.1
                  rw [List.length_cons] at a5 wl2
                  obtain ⟨f', rfl⟩ : ∃ j, f' = j + 1 := ⟨f' - 1, by omega⟩
                  obtain ⟨m2, d1, d2, d3, d4, d5, d6, d7⟩ := ep_1 (N := N) (f := f') (o := o) w2 tm2 o2 lm2 (by omega) (by omega)
                  have ok : okI (10, 0) := ⟨by decide, by decide, fun z => by cases z⟩
                  have cX2 : CXh 21 22 (fun _ => (10, 0)) ℓ' (ℓ' + 1) (wrH x' ℓ' (10, 0)) := wrH_c ok rfl
                  have cM2 : CMh 9 (fun _ => (10, 0)) ℓ' (ℓ' + 1) m2 := fun k k1 k2 => by rw [show k = ℓ' by omega, d6]; exact ⟨ok, rfl⟩
                  refine Or.inl ⟨p', ℓ' + 1, wrH x' ℓ' (10, 0), m2, (fun F => ntE (E F)), n', mm, f', ?_, ?_, a3, a4, by omega, bl_not a6, ⟨wrH_T tx2, d3, wrH_l, d5, d4, d2, o6, by omega⟩, by omega, by omega, (fx.L ℓ).tr (Nat.le_refl _) (b4.tr b8.1 (wrH_f (Nat.le_refl _))), c6.tr (Nat.le_refl _) (b5.tr b8.1 d7), _, _, (b6.fr (wrH_f (Nat.le_refl ℓ')) (Nat.le_refl _)).glu cX2, (b7.fr d7 (Nat.le_refl _)).glu cM2, sg_not b8.gl (by rw [glu_r (Nat.le_refl _)]), sg_not b9.gl (by rw [glu_r (Nat.le_refl _)])⟩
                  · unfold pN
                    rw [a1, cl_s, if_neg (show ¬ (1 : Int32) = 0 from by decide), show xX2_write 33 0 x' = some (nI ℓ', wrH x' ℓ' (10, 0)) from wr_e (i := (10, 0)) (by omega) lx2 rfl rfl, cl_s, zok_1]
                  · show TS N n h' = _
                    rw [a2]
                    unfold BS
                    rw [d1]
                · refine Or.inr (bad.tr (Nat.le_refl ℓ) (fx.L ℓ) c6 ⟨x', m', ?_, a2, a3, a4, a5⟩)
                  unfold pN
                  rw [a1, cl_s, if_pos (show (0 : Int32) = 0 from rfl), zok_0]
              · -- a (
                obtain ⟨h', c1, c2, c3, c4, c5, c6⟩ := opens_t (k := 13) (by decide) tm o1 ho w1 (by omega) ℓ
                have ps' : PS T n0 (p + 1) ℓ (o + 1) ((13, 0) :: W) (up hx 1 2 (hx.1 1 2 + 1)) h' := ⟨tx.mv pl, c4, by rw [fx.1 20 (by decide)]; exact lx, by rw [c5]; exact lm, c2, c3, by omega, by rw [List.length_cons]; omega⟩
                rw [rt_par hN tp tx ho e, if_pos (show pk T n0 p ≠ 33 from by rw [e]; decide), show xX11_opens 13 hm = _ from c1, cl_s, if_pos (show (1 : Int32) ≠ 0 from by decide)]
                rcases ihC (o + 1) (p + 1) ℓ W _ h' n (by omega) (by omega) ps' (by omega) (by omega) (by omega) with ⟨p', ℓ', hx1, x', m', E, n', mm, a1, a1', a2, a3, a4, a6, ⟨b1, b2', b3, b4, b5, CX, CM, b6, b7, b8, b9⟩⟩ | ⟨x', m', a1, a2, a3, a4, a5⟩
                · rw [show o + 1 - 1 = o by omega] at b1
                  refine Or.inl ⟨p', ℓ', x', m', E, n', mm, N, ?_, ?_, a3, a4, by omega, a6, b1, by omega, by omega, (fx.L ℓ).tr (Nat.le_refl _) b4, c6.tr (Nat.le_refl _) b5, CX, CM, b6, b7, b8, b9⟩
                  · rw [a1, cl_s, if_neg (show ¬ (1 : Int32) = 0 from by decide), a1', cl_s, if_neg (show ¬ (1 : Int32) = 0 from by decide)]
                  · show TS N n h' = _
                    rw [a2, DS_B b1 hW0]
                · refine Or.inr (bad.tr (Nat.le_refl ℓ) (fx.L ℓ) c6 ⟨x', m', ?_, a2, a3, a4, a5⟩)
                  rcases a1 with z | ⟨hx1, z1, z2⟩
                  · rw [z, cl_s, if_pos (show (0 : Int32) = 0 from rfl)]
                  · rw [z1, cl_s, if_neg (show ¬ (1 : Int32) = 0 from by decide), z2, cl_s, if_pos (show (0 : Int32) = 0 from rfl)]
            · have o6' : o = 6 := by omega
              subst o6'
              refine Or.inr (bad.mk (v := (-1000) * 5 - nI p) (Nat.le_refl ℓ) ?_ ?_ (fL.rf _ _) (gL.rf _ _))
              · rw [rt_deep hN tp tx e33, ref_e, cl_s, zok_0, tx.2.1]
              · rw [opens_f tm o1, opens_f tm o1, cl_s, if_neg (show ¬ (0 : Int32) ≠ 0 from by decide), zok_0]
                split <;> rfl
          · exact test_c hN tp (by omega) ps hW hp hl (by omega) (fun z => e33 (Or.inl z)) (fun z => e33 (Or.inr z))
      exact key (6 - o + 1) o p ℓ W hx hm n (by omega) hd ps hW hW0 hp hl hn
end TSR
