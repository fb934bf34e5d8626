section WKX
variable {N : Nat} {C : Nat → Nat × Nat} {F : Nat → Int32} {first last : Nat}
def wkD (N n : Nat) (a2 a3 v3 a5 t1 t2 : Int32) (h5 : HP) : Option (Int32 × HP) :=
            (if t1 = (48) then
              (xX8_work_83 N (xX8_work_8 N n) a2 a3 v3 a5 t1 t2 h5)
            else
              (if t1 ≠ (97) then
                (if t1 ≠ (33) then
                  (if t1 = (38) then
                    (xX8_work_155 N (xX8_work_8 N n) a2 a3 v3 a5 t1 t2 h5)
                  else
                    (if t1 ≠ (124) then
                      (lt (a3 + (-1)) fun v6 =>
                      ald h5 44 240 v6 fun t7 =>
                      if t7 ≠ 0 then
                        (xX8_work_247 N (xX8_work_8 N n) a2 v6 v3 a5 t1 t7 h5)
                      else
                        (if t1 = (47) then
                          (xX8_work_245 N h5)
                        else
                          (if t1 ≠ (37) then
                            (xX8_work_247 N (xX8_work_8 N n) a2 v6 v3 a5 t1 t7 h5)
                          else
                            (xX8_work_245 N h5))))
                    else
                      (xX8_work_155 N (xX8_work_8 N n) a2 a3 v3 a5 t1 t2 h5)))
                else
                  (ald h5 44 240 (a3 - 1) fun t8 =>
                  ast h5 44 240 (a3 - 1) (1 - t8) fun h9 =>
                  xX8_work_270 N (xX8_work_8 N n) a2 a3 v3 a5 h9))
              else
                (xX8_work_83 N (xX8_work_8 N n) a2 a3 v3 a5 t1 t2 h5)))
theorem wkD_e {n q wk t o : Nat} {v : Int32} {h : HP} (hl : last ≤ 240) (hq : q < last) (hw : wk < 240) (ht : t < 240) (ho : o ≤ 12) (h14 : h.1 14 q = nI (sgn o)) (h15 : h.1 15 q = v) (hn : ned o ≤ t) : xX8_work_8 N (n + 1) (nI last) (nI t) (nI q) (nI wk) h = wkD N n (nI last) (nI t) (nI (q + 1)) (nI wk) (nI (sgn o)) v h := by
  rw [xX8_work_8]
  dsimp only
  rw [if_neg (by rw [l240, le_nn (by decide) (by omega)]; omega), if_neg (by rw [le_nn (by omega) (by omega)]; omega), ald_n (by omega) (by decide), ald_n (by omega) (by decide), lt_e, nI_1, h14, h15, needed_e h ho, cl_s, if_neg (by rw [lt_nn (by omega) (by unfold ned; split <;> (try split) <;> omega)]; omega), if_pos (by rw [l240, lt_nn (by omega) (by decide)]; exact ht)]
  rfl
theorem wk_end {n q wk : Nat} {v : Int32} {h : HP} (hl : last ≤ 240) (hq : last ≤ q) (hq2 : q < 200000) (hv : h.1 44 0 = v) (t : Int32) : xX8_work_8 N (n + 1) (nI last) t (nI q) (nI wk) h = some (1, up h 43 6 v) := by
  have e : xX8_work_276 N h = some (1, up h 43 6 v) := by
    unfold xX8_work_276
    rw [show ald h 44 240 0 (fun t1 => lt (up h 43 6 t1) fun h2 => zok 1 (some ((1 : Int32), h2))) = (lt (up h 43 6 (h.1 44 0)) fun h2 => zok 1 (some ((1 : Int32), h2))) from ald_n (i := 0) (by decide) (by decide), lt_e, zok_1, hv]
  rw [xX8_work_8]
  dsimp only
  by_cases z : (240 : Int32) ≤ nI wk
  · rw [if_pos z]; exact e
  · rw [if_neg z, if_pos (by rw [le_nn (by omega) (by omega)]; exact hq)]; exact e
theorem add_m1 {t : Nat} (h : 1 ≤ t) : nI t + (-1) = nI (t - 1) := by
  obtain ⟨k, rfl⟩ : ∃ k, t = k + 1 := ⟨t - 1, by omega⟩
  rw [pk_m1, show k + 1 - 1 = k by omega]
theorem sub_1 {t : Nat} (h : 1 ≤ t) : nI t - 1 = nI (t - 1) := by rw [l1, sub_nn h]
theorem vlX_n {i : Nat × Nat} (h : i.1 ≠ 1) : vlX i = nI i.2 := by unfold vlX; rw [if_neg h]
theorem vlX_1 {i : Nat × Nat} (h : i.1 = 1) : vlX i = nI (lch i.2) := by unfold vlX; rw [if_pos h]
def rbit (r : Option Int32) : Int32 := match r with
  | some _ => 1
  | none => 0
theorem workX (hl : last ≤ 240) : ∀ n q s r wk h, run C F last n q s = some r → CXh 14 15 C first last h → FcX N F h → stk h 44 s → wk + first ≤ q → q < 200000 → s.length ≤ wk → ∃ h', xX8_work_8 N n (nI last) (nI s.length) (nI q) (nI wk) h = some (rbit r, h') ∧ fW h h' ∧ ∀ v, r = some v → h'.1 43 6 = v := by
  intro n
  induction n with
  | zero => intro q s r wk h e; cases e
  | succ n ih =>
    intro q s r wk h e hc hf hs hw hq2 hsl
    rw [run_s] at e
    by_cases hq : last ≤ q
    · rw [if_pos hq] at e
      cases s with
      | nil => cases e
      | cons v s =>
        cases s with
        | cons x s => cases e
        | nil =>
          cases e
          rw [wk_end (v := v) hl hq hq2 hs.1]
          exact ⟨_, rfl, fW.up43, fun x z => by cases z; rw [up_at, if_pos ⟨rfl, rfl⟩]⟩
    · rw [if_neg hq] at e
      obtain ⟨⟨o1, o2, o3⟩, c1, c2⟩ := hc q (by omega) (by omega)
      have hcw : ∀ h', fW h h' → CXh 14 15 C first last h' := fun h' f k k1 k2 => by
        obtain ⟨a, b, c⟩ := hc k k1 k2
        exact ⟨a, by rw [f.1 14 (by decide) (by decide)]; exact b, by rw [f.1 15 (by decide) (by decide)]; exact c⟩
      generalize hi : C q = i at *
      have push : ∀ x h1, fW h h1 → stk h1 44 s → run C F last n (q + 1) (x :: s) = some r → ∃ h', xX8_work_106 N (xX8_work_8 N n) (nI last) (nI s.length) (nI (q + 1)) (nI wk) (nI s.length) x h1 = some (rbit r, h') ∧ fW h h' ∧ ∀ v, r = some v → h'.1 43 6 = v := by
        intro x h1 f1 s1 e1
        unfold xX8_work_106 xX8_work_270
        rw [ast_n (by omega) (by decide), lt_e, nI_1, lt_e, nI_1]
        have f2 := f1.tr (fW.up44 (i := s.length) (v := x))
        obtain ⟨h', g1, g2, g3⟩ := ih (q + 1) (x :: s) r (wk + 1) (up h1 44 s.length x) e1 (hcw _ f2) (hf.fW f2) ⟨by rw [up_at, if_pos ⟨rfl, rfl⟩], stk.up (Nat.le_refl _) s1⟩ (by omega) (by omega) (by show s.length + 1 ≤ wk + 1; omega)
        exact ⟨h', g1, f2.tr g2, g3⟩
      unfold stp at e
      by_cases z0 : i.1 = 0
      · rw [if_pos z0] at e
        rw [wkD_e (o := 0) hl (by omega) (by omega) (by omega) (by decide) (by rw [c1, z0]) c2 (Nat.zero_le _)]
        unfold wkD xX8_work_83
        rw [if_pos (by decide), if_neg (by decide), vlX_n (by omega)]
        exact push _ h (fW.rf h) hs e
      rw [if_neg z0] at e
      by_cases z1 : i.1 = 1
      · rw [if_pos z1] at e
        rw [wkD_e (o := 1) hl (by omega) (by omega) (by omega) (by decide) (by rw [c1, z1]) c2 (Nat.zero_le _)]
        unfold wkD xX8_work_83
        rw [if_neg (by decide), if_neg (by decide), if_pos (by decide), vlX_1 z1, hf _ (o3 z1) h (fW.rf h), cl_s]
        exact push _ h (fW.rf h) hs e
      rw [if_neg z1] at e
      have tail : ∀ q' s' h1, fW h h1 → stk h1 44 s' → q < q' → q' < 200000 → s'.length ≤ wk + 1 → run C F last n q' s' = some r → ∃ h', xX8_work_8 N n (nI last) (nI s'.length) (nI q') (nI (wk + 1)) h1 = some (rbit r, h') ∧ fW h h' ∧ ∀ v, r = some v → h'.1 43 6 = v := by
        intro q' s' h1 f1 s1 y1 y2 y3 e1
        obtain ⟨h', g1, g2, g3⟩ := ih q' s' r (wk + 1) h1 e1 (hcw _ f1) (hf.fW f1) s1 (by omega) y2 y3
        exact ⟨h', g1, f1.tr g2, g3⟩
      by_cases z2 : i.1 = 10
      · rw [if_pos z2] at e
        cases s with
        | nil => cases e
        | cons x s =>
          have hsl : s.length + 1 ≤ wk := hsl
          have sl : (x :: s).length = s.length + 1 := rfl
          rw [wkD_e (o := 10) hl (by omega) (by omega) (by omega) (by decide) (by rw [c1, z2]) c2 (by rw [sl]; show 1 ≤ _; omega)]
          unfold wkD xX8_work_270
          rw [if_neg (by decide), if_pos (by decide), if_neg (by decide), sl, sub_1 (by omega), show s.length + 1 - 1 = s.length by omega, ald_n (by omega) (by decide), ast_n (by omega) (by decide), lt_e, nI_1, hs.1]
          exact tail (q + 1) ((1 - x) :: s) _ fW.up44 ⟨by rw [up_at, if_pos ⟨rfl, rfl⟩], stk.up (Nat.le_refl _) hs.2⟩ (by omega) (by omega) (by show s.length + 1 ≤ wk + 1; omega) e
      rw [if_neg z2] at e
      by_cases z3 : i.1 = 11
      · rw [if_pos z3] at e
        cases s with
        | nil => cases e
        | cons x s =>
          have hsl : s.length + 1 ≤ wk := hsl
          have sl : (x :: s).length = s.length + 1 := rfl
          rw [wkD_e (o := 11) hl (by omega) (by omega) (by omega) (by decide) (by rw [c1, z3]) c2 (by rw [sl]; show 1 ≤ _; omega)]
          unfold wkD xX8_work_155 xX8_work_175 xX8_work_183 xX8_work_197 xX8_work_211 xX8_work_270
          rw [if_neg (by decide), if_pos (by decide), if_pos (by decide), if_pos (by decide), sl, sub_1 (by omega), show s.length + 1 - 1 = s.length by omega, ald_n (by omega) (by decide), if_neg (by decide), hs.1, vlX_n (by omega)]
          simp only [stp1] at e
          by_cases y : x = 0
          · rw [if_pos y] at e
            by_cases y2 : q < i.2
            · rw [if_pos y2] at e
              rw [if_neg (fun k => k y), if_neg (show ¬ (1 : Int32) = 0 from by decide), if_neg (show ¬ (1 : Int32) = 0 from by decide), lt_e, nI_1]
              exact tail i.2 (x :: s) h (fW.rf h) hs y2 (by omega) (by rw [sl]; omega) e
            · rw [if_neg y2] at e; cases e
          · rw [if_neg y] at e
            rw [if_pos y, if_pos (show (0 : Int32) = 0 from rfl), if_pos (show (0 : Int32) = 0 from rfl), lt_e, nI_1]
            exact tail (q + 1) s h (fW.rf h) hs.2 (by omega) (by omega) (by omega) e
      rw [if_neg z3] at e
      by_cases z4 : i.1 = 12
      · rw [if_pos z4] at e
        cases s with
        | nil => cases e
        | cons x s =>
          have hsl : s.length + 1 ≤ wk := hsl
          have sl : (x :: s).length = s.length + 1 := rfl
          rw [wkD_e (o := 12) hl (by omega) (by omega) (by omega) (by decide) (by rw [c1, z4]) c2 (by rw [sl]; show 1 ≤ _; omega)]
          unfold wkD xX8_work_155 xX8_work_175 xX8_work_183 xX8_work_197 xX8_work_211 xX8_work_270
          rw [if_neg (by decide), if_pos (by decide), if_pos (by decide), if_neg (by decide), if_neg (by decide), sl, sub_1 (by omega), show s.length + 1 - 1 = s.length by omega, ald_n (by omega) (by decide), if_pos (by decide), hs.1, vlX_n (by omega)]
          simp only [stp1] at e
          by_cases y : x = 1
          · rw [if_pos y] at e
            by_cases y2 : q < i.2
            · rw [if_pos y2] at e
              rw [if_neg (fun k => k y), if_neg (show ¬ (1 : Int32) = 0 from by decide), if_neg (show ¬ (1 : Int32) = 0 from by decide), lt_e, nI_1]
              exact tail i.2 (x :: s) h (fW.rf h) hs y2 (by omega) (by rw [sl]; omega) e
            · rw [if_neg y2] at e; cases e
          · rw [if_neg y] at e
            rw [if_pos y, if_pos (show (0 : Int32) = 0 from rfl), if_pos (show (0 : Int32) = 0 from rfl), lt_e, nI_1]
            exact tail (q + 1) s h (fW.rf h) hs.2 (by omega) (by omega) (by omega) e
      rw [if_neg z4] at e
      by_cases z5 : i.1 < 10
      · rw [if_pos z5] at e
        obtain ⟨b1, b2', b3, b4, b5, b6, b7⟩ := sgn_b i.1 z5 (by omega)
        have n2 : ned i.1 = 2 := by unfold ned; rw [if_neg (by omega), if_neg (by omega)]
        cases s with
        | nil => cases e
        | cons y s =>
          cases s with
          | nil => cases e
          | cons x s =>
            have hsl : s.length + 1 + 1 ≤ wk := hsl
            have sl : (y :: x :: s).length = s.length + 1 + 1 := rfl
            have hs1 : h.1 44 (s.length + 1) = y := hs.1
            have hs2 : h.1 44 s.length = x := hs.2.1
            rw [wkD_e (o := i.1) hl (by omega) (by omega) (by omega) (by omega) c1 c2 (by rw [sl, n2]; omega)]
            unfold wkD xX8_work_245 xX8_work_247 xX8_work_270
            rw [if_neg b1, if_pos b2', if_pos b3, if_neg b4, if_pos b5, lt_e, sl, add_m1 (by omega), show s.length + 1 + 1 - 1 = s.length + 1 by omega, ald_n (by omega) (by decide), hs1, sub_1 (by omega), show s.length + 1 - 1 = s.length by omega, ald_n (by omega) (by decide), hs2]
            simp only [stp2] at e
            by_cases w : (i.1 = 5 ∨ i.1 = 6) ∧ y = 0
            · rw [if_pos w] at e
              cases e
              refine ⟨h, ?_, fW.rf h, fun v k => by cases k⟩
              rw [if_neg (fun k => k w.2)]
              by_cases o5 : i.1 = 5
              · rw [if_pos (b6.mpr o5), zok_0]; rfl
              · rw [if_neg (fun k => o5 (b6.mp k)), if_neg (fun k => k (b7.mpr (by omega))), zok_0]; rfl
            · rw [if_neg w] at e
              have t2 := tail (q + 1) (rck i.1 x y :: s) (up h 44 s.length (rck i.1 x y)) fW.up44 ⟨by rw [up_at, if_pos ⟨rfl, rfl⟩], stk.up (Nat.le_refl _) hs.2.2⟩ (by omega) (by omega) (by show s.length + 1 ≤ wk + 1; omega) e
              have g : (cl (xX8_reckon (nI (sgn i.1)) x y h) fun t2 h3 => ast h3 44 240 (nI s.length) t2 fun h4 => lt (nI wk + 1) fun v1 => xX8_work_8 N n (nI last) (nI (s.length + 1)) (nI (q + 1)) v1 h4) = xX8_work_8 N n (nI last) (nI (s.length + 1)) (nI (q + 1)) (nI (wk + 1)) (up h 44 s.length (rck i.1 x y)) := by
                rw [reckX_e h x y (by omega) z5 w, cl_s, ast_n (by omega) (by decide), lt_e, nI_1]
              rw [g]
              by_cases y0 : y = 0
              · rw [if_neg (fun k => k y0), if_neg (fun k => w ⟨Or.inl (b6.mp k), y0⟩), if_pos (fun k => w ⟨Or.inr (b7.mp k), y0⟩)]
                exact t2
              · rw [if_pos y0]; exact t2
      · rw [if_neg z5] at e; cases e
end WKX
