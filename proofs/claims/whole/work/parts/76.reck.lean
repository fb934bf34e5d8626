section RKM
variable {N : Nat} {C : Nat → Nat × Nat} {F : Nat → Int32} {first last : Nat}
def rkD (N n : Nat) (a2 a3 a4 v6 v3 v5 : Int32) (h : HP) : Option (Int32 × HP) :=
      if v3 = 0 then
        (xX11_reckonsTo_63 N (xX11_reckonsTo_16 N n) a2 a3 a4 v6 v3 v5 h)
      else
        (if v3 ≠ (1) then
          (if v3 ≠ (10) then
            (if v3 = (11) then
              (xX11_reckonsTo_135 N (xX11_reckonsTo_16 N n) a2 a3 a4 v6 v3 v5 h)
            else
              (if v3 ≠ (12) then
                (lt (a3 - 1) fun v7 =>
                if v3 = (5) then
                  (xX11_reckonsTo_192 N (xX11_reckonsTo_16 N n) a2 v7 a4 v6 v3 h)
                else
                  (if v3 ≠ (6) then
                    (xX11_reckonsTo_203 N (xX11_reckonsTo_16 N n) a2 v7 a4 v6 v3 h)
                  else
                    (xX11_reckonsTo_192 N (xX11_reckonsTo_16 N n) a2 v7 a4 v6 v3 h)))
              else
                (xX11_reckonsTo_135 N (xX11_reckonsTo_16 N n) a2 a3 a4 v6 v3 v5 h)))
          else
            (ald h 20 260 (a3 - 1) fun t8 =>
            ast h 20 260 (a3 - 1) (1 - t8) fun h9 =>
            xX11_reckonsTo_230 N (xX11_reckonsTo_16 N n) a2 a3 a4 v6 h9))
        else
          (xX11_reckonsTo_63 N (xX11_reckonsTo_16 N n) a2 a3 a4 v6 v3 v5 h))
theorem rkD_e {n q : Nat} {i : Nat × Nat} {t a4 : Int32} {h : HP} (hl : last ≤ 240) (hq : q < last) (ho : i.1 ≤ 12) (hv : i.2 < 100000) (h15 : h.1 15 q = nI (1048576 * i.1 + i.2)) : xX11_reckonsTo_16 N (n + 1) (nI last) t a4 (nI q) h = rkD N n (nI last) t a4 (nI (q + 1)) (nI i.1) (nI i.2) h := by
  rw [xX11_reckonsTo_16]
  dsimp only
  rw [if_neg (by rw [le_nn (by omega) (by omega)]; omega), ald_n (by omega) (by decide), lt_e, ald_n (by omega) (by decide), lt_e, lt_e, nI_1, h15, l1048576, div_nn (by omega) (by decide) (by decide), rem_nn (by omega) (by decide) (by decide), show (1048576 * i.1 + i.2) / 1048576 = i.1 by omega, show (1048576 * i.1 + i.2) % 1048576 = i.2 by omega]
  rfl
def rval (r : Option Int32) : Int32 := match r with
  | some v => v
  | none => 0
theorem i_ne {a b : Nat} (ha : a < 2147483648) (hb : b < 2147483648) (h : a ≠ b) : nI a ≠ nI b := fun z => h ((eq_nn ha hb).mp z)
theorem reckM (hl : last ≤ 240) : ∀ n q s r h, run C F last n q s = some r → CMh 15 C first last h → (∀ i, i < 10 → h.1 21 i = F i) → stk h 20 s → s.length + first ≤ q → q < 200000 → ∃ h', xX11_reckonsTo_16 N n (nI last) (nI s.length) 0 (nI q) h = some (rval r, h') ∧ ∀ k, k ≠ 20 → h'.1 k = h.1 k := by
  intro n
  induction n with
  | zero => intro q s r h e; cases e
  | succ n ih =>
    intro q s r h e hc hf hs hsl hq2
    rw [run_s] at e
    by_cases hq : last ≤ q
    · rw [if_pos hq] at e
      cases s with
      | nil => cases e
      | cons v s =>
        cases s with
        | cons x s => cases e
        | nil =>
          cases e
          refine ⟨h, ?_, fun _ _ => rfl⟩
          rw [xX11_reckonsTo_16]
          dsimp only
          rw [if_pos (by rw [le_nn (by omega) (by omega)]; exact hq), show ald h 20 260 0 (fun t1 => some (t1, h)) = some (h.1 20 0, h) from ald_n (i := 0) (by decide) (by decide), show h.1 20 0 = v from hs.1]
          rfl
    · rw [if_neg hq] at e
      obtain ⟨⟨o1, o2, o3⟩, c2⟩ := hc q (by omega) (by omega)
      have hcw : ∀ h' : HP, (∀ k, k ≠ 20 → h'.1 k = h.1 k) → CMh 15 C first last h' := fun h' f k k1 k2 => by
        obtain ⟨a, b⟩ := hc k k1 k2
        exact ⟨a, by rw [f 15 (by decide)]; exact b⟩
      generalize hi : C q = i at *
      rw [rkD_e (i := i) hl (by omega) o1 o2 c2]
      have tail : ∀ q' s' (h1 : HP), (∀ k, k ≠ 20 → h1.1 k = h.1 k) → stk h1 20 s' → q < q' → q' < 200000 → s'.length + first ≤ q' → run C F last n q' s' = some r → ∃ h', xX11_reckonsTo_16 N n (nI last) (nI s'.length) 0 (nI q') h1 = some (rval r, h') ∧ ∀ k, k ≠ 20 → h'.1 k = h.1 k := by
        intro q' s' h1 f1 s1 y1 y2 y3 e1
        obtain ⟨h', g1, g2⟩ := ih q' s' r h1 e1 (hcw _ f1) (fun i hi => by rw [f1 21 (by decide)]; exact hf i hi) s1 y3 y2
        exact ⟨h', g1, fun k hk => by rw [g2 k hk, f1 k hk]⟩
      have push : ∀ x, run C F last n (q + 1) (x :: s) = some r → ∃ h', xX11_reckonsTo_85 N (xX11_reckonsTo_16 N n) (nI last) (nI s.length) 0 (nI (q + 1)) (nI s.length) x h = some (rval r, h') ∧ ∀ k, k ≠ 20 → h'.1 k = h.1 k := by
        intro x e1
        unfold xX11_reckonsTo_85 xX11_reckonsTo_230
        rw [ast_n (by omega) (by decide), lt_e, nI_1]
        exact tail (q + 1) (x :: s) (up h 20 s.length x) (fun k hk => up_n hk) ⟨by rw [up_at, if_pos ⟨rfl, rfl⟩], stk.up (Nat.le_refl _) hs⟩ (by omega) (by omega) (by show s.length + 1 + first ≤ q + 1; omega) e1
      unfold stp at e
      unfold rkD
      by_cases z0 : i.1 = 0
      · rw [if_pos z0] at e
        unfold xX11_reckonsTo_63
        rw [z0, if_pos (by decide), if_neg (by decide)]
        exact push _ e
      rw [if_neg z0] at e
      rw [if_neg (show ¬ nI i.1 = (0 : Int32) from i_ne (b := 0) (by omega) (by decide) z0)]
      by_cases z1 : i.1 = 1
      · rw [if_pos z1] at e
        have := o3 z1
        unfold xX11_reckonsTo_63
        rw [z1, if_neg (by decide), if_pos (by decide), ald_n this (by decide), hf _ this]
        exact push _ e
      rw [if_neg z1] at e
      rw [if_pos (show nI i.1 ≠ (1 : Int32) from i_ne (b := 1) (by omega) (by decide) z1)]
      by_cases z2 : i.1 = 10
      · rw [if_pos z2] at e
        cases s with
        | nil => cases e
        | cons x s =>
          have hsl : s.length + 1 + first ≤ q := hsl
          have sl : (x :: s).length = s.length + 1 := rfl
          unfold xX11_reckonsTo_230
          rw [z2, if_neg (by decide), sl, sub_1 (by omega), show s.length + 1 - 1 = s.length by omega, ald_n (by omega) (by decide), ast_n (by omega) (by decide), show h.1 20 s.length = x from hs.1]
          exact tail (q + 1) ((1 - x) :: s) _ (fun k hk => up_n hk) ⟨by rw [up_at, if_pos ⟨rfl, rfl⟩], stk.up (Nat.le_refl _) hs.2⟩ (by omega) (by omega) (by show s.length + 1 + first ≤ q + 1; omega) e
      rw [if_neg z2] at e
      rw [if_pos (show nI i.1 ≠ (10 : Int32) from i_ne (b := 10) (by omega) (by decide) z2)]
      by_cases z3 : i.1 = 11
      · rw [if_pos z3] at e
        cases s with
        | nil => cases e
        | cons x s =>
          have hsl : s.length + 1 + first ≤ q := hsl
          have sl : (x :: s).length = s.length + 1 := rfl
          unfold xX11_reckonsTo_135 xX11_reckonsTo_155 xX11_reckonsTo_230
          rw [z3, if_pos (by decide), sl, sub_1 (by omega), show s.length + 1 - 1 = s.length by omega, ald_n (by omega) (by decide), if_pos (by decide), show h.1 20 s.length = x from hs.1]
          simp only [stp1] at e
          by_cases y : x = 0
          · rw [if_pos y] at e
            by_cases y2 : q < i.2
            · rw [if_pos y2] at e
              rw [if_neg (fun k => k y), lt_e, l0, add_nn, Nat.zero_add]
              exact tail i.2 (x :: s) h (fun _ _ => rfl) hs y2 (by omega) (by rw [sl]; omega) e
            · rw [if_neg y2] at e; cases e
          · rw [if_neg y] at e
            rw [if_pos y, lt_e]
            exact tail (q + 1) s h (fun _ _ => rfl) hs.2 (by omega) (by omega) (by omega) e
      rw [if_neg z3] at e
      rw [if_neg (show ¬ nI i.1 = (11 : Int32) from i_ne (b := 11) (by omega) (by decide) z3)]
      by_cases z4 : i.1 = 12
      · rw [if_pos z4] at e
        cases s with
        | nil => cases e
        | cons x s =>
          have hsl : s.length + 1 + first ≤ q := hsl
          have sl : (x :: s).length = s.length + 1 := rfl
          unfold xX11_reckonsTo_135 xX11_reckonsTo_155 xX11_reckonsTo_230
          rw [z4, if_neg (by decide), sl, sub_1 (by omega), show s.length + 1 - 1 = s.length by omega, ald_n (by omega) (by decide), if_neg (by decide), show h.1 20 s.length = x from hs.1]
          simp only [stp1] at e
          by_cases y : x = 1
          · rw [if_pos y] at e
            by_cases y2 : q < i.2
            · rw [if_pos y2] at e
              rw [if_neg (fun k => k y), lt_e, l0, add_nn, Nat.zero_add]
              exact tail i.2 (x :: s) h (fun _ _ => rfl) hs y2 (by omega) (by rw [sl]; omega) e
            · rw [if_neg y2] at e; cases e
          · rw [if_neg y] at e
            rw [if_pos y, lt_e]
            exact tail (q + 1) s h (fun _ _ => rfl) hs.2 (by omega) (by omega) (by omega) e
      rw [if_neg z4] at e
      rw [if_pos (show nI i.1 ≠ (12 : Int32) from i_ne (b := 12) (by omega) (by decide) z4), lt_e]
      by_cases z5 : i.1 < 10
      · rw [if_pos z5] at e
        cases s with
        | nil => cases e
        | cons y s =>
          cases s with
          | nil => cases e
          | cons x s =>
            have hsl : s.length + 1 + 1 + first ≤ q := hsl
            have sl : (y :: x :: s).length = s.length + 1 + 1 := rfl
            have hs1 : h.1 20 (s.length + 1) = y := hs.1
            have hs2 : h.1 20 s.length = x := hs.2.1
            rw [sl, sub_1 (by omega), show s.length + 1 + 1 - 1 = s.length + 1 by omega]
            simp only [stp2] at e
            have e192 : y = 0 → xX11_reckonsTo_192 N (xX11_reckonsTo_16 N n) (nI last) (nI (s.length + 1)) 0 (nI (q + 1)) (nI i.1) h = some (0, h) := fun y0 => by
              unfold xX11_reckonsTo_192
              rw [ald_n (by omega) (by decide), hs1, if_neg (fun k => k y0)]
            have f192 : y ≠ 0 → xX11_reckonsTo_192 N (xX11_reckonsTo_16 N n) (nI last) (nI (s.length + 1)) 0 (nI (q + 1)) (nI i.1) h = xX11_reckonsTo_203 N (xX11_reckonsTo_16 N n) (nI last) (nI (s.length + 1)) 0 (nI (q + 1)) (nI i.1) h := fun y0 => by
              unfold xX11_reckonsTo_192
              rw [ald_n (by omega) (by decide), hs1, if_pos y0]
            by_cases w : (i.1 = 5 ∨ i.1 = 6) ∧ y = 0
            · rw [if_pos w] at e
              cases e
              refine ⟨h, ?_, fun _ _ => rfl⟩
              by_cases o5 : i.1 = 5
              · rw [if_pos (by rw [o5]; rfl), e192 w.2]; rfl
              · rw [if_neg (show ¬ nI i.1 = (5 : Int32) from i_ne (b := 5) (by omega) (by decide) o5), if_neg (by rw [show i.1 = 6 by omega]; exact fun k => k rfl), e192 w.2]; rfl
            · rw [if_neg w] at e
              have t2 := tail (q + 1) (rck i.1 x y :: s) (up h 20 s.length (rck i.1 x y)) (fun k hk => up_n hk) ⟨by rw [up_at, if_pos ⟨rfl, rfl⟩], stk.up (Nat.le_refl _) hs.2.2⟩ (by omega) (by omega) (by show s.length + 1 + first ≤ q + 1; omega) e
              have g : xX11_reckonsTo_203 N (xX11_reckonsTo_16 N n) (nI last) (nI (s.length + 1)) 0 (nI (q + 1)) (nI i.1) h = xX11_reckonsTo_16 N n (nI last) (nI (s.length + 1)) 0 (nI (q + 1)) (up h 20 s.length (rck i.1 x y)) := by
                unfold xX11_reckonsTo_203 xX11_reckonsTo_230
                rw [sub_1 (by omega), show s.length + 1 - 1 = s.length by omega, ald_n (by omega) (by decide), ald_n (by omega) (by decide), hs1, hs2, reckM_e h x y (by omega) z5 w, cl_s, ast_n (by omega) (by decide)]
              by_cases o5 : i.1 = 5
              · rw [if_pos (by rw [o5]; rfl), f192 (fun y0 => w ⟨Or.inl o5, y0⟩), g]; exact t2
              · rw [if_neg (show ¬ nI i.1 = (5 : Int32) from i_ne (b := 5) (by omega) (by decide) o5)]
                by_cases o6 : i.1 = 6
                · rw [if_neg (by rw [o6]; exact fun k => k rfl), f192 (fun y0 => w ⟨Or.inr o6, y0⟩), g]; exact t2
                · rw [if_pos (show nI i.1 ≠ (6 : Int32) from i_ne (b := 6) (by omega) (by decide) o6), g]; exact t2
      · rw [if_neg z5] at e; cases e
end RKM
