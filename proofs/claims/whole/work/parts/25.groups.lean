/-! ===== groups ===== -/
def cn (A : AS) (act : Nat → Bool) (x y : Nat) : Prop := ∃ g, rc A act x g y
section CN
variable {A : AS} {act : Nat → Bool}
theorem cn.rf (x : Nat) : cn A act x x := ⟨0, rfl⟩
theorem rc_tr {x y : Nat} {g : Nat} (h : rc A act x g y) : ∀ k z, rc A act y k z → rc A act x (g + k) z := by
  intro k
  induction k with
  | zero => intro z q; rw [show z = y from q]; exact h
  | succ k ih =>
    intro z q
    rcases q with q | ⟨u, q1, q2⟩
    · exact Or.inl (ih z q)
    · exact Or.inr ⟨u, ih u q1, q2⟩
theorem cn.tr {x y z : Nat} (h1 : cn A act x y) (h2 : cn A act y z) : cn A act x z := by
  obtain ⟨g, h1⟩ := h1
  obtain ⟨k, h2⟩ := h2
  exact ⟨g + k, rc_tr h1 k z h2⟩
theorem cn.ad {x y : Nat} (h : ad A act x y) : cn A act x y := ⟨1, Or.inr ⟨x, rfl, h⟩⟩
theorem cn.sy (w : WFt A) {x : Nat} : ∀ g y, rc A act x g y → cn A act y x := by
  intro g
  induction g with
  | zero => intro y h; rw [show y = x from h]; exact cn.rf x
  | succ g ih =>
    intro y h
    rcases h with h | ⟨z, h1, h2⟩
    · exact ih y h
    · exact (cn.ad (ad_sym w h2)).tr (ih z h1)
theorem cn.symm (w : WFt A) {x y : Nat} (h : cn A act x y) : cn A act y x := by
  obtain ⟨g, h⟩ := h
  exact cn.sy w g y h
end CN
def rep (A : AS) (act : Nat → Bool) (c : Nat) : Prop := (A 0 0).testBit c = true ∧ ∀ x, x < c → (A 0 0).testBit x = true → ¬ cn A act x c
noncomputable def gp (A : AS) (act : Nat → Bool) : Nat → Nat
  | 0 => 0
  | c + 1 => gp A act c + @ite _ (rep A act c) (Classical.propDecidable _) 1 0
section GP
variable {A : AS} {act : Nat → Bool} {N : Nat}
theorem gp_t {c : Nat} (h : rep A act c) : gp A act (c + 1) = gp A act c + 1 := by simp [gp, h]
theorem gp_f {c : Nat} (h : ¬ rep A act c) : gp A act (c + 1) = gp A act c := by simp [gp, h]
theorem gp_le : ∀ c, gp A act c ≤ c := by
  intro c
  induction c with
  | zero => exact Nat.le_refl _
  | succ c ih =>
    by_cases h : rep A act c
    · rw [gp_t h]; omega
    · rw [gp_f h]; omega
theorem gp_same {m : Nat} : ∀ k, (∀ c, m ≤ c → c < m + k → ¬ rep A act c) → gp A act (m + k) = gp A act m := by
  intro k
  induction k with
  | zero => intro _; rfl
  | succ k ih =>
    intro h
    rw [← Nat.add_assoc, gp_f (h (m + k) (by omega) (by omega)), ih (fun c h1 h2 => h c h1 (by omega))]
/-- the told ones that nothing below m hangs together with -/
def RT (A : AS) (act : Nat → Bool) (m R : Nat) : Prop := R < 65536 ∧ ∀ x, R.testBit x = true ↔ ((A 0 0).testBit x = true ∧ ∀ y, y < m → (A 0 0).testBit y = true → ¬ cn A act y x)
theorem groupsX_l {op : Nat} (hN : 100 ≤ N) (w : WFt A) (w1 : A 0 0 < 65536) {h0 : HP} (hnr : NR A op h0) : ∀ n i m R h, i ≤ 16 → 16 - i < n → sF h0 h → RT A (am op) m R → m ≤ 16 → i = gp A (am op) m → ∃ h', xX3_groups_18 N n (nI i) (nI R) (nI i) h = some (nI (gp A (am op) 16), h') ∧ sF h0 h' := by
  intro n
  induction n with
  | zero => intro i m R h _ q; omega
  | succ n ih =>
    intro i m R h hi hq hs hR hm he
    rw [xX3_groups_18]
    dsimp only
    unfold xX3_groups_51
    by_cases hz : R = 0
    · have hno : ∀ c, m ≤ c → c < m + (16 - m) → ¬ rep A (am op) c := by
        intro c h1 h2 hr
        have := (hR.2 c).mpr ⟨hr.1, fun y hy ht => hr.2 y (by omega) ht⟩
        rw [hz] at this
        simp at this
      have hg := gp_same (16 - m) hno
      rw [show m + (16 - m) = 16 by omega] at hg
      rw [hg, ← he]
      by_cases e : i = 16
      · rw [if_pos (by rw [l16, e, le_nn (by omega) (by omega)]; omega)]
        exact ⟨h, rfl, hs⟩
      · rw [if_neg (by rw [l16, le_nn (by decide) (by omega)]; omega), hz, if_pos (show nI 0 = 0 from rfl)]
        exact ⟨h, rfl, hs⟩
    · obtain ⟨k, hk, hl⟩ := low_ex (n := 16) hR.1 hz
      have hkR := (hR.2 k).mp hl.1
      have hmk : m ≤ k := by
        rcases Nat.lt_or_ge k m with q | q
        · exact absurd (cn.rf k) (hkR.2 k q hkR.1)
        · exact q
      have hmid : ∀ y, m ≤ y → y < k → (A 0 0).testBit y = true → ∃ z, z < m ∧ (A 0 0).testBit z = true ∧ cn A (am op) z y := by
        intro y h1 h2 ht
        apply Classical.byContradiction
        intro q
        have := (hR.2 y).mpr ⟨ht, fun z hz1 hz2 hc => q ⟨z, hz1, hz2, hc⟩⟩
        rw [hl.2 y h2] at this
        cases this
      have hrep : rep A (am op) k := by
        refine ⟨hkR.1, fun x hx ht hc => ?_⟩
        rcases Nat.lt_or_ge x m with q | q
        · exact hkR.2 x q ht hc
        · obtain ⟨z, z1, z2, z3⟩ := hmid x q hx ht
          exact hkR.2 z z1 z2 (z3.tr hc)
      have hgk : gp A (am op) k = gp A (am op) m := by
        have := gp_same (A := A) (act := am op) (m := m) (k - m) (fun c h1 h2 hr => by
          obtain ⟨z, z1, z2, z3⟩ := hmid c h1 (by omega) hr.1
          exact hr.2 z (by omega) z2 z3)
        rwa [show m + (k - m) = k by omega] at this
      have hg1 := gp_t hrep
      have hgl := gp_le (A := A) (act := am op) (k + 1)
      rw [if_neg (by rw [l16, le_nn (by decide) (by omega)]; omega), if_neg (by rw [l0, eq_nn (by have := hR.1; omega) (by decide)]; exact hz), lowest_e hl (by have := hR.1; omega), cl_s]
      obtain ⟨S, h2, e2, s2, c2, -⟩ := measureFrom_e (A := A) (N := N) (op := op) (c := k) hN w hk (h := h) (fun x hx => by rw [hs 46 (by decide)]; exact hnr x hx)
      rw [e2, cl_s, lt_e, lt_e, lt_e, bnot_tb (d := 0) c2.1, nI_1]
      refine ih (i + 1) (k + 1) _ h2 (by omega) (by omega) (fun q hq1 => by rw [s2 q hq1]; exact hs q hq1) ⟨Nat.lt_of_le_of_lt Nat.and_le_left hR.1, fun x => ?_⟩ (by omega) (by omega)
      by_cases hx : x < 32
      · rw [Nat.testBit_and, cmp_tb c2.1 x hx, Bool.and_eq_true, Bool.not_eq_true', hR.2 x]
        constructor
        · rintro ⟨⟨q1, q2⟩, q3⟩
          refine ⟨q1, fun y hy ht hc => ?_⟩
          rcases Nat.lt_or_ge y m with q | q
          · exact q2 y q ht hc
          · by_cases e : y = k
            · subst e
              have := (c2.2 x).mpr hc
              rw [this] at q3; cases q3
            · obtain ⟨z, z1, z2, z3⟩ := hmid y q (by omega) ht
              exact q2 z z1 z2 (z3.tr hc)
        · rintro ⟨q1, q2⟩
          refine ⟨⟨q1, fun y hy ht => q2 y (by omega) ht⟩, ?_⟩
          cases hb : S.testBit x
          · rfl
          · exact absurd ((c2.2 x).mp hb) (q2 k (by omega) hkR.1)
      · have e1 : (R &&& (4294967295 - S)).testBit x = false := big_f (Nat.lt_of_le_of_lt Nat.and_le_left hR.1) (by omega)
        rw [e1]
        constructor
        · intro z; cases z
        · rintro ⟨q1, -⟩
          rw [big_f w1 (by omega)] at q1; cases q1
theorem groupsX_e {op : Nat} (hN : 100 ≤ N) (w : WFt A) (w1 : A 0 0 < 65536) (hn : A 0 1 ≤ 24) (ho : op < 2147483648) {h : HP} (t : TX A h) : ∃ h', xX3_groups N (nI op) h = some (nI (gp A (am op) 16), h') ∧ (∀ k, k ≠ 45 → k ≠ 46 → k ≠ 47 → h'.1 k = h.1 k) ∧ NR A op h' := by
  unfold xX3_groups
  obtain ⟨h1, e1, k1, r1, -⟩ := look_e hN w hn ho t
  rw [e1, cl_s, lt_e, k1 3 (by decide) (by decide), t.1]
  obtain ⟨h2, e2, s2⟩ := groupsX_l (N := N) (op := op) hN w w1 r1 N 0 0 (A 0 0) h1 (by omega) (by omega) (fun _ _ => rfl) ⟨w1, fun x => ⟨fun z => ⟨z, fun y hy => by omega⟩, fun z => z.1⟩⟩ (by omega) rfl
  exact ⟨h2, e2, fun k q1 q2 q3 => by rw [s2 k q3, k1 k q1 q2], fun c hc => by rw [s2 46 (by decide)]; exact r1 c hc⟩
theorem am3_1 {op : Nat} (w : WFt A) (hn : A 0 1 ≤ 24) : ∀ p, p < A 0 1 → am3 A op 1 (-1) p = am op p := by
  intro p hp
  obtain ⟨w1, w2, w3, -, -, w4, -⟩ := w.2 p hp
  unfold am3 am
  rw [decide_eq_true (nn_m1 (by omega)), decide_eq_true w4]; simp
theorem groupsM_l {op : Nat} (hN : 100 ≤ N) (w : WFt A) (w1 : A 0 0 < 65536) (hn : A 0 1 ≤ 24) {h : HP} (t : TM A h) (s : ∀ p, p < A 0 1 → h.1 1 (48 + p) = nI (op / 2 ^ p % 2)) : ∀ n i S, i ≤ 16 → 16 - i < n → S < 65536 → (∀ x, S.testBit x = true ↔ ∃ y, y < i ∧ (A 0 0).testBit y = true ∧ cn A (am op) y x) → xX11_groups_6 N n (nI (gp A (am op) i)) (nI S) (nI i) h = some (nI (gp A (am op) 16), h) := by
  intro n
  induction n with
  | zero => intro i S _ q; omega
  | succ n ih =>
    intro i S hi hq hS hx
    rw [xX11_groups_6]
    dsimp only
    by_cases e : i = 16
    · subst e
      rw [if_pos (by decide)]
    · have hc : i < 16 := by omega
      rw [if_neg (by rw [l16, le_nn (by decide) (by omega)]; omega), isToldM w1 t.1, cl_s, tld_n hc]
      unfold xX11_groups_45
      simp only [lt_e, nI_1]
      cases ht : (A 0 0).testBit i
      · rw [b2_f, if_pos rfl]
        have := ih (i + 1) S (by omega) (by omega) hS (fun x => by
          rw [hx]
          constructor
          · rintro ⟨y, q1, q2⟩; exact ⟨y, by omega, q2⟩
          · rintro ⟨y, q1, q2, q3⟩
            refine ⟨y, ?_, q2, q3⟩
            rcases Nat.lt_or_ge y i with q | q
            · exact q
            · rw [show y = i by omega, ht] at q2; cases q2)
        rw [gp_f (fun z => by rw [z.1] at ht; cases ht)] at this
        exact this
      · rw [b2_t, if_neg (by decide), has_e (by omega) (by omega), cl_s]
        cases hb : S.testBit i
        · have hrep : rep A (am op) i := ⟨ht, fun y hy ht2 hc2 => by
            have := (hx i).mpr ⟨y, hy, ht2, hc2⟩
            rw [hb] at this; cases this⟩
          obtain ⟨S2, e2, c2⟩ := reached_e (N := N) (op := op) hN w hn t s (wd := 1) (by decide) hc (-1)
          have c3 := isCp_act (am3_1 w hn) c2
          have e2' : xX11_reached N (nI i) 1 (-1) h = some (nI S2, h) := e2
          rw [b2_f, if_pos rfl, e2', cl_s, or_nn]
          have := ih (i + 1) (S ||| S2) (by omega) (by omega) (Nat.or_lt_two_pow (n := 16) hS c3.1) (fun x => by
            rw [Nat.testBit_or, Bool.or_eq_true, hx, c3.2]
            constructor
            · rintro (⟨y, q1, q2⟩ | q)
              · exact ⟨y, by omega, q2⟩
              · exact ⟨i, by omega, ht, q⟩
            · rintro ⟨y, q1, q2, q3⟩
              by_cases e3 : y = i
              · subst e3; exact Or.inr q3
              · exact Or.inl ⟨y, by omega, q2, q3⟩)
          rw [gp_t hrep] at this
          exact this
        · obtain ⟨y0, y1, y2, y3⟩ := (hx i).mp hb
          rw [b2_t, if_neg (by decide)]
          have := ih (i + 1) S (by omega) (by omega) hS (fun x => by
            rw [hx]
            constructor
            · rintro ⟨y, q1, q2⟩; exact ⟨y, by omega, q2⟩
            · rintro ⟨y, q1, q2, q3⟩
              by_cases e3 : y = i
              · subst e3; exact ⟨y0, y1, y2, y3.tr q3⟩
              · exact ⟨y, by omega, q2, q3⟩)
          rw [gp_f (fun z => z.2 y0 y1 y2 y3)] at this
          exact this
theorem groupsM_e {op : Nat} (hN : 100 ≤ N) (w : WFt A) (w1 : A 0 0 < 65536) (hn : A 0 1 ≤ 24) {h : HP} (t : TM A h) (s : ∀ p, p < A 0 1 → h.1 1 (48 + p) = nI (op / 2 ^ p % 2)) : xX11_groups N h = some (nI (gp A (am op) 16), h) := by
  unfold xX11_groups
  exact groupsM_l (N := N) hN w w1 hn t s N 0 0 (by omega) (by omega) (by decide) (fun x => ⟨fun z => by simp at z, fun ⟨y, hy, _⟩ => by omega⟩)
end GP
section CO
variable {A : AS} {hx hm : HP} {N : Nat}
theorem keX.net {h h' : HP} (k : ∀ k, k ≠ 45 → k ≠ 46 → k ≠ 47 → h'.1 k = h.1 k) : keX h h' := ⟨fun a q1 q2 => k a (by omega) (by omega) (by omega), by rw [k 1 (by omega) (by omega) (by omega)], fun a q1 q2 q3 => k a (by omega) (by omega) (by omega)⟩
theorem op_lt (w : WF A) : A 0 2 < 16777216 := Nat.lt_of_lt_of_le w.1.2.2.1 (Nat.le_trans (Nat.pow_le_pow_right (by decide) w.1.2.1) (by decide))
theorem q_count (hN : 100 ≤ N) (w : WF A) (rx : RX A hx) (rm : RM A hm) (h5 : hx.1 13 7 = hm.1 0 19) (a : Int32) : QQ (xX10_count N a hx) (xX11_count N a hm) hx hm := by
  have wo := op_lt w
  have wn := w.1.2.1
  have hpc : pc (A 0 2) 24 = pc (A 0 2) (A 0 1) := by
    have := pc_stop w.1.2.2.1 (24 - A 0 1)
    rwa [show A 0 1 + (24 - A 0 1) = 24 by omega] at this
  obtain ⟨tx, sx, px, -⟩ := rx
  obtain ⟨tm, smm, pm, -⟩ := rm
  obtain ⟨h1, e1, k1, -⟩ := groupsX_e hN w.2.1 w.1.1 wn (op := A 0 2) (by omega) tx
  have e2 := groupsM_e hN w.2.1 w.1.1 wn (op := A 0 2) tm smm.2.1
  have d0 : ∀ c, c < 16 → (A 0 0).testBit c = false → A 5 c = 0 := fun c hc ht => (w.1.2.2.2.2.2.2.2 c hc ht).1
  have d2 : ∀ c, c < 16 → (A 0 0).testBit c = false → A 7 c = 0 := fun c hc ht => (w.1.2.2.2.2.2.2.2 c hc ht).2.2
  have s0 : xX11_sumOf N 0 hm = some (nI (sm (A 5) 16), hm) := sumOf_e hN w.1.1 (r := 0) (by decide) tm.1 (fun c hc => by rw [Nat.zero_add]; exact (smm.1 c hc).1) d0
  have s2 : xX11_sumOf N 32 hm = some (nI (sm (A 7) 16), hm) := sumOf_e hN w.1.1 (r := 32) (by decide) tm.1 (fun c hc => (smm.1 c hc).2.2) d2
  unfold xX10_count xX11_count
  rw [sx.1, bitCount_e wo, allSo_e hN (k := 31) (f := A 5) (fun c hc => (sx.2.2.2.2.2.2 c hc).1), allWe_e hN (f := A 7) (fun c hc => (sx.2.2.2.2.2.2 c hc).2.2), e1, openPipes_e hN wn tm smm.2.1, s0, s2, e2, hpc, sx.2.1, sx.2.2.1, sx.2.2.2.1, tx.1, tx.2.1, px.1, tm.1, tm.2.1, pm.1, h5]
  rw [show (73 : Int32) = nI 73 from rfl, show (72 : Int32) = nI 72 from rfl, show (74 : Int32) = nI 74 from rfl, ald_n (by decide) (by decide), ald_n (by decide) (by decide), ald_n (by decide) (by decide), smm.2.2.1, smm.2.2.2.1, smm.2.2.2.2]
  simp only [cl_s]
  refine QQ.ite (fun _ => QQ.rf _ rfl rfl) (fun _ => QQ.ite (fun _ => QQ.rf _ rfl rfl) (fun _ => QQ.ite (fun _ => QQ.rf _ rfl rfl) (fun _ => QQ.ite (fun _ => QQ.rf _ rfl rfl) (fun _ => QQ.ite (fun _ => QQ.rf _ rfl rfl) (fun _ => QQ.ite (fun _ => QQ.rf _ rfl rfl) (fun _ => QQ.ite (fun _ => QQ.rf _ rfl rfl) (fun _ => QQ.ite (fun _ => QQ.rf _ rfl rfl) (fun _ => QQ.ite (fun _ => QQ.rf _ rfl rfl) (fun _ => QQ.ite (fun _ => QQ.rf _ rfl rfl) (fun _ => QQ.ite (fun _ => ⟨_, h1, hm, rfl, rfl, keX.net k1, keM.rf hm⟩) (fun _ => QQ.rf _ rfl rfl)))))))))))
end CO
