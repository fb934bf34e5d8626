/-! ===== no way is longer than 15 steps; the widest way ===== -/
def mk (act : Nat → Bool) : Nat → Nat
  | 0 => 0
  | p + 1 => mk act p ||| (if act p = true then 2 ^ p else 0)
theorem mk_tb (act : Nat → Bool) : ∀ n p, (mk act n).testBit p = true ↔ (p < n ∧ act p = true) := by
  intro n
  induction n with
  | zero => intro p; simp [mk]
  | succ n ih =>
    intro p
    simp only [mk, Nat.testBit_or, Bool.or_eq_true, ih]
    by_cases h : act n = true
    · rw [if_pos h, Nat.testBit_two_pow, decide_eq_true_iff]
      constructor
      · rintro (⟨q1, q2⟩ | q)
        · exact ⟨by omega, q2⟩
        · subst q; exact ⟨by omega, h⟩
      · rintro ⟨q1, q2⟩
        by_cases e : n = p
        · exact Or.inr e
        · exact Or.inl ⟨by omega, q2⟩
    · rw [if_neg h]
      constructor
      · rintro (⟨q1, q2⟩ | q)
        · exact ⟨by omega, q2⟩
        · simp at q
      · rintro ⟨q1, q2⟩
        by_cases e : n = p
        · subst e; exact absurd q2 h
        · exact Or.inl ⟨by omega, q2⟩
section R15
variable {A : AS} {c : Nat}
theorem lv_end {op : Nat} (w : WFt A) (hc : c < 16) : ∀ n g S E, g ≤ 16 → 16 - g < n → LV A op c g S E → ∃ g', g' ≤ 16 ∧ ∀ d, rc A (am op) c g' d → ∃ j, j < g' ∧ rc A (am op) c j d := by
  intro n
  induction n with
  | zero => intro g S E _ q; omega
  | succ n ih =>
    intro g S E hg hq hl
    by_cases hz : E = 0
    · refine ⟨g, hg, fun d hd => ?_⟩
      apply Classical.byContradiction
      intro q
      have := (hl.2.2.2.1 d).mpr ⟨hd, fun j hj hr => q ⟨j, hj, hr⟩⟩
      rw [hz] at this
      simp at this
    · have h1 := hl.2.2.2.2 hz
      have h2 := pc_le S 16
      exact ih (g + 1) _ _ (by omega) (by omega) (hl.step w hc hz)
theorem rc15m {op : Nat} (w : WFt A) (hc : c < 16) {g d : Nat} (h : rc A (am op) c g d) : rc A (am op) c 15 d := by
  obtain ⟨k, hk, hs⟩ := lv_end (op := op) w hc 17 0 _ _ (by omega) (by omega) (LV.zero (A := A) hc)
  have hk1 : 0 < k := by
    obtain ⟨j, hj, -⟩ := hs c (rc_le (Nat.zero_le k) rfl)
    omega
  have hcl := rc_stop (A := A) (act := am op) (c := c) (g := k - 1) (fun d hd => by
    rw [show k - 1 + 1 = k by omega] at hd
    obtain ⟨j, hj, hr⟩ := hs d hd
    exact rc_le (by omega) hr)
  have := hcl g d (rc_le (by omega) h)
  exact rc_le (by omega) this
theorem rc15 {act : Nat → Bool} (w : WFt A) (hc : c < 16) {g d : Nat} (h : rc A act c g d) : rc A act c 15 d := by
  have e : ∀ p, p < A 0 1 → act p = am (mk act (A 0 1)) p := fun p hp => by
    unfold am
    cases hb : act p
    · cases hb2 : (mk act (A 0 1)).testBit p
      · rfl
      · have := ((mk_tb act _ _).mp hb2).2
        rw [this] at hb; cases hb
    · exact ((mk_tb act _ _).mpr ⟨hp, hb⟩).symm
  exact (rc_act e 15 d).mpr (rc15m w hc ((rc_act e g d).mp h))
end R15
def mk2 (n : Nat) : Int32 := if n = 0 then -2 else nI n
theorem mk2_relax {x y d : Nat} (hx : x ≤ 99) (hy : y ≤ 99) (hd : 1 ≤ d) (hd2 : d ≤ 99) : imx (mk2 y) (imn (mk2 x) (nI d)) = mk2 (max y (min x d)) := by
  have n2 : ∀ k : Nat, k ≤ 99 → (nI k).toInt = (k : Int) := fun k hk => i_n (by omega)
  by_cases x0 : x = 0
  · have e1 : imn (mk2 x) (nI d) = -2 := by
      unfold imn mk2
      rw [if_pos x0, if_neg (by rw [i_lt, n2 d hd2, i_m2]; omega)]
    rw [e1, x0, Nat.zero_min, Nat.max_eq_left (Nat.zero_le y)]
    unfold imx mk2
    by_cases y0 : y = 0
    · rw [if_pos y0, if_neg (by decide)]
    · rw [if_neg y0, if_neg (by rw [i_lt, n2 y hy, i_m2]; omega)]
  · have e1 : imn (mk2 x) (nI d) = nI (min x d) := by
      unfold mk2
      rw [if_neg x0, imn_nn (by omega) (by omega)]
    rw [e1]
    by_cases y0 : y = 0
    · subst y0
      rw [Nat.max_eq_right (Nat.zero_le _)]
      unfold mk2 imx
      rw [if_pos rfl, if_pos (by rw [i_lt, i_m2, i_n (by omega)]; omega), if_neg (by omega)]
    · unfold mk2
      rw [if_neg y0, if_neg (by omega), imx_nn (by omega) (by omega)]
/-- pipes as wide as v -/
abbrev aw (A : AS) (op v : Nat) : Nat → Bool := fun p => op.testBit p && decide (v ≤ A 4 p)
section WI
variable {A : AS} {N c op : Nat}
/-- the marks: sound; and good for ways of k steps -/
def MS (A : AS) (op c : Nat) (val : Nat → Nat) : Prop := (∀ x, val x ≤ 99) ∧ ∀ x v, 1 ≤ v → v ≤ val x → cn A (aw A op v) c x
def MC (A : AS) (op c k : Nat) (val : Nat → Nat) : Prop := ∀ x v, 1 ≤ v → v ≤ 99 → rc A (aw A op v) c k x → v ≤ val x
def rlv (A : AS) (p : Nat) (val : Nat → Nat) : Nat → Nat := upN (upN val (A 3 p) (max (val (A 3 p)) (min (val (A 2 p)) (A 4 p)))) (A 2 p) (max (val (A 2 p)) (min (max (val (A 3 p)) (min (val (A 2 p)) (A 4 p))) (A 4 p)))
theorem rlv_ge (p : Nat) (val : Nat → Nat) (x : Nat) : val x ≤ rlv A p val x := by
  unfold rlv upN
  split
  · rename_i e; rw [e]; omega
  · split
    · rename_i e; rw [e]; omega
    · exact Nat.le_refl _
theorem MS.rlx (w : WFt A) {val : Nat → Nat} {p : Nat} (hp : p < A 0 1) (hb : op.testBit p = true) (h : MS A op c val) : MS A op c (rlv A p val) := by
  obtain ⟨w1, w2, w3, -, -, w5, w6⟩ := w.2 p hp
  obtain ⟨h1, h2⟩ := h
  have a1 : ∀ v, v ≤ A 4 p → ad A (aw A op v) (A 2 p) (A 3 p) := fun v hv => ⟨p, hp, by simp [hb, hv], by simp [ac]⟩
  have c3 : ∀ v, 1 ≤ v → v ≤ max (val (A 3 p)) (min (val (A 2 p)) (A 4 p)) → cn A (aw A op v) c (A 3 p) := fun v hv hle => by
    by_cases q : v ≤ val (A 3 p)
    · exact h2 _ v hv q
    · exact (h2 (A 2 p) v hv (by omega)).tr (cn.ad (a1 v (by omega)))
  have c2 : ∀ v, 1 ≤ v → v ≤ max (val (A 2 p)) (min (max (val (A 3 p)) (min (val (A 2 p)) (A 4 p))) (A 4 p)) → cn A (aw A op v) c (A 2 p) := fun v hv hle => by
    by_cases q : v ≤ val (A 2 p)
    · exact h2 _ v hv q
    · exact (c3 v hv (by omega)).tr (cn.ad (ad_sym w (a1 v (by omega))))
  refine ⟨fun x => ?_, fun x v hv hle => ?_⟩
  · have := h1 x
    have := h1 (A 2 p)
    have := h1 (A 3 p)
    unfold rlv upN
    split
    · omega
    · split <;> omega
  · unfold rlv upN at hle
    split at hle
    · rename_i e; rw [e]; exact c2 v hv hle
    · split at hle
      · rename_i e; rw [e]; exact c3 v hv hle
      · exact h2 x v hv hle
/-- a round on its way: ways of k steps, and one pipe more for the first i pipes -/
def MI (A : AS) (op c k i : Nat) (val : Nat → Nat) : Prop := MS A op c val ∧ MC A op c k val ∧ ∀ p, p < i → ∀ v, 1 ≤ v → v ≤ 99 → aw A op v p = true → (rc A (aw A op v) c k (A 2 p) → v ≤ val (A 3 p)) ∧ (rc A (aw A op v) c k (A 3 p) → v ≤ val (A 2 p))
theorem MI.next (w : WFt A) {k i : Nat} {val : Nat → Nat} (hp : i < A 0 1) (hb : op.testBit i = true) (h : MI A op c k i val) : MI A op c k (i + 1) (rlv A i val) := by
  obtain ⟨h1, h2, h3⟩ := h
  obtain ⟨w1, w2, w3, -, -, w5, w6⟩ := w.2 i hp
  refine ⟨h1.rlx w hp hb, fun x v hv hv2 hr => Nat.le_trans (h2 x v hv hv2 hr) (rlv_ge i val x), fun p hp2 v hv hv2 ha => ?_⟩
  by_cases e : p = i
  · subst e
    simp only [Bool.and_eq_true, decide_eq_true_iff] at ha
    constructor
    · intro hr
      have := h2 _ v hv hv2 hr
      unfold rlv upN
      rw [if_neg (fun z => w3 z.symm), if_pos rfl]
      omega
    · intro hr
      have := h2 _ v hv hv2 hr
      unfold rlv upN
      rw [if_pos rfl]
      omega
  · obtain ⟨q1, q2⟩ := h3 p (by omega) v hv hv2 ha
    exact ⟨fun hr => Nat.le_trans (q1 hr) (rlv_ge i val _), fun hr => Nat.le_trans (q2 hr) (rlv_ge i val _)⟩
theorem MI.skip {k i : Nat} {val : Nat → Nat} (hb : op.testBit i = false) (h : MI A op c k i val) : MI A op c k (i + 1) val := by
  obtain ⟨h1, h2, h3⟩ := h
  refine ⟨h1, h2, fun p hp2 v hv hv2 ha => ?_⟩
  by_cases e : p = i
  · subst e; simp [hb] at ha
  · exact h3 p (by omega) v hv hv2 ha
theorem MI.done {k : Nat} {val : Nat → Nat} (h : MI A op c k (A 0 1) val) : MC A op c (k + 1) val := by
  obtain ⟨h1, h2, h3⟩ := h
  intro x v hv hv2 hr
  rcases hr with hr | ⟨y, hr, p, p1, p2, p3⟩
  · exact h2 x v hv hv2 hr
  · obtain ⟨q1, q2⟩ := h3 p p1 v hv hv2 p2
    unfold ac at p3
    split at p3
    · rename_i e; cases p3; exact q1 (by rw [e]; exact hr)
    · split at p3
      · rename_i e; cases p3; exact q2 (by rw [e]; exact hr)
      · cases p3
def sW (h0 h : HP) : Prop := ∀ k, k ≠ 48 → h.1 k = h0.1 k
theorem wide_in {k : Nat} {h0 : HP} {K : Int32 → Int32 → HP → Option (Int32 × HP)} {P : Option (Int32 × HP) → Prop} {d r : Int32} (w : WFt A) (hn : A 0 1 ≤ 24) (t : TX A h0) (ho : op < 2147483648) (h45 : h0.1 45 4 = nI op) (hK : ∀ h val, sW h0 h → (∀ x, x < 16 → h.1 48 x = mk2 (val x)) → MI A op c k (A 0 1) val → P (K d (r + 1) h)) : ∀ n i h val, i ≤ A 0 1 → A 0 1 - i < n → sW h0 h → (∀ x, x < 16 → h.1 48 x = mk2 (val x)) → MI A op c k i val → P (xX3_widestWay_28 N K n d r (nI i) h) := by
  intro n
  induction n with
  | zero => intro i h val _ q; omega
  | succ n ih =>
    intro i h val hi hq hs hm hI
    rw [xX3_widestWay_28]
    dsimp only
    rw [hs 3 (by decide), hs 45 (by decide), t.2.1, h45]
    by_cases e : i = A 0 1
    · rw [if_pos (by rw [e, le_nn (by omega) (by omega)]; omega), lt_e]
      exact hK h val hs hm (e ▸ hI)
    · have hp : i < A 0 1 := by omega
      obtain ⟨w1, w2, w3, -, -, w5, w6⟩ := w.2 i hp
      obtain ⟨t1, t2, t3⟩ := t.2.2.2 i hp
      have b1 := hI.1.1
      rw [if_neg (by rw [le_nn (by omega) (by omega)]; omega), hasBit_e (by omega) ho, cl_s]
      unfold xX3_widestWay_150
      rw [lt_e, nI_1]
      cases hb : op.testBit i
      · rw [b2_f, if_pos rfl]
        exact ih (i + 1) h val (by omega) (by omega) hs hm (hI.skip hb)
      · have e5 := hs 5 (by decide)
        have e6 := hs 6 (by decide)
        have e7 := hs 7 (by decide)
        rw [b2_t, if_neg (by decide)]
        simp (disch := omega) only [ald_n, ast_n, up_n, e5, e6, e7, t1, t2, t3, lt_e]
        rw [hm _ w1, hm _ w2, mk2_relax (b1 _) (b1 _) w5 w6, up_at, if_neg (by omega), up_at, if_pos ⟨rfl, rfl⟩, hm _ w1, mk2_relax (by have := b1 (A 2 i); have := b1 (A 3 i); omega) (b1 _) w5 w6]
        refine ih (i + 1) _ (rlv A i val) (by omega) (by omega) (fun q hq1 => by rw [up_n hq1, up_n hq1]; exact hs q hq1) (fun x hx => ?_) (hI.next w hp hb)
        rw [up_at, up_at]
        unfold rlv upN
        by_cases q1 : x = A 2 i
        · rw [if_pos ⟨rfl, q1⟩, if_pos q1]
        · rw [if_neg (fun z => q1 z.2), if_neg q1]
          by_cases q2 : x = A 3 i
          · rw [if_pos ⟨rfl, q2⟩, if_pos q2]
          · rw [if_neg (fun z => q2 z.2), if_neg q2]; exact hm x hx
theorem wide_l {d : Nat} {h0 : HP} (hN : 100 ≤ N) (w : WFt A) (hn : A 0 1 ≤ 24) (t : TX A h0) (ho : op < 2147483648) (h45 : h0.1 45 4 = nI op) (hd : d < 16) : ∀ n r h val, r ≤ 15 → 15 - r < n → sW h0 h → (∀ x, x < 16 → h.1 48 x = mk2 (val x)) → MS A op c val → MC A op c r val → ∃ h' val', xX3_widestWay_19 N n (nI d) (nI (r + 1)) h = some (mk2 (val' d), h') ∧ sW h0 h' ∧ MS A op c val' ∧ MC A op c 15 val' := by
  intro n
  induction n with
  | zero => intro r h val _ q; omega
  | succ n ih =>
    intro r h val hr hq hs hm h1 h2
    rw [xX3_widestWay_19]
    dsimp only
    by_cases e : r = 15
    · subst e
      rw [if_pos (by decide), ald_n hd (by decide), hm d hd]
      exact ⟨h, val, rfl, hs, h1, h2⟩
    · rw [if_neg (by rw [l16, le_nn (by decide) (by omega)]; omega)]
      refine wide_in (N := N) (op := op) (c := c) (k := r) (h0 := h0) (P := fun o => ∃ h' val', o = some (mk2 (val' d), h') ∧ sW h0 h' ∧ MS A op c val' ∧ MC A op c 15 val') w hn t ho h45 (fun h3 v3 s3 m3 i3 => ?_) N 0 h val (by omega) (by omega) hs hm ⟨h1, h2, fun p hp => by omega⟩
      rw [nI_1]
      exact ih (r + 1) h3 v3 (by omega) (by omega) s3 m3 i3.1 i3.done
theorem widestX_e {d : Nat} {h : HP} (hN : 100 ≤ N) (w : WFt A) (hn : A 0 1 ≤ 24) (t : TX A h) (ho : op < 2147483648) (h45 : h.1 45 4 = nI op) (hc : c < 16) (hd : d < 16) : ∃ m h', xX3_widestWay N (nI c) (nI d) h = some (mk2 m, h') ∧ sW h h' ∧ m ≤ 99 ∧ ∀ v, 1 ≤ v → v ≤ 99 → (v ≤ m ↔ cn A (aw A op v) c d) := by
  unfold xX3_widestWay
  obtain ⟨h1, e1, k1, z1, -⟩ := fill_e (N := N) (na := 16) (ka := 48) (-2) h (by decide) (by omega)
  rw [e1, cl_s, ast_n hc (by decide)]
  have hs : sW h (up h1 48 c 99) := fun k hk => by rw [up_n hk]; exact k1 k hk
  have t1 : TX A (up h1 48 c 99) := by
    obtain ⟨a1, a2, a3, a4⟩ := t
    exact ⟨by rw [hs 3 (by decide)]; exact a1, by rw [hs 3 (by decide)]; exact a2, fun c hc => by rw [hs 4 (by decide)]; exact a3 c hc, fun p hp => by rw [hs 5 (by decide), hs 6 (by decide), hs 7 (by decide)]; exact a4 p hp⟩
  obtain ⟨h2, val, e2, s2, m1, m2⟩ := wide_l (N := N) (op := op) (c := c) (h0 := up h1 48 c 99) hN w hn t1 ho (by rw [hs 45 (by decide)]; exact h45) hd N 0 (up h1 48 c 99) (fun x => if x = c then 99 else 0) (by omega) (by omega) (fun _ _ => rfl) (fun x hx => by
      rw [up_at]
      by_cases q : x = c
      · rw [if_pos ⟨rfl, q⟩, if_pos q]; rfl
      · rw [if_neg (fun z => q z.2), if_neg q, z1 x hx]; rfl) ⟨fun x => by dsimp only; split <;> omega, fun x v hv hle => by
      dsimp only at hle
      split at hle
      · rename_i q; rw [q]; exact cn.rf c
      · omega⟩ (fun x v hv hv2 hr => by rw [show x = c from hr]; simp; exact hv2)
  refine ⟨val d, h2, e2, fun k hk => by rw [s2 k hk]; exact hs k hk, m1.1 d, fun v hv hv2 => ⟨m1.2 d v hv, fun ⟨g, hr⟩ => m2 d v hv hv2 (rc15 w hc hr)⟩⟩
theorem am3_aw {v : Nat} (hn : A 0 1 ≤ 24) : ∀ p, p < A 0 1 → am3 A op v (-1) p = aw A op v p := by
  intro p hp
  unfold am3
  rw [decide_eq_true (nn_m1 (show p < 2147483648 by omega)), Bool.true_and]
theorem widestM_l {d m : Nat} {h : HP} (hN : 100 ≤ N) (w : WFt A) (hn : A 0 1 ≤ 24) (t : TM A h) (s : ∀ p, p < A 0 1 → h.1 1 (48 + p) = nI (op / 2 ^ p % 2)) (hc : c < 16) (hd : d < 16) (hm : ∀ v, 1 ≤ v → v ≤ 99 → (v ≤ m ↔ cn A (aw A op v) c d)) : ∀ v n, v ≤ 99 → m ≤ v → v < n → xX11_widest_14 N n (nI c) (nI d) (nI v) h = some (mk2 m, h) := by
  intro v
  induction v with
  | zero =>
    intro n _ h2 h3
    obtain ⟨n, rfl⟩ : ∃ k, n = k + 1 := ⟨n - 1, by omega⟩
    rw [xX11_widest_14]
    dsimp only
    rw [if_pos (by decide), show m = 0 by omega]
    rfl
  | succ v ih =>
    intro n h1 h2 h3
    obtain ⟨n, rfl⟩ : ∃ k, n = k + 1 := ⟨n - 1, by omega⟩
    rw [xX11_widest_14]
    dsimp only
    obtain ⟨S, e3, c3⟩ := reached_e (N := N) (op := op) hN w hn t s (wd := v + 1) (by omega) hc (-1)
    have c4 := isCp_act (am3_aw hn) c3
    rw [if_neg (by rw [l0, le_nn (by omega) (by decide)]; omega), e3, cl_s, has_e (by omega) (by have := c4.1; omega), cl_s, lt_e]
    cases hb : S.testBit d
    · have hlt : m ≤ v := by
        rcases Nat.lt_or_ge v m with q | q
        · have := (c4.2 d).mpr ((hm (v + 1) (by omega) h1).mp (by omega))
          rw [hb] at this; cases this
        · exact q
      rw [b2_f, if_pos rfl, pk_m1]
      exact ih n (by omega) hlt (by omega)
    · have := (hm (v + 1) (by omega) h1).mpr ((c4.2 d).mp hb)
      rw [b2_t, if_neg (by decide), show m = v + 1 by omega]
      rfl
end WI
section WQ
variable {A : AS} {hx hm : HP} {N : Nat}
theorem areTwoX (w1 : A 0 0 < 65536) (t : hx.1 3 4 = nI (A 0 0)) (a b : Int32) : xX10_areTwo a b hx = some (b2 (tld A a && (tld A b && decide (a ≠ b))), hx) := by
  unfold xX10_areTwo xX10_areTwo_31 xX10_areTwo_32
  rw [isToldX w1 t, cl_s, isToldX w1 t, cl_s]
  cases tld A a
  · rw [b2_f, if_pos rfl, zok_0]; rfl
  · rw [b2_t, if_neg (by decide)]
    cases tld A b
    · rw [b2_f, if_pos rfl, zok_0]; rfl
    · rw [b2_t, if_neg (by decide)]
      by_cases q : a = b
      · rw [if_pos q, zok_0]; simp [q, b2]
      · rw [if_neg q, zok_1]; simp [q, b2]
theorem areTwoM (w1 : A 0 0 < 65536) (t : hm.1 0 7 = nI (A 0 0)) (a b : Int32) : xX11_areTwo a b hm = some (b2 (tld A a && (tld A b && decide (a ≠ b))), hm) := by
  unfold xX11_areTwo xX11_areTwo_25 xX11_areTwo_26
  rw [isToldM w1 t, cl_s, isToldM w1 t, cl_s]
  cases tld A a
  · rw [b2_f, if_pos rfl, zok_0]; rfl
  · rw [b2_t, if_neg (by decide)]
    cases tld A b
    · rw [b2_f, if_pos rfl, zok_0]; rfl
    · rw [b2_t, if_neg (by decide)]
      by_cases q : a = b
      · rw [if_pos q, zok_0]; simp [q, b2]
      · rw [if_neg q, zok_1]; simp [q, b2]
theorem q_widest (hN : 200 ≤ N) (w : WF A) (rx : RX A hx) (rm : RM A hm) (a b : Int32) : QQ (xX10_widest N a b hx) (xX11_widest N a b hm) hx hm := by
  have wo := op_lt w
  have wn := w.1.2.1
  unfold xX10_widest xX11_widest
  rw [areTwoX w.1.1 rx.1.1, areTwoM w.1.1 rm.1.1, cl_s, cl_s]
  cases ht : (tld A a && (tld A b && decide (a ≠ b)))
  · exact QQ.rf (-1) (by rw [b2_f, if_neg (by decide)]) (by rw [b2_f, if_neg (by decide)])
  · rw [Bool.and_eq_true, Bool.and_eq_true] at ht
    obtain ⟨c, hc, rfl, -⟩ := tld_of ht.1
    obtain ⟨d, hd, rfl, -⟩ := tld_of ht.2.1
    rw [b2_t, if_pos (by decide), if_pos (by decide), rx.2.1.1]
    obtain ⟨h1, e1, k1, r1, p1⟩ := look_e (N := N) (op := A 0 2) (by omega) w.2.1 wn (by omega) rx.1
    have t1 : TX A h1 := sB.TX (h0 := hx) (fun k q1 q2 _ => k1 k q1 q2) rx.1
    obtain ⟨m, h2, e2, s2, m1, m2⟩ := widestX_e (N := N) (op := A 0 2) (by omega) w.2.1 wn t1 (by omega) p1 hc hd
    rw [e1, cl_s, e2, cl_s]
    have e3 : xX11_widest_14 N N (nI c) (nI d) 99 hm = some (mk2 m, hm) := widestM_l (N := N) (op := A 0 2) (by omega) w.2.1 wn rm.1 rm.2.1.2.1 hc hd m2 99 N (by omega) m1 (by omega)
    rw [e3]
    exact ⟨_, h2, hm, rfl, rfl, ⟨fun k q1 q2 => by rw [s2 k (by omega), k1 k (by omega) (by omega)], by rw [s2 1 (by omega), k1 1 (by omega) (by omega)], fun k q1 q2 q3 => by rw [s2 k (by omega), k1 k (by omega) (by omega)]⟩, keM.rf hm⟩
end WQ
