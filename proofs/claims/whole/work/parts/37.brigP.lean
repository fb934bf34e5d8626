/-! ===== brigades, the programs ===== -/
section BP
variable {A : AS} {hx hm : HP} {N : Nat} {act : Nat → Bool}
theorem un_0 (f : Nat → Nat) : un f 0 16 = 0 := by
  apply Nat.eq_of_testBit_eq
  intro d
  rw [Nat.zero_testBit]
  cases hb : (un f 0 16).testBit d
  · rfl
  · obtain ⟨c, -, h2, -⟩ := (un_tb _ _ _ _).mp hb
    simp at h2
theorem doesCover_l {f : Nat → Nat} {h : HP} (w1 : A 0 0 < 65536) (t : h.1 3 4 = nI (A 0 0)) (hf : ∀ c, c < 16 → h.1 48 c = nI (f c)) (hlt : ∀ c, c < 16 → f c < 65536) : ∀ n i fd a, i ≤ 5 → 5 - i < n → a < 65536 → fd < 65536 → pc a 16 ≤ 5 - i → xX3_doesCover_7 N n (nI fd) (nI a) (nI i) h = some (b2 (decide (fd ||| un f a 16 = A 0 0)), h) := by
  have fin : ∀ fd, fd < 65536 → xX3_doesCover_41 N (nI fd) h = some (b2 (decide (fd = A 0 0)), h) := by
    intro fd hfd
    unfold xX3_doesCover_41 xX3_doesCover_57
    rw [t, zok_0, zok_1]
    by_cases q : fd = A 0 0
    · rw [if_neg (by rw [q]; simp), decide_eq_true q, b2_t]
    · rw [if_pos (by rw [ne_eq, eq_nn (by omega) (by omega)]; exact q), decide_eq_false q, b2_f]
  intro n
  induction n with
  | zero => intro i fd a _ q; omega
  | succ n ih =>
    intro i fd a hi hq ha hfd hpc
    rw [xX3_doesCover_7]
    dsimp only
    by_cases h0 : a = 0
    · subst h0
      rw [un_0, Nat.or_zero, fin fd hfd]
      by_cases e : i = 5
      · rw [if_pos (by rw [show (5 : Int32) = nI 5 from rfl, e, le_nn (by omega) (by omega)]; omega)]
      · rw [if_neg (by rw [show (5 : Int32) = nI 5 from rfl, le_nn (by decide) (by omega)]; omega), if_pos (show nI 0 = 0 from rfl)]
    · obtain ⟨k, hk, hl⟩ := low_ex (n := 16) ha h0
      have hpo := pc_off hl.1 (low_off hl) 16 hk
      rw [if_neg (by rw [show (5 : Int32) = nI 5 from rfl, le_nn (by decide) (by omega)]; omega), if_neg (by rw [l0, eq_nn (by omega) (by decide)]; exact h0), lowest_e hl (by omega), cl_s, ald_n hk (by decide), lt_e, lt_e, lt_e, hf k hk, or_nn, l1, sub_nn (by omega), and_nn, add_nn]
      have hlt2 : a &&& (a - 1) < 65536 := Nat.lt_of_le_of_lt Nat.and_le_left ha
      rw [ih (i + 1) _ _ (by omega) (by omega) hlt2 (Nat.or_lt_two_pow (n := 16) hfd (hlt k hk)) (by omega), un_low hl hk, Nat.or_assoc]
def lcP (A : AS) (f : Nat → Nat) (k b : Nat) : Prop := vld A k b = true ∧ un f b 16 = A 0 0
theorem leastCover_l {f : Nat → Nat} {k : Nat} {h : HP} (hN : 100 ≤ N) (w1 : A 0 0 < 65536) (hk5 : k ≤ 5) (hk1 : 1 ≤ k) (t : h.1 3 4 = nI (A 0 0)) (hf : ∀ c, c < 16 → h.1 48 c = nI (f c)) (hlt : ∀ c, c < 16 → f c < 65536) : ∀ n x tr, 65536 - x < n → tr + 1 ≤ x → x < 262144 → (x < 65536 → pc x 16 = k) → ∃ r, xX3_leastCover_8 N n (nI x) (nI tr) h = some (nI r, h) ∧ ((r = 0 ∧ ∀ b, x ≤ b → b < 65536 → ¬ lcP A f k b) ∨ (r ≠ 0 ∧ r < 65536 ∧ x ≤ r ∧ lcP A f k r ∧ ∀ b, x ≤ b → b < r → ¬ lcP A f k b)) := by
  intro n
  induction n with
  | zero => intro x tr q; omega
  | succ n ih =>
    intro x tr hq htr hx hpc
    rw [xX3_leastCover_8]
    dsimp only
    unfold xX3_leastCover_55
    by_cases e : 65536 ≤ x
    · refine ⟨0, ?_, Or.inl ⟨rfl, fun b h1 h2 => by omega⟩⟩
      rw [if_pos (show (65536 : Int32) ≤ nI x by rw [l65536, le_nn (by decide) (by omega)]; exact e), ite_self]
      rfl
    · have pk := hpc (by omega)
      rw [if_neg (by rw [l65536, le_nn (by decide) (by omega)]; omega), if_neg (by rw [l65536, le_nn (by decide) (by omega)]; omega), t, bnotw (by omega)]
      have andl : x &&& (4294967295 - A 0 0) ≤ x := Nat.and_le_left
      obtain ⟨j, tt, hh, hj, hl, hg⟩ := gos_ex (x := x) (by omega) (by omega)
      obtain ⟨g1, g2, g3⟩ := gos_pc (by omega) hg
      have g4 : nxG x j tt < 262144 := by
        obtain ⟨q1, q2, q3⟩ := hg
        obtain ⟨-, -, -, -, -, p6⟩ := gos_pow q1
        have hj2 : 2 ^ j ≤ 2 ^ 15 := Nat.pow_le_pow_right (by decide) (by omega)
        have ht2 : 2 ^ tt ≤ 2 ^ 16 := Nat.pow_le_pow_right (by decide) (by omega)
        unfold nxG
        omega
      -- the next one
      have go : ¬ lcP A f k x → ∃ r, xX3_leastCover_44 N (xX3_leastCover_8 N n) (nI x) (nI tr) h = some (nI r, h) ∧ ((r = 0 ∧ ∀ b, x ≤ b → b < 65536 → ¬ lcP A f k b) ∨ (r ≠ 0 ∧ r < 65536 ∧ x ≤ r ∧ lcP A f k r ∧ ∀ b, x ≤ b → b < r → ¬ lcP A f k b)) := by
        intro hno
        unfold xX3_leastCover_44
        rw [next_e (by omega) hl hj hg, cl_s, lt_e, nI_1]
        obtain ⟨r, r1, r2⟩ := ih (nxG x j tt) (tr + 1) (by omega) (by omega) g4 (fun z => by rw [g2 z]; exact pk)
        have between : ∀ b, x ≤ b → b < nxG x j tt → b < 65536 → ¬ lcP A f k b := by
          intro b h1 h2 h3 hb
          by_cases e : b = x
          · subst e; exact hno hb
          · have := g3 b (by omega) h2 h3
            have hv := hb.1
            unfold vld at hv
            rw [Bool.and_eq_true, decide_eq_true_iff, decide_eq_true_iff] at hv
            omega
        refine ⟨r, r1, ?_⟩
        rcases r2 with ⟨a1, a2⟩ | ⟨a1, a2, a3, a4, a5⟩
        · refine Or.inl ⟨a1, fun b h1 h2 => ?_⟩
          rcases Nat.lt_or_ge b (nxG x j tt) with q | q
          · exact between b h1 q h2
          · exact a2 b q h2
        · refine Or.inr ⟨a1, a2, by omega, a4, fun b h1 h2 => ?_⟩
          rcases Nat.lt_or_ge b (nxG x j tt) with q | q
          · exact between b h1 q (by omega)
          · exact a5 b q h2
      by_cases q1 : x &&& (4294967295 - A 0 0) = 0
      · rw [q1, if_neg (show ¬ nI 0 ≠ 0 from fun z => z rfl)]
        unfold xX3_doesCover
        have dc := doesCover_l (N := N) w1 t hf hlt N 0 0 x (by omega) (by omega) (by omega) (by omega) (by omega)
        rw [Nat.zero_or] at dc
        rw [show xX3_doesCover_7 N N 0 (nI x) 0 h = _ from dc, cl_s]
        by_cases q2 : un f x 16 = A 0 0
        · rw [decide_eq_true q2, b2_t, if_neg (by decide)]
          exact ⟨x, rfl, Or.inr ⟨by omega, by omega, by omega, ⟨by unfold vld; rw [decide_eq_true q1, decide_eq_true pk]; rfl, q2⟩, fun b h1 h2 => by omega⟩⟩
        · rw [decide_eq_false q2, b2_f, if_pos rfl]
          exact go (fun z => q2 z.2)
      · rw [if_pos (by rw [ne_eq, l0, eq_nn (by omega) (by decide)]; exact q1)]
        apply go
        intro z
        have hv := z.1
        unfold vld at hv
        rw [Bool.and_eq_true, decide_eq_true_iff] at hv
        exact q1 hv.1
theorem pc_least {k b : Nat} (hk : k < 17) (hb : pc b 16 = k) : 2 ^ k - 1 ≤ b := by
  rcases Nat.lt_or_ge b (2 ^ k - 1) with q | q
  · exfalso
    have := pc_max (m := k) (e := b) (by omega) q
    have h2 := pc_stop (n := b) (k := k) (by omega) (16 - k)
    rw [show k + (16 - k) = 16 by omega] at h2
    omega
  · exact q
theorem leastCover_e {f : Nat → Nat} {k : Nat} {h : HP} (hN : 100000 ≤ N) (w1 : A 0 0 < 65536) (hk5 : k ≤ 5) (hk1 : 1 ≤ k) (t : h.1 3 4 = nI (A 0 0)) (hf : ∀ c, c < 16 → h.1 48 c = nI (f c)) (hlt : ∀ c, c < 16 → f c < 65536) : ∃ r, xX3_leastCover N (nI k) h = some (nI r, h) ∧ ((r = 0 ∧ ∀ b, b < 65536 → ¬ lcP A f k b) ∨ (r ≠ 0 ∧ r < 65536 ∧ lcP A f k r ∧ ∀ b, b < r → ¬ lcP A f k b)) := by
  have p1 : 2 ^ 1 ≤ 2 ^ k := Nat.pow_le_pow_right (by decide) hk1
  have p2 : 2 ^ k ≤ 2 ^ 5 := Nat.pow_le_pow_right (by decide) hk5
  have lo : ∀ b, lcP A f k b → 2 ^ k - 1 ≤ b := by
    intro b hb
    have hv := hb.1
    unfold vld at hv
    rw [Bool.and_eq_true, decide_eq_true_iff, decide_eq_true_iff] at hv
    exact pc_least (by omega) hv.2
  unfold xX3_leastCover
  obtain ⟨r, r1, r2⟩ := leastCover_l (N := N) (A := A) (by omega) w1 hk5 hk1 t hf hlt N (2 ^ k - 1) 0 (by omega) (by omega) (by omega) (fun _ => by
    have := pc_top1s (n := k) (by omega) (16 - k)
    rw [show k + (16 - k) = 16 by omega] at this
    exact this)
  rw [lt_e, shl1 (by omega), l1, sub_nn (by omega)]
  refine ⟨r, r1, ?_⟩
  rcases r2 with ⟨a1, a2⟩ | ⟨a1, a2, a3, a4, a5⟩
  · exact Or.inl ⟨a1, fun b hb z => a2 b (lo b z) hb z⟩
  · exact Or.inr ⟨a1, a2, a4, fun b hb z => a5 b (lo b z) hb z⟩
/-- the marks: what lies within g steps of each corner -/
def mkf (A : AS) (act : Nat → Bool) (g : Nat) (f : Nat → Nat) : Prop := ∀ c, c < 16 → f c < 65536 ∧ ∀ d, (f c).testBit d = true ↔ rc A act c g d
theorem mkf_step {op g : Nat} {f : Nat → Nat} (w : WFt A) (h : mkf A (am op) g f) : mkf A (am op) (g + 1) (fun c => f c ||| un (fun c => nxt A op c (A 0 1)) (f c) 16) := by
  intro c hc
  obtain ⟨h1, h2⟩ := h c hc
  refine ⟨Nat.or_lt_two_pow (n := 16) h1 (un_lt 16 (fun x _ => nxt_lt w op x _ (Nat.le_refl _))), fun d => ?_⟩
  rw [Nat.testBit_or, Bool.or_eq_true, h2, un_tb]
  constructor
  · rintro (q | ⟨x, x1, x2, x3⟩)
    · exact Or.inl q
    · exact Or.inr ⟨x, (h2 x).mp x2, nxt_ad.mp x3⟩
  · rintro (q | ⟨x, x1, x2⟩)
    · exact Or.inl q
    · exact Or.inr ⟨x, rc_lt w hc g x x1, (h2 x).mpr x1, nxt_ad.mpr x2⟩
theorem un_cvr (w : WFt A) (w1 : A 0 0 < 65536) {f : Nat → Nat} {g b : Nat} (h : mkf A act g f) (hb : b &&& (4294967295 - A 0 0) = 0) : un f b 16 = A 0 0 ↔ cvr A act b g := by
  constructor
  · intro e d hd
    rw [← e] at hd
    obtain ⟨c, c1, c2, c3⟩ := (un_tb _ _ _ _).mp hd
    exact ⟨c, c1, c2, ((h c c1).2 d).mp c3⟩
  · intro q
    apply Nat.eq_of_testBit_eq
    intro d
    have e : ∀ x : Bool, ∀ y : Bool, (x = true ↔ y = true) → x = y := fun x y q => by cases x <;> cases y <;> simp_all
    apply e
    rw [un_tb]
    constructor
    · rintro ⟨c, c1, c2, c3⟩
      exact rc_told w (vld_sub (k := 0) w1 hb (by omega) c2) g d (((h c c1).2 d).mp c3)
    · intro hd
      obtain ⟨c, c1, c2, c3⟩ := q d hd
      exact ⟨c, c1, c2, ((h c c1).2 d).mpr c3⟩
theorem marks_l {op : Nat} {f : Nat → Nat} {K : Int32 → Int32 → HP → Option (Int32 × HP)} {a1 a2 : Int32} (hN : 100 ≤ N) (w : WFt A) (hf : ∀ c, c < 16 → f c < 65536) : ∀ n i h, i ≤ 16 → 16 - i < n → NR A op h → (∀ c, c < 16 → h.1 48 c = nI (if c < i then f c ||| un (fun c => nxt A op c (A 0 1)) (f c) 16 else f c)) → ∃ h', xX3_bestStand_80 N K n a1 a2 (nI i) h = K a1 (a2 + 1) h' ∧ (∀ k, k ≠ 48 → h'.1 k = h.1 k) ∧ ∀ c, c < 16 → h'.1 48 c = nI (f c ||| un (fun c => nxt A op c (A 0 1)) (f c) 16) := by
  intro n
  induction n with
  | zero => intro i h _ q; omega
  | succ n ih =>
    intro i h hi hq hnr hl
    rw [xX3_bestStand_80]
    dsimp only
    by_cases e : i = 16
    · subst e
      refine ⟨h, by rw [if_pos (by decide), lt_e], fun _ _ => rfl, fun c hc => ?_⟩
      rw [hl c hc, if_pos hc]
    · have hc : i < 16 := by omega
      rw [if_neg (by rw [l16, le_nn (by decide) (by omega)]; omega), ald_n hc (by decide), ald_n hc (by decide), hl i hc, if_neg (Nat.lt_irrefl i), nearTo_e hN hnr (fun c _ => nxt_lt w op c _ (Nat.le_refl _)) (hf i hc), cl_s, or_nn, ast_n hc (by decide), lt_e, nI_1]
      obtain ⟨h', g1, g2, g3⟩ := ih (i + 1) (up h 48 i (nI (f i ||| un (fun c => nxt A op c (A 0 1)) (f i) 16))) (by omega) (by omega) (fun c hc => by rw [up_n (by decide)]; exact hnr c hc) (fun c hc2 => by
        rw [up_at]
        by_cases ec : c = i
        · subst ec; rw [if_pos ⟨rfl, rfl⟩, if_pos (by omega)]
        · rw [if_neg (fun z => ec z.2), hl c hc2]
          by_cases e4 : c < i
          · rw [if_pos e4, if_pos (by omega)]
          · rw [if_neg e4, if_neg (by omega)])
      exact ⟨h', g1, fun k hk => by rw [g2 k hk, up_n hk], g3⟩
/-- what the class finds, in one number -/
noncomputable def bsV (A : AS) (act : Nat → Bool) (o : Option Nat) : Int32 := match o with | none => -2 | some b => nI (wst A act b 16 * 65536 + b)
theorem best_l {op k : Nat} (hN : 100000 ≤ N) (w : WFt A) (w1 : A 0 0 < 65536) (hk5 : k ≤ 5) (hk1 : 1 ≤ k) : ∀ n g h f, g ≤ 16 → 16 - g < n → NR A op h → h.1 3 4 = nI (A 0 0) → (∀ c, c < 16 → h.1 48 c = nI (f c)) → mkf A (am op) g f → (∀ b, b < 65536 → vld A k b = true → g ≤ wst A (am op) b 16) → ∃ h', xX3_bestStand_54 N n (nI k) (nI g) h = some (bsV A (am op) (rbs A (am op) k 65536), h') ∧ ∀ k, k ≠ 48 → h'.1 k = h.1 k := by
  intro n
  induction n with
  | zero => intro g h f _ q; omega
  | succ n ih =>
    intro g h f hg hq hnr t hf hmk hlo
    rw [xX3_bestStand_54]
    dsimp only
    by_cases e : g = 16
    · subst e
      refine ⟨h, ?_, fun _ _ => rfl⟩
      rw [if_pos (by decide)]
      cases hr : rbs A (am op) k 65536 with
      | none => rfl
      | some b0 =>
        obtain ⟨i1, i2, i3, -⟩ := rbs_s 65536 b0 hr
        have := hlo b0 i1 i2
        have := wst_cap (A := A) (act := am op) w b0 16
        omega
    · have hg2 : g < 16 := by omega
      obtain ⟨r, r1, r2⟩ := leastCover_e (A := A) (k := k) hN w1 hk5 hk1 t hf (fun c hc => (hmk c hc).1)
      rw [if_neg (by rw [l16, le_nn (by decide) (by omega)]; omega), r1, cl_s]
      have iff : ∀ b, vld A k b = true → (un f b 16 = A 0 0 ↔ wst A (am op) b 16 ≤ g) := by
        intro b hv
        have hv0 := hv
        unfold vld at hv0
        rw [Bool.and_eq_true, decide_eq_true_iff] at hv0
        rw [un_cvr w w1 hmk hv0.1, wst_cvr w w1 b hg2]
      rcases r2 with ⟨a1, a2⟩ | ⟨a1, a2, a4, a5⟩
      · subst a1
        rw [if_pos (show nI 0 = 0 from rfl)]
        obtain ⟨h1, f1, f2, f3⟩ := marks_l (N := N) (A := A) (op := op) (K := xX3_bestStand_54 N n) (a1 := nI k) (a2 := nI g) (by omega) w (fun c hc => (hmk c hc).1) N 0 h (by omega) (by omega) hnr (fun c hc => by rw [if_neg (by omega)]; exact hf c hc)
        rw [show xX3_bestStand_80 N (xX3_bestStand_54 N n) N (nI k) (nI g) 0 h = _ from f1, nI_1]
        obtain ⟨h', g1, g2⟩ := ih (g + 1) h1 _ (by omega) (by omega) (fun c hc => by rw [f2 46 (by decide)]; exact hnr c hc) (by rw [f2 3 (by decide)]; exact t) f3 (mkf_step w hmk) (fun b hb hv => by
          have := hlo b hb hv
          have h2 := a2 b hb
          have : ¬ wst A (am op) b 16 ≤ g := fun z => h2 ⟨hv, (iff b hv).mpr z⟩
          omega)
        exact ⟨h', g1, fun k hk => by rw [g2 k hk, f2 k hk]⟩
      · rw [if_neg (by rw [l0, eq_nn (by omega) (by decide)]; exact a1)]
        refine ⟨h, ?_, fun _ _ => rfl⟩
        have wr : wst A (am op) r 16 = g := by
          have := (iff r a4.1).mp a4.2
          have := hlo r a2 a4.1
          omega
        have hr : rbs A (am op) k 65536 = some r := by
          cases hr : rbs A (am op) k 65536 with
          | none => have := rbs_n 65536 hr r a2 a4.1; omega
          | some b0 =>
            obtain ⟨i1, i2, i3, i4⟩ := rbs_s 65536 b0 hr
            have j1 := i4 r a2 a4.1
            have j2 := hlo b0 i1 i2
            have : b0 = r := by
              rcases Nat.lt_trichotomy b0 r with q | q | q
              · exact absurd ⟨i2, (iff b0 i2).mpr (by omega)⟩ (a5 b0 q)
              · exact q
              · have := j1.2 q; omega
            rw [this]
        rw [hr]
        show some (_, _) = some (nI (wst A (am op) r 16 * 65536 + r), h)
        rw [wr, l16, shl_nn (by decide) (by omega), or_nn, show g * 2 ^ 16 = 2 ^ 16 * g by omega, ← Nat.two_pow_add_eq_or_of_lt (i := 16) a2, show 2 ^ 16 * g = g * 65536 by omega]
theorem best_0 {op k : Nat} (hN : 100000 ≤ N) (w : WFt A) (w1 : A 0 0 < 65536) (hk5 : k ≤ 5) (hk1 : 1 ≤ k) : ∀ n i h, i ≤ 16 → 16 - i < n → NR A op h → h.1 3 4 = nI (A 0 0) → (∀ c, c < i → h.1 48 c = nI (2 ^ c)) → ∃ h', xX3_bestStand_31 N n (nI k) (nI i) h = some (bsV A (am op) (rbs A (am op) k 65536), h') ∧ ∀ k, k ≠ 48 → h'.1 k = h.1 k := by
  intro n
  induction n with
  | zero => intro i h _ q; omega
  | succ n ih =>
    intro i h hi hq hnr t hl
    rw [xX3_bestStand_31]
    dsimp only
    by_cases e : i = 16
    · subst e
      rw [if_pos (by decide)]
      exact best_l hN w w1 hk5 hk1 N 0 h (fun c => 2 ^ c) (by omega) (by omega) hnr t hl (fun c hc => ⟨Nat.pow_lt_pow_right (by decide) hc, fun d => by rw [Nat.testBit_two_pow, decide_eq_true_iff]; exact ⟨fun z => z.symm, fun z => z.symm⟩⟩) (fun b _ _ => Nat.zero_le _)
    · rw [if_neg (by rw [l16, le_nn (by decide) (by omega)]; omega), shl1 (by omega), ast_n (by omega) (by decide), lt_e, nI_1]
      obtain ⟨h', g1, g2⟩ := ih (i + 1) (up h 48 i (nI (2 ^ i))) (by omega) (by omega) (fun c hc => by rw [up_n (by decide)]; exact hnr c hc) (by rw [up_n (by decide)]; exact t) (fun c hc => by
        rw [up_at]
        by_cases ec : c = i
        · subst ec; rw [if_pos ⟨rfl, rfl⟩]
        · rw [if_neg (fun z => ec z.2)]; exact hl c (by omega))
      exact ⟨h', g1, fun k hk => by rw [g2 k hk, up_n hk]⟩
/-- no set can stand -/
theorem rbs_none {k : Nat} (h : ∀ b, b < 65536 → vld A k b = true → 1000000 ≤ wst A act b 16) : rbs A act k 65536 = none := by
  cases hr : rbs A act k 65536 with
  | none => rfl
  | some b0 =>
    obtain ⟨i1, i2, i3, i4⟩ := rbs_s 65536 b0 hr
    have := h b0 i1 i2
    omega
theorem worst_in {b d : Nat} {h : HP} {op : Nat} (w : WFt A) (hb : b < 65536) (hd : d < 16) (hs : ∀ c, b.testBit c = true → (A 0 0).testBit c = true) (hr : AR A op h) {K : Int32 → Int32 → Int32 → HP → Option (Int32 × HP)} {a2 : Nat} (ha2 : a2 ≤ 1000000) : ∀ n c, c ≤ 16 → 16 - c < n → xX11_worstOf_29 N K n (nI b) (nI a2) (nI d) (nI (wmn A (am op) b d c)) (nI c) h = K (nI b) (nI (max a2 (wmn A (am op) b d 16))) (nI (d + 1)) h := by
  intro n
  induction n with
  | zero => intro c _ q; omega
  | succ n ih =>
    intro c hc hq
    rw [xX11_worstOf_29]
    dsimp only
    unfold xX11_worstOf_84 xX11_worstOf_71
    by_cases e : c = 16
    · subst e
      have := wmn_cap (act := am op) w b d 16 (Nat.le_refl _)
      rw [if_pos (by decide), maxM_e (by omega) (by omega), cl_s, lt_e, nI_1]
    · have ih1 := ih (c + 1) (by omega) (by omega)
      rw [if_neg (by rw [l16, le_nn (by decide) (by omega)]; omega), has_e (by omega) (by omega), cl_s, lt_e, nI_1]
      simp only [wmn] at ih1
      cases hb : b.testBit c
      · rw [b2_f, if_pos rfl]
        rw [if_neg (fun z => by rw [hb] at z; cases z.1)] at ih1
        exact ih1
      · rw [b2_t, if_neg (by decide), farM_e hr (by omega) (hs c hb) hd, cl_s]
        have dc := dn_cases (A := A) (act := am op) (c := c) (d := d) w (by omega)
        by_cases q : dn A (am op) c d = 100
        · rw [if_pos ((fI_m2 (by omega)).mpr q)]
          rw [if_neg (fun z => z.2 q)] at ih1
          exact ih1
        · rw [if_neg (fun z => q ((fI_m2 (by omega)).mp z)), farM_e hr (by omega) (hs c hb) hd, cl_s]
          have fe : fI (dn A (am op) c d) = nI (dn A (am op) c d) := if_neg q
          have := wmn_cap (act := am op) w b d c (by omega)
          rw [fe, minM_e (by omega) (by omega), cl_s, lt_e]
          rw [if_pos ⟨hb, q⟩] at ih1
          exact ih1
theorem worst_l {b : Nat} {h : HP} {op : Nat} (hN : 100 ≤ N) (w : WFt A) (w1 : A 0 0 < 65536) (hb : b < 65536) (hs : ∀ c, b.testBit c = true → (A 0 0).testBit c = true) (t : h.1 0 7 = nI (A 0 0)) (hr : AR A op h) : ∀ n d, d ≤ 16 → 16 - d < n → xX11_worstOf_4 N n (nI b) (nI (wst A (am op) b d)) (nI d) h = some (nI (wst A (am op) b 16), h) := by
  intro n
  induction n with
  | zero => intro d _ q; omega
  | succ n ih =>
    intro d hd hq
    rw [xX11_worstOf_4]
    dsimp only
    unfold xX11_worstOf_84
    by_cases e : d = 16
    · subst e; rw [if_pos (by decide)]
    · have ih1 := ih (d + 1) (by omega) (by omega)
      simp only [wst] at ih1
      rw [if_neg (by rw [l16, le_nn (by decide) (by omega)]; omega), isToldM w1 t, cl_s, tld_n (by omega), lt_e, nI_1]
      cases ht : (A 0 0).testBit d
      · rw [b2_f, if_neg (by decide)]
        rw [if_neg (fun z => by rw [ht] at z; cases z)] at ih1
        exact ih1
      · rw [b2_t, if_pos (by decide)]
        rw [if_pos ht] at ih1
        have wc := wst_cap (act := am op) w b d
        have e2 := worst_in (N := N) (op := op) (h := h) w hb (show d < 16 by omega) hs hr (K := xX11_worstOf_4 N n) (a2 := wst A (am op) b d) (by omega) N 0 (by omega) (by omega)
        rw [show xX11_worstOf_29 N (xX11_worstOf_4 N n) N (nI b) (nI (wst A (am op) b d)) (nI d) 1000000 0 h = _ from e2]
        exact ih1
/-- what the reference answers -/
noncomputable def brV (A : AS) (act : Nat → Bool) (a : Int32) (o : Option Nat) : Int32 := match o with | none => -2 | some b => if a = 1 then nI b else nI (wst A act b 16)
theorem brigM_l {k op : Nat} {h : HP} (hN : 100 ≤ N) (w : WFt A) (w1 : A 0 0 < 65536) (hk5 : k ≤ 5) (t : h.1 0 7 = nI (A 0 0)) (hr : AR A op h) (a : Int32) : ∀ n i, i ≤ 65536 → 65536 - i < n → xX11_brigades_35 N n (nI k) a (oI (rbs A (am op) k i)) (nI (lmt A (am op) (rbs A (am op) k i))) (nI i) h = some (brV A (am op) a (rbs A (am op) k 65536), h) := by
  intro n
  induction n with
  | zero => intro i _ q; omega
  | succ n ih =>
    intro i hi hq
    rw [xX11_brigades_35]
    dsimp only
    unfold xX11_brigades_108 xX11_brigades_114 xX11_brigades_91
    by_cases e : i = 65536
    · rw [e, if_pos (by decide)]
      generalize hg : rbs A (am op) k 65536 = o
      cases o with
      | none =>
        rw [if_neg (show ¬ oI none ≠ -2 from fun z => z rfl), ite_self]; rfl
      | some b0 =>
        have i1 := (rbs_s 65536 b0 hg).1
        rw [if_pos (show oI (some b0) ≠ -2 from nn_m2 (by omega))]
        show (if a = 1 then some (nI b0, h) else some (nI (wst A (am op) b0 16), h)) = some (if a = 1 then nI b0 else nI (wst A (am op) b0 16), h)
        split <;> rfl
    · have ih1 := ih (i + 1) (by omega) (by omega)
      have nr : rbs A (am op) k (i + 1) = if vld A k i = true ∧ wst A (am op) i 16 < lmt A (am op) (rbs A (am op) k i) then some i else rbs A (am op) k i := rfl
      rw [if_neg (by rw [l65536, le_nn (by decide) (by omega)]; omega), t, bnotw (by omega), lt_e, nI_1]
      have andl : i &&& (4294967295 - A 0 0) ≤ i := Nat.and_le_left
      by_cases q1 : i &&& (4294967295 - A 0 0) = 0
      · rw [q1, if_neg (show ¬ nI 0 ≠ 0 from fun z => z rfl), bits_e hN (by omega), cl_s]
        have pl := pc_le i 16
        by_cases q2 : pc i 16 = k
        · have hs : ∀ c, i.testBit c = true → (A 0 0).testBit c = true := fun c hc => vld_sub (k := 0) w1 q1 (by
            rcases Nat.lt_or_ge c 16 with z | z
            · omega
            · rw [big_f (by omega) z] at hc; cases hc) hc
          have e3 := worst_l (N := N) (b := i) (op := op) hN w w1 (by omega) hs t hr N 0 (by omega) (by omega)
          unfold xX11_worstOf
          rw [if_pos (by rw [q2]), show xX11_worstOf_4 N N (nI i) 0 0 h = _ from e3, cl_s]
          have hv : vld A k i = true := by unfold vld; rw [decide_eq_true q1, decide_eq_true q2]; rfl
          have wc := wst_cap (A := A) (act := am op) w i 16
          have lc : lmt A (am op) (rbs A (am op) k i) ≤ 1000000 := by
            cases rbs A (am op) k i with
            | none => exact Nat.le_refl _
            | some b => have := wst_cap (A := A) (act := am op) w b 16; show wst A (am op) b 16 ≤ 1000000; omega
          by_cases q3 : wst A (am op) i 16 < lmt A (am op) (rbs A (am op) k i)
          · rw [if_pos (by rw [lt_nn (by omega) (by omega)]; exact q3), lt_e]
            rw [nr, if_pos ⟨hv, q3⟩] at ih1
            exact ih1
          · rw [if_neg (by rw [lt_nn (by omega) (by omega)]; exact q3)]
            rw [nr, if_neg (fun z => q3 z.2)] at ih1
            exact ih1
        · rw [if_neg (by rw [eq_nn (by omega) (by omega)]; exact q2)]
          rw [nr, if_neg (fun z => by
            have hv := z.1
            unfold vld at hv
            rw [Bool.and_eq_true, decide_eq_true_iff, decide_eq_true_iff] at hv
            exact q2 hv.2)] at ih1
          exact ih1
      · rw [if_pos (by rw [ne_eq, l0, eq_nn (by omega) (by decide)]; exact q1)]
        rw [nr, if_neg (fun z => by
          have hv := z.1
          unfold vld at hv
          rw [Bool.and_eq_true, decide_eq_true_iff] at hv
          exact q1 hv.1)] at ih1
        exact ih1
end BP
