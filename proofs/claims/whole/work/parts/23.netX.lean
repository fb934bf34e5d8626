/-! ===== Net: look, nearTo, measureFrom ===== -/
section NX
variable {A : AS} {N c : Nat}
theorem nxt_step {op p c : Nat} (w : WFt A) (hp : p < A 0 1) : nxt A op c (p + 1) = if op.testBit p = true then (if A 2 p = c then nxt A op c p ||| 2 ^ A 3 p else if A 3 p = c then nxt A op c p ||| 2 ^ A 2 p else nxt A op c p) else nxt A op c p := by
  simp only [nxt, ac]
  by_cases h : op.testBit p = true <;> by_cases h1 : A 2 p = c <;> by_cases h2 : A 3 p = c <;> simp [h, h1, h2]
/-- the rows of neighbours lie there -/
def NR (A : AS) (op : Nat) (h : HP) : Prop := ∀ c, c < 16 → h.1 46 c = nI (nxt A op c (A 0 1))
def sN (h0 h : HP) : Prop := ∀ k, k ≠ 46 → h.1 k = h0.1 k
theorem look_l (w : WFt A) (hn : A 0 1 ≤ 24) {op : Nat} (ho : op < 2147483648) {h0 : HP} (t : TX A h0) (h45 : h0.1 45 4 = nI op) : ∀ n i h, i ≤ A 0 1 → A 0 1 - i < n → sN h0 h → (∀ c, c < 16 → h.1 46 c = nI (nxt A op c i)) → ∃ h', xX3_look_15 N n (nI i) h = some (0, h') ∧ sN h0 h' ∧ NR A op h' := by
  intro n
  induction n with
  | zero => intro i h _ q; omega
  | succ n ih =>
    intro i h hi hq hs hr
    rw [xX3_look_15]
    dsimp only
    rw [hs 3 (by decide), hs 45 (by decide), t.2.1, h45]
    by_cases e : i = A 0 1
    · rw [if_pos (by rw [e, le_nn (by omega) (by omega)]; omega)]
      exact ⟨h, rfl, hs, fun c hc => by rw [hr c hc, e]⟩
    · have hp : i < A 0 1 := by omega
      obtain ⟨w1, w2, w3, -⟩ := w.2 i hp
      obtain ⟨t1, t2, -⟩ := t.2.2.2 i hp
      rw [if_neg (by rw [le_nn (by omega) (by omega)]; omega), hasBit_e (by omega) ho, cl_s]
      unfold xX3_look_93
      rw [lt_e, nI_1]
      cases hb : op.testBit i
      · rw [b2_f, if_pos rfl]
        refine ih (i + 1) h (by omega) (by omega) hs (fun c hc => ?_)
        rw [hr c hc, nxt_step w hp, if_neg (by rw [hb]; decide)]
      · rw [b2_t, if_neg (by decide)]
        have e5 := hs 5 (by decide)
        have e6 := hs 6 (by decide)
        simp (disch := omega) only [ald_n, ast_n, up_n, e5, e6, t1, t2, shl1, lt_e, hr _ w1, or_nn]
        rw [up_at, if_neg (by omega), hr _ w2, or_nn]
        refine ih (i + 1) _ (by omega) (by omega) (fun k hk => by rw [up_n hk, up_n hk]; exact hs k hk) (fun c hc => ?_)
        rw [up_at, up_at, nxt_step w hp, if_pos hb]
        by_cases q1 : c = A 2 i
        · subst q1
          rw [if_neg (by omega), if_pos ⟨rfl, rfl⟩, if_pos rfl]
        · by_cases q2 : c = A 3 i
          · subst q2
            rw [if_pos ⟨rfl, rfl⟩, if_neg (fun z => q1 z.symm), if_pos rfl]
          · rw [if_neg (fun z => q2 z.2), if_neg (fun z => q1 z.2), if_neg (fun z => q1 z.symm), if_neg (fun z => q2 z.symm), hr c hc]
theorem look_e (hN : 100 ≤ N) (w : WFt A) (hn : A 0 1 ≤ 24) {op : Nat} (ho : op < 2147483648) {h : HP} (t : TX A h) : ∃ h', xX3_look N (nI op) h = some (0, h') ∧ (∀ k, k ≠ 45 → k ≠ 46 → h'.1 k = h.1 k) ∧ NR A op h' ∧ h'.1 45 4 = nI op := by
  unfold xX3_look
  rw [lt_e]
  obtain ⟨h1, e1, k1, z1, -⟩ := fill_e (N := N) (na := 16) (ka := 46) 0 (up h 45 4 (nI op)) (by decide) (by omega)
  rw [e1, cl_s]
  have t1 : TX A h1 := by
    obtain ⟨a1, a2, a3, a4⟩ := t
    refine ⟨?_, ?_, fun c hc => ?_, fun p hp => ?_⟩
    · rw [k1 3 (by decide), up_n (by decide)]; exact a1
    · rw [k1 3 (by decide), up_n (by decide)]; exact a2
    · rw [k1 4 (by decide), up_n (by decide)]; exact a3 c hc
    · rw [k1 5 (by decide), k1 6 (by decide), k1 7 (by decide), up_n (by decide), up_n (by decide), up_n (by decide)]; exact a4 p hp
  have h45 : h1.1 45 4 = nI op := by rw [k1 45 (by decide), up_at, if_pos ⟨rfl, rfl⟩]
  obtain ⟨h2, e2, k2, r2⟩ := look_l (N := N) w hn ho t1 h45 N 0 h1 (by omega) (by omega) (fun _ _ => rfl) (fun c hc => by rw [z1 c hc]; rfl)
  exact ⟨h2, e2, fun k q1 q2 => by rw [k2 k q2, k1 k q2, up_n q1], r2, by rw [k2 45 (by decide)]; exact h45⟩
theorem un_low {f : Nat → Nat} {a k : Nat} (h : isLow a k) (hk : k < 16) : un f a 16 = f k ||| un f (a &&& (a - 1)) 16 := by
  apply Nat.eq_of_testBit_eq
  intro d
  have e : ∀ x : Bool, ∀ y : Bool, (x = true ↔ y = true) → x = y := fun x y q => by cases x <;> cases y <;> simp_all
  apply e
  rw [Nat.testBit_or, Bool.or_eq_true, un_tb, un_tb]
  constructor
  · rintro ⟨c, h1, h2, h3⟩
    by_cases q : c = k
    · subst q; exact Or.inl h3
    · exact Or.inr ⟨c, h1, by rw [low_off h, h2]; simp [q], h3⟩
  · rintro (h1 | ⟨c, h1, h2, h3⟩)
    · exact ⟨k, hk, h.1, h1⟩
    · rw [low_off h, Bool.and_eq_true] at h2
      exact ⟨c, h1, h2.1, h3⟩
theorem nearTo_l {f : Nat → Nat} {h : HP} (hf : ∀ c, c < 16 → h.1 46 c = nI (f c)) (hlt : ∀ c, c < 16 → f c < 65536) : ∀ n i fd a, i ≤ 16 → 16 - i < n → a < 65536 → pc a 16 ≤ 16 - i → xX3_nearTo_7 N n (nI fd) (nI a) (nI i) h = some (nI (fd ||| un f a 16), h) := by
  have u0 : un f 0 16 = 0 := by
    apply Nat.eq_of_testBit_eq
    intro d
    rw [Nat.zero_testBit]
    cases hb : (un f 0 16).testBit d
    · rfl
    · obtain ⟨c, -, h2, -⟩ := (un_tb _ _ _ _).mp hb
      simp at h2
  intro n
  induction n with
  | zero => intro i fd a _ q; omega
  | succ n ih =>
    intro i fd a hi hq ha hpc
    rw [xX3_nearTo_7]
    dsimp only
    unfold xX3_nearTo_42
    by_cases h0 : a = 0
    · subst h0
      rw [u0, Nat.or_zero]
      by_cases e : i = 16
      · rw [if_pos (by rw [l16, e, le_nn (by omega) (by omega)]; omega)]
      · rw [if_neg (by rw [l16, le_nn (by decide) (by omega)]; omega), if_pos (show nI 0 = 0 from rfl)]
    · obtain ⟨k, hk, hl⟩ := low_ex (n := 16) ha h0
      have hpo := pc_off hl.1 (low_off hl) 16 hk
      rw [if_neg (by rw [l16, le_nn (by decide) (by omega)]; omega), if_neg (by rw [l0, eq_nn (by omega) (by decide)]; exact h0), lowest_e hl (by omega), cl_s, ald_n hk (by decide), lt_e, lt_e, lt_e, hf k hk, or_nn, l1, sub_nn (by omega), and_nn, add_nn]
      have hlt2 : a &&& (a - 1) < 65536 := Nat.lt_of_le_of_lt Nat.and_le_left ha
      rw [ih (i + 1) _ _ (by omega) (by omega) hlt2 (by omega), un_low hl hk, Nat.or_assoc]
theorem nearTo_e (hN : 100 ≤ N) {f : Nat → Nat} {h : HP} (hf : ∀ c, c < 16 → h.1 46 c = nI (f c)) (hlt : ∀ c, c < 16 → f c < 65536) {a : Nat} (ha : a < 65536) : xX3_nearTo N (nI a) h = some (nI (un f a 16), h) := by
  unfold xX3_nearTo
  have := nearTo_l (N := N) hf hlt N 0 0 a (by omega) (by omega) ha (pc_le a 16)
  rw [Nat.zero_or] at this
  exact this
/-- far is filled for what lies nearer than g -/
def FR (A : AS) (op c g : Nat) (h : HP) : Prop := ∀ d, d < 16 → (∀ j, j < g → rc A (am op) c j d → (∀ i, i < j → ¬ rc A (am op) c i d) → h.1 47 d = nI j) ∧ ((∀ j, j < g → ¬ rc A (am op) c j d) → h.1 47 d = -2)
def sF (h0 h : HP) : Prop := ∀ k, k ≠ 47 → h.1 k = h0.1 k
theorem bnot_tb {a b d : Nat} (hb : b < 65536) : nI a &&& (nI b ^^^ (-1)) = nI (a &&& (4294967295 - b)) := by
  have e : nI b ^^^ (-1) = nI (4294967295 - b) := by
    rw [show (-1 : Int32) = nI 4294967295 from by decide, xor_nn]
    congr 1
    apply Nat.eq_of_testBit_eq
    intro i
    rw [Nat.testBit_xor, show (4294967295 : Nat) - b = 2 ^ 32 - (b + 1) by omega, Nat.testBit_two_pow_sub_succ (by omega), show (4294967295 : Nat) = 2 ^ 32 - 1 from rfl, Nat.testBit_two_pow_sub_one]
    by_cases q : i < 32
    · simp [q]
    · have : b.testBit i = false := Nat.testBit_lt_two_pow (Nat.lt_of_lt_of_le (show b < 2 ^ 32 by omega) (Nat.pow_le_pow_right (by decide) (by omega)))
      simp [q, this]
  rw [e, and_nn]
theorem cmp_tb {b : Nat} (hb : b < 65536) (i : Nat) (hi : i < 32) : (4294967295 - b).testBit i = !b.testBit i := by
  rw [show (4294967295 : Nat) - b = 2 ^ 32 - (b + 1) by omega, Nat.testBit_two_pow_sub_succ (by omega)]
  simp [hi]
theorem meas_in {op c g S E : Nat} {h0 : HP} {K : Int32 → Int32 → Int32 → HP → Option (Int32 × HP)} {P : Option (Int32 × HP) → Prop} (hN : 100 ≤ N) (hnr : NR A op h0) (w : WFt A) (hg : g < 16) (hS : S < 65536) (hE : E < 65536)
    (hK : ∀ h, sF h0 h → (∀ d, d < 16 → (E.testBit d = true → h.1 47 d = nI g) ∧ (E.testBit d = false → h.1 47 d = h0.1 47 d)) → P (K (nI (S ||| (un (fun c => nxt A op c (A 0 1)) E 16 &&& (4294967295 - S)))) (nI (un (fun c => nxt A op c (A 0 1)) E 16 &&& (4294967295 - S))) (nI (g + 1)) h)) :
    ∀ n i h, i ≤ 16 → 16 - i < n → sF h0 h → (∀ d, d < i → (E.testBit d = true → h.1 47 d = nI g) ∧ (E.testBit d = false → h.1 47 d = h0.1 47 d)) → (∀ d, i ≤ d → h.1 47 d = h0.1 47 d) → P (xX3_measureFrom_32 N K n (nI S) (nI E) (nI g) (nI i) h) := by
  intro n
  induction n with
  | zero => intro i h _ q; omega
  | succ n ih =>
    intro i h hi hq hs h1 h2
    rw [xX3_measureFrom_32]
    dsimp only
    by_cases e : i = 16
    · subst e
      rw [if_pos (by decide), nearTo_e hN (f := fun c => nxt A op c (A 0 1)) (fun c hc => by rw [hs 46 (by decide)]; exact hnr c hc) (fun c hc => nxt_lt w op c _ (Nat.le_refl _)) hE, cl_s, lt_e, lt_e, lt_e, bnot_tb (d := 0) hS, or_nn, nI_1]
      exact hK h hs h1
    · rw [if_neg (by rw [l16, le_nn (by decide) (by omega)]; omega), hasBit_e (by omega) (by omega), cl_s]
      unfold xX3_measureFrom_57
      rw [lt_e, nI_1]
      cases hb : E.testBit i
      · rw [b2_f, if_pos rfl]
        refine ih (i + 1) h (by omega) (by omega) hs (fun d hd => ?_) (fun d hd => h2 d (by omega))
        by_cases q : d = i
        · subst q; exact ⟨fun z => (by rw [hb] at z; cases z), fun _ => h2 d (Nat.le_refl d)⟩
        · exact h1 d (by omega)
      · rw [b2_t, if_neg (by decide), ast_n (by omega) (by decide)]
        refine ih (i + 1) _ (by omega) (by omega) (fun k hk => by rw [up_n hk]; exact hs k hk) (fun d hd => ?_) (fun d hd => by rw [up_at, if_neg (by omega)]; exact h2 d (by omega))
        rw [up_at]
        by_cases q : d = i
        · subst q
          rw [if_pos ⟨rfl, rfl⟩]
          exact ⟨fun _ => rfl, fun z => (by rw [hb] at z; cases z)⟩
        · rw [if_neg (fun z => q z.2)]
          exact h1 d (by omega)
/-- the sets of a measuring at the g-th round -/
def LV (A : AS) (op c g S E : Nat) : Prop := S < 65536 ∧ E < 65536 ∧ (∀ d, S.testBit d = true ↔ rc A (am op) c g d) ∧ (∀ d, E.testBit d = true ↔ (rc A (am op) c g d ∧ ∀ j, j < g → ¬ rc A (am op) c j d)) ∧ (E ≠ 0 → g + 1 ≤ pc S 16)
theorem LV.step {op c g S E : Nat} (w : WFt A) (hc : c < 16) (hE0 : E ≠ 0) (hl : LV A op c g S E) : LV A op c (g + 1) (S ||| (un (fun c => nxt A op c (A 0 1)) E 16 &&& (4294967295 - S))) (un (fun c => nxt A op c (A 0 1)) E 16 &&& (4294967295 - S)) := by
  obtain ⟨l1, l2, l3, l4, l5⟩ := hl
  generalize hU : un (fun c => nxt A op c (A 0 1)) E 16 = U
  have hUl : U < 65536 := by rw [← hU]; exact un_lt 16 (fun c _ => nxt_lt w op c _ (Nat.le_refl _))
  have hE' : U &&& (4294967295 - S) < 65536 := Nat.lt_of_le_of_lt Nat.and_le_left hUl
  have hUt : ∀ d, U.testBit d = true ↔ ∃ x, E.testBit x = true ∧ ad A (am op) x d := by
    intro d
    rw [← hU, un_tb]
    constructor
    · rintro ⟨x, _, h2, h3⟩; exact ⟨x, h2, nxt_ad.mp h3⟩
    · rintro ⟨x, h2, h3⟩
      exact ⟨x, rc_lt w hc g x ((l4 x).mp h2).1, h2, nxt_ad.mpr h3⟩
  have hEt : ∀ d, (U &&& (4294967295 - S)).testBit d = true ↔ (rc A (am op) c (g + 1) d ∧ ∀ j, j < g + 1 → ¬ rc A (am op) c j d) := by
    intro d
    by_cases hd : d < 32
    · rw [Nat.testBit_and, cmp_tb l1 d hd, Bool.and_eq_true, Bool.not_eq_true', hUt]
      constructor
      · rintro ⟨⟨x, h1, h2⟩, h3⟩
        refine ⟨Or.inr ⟨x, ((l4 x).mp h1).1, h2⟩, fun j hj hr => ?_⟩
        have := (l3 d).mpr (rc_le (show j ≤ g by omega) hr)
        rw [this] at h3; cases h3
      · rintro ⟨h1, h2⟩
        have hng := h2 g (by omega)
        have h3 : S.testBit d = false := by
          cases hb : S.testBit d
          · rfl
          · exact absurd ((l3 d).mp hb) hng
        refine ⟨?_, h3⟩
        rcases h1 with h1 | ⟨x, h1, h4⟩
        · exact absurd h1 hng
        · refine ⟨x, (l4 x).mpr ⟨h1, fun j hj hr => ?_⟩, h4⟩
          exact hng (rc_le (show j + 1 ≤ g by omega) (Or.inr ⟨x, hr, h4⟩))
    · have e1 : (U &&& (4294967295 - S)).testBit d = false := Nat.testBit_lt_two_pow (Nat.lt_of_lt_of_le (show U &&& (4294967295 - S) < 2 ^ 16 from hE') (Nat.pow_le_pow_right (by decide) (by omega)))
      rw [e1]
      constructor
      · intro z; cases z
      · rintro ⟨h1, -⟩
        have := rc_lt w hc _ d h1
        omega
  have hSt : ∀ d, (S ||| (U &&& (4294967295 - S))).testBit d = true ↔ rc A (am op) c (g + 1) d := by
    intro d
    rw [Nat.testBit_or, Bool.or_eq_true, hEt, l3]
    constructor
    · rintro (h | h)
      · exact Or.inl h
      · exact h.1
    · intro h
      by_cases q : rc A (am op) c g d
      · exact Or.inl q
      · exact Or.inr ⟨h, fun j hj hr => q (rc_le (by omega) hr)⟩
  refine ⟨Nat.or_lt_two_pow (n := 16) l1 hE', hE', hSt, hEt, fun h0 => ?_⟩
  rw [pc_or 16 (fun i hi => ?_)]
  · have h1 := l5 hE0
    have h2 := pc_pos (k := 16) hE' h0
    omega
  · rintro ⟨h1, h2⟩
    exact ((hEt i).mp h2).2 g (by omega) ((l3 i).mp h1)
theorem LV.zero (hc : c < 16) {op : Nat} : LV A op c 0 (2 ^ c) (2 ^ c) := by
  have h1 : 2 ^ c < 65536 := Nat.pow_lt_pow_right (by decide) hc
  have ht : ∀ d, (2 ^ c).testBit d = true ↔ d = c := fun d => by
    rw [Nat.testBit_two_pow]
    simp
    exact ⟨fun z => z.symm, fun z => z.symm⟩
  refine ⟨h1, h1, ht, fun d => ?_, fun h0 => pc_pos (k := 16) h1 h0⟩
  rw [ht]
  constructor
  · intro z; exact ⟨z, fun j hj => by omega⟩
  · intro z; exact z.1
theorem meas_l {op c : Nat} (hN : 100 ≤ N) (w : WFt A) (hc : c < 16) {h0 : HP} (hnr : NR A op h0) : ∀ n g S E h, g ≤ 16 → 16 - g < n → sF h0 h → LV A op c g S E → FR A op c g h → ∃ S' h', xX3_measureFrom_18 N n (nI S) (nI E) (nI g) h = some (nI S', h') ∧ sF h0 h' ∧ isCp A (am op) c S' ∧ ∀ d, d < 16 → isDs A (am op) c d (h'.1 47 d) := by
  intro n
  induction n with
  | zero => intro g S E h _ q; omega
  | succ n ih =>
    intro g S E h hg hq hs hl hf
    rw [xX3_measureFrom_18]
    dsimp only
    unfold xX3_measureFrom_83
    have hl0 := hl
    obtain ⟨l1, l2, l3, l4, l5⟩ := hl
    by_cases hz : E = 0
    · -- no more
      have hst : ∀ d, rc A (am op) c g d → ∃ j, j < g ∧ rc A (am op) c j d := by
        intro d hd
        apply Classical.byContradiction
        intro q
        have := (l4 d).mpr ⟨hd, fun j hj hr => q ⟨j, hj, hr⟩⟩
        rw [hz] at this
        simp at this
      have hg1 : 0 < g := by
        obtain ⟨j, hj, -⟩ := hst c (rc_le (Nat.zero_le g) rfl)
        omega
      have hcl : ∀ k d, rc A (am op) c (g - 1 + k) d → rc A (am op) c (g - 1) d := rc_stop (fun d hd => by
        rw [show g - 1 + 1 = g by omega] at hd
        obtain ⟨j, hj, hr⟩ := hst d hd
        exact rc_le (by omega) hr)
      have hall : ∀ k d, rc A (am op) c k d → rc A (am op) c (g - 1) d := fun k d hk => hcl (k + 0) d (rc_le (by omega) hk)
      have hres : isCp A (am op) c S := ⟨l1, fun d => ⟨fun z => ⟨g, (l3 d).mp z⟩, fun ⟨k, z⟩ => (l3 d).mpr (rc_le (by omega) (hall k d z))⟩⟩
      have hds : ∀ d, d < 16 → isDs A (am op) c d (h.1 47 d) := by
        intro d hd
        by_cases q : ∃ k, rc A (am op) c k d
        · obtain ⟨j, hj1, hj2⟩ := pk_least (fun k => rc A (am op) c k d) q
          have hjg : j < g := by
            rcases Nat.lt_or_ge j g with z | z
            · exact z
            · obtain ⟨i, hi, hr⟩ := hst d (rc_le (show g - 1 ≤ g by omega) (hall j d hj1))
              exact absurd hr (hj2 i (by omega))
          exact Or.inl ⟨j, by omega, (hf d hd).1 j hjg hj1 (fun i hi => hj2 i hi), hj1, fun i hi => hj2 i hi⟩
        · exact Or.inr ⟨(hf d hd).2 (fun j _ hr => q ⟨j, hr⟩), fun k hr => q ⟨k, hr⟩⟩
      by_cases e : g = 16
      · rw [if_pos (by rw [l16, e, le_nn (by omega) (by omega)]; omega)]
        exact ⟨S, h, rfl, hs, hres, hds⟩
      · rw [if_neg (by rw [l16, le_nn (by decide) (by omega)]; omega), hz, if_pos (show nI 0 = 0 from rfl)]
        exact ⟨S, h, rfl, hs, hres, hds⟩
    · have hp := l5 hz
      have hp2 := pc_le S 16
      rw [if_neg (by rw [l16, le_nn (by decide) (by omega)]; omega), if_neg (by rw [l0, eq_nn (by omega) (by decide)]; exact hz)]
      refine meas_in (N := N) (op := op) (c := c) (h0 := h) (P := fun d => ∃ S' h', d = some (nI S', h') ∧ sF h0 h' ∧ isCp A (am op) c S' ∧ ∀ d, d < 16 → isDs A (am op) c d (h'.1 47 d)) hN (fun x hx => by rw [hs 46 (by decide)]; exact hnr x hx) w (by omega) l1 l2 (fun h1 q1 q2 => ?_) N 0 h (by omega) (by omega) (fun _ _ => rfl) (fun d hd => by omega) (fun _ _ => rfl)
      refine ih (g + 1) _ _ h1 (by omega) (by omega) (fun k hk => by rw [q1 k hk]; exact hs k hk) (hl0.step w hc hz) (fun d hd => ⟨fun j hj hr hl2 => ?_, fun hno => ?_⟩)
      · by_cases e : j = g
        · subst e
          exact (q2 d hd).1 ((l4 d).mpr ⟨hr, fun i hi => hl2 i hi⟩)
        · rw [(q2 d hd).2 (by
            cases hb : E.testBit d
            · rfl
            · exact absurd hr (((l4 d).mp hb).2 j (by omega)))]
          exact (hf d hd).1 j (by omega) hr hl2
      · rw [(q2 d hd).2 (by
          cases hb : E.testBit d
          · rfl
          · exact absurd ((l4 d).mp hb).1 (hno g (by omega)))]
        exact (hf d hd).2 (fun j hj => hno j (by omega))
theorem measureFrom_e {op c : Nat} (hN : 100 ≤ N) (w : WFt A) (hc : c < 16) {h : HP} (hnr : NR A op h) : ∃ S h', xX3_measureFrom N (nI c) h = some (nI S, h') ∧ sF h h' ∧ isCp A (am op) c S ∧ ∀ d, d < 16 → isDs A (am op) c d (h'.1 47 d) := by
  unfold xX3_measureFrom
  obtain ⟨h1, e1, k1, z1, -⟩ := fill_e (N := N) (na := 16) (ka := 47) (-2) h (by decide) (by omega)
  rw [e1, cl_s, lt_e, shl1 (by omega)]
  obtain ⟨S, h2, e2, s2, r2⟩ := meas_l (N := N) (h0 := h1) hN w hc (op := op) (fun x hx => by rw [k1 46 (by decide)]; exact hnr x hx) N 0 (2 ^ c) (2 ^ c) h1 (by omega) (by omega) (fun _ _ => rfl) (LV.zero hc) (fun d hd => ⟨fun j hj => by omega, fun _ => z1 d hd⟩)
  exact ⟨S, h2, e2, fun k hk => by rw [s2 k hk, k1 k hk], r2⟩
end NX
