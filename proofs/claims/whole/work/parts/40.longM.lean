/-! ===== longest, the reference ===== -/
def bk (f : Nat → Nat) (c0 : Nat) : Nat → Nat → Nat → Prop
  | 0, S, d => S = 2 ^ c0 ∧ d = c0
  | k + 1, S, x => ∃ T d, bk f c0 k T d ∧ (f d).testBit x = true ∧ T.testBit x = false ∧ S = T ||| 2 ^ x
section LM
variable {f : Nat → Nat} {c0 : Nat}
theorem bk_ok (hf : ∀ c, c < 16 → f c < 65536) (hc : c0 < 16) : ∀ k S d, bk f c0 k S d → S < 65536 ∧ d < 16 ∧ S.testBit d = true ∧ pc S 16 = k + 1 := by
  intro k
  induction k with
  | zero =>
    rintro S d ⟨rfl, rfl⟩
    refine ⟨p2_lt hc, hc, by rw [Nat.testBit_two_pow]; simp, ?_⟩
    have := pc_off (a := 2 ^ d) (b := 0) (k := d) (by rw [Nat.testBit_two_pow]; simp) (fun i => by
      rw [Nat.testBit_two_pow, Nat.zero_testBit]
      by_cases q : d = i
      · subst q; simp
      · simp [q]) 16 hc
    rw [this, pc_zero]
  | succ k ih =>
    rintro S x ⟨T, d, h1, h2, h3, rfl⟩
    obtain ⟨i1, i2, i3, i4⟩ := ih T d h1
    have hx := tb16 (hf d i2) h2
    refine ⟨or2_lt i1 hx, hx, by rw [or2_tb]; simp, ?_⟩
    have := pc_off (a := T ||| 2 ^ x) (b := T) (k := x) (by rw [or2_tb]; simp) (fun i => by
      rw [or2_tb]
      by_cases q : x = i
      · subst q; rw [h3]; simp
      · rw [decide_eq_false q, decide_eq_true (show i ≠ x from fun z => q z.symm)]; simp) 16 hx
    omega
theorem bk_fw : ∀ k T d, bk f c0 k T d → ∀ m e, fw f m T d e → fw f (k + m) (2 ^ c0) c0 e := by
  intro k
  induction k with
  | zero => rintro T d ⟨rfl, rfl⟩ m e h; rw [Nat.zero_add]; exact h
  | succ k ih =>
    rintro S x ⟨T, d, h1, h2, h3, rfl⟩ m e h
    have := ih T d h1 (m + 1) e ⟨x, h2, h3, h⟩
    rw [show k + 1 + m = k + (m + 1) by omega]
    exact this
theorem fw_bk : ∀ k T c d j, bk f c0 j T c → fw f k T c d → ∃ S, bk f c0 (j + k) S d := by
  intro k
  induction k with
  | zero =>
    intro T c d j h1 h2
    have h3 : d = c := h2
    exact ⟨T, by rw [h3]; exact h1⟩
  | succ k ih =>
    rintro T c d j h1 ⟨x, h2, h3, h4⟩
    obtain ⟨S, hS⟩ := ih _ _ d (j + 1) ⟨T, c, h1, h2, h3, rfl⟩ h4
    exact ⟨S, by rw [show j + (k + 1) = j + 1 + k by omega]; exact hS⟩
theorem or2_gt {T x : Nat} (h : T.testBit x = false) : T < T ||| 2 ^ x := by
  rcases Nat.lt_or_ge T (T ||| 2 ^ x) with q | q
  · exact q
  · have e : T ||| 2 ^ x = T := Nat.le_antisymm q Nat.left_le_or
    have := or2_tb (T := T) (x := x) x
    rw [e, h] at this
    simp at this
/-- the ends known before set i is looked at -/
def en (f : Nat → Nat) (c0 i S d : Nat) : Prop := (S = 2 ^ c0 ∧ d = c0) ∨ ∃ T e k, T < i ∧ bk f c0 k T e ∧ (f e).testBit d = true ∧ T.testBit d = false ∧ S = T ||| 2 ^ d
theorem en_bk {i S d : Nat} (hi : S ≤ i) : en f c0 i S d ↔ ∃ k, bk f c0 k S d := by
  constructor
  · rintro (h | ⟨T, e, k, h1, h2, h3, h4, h5⟩)
    · exact ⟨0, h⟩
    · exact ⟨k + 1, T, e, h2, h3, h4, h5⟩
  · rintro ⟨k, h⟩
    cases k with
    | zero => exact Or.inl h
    | succ k =>
      obtain ⟨T, e, h1, h2, h3, h4⟩ := h
      have := or2_gt h3
      exact Or.inr ⟨T, e, k, by omega, h1, h2, h3, h4⟩
/-- the array of ends holds P -/
def AH (P : Nat → Nat → Prop) (h : HP) : Prop := ∀ S, S < 65536 → ∃ v, h.1 33 S = nI v ∧ v < 65536 ∧ ∀ d, v.testBit d = true ↔ P S d
theorem AH.cg {P Q : Nat → Nat → Prop} {h : HP} (q : ∀ S d, P S d ↔ Q S d) (a : AH P h) : AH Q h := fun S hS => by
  obtain ⟨v, v1, v2, v3⟩ := a S hS
  exact ⟨v, v1, v2, fun d => by rw [v3, q]⟩
variable {N : Nat} {A : AS} {op : Nat}
theorem lo170 {K : Int32 → Int32 → Int32 → Int32 → Int32 → HP → Option (Int32 × HP)} {S R : Nat} (hS : S < 65536) (hR : R < 65536) (hd : ∀ y, R.testBit y = true → S.testBit y = false) (a2 a3 a4 : Int32) {e : Nat} : ∀ n x P h, x ≤ 16 → 16 - x < n → AH P h → ∃ h', xX11_longest_170 N K n a2 a3 a4 (nI S) (nI e) (nI R) (nI x) h = K a2 a3 a4 (nI S) (nI (e + 1)) h' ∧ (∀ k, k ≠ 33 → h'.1 k = h.1 k) ∧ h'.1 33 S = h.1 33 S ∧ AH (fun S' d => P S' d ∨ ∃ y, x ≤ y ∧ R.testBit y = true ∧ S' = S ||| 2 ^ y ∧ d = y) h' := by
  intro n
  induction n with
  | zero => intro x P h _ q; omega
  | succ n ih =>
    intro x P h hx hq ha
    rw [xX11_longest_170]
    dsimp only
    unfold xX11_longest_227 xX11_longest_221
    rw [lt_e, nI_1]
    have stop : (∀ y, x ≤ y → R.testBit y = true → False) → ∃ h', K a2 a3 a4 (nI S) (nI (e + 1)) h = K a2 a3 a4 (nI S) (nI (e + 1)) h' ∧ (∀ k, k ≠ 33 → h'.1 k = h.1 k) ∧ h'.1 33 S = h.1 33 S ∧ AH (fun S' d => P S' d ∨ ∃ y, x ≤ y ∧ R.testBit y = true ∧ S' = S ||| 2 ^ y ∧ d = y) h' := fun z =>
      ⟨h, rfl, fun _ _ => rfl, rfl, ha.cg (fun S d => ⟨Or.inl, fun q => q.elim id (fun ⟨y, y1, y2, _⟩ => (z y y1 y2).elim)⟩)⟩
    by_cases e1 : x = 16
    · rw [if_pos (by rw [e1]; decide)]
      exact stop (fun y y1 y2 => by have := tb16 hR y2; omega)
    · rw [if_neg (by rw [l16, le_nn (by decide) (by omega)]; omega)]
      by_cases r0 : R = 0
      · rw [if_pos (by rw [r0]; rfl)]
        exact stop (fun y _ y2 => by rw [r0] at y2; simp at y2)
      · rw [if_neg (by rw [l0, eq_nn (by omega) (by decide)]; exact r0), has_e (by omega) (by omega), cl_s, lt_e, nI_1]
        have next : ∀ y, ((x ≤ y ∧ R.testBit y = true) ↔ (x + 1 ≤ y ∧ R.testBit y = true) ∨ (y = x ∧ R.testBit x = true)) := fun y => by
          constructor
          · rintro ⟨z1, z2⟩
            by_cases q : y = x
            · subst q; exact Or.inr ⟨rfl, z2⟩
            · exact Or.inl ⟨by omega, z2⟩
          · rintro (⟨z1, z2⟩ | ⟨z1, z2⟩)
            · exact ⟨by omega, z2⟩
            · subst z1; exact ⟨Nat.le_refl _, z2⟩
        cases hb : R.testBit x
        · rw [b2_f, if_pos rfl]
          obtain ⟨h', g1, g2, g3, g4⟩ := ih (x + 1) P h (by omega) (by omega) ha
          refine ⟨h', g1, g2, g3, g4.cg (fun S' d => ?_)⟩
          constructor
          · rintro (z | ⟨y, y1, y2, y3⟩)
            · exact Or.inl z
            · exact Or.inr ⟨y, by omega, y2, y3⟩
          · rintro (z | ⟨y, y1, y2, y3⟩)
            · exact Or.inl z
            · rcases (next y).mp ⟨y1, y2⟩ with q | q
              · exact Or.inr ⟨y, q.1, y2, y3⟩
              · rw [hb] at q; cases q.2
        · have hsx := hd x hb
          have hlt := or2_lt (x := x) hS (by omega)
          obtain ⟨v, v1, v2, v3⟩ := ha _ hlt
          rw [b2_t, if_neg (by decide), shl1 (by omega), or_nn, ald_n hlt (by decide), v1, or_nn, ast_n hlt (by decide), lt_e]
          have hne : S ||| 2 ^ x ≠ S := by have := or2_gt hsx; omega
          obtain ⟨h', g1, g2, g3, g4⟩ := ih (x + 1) (fun S' d => P S' d ∨ (S' = S ||| 2 ^ x ∧ d = x)) (up h 33 (S ||| 2 ^ x) (nI (v ||| 2 ^ x))) (by omega) (by omega) (fun S' hS' => by
            by_cases q : S' = S ||| 2 ^ x
            · refine ⟨v ||| 2 ^ x, by rw [up_at, if_pos ⟨rfl, q⟩], or2_lt v2 (by omega), fun d => ?_⟩
              rw [or2_tb, Bool.or_eq_true, v3, decide_eq_true_iff, q]
              exact ⟨fun z => z.elim Or.inl (fun z => Or.inr ⟨rfl, z.symm⟩), fun z => z.elim Or.inl (fun z => Or.inr z.2.symm)⟩
            · obtain ⟨u, u1, u2, u3⟩ := ha S' hS'
              refine ⟨u, by rw [up_at, if_neg (fun z => q z.2), u1], u2, fun d => ?_⟩
              rw [u3]
              exact ⟨Or.inl, fun z => z.elim id (fun z => absurd z.1 q)⟩)
          refine ⟨h', g1, fun k hk => by rw [g2 k hk, up_n hk], by rw [g3, up_at, if_neg (fun z => hne z.2.symm)], g4.cg (fun S' d => ?_)⟩
          constructor
          · rintro ((z | ⟨z1, z2⟩) | ⟨y, y1, y2, y3⟩)
            · exact Or.inl z
            · exact Or.inr ⟨x, Nat.le_refl _, hb, z1, z2⟩
            · exact Or.inr ⟨y, by omega, y2, y3⟩
          · rintro (z | ⟨y, y1, y2, y3, y4⟩)
            · exact Or.inl (Or.inl z)
            · rcases (next y).mp ⟨y1, y2⟩ with q | q
              · exact Or.inr ⟨y, q.1, y2, y3, y4⟩
              · obtain ⟨q1, -⟩ := q
                subst q1
                exact Or.inl (Or.inr ⟨y3, y4⟩)
theorem lo128 {K : Int32 → Int32 → Int32 → Int32 → HP → Option (Int32 × HP)} (hN : 100 ≤ N) (w : WFt A) (hn : A 0 1 ≤ 24) {S v : Nat} (hS : S < 65536) (hv : v < 65536) (a2 a3 a4 : Int32) : ∀ n e P h, e ≤ 16 → 16 - e < n → TM A h → (∀ p, p < A 0 1 → h.1 1 (48 + p) = nI (op / 2 ^ p % 2)) → h.1 33 S = nI v → AH P h → ∃ h', xX11_longest_128 N K n a2 a3 a4 (nI S) (nI e) h = K a2 a3 a4 (nI (S + 1)) h' ∧ (∀ k, k ≠ 33 → h'.1 k = h.1 k) ∧ AH (fun S' d => P S' d ∨ ∃ y, e ≤ y ∧ v.testBit y = true ∧ (fN A op y).testBit d = true ∧ S.testBit d = false ∧ S' = S ||| 2 ^ d) h' := by
  intro n
  induction n with
  | zero => intro e P h _ q; omega
  | succ n ih =>
    intro e P h he hq t s hsv ha
    rw [xX11_longest_128]
    dsimp only
    unfold xX11_longest_233 xX11_longest_165
    by_cases e1 : e = 16
    · rw [if_pos (by rw [e1]; decide), lt_e, nI_1]
      exact ⟨h, rfl, fun _ _ => rfl, ha.cg (fun S d => ⟨Or.inl, fun q => q.elim id (fun ⟨y, y1, y2, _⟩ => by have := tb16 hv y2; omega)⟩)⟩
    · rw [if_neg (by rw [l16, le_nn (by decide) (by omega)]; omega), ald_n hS (by decide), hsv, has_e (by omega) (by omega), cl_s]
      -- one corner's turn
      have turn : ∀ R, R < 65536 → (∀ y, R.testBit y = true → S.testBit y = false) → (∀ d, R.testBit d = true ↔ (v.testBit e = true ∧ (fN A op e).testBit d = true ∧ S.testBit d = false)) → ∃ h', xX11_longest_170 N (xX11_longest_128 N K n) N a2 a3 a4 (nI S) (nI e) (nI R) 0 h = K a2 a3 a4 (nI (S + 1)) h' ∧ (∀ k, k ≠ 33 → h'.1 k = h.1 k) ∧ AH (fun S' d => P S' d ∨ ∃ y, e ≤ y ∧ v.testBit y = true ∧ (fN A op y).testBit d = true ∧ S.testBit d = false ∧ S' = S ||| 2 ^ d) h' := by
        intro R hR hd hRd
        obtain ⟨h1, f1, f2, f3, f4⟩ := lo170 (N := N) (K := xX11_longest_128 N K n) hS hR hd a2 a3 a4 (e := e) N 0 P h (by omega) (by omega) ha
        rw [show xX11_longest_170 N (xX11_longest_128 N K n) N a2 a3 a4 (nI S) (nI e) (nI R) 0 h = _ from f1]
        obtain ⟨t1, t2, t3, t4⟩ := t
        obtain ⟨h', g1, g2, g3⟩ := ih (e + 1) _ h1 (by omega) (by omega) ⟨by rw [f2 0 (by decide)]; exact t1, by rw [f2 0 (by decide)]; exact t2, fun c hc => by rw [f2 4 (by decide)]; exact t3 c hc, fun p hp => by rw [f2 5 (by decide), f2 6 (by decide), f2 7 (by decide)]; exact t4 p hp⟩ (fun p hp => by rw [f2 1 (by decide)]; exact s p hp) (by rw [f3]; exact hsv) f4
        refine ⟨h', g1, fun k hk => by rw [g2 k hk, f2 k hk], g3.cg (fun S' d => ?_)⟩
        constructor
        · rintro ((z | ⟨y, -, y2, y3, y4⟩) | ⟨y, y1, y2⟩)
          · exact Or.inl z
          · subst y4
            obtain ⟨q1, q2, q3⟩ := (hRd d).mp y2
            exact Or.inr ⟨e, Nat.le_refl _, q1, q2, q3, y3⟩
          · exact Or.inr ⟨y, by omega, y2⟩
        · rintro (z | ⟨y, y1, y2, y3, y4, y5⟩)
          · exact Or.inl (Or.inl z)
          · by_cases q : y = e
            · subst q
              exact Or.inl (Or.inr ⟨d, Nat.zero_le _, (hRd d).mpr ⟨y2, y3, y4⟩, y5, rfl⟩)
            · exact Or.inr ⟨y, by omega, y2, y3, y4, y5⟩
      cases hb : v.testBit e
      · rw [b2_f, if_pos rfl]
        exact turn 0 (by decide) (fun y hy => by simp at hy) (fun d => by rw [hb]; simp)
      · have fl : fN A op e < 65536 := nxt_lt w op e _ (Nat.le_refl _)
        rw [b2_t, if_neg (by decide), nextTo_e w hn t s (by omega) hN, cl_s, bnotw (by omega)]
        have tb : ∀ d, (mt (fN A op e) S).testBit d = true ↔ ((fN A op e).testBit d = true ∧ S.testBit d = false) := fun d => by
          rw [mt_tb fl hS, Bool.and_eq_true]
          exact ⟨fun z => ⟨z.1, by simpa using z.2⟩, fun z => ⟨z.1, by rw [z.2]; rfl⟩⟩
        exact turn (mt (fN A op e) S) (mt_lt fl) (fun y hy => ((tb y).mp hy).2) (fun d => by rw [tb, hb]; exact ⟨fun z => ⟨rfl, z⟩, fun z => z.2⟩)
/-- the longest so far: a set of so many, and the ends of all such -/
def BLo (f : Nat → Nat) (c0 i B M L : Nat) : Prop := B < 65536 ∧ M < 65536 ∧ pc B 16 = L + 1 ∧ (∀ d, M.testBit d = true ↔ ∃ S, (S < i ∨ S = 2 ^ c0) ∧ bk f c0 L S d) ∧ (∀ k S d, S < i → bk f c0 k S d → k ≤ L) ∧ M ≠ 0
theorem BLo.skip {i B M L : Nat} (h : BLo f c0 i B M L) (hs : ∀ k d, bk f c0 k i d → k < L) : BLo f c0 (i + 1) B M L := by
  obtain ⟨b1, b2, b3, b4, b5, b6⟩ := h
  refine ⟨b1, b2, b3, fun d => ?_, fun k S d hS hb => ?_, b6⟩
  · rw [b4]
    constructor
    · rintro ⟨S, z1, z2⟩; exact ⟨S, by omega, z2⟩
    · rintro ⟨S, z1, z2⟩
      by_cases q : S = i
      · subst q; have := hs L d z2; omega
      · exact ⟨S, by omega, z2⟩
  · by_cases q : S = i
    · subst q; have := hs k d hb; omega
    · exact b5 k S d (by omega) hb
theorem BLo.join {i B M L v : Nat} (h : BLo f c0 i B M L) (hv : v < 65536) (hvd : ∀ d, v.testBit d = true ↔ ∃ k, bk f c0 k i d) (hk : ∀ k d, bk f c0 k i d → k = L) : BLo f c0 (i + 1) B (M ||| v) L := by
  obtain ⟨b1, b2, b3, b4, b5, b6⟩ := h
  refine ⟨b1, Nat.or_lt_two_pow (n := 16) b2 hv, b3, fun d => ?_, fun k S d hS hb => ?_, ?_⟩
  · rw [Nat.testBit_or, Bool.or_eq_true, b4, hvd]
    constructor
    · rintro (⟨S, z1, z2⟩ | ⟨k, z⟩)
      · exact ⟨S, by omega, z2⟩
      · have := hk k d z
        subst this
        exact ⟨i, by omega, z⟩
    · rintro ⟨S, z1, z2⟩
      by_cases q : S = i
      · subst q; exact Or.inr ⟨L, z2⟩
      · exact Or.inl ⟨S, by omega, z2⟩
  · by_cases q : S = i
    · subst q; have := hk k d hb; omega
    · exact b5 k S d (by omega) hb
  · intro z
    have : M ≤ M ||| v := Nat.left_le_or
    omega
theorem BLo.new {i B M L L2 v : Nat} (hf : ∀ c, c < 16 → f c < 65536) (hc : c0 < 16) (h : BLo f c0 i B M L) (hi : i < 65536) (hv : v < 65536) (v0 : v ≠ 0) (hvd : ∀ d, v.testBit d = true ↔ ∃ k, bk f c0 k i d) (hk : ∀ k d, bk f c0 k i d → k = L2) (hL : L < L2) (hp : pc i 16 = L2 + 1) : BLo f c0 (i + 1) i v L2 := by
  obtain ⟨b1, b2, b3, b4, b5, b6⟩ := h
  refine ⟨hi, hv, hp, fun d => ?_, fun k S d hS hb => ?_, v0⟩
  · rw [hvd]
    constructor
    · rintro ⟨k, z⟩
      have := hk k d z
      subst this
      exact ⟨i, by omega, z⟩
    · rintro ⟨S, z1, z2⟩
      by_cases q : S = i
      · subst q; exact ⟨L2, z2⟩
      · by_cases q2 : S < i
        · have := b5 L2 S d q2 z2; omega
        · have e : S = 2 ^ c0 := by omega
          have p1 := (bk_ok hf hc L2 S d z2).2.2.2
          have p2 := (bk_ok (f := f) hf hc 0 (2 ^ c0) c0 ⟨rfl, rfl⟩).2.2.2
          rw [e] at p1
          omega
  · by_cases q : S = i
    · subst q; have := hk k d hb; omega
    · have := b5 k S d (by omega) hb; omega
end LM
