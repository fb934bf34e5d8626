/-! ===== longest: walks that meet no corner twice ===== -/
def mt (a b : Nat) : Nat := a &&& (4294967295 - b)
theorem mt_tb {a b : Nat} (ha : a < 65536) (hb : b < 65536) (i : Nat) : (mt a b).testBit i = (a.testBit i && !b.testBit i) := by
  unfold mt
  rw [Nat.testBit_and]
  rcases Nat.lt_or_ge i 32 with q | q
  · rw [cmp_tb hb i q]
  · rw [big_f ha (by omega)]; simp
theorem mt_lt {a b : Nat} (ha : a < 65536) : mt a b < 65536 := Nat.lt_of_le_of_lt Nat.and_le_left ha
theorem p2_lt {x : Nat} (hx : x < 16) : 2 ^ x < 65536 := Nat.pow_lt_pow_right (a := 2) (n := 16) (by decide) hx
theorem or2_tb {T x : Nat} (i : Nat) : (T ||| 2 ^ x).testBit i = (T.testBit i || decide (x = i)) := by rw [Nat.testBit_or, Nat.testBit_two_pow]
theorem or2_lt {T x : Nat} (hT : T < 65536) (hx : x < 16) : T ||| 2 ^ x < 65536 := Nat.or_lt_two_pow (n := 16) hT (p2_lt hx)
theorem tb16 {a x : Nat} (ha : a < 65536) (h : a.testBit x = true) : x < 16 := by
  rcases Nat.lt_or_ge x 16 with q | q
  · exact q
  · rw [big_f ha q] at h; cases h
theorem mt_mt {C T x : Nat} (hC : C < 65536) (hT : T < 65536) (hx : x < 16) : mt (mt C T) (2 ^ x) = mt C (T ||| 2 ^ x) := by
  apply Nat.eq_of_testBit_eq
  intro i
  rw [mt_tb (mt_lt hC) (p2_lt hx), mt_tb hC hT, mt_tb hC (or2_lt hT hx), or2_tb, Nat.testBit_two_pow]
  cases C.testBit i <;> cases T.testBit i <;> cases decide (x = i) <;> rfl
def fw (f : Nat → Nat) : Nat → Nat → Nat → Nat → Prop
  | 0, _, c, d => d = c
  | k + 1, T, c, d => ∃ x, (f c).testBit x = true ∧ T.testBit x = false ∧ fw f k (T ||| 2 ^ x) x d
/-- a set of corners that no pipe leaves -/
def clsd (f : Nat → Nat) (C : Nat) : Prop := C < 65536 ∧ ∀ c x, C.testBit c = true → (f c).testBit x = true → C.testBit x = true
theorem pc_mt {f : Nat → Nat} {C T x : Nat} (hC : C < 65536) (hT : T < 65536) (hx : C.testBit x = true) (hn : T.testBit x = false) : pc (mt C T) 16 = pc (mt C (T ||| 2 ^ x)) 16 + 1 := by
  have x16 := tb16 hC hx
  apply pc_off (k := x) _ _ 16 x16
  · rw [mt_tb hC hT, hx, hn]; rfl
  · intro i
    rw [mt_tb hC (or2_lt hT x16), mt_tb hC hT, or2_tb]
    by_cases q : i = x
    · subst q; simp
    · rw [decide_eq_false (show ¬ x = i from fun z => q z.symm), decide_eq_true q]; simp
theorem fw_len {f : Nat → Nat} {C : Nat} (hC : clsd f C) : ∀ k T c d, T < 65536 → C.testBit c = true → fw f k T c d → k ≤ pc (mt C T) 16 := by
  intro k
  induction k with
  | zero => intro T c d _ _ _; exact Nat.zero_le _
  | succ k ih =>
    intro T c d hT hc h
    obtain ⟨x, h1, h2, h3⟩ := h
    have cx := hC.2 c x hc h1
    have := ih _ _ _ (or2_lt hT (tb16 hC.1 cx)) cx h3
    rw [pc_mt (f := f) hC.1 hT cx h2]
    omega
def be (g e a b : Nat) : Prop := a < g ∨ (a = g ∧ e ≤ b)
theorem be.tr {g e a b x y : Nat} (h1 : be g e a b) (h2 : be a b x y) : be g e x y := by unfold be at *; omega
section LX
variable {A : AS} {hx hm : HP} {N op : Nat}
def fN (A : AS) (op : Nat) : Nat → Nat := fun c => nxt A op c (A 0 1)
def sG (h h' : HP) : Prop := (∀ k, k ≠ 52 → h'.1 k = h.1 k)
/-- what a call of goOn does -/
def goR (A : AS) (op C : Nat) (cal : Int32 → Int32 → Int32 → HP → Option (Int32 × HP)) (m : Nat) : Prop :=
  ∀ T c dp g e h, T < 65536 → C.testBit c = true → pc (mt C T) 16 + dp ≤ 15 → pc (mt C T) 16 < m → g ≤ 15 → e < 16 → NR A op h → h.1 52 6 = nI g → h.1 52 7 = nI e →
    ∃ g' e' h', cal (nI c) (nI (mt C T)) (nI dp) h = some (0, h') ∧ sG h h' ∧ g' ≤ 15 ∧ e' < 16 ∧ h'.1 52 6 = nI g' ∧ h'.1 52 7 = nI e' ∧ ((g' = g ∧ e' = e) ∨ ∃ k, fw (fN A op) k T c e' ∧ g' = dp + k) ∧ (∀ k d, fw (fN A op) k T c d → be g' e' (dp + k) d) ∧ be g' e' g e
theorem goOn_70 {C T c dp m : Nat} {cal : Int32 → Int32 → Int32 → HP → Option (Int32 × HP)} (hcal : goR A op C cal m) (w : WFt A) (hC : clsd (fN A op) C) (hT : T < 65536) (hc : C.testBit c = true) (hd : pc (mt C T) 16 + dp ≤ 15) (hm : pc (mt C T) 16 ≤ m) : ∀ n i R g e h, R < 65536 → i ≤ 16 → 16 - i < n → pc R 16 ≤ 16 - i → (∀ x, R.testBit x = true → (fN A op c).testBit x = true ∧ T.testBit x = false) → g ≤ 15 → e < 16 → NR A op h → h.1 52 6 = nI g → h.1 52 7 = nI e →
    ∃ g' e' h', xX9_goOn_70 N cal n (nI (mt C T)) (nI dp) (nI R) (nI i) h = some (0, h') ∧ sG h h' ∧ g' ≤ 15 ∧ e' < 16 ∧ h'.1 52 6 = nI g' ∧ h'.1 52 7 = nI e' ∧ ((g' = g ∧ e' = e) ∨ ∃ x k, R.testBit x = true ∧ fw (fN A op) k (T ||| 2 ^ x) x e' ∧ g' = dp + (k + 1)) ∧ (∀ x k d, R.testBit x = true → fw (fN A op) k (T ||| 2 ^ x) x d → be g' e' (dp + (k + 1)) d) ∧ be g' e' g e := by
  intro n
  induction n with
  | zero => intro i R g e h _ _ q; omega
  | succ n ih =>
    intro i R g e h hR hi hq hpc hin hg he hnr h6 h7
    rw [xX9_goOn_70]
    dsimp only
    unfold xX9_goOn_121
    by_cases r0 : R = 0
    · subst r0
      rw [if_pos (show nI 0 = 0 from rfl), ite_self]
      exact ⟨g, e, h, rfl, fun _ _ => rfl, hg, he, h6, h7, Or.inl ⟨rfl, rfl⟩, fun x k d hx => (by simp at hx), Or.inr ⟨rfl, Nat.le_refl _⟩⟩
    · obtain ⟨x, hx16, hl⟩ := low_ex (n := 16) hR r0
      have hpo := pc_off hl.1 (low_off hl) 16 hx16
      obtain ⟨fx, tx⟩ := hin x hl.1
      have cx := hC.2 c x hc fx
      have hp := pc_mt (f := fN A op) hC.1 hT cx tx
      rw [if_neg (by rw [l16, le_nn (by decide) (by omega)]; omega), if_neg (by rw [l0, eq_nn (by omega) (by decide)]; exact r0), lowest_e hl (by omega), cl_s, lt_e, shl1 (by omega), bnotw (by have := p2_lt hx16; omega), show mt C T &&& (4294967295 - 2 ^ x) = mt (mt C T) (2 ^ x) from rfl, mt_mt hC.1 hT hx16, nI_1, l1, sub_nn (by omega), and_nn, ← l1]
      have hlt2 : R &&& (R - 1) < 65536 := Nat.lt_of_le_of_lt Nat.and_le_left hR
      have o1 : i + 1 ≤ 16 := by omega
      have o2 : 16 - (i + 1) < n := by omega
      have o3 : pc (R &&& (R - 1)) 16 ≤ 16 - (i + 1) := by omega
      obtain ⟨g1, e1, h1, c1, c2, c3, c4, c5, c6, c7, c8, c9⟩ := hcal (T ||| 2 ^ x) x (dp + 1) g e h (or2_lt hT hx16) cx (by omega) (by omega) hg he hnr h6 h7
      rw [c1, cl_s, lt_e, nI_1]
      obtain ⟨g2, e2, h2, d1, d2, d3, d4, d5, d6, d7, d8, d9⟩ := ih (i + 1) (R &&& (R - 1)) g1 e1 h1 hlt2 o1 o2 o3 (fun y hy => by
        rw [low_off hl, Bool.and_eq_true] at hy
        exact hin y hy.1) c3 c4 (fun c hc => by rw [c2 46 (by decide)]; exact hnr c hc) c5 c6
      refine ⟨g2, e2, h2, d1, fun k hk => by rw [d2 k hk, c2 k hk], d3, d4, d5, d6, ?_, ?_, d9.tr c9⟩
      · rcases d7 with ⟨q1, q2⟩ | ⟨y, k, q1, q2, q3⟩
        · subst q1; subst q2
          rcases c7 with z | ⟨k, z1, z2⟩
          · exact Or.inl z
          · exact Or.inr ⟨x, k, hl.1, z1, by omega⟩
        · rw [low_off hl, Bool.and_eq_true] at q1
          exact Or.inr ⟨y, k, q1.1, q2, q3⟩
      · intro y k d hy hf
        by_cases q : y = x
        · subst q
          have := c8 k d hf
          rw [show dp + 1 + k = dp + (k + 1) by omega] at this
          exact d9.tr this
        · exact d8 y k d (by rw [low_off hl, hy]; simp [q]) hf
theorem goOn_e {C m : Nat} {cal : Int32 → Int32 → Int32 → HP → Option (Int32 × HP)} (hN : 100 ≤ N) (hcal : goR A op C cal m) (w : WFt A) (hC : clsd (fN A op) C) : goR A op C (xX9_goOn N cal) (m + 1) := by
  intro T c dp g e h hT hc hd hm hg he hnr h6 h7
  have c16 := tb16 hC.1 hc
  have ul := mt_lt (b := T) hC.1
  have go : ∀ g1 e1 h1, sG h h1 → g1 ≤ 15 → e1 < 16 → h1.1 52 6 = nI g1 → h1.1 52 7 = nI e1 → ((g1 = g ∧ e1 = e) ∨ (g1 = dp ∧ e1 = c)) → be g1 e1 dp c → be g1 e1 g e → ∃ g' e' h', xX9_goOn_34 N cal (nI c) (nI (mt C T)) (nI dp) h1 = some (0, h') ∧ sG h h' ∧ g' ≤ 15 ∧ e' < 16 ∧ h'.1 52 6 = nI g' ∧ h'.1 52 7 = nI e' ∧ ((g' = g ∧ e' = e) ∨ ∃ k, fw (fN A op) k T c e' ∧ g' = dp + k) ∧ (∀ k d, fw (fN A op) k T c d → be g' e' (dp + k) d) ∧ be g' e' g e := by
    intro g1 e1 h1 s1 b1 b2 k6 k7 hor hb1 hb2
    have src : (g1 = g ∧ e1 = e) ∨ ∃ k, fw (fN A op) k T c e1 ∧ g1 = dp + k := by
      rcases hor with z | ⟨z1, z2⟩
      · exact Or.inl z
      · exact Or.inr ⟨0, z2, by omega⟩
    unfold xX9_goOn_34 xX9_goOn_53
    rw [if_neg (by rw [l16, le_nn (by decide) (by omega)]; omega), bitCount16 ul, cl_s, k6, add_nn]
    by_cases q : g1 ≤ dp + pc (mt C T) 16
    · rw [if_pos (by rw [le_nn (by omega) (by omega)]; exact q), ald_n c16 (by decide), s1 46 (by decide), hnr c c16, lt_e, and_nn]
      have rl : nxt A op c (A 0 1) &&& mt C T < 65536 := Nat.lt_of_le_of_lt Nat.and_le_right ul
      have rb : ∀ x, (nxt A op c (A 0 1) &&& mt C T).testBit x = true ↔ ((fN A op c).testBit x = true ∧ T.testBit x = false) := by
        intro x
        rw [Nat.testBit_and, mt_tb hC.1 hT, Bool.and_eq_true, Bool.and_eq_true]
        constructor
        · rintro ⟨z1, z2, z3⟩; exact ⟨z1, by simpa using z3⟩
        · rintro ⟨z1, z2⟩; exact ⟨z1, hC.2 c x hc z1, by rw [z2]; rfl⟩
      obtain ⟨g2, e2, h2, d1, d2, d3, d4, d5, d6, d7, d8, d9⟩ := goOn_70 (N := N) hcal w hC hT hc hd (by omega) N 0 _ g1 e1 h1 rl (by omega) (by omega) (pc_le _ 16) (fun x hx => (rb x).mp hx) b1 b2 (fun c hc => by rw [s1 46 (by decide)]; exact hnr c hc) k6 k7
      rw [show xX9_goOn_70 N cal N (nI (mt C T)) (nI dp) (nI (nxt A op c (A 0 1) &&& mt C T)) 0 h1 = _ from d1]
      refine ⟨g2, e2, h2, rfl, fun k hk => by rw [d2 k hk, s1 k hk], d3, d4, d5, d6, ?_, ?_, d9.tr hb2⟩
      · rcases d7 with ⟨z1, z2⟩ | ⟨x, k, z1, z2, z3⟩
        · rw [z1, z2]; exact src
        · have := (rb x).mp z1
          exact Or.inr ⟨k + 1, ⟨x, this.1, this.2, z2⟩, z3⟩
      · intro k d hf
        cases k with
        | zero =>
          have hf2 : d = c := hf
          rw [hf2, Nat.add_zero]
          exact d9.tr hb1
        | succ k =>
          obtain ⟨x, z1, z2, z3⟩ := hf
          exact d8 x k d ((rb x).mpr ⟨z1, z2⟩) z3
    · rw [if_neg (by rw [le_nn (by omega) (by omega)]; exact q)]
      refine ⟨g1, e1, h1, rfl, s1, b1, b2, k6, k7, src, ?_, hb2⟩
      intro k d hf
      have := fw_len hC k T c d hT hc hf
      exact Or.inl (by omega)
  have go24 : be dp c g e → ∃ g' e' h', xX9_goOn_24 N cal (nI c) (nI (mt C T)) (nI dp) h = some (0, h') ∧ sG h h' ∧ g' ≤ 15 ∧ e' < 16 ∧ h'.1 52 6 = nI g' ∧ h'.1 52 7 = nI e' ∧ ((g' = g ∧ e' = e) ∨ ∃ k, fw (fN A op) k T c e' ∧ g' = dp + k) ∧ (∀ k d, fw (fN A op) k T c d → be g' e' (dp + k) d) ∧ be g' e' g e := by
    intro hb
    unfold xX9_goOn_24
    rw [lt_e, lt_e]
    exact go dp c _ (fun k hk => by rw [up_n hk, up_n hk]) (by omega) c16 (by rw [up_at, if_neg (by omega), up_at, if_pos ⟨rfl, rfl⟩]) (by rw [up_at, if_pos ⟨rfl, rfl⟩]) (Or.inr ⟨rfl, rfl⟩) (Or.inr ⟨rfl, Nat.le_refl _⟩) hb
  unfold xX9_goOn
  rw [h6, h7]
  by_cases q1 : g < dp
  · rw [if_pos (by rw [lt_nn (by omega) (by omega)]; exact q1)]
    exact go24 (Or.inl q1)
  · rw [if_neg (by rw [lt_nn (by omega) (by omega)]; exact q1)]
    by_cases q2 : dp = g
    · rw [if_neg (by rw [q2]; simp)]
      by_cases q3 : e ≤ c
      · rw [if_pos (by rw [le_nn (by omega) (by omega)]; exact q3)]
        exact go g e h (fun _ _ => rfl) hg he h6 h7 (Or.inl ⟨rfl, rfl⟩) (Or.inr ⟨q2, q3⟩) (Or.inr ⟨rfl, Nat.le_refl _⟩)
      · rw [if_neg (by rw [le_nn (by omega) (by omega)]; exact q3)]
        exact go24 (Or.inr ⟨q2.symm, by omega⟩)
    · rw [if_pos (by rw [ne_eq, eq_nn (by omega) (by omega)]; exact q2)]
      exact go g e h (fun _ _ => rfl) hg he h6 h7 (Or.inl ⟨rfl, rfl⟩) (Or.inl (by omega)) (Or.inr ⟨rfl, Nat.le_refl _⟩)
theorem goOn_r {C : Nat} (hN : 100 ≤ N) (w : WFt A) (hC : clsd (fN A op) C) : ∀ m, goR A op C (rg1 N m) m := by
  intro m
  induction m with
  | zero => intro T c dp g e h _ _ _ z; omega
  | succ m ih => exact goOn_e hN ih w hC
def isBest (f : Nat → Nat) (c L e : Nat) : Prop := fw f L (2 ^ c) c e ∧ ∀ k d, fw f k (2 ^ c) c d → be L e k d
theorem goFar_e {c : Nat} (hN : 100 ≤ N) (w : WFt A) (hc : c < 16) {h : HP} (hnr : NR A op h) : ∃ L e h', xX9_goFar N (nI c) h = some (0, h') ∧ (∀ k, k ≠ 52 → k ≠ 47 → h'.1 k = h.1 k) ∧ L ≤ 15 ∧ e < 16 ∧ h'.1 52 6 = nI L ∧ h'.1 52 7 = nI e ∧ isBest (fN A op) c L e := by
  unfold xX9_goFar
  rw [lt_e, lt_e]
  obtain ⟨C, h4, e4, s4, cp, -⟩ := measureFrom_e (N := N) (op := op) (c := c) hN w hc (h := up (up h 52 6 0) 52 7 (nI c)) (fun d hd => by rw [up_n (by decide), up_n (by decide)]; exact hnr d hd)
  have cc : C.testBit c = true := (cp.2 c).mpr ⟨0, rfl⟩
  have hC : clsd (fN A op) C := ⟨cp.1, fun a x ha hx => by
    obtain ⟨g, hg⟩ := (cp.2 a).mp ha
    exact (cp.2 x).mpr ⟨g + 1, Or.inr ⟨a, hg, nxt_ad.mp hx⟩⟩⟩
  have pl : pc (mt C (2 ^ c)) 16 + 1 ≤ 16 := by
    have e := pc_mt (f := fN A op) (T := 0) (x := c) hC.1 (by decide) cc (by simp)
    rw [Nat.zero_or] at e
    have := pc_le (mt C 0) 16
    omega
  obtain ⟨L, e, h', c1, c2, c3, c4, c5, c6, c7, c8, c9⟩ := goOn_r (N := N) hN w hC 60 (2 ^ c) c 0 0 c h4 (p2_lt hc) cc (by omega) (by omega) (by omega) hc (fun d hd => by rw [s4 46 (by decide), up_n (by decide), up_n (by decide)]; exact hnr d hd) (by rw [s4 52 (by decide), up_at, if_neg (by omega), up_at, if_pos ⟨rfl, rfl⟩]; rfl) (by rw [s4 52 (by decide), up_at, if_pos ⟨rfl, rfl⟩])
  rw [e4, cl_s, shl1 (by omega), bnotw (by have := p2_lt hc; omega)]
  unfold xr_X9_goOn
  rw [show rg1 N 60 (nI c) (nI (C &&& (4294967295 - 2 ^ c))) 0 h4 = _ from c1, cl_s]
  refine ⟨L, e, h', rfl, fun k q1 q2 => by rw [c2 k q1, s4 k q2, up_n q1, up_n q1], c3, c4, c5, c6, ?_, ?_⟩
  · rcases c7 with ⟨z1, z2⟩ | ⟨k, z1, z2⟩
    · rw [z1, z2]; rfl
    · rw [show L = k by omega]; exact z1
  · intro k d hf
    have := c8 k d hf
    rw [Nat.zero_add] at this
    exact this
end LX
