/-! ===== painted: pairs of least cost ===== -/
def rmv (S i j T : Nat) : Prop := ∀ b, T.testBit b = (S.testBit b && (decide (b ≠ i) && decide (b ≠ j)))
/-- S falls into k pairs that cost x together -/
def pr (D : Nat → Nat → Nat) : Nat → Nat → Nat → Prop
  | 0, S, x => S = 0 ∧ x = 0
  | k + 1, S, x => ∃ i j T y, i ≠ j ∧ S.testBit i = true ∧ S.testBit j = true ∧ rmv S i j T ∧ pr D k T y ∧ x = D i j + y
theorem rmv.uniq {S i j T U : Nat} (h : rmv S i j T) (h' : rmv S i j U) : T = U := Nat.eq_of_testBit_eq (fun b => by rw [h b, h' b])
theorem rmv.sw {S i j T : Nat} (h : rmv S i j T) : rmv S j i T := fun b => by rw [h b, Bool.and_comm (decide (b ≠ i))]
theorem rmv.ex {S i j : Nat} : ∃ T, rmv S i j T := by
  obtain ⟨T, -, h2⟩ := bits_ex (fun b => S.testBit b = true ∧ b ≠ i ∧ b ≠ j) (S + 1)
  refine ⟨T, fun b => ?_⟩
  have e : ∀ x : Bool, ∀ y : Bool, (x = true ↔ y = true) → x = y := fun x y q => by cases x <;> cases y <;> simp_all
  apply e
  rw [h2, Bool.and_eq_true, Bool.and_eq_true, decide_eq_true_iff, decide_eq_true_iff]
  constructor
  · exact fun z => z.2
  · intro z
    refine ⟨?_, z⟩
    rcases Nat.lt_or_ge b (S + 1) with q | q
    · exact q
    · have := Nat.testBit_lt_two_pow (x := S) (i := b) (Nat.lt_of_lt_of_le Nat.lt_two_pow_self (Nat.pow_le_pow_right (by decide) (by omega)))
      rw [this] at z; cases z.1
theorem rmv.in {S i j T b : Nat} (h : rmv S i j T) (hb : T.testBit b = true) : S.testBit b = true ∧ b ≠ i ∧ b ≠ j := by
  rw [h b, Bool.and_eq_true, Bool.and_eq_true, decide_eq_true_iff, decide_eq_true_iff] at hb
  exact hb
theorem rmv.mk {S i j T b : Nat} (h : rmv S i j T) (h1 : S.testBit b = true) (h2 : b ≠ i) (h3 : b ≠ j) : T.testBit b = true := by
  rw [h b, h1, decide_eq_true h2, decide_eq_true h3]; rfl
theorem pick {D : Nat → Nat → Nat} (hD : ∀ a b, D a b = D b a) : ∀ k S x l, pr D k S x → S.testBit l = true → ∃ j T y k', l ≠ j ∧ S.testBit j = true ∧ rmv S l j T ∧ pr D k' T y ∧ x = D l j + y := by
  intro k
  induction k with
  | zero => rintro S x l ⟨rfl, -⟩ h; simp at h
  | succ k ih =>
    rintro S x l ⟨i, j, T, y, h1, h2, h3, h4, h5, rfl⟩ hl
    by_cases q1 : l = i
    · subst q1; exact ⟨j, T, y, k, h1, h3, h4, h5, rfl⟩
    · by_cases q2 : l = j
      · subst q2; exact ⟨i, T, y, k, fun z => h1 z.symm, h2, h4.sw, h5, by rw [hD i l]⟩
      · obtain ⟨j2, T2, y2, k2, g1, g2, g3, g4, rfl⟩ := ih T y l h5 (h4.mk hl q1 q2)
        obtain ⟨s1, s2, s3⟩ := h4.in g2
        obtain ⟨U, hU⟩ := rmv.ex (S := S) (i := l) (j := j2)
        refine ⟨j2, U, D i j + y2, k2 + 1, g1, s1, hU, ⟨i, j, T2, y2, h1, hU.mk h2 (fun z => q1 z.symm) (fun z => s2 z.symm), hU.mk h3 (fun z => q2 z.symm) (fun z => s3 z.symm), fun b => ?_, g4, rfl⟩, by omega⟩
        rw [g3 b, h4 b, hU b]
        cases S.testBit b <;> cases decide (b ≠ i) <;> cases decide (b ≠ j) <;> cases decide (b ≠ l) <;> cases decide (b ≠ j2) <;> rfl
/-- the least cost of the pairs of S, but at most B -/
def cvB (D : Nat → Nat → Nat) (B S v : Nat) : Prop := (∀ k x, pr D k S x → v ≤ x) ∧ v ≤ B ∧ ((∃ k, pr D k S v) ∨ v = B)
theorem cvB.zero (D : Nat → Nat → Nat) (B : Nat) : cvB D B 0 0 := ⟨fun _ _ _ => Nat.zero_le _, Nat.zero_le _, Or.inl ⟨0, rfl, rfl⟩⟩
theorem cvB.uniq {D : Nat → Nat → Nat} {B S v u : Nat} (h : cvB D B S v) (h' : cvB D B S u) : v = u := by
  obtain ⟨a1, a2, a3⟩ := h
  obtain ⟨b1, b2, b3⟩ := h'
  have l1 : v ≤ u := by
    rcases b3 with ⟨k, z⟩ | z
    · exact a1 k u z
    · omega
  have l2 : u ≤ v := by
    rcases a3 with ⟨k, z⟩ | z
    · exact b1 k v z
    · omega
  omega
/-- one step: l is paired with each of the others -/
theorem cvB.step {D : Nat → Nat → Nat} {B S l v : Nat} (hD : ∀ a b, D a b = D b a) (hl : S.testBit l = true) (u : Nat → Nat) (hu : ∀ j, S.testBit j = true → j ≠ l → ∃ T, rmv S l j T ∧ cvB D B T (u j)) (h1 : ∀ j, S.testBit j = true → j ≠ l → v ≤ D l j + u j) (h2 : v ≤ B) (h3 : v = B ∨ ∃ j, S.testBit j = true ∧ j ≠ l ∧ v = D l j + u j) : cvB D B S v := by
  refine ⟨fun k x hp => ?_, h2, ?_⟩
  · obtain ⟨j, T, y, k', g1, g2, g3, g4, rfl⟩ := pick hD k S x l hp hl
    obtain ⟨T2, t1, t2⟩ := hu j g2 (fun z => g1 z.symm)
    have e := t1.uniq g3
    subst e
    have := t2.1 k' y g4
    have := h1 j g2 (fun z => g1 z.symm)
    omega
  · rcases h3 with z | ⟨j, z1, z2, z3⟩
    · exact Or.inr z
    · obtain ⟨T, t1, t2, t3, t4⟩ := hu j z1 z2
      rcases t4 with ⟨k, z⟩ | z
      · exact Or.inl ⟨k + 1, l, j, T, u j, fun y => z2 y.symm, hl, z1, t1, z, z3⟩
      · exact Or.inr (by omega)
/-- a bound on the least cost takes the cap away -/
theorem cvB.cap {D : Nat → Nat → Nat} {B B' S v u k x : Nat} (hp : pr D k S x) (hx : x ≤ B) (hB : B ≤ B') (h : cvB D B S v) (h' : cvB D B' S u) : v = u := by
  have h1 := h.1 k x hp
  have h2 := h'.1 k x hp
  apply cvB.uniq (D := D) (B := B') (S := S)
  · refine ⟨h.1, by omega, ?_⟩
    rcases h.2.2 with z | z
    · exact Or.inl z
    · have : v = x := by omega
      subst this
      exact Or.inl ⟨k, hp⟩
  · exact h'
/-- the same pairs, named otherwise -/
theorem pr.map {D D' : Nat → Nat → Nat} {o : Nat → Nat} {s : Nat} (hD : ∀ i j, i < s → j < s → D' i j = D (o i) (o j)) (hi : ∀ i j, i < s → j < s → o i = o j → i = j) : ∀ k U S x, pr D k U x → (∀ c, U.testBit c = true → ∃ i, i < s ∧ o i = c) → (∀ i, S.testBit i = true ↔ (i < s ∧ U.testBit (o i) = true)) → pr D' k S x := by
  intro k
  induction k with
  | zero =>
    rintro U S x ⟨rfl, rfl⟩ hr hS
    refine ⟨Nat.eq_of_testBit_eq (fun b => ?_), rfl⟩
    rw [Nat.zero_testBit]
    cases hb : S.testBit b
    · rfl
    · have := (hS b).mp hb; simp at this
  | succ k ih =>
    rintro U S x ⟨a, b, T, y, h1, h2, h3, h4, h5, rfl⟩ hr hS
    obtain ⟨i, i1, rfl⟩ := hr a h2
    obtain ⟨j, j1, rfl⟩ := hr b h3
    obtain ⟨V, hV⟩ := rmv.ex (S := S) (i := i) (j := j)
    refine ⟨i, j, V, y, fun z => h1 (by rw [z]), (hS i).mpr ⟨i1, h2⟩, (hS j).mpr ⟨j1, h3⟩, hV, ih T V y h5 (fun c hc => hr c (h4.in hc).1) (fun m => ?_), by rw [hD i j i1 j1]⟩
    constructor
    · intro hm
      obtain ⟨m1, m2, m3⟩ := hV.in hm
      obtain ⟨n1, n2⟩ := (hS m).mp m1
      exact ⟨n1, h4.mk n2 (fun z => m2 (hi _ _ n1 i1 z)) (fun z => m3 (hi _ _ n1 j1 z))⟩
    · rintro ⟨n1, n2⟩
      obtain ⟨p1, p2, p3⟩ := h4.in n2
      exact hV.mk ((hS m).mpr ⟨n1, p1⟩) (fun z => p2 (by rw [z])) (fun z => p3 (by rw [z]))
