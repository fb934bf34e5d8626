/-! ===== pieces of code and what they come to ===== -/
def sg (C : Nat → Nat × Nat) (a b : Nat) (E : (Nat → Int32) → Option Int32) : Prop := a ≤ b ∧ ∀ C', (∀ k, a ≤ k → k < b → C' k = C k) → ∀ F last n s, b ≤ last → (∀ v, E F = some v → ∀ r, run C' F last n b (v :: s) = some r → run C' F last (n + (b - a)) a s = some r) ∧ (E F = none → run C' F last (n + (b - a)) a s = some none)
def bl (E : (Nat → Int32) → Option Int32) : Prop := ∀ F v, E F = some v → v = 0 ∨ v = 1
theorem sg.ext {C C2 : Nat → Nat × Nat} {a b : Nat} {E : (Nat → Int32) → Option Int32} (h : sg C a b E) (e : ∀ k, a ≤ k → k < b → C2 k = C k) : sg C2 a b E := ⟨h.1, fun C' h' => h.2 C' (fun k k1 k2 => (h' k k1 k2).trans (e k k1 k2))⟩
theorem run_1 {C : Nat → Nat × Nat} {F : Nat → Int32} {last n q : Nat} {s : List Int32} (hq : q < last) : run C F last (n + 1) q s = stp (C q) F (run C F last n) q s := by rw [run_s, if_neg (by omega)]
theorem sg_num {C : Nat → Nat × Nat} {a v : Nat} (h : C a = (0, v)) : sg C a (a + 1) (fun _ => some (nI v)) := by
  refine ⟨by omega, fun C' hc F last n s hl => ⟨fun x hx r hr => ?_, fun hx => (by cases hx)⟩⟩
  cases hx
  rw [show n + (a + 1 - a) = n + 1 by omega, run_1 (by omega), hc a (Nat.le_refl _) (by omega), h]
  exact hr
theorem sg_let {C : Nat → Nat × Nat} {a i : Nat} (h : C a = (1, i)) : sg C a (a + 1) (fun F => some (F i)) := by
  refine ⟨by omega, fun C' hc F last n s hl => ⟨fun x hx r hr => ?_, fun hx => (by cases hx)⟩⟩
  cases hx
  rw [show n + (a + 1 - a) = n + 1 by omega, run_1 (by omega), hc a (Nat.le_refl _) (by omega), h]
  exact hr
def bin (o : Nat) (x y : Option Int32) : Option Int32 := match x, y with
  | some x, some y => if (o = 5 ∨ o = 6) ∧ y = 0 then none else some (rck o x y)
  | _, _ => none
theorem sg_bin {C : Nat → Nat × Nat} {a b c o : Nat} {E1 E2 : (Nat → Int32) → Option Int32} (h1 : sg C a b E1) (h2 : sg C b c E2) (ho : (C c).1 = o) (o2 : 2 ≤ o) (o10 : o < 10) : sg C a (c + 1) (fun F => bin o (E1 F) (E2 F)) := by
  have ab := h1.1
  have bc := h2.1
  refine ⟨by omega, fun C' hc F last n s hl => ?_⟩
  have g1 := h1.2 C' (fun k k1 k2 => hc k k1 (by omega)) F last
  have g2 := h2.2 C' (fun k k1 k2 => hc k (by omega) (by omega)) F last
  have hcc : (C' c).1 = o := by rw [hc c (by omega) (by omega)]; exact ho
  have st : ∀ m y x s, run C' F last (m + 1) c (y :: x :: s) = if (o = 5 ∨ o = 6) ∧ y = 0 then some none else run C' F last m (c + 1) (rck o x y :: s) := by
    intro m y x s
    rw [run_1 (by omega)]
    unfold stp
    rw [hcc, if_neg (by omega), if_neg (by omega), if_neg (by omega), if_neg (by omega), if_neg (by omega), if_pos o10]
    rfl
  have fu : n + (c + 1 - a) = ((n + 1) + (c - b)) + (b - a) := by omega
  rw [fu]
  dsimp only
  cases e1 : E1 F with
  | none => exact ⟨fun v hv => (by cases hv), fun _ => (g1 _ s (by omega)).2 e1⟩
  | some x =>
    cases e2 : E2 F with
    | none => exact ⟨fun v hv => (by cases hv), fun _ => (g1 _ s (by omega)).1 x e1 _ ((g2 _ (x :: s) (by omega)).2 e2)⟩
    | some y =>
      by_cases z : (o = 5 ∨ o = 6) ∧ y = 0
      · have eb : bin o (some x) (some y) = none := by unfold bin; dsimp only; rw [if_pos z]
        refine ⟨fun v hv => (by rw [eb] at hv; cases hv), fun _ => (g1 _ s (by omega)).1 x e1 _ ((g2 _ (x :: s) (by omega)).1 y e2 _ ?_)⟩
        rw [st, if_pos z]
      · have eb : bin o (some x) (some y) = some (rck o x y) := by unfold bin; dsimp only; rw [if_neg z]
        refine ⟨fun v hv r hr => ?_, fun hv => (by rw [eb] at hv; cases hv)⟩
        rw [eb] at hv
        cases hv
        exact (g1 _ s (by omega)).1 x e1 _ ((g2 _ (x :: s) (by omega)).1 y e2 _ (by rw [st, if_neg z]; exact hr))
theorem bl_bin {o : Nat} (h : 7 ≤ o) (E1 E2 : (Nat → Int32) → Option Int32) : bl (fun F => bin o (E1 F) (E2 F)) := by
  intro F v hv
  dsimp only at hv
  cases e1 : E1 F with
  | none => rw [e1] at hv; cases hv
  | some x =>
    cases e2 : E2 F with
    | none => rw [e1, e2] at hv; cases hv
    | some y =>
      rw [e1, e2] at hv
      unfold bin at hv
      dsimp only at hv
      rw [if_neg (by omega)] at hv
      cases hv
      unfold rck
      rw [if_neg (by omega), if_neg (by omega), if_neg (by omega), if_neg (by omega), if_neg (by omega)]
      split
      · split
        · exact Or.inr rfl
        · exact Or.inl rfl
      · split
        · split
          · exact Or.inr rfl
          · exact Or.inl rfl
        · split
          · exact Or.inr rfl
          · exact Or.inl rfl
def ntE (x : Option Int32) : Option Int32 := match x with
  | some x => some (1 - x)
  | none => none
theorem sg_not {C : Nat → Nat × Nat} {a b : Nat} {E : (Nat → Int32) → Option Int32} (h : sg C a b E) (ho : (C b).1 = 10) : sg C a (b + 1) (fun F => ntE (E F)) := by
  have ab := h.1
  refine ⟨by omega, fun C' hc F last n s hl => ?_⟩
  have g := h.2 C' (fun k k1 k2 => hc k k1 (by omega)) F last
  have hcc : (C' b).1 = 10 := by rw [hc b (by omega) (by omega)]; exact ho
  have st : ∀ m x s, run C' F last (m + 1) b (x :: s) = run C' F last m (b + 1) ((1 - x) :: s) := by
    intro m x s
    rw [run_1 (by omega)]
    unfold stp
    rw [hcc]
    rfl
  rw [show n + (b + 1 - a) = (n + 1) + (b - a) by omega]
  dsimp only
  cases e : E F with
  | none => exact ⟨fun v hv => (by cases hv), fun _ => (g _ s (by omega)).2 e⟩
  | some x => exact ⟨fun v hv r hr => by cases hv; exact (g _ s (by omega)).1 x e _ (by rw [st]; exact hr), fun hv => (by cases hv)⟩
theorem bl_not {E : (Nat → Int32) → Option Int32} (h : bl E) : bl (fun F => ntE (E F)) := by
  intro F v hv
  dsimp only at hv
  cases e : E F with
  | none => rw [e] at hv; cases hv
  | some x =>
    rw [e] at hv
    cases hv
    rcases h F x e with rfl | rfl
    · exact Or.inr (by decide)
    · exact Or.inl (by decide)
/-- a row of tests with jumps of op o that wait (at P): while all came to g it goes on, else it jumps, with 1 - g, to where they all land -/
def jn2 (g : Int32) (x y : Option Int32) : Option Int32 := match x with
  | none => none
  | some v => if v = g then y else some (1 - g)
def rw_ (o : Nat) (g : Int32) (C : Nat → Nat × Nat) (P : Nat → Prop) (a r : Nat) (E : (Nat → Int32) → Option Int32) : Prop := a ≤ r ∧ bl E ∧ ∀ C' T, r ≤ T → (∀ k, a ≤ k → k < r → ¬ P k → C' k = C k) → (∀ k, a ≤ k → k < r → P k → C' k = (o, T)) → ∀ F last n s, T ≤ last →
  (E F = some g → ∀ q, run C' F last n r s = some q → run C' F last (n + (r - a)) a s = some q) ∧ (E F = some (1 - g) → ∀ q, run C' F last n T ((1 - g) :: s) = some q → run C' F last (n + (r - a)) a s = some q) ∧ (E F = none → run C' F last (n + (r - a)) a s = some none)
def og (o : Nat) (g : Int32) : Prop := (o = 11 ∧ g = 1) ∨ (o = 12 ∧ g = 0)
theorem og.ne {o : Nat} {g : Int32} (h : og o g) : 1 - g ≠ g ∧ (g = 0 ∨ g = 1) ∧ (1 - g = 0 ∨ 1 - g = 1) := by
  rcases h with ⟨-, rfl⟩ | ⟨-, rfl⟩ <;> decide
theorem bl_g {o : Nat} {g : Int32} (h : og o g) {E : (Nat → Int32) → Option Int32} (b : bl E) (F : Nat → Int32) : E F = none ∨ E F = some g ∨ E F = some (1 - g) := by
  cases e : E F with
  | none => exact Or.inl rfl
  | some v =>
    rcases h with ⟨-, rfl⟩ | ⟨-, rfl⟩ <;> rcases b F v e with rfl | rfl
    · exact Or.inr (Or.inr rfl)
    · exact Or.inr (Or.inl rfl)
    · exact Or.inr (Or.inl rfl)
    · exact Or.inr (Or.inr rfl)
theorem bl_j {o : Nat} {g : Int32} (h : og o g) {E1 E2 : (Nat → Int32) → Option Int32} (b2' : bl E2) : bl (fun F => jn2 g (E1 F) (E2 F)) := by
  intro F v hv
  dsimp only at hv
  cases e : E1 F with
  | none => rw [e] at hv; cases hv
  | some x =>
    rw [e] at hv
    unfold jn2 at hv
    dsimp only at hv
    by_cases z : x = g
    · rw [if_pos z] at hv; exact b2' F v hv
    · rw [if_neg z] at hv
      cases hv
      exact h.ne.2.2
theorem rw_0 {o : Nat} {g : Int32} (h : og o g) (C : Nat → Nat × Nat) (P : Nat → Prop) (a : Nat) : rw_ o g C P a a (fun _ => some g) := by
  refine ⟨Nat.le_refl _, fun F v hv => by cases hv; exact h.ne.2.1, fun C' T _ _ _ F last n s _ => ⟨fun _ q hq => ?_, fun hx => ?_, fun hx => (by cases hx)⟩⟩
  · rw [show n + (a - a) = n by omega]; exact hq
  · exact absurd (Option.some.inj hx).symm h.ne.1
theorem rw_.ext {o : Nat} {g : Int32} {C C2 : Nat → Nat × Nat} {P P2 : Nat → Prop} {a r : Nat} {E : (Nat → Int32) → Option Int32} (h : rw_ o g C P a r E) (hp : ∀ k, a ≤ k → k < r → (P2 k ↔ P k)) (e : ∀ k, a ≤ k → k < r → ¬ P k → C2 k = C k) : rw_ o g C2 P2 a r E :=
  ⟨h.1, h.2.1, fun C' T hT h1 h2 => h.2.2 C' T hT (fun k k1 k2 k3 => (h1 k k1 k2 (fun z => k3 ((hp k k1 k2).mp z))).trans (e k k1 k2 k3)) (fun k k1 k2 k3 => h2 k k1 k2 ((hp k k1 k2).mpr k3))⟩
/-- the row ends: all that wait land behind the last test -/
theorem rw_.fin {o : Nat} {g : Int32} (ho : og o g) {C C2 : Nat → Nat × Nat} {P : Nat → Prop} {a r q : Nat} {E E2 : (Nat → Int32) → Option Int32} (h : rw_ o g C P a r E) (h2 : sg C2 r q E2) (b : bl E2) (e1 : ∀ k, a ≤ k → k < r → ¬ P k → C2 k = C k) (e2 : ∀ k, a ≤ k → k < r → P k → C2 k = (o, q)) : sg C2 a q (fun F => jn2 g (E F) (E2 F)) ∧ bl (fun F => jn2 g (E F) (E2 F)) := by
  have ar := h.1
  have rq := h2.1
  refine ⟨⟨by omega, fun C' hc F last n s hl => ?_⟩, bl_j ho b⟩
  have g1 := h.2.2 C' q rq (fun k k1 k2 k3 => (hc k k1 (by omega)).trans (e1 k k1 k2 k3)) (fun k k1 k2 k3 => (hc k k1 (by omega)).trans (e2 k k1 k2 k3)) F last
  have g2 := h2.2 C' (fun k k1 k2 => hc k (by omega) k2) F last
  dsimp only
  rcases bl_g ho h.2.1 F with e | e | e
  · have ee : jn2 g (E F) (E2 F) = none := by rw [e]; rfl
    refine ⟨fun v hv => (by rw [ee] at hv; cases hv), fun _ => ?_⟩
    have := (g1 (n + (q - r)) s hl).2.2 e
    rw [show n + (q - a) = n + (q - r) + (r - a) by omega]; exact this
  · have ee : jn2 g (E F) (E2 F) = E2 F := by rw [e]; unfold jn2; dsimp only; rw [if_pos rfl]
    rw [show n + (q - a) = n + (q - r) + (r - a) by omega]
    refine ⟨fun v hv x hx => ?_, fun hv => ?_⟩
    · rw [ee] at hv
      exact (g1 _ s hl).1 e _ ((g2 n s hl).1 v hv x hx)
    · rw [ee] at hv
      exact (g1 _ s hl).1 e _ ((g2 n s hl).2 hv)
  · have ee : jn2 g (E F) (E2 F) = some (1 - g) := by rw [e]; unfold jn2; dsimp only; rw [if_neg ho.ne.1]
    refine ⟨fun v hv x hx => ?_, fun hv => (by rw [ee] at hv; cases hv)⟩
    rw [ee] at hv
    cases hv
    have := (g1 n s hl).2.1 e x hx
    exact run_m this _ (by omega)
/-- one test more, and a jump behind it. way 0: it waits with the others; way 1: the others land at it -/
theorem rw_.more {o : Nat} {g : Int32} (ho : og o g) {C C2 : Nat → Nat × Nat} {P P2 : Nat → Prop} {a r q : Nat} {E E2 : (Nat → Int32) → Option Int32} (h : rw_ o g C P a r E) (h2 : sg C2 r q E2) (b : bl E2) (e1 : ∀ k, a ≤ k → k < r → ¬ P k → C2 k = C k) (hq : P2 q) (hr : ∀ k, r ≤ k → k < q → ¬ P2 k) (hw : (∀ k, a ≤ k → k < r → (P2 k ↔ P k)) ∨ ((∀ k, a ≤ k → k < r → ¬ P2 k) ∧ ∀ k, a ≤ k → k < r → P k → C2 k = (o, q))) : rw_ o g C2 P2 a (q + 1) (fun F => jn2 g (E F) (E2 F)) := by
  have ar := h.1
  have rq := h2.1
  refine ⟨by omega, bl_j ho b, fun C' T hT k1 k2 F last n s hl => ?_⟩
  have cq : C' q = (o, T) := k2 q (by omega) (by omega) hq
  have g2 := h2.2 C' (fun k x1 x2 => k1 k (by omega) (by omega) (hr k x1 x2)) F last
  have st1 : ∀ m s, run C' F last (m + 1) q (g :: s) = run C' F last m (q + 1) s := by
    intro m s
    rw [run_1 (by omega), cq]
    unfold stp
    rcases ho with ⟨rfl, rfl⟩ | ⟨rfl, rfl⟩
    · rfl
    · rfl
  have st2 : ∀ m s, run C' F last (m + 1) q ((1 - g) :: s) = run C' F last m T ((1 - g) :: s) := by
    intro m s
    rw [run_1 (by omega), cq]
    unfold stp
    rcases ho with ⟨rfl, rfl⟩ | ⟨rfl, rfl⟩
    · show (if (1 - 1 : Int32) = 0 then (if q < T then run C' F last m T ((1 - 1) :: s) else none) else run C' F last m (q + 1) s) = _
      rw [if_pos (by decide), if_pos (by omega)]
    · show (if (1 - 0 : Int32) = 1 then (if q < T then run C' F last m T ((1 - 0) :: s) else none) else run C' F last m (q + 1) s) = _
      rw [if_pos (by decide), if_pos (by omega)]
  -- behind the row so far
  have g1 : ∀ m s, (E F = some g → ∀ x, run C' F last m r s = some x → run C' F last (m + (r - a)) a s = some x) ∧ (E F = some (1 - g) → ∀ x, run C' F last m T ((1 - g) :: s) = some x → run C' F last (m + 1 + (r - a)) a s = some x) ∧ (E F = none → run C' F last (m + (r - a)) a s = some none) := by
    intro m s
    rcases hw with hw | ⟨hw1, hw2⟩
    · have := h.2.2 C' T (by omega) (fun k x1 x2 x3 => (k1 k x1 (by omega) (fun z => x3 ((hw k x1 x2).mp z))).trans (e1 k x1 x2 x3)) (fun k x1 x2 x3 => k2 k x1 (by omega) ((hw k x1 x2).mpr x3)) F last m s hl
      exact ⟨this.1, fun e x hx => run_m (this.2.1 e x hx) _ (by omega), this.2.2⟩
    · have := fun m => h.2.2 C' q rq (fun k x1 x2 x3 => (k1 k x1 (by omega) (hw1 k x1 x2)).trans (e1 k x1 x2 x3)) (fun k x1 x2 x3 => (k1 k x1 (by omega) (hw1 k x1 x2)).trans (hw2 k x1 x2 x3)) F last m s (by omega)
      refine ⟨(this m).1, fun e x hx => (this (m + 1)).2.1 e x (by rw [st2]; exact hx), (this m).2.2⟩
  dsimp only
  rcases bl_g ho h.2.1 F with e | e | e
  · have ee : jn2 g (E F) (E2 F) = none := by rw [e]; rfl
    refine ⟨fun hv => (by rw [ee] at hv; cases hv), fun hv => (by rw [ee] at hv; cases hv), fun _ => run_m ((g1 n s).2.2 e) _ (by omega)⟩
  · have ee : jn2 g (E F) (E2 F) = E2 F := by rw [e]; unfold jn2; dsimp only; rw [if_pos rfl]
    rw [show n + (q + 1 - a) = (n + 1 + (q - r)) + (r - a) by omega]
    refine ⟨fun hv x hx => ?_, fun hv x hx => ?_, fun hv => ?_⟩
    · rw [ee] at hv
      exact (g1 _ s).1 e _ ((g2 (n + 1) s (by omega)).1 g hv x (by rw [st1]; exact hx))
    · rw [ee] at hv
      exact (g1 _ s).1 e _ ((g2 (n + 1) s (by omega)).1 (1 - g) hv x (by rw [st2]; exact hx))
    · rw [ee] at hv
      exact (g1 _ s).1 e _ ((g2 (n + 1) s (by omega)).2 hv)
  · have ee : jn2 g (E F) (E2 F) = some (1 - g) := by rw [e]; unfold jn2; dsimp only; rw [if_neg ho.ne.1]
    refine ⟨fun hv => ?_, fun hv x hx => run_m ((g1 n s).2.1 e x hx) _ (by omega), fun hv => (by rw [ee] at hv; cases hv)⟩
    rw [ee] at hv
    exact absurd (Option.some.inj hv) ho.ne.1
