/-! ===== flows between two corners: what is left r, of caps cap ===== -/
def isum (f : Nat → Int) : Nat → Int
  | 0 => 0
  | n + 1 => isum f n + f n
theorem isum_congr {f g : Nat → Int} : ∀ n, (∀ i, i < n → f i = g i) → isum f n = isum g n := by
  intro n
  induction n with
  | zero => intro _; rfl
  | succ n ih => intro h; simp only [isum]; rw [ih (fun i hi => h i (by omega)), h n (by omega)]
theorem isum_add (f g : Nat → Int) : ∀ n, isum (fun i => f i + g i) n = isum f n + isum g n := by
  intro n
  induction n with
  | zero => rfl
  | succ n ih => simp only [isum]; rw [ih]; omega
theorem isum_neg (f : Nat → Int) : ∀ n, isum (fun i => - f i) n = - isum f n := by
  intro n
  induction n with
  | zero => rfl
  | succ n ih => simp only [isum]; rw [ih]; omega
theorem isum_0 {f : Nat → Int} : ∀ n, (∀ i, i < n → f i = 0) → isum f n = 0 := by
  intro n
  induction n with
  | zero => intro _; rfl
  | succ n ih => intro h; simp only [isum]; rw [ih (fun i hi => h i (by omega)), h n (by omega)]; rfl
theorem isum_swap (f : Nat → Nat → Int) (m : Nat) : ∀ n, isum (fun a => isum (fun b => f a b) m) n = isum (fun b => isum (fun a => f a b) n) m := by
  intro n
  induction n with
  | zero => simp only [isum]; rw [isum_0 m (fun _ _ => rfl)]
  | succ n ih => simp only [isum]; rw [ih, isum_add (fun b => isum (fun a => f a b) n) (fun b => f n b)]
theorem isum_nn {f : Nat → Int} : ∀ n, (∀ i, i < n → 0 ≤ f i) → 0 ≤ isum f n ∧ (isum f n = 0 → ∀ i, i < n → f i = 0) := by
  intro n
  induction n with
  | zero => intro _; exact ⟨Int.le_refl _, fun _ i hi => by omega⟩
  | succ n ih =>
    intro h
    obtain ⟨h1, h2⟩ := ih (fun i hi => h i (by omega))
    have h3 := h n (by omega)
    simp only [isum]
    refine ⟨by omega, fun z i hi => ?_⟩
    by_cases q : i = n
    · subst q; omega
    · exact h2 (by omega) i (by omega)
theorem isum_one {f : Nat → Int} {c : Nat} : ∀ n, c < n → (∀ i, i < n → i ≠ c → f i = 0) → isum f n = f c := by
  intro n
  induction n with
  | zero => intro h; omega
  | succ n ih =>
    intro hc h
    simp only [isum]
    by_cases q : c = n
    · subst q
      rw [isum_0 c (fun i hi => h i (by omega) (by omega))]; omega
    · rw [ih (by omega) (fun i hi hne => h i (by omega) hne), h n (by omega) (fun z => q z.symm)]; omega
/-- over pairs of corners -/
def dsum (f : Nat → Nat → Int) : Int := isum (fun a => isum (fun b => f a b) 16) 16
theorem dsum_add (f g : Nat → Nat → Int) : dsum (fun a b => f a b + g a b) = dsum f + dsum g := by
  unfold dsum
  rw [← isum_add]
  exact isum_congr 16 (fun a _ => isum_add _ _ 16)
theorem dsum_neg (f : Nat → Nat → Int) : dsum (fun a b => - f a b) = - dsum f := by
  unfold dsum
  rw [← isum_neg]
  exact isum_congr 16 (fun a _ => isum_neg _ 16)
theorem dsum_anti {g : Nat → Nat → Int} (h : ∀ a b, a < 16 → b < 16 → g a b = - g b a) : dsum g = 0 := by
  have e : dsum g = - dsum g := by
    conv => lhs; unfold dsum
    rw [isum_swap]
    have : isum (fun b => isum (fun a => g a b) 16) 16 = dsum (fun b a => - g b a) := isum_congr 16 (fun b hb => isum_congr 16 (fun a ha => h a b ha hb))
    rw [this, dsum_neg]
  omega
theorem dsum_congr {f g : Nat → Nat → Int} (h : ∀ a b, a < 16 → b < 16 → f a b = g a b) : dsum f = dsum g := isum_congr 16 (fun a ha => isum_congr 16 (fun b hb => h a b ha hb))
theorem dsum_nn {f : Nat → Nat → Int} (h : ∀ a b, a < 16 → b < 16 → 0 ≤ f a b) : 0 ≤ dsum f ∧ (dsum f = 0 → ∀ a b, a < 16 → b < 16 → f a b = 0) := by
  obtain ⟨h1, h2⟩ := isum_nn (f := fun a => isum (fun b => f a b) 16) 16 (fun a ha => (isum_nn 16 (fun b hb => h a b ha hb)).1)
  exact ⟨h1, fun z a b ha hb => (isum_nn 16 (fun b hb => h a b ha hb)).2 (h2 z a ha) b hb⟩
/-- what goes over the edge of S -/
def edg (S : Nat) (f : Nat → Nat → Int) : Int := dsum (fun a b => if S.testBit a = true ∧ S.testBit b = false then f a b else 0)
/-- r is what a flow of F from c to d leaves of cap -/
def flw (cap : Nat → Nat → Nat) (c d : Nat) (r : Nat → Nat → Nat) (F : Nat) : Prop :=
  (∀ a b, a < 16 → b < 16 → r a b + r b a = 2 * cap a b) ∧ (∀ a, a < 16 → isum (fun b => (cap a b : Int) - (r a b : Int)) 16 = if a = c then (F : Int) else if a = d then -(F : Int) else 0)
section FL
variable {cap r r' : Nat → Nat → Nat} {c d F F' S S' : Nat}
theorem flw_edge (hs : ∀ a b, cap a b = cap b a) (hc : c < 16) (hcd : c ≠ d) (h : flw cap c d r F) (h1 : S.testBit c = true) (h2 : S.testBit d = false) : (F : Int) = edg S (fun a b => (cap a b : Int) - (r a b : Int)) := by
  have e1 : isum (fun a => if S.testBit a = true then isum (fun b => (cap a b : Int) - (r a b : Int)) 16 else 0) 16 = (F : Int) := by
    rw [isum_one (c := c) 16 hc (fun i hi hne => by
      by_cases q : S.testBit i = true
      · rw [if_pos q, h.2 i hi, if_neg hne, if_neg (fun z => by rw [z, h2] at q; cases q)]
      · rw [if_neg q]), if_pos h1, h.2 c hc, if_pos rfl]
  have e2 : isum (fun a => if S.testBit a = true then isum (fun b => (cap a b : Int) - (r a b : Int)) 16 else 0) 16 = dsum (fun a b => (if S.testBit a = true ∧ S.testBit b = true then (cap a b : Int) - (r a b : Int) else 0) + (if S.testBit a = true ∧ S.testBit b = false then (cap a b : Int) - (r a b : Int) else 0)) := by
    apply isum_congr
    intro a _
    by_cases q : S.testBit a = true
    · rw [if_pos q]
      apply isum_congr
      intro b _
      cases hb : S.testBit b
      · simp [q, hb]
      · simp [q, hb]
    · rw [if_neg q, isum_0 16 (fun b _ => by simp [q])]
  have e3 : dsum (fun a b => if S.testBit a = true ∧ S.testBit b = true then (cap a b : Int) - (r a b : Int) else 0) = 0 := by
    apply dsum_anti
    intro a b ha hb
    have := h.1 a b ha hb
    have := hs a b
    by_cases q : S.testBit a = true ∧ S.testBit b = true
    · rw [if_pos q, if_pos ⟨q.2, q.1⟩]; omega
    · rw [if_neg q, if_neg (fun z => q ⟨z.2, z.1⟩)]; rfl
  rw [dsum_add, e3] at e2
  show (F : Int) = dsum (fun a b => if S.testBit a = true ∧ S.testBit b = false then (cap a b : Int) - (r a b : Int) else 0)
  omega
theorem edg_split : edg S (fun a b => (cap a b : Int) - (r a b : Int)) = edg S (fun a b => (cap a b : Int)) - edg S (fun a b => (r a b : Int)) := by
  have : edg S (fun a b => (cap a b : Int)) = edg S (fun a b => (cap a b : Int) - (r a b : Int)) + edg S (fun a b => (r a b : Int)) := by
    unfold edg
    rw [← dsum_add]
    apply dsum_congr
    intro a b _ _
    dsimp only
    split <;> omega
  omega
theorem edg_nn : 0 ≤ edg S (fun a b => (r a b : Int)) ∧ (edg S (fun a b => (r a b : Int)) = 0 → ∀ a b, a < 16 → b < 16 → S.testBit a = true → S.testBit b = false → r a b = 0) := by
  obtain ⟨h1, h2⟩ := dsum_nn (f := fun a b => if S.testBit a = true ∧ S.testBit b = false then (r a b : Int) else 0) (fun a b _ _ => by split <;> omega)
  refine ⟨h1, fun z a b ha hb q1 q2 => ?_⟩
  have := h2 z a b ha hb
  rw [if_pos ⟨q1, q2⟩] at this
  omega
/-- within so many steps over what is left -/
def rr (r : Nat → Nat → Nat) (c : Nat) : Nat → Nat → Prop
  | 0, x => x = c
  | g + 1, x => rr r c g x ∨ ∃ y, rr r c g y ∧ y < 16 ∧ x < 16 ∧ 0 < r y x
def sdE (r : Nat → Nat → Nat) (c S : Nat) : Prop := S < 65536 ∧ ∀ x, S.testBit x = true ↔ ∃ g, rr r c g x
theorem sdE.cl (h : sdE r c S) {a b : Nat} (ha : a < 16) (hb : b < 16) (h1 : S.testBit a = true) (h2 : S.testBit b = false) : r a b = 0 := by
  rcases Nat.eq_zero_or_pos (r a b) with z | z
  · exact z
  · obtain ⟨g, hg⟩ := (h.2 a).mp h1
    have := (h.2 b).mpr ⟨g + 1, Or.inr ⟨a, hg, ha, hb, z⟩⟩
    rw [h2] at this; cases this
theorem rr_in {T : Nat} (h1 : T.testBit c = true) (h2 : ∀ a b, a < 16 → b < 16 → T.testBit a = true → T.testBit b = false → r a b = 0) : ∀ g x, rr r c g x → T.testBit x = true := by
  intro g
  induction g with
  | zero => intro x h; have h3 : x = c := h; rw [h3]; exact h1
  | succ g ih =>
    rintro x (h | ⟨y, y1, y2, y3, y4⟩)
    · exact ih x h
    · have := ih y y1
      cases hx : T.testBit x
      · have := h2 y x y2 y3 this hx; omega
      · rfl
theorem flw_le (hs : ∀ a b, cap a b = cap b a) (hc : c < 16) (hcd : c ≠ d) (h : flw cap c d r F) (h' : flw cap c d r' F') (s : sdE r c S) (sd : S.testBit d = false) : F' ≤ F ∧ (F' = F → ∀ a b, a < 16 → b < 16 → S.testBit a = true → S.testBit b = false → r' a b = 0) := by
  have c1 : S.testBit c = true := (s.2 c).mpr ⟨0, rfl⟩
  have e1 := flw_edge hs hc hcd h c1 sd
  have e2 := flw_edge hs hc hcd h' c1 sd
  rw [edg_split] at e1 e2
  have z : edg S (fun a b => (r a b : Int)) = 0 := by
    unfold edg
    apply isum_0
    intro a ha
    apply isum_0
    intro b hb
    dsimp only
    split
    · rename_i q; rw [s.cl ha hb q.1 q.2]; rfl
    · rfl
  obtain ⟨n1, n2⟩ := edg_nn (r := r') (S := S)
  exact ⟨by omega, fun q => n2 (by omega)⟩
theorem flw_uniq (hs : ∀ a b, cap a b = cap b a) (hc : c < 16) (hcd : c ≠ d) (h : flw cap c d r F) (h' : flw cap c d r' F') (s : sdE r c S) (s' : sdE r' c S') (sd : S.testBit d = false) (sd' : S'.testBit d = false) : F = F' ∧ S = S' := by
  obtain ⟨a1, a2⟩ := flw_le hs hc hcd h h' s sd
  obtain ⟨b1, b2⟩ := flw_le hs hc hcd h' h s' sd'
  have e : F = F' := by omega
  refine ⟨e, Nat.eq_of_testBit_eq (fun x => boolE _ _ ?_)⟩
  constructor
  · intro z
    obtain ⟨g, hg⟩ := (s.2 x).mp z
    exact rr_in ((s'.2 c).mpr ⟨0, rfl⟩) (b2 e) g x hg
  · intro z
    obtain ⟨g, hg⟩ := (s'.2 x).mp z
    exact rr_in ((s.2 c).mpr ⟨0, rfl⟩) (a2 e.symm) g x hg
end FL
