/-! ===== the law's codes, worked by a machine of our own ===== -/
def rck (o : Nat) (x y : Int32) : Int32 := if o = 2 then x + y else if o = 3 then x - y else if o = 4 then x * y else if o = 5 then x / y else if o = 6 then irem x y else if o = 7 then (if x < y then 1 else 0) else if o = 8 then (if y < x then 1 else 0) else if x = y then 1 else 0
def lsfin (s : List Int32) : Option (Option Int32) := match s with
  | [v] => some (some v)
  | _ => none
def stp1 (f : Int32 → List Int32 → Option (Option Int32)) (s : List Int32) : Option (Option Int32) := match s with
  | [] => none
  | x :: s => f x s
def stp2 (f : Int32 → Int32 → List Int32 → Option (Option Int32)) (s : List Int32) : Option (Option Int32) := match s with
  | y :: x :: s => f y x s
  | _ => none
def stp (i : Nat × Nat) (F : Nat → Int32) (K : Nat → List Int32 → Option (Option Int32)) (q : Nat) (s : List Int32) : Option (Option Int32) :=
  if i.1 = 0 then K (q + 1) (nI i.2 :: s)
  else if i.1 = 1 then K (q + 1) (F i.2 :: s)
  else if i.1 = 10 then stp1 (fun x s => K (q + 1) ((1 - x) :: s)) s
  else if i.1 = 11 then stp1 (fun x s => if x = 0 then (if q < i.2 then K i.2 (x :: s) else none) else K (q + 1) s) s
  else if i.1 = 12 then stp1 (fun x s => if x = 1 then (if q < i.2 then K i.2 (x :: s) else none) else K (q + 1) s) s
  else if i.1 < 10 then stp2 (fun y x s => if (i.1 = 5 ∨ i.1 = 6) ∧ y = 0 then some none else K (q + 1) (rck i.1 x y :: s)) s
  else none
def run (C : Nat → Nat × Nat) (F : Nat → Int32) (last : Nat) : Nat → Nat → List Int32 → Option (Option Int32)
  | 0 => fun _ _ => none
  | n + 1 => fun q s => if last ≤ q then lsfin s else stp (C q) F (run C F last n) q s
theorem run_s (C : Nat → Nat × Nat) (F : Nat → Int32) (last n q : Nat) (s : List Int32) : run C F last (n + 1) q s = if last ≤ q then lsfin s else stp (C q) F (run C F last n) q s := rfl
theorem stp_mono {i : Nat × Nat} {F : Nat → Int32} {K K' : Nat → List Int32 → Option (Option Int32)} {q : Nat} {s : List Int32} {r : Option Int32} (h : ∀ q s r, K q s = some r → K' q s = some r) (e : stp i F K q s = some r) : stp i F K' q s = some r := by
  unfold stp at e ⊢
  by_cases h0 : i.1 = 0
  · rw [if_pos h0] at e ⊢; exact h _ _ _ e
  rw [if_neg h0] at e ⊢
  by_cases h1 : i.1 = 1
  · rw [if_pos h1] at e ⊢; exact h _ _ _ e
  rw [if_neg h1] at e ⊢
  by_cases h2 : i.1 = 10
  · rw [if_pos h2] at e ⊢
    cases s with
    | nil => exact e
    | cons x s => exact h _ _ _ e
  rw [if_neg h2] at e ⊢
  by_cases h3 : i.1 = 11
  · rw [if_pos h3] at e ⊢
    cases s with
    | nil => exact e
    | cons x s =>
      simp only [stp1] at e ⊢
      by_cases z : x = 0
      · rw [if_pos z] at e ⊢
        by_cases y : q < i.2
        · rw [if_pos y] at e ⊢; exact h _ _ _ e
        · rw [if_neg y] at e; cases e
      · rw [if_neg z] at e ⊢; exact h _ _ _ e
  rw [if_neg h3] at e ⊢
  by_cases h4 : i.1 = 12
  · rw [if_pos h4] at e ⊢
    cases s with
    | nil => exact e
    | cons x s =>
      simp only [stp1] at e ⊢
      by_cases z : x = 1
      · rw [if_pos z] at e ⊢
        by_cases y : q < i.2
        · rw [if_pos y] at e ⊢; exact h _ _ _ e
        · rw [if_neg y] at e; cases e
      · rw [if_neg z] at e ⊢; exact h _ _ _ e
  rw [if_neg h4] at e ⊢
  by_cases h5 : i.1 < 10
  · rw [if_pos h5] at e ⊢
    cases s with
    | nil => exact e
    | cons y s =>
      cases s with
      | nil => exact e
      | cons x s =>
        simp only [stp2] at e ⊢
        by_cases z : (i.1 = 5 ∨ i.1 = 6) ∧ y = 0
        · rw [if_pos z] at e ⊢; exact e
        · rw [if_neg z] at e ⊢; exact h _ _ _ e
  · rw [if_neg h5] at e; cases e
theorem run_m1 {C : Nat → Nat × Nat} {F : Nat → Int32} {last : Nat} : ∀ n q s r, run C F last n q s = some r → run C F last (n + 1) q s = some r := by
  intro n
  induction n with
  | zero => intro q s r e; cases e
  | succ n ih =>
    intro q s r e
    rw [run_s] at e ⊢
    by_cases z : last ≤ q
    · rw [if_pos z] at e ⊢; exact e
    · rw [if_neg z] at e ⊢; exact stp_mono ih e
theorem run_m {C : Nat → Nat × Nat} {F : Nat → Int32} {last n q : Nat} {s : List Int32} {r : Option Int32} (e : run C F last n q s = some r) : ∀ m, n ≤ m → run C F last m q s = some r := by
  intro m
  induction m with
  | zero => intro h; rw [show n = 0 by omega] at e; exact e
  | succ m ih =>
    intro h
    by_cases z : n = m + 1
    · rw [← z]; exact e
    · exact run_m1 _ _ _ _ (ih (by omega))
/-! its codes in the class's cells and in the reference's -/
def sgn (o : Nat) : Nat := match o with | 0 => 48 | 1 => 97 | 2 => 43 | 3 => 45 | 4 => 42 | 5 => 47 | 6 => 37 | 7 => 60 | 8 => 62 | 9 => 61 | 10 => 33 | 11 => 38 | _ => 124
def lch (i : Nat) : Nat := match i with | 0 => 99 | 1 => 104 | 2 => 115 | 3 => 117 | 4 => 110 | 5 => 109 | 6 => 113 | 7 => 97 | 8 => 116 | _ => 119
def okI (i : Nat × Nat) : Prop := i.1 ≤ 12 ∧ i.2 < 100000 ∧ (i.1 = 1 → i.2 < 10)
def vlX (i : Nat × Nat) : Int32 := if i.1 = 1 then nI (lch i.2) else nI i.2
def CXh (ks kv : Nat) (C : Nat → Nat × Nat) (a b : Nat) (h : HP) : Prop := ∀ k, a ≤ k → k < b → okI (C k) ∧ h.1 ks k = nI (sgn (C k).1) ∧ h.1 kv k = vlX (C k)
def CMh (kc : Nat) (C : Nat → Nat × Nat) (a b : Nat) (h : HP) : Prop := ∀ k, a ≤ k → k < b → okI (C k) ∧ h.1 kc k = nI (1048576 * (C k).1 + (C k).2)
def stk (h : HP) (k : Nat) : List Int32 → Prop
  | [] => True
  | x :: s => h.1 k s.length = x ∧ stk h k s
theorem stk.up {h : HP} {k i : Nat} {v : Int32} : ∀ {s : List Int32}, s.length ≤ i → stk h k s → stk (up h k i v) k s := by
  intro s
  induction s with
  | nil => intro _ _; trivial
  | cons x s ih =>
    intro hi q
    have hi : s.length + 1 ≤ i := hi
    exact ⟨by rw [up_at, if_neg (by omega)]; exact q.1, ih (by omega) q.2⟩
def fW (h h' : HP) : Prop := (∀ k, k ≠ 43 → k ≠ 44 → h'.1 k = h.1 k) ∧ ∀ j, j ≠ 6 → h'.1 43 j = h.1 43 j
theorem fW.rf (h : HP) : fW h h := ⟨fun _ _ _ => rfl, fun _ _ => rfl⟩
theorem fW.tr {h h1 h2 : HP} (a : fW h h1) (b : fW h1 h2) : fW h h2 := ⟨fun k q1 q2 => (b.1 k q1 q2).trans (a.1 k q1 q2), fun j q => (b.2 j q).trans (a.2 j q)⟩
theorem fW.up44 {h : HP} {i : Nat} {v : Int32} : fW h (up h 44 i v) := ⟨fun k _ q => up_n q, fun j _ => by rw [up_n (by decide)]⟩
theorem fW.up43 {h : HP} {v : Int32} : fW h (up h 43 6 v) := ⟨fun k q _ => up_n q, fun j q => by rw [up_at, if_neg (fun z => q z.2)]⟩
/-- the class's letters -/
def FcX (N : Nat) (F : Nat → Int32) (h : HP) : Prop := ∀ i, i < 10 → ∀ h', fW h h' → xX8_letter N (nI (lch i)) h' = some (F i, h')
theorem FcX.fW {N : Nat} {F : Nat → Int32} {h h' : HP} (f : FcX N F h) (q : fW h h') : FcX N F h' := fun i hi h2 q2 => f i hi h2 (q.tr q2)
def ned (o : Nat) : Nat := if o = 0 ∨ o = 1 then 0 else if o = 10 ∨ o = 11 ∨ o = 12 then 1 else 2
theorem sgn_b : ∀ o, o < 10 → 2 ≤ o → nI (sgn o) ≠ 48 ∧ nI (sgn o) ≠ 97 ∧ nI (sgn o) ≠ 33 ∧ nI (sgn o) ≠ 38 ∧ nI (sgn o) ≠ 124 ∧ (nI (sgn o) = 47 ↔ o = 5) ∧ (nI (sgn o) = 37 ↔ o = 6) := by decide +kernel
theorem needed_e (h : HP) {o : Nat} (ho : o ≤ 12) : xX8_neededBy (nI (sgn o)) h = some (nI (ned o), h) := by
  unfold xX8_neededBy xX8_neededBy_12 xX8_neededBy_32 xX8_neededBy_37
  by_cases b : 2 ≤ o ∧ o < 10
  · obtain ⟨b1, b2', b3, b4, b5, -⟩ := sgn_b o b.2 b.1
    rw [if_neg b1, if_pos b2', if_neg b3, if_neg b4, if_pos b5, ned, if_neg (by omega), if_neg (by omega)]
    rfl
  · have : o = 0 ∨ o = 1 ∨ o = 10 ∨ o = 11 ∨ o = 12 := by omega
    rcases this with rfl | rfl | rfl | rfl | rfl
    · rw [if_pos (by decide)]; rfl
    · rw [if_neg (by decide), if_neg (by decide)]; rfl
    · rw [if_neg (by decide), if_pos (by decide), if_pos (by decide)]; rfl
    · rw [if_neg (by decide), if_pos (by decide), if_neg (by decide), if_pos (by decide)]; rfl
    · rw [if_neg (by decide), if_pos (by decide), if_neg (by decide), if_neg (by decide), if_neg (by decide)]; rfl
theorem reckX_e (h : HP) (x y : Int32) {o : Nat} (h1 : 2 ≤ o) (h2 : o < 10) (hz : ¬ ((o = 5 ∨ o = 6) ∧ y = 0)) : xX8_reckon (nI (sgn o)) x y h = some (rck o x y, h) := by
  unfold xX8_reckon xX8_reckon_91 xX8_reckon_103 xX8_reckon_114 xX8_reckon_125 xX8_reckon_136
  have : o = 2 ∨ o = 3 ∨ o = 4 ∨ o = 5 ∨ o = 6 ∨ o = 7 ∨ o = 8 ∨ o = 9 := by omega
  rcases this with rfl | rfl | rfl | rfl | rfl | rfl | rfl | rfl
  · rw [if_neg (by decide), if_neg (by decide), if_pos (by decide)]; rfl
  · rw [if_neg (by decide), if_neg (by decide), if_neg (by decide), if_pos (by decide)]; rfl
  · rw [if_neg (by decide), if_pos (by decide)]; rfl
  · have y0 : y ≠ 0 := fun z => hz ⟨Or.inl rfl, z⟩
    rw [if_neg (by decide), if_neg (by decide), if_neg (by decide), if_neg (by decide), if_pos (by decide), if_pos y0, dvd, if_neg y0]; rfl
  · have y0 : y ≠ 0 := fun z => hz ⟨Or.inr rfl, z⟩
    rw [if_pos (by decide), if_pos y0, rmd, if_neg y0]; rfl
  · rw [if_neg (by decide), if_neg (by decide), if_neg (by decide), if_neg (by decide), if_neg (by decide), if_pos (by decide)]
    simp only [rck]
    by_cases z : x < y
    · rw [if_neg (fun k => absurd z (by rw [i_nlt]; exact k))]; simp [z]
    · rw [if_pos (i_nlt.mp z)]; simp [z]
  · rw [if_neg (by decide), if_neg (by decide), if_neg (by decide), if_neg (by decide), if_neg (by decide), if_neg (by decide), if_pos (by decide)]
    simp only [rck]
    by_cases z : y < x
    · rw [if_neg (fun k => absurd z (by rw [i_nlt]; exact k))]; simp [z]
    · rw [if_pos (i_nlt.mp z)]; simp [z]
  · rw [if_neg (by decide), if_neg (by decide), if_neg (by decide), if_neg (by decide), if_neg (by decide), if_neg (by decide), if_neg (by decide)]
    simp only [rck]
    by_cases z : x = y
    · rw [if_neg (fun k => k z)]; simp [z]
    · rw [if_pos z]; simp [z]
theorem reckM_e (h : HP) (x y : Int32) {o : Nat} (h1 : 2 ≤ o) (h2 : o < 10) (hz : ¬ ((o = 5 ∨ o = 6) ∧ y = 0)) : xX11_reckon (nI o) x y h = some (rck o x y, h) := by
  unfold xX11_reckon xX11_reckon_74 xX11_reckon_85 xX11_reckon_96
  have : o = 2 ∨ o = 3 ∨ o = 4 ∨ o = 5 ∨ o = 6 ∨ o = 7 ∨ o = 8 ∨ o = 9 := by omega
  rcases this with rfl | rfl | rfl | rfl | rfl | rfl | rfl | rfl
  · rw [if_pos (by decide)]; rfl
  · rw [if_neg (by decide), if_pos (by decide)]; rfl
  · rw [if_neg (by decide), if_neg (by decide), if_pos (by decide)]; rfl
  · have y0 : y ≠ 0 := fun z => hz ⟨Or.inl rfl, z⟩
    rw [if_neg (by decide), if_neg (by decide), if_neg (by decide), if_pos (by decide), dvd, if_neg y0]; rfl
  · have y0 : y ≠ 0 := fun z => hz ⟨Or.inr rfl, z⟩
    rw [if_neg (by decide), if_neg (by decide), if_neg (by decide), if_neg (by decide), if_pos (by decide), rmd, if_neg y0]; rfl
  · rw [if_neg (by decide), if_neg (by decide), if_neg (by decide), if_neg (by decide), if_neg (by decide), if_pos (by decide)]
    simp only [rck]
    by_cases z : x < y
    · rw [if_neg (fun k => absurd z (by rw [i_nlt]; exact k))]; simp [z]
    · rw [if_pos (i_nlt.mp z)]; simp [z]
  · rw [if_neg (by decide), if_neg (by decide), if_neg (by decide), if_neg (by decide), if_neg (by decide), if_neg (by decide), if_pos (by decide)]
    simp only [rck]
    by_cases z : y < x
    · rw [if_neg (fun k => absurd z (by rw [i_nlt]; exact k))]; simp [z]
    · rw [if_pos (i_nlt.mp z)]; simp [z]
  · rw [if_neg (by decide), if_neg (by decide), if_neg (by decide), if_neg (by decide), if_neg (by decide), if_neg (by decide), if_neg (by decide)]
    simp only [rck]
    by_cases z : x = y
    · rw [if_neg (fun k => k z)]; simp [z]
    · rw [if_pos z]; simp [z]
