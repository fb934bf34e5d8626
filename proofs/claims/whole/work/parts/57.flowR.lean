/-! ===== the reference's flow: by pipes ===== -/
/-- Int32 of an Int -/
theorem ofI_add (a b : Int) : Int32.ofInt a + Int32.ofInt b = Int32.ofInt (a + b) := (Int32.ofInt_add a b).symm
theorem ofI_sub (a b : Int) : Int32.ofInt a - Int32.ofInt b = Int32.ofInt (a - b) := (Int32.ofInt_sub a b).symm
theorem ofI_neg (a : Int) : - Int32.ofInt a = Int32.ofInt (- a) := (Int32.ofInt_neg a).symm
theorem ofI_n (n : Nat) : nI n = Int32.ofInt (n : Int) := by
  apply I_bv
  rw [bv_n]
  apply BitVec.eq_of_toNat_eq
  show _ = (BitVec.ofInt 32 (n : Int)).toNat
  rw [BitVec.ofInt_natCast]
section FR7
variable {A : AS} {op : Nat} {one : Bool}
def wdt (A : AS) (one : Bool) (p : Nat) : Nat := if one = true then 1 else A 4 p
/-- what pipe p with flow f leaves from corner a on -/
def rsI (A : AS) (one : Bool) (f : Nat → Int) (p a : Nat) : Int := if A 2 p = a then (wdt A one p : Int) - f p else (wdt A one p : Int) + f p
/-- each pipe's flow is within its width -/
def okF (A : AS) (one : Bool) (f : Nat → Int) : Prop := ∀ p, p < A 0 1 → -(wdt A one p : Int) ≤ f p ∧ f p ≤ (wdt A one p : Int)
/-- what is left between two corners among the first n pipes -/
def rN (A : AS) (op : Nat) (one : Bool) (f : Nat → Int) (a b : Nat) : Nat → Nat
  | 0 => 0
  | p + 1 => rN A op one f a b p + (if op.testBit p = true ∧ ((A 2 p = a ∧ A 3 p = b) ∨ (A 3 p = a ∧ A 2 p = b)) then (rsI A one f p a).toNat else 0)
theorem rs_sum {f : Nat → Int} (w : WFt A) (ok : okF A one f) {p a b : Nat} (hp : p < A 0 1) (h : (A 2 p = a ∧ A 3 p = b) ∨ (A 3 p = a ∧ A 2 p = b)) : 0 ≤ rsI A one f p a ∧ rsI A one f p a + rsI A one f p b = 2 * (wdt A one p : Int) := by
  obtain ⟨o1, o2⟩ := ok p hp
  have w3 := (w.2 p hp).2.2.1
  unfold rsI
  rcases h with ⟨h1, h2⟩ | ⟨h1, h2⟩
  · rw [if_pos h1, if_neg (fun z => w3 (by rw [h2, z]))]; omega
  · rw [if_neg (fun z => w3 (by rw [h1, z])), if_pos h2]; omega
theorem rN_sum {f : Nat → Int} (w : WFt A) (ok : okF A one f) {a b : Nat} : ∀ n, n ≤ A 0 1 → rN A op one f a b n + rN A op one f b a n = 2 * capN A op one a b n := by
  intro n
  induction n with
  | zero => intro _; rfl
  | succ n ih =>
    intro hn
    have ih1 := ih (by omega)
    simp only [rN, capN]
    by_cases q : op.testBit n = true ∧ ((A 2 n = a ∧ A 3 n = b) ∨ (A 3 n = a ∧ A 2 n = b))
    · have q2 : op.testBit n = true ∧ ((A 2 n = b ∧ A 3 n = a) ∨ (A 3 n = b ∧ A 2 n = a)) := ⟨q.1, q.2.elim (fun z => Or.inr ⟨z.2, z.1⟩) (fun z => Or.inl ⟨z.2, z.1⟩)⟩
      obtain ⟨r1, r2⟩ := rs_sum (one := one) w ok (show n < A 0 1 by omega) q.2
      obtain ⟨r3, -⟩ := rs_sum (one := one) w ok (show n < A 0 1 by omega) q2.2
      rw [if_pos q, if_pos q2, if_pos q]
      have e : wdt A one n = if one = true then 1 else A 4 n := rfl
      rw [← e]
      omega
    · have q2 : ¬ (op.testBit n = true ∧ ((A 2 n = b ∧ A 3 n = a) ∨ (A 3 n = b ∧ A 2 n = a))) := fun z => q ⟨z.1, z.2.elim (fun y => Or.inr ⟨y.2, y.1⟩) (fun y => Or.inl ⟨y.2, y.1⟩)⟩
      rw [if_neg q, if_neg q2, if_neg q]
      omega
/-- something is left between two corners just where one pipe leaves something -/
theorem rN_pos {f : Nat → Int} (w : WFt A) (ok : okF A one f) {a b : Nat} : ∀ n, n ≤ A 0 1 → (0 < rN A op one f a b n ↔ ∃ p, p < n ∧ op.testBit p = true ∧ ((A 2 p = a ∧ A 3 p = b) ∨ (A 3 p = a ∧ A 2 p = b)) ∧ rsI A one f p a ≠ 0) := by
  intro n
  induction n with
  | zero => intro _; exact ⟨fun z => by simp [rN] at z, fun ⟨p, z, _⟩ => by omega⟩
  | succ n ih =>
    intro hn
    have ih1 := ih (by omega)
    simp only [rN]
    constructor
    · intro z
      by_cases q0 : 0 < rN A op one f a b n
      · obtain ⟨p, p1, p2⟩ := ih1.mp q0
        exact ⟨p, by omega, p2⟩
      · by_cases q : op.testBit n = true ∧ ((A 2 n = a ∧ A 3 n = b) ∨ (A 3 n = a ∧ A 2 n = b))
        · rw [if_pos q] at z
          exact ⟨n, by omega, q.1, q.2, fun y => by rw [y] at z; simp at z; omega⟩
        · rw [if_neg q] at z; omega
    · rintro ⟨p, p1, p2, p3, p4⟩
      by_cases q : p = n
      · subst q
        rw [if_pos ⟨p2, p3⟩]
        have := (rs_sum (one := one) w ok (show p < A 0 1 by omega) p3).1
        omega
      · have := ih1.mpr ⟨p, by omega, p2, p3, p4⟩
        omega
end FR7
