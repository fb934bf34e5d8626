section FQ8
variable {A : AS} {op : Nat} {one : Bool}
/-- pipe p carries e more from corner u on -/
def addF (A : AS) (f : Nat → Int) (p u e : Nat) (q : Nat) : Int := if q = p then (if A 2 p = u then f p + (e : Int) else f p - (e : Int)) else f q
theorem addF_ok {f : Nat → Int} {p u v e : Nat} (w : WFt A) (ok : okF A one f) (hp : p < A 0 1) (huv : (A 2 p = u ∧ A 3 p = v) ∨ (A 3 p = u ∧ A 2 p = v)) (he : (e : Int) ≤ rsI A one f p u) : okF A one (addF A f p u e) := by
  intro q hq
  have w3 := (w.2 p hp).2.2.1
  obtain ⟨o1, o2⟩ := ok q hq
  unfold addF
  by_cases z : q = p
  · subst z
    rw [if_pos rfl]
    unfold rsI at he
    rcases huv with ⟨h1, h2⟩ | ⟨h1, h2⟩
    · rw [if_pos h1] at he ⊢; omega
    · have : ¬ A 2 q = u := fun y => w3 (by rw [h1, y])
      rw [if_neg this] at he ⊢; omega
  · rw [if_neg z]; exact ⟨o1, o2⟩
theorem addF_rs {f : Nat → Int} {p u v e : Nat} (w : WFt A) (hp : p < A 0 1) (huv : (A 2 p = u ∧ A 3 p = v) ∨ (A 3 p = u ∧ A 2 p = v)) : rsI A one (addF A f p u e) p u = rsI A one f p u - (e : Int) ∧ rsI A one (addF A f p u e) p v = rsI A one f p v + (e : Int) := by
  have w3 := (w.2 p hp).2.2.1
  unfold rsI addF
  rcases huv with ⟨h1, h2⟩ | ⟨h1, h2⟩
  · have n2 : ¬ A 2 p = v := fun y => w3 (by rw [h2, y])
    rw [if_pos rfl, if_pos h1, if_pos h1, if_pos h1, if_neg n2, if_neg n2]; omega
  · have n2 : ¬ A 2 p = u := fun y => w3 (by rw [h1, y])
    rw [if_pos rfl, if_neg n2, if_neg n2, if_neg n2, if_pos h2, if_pos h2]; omega
theorem rN_add {f : Nat → Int} {p u v e : Nat} (w : WFt A) (ok : okF A one f) (hp : p < A 0 1) (hop : op.testBit p = true) (huv : (A 2 p = u ∧ A 3 p = v) ∨ (A 3 p = u ∧ A 2 p = v)) (he : (e : Int) ≤ rsI A one f p u) (a b : Nat) : ∀ n, n ≤ A 0 1 → rN A op one (addF A f p u e) a b n = (if p < n then psh (fun a b => rN A op one f a b n) u v e a b else rN A op one f a b n) ∧ (p < n → a = u → b = v → e ≤ rN A op one f a b n) := by
  have w3 := (w.2 p hp).2.2.1
  have uv : u ≠ v := by rcases huv with ⟨h1, h2⟩ | ⟨h1, h2⟩ <;> (intro z; apply w3; omega)
  obtain ⟨s1, s2⟩ := addF_rs (one := one) (f := f) (e := e) w hp huv
  have g1 := (rs_sum (one := one) w ok hp huv).1
  have g2 := (rs_sum (one := one) w ok hp (a := v) (b := u) (huv.elim (fun z => Or.inr ⟨z.2, z.1⟩) (fun z => Or.inl ⟨z.2, z.1⟩))).1
  intro n
  induction n with
  | zero => intro _; exact ⟨by rw [if_neg (by omega)]; rfl, fun z => by omega⟩
  | succ n ih =>
    intro hn
    obtain ⟨ih1, ih2⟩ := ih (by omega)
    by_cases q : n = p
    · subst q
      rw [if_neg (Nat.lt_irrefl n)] at ih1
      rw [if_pos (Nat.lt_succ_self n)]
      simp only [rN, psh, ih1]
      by_cases c1 : a = u ∧ b = v
      · obtain ⟨rfl, rfl⟩ := c1
        have hx : op.testBit n = true ∧ ((A 2 n = a ∧ A 3 n = b) ∨ (A 3 n = a ∧ A 2 n = b)) := ⟨hop, huv⟩
        rw [if_pos (show a = a ∧ b = b from ⟨rfl, rfl⟩), if_pos hx, if_pos hx, s1]
        clear ih1 ih2
        exact ⟨by omega, fun _ _ _ => by omega⟩
      · by_cases c2 : a = v ∧ b = u
        · obtain ⟨rfl, rfl⟩ := c2
          have hvu : (A 2 n = a ∧ A 3 n = b) ∨ (A 3 n = a ∧ A 2 n = b) := huv.elim (fun z => Or.inr ⟨z.2, z.1⟩) (fun z => Or.inl ⟨z.2, z.1⟩)
          have hx : op.testBit n = true ∧ ((A 2 n = a ∧ A 3 n = b) ∨ (A 3 n = a ∧ A 2 n = b)) := ⟨hop, hvu⟩
          rw [if_neg c1, if_pos (show a = a ∧ b = b from ⟨rfl, rfl⟩), if_pos hx, if_pos hx, s2]
          clear ih1 ih2
          exact ⟨by omega, fun _ z _ => by omega⟩
        · have no : ¬ (op.testBit n = true ∧ ((A 2 n = a ∧ A 3 n = b) ∨ (A 3 n = a ∧ A 2 n = b))) := fun z => by
            rcases huv with h | h <;> rcases z.2 with k | k <;> (first | (apply c1; omega) | (apply c2; omega))
          rw [if_neg c1, if_neg c2, if_neg no, if_neg no]
          exact ⟨rfl, fun _ z1 z2 => absurd ⟨z1, z2⟩ c1⟩
    · have same : rsI A one (addF A f p u e) n a = rsI A one f n a := by unfold rsI addF; rw [if_neg q]
      simp only [rN, same]
      by_cases pn : p < n
      · rw [if_pos pn] at ih1
        rw [if_pos (show p < n + 1 by omega), ih1]
        refine ⟨?_, fun _ z1 z2 => by have := ih2 pn z1 z2; omega⟩
        unfold psh
        dsimp only
        by_cases c1 : a = u ∧ b = v
        · have := ih2 pn c1.1 c1.2
          rw [if_pos c1, if_pos c1]; omega
        · by_cases c2 : a = v ∧ b = u
          · rw [if_neg c1, if_pos c2, if_neg c1, if_pos c2]; omega
          · rw [if_neg c1, if_neg c2, if_neg c1, if_neg c2]
      · rw [if_neg pn] at ih1
        rw [if_neg (show ¬ p < n + 1 by omega), ih1]
        exact ⟨rfl, fun z => by omega⟩
end FQ8
