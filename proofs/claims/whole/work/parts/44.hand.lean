/-! ===== corners with an odd number of pipes are even in number; their places ===== -/
theorem boolE : ∀ x : Bool, ∀ y : Bool, (x = true ↔ y = true) → x = y := fun x y q => by cases x <;> cases y <;> simp_all
theorem pc_tog {a b k : Nat} (hk : k < 16) (h1 : b.testBit k = !a.testBit k) (h2 : ∀ i, i ≠ k → b.testBit i = a.testBit i) : (pc a 16 + pc b 16) % 2 = 1 := by
  cases h : a.testBit k
  · have := pc_off (a := b) (b := a) (k := k) (by rw [h1, h]; rfl) (fun i => by
      by_cases q : i = k
      · subst q; rw [h]; simp
      · rw [h2 i q, decide_eq_true q, Bool.and_true]) 16 hk
    omega
  · have := pc_off (a := a) (b := b) (k := k) h (fun i => by
      by_cases q : i = k
      · subst q; rw [h1, h]; simp
      · rw [h2 i q, decide_eq_true q, Bool.and_true]) 16 hk
    omega
section HS
variable {A : AS} {op : Nat}
theorem ac_eq {p c : Nat} : ac A p c = if A 2 p = c then some (A 3 p) else if A 3 p = c then some (A 2 p) else none := rfl
theorem hand {C : Nat} (w : WFt A) (hC : C < 65536) (hcl : ∀ p, p < A 0 1 → op.testBit p = true → C.testBit (A 2 p) = C.testBit (A 3 p)) : ∀ n, n ≤ A 0 1 → ∃ O, O < 2 ^ 16 ∧ (∀ d, O.testBit d = true ↔ (d < 16 ∧ (C.testBit d = true ∧ opn A op d n % 2 = 1))) ∧ pc O 16 % 2 = 0 := by
  intro n
  induction n with
  | zero => intro _; exact ⟨0, by decide, fun d => by simp [opn], by rw [pc_zero]⟩
  | succ n ih =>
    intro hn
    obtain ⟨O, o1, o2, o3⟩ := ih (by omega)
    obtain ⟨Q, q1, q2⟩ := bits_ex (fun d => C.testBit d = true ∧ opn A op d (n + 1) % 2 = 1) 16
    refine ⟨Q, q1, q2, ?_⟩
    obtain ⟨w1, w2, w3, -⟩ := w.2 n (by omega)
    have same : (∀ d, d < 16 → C.testBit d = true → opn A op d (n + 1) = opn A op d n) → pc Q 16 % 2 = 0 := by
      intro h
      have : Q = O := Nat.eq_of_testBit_eq (fun d => by
        apply boolE
        rw [q2, o2]
        constructor
        · rintro ⟨z1, z2, z3⟩; rw [h d z1 z2] at z3; exact ⟨z1, z2, z3⟩
        · rintro ⟨z1, z2, z3⟩; exact ⟨z1, z2, by rw [h d z1 z2]; exact z3⟩)
      rw [this]; exact o3
    by_cases ho : op.testBit n = true
    · have cab := hcl n (by omega) ho
      by_cases ca : C.testBit (A 2 n) = true
      · have cb : C.testBit (A 3 n) = true := by rw [← cab]; exact ca
        have oa : opn A op (A 2 n) (n + 1) = opn A op (A 2 n) n + 1 := by
          simp only [opn]; rw [if_pos ⟨ho, by rw [ac_eq, if_pos rfl]; rfl⟩]
        have ob : opn A op (A 3 n) (n + 1) = opn A op (A 3 n) n + 1 := by
          simp only [opn]; rw [if_pos ⟨ho, by rw [ac_eq, if_neg w3, if_pos rfl]; rfl⟩]
        have oo : ∀ d, d ≠ A 2 n → d ≠ A 3 n → opn A op d (n + 1) = opn A op d n := fun d h1 h2 => by
          simp only [opn]
          rw [if_neg (fun z => by
            have := z.2
            rw [ac_eq, if_neg (fun y => h1 y.symm), if_neg (fun y => h2 y.symm)] at this
            cases this)]
          rfl
        obtain ⟨P, p1, p2⟩ := bits_ex (fun d => C.testBit d = true ∧ (if d = A 2 n then opn A op d (n + 1) else opn A op d n) % 2 = 1) 16
        have e1 : (pc O 16 + pc P 16) % 2 = 1 := pc_tog (k := A 2 n) w1 (by
          apply boolE
          rw [p2, if_pos rfl, oa]
          cases h : O.testBit (A 2 n)
          · have hn2 : ¬ opn A op (A 2 n) n % 2 = 1 := fun z => by have := (o2 _).mpr ⟨w1, ca, z⟩; rw [h] at this; cases this
            exact ⟨fun _ => rfl, fun _ => ⟨w1, ca, by omega⟩⟩
          · have h2 := ((o2 _).mp h).2.2
            exact ⟨fun z => by omega, fun z => by cases z⟩) (fun i hi => by
          apply boolE
          rw [p2, o2, if_neg hi])
        have e2 : (pc P 16 + pc Q 16) % 2 = 1 := pc_tog (k := A 3 n) w2 (by
          apply boolE
          rw [q2, ob]
          cases h : P.testBit (A 3 n)
          · have hn2 : ¬ opn A op (A 3 n) n % 2 = 1 := fun z => by
              have := (p2 _).mpr ⟨w2, cb, by rw [if_neg (fun y => w3 y.symm)]; exact z⟩; rw [h] at this; cases this
            exact ⟨fun _ => rfl, fun _ => ⟨w2, cb, by omega⟩⟩
          · have h2 := ((p2 _).mp h).2.2
            rw [if_neg (fun y => w3 y.symm)] at h2
            exact ⟨fun z => by omega, fun z => by cases z⟩) (fun i hi => by
          apply boolE
          rw [q2, p2]
          by_cases h : i = A 2 n
          · rw [if_pos h]
          · rw [if_neg h, oo i h hi])
        omega
      · apply same
        intro d hd hc
        simp only [opn]
        rw [if_neg (fun z => by
          have := z.2
          rw [ac_eq, if_neg (fun y => by rw [y] at ca; exact ca hc), if_neg (fun y => by rw [cab, y] at ca; exact ca hc)] at this
          cases this)]
        rfl
    · apply same
      intro d _ _
      simp only [opn]
      rw [if_neg (fun z => ho z.1)]
      rfl
end HS
/-- the i-th of a set -/
def oth (O i : Nat) : Nat → Nat
  | 0 => 0
  | n + 1 => if O.testBit n = true ∧ pc O n = i then n else oth O i n
theorem oth_s {O i : Nat} : ∀ n, i < pc O n → O.testBit (oth O i n) = true ∧ pc O (oth O i n) = i ∧ oth O i n < n := by
  intro n
  induction n with
  | zero => intro h; simp [pc] at h
  | succ n ih =>
    intro h
    simp only [oth]
    by_cases q : O.testBit n = true ∧ pc O n = i
    · rw [if_pos q]; exact ⟨q.1, q.2, by omega⟩
    · rw [if_neg q]
      have : i < pc O n := by
        simp only [pc] at h
        by_cases hb : O.testBit n = true
        · have : pc O n ≠ i := fun z => q ⟨hb, z⟩
          have hb2 := (tb_iff O n).mp hb
          omega
        · have hb2 := (tb_n O n).mp (by simpa using hb)
          omega
      obtain ⟨h1, h2, h3⟩ := ih this
      exact ⟨h1, h2, by omega⟩
theorem pc_step (O n : Nat) : pc O (n + 1) = pc O n + (if O.testBit n = true then 1 else 0) := by
  simp only [pc]
  by_cases hb : O.testBit n = true
  · rw [if_pos hb, (tb_iff O n).mp hb]
  · rw [if_neg hb, (tb_n O n).mp (by simpa using hb)]
theorem pc_strict {O d e : Nat} (h : O.testBit d = true) (hd : d < e) : pc O d < pc O e := by
  have := pc_mono O (d + 1) e (by omega)
  rw [pc_step, if_pos h] at this
  omega
theorem oth_d {O d : Nat} (h : O.testBit d = true) (hd : d < 16) : oth O (pc O d) 16 = d := by
  obtain ⟨h1, h2, h3⟩ := oth_s (O := O) (i := pc O d) 16 (pc_strict h hd)
  rcases Nat.lt_trichotomy (oth O (pc O d) 16) d with q | q | q
  · have := pc_strict h1 q; omega
  · exact q
  · have := pc_strict h q; omega
