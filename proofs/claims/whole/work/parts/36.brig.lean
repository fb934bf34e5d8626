/-! ===== brigades ===== -/
theorem bits_ex (P : Nat → Prop) : ∀ n, ∃ S, S < 2 ^ n ∧ ∀ x, S.testBit x = true ↔ (x < n ∧ P x) := by
  intro n
  induction n with
  | zero => exact ⟨0, by decide, fun x => by simp⟩
  | succ n ih =>
    obtain ⟨S, h1, h2⟩ := ih
    by_cases q : P n
    · refine ⟨2 ^ n * 1 + S, by rw [Nat.pow_succ]; omega, fun x => ?_⟩
      rw [Nat.testBit_two_pow_mul_add _ h1]
      by_cases hx : x < n
      · rw [if_pos hx, h2]; exact ⟨fun z => ⟨by omega, z.2⟩, fun z => ⟨hx, z.2⟩⟩
      · rw [if_neg hx]
        by_cases e : x = n
        · subst e; rw [Nat.sub_self]; exact ⟨fun _ => ⟨by omega, q⟩, fun _ => by decide⟩
        · rw [Nat.testBit_lt_two_pow (Nat.lt_of_lt_of_le (show 1 < 2 ^ 1 by decide) (Nat.pow_le_pow_right (by decide) (show 1 ≤ x - n by omega)))]
          exact ⟨fun z => (by cases z), fun z => by omega⟩
    · refine ⟨S, by rw [Nat.pow_succ]; omega, fun x => ?_⟩
      rw [h2]
      refine ⟨fun z => ⟨by omega, z.2⟩, fun z => ⟨?_, z.2⟩⟩
      rcases Nat.lt_or_ge x n with q2 | q2
      · exact q2
      · have : x = n := by omega
        subst this; exact absurd z.2 q
section BR
variable {A : AS} {hx hm : HP} {N : Nat} {act : Nat → Bool}
def cvr (A : AS) (act : Nat → Bool) (b g : Nat) : Prop := ∀ d, (A 0 0).testBit d = true → ∃ c, c < 16 ∧ b.testBit c = true ∧ rc A act c g d
/-- a set that covers has a corner of each group -/
theorem gp_cvr (w : WFt A) (w1 : A 0 0 < 65536) {b g : Nat} (h : cvr A act b g) : gp A act 16 ≤ pc b 16 := by
  suffices ∀ m, m ≤ 16 → ∃ S, S < 2 ^ 16 ∧ (∀ x, S.testBit x = true ↔ (x < 16 ∧ (b.testBit x = true ∧ ∃ y, y < m ∧ (A 0 0).testBit y = true ∧ cn A act y x))) ∧ gp A act m ≤ pc S 16 by
    obtain ⟨S, h1, h2, h3⟩ := this 16 (Nat.le_refl _)
    exact Nat.le_trans h3 (pc_sub 16 (fun i hi hb => ((h2 i).mp hb).2.1)).1
  intro m
  induction m with
  | zero =>
    intro _
    exact ⟨0, by decide, fun x => ⟨fun z => by simp at z, fun ⟨_, _, y, hy, _⟩ => by omega⟩, by simp [gp]⟩
  | succ m ih =>
    intro hm
    obtain ⟨S, h1, h2, h3⟩ := ih (by omega)
    obtain ⟨T, k1, k2⟩ := bits_ex (fun x => b.testBit x = true ∧ ∃ y, y < m + 1 ∧ (A 0 0).testBit y = true ∧ cn A act y x) 16
    have sub := pc_sub (a := S) (b := T) 16 (fun i hi hb => by
      obtain ⟨q1, q2, y, q3, q4⟩ := (h2 i).mp hb
      exact (k2 i).mpr ⟨q1, q2, y, by omega, q4⟩)
    refine ⟨T, k1, k2, ?_⟩
    by_cases hr : rep A act m
    · rw [gp_t hr]
      obtain ⟨c, c1, c2, c3⟩ := h m hr.1
      have hcm : cn A act m c := cn.symm w ⟨g, c3⟩
      have tc : T.testBit c = true := (k2 c).mpr ⟨c1, c2, m, by omega, hr.1, hcm⟩
      have sc : S.testBit c ≠ true := by
        intro z
        obtain ⟨-, -, y, q1, q2, q3⟩ := (h2 c).mp z
        exact hr.2 y q1 q2 (q3.tr ⟨g, c3⟩)
      rcases Nat.lt_or_ge (pc S 16) (pc T 16) with q | q
      · omega
      · have := sub.2 (by omega) c c1
        rw [tc] at this
        exact absurd this sc
    · rw [gp_f hr]; omega
/-- how far the farthest told corner is from a set (1000000: no way) -/
noncomputable def wmn (A : AS) (act : Nat → Bool) (b d : Nat) : Nat → Nat
  | 0 => 1000000
  | c + 1 => if b.testBit c = true ∧ dn A act c d ≠ 100 then min (wmn A act b d c) (dn A act c d) else wmn A act b d c
noncomputable def wst (A : AS) (act : Nat → Bool) (b : Nat) : Nat → Nat
  | 0 => 0
  | d + 1 => if (A 0 0).testBit d = true then max (wst A act b d) (wmn A act b d 16) else wst A act b d
theorem wmn_cap (w : WFt A) (b d : Nat) : ∀ n, n ≤ 16 → wmn A act b d n < 16 ∨ wmn A act b d n = 1000000 := by
  intro n
  induction n with
  | zero => intro _; right; rfl
  | succ n ih =>
    intro hn
    have h1 := ih (by omega)
    simp only [wmn]
    split
    · rename_i q
      have := dn_cases (A := A) (act := act) (c := n) (d := d) w (by omega)
      omega
    · exact h1
theorem wst_cap (w : WFt A) (b : Nat) : ∀ n, wst A act b n < 16 ∨ wst A act b n = 1000000 := by
  intro n
  induction n with
  | zero => left; unfold wst; omega
  | succ n ih =>
    simp only [wst]
    split
    · have := wmn_cap (act := act) w b n 16 (Nat.le_refl _); omega
    · exact ih
theorem wmn_le (w : WFt A) (b d : Nat) {g : Nat} (hg : g < 16) : ∀ n, n ≤ 16 → (wmn A act b d n ≤ g ↔ ∃ c, c < n ∧ b.testBit c = true ∧ rc A act c g d) := by
  intro n
  induction n with
  | zero => intro _; simp only [wmn]; exact ⟨fun z => by omega, fun ⟨c, z, _⟩ => by omega⟩
  | succ n ih =>
    intro hn
    have h1 := ih (by omega)
    simp only [wmn]
    have dl := dn_le (A := A) (act := act) (c := n) (d := d) w (by omega) (n := g) (by omega)
    split
    · rename_i q
      constructor
      · intro z
        rcases Nat.le_total (wmn A act b d n) (dn A act n d) with y | y
        · obtain ⟨c, c1, c2⟩ := h1.mp (by omega)
          exact ⟨c, by omega, c2⟩
        · exact ⟨n, by omega, q.1, dl.mp (by omega)⟩
      · rintro ⟨c, c1, c2, c3⟩
        by_cases e : c = n
        · subst e; have := dl.mpr c3; omega
        · have := h1.mpr ⟨c, by omega, c2, c3⟩; omega
    · rename_i q
      rw [h1]
      constructor
      · rintro ⟨c, c1, c2⟩; exact ⟨c, by omega, c2⟩
      · rintro ⟨c, c1, c2, c3⟩
        by_cases e : c = n
        · subst e
          have := dl.mpr c3
          exact absurd ⟨c2, by omega⟩ q
        · exact ⟨c, by omega, c2, c3⟩
theorem wst_le (w : WFt A) (b : Nat) {g : Nat} (hg : g < 16) : ∀ n, (wst A act b n ≤ g ↔ ∀ d, d < n → (A 0 0).testBit d = true → ∃ c, c < 16 ∧ b.testBit c = true ∧ rc A act c g d) := by
  intro n
  induction n with
  | zero => exact ⟨fun _ d z => by omega, fun _ => by unfold wst; omega⟩
  | succ n ih =>
    simp only [wst]
    have k := wmn_le (act := act) w b n hg 16 (Nat.le_refl _)
    split
    · rename_i q
      constructor
      · intro z d hd ht
        by_cases e : d = n
        · subst e; exact k.mp (by omega)
        · exact ih.mp (by omega) d (by omega) ht
      · intro z
        have := k.mpr (z n (by omega) q)
        have := ih.mpr (fun d hd ht => z d (by omega) ht)
        omega
    · rename_i q
      rw [ih]
      constructor
      · intro z d hd ht
        by_cases e : d = n
        · subst e; exact absurd ht q
        · exact z d (by omega) ht
      · intro z d hd ht; exact z d (by omega) ht
theorem wst_cvr (w : WFt A) (w1 : A 0 0 < 65536) (b : Nat) {g : Nat} (hg : g < 16) : wst A act b 16 ≤ g ↔ cvr A act b g := by
  rw [wst_le w b hg]
  constructor
  · intro z d ht
    apply z d _ ht
    rcases Nat.lt_or_ge d 16 with q | q
    · exact q
    · rw [big_f w1 q] at ht; cases ht
  · intro z d _ ht; exact z d ht
/-- may a set stand -/
def vld (A : AS) (k b : Nat) : Bool := decide (b &&& (4294967295 - A 0 0) = 0) && decide (pc b 16 = k)
theorem vld_sub (w1 : A 0 0 < 65536) {k b : Nat} (h : b &&& (4294967295 - A 0 0) = 0) {i : Nat} (hi : i < 32) (hb : b.testBit i = true) : (A 0 0).testBit i = true := by
  have := congrArg (fun z => z.testBit i) h
  simp only [Nat.testBit_and, hb, cmp_tb w1 i hi, Nat.zero_testBit, Bool.true_and] at this
  simpa using this
noncomputable def lmt (A : AS) (act : Nat → Bool) (o : Option Nat) : Nat := match o with | none => 1000000 | some b => wst A act b 16
/-- the least set among the first whose farthest is least -/
noncomputable def rbs (A : AS) (act : Nat → Bool) (k : Nat) : Nat → Option Nat
  | 0 => none
  | i + 1 => if vld A k i = true ∧ wst A act i 16 < lmt A act (rbs A act k i) then some i else rbs A act k i
theorem rbs_n {k : Nat} : ∀ n, rbs A act k n = none → ∀ b, b < n → vld A k b = true → 1000000 ≤ wst A act b 16 := by
  intro n
  induction n with
  | zero => intro _ b hb; omega
  | succ n ih =>
    intro h b hb hv
    simp only [rbs] at h
    split at h
    · cases h
    · rename_i q
      rw [h] at q
      by_cases e : b = n
      · subst e
        rcases Nat.lt_or_ge (wst A act b 16) 1000000 with z | z
        · exact absurd ⟨hv, z⟩ q
        · exact z
      · exact ih h b (by omega) hv
theorem rbs_s {k : Nat} : ∀ n b0, rbs A act k n = some b0 → b0 < n ∧ vld A k b0 = true ∧ wst A act b0 16 < 1000000 ∧ ∀ b, b < n → vld A k b = true → wst A act b0 16 ≤ wst A act b 16 ∧ (b < b0 → wst A act b0 16 < wst A act b 16) := by
  intro n
  induction n with
  | zero => intro b0 h; cases h
  | succ n ih =>
    intro b0 h
    simp only [rbs] at h
    split at h
    · rename_i q
      cases h
      cases hr : rbs A act k n with
      | none =>
        rw [hr] at q
        refine ⟨by omega, q.1, q.2, fun b hb hv => ?_⟩
        by_cases e : b = n
        · subst e; omega
        · have := rbs_n n hr b (by omega) hv
          have := q.2
          dsimp only [lmt] at this
          omega
      | some b1 =>
        rw [hr] at q
        obtain ⟨i1, i2, i3, i4⟩ := ih b1 hr
        have q2 := q.2
        dsimp only [lmt] at q2
        refine ⟨by omega, q.1, by omega, fun b hb hv => ?_⟩
        by_cases e : b = n
        · subst e; omega
        · have := i4 b (by omega) hv; omega
    · rename_i q
      obtain ⟨i1, i2, i3, i4⟩ := ih b0 h
      refine ⟨by omega, i2, i3, fun b hb hv => ?_⟩
      by_cases e : b = n
      · subst e
        rw [h] at q
        dsimp only [lmt] at q
        have : ¬ wst A act b 16 < wst A act b0 16 := fun z => q ⟨hv, z⟩
        omega
      · exact i4 b (by omega) hv
end BR
