/-! ===== the town as a graph: pipes p < A 0 1 with act p ===== -/
def ad (A : AS) (act : Nat → Bool) (c d : Nat) : Prop := ∃ p, p < A 0 1 ∧ act p = true ∧ ac A p c = some d
theorem ac_sym {A : AS} (w : WFt A) {p c d : Nat} (hp : p < A 0 1) (h : ac A p c = some d) : ac A p d = some c := by
  have q := (w.2 p hp).2.2.1
  unfold ac at h ⊢
  by_cases h1 : A 2 p = c
  · rw [if_pos h1] at h
    cases h
    rw [if_neg q, if_pos rfl, h1]
  · rw [if_neg h1] at h
    by_cases h2 : A 3 p = c
    · rw [if_pos h2] at h
      cases h
      rw [if_pos rfl, h2]
    · rw [if_neg h2] at h
      cases h
theorem ad_sym {A : AS} (w : WFt A) {act : Nat → Bool} {c d : Nat} (h : ad A act c d) : ad A act d c := by
  obtain ⟨p, h1, h2, h3⟩ := h
  exact ⟨p, h1, h2, ac_sym w h1 h3⟩
theorem ad_lt {A : AS} (w : WFt A) {act : Nat → Bool} {c d : Nat} (h : ad A act c d) : d < 16 := by
  obtain ⟨p, h1, h2, h3⟩ := h
  exact ac_lt w h1 h3
theorem ad_told {A : AS} (w : WFt A) {act : Nat → Bool} {c d : Nat} (h : ad A act c d) : (A 0 0).testBit d = true := by
  obtain ⟨p, h1, h2, h3⟩ := h
  have q := (w.2 p h1).2.2.2
  unfold ac at h3
  split at h3
  · cases h3; exact q.2.1
  · split at h3
    · cases h3; exact q.1
    · cases h3
/-- within so many steps -/
def rc (A : AS) (act : Nat → Bool) (c : Nat) : Nat → Nat → Prop
  | 0, d => d = c
  | g + 1, d => rc A act c g d ∨ ∃ x, rc A act c g x ∧ ad A act x d
section GR
variable {A : AS} {act : Nat → Bool} {c : Nat}
theorem rc_mono {g : Nat} : ∀ k d, rc A act c g d → rc A act c (g + k) d := by
  intro k
  induction k with
  | zero => intro d h; exact h
  | succ k ih => intro d h; exact Or.inl (ih d h)
theorem rc_le {g k d : Nat} (hk : g ≤ k) (h : rc A act c g d) : rc A act c k d := by
  have := rc_mono (k - g) d h
  rwa [show g + (k - g) = k by omega] at this
theorem rc_lt (w : WFt A) (hc : c < 16) : ∀ g d, rc A act c g d → d < 16 := by
  intro g
  induction g with
  | zero => intro d h; rw [show d = c from h]; exact hc
  | succ g ih =>
    intro d h
    rcases h with h | ⟨x, -, h2⟩
    · exact ih d h
    · exact ad_lt w h2
theorem rc_told (w : WFt A) (hc : (A 0 0).testBit c = true) : ∀ g d, rc A act c g d → (A 0 0).testBit d = true := by
  intro g
  induction g with
  | zero => intro d h; rw [show d = c from h]; exact hc
  | succ g ih =>
    intro d h
    rcases h with h | ⟨x, -, h2⟩
    · exact ih d h
    · exact ad_told w h2
theorem rc_stop {g : Nat} (h : ∀ d, rc A act c (g + 1) d → rc A act c g d) : ∀ k d, rc A act c (g + k) d → rc A act c g d := by
  intro k
  induction k with
  | zero => intro d q; exact q
  | succ k ih =>
    intro d q
    rcases q with q | ⟨x, q1, q2⟩
    · exact ih d q
    · exact h d (Or.inr ⟨x, ih x q1, q2⟩)
/-- the steps to d: v -/
def isDs (A : AS) (act : Nat → Bool) (c d : Nat) (v : Int32) : Prop := (∃ g, g < 16 ∧ v = nI g ∧ rc A act c g d ∧ ∀ j, j < g → ¬ rc A act c j d) ∨ (v = -2 ∧ ∀ g, ¬ rc A act c g d)
theorem isDs.uniq {d : Nat} {v v' : Int32} (h : isDs A act c d v) (h' : isDs A act c d v') : v = v' := by
  rcases h with ⟨g, h1, h2, h3, h4⟩ | ⟨h1, h2⟩
  · rcases h' with ⟨k, k1, k2, k3, k4⟩ | ⟨k1, k2⟩
    · rcases Nat.lt_trichotomy g k with q | q | q
      · exact absurd h3 (k4 g q)
      · rw [h2, k2, q]
      · exact absurd k3 (h4 k q)
    · exact absurd h3 (k2 g)
  · rcases h' with ⟨k, k1, k2, k3, k4⟩ | ⟨k1, k2⟩
    · exact absurd k3 (h2 k)
    · rw [h1, k1]
/-- all that hang together with c -/
def isCp (A : AS) (act : Nat → Bool) (c S : Nat) : Prop := S < 65536 ∧ ∀ d, S.testBit d = true ↔ ∃ g, rc A act c g d
theorem isCp.uniq {S T : Nat} (h : isCp A act c S) (h' : isCp A act c T) : S = T := by
  apply Nat.eq_of_testBit_eq
  intro i
  cases hb : S.testBit i
  · cases hb2 : T.testBit i
    · rfl
    · have := (h.2 i).mpr ((h'.2 i).mp hb2)
      rw [this] at hb; cases hb
  · exact ((h'.2 i).mpr ((h.2 i).mp hb)).symm
/-- a set closed by pipes that holds c holds all -/
theorem rc_in {S : Nat} (h0 : S.testBit c = true) (hcl : ∀ p, p < A 0 1 → act p = true → S.testBit (A 2 p) = S.testBit (A 3 p)) : ∀ g d, rc A act c g d → S.testBit d = true := by
  intro g
  induction g with
  | zero => intro d h; rw [show d = c from h]; exact h0
  | succ g ih =>
    intro d h
    rcases h with h | ⟨x, h1, p, h2, h3, h4⟩
    · exact ih d h
    · have hx := ih x h1
      have e := hcl p h2 h3
      unfold ac at h4
      split at h4
      · rename_i q; cases h4; rw [← e, q]; exact hx
      · split at h4
        · rename_i q; cases h4; rw [e, q]; exact hx
        · cases h4
theorem isCp.of {S : Nat} (hS : S < 65536) (h0 : S.testBit c = true) (hcl : ∀ p, p < A 0 1 → act p = true → S.testBit (A 2 p) = S.testBit (A 3 p)) (hs : ∀ d, S.testBit d = true → ∃ g, rc A act c g d) : isCp A act c S :=
  ⟨hS, fun d => ⟨hs d, fun ⟨g, h⟩ => rc_in h0 hcl g d h⟩⟩
end GR
theorem nxt_tb {A : AS} {op c : Nat} : ∀ n d, (nxt A op c n).testBit d = true ↔ ∃ p, p < n ∧ op.testBit p = true ∧ ac A p c = some d := by
  intro n
  induction n with
  | zero => intro d; simp [nxt]
  | succ n ih =>
    intro d
    simp only [nxt, Nat.testBit_or, Bool.or_eq_true, ih]
    constructor
    · rintro (⟨p, h1, h2, h3⟩ | h)
      · exact ⟨p, by omega, h2, h3⟩
      · split at h
        · rename_i hb
          split at h
          · rename_i e he
            rw [Nat.testBit_two_pow] at h
            have : e = d := by simpa using h
            exact ⟨n, by omega, hb, by rw [he, this]⟩
          · simp at h
        · simp at h
    · rintro ⟨p, h1, h2, h3⟩
      by_cases q : p = n
      · subst q
        right
        rw [if_pos h2, h3]
        simp [Nat.testBit_two_pow]
      · exact Or.inl ⟨p, by omega, h2, h3⟩
abbrev am (op : Nat) : Nat → Bool := fun p => op.testBit p
theorem nxt_ad {A : AS} {op c d : Nat} : (nxt A op c (A 0 1)).testBit d = true ↔ ad A (am op) c d := nxt_tb _ _
/-- the join of rows by bits -/
def un (f : Nat → Nat) (b : Nat) : Nat → Nat
  | 0 => 0
  | c + 1 => un f b c ||| (if b.testBit c = true then f c else 0)
theorem un_tb (f : Nat → Nat) (b : Nat) : ∀ n d, (un f b n).testBit d = true ↔ ∃ c, c < n ∧ b.testBit c = true ∧ (f c).testBit d = true := by
  intro n
  induction n with
  | zero => intro d; simp [un]
  | succ n ih =>
    intro d
    simp only [un, Nat.testBit_or, Bool.or_eq_true, ih]
    constructor
    · rintro (⟨p, h1, h2, h3⟩ | h)
      · exact ⟨p, by omega, h2, h3⟩
      · split at h
        · exact ⟨n, by omega, by assumption, h⟩
        · simp at h
    · rintro ⟨p, h1, h2, h3⟩
      by_cases q : p = n
      · subst q
        right
        rw [if_pos h2]; exact h3
      · exact Or.inl ⟨p, by omega, h2, h3⟩
theorem un_lt {f : Nat → Nat} {b : Nat} : ∀ n, (∀ c, c < n → f c < 65536) → un f b n < 65536 := by
  intro n
  induction n with
  | zero => intro _; simp [un]
  | succ n ih =>
    intro h
    simp only [un]
    apply Nat.or_lt_two_pow (n := 16) (ih (fun c hc => h c (by omega)))
    split
    · exact h n (by omega)
    · decide
/-- a bit taken away -/
theorem low_off {a k : Nat} (h : isLow a k) : ∀ i, (a &&& (a - 1)).testBit i = (a.testBit i && decide (i ≠ k)) := by
  obtain ⟨m, e⟩ := h.form
  have hp := Nat.two_pow_pos k
  have ea : a - 1 = 2 ^ k * (2 * m) + (2 ^ k - 1) := by
    rw [e, Nat.mul_add, Nat.mul_one]
    omega
  intro i
  rw [Nat.testBit_and, ea, Nat.two_pow_add_eq_or_of_lt (by omega), Nat.testBit_or, Nat.testBit_two_pow_mul, Nat.testBit_two_pow_sub_one]
  by_cases q : i < k
  · rw [h.2 i q]; simp
  · by_cases q2 : i = k
    · subst q2
      simp
    · rw [e, Nat.testBit_two_pow_mul]
      have : i - k = (i - k - 1) + 1 := by omega
      rw [this, Nat.testBit_succ, Nat.testBit_succ, show 2 * m / 2 = m by omega, show (2 * m + 1) / 2 = m by omega, decide_eq_false q, Bool.or_false]
      simp [q2]
theorem pc_eq {a b : Nat} : ∀ n, (∀ i, i < n → a.testBit i = b.testBit i) → pc a n = pc b n := by
  intro n
  induction n with
  | zero => intro _; rfl
  | succ n ih =>
    intro h
    simp only [pc]
    rw [ih (fun i hi => h i (by omega))]
    congr 1
    have := h n (by omega)
    cases hb : a.testBit n
    · rw [hb] at this; rw [(tb_n _ _).mp hb, (tb_n _ _).mp this.symm]
    · rw [hb] at this; rw [(tb_iff _ _).mp hb, (tb_iff _ _).mp this.symm]
theorem pc_off {a b k : Nat} (h1 : a.testBit k = true) (h2 : ∀ i, b.testBit i = (a.testBit i && decide (i ≠ k))) : ∀ n, k < n → pc a n = pc b n + 1 := by
  intro n
  induction n with
  | zero => intro q; omega
  | succ n ih =>
    intro q
    simp only [pc]
    by_cases e : n = k
    · subst e
      have hb : b.testBit n = false := by rw [h2]; simp
      rw [pc_eq (a := a) (b := b) n (fun i hi => by rw [h2]; simp; omega), (tb_iff _ _).mp h1, (tb_n _ _).mp hb]
    · have hb : b.testBit n = a.testBit n := by rw [h2]; simp [e]
      rw [ih (by omega)]
      cases ha : a.testBit n
      · rw [ha] at hb; rw [(tb_n _ _).mp ha, (tb_n _ _).mp hb]
      · rw [ha] at hb; rw [(tb_iff _ _).mp ha, (tb_iff _ _).mp hb]
theorem pc_or {a b : Nat} : ∀ n, (∀ i, i < n → ¬ (a.testBit i = true ∧ b.testBit i = true)) → pc (a ||| b) n = pc a n + pc b n := by
  intro n
  induction n with
  | zero => intro _; rfl
  | succ n ih =>
    intro h
    simp only [pc]
    rw [ih (fun i hi => h i (by omega))]
    have h1 := h n (by omega)
    have h2 : (a ||| b).testBit n = (a.testBit n || b.testBit n) := Nat.testBit_or _ _ _
    cases ha : a.testBit n <;> cases hb : b.testBit n <;> rw [ha, hb] at h2
    · rw [(tb_n _ _).mp ha, (tb_n _ _).mp hb, (tb_n _ _).mp h2]; omega
    · rw [(tb_n _ _).mp ha, (tb_iff _ _).mp hb, (tb_iff _ _).mp h2]; omega
    · rw [(tb_iff _ _).mp ha, (tb_n _ _).mp hb, (tb_iff _ _).mp h2]; omega
    · exact absurd ⟨ha, hb⟩ h1
