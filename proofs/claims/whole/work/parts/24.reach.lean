/-! ===== the reference's reached ===== -/
def am3 (A : AS) (op wd : Nat) (wo : Int32) : Nat → Bool := fun p => op.testBit p && (decide (nI p ≠ wo) && decide (wd ≤ A 4 p))
theorem pow2_or {a b : Nat} : ∀ d, (2 ^ a ||| 2 ^ b).testBit d = true ↔ (d = a ∨ d = b) := fun d => by
  rw [Nat.testBit_or, Nat.testBit_two_pow, Nat.testBit_two_pow, Bool.or_eq_true, decide_eq_true_iff, decide_eq_true_iff]
  omega
theorem and_ne {S a b : Nat} : (S &&& (2 ^ a ||| 2 ^ b) = 0) ↔ (S.testBit a = false ∧ S.testBit b = false) := by
  constructor
  · intro h
    have e : ∀ d, (S &&& (2 ^ a ||| 2 ^ b)).testBit d = false := fun d => by rw [h]; simp
    constructor
    · have := e a
      rw [Nat.testBit_and, (pow2_or a).mpr (Or.inl rfl), Bool.and_true] at this
      exact this
    · have := e b
      rw [Nat.testBit_and, (pow2_or b).mpr (Or.inr rfl), Bool.and_true] at this
      exact this
  · rintro ⟨h1, h2⟩
    apply Nat.eq_of_testBit_eq
    intro d
    rw [Nat.testBit_and, Nat.zero_testBit]
    cases hb : (2 ^ a ||| 2 ^ b).testBit d
    · rw [Bool.and_false]
    · rcases (pow2_or d).mp hb with rfl | rfl
      · rw [h1]; rfl
      · rw [h2]; rfl
section RE
variable {A : AS} {N c op wd : Nat} {wo : Int32}
theorem am3_t {p : Nat} (h : am3 A op wd wo p = true) : op.testBit p = true ∧ nI p ≠ wo ∧ wd ≤ A 4 p := by
  unfold am3 at h
  rw [Bool.and_eq_true, Bool.and_eq_true, decide_eq_true_iff, decide_eq_true_iff] at h
  exact ⟨h.1, h.2.1, h.2.2⟩
/-- a set on the way: c in it, all of it hangs together with c -/
def RS (A : AS) (act : Nat → Bool) (c S : Nat) : Prop := S < 65536 ∧ S.testBit c = true ∧ ∀ d, S.testBit d = true → ∃ g, rc A act c g d
theorem RS.add {act : Nat → Bool} {S p : Nat} (w : WFt A) (hp : p < A 0 1) (ha : act p = true) (h : RS A act c S) (ht : ¬ (S.testBit (A 2 p) = false ∧ S.testBit (A 3 p) = false)) : RS A act c (S ||| (2 ^ A 2 p ||| 2 ^ A 3 p)) := by
  obtain ⟨w1, w2, w3, -⟩ := w.2 p hp
  have p1 : 2 ^ A 2 p < 2 ^ 16 := Nat.pow_lt_pow_right (by decide) w1
  have p2 : 2 ^ A 3 p < 2 ^ 16 := Nat.pow_lt_pow_right (by decide) w2
  obtain ⟨h1, h2, h3⟩ := h
  have a1 : ad A act (A 2 p) (A 3 p) := ⟨p, hp, ha, by simp [ac]⟩
  have a2 : ad A act (A 3 p) (A 2 p) := ad_sym w a1
  have both : (∃ g, rc A act c g (A 2 p)) ∧ ∃ g, rc A act c g (A 3 p) := by
    cases hb : S.testBit (A 2 p)
    · cases hb2 : S.testBit (A 3 p)
      · exact absurd ⟨hb, hb2⟩ ht
      · obtain ⟨g, hg⟩ := h3 _ hb2
        exact ⟨⟨g + 1, Or.inr ⟨_, hg, a2⟩⟩, ⟨g, hg⟩⟩
    · obtain ⟨g, hg⟩ := h3 _ hb
      exact ⟨⟨g, hg⟩, ⟨g + 1, Or.inr ⟨_, hg, a1⟩⟩⟩
  refine ⟨Nat.or_lt_two_pow (n := 16) h1 (Nat.or_lt_two_pow p1 p2), by rw [Nat.testBit_or, h2]; rfl, fun d hd => ?_⟩
  rw [Nat.testBit_or, Bool.or_eq_true, pow2_or] at hd
  rcases hd with hd | hd | hd
  · exact h3 d hd
  · rw [hd]; exact both.1
  · rw [hd]; exact both.2
theorem reach_in {S0 : Nat} {h : HP} {K : Int32 → Int32 → Int32 → Int32 → HP → Option (Int32 × HP)} {P : Option (Int32 × HP) → Prop} (w : WFt A) (hn : A 0 1 ≤ 24) (t : TM A h) (s : ∀ p, p < A 0 1 → h.1 1 (48 + p) = nI (op / 2 ^ p % 2)) (hwd : wd < 1000) (hS0 : S0 < 65536)
    (hK : ∀ S, RS A (am3 A op wd wo) c S → (∀ d, S0.testBit d = true → S.testBit d = true) → (S = S0 → ∀ p, p < A 0 1 → am3 A op wd wo p = true → S0.testBit (A 2 p) = S0.testBit (A 3 p)) → P (K (nI wd) wo (nI S) (nI S0) h)) :
    ∀ n i S, i ≤ A 0 1 → A 0 1 - i < n → RS A (am3 A op wd wo) c S → (∀ d, S0.testBit d = true → S.testBit d = true) → (S = S0 → ∀ p, p < i → am3 A op wd wo p = true → S0.testBit (A 2 p) = S0.testBit (A 3 p)) → P (xX11_reached_22 N K n (nI wd) wo (nI S) (nI S0) (nI i) h) := by
  intro n
  induction n with
  | zero => intro i S _ q; omega
  | succ n ih =>
    intro i S hi hq hr hsub hcl
    rw [xX11_reached_22]
    dsimp only
    rw [t.2.1]
    by_cases e : i = A 0 1
    · rw [if_pos (by rw [e, le_nn (by omega) (by omega)]; omega)]
      exact hK S hr hsub (fun z p hp => hcl z p (by omega))
    · have hp : i < A 0 1 := by omega
      obtain ⟨w1, w2, w3, -, -, -, w4⟩ := w.2 i hp
      obtain ⟨t1, t2, t3⟩ := t.2.2.2 i hp
      unfold xX11_reached_96
      rw [if_neg (by rw [le_nn (by omega) (by omega)]; omega), isOpen_e hn t s (by omega), cl_s, decide_eq_true hp, Bool.true_and]
      simp only [lt_e, nI_1]
      have skip : am3 A op wd wo i = false → P (xX11_reached_22 N K n (nI wd) wo (nI S) (nI S0) (nI (i + 1)) h) := fun z => ih (i + 1) S (by omega) (by omega) hr hsub (fun z2 p hp2 ha => by
        by_cases q : p = i
        · subst q; rw [z] at ha; cases ha
        · exact hcl z2 p (by omega) ha)
      cases hb : op.testBit i
      · rw [b2_f, if_pos rfl]
        exact skip (by simp [am3, hb])
      · rw [b2_t, if_neg (by decide)]
        by_cases q1 : nI i = wo
        · rw [if_pos q1]
          exact skip (by simp [am3, q1])
        · rw [if_neg q1, ald_n (by omega) (by decide), t3]
          by_cases q2 : wd ≤ A 4 i
          · rw [if_pos (by rw [le_nn (by omega) (by omega)]; exact q2), ald_n (by omega) (by decide), ald_n (by omega) (by decide), t1, t2, shl1 (by omega), shl1 (by omega), or_nn, and_nn]
            have ha : am3 A op wd wo i = true := by simp [am3, hb, q1, q2]
            have hlt : S &&& (2 ^ A 2 i ||| 2 ^ A 3 i) < 65536 := Nat.lt_of_le_of_lt Nat.and_le_left hr.1
            by_cases q3 : S &&& (2 ^ A 2 i ||| 2 ^ A 3 i) = 0
            · rw [if_pos (by rw [q3]; rfl)]
              have q4 := and_ne.mp q3
              refine ih (i + 1) S (by omega) (by omega) hr hsub (fun z2 p hp2 ha2 => ?_)
              by_cases q : p = i
              · subst q; rw [← z2, q4.1, q4.2]
              · exact hcl z2 p (by omega) ha2
            · rw [if_neg (by rw [l0, eq_nn (by omega) (by decide)]; exact q3), or_nn]
              have q4 : ¬ (S.testBit (A 2 i) = false ∧ S.testBit (A 3 i) = false) := fun z => q3 (and_ne.mpr z)
              refine ih (i + 1) _ (by omega) (by omega) (hr.add w hp ha q4) (fun d hd => by rw [Nat.testBit_or, hsub d hd]; rfl) (fun z2 p hp2 ha2 => ?_)
              have t4 : S0.testBit (A 2 i) = true ∧ S0.testBit (A 3 i) = true := by
                rw [← z2]
                constructor
                · rw [Nat.testBit_or, (pow2_or _).mpr (Or.inl rfl), Bool.or_true]
                · rw [Nat.testBit_or, (pow2_or _).mpr (Or.inr rfl), Bool.or_true]
              have hSS : S = S0 := by
                apply Nat.eq_of_testBit_eq
                intro d
                cases hd : S0.testBit d
                · rw [← z2, Nat.testBit_or, Bool.or_eq_false_iff] at hd
                  exact hd.1
                · exact hsub d hd
              by_cases q : p = i
              · subst q; rw [t4.1, t4.2]
              · exact hcl hSS p (by omega) ha2
          · rw [if_neg (by rw [le_nn (by omega) (by omega)]; exact q2)]
            exact skip (by simp [am3, q2])
theorem pc_sub {a b : Nat} : ∀ n, (∀ i, i < n → a.testBit i = true → b.testBit i = true) → pc a n ≤ pc b n ∧ (pc a n = pc b n → ∀ i, i < n → a.testBit i = b.testBit i) := by
  intro n
  induction n with
  | zero => intro _; exact ⟨Nat.le_refl _, fun _ i hi => by omega⟩
  | succ n ih =>
    intro h
    obtain ⟨i1, i2⟩ := ih (fun i hi => h i (by omega))
    have hn := h n (by omega)
    simp only [pc]
    cases ha : a.testBit n
    · cases hb : b.testBit n
      · rw [(tb_n _ _).mp ha, (tb_n _ _).mp hb]
        refine ⟨by omega, fun e i hi => ?_⟩
        by_cases q : i = n
        · rw [q, ha, hb]
        · exact i2 (by omega) i (by omega)
      · rw [(tb_n _ _).mp ha, (tb_iff _ _).mp hb]
        exact ⟨by omega, fun e => by omega⟩
    · have hb := hn ha
      rw [(tb_iff _ _).mp ha, (tb_iff _ _).mp hb]
      refine ⟨by omega, fun e i hi => ?_⟩
      by_cases q : i = n
      · rw [q, ha, hb]
      · exact i2 (by omega) i (by omega)
theorem big_f {a i : Nat} (ha : a < 65536) (hi : 16 ≤ i) : a.testBit i = false := Nat.testBit_lt_two_pow (Nat.lt_of_lt_of_le (show a < 2 ^ 16 from ha) (Nat.pow_le_pow_right (by decide) hi))
theorem reach_l {h : HP} (hN : 100 ≤ N) (w : WFt A) (hn : A 0 1 ≤ 24) (t : TM A h) (s : ∀ p, p < A 0 1 → h.1 1 (48 + p) = nI (op / 2 ^ p % 2)) (hwd : wd < 1000) : ∀ n S B, (S = B → ∀ p, p < A 0 1 → am3 A op wd wo p = true → S.testBit (A 2 p) = S.testBit (A 3 p)) → B < 65536 → RS A (am3 A op wd wo) c S → (∀ d, B.testBit d = true → S.testBit d = true) → (if S = B then 1 else 18 - pc S 16) ≤ n → ∃ S', xX11_reached_8 N n (nI wd) wo (nI S) (nI B) h = some (nI S', h) ∧ isCp A (am3 A op wd wo) c S' := by
  intro n
  induction n with
  | zero => intro S B _ _ _ _ q; have := pc_le S 16; split at q <;> omega
  | succ n ih =>
    intro S B hcl hB hr hsub hq
    rw [xX11_reached_8]
    dsimp only
    have hp := pc_le S 16
    by_cases e : S = B
    · rw [if_pos (by rw [e])]
      exact ⟨S, rfl, isCp.of hr.1 hr.2.1 (hcl e) hr.2.2⟩
    · have := hr.1
      rw [if_neg (by rw [eq_nn (by omega) (by omega)]; exact e)]
      rw [if_neg e] at hq
      refine reach_in (N := N) (c := c) (P := fun d => ∃ S', d = some (nI S', h) ∧ isCp A (am3 A op wd wo) c S') w hn t s hwd hr.1 (fun S2 r2 sub2 cl2 => ?_) N 0 S (by omega) (by omega) hr (fun _ z => z) (fun _ p hp => by omega)
      refine ih S2 S (fun z => by subst z; exact cl2 rfl) hr.1 r2 sub2 ?_
      by_cases e2 : S2 = S
      · rw [if_pos e2]; omega
      · rw [if_neg e2]
        obtain ⟨p1, p2⟩ := pc_sub (a := S) (b := S2) 16 (fun i _ => sub2 i)
        have : pc S 16 ≠ pc S2 16 := fun z => e2 (by
          apply Nat.eq_of_testBit_eq
          intro i
          rcases Nat.lt_or_ge i 16 with q | q
          · exact (p2 z i q).symm
          · rw [big_f r2.1 q, big_f hr.1 q])
        omega
theorem reached_e {h : HP} (hN : 100 ≤ N) (w : WFt A) (hn : A 0 1 ≤ 24) (t : TM A h) (s : ∀ p, p < A 0 1 → h.1 1 (48 + p) = nI (op / 2 ^ p % 2)) (hwd : wd < 1000) (hc : c < 16) (wo : Int32) : ∃ S, xX11_reached N (nI c) (nI wd) wo h = some (nI S, h) ∧ isCp A (am3 A op wd wo) c S := by
  unfold xX11_reached
  rw [lt_e, shl1 (by omega)]
  have h1 : 2 ^ c < 65536 := Nat.pow_lt_pow_right (by decide) hc
  have h2 := Nat.two_pow_pos c
  have ht : ∀ d, (2 ^ c).testBit d = true ↔ d = c := fun d => by
    rw [Nat.testBit_two_pow]
    simp
    exact ⟨fun z => z.symm, fun z => z.symm⟩
  exact reach_l (N := N) (c := c) hN w hn t s hwd N (2 ^ c) 0 (fun z => by omega) (by decide) ⟨h1, (ht c).mpr rfl, fun d hd => ⟨0, (ht d).mp hd⟩⟩ (fun d hd => by simp at hd) (by rw [if_neg (by omega)]; omega)
end RE
/-- the same pipes, told otherwise -/
theorem rc_act {A : AS} {a1 a2 : Nat → Bool} {c : Nat} (h : ∀ p, p < A 0 1 → a1 p = a2 p) : ∀ g d, rc A a1 c g d ↔ rc A a2 c g d := by
  have hadj : ∀ x y, ad A a1 x y ↔ ad A a2 x y := fun x y => ⟨fun ⟨p, q1, q2, q3⟩ => ⟨p, q1, by rw [← h p q1]; exact q2, q3⟩, fun ⟨p, q1, q2, q3⟩ => ⟨p, q1, by rw [h p q1]; exact q2, q3⟩⟩
  intro g
  induction g with
  | zero => intro d; exact Iff.rfl
  | succ g ih =>
    intro d
    simp only [rc, ih, hadj]
theorem isCp_act {A : AS} {a1 a2 : Nat → Bool} {c S : Nat} (h : ∀ p, p < A 0 1 → a1 p = a2 p) (q : isCp A a1 c S) : isCp A a2 c S := ⟨q.1, fun d => by rw [q.2 d]; simp only [rc_act h]⟩
theorem isDs_act {A : AS} {a1 a2 : Nat → Bool} {c d : Nat} {v : Int32} (h : ∀ p, p < A 0 1 → a1 p = a2 p) (q : isDs A a1 c d v) : isDs A a2 c d v := by
  unfold isDs at q ⊢
  simp only [rc_act h] at q
  exact q
