/-! ===== corners of a group can be paired for at most fifteen steps ===== -/
section TK
variable {A : AS} {act : Nat → Bool}
theorem rc_sym (w : WFt A) : ∀ g a b, rc A act a g b → rc A act b g a := by
  intro g
  induction g with
  | zero => intro a b h; have h2 : b = a := h; exact h2.symm
  | succ g ih =>
    rintro a b (h | ⟨x, h1, h2⟩)
    · exact Or.inl (ih a b h)
    · have h3 := ih a x h1
      have h4 : rc A act b 1 x := Or.inr ⟨b, rfl, ad_sym w h2⟩
      have := rc_tr h4 g a h3
      rw [Nat.add_comm] at this
      exact this
theorem dn_sym (w : WFt A) (a b : Nat) : dn A act a b = dn A act b a := by
  by_cases q : cn A act a b
  · obtain ⟨g, h1, h2⟩ := pk_least (fun g => rc A act a g b) q
    rw [dn_of h1 (fun j hj => h2 j hj), dn_of (rc_sym w g a b h1) (fun j hj z => h2 j hj (rc_sym w j b a z))]
  · rw [dn_no q, dn_no (fun ⟨g, z⟩ => q ⟨g, rc_sym w g b a z⟩)]
theorem dn_get {a b : Nat} (h : cn A act a b) : rc A act a (dn A act a b) b ∧ ∀ g, rc A act a g b → dn A act a b ≤ g := by
  obtain ⟨g, h1, h2⟩ := pk_least (fun g => rc A act a g b) h
  rw [dn_of h1 (fun j hj => h2 j hj)]
  refine ⟨h1, fun j hj => ?_⟩
  rcases Nat.lt_or_ge j g with q | q
  · exact absurd hj (h2 j q)
  · exact q
theorem pc_rmv {S i j T : Nat} (hi : i < 16) (hj : j < 16) (hij : i ≠ j) (h1 : S.testBit i = true) (h2 : S.testBit j = true) (h : rmv S i j T) : pc S 16 = pc T 16 + 2 := by
  obtain ⟨W, hW⟩ := rmv.ex (S := S) (i := i) (j := i)
  have e1 := pc_off (a := S) (b := W) (k := i) h1 (fun b => by rw [hW b, Bool.and_self]) 16 hi
  have e2 := pc_off (a := W) (b := T) (k := j) (hW.mk h2 (fun z => hij z.symm) (fun z => hij z.symm)) (fun b => by
    rw [hW b, h b, Bool.and_self]
    cases S.testBit b <;> cases decide (b ≠ i) <;> cases decide (b ≠ j) <;> rfl) 16 hj
  omega
theorem token {c C : Nat} (w : WFt A) (hc : c < 16) (cp : isCp A act c C) : ∀ n U, (∀ v, U.testBit v = true → C.testBit v = true ∧ 16 * dn A act c v + v < n) → pc U 16 % 2 = 0 → ∃ k x K, pr (dn A act) k U x ∧ (∀ v, K.testBit v = true ↔ (v < 16 ∧ (C.testBit v = true ∧ v ≠ c ∧ 16 * dn A act c v + v < n))) ∧ x ≤ pc K 16 := by
  intro n
  induction n with
  | zero =>
    intro U hU _
    have u0 : U = 0 := Nat.eq_of_testBit_eq (fun b => by
      rw [Nat.zero_testBit]
      cases hb : U.testBit b
      · rfl
      · have := (hU b hb).2; omega)
    obtain ⟨K, -, hK⟩ := bits_ex (fun v => C.testBit v = true ∧ v ≠ c ∧ 16 * dn A act c v + v < 0) 16
    exact ⟨0, 0, K, ⟨u0, rfl⟩, hK, Nat.zero_le _⟩
  | succ n ih =>
    intro U hU hev
    obtain ⟨K', -, hK'⟩ := bits_ex (fun v => C.testBit v = true ∧ v ≠ c ∧ 16 * dn A act c v + v < n + 1) 16
    by_cases hv : ∃ v, U.testBit v = true ∧ 16 * dn A act c v + v = n
    · obtain ⟨v, v1, v2⟩ := hv
      have vC := (hU v v1).1
      have v16 := tb16 cp.1 vC
      have vcn : cn A act c v := (cp.2 v).mp vC
      obtain ⟨r1, r2⟩ := dn_get vcn
      -- who else has this key
      have only : ∀ u, U.testBit u = true → u ≠ v → 16 * dn A act c u + u < n := fun u hu hne => by
        have a1 := (hU u hu).2
        have u16 := tb16 cp.1 (hU u hu).1
        rcases Nat.lt_or_ge (16 * dn A act c u + u) n with q | q
        · exact q
        · exfalso; omega
      cases hg : dn A act c v with
      | zero =>
        exfalso
        rw [hg] at r1 v2
        have vc : v = c := r1
        obtain ⟨W, hW⟩ := rmv.ex (S := U) (i := v) (j := v)
        have e1 := pc_off (a := U) (b := W) (k := v) v1 (fun b => by rw [hW b, Bool.and_self]) 16 v16
        have w0 : W = 0 := Nat.eq_of_testBit_eq (fun b => by
          rw [Nat.zero_testBit]
          cases hb : W.testBit b
          · rfl
          · exfalso
            obtain ⟨q1, q2, -⟩ := hW.in hb
            have q3 := only b q1 q2
            have q4 := (dn_get ((cp.2 b).mp (hU b q1).1)).1
            rw [show dn A act c b = 0 by omega] at q4
            have q5 : b = c := q4
            omega)
        rw [w0, pc_zero] at e1
        omega
      | succ g =>
        rw [hg] at r1
        obtain ⟨p, p1, p2⟩ : ∃ p, rc A act c g p ∧ ad A act p v := by
          rcases r1 with z | z
          · have := r2 g z; omega
          · exact z
        have p16 := rc_lt w hc g p p1
        have pC : C.testBit p = true := (cp.2 p).mpr ⟨g, p1⟩
        have pd : dn A act c p ≤ g := (dn_get ⟨g, p1⟩).2 g p1
        have pk : 16 * dn A act c p + p < n := by omega
        have pv : p ≠ v := fun z => by subst z; omega
        have vp1 : dn A act v p ≤ 1 := by
          have z : rc A act v 1 p := Or.inr ⟨v, rfl, ad_sym w p2⟩
          exact (dn_get ⟨1, z⟩).2 1 z
        have vc : v ≠ c := fun z => by
          have := r2 0 z
          omega
        -- one corner more
        have more : ∀ K, (∀ v, K.testBit v = true ↔ (v < 16 ∧ (C.testBit v = true ∧ v ≠ c ∧ 16 * dn A act c v + v < n))) → pc K' 16 = pc K 16 + 1 := by
          intro K hK
          apply pc_off (k := v) ((hK' v).mpr ⟨v16, vC, vc, by omega⟩) _ 16 v16
          intro b
          have e : ∀ x : Bool, ∀ y : Bool, (x = true ↔ y = true) → x = y := fun x y q => by cases x <;> cases y <;> simp_all
          apply e
          rw [hK, Bool.and_eq_true, hK', decide_eq_true_iff]
          constructor
          · rintro ⟨z1, z2, z3, z4⟩
            exact ⟨⟨z1, z2, z3, by omega⟩, fun z => by subst z; omega⟩
          · rintro ⟨⟨z1, z2, z3, z4⟩, z5⟩
            refine ⟨z1, z2, z3, ?_⟩
            rcases Nat.lt_or_ge (16 * dn A act c b + b) n with q | q
            · exact q
            · exfalso; omega
        by_cases hp : U.testBit p = true
        · obtain ⟨T, hT⟩ := rmv.ex (S := U) (i := v) (j := p)
          have e1 := pc_rmv v16 p16 (fun z => pv z.symm) v1 hp hT
          obtain ⟨k, x, K, k1, k2, k3⟩ := ih T (fun u hu => by
            obtain ⟨q1, q2, -⟩ := hT.in hu
            exact ⟨(hU u q1).1, only u q1 q2⟩) (by omega)
          have := more K k2
          exact ⟨k + 1, dn A act v p + x, K', ⟨v, p, T, x, fun z => pv z.symm, v1, hp, hT, k1, rfl⟩, hK', by omega⟩
        · obtain ⟨U', -, hU'⟩ := bits_ex (fun b => (U.testBit b = true ∧ b ≠ v) ∨ b = p) 16
          obtain ⟨W, hW⟩ := rmv.ex (S := U) (i := v) (j := v)
          have e : ∀ x : Bool, ∀ y : Bool, (x = true ↔ y = true) → x = y := fun x y q => by cases x <;> cases y <;> simp_all
          have e1 := pc_off (a := U) (b := W) (k := v) v1 (fun b => by rw [hW b, Bool.and_self]) 16 v16
          have e2 := pc_off (a := U') (b := W) (k := p) ((hU' p).mpr ⟨p16, Or.inr rfl⟩) (fun b => by
            apply e
            rw [Bool.and_eq_true, hU', decide_eq_true_iff]
            constructor
            · intro z
              obtain ⟨q1, q2, -⟩ := hW.in z
              exact ⟨⟨tb16 cp.1 (hU b q1).1, Or.inl ⟨q1, q2⟩⟩, fun y => by rw [y] at q1; exact hp q1⟩
            · rintro ⟨⟨-, z⟩, z2⟩
              rcases z with ⟨q1, q2⟩ | q1
              · exact hW.mk q1 q2 q2
              · exact absurd q1 z2) 16 p16
          obtain ⟨k, x, K, k1, k2, k3⟩ := ih U' (fun u hu => by
            obtain ⟨-, z⟩ := (hU' u).mp hu
            rcases z with ⟨q1, q2⟩ | q1
            · exact ⟨(hU u q1).1, only u q1 q2⟩
            · rw [q1]; exact ⟨pC, pk⟩) (by omega)
          obtain ⟨q, T, y, k', f1, f2, f3, f4, rfl⟩ := pick (dn_sym w) k U' x p k1 ((hU' p).mpr ⟨p16, Or.inr rfl⟩)
          have fq : U.testBit q = true ∧ q ≠ v := by
            obtain ⟨-, z⟩ := (hU' q).mp f2
            rcases z with z | z
            · exact z
            · exact absurd z.symm f1
          have tri : dn A act v q ≤ 1 + dn A act p q := by
            have cpq : cn A act p q := (cn.symm w ((cp.2 p).mp pC)).tr ((cp.2 q).mp (hU q fq.1).1)
            have z : rc A act v (1 + dn A act p q) q := rc_tr (show rc A act v 1 p from Or.inr ⟨v, rfl, ad_sym w p2⟩) _ q (dn_get cpq).1
            exact (dn_get ⟨_, z⟩).2 _ z
          have := more K k2
          refine ⟨k' + 1, dn A act v q + y, K', ⟨v, q, T, y, fun z => fq.2 z.symm, v1, fq.1, fun b => ?_, f4, rfl⟩, hK', by omega⟩
          rw [f3 b]
          apply e
          rw [Bool.and_eq_true, Bool.and_eq_true, Bool.and_eq_true, Bool.and_eq_true, hU', decide_eq_true_iff, decide_eq_true_iff, decide_eq_true_iff]
          constructor
          · rintro ⟨⟨-, z⟩, z2, z3⟩
            rcases z with ⟨q1, q2⟩ | q1
            · exact ⟨q1, q2, z3⟩
            · exact absurd q1 z2
          · rintro ⟨z1, z2, z3⟩
            exact ⟨⟨tb16 cp.1 (hU b z1).1, Or.inl ⟨z1, z2⟩⟩, fun y => by rw [y] at z1; exact hp z1, z3⟩
    · obtain ⟨k, x, K, k1, k2, k3⟩ := ih U (fun u hu => by
        obtain ⟨q1, q2⟩ := hU u hu
        refine ⟨q1, ?_⟩
        rcases Nat.lt_or_ge (16 * dn A act c u + u) n with q | q
        · exact q
        · exact absurd ⟨u, hu, by omega⟩ hv) hev
      refine ⟨k, x, K', k1, hK', Nat.le_trans k3 (pc_sub 16 (fun i hi hb => ?_)).1⟩
      obtain ⟨z1, z2, z3, z4⟩ := (k2 i).mp hb
      exact (hK' i).mpr ⟨z1, z2, z3, by omega⟩
theorem token15 {c C U : Nat} (w : WFt A) (hc : c < 16) (cp : isCp A act c C) (hU : ∀ v, U.testBit v = true → C.testBit v = true) (hev : pc U 16 % 2 = 0) : ∃ k x, pr (dn A act) k U x ∧ x ≤ 15 := by
  obtain ⟨k, x, K, k1, k2, k3⟩ := token w hc cp 2000 U (fun v hv => ⟨hU v hv, by
    have v16 := tb16 cp.1 (hU v hv)
    have := dn_cases (A := A) (act := act) (c := c) (d := v) w hc
    omega⟩) hev
  refine ⟨k, x, k1, ?_⟩
  obtain ⟨Q, -, hQ⟩ := bits_ex (fun b => K.testBit b = true ∨ b = c) 16
  have e := pc_off (a := Q) (b := K) (k := c) ((hQ c).mpr ⟨hc, Or.inr rfl⟩) (fun b => by
    have e : ∀ x : Bool, ∀ y : Bool, (x = true ↔ y = true) → x = y := fun x y q => by cases x <;> cases y <;> simp_all
    apply e
    rw [Bool.and_eq_true, hQ, decide_eq_true_iff]
    constructor
    · intro z
      have := (k2 b).mp z
      exact ⟨⟨this.1, Or.inl z⟩, this.2.2.1⟩
    · rintro ⟨⟨-, z⟩, z2⟩
      exact z.resolve_right z2) 16 hc
  have := pc_le Q 16
  omega
end TK
