section LDM
variable {T : Nat → Nat} {n0 N : Nat}
def mp (op : Nat) (q : Option Nat) : List (Nat × Nat) := match q with
  | none => []
  | some j => [(op, j)]
/-- codes when what waits at P lands at t -/
def ldO (q : Option Nat) (t : Nat) (C : Nat → Nat × Nat) (k : Nat) : Nat × Nat := if q = some k then ((C k).1, t) else C k
def ldL (L : List Nat) (t : Nat) (C : Nat → Nat × Nat) (k : Nat) : Nat × Nat := if k ∈ L then ((C k).1, t) else C k
/-- one row of the reference's lands -/
theorem lan_q {h : HP} {f p ℓ o op a0 : Nat} {a : Int32} {q : Option Nat} {W : List (Nat × Nat)} {C : Nat → Nat × Nat} (hop : op = 11 ∨ (op = 12 ∧ a ≠ 0)) (w : WS (mp op q ++ W) h) (t : TcM T n0 p h) (e15 : h.1 0 15 = nI o) (e16 : h.1 0 16 = nI ℓ) (hℓ : ℓ < 250) (hq : ∀ j, q = some j → a0 ≤ j ∧ j < ℓ ∧ (C j).1 = op) (cm : CMh 9 C a0 ℓ h) : ∃ f' h', xX11_lands_0 N (f + 1) a h = xX11_lands_0 N f' a h' ∧ f ≤ f' ∧ f' ≤ f + 1 ∧ WS W h' ∧ TcM T n0 p h' ∧ h'.1 0 15 = nI o ∧ h'.1 0 16 = nI ℓ ∧ CMh 9 (ldO q ℓ C) a0 ℓ h' ∧ gL a0 h h' := by
  cases q with
  | none =>
    refine ⟨f + 1, h, rfl, by omega, by omega, w, t, e15, e16, fun k k1 k2 => ?_, gL.rf _ _⟩
    unfold ldO
    rw [if_neg (by intro z; cases z)]
    exact cm k k1 k2
  | some j =>
    obtain ⟨j1, j2, j3⟩ := hq j rfl
    obtain ⟨⟨ok1, ok2, ok3⟩, cj⟩ := cm j j1 j2
    obtain ⟨h', d1, d2, d3, d4, d5, d6, d7, d8, d9⟩ := lan_1 (N := N) (f := f) (v := (C j).2) (a := a) w t e15 e16 hℓ j2 hop (by rw [cj, j3]) ok2
    refine ⟨f, h', d1, by omega, by omega, d2, d3, d4, d5, fun k k1 k2 => ?_, ⟨fun k q1 q2 _ => d8 k q1 q2, fun i hi => d9 i (by omega), fun k hk => d7 k (by omega)⟩⟩
    unfold ldO
    by_cases z : k = j
    · subst z
      rw [if_pos rfl, d6, j3]
      exact ⟨⟨by show op ≤ 12; omega, by show ℓ < 100000; omega, fun y => by have y : op = 1 := y; omega⟩, rfl⟩
    · rw [if_neg (fun y => z (Option.some.inj y).symm), d7 k z]
      exact cm k k1 k2
theorem lands_A {h : HP} {p ℓ o a0 : Nat} {qa qo : Option Nat} {W : List (Nat × Nat)} {C : Nat → Nat × Nat} (hN : 300 ≤ N) (w : WS (mp 11 qa ++ (mp 12 qo ++ ((13, 0) :: W))) h) (t : TcM T n0 p h) (e15 : h.1 0 15 = nI o) (e16 : h.1 0 16 = nI ℓ) (hℓ : ℓ < 250) (hqa : ∀ j, qa = some j → a0 ≤ j ∧ j < ℓ ∧ (C j).1 = 11) (cm : CMh 9 C a0 ℓ h) : ∃ h', xX11_lands N 0 h = some (0, h') ∧ WS (mp 12 qo ++ ((13, 0) :: W)) h' ∧ TcM T n0 p h' ∧ h'.1 0 15 = nI o ∧ h'.1 0 16 = nI ℓ ∧ CMh 9 (ldO qa ℓ C) a0 ℓ h' ∧ gL a0 h h' := by
  obtain ⟨f, rfl⟩ : ∃ f, N = f + 1 := ⟨N - 1, by omega⟩
  unfold xX11_lands
  obtain ⟨f', h', d1, d2, d3, d4, d5, d6, d7, d8, d9⟩ := lan_q (N := f + 1) (f := f) (a := 0) (Or.inl rfl) w t e15 e16 hℓ hqa cm
  obtain ⟨f'', rfl⟩ : ∃ j, f' = j + 1 := ⟨f' - 1, by omega⟩
  refine ⟨h', ?_, d4, d5, d6, d7, d8, d9⟩
  rw [d1]
  cases qo with
  | none => exact lan_0 (e := (13, 0)) d4 ⟨by decide, Or.inl rfl⟩
  | some j => exact lan_0 (e := (12, j)) d4 ⟨by show (12 : Nat) ≠ 11; decide, Or.inl rfl⟩
theorem lands_B {h : HP} {p ℓ o a0 : Nat} {qa qo : Option Nat} {W : List (Nat × Nat)} {C : Nat → Nat × Nat} (hN : 300 ≤ N) (w : WS (mp 11 qa ++ (mp 12 qo ++ ((13, 0) :: W))) h) (t : TcM T n0 p h) (e15 : h.1 0 15 = nI o) (e16 : h.1 0 16 = nI ℓ) (hℓ : ℓ < 250) (hqa : ∀ j, qa = some j → a0 ≤ j ∧ j < ℓ ∧ (C j).1 = 11) (hqo : ∀ j, qo = some j → a0 ≤ j ∧ j < ℓ ∧ (C j).1 = 12) (cm : CMh 9 C a0 ℓ h) : ∃ h', xX11_lands N 1 h = some (0, h') ∧ WS ((13, 0) :: W) h' ∧ TcM T n0 p h' ∧ h'.1 0 15 = nI o ∧ h'.1 0 16 = nI ℓ ∧ CMh 9 (ldO qo ℓ (ldO qa ℓ C)) a0 ℓ h' ∧ gL a0 h h' := by
  obtain ⟨f, rfl⟩ : ∃ f, N = f + 1 := ⟨N - 1, by omega⟩
  unfold xX11_lands
  obtain ⟨f', h', d1, d2, d3, d4, d5, d6, d7, d8, d9⟩ := lan_q (N := f + 1) (f := f) (a := 1) (Or.inl rfl) w t e15 e16 hℓ hqa cm
  obtain ⟨f2, rfl⟩ : ∃ j, f' = j + 1 := ⟨f' - 1, by omega⟩
  obtain ⟨f3, h2, c1, c2, c3, c4, c5, c6, c7, c8, c9⟩ := lan_q (N := f + 1) (f := f2) (a := 1) (Or.inr ⟨rfl, by decide⟩) d4 d5 d6 d7 hℓ (C := ldO qa ℓ C) (fun j hj => by
    obtain ⟨a, b, c⟩ := hqo j hj
    refine ⟨a, b, ?_⟩
    unfold ldO
    split
    · exact c
    · exact c) d8
  obtain ⟨f4, rfl⟩ : ∃ j, f3 = j + 1 := ⟨f3 - 1, by omega⟩
  refine ⟨h2, ?_, c4, c5, c6, c7, c8, d9.tr (Nat.le_refl _) c9⟩
  rw [d1, c1]
  exact lan_0 (e := (13, 0)) c4 ⟨by decide, Or.inr (by decide)⟩
/-- the class's codes, but for what waits -/
def CXq (P : Nat → Prop) (C : Nat → Nat × Nat) (a b : Nat) (h : HP) : Prop := ∀ k, a ≤ k → k < b → okI (C k) ∧ h.1 21 k = nI (sgn (C k).1) ∧ (¬ P k → h.1 22 k = vlX (C k))
theorem land_q {h : HP} {ℓ a0 p : Nat} {L : List Nat} {x : Int32} {P : Nat → Prop} {C : Nat → Nat × Nat} (hN : 300 ≤ N) (s : lnk h L x) (hL : L.length ≤ 240) (hl : h.1 20 6 = nI ℓ) (hℓ : ℓ ≤ 240) (t : TcX T n0 p h) (c : CXq P C a0 ℓ h) (hC : ∀ j, j ∈ L → a0 ≤ j ∧ j < ℓ ∧ ((C j).1 = 11 ∨ (C j).1 = 12)) : ∃ h', xX2_land N x h = some (0, h') ∧ TcX T n0 p h' ∧ h'.1 20 6 = nI ℓ ∧ CXq (fun k => P k ∧ k ∉ L) (ldL L ℓ C) a0 ℓ h' ∧ fL a0 h h' ∧ ∀ j, j ∉ L → h'.1 22 j = h.1 22 j := by
  unfold xX2_land
  obtain ⟨h', e1, e2, e3, e4⟩ := land_l (N := N) (ℓ := ℓ) L N 0 x h s (by omega) (by omega) hl
  refine ⟨h', e1, ⟨t.1, by rw [e2 1 (by decide)]; exact t.2.1, by rw [e2 1 (by decide)]; exact t.2.2.1, fun i hi => by rw [e2 2 (by decide)]; exact t.2.2.2 i hi⟩, by rw [e2 20 (by decide)]; exact hl, fun k k1 k2 => ?_, ⟨fun k _ _ _ q => e2 k q, fun j _ _ => by rw [e2 1 (by decide)], fun j _ => by rw [e2 20 (by decide)], fun k hk => ⟨by rw [e2 21 (by decide)], e4 k (fun z => by have := (hC k z).1; omega)⟩⟩, e4⟩
  obtain ⟨a, b, d⟩ := c k k1 k2
  unfold ldL
  by_cases z : k ∈ L
  · rw [if_pos z]
    have o := (hC k z).2.2
    refine ⟨⟨a.1, by show ℓ < 100000; omega, fun y => by have y : (C k).1 = 1 := y; omega⟩, by rw [e2 21 (by decide)]; exact b, fun _ => ?_⟩
    rw [e3 k z, vlX_n (i := ((C k).1, ℓ)) (by show (C k).1 ≠ 1; omega)]
  · rw [if_neg z]
    exact ⟨a, by rw [e2 21 (by decide)]; exact b, fun y => by rw [e4 k z]; exact d (fun w => y ⟨w, z⟩)⟩
end LDM
