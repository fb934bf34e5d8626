/-! ===== pipes at a corner ===== -/
def ac (A : AS) (p c : Nat) : Option Nat := if A 2 p = c then some (A 3 p) else if A 3 p = c then some (A 2 p) else none
def acI (A : AS) (p c : Nat) : Int32 := match ac A p c with | some d => nI d | none => -1
theorem ac_lt {A : AS} (w : WFt A) {p c d : Nat} (hp : p < A 0 1) (h : ac A p c = some d) : d < 16 := by
  have q := w.2 p hp
  unfold ac at h
  split at h
  · cases h; exact q.2.1
  · split at h
    · cases h; exact q.1
    · cases h
theorem acI_s {A : AS} {p c d : Nat} (h : ac A p c = some d) : acI A p c = nI d := by simp [acI, h]
theorem acI_n {A : AS} {p c : Nat} (h : ac A p c = none) : acI A p c = -1 := by simp [acI, h]
theorem across_e {A : AS} {h : HP} (w : WFt A) (hn : A 0 1 ≤ 24) (t : TX A h) {p c : Nat} (hp : p < A 0 1) (hc : c < 16) : xX6_across (nI p) (nI c) h = some (acI A p c, h) := by
  obtain ⟨-, -, -, t4⟩ := t
  obtain ⟨e1, e2, -⟩ := t4 p hp
  obtain ⟨w1, w2, -⟩ := w.2 p hp
  unfold xX6_across xX6_across_37 acI ac
  rw [ald_n (by omega) (by decide), ald_n (by omega) (by decide), e1, e2]
  by_cases q1 : A 2 p = c
  · rw [if_neg (by rw [q1]; simp), ald_n (by omega) (by decide), e2, if_pos q1]
  · rw [if_pos (by rw [ne_eq, eq_nn (by omega) (by omega)]; exact q1), if_neg q1]
    by_cases q2 : A 3 p = c
    · rw [if_neg (by rw [q2]; simp), ald_n (by omega) (by decide), e1, if_pos q2]
    · rw [if_pos (by rw [ne_eq, eq_nn (by omega) (by omega)]; exact q2), if_neg q2]
theorem isOpen_e {A : AS} {h : HP} {op : Nat} (hn : A 0 1 ≤ 24) (t : TM A h) (s : ∀ p, p < A 0 1 → h.1 1 (48 + p) = nI (op / 2 ^ p % 2)) {p : Nat} (hp : p < 2147483648) : xX11_isOpen (nI p) h = some (b2 (decide (p < A 0 1) && op.testBit p), h) := by
  obtain ⟨-, t2, -⟩ := t
  unfold xX11_isOpen xX11_isOpen_31 xX11_isOpen_32
  rw [inM_e, cl_s, t2]
  by_cases q : p < A 0 1
  · rw [if_neg (by
      rw [b2_0, decide_eq_false_iff_not]
      intro z
      apply z
      rw [l0, l1, sub_nn (by omega), lt_nn hp (by decide), lt_nn (by omega) hp]
      omega)]
    rw [l48, add_nn, ald_n (by omega) (by decide), s p q, decide_eq_true q, Bool.true_and, Nat.testBit_eq_decide_div_mod_eq]
    by_cases q2 : op / 2 ^ p % 2 = 1
    · rw [q2, if_neg (by decide), zok_1]; rfl
    · have q3 : op / 2 ^ p % 2 = 0 := by omega
      rw [q3, if_pos (by decide), zok_0]; rfl
  · rw [if_pos (by
      rw [b2_0, decide_eq_false_iff_not]
      intro z
      have z2 := z.2
      by_cases q0 : A 0 1 = 0
      · rw [q0, l1] at z2
        exact z2 (by rw [i_lt, i_n hp, show (nI 0 - nI 1).toInt = -1 from by decide]; omega)
      · rw [l1, sub_nn (by omega), lt_nn (by omega) hp] at z2
        omega), zok_0]
    simp [q, b2]
def byI (A : AS) (op p c : Nat) : Int32 := if op.testBit p = true then acI A p c else -1
theorem byI_f {A : AS} {op p c : Nat} (h : op.testBit p = false) : byI A op p c = -1 := by simp [byI, h]
theorem byI_t {A : AS} {op p c : Nat} (h : op.testBit p = true) : byI A op p c = acI A p c := by simp [byI, h]
theorem beyond_e {A : AS} {h : HP} {op : Nat} (w : WFt A) (hn : A 0 1 ≤ 24) (t : TM A h) (s : ∀ p, p < A 0 1 → h.1 1 (48 + p) = nI (op / 2 ^ p % 2)) {p c : Nat} (hp : p < A 0 1) (hc : c < 16) : xX11_beyond (nI p) (nI c) h = some (byI A op p c, h) := by
  have t0 := t
  obtain ⟨-, -, -, t4⟩ := t
  obtain ⟨e1, e2, -⟩ := t4 p hp
  obtain ⟨w1, w2, -⟩ := w.2 p hp
  unfold xX11_beyond xX11_beyond_49
  rw [isOpen_e hn t0 s (by omega), cl_s, decide_eq_true hp, Bool.true_and]
  cases hb : op.testBit p
  · rw [b2_f, if_neg (by decide), byI_f hb]
  · rw [b2_t, if_pos (by decide), byI_t hb]
    unfold acI ac
    rw [ald_n (by omega) (by decide), ald_n (by omega) (by decide), e1, e2]
    by_cases q1 : A 2 p = c
    · rw [if_neg (by rw [q1]; simp), ald_n (by omega) (by decide), e2, if_pos q1]
    · rw [if_pos (by rw [ne_eq, eq_nn (by omega) (by omega)]; exact q1), if_neg q1]
      by_cases q2 : A 3 p = c
      · rw [if_neg (by rw [q2]; simp), ald_n (by omega) (by decide), e1, if_pos q2]
      · rw [if_pos (by rw [ne_eq, eq_nn (by omega) (by omega)]; exact q2), if_neg q2]
/-- how many open pipes a corner has among the first n; where they go -/
def opn (A : AS) (op c : Nat) : Nat → Nat
  | 0 => 0
  | p + 1 => opn A op c p + (if op.testBit p = true ∧ (ac A p c).isSome = true then 1 else 0)
def nxt (A : AS) (op c : Nat) : Nat → Nat
  | 0 => 0
  | p + 1 => nxt A op c p ||| (if op.testBit p = true then (match ac A p c with | some d => 2 ^ d | none => 0) else 0)
theorem opn_le (A : AS) (op c : Nat) : ∀ n, opn A op c n ≤ n := by
  intro n
  induction n with
  | zero => simp [opn]
  | succ n ih => simp only [opn]; split <;> omega
theorem nxt_lt {A : AS} (w : WFt A) (op c : Nat) : ∀ n, n ≤ A 0 1 → nxt A op c n < 65536 := by
  intro n
  induction n with
  | zero => intro _; simp [nxt]
  | succ n ih =>
    intro hn
    simp only [nxt]
    apply Nat.or_lt_two_pow (n := 16) (ih (by omega))
    split
    · split
      · rename_i d hd
        have := ac_lt w (by omega) hd
        exact Nat.pow_lt_pow_right (by decide) this
      · decide
    · decide
theorem shl1 {d : Nat} (hd : d < 31) : (1 : Int32) <<< (nI d &&& 31) = nI (2 ^ d) := by
  have h2 : 2 ^ d ≤ 2 ^ 30 := Nat.pow_le_pow_right (by decide) (by omega)
  rw [l1, shl_nn (by omega) (by omega), Nat.one_mul]
section EZ
variable {A : AS} {h : HP} {op c N : Nat}
theorem openPipesOf_l (w : WFt A) (hn : A 0 1 ≤ 24) (t : TX A h) (ho : op < 2147483648) (hc : c < 16) : ∀ n i, i ≤ A 0 1 → A 0 1 - i < n → xX6_openPipesOf_5 N n (nI c) (nI op) (nI (opn A op c i)) (nI i) h = some (nI (opn A op c (A 0 1)), h) := by
  intro n
  induction n with
  | zero => intro i _ q; omega
  | succ n ih =>
    intro i hi hq
    rw [xX6_openPipesOf_5]
    simp only [t.2.1]
    by_cases e : i = A 0 1
    · rw [if_pos (by rw [e, le_nn (by omega) (by omega)]; omega), e]
    · rw [if_neg (by rw [le_nn (by omega) (by omega)]; omega), hasBit_e (by omega) ho, cl_s]
      unfold xX6_openPipesOf_37
      have ih1 := ih (i + 1) (by omega) (by omega)
      cases hb : op.testBit i
      · rw [b2_f, if_pos rfl, lt_e, nI_1, ← ih1]
        simp [opn, hb]
      · rw [b2_t, if_neg (by decide), across_e w hn t (by omega) hc, cl_s]
        cases ha : ac A i c with
        | none =>
          rw [acI_n ha, if_pos rfl, lt_e, nI_1, ← ih1]
          simp [opn, hb, ha]
        | some d =>
          rw [acI_s ha, if_neg (nn_m1 (by have := ac_lt w (by omega) ha; omega)), lt_e, lt_e, nI_1, nI_1, ← ih1]
          simp [opn, hb, ha]
theorem openPipesOf_e (w : WFt A) (hn : A 0 1 ≤ 24) (t : TX A h) (ho : op < 2147483648) (hc : c < 16) (hN : 100 ≤ N) : xX6_openPipesOf N (nI c) (nI op) h = some (nI (opn A op c (A 0 1)), h) := by
  unfold xX6_openPipesOf
  exact openPipesOf_l (N := N) w hn t ho hc N 0 (by omega) (by omega)
theorem besides_l (w : WFt A) (hn : A 0 1 ≤ 24) (t : TX A h) (ho : op < 2147483648) (hc : c < 16) : ∀ n i, i ≤ A 0 1 → A 0 1 - i < n → xX6_besides_5 N n (nI c) (nI op) (nI (nxt A op c i)) (nI i) h = some (nI (nxt A op c (A 0 1)), h) := by
  intro n
  induction n with
  | zero => intro i _ q; omega
  | succ n ih =>
    intro i hi hq
    rw [xX6_besides_5]
    simp only [t.2.1]
    by_cases e : i = A 0 1
    · rw [if_pos (by rw [e, le_nn (by omega) (by omega)]; omega), e]
    · rw [if_neg (by rw [le_nn (by omega) (by omega)]; omega), across_e w hn t (by omega) hc, cl_s, hasBit_e (by omega) ho, cl_s]
      unfold xX6_besides_45
      have ih1 := ih (i + 1) (by omega) (by omega)
      cases hb : op.testBit i
      · rw [b2_f, if_pos rfl, lt_e, nI_1, ← ih1]
        simp [nxt, hb]
      · rw [b2_t, if_neg (by decide)]
        cases ha : ac A i c with
        | none =>
          rw [acI_n ha, if_pos rfl, lt_e, nI_1, ← ih1]
          simp [nxt, hb, ha]
        | some d =>
          have hd := ac_lt w (by omega) ha
          rw [acI_s ha, if_neg (nn_m1 (by omega)), lt_e, lt_e, nI_1, shl1 (by omega), or_nn, ← ih1]
          simp [nxt, hb, ha]
theorem besides_e (w : WFt A) (hn : A 0 1 ≤ 24) (t : TX A h) (ho : op < 2147483648) (hc : c < 16) (hN : 100 ≤ N) : xX6_besides N (nI c) (nI op) h = some (nI (nxt A op c (A 0 1)), h) := by
  unfold xX6_besides
  exact besides_l (N := N) w hn t ho hc N 0 (by omega) (by omega)
theorem openOf_l (w : WFt A) (hn : A 0 1 ≤ 24) (t : TM A h) (s : ∀ p, p < A 0 1 → h.1 1 (48 + p) = nI (op / 2 ^ p % 2)) (hc : c < 16) : ∀ n i, i ≤ A 0 1 → A 0 1 - i < n → xX11_openOf_4 N n (nI c) (nI (opn A op c i)) (nI i) h = some (nI (opn A op c (A 0 1)), h) := by
  intro n
  induction n with
  | zero => intro i _ q; omega
  | succ n ih =>
    intro i hi hq
    rw [xX11_openOf_4]
    simp only [t.2.1]
    by_cases e : i = A 0 1
    · rw [if_pos (by rw [e, le_nn (by omega) (by omega)]; omega), e]
    · rw [if_neg (by rw [le_nn (by omega) (by omega)]; omega), beyond_e w hn t s (by omega) hc, cl_s]
      unfold xX11_openOf_26
      have ih1 := ih (i + 1) (by omega) (by omega)
      cases hb : op.testBit i
      · rw [byI_f hb, if_pos rfl, lt_e, nI_1, ← ih1]
        simp [opn, hb]
      · rw [byI_t hb]
        cases ha : ac A i c with
        | none =>
          rw [acI_n ha, if_pos rfl, lt_e, nI_1, ← ih1]
          simp [opn, hb, ha]
        | some d =>
          have hd := ac_lt w (by omega) ha
          rw [acI_s ha, if_neg (nn_m1 (by omega)), lt_e, lt_e, nI_1, nI_1, ← ih1]
          simp [opn, hb, ha]
theorem openOf_e (w : WFt A) (hn : A 0 1 ≤ 24) (t : TM A h) (s : ∀ p, p < A 0 1 → h.1 1 (48 + p) = nI (op / 2 ^ p % 2)) (hc : c < 16) (hN : 100 ≤ N) : xX11_openOf N (nI c) h = some (nI (opn A op c (A 0 1)), h) := by
  unfold xX11_openOf
  exact openOf_l (N := N) w hn t s hc N 0 (by omega) (by omega)
theorem nextTo_l (w : WFt A) (hn : A 0 1 ≤ 24) (t : TM A h) (s : ∀ p, p < A 0 1 → h.1 1 (48 + p) = nI (op / 2 ^ p % 2)) (hc : c < 16) : ∀ n i, i ≤ A 0 1 → A 0 1 - i < n → xX11_nextTo_4 N n (nI c) (nI (nxt A op c i)) (nI i) h = some (nI (nxt A op c (A 0 1)), h) := by
  intro n
  induction n with
  | zero => intro i _ q; omega
  | succ n ih =>
    intro i hi hq
    rw [xX11_nextTo_4]
    simp only [t.2.1]
    by_cases e : i = A 0 1
    · rw [if_pos (by rw [e, le_nn (by omega) (by omega)]; omega), e]
    · rw [if_neg (by rw [le_nn (by omega) (by omega)]; omega), beyond_e w hn t s (by omega) hc, cl_s]
      unfold xX11_nextTo_33
      have ih1 := ih (i + 1) (by omega) (by omega)
      cases hb : op.testBit i
      · rw [byI_f hb, if_pos rfl, lt_e, nI_1, ← ih1]
        simp [nxt, hb]
      · rw [byI_t hb]
        cases ha : ac A i c with
        | none =>
          rw [acI_n ha, if_pos rfl, lt_e, nI_1, ← ih1]
          simp [nxt, hb, ha]
        | some d =>
          have hd := ac_lt w (by omega) ha
          rw [acI_s ha, if_neg (nn_m1 (by omega)), beyond_e w hn t s (by omega) hc, byI_t hb, acI_s ha, cl_s, lt_e, lt_e, nI_1, shl1 (by omega), or_nn, ← ih1]
          simp [nxt, hb, ha]
theorem nextTo_e (w : WFt A) (hn : A 0 1 ≤ 24) (t : TM A h) (s : ∀ p, p < A 0 1 → h.1 1 (48 + p) = nI (op / 2 ^ p % 2)) (hc : c < 16) (hN : 100 ≤ N) : xX11_nextTo N (nI c) h = some (nI (nxt A op c (A 0 1)), h) := by
  unfold xX11_nextTo
  exact nextTo_l (N := N) w hn t s hc N 0 (by omega) (by omega)
end EZ
