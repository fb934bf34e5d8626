/-! ===== the state of the town as numbers A: A 0 j: 0 told, 1 pipes, 2 open, 3 sea, 4 minute, 5 x, 6 bytes on the tape, 7 kept?, 8.. kept told, pipes, open, sea, minute, x;
A 1 height, 2 from, 3 to, 4 width, 5 sorrow, 6 turn, 7 wept, 8 tape, 9, 10, 11 kept sorrow, turn, wept ===== -/
abbrev AS : Type := Nat → Nat → Nat
/-- a state of corners: told, pipes, open, sea, minute, x, sorrow, turn, wept -/
def WFs (told np op sea mi x : Nat) (so tu we : Nat → Nat) : Prop :=
  told < 65536 ∧ np ≤ 24 ∧ op < 2 ^ np ∧ sea ≤ 999999 ∧ mi ≤ 9999 ∧ x < 65536 ∧ (∀ c, c < 16 → so c ≤ 9999 ∧ tu c ≤ 8 ∧ we c ≤ 999999) ∧ (∀ c, c < 16 → told.testBit c = false → so c = 0 ∧ tu c = 0 ∧ we c = 0)
def WFt (A : AS) : Prop := (∀ c, c < 16 → A 1 c ≤ 99) ∧ (∀ p, p < A 0 1 → A 2 p < 16 ∧ A 3 p < 16 ∧ A 2 p ≠ A 3 p ∧ (A 0 0).testBit (A 2 p) = true ∧ (A 0 0).testBit (A 3 p) = true ∧ 1 ≤ A 4 p ∧ A 4 p ≤ 99)
def WF (A : AS) : Prop := WFs (A 0 0) (A 0 1) (A 0 2) (A 0 3) (A 0 4) (A 0 5) (A 5) (A 6) (A 7) ∧ WFt A ∧ (A 0 6 ≤ 260 ∧ ∀ i, i < A 0 6 → A 8 i < 256) ∧ (A 0 7 = 0 ∨ (A 0 7 = 1 ∧ WFs (A 0 8) (A 0 9) (A 0 10) (A 0 11) (A 0 12) (A 0 13) (A 9) (A 10) (A 11)))
/-- the class's cells hold A -/
def TX (A : AS) (h : HP) : Prop := h.1 3 4 = nI (A 0 0) ∧ h.1 3 5 = nI (A 0 1) ∧ (∀ c, c < 16 → h.1 4 c = nI (A 1 c)) ∧ ∀ p, p < A 0 1 → h.1 5 p = nI (A 2 p) ∧ h.1 6 p = nI (A 3 p) ∧ h.1 7 p = nI (A 4 p)
def SX (k told np op sea mi x : Nat) (so tu we : Nat → Nat) (h : HP) : Prop := h.1 k 3 = nI op ∧ h.1 k 4 = nI sea ∧ h.1 k 5 = nI mi ∧ h.1 k 6 = nI x ∧ h.1 k 7 = nI told ∧ h.1 k 8 = nI np ∧ ∀ c, c < 16 → h.1 (k + 1) c = nI (so c) ∧ h.1 (k + 2) c = nI (tu c) ∧ h.1 (k + 3) c = nI (we c)
abbrev SXa (k : Nat) (A : AS) (h : HP) : Prop := SX k (A 0 0) (A 0 1) (A 0 2) (A 0 3) (A 0 4) (A 0 5) (A 5) (A 6) (A 7) h
abbrev SXb (A : AS) (h : HP) : Prop := SX 35 (A 0 8) (A 0 9) (A 0 10) (A 0 11) (A 0 12) (A 0 13) (A 9) (A 10) (A 11) h
def PX (A : AS) (h : HP) : Prop := h.1 1 1 = nI (A 0 6) ∧ ∀ i, i < A 0 6 → h.1 2 i = nI (A 8 i)
def KX (A : AS) (h : HP) : Prop := h.1 0 15 = nI (A 0 7) ∧ (A 0 7 = 1 → SXb A h)
def RX (A : AS) (h : HP) : Prop := TX A h ∧ SXa 31 A h ∧ PX A h ∧ KX A h
/-- the reference's cells hold A -/
def TM (A : AS) (h : HP) : Prop := h.1 0 7 = nI (A 0 0) ∧ h.1 0 8 = nI (A 0 1) ∧ (∀ c, c < 16 → h.1 4 c = nI (A 1 c)) ∧ ∀ p, p < A 0 1 → h.1 5 p = nI (A 2 p) ∧ h.1 6 p = nI (A 3 p) ∧ h.1 7 p = nI (A 4 p)
def SM (f : Nat → Int32) (np op sea mi x : Nat) (so tu we : Nat → Nat) : Prop := (∀ c, c < 16 → f c = nI (so c) ∧ f (16 + c) = nI (tu c) ∧ f (32 + c) = nI (we c)) ∧ (∀ p, p < np → f (48 + p) = nI (op / 2 ^ p % 2)) ∧ f 72 = nI sea ∧ f 73 = nI mi ∧ f 74 = nI x
abbrev SMa (f : Nat → Int32) (A : AS) : Prop := SM f (A 0 1) (A 0 2) (A 0 3) (A 0 4) (A 0 5) (A 5) (A 6) (A 7)
abbrev SMb (f : Nat → Int32) (A : AS) : Prop := SM f (A 0 9) (A 0 10) (A 0 11) (A 0 12) (A 0 13) (A 9) (A 10) (A 11)
def PM (A : AS) (h : HP) : Prop := h.1 0 10 = nI (A 0 6) ∧ ∀ i, i < A 0 6 → h.1 8 i &&& 255 = nI (A 8 i)
def KM (A : AS) (h : HP) : Prop := h.1 0 58 = nI (A 0 7) ∧ (A 0 7 = 1 → h.1 0 59 = nI (A 0 8) ∧ h.1 0 60 = nI (A 0 9) ∧ SMb (h.1 3) A)
def RM (A : AS) (h : HP) : Prop := TM A h ∧ SMa (h.1 1) A ∧ PM A h ∧ KM A h
/-- cells that keep: the class's own state lies in these; the rest is scratch -/
def keX (h h' : HP) : Prop := (∀ k, k < 8 → k ≠ 1 → h'.1 k = h.1 k) ∧ h'.1 1 1 = h.1 1 1 ∧ ∀ k, 13 ≤ k → k < 39 → (k < 20 ∨ 31 ≤ k) → h'.1 k = h.1 k
theorem keX.rf (h : HP) : keX h h := ⟨fun _ _ _ => rfl, rfl, fun _ _ _ _ => rfl⟩
theorem keX.tr {h h1 h2 : HP} (a : keX h h1) (b : keX h1 h2) : keX h h2 := ⟨fun k q1 q2 => (b.1 k q1 q2).trans (a.1 k q1 q2), b.2.1.trans a.2.1, fun k q1 q2 q3 => (b.2.2 k q1 q2 q3).trans (a.2.2 k q1 q2 q3)⟩
theorem keX.up {h : HP} {k j : Nat} {v : Int32} (hk : (8 ≤ k ∧ k < 13) ∨ (20 ≤ k ∧ k < 31) ∨ 39 ≤ k ∨ (k = 1 ∧ j ≠ 1)) : keX h (up h k j v) := by
  refine ⟨fun a q1 q2 => up_n (by omega), ?_, fun a q1 q2 q3 => up_n (by omega)⟩
  rw [up_at, if_neg (by omega)]
theorem keX.upA {h : HP} {k : Nat} {f : Nat → Int32} (hk : (8 ≤ k ∧ k < 13) ∨ (20 ≤ k ∧ k < 31) ∨ 39 ≤ k) : keX h (upA h k f) := by
  refine ⟨fun a q1 q2 => upA_n (by omega), ?_, fun a q1 q2 q3 => upA_n (by omega)⟩
  rw [upA_n (by omega)]
theorem keX.TX {A : AS} {h h' : HP} (q : keX h h') (t : TX A h) : TX A h' := by
  obtain ⟨t1, t2, t3, t4⟩ := t
  refine ⟨?_, ?_, fun c hc => ?_, fun p hp => ?_⟩
  · rw [q.1 3 (by decide) (by decide)]; exact t1
  · rw [q.1 3 (by decide) (by decide)]; exact t2
  · rw [q.1 4 (by decide) (by decide)]; exact t3 c hc
  · rw [q.1 5 (by decide) (by decide), q.1 6 (by decide) (by decide), q.1 7 (by decide) (by decide)]; exact t4 p hp
theorem SX.keep {k told np op sea mi x : Nat} {so tu we : Nat → Nat} {h h' : HP} (q : ∀ a, k ≤ a → a ≤ k + 3 → h'.1 a = h.1 a) (t : SX k told np op sea mi x so tu we h) : SX k told np op sea mi x so tu we h' := by
  obtain ⟨t1, t2, t3, t4, t5, t6, t7⟩ := t
  have e0 := q k (by omega) (by omega)
  refine ⟨by rw [e0]; exact t1, by rw [e0]; exact t2, by rw [e0]; exact t3, by rw [e0]; exact t4, by rw [e0]; exact t5, by rw [e0]; exact t6, fun c hc => ?_⟩
  rw [q (k + 1) (by omega) (by omega), q (k + 2) (by omega) (by omega), q (k + 3) (by omega) (by omega)]
  exact t7 c hc
theorem keX.RX {A : AS} {h h' : HP} (q : keX h h') (t : RX A h) : RX A h' := by
  obtain ⟨t1, t2, t3, t4⟩ := t
  refine ⟨q.TX t1, t2.keep (fun a h1 h2 => q.2.2 a (by omega) (by omega) (by omega)), ⟨by rw [q.2.1]; exact t3.1, fun i hi => by rw [q.1 2 (by decide) (by decide)]; exact t3.2 i hi⟩, ⟨by rw [q.1 0 (by decide) (by decide)]; exact t4.1, fun h7 => (t4.2 h7).keep (fun a h1 h2 => q.2.2 a (by omega) (by omega) (by omega))⟩⟩
/-- the reference's: its object's scratch places, its scratch arrays -/
def scM (j : Nat) : Prop := (11 ≤ j ∧ j ≤ 18) ∨ (20 ≤ j ∧ j ≤ 57)
def keM (h h' : HP) : Prop := (∀ j, ¬ scM j → h'.1 0 j = h.1 0 j) ∧ ∀ k, (k = 1 ∨ (3 ≤ k ∧ k ≤ 8) ∨ (15 ≤ k ∧ k ≤ 19)) → h'.1 k = h.1 k
theorem keM.rf (h : HP) : keM h h := ⟨fun _ _ => rfl, fun _ _ => rfl⟩
theorem keM.tr {h h1 h2 : HP} (a : keM h h1) (b : keM h1 h2) : keM h h2 := ⟨fun j q => (b.1 j q).trans (a.1 j q), fun k q => (b.2 k q).trans (a.2 k q)⟩
theorem keM.up {h : HP} {k j : Nat} {v : Int32} (hk : k = 2 ∨ (9 ≤ k ∧ k ≤ 14) ∨ 20 ≤ k ∨ (k = 0 ∧ scM j)) : keM h (up h k j v) := by
  refine ⟨fun a q1 => ?_, fun a q1 => up_n (by omega)⟩
  rw [up_at]
  apply if_neg
  rintro ⟨h1, h2⟩
  subst h2
  rcases hk with h | h | h | h
  · omega
  · omega
  · omega
  · exact q1 h.2
theorem keM.upA {h : HP} {k : Nat} {f : Nat → Int32} (hk : k = 2 ∨ (9 ≤ k ∧ k ≤ 14) ∨ 20 ≤ k) : keM h (upA h k f) := by
  refine ⟨fun a q1 => ?_, fun a q1 => upA_n (by omega)⟩
  rw [upA_n (by omega)]
theorem keM.RM {A : AS} {h h' : HP} (q : keM h h') (t : RM A h) : RM A h' := by
  obtain ⟨⟨a1, a2, a3, a4⟩, t2, t3, t4⟩ := t
  have n7 : ¬ scM 7 := by unfold scM; omega
  have n8 : ¬ scM 8 := by unfold scM; omega
  have n10 : ¬ scM 10 := by unfold scM; omega
  have n58 : ¬ scM 58 := by unfold scM; omega
  have n59 : ¬ scM 59 := by unfold scM; omega
  have n60 : ¬ scM 60 := by unfold scM; omega
  refine ⟨⟨by rw [q.1 7 n7]; exact a1, by rw [q.1 8 n8]; exact a2, fun c hc => by rw [q.2 4 (by omega)]; exact a3 c hc, fun p hp => by rw [q.2 5 (by omega), q.2 6 (by omega), q.2 7 (by omega)]; exact a4 p hp⟩, by rw [q.2 1 (by omega)]; exact t2, ⟨by rw [q.1 10 n10]; exact t3.1, fun i hi => by rw [q.2 8 (by omega)]; exact t3.2 i hi⟩, ⟨by rw [q.1 58 n58]; exact t4.1, fun h7 => by rw [q.1 59 n59, q.1 60 n60, q.2 3 (by omega)]; exact t4.2 h7⟩⟩
/-! ===== bits ===== -/
theorem tb_iff (a k : Nat) : a.testBit k = true ↔ a / 2 ^ k % 2 = 1 := by rw [Nat.testBit_eq_decide_div_mod_eq, decide_eq_true_iff]
theorem tb_n (a k : Nat) : a.testBit k = false ↔ a / 2 ^ k % 2 = 0 := by
  rw [Nat.testBit_eq_decide_div_mod_eq, decide_eq_false_iff_not]
  omega
def b2 (b : Bool) : Int32 := if b then 1 else 0
theorem b2_t : b2 true = 1 := rfl
theorem b2_f : b2 false = 0 := rfl
theorem b2_0 (b : Bool) : b2 b = 0 ↔ b = false := by cases b <;> simp [b2]
theorem zok_b {α : Type} (b : Bool) (d : Option α) : zok (b2 b) d = d := by cases b <;> simp [b2, zok]
theorem hasBit_e {a k : Nat} (hk : k < 32) (ha : a < 2147483648) (h : HP) : xX10_hasBit (nI a) (nI k) h = some (b2 (a.testBit k), h) := by
  unfold xX10_hasBit xX10_hasBit_14
  rw [bit_nn hk ha, Nat.testBit_eq_decide_div_mod_eq]
  by_cases q : a / 2 ^ k % 2 = 1
  · rw [q, if_neg (by decide), zok_1]
    rfl
  · have h2 : a / 2 ^ k % 2 = 0 := by omega
    rw [h2, if_pos (by decide), zok_0]
    rfl
theorem has_e {a k : Nat} (hk : k < 32) (ha : a < 2147483648) (h : HP) : xX11_has (nI a) (nI k) h = some (b2 (a.testBit k), h) := hasBit_e hk ha h
/-- is a number one of the told corners -/
def tld (A : AS) (x : Int32) : Bool := if x < 0 ∨ (16 : Int32) ≤ x then false else (A 0 0).testBit x.toNatClampNeg
theorem out16 {x : Int32} (h : ¬ (x < 0 ∨ (16 : Int32) ≤ x)) : ∃ c, c < 16 ∧ x = nI c := by
  obtain ⟨j, hj, e⟩ := nI_of (x := x) (fun q => h (Or.inl q))
  refine ⟨j, ?_, e⟩
  have h2 : ¬ (16 : Int32) ≤ x := fun q => h (Or.inr q)
  rw [e, l16, le_nn (by decide) hj] at h2
  omega
theorem in16 {c : Nat} (hc : c < 16) : ¬ (nI c < 0 ∨ (16 : Int32) ≤ nI c) := by
  rw [l0, l16, lt_nn (by omega) (by decide), le_nn (by decide) (by omega)]
  omega
theorem tld_n {A : AS} {c : Nat} (hc : c < 16) : tld A (nI c) = (A 0 0).testBit c := by
  unfold tld
  rw [if_neg (in16 hc), nI_clamp (by omega)]
theorem tld_of {A : AS} {x : Int32} (h : tld A x = true) : ∃ c, c < 16 ∧ x = nI c ∧ (A 0 0).testBit c = true := by
  unfold tld at h
  split at h
  · cases h
  · rename_i q
    obtain ⟨c, hc, e⟩ := out16 q
    refine ⟨c, hc, e, ?_⟩
    rw [e, nI_clamp (by omega)] at h
    exact h
theorem isToldX {A : AS} {h : HP} (hw : A 0 0 < 65536) (t : h.1 3 4 = nI (A 0 0)) (x : Int32) : xX6_isTold x h = some (b2 (tld A x), h) := by
  unfold xX6_isTold xX6_isTold_25 xX6_isTold_26 tld
  by_cases h1 : x < 0
  · rw [if_pos h1, if_pos (Or.inl h1), zok_0]; rfl
  · rw [if_neg h1]
    by_cases h2 : (16 : Int32) ≤ x
    · rw [if_pos h2, if_pos (Or.inr h2), zok_0]; rfl
    · rw [if_neg h2, if_neg (by simp [h1, h2])]
      obtain ⟨c, hc, e⟩ := out16 (x := x) (by simp [h1, h2])
      rw [t, e, hasBit_e (by omega) (by omega), cl_s, nI_clamp (by omega)]
      cases (A 0 0).testBit c
      · rw [b2_f, if_pos rfl, zok_0]
      · rw [b2_t, if_neg (by decide), zok_1]
theorem inM_e (x lo hi : Int32) (h : HP) : xX11_in x lo hi h = some (b2 (decide (¬ x < lo ∧ ¬ hi < x)), h) := by
  unfold xX11_in xX11_in_14 xX11_in_15
  by_cases h1 : x < lo
  · rw [if_pos h1, zok_0]; simp [h1, b2]
  · rw [if_neg h1]
    by_cases h2 : hi < x
    · rw [if_pos h2, zok_0]; simp [h2, b2]
    · rw [if_neg h2, zok_1]; simp [h1, h2, b2]
theorem i_nlt {x y : Int32} : ¬ x < y ↔ y ≤ x := Int32.not_lt
theorem lt15_16 (x : Int32) : ((15 : Int32) < x) ↔ (16 : Int32) ≤ x := by
  rw [i_lt, i_le, show (15 : Int32).toInt = 15 from by decide, show (16 : Int32).toInt = 16 from by decide]
  omega
theorem isToldM {A : AS} {h : HP} (hw : A 0 0 < 65536) (t : h.1 0 7 = nI (A 0 0)) (x : Int32) : xX11_isTold x h = some (b2 (tld A x), h) := by
  unfold xX11_isTold xX11_isTold_25 xX11_isTold_26 tld
  rw [inM_e, cl_s]
  by_cases h1 : x < 0 ∨ (16 : Int32) ≤ x
  · rw [if_pos h1, if_pos (by rw [b2_0, decide_eq_false_iff_not, lt15_16]; intro q; rcases h1 with q1 | q1; exact q.1 q1; exact q.2 q1), zok_0]
    rfl
  · rw [if_neg h1, if_neg (by rw [b2_0, decide_eq_false_iff_not, lt15_16]; intro q; exact q ⟨fun z => h1 (Or.inl z), fun z => h1 (Or.inr z)⟩)]
    obtain ⟨c, hc, e⟩ := out16 (x := x) h1
    rw [t, e, has_e (by omega) (by omega), cl_s, nI_clamp (by omega)]
    cases (A 0 0).testBit c
    · rw [b2_f, if_pos rfl, zok_0]
    · rw [b2_t, if_neg (by decide), zok_1]
