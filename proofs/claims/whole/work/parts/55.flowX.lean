section FX5
variable {cap r : Nat → Nat → Nat} {N c d : Nat}
theorem isum_mono {f g : Nat → Int} : ∀ n, (∀ i, i < n → f i ≤ g i) → isum f n ≤ isum g n := by
  intro n
  induction n with
  | zero => intro _; exact Int.le_refl _
  | succ n ih =>
    intro h
    simp only [isum]
    have := ih (fun i hi => h i (by omega))
    have := h n (by omega)
    omega
theorem flw_max {F : Nat} (hc : c < 16) (hsum : isum (fun b => (cap c b : Int)) 16 ≤ 2376) (h : flw cap c d r F) : F ≤ 2376 := by
  have e := h.2 c hc
  rw [if_pos rfl] at e
  have := isum_mono (f := fun b => (cap c b : Int) - (r c b : Int)) (g := fun b => (cap c b : Int)) 16 (fun i _ => by omega)
  omega
theorem push133 (hN : 100 ≤ N) (hcap : ∀ a b, cap a b ≤ 2376) (hc : c < 16) (hd : d < 16) (hcd : c ≠ d) (hsum : isum (fun b => (cap c b : Int)) 16 ≤ 2376) : ∀ n F j r h, 2376 - F < n → j ≤ F → flw cap c d r F → LR r h → ∃ F' r' S' h', xX1_push_133 N n (nI c) (nI d) (nI F) (nI j) h = some (nI F', h') ∧ (∀ k, k ≠ 49 → k ≠ 50 → k ≠ 51 → h'.1 k = h.1 k) ∧ flw cap c d r' F' ∧ sdE r' c S' ∧ h'.1 49 3 = nI S' ∧ S'.testBit d = false := by
  intro n
  induction n with
  | zero => intro F j r h q; omega
  | succ n ih =>
    intro F j r h hq hj hf hl
    have fm := flw_max hc hsum hf
    rw [xX1_push_133]
    dsimp only
    obtain ⟨S, h1, cf, lv, e1, k1, s1, sd, tr, c1⟩ := seek_e (N := N) (r := r) hN hc hl
    rw [if_neg (by rw [show (2376 : Int32) = nI 2376 from rfl, lt_nn (by decide) (by omega)]; omega), e1, cl_s, s1, hasBit_e (by omega) (by have := sd.1; omega), cl_s]
    cases hb : S.testBit d
    · rw [b2_f, if_neg (by decide)]
      exact ⟨F, r, S, h1, rfl, fun k q1 q2 q3 => k1 k q1 q3, hf, sd, s1, hb⟩
    · have l1 : LR r h1 := fun a b ha hb => by rw [k1 50 (by decide) (by decide)]; exact hl a b ha hb
      obtain ⟨e, r2, h2, e2, x1, x2, k2, l2, f2⟩ := pushBy_e (N := N) hN hcap tr hc hcd hb c1 l1 hf
      have fm2 := flw_max hc hsum f2
      rw [b2_t, if_pos (by decide), e2, cl_s, add_nn, lt_e, lt_e, nI_1]
      obtain ⟨F', r', S', h', g1, g2, g3⟩ := ih (F + e) (j + 1) r2 h2 (by omega) (by omega) f2 l2
      exact ⟨F', r', S', h', g1, fun k q1 q2 q3 => by rw [g2 k q1 q2 q3, k2 k q2, k1 k q1 q3], g3⟩
/-- how wide the open pipes between two corners are together, among the first n -/
def capN (A : AS) (op : Nat) (one : Bool) (a b : Nat) : Nat → Nat
  | 0 => 0
  | p + 1 => capN A op one a b p + (if op.testBit p = true ∧ ((A 2 p = a ∧ A 3 p = b) ∨ (A 3 p = a ∧ A 2 p = b)) then (if one = true then 1 else A 4 p) else 0)
theorem capN_sym {A : AS} {op : Nat} {one : Bool} {a b : Nat} : ∀ n, capN A op one a b n = capN A op one b a n := by
  intro n
  induction n with
  | zero => rfl
  | succ n ih =>
    simp only [capN]
    rw [ih]
    by_cases q : op.testBit n = true ∧ ((A 2 n = a ∧ A 3 n = b) ∨ (A 3 n = a ∧ A 2 n = b))
    · have q2 : op.testBit n = true ∧ ((A 2 n = b ∧ A 3 n = a) ∨ (A 3 n = b ∧ A 2 n = a)) := ⟨q.1, q.2.elim (fun z => Or.inr ⟨z.2, z.1⟩) (fun z => Or.inl ⟨z.2, z.1⟩)⟩
      rw [if_pos q, if_pos q2]
    · rw [if_neg q, if_neg (fun z => q ⟨z.1, z.2.elim (fun y => Or.inr ⟨y.2, y.1⟩) (fun y => Or.inl ⟨y.2, y.1⟩)⟩)]
theorem capN_le {A : AS} {op : Nat} {one : Bool} {a b : Nat} (w : WFt A) : ∀ n, n ≤ A 0 1 → capN A op one a b n ≤ 99 * n := by
  intro n
  induction n with
  | zero => intro _; simp [capN]
  | succ n ih =>
    intro hn
    simp only [capN]
    have := ih (by omega)
    have := (w.2 n (by omega)).2.2.2.2.2.2
    split
    · split <;> omega
    · omega
theorem capN_sum {A : AS} {op : Nat} {one : Bool} {a : Nat} (w : WFt A) : ∀ n, n ≤ A 0 1 → isum (fun b => (capN A op one a b n : Int)) 16 ≤ 99 * (n : Int) := by
  intro n
  induction n with
  | zero => intro _; simp only [capN]; rw [isum_0 (f := fun _ => ((0 : Nat) : Int)) 16 (fun _ _ => rfl)]; omega
  | succ n ih =>
    intro hn
    have ih1 := ih (by omega)
    obtain ⟨w1, w2, w3, -, -, w4, w5⟩ := w.2 n (by omega)
    have e1 : isum (fun b => (capN A op one a b (n + 1) : Int)) 16 = isum (fun b => (capN A op one a b n : Int)) 16 + isum (fun b => ((if op.testBit n = true ∧ ((A 2 n = a ∧ A 3 n = b) ∨ (A 3 n = a ∧ A 2 n = b)) then (if one = true then 1 else A 4 n) else 0 : Nat) : Int)) 16 := by
      rw [← isum_add]
      exact isum_congr 16 (fun b _ => by simp only [capN]; omega)
    have e2 : isum (fun b => ((if op.testBit n = true ∧ ((A 2 n = a ∧ A 3 n = b) ∨ (A 3 n = a ∧ A 2 n = b)) then (if one = true then 1 else A 4 n) else 0 : Nat) : Int)) 16 ≤ 99 := by
      by_cases qa : A 2 n = a
      · rw [isum_one (c := A 3 n) 16 w2 (fun i hi hne => by
          rw [if_neg (fun z => z.2.elim (fun y => hne y.2.symm) (fun y => w3 (by rw [qa, y.1])))]; rfl)]
        split
        · split <;> omega
        · omega
      · by_cases qb : A 3 n = a
        · rw [isum_one (c := A 2 n) 16 w1 (fun i hi hne => by
            rw [if_neg (fun z => z.2.elim (fun y => qa y.1) (fun y => hne y.2.symm))]; rfl)]
          split
          · split <;> omega
          · omega
        · rw [isum_0 16 (fun i hi => by
            rw [if_neg (fun z => z.2.elim (fun y => qa y.1) (fun y => qb y.1))]; rfl)]
          omega
    omega
end FX5
