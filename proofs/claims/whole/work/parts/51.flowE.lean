/-! ===== one push ===== -/
def fln (cap r : Nat → Nat → Nat) (nt : Nat → Int) : Prop :=
  (∀ a b, a < 16 → b < 16 → r a b + r b a = 2 * cap a b) ∧ (∀ a, a < 16 → isum (fun b => (cap a b : Int) - (r a b : Int)) 16 = nt a)
def psh (r : Nat → Nat → Nat) (u v e : Nat) (a b : Nat) : Nat := if a = u ∧ b = v then r a b - e else if a = v ∧ b = u then r a b + e else r a b
section FE
variable {cap r : Nat → Nat → Nat} {nt : Nat → Int}
theorem fln.push {u v e : Nat} (hu : u < 16) (hv : v < 16) (huv : u ≠ v) (he : e ≤ r u v) (h : fln cap r nt) : fln cap (psh r u v e) (fun a => nt a + (if a = u then (e : Int) else if a = v then -(e : Int) else 0)) := by
  refine ⟨fun a b ha hb => ?_, fun a ha => ?_⟩
  · have h1 := h.1 a b ha hb
    unfold psh
    by_cases q1 : a = u ∧ b = v
    · obtain ⟨rfl, rfl⟩ := q1
      rw [if_pos ⟨rfl, rfl⟩, if_neg (fun z => huv z.2), if_pos ⟨rfl, rfl⟩]; omega
    · by_cases q2 : a = v ∧ b = u
      · obtain ⟨rfl, rfl⟩ := q2
        rw [if_neg q1, if_pos ⟨rfl, rfl⟩, if_pos ⟨rfl, rfl⟩]; omega
      · rw [if_neg q1, if_neg q2, if_neg (fun z => q2 ⟨z.2, z.1⟩), if_neg (fun z => q1 ⟨z.2, z.1⟩)]; exact h1
  · have e1 : isum (fun b => (cap a b : Int) - (psh r u v e a b : Int)) 16 = isum (fun b => ((cap a b : Int) - (r a b : Int)) + ((r a b : Int) - (psh r u v e a b : Int))) 16 := isum_congr 16 (fun b _ => by omega)
    rw [e1, isum_add, h.2 a ha]
    congr 1
    by_cases qu : a = u
    · subst qu
      rw [if_pos rfl, isum_one (c := v) 16 hv (fun i hi hne => by
        unfold psh; rw [if_neg (fun z => hne z.2), if_neg (fun z => huv z.1)]; omega)]
      unfold psh; rw [if_pos ⟨rfl, rfl⟩]; omega
    · rw [if_neg qu]
      by_cases qv : a = v
      · subst qv
        rw [if_pos rfl, isum_one (c := u) 16 hu (fun i hi hne => by
          unfold psh; rw [if_neg (fun z => qu z.1), if_neg (fun z => hne z.2)]; omega)]
        unfold psh; rw [if_neg (fun z => qu z.1), if_pos ⟨rfl, rfl⟩]; omega
      · rw [if_neg qv]
        apply isum_0
        intro b _
        unfold psh; rw [if_neg (fun z => qu z.1), if_neg (fun z => qv z.1)]; omega
/-- the tree of a search: who came from where -/
def trE (r : Nat → Nat → Nat) (c S : Nat) (cf lv : Nat → Nat) : Prop := ∀ x, S.testBit x = true → x < 16 ∧ lv x < 16 ∧ (x ≠ c → S.testBit (cf x) = true ∧ 0 < r (cf x) x ∧ lv (cf x) < lv x)
def itr (cf : Nat → Nat) (d : Nat) : Nat → Nat
  | 0 => d
  | k + 1 => cf (itr cf d k)
theorem path_ex {c S d : Nat} {cf lv : Nat → Nat} (h : trE r c S cf lv) (hd : S.testBit d = true) : ∃ K, itr cf d K = c ∧ K ≤ lv d ∧ ∀ j, j < K → itr cf d j ≠ c := by
  have step : ∀ n, (∃ K, K ≤ n ∧ itr cf d K = c ∧ ∀ j, j < K → itr cf d j ≠ c) ∨ ((∀ j, j ≤ n → itr cf d j ≠ c) ∧ S.testBit (itr cf d n) = true ∧ lv (itr cf d n) + n ≤ lv d) := by
    intro n
    induction n with
    | zero =>
      by_cases q : d = c
      · exact Or.inl ⟨0, Nat.le_refl _, q, fun j hj => by omega⟩
      · exact Or.inr ⟨fun j hj => by rw [show j = 0 by omega]; exact q, hd, Nat.le_refl _⟩
    | succ n ih =>
      rcases ih with ⟨K, k1, k2⟩ | ⟨h1, h2, h3⟩
      · exact Or.inl ⟨K, by omega, k2⟩
      · obtain ⟨-, -, g⟩ := h _ h2
        obtain ⟨g1, g2, g3⟩ := g (h1 n (Nat.le_refl _))
        by_cases q : itr cf d (n + 1) = c
        · exact Or.inl ⟨n + 1, Nat.le_refl _, q, fun j hj => h1 j (by omega)⟩
        · refine Or.inr ⟨fun j hj => ?_, g1, ?_⟩
          · by_cases e : j = n + 1
            · rw [e]; exact q
            · exact h1 j (by omega)
          · show lv (cf (itr cf d n)) + (n + 1) ≤ lv d
            omega
  rcases step (lv d) with ⟨K, k1, k2, k3⟩ | ⟨h1, h2, h3⟩
  · exact ⟨K, k2, k1, k3⟩
  · obtain ⟨-, -, g⟩ := h _ h2
    have := (g (h1 _ (Nat.le_refl _))).2.2
    omega
theorem path_in {c S d K : Nat} {cf lv : Nat → Nat} (h : trE r c S cf lv) (hd : S.testBit d = true) (hK : ∀ j, j < K → itr cf d j ≠ c) : ∀ j, j ≤ K → S.testBit (itr cf d j) = true ∧ ∀ i, i < j → lv (itr cf d j) < lv (itr cf d i) := by
  intro j
  induction j with
  | zero => intro _; exact ⟨hd, fun i hi => by omega⟩
  | succ j ih =>
    intro hj
    obtain ⟨h1, h2⟩ := ih (by omega)
    obtain ⟨-, -, g⟩ := h _ h1
    obtain ⟨g1, g2, g3⟩ := g (hK j (by omega))
    refine ⟨g1, fun i hi => ?_⟩
    show lv (cf (itr cf d j)) < _
    by_cases e : i = j
    · subst e; exact g3
    · have := h2 i (by omega); omega
variable {N : Nat}
def LR (r : Nat → Nat → Nat) (h : HP) : Prop := ∀ a b, a < 16 → b < 16 → h.1 50 (a * 16 + b) = nI (r a b) ∧ r a b ≤ 5000
theorem push10 {c S d K : Nat} {cf lv : Nat → Nat} (h : trE r c S cf lv) (hc : c < 16) (hd : S.testBit d = true) (hK : ∀ j, j < K → itr cf d j ≠ c) (hKc : itr cf d K = c) (hK15 : K < 16) {hh : HP} (hl : LR r hh) (hcf : ∀ x, S.testBit x = true → x ≠ c → hh.1 51 x = nI (cf x)) (a2 : Int32) : ∀ n j e, j ≤ K → K - j < n → 1 ≤ e → e ≤ 2376 → (∀ i, i < j → e ≤ r (itr cf d (i + 1)) (itr cf d i)) → ∃ e', xX1_pushBy_10 N n (nI c) a2 (nI e) (nI (itr cf d j)) (nI j) hh = xX1_pushBy_61 N (nI c) a2 (nI e') hh ∧ 1 ≤ e' ∧ e' ≤ 2376 ∧ ∀ i, i < K → e' ≤ r (itr cf d (i + 1)) (itr cf d i) := by
  intro n
  induction n with
  | zero => intro j e _ q; omega
  | succ n ih =>
    intro j e hj hq he1 he2 hm
    obtain ⟨p1, p2⟩ := path_in h hd hK j hj
    obtain ⟨x16, -, g⟩ := h _ p1
    rw [xX1_pushBy_10]
    dsimp only
    rw [if_neg (by rw [l16, le_nn (by decide) (by omega)]; omega)]
    by_cases q : j = K
    · subst q
      rw [hKc, if_pos rfl]
      exact ⟨e, rfl, he1, he2, hm⟩
    · have hne := hK j (by omega)
      obtain ⟨g1, g2, g3⟩ := g hne
      obtain ⟨u16, -, -⟩ := h _ g1
      obtain ⟨r1, r2⟩ := hl _ _ u16 x16
      rw [if_neg (by rw [eq_nn (by omega) (by omega)]; exact hne), ald_n x16 (by decide), hcf _ p1 hne, l16, mul_nn, add_nn, ald_n (by omega) (by decide), r1, imn_nn (by omega) (by omega), lt_e, ald_n x16 (by decide), hcf _ p1 hne, lt_e, nI_1]
      exact ih (j + 1) (min e (r (cf (itr cf d j)) (itr cf d j))) (by omega) (by omega) (by omega) (by omega) (fun i hi => by
        by_cases z : i = j
        · subst z; exact Nat.min_le_right _ _
        · have := hm i (by omega); omega)
end FE
