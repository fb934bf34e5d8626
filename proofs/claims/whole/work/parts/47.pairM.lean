/-! ===== the reference's pairs ===== -/
section PM7
variable {N s : Nat} {D : Nat → Nat → Nat}
/-- size, corners and the steps between, as the reference reads them -/
def apM (D : Nat → Nat → Nat) (s : Nat) (h : HP) : Prop := h.1 0 49 = nI s ∧ ∀ i j, i < s → j < s → ∃ a b, a < 16 ∧ b < 16 ∧ h.1 30 i = nI a ∧ h.1 30 j = nI b ∧ h.1 29 (16 * a + b) = nI (D i j) ∧ D i j < 16
theorem apM.fr {h h' : HP} (k : ∀ k, k ≠ 31 → h'.1 k = h.1 k) (a : apM D s h) : apM D s h' := by
  refine ⟨by rw [k 0 (by decide)]; exact a.1, fun i j hi hj => ?_⟩
  obtain ⟨x, y, z⟩ := a.2 i j hi hj
  exact ⟨x, y, by rw [k 30 (by decide), k 29 (by decide)]; exact z⟩
theorem mt_two {S l j : Nat} (hS : S < 65536) (hl : l < 16) (hj : j < 16) : rmv S l j (mt S (2 ^ l ||| 2 ^ j)) := by
  intro b
  have lt : 2 ^ l ||| 2 ^ j < 65536 := Nat.or_lt_two_pow (n := 16) (p2_lt hl) (p2_lt hj)
  rw [mt_tb hS lt, Nat.testBit_or, Nat.testBit_two_pow, Nat.testBit_two_pow]
  by_cases q1 : b = l
  · subst q1; simp
  · by_cases q2 : b = j
    · subst q2; simp
    · rw [decide_eq_false (show ¬ l = b from fun z => q1 z.symm), decide_eq_false (show ¬ j = b from fun z => q2 z.symm), decide_eq_true q1, decide_eq_true q2]; rfl
theorem pnt54 {K : Int32 → Int32 → HP → Option (Int32 × HP)} {S l F : Nat} {u : Nat → Nat} (hs : s ≤ 16) (hS : S < 65536) (hl : l < s) (hlS : S.testBit l = true) : ∀ n j v h, j ≤ s → l < j → s - j < n → apM D s h → (∀ i, S.testBit i = true → i ≠ l → h.1 31 (mt S (2 ^ l ||| 2 ^ i)) = nI (u i) ∧ u i ≤ 1000000) → h.1 31 S = nI v → v ≤ 1000000 → (∀ i, S.testBit i = true → l < i → i < j → v ≤ D l i + u i) → (v = 1000000 ∨ ∃ i, S.testBit i = true ∧ i ≠ l ∧ v = D l i + u i) → ∃ v' h', xX11_painting_54 N K n (nI F) (nI S) (nI l) (nI j) h = K (nI F) (nI (S + 1)) h' ∧ (∀ k, k ≠ 31 → h'.1 k = h.1 k) ∧ (∀ T, T ≠ S → h'.1 31 T = h.1 31 T) ∧ h'.1 31 S = nI v' ∧ v' ≤ 1000000 ∧ (∀ i, S.testBit i = true → l < i → i < s → v' ≤ D l i + u i) ∧ (v' = 1000000 ∨ ∃ i, S.testBit i = true ∧ i ≠ l ∧ v' = D l i + u i) := by
  intro n
  induction n with
  | zero => intro j v h _ _ q; omega
  | succ n ih =>
    intro j v h hj hlj hq ha hu hv v6 h1 h2
    rw [xX11_painting_54]
    dsimp only
    unfold xX11_painting_122
    rw [ha.1]
    by_cases e : j = s
    · subst e
      rw [if_pos (by rw [le_nn (by omega) (by omega)]; omega), lt_e, nI_1]
      exact ⟨v, h, rfl, fun _ _ => rfl, fun _ _ => rfl, hv, v6, h1, h2⟩
    · rw [if_neg (by rw [le_nn (by omega) (by omega)]; omega), has_e (by omega) (by omega), cl_s, lt_e, nI_1]
      cases hb : S.testBit j
      · rw [b2_f, if_pos rfl]
        exact ih (j + 1) v h (by omega) (by omega) (by omega) ha hu hv v6 (fun i hi hil hij => by
          by_cases q : i = j
          · subst q; rw [hb] at hi; cases hi
          · exact h1 i hi hil (by omega)) h2
      · obtain ⟨u1, u2⟩ := hu j hb (by omega)
        have j16 : j < 16 := by omega
        have lt2 : 2 ^ l ||| 2 ^ j < 65536 := Nat.or_lt_two_pow (n := 16) (p2_lt (by omega)) (p2_lt j16)
        have ml : mt S (2 ^ l ||| 2 ^ j) < 65536 := mt_lt hS
        obtain ⟨a, b, a1, b1, a2, b2', d1, d2⟩ := ha.2 l j hl (by omega)
        have mne : mt S (2 ^ l ||| 2 ^ j) ≠ S := fun z => by
          have := mt_two (S := S) (l := l) (j := j) hS (by omega) j16 l
          rw [z, hlS] at this
          simp at this
        rw [b2_t, if_neg (by decide), ald_n hS (by decide), hv, shl1 (by omega), shl1 (by omega), or_nn, bnotw (by omega), show S &&& (4294967295 - (2 ^ l ||| 2 ^ j)) = mt S (2 ^ l ||| 2 ^ j) from rfl, ald_n ml (by decide), u1, ald_n (by omega) (by decide), a2, ald_n j16 (by decide), b2']
        unfold xX11_far
        rw [l16, mul_nn, add_nn, ald_n (by omega) (by decide), d1, cl_s, add_nn, minM_e (by omega) (by omega), cl_s, ast_n hS (by decide), lt_e]
        obtain ⟨v', h', g1, g2, g3, g4⟩ := ih (j + 1) (min v (u j + D l j)) (up h 31 S (nI (min v (u j + D l j)))) (by clear h2; omega) (by clear h2; omega) (by clear h2; omega) (ha.fr (fun k hk => up_n hk)) (fun i hi hil => by
          rw [up_at, if_neg]
          · exact hu i hi hil
          · rintro ⟨-, z⟩
            have := mt_two (S := S) (l := l) (j := i) hS (by clear h2; omega) (tb16 hS hi) l
            rw [z, hlS] at this
            simp at this) (by rw [up_at, if_pos ⟨rfl, rfl⟩]) (by clear h2; omega) (fun i hi hil hij => by
          clear h2
          by_cases q : i = j
          · subst q; omega
          · have := h1 i hi hil (by omega); omega) (by
          by_cases q : v ≤ u j + D l j
          · rw [Nat.min_eq_left q]; exact h2
          · rw [Nat.min_eq_right (by clear h2; omega)]; exact Or.inr ⟨j, hb, by clear h2; omega, Nat.add_comm _ _⟩)
        exact ⟨v', h', g1, fun k hk => by rw [g2 k hk, up_n hk], fun T hT => by rw [g3 T hT, up_at, if_neg (fun z => hT z.2)], g4⟩
theorem pnt34 {K : Int32 → Int32 → HP → Option (Int32 × HP)} {S l F : Nat} (hS : S < 65536) (hl : isLow S l) (hl16 : l < 16) {h : HP} : ∀ n i, i ≤ l → l - i < n → xX11_painting_34 N K n (nI F) (nI S) (nI i) h = xX11_painting_54 N K N (nI F) (nI S) (nI l) (nI (l + 1)) h := by
  intro n
  induction n with
  | zero => intro i _ q; omega
  | succ n ih =>
    intro i hi hq
    rw [xX11_painting_34]
    dsimp only
    rw [has_e (by omega) (by omega), cl_s, lt_e, lt_e, nI_1]
    by_cases e : i = l
    · subst e; rw [hl.1, b2_t, if_pos (by decide)]
    · rw [hl.2 i (by omega), b2_f, if_neg (by decide)]
      exact ih (i + 1) (by omega) (by omega)
theorem pnt18 (hN : 100 ≤ N) (hs : s ≤ 16) (hD : ∀ a b, D a b = D b a) : ∀ n S h, 1 ≤ S → S ≤ 2 ^ s → 2 ^ s - S < n → apM D s h → (∀ T, T < S → ∃ v, h.1 31 T = nI v ∧ cvB D 1000000 T v) → ∃ v h', xX11_painting_18 N n (nI (2 ^ s - 1)) (nI S) h = some (nI v, h') ∧ (∀ k, k ≠ 31 → h'.1 k = h.1 k) ∧ cvB D 1000000 (2 ^ s - 1) v := by
  have s16 : 2 ^ s ≤ 2 ^ 16 := Nat.pow_le_pow_right (by decide) hs
  intro n
  induction n with
  | zero => intro S h _ _ q; omega
  | succ n ih =>
    intro S h hS1 hS2 hq ha hc
    rw [xX11_painting_18]
    dsimp only
    by_cases e : S = 2 ^ s
    · obtain ⟨v, v1, v2⟩ := hc (2 ^ s - 1) (by omega)
      rw [if_pos (by rw [lt_nn (by omega) (by omega)]; omega), ald_n (by omega) (by decide), v1]
      exact ⟨v, h, rfl, fun _ _ => rfl, v2⟩
    · have S16 : S < 65536 := by omega
      obtain ⟨l, hls, hl⟩ := low_ex (n := s) (show S < 2 ^ s by omega) (by omega)
      rw [if_neg (by rw [lt_nn (by omega) (by omega)]; omega), ast_n S16 (by decide)]
      have e34 := pnt34 (N := N) (K := xX11_painting_18 N n) (F := 2 ^ s - 1) (h := up h 31 S 1000000) S16 hl (by omega) N 0 (by omega) (by omega)
      rw [show xX11_painting_34 N (xX11_painting_18 N n) N (nI (2 ^ s - 1)) (nI S) 0 (up h 31 S 1000000) = _ from e34]
      have rm : ∀ i, S.testBit i = true → rmv S l i (mt S (2 ^ l ||| 2 ^ i)) := fun i hi => mt_two S16 (by omega) (tb16 S16 hi)
      have lts : ∀ i, S.testBit i = true → mt S (2 ^ l ||| 2 ^ i) < S := fun i hi => by
        have a1 : mt S (2 ^ l ||| 2 ^ i) ≤ S := Nat.and_le_left
        have : mt S (2 ^ l ||| 2 ^ i) ≠ S := fun z => by
          have := rm i hi l
          rw [z, hl.1] at this
          simp at this
        omega
      obtain ⟨u, hu⟩ : ∃ u : Nat → Nat, ∀ i, S.testBit i = true → h.1 31 (mt S (2 ^ l ||| 2 ^ i)) = nI (u i) ∧ cvB D 1000000 (mt S (2 ^ l ||| 2 ^ i)) (u i) := by
        have : ∀ i, ∃ v, S.testBit i = true → h.1 31 (mt S (2 ^ l ||| 2 ^ i)) = nI v ∧ cvB D 1000000 (mt S (2 ^ l ||| 2 ^ i)) v := fun i => by
          by_cases hi : S.testBit i = true
          · obtain ⟨v, hv⟩ := hc _ (lts i hi)
            exact ⟨v, fun _ => hv⟩
          · exact ⟨0, fun z => absurd z hi⟩
        exact Classical.axiomOfChoice this
      obtain ⟨v, h1, g1, g2, g3, g4, g5, g6, g7⟩ := pnt54 (N := N) (s := s) (D := D) (K := xX11_painting_18 N n) (F := 2 ^ s - 1) (u := u) hs S16 hls hl.1 N (l + 1) 1000000 (up h 31 S 1000000) (by omega) (by omega) (by omega) (ha.fr (fun k hk => up_n hk)) (fun i hi hil => by
        obtain ⟨q1, q2⟩ := hu i hi
        have := lts i hi
        exact ⟨by rw [up_at, if_neg (by omega)]; exact q1, q2.2.1⟩) (by rw [up_at, if_pos ⟨rfl, rfl⟩]; rfl) (by omega) (fun i hi h1 h2 => by omega) (Or.inl rfl)
      rw [g1]
      have cS : cvB D 1000000 S v := cvB.step hD hl.1 u (fun j h1 h2 => ⟨_, rm j h1, (hu j h1).2⟩) (fun j h1 h2 => by
        have js : j < s := by
          rcases Nat.lt_or_ge j s with q | q
          · exact q
          · rw [Nat.testBit_lt_two_pow (Nat.lt_of_lt_of_le (show S < 2 ^ s by omega) (Nat.pow_le_pow_right (by decide) q))] at h1; cases h1
        have lj : l < j := by
          rcases Nat.lt_or_ge j l with y | y
          · rw [hl.2 j y] at h1; cases h1
          · omega
        exact g6 j h1 lj js) g5 g7
      obtain ⟨v', h', f1, f2, f3⟩ := ih (S + 1) h1 (by clear g7; omega) (by clear g7; omega) (by clear g7; omega) ((ha.fr (h' := up h 31 S 1000000) (fun k hk => up_n hk)).fr g2) (fun T hT => by
        by_cases q : T = S
        · subst q; exact ⟨v, g4, cS⟩
        · obtain ⟨x, x1, x2⟩ := hc T (by clear g7; omega)
          exact ⟨x, by rw [g3 T q, up_at, if_neg (fun z => q z.2)]; exact x1, x2⟩)
      exact ⟨v', h', f1, fun k hk => by rw [f2 k hk, g2 k hk, up_n hk], f3⟩
theorem painting_e (hN : 100000 ≤ N) (hs : s ≤ 16) (hD : ∀ a b, D a b = D b a) {h : HP} (ha : apM D s h) : ∃ v h', xX11_painting N h = some (nI v, h') ∧ (∀ k, k ≠ 31 → h'.1 k = h.1 k) ∧ cvB D 1000000 (2 ^ s - 1) v := by
  have s16 : 2 ^ s ≤ 2 ^ 16 := Nat.pow_le_pow_right (by decide) hs
  have s1 : 1 ≤ 2 ^ s := Nat.pow_pos (by decide)
  unfold xX11_painting
  rw [ha.1, shl1 (by omega), l1, sub_nn s1, lt_e]
  obtain ⟨v, h', f1, f2, f3⟩ := pnt18 (N := N) (s := s) (D := D) (by omega) hs hD N 1 (up h 31 0 0) (by omega) (by omega) (by omega) (ha.fr (fun k hk => up_n hk)) (fun T hT => ⟨0, by rw [show T = 0 by omega, up_at, if_pos ⟨rfl, rfl⟩]; rfl, by rw [show T = 0 by omega]; exact cvB.zero D _⟩)
  rw [show ast h 31 65536 0 0 (fun h2 => xX11_painting_18 N N (nI (2 ^ s - 1)) (nI 1) h2) = xX11_painting_18 N N (nI (2 ^ s - 1)) (nI 1) (up h 31 0 0) from ast_n (i := 0) (by decide) (by decide)]
  exact ⟨v, h', f1, fun k hk => by rw [f2 k hk, up_n hk], f3⟩
end PM7
