/-! ===== orders: what one does ===== -/
theorem ofI_t {x : Int} (h1 : -2147483648 ≤ x) (h2 : x < 2147483648) : (Int32.ofInt x).toInt = x := by
  rw [Int32.toInt_ofInt, show Int32.size = 4294967296 from rfl]
  exact Int.bmod_eq_of_le (by omega) (by omega)
def opO (A : AS) (k w : Nat) : Nat := if k = 33 then wop (A 0 2) w else if k = 63 then A 0 2 ||| 2 ^ w else A 0 2
def soO (A : AS) (k w v : Nat) (c : Nat) : Nat := if c = w ∧ k = 43 then min 9999 (A 5 c + v) else if c = w ∧ k = 45 then A 5 c - v else A 5 c
def tuO (A : AS) (k w v : Nat) (c : Nat) : Nat := if c = w ∧ k = 64 then v else A 6 c
def apO (A : AS) (k w v : Nat) : AS := stA A (opO A k w) (if k = 126 then v else A 0 3) (A 0 4) (A 0 5) (soO A k w v) (tuO A k w v) (A 7)
def okO (A : AS) (k w v : Nat) : Prop := ((k = 33 ∨ k = 63) ∧ w < A 0 1) ∨ ((k = 43 ∨ k = 45) ∧ w < 16 ∧ (A 0 0).testBit w = true ∧ v ≤ 9999) ∨ (k = 64 ∧ w < 16 ∧ (A 0 0).testBit w = true ∧ v ≤ 8) ∨ (k = 126 ∧ w = 0 ∧ v ≤ 999999)
theorem and_lt_p {a b k : Nat} (h : a < 2 ^ k) : a &&& b < 2 ^ k := Nat.lt_of_le_of_lt Nat.and_le_left h
theorem WF.ap {A : AS} (w : WF A) {k i v : Nat} (ok : okO A k i v) : WF (apO A k i v) := by
  obtain ⟨w1, w2, w3, w4, w5, w6, w7, w8⟩ := w.1
  refine w.st ⟨w1, w2, ?_, ?_, w5, w6, fun c hc => ?_, fun c hc ht => ?_⟩
  · unfold opO
    split
    · exact and_lt_p w3
    · split
      · rename_i q1 q2
        have hi : i < A 0 1 := by
          rcases ok with ok | ok | ok | ok
          · exact ok.2
          · omega
          · omega
          · omega
        exact Nat.or_lt_two_pow w3 (Nat.pow_lt_pow_right (by decide) hi)
      · exact w3
  · split
    · rcases ok with ok | ok | ok | ok <;> omega
    · exact w4
  · obtain ⟨a, b, d⟩ := w7 c hc
    refine ⟨?_, ?_, d⟩
    · unfold soO
      split
      · exact Nat.min_le_left _ _
      · split <;> omega
    · unfold tuO
      split
      · rcases ok with ok | ok | ok | ok <;> omega
      · exact b
  · obtain ⟨a, b, d⟩ := w8 c hc ht
    have tt : ∀ {P : Prop}, c = i → (A 0 0).testBit i = true → P := fun {P} z y => by rw [← z, ht] at y; cases y
    refine ⟨?_, ?_, d⟩
    · unfold soO
      split
      · rename_i z
        rcases ok with ok | ok | ok | ok
        · omega
        · exact tt z.1 ok.2.2.1
        · omega
        · omega
      · split
        · omega
        · exact a
    · unfold tuO
      split
      · rename_i z
        rcases ok with ok | ok | ok | ok
        · omega
        · omega
        · exact tt z.1 ok.2.2.1
        · omega
      · exact b
theorem WF.sk {A : AS} (w : WF A) : ∀ c, c < 16 → A 5 c ≤ 9999 ∧ A 6 c ≤ 8 ∧ A 7 c ≤ 999999 := w.1.2.2.2.2.2.2.1
/-! the class carries one out -/
section CAR
variable {A : AS} {N : Nat}
/-- the orders that were read -/
def OX (os : Nat → Nat × Nat × Nat) (m : Nat) (h : HP) : Prop := h.1 27 3 = nI m ∧ ∀ i, i < m → h.1 28 i = nI (os i).1 ∧ h.1 29 i = nI (os i).2.1 ∧ h.1 30 i = nI (os i).2.2
def foO (A : AS) (os : Nat → Nat × Nat × Nat) : Nat → AS
  | 0 => A
  | i + 1 => apO (foO A os i) (os i).1 (os i).2.1 (os i).2.2
theorem SXa.ap {A : AS} {k w v : Nat} {h h' : HP} (s : SXa 31 A h) (h1 : h'.1 31 3 = nI (opO A k w)) (h2 : h'.1 31 4 = nI (if k = 126 then v else A 0 3)) (h3 : ∀ j, 5 ≤ j → h'.1 31 j = h.1 31 j) (h4 : ∀ c, c < 16 → h'.1 32 c = nI (soO A k w v c) ∧ h'.1 33 c = nI (tuO A k w v c)) (h5 : h'.1 34 = h.1 34) : SXa 31 (apO A k w v) h' := by
  obtain ⟨s1, s2, s3, s4, s5, s6, s7⟩ := s
  exact ⟨h1, h2, by rw [h3 5 (by decide)]; exact s3, by rw [h3 6 (by decide)]; exact s4, by rw [h3 7 (by decide)]; exact s5, by rw [h3 8 (by decide)]; exact s6, fun c hc => ⟨(h4 c hc).1, (h4 c hc).2, by show h'.1 34 c = _; rw [h5]; exact (s7 c hc).2.2⟩⟩
theorem car_s {S : AS} {h : HP} {k w v i : Nat} (K : Int32 → HP → Option (Int32 × HP)) (wf : WF S) (ok : okO S k w v) (s : SXa 31 S h) (hi : i < 20) (o3 : h.1 30 i = nI v) : ∃ h1, (if nI k = 33 then
        (lt (up h 31 3 ((h.1 31 3) &&& ((1 <<< (nI w &&& 31)) ^^^ (-1)))) fun h3 =>
        K (nI i) h3)
      else if nI k = 43 then
        (ald h 32 16 (nI w) fun t4 =>
        ald h 30 20 (nI i) fun t5 =>
        ast h 32 16 (nI w) (imn 9999 (t4 + t5)) fun h6 =>
        K (nI i) h6)
      else if nI k = 45 then
        (ald h 32 16 (nI w) fun t7 =>
        ald h 30 20 (nI i) fun t8 =>
        ast h 32 16 (nI w) (imx 0 (t7 - t8)) fun h9 =>
        K (nI i) h9)
      else if nI k = 63 then
        (lt (up h 31 3 ((h.1 31 3) ||| (1 <<< (nI w &&& 31)))) fun h10 =>
        K (nI i) h10)
      else if nI k = 64 then
        (ald h 30 20 (nI i) fun t11 =>
        ast h 33 16 (nI w) t11 fun h12 =>
        K (nI i) h12)
      else (ald h 30 20 (nI i) fun t13 =>
      lt (up h 31 4 t13) fun h14 =>
      K (nI i) h14)) = K (nI i) h1 ∧ (∀ k, (k < 31 ∨ 34 ≤ k) → h1.1 k = h.1 k) ∧ SXa 31 (apO S k w v) h1 := by
  have s0 := s
  obtain ⟨s1, s2, s3, s4, s5, s6, s7⟩ := s
  have s7 : ∀ c, c < 16 → h.1 32 c = nI (S 5 c) ∧ h.1 33 c = nI (S 6 c) ∧ h.1 34 c = nI (S 7 c) := s7
  have sk := wf.sk
  have np := wf.1.2.1
  rcases ok with ⟨rfl | rfl, hw⟩ | ⟨rfl | rfl, hw, ht, hv⟩ | ⟨rfl, hw, ht, hv⟩ | ⟨rfl, hw, hv⟩
  · refine ⟨_, by rw [if_pos (by decide), lt_e], fun k hk => up_n (by omega), SXa.ap s0 ?_ ?_ (fun j hj => by rw [up_at, if_neg (by omega)]) (fun c hc => ?_) (up_n (by decide))⟩
    · rw [up_at, if_pos ⟨rfl, rfl⟩, s1, shl1 (by omega), bnotw (Nat.lt_of_lt_of_le (Nat.pow_lt_pow_right (by decide) (show w < 31 by omega)) (by decide : 2 ^ 31 ≤ 4294967296))]; rfl
    · rw [up_at, if_neg (by decide)]; exact s2
    · rw [up_n (by decide), up_n (by decide)]
      simp only [soO, tuO]
      simp
      exact ⟨(s7 c hc).1, (s7 c hc).2.1⟩
  · refine ⟨_, by rw [if_neg (by decide), if_neg (by decide), if_neg (by decide), if_pos (by decide), lt_e], fun k hk => up_n (by omega), SXa.ap s0 ?_ ?_ (fun j hj => by rw [up_at, if_neg (by omega)]) (fun c hc => ?_) (up_n (by decide))⟩
    · rw [up_at, if_pos ⟨rfl, rfl⟩, s1, shl1 (by omega), or_nn]; rfl
    · rw [up_at, if_neg (by decide)]; exact s2
    · rw [up_n (by decide), up_n (by decide)]
      simp only [soO, tuO]
      simp
      exact ⟨(s7 c hc).1, (s7 c hc).2.1⟩
  · have a1 := (sk w hw).1
    refine ⟨_, by rw [if_neg (by decide), if_pos (by decide), ald_n hw (by decide), ald_n hi (by decide), ast_n hw (by decide)], fun k hk => up_n (by omega), SXa.ap s0 ?_ ?_ (fun j hj => by rw [up_n (by decide)]) (fun c hc => ⟨?_, ?_⟩) (up_n (by decide))⟩
    · rw [up_n (by decide)]; exact s1
    · rw [up_n (by decide)]; exact s2
    · rw [up_at, (s7 w hw).1, o3, add_nn, l9999, imn_nn (by omega) (by omega)]
      by_cases z : c = w
      · rw [if_pos ⟨rfl, z⟩]; simp [soO, z]
      · rw [if_neg (fun y => z y.2)]; simp [soO, z]; exact (s7 c hc).1
    · rw [up_n (by decide)]; simp [tuO]; exact (s7 c hc).2.1
  · have a1 := (sk w hw).1
    have e : imx 0 (nI (S 5 w) - nI v) = nI (S 5 w - v) := by
      unfold imx
      have x1 : (nI (S 5 w) - nI v).toInt = (S 5 w : Int) - v := by
        rw [ofI_n, ofI_n, ofI_sub, ofI_t (by omega) (by omega)]
      by_cases z : v < S 5 w
      · rw [sub_nn (by omega), if_pos (by rw [l0, lt_nn (by decide) (by omega)]; omega)]
      · rw [if_neg (by rw [i_lt, x1]; show ¬ (0 : Int) < _; omega), show S 5 w - v = 0 by omega]; rfl
    refine ⟨_, by rw [if_neg (by decide), if_neg (by decide), if_pos (by decide), ald_n hw (by decide), ald_n hi (by decide), ast_n hw (by decide)], fun k hk => up_n (by omega), SXa.ap s0 ?_ ?_ (fun j hj => by rw [up_n (by decide)]) (fun c hc => ⟨?_, ?_⟩) (up_n (by decide))⟩
    · rw [up_n (by decide)]; exact s1
    · rw [up_n (by decide)]; exact s2
    · rw [up_at, (s7 w hw).1, o3, e]
      by_cases z : c = w
      · rw [if_pos ⟨rfl, z⟩]; simp [soO, z]
      · rw [if_neg (fun y => z y.2)]; simp [soO, z]; exact (s7 c hc).1
    · rw [up_n (by decide)]; simp [tuO]; exact (s7 c hc).2.1
  · refine ⟨_, by rw [if_neg (by decide), if_neg (by decide), if_neg (by decide), if_neg (by decide), if_pos (by decide), ald_n hi (by decide), ast_n hw (by decide)], fun k hk => up_n (by omega), SXa.ap s0 ?_ ?_ (fun j hj => by rw [up_n (by decide)]) (fun c hc => ⟨?_, ?_⟩) (up_n (by decide))⟩
    · rw [up_n (by decide)]; exact s1
    · rw [up_n (by decide)]; exact s2
    · rw [up_n (by decide)]; simp [soO]; exact (s7 c hc).1
    · rw [up_at, o3]
      by_cases z : c = w
      · rw [if_pos ⟨rfl, z⟩]; simp [tuO, z]
      · rw [if_neg (fun y => z y.2)]; simp [tuO, z]; exact (s7 c hc).2.1
  · refine ⟨_, by rw [if_neg (by decide), if_neg (by decide), if_neg (by decide), if_neg (by decide), if_neg (by decide), ald_n hi (by decide), lt_e], fun k hk => up_n (by omega), SXa.ap s0 ?_ ?_ (fun j hj => by rw [up_at, if_neg (by omega)]) (fun c hc => ⟨?_, ?_⟩) (up_n (by decide))⟩
    · rw [up_at, if_neg (by decide)]; exact s1
    · rw [up_at, if_pos ⟨rfl, rfl⟩, o3]; rfl
    · rw [up_n (by decide)]; simp [soO]; exact (s7 c hc).1
    · rw [up_n (by decide)]; simp [tuO]; exact (s7 c hc).2.1
theorem car_l {os : Nat → Nat × Nat × Nat} {m : Nat} (hm20 : m ≤ 20) (wf : ∀ i, i ≤ m → WF (foO A os i)) (ok : ∀ i, i < m → okO (foO A os i) (os i).1 (os i).2.1 (os i).2.2) : ∀ n i h, i ≤ m → m - i < n → OX os m h → SXa 31 (foO A os i) h → ∃ h', xX4_carryOut_2 N n (nI i) h = some (0, h') ∧ (∀ k, (k < 31 ∨ 34 ≤ k) → h'.1 k = h.1 k) ∧ SXa 31 (foO A os m) h' := by
  intro n
  induction n with
  | zero => intro i h _ q; omega
  | succ n ih =>
    intro i h hi hq ox s
    rw [xX4_carryOut_2]
    dsimp only
    rw [ox.1]
    by_cases e : i = m
    · subst e
      rw [if_pos (by rw [le_nn (by omega) (by omega)]; omega)]
      exact ⟨h, rfl, fun _ _ => rfl, s⟩
    · obtain ⟨o1, o2, o3⟩ := ox.2 i (by omega)
      rw [if_neg (by rw [le_nn (by omega) (by omega)]; omega), ald_n (by omega) (by decide), ald_n (by omega) (by decide), o1, o2]
      obtain ⟨h1, e1, k1, s1⟩ := car_s (xX4_carryOut_183 N (xX4_carryOut_2 N n)) (wf i hi) (ok i (by omega)) s (show i < 20 by omega) o3
      rw [e1]
      unfold xX4_carryOut_183
      rw [lt_e, nI_1]
      obtain ⟨h', e1, e2, e3⟩ := ih (i + 1) h1 (by omega) (by omega) ⟨by rw [k1 27 (by omega)]; exact ox.1, fun j hj => by rw [k1 28 (by omega), k1 29 (by omega), k1 30 (by omega)]; exact ox.2 j hj⟩ s1
      exact ⟨h', e1, fun k hk => by rw [e2 k hk, k1 k hk], e3⟩
end CAR
