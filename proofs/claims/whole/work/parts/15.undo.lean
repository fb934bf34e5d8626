/-! ===== undo ===== -/
def opU (kop knp np : Nat) : Nat := (kop ||| (4294967296 - 2 ^ knp)) &&& (2 ^ np - 1)
theorem neg_pow : ∀ k, k < 25 → -((1 : Int32) <<< (nI k &&& 31)) = nI (4294967296 - 2 ^ k) := by decide +kernel
theorem pow_m1 : ∀ k, k < 25 → ((1 : Int32) <<< (nI k &&& 31)) - 1 = nI (2 ^ k - 1) := by decide +kernel
theorem tb_hi : ∀ k, k < 25 → ∀ p, p < 24 → (4294967296 - 2 ^ k).testBit p = decide (k ≤ p) := by decide +kernel
theorem tb_lo : ∀ k, k < 25 → ∀ p, p < 24 → (2 ^ k - 1).testBit p = decide (p < k) := by decide +kernel
theorem opU_lt {kop knp np : Nat} : opU kop knp np < 2 ^ np := by
  unfold opU
  have := Nat.and_le_right (n := kop ||| (4294967296 - 2 ^ knp)) (m := 2 ^ np - 1)
  have := Nat.two_pow_pos np
  omega
theorem opU_b {kop knp np p : Nat} (hk : knp ≤ 24) (hn : np ≤ 24) (hp : p < np) : opU kop knp np / 2 ^ p % 2 = if p < knp then kop / 2 ^ p % 2 else 1 := by
  have h1 : (opU kop knp np).testBit p = (kop.testBit p || decide (knp ≤ p)) := by
    unfold opU
    rw [Nat.testBit_and, Nat.testBit_or, tb_hi _ (by omega) _ (by omega), tb_lo _ (by omega) _ (by omega), decide_eq_true hp, Bool.and_true]
  by_cases q : p < knp
  · rw [if_pos q]
    rw [decide_eq_false (by omega), Bool.or_false] at h1
    cases h2 : kop.testBit p
    · rw [h2] at h1; rw [(tb_n _ _).mp h1, (tb_n _ _).mp h2]
    · rw [h2] at h1; rw [(tb_iff _ _).mp h1, (tb_iff _ _).mp h2]
  · rw [if_neg q]
    rw [decide_eq_true (by omega), Bool.or_true] at h1
    exact (tb_iff _ _).mp h1
/-- what a corner has again -/
def bkU (told kt : Nat) (k : Nat → Nat) (c : Nat) : Nat := if told.testBit c = true ∧ kt.testBit c = true then k c else 0
def uA (A : AS) : AS := stA A (opU (A 0 10) (A 0 9) (A 0 1)) (A 0 11) (A 0 12) (A 0 13) (bkU (A 0 0) (A 0 8) (A 9)) (bkU (A 0 0) (A 0 8) (A 10)) (bkU (A 0 0) (A 0 8) (A 11))
section UN
variable {A : AS} {hx hm : HP} {N : Nat}
def PU (A : AS) (h0 : HP) (i : Nat) (h : HP) : Prop := (∀ k, k < 32 ∨ 35 ≤ k → h.1 k = h0.1 k) ∧ ∀ c, c < i → h.1 32 c = nI (bkU (A 0 0) (A 0 8) (A 9) c) ∧ h.1 33 c = nI (bkU (A 0 0) (A 0 8) (A 10) c) ∧ h.1 34 c = nI (bkU (A 0 0) (A 0 8) (A 11) c)
theorem PU.step {h0 h : HP} {i : Nat} (hp : PU A h0 i h) : PU A h0 (i + 1) (up (up (up h 32 i (nI (bkU (A 0 0) (A 0 8) (A 9) i))) 33 i (nI (bkU (A 0 0) (A 0 8) (A 10) i))) 34 i (nI (bkU (A 0 0) (A 0 8) (A 11) i))) := by
  refine ⟨fun k hk => ?_, fun c hc => ?_⟩
  · rw [up_n (by omega), up_n (by omega), up_n (by omega)]; exact hp.1 k hk
  · simp only [up_at]
    by_cases e : c = i
    · subst e; simp
    · obtain ⟨q1, q2, q3⟩ := hp.2 c (by omega)
      simp [e, q1, q2, q3]
theorem comeBack_l (w : WF A) (h7 : A 0 7 = 1) {h0 : HP} (rx : RX A h0) : ∀ n i h, i ≤ 16 → 16 - i < n → PU A h0 i h → ∃ h', xX5_comeBackTo_12 N n (nI (A 0 0 &&& A 0 8)) (nI i) h = some (0, h') ∧ RX (uA A) h' ∧ leX h0 h' := by
  obtain ⟨wa, wt, wp, wk⟩ := w
  have wk : WFs (A 0 8) (A 0 9) (A 0 10) (A 0 11) (A 0 12) (A 0 13) (A 9) (A 10) (A 11) := by
    rcases wk with q | q
    · omega
    · exact q.2
  have kx := rx.2.2.2.2 h7
  have sx := rx.2.1
  intro n
  induction n with
  | zero => intro i h _ q; omega
  | succ n ih =>
    intro i h hi hq hp
    rw [xX5_comeBackTo_12]
    dsimp only
    by_cases e : i = 16
    · subst e
      rw [if_pos (by decide)]
      refine ⟨_, rfl, rx.st (fun k hk => ?_) ?_, fun k h3 h4 => ?_⟩
      · rw [up_n (by omega), up_n (by omega), up_n (by omega), up_n (by omega)]; exact hp.1 k (by omega)
      · obtain ⟨k1, k2, k3, k4, k5, k6, -⟩ := kx
        obtain ⟨-, -, -, -, x5, x6, -⟩ := sx
        have e35 := hp.1 35 (by omega)
        have e31 := hp.1 31 (by omega)
        refine ⟨?_, ?_, ?_, ?_, ?_, ?_, fun c hc => ?_⟩
        · rw [up_at, if_neg (by decide), up_at, if_neg (by decide), up_at, if_neg (by decide), up_at, if_pos (by decide)]
          rw [e35, e31, k1, k6, x6, neg_pow _ (by have := wk.2.1; omega), pow_m1 _ (by have := wa.2.1; omega), or_nn, and_nn]
          rfl
        · simp [up_at, e35, k2]
        · simp [up_at, e35, k3]
        · simp [up_at, e35, k4]
        · simp [up_at, e31, x5]
        · simp [up_at, e31, x6]
        · rw [up_n (by omega), up_n (by omega), up_n (by omega), up_n (by omega), up_n (by omega), up_n (by omega), up_n (by omega), up_n (by omega), up_n (by omega), up_n (by omega), up_n (by omega), up_n (by omega)]
          exact hp.2 c hc
      · rw [up_n (by omega), up_n (by omega), up_n (by omega), up_n (by omega)]; exact hp.1 k (by omega)
    · have hc : i < 16 := by omega
      have e36 := hp.1 36 (by omega)
      have e37 := hp.1 37 (by omega)
      have e38 := hp.1 38 (by omega)
      obtain ⟨q1, q2, q3⟩ := kx.2.2.2.2.2.2 i hc
      have hlt : A 0 0 &&& A 0 8 < 2147483648 := by
        have := Nat.and_le_left (n := A 0 0) (m := A 0 8)
        have := wa.1
        omega
      rw [if_neg (by rw [l16, le_nn (by decide) (by omega)]; omega), hasBit_e (by omega) hlt, cl_s, Nat.testBit_and]
      have ih1 := ih (i + 1) _ (by omega) (by omega) hp.step
      unfold xX5_comeBackTo_45 xX5_comeBackTo_66 xX5_comeBackTo_87
      by_cases hb : (A 0 0).testBit i = true ∧ (A 0 8).testBit i = true
      · rw [hb.1, hb.2, Bool.and_self, b2_t]
        have e10 : ((1 : Int32) = 0) = False := by decide
        simp (disch := omega) only [e10, if_false, ald_n, ast_n, lt_e, nI_1, up_n, e36, e37, e38, q1, q2, q3]
        simp only [bkU, hb, and_self, if_true] at ih1
        exact ih1
      · have hb2 : ((A 0 0).testBit i && (A 0 8).testBit i) = false := by
          rw [Bool.and_eq_false_iff]
          cases h1 : (A 0 0).testBit i
          · exact Or.inl rfl
          · cases h2 : (A 0 8).testBit i
            · exact Or.inr rfl
            · exact absurd ⟨h1, h2⟩ hb
        rw [hb2, b2_f]
        simp (disch := omega) only [if_true, ald_n, ast_n, lt_e, nI_1]
        simp only [bkU, hb, if_false] at ih1
        exact ih1
theorem SMa_np {f : Nat → Int32} (s : SMa f A) : ∀ p, p < A 0 1 → f (48 + p) = nI (A 0 2 / 2 ^ p % 2) := s.2.1
/-- the reference's loops -/
def nw (A : AS) (r c : Nat) : Nat := if r = 0 then bkU (A 0 0) (A 0 8) (A 9) c else if r = 1 then bkU (A 0 0) (A 0 8) (A 10) c else bkU (A 0 0) (A 0 8) (A 11) c
def PV (A : AS) (h0 : HP) (i r : Nat) (h : HP) : Prop := (∀ k, k ≠ 1 → h.1 k = h0.1 k) ∧ (∀ c q, q < 3 → c < 16 → (c < i ∨ (c = i ∧ q < r)) → h.1 1 (16 * q + c) = nI (nw A q c))
theorem PV.step {h0 h : HP} {i r : Nat} (hi : i < 16) (hr : r < 3) (hp : PV A h0 i r h) : PV A h0 i (r + 1) (up h 1 (16 * r + i) (nI (nw A r i))) := by
  refine ⟨fun k hk => ?_, fun c q hq hc ho => ?_⟩
  · rw [up_n hk]; exact hp.1 k hk
  · rw [up_at]
    by_cases e : c = i ∧ q = r
    · rw [if_pos ⟨rfl, by omega⟩, e.1, e.2]
    · rw [if_neg (by omega)]
      exact hp.2 c q hq hc (by omega)
theorem undoM_in (w : WF A) (h7 : A 0 7 = 1) {h0 : HP} (rm : RM A h0) {K : Int32 → HP → Option (Int32 × HP)} {i : Nat} (hi : i < 16) {P : Option (Int32 × HP) → Prop} (hK : ∀ h, PV A h0 (i + 1) 0 h → P (K (nI (i + 1)) h)) : ∀ n r h, r ≤ 3 → 3 - r < n → PV A h0 i r h → P (xX11_undo_19 N K n (nI i) (nI (16 * r)) h) := by
  have w1 := w.1.1
  have wk : A 0 8 < 65536 := by
    rcases w.2.2.2 with q | q
    · omega
    · exact q.2.1
  obtain ⟨k1, k2, k3⟩ := rm.2.2.2.2 h7
  intro n
  induction n with
  | zero => intro r h _ q; omega
  | succ n ih =>
    intro r h hr hq hp
    rw [xX11_undo_19]
    dsimp only
    by_cases e : r = 3
    · subst e
      rw [if_pos (by decide), lt_e, nI_1]
      exact hK h ⟨hp.1, fun c q hq hc ho => hp.2 c q hq hc (by omega)⟩
    · have e0 := hp.1 0 (by omega)
      have e3 := hp.1 3 (by omega)
      rw [if_neg (by rw [l48, le_nn (by decide) (by omega)]; omega), isToldM w1 (by rw [e0]; exact rm.1.1), cl_s, tld_n hi]
      have ih1 := ih (r + 1) _ (by omega) (by omega) (hp.step hi (by omega))
      have ev : h.1 3 (16 * r + i) = nI (if r = 0 then A 9 i else if r = 1 then A 10 i else A 11 i) := by
        rw [e3]
        obtain ⟨m1, m2, m3⟩ := k3.1 i hi
        rcases (show r = 0 ∨ r = 1 ∨ r = 2 by omega) with rfl | rfl | rfl
        · simpa using m1
        · simpa using m2
        · simpa using m3
      have er : nI (16 * r) + 16 = nI (16 * (r + 1)) := by rw [l16, add_nn, Nat.mul_succ]
      unfold xX11_undo_62 xX11_undo_63
      cases h1 : (A 0 0).testBit i
      · rw [b2_f, if_pos rfl, add_nn, ast_n (by omega) (by decide), lt_e, er]
        simp only [nw, bkU, h1, Bool.false_eq_true, false_and, if_false, ite_self] at ih1
        exact ih1
      · rw [b2_t, if_neg (by decide), e0, k1, has_e (by omega) (by omega), cl_s]
        cases h2 : (A 0 8).testBit i
        · rw [b2_f, if_pos rfl, add_nn, ast_n (by omega) (by decide), lt_e, er]
          simp only [nw, bkU, h2, Bool.false_eq_true, and_false, if_false, ite_self] at ih1
          exact ih1
        · rw [b2_t, if_neg (by decide), add_nn, ald_n (by omega) (by decide), ast_n (by omega) (by decide), lt_e, er, ev]
          simp only [nw, bkU, h1, h2, and_self, if_true] at ih1
          exact ih1
def PW (A : AS) (h0 : HP) (i : Nat) (h : HP) : Prop := PV A h0 16 0 h ∧ ∀ p, p < i → h.1 1 (48 + p) = nI (opU (A 0 10) (A 0 9) (A 0 1) / 2 ^ p % 2)
theorem undoM_p (w : WF A) (h7 : A 0 7 = 1) {h0 : HP} (rm : RM A h0) : ∀ n i h, i ≤ A 0 1 → A 0 1 - i < n → PW A h0 i h → ∃ h', xX11_undo_80 N n (nI i) h = some (1, h') ∧ RM (uA A) h' ∧ leM h0 h' := by
  have w2 := w.1.2.1
  have wk : A 0 9 ≤ 24 := by
    rcases w.2.2.2 with q | q
    · omega
    · exact q.2.2.1
  obtain ⟨k1, k2, k3⟩ := rm.2.2.2.2 h7
  intro n
  induction n with
  | zero => intro i h _ q; omega
  | succ n ih =>
    intro i h hi hq hp
    have e0 := hp.1.1 0 (by omega)
    have e3 := hp.1.1 3 (by omega)
    rw [xX11_undo_80]
    dsimp only
    rw [e0, rm.1.2.1, k2]
    by_cases e : i = A 0 1
    · rw [if_pos (by rw [e, le_nn (by omega) (by omega)]; omega), l72, l73, l74]
      simp (disch := omega) only [ald_n, ast_n, up_n]
      rw [zok_1, e3, k3.2.2.1, k3.2.2.2.1, k3.2.2.2.2]
      refine ⟨_, rfl, rm.st (fun j _ => ?_) (fun k h3 h4 => ?_) ?_, ⟨?_, fun k h3 h4 => ?_⟩⟩
      · rw [up_n (by decide), up_n (by decide), up_n (by decide), e0]
      · rw [up_n (by omega), up_n (by omega), up_n (by omega)]; exact hp.1.1 k (by omega)
      · refine ⟨fun c hc => ?_, fun p hp1 => ?_, ?_, ?_, ?_⟩
        · have q1 := hp.1.2 c 0 (by omega) hc (by omega)
          have q2 := hp.1.2 c 1 (by omega) hc (by omega)
          have q3 := hp.1.2 c 2 (by omega) hc (by omega)
          simp only [Nat.mul_zero, Nat.zero_add] at q1
          refine ⟨?_, ?_, ?_⟩
          · rw [up_at, if_neg (by omega), up_at, if_neg (by omega), up_at, if_neg (by omega), q1]; rfl
          · rw [up_at, if_neg (by omega), up_at, if_neg (by omega), up_at, if_neg (by omega), q2]; rfl
          · rw [up_at, if_neg (by omega), up_at, if_neg (by omega), up_at, if_neg (by omega), show 32 + c = 16 * 2 + c by omega, q3]; rfl
        · rw [up_at, if_neg (by omega), up_at, if_neg (by omega), up_at, if_neg (by omega)]
          exact hp.2 p (by omega)
        · simp [up_at]
        · simp [up_at]
        · simp [up_at]
      · rw [up_n (by decide), up_n (by decide), up_n (by decide), e0]
      · rw [up_n (by omega), up_n (by omega), up_n (by omega)]; exact hp.1.1 k (by omega)
    · have hpi : i < A 0 1 := by omega
      rw [if_neg (by rw [le_nn (by omega) (by omega)]; omega)]
      have e48 : (48 : Int32) + nI i = nI (48 + i) := by rw [l48, add_nn]
      have ih1 := ih (i + 1) (up h 1 (48 + i) (nI (opU (A 0 10) (A 0 9) (A 0 1) / 2 ^ i % 2))) (by omega) (by omega) ⟨⟨fun k hk => by rw [up_n hk]; exact hp.1.1 k hk, fun c q h1 h2 h3 => by rw [up_at, if_neg (by omega)]; exact hp.1.2 c q h1 h2 h3⟩, fun p h1 => by
        rw [up_at]
        by_cases e2 : p = i
        · rw [if_pos ⟨rfl, by omega⟩, e2]
        · rw [if_neg (by omega)]; exact hp.2 p (by omega)⟩
      unfold xX11_undo_117
      rw [opU_b wk w2 hpi] at ih1
      by_cases q : i < A 0 9
      · rw [if_neg (by rw [le_nn (by omega) (by omega)]; omega), e48, ald_n (by omega) (by decide), ast_n (by omega) (by decide), lt_e, nI_1, e3, k3.2.1 i q]
        rw [if_pos q] at ih1
        exact ih1
      · rw [if_pos (by rw [le_nn (by omega) (by omega)]; omega), e48, ast_n (by omega) (by decide), lt_e, nI_1]
        rw [if_neg q] at ih1
        exact ih1
theorem undoM_o (hN : 100 ≤ N) (w : WF A) (h7 : A 0 7 = 1) {h0 : HP} (rm : RM A h0) : ∀ n i h, i ≤ 16 → 16 - i < n → PV A h0 i 0 h → ∃ h', xX11_undo_11 N n (nI i) h = some (1, h') ∧ RM (uA A) h' ∧ leM h0 h' := by
  intro n
  induction n with
  | zero => intro i h _ q; omega
  | succ n ih =>
    intro i h hi hq hp
    rw [xX11_undo_11]
    dsimp only
    by_cases e : i = 16
    · subst e
      rw [if_pos (by decide)]
      exact undoM_p w h7 rm N 0 h (by omega) (by have := w.1.2.1; omega) ⟨hp, fun p hp => by omega⟩
    · rw [if_neg (by rw [l16, le_nn (by decide) (by omega)]; omega)]
      exact undoM_in (N := N) w h7 rm (by omega) (P := fun d => ∃ h', d = some (1, h') ∧ RM (uA A) h' ∧ leM h0 h') (fun h1 hp1 => ih (i + 1) h1 (by omega) (by omega) hp1) N 0 h (by omega) (by omega) hp
theorem WF.u (w : WF A) (h7 : A 0 7 = 1) : WF (uA A) := by
  obtain ⟨⟨a1, a2, a3, a4, a5, a6, a7, a8⟩, wt, wp, wk⟩ := id w
  have wk : WFs (A 0 8) (A 0 9) (A 0 10) (A 0 11) (A 0 12) (A 0 13) (A 9) (A 10) (A 11) := by
    rcases wk with q | q
    · omega
    · exact q.2
  obtain ⟨b1, b2, b3, b4, b5, b6, b7, b8⟩ := wk
  refine w.st ⟨a1, a2, opU_lt, b4, b5, b6, fun c hc => ?_, fun c hc ht => ?_⟩
  · obtain ⟨q1, q2, q3⟩ := b7 c hc
    unfold bkU
    split
    · exact ⟨q1, q2, q3⟩
    · exact ⟨by omega, by omega, by omega⟩
  · unfold bkU
    simp [ht]
theorem c_undo (hN : 100 ≤ N) (w : WF A) (rx : RX A hx) (rm : RM A hm) : CC (xX10_undo N hx) (xX11_undo N hm) hx hm := by
  unfold xX10_undo xX11_undo xX10_undo_18
  rw [rx.2.2.2.1, rm.2.2.2.1]
  rcases w.2.2.2 with h7 | ⟨h7, -⟩
  · rw [h7, ← l0, if_pos rfl, zok_0, if_neg (by decide), zok_0]
    exact (QQ.rf 0 rfl rfl).cc w rx rm
  · rw [h7, ← l1, if_neg (by decide), if_pos (by decide)]
    obtain ⟨h1, e1, r1, k1⟩ := comeBack_l (N := N) w h7 rx N 0 hx (by omega) (by omega) ⟨fun _ _ => rfl, fun c hc => by omega⟩
    obtain ⟨h2, e2, r2, k2⟩ := undoM_o hN w h7 rm N 0 hm (by omega) (by omega) ⟨fun _ _ => rfl, fun c q _ _ hc => by omega⟩
    unfold xX5_comeBackTo
    have kx := rx.2.2.2.2 h7
    rw [lt_e, rx.2.1.2.2.2.2.1, kx.2.2.2.2.1, and_nn]
    rw [l0] at *
    rw [e1, cl_s, e2, r1.2.2.2.1, show uA A 0 7 = 1 from h7, ← l1, zok_1]
    exact ⟨1, h1, h2, uA A, rfl, rfl, w.u h7, r1, r2, k1, k2⟩
end UN
