/-! ===== highest; sums ===== -/
def lvl (A : AS) (c : Nat) : Nat := A 1 c + A 5 c
def hb (A : AS) : Nat → Option Nat
  | 0 => none
  | c + 1 => if (A 0 0).testBit c = true then (match hb A c with | none => some c | some b => if lvl A b < lvl A c then some c else some b) else hb A c
def oI (o : Option Nat) : Int32 := match o with | some b => nI b | none => -2
def oL (A : AS) (o : Option Nat) : Int32 := match o with | some b => nI (lvl A b) | none => -2
theorem hb_lt (A : AS) : ∀ c b, hb A c = some b → b < c := by
  intro c
  induction c with
  | zero => intro b h; cases h
  | succ c ih =>
    intro b h
    simp only [hb] at h
    split at h
    · split at h
      · cases h; omega
      · rename_i b0 e
        have := ih b0 e
        split at h <;> cases h <;> omega
    · have := ih b h; omega
section HI
variable {A : AS} {hx hm : HP} {N : Nat}
theorem lvl_lt (w : WF A) {c : Nat} (hc : c < 16) : lvl A c < 20000 := by
  have h1 := w.2.1.1 c hc
  have h2 := (w.1.2.2.2.2.2.2.1 c hc).1
  unfold lvl
  omega
theorem highX_l (w : WF A) {h : HP} (a : Int32) (rt : TX A h) (rs : SXa 31 A h) : ∀ n i, i ≤ 16 → 16 - i < n → xX10_highest_20 N n a (oI (hb A i)) (oL A (hb A i)) (nI i) h = some (if a = 0 then oI (hb A 16) else oL A (hb A 16), h) := by
  have w1 := w.1.1
  generalize hF : (if a = 0 then oI (hb A 16) else oL A (hb A 16)) = F
  intro n
  induction n with
  | zero => intro i _ q; omega
  | succ n ih =>
    intro i hi hq
    rw [xX10_highest_20]
    dsimp only
    by_cases e : i = 16
    · subst e
      rw [if_pos (by decide), ← hF]
      unfold xX10_highest_104
      by_cases a0 : a = 0 <;> simp [a0]
    · have hc : i < 16 := by omega
      have ih1 := ih (i + 1) (by omega) (by omega)
      have hl := lvl_lt w hc
      rw [if_neg (by rw [l16, le_nn (by decide) (by omega)]; omega), isToldX w1 rt.1, cl_s, tld_n hc]
      unfold xX10_highest_89
      simp only [hb] at ih1
      cases ht : (A 0 0).testBit i
      · rw [b2_f, if_pos rfl, lt_e, nI_1]
        simpa [ht, oI, oL, lt_e] using ih1
      · rw [b2_t, if_neg (by decide), ald_n hc (by decide), ald_n hc (by decide), ald_n hc (by decide), ald_n hc (by decide), rt.2.2.1 i hc, (rs.2.2.2.2.2.2 i hc).1, add_nn, lt_e, lt_e, lt_e, nI_1, show A 1 i + A 5 i = lvl A i from rfl]
        cases hh : hb A i with
        | none =>
          rw [hh] at ih1
          rw [if_neg (by rw [i_le, i_n (by omega)]; show ¬ ((lvl A i : Int) ≤ (-2 : Int32).toInt); rw [i_m2]; omega)]
          simpa [ht, oI, oL, lt_e] using ih1
        | some b =>
          have hbl := hb_lt A i b hh
          have := lvl_lt w (show b < 16 by omega)
          rw [hh] at ih1
          by_cases q : lvl A b < lvl A i
          · rw [if_neg (by show ¬ nI (lvl A i) ≤ nI (lvl A b); rw [le_nn (by omega) (by omega)]; omega)]
            simpa [ht, q, oI, oL, lt_e] using ih1
          · rw [if_pos (by show nI (lvl A i) ≤ nI (lvl A b); rw [le_nn (by omega) (by omega)]; omega)]
            simpa [ht, q, oI, oL, lt_e] using ih1
theorem levelOf_e {h : HP} (rt : TM A h) (rs : SMa (h.1 1) A) {c : Nat} (hc : c < 16) : xX11_levelOf (nI c) h = some (nI (lvl A c), h) := by
  unfold xX11_levelOf
  rw [ald_n hc (by decide), l0, add_nn, Nat.zero_add, ald_n (by omega) (by decide), rt.2.2.1 c hc, (rs.1 c hc).1, add_nn]
  rfl
theorem highM_l (w : WF A) {h : HP} (a : Int32) (rt : TM A h) (rs : SMa (h.1 1) A) : ∀ n i, i ≤ 16 → 16 - i < n → xX11_highest_16 N n a (oI (hb A i)) (nI i) h = some (if a = 0 then oI (hb A 16) else oL A (hb A 16), h) := by
  have w1 := w.1.1
  generalize hF : (if a = 0 then oI (hb A 16) else oL A (hb A 16)) = F
  intro n
  induction n with
  | zero => intro i _ q; omega
  | succ n ih =>
    intro i hi hq
    rw [xX11_highest_16]
    dsimp only
    by_cases e : i = 16
    · subst e
      rw [if_pos (by decide), ← hF]
      unfold xX11_highest_67 xX11_highest_76
      by_cases a0 : a = 0
      · simp [a0]
      · rw [if_neg a0, if_neg a0]
        cases hh : hb A 16 with
        | none => rw [if_neg (by simp [oI])]; rfl
        | some b =>
          have hbl := hb_lt A 16 b hh
          rw [if_pos (by show nI b ≠ -2; exact nn_m2 (by omega))]
          show (cl (xX11_levelOf (nI b) h) fun t1 h2 => some (t1, h2)) = _
          rw [levelOf_e rt rs hbl, cl_s]
          rfl
    · have hc : i < 16 := by omega
      have ih1 := ih (i + 1) (by omega) (by omega)
      have hl := lvl_lt w hc
      rw [if_neg (by rw [l16, le_nn (by decide) (by omega)]; omega), isToldM w1 rt.1, cl_s, tld_n hc]
      unfold xX11_highest_49 xX11_highest_51
      simp only [hb] at ih1
      cases ht : (A 0 0).testBit i
      · rw [b2_f, if_pos rfl, lt_e, nI_1]
        simpa [ht, oI, oL, lt_e] using ih1
      · rw [b2_t, if_neg (by decide), lt_e, nI_1]
        cases hh : hb A i with
        | none =>
          rw [hh] at ih1
          rw [if_pos (by rfl)]
          simpa [ht, oI, oL, lt_e] using ih1
        | some b =>
          have hbl := hb_lt A i b hh
          have := lvl_lt w (show b < 16 by omega)
          rw [hh] at ih1
          rw [if_neg (by show ¬ nI b = -2; exact nn_m2 (by omega)), levelOf_e rt rs hc, cl_s]
          show (cl (xX11_levelOf (nI b) h) fun t7 h8 => _) = _
          rw [levelOf_e rt rs (by omega), cl_s]
          by_cases q : lvl A b < lvl A i
          · rw [if_neg (by rw [le_nn (by omega) (by omega)]; omega)]
            simpa [ht, q, oI, oL, lt_e] using ih1
          · rw [if_pos (by rw [le_nn (by omega) (by omega)]; omega)]
            simpa [ht, q, oI, oL, lt_e] using ih1
theorem q_highest (hN : 100 ≤ N) (w : WF A) (rx : RX A hx) (rm : RM A hm) (a : Int32) : QQ (xX10_highest N a hx) (xX11_highest N a hm) hx hm := by
  unfold xX10_highest xX11_highest xX10_highest_9
  rw [inM_e, cl_s]
  by_cases h1 : a < 0
  · exact QQ.rf (-1) (by rw [if_pos h1]) (by rw [decide_eq_false (fun z => z.1 h1), b2_f, if_neg (by decide)])
  · by_cases h2 : a ≤ 1
    · have e1 : xX10_highest_20 N N a (-2) (-2) 0 hx = _ := highX_l w a rx.1 rx.2.1 N 0 (by omega) (by omega)
      have e2 : xX11_highest_16 N N a (-2) 0 hm = _ := highM_l w a rm.1 rm.2.1 N 0 (by omega) (by omega)
      rw [if_neg h1, if_pos h2, decide_eq_true ⟨h1, Int32.not_lt.mpr h2⟩, b2_t, if_pos (by decide), e1, e2]
      exact QQ.rf _ rfl rfl
    · exact QQ.rf (-1) (by rw [if_neg h1, if_neg h2]) (by rw [decide_eq_false (fun z => h2 (Int32.not_lt.mp z.2)), b2_f, if_neg (by decide)])
/-! sums -/
def sm (f : Nat → Nat) : Nat → Nat
  | 0 => 0
  | c + 1 => sm f c + f c
theorem allSo_l {k : Nat} {h : HP} {f : Nat → Nat} (hf : ∀ c, c < 16 → h.1 (k + 1) c = nI (f c)) : ∀ n i, i ≤ 16 → 16 - i < n → xX5_allSorrow_4 N k n (nI (sm f i)) (nI i) h = some (nI (sm f 16), h) := by
  intro n
  induction n with
  | zero => intro i _ q; omega
  | succ n ih =>
    intro i hi hq
    rw [xX5_allSorrow_4]
    dsimp only
    by_cases e : i = 16
    · subst e
      rw [if_pos (by decide)]
    · rw [if_neg (by rw [l16, le_nn (by decide) (by omega)]; omega), ald_n (by omega) (by decide), lt_e, lt_e, hf i (by omega), add_nn, nI_1]
      exact ih (i + 1) (by omega) (by omega)
theorem allSo_e {k : Nat} {h : HP} {f : Nat → Nat} (hN : 100 ≤ N) (hf : ∀ c, c < 16 → h.1 (k + 1) c = nI (f c)) : xX5_allSorrow N k h = some (nI (sm f 16), h) := allSo_l (N := N) hf N 0 (by omega) (by omega)
theorem allWe_l {h : HP} {f : Nat → Nat} (hf : ∀ c, c < 16 → h.1 34 c = nI (f c)) : ∀ n i, i ≤ 16 → 16 - i < n → xX5_allWept_4 N n (nI (sm f i)) (nI i) h = some (nI (sm f 16), h) := by
  intro n
  induction n with
  | zero => intro i _ q; omega
  | succ n ih =>
    intro i hi hq
    rw [xX5_allWept_4]
    dsimp only
    by_cases e : i = 16
    · subst e
      rw [if_pos (by decide)]
    · rw [if_neg (by rw [l16, le_nn (by decide) (by omega)]; omega), ald_n (by omega) (by decide), lt_e, lt_e, hf i (by omega), add_nn, nI_1]
      exact ih (i + 1) (by omega) (by omega)
theorem allWe_e {h : HP} {f : Nat → Nat} (hN : 100 ≤ N) (hf : ∀ c, c < 16 → h.1 34 c = nI (f c)) : xX5_allWept N h = some (nI (sm f 16), h) := allWe_l (N := N) hf N 0 (by omega) (by omega)
theorem sumOf_l (w1 : A 0 0 < 65536) {h : HP} {f : Nat → Nat} {r : Nat} (hr : r ≤ 32) (rt : h.1 0 7 = nI (A 0 0)) (hf : ∀ c, c < 16 → h.1 1 (r + c) = nI (f c)) (h0 : ∀ c, c < 16 → (A 0 0).testBit c = false → f c = 0) : ∀ n i, i ≤ 16 → 16 - i < n → xX11_sumOf_4 N n (nI r) (nI (sm f i)) (nI i) h = some (nI (sm f 16), h) := by
  intro n
  induction n with
  | zero => intro i _ q; omega
  | succ n ih =>
    intro i hi hq
    rw [xX11_sumOf_4]
    dsimp only
    by_cases e : i = 16
    · subst e
      rw [if_pos (by decide)]
    · have hc : i < 16 := by omega
      have ih1 := ih (i + 1) (by omega) (by omega)
      rw [if_neg (by rw [l16, le_nn (by decide) (by omega)]; omega), isToldM w1 rt, cl_s, tld_n hc]
      unfold xX11_sumOf_29
      cases ht : (A 0 0).testBit i
      · rw [b2_f, if_pos rfl, lt_e, nI_1, ← ih1]
        simp [sm, h0 i hc ht]
      · rw [b2_t, if_neg (by decide), add_nn, ald_n (by omega) (by decide), hf i hc, lt_e, add_nn, lt_e, nI_1, ← ih1]
        rfl
theorem sumOf_e (hN : 100 ≤ N) (w1 : A 0 0 < 65536) {h : HP} {f : Nat → Nat} {r : Nat} (hr : r ≤ 32) (rt : h.1 0 7 = nI (A 0 0)) (hf : ∀ c, c < 16 → h.1 1 (r + c) = nI (f c)) (h0 : ∀ c, c < 16 → (A 0 0).testBit c = false → f c = 0) : xX11_sumOf N (nI r) h = some (nI (sm f 16), h) := sumOf_l (N := N) w1 hr rt hf h0 N 0 (by omega) (by omega)
theorem openPipes_l (hn : A 0 1 ≤ 24) {h : HP} {op : Nat} (t : TM A h) (s : ∀ p, p < A 0 1 → h.1 1 (48 + p) = nI (op / 2 ^ p % 2)) : ∀ n i, i ≤ A 0 1 → A 0 1 - i < n → xX11_openPipes_4 N n (nI (pc op i)) (nI i) h = some (nI (pc op (A 0 1)), h) := by
  intro n
  induction n with
  | zero => intro i _ q; omega
  | succ n ih =>
    intro i hi hq
    rw [xX11_openPipes_4]
    dsimp only
    rw [t.2.1]
    by_cases e : i = A 0 1
    · rw [if_pos (by rw [e, le_nn (by omega) (by omega)]; omega), e]
    · have ih1 := ih (i + 1) (by omega) (by omega)
      rw [if_neg (by rw [le_nn (by omega) (by omega)]; omega), isOpen_e hn t s (by omega), cl_s, decide_eq_true (show i < A 0 1 by omega), Bool.true_and]
      unfold xX11_openPipes_24
      cases hb : op.testBit i
      · rw [b2_f, if_pos rfl, lt_e, nI_1, ← ih1]
        simp [pc, (tb_n _ _).mp hb]
      · rw [b2_t, if_neg (by decide), lt_e, lt_e, nI_1, nI_1, ← ih1]
        simp only [pc]
        rw [(tb_iff _ _).mp hb]
theorem openPipes_e (hN : 100 ≤ N) (hn : A 0 1 ≤ 24) {h : HP} {op : Nat} (t : TM A h) (s : ∀ p, p < A 0 1 → h.1 1 (48 + p) = nI (op / 2 ^ p % 2)) : xX11_openPipes N h = some (nI (pc op (A 0 1)), h) := openPipes_l (N := N) hn t s N 0 (by omega) (by omega)
end HI
