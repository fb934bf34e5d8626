/-! ===== the tape: gives, byteAt; check, readings ===== -/
def gvX (h : HP) (a : Int32) : HP := up (up (up (up h 1 1 0) 1 2 0) 1 3 a) 1 4 0
theorem gvX_n {h : HP} {a : Int32} {k : Nat} (hk : k ≠ 1) : (gvX h a).1 k = h.1 k := by
  unfold gvX
  rw [up_n hk, up_n hk, up_n hk, up_n hk]
theorem gives_e (h : HP) (a lo hi : Int32) : xX7_gives a lo hi h = if ¬ a < lo ∧ ¬ hi < a ∧ a ≤ h.1 1 1 then some (1, gvX h a) else some (0, h) := by
  unfold xX7_gives xX7_gives_18
  by_cases h1 : a < lo
  · rw [if_pos h1, zok_0, if_neg (fun q => q.1 h1)]
  · rw [if_neg h1]
    by_cases h2 : hi < a
    · rw [if_pos h2, zok_0, if_neg (fun q => q.2.1 h2)]
    · rw [if_neg h2]
      by_cases h3 : a ≤ h.1 1 1
      · rw [if_pos h3, if_pos ⟨h1, h2, h3⟩]
        simp only [lt_e, zok_1]
        rfl
      · rw [if_neg h3, zok_0, if_neg (fun q => h3 q.2.2)]
section TP
variable {A : AS} {hx hm : HP} {N : Nat}
theorem RX.gv {A : AS} {h : HP} (r : RX A h) (a : Int32) : RX (tpA A 0 (A 8)) (gvX h a) :=
  r.tp (fun k h1 _ _ => gvX_n h1) (by unfold gvX; simp [up_at]; rfl) (fun i hi => by omega)
theorem RM.gv {A : AS} {h : HP} (r : RM A h) : RM (tpA A 0 (A 8)) (up h 0 10 0) :=
  r.tp (fun j _ hj => by rw [up_at, if_neg (by omega)]) (fun k hk => up_n (by omega)) (by simp [up_at]; rfl) (fun i hi => by omega)
theorem WF.gv {A : AS} (w : WF A) : WF (tpA A 0 (A 8)) := w.tp (by omega) (fun i hi => by omega)
theorem leX.gv (h : HP) (a : Int32) : leX h (gvX h a) := fun k h1 h2 => gvX_n (by omega)
theorem leM.gv (h : HP) : leM h (up h 0 10 0) := ⟨by rw [up_at, if_neg (by omega)], fun k h1 h2 => up_n (by omega)⟩
/-- while the first m bytes are read -/
def BX (A : AS) (m : Nat) (h : HP) : Prop := m ≤ 260 ∧ h.1 1 3 = nI m ∧ ∀ i, i < m → h.1 2 i = nI (A 8 i)
def BM (A : AS) (m : Nat) (h : HP) : Prop := m ≤ 260 ∧ ∀ i, i < m → h.1 8 i &&& 255 = nI (A 8 i)
theorem BX.of {h : HP} {m : Nat} (w : WF A) (r : RX A h) (hm : m ≤ A 0 6) : BX A m (gvX h (nI m)) :=
  ⟨by have := w.2.2.1.1; omega, by unfold gvX; simp [up_at], fun i hi => by rw [gvX_n (by decide)]; exact r.2.2.1.2 i (by omega)⟩
theorem BM.of {h : HP} {m : Nat} (w : WF A) (r : RM A h) (hm : m ≤ A 0 6) : BM A m (up h 0 10 0) :=
  ⟨by have := w.2.2.1.1; omega, fun i hi => by rw [up_n (by decide)]; exact r.2.2.1.2 i (by omega)⟩
theorem byteAt_e {h : HP} {m i : Nat} (b : BX A m h) (hi : i < m) : xX7_byteAt (nI i) h = some (nI (A 8 i), h) := by
  unfold xX7_byteAt xX7_byteAt_21 xX7_byteAt_22
  have := b.1
  rw [l0, b.2.1, if_neg (by rw [lt_nn (by omega) (by decide)]; omega), if_neg (by rw [le_nn (by omega) (by omega)]; omega), ald_n (by omega) (by decide), b.2.2 i hi]
theorem octet_e {h : HP} {m i : Nat} (b : BM A m h) (hi : i < m) : xX11_octet (nI i) h = some (nI (A 8 i), h) := by
  unfold xX11_octet
  have := b.1
  rw [ald_n (by omega) (by decide), b.2 i hi]
/-- the n bytes asked for, on both sides -/
theorem gv_iff {a lo hi : Int32} {h : HP} (hlo : ¬ lo < 0) (r : h.1 1 1 = nI (A 0 6)) (hq : ¬ a < lo ∧ ¬ hi < a ∧ a ≤ h.1 1 1) (hA : A 0 6 ≤ 260) : ∃ m, m ≤ A 0 6 ∧ a = nI m := by
  have h0 : ¬ a < 0 := by
    have := hq.1
    rw [i_lt] at this hlo ⊢
    omega
  obtain ⟨m, hm, e⟩ := nI_of h0
  refine ⟨m, ?_, e⟩
  have := hq.2.2
  rw [r, e, le_nn hm (by omega)] at this
  exact this
/-! check -/
def due (A : AS) (c : Nat) : Nat := if (A 0 0).testBit c = true then A 6 c else 255
def ck (A : AS) (m : Nat) : Nat → Nat → Int32
  | 0, _ => -1
  | n + 1, i => if m ≤ i then -1 else if A 8 i = due A i then ck A m n (i + 1) else nI i
theorem due_lt (w : WF A) {c : Nat} (hc : c < 16) : due A c < 256 := by
  unfold due
  split
  · have := w.1.2.2.2.2.2.2.1 c hc; omega
  · omega
theorem checkX_l {A0 : AS} (w : WF A0) (w8 : ∀ i, i < 16 → A0 8 i < 256 ∨ True) {h : HP} {m : Nat} (rt : TX A0 h) (rs : SXa 31 A0 h) (b : BX A0 m h) (hm : m ≤ 16) (hb : ∀ i, i < m → A0 8 i < 256) : ∀ n i, i ≤ m → m - i < n → xX10_check_19 N n (nI m) (nI i) h = some (ck A0 m n i, h) := by
  have w1 := w.1.1
  intro n
  induction n with
  | zero => intro i _ q; omega
  | succ n ih =>
    intro i hi hq
    rw [xX10_check_19]
    dsimp only
    simp only [ck]
    by_cases e : i = m
    · rw [if_pos (by rw [le_nn (by omega) (by omega)]; omega), if_pos (by omega)]
    · have hc : i < 16 := by omega
      have d := due_lt w hc
      have hbi := hb i (by omega)
      rw [if_neg (by rw [le_nn (by omega) (by omega)]; omega), if_neg (by omega), isToldX w1 rt.1, cl_s, tld_n hc]
      unfold xX10_check_50
      have key : ∀ v : Nat, v = due A0 i → (cl (xX7_byteAt (nI i) h) fun t1 h2 => if t1 = nI v then lt (nI i + 1) fun v3 => xX10_check_19 N n (nI m) v3 h2 else some (nI i, h2)) = some (if A0 8 i = due A0 i then ck A0 m n (i + 1) else nI i, h) := by
        intro v hv
        rw [byteAt_e b (by omega), cl_s]
        by_cases q : A0 8 i = due A0 i
        · rw [if_pos (by rw [q, hv]), if_pos q, lt_e, nI_1, ih (i + 1) (by omega) (by omega)]
        · rw [if_neg (by rw [eq_nn (by omega) (by omega), hv]; exact q), if_neg q]
      cases ht : (A0 0 0).testBit i
      · rw [b2_f, if_pos rfl, l255, key 255 (by simp [due, ht])]
      · rw [b2_t, if_neg (by decide), ald_n hc (by decide), (rs.2.2.2.2.2.2 i hc).2.1, key _ (by simp [due, ht])]
theorem checkM_l {A0 : AS} (w : WF A0) {h : HP} {m : Nat} (rt : TM A0 h) (rs : SMa (h.1 1) A0) (b : BM A0 m h) (hm : m ≤ 16) (hb : ∀ i, i < m → A0 8 i < 256) : ∀ n i, i ≤ m → m - i < n → xX11_check_28 N n (nI m) (nI i) h = some (ck A0 m n i, h) := by
  have w1 := w.1.1
  intro n
  induction n with
  | zero => intro i _ q; omega
  | succ n ih =>
    intro i hi hq
    rw [xX11_check_28]
    dsimp only
    simp only [ck]
    by_cases e : i = m
    · rw [if_pos (by rw [le_nn (by omega) (by omega)]; omega), if_pos (by omega)]
    · have hc : i < 16 := by omega
      have d := due_lt w hc
      have hbi := hb i (by omega)
      rw [if_neg (by rw [le_nn (by omega) (by omega)]; omega), if_neg (by omega), octet_e b (by omega), cl_s, isToldM w1 rt.1, cl_s, tld_n hc]
      unfold xX11_check_61
      have key : ∀ v : Nat, v = due A0 i → (if nI (A0 8 i) = nI v then lt (nI i + 1) fun v1 => xX11_check_28 N n (nI m) v1 h else some (nI i, h)) = some (if A0 8 i = due A0 i then ck A0 m n (i + 1) else nI i, h) := by
        intro v hv
        by_cases q : A0 8 i = due A0 i
        · rw [if_pos (by rw [q, hv]), if_pos q, lt_e, nI_1, ih (i + 1) (by omega) (by omega)]
        · rw [if_neg (by rw [eq_nn (by omega) (by omega), hv]; exact q), if_neg q]
      cases ht : (A0 0 0).testBit i
      · rw [b2_f, if_pos rfl, l255, key 255 (by simp [due, ht])]
      · rw [b2_t, if_neg (by decide), l16, add_nn, ald_n (by omega) (by decide), (rs.1 i hc).2.1, key _ (by simp [due, ht])]
theorem TX.gv {A : AS} {h : HP} (t : TX A h) (a : Int32) : TX A (gvX h a) := by
  obtain ⟨t1, t2, t3, t4⟩ := t
  exact ⟨by rw [gvX_n (by decide)]; exact t1, by rw [gvX_n (by decide)]; exact t2, fun c hc => by rw [gvX_n (by decide)]; exact t3 c hc, fun p hp => by rw [gvX_n (by decide), gvX_n (by decide), gvX_n (by decide)]; exact t4 p hp⟩
theorem TM.gv {A : AS} {h : HP} (t : TM A h) : TM A (up h 0 10 0) := by
  obtain ⟨t1, t2, t3, t4⟩ := t
  exact ⟨by rw [up_at, if_neg (by omega)]; exact t1, by rw [up_at, if_neg (by omega)]; exact t2, fun c hc => by rw [up_n (by decide)]; exact t3 c hc, fun p hp => by rw [up_n (by decide), up_n (by decide), up_n (by decide)]; exact t4 p hp⟩
theorem c_check (hN : 100 ≤ N) (w : WF A) (rx : RX A hx) (rm : RM A hm) (a : Int32) : CC (xX10_check N a hx) (xX11_check N a hm) hx hm := by
  have wp := w.2.2.1
  unfold xX10_check xX11_check xX11_check_18
  rw [gives_e, inM_e, cl_s, rm.2.2.1.1, ← rx.2.2.1.1]
  by_cases hq : ¬ a < 0 ∧ ¬ (16 : Int32) < a ∧ a ≤ hx.1 1 1
  · obtain ⟨m, hm1, e⟩ := gv_iff (by decide) rx.2.2.1.1 hq wp.1
    subst e
    have hm2 : m ≤ 16 := by
      have := hq.2.1
      rw [l16, lt_nn (by decide) (by omega)] at this
      omega
    rw [if_pos hq, cl_s, if_pos (by decide), if_neg (by rw [b2_0, decide_eq_false_iff_not]; intro z; exact z ⟨hq.1, hq.2.1⟩), if_pos hq.2.2, lt_e]
    have e1 : xX10_check_19 N N (nI m) 0 (gvX hx (nI m)) = some (ck A m N 0, gvX hx (nI m)) := checkX_l w (fun _ _ => Or.inr trivial) (rx.1.gv _) (rx.2.1.keep (fun k h1 h2 => gvX_n (by omega))) (BX.of w rx hm1) hm2 (fun i hi => wp.2 i (by omega)) N 0 (by omega) (by omega)
    have e2 : xX11_check_28 N N (nI m) 0 (up hm 0 10 0) = some (ck A m N 0, up hm 0 10 0) := checkM_l w (rm.1.gv) (by rw [up_n (by decide)]; exact rm.2.1) (BM.of w rm hm1) hm2 (fun i hi => wp.2 i (by omega)) N 0 (by omega) (by omega)
    rw [e1, e2]
    exact ⟨_, _, _, tpA A 0 (A 8), rfl, rfl, w.gv, rx.gv _, rm.gv, leX.gv _ _, leM.gv _⟩
  · rw [if_neg hq, cl_s, if_neg (by decide)]
    refine (QQ.rf (-2) rfl ?_).cc w rx rm
    by_cases h2 : ¬ a < 0 ∧ ¬ (16 : Int32) < a
    · rw [if_neg (by rw [b2_0, decide_eq_false_iff_not]; intro z; exact z h2), if_neg (fun z => hq ⟨h2.1, h2.2, z⟩)]
    · rw [if_pos (by rw [b2_0, decide_eq_false_iff_not]; exact h2)]
/-! readings -/
/-- which, where, most, all, place; one corner more -/
def rd1 (A : AS) (c : Nat) (s : Nat × Int32 × Nat × Nat × Nat) : Nat × Int32 × Nat × Nat × Nat :=
  if (A 0 0).testBit c = true then
    (if A 8 s.2.2.2.2 ≤ A 8 (s.2.2.2.2 + 1) then (s.1, s.2.1, s.2.2.1, s.2.2.2.1, s.2.2.2.2 + 2)
     else (s.1 ||| 2 ^ c, (if s.2.2.1 < A 8 s.2.2.2.2 - A 8 (s.2.2.2.2 + 1) then nI c else s.2.1), (if s.2.2.1 < A 8 s.2.2.2.2 - A 8 (s.2.2.2.2 + 1) then A 8 s.2.2.2.2 - A 8 (s.2.2.2.2 + 1) else s.2.2.1), s.2.2.2.1 + (A 8 s.2.2.2.2 - A 8 (s.2.2.2.2 + 1)), s.2.2.2.2 + 2))
  else s
def rdA (A : AS) : Nat → Nat × Int32 × Nat × Nat × Nat
  | 0 => (0, -2, 0, 0, 0)
  | c + 1 => rd1 A c (rdA A c)
def rdV (a : Int32) (s : Nat × Int32 × Nat × Nat × Nat) : Int32 := if a = 0 then nI s.1 else if a = 1 then s.2.1 else nI s.2.2.2.1
theorem rd_place (A : AS) : ∀ c, (rdA A c).2.2.2.2 = 2 * pc (A 0 0) c := by
  intro c
  induction c with
  | zero => rfl
  | succ c ih =>
    simp only [rdA, rd1, pc]
    cases ht : (A 0 0).testBit c
    · rw [(tb_n _ _).mp ht]; simpa using ih
    · rw [(tb_iff _ _).mp ht]
      simp only [if_true]
      split <;> simp only [ih] <;> omega
theorem pc_mono (n : Nat) : ∀ j k, j ≤ k → pc n j ≤ pc n k := by
  intro j k
  induction k with
  | zero => intro h; rw [show j = 0 by omega]; exact Nat.le_refl _
  | succ k ih =>
    intro h
    by_cases e : j = k + 1
    · rw [e]; exact Nat.le_refl _
    · have := ih (by omega)
      simp only [pc]
      omega
theorem rd_bd (A : AS) (m : Nat) (hb : ∀ i, i < m → A 8 i < 256) (hm : m = 2 * pc (A 0 0) 16) : ∀ c, c ≤ 16 → (rdA A c).1 < 65536 ∧ (rdA A c).2.2.1 < 256 ∧ (rdA A c).2.2.2.1 ≤ 256 * c := by
  intro c
  induction c with
  | zero => intro _; exact ⟨Nat.zero_lt_succ _, Nat.zero_lt_succ _, Nat.le_refl _⟩
  | succ c ih =>
    intro hc
    obtain ⟨i1, i2, i3⟩ := ih (by omega)
    have hp := rd_place A c
    simp only [rdA, rd1]
    cases ht : (A 0 0).testBit c
    · simp only [Bool.false_eq_true, if_false]
      exact ⟨i1, i2, by omega⟩
    · simp only [if_true]
      have h1 : pc (A 0 0) (c + 1) = pc (A 0 0) c + 1 := by simp only [pc]; rw [(tb_iff _ _).mp ht]
      have h2 := pc_mono (A 0 0) (c + 1) 16 (by omega)
      have h3 := hb ((rdA A c).2.2.2.2) (by omega)
      split
      · exact ⟨i1, i2, by simp only; omega⟩
      · refine ⟨?_, ?_, ?_⟩
        · exact Nat.or_lt_two_pow (n := 16) i1 (Nat.pow_lt_pow_right (by decide) (by omega))
        · simp only; split <;> omega
        · simp only; omega
theorem readX_l (w : WF A) {h : HP} {m : Nat} (a : Int32) (rt : TX A h) (b : BX A m h) (hb : ∀ i, i < m → A 8 i < 256) (hm : m = 2 * pc (A 0 0) 16) : ∀ n i, i ≤ 16 → 16 - i < n → xX10_readings_56 N n a (nI (rdA A i).1) (rdA A i).2.1 (nI (rdA A i).2.2.1) (nI (rdA A i).2.2.2.1) (nI (rdA A i).2.2.2.2) (nI i) h = some (rdV a (rdA A 16), h) := by
  have w1 := w.1.1
  generalize hF : rdV a (rdA A 16) = F
  intro n
  induction n with
  | zero => intro i _ q; omega
  | succ n ih =>
    intro i hi hq
    rw [xX10_readings_56]
    dsimp only
    by_cases e : i = 16
    · subst e
      rw [if_pos (by decide)]
      rw [← hF]
      unfold xX10_readings_164 rdV
      by_cases a0 : a = 0
      · simp [a0]
      · by_cases a1 : a = 1
        · simp [a1]
        · simp [a0, a1]
    · have hc : i < 16 := by omega
      obtain ⟨i1, i2, i3⟩ := rd_bd A m hb hm i hi
      have hp := rd_place A i
      have ih1 := ih (i + 1) (by omega) (by omega)
      rw [if_neg (by rw [l16, le_nn (by decide) (by omega)]; omega), isToldX w1 rt.1, cl_s, tld_n hc]
      unfold xX10_readings_123 xX10_readings_138
      simp only [rdA, rd1] at ih1
      obtain ⟨s, hs⟩ : ∃ s, s = rdA A i := ⟨_, rfl⟩
      rw [← hs] at ih1 hp i1 i2 i3 ⊢
      cases ht : (A 0 0).testBit i
      · rw [b2_f, if_neg (by decide), lt_e, nI_1]
        simp only [ht, Bool.false_eq_true, if_false] at ih1
        exact ih1
      · have h1 : pc (A 0 0) (i + 1) = pc (A 0 0) i + 1 := by simp only [pc]; rw [(tb_iff _ _).mp ht]
        have h2 := pc_mono (A 0 0) (i + 1) 16 (by omega)
        have b1 := hb s.2.2.2.2 (by omega)
        have b2' := hb (s.2.2.2.2 + 1) (by omega)
        rw [b2_t, if_pos (by decide), byteAt_e b (by omega), cl_s, nI_1, byteAt_e b (by omega), cl_s, lt_e, lt_e, l2, add_nn]
        simp only [ht, if_true] at ih1
        by_cases q : A 8 s.2.2.2.2 ≤ A 8 (s.2.2.2.2 + 1)
        · have ng : (nI (A 8 s.2.2.2.2) - nI (A 8 (s.2.2.2.2 + 1))).toInt = (A 8 s.2.2.2.2 : Int) - A 8 (s.2.2.2.2 + 1) := pk_sub_toInt (by omega) (by omega)
          rw [if_pos (by rw [i_le, ng, show (0 : Int32).toInt = 0 from by decide]; omega), if_pos (by rw [i_le, ng, i_n (by omega)]; omega), lt_e, nI_1]
          rw [if_pos q] at ih1
          exact ih1
        · rw [sub_nn (by omega), l0, if_neg (by rw [le_nn (by omega) (by decide)]; omega), lt_e, lt_e, shl1 (by omega), or_nn, add_nn]
          rw [if_neg q] at ih1
          by_cases q2 : s.2.2.1 < A 8 s.2.2.2.2 - A 8 (s.2.2.2.2 + 1)
          · rw [if_neg (by rw [le_nn (by omega) (by omega)]; omega), lt_e, nI_1]
            simp only [q2, if_true] at ih1
            exact ih1
          · rw [if_pos (by rw [le_nn (by omega) (by omega)]; omega), lt_e, nI_1]
            simp only [q2, if_false] at ih1
            exact ih1
theorem readM_l (w : WF A) {h : HP} {m : Nat} (a : Int32) (rt : TM A h) (b : BM A m h) (hb : ∀ i, i < m → A 8 i < 256) (hm : m = 2 * pc (A 0 0) 16) : ∀ n i, i ≤ 16 → 16 - i < n → xX11_readings_56 N n a (nI (rdA A i).1) (rdA A i).2.1 (nI (rdA A i).2.2.1) (nI (rdA A i).2.2.2.1) (nI (rdA A i).2.2.2.2) (nI i) h = some (rdV a (rdA A 16), h) := by
  have w1 := w.1.1
  generalize hF : rdV a (rdA A 16) = F
  intro n
  induction n with
  | zero => intro i _ q; omega
  | succ n ih =>
    intro i hi hq
    rw [xX11_readings_56]
    dsimp only
    by_cases e : i = 16
    · subst e
      rw [if_pos (by decide)]
      rw [← hF]
      unfold xX11_readings_162 rdV
      by_cases a0 : a = 0
      · simp [a0]
      · by_cases a1 : a = 1
        · simp [a1]
        · simp [a0, a1]
    · have hc : i < 16 := by omega
      obtain ⟨i1, i2, i3⟩ := rd_bd A m hb hm i hi
      have hp := rd_place A i
      have ih1 := ih (i + 1) (by omega) (by omega)
      rw [if_neg (by rw [l16, le_nn (by decide) (by omega)]; omega), isToldM w1 rt.1, cl_s, tld_n hc]
      unfold xX11_readings_137
      simp only [rdA, rd1] at ih1
      obtain ⟨s, hs⟩ : ∃ s, s = rdA A i := ⟨_, rfl⟩
      rw [← hs] at ih1 hp i1 i2 i3 ⊢
      cases ht : (A 0 0).testBit i
      · rw [b2_f, if_neg (by decide), lt_e, nI_1]
        simp only [ht, Bool.false_eq_true, if_false] at ih1
        exact ih1
      · have h1 : pc (A 0 0) (i + 1) = pc (A 0 0) i + 1 := by simp only [pc]; rw [(tb_iff _ _).mp ht]
        have h2 := pc_mono (A 0 0) (i + 1) 16 (by omega)
        have b1 := hb s.2.2.2.2 (by omega)
        have b2' := hb (s.2.2.2.2 + 1) (by omega)
        rw [b2_t, if_pos (by decide), octet_e b (by omega), cl_s, nI_1, octet_e b (by omega), cl_s, lt_e, lt_e, l2, add_nn]
        simp only [ht, if_true] at ih1
        by_cases q : A 8 s.2.2.2.2 ≤ A 8 (s.2.2.2.2 + 1)
        · have ng : (nI (A 8 s.2.2.2.2) - nI (A 8 (s.2.2.2.2 + 1))).toInt = (A 8 s.2.2.2.2 : Int) - A 8 (s.2.2.2.2 + 1) := pk_sub_toInt (by omega) (by omega)
          rw [if_neg (by rw [i_lt, ng, show (0 : Int32).toInt = 0 from by decide]; omega), lt_e, nI_1]
          rw [if_pos q] at ih1
          exact ih1
        · rw [sub_nn (by omega), l0, if_pos (by rw [lt_nn (by decide) (by omega)]; omega), lt_e, lt_e, shl1 (by omega), or_nn, add_nn]
          rw [if_neg q] at ih1
          by_cases q2 : s.2.2.1 < A 8 s.2.2.2.2 - A 8 (s.2.2.2.2 + 1)
          · rw [if_pos (by rw [lt_nn (by omega) (by omega)]; omega), lt_e, nI_1]
            simp only [q2, if_true] at ih1
            exact ih1
          · rw [if_neg (by rw [lt_nn (by omega) (by omega)]; omega), lt_e, nI_1]
            simp only [q2, if_false] at ih1
            exact ih1
theorem pc_pos {n k : Nat} (hn : n < 2 ^ k) (h0 : n ≠ 0) : 1 ≤ pc n k := by
  obtain ⟨j, hj, hl⟩ := low_ex hn h0
  have h1 := pc_mono n (j + 1) k (by omega)
  have h2 : pc n (j + 1) = pc n j + 1 := by simp only [pc]; rw [(tb_iff _ _).mp hl.1]
  omega
theorem pc_zero (k : Nat) : pc 0 k = 0 := by
  induction k with
  | zero => rfl
  | succ k ih => simp [pc, ih]
theorem c_readings (hN : 100 ≤ N) (w : WF A) (rx : RX A hx) (rm : RM A hm) (a : Int32) : CC (xX10_readings N a hx) (xX11_readings N a hm) hx hm := by
  have wp := w.2.2.1
  have w1 := w.1.1
  have hpl := pc_le (A 0 0) 16
  unfold xX10_readings xX11_readings xX10_readings_36 xX11_readings_32
  rw [rx.1.1, bitCount16 w1, cl_s, lt_e, gives_e, inM_e, cl_s, rm.1.1, bits_e hN (by omega), cl_s, rm.2.2.1.1, ← rx.2.2.1.1, l2, mul_nn]
  by_cases h1 : a < 0
  · refine (QQ.rf (-1) (by rw [if_pos h1]) ?_).cc w rx rm
    rw [if_pos (by rw [b2_0, decide_eq_false_iff_not]; exact fun z => z.1 h1)]
  · rw [if_neg h1]
    by_cases h2 : nI 2 < a
    · refine (QQ.rf (-1) (by rw [if_pos h2]) ?_).cc w rx rm
      rw [if_pos (by rw [b2_0, decide_eq_false_iff_not]; exact fun z => z.2 h2)]
    · have hin : b2 (decide (¬ a < 0 ∧ ¬ nI 2 < a)) = 1 := by rw [decide_eq_true ⟨h1, h2⟩]; rfl
      rw [if_neg h2, hin, if_neg (show ¬ (1 : Int32) = 0 from by decide)]
      by_cases h0 : A 0 0 = 0
      · refine (QQ.rf (-1) ?_ (by rw [h0, if_pos (show nI 0 = 0 from rfl)])).cc w rx rm
        rw [h0, pc_zero, if_neg (fun z => z.1 (by decide)), cl_s, if_neg (by decide)]
      · have hpp := pc_pos (n := A 0 0) (k := 16) w1 h0
        rw [if_neg (show ¬ nI (A 0 0) = 0 from by rw [l0, eq_nn (by omega) (by decide)]; exact h0)]
        by_cases h3 : nI (2 * pc (A 0 0) 16) ≤ hx.1 1 1
        · have hm1 : 2 * pc (A 0 0) 16 ≤ A 0 6 := by
            rw [rx.2.2.1.1, le_nn (by omega) (by omega)] at h3
            exact h3
          rw [if_pos ⟨by rw [lt_nn (by omega) (by decide)]; omega, by rw [l32, lt_nn (by decide) (by omega)]; omega, h3⟩, cl_s, if_pos (by decide), if_pos h3, lt_e]
          have e1 : xX10_readings_56 N N a 0 (-nI 2) 0 0 0 0 (gvX hx (nI (2 * pc (A 0 0) 16))) = some (rdV a (rdA A 16), gvX hx (nI (2 * pc (A 0 0) 16))) := readX_l w a (rx.1.gv _) (BX.of w rx hm1) (fun i hi => wp.2 i (by omega)) rfl N 0 (by omega) (by omega)
          have e2 : xX11_readings_56 N N a 0 (-nI 2) 0 0 0 0 (up hm 0 10 0) = some (rdV a (rdA A 16), up hm 0 10 0) := readM_l w a rm.1.gv (BM.of w rm hm1) (fun i hi => wp.2 i (by omega)) rfl N 0 (by omega) (by omega)
          rw [e1, e2]
          exact ⟨_, _, _, tpA A 0 (A 8), rfl, rfl, w.gv, rx.gv _, rm.gv, leX.gv _ _, leM.gv _⟩
        · refine (QQ.rf (-1) ?_ (by rw [if_neg h3])).cc w rx rm
          rw [if_neg (fun z => h3 z.2.2), cl_s, if_neg (by decide)]
end TP
