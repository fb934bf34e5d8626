/-! ===== bridges ===== -/
theorem bnotw {a b : Nat} (hb : b < 4294967296) : nI a &&& (nI b ^^^ (-1)) = nI (a &&& (4294967295 - b)) := by
  have e : nI b ^^^ (-1) = nI (4294967295 - b) := by
    rw [show (-1 : Int32) = nI 4294967295 from by decide, xor_nn]
    congr 1
    apply Nat.eq_of_testBit_eq
    intro i
    rw [Nat.testBit_xor, show (4294967295 : Nat) - b = 2 ^ 32 - (b + 1) by omega, Nat.testBit_two_pow_sub_succ (by omega), show (4294967295 : Nat) = 2 ^ 32 - 1 from rfl, Nat.testBit_two_pow_sub_one]
    by_cases q : i < 32
    · simp [q]
    · have : b.testBit i = false := Nat.testBit_lt_two_pow (Nat.lt_of_lt_of_le (show b < 2 ^ 32 by omega) (Nat.pow_le_pow_right (by decide) (by omega)))
      simp [q, this]
  rw [e, and_nn]
theorem cmpw {b : Nat} (hb : b < 4294967296) (i : Nat) (hi : i < 32) : (4294967295 - b).testBit i = !b.testBit i := by
  rw [show (4294967295 : Nat) - b = 2 ^ 32 - (b + 1) by omega, Nat.testBit_two_pow_sub_succ (by omega)]
  simp [hi]
/-- without a pipe -/
def wop (op p : Nat) : Nat := op &&& (4294967295 - 2 ^ p)
theorem wop_tb {op p q : Nat} (hp : p < 31) (hq : q < 32) : (wop op p).testBit q = (op.testBit q && decide (q ≠ p)) := by
  have h2 : 2 ^ p < 4294967296 := Nat.lt_of_lt_of_le (Nat.pow_lt_pow_right (by decide) hp) (by decide : 2 ^ 31 ≤ 4294967296)
  unfold wop
  rw [Nat.testBit_and, cmpw h2 q hq, Nat.testBit_two_pow]
  by_cases e : p = q
  · subst e; simp
  · have : q ≠ p := fun z => e z.symm
    simp [e, this]
theorem am3_w {A : AS} {op p : Nat} (w : WFt A) (hn : A 0 1 ≤ 24) (hp : p < 24) : ∀ q, q < A 0 1 → am3 A op 1 (nI p) q = am (wop op p) q := by
  intro q hq
  obtain ⟨w1, w2, w3, -, -, w4, -⟩ := w.2 q hq
  unfold am3 am
  rw [wop_tb (by omega) (by omega), decide_eq_true w4, Bool.and_true]
  congr 1
  rw [decide_eq_decide, ne_eq, ne_eq, eq_nn (by omega) (by omega)]
def brg (A : AS) (op p : Nat) : Prop := op.testBit p = true ∧ ¬ cn A (am (wop op p)) (A 2 p) (A 3 p)
noncomputable def bb (A : AS) (op : Nat) : Nat → Nat
  | 0 => 0
  | p + 1 => bb A op p ||| @ite _ (brg A op p) (Classical.propDecidable _) (2 ^ p) 0
section BR
variable {A : AS} {N op : Nat}
theorem bb_t {p : Nat} (h : brg A op p) : bb A op (p + 1) = bb A op p ||| 2 ^ p := by simp [bb, h]
theorem bb_f {p : Nat} (h : ¬ brg A op p) : bb A op (p + 1) = bb A op p := by simp [bb, h]
theorem bb_lt : ∀ p, bb A op p < 2 ^ p := by
  intro p
  induction p with
  | zero => exact Nat.zero_lt_one
  | succ p ih =>
    have h1 : 2 ^ p < 2 ^ (p + 1) := Nat.pow_lt_pow_right (by decide) (by omega)
    by_cases h : brg A op p
    · rw [bb_t h]; exact Nat.or_lt_two_pow (Nat.lt_trans ih h1) h1
    · rw [bb_f h]; omega
theorem bb_tb : ∀ n p, (bb A op n).testBit p = true ↔ (p < n ∧ brg A op p) := by
  intro n
  induction n with
  | zero => intro p; simp [bb]
  | succ n ih =>
    intro p
    by_cases h : brg A op n
    · rw [bb_t h, Nat.testBit_or, Bool.or_eq_true, ih, Nat.testBit_two_pow, decide_eq_true_iff]
      constructor
      · rintro (⟨q1, q2⟩ | q)
        · exact ⟨by omega, q2⟩
        · subst q; exact ⟨by omega, h⟩
      · rintro ⟨q1, q2⟩
        by_cases e : n = p
        · exact Or.inr e
        · exact Or.inl ⟨by omega, q2⟩
    · rw [bb_f h, ih]
      constructor
      · rintro ⟨q1, q2⟩; exact ⟨by omega, q2⟩
      · rintro ⟨q1, q2⟩
        by_cases e : n = p
        · subst e; exact absurd q2 h
        · exact ⟨by omega, q2⟩
theorem isDs_cn {act : Nat → Bool} {c d : Nat} {v : Int32} (h : isDs A act c d v) : (v = -2 ↔ ¬ cn A act c d) := by
  rcases h with ⟨g, h1, h2, h3, h4⟩ | ⟨h1, h2⟩
  · constructor
    · intro z; rw [h2] at z; exact absurd z (nn_m2 (by omega))
    · intro z; exact absurd ⟨g, h3⟩ z
  · exact ⟨fun _ ⟨g, z⟩ => h2 g z, fun _ => h1⟩
def sB (h0 h : HP) : Prop := ∀ k, k ≠ 45 → k ≠ 46 → k ≠ 47 → h.1 k = h0.1 k
theorem sB.TX {h0 h : HP} (s : sB h0 h) (t : TX A h0) : TX A h := by
  obtain ⟨t1, t2, t3, t4⟩ := t
  exact ⟨by rw [s 3 (by decide) (by decide) (by decide)]; exact t1, by rw [s 3 (by decide) (by decide) (by decide)]; exact t2, fun c hc => by rw [s 4 (by decide) (by decide) (by decide)]; exact t3 c hc, fun p hp => by rw [s 5 (by decide) (by decide) (by decide), s 6 (by decide) (by decide) (by decide), s 7 (by decide) (by decide) (by decide)]; exact t4 p hp⟩
theorem steps_e {o c d : Nat} (hN : 100 ≤ N) (w : WFt A) (hc : c < 16) (hd : d < 16) {h : HP} (hnr : NR A o h) : ∃ v h', xX3_stepsBetween N (nI c) (nI d) h = some (v, h') ∧ sF h h' ∧ isDs A (am o) c d v := by
  unfold xX3_stepsBetween
  obtain ⟨S, h1, e1, s1, -, d1⟩ := measureFrom_e (N := N) hN w hc hnr
  rw [e1, cl_s, ald_n hd (by decide)]
  exact ⟨_, h1, rfl, s1, d1 d hd⟩
theorem bridgeX_l (hN : 100 ≤ N) (w : WFt A) (hn : A 0 1 ≤ 24) (ho : op < 16777216) {h0 : HP} (t0 : TX A h0) : ∀ n i h, i ≤ A 0 1 → A 0 1 - i < n → sB h0 h → ∃ h', xX3_bridgeBits_4 N n (nI op) (nI (bb A op i)) (nI i) h = some (nI (bb A op (A 0 1)), h') ∧ sB h0 h' := by
  intro n
  induction n with
  | zero => intro i h _ q; omega
  | succ n ih =>
    intro i h hi hq hs
    have t := hs.TX t0
    rw [xX3_bridgeBits_4]
    dsimp only
    rw [t.2.1]
    by_cases e : i = A 0 1
    · rw [if_pos (by rw [e, le_nn (by omega) (by omega)]; omega), e]
      exact ⟨h, rfl, hs⟩
    · have hp : i < A 0 1 := by omega
      obtain ⟨w1, w2, w3, -⟩ := w.2 i hp
      obtain ⟨t1, t2, -⟩ := t0.2.2.2 i hp
      rw [if_neg (by rw [le_nn (by omega) (by omega)]; omega), hasBit_e (by omega) (by omega), cl_s]
      unfold xX3_bridgeBits_67
      simp only [lt_e, nI_1]
      cases hb : op.testBit i
      · rw [b2_f, if_pos rfl]
        have := ih (i + 1) h (by omega) (by omega) hs
        rw [bb_f (fun z => by rw [z.1] at hb; cases hb)] at this
        exact this
      · have h2 : 2 ^ i < 4294967296 := Nat.lt_of_lt_of_le (Nat.pow_lt_pow_right (by decide) (show i < 31 by omega)) (by decide : 2 ^ 31 ≤ 4294967296)
        have hw : wop op i < 16777216 := Nat.lt_of_le_of_lt Nat.and_le_left ho
        obtain ⟨h3, e3, k3, r3, -⟩ := look_e (N := N) (op := wop op i) hN w hn (by omega) t
        rw [b2_t, if_neg (by decide), shl1 (by omega), bnotw h2, show op &&& (4294967295 - 2 ^ i) = wop op i from rfl, e3, cl_s, ald_n (by omega) (by decide), ald_n (by omega) (by decide), k3 5 (by decide) (by decide), k3 6 (by decide) (by decide), hs 5 (by decide) (by decide) (by decide), hs 6 (by decide) (by decide) (by decide), t1, t2]
        obtain ⟨v, h4, e4, s4, d4⟩ := steps_e (N := N) hN w w1 w2 r3
        rw [e4, cl_s]
        have hs4 : sB h0 h4 := fun k q1 q2 q3 => by rw [s4 k q3, k3 k q1 q2]; exact hs k q1 q2 q3
        have ih1 := ih (i + 1) h4 (by omega) (by omega) hs4
        by_cases q : v = -2
        · rw [if_neg (fun z => z q), or_nn]
          rw [bb_t ⟨hb, (isDs_cn d4).mp q⟩] at ih1
          exact ih1
        · rw [if_pos q]
          rw [bb_f (fun z => q ((isDs_cn d4).mpr z.2))] at ih1
          exact ih1
/-- what a walk from above has: how many, the lowest -/
def BW (B np i : Nat) (m : Nat) (v : Int32) : Prop := m + pc B i = pc B np ∧ ((∃ k, i ≤ k ∧ k < np ∧ v = nI k ∧ B.testBit k = true ∧ ∀ j, i ≤ j → j < k → B.testBit j = false) ∨ (v = -2 ∧ ∀ j, i ≤ j → j < np → B.testBit j = false))
theorem bridgeM_l (hN : 100 ≤ N) (w : WFt A) (hn : A 0 1 ≤ 24) {h : HP} (t : TM A h) (s : ∀ p, p < A 0 1 → h.1 1 (48 + p) = nI (op / 2 ^ p % 2)) (a : Int32) : ∀ i n m v, i ≤ A 0 1 → i < n → BW (bb A op (A 0 1)) (A 0 1) i m v → ∃ m' v', xX11_bridges_24 N n a (nI m) v (nI i - 1) h = some (if a = 0 then nI m' else v', h) ∧ BW (bb A op (A 0 1)) (A 0 1) 0 m' v' := by
  intro i
  induction i with
  | zero =>
    intro n m v hi hq hb
    obtain ⟨n, rfl⟩ : ∃ k, n = k + 1 := ⟨n - 1, by omega⟩
    rw [xX11_bridges_24]
    dsimp only
    rw [if_pos (by decide)]
    unfold xX11_bridges_90
    refine ⟨m, v, ?_, hb⟩
    by_cases a0 : a = 0 <;> simp [a0]
  | succ i ih =>
    intro n m v hi hq hb
    obtain ⟨n, rfl⟩ : ∃ k, n = k + 1 := ⟨n - 1, by omega⟩
    have hp : i < A 0 1 := by omega
    obtain ⟨w1, w2, w3, -⟩ := w.2 i hp
    obtain ⟨t1, t2, -⟩ := t.2.2.2 i hp
    rw [xX11_bridges_24]
    dsimp only
    have e1 : nI (i + 1) - 1 = nI i := nI_pred i
    rw [e1, if_neg (by rw [l0, lt_nn (by omega) (by decide)]; omega), isOpen_e hn t s (by omega), cl_s, decide_eq_true hp, Bool.true_and]
    unfold xX11_bridges_75
    simp only [lt_e]
    have e2 : nI i + (-1) = nI i - 1 := by
      rw [Int32.sub_eq_add_neg]
    rw [e2]
    obtain ⟨b1, b2'⟩ := hb
    have key0 : ¬ brg A op i → BW (bb A op (A 0 1)) (A 0 1) i m v := fun z => by
      have hbi : (bb A op (A 0 1)).testBit i = false := by
        cases q : (bb A op (A 0 1)).testBit i
        · rfl
        · exact absurd ((bb_tb _ _).mp q).2 z
      refine ⟨?_, ?_⟩
      · simp only [pc] at b1
        rw [(tb_n _ _).mp hbi] at b1
        omega
      · rcases b2' with ⟨k, q1, q2, q3, q4, q5⟩ | ⟨q1, q2⟩
        · refine Or.inl ⟨k, by omega, q2, q3, q4, fun j h1 h2 => ?_⟩
          by_cases e : j = i
          · rw [e]; exact hbi
          · exact q5 j (by omega) h2
        · refine Or.inr ⟨q1, fun j h1 h2 => ?_⟩
          by_cases e : j = i
          · rw [e]; exact hbi
          · exact q2 j (by omega) h2
    cases hb2 : op.testBit i
    · rw [b2_f, if_pos rfl]
      exact ih n m v (by omega) (by omega) (key0 (fun z => by rw [z.1] at hb2; cases hb2))
    · rw [b2_t, if_neg (by decide), ald_n (by omega) (by decide), t1]
      obtain ⟨S, e3, c3⟩ := reached_e (N := N) (op := op) hN w hn t s (wd := 1) (by decide) w1 (nI i)
      have c4 := isCp_act (am3_w w hn (by omega)) c3
      have e3' : xX11_reached N (nI (A 2 i)) 1 (nI i) h = some (nI S, h) := e3
      rw [e3', cl_s, ald_n (by omega) (by decide), t2, has_e (by omega) (by have := c4.1; omega), cl_s]
      cases hS : S.testBit (A 3 i)
      · have hbr : brg A op i := ⟨hb2, fun z => by
          have := (c4.2 _).mpr z
          rw [hS] at this; cases this⟩
        have hbi : (bb A op (A 0 1)).testBit i = true := (bb_tb _ _).mpr ⟨hp, hbr⟩
        rw [b2_f, if_pos rfl, nI_1]
        refine ih n (m + 1) (nI i) (by omega) (by omega) ⟨?_, Or.inl ⟨i, by omega, hp, rfl, hbi, fun j h1 h2 => by omega⟩⟩
        simp only [pc] at b1
        rw [(tb_iff _ _).mp hbi] at b1
        omega
      · rw [b2_t, if_neg (by decide)]
        exact ih n m v (by omega) (by omega) (key0 (fun z => z.2 ((c4.2 _).mp hS)))
end BR
section BQ
variable {A : AS} {hx hm : HP} {N : Nat}
theorem q_bridges (hN : 100 ≤ N) (w : WF A) (rx : RX A hx) (rm : RM A hm) (a : Int32) : QQ (xX10_bridges N a hx) (xX11_bridges N a hm) hx hm := by
  have wo := op_lt w
  have wn := w.1.2.1
  unfold xX10_bridges xX11_bridges xX10_bridges_9 xX10_bridges_48
  rw [inM_e, cl_s]
  by_cases h1 : a < 0
  · exact QQ.rf (-1) (by rw [if_pos h1]) (by rw [decide_eq_false (fun z => z.1 h1), b2_f, if_neg (by decide)])
  · by_cases h2 : a ≤ 1
    · rw [if_neg h1, if_pos h2, decide_eq_true ⟨h1, Int32.not_lt.mpr h2⟩, b2_t, if_pos (by decide), rx.2.1.1, rm.1.2.1, lt_e]
      obtain ⟨h3, e3, s3⟩ := bridgeX_l (N := N) (op := A 0 2) hN w.2.1 wn wo rx.1 N 0 hx (by omega) (by omega) (fun _ _ _ _ => rfl)
      have e3' : xX3_bridgeBits N (nI (A 0 2)) hx = some (nI (bb A (A 0 2) (A 0 1)), h3) := e3
      obtain ⟨m, v, e4, b4, b5⟩ := bridgeM_l (N := N) (op := A 0 2) hN w.2.1 wn rm.1 rm.2.1.2.1 a (A 0 1) N 0 (-2) (Nat.le_refl _) (by omega) ⟨by omega, Or.inr ⟨rfl, fun j h1 h2 => by omega⟩⟩
      have e4' : xX11_bridges_24 N N a 0 (-2) (nI (A 0 1) - 1) hm = some (if a = 0 then nI m else v, hm) := e4
      rw [e3', cl_s, e4']
      generalize hB : bb A (A 0 2) (A 0 1) = B at *
      have hBl : B < 2 ^ A 0 1 := by rw [← hB]; exact bb_lt _
      have hB2 : B < 16777216 := Nat.lt_of_lt_of_le hBl (Nat.le_trans (Nat.pow_le_pow_right (by decide) wn) (by decide))
      have hpc : pc B 24 = pc B (A 0 1) := by
        have := pc_stop hBl (24 - A 0 1)
        rwa [show A 0 1 + (24 - A 0 1) = 24 by omega] at this
      have hm0 : m = pc B 24 := by rw [hpc, ← b4]; rfl
      refine ⟨if a = 0 then nI m else v, h3, hm, ?_, rfl, keX.net s3, keM.rf hm⟩
      by_cases a0 : a = 0
      · rw [if_neg (fun z => z a0), if_pos a0, bitCount_e hB2, cl_s, hm0]
      · rw [if_pos a0, if_neg a0]
        by_cases z0 : B = 0
        · rw [z0, if_neg (by simp; rfl)]
          rcases b5 with ⟨k, q1, q2, q3, q4, q5⟩ | ⟨q1, q2⟩
          · rw [z0] at q4; simp at q4
          · rw [q1]
        · rw [if_pos (by rw [l0, ne_eq, eq_nn (by omega) (by decide)]; exact z0)]
          rcases b5 with ⟨k, q1, q2, q3, q4, q5⟩ | ⟨q1, q2⟩
          · rw [lowest_e ⟨q4, fun j hj => q5 j (by omega) hj⟩ hB2, cl_s, q3]
          · obtain ⟨k, hk, hl⟩ := low_ex hBl z0
            have := q2 k (by omega) hk
            rw [hl.1] at this; cases this
    · exact QQ.rf (-1) (by rw [if_neg h1, if_neg h2]) (by rw [decide_eq_false (fun z => h2 (Int32.not_lt.mp z.2)), b2_f, if_neg (by decide)])
end BQ
