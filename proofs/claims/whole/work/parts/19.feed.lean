/-! ===== feed ===== -/
theorem toNat_int (x : Int32) : (x.toBitVec.toNat : Int) = x.toInt % 4294967296 := by
  have h := BitVec.toInt_eq_toNat_cond x.toBitVec
  have h2 : x.toInt = x.toBitVec.toInt := rfl
  have := x.toBitVec.isLt
  rw [h2, h]
  split <;> omega
theorem byte_and (x : Int32) : x.toInt8.toInt32 &&& 255 = x &&& 255 := by
  apply I_bv
  apply BitVec.eq_of_getLsbD_eq
  intro i hi
  simp only [Int32.toBitVec_and, BitVec.getLsbD_and]
  by_cases q : i < 8
  · have e : (x.toInt8.toInt32).toBitVec.getLsbD i = x.toBitVec.getLsbD i := by
      show (BitVec.signExtend 32 (BitVec.signExtend 8 x.toBitVec)).getLsbD i = _
      rw [BitVec.getLsbD_signExtend]
      simp only [hi, decide_true, Bool.true_and, q, if_true]
      rw [BitVec.getLsbD_signExtend]
      simp [q, hi]
    rw [e]
  · have : (255 : Int32).toBitVec.getLsbD i = false := by
      have h : ∀ i, i < 32 → ¬ i < 8 → (255 : Int32).toBitVec.getLsbD i = false := by decide
      exact h i hi q
    rw [this, Bool.and_false, Bool.and_false]
theorem sar8 (w k : Nat) (hw : w < 4294967296) (hk : k < 4) : (nI w >>> ((8 * nI k) &&& 31)) &&& 255 = nI (w / 2 ^ (8 * k) % 256) := by
  have e8 : (8 : Int32) * nI k = nI (8 * k) := by rw [l8, mul_nn]
  rw [e8, pk_and _ 8 (by decide)]
  congr 1
  have h1 := toNat_int (nI w >>> (nI (8 * k) &&& 31))
  rw [pk_shr _ _ (8 * k) (sh_k _ (by omega))] at h1
  have h2 := toNat_int (nI w)
  rw [show (nI w).toBitVec.toNat = w from pk_tn hw] at h2
  have h3 : (nI w).toInt = w ∨ (nI w).toInt = (w : Int) - 4294967296 := by
    have a1 := Int32.le_toInt (nI w)
    have a2 := Int32.toInt_lt (nI w)
    omega
  rw [Int.shiftRight_eq_div_pow] at h1
  rcases (show k = 0 ∨ k = 1 ∨ k = 2 ∨ k = 3 by omega) with rfl | rfl | rfl | rfl <;> simp only [Nat.mul_zero, Nat.mul_one, Nat.reduceMul, Nat.reducePow, Nat.pow_zero] at h1 ⊢ <;> omega
/-- the j-th byte of a word, the highest first -/
def wb (w j : Nat) : Nat := w / 2 ^ (8 * (3 - j)) % 256
theorem wb_lt (w j : Nat) : wb w j < 256 := Nat.mod_lt _ (by decide)
/-- one word more on the tape -/
def fd (bs : Nat → Nat) (tp w : Nat) : Nat → Nat := fun i => if i < tp then bs i else wb w (i - tp)
section FD
variable {N : Nat} {h h0 : HP} {tq w : Nat} {bs : Nat → Nat}
def FX (bs : Nat → Nat) (tp w : Nat) (h0 : HP) (j : Nat) (h : HP) : Prop := (∀ k, k ≠ 1 → k ≠ 2 → h.1 k = h0.1 k) ∧ h.1 1 1 = nI (tp + j) ∧ ∀ i, i < tp + j → h.1 2 i = nI (fd bs tp w i)
theorem put_l (hw : w < 4294967296) (ht : tq + 4 ≤ 260) : ∀ n j h, j ≤ 4 → 4 - j < n → FX bs tq w h0 j h → ∃ h', xX7_put_3 N n (nI w) (if j = 4 then -8 else nI (8 * (3 - j))) h = some (0, h') ∧ FX bs tq w h0 4 h' := by
  intro n
  induction n with
  | zero => intro j h _ q; omega
  | succ n ih =>
    intro j h hj hq hp
    rw [xX7_put_3]
    dsimp only
    by_cases e : j = 4
    · subst e
      rw [if_pos (by decide)]
      exact ⟨h, rfl, hp⟩
    · rw [if_neg e, if_neg (by rw [l0, lt_nn (by omega) (by decide)]; omega), hp.2.1, if_neg (by rw [l260, le_nn (by decide) (by omega)]; omega), ast_n (by omega) (by decide), lt_e]
      unfold xX7_put_45
      rw [lt_e, up_n (by decide), hp.2.1, nI_1, l255, ushr_nn (by omega) hw, and_nn]
      have e2 : w / 2 ^ (8 * (3 - j)) &&& 255 = wb w j := by
        unfold wb
        exact Nat.and_two_pow_sub_one_eq_mod _ 8
      have e3 : nI (8 * (3 - j)) + (-8) = if j + 1 = 4 then -8 else nI (8 * (3 - (j + 1))) := by
        rcases (show j = 0 ∨ j = 1 ∨ j = 2 ∨ j = 3 by omega) with rfl | rfl | rfl | rfl <;> decide
      rw [e2, e3]
      refine ih (j + 1) _ (by omega) (by omega) ⟨fun k h1 h2 => ?_, ?_, fun i hi => ?_⟩
      · rw [up_n h1, up_n h2]; exact hp.1 k h1 h2
      · rw [up_at, if_pos ⟨rfl, rfl⟩]; rfl
      · rw [up_n (by decide), up_at]
        by_cases q : i = tq + j
        · rw [if_pos ⟨rfl, q⟩]
          unfold fd
          rw [if_neg (by omega), show i - tq = j by omega]
        · rw [if_neg (by omega)]
          exact hp.2.2 i (by omega)
def FM (bs : Nat → Nat) (tp w : Nat) (h0 : HP) (j : Nat) (h : HP) : Prop := (∀ k, k ≠ 0 → k ≠ 8 → h.1 k = h0.1 k) ∧ (∀ i, i ≠ 10 → h.1 0 i = h0.1 0 i) ∧ h.1 0 10 = nI (tp + j) ∧ ∀ i, i < tp + j → h.1 8 i &&& 255 = nI (fd bs tp w i)
theorem types_l (hw : w < 4294967296) (ht : tq + 4 ≤ 260) : ∀ n j h, j ≤ 4 → 4 - j < n → FM bs tq w h0 j h → ∃ h', xX11_types_2 N n (nI w) (if j = 4 then -1 else nI (3 - j)) h = some (0, h') ∧ FM bs tq w h0 4 h' := by
  intro n
  induction n with
  | zero => intro j h _ q; omega
  | succ n ih =>
    intro j h hj hq hp
    rw [xX11_types_2]
    dsimp only
    by_cases e : j = 4
    · subst e
      rw [if_pos (by decide)]
      exact ⟨h, rfl, hp⟩
    · rw [if_neg e, if_neg (by rw [l0, lt_nn (by omega) (by decide)]; omega), hp.2.2.1, ast_n (by omega) (by decide), lt_e, lt_e, up_n (by decide), hp.2.2.1, nI_1]
      have e3 : nI (3 - j) + (-1) = if j + 1 = 4 then -1 else nI (3 - (j + 1)) := by
        rcases (show j = 0 ∨ j = 1 ∨ j = 2 ∨ j = 3 by omega) with rfl | rfl | rfl | rfl <;> decide
      rw [e3]
      refine ih (j + 1) _ (by omega) (by omega) ⟨fun k h1 h2 => ?_, fun i hi => ?_, ?_, fun i hi => ?_⟩
      · rw [up_n h1, up_n h2]; exact hp.1 k h1 h2
      · rw [up_at, if_neg (by omega), up_n (by decide)]; exact hp.2.1 i hi
      · rw [up_at, if_pos ⟨rfl, rfl⟩]; rfl
      · rw [up_n (by decide), up_at]
        by_cases q : i = tq + j
        · rw [if_pos ⟨rfl, q⟩, byte_and, byte_and, sar8 w (3 - j) hw (by omega)]
          unfold fd
          rw [if_neg (by omega), show i - tq = j by omega]
          rfl
        · rw [if_neg (by omega)]
          exact hp.2.2.2 i (by omega)
end FD
section FE
variable {A : AS} {hx hm : HP} {N : Nat}
theorem feed1 (hN : 100 ≤ N) (w : WF A) (rx : RX A hx) (rm : RM A hm) (ht : A 0 6 + 4 ≤ 260) (a : Int32) : ∃ hx' hm' A', xX7_put N a hx = some (0, hx') ∧ xX11_types N a hm = some (0, hm') ∧ WF A' ∧ RX A' hx' ∧ RM A' hm' ∧ leX hx hx' ∧ leM hm hm' ∧ A' 0 6 = A 0 6 + 4 := by
  obtain ⟨v, hv, rfl⟩ := I_n a
  have wp := w.2.2.1
  obtain ⟨h1, e1, p1⟩ := put_l (N := N) (h0 := hx) (bs := A 8) hv ht N 0 hx (by omega) (by omega) ⟨fun _ _ _ => rfl, rx.2.2.1.1, fun i hi => by rw [rx.2.2.1.2 i (by omega)]; unfold fd; rw [if_pos (by omega)]⟩
  obtain ⟨h2, e2, p2⟩ := types_l (N := N) (h0 := hm) (bs := A 8) hv ht N 0 hm (by omega) (by omega) ⟨fun _ _ _ => rfl, fun _ _ => rfl, rm.2.2.1.1, fun i hi => by rw [rm.2.2.1.2 i (by omega)]; unfold fd; rw [if_pos (by omega)]⟩
  refine ⟨h1, h2, tpA A (A 0 6 + 4) (fd (A 8) (A 0 6) v), e1, e2, w.tp ht (fun i hi => ?_), rx.tp (fun k q1 q2 _ => p1.1 k q1 q2) p1.2.1 p1.2.2, rm.tp (fun j _ hj => p2.2.1 j hj) (fun k hk => p2.1 k (by omega) (by omega)) p2.2.2.1 p2.2.2.2, fun k q1 q2 => p1.1 k (by omega) (by omega), ⟨p2.2.1 19 (by omega), fun k q1 q2 => p2.1 k (by omega) (by omega)⟩, rfl⟩
  unfold fd
  split
  · exact wp.2 i (by assumption)
  · exact wb_lt _ _
theorem c_feed (hN : 100 ≤ N) (w : WF A) (rx : RX A hx) (rm : RM A hm) (a b c d e : Int32) : CC (xX10_feed N a b c d e hx) (xX11_feed N a b c d e hm) hx hm := by
  have wp := w.2.2.1.1
  unfold xX10_feed xX11_feed
  rw [rx.2.2.1.1, rm.2.2.1.1, l20, add_nn, l260]
  by_cases q : A 0 6 + 20 ≤ 260
  · rw [if_pos (by rw [le_nn (by omega) (by decide)]; exact q), if_pos (by rw [le_nn (by omega) (by decide)]; exact q)]
    obtain ⟨x1, m1, A1, p1, q1, w1, rx1, rm1, k1, j1, t1⟩ := feed1 hN w rx rm (by omega) a
    obtain ⟨x2, m2, A2, p2, q2, w2, rx2, rm2, k2, j2, t2⟩ := feed1 hN w1 rx1 rm1 (by omega) b
    obtain ⟨x3, m3, A3, p3, q3, w3, rx3, rm3, k3, j3, t3⟩ := feed1 hN w2 rx2 rm2 (by omega) c
    obtain ⟨x4, m4, A4, p4, q4, w4, rx4, rm4, k4, j4, t4⟩ := feed1 hN w3 rx3 rm3 (by omega) d
    obtain ⟨x5, m5, A5, p5, q5, w5, rx5, rm5, k5, j5, t5⟩ := feed1 hN w4 rx4 rm4 (by omega) e
    rw [p1, q1, cl_s, cl_s, p2, q2, cl_s, cl_s, p3, q3, cl_s, cl_s, p4, q4, cl_s, cl_s, p5, q5, cl_s, cl_s, rx5.2.2.1.1, rm5.2.2.1.1]
    exact ⟨_, x5, m5, A5, rfl, rfl, w5, rx5, rm5, (((k1.tr k2).tr k3).tr k4).tr k5, (((j1.tr j2).tr j3).tr j4).tr j5⟩
  · rw [if_neg (by rw [le_nn (by omega) (by decide)]; exact q), if_neg (by rw [le_nn (by omega) (by decide)]; exact q)]
    exact (QQ.rf (-1) rfl rfl).cc w rx rm
end FE
