/-! ===== new states ===== -/
def stA (A : AS) (op sea mi x : Nat) (so tu we : Nat → Nat) : AS := fun a b => match a with
  | 0 => (match b with | 2 => op | 3 => sea | 4 => mi | 5 => x | _ => A 0 b)
  | 5 => so b
  | 6 => tu b
  | 7 => we b
  | _ => A a b
def tpA (A : AS) (tp : Nat) (bs : Nat → Nat) : AS := fun a b => match a with
  | 0 => (match b with | 6 => tp | _ => A 0 b)
  | 8 => bs b
  | _ => A a b
def kpA (A : AS) : AS := fun a b => match a with
  | 0 => (match b with | 7 => 1 | 8 => A 0 0 | 9 => A 0 1 | 10 => A 0 2 | 11 => A 0 3 | 12 => A 0 4 | 13 => A 0 5 | _ => A 0 b)
  | 9 => A 5 b
  | 10 => A 6 b
  | 11 => A 7 b
  | _ => A a b
section ST
variable {A : AS} {h h' : HP} {op sea mi x tq : Nat} {so tu we bs : Nat → Nat}
theorem WF.st (w : WF A) (s : WFs (A 0 0) (A 0 1) op sea mi x so tu we) : WF (stA A op sea mi x so tu we) := ⟨s, w.2.1, w.2.2.1, w.2.2.2⟩
theorem RX.st (r : RX A h) (hk : ∀ k, (k < 31 ∨ (35 ≤ k ∧ k < 39)) → h'.1 k = h.1 k) (s : SX 31 (A 0 0) (A 0 1) op sea mi x so tu we h') : RX (stA A op sea mi x so tu we) h' := by
  obtain ⟨t1, t2, t3, t4⟩ := r
  refine ⟨⟨?_, ?_, fun c hc => ?_, fun p hp => ?_⟩, s, ⟨?_, fun i hi => ?_⟩, ⟨?_, fun h7 => ?_⟩⟩
  · rw [hk 3 (by omega)]; exact t1.1
  · rw [hk 3 (by omega)]; exact t1.2.1
  · rw [hk 4 (by omega)]; exact t1.2.2.1 c hc
  · rw [hk 5 (by omega), hk 6 (by omega), hk 7 (by omega)]; exact t1.2.2.2 p hp
  · rw [hk 1 (by omega)]; exact t3.1
  · rw [hk 2 (by omega)]; exact t3.2 i hi
  · rw [hk 0 (by omega)]; exact t4.1
  · exact (t4.2 h7).keep (fun a h1 h2 => hk a (by omega))
theorem RM.st (r : RM A h) (ho : ∀ j, ¬ scM j → h'.1 0 j = h.1 0 j) (hk : ∀ k, 3 ≤ k → k ≤ 8 → h'.1 k = h.1 k) (s : SM (h'.1 1) (A 0 1) op sea mi x so tu we) : RM (stA A op sea mi x so tu we) h' := by
  obtain ⟨t1, t2, t3, t4⟩ := r
  have n7 : ¬ scM 7 := by unfold scM; omega
  have n8 : ¬ scM 8 := by unfold scM; omega
  have n10 : ¬ scM 10 := by unfold scM; omega
  have n58 : ¬ scM 58 := by unfold scM; omega
  have n59 : ¬ scM 59 := by unfold scM; omega
  have n60 : ¬ scM 60 := by unfold scM; omega
  refine ⟨⟨?_, ?_, fun c hc => ?_, fun p hp => ?_⟩, s, ⟨?_, fun i hi => ?_⟩, ⟨?_, fun h7 => ?_⟩⟩
  · rw [ho 7 n7]; exact t1.1
  · rw [ho 8 n8]; exact t1.2.1
  · rw [hk 4 (by omega) (by omega)]; exact t1.2.2.1 c hc
  · rw [hk 5 (by omega) (by omega), hk 6 (by omega) (by omega), hk 7 (by omega) (by omega)]; exact t1.2.2.2 p hp
  · rw [ho 10 n10]; exact t3.1
  · rw [hk 8 (by omega) (by omega)]; exact t3.2 i hi
  · rw [ho 58 n58]; exact t4.1
  · rw [ho 59 n59, ho 60 n60, hk 3 (by omega) (by omega)]; exact t4.2 h7
theorem WF.tp (w : WF A) (h1 : tq ≤ 260) (h2 : ∀ i, i < tq → bs i < 256) : WF (tpA A tq bs) := ⟨w.1, w.2.1, ⟨h1, h2⟩, w.2.2.2⟩
theorem RX.tp (r : RX A h) (hk : ∀ k, k ≠ 1 → k ≠ 2 → (k < 8 ∨ (31 ≤ k ∧ k < 39)) → h'.1 k = h.1 k) (h1 : h'.1 1 1 = nI tq) (h2 : ∀ i, i < tq → h'.1 2 i = nI (bs i)) : RX (tpA A tq bs) h' := by
  obtain ⟨t1, t2, t3, t4⟩ := r
  refine ⟨⟨?_, ?_, fun c hc => ?_, fun p hp => ?_⟩, t2.keep (fun a h1 h2 => hk a (by omega) (by omega) (by omega)), ⟨h1, h2⟩, ⟨?_, fun h7 => ?_⟩⟩
  · rw [hk 3 (by omega) (by omega) (by omega)]; exact t1.1
  · rw [hk 3 (by omega) (by omega) (by omega)]; exact t1.2.1
  · rw [hk 4 (by omega) (by omega) (by omega)]; exact t1.2.2.1 c hc
  · rw [hk 5 (by omega) (by omega) (by omega), hk 6 (by omega) (by omega) (by omega), hk 7 (by omega) (by omega) (by omega)]; exact t1.2.2.2 p hp
  · rw [hk 0 (by omega) (by omega) (by omega)]; exact t4.1
  · exact (t4.2 h7).keep (fun a h1 h2 => hk a (by omega) (by omega) (by omega))
theorem RM.tp (r : RM A h) (ho : ∀ j, ¬ scM j → j ≠ 10 → h'.1 0 j = h.1 0 j) (hk : ∀ k, (k = 1 ∨ (3 ≤ k ∧ k ≤ 7)) → h'.1 k = h.1 k) (h1 : h'.1 0 10 = nI tq) (h2 : ∀ i, i < tq → h'.1 8 i &&& 255 = nI (bs i)) : RM (tpA A tq bs) h' := by
  obtain ⟨t1, t2, t3, t4⟩ := r
  have n7 : ¬ scM 7 := by unfold scM; omega
  have n8 : ¬ scM 8 := by unfold scM; omega
  have n58 : ¬ scM 58 := by unfold scM; omega
  have n59 : ¬ scM 59 := by unfold scM; omega
  have n60 : ¬ scM 60 := by unfold scM; omega
  refine ⟨⟨?_, ?_, fun c hc => ?_, fun p hp => ?_⟩, ?_, ⟨h1, h2⟩, ⟨?_, fun h7 => ?_⟩⟩
  · rw [ho 7 n7 (by omega)]; exact t1.1
  · rw [ho 8 n8 (by omega)]; exact t1.2.1
  · rw [hk 4 (by omega)]; exact t1.2.2.1 c hc
  · rw [hk 5 (by omega), hk 6 (by omega), hk 7 (by omega)]; exact t1.2.2.2 p hp
  · rw [hk 1 (by omega)]; exact t2
  · rw [ho 58 n58 (by omega)]; exact t4.1
  · rw [ho 59 n59 (by omega), ho 60 n60 (by omega), hk 3 (by omega)]; exact t4.2 h7
theorem WF.kp (w : WF A) : WF (kpA A) := ⟨w.1, w.2.1, w.2.2.1, Or.inr ⟨rfl, w.1⟩⟩
end ST
/-- what is kept of the law's cells -/
def leX (h h' : HP) : Prop := ∀ k, 13 ≤ k → k < 20 → h'.1 k = h.1 k
def leM (h h' : HP) : Prop := h'.1 0 19 = h.1 0 19 ∧ ∀ k, 15 ≤ k → k ≤ 19 → h'.1 k = h.1 k
theorem leX.rf (h : HP) : leX h h := fun _ _ _ => rfl
theorem leM.rf (h : HP) : leM h h := ⟨rfl, fun _ _ _ => rfl⟩
theorem leX.tr {h h1 h2 : HP} (a : leX h h1) (b : leX h1 h2) : leX h h2 := fun k q1 q2 => (b k q1 q2).trans (a k q1 q2)
theorem leM.tr {h h1 h2 : HP} (a : leM h h1) (b : leM h1 h2) : leM h h2 := ⟨b.1.trans a.1, fun k q1 q2 => (b.2 k q1 q2).trans (a.2 k q1 q2)⟩
theorem keX.le {h h' : HP} (q : keX h h') : leX h h' := fun k q1 q2 => q.2.2 k q1 (by omega) (Or.inl q2)
theorem keM.le {h h' : HP} (q : keM h h') : leM h h' := ⟨q.1 19 (by unfold scM; omega), fun k q1 q2 => q.2 k (by omega)⟩
/-- a call that asks: both answer alike, and all that is held stays -/
def QQ (dx dm : Option (Int32 × HP)) (hx hm : HP) : Prop := ∃ (r : Int32) (hx' hm' : HP), dx = some (r, hx') ∧ dm = some (r, hm') ∧ keX hx hx' ∧ keM hm hm'
/-- a call that changes the state -/
def CC (dx dm : Option (Int32 × HP)) (hx hm : HP) : Prop := ∃ (r : Int32) (hx' hm' : HP) (A' : AS), dx = some (r, hx') ∧ dm = some (r, hm') ∧ WF A' ∧ RX A' hx' ∧ RM A' hm' ∧ leX hx hx' ∧ leM hm hm'
theorem QQ.cc {dx dm : Option (Int32 × HP)} {hx hm : HP} {A : AS} (q : QQ dx dm hx hm) (w : WF A) (rx : RX A hx) (rm : RM A hm) : CC dx dm hx hm := by
  obtain ⟨r, hx', hm', e1, e2, k1, k2⟩ := q
  exact ⟨r, hx', hm', A, e1, e2, w, k1.RX rx, k2.RM rm, k1.le, k2.le⟩
theorem QQ.rf {dx dm : Option (Int32 × HP)} {hx hm : HP} (r : Int32) (e1 : dx = some (r, hx)) (e2 : dm = some (r, hm)) : QQ dx dm hx hm := ⟨r, hx, hm, e1, e2, keX.rf hx, keM.rf hm⟩
theorem QQ.ite {c : Prop} [Decidable c] {dx dm dx' dm' : Option (Int32 × HP)} {hx hm : HP} (h1 : c → QQ dx dm hx hm) (h2 : ¬ c → QQ dx' dm' hx hm) : QQ (if c then dx else dx') (if c then dm else dm') hx hm := by
  by_cases h : c
  · rw [if_pos h, if_pos h]; exact h1 h
  · rw [if_neg h, if_neg h]; exact h2 h
/-! ===== cornerIs, pipeIs, seed ===== -/
section SC
variable {A : AS} {hx hm : HP} {N : Nat}
theorem q_cornerIs (hN : 100 ≤ N) (w : WF A) (rx : RX A hx) (rm : RM A hm) (a b : Int32) : QQ (xX10_cornerIs N a b hx) (xX11_cornerIs N a b hm) hx hm := by
  obtain ⟨⟨w1, w2, w3, -⟩, wt, -⟩ := w
  obtain ⟨tx, sx, -⟩ := rx
  obtain ⟨tm, sm, -⟩ := rm
  unfold xX10_cornerIs xX11_cornerIs
  rw [isToldX w1 tx.1, isToldM w1 tm.1, cl_s, cl_s]
  cases ht : tld A a
  · exact QQ.rf (-1) (by rw [b2_f, if_neg (by decide)]) (by rw [b2_f, if_neg (by decide)])
  · obtain ⟨c, hc, e, -⟩ := tld_of ht
    subst e
    obtain ⟨s1, s2, s3⟩ := sx.2.2.2.2.2.2 c hc
    obtain ⟨m1, m2, m3⟩ := sm.1 c hc
    have wo : A 0 2 < 2147483648 := Nat.lt_of_lt_of_le w3 (Nat.le_trans (Nat.pow_le_pow_right (by decide) w2) (by decide))
    have e10 : ((1 : Int32) ≠ 0) = True := by decide
    have z0 : (0 : Int32) + nI c = nI c := by rw [l0, add_nn, Nat.zero_add]
    have z1 : (16 : Int32) + nI c = nI (16 + c) := by rw [l16, add_nn]
    have z2 : (32 : Int32) + nI c = nI (32 + c) := by rw [l32, add_nn]
    simp (disch := omega) only [b2_t, e10, if_true, z0, z1, z2, ald_n, tx.2.2.1 c hc, s1, s2, s3, tm.2.2.1 c hc, m1, m2, m3, sx.1, openPipesOf_e wt w2 tx wo hc hN, openOf_e wt w2 tm sm.2.1 hc hN, besides_e wt w2 tx wo hc hN, nextTo_e wt w2 tm sm.2.1 hc hN, cl_s]
    refine QQ.ite (fun _ => QQ.rf _ rfl rfl) (fun _ => QQ.ite (fun _ => QQ.rf _ rfl rfl) (fun _ => QQ.ite (fun _ => QQ.rf _ rfl rfl) (fun _ => QQ.ite (fun _ => QQ.rf _ rfl rfl) (fun _ => QQ.ite (fun _ => QQ.rf _ rfl rfl) (fun _ => QQ.ite (fun _ => QQ.rf _ rfl rfl) (fun _ => QQ.rf _ rfl rfl))))))
theorem inP {p n : Nat} (hp : p < 2147483648) (hn : n < 2147483648) (h : HP) : xX11_in (nI p) 0 (nI n - 1) h = some (b2 (decide (p < n)), h) := by
  rw [inM_e]
  congr 3
  rw [decide_eq_decide]
  constructor
  · intro z
    have z2 := z.2
    by_cases q0 : n = 0
    · rw [q0, l1] at z2
      exact absurd (by rw [i_lt, i_n hp, show (nI 0 - nI 1).toInt = -1 from by decide]; omega) z2
    · rw [l1, sub_nn (by omega), lt_nn (by omega) hp] at z2
      omega
  · intro z
    rw [l0, l1, sub_nn (by omega), lt_nn hp (by decide), lt_nn (by omega) hp]
    omega
theorem in_neg {a lo hi : Int32} (ha : a < lo) (h : HP) : xX11_in a lo hi h = some (0, h) := by
  rw [inM_e]; simp [ha, b2]
theorem q_pipeIs (w : WF A) (rx : RX A hx) (rm : RM A hm) (a b : Int32) : QQ (xX10_pipeIs a b hx) (xX11_pipeIs a b hm) hx hm := by
  obtain ⟨⟨w1, w2, w3, -⟩, wt, -⟩ := w
  obtain ⟨tx, sx, -⟩ := rx
  obtain ⟨tm, sm, -⟩ := rm
  have wo : A 0 2 < 2147483648 := Nat.lt_of_lt_of_le w3 (Nat.le_trans (Nat.pow_le_pow_right (by decide) w2) (by decide))
  unfold xX10_pipeIs xX11_pipeIs xX10_pipeIs_15 xX11_pipeIs_75
  rw [tx.2.1, tm.2.1]
  by_cases h1 : a < 0
  · exact QQ.rf (-1) (by rw [if_pos h1]) (by rw [in_neg h1, cl_s, if_neg (by decide)])
  · obtain ⟨p, hp, e⟩ := nI_of h1
    subst e
    rw [if_neg h1, inP hp (by omega), cl_s]
    by_cases h2 : p < A 0 1
    · rw [if_pos (by rw [lt_nn hp (by omega)]; exact h2), decide_eq_true h2, b2_t]
      obtain ⟨x1, x2, x3⟩ := tx.2.2.2 p h2
      obtain ⟨y1, y2, y3⟩ := tm.2.2.2 p h2
      have z2 : (48 : Int32) + nI p = nI (48 + p) := by rw [l48, add_nn]
      have e10 : ((1 : Int32) ≠ 0) = True := by decide
      simp (disch := omega) only [e10, if_true, z2, ald_n, x1, x2, x3, y1, y2, y3, sx.1, bit_nn, sm.2.1 p h2]
      refine ⟨(if b = 0 then nI (A 2 p) else if b = 1 then nI (A 3 p) else if b = 2 then nI (A 4 p) else if b = 3 then nI (A 0 2 / 2 ^ p % 2) else -1), hx, hm, ?_, ?_, keX.rf hx, keM.rf hm⟩
      · by_cases b0 : b = 0 <;> by_cases b1 : b = 1 <;> by_cases b2 : b = 2 <;> by_cases b3 : b = 3 <;> simp [b0, b1, b2, b3]
      · by_cases b0 : b = 0 <;> by_cases b1 : b = 1 <;> by_cases b2 : b = 2 <;> by_cases b3 : b = 3 <;> simp [b0, b1, b2, b3]
    · exact QQ.rf (-1) (by rw [if_neg (by rw [lt_nn hp (by omega)]; exact h2)]) (by rw [decide_eq_false h2, b2_f, if_neg (by decide)])
/-! seed -/
theorem c_seed (w : WF A) (rx : RX A hx) (rm : RM A hm) (a : Int32) : CC (xX10_seed a hx) (xX11_seed a hm) hx hm := by
  unfold xX10_seed xX11_seed xX10_seed_11
  by_cases h1 : a < 0
  · refine (QQ.rf 0 ?_ ?_).cc w rx rm
    · rw [if_pos h1, zok_0]
    · rw [in_neg h1, cl_s, if_neg (by decide), zok_0]
  · obtain ⟨x, hx1, e⟩ := nI_of h1
    subst e
    rw [if_neg h1, inM_e, cl_s]
    by_cases h2 : x < 65536
    · rw [if_pos (by rw [l65536, lt_nn hx1 (by decide)]; exact h2), if_pos (by
        rw [ne_eq, b2_0, decide_eq_false_iff_not]
        intro z
        apply z
        refine ⟨h1, ?_⟩
        rw [l65535, lt_nn (by decide) hx1]
        omega)]
      rw [l74, ast_n (by decide) (by decide), lt_e, zok_1, zok_1]
      obtain ⟨⟨w1, w2, w3, w4, w5, w6, w7, w8⟩, -⟩ := id w
      refine ⟨1, _, _, stA A (A 0 2) (A 0 3) (A 0 4) x (A 5) (A 6) (A 7), rfl, rfl, w.st ⟨w1, w2, w3, w4, w5, h2, w7, w8⟩, rx.st (fun k hk => up_n (by omega)) ?_, rm.st (fun j _ => by rw [up_n (by decide)]) (fun k h3 h4 => up_n (by omega)) ?_, fun k h3 h4 => up_n (by omega), ⟨by rw [up_n (by decide)], fun k h3 h4 => up_n (by omega)⟩⟩
      · obtain ⟨s1, s2, s3, s4, s5, s6, s7⟩ := rx.2.1
        refine ⟨?_, ?_, ?_, ?_, ?_, ?_, fun c hc => ?_⟩
        · rw [up_at]; exact s1
        · rw [up_at]; exact s2
        · rw [up_at]; exact s3
        · rw [up_at]; simp
        · rw [up_at]; exact s5
        · rw [up_at]; exact s6
        · rw [up_n (by omega), up_n (by omega), up_n (by omega)]; exact s7 c hc
      · obtain ⟨s1, s2, s3, s4, s5⟩ := rm.2.1
        refine ⟨fun c hc => ?_, fun p hp => ?_, ?_, ?_, ?_⟩
        · rw [up_at, up_at, up_at, if_neg (by omega), if_neg (by omega), if_neg (by omega)]; exact s1 c hc
        · rw [up_at, if_neg (by omega)]; exact s2 p hp
        · rw [up_at]; exact s3
        · rw [up_at]; exact s4
        · rw [up_at]; simp
    · refine (QQ.rf 0 ?_ ?_).cc w rx rm
      · rw [if_neg (by rw [l65536, lt_nn hx1 (by decide)]; exact h2), zok_0]
      · rw [if_neg (by
          rw [ne_eq, Decidable.not_not, b2_0, decide_eq_false_iff_not]
          intro z
          apply z.2
          rw [l65535, lt_nn (by decide) hx1]
          omega), zok_0]
end SC
