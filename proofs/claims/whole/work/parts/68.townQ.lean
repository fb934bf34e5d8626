section TWQ
variable {A : AS} {hx hm : HP} {N : Nat}
theorem tw43 : ∀ n i h, i ≤ 16 → 16 - i < n → (∀ c, c < i → h.1 22 c = 0) → ∃ h', xX11_town_43 N n (nI i) h = (cl (xX11_readsTownLine N h') fun t1 h2 => xX11_town_67 N N t1 h2) ∧ (∀ k, k ≠ 22 → h'.1 k = h.1 k) ∧ ∀ c, c < 16 → h'.1 22 c = 0 := by
  intro n
  induction n with
  | zero => intro i h _ q; omega
  | succ n ih =>
    intro i h hi hq hz
    rw [xX11_town_43]
    dsimp only
    by_cases e : i = 16
    · subst e
      rw [if_pos (by decide)]
      exact ⟨h, rfl, fun _ _ => rfl, hz⟩
    · rw [if_neg (by rw [l16, le_nn (by decide) (by omega)]; omega), ast_n (by omega) (by decide), lt_e, nI_1]
      obtain ⟨h', e1, e2, e3⟩ := ih (i + 1) (up h 22 i 0) (by omega) (by omega) (fun c hc => by
        rw [up_at]
        by_cases z : c = i
        · rw [if_pos ⟨rfl, z⟩]
        · rw [if_neg (fun y => z y.2)]; exact hz c (by omega))
      exact ⟨h', e1, fun k hk => by rw [e2 k hk, up_n hk], e3⟩
theorem tw194 {np : Nat} (hn : np ≤ 24) : ∀ n i h, i ≤ np → np - i < n → h.1 0 8 = nI np → (∀ p, p < i → h.1 5 p = h.1 23 p ∧ h.1 6 p = h.1 24 p ∧ h.1 7 p = h.1 25 p ∧ h.1 1 (48 + p) = 1) → ∃ h', xX11_town_194 N n (nI i) h = some (nI np, h') ∧ (∀ k, k ≠ 1 → k ≠ 5 → k ≠ 6 → k ≠ 7 → h'.1 k = h.1 k) ∧ (∀ j, (j < 48 ∨ 72 ≤ j) → h'.1 1 j = h.1 1 j) ∧ ∀ p, p < np → h'.1 5 p = h.1 23 p ∧ h'.1 6 p = h.1 24 p ∧ h'.1 7 p = h.1 25 p ∧ h'.1 1 (48 + p) = 1 := by
  intro n
  induction n with
  | zero => intro i h _ q; omega
  | succ n ih =>
    intro i h hi hq h8 hz
    rw [xX11_town_194]
    dsimp only
    rw [h8]
    by_cases e : i = np
    · subst e
      rw [if_pos (by rw [le_nn (by omega) (by omega)]; omega)]
      exact ⟨h, rfl, fun _ _ _ _ _ => rfl, fun _ _ => rfl, hz⟩
    · rw [if_neg (by rw [le_nn (by omega) (by omega)]; omega), ald_n (by omega) (by decide), ast_n (by omega) (by decide), ald_n (by omega) (by decide), up_n (show 24 ≠ 5 by decide), ast_n (by omega) (by decide), ald_n (by omega) (by decide), up_n (show 25 ≠ 6 by decide), up_n (show 25 ≠ 5 by decide), ast_n (by omega) (by decide), l48, add_nn, ast_n (by omega) (by decide), lt_e, nI_1]
      obtain ⟨h', e1, e2, e3, e4⟩ := ih (i + 1) (up (up (up (up h 5 i (h.1 23 i)) 6 i (h.1 24 i)) 7 i (h.1 25 i)) 1 (48 + i) 1) (by omega) (by omega) (by rw [up_n (by decide), up_n (by decide), up_n (by decide), up_n (by decide)]; exact h8) (fun p hp => by
        have hz2 : ∀ q, q ≠ i → q < i + 1 → q < i := fun q _ _ => by omega
        refine ⟨?_, ?_, ?_, ?_⟩
        · rw [up_n (show 5 ≠ 1 by decide), up_n (show 5 ≠ 7 by decide), up_n (show 5 ≠ 6 by decide), up_at, up_n (show 23 ≠ 1 by decide), up_n (show 23 ≠ 7 by decide), up_n (show 23 ≠ 6 by decide), up_n (show 23 ≠ 5 by decide)]
          by_cases z : p = i
          · rw [if_pos ⟨rfl, z⟩, z]
          · rw [if_neg (fun y => z y.2)]; exact (hz p (hz2 p z hp)).1
        · rw [up_n (show 6 ≠ 1 by decide), up_n (show 6 ≠ 7 by decide), up_at, up_n (show 6 ≠ 5 by decide), up_n (show 24 ≠ 1 by decide), up_n (show 24 ≠ 7 by decide), up_n (show 24 ≠ 6 by decide), up_n (show 24 ≠ 5 by decide)]
          by_cases z : p = i
          · rw [if_pos ⟨rfl, z⟩, z]
          · rw [if_neg (fun y => z y.2)]; exact (hz p (hz2 p z hp)).2.1
        · rw [up_n (show 7 ≠ 1 by decide), up_at, up_n (show 7 ≠ 6 by decide), up_n (show 7 ≠ 5 by decide), up_n (show 25 ≠ 1 by decide), up_n (show 25 ≠ 7 by decide), up_n (show 25 ≠ 6 by decide), up_n (show 25 ≠ 5 by decide)]
          by_cases z : p = i
          · rw [if_pos ⟨rfl, z⟩, z]
          · rw [if_neg (fun y => z y.2)]; exact (hz p (hz2 p z hp)).2.2.1
        · rw [up_at, up_n (show 1 ≠ 7 by decide), up_n (show 1 ≠ 6 by decide), up_n (show 1 ≠ 5 by decide)]
          by_cases z : p = i
          · rw [if_pos ⟨rfl, by omega⟩]
          · rw [if_neg (by omega)]; exact (hz p (hz2 p z hp)).2.2.2)
      refine ⟨h', e1, fun k k1 k2 k3 k4 => by rw [e2 k k1 k2 k3 k4, up_n k1, up_n k4, up_n k3, up_n k2], fun j hj => by rw [e3 j hj, up_at, if_neg (by omega), up_n (by decide), up_n (by decide), up_n (by decide)], fun p hp => ?_⟩
      obtain ⟨a, b, c, d⟩ := e4 p hp
      rw [up_n (by decide), up_n (by decide), up_n (by decide), up_n (by decide)] at a b c
      exact ⟨a, b, c, d⟩
theorem tw139 : ∀ n i h, i ≤ 16 → 16 - i < n → (∀ c, c < i → h.1 4 c = h.1 22 c ∧ h.1 1 c = 0 ∧ h.1 1 (16 + c) = 0 ∧ h.1 1 (32 + c) = 0) → ∃ h', xX11_town_139 N n (nI i) h = xX11_town_194 N N 0 h' ∧ (∀ k, k ≠ 1 → k ≠ 4 → h'.1 k = h.1 k) ∧ (∀ j, 48 ≤ j → h'.1 1 j = h.1 1 j) ∧ ∀ c, c < 16 → h'.1 4 c = h.1 22 c ∧ h'.1 1 c = 0 ∧ h'.1 1 (16 + c) = 0 ∧ h'.1 1 (32 + c) = 0 := by
  intro n
  induction n with
  | zero => intro i h _ q; omega
  | succ n ih =>
    intro i h hi hq hz
    rw [xX11_town_139]
    dsimp only
    by_cases e : i = 16
    · subst e
      rw [if_pos (by decide)]
      exact ⟨h, rfl, fun _ _ _ => rfl, fun _ _ => rfl, hz⟩
    · rw [if_neg (by rw [l16, le_nn (by decide) (by omega)]; omega), ald_n (by omega) (by decide), ast_n (by omega) (by decide), l0, l16, l32, add_nn, add_nn, add_nn, ast_n (by omega) (by decide), ast_n (by omega) (by decide), ast_n (by omega) (by decide), lt_e, nI_1]
      obtain ⟨h', e1, e2, e3, e4⟩ := ih (i + 1) (up (up (up (up h 4 i (h.1 22 i)) 1 (0 + i) (nI 0)) 1 (16 + i) (nI 0)) 1 (32 + i) (nI 0)) (by omega) (by omega) (fun c hc => by
        rw [up_n (show 4 ≠ 1 by decide), up_n (show 4 ≠ 1 by decide), up_n (show 4 ≠ 1 by decide), up_n (show 22 ≠ 1 by decide), up_n (show 22 ≠ 1 by decide), up_n (show 22 ≠ 1 by decide), up_n (show 22 ≠ 4 by decide), up_at, up_at, up_at, up_at, up_n (show 1 ≠ 4 by decide), up_at, up_at, up_at, up_n (show 1 ≠ 4 by decide), up_at, up_at, up_at, up_n (show 1 ≠ 4 by decide)]
        by_cases z : c = i
        · subst z
          rw [if_pos ⟨rfl, rfl⟩, if_neg (by omega), if_neg (by omega), if_pos (by omega), if_neg (by omega), if_pos (by omega), if_pos (by omega)]
          exact ⟨rfl, rfl, rfl, rfl⟩
        · obtain ⟨a, b, c1, d⟩ := hz c (by omega)
          rw [if_neg (fun y => z y.2), if_neg (by omega), if_neg (by omega), if_neg (by omega), if_neg (by omega), if_neg (by omega), if_neg (by omega), if_neg (by omega), if_neg (by omega), if_neg (by omega)]
          exact ⟨a, b, c1, d⟩)
      refine ⟨h', e1, fun k k1 k2 => by rw [e2 k k1 k2, up_n k1, up_n k1, up_n k1, up_n k2], fun j hj => by rw [e3 j hj, up_at, if_neg (by omega), up_at, if_neg (by omega), up_at, if_neg (by omega), up_n (by decide)], fun c hc => ?_⟩
      obtain ⟨a, b, c1, d⟩ := e4 c hc
      rw [up_n (by decide), up_n (by decide), up_n (by decide), up_n (by decide)] at a
      exact ⟨a, b, c1, d⟩
/-- the town that was told -/
def twA (A B : AS) : AS := fun a b => match a with
  | 0 => (match b with | 0 => B 0 0 | 1 => B 0 1 | 2 => 2 ^ (B 0 1) - 1 | 6 => 0 | _ => A 0 b)
  | 1 => B 1 b
  | 2 => B 2 b
  | 3 => B 3 b
  | 4 => B 4 b
  | 5 => 0
  | 6 => 0
  | 7 => 0
  | _ => A a b
theorem WF.tw {B : AS} (w : WF A) (wn : WN B) : WF (twA A B) := by
  obtain ⟨⟨w1, w2, w3, w4, w5, w6, w7, w8⟩, y2, y3, y4⟩ := w
  obtain ⟨n1, n2, n3, n4⟩ := wn
  refine ⟨⟨n1, n2, ?_, w4, w5, w6, fun c _ => ⟨Nat.zero_le _, Nat.zero_le _, Nat.zero_le _⟩, fun c _ _ => ⟨rfl, rfl, rfl⟩⟩, ⟨n3, n4⟩, ⟨Nat.zero_le _, fun i hi => absurd hi (Nat.not_lt_zero _)⟩, y4⟩
  show 2 ^ (B 0 1) - 1 < 2 ^ (B 0 1)
  have := Nat.two_pow_pos (B 0 1)
  omega
theorem c_town (hN : 300 ≤ N) (w : WF A) (rx : RX A hx) (rm : RM A hm) (a : Int32) : CC (xX10_town N a hx) (xX11_town N a hm) hx hm := by
  have wp := w.2.2.1
  have wn0 := w.1.2.1
  unfold xX10_town xX11_town xX11_town_19
  rw [gives_e, inM_e, cl_s, rm.2.2.1.1, ← rx.2.2.1.1]
  by_cases h5 : ¬ a < 1 ∧ ¬ (160 : Int32) < a ∧ a ≤ hx.1 1 1
  · obtain ⟨n, hn1, rfl⟩ := gv_iff (A := A) (by decide) rx.2.2.1.1 h5 wp.1
    have hn : n ≤ 160 := by have := h5.2.1; rw [show (160 : Int32) = nI 160 from rfl, lt_nn (by decide) (by omega)] at this; omega
    rw [if_pos h5, cl_s, if_pos (show (1 : Int32) ≠ 0 from by decide), decide_eq_true (show ¬ nI n < 1 ∧ ¬ (160 : Int32) < nI n from ⟨h5.1, h5.2.1⟩), b2_t, if_neg (show ¬ (1 : Int32) = 0 from by decide), if_pos h5.2.2]
    have tp : TP (A 8) n := ⟨by omega, fun i hi => wp.2 i (by omega)⟩
    have bx := BX.of (m := n) w rx hn1
    -- the class begins
    unfold xX6_readFrom
    obtain ⟨h1, e1, k1, z1, -⟩ := fill_e (N := N) (na := 16) (ka := 9) 0 (gvX hx (nI n)) (by decide) (by omega)
    rw [e1, cl_s, lt_e, lt_e]
    have fx : ∀ k, k ≠ 1 → k ≠ 8 → k ≠ 9 → (up (up h1 8 4 0) 8 5 0).1 k = hx.1 k := fun k q1 q2 q3 => by rw [up_n q2, up_n q2, k1 k q3, gvX_n q1]
    have x1 : (up (up h1 8 4 0) 8 5 0).1 1 = (gvX hx (nI n)).1 1 := by rw [up_n (by decide), up_n (by decide), k1 1 (by decide)]
    have tx : TcX (A 8) n 0 (up (up h1 8 4 0) 8 5 0) := ⟨Nat.zero_le _, by rw [x1]; unfold gvX; simp [up_at]; rfl, by rw [x1]; exact bx.2.1, fun i hi => by rw [fx 2 (by decide) (by decide) (by decide)]; exact rx.2.2.1.2 i (by omega)⟩
    have nx : NX (fun _ _ => 0) (up (up h1 8 4 0) 8 5 0) := ⟨by rw [up_at, if_neg (by decide), up_at, if_pos ⟨rfl, rfl⟩]; rfl, by rw [up_at, if_pos ⟨rfl, rfl⟩]; rfl, fun c hc => by rw [up_n (by decide), up_n (by decide)]; exact z1 c hc, fun p hp => absurd hp (Nat.not_lt_zero _)⟩
    have x11 : (up (up h1 8 4 0) 8 5 0).1 1 1 = nI 0 := by rw [x1]; unfold gvX; simp [up_at]; rfl
    generalize up (up h1 8 4 0) 8 5 0 = hx1 at *
    -- the reference begins
    unfold xX11_beginsText
    simp only [lt_e]
    rw [cl_s]
    obtain ⟨m1, f1, j1, y1⟩ := tw43 (N := N) N 0 (up (up (up (up (up (up (up hm 0 11 0) 0 12 (nI n)) 0 16 0) 0 18 0) 0 37 0) 0 38 0) 0 39 0) (by omega) (by omega) (fun c hc => by omega)
    rw [show xX11_town_43 N N 0 _ = _ from f1]
    have mk : ∀ k, k ≠ 0 → k ≠ 22 → m1.1 k = hm.1 k := fun k q1 q2 => by rw [j1 k q2, up_n q1, up_n q1, up_n q1, up_n q1, up_n q1, up_n q1, up_n q1]
    have mo : ∀ j, j ≠ 11 → j ≠ 12 → j ≠ 16 → j ≠ 18 → j ≠ 37 → j ≠ 38 → j ≠ 39 → m1.1 0 j = hm.1 0 j := fun j q1 q2 q3 q4 q5 q6 q7 => by rw [j1 0 (by decide), up_at, if_neg (by omega), up_at, if_neg (by omega), up_at, if_neg (by omega), up_at, if_neg (by omega), up_at, if_neg (by omega), up_at, if_neg (by omega), up_at, if_neg (by omega)]
    have tm : TcM (A 8) n 0 m1 := ⟨by rw [j1 0 (by decide)]; simp [up_at]; rfl, by rw [j1 0 (by decide)]; simp [up_at], fun i hi => by rw [mk 8 (by decide) (by decide)]; exact rm.2.2.1.2 i (by omega)⟩
    have nm : NM (fun _ _ => 0) m1 := ⟨by rw [j1 0 (by decide)]; simp [up_at]; rfl, by rw [j1 0 (by decide)]; simp [up_at]; rfl, y1, fun p hp => absurd hp (Nat.not_lt_zero _)⟩
    have m39 : m1.1 0 39 = nI 0 := by rw [j1 0 (by decide)]; simp [up_at]; rfl
    obtain ⟨r, x2, m2, r1, m3, g1, g2, g3, g4, g5, g6, g7⟩ := tfrom_l (N := N) (by omega) tp 30 N N 0 0 (fun _ _ => 0) hx1 m1 (by omega) (by omega) (by omega) (by omega) tx tm nx nm ⟨by decide, by decide, fun _ _ => Nat.zero_le _, fun p hp => absurd hp (Nat.not_lt_zero _)⟩ m39
    rw [show xX6_readFrom_20 N N 0 hx1 = _ from g1, g2, cl_s, cl_s, g4]
    unfold xX11_town_107
    rw [lt_e]
    have mk2 : ∀ k, k ≠ 0 → (k < 22 ∨ 25 < k) → m2.1 k = hm.1 k := fun k q1 q2 => by rw [g6.1 k q1 q2, mk k q1 (by omega)]
    have mo2 : ∀ j, j ≠ 11 → j ≠ 12 → j ≠ 13 → j ≠ 14 → j ≠ 16 → j ≠ 18 → j ≠ 37 → j ≠ 38 → j ≠ 39 → m2.1 0 j = hm.1 0 j := fun j q1 q2 q8 q9 q3 q4 q5 q6 q7 => by rw [g6.2 j q1 q8 q9 q5 q6 q7, mo j q1 q2 q3 q4 q5 q6 q7]
    have xk2 : ∀ k, k ≠ 1 → (k < 8 ∨ 12 < k) → x2.1 k = hx.1 k := fun k q1 q2 => by rw [g5.1 k q1 q2, fx k q1 (by omega) (by omega)]
    have x211 : x2.1 1 1 = nI 0 := by rw [g5.2.1]; exact x11
    rcases g7 with ⟨rfl, B, nx2, nm2, wn2⟩ | ⟨rfl, g8⟩
    · have w24 := wn2.2.1
      rw [if_pos (by decide), if_pos (by decide), lt_e, lt_e]
      unfold xX6_become
      simp only [lt_e]
      rw [cl_s]
      -- the class's streets
      have bk : ∀ k, k ≠ 3 → k ≠ 4 → k ≠ 5 → k ≠ 6 → k ≠ 7 → (up (up (cpyA (cpyA (cpyA (cpyA x2 9 4 16) 10 5 24) 11 6 24) 12 7 24) 3 4 ((cpyA (cpyA (cpyA (cpyA x2 9 4 16) 10 5 24) 11 6 24) 12 7 24).1 8 4)) 3 5 ((up (cpyA (cpyA (cpyA (cpyA x2 9 4 16) 10 5 24) 11 6 24) 12 7 24) 3 4 ((cpyA (cpyA (cpyA (cpyA x2 9 4 16) 10 5 24) 11 6 24) 12 7 24).1 8 4)).1 8 5)).1 k = x2.1 k := fun k q1 q2 q3 q4 q5 => by rw [up_n q1, up_n q1, cpyA_n q5, cpyA_n q4, cpyA_n q3, cpyA_n q2]
      have bt : TX (twA A B) (up (up (cpyA (cpyA (cpyA (cpyA x2 9 4 16) 10 5 24) 11 6 24) 12 7 24) 3 4 ((cpyA (cpyA (cpyA (cpyA x2 9 4 16) 10 5 24) 11 6 24) 12 7 24).1 8 4)) 3 5 ((up (cpyA (cpyA (cpyA (cpyA x2 9 4 16) 10 5 24) 11 6 24) 12 7 24) 3 4 ((cpyA (cpyA (cpyA (cpyA x2 9 4 16) 10 5 24) 11 6 24) 12 7 24).1 8 4)).1 8 5)) := by
        obtain ⟨a1, a2, a3, a4⟩ := nx2
        refine ⟨?_, ?_, fun c hc => ?_, fun p hp => ?_⟩
        · rw [up_at, if_neg (by decide), up_at, if_pos ⟨rfl, rfl⟩, cpyA_n (by decide), cpyA_n (by decide), cpyA_n (by decide), cpyA_n (by decide)]; exact a1
        · rw [up_at, if_pos ⟨rfl, rfl⟩, up_n (by decide), cpyA_n (by decide), cpyA_n (by decide), cpyA_n (by decide), cpyA_n (by decide)]; exact a2
        · rw [up_n (by decide), up_n (by decide), cpyA_n (by decide), cpyA_n (by decide), cpyA_n (by decide), cpyA_in hc]; exact a3 c hc
        · have hp : p < B 0 1 := hp
          have p24 : p < 24 := by omega
          rw [up_n (by decide), up_n (by decide), up_n (by decide), up_n (by decide), up_n (by decide), up_n (by decide), cpyA_n (show 5 ≠ 7 by decide), cpyA_n (show 5 ≠ 6 by decide), cpyA_in p24, cpyA_n (show 6 ≠ 7 by decide), cpyA_in p24, cpyA_in p24, cpyA_n (show 10 ≠ 4 by decide), cpyA_n (show 11 ≠ 5 by decide), cpyA_n (show 11 ≠ 4 by decide), cpyA_n (show 12 ≠ 6 by decide), cpyA_n (show 12 ≠ 5 by decide), cpyA_n (show 12 ≠ 4 by decide)]
          exact a4 p hp
      generalize up (up (cpyA (cpyA (cpyA (cpyA x2 9 4 16) 10 5 24) 11 6 24) 12 7 24) 3 4 ((cpyA (cpyA (cpyA (cpyA x2 9 4 16) 10 5 24) 11 6 24) 12 7 24).1 8 4)) 3 5 ((up (cpyA (cpyA (cpyA (cpyA x2 9 4 16) 10 5 24) 11 6 24) 12 7 24) 3 4 ((cpyA (cpyA (cpyA (cpyA x2 9 4 16) 10 5 24) 11 6 24) 12 7 24).1 8 4)).1 8 5) = x3 at *
      have b34 : x3.1 3 4 = nI (B 0 0) := bt.1
      have b35 : x3.1 3 5 = nI (B 0 1) := bt.2.1
      unfold xX5_settle
      obtain ⟨x4, e4, k4, z4, -⟩ := fill_e (N := N) (na := 16) (ka := 32) 0 x3 (by decide) (by omega)
      obtain ⟨x5, e5, k5, z5, -⟩ := fill_e (N := N) (na := 16) (ka := 33) 0 x4 (by decide) (by omega)
      obtain ⟨x6, e6, k6, z6, -⟩ := fill_e (N := N) (na := 16) (ka := 34) 0 x5 (by decide) (by omega)
      rw [b34, b35, e4, cl_s, e5, cl_s, e6, cl_s]
      simp only [lt_e]
      rw [cl_s, pow_m1 _ (by omega)]
      have xk3 : ∀ k, (k < 31 ∨ 34 < k) → (up (up (up x6 31 7 (nI (B 0 0))) 31 8 (nI (B 0 1))) 31 3 (nI (2 ^ (B 0 1) - 1))).1 k = x3.1 k := fun k q => by rw [up_n (by omega), up_n (by omega), up_n (by omega), k6 k (by omega), k5 k (by omega), k4 k (by omega)]
      have x631 : x6.1 31 = hx.1 31 := by rw [k6 31 (by decide), k5 31 (by decide), k4 31 (by decide), bk 31 (by decide) (by decide) (by decide) (by decide) (by decide), xk2 31 (by decide) (by decide)]
      rw [xk3 3 (by omega), b35]
      -- the reference's town
      have n37 : (up m2 0 10 0).1 0 37 = nI (B 0 0) := by rw [up_at, if_neg (by decide)]; exact nm2.1
      have n38 : (up (up m2 0 10 0) 0 7 (nI (B 0 0))).1 0 38 = nI (B 0 1) := by rw [up_at, if_neg (by decide), up_at, if_neg (by decide)]; exact nm2.2.1
      rw [n37, n38]
      obtain ⟨m4, d1, d2, d3, d4⟩ := tw139 (N := N) N 0 (up (up (up m2 0 10 0) 0 7 (nI (B 0 0))) 0 8 (nI (B 0 1))) (by omega) (by omega) (fun c hc => by omega)
      rw [show xX11_town_139 N N 0 _ = _ from d1]
      obtain ⟨m5, c1, c2, c3, c4⟩ := tw194 (N := N) w24 N 0 m4 (by omega) (by omega) (by rw [d2 0 (by decide) (by decide), up_at, if_pos ⟨rfl, rfl⟩]) (fun p hp => by omega)
      rw [show xX11_town_194 N N 0 _ = _ from c1]
      have q0 : ∀ k, k ≠ 0 → k ≠ 1 → k ≠ 4 → k ≠ 5 → k ≠ 6 → k ≠ 7 → m5.1 k = m2.1 k := fun k q1 q2 q3 q4 q5 q6 => by rw [c2 k q2 q4 q5 q6, d2 k q2 q3, up_n q1, up_n q1, up_n q1]
      have q00 : ∀ j, j ≠ 7 → j ≠ 8 → j ≠ 10 → m5.1 0 j = m2.1 0 j := fun j q1 q2 q3 => by rw [c2 0 (by decide) (by decide) (by decide) (by decide), d2 0 (by decide) (by decide), up_at, if_neg (by omega), up_at, if_neg (by omega), up_at, if_neg (by omega)]
      refine ⟨_, _, _, twA A B, rfl, rfl, w.tw wn2, ⟨?_, ?_, ?_, ?_⟩, ⟨?_, ?_, ?_, ?_⟩, fun k k1 k2 => ?_, ⟨?_, fun k k1 k2 => ?_⟩⟩
      · obtain ⟨a1, a2, a3, a4⟩ := bt
        exact ⟨by rw [xk3 3 (by omega)]; exact a1, by rw [xk3 3 (by omega)]; exact a2, fun c hc => by rw [xk3 4 (by omega)]; exact a3 c hc, fun p hp => by rw [xk3 5 (by omega), xk3 6 (by omega), xk3 7 (by omega)]; exact a4 p hp⟩
      · obtain ⟨s1, s2, s3, s4, s5, s6, s7⟩ := rx.2.1
        refine ⟨?_, ?_, ?_, ?_, ?_, ?_, fun c hc => ⟨?_, ?_, ?_⟩⟩
        · rw [up_at, if_pos ⟨rfl, rfl⟩]; rfl
        · rw [up_at, if_neg (by decide), up_at, if_neg (by decide), up_at, if_neg (by decide), x631]; exact s2
        · rw [up_at, if_neg (by decide), up_at, if_neg (by decide), up_at, if_neg (by decide), x631]; exact s3
        · rw [up_at, if_neg (by decide), up_at, if_neg (by decide), up_at, if_neg (by decide), x631]; exact s4
        · rw [up_at, if_neg (by decide), up_at, if_neg (by decide), up_at, if_pos ⟨rfl, rfl⟩]; rfl
        · rw [up_at, if_neg (by decide), up_at, if_pos ⟨rfl, rfl⟩]; rfl
        · rw [up_n (by decide), up_n (by decide), up_n (by decide), k6 32 (by decide), k5 32 (by decide), z4 c hc]; rfl
        · rw [up_n (by decide), up_n (by decide), up_n (by decide), k6 33 (by decide), z5 c hc]; rfl
        · rw [up_n (by decide), up_n (by decide), up_n (by decide), z6 c hc]; rfl
      · refine ⟨?_, fun i hi => absurd hi (Nat.not_lt_zero _)⟩
        rw [xk3 1 (by omega), bk 1 (by decide) (by decide) (by decide) (by decide) (by decide)]; exact x211
      · refine ⟨?_, fun h7 => (rx.2.2.2.2 h7).keep (fun k q1 q2 => ?_)⟩
        · rw [xk3 0 (by omega), bk 0 (by decide) (by decide) (by decide) (by decide) (by decide), xk2 0 (by decide) (by decide)]; exact rx.2.2.2.1
        · rw [xk3 k (by omega), bk k (by omega) (by omega) (by omega) (by omega) (by omega), xk2 k (by omega) (by omega)]
      · refine ⟨?_, ?_, fun c hc => ?_, fun p hp => ?_⟩
        · rw [c2 0 (by decide) (by decide) (by decide) (by decide), d2 0 (by decide) (by decide), up_at, if_neg (by decide), up_at, if_pos ⟨rfl, rfl⟩]; rfl
        · rw [c2 0 (by decide) (by decide) (by decide) (by decide), d2 0 (by decide) (by decide), up_at, if_pos ⟨rfl, rfl⟩]; rfl
        · rw [c2 4 (by decide) (by decide) (by decide) (by decide), (d4 c hc).1, up_n (by decide), up_n (by decide), up_n (by decide)]; exact nm2.2.2.1 c hc
        · obtain ⟨u1, u2, u3, u4⟩ := c4 p hp
          rw [u1, u2, u3, d2 23 (by decide) (by decide), d2 24 (by decide) (by decide), d2 25 (by decide) (by decide), up_n (by decide), up_n (by decide), up_n (by decide), up_n (by decide), up_n (by decide), up_n (by decide), up_n (by decide), up_n (by decide), up_n (by decide)]
          exact nm2.2.2.2 p hp
      · obtain ⟨s1, s2, s3, s4, s5⟩ := rm.2.1
        have keep : ∀ j, 72 ≤ j → m5.1 1 j = hm.1 1 j := fun j hj => by rw [c3 j (Or.inr hj), d3 j (by omega), up_n (by decide), up_n (by decide), up_n (by decide), mk2 1 (by decide) (by decide)]
        refine ⟨fun c hc => ?_, fun p hp => ?_, ?_, ?_, ?_⟩
        · obtain ⟨-, u2, u3, u4⟩ := d4 c hc
          rw [c3 c (Or.inl (by omega)), c3 (16 + c) (Or.inl (by omega)), c3 (32 + c) (Or.inl (by omega)), u2, u3, u4]
          exact ⟨rfl, rfl, rfl⟩
        · have hp : p < B 0 1 := hp
          rw [(c4 p hp).2.2.2]
          have : (2 ^ (B 0 1) - 1).testBit p = true := by rw [Nat.testBit_two_pow_sub_one]; simp [hp]
          rw [tb_iff] at this
          show (1 : Int32) = nI ((2 ^ (B 0 1) - 1) / 2 ^ p % 2)
          rw [this]; rfl
        · rw [keep 72 (by decide)]; exact s3
        · rw [keep 73 (by decide)]; exact s4
        · rw [keep 74 (by decide)]; exact s5
      · refine ⟨?_, fun i hi => absurd hi (Nat.not_lt_zero _)⟩
        rw [c2 0 (by decide) (by decide) (by decide) (by decide), d2 0 (by decide) (by decide), up_at, if_neg (by decide), up_at, if_neg (by decide), up_at, if_pos ⟨rfl, rfl⟩]; rfl
      · have o : ∀ j, 58 ≤ j → m5.1 0 j = hm.1 0 j := fun j hj => by rw [q00 j (by omega) (by omega) (by omega), mo2 j (by omega) (by omega) (by omega) (by omega) (by omega) (by omega) (by omega) (by omega) (by omega)]
        refine ⟨?_, fun h7 => ?_⟩
        · rw [o 58 (by decide)]; exact rm.2.2.2.1
        · rw [o 59 (by decide), o 60 (by decide), q0 3 (by decide) (by decide) (by decide) (by decide) (by decide) (by decide), mk2 3 (by decide) (by decide)]
          exact rm.2.2.2.2 h7
      · rw [xk3 k (by omega), bk k (by omega) (by omega) (by omega) (by omega) (by omega), xk2 k (by omega) (by omega)]
      · rw [q00 19 (by decide) (by decide) (by decide), mo2 19 (by decide) (by decide) (by decide) (by decide) (by decide) (by decide) (by decide) (by decide) (by decide)]
      · rw [q0 k (by omega) (by omega) (by omega) (by omega) (by omega) (by omega), mk2 k (by omega) (by omega)]
    · rw [if_neg (by simp), if_neg (by simp), show (up m2 0 10 0).1 0 13 = m2.1 0 13 from by rw [up_at, if_neg (by decide)], ← g8]
      have km : keM hm m2 := ⟨fun j hj => mo2 j (fun z => hj (by unfold scM; omega)) (fun z => hj (by unfold scM; omega)) (fun z => hj (by unfold scM; omega)) (fun z => hj (by unfold scM; omega)) (fun z => hj (by unfold scM; omega)) (fun z => hj (by unfold scM; omega)) (fun z => hj (by unfold scM; omega)) (fun z => hj (by unfold scM; omega)) (fun z => hj (by unfold scM; omega)), fun k hk => mk2 k (by omega) (by omega)⟩
      refine ⟨_, _, _, tpA A 0 (A 8), rfl, rfl, w.gv, rx.tp (fun k q1 q2 q3 => xk2 k q1 (by omega)) x211 (fun i hi => by omega), (km.RM rm).gv, fun k q1 q2 => xk2 k (by omega) (by omega), km.le.tr (leM.gv _)⟩
  · refine (QQ.rf (-1) ?_ ?_).cc w rx rm
    · rw [if_neg h5, cl_s, if_neg (by simp)]
    · by_cases q : ¬ a < 1 ∧ ¬ (160 : Int32) < a
      · rw [decide_eq_true q, b2_t, if_neg (show ¬ (1 : Int32) = 0 from by decide), if_neg (fun z => h5 ⟨q.1, q.2, z⟩)]
      · rw [decide_eq_false q, b2_f, if_pos rfl]
end TWQ
