section LAWC
variable {A : AS} {hx hm : HP} {N : Nat}
theorem law95 {ℓ : Nat} (hl : ℓ ≤ 240) : ∀ n i h, i ≤ ℓ → ℓ - i < n → h.1 0 16 = nI ℓ → (∀ k, k < i → h.1 15 k = h.1 9 k) → ∃ h', xX11_law_95 N n (nI i) h = xX11_law_123 N N 0 h' ∧ (∀ k, k ≠ 15 → h'.1 k = h.1 k) ∧ ∀ k, k < ℓ → h'.1 15 k = h.1 9 k := by
  intro n
  induction n with
  | zero => intro i h _ q; omega
  | succ n ih =>
    intro i h hi hq h16 hz
    rw [xX11_law_95]
    dsimp only
    rw [h16]
    by_cases e : i = ℓ
    · subst e
      rw [if_pos (by rw [le_nn (by omega) (by omega)]; omega)]
      exact ⟨h, rfl, fun _ _ => rfl, hz⟩
    · rw [if_neg (by rw [le_nn (by omega) (by omega)]; omega), ald_n (by omega) (by decide), ast_n (by omega) (by decide), lt_e, nI_1]
      obtain ⟨h', e1, e2, e3⟩ := ih (i + 1) (up h 15 i (h.1 9 i)) (by omega) (by omega) (by rw [up_n (by decide)]; exact h16) (fun k hk => by
        rw [up_at, up_n (by decide)]
        by_cases z : k = i
        · rw [if_pos ⟨rfl, z⟩, z]
        · rw [if_neg (fun y => z y.2)]; exact hz k (by omega))
      exact ⟨h', e1, fun k hk => by rw [e2 k hk, up_n hk], fun k hk => by rw [e3 k hk, up_n (by decide)]⟩
theorem law123 {r : Nat} (hr : r ≤ 16) : ∀ n i h, i ≤ r → r - i < n → h.1 0 18 = nI r → (∀ k, k < i → h.1 16 k = h.1 11 k ∧ h.1 17 k = h.1 12 k ∧ h.1 18 k = h.1 13 k ∧ h.1 19 k = h.1 14 k) → ∃ h', xX11_law_123 N n (nI i) h = some (nI r, h') ∧ (∀ k, (k < 16 ∨ 19 < k) → h'.1 k = h.1 k) ∧ ∀ k, k < r → h'.1 16 k = h.1 11 k ∧ h'.1 17 k = h.1 12 k ∧ h'.1 18 k = h.1 13 k ∧ h'.1 19 k = h.1 14 k := by
  intro n
  induction n with
  | zero => intro i h _ q; omega
  | succ n ih =>
    intro i h hi hq h18 hz
    rw [xX11_law_123]
    dsimp only
    rw [h18]
    by_cases e : i = r
    · subst e
      rw [if_pos (by rw [le_nn (by omega) (by omega)]; omega)]
      exact ⟨h, rfl, fun _ _ => rfl, hz⟩
    · rw [if_neg (by rw [le_nn (by omega) (by omega)]; omega), ald_n (by omega) (by decide), ast_n (by omega) (by decide), ald_n (by omega) (by decide), up_n (show 12 ≠ 16 by decide), ast_n (by omega) (by decide), ald_n (by omega) (by decide), up_n (show 13 ≠ 17 by decide), up_n (show 13 ≠ 16 by decide), ast_n (by omega) (by decide), ald_n (by omega) (by decide), up_n (show 14 ≠ 18 by decide), up_n (show 14 ≠ 17 by decide), up_n (show 14 ≠ 16 by decide), ast_n (by omega) (by decide), lt_e, nI_1]
      have kp : ∀ k, (k < 16 ∨ 19 < k) → (up (up (up (up h 16 i (h.1 11 i)) 17 i (h.1 12 i)) 18 i (h.1 13 i)) 19 i (h.1 14 i)).1 k = h.1 k := fun k hk => by rw [up_n (by omega), up_n (by omega), up_n (by omega), up_n (by omega)]
      obtain ⟨h', e1, e2, e3⟩ := ih (i + 1) (up (up (up (up h 16 i (h.1 11 i)) 17 i (h.1 12 i)) 18 i (h.1 13 i)) 19 i (h.1 14 i)) (by omega) (by omega) (by rw [kp 0 (by omega)]; exact h18) (fun k hk => by
        rw [kp 11 (by omega), kp 12 (by omega), kp 13 (by omega), kp 14 (by omega)]
        refine ⟨?_, ?_, ?_, ?_⟩
        · rw [up_n (show 16 ≠ 19 by decide), up_n (show 16 ≠ 18 by decide), up_n (show 16 ≠ 17 by decide), up_at]
          by_cases z : k = i
          · rw [if_pos ⟨rfl, z⟩, z]
          · rw [if_neg (fun y => z y.2)]; exact (hz k (by omega)).1
        · rw [up_n (show 17 ≠ 19 by decide), up_n (show 17 ≠ 18 by decide), up_at, up_n (show 17 ≠ 16 by decide)]
          by_cases z : k = i
          · rw [if_pos ⟨rfl, z⟩, z]
          · rw [if_neg (fun y => z y.2)]; exact (hz k (by omega)).2.1
        · rw [up_n (show 18 ≠ 19 by decide), up_at, up_n (show 18 ≠ 17 by decide), up_n (show 18 ≠ 16 by decide)]
          by_cases z : k = i
          · rw [if_pos ⟨rfl, z⟩, z]
          · rw [if_neg (fun y => z y.2)]; exact (hz k (by omega)).2.2.1
        · rw [up_at, up_n (show 19 ≠ 18 by decide), up_n (show 19 ≠ 17 by decide), up_n (show 19 ≠ 16 by decide)]
          by_cases z : k = i
          · rw [if_pos ⟨rfl, z⟩, z]
          · rw [if_neg (fun y => z y.2)]; exact (hz k (by omega)).2.2.2)
      refine ⟨h', e1, fun k hk => by rw [e2 k hk, kp k hk], fun k hk => ?_⟩
      have := e3 k hk
      rw [kp 11 (by omega), kp 12 (by omega), kp 13 (by omega), kp 14 (by omega)] at this
      exact this
theorem c_law (hN : 300 ≤ N) (w : WF A) (rx : RX A hx) (rm : RM A hm) (lw : LW hx hm) (a : Int32) : ∃ (v : Int32) (hx' hm' : HP) (A' : AS), xX10_law N a hx = some (v, hx') ∧ xX11_law N a hm = some (v, hm') ∧ WF A' ∧ RX A' hx' ∧ RM A' hm' ∧ LW hx' hm' := by
  have wp := w.2.2.1
  have wn0 := w.1.2.1
  unfold xX10_law xX11_law xX11_law_19
  rw [gives_e, inM_e, cl_s, rm.2.2.1.1, ← rx.2.2.1.1]
  by_cases h5 : ¬ a < 1 ∧ ¬ (240 : Int32) < a ∧ a ≤ hx.1 1 1
  · obtain ⟨n, hn1, rfl⟩ := gv_iff (A := A) (by decide) rx.2.2.1.1 h5 wp.1
    have hn : n ≤ 240 := by have := h5.2.1; rw [l240, lt_nn (by decide) (by omega)] at this; omega
    rw [if_pos h5, cl_s, if_pos (show (1 : Int32) ≠ 0 from by decide), decide_eq_true (show ¬ nI n < 1 ∧ ¬ (240 : Int32) < nI n from ⟨h5.1, h5.2.1⟩), b2_t, if_neg (show ¬ (1 : Int32) = 0 from by decide), if_pos h5.2.2]
    have tp : TP (A 8) n := ⟨by omega, fun i hi => wp.2 i (by omega)⟩
    have bx := BX.of (m := n) w rx hn1
    unfold xX2_readFrom
    rw [lt_e, lt_e]
    have fx : ∀ k, k ≠ 1 → k ≠ 20 → (up (up (gvX hx (nI n)) 20 6 0) 20 7 0).1 k = hx.1 k := fun k q1 q2 => by rw [up_n q2, up_n q2, gvX_n q1]
    have x1 : (up (up (gvX hx (nI n)) 20 6 0) 20 7 0).1 1 = (gvX hx (nI n)).1 1 := by rw [up_n (by decide), up_n (by decide)]
    have tx : TcX (A 8) n 0 (up (up (gvX hx (nI n)) 20 6 0) 20 7 0) := ⟨Nat.zero_le _, by rw [x1]; unfold gvX; simp [up_at]; rfl, by rw [x1]; exact bx.2.1, fun i hi => by rw [fx 2 (by decide) (by decide)]; exact rx.2.2.1.2 i (by omega)⟩
    have x11 : (up (up (gvX hx (nI n)) 20 6 0) 20 7 0).1 1 1 = nI 0 := by rw [x1]; unfold gvX; simp [up_at]; rfl
    have x6 : (up (up (gvX hx (nI n)) 20 6 0) 20 7 0).1 20 6 = nI 0 := by rw [up_at, if_neg (by decide), up_at, if_pos ⟨rfl, rfl⟩]; rfl
    have x7 : (up (up (gvX hx (nI n)) 20 6 0) 20 7 0).1 20 7 = nI 0 := by rw [up_at, if_pos ⟨rfl, rfl⟩]; rfl
    generalize up (up (gvX hx (nI n)) 20 6 0) 20 7 0 = hx1 at *
    unfold xX11_beginsText
    simp only [lt_e]
    rw [cl_s]
    have mk : ∀ k, k ≠ 0 → (up (up (up (up hm 0 11 0) 0 12 (nI n)) 0 16 0) 0 18 0).1 k = hm.1 k := fun k q1 => by rw [up_n q1, up_n q1, up_n q1, up_n q1]
    have mo : ∀ j, j ≠ 11 → j ≠ 12 → j ≠ 16 → j ≠ 18 → (up (up (up (up hm 0 11 0) 0 12 (nI n)) 0 16 0) 0 18 0).1 0 j = hm.1 0 j := fun j q1 q2 q3 q4 => by rw [up_at, if_neg (by omega), up_at, if_neg (by omega), up_at, if_neg (by omega), up_at, if_neg (by omega)]
    have tm : TcM (A 8) n 0 (up (up (up (up hm 0 11 0) 0 12 (nI n)) 0 16 0) 0 18 0) := ⟨by simp [up_at]; rfl, by simp [up_at], fun i hi => by rw [mk 8 (by decide)]; exact rm.2.2.1.2 i (by omega)⟩
    have m16 : (up (up (up (up hm 0 11 0) 0 12 (nI n)) 0 16 0) 0 18 0).1 0 16 = nI 0 := by simp [up_at]; rfl
    have m18 : (up (up (up (up hm 0 11 0) 0 12 (nI n)) 0 16 0) 0 18 0).1 0 18 = nI 0 := by simp [up_at]; rfl
    generalize up (up (up (up hm 0 11 0) 0 12 (nI n)) 0 16 0) 0 18 0 = m1 at *
    obtain ⟨g, x2, m2, g1', m3, g1, g2, g3, g4, g5, g6, g7⟩ := lfrom_l (N := N) hN tp 20 N N 0 0 0 (fun _ => (0, 0)) (fun _ => (0, 0)) hx1 m1 (by omega) (by omega) (by omega) (by omega) tx tm x6 m16 x7 m18 (Nat.le_refl _) ⟨fun k k1 k2 => by omega, fun k k1 k2 => by omega, fun i hi => by omega⟩
    rw [show xX2_readFrom_12 N N 0 hx1 = _ from g1, g2, cl_s, cl_s, g4]
    unfold xX11_law_71
    rw [lt_e]
    have mk2 : ∀ k, k ≠ 0 → (k < 9 ∨ 14 < k) → m2.1 k = hm.1 k := fun k q1 q2 => by rw [g6.1 k q1 q2, mk k q1]
    have mo2 : ∀ j, (j < 11 ∨ 18 < j) → m2.1 0 j = hm.1 0 j := fun j q => by rw [g6.2 j (by omega), mo j (by omega) (by omega) (by omega) (by omega)]
    have xk2 : ∀ k, k ≠ 1 → (k < 20 ∨ 26 < k) → x2.1 k = hx.1 k := fun k q1 q2 => by rw [g5.1 k q1 q2, fx k q1 (by omega)]
    have x211 : x2.1 1 1 = nI 0 := by rw [g5.2 1 (by decide) (by decide)]; exact x11
    rcases g7 with ⟨rfl, r, ℓ, DX, DM, r16, l240', y6, z16, y7, z18, ⟨s1, s2, s3⟩⟩ | ⟨rfl, g8⟩
    · rw [if_pos (show (1 : Int32) ≠ 0 from by decide), if_pos (show (1 : Int32) ≠ 0 from by decide), lt_e, show (up m2 0 10 0).1 0 18 = nI r from by rw [up_at, if_neg (by decide)]; exact z18]
      unfold xX2_become
      simp only [lt_e]
      rw [cl_s]
      have bk : ∀ k, (k < 13 ∨ 19 < k) → (up (up (cpyA (cpyA (cpyA (cpyA (cpyA (cpyA x2 21 14 240) 22 15 240) 23 16 16) 24 17 16) 25 18 16) 26 19 16) 13 6 ((cpyA (cpyA (cpyA (cpyA (cpyA (cpyA x2 21 14 240) 22 15 240) 23 16 16) 24 17 16) 25 18 16) 26 19 16).1 20 6)) 13 7 ((up (cpyA (cpyA (cpyA (cpyA (cpyA (cpyA x2 21 14 240) 22 15 240) 23 16 16) 24 17 16) 25 18 16) 26 19 16) 13 6 ((cpyA (cpyA (cpyA (cpyA (cpyA (cpyA x2 21 14 240) 22 15 240) 23 16 16) 24 17 16) 25 18 16) 26 19 16).1 20 6)).1 20 7)).1 k = x2.1 k := fun k hk => by rw [up_n (by omega), up_n (by omega), cpyA_n (by omega), cpyA_n (by omega), cpyA_n (by omega), cpyA_n (by omega), cpyA_n (by omega), cpyA_n (by omega)]
      have bz : (∀ k, k < 240 → (up (up (cpyA (cpyA (cpyA (cpyA (cpyA (cpyA x2 21 14 240) 22 15 240) 23 16 16) 24 17 16) 25 18 16) 26 19 16) 13 6 ((cpyA (cpyA (cpyA (cpyA (cpyA (cpyA x2 21 14 240) 22 15 240) 23 16 16) 24 17 16) 25 18 16) 26 19 16).1 20 6)) 13 7 ((up (cpyA (cpyA (cpyA (cpyA (cpyA (cpyA x2 21 14 240) 22 15 240) 23 16 16) 24 17 16) 25 18 16) 26 19 16) 13 6 ((cpyA (cpyA (cpyA (cpyA (cpyA (cpyA x2 21 14 240) 22 15 240) 23 16 16) 24 17 16) 25 18 16) 26 19 16).1 20 6)).1 20 7)).1 14 k = x2.1 21 k ∧ (up (up (cpyA (cpyA (cpyA (cpyA (cpyA (cpyA x2 21 14 240) 22 15 240) 23 16 16) 24 17 16) 25 18 16) 26 19 16) 13 6 ((cpyA (cpyA (cpyA (cpyA (cpyA (cpyA x2 21 14 240) 22 15 240) 23 16 16) 24 17 16) 25 18 16) 26 19 16).1 20 6)) 13 7 ((up (cpyA (cpyA (cpyA (cpyA (cpyA (cpyA x2 21 14 240) 22 15 240) 23 16 16) 24 17 16) 25 18 16) 26 19 16) 13 6 ((cpyA (cpyA (cpyA (cpyA (cpyA (cpyA x2 21 14 240) 22 15 240) 23 16 16) 24 17 16) 25 18 16) 26 19 16).1 20 6)).1 20 7)).1 15 k = x2.1 22 k) ∧ ∀ i, i < 16 → (up (up (cpyA (cpyA (cpyA (cpyA (cpyA (cpyA x2 21 14 240) 22 15 240) 23 16 16) 24 17 16) 25 18 16) 26 19 16) 13 6 ((cpyA (cpyA (cpyA (cpyA (cpyA (cpyA x2 21 14 240) 22 15 240) 23 16 16) 24 17 16) 25 18 16) 26 19 16).1 20 6)) 13 7 ((up (cpyA (cpyA (cpyA (cpyA (cpyA (cpyA x2 21 14 240) 22 15 240) 23 16 16) 24 17 16) 25 18 16) 26 19 16) 13 6 ((cpyA (cpyA (cpyA (cpyA (cpyA (cpyA x2 21 14 240) 22 15 240) 23 16 16) 24 17 16) 25 18 16) 26 19 16).1 20 6)).1 20 7)).1 16 i = x2.1 23 i ∧ (up (up (cpyA (cpyA (cpyA (cpyA (cpyA (cpyA x2 21 14 240) 22 15 240) 23 16 16) 24 17 16) 25 18 16) 26 19 16) 13 6 ((cpyA (cpyA (cpyA (cpyA (cpyA (cpyA x2 21 14 240) 22 15 240) 23 16 16) 24 17 16) 25 18 16) 26 19 16).1 20 6)) 13 7 ((up (cpyA (cpyA (cpyA (cpyA (cpyA (cpyA x2 21 14 240) 22 15 240) 23 16 16) 24 17 16) 25 18 16) 26 19 16) 13 6 ((cpyA (cpyA (cpyA (cpyA (cpyA (cpyA x2 21 14 240) 22 15 240) 23 16 16) 24 17 16) 25 18 16) 26 19 16).1 20 6)).1 20 7)).1 17 i = x2.1 24 i ∧ (up (up (cpyA (cpyA (cpyA (cpyA (cpyA (cpyA x2 21 14 240) 22 15 240) 23 16 16) 24 17 16) 25 18 16) 26 19 16) 13 6 ((cpyA (cpyA (cpyA (cpyA (cpyA (cpyA x2 21 14 240) 22 15 240) 23 16 16) 24 17 16) 25 18 16) 26 19 16).1 20 6)) 13 7 ((up (cpyA (cpyA (cpyA (cpyA (cpyA (cpyA x2 21 14 240) 22 15 240) 23 16 16) 24 17 16) 25 18 16) 26 19 16) 13 6 ((cpyA (cpyA (cpyA (cpyA (cpyA (cpyA x2 21 14 240) 22 15 240) 23 16 16) 24 17 16) 25 18 16) 26 19 16).1 20 6)).1 20 7)).1 18 i = x2.1 25 i ∧ (up (up (cpyA (cpyA (cpyA (cpyA (cpyA (cpyA x2 21 14 240) 22 15 240) 23 16 16) 24 17 16) 25 18 16) 26 19 16) 13 6 ((cpyA (cpyA (cpyA (cpyA (cpyA (cpyA x2 21 14 240) 22 15 240) 23 16 16) 24 17 16) 25 18 16) 26 19 16).1 20 6)) 13 7 ((up (cpyA (cpyA (cpyA (cpyA (cpyA (cpyA x2 21 14 240) 22 15 240) 23 16 16) 24 17 16) 25 18 16) 26 19 16) 13 6 ((cpyA (cpyA (cpyA (cpyA (cpyA (cpyA x2 21 14 240) 22 15 240) 23 16 16) 24 17 16) 25 18 16) 26 19 16).1 20 6)).1 20 7)).1 19 i = x2.1 26 i := by
        refine ⟨fun k hk => ⟨?_, ?_⟩, fun i hi => ⟨?_, ?_, ?_, ?_⟩⟩
        · rw [up_n (by decide), up_n (by decide), cpyA_n (by decide), cpyA_n (by decide), cpyA_n (by decide), cpyA_n (by decide), cpyA_n (by decide), cpyA_in hk]
        · rw [up_n (by decide), up_n (by decide), cpyA_n (by decide), cpyA_n (by decide), cpyA_n (by decide), cpyA_n (by decide), cpyA_in hk, cpyA_n (by decide)]
        · rw [up_n (by decide), up_n (by decide), cpyA_n (by decide), cpyA_n (by decide), cpyA_n (by decide), cpyA_in hi, cpyA_n (by decide), cpyA_n (by decide)]
        · rw [up_n (by decide), up_n (by decide), cpyA_n (by decide), cpyA_n (by decide), cpyA_in hi, cpyA_n (by decide), cpyA_n (by decide), cpyA_n (by decide)]
        · rw [up_n (by decide), up_n (by decide), cpyA_n (by decide), cpyA_in hi, cpyA_n (by decide), cpyA_n (by decide), cpyA_n (by decide), cpyA_n (by decide)]
        · rw [up_n (by decide), up_n (by decide), cpyA_in hi, cpyA_n (by decide), cpyA_n (by decide), cpyA_n (by decide), cpyA_n (by decide), cpyA_n (by decide)]
      have b7 : (up (up (cpyA (cpyA (cpyA (cpyA (cpyA (cpyA x2 21 14 240) 22 15 240) 23 16 16) 24 17 16) 25 18 16) 26 19 16) 13 6 ((cpyA (cpyA (cpyA (cpyA (cpyA (cpyA x2 21 14 240) 22 15 240) 23 16 16) 24 17 16) 25 18 16) 26 19 16).1 20 6)) 13 7 ((up (cpyA (cpyA (cpyA (cpyA (cpyA (cpyA x2 21 14 240) 22 15 240) 23 16 16) 24 17 16) 25 18 16) 26 19 16) 13 6 ((cpyA (cpyA (cpyA (cpyA (cpyA (cpyA x2 21 14 240) 22 15 240) 23 16 16) 24 17 16) 25 18 16) 26 19 16).1 20 6)).1 20 7)).1 13 7 = nI r := by
        rw [up_at, if_pos ⟨rfl, rfl⟩, up_n (by decide), cpyA_n (by decide), cpyA_n (by decide), cpyA_n (by decide), cpyA_n (by decide), cpyA_n (by decide), cpyA_n (by decide)]; exact y7
      generalize up (up (cpyA (cpyA (cpyA (cpyA (cpyA (cpyA x2 21 14 240) 22 15 240) 23 16 16) 24 17 16) 25 18 16) 26 19 16) 13 6 ((cpyA (cpyA (cpyA (cpyA (cpyA (cpyA x2 21 14 240) 22 15 240) 23 16 16) 24 17 16) 25 18 16) 26 19 16).1 20 6)) 13 7 ((up (cpyA (cpyA (cpyA (cpyA (cpyA (cpyA x2 21 14 240) 22 15 240) 23 16 16) 24 17 16) 25 18 16) 26 19 16) 13 6 ((cpyA (cpyA (cpyA (cpyA (cpyA (cpyA x2 21 14 240) 22 15 240) 23 16 16) 24 17 16) 25 18 16) 26 19 16).1 20 6)).1 20 7) = x3 at *
      rw [b7]
      obtain ⟨m4, d1, d2, d3⟩ := law95 (N := N) l240' N 0 (up (up m2 0 10 0) 0 19 (nI r)) (by omega) (by omega) (by rw [up_at, if_neg (by decide), up_at, if_neg (by decide)]; exact z16) (fun k hk => by omega)
      rw [show xX11_law_95 N N 0 _ = _ from d1]
      obtain ⟨m5, c1, c2, c3⟩ := law123 (N := N) r16 N 0 m4 (by omega) (by omega) (by rw [d2 0 (by decide), up_at, if_neg (by decide), up_at, if_neg (by decide)]; exact z18) (fun k hk => by omega)
      rw [show xX11_law_123 N N 0 _ = _ from c1]
      have q0 : ∀ k, k ≠ 0 → k < 15 → m5.1 k = m2.1 k := fun k q1 q2 => by rw [c2 k (by omega), d2 k (by omega), up_n q1, up_n q1]
      have q00 : ∀ j, j ≠ 10 → j ≠ 19 → m5.1 0 j = m2.1 0 j := fun j q1 q2 => by rw [c2 0 (by omega), d2 0 (by omega), up_at, if_neg (by omega), up_at, if_neg (by omega)]
      have m5o : ∀ j, j ≠ 10 → j ≠ 19 → (j < 11 ∨ 18 < j) → m5.1 0 j = hm.1 0 j := fun j q1 q2 q3 => by rw [q00 j q1 q2, mo2 j q3]
      have m5k : ∀ k, k ≠ 0 → k < 9 → m5.1 k = hm.1 k := fun k q1 q2 => by rw [q0 k q1 (by omega), mk2 k q1 (by omega)]
      have x3k : ∀ k, k ≠ 1 → (k < 13 ∨ 26 < k) → x3.1 k = hx.1 k := fun k q1 q2 => by rw [bk k (by omega), xk2 k q1 (by omega)]
      refine ⟨_, _, _, tpA A 0 (A 8), rfl, rfl, w.gv, rx.tp (fun k q1 q2 q3 => x3k k q1 (by omega)) (by rw [bk 1 (by omega)]; exact x211) (fun i hi => by omega), ⟨⟨?_, ?_, fun c hc => ?_, fun p hp => ?_⟩, ?_, ⟨?_, fun i hi => ?_⟩, ⟨?_, fun h7 => ?_⟩⟩, ⟨r, ℓ, DX, DM, r16, b7, ?_, l240', fun k k1 k2 => ?_, fun k k1 k2 => ?_, fun i hi => ?_⟩⟩
      · rw [m5o 7 (by decide) (by decide) (by decide)]; exact rm.1.1
      · rw [m5o 8 (by decide) (by decide) (by decide)]; exact rm.1.2.1
      · rw [m5k 4 (by decide) (by decide)]; exact rm.1.2.2.1 c hc
      · rw [m5k 5 (by decide) (by decide), m5k 6 (by decide) (by decide), m5k 7 (by decide) (by decide)]; exact rm.1.2.2.2 p hp
      · rw [m5k 1 (by decide) (by decide)]; exact rm.2.1
      · rw [c2 0 (by omega), d2 0 (by omega), up_at, if_neg (by decide), up_at, if_pos ⟨rfl, rfl⟩]; rfl
      · exact absurd hi (Nat.not_lt_zero _)
      · rw [m5o 58 (by decide) (by decide) (by decide)]; exact rm.2.2.2.1
      · rw [m5o 59 (by decide) (by decide) (by decide), m5o 60 (by decide) (by decide) (by decide), m5k 3 (by decide) (by decide)]; exact rm.2.2.2.2 h7
      · rw [c2 0 (by omega), d2 0 (by omega), up_at, if_pos ⟨rfl, rfl⟩]
      · obtain ⟨v1, v2, v3⟩ := s1 k k1 k2
        rw [(bz.1 k (by omega)).1, (bz.1 k (by omega)).2]
        exact ⟨v1, v2, v3⟩
      · rw [c2 15 (by omega), d3 k k2, up_n (by decide), up_n (by decide)]
        exact s2 k k1 k2
      · obtain ⟨kk, a', b', c', E0, E1, t1, ⟨t2, t3, t4, t5, t6, t7⟩, t8, t9⟩ := s3 i hi
        obtain ⟨u1, u2, u3, u4⟩ := bz.2 i (by omega)
        obtain ⟨w1, w2, w3, w4⟩ := c3 i hi
        have bc := t5.1
        refine ⟨kk, a', b', c', E0, E1, t1, ⟨t2, t3, bc, by omega, fun z F => ⟨(t4 z).1.run (by omega) F, (t4 z).2.run (by omega) F⟩, fun F => ⟨t5.run (by omega) F, t6.run (by omega) F, t7 F⟩⟩, by rw [u1, u2, u3, u4]; exact t8, ?_⟩
        rw [w1, w2, w3, w4, d2 11 (by decide), d2 12 (by decide), d2 13 (by decide), d2 14 (by decide), up_n (by decide), up_n (by decide), up_n (by decide), up_n (by decide), up_n (by decide), up_n (by decide), up_n (by decide), up_n (by decide)]
        exact t9
    · rw [if_neg (show ¬ (0 : Int32) ≠ 0 from by decide), if_neg (show ¬ (0 : Int32) ≠ 0 from by decide), show (up m2 0 10 0).1 0 13 = m2.1 0 13 from by rw [up_at, if_neg (by decide)], ← g8]
      have km : keM hm m2 := ⟨fun j hj => mo2 j (by unfold scM at hj; omega), fun k hk => mk2 k (by omega) (by omega)⟩
      refine ⟨_, _, _, tpA A 0 (A 8), rfl, rfl, w.gv, rx.tp (fun k q1 q2 q3 => xk2 k q1 (by omega)) x211 (fun i hi => by omega), (km.RM rm).gv, lw.tr (fun k q1 q2 => xk2 k (by omega) (by omega)) (km.le.tr (leM.gv _))⟩
  · refine ⟨-1, hx, hm, A, ?_, ?_, w, rx, rm, lw⟩
    · rw [if_neg h5, cl_s, if_neg (show ¬ (0 : Int32) ≠ 0 from by decide)]
    · by_cases q : ¬ a < 1 ∧ ¬ (240 : Int32) < a
      · rw [decide_eq_true q, b2_t, if_neg (show ¬ (1 : Int32) = 0 from by decide), if_neg (fun z => h5 ⟨q.1, q.2, z⟩)]
      · rw [decide_eq_false q, b2_f, if_pos rfl]
end LAWC
