section ORP
variable {T : Nat → Nat} {n p : Nat} {hx hm : HP} {N : Nat} {S : AS} {ℓ : Nat}
def fO (h h' : HP) : Prop := (∀ k, k ≠ 1 → (k < 27 ∨ 30 < k) → h'.1 k = h.1 k) ∧ h'.1 1 1 = h.1 1 1 ∧ h'.1 1 3 = h.1 1 3
def gO (h h' : HP) : Prop := (∀ k, k ≠ 0 → k ≠ 1 → h'.1 k = h.1 k) ∧ ∀ j, j ≠ 11 → j ≠ 13 → j ≠ 14 → h'.1 0 j = h.1 0 j
theorem fO.tr {h h1 h2 : HP} (a : fO h h1) (b : fO h1 h2) : fO h h2 := ⟨fun k q1 q2 => (b.1 k q1 q2).trans (a.1 k q1 q2), b.2.1.trans a.2.1, b.2.2.trans a.2.2⟩
theorem gO.tr {h h1 h2 : HP} (a : gO h h1) (b : gO h1 h2) : gO h h2 := ⟨fun k q1 q2 => (b.1 k q1 q2).trans (a.1 k q1 q2), fun j q1 q2 q3 => (b.2 j q1 q2 q3).trans (a.2 j q1 q2 q3)⟩
theorem fP.O {h h' : HP} (q : fP h h') : fO h h' := ⟨fun k q1 _ => q.1 k q1, q.2 1 (by decide) (by decide), q.2 3 (by decide) (by decide)⟩
theorem gP.O {h h' : HP} (q : gP h h') : gO h h' := ⟨fun k q1 _ => q.1 k q1, q.2⟩
theorem gO.up1 {h : HP} {j : Nat} {v : Int32} : gO h (up h 1 j v) := ⟨fun k _ q => up_n q, fun j _ _ _ => by rw [up_n (by decide)]⟩
def nt (ℓ k w v : Nat) (h h' : HP) : Prop := h'.1 27 3 = nI (ℓ + 1) ∧ (∀ i, i < ℓ → h'.1 28 i = h.1 28 i ∧ h'.1 29 i = h.1 29 i ∧ h'.1 30 i = h.1 30 i) ∧ h'.1 28 ℓ = nI k ∧ h'.1 29 ℓ = nI w ∧ h'.1 30 ℓ = nI v
theorem nt.fP {k w v : Nat} {h h1 h' : HP} (f : fP h h1) (q : nt ℓ k w v h1 h') : nt ℓ k w v h h' := by
  obtain ⟨a, b, c⟩ := q
  exact ⟨a, fun i hi => by have := b i hi; rw [f.1 28 (by decide), f.1 29 (by decide), f.1 30 (by decide)] at this; exact this, c⟩
theorem note_e {h : HP} {k w v : Nat} (hl : ℓ < 20) (h27 : h.1 27 3 = nI ℓ) : ∃ h', xX4_note (nI k) (nI w) (nI v) h = some (1, h') ∧ nt ℓ k w v h h' ∧ ∀ a, (a < 27 ∨ 30 < a) → h'.1 a = h.1 a := by
  unfold xX4_note
  rw [h27, if_pos (by rw [l20, lt_nn (by omega) (by decide)]; exact hl), ast_n hl (by decide), show (up h 28 ℓ (nI k)).1 27 3 = nI ℓ from by rw [up_n (by decide)]; exact h27, ast_n hl (by decide), show (up (up h 28 ℓ (nI k)) 29 ℓ (nI w)).1 27 3 = nI ℓ from by rw [up_n (by decide), up_n (by decide)]; exact h27, ast_n hl (by decide), show (up (up (up h 28 ℓ (nI k)) 29 ℓ (nI w)) 30 ℓ (nI v)).1 27 3 = nI ℓ from by rw [up_n (by decide), up_n (by decide), up_n (by decide)]; exact h27, nI_1, lt_e, zok_1]
  refine ⟨_, rfl, ⟨by rw [up_at, if_pos ⟨rfl, rfl⟩], fun i hi => ?_, ?_, ?_, ?_⟩, fun a ha => by rw [up_n (by omega), up_n (by omega), up_n (by omega), up_n (by omega)]⟩
  · rw [up_n (by decide), up_n (by decide), up_n (by decide), up_at, if_neg (by omega), up_n (by decide), up_n (by decide), up_at, if_neg (by omega), up_n (by decide), up_n (by decide), up_at, if_neg (by omega), up_n (by decide), up_n (by decide)]
    exact ⟨rfl, rfl, rfl⟩
  · rw [up_n (by decide), up_n (by decide), up_n (by decide), up_at, if_pos ⟨rfl, rfl⟩]
  · rw [up_n (by decide), up_n (by decide), up_at, if_pos ⟨rfl, rfl⟩]
  · rw [up_n (by decide), up_at, if_pos ⟨rfl, rfl⟩]
theorem nt_f {h h' : HP} (a : ∀ a, (a < 27 ∨ 30 < a) → h'.1 a = h.1 a) : fO h h' := ⟨fun k _ q => a k q, by rw [a 1 (by decide)], by rw [a 1 (by decide)]⟩
theorem nt_x {h h' : HP} (t : TcX T n p h) (a : ∀ a, (a < 27 ∨ 30 < a) → h'.1 a = h.1 a) : TcX T n p h' := ⟨t.1, by rw [a 1 (by decide)]; exact t.2.1, by rw [a 1 (by decide)]; exact t.2.2.1, fun i hi => by rw [a 2 (by decide)]; exact t.2.2.2 i hi⟩
theorem bt_e {a b p q : Nat} (h : a.testBit p = b.testBit q) : a / 2 ^ p % 2 = b / 2 ^ q % 2 := by
  cases hb : b.testBit q
  · rw [hb] at h; rw [(tb_n a p).mp h, (tb_n b q).mp hb]
  · rw [hb] at h; rw [(tb_iff a p).mp h, (tb_iff b q).mp hb]
theorem SMa.ap {h : HP} {k w v j : Nat} {x : Int32} (wf : WF S) (ok : okO S k w v) (s : SMa (h.1 1) S) (hj : (k = 126 ∧ j = 72 ∧ x = nI v) ∨ (k = 64 ∧ j = 16 + w ∧ x = nI v) ∨ ((k = 43 ∨ k = 45) ∧ j = w ∧ x = nI (soO S k w v w)) ∨ (k = 33 ∧ j = 48 + w ∧ x = 0) ∨ (k = 63 ∧ j = 48 + w ∧ x = 1)) : SMa ((up h 1 j x).1 1) (apO S k w v) := by
  obtain ⟨s1, s2, s3, s4, s5⟩ := s
  have np := wf.1.2.1
  have w16 : (k = 43 ∨ k = 45 ∨ k = 64) → w < 16 := fun z => by unfold okO at ok; omega
  have w24 : (k = 33 ∨ k = 63) → w < S 0 1 := fun z => by unfold okO at ok; omega
  have goal : (∀ c, c < 16 → (up h 1 j x).1 1 c = nI (soO S k w v c) ∧ (up h 1 j x).1 1 (16 + c) = nI (tuO S k w v c) ∧ (up h 1 j x).1 1 (32 + c) = nI (S 7 c)) ∧ (∀ q, q < S 0 1 → (up h 1 j x).1 1 (48 + q) = nI (opO S k w / 2 ^ q % 2)) ∧ (up h 1 j x).1 1 72 = nI (if k = 126 then v else S 0 3) ∧ (up h 1 j x).1 1 73 = nI (S 0 4) ∧ (up h 1 j x).1 1 74 = nI (S 0 5) := by
    refine ⟨fun c hc => ⟨?_, ?_, ?_⟩, fun q hq => ?_, ?_, ?_, ?_⟩
    · rw [up_at]
      by_cases z : c = j
      · rw [if_pos ⟨rfl, z⟩]
        have k4 : k = 43 ∨ k = 45 := by omega
        rcases hj with hj | hj | hj | hj | hj
        · omega
        · omega
        · rw [hj.2.2, z, hj.2.1]
        · omega
        · omega
      · rw [if_neg (fun y => z y.2), (s1 c hc).1]
        have : ¬ (c = w ∧ k = 43) ∧ ¬ (c = w ∧ k = 45) := by omega
        simp only [soO, this.1, this.2, if_false]
    · rw [up_at]
      by_cases z : 16 + c = j
      · rw [if_pos ⟨rfl, z⟩]
        rcases hj with hj | hj | hj | hj | hj
        · omega
        · rw [hj.2.2, tuO, if_pos (by omega)]
        · have := w16 (by omega); omega
        · omega
        · omega
      · rw [if_neg (fun y => z y.2), (s1 c hc).2.1]
        have : ¬ (c = w ∧ k = 64) := by omega
        simp only [tuO, this, if_false]
    · rw [up_at, if_neg (by have := w16; omega)]; exact (s1 c hc).2.2
    · rw [up_at]
      by_cases z : 48 + q = j
      · rw [if_pos ⟨rfl, z⟩]
        rcases hj with hj | hj | hj | hj | hj
        · omega
        · have := w16 (by omega); omega
        · have := w16 (by omega); omega
        · have qw : q = w := by omega
          rw [hj.2.2, opO, if_pos hj.1, (tb_n _ _).mp (by rw [wop_tb (by omega) (by omega)]; simp [qw])]; rfl
        · have qw : q = w := by omega
          rw [hj.2.2, opO, if_neg (by omega), if_pos hj.1, (tb_iff _ _).mp (by rw [or2_tb]; simp [qw])]; rfl
      · rw [if_neg (fun y => z y.2), s2 q hq]
        congr 1
        apply bt_e
        unfold opO
        split
        · have := w24 (by omega)
          have qw : q ≠ w := by omega
          rw [wop_tb (by omega) (by omega)]; simp [qw]
        · split
          · have qw : ¬ w = q := by omega
            rw [or2_tb]; simp [qw]
          · rfl
    · rw [up_at]
      by_cases z : k = 126
      · rw [if_pos (by omega), if_pos z]
        rcases hj with hj | hj | hj | hj | hj
        · exact hj.2.2
        · omega
        · omega
        · omega
        · omega
      · rw [if_neg (by have := w16; have := w24; omega), if_neg z]; exact s3
    · rw [up_at, if_neg (by have := w16; have := w24; omega)]; exact s4
    · rw [up_at, if_neg (by have := w16; have := w24; omega)]; exact s5
  exact goal
/-- a number and its note -/
theorem amt_e (hN : 100 ≤ N) (tp : TP T n) (tx : TcX T n p hx) (tm : TcM T n p hm) (hl : ℓ < 20) (h27 : hx.1 27 3 = nI ℓ) (k w : Nat) {D : Nat} (hD1 : 1 ≤ D) (hD : D ≤ 6) : (∃ v p' hx' hm', xX4_readAmount N (nI k) (nI w) (nI D) hx = some (1, hx') ∧ xX11_readsAmount N (nI D) hm = some (1, hm') ∧ v < 10 ^ D ∧ TcX T n p' hx' ∧ TcM T n p' hm' ∧ hm'.1 0 14 = nI v ∧ nt ℓ k w v hx hx' ∧ fO hx hx' ∧ gP hm hm') ∨ (∃ hx' hm', xX4_readAmount N (nI k) (nI w) (nI D) hx = some (0, hx') ∧ xX11_readsAmount N (nI D) hm = some (0, hm') ∧ hx'.1 1 4 = hm'.1 0 13 ∧ fO hx hx' ∧ gP hm hm') := by
  unfold xX4_readAmount xX4_readAmount_29 xX4_readAmount_30
  have p6 : 10 ^ D ≤ 10 ^ 6 := Nat.pow_le_pow_right (by decide) hD
  rcases num_e (N := N) hN tp hD1 hD tx tm with ⟨v, p', x', m', e1, e2, e3, e4, e5, e6, e7, e8, e9⟩ | ⟨x', m', e1, e2, e3, e4, e5⟩
  · obtain ⟨h', n1, n2, n3⟩ := note_e (h := x') (k := k) (w := w) (v := v) hl (by rw [e8.1 27 (by decide)]; exact h27)
    refine Or.inl ⟨v, p', h', m', ?_, e2, e3, nt_x e5 n3, e6, e7, n2.fP e8, e8.O.tr (nt_f n3), e9⟩
    rw [e1, cl_s, if_neg (nn_m1 (by omega)), n1, cl_s, if_neg (by decide), zok_1]
  · refine Or.inr ⟨x', m', ?_, e2, e3, e4.O, e5⟩
    rw [e1, cl_s, if_pos rfl, zok_0]
def OR (T : Nat → Nat) (n : Nat) (hx hm : HP) (S : AS) (ℓ : Nat) (dx dm : Option (Int32 × HP)) : Prop := ∃ r hx' hm', dx = some (r, hx') ∧ dm = some (r, hm') ∧ fO hx hx' ∧ gO hm hm' ∧ ((r = 1 ∧ ∃ p' k w v, TcX T n p' hx' ∧ TcM T n p' hm' ∧ okO S k w v ∧ nt ℓ k w v hx hx' ∧ SMa (hm'.1 1) (apO S k w v)) ∨ (r = 0 ∧ hx'.1 1 4 = hm'.1 0 13))
theorem OR.tr {dx dm : Option (Int32 × HP)} {hx1 hm1 : HP} (f : fP hx hx1) (g : gP hm hm1) (q : OR T n hx1 hm1 S ℓ dx dm) : OR T n hx hm S ℓ dx dm := by
  obtain ⟨r, x', m', e1, e2, e3, e4, e5⟩ := q
  refine ⟨r, x', m', e1, e2, f.O.tr e3, g.O.tr e4, ?_⟩
  rcases e5 with ⟨r1, p', k, w, v, a, b, c, d, e⟩ | e5
  · exact Or.inl ⟨r1, p', k, w, v, a, b, c, d.fP f, e⟩
  · exact Or.inr e5
theorem OR.bad {dx dm : Option (Int32 × HP)} {hx1 hm1 : HP} {v : Int32} (e1 : dx = some (0, up hx1 1 4 v)) (e2 : dm = some (0, up hm1 0 13 v)) (f : fO hx hx1) (g : gO hm hm1) : OR T n hx hm S ℓ dx dm :=
  ⟨0, _, _, e1, e2, f.tr (fP.up (Or.inr rfl)).O, g.tr (gP.up (Or.inr (Or.inl rfl))).O, Or.inr ⟨rfl, by rw [up_at, if_pos ⟨rfl, rfl⟩, up_at, if_pos ⟨rfl, rfl⟩]⟩⟩
theorem ord_sea (hN : 100 ≤ N) (tp : TP T n) (tx : TcX T n p hx) (tm : TcM T n p hm) (hl : ℓ < 20) (h27 : hx.1 27 3 = nI ℓ) (wf : WF S) (s : SMa (hm.1 1) S) : OR T n hx hm S ℓ (cl (xX4_readAmount N 126 0 6 hx) fun t25 h26 => zok t25 (some (t25, h26))) (cl (xX11_readsAmount N 6 hm) fun t5 h6 => if t5 ≠ 0 then (ast h6 1 75 72 (h6.1 0 14) fun h7 => zok 1 (some (1, h7))) else (zok 0 (some (0, h6)))) := by
  rcases amt_e (N := N) hN tp tx tm hl h27 126 0 (D := 6) (by decide) (by decide) with ⟨v, p', x', m', e1, e2, e3, e4, e5, e6, e7, e8, e9⟩ | ⟨x', m', e1, e2, e3, e4, e5⟩
  · rw [show xX4_readAmount N 126 0 6 hx = _ from e1, show xX11_readsAmount N 6 hm = _ from e2, cl_s, cl_s, zok_1, if_pos (show (1 : Int32) ≠ 0 from by decide), e6, l72, ast_n (by decide) (by decide), zok_1]
    have hv : v < 1000000 := e3
    have ok : okO S 126 0 v := Or.inr (Or.inr (Or.inr ⟨rfl, rfl, by omega⟩))
    refine ⟨1, x', _, rfl, rfl, e8, e9.O.tr gO.up1, Or.inl ⟨rfl, p', 126, 0, v, e4, ?_, ok, e7, ?_⟩⟩
    · exact ⟨by rw [up_n (by decide)]; exact e5.1, by rw [up_n (by decide)]; exact e5.2.1, fun i hi => by rw [up_n (by decide)]; exact e5.2.2 i hi⟩
    · exact SMa.ap (h := m') wf ok (by rw [e9.1 1 (by decide)]; exact s) (Or.inl ⟨rfl, rfl, rfl⟩)
  · rw [show xX4_readAmount N 126 0 6 hx = _ from e1, show xX11_readsAmount N 6 hm = _ from e2, cl_s, cl_s, zok_0, if_neg (by simp), zok_0]
    exact ⟨0, x', m', rfl, rfl, e4, e5.O, Or.inr ⟨rfl, e3⟩⟩
theorem TcM.u1 {h : HP} {j : Nat} {v : Int32} (t : TcM T n p h) : TcM T n p (up h 1 j v) := ⟨by rw [up_n (by decide)]; exact t.1, by rw [up_n (by decide)]; exact t.2.1, fun i hi => by rw [up_n (by decide)]; exact t.2.2 i hi⟩
theorem ord_pm (hN : 100 ≤ N) (tp : TP T n) (tx : TcX T n p hx) (tm : TcM T n p hm) (hl : ℓ < 20) (h27 : hx.1 27 3 = nI ℓ) (wf : WF S) (s : SMa (hm.1 1) S) {c k : Nat} (hc : c < 16) (ht : (S 0 0).testBit c = true) (hk : k = 43 ∨ k = 45) (hp : p < n) : ∃ r hx' hm', xX4_readAmount N (nI k) (nI c) 4 (up hx 1 2 (hx.1 1 2 + 1)) = some (r, hx') ∧ xX11_readsCornerLine_132 N (nI c) (nI k) hm = some (r, hm') ∧ fO hx hx' ∧ gO hm hm' ∧ ((r = 1 ∧ ∃ p' k w v, TcX T n p' hx' ∧ TcM T n p' hm' ∧ okO S k w v ∧ nt ℓ k w v hx hx' ∧ SMa (hm'.1 1) (apO S k w v)) ∨ (r = 0 ∧ hx'.1 1 4 = hm'.1 0 13)) := by
  have a1 := (wf.sk c hc).1
  unfold xX11_readsCornerLine_132 xX11_readsCornerLine_189
  rw [lt_e]
  have fx : fP hx (up hx 1 2 (hx.1 1 2 + 1)) := fP.up (Or.inl rfl)
  have gm : gP hm (up hm 0 11 (hm.1 0 11 + 1)) := gP.up (Or.inl rfl)
  rcases amt_e (N := N) hN tp (tx.mv hp) tm.mv hl (by rw [fx.1 27 (by decide)]; exact h27) k c (D := 4) (by decide) (by decide) with ⟨v, p', x', m', e1, e2, e3, e4, e5, e6, e7, e8, e9⟩ | ⟨x', m', e1, e2, e3, e4, e5⟩
  · have hv : v < 10000 := e3
    have ok : okO S k c v := Or.inr (Or.inl ⟨hk, hc, ht, by omega⟩)
    have s' : SMa (m'.1 1) S := by rw [e9.1 1 (by decide), gm.1 1 (by decide)]; exact s
    refine ⟨1, x', up m' 1 c (nI (soO S k c v c)), e1, ?_, fx.O.tr e8, (gm.O.tr e9.O).tr gO.up1, Or.inl ⟨rfl, p', k, c, v, e4, e5.u1, ok, e7.fP fx, SMa.ap (h := m') wf ok s' (Or.inr (Or.inr (Or.inl ⟨hk, rfl, rfl⟩)))⟩⟩
    rw [show xX11_readsAmount N 4 _ = _ from e2, cl_s, if_pos (show (1 : Int32) ≠ 0 from by decide), l0, add_nn, Nat.zero_add, ald_n (by omega) (by decide), (s'.1 c hc).1, e6]
    rcases hk with rfl | rfl
    · rw [if_neg (by simp [nI]), add_nn, l9999, minM_e (by omega) (by omega), cl_s, maxM_e (by omega) (by omega), cl_s, ast_n (by omega) (by decide), zok_1, Nat.max_eq_right (Nat.zero_le _)]
      simp [soO]
    · have x1 : (nI (S 5 c) + -nI v).toInt = (S 5 c : Int) - v := by
        rw [ofI_n, ofI_n, ofI_neg, ofI_add, ofI_t (by omega) (by omega)]; omega
      have y1 : xX11_min 9999 (nI (S 5 c) + -nI v) m' = some (nI (S 5 c) + -nI v, m') := by
        unfold xX11_min xX11_min_10
        rw [if_pos (by rw [i_le, x1]; show _ ≤ (9999 : Int); omega)]
      have y2 : xX11_max (nI 0) (nI (S 5 c) + -nI v) m' = some (nI (S 5 c - v), m') := by
        unfold xX11_max xX11_max_10
        by_cases z : v ≤ S 5 c
        · rw [if_pos (by rw [i_le, x1]; show (0 : Int) ≤ _; omega)]
          congr 2
          apply (i_eq _ _).mpr
          rw [x1, i_n (by omega)]; omega
        · rw [if_neg (by rw [i_le, x1]; show ¬ (0 : Int) ≤ _; omega), show S 5 c - v = 0 by omega]
      rw [if_pos (show nI 45 ≠ 43 by decide), y1, cl_s, y2, cl_s, ast_n (by omega) (by decide), zok_1]
      simp [soO]
  · refine ⟨0, x', m', e1, ?_, fx.O.tr e4, gm.O.tr e5.O, Or.inr ⟨rfl, e3⟩⟩
    rw [show xX11_readsAmount N 4 _ = _ from e2, cl_s, if_neg (by simp), zok_0]
theorem tn_dec : ∀ t, t < 256 → (48 ≤ t ∧ t ≤ 56) ∨ ((nI t - 48 < 0 ∨ ¬ nI t - 48 ≤ 8) ∧ ¬ (¬ nI t < 48 ∧ ¬ (56 : Int32) < nI t)) := by decide +kernel
theorem tn_c (tp : TP T n) : (∃ d, d ≤ 8 ∧ p < n ∧ pk T n p = nI (48 + d)) ∨ ((pk T n p - 48 < 0 ∨ ¬ pk T n p - 48 ≤ 8) ∧ ¬ (¬ pk T n p < 48 ∧ ¬ (56 : Int32) < pk T n p)) := by
  unfold pk
  by_cases q : p < n
  · rw [if_pos q]
    rcases tn_dec (T p) (tp.2 p q) with h | h
    · exact Or.inl ⟨T p - 48, by omega, q, by rw [show 48 + (T p - 48) = T p by omega]⟩
    · exact Or.inr h
  · rw [if_neg q]; exact Or.inr (by decide)
end ORP
