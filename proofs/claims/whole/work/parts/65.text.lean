/-! ===== texts on the tape: T its bytes, n its length, p the place that is read ===== -/
def TP (T : Nat → Nat) (n : Nat) : Prop := n ≤ 240 ∧ ∀ i, i < n → T i < 256
def TcX (T : Nat → Nat) (n p : Nat) (h : HP) : Prop := p ≤ n ∧ h.1 1 2 = nI p ∧ h.1 1 3 = nI n ∧ ∀ i, i < n → h.1 2 i = nI (T i)
def TcM (T : Nat → Nat) (n p : Nat) (h : HP) : Prop := h.1 0 11 = nI p ∧ h.1 0 12 = nI n ∧ ∀ i, i < n → h.1 8 i &&& 255 = nI (T i)
def pk (T : Nat → Nat) (n p : Nat) : Int32 := if p < n then nI (T p) else -1
/-- what the tape's own methods leave alone -/
def fP (h h' : HP) : Prop := (∀ k, k ≠ 1 → h'.1 k = h.1 k) ∧ ∀ j, j ≠ 2 → j ≠ 4 → h'.1 1 j = h.1 1 j
def gP (h h' : HP) : Prop := (∀ k, k ≠ 0 → h'.1 k = h.1 k) ∧ ∀ j, j ≠ 11 → j ≠ 13 → j ≠ 14 → h'.1 0 j = h.1 0 j
theorem fP.rf (h : HP) : fP h h := ⟨fun _ _ => rfl, fun _ _ _ => rfl⟩
theorem gP.rf (h : HP) : gP h h := ⟨fun _ _ => rfl, fun _ _ _ _ => rfl⟩
theorem fP.tr {h h1 h2 : HP} (a : fP h h1) (b : fP h1 h2) : fP h h2 := ⟨fun k q => (b.1 k q).trans (a.1 k q), fun j q1 q2 => (b.2 j q1 q2).trans (a.2 j q1 q2)⟩
theorem gP.tr {h h1 h2 : HP} (a : gP h h1) (b : gP h1 h2) : gP h h2 := ⟨fun k q => (b.1 k q).trans (a.1 k q), fun j q1 q2 q3 => (b.2 j q1 q2 q3).trans (a.2 j q1 q2 q3)⟩
theorem fP.up {h : HP} {j : Nat} {v : Int32} (hj : j = 2 ∨ j = 4) : fP h (up h 1 j v) := ⟨fun k q => up_n q, fun i q1 q2 => by rw [up_at, if_neg (by omega)]⟩
theorem gP.up {h : HP} {j : Nat} {v : Int32} (hj : j = 11 ∨ j = 13 ∨ j = 14) : gP h (up h 0 j v) := ⟨fun k q => up_n q, fun i q1 q2 q3 => by rw [up_at, if_neg (by omega)]⟩
section TXT
variable {T : Nat → Nat} {n p : Nat} {hx hm : HP} {N : Nat}
theorem peek_e {h : HP} (tp : TP T n) (t : TcX T n p h) : xX7_peek h = some (pk T n p, h) := by
  obtain ⟨t1, t2, t3, t4⟩ := t
  have := tp.1
  unfold xX7_peek xX7_peek_24 pk
  rw [t2, t3]
  by_cases q : p < n
  · rw [if_neg (by rw [le_nn (by omega) (by omega)]; omega), ald_n (by omega) (by decide), t4 p q, if_pos q]
  · rw [if_pos (by rw [le_nn (by omega) (by omega)]; omega), if_neg q]
theorem here_e {h : HP} (tp : TP T n) (hp : p ≤ n) (t : TcM T n p h) : xX11_here h = some (pk T n p, h) := by
  obtain ⟨t2, t3, t4⟩ := t
  have := tp.1
  unfold xX11_here xX11_here_28 pk
  rw [t2, t3]
  by_cases q : p < n
  · rw [if_neg (by rw [le_nn (by omega) (by omega)]; omega), ald_n (by omega) (by decide), t4 p q, if_pos q]
  · rw [if_pos (by rw [le_nn (by omega) (by omega)]; omega), if_neg q]
theorem pk_is (tp : TP T n) {v : Nat} (hv : v < 2147483648) (h : pk T n p = nI v) : p < n ∧ T p = v := by
  unfold pk at h
  by_cases q : p < n
  · rw [if_pos q, eq_nn (by have := tp.2 p q; omega) hv] at h; exact ⟨q, h⟩
  · rw [if_neg q] at h; exact absurd h.symm (nn_m1 hv)
theorem TcX.fr {h h' : HP} {p' : Nat} (t : TcX T n p h) (q : fP h h') (h2 : h'.1 1 2 = nI p') (hp : p' ≤ n) : TcX T n p' h' := ⟨hp, h2, by rw [q.2 3 (by decide) (by decide)]; exact t.2.2.1, fun i hi => by rw [q.1 2 (by decide)]; exact t.2.2.2 i hi⟩
theorem TcM.fr {h h' : HP} {p' : Nat} (t : TcM T n p h) (q : gP h h') (h2 : h'.1 0 11 = nI p') : TcM T n p' h' := ⟨h2, by rw [q.2 12 (by decide) (by decide) (by decide)]; exact t.2.1, fun i hi => by rw [q.1 8 (by decide)]; exact t.2.2 i hi⟩
theorem TcX.mv {h : HP} (t : TcX T n p h) (hp : p < n) : TcX T n (p + 1) (up h 1 2 (h.1 1 2 + 1)) := t.fr (fP.up (Or.inl rfl)) (by rw [up_at, if_pos ⟨rfl, rfl⟩, t.2.1]; exact nI_1 p) (by omega)
theorem TcM.mv {h : HP} (t : TcM T n p h) : TcM T n (p + 1) (up h 0 11 (h.1 0 11 + 1)) := t.fr (gP.up (Or.inl rfl)) (by rw [up_at, if_pos ⟨rfl, rfl⟩, t.1]; exact nI_1 p)
theorem dg_dec : ∀ t, t < 256 → (48 ≤ t ∧ t ≤ 57) ∨ ((nI t - 48 < 0 ∨ (9 : Int32) < nI t - 48) ∧ (nI t < 48 ∨ (57 : Int32) < nI t)) := by decide +kernel
theorem lt_dec : ∀ t, t < 256 → (97 ≤ t ∧ t < 113) ∨ ((nI t < 97 ∨ (113 : Int32) ≤ nI t) ∧ (nI t - 97 < 0 ∨ (15 : Int32) < nI t - 97)) := by decide +kernel
theorem dg_c (tp : TP T n) : (∃ d, d ≤ 9 ∧ p < n ∧ T p = 48 + d ∧ pk T n p = nI (48 + d)) ∨ ((pk T n p - 48 < 0 ∨ (9 : Int32) < pk T n p - 48) ∧ (pk T n p < 48 ∨ (57 : Int32) < pk T n p)) := by
  unfold pk
  by_cases q : p < n
  · rw [if_pos q]
    rcases dg_dec (T p) (tp.2 p q) with h | h
    · exact Or.inl ⟨T p - 48, by omega, q, by omega, by rw [show 48 + (T p - 48) = T p by omega]⟩
    · exact Or.inr h
  · rw [if_neg q]; exact Or.inr (by decide)
theorem lt_c (tp : TP T n) : (∃ c, c < 16 ∧ p < n ∧ pk T n p = nI (97 + c)) ∨ ((pk T n p < 97 ∨ (113 : Int32) ≤ pk T n p) ∧ (pk T n p - 97 < 0 ∨ (15 : Int32) < pk T n p - 97)) := by
  unfold pk
  by_cases q : p < n
  · rw [if_pos q]
    rcases lt_dec (T p) (tp.2 p q) with h | h
    · exact Or.inl ⟨T p - 97, by omega, q, by rw [show 97 + (T p - 97) = T p by omega]⟩
    · exact Or.inr h
  · rw [if_neg q]; exact Or.inr (by decide)
theorem isDigit_t {h : HP} {d : Nat} (tp : TP T n) (hp : p ≤ n) (t : TcM T n p h) (hd : d ≤ 9) (e : pk T n p = nI (48 + d)) : xX11_isDigit h = some (1, h) := by
  unfold xX11_isDigit xX11_isDigit_22 xX11_isDigit_23
  rw [here_e tp hp t, cl_s, e, if_neg (by rw [l48, lt_nn (by omega) (by decide)]; omega), here_e tp hp t, cl_s, e, if_neg (by rw [show (57 : Int32) = nI 57 from rfl, lt_nn (by decide) (by omega)]; omega), zok_1]
theorem isDigit_f {h : HP} (tp : TP T n) (hp : p ≤ n) (t : TcM T n p h) (e : pk T n p < 48 ∨ (57 : Int32) < pk T n p) : xX11_isDigit h = some (0, h) := by
  unfold xX11_isDigit xX11_isDigit_22 xX11_isDigit_23
  rw [here_e tp hp t, cl_s]
  by_cases q : pk T n p < 48
  · rw [if_pos q, zok_0]
  · rw [if_neg q, here_e tp hp t, cl_s, if_pos (e.resolve_left q), zok_0]
/-- a fault told alike -/
theorem ref_e (a v : Int32) (h : HP) : xX7_refuse a v h = some (0, up h 1 4 ((-1000) * a - v)) := by
  unfold xX7_refuse; rw [lt_e, zok_0]
theorem wro_e (a v : Int32) (h : HP) : xX11_wrongAt a v h = some (0, up h 0 13 ((-1000) * a - v)) := by
  unfold xX11_wrongAt; rw [lt_e, zok_0]
def nmR (T : Nat → Nat) (n p D : Nat) (dx dm : Option (Int32 × HP)) (hx hm : HP) : Prop :=
  (∃ v p' hx' hm', dx = some (nI v, hx') ∧ dm = some (1, hm') ∧ v < 10 ^ D ∧ p < p' ∧ TcX T n p' hx' ∧ TcM T n p' hm' ∧ hm'.1 0 14 = nI v ∧ fP hx hx' ∧ gP hm hm') ∨ (∃ hx' hm', dx = some (-1, hx') ∧ dm = some (0, hm') ∧ hx'.1 1 4 = hm'.1 0 13 ∧ fP hx hx' ∧ gP hm hm')
theorem nmR.tr {D : Nat} {dx dm : Option (Int32 × HP)} {h1 h2 : HP} (a : fP hx h1) (b : gP hm h2) (q : nmR T n p D dx dm h1 h2) : nmR T n p D dx dm hx hm := by
  rcases q with ⟨v, p', x', m', e1, e2, e3, e4, e5, e6, e7, e8, e9⟩ | ⟨x', m', e1, e2, e3, e4, e5⟩
  · exact Or.inl ⟨v, p', x', m', e1, e2, e3, e4, e5, e6, e7, a.tr e8, b.tr e9⟩
  · exact Or.inr ⟨x', m', e1, e2, e3, a.tr e4, b.tr e5⟩
section RN
variable {D v i d k q : Nat} {h : HP}
theorem rnX_d (tp : TP T n) (hD : D ≤ 6) (hi : i < D) (tx : TcX T n q h) (d9 : d ≤ 9) (e : pk T n q = nI (48 + d)) : xX7_readNumber_4 N (k + 1) (nI D) (nI v) (nI i) h = xX7_readNumber_4 N k (nI D) (nI (v * 10 + d)) (nI (i + 1)) (up h 1 2 (h.1 1 2 + 1)) := by
  rw [xX7_readNumber_4]
  dsimp only
  unfold xX7_readNumber_35 xX7_readNumber_48
  rw [if_neg (by rw [lt_nn (by omega) (by omega)]; omega), peek_e tp tx, cl_s, lt_e, e, l48, sub_nn (by omega), show 48 + d - 48 = d by omega, if_neg (by rw [l0, lt_nn (by omega) (by decide)]; omega), if_neg (by rw [l9, lt_nn (by decide) (by omega)]; omega), if_pos (by decide), if_neg (by decide), if_pos (by rw [ne_eq, eq_nn (by omega) (by omega)]; omega), lt_e, lt_e, lt_e, l10, mul_nn, add_nn, nI_1]
theorem rnX_f (tp : TP T n) (hD : D ≤ 6) (tx : TcX T n q h) (d9 : d ≤ 9) (e : pk T n q = nI (48 + d)) : xX7_readNumber_4 N (k + 1) (nI D) (nI v) (nI D) h = some (-1, up h 1 4 ((-1000) * 2 - nI q)) := by
  rw [xX7_readNumber_4]
  dsimp only
  unfold xX7_readNumber_35 xX7_readNumber_48 xX7_readNumber_58 xX7_readNumber_69
  rw [if_neg (by rw [lt_nn (by omega) (by omega)]; omega), peek_e tp tx, cl_s, lt_e, e, l48, sub_nn (by omega), show 48 + d - 48 = d by omega, if_neg (by rw [l0, lt_nn (by omega) (by decide)]; omega), if_neg (by rw [l9, lt_nn (by decide) (by omega)]; omega), if_pos (by decide), if_neg (by decide), if_neg (fun z => z rfl), if_neg (by decide), ref_e, cl_s, tx.2.1]
theorem rnX_0 (tp : TP T n) (hD : D ≤ 6) (hi : i ≤ D) (h1 : 1 ≤ i) (tx : TcX T n q h) (q1 : pk T n q - 48 < 0 ∨ (9 : Int32) < pk T n q - 48) : xX7_readNumber_4 N (k + 1) (nI D) (nI v) (nI i) h = some (nI v, h) := by
  rw [xX7_readNumber_4]
  dsimp only
  unfold xX7_readNumber_34 xX7_readNumber_35
  rw [if_neg (by rw [lt_nn (by omega) (by omega)]; omega), peek_e tp tx, cl_s, lt_e]
  by_cases z : pk T n q - 48 < 0
  · rw [if_pos z, if_neg (by decide), if_neg (by rw [l0, le_nn (by omega) (by decide)]; omega)]
  · rw [if_neg z, if_pos (q1.resolve_left z), if_neg (by decide), if_neg (by rw [l0, le_nn (by omega) (by decide)]; omega)]
theorem rnX_1 (tp : TP T n) (hD : D ≤ 6) (tx : TcX T n q h) (q1 : pk T n q - 48 < 0 ∨ (9 : Int32) < pk T n q - 48) : xX7_readNumber_4 N (k + 1) (nI D) 0 0 h = some (-1, up h 1 4 ((-1000) * 1 - nI q)) := by
  rw [xX7_readNumber_4]
  dsimp only
  unfold xX7_readNumber_34 xX7_readNumber_35 xX7_readNumber_48 xX7_readNumber_58 xX7_readNumber_69
  rw [if_neg (by rw [l0, lt_nn (by omega) (by omega)]; omega), peek_e tp tx, cl_s, lt_e]
  by_cases z : pk T n q - 48 < 0
  · rw [if_pos z, if_neg (by decide), if_pos (by decide), if_pos rfl, if_pos rfl, ref_e, cl_s, tx.2.1]
  · rw [if_neg z, if_pos (q1.resolve_left z), if_neg (by decide), if_pos (by decide), if_pos rfl, if_pos rfl, ref_e, cl_s, tx.2.1]
theorem rnM_d (tp : TP T n) (hD : D ≤ 6) (hp : q ≤ n) (hq : p ≤ n) (hqD : q ≠ p + D) (tm : TcM T n q h) (d9 : d ≤ 9) (e : pk T n q = nI (48 + d)) (h14 : h.1 0 14 = nI v) : xX11_readsAmount_27 N (k + 1) (nI D) (nI p) h = xX11_readsAmount_27 N k (nI D) (nI p) (up (up h 0 14 (nI (v * 10 + d))) 0 11 ((up h 0 14 (nI (v * 10 + d))).1 0 11 + 1)) := by
  have := tp.1
  rw [xX11_readsAmount_27]
  dsimp only
  rw [isDigit_t tp hp tm d9 e, cl_s, if_neg (show ¬ (1 : Int32) = 0 from by decide), tm.1, add_nn, if_pos (by rw [ne_eq, eq_nn (by omega) (by omega)]; exact hqD), here_e tp hp tm, cl_s, e, h14, l10, l48, mul_nn, add_nn, sub_nn (by omega), show 10 * v + (48 + d) - 48 = v * 10 + d by omega, lt_e, lt_e]
theorem rnM_f (tp : TP T n) (hp : q ≤ n) (hqD : q = p + D) (tm : TcM T n q h) (d9 : d ≤ 9) (e : pk T n q = nI (48 + d)) : xX11_readsAmount_27 N (k + 1) (nI D) (nI p) h = some (0, up h 0 13 ((-1000) * 2 - nI q)) := by
  rw [xX11_readsAmount_27]
  dsimp only
  rw [isDigit_t tp hp tm d9 e, cl_s, if_neg (show ¬ (1 : Int32) = 0 from by decide), tm.1, add_nn, if_neg (by rw [hqD]; exact fun z => z rfl), wro_e, cl_s, zok_0]
theorem rnM_0 (tp : TP T n) (hp : q ≤ n) (tm : TcM T n q h) (q2 : pk T n q < 48 ∨ (57 : Int32) < pk T n q) : xX11_readsAmount_27 N (k + 1) (nI D) (nI p) h = some (1, h) := by
  rw [xX11_readsAmount_27]
  dsimp only
  rw [isDigit_f tp hp tm q2, cl_s, if_pos rfl, zok_1]
end RN
theorem num_l (tp : TP T n) {D : Nat} (hD : D ≤ 6) : ∀ k i v n1 n2 hx hm, i + k = D → 1 ≤ i → k < n1 → k < n2 → v < 10 ^ i → TcX T n (p + i) hx → TcM T n (p + i) hm → hm.1 0 14 = nI v → nmR T n p D (xX7_readNumber_4 N n1 (nI D) (nI v) (nI i) hx) (xX11_readsAmount_27 N n2 (nI D) (nI p) hm) hx hm := by
  intro k
  induction k with
  | zero =>
    intro i v n1 n2 hx hm hi h1 k1 k2 hv tx tm h14
    have hp := tx.1
    obtain ⟨n1, rfl⟩ : ∃ k, n1 = k + 1 := ⟨n1 - 1, by omega⟩
    obtain ⟨n2, rfl⟩ : ∃ k, n2 = k + 1 := ⟨n2 - 1, by omega⟩
    have ei : i = D := by omega
    subst ei
    rcases dg_c (p := p + i) tp with ⟨d, d9, d1, d2, d3⟩ | ⟨q1, q2⟩
    · rw [rnX_f tp hD tx d9 d3, rnM_f tp hp rfl tm d9 d3]
      exact Or.inr ⟨_, _, rfl, rfl, by rw [up_at, if_pos ⟨rfl, rfl⟩, up_at, if_pos ⟨rfl, rfl⟩], fP.up (Or.inr rfl), gP.up (Or.inr (Or.inl rfl))⟩
    · rw [rnX_0 tp hD (Nat.le_refl _) h1 tx q1, rnM_0 tp hp tm q2]
      exact Or.inl ⟨v, p + i, hx, hm, rfl, rfl, hv, by omega, tx, tm, h14, fP.rf _, gP.rf _⟩
  | succ k ih =>
    intro i v n1 n2 hx hm hi h1 k1 k2 hv tx tm h14
    have hp := tx.1
    obtain ⟨n1, rfl⟩ : ∃ k, n1 = k + 1 := ⟨n1 - 1, by omega⟩
    obtain ⟨n2, rfl⟩ : ∃ k, n2 = k + 1 := ⟨n2 - 1, by omega⟩
    rcases dg_c (p := p + i) tp with ⟨d, d9, d1, d2, d3⟩ | ⟨q1, q2⟩
    · rw [rnX_d tp hD (by omega) tx d9 d3, rnM_d tp hD hp (by omega) (by omega) tm d9 d3 h14]
      have m1 : gP hm (up hm 0 14 (nI (v * 10 + d))) := gP.up (Or.inr (Or.inr rfl))
      have tm1 : TcM T n (p + i) (up hm 0 14 (nI (v * 10 + d))) := tm.fr m1 (by rw [up_at, if_neg (by decide)]; exact tm.1)
      refine nmR.tr (fP.up (Or.inl rfl)) (m1.tr (gP.up (Or.inl rfl))) (ih (i + 1) (v * 10 + d) n1 n2 _ _ (by omega) (by omega) (by omega) (by omega) (by rw [Nat.pow_succ]; omega) ?_ ?_ ?_)
      · exact tx.mv d1
      · exact tm1.mv
      · rw [up_at, if_neg (by decide), up_at, if_pos ⟨rfl, rfl⟩]
    · rw [rnX_0 tp hD (by omega) h1 tx q1, rnM_0 tp hp tm q2]
      exact Or.inl ⟨v, p + i, hx, hm, rfl, rfl, Nat.lt_of_lt_of_le hv (Nat.pow_le_pow_right (by decide) (by omega)), by omega, tx, tm, h14, fP.rf _, gP.rf _⟩
theorem num_e (hN : 100 ≤ N) (tp : TP T n) {D : Nat} (hD1 : 1 ≤ D) (hD : D ≤ 6) (tx : TcX T n p hx) (tm : TcM T n p hm) : nmR T n p D (xX7_readNumber N (nI D) hx) (xX11_readsAmount N (nI D) hm) hx hm := by
  have hp := tx.1
  obtain ⟨n1, e1⟩ : ∃ k, N = k + 1 := ⟨N - 1, by omega⟩
  unfold xX7_readNumber
  rcases dg_c (p := p) tp with ⟨d, d9, d1, d2, d3⟩ | ⟨q1, q2⟩
  · have m0 : gP hm (up hm 0 14 0) := gP.up (Or.inr (Or.inr rfl))
    have tm0 : TcM T n p (up hm 0 14 0) := tm.fr m0 (by rw [up_at, if_neg (by decide)]; exact tm.1)
    have x1 : xX7_readNumber_4 N N (nI D) 0 0 hx = xX7_readNumber_4 N n1 (nI D) (nI d) (nI 1) (up hx 1 2 (hx.1 1 2 + 1)) := by
      have := rnX_d (N := N) (k := n1) (v := 0) (i := 0) tp hD (by omega) tx d9 d3
      rw [show 0 * 10 + d = d by omega, ← e1] at this
      exact this
    have y1 : xX11_readsAmount N (nI D) hm = xX11_readsAmount_27 N n1 (nI D) (nI p) (up (up (up hm 0 14 0) 0 14 (nI d)) 0 11 ((up (up hm 0 14 0) 0 14 (nI d)).1 0 11 + 1)) := by
      unfold xX11_readsAmount
      have := rnM_d (N := N) (k := n1) (v := 0) (p := p) (D := D) tp hD hp hp (by omega) tm0 d9 d3 (by rw [up_at, if_pos ⟨rfl, rfl⟩]; rfl)
      rw [show 0 * 10 + d = d by omega, ← e1] at this
      rw [lt_e, isDigit_t tp hp tm d9 d3, cl_s, if_pos (show (1 : Int32) ≠ 0 from by decide), lt_e, tm.1, this]
    rw [x1, y1]
    have m1 : gP (up hm 0 14 0) (up (up hm 0 14 0) 0 14 (nI d)) := gP.up (Or.inr (Or.inr rfl))
    have tm1 : TcM T n p (up (up hm 0 14 0) 0 14 (nI d)) := tm0.fr m1 (by rw [up_at, if_neg (by decide)]; exact tm0.1)
    exact nmR.tr (fP.up (Or.inl rfl)) ((m0.tr m1).tr (gP.up (Or.inl rfl))) (num_l tp hD (D - 1) 1 d n1 n1 _ _ (by omega) (by omega) (by omega) (by omega) (by omega) (tx.mv d1) tm1.mv (by rw [up_at, if_neg (by decide), up_at, if_pos ⟨rfl, rfl⟩]))
  · have y1 : xX11_readsAmount N (nI D) hm = some (0, up hm 0 13 ((-1000) * 1 - nI p)) := by
      unfold xX11_readsAmount
      rw [lt_e, isDigit_f tp hp tm q2, cl_s, if_neg (show ¬ (0 : Int32) ≠ 0 from by decide), wro_e, cl_s, zok_0, tm.1]
    have x1 : xX7_readNumber_4 N N (nI D) 0 0 hx = some (-1, up hx 1 4 ((-1000) * 1 - nI p)) := by
      have := rnX_1 (N := N) (k := n1) tp hD tx q1
      rw [← e1] at this; exact this
    exact Or.inr ⟨_, _, x1, y1, by rw [up_at, if_pos ⟨rfl, rfl⟩, up_at, if_pos ⟨rfl, rfl⟩], fP.up (Or.inr rfl), gP.up (Or.inr (Or.inl rfl))⟩
end TXT
