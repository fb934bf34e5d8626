section TST
variable {T : Nat → Nat} {n0 N : Nat}
theorem cl_one (D : Option (Int32 × HP)) (X Y : HP → Option (Int32 × HP)) : (cl (cl D fun _ h7 => zok 1 (some ((1 : Int32), h7))) fun t5 h6 => if t5 ≠ 0 then X h6 else Y h6) = cl D fun _ h' => X h' := by
  cases D with
  | none => rfl
  | some q =>
    obtain ⟨a, b⟩ := q
    rw [cl_s, zok_1, cl_s, if_pos (show (1 : Int32) ≠ 0 from by decide), cl_s]
/-- a ! ends, in the reference -/
theorem ep_1 {h : HP} {f p ℓ o j : Nat} {W : List (Nat × Nat)} (w : WS ((10, j) :: W) h) (t : TcM T n0 p h) (e15 : h.1 0 15 = nI (o + 1)) (e16 : h.1 0 16 = nI ℓ) (hℓ : ℓ < 250) (ho : o < 100) : ∃ h', xX11_endsPiece_0 N (f + 1) h = xX11_endsPiece_0 N f h' ∧ WS W h' ∧ TcM T n0 p h' ∧ h'.1 0 15 = nI o ∧ h'.1 0 16 = nI (ℓ + 1) ∧ h'.1 9 ℓ = nI (1048576 * 10) ∧ gL ℓ h h' := by
  have wl := w.2.2.2
  rw [List.length_cons] at wl
  obtain ⟨a, b, c, d⟩ := ntH_0 (h := h) (ℓ := ℓ) (i := (10, 0))
  have f0 := ntH_f (h := h) (i := (10, 0)) (Nat.le_refl ℓ)
  have t' := ntH_T (ℓ := ℓ) (i := (10, 0)) t
  have n9 : (ntH h ℓ (10, 0)).1 9 ℓ = nI (1048576 * 10) := by
    unfold ntH
    rw [up_n (by decide), up_at, if_pos ⟨rfl, rfl⟩]
    rfl
  refine ⟨up (up (ntH h ℓ (10, 0)) 0 17 (nI W.length)) 0 15 (nI o), ?_, WS.pop w (by rw [up_at, if_neg (by decide), up_at, if_pos ⟨rfl, rfl⟩]) (fun i _ => by rw [up_n (by decide), up_n (by decide), c]), ⟨by rw [up_at, if_neg (by decide), up_at, if_neg (by decide)]; exact t'.1, by rw [up_at, if_neg (by decide), up_at, if_neg (by decide)]; exact t'.2.1, fun i hi => by rw [up_n (by decide), up_n (by decide)]; exact t'.2.2 i hi⟩, by rw [up_at, if_pos ⟨rfl, rfl⟩], by rw [up_at, if_neg (by decide), up_at, if_neg (by decide)]; exact a, by rw [up_n (by decide), up_n (by decide)]; exact n9, ⟨fun k q1 q2 q3 => by rw [up_n q1, up_n q1]; exact f0.1 k q1 q2 q3, fun i hi => by rw [up_at, if_neg (by omega), up_at, if_neg (by omega)]; exact f0.2.1 i hi, fun k hk => by rw [up_n (by decide), up_n (by decide)]; exact f0.2.2 k hk⟩⟩
  rw [xX11_endsPiece_0]
  dsimp only
  rw [waitTop_e w, cl_s]
  show (if nI 10 ≠ 10 then _ else _) = _
  rw [if_neg (by decide), show xX11_notes 10 0 h = some (0, ntH h ℓ (10, 0)) from ntH_e (i := (10, 0)) hℓ e16 rfl rfl, cl_s, lt_e, b 17 (by decide), w.1, List.length_cons, sub_1 (by omega), show W.length + 1 - 1 = W.length by omega, lt_e, show (up (ntH h ℓ (10, 0)) 0 17 (nI W.length)).1 0 15 = nI (o + 1) from by rw [up_at, if_neg (by decide), b 15 (by decide)]; exact e15, sub_1 (by omega), show o + 1 - 1 = o by omega]
theorem DS_B {n m p ℓ o : Nat} {W : List (Nat × Nat)} {hx h : HP} (ps : PS T n0 p ℓ o W hx h) (hW : W ≠ []) : DS N n m h = BS N n m N h := by
  have w := ps.2.2.2.2.2.1
  have wl := w.2.2.2
  have : W.length ≠ 0 := fun z => hW (List.length_eq_zero_iff.mp z)
  unfold DS BS
  rw [w.1, if_pos (show nI W.length ≠ 0 from i_ne (b := 0) (by omega) (by decide) this)]
  rfl
/-! the nots of a test: the class reads them in a loop, and writes them behind -/
def pN (D : Option (Int32 × HP)) : Option (Int32 × HP) := cl D fun t h3 => if t = 0 then zok 0 (some ((0 : Int32), h3)) else cl (xX2_write 33 0 h3) fun _ h5 => zok 1 (some ((1 : Int32), h5))
def wN : Nat → HP → Option (Int32 × HP)
  | 0, h => zok 1 (some ((1 : Int32), h))
  | k + 1, h => cl (xX2_write 33 0 h) fun _ h2 => wN k h2
theorem pN_cl (D : Option (Int32 × HP)) (f : Int32 → HP → Option (Int32 × HP)) : pN (cl D f) = cl D fun t h => pN (f t h) := by
  cases D with
  | none => rfl
  | some q => rfl
theorem pN_if {c : Prop} [Decidable c] (a b : Option (Int32 × HP)) : pN (if c then a else b) = if c then pN a else pN b := by
  split <;> rfl
theorem pN_0 (h : HP) : pN (zok 0 (some ((0 : Int32), h))) = zok 0 (some ((0 : Int32), h)) := by
  rw [zok_0]
  unfold pN
  rw [cl_s, if_pos (show (0 : Int32) = 0 from rfl), zok_0]
theorem pN_1 (h : HP) : pN (zok 1 (some ((1 : Int32), h))) = cl (xX2_write 33 0 h) fun _ h5 => zok 1 (some ((1 : Int32), h5)) := by
  rw [zok_1]
  unfold pN
  rw [cl_s, if_neg (show ¬ (1 : Int32) = 0 from by decide)]
theorem wN_s : ∀ (k : Nat) (h : HP), wN (k + 1) h = pN (wN k h) := by
  intro k
  induction k with
  | zero =>
    intro h
    show _ = pN (zok 1 (some ((1 : Int32), h)))
    rw [pN_1]
    rfl
  | succ k ih =>
    intro h
    show (cl (xX2_write 33 0 h) fun _ h2 => wN (k + 1) h2) = pN (cl (xX2_write 33 0 h) fun _ h2 => wN k h2)
    rw [pN_cl]
    simp only [ih]
section RT
variable {c1 cS : Int32 → HP → Option (Int32 × HP)}
theorem rt_188 : ∀ (k n o : Nat) (h : HP), k < n → o + k < 100 → xX2_readTest_188 N c1 cS n (nI (o + k)) (nI o) h = wN k h := by
  intro k
  induction k with
  | zero =>
    intro n o h hn ho
    obtain ⟨n, rfl⟩ : ∃ j, n = j + 1 := ⟨n - 1, by omega⟩
    rw [xX2_readTest_188]
    dsimp only
    rw [if_pos (show nI (o + 0) ≤ nI o from (le_nn (by omega) (by omega)).mpr (by omega))]
    rfl
  | succ k ih =>
    intro n o h hn ho
    obtain ⟨n, rfl⟩ : ∃ j, n = j + 1 := ⟨n - 1, by omega⟩
    rw [xX2_readTest_188]
    dsimp only
    rw [if_neg (show ¬ nI (o + (k + 1)) ≤ nI o from fun z => by have := (le_nn (by omega) (by omega)).mp z; omega)]
    show _ = cl (xX2_write 33 0 h) fun _ h2 => wN k h2
    congr 1
    funext t1 h2
    rw [lt_e, nI_1, show o + (k + 1) = o + 1 + k by omega]
    exact ih n (o + 1) h2 (by omega) (by omega)
theorem rt_185 (hN : 300 ≤ N) {o i : Nat} (h : HP) (hi : i < 100) (ho : o ≤ i) : xX2_readTest_185 N c1 cS (nI o) (nI i) h = wN (i - o) h := by
  unfold xX2_readTest_185
  obtain ⟨k, rfl⟩ : ∃ k, i = o + k := ⟨i - o, by omega⟩
  rw [show o + k - o = k by omega]
  exact rt_188 k N o h (by omega) hi
theorem rt_185p (hN : 300 ≤ N) {o i : Nat} (h : HP) (hi : i < 100) (ho : o + 1 ≤ i) : xX2_readTest_185 N c1 cS (nI o) (nI i) h = pN (xX2_readTest_185 N c1 cS (nI (o + 1)) (nI i) h) := by
  rw [rt_185 hN h hi (by omega), rt_185 hN h hi ho, show i - o = i - (o + 1) + 1 by omega, wN_s]
theorem rt_185e (hN : 300 ≤ N) {o : Nat} (h : HP) (hi : o < 100) : xX2_readTest_185 N c1 cS (nI o) (nI o) h = some (1, h) := by
  rw [rt_185 hN h hi (Nat.le_refl _), Nat.sub_self]
  exact zok_1 _
theorem rt_59p (h : HP) : pN (xX2_readTest_59 N c1 cS h) = xX2_readTest_59 N c1 cS h := by
  unfold xX2_readTest_59
  rw [ref_e, cl_s, pN_0]
theorem rt_106p (h : HP) : pN (xX2_readTest_106 N c1 cS h) = xX2_readTest_106 N c1 cS h := pN_0 h
theorem rt_156p (hN : 300 ≤ N) {o i : Nat} (v : Int32) (h : HP) (hi : i < 100) (ho : o + 1 ≤ i) : xX2_readTest_156 N c1 cS (nI o) (nI i) v h = pN (xX2_readTest_156 N c1 cS (nI (o + 1)) (nI i) v h) := by
  unfold xX2_readTest_156
  rw [lt_e, lt_e, pN_cl]
  simp only [pN_if, pN_cl, pN_0, rt_185p hN _ hi ho]
theorem rt_69p (hN : 300 ≤ N) {o i : Nat} (v : Int32) (h : HP) (hi : i < 100) (ho : o + 1 ≤ i) : xX2_readTest_69 N c1 cS (nI o) (nI i) v h = pN (xX2_readTest_69 N c1 cS (nI (o + 1)) (nI i) v h) := by
  unfold xX2_readTest_69
  rw [lt_e, lt_e]
  simp only [ref_e, cl_s, pN_if, pN_cl, pN_0, rt_106p, rt_156p hN _ _ hi ho, rt_185p hN _ hi ho]
theorem rt_33p (hN : 300 ≤ N) {o i : Nat} (h : HP) (hi : i < 100) (ho : o + 1 ≤ i) : xX2_readTest_33 N c1 cS (nI o) (nI i) h = pN (xX2_readTest_33 N c1 cS (nI (o + 1)) (nI i) h) := by
  unfold xX2_readTest_33
  simp only [pN_if, pN_cl, rt_59p, rt_69p hN _ _ hi ho]
theorem rt_2p (hN : 300 ≤ N) {o : Nat} : ∀ (f i : Nat) (h : HP), i ≤ 6 → o + 1 ≤ i → xX2_readTest_2 N c1 cS f (nI o) (nI i) h = pN (xX2_readTest_2 N c1 cS f (nI (o + 1)) (nI i) h) := by
  intro f
  induction f with
  | zero => intro i h hi ho; rfl
  | succ f ih =>
    intro i h hi ho
    rw [xX2_readTest_2]
    dsimp only
    by_cases h6 : i = 6
    · rw [if_pos (show (6 : Int32) ≤ nI i from by rw [h6]; decide), if_pos (show (6 : Int32) ≤ nI i from by rw [h6]; decide), rt_33p hN h (by omega) ho]
    · have hc : ¬ (6 : Int32) ≤ nI i := fun z => by rw [l6, le_nn (by omega) (by omega)] at z; omega
      rw [if_neg hc, if_neg hc, pN_cl]
      congr 1
      funext t1 h2
      rw [pN_if, lt_e, lt_e, lt_e, lt_e, nI_1, rt_33p hN h2 (by omega) ho, ih (i + 1) _ (by omega) (by omega)]
theorem rt_2f : ∀ (f g i : Nat) (v : Int32) (h : HP), i ≤ 6 → 6 - i < f → 6 - i < g → xX2_readTest_2 N c1 cS f v (nI i) h = xX2_readTest_2 N c1 cS g v (nI i) h := by
  intro f
  induction f with
  | zero => intro g i v h _ hf; omega
  | succ f ih =>
    intro g i v h hi hf hg
    obtain ⟨g, rfl⟩ : ∃ j, g = j + 1 := ⟨g - 1, by omega⟩
    rw [xX2_readTest_2]
    dsimp only
    conv => rhs; rw [xX2_readTest_2]; dsimp only
    by_cases h6 : i = 6
    · rw [if_pos (show (6 : Int32) ≤ nI i from by rw [h6]; decide), if_pos (show (6 : Int32) ≤ nI i from by rw [h6]; decide)]
    · have hc : ¬ (6 : Int32) ≤ nI i := fun z => by rw [l6, le_nn (by omega) (by omega)] at z; omega
      rw [if_neg hc, if_neg hc]
      congr 1
      funext t1 h2
      rw [lt_e, lt_e, lt_e, lt_e, nI_1, ih g (i + 1) v _ (by omega) (by omega) (by omega)]
/-- a ! : the test behind it, then a ! written -/
theorem rt_not (hN : 300 ≤ N) (tp : TP T n0) {o p : Nat} {hx : HP} (tx : TcX T n0 p hx) (ho : o < 6) (e : pk T n0 p = 33) : xX2_readTest N c1 cS (nI o) hx = pN (xX2_readTest N c1 cS (nI (o + 1)) (up hx 1 2 (hx.1 1 2 + 1))) := by
  unfold xX2_readTest
  rw [← rt_2p hN N (o + 1) _ (by omega) (Nat.le_refl _), rt_2f N (N - 1) (o + 1) _ _ (by omega) (by omega) (by omega)]
  obtain ⟨N', hN'⟩ : ∃ j, N = j + 1 := ⟨N - 1, by omega⟩
  have e0 : ∀ v i h, xX2_readTest_2 N c1 cS N v i h = xX2_readTest_2 N c1 cS (N' + 1) v i h := fun v i h => by rw [← hN']
  rw [e0, show N - 1 = N' by omega, xX2_readTest_2]
  dsimp only
  rw [if_neg (show ¬ (6 : Int32) ≤ nI o from fun z => by rw [l6, le_nn (by omega) (by omega)] at z; omega), peek_e tp tx, cl_s, if_neg (fun z => z e), lt_e, lt_e, nI_1]
/-- no ! , or too deep for one -/
theorem rt_no (hN : 300 ≤ N) (tp : TP T n0) {o p : Nat} {hx : HP} (tx : TcX T n0 p hx) (ho : o < 100) (e : 6 ≤ o ∨ pk T n0 p ≠ 33) : xX2_readTest N c1 cS (nI o) hx = xX2_readTest_33 N c1 cS (nI o) (nI o) hx := by
  unfold xX2_readTest
  obtain ⟨N', hN'⟩ : ∃ j, N = j + 1 := ⟨N - 1, by omega⟩
  have e0 : ∀ v i h, xX2_readTest_2 N c1 cS N v i h = xX2_readTest_2 N c1 cS (N' + 1) v i h := fun v i h => by rw [← hN']
  rw [e0, xX2_readTest_2]
  dsimp only
  by_cases h6 : 6 ≤ o
  · rw [if_pos (show (6 : Int32) ≤ nI o from by rw [l6, le_nn (by omega) (by omega)]; exact h6)]
  · rw [if_neg (show ¬ (6 : Int32) ≤ nI o from fun z => by rw [l6, le_nn (by omega) (by omega)] at z; omega), peek_e tp tx, cl_s, if_pos (e.resolve_left h6)]
/-- neither ! nor ( -/
theorem rt_cmp (hN : 300 ≤ N) (tp : TP T n0) {o p : Nat} {hx : HP} (tx : TcX T n0 p hx) (ho : o < 100) (e1 : pk T n0 p ≠ 33) (e2 : pk T n0 p ≠ 40) : xX2_readTest N c1 cS (nI o) hx = cl (cS (nI o) hx) fun t3 h4 => if t3 ≠ 0 then (cl (xX7_peek h4) fun t5 h6 => if t5 = 60 then xX2_readTest_156 N c1 cS (nI o) (nI o) t5 h6 else if t5 = 62 then xX2_readTest_156 N c1 cS (nI o) (nI o) t5 h6 else if t5 = 61 then xX2_readTest_156 N c1 cS (nI o) (nI o) t5 h6 else cl (xX7_refuse 1 (h6.1 1 2) h6) fun t7 h8 => zok t7 (some (t7, h8))) else zok 0 (some (0, h4)) := by
  rw [rt_no hN tp tx ho (Or.inr e1)]
  unfold xX2_readTest_33
  rw [peek_e tp tx, cl_s, if_neg e1, if_pos e2]
  rw [show ∀ (c : Prop) [Decidable c] (D : Option (Int32 × HP)), (if c then D else D) = D from fun c _ D => by split <;> rfl]
  unfold xX2_readTest_69
  rw [if_pos e2]
theorem rt_156e (hN : 300 ≤ N) {o : Nat} (v : Int32) (h : HP) (ho : o < 100) : xX2_readTest_156 N c1 cS (nI o) (nI o) v h = cl (cS (nI o) (up h 1 2 (h.1 1 2 + 1))) fun t2 h3 => if t2 = 0 then some (0, h3) else cl (xX2_write v 0 h3) fun _ h5 => some (1, h5) := by
  unfold xX2_readTest_156
  rw [lt_e]
  congr 1
  funext t2 h3
  by_cases z : t2 = 0
  · rw [if_neg (fun k => k z), if_pos z, zok_0]
  · rw [if_pos z, if_neg z]
    simp only [rt_185e hN _ ho]
/-- a ( -/
theorem rt_par (hN : 300 ≤ N) (tp : TP T n0) {o p : Nat} {hx : HP} (tx : TcX T n0 p hx) (ho : o < 6) (e : pk T n0 p = 40) : xX2_readTest N c1 cS (nI o) hx = cl (c1 (nI (o + 1)) (up hx 1 2 (hx.1 1 2 + 1))) fun t8 h9 => if t8 = 0 then some (0, h9) else cl (xX7_demands 41 h9) fun t10 h11 => if t10 = 0 then some (0, h11) else some (1, h11) := by
  rw [rt_no hN tp tx (by omega) (Or.inr (by rw [e]; decide))]
  unfold xX2_readTest_33
  rw [peek_e tp tx, cl_s, if_pos (show nI o < 6 from by rw [l6, lt_nn (by omega) (by decide)]; exact ho)]
  unfold xX2_readTest_69 xX2_readTest_106
  rw [if_neg (fun z => z e), lt_e, nI_1]
  congr 1
  funext t8 h9
  by_cases z : t8 = 0
  · rw [if_pos z, if_pos z, zok_0]
  · rw [if_neg z, if_neg z]
    congr 1
    funext t10 h11
    by_cases z2 : t10 = 0
    · rw [if_neg (fun k => k z2), if_pos z2, zok_0]
    · rw [if_pos z2, if_neg z2, rt_185e hN _ (by omega)]
/-- ! or ( , too deep -/
theorem rt_deep (hN : 300 ≤ N) (tp : TP T n0) {p : Nat} {hx : HP} (tx : TcX T n0 p hx) (e : pk T n0 p = 33 ∨ pk T n0 p = 40) : xX2_readTest N c1 cS (nI 6) hx = cl (xX7_refuse 5 (hx.1 1 2) hx) fun t1 h2 => zok t1 (some (t1, h2)) := by
  rw [rt_no hN tp tx (by omega) (Or.inl (Nat.le_refl _))]
  unfold xX2_readTest_33 xX2_readTest_59
  rw [peek_e tp tx, cl_s, if_neg (show ¬ nI 6 < 6 from by decide)]
  rcases e with e | e
  · rw [if_pos e]
  · rw [if_neg (by rw [e]; decide), if_neg (fun z => z e)]
end RT
/-- two sums compared -/
theorem test_c {dp o p ℓ n : Nat} {W : List (Nat × Nat)} {hx hm : HP} {c1 : Int32 → HP → Option (Int32 × HP)} (hN : 300 ≤ N) (tp : TP T n0) (hd : 2 * (6 - o) + 2 ≤ dp) (ps : PS T n0 p ℓ o W hx hm) (hW : noS W) (hp : 1 ≤ p) (hl : ℓ ≤ p) (hn : n0 - p ≤ n) (e1 : pk T n0 p ≠ 33) (e2 : pk T n0 p ≠ 40) : TRs N T n0 p ℓ o W hx hm (xX2_readTest N c1 (rg0 N dp).2.2.1 (nI o) hx) (TS N (n + 1) hm) := by
  have hn0 := tp.1
  have pn := ps.1.1
  have eM : TS N (n + 1) hm = cl (xX11_readsCompared N hm) fun t5 h6 => if t5 ≠ 0 then A92 N n N h6 else zok 0 (some (0, h6)) := by
    unfold TS A92
    rw [xX11_readsCondition_40]
    dsimp only
    rw [here_e tp pn ps.2.1, cl_s, if_neg e1, here_e tp pn ps.2.1, cl_s, if_pos e2]
  rw [rt_cmp hN tp ps.1 (by have := ps.2.2.2.2.2.2.1; omega) e1 e2, eM]
  unfold xX11_readsCompared
  rcases sumAl (N := N) hN tp hd ps hW hp hl with ⟨p1, ℓ1, x1, m1, E1, a1, a2, ⟨b1, b2', b3, b4, b5, CX, CM, b6, b7, b8, b9⟩⟩ | ⟨x', m', a1, a2, a3, a4, a5⟩
  · obtain ⟨tx1, tm1, lx1, lm1, o1, w1, o6, wl1⟩ := id b1
    have p1n := tx1.1
    rw [a1, a2, cl_s, cl_s, if_pos (show (1 : Int32) ≠ 0 from by decide), if_pos (show (1 : Int32) ≠ 0 from by decide), peek_e tp tx1, here_e tp p1n tm1, cl_s, cl_s]
    have cmp : ∀ op, (op = 7 ∨ op = 8 ∨ op = 9) → pk T n0 p1 = nI (sgn op) → TRs N T n0 p ℓ o W hx hm (xX2_readTest_156 N c1 (rg0 N dp).2.2.1 (nI o) (nI o) (nI (sgn op)) x1) (cl (xX11_readsCompared_52 N (nI op) m1) fun t5 h6 => if t5 ≠ 0 then A92 N n N h6 else zok 0 (some (0, h6))) := by
      intro op hop e
      have p1l : p1 < n0 := (pk_is tp (by rcases hop with rfl | rfl | rfl <;> decide) e).1
      have fx : fP x1 (up x1 1 2 (x1.1 1 2 + 1)) := fP.up (Or.inl rfl)
      have gm : gP m1 (up m1 0 11 (m1.1 0 11 + 1)) := gP.up (Or.inl rfl)
      have ps2 : PS T n0 (p1 + 1) ℓ1 o W (up x1 1 2 (x1.1 1 2 + 1)) (up m1 0 11 (m1.1 0 11 + 1)) := ⟨tx1.mv p1l, tm1.mv, by rw [fx.1 20 (by decide)]; exact lx1, by rw [gm.2 16 (by decide) (by decide) (by decide)]; exact lm1, by rw [gm.2 15 (by decide) (by decide) (by decide)]; exact o1, w1.fr (gm.2 17 (by decide) (by decide) (by decide)) (fun j _ => by rw [gm.1 10 (by decide)]), o6, by omega⟩
      rw [rt_156e hN _ _ (by omega)]
      unfold xX11_readsCompared_52
      rw [if_pos (nn_m1 (show op < 2147483648 by omega)), lt_e]
      rcases sumAl (N := N) hN tp hd ps2 hW (by omega) (by omega) with ⟨p2, ℓ2, x2, m2, E2, d1, d2, ⟨f1, f2, f3, f4, f5, DX, DM, f6, f7, f8, f9⟩⟩ | ⟨x', m', d1, d2, d3, d4, d5⟩
      · obtain ⟨tx2, tm2, lx2, lm2, o2, w2, -, wl2⟩ := id f1
        have p2n := tx2.1
        have ok : okI (op, 0) := ⟨by show op ≤ 12; omega, by show (0 : Nat) < 100000; decide, fun z => by have z : op = 1 := z; omega⟩
        have l12 := f8.1
        have l01 := b8.1
        obtain ⟨k1, k2, k3, k4⟩ := ntH_0 (h := m2) (ℓ := ℓ2) (i := (op, 0))
        have fX : fL ℓ1 x1 (wrH x2 ℓ2 (op, 0)) := (fx.L ℓ1).tr (Nat.le_refl _) (f4.tr l12 (wrH_f (Nat.le_refl _)))
        have gX : gL ℓ1 m1 (ntH m2 ℓ2 (op, 0)) := (gm.L ℓ1).tr (Nat.le_refl _) (f5.tr l12 (ntH_f (Nat.le_refl _)))
        have cX2 : CXh 21 22 (fun _ => (op, 0)) ℓ2 (ℓ2 + 1) (wrH x2 ℓ2 (op, 0)) := wrH_c ok rfl
        have cM2 : CMh 9 (fun _ => (op, 0)) ℓ2 (ℓ2 + 1) (ntH m2 ℓ2 (op, 0)) := ntH_c ok rfl
        have cX : CXh 21 22 (glu ℓ1 CX (glu ℓ2 DX (fun _ => (op, 0)))) ℓ (ℓ2 + 1) (wrH x2 ℓ2 (op, 0)) := (b6.fr fX (Nat.le_refl _)).glu ((f6.fr (wrH_f (Nat.le_refl ℓ2)) (Nat.le_refl _)).glu cX2)
        have cM : CMh 9 (glu ℓ1 CM (glu ℓ2 DM (fun _ => (op, 0)))) ℓ (ℓ2 + 1) (ntH m2 ℓ2 (op, 0)) := (b7.fr gX (Nat.le_refl _)).glu ((f7.fr (ntH_f (Nat.le_refl ℓ2)) (Nat.le_refl _)).glu cM2)
        refine Or.inl ⟨p2, ℓ2 + 1, wrH x2 ℓ2 (op, 0), ntH m2 ℓ2 (op, 0), (fun F => bin op (E1 F) (E2 F)), n, N, N, ?_, ?_, by omega, by omega, by have := w2.2.2.2; omega, bl_bin (by omega) _ _, ⟨wrH_T tx2, ntH_T tm2, wrH_l, k1, by rw [k2 15 (by decide)]; exact o2, ntH_W w2, o6, wl2⟩, by omega, by omega, b4.tr l01 fX, b5.tr l01 gX, _, _, cX, cM, ?_, ?_⟩
        · rw [d1, cl_s, if_neg (show ¬ (1 : Int32) = 0 from by decide), show xX2_write (nI (sgn op)) 0 x2 = some (nI ℓ2, wrH x2 ℓ2 (op, 0)) from wr_e (i := (op, 0)) (by omega) lx2 rfl (vlX_n (i := (op, 0)) (by show op ≠ 1; omega)).symm, cl_s]
        · rw [d2, cl_s, if_pos (show (1 : Int32) ≠ 0 from by decide), show xX11_notes (nI op) 0 m2 = some (0, ntH m2 ℓ2 (op, 0)) from ntH_e (i := (op, 0)) (by omega) lm2 rfl rfl, cl_s]
          exact cl_one _ _ _
        · exact sg_bin b8.gl (f8.ext (fun k k1 k2 => by rw [glu_r k1, glu_l k2])) (by rw [glu_r l12, glu_r (Nat.le_refl _)]) (by omega) (by omega)
        · exact sg_bin b9.gl (f9.ext (fun k k1 k2 => by rw [glu_r k1, glu_l k2])) (by rw [glu_r l12, glu_r (Nat.le_refl _)]) (by omega) (by omega)
      · refine Or.inr ⟨x', m', ?_, ?_, d3, b4.tr b8.1 ((fx.L ℓ1).tr (Nat.le_refl _) d4), b5.tr b8.1 ((gm.L ℓ1).tr (Nat.le_refl _) d5)⟩
        · rw [d1, cl_s, if_pos (show (0 : Int32) = 0 from rfl)]
        · rw [d2, cl_s, if_neg (show ¬ (0 : Int32) ≠ 0 from by decide), zok_0, cl_s, if_neg (show ¬ (0 : Int32) ≠ 0 from by decide), zok_0]
    by_cases z1 : pk T n0 p1 = 60
    · rw [if_pos z1, if_neg (fun k => k z1), z1]
      exact cmp 7 (Or.inl rfl) z1
    · rw [if_neg z1, if_pos z1, here_e tp p1n tm1, cl_s]
      by_cases z2 : pk T n0 p1 = 62
      · rw [if_pos z2, if_neg (fun k => k z2), z2]
        exact cmp 8 (Or.inr (Or.inl rfl)) z2
      · rw [if_neg z2, if_pos z2, here_e tp p1n tm1, cl_s]
        by_cases z3 : pk T n0 p1 = 61
        · rw [if_pos z3, if_neg (fun k => k z3), z3]
          exact cmp 9 (Or.inr (Or.inr rfl)) z3
        · rw [if_neg z3, if_pos z3]
          refine Or.inr (bad.mk (v := (-1000) * 1 - nI p1) (Nat.le_refl ℓ) ?_ ?_ b4 b5)
          · rw [ref_e, cl_s, zok_0, tx1.2.1]
          · unfold xX11_readsCompared_52
            rw [if_neg (fun k => k rfl), wro_e, cl_s, zok_0, cl_s, if_neg (show ¬ (0 : Int32) ≠ 0 from by decide), zok_0, tm1.1]
  · refine Or.inr ⟨x', m', ?_, ?_, a3, a4, a5⟩
    · rw [a1, cl_s, if_neg (show ¬ (0 : Int32) ≠ 0 from by decide), zok_0]
    · rw [a2, cl_s, if_neg (show ¬ (0 : Int32) ≠ 0 from by decide), zok_0, cl_s, if_neg (show ¬ (0 : Int32) ≠ 0 from by decide), zok_0]
end TST
