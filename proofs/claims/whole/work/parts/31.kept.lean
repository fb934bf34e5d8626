/-! ===== keptOpen: the same pipes are taken in the same order ===== -/
theorem dec_nn {a : Nat} (h : 1 ≤ a) : nI a + (-1) = nI (a - 1) := by
  rw [← sub_nn h, Int32.sub_eq_add_neg]
  rfl
theorem QQ.tr {dx dm : Option (Int32 × HP)} {hx hm hx1 hm1 : HP} (a : keX hx hx1) (b : keM hm hm1) (q : QQ dx dm hx1 hm1) : QQ dx dm hx hm := by
  obtain ⟨r, h1, h2, e1, e2, k1, k2⟩ := q
  exact ⟨r, h1, h2, e1, e2, a.tr k1, b.tr k2⟩
def jn (mk : Nat → Nat) (s g c : Nat) : Nat := if mk c = g then s else mk c
def rtc (mk : Nat → Nat) : Nat → Nat
  | 0 => 0
  | n + 1 => rtc mk n + (if mk n = n then 1 else 0)
theorem rtc_id : ∀ n, rtc (fun c => c) n = n := by
  intro n
  induction n with
  | zero => rfl
  | succ n ih => simp only [rtc, ih, if_true]
theorem rtc_le {a b : Nat → Nat} (h : ∀ c, b c = c → a c = c) : ∀ n, rtc b n ≤ rtc a n := by
  intro n
  induction n with
  | zero => exact Nat.le_refl _
  | succ n ih =>
    simp only [rtc]
    have := h n
    by_cases q : b n = n
    · rw [if_pos q, if_pos (this q)]; omega
    · rw [if_neg q]; omega
theorem rtc_lt {a b : Nat → Nat} {g : Nat} (h : ∀ c, b c = c → a c = c) (h1 : a g = g) (h2 : b g ≠ g) : ∀ n, g < n → rtc b n + 1 ≤ rtc a n := by
  intro n
  induction n with
  | zero => intro q; omega
  | succ n ih =>
    intro q
    simp only [rtc]
    by_cases e : g = n
    · subst e
      rw [if_pos h1, if_neg h2]
      have := rtc_le h g
      omega
    · have := ih (by omega)
      have := h n
      by_cases q : b n = n
      · rw [if_pos q, if_pos (this q)]; omega
      · rw [if_neg q]; omega
theorem rtc_pos {a : Nat → Nat} {g : Nat} (h1 : a g = g) : ∀ n, g < n → 1 ≤ rtc a n := by
  intro n
  induction n with
  | zero => intro q; omega
  | succ n ih =>
    intro q
    simp only [rtc]
    by_cases e : g = n
    · subst e; rw [if_pos h1]; omega
    · have := ih (by omega); omega
def LB (k : Nat) (mk : Nat → Nat) (h : HP) : Prop := ∀ c, c < 16 → h.1 k c = nI (mk c) ∧ mk c < 16
abbrev bt (A : AS) (op : Nat) (mk : Nat → Nat) (p : Nat) : Prop := op.testBit p = true ∧ mk (A 2 p) ≠ mk (A 3 p)
def bw (A : AS) (op : Nat) (mk : Nat → Nat) : Nat → Option Nat
  | 0 => none
  | p + 1 => if bt A op mk p then (match bw A op mk p with | none => some p | some b => if A 4 p ≤ A 4 b then some b else some p) else bw A op mk p
theorem bw_s (A : AS) (op : Nat) (mk : Nat → Nat) : ∀ n b, bw A op mk n = some b → b < n ∧ bt A op mk b ∧ ∀ q, q < n → bt A op mk q → A 4 q < A 4 b ∨ (A 4 q = A 4 b ∧ b ≤ q) := by
  intro n
  induction n with
  | zero => intro b h; cases h
  | succ n ih =>
    intro b h
    simp only [bw] at h
    have hn : ∀ n, bw A op mk n = none → ∀ q, q < n → ¬ bt A op mk q := by
      intro n
      induction n with
      | zero => intro _ q h; omega
      | succ n ih =>
        intro h q hq
        simp only [bw] at h
        by_cases e : bt A op mk n
        · rw [if_pos e] at h
          split at h
          · cases h
          · split at h <;> cases h
        · rw [if_neg e] at h
          by_cases e2 : q = n
          · rw [e2]; exact e
          · exact ih h q (by omega)
    by_cases e : bt A op mk n
    · rw [if_pos e] at h
      split at h
      · rename_i h0
        cases h
        refine ⟨by omega, e, fun q hq hb => ?_⟩
        by_cases e2 : q = n
        · right; subst e2; exact ⟨rfl, Nat.le_refl _⟩
        · exact absurd hb (hn n h0 q (by omega))
      · rename_i b0 h0
        obtain ⟨i1, i2, i3⟩ := ih b0 h0
        split at h
        · rename_i hle
          cases h
          refine ⟨by omega, i2, fun q hq hb => ?_⟩
          by_cases e2 : q = n
          · subst e2; omega
          · exact i3 q (by omega) hb
        · cases h
          refine ⟨by omega, e, fun q hq hb => ?_⟩
          by_cases e2 : q = n
          · right; subst e2; exact ⟨rfl, Nat.le_refl _⟩
          · have := i3 q (by omega) hb; omega
    · rw [if_neg e] at h
      obtain ⟨i1, i2, i3⟩ := ih b h
      refine ⟨by omega, i2, fun q hq hb => ?_⟩
      by_cases e2 : q = n
      · subst e2; exact absurd hb e
      · exact i3 q (by omega) hb
theorem bw_n (A : AS) (op : Nat) (mk : Nat → Nat) : ∀ n, (∃ q, q < n ∧ bt A op mk q) → bw A op mk n ≠ none := by
  intro n
  induction n with
  | zero => rintro ⟨q, h, -⟩; omega
  | succ n ih =>
    rintro ⟨q, hq, hb⟩ h
    simp only [bw] at h
    by_cases e : bt A op mk n
    · rw [if_pos e] at h
      split at h
      · cases h
      · split at h <;> cases h
    · rw [if_neg e] at h
      by_cases e2 : q = n
      · subst e2; exact e hb
      · exact ih ⟨q, by omega, hb⟩ h
section KE
variable {A : AS} {hx hm : HP} {N op : Nat} {mk : Nat → Nat}
def boI (o : Option Nat) : Int32 := match o with | some b => nI b | none => -1
theorem wbg_l (w : WFt A) (hn : A 0 1 ≤ 24) (ho : op < 2147483648) {h : HP} (t : TX A h) (l : LB 48 mk h) : ∀ n i, i ≤ A 0 1 → A 0 1 - i < n → xX3_widestBetweenGroups_4 N n (nI op) (boI (bw A op mk i)) (nI i) h = some (boI (bw A op mk (A 0 1)), h) := by
  intro n
  induction n with
  | zero => intro i _ q; omega
  | succ n ih =>
    intro i hi hq
    rw [xX3_widestBetweenGroups_4]
    simp only [t.2.1]
    by_cases e : i = A 0 1
    · rw [if_pos (by rw [e, le_nn (by omega) (by omega)]; omega), e]
    · have hp : i < A 0 1 := by omega
      obtain ⟨t1, t2, t3⟩ := t.2.2.2 i hp
      obtain ⟨w1, w2, -, -, -, -, w5⟩ := w.2 i hp
      obtain ⟨l1, l2⟩ := l _ w1
      obtain ⟨l3, l4⟩ := l _ w2
      have ih1 := ih (i + 1) (by omega) (by omega)
      simp only [bw] at ih1
      rw [if_neg (by rw [le_nn (by omega) (by omega)]; omega), ald_n (by omega) (by decide), t1, ald_n w1 (by decide), l1, ald_n (by omega) (by decide), t2, ald_n w2 (by decide), l3]
      unfold xX3_widestBetweenGroups_51 xX3_widestBetweenGroups_92 xX3_widestBetweenGroups_94
      simp only [hasBit_e (show i < 32 by omega) ho, cl_s, lt_e, nI_1]
      by_cases hb : op.testBit i = true
      · rw [hb, b2_t]
        by_cases hm : mk (A 2 i) = mk (A 3 i)
        · rw [if_neg (fun z : bt A op mk i => z.2 hm)] at ih1
          rw [if_pos (by rw [hm]), if_neg (by decide), if_pos trivial]
          exact ih1
        · rw [if_pos (⟨hb, hm⟩ : bt A op mk i)] at ih1
          rw [if_neg (by rw [eq_nn (by omega) (by omega)]; exact hm), if_neg (by decide), if_neg (by decide)]
          cases hw : bw A op mk i with
          | none =>
            rw [hw] at ih1
            rw [if_pos (show boI none = -1 from rfl)]
            exact ih1
          | some b =>
            rw [hw] at ih1
            have hbn := (bw_s A op mk i b hw).1
            obtain ⟨-, -, t5⟩ := t.2.2.2 b (by omega)
            have w6 := (w.2 b (by omega)).2.2.2.2.2.2
            rw [if_neg (show ¬ boI (some b) = -1 from nn_m1 (by omega)), ald_n (by omega) (by decide), t3, show boI (some b) = nI b from rfl, ald_n (by omega) (by decide), t5]
            by_cases hle : A 4 i ≤ A 4 b
            · rw [if_pos (by rw [le_nn (by omega) (by omega)]; exact hle)]
              simp only [hle, if_true] at ih1
              exact ih1
            · rw [if_neg (by rw [le_nn (by omega) (by omega)]; exact hle)]
              simp only [hle, if_false] at ih1
              exact ih1
      · rw [if_neg (fun z : bt A op mk i => hb z.1)] at ih1
        rw [show op.testBit i = false by simpa using hb, b2_f]
        split
        · rw [if_pos rfl]; exact ih1
        · rw [if_pos rfl]; exact ih1
theorem wbg_e (hN : 100 ≤ N) (w : WFt A) (hn : A 0 1 ≤ 24) (ho : op < 2147483648) {h : HP} (t : TX A h) (l : LB 48 mk h) : xX3_widestBetweenGroups N (nI op) h = some (boI (bw A op mk (A 0 1)), h) := by
  unfold xX3_widestBetweenGroups
  exact wbg_l (N := N) w hn ho t l N 0 (by omega) (by omega)
theorem joinX_l {s g : Nat} (hs : s < 16) (hg : g < 16) (hmk : ∀ c, c < 16 → mk c < 16) : ∀ n i h, i ≤ 16 → 16 - i < n → (∀ c, c < 16 → h.1 48 c = nI (if c < i then jn mk s g c else mk c)) → ∃ h', xX3_joinGroups_2 N n (nI s) (nI g) (nI i) h = some (0, h') ∧ keX h h' ∧ ∀ c, c < 16 → h'.1 48 c = nI (jn mk s g c) := by
  intro n
  induction n with
  | zero => intro i h _ q; omega
  | succ n ih =>
    intro i h hi hq hl
    rw [xX3_joinGroups_2]
    dsimp only
    by_cases e : i = 16
    · subst e
      refine ⟨h, by rw [if_pos (by decide)], keX.rf h, fun c hc => ?_⟩
      rw [hl c hc, if_pos hc]
    · have hc : i < 16 := by omega
      have := hmk i hc
      unfold xX3_joinGroups_25
      rw [if_neg (by rw [l16, le_nn (by decide) (by omega)]; omega), ald_n hc (by decide), hl i hc, if_neg (Nat.lt_irrefl i), lt_e, nI_1]
      by_cases q : mk i = g
      · rw [if_neg (by rw [q]; simp), ast_n hc (by decide), lt_e]
        obtain ⟨h', e1, e2, e3⟩ := ih (i + 1) (up h 48 i (nI s)) (by omega) (by omega) (fun c hc2 => by
          rw [up_at]
          by_cases ec : c = i
          · subst ec; rw [if_pos ⟨rfl, rfl⟩, if_pos (by omega), jn, if_pos q]
          · rw [if_neg (fun z => ec z.2), hl c hc2]
            by_cases e4 : c < i
            · rw [if_pos e4, if_pos (by omega)]
            · rw [if_neg e4, if_neg (by omega)])
        exact ⟨h', e1, (keX.up (by omega)).tr e2, e3⟩
      · rw [if_pos (by rw [ne_eq, eq_nn (by omega) (by omega)]; exact q)]
        exact ih (i + 1) h (by omega) (by omega) (fun c hc2 => by
          rw [hl c hc2]
          by_cases ec : c = i
          · subst ec; rw [if_neg (by omega), if_pos (by omega), jn, if_neg q]
          · by_cases e4 : c < i
            · rw [if_pos e4, if_pos (by omega)]
            · rw [if_neg e4, if_neg (by omega)])
theorem joinM_l {K : Int32 → Int32 → Int32 → HP → Option (Int32 × HP)} {s g p fr : Nat} (hs : s < 16) (hg : g < 16) (hsg : s ≠ g) (hp : p < 24) (hfr : fr < 16) (hms : mk fr = s) (hmk : ∀ c, c < 16 → mk c < 16) (a1 a2 : Int32) : ∀ n i h, i ≤ 16 → 16 - i < n → h.1 5 p = nI fr → (∀ c, c < 16 → h.1 32 c = nI (if c < i then jn mk s g c else mk c)) → ∃ h', xX11_keptOpen_102 N K n a1 a2 (nI p) (nI g) (nI i) h = K (a1 + a2) a2 (nI (p + 1)) h' ∧ keM h h' ∧ ∀ c, c < 16 → h'.1 32 c = nI (jn mk s g c) := by
  intro n
  induction n with
  | zero => intro i h _ q; omega
  | succ n ih =>
    intro i h hi hq hf hl
    rw [xX11_keptOpen_102]
    dsimp only
    unfold xX11_keptOpen_139 xX11_keptOpen_149
    by_cases e : i = 16
    · subst e
      refine ⟨h, by rw [if_pos (by decide), lt_e, lt_e, nI_1], keM.rf h, fun c hc => ?_⟩
      rw [hl c hc, if_pos hc]
    · have hc : i < 16 := by omega
      have := hmk i hc
      rw [if_neg (by rw [l16, le_nn (by decide) (by omega)]; omega), ald_n hc (by decide), hl i hc, if_neg (Nat.lt_irrefl i), lt_e, nI_1]
      by_cases q : mk i = g
      · have hfl : h.1 32 fr = nI s := by
          rw [hl fr hfr]
          have : jn mk s g fr = s := by unfold jn; rw [if_neg (by omega), hms]
          rw [this, hms, ite_self]
        rw [if_neg (by rw [q]; simp), ald_n hp (by decide), hf, ald_n hfr (by decide), hfl, ast_n hc (by decide), lt_e]
        obtain ⟨h', e1, e2, e3⟩ := ih (i + 1) (up h 32 i (nI s)) (by omega) (by omega) (by rw [up_n (by decide)]; exact hf) (fun c hc2 => by
          rw [up_at]
          by_cases ec : c = i
          · subst ec; rw [if_pos ⟨rfl, rfl⟩, if_pos (by omega), jn, if_pos q]
          · rw [if_neg (fun z => ec z.2), hl c hc2]
            by_cases e4 : c < i
            · rw [if_pos e4, if_pos (by omega)]
            · rw [if_neg e4, if_neg (by omega)])
        exact ⟨h', e1, (keM.up (by omega)).tr e2, e3⟩
      · rw [if_pos (by rw [ne_eq, eq_nn (by omega) (by omega)]; exact q)]
        exact ih (i + 1) h (by omega) (by omega) hf (fun c hc2 => by
          rw [hl c hc2]
          by_cases ec : c = i
          · subst ec; rw [if_neg (by omega), if_pos (by omega), jn, if_neg q]
          · by_cases e4 : c < i
            · rw [if_pos e4, if_pos (by omega)]
            · rw [if_neg e4, if_neg (by omega)])
/-- both sides hold the labels mk, and the rounds left do -/
def IVk (A : AS) (mk : Nat → Nat) (r : Nat) (hx hm : HP) : Prop := RX A hx ∧ RM A hm ∧ LB 48 mk hx ∧ LB 32 mk hm ∧ (∀ c, c < 16 → mk (mk c) = mk c) ∧ 1 ≤ r ∧ r ≤ 16 ∧ rtc mk 16 + r ≤ 17
theorem kept_in (hN : 100 ≤ N) (w : WF A) {W : Nat} (hW : W ≤ 99) {K : Int32 → Int32 → HP → Option (Int32 × HP)} (hK : ∀ mk r (sum : Int32) hx hm n2, IVk A mk r hx hm → 16 - r < n2 → (∀ q, q < A 0 1 → bt A (A 0 2) mk q → A 4 q < W) → QQ (xX3_widthToHold_25 N n2 (nI (A 0 2)) sum (nI r) hx) (K sum (nI (W - 1)) hm) hx hm) (h1 : 1 ≤ W) : ∀ n p mk r (sum : Int32) hx hm n2, p ≤ A 0 1 → A 0 1 - p < n → IVk A mk r hx hm → 16 - r < n2 → (∀ q, q < A 0 1 → bt A (A 0 2) mk q → A 4 q < W ∨ (A 4 q = W ∧ p ≤ q)) → QQ (xX3_widthToHold_25 N n2 (nI (A 0 2)) sum (nI r) hx) (xX11_keptOpen_32 N K n sum (nI W) (nI p) hm) hx hm := by
  have wo := op_lt w
  have wn := w.1.2.1
  intro n
  induction n with
  | zero => intro p mk r sum hx hm n2 _ q; omega
  | succ n ih =>
    intro p mk r sum hx hm n2 hp hq hI h2 hB
    obtain ⟨rx, rm, lx, lm, hid, hr1, hr2, hr3⟩ := hI
    rw [xX11_keptOpen_32]
    dsimp only
    rw [rm.1.2.1]
    by_cases e : p = A 0 1
    · subst e
      rw [if_pos (by rw [le_nn (by omega) (by omega)]; omega), lt_e, dec_nn h1]
      exact hK mk r sum hx hm n2 ⟨rx, rm, lx, lm, hid, hr1, hr2, hr3⟩ h2 (fun q hq hb => by have := hB q hq hb; omega)
    · have hp2 : p < A 0 1 := by omega
      obtain ⟨t1, t2, t3⟩ := rm.1.2.2.2 p hp2
      obtain ⟨w1, w2, w0, -, -, w4, w5⟩ := w.2.1.2 p hp2
      obtain ⟨l1, l2⟩ := lm _ w1
      obtain ⟨l3, l4⟩ := lm _ w2
      unfold xX11_keptOpen_149
      rw [if_neg (by rw [le_nn (by omega) (by omega)]; omega), isOpen_e wn rm.1 rm.2.1.2.1 (by omega), cl_s, decide_eq_true hp2, Bool.true_and, lt_e, nI_1]
      have skip : (¬ (A 4 p = W ∧ bt A (A 0 2) mk p)) → QQ (xX3_widthToHold_25 N n2 (nI (A 0 2)) sum (nI r) hx) (xX11_keptOpen_32 N K n sum (nI W) (nI (p + 1)) hm) hx hm := fun hs =>
        ih (p + 1) mk r sum hx hm n2 (by omega) (by omega) ⟨rx, rm, lx, lm, hid, hr1, hr2, hr3⟩ h2 (fun q hq hb => by
          have := hB q hq hb
          by_cases e2 : q = p
          · subst e2
            by_cases e3 : A 4 q = W
            · exact absurd ⟨e3, hb⟩ hs
            · omega
          · omega)
      by_cases hb : (A 0 2).testBit p = true
      · rw [hb, b2_t, if_neg (by decide), ald_n (by omega) (by decide), t3]
        by_cases h4 : A 4 p = W
        · rw [if_neg (by rw [h4]; simp), ald_n (by omega) (by decide), t1, ald_n w1 (by decide), l1, ald_n (by omega) (by decide), t2, ald_n w2 (by decide), l3]
          by_cases hm2 : mk (A 2 p) = mk (A 3 p)
          · rw [if_neg (by rw [hm2]; simp)]
            exact skip (fun z => z.2.2 hm2)
          · rw [if_pos (by rw [ne_eq, eq_nn (by omega) (by omega)]; exact hm2), ald_n (by omega) (by decide), t2, ald_n w2 (by decide), l3]
            have hbp : bt A (A 0 2) mk p := ⟨hb, hm2⟩
            have hmk : ∀ c, c < 16 → mk c < 16 := fun c hc => (lm c hc).2
            obtain ⟨hm', f1, f2, f3⟩ := joinM_l (N := N) (K := xX11_keptOpen_32 N K n) l2 l4 hm2 (show p < 24 by omega) w1 rfl hmk sum (nI W) N 0 hm (by omega) (by omega) t1 (fun c hc => by rw [if_neg (by omega)]; exact (lm c hc).1)
            rw [show xX11_keptOpen_102 N (xX11_keptOpen_32 N K n) N sum (nI W) (nI p) (nI (mk (A 3 p))) 0 hm = _ from f1]
            have hbest : bw A (A 0 2) mk (A 0 1) = some p := by
              cases hw : bw A (A 0 2) mk (A 0 1) with
              | none => exact absurd hw (bw_n A _ mk _ ⟨p, hp2, hbp⟩)
              | some b =>
                obtain ⟨i1, i2, i3⟩ := bw_s A _ mk _ b hw
                have j1 := hB b i1 i2
                have j2 := i3 p hp2 hbp
                have : b = p := by omega
                rw [this]
            have hid' : ∀ c, c < 16 → jn mk (mk (A 2 p)) (mk (A 3 p)) (jn mk (mk (A 2 p)) (mk (A 3 p)) c) = jn mk (mk (A 2 p)) (mk (A 3 p)) c := by
              intro c hc
              have i1 := hid _ w1
              have i2 := hid _ w2
              have i3 := hid _ hc
              unfold jn
              by_cases q1 : mk c = mk (A 3 p)
              · rw [if_pos q1, i1, if_neg hm2]
              · rw [if_neg q1, i3, if_neg q1]
            have hrt : rtc (jn mk (mk (A 2 p)) (mk (A 3 p))) 16 + 1 ≤ rtc mk 16 := by
              have i1 := hid _ w1
              have i2 := hid _ w2
              apply rtc_lt (g := mk (A 3 p)) _ i2 _ 16 l4
              · intro c hc
                unfold jn at hc
                by_cases q1 : mk c = mk (A 3 p)
                · rw [if_pos q1] at hc
                  rw [← hc] at q1
                  rw [i1] at q1
                  exact absurd q1 hm2
                · rw [if_neg q1] at hc; exact hc
              · unfold jn
                rw [i2, if_pos rfl]
                exact hm2
            have hrt2 : 1 ≤ rtc (jn mk (mk (A 2 p)) (mk (A 3 p))) 16 := by
              have i1 := hid _ w1
              apply rtc_pos (g := mk (A 2 p)) _ 16 l2
              unfold jn
              rw [i1, if_neg hm2]
            obtain ⟨m2, rfl⟩ : ∃ m2, n2 = m2 + 1 := ⟨n2 - 1, by omega⟩
            obtain ⟨u1, u2, u3⟩ := rx.1.2.2.2 p hp2
            have v1 := (lx _ w1).1
            have v2 := (lx _ w2).1
            obtain ⟨hx', g1, g2, g3⟩ := joinX_l (N := N) l2 l4 hmk N 0 hx (by omega) (by omega) (fun c hc => by rw [if_neg (by omega)]; exact (lx c hc).1)
            rw [xX3_widthToHold_25]
            dsimp only
            unfold xX3_joinGroups
            rw [if_neg (by rw [l16, le_nn (by decide) (by omega)]; omega), wbg_e hN w.2.1 wn (by omega) rx.1 lx, cl_s, hbest, if_pos (show boI (some p) ≠ -1 from nn_m1 (by omega)), show boI (some p) = nI p from rfl, ald_n (by omega) (by decide), u3, lt_e, ald_n (by omega) (by decide), u1, ald_n w1 (by decide), v1, ald_n (by omega) (by decide), u2, ald_n w2 (by decide), v2, show xX3_joinGroups_2 N N (nI (mk (A 2 p))) (nI (mk (A 3 p))) 0 hx = _ from g1, cl_s, lt_e, nI_1, h4]
            have hj16 : ∀ c, c < 16 → jn mk (mk (A 2 p)) (mk (A 3 p)) c < 16 := by
              intro c hc
              unfold jn
              split
              · exact l2
              · exact hmk c hc
            apply QQ.tr g2 f2
            apply ih (p + 1) (jn mk (mk (A 2 p)) (mk (A 3 p))) (r + 1) _ hx' hm' m2 (by omega) (by omega) ⟨g2.RX rx, f2.RM rm, fun c hc => ⟨g3 c hc, hj16 c hc⟩, fun c hc => ⟨f3 c hc, hj16 c hc⟩, hid', by omega, by omega, by omega⟩ (by omega)
            intro q hq hb
            have hb0 : bt A (A 0 2) mk q := ⟨hb.1, fun z => hb.2 (by unfold jn; rw [z])⟩
            have := hB q hq hb0
            by_cases e2 : q = p
            · subst e2
              exfalso
              apply hb.2
              unfold jn
              rw [if_neg hm2, if_pos rfl]
            · omega
        · rw [if_pos (by rw [ne_eq, eq_nn (by omega) (by omega)]; exact h4)]
          exact skip (fun z => h4 z.1)
      · rw [show (A 0 2).testBit p = false by simpa using hb, b2_f, if_pos rfl]
        exact skip (fun z => hb z.2.1)
theorem kept_out (hN : 100 ≤ N) (w : WF A) : ∀ n W mk r (sum : Int32) hx hm n2, W ≤ 99 → W < n → IVk A mk r hx hm → 16 - r < n2 → (∀ q, q < A 0 1 → bt A (A 0 2) mk q → A 4 q ≤ W) → QQ (xX3_widthToHold_25 N n2 (nI (A 0 2)) sum (nI r) hx) (xX11_keptOpen_26 N n sum (nI W) hm) hx hm := by
  have wo := op_lt w
  have wn := w.1.2.1
  intro n
  induction n with
  | zero => intro W mk r sum hx hm n2 _ q; omega
  | succ n ih =>
    intro W mk r sum hx hm n2 hW hq hI h2 hB
    rw [xX11_keptOpen_26]
    dsimp only
    by_cases e : W = 0
    · subst e
      rw [if_pos (by decide)]
      obtain ⟨rx, rm, lx, lm, hid, hr1, hr2, hr3⟩ := hI
      obtain ⟨m2, rfl⟩ : ∃ m2, n2 = m2 + 1 := ⟨n2 - 1, by omega⟩
      rw [xX3_widthToHold_25]
      dsimp only
      have hno : bw A (A 0 2) mk (A 0 1) = none := by
        cases hw : bw A (A 0 2) mk (A 0 1) with
        | none => rfl
        | some b =>
          obtain ⟨i1, i2, i3⟩ := bw_s A _ mk _ b hw
          have := hB b i1 i2
          have := (w.2.1.2 b i1).2.2.2.2.2.1
          omega
      rw [wbg_e hN w.2.1 wn (by omega) rx.1 lx, cl_s, hno, if_neg (show ¬ boI none ≠ -1 from fun z => z rfl), ite_self]
      exact QQ.rf sum rfl rfl
    · rw [if_neg (by rw [l0, le_nn (by omega) (by decide)]; omega)]
      exact kept_in hN w hW (K := xX11_keptOpen_26 N n) (fun mk r sum hx hm n2 hI h2 hB => ih (W - 1) mk r sum hx hm n2 (by omega) (by omega) hI h2 (fun q hq hb => by have := hB q hq hb; omega)) (by omega) N 0 mk r sum hx hm n2 (by omega) (by omega) hI h2 (fun q hq hb => by have := hB q hq hb; omega)
theorem keptX_0 (hN : 100 ≤ N) : ∀ n i h, i ≤ 16 → 16 - i < n → (∀ c, c < i → h.1 48 c = nI c) → ∃ h', xX3_widthToHold_2 N n (nI op) (nI i) h = xX3_widthToHold_25 N N (nI op) 0 1 h' ∧ keX h h' ∧ LB 48 (fun c => c) h' := by
  intro n
  induction n with
  | zero => intro i h _ q; omega
  | succ n ih =>
    intro i h hi hq hl
    rw [xX3_widthToHold_2]
    dsimp only
    by_cases e : i = 16
    · subst e
      exact ⟨h, by rw [if_pos (by decide)], keX.rf h, fun c hc => ⟨hl c hc, hc⟩⟩
    · rw [if_neg (by rw [l16, le_nn (by decide) (by omega)]; omega), ast_n (by omega) (by decide), lt_e, nI_1]
      obtain ⟨h', e1, e2, e3⟩ := ih (i + 1) (up h 48 i (nI i)) (by omega) (by omega) (fun c hc => by
        rw [up_at]
        by_cases ec : c = i
        · subst ec; rw [if_pos ⟨rfl, rfl⟩]
        · rw [if_neg (fun z => ec z.2)]; exact hl c (by omega))
      exact ⟨h', e1, (keX.up (by omega)).tr e2, e3⟩
theorem keptM_0 (hN : 100 ≤ N) : ∀ n i h, i ≤ 16 → 16 - i < n → (∀ c, c < i → h.1 32 c = nI c) → ∃ h', xX11_keptOpen_4 N n 0 (nI i) h = xX11_keptOpen_26 N N 0 99 h' ∧ keM h h' ∧ LB 32 (fun c => c) h' := by
  intro n
  induction n with
  | zero => intro i h _ q; omega
  | succ n ih =>
    intro i h hi hq hl
    rw [xX11_keptOpen_4]
    dsimp only
    by_cases e : i = 16
    · subst e
      exact ⟨h, by rw [if_pos (by decide)], keM.rf h, fun c hc => ⟨hl c hc, hc⟩⟩
    · rw [if_neg (by rw [l16, le_nn (by decide) (by omega)]; omega), ast_n (by omega) (by decide), lt_e, nI_1]
      obtain ⟨h', e1, e2, e3⟩ := ih (i + 1) (up h 32 i (nI i)) (by omega) (by omega) (fun c hc => by
        rw [up_at]
        by_cases ec : c = i
        · subst ec; rw [if_pos ⟨rfl, rfl⟩]
        · rw [if_neg (fun z => ec z.2)]; exact hl c (by omega))
      exact ⟨h', e1, (keM.up (by omega)).tr e2, e3⟩
theorem q_keptOpen (hN : 200 ≤ N) (w : WF A) (rx : RX A hx) (rm : RM A hm) : QQ (xX10_keptOpen N hx) (xX11_keptOpen N hm) hx hm := by
  unfold xX10_keptOpen xX3_widthToHold xX11_keptOpen
  obtain ⟨hx', e1, e2, e3⟩ := keptX_0 (N := N) (op := A 0 2) (by omega) N 0 hx (by omega) (by omega) (fun c hc => by omega)
  obtain ⟨hm', f1, f2, f3⟩ := keptM_0 (N := N) (by omega) N 0 hm (by omega) (by omega) (fun c hc => by omega)
  rw [rx.2.1.1, show xX3_widthToHold_2 N N (nI (A 0 2)) 0 hx = _ from e1, show xX11_keptOpen_4 N N 0 0 hm = _ from f1]
  have q := kept_out (N := N) (A := A) (by omega) w N 99 (fun c => c) 1 0 hx' hm' N (by omega) (by omega) ⟨e2.RX rx, f2.RM rm, e3, f3, fun _ _ => rfl, by omega, by omega, by rw [rtc_id]; decide⟩ (by omega) (fun q hq _ => (w.2.1.2 q hq).2.2.2.2.2.2)
  apply QQ.tr e2 f2
  obtain ⟨r, h1, h2, g1, g2, g3, g4⟩ := q
  exact ⟨r, h1, h2, by rw [show (1 : Int32) = nI 1 from rfl, g1, cl_s], g2, g3, g4⟩
end KE
