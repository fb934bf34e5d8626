/-! ===== the reference's laysSteps: a queue ===== -/
abbrev ak (op : Nat) (wo : Int32) : Nat → Bool := fun p => op.testBit p && decide (nI p ≠ wo)
def fI (v : Nat) : Int32 := if v = 100 then -2 else nI v
def qm (q : Nat → Nat) : Nat → Nat
  | 0 => 0
  | j + 1 => qm q j ||| 2 ^ q j
theorem qm_tb (q : Nat → Nat) : ∀ n x, (qm q n).testBit x = true ↔ ∃ j, j < n ∧ q j = x := by
  intro n
  induction n with
  | zero => intro x; simp [qm]
  | succ n ih =>
    intro x
    simp only [qm, Nat.testBit_or, Bool.or_eq_true, ih, Nat.testBit_two_pow, decide_eq_true_iff]
    constructor
    · rintro (⟨j, h1, h2⟩ | h)
      · exact ⟨j, by omega, h2⟩
      · exact ⟨n, by omega, h⟩
    · rintro ⟨j, h1, h2⟩
      by_cases e : j = n
      · subst e; exact Or.inr h2
      · exact Or.inl ⟨j, by omega, h2⟩
theorem pc_one : ∀ a, a < 16 → pc (2 ^ a) 16 = 1 := by decide +kernel
theorem qm_pc (q : Nat → Nat) : ∀ n, (∀ j, j < n → q j < 16) → (∀ a b, a < n → b < n → q a = q b → a = b) → pc (qm q n) 16 = n := by
  intro n
  induction n with
  | zero => intro _ _; exact pc_zero 16
  | succ n ih =>
    intro h1 h2
    simp only [qm]
    rw [pc_or 16, ih (fun j hj => h1 j (by omega)) (fun a b ha hb => h2 a b (by omega) (by omega)), pc_one _ (h1 n (by omega))]
    rintro i _ ⟨q1, q2⟩
    obtain ⟨j, j1, j2⟩ := (qm_tb q n i).mp q1
    rw [Nat.testBit_two_pow, decide_eq_true_iff] at q2
    have := h2 j n (by omega) (by omega) (by rw [j2, q2])
    omega
/-- a queue on its way: m in it, the k-th is looked at, its first i pipes are done -/
def BI (A : AS) (act : Nat → Bool) (c m k i : Nat) (q f : Nat → Nat) : Prop :=
  (m ≤ 16 ∧ 1 ≤ m ∧ q 0 = c ∧ f c = 0) ∧ (∀ j, j < m → q j < 16 ∧ f (q j) ≤ j) ∧ (∀ x, x < 16 → f x = 100 ∨ ∃ j, j < m ∧ q j = x) ∧ (∀ a b, a < m → b < m → q a = q b → a = b) ∧ (∀ x, x < 16 → f x ≠ 100 → rc A act c (f x) x) ∧ (∀ a b, a ≤ b → b < m → f (q a) ≤ f (q b)) ∧ (k < m → ∀ j, j < m → f (q j) ≤ f (q k) + 1) ∧ (∀ j, j < k → j < m → ∀ y, ad A act (q j) y → f y ≤ f (q j) + 1) ∧ (k < m → ∀ p, p < i → p < A 0 1 → act p = true → ∀ y, ac A p (q k) = some y → f y ≤ f (q k) + 1)
section BF
variable {A : AS} {N c op : Nat} {act : Nat → Bool} {wo : Int32}
theorem BI.push (w : WFt A) {m k i y : Nat} {q f : Nat → Nat} (h : BI A act c m k i q f) (hk : k < m) (hi : i < A 0 1) (ha : act i = true) (hy : ac A i (q k) = some y) (hf : f y = 100) : m < 16 ∧ BI A act c (m + 1) k (i + 1) (upN q m y) (upN f y (f (q k) + 1)) := by
  obtain ⟨⟨a1, a2, a3, a4⟩, b, c', d, e, g, l, o, r⟩ := h
  have hy16 := ac_lt w hi hy
  have hnq : ∀ j, j < m → q j ≠ y := fun j hj z => by
    have := (b j hj).2
    rw [z, hf] at this
    omega
  have qj : ∀ j, j < m → upN q m y j = q j := fun j hj => by unfold upN; rw [if_neg (by omega)]
  have qm' : upN q m y m = y := by unfold upN; rw [if_pos rfl]
  have fx : ∀ x, x ≠ y → upN f y (f (q k) + 1) x = f x := fun x hx => by unfold upN; rw [if_neg hx]
  have fy : upN f y (f (q k) + 1) y = f (q k) + 1 := by unfold upN; rw [if_pos rfl]
  have fj : ∀ j, j < m → upN f y (f (q k) + 1) (upN q m y j) = f (q j) := fun j hj => by rw [qj j hj, fx _ (hnq j hj)]
  have fm : upN f y (f (q k) + 1) (upN q m y m) = f (q k) + 1 := by rw [qm', fy]
  have dist' : ∀ a b, a < m + 1 → b < m + 1 → upN q m y a = upN q m y b → a = b := by
    intro s t hs ht z
    by_cases s1 : s = m
    · by_cases t1 : t = m
      · omega
      · rw [s1, qm', qj t (by omega)] at z
        exact absurd z.symm (hnq t (by omega))
    · by_cases t1 : t = m
      · rw [t1, qm', qj s (by omega)] at z
        exact absurd z (hnq s (by omega))
      · rw [qj s (by omega), qj t (by omega)] at z
        exact d s t (by omega) (by omega) z
  have lt16 : ∀ j, j < m + 1 → upN q m y j < 16 := by
    intro j hj
    by_cases s1 : j = m
    · rw [s1, qm']; exact hy16
    · rw [qj j (by omega)]; exact (b j (by omega)).1
  have hm : m < 16 := by
    have := qm_pc (upN q m y) (m + 1) lt16 dist'
    have := pc_le (qm (upN q m y) (m + 1)) 16
    omega
  have hmono : ∀ x, f x ≠ 100 → x ≠ y := fun x hx z => hx (by rw [z, hf])
  have mon : ∀ x n, f x ≤ n → n < 100 → upN f y (f (q k) + 1) x ≤ n := fun x n hx hn => by
    rw [fx x (hmono x (by omega))]; exact hx
  have bk := (b k hk).2
  refine ⟨hm, ⟨by omega, by omega, by rw [qj 0 (by omega)]; exact a3, by rw [fx c (hmono c (by omega))]; exact a4⟩, fun j hj => ⟨lt16 j hj, ?_⟩, fun x hx => ?_, dist', fun x hx hne => ?_, fun s t hst ht => ?_, fun _ j hj => ?_, fun j hj hj2 z hz => ?_, fun _ p hp hp2 hact z hz => ?_⟩
  · by_cases s1 : j = m
    · rw [s1, fm]; omega
    · rw [fj j (by omega)]; exact (b j (by omega)).2
  · by_cases x1 : x = y
    · exact Or.inr ⟨m, by omega, by rw [qm', x1]⟩
    · rw [fx x x1]
      rcases c' x hx with z | ⟨j, j1, j2⟩
      · exact Or.inl z
      · exact Or.inr ⟨j, by omega, by rw [qj j j1, j2]⟩
  · by_cases x1 : x = y
    · rw [x1, fy]
      have hr := e (q k) (b k hk).1 (by omega)
      exact Or.inr ⟨q k, hr, i, hi, ha, hy⟩
    · rw [fx x x1] at hne ⊢
      exact e x hx hne
  · by_cases t1 : t = m
    · rw [t1, fm]
      by_cases s1 : s = m
      · rw [s1, fm]; exact Nat.le_refl _
      · rw [fj s (by omega)]; exact l hk s (by omega)
    · rw [fj s (by omega), fj t (by omega)]; exact g s t hst (by omega)
  · rw [fj k hk]
    by_cases s1 : j = m
    · rw [s1, fm]; exact Nat.le_refl _
    · rw [fj j (by omega)]; exact l hk j (by omega)
  · have hjm : j < m := by omega
    rw [fj j hjm]
    rw [qj j hjm] at hz
    have := (b j hjm).2
    exact mon z _ (o j hj hjm z hz) (by omega)
  · rw [fj k hk]
    rw [qj k hk] at hz
    by_cases p1 : p = i
    · rw [p1, hy] at hz
      cases hz
      rw [fy]; exact Nat.le_refl _
    · exact mon z _ (r hk p (by omega) hp2 hact z hz) (by omega)
theorem BI.next {m k i : Nat} {q f : Nat → Nat} (h : BI A act c m k i q f) (hi : i < A 0 1) (hz : k < m → act i = true → ∀ y, ac A i (q k) = some y → f y ≤ f (q k) + 1) : BI A act c m k (i + 1) q f := by
  obtain ⟨a, b, c', d, e, g, l, o, r⟩ := h
  refine ⟨a, b, c', d, e, g, l, o, fun hk p hp hp2 hact y hy => ?_⟩
  by_cases p1 : p = i
  · subst p1; exact hz hk hact y hy
  · exact r hk p (by omega) hp2 hact y hy
theorem BI.seen (w : WFt A) {m k i y : Nat} {q f : Nat → Nat} (h : BI A act c m k i q f) (hk : k < m) (hy : y < 16) (hf : f y ≠ 100) : f y ≤ f (q k) + 1 := by
  obtain ⟨a, b, c', d, e, g, l, o, r⟩ := h
  rcases c' y hy with z | ⟨j, j1, j2⟩
  · exact absurd z hf
  · rw [← j2]; exact l hk j j1
theorem BI.up {m k : Nat} {q f : Nat → Nat} (h : BI A act c m k (A 0 1) q f) (hk : k < m) : BI A act c m (k + 1) 0 q f := by
  obtain ⟨a, b, c', d, e, g, l, o, r⟩ := h
  refine ⟨a, b, c', d, e, g, fun hk1 j hj => ?_, fun j hj hjm y hy => ?_, fun _ p hp => by omega⟩
  · have h1 := l hk j hj
    have h2 := g k (k + 1) (by omega) hk1
    omega
  · by_cases j1 : j = k
    · subst j1
      obtain ⟨p, p1, p2, p3⟩ := hy
      exact r hk p p1 p1 p2 y p3
    · exact o j (by omega) hjm y hy
theorem BI.end (w : WFt A) (hc : c < 16) {m i : Nat} {q f : Nat → Nat} (h : BI A act c m m i q f) : ∀ d, d < 16 → isDs A act c d (fI (f d)) := by
  obtain ⟨⟨a1, a2, a3, a4⟩, b, c', d', e, g, l, o, r⟩ := h
  have low : ∀ n x, rc A act c n x → f x ≤ n := by
    intro n
    induction n with
    | zero => intro x hx; rw [show x = c from hx, a4]; exact Nat.le_refl _
    | succ n ih =>
      intro x hx
      rcases hx with hx | ⟨y, hy, hyx⟩
      · have := ih x hx; omega
      · have h1 := ih y hy
        have hy16 : y < 16 := rc_lt w hc n y hy
        rcases c' y hy16 with z | ⟨j, j1, j2⟩
        · have h15 := rc15 w hc hy
          -- y is not in the queue, but it is near: impossible, by the least way to it
          exact absurd z (by
            have : ∀ t x, rc A act c t x → f x ≠ 100 := by
              intro t
              induction t with
              | zero => intro x hx; rw [show x = c from hx, a4]; omega
              | succ t iht =>
                intro x hx
                rcases hx with hx | ⟨u, hu, hux⟩
                · exact iht x hx
                · have hu16 := rc_lt w hc t u hu
                  rcases c' u hu16 with z2 | ⟨j, j1, j2⟩
                  · exact absurd z2 (iht u hu)
                  · have := o j j1 j1 x (by rw [j2]; exact hux)
                    have := (b j j1).2
                    omega
            exact this n y hy)
        · have := o j j1 j1 x (by rw [j2]; exact hyx)
          rw [j2] at this
          omega
  intro x hx
  by_cases z : f x = 100
  · right
    refine ⟨by unfold fI; rw [if_pos z], fun n hr => ?_⟩
    have := low 15 x (rc15 w hc hr)
    omega
  · left
    have h15 : f x < 16 := by
      rcases c' x hx with z2 | ⟨j, j1, j2⟩
      · exact absurd z2 z
      · have := (b j j1).2
        rw [j2] at this
        omega
    exact ⟨f x, h15, by unfold fI; rw [if_neg z], e x hx z, fun j hj hr => by have := low j x hr; omega⟩
/-- the cells of the queue -/
def QH (c m : Nat) (q f : Nat → Nat) (h0 h : HP) : Prop := (∀ k, k ≠ 0 → k ≠ 28 → k ≠ 29 → h.1 k = h0.1 k) ∧ (∀ j, j ≠ 44 → h.1 0 j = h0.1 0 j) ∧ (∀ j, j < 16 * c ∨ 16 * c + 16 ≤ j → h.1 29 j = h0.1 29 j) ∧ h.1 0 44 = nI m ∧ (∀ j, j < m → h.1 28 j = nI (q j)) ∧ ∀ x, x < 16 → h.1 29 (16 * c + x) = fI (f x)
theorem QH.TM {m : Nat} {q f : Nat → Nat} {h0 h : HP} (s : QH c m q f h0 h) (t : TM A h0) : TM A h := by
  obtain ⟨t1, t2, t3, t4⟩ := t
  obtain ⟨s1, s2, -⟩ := s
  exact ⟨by rw [s2 7 (by decide)]; exact t1, by rw [s2 8 (by decide)]; exact t2, fun c hc => by rw [s1 4 (by decide) (by decide) (by decide)]; exact t3 c hc, fun p hp => by rw [s1 5 (by decide) (by decide) (by decide), s1 6 (by decide) (by decide) (by decide), s1 7 (by decide) (by decide) (by decide)]; exact t4 p hp⟩
theorem bfs_in {k : Nat} {h0 : HP} {K : Int32 → Int32 → Int32 → HP → Option (Int32 × HP)} {P : Option (Int32 × HP) → Prop} (w : WFt A) (hn : A 0 1 ≤ 24) (t0 : TM A h0) (s0 : ∀ p, p < A 0 1 → h0.1 1 (48 + p) = nI (op / 2 ^ p % 2)) (hc : c < 16) (hK : ∀ h m q f, QH c m q f h0 h → k < m → BI A (ak op wo) c m k (A 0 1) q f → P (K (nI c) wo (nI (k + 1)) h)) : ∀ n i h m q f, i ≤ A 0 1 → A 0 1 - i < n → QH c m q f h0 h → k < m → BI A (ak op wo) c m k i q f → P (xX11_laysSteps_64 N K n (nI c) wo (nI k) (nI i) h) := by
  intro n
  induction n with
  | zero => intro i h m q f _ z; omega
  | succ n ih =>
    intro i h m q f hi hq hQ hk hB
    have t := hQ.TM t0
    have hQ0 := hQ
    obtain ⟨s1, s2, s3, s4, s5, s6⟩ := hQ
    have s : ∀ p, p < A 0 1 → h.1 1 (48 + p) = nI (op / 2 ^ p % 2) := fun p hp => by rw [s1 1 (by decide) (by decide) (by decide)]; exact s0 p hp
    rw [xX11_laysSteps_64]
    dsimp only
    rw [t.2.1]
    by_cases e : i = A 0 1
    · rw [if_pos (by rw [e, le_nn (by omega) (by omega)]; omega), lt_e, nI_1]
      exact hK h m q f hQ0 hk (e ▸ hB)
    · have hp : i < A 0 1 := by omega
      have hm16 := hB.1.1
      have hqk := (hB.2.1 k hk).1
      have hfk := (hB.2.1 k hk).2
      rw [if_neg (by rw [le_nn (by omega) (by omega)]; omega)]
      unfold xX11_laysSteps_95 xX11_laysSteps_174
      simp only [lt_e, nI_1]
      have skip : (ak op wo i = true → ∀ y, ac A i (q k) = some y → f y ≤ f (q k) + 1) → P (xX11_laysSteps_64 N K n (nI c) wo (nI k) (nI (i + 1)) h) := fun z => ih (i + 1) h m q f (by omega) (by omega) hQ0 hk (hB.next hp (fun _ => z))
      by_cases q1 : nI i = wo
      · rw [if_neg (fun z => z q1), if_pos trivial]
        exact skip (fun z => by simp [q1] at z)
      · rw [if_pos q1, ald_n (by omega) (by decide), s5 k hk, beyond_e w hn t s hp hqk, cl_s]
        cases hb : op.testBit i
        · rw [byI_f hb, if_pos rfl]
          exact skip (fun z => by simp [hb] at z)
        · rw [byI_t hb]
          cases ha : ac A i (q k) with
          | none =>
            rw [acI_n ha, if_pos rfl]
            exact skip (fun _ y hy => by rw [ha] at hy; cases hy)
          | some y =>
            have hy16 := ac_lt w hp ha
            have e16 : ∀ x, (16 : Int32) * nI c + nI x = nI (16 * c + x) := fun x => by rw [l16, mul_nn, add_nn]
            rw [acI_s ha, if_neg (nn_m1 (by omega)), e16, ald_n (by omega) (by decide), s6 y hy16]
            by_cases hf : f y = 100
            · rw [if_pos (by unfold fI; rw [if_pos hf]), ald_n (by omega) (by decide), s5 k hk, e16, ald_n (by omega) (by decide), s6 _ hqk, ast_n (by omega) (by decide), up_n (by decide), s4]
              obtain ⟨hm, hB2⟩ := hB.push w hk hp (by simp [hb, q1]) ha hf
              rw [ast_n hm (by decide), up_n (by decide), up_n (by decide), s4, nI_1]
              have efk : fI (f (q k)) + 1 = nI (f (q k) + 1) := by unfold fI; rw [if_neg (by omega), nI_1]
              rw [efk]
              refine ih (i + 1) _ (m + 1) _ _ (by omega) (by omega) ⟨fun z h1 h2 h3 => ?_, fun j hj => ?_, fun j hj => ?_, ?_, fun j hj => ?_, fun x hx => ?_⟩ (by omega) hB2
              · rw [up_n h1, up_n h2, up_n h3]; exact s1 z h1 h2 h3
              · rw [up_at, if_neg (by omega), up_n (by decide), up_n (by decide)]; exact s2 j hj
              · rw [up_n (by decide), up_n (by decide), up_at, if_neg (by omega)]; exact s3 j hj
              · rw [up_at, if_pos ⟨rfl, rfl⟩]
              · rw [up_n (by decide), up_at]
                unfold upN
                by_cases j1 : j = m
                · rw [if_pos ⟨rfl, j1⟩, if_pos j1]
                · rw [if_neg (fun z => j1 z.2), if_neg j1, up_n (by decide)]; exact s5 j (by omega)
              · rw [up_n (by decide), up_n (by decide), up_at]
                unfold upN
                by_cases x1 : x = y
                · rw [if_pos ⟨rfl, by omega⟩, if_pos x1]
                  unfold fI
                  rw [if_neg (by omega)]
                · rw [if_neg (by omega), if_neg x1]; exact s6 x hx
            · rw [if_neg (by
                unfold fI
                rw [if_neg hf]
                have := hB.seen w hk hy16 hf
                exact nn_m2 (by omega))]
              exact skip (fun _ z hz => by rw [ha] at hz; cases hz; exact hB.seen w hk hy16 hf)
theorem bfs_l {h0 : HP} (hN : 100 ≤ N) (w : WFt A) (hn : A 0 1 ≤ 24) (t0 : TM A h0) (s0 : ∀ p, p < A 0 1 → h0.1 1 (48 + p) = nI (op / 2 ^ p % 2)) (hc : c < 16) : ∀ n k h m q f, k ≤ 16 → 16 - k < n → QH c m q f h0 h → k ≤ m → BI A (ak op wo) c m k 0 q f → ∃ h' m' q' f', xX11_laysSteps_53 N n (nI c) wo (nI k) h = some (0, h') ∧ QH c m' q' f' h0 h' ∧ ∀ d, d < 16 → isDs A (ak op wo) c d (fI (f' d)) := by
  intro n
  induction n with
  | zero => intro k h m q f _ z; omega
  | succ n ih =>
    intro k h m q f hk16 hq hQ hk hB
    have hm16 := hB.1.1
    rw [xX11_laysSteps_53]
    dsimp only
    rw [hQ.2.2.2.1]
    by_cases e : k = m
    · subst e
      rw [if_pos (by rw [le_nn (by omega) (by omega)]; omega)]
      exact ⟨h, k, q, f, rfl, hQ, hB.end w hc⟩
    · rw [if_neg (by rw [le_nn (by omega) (by omega)]; omega)]
      refine bfs_in (N := N) (op := op) (wo := wo) (k := k) (h0 := h0) (P := fun o => ∃ h' m' q' f', o = some (0, h') ∧ QH c m' q' f' h0 h' ∧ ∀ d, d < 16 → isDs A (ak op wo) c d (fI (f' d))) w hn t0 s0 hc (fun h1 m1 q1 f1 Q1 k1 B1 => ?_) N 0 h m q f (by omega) (by omega) hQ (by omega) hB
      exact ih (k + 1) h1 m1 q1 f1 (by omega) (by omega) Q1 (by omega) (B1.up k1)
theorem laysSteps_e {h : HP} (hN : 100 ≤ N) (w : WFt A) (hn : A 0 1 ≤ 24) (t0 : TM A h) (s0 : ∀ p, p < A 0 1 → h.1 1 (48 + p) = nI (op / 2 ^ p % 2)) (hc : c < 16) (wo : Int32) : ∃ h', xX11_laysSteps N (nI c) wo h = some (0, h') ∧ (∀ k, k ≠ 0 → k ≠ 28 → k ≠ 29 → h'.1 k = h.1 k) ∧ (∀ j, j ≠ 44 → h'.1 0 j = h.1 0 j) ∧ (∀ j, j < 16 * c ∨ 16 * c + 16 ≤ j → h'.1 29 j = h.1 29 j) ∧ ∀ d, d < 16 → isDs A (ak op wo) c d (h'.1 29 (16 * c + d)) := by
  have e16 : ∀ x, (16 : Int32) * nI c + nI x = nI (16 * c + x) := fun x => by rw [l16, mul_nn, add_nn]
  have loop : ∀ n i g, i ≤ 16 → 16 - i < n → (∀ k, k ≠ 29 → g.1 k = h.1 k) → (∀ j, j < 16 * c ∨ 16 * c + 16 ≤ j → g.1 29 j = h.1 29 j) → (∀ x, x < i → g.1 29 (16 * c + x) = -2) → ∃ h' m' q' f', xX11_laysSteps_2 N n (nI c) wo (nI i) g = some (0, h') ∧ QH c m' q' f' h h' ∧ ∀ d, d < 16 → isDs A (ak op wo) c d (fI (f' d)) := by
    intro n
    induction n with
    | zero => intro i g _ z; omega
    | succ n ih =>
      intro i g hi hq g1 g2 g3
      rw [xX11_laysSteps_2]
      dsimp only
      by_cases e : i = 16
      · subst e
        rw [if_pos (by decide), e16, ast_n (by omega) (by decide), l0, ast_n (by decide) (by decide), lt_e]
        refine bfs_l (N := N) (op := op) (wo := wo) (h0 := h) hN w hn t0 s0 hc N 0 _ 1 (fun _ => c) (fun x => if x = c then 0 else 100) (by omega) (by omega) ⟨fun k h1 h2 h3 => ?_, fun j hj => ?_, fun j hj => ?_, ?_, fun j hj => ?_, fun x hx => ?_⟩ (by omega) ⟨⟨by omega, by omega, rfl, by simp⟩, fun j hj => ⟨hc, by simp⟩, fun x hx => ?_, fun a b ha hb _ => by omega, fun x hx hne => ?_, fun a b _ hb => by simp, fun _ j hj => by simp, fun j hj => by omega, fun _ p hp => by omega⟩
        · rw [up_n h1, up_n h2, up_n h3]; exact g1 k h3
        · rw [up_at, if_neg (by omega), up_n (by decide), up_n (by decide), g1 0 (by decide)]
        · rw [up_n (by decide), up_n (by decide), up_at, if_neg (by omega)]; exact g2 j hj
        · rw [up_at, if_pos ⟨rfl, rfl⟩]; rfl
        · rw [up_n (by decide), up_at, if_pos ⟨rfl, by omega⟩]
        · rw [up_n (by decide), up_n (by decide), up_at]
          dsimp only
          by_cases x1 : x = c
          · rw [if_pos ⟨rfl, by omega⟩, if_pos x1]; rfl
          · rw [if_neg (by omega), if_neg x1, g3 x hx]; rfl
        · by_cases x1 : x = c
          · exact Or.inr ⟨0, by omega, x1.symm⟩
          · exact Or.inl (by dsimp only; rw [if_neg x1])
        · dsimp only at hne ⊢
          by_cases x1 : x = c
          · rw [if_pos x1]; exact x1
          · rw [if_neg x1] at hne; exact absurd rfl hne
      · rw [if_neg (by rw [l16, le_nn (by decide) (by omega)]; omega), e16, ast_n (by omega) (by decide), lt_e, nI_1]
        refine ih (i + 1) _ (by omega) (by omega) (fun k hk => by rw [up_n hk]; exact g1 k hk) (fun j hj => by rw [up_at, if_neg (by omega)]; exact g2 j hj) (fun x hx => ?_)
        rw [up_at]
        by_cases x1 : x = i
        · rw [if_pos ⟨rfl, by omega⟩]
        · rw [if_neg (by omega)]; exact g3 x (by omega)
  unfold xX11_laysSteps
  obtain ⟨h', m', q', f', e1, ⟨s1, s2, s3, s4, s5, s6⟩, d1⟩ := loop N 0 h (by omega) (by omega) (fun _ _ => rfl) (fun _ _ => rfl) (fun x hx => by omega)
  exact ⟨h', e1, s1, s2, s3, fun d hd => by rw [s6 d hd]; exact d1 d hd⟩
theorem ak_am (hn : A 0 1 ≤ 24) : ∀ p, p < A 0 1 → ak op (-1) p = am op p := by
  intro p hp
  show (op.testBit p && decide (nI p ≠ -1)) = op.testBit p
  rw [decide_eq_true (nn_m1 (by omega)), Bool.and_true]
theorem ak_wop (hn : A 0 1 ≤ 24) {p : Nat} (hp : p < 24) : ∀ q, q < A 0 1 → ak op (nI p) q = am (wop op p) q := by
  intro q hq
  show (op.testBit q && decide (nI q ≠ nI p)) = (wop op p).testBit q
  rw [wop_tb (by omega) (by omega)]
  congr 1
  rw [decide_eq_decide, ne_eq, ne_eq, eq_nn (by omega) (by omega)]
end BF
