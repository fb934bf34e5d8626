/-! ===== what the law is told of a corner ===== -/
def mxp (S : AS) (op c : Nat) : Nat → Nat
  | 0 => 0
  | p + 1 => max (mxp S op c p) (if op.testBit p = true then (match ac S p c with | some d => S 5 d | none => 0) else 0)
def mxd (S : AS) (X : Nat) : Nat → Nat
  | 0 => 0
  | d + 1 => max (mxd S X d) (if X.testBit d = true then S 5 d else 0)
theorem mxp_le {S : AS} {op c B : Nat} : ∀ n, mxp S op c n ≤ B ↔ ∀ p d, p < n → op.testBit p = true → ac S p c = some d → S 5 d ≤ B := by
  intro n
  induction n with
  | zero => exact ⟨fun _ p d hp => by omega, fun _ => Nat.zero_le _⟩
  | succ n ih =>
    simp only [mxp]
    rw [Nat.max_le, ih]
    constructor
    · rintro ⟨h1, h2⟩ p d hp ho ha
      by_cases q : p = n
      · subst q
        rw [if_pos ho, ha] at h2
        exact h2
      · exact h1 p d (by omega) ho ha
    · intro h
      refine ⟨fun p d hp => h p d (by omega), ?_⟩
      by_cases q : op.testBit n = true
      · rw [if_pos q]
        cases ha : ac S n c with
        | none => exact Nat.zero_le _
        | some d => exact h n d (by omega) q ha
      · rw [if_neg q]; exact Nat.zero_le _
theorem mxd_le {S : AS} {X B : Nat} : ∀ n, mxd S X n ≤ B ↔ ∀ d, d < n → X.testBit d = true → S 5 d ≤ B := by
  intro n
  induction n with
  | zero => exact ⟨fun _ d hd => by omega, fun _ => Nat.zero_le _⟩
  | succ n ih =>
    simp only [mxd]
    rw [Nat.max_le, ih]
    constructor
    · rintro ⟨h1, h2⟩ d hd ho
      by_cases q : d = n
      · subst q
        rw [if_pos ho] at h2
        exact h2
      · exact h1 d (by omega) ho
    · intro h
      refine ⟨fun d hd => h d (by omega), ?_⟩
      by_cases q : X.testBit n = true
      · rw [if_pos q]; exact h n (by omega) q
      · rw [if_neg q]; exact Nat.zero_le _
theorem mx_eq {S : AS} {op c : Nat} (w : WFt S) : mxd S (nxt S op c (S 0 1)) 16 = mxp S op c (S 0 1) := by
  apply Nat.le_antisymm
  · rw [mxd_le]
    intro d _ hb
    obtain ⟨p, p1, p2, p3⟩ := (nxt_tb (S 0 1) d).mp hb
    exact (mxp_le (S 0 1)).mp (Nat.le_refl _) p d p1 p2 p3
  · rw [mxp_le]
    intro p d hp ho ha
    exact (mxd_le 16).mp (Nat.le_refl _) d (ac_lt w hp ha) ((nxt_tb (S 0 1) d).mpr ⟨p, hp, ho, ha⟩)
def fct (S : AS) (c : Nat) (i : Nat) : Int32 := match i with
  | 0 => nI c
  | 1 => nI (S 1 c)
  | 2 => nI (S 5 c)
  | 3 => nI (S 6 c)
  | 4 => nI (opn S (S 0 2) c (S 0 1))
  | 5 => nI (mxp S (S 0 2) c (S 0 1))
  | 6 => nI (S 7 c / 100)
  | 7 => nI (S 0 3 / 100)
  | 8 => nI (S 0 4 % 100)
  | _ => nI (S 0 5 % 10)
section FCT
variable {N k c : Nat} {S : AS} {h : HP}
/-- the class before the law is asked: corner c, of state k -/
def LSt (k : Nat) (S : AS) (c : Nat) (h : HP) : Prop := TX S h ∧ SXa k S h ∧ h.1 43 3 = nI k ∧ h.1 43 4 = nI c ∧ h.1 43 5 = nI (S 0 5 % 10)
theorem LSt.fW {h' : HP} (hk : k = 31 ∨ k = 39) (l : LSt k S c h) (q : fW h h') : LSt k S c h' := by
  obtain ⟨⟨t1, t2, t3, t4⟩, s, a, b, d⟩ := l
  refine ⟨⟨by rw [q.1 3 (by decide) (by decide)]; exact t1, by rw [q.1 3 (by decide) (by decide)]; exact t2, fun c hc => by rw [q.1 4 (by decide) (by decide)]; exact t3 c hc, fun p hp => by rw [q.1 5 (by decide) (by decide), q.1 6 (by decide) (by decide), q.1 7 (by decide) (by decide)]; exact t4 p hp⟩, s.keep (fun j h1 h2 => q.1 j (by omega) (by omega)), by rw [q.2 3 (by decide)]; exact a, by rw [q.2 4 (by decide)]; exact b, by rw [q.2 5 (by decide)]; exact d⟩
theorem st_k (hk : k = 31 ∨ k = 39) : isSt k := by unfold isSt; omega
theorem cl_k (hk : k = 31 ∨ k = 39) : (nI k).toNatClampNeg = k := nI_clamp (by omega)
theorem mostX_l (hk : k = 31 ∨ k = 39) (w : WF S) (l : LSt k S c h) (hc : c < 16) : ∀ n p, p ≤ S 0 1 → S 0 1 - p < n → xX8_mostBeside_4 N n (nI (mxp S (S 0 2) c p)) (nI p) h = some (nI (mxp S (S 0 2) c (S 0 1)), h) := by
  have wn := w.1.2.1
  have wo := op_lt w
  have ml : ∀ p, p ≤ S 0 1 → mxp S (S 0 2) c p ≤ 9999 := fun p hp => (mxp_le p).mpr (fun p' d h1 h2 h3 => (w.sk d (ac_lt w.2.1 (by omega) h3)).1)
  obtain ⟨t, s, a, b, d⟩ := l
  have so : ∀ c, c < 16 → h.1 (k + 1) c = nI (S 5 c) := fun c hc => (s.2.2.2.2.2.2 c hc).1
  intro n
  induction n with
  | zero => intro p _ q; omega
  | succ n ih =>
    intro p hp hq
    rw [xX8_mostBeside_4]
    dsimp only
    unfold xX8_mostBeside_61
    rw [t.2.1]
    by_cases e : p = S 0 1
    · rw [if_pos (by rw [e, le_nn (by omega) (by omega)]; omega), e]
    · have st : mxp S (S 0 2) c (p + 1) = max (mxp S (S 0 2) c p) (if (S 0 2).testBit p = true then (match ac S p c with | some d => S 5 d | none => 0) else 0) := rfl
      rw [if_neg (by rw [le_nn (by omega) (by omega)]; omega), b, across_e w.2.1 wn t (by omega) hc, cl_s, lt_e, a, cl_k hk, iok_t (st_k hk), s.1, hasBit_e (by omega) (by omega), cl_s]
      cases hb : (S 0 2).testBit p
      · rw [hb, if_neg (by decide), Nat.max_eq_left (Nat.zero_le _)] at st
        rw [b2_f, if_pos rfl, lt_e, nI_1, ← st]
        exact ih (p + 1) (by omega) (by omega)
      · rw [hb, if_pos rfl] at st
        rw [b2_t, if_neg (show ¬ (1 : Int32) = 0 from by decide)]
        cases ha : ac S p c with
        | none =>
          rw [ha] at st
          rw [acI_n ha, if_pos rfl, lt_e, nI_1, show mxp S (S 0 2) c p = mxp S (S 0 2) c (p + 1) from by rw [st]; exact (Nat.max_eq_left (Nat.zero_le _)).symm]
          exact ih (p + 1) (by omega) (by omega)
        | some d =>
          have d16 := ac_lt w.2.1 (show p < S 0 1 by omega) ha
          rw [ha] at st
          rw [acI_s ha, if_neg (nn_m1 (by omega)), lt_e, a, cl_k hk, iok_t (st_k hk), ald_n d16 (by decide), so d d16, imx_nn (by have := ml p hp; omega) (by have := (w.sk d d16).1; omega), lt_e, lt_e, nI_1, show max (mxp S (S 0 2) c p) (S 5 d) = mxp S (S 0 2) c (p + 1) from st.symm]
          exact ih (p + 1) (by omega) (by omega)
theorem letter_e (hN : 100 ≤ N) (hk : k = 31 ∨ k = 39) (w : WF S) (hc : c < 16) (l : LSt k S c h) : FcX N (fct S c) h := by
  intro i hi h' q
  have l' := l.fW hk q
  obtain ⟨t, s, a, b, d⟩ := id l'
  have wn := w.1.2.1
  have wo := op_lt w
  obtain ⟨s1, s2, s3, s4, s5, s6, s7⟩ := s
  obtain ⟨so, tu, we⟩ := s7 c hc
  obtain ⟨k1, k2, k3⟩ := w.sk c hc
  have w3 := w.1.2.2.2.1
  have w4 := w.1.2.2.2.2.1
  unfold xX8_letter
  have : i = 0 ∨ i = 1 ∨ i = 2 ∨ i = 3 ∨ i = 4 ∨ i = 5 ∨ i = 6 ∨ i = 7 ∨ i = 8 ∨ i = 9 := by omega
  rcases this with rfl | rfl | rfl | rfl | rfl | rfl | rfl | rfl | rfl | rfl
  · rw [if_neg (by decide), if_pos (by decide), b]; rfl
  · rw [if_neg (by decide), if_neg (by decide), if_pos (by decide), b, ald_n hc (by decide), t.2.2.1 c hc]; rfl
  · rw [if_neg (by decide), if_neg (by decide), if_neg (by decide), if_neg (by decide), if_neg (by decide), if_neg (by decide), if_pos (by decide), lt_e, a, cl_k hk, iok_t (st_k hk), b, ald_n hc (by decide), so]; rfl
  · rw [if_neg (by decide), if_neg (by decide), if_neg (by decide), if_neg (by decide), if_neg (by decide), if_neg (by decide), if_neg (by decide), if_neg (by decide), if_pos (by decide), lt_e, a, cl_k hk, iok_t (st_k hk), b, ald_n hc (by decide), tu]; rfl
  · rw [if_neg (by decide), if_neg (by decide), if_neg (by decide), if_neg (by decide), if_pos (by decide), lt_e, a, cl_k hk, iok_t (st_k hk), b, s1, openPipesOf_e w.2.1 wn t (by omega) hc hN, cl_s]; rfl
  · rw [if_neg (by decide), if_neg (by decide), if_neg (by decide), if_pos (by decide)]
    unfold xX8_mostBeside
    rw [show xX8_mostBeside_4 N N 0 0 h' = _ from mostX_l (N := N) hk w l' hc N 0 (by omega) (by omega), cl_s]; rfl
  · rw [if_neg (by decide), if_neg (by decide), if_neg (by decide), if_neg (by decide), if_neg (by decide), if_pos (by decide), lt_e, a, cl_k hk, iok_t (st_k hk), b, ald_n hc (by decide), we, l100, div_nn (by omega) (by decide) (by decide)]; rfl
  · rw [if_pos (by decide), lt_e, a, cl_k hk, iok_t (st_k hk), s2, l100, div_nn (by omega) (by decide) (by decide)]; rfl
  · rw [if_neg (by decide), if_neg (by decide), if_neg (by decide), if_neg (by decide), if_neg (by decide), if_neg (by decide), if_neg (by decide), if_pos (by decide), lt_e, a, cl_k hk, iok_t (st_k hk), s3, l100, rem_nn (by omega) (by decide) (by decide)]; rfl
  · rw [if_neg (by decide), if_neg (by decide), if_neg (by decide), if_neg (by decide), if_neg (by decide), if_neg (by decide), if_neg (by decide), if_neg (by decide), if_neg (by decide), d]; rfl
theorem mostM_l (hN : 100 ≤ N) (w : WF S) (t : TM S h) (s : SMa (h.1 1) S) (hc : c < 16) : ∀ n d, d ≤ 16 → 16 - d < n → xX11_mostBeyond_4 N n (nI c) (nI (mxd S (nxt S (S 0 2) c (S 0 1)) d)) (nI d) h = some (nI (mxd S (nxt S (S 0 2) c (S 0 1)) 16), h) := by
  have wn := w.1.2.1
  have xl := nxt_lt w.2.1 (S 0 2) c (S 0 1) (Nat.le_refl _)
  have ml : ∀ d, d ≤ 16 → mxd S (nxt S (S 0 2) c (S 0 1)) d ≤ 9999 := fun d hd => (mxd_le d).mpr (fun d' h1 h2 => (w.sk d' (by omega)).1)
  intro n
  induction n with
  | zero => intro d _ q; omega
  | succ n ih =>
    intro d hd hq
    rw [xX11_mostBeyond_4]
    dsimp only
    unfold xX11_mostBeyond_35
    by_cases e : d = 16
    · subst e; rw [if_pos (by decide)]
    · have st : mxd S (nxt S (S 0 2) c (S 0 1)) (d + 1) = max (mxd S (nxt S (S 0 2) c (S 0 1)) d) (if (nxt S (S 0 2) c (S 0 1)).testBit d = true then S 5 d else 0) := rfl
      rw [if_neg (by rw [l16, le_nn (by decide) (by omega)]; omega), nextTo_e w.2.1 wn t s.2.1 hc hN, cl_s, has_e (by omega) (by omega), cl_s]
      cases hb : (nxt S (S 0 2) c (S 0 1)).testBit d
      · rw [hb, if_neg (by decide), Nat.max_eq_left (Nat.zero_le _)] at st
        rw [b2_f, if_pos rfl, lt_e, nI_1, ← st]
        exact ih (d + 1) (by omega) (by omega)
      · rw [hb, if_pos rfl] at st
        rw [b2_t, if_neg (show ¬ (1 : Int32) = 0 from by decide), l0, add_nn, Nat.zero_add, ald_n (by omega) (by decide), (s.1 d (by omega)).1, maxM_e (by have := ml d hd; omega) (by have := (w.sk d (by omega)).1; omega), cl_s, lt_e, nI_1, ← st]
        exact ih (d + 1) (by omega) (by omega)
end FCT
