section LQ
variable {A : AS} {hx hm : HP} {N op c0 : Nat}
theorem lowestOf_l {M k : Nat} (hl : isLow M k) (hk : k < 16) (hM : M < 65536) (h : HP) : ∀ n i, i ≤ k → k - i < n → xX11_lowestOf_2 N n (nI M) (nI i) h = some (nI k, h) := by
  intro n
  induction n with
  | zero => intro i _ q; omega
  | succ n ih =>
    intro i hi hq
    rw [xX11_lowestOf_2]
    dsimp only
    rw [has_e (by omega) (by omega), cl_s]
    by_cases e : i = k
    · subst e; rw [hl.1, b2_t, if_pos (by decide)]
    · rw [hl.2 i (by omega), b2_f, if_neg (by decide), lt_e, nI_1]
      exact ih (i + 1) (by omega) (by omega)
theorem TM.fr {h h' : HP} (k : ∀ k, k ≠ 33 → h'.1 k = h.1 k) (t : TM A h) : TM A h' := by
  obtain ⟨t1, t2, t3, t4⟩ := t
  exact ⟨by rw [k 0 (by decide)]; exact t1, by rw [k 0 (by decide)]; exact t2, fun c hc => by rw [k 4 (by decide)]; exact t3 c hc, fun p hp => by rw [k 5 (by decide), k 6 (by decide), k 7 (by decide)]; exact t4 p hp⟩
theorem lo63 (hN : 100000 ≤ N) (w : WFt A) (hn : A 0 1 ≤ 24) (hc : c0 < 16) (a2 : Int32) : ∀ n i B M L h, i ≤ 65536 → 65536 - i < n → TM A h → (∀ p, p < A 0 1 → h.1 1 (48 + p) = nI (op / 2 ^ p % 2)) → AH (en (fN A op) c0 i) h → BLo (fN A op) c0 i B M L → ∃ L' e' h', xX11_longest_63 N n a2 (nI B) (nI M) (nI i) h = some (if a2 ≠ 0 then nI e' else nI L', h') ∧ (∀ k, k ≠ 33 → h'.1 k = h.1 k) ∧ isBest (fN A op) c0 L' e' := by
  have hf : ∀ c, c < 16 → fN A op c < 65536 := fun c _ => nxt_lt w op c _ (Nat.le_refl _)
  intro n
  induction n with
  | zero => intro i B M L h _ q; omega
  | succ n ih =>
    intro i B M L h hi hq t s ha hb
    have hb0 := hb
    obtain ⟨b1, b2, b3, b4, b5, b6⟩ := hb
    rw [xX11_longest_63]
    dsimp only
    unfold xX11_longest_257
    by_cases e : i = 65536
    · subst e
      obtain ⟨k, hk, hl⟩ := low_ex (n := 16) b2 b6
      have pl := pc_le B 16
      rw [if_pos (by decide)]
      unfold xX11_lowestOf
      rw [show xX11_lowestOf_2 N N (nI M) 0 h = _ from lowestOf_l (N := N) hl hk b2 h N 0 (by omega) (by omega), cl_s, bits_e (by omega) (by omega), cl_s, b3, l1, sub_nn (by omega)]
      refine ⟨L, k, h, ?_, fun _ _ => rfl, ?_, ?_⟩
      · rw [show L + 1 - 1 = L by omega]; split <;> rfl
      · obtain ⟨S, -, z⟩ := (b4 k).mp hl.1
        have := bk_fw L S k z 0 k rfl
        rw [Nat.add_zero] at this
        exact this
      · intro m d hfw
        obtain ⟨S, hS⟩ := fw_bk m (2 ^ c0) c0 d 0 ⟨rfl, rfl⟩ hfw
        rw [Nat.zero_add] at hS
        have S16 := (bk_ok hf hc m S d hS).1
        have := b5 m S d S16 hS
        by_cases q : m = L
        · subst q
          refine Or.inr ⟨rfl, ?_⟩
          have md := (b4 d).mpr ⟨S, Or.inl S16, hS⟩
          rcases Nat.lt_or_ge d k with z | z
          · rw [hl.2 d z] at md; cases md
          · exact z
        · exact Or.inl (by omega)
    · have i16 : i < 65536 := by omega
      obtain ⟨v, v1, v2, v3⟩ := ha i i16
      have vd : ∀ d, v.testBit d = true ↔ ∃ k, bk (fN A op) c0 k i d := fun d => by rw [v3, en_bk (Nat.le_refl _)]
      have kp : ∀ k d, bk (fN A op) c0 k i d → pc i 16 = k + 1 := fun k d z => (bk_ok hf hc k i d z).2.2.2
      rw [if_neg (by rw [l65536, le_nn (by decide) (by omega)]; omega), ald_n i16 (by decide), v1]
      by_cases q0 : v = 0
      · have no : ∀ k d, ¬ bk (fN A op) c0 k i d := fun k d z => by
          have := (vd d).mpr ⟨k, z⟩
          rw [q0] at this; simp at this
        rw [if_neg (by rw [q0]; exact fun z => z rfl)]
        unfold xX11_longest_233
        rw [lt_e, nI_1]
        obtain ⟨L', e', h', g1, g2, g3⟩ := ih (i + 1) B M L h (by omega) (by omega) t s (ha.cg (fun S d => by
          constructor
          · rintro (z | ⟨T, e, k, z1, z2⟩)
            · exact Or.inl z
            · exact Or.inr ⟨T, e, k, by omega, z2⟩
          · rintro (z | ⟨T, e1, k, z1, z2, z3⟩)
            · exact Or.inl z
            · by_cases q : T = i
              · subst q; exact absurd z2 (no k e1)
              · exact Or.inr ⟨T, e1, k, by omega, z2, z3⟩)) (hb0.skip (fun k d z => absurd z (no k d)))
        exact ⟨L', e', h', g1, g2, g3⟩
      · -- it is a walk's set
        obtain ⟨x, -, hl⟩ := low_ex (n := 16) v2 q0
        obtain ⟨k0, hk0⟩ := (vd x).mp hl.1
        have pk := kp k0 x hk0
        have kall : ∀ k d, bk (fN A op) c0 k i d → k = k0 := fun k d z => by have := kp k d z; omega
        have pli := pc_le i 16
        have plb := pc_le B 16
        have step : ∀ B' M' L', BLo (fN A op) c0 (i + 1) B' M' L' → ∃ L' e' h', xX11_longest_125 N (xX11_longest_63 N n) a2 (nI B') (nI M') (nI i) h = some (if a2 ≠ 0 then nI e' else nI L', h') ∧ (∀ k, k ≠ 33 → h'.1 k = h.1 k) ∧ isBest (fN A op) c0 L' e' := by
          intro B' M' L' hB
          unfold xX11_longest_125
          obtain ⟨h1, f1, f2, f3⟩ := lo128 (N := N) (K := xX11_longest_63 N n) (A := A) (op := op) (by omega) w hn i16 v2 a2 (nI B') (nI M') N 0 _ h (by omega) (by omega) t s v1 ha
          rw [show xX11_longest_128 N (xX11_longest_63 N n) N a2 (nI B') (nI M') (nI i) 0 h = _ from f1]
          obtain ⟨L2, e2, h2, g1, g2, g3⟩ := ih (i + 1) B' M' L' h1 (by omega) (by omega) (t.fr f2) (fun p hp => by rw [f2 1 (by decide)]; exact s p hp) (f3.cg (fun S d => by
            constructor
            · rintro ((z | ⟨T, e, k, z1, z2⟩) | ⟨y, -, y2, y3, y4, y5⟩)
              · exact Or.inl z
              · exact Or.inr ⟨T, e, k, by omega, z2⟩
              · obtain ⟨k, hk⟩ := (vd y).mp y2
                exact Or.inr ⟨i, y, k, by omega, hk, y3, y4, y5⟩
            · rintro (z | ⟨T, e1, k, z1, z2, z3, z4, z5⟩)
              · exact Or.inl (Or.inl z)
              · by_cases q : T = i
                · subst q; exact Or.inr ⟨e1, Nat.zero_le _, (vd e1).mpr ⟨k, z2⟩, z3, z4, z5⟩
                · exact Or.inl (Or.inr ⟨T, e1, k, by omega, z2, z3, z4, z5⟩))) hB
          exact ⟨L2, e2, h2, g1, fun k hk => by rw [g2 k hk, f2 k hk], g3⟩
        rw [if_pos (by rw [ne_eq, l0, eq_nn (by omega) (by decide)]; exact q0), bits_e (by omega) (by omega), cl_s, bits_e (by omega) (by omega), cl_s]
        unfold xX11_longest_101
        rw [bits_e (by omega) (by omega), cl_s, bits_e (by omega) (by omega), cl_s, ald_n i16 (by decide), v1, lt_e, cl_s, bits_e (by omega) (by omega), cl_s, ald_n i16 (by decide), v1, lt_e, or_nn]
        by_cases q1 : pc i 16 ≤ pc B 16
        · rw [if_pos (by rw [le_nn (by omega) (by omega)]; exact q1)]
          by_cases q2 : pc i 16 = pc B 16
          · rw [if_neg (by rw [q2]; exact fun z => z rfl)]
            exact step B (M ||| v) L (hb0.join v2 vd (fun k d z => by have := kall k d z; omega))
          · rw [if_pos (by rw [ne_eq, eq_nn (by omega) (by omega)]; exact q2)]
            exact step B M L (hb0.skip (fun k d z => by have := kall k d z; omega))
        · rw [if_neg (by rw [le_nn (by omega) (by omega)]; exact q1), if_neg (fun z => z rfl), show (0 : Int32) = nI 0 from rfl, or_nn, Nat.zero_or]
          exact step i v k0 (BLo.new hf hc hb0 i16 v2 q0 vd kall (by omega) pk)
theorem lo21 (hN : 100000 ≤ N) (w : WFt A) (hn : A 0 1 ≤ 24) (hc : c0 < 16) (a2 : Int32) : ∀ n i h, i ≤ 65536 → 65536 - i < n → TM A h → (∀ p, p < A 0 1 → h.1 1 (48 + p) = nI (op / 2 ^ p % 2)) → (∀ S, S < i → h.1 33 S = 0) → ∃ L' e' h', xX11_longest_21 N n (nI c0) a2 (nI i) h = some (if a2 ≠ 0 then nI e' else nI L', h') ∧ (∀ k, k ≠ 33 → h'.1 k = h.1 k) ∧ isBest (fN A op) c0 L' e' := by
  have hf : ∀ c, c < 16 → fN A op c < 65536 := fun c _ => nxt_lt w op c _ (Nat.le_refl _)
  intro n
  induction n with
  | zero => intro i h _ q; omega
  | succ n ih =>
    intro i h hi hq t s hz
    rw [xX11_longest_21]
    dsimp only
    by_cases e : i = 65536
    · subst e
      have pl := p2_lt hc
      have b0 := bk_ok (f := fN A op) hf hc 0 (2 ^ c0) c0 ⟨rfl, rfl⟩
      have no0 : ∀ k d, ¬ bk (fN A op) c0 k 0 d := fun k d z => by
        have := (bk_ok hf hc k 0 d z).2.2.1
        simp at this
      rw [if_pos (by decide), shl1 (by omega), ast_n pl (by decide), lt_e, lt_e]
      obtain ⟨L', e', h', g1, g2, g3⟩ := lo63 (N := N) (A := A) (op := op) (c0 := c0) hN w hn hc a2 N 1 (2 ^ c0) (2 ^ c0) 0 (up h 33 (2 ^ c0) (nI (2 ^ c0))) (by omega) (by omega) (t.fr (fun k hk => up_n hk)) (fun p hp => by rw [up_n (by decide)]; exact s p hp) (fun S hS => by
        by_cases q : S = 2 ^ c0
        · refine ⟨2 ^ c0, by rw [up_at, if_pos ⟨rfl, q⟩], pl, fun d => ?_⟩
          rw [Nat.testBit_two_pow, decide_eq_true_iff]
          constructor
          · intro z; exact Or.inl ⟨q, z.symm⟩
          · rintro (z | ⟨T, e, k, z1, z2, _⟩)
            · exact z.2.symm
            · rw [show T = 0 by omega] at z2; exact absurd z2 (no0 k e)
        · refine ⟨0, by rw [up_at, if_neg (fun z => q z.2), hz S hS]; rfl, by decide, fun d => ?_⟩
          rw [Nat.zero_testBit]
          constructor
          · intro z; cases z
          · rintro (z | ⟨T, e, k, z1, z2, _⟩)
            · exact absurd z.1 q
            · rw [show T = 0 by omega] at z2; exact absurd z2 (no0 k e)) ⟨pl, pl, b0.2.2.2, fun d => by
        rw [Nat.testBit_two_pow, decide_eq_true_iff]
        constructor
        · intro z; exact ⟨2 ^ c0, Or.inr rfl, rfl, z.symm⟩
        · rintro ⟨S, -, z1, z2⟩; exact z2.symm, fun k S d hS z => by rw [show S = 0 by omega] at z; exact absurd z (no0 k d), by have := Nat.pow_pos (n := c0) (show 0 < 2 by decide); omega⟩
      exact ⟨L', e', h', g1, fun k hk => by rw [g2 k hk, up_n hk], g3⟩
    · rw [if_neg (by rw [l65536, le_nn (by decide) (by omega)]; omega), ast_n (by omega) (by decide), lt_e, nI_1]
      obtain ⟨L', e', h', g1, g2, g3⟩ := ih (i + 1) (up h 33 i 0) (by omega) (by omega) (t.fr (fun k hk => up_n hk)) (fun p hp => by rw [up_n (by decide)]; exact s p hp) (fun S hS => by
        rw [up_at]
        by_cases q : S = i
        · rw [if_pos ⟨rfl, q⟩]
        · rw [if_neg (fun z => q z.2)]; exact hz S (by omega))
      exact ⟨L', e', h', g1, fun k hk => by rw [g2 k hk, up_n hk], g3⟩
theorem isBest.uniq {f : Nat → Nat} {c L e L' e' : Nat} (h : isBest f c L e) (h' : isBest f c L' e') : L = L' ∧ e = e' := by
  have a := h.2 _ _ h'.1
  have b := h'.2 _ _ h.1
  unfold be at a b
  omega
theorem q_longest (hN : 100000 ≤ N) (w : WF A) (rx : RX A hx) (rm : RM A hm) (a b : Int32) : QQ (xX10_longest N a b hx) (xX11_longest N a b hm) hx hm := by
  have wo := op_lt w
  have wn := w.1.2.1
  have w1 := w.1.1
  unfold xX10_longest xX11_longest xX10_longest_20 xX11_longest_17 xX10_longest_65
  rw [isToldX w1 rx.1.1, isToldM w1 rm.1.1, cl_s, cl_s]
  cases ht : tld A a
  · exact QQ.rf (-1) (by rw [b2_f, if_pos rfl]) (by rw [b2_f, if_pos rfl])
  · obtain ⟨c, hc, rfl, htb⟩ := tld_of ht
    rw [b2_t, if_neg (show ¬ (1 : Int32) = 0 from by decide), if_neg (show ¬ (1 : Int32) = 0 from by decide), inM_e, cl_s]
    by_cases h3 : b < 0
    · exact QQ.rf (-1) (by rw [if_pos h3]) (by rw [decide_eq_false (fun z => z.1 h3), b2_f, if_neg (by decide)])
    · by_cases h4 : b ≤ 1
      · rw [if_neg h3, if_pos h4, decide_eq_true (show ¬ b < 0 ∧ ¬ (1 : Int32) < b from ⟨h3, Int32.not_lt.mpr h4⟩), b2_t, if_pos (show (1 : Int32) ≠ 0 from by decide), rx.2.1.1]
        obtain ⟨h4, e4, k4, r4, -⟩ := look_e (N := N) (op := A 0 2) (by omega) w.2.1 wn (by omega) rx.1
        obtain ⟨L, e, h5, e5, k5, L15, e16, c6, c7, ib⟩ := goFar_e (N := N) (op := A 0 2) (c := c) (by omega) w.2.1 hc r4
        obtain ⟨L', e', h6, e6, k6, ib'⟩ := lo21 (N := N) (A := A) (op := A 0 2) (c0 := c) hN w.2.1 wn hc b N 0 hm (by omega) (by omega) rm.1 rm.2.1.2.1 (fun S hS => by omega)
        obtain ⟨q1, q2⟩ := ib.uniq ib'
        subst q1; subst q2
        rw [e4, cl_s, e5, cl_s, c6, c7, show xX11_longest_21 N N (nI c) b 0 hm = _ from e6]
        refine ⟨_, h5, h6, ?_, rfl, ?_, ⟨fun j _ => by rw [k6 0 (by decide)], fun k q => k6 k (by omega)⟩⟩
        · split <;> rfl
        · refine ⟨fun k q1 q2 => by rw [k5 k (by omega) (by omega), k4 k (by omega) (by omega)], by rw [k5 1 (by decide) (by decide), k4 1 (by decide) (by decide)], fun k q1 q2 q3 => by rw [k5 k (by omega) (by omega), k4 k (by omega) (by omega)]⟩
      · exact QQ.rf (-1) (by rw [if_neg h3, if_neg h4]) (by rw [decide_eq_false (fun z => h4 (Int32.not_lt.mp z.2)), b2_f, if_neg (by decide)])
end LQ
