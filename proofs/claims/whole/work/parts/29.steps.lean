/-! ===== distances as numbers (100: no way); steps, ring, farthest ===== -/
noncomputable def dn (A : AS) (act : Nat → Bool) (c d : Nat) : Nat := @dite _ (∃ g, rc A act c g d ∧ ∀ j, j < g → ¬ rc A act c j d) (Classical.propDecidable _) (fun h => Classical.choose h) (fun _ => 100)
section DN
variable {A : AS} {act : Nat → Bool} {c d : Nat}
theorem dn_of {g : Nat} (h1 : rc A act c g d) (h2 : ∀ j, j < g → ¬ rc A act c j d) : dn A act c d = g := by
  have h : ∃ g, rc A act c g d ∧ ∀ j, j < g → ¬ rc A act c j d := ⟨g, h1, h2⟩
  unfold dn
  rw [dif_pos h]
  have q := Classical.choose_spec h
  rcases Nat.lt_trichotomy (Classical.choose h) g with z | z | z
  · exact absurd q.1 (h2 _ z)
  · exact z
  · exact absurd h1 (q.2 g z)
theorem dn_no (h : ¬ cn A act c d) : dn A act c d = 100 := by
  unfold dn
  rw [dif_neg]
  rintro ⟨g, h1, -⟩
  exact h ⟨g, h1⟩
theorem isDs.e {v : Int32} (h : isDs A act c d v) : v = fI (dn A act c d) := by
  rcases h with ⟨g, h1, h2, h3, h4⟩ | ⟨h1, h2⟩
  · rw [dn_of h3 h4, h2]; unfold fI; rw [if_neg (by omega)]
  · rw [dn_no (fun ⟨g, z⟩ => h2 g z), h1]; rfl
theorem dn_cases (w : WFt A) (hc : c < 16) : (dn A act c d < 16 ∧ rc A act c (dn A act c d) d ∧ ∀ j, j < dn A act c d → ¬ rc A act c j d) ∨ (dn A act c d = 100 ∧ ¬ cn A act c d) := by
  by_cases h : cn A act c d
  · obtain ⟨g, h1, h2⟩ := pk_least (fun g => rc A act c g d) h
    have e := dn_of h1 (fun j hj => h2 j hj)
    left
    rw [e]
    refine ⟨?_, h1, fun j hj => h2 j hj⟩
    rcases Nat.lt_or_ge g 16 with q | q
    · exact q
    · exact absurd (rc15 w hc h1) (h2 15 (by omega))
  · exact Or.inr ⟨dn_no h, h⟩
theorem dn_le (w : WFt A) (hc : c < 16) {n : Nat} (hn : n < 100) : dn A act c d ≤ n ↔ rc A act c n d := by
  rcases dn_cases (d := d) (act := act) w hc with ⟨h1, h2, h3⟩ | ⟨h1, h2⟩
  · constructor
    · intro h; exact rc_le h h2
    · intro h
      rcases Nat.lt_or_ge n (dn A act c d) with q | q
      · exact absurd h (h3 n q)
      · exact q
  · constructor
    · intro h; omega
    · intro h; exact absurd ⟨n, h⟩ h2
theorem dn_act {a2 : Nat → Bool} (h : ∀ p, p < A 0 1 → act p = a2 p) : dn A act c d = dn A a2 c d := by
  by_cases q : cn A act c d
  · obtain ⟨g, h1, h2⟩ := pk_least (fun g => rc A act c g d) q
    rw [dn_of h1 (fun j hj => h2 j hj), dn_of ((rc_act h g d).mp h1) (fun j hj z => h2 j hj ((rc_act h j d).mpr z))]
  · rw [dn_no q, dn_no (fun ⟨g, z⟩ => q ⟨g, (rc_act h g d).mpr z⟩)]
end DN
theorem fI_le {a b : Nat} (ha : a < 16 ∨ a = 100) (hb : b < 16) : fI a ≤ nI b ↔ (a = 100 ∨ a ≤ b) := by
  unfold fI
  rcases ha with h | h
  · rw [if_neg (by omega), le_nn (by omega) (by omega)]; omega
  · rw [if_pos h, i_le, i_m2, i_n (by omega)]; omega
theorem fI_m2 {a : Nat} (ha : a < 16 ∨ a = 100) : fI a = -2 ↔ a = 100 := by
  unfold fI
  rcases ha with h | h
  · rw [if_neg (by omega)]
    exact ⟨fun z => absurd z (nn_m2 (by omega)), fun z => by omega⟩
  · rw [if_pos h]; exact ⟨fun _ => h, fun _ => rfl⟩
section ST
variable {A : AS} {hx hm : HP} {N : Nat}
theorem keM.bfs {h h' : HP} (k1 : ∀ k, k ≠ 0 → k ≠ 28 → k ≠ 29 → h'.1 k = h.1 k) (k2 : ∀ j, j ≠ 44 → h'.1 0 j = h.1 0 j) : keM h h' :=
  ⟨fun j hj => k2 j (fun z => hj (by rw [z]; unfold scM; omega)), fun k hk => k1 k (by omega) (by omega) (by omega)⟩
theorem q_steps (hN : 100 ≤ N) (w : WF A) (rx : RX A hx) (rm : RM A hm) (a b : Int32) : QQ (xX10_steps N a b hx) (xX11_steps N a b hm) hx hm := by
  have wo := op_lt w
  have wn := w.1.2.1
  unfold xX10_steps xX11_steps xX10_steps_22 xX11_steps_16
  rw [isToldX w.1.1 rx.1.1, isToldM w.1.1 rm.1.1, cl_s, cl_s, isToldX w.1.1 rx.1.1, isToldM w.1.1 rm.1.1, cl_s, cl_s]
  cases h1 : tld A a
  · exact QQ.rf (-1) (by rw [b2_f, if_pos rfl]) (by rw [b2_f, if_pos rfl])
  · rw [b2_t, if_neg (show ¬ (1 : Int32) = 0 from by decide), if_neg (show ¬ (1 : Int32) = 0 from by decide)]
    cases h2 : tld A b
    · exact QQ.rf (-1) (by rw [b2_f, if_neg (by decide)]) (by rw [b2_f, if_neg (by decide)])
    · obtain ⟨c, hc, rfl, -⟩ := tld_of h1
      obtain ⟨d, hd, rfl, -⟩ := tld_of h2
      rw [b2_t, if_pos (show (1 : Int32) ≠ 0 from by decide), if_pos (show (1 : Int32) ≠ 0 from by decide), rx.2.1.1]
      obtain ⟨h3, e3, k3, r3, -⟩ := look_e (N := N) (op := A 0 2) hN w.2.1 wn (by omega) rx.1
      obtain ⟨v, h4, e4, s4, d4⟩ := steps_e (N := N) hN w.2.1 hc hd r3
      obtain ⟨h5, e5, k5, j5, -, d5⟩ := laysSteps_e (N := N) (op := A 0 2) hN w.2.1 wn rm.1 rm.2.1.2.1 hc (-1)
      rw [e3, cl_s, e4, cl_s, e5, cl_s]
      unfold xX11_far
      rw [l16, mul_nn, add_nn, ald_n (by omega) (by decide), cl_s]
      have hv := d4.uniq (isDs_act (ak_am wn) (d5 d hd))
      rw [← hv]
      exact ⟨v, h4, h5, rfl, rfl, keX.net (fun k q1 q2 q3 => by rw [s4 k q3, k3 k q1 q2]), keM.bfs k5 j5⟩
/-! ring -/
noncomputable def rgS (A : AS) (op c p : Nat) (v : Int32) : Int32 := if op.testBit p = true then (match ac A p c with | some y => (if fI (dn A (am (wop op p)) y c) = -2 then v else if v = -2 then fI (dn A (am (wop op p)) y c) + 1 else if v ≤ fI (dn A (am (wop op p)) y c) + 1 then v else fI (dn A (am (wop op p)) y c) + 1) | none => v) else v
noncomputable def rg (A : AS) (op c : Nat) : Nat → Int32
  | 0 => -2
  | p + 1 => rgS A op c p (rg A op c p)
theorem ringX_l {op c : Nat} (hN : 100 ≤ N) (w : WFt A) (hn : A 0 1 ≤ 24) (ho : op < 16777216) (hc : c < 16) {h0 : HP} (t0 : TX A h0) : ∀ n i h, i ≤ A 0 1 → A 0 1 - i < n → sB h0 h → ∃ h', xX3_leastRing_6 N n (nI c) (nI op) (rg A op c i) (nI i) h = some (rg A op c (A 0 1), h') ∧ sB h0 h' := by
  intro n
  induction n with
  | zero => intro i h _ q; omega
  | succ n ih =>
    intro i h hi hq hs
    have t := hs.TX t0
    rw [xX3_leastRing_6]
    dsimp only
    rw [t.2.1]
    by_cases e : i = A 0 1
    · rw [if_pos (by rw [e, le_nn (by omega) (by omega)]; omega), e]
      exact ⟨h, rfl, hs⟩
    · have hp : i < A 0 1 := by omega
      rw [if_neg (by rw [le_nn (by omega) (by omega)]; omega), across_e w hn t hp hc, cl_s, hasBit_e (by omega) (by omega), cl_s]
      unfold xX3_leastRing_90 xX3_leastRing_95
      simp only [lt_e, nI_1]
      have nx : rg A op c (i + 1) = rgS A op c i (rg A op c i) := rfl
      cases hb : op.testBit i
      · rw [b2_f, if_pos rfl]
        have := ih (i + 1) h (by omega) (by omega) hs
        rw [nx] at this
        simpa [rgS, hb] using this
      · rw [b2_t, if_neg (by decide)]
        cases ha : ac A i c with
        | none =>
          rw [acI_n ha, if_neg (fun z => z rfl)]
          have := ih (i + 1) h (by omega) (by omega) hs
          rw [nx] at this
          simpa [rgS, hb, ha] using this
        | some y =>
          have hy := ac_lt w hp ha
          have h2 : 2 ^ i < 4294967296 := Nat.lt_of_lt_of_le (Nat.pow_lt_pow_right (by decide) (show i < 31 by omega)) (by decide : 2 ^ 31 ≤ 4294967296)
          have hw : wop op i < 16777216 := Nat.lt_of_le_of_lt Nat.and_le_left ho
          obtain ⟨h3, e3, k3, r3, -⟩ := look_e (N := N) (op := wop op i) hN w hn (by omega) t
          obtain ⟨v, h4, e4, s4, d4⟩ := steps_e (N := N) hN w hy hc r3
          rw [acI_s ha, if_pos (nn_m1 (by omega)), shl1 (by omega), bnotw h2, show op &&& (4294967295 - 2 ^ i) = wop op i from rfl, e3, cl_s, e4, cl_s]
          have hs4 : sB h0 h4 := fun k q1 q2 q3 => by rw [s4 k q3, k3 k q1 q2]; exact hs k q1 q2 q3
          have ih1 := ih (i + 1) h4 (by omega) (by omega) hs4
          have ev := d4.e
          rw [nx] at ih1
          simp only [rgS, hb, ha, if_true, ← ev] at ih1
          by_cases q1 : v = -2
          · rw [if_pos q1]
            simpa [q1] using ih1
          · rw [if_neg q1]
            simp only [q1, if_false] at ih1
            by_cases q2 : rg A op c i = -2
            · rw [if_pos q2]
              simpa [q2] using ih1
            · rw [if_neg q2]
              simp only [q2, if_false] at ih1
              by_cases q3 : rg A op c i ≤ v + 1
              · rw [if_pos q3]; simpa [q3] using ih1
              · rw [if_neg q3]; simpa [q3] using ih1
theorem ringM_l {op c : Nat} (hN : 100 ≤ N) (w : WFt A) (hn : A 0 1 ≤ 24) (hc : c < 16) {h0 : HP} (t0 : TM A h0) (s0 : ∀ p, p < A 0 1 → h0.1 1 (48 + p) = nI (op / 2 ^ p % 2)) : ∀ n i h, i ≤ A 0 1 → A 0 1 - i < n → (∀ k, k ≠ 0 → k ≠ 28 → k ≠ 29 → h.1 k = h0.1 k) → (∀ j, j ≠ 44 → h.1 0 j = h0.1 0 j) → ∃ h', xX11_ring_15 N n (nI c) (rg A op c i) (nI i) h = some (rg A op c (A 0 1), h') ∧ (∀ k, k ≠ 0 → k ≠ 28 → k ≠ 29 → h'.1 k = h0.1 k) ∧ (∀ j, j ≠ 44 → h'.1 0 j = h0.1 0 j) := by
  intro n
  induction n with
  | zero => intro i h _ q; omega
  | succ n ih =>
    intro i h hi hq k1 k2
    have t : TM A h := by
      obtain ⟨t1, t2, t3, t4⟩ := t0
      exact ⟨by rw [k2 7 (by decide)]; exact t1, by rw [k2 8 (by decide)]; exact t2, fun c hc => by rw [k1 4 (by decide) (by decide) (by decide)]; exact t3 c hc, fun p hp => by rw [k1 5 (by decide) (by decide) (by decide), k1 6 (by decide) (by decide) (by decide), k1 7 (by decide) (by decide) (by decide)]; exact t4 p hp⟩
    have s : ∀ p, p < A 0 1 → h.1 1 (48 + p) = nI (op / 2 ^ p % 2) := fun p hp => by rw [k1 1 (by decide) (by decide) (by decide)]; exact s0 p hp
    rw [xX11_ring_15]
    dsimp only
    rw [t.2.1]
    by_cases e : i = A 0 1
    · rw [if_pos (by rw [e, le_nn (by omega) (by omega)]; omega), e]
      exact ⟨h, rfl, k1, k2⟩
    · have hp : i < A 0 1 := by omega
      rw [if_neg (by rw [le_nn (by omega) (by omega)]; omega), beyond_e w hn t s hp hc, cl_s]
      unfold xX11_ring_82 xX11_ring_85
      simp only [lt_e, nI_1]
      have nx : rg A op c (i + 1) = rgS A op c i (rg A op c i) := rfl
      cases hb : op.testBit i
      · rw [byI_f hb, if_neg (fun z => z rfl)]
        have := ih (i + 1) h (by omega) (by omega) k1 k2
        rw [nx] at this
        simpa [rgS, hb] using this
      · rw [byI_t hb]
        cases ha : ac A i c with
        | none =>
          rw [acI_n ha, if_neg (fun z => z rfl)]
          have := ih (i + 1) h (by omega) (by omega) k1 k2
          rw [nx] at this
          simpa [rgS, hb, ha] using this
        | some y =>
          have hy := ac_lt w hp ha
          obtain ⟨h5, e5, k5, j5, -, d5⟩ := laysSteps_e (N := N) (op := op) hN w hn t s hy (nI i)
          rw [acI_s ha, if_pos (nn_m1 (by omega)), e5, cl_s]
          unfold xX11_far
          rw [l16, mul_nn, add_nn, ald_n (by omega) (by decide), cl_s, ald_n (by omega) (by decide), cl_s]
          have ih1 := ih (i + 1) h5 (by omega) (by omega) (fun k q1 q2 q3 => by rw [k5 k q1 q2 q3]; exact k1 k q1 q2 q3) (fun j hj => by rw [j5 j hj]; exact k2 j hj)
          have ev := (isDs_act (ak_wop hn (show i < 24 by omega)) (d5 c hc)).e
          rw [nx] at ih1
          simp only [rgS, hb, ha, if_true, ← ev] at ih1
          generalize h5.1 29 (16 * y + c) = v at ih1 ⊢
          by_cases q1 : v = -2
          · rw [if_pos q1]
            simpa [q1] using ih1
          · rw [if_neg q1]
            simp only [q1, if_false] at ih1
            by_cases q2 : rg A op c i = -2
            · rw [if_pos q2]
              simpa [q2] using ih1
            · rw [if_neg q2]
              simp only [q2, if_false] at ih1
              by_cases q3 : rg A op c i ≤ v + 1
              · rw [if_pos q3]; simpa [q3] using ih1
              · rw [if_neg q3]; simpa [q3] using ih1
theorem q_ring (hN : 100 ≤ N) (w : WF A) (rx : RX A hx) (rm : RM A hm) (a : Int32) : QQ (xX10_ring N a hx) (xX11_ring N a hm) hx hm := by
  have wo := op_lt w
  have wn := w.1.2.1
  unfold xX10_ring xX11_ring xX10_ring_30
  rw [isToldX w.1.1 rx.1.1, isToldM w.1.1 rm.1.1, cl_s, cl_s]
  cases h1 : tld A a
  · exact QQ.rf (-1) (by rw [b2_f, if_pos rfl]) (by rw [b2_f, if_neg (by decide)])
  · obtain ⟨c, hc, rfl, -⟩ := tld_of h1
    rw [b2_t, if_neg (by decide), if_pos (by decide), rx.2.1.1]
    obtain ⟨h2, e2, s2⟩ := ringX_l (N := N) (op := A 0 2) hN w.2.1 wn wo hc rx.1 N 0 hx (by omega) (by omega) (fun _ _ _ _ => rfl)
    obtain ⟨h3, e3, s3, j3⟩ := ringM_l (N := N) (op := A 0 2) hN w.2.1 wn hc rm.1 rm.2.1.2.1 N 0 hm (by omega) (by omega) (fun _ _ _ _ => rfl) (fun _ _ => rfl)
    have e2' : xX3_leastRing N (nI c) (nI (A 0 2)) hx = some (rg A (A 0 2) c (A 0 1), h2) := e2
    have e3' : xX11_ring_15 N N (nI c) (-2) 0 hm = some (rg A (A 0 2) c (A 0 1), h3) := e3
    rw [e2', cl_s, e3']
    exact ⟨_, h2, h3, rfl, rfl, keX.net s2, keM.bfs s3 j3⟩
end ST
