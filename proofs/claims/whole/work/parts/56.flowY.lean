section FY
variable {A : AS} {N c d op : Nat} {one : Bool}
abbrev cpF (A : AS) (op : Nat) (one : Bool) (a b : Nat) : Nat := capN A op one a b (A 0 1)
theorem push11 (hN : 100 ≤ N) (w : WFt A) (hn : A 0 1 ≤ 24) (ho : op < 2147483648) (a1 a2 a4 : Int32) (h4 : a4 = b2 one) : ∀ n p h, p ≤ A 0 1 → A 0 1 - p < n → TX A h → (∀ a b, a < 16 → b < 16 → h.1 50 (a * 16 + b) = nI (capN A op one a b p)) → ∃ h', xX1_push_11 N n a1 a2 (nI op) a4 (nI p) h = xX1_push_133 N N a1 a2 0 0 h' ∧ (∀ k, k ≠ 50 → h'.1 k = h.1 k) ∧ ∀ a b, a < 16 → b < 16 → h'.1 50 (a * 16 + b) = nI (cpF A op one a b) := by
  intro n
  induction n with
  | zero => intro p h _ q; omega
  | succ n ih =>
    intro p h hp hq t hl
    rw [xX1_push_11]
    dsimp only
    rw [t.2.1]
    by_cases e : p = A 0 1
    · rw [if_pos (by rw [e, le_nn (by omega) (by omega)]; omega)]
      exact ⟨h, rfl, fun _ _ => rfl, by rw [e] at hl; exact hl⟩
    · have hp2 : p < A 0 1 := by omega
      obtain ⟨t1, t2, t3⟩ := t.2.2.2 p hp2
      obtain ⟨w1, w2, w3, -⟩ := w.2 p hp2
      rw [if_neg (by rw [le_nn (by omega) (by omega)]; omega), hasBit_e (by omega) ho, cl_s]
      unfold xX1_push_121 xX1_push_51
      have step : ∀ a b, capN A op one a b (p + 1) = capN A op one a b p + (if op.testBit p = true ∧ ((A 2 p = a ∧ A 3 p = b) ∨ (A 3 p = a ∧ A 2 p = b)) then (if one = true then 1 else A 4 p) else 0) := fun _ _ => rfl
      cases hb : op.testBit p
      · rw [b2_f, if_pos rfl, lt_e, nI_1]
        exact ih (p + 1) h (by omega) (by omega) t (fun a b ha hb2 => by rw [step, hb, if_neg (fun z => by cases z.1), Nat.add_zero]; exact hl a b ha hb2)
      · have go : ∀ s0, s0 = (if one = true then 1 else A 4 p) → ∃ h', (ald h 5 24 (nI p) fun t1 => ald h 6 24 (nI p) fun t2 => ald h 50 256 ((t1 * 16) + t2) fun t3 => ast h 50 256 ((t1 * 16) + t2) (t3 + nI s0) fun h4 => ald h4 6 24 (nI p) fun t5 => ald h4 5 24 (nI p) fun t6 => ald h4 50 256 ((t5 * 16) + t6) fun t7 => ast h4 50 256 ((t5 * 16) + t6) (t7 + nI s0) fun h8 => lt (nI p + 1) fun v1 => xX1_push_11 N n a1 a2 (nI op) a4 v1 h8) = xX1_push_133 N N a1 a2 0 0 h' ∧ (∀ k, k ≠ 50 → h'.1 k = h.1 k) ∧ ∀ a b, a < 16 → b < 16 → h'.1 50 (a * 16 + b) = nI (cpF A op one a b) := by
          intro s0 hs0
          rw [ald_n (by omega) (by decide), t1, ald_n (by omega) (by decide), t2, l16, mul_nn, add_nn, ald_n (by omega) (by decide), hl _ _ w1 w2, add_nn, ast_n (by omega) (by decide), ald_n (by omega) (by decide), up_n (show 6 ≠ 50 by decide), t2, ald_n (by omega) (by decide), up_n (show 5 ≠ 50 by decide), t1, mul_nn, add_nn, ald_n (by omega) (by decide), up_at, if_neg (by omega), hl _ _ w2 w1, add_nn, ast_n (by omega) (by decide), lt_e, nI_1]
          obtain ⟨h', g1, g2, g3⟩ := ih (p + 1) _ (by omega) (by omega) (show TX A (up (up h 50 (A 2 p * 16 + A 3 p) (nI (capN A op one (A 2 p) (A 3 p) p + s0))) 50 (A 3 p * 16 + A 2 p) (nI (capN A op one (A 3 p) (A 2 p) p + s0))) from by
            obtain ⟨x1, x2, x3, x4⟩ := t
            exact ⟨by rw [up_n (by decide), up_n (by decide)]; exact x1, by rw [up_n (by decide), up_n (by decide)]; exact x2, fun c hc => by rw [up_n (by decide), up_n (by decide)]; exact x3 c hc, fun p hp => by rw [up_n (by decide), up_n (by decide), up_n (by decide), up_n (by decide), up_n (by decide), up_n (by decide)]; exact x4 p hp⟩) (fun a b ha hb2 => by
            rw [up_at, up_at, step]
            by_cases q1 : A 3 p = a ∧ A 2 p = b
            · obtain ⟨rfl, rfl⟩ := q1
              rw [if_pos ⟨rfl, rfl⟩, if_pos (show op.testBit p = true ∧ ((A 2 p = A 3 p ∧ A 3 p = A 2 p) ∨ (A 3 p = A 3 p ∧ A 2 p = A 2 p)) from ⟨hb, Or.inr ⟨rfl, rfl⟩⟩), hs0]
            · rw [if_neg (fun z => q1 (by omega))]
              by_cases q2 : A 2 p = a ∧ A 3 p = b
              · obtain ⟨rfl, rfl⟩ := q2
                rw [if_pos ⟨rfl, rfl⟩, if_pos (show op.testBit p = true ∧ ((A 2 p = A 2 p ∧ A 3 p = A 3 p) ∨ (A 3 p = A 2 p ∧ A 2 p = A 3 p)) from ⟨hb, Or.inl ⟨rfl, rfl⟩⟩), hs0]
              · rw [if_neg (fun z => q2 (by omega)), if_neg (fun z => z.2.elim q2 q1), Nat.add_zero]
                exact hl a b ha hb2)
          exact ⟨h', g1, fun k hk => by rw [g2 k hk, up_n hk, up_n hk], g3⟩
        rw [b2_t, if_neg (show ¬ (1 : Int32) = 0 from by decide)]
        cases one with
        | false =>
          rw [if_pos (show a4 = 0 from h4), ald_n (by omega) (by decide), t3]
          exact go (A 4 p) rfl
        | true =>
          rw [if_neg (show ¬ a4 = 0 by rw [h4]; decide)]
          exact go 1 rfl
theorem pushX_e (hN : 5000 ≤ N) (w : WFt A) (hn : A 0 1 ≤ 24) (ho : op < 2147483648) (hc : c < 16) (hd : d < 16) (hcd : c ≠ d) {h : HP} (t : TX A h) : ∃ F r S h', xX1_push N (nI c) (nI d) (nI op) (b2 one) h = some (nI F, h') ∧ (∀ k, k ≠ 49 → k ≠ 50 → k ≠ 51 → h'.1 k = h.1 k) ∧ flw (cpF A op one) c d r F ∧ sdE r c S ∧ h'.1 49 3 = nI S ∧ S.testBit d = false := by
  unfold xX1_push
  obtain ⟨h1, e1, k1, z1, -⟩ := fill_e (N := N) (na := 256) (ka := 50) 0 h (by decide) (by omega)
  obtain ⟨h2, e2, k2, l2⟩ := push11 (N := N) (A := A) (op := op) (one := one) (by omega) w hn ho (nI c) (nI d) (b2 one) rfl N 0 h1 (by omega) (by omega) (by
    obtain ⟨x1, x2, x3, x4⟩ := t
    exact ⟨by rw [k1 3 (by decide)]; exact x1, by rw [k1 3 (by decide)]; exact x2, fun c hc => by rw [k1 4 (by decide)]; exact x3 c hc, fun p hp => by rw [k1 5 (by decide), k1 6 (by decide), k1 7 (by decide)]; exact x4 p hp⟩) (fun a b ha hb => by rw [z1 _ (by omega)]; rfl)
  have cl : ∀ a b, cpF A op one a b ≤ 2376 := fun a b => by have := capN_le (op := op) (one := one) (a := a) (b := b) w (A 0 1) (Nat.le_refl _); show capN A op one a b (A 0 1) ≤ 2376; omega
  have cs : isum (fun b => (cpF A op one c b : Int)) 16 ≤ 2376 := by
    have := capN_sum (op := op) (one := one) (a := c) w (A 0 1) (Nat.le_refl _)
    show isum (fun b => (capN A op one c b (A 0 1) : Int)) 16 ≤ 2376
    omega
  obtain ⟨F, r, S, h3, e3, k3, f3⟩ := push133 (N := N) (cap := cpF A op one) (c := c) (d := d) (by omega) cl hc hd hcd cs N 0 0 (cpF A op one) h2 (by omega) (by omega) ⟨fun a b _ _ => by have := capN_sym (A := A) (op := op) (one := one) (a := a) (b := b) (A 0 1); show capN A op one a b (A 0 1) + capN A op one b a (A 0 1) = 2 * capN A op one a b (A 0 1); omega, fun a _ => by
    rw [isum_0 16 (fun i _ => Int.sub_self _)]
    split
    · rfl
    · split <;> rfl⟩ (fun a b ha hb => ⟨l2 a b ha hb, by have := cl a b; omega⟩)
  rw [e1, cl_s, show xX1_push_11 N N (nI c) (nI d) (nI op) (b2 one) 0 h1 = _ from e2, show xX1_push_133 N N (nI c) (nI d) 0 0 h2 = _ from e3]
  exact ⟨F, r, S, h3, rfl, fun k q1 q2 q3 => by rw [k3 k q1 q2 q3, k2 k q2, k1 k q2], f3⟩
end FY
