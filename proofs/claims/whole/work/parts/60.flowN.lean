section FN0
variable {A : AS} {op N c : Nat} {one : Bool}
/-- what a search leaves alone -/
def sQ (h h' : HP) : Prop := (∀ k, k ≠ 0 → k ≠ 27 → k ≠ 28 → h'.1 k = h.1 k) ∧ ∀ j, j ≠ 44 → h'.1 0 j = h.1 0 j
theorem sQ.TM {h h' : HP} (q : sQ h h') (t : TM A h) : TM A h' := by
  obtain ⟨t1, t2, t3, t4⟩ := t
  exact ⟨by rw [q.2 7 (by decide)]; exact t1, by rw [q.2 8 (by decide)]; exact t2, fun c hc => by rw [q.1 4 (by decide) (by decide) (by decide)]; exact t3 c hc, fun p hp => by rw [q.1 5 (by decide) (by decide) (by decide), q.1 6 (by decide) (by decide) (by decide), q.1 7 (by decide) (by decide) (by decide)]; exact t4 p hp⟩
theorem com31 {f : Nat → Int} {K : Int32 → Int32 → Int32 → HP → Option (Int32 × HP)} {i a : Nat} (w : WFt A) (hn : A 0 1 ≤ 24) (ok : okF A one f) (ha16 : a < 16) : ∀ n p S h, p ≤ A 0 1 → A 0 1 - p < n → i < pc S 16 → S.testBit a = true → h.1 28 i = nI a → TM A h → (∀ p, p < A 0 1 → h.1 1 (48 + p) = nI (op / 2 ^ p % 2)) → FC A f h → srM A op one f c S h → ∃ S' h', xX11_comesOn_31 N K n (b2 one) (nI S) (nI i) (nI p) h = K (b2 one) (nI S') (nI (i + 1)) h' ∧ sQ h h' ∧ srM A op one f c S' h' ∧ (∀ y, S.testBit y = true → S'.testBit y = true) ∧ pc S 16 ≤ pc S' 16 ∧ (∀ j, j < pc S 16 → h'.1 28 j = h.1 28 j) ∧ ∀ p' x, p ≤ p' → p' < A 0 1 → op.testBit p' = true → btw A p' a x → rsI A one f p' a ≠ 0 → S'.testBit x = true := by
  intro n
  induction n with
  | zero => intro p S h _ q; omega
  | succ n ih =>
    intro p S h hp hq hi haS h28 t s hf hs
    have S16 := hs.1
    have pl := pc_le S 16
    rw [xX11_comesOn_31]
    dsimp only
    unfold xX11_comesOn_127
    rw [t.2.1]
    by_cases e : p = A 0 1
    · rw [if_pos (by rw [e, le_nn (by omega) (by omega)]; omega), lt_e, nI_1]
      exact ⟨S, h, rfl, ⟨fun _ _ _ _ => rfl, fun _ _ => rfl⟩, hs, fun _ z => z, Nat.le_refl _, fun _ _ => rfl, fun p' x h1 h2 => by omega⟩
    · have hp2 : p < A 0 1 := by omega
      rw [if_neg (by rw [le_nn (by omega) (by omega)]; omega), ald_n (by omega) (by decide), h28, beyond_e w hn t s hp2 ha16, cl_s, lt_e, nI_1]
      have skip : (∀ x, op.testBit p = true → btw A p a x → rsI A one f p a ≠ 0 → S.testBit x = true) → ∃ S' h', xX11_comesOn_31 N K n (b2 one) (nI S) (nI i) (nI (p + 1)) h = K (b2 one) (nI S') (nI (i + 1)) h' ∧ sQ h h' ∧ srM A op one f c S' h' ∧ (∀ y, S.testBit y = true → S'.testBit y = true) ∧ pc S 16 ≤ pc S' 16 ∧ (∀ j, j < pc S 16 → h'.1 28 j = h.1 28 j) ∧ ∀ p' x, p ≤ p' → p' < A 0 1 → op.testBit p' = true → btw A p' a x → rsI A one f p' a ≠ 0 → S'.testBit x = true := by
        intro z
        obtain ⟨S', h', g1, g2, g3, g4, g5, g6, g7⟩ := ih (p + 1) S h (by omega) (by omega) hi haS h28 t s hf hs
        refine ⟨S', h', g1, g2, g3, g4, g5, g6, fun p' x h1 h2 h3 h4 h5 => ?_⟩
        by_cases q : p' = p
        · subst q; exact g4 x (z x h3 h4 h5)
        · exact g7 p' x (by omega) h2 h3 h4 h5
      cases hop : op.testBit p
      · rw [byI_f hop, if_pos rfl]
        exact skip (fun x z => by rw [hop] at z; cases z)
      · rw [byI_t hop]
        cases hac : ac A p a with
        | none =>
          rw [acI_n hac, if_pos rfl]
          exact skip (fun x _ z => by rw [(ac_btw w hp2).mpr z] at hac; cases hac)
        | some b =>
          have hb := (ac_btw w hp2).mp hac
          have b16 := ac_lt w hp2 hac
          have uniq : ∀ x, btw A p a x → x = b := fun x z => by
            have := (ac_btw w hp2).mpr z
            rw [hac] at this
            cases this; rfl
          rw [acI_s hac, if_neg (nn_m1 (by omega)), has_e (by omega) (by omega), cl_s]
          cases hSb : S.testBit b
          · have g := (rs_sum (one := one) w ok hp2 hb).1
            have wl : (rsI A one f p a).toNat < 1000 := by
              obtain ⟨o1, o2⟩ := ok p hp2
              have w5 := (w.2 p hp2).2.2.2.2.2.2
              have : wdt A one p ≤ 99 := by unfold wdt; split <;> omega
              unfold rsI
              split <;> omega
            rw [b2_f, if_neg (by decide), ald_n (by omega) (by decide), h28, restOf_e w hn ok t hf hp2 hb, cl_s]
            by_cases q : rsI A one f p a = 0
            · rw [if_neg (by rw [q]; exact fun z => z rfl)]
              exact skip (fun x _ _ z => absurd q z)
            · have len15 : pc S 16 < 16 := by
                rcases Nat.lt_or_ge (pc S 16) 16 with z | z
                · exact z
                · exfalso
                  have := pc_sub (a := S) (b := 65535) 16 (fun k hk _ => by rw [show (65535 : Nat) = 2 ^ 16 - 1 from rfl, Nat.testBit_two_pow_sub_one]; simp [hk])
                  have h16 : pc 65535 16 = 16 := by decide
                  have := this.2 (by omega) b b16
                  rw [hSb, show (65535 : Nat) = 2 ^ 16 - 1 from rfl, Nat.testBit_two_pow_sub_one] at this
                  simp [b16] at this
              rw [if_pos (by rw [ne_eq, l0, eq_nn (by omega) (by decide)]; omega), shl1 (by omega), or_nn, lt_e, ast_n b16 (by decide), up_n (show 0 ≠ 27 by decide), hs.2.2.1, ast_n len15 (by decide), lt_e, up_n (show 0 ≠ 28 by decide), up_n (show 0 ≠ 27 by decide), hs.2.2.1, nI_1, lt_e]
              have a1 := hs.add w ok haS b16 hSb hp2 hop hb q
              have pc1 : pc (S ||| 2 ^ b) 16 = pc S 16 + 1 := pc_off (a := S ||| 2 ^ b) (b := S) (k := b) (by rw [or2_tb]; simp) (fun i => by
                rw [or2_tb]
                by_cases z : b = i
                · subst z; rw [hSb]; simp
                · rw [decide_eq_false z, decide_eq_true (show i ≠ b from fun y => z y.symm)]; simp) 16 b16
              have sq : sQ h (up (up (up h 27 b (nI p)) 28 (pc S 16) (nI b)) 0 44 (nI (pc S 16 + 1))) := ⟨fun k k1 k2 k3 => by rw [up_n k1, up_n k3, up_n k2], fun j hj => by rw [up_at, if_neg (fun z => hj z.2), up_n (by decide), up_n (by decide)]⟩
              have sub : ∀ y, S.testBit y = true → (S ||| 2 ^ b).testBit y = true := fun y z => by rw [or2_tb, z]; rfl
              obtain ⟨S', h', g1, g2, g3, g4, g5, g6, g7⟩ := ih (p + 1) (S ||| 2 ^ b) _ (by omega) (by omega) (by omega) (sub a haS) (by rw [up_n (by decide), up_at, if_neg (by omega), up_n (by decide)]; exact h28) (sq.TM t) (fun p hp => by rw [sq.1 1 (by decide) (by decide) (by decide)]; exact s p hp) (fun p hp => by rw [sq.1 26 (by decide) (by decide) (by decide)]; exact hf p hp) a1
              refine ⟨S', h', g1, ⟨fun k k1 k2 k3 => by rw [g2.1 k k1 k2 k3, sq.1 k k1 k2 k3], fun j hj => by rw [g2.2 j hj, sq.2 j hj]⟩, g3, fun y z => g4 y (sub y z), by omega, fun j hj => by rw [g6 j (by omega), up_n (by decide), up_at, if_neg (by omega), up_n (by decide)], fun p' x h1 h2 h3 h4 h5 => ?_⟩
              by_cases z : p' = p
              · subst z
                rw [uniq x h4]
                exact g4 b (by rw [or2_tb]; simp)
              · exact g7 p' x (by omega) h2 h3 h4 h5
          · rw [b2_t, if_pos (by decide)]
            exact skip (fun x _ z _ => by rw [uniq x z]; exact hSb)
end FN0
