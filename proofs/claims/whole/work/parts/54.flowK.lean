section FK
variable {cap r : Nat → Nat → Nat} {N c : Nat}
def clo (r : Nat → Nat → Nat) (a S : Nat) : Prop := ∀ y, y < 16 → 0 < r a y → S.testBit y = true
theorem seek30 {K : Int32 → Int32 → HP → Option (Int32 × HP)} {E S0 g : Nat} (hN : 100 ≤ N) (hE : E < 65536) : ∀ n i S nx h, i ≤ 16 → 16 - i < n → srS r c S h → LR r h → (∀ y, E.testBit y = true → S.testBit y = true) → (∀ y, S0.testBit y = true → S.testBit y = true) → nx < 65536 → (∀ y, nx.testBit y = true ↔ (S.testBit y = true ∧ S0.testBit y = false)) → (∀ a, S.testBit a = true → clo r a S ∨ (E.testBit a = true ∧ i ≤ a) ∨ nx.testBit a = true) → ∃ S' nx' h', xX1_seek_30 N K n (nI E) (nI g) (nI nx) (nI i) h = K (nI nx') (nI (g + 1)) h' ∧ (∀ k, k ≠ 49 → k ≠ 51 → h'.1 k = h.1 k) ∧ srS r c S' h' ∧ (∀ y, S0.testBit y = true → S'.testBit y = true) ∧ nx' < 65536 ∧ (∀ y, nx'.testBit y = true ↔ (S'.testBit y = true ∧ S0.testBit y = false)) ∧ ∀ a, S'.testBit a = true → clo r a S' ∨ nx'.testBit a = true := by
  intro n
  induction n with
  | zero => intro i S nx h _ q; omega
  | succ n ih =>
    intro i S nx h hi hq hs hl hES h0 hnx hn hin
    rw [xX1_seek_30]
    dsimp only
    unfold xX1_seek_57
    by_cases e : i = 16
    · rw [if_pos (by rw [e]; decide), lt_e, nI_1]
      refine ⟨S, nx, h, rfl, fun _ _ _ => rfl, hs, h0, hnx, hn, fun a ha => ?_⟩
      rcases hin a ha with z | z | z
      · exact Or.inl z
      · have := tb16 hE z.1; omega
      · exact Or.inr z
    · rw [if_neg (by rw [l16, le_nn (by decide) (by omega)]; omega), hasBit_e (by omega) (by omega), cl_s, lt_e, nI_1]
      cases hb : E.testBit i
      · rw [b2_f, if_pos rfl]
        refine ih (i + 1) S nx h (by omega) (by omega) hs hl hES h0 hnx hn (fun a ha => ?_)
        rcases hin a ha with z | z | z
        · exact Or.inl z
        · by_cases q : a = i
          · rw [q, hb] at z; cases z.1
          · exact Or.inr (Or.inl ⟨z.1, by omega⟩)
        · exact Or.inr (Or.inr z)
      · obtain ⟨S', fd, h', g1, g2, g3, g4, g5, g6, g7⟩ := spread_l (N := N) (r := r) (c := c) (a := i) (by omega) N 0 S 0 h (by omega) (by omega) hs (hES i hb) hl (by decide)
        unfold xX1_spreadFrom
        rw [b2_t, if_neg (by decide), show xX1_spreadFrom_4 N N (nI i) 0 0 h = _ from g1, cl_s, or_nn, lt_e, lt_e]
        have sub : ∀ y, S.testBit y = true → S'.testBit y = true := fun y z => (g4 y).mpr (Or.inl z)
        have fdb : ∀ y, fd.testBit y = true ↔ (S'.testBit y = true ∧ S.testBit y = false) := fun y => by
          rw [g6]
          exact ⟨fun z => z.elim (fun z => by simp at z) id, Or.inr⟩
        obtain ⟨S2, nx2, h2, k1, k2, k3⟩ := ih (i + 1) S' (nx ||| fd) h' (by omega) (by omega) g3 (fun a b ha hb => by rw [g2 50 (by decide) (by decide)]; exact hl a b ha hb) (fun y z => sub y (hES y z)) (fun y z => sub y (h0 y z)) (Nat.or_lt_two_pow (n := 16) hnx g5) (fun y => by
          rw [Nat.testBit_or, Bool.or_eq_true, hn, fdb]
          constructor
          · rintro (⟨z1, z2⟩ | ⟨z1, z2⟩)
            · exact ⟨sub y z1, z2⟩
            · refine ⟨z1, ?_⟩
              cases hy : S0.testBit y
              · rfl
              · have := h0 y hy; rw [z2] at this; cases this
          · rintro ⟨z1, z2⟩
            cases hy : S.testBit y
            · exact Or.inr ⟨z1, rfl⟩
            · exact Or.inl ⟨rfl, z2⟩) (fun a ha => by
          have mono : clo r a S → clo r a S' := fun z y y1 y2 => sub y (z y y1 y2)
          cases haS : S.testBit a
          · exact Or.inr (Or.inr (by rw [Nat.testBit_or, (fdb a).mpr ⟨ha, haS⟩, Bool.or_true]))
          · rcases hin a haS with z | z | z
            · exact Or.inl (mono z)
            · by_cases q : a = i
              · subst q; exact Or.inl (fun y y1 y2 => g7 y (Nat.zero_le _) y1 y2)
              · exact Or.inr (Or.inl ⟨z.1, by omega⟩)
            · exact Or.inr (Or.inr (by rw [Nat.testBit_or, z, Bool.true_or])))
        exact ⟨S2, nx2, h2, k1, fun k q1 q2 => by rw [k2 k q1 q2, g2 k q1 q2], k3⟩
theorem seek14 (hN : 100 ≤ N) : ∀ n g E S h, g ≤ 16 → 16 - g < n → E < 65536 → srS r c S h → LR r h → (∀ y, E.testBit y = true → S.testBit y = true) → (∀ a, S.testBit a = true → clo r a S ∨ E.testBit a = true) → (E ≠ 0 → g + 1 ≤ pc S 16) → ∃ S' h', xX1_seek_14 N n (nI E) (nI g) h = some (0, h') ∧ (∀ k, k ≠ 49 → k ≠ 51 → h'.1 k = h.1 k) ∧ srS r c S' h' ∧ ∀ a, S'.testBit a = true → clo r a S' := by
  intro n
  induction n with
  | zero => intro g E S h _ q; omega
  | succ n ih =>
    intro g E S h hg hq hE hs hl hES hin hpc
    rw [xX1_seek_14]
    dsimp only
    unfold xX1_seek_72
    by_cases q0 : E = 0
    · rw [if_pos (show nI E = 0 by rw [q0]; rfl), ite_self]
      refine ⟨S, h, rfl, fun _ _ _ => rfl, hs, fun a ha => (hin a ha).elim id (fun z => by rw [q0] at z; simp at z)⟩
    · have p1 := hpc q0
      have p2 := pc_le S 16
      rw [if_neg (by rw [l16, le_nn (by decide) (by omega)]; omega), if_neg (by rw [l0, eq_nn (by omega) (by decide)]; exact q0)]
      obtain ⟨S', nx, h', g1, g2, g3, g4, g5, g6, g7⟩ := seek30 (N := N) (K := xX1_seek_14 N n) (S0 := S) (g := g) hN hE N 0 S 0 h (by omega) (by omega) hs hl hES (fun _ z => z) (by decide) (fun y => ⟨fun z => by simp at z, fun z => by rw [z.1] at z; cases z.2⟩) (fun a ha => (hin a ha).elim Or.inl (fun z => Or.inr (Or.inl ⟨z, Nat.zero_le _⟩)))
      rw [show xX1_seek_30 N (xX1_seek_14 N n) N (nI E) (nI g) 0 0 h = _ from g1]
      obtain ⟨S2, h2, k1, k2, k3⟩ := ih (g + 1) nx S' h' (by omega) (by omega) g5 g3 (fun a b ha hb => by rw [g2 50 (by decide) (by decide)]; exact hl a b ha hb) (fun y z => ((g6 y).mp z).1) g7 (fun z => by
        obtain ⟨x, hx, hlx⟩ := low_ex (n := 16) g5 z
        have hx2 := (g6 x).mp hlx.1
        have sb := pc_sub (a := S) (b := S') 16 (fun i _ hi => g4 i hi)
        rcases Nat.lt_or_ge (pc S 16) (pc S' 16) with y | y
        · omega
        · have := sb.2 (by omega) x hx
          rw [hx2.1, hx2.2] at this; cases this)
      exact ⟨S2, h2, k1, fun k q1 q2 => by rw [k2 k q1 q2, g2 k q1 q2], k3⟩
theorem seek_e (hN : 100 ≤ N) (hc : c < 16) {h : HP} (hl : LR r h) : ∃ S h' cf lv, xX1_seek N (nI c) h = some (0, h') ∧ (∀ k, k ≠ 49 → k ≠ 51 → h'.1 k = h.1 k) ∧ h'.1 49 3 = nI S ∧ sdE r c S ∧ trE r c S cf lv ∧ ∀ x, S.testBit x = true → x ≠ c → h'.1 51 x = nI (cf x) := by
  unfold xX1_seek
  have p1 : pc (2 ^ c) 16 = 1 := by
    have := pc_off (a := 2 ^ c) (b := 0) (k := c) (by rw [Nat.testBit_two_pow]; simp) (fun i => by
      rw [Nat.testBit_two_pow, Nat.zero_testBit]
      by_cases q : c = i
      · subst q; simp
      · simp [q]) 16 hc
    rw [this, pc_zero]
  have tb : ∀ x, (2 ^ c).testBit x = true ↔ x = c := fun x => by rw [Nat.testBit_two_pow, decide_eq_true_iff]; exact ⟨fun z => z.symm, fun z => z.symm⟩
  rw [shl1 (by omega), lt_e, lt_e, up_at, if_pos ⟨rfl, rfl⟩]
  obtain ⟨S, h', g1, g2, ⟨s1, s2, s3, ⟨cf, lv, s4⟩, s5⟩, g4⟩ := seek14 (N := N) (r := r) (c := c) hN N 0 (2 ^ c) (2 ^ c) (up h 49 3 (nI (2 ^ c))) (by omega) (by omega) (p2_lt hc) ⟨p2_lt hc, (tb c).mpr rfl, by rw [up_at, if_pos ⟨rfl, rfl⟩], ⟨fun _ => 0, fun _ => 0, fun x hx => ⟨by rw [(tb x).mp hx]; exact hc, by show (0 : Nat) < pc (2 ^ c) 16; omega, fun z => absurd ((tb x).mp hx) z⟩⟩, fun x hx => ⟨0, (tb x).mp hx⟩⟩ (fun a b ha hb => by rw [up_n (by decide)]; exact hl a b ha hb) (fun _ z => z) (fun a ha => Or.inr ha) (fun _ => by omega)
  refine ⟨S, h', cf, lv, g1, fun k q1 q2 => by rw [g2 k q1 q2, up_n q1], s3, ⟨s1, fun x => ⟨s5 x, fun ⟨g, hg⟩ => ?_⟩⟩, fun x hx => ?_, fun x hx hxc => ((s4 x hx).2.2 hxc).2.2.2⟩
  · exact rr_in s2 (fun a b ha hb z1 z2 => by
      rcases Nat.eq_zero_or_pos (r a b) with y | y
      · exact y
      · have := g4 a z1 b hb y; rw [z2] at this; cases this) g x hg
  · obtain ⟨t1, t2, t3⟩ := s4 x hx
    have := pc_le S 16
    exact ⟨t1, by omega, fun z => ⟨(t3 z).1, (t3 z).2.1, (t3 z).2.2.1⟩⟩
end FK
