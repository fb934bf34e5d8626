section FS
variable {cap r : Nat → Nat → Nat} {N c : Nat}
/-- what a search has found so far: side S, who came from where, all of it to be come to -/
def srS (r : Nat → Nat → Nat) (c S : Nat) (h : HP) : Prop := S < 65536 ∧ S.testBit c = true ∧ h.1 49 3 = nI S ∧ (∃ cf lv : Nat → Nat, ∀ x, S.testBit x = true → x < 16 ∧ lv x < pc S 16 ∧ (x ≠ c → S.testBit (cf x) = true ∧ 0 < r (cf x) x ∧ lv (cf x) < lv x ∧ h.1 51 x = nI (cf x))) ∧ ∀ x, S.testBit x = true → ∃ g, rr r c g x
theorem srS.add {S a x : Nat} {h : HP} (hs : srS r c S h) (ha : S.testBit a = true) (hx : x < 16) (hn : S.testBit x = false) (hr : 0 < r a x) : srS r c (S ||| 2 ^ x) (up (up h 49 3 (nI (S ||| 2 ^ x))) 51 x (nI a)) ∧ pc (S ||| 2 ^ x) 16 = pc S 16 + 1 := by
  obtain ⟨s1, s2, s3, ⟨cf, lv, s4⟩, s5⟩ := hs
  have hp : pc (S ||| 2 ^ x) 16 = pc S 16 + 1 := pc_off (a := S ||| 2 ^ x) (b := S) (k := x) (by rw [or2_tb]; simp) (fun i => by
    rw [or2_tb]
    by_cases q : x = i
    · subst q; rw [hn]; simp
    · rw [decide_eq_false q, decide_eq_true (show i ≠ x from fun z => q z.symm)]; simp) 16 hx
  have inS : ∀ y, (S ||| 2 ^ x).testBit y = true ↔ (S.testBit y = true ∨ y = x) := fun y => by
    rw [or2_tb, Bool.or_eq_true, decide_eq_true_iff]
    exact ⟨fun z => z.elim Or.inl (fun z => Or.inr z.symm), fun z => z.elim Or.inl (fun z => Or.inr z.symm)⟩
  refine ⟨⟨or2_lt s1 hx, (inS c).mpr (Or.inl s2), by rw [up_n (by decide), up_at, if_pos ⟨rfl, rfl⟩], ⟨fun y => if y = x then a else cf y, fun y => if y = x then pc S 16 else lv y, fun y hy => ?_⟩, fun y hy => ?_⟩, hp⟩
  · by_cases q : y = x
    · have la : ¬ a = x := fun z => by rw [z, hn] at ha; cases ha
      dsimp only
      rw [if_pos q, if_pos q, if_neg la]
      refine ⟨by omega, by omega, fun _ => ⟨(inS a).mpr (Or.inl ha), by rw [q]; exact hr, (s4 a ha).2.1, by rw [up_at, if_pos ⟨rfl, q⟩]⟩⟩
    · have hy2 : S.testBit y = true := ((inS y).mp hy).resolve_right q
      obtain ⟨t1, t2, t3⟩ := s4 y hy2
      dsimp only
      rw [if_neg q, if_neg q]
      refine ⟨t1, by omega, fun hc => ?_⟩
      obtain ⟨u1, u2, u3, u4⟩ := t3 hc
      have lc : ¬ cf y = x := fun z => by rw [z, hn] at u1; cases u1
      rw [if_neg lc]
      exact ⟨(inS _).mpr (Or.inl u1), u2, u3, by rw [up_at, if_neg (fun z => q z.2), up_n (by decide)]; exact u4⟩
  · rcases (inS y).mp hy with z | z
    · exact s5 y z
    · obtain ⟨g, hg⟩ := s5 a ha
      exact ⟨g + 1, Or.inr ⟨a, hg, (s4 a ha).1, by omega, by rw [z]; exact hr⟩⟩
theorem spread_l {a : Nat} (ha16 : a < 16) : ∀ n x S fd h, x ≤ 16 → 16 - x < n → srS r c S h → S.testBit a = true → LR r h → fd < 65536 → ∃ S' fd' h', xX1_spreadFrom_4 N n (nI a) (nI fd) (nI x) h = some (nI fd', h') ∧ (∀ k, k ≠ 49 → k ≠ 51 → h'.1 k = h.1 k) ∧ srS r c S' h' ∧ (∀ y, S'.testBit y = true ↔ (S.testBit y = true ∨ (S'.testBit y = true ∧ S.testBit y = false))) ∧ fd' < 65536 ∧ (∀ y, fd'.testBit y = true ↔ (fd.testBit y = true ∨ (S'.testBit y = true ∧ S.testBit y = false))) ∧ ∀ y, x ≤ y → y < 16 → 0 < r a y → S'.testBit y = true := by
  intro n
  induction n with
  | zero => intro x S fd h _ q; omega
  | succ n ih =>
    intro x S fd h hx hq hs hS hl hfd
    have hs0 := hs
    obtain ⟨s1, s2, s3, s4, s5⟩ := hs
    rw [xX1_spreadFrom_4]
    dsimp only
    unfold xX1_spreadFrom_60
    by_cases e : x = 16
    · rw [if_pos (by rw [e]; decide)]
      refine ⟨S, fd, h, rfl, fun _ _ _ => rfl, hs0, fun y => ⟨Or.inl, fun z => z.elim id (fun z => z.1)⟩, hfd, fun y => ⟨Or.inl, fun z => z.elim id (fun z => ?_)⟩, fun y y1 y2 => by omega⟩
      rw [z.1] at z; cases z.2
    · have x16 : x < 16 := by omega
      obtain ⟨r1, r2⟩ := hl a x ha16 x16
      rw [if_neg (by rw [l16, le_nn (by decide) (by omega)]; omega), s3, hasBit_e (by omega) (by omega), cl_s, lt_e, nI_1]
      have skip : (0 < r a x → S.testBit x = true) → ∃ S' fd' h', xX1_spreadFrom_4 N n (nI a) (nI fd) (nI (x + 1)) h = some (nI fd', h') ∧ (∀ k, k ≠ 49 → k ≠ 51 → h'.1 k = h.1 k) ∧ srS r c S' h' ∧ (∀ y, S'.testBit y = true ↔ (S.testBit y = true ∨ (S'.testBit y = true ∧ S.testBit y = false))) ∧ fd' < 65536 ∧ (∀ y, fd'.testBit y = true ↔ (fd.testBit y = true ∨ (S'.testBit y = true ∧ S.testBit y = false))) ∧ ∀ y, x ≤ y → y < 16 → 0 < r a y → S'.testBit y = true := by
        intro z
        obtain ⟨S', fd', h', g1, g2, g3, g4, g5, g6, g7⟩ := ih (x + 1) S fd h (by omega) (by omega) hs0 hS hl hfd
        refine ⟨S', fd', h', g1, g2, g3, g4, g5, g6, fun y y1 y2 y3 => ?_⟩
        by_cases q : y = x
        · subst q; exact (g4 y).mpr (Or.inl (z y3))
        · exact g7 y (by omega) y2 y3
      cases hb : S.testBit x
      · rw [b2_f, if_neg (by decide), l16, mul_nn, add_nn, ald_n (by omega) (by decide), r1]
        by_cases q : 0 < r a x
        · rw [if_neg (by rw [l0, le_nn (by omega) (by decide)]; omega), shl1 (by omega), s3, or_nn, or_nn, lt_e, lt_e, ast_n x16 (by decide), lt_e]
          obtain ⟨a1, a2⟩ := hs0.add hS x16 hb q
          obtain ⟨S', fd', h', g1, g2, g3, g4, g5, g6, g7⟩ := ih (x + 1) (S ||| 2 ^ x) (fd ||| 2 ^ x) _ (by omega) (by omega) a1 (by rw [or2_tb, hS]; rfl) (fun a b ha hb => by rw [up_n (by decide), up_n (by decide)]; exact hl a b ha hb) (or2_lt hfd x16)
          have tb : ∀ T y, (T ||| 2 ^ x).testBit y = true ↔ (T.testBit y = true ∨ y = x) := fun T y => by
            rw [or2_tb, Bool.or_eq_true, decide_eq_true_iff]
            exact ⟨fun z => z.elim Or.inl (fun z => Or.inr z.symm), fun z => z.elim Or.inl (fun z => Or.inr z.symm)⟩
          have sub : ∀ y, S.testBit y = true ∨ y = x → S'.testBit y = true := fun y z => (g4 y).mpr (Or.inl ((tb S y).mpr z))
          refine ⟨S', fd', h', g1, fun k k1 k2 => by rw [g2 k k1 k2, up_n k2, up_n k1], g3, fun y => ⟨fun z => ?_, fun z => z.elim (fun z => sub y (Or.inl z)) (fun z => z.1)⟩, g5, fun y => ?_, fun y y1 y2 y3 => ?_⟩
          · cases hy : S.testBit y
            · exact Or.inr ⟨z, rfl⟩
            · exact Or.inl rfl
          · rw [g6, tb]
            constructor
            · rintro ((z | z) | ⟨z1, z2⟩)
              · exact Or.inl z
              · exact Or.inr ⟨sub y (Or.inr z), by rw [z]; exact hb⟩
              · refine Or.inr ⟨z1, ?_⟩
                cases hy : S.testBit y
                · rfl
                · have := (tb S y).mpr (Or.inl hy); rw [z2] at this; cases this
            · rintro (z | ⟨z1, z2⟩)
              · exact Or.inl (Or.inl z)
              · by_cases q : y = x
                · exact Or.inl (Or.inr q)
                · refine Or.inr ⟨z1, ?_⟩
                  cases hy : (S ||| 2 ^ x).testBit y
                  · rfl
                  · rcases (tb S y).mp hy with w | w
                    · rw [z2] at w; cases w
                    · exact absurd w q
          · by_cases q : y = x
            · exact sub y (Or.inr q)
            · exact g7 y (by omega) y2 y3
        · rw [if_pos (by rw [l0, le_nn (by omega) (by decide)]; omega)]
          exact skip (fun z => absurd z q)
      · rw [b2_t, if_pos (by decide)]
        exact skip (fun _ => hb)
end FS
