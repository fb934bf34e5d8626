section FM9
variable {A : AS} {op N c : Nat} {one : Bool}
def btw (A : AS) (p a b : Nat) : Prop := (A 2 p = a ∧ A 3 p = b) ∨ (A 3 p = a ∧ A 2 p = b)
theorem ac_btw {p a b : Nat} (w : WFt A) (hp : p < A 0 1) : ac A p a = some b ↔ btw A p a b := by
  have w3 := (w.2 p hp).2.2.1
  unfold btw
  rw [ac_eq]
  by_cases q : A 2 p = a
  · rw [if_pos q]
    constructor
    · intro z; cases z; exact Or.inl ⟨q, rfl⟩
    · rintro (z | z)
      · rw [z.2]
      · exact absurd (by rw [q, z.1]) w3
  · rw [if_neg q]
    by_cases q2 : A 3 p = a
    · rw [if_pos q2]
      constructor
      · intro z; cases z; exact Or.inr ⟨q2, rfl⟩
      · rintro (z | z)
        · exact absurd z.1 q
        · rw [z.2]
    · rw [if_neg q2]
      constructor
      · intro z; cases z
      · rintro (y | y)
        · exact absurd y.1 q
        · exact absurd y.1 q2
/-- cell 26 holds the flow -/
def FC (A : AS) (f : Nat → Int) (h : HP) : Prop := ∀ p, p < A 0 1 → h.1 26 p = Int32.ofInt (f p)
theorem restOf_e {f : Nat → Int} {h : HP} {p a b : Nat} (w : WFt A) (hn : A 0 1 ≤ 24) (ok : okF A one f) (t : TM A h) (hf : FC A f h) (hp : p < A 0 1) (hb : btw A p a b) : xX11_restOf (nI p) (nI a) (b2 one) h = some (nI (rsI A one f p a).toNat, h) := by
  obtain ⟨t1, t2, t3⟩ := t.2.2.2 p hp
  obtain ⟨w1, w2, w3, -, -, w4, w5⟩ := w.2 p hp
  have g := (rs_sum (one := one) w ok hp hb).1
  have a16 : a < 16 := by rcases hb with h | h <;> omega
  have e14 : xX11_restOf_14 (nI p) (nI a) (nI (wdt A one p)) h = some (nI (rsI A one f p a).toNat, h) := by
    unfold xX11_restOf_14 xX11_restOf_47
    rw [ald_n (by omega) (by decide), t1, ald_n (by omega) (by decide), hf p hp, ofI_n (wdt A one p), ofI_add, ald_n (by omega) (by decide), hf p hp, ofI_sub, ofI_n (rsI A one f p a).toNat, Int.toNat_of_nonneg g]
    unfold rsI
    by_cases q : A 2 p = a
    · rw [if_neg (by rw [q]; simp), if_pos q]
    · rw [if_pos (by rw [ne_eq, eq_nn (by omega) (by omega)]; exact q), if_neg q]
  unfold xX11_restOf
  cases one with
  | false => rw [b2_f, if_pos rfl, ald_n (by omega) (by decide), t3]; exact e14
  | true => rw [b2_t, if_neg (by decide)]; exact e14
/-- the reference's search: its queue is the order of finding -/
def srM (A : AS) (op : Nat) (one : Bool) (f : Nat → Int) (c S : Nat) (h : HP) : Prop :=
  S < 65536 ∧ S.testBit c = true ∧ h.1 0 44 = nI (pc S 16) ∧
  (∃ q lv cf cp : Nat → Nat, (∀ i, i < pc S 16 → S.testBit (q i) = true ∧ h.1 28 i = nI (q i)) ∧
    ∀ x, S.testBit x = true → x < 16 ∧ lv x < pc S 16 ∧ q (lv x) = x ∧ (x ≠ c → S.testBit (cf x) = true ∧ lv (cf x) < lv x ∧ h.1 27 x = nI (cp x) ∧ cp x < A 0 1 ∧ op.testBit (cp x) = true ∧ btw A (cp x) (cf x) x ∧ rsI A one f (cp x) (cf x) ≠ 0)) ∧
  ∀ x, S.testBit x = true → ∃ g, rr (fun a b => rN A op one f a b (A 0 1)) c g x
theorem srM.add {f : Nat → Int} {S a x p : Nat} {h : HP} (w : WFt A) (ok : okF A one f) (hs : srM A op one f c S h) (ha : S.testBit a = true) (hx : x < 16) (hn : S.testBit x = false) (hp : p < A 0 1) (hop : op.testBit p = true) (hb : btw A p a x) (hr : rsI A one f p a ≠ 0) : srM A op one f c (S ||| 2 ^ x) (up (up (up h 27 x (nI p)) 28 (pc S 16) (nI x)) 0 44 (nI (pc S 16 + 1))) := by
  obtain ⟨s1, s2, s3, ⟨q, lv, cf, cp, sq, s4⟩, s5⟩ := hs
  have hpc : pc (S ||| 2 ^ x) 16 = pc S 16 + 1 := pc_off (a := S ||| 2 ^ x) (b := S) (k := x) (by rw [or2_tb]; simp) (fun i => by
    rw [or2_tb]
    by_cases z : x = i
    · subst z; rw [hn]; simp
    · rw [decide_eq_false z, decide_eq_true (show i ≠ x from fun y => z y.symm)]; simp) 16 hx
  have inS : ∀ y, (S ||| 2 ^ x).testBit y = true ↔ (S.testBit y = true ∨ y = x) := fun y => by
    rw [or2_tb, Bool.or_eq_true, decide_eq_true_iff]
    exact ⟨fun z => z.elim Or.inl (fun z => Or.inr z.symm), fun z => z.elim Or.inl (fun z => Or.inr z.symm)⟩
  refine ⟨or2_lt s1 hx, (inS c).mpr (Or.inl s2), by rw [up_at, if_pos ⟨rfl, rfl⟩, hpc], ⟨fun i => if i = pc S 16 then x else q i, fun y => if y = x then pc S 16 else lv y, fun y => if y = x then a else cf y, fun y => if y = x then p else cp y, fun i hi => ?_, fun y hy => ?_⟩, fun y hy => ?_⟩
  · dsimp only
    by_cases z : i = pc S 16
    · rw [if_pos z]
      exact ⟨(inS x).mpr (Or.inr rfl), by rw [up_n (by decide), up_at, if_pos ⟨rfl, z⟩]⟩
    · rw [if_neg z]
      obtain ⟨i1, i2⟩ := sq i (by omega)
      exact ⟨(inS _).mpr (Or.inl i1), by rw [up_n (by decide), up_at, if_neg (fun y => z y.2), up_n (by decide)]; exact i2⟩
  · dsimp only
    by_cases z : y = x
    · have la : ¬ a = x := fun y => by rw [y, hn] at ha; cases ha
      rw [if_pos z, if_pos z, if_pos z, if_pos rfl, if_neg la]
      exact ⟨by omega, by omega, z.symm, fun _ => ⟨(inS a).mpr (Or.inl ha), (s4 a ha).2.1, by rw [up_n (by decide), up_n (by decide), up_at, if_pos ⟨rfl, z⟩], hp, hop, by rw [z]; exact hb, hr⟩⟩
    · have hy2 : S.testBit y = true := ((inS y).mp hy).resolve_right z
      obtain ⟨t1, t2, t3, t4⟩ := s4 y hy2
      rw [if_neg z, if_neg z, if_neg z, if_neg (by omega)]
      refine ⟨t1, by omega, t3, fun hc => ?_⟩
      obtain ⟨u1, u2, u3, u4⟩ := t4 hc
      have lc : ¬ cf y = x := fun k => by rw [k, hn] at u1; cases u1
      rw [if_neg lc]
      exact ⟨(inS _).mpr (Or.inl u1), u2, by rw [up_n (by decide), up_n (by decide), up_at, if_neg (fun k => z k.2)]; exact u3, u4⟩
  · rcases (inS y).mp hy with z | z
    · exact s5 y z
    · obtain ⟨g, hg⟩ := s5 a ha
      exact ⟨g + 1, Or.inr ⟨a, hg, (s4 a ha).1, by omega, (rN_pos w ok (A 0 1) (Nat.le_refl _)).mpr ⟨p, hp, hop, by rw [z]; exact hb, hr⟩⟩⟩
end FM9
