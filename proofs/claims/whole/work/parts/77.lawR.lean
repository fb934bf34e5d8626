/-! ===== the law in the class's cells and in the reference's says the same ===== -/
def LRu (CX CM : Nat → Nat × Nat) (k a b c : Nat) (E0 E1 : (Nat → Int32) → Option Int32) : Prop := k < 256 ∧ a ≤ b ∧ b ≤ c ∧ c ≤ 240 ∧ (k ≠ 120 → ∀ F, run CX F b 300 a [] = some (E0 F) ∧ run CM F b 300 a [] = some (E0 F)) ∧ ∀ F, run CX F c 300 b [] = some (E1 F) ∧ run CM F c 300 b [] = some (E1 F) ∧ ∀ v, E1 F = some v → v = 0 ∨ v = 1
def LW (hx hm : HP) : Prop := ∃ (m len : Nat) (CX CM : Nat → Nat × Nat), m ≤ 16 ∧ hx.1 13 7 = nI m ∧ hm.1 0 19 = nI m ∧ len ≤ 240 ∧ CXh 14 15 CX 0 len hx ∧ CMh 15 CM 0 len hm ∧ ∀ i, i < m → ∃ k a b c E0 E1, c ≤ len ∧ LRu CX CM k a b c E0 E1 ∧ (hx.1 16 i = nI k ∧ hx.1 17 i = nI a ∧ hx.1 18 i = nI b ∧ hx.1 19 i = nI c) ∧ hm.1 16 i = nI k ∧ hm.1 17 i = nI a ∧ hm.1 18 i = nI b ∧ hm.1 19 i = nI c
theorem LW.tr {hx hm hx' hm' : HP} (l : LW hx hm) (x : leX hx hx') (m : leM hm hm') : LW hx' hm' := by
  obtain ⟨n, len, CX, CM, a1, a2, a3, a4, a5, a6, a7⟩ := l
  refine ⟨n, len, CX, CM, a1, by rw [x 13 (by decide) (by decide)]; exact a2, by rw [m.1]; exact a3, a4, fun k k1 k2 => ?_, fun k k1 k2 => ?_, fun i hi => ?_⟩
  · rw [x 14 (by decide) (by decide), x 15 (by decide) (by decide)]; exact a5 k k1 k2
  · rw [m.2 15 (by decide) (by decide)]; exact a6 k k1 k2
  · obtain ⟨k, a, b, c, E0, E1, b1, b2', b3, b4⟩ := a7 i hi
    refine ⟨k, a, b, c, E0, E1, b1, b2', ?_, ?_⟩
    · rw [x 16 (by decide) (by decide), x 17 (by decide) (by decide), x 18 (by decide) (by decide), x 19 (by decide) (by decide)]; exact b3
    · rw [m.2 16 (by decide) (by decide), m.2 17 (by decide) (by decide), m.2 18 (by decide) (by decide), m.2 19 (by decide) (by decide)]; exact b4
section LAW
variable {N : Nat} {F : Nat → Int32}
theorem work_e {CX : Nat → Nat × Nat} {a b len : Nat} {r : Option Int32} {h : HP} (hN : 300 ≤ N) (hab : a ≤ b) (hb : b ≤ len) (hl : len ≤ 240) (hc : CXh 14 15 CX 0 len h) (hf : FcX N F h) (e : run CX F b 300 a [] = some r) : ∃ h', xX8_work N (nI a) (nI b) h = some (rbit r, h') ∧ fW h h' ∧ ∀ v, r = some v → h'.1 43 6 = v := by
  unfold xX8_work
  exact workX (N := N) (first := a) (last := b) (by omega) N a [] r 0 h (run_m e N hN) (fun k k1 k2 => hc k (Nat.zero_le _) (by omega)) hf trivial (by omega) (by omega) (Nat.le_refl _)
theorem reckons_e {CM : Nat → Nat × Nat} {a b len : Nat} {r : Option Int32} {h : HP} (hN : 300 ≤ N) (hab : a ≤ b) (hb : b ≤ len) (hl : len ≤ 240) (hc : CMh 15 CM 0 len h) (hf : ∀ i, i < 10 → h.1 21 i = F i) (e : run CM F b 300 a [] = some r) : ∃ h', xX11_reckonsTo N (nI a) (nI b) h = some (rval r, h') ∧ ∀ k, k ≠ 20 → h'.1 k = h.1 k := by
  unfold xX11_reckonsTo
  rw [lt_e, l260, div_nn (by omega) (by decide) (by decide), mul_nn, show 260 * (a / 260) = 0 by omega]
  exact reckM (N := N) (first := a) (last := b) (by omega) N a [] r h (run_m e N hN) (fun k k1 k2 => hc k (Nat.zero_le _) (by omega)) hf trivial (by show 0 + a ≤ a; omega) (by omega)
theorem LW.fr {hx hm hx' hm' : HP} (l : LW hx hm) (x : fW hx hx') (m : ∀ k, k ≠ 20 → hm'.1 k = hm.1 k) : LW hx' hm' := l.tr (fun k k1 k2 => x.1 k (by omega) (by omega)) ⟨by rw [m 0 (by decide)], fun k k1 k2 => m k (by omega)⟩
theorem clamp (v : Int32) : ∃ w, w ≤ 99 ∧ imx 0 (imn 99 v) = nI w ∧ (∀ (h : HP) , (if 0 ≤ v then (if v ≤ 99 then some (v, h) else some (99, h)) else some (0, h)) = some (nI w, h)) := by
  by_cases z : 0 ≤ v
  · obtain ⟨j, hj, e⟩ := nI_of (x := v) (fun q => by rw [i_lt] at q; rw [i_le] at z; omega)
    subst e
    refine ⟨min 99 j, Nat.min_le_left _ _, by rw [l99, imn_nn (by decide) hj, l0, imx_nn (by decide) (by omega), Nat.max_eq_right (Nat.zero_le _)], fun h => ?_⟩
    rw [if_pos z]
    by_cases y : j ≤ 99
    · rw [if_pos (by rw [l99, le_nn hj (by decide)]; exact y), Nat.min_eq_right y]
    · rw [if_neg (by rw [l99, le_nn hj (by decide)]; exact y), Nat.min_eq_left (by omega)]; rfl
  · have z2 : v.toInt < 0 := by rw [i_le] at z; have : (0 : Int32).toInt = 0 := rfl; omega
    have e1 : imn 99 v = v := by
      unfold imn
      rw [if_pos (by rw [i_lt]; have : (99 : Int32).toInt = 99 := rfl; omega)]
    have e2 : imx 0 v = 0 := by
      unfold imx
      rw [if_neg (by rw [i_lt]; have : (0 : Int32).toInt = 0 := rfl; omega)]
    exact ⟨0, by decide, by rw [e1, e2]; rfl, fun h => by rw [if_neg z]; rfl⟩
theorem amount_l {κ : Nat} (hN : 300 ≤ N) (hk : κ < 256) (hk2 : κ ≠ 120) {m : Nat} : ∀ n i hx hm, LW hx hm → hx.1 13 7 = nI m → m ≤ 16 → FcX N F hx → (∀ i, i < 10 → hm.1 21 i = F i) → i ≤ m → m - i < n → ∃ v hx' hm', v ≤ 99 ∧ xX8_amountOf_2 N n (nI κ) (nI i) hx = some (nI v, hx') ∧ xX11_byLaw_2 N n (nI κ) (nI i) hm = some (nI v, hm') ∧ fW hx hx' ∧ ∀ k, k ≠ 20 → hm'.1 k = hm.1 k := by
  intro n
  induction n with
  | zero => intro i hx hm _ _ _ _ _ _ q; omega
  | succ n ih =>
    intro i hx hm lw h7 h16 fx fm hi hq
    obtain ⟨m', len, CX, CM, a1, a2, a3, a4, a5, a6, a7⟩ := id lw
    have em : m' = m := by rw [h7, eq_nn (by omega) (by omega)] at a2; exact a2.symm
    subst em
    rw [xX8_amountOf_2, xX11_byLaw_2]
    dsimp only
    unfold xX8_amountOf_31 xX8_amountOf_115 xX8_amountOf_114 xX11_byLaw_81 xX11_byLaw_80
    rw [h7, a3]
    by_cases e : i = m'
    · have le : nI m' ≤ nI i := by rw [le_nn (by omega) (by omega)]; omega
      rw [if_pos le, if_pos le]
      exact ⟨1, hx, hm, by decide, rfl, rfl, fW.rf _, fun _ _ => rfl⟩
    · have le : ¬ nI m' ≤ nI i := by rw [le_nn (by omega) (by omega)]; omega
      obtain ⟨k, a, b, c, E0, E1, b1, ⟨r1, r2, r3, r4, r5, r6⟩, ⟨x1, x2, x3, x4⟩, y1, y2, y3, y4⟩ := a7 i (by omega)
      obtain ⟨s1, s2, s3⟩ := r6 F
      rw [if_neg le, if_neg le, ald_n (h := hx) (k := 16) (show i < 16 by omega) (by decide), ald_n (h := hm) (k := 16) (show i < 16 by omega) (by decide), x1, y1]
      have next : ∀ (hx1 hm1 : HP), fW hx hx1 → (∀ k, k ≠ 20 → hm1.1 k = hm.1 k) → ∃ v hx' hm', v ≤ 99 ∧ xX8_amountOf_2 N n (nI κ) (nI (i + 1)) hx1 = some (nI v, hx') ∧ xX11_byLaw_2 N n (nI κ) (nI (i + 1)) hm1 = some (nI v, hm') ∧ fW hx hx' ∧ ∀ k, k ≠ 20 → hm'.1 k = hm.1 k := by
        intro hx1 hm1 f1 g1
        obtain ⟨v, x', m'', v1, v2, v3, v4, v5⟩ := ih (i + 1) hx1 hm1 (lw.fr f1 g1) (by rw [f1.1 13 (by decide) (by decide)]; exact h7) h16 (fx.fW f1) (fun i hi => by rw [g1 21 (by decide)]; exact fm i hi) (by omega) (by omega)
        exact ⟨v, x', m'', v1, v2, v3, f1.tr v4, fun k hk => by rw [v5 k hk, g1 k hk]⟩
      by_cases q : k = κ
      · have q2 : ¬ nI k ≠ nI κ := fun z => z (by rw [q])
        obtain ⟨hx1, w1, w2, w3⟩ := work_e (N := N) hN r3 b1 a4 a5 fx s1
        obtain ⟨hm1, u1, u2⟩ := reckons_e (N := N) hN r3 b1 a4 a6 fm s2
        rw [if_neg q2, if_neg q2, if_neg (show ¬ (1 : Int32) = 0 from by decide), ald_n (h := hx) (k := 18) (show i < 16 by omega) (by decide), ald_n (h := hx) (k := 19) (show i < 16 by omega) (by decide), ald_n (h := hm) (k := 18) (show i < 16 by omega) (by decide), ald_n (h := hm) (k := 19) (show i < 16 by omega) (by decide), x3, x4, y3, y4, w1, u1, cl_s, cl_s]
        have skip : (rbit (E1 F) = 0 ∨ hx1.1 43 6 = 0) → rval (E1 F) ≠ 1 → ∃ v hx' hm', v ≤ 99 ∧ (if rbit (E1 F) = 0 then lt (nI i + 1) fun v1 => xX8_amountOf_2 N n (nI κ) v1 hx1 else if hx1.1 43 6 = 0 then lt (nI i + 1) fun v1 => xX8_amountOf_2 N n (nI κ) v1 hx1 else ald hx1 17 16 (nI i) fun t5 => ald hx1 18 16 (nI i) fun t6 => cl (xX8_work N t5 t6 hx1) fun t7 h8 => if t7 = 0 then some (0, h8) else some (imx 0 (imn 99 (h8.1 43 6)), h8)) = some (nI v, hx') ∧ (if rval (E1 F) = 1 then ald hm1 17 16 (nI i) fun t6 => ald hm1 18 16 (nI i) fun t7 => cl (xX11_reckonsTo N t6 t7 hm1) fun t8 h9 => if 0 ≤ t8 then if t8 ≤ 99 then some (t8, h9) else some (99, h9) else some (0, h9) else lt (nI i + 1) fun v1 => xX11_byLaw_2 N n (nI κ) v1 hm1) = some (nI v, hm') ∧ fW hx hx' ∧ ∀ k, k ≠ 20 → hm'.1 k = hm.1 k := by
          intro z1 z2
          rw [if_neg z2, lt_e, nI_1]
          by_cases z3 : rbit (E1 F) = 0
          · rw [if_pos z3, lt_e]; exact next _ _ w2 u2
          · rw [if_neg z3, if_pos (z1.resolve_left z3), lt_e]; exact next _ _ w2 u2
        cases hE : E1 F with
        | none => rw [hE] at skip; exact skip (Or.inl rfl) (by decide)
        | some v =>
          rcases s3 v hE with rfl | rfl
          · rw [hE] at skip
            exact skip (Or.inr (w3 0 hE)) (by decide)
          · obtain ⟨t1, t2⟩ := r5 (by omega) F
            have c5 : CXh 14 15 CX 0 len hx1 := fun k k1 k2 => by rw [w2.1 14 (by decide) (by decide), w2.1 15 (by decide) (by decide)]; exact a5 k k1 k2
            have c6 : CMh 15 CM 0 len hm1 := fun k k1 k2 => by rw [u2 15 (by decide)]; exact a6 k k1 k2
            obtain ⟨hx2, w4, w5, w6⟩ := work_e (N := N) hN r2 (show b ≤ len by omega) a4 c5 (fx.fW w2) t1
            obtain ⟨hm2, u3, u4⟩ := reckons_e (N := N) (F := F) hN r2 (show b ≤ len by omega) a4 c6 (fun i hi => by rw [u2 21 (by decide)]; exact fm i hi) t2
            rw [if_neg (show ¬ rbit (some 1) = 0 from by decide), if_neg (by rw [w3 1 hE]; decide), if_pos (show rval (some 1) = 1 from rfl), ald_n (h := hx1) (k := 17) (show i < 16 by omega) (by decide), ald_n (h := hx1) (k := 18) (show i < 16 by omega) (by decide), ald_n (h := hm1) (k := 17) (show i < 16 by omega) (by decide), ald_n (h := hm1) (k := 18) (show i < 16 by omega) (by decide), w2.1 17 (by decide) (by decide), w2.1 18 (by decide) (by decide), u2 17 (by decide), u2 18 (by decide), x2, x3, y2, y3, w4, u3, cl_s, cl_s]
            have fin : ∀ v, v ≤ 99 → ∀ d1 d2 : Option (Int32 × HP), d1 = some (nI v, hx2) → d2 = some (nI v, hm2) → ∃ v hx' hm', v ≤ 99 ∧ d1 = some (nI v, hx') ∧ d2 = some (nI v, hm') ∧ fW hx hx' ∧ ∀ k, k ≠ 20 → hm'.1 k = hm.1 k := fun v hv d1 d2 e1 e2 => ⟨v, hx2, hm2, hv, e1, e2, w2.tr w5, fun k hk => by rw [u4 k hk, u2 k hk]⟩
            cases hE0 : E0 F with
            | none => exact fin 0 (by decide) _ _ (by rw [if_pos (show rbit none = 0 from rfl)]; rfl) (by rw [show rval none = 0 from rfl, if_pos (by decide), if_pos (by decide)]; rfl)
            | some v =>
              obtain ⟨w, hw, k1, k2⟩ := clamp v
              exact fin w hw _ _ (by rw [if_neg (show ¬ rbit (some v) = 0 from (show ¬ (1 : Int32) = 0 from by decide)), w6 v hE0, k1]) (k2 hm2)
      · have q2 : nI k ≠ nI κ := i_ne (by omega) (by omega) q
        rw [if_pos q2, if_pos q2, if_pos (show (0 : Int32) = 0 from rfl), lt_e, nI_1]
        exact next _ _ (fW.rf _) (fun _ _ => rfl)
theorem amount_e {κ : Nat} {hx hm : HP} (hN : 300 ≤ N) (hk : κ < 256) (hk2 : κ ≠ 120) (lw : LW hx hm) (fx : FcX N F hx) (fm : ∀ i, i < 10 → hm.1 21 i = F i) : ∃ v hx' hm', v ≤ 99 ∧ xX8_amountOf N (nI κ) hx = some (nI v, hx') ∧ xX11_byLaw N (nI κ) hm = some (nI v, hm') ∧ fW hx hx' ∧ ∀ k, k ≠ 20 → hm'.1 k = hm.1 k := by
  obtain ⟨m, len, CX, CM, a1, a2, a3, -⟩ := id lw
  exact amount_l (N := N) (F := F) hN hk hk2 N 0 hx hm lw a2 a1 fx fm (by omega) (by omega)
theorem frozen_l (hN : 300 ≤ N) {m : Nat} : ∀ n i hx hm, LW hx hm → hx.1 13 7 = nI m → m ≤ 16 → FcX N F hx → (∀ i, i < 10 → hm.1 21 i = F i) → i ≤ m → m - i < n → ∃ v hx' hm', xX8_isFrozen_2 N n (nI i) hx = some (b2 v, hx') ∧ xX11_holdsAny_2 N n 120 (nI i) hm = some (b2 v, hm') ∧ fW hx hx' ∧ ∀ k, k ≠ 20 → hm'.1 k = hm.1 k := by
  intro n
  induction n with
  | zero => intro i hx hm _ _ _ _ _ _ q; omega
  | succ n ih =>
    intro i hx hm lw h7 h16 fx fm hi hq
    obtain ⟨m', len, CX, CM, a1, a2, a3, a4, a5, a6, a7⟩ := id lw
    have em : m' = m := by rw [h7, eq_nn (by omega) (by omega)] at a2; exact a2.symm
    subst em
    rw [xX8_isFrozen_2, xX11_holdsAny_2]
    dsimp only
    unfold xX8_isFrozen_32 xX8_isFrozen_71 xX11_holdsAny_42
    rw [h7, a3]
    by_cases e : i = m'
    · have le : nI m' ≤ nI i := by rw [le_nn (by omega) (by omega)]; omega
      rw [if_pos le, if_pos le, zok_0, zok_0]
      exact ⟨false, hx, hm, rfl, rfl, fW.rf _, fun _ _ => rfl⟩
    · have le : ¬ nI m' ≤ nI i := by rw [le_nn (by omega) (by omega)]; omega
      obtain ⟨k, a, b, c, E0, E1, b1, ⟨r1, r2, r3, r4, r5, r6⟩, ⟨x1, x2, x3, x4⟩, y1, y2, y3, y4⟩ := a7 i (by omega)
      obtain ⟨s1, s2, s3⟩ := r6 F
      rw [if_neg le, if_neg le, ald_n (h := hx) (k := 16) (show i < 16 by omega) (by decide), ald_n (h := hm) (k := 16) (show i < 16 by omega) (by decide), x1, y1]
      have next : ∀ (hx1 hm1 : HP), fW hx hx1 → (∀ k, k ≠ 20 → hm1.1 k = hm.1 k) → ∃ v hx' hm', xX8_isFrozen_2 N n (nI (i + 1)) hx1 = some (b2 v, hx') ∧ xX11_holdsAny_2 N n 120 (nI (i + 1)) hm1 = some (b2 v, hm') ∧ fW hx hx' ∧ ∀ k, k ≠ 20 → hm'.1 k = hm.1 k := by
        intro hx1 hm1 f1 g1
        obtain ⟨v, x', m'', v2, v3, v4, v5⟩ := ih (i + 1) hx1 hm1 (lw.fr f1 g1) (by rw [f1.1 13 (by decide) (by decide)]; exact h7) h16 (fx.fW f1) (fun i hi => by rw [g1 21 (by decide)]; exact fm i hi) (by omega) (by omega)
        exact ⟨v, x', m'', v2, v3, f1.tr v4, fun k hk => by rw [v5 k hk, g1 k hk]⟩
      by_cases q : k = 120
      · have q2 : ¬ nI k ≠ 120 := fun z => z (by rw [q]; rfl)
        obtain ⟨hx1, w1, w2, w3⟩ := work_e (N := N) hN r3 b1 a4 a5 fx s1
        obtain ⟨hm1, u1, u2⟩ := reckons_e (N := N) hN r3 b1 a4 a6 fm s2
        rw [if_neg q2, if_neg q2, if_neg (show ¬ (1 : Int32) = 0 from by decide), ald_n (h := hx) (k := 18) (show i < 16 by omega) (by decide), ald_n (h := hx) (k := 19) (show i < 16 by omega) (by decide), ald_n (h := hm) (k := 18) (show i < 16 by omega) (by decide), ald_n (h := hm) (k := 19) (show i < 16 by omega) (by decide), x3, x4, y3, y4, w1, u1, cl_s, cl_s]
        cases hE : E1 F with
        | none =>
          rw [if_pos (show rbit none = 0 from rfl), if_pos (show rval none ≠ 1 from by decide), lt_e, nI_1, lt_e]
          exact next _ _ w2 u2
        | some v =>
          rcases s3 v hE with rfl | rfl
          · rw [if_neg (show ¬ rbit (some 0) = 0 from by decide), if_pos (w3 0 hE), if_pos (show rval (some 0) ≠ 1 from by decide), lt_e, nI_1, lt_e]
            exact next _ _ w2 u2
          · rw [if_neg (show ¬ rbit (some 1) = 0 from by decide), if_neg (by rw [w3 1 hE]; decide), if_neg (show ¬ rval (some 1) ≠ 1 from fun k => k rfl), zok_1, zok_1]
            exact ⟨true, hx1, hm1, rfl, rfl, w2, u2⟩
      · have q2 : nI k ≠ 120 := i_ne (b := 120) (by omega) (by omega) q
        rw [if_pos q2, if_pos q2, if_pos (show (0 : Int32) = 0 from rfl), lt_e, nI_1, lt_e]
        exact next _ _ (fW.rf _) (fun _ _ => rfl)
theorem frozen_e {hx hm : HP} (hN : 300 ≤ N) (lw : LW hx hm) (fx : FcX N F hx) (fm : ∀ i, i < 10 → hm.1 21 i = F i) : ∃ v hx' hm', xX8_isFrozen N hx = some (b2 v, hx') ∧ xX11_holdsAny N 120 hm = some (b2 v, hm') ∧ fW hx hx' ∧ ∀ k, k ≠ 20 → hm'.1 k = hm.1 k := by
  obtain ⟨m, len, CX, CM, a1, a2, a3, -⟩ := id lw
  exact frozen_l (N := N) (F := F) hN N 0 hx hm lw a2 a1 fx fm (by omega) (by omega)
end LAW
