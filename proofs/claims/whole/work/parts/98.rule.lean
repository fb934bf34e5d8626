section RUL
variable {T : Nat → Nat} {n0 N : Nat}
theorem sg.run {C : Nat → Nat × Nat} {a b : Nat} {E : (Nat → Int32) → Option Int32} (s : sg C a b E) (h : b ≤ 240) (F : Nat → Int32) : run C F b 300 a [] = some (E F) := by
  obtain ⟨g1, g2⟩ := s.2 C (fun _ _ _ => rfl) F b 1 [] (Nat.le_refl _)
  cases e : E F with
  | none => exact run_m (g2 e) _ (by omega)
  | some v =>
    refine run_m (g1 v e (some v) ?_) _ (by omega)
    rw [run_s, if_pos (Nat.le_refl _)]
    rfl
def rl (CX CM : Nat → Nat × Nat) (k a b c : Nat) (E0 E1 : (Nat → Int32) → Option Int32) : Prop := k < 256 ∧ a ≤ b ∧ (k ≠ 120 → sg CX a b E0 ∧ sg CM a b E0) ∧ sg CX b c E1 ∧ sg CM b c E1 ∧ bl E1
theorem rl.ext {CX CM DX DM : Nat → Nat × Nat} {k a b c ℓ : Nat} {E0 E1 : (Nat → Int32) → Option Int32} (r : rl CX CM k a b c E0 E1) (hc : c ≤ ℓ) (ex : ∀ k, k < ℓ → DX k = CX k) (em : ∀ k, k < ℓ → DM k = CM k) : rl DX DM k a b c E0 E1 := by
  obtain ⟨r1, r2, r3, r4, r5, r6⟩ := r
  have bc := r4.1
  exact ⟨r1, r2, fun z => ⟨(r3 z).1.ext (fun k _ k2 => ex k (by omega)), (r3 z).2.ext (fun k _ k2 => em k (by omega))⟩, r4.ext (fun k _ k2 => ex k (by omega)), r5.ext (fun k _ k2 => em k (by omega)), r6⟩
/-- r rules have been read -/
def RI (r ℓ : Nat) (CX CM : Nat → Nat × Nat) (hx hm : HP) : Prop := CXh 21 22 CX 0 ℓ hx ∧ CMh 9 CM 0 ℓ hm ∧ ∀ i, i < r → ∃ k a b c E0 E1, c ≤ ℓ ∧ rl CX CM k a b c E0 E1 ∧ (hx.1 23 i = nI k ∧ hx.1 24 i = nI a ∧ hx.1 25 i = nI b ∧ hx.1 26 i = nI c) ∧ hm.1 11 i = nI k ∧ hm.1 12 i = nI a ∧ hm.1 13 i = nI b ∧ hm.1 14 i = nI c
/-- what reading rules leaves alone -/
def fU (h h' : HP) : Prop := (∀ k, k ≠ 1 → (k < 20 ∨ 26 < k) → h'.1 k = h.1 k) ∧ (∀ j, j ≠ 2 → j ≠ 4 → h'.1 1 j = h.1 1 j)
def gE (h h' : HP) : Prop := (∀ k, k ≠ 0 → (k < 9 ∨ 14 < k) → h'.1 k = h.1 k) ∧ ∀ j, (j < 11 ∨ j = 12 ∨ 18 < j) → h'.1 0 j = h.1 0 j
theorem fU.tr {h h1 h2 : HP} (a : fU h h1) (b : fU h1 h2) : fU h h2 := ⟨fun k q1 q2 => (b.1 k q1 q2).trans (a.1 k q1 q2), fun j q1 q2 => (b.2 j q1 q2).trans (a.2 j q1 q2)⟩
theorem gE.tr {h h1 h2 : HP} (a : gE h h1) (b : gE h1 h2) : gE h h2 := ⟨fun k q1 q2 => (b.1 k q1 q2).trans (a.1 k q1 q2), fun j q => (b.2 j q).trans (a.2 j q)⟩
theorem fL.U {ℓ : Nat} {h h' : HP} (q : fL ℓ h h') : fU h h' := ⟨fun k q1 q2 => q.1 k q1 (by omega) (by omega) (by omega), q.2.1⟩
theorem gL.E {ℓ : Nat} {h h' : HP} (q : gL ℓ h h') : gE h h' := ⟨fun k q1 q2 => q.1 k q1 (by omega) (by omega), fun j q3 => q.2.1 j (by omega)⟩
theorem fU.up {h : HP} {k j : Nat} {v : Int32} (hk : 20 ≤ k ∧ k ≤ 26) : fU h (up h k j v) := ⟨fun a q1 q2 => up_n (by omega), fun i _ _ => by rw [up_n (by omega)]⟩
theorem gE.up {h : HP} {k j : Nat} {v : Int32} (hk : (9 ≤ k ∧ k ≤ 14) ∨ (k = 0 ∧ (j = 11 ∨ (13 ≤ j ∧ j ≤ 18)))) : gE h (up h k j v) := ⟨fun a q1 q2 => up_n (by omega), fun i q => by rw [up_at, if_neg (by omega)]⟩
def rT (N : Nat) (K : Int32 → HP → Option (Int32 × HP)) (r : Nat) (h : HP) : Option (Int32 × HP) := cl (xX7_isAtEnd h) fun t10 h11 => if t10 = 0 then (cl (xX7_demands 59 h11) fun t12 h13 => if t12 ≠ 0 then (lt (nI (r + 1)) fun v14 => K v14 h13) else (zok 0 (some (0, h13)))) else (zok 1 (some (1, h11)))
theorem rdc_e {n p : Nat} {hm h' : HP} (tp : TP T n0) (hp : p ≤ n0) (t : TcM T n0 p hm) (e : pk T n0 p = 40) (ho : xX11_opens 13 (up (up hm 0 15 0) 0 17 0) = some (1, h')) : xX11_readsCondition N hm = TS N N h' := by
  unfold xX11_readsCondition TS
  rw [here_e tp hp t, cl_s, if_pos e, lt_e, lt_e, ho, cl_s, if_pos (show (1 : Int32) ≠ 0 from by decide)]
/-- behind the sum of a rule: its condition -/
theorem rule_b {p ℓ r : Nat} {hx hm : HP} {K : Int32 → HP → Option (Int32 × HP)} (hN : 300 ≤ N) (tp : TP T n0) (tx : TcX T n0 p hx) (tm : TcM T n0 p hm) (lx : hx.1 20 6 = nI ℓ) (lm : hm.1 0 16 = nI ℓ) (h18 : hm.1 0 18 = nI r) (hr : r < 16) (hp : 1 ≤ p) (hl : ℓ ≤ p) : (∃ p' ℓ' hx' hm' E, xX2_readFrom_111 N K (nI r) hx = rT N K r hx' ∧ xX11_readsRule_110 N hm = some (1, hm') ∧ TcX T n0 p' hx' ∧ TcM T n0 p' hm' ∧ hx'.1 20 6 = nI ℓ' ∧ hm'.1 0 16 = nI ℓ' ∧ hx'.1 20 7 = nI (r + 1) ∧ hm'.1 0 18 = nI (r + 1) ∧ ℓ ≤ ℓ' ∧ ℓ' ≤ p' ∧ p ≤ p' ∧ bl E ∧ fU hx hx' ∧ gE hm hm' ∧ (∀ k, k < ℓ → hx'.1 21 k = hx.1 21 k ∧ hx'.1 22 k = hx.1 22 k ∧ hm'.1 9 k = hm.1 9 k) ∧ (hx'.1 23 = hx.1 23 ∧ hx'.1 24 = hx.1 24 ∧ hm'.1 11 = hm.1 11 ∧ hm'.1 12 = hm.1 12) ∧ (∀ i, i ≠ r → hx'.1 25 i = hx.1 25 i ∧ hx'.1 26 i = hx.1 26 i ∧ hm'.1 13 i = hm.1 13 i ∧ hm'.1 14 i = hm.1 14 i) ∧ (hx'.1 25 r = nI ℓ ∧ hx'.1 26 r = nI ℓ' ∧ hm'.1 13 r = nI ℓ ∧ hm'.1 14 r = nI ℓ') ∧ ∃ CX CM, CXh 21 22 CX ℓ ℓ' hx' ∧ CMh 9 CM ℓ ℓ' hm' ∧ sg CX ℓ ℓ' E ∧ sg CM ℓ ℓ' E) ∨ (∃ hx' hm', xX2_readFrom_111 N K (nI r) hx = some (0, hx') ∧ xX11_readsRule_110 N hm = some (0, hm') ∧ hx'.1 1 4 = hm'.1 0 13 ∧ fU hx hx' ∧ gE hm hm') := by
  have hn0 := tp.1
  have pn := tx.1
  unfold xX2_readFrom_111 xX2_readFrom_148 xX11_readsRule_110
  rw [lx, ast_n hr (by decide), h18, lm, ast_n hr (by decide)]
  have fx0 : fU hx (up hx 25 r (nI ℓ)) := fU.up (by omega)
  have gm0 : gE hm (up hm 13 r (nI ℓ)) := gE.up (by omega)
  have tx1 : TcX T n0 p (up hx 25 r (nI ℓ)) := ⟨tx.1, by rw [up_n (by decide)]; exact tx.2.1, by rw [up_n (by decide)]; exact tx.2.2.1, fun i hi => by rw [up_n (by decide)]; exact tx.2.2.2 i hi⟩
  have tm1 : TcM T n0 p (up hm 13 r (nI ℓ)) := ⟨by rw [up_n (by decide)]; exact tm.1, by rw [up_n (by decide)]; exact tm.2.1, fun i hi => by rw [up_n (by decide)]; exact tm.2.2 i hi⟩
  have cx1 : ∀ k, k ≠ 25 → (up hx 25 r (nI ℓ)).1 k = hx.1 k := fun k hk => up_n hk
  have cm1 : ∀ k, k ≠ 13 → (up hm 13 r (nI ℓ)).1 k = hm.1 k := fun k hk => up_n hk
  have x25 : ∀ i, (up hx 25 r (nI ℓ)).1 25 i = if i = r then nI ℓ else hx.1 25 i := fun i => by
    rw [up_at]; by_cases z : i = r
    · rw [if_pos ⟨rfl, z⟩, if_pos z]
    · rw [if_neg (fun y => z y.2), if_neg z]
  have m13 : ∀ i, (up hm 13 r (nI ℓ)).1 13 i = if i = r then nI ℓ else hm.1 13 i := fun i => by
    rw [up_at]; by_cases z : i = r
    · rw [if_pos ⟨rfl, z⟩, if_pos z]
    · rw [if_neg (fun y => z y.2), if_neg z]
  generalize up hx 25 r (nI ℓ) = hx1 at *
  generalize up hm 13 r (nI ℓ) = hm1 at *
  by_cases e : pk T n0 p = 40
  · have pl := (pk_is (v := 40) tp (by decide) e).1
    rw [dem_t tp tx1 e, cl_s, if_neg (show ¬ (1 : Int32) = 0 from by decide)]
    have tm2 : TcM T n0 p (up (up hm1 0 15 0) 0 17 0) := ⟨by rw [up_at, if_neg (by decide), up_at, if_neg (by decide)]; exact tm1.1, by rw [up_at, if_neg (by decide), up_at, if_neg (by decide)]; exact tm1.2.1, fun i hi => by rw [up_n (by decide), up_n (by decide)]; exact tm1.2.2 i hi⟩
    have w0 : WS [] (up (up hm1 0 15 0) 0 17 0) := ⟨by rw [up_at, if_pos ⟨rfl, rfl⟩]; rfl, trivial, (fun e he => by cases he), by decide⟩
    have g2 : gL ℓ hm1 (up (up hm1 0 15 0) 0 17 0) := ⟨fun k q1 _ _ => by rw [up_n q1, up_n q1], fun j q => by rw [up_at, if_neg (by omega), up_at, if_neg (by omega)], fun k _ => by rw [up_n (by decide), up_n (by decide)]⟩
    obtain ⟨h', c1, c2, c3, c4, c5, c6⟩ := opens_t (k := 13) (o := 0) (by decide) tm2 (by rw [up_at, if_neg (by decide), up_at, if_pos ⟨rfl, rfl⟩]; rfl) (by decide) w0 (by decide) ℓ
    have l16 : h'.1 0 16 = nI ℓ := by rw [c5, up_at, if_neg (by decide), up_at, if_neg (by decide), cm1 0 (by decide)]; exact lm
    rw [rdc_e (N := N) (n := n0) tp pn tm1 e c1]
    have fx2 : fP hx1 (up hx1 1 2 (hx1.1 1 2 + 1)) := fP.up (Or.inl rfl)
    have ps : PS T n0 (p + 1) ℓ 1 [(13, 0)] (up hx1 1 2 (hx1.1 1 2 + 1)) h' := ⟨tx1.mv pl, c4, by rw [fx2.1 20 (by decide), cx1 20 (by decide)]; exact lx, l16, c2, c3, by decide, by show 1 ≤ p + 1; omega⟩
    rcases (testcond (N := N) hN tp 60).1 1 (p + 1) ℓ [] _ h' N (by decide) (by decide) ps (by omega) (by omega) (by omega) with ⟨p', ℓ', hx2, x', m', E, n', mm, a1, a1', a2, a3, a4, a6, ⟨b1, b2', b3, b4, b5, CX, CM, b6, b7, b8, b9⟩⟩ | ⟨x', m', a1, a2, a3, a4, a5⟩
    · obtain ⟨tx2, tm2', lx2, lm2, o2, w2, -, -⟩ := b1
      have pn2 := tx2.1
      have l01 := b8.1
      have eD : DS N n' mm m' = some (1, m') := by
        unfold DS
        rw [w2.1, if_neg (fun z => z rfl), zok_1]
      have fX : fL ℓ hx1 x' := (fx2.L ℓ).tr (Nat.le_refl _) b4
      have gX : gL ℓ hm1 m' := (g2.tr (Nat.le_refl _) c6).tr (Nat.le_refl _) b5
      have m18 : m'.1 0 18 = nI r := by rw [gX.2.1 18 (by omega), cm1 0 (by decide)]; exact h18
      rw [show xr_X2_readCondition N 60 1 (up hx1 1 2 (hx1.1 1 2 + 1)) = _ from a1, cl_s, if_neg (show ¬ (1 : Int32) = 0 from by decide), a1', cl_s, if_pos (show (1 : Int32) ≠ 0 from by decide), lx2, ast_n hr (by decide), lt_e, nI_1, a2, eD, cl_s, if_pos (show (1 : Int32) ≠ 0 from by decide), m18, lm2, ast_n hr (by decide), lt_e, show (up m' 14 r (nI ℓ')).1 0 18 = nI r from by rw [up_n (by decide)]; exact m18, nI_1, zok_1]
      refine Or.inl ⟨p', ℓ', up (up x' 26 r (nI ℓ')) 20 7 (nI (r + 1)), up (up m' 14 r (nI ℓ')) 0 18 (nI (r + 1)), E, rfl, rfl, ⟨tx2.1, by rw [up_n (by decide), up_n (by decide)]; exact tx2.2.1, by rw [up_n (by decide), up_n (by decide)]; exact tx2.2.2.1, fun i hi => by rw [up_n (by decide), up_n (by decide)]; exact tx2.2.2.2 i hi⟩, ⟨by rw [up_at, if_neg (by decide), up_n (by decide)]; exact tm2'.1, by rw [up_at, if_neg (by decide), up_n (by decide)]; exact tm2'.2.1, fun i hi => by rw [up_n (by decide), up_n (by decide)]; exact tm2'.2.2 i hi⟩, by rw [up_at, if_neg (by decide), up_n (by decide)]; exact lx2, by rw [up_at, if_neg (by decide), up_n (by decide)]; exact lm2, by rw [up_at, if_pos ⟨rfl, rfl⟩], by rw [up_at, if_pos ⟨rfl, rfl⟩], l01, by omega, by omega, a6, fx0.tr (fX.U.tr ((fU.up (by omega)).tr (fU.up (by omega)))), gm0.tr (gX.E.tr ((gE.up (by omega)).tr (gE.up (by omega)))), fun k hk => ⟨?_, ?_, ?_⟩, ⟨?_, ?_, ?_, ?_⟩, fun i hi => ⟨?_, ?_, ?_, ?_⟩, ⟨?_, ?_, ?_, ?_⟩, CX, CM, fun k k1 k2 => ?_, fun k k1 k2 => ?_, b8, b9⟩
      · rw [up_n (by decide), up_n (by decide), (fX.2.2.2 k hk).1, cx1 21 (by decide)]
      · rw [up_n (by decide), up_n (by decide), (fX.2.2.2 k hk).2, cx1 22 (by decide)]
      · rw [up_n (by decide), up_n (by decide), gX.2.2 k hk, cm1 9 (by decide)]
      · rw [up_n (by decide), up_n (by decide), fX.1 23 (by decide) (by decide) (by decide) (by decide), cx1 23 (by decide)]
      · rw [up_n (by decide), up_n (by decide), fX.1 24 (by decide) (by decide) (by decide) (by decide), cx1 24 (by decide)]
      · rw [up_n (by decide), up_n (by decide), gX.1 11 (by decide) (by decide) (by decide), cm1 11 (by decide)]
      · rw [up_n (by decide), up_n (by decide), gX.1 12 (by decide) (by decide) (by decide), cm1 12 (by decide)]
      · rw [up_n (by decide), up_n (by decide), fX.1 25 (by decide) (by decide) (by decide) (by decide), x25, if_neg hi]
      · rw [up_n (by decide), up_at, if_neg (fun z => hi z.2), fX.1 26 (by decide) (by decide) (by decide) (by decide), cx1 26 (by decide)]
      · rw [up_n (by decide), up_n (by decide), gX.1 13 (by decide) (by decide) (by decide), m13, if_neg hi]
      · rw [up_n (by decide), up_at, if_neg (fun z => hi z.2), gX.1 14 (by decide) (by decide) (by decide), cm1 14 (by decide)]
      · rw [up_n (by decide), up_n (by decide), fX.1 25 (by decide) (by decide) (by decide) (by decide), x25, if_pos rfl]
      · rw [up_n (by decide), up_at, if_pos ⟨rfl, rfl⟩]
      · rw [up_n (by decide), up_n (by decide), gX.1 13 (by decide) (by decide) (by decide), m13, if_pos rfl]
      · rw [up_n (by decide), up_at, if_pos ⟨rfl, rfl⟩]
      · rw [up_n (by decide), up_n (by decide), up_n (by decide), up_n (by decide)]; exact b6 k k1 k2
      · rw [up_n (by decide), up_n (by decide)]; exact b7 k k1 k2
    · refine Or.inr ⟨x', m', ?_, ?_, a3, fx0.tr ((fx2.L ℓ).tr (Nat.le_refl _) a4).U, gm0.tr ((g2.tr (Nat.le_refl _) c6).tr (Nat.le_refl _) a5).E⟩
      · rcases a1 with z | ⟨hx2, z1, z2⟩
        · rw [show xr_X2_readCondition N 60 1 (up hx1 1 2 (hx1.1 1 2 + 1)) = _ from z, cl_s, if_pos (show (0 : Int32) = 0 from rfl), zok_0]
        · rw [show xr_X2_readCondition N 60 1 (up hx1 1 2 (hx1.1 1 2 + 1)) = _ from z1, cl_s, if_neg (show ¬ (1 : Int32) = 0 from by decide), z2, cl_s, if_neg (show ¬ (0 : Int32) ≠ 0 from by decide), zok_0]
      · rw [a2, cl_s, if_neg (show ¬ (0 : Int32) ≠ 0 from by decide), zok_0]
  · refine Or.inr ⟨up hx1 1 4 ((-1000) * 1 - nI p), up hm1 0 13 ((-1000) * 1 - nI p), ?_, ?_, by rw [up_at, if_pos ⟨rfl, rfl⟩, up_at, if_pos ⟨rfl, rfl⟩], fx0.tr ((fP.up (Or.inr rfl)).L ℓ).U, gm0.tr ((gP.up (Or.inr (Or.inl rfl))).L ℓ).E⟩
    · rw [dem_f tp tx1 e, cl_s, if_pos (show (0 : Int32) = 0 from rfl), zok_0]
    · unfold xX11_readsCondition
      rw [here_e tp pn tm1, cl_s, if_neg e, wro_e, cl_s, zok_0, cl_s, if_neg (show ¬ (0 : Int32) ≠ 0 from by decide), zok_0, tm1.1]
end RUL
