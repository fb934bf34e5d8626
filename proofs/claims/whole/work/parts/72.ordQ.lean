section ORQ
variable {T : Nat → Nat} {n p : Nat} {hx hm : HP} {N : Nat} {A S : AS} {ℓ : Nat}
theorem bgn_c (tp : TP T n) : bgn T n p ∨ (((pk T n p < 97 ∨ (113 : Int32) ≤ pk T n p) ∧ (pk T n p - 97 < 0 ∨ (15 : Int32) < pk T n p - 97)) ∧ pk T n p ≠ 35 ∧ pk T n p ≠ 126) := by
  rcases lt_c (p := p) tp with h | h
  · exact Or.inl (Or.inl h)
  · by_cases q : pk T n p = 35
    · exact Or.inl (Or.inr (Or.inl q))
    · by_cases y : pk T n p = 126
      · exact Or.inl (Or.inr (Or.inr y))
      · exact Or.inr ⟨h, q, y⟩
theorem beg_X (tp : TP T n) (tx : TcX T n p hx) (b : bgn T n p) {k : Nat} (hl : ℓ ≤ 20) : xX4_readFrom_7 N (k + 1) (nI ℓ) hx = xX4_readFrom_45 N (xX4_readFrom_7 N k) (nI ℓ) 1 hx := by
  rw [xX4_readFrom_7]
  dsimp only
  unfold xX4_readFrom_40
  rw [if_neg (by rw [l20, lt_nn (by decide) (by omega)]; omega), peek_e tp tx, cl_s]
  rcases b with ⟨c, c16, cn, e⟩ | e | e
  · rw [atCor_t tp tx c16 e, cl_s, if_pos (show (1 : Int32) ≠ 0 from by decide)]
  · rw [atCor_f tp tx (by rw [e]; decide), cl_s, if_neg (show ¬ (0 : Int32) ≠ 0 from by decide), if_pos e]
  · rw [atCor_f tp tx (by rw [e]; decide), cl_s, if_neg (show ¬ (0 : Int32) ≠ 0 from by decide), if_neg (by rw [e]; decide), if_neg (fun z => z e)]
theorem beg_M (tp : TP T n) (hp : p ≤ n) (tm : TcM T n p hm) (b : bgn T n p) : xX11_readsOrder N hm = xX11_readsOrder_34 N (pk T n p) hm := by
  unfold xX11_readsOrder
  rw [here_e tp hp tm, cl_s]
  rcases b with ⟨c, c16, cn, e⟩ | e | e
  · rw [isLet_t tp hp tm c16 e, cl_s, if_pos (show (1 : Int32) ≠ 0 from by decide)]
  · rw [isLet_f tp hp tm (by rw [e]; decide), cl_s, if_neg (show ¬ (0 : Int32) ≠ 0 from by decide), if_pos e]
  · rw [isLet_f tp hp tm (by rw [e]; decide), cl_s, if_neg (show ¬ (0 : Int32) ≠ 0 from by decide), if_neg (by rw [e]; decide), if_pos e]
theorem ord46_0 {k : Nat} (hk : 1 ≤ k) (h : HP) : xX11_orders_46 N k 0 h = xX11_orders_86 N 0 h := by
  obtain ⟨k, rfl⟩ : ∃ j, k = j + 1 := ⟨k - 1, by omega⟩
  rw [xX11_orders_46]
  dsimp only
  rw [if_pos rfl]
def gQo (h h' : HP) : Prop := (∀ k, k ≠ 0 → k ≠ 1 → h'.1 k = h.1 k) ∧ ∀ j, j ≠ 11 → j ≠ 13 → j ≠ 14 → j ≠ 39 → h'.1 0 j = h.1 0 j
theorem gQo.tr {h h1 h2 : HP} (a : gQo h h1) (b : gQo h1 h2) : gQo h h2 := ⟨fun k q1 q2 => (b.1 k q1 q2).trans (a.1 k q1 q2), fun j q1 q2 q3 q4 => (b.2 j q1 q2 q3 q4).trans (a.2 j q1 q2 q3 q4)⟩
theorem gO.Q {h h' : HP} (q : gO h h') : gQo h h' := ⟨q.1, fun j q1 q2 q3 _ => q.2 j q1 q2 q3⟩
theorem gQo.up39 {h : HP} {v : Int32} : gQo h (up h 0 39 v) := ⟨fun k q _ => up_n q, fun j _ _ _ q => by rw [up_at, if_neg (fun z => q z.2)]⟩
/-- what was read so far: the class has noted it, the reference has done it -/
def OS (A : AS) (os : Nat → Nat × Nat × Nat) (ℓ : Nat) : Prop := (∀ i, i ≤ ℓ → WF (foO A os i)) ∧ ∀ i, i < ℓ → okO (foO A os i) (os i).1 (os i).2.1 (os i).2.2
theorem fo_00 {os : Nat → Nat × Nat × Nat} : ∀ i, (∀ a, (a = 1 ∨ a = 2 ∨ a = 3 ∨ a = 4) → foO A os i a = A a) ∧ foO A os i 0 0 = A 0 0 ∧ foO A os i 0 1 = A 0 1 := by
  intro i
  induction i with
  | zero => exact ⟨fun _ _ => rfl, rfl, rfl⟩
  | succ i ih => exact ⟨fun a ha => by rw [← ih.1 a ha]; rcases ha with rfl | rfl | rfl | rfl <;> rfl, ih.2.1, ih.2.2⟩
theorem fo_ext {os os' : Nat → Nat × Nat × Nat} : ∀ i, (∀ j, j < i → os' j = os j) → foO A os' i = foO A os i := by
  intro i
  induction i with
  | zero => intro _; rfl
  | succ i ih => intro h; simp only [foO]; rw [ih (fun j hj => h j (by omega)), h i (by omega)]
def snc (os : Nat → Nat × Nat × Nat) (ℓ k w v : Nat) (i : Nat) : Nat × Nat × Nat := if i = ℓ then (k, w, v) else os i
theorem OS.sn {os : Nat → Nat × Nat × Nat} {k w v : Nat} (o : OS A os ℓ) (ok : okO (foO A os ℓ) k w v) : OS A (snc os ℓ k w v) (ℓ + 1) ∧ foO A (snc os ℓ k w v) (ℓ + 1) = apO (foO A os ℓ) k w v := by
  have e : ∀ i, i ≤ ℓ → foO A (snc os ℓ k w v) i = foO A os i := fun i hi => fo_ext i (fun j hj => by unfold snc; rw [if_neg (by omega)])
  have f : foO A (snc os ℓ k w v) (ℓ + 1) = apO (foO A os ℓ) k w v := by
    simp only [foO]
    rw [e ℓ (Nat.le_refl _)]
    unfold snc
    rw [if_pos rfl]
  refine ⟨⟨fun i hi => ?_, fun i hi => ?_⟩, f⟩
  · by_cases q : i = ℓ + 1
    · rw [q, f]; exact (o.1 ℓ (Nat.le_refl _)).ap ok
    · rw [e i (by omega)]; exact o.1 i (by omega)
  · rw [e i (by omega)]
    by_cases q : i = ℓ
    · subst q
      unfold snc
      rw [if_pos rfl]; exact ok
    · unfold snc
      rw [if_neg q]; exact o.2 i (by omega)
theorem OX.sn {os : Nat → Nat × Nat × Nat} {k w v : Nat} {h h' : HP} (o : OX os ℓ h) (q : nt ℓ k w v h h') : OX (snc os ℓ k w v) (ℓ + 1) h' := by
  obtain ⟨q1, q2, q3, q4, q5⟩ := q
  refine ⟨q1, fun i hi => ?_⟩
  unfold snc
  by_cases z : i = ℓ
  · subst z; rw [if_pos rfl]; exact ⟨q3, q4, q5⟩
  · rw [if_neg z, (q2 i (by omega)).1, (q2 i (by omega)).2.1, (q2 i (by omega)).2.2]; exact o.2 i (by omega)
theorem ofrom_l (hN : 100 ≤ N) (tp : TP T n) : ∀ k n1 n2 ℓ os p hx hm, 20 - ℓ < k → ℓ ≤ 20 → k ≤ n1 → k < n2 → TcX T n p hx → TcM T n p hm → TX A hx → TM A hm → OX os ℓ hx → OS A os ℓ → SMa (hm.1 1) (foO A os ℓ) → hm.1 0 39 = nI ℓ → ∃ r hx' hm' r1 hm1, xX4_readFrom_7 N n1 (nI ℓ) hx = some (r, hx') ∧ xX11_readsOrder N hm = some (r1, hm1) ∧ (r1 = 0 ∨ r1 = 1) ∧ xX11_orders_46 N n2 r1 hm1 = xX11_orders_86 N r hm' ∧ fO hx hx' ∧ gQo hm hm' ∧ ((r = 1 ∧ ∃ os' m, m ≤ 20 ∧ OX os' m hx' ∧ OS A os' m ∧ SMa (hm'.1 1) (foO A os' m) ∧ hm'.1 0 39 = nI m) ∨ (r = 0 ∧ hx'.1 1 4 = hm'.1 0 13)) := by
  intro k
  induction k with
  | zero => intro n1 n2 ℓ os p hx hm h; omega
  | succ k ih =>
    intro n1 n2 ℓ os p hx hm hk hl h1 h2 tx tm tX tM ox o s h39
    obtain ⟨n1, rfl⟩ : ∃ k, n1 = k + 1 := ⟨n1 - 1, by omega⟩
    have hn := tp.1
    have hp := tx.1
    rcases bgn_c (p := p) tp with b | ⟨⟨b1, b2'⟩, b3, b4⟩
    · rw [beg_X tp tx b hl]
      unfold xX4_readFrom_45
      rw [if_pos (show (1 : Int32) ≠ 0 from by decide)]
      by_cases q : ℓ = 20
      · have em : xX11_readsOrder N hm = some (0, up hm 0 13 ((-1000) * 4 - nI p)) := by
          rw [beg_M tp hp tm b]
          unfold xX11_readsOrder_34
          rw [h39, if_neg (by rw [q]; exact fun z => z rfl), wro_e, cl_s, zok_0, tm.1]
        rw [if_neg (by rw [q]; exact fun z => z rfl), ref_e, cl_s, zok_0]
        exact ⟨0, _, _, 0, _, rfl, em, Or.inl rfl, ord46_0 (by omega) _, (fP.up (Or.inr rfl)).O, (gP.up (Or.inr (Or.inl rfl))).O.Q, Or.inr ⟨rfl, by rw [up_at, if_pos ⟨rfl, rfl⟩, up_at, if_pos ⟨rfl, rfl⟩, tx.2.1]⟩⟩
      · rw [if_pos (by rw [ne_eq, l20, eq_nn (by omega) (by decide)]; exact q)]
        obtain ⟨z1, z2, z3⟩ := fo_00 (A := A) (os := os) ℓ
        have tX' : TX (foO A os ℓ) hx := by
          unfold TX; rw [z2, z3, z1 1 (by omega), z1 2 (by omega), z1 3 (by omega), z1 4 (by omega)]; exact tX
        have tM' : TM (foO A os ℓ) hm := by
          unfold TM; rw [z2, z3, z1 1 (by omega), z1 2 (by omega), z1 3 (by omega), z1 4 (by omega)]; exact tM
        obtain ⟨r, x', m', e1, e2, e3, e4, ⟨rfl, p', kk, w, v, f1, f2, f3, f4, f5⟩ | ⟨rfl, e5⟩⟩ := ord_e (N := N) hN tp tx tm (by omega) ox.1 (o.1 ℓ (Nat.le_refl _)) s tX' tM' b h39
        · have gg : gQo hm m' := gQo.up39.tr e4.Q
          have hp' := f1.1
          obtain ⟨o1, o2⟩ := o.sn f3
          have ox1 := ox.sn f4
          have m39 : m'.1 0 39 = nI (ℓ + 1) := by rw [e4.2 39 (by decide) (by decide) (by decide), up_at, if_pos ⟨rfl, rfl⟩]
          rw [← o2] at f5
          obtain ⟨n2, rfl⟩ : ∃ k, n2 = k + 1 := ⟨n2 - 1, by omega⟩
          rw [e1, cl_s, if_pos (show (1 : Int32) ≠ 0 from by decide), atEnd_e tp f1, cl_s]
          have e2' : xX11_readsOrder N hm = some (1, m') := by rw [beg_M tp hp tm b]; exact e2
          by_cases z : n ≤ p'
          · rw [decide_eq_true z, b2_t, if_neg (show ¬ (1 : Int32) = 0 from by decide), zok_1]
            refine ⟨1, x', m', 1, m', rfl, e2', Or.inr rfl, ?_, e3, gg, Or.inl ⟨rfl, _, ℓ + 1, by omega, ox1, o1, f5, m39⟩⟩
            rw [xX11_orders_46]
            dsimp only
            rw [if_neg (show ¬ (1 : Int32) = 0 from by decide), f2.1, f2.2.1, if_pos (by rw [le_nn (by omega) (by omega)]; omega)]
          · rw [decide_eq_false z, b2_f, if_pos rfl]
            by_cases y : pk T n p' = 59
            · rw [dem_t tp f1 y, cl_s, if_pos (show (1 : Int32) ≠ 0 from by decide), lt_e, nI_1]
              have fx : fP x' (up x' 1 2 (x'.1 1 2 + 1)) := fP.up (Or.inl rfl)
              have gm : gP m' (up m' 0 11 (m'.1 0 11 + 1)) := gP.up (Or.inl rfl)
              have kX : ∀ k, k ≠ 1 → (k < 27 ∨ 30 < k) → (up x' 1 2 (x'.1 1 2 + 1)).1 k = hx.1 k := fun k q1 q2 => by rw [fx.1 k q1, e3.1 k q1 q2]
              have kM : ∀ k, k ≠ 0 → k ≠ 1 → (up m' 0 11 (m'.1 0 11 + 1)).1 k = hm.1 k := fun k q1 q2 => by rw [gm.1 k q1, gg.1 k q1 q2]
              have kM0 : ∀ j, j ≠ 11 → j ≠ 13 → j ≠ 14 → j ≠ 39 → (up m' 0 11 (m'.1 0 11 + 1)).1 0 j = hm.1 0 j := fun j q1 q2 q3 q4 => by rw [gm.2 j q1 q2 q3, gg.2 j q1 q2 q3 q4]
              obtain ⟨r, x2, m2, r1, m1, g1, g2, g3, g4, g5, g6, g7⟩ := ih n1 n2 (ℓ + 1) (snc os ℓ kk w v) (p' + 1) _ _ (by omega) (by omega) (by omega) (by omega) (f1.mv (by omega)) f2.mv (by
                obtain ⟨t1, t2, t3, t4⟩ := tX
                exact ⟨by rw [kX 3 (by decide) (by decide)]; exact t1, by rw [kX 3 (by decide) (by decide)]; exact t2, fun c hc => by rw [kX 4 (by decide) (by decide)]; exact t3 c hc, fun p hp => by rw [kX 5 (by decide) (by decide), kX 6 (by decide) (by decide), kX 7 (by decide) (by decide)]; exact t4 p hp⟩) (by
                obtain ⟨t1, t2, t3, t4⟩ := tM
                exact ⟨by rw [kM0 7 (by decide) (by decide) (by decide) (by decide)]; exact t1, by rw [kM0 8 (by decide) (by decide) (by decide) (by decide)]; exact t2, fun c hc => by rw [kM 4 (by decide) (by decide)]; exact t3 c hc, fun p hp => by rw [kM 5 (by decide) (by decide), kM 6 (by decide) (by decide), kM 7 (by decide) (by decide)]; exact t4 p hp⟩) ⟨by rw [fx.1 27 (by decide)]; exact ox1.1, fun i hi => by rw [fx.1 28 (by decide), fx.1 29 (by decide), fx.1 30 (by decide)]; exact ox1.2 i hi⟩ o1 (by rw [gm.1 1 (by decide)]; exact f5) (by rw [gm.2 39 (by decide) (by decide) (by decide)]; exact m39)
              refine ⟨r, x2, m2, 1, m', g1, e2', Or.inr rfl, ?_, e3.tr (fx.O.tr g5), gg.tr (gm.O.Q.tr g6), g7⟩
              rw [xX11_orders_46]
              dsimp only
              rw [if_neg (show ¬ (1 : Int32) = 0 from by decide), f2.1, f2.2.1, if_neg (by rw [le_nn (by omega) (by omega)]; omega), mta_t tp hp' f2 y, cl_s, if_neg (show ¬ (1 : Int32) = 0 from by decide), g2, cl_s]
              unfold xX11_orders_81 xX11_orders_82
              rcases g3 with rfl | rfl
              · rw [if_pos rfl]; exact g4
              · rw [if_neg (show ¬ (1 : Int32) = 0 from by decide)]; exact g4
            · rw [dem_f tp f1 y, cl_s, if_neg (show ¬ (0 : Int32) ≠ 0 from by decide), zok_0]
              refine ⟨0, _, up m' 0 13 ((-1000) * 1 - nI p'), 1, m', rfl, e2', Or.inr rfl, ?_, e3.tr (fP.up (Or.inr rfl)).O, gg.tr (gP.up (Or.inr (Or.inl rfl))).O.Q, Or.inr ⟨rfl, by rw [up_at, if_pos ⟨rfl, rfl⟩, up_at, if_pos ⟨rfl, rfl⟩]⟩⟩
              rw [xX11_orders_46]
              dsimp only
              rw [if_neg (show ¬ (1 : Int32) = 0 from by decide), f2.1, f2.2.1, if_neg (by rw [le_nn (by omega) (by omega)]; omega), mta_f tp hp' f2 y, cl_s, if_pos rfl]
              unfold xX11_orders_81 xX11_orders_82
              exact ord46_0 (by omega) _
        · rw [e1, cl_s, if_neg (show ¬ (0 : Int32) ≠ 0 from by decide), zok_0]
          exact ⟨0, x', m', 0, m', rfl, by rw [beg_M tp hp tm b]; exact e2, Or.inl rfl, ord46_0 (by omega) _, e3, gQo.up39.tr e4.Q, Or.inr ⟨rfl, e5⟩⟩
    · have em : xX11_readsOrder N hm = some (0, up hm 0 13 ((-1000) * 1 - nI p)) := by
        unfold xX11_readsOrder
        rw [here_e tp hp tm, cl_s, isLet_f tp hp tm b2', cl_s, if_neg (show ¬ (0 : Int32) ≠ 0 from by decide), if_neg b3, if_neg b4, wro_e, cl_s, zok_0, tm.1]
      have ex : xX4_readFrom_7 N (n1 + 1) (nI ℓ) hx = some (0, up hx 1 4 ((-1000) * 1 - nI p)) := by
        rw [xX4_readFrom_7]
        dsimp only
        unfold xX4_readFrom_45
        rw [if_neg (by rw [l20, lt_nn (by decide) (by omega)]; omega), peek_e tp tx, cl_s, atCor_f tp tx b1, cl_s, if_neg (show ¬ (0 : Int32) ≠ 0 from by decide), if_neg b3, if_pos b4, if_neg (show ¬ (0 : Int32) ≠ 0 from by decide), ref_e, cl_s, zok_0, tx.2.1]
      exact ⟨0, _, _, 0, _, ex, em, Or.inl rfl, ord46_0 (by omega) _, (fP.up (Or.inr rfl)).O, (gP.up (Or.inr (Or.inl rfl))).O.Q, Or.inr ⟨rfl, by rw [up_at, if_pos ⟨rfl, rfl⟩, up_at, if_pos ⟨rfl, rfl⟩]⟩⟩
end ORQ
