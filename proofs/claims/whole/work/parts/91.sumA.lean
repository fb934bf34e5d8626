section SMA
variable {T : Nat → Nat} {n p ℓ o N : Nat} {W : List (Nat × Nat)} {hx hm : HP}
def isP (op : Nat) : Prop := op = 4 ∨ op = 5 ∨ op = 6
def isS (op : Nat) : Prop := op = 2 ∨ op = 3
def noS (W : List (Nat × Nat)) : Prop := ∀ e W', W = e :: W' → ¬ (2 ≤ e.1 ∧ e.1 ≤ 6)
theorem clo_A {h : HP} {pr ss : Nat} (hN : 300 ≤ N) (hp : pr = 0 ∨ isP pr) (hs : ss = 0 ∨ isS ss) (hW : noS W) (t : TcM T n p h) (e15 : h.1 0 15 = nI o) (e16 : h.1 0 16 = nI ℓ) (hl : ℓ < 245) (w : WS (pw pr ++ (pw ss ++ W)) h) : ∃ h', xX11_closesSums N 0 h = some (0, h') ∧ TcM T n p h' ∧ h'.1 0 15 = nI o ∧ h'.1 0 16 = nI (ℓ + nx pr) ∧ WS (pw ss ++ W) h' ∧ gL ℓ h h' ∧ (pr = 0 ∨ h'.1 9 ℓ = nI (1048576 * pr)) := by
  obtain ⟨f, rfl⟩ : ∃ f, N = f + 1 := ⟨N - 1, by omega⟩
  unfold xX11_closesSums
  obtain ⟨h', e1, e2, e3, e4, e5, e6, e7⟩ := clo_p (N := f + 1) (a := 0) (op := pr) (f := f) (hp.imp id (fun z => Or.inl (by unfold isP at z; omega))) t e15 e16 (by omega) w
  have nx1 : nx pr ≤ 1 := by unfold nx; split <;> omega
  obtain ⟨f2, e8⟩ : ∃ f2, f + 1 - nx pr = f2 + 1 := ⟨f - nx pr, by omega⟩
  rw [e1, e8, clo_0 e5 (fun e W' he hc => ?_)]
  · exact ⟨h', rfl, e2, e3, e4, e5, e6, e7.imp (fun z => z.1) (fun z => z.2)⟩
  · unfold clS at hc
    rcases hs with rfl | hs
    · have := hW e W' he; omega
    · rw [pw_n (by unfold isS at hs; omega)] at he
      cases he
      unfold isS at hs
      simp at hc
      omega
theorem clo_B {h : HP} {pr ss : Nat} (hN : 300 ≤ N) (hp : pr = 0 ∨ isP pr) (hs : ss = 0 ∨ isS ss) (hW : noS W) (t : TcM T n p h) (e15 : h.1 0 15 = nI o) (e16 : h.1 0 16 = nI ℓ) (hl : ℓ < 245) (w : WS (pw pr ++ (pw ss ++ W)) h) : ∃ h', xX11_closesSums N 1 h = some (0, h') ∧ TcM T n p h' ∧ h'.1 0 15 = nI o ∧ h'.1 0 16 = nI (ℓ + nx pr + nx ss) ∧ WS W h' ∧ gL ℓ h h' ∧ (pr = 0 ∨ h'.1 9 ℓ = nI (1048576 * pr)) ∧ (ss = 0 ∨ h'.1 9 (ℓ + nx pr) = nI (1048576 * ss)) := by
  obtain ⟨f, rfl⟩ : ∃ f, N = f + 1 := ⟨N - 1, by omega⟩
  unfold xX11_closesSums
  obtain ⟨h1, e1, e2, e3, e4, e5, e6, e7⟩ := clo_p (N := f + 1) (a := 1) (op := pr) (f := f) (hp.imp id (fun z => Or.inl (by unfold isP at z; omega))) t e15 e16 (by omega) w
  have nx1 : nx pr ≤ 1 := by unfold nx; split <;> omega
  have nx2 : nx ss ≤ 1 := by unfold nx; split <;> omega
  obtain ⟨f2, e8⟩ : ∃ f2, f + 1 - nx pr = f2 + 1 := ⟨f - nx pr, by omega⟩
  obtain ⟨h2, d1, d2, d3, d4, d5, d6, d7⟩ := clo_p (N := f + 1) (a := 1) (op := ss) (f := f2) (hs.imp id (fun z => Or.inr ⟨by decide, z⟩)) e2 e3 e4 (by omega) e5
  obtain ⟨f3, d8⟩ : ∃ f3, f2 + 1 - nx ss = f3 + 1 := ⟨f2 - nx ss, by omega⟩
  rw [e1, e8, d1, d8, clo_0 d5 (fun e W' he hc => by unfold clS at hc; have := hW e W' he; omega)]
  refine ⟨h2, rfl, d2, d3, d4, d5, e6.tr (by omega) d6, ?_, d7.imp (fun z => z.1) (fun z => z.2)⟩
  rcases e7 with z | z
  · exact Or.inl z.1
  · refine Or.inr ?_
    rw [d6.2.2 ℓ (by have := nx_n z.1; omega)]; exact z.2
/-! the signs between factors -/
theorem sgn_c (x : Int32) : (∃ op, 2 ≤ op ∧ op ≤ 6 ∧ x = nI (sgn op)) ∨ (x ≠ 43 ∧ x ≠ 45 ∧ x ≠ 42 ∧ x ≠ 47 ∧ x ≠ 37) := by
  by_cases h1 : x = 43
  · exact Or.inl ⟨2, by decide, by decide, h1⟩
  by_cases h2 : x = 45
  · exact Or.inl ⟨3, by decide, by decide, h2⟩
  by_cases h3 : x = 42
  · exact Or.inl ⟨4, by decide, by decide, h3⟩
  by_cases h4 : x = 47
  · exact Or.inl ⟨5, by decide, by decide, h4⟩
  by_cases h5 : x = 37
  · exact Or.inl ⟨6, by decide, by decide, h5⟩
  exact Or.inr ⟨h1, h2, h3, h4, h5⟩
theorem sumSign_n {x : Int32} (h : HP) (q : x ≠ 43 ∧ x ≠ 45 ∧ x ≠ 42 ∧ x ≠ 47 ∧ x ≠ 37) : xX11_sumSign x h = some (-1, h) := by
  unfold xX11_sumSign xX11_sumSign_52
  rw [if_pos q.1, if_pos q.2.1, if_pos q.2.2.1, if_pos q.2.2.2.1, if_pos q.2.2.2.2]
theorem sumSign_o {op : Nat} (h : HP) (h2 : 2 ≤ op) (h6 : op ≤ 6) : xX11_sumSign (nI (sgn op)) h = some (nI op, h) := by
  unfold xX11_sumSign xX11_sumSign_52
  have : op = 2 ∨ op = 3 ∨ op = 4 ∨ op = 5 ∨ op = 6 := by omega
  rcases this with rfl | rfl | rfl | rfl | rfl
  · rw [if_neg (by decide)]; rfl
  · rw [if_pos (by decide), if_neg (by decide)]; rfl
  · rw [if_pos (by decide), if_pos (by decide), if_neg (by decide)]; rfl
  · rw [if_pos (by decide), if_pos (by decide), if_pos (by decide), if_neg (by decide)]; rfl
  · rw [if_pos (by decide), if_pos (by decide), if_pos (by decide), if_pos (by decide), if_neg (by decide)]; rfl
def ca (op : Nat) : Int32 := if op = 0 then 0 else nI (sgn op)
theorem ca_0 {op : Nat} (h : op ≤ 6) : ca op = 0 ↔ op = 0 := by
  have : ∀ op, op ≤ 6 → (ca op = 0 ↔ op = 0) := by decide +kernel
  exact this op h
theorem ca_n {op : Nat} (h : op ≠ 0) : ca op = nI (sgn op) := if_neg h
theorem ca_v {op : Nat} : (0 : Int32) = vlX (op, 0) ∨ op = 1 := by
  by_cases h : op = 1
  · exact Or.inr h
  · exact Or.inl (vlX_n (i := (op, 0)) h).symm
/-- factors and sums in the reference -/
def FS (N : Nat) (b : Int32) (f n : Nat) (h : HP) : Option (Int32 × HP) := cl (xX11_readsFactor_0 N f h) fun t h' => if t ≠ 0 then xX11_readsSum_14 N n b h' else zok 0 (some (0, h'))
def bad (ℓ : Nat) (hx hm : HP) (dx dm : Option (Int32 × HP)) : Prop := ∃ hx' hm', dx = some (0, hx') ∧ dm = some (0, hm') ∧ hx'.1 1 4 = hm'.1 0 13 ∧ fL ℓ hx hx' ∧ gL ℓ hm hm'
theorem bad.mk {ℓ ℓ2 : Nat} {hx hm hx1 hm1 : HP} {dx dm : Option (Int32 × HP)} {v : Int32} (hl : ℓ ≤ ℓ2) (e1 : dx = some (0, up hx1 1 4 v)) (e2 : dm = some (0, up hm1 0 13 v)) (f : fL ℓ hx hx1) (g : gL ℓ hm hm1) : bad ℓ hx hm dx dm :=
  ⟨_, _, e1, e2, by rw [up_at, if_pos ⟨rfl, rfl⟩, up_at, if_pos ⟨rfl, rfl⟩], f.tr hl ((fP.up (Or.inr rfl)).L ℓ2), g.tr hl ((gP.up (Or.inr (Or.inl rfl))).L ℓ2)⟩
theorem bad.tr {ℓ ℓ2 : Nat} {hx hm hx1 hm1 : HP} {dx dm : Option (Int32 × HP)} (hl : ℓ ≤ ℓ2) (f : fL ℓ hx hx1) (g : gL ℓ hm hm1) (q : bad ℓ2 hx1 hm1 dx dm) : bad ℓ hx hm dx dm := by
  obtain ⟨x', m', e1, e2, e3, e4, e5⟩ := q
  exact ⟨x', m', e1, e2, e3, f.tr hl e4, g.tr hl e5⟩
/-- a piece was read: both at p', with ℓ' codes that come to the same -/
def gd (T : Nat → Nat) (n p ℓ o : Nat) (W : List (Nat × Nat)) (hx hm : HP) (p' ℓ' : Nat) (hx' hm' : HP) (E : (Nat → Int32) → Option Int32) : Prop := PS T n p' ℓ' o W hx' hm' ∧ p < p' ∧ ℓ' + p ≤ ℓ + p' ∧ fL ℓ hx hx' ∧ gL ℓ hm hm' ∧ ∃ CX CM, CXh 21 22 CX ℓ ℓ' hx' ∧ CMh 9 CM ℓ ℓ' hm' ∧ sg CX ℓ ℓ' E ∧ sg CM ℓ ℓ' E
def FRs (T : Nat → Nat) (n p ℓ o : Nat) (W : List (Nat × Nat)) (hx hm : HP) (dx dm : Option (Int32 × HP)) (L : Nat → HP → Option (Int32 × HP)) : Prop := (∃ p' ℓ' hx' hm' E n', dx = some (1, hx') ∧ dm = L n' hm' ∧ n - p' < n' ∧ gd T n p ℓ o W hx hm p' ℓ' hx' hm' E) ∨ bad ℓ hx hm dx dm
/-- a sum was read; the reference has yet to close it -/
def SR (N : Nat) (T : Nat → Nat) (n p ℓ o : Nat) (W : List (Nat × Nat)) (hx hm : HP) (b : Int32) (dx dm : Option (Int32 × HP)) : Prop := (∃ p' ℓ' hx' hm' hm'' pd E n', dx = some (1, hx') ∧ dm = xX11_readsSum_14 N (n' + 1) b hm' ∧ n - p' ≤ n' ∧ (pk T n p' ≠ 43 ∧ pk T n p' ≠ 45 ∧ pk T n p' ≠ 42 ∧ pk T n p' ≠ 47 ∧ pk T n p' ≠ 37) ∧ TcM T n p' hm' ∧ WS (pd ++ W) hm' ∧ (∀ e, e ∈ pd → e.1 ≤ 6) ∧ hm'.1 0 15 = nI o ∧ gL ℓ hm hm' ∧ xX11_closesSums N 1 hm' = some (0, hm'') ∧ gd T n p ℓ o W hx hm p' ℓ' hx' hm'' E) ∨ bad ℓ hx hm dx dm
end SMA
