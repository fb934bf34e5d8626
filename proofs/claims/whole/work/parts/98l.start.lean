/-! ===== the start ===== -/
theorem arr_of {args : Array Value} {s : State} {ty : FieldType} (h : (Cond.arrayClass ty).before args s = true) : ∃ cA, ArrOfT s cA ty ∧ s.vm.findClass ("[" ++ ty.toString) = some cA := by
  obtain ⟨cA, kA, comp, h1, h2, h3⟩ := Cond.arrayClass_spec h
  exact ⟨cA, fun n z => ⟨fun k h => (by cases h), kA, h2, comp, h3⟩, h1⟩
theorem know1 {args : Array Value} {s : State} (hts : ∀ w ∈ TBL, w.before args s = true) {own : String} {index ci N : Nat} {fs : List Value} (f : NWO own index ci N fs) : ∃ x : ClassId × (Nat → Nat), ∀ q, vwCl[ci]? = some q → u_Kn s q.1 q.2.1 q.2.2 x.1 x.2 := by
  obtain ⟨C, T, ty, hc, hin, -, -, a2, -⟩ := f
  obtain ⟨a, i, k⟩ := u_known hts hin (hts _ a2)
  exact ⟨(a, i), fun q hq => by rw [hc] at hq; cases hq; exact k⟩
theorem know {args : Array Value} {s : State} (hts : ∀ w ∈ TBL, w.before args s = true) : ∃ D : va_G, ∀ (c : Nat) (q : vw_C), vwCl[c]? = some q → u_Kn s q.1 q.2.1 q.2.2 (D.1 c) (D.2 c) := by
  have h : ∀ c : Nat, ∃ x : ClassId × (Nat → Nat), ∀ q, vwCl[c]? = some q → u_Kn s q.1 q.2.1 q.2.2 x.1 x.2 := by
    intro c
    match c with
    | 0 => exact know1 hts nw_X10_90
    | 1 => exact know1 hts nw_X10_74
    | 2 => exact know1 hts nw_X10_26
    | 3 => exact know1 hts nw_X10_65
    | 4 => exact know1 hts nw_X10_36
    | 5 => exact know1 hts nw_X10_43
    | 6 => exact know1 hts nw_X10_16
    | 7 => exact know1 hts nw_X10_7
    | 8 => exact know1 hts nw_X10_56
    | 9 => exact know1 hts nw_X10_81
    | 10 => exact know1 hts nw_law_7
    | 11 => exact know1 hts nw_law_10
    | c + 12 =>
      obtain ⟨x, -⟩ := know1 hts nw_law_7
      exact ⟨x, fun q hq => by simp at hq⟩
  obtain ⟨f, hf⟩ := Classical.axiomOfChoice h
  exact ⟨(fun c => (f c).1, fun c => (f c).2), hf⟩
def adr (a1 a2 base : Nat) : Nat → Nat := fun k => if k = 1000 then a1 else if k = 1001 then a2 else base + k
theorem adr_lt {a1 a2 base k : Nat} (hk : k < 1000) : adr a1 a2 base k = base + k := by unfold adr; rw [if_neg (by omega), if_neg (by omega)]
def gOf (l : Launch) (D : va_G) (ids : ClassId × ClassId × ClassId) (a1 a2 base n : Nat) (sh : Nat → Shp) : GC := (l, D, adr a1 a2 base, ids, n, sh)
section GOF
variable {l : Launch} {D : va_G} {ids : ClassId × ClassId × ClassId} {a1 a2 base n : Nat} {sh : Nat → Shp}
theorem gOf_I (hn : n ≤ 1000) : gI (gOf l D ids a1 a2 base n sh) := by
  intro i j hi hj h
  have hi : i < n := hi
  have hj : j < n := hj
  have h : adr a1 a2 base i = adr a1 a2 base j := h
  rw [adr_lt (by omega), adr_lt (by omega)] at h
  omega
theorem gOf_A (hn : n ≤ 1000) {q : Nat} (h : gA (gOf l D ids a1 a2 base n sh) q) : base ≤ q ∧ q < base + n := by
  obtain ⟨k, hk, e⟩ := h
  have hk : k < n := hk
  have e : q = adr a1 a2 base k := e
  rw [adr_lt (by omega)] at e
  omega
theorem gR_of {es : List va_E} {h : HP} {H : Heap} (hn : n ≤ 1000) (hes : es = (List.range n).map (fun k => gcl (gOf l D ids a1 a2 base n sh) h k (sh k))) (hP : va_P D vwCl (wsO base es) H) : gR (gOf l D ids a1 a2 base n sh) h H := by
  intro k q hq
  by_cases hk : k < n
  · rw [gw_at (g := gOf l D ids a1 a2 base n sh) hk] at hq
    cases hq
    have e := hP k (base + k, gcl (gOf l D ids a1 a2 base n sh) h k (sh k)) (by rw [wsO_at, hes, List.getElem?_map, List.getElem?_range hk]; rfl)
    show va_at D vwCl (adr a1 a2 base k, _) H
    rw [adr_lt (by omega)]
    exact e
  · exfalso
    unfold gw at hq
    rw [List.getElem?_map, List.getElem?_eq_none (by rw [List.length_range]; exact Nat.le_of_not_lt hk)] at hq
    cases hq
theorem gK_of {s : State} (hn : n ≤ 1000) (hb : s.heap.size ≤ base) (k0 : gK0 (gOf l D ids a1 a2 base n sh) s) (h1 : vk_R RX2 95 "chsunmqatw" a1 s) (h2 : vk_S 1 [10] [[99, 104, 115, 117, 110, 109, 113, 97, 116, 119]] (fun _ => a1) (fun _ => a2) (fA s) s s.heap) (h3 : va_Z "java/lang/String" "COMPACT_STRINGS" "Z" (.int 1) (fA s) s s.heap) : gK (gOf l D ids a1 a2 base n sh) s := by
  have sub : ∀ q, gA (gOf l D ids a1 a2 base n sh) q → fA s q := fun q h => Nat.le_trans hb (gOf_A hn h).1
  exact ⟨k0.1, k0.2, h1, h2.narrow sub, h3.narrow sub⟩
end GOF
set_option maxRecDepth 20000 in
set_option maxHeartbeats 4000000 in
theorem esX_eq (l : Launch) (D : va_G) (ids : ClassId × ClassId × ClassId) (a1 a2 b : Nat) (g : GC) (hg : g.2.2.2.1 = ids) : ([.inr (10, [.ref (b + 1), .ref (b + 3), .ref (b + 8), .ref (b + 13), .ref (b + 20), .ref (b + 27), .ref (b + 31), .ref (b + 35), .ref (b + 39), .ref (b + 43), .ref (b + 45), .ref (b + 49), .ref (b + 52), .ref (b + 56), .ref (b + 58), .int 0]), .inr (7, [.ref (b + 2), .int 0, .int 0, .int 0, .int 0]), .inl (g.2.2.2.1.1, 260, .inl (fun _ => 0)), .inr (6, [.ref (b + 4), .ref (b + 5), .ref (b + 6), .ref (b + 7), .int 0, .int 0]), .inl (g.2.2.2.1.1, 16, .inl (fun _ => 0)), .inl (g.2.2.2.1.1, 24, .inl (fun _ => 0)), .inl (g.2.2.2.1.1, 24, .inl (fun _ => 0)), .inl (g.2.2.2.1.1, 24, .inl (fun _ => 0)), .inr (6, [.ref (b + 9), .ref (b + 10), .ref (b + 11), .ref (b + 12), .int 0, .int 0]), .inl (g.2.2.2.1.1, 16, .inl (fun _ => 0)), .inl (g.2.2.2.1.1, 24, .inl (fun _ => 0)), .inl (g.2.2.2.1.1, 24, .inl (fun _ => 0)), .inl (g.2.2.2.1.1, 24, .inl (fun _ => 0)), .inr (2, [.ref (b + 14), .ref (b + 15), .ref (b + 16), .ref (b + 17), .ref (b + 18), .ref (b + 19), .int 0, .int 0]), .inl (g.2.2.2.1.1, 240, .inl (fun _ => 0)), .inl (g.2.2.2.1.1, 240, .inl (fun _ => 0)), .inl (g.2.2.2.1.1, 16, .inl (fun _ => 0)), .inl (g.2.2.2.1.1, 16, .inl (fun _ => 0)), .inl (g.2.2.2.1.1, 16, .inl (fun _ => 0)), .inl (g.2.2.2.1.1, 16, .inl (fun _ => 0)), .inr (2, [.ref (b + 21), .ref (b + 22), .ref (b + 23), .ref (b + 24), .ref (b + 25), .ref (b + 26), .int 0, .int 0]), .inl (g.2.2.2.1.1, 240, .inl (fun _ => 0)), .inl (g.2.2.2.1.1, 240, .inl (fun _ => 0)), .inl (g.2.2.2.1.1, 16, .inl (fun _ => 0)), .inl (g.2.2.2.1.1, 16, .inl (fun _ => 0)), .inl (g.2.2.2.1.1, 16, .inl (fun _ => 0)), .inl (g.2.2.2.1.1, 16, .inl (fun _ => 0)), .inr (4, [.ref (b + 28), .ref (b + 29), .ref (b + 30), .int 0]), .inl (g.2.2.2.1.1, 20, .inl (fun _ => 0)), .inl (g.2.2.2.1.1, 20, .inl (fun _ => 0)), .inl (g.2.2.2.1.1, 20, .inl (fun _ => 0)), .inr (5, [.ref (b + 32), .ref (b + 33), .ref (b + 34), .int 0, .int 9999, .int 0, .int 1, .int 0, .int 0]), .inl (g.2.2.2.1.1, 16, .inl (fun _ => 0)), .inl (g.2.2.2.1.1, 16, .inl (fun _ => 0)), .inl (g.2.2.2.1.1, 16, .inl (fun _ => 0)), .inr (5, [.ref (b + 36), .ref (b + 37), .ref (b + 38), .int 0, .int 9999, .int 0, .int 1, .int 0, .int 0]), .inl (g.2.2.2.1.1, 16, .inl (fun _ => 0)), .inl (g.2.2.2.1.1, 16, .inl (fun _ => 0)), .inl (g.2.2.2.1.1, 16, .inl (fun _ => 0)), .inr (5, [.ref (b + 40), .ref (b + 41), .ref (b + 42), .int 0, .int 9999, .int 0, .int 1, .int 0, .int 0]), .inl (g.2.2.2.1.1, 16, .inl (fun _ => 0)), .inl (g.2.2.2.1.1, 16, .inl (fun _ => 0)), .inl (g.2.2.2.1.1, 16, .inl (fun _ => 0)), .inr (8, [.ref (b + 3), .ref (b + 13), .ref (b + 44), .ref (b + 31), .int 0, .int 0, .int 0]), .inl (g.2.2.2.1.1, 240, .inl (fun _ => 0)), .inr (3, [.ref (b + 3), .ref (b + 46), .ref (b + 47), .ref (b + 48), .int 0]), .inl (g.2.2.2.1.1, 16, .inl (fun _ => 0)), .inl (g.2.2.2.1.1, 16, .inl (fun _ => 0)), .inl (g.2.2.2.1.1, 16, .inl (fun _ => 0)), .inr (1, [.ref (b + 3), .ref (b + 50), .ref (b + 51), .int 0]), .inl (g.2.2.2.1.1, 256, .inl (fun _ => 0)), .inl (g.2.2.2.1.1, 16, .inl (fun _ => 0)), .inr (9, [.ref (b + 3), .ref (b + 45), .ref (b + 53), .ref (b + 54), .ref (b + 55), .int 0, .int 0, .int 0]), .inl (g.2.2.2.1.1, 16, .inl (fun _ => 0)), .inl (g.2.2.2.1.1, 256, .inl (fun _ => 0)), .inl (g.2.2.2.1.2.2, 2048, .inr (.inl (fun _ => 0))), .inr (0, [.ref (b + 57), .int 0, .int 0, .int 0, .int 0]), .inl (g.2.2.2.1.1, 8161, .inl (fun _ => 0)), .inl (g.2.2.2.1.1, 6, .inl (fun _ => 0))] : List va_E) = (List.range 59).map (fun k => gcl (gOf l D ids a1 a2 b 59 shX) hX0 k (shX k)) := by
  subst hg
  rfl
set_option maxRecDepth 20000 in
set_option maxHeartbeats 4000000 in
theorem esM_eq (l : Launch) (D : va_G) (ids : ClassId × ClassId × ClassId) (a1 a2 b : Nat) (g : GC) (hg : g.2.2.2.1 = ids) : ([.inr (11, [.ref (b + 1), .ref (b + 2), .ref (b + 3), .ref (b + 4), .ref (b + 5), .ref (b + 6), .ref (b + 7), .int 0, .int 0, .ref (b + 8), .int 0, .int 0, .int 0, .int 0, .int 0, .int 0, .int 0, .int 0, .int 0, .int 0, .ref (b + 9), .ref (b + 10), .ref (b + 11), .ref (b + 12), .ref (b + 13), .ref (b + 14), .ref (b + 15), .ref (b + 16), .ref (b + 17), .ref (b + 18), .ref (b + 19), .ref (b + 20), .ref (b + 21), .ref (b + 22), .ref (b + 23), .ref (b + 24), .ref (b + 25), .int 0, .int 0, .int 0, .int 0, .ref (b + 26), .ref (b + 27), .ref (b + 28), .int 0, .int 0, .ref (b + 29), .ref (b + 30), .ref (b + 31), .int 0, .ref (b + 32), .ref (b + 33), .ref (b + 34), .ref (b + 35), .ref (b + 36), .ref (b + 37), .ref (b + 38), .ref (b + 39), .int 0, .int 0, .int 0]), .inl (g.2.2.2.1.1, 75, .inl (upd (upd (fun _ => (0 : Int32)) 74 1) 72 9999)), .inl (g.2.2.2.1.1, 75, .inl (fun _ => 0)), .inl (g.2.2.2.1.1, 75, .inl (fun _ => 0)), .inl (g.2.2.2.1.1, 16, .inl (fun _ => 0)), .inl (g.2.2.2.1.1, 24, .inl (fun _ => 0)), .inl (g.2.2.2.1.1, 24, .inl (fun _ => 0)), .inl (g.2.2.2.1.1, 24, .inl (fun _ => 0)), .inl (g.2.2.2.1.2.1, 260, .inl (fun _ => 0)), .inl (g.2.2.2.1.1, 260, .inl (fun _ => 0)), .inl (g.2.2.2.1.1, 260, .inl (fun _ => 0)), .inl (g.2.2.2.1.1, 16, .inl (fun _ => 0)), .inl (g.2.2.2.1.1, 16, .inl (fun _ => 0)), .inl (g.2.2.2.1.1, 16, .inl (fun _ => 0)), .inl (g.2.2.2.1.1, 16, .inl (fun _ => 0)), .inl (g.2.2.2.1.1, 260, .inl (fun _ => 0)), .inl (g.2.2.2.1.1, 16, .inl (fun _ => 0)), .inl (g.2.2.2.1.1, 16, .inl (fun _ => 0)), .inl (g.2.2.2.1.1, 16, .inl (fun _ => 0)), .inl (g.2.2.2.1.1, 16, .inl (fun _ => 0)), .inl (g.2.2.2.1.1, 260, .inl (fun _ => 0)), .inl (g.2.2.2.1.1, 10, .inl (fun _ => 0)), .inl (g.2.2.2.1.1, 16, .inl (fun _ => 0)), .inl (g.2.2.2.1.1, 24, .inl (fun _ => 0)), .inl (g.2.2.2.1.1, 24, .inl (fun _ => 0)), .inl (g.2.2.2.1.1, 24, .inl (fun _ => 0)), .inl (g.2.2.2.1.1, 24, .inl (fun _ => 0)), .inl (g.2.2.2.1.1, 16, .inl (fun _ => 0)), .inl (g.2.2.2.1.1, 16, .inl (fun _ => 0)), .inl (g.2.2.2.1.1, 256, .inl (fun _ => 0)), .inl (g.2.2.2.1.1, 16, .inl (fun _ => 0)), .inl (g.2.2.2.1.1, 65536, .inl (fun _ => 0)), .inl (g.2.2.2.1.1, 16, .inl (fun _ => 0)), .inl (g.2.2.2.1.1, 65536, .inl (fun _ => 0)), .inl (g.2.2.2.1.1, 16321, .inl (fun _ => 0)), .inl (g.2.2.2.1.1, 16321, .inl (fun _ => 0)), .inl (g.2.2.2.1.1, 16321, .inl (fun _ => 0)), .inl (g.2.2.2.1.1, 16321, .inl (fun _ => 0)), .inl (g.2.2.2.1.1, 6, .inl (fun _ => 0)), .inl (g.2.2.2.1.1, 12, .inl (fun _ => 0))] : List va_E) = (List.range 40).map (fun k => gcl (gOf l D ids a1 a2 b 40 shM) hM0 k (shM k)) := by
  subst hg
  have e1 : upd (upd (fun _ => (0 : Int32)) 74 1) 72 9999 = hM0.1 1 := by
    funext j
    show (if j = 72 then (9999 : Int32) else if j = 74 then 1 else 0) = if 1 = 1 ∧ j = 72 then 9999 else if 1 = 1 ∧ j = 74 then 1 else 0
    by_cases z : j = 72
    · rw [if_pos z, if_pos ⟨rfl, z⟩]
    · rw [if_neg z, if_neg (show ¬ (1 = 1 ∧ j = 72) from fun q => z q.2)]
      by_cases y : j = 74
      · rw [if_pos y, if_pos ⟨rfl, y⟩]
      · rw [if_neg y, if_neg (show ¬ (1 = 1 ∧ j = 74) from fun q => y q.2)]
  rw [e1]
  rfl
