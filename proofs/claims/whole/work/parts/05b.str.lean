section JSTR
variable {g : GC} {M : MD} {X : MX} {pc : Nat} {lv : List (Nat × Value)} {st : List Value} {h : HP} {d d1 d2 : Option (Int32 × HP)}
def strB : List Int32 := [99, 104, 115, 117, 110, 109, 113, 97, 116, 119]
def sld {α : Type} (i : Int32) (f : Int32 → Option α) : Option α := if i < 0 ∨ 10 ≤ i.toNatClampNeg then none else f (strB.getD i.toNatClampNeg 0)
theorem j_ldcS (E : JE g M X) (ho : M.2.2.1 = RX2) (hd : decode M.1 pc = .ok (.ldc 95, 2)) (kk : J g M X (pc + 2) lv (.ref (g.2.2.1 1000) :: st) h d) : J g M X pc lv st h d := by
  intro r h1 e H locs ls hR hS hl0
  exact va_ldcS E.1 E.2.1 (own := RX2) (by rw [← ho]; exact E.2.2.2.2.1) E.2.2.2.2.2.2.1.2.2.1 hd (kk r h1 e H locs ls hR hS hl0)
theorem j_getCS (E : JE g M X) {idx : Nat} (b : Cond.fieldLink M.2.2.1 idx "java/lang/String" "COMPACT_STRINGS" "Z" ∈ TBL) (hd : decode M.1 pc = .ok (.getstatic idx, 3)) (kk : J g M X (pc + 3) lv (.int 1 :: st) h d) : J g M X pc lv st h d := by
  intro r h1 e H locs ls hR hS hl0
  exact va_gets E.1 E.2.1 E.2.2.2.2.2.2.1.2.2.2.2 hS E.2.2.2.2.1 (E.2.2.2.2.2.1 _ b) (fun x hx => hx) hd (kk r h1 e H locs ls hR hS hl0)
theorem j_getCo (E : JE g M X) {idx : Nat} (b : Cond.fieldLink M.2.2.1 idx "java/lang/String" "coder" "B" ∈ TBL) (hd : decode M.1 pc = .ok (.getfield idx, 3)) (kk : J g M X (pc + 3) lv (.int 0 :: st) h d) : J g M X pc lv (.ref (g.2.2.1 1000) :: st) h d := by
  intro r h1 e H locs ls hR hS hl0
  exact vk_getf E.1 E.2.1 (E.2.2.2.2.2.2.1.2.2.2.1.1 0 (by decide)).2.1 hS E.2.2.2.2.1 (E.2.2.2.2.2.1 _ b) (fun x hx => hx) hd (kk r h1 e H locs ls hR hS hl0)
theorem j_getVa (E : JE g M X) {idx : Nat} (b : Cond.fieldLink M.2.2.1 idx "java/lang/String" "value" "[B" ∈ TBL) (hd : decode M.1 pc = .ok (.getfield idx, 3)) (kk : J g M X (pc + 3) lv (.ref (g.2.2.1 1001) :: st) h d) : J g M X pc lv (.ref (g.2.2.1 1000) :: st) h d := by
  intro r h1 e H locs ls hR hS hl0
  exact vk_getf E.1 E.2.1 (E.2.2.2.2.2.2.1.2.2.2.1.1 0 (by decide)).2.2.1 hS E.2.2.2.2.1 (E.2.2.2.2.2.1 _ b) (fun x hx => hx) hd (kk r h1 e H locs ls hR hS hl0)
theorem j_slen (E : JE g M X) (hd : decode M.1 pc = .ok (.arraylength, 1)) (kk : J g M X (pc + 1) lv (.int 10 :: st) h d) : J g M X pc lv (.ref (g.2.2.1 1001) :: st) h d := by
  intro r h1 e H locs ls hR hS hl0
  exact va_tlen E.1 E.2.1 (E.2.2.2.2.2.2.1.2.2.2.1.1 0 (by decide)).2.2.2 hS (v := 10) (by decide) hd (kk r h1 e H locs ls hR hS hl0)
theorem j_sld (E : JE g M X) {i : Int32} {f : Int32 → Option (Int32 × HP)} (hd : decode M.1 pc = .ok (.baload, 1)) (kk : ∀ v, J g M X (pc + 1) lv (.int v :: st) h (f v)) : J g M X pc lv (.int i :: .ref (g.2.2.1 1001) :: st) h (sld i f) := by
  intro r h1 e H locs ls hR hS hl0
  unfold sld at e
  split at e
  · cases e
  · rename_i hin
    exact va_tb E.1 E.2.1 (E.2.2.2.2.2.2.1.2.2.2.1.1 0 (by decide)).2.2.2 hS hin rfl hd (kk _ r h1 e H locs ls hR hS hl0)
theorem j_breturn (E : JE g M X) {v : Int32} (hr : M.2.2.2.1 = some .byte) (hv : narrow .byte (.int v) = .int v) (hd : decode M.1 pc = .ok (.ireturn, 1)) : J g M X pc lv [.int v] h (some (v, h)) := by
  intro r h1 e H locs ls hR hS hl0
  have e1 := Option.some.inj e
  simp only [Prod.mk.injEq] at e1
  obtain ⟨rfl, rfl⟩ := e1
  have hlk : X.2.2.2.2.2.2.1.locks = false := E.2.2.2.2.2.2.2.2
  refine W.zret (ty := .byte) E.1 E.2.1 (by rw [E.2.2.1, hr]) hv (fun t ht hW => ?_) (fun q hq => hS.2.2 q hq) hd hlk
  rw [hr]
  exact ⟨⟨v, h, rfl, ⟨rfl, rfl⟩, by show gR g h t.heap; rw [ht]; exact hR⟩, hS.F ht⟩
theorem j_bz (E : JE g M X) {v : Int32} (hr : M.2.2.2.1 = some .byte) (hd : decode M.1 pc = .ok (.ireturn, 1)) : J g M X pc lv [.int v] h (zok v (some (v, h))) := by
  intro r h1 e
  unfold zok at e
  split at e
  · rename_i hv
    exact j_breturn E hr (by rcases hv with rfl | rfl <;> decide) hd r h1 e
  · cases e
def CLT (own : String) (idx : Nat) (y : MethodName) (M1 : MD) (n : Nat) : Prop := CLB own idx y M1 n ∧ Cond.instanceMethod y ∈ TBL ∧ Cond.selects "java/lang/String" y y ∈ TBL
theorem j_calltI (E : JE g M X) {idx n : Nat} {y : MethodName} {M1 : MD} {As : List Value} {dm : Option (Int32 × HP)} {f : Int32 → HP → Option (Int32 × HP)} (hO : Ok g y M1 (.ref (g.2.2.1 1000) :: As) h dm) (b : CLT M.2.2.1 idx y M1 n) (hr : RMS M1 M) {ty : FieldType} (hv : M1.2.2.2.1 = some ty) (hn : As.length = n) (hst : (st.map fun v => v.category).sum ≤ 8) (hd : decode M.1 pc = .ok (.invokevirtual idx, 3)) (kk : ∀ v h1, J g M X (pc + 3) lv (.int v :: st) h1 (f v h1)) : J g M X pc lv (As.reverse ++ .ref (g.2.2.1 1000) :: st) h (cl dm f) := by
  intro r h1 e H locs ls hR hS hl0
  cases hdm : dm with
  | none => rw [hdm] at e; cases e
  | some qdm =>
    obtain ⟨v0q, h0q⟩ := qdm
    rw [hdm] at e
    have hM := hO v0q h0q hdm
    change f v0q h0q = some (r, h1) at e
    rw [gQ_i hv] at hM
    refine va_calli (va_runV (As := As) (rest := st) ⟨E.1, E.2.1, E.2.2.2.1, E.2.2.2.2.1, E.2.2.2.2.2.1⟩ hM ⟨g_callB E b.1 hr, E.2.2.2.2.2.1 _ b.2.1, E.2.2.2.2.2.1 _ b.2.2⟩ ⟨g_blind, vk_recv E.2.2.2.2.2.2.1.2.2.2.1 (i := 0) (by decide) hS, fun U hU hW => ⟨rfl, by rw [hU]; exact hR, E.2.2.2.2.2.2.1.warm hW hS hU⟩⟩ rfl hn hl0.1 rfl (lv_room hst) hd ⟨Nat.le_refl 0, Nat.le_refl 0⟩) hS (fun q _ h => h) (fun q h => h) (fun vq uq tq H1 locs1 ht hvm hw hB hz hk hS1 => ?_)
    obtain ⟨rfl, rfl⟩ := hw
    exact kk vq uq r h1 e H1 locs1 ls (by rw [← ht]; exact hB) hS1 hl0
end JSTR
def mJ0_coder_7d493 : MD := (cJ0_coder_7d493, 1, RJ0, some .byte, 1, 80)
def mJ0_indexOf_0f7a4 : MD := (cJ0_indexOf_0f7a4, 2, RJ0, some .int, 4, 150)
def mJ0_indexOf_7cf53 : MD := (cJ0_indexOf_7cf53, 3, RJ0, some .int, 3, 128)
def mJ0_isLatin1_aae02 : MD := (cJ0_isLatin1_aae02, 1, RJ0, some .boolean, 1, 80)
def mJ0_length_8abf5 : MD := (cJ0_length_8abf5, 1, RJ0, some .int, 2, 100)
def mJ1_canEncode_9a6ad : MD := (cJ1_canEncode_9a6ad, 1, RJ1, some .boolean, 1, 80)
def mJ1_indexOfChar_4cfef : MD := (cJ1_indexOfChar_4cfef, 6, RJ1, some .int, 1, 80)
def mJ1_indexOf_4cfef : MD := (cJ1_indexOf_4cfef, 4, RJ1, some .int, 2, 105)
theorem fs_J0_38 : Cond.fieldLink RJ0 38 "java/lang/String" "COMPACT_STRINGS" "Z" ∈ TBL := tb_in 557 (by decide +kernel) rfl
theorem fs_J0_15 : Cond.fieldLink RJ0 15 "java/lang/String" "coder" "B" ∈ TBL := tb_in 1691 (by decide +kernel) rfl
theorem cl_J0_633 : CLT RJ0 633 yJ0_indexOf_7cf53 mJ0_indexOf_7cf53 2 := ⟨⟨tb_in 549 (by decide +kernel) rfl, tb_in 552 (by decide +kernel) rfl, tb_in 111 (by decide +kernel) rfl, by decide +kernel⟩, tb_in 550 (by decide +kernel) rfl, tb_in 551 (by decide +kernel) rfl⟩
theorem cl_J0_492 : CLT RJ0 492 yJ0_isLatin1_aae02 mJ0_isLatin1_aae02 0 := ⟨⟨tb_in 553 (by decide +kernel) rfl, tb_in 556 (by decide +kernel) rfl, tb_in 111 (by decide +kernel) rfl, by decide +kernel⟩, tb_in 554 (by decide +kernel) rfl, tb_in 555 (by decide +kernel) rfl⟩
theorem fs_J0_9 : Cond.fieldLink RJ0 9 "java/lang/String" "value" "[B" ∈ TBL := tb_in 1692 (by decide +kernel) rfl
theorem cl_J0_505 : CLT RJ0 505 yJ0_length_8abf5 mJ0_length_8abf5 0 := ⟨⟨tb_in 559 (by decide +kernel) rfl, tb_in 562 (by decide +kernel) rfl, tb_in 111 (by decide +kernel) rfl, by decide +kernel⟩, tb_in 560 (by decide +kernel) rfl, tb_in 561 (by decide +kernel) rfl⟩
theorem cl_J0_637 : CLS RJ0 637 yJ1_indexOf_4cfef mJ1_indexOf_4cfef 4 := ⟨⟨tb_in 567 (by decide +kernel) rfl, tb_in 569 (by decide +kernel) rfl, tb_in 112 (by decide +kernel) rfl, by decide +kernel⟩, tb_in 568 (by decide +kernel) rfl⟩
theorem cl_J0_335 : CLT RJ0 335 yJ0_coder_7d493 mJ0_coder_7d493 0 := ⟨⟨tb_in 563 (by decide +kernel) rfl, tb_in 566 (by decide +kernel) rfl, tb_in 111 (by decide +kernel) rfl, by decide +kernel⟩, tb_in 564 (by decide +kernel) rfl, tb_in 565 (by decide +kernel) rfl⟩
theorem cl_J1_88 : CLS RJ1 88 yJ1_canEncode_9a6ad mJ1_canEncode_9a6ad 1 := ⟨⟨tb_in 570 (by decide +kernel) rfl, tb_in 572 (by decide +kernel) rfl, tb_in 112 (by decide +kernel) rfl, by decide +kernel⟩, tb_in 571 (by decide +kernel) rfl⟩
theorem ml_J1_92 : Cond.methodLink RJ1 92 Lib.Math.max.name ∈ TBL := tb_in 573 (by decide +kernel) rfl
theorem ml_J1_38 : Cond.methodLink RJ1 38 Lib.Math.min.name ∈ TBL := tb_in 576 (by decide +kernel) rfl
theorem cl_J1_95 : CLS RJ1 95 yJ1_indexOfChar_4cfef mJ1_indexOfChar_4cfef 4 := ⟨⟨tb_in 579 (by decide +kernel) rfl, tb_in 581 (by decide +kernel) rfl, tb_in 112 (by decide +kernel) rfl, by decide +kernel⟩, tb_in 580 (by decide +kernel) rfl⟩
theorem cl_X2_97 : CLT RX2 97 yJ0_indexOf_0f7a4 mJ0_indexOf_0f7a4 1 := ⟨⟨tb_in 545 (by decide +kernel) rfl, tb_in 548 (by decide +kernel) rfl, tb_in 111 (by decide +kernel) rfl, by decide +kernel⟩, tb_in 546 (by decide +kernel) rfl, tb_in 547 (by decide +kernel) rfl⟩
