set_option maxRecDepth 20000 in
set_option maxHeartbeats 4000000 in
theorem jxJ7_fill_53178_5 {g : GC} (hg : isGX g) {X : MX} (N : Nat) (na : Nat) (ka : Nat) (E : JE g mJ7_fill_53178 X) (hka : cellIs g ka (.inl (0, na))) : ∀ (n : Nat) (a1 : Int32) (a2 : Int32) (a3 : Int32) (h : HP), J g mJ7_fill_53178 X 5 [(0, .ref (g.2.2.1 ka)), (1, .int a1), (2, .int a2), (3, .int a3)] [] h (xJ7_fill_53178_5 N na ka n a1 a2 a3 h) := by
  intro n
  induction n with
  | zero => intro a1 a2 a3 h; exact j_none
  | succ n ih =>
    intro a1 a2 a3 h
    unfold xJ7_fill_53178_5
    refine j_iload_n E dJ7_fill_53178_5 2 rfl ?_
    refine j_iload_n E dJ7_fill_53178_6 3 rfl ?_
    refine j_cmp_ge E 20 dJ7_fill_53178_7 rfl ?_ ?_
    · exact j_vreturn E rfl dJ7_fill_53178_20
    · refine j_aload_n E dJ7_fill_53178_10 0 rfl ?_
      refine j_iload_n E dJ7_fill_53178_11 2 rfl ?_
      refine j_iload_n E dJ7_fill_53178_12 1 rfl ?_
      refine j_iast E hka dJ7_fill_53178_13 (fun h1 => ?_)
      refine j_iinc E (c := 1) dJ7_fill_53178_14 2 rfl (by decide) (Nat.le_of_ble_eq_true rfl) (fun v2 => [(2, .int v2), (0, .ref (g.2.2.1 ka)), (1, .int a1), (3, .int a3)]) (fun _ => rfl) (fun v2 => ?_)
      refine j_goto E 5 dJ7_fill_53178_17 rfl ?_
      exact j_sub [1, 2, 0, 3] (lv1 := [(0, .ref (g.2.2.1 ka)), (1, .int a1), (2, .int v2), (3, .int a3)]) rfl (ih a1 v2 a3 h1)
set_option maxRecDepth 20000 in
set_option maxHeartbeats 4000000 in
theorem jxJ7_fill_53178 {g : GC} (hg : isGX g) {X : MX} (N : Nat) (na : Nat) (ka : Nat) (E : JE g mJ7_fill_53178 X) (hka : cellIs g ka (.inl (0, na))) (a1 : Int32) (h : HP) : J g mJ7_fill_53178 X 0 [(0, .ref (g.2.2.1 ka)), (1, .int a1)] [] h (xJ7_fill_53178 N na ka a1 h) := by
  unfold xJ7_fill_53178
  refine j_iconst E (v := 0) dJ7_fill_53178_0 (by decide) ?_
  refine j_istore0_n E dJ7_fill_53178_1 (Nat.le_of_ble_eq_true rfl) [(2, .int 0), (0, .ref (g.2.2.1 ka)), (1, .int a1)] rfl ?_
  refine j_aload_n E dJ7_fill_53178_2 1 rfl ?_
  refine j_alen (t := 0) (v := nI na) E hka (by decide) rfl dJ7_fill_53178_3 ?_
  refine j_istore_n E dJ7_fill_53178_4 (Nat.le_of_ble_eq_true rfl) (fun v1 => [(3, .int v1), (2, .int 0), (0, .ref (g.2.2.1 ka)), (1, .int a1)]) (fun _ => rfl) (fun v1 => ?_)
  exact j_sub [2, 3, 1, 0] (lv1 := [(0, .ref (g.2.2.1 ka)), (1, .int a1), (2, .int 0), (3, .int v1)]) rfl (jxJ7_fill_53178_5 hg N na ka E hka N a1 0 v1 h)
theorem ok_J7_fill_53178 {g : GC} (hg : isGX g) (hI : gI g) (N : Nat) (na : Nat) (ka : Nat) (hka : cellIs g ka (.inl (0, na))) (a1 : Int32) (h : HP) : Ok g yJ7_fill_53178 mJ7_fill_53178 [.ref (g.2.2.1 ka), .int a1] h (xJ7_fill_53178 N na ka a1 h) := Ok.of hI (by decide) rfl (Nat.le_of_ble_eq_true rfl) (fun X E => jxJ7_fill_53178 hg N na ka E hka a1 h)
set_option maxRecDepth 20000 in
set_option maxHeartbeats 4000000 in
theorem jxX0_choicesOf_4 {g : GC} (hg : isGX g) {X : MX} (N : Nat) (E : JE g mX0_choicesOf X) : ∀ (n : Nat) (a0 : Int32) (a1 : Int32) (a2 : Int32) (h : HP), J g mX0_choicesOf X 4 [(0, .int a0), (1, .int a1), (2, .int a2)] [] h (xX0_choicesOf_4 N n a0 a1 a2 h) := by
  intro n
  induction n with
  | zero => intro a0 a1 a2 h; exact j_none
  | succ n ih =>
    intro a0 a1 a2 h
    unfold xX0_choicesOf_4
    refine j_iload_n E dX0_choicesOf_4 2 rfl ?_
    refine j_iload_n E dX0_choicesOf_5 0 rfl ?_
    refine j_cmp_ge E 20 dX0_choicesOf_6 rfl ?_ ?_
    · refine j_iload_n E dX0_choicesOf_20 1 rfl ?_
      exact j_ireturn E rfl dX0_choicesOf_21
    · refine j_iload_n E dX0_choicesOf_9 1 rfl ?_
      refine j_bipush E (v := 9) dX0_choicesOf_10 (by decide) ?_
      refine j_imul E dX0_choicesOf_12 ?_
      refine j_istore_n E dX0_choicesOf_13 (Nat.le_of_ble_eq_true rfl) (fun v1 => [(1, .int v1), (0, .int a0), (2, .int a2)]) (fun _ => rfl) (fun v1 => ?_)
      refine j_iinc E (c := 1) dX0_choicesOf_14 2 rfl (by decide) (Nat.le_of_ble_eq_true rfl) (fun v2 => [(2, .int v2), (1, .int v1), (0, .int a0)]) (fun _ => rfl) (fun v2 => ?_)
      refine j_goto E 4 dX0_choicesOf_17 rfl ?_
      exact j_sub [2, 1, 0] (lv1 := [(0, .int a0), (1, .int v1), (2, .int v2)]) rfl (ih a0 v1 v2 h)
set_option maxRecDepth 20000 in
set_option maxHeartbeats 4000000 in
theorem jxX0_choicesOf {g : GC} (hg : isGX g) {X : MX} (N : Nat) (E : JE g mX0_choicesOf X) (a0 : Int32) (h : HP) : J g mX0_choicesOf X 0 [(0, .int a0)] [] h (xX0_choicesOf N a0 h) := by
  unfold xX0_choicesOf
  refine j_iconst E (v := 1) dX0_choicesOf_0 (by decide) ?_
  refine j_istore0_n E dX0_choicesOf_1 (Nat.le_of_ble_eq_true rfl) [(1, .int 1), (0, .int a0)] rfl ?_
  refine j_iconst E (v := 0) dX0_choicesOf_2 (by decide) ?_
  refine j_istore0_n E dX0_choicesOf_3 (Nat.le_of_ble_eq_true rfl) [(2, .int 0), (1, .int 1), (0, .int a0)] rfl ?_
  exact j_sub [2, 1, 0] (lv1 := [(0, .int a0), (1, .int 1), (2, .int 0)]) rfl (jxX0_choicesOf_4 hg N E N a0 1 0 h)
theorem ok_X0_choicesOf {g : GC} (hg : isGX g) (hI : gI g) (N : Nat) (a0 : Int32) (h : HP) : Ok g yX0_choicesOf mX0_choicesOf [.int a0] h (xX0_choicesOf N a0 h) := Ok.of hI (by decide) rfl (Nat.le_of_ble_eq_true rfl) (fun X E => jxX0_choicesOf hg N E a0 h)
set_option maxRecDepth 20000 in
set_option maxHeartbeats 4000000 in
theorem jxX7_byteAt_22 {g : GC} (hg : isGX g) {X : MX} (E : JE g mX7_byteAt X) (s0 : Int32) (h : HP) : J g mX7_byteAt X 22 [] [.int s0] h (xX7_byteAt_22 s0 h) := by
  unfold xX7_byteAt_22
  exact j_ireturn E rfl dX7_byteAt_22
set_option maxRecDepth 20000 in
set_option maxHeartbeats 4000000 in
theorem jxX7_byteAt_21 {g : GC} (hg : isGX g) {X : MX} (E : JE g mX7_byteAt X) (h : HP) : J g mX7_byteAt X 21 [] [] h (xX7_byteAt_21 h) := by
  unfold xX7_byteAt_21
  refine j_iconst E (v := 0) dX7_byteAt_21 (by decide) ?_
  exact jxX7_byteAt_22 hg E 0 h
set_option maxRecDepth 20000 in
set_option maxHeartbeats 4000000 in
theorem jxX7_byteAt {g : GC} (hg : isGX g) {X : MX} (E : JE g mX7_byteAt X) (a1 : Int32) (h : HP) : J g mX7_byteAt X 0 [(0, .ref (g.2.2.1 1)), (1, .int a1)] [] h (xX7_byteAt a1 h) := by
  unfold xX7_byteAt
  refine j_iload_n E dX7_byteAt_0 1 rfl ?_
  refine j_if_lt E 21 dX7_byteAt_1 rfl ?_ ?_
  · exact j_sub [] (lv1 := []) rfl (jxX7_byteAt_21 hg E h)
  · refine j_iload_n E dX7_byteAt_4 1 rfl ?_
    refine j_aload_n E dX7_byteAt_5 0 rfl ?_
    refine j_geti E f_X7_22 (cX_1 hg) rfl dX7_byteAt_6 ?_
    refine j_cmp_ge E 21 dX7_byteAt_9 rfl ?_ ?_
    · exact j_sub [] (lv1 := []) rfl (jxX7_byteAt_21 hg E h)
    · refine j_aload_n E dX7_byteAt_12 0 rfl ?_
      refine j_getr E f_X7_9 (cX_1 hg) 2 rfl dX7_byteAt_13 ?_
      refine j_iload_n E dX7_byteAt_16 1 rfl ?_
      refine j_iald E (cX_2 hg) dX7_byteAt_17 (fun t1 => ?_)
      refine j_goto E 22 dX7_byteAt_18 rfl ?_
      exact j_sub [] (lv1 := []) rfl (jxX7_byteAt_22 hg E t1 h)
theorem ok_X7_byteAt {g : GC} (hg : isGX g) (hI : gI g) (a1 : Int32) (h : HP) : Ok g yX7_byteAt mX7_byteAt [.ref (g.2.2.1 1), .int a1] h (xX7_byteAt a1 h) := Ok.of hI (by decide) rfl (Nat.le_of_ble_eq_true rfl) (fun X E => jxX7_byteAt hg E a1 h)
set_option maxRecDepth 20000 in
set_option maxHeartbeats 4000000 in
theorem jxX0_turnKeys_17 {g : GC} (hg : isGX g) {X : MX} (N : Nat) (E : JE g mX0_turnKeys X) : ∀ (n : Nat) (a3 : Int32) (a5 : Int32) (a6 : Int32) (h : HP), J g mX0_turnKeys X 17 [(0, .ref (g.2.2.1 56)), (1, .ref (g.2.2.1 1)), (3, .int a3), (5, .int a5), (6, .int a6)] [] h (xX0_turnKeys_17 N n a3 a5 a6 h) := by
  intro n
  induction n with
  | zero => intro a3 a5 a6 h; exact j_none
  | succ n ih =>
    intro a3 a5 a6 h
    unfold xX0_turnKeys_17
    refine j_iload E dX0_turnKeys_17 4 rfl ?_
    refine j_iload_n E dX0_turnKeys_19 2 rfl ?_
    refine j_cmp_ge E 72 dX0_turnKeys_20 rfl ?_ ?_
    · exact j_vreturn E rfl dX0_turnKeys_72
    · refine j_iload E dX0_turnKeys_23 3 rfl ?_
      refine j_bipush E (v := 9) dX0_turnKeys_25 (by decide) ?_
      refine j_rem2 E (by decide) dX0_turnKeys_27 ?_
      refine j_istore E dX0_turnKeys_28 (Nat.le_of_ble_eq_true rfl) (fun v1 => [(7, .int v1), (0, .ref (g.2.2.1 56)), (1, .ref (g.2.2.1 1)), (3, .int a3), (5, .int a5), (6, .int a6)]) (fun _ => rfl) (fun v1 => ?_)
      refine j_iload E dX0_turnKeys_30 4 rfl ?_
      refine j_bipush E (v := 9) dX0_turnKeys_32 (by decide) ?_
      refine j_idivc E (by decide) dX0_turnKeys_34 ?_
      refine j_istore E dX0_turnKeys_35 (Nat.le_of_ble_eq_true rfl) (fun v2 => [(5, .int v2), (7, .int v1), (0, .ref (g.2.2.1 56)), (1, .ref (g.2.2.1 1)), (3, .int a3), (6, .int a6)]) (fun _ => rfl) (fun v2 => ?_)
      refine j_aload_n E dX0_turnKeys_37 2 rfl ?_
      refine j_dup E dX0_turnKeys_38 rfl ?_
      refine j_geti E f_X0_34 (cX_56 hg) rfl dX0_turnKeys_39 ?_
      refine j_iload E dX0_turnKeys_42 1 rfl ?_
      refine j_aload_n E dX0_turnKeys_44 3 rfl ?_
      refine j_iload E dX0_turnKeys_45 5 rfl ?_
      refine j_callvI (As := [.int a6]) (st := [.int v1, .int (h.1 56 1), .ref (g.2.2.1 56)]) E (ok_X7_byteAt hg E.2.2.2.2.2.2.2.1 a6 h) (cX_1 hg) (cl_X0_52) (⟨Nat.le_of_ble_eq_true rfl, Nat.le_of_ble_eq_true rfl⟩) rfl rfl (Nat.le_of_ble_eq_true rfl) dX0_turnKeys_47 (fun t3 h4 => ?_)
      refine j_imul E dX0_turnKeys_50 ?_
      refine j_iadd E dX0_turnKeys_51 ?_
      refine j_puti E fp_X0_34 (cX_56 hg) rfl dX0_turnKeys_52 (fun h5 => ?_)
      refine j_aload_n E dX0_turnKeys_55 2 rfl ?_
      refine j_dup E dX0_turnKeys_56 rfl ?_
      refine j_geti E f_X0_37 (cX_56 hg) rfl dX0_turnKeys_57 ?_
      refine j_iload E dX0_turnKeys_60 1 rfl ?_
      refine j_iadd E dX0_turnKeys_62 ?_
      refine j_puti E fp_X0_37 (cX_56 hg) rfl dX0_turnKeys_63 (fun h6 => ?_)
      refine j_iinc E (c := 1) dX0_turnKeys_66 5 rfl (by decide) (Nat.le_of_ble_eq_true rfl) (fun v7 => [(6, .int v7), (5, .int v2), (7, .int v1), (0, .ref (g.2.2.1 56)), (1, .ref (g.2.2.1 1)), (3, .int a3)]) (fun _ => rfl) (fun v7 => ?_)
      refine j_goto E 17 dX0_turnKeys_69 rfl ?_
      exact j_sub [3, 4, 5, 1, 0] (lv1 := [(0, .ref (g.2.2.1 56)), (1, .ref (g.2.2.1 1)), (3, .int a3), (5, .int v2), (6, .int v7)]) rfl (ih a3 v2 v7 h6)
set_option maxRecDepth 20000 in
set_option maxHeartbeats 4000000 in
theorem jxX0_turnKeys {g : GC} (hg : isGX g) {X : MX} (N : Nat) (E : JE g mX0_turnKeys X) (a2 : Int32) (a3 : Int32) (a4 : Int32) (h : HP) : J g mX0_turnKeys X 0 [(0, .ref (g.2.2.1 56)), (1, .ref (g.2.2.1 1)), (2, .int a2), (3, .int a3), (4, .int a4)] [] h (xX0_turnKeys N a2 a3 a4 h) := by
  unfold xX0_turnKeys
  refine j_aload_n E dX0_turnKeys_0 0 rfl ?_
  refine j_iconst E (v := 0) dX0_turnKeys_1 (by decide) ?_
  refine j_puti E fp_X0_34 (cX_56 hg) rfl dX0_turnKeys_2 (fun h1 => ?_)
  refine j_aload_n E dX0_turnKeys_5 0 rfl ?_
  refine j_iconst E (v := 0) dX0_turnKeys_6 (by decide) ?_
  refine j_puti E fp_X0_37 (cX_56 hg) rfl dX0_turnKeys_7 (fun h2 => ?_)
  refine j_iload E dX0_turnKeys_10 4 rfl ?_
  refine j_istore0 E dX0_turnKeys_12 (Nat.le_of_ble_eq_true rfl) [(5, .int a4), (0, .ref (g.2.2.1 56)), (1, .ref (g.2.2.1 1)), (2, .int a2), (3, .int a3), (4, .int a4)] rfl ?_
  refine j_iload_n E dX0_turnKeys_14 3 rfl ?_
  refine j_istore0 E dX0_turnKeys_15 (Nat.le_of_ble_eq_true rfl) [(6, .int a2), (5, .int a4), (0, .ref (g.2.2.1 56)), (1, .ref (g.2.2.1 1)), (2, .int a2), (3, .int a3), (4, .int a4)] rfl ?_
  exact j_sub [2, 3, 5, 1, 0] (lv1 := [(0, .ref (g.2.2.1 56)), (1, .ref (g.2.2.1 1)), (3, .int a3), (5, .int a4), (6, .int a2)]) rfl (jxX0_turnKeys_17 hg N E N a3 a4 a2 h2)
theorem ok_X0_turnKeys {g : GC} (hg : isGX g) (hI : gI g) (N : Nat) (a2 : Int32) (a3 : Int32) (a4 : Int32) (h : HP) : Ok g yX0_turnKeys mX0_turnKeys [.ref (g.2.2.1 56), .ref (g.2.2.1 1), .int a2, .int a3, .int a4] h (xX0_turnKeys N a2 a3 a4 h) := Ok.of hI (by decide) rfl (Nat.le_of_ble_eq_true rfl) (fun X E => jxX0_turnKeys hg N E a2 a3 a4 h)
set_option maxRecDepth 20000 in
set_option maxHeartbeats 4000000 in
theorem jxX0_layOut_66 {g : GC} (hg : isGX g) {X : MX} (N : Nat) (E : JE g mX0_layOut X) (K16 : Int32 → Int32 → Int32 → HP → Option (Int32 × HP)) (hK16 : ∀ (a2 : Int32) (a3 : Int32) (a4 : Int32) (h : HP), J g mX0_layOut X 16 [(0, .ref (g.2.2.1 56)), (1, .ref (g.2.2.1 1)), (2, .int a2), (3, .int a3), (4, .int a4)] [] h (K16 a2 a3 a4 h)) (a2 : Int32) (a3 : Int32) (a4 : Int32) (a5 : Int32) (s0 : Int32) (h : HP) : J g mX0_layOut X 66 [(0, .ref (g.2.2.1 56)), (1, .ref (g.2.2.1 1)), (2, .int a2), (3, .int a3), (4, .int a4), (5, .int a5)] [.int s0] h (xX0_layOut_66 N K16 a2 a3 a4 a5 s0 h) := by
  unfold xX0_layOut_66
  refine j_istore0 E dX0_layOut_66 (Nat.le_of_ble_eq_true rfl) [(6, .int s0), (0, .ref (g.2.2.1 56)), (1, .ref (g.2.2.1 1)), (2, .int a2), (3, .int a3), (4, .int a4), (5, .int a5)] rfl ?_
  refine j_aload_n E dX0_layOut_68 1 rfl ?_
  refine j_getr E f_X0_9 (cX_56 hg) 57 rfl dX0_layOut_69 ?_
  refine j_aload_n E dX0_layOut_72 1 rfl ?_
  refine j_geti E f_X0_34 (cX_56 hg) rfl dX0_layOut_73 ?_
  refine j_iload E dX0_layOut_76 6 rfl ?_
  refine j_bipush E (v := 6) dX0_layOut_78 (by decide) ?_
  refine j_ishr E dX0_layOut_80 ?_
  refine j_iconst E (v := 1) dX0_layOut_81 (by decide) ?_
  refine j_iadd E dX0_layOut_82 ?_
  refine j_bipush E (v := 6) dX0_layOut_83 (by decide) ?_
  refine j_ishl E dX0_layOut_85 ?_
  refine j_iload E dX0_layOut_86 0 rfl ?_
  refine j_ior E dX0_layOut_88 ?_
  refine j_iast E (cX_57 hg) dX0_layOut_89 (fun h1 => ?_)
  refine j_iinc E (c := 1) dX0_layOut_90 5 rfl (by decide) (Nat.le_of_ble_eq_true rfl) (fun v2 => [(4, .int v2), (6, .int s0), (0, .ref (g.2.2.1 56)), (1, .ref (g.2.2.1 1)), (2, .int a2), (3, .int a3), (5, .int a5)]) (fun _ => rfl) (fun v2 => ?_)
  refine j_goto E 16 dX0_layOut_93 rfl ?_
  exact j_sub [2, 3, 4, 5, 0] (lv1 := [(0, .ref (g.2.2.1 56)), (1, .ref (g.2.2.1 1)), (2, .int a2), (3, .int a3), (4, .int v2)]) rfl (hK16 a2 a3 v2 h1)
set_option maxRecDepth 20000 in
set_option maxHeartbeats 4000000 in
theorem jxX0_layOut_16 {g : GC} (hg : isGX g) {X : MX} (N : Nat) (E : JE g mX0_layOut X) : ∀ (n : Nat) (a2 : Int32) (a3 : Int32) (a4 : Int32) (h : HP), J g mX0_layOut X 16 [(0, .ref (g.2.2.1 56)), (1, .ref (g.2.2.1 1)), (2, .int a2), (3, .int a3), (4, .int a4)] [] h (xX0_layOut_16 N n a2 a3 a4 h) := by
  intro n
  induction n with
  | zero => intro a2 a3 a4 h; exact j_none
  | succ n ih =>
    intro a2 a3 a4 h
    unfold xX0_layOut_16
    refine j_iload E dX0_layOut_16 4 rfl ?_
    refine j_iload_n E dX0_layOut_18 3 rfl ?_
    refine j_cmp_ge E 96 dX0_layOut_19 rfl ?_ ?_
    · exact j_vreturn E rfl dX0_layOut_96
    · refine j_aload_n E dX0_layOut_22 0 rfl ?_
      refine j_aload_n E dX0_layOut_23 1 rfl ?_
      refine j_iconst E (v := 0) dX0_layOut_24 (by decide) ?_
      refine j_iload_n E dX0_layOut_25 2 rfl ?_
      refine j_iload E dX0_layOut_26 4 rfl ?_
      refine j_callvV (As := [.ref (g.2.2.1 1), .int 0, .int a2, .int a4]) (st := []) E (ok_X0_turnKeys hg E.2.2.2.2.2.2.2.1 N 0 a2 a4 h) (cX_56 hg) (cl_X0_30) (⟨Nat.le_of_ble_eq_true rfl, Nat.le_of_ble_eq_true rfl⟩) rfl rfl (Nat.le_of_ble_eq_true rfl) dX0_layOut_28 (fun t1 h2 => ?_)
      refine j_aload_n E dX0_layOut_31 0 rfl ?_
      refine j_getr E f_X0_9 (cX_56 hg) 57 rfl dX0_layOut_32 ?_
      refine j_aload_n E dX0_layOut_35 0 rfl ?_
      refine j_geti E f_X0_34 (cX_56 hg) rfl dX0_layOut_36 ?_
      refine j_iald E (cX_57 hg) dX0_layOut_39 (fun t3 => ?_)
      refine j_istore0 E dX0_layOut_40 (Nat.le_of_ble_eq_true rfl) [(5, .int t3), (0, .ref (g.2.2.1 56)), (1, .ref (g.2.2.1 1)), (2, .int a2), (3, .int a3), (4, .int a4)] rfl ?_
      refine j_iload E dX0_layOut_42 0 rfl ?_
      refine j_if_ne E 54 dX0_layOut_44 rfl ?_ ?_
      · refine j_aload_n E dX0_layOut_54 1 rfl ?_
        refine j_geti E f_X0_37 (cX_56 hg) rfl dX0_layOut_55 ?_
        refine j_iload E dX0_layOut_58 0 rfl ?_
        refine j_bipush E (v := 63) dX0_layOut_60 (by decide) ?_
        refine j_iand E dX0_layOut_62 ?_
        refine j_min2 E ml_X0_40 (Nat.le_of_ble_eq_true rfl) (Nat.le_of_ble_eq_true rfl) dX0_layOut_63 ?_
        exact j_sub [1, 2, 3, 4, 5, 0] (lv1 := [(0, .ref (g.2.2.1 56)), (1, .ref (g.2.2.1 1)), (2, .int a2), (3, .int a3), (4, .int a4), (5, .int t3)]) rfl (jxX0_layOut_66 hg N E (xX0_layOut_16 N n) ih a2 a3 a4 t3 (imn (h2.1 56 2) (t3 &&& 63)) h2)
      · refine j_aload_n E dX0_layOut_47 1 rfl ?_
        refine j_geti E f_X0_37 (cX_56 hg) rfl dX0_layOut_48 ?_
        refine j_goto E 66 dX0_layOut_51 rfl ?_
        exact j_sub [1, 2, 3, 4, 5, 0] (lv1 := [(0, .ref (g.2.2.1 56)), (1, .ref (g.2.2.1 1)), (2, .int a2), (3, .int a3), (4, .int a4), (5, .int t3)]) rfl (jxX0_layOut_66 hg N E (xX0_layOut_16 N n) ih a2 a3 a4 t3 (h2.1 56 2) h2)
set_option maxRecDepth 20000 in
set_option maxHeartbeats 4000000 in
theorem jxX0_layOut {g : GC} (hg : isGX g) {X : MX} (N : Nat) (E : JE g mX0_layOut X) (a2 : Int32) (h : HP) : J g mX0_layOut X 0 [(0, .ref (g.2.2.1 56)), (1, .ref (g.2.2.1 1)), (2, .int a2)] [] h (xX0_layOut N a2 h) := by
  unfold xX0_layOut
  refine j_aload_n E dX0_layOut_0 0 rfl ?_
  refine j_getr E f_X0_9 (cX_56 hg) 57 rfl dX0_layOut_1 ?_
  refine j_iconst E (v := 0) dX0_layOut_4 (by decide) ?_
  refine j_callsV (As := [.ref (g.2.2.1 57), .int 0]) (st := []) E (ok_J7_fill_53178 hg E.2.2.2.2.2.2.2.1 N 8161 57 (cX_57 hg) 0 h) (cl_X0_46) (⟨Nat.le_of_ble_eq_true rfl, Nat.le_of_ble_eq_true rfl⟩) rfl rfl (Nat.le_of_ble_eq_true rfl) dX0_layOut_5 (fun t1 h2 => ?_)
  refine j_iload_n E dX0_layOut_8 2 rfl ?_
  refine j_callsI (As := [.int a2]) (st := []) E (ok_X0_choicesOf hg E.2.2.2.2.2.2.2.1 N a2 h2) (cl_X0_26) (⟨Nat.le_of_ble_eq_true rfl, Nat.le_of_ble_eq_true rfl⟩) rfl rfl (Nat.le_of_ble_eq_true rfl) dX0_layOut_9 (fun t3 h4 => ?_)
  refine j_istore0_n E dX0_layOut_12 (Nat.le_of_ble_eq_true rfl) [(3, .int t3), (0, .ref (g.2.2.1 56)), (1, .ref (g.2.2.1 1)), (2, .int a2)] rfl ?_
  refine j_iconst E (v := 0) dX0_layOut_13 (by decide) ?_
  refine j_istore0 E dX0_layOut_14 (Nat.le_of_ble_eq_true rfl) [(4, .int 0), (3, .int t3), (0, .ref (g.2.2.1 56)), (1, .ref (g.2.2.1 1)), (2, .int a2)] rfl ?_
  exact j_sub [2, 3, 4, 1, 0] (lv1 := [(0, .ref (g.2.2.1 56)), (1, .ref (g.2.2.1 1)), (2, .int a2), (3, .int t3), (4, .int 0)]) rfl (jxX0_layOut_16 hg N E N a2 t3 0 h4)
theorem ok_X0_layOut {g : GC} (hg : isGX g) (hI : gI g) (N : Nat) (a2 : Int32) (h : HP) : Ok g yX0_layOut mX0_layOut [.ref (g.2.2.1 56), .ref (g.2.2.1 1), .int a2] h (xX0_layOut N a2 h) := Ok.of hI (by decide) rfl (Nat.le_of_ble_eq_true rfl) (fun X E => jxX0_layOut hg N E a2 h)
set_option maxRecDepth 20000 in
set_option maxHeartbeats 4000000 in
theorem jxX0_reckon_130 {g : GC} (hg : isGX g) {X : MX} (N : Nat) (E : JE g mX0_reckon X) (K35 : Int32 → Int32 → Int32 → Int32 → Int32 → HP → Option (Int32 × HP)) (hK35 : ∀ (a2 : Int32) (a3 : Int32) (a4 : Int32) (a5 : Int32) (a6 : Int32) (h : HP), J g mX0_reckon X 35 [(0, .ref (g.2.2.1 56)), (1, .ref (g.2.2.1 1)), (2, .int a2), (3, .int a3), (4, .int a4), (5, .int a5), (6, .int a6)] [] h (K35 a2 a3 a4 a5 a6 h)) (a2 : Int32) (a3 : Int32) (a4 : Int32) (a5 : Int32) (a6 : Int32) (h : HP) : J g mX0_reckon X 130 [(0, .ref (g.2.2.1 56)), (1, .ref (g.2.2.1 1)), (2, .int a2), (3, .int a3), (4, .int a4), (5, .int a5), (6, .int a6)] [] h (xX0_reckon_130 N K35 a2 a3 a4 a5 a6 h) := by
  unfold xX0_reckon_130
  refine j_iinc E (c := 1) dX0_reckon_130 6 rfl (by decide) (Nat.le_of_ble_eq_true rfl) (fun v1 => [(6, .int v1), (0, .ref (g.2.2.1 56)), (1, .ref (g.2.2.1 1)), (2, .int a2), (3, .int a3), (4, .int a4), (5, .int a5)]) (fun _ => rfl) (fun v1 => ?_)
  refine j_goto E 35 dX0_reckon_133 rfl ?_
  exact j_sub [1, 2, 3, 4, 5, 6, 0] (lv1 := [(0, .ref (g.2.2.1 56)), (1, .ref (g.2.2.1 1)), (2, .int a2), (3, .int a3), (4, .int a4), (5, .int a5), (6, .int v1)]) rfl (hK35 a2 a3 a4 a5 v1 h)
set_option maxRecDepth 20000 in
set_option maxHeartbeats 4000000 in
theorem jxX0_reckon_35 {g : GC} (hg : isGX g) {X : MX} (N : Nat) (E : JE g mX0_reckon X) : ∀ (n : Nat) (a2 : Int32) (a3 : Int32) (a4 : Int32) (a5 : Int32) (a6 : Int32) (h : HP), J g mX0_reckon X 35 [(0, .ref (g.2.2.1 56)), (1, .ref (g.2.2.1 1)), (2, .int a2), (3, .int a3), (4, .int a4), (5, .int a5), (6, .int a6)] [] h (xX0_reckon_35 N n a2 a3 a4 a5 a6 h) := by
  intro n
  induction n with
  | zero => intro a2 a3 a4 a5 a6 h; exact j_none
  | succ n ih =>
    intro a2 a3 a4 a5 a6 h
    unfold xX0_reckon_35
    refine j_iload E dX0_reckon_35 6 rfl ?_
    refine j_iload E dX0_reckon_37 5 rfl ?_
    refine j_cmp_ge E 136 dX0_reckon_39 rfl ?_ ?_
    · exact j_vreturn E rfl dX0_reckon_136
    · refine j_aload_n E dX0_reckon_42 0 rfl ?_
      refine j_aload_n E dX0_reckon_43 1 rfl ?_
      refine j_iload E dX0_reckon_44 4 rfl ?_
      refine j_iload_n E dX0_reckon_46 2 rfl ?_
      refine j_iload E dX0_reckon_47 6 rfl ?_
      refine j_callvV (As := [.ref (g.2.2.1 1), .int a4, .int a2, .int a6]) (st := []) E (ok_X0_turnKeys hg E.2.2.2.2.2.2.2.1 N a4 a2 a6 h) (cX_56 hg) (cl_X0_30) (⟨Nat.le_of_ble_eq_true rfl, Nat.le_of_ble_eq_true rfl⟩) rfl rfl (Nat.le_of_ble_eq_true rfl) dX0_reckon_49 (fun t1 h2 => ?_)
      refine j_iload_n E dX0_reckon_52 3 rfl ?_
      refine j_aload_n E dX0_reckon_53 0 rfl ?_
      refine j_geti E f_X0_34 (cX_56 hg) rfl dX0_reckon_54 ?_
      refine j_isub E dX0_reckon_57 ?_
      refine j_istore E dX0_reckon_58 (Nat.le_of_ble_eq_true rfl) (fun v3 => [(7, .int v3), (0, .ref (g.2.2.1 56)), (1, .ref (g.2.2.1 1)), (2, .int a2), (3, .int a3), (4, .int a4), (5, .int a5), (6, .int a6)]) (fun _ => rfl) (fun v3 => ?_)
      refine j_iload E dX0_reckon_60 0 rfl ?_
      refine j_if_lt E 130 dX0_reckon_62 rfl ?_ ?_
      · exact j_sub [1, 2, 3, 4, 5, 6, 7] (lv1 := [(0, .ref (g.2.2.1 56)), (1, .ref (g.2.2.1 1)), (2, .int a2), (3, .int a3), (4, .int a4), (5, .int a5), (6, .int a6)]) rfl (jxX0_reckon_130 hg N E (xX0_reckon_35 N n) ih a2 a3 a4 a5 a6 h2)
      · refine j_iload E dX0_reckon_65 0 rfl ?_
        refine j_aload_n E dX0_reckon_67 1 rfl ?_
        refine j_getr E f_X0_9 (cX_56 hg) 57 rfl dX0_reckon_68 ?_
        refine j_alen (v := 8161) E (cX_57 hg) (by decide) (by decide) dX0_reckon_71 ?_
        refine j_cmp_ge E 130 dX0_reckon_72 rfl ?_ ?_
        · exact j_sub [1, 2, 3, 4, 5, 6, 7] (lv1 := [(0, .ref (g.2.2.1 56)), (1, .ref (g.2.2.1 1)), (2, .int a2), (3, .int a3), (4, .int a4), (5, .int a5), (6, .int a6)]) rfl (jxX0_reckon_130 hg N E (xX0_reckon_35 N n) ih a2 a3 a4 a5 a6 h2)
        · refine j_aload_n E dX0_reckon_75 1 rfl ?_
          refine j_getr E f_X0_9 (cX_56 hg) 57 rfl dX0_reckon_76 ?_
          refine j_iload E dX0_reckon_79 0 rfl ?_
          refine j_iald E (cX_57 hg) dX0_reckon_81 (fun t4 => ?_)
          refine j_if_eq E 130 dX0_reckon_82 rfl ?_ ?_
          · exact j_sub [1, 2, 3, 4, 5, 6, 7] (lv1 := [(0, .ref (g.2.2.1 56)), (1, .ref (g.2.2.1 1)), (2, .int a2), (3, .int a3), (4, .int a4), (5, .int a5), (6, .int a6)]) rfl (jxX0_reckon_130 hg N E (xX0_reckon_35 N n) ih a2 a3 a4 a5 a6 h2)
          · refine j_aload_n E dX0_reckon_85 1 rfl ?_
            refine j_dup E dX0_reckon_86 rfl ?_
            refine j_geti E f_X0_19 (cX_56 hg) rfl dX0_reckon_87 ?_
            refine j_aload_n E dX0_reckon_90 1 rfl ?_
            refine j_getr E f_X0_9 (cX_56 hg) 57 rfl dX0_reckon_91 ?_
            refine j_iload E dX0_reckon_94 0 rfl ?_
            refine j_iald E (cX_57 hg) dX0_reckon_96 (fun t5 => ?_)
            refine j_bipush E (v := 6) dX0_reckon_97 (by decide) ?_
            refine j_ishr E dX0_reckon_99 ?_
            refine j_iadd E dX0_reckon_100 ?_
            refine j_puti E fp_X0_19 (cX_56 hg) rfl dX0_reckon_101 (fun h6 => ?_)
            refine j_aload_n E dX0_reckon_104 1 rfl ?_
            refine j_aload_n E dX0_reckon_105 1 rfl ?_
            refine j_geti E f_X0_23 (cX_56 hg) rfl dX0_reckon_106 ?_
            refine j_aload_n E dX0_reckon_109 1 rfl ?_
            refine j_geti E f_X0_37 (cX_56 hg) rfl dX0_reckon_110 ?_
            refine j_aload_n E dX0_reckon_113 1 rfl ?_
            refine j_getr E f_X0_9 (cX_56 hg) 57 rfl dX0_reckon_114 ?_
            refine j_iload E dX0_reckon_117 0 rfl ?_
            refine j_iald E (cX_57 hg) dX0_reckon_119 (fun t7 => ?_)
            refine j_bipush E (v := 63) dX0_reckon_120 (by decide) ?_
            refine j_iand E dX0_reckon_122 ?_
            refine j_iadd E dX0_reckon_123 ?_
            refine j_min2 E ml_X0_40 (Nat.le_of_ble_eq_true rfl) (Nat.le_of_ble_eq_true rfl) dX0_reckon_124 ?_
            refine j_puti E fp_X0_23 (cX_56 hg) rfl dX0_reckon_127 (fun h8 => ?_)
            exact j_sub [1, 2, 3, 4, 5, 6, 7] (lv1 := [(0, .ref (g.2.2.1 56)), (1, .ref (g.2.2.1 1)), (2, .int a2), (3, .int a3), (4, .int a4), (5, .int a5), (6, .int a6)]) rfl (jxX0_reckon_130 hg N E (xX0_reckon_35 N n) ih a2 a3 a4 a5 a6 h8)
set_option maxRecDepth 20000 in
set_option maxHeartbeats 4000000 in
theorem jxX0_reckon {g : GC} (hg : isGX g) {X : MX} (N : Nat) (E : JE g mX0_reckon X) (a2 : Int32) (a3 : Int32) (h : HP) : J g mX0_reckon X 0 [(0, .ref (g.2.2.1 56)), (1, .ref (g.2.2.1 1)), (2, .int a2), (3, .int a3)] [] h (xX0_reckon N a2 a3 h) := by
  unfold xX0_reckon
  refine j_iload_n E dX0_reckon_0 2 rfl ?_
  refine j_iconst E (v := 2) dX0_reckon_1 (by decide) ?_
  refine j_idivc E (by decide) dX0_reckon_2 ?_
  refine j_istore E dX0_reckon_3 (Nat.le_of_ble_eq_true rfl) (fun v1 => [(4, .int v1), (0, .ref (g.2.2.1 56)), (1, .ref (g.2.2.1 1)), (2, .int a2), (3, .int a3)]) (fun _ => rfl) (fun v1 => ?_)
  refine j_aload_n E dX0_reckon_5 1 rfl ?_
  refine j_aload_n E dX0_reckon_6 2 rfl ?_
  refine j_iload E dX0_reckon_7 0 rfl ?_
  refine j_callvV (As := [.ref (g.2.2.1 1), .int v1]) (st := []) E (ok_X0_layOut hg E.2.2.2.2.2.2.2.1 N v1 h) (cX_56 hg) (cl_X0_15) (⟨Nat.le_of_ble_eq_true rfl, Nat.le_of_ble_eq_true rfl⟩) rfl rfl (Nat.le_of_ble_eq_true rfl) dX0_reckon_9 (fun t2 h3 => ?_)
  refine j_aload_n E dX0_reckon_12 1 rfl ?_
  refine j_iconst E (v := 0) dX0_reckon_13 (by decide) ?_
  refine j_puti E fp_X0_19 (cX_56 hg) rfl dX0_reckon_14 (fun h4 => ?_)
  refine j_aload_n E dX0_reckon_17 1 rfl ?_
  refine j_bipush E (v := 64) dX0_reckon_18 (by decide) ?_
  refine j_puti E fp_X0_23 (cX_56 hg) rfl dX0_reckon_20 (fun h5 => ?_)
  refine j_iload_n E dX0_reckon_23 3 rfl ?_
  refine j_iload E dX0_reckon_24 0 rfl ?_
  refine j_isub E dX0_reckon_26 ?_
  refine j_callsI (As := [.int (a2 - v1)]) (st := []) E (ok_X0_choicesOf hg E.2.2.2.2.2.2.2.1 N (a2 - v1) h5) (cl_X0_26) (⟨Nat.le_of_ble_eq_true rfl, Nat.le_of_ble_eq_true rfl⟩) rfl rfl (Nat.le_of_ble_eq_true rfl) dX0_reckon_27 (fun t6 h7 => ?_)
  refine j_istore0 E dX0_reckon_30 (Nat.le_of_ble_eq_true rfl) [(5, .int t6), (4, .int v1), (0, .ref (g.2.2.1 56)), (1, .ref (g.2.2.1 1)), (2, .int a2), (3, .int a3)] rfl ?_
  refine j_iconst E (v := 0) dX0_reckon_32 (by decide) ?_
  refine j_istore0 E dX0_reckon_33 (Nat.le_of_ble_eq_true rfl) [(6, .int 0), (5, .int t6), (4, .int v1), (0, .ref (g.2.2.1 56)), (1, .ref (g.2.2.1 1)), (2, .int a2), (3, .int a3)] rfl ?_
  exact j_sub [3, 4, 5, 6, 2, 1, 0] (lv1 := [(0, .ref (g.2.2.1 56)), (1, .ref (g.2.2.1 1)), (2, .int a2), (3, .int a3), (4, .int v1), (5, .int t6), (6, .int 0)]) rfl (jxX0_reckon_35 hg N E N a2 a3 v1 t6 0 h7)
theorem ok_X0_reckon {g : GC} (hg : isGX g) (hI : gI g) (N : Nat) (a2 : Int32) (a3 : Int32) (h : HP) : Ok g yX0_reckon mX0_reckon [.ref (g.2.2.1 56), .ref (g.2.2.1 1), .int a2, .int a3] h (xX0_reckon N a2 a3 h) := Ok.of hI (by decide) rfl (Nat.le_of_ble_eq_true rfl) (fun X E => jxX0_reckon hg N E a2 a3 h)
set_option maxRecDepth 20000 in
set_option maxHeartbeats 4000000 in
theorem jxX10_hasBit_14 {g : GC} (hg : isGX g) {X : MX} (E : JE g mX10_hasBit X) (s0 : Int32) (h : HP) : J g mX10_hasBit X 14 [] [.int s0] h (xX10_hasBit_14 s0 h) := by
  unfold xX10_hasBit_14
  exact j_zreturn E rfl dX10_hasBit_14
set_option maxRecDepth 20000 in
set_option maxHeartbeats 4000000 in
theorem jxX10_hasBit {g : GC} (hg : isGX g) {X : MX} (E : JE g mX10_hasBit X) (a0 : Int32) (a1 : Int32) (h : HP) : J g mX10_hasBit X 0 [(0, .int a0), (1, .int a1)] [] h (xX10_hasBit a0 a1 h) := by
  unfold xX10_hasBit
  refine j_iload_n E dX10_hasBit_0 0 rfl ?_
  refine j_iload_n E dX10_hasBit_1 1 rfl ?_
  refine j_ishr E dX10_hasBit_2 ?_
  refine j_iconst E (v := 1) dX10_hasBit_3 (by decide) ?_
  refine j_iand E dX10_hasBit_4 ?_
  refine j_iconst E (v := 1) dX10_hasBit_5 (by decide) ?_
  refine j_cmp_ne E 13 dX10_hasBit_6 rfl ?_ ?_
  · refine j_iconst E (v := 0) dX10_hasBit_13 (by decide) ?_
    exact j_sub [] (lv1 := []) rfl (jxX10_hasBit_14 hg E 0 h)
  · refine j_iconst E (v := 1) dX10_hasBit_9 (by decide) ?_
    refine j_goto E 14 dX10_hasBit_10 rfl ?_
    exact j_sub [] (lv1 := []) rfl (jxX10_hasBit_14 hg E 1 h)
theorem ok_X10_hasBit {g : GC} (hg : isGX g) (hI : gI g) (a0 : Int32) (a1 : Int32) (h : HP) : Ok g yX10_hasBit mX10_hasBit [.int a0, .int a1] h (xX10_hasBit a0 a1 h) := Ok.of hI (by decide) rfl (Nat.le_of_ble_eq_true rfl) (fun X E => jxX10_hasBit hg E a0 a1 h)
set_option maxRecDepth 20000 in
set_option maxHeartbeats 4000000 in
theorem jxX1_spreadFrom_60 {g : GC} (hg : isGX g) {X : MX} (N : Nat) (E : JE g mX1_spreadFrom X) (K4 : Int32 → Int32 → Int32 → HP → Option (Int32 × HP)) (hK4 : ∀ (a1 : Int32) (a2 : Int32) (a3 : Int32) (h : HP), J g mX1_spreadFrom X 4 [(0, .ref (g.2.2.1 49)), (1, .int a1), (2, .int a2), (3, .int a3)] [] h (K4 a1 a2 a3 h)) (a1 : Int32) (a2 : Int32) (a3 : Int32) (h : HP) : J g mX1_spreadFrom X 60 [(0, .ref (g.2.2.1 49)), (1, .int a1), (2, .int a2), (3, .int a3)] [] h (xX1_spreadFrom_60 N K4 a1 a2 a3 h) := by
  unfold xX1_spreadFrom_60
  refine j_iinc E (c := 1) dX1_spreadFrom_60 3 rfl (by decide) (Nat.le_of_ble_eq_true rfl) (fun v1 => [(3, .int v1), (0, .ref (g.2.2.1 49)), (1, .int a1), (2, .int a2)]) (fun _ => rfl) (fun v1 => ?_)
  refine j_goto E 4 dX1_spreadFrom_63 rfl ?_
  exact j_sub [1, 2, 3, 0] (lv1 := [(0, .ref (g.2.2.1 49)), (1, .int a1), (2, .int a2), (3, .int v1)]) rfl (hK4 a1 a2 v1 h)
set_option maxRecDepth 20000 in
set_option maxHeartbeats 4000000 in
theorem jxX1_spreadFrom_4 {g : GC} (hg : isGX g) {X : MX} (N : Nat) (E : JE g mX1_spreadFrom X) : ∀ (n : Nat) (a1 : Int32) (a2 : Int32) (a3 : Int32) (h : HP), J g mX1_spreadFrom X 4 [(0, .ref (g.2.2.1 49)), (1, .int a1), (2, .int a2), (3, .int a3)] [] h (xX1_spreadFrom_4 N n a1 a2 a3 h) := by
  intro n
  induction n with
  | zero => intro a1 a2 a3 h; exact j_none
  | succ n ih =>
    intro a1 a2 a3 h
    unfold xX1_spreadFrom_4
    refine j_iload_n E dX1_spreadFrom_4 3 rfl ?_
    refine j_bipush E (v := 16) dX1_spreadFrom_5 (by decide) ?_
    refine j_cmp_ge E 66 dX1_spreadFrom_7 rfl ?_ ?_
    · refine j_iload_n E dX1_spreadFrom_66 2 rfl ?_
      exact j_ireturn E rfl dX1_spreadFrom_67
    · refine j_aload_n E dX1_spreadFrom_10 0 rfl ?_
      refine j_geti E f_X1_51 (cX_49 hg) rfl dX1_spreadFrom_11 ?_
      refine j_iload_n E dX1_spreadFrom_14 3 rfl ?_
      refine j_callnI (As := [.int (h.1 49 3), .int a3]) (st := []) E (ok_X10_hasBit hg E.2.2.2.2.2.2.2.1 (h.1 49 3) a3 h) (cl_X1_34) (⟨Nat.le_of_ble_eq_true rfl, Nat.le_of_ble_eq_true rfl⟩) rfl rfl (Nat.le_of_ble_eq_true rfl) dX1_spreadFrom_15 (fun t1 h2 => ?_)
      refine j_if_ne E 60 dX1_spreadFrom_18 rfl ?_ ?_
      · exact jxX1_spreadFrom_60 hg N E (xX1_spreadFrom_4 N n) ih a1 a2 a3 h2
      · refine j_aload_n E dX1_spreadFrom_21 0 rfl ?_
        refine j_getr E f_X1_9 (cX_49 hg) 50 rfl dX1_spreadFrom_22 ?_
        refine j_iload_n E dX1_spreadFrom_25 1 rfl ?_
        refine j_bipush E (v := 16) dX1_spreadFrom_26 (by decide) ?_
        refine j_imul E dX1_spreadFrom_28 ?_
        refine j_iload_n E dX1_spreadFrom_29 3 rfl ?_
        refine j_iadd E dX1_spreadFrom_30 ?_
        refine j_iald E (cX_50 hg) dX1_spreadFrom_31 (fun t3 => ?_)
        refine j_if_le E 60 dX1_spreadFrom_32 rfl ?_ ?_
        · exact jxX1_spreadFrom_60 hg N E (xX1_spreadFrom_4 N n) ih a1 a2 a3 h2
        · refine j_aload_n E dX1_spreadFrom_35 0 rfl ?_
          refine j_dup E dX1_spreadFrom_36 rfl ?_
          refine j_geti E f_X1_51 (cX_49 hg) rfl dX1_spreadFrom_37 ?_
          refine j_iconst E (v := 1) dX1_spreadFrom_40 (by decide) ?_
          refine j_iload_n E dX1_spreadFrom_41 3 rfl ?_
          refine j_ishl E dX1_spreadFrom_42 ?_
          refine j_ior E dX1_spreadFrom_43 ?_
          refine j_puti E fp_X1_51 (cX_49 hg) rfl dX1_spreadFrom_44 (fun h4 => ?_)
          refine j_iload_n E dX1_spreadFrom_47 2 rfl ?_
          refine j_iconst E (v := 1) dX1_spreadFrom_48 (by decide) ?_
          refine j_iload_n E dX1_spreadFrom_49 3 rfl ?_
          refine j_ishl E dX1_spreadFrom_50 ?_
          refine j_ior E dX1_spreadFrom_51 ?_
          refine j_istore_n E dX1_spreadFrom_52 (Nat.le_of_ble_eq_true rfl) (fun v5 => [(2, .int v5), (0, .ref (g.2.2.1 49)), (1, .int a1), (3, .int a3)]) (fun _ => rfl) (fun v5 => ?_)
          refine j_aload_n E dX1_spreadFrom_53 1 rfl ?_
          refine j_getr E f_X1_15 (cX_49 hg) 51 rfl dX1_spreadFrom_54 ?_
          refine j_iload_n E dX1_spreadFrom_57 3 rfl ?_
          refine j_iload_n E dX1_spreadFrom_58 2 rfl ?_
          refine j_iast E (cX_51 hg) dX1_spreadFrom_59 (fun h6 => ?_)
          exact j_sub [1, 2, 0, 3] (lv1 := [(0, .ref (g.2.2.1 49)), (1, .int a1), (2, .int v5), (3, .int a3)]) rfl (jxX1_spreadFrom_60 hg N E (xX1_spreadFrom_4 N n) ih a1 v5 a3 h6)
set_option maxRecDepth 20000 in
set_option maxHeartbeats 4000000 in
theorem jxX1_spreadFrom {g : GC} (hg : isGX g) {X : MX} (N : Nat) (E : JE g mX1_spreadFrom X) (a1 : Int32) (h : HP) : J g mX1_spreadFrom X 0 [(0, .ref (g.2.2.1 49)), (1, .int a1)] [] h (xX1_spreadFrom N a1 h) := by
  unfold xX1_spreadFrom
  refine j_iconst E (v := 0) dX1_spreadFrom_0 (by decide) ?_
  refine j_istore0_n E dX1_spreadFrom_1 (Nat.le_of_ble_eq_true rfl) [(2, .int 0), (0, .ref (g.2.2.1 49)), (1, .int a1)] rfl ?_
  refine j_iconst E (v := 0) dX1_spreadFrom_2 (by decide) ?_
  refine j_istore0_n E dX1_spreadFrom_3 (Nat.le_of_ble_eq_true rfl) [(3, .int 0), (2, .int 0), (0, .ref (g.2.2.1 49)), (1, .int a1)] rfl ?_
  exact j_sub [2, 3, 1, 0] (lv1 := [(0, .ref (g.2.2.1 49)), (1, .int a1), (2, .int 0), (3, .int 0)]) rfl (jxX1_spreadFrom_4 hg N E N a1 0 0 h)
theorem ok_X1_spreadFrom {g : GC} (hg : isGX g) (hI : gI g) (N : Nat) (a1 : Int32) (h : HP) : Ok g yX1_spreadFrom mX1_spreadFrom [.ref (g.2.2.1 49), .int a1] h (xX1_spreadFrom N a1 h) := Ok.of hI (by decide) rfl (Nat.le_of_ble_eq_true rfl) (fun X E => jxX1_spreadFrom hg N E a1 h)
set_option maxRecDepth 20000 in
set_option maxHeartbeats 4000000 in
theorem jxX1_seek_57 {g : GC} (hg : isGX g) {X : MX} (N : Nat) (E : JE g mX1_seek X) (K30 : Int32 → Int32 → Int32 → Int32 → HP → Option (Int32 × HP)) (hK30 : ∀ (a2 : Int32) (a3 : Int32) (a4 : Int32) (a5 : Int32) (h : HP), J g mX1_seek X 30 [(0, .ref (g.2.2.1 49)), (2, .int a2), (3, .int a3), (4, .int a4), (5, .int a5)] [] h (K30 a2 a3 a4 a5 h)) (a2 : Int32) (a3 : Int32) (a4 : Int32) (a5 : Int32) (h : HP) : J g mX1_seek X 57 [(0, .ref (g.2.2.1 49)), (2, .int a2), (3, .int a3), (4, .int a4), (5, .int a5)] [] h (xX1_seek_57 N K30 a2 a3 a4 a5 h) := by
  unfold xX1_seek_57
  refine j_iinc E (c := 1) dX1_seek_57 4 rfl (by decide) (Nat.le_of_ble_eq_true rfl) (fun v1 => [(5, .int v1), (0, .ref (g.2.2.1 49)), (2, .int a2), (3, .int a3), (4, .int a4)]) (fun _ => rfl) (fun v1 => ?_)
  refine j_goto E 30 dX1_seek_60 rfl ?_
  exact j_sub [1, 2, 3, 4, 0] (lv1 := [(0, .ref (g.2.2.1 49)), (2, .int a2), (3, .int a3), (4, .int a4), (5, .int v1)]) rfl (hK30 a2 a3 a4 v1 h)
set_option maxRecDepth 20000 in
set_option maxHeartbeats 4000000 in
theorem jxX1_seek_30 {g : GC} (hg : isGX g) {X : MX} (N : Nat) (E : JE g mX1_seek X) (K14 : Int32 → Int32 → HP → Option (Int32 × HP)) (hK14 : ∀ (a2 : Int32) (a3 : Int32) (h : HP), J g mX1_seek X 14 [(0, .ref (g.2.2.1 49)), (2, .int a2), (3, .int a3)] [] h (K14 a2 a3 h)) : ∀ (n : Nat) (a2 : Int32) (a3 : Int32) (a4 : Int32) (a5 : Int32) (h : HP), J g mX1_seek X 30 [(0, .ref (g.2.2.1 49)), (2, .int a2), (3, .int a3), (4, .int a4), (5, .int a5)] [] h (xX1_seek_30 N K14 n a2 a3 a4 a5 h) := by
  intro n
  induction n with
  | zero => intro a2 a3 a4 a5 h; exact j_none
  | succ n ih =>
    intro a2 a3 a4 a5 h
    unfold xX1_seek_30
    refine j_iload E dX1_seek_30 4 rfl ?_
    refine j_bipush E (v := 16) dX1_seek_32 (by decide) ?_
    refine j_cmp_ge E 63 dX1_seek_34 rfl ?_ ?_
    · refine j_iload E dX1_seek_63 3 rfl ?_
      refine j_istore0_n E dX1_seek_65 (Nat.le_of_ble_eq_true rfl) [(2, .int a4), (0, .ref (g.2.2.1 49)), (3, .int a3), (4, .int a4), (5, .int a5)] rfl ?_
      refine j_iinc E (c := 1) dX1_seek_66 2 rfl (by decide) (Nat.le_of_ble_eq_true rfl) (fun v1 => [(3, .int v1), (2, .int a4), (0, .ref (g.2.2.1 49)), (4, .int a4), (5, .int a5)]) (fun _ => rfl) (fun v1 => ?_)
      refine j_goto E 14 dX1_seek_69 rfl ?_
      exact j_sub [2, 1, 0] (lv1 := [(0, .ref (g.2.2.1 49)), (2, .int a4), (3, .int v1)]) rfl (hK14 a4 v1 h)
    · refine j_iload_n E dX1_seek_37 1 rfl ?_
      refine j_iload E dX1_seek_38 4 rfl ?_
      refine j_callnI (As := [.int a2, .int a5]) (st := []) E (ok_X10_hasBit hg E.2.2.2.2.2.2.2.1 a2 a5 h) (cl_X1_34) (⟨Nat.le_of_ble_eq_true rfl, Nat.le_of_ble_eq_true rfl⟩) rfl rfl (Nat.le_of_ble_eq_true rfl) dX1_seek_40 (fun t2 h3 => ?_)
      refine j_if_eq E 57 dX1_seek_43 rfl ?_ ?_
      · exact jxX1_seek_57 hg N E (xX1_seek_30 N K14 n) ih a2 a3 a4 a5 h3
      · refine j_iload E dX1_seek_46 3 rfl ?_
        refine j_aload_n E dX1_seek_48 0 rfl ?_
        refine j_iload E dX1_seek_49 4 rfl ?_
        refine j_callvI (As := [.int a5]) (st := [.int a4]) E (ok_X1_spreadFrom hg E.2.2.2.2.2.2.2.1 N a5 h3) (cX_49 hg) (cl_X1_58) (⟨Nat.le_of_ble_eq_true rfl, Nat.le_of_ble_eq_true rfl⟩) rfl rfl (Nat.le_of_ble_eq_true rfl) dX1_seek_51 (fun t4 h5 => ?_)
        refine j_ior E dX1_seek_54 ?_
        refine j_istore E dX1_seek_55 (Nat.le_of_ble_eq_true rfl) (fun v6 => [(4, .int v6), (0, .ref (g.2.2.1 49)), (2, .int a2), (3, .int a3), (5, .int a5)]) (fun _ => rfl) (fun v6 => ?_)
        exact j_sub [1, 2, 3, 0, 4] (lv1 := [(0, .ref (g.2.2.1 49)), (2, .int a2), (3, .int a3), (4, .int v6), (5, .int a5)]) rfl (jxX1_seek_57 hg N E (xX1_seek_30 N K14 n) ih a2 a3 v6 a5 h5)
set_option maxRecDepth 20000 in
set_option maxHeartbeats 4000000 in
theorem jxX1_seek_72 {g : GC} (hg : isGX g) {X : MX} (N : Nat) (E : JE g mX1_seek X) (h : HP) : J g mX1_seek X 72 [] [] h (xX1_seek_72 N h) := by
  unfold xX1_seek_72
  exact j_vreturn E rfl dX1_seek_72
set_option maxRecDepth 20000 in
set_option maxHeartbeats 4000000 in
theorem jxX1_seek_14 {g : GC} (hg : isGX g) {X : MX} (N : Nat) (E : JE g mX1_seek X) : ∀ (n : Nat) (a2 : Int32) (a3 : Int32) (h : HP), J g mX1_seek X 14 [(0, .ref (g.2.2.1 49)), (2, .int a2), (3, .int a3)] [] h (xX1_seek_14 N n a2 a3 h) := by
  intro n
  induction n with
  | zero => intro a2 a3 h; exact j_none
  | succ n ih =>
    intro a2 a3 h
    unfold xX1_seek_14
    refine j_iload_n E dX1_seek_14 2 rfl ?_
    refine j_bipush E (v := 16) dX1_seek_15 (by decide) ?_
    refine j_cmp_ge E 72 dX1_seek_17 rfl ?_ ?_
    · exact j_sub [] (lv1 := []) rfl (jxX1_seek_72 hg N E h)
    · refine j_iload_n E dX1_seek_20 1 rfl ?_
      refine j_if_eq E 72 dX1_seek_21 rfl ?_ ?_
      · exact j_sub [] (lv1 := []) rfl (jxX1_seek_72 hg N E h)
      · refine j_iconst E (v := 0) dX1_seek_24 (by decide) ?_
        refine j_istore0 E dX1_seek_25 (Nat.le_of_ble_eq_true rfl) [(4, .int 0), (0, .ref (g.2.2.1 49)), (2, .int a2), (3, .int a3)] rfl ?_
        refine j_iconst E (v := 0) dX1_seek_27 (by decide) ?_
        refine j_istore0 E dX1_seek_28 (Nat.le_of_ble_eq_true rfl) [(5, .int 0), (4, .int 0), (0, .ref (g.2.2.1 49)), (2, .int a2), (3, .int a3)] rfl ?_
        exact j_sub [2, 3, 4, 1, 0] (lv1 := [(0, .ref (g.2.2.1 49)), (2, .int a2), (3, .int a3), (4, .int 0), (5, .int 0)]) rfl (jxX1_seek_30 hg N E (xX1_seek_14 N n) ih N a2 a3 0 0 h)
set_option maxRecDepth 20000 in
set_option maxHeartbeats 4000000 in
theorem jxX1_seek {g : GC} (hg : isGX g) {X : MX} (N : Nat) (E : JE g mX1_seek X) (a1 : Int32) (h : HP) : J g mX1_seek X 0 [(0, .ref (g.2.2.1 49)), (1, .int a1)] [] h (xX1_seek N a1 h) := by
  unfold xX1_seek
  refine j_aload_n E dX1_seek_0 0 rfl ?_
  refine j_iconst E (v := 1) dX1_seek_1 (by decide) ?_
  refine j_iload_n E dX1_seek_2 1 rfl ?_
  refine j_ishl E dX1_seek_3 ?_
  refine j_puti E fp_X1_51 (cX_49 hg) rfl dX1_seek_4 (fun h1 => ?_)
  refine j_aload_n E dX1_seek_7 0 rfl ?_
  refine j_geti E f_X1_51 (cX_49 hg) rfl dX1_seek_8 ?_
  refine j_istore_n E dX1_seek_11 (Nat.le_of_ble_eq_true rfl) (fun v2 => [(2, .int v2), (0, .ref (g.2.2.1 49)), (1, .int a1)]) (fun _ => rfl) (fun v2 => ?_)
  refine j_iconst E (v := 0) dX1_seek_12 (by decide) ?_
  refine j_istore0_n E dX1_seek_13 (Nat.le_of_ble_eq_true rfl) [(3, .int 0), (2, .int v2), (0, .ref (g.2.2.1 49)), (1, .int a1)] rfl ?_
  exact j_sub [2, 1, 0] (lv1 := [(0, .ref (g.2.2.1 49)), (2, .int v2), (3, .int 0)]) rfl (jxX1_seek_14 hg N E N v2 0 h1)
theorem ok_X1_seek {g : GC} (hg : isGX g) (hI : gI g) (N : Nat) (a1 : Int32) (h : HP) : Ok g yX1_seek mX1_seek [.ref (g.2.2.1 49), .int a1] h (xX1_seek N a1 h) := Ok.of hI (by decide) rfl (Nat.le_of_ble_eq_true rfl) (fun X E => jxX1_seek hg N E a1 h)
set_option maxRecDepth 20000 in
set_option maxHeartbeats 4000000 in
theorem jxX1_pushBy_139 {g : GC} (hg : isGX g) {X : MX} (N : Nat) (E : JE g mX1_pushBy X) (a3 : Int32) (h : HP) : J g mX1_pushBy X 139 [(3, .int a3)] [] h (xX1_pushBy_139 N a3 h) := by
  unfold xX1_pushBy_139
  refine j_iload_n E dX1_pushBy_139 0 rfl ?_
  exact j_ireturn E rfl dX1_pushBy_140
set_option maxRecDepth 20000 in
set_option maxHeartbeats 4000000 in
theorem jxX1_pushBy_67 {g : GC} (hg : isGX g) {X : MX} (N : Nat) (E : JE g mX1_pushBy X) : ∀ (n : Nat) (a1 : Int32) (a3 : Int32) (a4 : Int32) (a5 : Int32) (h : HP), J g mX1_pushBy X 67 [(0, .ref (g.2.2.1 49)), (1, .int a1), (3, .int a3), (4, .int a4), (5, .int a5)] [] h (xX1_pushBy_67 N n a1 a3 a4 a5 h) := by
  intro n
  induction n with
  | zero => intro a1 a3 a4 a5 h; exact j_none
  | succ n ih =>
    intro a1 a3 a4 a5 h
    unfold xX1_pushBy_67
    refine j_iload E dX1_pushBy_67 4 rfl ?_
    refine j_bipush E (v := 16) dX1_pushBy_69 (by decide) ?_
    refine j_cmp_ge E 139 dX1_pushBy_71 rfl ?_ ?_
    · exact j_sub [2] (lv1 := [(3, .int a3)]) rfl (jxX1_pushBy_139 hg N E a3 h)
    · refine j_iload E dX1_pushBy_74 3 rfl ?_
      refine j_iload_n E dX1_pushBy_76 1 rfl ?_
      refine j_cmp_eq E 139 dX1_pushBy_77 rfl ?_ ?_
      · exact j_sub [2] (lv1 := [(3, .int a3)]) rfl (jxX1_pushBy_139 hg N E a3 h)
      · refine j_aload_n E dX1_pushBy_80 0 rfl ?_
        refine j_getr E f_X1_9 (cX_49 hg) 50 rfl dX1_pushBy_81 ?_
        refine j_aload_n E dX1_pushBy_84 0 rfl ?_
        refine j_getr E f_X1_15 (cX_49 hg) 51 rfl dX1_pushBy_85 ?_
        refine j_iload E dX1_pushBy_88 3 rfl ?_
        refine j_iald E (cX_51 hg) dX1_pushBy_90 (fun t1 => ?_)
        refine j_bipush E (v := 16) dX1_pushBy_91 (by decide) ?_
        refine j_imul E dX1_pushBy_93 ?_
        refine j_iload E dX1_pushBy_94 3 rfl ?_
        refine j_iadd E dX1_pushBy_96 ?_
        refine j_dup2 E dX1_pushBy_97 rfl rfl ?_
        refine j_iald E (cX_50 hg) dX1_pushBy_98 (fun t2 => ?_)
        refine j_iload_n E dX1_pushBy_99 2 rfl ?_
        refine j_isub E dX1_pushBy_100 ?_
        refine j_iast E (cX_50 hg) dX1_pushBy_101 (fun h3 => ?_)
        refine j_aload_n E dX1_pushBy_102 0 rfl ?_
        refine j_getr E f_X1_9 (cX_49 hg) 50 rfl dX1_pushBy_103 ?_
        refine j_iload E dX1_pushBy_106 3 rfl ?_
        refine j_bipush E (v := 16) dX1_pushBy_108 (by decide) ?_
        refine j_imul E dX1_pushBy_110 ?_
        refine j_aload_n E dX1_pushBy_111 0 rfl ?_
        refine j_getr E f_X1_15 (cX_49 hg) 51 rfl dX1_pushBy_112 ?_
        refine j_iload E dX1_pushBy_115 3 rfl ?_
        refine j_iald E (cX_51 hg) dX1_pushBy_117 (fun t4 => ?_)
        refine j_iadd E dX1_pushBy_118 ?_
        refine j_dup2 E dX1_pushBy_119 rfl rfl ?_
        refine j_iald E (cX_50 hg) dX1_pushBy_120 (fun t5 => ?_)
        refine j_iload_n E dX1_pushBy_121 2 rfl ?_
        refine j_iadd E dX1_pushBy_122 ?_
        refine j_iast E (cX_50 hg) dX1_pushBy_123 (fun h6 => ?_)
        refine j_aload_n E dX1_pushBy_124 0 rfl ?_
        refine j_getr E f_X1_15 (cX_49 hg) 51 rfl dX1_pushBy_125 ?_
        refine j_iload E dX1_pushBy_128 3 rfl ?_
        refine j_iald E (cX_51 hg) dX1_pushBy_130 (fun t7 => ?_)
        refine j_istore0 E dX1_pushBy_131 (Nat.le_of_ble_eq_true rfl) [(4, .int t7), (0, .ref (g.2.2.1 49)), (1, .int a1), (3, .int a3), (5, .int a5)] rfl ?_
        refine j_iinc E (c := 1) dX1_pushBy_133 4 rfl (by decide) (Nat.le_of_ble_eq_true rfl) (fun v8 => [(5, .int v8), (4, .int t7), (0, .ref (g.2.2.1 49)), (1, .int a1), (3, .int a3)]) (fun _ => rfl) (fun v8 => ?_)
        refine j_goto E 67 dX1_pushBy_136 rfl ?_
        exact j_sub [2, 3, 4, 1, 0] (lv1 := [(0, .ref (g.2.2.1 49)), (1, .int a1), (3, .int a3), (4, .int t7), (5, .int v8)]) rfl (ih a1 a3 t7 v8 h6)
set_option maxRecDepth 20000 in
set_option maxHeartbeats 4000000 in
theorem jxX1_pushBy_61 {g : GC} (hg : isGX g) {X : MX} (N : Nat) (E : JE g mX1_pushBy X) (a1 : Int32) (a2 : Int32) (a3 : Int32) (h : HP) : J g mX1_pushBy X 61 [(0, .ref (g.2.2.1 49)), (1, .int a1), (2, .int a2), (3, .int a3)] [] h (xX1_pushBy_61 N a1 a2 a3 h) := by
  unfold xX1_pushBy_61
  refine j_iload_n E dX1_pushBy_61 2 rfl ?_
  refine j_istore0 E dX1_pushBy_62 (Nat.le_of_ble_eq_true rfl) [(4, .int a2), (0, .ref (g.2.2.1 49)), (1, .int a1), (2, .int a2), (3, .int a3)] rfl ?_
  refine j_iconst E (v := 0) dX1_pushBy_64 (by decide) ?_
  refine j_istore0 E dX1_pushBy_65 (Nat.le_of_ble_eq_true rfl) [(5, .int 0), (4, .int a2), (0, .ref (g.2.2.1 49)), (1, .int a1), (2, .int a2), (3, .int a3)] rfl ?_
  exact j_sub [2, 3, 5, 1, 0] (lv1 := [(0, .ref (g.2.2.1 49)), (1, .int a1), (3, .int a3), (4, .int a2), (5, .int 0)]) rfl (jxX1_pushBy_67 hg N E N a1 a3 a2 0 h)
set_option maxRecDepth 20000 in
set_option maxHeartbeats 4000000 in
theorem jxX1_pushBy_10 {g : GC} (hg : isGX g) {X : MX} (N : Nat) (E : JE g mX1_pushBy X) : ∀ (n : Nat) (a1 : Int32) (a2 : Int32) (a3 : Int32) (a4 : Int32) (a5 : Int32) (h : HP), J g mX1_pushBy X 10 [(0, .ref (g.2.2.1 49)), (1, .int a1), (2, .int a2), (3, .int a3), (4, .int a4), (5, .int a5)] [] h (xX1_pushBy_10 N n a1 a2 a3 a4 a5 h) := by
  intro n
  induction n with
  | zero => intro a1 a2 a3 a4 a5 h; exact j_none
  | succ n ih =>
    intro a1 a2 a3 a4 a5 h
    unfold xX1_pushBy_10
    refine j_iload E dX1_pushBy_10 5 rfl ?_
    refine j_bipush E (v := 16) dX1_pushBy_12 (by decide) ?_
    refine j_cmp_ge E 61 dX1_pushBy_14 rfl ?_ ?_
    · exact j_sub [0, 1, 2, 3] (lv1 := [(0, .ref (g.2.2.1 49)), (1, .int a1), (2, .int a2), (3, .int a3)]) rfl (jxX1_pushBy_61 hg N E a1 a2 a3 h)
    · refine j_iload E dX1_pushBy_17 4 rfl ?_
      refine j_iload_n E dX1_pushBy_19 1 rfl ?_
      refine j_cmp_eq E 61 dX1_pushBy_20 rfl ?_ ?_
      · exact j_sub [0, 1, 2, 3] (lv1 := [(0, .ref (g.2.2.1 49)), (1, .int a1), (2, .int a2), (3, .int a3)]) rfl (jxX1_pushBy_61 hg N E a1 a2 a3 h)
      · refine j_iload_n E dX1_pushBy_23 3 rfl ?_
        refine j_aload_n E dX1_pushBy_24 0 rfl ?_
        refine j_getr E f_X1_9 (cX_49 hg) 50 rfl dX1_pushBy_25 ?_
        refine j_aload_n E dX1_pushBy_28 0 rfl ?_
        refine j_getr E f_X1_15 (cX_49 hg) 51 rfl dX1_pushBy_29 ?_
        refine j_iload E dX1_pushBy_32 4 rfl ?_
        refine j_iald E (cX_51 hg) dX1_pushBy_34 (fun t1 => ?_)
        refine j_bipush E (v := 16) dX1_pushBy_35 (by decide) ?_
        refine j_imul E dX1_pushBy_37 ?_
        refine j_iload E dX1_pushBy_38 4 rfl ?_
        refine j_iadd E dX1_pushBy_40 ?_
        refine j_iald E (cX_50 hg) dX1_pushBy_41 (fun t2 => ?_)
        refine j_min2 E ml_X1_62 (Nat.le_of_ble_eq_true rfl) (Nat.le_of_ble_eq_true rfl) dX1_pushBy_42 ?_
        refine j_istore_n E dX1_pushBy_45 (Nat.le_of_ble_eq_true rfl) (fun v3 => [(3, .int v3), (0, .ref (g.2.2.1 49)), (1, .int a1), (2, .int a2), (4, .int a4), (5, .int a5)]) (fun _ => rfl) (fun v3 => ?_)
        refine j_aload_n E dX1_pushBy_46 1 rfl ?_
        refine j_getr E f_X1_15 (cX_49 hg) 51 rfl dX1_pushBy_47 ?_
        refine j_iload E dX1_pushBy_50 4 rfl ?_
        refine j_iald E (cX_51 hg) dX1_pushBy_52 (fun t4 => ?_)
        refine j_istore0 E dX1_pushBy_53 (Nat.le_of_ble_eq_true rfl) [(4, .int t4), (3, .int v3), (0, .ref (g.2.2.1 49)), (1, .int a1), (2, .int a2), (5, .int a5)] rfl ?_
        refine j_iinc E (c := 1) dX1_pushBy_55 5 rfl (by decide) (Nat.le_of_ble_eq_true rfl) (fun v5 => [(5, .int v5), (4, .int t4), (3, .int v3), (0, .ref (g.2.2.1 49)), (1, .int a1), (2, .int a2)]) (fun _ => rfl) (fun v5 => ?_)
        refine j_goto E 10 dX1_pushBy_58 rfl ?_
        exact j_sub [3, 4, 5, 2, 1, 0] (lv1 := [(0, .ref (g.2.2.1 49)), (1, .int a1), (2, .int a2), (3, .int v3), (4, .int t4), (5, .int v5)]) rfl (ih a1 a2 v3 t4 v5 h)
set_option maxRecDepth 20000 in
set_option maxHeartbeats 4000000 in
theorem jxX1_pushBy {g : GC} (hg : isGX g) {X : MX} (N : Nat) (E : JE g mX1_pushBy X) (a1 : Int32) (a2 : Int32) (h : HP) : J g mX1_pushBy X 0 [(0, .ref (g.2.2.1 49)), (1, .int a1), (2, .int a2)] [] h (xX1_pushBy N a1 a2 h) := by
  unfold xX1_pushBy
  refine j_sipush E (v := 2376) dX1_pushBy_0 (by decide) ?_
  refine j_istore0_n E dX1_pushBy_3 (Nat.le_of_ble_eq_true rfl) [(3, .int 2376), (0, .ref (g.2.2.1 49)), (1, .int a1), (2, .int a2)] rfl ?_
  refine j_iload_n E dX1_pushBy_4 3 rfl ?_
  refine j_istore0 E dX1_pushBy_5 (Nat.le_of_ble_eq_true rfl) [(4, .int a2), (3, .int 2376), (0, .ref (g.2.2.1 49)), (1, .int a1), (2, .int a2)] rfl ?_
  refine j_iconst E (v := 0) dX1_pushBy_7 (by decide) ?_
  refine j_istore0 E dX1_pushBy_8 (Nat.le_of_ble_eq_true rfl) [(5, .int 0), (4, .int a2), (3, .int 2376), (0, .ref (g.2.2.1 49)), (1, .int a1), (2, .int a2)] rfl ?_
  exact j_sub [3, 4, 5, 2, 1, 0] (lv1 := [(0, .ref (g.2.2.1 49)), (1, .int a1), (2, .int a2), (3, .int 2376), (4, .int a2), (5, .int 0)]) rfl (jxX1_pushBy_10 hg N E N a1 a2 2376 a2 0 h)
theorem ok_X1_pushBy {g : GC} (hg : isGX g) (hI : gI g) (N : Nat) (a1 : Int32) (a2 : Int32) (h : HP) : Ok g yX1_pushBy mX1_pushBy [.ref (g.2.2.1 49), .int a1, .int a2] h (xX1_pushBy N a1 a2 h) := Ok.of hI (by decide) rfl (Nat.le_of_ble_eq_true rfl) (fun X E => jxX1_pushBy hg N E a1 a2 h)
set_option maxRecDepth 20000 in
set_option maxHeartbeats 4000000 in
theorem jxX1_push_121 {g : GC} (hg : isGX g) {X : MX} (N : Nat) (E : JE g mX1_push X) (K11 : Int32 → Int32 → Int32 → Int32 → Int32 → HP → Option (Int32 × HP)) (hK11 : ∀ (a1 : Int32) (a2 : Int32) (a3 : Int32) (a4 : Int32) (a5 : Int32) (h : HP), J g mX1_push X 11 [(0, .ref (g.2.2.1 49)), (1, .int a1), (2, .int a2), (3, .int a3), (4, .int a4), (5, .int a5)] [] h (K11 a1 a2 a3 a4 a5 h)) (a1 : Int32) (a2 : Int32) (a3 : Int32) (a4 : Int32) (a5 : Int32) (h : HP) : J g mX1_push X 121 [(0, .ref (g.2.2.1 49)), (1, .int a1), (2, .int a2), (3, .int a3), (4, .int a4), (5, .int a5)] [] h (xX1_push_121 N K11 a1 a2 a3 a4 a5 h) := by
  unfold xX1_push_121
  refine j_iinc E (c := 1) dX1_push_121 5 rfl (by decide) (Nat.le_of_ble_eq_true rfl) (fun v1 => [(5, .int v1), (0, .ref (g.2.2.1 49)), (1, .int a1), (2, .int a2), (3, .int a3), (4, .int a4)]) (fun _ => rfl) (fun v1 => ?_)
  refine j_goto E 11 dX1_push_124 rfl ?_
  exact j_sub [1, 2, 3, 4, 5, 0] (lv1 := [(0, .ref (g.2.2.1 49)), (1, .int a1), (2, .int a2), (3, .int a3), (4, .int a4), (5, .int v1)]) rfl (hK11 a1 a2 a3 a4 v1 h)
set_option maxRecDepth 20000 in
set_option maxHeartbeats 4000000 in
theorem jxX1_push_51 {g : GC} (hg : isGX g) {X : MX} (N : Nat) (E : JE g mX1_push X) (K11 : Int32 → Int32 → Int32 → Int32 → Int32 → HP → Option (Int32 × HP)) (hK11 : ∀ (a1 : Int32) (a2 : Int32) (a3 : Int32) (a4 : Int32) (a5 : Int32) (h : HP), J g mX1_push X 11 [(0, .ref (g.2.2.1 49)), (1, .int a1), (2, .int a2), (3, .int a3), (4, .int a4), (5, .int a5)] [] h (K11 a1 a2 a3 a4 a5 h)) (a1 : Int32) (a2 : Int32) (a3 : Int32) (a4 : Int32) (a5 : Int32) (s0 : Int32) (h : HP) : J g mX1_push X 51 [(0, .ref (g.2.2.1 49)), (1, .int a1), (2, .int a2), (3, .int a3), (4, .int a4), (5, .int a5)] [.int s0] h (xX1_push_51 N K11 a1 a2 a3 a4 a5 s0 h) := by
  unfold xX1_push_51
  refine j_istore0 E dX1_push_51 (Nat.le_of_ble_eq_true rfl) [(6, .int s0), (0, .ref (g.2.2.1 49)), (1, .int a1), (2, .int a2), (3, .int a3), (4, .int a4), (5, .int a5)] rfl ?_
  refine j_aload_n E dX1_push_53 1 rfl ?_
  refine j_getr E f_X1_9 (cX_49 hg) 50 rfl dX1_push_54 ?_
  refine j_aload_n E dX1_push_57 1 rfl ?_
  refine j_getr E f_X1_18 (cX_49 hg) 3 rfl dX1_push_58 ?_
  refine j_getr E f_X1_41 (cX_3 hg) 5 rfl dX1_push_61 ?_
  refine j_iload E dX1_push_64 6 rfl ?_
  refine j_iald E (cX_5 hg) dX1_push_66 (fun t1 => ?_)
  refine j_bipush E (v := 16) dX1_push_67 (by decide) ?_
  refine j_imul E dX1_push_69 ?_
  refine j_aload_n E dX1_push_70 1 rfl ?_
  refine j_getr E f_X1_18 (cX_49 hg) 3 rfl dX1_push_71 ?_
  refine j_getr E f_X1_44 (cX_3 hg) 6 rfl dX1_push_74 ?_
  refine j_iload E dX1_push_77 6 rfl ?_
  refine j_iald E (cX_6 hg) dX1_push_79 (fun t2 => ?_)
  refine j_iadd E dX1_push_80 ?_
  refine j_dup2 E dX1_push_81 rfl rfl ?_
  refine j_iald E (cX_50 hg) dX1_push_82 (fun t3 => ?_)
  refine j_iload E dX1_push_83 0 rfl ?_
  refine j_iadd E dX1_push_85 ?_
  refine j_iast E (cX_50 hg) dX1_push_86 (fun h4 => ?_)
  refine j_aload_n E dX1_push_87 1 rfl ?_
  refine j_getr E f_X1_9 (cX_49 hg) 50 rfl dX1_push_88 ?_
  refine j_aload_n E dX1_push_91 1 rfl ?_
  refine j_getr E f_X1_18 (cX_49 hg) 3 rfl dX1_push_92 ?_
  refine j_getr E f_X1_44 (cX_3 hg) 6 rfl dX1_push_95 ?_
  refine j_iload E dX1_push_98 6 rfl ?_
  refine j_iald E (cX_6 hg) dX1_push_100 (fun t5 => ?_)
  refine j_bipush E (v := 16) dX1_push_101 (by decide) ?_
  refine j_imul E dX1_push_103 ?_
  refine j_aload_n E dX1_push_104 1 rfl ?_
  refine j_getr E f_X1_18 (cX_49 hg) 3 rfl dX1_push_105 ?_
  refine j_getr E f_X1_41 (cX_3 hg) 5 rfl dX1_push_108 ?_
  refine j_iload E dX1_push_111 6 rfl ?_
  refine j_iald E (cX_5 hg) dX1_push_113 (fun t6 => ?_)
  refine j_iadd E dX1_push_114 ?_
  refine j_dup2 E dX1_push_115 rfl rfl ?_
  refine j_iald E (cX_50 hg) dX1_push_116 (fun t7 => ?_)
  refine j_iload E dX1_push_117 0 rfl ?_
  refine j_iadd E dX1_push_119 ?_
  refine j_iast E (cX_50 hg) dX1_push_120 (fun h8 => ?_)
  exact j_sub [1, 2, 3, 4, 5, 6] (lv1 := [(0, .ref (g.2.2.1 49)), (1, .int a1), (2, .int a2), (3, .int a3), (4, .int a4), (5, .int a5)]) rfl (jxX1_push_121 hg N E K11 hK11 a1 a2 a3 a4 a5 h8)
set_option maxRecDepth 20000 in
set_option maxHeartbeats 4000000 in
theorem jxX1_push_133 {g : GC} (hg : isGX g) {X : MX} (N : Nat) (E : JE g mX1_push X) : ∀ (n : Nat) (a1 : Int32) (a2 : Int32) (a5 : Int32) (a6 : Int32) (h : HP), J g mX1_push X 133 [(0, .ref (g.2.2.1 49)), (1, .int a1), (2, .int a2), (5, .int a5), (6, .int a6)] [] h (xX1_push_133 N n a1 a2 a5 a6 h) := by
  intro n
  induction n with
  | zero => intro a1 a2 a5 a6 h; exact j_none
  | succ n ih =>
    intro a1 a2 a5 a6 h
    unfold xX1_push_133
    refine j_iload E dX1_push_133 4 rfl ?_
    refine j_sipush E (v := 2376) dX1_push_135 (by decide) ?_
    refine j_cmp_gt E 177 dX1_push_138 rfl ?_ ?_
    · refine j_iload E dX1_push_177 3 rfl ?_
      exact j_ireturn E rfl dX1_push_179
    · refine j_aload_n E dX1_push_141 0 rfl ?_
      refine j_iload_n E dX1_push_142 1 rfl ?_
      refine j_callvV (As := [.int a1]) (st := []) E (ok_X1_seek hg E.2.2.2.2.2.2.2.1 N a1 h) (cX_49 hg) (cl_X1_47) (⟨Nat.le_of_ble_eq_true rfl, Nat.le_of_ble_eq_true rfl⟩) rfl rfl (Nat.le_of_ble_eq_true rfl) dX1_push_143 (fun t1 h2 => ?_)
      refine j_aload_n E dX1_push_146 0 rfl ?_
      refine j_geti E f_X1_51 (cX_49 hg) rfl dX1_push_147 ?_
      refine j_iload_n E dX1_push_150 2 rfl ?_
      refine j_callnI (As := [.int (h2.1 49 3), .int a2]) (st := []) E (ok_X10_hasBit hg E.2.2.2.2.2.2.2.1 (h2.1 49 3) a2 h2) (cl_X1_34) (⟨Nat.le_of_ble_eq_true rfl, Nat.le_of_ble_eq_true rfl⟩) rfl rfl (Nat.le_of_ble_eq_true rfl) dX1_push_151 (fun t3 h4 => ?_)
      refine j_if_ne E 160 dX1_push_154 rfl ?_ ?_
      · refine j_iload E dX1_push_160 3 rfl ?_
        refine j_aload_n E dX1_push_162 0 rfl ?_
        refine j_iload_n E dX1_push_163 1 rfl ?_
        refine j_iload_n E dX1_push_164 2 rfl ?_
        refine j_callvI (As := [.int a1, .int a2]) (st := [.int a5]) E (ok_X1_pushBy hg E.2.2.2.2.2.2.2.1 N a1 a2 h4) (cX_49 hg) (cl_X1_54) (⟨Nat.le_of_ble_eq_true rfl, Nat.le_of_ble_eq_true rfl⟩) rfl rfl (Nat.le_of_ble_eq_true rfl) dX1_push_165 (fun t5 h6 => ?_)
        refine j_iadd E dX1_push_168 ?_
        refine j_istore E dX1_push_169 (Nat.le_of_ble_eq_true rfl) (fun v7 => [(5, .int v7), (0, .ref (g.2.2.1 49)), (1, .int a1), (2, .int a2), (6, .int a6)]) (fun _ => rfl) (fun v7 => ?_)
        refine j_iinc E (c := 1) dX1_push_171 4 rfl (by decide) (Nat.le_of_ble_eq_true rfl) (fun v8 => [(6, .int v8), (5, .int v7), (0, .ref (g.2.2.1 49)), (1, .int a1), (2, .int a2)]) (fun _ => rfl) (fun v8 => ?_)
        refine j_goto E 133 dX1_push_174 rfl ?_
        exact j_sub [2, 3, 4, 1, 0] (lv1 := [(0, .ref (g.2.2.1 49)), (1, .int a1), (2, .int a2), (5, .int v7), (6, .int v8)]) rfl (ih a1 a2 v7 v8 h6)
      · refine j_iload E dX1_push_157 3 rfl ?_
        exact j_ireturn E rfl dX1_push_159
set_option maxRecDepth 20000 in
set_option maxHeartbeats 4000000 in
theorem jxX1_push_11 {g : GC} (hg : isGX g) {X : MX} (N : Nat) (E : JE g mX1_push X) : ∀ (n : Nat) (a1 : Int32) (a2 : Int32) (a3 : Int32) (a4 : Int32) (a5 : Int32) (h : HP), J g mX1_push X 11 [(0, .ref (g.2.2.1 49)), (1, .int a1), (2, .int a2), (3, .int a3), (4, .int a4), (5, .int a5)] [] h (xX1_push_11 N n a1 a2 a3 a4 a5 h) := by
  intro n
  induction n with
  | zero => intro a1 a2 a3 a4 a5 h; exact j_none
  | succ n ih =>
    intro a1 a2 a3 a4 a5 h
    unfold xX1_push_11
    refine j_iload E dX1_push_11 5 rfl ?_
    refine j_aload_n E dX1_push_13 0 rfl ?_
    refine j_getr E f_X1_18 (cX_49 hg) 3 rfl dX1_push_14 ?_
    refine j_geti E f_X1_28 (cX_3 hg) rfl dX1_push_17 ?_
    refine j_cmp_ge E 127 dX1_push_20 rfl ?_ ?_
    · refine j_iconst E (v := 0) dX1_push_127 (by decide) ?_
      refine j_istore0 E dX1_push_128 (Nat.le_of_ble_eq_true rfl) [(5, .int 0), (0, .ref (g.2.2.1 49)), (1, .int a1), (2, .int a2), (3, .int a3), (4, .int a4)] rfl ?_
      refine j_iconst E (v := 0) dX1_push_130 (by decide) ?_
      refine j_istore0 E dX1_push_131 (Nat.le_of_ble_eq_true rfl) [(6, .int 0), (5, .int 0), (0, .ref (g.2.2.1 49)), (1, .int a1), (2, .int a2), (3, .int a3), (4, .int a4)] rfl ?_
      exact j_sub [2, 3, 4, 1, 0] (lv1 := [(0, .ref (g.2.2.1 49)), (1, .int a1), (2, .int a2), (5, .int 0), (6, .int 0)]) rfl (jxX1_push_133 hg N E N a1 a2 0 0 h)
    · refine j_iload_n E dX1_push_23 3 rfl ?_
      refine j_iload E dX1_push_24 5 rfl ?_
      refine j_callnI (As := [.int a3, .int a5]) (st := []) E (ok_X10_hasBit hg E.2.2.2.2.2.2.2.1 a3 a5 h) (cl_X1_34) (⟨Nat.le_of_ble_eq_true rfl, Nat.le_of_ble_eq_true rfl⟩) rfl rfl (Nat.le_of_ble_eq_true rfl) dX1_push_26 (fun t1 h2 => ?_)
      refine j_if_eq E 121 dX1_push_29 rfl ?_ ?_
      · exact jxX1_push_121 hg N E (xX1_push_11 N n) ih a1 a2 a3 a4 a5 h2
      · refine j_iload E dX1_push_32 4 rfl ?_
        refine j_if_eq E 41 dX1_push_34 rfl ?_ ?_
        · refine j_aload_n E dX1_push_41 0 rfl ?_
          refine j_getr E f_X1_18 (cX_49 hg) 3 rfl dX1_push_42 ?_
          refine j_getr E f_X1_38 (cX_3 hg) 7 rfl dX1_push_45 ?_
          refine j_iload E dX1_push_48 5 rfl ?_
          refine j_iald E (cX_7 hg) dX1_push_50 (fun t3 => ?_)
          exact jxX1_push_51 hg N E (xX1_push_11 N n) ih a1 a2 a3 a4 a5 t3 h2
        · refine j_iconst E (v := 1) dX1_push_37 (by decide) ?_
          refine j_goto E 51 dX1_push_38 rfl ?_
          exact jxX1_push_51 hg N E (xX1_push_11 N n) ih a1 a2 a3 a4 a5 1 h2
set_option maxRecDepth 20000 in
set_option maxHeartbeats 4000000 in
theorem jxX1_push {g : GC} (hg : isGX g) {X : MX} (N : Nat) (E : JE g mX1_push X) (a1 : Int32) (a2 : Int32) (a3 : Int32) (a4 : Int32) (h : HP) : J g mX1_push X 0 [(0, .ref (g.2.2.1 49)), (1, .int a1), (2, .int a2), (3, .int a3), (4, .int a4)] [] h (xX1_push N a1 a2 a3 a4 h) := by
  unfold xX1_push
  refine j_aload_n E dX1_push_0 0 rfl ?_
  refine j_getr E f_X1_9 (cX_49 hg) 50 rfl dX1_push_1 ?_
  refine j_iconst E (v := 0) dX1_push_4 (by decide) ?_
  refine j_callsV (As := [.ref (g.2.2.1 50), .int 0]) (st := []) E (ok_J7_fill_53178 hg E.2.2.2.2.2.2.2.1 N 256 50 (cX_50 hg) 0 h) (cl_X1_22) (⟨Nat.le_of_ble_eq_true rfl, Nat.le_of_ble_eq_true rfl⟩) rfl rfl (Nat.le_of_ble_eq_true rfl) dX1_push_5 (fun t1 h2 => ?_)
  refine j_iconst E (v := 0) dX1_push_8 (by decide) ?_
  refine j_istore0 E dX1_push_9 (Nat.le_of_ble_eq_true rfl) [(5, .int 0), (0, .ref (g.2.2.1 49)), (1, .int a1), (2, .int a2), (3, .int a3), (4, .int a4)] rfl ?_
  exact j_sub [1, 2, 3, 4, 5, 0] (lv1 := [(0, .ref (g.2.2.1 49)), (1, .int a1), (2, .int a2), (3, .int a3), (4, .int a4), (5, .int 0)]) rfl (jxX1_push_11 hg N E N a1 a2 a3 a4 0 h2)
theorem ok_X1_push {g : GC} (hg : isGX g) (hI : gI g) (N : Nat) (a1 : Int32) (a2 : Int32) (a3 : Int32) (a4 : Int32) (h : HP) : Ok g yX1_push mX1_push [.ref (g.2.2.1 49), .int a1, .int a2, .int a3, .int a4] h (xX1_push N a1 a2 a3 a4 h) := Ok.of hI (by decide) rfl (Nat.le_of_ble_eq_true rfl) (fun X E => jxX1_push hg N E a1 a2 a3 a4 h)
set_option maxRecDepth 20000 in
set_option maxHeartbeats 4000000 in
theorem jxX2_become {g : GC} (hg : isGX g) {X : MX} (E : JE g mX2_become X) (h : HP) : J g mX2_become X 0 [(0, .ref (g.2.2.1 13)), (1, .ref (g.2.2.1 20))] [] h (xX2_become h) := by
  unfold xX2_become
  refine j_aload_n E dX2_become_0 1 rfl ?_
  refine j_getr E f_X2_9 (cX_20 hg) 21 rfl dX2_become_1 ?_
  refine j_iconst E (v := 0) dX2_become_4 (by decide) ?_
  refine j_aload_n E dX2_become_5 0 rfl ?_
  refine j_getr E f_X2_9 (cX_13 hg) 14 rfl dX2_become_6 ?_
  refine j_iconst E (v := 0) dX2_become_9 (by decide) ?_
  refine j_sipush E (v := 240) dX2_become_10 (by decide) ?_
  refine j_copy (m := 240) E (cX_21 hg) (cX_14 hg) ml_X2_30 ac_nat ac_st ac_in (by decide) (by decide) (Nat.le_of_ble_eq_true rfl) (Nat.le_of_ble_eq_true rfl) (Nat.le_of_ble_eq_true rfl) (by decide +kernel) dX2_become_13 (fun h1 => ?_)
  refine j_aload_n E dX2_become_16 1 rfl ?_
  refine j_getr E f_X2_15 (cX_20 hg) 22 rfl dX2_become_17 ?_
  refine j_iconst E (v := 0) dX2_become_20 (by decide) ?_
  refine j_aload_n E dX2_become_21 0 rfl ?_
  refine j_getr E f_X2_15 (cX_13 hg) 15 rfl dX2_become_22 ?_
  refine j_iconst E (v := 0) dX2_become_25 (by decide) ?_
  refine j_sipush E (v := 240) dX2_become_26 (by decide) ?_
  refine j_copy (m := 240) E (cX_22 hg) (cX_15 hg) ml_X2_30 ac_nat ac_st ac_in (by decide) (by decide) (Nat.le_of_ble_eq_true rfl) (Nat.le_of_ble_eq_true rfl) (Nat.le_of_ble_eq_true rfl) (by decide +kernel) dX2_become_29 (fun h2 => ?_)
  refine j_aload_n E dX2_become_32 1 rfl ?_
  refine j_getr E f_X2_18 (cX_20 hg) 23 rfl dX2_become_33 ?_
  refine j_iconst E (v := 0) dX2_become_36 (by decide) ?_
  refine j_aload_n E dX2_become_37 0 rfl ?_
  refine j_getr E f_X2_18 (cX_13 hg) 16 rfl dX2_become_38 ?_
  refine j_iconst E (v := 0) dX2_become_41 (by decide) ?_
  refine j_bipush E (v := 16) dX2_become_42 (by decide) ?_
  refine j_copy (m := 16) E (cX_23 hg) (cX_16 hg) ml_X2_30 ac_nat ac_st ac_in (by decide) (by decide) (Nat.le_of_ble_eq_true rfl) (Nat.le_of_ble_eq_true rfl) (Nat.le_of_ble_eq_true rfl) (by decide +kernel) dX2_become_44 (fun h3 => ?_)
  refine j_aload_n E dX2_become_47 1 rfl ?_
  refine j_getr E f_X2_21 (cX_20 hg) 24 rfl dX2_become_48 ?_
  refine j_iconst E (v := 0) dX2_become_51 (by decide) ?_
  refine j_aload_n E dX2_become_52 0 rfl ?_
  refine j_getr E f_X2_21 (cX_13 hg) 17 rfl dX2_become_53 ?_
  refine j_iconst E (v := 0) dX2_become_56 (by decide) ?_
  refine j_bipush E (v := 16) dX2_become_57 (by decide) ?_
  refine j_copy (m := 16) E (cX_24 hg) (cX_17 hg) ml_X2_30 ac_nat ac_st ac_in (by decide) (by decide) (Nat.le_of_ble_eq_true rfl) (Nat.le_of_ble_eq_true rfl) (Nat.le_of_ble_eq_true rfl) (by decide +kernel) dX2_become_59 (fun h4 => ?_)
  refine j_aload_n E dX2_become_62 1 rfl ?_
  refine j_getr E f_X2_24 (cX_20 hg) 25 rfl dX2_become_63 ?_
  refine j_iconst E (v := 0) dX2_become_66 (by decide) ?_
  refine j_aload_n E dX2_become_67 0 rfl ?_
  refine j_getr E f_X2_24 (cX_13 hg) 18 rfl dX2_become_68 ?_
  refine j_iconst E (v := 0) dX2_become_71 (by decide) ?_
  refine j_bipush E (v := 16) dX2_become_72 (by decide) ?_
  refine j_copy (m := 16) E (cX_25 hg) (cX_18 hg) ml_X2_30 ac_nat ac_st ac_in (by decide) (by decide) (Nat.le_of_ble_eq_true rfl) (Nat.le_of_ble_eq_true rfl) (Nat.le_of_ble_eq_true rfl) (by decide +kernel) dX2_become_74 (fun h5 => ?_)
  refine j_aload_n E dX2_become_77 1 rfl ?_
  refine j_getr E f_X2_27 (cX_20 hg) 26 rfl dX2_become_78 ?_
  refine j_iconst E (v := 0) dX2_become_81 (by decide) ?_
  refine j_aload_n E dX2_become_82 0 rfl ?_
  refine j_getr E f_X2_27 (cX_13 hg) 19 rfl dX2_become_83 ?_
  refine j_iconst E (v := 0) dX2_become_86 (by decide) ?_
  refine j_bipush E (v := 16) dX2_become_87 (by decide) ?_
  refine j_copy (m := 16) E (cX_26 hg) (cX_19 hg) ml_X2_30 ac_nat ac_st ac_in (by decide) (by decide) (Nat.le_of_ble_eq_true rfl) (Nat.le_of_ble_eq_true rfl) (Nat.le_of_ble_eq_true rfl) (by decide +kernel) dX2_become_89 (fun h6 => ?_)
  refine j_aload_n E dX2_become_92 0 rfl ?_
  refine j_aload_n E dX2_become_93 1 rfl ?_
  refine j_geti E f_X2_36 (cX_20 hg) rfl dX2_become_94 ?_
  refine j_puti E fp_X2_36 (cX_13 hg) rfl dX2_become_97 (fun h7 => ?_)
  refine j_aload_n E dX2_become_100 0 rfl ?_
  refine j_aload_n E dX2_become_101 1 rfl ?_
  refine j_geti E f_X2_40 (cX_20 hg) rfl dX2_become_102 ?_
  refine j_puti E fp_X2_40 (cX_13 hg) rfl dX2_become_105 (fun h8 => ?_)
  exact j_vreturn E rfl dX2_become_108
theorem ok_X2_become {g : GC} (hg : isGX g) (hI : gI g) (h : HP) : Ok g yX2_become mX2_become [.ref (g.2.2.1 13), .ref (g.2.2.1 20)] h (xX2_become h) := Ok.of hI (by decide) rfl (Nat.le_of_ble_eq_true rfl) (fun X E => jxX2_become hg E h)
set_option maxRecDepth 20000 in
set_option maxHeartbeats 4000000 in
theorem jxX7_peek_24 {g : GC} (hg : isGX g) {X : MX} (E : JE g mX7_peek X) (s0 : Int32) (h : HP) : J g mX7_peek X 24 [] [.int s0] h (xX7_peek_24 s0 h) := by
  unfold xX7_peek_24
  exact j_ireturn E rfl dX7_peek_24
set_option maxRecDepth 20000 in
set_option maxHeartbeats 4000000 in
theorem jxX7_peek {g : GC} (hg : isGX g) {X : MX} (E : JE g mX7_peek X) (h : HP) : J g mX7_peek X 0 [(0, .ref (g.2.2.1 1))] [] h (xX7_peek h) := by
  unfold xX7_peek
  refine j_aload_n E dX7_peek_0 0 rfl ?_
  refine j_geti E f_X7_19 (cX_1 hg) rfl dX7_peek_1 ?_
  refine j_aload_n E dX7_peek_4 0 rfl ?_
  refine j_geti E f_X7_22 (cX_1 hg) rfl dX7_peek_5 ?_
  refine j_cmp_ge E 23 dX7_peek_8 rfl ?_ ?_
  · refine j_iconst E (v := (-1)) dX7_peek_23 (by decide) ?_
    exact j_sub [] (lv1 := []) rfl (jxX7_peek_24 hg E (-1) h)
  · refine j_aload_n E dX7_peek_11 0 rfl ?_
    refine j_getr E f_X7_9 (cX_1 hg) 2 rfl dX7_peek_12 ?_
    refine j_aload_n E dX7_peek_15 0 rfl ?_
    refine j_geti E f_X7_19 (cX_1 hg) rfl dX7_peek_16 ?_
    refine j_iald E (cX_2 hg) dX7_peek_19 (fun t1 => ?_)
    refine j_goto E 24 dX7_peek_20 rfl ?_
    exact j_sub [] (lv1 := []) rfl (jxX7_peek_24 hg E t1 h)
theorem ok_X7_peek {g : GC} (hg : isGX g) (hI : gI g) (h : HP) : Ok g yX7_peek mX7_peek [.ref (g.2.2.1 1)] h (xX7_peek h) := Ok.of hI (by decide) rfl (Nat.le_of_ble_eq_true rfl) (fun X E => jxX7_peek hg E h)
set_option maxRecDepth 20000 in
set_option maxHeartbeats 4000000 in
theorem jxX7_refuse {g : GC} (hg : isGX g) {X : MX} (E : JE g mX7_refuse X) (a1 : Int32) (a2 : Int32) (h : HP) : J g mX7_refuse X 0 [(0, .ref (g.2.2.1 1)), (1, .int a1), (2, .int a2)] [] h (xX7_refuse a1 a2 h) := by
  unfold xX7_refuse
  refine j_aload_n E dX7_refuse_0 0 rfl ?_
  refine j_sipush E (v := (-1000)) dX7_refuse_1 (by decide) ?_
  refine j_iload_n E dX7_refuse_4 1 rfl ?_
  refine j_imul E dX7_refuse_5 ?_
  refine j_iload_n E dX7_refuse_6 2 rfl ?_
  refine j_isub E dX7_refuse_7 ?_
  refine j_puti E fp_X7_25 (cX_1 hg) rfl dX7_refuse_8 (fun h1 => ?_)
  refine j_iconst E (v := 0) dX7_refuse_11 (by decide) ?_
  exact j_zreturn E rfl dX7_refuse_12
theorem ok_X7_refuse {g : GC} (hg : isGX g) (hI : gI g) (a1 : Int32) (a2 : Int32) (h : HP) : Ok g yX7_refuse mX7_refuse [.ref (g.2.2.1 1), .int a1, .int a2] h (xX7_refuse a1 a2 h) := Ok.of hI (by decide) rfl (Nat.le_of_ble_eq_true rfl) (fun X E => jxX7_refuse hg E a1 a2 h)
set_option maxRecDepth 20000 in
set_option maxHeartbeats 4000000 in
theorem jxX7_takes {g : GC} (hg : isGX g) {X : MX} (E : JE g mX7_takes X) (a1 : Int32) (h : HP) : J g mX7_takes X 0 [(0, .ref (g.2.2.1 1)), (1, .int a1)] [] h (xX7_takes a1 h) := by
  unfold xX7_takes
  refine j_aload_n E dX7_takes_0 0 rfl ?_
  refine j_callvI (As := []) (st := []) E (ok_X7_peek hg E.2.2.2.2.2.2.2.1 h) (cX_1 hg) (cl_X7_28) (⟨Nat.le_of_ble_eq_true rfl, Nat.le_of_ble_eq_true rfl⟩) rfl rfl (Nat.le_of_ble_eq_true rfl) dX7_takes_1 (fun t1 h2 => ?_)
  refine j_iload_n E dX7_takes_4 1 rfl ?_
  refine j_cmp_eq E 10 dX7_takes_5 rfl ?_ ?_
  · refine j_aload_n E dX7_takes_10 0 rfl ?_
    refine j_dup E dX7_takes_11 rfl ?_
    refine j_geti E f_X7_19 (cX_1 hg) rfl dX7_takes_12 ?_
    refine j_iconst E (v := 1) dX7_takes_15 (by decide) ?_
    refine j_iadd E dX7_takes_16 ?_
    refine j_puti E fp_X7_19 (cX_1 hg) rfl dX7_takes_17 (fun h3 => ?_)
    refine j_iconst E (v := 1) dX7_takes_20 (by decide) ?_
    exact j_zreturn E rfl dX7_takes_21
  · refine j_iconst E (v := 0) dX7_takes_8 (by decide) ?_
    exact j_zreturn E rfl dX7_takes_9
theorem ok_X7_takes {g : GC} (hg : isGX g) (hI : gI g) (a1 : Int32) (h : HP) : Ok g yX7_takes mX7_takes [.ref (g.2.2.1 1), .int a1] h (xX7_takes a1 h) := Ok.of hI (by decide) rfl (Nat.le_of_ble_eq_true rfl) (fun X E => jxX7_takes hg E a1 h)
set_option maxRecDepth 20000 in
set_option maxHeartbeats 4000000 in
theorem jxX2_write {g : GC} (hg : isGX g) {X : MX} (E : JE g mX2_write X) (a1 : Int32) (a2 : Int32) (h : HP) : J g mX2_write X 0 [(0, .ref (g.2.2.1 20)), (1, .int a1), (2, .int a2)] [] h (xX2_write a1 a2 h) := by
  unfold xX2_write
  refine j_aload_n E dX2_write_0 0 rfl ?_
  refine j_geti E f_X2_36 (cX_20 hg) rfl dX2_write_1 ?_
  refine j_sipush E (v := 240) dX2_write_4 (by decide) ?_
  refine j_cmp_lt E 12 dX2_write_7 rfl ?_ ?_
  · refine j_aload_n E dX2_write_12 0 rfl ?_
    refine j_getr E f_X2_9 (cX_20 hg) 21 rfl dX2_write_13 ?_
    refine j_aload_n E dX2_write_16 0 rfl ?_
    refine j_geti E f_X2_36 (cX_20 hg) rfl dX2_write_17 ?_
    refine j_iload_n E dX2_write_20 1 rfl ?_
    refine j_iast E (cX_21 hg) dX2_write_21 (fun h1 => ?_)
    refine j_aload_n E dX2_write_22 0 rfl ?_
    refine j_getr E f_X2_15 (cX_20 hg) 22 rfl dX2_write_23 ?_
    refine j_aload_n E dX2_write_26 0 rfl ?_
    refine j_geti E f_X2_36 (cX_20 hg) rfl dX2_write_27 ?_
    refine j_iload_n E dX2_write_30 2 rfl ?_
    refine j_iast E (cX_22 hg) dX2_write_31 (fun h2 => ?_)
    refine j_aload_n E dX2_write_32 0 rfl ?_
    refine j_dup E dX2_write_33 rfl ?_
    refine j_geti E f_X2_36 (cX_20 hg) rfl dX2_write_34 ?_
    refine j_iconst E (v := 1) dX2_write_37 (by decide) ?_
    refine j_iadd E dX2_write_38 ?_
    refine j_puti E fp_X2_36 (cX_20 hg) rfl dX2_write_39 (fun h3 => ?_)
    refine j_aload_n E dX2_write_42 0 rfl ?_
    refine j_geti E f_X2_36 (cX_20 hg) rfl dX2_write_43 ?_
    refine j_iconst E (v := 1) dX2_write_46 (by decide) ?_
    refine j_isub E dX2_write_47 ?_
    exact j_ireturn E rfl dX2_write_48
  · refine j_iconst E (v := (-1)) dX2_write_10 (by decide) ?_
    exact j_ireturn E rfl dX2_write_11
theorem ok_X2_write {g : GC} (hg : isGX g) (hI : gI g) (a1 : Int32) (a2 : Int32) (h : HP) : Ok g yX2_write mX2_write [.ref (g.2.2.1 20), .int a1, .int a2] h (xX2_write a1 a2 h) := Ok.of hI (by decide) rfl (Nat.le_of_ble_eq_true rfl) (fun X E => jxX2_write hg E a1 a2 h)
set_option maxRecDepth 20000 in
set_option maxHeartbeats 4000000 in
theorem jxX2_land_42 {g : GC} (hg : isGX g) {X : MX} (N : Nat) (E : JE g mX2_land X) (h : HP) : J g mX2_land X 42 [] [] h (xX2_land_42 N h) := by
  unfold xX2_land_42
  exact j_vreturn E rfl dX2_land_42
set_option maxRecDepth 20000 in
set_option maxHeartbeats 4000000 in
theorem jxX2_land_4 {g : GC} (hg : isGX g) {X : MX} (N : Nat) (E : JE g mX2_land X) : ∀ (n : Nat) (a2 : Int32) (a3 : Int32) (h : HP), J g mX2_land X 4 [(0, .ref (g.2.2.1 20)), (2, .int a2), (3, .int a3)] [] h (xX2_land_4 N n a2 a3 h) := by
  intro n
  induction n with
  | zero => intro a2 a3 h; exact j_none
  | succ n ih =>
    intro a2 a3 h
    unfold xX2_land_4
    refine j_iload_n E dX2_land_4 2 rfl ?_
    refine j_sipush E (v := 240) dX2_land_5 (by decide) ?_
    refine j_cmp_ge E 42 dX2_land_8 rfl ?_ ?_
    · exact j_sub [] (lv1 := []) rfl (jxX2_land_42 hg N E h)
    · refine j_iload_n E dX2_land_11 1 rfl ?_
      refine j_if_lt E 42 dX2_land_12 rfl ?_ ?_
      · exact j_sub [] (lv1 := []) rfl (jxX2_land_42 hg N E h)
      · refine j_aload_n E dX2_land_15 0 rfl ?_
        refine j_getr E f_X2_15 (cX_20 hg) 22 rfl dX2_land_16 ?_
        refine j_iload_n E dX2_land_19 1 rfl ?_
        refine j_iald E (cX_22 hg) dX2_land_20 (fun t1 => ?_)
        refine j_istore0 E dX2_land_21 (Nat.le_of_ble_eq_true rfl) [(4, .int t1), (0, .ref (g.2.2.1 20)), (2, .int a2), (3, .int a3)] rfl ?_
        refine j_aload_n E dX2_land_23 1 rfl ?_
        refine j_getr E f_X2_15 (cX_20 hg) 22 rfl dX2_land_24 ?_
        refine j_iload_n E dX2_land_27 2 rfl ?_
        refine j_aload_n E dX2_land_28 1 rfl ?_
        refine j_geti E f_X2_36 (cX_20 hg) rfl dX2_land_29 ?_
        refine j_iast E (cX_22 hg) dX2_land_32 (fun h2 => ?_)
        refine j_iload E dX2_land_33 0 rfl ?_
        refine j_istore0_n E dX2_land_35 (Nat.le_of_ble_eq_true rfl) [(2, .int t1), (4, .int t1), (0, .ref (g.2.2.1 20)), (3, .int a3)] rfl ?_
        refine j_iinc E (c := 1) dX2_land_36 3 rfl (by decide) (Nat.le_of_ble_eq_true rfl) (fun v3 => [(3, .int v3), (2, .int t1), (4, .int t1), (0, .ref (g.2.2.1 20))]) (fun _ => rfl) (fun v3 => ?_)
        refine j_goto E 4 dX2_land_39 rfl ?_
        exact j_sub [3, 1, 0] (lv1 := [(0, .ref (g.2.2.1 20)), (2, .int t1), (3, .int v3)]) rfl (ih t1 v3 h2)
set_option maxRecDepth 20000 in
set_option maxHeartbeats 4000000 in
theorem jxX2_land {g : GC} (hg : isGX g) {X : MX} (N : Nat) (E : JE g mX2_land X) (a1 : Int32) (h : HP) : J g mX2_land X 0 [(0, .ref (g.2.2.1 20)), (1, .int a1)] [] h (xX2_land N a1 h) := by
  unfold xX2_land
  refine j_iload_n E dX2_land_0 1 rfl ?_
  refine j_istore0_n E dX2_land_1 (Nat.le_of_ble_eq_true rfl) [(2, .int a1), (0, .ref (g.2.2.1 20)), (1, .int a1)] rfl ?_
  refine j_iconst E (v := 0) dX2_land_2 (by decide) ?_
  refine j_istore0_n E dX2_land_3 (Nat.le_of_ble_eq_true rfl) [(3, .int 0), (2, .int a1), (0, .ref (g.2.2.1 20)), (1, .int a1)] rfl ?_
  exact j_sub [2, 1, 0] (lv1 := [(0, .ref (g.2.2.1 20)), (2, .int a1), (3, .int 0)]) rfl (jxX2_land_4 hg N E N a1 0 h)
theorem ok_X2_land {g : GC} (hg : isGX g) (hI : gI g) (N : Nat) (a1 : Int32) (h : HP) : Ok g yX2_land mX2_land [.ref (g.2.2.1 20), .int a1] h (xX2_land N a1 h) := Ok.of hI (by decide) rfl (Nat.le_of_ble_eq_true rfl) (fun X E => jxX2_land hg N E a1 h)
set_option maxRecDepth 20000 in
set_option maxHeartbeats 4000000 in
theorem jxX7_demands {g : GC} (hg : isGX g) {X : MX} (E : JE g mX7_demands X) (a1 : Int32) (h : HP) : J g mX7_demands X 0 [(0, .ref (g.2.2.1 1)), (1, .int a1)] [] h (xX7_demands a1 h) := by
  unfold xX7_demands
  refine j_aload_n E dX7_demands_0 0 rfl ?_
  refine j_callvI (As := []) (st := []) E (ok_X7_peek hg E.2.2.2.2.2.2.2.1 h) (cX_1 hg) (cl_X7_28) (⟨Nat.le_of_ble_eq_true rfl, Nat.le_of_ble_eq_true rfl⟩) rfl rfl (Nat.le_of_ble_eq_true rfl) dX7_demands_1 (fun t1 h2 => ?_)
  refine j_iload_n E dX7_demands_4 1 rfl ?_
  refine j_cmp_eq E 18 dX7_demands_5 rfl ?_ ?_
  · refine j_aload_n E dX7_demands_18 0 rfl ?_
    refine j_dup E dX7_demands_19 rfl ?_
    refine j_geti E f_X7_19 (cX_1 hg) rfl dX7_demands_20 ?_
    refine j_iconst E (v := 1) dX7_demands_23 (by decide) ?_
    refine j_iadd E dX7_demands_24 ?_
    refine j_puti E fp_X7_19 (cX_1 hg) rfl dX7_demands_25 (fun h3 => ?_)
    refine j_iconst E (v := 1) dX7_demands_28 (by decide) ?_
    exact j_zreturn E rfl dX7_demands_29
  · refine j_aload_n E dX7_demands_8 0 rfl ?_
    refine j_iconst E (v := 1) dX7_demands_9 (by decide) ?_
    refine j_aload_n E dX7_demands_10 0 rfl ?_
    refine j_geti E f_X7_19 (cX_1 hg) rfl dX7_demands_11 ?_
    refine j_callvI (As := [.int 1, .int (h2.1 1 2)]) (st := []) E (ok_X7_refuse hg E.2.2.2.2.2.2.2.1 1 (h2.1 1 2) h2) (cX_1 hg) (cl_X7_32) (⟨Nat.le_of_ble_eq_true rfl, Nat.le_of_ble_eq_true rfl⟩) rfl rfl (Nat.le_of_ble_eq_true rfl) dX7_demands_14 (fun t4 h5 => ?_)
    exact j_zreturn E rfl dX7_demands_17
theorem ok_X7_demands {g : GC} (hg : isGX g) (hI : gI g) (a1 : Int32) (h : HP) : Ok g yX7_demands mX7_demands [.ref (g.2.2.1 1), .int a1] h (xX7_demands a1 h) := Ok.of hI (by decide) rfl (Nat.le_of_ble_eq_true rfl) (fun X E => jxX7_demands hg E a1 h)
set_option maxRecDepth 20000 in
set_option maxHeartbeats 4000000 in
theorem jxX7_readNumber_69 {g : GC} (hg : isGX g) {X : MX} (N : Nat) (E : JE g mX7_readNumber X) (s1 : Int32) (h : HP) : J g mX7_readNumber X 69 [(0, .ref (g.2.2.1 1))] [.int s1, .ref (g.2.2.1 1)] h (xX7_readNumber_69 N s1 h) := by
  unfold xX7_readNumber_69
  refine j_aload_n E dX7_readNumber_69 0 rfl ?_
  refine j_geti E f_X7_19 (cX_1 hg) rfl dX7_readNumber_70 ?_
  refine j_callvI (As := [.int s1, .int (h.1 1 2)]) (st := []) E (ok_X7_refuse hg E.2.2.2.2.2.2.2.1 s1 (h.1 1 2) h) (cX_1 hg) (cl_X7_32) (⟨Nat.le_of_ble_eq_true rfl, Nat.le_of_ble_eq_true rfl⟩) rfl rfl (Nat.le_of_ble_eq_true rfl) dX7_readNumber_73 (fun t1 h2 => ?_)
  refine j_pop E dX7_readNumber_76 rfl ?_
  refine j_iconst E (v := (-1)) dX7_readNumber_77 (by decide) ?_
  exact j_ireturn E rfl dX7_readNumber_78
set_option maxRecDepth 20000 in
set_option maxHeartbeats 4000000 in
theorem jxX7_readNumber_58 {g : GC} (hg : isGX g) {X : MX} (N : Nat) (E : JE g mX7_readNumber X) (a5 : Int32) (h : HP) : J g mX7_readNumber X 58 [(0, .ref (g.2.2.1 1)), (5, .int a5)] [] h (xX7_readNumber_58 N a5 h) := by
  unfold xX7_readNumber_58
  refine j_aload_n E dX7_readNumber_58 0 rfl ?_
  refine j_iload E dX7_readNumber_59 1 rfl ?_
  refine j_if_eq E 68 dX7_readNumber_61 rfl ?_ ?_
  · refine j_iconst E (v := 1) dX7_readNumber_68 (by decide) ?_
    exact j_sub [0] (lv1 := [(0, .ref (g.2.2.1 1))]) rfl (jxX7_readNumber_69 hg N E 1 h)
  · refine j_iconst E (v := 2) dX7_readNumber_64 (by decide) ?_
    refine j_goto E 69 dX7_readNumber_65 rfl ?_
    exact j_sub [0] (lv1 := [(0, .ref (g.2.2.1 1))]) rfl (jxX7_readNumber_69 hg N E 2 h)
set_option maxRecDepth 20000 in
set_option maxHeartbeats 4000000 in
theorem jxX7_readNumber_48 {g : GC} (hg : isGX g) {X : MX} (N : Nat) (E : JE g mX7_readNumber X) (K4 : Int32 → Int32 → Int32 → HP → Option (Int32 × HP)) (hK4 : ∀ (a1 : Int32) (a2 : Int32) (a3 : Int32) (h : HP), J g mX7_readNumber X 4 [(0, .ref (g.2.2.1 1)), (1, .int a1), (2, .int a2), (3, .int a3)] [] h (K4 a1 a2 a3 h)) (a1 : Int32) (a2 : Int32) (a3 : Int32) (a4 : Int32) (a5 : Int32) (h : HP) : J g mX7_readNumber X 48 [(0, .ref (g.2.2.1 1)), (1, .int a1), (2, .int a2), (3, .int a3), (4, .int a4), (5, .int a5)] [] h (xX7_readNumber_48 N K4 a1 a2 a3 a4 a5 h) := by
  unfold xX7_readNumber_48
  refine j_iload E dX7_readNumber_48 5 rfl ?_
  refine j_if_eq E 58 dX7_readNumber_50 rfl ?_ ?_
  · exact j_sub [0, 5] (lv1 := [(0, .ref (g.2.2.1 1)), (5, .int a5)]) rfl (jxX7_readNumber_58 hg N E a5 h)
  · refine j_iload_n E dX7_readNumber_53 3 rfl ?_
    refine j_iload_n E dX7_readNumber_54 1 rfl ?_
    refine j_cmp_ne E 79 dX7_readNumber_55 rfl ?_ ?_
    · refine j_iload_n E dX7_readNumber_79 2 rfl ?_
      refine j_bipush E (v := 10) dX7_readNumber_80 (by decide) ?_
      refine j_imul E dX7_readNumber_82 ?_
      refine j_iload E dX7_readNumber_83 4 rfl ?_
      refine j_iadd E dX7_readNumber_85 ?_
      refine j_istore_n E dX7_readNumber_86 (Nat.le_of_ble_eq_true rfl) (fun v1 => [(2, .int v1), (0, .ref (g.2.2.1 1)), (1, .int a1), (3, .int a3), (4, .int a4), (5, .int a5)]) (fun _ => rfl) (fun v1 => ?_)
      refine j_aload_n E dX7_readNumber_87 1 rfl ?_
      refine j_dup E dX7_readNumber_88 rfl ?_
      refine j_geti E f_X7_19 (cX_1 hg) rfl dX7_readNumber_89 ?_
      refine j_iconst E (v := 1) dX7_readNumber_92 (by decide) ?_
      refine j_iadd E dX7_readNumber_93 ?_
      refine j_puti E fp_X7_19 (cX_1 hg) rfl dX7_readNumber_94 (fun h2 => ?_)
      refine j_iinc E (c := 1) dX7_readNumber_97 3 rfl (by decide) (Nat.le_of_ble_eq_true rfl) (fun v3 => [(3, .int v3), (2, .int v1), (0, .ref (g.2.2.1 1)), (1, .int a1), (4, .int a4), (5, .int a5)]) (fun _ => rfl) (fun v3 => ?_)
      refine j_goto E 4 dX7_readNumber_100 rfl ?_
      exact j_sub [2, 3, 1, 0] (lv1 := [(0, .ref (g.2.2.1 1)), (1, .int a1), (2, .int v1), (3, .int v3)]) rfl (hK4 a1 v1 v3 h2)
    · exact j_sub [0, 5] (lv1 := [(0, .ref (g.2.2.1 1)), (5, .int a5)]) rfl (jxX7_readNumber_58 hg N E a5 h)
set_option maxRecDepth 20000 in
set_option maxHeartbeats 4000000 in
theorem jxX7_readNumber_35 {g : GC} (hg : isGX g) {X : MX} (N : Nat) (E : JE g mX7_readNumber X) (K4 : Int32 → Int32 → Int32 → HP → Option (Int32 × HP)) (hK4 : ∀ (a1 : Int32) (a2 : Int32) (a3 : Int32) (h : HP), J g mX7_readNumber X 4 [(0, .ref (g.2.2.1 1)), (1, .int a1), (2, .int a2), (3, .int a3)] [] h (K4 a1 a2 a3 h)) (a1 : Int32) (a2 : Int32) (a3 : Int32) (a4 : Int32) (s0 : Int32) (h : HP) : J g mX7_readNumber X 35 [(0, .ref (g.2.2.1 1)), (1, .int a1), (2, .int a2), (3, .int a3), (4, .int a4)] [.int s0] h (xX7_readNumber_35 N K4 a1 a2 a3 a4 s0 h) := by
  unfold xX7_readNumber_35
  refine j_istore0 E dX7_readNumber_35 (Nat.le_of_ble_eq_true rfl) [(5, .int s0), (0, .ref (g.2.2.1 1)), (1, .int a1), (2, .int a2), (3, .int a3), (4, .int a4)] rfl ?_
  refine j_iload E dX7_readNumber_37 0 rfl ?_
  refine j_if_ne E 48 dX7_readNumber_39 rfl ?_ ?_
  · exact j_sub [1, 2, 3, 4, 5, 0] (lv1 := [(0, .ref (g.2.2.1 1)), (1, .int a1), (2, .int a2), (3, .int a3), (4, .int a4), (5, .int s0)]) rfl (jxX7_readNumber_48 hg N E K4 hK4 a1 a2 a3 a4 s0 h)
  · refine j_iload_n E dX7_readNumber_42 4 rfl ?_
    refine j_if_le E 48 dX7_readNumber_43 rfl ?_ ?_
    · exact j_sub [1, 2, 3, 4, 5, 0] (lv1 := [(0, .ref (g.2.2.1 1)), (1, .int a1), (2, .int a2), (3, .int a3), (4, .int a4), (5, .int s0)]) rfl (jxX7_readNumber_48 hg N E K4 hK4 a1 a2 a3 a4 s0 h)
    · refine j_iload_n E dX7_readNumber_46 3 rfl ?_
      exact j_ireturn E rfl dX7_readNumber_47
set_option maxRecDepth 20000 in
set_option maxHeartbeats 4000000 in
theorem jxX7_readNumber_34 {g : GC} (hg : isGX g) {X : MX} (N : Nat) (E : JE g mX7_readNumber X) (K4 : Int32 → Int32 → Int32 → HP → Option (Int32 × HP)) (hK4 : ∀ (a1 : Int32) (a2 : Int32) (a3 : Int32) (h : HP), J g mX7_readNumber X 4 [(0, .ref (g.2.2.1 1)), (1, .int a1), (2, .int a2), (3, .int a3)] [] h (K4 a1 a2 a3 h)) (a1 : Int32) (a2 : Int32) (a3 : Int32) (a4 : Int32) (h : HP) : J g mX7_readNumber X 34 [(0, .ref (g.2.2.1 1)), (1, .int a1), (2, .int a2), (3, .int a3), (4, .int a4)] [] h (xX7_readNumber_34 N K4 a1 a2 a3 a4 h) := by
  unfold xX7_readNumber_34
  refine j_iconst E (v := 0) dX7_readNumber_34 (by decide) ?_
  exact jxX7_readNumber_35 hg N E K4 hK4 a1 a2 a3 a4 0 h
set_option maxRecDepth 20000 in
set_option maxHeartbeats 4000000 in
theorem jxX7_readNumber_4 {g : GC} (hg : isGX g) {X : MX} (N : Nat) (E : JE g mX7_readNumber X) : ∀ (n : Nat) (a1 : Int32) (a2 : Int32) (a3 : Int32) (h : HP), J g mX7_readNumber X 4 [(0, .ref (g.2.2.1 1)), (1, .int a1), (2, .int a2), (3, .int a3)] [] h (xX7_readNumber_4 N n a1 a2 a3 h) := by
  intro n
  induction n with
  | zero => intro a1 a2 a3 h; exact j_none
  | succ n ih =>
    intro a1 a2 a3 h
    unfold xX7_readNumber_4
    refine j_iload_n E dX7_readNumber_4 3 rfl ?_
    refine j_iload_n E dX7_readNumber_5 1 rfl ?_
    refine j_cmp_gt E 103 dX7_readNumber_6 rfl ?_ ?_
    · refine j_iconst E (v := (-1)) dX7_readNumber_103 (by decide) ?_
      exact j_ireturn E rfl dX7_readNumber_104
    · refine j_aload_n E dX7_readNumber_9 0 rfl ?_
      refine j_callvI (As := []) (st := []) E (ok_X7_peek hg E.2.2.2.2.2.2.2.1 h) (cX_1 hg) (cl_X7_28) (⟨Nat.le_of_ble_eq_true rfl, Nat.le_of_ble_eq_true rfl⟩) rfl rfl (Nat.le_of_ble_eq_true rfl) dX7_readNumber_10 (fun t1 h2 => ?_)
      refine j_bipush E (v := 48) dX7_readNumber_13 (by decide) ?_
      refine j_isub E dX7_readNumber_15 ?_
      refine j_istore E dX7_readNumber_16 (Nat.le_of_ble_eq_true rfl) (fun v3 => [(4, .int v3), (0, .ref (g.2.2.1 1)), (1, .int a1), (2, .int a2), (3, .int a3)]) (fun _ => rfl) (fun v3 => ?_)
      refine j_iload E dX7_readNumber_18 0 rfl ?_
      refine j_if_lt E 34 dX7_readNumber_20 rfl ?_ ?_
      · exact j_sub [1, 2, 3, 4, 0] (lv1 := [(0, .ref (g.2.2.1 1)), (1, .int a1), (2, .int a2), (3, .int a3), (4, .int v3)]) rfl (jxX7_readNumber_34 hg N E (xX7_readNumber_4 N n) ih a1 a2 a3 v3 h2)
      · refine j_iload E dX7_readNumber_23 0 rfl ?_
        refine j_bipush E (v := 9) dX7_readNumber_25 (by decide) ?_
        refine j_cmp_gt E 34 dX7_readNumber_27 rfl ?_ ?_
        · exact j_sub [1, 2, 3, 4, 0] (lv1 := [(0, .ref (g.2.2.1 1)), (1, .int a1), (2, .int a2), (3, .int a3), (4, .int v3)]) rfl (jxX7_readNumber_34 hg N E (xX7_readNumber_4 N n) ih a1 a2 a3 v3 h2)
        · refine j_iconst E (v := 1) dX7_readNumber_30 (by decide) ?_
          refine j_goto E 35 dX7_readNumber_31 rfl ?_
          exact j_sub [1, 2, 3, 4, 0] (lv1 := [(0, .ref (g.2.2.1 1)), (1, .int a1), (2, .int a2), (3, .int a3), (4, .int v3)]) rfl (jxX7_readNumber_35 hg N E (xX7_readNumber_4 N n) ih a1 a2 a3 v3 1 h2)
set_option maxRecDepth 20000 in
set_option maxHeartbeats 4000000 in
theorem jxX7_readNumber {g : GC} (hg : isGX g) {X : MX} (N : Nat) (E : JE g mX7_readNumber X) (a1 : Int32) (h : HP) : J g mX7_readNumber X 0 [(0, .ref (g.2.2.1 1)), (1, .int a1)] [] h (xX7_readNumber N a1 h) := by
  unfold xX7_readNumber
  refine j_iconst E (v := 0) dX7_readNumber_0 (by decide) ?_
  refine j_istore0_n E dX7_readNumber_1 (Nat.le_of_ble_eq_true rfl) [(2, .int 0), (0, .ref (g.2.2.1 1)), (1, .int a1)] rfl ?_
  refine j_iconst E (v := 0) dX7_readNumber_2 (by decide) ?_
  refine j_istore0_n E dX7_readNumber_3 (Nat.le_of_ble_eq_true rfl) [(3, .int 0), (2, .int 0), (0, .ref (g.2.2.1 1)), (1, .int a1)] rfl ?_
  exact j_sub [2, 3, 1, 0] (lv1 := [(0, .ref (g.2.2.1 1)), (1, .int a1), (2, .int 0), (3, .int 0)]) rfl (jxX7_readNumber_4 hg N E N a1 0 0 h)
theorem ok_X7_readNumber {g : GC} (hg : isGX g) (hI : gI g) (N : Nat) (a1 : Int32) (h : HP) : Ok g yX7_readNumber mX7_readNumber [.ref (g.2.2.1 1), .int a1] h (xX7_readNumber N a1 h) := Ok.of hI (by decide) rfl (Nat.le_of_ble_eq_true rfl) (fun X E => jxX7_readNumber hg N E a1 h)
set_option maxRecDepth 20000 in
set_option maxHeartbeats 4000000 in
theorem jxJ0_isLatin1_aae02_18 {g : GC} (hg : isGX g) {X : MX} (E : JE g mJ0_isLatin1_aae02 X) (s0 : Int32) (h : HP) : J g mJ0_isLatin1_aae02 X 18 [] [.int s0] h (xJ0_isLatin1_aae02_18 s0 h) := by
  unfold xJ0_isLatin1_aae02_18
  exact j_zreturn E rfl dJ0_isLatin1_aae02_18
set_option maxRecDepth 20000 in
set_option maxHeartbeats 4000000 in
theorem jxJ0_isLatin1_aae02_17 {g : GC} (hg : isGX g) {X : MX} (E : JE g mJ0_isLatin1_aae02 X) (h : HP) : J g mJ0_isLatin1_aae02 X 17 [] [] h (xJ0_isLatin1_aae02_17 h) := by
  unfold xJ0_isLatin1_aae02_17
  refine j_iconst E (v := 0) dJ0_isLatin1_aae02_17 (by decide) ?_
  exact jxJ0_isLatin1_aae02_18 hg E 0 h
set_option maxRecDepth 20000 in
set_option maxHeartbeats 4000000 in
theorem jxJ0_isLatin1_aae02 {g : GC} (hg : isGX g) {X : MX} (E : JE g mJ0_isLatin1_aae02 X) (h : HP) : J g mJ0_isLatin1_aae02 X 0 [(0, .ref (g.2.2.1 1000))] [] h (xJ0_isLatin1_aae02 h) := by
  unfold xJ0_isLatin1_aae02
  refine j_getCS E fs_J0_38 dJ0_isLatin1_aae02_0 ?_
  refine j_if_eq E 17 dJ0_isLatin1_aae02_3 rfl ?_ ?_
  · exact j_sub [] (lv1 := []) rfl (jxJ0_isLatin1_aae02_17 hg E h)
  · refine j_aload_n E dJ0_isLatin1_aae02_6 0 rfl ?_
    refine j_getCo E fs_J0_15 dJ0_isLatin1_aae02_7 ?_
    refine j_if_ne E 17 dJ0_isLatin1_aae02_10 rfl ?_ ?_
    · exact j_sub [] (lv1 := []) rfl (jxJ0_isLatin1_aae02_17 hg E h)
    · refine j_iconst E (v := 1) dJ0_isLatin1_aae02_13 (by decide) ?_
      refine j_goto E 18 dJ0_isLatin1_aae02_14 rfl ?_
      exact j_sub [] (lv1 := []) rfl (jxJ0_isLatin1_aae02_18 hg E 1 h)
theorem ok_J0_isLatin1_aae02 {g : GC} (hg : isGX g) (hI : gI g) (h : HP) : Ok g yJ0_isLatin1_aae02 mJ0_isLatin1_aae02 [.ref (g.2.2.1 1000)] h (xJ0_isLatin1_aae02 h) := Ok.of hI (by decide) rfl (Nat.le_of_ble_eq_true rfl) (fun X E => jxJ0_isLatin1_aae02 hg E h)
set_option maxRecDepth 20000 in
set_option maxHeartbeats 4000000 in
theorem jxJ0_coder_7d493_14 {g : GC} (hg : isGX g) {X : MX} (E : JE g mJ0_coder_7d493 X) (s0 : Int32) (h : HP) : J g mJ0_coder_7d493 X 14 [] [.int s0] h (xJ0_coder_7d493_14 s0 h) := by
  unfold xJ0_coder_7d493_14
  exact j_bz E rfl dJ0_coder_7d493_14
set_option maxRecDepth 20000 in
set_option maxHeartbeats 4000000 in
theorem jxJ0_coder_7d493 {g : GC} (hg : isGX g) {X : MX} (E : JE g mJ0_coder_7d493 X) (h : HP) : J g mJ0_coder_7d493 X 0 [(0, .ref (g.2.2.1 1000))] [] h (xJ0_coder_7d493 h) := by
  unfold xJ0_coder_7d493
  refine j_getCS E fs_J0_38 dJ0_coder_7d493_0 ?_
  refine j_if_eq E 13 dJ0_coder_7d493_3 rfl ?_ ?_
  · refine j_iconst E (v := 1) dJ0_coder_7d493_13 (by decide) ?_
    exact j_sub [] (lv1 := []) rfl (jxJ0_coder_7d493_14 hg E 1 h)
  · refine j_aload_n E dJ0_coder_7d493_6 0 rfl ?_
    refine j_getCo E fs_J0_15 dJ0_coder_7d493_7 ?_
    refine j_goto E 14 dJ0_coder_7d493_10 rfl ?_
    exact j_sub [] (lv1 := []) rfl (jxJ0_coder_7d493_14 hg E 0 h)
theorem ok_J0_coder_7d493 {g : GC} (hg : isGX g) (hI : gI g) (h : HP) : Ok g yJ0_coder_7d493 mJ0_coder_7d493 [.ref (g.2.2.1 1000)] h (xJ0_coder_7d493 h) := Ok.of hI (by decide) rfl (Nat.le_of_ble_eq_true rfl) (fun X E => jxJ0_coder_7d493 hg E h)
set_option maxRecDepth 20000 in
set_option maxHeartbeats 4000000 in
theorem jxJ0_length_8abf5 {g : GC} (hg : isGX g) {X : MX} (E : JE g mJ0_length_8abf5 X) (h : HP) : J g mJ0_length_8abf5 X 0 [(0, .ref (g.2.2.1 1000))] [] h (xJ0_length_8abf5 h) := by
  unfold xJ0_length_8abf5
  refine j_aload_n E dJ0_length_8abf5_0 0 rfl ?_
  refine j_getVa E fs_J0_9 dJ0_length_8abf5_1 ?_
  refine j_slen E dJ0_length_8abf5_4 ?_
  refine j_aload_n E dJ0_length_8abf5_5 0 rfl ?_
  refine j_calltI (As := []) (st := [.int 10]) E (ok_J0_coder_7d493 hg E.2.2.2.2.2.2.2.1 h) (cl_J0_335) (⟨Nat.le_of_ble_eq_true rfl, Nat.le_of_ble_eq_true rfl⟩) rfl rfl (Nat.le_of_ble_eq_true rfl) dJ0_length_8abf5_6 (fun t1 h2 => ?_)
  refine j_ishr E dJ0_length_8abf5_9 ?_
  exact j_ireturn E rfl dJ0_length_8abf5_10
theorem ok_J0_length_8abf5 {g : GC} (hg : isGX g) (hI : gI g) (h : HP) : Ok g yJ0_length_8abf5 mJ0_length_8abf5 [.ref (g.2.2.1 1000)] h (xJ0_length_8abf5 h) := Ok.of hI (by decide) rfl (Nat.le_of_ble_eq_true rfl) (fun X E => jxJ0_length_8abf5 hg E h)
set_option maxRecDepth 20000 in
set_option maxHeartbeats 4000000 in
theorem jxJ1_canEncode_9a6ad_16 {g : GC} (hg : isGX g) {X : MX} (E : JE g mJ1_canEncode_9a6ad X) (s0 : Int32) (h : HP) : J g mJ1_canEncode_9a6ad X 16 [] [.int s0] h (xJ1_canEncode_9a6ad_16 s0 h) := by
  unfold xJ1_canEncode_9a6ad_16
  exact j_zreturn E rfl dJ1_canEncode_9a6ad_16
set_option maxRecDepth 20000 in
set_option maxHeartbeats 4000000 in
theorem jxJ1_canEncode_9a6ad_15 {g : GC} (hg : isGX g) {X : MX} (E : JE g mJ1_canEncode_9a6ad X) (h : HP) : J g mJ1_canEncode_9a6ad X 15 [] [] h (xJ1_canEncode_9a6ad_15 h) := by
  unfold xJ1_canEncode_9a6ad_15
  refine j_iconst E (v := 0) dJ1_canEncode_9a6ad_15 (by decide) ?_
  exact jxJ1_canEncode_9a6ad_16 hg E 0 h
set_option maxRecDepth 20000 in
set_option maxHeartbeats 4000000 in
theorem jxJ1_canEncode_9a6ad {g : GC} (hg : isGX g) {X : MX} (E : JE g mJ1_canEncode_9a6ad X) (a0 : Int32) (h : HP) : J g mJ1_canEncode_9a6ad X 0 [(0, .int a0)] [] h (xJ1_canEncode_9a6ad a0 h) := by
  unfold xJ1_canEncode_9a6ad
  refine j_iload_n E dJ1_canEncode_9a6ad_0 0 rfl ?_
  refine j_if_lt E 15 dJ1_canEncode_9a6ad_1 rfl ?_ ?_
  · exact j_sub [] (lv1 := []) rfl (jxJ1_canEncode_9a6ad_15 hg E h)
  · refine j_iload_n E dJ1_canEncode_9a6ad_4 0 rfl ?_
    refine j_sipush E (v := 255) dJ1_canEncode_9a6ad_5 (by decide) ?_
    refine j_cmp_gt E 15 dJ1_canEncode_9a6ad_8 rfl ?_ ?_
    · exact j_sub [] (lv1 := []) rfl (jxJ1_canEncode_9a6ad_15 hg E h)
    · refine j_iconst E (v := 1) dJ1_canEncode_9a6ad_11 (by decide) ?_
      refine j_goto E 16 dJ1_canEncode_9a6ad_12 rfl ?_
      exact j_sub [] (lv1 := []) rfl (jxJ1_canEncode_9a6ad_16 hg E 1 h)
theorem ok_J1_canEncode_9a6ad {g : GC} (hg : isGX g) (hI : gI g) (a0 : Int32) (h : HP) : Ok g yJ1_canEncode_9a6ad mJ1_canEncode_9a6ad [.int a0] h (xJ1_canEncode_9a6ad a0 h) := Ok.of hI (by decide) rfl (Nat.le_of_ble_eq_true rfl) (fun X E => jxJ1_canEncode_9a6ad hg E a0 h)
set_option maxRecDepth 20000 in
set_option maxHeartbeats 4000000 in
theorem jxJ1_indexOfChar_4cfef_7 {g : GC} (hg : isGX g) {X : MX} (N : Nat) (E : JE g mJ1_indexOfChar_4cfef X) : ∀ (n : Nat) (a3 : Int32) (a4 : Int32) (a5 : Int32) (h : HP), J g mJ1_indexOfChar_4cfef X 7 [(0, .ref (g.2.2.1 1001)), (3, .int a3), (4, .int a4), (5, .int a5)] [] h (xJ1_indexOfChar_4cfef_7 N n a3 a4 a5 h) := by
  intro n
  induction n with
  | zero => intro a3 a4 a5 h; exact j_none
  | succ n ih =>
    intro a3 a4 a5 h
    unfold xJ1_indexOfChar_4cfef_7
    refine j_iload E dJ1_indexOfChar_4cfef_7 3 rfl ?_
    refine j_iload_n E dJ1_indexOfChar_4cfef_9 1 rfl ?_
    refine j_cmp_ge E 31 dJ1_indexOfChar_4cfef_10 rfl ?_ ?_
    · refine j_iconst E (v := (-1)) dJ1_indexOfChar_4cfef_31 (by decide) ?_
      exact j_ireturn E rfl dJ1_indexOfChar_4cfef_32
    · refine j_aload_n E dJ1_indexOfChar_4cfef_13 0 rfl ?_
      refine j_iload E dJ1_indexOfChar_4cfef_14 3 rfl ?_
      refine j_sld E dJ1_indexOfChar_4cfef_16 (fun t1 => ?_)
      refine j_iload E dJ1_indexOfChar_4cfef_17 2 rfl ?_
      refine j_cmp_ne E 25 dJ1_indexOfChar_4cfef_19 rfl ?_ ?_
      · refine j_iinc E (c := 1) dJ1_indexOfChar_4cfef_25 3 rfl (by decide) (Nat.le_of_ble_eq_true rfl) (fun v2 => [(5, .int v2), (0, .ref (g.2.2.1 1001)), (3, .int a3), (4, .int a4)]) (fun _ => rfl) (fun v2 => ?_)
        refine j_goto E 7 dJ1_indexOfChar_4cfef_28 rfl ?_
        exact j_sub [1, 2, 3, 0] (lv1 := [(0, .ref (g.2.2.1 1001)), (3, .int a3), (4, .int a4), (5, .int v2)]) rfl (ih a3 a4 v2 h)
      · refine j_iload E dJ1_indexOfChar_4cfef_22 3 rfl ?_
        exact j_ireturn E rfl dJ1_indexOfChar_4cfef_24
set_option maxRecDepth 20000 in
set_option maxHeartbeats 4000000 in
theorem jxJ1_indexOfChar_4cfef {g : GC} (hg : isGX g) {X : MX} (N : Nat) (E : JE g mJ1_indexOfChar_4cfef X) (a1 : Int32) (a2 : Int32) (a3 : Int32) (h : HP) : J g mJ1_indexOfChar_4cfef X 0 [(0, .ref (g.2.2.1 1001)), (1, .int a1), (2, .int a2), (3, .int a3)] [] h (xJ1_indexOfChar_4cfef N a1 a2 a3 h) := by
  unfold xJ1_indexOfChar_4cfef
  refine j_iload_n E dJ1_indexOfChar_4cfef_0 1 rfl ?_
  refine j_i2b E dJ1_indexOfChar_4cfef_1 ?_
  refine j_istore E dJ1_indexOfChar_4cfef_2 (Nat.le_of_ble_eq_true rfl) (fun v1 => [(4, .int v1), (0, .ref (g.2.2.1 1001)), (1, .int a1), (2, .int a2), (3, .int a3)]) (fun _ => rfl) (fun v1 => ?_)
  refine j_iload_n E dJ1_indexOfChar_4cfef_4 3 rfl ?_
  refine j_istore0 E dJ1_indexOfChar_4cfef_5 (Nat.le_of_ble_eq_true rfl) [(5, .int a2), (4, .int v1), (0, .ref (g.2.2.1 1001)), (1, .int a1), (2, .int a2), (3, .int a3)] rfl ?_
  exact j_sub [2, 5, 1, 0] (lv1 := [(0, .ref (g.2.2.1 1001)), (3, .int a3), (4, .int v1), (5, .int a2)]) rfl (jxJ1_indexOfChar_4cfef_7 hg N E N a3 v1 a2 h)
theorem ok_J1_indexOfChar_4cfef {g : GC} (hg : isGX g) (hI : gI g) (N : Nat) (a1 : Int32) (a2 : Int32) (a3 : Int32) (h : HP) : Ok g yJ1_indexOfChar_4cfef mJ1_indexOfChar_4cfef [.ref (g.2.2.1 1001), .int a1, .int a2, .int a3] h (xJ1_indexOfChar_4cfef N a1 a2 a3 h) := Ok.of hI (by decide) rfl (Nat.le_of_ble_eq_true rfl) (fun X E => jxJ1_indexOfChar_4cfef hg N E a1 a2 a3 h)
set_option maxRecDepth 20000 in
set_option maxHeartbeats 4000000 in
theorem jxJ1_indexOf_4cfef {g : GC} (hg : isGX g) {X : MX} (N : Nat) (E : JE g mJ1_indexOf_4cfef X) (a1 : Int32) (a2 : Int32) (a3 : Int32) (h : HP) : J g mJ1_indexOf_4cfef X 0 [(0, .ref (g.2.2.1 1001)), (1, .int a1), (2, .int a2), (3, .int a3)] [] h (xJ1_indexOf_4cfef N a1 a2 a3 h) := by
  unfold xJ1_indexOf_4cfef
  refine j_iload_n E dJ1_indexOf_4cfef_0 1 rfl ?_
  refine j_callsI (As := [.int a1]) (st := []) E (ok_J1_canEncode_9a6ad hg E.2.2.2.2.2.2.2.1 a1 h) (cl_J1_88) (⟨Nat.le_of_ble_eq_true rfl, Nat.le_of_ble_eq_true rfl⟩) rfl rfl (Nat.le_of_ble_eq_true rfl) dJ1_indexOf_4cfef_1 (fun t1 h2 => ?_)
  refine j_if_ne E 9 dJ1_indexOf_4cfef_4 rfl ?_ ?_
  · refine j_iload_n E dJ1_indexOf_4cfef_9 2 rfl ?_
    refine j_iconst E (v := 0) dJ1_indexOf_4cfef_10 (by decide) ?_
    refine j_max2 E ml_J1_92 (Nat.le_of_ble_eq_true rfl) (Nat.le_of_ble_eq_true rfl) dJ1_indexOf_4cfef_11 ?_
    refine j_istore_n E dJ1_indexOf_4cfef_14 (Nat.le_of_ble_eq_true rfl) (fun v3 => [(2, .int v3), (0, .ref (g.2.2.1 1001)), (1, .int a1), (3, .int a3)]) (fun _ => rfl) (fun v3 => ?_)
    refine j_iload_n E dJ1_indexOf_4cfef_15 3 rfl ?_
    refine j_aload_n E dJ1_indexOf_4cfef_16 1 rfl ?_
    refine j_slen E dJ1_indexOf_4cfef_17 ?_
    refine j_min2 E ml_J1_38 (Nat.le_of_ble_eq_true rfl) (Nat.le_of_ble_eq_true rfl) dJ1_indexOf_4cfef_18 ?_
    refine j_istore_n E dJ1_indexOf_4cfef_21 (Nat.le_of_ble_eq_true rfl) (fun v4 => [(3, .int v4), (2, .int v3), (0, .ref (g.2.2.1 1001)), (1, .int a1)]) (fun _ => rfl) (fun v4 => ?_)
    refine j_iload_n E dJ1_indexOf_4cfef_22 1 rfl ?_
    refine j_iload_n E dJ1_indexOf_4cfef_23 0 rfl ?_
    refine j_cmp_lt E 29 dJ1_indexOf_4cfef_24 rfl ?_ ?_
    · refine j_aload_n E dJ1_indexOf_4cfef_29 2 rfl ?_
      refine j_iload_n E dJ1_indexOf_4cfef_30 3 rfl ?_
      refine j_iload_n E dJ1_indexOf_4cfef_31 1 rfl ?_
      refine j_iload_n E dJ1_indexOf_4cfef_32 0 rfl ?_
      refine j_callsI (As := [.ref (g.2.2.1 1001), .int a1, .int v3, .int v4]) (st := []) E (ok_J1_indexOfChar_4cfef hg E.2.2.2.2.2.2.2.1 N a1 v3 v4 h2) (cl_J1_95) (⟨Nat.le_of_ble_eq_true rfl, Nat.le_of_ble_eq_true rfl⟩) rfl rfl (Nat.le_of_ble_eq_true rfl) dJ1_indexOf_4cfef_33 (fun t5 h6 => ?_)
      exact j_ireturn E rfl dJ1_indexOf_4cfef_36
    · refine j_iconst E (v := (-1)) dJ1_indexOf_4cfef_27 (by decide) ?_
      exact j_ireturn E rfl dJ1_indexOf_4cfef_28
  · refine j_iconst E (v := (-1)) dJ1_indexOf_4cfef_7 (by decide) ?_
    exact j_ireturn E rfl dJ1_indexOf_4cfef_8
theorem ok_J1_indexOf_4cfef {g : GC} (hg : isGX g) (hI : gI g) (N : Nat) (a1 : Int32) (a2 : Int32) (a3 : Int32) (h : HP) : Ok g yJ1_indexOf_4cfef mJ1_indexOf_4cfef [.ref (g.2.2.1 1001), .int a1, .int a2, .int a3] h (xJ1_indexOf_4cfef N a1 a2 a3 h) := Ok.of hI (by decide) rfl (Nat.le_of_ble_eq_true rfl) (fun X E => jxJ1_indexOf_4cfef hg N E a1 a2 a3 h)
set_option maxRecDepth 20000 in
set_option maxHeartbeats 4000000 in
theorem jxJ0_indexOf_7cf53_36 {g : GC} (hg : isGX g) {X : MX} (N : Nat) (E : JE g mJ0_indexOf_7cf53 X) (s0 : Int32) (h : HP) : J g mJ0_indexOf_7cf53 X 36 [] [.int s0] h (xJ0_indexOf_7cf53_36 N s0 h) := by
  unfold xJ0_indexOf_7cf53_36
  exact j_ireturn E rfl dJ0_indexOf_7cf53_36
set_option maxRecDepth 20000 in
set_option maxHeartbeats 4000000 in
theorem jxJ0_indexOf_7cf53 {g : GC} (hg : isGX g) {X : MX} (N : Nat) (E : JE g mJ0_indexOf_7cf53 X) (a1 : Int32) (a2 : Int32) (h : HP) : J g mJ0_indexOf_7cf53 X 0 [(0, .ref (g.2.2.1 1000)), (1, .int a1), (2, .int a2)] [] h (xJ0_indexOf_7cf53 N a1 a2 h) := by
  unfold xJ0_indexOf_7cf53
  refine j_aload_n E dJ0_indexOf_7cf53_0 0 rfl ?_
  refine j_calltI (As := []) (st := []) E (ok_J0_isLatin1_aae02 hg E.2.2.2.2.2.2.2.1 h) (cl_J0_492) (⟨Nat.le_of_ble_eq_true rfl, Nat.le_of_ble_eq_true rfl⟩) rfl rfl (Nat.le_of_ble_eq_true rfl) dJ0_indexOf_7cf53_1 (fun t1 h2 => ?_)
  refine j_if_eq E 23 dJ0_indexOf_7cf53_4 rfl ?_ ?_
  · refine j_aload_n E dJ0_indexOf_7cf53_23 0 rfl ?_
    refine j_getVa E fs_J0_9 dJ0_indexOf_7cf53_24 ?_
    refine j_iload_n E dJ0_indexOf_7cf53_27 1 rfl ?_
    refine j_iload_n E dJ0_indexOf_7cf53_28 2 rfl ?_
    refine j_aload_n E dJ0_indexOf_7cf53_29 0 rfl ?_
    refine j_calltI (As := []) (st := [.int a2, .int a1, .ref (g.2.2.1 1001)]) E (ok_J0_length_8abf5 hg E.2.2.2.2.2.2.2.1 h2) (cl_J0_505) (⟨Nat.le_of_ble_eq_true rfl, Nat.le_of_ble_eq_true rfl⟩) rfl rfl (Nat.le_of_ble_eq_true rfl) dJ0_indexOf_7cf53_30 (fun t3 h4 => ?_)
    exact j_none
  · refine j_aload_n E dJ0_indexOf_7cf53_7 0 rfl ?_
    refine j_getVa E fs_J0_9 dJ0_indexOf_7cf53_8 ?_
    refine j_iload_n E dJ0_indexOf_7cf53_11 1 rfl ?_
    refine j_iload_n E dJ0_indexOf_7cf53_12 2 rfl ?_
    refine j_aload_n E dJ0_indexOf_7cf53_13 0 rfl ?_
    refine j_calltI (As := []) (st := [.int a2, .int a1, .ref (g.2.2.1 1001)]) E (ok_J0_length_8abf5 hg E.2.2.2.2.2.2.2.1 h2) (cl_J0_505) (⟨Nat.le_of_ble_eq_true rfl, Nat.le_of_ble_eq_true rfl⟩) rfl rfl (Nat.le_of_ble_eq_true rfl) dJ0_indexOf_7cf53_14 (fun t5 h6 => ?_)
    refine j_callsI (As := [.ref (g.2.2.1 1001), .int a1, .int a2, .int t5]) (st := []) E (ok_J1_indexOf_4cfef hg E.2.2.2.2.2.2.2.1 N a1 a2 t5 h6) (cl_J0_637) (⟨Nat.le_of_ble_eq_true rfl, Nat.le_of_ble_eq_true rfl⟩) rfl rfl (Nat.le_of_ble_eq_true rfl) dJ0_indexOf_7cf53_17 (fun t7 h8 => ?_)
    refine j_goto E 36 dJ0_indexOf_7cf53_20 rfl ?_
    exact j_sub [] (lv1 := []) rfl (jxJ0_indexOf_7cf53_36 hg N E t7 h8)
theorem ok_J0_indexOf_7cf53 {g : GC} (hg : isGX g) (hI : gI g) (N : Nat) (a1 : Int32) (a2 : Int32) (h : HP) : Ok g yJ0_indexOf_7cf53 mJ0_indexOf_7cf53 [.ref (g.2.2.1 1000), .int a1, .int a2] h (xJ0_indexOf_7cf53 N a1 a2 h) := Ok.of hI (by decide) rfl (Nat.le_of_ble_eq_true rfl) (fun X E => jxJ0_indexOf_7cf53 hg N E a1 a2 h)
set_option maxRecDepth 20000 in
set_option maxHeartbeats 4000000 in
theorem jxJ0_indexOf_0f7a4 {g : GC} (hg : isGX g) {X : MX} (N : Nat) (E : JE g mJ0_indexOf_0f7a4 X) (a1 : Int32) (h : HP) : J g mJ0_indexOf_0f7a4 X 0 [(0, .ref (g.2.2.1 1000)), (1, .int a1)] [] h (xJ0_indexOf_0f7a4 N a1 h) := by
  unfold xJ0_indexOf_0f7a4
  refine j_aload_n E dJ0_indexOf_0f7a4_0 0 rfl ?_
  refine j_iload_n E dJ0_indexOf_0f7a4_1 1 rfl ?_
  refine j_iconst E (v := 0) dJ0_indexOf_0f7a4_2 (by decide) ?_
  refine j_calltI (As := [.int a1, .int 0]) (st := []) E (ok_J0_indexOf_7cf53 hg E.2.2.2.2.2.2.2.1 N a1 0 h) (cl_J0_633) (⟨Nat.le_of_ble_eq_true rfl, Nat.le_of_ble_eq_true rfl⟩) rfl rfl (Nat.le_of_ble_eq_true rfl) dJ0_indexOf_0f7a4_3 (fun t1 h2 => ?_)
  exact j_ireturn E rfl dJ0_indexOf_0f7a4_6
theorem ok_J0_indexOf_0f7a4 {g : GC} (hg : isGX g) (hI : gI g) (N : Nat) (a1 : Int32) (h : HP) : Ok g yJ0_indexOf_0f7a4 mJ0_indexOf_0f7a4 [.ref (g.2.2.1 1000), .int a1] h (xJ0_indexOf_0f7a4 N a1 h) := Ok.of hI (by decide) rfl (Nat.le_of_ble_eq_true rfl) (fun X E => jxJ0_indexOf_0f7a4 hg N E a1 h)
set_option maxRecDepth 20000 in
set_option maxHeartbeats 4000000 in
theorem jxX2_isLetter_19 {g : GC} (hg : isGX g) {X : MX} (N : Nat) (E : JE g mX2_isLetter X) (s0 : Int32) (h : HP) : J g mX2_isLetter X 19 [] [.int s0] h (xX2_isLetter_19 N s0 h) := by
  unfold xX2_isLetter_19
  exact j_zreturn E rfl dX2_isLetter_19
set_option maxRecDepth 20000 in
set_option maxHeartbeats 4000000 in
theorem jxX2_isLetter_18 {g : GC} (hg : isGX g) {X : MX} (N : Nat) (E : JE g mX2_isLetter X) (h : HP) : J g mX2_isLetter X 18 [] [] h (xX2_isLetter_18 N h) := by
  unfold xX2_isLetter_18
  refine j_iconst E (v := 0) dX2_isLetter_18 (by decide) ?_
  exact jxX2_isLetter_19 hg N E 0 h
set_option maxRecDepth 20000 in
set_option maxHeartbeats 4000000 in
theorem jxX2_isLetter {g : GC} (hg : isGX g) {X : MX} (N : Nat) (E : JE g mX2_isLetter X) (a0 : Int32) (h : HP) : J g mX2_isLetter X 0 [(0, .int a0)] [] h (xX2_isLetter N a0 h) := by
  unfold xX2_isLetter
  refine j_iload_n E dX2_isLetter_0 0 rfl ?_
  refine j_if_le E 18 dX2_isLetter_1 rfl ?_ ?_
  · exact j_sub [] (lv1 := []) rfl (jxX2_isLetter_18 hg N E h)
  · refine j_ldcS E rfl dX2_isLetter_4 ?_
    refine j_iload_n E dX2_isLetter_6 0 rfl ?_
    refine j_i2c2 E dX2_isLetter_7 ?_
    refine j_calltI (As := [.int (i2c a0)]) (st := []) E (ok_J0_indexOf_0f7a4 hg E.2.2.2.2.2.2.2.1 N (i2c a0) h) (cl_X2_97) (⟨Nat.le_of_ble_eq_true rfl, Nat.le_of_ble_eq_true rfl⟩) rfl rfl (Nat.le_of_ble_eq_true rfl) dX2_isLetter_8 (fun t1 h2 => ?_)
    refine j_if_lt E 18 dX2_isLetter_11 rfl ?_ ?_
    · exact j_sub [] (lv1 := []) rfl (jxX2_isLetter_18 hg N E h2)
    · refine j_iconst E (v := 1) dX2_isLetter_14 (by decide) ?_
      refine j_goto E 19 dX2_isLetter_15 rfl ?_
      exact j_sub [] (lv1 := []) rfl (jxX2_isLetter_19 hg N E 1 h2)
theorem ok_X2_isLetter {g : GC} (hg : isGX g) (hI : gI g) (N : Nat) (a0 : Int32) (h : HP) : Ok g yX2_isLetter mX2_isLetter [.int a0] h (xX2_isLetter N a0 h) := Ok.of hI (by decide) rfl (Nat.le_of_ble_eq_true rfl) (fun X E => jxX2_isLetter hg N E a0 h)
set_option maxRecDepth 20000 in
set_option maxHeartbeats 4000000 in
theorem jxX2_readCondition_81 {g : GC} (hg : isGX g) {X : MX} {dp : Nat} (N : Nat) (c_X2_readTest : Int32 → HP → Option (Int32 × HP)) (E : JE g (mX2_readCondition (dp + 1)) X) (o_X2_readTest : ∀ (q0 : Int32) (h : HP), Ok g yX2_readTest (mX2_readTest dp) [.ref (g.2.2.1 20), .ref (g.2.2.1 1), .int q0] h (c_X2_readTest q0 h)) (K8 : Int32 → Int32 → Int32 → Int32 → HP → Option (Int32 × HP)) (hK8 : ∀ (a2 : Int32) (a3 : Int32) (a4 : Int32) (a5 : Int32) (h : HP), J g (mX2_readCondition (dp + 1)) X 8 [(0, .ref (g.2.2.1 20)), (1, .ref (g.2.2.1 1)), (2, .int a2), (3, .int a3), (4, .int a4), (5, .int a5)] [] h (K8 a2 a3 a4 a5 h)) (a2 : Int32) (a3 : Int32) (a4 : Int32) (a5 : Int32) (h : HP) : J g (mX2_readCondition (dp + 1)) X 81 [(0, .ref (g.2.2.1 20)), (1, .ref (g.2.2.1 1)), (2, .int a2), (3, .int a3), (4, .int a4), (5, .int a5)] [] h (xX2_readCondition_81 N c_X2_readTest K8 a2 a3 a4 a5 h) := by
  unfold xX2_readCondition_81
  refine j_iinc E (c := 1) dX2_readCondition_81 5 rfl (by decide) (Nat.le_of_ble_eq_true rfl) (fun v1 => [(5, .int v1), (0, .ref (g.2.2.1 20)), (1, .ref (g.2.2.1 1)), (2, .int a2), (3, .int a3), (4, .int a4)]) (fun _ => rfl) (fun v1 => ?_)
  refine j_goto E 8 dX2_readCondition_84 rfl ?_
  exact j_sub [1, 2, 3, 4, 5, 0] (lv1 := [(0, .ref (g.2.2.1 20)), (1, .ref (g.2.2.1 1)), (2, .int a2), (3, .int a3), (4, .int a4), (5, .int v1)]) rfl (hK8 a2 a3 a4 v1 h)
set_option maxRecDepth 20000 in
set_option maxHeartbeats 4000000 in
theorem jxX2_readCondition_8 {g : GC} (hg : isGX g) {X : MX} {dp : Nat} (N : Nat) (c_X2_readTest : Int32 → HP → Option (Int32 × HP)) (E : JE g (mX2_readCondition (dp + 1)) X) (o_X2_readTest : ∀ (q0 : Int32) (h : HP), Ok g yX2_readTest (mX2_readTest dp) [.ref (g.2.2.1 20), .ref (g.2.2.1 1), .int q0] h (c_X2_readTest q0 h)) : ∀ (n : Nat) (a2 : Int32) (a3 : Int32) (a4 : Int32) (a5 : Int32) (h : HP), J g (mX2_readCondition (dp + 1)) X 8 [(0, .ref (g.2.2.1 20)), (1, .ref (g.2.2.1 1)), (2, .int a2), (3, .int a3), (4, .int a4), (5, .int a5)] [] h (xX2_readCondition_8 N c_X2_readTest n a2 a3 a4 a5 h) := by
  intro n
  induction n with
  | zero => intro a2 a3 a4 a5 h; exact j_none
  | succ n ih =>
    intro a2 a3 a4 a5 h
    unfold xX2_readCondition_8
    refine j_iload E dX2_readCondition_8 5 rfl ?_
    refine j_sipush E (v := 240) dX2_readCondition_10 (by decide) ?_
    refine j_cmp_ge E 87 dX2_readCondition_13 rfl ?_ ?_
    · refine j_iconst E (v := 0) dX2_readCondition_87 (by decide) ?_
      exact j_zreturn E rfl dX2_readCondition_88
    · refine j_aload_n E dX2_readCondition_16 0 rfl ?_
      refine j_aload_n E dX2_readCondition_17 1 rfl ?_
      refine j_iload_n E dX2_readCondition_18 2 rfl ?_
      refine j_callvI (As := [.ref (g.2.2.1 1), .int a2]) (st := []) E (o_X2_readTest a2 h) (cX_20 hg) (cl_X2_71 dp) (rms_X2_readCondition_X2_readTest dp) rfl rfl (Nat.le_of_ble_eq_true rfl) dX2_readCondition_19 (fun t1 h2 => ?_)
      refine j_if_ne E 27 dX2_readCondition_22 rfl ?_ ?_
      · refine j_aload_n E dX2_readCondition_27 1 rfl ?_
        refine j_bipush E (v := 38) dX2_readCondition_28 (by decide) ?_
        refine j_callvI (As := [.int 38]) (st := []) E (ok_X7_takes hg E.2.2.2.2.2.2.2.1 38 h2) (cX_1 hg) (cl_X2_74) (⟨by simp only [mX2_readCondition, mX7_takes]; omega, by simp only [mX2_readCondition, mX7_takes]; omega⟩) rfl rfl (Nat.le_of_ble_eq_true rfl) dX2_readCondition_30 (fun t3 h4 => ?_)
        refine j_if_eq E 47 dX2_readCondition_33 rfl ?_ ?_
        · refine j_aload_n E dX2_readCondition_47 0 rfl ?_
          refine j_iload_n E dX2_readCondition_48 3 rfl ?_
          refine j_callvV (As := [.int a3]) (st := []) E (ok_X2_land hg E.2.2.2.2.2.2.2.1 N a3 h4) (cX_20 hg) (cl_X2_81) (⟨by simp only [mX2_readCondition, mX2_land]; omega, by simp only [mX2_readCondition, mX2_land]; omega⟩) rfl rfl (Nat.le_of_ble_eq_true rfl) dX2_readCondition_49 (fun t5 h6 => ?_)
          refine j_iconst E (v := (-1)) dX2_readCondition_52 (by decide) ?_
          refine j_istore0_n E dX2_readCondition_53 (Nat.le_of_ble_eq_true rfl) [(3, .int (-1)), (0, .ref (g.2.2.1 20)), (1, .ref (g.2.2.1 1)), (2, .int a2), (4, .int a4), (5, .int a5)] rfl ?_
          refine j_aload_n E dX2_readCondition_54 2 rfl ?_
          refine j_bipush E (v := 124) dX2_readCondition_55 (by decide) ?_
          refine j_callvI (As := [.int 124]) (st := []) E (ok_X7_takes hg E.2.2.2.2.2.2.2.1 124 h6) (cX_1 hg) (cl_X2_74) (⟨by simp only [mX2_readCondition, mX7_takes]; omega, by simp only [mX2_readCondition, mX7_takes]; omega⟩) rfl rfl (Nat.le_of_ble_eq_true rfl) dX2_readCondition_57 (fun t7 h8 => ?_)
          refine j_if_ne E 71 dX2_readCondition_60 rfl ?_ ?_
          · refine j_aload_n E dX2_readCondition_71 1 rfl ?_
            refine j_bipush E (v := 124) dX2_readCondition_72 (by decide) ?_
            refine j_iload E dX2_readCondition_74 4 rfl ?_
            refine j_callvI (As := [.int 124, .int a4]) (st := []) E (ok_X2_write hg E.2.2.2.2.2.2.2.1 124 a4 h8) (cX_20 hg) (cl_X2_77) (⟨by simp only [mX2_readCondition, mX2_write]; omega, by simp only [mX2_readCondition, mX2_write]; omega⟩) rfl rfl (Nat.le_of_ble_eq_true rfl) dX2_readCondition_76 (fun t9 h10 => ?_)
            refine j_istore0 E dX2_readCondition_79 (Nat.le_of_ble_eq_true rfl) [(4, .int t9), (3, .int (-1)), (0, .ref (g.2.2.1 20)), (1, .ref (g.2.2.1 1)), (2, .int a2), (5, .int a5)] rfl ?_
            exact j_sub [2, 3, 4, 1, 0, 5] (lv1 := [(0, .ref (g.2.2.1 20)), (1, .ref (g.2.2.1 1)), (2, .int a2), (3, .int (-1)), (4, .int t9), (5, .int a5)]) rfl (jxX2_readCondition_81 hg N c_X2_readTest E o_X2_readTest (xX2_readCondition_8 N c_X2_readTest n) ih a2 (-1) t9 a5 h10)
          · refine j_aload_n E dX2_readCondition_63 1 rfl ?_
            refine j_iload E dX2_readCondition_64 4 rfl ?_
            refine j_callvV (As := [.int a4]) (st := []) E (ok_X2_land hg E.2.2.2.2.2.2.2.1 N a4 h8) (cX_20 hg) (cl_X2_81) (⟨by simp only [mX2_readCondition, mX2_land]; omega, by simp only [mX2_readCondition, mX2_land]; omega⟩) rfl rfl (Nat.le_of_ble_eq_true rfl) dX2_readCondition_66 (fun t11 h12 => ?_)
            refine j_iconst E (v := 1) dX2_readCondition_69 (by decide) ?_
            exact j_zreturn E rfl dX2_readCondition_70
        · refine j_aload_n E dX2_readCondition_36 0 rfl ?_
          refine j_bipush E (v := 38) dX2_readCondition_37 (by decide) ?_
          refine j_iload_n E dX2_readCondition_39 3 rfl ?_
          refine j_callvI (As := [.int 38, .int a3]) (st := []) E (ok_X2_write hg E.2.2.2.2.2.2.2.1 38 a3 h4) (cX_20 hg) (cl_X2_77) (⟨by simp only [mX2_readCondition, mX2_write]; omega, by simp only [mX2_readCondition, mX2_write]; omega⟩) rfl rfl (Nat.le_of_ble_eq_true rfl) dX2_readCondition_40 (fun t13 h14 => ?_)
          refine j_istore0_n E dX2_readCondition_43 (Nat.le_of_ble_eq_true rfl) [(3, .int t13), (0, .ref (g.2.2.1 20)), (1, .ref (g.2.2.1 1)), (2, .int a2), (4, .int a4), (5, .int a5)] rfl ?_
          refine j_goto E 81 dX2_readCondition_44 rfl ?_
          exact j_sub [1, 2, 3, 0, 4, 5] (lv1 := [(0, .ref (g.2.2.1 20)), (1, .ref (g.2.2.1 1)), (2, .int a2), (3, .int t13), (4, .int a4), (5, .int a5)]) rfl (jxX2_readCondition_81 hg N c_X2_readTest E o_X2_readTest (xX2_readCondition_8 N c_X2_readTest n) ih a2 t13 a4 a5 h14)
      · refine j_iconst E (v := 0) dX2_readCondition_25 (by decide) ?_
        exact j_zreturn E rfl dX2_readCondition_26
set_option maxRecDepth 20000 in
set_option maxHeartbeats 4000000 in
theorem jxX2_readCondition {g : GC} (hg : isGX g) {X : MX} {dp : Nat} (N : Nat) (c_X2_readTest : Int32 → HP → Option (Int32 × HP)) (E : JE g (mX2_readCondition (dp + 1)) X) (o_X2_readTest : ∀ (q0 : Int32) (h : HP), Ok g yX2_readTest (mX2_readTest dp) [.ref (g.2.2.1 20), .ref (g.2.2.1 1), .int q0] h (c_X2_readTest q0 h)) (a2 : Int32) (h : HP) : J g (mX2_readCondition (dp + 1)) X 0 [(0, .ref (g.2.2.1 20)), (1, .ref (g.2.2.1 1)), (2, .int a2)] [] h (xX2_readCondition N c_X2_readTest a2 h) := by
  unfold xX2_readCondition
  refine j_iconst E (v := (-1)) dX2_readCondition_0 (by decide) ?_
  refine j_istore0_n E dX2_readCondition_1 (Nat.le_of_ble_eq_true rfl) [(3, .int (-1)), (0, .ref (g.2.2.1 20)), (1, .ref (g.2.2.1 1)), (2, .int a2)] rfl ?_
  refine j_iconst E (v := (-1)) dX2_readCondition_2 (by decide) ?_
  refine j_istore0 E dX2_readCondition_3 (Nat.le_of_ble_eq_true rfl) [(4, .int (-1)), (3, .int (-1)), (0, .ref (g.2.2.1 20)), (1, .ref (g.2.2.1 1)), (2, .int a2)] rfl ?_
  refine j_iconst E (v := 0) dX2_readCondition_5 (by decide) ?_
  refine j_istore0 E dX2_readCondition_6 (Nat.le_of_ble_eq_true rfl) [(5, .int 0), (4, .int (-1)), (3, .int (-1)), (0, .ref (g.2.2.1 20)), (1, .ref (g.2.2.1 1)), (2, .int a2)] rfl ?_
  exact j_sub [3, 4, 5, 2, 1, 0] (lv1 := [(0, .ref (g.2.2.1 20)), (1, .ref (g.2.2.1 1)), (2, .int a2), (3, .int (-1)), (4, .int (-1)), (5, .int 0)]) rfl (jxX2_readCondition_8 hg N c_X2_readTest E o_X2_readTest N a2 (-1) (-1) 0 h)
set_option maxRecDepth 20000 in
set_option maxHeartbeats 4000000 in
theorem jxX2_readTest_59 {g : GC} (hg : isGX g) {X : MX} {dp : Nat} (N : Nat) (c_X2_readCondition : Int32 → HP → Option (Int32 × HP)) (c_X2_readSum : Int32 → HP → Option (Int32 × HP)) (E : JE g (mX2_readTest (dp + 1)) X) (o_X2_readCondition : ∀ (q0 : Int32) (h : HP), Ok g yX2_readCondition (mX2_readCondition dp) [.ref (g.2.2.1 20), .ref (g.2.2.1 1), .int q0] h (c_X2_readCondition q0 h)) (o_X2_readSum : ∀ (q0 : Int32) (h : HP), Ok g yX2_readSum (mX2_readSum dp) [.ref (g.2.2.1 20), .ref (g.2.2.1 1), .int q0] h (c_X2_readSum q0 h)) (h : HP) : J g (mX2_readTest (dp + 1)) X 59 [(1, .ref (g.2.2.1 1))] [] h (xX2_readTest_59 N c_X2_readCondition c_X2_readSum h) := by
  unfold xX2_readTest_59
  refine j_aload_n E dX2_readTest_59 0 rfl ?_
  refine j_iconst E (v := 5) dX2_readTest_60 (by decide) ?_
  refine j_aload_n E dX2_readTest_61 0 rfl ?_
  refine j_geti E f_X2_49 (cX_1 hg) rfl dX2_readTest_62 ?_
  refine j_callvI (As := [.int 5, .int (h.1 1 2)]) (st := []) E (ok_X7_refuse hg E.2.2.2.2.2.2.2.1 5 (h.1 1 2) h) (cX_1 hg) (cl_X2_52) (⟨by simp only [mX2_readTest, mX7_refuse]; omega, by simp only [mX2_readTest, mX7_refuse]; omega⟩) rfl rfl (Nat.le_of_ble_eq_true rfl) dX2_readTest_65 (fun t1 h2 => ?_)
  exact j_zreturn E rfl dX2_readTest_68
set_option maxRecDepth 20000 in
set_option maxHeartbeats 4000000 in
theorem jxX2_readTest_106 {g : GC} (hg : isGX g) {X : MX} {dp : Nat} (N : Nat) (c_X2_readCondition : Int32 → HP → Option (Int32 × HP)) (c_X2_readSum : Int32 → HP → Option (Int32 × HP)) (E : JE g (mX2_readTest (dp + 1)) X) (o_X2_readCondition : ∀ (q0 : Int32) (h : HP), Ok g yX2_readCondition (mX2_readCondition dp) [.ref (g.2.2.1 20), .ref (g.2.2.1 1), .int q0] h (c_X2_readCondition q0 h)) (o_X2_readSum : ∀ (q0 : Int32) (h : HP), Ok g yX2_readSum (mX2_readSum dp) [.ref (g.2.2.1 20), .ref (g.2.2.1 1), .int q0] h (c_X2_readSum q0 h)) (h : HP) : J g (mX2_readTest (dp + 1)) X 106 [] [] h (xX2_readTest_106 N c_X2_readCondition c_X2_readSum h) := by
  unfold xX2_readTest_106
  refine j_iconst E (v := 0) dX2_readTest_106 (by decide) ?_
  exact j_zreturn E rfl dX2_readTest_107
set_option maxRecDepth 20000 in
set_option maxHeartbeats 4000000 in
theorem jxX2_readTest_188 {g : GC} (hg : isGX g) {X : MX} {dp : Nat} (N : Nat) (c_X2_readCondition : Int32 → HP → Option (Int32 × HP)) (c_X2_readSum : Int32 → HP → Option (Int32 × HP)) (E : JE g (mX2_readTest (dp + 1)) X) (o_X2_readCondition : ∀ (q0 : Int32) (h : HP), Ok g yX2_readCondition (mX2_readCondition dp) [.ref (g.2.2.1 20), .ref (g.2.2.1 1), .int q0] h (c_X2_readCondition q0 h)) (o_X2_readSum : ∀ (q0 : Int32) (h : HP), Ok g yX2_readSum (mX2_readSum dp) [.ref (g.2.2.1 20), .ref (g.2.2.1 1), .int q0] h (c_X2_readSum q0 h)) : ∀ (n : Nat) (a3 : Int32) (a5 : Int32) (h : HP), J g (mX2_readTest (dp + 1)) X 188 [(0, .ref (g.2.2.1 20)), (3, .int a3), (5, .int a5)] [] h (xX2_readTest_188 N c_X2_readCondition c_X2_readSum n a3 a5 h) := by
  intro n
  induction n with
  | zero => intro a3 a5 h; exact j_none
  | succ n ih =>
    intro a3 a5 h
    unfold xX2_readTest_188
    refine j_iload E dX2_readTest_188 2 rfl ?_
    refine j_iload_n E dX2_readTest_190 1 rfl ?_
    refine j_cmp_ge E 208 dX2_readTest_191 rfl ?_ ?_
    · refine j_iconst E (v := 1) dX2_readTest_208 (by decide) ?_
      exact j_zreturn E rfl dX2_readTest_209
    · refine j_aload_n E dX2_readTest_194 0 rfl ?_
      refine j_bipush E (v := 33) dX2_readTest_195 (by decide) ?_
      refine j_iconst E (v := 0) dX2_readTest_197 (by decide) ?_
      refine j_callvI (As := [.int 33, .int 0]) (st := []) E (ok_X2_write hg E.2.2.2.2.2.2.2.1 33 0 h) (cX_20 hg) (cl_X2_77) (⟨by simp only [mX2_readTest, mX2_write]; omega, by simp only [mX2_readTest, mX2_write]; omega⟩) rfl rfl (Nat.le_of_ble_eq_true rfl) dX2_readTest_198 (fun t1 h2 => ?_)
      refine j_pop E dX2_readTest_201 rfl ?_
      refine j_iinc E (c := 1) dX2_readTest_202 2 rfl (by decide) (Nat.le_of_ble_eq_true rfl) (fun v3 => [(5, .int v3), (0, .ref (g.2.2.1 20)), (3, .int a3)]) (fun _ => rfl) (fun v3 => ?_)
      refine j_goto E 188 dX2_readTest_205 rfl ?_
      exact j_sub [1, 2, 0] (lv1 := [(0, .ref (g.2.2.1 20)), (3, .int a3), (5, .int v3)]) rfl (ih a3 v3 h2)
set_option maxRecDepth 20000 in
set_option maxHeartbeats 4000000 in
theorem jxX2_readTest_185 {g : GC} (hg : isGX g) {X : MX} {dp : Nat} (N : Nat) (c_X2_readCondition : Int32 → HP → Option (Int32 × HP)) (c_X2_readSum : Int32 → HP → Option (Int32 × HP)) (E : JE g (mX2_readTest (dp + 1)) X) (o_X2_readCondition : ∀ (q0 : Int32) (h : HP), Ok g yX2_readCondition (mX2_readCondition dp) [.ref (g.2.2.1 20), .ref (g.2.2.1 1), .int q0] h (c_X2_readCondition q0 h)) (o_X2_readSum : ∀ (q0 : Int32) (h : HP), Ok g yX2_readSum (mX2_readSum dp) [.ref (g.2.2.1 20), .ref (g.2.2.1 1), .int q0] h (c_X2_readSum q0 h)) (a2 : Int32) (a3 : Int32) (h : HP) : J g (mX2_readTest (dp + 1)) X 185 [(0, .ref (g.2.2.1 20)), (2, .int a2), (3, .int a3)] [] h (xX2_readTest_185 N c_X2_readCondition c_X2_readSum a2 a3 h) := by
  unfold xX2_readTest_185
  refine j_iload_n E dX2_readTest_185 1 rfl ?_
  refine j_istore0 E dX2_readTest_186 (Nat.le_of_ble_eq_true rfl) [(5, .int a2), (0, .ref (g.2.2.1 20)), (2, .int a2), (3, .int a3)] rfl ?_
  exact j_sub [1, 3, 0] (lv1 := [(0, .ref (g.2.2.1 20)), (3, .int a3), (5, .int a2)]) rfl (jxX2_readTest_188 hg N c_X2_readCondition c_X2_readSum E o_X2_readCondition o_X2_readSum N a3 a2 h)
set_option maxRecDepth 20000 in
set_option maxHeartbeats 4000000 in
theorem jxX2_readTest_156 {g : GC} (hg : isGX g) {X : MX} {dp : Nat} (N : Nat) (c_X2_readCondition : Int32 → HP → Option (Int32 × HP)) (c_X2_readSum : Int32 → HP → Option (Int32 × HP)) (E : JE g (mX2_readTest (dp + 1)) X) (o_X2_readCondition : ∀ (q0 : Int32) (h : HP), Ok g yX2_readCondition (mX2_readCondition dp) [.ref (g.2.2.1 20), .ref (g.2.2.1 1), .int q0] h (c_X2_readCondition q0 h)) (o_X2_readSum : ∀ (q0 : Int32) (h : HP), Ok g yX2_readSum (mX2_readSum dp) [.ref (g.2.2.1 20), .ref (g.2.2.1 1), .int q0] h (c_X2_readSum q0 h)) (a2 : Int32) (a3 : Int32) (a5 : Int32) (h : HP) : J g (mX2_readTest (dp + 1)) X 156 [(0, .ref (g.2.2.1 20)), (1, .ref (g.2.2.1 1)), (2, .int a2), (3, .int a3), (5, .int a5)] [] h (xX2_readTest_156 N c_X2_readCondition c_X2_readSum a2 a3 a5 h) := by
  unfold xX2_readTest_156
  refine j_aload_n E dX2_readTest_156 1 rfl ?_
  refine j_dup E dX2_readTest_157 rfl ?_
  refine j_geti E f_X2_49 (cX_1 hg) rfl dX2_readTest_158 ?_
  refine j_iconst E (v := 1) dX2_readTest_161 (by decide) ?_
  refine j_iadd E dX2_readTest_162 ?_
  refine j_puti E fp_X2_49 (cX_1 hg) rfl dX2_readTest_163 (fun h1 => ?_)
  refine j_aload_n E dX2_readTest_166 0 rfl ?_
  refine j_aload_n E dX2_readTest_167 1 rfl ?_
  refine j_iload_n E dX2_readTest_168 3 rfl ?_
  refine j_callvI (As := [.ref (g.2.2.1 1), .int a3]) (st := []) E (o_X2_readSum a3 h1) (cX_20 hg) (cl_X2_56 dp) (rms_X2_readTest_X2_readSum dp) rfl rfl (Nat.le_of_ble_eq_true rfl) dX2_readTest_169 (fun t2 h3 => ?_)
  refine j_if_ne E 177 dX2_readTest_172 rfl ?_ ?_
  · refine j_aload_n E dX2_readTest_177 0 rfl ?_
    refine j_iload E dX2_readTest_178 4 rfl ?_
    refine j_iconst E (v := 0) dX2_readTest_180 (by decide) ?_
    refine j_callvI (As := [.int a5, .int 0]) (st := []) E (ok_X2_write hg E.2.2.2.2.2.2.2.1 a5 0 h3) (cX_20 hg) (cl_X2_77) (⟨by simp only [mX2_readTest, mX2_write]; omega, by simp only [mX2_readTest, mX2_write]; omega⟩) rfl rfl (Nat.le_of_ble_eq_true rfl) dX2_readTest_181 (fun t4 h5 => ?_)
    refine j_pop E dX2_readTest_184 rfl ?_
    exact j_sub [0, 2, 3] (lv1 := [(0, .ref (g.2.2.1 20)), (2, .int a2), (3, .int a3)]) rfl (jxX2_readTest_185 hg N c_X2_readCondition c_X2_readSum E o_X2_readCondition o_X2_readSum a2 a3 h5)
  · refine j_iconst E (v := 0) dX2_readTest_175 (by decide) ?_
    exact j_zreturn E rfl dX2_readTest_176
set_option maxRecDepth 20000 in
set_option maxHeartbeats 4000000 in
theorem jxX2_readTest_69 {g : GC} (hg : isGX g) {X : MX} {dp : Nat} (N : Nat) (c_X2_readCondition : Int32 → HP → Option (Int32 × HP)) (c_X2_readSum : Int32 → HP → Option (Int32 × HP)) (E : JE g (mX2_readTest (dp + 1)) X) (o_X2_readCondition : ∀ (q0 : Int32) (h : HP), Ok g yX2_readCondition (mX2_readCondition dp) [.ref (g.2.2.1 20), .ref (g.2.2.1 1), .int q0] h (c_X2_readCondition q0 h)) (o_X2_readSum : ∀ (q0 : Int32) (h : HP), Ok g yX2_readSum (mX2_readSum dp) [.ref (g.2.2.1 20), .ref (g.2.2.1 1), .int q0] h (c_X2_readSum q0 h)) (a2 : Int32) (a3 : Int32) (a4 : Int32) (h : HP) : J g (mX2_readTest (dp + 1)) X 69 [(0, .ref (g.2.2.1 20)), (1, .ref (g.2.2.1 1)), (2, .int a2), (3, .int a3), (4, .int a4)] [] h (xX2_readTest_69 N c_X2_readCondition c_X2_readSum a2 a3 a4 h) := by
  unfold xX2_readTest_69
  refine j_iload E dX2_readTest_69 4 rfl ?_
  refine j_bipush E (v := 40) dX2_readTest_71 (by decide) ?_
  refine j_cmp_ne E 108 dX2_readTest_73 rfl ?_ ?_
  · refine j_aload_n E dX2_readTest_108 0 rfl ?_
    refine j_aload_n E dX2_readTest_109 1 rfl ?_
    refine j_iload_n E dX2_readTest_110 3 rfl ?_
    refine j_callvI (As := [.ref (g.2.2.1 1), .int a3]) (st := []) E (o_X2_readSum a3 h) (cX_20 hg) (cl_X2_56 dp) (rms_X2_readTest_X2_readSum dp) rfl rfl (Nat.le_of_ble_eq_true rfl) dX2_readTest_111 (fun t1 h2 => ?_)
    refine j_if_ne E 119 dX2_readTest_114 rfl ?_ ?_
    · refine j_aload_n E dX2_readTest_119 1 rfl ?_
      refine j_callvI (As := []) (st := []) E (ok_X7_peek hg E.2.2.2.2.2.2.2.1 h2) (cX_1 hg) (cl_X2_43) (⟨by simp only [mX2_readTest, mX7_peek]; omega, by simp only [mX2_readTest, mX7_peek]; omega⟩) rfl rfl (Nat.le_of_ble_eq_true rfl) dX2_readTest_120 (fun t3 h4 => ?_)
      refine j_istore0 E dX2_readTest_123 (Nat.le_of_ble_eq_true rfl) [(5, .int t3), (0, .ref (g.2.2.1 20)), (1, .ref (g.2.2.1 1)), (2, .int a2), (3, .int a3), (4, .int a4)] rfl ?_
      refine j_iload E dX2_readTest_125 0 rfl ?_
      refine j_bipush E (v := 60) dX2_readTest_127 (by decide) ?_
      refine j_cmp_eq E 156 dX2_readTest_129 rfl ?_ ?_
      · exact j_sub [1, 2, 3, 4, 0] (lv1 := [(0, .ref (g.2.2.1 20)), (1, .ref (g.2.2.1 1)), (2, .int a2), (3, .int a3), (5, .int t3)]) rfl (jxX2_readTest_156 hg N c_X2_readCondition c_X2_readSum E o_X2_readCondition o_X2_readSum a2 a3 t3 h4)
      · refine j_iload E dX2_readTest_132 0 rfl ?_
        refine j_bipush E (v := 62) dX2_readTest_134 (by decide) ?_
        refine j_cmp_eq E 156 dX2_readTest_136 rfl ?_ ?_
        · exact j_sub [1, 2, 3, 4, 0] (lv1 := [(0, .ref (g.2.2.1 20)), (1, .ref (g.2.2.1 1)), (2, .int a2), (3, .int a3), (5, .int t3)]) rfl (jxX2_readTest_156 hg N c_X2_readCondition c_X2_readSum E o_X2_readCondition o_X2_readSum a2 a3 t3 h4)
        · refine j_iload E dX2_readTest_139 0 rfl ?_
          refine j_bipush E (v := 61) dX2_readTest_141 (by decide) ?_
          refine j_cmp_eq E 156 dX2_readTest_143 rfl ?_ ?_
          · exact j_sub [1, 2, 3, 4, 0] (lv1 := [(0, .ref (g.2.2.1 20)), (1, .ref (g.2.2.1 1)), (2, .int a2), (3, .int a3), (5, .int t3)]) rfl (jxX2_readTest_156 hg N c_X2_readCondition c_X2_readSum E o_X2_readCondition o_X2_readSum a2 a3 t3 h4)
          · refine j_aload_n E dX2_readTest_146 2 rfl ?_
            refine j_iconst E (v := 1) dX2_readTest_147 (by decide) ?_
            refine j_aload_n E dX2_readTest_148 2 rfl ?_
            refine j_geti E f_X2_49 (cX_1 hg) rfl dX2_readTest_149 ?_
            refine j_callvI (As := [.int 1, .int (h4.1 1 2)]) (st := []) E (ok_X7_refuse hg E.2.2.2.2.2.2.2.1 1 (h4.1 1 2) h4) (cX_1 hg) (cl_X2_52) (⟨by simp only [mX2_readTest, mX7_refuse]; omega, by simp only [mX2_readTest, mX7_refuse]; omega⟩) rfl rfl (Nat.le_of_ble_eq_true rfl) dX2_readTest_152 (fun t5 h6 => ?_)
            exact j_zreturn E rfl dX2_readTest_155
    · refine j_iconst E (v := 0) dX2_readTest_117 (by decide) ?_
      exact j_zreturn E rfl dX2_readTest_118
  · refine j_aload_n E dX2_readTest_76 1 rfl ?_
    refine j_dup E dX2_readTest_77 rfl ?_
    refine j_geti E f_X2_49 (cX_1 hg) rfl dX2_readTest_78 ?_
    refine j_iconst E (v := 1) dX2_readTest_81 (by decide) ?_
    refine j_iadd E dX2_readTest_82 ?_
    refine j_puti E fp_X2_49 (cX_1 hg) rfl dX2_readTest_83 (fun h7 => ?_)
    refine j_aload_n E dX2_readTest_86 0 rfl ?_
    refine j_aload_n E dX2_readTest_87 1 rfl ?_
    refine j_iload_n E dX2_readTest_88 3 rfl ?_
    refine j_iconst E (v := 1) dX2_readTest_89 (by decide) ?_
    refine j_iadd E dX2_readTest_90 ?_
    refine j_callvI (As := [.ref (g.2.2.1 1), .int (a3 + 1)]) (st := []) E (o_X2_readCondition (a3 + 1) h7) (cX_20 hg) (cl_X2_64 dp) (rms_X2_readTest_X2_readCondition dp) rfl rfl (Nat.le_of_ble_eq_true rfl) dX2_readTest_91 (fun t8 h9 => ?_)
    refine j_if_eq E 106 dX2_readTest_94 rfl ?_ ?_
    · exact j_sub [] (lv1 := []) rfl (jxX2_readTest_106 hg N c_X2_readCondition c_X2_readSum E o_X2_readCondition o_X2_readSum h9)
    · refine j_aload_n E dX2_readTest_97 1 rfl ?_
      refine j_bipush E (v := 41) dX2_readTest_98 (by decide) ?_
      refine j_callvI (As := [.int 41]) (st := []) E (ok_X7_demands hg E.2.2.2.2.2.2.2.1 41 h9) (cX_1 hg) (cl_X2_60) (⟨by simp only [mX2_readTest, mX7_demands]; omega, by simp only [mX2_readTest, mX7_demands]; omega⟩) rfl rfl (Nat.le_of_ble_eq_true rfl) dX2_readTest_100 (fun t10 h11 => ?_)
      refine j_if_ne E 185 dX2_readTest_103 rfl ?_ ?_
      · exact j_sub [0, 2, 3] (lv1 := [(0, .ref (g.2.2.1 20)), (2, .int a2), (3, .int a3)]) rfl (jxX2_readTest_185 hg N c_X2_readCondition c_X2_readSum E o_X2_readCondition o_X2_readSum a2 a3 h11)
      · exact j_sub [] (lv1 := []) rfl (jxX2_readTest_106 hg N c_X2_readCondition c_X2_readSum E o_X2_readCondition o_X2_readSum h11)
set_option maxRecDepth 20000 in
set_option maxHeartbeats 4000000 in
theorem jxX2_readTest_33 {g : GC} (hg : isGX g) {X : MX} {dp : Nat} (N : Nat) (c_X2_readCondition : Int32 → HP → Option (Int32 × HP)) (c_X2_readSum : Int32 → HP → Option (Int32 × HP)) (E : JE g (mX2_readTest (dp + 1)) X) (o_X2_readCondition : ∀ (q0 : Int32) (h : HP), Ok g yX2_readCondition (mX2_readCondition dp) [.ref (g.2.2.1 20), .ref (g.2.2.1 1), .int q0] h (c_X2_readCondition q0 h)) (o_X2_readSum : ∀ (q0 : Int32) (h : HP), Ok g yX2_readSum (mX2_readSum dp) [.ref (g.2.2.1 20), .ref (g.2.2.1 1), .int q0] h (c_X2_readSum q0 h)) (a2 : Int32) (a3 : Int32) (h : HP) : J g (mX2_readTest (dp + 1)) X 33 [(0, .ref (g.2.2.1 20)), (1, .ref (g.2.2.1 1)), (2, .int a2), (3, .int a3)] [] h (xX2_readTest_33 N c_X2_readCondition c_X2_readSum a2 a3 h) := by
  unfold xX2_readTest_33
  refine j_aload_n E dX2_readTest_33 1 rfl ?_
  refine j_callvI (As := []) (st := []) E (ok_X7_peek hg E.2.2.2.2.2.2.2.1 h) (cX_1 hg) (cl_X2_43) (⟨by simp only [mX2_readTest, mX7_peek]; omega, by simp only [mX2_readTest, mX7_peek]; omega⟩) rfl rfl (Nat.le_of_ble_eq_true rfl) dX2_readTest_34 (fun t1 h2 => ?_)
  refine j_istore0 E dX2_readTest_37 (Nat.le_of_ble_eq_true rfl) [(4, .int t1), (0, .ref (g.2.2.1 20)), (1, .ref (g.2.2.1 1)), (2, .int a2), (3, .int a3)] rfl ?_
  refine j_iload_n E dX2_readTest_39 4 rfl ?_
  refine j_bipush E (v := 6) dX2_readTest_40 (by decide) ?_
  refine j_cmp_lt E 69 dX2_readTest_42 rfl ?_ ?_
  · exact j_sub [1, 2, 3, 4, 0] (lv1 := [(0, .ref (g.2.2.1 20)), (1, .ref (g.2.2.1 1)), (2, .int a2), (3, .int a3), (4, .int t1)]) rfl (jxX2_readTest_69 hg N c_X2_readCondition c_X2_readSum E o_X2_readCondition o_X2_readSum a2 a3 t1 h2)
  · refine j_iload E dX2_readTest_45 0 rfl ?_
    refine j_bipush E (v := 33) dX2_readTest_47 (by decide) ?_
    refine j_cmp_eq E 59 dX2_readTest_49 rfl ?_ ?_
    · exact j_sub [2] (lv1 := [(1, .ref (g.2.2.1 1))]) rfl (jxX2_readTest_59 hg N c_X2_readCondition c_X2_readSum E o_X2_readCondition o_X2_readSum h2)
    · refine j_iload E dX2_readTest_52 0 rfl ?_
      refine j_bipush E (v := 40) dX2_readTest_54 (by decide) ?_
      refine j_cmp_ne E 69 dX2_readTest_56 rfl ?_ ?_
      · exact j_sub [1, 2, 3, 4, 0] (lv1 := [(0, .ref (g.2.2.1 20)), (1, .ref (g.2.2.1 1)), (2, .int a2), (3, .int a3), (4, .int t1)]) rfl (jxX2_readTest_69 hg N c_X2_readCondition c_X2_readSum E o_X2_readCondition o_X2_readSum a2 a3 t1 h2)
      · exact j_sub [2] (lv1 := [(1, .ref (g.2.2.1 1))]) rfl (jxX2_readTest_59 hg N c_X2_readCondition c_X2_readSum E o_X2_readCondition o_X2_readSum h2)
set_option maxRecDepth 20000 in
set_option maxHeartbeats 4000000 in
theorem jxX2_readTest_2 {g : GC} (hg : isGX g) {X : MX} {dp : Nat} (N : Nat) (c_X2_readCondition : Int32 → HP → Option (Int32 × HP)) (c_X2_readSum : Int32 → HP → Option (Int32 × HP)) (E : JE g (mX2_readTest (dp + 1)) X) (o_X2_readCondition : ∀ (q0 : Int32) (h : HP), Ok g yX2_readCondition (mX2_readCondition dp) [.ref (g.2.2.1 20), .ref (g.2.2.1 1), .int q0] h (c_X2_readCondition q0 h)) (o_X2_readSum : ∀ (q0 : Int32) (h : HP), Ok g yX2_readSum (mX2_readSum dp) [.ref (g.2.2.1 20), .ref (g.2.2.1 1), .int q0] h (c_X2_readSum q0 h)) : ∀ (n : Nat) (a2 : Int32) (a3 : Int32) (h : HP), J g (mX2_readTest (dp + 1)) X 2 [(0, .ref (g.2.2.1 20)), (1, .ref (g.2.2.1 1)), (2, .int a2), (3, .int a3)] [] h (xX2_readTest_2 N c_X2_readCondition c_X2_readSum n a2 a3 h) := by
  intro n
  induction n with
  | zero => intro a2 a3 h; exact j_none
  | succ n ih =>
    intro a2 a3 h
    unfold xX2_readTest_2
    refine j_iload_n E dX2_readTest_2 3 rfl ?_
    refine j_bipush E (v := 6) dX2_readTest_3 (by decide) ?_
    refine j_cmp_ge E 33 dX2_readTest_5 rfl ?_ ?_
    · exact jxX2_readTest_33 hg N c_X2_readCondition c_X2_readSum E o_X2_readCondition o_X2_readSum a2 a3 h
    · refine j_aload_n E dX2_readTest_8 1 rfl ?_
      refine j_callvI (As := []) (st := []) E (ok_X7_peek hg E.2.2.2.2.2.2.2.1 h) (cX_1 hg) (cl_X2_43) (⟨by simp only [mX2_readTest, mX7_peek]; omega, by simp only [mX2_readTest, mX7_peek]; omega⟩) rfl rfl (Nat.le_of_ble_eq_true rfl) dX2_readTest_9 (fun t1 h2 => ?_)
      refine j_bipush E (v := 33) dX2_readTest_12 (by decide) ?_
      refine j_cmp_ne E 33 dX2_readTest_14 rfl ?_ ?_
      · exact jxX2_readTest_33 hg N c_X2_readCondition c_X2_readSum E o_X2_readCondition o_X2_readSum a2 a3 h2
      · refine j_aload_n E dX2_readTest_17 1 rfl ?_
        refine j_dup E dX2_readTest_18 rfl ?_
        refine j_geti E f_X2_49 (cX_1 hg) rfl dX2_readTest_19 ?_
        refine j_iconst E (v := 1) dX2_readTest_22 (by decide) ?_
        refine j_iadd E dX2_readTest_23 ?_
        refine j_puti E fp_X2_49 (cX_1 hg) rfl dX2_readTest_24 (fun h3 => ?_)
        refine j_iinc E (c := 1) dX2_readTest_27 3 rfl (by decide) (Nat.le_of_ble_eq_true rfl) (fun v4 => [(3, .int v4), (0, .ref (g.2.2.1 20)), (1, .ref (g.2.2.1 1)), (2, .int a2)]) (fun _ => rfl) (fun v4 => ?_)
        refine j_goto E 2 dX2_readTest_30 rfl ?_
        exact j_sub [1, 2, 3, 0] (lv1 := [(0, .ref (g.2.2.1 20)), (1, .ref (g.2.2.1 1)), (2, .int a2), (3, .int v4)]) rfl (ih a2 v4 h3)
set_option maxRecDepth 20000 in
set_option maxHeartbeats 4000000 in
theorem jxX2_readTest {g : GC} (hg : isGX g) {X : MX} {dp : Nat} (N : Nat) (c_X2_readCondition : Int32 → HP → Option (Int32 × HP)) (c_X2_readSum : Int32 → HP → Option (Int32 × HP)) (E : JE g (mX2_readTest (dp + 1)) X) (o_X2_readCondition : ∀ (q0 : Int32) (h : HP), Ok g yX2_readCondition (mX2_readCondition dp) [.ref (g.2.2.1 20), .ref (g.2.2.1 1), .int q0] h (c_X2_readCondition q0 h)) (o_X2_readSum : ∀ (q0 : Int32) (h : HP), Ok g yX2_readSum (mX2_readSum dp) [.ref (g.2.2.1 20), .ref (g.2.2.1 1), .int q0] h (c_X2_readSum q0 h)) (a2 : Int32) (h : HP) : J g (mX2_readTest (dp + 1)) X 0 [(0, .ref (g.2.2.1 20)), (1, .ref (g.2.2.1 1)), (2, .int a2)] [] h (xX2_readTest N c_X2_readCondition c_X2_readSum a2 h) := by
  unfold xX2_readTest
  refine j_iload_n E dX2_readTest_0 2 rfl ?_
  refine j_istore0_n E dX2_readTest_1 (Nat.le_of_ble_eq_true rfl) [(3, .int a2), (0, .ref (g.2.2.1 20)), (1, .ref (g.2.2.1 1)), (2, .int a2)] rfl ?_
  exact j_sub [1, 2, 3, 0] (lv1 := [(0, .ref (g.2.2.1 20)), (1, .ref (g.2.2.1 1)), (2, .int a2), (3, .int a2)]) rfl (jxX2_readTest_2 hg N c_X2_readCondition c_X2_readSum E o_X2_readCondition o_X2_readSum N a2 a2 h)
set_option maxRecDepth 20000 in
set_option maxHeartbeats 4000000 in
theorem jxX2_readSum_127 {g : GC} (hg : isGX g) {X : MX} {dp : Nat} (N : Nat) (c_X2_readFactor : Int32 → HP → Option (Int32 × HP)) (E : JE g (mX2_readSum (dp + 1)) X) (o_X2_readFactor : ∀ (q0 : Int32) (h : HP), Ok g yX2_readFactor (mX2_readFactor dp) [.ref (g.2.2.1 20), .ref (g.2.2.1 1), .int q0] h (c_X2_readFactor q0 h)) (K8 : Int32 → Int32 → Int32 → Int32 → HP → Option (Int32 × HP)) (hK8 : ∀ (a2 : Int32) (a3 : Int32) (a4 : Int32) (a5 : Int32) (h : HP), J g (mX2_readSum (dp + 1)) X 8 [(0, .ref (g.2.2.1 20)), (1, .ref (g.2.2.1 1)), (2, .int a2), (3, .int a3), (4, .int a4), (5, .int a5)] [] h (K8 a2 a3 a4 a5 h)) (a2 : Int32) (a3 : Int32) (a4 : Int32) (a5 : Int32) (h : HP) : J g (mX2_readSum (dp + 1)) X 127 [(0, .ref (g.2.2.1 20)), (1, .ref (g.2.2.1 1)), (2, .int a2), (3, .int a3), (4, .int a4), (5, .int a5)] [] h (xX2_readSum_127 N c_X2_readFactor K8 a2 a3 a4 a5 h) := by
  unfold xX2_readSum_127
  refine j_iinc E (c := 1) dX2_readSum_127 5 rfl (by decide) (Nat.le_of_ble_eq_true rfl) (fun v1 => [(5, .int v1), (0, .ref (g.2.2.1 20)), (1, .ref (g.2.2.1 1)), (2, .int a2), (3, .int a3), (4, .int a4)]) (fun _ => rfl) (fun v1 => ?_)
  refine j_goto E 8 dX2_readSum_130 rfl ?_
  exact j_sub [1, 2, 3, 4, 5, 0] (lv1 := [(0, .ref (g.2.2.1 20)), (1, .ref (g.2.2.1 1)), (2, .int a2), (3, .int a3), (4, .int a4), (5, .int v1)]) rfl (hK8 a2 a3 a4 v1 h)
set_option maxRecDepth 20000 in
set_option maxHeartbeats 4000000 in
theorem jxX2_readSum_70 {g : GC} (hg : isGX g) {X : MX} {dp : Nat} (N : Nat) (c_X2_readFactor : Int32 → HP → Option (Int32 × HP)) (E : JE g (mX2_readSum (dp + 1)) X) (o_X2_readFactor : ∀ (q0 : Int32) (h : HP), Ok g yX2_readFactor (mX2_readFactor dp) [.ref (g.2.2.1 20), .ref (g.2.2.1 1), .int q0] h (c_X2_readFactor q0 h)) (K8 : Int32 → Int32 → Int32 → Int32 → HP → Option (Int32 × HP)) (hK8 : ∀ (a2 : Int32) (a3 : Int32) (a4 : Int32) (a5 : Int32) (h : HP), J g (mX2_readSum (dp + 1)) X 8 [(0, .ref (g.2.2.1 20)), (1, .ref (g.2.2.1 1)), (2, .int a2), (3, .int a3), (4, .int a4), (5, .int a5)] [] h (K8 a2 a3 a4 a5 h)) (a2 : Int32) (a3 : Int32) (a5 : Int32) (a6 : Int32) (h : HP) : J g (mX2_readSum (dp + 1)) X 70 [(0, .ref (g.2.2.1 20)), (1, .ref (g.2.2.1 1)), (2, .int a2), (3, .int a3), (5, .int a5), (6, .int a6)] [] h (xX2_readSum_70 N c_X2_readFactor K8 a2 a3 a5 a6 h) := by
  unfold xX2_readSum_70
  refine j_iload E dX2_readSum_70 5 rfl ?_
  refine j_istore0 E dX2_readSum_72 (Nat.le_of_ble_eq_true rfl) [(4, .int a6), (0, .ref (g.2.2.1 20)), (1, .ref (g.2.2.1 1)), (2, .int a2), (3, .int a3), (5, .int a5), (6, .int a6)] rfl ?_
  refine j_aload_n E dX2_readSum_74 2 rfl ?_
  refine j_dup E dX2_readSum_75 rfl ?_
  refine j_geti E f_X2_49 (cX_1 hg) rfl dX2_readSum_76 ?_
  refine j_iconst E (v := 1) dX2_readSum_79 (by decide) ?_
  refine j_iadd E dX2_readSum_80 ?_
  refine j_puti E fp_X2_49 (cX_1 hg) rfl dX2_readSum_81 (fun h1 => ?_)
  refine j_goto E 127 dX2_readSum_84 rfl ?_
  exact j_sub [1, 2, 3, 4, 0, 5] (lv1 := [(0, .ref (g.2.2.1 20)), (1, .ref (g.2.2.1 1)), (2, .int a2), (3, .int a3), (4, .int a6), (5, .int a5)]) rfl (jxX2_readSum_127 hg N c_X2_readFactor E o_X2_readFactor K8 hK8 a2 a3 a6 a5 h1)
set_option maxRecDepth 20000 in
set_option maxHeartbeats 4000000 in
theorem jxX2_readSum_114 {g : GC} (hg : isGX g) {X : MX} {dp : Nat} (N : Nat) (c_X2_readFactor : Int32 → HP → Option (Int32 × HP)) (E : JE g (mX2_readSum (dp + 1)) X) (o_X2_readFactor : ∀ (q0 : Int32) (h : HP), Ok g yX2_readFactor (mX2_readFactor dp) [.ref (g.2.2.1 20), .ref (g.2.2.1 1), .int q0] h (c_X2_readFactor q0 h)) (K8 : Int32 → Int32 → Int32 → Int32 → HP → Option (Int32 × HP)) (hK8 : ∀ (a2 : Int32) (a3 : Int32) (a4 : Int32) (a5 : Int32) (h : HP), J g (mX2_readSum (dp + 1)) X 8 [(0, .ref (g.2.2.1 20)), (1, .ref (g.2.2.1 1)), (2, .int a2), (3, .int a3), (4, .int a4), (5, .int a5)] [] h (K8 a2 a3 a4 a5 h)) (a2 : Int32) (a4 : Int32) (a5 : Int32) (a6 : Int32) (h : HP) : J g (mX2_readSum (dp + 1)) X 114 [(0, .ref (g.2.2.1 20)), (1, .ref (g.2.2.1 1)), (2, .int a2), (4, .int a4), (5, .int a5), (6, .int a6)] [] h (xX2_readSum_114 N c_X2_readFactor K8 a2 a4 a5 a6 h) := by
  unfold xX2_readSum_114
  refine j_iload E dX2_readSum_114 5 rfl ?_
  refine j_istore0_n E dX2_readSum_116 (Nat.le_of_ble_eq_true rfl) [(3, .int a6), (0, .ref (g.2.2.1 20)), (1, .ref (g.2.2.1 1)), (2, .int a2), (4, .int a4), (5, .int a5), (6, .int a6)] rfl ?_
  refine j_aload_n E dX2_readSum_117 2 rfl ?_
  refine j_dup E dX2_readSum_118 rfl ?_
  refine j_geti E f_X2_49 (cX_1 hg) rfl dX2_readSum_119 ?_
  refine j_iconst E (v := 1) dX2_readSum_122 (by decide) ?_
  refine j_iadd E dX2_readSum_123 ?_
  refine j_puti E fp_X2_49 (cX_1 hg) rfl dX2_readSum_124 (fun h1 => ?_)
  exact j_sub [1, 2, 3, 0, 4, 5] (lv1 := [(0, .ref (g.2.2.1 20)), (1, .ref (g.2.2.1 1)), (2, .int a2), (3, .int a6), (4, .int a4), (5, .int a5)]) rfl (jxX2_readSum_127 hg N c_X2_readFactor E o_X2_readFactor K8 hK8 a2 a6 a4 a5 h1)
set_option maxRecDepth 20000 in
set_option maxHeartbeats 4000000 in
theorem jxX2_readSum_98 {g : GC} (hg : isGX g) {X : MX} {dp : Nat} (N : Nat) (c_X2_readFactor : Int32 → HP → Option (Int32 × HP)) (E : JE g (mX2_readSum (dp + 1)) X) (o_X2_readFactor : ∀ (q0 : Int32) (h : HP), Ok g yX2_readFactor (mX2_readFactor dp) [.ref (g.2.2.1 20), .ref (g.2.2.1 1), .int q0] h (c_X2_readFactor q0 h)) (K8 : Int32 → Int32 → Int32 → Int32 → HP → Option (Int32 × HP)) (hK8 : ∀ (a2 : Int32) (a3 : Int32) (a4 : Int32) (a5 : Int32) (h : HP), J g (mX2_readSum (dp + 1)) X 8 [(0, .ref (g.2.2.1 20)), (1, .ref (g.2.2.1 1)), (2, .int a2), (3, .int a3), (4, .int a4), (5, .int a5)] [] h (K8 a2 a3 a4 a5 h)) (a2 : Int32) (a4 : Int32) (a5 : Int32) (a6 : Int32) (h : HP) : J g (mX2_readSum (dp + 1)) X 98 [(0, .ref (g.2.2.1 20)), (1, .ref (g.2.2.1 1)), (2, .int a2), (4, .int a4), (5, .int a5), (6, .int a6)] [] h (xX2_readSum_98 N c_X2_readFactor K8 a2 a4 a5 a6 h) := by
  unfold xX2_readSum_98
  refine j_iload E dX2_readSum_98 5 rfl ?_
  refine j_bipush E (v := 43) dX2_readSum_100 (by decide) ?_
  refine j_cmp_eq E 114 dX2_readSum_102 rfl ?_ ?_
  · exact jxX2_readSum_114 hg N c_X2_readFactor E o_X2_readFactor K8 hK8 a2 a4 a5 a6 h
  · refine j_iload E dX2_readSum_105 5 rfl ?_
    refine j_bipush E (v := 45) dX2_readSum_107 (by decide) ?_
    refine j_cmp_eq E 114 dX2_readSum_109 rfl ?_ ?_
    · exact jxX2_readSum_114 hg N c_X2_readFactor E o_X2_readFactor K8 hK8 a2 a4 a5 a6 h
    · refine j_iconst E (v := 1) dX2_readSum_112 (by decide) ?_
      exact j_zreturn E rfl dX2_readSum_113
set_option maxRecDepth 20000 in
set_option maxHeartbeats 4000000 in
theorem jxX2_readSum_40 {g : GC} (hg : isGX g) {X : MX} {dp : Nat} (N : Nat) (c_X2_readFactor : Int32 → HP → Option (Int32 × HP)) (E : JE g (mX2_readSum (dp + 1)) X) (o_X2_readFactor : ∀ (q0 : Int32) (h : HP), Ok g yX2_readFactor (mX2_readFactor dp) [.ref (g.2.2.1 20), .ref (g.2.2.1 1), .int q0] h (c_X2_readFactor q0 h)) (K8 : Int32 → Int32 → Int32 → Int32 → HP → Option (Int32 × HP)) (hK8 : ∀ (a2 : Int32) (a3 : Int32) (a4 : Int32) (a5 : Int32) (h : HP), J g (mX2_readSum (dp + 1)) X 8 [(0, .ref (g.2.2.1 20)), (1, .ref (g.2.2.1 1)), (2, .int a2), (3, .int a3), (4, .int a4), (5, .int a5)] [] h (K8 a2 a3 a4 a5 h)) (a2 : Int32) (a3 : Int32) (a5 : Int32) (h : HP) : J g (mX2_readSum (dp + 1)) X 40 [(0, .ref (g.2.2.1 20)), (1, .ref (g.2.2.1 1)), (2, .int a2), (3, .int a3), (5, .int a5)] [] h (xX2_readSum_40 N c_X2_readFactor K8 a2 a3 a5 h) := by
  unfold xX2_readSum_40
  refine j_iconst E (v := 0) dX2_readSum_40 (by decide) ?_
  refine j_istore0 E dX2_readSum_41 (Nat.le_of_ble_eq_true rfl) [(4, .int 0), (0, .ref (g.2.2.1 20)), (1, .ref (g.2.2.1 1)), (2, .int a2), (3, .int a3), (5, .int a5)] rfl ?_
  refine j_aload_n E dX2_readSum_43 2 rfl ?_
  refine j_callvI (As := []) (st := []) E (ok_X7_peek hg E.2.2.2.2.2.2.2.1 h) (cX_1 hg) (cl_X2_43) (⟨by simp only [mX2_readSum, mX7_peek]; omega, by simp only [mX2_readSum, mX7_peek]; omega⟩) rfl rfl (Nat.le_of_ble_eq_true rfl) dX2_readSum_44 (fun t1 h2 => ?_)
  refine j_istore0 E dX2_readSum_47 (Nat.le_of_ble_eq_true rfl) [(6, .int t1), (4, .int 0), (0, .ref (g.2.2.1 20)), (1, .ref (g.2.2.1 1)), (2, .int a2), (3, .int a3), (5, .int a5)] rfl ?_
  refine j_iload E dX2_readSum_49 0 rfl ?_
  refine j_bipush E (v := 42) dX2_readSum_51 (by decide) ?_
  refine j_cmp_eq E 70 dX2_readSum_53 rfl ?_ ?_
  · exact j_sub [2, 3, 4, 5, 6, 0] (lv1 := [(0, .ref (g.2.2.1 20)), (1, .ref (g.2.2.1 1)), (2, .int a2), (3, .int a3), (5, .int a5), (6, .int t1)]) rfl (jxX2_readSum_70 hg N c_X2_readFactor E o_X2_readFactor K8 hK8 a2 a3 a5 t1 h2)
  · refine j_iload E dX2_readSum_56 0 rfl ?_
    refine j_bipush E (v := 47) dX2_readSum_58 (by decide) ?_
    refine j_cmp_eq E 70 dX2_readSum_60 rfl ?_ ?_
    · exact j_sub [2, 3, 4, 5, 6, 0] (lv1 := [(0, .ref (g.2.2.1 20)), (1, .ref (g.2.2.1 1)), (2, .int a2), (3, .int a3), (5, .int a5), (6, .int t1)]) rfl (jxX2_readSum_70 hg N c_X2_readFactor E o_X2_readFactor K8 hK8 a2 a3 a5 t1 h2)
    · refine j_iload E dX2_readSum_63 0 rfl ?_
      refine j_bipush E (v := 37) dX2_readSum_65 (by decide) ?_
      refine j_cmp_ne E 87 dX2_readSum_67 rfl ?_ ?_
      · refine j_iload_n E dX2_readSum_87 5 rfl ?_
        refine j_if_eq E 98 dX2_readSum_88 rfl ?_ ?_
        · exact j_sub [2, 3, 4, 1, 6, 0] (lv1 := [(0, .ref (g.2.2.1 20)), (1, .ref (g.2.2.1 1)), (2, .int a2), (4, .int 0), (5, .int a5), (6, .int t1)]) rfl (jxX2_readSum_98 hg N c_X2_readFactor E o_X2_readFactor K8 hK8 a2 0 a5 t1 h2)
        · refine j_aload_n E dX2_readSum_91 2 rfl ?_
          refine j_iload_n E dX2_readSum_92 5 rfl ?_
          refine j_iconst E (v := 0) dX2_readSum_93 (by decide) ?_
          refine j_callvI (As := [.int a3, .int 0]) (st := []) E (ok_X2_write hg E.2.2.2.2.2.2.2.1 a3 0 h2) (cX_20 hg) (cl_X2_77) (⟨by simp only [mX2_readSum, mX2_write]; omega, by simp only [mX2_readSum, mX2_write]; omega⟩) rfl rfl (Nat.le_of_ble_eq_true rfl) dX2_readSum_94 (fun t3 h4 => ?_)
          refine j_pop E dX2_readSum_97 rfl ?_
          exact j_sub [2, 3, 4, 1, 6, 0] (lv1 := [(0, .ref (g.2.2.1 20)), (1, .ref (g.2.2.1 1)), (2, .int a2), (4, .int 0), (5, .int a5), (6, .int t1)]) rfl (jxX2_readSum_98 hg N c_X2_readFactor E o_X2_readFactor K8 hK8 a2 0 a5 t1 h4)
      · exact j_sub [2, 3, 4, 5, 6, 0] (lv1 := [(0, .ref (g.2.2.1 20)), (1, .ref (g.2.2.1 1)), (2, .int a2), (3, .int a3), (5, .int a5), (6, .int t1)]) rfl (jxX2_readSum_70 hg N c_X2_readFactor E o_X2_readFactor K8 hK8 a2 a3 a5 t1 h2)
set_option maxRecDepth 20000 in
set_option maxHeartbeats 4000000 in
theorem jxX2_readSum_8 {g : GC} (hg : isGX g) {X : MX} {dp : Nat} (N : Nat) (c_X2_readFactor : Int32 → HP → Option (Int32 × HP)) (E : JE g (mX2_readSum (dp + 1)) X) (o_X2_readFactor : ∀ (q0 : Int32) (h : HP), Ok g yX2_readFactor (mX2_readFactor dp) [.ref (g.2.2.1 20), .ref (g.2.2.1 1), .int q0] h (c_X2_readFactor q0 h)) : ∀ (n : Nat) (a2 : Int32) (a3 : Int32) (a4 : Int32) (a5 : Int32) (h : HP), J g (mX2_readSum (dp + 1)) X 8 [(0, .ref (g.2.2.1 20)), (1, .ref (g.2.2.1 1)), (2, .int a2), (3, .int a3), (4, .int a4), (5, .int a5)] [] h (xX2_readSum_8 N c_X2_readFactor n a2 a3 a4 a5 h) := by
  intro n
  induction n with
  | zero => intro a2 a3 a4 a5 h; exact j_none
  | succ n ih =>
    intro a2 a3 a4 a5 h
    unfold xX2_readSum_8
    refine j_iload E dX2_readSum_8 5 rfl ?_
    refine j_sipush E (v := 240) dX2_readSum_10 (by decide) ?_
    refine j_cmp_ge E 133 dX2_readSum_13 rfl ?_ ?_
    · refine j_iconst E (v := 0) dX2_readSum_133 (by decide) ?_
      exact j_zreturn E rfl dX2_readSum_134
    · refine j_aload_n E dX2_readSum_16 0 rfl ?_
      refine j_aload_n E dX2_readSum_17 1 rfl ?_
      refine j_iload_n E dX2_readSum_18 2 rfl ?_
      refine j_callvI (As := [.ref (g.2.2.1 1), .int a2]) (st := []) E (o_X2_readFactor a2 h) (cX_20 hg) (cl_X2_85 dp) (rms_X2_readSum_X2_readFactor dp) rfl rfl (Nat.le_of_ble_eq_true rfl) dX2_readSum_19 (fun t1 h2 => ?_)
      refine j_if_ne E 27 dX2_readSum_22 rfl ?_ ?_
      · refine j_iload E dX2_readSum_27 4 rfl ?_
        refine j_if_eq E 40 dX2_readSum_29 rfl ?_ ?_
        · exact j_sub [0, 1, 2, 3, 5] (lv1 := [(0, .ref (g.2.2.1 20)), (1, .ref (g.2.2.1 1)), (2, .int a2), (3, .int a3), (5, .int a5)]) rfl (jxX2_readSum_40 hg N c_X2_readFactor E o_X2_readFactor (xX2_readSum_8 N c_X2_readFactor n) ih a2 a3 a5 h2)
        · refine j_aload_n E dX2_readSum_32 0 rfl ?_
          refine j_iload E dX2_readSum_33 4 rfl ?_
          refine j_iconst E (v := 0) dX2_readSum_35 (by decide) ?_
          refine j_callvI (As := [.int a4, .int 0]) (st := []) E (ok_X2_write hg E.2.2.2.2.2.2.2.1 a4 0 h2) (cX_20 hg) (cl_X2_77) (⟨by simp only [mX2_readSum, mX2_write]; omega, by simp only [mX2_readSum, mX2_write]; omega⟩) rfl rfl (Nat.le_of_ble_eq_true rfl) dX2_readSum_36 (fun t3 h4 => ?_)
          refine j_pop E dX2_readSum_39 rfl ?_
          exact j_sub [0, 1, 2, 3, 5] (lv1 := [(0, .ref (g.2.2.1 20)), (1, .ref (g.2.2.1 1)), (2, .int a2), (3, .int a3), (5, .int a5)]) rfl (jxX2_readSum_40 hg N c_X2_readFactor E o_X2_readFactor (xX2_readSum_8 N c_X2_readFactor n) ih a2 a3 a5 h4)
      · refine j_iconst E (v := 0) dX2_readSum_25 (by decide) ?_
        exact j_zreturn E rfl dX2_readSum_26
set_option maxRecDepth 20000 in
set_option maxHeartbeats 4000000 in
theorem jxX2_readSum {g : GC} (hg : isGX g) {X : MX} {dp : Nat} (N : Nat) (c_X2_readFactor : Int32 → HP → Option (Int32 × HP)) (E : JE g (mX2_readSum (dp + 1)) X) (o_X2_readFactor : ∀ (q0 : Int32) (h : HP), Ok g yX2_readFactor (mX2_readFactor dp) [.ref (g.2.2.1 20), .ref (g.2.2.1 1), .int q0] h (c_X2_readFactor q0 h)) (a2 : Int32) (h : HP) : J g (mX2_readSum (dp + 1)) X 0 [(0, .ref (g.2.2.1 20)), (1, .ref (g.2.2.1 1)), (2, .int a2)] [] h (xX2_readSum N c_X2_readFactor a2 h) := by
  unfold xX2_readSum
  refine j_iconst E (v := 0) dX2_readSum_0 (by decide) ?_
  refine j_istore0_n E dX2_readSum_1 (Nat.le_of_ble_eq_true rfl) [(3, .int 0), (0, .ref (g.2.2.1 20)), (1, .ref (g.2.2.1 1)), (2, .int a2)] rfl ?_
  refine j_iconst E (v := 0) dX2_readSum_2 (by decide) ?_
  refine j_istore0 E dX2_readSum_3 (Nat.le_of_ble_eq_true rfl) [(4, .int 0), (3, .int 0), (0, .ref (g.2.2.1 20)), (1, .ref (g.2.2.1 1)), (2, .int a2)] rfl ?_
  refine j_iconst E (v := 0) dX2_readSum_5 (by decide) ?_
  refine j_istore0 E dX2_readSum_6 (Nat.le_of_ble_eq_true rfl) [(5, .int 0), (4, .int 0), (3, .int 0), (0, .ref (g.2.2.1 20)), (1, .ref (g.2.2.1 1)), (2, .int a2)] rfl ?_
  exact j_sub [3, 4, 5, 2, 1, 0] (lv1 := [(0, .ref (g.2.2.1 20)), (1, .ref (g.2.2.1 1)), (2, .int a2), (3, .int 0), (4, .int 0), (5, .int 0)]) rfl (jxX2_readSum_8 hg N c_X2_readFactor E o_X2_readFactor N a2 0 0 0 h)
set_option maxRecDepth 20000 in
set_option maxHeartbeats 4000000 in
theorem jxX2_readFactor_62 {g : GC} (hg : isGX g) {X : MX} {dp : Nat} (N : Nat) (c_X2_readSum : Int32 → HP → Option (Int32 × HP)) (E : JE g (mX2_readFactor (dp + 1)) X) (o_X2_readSum : ∀ (q0 : Int32) (h : HP), Ok g yX2_readSum (mX2_readSum dp) [.ref (g.2.2.1 20), .ref (g.2.2.1 1), .int q0] h (c_X2_readSum q0 h)) (s0 : Int32) (h : HP) : J g (mX2_readFactor (dp + 1)) X 62 [] [.int s0] h (xX2_readFactor_62 N c_X2_readSum s0 h) := by
  unfold xX2_readFactor_62
  exact j_zreturn E rfl dX2_readFactor_62
set_option maxRecDepth 20000 in
set_option maxHeartbeats 4000000 in
theorem jxX2_readFactor_61 {g : GC} (hg : isGX g) {X : MX} {dp : Nat} (N : Nat) (c_X2_readSum : Int32 → HP → Option (Int32 × HP)) (E : JE g (mX2_readFactor (dp + 1)) X) (o_X2_readSum : ∀ (q0 : Int32) (h : HP), Ok g yX2_readSum (mX2_readSum dp) [.ref (g.2.2.1 20), .ref (g.2.2.1 1), .int q0] h (c_X2_readSum q0 h)) (h : HP) : J g (mX2_readFactor (dp + 1)) X 61 [] [] h (xX2_readFactor_61 N c_X2_readSum h) := by
  unfold xX2_readFactor_61
  refine j_iconst E (v := 0) dX2_readFactor_61 (by decide) ?_
  exact jxX2_readFactor_62 hg N c_X2_readSum E o_X2_readSum 0 h
set_option maxRecDepth 20000 in
set_option maxHeartbeats 4000000 in
theorem jxX2_readFactor_105 {g : GC} (hg : isGX g) {X : MX} {dp : Nat} (N : Nat) (c_X2_readSum : Int32 → HP → Option (Int32 × HP)) (E : JE g (mX2_readFactor (dp + 1)) X) (o_X2_readSum : ∀ (q0 : Int32) (h : HP), Ok g yX2_readSum (mX2_readSum dp) [.ref (g.2.2.1 20), .ref (g.2.2.1 1), .int q0] h (c_X2_readSum q0 h)) (s0 : Int32) (h : HP) : J g (mX2_readFactor (dp + 1)) X 105 [] [.int s0] h (xX2_readFactor_105 N c_X2_readSum s0 h) := by
  unfold xX2_readFactor_105
  exact j_zreturn E rfl dX2_readFactor_105
set_option maxRecDepth 20000 in
set_option maxHeartbeats 4000000 in
theorem jxX2_readFactor_104 {g : GC} (hg : isGX g) {X : MX} {dp : Nat} (N : Nat) (c_X2_readSum : Int32 → HP → Option (Int32 × HP)) (E : JE g (mX2_readFactor (dp + 1)) X) (o_X2_readSum : ∀ (q0 : Int32) (h : HP), Ok g yX2_readSum (mX2_readSum dp) [.ref (g.2.2.1 20), .ref (g.2.2.1 1), .int q0] h (c_X2_readSum q0 h)) (h : HP) : J g (mX2_readFactor (dp + 1)) X 104 [] [] h (xX2_readFactor_104 N c_X2_readSum h) := by
  unfold xX2_readFactor_104
  refine j_iconst E (v := 0) dX2_readFactor_104 (by decide) ?_
  exact jxX2_readFactor_105 hg N c_X2_readSum E o_X2_readSum 0 h
set_option maxRecDepth 20000 in
set_option maxHeartbeats 4000000 in
theorem jxX2_readFactor_149 {g : GC} (hg : isGX g) {X : MX} {dp : Nat} (N : Nat) (c_X2_readSum : Int32 → HP → Option (Int32 × HP)) (E : JE g (mX2_readFactor (dp + 1)) X) (o_X2_readSum : ∀ (q0 : Int32) (h : HP), Ok g yX2_readSum (mX2_readSum dp) [.ref (g.2.2.1 20), .ref (g.2.2.1 1), .int q0] h (c_X2_readSum q0 h)) (s0 : Int32) (h : HP) : J g (mX2_readFactor (dp + 1)) X 149 [] [.int s0] h (xX2_readFactor_149 N c_X2_readSum s0 h) := by
  unfold xX2_readFactor_149
  exact j_zreturn E rfl dX2_readFactor_149
set_option maxRecDepth 20000 in
set_option maxHeartbeats 4000000 in
theorem jxX2_readFactor_106 {g : GC} (hg : isGX g) {X : MX} {dp : Nat} (N : Nat) (c_X2_readSum : Int32 → HP → Option (Int32 × HP)) (E : JE g (mX2_readFactor (dp + 1)) X) (o_X2_readSum : ∀ (q0 : Int32) (h : HP), Ok g yX2_readSum (mX2_readSum dp) [.ref (g.2.2.1 20), .ref (g.2.2.1 1), .int q0] h (c_X2_readSum q0 h)) (a3 : Int32) (h : HP) : J g (mX2_readFactor (dp + 1)) X 106 [(0, .ref (g.2.2.1 20)), (1, .ref (g.2.2.1 1)), (3, .int a3)] [] h (xX2_readFactor_106 N c_X2_readSum a3 h) := by
  unfold xX2_readFactor_106
  refine j_iload_n E dX2_readFactor_106 2 rfl ?_
  refine j_callsI (As := [.int a3]) (st := []) E (ok_X2_isLetter hg E.2.2.2.2.2.2.2.1 N a3 h) (cl_X2_92) (⟨by simp only [mX2_readFactor, mX2_isLetter]; omega, by simp only [mX2_readFactor, mX2_isLetter]; omega⟩) rfl rfl (Nat.le_of_ble_eq_true rfl) dX2_readFactor_107 (fun t1 h2 => ?_)
  refine j_if_ne E 123 dX2_readFactor_110 rfl ?_ ?_
  · refine j_aload_n E dX2_readFactor_123 1 rfl ?_
    refine j_dup E dX2_readFactor_124 rfl ?_
    refine j_geti E f_X2_49 (cX_1 hg) rfl dX2_readFactor_125 ?_
    refine j_iconst E (v := 1) dX2_readFactor_128 (by decide) ?_
    refine j_iadd E dX2_readFactor_129 ?_
    refine j_puti E fp_X2_49 (cX_1 hg) rfl dX2_readFactor_130 (fun h3 => ?_)
    refine j_aload_n E dX2_readFactor_133 0 rfl ?_
    refine j_bipush E (v := 97) dX2_readFactor_134 (by decide) ?_
    refine j_iload_n E dX2_readFactor_136 2 rfl ?_
    refine j_callvI (As := [.int 97, .int a3]) (st := []) E (ok_X2_write hg E.2.2.2.2.2.2.2.1 97 a3 h3) (cX_20 hg) (cl_X2_77) (⟨by simp only [mX2_readFactor, mX2_write]; omega, by simp only [mX2_readFactor, mX2_write]; omega⟩) rfl rfl (Nat.le_of_ble_eq_true rfl) dX2_readFactor_137 (fun t4 h5 => ?_)
    refine j_iconst E (v := (-1)) dX2_readFactor_140 (by decide) ?_
    refine j_cmp_eq E 148 dX2_readFactor_141 rfl ?_ ?_
    · refine j_iconst E (v := 0) dX2_readFactor_148 (by decide) ?_
      exact j_sub [] (lv1 := []) rfl (jxX2_readFactor_149 hg N c_X2_readSum E o_X2_readSum 0 h5)
    · refine j_iconst E (v := 1) dX2_readFactor_144 (by decide) ?_
      refine j_goto E 149 dX2_readFactor_145 rfl ?_
      exact j_sub [] (lv1 := []) rfl (jxX2_readFactor_149 hg N c_X2_readSum E o_X2_readSum 1 h5)
  · refine j_aload_n E dX2_readFactor_113 1 rfl ?_
    refine j_iconst E (v := 1) dX2_readFactor_114 (by decide) ?_
    refine j_aload_n E dX2_readFactor_115 1 rfl ?_
    refine j_geti E f_X2_49 (cX_1 hg) rfl dX2_readFactor_116 ?_
    refine j_callvI (As := [.int 1, .int (h2.1 1 2)]) (st := []) E (ok_X7_refuse hg E.2.2.2.2.2.2.2.1 1 (h2.1 1 2) h2) (cX_1 hg) (cl_X2_52) (⟨by simp only [mX2_readFactor, mX7_refuse]; omega, by simp only [mX2_readFactor, mX7_refuse]; omega⟩) rfl rfl (Nat.le_of_ble_eq_true rfl) dX2_readFactor_119 (fun t6 h7 => ?_)
    exact j_zreturn E rfl dX2_readFactor_122
set_option maxRecDepth 20000 in
set_option maxHeartbeats 4000000 in
theorem jxX2_readFactor {g : GC} (hg : isGX g) {X : MX} {dp : Nat} (N : Nat) (c_X2_readSum : Int32 → HP → Option (Int32 × HP)) (E : JE g (mX2_readFactor (dp + 1)) X) (o_X2_readSum : ∀ (q0 : Int32) (h : HP), Ok g yX2_readSum (mX2_readSum dp) [.ref (g.2.2.1 20), .ref (g.2.2.1 1), .int q0] h (c_X2_readSum q0 h)) (a2 : Int32) (h : HP) : J g (mX2_readFactor (dp + 1)) X 0 [(0, .ref (g.2.2.1 20)), (1, .ref (g.2.2.1 1)), (2, .int a2)] [] h (xX2_readFactor N c_X2_readSum a2 h) := by
  unfold xX2_readFactor
  refine j_aload_n E dX2_readFactor_0 1 rfl ?_
  refine j_callvI (As := []) (st := []) E (ok_X7_peek hg E.2.2.2.2.2.2.2.1 h) (cX_1 hg) (cl_X2_43) (⟨by simp only [mX2_readFactor, mX7_peek]; omega, by simp only [mX2_readFactor, mX7_peek]; omega⟩) rfl rfl (Nat.le_of_ble_eq_true rfl) dX2_readFactor_1 (fun t1 h2 => ?_)
  refine j_istore0_n E dX2_readFactor_4 (Nat.le_of_ble_eq_true rfl) [(3, .int t1), (0, .ref (g.2.2.1 20)), (1, .ref (g.2.2.1 1)), (2, .int a2)] rfl ?_
  refine j_iload_n E dX2_readFactor_5 0 rfl ?_
  refine j_bipush E (v := 91) dX2_readFactor_6 (by decide) ?_
  refine j_cmp_ne E 63 dX2_readFactor_8 rfl ?_ ?_
  · refine j_iload_n E dX2_readFactor_63 0 rfl ?_
    refine j_bipush E (v := 48) dX2_readFactor_64 (by decide) ?_
    refine j_cmp_lt E 106 dX2_readFactor_66 rfl ?_ ?_
    · exact j_sub [1, 2, 0] (lv1 := [(0, .ref (g.2.2.1 20)), (1, .ref (g.2.2.1 1)), (3, .int t1)]) rfl (jxX2_readFactor_106 hg N c_X2_readSum E o_X2_readSum t1 h2)
    · refine j_iload_n E dX2_readFactor_69 0 rfl ?_
      refine j_bipush E (v := 57) dX2_readFactor_70 (by decide) ?_
      refine j_cmp_gt E 106 dX2_readFactor_72 rfl ?_ ?_
      · exact j_sub [1, 2, 0] (lv1 := [(0, .ref (g.2.2.1 20)), (1, .ref (g.2.2.1 1)), (3, .int t1)]) rfl (jxX2_readFactor_106 hg N c_X2_readSum E o_X2_readSum t1 h2)
      · refine j_aload_n E dX2_readFactor_75 2 rfl ?_
        refine j_iconst E (v := 5) dX2_readFactor_76 (by decide) ?_
        refine j_callvI (As := [.int 5]) (st := []) E (ok_X7_readNumber hg E.2.2.2.2.2.2.2.1 N 5 h2) (cX_1 hg) (cl_X2_88) (⟨by simp only [mX2_readFactor, mX7_readNumber]; omega, by simp only [mX2_readFactor, mX7_readNumber]; omega⟩) rfl rfl (Nat.le_of_ble_eq_true rfl) dX2_readFactor_77 (fun t3 h4 => ?_)
        refine j_istore0 E dX2_readFactor_80 (Nat.le_of_ble_eq_true rfl) [(4, .int t3), (3, .int t1), (0, .ref (g.2.2.1 20)), (1, .ref (g.2.2.1 1)), (2, .int a2)] rfl ?_
        refine j_iload E dX2_readFactor_82 0 rfl ?_
        refine j_iconst E (v := (-1)) dX2_readFactor_84 (by decide) ?_
        refine j_cmp_eq E 104 dX2_readFactor_85 rfl ?_ ?_
        · exact j_sub [] (lv1 := []) rfl (jxX2_readFactor_104 hg N c_X2_readSum E o_X2_readSum h4)
        · refine j_aload_n E dX2_readFactor_88 2 rfl ?_
          refine j_bipush E (v := 48) dX2_readFactor_89 (by decide) ?_
          refine j_iload E dX2_readFactor_91 0 rfl ?_
          refine j_callvI (As := [.int 48, .int t3]) (st := []) E (ok_X2_write hg E.2.2.2.2.2.2.2.1 48 t3 h4) (cX_20 hg) (cl_X2_77) (⟨by simp only [mX2_readFactor, mX2_write]; omega, by simp only [mX2_readFactor, mX2_write]; omega⟩) rfl rfl (Nat.le_of_ble_eq_true rfl) dX2_readFactor_93 (fun t5 h6 => ?_)
          refine j_iconst E (v := (-1)) dX2_readFactor_96 (by decide) ?_
          refine j_cmp_eq E 104 dX2_readFactor_97 rfl ?_ ?_
          · exact j_sub [] (lv1 := []) rfl (jxX2_readFactor_104 hg N c_X2_readSum E o_X2_readSum h6)
          · refine j_iconst E (v := 1) dX2_readFactor_100 (by decide) ?_
            refine j_goto E 105 dX2_readFactor_101 rfl ?_
            exact j_sub [] (lv1 := []) rfl (jxX2_readFactor_105 hg N c_X2_readSum E o_X2_readSum 1 h6)
  · refine j_iload_n E dX2_readFactor_11 3 rfl ?_
    refine j_bipush E (v := 6) dX2_readFactor_12 (by decide) ?_
    refine j_cmp_lt E 27 dX2_readFactor_14 rfl ?_ ?_
    · refine j_aload_n E dX2_readFactor_27 2 rfl ?_
      refine j_dup E dX2_readFactor_28 rfl ?_
      refine j_geti E f_X2_49 (cX_1 hg) rfl dX2_readFactor_29 ?_
      refine j_iconst E (v := 1) dX2_readFactor_32 (by decide) ?_
      refine j_iadd E dX2_readFactor_33 ?_
      refine j_puti E fp_X2_49 (cX_1 hg) rfl dX2_readFactor_34 (fun h7 => ?_)
      refine j_aload_n E dX2_readFactor_37 1 rfl ?_
      refine j_aload_n E dX2_readFactor_38 2 rfl ?_
      refine j_iload_n E dX2_readFactor_39 3 rfl ?_
      refine j_iconst E (v := 1) dX2_readFactor_40 (by decide) ?_
      refine j_iadd E dX2_readFactor_41 ?_
      refine j_callvI (As := [.ref (g.2.2.1 1), .int (a2 + 1)]) (st := []) E (o_X2_readSum (a2 + 1) h7) (cX_20 hg) (cl_X2_56 dp) (rms_X2_readFactor_X2_readSum dp) rfl rfl (Nat.le_of_ble_eq_true rfl) dX2_readFactor_42 (fun t8 h9 => ?_)
      refine j_if_eq E 61 dX2_readFactor_45 rfl ?_ ?_
      · exact j_sub [] (lv1 := []) rfl (jxX2_readFactor_61 hg N c_X2_readSum E o_X2_readSum h9)
      · refine j_aload_n E dX2_readFactor_48 2 rfl ?_
        refine j_bipush E (v := 93) dX2_readFactor_49 (by decide) ?_
        refine j_callvI (As := [.int 93]) (st := []) E (ok_X7_demands hg E.2.2.2.2.2.2.2.1 93 h9) (cX_1 hg) (cl_X2_60) (⟨by simp only [mX2_readFactor, mX7_demands]; omega, by simp only [mX2_readFactor, mX7_demands]; omega⟩) rfl rfl (Nat.le_of_ble_eq_true rfl) dX2_readFactor_51 (fun t10 h11 => ?_)
        refine j_if_eq E 61 dX2_readFactor_54 rfl ?_ ?_
        · exact j_sub [] (lv1 := []) rfl (jxX2_readFactor_61 hg N c_X2_readSum E o_X2_readSum h11)
        · refine j_iconst E (v := 1) dX2_readFactor_57 (by decide) ?_
          refine j_goto E 62 dX2_readFactor_58 rfl ?_
          exact j_sub [] (lv1 := []) rfl (jxX2_readFactor_62 hg N c_X2_readSum E o_X2_readSum 1 h11)
    · refine j_aload_n E dX2_readFactor_17 2 rfl ?_
      refine j_iconst E (v := 5) dX2_readFactor_18 (by decide) ?_
      refine j_aload_n E dX2_readFactor_19 2 rfl ?_
      refine j_geti E f_X2_49 (cX_1 hg) rfl dX2_readFactor_20 ?_
      refine j_callvI (As := [.int 5, .int (h2.1 1 2)]) (st := []) E (ok_X7_refuse hg E.2.2.2.2.2.2.2.1 5 (h2.1 1 2) h2) (cX_1 hg) (cl_X2_52) (⟨by simp only [mX2_readFactor, mX7_refuse]; omega, by simp only [mX2_readFactor, mX7_refuse]; omega⟩) rfl rfl (Nat.le_of_ble_eq_true rfl) dX2_readFactor_23 (fun t12 h13 => ?_)
      exact j_zreturn E rfl dX2_readFactor_26
set_option maxRecDepth 20000 in
set_option maxHeartbeats 4000000 in
theorem ok_rg0 {g : GC} (hg : isGX g) (hI : gI g) (N : Nat) : ∀ dp : Nat, (∀ (q0 : Int32) (h : HP), Ok g yX2_readCondition (mX2_readCondition dp) [.ref (g.2.2.1 20), .ref (g.2.2.1 1), .int q0] h (xr_X2_readCondition N dp q0 h)) ∧ (∀ (q0 : Int32) (h : HP), Ok g yX2_readTest (mX2_readTest dp) [.ref (g.2.2.1 20), .ref (g.2.2.1 1), .int q0] h (xr_X2_readTest N dp q0 h)) ∧ (∀ (q0 : Int32) (h : HP), Ok g yX2_readSum (mX2_readSum dp) [.ref (g.2.2.1 20), .ref (g.2.2.1 1), .int q0] h (xr_X2_readSum N dp q0 h)) ∧ (∀ (q0 : Int32) (h : HP), Ok g yX2_readFactor (mX2_readFactor dp) [.ref (g.2.2.1 20), .ref (g.2.2.1 1), .int q0] h (xr_X2_readFactor N dp q0 h)) := by
  intro dp
  induction dp with
  | zero =>
    refine ⟨?_, ?_, ?_, ?_⟩
    · intro q0 h r h1 e
      exact absurd e (by intro hq; cases hq)
    · intro q0 h r h1 e
      exact absurd e (by intro hq; cases hq)
    · intro q0 h r h1 e
      exact absurd e (by intro hq; cases hq)
    · intro q0 h r h1 e
      exact absurd e (by intro hq; cases hq)
  | succ dp ih =>
    obtain ⟨ih_X2_readCondition, ih_X2_readTest, ih_X2_readSum, ih_X2_readFactor⟩ := ih
    refine ⟨?_, ?_, ?_, ?_⟩
    · intro q0 h
      exact Ok.of hI (by decide) rfl (Nat.le_of_ble_eq_true rfl) (fun X E => jxX2_readCondition hg N ((rg0 N dp).2.1) E ih_X2_readTest q0 h)
    · intro q0 h
      exact Ok.of hI (by decide) rfl (Nat.le_of_ble_eq_true rfl) (fun X E => jxX2_readTest hg N ((rg0 N dp).1) ((rg0 N dp).2.2.1) E ih_X2_readCondition ih_X2_readSum q0 h)
    · intro q0 h
      exact Ok.of hI (by decide) rfl (Nat.le_of_ble_eq_true rfl) (fun X E => jxX2_readSum hg N ((rg0 N dp).2.2.2) E ih_X2_readFactor q0 h)
    · intro q0 h
      exact Ok.of hI (by decide) rfl (Nat.le_of_ble_eq_true rfl) (fun X E => jxX2_readFactor hg N ((rg0 N dp).2.2.1) E ih_X2_readSum q0 h)
theorem ok_X2_readCondition {g : GC} (hg : isGX g) (hI : gI g) (N dp : Nat) (a2 : Int32) (h : HP) : Ok g yX2_readCondition (mX2_readCondition dp) [.ref (g.2.2.1 20), .ref (g.2.2.1 1), .int a2] h (xr_X2_readCondition N dp a2 h) := (ok_rg0 hg hI N dp).1 a2 h
theorem ok_X2_readTest {g : GC} (hg : isGX g) (hI : gI g) (N dp : Nat) (a2 : Int32) (h : HP) : Ok g yX2_readTest (mX2_readTest dp) [.ref (g.2.2.1 20), .ref (g.2.2.1 1), .int a2] h (xr_X2_readTest N dp a2 h) := (ok_rg0 hg hI N dp).2.1 a2 h
