set_option maxRecDepth 20000 in
set_option maxHeartbeats 4000000 in
theorem jxX9_pairUp_64 {g : GC} (hg : isGX g) {X : MX} (N : Nat) (E : JE g mX9_pairUp X) (K15 : Int32 → Int32 → HP → Option (Int32 × HP)) (hK15 : ∀ (a1 : Int32) (a2 : Int32) (h : HP), J g mX9_pairUp X 15 [(0, .ref (g.2.2.1 52)), (1, .int a1), (2, .int a2)] [] h (K15 a1 a2 h)) (a1 : Int32) (a2 : Int32) (a3 : Int32) (s0 : Int32) (h : HP) : J g mX9_pairUp X 64 [(0, .ref (g.2.2.1 52)), (1, .int a1), (2, .int a2), (3, .int a3)] [.int s0] h (xX9_pairUp_64 N K15 a1 a2 a3 s0 h) := by
  unfold xX9_pairUp_64
  refine j_istore0 E dX9_pairUp_64 (Nat.le_of_ble_eq_true rfl) [(5, .int s0), (0, .ref (g.2.2.1 52)), (1, .int a1), (2, .int a2), (3, .int a3)] rfl ?_
  refine j_iload E dX9_pairUp_66 0 rfl ?_
  refine j_if_eq E 81 dX9_pairUp_68 rfl ?_ ?_
  · exact j_sub [1, 2, 3] (lv1 := [(0, .ref (g.2.2.1 52)), (1, .int a1), (2, .int a2)]) rfl (jxX9_pairUp_81 hg N E K15 hK15 a1 a2 h)
  · refine j_aload_n E dX9_pairUp_71 1 rfl ?_
    refine j_iload_n E dX9_pairUp_72 3 rfl ?_
    refine j_aload_n E dX9_pairUp_73 1 rfl ?_
    refine j_iload_n E dX9_pairUp_74 4 rfl ?_
    refine j_callvI (As := [.int a3]) (st := [.int a2, .ref (g.2.2.1 52)]) E (ok_X9_leastFor hg E.2.2.2.2.2.2.2.1 N a3 h) (cX_52 hg) (cl_X9_62) (⟨Nat.le_of_ble_eq_true rfl, Nat.le_of_ble_eq_true rfl⟩) rfl rfl (Nat.le_of_ble_eq_true rfl) dX9_pairUp_75 (fun t1 h2 => ?_)
    refine j_callvV (As := [.int a2, .int t1]) (st := []) E (ok_X9_setCost hg E.2.2.2.2.2.2.2.1 a2 t1 h2) (cX_52 hg) (cl_X9_65) (⟨Nat.le_of_ble_eq_true rfl, Nat.le_of_ble_eq_true rfl⟩) rfl rfl (Nat.le_of_ble_eq_true rfl) dX9_pairUp_78 (fun t3 h4 => ?_)
    exact j_sub [1, 2, 3] (lv1 := [(0, .ref (g.2.2.1 52)), (1, .int a1), (2, .int a2)]) rfl (jxX9_pairUp_81 hg N E K15 hK15 a1 a2 h4)
set_option maxRecDepth 20000 in
set_option maxHeartbeats 4000000 in
theorem jxX9_pairUp_59 {g : GC} (hg : isGX g) {X : MX} (N : Nat) (E : JE g mX9_pairUp X) (K15 : Int32 → Int32 → HP → Option (Int32 × HP)) (hK15 : ∀ (a1 : Int32) (a2 : Int32) (h : HP), J g mX9_pairUp X 15 [(0, .ref (g.2.2.1 52)), (1, .int a1), (2, .int a2)] [] h (K15 a1 a2 h)) (a1 : Int32) (a2 : Int32) (a3 : Int32) (h : HP) : J g mX9_pairUp X 59 [(0, .ref (g.2.2.1 52)), (1, .int a1), (2, .int a2), (3, .int a3)] [] h (xX9_pairUp_59 N K15 a1 a2 a3 h) := by
  unfold xX9_pairUp_59
  refine j_iconst E (v := 1) dX9_pairUp_59 (by decide) ?_
  refine j_goto E 64 dX9_pairUp_60 rfl ?_
  exact jxX9_pairUp_64 hg N E K15 hK15 a1 a2 a3 1 h
set_option maxRecDepth 20000 in
set_option maxHeartbeats 4000000 in
theorem jxX9_pairUp_15 {g : GC} (hg : isGX g) {X : MX} (N : Nat) (E : JE g mX9_pairUp X) : ∀ (n : Nat) (a1 : Int32) (a2 : Int32) (h : HP), J g mX9_pairUp X 15 [(0, .ref (g.2.2.1 52)), (1, .int a1), (2, .int a2)] [] h (xX9_pairUp_15 N n a1 a2 h) := by
  intro n
  induction n with
  | zero => intro a1 a2 h; exact j_none
  | succ n ih =>
    intro a1 a2 h
    unfold xX9_pairUp_15
    refine j_iload_n E dX9_pairUp_15 2 rfl ?_
    refine j_iload_n E dX9_pairUp_16 1 rfl ?_
    refine j_cmp_ge E 87 dX9_pairUp_17 rfl ?_ ?_
    · refine j_aload_n E dX9_pairUp_87 0 rfl ?_
      refine j_iload_n E dX9_pairUp_88 1 rfl ?_
      refine j_iconst E (v := 1) dX9_pairUp_89 (by decide) ?_
      refine j_isub E dX9_pairUp_90 ?_
      refine j_callvI (As := [.int (a1 - 1)]) (st := []) E (ok_X9_costOf hg E.2.2.2.2.2.2.2.1 (a1 - 1) h) (cX_52 hg) (cl_X9_69) (⟨Nat.le_of_ble_eq_true rfl, Nat.le_of_ble_eq_true rfl⟩) rfl rfl (Nat.le_of_ble_eq_true rfl) dX9_pairUp_91 (fun t1 h2 => ?_)
      exact j_ireturn E rfl dX9_pairUp_94
    · refine j_iload_n E dX9_pairUp_20 2 rfl ?_
      refine j_iconst E (v := 1) dX9_pairUp_21 (by decide) ?_
      refine j_ishl E dX9_pairUp_22 ?_
      refine j_iload_n E dX9_pairUp_23 2 rfl ?_
      refine j_callsI (As := [.int a2]) (st := [.int (a2 <<< (1 &&& 31))]) E (ok_J6_bitCount_0f7a4 hg E.2.2.2.2.2.2.2.1 a2 h) (cl_X9_57) (⟨Nat.le_of_ble_eq_true rfl, Nat.le_of_ble_eq_true rfl⟩) rfl rfl (Nat.le_of_ble_eq_true rfl) dX9_pairUp_24 (fun t3 h4 => ?_)
      refine j_iconst E (v := 1) dX9_pairUp_27 (by decide) ?_
      refine j_iand E dX9_pairUp_28 ?_
      refine j_ior E dX9_pairUp_29 ?_
      refine j_istore_n E dX9_pairUp_30 (Nat.le_of_ble_eq_true rfl) (fun v5 => [(3, .int v5), (0, .ref (g.2.2.1 52)), (1, .int a1), (2, .int a2)]) (fun _ => rfl) (fun v5 => ?_)
      refine j_aload_n E dX9_pairUp_31 1 rfl ?_
      refine j_geti E f_X9_36 (cX_52 hg) rfl dX9_pairUp_32 ?_
      refine j_iload_n E dX9_pairUp_35 0 rfl ?_
      refine j_callsI (As := [.int v5]) (st := [.int (h4.1 52 5)]) E (ok_J6_bitCount_0f7a4 hg E.2.2.2.2.2.2.2.1 v5 h4) (cl_X9_57) (⟨Nat.le_of_ble_eq_true rfl, Nat.le_of_ble_eq_true rfl⟩) rfl rfl (Nat.le_of_ble_eq_true rfl) dX9_pairUp_36 (fun t6 h7 => ?_)
      refine j_isub E dX9_pairUp_39 ?_
      refine j_istore E dX9_pairUp_40 (Nat.le_of_ble_eq_true rfl) (fun v8 => [(4, .int v8), (3, .int v5), (0, .ref (g.2.2.1 52)), (1, .int a1), (2, .int a2)]) (fun _ => rfl) (fun v8 => ?_)
      refine j_iload_n E dX9_pairUp_42 1 rfl ?_
      refine j_if_eq E 59 dX9_pairUp_43 rfl ?_ ?_
      · exact j_sub [2, 3, 4, 1] (lv1 := [(0, .ref (g.2.2.1 52)), (1, .int a1), (2, .int a2), (3, .int v5)]) rfl (jxX9_pairUp_59 hg N E (xX9_pairUp_15 N n) ih a1 a2 v5 h7)
      · refine j_iload_n E dX9_pairUp_46 1 rfl ?_
        refine j_iload_n E dX9_pairUp_47 1 rfl ?_
        refine j_ineg E dX9_pairUp_48 ?_
        refine j_iand E dX9_pairUp_49 ?_
        refine j_iconst E (v := 1) dX9_pairUp_50 (by decide) ?_
        refine j_iload E dX9_pairUp_51 0 rfl ?_
        refine j_iconst E (v := 2) dX9_pairUp_53 (by decide) ?_
        refine j_idivc E (by decide) dX9_pairUp_54 ?_
        refine j_ishl E dX9_pairUp_55 ?_
        refine j_cmp_lt E 63 dX9_pairUp_56 rfl ?_ ?_
        · refine j_iconst E (v := 0) dX9_pairUp_63 (by decide) ?_
          exact j_sub [2, 3, 4, 1] (lv1 := [(0, .ref (g.2.2.1 52)), (1, .int a1), (2, .int a2), (3, .int v5)]) rfl (jxX9_pairUp_64 hg N E (xX9_pairUp_15 N n) ih a1 a2 v5 0 h7)
        · exact j_sub [2, 3, 4, 1] (lv1 := [(0, .ref (g.2.2.1 52)), (1, .int a1), (2, .int a2), (3, .int v5)]) rfl (jxX9_pairUp_59 hg N E (xX9_pairUp_15 N n) ih a1 a2 v5 h7)
set_option maxRecDepth 20000 in
set_option maxHeartbeats 4000000 in
theorem jxX9_pairUp {g : GC} (hg : isGX g) {X : MX} (N : Nat) (E : JE g mX9_pairUp X) (h : HP) : J g mX9_pairUp X 0 [(0, .ref (g.2.2.1 52))] [] h (xX9_pairUp N h) := by
  unfold xX9_pairUp
  refine j_aload_n E dX9_pairUp_0 0 rfl ?_
  refine j_callvV (As := []) (st := []) E (ok_X9_measureOdds hg E.2.2.2.2.2.2.2.1 N h) (cX_52 hg) (cl_X9_54) (⟨Nat.le_of_ble_eq_true rfl, Nat.le_of_ble_eq_true rfl⟩) rfl rfl (Nat.le_of_ble_eq_true rfl) dX9_pairUp_1 (fun t1 h2 => ?_)
  refine j_iconst E (v := 1) dX9_pairUp_4 (by decide) ?_
  refine j_aload_n E dX9_pairUp_5 0 rfl ?_
  refine j_geti E f_X9_36 (cX_52 hg) rfl dX9_pairUp_6 ?_
  refine j_iconst E (v := 1) dX9_pairUp_9 (by decide) ?_
  refine j_isub E dX9_pairUp_10 ?_
  refine j_ishl E dX9_pairUp_11 ?_
  refine j_istore_n E dX9_pairUp_12 (Nat.le_of_ble_eq_true rfl) (fun v3 => [(1, .int v3), (0, .ref (g.2.2.1 52))]) (fun _ => rfl) (fun v3 => ?_)
  refine j_iconst E (v := 0) dX9_pairUp_13 (by decide) ?_
  refine j_istore0_n E dX9_pairUp_14 (Nat.le_of_ble_eq_true rfl) [(2, .int 0), (1, .int v3), (0, .ref (g.2.2.1 52))] rfl ?_
  exact j_sub [2, 1, 0] (lv1 := [(0, .ref (g.2.2.1 52)), (1, .int v3), (2, .int 0)]) rfl (jxX9_pairUp_15 hg N E N v3 0 h2)
theorem ok_X9_pairUp {g : GC} (hg : isGX g) (hI : gI g) (N : Nat) (h : HP) : Ok g yX9_pairUp mX9_pairUp [.ref (g.2.2.1 52)] h (xX9_pairUp N h) := Ok.of hI (by decide) rfl (Nat.le_of_ble_eq_true rfl) (fun X E => jxX9_pairUp hg N E h)
set_option maxRecDepth 20000 in
set_option maxHeartbeats 4000000 in
theorem jxX9_paintAll_84 {g : GC} (hg : isGX g) {X : MX} (N : Nat) (E : JE g mX9_paintAll X) (K20 : Int32 → Int32 → Int32 → Int32 → HP → Option (Int32 × HP)) (hK20 : ∀ (a2 : Int32) (a3 : Int32) (a4 : Int32) (a5 : Int32) (h : HP), J g mX9_paintAll X 20 [(0, .ref (g.2.2.1 52)), (2, .int a2), (3, .int a3), (4, .int a4), (5, .int a5)] [] h (K20 a2 a3 a4 a5 h)) (a2 : Int32) (a3 : Int32) (a4 : Int32) (a5 : Int32) (h : HP) : J g mX9_paintAll X 84 [(0, .ref (g.2.2.1 52)), (2, .int a2), (3, .int a3), (4, .int a4), (5, .int a5)] [] h (xX9_paintAll_84 N K20 a2 a3 a4 a5 h) := by
  unfold xX9_paintAll_84
  refine j_iinc E (c := 1) dX9_paintAll_84 4 rfl (by decide) (Nat.le_of_ble_eq_true rfl) (fun v1 => [(5, .int v1), (0, .ref (g.2.2.1 52)), (2, .int a2), (3, .int a3), (4, .int a4)]) (fun _ => rfl) (fun v1 => ?_)
  refine j_goto E 20 dX9_paintAll_87 rfl ?_
  exact j_sub [1, 2, 3, 4, 0] (lv1 := [(0, .ref (g.2.2.1 52)), (2, .int a2), (3, .int a3), (4, .int a4), (5, .int v1)]) rfl (hK20 a2 a3 a4 v1 h)
set_option maxRecDepth 20000 in
set_option maxHeartbeats 4000000 in
theorem jxX9_paintAll_109 {g : GC} (hg : isGX g) {X : MX} (N : Nat) (E : JE g mX9_paintAll X) (s0 : Int32) (s1 : Int32) (h : HP) : J g mX9_paintAll X 109 [] [.int s1, .int s0] h (xX9_paintAll_109 N s0 s1 h) := by
  unfold xX9_paintAll_109
  refine j_iadd E dX9_paintAll_109 ?_
  exact j_ireturn E rfl dX9_paintAll_110
set_option maxRecDepth 20000 in
set_option maxHeartbeats 4000000 in
theorem jxX9_paintAll_20 {g : GC} (hg : isGX g) {X : MX} (N : Nat) (E : JE g mX9_paintAll X) : ∀ (n : Nat) (a2 : Int32) (a3 : Int32) (a4 : Int32) (a5 : Int32) (h : HP), J g mX9_paintAll X 20 [(0, .ref (g.2.2.1 52)), (2, .int a2), (3, .int a3), (4, .int a4), (5, .int a5)] [] h (xX9_paintAll_20 N n a2 a3 a4 a5 h) := by
  intro n
  induction n with
  | zero => intro a2 a3 a4 a5 h; exact j_none
  | succ n ih =>
    intro a2 a3 a4 a5 h
    unfold xX9_paintAll_20
    refine j_iload E dX9_paintAll_20 4 rfl ?_
    refine j_bipush E (v := 16) dX9_paintAll_22 (by decide) ?_
    refine j_cmp_ge E 90 dX9_paintAll_24 rfl ?_ ?_
    · refine j_iload E dX9_paintAll_90 3 rfl ?_
      refine j_iconst E (v := 2) dX9_paintAll_92 (by decide) ?_
      refine j_idivc E (by decide) dX9_paintAll_93 ?_
      refine j_aload_n E dX9_paintAll_94 0 rfl ?_
      refine j_geti E f_X9_36 (cX_52 hg) rfl dX9_paintAll_95 ?_
      refine j_if_ne E 105 dX9_paintAll_98 rfl ?_ ?_
      · refine j_aload_n E dX9_paintAll_105 0 rfl ?_
        refine j_callvI (As := []) (st := [.int (a4 / 2)]) E (ok_X9_pairUp hg E.2.2.2.2.2.2.2.1 N h) (cX_52 hg) (cl_X9_50) (⟨Nat.le_of_ble_eq_true rfl, Nat.le_of_ble_eq_true rfl⟩) rfl rfl (Nat.le_of_ble_eq_true rfl) dX9_paintAll_106 (fun t1 h2 => ?_)
        exact j_sub [] (lv1 := []) rfl (jxX9_paintAll_109 hg N E (a4 / 2) t1 h2)
      · refine j_iconst E (v := 0) dX9_paintAll_101 (by decide) ?_
        refine j_goto E 109 dX9_paintAll_102 rfl ?_
        exact j_sub [] (lv1 := []) rfl (jxX9_paintAll_109 hg N E (a4 / 2) 0 h)
    · refine j_iload_n E dX9_paintAll_27 2 rfl ?_
      refine j_iload E dX9_paintAll_28 4 rfl ?_
      refine j_callnI (As := [.int a3, .int a5]) (st := []) E (ok_X10_hasBit hg E.2.2.2.2.2.2.2.1 a3 a5 h) (cl_X9_40) (⟨Nat.le_of_ble_eq_true rfl, Nat.le_of_ble_eq_true rfl⟩) rfl rfl (Nat.le_of_ble_eq_true rfl) dX9_paintAll_30 (fun t3 h4 => ?_)
      refine j_if_eq E 84 dX9_paintAll_33 rfl ?_ ?_
      · exact jxX9_paintAll_84 hg N E (xX9_paintAll_20 N n) ih a2 a3 a4 a5 h4
      · refine j_aload_n E dX9_paintAll_36 0 rfl ?_
        refine j_getr E f_X9_22 (cX_52 hg) 3 rfl dX9_paintAll_37 ?_
        refine j_iload E dX9_paintAll_40 4 rfl ?_
        refine j_iload_n E dX9_paintAll_42 1 rfl ?_
        refine j_callvI (As := [.int a5, .int a2]) (st := []) E (ok_X6_openPipesOf hg E.2.2.2.2.2.2.2.1 N a5 a2 h4) (cX_3 hg) (cl_X9_44) (⟨Nat.le_of_ble_eq_true rfl, Nat.le_of_ble_eq_true rfl⟩) rfl rfl (Nat.le_of_ble_eq_true rfl) dX9_paintAll_43 (fun t5 h6 => ?_)
        refine j_istore0 E dX9_paintAll_46 (Nat.le_of_ble_eq_true rfl) [(6, .int t5), (0, .ref (g.2.2.1 52)), (2, .int a2), (3, .int a3), (4, .int a4), (5, .int a5)] rfl ?_
        refine j_iload E dX9_paintAll_48 4 rfl ?_
        refine j_iload E dX9_paintAll_50 0 rfl ?_
        refine j_iadd E dX9_paintAll_52 ?_
        refine j_istore E dX9_paintAll_53 (Nat.le_of_ble_eq_true rfl) (fun v7 => [(4, .int v7), (6, .int t5), (0, .ref (g.2.2.1 52)), (2, .int a2), (3, .int a3), (5, .int a5)]) (fun _ => rfl) (fun v7 => ?_)
        refine j_iload E dX9_paintAll_55 1 rfl ?_
        refine j_iconst E (v := 2) dX9_paintAll_57 (by decide) ?_
        refine j_rem2 E (by decide) dX9_paintAll_58 ?_
        refine j_iconst E (v := 1) dX9_paintAll_59 (by decide) ?_
        refine j_cmp_ne E 84 dX9_paintAll_60 rfl ?_ ?_
        · exact j_sub [2, 3, 4, 0, 5] (lv1 := [(0, .ref (g.2.2.1 52)), (2, .int a2), (3, .int a3), (4, .int v7), (5, .int a5)]) rfl (jxX9_paintAll_84 hg N E (xX9_paintAll_20 N n) ih a2 a3 v7 a5 h6)
        · refine j_aload_n E dX9_paintAll_63 2 rfl ?_
          refine j_getr E f_X9_9 (cX_52 hg) 53 rfl dX9_paintAll_64 ?_
          refine j_aload_n E dX9_paintAll_67 2 rfl ?_
          refine j_geti E f_X9_36 (cX_52 hg) rfl dX9_paintAll_68 ?_
          refine j_iload E dX9_paintAll_71 5 rfl ?_
          refine j_iast E (cX_53 hg) dX9_paintAll_73 (fun h8 => ?_)
          refine j_aload_n E dX9_paintAll_74 2 rfl ?_
          refine j_dup E dX9_paintAll_75 rfl ?_
          refine j_geti E f_X9_36 (cX_52 hg) rfl dX9_paintAll_76 ?_
          refine j_iconst E (v := 1) dX9_paintAll_79 (by decide) ?_
          refine j_iadd E dX9_paintAll_80 ?_
          refine j_puti E fp_X9_36 (cX_52 hg) rfl dX9_paintAll_81 (fun h9 => ?_)
          exact j_sub [2, 3, 4, 0, 5] (lv1 := [(0, .ref (g.2.2.1 52)), (2, .int a2), (3, .int a3), (4, .int v7), (5, .int a5)]) rfl (jxX9_paintAll_84 hg N E (xX9_paintAll_20 N n) ih a2 a3 v7 a5 h9)
set_option maxRecDepth 20000 in
set_option maxHeartbeats 4000000 in
theorem jxX9_paintAll {g : GC} (hg : isGX g) {X : MX} (N : Nat) (E : JE g mX9_paintAll X) (a1 : Int32) (a2 : Int32) (h : HP) : J g mX9_paintAll X 0 [(0, .ref (g.2.2.1 52)), (1, .int a1), (2, .int a2)] [] h (xX9_paintAll N a1 a2 h) := by
  unfold xX9_paintAll
  refine j_aload_n E dX9_paintAll_0 0 rfl ?_
  refine j_getr E f_X9_26 (cX_52 hg) 45 rfl dX9_paintAll_1 ?_
  refine j_iload_n E dX9_paintAll_4 1 rfl ?_
  refine j_callvI (As := [.int a1]) (st := []) E (ok_X3_measureFrom hg E.2.2.2.2.2.2.2.1 N a1 h) (cX_45 hg) (cl_X9_30) (⟨Nat.le_of_ble_eq_true rfl, Nat.le_of_ble_eq_true rfl⟩) rfl rfl (Nat.le_of_ble_eq_true rfl) dX9_paintAll_5 (fun t1 h2 => ?_)
  refine j_istore0_n E dX9_paintAll_8 (Nat.le_of_ble_eq_true rfl) [(3, .int t1), (0, .ref (g.2.2.1 52)), (1, .int a1), (2, .int a2)] rfl ?_
  refine j_iconst E (v := 0) dX9_paintAll_9 (by decide) ?_
  refine j_istore0 E dX9_paintAll_10 (Nat.le_of_ble_eq_true rfl) [(4, .int 0), (3, .int t1), (0, .ref (g.2.2.1 52)), (1, .int a1), (2, .int a2)] rfl ?_
  refine j_aload_n E dX9_paintAll_12 2 rfl ?_
  refine j_iconst E (v := 0) dX9_paintAll_13 (by decide) ?_
  refine j_puti E fp_X9_36 (cX_52 hg) rfl dX9_paintAll_14 (fun h3 => ?_)
  refine j_iconst E (v := 0) dX9_paintAll_17 (by decide) ?_
  refine j_istore0 E dX9_paintAll_18 (Nat.le_of_ble_eq_true rfl) [(5, .int 0), (4, .int 0), (3, .int t1), (0, .ref (g.2.2.1 52)), (1, .int a1), (2, .int a2)] rfl ?_
  exact j_sub [3, 5, 2, 1, 0] (lv1 := [(0, .ref (g.2.2.1 52)), (2, .int a2), (3, .int t1), (4, .int 0), (5, .int 0)]) rfl (jxX9_paintAll_20 hg N E N a2 t1 0 0 h3)
theorem ok_X9_paintAll {g : GC} (hg : isGX g) (hI : gI g) (N : Nat) (a1 : Int32) (a2 : Int32) (h : HP) : Ok g yX9_paintAll mX9_paintAll [.ref (g.2.2.1 52), .int a1, .int a2] h (xX9_paintAll N a1 a2 h) := Ok.of hI (by decide) rfl (Nat.le_of_ble_eq_true rfl) (fun X E => jxX9_paintAll hg N E a1 a2 h)
set_option maxRecDepth 20000 in
set_option maxHeartbeats 4000000 in
theorem jxX9_goOn_53 {g : GC} (hg : isGX g) {X : MX} {dp : Nat} (N : Nat) (c_X9_goOn : Int32 → Int32 → Int32 → HP → Option (Int32 × HP)) (E : JE g (mX9_goOn (dp + 1)) X) (o_X9_goOn : ∀ (q0 q1 q2 : Int32) (h : HP), Ok g yX9_goOn (mX9_goOn dp) [.ref (g.2.2.1 52), .int q0, .int q1, .int q2] h (c_X9_goOn q0 q1 q2 h)) (h : HP) : J g (mX9_goOn (dp + 1)) X 53 [] [] h (xX9_goOn_53 N c_X9_goOn h) := by
  unfold xX9_goOn_53
  exact j_vreturn E rfl dX9_goOn_53
set_option maxRecDepth 20000 in
set_option maxHeartbeats 4000000 in
theorem jxX9_goOn_121 {g : GC} (hg : isGX g) {X : MX} {dp : Nat} (N : Nat) (c_X9_goOn : Int32 → Int32 → Int32 → HP → Option (Int32 × HP)) (E : JE g (mX9_goOn (dp + 1)) X) (o_X9_goOn : ∀ (q0 q1 q2 : Int32) (h : HP), Ok g yX9_goOn (mX9_goOn dp) [.ref (g.2.2.1 52), .int q0, .int q1, .int q2] h (c_X9_goOn q0 q1 q2 h)) (h : HP) : J g (mX9_goOn (dp + 1)) X 121 [] [] h (xX9_goOn_121 N c_X9_goOn h) := by
  unfold xX9_goOn_121
  exact j_vreturn E rfl dX9_goOn_121
set_option maxRecDepth 20000 in
set_option maxHeartbeats 4000000 in
theorem jxX9_goOn_70 {g : GC} (hg : isGX g) {X : MX} {dp : Nat} (N : Nat) (c_X9_goOn : Int32 → Int32 → Int32 → HP → Option (Int32 × HP)) (E : JE g (mX9_goOn (dp + 1)) X) (o_X9_goOn : ∀ (q0 q1 q2 : Int32) (h : HP), Ok g yX9_goOn (mX9_goOn dp) [.ref (g.2.2.1 52), .int q0, .int q1, .int q2] h (c_X9_goOn q0 q1 q2 h)) : ∀ (n : Nat) (a2 : Int32) (a3 : Int32) (a4 : Int32) (a5 : Int32) (h : HP), J g (mX9_goOn (dp + 1)) X 70 [(0, .ref (g.2.2.1 52)), (2, .int a2), (3, .int a3), (4, .int a4), (5, .int a5)] [] h (xX9_goOn_70 N c_X9_goOn n a2 a3 a4 a5 h) := by
  intro n
  induction n with
  | zero => intro a2 a3 a4 a5 h; exact j_none
  | succ n ih =>
    intro a2 a3 a4 a5 h
    unfold xX9_goOn_70
    refine j_iload E dX9_goOn_70 4 rfl ?_
    refine j_bipush E (v := 16) dX9_goOn_72 (by decide) ?_
    refine j_cmp_ge E 121 dX9_goOn_74 rfl ?_ ?_
    · exact j_sub [] (lv1 := []) rfl (jxX9_goOn_121 hg N c_X9_goOn E o_X9_goOn h)
    · refine j_iload E dX9_goOn_77 3 rfl ?_
      refine j_if_eq E 121 dX9_goOn_79 rfl ?_ ?_
      · exact j_sub [] (lv1 := []) rfl (jxX9_goOn_121 hg N c_X9_goOn E o_X9_goOn h)
      · refine j_iload E dX9_goOn_82 3 rfl ?_
        refine j_callnI (As := [.int a4]) (st := []) E (ok_X10_lowest hg E.2.2.2.2.2.2.2.1 a4 h) (cl_X9_75) (⟨by simp only [mX9_goOn, mX10_lowest]; omega, by simp only [mX9_goOn, mX10_lowest]; omega⟩) rfl rfl (Nat.le_of_ble_eq_true rfl) dX9_goOn_84 (fun t1 h2 => ?_)
        refine j_istore0 E dX9_goOn_87 (Nat.le_of_ble_eq_true rfl) [(6, .int t1), (0, .ref (g.2.2.1 52)), (2, .int a2), (3, .int a3), (4, .int a4), (5, .int a5)] rfl ?_
        refine j_iload E dX9_goOn_89 4 rfl ?_
        refine j_iload E dX9_goOn_91 4 rfl ?_
        refine j_iconst E (v := 1) dX9_goOn_93 (by decide) ?_
        refine j_isub E dX9_goOn_94 ?_
        refine j_iand E dX9_goOn_95 ?_
        refine j_istore E dX9_goOn_96 (Nat.le_of_ble_eq_true rfl) (fun v3 => [(4, .int v3), (6, .int t1), (0, .ref (g.2.2.1 52)), (2, .int a2), (3, .int a3), (5, .int a5)]) (fun _ => rfl) (fun v3 => ?_)
        refine j_aload_n E dX9_goOn_98 2 rfl ?_
        refine j_iload E dX9_goOn_99 1 rfl ?_
        refine j_iload_n E dX9_goOn_101 3 rfl ?_
        refine j_iconst E (v := 1) dX9_goOn_102 (by decide) ?_
        refine j_iload E dX9_goOn_103 1 rfl ?_
        refine j_ishl E dX9_goOn_105 ?_
        refine j_iconst E (v := (-1)) dX9_goOn_106 (by decide) ?_
        refine j_ixor E dX9_goOn_107 ?_
        refine j_iand E dX9_goOn_108 ?_
        refine j_iload_n E dX9_goOn_109 4 rfl ?_
        refine j_iconst E (v := 1) dX9_goOn_110 (by decide) ?_
        refine j_iadd E dX9_goOn_111 ?_
        refine j_callsV (As := [.ref (g.2.2.1 52), .int t1, .int (a2 &&& ((1 <<< (t1 &&& 31)) ^^^ (-1))), .int (a3 + 1)]) (st := []) E (o_X9_goOn t1 (a2 &&& ((1 <<< (t1 &&& 31)) ^^^ (-1))) (a3 + 1) h2) (cl_X9_93 dp) (rms_X9_goOn_X9_goOn dp) rfl rfl (Nat.le_of_ble_eq_true rfl) dX9_goOn_112 (fun t4 h5 => ?_)
        refine j_iinc E (c := 1) dX9_goOn_115 5 rfl (by decide) (Nat.le_of_ble_eq_true rfl) (fun v6 => [(5, .int v6), (4, .int v3), (6, .int t1), (0, .ref (g.2.2.1 52)), (2, .int a2), (3, .int a3)]) (fun _ => rfl) (fun v6 => ?_)
        refine j_goto E 70 dX9_goOn_118 rfl ?_
        exact j_sub [3, 4, 5, 1, 0] (lv1 := [(0, .ref (g.2.2.1 52)), (2, .int a2), (3, .int a3), (4, .int v3), (5, .int v6)]) rfl (ih a2 a3 v3 v6 h5)
set_option maxRecDepth 20000 in
set_option maxHeartbeats 4000000 in
theorem jxX9_goOn_34 {g : GC} (hg : isGX g) {X : MX} {dp : Nat} (N : Nat) (c_X9_goOn : Int32 → Int32 → Int32 → HP → Option (Int32 × HP)) (E : JE g (mX9_goOn (dp + 1)) X) (o_X9_goOn : ∀ (q0 q1 q2 : Int32) (h : HP), Ok g yX9_goOn (mX9_goOn dp) [.ref (g.2.2.1 52), .int q0, .int q1, .int q2] h (c_X9_goOn q0 q1 q2 h)) (a1 : Int32) (a2 : Int32) (a3 : Int32) (h : HP) : J g (mX9_goOn (dp + 1)) X 34 [(0, .ref (g.2.2.1 52)), (1, .int a1), (2, .int a2), (3, .int a3)] [] h (xX9_goOn_34 N c_X9_goOn a1 a2 a3 h) := by
  unfold xX9_goOn_34
  refine j_iload_n E dX9_goOn_34 3 rfl ?_
  refine j_bipush E (v := 16) dX9_goOn_35 (by decide) ?_
  refine j_cmp_ge E 53 dX9_goOn_37 rfl ?_ ?_
  · exact j_sub [] (lv1 := []) rfl (jxX9_goOn_53 hg N c_X9_goOn E o_X9_goOn h)
  · refine j_iload_n E dX9_goOn_40 3 rfl ?_
    refine j_iload_n E dX9_goOn_41 2 rfl ?_
    refine j_callsI (As := [.int a2]) (st := [.int a3]) E (ok_J6_bitCount_0f7a4 hg E.2.2.2.2.2.2.2.1 a2 h) (cl_X9_57) (⟨by simp only [mX9_goOn, mJ6_bitCount_0f7a4]; omega, by simp only [mX9_goOn, mJ6_bitCount_0f7a4]; omega⟩) rfl rfl (Nat.le_of_ble_eq_true rfl) dX9_goOn_42 (fun t1 h2 => ?_)
    refine j_iadd E dX9_goOn_45 ?_
    refine j_aload_n E dX9_goOn_46 0 rfl ?_
    refine j_geti E f_X9_87 (cX_52 hg) rfl dX9_goOn_47 ?_
    refine j_cmp_ge E 54 dX9_goOn_50 rfl ?_ ?_
    · refine j_aload_n E dX9_goOn_54 0 rfl ?_
      refine j_getr E f_X9_26 (cX_52 hg) 45 rfl dX9_goOn_55 ?_
      refine j_getr E f_X9_97 (cX_45 hg) 46 rfl dX9_goOn_58 ?_
      refine j_iload_n E dX9_goOn_61 1 rfl ?_
      refine j_iald E (cX_46 hg) dX9_goOn_62 (fun t3 => ?_)
      refine j_iload_n E dX9_goOn_63 2 rfl ?_
      refine j_iand E dX9_goOn_64 ?_
      refine j_istore E dX9_goOn_65 (Nat.le_of_ble_eq_true rfl) (fun v4 => [(4, .int v4), (0, .ref (g.2.2.1 52)), (1, .int a1), (2, .int a2), (3, .int a3)]) (fun _ => rfl) (fun v4 => ?_)
      refine j_iconst E (v := 0) dX9_goOn_67 (by decide) ?_
      refine j_istore0 E dX9_goOn_68 (Nat.le_of_ble_eq_true rfl) [(5, .int 0), (4, .int v4), (0, .ref (g.2.2.1 52)), (1, .int a1), (2, .int a2), (3, .int a3)] rfl ?_
      exact j_sub [2, 4, 5, 1, 0] (lv1 := [(0, .ref (g.2.2.1 52)), (2, .int a2), (3, .int a3), (4, .int v4), (5, .int 0)]) rfl (jxX9_goOn_70 hg N c_X9_goOn E o_X9_goOn N a2 a3 v4 0 h2)
    · exact j_sub [] (lv1 := []) rfl (jxX9_goOn_53 hg N c_X9_goOn E o_X9_goOn h2)
set_option maxRecDepth 20000 in
set_option maxHeartbeats 4000000 in
theorem jxX9_goOn_24 {g : GC} (hg : isGX g) {X : MX} {dp : Nat} (N : Nat) (c_X9_goOn : Int32 → Int32 → Int32 → HP → Option (Int32 × HP)) (E : JE g (mX9_goOn (dp + 1)) X) (o_X9_goOn : ∀ (q0 q1 q2 : Int32) (h : HP), Ok g yX9_goOn (mX9_goOn dp) [.ref (g.2.2.1 52), .int q0, .int q1, .int q2] h (c_X9_goOn q0 q1 q2 h)) (a1 : Int32) (a2 : Int32) (a3 : Int32) (h : HP) : J g (mX9_goOn (dp + 1)) X 24 [(0, .ref (g.2.2.1 52)), (1, .int a1), (2, .int a2), (3, .int a3)] [] h (xX9_goOn_24 N c_X9_goOn a1 a2 a3 h) := by
  unfold xX9_goOn_24
  refine j_aload_n E dX9_goOn_24 0 rfl ?_
  refine j_iload_n E dX9_goOn_25 3 rfl ?_
  refine j_puti E fp_X9_87 (cX_52 hg) rfl dX9_goOn_26 (fun h1 => ?_)
  refine j_aload_n E dX9_goOn_29 0 rfl ?_
  refine j_iload_n E dX9_goOn_30 1 rfl ?_
  refine j_puti E fp_X9_90 (cX_52 hg) rfl dX9_goOn_31 (fun h2 => ?_)
  exact jxX9_goOn_34 hg N c_X9_goOn E o_X9_goOn a1 a2 a3 h2
set_option maxRecDepth 20000 in
set_option maxHeartbeats 4000000 in
theorem jxX9_goOn {g : GC} (hg : isGX g) {X : MX} {dp : Nat} (N : Nat) (c_X9_goOn : Int32 → Int32 → Int32 → HP → Option (Int32 × HP)) (E : JE g (mX9_goOn (dp + 1)) X) (o_X9_goOn : ∀ (q0 q1 q2 : Int32) (h : HP), Ok g yX9_goOn (mX9_goOn dp) [.ref (g.2.2.1 52), .int q0, .int q1, .int q2] h (c_X9_goOn q0 q1 q2 h)) (a1 : Int32) (a2 : Int32) (a3 : Int32) (h : HP) : J g (mX9_goOn (dp + 1)) X 0 [(0, .ref (g.2.2.1 52)), (1, .int a1), (2, .int a2), (3, .int a3)] [] h (xX9_goOn N c_X9_goOn a1 a2 a3 h) := by
  unfold xX9_goOn
  refine j_iload_n E dX9_goOn_0 3 rfl ?_
  refine j_aload_n E dX9_goOn_1 0 rfl ?_
  refine j_geti E f_X9_87 (cX_52 hg) rfl dX9_goOn_2 ?_
  refine j_cmp_gt E 24 dX9_goOn_5 rfl ?_ ?_
  · exact jxX9_goOn_24 hg N c_X9_goOn E o_X9_goOn a1 a2 a3 h
  · refine j_iload_n E dX9_goOn_8 3 rfl ?_
    refine j_aload_n E dX9_goOn_9 0 rfl ?_
    refine j_geti E f_X9_87 (cX_52 hg) rfl dX9_goOn_10 ?_
    refine j_cmp_ne E 34 dX9_goOn_13 rfl ?_ ?_
    · exact jxX9_goOn_34 hg N c_X9_goOn E o_X9_goOn a1 a2 a3 h
    · refine j_iload_n E dX9_goOn_16 1 rfl ?_
      refine j_aload_n E dX9_goOn_17 0 rfl ?_
      refine j_geti E f_X9_90 (cX_52 hg) rfl dX9_goOn_18 ?_
      refine j_cmp_ge E 34 dX9_goOn_21 rfl ?_ ?_
      · exact jxX9_goOn_34 hg N c_X9_goOn E o_X9_goOn a1 a2 a3 h
      · exact jxX9_goOn_24 hg N c_X9_goOn E o_X9_goOn a1 a2 a3 h
set_option maxRecDepth 20000 in
set_option maxHeartbeats 4000000 in
theorem ok_rg1 {g : GC} (hg : isGX g) (hI : gI g) (N : Nat) : ∀ dp : Nat, (∀ (q0 q1 q2 : Int32) (h : HP), Ok g yX9_goOn (mX9_goOn dp) [.ref (g.2.2.1 52), .int q0, .int q1, .int q2] h (xr_X9_goOn N dp q0 q1 q2 h)) := by
  intro dp
  induction dp with
  | zero =>
    · intro q0 q1 q2 h r h1 e
      exact absurd e (by intro hq; cases hq)
  | succ dp ih =>
    · intro q0 q1 q2 h
      exact Ok.of hI (by decide) rfl (Nat.le_of_ble_eq_true rfl) (fun X E => jxX9_goOn hg N (rg1 N dp) E ih q0 q1 q2 h)
theorem ok_X9_goOn {g : GC} (hg : isGX g) (hI : gI g) (N dp : Nat) (a1 : Int32) (a2 : Int32) (a3 : Int32) (h : HP) : Ok g yX9_goOn (mX9_goOn dp) [.ref (g.2.2.1 52), .int a1, .int a2, .int a3] h (xr_X9_goOn N dp a1 a2 a3 h) := (ok_rg1 hg hI N dp) a1 a2 a3 h
set_option maxRecDepth 20000 in
set_option maxHeartbeats 4000000 in
theorem jxX9_goFar {g : GC} (hg : isGX g) {X : MX} (N : Nat) (E : JE g mX9_goFar X) (a1 : Int32) (h : HP) : J g mX9_goFar X 0 [(0, .ref (g.2.2.1 52)), (1, .int a1)] [] h (xX9_goFar N a1 h) := by
  unfold xX9_goFar
  refine j_aload_n E dX9_goFar_0 0 rfl ?_
  refine j_iconst E (v := 0) dX9_goFar_1 (by decide) ?_
  refine j_puti E fp_X9_87 (cX_52 hg) rfl dX9_goFar_2 (fun h1 => ?_)
  refine j_aload_n E dX9_goFar_5 0 rfl ?_
  refine j_iload_n E dX9_goFar_6 1 rfl ?_
  refine j_puti E fp_X9_90 (cX_52 hg) rfl dX9_goFar_7 (fun h2 => ?_)
  refine j_aload_n E dX9_goFar_10 0 rfl ?_
  refine j_iload_n E dX9_goFar_11 1 rfl ?_
  refine j_aload_n E dX9_goFar_12 0 rfl ?_
  refine j_getr E f_X9_26 (cX_52 hg) 45 rfl dX9_goFar_13 ?_
  refine j_iload_n E dX9_goFar_16 1 rfl ?_
  refine j_callvI (As := [.int a1]) (st := [.int a1, .ref (g.2.2.1 52)]) E (ok_X3_measureFrom hg E.2.2.2.2.2.2.2.1 N a1 h2) (cX_45 hg) (cl_X9_30) (⟨Nat.le_of_ble_eq_true rfl, Nat.le_of_ble_eq_true rfl⟩) rfl rfl (Nat.le_of_ble_eq_true rfl) dX9_goFar_17 (fun t3 h4 => ?_)
  refine j_iconst E (v := 1) dX9_goFar_20 (by decide) ?_
  refine j_iload_n E dX9_goFar_21 1 rfl ?_
  refine j_ishl E dX9_goFar_22 ?_
  refine j_iconst E (v := (-1)) dX9_goFar_23 (by decide) ?_
  refine j_ixor E dX9_goFar_24 ?_
  refine j_iand E dX9_goFar_25 ?_
  refine j_iconst E (v := 0) dX9_goFar_26 (by decide) ?_
  refine j_callsV (As := [.ref (g.2.2.1 52), .int a1, .int (t3 &&& ((1 <<< (a1 &&& 31)) ^^^ (-1))), .int 0]) (st := []) E (ok_X9_goOn hg E.2.2.2.2.2.2.2.1 N 60 a1 (t3 &&& ((1 <<< (a1 &&& 31)) ^^^ (-1))) 0 h4) (cl_X9_93 60) (⟨Nat.le_of_ble_eq_true rfl, Nat.le_of_ble_eq_true rfl⟩) rfl rfl (Nat.le_of_ble_eq_true rfl) dX9_goFar_27 (fun t5 h6 => ?_)
  exact j_vreturn E rfl dX9_goFar_30
theorem ok_X9_goFar {g : GC} (hg : isGX g) (hI : gI g) (N : Nat) (a1 : Int32) (h : HP) : Ok g yX9_goFar mX9_goFar [.ref (g.2.2.1 52), .int a1] h (xX9_goFar N a1 h) := Ok.of hI (by decide) rfl (Nat.le_of_ble_eq_true rfl) (fun X E => jxX9_goFar hg N E a1 h)
set_option maxRecDepth 20000 in
set_option maxHeartbeats 4000000 in
theorem jxX10_feed {g : GC} (hg : isGX g) {X : MX} (N : Nat) (E : JE g mX10_feed X) (a1 : Int32) (a2 : Int32) (a3 : Int32) (a4 : Int32) (a5 : Int32) (h : HP) : J g mX10_feed X 0 [(0, .ref (g.2.2.1 0)), (1, .int a1), (2, .int a2), (3, .int a3), (4, .int a4), (5, .int a5)] [] h (xX10_feed N a1 a2 a3 a4 a5 h) := by
  unfold xX10_feed
  refine j_aload_n E dX10_feed_0 0 rfl ?_
  refine j_getr E f_X10_10 (cX_0 hg) 1 rfl dX10_feed_1 ?_
  refine j_geti E f_X10_101 (cX_1 hg) rfl dX10_feed_4 ?_
  refine j_bipush E (v := 20) dX10_feed_7 (by decide) ?_
  refine j_iadd E dX10_feed_9 ?_
  refine j_sipush E (v := 260) dX10_feed_10 (by decide) ?_
  refine j_cmp_le E 18 dX10_feed_13 rfl ?_ ?_
  · refine j_aload_n E dX10_feed_18 0 rfl ?_
    refine j_getr E f_X10_10 (cX_0 hg) 1 rfl dX10_feed_19 ?_
    refine j_iload_n E dX10_feed_22 1 rfl ?_
    refine j_callvV (As := [.int a1]) (st := []) E (ok_X7_put hg E.2.2.2.2.2.2.2.1 N a1 h) (cX_1 hg) (cl_X10_105) (⟨Nat.le_of_ble_eq_true rfl, Nat.le_of_ble_eq_true rfl⟩) rfl rfl (Nat.le_of_ble_eq_true rfl) dX10_feed_23 (fun t1 h2 => ?_)
    refine j_aload_n E dX10_feed_26 0 rfl ?_
    refine j_getr E f_X10_10 (cX_0 hg) 1 rfl dX10_feed_27 ?_
    refine j_iload_n E dX10_feed_30 2 rfl ?_
    refine j_callvV (As := [.int a2]) (st := []) E (ok_X7_put hg E.2.2.2.2.2.2.2.1 N a2 h2) (cX_1 hg) (cl_X10_105) (⟨Nat.le_of_ble_eq_true rfl, Nat.le_of_ble_eq_true rfl⟩) rfl rfl (Nat.le_of_ble_eq_true rfl) dX10_feed_31 (fun t3 h4 => ?_)
    refine j_aload_n E dX10_feed_34 0 rfl ?_
    refine j_getr E f_X10_10 (cX_0 hg) 1 rfl dX10_feed_35 ?_
    refine j_iload_n E dX10_feed_38 3 rfl ?_
    refine j_callvV (As := [.int a3]) (st := []) E (ok_X7_put hg E.2.2.2.2.2.2.2.1 N a3 h4) (cX_1 hg) (cl_X10_105) (⟨Nat.le_of_ble_eq_true rfl, Nat.le_of_ble_eq_true rfl⟩) rfl rfl (Nat.le_of_ble_eq_true rfl) dX10_feed_39 (fun t5 h6 => ?_)
    refine j_aload_n E dX10_feed_42 0 rfl ?_
    refine j_getr E f_X10_10 (cX_0 hg) 1 rfl dX10_feed_43 ?_
    refine j_iload E dX10_feed_46 4 rfl ?_
    refine j_callvV (As := [.int a4]) (st := []) E (ok_X7_put hg E.2.2.2.2.2.2.2.1 N a4 h6) (cX_1 hg) (cl_X10_105) (⟨Nat.le_of_ble_eq_true rfl, Nat.le_of_ble_eq_true rfl⟩) rfl rfl (Nat.le_of_ble_eq_true rfl) dX10_feed_48 (fun t7 h8 => ?_)
    refine j_aload_n E dX10_feed_51 0 rfl ?_
    refine j_getr E f_X10_10 (cX_0 hg) 1 rfl dX10_feed_52 ?_
    refine j_iload E dX10_feed_55 5 rfl ?_
    refine j_callvV (As := [.int a5]) (st := []) E (ok_X7_put hg E.2.2.2.2.2.2.2.1 N a5 h8) (cX_1 hg) (cl_X10_105) (⟨Nat.le_of_ble_eq_true rfl, Nat.le_of_ble_eq_true rfl⟩) rfl rfl (Nat.le_of_ble_eq_true rfl) dX10_feed_57 (fun t9 h10 => ?_)
    refine j_aload_n E dX10_feed_60 0 rfl ?_
    refine j_getr E f_X10_10 (cX_0 hg) 1 rfl dX10_feed_61 ?_
    refine j_geti E f_X10_101 (cX_1 hg) rfl dX10_feed_64 ?_
    exact j_ireturn E rfl dX10_feed_67
  · refine j_iconst E (v := (-1)) dX10_feed_16 (by decide) ?_
    exact j_ireturn E rfl dX10_feed_17
theorem ok_X10_feed {g : GC} (hg : isGX g) (hI : gI g) (N : Nat) (a1 : Int32) (a2 : Int32) (a3 : Int32) (a4 : Int32) (a5 : Int32) (h : HP) : Ok g yX10_feed mX10_feed [.ref (g.2.2.1 0), .int a1, .int a2, .int a3, .int a4, .int a5] h (xX10_feed N a1 a2 a3 a4 a5 h) := Ok.of hI (by decide) rfl (Nat.le_of_ble_eq_true rfl) (fun X E => jxX10_feed hg N E a1 a2 a3 a4 a5 h)
set_option maxRecDepth 20000 in
set_option maxHeartbeats 4000000 in
theorem jxX10_law {g : GC} (hg : isGX g) {X : MX} (N : Nat) (E : JE g mX10_law X) (a1 : Int32) (h : HP) : J g mX10_law X 0 [(0, .ref (g.2.2.1 0)), (1, .int a1)] [] h (xX10_law N a1 h) := by
  unfold xX10_law
  refine j_aload_n E dX10_law_0 0 rfl ?_
  refine j_getr E f_X10_10 (cX_0 hg) 1 rfl dX10_law_1 ?_
  refine j_iload_n E dX10_law_4 1 rfl ?_
  refine j_iconst E (v := 1) dX10_law_5 (by decide) ?_
  refine j_sipush E (v := 240) dX10_law_6 (by decide) ?_
  refine j_callvI (As := [.int a1, .int 1, .int 240]) (st := []) E (ok_X7_gives hg E.2.2.2.2.2.2.2.1 a1 1 240 h) (cX_1 hg) (cl_X10_109) (⟨Nat.le_of_ble_eq_true rfl, Nat.le_of_ble_eq_true rfl⟩) rfl rfl (Nat.le_of_ble_eq_true rfl) dX10_law_9 (fun t1 h2 => ?_)
  refine j_if_ne E 17 dX10_law_12 rfl ?_ ?_
  · refine j_aload_n E dX10_law_17 0 rfl ?_
    refine j_getr E f_X10_33 (cX_0 hg) 20 rfl dX10_law_18 ?_
    refine j_aload_n E dX10_law_21 0 rfl ?_
    refine j_getr E f_X10_10 (cX_0 hg) 1 rfl dX10_law_22 ?_
    refine j_callvI (As := [.ref (g.2.2.1 1)]) (st := []) E (ok_X2_readFrom hg E.2.2.2.2.2.2.2.1 N h2) (cX_20 hg) (cl_X10_113) (⟨Nat.le_of_ble_eq_true rfl, Nat.le_of_ble_eq_true rfl⟩) rfl rfl (Nat.le_of_ble_eq_true rfl) dX10_law_25 (fun t3 h4 => ?_)
    refine j_if_ne E 39 dX10_law_28 rfl ?_ ?_
    · refine j_aload_n E dX10_law_39 0 rfl ?_
      refine j_getr E f_X10_29 (cX_0 hg) 13 rfl dX10_law_40 ?_
      refine j_aload_n E dX10_law_43 0 rfl ?_
      refine j_getr E f_X10_33 (cX_0 hg) 20 rfl dX10_law_44 ?_
      refine j_callvV (As := [.ref (g.2.2.1 20)]) (st := []) E (ok_X2_become hg E.2.2.2.2.2.2.2.1 h4) (cX_13 hg) (cl_X10_120) (⟨Nat.le_of_ble_eq_true rfl, Nat.le_of_ble_eq_true rfl⟩) rfl rfl (Nat.le_of_ble_eq_true rfl) dX10_law_47 (fun t5 h6 => ?_)
      refine j_aload_n E dX10_law_50 0 rfl ?_
      refine j_getr E f_X10_29 (cX_0 hg) 13 rfl dX10_law_51 ?_
      refine j_geti E f_X10_124 (cX_13 hg) rfl dX10_law_54 ?_
      exact j_ireturn E rfl dX10_law_57
    · refine j_aload_n E dX10_law_31 0 rfl ?_
      refine j_getr E f_X10_10 (cX_0 hg) 1 rfl dX10_law_32 ?_
      refine j_geti E f_X10_117 (cX_1 hg) rfl dX10_law_35 ?_
      exact j_ireturn E rfl dX10_law_38
  · refine j_iconst E (v := (-1)) dX10_law_15 (by decide) ?_
    exact j_ireturn E rfl dX10_law_16
theorem ok_X10_law {g : GC} (hg : isGX g) (hI : gI g) (N : Nat) (a1 : Int32) (h : HP) : Ok g yX10_law mX10_law [.ref (g.2.2.1 0), .int a1] h (xX10_law N a1 h) := Ok.of hI (by decide) rfl (Nat.le_of_ble_eq_true rfl) (fun X E => jxX10_law hg N E a1 h)
set_option maxRecDepth 20000 in
set_option maxHeartbeats 4000000 in
theorem jxX10_town {g : GC} (hg : isGX g) {X : MX} (N : Nat) (E : JE g mX10_town X) (a1 : Int32) (h : HP) : J g mX10_town X 0 [(0, .ref (g.2.2.1 0)), (1, .int a1)] [] h (xX10_town N a1 h) := by
  unfold xX10_town
  refine j_aload_n E dX10_town_0 0 rfl ?_
  refine j_getr E f_X10_10 (cX_0 hg) 1 rfl dX10_town_1 ?_
  refine j_iload_n E dX10_town_4 1 rfl ?_
  refine j_iconst E (v := 1) dX10_town_5 (by decide) ?_
  refine j_sipush E (v := 160) dX10_town_6 (by decide) ?_
  refine j_callvI (As := [.int a1, .int 1, .int 160]) (st := []) E (ok_X7_gives hg E.2.2.2.2.2.2.2.1 a1 1 160 h) (cX_1 hg) (cl_X10_109) (⟨Nat.le_of_ble_eq_true rfl, Nat.le_of_ble_eq_true rfl⟩) rfl rfl (Nat.le_of_ble_eq_true rfl) dX10_town_9 (fun t1 h2 => ?_)
  refine j_if_ne E 17 dX10_town_12 rfl ?_ ?_
  · refine j_aload_n E dX10_town_17 0 rfl ?_
    refine j_getr E f_X10_23 (cX_0 hg) 8 rfl dX10_town_18 ?_
    refine j_aload_n E dX10_town_21 0 rfl ?_
    refine j_getr E f_X10_10 (cX_0 hg) 1 rfl dX10_town_22 ?_
    refine j_callvI (As := [.ref (g.2.2.1 1)]) (st := []) E (ok_X6_readFrom hg E.2.2.2.2.2.2.2.1 N h2) (cX_8 hg) (cl_X10_127) (⟨Nat.le_of_ble_eq_true rfl, Nat.le_of_ble_eq_true rfl⟩) rfl rfl (Nat.le_of_ble_eq_true rfl) dX10_town_25 (fun t3 h4 => ?_)
    refine j_if_ne E 39 dX10_town_28 rfl ?_ ?_
    · refine j_aload_n E dX10_town_39 0 rfl ?_
      refine j_getr E f_X10_19 (cX_0 hg) 3 rfl dX10_town_40 ?_
      refine j_aload_n E dX10_town_43 0 rfl ?_
      refine j_getr E f_X10_23 (cX_0 hg) 8 rfl dX10_town_44 ?_
      refine j_callvV (As := [.ref (g.2.2.1 8)]) (st := []) E (ok_X6_become hg E.2.2.2.2.2.2.2.1 h4) (cX_3 hg) (cl_X10_128) (⟨Nat.le_of_ble_eq_true rfl, Nat.le_of_ble_eq_true rfl⟩) rfl rfl (Nat.le_of_ble_eq_true rfl) dX10_town_47 (fun t5 h6 => ?_)
      refine j_aload_n E dX10_town_50 0 rfl ?_
      refine j_getr E f_X10_46 (cX_0 hg) 31 rfl dX10_town_51 ?_
      refine j_aload_n E dX10_town_54 0 rfl ?_
      refine j_getr E f_X10_19 (cX_0 hg) 3 rfl dX10_town_55 ?_
      refine j_geti E f_X10_130 (cX_3 hg) rfl dX10_town_58 ?_
      refine j_aload_n E dX10_town_61 0 rfl ?_
      refine j_getr E f_X10_19 (cX_0 hg) 3 rfl dX10_town_62 ?_
      refine j_geti E f_X10_133 (cX_3 hg) rfl dX10_town_65 ?_
      refine j_callvV (As := [.int (h6.1 3 4), .int (h6.1 3 5)]) (st := []) E (ok_X5_settle hg E.2.2.2.2.2.2.2.1 N (h6.1 3 4) (h6.1 3 5) h6) (cX_31 hg) (cl_X10_136) (⟨Nat.le_of_ble_eq_true rfl, Nat.le_of_ble_eq_true rfl⟩) rfl rfl (Nat.le_of_ble_eq_true rfl) dX10_town_68 (fun t7 h8 => ?_)
      refine j_aload_n E dX10_town_71 0 rfl ?_
      refine j_getr E f_X10_19 (cX_0 hg) 3 rfl dX10_town_72 ?_
      refine j_geti E f_X10_133 (cX_3 hg) rfl dX10_town_75 ?_
      exact j_ireturn E rfl dX10_town_78
    · refine j_aload_n E dX10_town_31 0 rfl ?_
      refine j_getr E f_X10_10 (cX_0 hg) 1 rfl dX10_town_32 ?_
      refine j_geti E f_X10_117 (cX_1 hg) rfl dX10_town_35 ?_
      exact j_ireturn E rfl dX10_town_38
  · refine j_iconst E (v := (-1)) dX10_town_15 (by decide) ?_
    exact j_ireturn E rfl dX10_town_16
theorem ok_X10_town {g : GC} (hg : isGX g) (hI : gI g) (N : Nat) (a1 : Int32) (h : HP) : Ok g yX10_town mX10_town [.ref (g.2.2.1 0), .int a1] h (xX10_town N a1 h) := Ok.of hI (by decide) rfl (Nat.le_of_ble_eq_true rfl) (fun X E => jxX10_town hg N E a1 h)
set_option maxRecDepth 20000 in
set_option maxHeartbeats 4000000 in
theorem jxX10_orders {g : GC} (hg : isGX g) {X : MX} (N : Nat) (E : JE g mX10_orders X) (a1 : Int32) (h : HP) : J g mX10_orders X 0 [(0, .ref (g.2.2.1 0)), (1, .int a1)] [] h (xX10_orders N a1 h) := by
  unfold xX10_orders
  refine j_aload_n E dX10_orders_0 0 rfl ?_
  refine j_getr E f_X10_10 (cX_0 hg) 1 rfl dX10_orders_1 ?_
  refine j_iload_n E dX10_orders_4 1 rfl ?_
  refine j_iconst E (v := 1) dX10_orders_5 (by decide) ?_
  refine j_bipush E (v := 120) dX10_orders_6 (by decide) ?_
  refine j_callvI (As := [.int a1, .int 1, .int 120]) (st := []) E (ok_X7_gives hg E.2.2.2.2.2.2.2.1 a1 1 120 h) (cX_1 hg) (cl_X10_109) (⟨Nat.le_of_ble_eq_true rfl, Nat.le_of_ble_eq_true rfl⟩) rfl rfl (Nat.le_of_ble_eq_true rfl) dX10_orders_8 (fun t1 h2 => ?_)
  refine j_if_ne E 16 dX10_orders_11 rfl ?_ ?_
  · refine j_aload_n E dX10_orders_16 0 rfl ?_
    refine j_getr E f_X10_39 (cX_0 hg) 27 rfl dX10_orders_17 ?_
    refine j_aload_n E dX10_orders_20 0 rfl ?_
    refine j_getr E f_X10_10 (cX_0 hg) 1 rfl dX10_orders_21 ?_
    refine j_aload_n E dX10_orders_24 0 rfl ?_
    refine j_getr E f_X10_19 (cX_0 hg) 3 rfl dX10_orders_25 ?_
    refine j_callvI (As := [.ref (g.2.2.1 1), .ref (g.2.2.1 3)]) (st := []) E (ok_X4_readFrom hg E.2.2.2.2.2.2.2.1 N h2) (cX_27 hg) (cl_X10_140) (⟨Nat.le_of_ble_eq_true rfl, Nat.le_of_ble_eq_true rfl⟩) rfl rfl (Nat.le_of_ble_eq_true rfl) dX10_orders_28 (fun t3 h4 => ?_)
    refine j_if_ne E 42 dX10_orders_31 rfl ?_ ?_
    · refine j_aload_n E dX10_orders_42 0 rfl ?_
      refine j_getr E f_X10_39 (cX_0 hg) 27 rfl dX10_orders_43 ?_
      refine j_aload_n E dX10_orders_46 0 rfl ?_
      refine j_getr E f_X10_46 (cX_0 hg) 31 rfl dX10_orders_47 ?_
      refine j_callvV (As := [.ref (g.2.2.1 31)]) (st := []) E (ok_X4_carryOut hg E.2.2.2.2.2.2.2.1 N h4) (cX_27 hg) (cl_X10_143) (⟨Nat.le_of_ble_eq_true rfl, Nat.le_of_ble_eq_true rfl⟩) rfl rfl (Nat.le_of_ble_eq_true rfl) dX10_orders_50 (fun t5 h6 => ?_)
      refine j_aload_n E dX10_orders_53 0 rfl ?_
      refine j_getr E f_X10_39 (cX_0 hg) 27 rfl dX10_orders_54 ?_
      refine j_geti E f_X10_147 (cX_27 hg) rfl dX10_orders_57 ?_
      exact j_ireturn E rfl dX10_orders_60
    · refine j_aload_n E dX10_orders_34 0 rfl ?_
      refine j_getr E f_X10_10 (cX_0 hg) 1 rfl dX10_orders_35 ?_
      refine j_geti E f_X10_117 (cX_1 hg) rfl dX10_orders_38 ?_
      exact j_ireturn E rfl dX10_orders_41
  · refine j_iconst E (v := (-1)) dX10_orders_14 (by decide) ?_
    exact j_ireturn E rfl dX10_orders_15
theorem ok_X10_orders {g : GC} (hg : isGX g) (hI : gI g) (N : Nat) (a1 : Int32) (h : HP) : Ok g yX10_orders mX10_orders [.ref (g.2.2.1 0), .int a1] h (xX10_orders N a1 h) := Ok.of hI (by decide) rfl (Nat.le_of_ble_eq_true rfl) (fun X E => jxX10_orders hg N E a1 h)
set_option maxRecDepth 20000 in
set_option maxHeartbeats 4000000 in
theorem jxX10_isSpan_16 {g : GC} (hg : isGX g) {X : MX} (E : JE g mX10_isSpan X) (s0 : Int32) (h : HP) : J g mX10_isSpan X 16 [] [.int s0] h (xX10_isSpan_16 s0 h) := by
  unfold xX10_isSpan_16
  exact j_zreturn E rfl dX10_isSpan_16
set_option maxRecDepth 20000 in
set_option maxHeartbeats 4000000 in
theorem jxX10_isSpan_15 {g : GC} (hg : isGX g) {X : MX} (E : JE g mX10_isSpan X) (h : HP) : J g mX10_isSpan X 15 [] [] h (xX10_isSpan_15 h) := by
  unfold xX10_isSpan_15
  refine j_iconst E (v := 0) dX10_isSpan_15 (by decide) ?_
  exact jxX10_isSpan_16 hg E 0 h
set_option maxRecDepth 20000 in
set_option maxHeartbeats 4000000 in
theorem jxX10_isSpan {g : GC} (hg : isGX g) {X : MX} (E : JE g mX10_isSpan X) (a0 : Int32) (h : HP) : J g mX10_isSpan X 0 [(0, .int a0)] [] h (xX10_isSpan a0 h) := by
  unfold xX10_isSpan
  refine j_iload_n E dX10_isSpan_0 0 rfl ?_
  refine j_iconst E (v := 1) dX10_isSpan_1 (by decide) ?_
  refine j_cmp_lt E 15 dX10_isSpan_2 rfl ?_ ?_
  · exact j_sub [] (lv1 := []) rfl (jxX10_isSpan_15 hg E h)
  · refine j_iload_n E dX10_isSpan_5 0 rfl ?_
    refine j_bipush E (v := 100) dX10_isSpan_6 (by decide) ?_
    refine j_cmp_gt E 15 dX10_isSpan_8 rfl ?_ ?_
    · exact j_sub [] (lv1 := []) rfl (jxX10_isSpan_15 hg E h)
    · refine j_iconst E (v := 1) dX10_isSpan_11 (by decide) ?_
      refine j_goto E 16 dX10_isSpan_12 rfl ?_
      exact j_sub [] (lv1 := []) rfl (jxX10_isSpan_16 hg E 1 h)
theorem ok_X10_isSpan {g : GC} (hg : isGX g) (hI : gI g) (a0 : Int32) (h : HP) : Ok g yX10_isSpan mX10_isSpan [.int a0] h (xX10_isSpan a0 h) := Ok.of hI (by decide) rfl (Nat.le_of_ble_eq_true rfl) (fun X E => jxX10_isSpan hg E a0 h)
set_option maxRecDepth 20000 in
set_option maxHeartbeats 4000000 in
theorem jxX10_minutes_23 {g : GC} (hg : isGX g) {X : MX} (N : Nat) (E : JE g mX10_minutes X) (s0 : Int32) (h : HP) : J g mX10_minutes X 23 [] [.int s0] h (xX10_minutes_23 N s0 h) := by
  unfold xX10_minutes_23
  exact j_ireturn E rfl dX10_minutes_23
set_option maxRecDepth 20000 in
set_option maxHeartbeats 4000000 in
theorem jxX10_minutes {g : GC} (hg : isGX g) {X : MX} (N : Nat) (E : JE g mX10_minutes X) (a1 : Int32) (h : HP) : J g mX10_minutes X 0 [(0, .ref (g.2.2.1 0)), (1, .int a1)] [] h (xX10_minutes N a1 h) := by
  unfold xX10_minutes
  refine j_iload_n E dX10_minutes_0 1 rfl ?_
  refine j_callsI (As := [.int a1]) (st := []) E (ok_X10_isSpan hg E.2.2.2.2.2.2.2.1 a1 h) (cl_X10_148) (⟨Nat.le_of_ble_eq_true rfl, Nat.le_of_ble_eq_true rfl⟩) rfl rfl (Nat.le_of_ble_eq_true rfl) dX10_minutes_1 (fun t1 h2 => ?_)
  refine j_if_eq E 22 dX10_minutes_4 rfl ?_ ?_
  · refine j_iconst E (v := (-1)) dX10_minutes_22 (by decide) ?_
    exact j_sub [] (lv1 := []) rfl (jxX10_minutes_23 hg N E (-1) h2)
  · refine j_aload_n E dX10_minutes_7 0 rfl ?_
    refine j_getr E f_X10_61 (cX_0 hg) 43 rfl dX10_minutes_8 ?_
    refine j_iload_n E dX10_minutes_11 1 rfl ?_
    refine j_aload_n E dX10_minutes_12 0 rfl ?_
    refine j_getr E f_X10_46 (cX_0 hg) 31 rfl dX10_minutes_13 ?_
    refine j_callvI (As := [.int a1, .ref (g.2.2.1 31)]) (st := []) E (ok_X8_pass hg E.2.2.2.2.2.2.2.1 N 31 (by decide) a1 h2) (cX_43 hg) (cl_X10_152) (⟨Nat.le_of_ble_eq_true rfl, Nat.le_of_ble_eq_true rfl⟩) rfl rfl (Nat.le_of_ble_eq_true rfl) dX10_minutes_16 (fun t3 h4 => ?_)
    refine j_goto E 23 dX10_minutes_19 rfl ?_
    exact j_sub [] (lv1 := []) rfl (jxX10_minutes_23 hg N E t3 h4)
theorem ok_X10_minutes {g : GC} (hg : isGX g) (hI : gI g) (N : Nat) (a1 : Int32) (h : HP) : Ok g yX10_minutes mX10_minutes [.ref (g.2.2.1 0), .int a1] h (xX10_minutes N a1 h) := Ok.of hI (by decide) rfl (Nat.le_of_ble_eq_true rfl) (fun X E => jxX10_minutes hg N E a1 h)
set_option maxRecDepth 20000 in
set_option maxHeartbeats 4000000 in
theorem jxX10_tried_62 {g : GC} (hg : isGX g) {X : MX} (N : Nat) (E : JE g mX10_tried X) (h : HP) : J g mX10_tried X 62 [] [] h (xX10_tried_62 N h) := by
  unfold xX10_tried_62
  refine j_iconst E (v := (-1)) dX10_tried_62 (by decide) ?_
  exact j_ireturn E rfl dX10_tried_63
set_option maxRecDepth 20000 in
set_option maxHeartbeats 4000000 in
theorem jxX10_tried_156 {g : GC} (hg : isGX g) {X : MX} (N : Nat) (E : JE g mX10_tried X) (s0 : Int32) (h : HP) : J g mX10_tried X 156 [] [.int s0] h (xX10_tried_156 N s0 h) := by
  unfold xX10_tried_156
  exact j_ireturn E rfl dX10_tried_156
set_option maxRecDepth 20000 in
set_option maxHeartbeats 4000000 in
theorem jxX10_tried_64 {g : GC} (hg : isGX g) {X : MX} (N : Nat) (E : JE g mX10_tried X) (a1 : Int32) (a2 : Int32) (a4 : Int32) (a5 : Int32) (h : HP) : J g mX10_tried X 64 [(0, .ref (g.2.2.1 0)), (1, .int a1), (2, .int a2), (4, .int a4), (5, .int a5)] [] h (xX10_tried_64 N a1 a2 a4 a5 h) := by
  unfold xX10_tried_64
  refine j_aload_n E dX10_tried_64 0 rfl ?_
  refine j_getr E f_X10_53 (cX_0 hg) 39 rfl dX10_tried_65 ?_
  refine j_aload_n E dX10_tried_68 0 rfl ?_
  refine j_getr E f_X10_46 (cX_0 hg) 31 rfl dX10_tried_69 ?_
  refine j_callvV (As := [.ref (g.2.2.1 31)]) (st := []) E (ok_X5_become hg E.2.2.2.2.2.2.2.1 39 (by decide) h) (cX_39 hg) (cl_X10_159) (⟨Nat.le_of_ble_eq_true rfl, Nat.le_of_ble_eq_true rfl⟩) rfl rfl (Nat.le_of_ble_eq_true rfl) dX10_tried_72 (fun t1 h2 => ?_)
  refine j_aload_n E dX10_tried_75 0 rfl ?_
  refine j_getr E f_X10_61 (cX_0 hg) 43 rfl dX10_tried_76 ?_
  refine j_iload_n E dX10_tried_79 1 rfl ?_
  refine j_aload_n E dX10_tried_80 0 rfl ?_
  refine j_getr E f_X10_53 (cX_0 hg) 39 rfl dX10_tried_81 ?_
  refine j_callvI (As := [.int a1, .ref (g.2.2.1 39)]) (st := []) E (ok_X8_pass hg E.2.2.2.2.2.2.2.1 N 39 (by decide) a1 h2) (cX_43 hg) (cl_X10_152) (⟨Nat.le_of_ble_eq_true rfl, Nat.le_of_ble_eq_true rfl⟩) rfl rfl (Nat.le_of_ble_eq_true rfl) dX10_tried_84 (fun t3 h4 => ?_)
  refine j_istore0 E dX10_tried_87 (Nat.le_of_ble_eq_true rfl) [(6, .int t3), (0, .ref (g.2.2.1 0)), (1, .int a1), (2, .int a2), (4, .int a4), (5, .int a5)] rfl ?_
  refine j_iload E dX10_tried_89 4 rfl ?_
  refine j_if_eq E 107 dX10_tried_91 rfl ?_ ?_
  · refine j_iload E dX10_tried_107 5 rfl ?_
    refine j_if_eq E 125 dX10_tried_109 rfl ?_ ?_
    · refine j_iload_n E dX10_tried_125 3 rfl ?_
      refine j_if_ne E 134 dX10_tried_126 rfl ?_ ?_
      · refine j_iload_n E dX10_tried_134 3 rfl ?_
        refine j_iconst E (v := 1) dX10_tried_135 (by decide) ?_
        refine j_cmp_ne E 149 dX10_tried_136 rfl ?_ ?_
        · refine j_aload_n E dX10_tried_149 1 rfl ?_
          refine j_getr E f_X10_53 (cX_0 hg) 39 rfl dX10_tried_150 ?_
          refine j_callvI (As := []) (st := []) E (ok_X5_allSorrow hg E.2.2.2.2.2.2.2.1 N 39 (by decide) h4) (cX_39 hg) (cl_X10_170) (⟨Nat.le_of_ble_eq_true rfl, Nat.le_of_ble_eq_true rfl⟩) rfl rfl (Nat.le_of_ble_eq_true rfl) dX10_tried_153 (fun t5 h6 => ?_)
          exact j_sub [] (lv1 := []) rfl (jxX10_tried_156 hg N E t5 h6)
        · refine j_aload_n E dX10_tried_139 1 rfl ?_
          refine j_getr E f_X10_53 (cX_0 hg) 39 rfl dX10_tried_140 ?_
          refine j_geti E f_X10_167 (cX_39 hg) rfl dX10_tried_143 ?_
          refine j_goto E 156 dX10_tried_146 rfl ?_
          exact j_sub [] (lv1 := []) rfl (jxX10_tried_156 hg N E (h4.1 39 4) h4)
      · refine j_iload E dX10_tried_129 0 rfl ?_
        refine j_goto E 156 dX10_tried_131 rfl ?_
        exact j_sub [] (lv1 := []) rfl (jxX10_tried_156 hg N E t3 h4)
    · refine j_aload_n E dX10_tried_112 1 rfl ?_
      refine j_getr E f_X10_53 (cX_0 hg) 39 rfl dX10_tried_113 ?_
      refine j_getr E f_X10_164 (cX_39 hg) 42 rfl dX10_tried_116 ?_
      refine j_iload_n E dX10_tried_119 3 rfl ?_
      refine j_bipush E (v := 30) dX10_tried_120 (by decide) ?_
      refine j_isub E dX10_tried_122 ?_
      refine j_iald E (cX_42 hg) dX10_tried_123 (fun t7 => ?_)
      exact j_ireturn E rfl dX10_tried_124
  · refine j_aload_n E dX10_tried_94 1 rfl ?_
    refine j_getr E f_X10_53 (cX_0 hg) 39 rfl dX10_tried_95 ?_
    refine j_getr E f_X10_161 (cX_39 hg) 40 rfl dX10_tried_98 ?_
    refine j_iload_n E dX10_tried_101 3 rfl ?_
    refine j_bipush E (v := 10) dX10_tried_102 (by decide) ?_
    refine j_isub E dX10_tried_104 ?_
    refine j_iald E (cX_40 hg) dX10_tried_105 (fun t8 => ?_)
    exact j_ireturn E rfl dX10_tried_106
set_option maxRecDepth 20000 in
set_option maxHeartbeats 4000000 in
theorem jxX10_tried_14 {g : GC} (hg : isGX g) {X : MX} (N : Nat) (E : JE g mX10_tried X) (a1 : Int32) (a2 : Int32) (s0 : Int32) (h : HP) : J g mX10_tried X 14 [(0, .ref (g.2.2.1 0)), (1, .int a1), (2, .int a2)] [.int s0] h (xX10_tried_14 N a1 a2 s0 h) := by
  unfold xX10_tried_14
  refine j_istore0_n E dX10_tried_14 (Nat.le_of_ble_eq_true rfl) [(3, .int s0), (0, .ref (g.2.2.1 0)), (1, .int a1), (2, .int a2)] rfl ?_
  refine j_aload_n E dX10_tried_15 1 rfl ?_
  refine j_getr E f_X10_19 (cX_0 hg) 3 rfl dX10_tried_16 ?_
  refine j_iload_n E dX10_tried_19 3 rfl ?_
  refine j_bipush E (v := 10) dX10_tried_20 (by decide) ?_
  refine j_isub E dX10_tried_22 ?_
  refine j_callvI (As := [.int (a2 - 10)]) (st := []) E (ok_X6_isTold hg E.2.2.2.2.2.2.2.1 (a2 - 10) h) (cX_3 hg) (cl_X10_156) (⟨Nat.le_of_ble_eq_true rfl, Nat.le_of_ble_eq_true rfl⟩) rfl rfl (Nat.le_of_ble_eq_true rfl) dX10_tried_23 (fun t1 h2 => ?_)
  refine j_istore0 E dX10_tried_26 (Nat.le_of_ble_eq_true rfl) [(4, .int t1), (3, .int s0), (0, .ref (g.2.2.1 0)), (1, .int a1), (2, .int a2)] rfl ?_
  refine j_aload_n E dX10_tried_28 2 rfl ?_
  refine j_getr E f_X10_19 (cX_0 hg) 3 rfl dX10_tried_29 ?_
  refine j_iload_n E dX10_tried_32 4 rfl ?_
  refine j_bipush E (v := 30) dX10_tried_33 (by decide) ?_
  refine j_isub E dX10_tried_35 ?_
  refine j_callvI (As := [.int (a2 - 30)]) (st := []) E (ok_X6_isTold hg E.2.2.2.2.2.2.2.1 (a2 - 30) h2) (cX_3 hg) (cl_X10_156) (⟨Nat.le_of_ble_eq_true rfl, Nat.le_of_ble_eq_true rfl⟩) rfl rfl (Nat.le_of_ble_eq_true rfl) dX10_tried_36 (fun t3 h4 => ?_)
  refine j_istore0 E dX10_tried_39 (Nat.le_of_ble_eq_true rfl) [(5, .int t3), (4, .int t1), (3, .int s0), (0, .ref (g.2.2.1 0)), (1, .int a1), (2, .int a2)] rfl ?_
  refine j_iload_n E dX10_tried_41 4 rfl ?_
  refine j_callsI (As := [.int a1]) (st := []) E (ok_X10_isSpan hg E.2.2.2.2.2.2.2.1 a1 h4) (cl_X10_148) (⟨Nat.le_of_ble_eq_true rfl, Nat.le_of_ble_eq_true rfl⟩) rfl rfl (Nat.le_of_ble_eq_true rfl) dX10_tried_42 (fun t5 h6 => ?_)
  refine j_if_eq E 62 dX10_tried_45 rfl ?_ ?_
  · exact j_sub [] (lv1 := []) rfl (jxX10_tried_62 hg N E h6)
  · refine j_iload_n E dX10_tried_48 2 rfl ?_
    refine j_if_ne E 64 dX10_tried_49 rfl ?_ ?_
    · exact j_sub [3, 4, 5, 1, 0] (lv1 := [(0, .ref (g.2.2.1 0)), (1, .int a1), (2, .int a2), (4, .int t1), (5, .int t3)]) rfl (jxX10_tried_64 hg N E a1 a2 t1 t3 h6)
    · refine j_iload E dX10_tried_52 1 rfl ?_
      refine j_if_ne E 64 dX10_tried_54 rfl ?_ ?_
      · exact j_sub [3, 4, 5, 1, 0] (lv1 := [(0, .ref (g.2.2.1 0)), (1, .int a1), (2, .int a2), (4, .int t1), (5, .int t3)]) rfl (jxX10_tried_64 hg N E a1 a2 t1 t3 h6)
      · refine j_iload E dX10_tried_57 0 rfl ?_
        refine j_if_ne E 64 dX10_tried_59 rfl ?_ ?_
        · exact j_sub [3, 4, 5, 1, 0] (lv1 := [(0, .ref (g.2.2.1 0)), (1, .int a1), (2, .int a2), (4, .int t1), (5, .int t3)]) rfl (jxX10_tried_64 hg N E a1 a2 t1 t3 h6)
        · exact j_sub [] (lv1 := []) rfl (jxX10_tried_62 hg N E h6)
set_option maxRecDepth 20000 in
set_option maxHeartbeats 4000000 in
theorem jxX10_tried_13 {g : GC} (hg : isGX g) {X : MX} (N : Nat) (E : JE g mX10_tried X) (a1 : Int32) (a2 : Int32) (h : HP) : J g mX10_tried X 13 [(0, .ref (g.2.2.1 0)), (1, .int a1), (2, .int a2)] [] h (xX10_tried_13 N a1 a2 h) := by
  unfold xX10_tried_13
  refine j_iconst E (v := 0) dX10_tried_13 (by decide) ?_
  exact jxX10_tried_14 hg N E a1 a2 0 h
set_option maxRecDepth 20000 in
set_option maxHeartbeats 4000000 in
theorem jxX10_tried {g : GC} (hg : isGX g) {X : MX} (N : Nat) (E : JE g mX10_tried X) (a1 : Int32) (a2 : Int32) (h : HP) : J g mX10_tried X 0 [(0, .ref (g.2.2.1 0)), (1, .int a1), (2, .int a2)] [] h (xX10_tried N a1 a2 h) := by
  unfold xX10_tried
  refine j_iload_n E dX10_tried_0 2 rfl ?_
  refine j_if_lt E 13 dX10_tried_1 rfl ?_ ?_
  · exact jxX10_tried_13 hg N E a1 a2 h
  · refine j_iload_n E dX10_tried_4 2 rfl ?_
    refine j_iconst E (v := 2) dX10_tried_5 (by decide) ?_
    refine j_cmp_gt E 13 dX10_tried_6 rfl ?_ ?_
    · exact jxX10_tried_13 hg N E a1 a2 h
    · refine j_iconst E (v := 1) dX10_tried_9 (by decide) ?_
      refine j_goto E 14 dX10_tried_10 rfl ?_
      exact jxX10_tried_14 hg N E a1 a2 1 h
theorem ok_X10_tried {g : GC} (hg : isGX g) (hI : gI g) (N : Nat) (a1 : Int32) (a2 : Int32) (h : HP) : Ok g yX10_tried mX10_tried [.ref (g.2.2.1 0), .int a1, .int a2] h (xX10_tried N a1 a2 h) := Ok.of hI (by decide) rfl (Nat.le_of_ble_eq_true rfl) (fun X E => jxX10_tried hg N E a1 a2 h)
set_option maxRecDepth 20000 in
set_option maxHeartbeats 4000000 in
theorem jxX10_cornerIs {g : GC} (hg : isGX g) {X : MX} (N : Nat) (E : JE g mX10_cornerIs X) (a1 : Int32) (a2 : Int32) (h : HP) : J g mX10_cornerIs X 0 [(0, .ref (g.2.2.1 0)), (1, .int a1), (2, .int a2)] [] h (xX10_cornerIs N a1 a2 h) := by
  unfold xX10_cornerIs
  refine j_aload_n E dX10_cornerIs_0 0 rfl ?_
  refine j_getr E f_X10_19 (cX_0 hg) 3 rfl dX10_cornerIs_1 ?_
  refine j_iload_n E dX10_cornerIs_4 1 rfl ?_
  refine j_callvI (As := [.int a1]) (st := []) E (ok_X6_isTold hg E.2.2.2.2.2.2.2.1 a1 h) (cX_3 hg) (cl_X10_156) (⟨Nat.le_of_ble_eq_true rfl, Nat.le_of_ble_eq_true rfl⟩) rfl rfl (Nat.le_of_ble_eq_true rfl) dX10_cornerIs_5 (fun t1 h2 => ?_)
  refine j_if_ne E 13 dX10_cornerIs_8 rfl ?_ ?_
  · refine j_iload_n E dX10_cornerIs_13 2 rfl ?_
    refine j_tab E 0 52 dX10_cornerIs_14 (by decide) (by decide) rfl rfl ?_ (fun hx0 => ?_)
    · refine j_aload_n E dX10_cornerIs_52 0 rfl ?_
      refine j_getr E f_X10_19 (cX_0 hg) 3 rfl dX10_cornerIs_53 ?_
      refine j_getr E f_X10_174 (cX_3 hg) 4 rfl dX10_cornerIs_56 ?_
      refine j_iload_n E dX10_cornerIs_59 1 rfl ?_
      refine j_iald E (cX_4 hg) dX10_cornerIs_60 (fun t3 => ?_)
      exact j_ireturn E rfl dX10_cornerIs_61
    refine j_tab E 1 62 dX10_cornerIs_14 (by decide) (by decide) rfl rfl ?_ (fun hx1 => ?_)
    · refine j_aload_n E dX10_cornerIs_62 0 rfl ?_
      refine j_getr E f_X10_46 (cX_0 hg) 31 rfl dX10_cornerIs_63 ?_
      refine j_getr E f_X10_161 (cX_31 hg) 32 rfl dX10_cornerIs_66 ?_
      refine j_iload_n E dX10_cornerIs_69 1 rfl ?_
      refine j_iald E (cX_32 hg) dX10_cornerIs_70 (fun t4 => ?_)
      exact j_ireturn E rfl dX10_cornerIs_71
    refine j_tab E 2 72 dX10_cornerIs_14 (by decide) (by decide) rfl rfl ?_ (fun hx2 => ?_)
    · refine j_aload_n E dX10_cornerIs_72 0 rfl ?_
      refine j_getr E f_X10_46 (cX_0 hg) 31 rfl dX10_cornerIs_73 ?_
      refine j_getr E f_X10_177 (cX_31 hg) 33 rfl dX10_cornerIs_76 ?_
      refine j_iload_n E dX10_cornerIs_79 1 rfl ?_
      refine j_iald E (cX_33 hg) dX10_cornerIs_80 (fun t5 => ?_)
      exact j_ireturn E rfl dX10_cornerIs_81
    refine j_tab E 3 82 dX10_cornerIs_14 (by decide) (by decide) rfl rfl ?_ (fun hx3 => ?_)
    · refine j_aload_n E dX10_cornerIs_82 0 rfl ?_
      refine j_getr E f_X10_46 (cX_0 hg) 31 rfl dX10_cornerIs_83 ?_
      refine j_getr E f_X10_164 (cX_31 hg) 34 rfl dX10_cornerIs_86 ?_
      refine j_iload_n E dX10_cornerIs_89 1 rfl ?_
      refine j_iald E (cX_34 hg) dX10_cornerIs_90 (fun t6 => ?_)
      exact j_ireturn E rfl dX10_cornerIs_91
    refine j_tab E 4 92 dX10_cornerIs_14 (by decide) (by decide) rfl rfl ?_ (fun hx4 => ?_)
    · refine j_aload_n E dX10_cornerIs_92 0 rfl ?_
      refine j_getr E f_X10_19 (cX_0 hg) 3 rfl dX10_cornerIs_93 ?_
      refine j_iload_n E dX10_cornerIs_96 1 rfl ?_
      refine j_aload_n E dX10_cornerIs_97 0 rfl ?_
      refine j_getr E f_X10_46 (cX_0 hg) 31 rfl dX10_cornerIs_98 ?_
      refine j_geti E f_X10_180 (cX_31 hg) rfl dX10_cornerIs_101 ?_
      refine j_callvI (As := [.int a1, .int (h2.1 31 3)]) (st := []) E (ok_X6_openPipesOf hg E.2.2.2.2.2.2.2.1 N a1 (h2.1 31 3) h2) (cX_3 hg) (cl_X10_183) (⟨Nat.le_of_ble_eq_true rfl, Nat.le_of_ble_eq_true rfl⟩) rfl rfl (Nat.le_of_ble_eq_true rfl) dX10_cornerIs_104 (fun t7 h8 => ?_)
      exact j_ireturn E rfl dX10_cornerIs_107
    refine j_tab E 5 108 dX10_cornerIs_14 (by decide) (by decide) rfl rfl ?_ (fun hx5 => ?_)
    · refine j_aload_n E dX10_cornerIs_108 0 rfl ?_
      refine j_getr E f_X10_19 (cX_0 hg) 3 rfl dX10_cornerIs_109 ?_
      refine j_iload_n E dX10_cornerIs_112 1 rfl ?_
      refine j_aload_n E dX10_cornerIs_113 0 rfl ?_
      refine j_getr E f_X10_46 (cX_0 hg) 31 rfl dX10_cornerIs_114 ?_
      refine j_geti E f_X10_180 (cX_31 hg) rfl dX10_cornerIs_117 ?_
      refine j_callvI (As := [.int a1, .int (h2.1 31 3)]) (st := []) E (ok_X6_besides hg E.2.2.2.2.2.2.2.1 N a1 (h2.1 31 3) h2) (cX_3 hg) (cl_X10_187) (⟨Nat.le_of_ble_eq_true rfl, Nat.le_of_ble_eq_true rfl⟩) rfl rfl (Nat.le_of_ble_eq_true rfl) dX10_cornerIs_120 (fun t9 h10 => ?_)
      exact j_ireturn E rfl dX10_cornerIs_123
    refine j_tdef E 124 [0, 1, 2, 3, 4, 5] (by intro vq hq; simp only [List.mem_cons, List.not_mem_nil, or_false] at hq; rcases hq with rfl | rfl | rfl | rfl | rfl | rfl <;> assumption) dX10_cornerIs_14 (by decide) (by decide) rfl ?_
    refine j_iconst E (v := (-1)) dX10_cornerIs_124 (by decide) ?_
    exact j_ireturn E rfl dX10_cornerIs_125
  · refine j_iconst E (v := (-1)) dX10_cornerIs_11 (by decide) ?_
    exact j_ireturn E rfl dX10_cornerIs_12
theorem ok_X10_cornerIs {g : GC} (hg : isGX g) (hI : gI g) (N : Nat) (a1 : Int32) (a2 : Int32) (h : HP) : Ok g yX10_cornerIs mX10_cornerIs [.ref (g.2.2.1 0), .int a1, .int a2] h (xX10_cornerIs N a1 a2 h) := Ok.of hI (by decide) rfl (Nat.le_of_ble_eq_true rfl) (fun X E => jxX10_cornerIs hg N E a1 a2 h)
set_option maxRecDepth 20000 in
set_option maxHeartbeats 4000000 in
theorem jxX10_pipeIs_15 {g : GC} (hg : isGX g) {X : MX} (E : JE g mX10_pipeIs X) (h : HP) : J g mX10_pipeIs X 15 [] [] h (xX10_pipeIs_15 h) := by
  unfold xX10_pipeIs_15
  refine j_iconst E (v := (-1)) dX10_pipeIs_15 (by decide) ?_
  exact j_ireturn E rfl dX10_pipeIs_16
set_option maxRecDepth 20000 in
set_option maxHeartbeats 4000000 in
theorem jxX10_pipeIs {g : GC} (hg : isGX g) {X : MX} (E : JE g mX10_pipeIs X) (a1 : Int32) (a2 : Int32) (h : HP) : J g mX10_pipeIs X 0 [(0, .ref (g.2.2.1 0)), (1, .int a1), (2, .int a2)] [] h (xX10_pipeIs a1 a2 h) := by
  unfold xX10_pipeIs
  refine j_iload_n E dX10_pipeIs_0 1 rfl ?_
  refine j_if_lt E 15 dX10_pipeIs_1 rfl ?_ ?_
  · exact j_sub [] (lv1 := []) rfl (jxX10_pipeIs_15 hg E h)
  · refine j_iload_n E dX10_pipeIs_4 1 rfl ?_
    refine j_aload_n E dX10_pipeIs_5 0 rfl ?_
    refine j_getr E f_X10_19 (cX_0 hg) 3 rfl dX10_pipeIs_6 ?_
    refine j_geti E f_X10_133 (cX_3 hg) rfl dX10_pipeIs_9 ?_
    refine j_cmp_lt E 17 dX10_pipeIs_12 rfl ?_ ?_
    · refine j_iload_n E dX10_pipeIs_17 2 rfl ?_
      refine j_tab E 0 48 dX10_pipeIs_18 (by decide) (by decide) rfl rfl ?_ (fun hx0 => ?_)
      · refine j_aload_n E dX10_pipeIs_48 0 rfl ?_
        refine j_getr E f_X10_19 (cX_0 hg) 3 rfl dX10_pipeIs_49 ?_
        refine j_getr E f_X10_190 (cX_3 hg) 5 rfl dX10_pipeIs_52 ?_
        refine j_iload_n E dX10_pipeIs_55 1 rfl ?_
        refine j_iald E (cX_5 hg) dX10_pipeIs_56 (fun t1 => ?_)
        exact j_ireturn E rfl dX10_pipeIs_57
      refine j_tab E 1 58 dX10_pipeIs_18 (by decide) (by decide) rfl rfl ?_ (fun hx1 => ?_)
      · refine j_aload_n E dX10_pipeIs_58 0 rfl ?_
        refine j_getr E f_X10_19 (cX_0 hg) 3 rfl dX10_pipeIs_59 ?_
        refine j_getr E f_X10_193 (cX_3 hg) 6 rfl dX10_pipeIs_62 ?_
        refine j_iload_n E dX10_pipeIs_65 1 rfl ?_
        refine j_iald E (cX_6 hg) dX10_pipeIs_66 (fun t2 => ?_)
        exact j_ireturn E rfl dX10_pipeIs_67
      refine j_tab E 2 68 dX10_pipeIs_18 (by decide) (by decide) rfl rfl ?_ (fun hx2 => ?_)
      · refine j_aload_n E dX10_pipeIs_68 0 rfl ?_
        refine j_getr E f_X10_19 (cX_0 hg) 3 rfl dX10_pipeIs_69 ?_
        refine j_getr E f_X10_196 (cX_3 hg) 7 rfl dX10_pipeIs_72 ?_
        refine j_iload_n E dX10_pipeIs_75 1 rfl ?_
        refine j_iald E (cX_7 hg) dX10_pipeIs_76 (fun t3 => ?_)
        exact j_ireturn E rfl dX10_pipeIs_77
      refine j_tab E 3 78 dX10_pipeIs_18 (by decide) (by decide) rfl rfl ?_ (fun hx3 => ?_)
      · refine j_aload_n E dX10_pipeIs_78 0 rfl ?_
        refine j_getr E f_X10_46 (cX_0 hg) 31 rfl dX10_pipeIs_79 ?_
        refine j_geti E f_X10_180 (cX_31 hg) rfl dX10_pipeIs_82 ?_
        refine j_iload_n E dX10_pipeIs_85 1 rfl ?_
        refine j_ishr E dX10_pipeIs_86 ?_
        refine j_iconst E (v := 1) dX10_pipeIs_87 (by decide) ?_
        refine j_iand E dX10_pipeIs_88 ?_
        exact j_ireturn E rfl dX10_pipeIs_89
      refine j_tdef E 90 [0, 1, 2, 3] (by intro vq hq; simp only [List.mem_cons, List.not_mem_nil, or_false] at hq; rcases hq with rfl | rfl | rfl | rfl <;> assumption) dX10_pipeIs_18 (by decide) (by decide) rfl ?_
      refine j_iconst E (v := (-1)) dX10_pipeIs_90 (by decide) ?_
      exact j_ireturn E rfl dX10_pipeIs_91
    · exact j_sub [] (lv1 := []) rfl (jxX10_pipeIs_15 hg E h)
theorem ok_X10_pipeIs {g : GC} (hg : isGX g) (hI : gI g) (a1 : Int32) (a2 : Int32) (h : HP) : Ok g yX10_pipeIs mX10_pipeIs [.ref (g.2.2.1 0), .int a1, .int a2] h (xX10_pipeIs a1 a2 h) := Ok.of hI (by decide) rfl (Nat.le_of_ble_eq_true rfl) (fun X E => jxX10_pipeIs hg E a1 a2 h)
set_option maxRecDepth 20000 in
set_option maxHeartbeats 4000000 in
theorem jxX10_dry_18 {g : GC} (hg : isGX g) {X : MX} (N : Nat) (E : JE g mX10_dry X) (h : HP) : J g mX10_dry X 18 [] [] h (xX10_dry_18 N h) := by
  unfold xX10_dry_18
  refine j_iconst E (v := (-1)) dX10_dry_18 (by decide) ?_
  exact j_ireturn E rfl dX10_dry_19
set_option maxRecDepth 20000 in
set_option maxHeartbeats 4000000 in
theorem jxX10_dry_33 {g : GC} (hg : isGX g) {X : MX} (N : Nat) (E : JE g mX10_dry X) : ∀ (n : Nat) (a1 : Int32) (a2 : Int32) (a3 : Int32) (h : HP), J g mX10_dry X 33 [(0, .ref (g.2.2.1 0)), (1, .int a1), (2, .int a2), (3, .int a3)] [] h (xX10_dry_33 N n a1 a2 a3 h) := by
  intro n
  induction n with
  | zero => intro a1 a2 a3 h; exact j_none
  | succ n ih =>
    intro a1 a2 a3 h
    unfold xX10_dry_33
    refine j_iload_n E dX10_dry_33 3 rfl ?_
    refine j_iload_n E dX10_dry_34 2 rfl ?_
    refine j_cmp_gt E 71 dX10_dry_35 rfl ?_ ?_
    · refine j_bipush E (v := (-2)) dX10_dry_71 (by decide) ?_
      exact j_ireturn E rfl dX10_dry_73
    · refine j_aload_n E dX10_dry_38 0 rfl ?_
      refine j_getr E f_X10_53 (cX_0 hg) 39 rfl dX10_dry_39 ?_
      refine j_getr E f_X10_161 (cX_39 hg) 40 rfl dX10_dry_42 ?_
      refine j_iload_n E dX10_dry_45 1 rfl ?_
      refine j_iald E (cX_40 hg) dX10_dry_46 (fun t1 => ?_)
      refine j_if_ne E 52 dX10_dry_47 rfl ?_ ?_
      · refine j_aload_n E dX10_dry_52 0 rfl ?_
        refine j_getr E f_X10_61 (cX_0 hg) 43 rfl dX10_dry_53 ?_
        refine j_iconst E (v := 1) dX10_dry_56 (by decide) ?_
        refine j_aload_n E dX10_dry_57 0 rfl ?_
        refine j_getr E f_X10_53 (cX_0 hg) 39 rfl dX10_dry_58 ?_
        refine j_callvI (As := [.int 1, .ref (g.2.2.1 39)]) (st := []) E (ok_X8_pass hg E.2.2.2.2.2.2.2.1 N 39 (by decide) 1 h) (cX_43 hg) (cl_X10_152) (⟨Nat.le_of_ble_eq_true rfl, Nat.le_of_ble_eq_true rfl⟩) rfl rfl (Nat.le_of_ble_eq_true rfl) dX10_dry_61 (fun t2 h3 => ?_)
        refine j_pop E dX10_dry_64 rfl ?_
        refine j_iinc E (c := 1) dX10_dry_65 3 rfl (by decide) (Nat.le_of_ble_eq_true rfl) (fun v4 => [(3, .int v4), (0, .ref (g.2.2.1 0)), (1, .int a1), (2, .int a2)]) (fun _ => rfl) (fun v4 => ?_)
        refine j_goto E 33 dX10_dry_68 rfl ?_
        exact j_sub [1, 2, 3, 0] (lv1 := [(0, .ref (g.2.2.1 0)), (1, .int a1), (2, .int a2), (3, .int v4)]) rfl (ih a1 a2 v4 h3)
      · refine j_iload_n E dX10_dry_50 3 rfl ?_
        exact j_ireturn E rfl dX10_dry_51
set_option maxRecDepth 20000 in
set_option maxHeartbeats 4000000 in
theorem jxX10_dry {g : GC} (hg : isGX g) {X : MX} (N : Nat) (E : JE g mX10_dry X) (a1 : Int32) (a2 : Int32) (h : HP) : J g mX10_dry X 0 [(0, .ref (g.2.2.1 0)), (1, .int a1), (2, .int a2)] [] h (xX10_dry N a1 a2 h) := by
  unfold xX10_dry
  refine j_aload_n E dX10_dry_0 0 rfl ?_
  refine j_getr E f_X10_19 (cX_0 hg) 3 rfl dX10_dry_1 ?_
  refine j_iload_n E dX10_dry_4 1 rfl ?_
  refine j_callvI (As := [.int a1]) (st := []) E (ok_X6_isTold hg E.2.2.2.2.2.2.2.1 a1 h) (cX_3 hg) (cl_X10_156) (⟨Nat.le_of_ble_eq_true rfl, Nat.le_of_ble_eq_true rfl⟩) rfl rfl (Nat.le_of_ble_eq_true rfl) dX10_dry_5 (fun t1 h2 => ?_)
  refine j_if_eq E 18 dX10_dry_8 rfl ?_ ?_
  · exact j_sub [] (lv1 := []) rfl (jxX10_dry_18 hg N E h2)
  · refine j_iload_n E dX10_dry_11 2 rfl ?_
    refine j_callsI (As := [.int a2]) (st := []) E (ok_X10_isSpan hg E.2.2.2.2.2.2.2.1 a2 h2) (cl_X10_148) (⟨Nat.le_of_ble_eq_true rfl, Nat.le_of_ble_eq_true rfl⟩) rfl rfl (Nat.le_of_ble_eq_true rfl) dX10_dry_12 (fun t3 h4 => ?_)
    refine j_if_ne E 20 dX10_dry_15 rfl ?_ ?_
    · refine j_aload_n E dX10_dry_20 0 rfl ?_
      refine j_getr E f_X10_53 (cX_0 hg) 39 rfl dX10_dry_21 ?_
      refine j_aload_n E dX10_dry_24 0 rfl ?_
      refine j_getr E f_X10_46 (cX_0 hg) 31 rfl dX10_dry_25 ?_
      refine j_callvV (As := [.ref (g.2.2.1 31)]) (st := []) E (ok_X5_become hg E.2.2.2.2.2.2.2.1 39 (by decide) h4) (cX_39 hg) (cl_X10_159) (⟨Nat.le_of_ble_eq_true rfl, Nat.le_of_ble_eq_true rfl⟩) rfl rfl (Nat.le_of_ble_eq_true rfl) dX10_dry_28 (fun t5 h6 => ?_)
      refine j_iconst E (v := 0) dX10_dry_31 (by decide) ?_
      refine j_istore0_n E dX10_dry_32 (Nat.le_of_ble_eq_true rfl) [(3, .int 0), (0, .ref (g.2.2.1 0)), (1, .int a1), (2, .int a2)] rfl ?_
      exact j_sub [1, 2, 3, 0] (lv1 := [(0, .ref (g.2.2.1 0)), (1, .int a1), (2, .int a2), (3, .int 0)]) rfl (jxX10_dry_33 hg N E N a1 a2 0 h6)
    · exact j_sub [] (lv1 := []) rfl (jxX10_dry_18 hg N E h4)
theorem ok_X10_dry {g : GC} (hg : isGX g) (hI : gI g) (N : Nat) (a1 : Int32) (a2 : Int32) (h : HP) : Ok g yX10_dry mX10_dry [.ref (g.2.2.1 0), .int a1, .int a2] h (xX10_dry N a1 a2 h) := Ok.of hI (by decide) rfl (Nat.le_of_ble_eq_true rfl) (fun X E => jxX10_dry hg N E a1 a2 h)
set_option maxRecDepth 20000 in
set_option maxHeartbeats 4000000 in
theorem jxX10_areTwo_32 {g : GC} (hg : isGX g) {X : MX} (E : JE g mX10_areTwo X) (s0 : Int32) (h : HP) : J g mX10_areTwo X 32 [] [.int s0] h (xX10_areTwo_32 s0 h) := by
  unfold xX10_areTwo_32
  exact j_zreturn E rfl dX10_areTwo_32
set_option maxRecDepth 20000 in
set_option maxHeartbeats 4000000 in
theorem jxX10_areTwo_31 {g : GC} (hg : isGX g) {X : MX} (E : JE g mX10_areTwo X) (h : HP) : J g mX10_areTwo X 31 [] [] h (xX10_areTwo_31 h) := by
  unfold xX10_areTwo_31
  refine j_iconst E (v := 0) dX10_areTwo_31 (by decide) ?_
  exact jxX10_areTwo_32 hg E 0 h
set_option maxRecDepth 20000 in
set_option maxHeartbeats 4000000 in
theorem jxX10_areTwo {g : GC} (hg : isGX g) {X : MX} (E : JE g mX10_areTwo X) (a1 : Int32) (a2 : Int32) (h : HP) : J g mX10_areTwo X 0 [(0, .ref (g.2.2.1 0)), (1, .int a1), (2, .int a2)] [] h (xX10_areTwo a1 a2 h) := by
  unfold xX10_areTwo
  refine j_aload_n E dX10_areTwo_0 0 rfl ?_
  refine j_getr E f_X10_19 (cX_0 hg) 3 rfl dX10_areTwo_1 ?_
  refine j_iload_n E dX10_areTwo_4 1 rfl ?_
  refine j_callvI (As := [.int a1]) (st := []) E (ok_X6_isTold hg E.2.2.2.2.2.2.2.1 a1 h) (cX_3 hg) (cl_X10_156) (⟨Nat.le_of_ble_eq_true rfl, Nat.le_of_ble_eq_true rfl⟩) rfl rfl (Nat.le_of_ble_eq_true rfl) dX10_areTwo_5 (fun t1 h2 => ?_)
  refine j_if_eq E 31 dX10_areTwo_8 rfl ?_ ?_
  · exact j_sub [] (lv1 := []) rfl (jxX10_areTwo_31 hg E h2)
  · refine j_aload_n E dX10_areTwo_11 0 rfl ?_
    refine j_getr E f_X10_19 (cX_0 hg) 3 rfl dX10_areTwo_12 ?_
    refine j_iload_n E dX10_areTwo_15 2 rfl ?_
    refine j_callvI (As := [.int a2]) (st := []) E (ok_X6_isTold hg E.2.2.2.2.2.2.2.1 a2 h2) (cX_3 hg) (cl_X10_156) (⟨Nat.le_of_ble_eq_true rfl, Nat.le_of_ble_eq_true rfl⟩) rfl rfl (Nat.le_of_ble_eq_true rfl) dX10_areTwo_16 (fun t3 h4 => ?_)
    refine j_if_eq E 31 dX10_areTwo_19 rfl ?_ ?_
    · exact j_sub [] (lv1 := []) rfl (jxX10_areTwo_31 hg E h4)
    · refine j_iload_n E dX10_areTwo_22 1 rfl ?_
      refine j_iload_n E dX10_areTwo_23 2 rfl ?_
      refine j_cmp_eq E 31 dX10_areTwo_24 rfl ?_ ?_
      · exact j_sub [] (lv1 := []) rfl (jxX10_areTwo_31 hg E h4)
      · refine j_iconst E (v := 1) dX10_areTwo_27 (by decide) ?_
        refine j_goto E 32 dX10_areTwo_28 rfl ?_
        exact j_sub [] (lv1 := []) rfl (jxX10_areTwo_32 hg E 1 h4)
theorem ok_X10_areTwo {g : GC} (hg : isGX g) (hI : gI g) (a1 : Int32) (a2 : Int32) (h : HP) : Ok g yX10_areTwo mX10_areTwo [.ref (g.2.2.1 0), .int a1, .int a2] h (xX10_areTwo a1 a2 h) := Ok.of hI (by decide) rfl (Nat.le_of_ble_eq_true rfl) (fun X E => jxX10_areTwo hg E a1 a2 h)
set_option maxRecDepth 20000 in
set_option maxHeartbeats 4000000 in
theorem jxX10_most_18 {g : GC} (hg : isGX g) {X : MX} (N : Nat) (E : JE g mX10_most X) (h : HP) : J g mX10_most X 18 [] [] h (xX10_most_18 N h) := by
  unfold xX10_most_18
  refine j_iconst E (v := (-1)) dX10_most_18 (by decide) ?_
  exact j_ireturn E rfl dX10_most_19
set_option maxRecDepth 20000 in
set_option maxHeartbeats 4000000 in
theorem jxX10_most_55 {g : GC} (hg : isGX g) {X : MX} (N : Nat) (E : JE g mX10_most X) (s0 : Int32) (h : HP) : J g mX10_most X 55 [] [.int s0] h (xX10_most_55 N s0 h) := by
  unfold xX10_most_55
  exact j_ireturn E rfl dX10_most_55
set_option maxRecDepth 20000 in
set_option maxHeartbeats 4000000 in
theorem jxX10_most {g : GC} (hg : isGX g) {X : MX} (N : Nat) (E : JE g mX10_most X) (a1 : Int32) (a2 : Int32) (a3 : Int32) (h : HP) : J g mX10_most X 0 [(0, .ref (g.2.2.1 0)), (1, .int a1), (2, .int a2), (3, .int a3)] [] h (xX10_most N a1 a2 a3 h) := by
  unfold xX10_most
  refine j_aload_n E dX10_most_0 0 rfl ?_
  refine j_iload_n E dX10_most_1 1 rfl ?_
  refine j_iload_n E dX10_most_2 2 rfl ?_
  refine j_callvI (As := [.int a1, .int a2]) (st := []) E (ok_X10_areTwo hg E.2.2.2.2.2.2.2.1 a1 a2 h) (cX_0 hg) (cl_X10_199) (⟨Nat.le_of_ble_eq_true rfl, Nat.le_of_ble_eq_true rfl⟩) rfl rfl (Nat.le_of_ble_eq_true rfl) dX10_most_3 (fun t1 h2 => ?_)
  refine j_if_eq E 18 dX10_most_6 rfl ?_ ?_
  · exact j_sub [] (lv1 := []) rfl (jxX10_most_18 hg N E h2)
  · refine j_iload_n E dX10_most_9 3 rfl ?_
    refine j_if_lt E 18 dX10_most_10 rfl ?_ ?_
    · exact j_sub [] (lv1 := []) rfl (jxX10_most_18 hg N E h2)
    · refine j_iload_n E dX10_most_13 3 rfl ?_
      refine j_iconst E (v := 1) dX10_most_14 (by decide) ?_
      refine j_cmp_le E 20 dX10_most_15 rfl ?_ ?_
      · refine j_aload_n E dX10_most_20 0 rfl ?_
        refine j_getr E f_X10_77 (cX_0 hg) 49 rfl dX10_most_21 ?_
        refine j_iload_n E dX10_most_24 1 rfl ?_
        refine j_iload_n E dX10_most_25 2 rfl ?_
        refine j_aload_n E dX10_most_26 0 rfl ?_
        refine j_getr E f_X10_46 (cX_0 hg) 31 rfl dX10_most_27 ?_
        refine j_geti E f_X10_180 (cX_31 hg) rfl dX10_most_30 ?_
        refine j_iconst E (v := 0) dX10_most_33 (by decide) ?_
        refine j_callvI (As := [.int a1, .int a2, .int (h2.1 31 3), .int 0]) (st := []) E (ok_X1_push hg E.2.2.2.2.2.2.2.1 N a1 a2 (h2.1 31 3) 0 h2) (cX_49 hg) (cl_X10_203) (⟨Nat.le_of_ble_eq_true rfl, Nat.le_of_ble_eq_true rfl⟩) rfl rfl (Nat.le_of_ble_eq_true rfl) dX10_most_34 (fun t3 h4 => ?_)
        refine j_istore0 E dX10_most_37 (Nat.le_of_ble_eq_true rfl) [(4, .int t3), (0, .ref (g.2.2.1 0)), (1, .int a1), (2, .int a2), (3, .int a3)] rfl ?_
        refine j_iload_n E dX10_most_39 4 rfl ?_
        refine j_if_ne E 48 dX10_most_40 rfl ?_ ?_
        · refine j_aload_n E dX10_most_48 1 rfl ?_
          refine j_getr E f_X10_77 (cX_0 hg) 49 rfl dX10_most_49 ?_
          refine j_geti E f_X10_207 (cX_49 hg) rfl dX10_most_52 ?_
          exact j_sub [] (lv1 := []) rfl (jxX10_most_55 hg N E (h4.1 49 3) h4)
        · refine j_iload E dX10_most_43 0 rfl ?_
          refine j_goto E 55 dX10_most_45 rfl ?_
          exact j_sub [] (lv1 := []) rfl (jxX10_most_55 hg N E t3 h4)
      · exact j_sub [] (lv1 := []) rfl (jxX10_most_18 hg N E h2)
theorem ok_X10_most {g : GC} (hg : isGX g) (hI : gI g) (N : Nat) (a1 : Int32) (a2 : Int32) (a3 : Int32) (h : HP) : Ok g yX10_most mX10_most [.ref (g.2.2.1 0), .int a1, .int a2, .int a3] h (xX10_most N a1 a2 a3 h) := Ok.of hI (by decide) rfl (Nat.le_of_ble_eq_true rfl) (fun X E => jxX10_most hg N E a1 a2 a3 h)
set_option maxRecDepth 20000 in
set_option maxHeartbeats 4000000 in
theorem jxX10_cut_30 {g : GC} (hg : isGX g) {X : MX} (N : Nat) (E : JE g mX10_cut X) (s0 : Int32) (h : HP) : J g mX10_cut X 30 [] [.int s0] h (xX10_cut_30 N s0 h) := by
  unfold xX10_cut_30
  exact j_ireturn E rfl dX10_cut_30
set_option maxRecDepth 20000 in
set_option maxHeartbeats 4000000 in
theorem jxX10_cut {g : GC} (hg : isGX g) {X : MX} (N : Nat) (E : JE g mX10_cut X) (a1 : Int32) (a2 : Int32) (h : HP) : J g mX10_cut X 0 [(0, .ref (g.2.2.1 0)), (1, .int a1), (2, .int a2)] [] h (xX10_cut N a1 a2 h) := by
  unfold xX10_cut
  refine j_aload_n E dX10_cut_0 0 rfl ?_
  refine j_iload_n E dX10_cut_1 1 rfl ?_
  refine j_iload_n E dX10_cut_2 2 rfl ?_
  refine j_callvI (As := [.int a1, .int a2]) (st := []) E (ok_X10_areTwo hg E.2.2.2.2.2.2.2.1 a1 a2 h) (cX_0 hg) (cl_X10_199) (⟨Nat.le_of_ble_eq_true rfl, Nat.le_of_ble_eq_true rfl⟩) rfl rfl (Nat.le_of_ble_eq_true rfl) dX10_cut_3 (fun t1 h2 => ?_)
  refine j_if_eq E 29 dX10_cut_6 rfl ?_ ?_
  · refine j_iconst E (v := (-1)) dX10_cut_29 (by decide) ?_
    exact j_sub [] (lv1 := []) rfl (jxX10_cut_30 hg N E (-1) h2)
  · refine j_aload_n E dX10_cut_9 0 rfl ?_
    refine j_getr E f_X10_77 (cX_0 hg) 49 rfl dX10_cut_10 ?_
    refine j_iload_n E dX10_cut_13 1 rfl ?_
    refine j_iload_n E dX10_cut_14 2 rfl ?_
    refine j_aload_n E dX10_cut_15 0 rfl ?_
    refine j_getr E f_X10_46 (cX_0 hg) 31 rfl dX10_cut_16 ?_
    refine j_geti E f_X10_180 (cX_31 hg) rfl dX10_cut_19 ?_
    refine j_iconst E (v := 1) dX10_cut_22 (by decide) ?_
    refine j_callvI (As := [.int a1, .int a2, .int (h2.1 31 3), .int 1]) (st := []) E (ok_X1_push hg E.2.2.2.2.2.2.2.1 N a1 a2 (h2.1 31 3) 1 h2) (cX_49 hg) (cl_X10_203) (⟨Nat.le_of_ble_eq_true rfl, Nat.le_of_ble_eq_true rfl⟩) rfl rfl (Nat.le_of_ble_eq_true rfl) dX10_cut_23 (fun t3 h4 => ?_)
    refine j_goto E 30 dX10_cut_26 rfl ?_
    exact j_sub [] (lv1 := []) rfl (jxX10_cut_30 hg N E t3 h4)
theorem ok_X10_cut {g : GC} (hg : isGX g) (hI : gI g) (N : Nat) (a1 : Int32) (a2 : Int32) (h : HP) : Ok g yX10_cut mX10_cut [.ref (g.2.2.1 0), .int a1, .int a2] h (xX10_cut N a1 a2 h) := Ok.of hI (by decide) rfl (Nat.le_of_ble_eq_true rfl) (fun X E => jxX10_cut hg N E a1 a2 h)
set_option maxRecDepth 20000 in
set_option maxHeartbeats 4000000 in
theorem jxX10_widest {g : GC} (hg : isGX g) {X : MX} (N : Nat) (E : JE g mX10_widest X) (a1 : Int32) (a2 : Int32) (h : HP) : J g mX10_widest X 0 [(0, .ref (g.2.2.1 0)), (1, .int a1), (2, .int a2)] [] h (xX10_widest N a1 a2 h) := by
  unfold xX10_widest
  refine j_aload_n E dX10_widest_0 0 rfl ?_
  refine j_iload_n E dX10_widest_1 1 rfl ?_
  refine j_iload_n E dX10_widest_2 2 rfl ?_
  refine j_callvI (As := [.int a1, .int a2]) (st := []) E (ok_X10_areTwo hg E.2.2.2.2.2.2.2.1 a1 a2 h) (cX_0 hg) (cl_X10_199) (⟨Nat.le_of_ble_eq_true rfl, Nat.le_of_ble_eq_true rfl⟩) rfl rfl (Nat.le_of_ble_eq_true rfl) dX10_widest_3 (fun t1 h2 => ?_)
  refine j_if_ne E 11 dX10_widest_6 rfl ?_ ?_
  · refine j_aload_n E dX10_widest_11 0 rfl ?_
    refine j_getr E f_X10_70 (cX_0 hg) 45 rfl dX10_widest_12 ?_
    refine j_aload_n E dX10_widest_15 0 rfl ?_
    refine j_getr E f_X10_46 (cX_0 hg) 31 rfl dX10_widest_16 ?_
    refine j_geti E f_X10_180 (cX_31 hg) rfl dX10_widest_19 ?_
    refine j_callvV (As := [.int (h2.1 31 3)]) (st := []) E (ok_X3_look hg E.2.2.2.2.2.2.2.1 N (h2.1 31 3) h2) (cX_45 hg) (cl_X10_210) (⟨Nat.le_of_ble_eq_true rfl, Nat.le_of_ble_eq_true rfl⟩) rfl rfl (Nat.le_of_ble_eq_true rfl) dX10_widest_22 (fun t3 h4 => ?_)
    refine j_aload_n E dX10_widest_25 0 rfl ?_
    refine j_getr E f_X10_70 (cX_0 hg) 45 rfl dX10_widest_26 ?_
    refine j_iload_n E dX10_widest_29 1 rfl ?_
    refine j_iload_n E dX10_widest_30 2 rfl ?_
    refine j_callvI (As := [.int a1, .int a2]) (st := []) E (ok_X3_widestWay hg E.2.2.2.2.2.2.2.1 N a1 a2 h4) (cX_45 hg) (cl_X10_213) (⟨Nat.le_of_ble_eq_true rfl, Nat.le_of_ble_eq_true rfl⟩) rfl rfl (Nat.le_of_ble_eq_true rfl) dX10_widest_31 (fun t5 h6 => ?_)
    exact j_ireturn E rfl dX10_widest_34
  · refine j_iconst E (v := (-1)) dX10_widest_9 (by decide) ?_
    exact j_ireturn E rfl dX10_widest_10
theorem ok_X10_widest {g : GC} (hg : isGX g) (hI : gI g) (N : Nat) (a1 : Int32) (a2 : Int32) (h : HP) : Ok g yX10_widest mX10_widest [.ref (g.2.2.1 0), .int a1, .int a2] h (xX10_widest N a1 a2 h) := Ok.of hI (by decide) rfl (Nat.le_of_ble_eq_true rfl) (fun X E => jxX10_widest hg N E a1 a2 h)
set_option maxRecDepth 20000 in
set_option maxHeartbeats 4000000 in
theorem jxX10_steps_22 {g : GC} (hg : isGX g) {X : MX} (N : Nat) (E : JE g mX10_steps X) (h : HP) : J g mX10_steps X 22 [] [] h (xX10_steps_22 N h) := by
  unfold xX10_steps_22
  refine j_iconst E (v := (-1)) dX10_steps_22 (by decide) ?_
  exact j_ireturn E rfl dX10_steps_23
set_option maxRecDepth 20000 in
set_option maxHeartbeats 4000000 in
theorem jxX10_steps {g : GC} (hg : isGX g) {X : MX} (N : Nat) (E : JE g mX10_steps X) (a1 : Int32) (a2 : Int32) (h : HP) : J g mX10_steps X 0 [(0, .ref (g.2.2.1 0)), (1, .int a1), (2, .int a2)] [] h (xX10_steps N a1 a2 h) := by
  unfold xX10_steps
  refine j_aload_n E dX10_steps_0 0 rfl ?_
  refine j_getr E f_X10_19 (cX_0 hg) 3 rfl dX10_steps_1 ?_
  refine j_iload_n E dX10_steps_4 1 rfl ?_
  refine j_callvI (As := [.int a1]) (st := []) E (ok_X6_isTold hg E.2.2.2.2.2.2.2.1 a1 h) (cX_3 hg) (cl_X10_156) (⟨Nat.le_of_ble_eq_true rfl, Nat.le_of_ble_eq_true rfl⟩) rfl rfl (Nat.le_of_ble_eq_true rfl) dX10_steps_5 (fun t1 h2 => ?_)
  refine j_if_eq E 22 dX10_steps_8 rfl ?_ ?_
  · exact j_sub [] (lv1 := []) rfl (jxX10_steps_22 hg N E h2)
  · refine j_aload_n E dX10_steps_11 0 rfl ?_
    refine j_getr E f_X10_19 (cX_0 hg) 3 rfl dX10_steps_12 ?_
    refine j_iload_n E dX10_steps_15 2 rfl ?_
    refine j_callvI (As := [.int a2]) (st := []) E (ok_X6_isTold hg E.2.2.2.2.2.2.2.1 a2 h2) (cX_3 hg) (cl_X10_156) (⟨Nat.le_of_ble_eq_true rfl, Nat.le_of_ble_eq_true rfl⟩) rfl rfl (Nat.le_of_ble_eq_true rfl) dX10_steps_16 (fun t3 h4 => ?_)
    refine j_if_ne E 24 dX10_steps_19 rfl ?_ ?_
    · refine j_aload_n E dX10_steps_24 0 rfl ?_
      refine j_getr E f_X10_70 (cX_0 hg) 45 rfl dX10_steps_25 ?_
      refine j_aload_n E dX10_steps_28 0 rfl ?_
      refine j_getr E f_X10_46 (cX_0 hg) 31 rfl dX10_steps_29 ?_
      refine j_geti E f_X10_180 (cX_31 hg) rfl dX10_steps_32 ?_
      refine j_callvV (As := [.int (h4.1 31 3)]) (st := []) E (ok_X3_look hg E.2.2.2.2.2.2.2.1 N (h4.1 31 3) h4) (cX_45 hg) (cl_X10_210) (⟨Nat.le_of_ble_eq_true rfl, Nat.le_of_ble_eq_true rfl⟩) rfl rfl (Nat.le_of_ble_eq_true rfl) dX10_steps_35 (fun t5 h6 => ?_)
      refine j_aload_n E dX10_steps_38 0 rfl ?_
      refine j_getr E f_X10_70 (cX_0 hg) 45 rfl dX10_steps_39 ?_
      refine j_iload_n E dX10_steps_42 1 rfl ?_
      refine j_iload_n E dX10_steps_43 2 rfl ?_
      refine j_callvI (As := [.int a1, .int a2]) (st := []) E (ok_X3_stepsBetween hg E.2.2.2.2.2.2.2.1 N a1 a2 h6) (cX_45 hg) (cl_X10_216) (⟨Nat.le_of_ble_eq_true rfl, Nat.le_of_ble_eq_true rfl⟩) rfl rfl (Nat.le_of_ble_eq_true rfl) dX10_steps_44 (fun t7 h8 => ?_)
      exact j_ireturn E rfl dX10_steps_47
    · exact j_sub [] (lv1 := []) rfl (jxX10_steps_22 hg N E h4)
theorem ok_X10_steps {g : GC} (hg : isGX g) (hI : gI g) (N : Nat) (a1 : Int32) (a2 : Int32) (h : HP) : Ok g yX10_steps mX10_steps [.ref (g.2.2.1 0), .int a1, .int a2] h (xX10_steps N a1 a2 h) := Ok.of hI (by decide) rfl (Nat.le_of_ble_eq_true rfl) (fun X E => jxX10_steps hg N E a1 a2 h)
set_option maxRecDepth 20000 in
set_option maxHeartbeats 4000000 in
theorem jxX10_bridges_9 {g : GC} (hg : isGX g) {X : MX} (N : Nat) (E : JE g mX10_bridges X) (h : HP) : J g mX10_bridges X 9 [] [] h (xX10_bridges_9 N h) := by
  unfold xX10_bridges_9
  refine j_iconst E (v := (-1)) dX10_bridges_9 (by decide) ?_
  exact j_ireturn E rfl dX10_bridges_10
set_option maxRecDepth 20000 in
set_option maxHeartbeats 4000000 in
theorem jxX10_bridges_48 {g : GC} (hg : isGX g) {X : MX} (N : Nat) (E : JE g mX10_bridges X) (s0 : Int32) (h : HP) : J g mX10_bridges X 48 [] [.int s0] h (xX10_bridges_48 N s0 h) := by
  unfold xX10_bridges_48
  exact j_ireturn E rfl dX10_bridges_48
set_option maxRecDepth 20000 in
set_option maxHeartbeats 4000000 in
theorem jxX10_bridges {g : GC} (hg : isGX g) {X : MX} (N : Nat) (E : JE g mX10_bridges X) (a1 : Int32) (h : HP) : J g mX10_bridges X 0 [(0, .ref (g.2.2.1 0)), (1, .int a1)] [] h (xX10_bridges N a1 h) := by
  unfold xX10_bridges
  refine j_iload_n E dX10_bridges_0 1 rfl ?_
  refine j_if_lt E 9 dX10_bridges_1 rfl ?_ ?_
  · exact j_sub [] (lv1 := []) rfl (jxX10_bridges_9 hg N E h)
  · refine j_iload_n E dX10_bridges_4 1 rfl ?_
    refine j_iconst E (v := 1) dX10_bridges_5 (by decide) ?_
    refine j_cmp_le E 11 dX10_bridges_6 rfl ?_ ?_
    · refine j_aload_n E dX10_bridges_11 0 rfl ?_
      refine j_getr E f_X10_70 (cX_0 hg) 45 rfl dX10_bridges_12 ?_
      refine j_aload_n E dX10_bridges_15 0 rfl ?_
      refine j_getr E f_X10_46 (cX_0 hg) 31 rfl dX10_bridges_16 ?_
      refine j_geti E f_X10_180 (cX_31 hg) rfl dX10_bridges_19 ?_
      refine j_callvI (As := [.int (h.1 31 3)]) (st := []) E (ok_X3_bridgeBits hg E.2.2.2.2.2.2.2.1 N (h.1 31 3) h) (cX_45 hg) (cl_X10_219) (⟨Nat.le_of_ble_eq_true rfl, Nat.le_of_ble_eq_true rfl⟩) rfl rfl (Nat.le_of_ble_eq_true rfl) dX10_bridges_22 (fun t1 h2 => ?_)
      refine j_istore0_n E dX10_bridges_25 (Nat.le_of_ble_eq_true rfl) [(2, .int t1), (0, .ref (g.2.2.1 0)), (1, .int a1)] rfl ?_
      refine j_iload_n E dX10_bridges_26 2 rfl ?_
      refine j_if_ne E 35 dX10_bridges_27 rfl ?_ ?_
      · refine j_iload_n E dX10_bridges_35 0 rfl ?_
        refine j_if_ne E 44 dX10_bridges_36 rfl ?_ ?_
        · refine j_iload_n E dX10_bridges_44 0 rfl ?_
          refine j_callsI (As := [.int t1]) (st := []) E (ok_X10_lowest hg E.2.2.2.2.2.2.2.1 t1 h2) (cl_X10_228) (⟨Nat.le_of_ble_eq_true rfl, Nat.le_of_ble_eq_true rfl⟩) rfl rfl (Nat.le_of_ble_eq_true rfl) dX10_bridges_45 (fun t3 h4 => ?_)
          exact j_sub [] (lv1 := []) rfl (jxX10_bridges_48 hg N E t3 h4)
        · refine j_bipush E (v := (-2)) dX10_bridges_39 (by decide) ?_
          refine j_goto E 48 dX10_bridges_41 rfl ?_
          exact j_sub [] (lv1 := []) rfl (jxX10_bridges_48 hg N E (-2) h2)
      · refine j_iload_n E dX10_bridges_30 0 rfl ?_
        refine j_callsI (As := [.int t1]) (st := []) E (ok_J6_bitCount_0f7a4 hg E.2.2.2.2.2.2.2.1 t1 h2) (cl_X10_223) (⟨Nat.le_of_ble_eq_true rfl, Nat.le_of_ble_eq_true rfl⟩) rfl rfl (Nat.le_of_ble_eq_true rfl) dX10_bridges_31 (fun t5 h6 => ?_)
        exact j_ireturn E rfl dX10_bridges_34
    · exact j_sub [] (lv1 := []) rfl (jxX10_bridges_9 hg N E h)
theorem ok_X10_bridges {g : GC} (hg : isGX g) (hI : gI g) (N : Nat) (a1 : Int32) (h : HP) : Ok g yX10_bridges mX10_bridges [.ref (g.2.2.1 0), .int a1] h (xX10_bridges N a1 h) := Ok.of hI (by decide) rfl (Nat.le_of_ble_eq_true rfl) (fun X E => jxX10_bridges hg N E a1 h)
set_option maxRecDepth 20000 in
set_option maxHeartbeats 4000000 in
theorem jxX10_brigades_19 {g : GC} (hg : isGX g) {X : MX} (N : Nat) (E : JE g mX10_brigades X) (h : HP) : J g mX10_brigades X 19 [] [] h (xX10_brigades_19 N h) := by
  unfold xX10_brigades_19
  refine j_iconst E (v := (-1)) dX10_brigades_19 (by decide) ?_
  exact j_ireturn E rfl dX10_brigades_20
set_option maxRecDepth 20000 in
set_option maxHeartbeats 4000000 in
theorem jxX10_brigades_66 {g : GC} (hg : isGX g) {X : MX} (N : Nat) (E : JE g mX10_brigades X) (s0 : Int32) (h : HP) : J g mX10_brigades X 66 [] [.int s0] h (xX10_brigades_66 N s0 h) := by
  unfold xX10_brigades_66
  exact j_ireturn E rfl dX10_brigades_66
set_option maxRecDepth 20000 in
set_option maxHeartbeats 4000000 in
theorem jxX10_brigades {g : GC} (hg : isGX g) {X : MX} (N : Nat) (E : JE g mX10_brigades X) (a1 : Int32) (a2 : Int32) (h : HP) : J g mX10_brigades X 0 [(0, .ref (g.2.2.1 0)), (1, .int a1), (2, .int a2)] [] h (xX10_brigades N a1 a2 h) := by
  unfold xX10_brigades
  refine j_iload_n E dX10_brigades_0 1 rfl ?_
  refine j_iconst E (v := 1) dX10_brigades_1 (by decide) ?_
  refine j_cmp_lt E 19 dX10_brigades_2 rfl ?_ ?_
  · exact j_sub [] (lv1 := []) rfl (jxX10_brigades_19 hg N E h)
  · refine j_iload_n E dX10_brigades_5 1 rfl ?_
    refine j_iconst E (v := 5) dX10_brigades_6 (by decide) ?_
    refine j_cmp_gt E 19 dX10_brigades_7 rfl ?_ ?_
    · exact j_sub [] (lv1 := []) rfl (jxX10_brigades_19 hg N E h)
    · refine j_iload_n E dX10_brigades_10 2 rfl ?_
      refine j_if_lt E 19 dX10_brigades_11 rfl ?_ ?_
      · exact j_sub [] (lv1 := []) rfl (jxX10_brigades_19 hg N E h)
      · refine j_iload_n E dX10_brigades_14 2 rfl ?_
        refine j_iconst E (v := 1) dX10_brigades_15 (by decide) ?_
        refine j_cmp_le E 21 dX10_brigades_16 rfl ?_ ?_
        · refine j_aload_n E dX10_brigades_21 0 rfl ?_
          refine j_getr E f_X10_70 (cX_0 hg) 45 rfl dX10_brigades_22 ?_
          refine j_aload_n E dX10_brigades_25 0 rfl ?_
          refine j_getr E f_X10_46 (cX_0 hg) 31 rfl dX10_brigades_26 ?_
          refine j_geti E f_X10_180 (cX_31 hg) rfl dX10_brigades_29 ?_
          refine j_callvV (As := [.int (h.1 31 3)]) (st := []) E (ok_X3_look hg E.2.2.2.2.2.2.2.1 N (h.1 31 3) h) (cX_45 hg) (cl_X10_210) (⟨Nat.le_of_ble_eq_true rfl, Nat.le_of_ble_eq_true rfl⟩) rfl rfl (Nat.le_of_ble_eq_true rfl) dX10_brigades_32 (fun t1 h2 => ?_)
          refine j_aload_n E dX10_brigades_35 0 rfl ?_
          refine j_getr E f_X10_70 (cX_0 hg) 45 rfl dX10_brigades_36 ?_
          refine j_iload_n E dX10_brigades_39 1 rfl ?_
          refine j_callvI (As := [.int a1]) (st := []) E (ok_X3_bestStand hg E.2.2.2.2.2.2.2.1 N a1 h2) (cX_45 hg) (cl_X10_231) (⟨Nat.le_of_ble_eq_true rfl, Nat.le_of_ble_eq_true rfl⟩) rfl rfl (Nat.le_of_ble_eq_true rfl) dX10_brigades_40 (fun t3 h4 => ?_)
          refine j_istore0_n E dX10_brigades_43 (Nat.le_of_ble_eq_true rfl) [(3, .int t3), (0, .ref (g.2.2.1 0)), (1, .int a1), (2, .int a2)] rfl ?_
          refine j_iload_n E dX10_brigades_44 0 rfl ?_
          refine j_if_ge E 51 dX10_brigades_45 rfl ?_ ?_
          · refine j_iload_n E dX10_brigades_51 3 rfl ?_
            refine j_if_ne E 62 dX10_brigades_52 rfl ?_ ?_
            · refine j_iload_n E dX10_brigades_62 0 rfl ?_
              refine j_ldc E (v := 65535) k_X10_234 dX10_brigades_63 ?_
              refine j_iand E dX10_brigades_65 ?_
              exact j_sub [] (lv1 := []) rfl (jxX10_brigades_66 hg N E (t3 &&& 65535) h4)
            · refine j_iload_n E dX10_brigades_55 0 rfl ?_
              refine j_bipush E (v := 16) dX10_brigades_56 (by decide) ?_
              refine j_ishr E dX10_brigades_58 ?_
              refine j_goto E 66 dX10_brigades_59 rfl ?_
              exact j_sub [] (lv1 := []) rfl (jxX10_brigades_66 hg N E (t3 >>> (16 &&& 31)) h4)
          · refine j_bipush E (v := (-2)) dX10_brigades_48 (by decide) ?_
            exact j_ireturn E rfl dX10_brigades_50
        · exact j_sub [] (lv1 := []) rfl (jxX10_brigades_19 hg N E h)
theorem ok_X10_brigades {g : GC} (hg : isGX g) (hI : gI g) (N : Nat) (a1 : Int32) (a2 : Int32) (h : HP) : Ok g yX10_brigades mX10_brigades [.ref (g.2.2.1 0), .int a1, .int a2] h (xX10_brigades N a1 a2 h) := Ok.of hI (by decide) rfl (Nat.le_of_ble_eq_true rfl) (fun X E => jxX10_brigades hg N E a1 a2 h)
set_option maxRecDepth 20000 in
set_option maxHeartbeats 4000000 in
theorem jxX10_painted {g : GC} (hg : isGX g) {X : MX} (N : Nat) (E : JE g mX10_painted X) (a1 : Int32) (h : HP) : J g mX10_painted X 0 [(0, .ref (g.2.2.1 0)), (1, .int a1)] [] h (xX10_painted N a1 h) := by
  unfold xX10_painted
  refine j_aload_n E dX10_painted_0 0 rfl ?_
  refine j_getr E f_X10_19 (cX_0 hg) 3 rfl dX10_painted_1 ?_
  refine j_iload_n E dX10_painted_4 1 rfl ?_
  refine j_callvI (As := [.int a1]) (st := []) E (ok_X6_isTold hg E.2.2.2.2.2.2.2.1 a1 h) (cX_3 hg) (cl_X10_156) (⟨Nat.le_of_ble_eq_true rfl, Nat.le_of_ble_eq_true rfl⟩) rfl rfl (Nat.le_of_ble_eq_true rfl) dX10_painted_5 (fun t1 h2 => ?_)
  refine j_if_ne E 13 dX10_painted_8 rfl ?_ ?_
  · refine j_aload_n E dX10_painted_13 0 rfl ?_
    refine j_getr E f_X10_70 (cX_0 hg) 45 rfl dX10_painted_14 ?_
    refine j_aload_n E dX10_painted_17 0 rfl ?_
    refine j_getr E f_X10_46 (cX_0 hg) 31 rfl dX10_painted_18 ?_
    refine j_geti E f_X10_180 (cX_31 hg) rfl dX10_painted_21 ?_
    refine j_callvV (As := [.int (h2.1 31 3)]) (st := []) E (ok_X3_look hg E.2.2.2.2.2.2.2.1 N (h2.1 31 3) h2) (cX_45 hg) (cl_X10_210) (⟨Nat.le_of_ble_eq_true rfl, Nat.le_of_ble_eq_true rfl⟩) rfl rfl (Nat.le_of_ble_eq_true rfl) dX10_painted_24 (fun t3 h4 => ?_)
    refine j_aload_n E dX10_painted_27 0 rfl ?_
    refine j_getr E f_X10_86 (cX_0 hg) 52 rfl dX10_painted_28 ?_
    refine j_iload_n E dX10_painted_31 1 rfl ?_
    refine j_aload_n E dX10_painted_32 0 rfl ?_
    refine j_getr E f_X10_46 (cX_0 hg) 31 rfl dX10_painted_33 ?_
    refine j_geti E f_X10_180 (cX_31 hg) rfl dX10_painted_36 ?_
    refine j_callvI (As := [.int a1, .int (h4.1 31 3)]) (st := []) E (ok_X9_paintAll hg E.2.2.2.2.2.2.2.1 N a1 (h4.1 31 3) h4) (cX_52 hg) (cl_X10_235) (⟨Nat.le_of_ble_eq_true rfl, Nat.le_of_ble_eq_true rfl⟩) rfl rfl (Nat.le_of_ble_eq_true rfl) dX10_painted_39 (fun t5 h6 => ?_)
    exact j_ireturn E rfl dX10_painted_42
  · refine j_iconst E (v := (-1)) dX10_painted_11 (by decide) ?_
    exact j_ireturn E rfl dX10_painted_12
theorem ok_X10_painted {g : GC} (hg : isGX g) (hI : gI g) (N : Nat) (a1 : Int32) (h : HP) : Ok g yX10_painted mX10_painted [.ref (g.2.2.1 0), .int a1] h (xX10_painted N a1 h) := Ok.of hI (by decide) rfl (Nat.le_of_ble_eq_true rfl) (fun X E => jxX10_painted hg N E a1 h)
set_option maxRecDepth 20000 in
set_option maxHeartbeats 4000000 in
theorem jxX10_keptOpen {g : GC} (hg : isGX g) {X : MX} (N : Nat) (E : JE g mX10_keptOpen X) (h : HP) : J g mX10_keptOpen X 0 [(0, .ref (g.2.2.1 0))] [] h (xX10_keptOpen N h) := by
  unfold xX10_keptOpen
  refine j_aload_n E dX10_keptOpen_0 0 rfl ?_
  refine j_getr E f_X10_70 (cX_0 hg) 45 rfl dX10_keptOpen_1 ?_
  refine j_aload_n E dX10_keptOpen_4 0 rfl ?_
  refine j_getr E f_X10_46 (cX_0 hg) 31 rfl dX10_keptOpen_5 ?_
  refine j_geti E f_X10_180 (cX_31 hg) rfl dX10_keptOpen_8 ?_
  refine j_callvI (As := [.int (h.1 31 3)]) (st := []) E (ok_X3_widthToHold hg E.2.2.2.2.2.2.2.1 N (h.1 31 3) h) (cX_45 hg) (cl_X10_238) (⟨Nat.le_of_ble_eq_true rfl, Nat.le_of_ble_eq_true rfl⟩) rfl rfl (Nat.le_of_ble_eq_true rfl) dX10_keptOpen_11 (fun t1 h2 => ?_)
  exact j_ireturn E rfl dX10_keptOpen_14
theorem ok_X10_keptOpen {g : GC} (hg : isGX g) (hI : gI g) (N : Nat) (h : HP) : Ok g yX10_keptOpen mX10_keptOpen [.ref (g.2.2.1 0)] h (xX10_keptOpen N h) := Ok.of hI (by decide) rfl (Nat.le_of_ble_eq_true rfl) (fun X E => jxX10_keptOpen hg N E h)
set_option maxRecDepth 20000 in
set_option maxHeartbeats 4000000 in
theorem jxX10_farthest_9 {g : GC} (hg : isGX g) {X : MX} (N : Nat) (E : JE g mX10_farthest X) (h : HP) : J g mX10_farthest X 9 [] [] h (xX10_farthest_9 N h) := by
  unfold xX10_farthest_9
  refine j_iconst E (v := (-1)) dX10_farthest_9 (by decide) ?_
  exact j_ireturn E rfl dX10_farthest_10
set_option maxRecDepth 20000 in
set_option maxHeartbeats 4000000 in
theorem jxX10_farthest_75 {g : GC} (hg : isGX g) {X : MX} (N : Nat) (E : JE g mX10_farthest X) (s0 : Int32) (h : HP) : J g mX10_farthest X 75 [] [.int s0] h (xX10_farthest_75 N s0 h) := by
  unfold xX10_farthest_75
  exact j_ireturn E rfl dX10_farthest_75
set_option maxRecDepth 20000 in
set_option maxHeartbeats 4000000 in
theorem jxX10_farthest {g : GC} (hg : isGX g) {X : MX} (N : Nat) (E : JE g mX10_farthest X) (a1 : Int32) (h : HP) : J g mX10_farthest X 0 [(0, .ref (g.2.2.1 0)), (1, .int a1)] [] h (xX10_farthest N a1 h) := by
  unfold xX10_farthest
  refine j_iload_n E dX10_farthest_0 1 rfl ?_
  refine j_if_lt E 9 dX10_farthest_1 rfl ?_ ?_
  · exact j_sub [] (lv1 := []) rfl (jxX10_farthest_9 hg N E h)
  · refine j_iload_n E dX10_farthest_4 1 rfl ?_
    refine j_iconst E (v := 2) dX10_farthest_5 (by decide) ?_
    refine j_cmp_le E 11 dX10_farthest_6 rfl ?_ ?_
    · refine j_aload_n E dX10_farthest_11 0 rfl ?_
      refine j_getr E f_X10_19 (cX_0 hg) 3 rfl dX10_farthest_12 ?_
      refine j_geti E f_X10_130 (cX_3 hg) rfl dX10_farthest_15 ?_
      refine j_if_ne E 24 dX10_farthest_18 rfl ?_ ?_
      · refine j_aload_n E dX10_farthest_24 0 rfl ?_
        refine j_getr E f_X10_70 (cX_0 hg) 45 rfl dX10_farthest_25 ?_
        refine j_aload_n E dX10_farthest_28 0 rfl ?_
        refine j_getr E f_X10_46 (cX_0 hg) 31 rfl dX10_farthest_29 ?_
        refine j_geti E f_X10_180 (cX_31 hg) rfl dX10_farthest_32 ?_
        refine j_callvV (As := [.int (h.1 31 3)]) (st := []) E (ok_X3_look hg E.2.2.2.2.2.2.2.1 N (h.1 31 3) h) (cX_45 hg) (cl_X10_210) (⟨Nat.le_of_ble_eq_true rfl, Nat.le_of_ble_eq_true rfl⟩) rfl rfl (Nat.le_of_ble_eq_true rfl) dX10_farthest_35 (fun t1 h2 => ?_)
        refine j_aload_n E dX10_farthest_38 0 rfl ?_
        refine j_getr E f_X10_70 (cX_0 hg) 45 rfl dX10_farthest_39 ?_
        refine j_callvI (As := []) (st := []) E (ok_X3_farthestPair hg E.2.2.2.2.2.2.2.1 N h2) (cX_45 hg) (cl_X10_241) (⟨Nat.le_of_ble_eq_true rfl, Nat.le_of_ble_eq_true rfl⟩) rfl rfl (Nat.le_of_ble_eq_true rfl) dX10_farthest_42 (fun t3 h4 => ?_)
        refine j_istore0_n E dX10_farthest_45 (Nat.le_of_ble_eq_true rfl) [(2, .int t3), (0, .ref (g.2.2.1 0)), (1, .int a1)] rfl ?_
        refine j_iload_n E dX10_farthest_46 2 rfl ?_
        refine j_if_ne E 57 dX10_farthest_47 rfl ?_ ?_
        · refine j_iload_n E dX10_farthest_57 2 rfl ?_
          refine j_iconst E (v := 1) dX10_farthest_58 (by decide) ?_
          refine j_cmp_ne E 71 dX10_farthest_59 rfl ?_ ?_
          · refine j_iload_n E dX10_farthest_71 0 rfl ?_
            refine j_bipush E (v := 15) dX10_farthest_72 (by decide) ?_
            refine j_iand E dX10_farthest_74 ?_
            exact j_sub [] (lv1 := []) rfl (jxX10_farthest_75 hg N E (t3 &&& 15) h4)
          · refine j_iload_n E dX10_farthest_62 0 rfl ?_
            refine j_iconst E (v := 4) dX10_farthest_63 (by decide) ?_
            refine j_ishr E dX10_farthest_64 ?_
            refine j_bipush E (v := 15) dX10_farthest_65 (by decide) ?_
            refine j_iand E dX10_farthest_67 ?_
            refine j_goto E 75 dX10_farthest_68 rfl ?_
            exact j_sub [] (lv1 := []) rfl (jxX10_farthest_75 hg N E ((t3 >>> (4 &&& 31)) &&& 15) h4)
        · refine j_iload_n E dX10_farthest_50 0 rfl ?_
          refine j_bipush E (v := 8) dX10_farthest_51 (by decide) ?_
          refine j_ishr E dX10_farthest_53 ?_
          refine j_goto E 75 dX10_farthest_54 rfl ?_
          exact j_sub [] (lv1 := []) rfl (jxX10_farthest_75 hg N E (t3 >>> (8 &&& 31)) h4)
      · refine j_bipush E (v := (-2)) dX10_farthest_21 (by decide) ?_
        exact j_ireturn E rfl dX10_farthest_23
    · exact j_sub [] (lv1 := []) rfl (jxX10_farthest_9 hg N E h)
theorem ok_X10_farthest {g : GC} (hg : isGX g) (hI : gI g) (N : Nat) (a1 : Int32) (h : HP) : Ok g yX10_farthest mX10_farthest [.ref (g.2.2.1 0), .int a1] h (xX10_farthest N a1 h) := Ok.of hI (by decide) rfl (Nat.le_of_ble_eq_true rfl) (fun X E => jxX10_farthest hg N E a1 h)
set_option maxRecDepth 20000 in
set_option maxHeartbeats 4000000 in
theorem jxX10_ring_30 {g : GC} (hg : isGX g) {X : MX} (N : Nat) (E : JE g mX10_ring X) (s0 : Int32) (h : HP) : J g mX10_ring X 30 [] [.int s0] h (xX10_ring_30 N s0 h) := by
  unfold xX10_ring_30
  exact j_ireturn E rfl dX10_ring_30
set_option maxRecDepth 20000 in
set_option maxHeartbeats 4000000 in
theorem jxX10_ring {g : GC} (hg : isGX g) {X : MX} (N : Nat) (E : JE g mX10_ring X) (a1 : Int32) (h : HP) : J g mX10_ring X 0 [(0, .ref (g.2.2.1 0)), (1, .int a1)] [] h (xX10_ring N a1 h) := by
  unfold xX10_ring
  refine j_aload_n E dX10_ring_0 0 rfl ?_
  refine j_getr E f_X10_19 (cX_0 hg) 3 rfl dX10_ring_1 ?_
  refine j_iload_n E dX10_ring_4 1 rfl ?_
  refine j_callvI (As := [.int a1]) (st := []) E (ok_X6_isTold hg E.2.2.2.2.2.2.2.1 a1 h) (cX_3 hg) (cl_X10_156) (⟨Nat.le_of_ble_eq_true rfl, Nat.le_of_ble_eq_true rfl⟩) rfl rfl (Nat.le_of_ble_eq_true rfl) dX10_ring_5 (fun t1 h2 => ?_)
  refine j_if_eq E 29 dX10_ring_8 rfl ?_ ?_
  · refine j_iconst E (v := (-1)) dX10_ring_29 (by decide) ?_
    exact j_sub [] (lv1 := []) rfl (jxX10_ring_30 hg N E (-1) h2)
  · refine j_aload_n E dX10_ring_11 0 rfl ?_
    refine j_getr E f_X10_70 (cX_0 hg) 45 rfl dX10_ring_12 ?_
    refine j_iload_n E dX10_ring_15 1 rfl ?_
    refine j_aload_n E dX10_ring_16 0 rfl ?_
    refine j_getr E f_X10_46 (cX_0 hg) 31 rfl dX10_ring_17 ?_
    refine j_geti E f_X10_180 (cX_31 hg) rfl dX10_ring_20 ?_
    refine j_callvI (As := [.int a1, .int (h2.1 31 3)]) (st := []) E (ok_X3_leastRing hg E.2.2.2.2.2.2.2.1 N a1 (h2.1 31 3) h2) (cX_45 hg) (cl_X10_244) (⟨Nat.le_of_ble_eq_true rfl, Nat.le_of_ble_eq_true rfl⟩) rfl rfl (Nat.le_of_ble_eq_true rfl) dX10_ring_23 (fun t3 h4 => ?_)
    refine j_goto E 30 dX10_ring_26 rfl ?_
    exact j_sub [] (lv1 := []) rfl (jxX10_ring_30 hg N E t3 h4)
theorem ok_X10_ring {g : GC} (hg : isGX g) (hI : gI g) (N : Nat) (a1 : Int32) (h : HP) : Ok g yX10_ring mX10_ring [.ref (g.2.2.1 0), .int a1] h (xX10_ring N a1 h) := Ok.of hI (by decide) rfl (Nat.le_of_ble_eq_true rfl) (fun X E => jxX10_ring hg N E a1 h)
set_option maxRecDepth 20000 in
set_option maxHeartbeats 4000000 in
theorem jxX10_highest_9 {g : GC} (hg : isGX g) {X : MX} (N : Nat) (E : JE g mX10_highest X) (h : HP) : J g mX10_highest X 9 [] [] h (xX10_highest_9 N h) := by
  unfold xX10_highest_9
  refine j_iconst E (v := (-1)) dX10_highest_9 (by decide) ?_
  exact j_ireturn E rfl dX10_highest_10
set_option maxRecDepth 20000 in
set_option maxHeartbeats 4000000 in
theorem jxX10_highest_89 {g : GC} (hg : isGX g) {X : MX} (N : Nat) (E : JE g mX10_highest X) (K20 : Int32 → Int32 → Int32 → Int32 → HP → Option (Int32 × HP)) (hK20 : ∀ (a1 : Int32) (a2 : Int32) (a3 : Int32) (a4 : Int32) (h : HP), J g mX10_highest X 20 [(0, .ref (g.2.2.1 0)), (1, .int a1), (2, .int a2), (3, .int a3), (4, .int a4)] [] h (K20 a1 a2 a3 a4 h)) (a1 : Int32) (a2 : Int32) (a3 : Int32) (a4 : Int32) (h : HP) : J g mX10_highest X 89 [(0, .ref (g.2.2.1 0)), (1, .int a1), (2, .int a2), (3, .int a3), (4, .int a4)] [] h (xX10_highest_89 N K20 a1 a2 a3 a4 h) := by
  unfold xX10_highest_89
  refine j_iinc E (c := 1) dX10_highest_89 4 rfl (by decide) (Nat.le_of_ble_eq_true rfl) (fun v1 => [(4, .int v1), (0, .ref (g.2.2.1 0)), (1, .int a1), (2, .int a2), (3, .int a3)]) (fun _ => rfl) (fun v1 => ?_)
  refine j_goto E 20 dX10_highest_92 rfl ?_
  exact j_sub [1, 2, 3, 4, 0] (lv1 := [(0, .ref (g.2.2.1 0)), (1, .int a1), (2, .int a2), (3, .int a3), (4, .int v1)]) rfl (hK20 a1 a2 a3 v1 h)
set_option maxRecDepth 20000 in
set_option maxHeartbeats 4000000 in
theorem jxX10_highest_104 {g : GC} (hg : isGX g) {X : MX} (N : Nat) (E : JE g mX10_highest X) (s0 : Int32) (h : HP) : J g mX10_highest X 104 [] [.int s0] h (xX10_highest_104 N s0 h) := by
  unfold xX10_highest_104
  exact j_ireturn E rfl dX10_highest_104
set_option maxRecDepth 20000 in
set_option maxHeartbeats 4000000 in
theorem jxX10_highest_20 {g : GC} (hg : isGX g) {X : MX} (N : Nat) (E : JE g mX10_highest X) : ∀ (n : Nat) (a1 : Int32) (a2 : Int32) (a3 : Int32) (a4 : Int32) (h : HP), J g mX10_highest X 20 [(0, .ref (g.2.2.1 0)), (1, .int a1), (2, .int a2), (3, .int a3), (4, .int a4)] [] h (xX10_highest_20 N n a1 a2 a3 a4 h) := by
  intro n
  induction n with
  | zero => intro a1 a2 a3 a4 h; exact j_none
  | succ n ih =>
    intro a1 a2 a3 a4 h
    unfold xX10_highest_20
    refine j_iload E dX10_highest_20 4 rfl ?_
    refine j_bipush E (v := 16) dX10_highest_22 (by decide) ?_
    refine j_cmp_ge E 95 dX10_highest_24 rfl ?_ ?_
    · refine j_iload_n E dX10_highest_95 1 rfl ?_
      refine j_if_ne E 103 dX10_highest_96 rfl ?_ ?_
      · refine j_iload_n E dX10_highest_103 3 rfl ?_
        exact j_sub [] (lv1 := []) rfl (jxX10_highest_104 hg N E a3 h)
      · refine j_iload_n E dX10_highest_99 2 rfl ?_
        refine j_goto E 104 dX10_highest_100 rfl ?_
        exact j_sub [] (lv1 := []) rfl (jxX10_highest_104 hg N E a2 h)
    · refine j_aload_n E dX10_highest_27 0 rfl ?_
      refine j_getr E f_X10_19 (cX_0 hg) 3 rfl dX10_highest_28 ?_
      refine j_iload E dX10_highest_31 4 rfl ?_
      refine j_callvI (As := [.int a4]) (st := []) E (ok_X6_isTold hg E.2.2.2.2.2.2.2.1 a4 h) (cX_3 hg) (cl_X10_156) (⟨Nat.le_of_ble_eq_true rfl, Nat.le_of_ble_eq_true rfl⟩) rfl rfl (Nat.le_of_ble_eq_true rfl) dX10_highest_33 (fun t1 h2 => ?_)
      refine j_if_eq E 89 dX10_highest_36 rfl ?_ ?_
      · exact jxX10_highest_89 hg N E (xX10_highest_20 N n) ih a1 a2 a3 a4 h2
      · refine j_aload_n E dX10_highest_39 0 rfl ?_
        refine j_getr E f_X10_19 (cX_0 hg) 3 rfl dX10_highest_40 ?_
        refine j_getr E f_X10_174 (cX_3 hg) 4 rfl dX10_highest_43 ?_
        refine j_iload E dX10_highest_46 4 rfl ?_
        refine j_iald E (cX_4 hg) dX10_highest_48 (fun t3 => ?_)
        refine j_aload_n E dX10_highest_49 0 rfl ?_
        refine j_getr E f_X10_46 (cX_0 hg) 31 rfl dX10_highest_50 ?_
        refine j_getr E f_X10_161 (cX_31 hg) 32 rfl dX10_highest_53 ?_
        refine j_iload E dX10_highest_56 4 rfl ?_
        refine j_iald E (cX_32 hg) dX10_highest_58 (fun t4 => ?_)
        refine j_iadd E dX10_highest_59 ?_
        refine j_iload_n E dX10_highest_60 3 rfl ?_
        refine j_cmp_le E 89 dX10_highest_61 rfl ?_ ?_
        · exact jxX10_highest_89 hg N E (xX10_highest_20 N n) ih a1 a2 a3 a4 h2
        · refine j_iload E dX10_highest_64 4 rfl ?_
          refine j_istore0_n E dX10_highest_66 (Nat.le_of_ble_eq_true rfl) [(2, .int a4), (0, .ref (g.2.2.1 0)), (1, .int a1), (3, .int a3), (4, .int a4)] rfl ?_
          refine j_aload_n E dX10_highest_67 1 rfl ?_
          refine j_getr E f_X10_19 (cX_0 hg) 3 rfl dX10_highest_68 ?_
          refine j_getr E f_X10_174 (cX_3 hg) 4 rfl dX10_highest_71 ?_
          refine j_iload E dX10_highest_74 4 rfl ?_
          refine j_iald E (cX_4 hg) dX10_highest_76 (fun t5 => ?_)
          refine j_aload_n E dX10_highest_77 1 rfl ?_
          refine j_getr E f_X10_46 (cX_0 hg) 31 rfl dX10_highest_78 ?_
          refine j_getr E f_X10_161 (cX_31 hg) 32 rfl dX10_highest_81 ?_
          refine j_iload E dX10_highest_84 4 rfl ?_
          refine j_iald E (cX_32 hg) dX10_highest_86 (fun t6 => ?_)
          refine j_iadd E dX10_highest_87 ?_
          refine j_istore_n E dX10_highest_88 (Nat.le_of_ble_eq_true rfl) (fun v7 => [(3, .int v7), (2, .int a4), (0, .ref (g.2.2.1 0)), (1, .int a1), (4, .int a4)]) (fun _ => rfl) (fun v7 => ?_)
          exact j_sub [2, 3, 1, 0, 4] (lv1 := [(0, .ref (g.2.2.1 0)), (1, .int a1), (2, .int a4), (3, .int v7), (4, .int a4)]) rfl (jxX10_highest_89 hg N E (xX10_highest_20 N n) ih a1 a4 v7 a4 h2)
set_option maxRecDepth 20000 in
set_option maxHeartbeats 4000000 in
theorem jxX10_highest {g : GC} (hg : isGX g) {X : MX} (N : Nat) (E : JE g mX10_highest X) (a1 : Int32) (h : HP) : J g mX10_highest X 0 [(0, .ref (g.2.2.1 0)), (1, .int a1)] [] h (xX10_highest N a1 h) := by
  unfold xX10_highest
  refine j_iload_n E dX10_highest_0 1 rfl ?_
  refine j_if_lt E 9 dX10_highest_1 rfl ?_ ?_
  · exact j_sub [] (lv1 := []) rfl (jxX10_highest_9 hg N E h)
  · refine j_iload_n E dX10_highest_4 1 rfl ?_
    refine j_iconst E (v := 1) dX10_highest_5 (by decide) ?_
    refine j_cmp_le E 11 dX10_highest_6 rfl ?_ ?_
    · refine j_bipush E (v := (-2)) dX10_highest_11 (by decide) ?_
      refine j_istore0_n E dX10_highest_13 (Nat.le_of_ble_eq_true rfl) [(2, .int (-2)), (0, .ref (g.2.2.1 0)), (1, .int a1)] rfl ?_
      refine j_bipush E (v := (-2)) dX10_highest_14 (by decide) ?_
      refine j_istore0_n E dX10_highest_16 (Nat.le_of_ble_eq_true rfl) [(3, .int (-2)), (2, .int (-2)), (0, .ref (g.2.2.1 0)), (1, .int a1)] rfl ?_
      refine j_iconst E (v := 0) dX10_highest_17 (by decide) ?_
      refine j_istore0 E dX10_highest_18 (Nat.le_of_ble_eq_true rfl) [(4, .int 0), (3, .int (-2)), (2, .int (-2)), (0, .ref (g.2.2.1 0)), (1, .int a1)] rfl ?_
      exact j_sub [3, 4, 2, 1, 0] (lv1 := [(0, .ref (g.2.2.1 0)), (1, .int a1), (2, .int (-2)), (3, .int (-2)), (4, .int 0)]) rfl (jxX10_highest_20 hg N E N a1 (-2) (-2) 0 h)
    · exact j_sub [] (lv1 := []) rfl (jxX10_highest_9 hg N E h)
theorem ok_X10_highest {g : GC} (hg : isGX g) (hI : gI g) (N : Nat) (a1 : Int32) (h : HP) : Ok g yX10_highest mX10_highest [.ref (g.2.2.1 0), .int a1] h (xX10_highest N a1 h) := Ok.of hI (by decide) rfl (Nat.le_of_ble_eq_true rfl) (fun X E => jxX10_highest hg N E a1 h)
set_option maxRecDepth 20000 in
set_option maxHeartbeats 4000000 in
theorem jxX10_longest_20 {g : GC} (hg : isGX g) {X : MX} (N : Nat) (E : JE g mX10_longest X) (h : HP) : J g mX10_longest X 20 [] [] h (xX10_longest_20 N h) := by
  unfold xX10_longest_20
  refine j_iconst E (v := (-1)) dX10_longest_20 (by decide) ?_
  exact j_ireturn E rfl dX10_longest_21
set_option maxRecDepth 20000 in
set_option maxHeartbeats 4000000 in
theorem jxX10_longest_65 {g : GC} (hg : isGX g) {X : MX} (N : Nat) (E : JE g mX10_longest X) (s0 : Int32) (h : HP) : J g mX10_longest X 65 [] [.int s0] h (xX10_longest_65 N s0 h) := by
  unfold xX10_longest_65
  exact j_ireturn E rfl dX10_longest_65
set_option maxRecDepth 20000 in
set_option maxHeartbeats 4000000 in
theorem jxX10_longest {g : GC} (hg : isGX g) {X : MX} (N : Nat) (E : JE g mX10_longest X) (a1 : Int32) (a2 : Int32) (h : HP) : J g mX10_longest X 0 [(0, .ref (g.2.2.1 0)), (1, .int a1), (2, .int a2)] [] h (xX10_longest N a1 a2 h) := by
  unfold xX10_longest
  refine j_aload_n E dX10_longest_0 0 rfl ?_
  refine j_getr E f_X10_19 (cX_0 hg) 3 rfl dX10_longest_1 ?_
  refine j_iload_n E dX10_longest_4 1 rfl ?_
  refine j_callvI (As := [.int a1]) (st := []) E (ok_X6_isTold hg E.2.2.2.2.2.2.2.1 a1 h) (cX_3 hg) (cl_X10_156) (⟨Nat.le_of_ble_eq_true rfl, Nat.le_of_ble_eq_true rfl⟩) rfl rfl (Nat.le_of_ble_eq_true rfl) dX10_longest_5 (fun t1 h2 => ?_)
  refine j_if_eq E 20 dX10_longest_8 rfl ?_ ?_
  · exact j_sub [] (lv1 := []) rfl (jxX10_longest_20 hg N E h2)
  · refine j_iload_n E dX10_longest_11 2 rfl ?_
    refine j_if_lt E 20 dX10_longest_12 rfl ?_ ?_
    · exact j_sub [] (lv1 := []) rfl (jxX10_longest_20 hg N E h2)
    · refine j_iload_n E dX10_longest_15 2 rfl ?_
      refine j_iconst E (v := 1) dX10_longest_16 (by decide) ?_
      refine j_cmp_le E 22 dX10_longest_17 rfl ?_ ?_
      · refine j_aload_n E dX10_longest_22 0 rfl ?_
        refine j_getr E f_X10_70 (cX_0 hg) 45 rfl dX10_longest_23 ?_
        refine j_aload_n E dX10_longest_26 0 rfl ?_
        refine j_getr E f_X10_46 (cX_0 hg) 31 rfl dX10_longest_27 ?_
        refine j_geti E f_X10_180 (cX_31 hg) rfl dX10_longest_30 ?_
        refine j_callvV (As := [.int (h2.1 31 3)]) (st := []) E (ok_X3_look hg E.2.2.2.2.2.2.2.1 N (h2.1 31 3) h2) (cX_45 hg) (cl_X10_210) (⟨Nat.le_of_ble_eq_true rfl, Nat.le_of_ble_eq_true rfl⟩) rfl rfl (Nat.le_of_ble_eq_true rfl) dX10_longest_33 (fun t3 h4 => ?_)
        refine j_aload_n E dX10_longest_36 0 rfl ?_
        refine j_getr E f_X10_86 (cX_0 hg) 52 rfl dX10_longest_37 ?_
        refine j_iload_n E dX10_longest_40 1 rfl ?_
        refine j_callvV (As := [.int a1]) (st := []) E (ok_X9_goFar hg E.2.2.2.2.2.2.2.1 N a1 h4) (cX_52 hg) (cl_X10_247) (⟨Nat.le_of_ble_eq_true rfl, Nat.le_of_ble_eq_true rfl⟩) rfl rfl (Nat.le_of_ble_eq_true rfl) dX10_longest_41 (fun t5 h6 => ?_)
        refine j_iload_n E dX10_longest_44 2 rfl ?_
        refine j_if_ne E 58 dX10_longest_45 rfl ?_ ?_
        · refine j_aload_n E dX10_longest_58 0 rfl ?_
          refine j_getr E f_X10_86 (cX_0 hg) 52 rfl dX10_longest_59 ?_
          refine j_geti E f_X10_253 (cX_52 hg) rfl dX10_longest_62 ?_
          exact j_sub [] (lv1 := []) rfl (jxX10_longest_65 hg N E (h6.1 52 7) h6)
        · refine j_aload_n E dX10_longest_48 0 rfl ?_
          refine j_getr E f_X10_86 (cX_0 hg) 52 rfl dX10_longest_49 ?_
          refine j_geti E f_X10_250 (cX_52 hg) rfl dX10_longest_52 ?_
          refine j_goto E 65 dX10_longest_55 rfl ?_
          exact j_sub [] (lv1 := []) rfl (jxX10_longest_65 hg N E (h6.1 52 6) h6)
      · exact j_sub [] (lv1 := []) rfl (jxX10_longest_20 hg N E h2)
theorem ok_X10_longest {g : GC} (hg : isGX g) (hI : gI g) (N : Nat) (a1 : Int32) (a2 : Int32) (h : HP) : Ok g yX10_longest mX10_longest [.ref (g.2.2.1 0), .int a1, .int a2] h (xX10_longest N a1 a2 h) := Ok.of hI (by decide) rfl (Nat.le_of_ble_eq_true rfl) (fun X E => jxX10_longest hg N E a1 a2 h)
set_option maxRecDepth 20000 in
set_option maxHeartbeats 4000000 in
theorem jxX10_byEighths_46 {g : GC} (hg : isGX g) {X : MX} (N : Nat) (E : JE g mX10_byEighths X) (h : HP) : J g mX10_byEighths X 46 [] [] h (xX10_byEighths_46 N h) := by
  unfold xX10_byEighths_46
  refine j_iconst E (v := (-1)) dX10_byEighths_46 (by decide) ?_
  exact j_ireturn E rfl dX10_byEighths_47
set_option maxRecDepth 20000 in
set_option maxHeartbeats 4000000 in
theorem jxX10_byEighths_95 {g : GC} (hg : isGX g) {X : MX} (N : Nat) (E : JE g mX10_byEighths X) (s0 : Int32) (h : HP) : J g mX10_byEighths X 95 [] [.int s0] h (xX10_byEighths_95 N s0 h) := by
  unfold xX10_byEighths_95
  exact j_ireturn E rfl dX10_byEighths_95
set_option maxRecDepth 20000 in
set_option maxHeartbeats 4000000 in
theorem jxX10_byEighths_25 {g : GC} (hg : isGX g) {X : MX} (N : Nat) (E : JE g mX10_byEighths X) (a1 : Int32) (a2 : Int32) (a3 : Int32) (s0 : Int32) (h : HP) : J g mX10_byEighths X 25 [(0, .ref (g.2.2.1 0)), (1, .int a1), (2, .int a2), (3, .int a3)] [.int s0] h (xX10_byEighths_25 N a1 a2 a3 s0 h) := by
  unfold xX10_byEighths_25
  refine j_istore0 E dX10_byEighths_25 (Nat.le_of_ble_eq_true rfl) [(4, .int s0), (0, .ref (g.2.2.1 0)), (1, .int a1), (2, .int a2), (3, .int a3)] rfl ?_
  refine j_iload E dX10_byEighths_27 0 rfl ?_
  refine j_if_eq E 46 dX10_byEighths_29 rfl ?_ ?_
  · exact j_sub [] (lv1 := []) rfl (jxX10_byEighths_46 hg N E h)
  · refine j_aload_n E dX10_byEighths_32 1 rfl ?_
    refine j_getr E f_X10_10 (cX_0 hg) 1 rfl dX10_byEighths_33 ?_
    refine j_iload_n E dX10_byEighths_36 2 rfl ?_
    refine j_iconst E (v := 1) dX10_byEighths_37 (by decide) ?_
    refine j_bipush E (v := 8) dX10_byEighths_38 (by decide) ?_
    refine j_callvI (As := [.int a1, .int 1, .int 8]) (st := []) E (ok_X7_gives hg E.2.2.2.2.2.2.2.1 a1 1 8 h) (cX_1 hg) (cl_X10_109) (⟨Nat.le_of_ble_eq_true rfl, Nat.le_of_ble_eq_true rfl⟩) rfl rfl (Nat.le_of_ble_eq_true rfl) dX10_byEighths_40 (fun t1 h2 => ?_)
    refine j_if_ne E 48 dX10_byEighths_43 rfl ?_ ?_
    · refine j_aload_n E dX10_byEighths_48 1 rfl ?_
      refine j_getr E f_X10_93 (cX_0 hg) 56 rfl dX10_byEighths_49 ?_
      refine j_aload_n E dX10_byEighths_52 1 rfl ?_
      refine j_getr E f_X10_10 (cX_0 hg) 1 rfl dX10_byEighths_53 ?_
      refine j_iload_n E dX10_byEighths_56 2 rfl ?_
      refine j_iload_n E dX10_byEighths_57 3 rfl ?_
      refine j_callvV (As := [.ref (g.2.2.1 1), .int a1, .int a2]) (st := []) E (ok_X0_reckon hg E.2.2.2.2.2.2.2.1 N a1 a2 h2) (cX_56 hg) (cl_X10_256) (⟨Nat.le_of_ble_eq_true rfl, Nat.le_of_ble_eq_true rfl⟩) rfl rfl (Nat.le_of_ble_eq_true rfl) dX10_byEighths_58 (fun t3 h4 => ?_)
      refine j_iload_n E dX10_byEighths_61 4 rfl ?_
      refine j_if_ne E 73 dX10_byEighths_62 rfl ?_ ?_
      · refine j_aload_n E dX10_byEighths_73 1 rfl ?_
        refine j_getr E f_X10_93 (cX_0 hg) 56 rfl dX10_byEighths_74 ?_
        refine j_geti E f_X10_260 (cX_56 hg) rfl dX10_byEighths_77 ?_
        refine j_if_ne E 88 dX10_byEighths_80 rfl ?_ ?_
        · refine j_aload_n E dX10_byEighths_88 1 rfl ?_
          refine j_getr E f_X10_93 (cX_0 hg) 56 rfl dX10_byEighths_89 ?_
          refine j_geti E f_X10_263 (cX_56 hg) rfl dX10_byEighths_92 ?_
          exact j_sub [] (lv1 := []) rfl (jxX10_byEighths_95 hg N E (h4.1 56 4) h4)
        · refine j_bipush E (v := (-2)) dX10_byEighths_83 (by decide) ?_
          refine j_goto E 95 dX10_byEighths_85 rfl ?_
          exact j_sub [] (lv1 := []) rfl (jxX10_byEighths_95 hg N E (-2) h4)
      · refine j_aload_n E dX10_byEighths_65 1 rfl ?_
        refine j_getr E f_X10_93 (cX_0 hg) 56 rfl dX10_byEighths_66 ?_
        refine j_geti E f_X10_260 (cX_56 hg) rfl dX10_byEighths_69 ?_
        exact j_ireturn E rfl dX10_byEighths_72
    · exact j_sub [] (lv1 := []) rfl (jxX10_byEighths_46 hg N E h2)
set_option maxRecDepth 20000 in
set_option maxHeartbeats 4000000 in
theorem jxX10_byEighths_24 {g : GC} (hg : isGX g) {X : MX} (N : Nat) (E : JE g mX10_byEighths X) (a1 : Int32) (a2 : Int32) (a3 : Int32) (h : HP) : J g mX10_byEighths X 24 [(0, .ref (g.2.2.1 0)), (1, .int a1), (2, .int a2), (3, .int a3)] [] h (xX10_byEighths_24 N a1 a2 a3 h) := by
  unfold xX10_byEighths_24
  refine j_iconst E (v := 0) dX10_byEighths_24 (by decide) ?_
  exact jxX10_byEighths_25 hg N E a1 a2 a3 0 h
set_option maxRecDepth 20000 in
set_option maxHeartbeats 4000000 in
theorem jxX10_byEighths {g : GC} (hg : isGX g) {X : MX} (N : Nat) (E : JE g mX10_byEighths X) (a1 : Int32) (a2 : Int32) (a3 : Int32) (h : HP) : J g mX10_byEighths X 0 [(0, .ref (g.2.2.1 0)), (1, .int a1), (2, .int a2), (3, .int a3)] [] h (xX10_byEighths N a1 a2 a3 h) := by
  unfold xX10_byEighths
  refine j_iload_n E dX10_byEighths_0 2 rfl ?_
  refine j_if_lt E 24 dX10_byEighths_1 rfl ?_ ?_
  · exact jxX10_byEighths_24 hg N E a1 a2 a3 h
  · refine j_iload_n E dX10_byEighths_4 2 rfl ?_
    refine j_sipush E (v := 16320) dX10_byEighths_5 (by decide) ?_
    refine j_cmp_gt E 24 dX10_byEighths_8 rfl ?_ ?_
    · exact jxX10_byEighths_24 hg N E a1 a2 a3 h
    · refine j_iload_n E dX10_byEighths_11 3 rfl ?_
      refine j_if_lt E 24 dX10_byEighths_12 rfl ?_ ?_
      · exact jxX10_byEighths_24 hg N E a1 a2 a3 h
      · refine j_iload_n E dX10_byEighths_15 3 rfl ?_
        refine j_iconst E (v := 1) dX10_byEighths_16 (by decide) ?_
        refine j_cmp_gt E 24 dX10_byEighths_17 rfl ?_ ?_
        · exact jxX10_byEighths_24 hg N E a1 a2 a3 h
        · refine j_iconst E (v := 1) dX10_byEighths_20 (by decide) ?_
          refine j_goto E 25 dX10_byEighths_21 rfl ?_
          exact jxX10_byEighths_25 hg N E a1 a2 a3 1 h
theorem ok_X10_byEighths {g : GC} (hg : isGX g) (hI : gI g) (N : Nat) (a1 : Int32) (a2 : Int32) (a3 : Int32) (h : HP) : Ok g yX10_byEighths mX10_byEighths [.ref (g.2.2.1 0), .int a1, .int a2, .int a3] h (xX10_byEighths N a1 a2 a3 h) := Ok.of hI (by decide) rfl (Nat.le_of_ble_eq_true rfl) (fun X E => jxX10_byEighths hg N E a1 a2 a3 h)
set_option maxRecDepth 20000 in
set_option maxHeartbeats 4000000 in
theorem jxX10_readings_36 {g : GC} (hg : isGX g) {X : MX} (N : Nat) (E : JE g mX10_readings X) (h : HP) : J g mX10_readings X 36 [] [] h (xX10_readings_36 N h) := by
  unfold xX10_readings_36
  refine j_iconst E (v := (-1)) dX10_readings_36 (by decide) ?_
  exact j_ireturn E rfl dX10_readings_37
set_option maxRecDepth 20000 in
set_option maxHeartbeats 4000000 in
theorem jxX10_readings_138 {g : GC} (hg : isGX g) {X : MX} (N : Nat) (E : JE g mX10_readings X) (K56 : Int32 → Int32 → Int32 → Int32 → Int32 → Int32 → Int32 → HP → Option (Int32 × HP)) (hK56 : ∀ (a1 : Int32) (a3 : Int32) (a4 : Int32) (a5 : Int32) (a6 : Int32) (a7 : Int32) (a8 : Int32) (h : HP), J g mX10_readings X 56 [(0, .ref (g.2.2.1 0)), (1, .int a1), (3, .int a3), (4, .int a4), (5, .int a5), (6, .int a6), (7, .int a7), (8, .int a8)] [] h (K56 a1 a3 a4 a5 a6 a7 a8 h)) (a1 : Int32) (a3 : Int32) (a4 : Int32) (a5 : Int32) (a6 : Int32) (a7 : Int32) (a8 : Int32) (h : HP) : J g mX10_readings X 138 [(0, .ref (g.2.2.1 0)), (1, .int a1), (3, .int a3), (4, .int a4), (5, .int a5), (6, .int a6), (7, .int a7), (8, .int a8)] [] h (xX10_readings_138 N K56 a1 a3 a4 a5 a6 a7 a8 h) := by
  unfold xX10_readings_138
  refine j_iinc E (c := 1) dX10_readings_138 7 rfl (by decide) (Nat.le_of_ble_eq_true rfl) (fun v1 => [(8, .int v1), (0, .ref (g.2.2.1 0)), (1, .int a1), (3, .int a3), (4, .int a4), (5, .int a5), (6, .int a6), (7, .int a7)]) (fun _ => rfl) (fun v1 => ?_)
  refine j_goto E 56 dX10_readings_141 rfl ?_
  exact j_sub [1, 2, 3, 4, 5, 6, 7, 0] (lv1 := [(0, .ref (g.2.2.1 0)), (1, .int a1), (3, .int a3), (4, .int a4), (5, .int a5), (6, .int a6), (7, .int a7), (8, .int v1)]) rfl (hK56 a1 a3 a4 a5 a6 a7 v1 h)
set_option maxRecDepth 20000 in
set_option maxHeartbeats 4000000 in
theorem jxX10_readings_123 {g : GC} (hg : isGX g) {X : MX} (N : Nat) (E : JE g mX10_readings X) (K56 : Int32 → Int32 → Int32 → Int32 → Int32 → Int32 → Int32 → HP → Option (Int32 × HP)) (hK56 : ∀ (a1 : Int32) (a3 : Int32) (a4 : Int32) (a5 : Int32) (a6 : Int32) (a7 : Int32) (a8 : Int32) (h : HP), J g mX10_readings X 56 [(0, .ref (g.2.2.1 0)), (1, .int a1), (3, .int a3), (4, .int a4), (5, .int a5), (6, .int a6), (7, .int a7), (8, .int a8)] [] h (K56 a1 a3 a4 a5 a6 a7 a8 h)) (a1 : Int32) (a3 : Int32) (a4 : Int32) (a5 : Int32) (a6 : Int32) (a7 : Int32) (a8 : Int32) (a9 : Int32) (h : HP) : J g mX10_readings X 123 [(0, .ref (g.2.2.1 0)), (1, .int a1), (3, .int a3), (4, .int a4), (5, .int a5), (6, .int a6), (7, .int a7), (8, .int a8), (9, .int a9)] [] h (xX10_readings_123 N K56 a1 a3 a4 a5 a6 a7 a8 a9 h) := by
  unfold xX10_readings_123
  refine j_iload E dX10_readings_123 8 rfl ?_
  refine j_iload E dX10_readings_125 4 rfl ?_
  refine j_cmp_le E 138 dX10_readings_127 rfl ?_ ?_
  · exact j_sub [0, 1, 2, 3, 4, 5, 6, 7] (lv1 := [(0, .ref (g.2.2.1 0)), (1, .int a1), (3, .int a3), (4, .int a4), (5, .int a5), (6, .int a6), (7, .int a7), (8, .int a8)]) rfl (jxX10_readings_138 hg N E K56 hK56 a1 a3 a4 a5 a6 a7 a8 h)
  · refine j_iload E dX10_readings_130 8 rfl ?_
    refine j_istore0 E dX10_readings_132 (Nat.le_of_ble_eq_true rfl) [(5, .int a9), (0, .ref (g.2.2.1 0)), (1, .int a1), (3, .int a3), (4, .int a4), (6, .int a6), (7, .int a7), (8, .int a8), (9, .int a9)] rfl ?_
    refine j_iload E dX10_readings_134 7 rfl ?_
    refine j_istore0 E dX10_readings_136 (Nat.le_of_ble_eq_true rfl) [(4, .int a8), (5, .int a9), (0, .ref (g.2.2.1 0)), (1, .int a1), (3, .int a3), (6, .int a6), (7, .int a7), (8, .int a8), (9, .int a9)] rfl ?_
    exact j_sub [2, 3, 4, 0, 1, 5, 6, 7] (lv1 := [(0, .ref (g.2.2.1 0)), (1, .int a1), (3, .int a3), (4, .int a8), (5, .int a9), (6, .int a6), (7, .int a7), (8, .int a8)]) rfl (jxX10_readings_138 hg N E K56 hK56 a1 a3 a8 a9 a6 a7 a8 h)
set_option maxRecDepth 20000 in
set_option maxHeartbeats 4000000 in
theorem jxX10_readings_164 {g : GC} (hg : isGX g) {X : MX} (N : Nat) (E : JE g mX10_readings X) (s0 : Int32) (h : HP) : J g mX10_readings X 164 [] [.int s0] h (xX10_readings_164 N s0 h) := by
  unfold xX10_readings_164
  exact j_ireturn E rfl dX10_readings_164
set_option maxRecDepth 20000 in
set_option maxHeartbeats 4000000 in
theorem jxX10_readings_56 {g : GC} (hg : isGX g) {X : MX} (N : Nat) (E : JE g mX10_readings X) : ∀ (n : Nat) (a1 : Int32) (a3 : Int32) (a4 : Int32) (a5 : Int32) (a6 : Int32) (a7 : Int32) (a8 : Int32) (h : HP), J g mX10_readings X 56 [(0, .ref (g.2.2.1 0)), (1, .int a1), (3, .int a3), (4, .int a4), (5, .int a5), (6, .int a6), (7, .int a7), (8, .int a8)] [] h (xX10_readings_56 N n a1 a3 a4 a5 a6 a7 a8 h) := by
  intro n
  induction n with
  | zero => intro a1 a3 a4 a5 a6 a7 a8 h; exact j_none
  | succ n ih =>
    intro a1 a3 a4 a5 a6 a7 a8 h
    unfold xX10_readings_56
    refine j_iload E dX10_readings_56 7 rfl ?_
    refine j_bipush E (v := 16) dX10_readings_58 (by decide) ?_
    refine j_cmp_ge E 144 dX10_readings_60 rfl ?_ ?_
    · refine j_iload_n E dX10_readings_144 1 rfl ?_
      refine j_if_ne E 152 dX10_readings_145 rfl ?_ ?_
      · refine j_iload_n E dX10_readings_152 1 rfl ?_
        refine j_iconst E (v := 1) dX10_readings_153 (by decide) ?_
        refine j_cmp_ne E 162 dX10_readings_154 rfl ?_ ?_
        · refine j_iload E dX10_readings_162 5 rfl ?_
          exact j_sub [] (lv1 := []) rfl (jxX10_readings_164 hg N E a6 h)
        · refine j_iload E dX10_readings_157 3 rfl ?_
          refine j_goto E 164 dX10_readings_159 rfl ?_
          exact j_sub [] (lv1 := []) rfl (jxX10_readings_164 hg N E a4 h)
      · refine j_iload_n E dX10_readings_148 2 rfl ?_
        refine j_goto E 164 dX10_readings_149 rfl ?_
        exact j_sub [] (lv1 := []) rfl (jxX10_readings_164 hg N E a3 h)
    · refine j_aload_n E dX10_readings_63 0 rfl ?_
      refine j_getr E f_X10_19 (cX_0 hg) 3 rfl dX10_readings_64 ?_
      refine j_iload E dX10_readings_67 7 rfl ?_
      refine j_callvI (As := [.int a8]) (st := []) E (ok_X6_isTold hg E.2.2.2.2.2.2.2.1 a8 h) (cX_3 hg) (cl_X10_156) (⟨Nat.le_of_ble_eq_true rfl, Nat.le_of_ble_eq_true rfl⟩) rfl rfl (Nat.le_of_ble_eq_true rfl) dX10_readings_69 (fun t1 h2 => ?_)
      refine j_if_ne E 78 dX10_readings_72 rfl ?_ ?_
      · refine j_aload_n E dX10_readings_78 0 rfl ?_
        refine j_getr E f_X10_10 (cX_0 hg) 1 rfl dX10_readings_79 ?_
        refine j_iload E dX10_readings_82 6 rfl ?_
        refine j_callvI (As := [.int a7]) (st := []) E (ok_X7_byteAt hg E.2.2.2.2.2.2.2.1 a7 h2) (cX_1 hg) (cl_X10_266) (⟨Nat.le_of_ble_eq_true rfl, Nat.le_of_ble_eq_true rfl⟩) rfl rfl (Nat.le_of_ble_eq_true rfl) dX10_readings_84 (fun t3 h4 => ?_)
        refine j_aload_n E dX10_readings_87 0 rfl ?_
        refine j_getr E f_X10_10 (cX_0 hg) 1 rfl dX10_readings_88 ?_
        refine j_iload E dX10_readings_91 6 rfl ?_
        refine j_iconst E (v := 1) dX10_readings_93 (by decide) ?_
        refine j_iadd E dX10_readings_94 ?_
        refine j_callvI (As := [.int (a7 + 1)]) (st := [.int t3]) E (ok_X7_byteAt hg E.2.2.2.2.2.2.2.1 (a7 + 1) h4) (cX_1 hg) (cl_X10_266) (⟨Nat.le_of_ble_eq_true rfl, Nat.le_of_ble_eq_true rfl⟩) rfl rfl (Nat.le_of_ble_eq_true rfl) dX10_readings_95 (fun t5 h6 => ?_)
        refine j_isub E dX10_readings_98 ?_
        refine j_istore E dX10_readings_99 (Nat.le_of_ble_eq_true rfl) (fun v7 => [(9, .int v7), (0, .ref (g.2.2.1 0)), (1, .int a1), (3, .int a3), (4, .int a4), (5, .int a5), (6, .int a6), (7, .int a7), (8, .int a8)]) (fun _ => rfl) (fun v7 => ?_)
        refine j_iinc E (c := 2) dX10_readings_101 7 rfl (by decide) (Nat.le_of_ble_eq_true rfl) (fun v8 => [(7, .int v8), (9, .int v7), (0, .ref (g.2.2.1 0)), (1, .int a1), (3, .int a3), (4, .int a4), (5, .int a5), (6, .int a6), (8, .int a8)]) (fun _ => rfl) (fun v8 => ?_)
        refine j_iload E dX10_readings_104 1 rfl ?_
        refine j_if_le E 123 dX10_readings_106 rfl ?_ ?_
        · exact j_sub [2, 3, 4, 5, 6, 7, 0, 8, 1] (lv1 := [(0, .ref (g.2.2.1 0)), (1, .int a1), (3, .int a3), (4, .int a4), (5, .int a5), (6, .int a6), (7, .int v8), (8, .int a8), (9, .int v7)]) rfl (jxX10_readings_123 hg N E (xX10_readings_56 N n) ih a1 a3 a4 a5 a6 v8 a8 v7 h6)
        · refine j_iload_n E dX10_readings_109 4 rfl ?_
          refine j_iconst E (v := 1) dX10_readings_110 (by decide) ?_
          refine j_iload E dX10_readings_111 8 rfl ?_
          refine j_ishl E dX10_readings_113 ?_
          refine j_ior E dX10_readings_114 ?_
          refine j_istore_n E dX10_readings_115 (Nat.le_of_ble_eq_true rfl) (fun v9 => [(3, .int v9), (7, .int v8), (9, .int v7), (0, .ref (g.2.2.1 0)), (1, .int a1), (4, .int a4), (5, .int a5), (6, .int a6), (8, .int a8)]) (fun _ => rfl) (fun v9 => ?_)
          refine j_iload E dX10_readings_116 7 rfl ?_
          refine j_iload E dX10_readings_118 2 rfl ?_
          refine j_iadd E dX10_readings_120 ?_
          refine j_istore E dX10_readings_121 (Nat.le_of_ble_eq_true rfl) (fun v10 => [(6, .int v10), (3, .int v9), (7, .int v8), (9, .int v7), (0, .ref (g.2.2.1 0)), (1, .int a1), (4, .int a4), (5, .int a5), (8, .int a8)]) (fun _ => rfl) (fun v10 => ?_)
          exact j_sub [4, 5, 1, 6, 7, 0, 2, 8, 3] (lv1 := [(0, .ref (g.2.2.1 0)), (1, .int a1), (3, .int v9), (4, .int a4), (5, .int a5), (6, .int v10), (7, .int v8), (8, .int a8), (9, .int v7)]) rfl (jxX10_readings_123 hg N E (xX10_readings_56 N n) ih a1 v9 a4 a5 v10 v8 a8 v7 h6)
      · refine j_goto E 138 dX10_readings_75 rfl ?_
        exact jxX10_readings_138 hg N E (xX10_readings_56 N n) ih a1 a3 a4 a5 a6 a7 a8 h2
set_option maxRecDepth 20000 in
set_option maxHeartbeats 4000000 in
theorem jxX10_readings {g : GC} (hg : isGX g) {X : MX} (N : Nat) (E : JE g mX10_readings X) (a1 : Int32) (h : HP) : J g mX10_readings X 0 [(0, .ref (g.2.2.1 0)), (1, .int a1)] [] h (xX10_readings N a1 h) := by
  unfold xX10_readings
  refine j_iconst E (v := 2) dX10_readings_0 (by decide) ?_
  refine j_aload_n E dX10_readings_1 0 rfl ?_
  refine j_getr E f_X10_19 (cX_0 hg) 3 rfl dX10_readings_2 ?_
  refine j_geti E f_X10_130 (cX_3 hg) rfl dX10_readings_5 ?_
  refine j_callsI (As := [.int (h.1 3 4)]) (st := [.int 2]) E (ok_J6_bitCount_0f7a4 hg E.2.2.2.2.2.2.2.1 (h.1 3 4) h) (cl_X10_223) (⟨Nat.le_of_ble_eq_true rfl, Nat.le_of_ble_eq_true rfl⟩) rfl rfl (Nat.le_of_ble_eq_true rfl) dX10_readings_8 (fun t1 h2 => ?_)
  refine j_imul E dX10_readings_11 ?_
  refine j_istore_n E dX10_readings_12 (Nat.le_of_ble_eq_true rfl) (fun v3 => [(2, .int v3), (0, .ref (g.2.2.1 0)), (1, .int a1)]) (fun _ => rfl) (fun v3 => ?_)
  refine j_iload_n E dX10_readings_13 2 rfl ?_
  refine j_if_lt E 36 dX10_readings_14 rfl ?_ ?_
  · exact j_sub [] (lv1 := []) rfl (jxX10_readings_36 hg N E h2)
  · refine j_iload_n E dX10_readings_17 2 rfl ?_
    refine j_iconst E (v := 2) dX10_readings_18 (by decide) ?_
    refine j_cmp_gt E 36 dX10_readings_19 rfl ?_ ?_
    · exact j_sub [] (lv1 := []) rfl (jxX10_readings_36 hg N E h2)
    · refine j_aload_n E dX10_readings_22 1 rfl ?_
      refine j_getr E f_X10_10 (cX_0 hg) 1 rfl dX10_readings_23 ?_
      refine j_iload_n E dX10_readings_26 0 rfl ?_
      refine j_iconst E (v := 2) dX10_readings_27 (by decide) ?_
      refine j_bipush E (v := 32) dX10_readings_28 (by decide) ?_
      refine j_callvI (As := [.int v3, .int 2, .int 32]) (st := []) E (ok_X7_gives hg E.2.2.2.2.2.2.2.1 v3 2 32 h2) (cX_1 hg) (cl_X10_109) (⟨Nat.le_of_ble_eq_true rfl, Nat.le_of_ble_eq_true rfl⟩) rfl rfl (Nat.le_of_ble_eq_true rfl) dX10_readings_30 (fun t4 h5 => ?_)
      refine j_if_ne E 38 dX10_readings_33 rfl ?_ ?_
      · refine j_iconst E (v := 0) dX10_readings_38 (by decide) ?_
        refine j_istore0_n E dX10_readings_39 (Nat.le_of_ble_eq_true rfl) [(3, .int 0), (2, .int v3), (0, .ref (g.2.2.1 0)), (1, .int a1)] rfl ?_
        refine j_bipush E (v := (-2)) dX10_readings_40 (by decide) ?_
        refine j_istore0 E dX10_readings_42 (Nat.le_of_ble_eq_true rfl) [(4, .int (-2)), (3, .int 0), (2, .int v3), (0, .ref (g.2.2.1 0)), (1, .int a1)] rfl ?_
        refine j_iconst E (v := 0) dX10_readings_44 (by decide) ?_
        refine j_istore0 E dX10_readings_45 (Nat.le_of_ble_eq_true rfl) [(5, .int 0), (4, .int (-2)), (3, .int 0), (2, .int v3), (0, .ref (g.2.2.1 0)), (1, .int a1)] rfl ?_
        refine j_iconst E (v := 0) dX10_readings_47 (by decide) ?_
        refine j_istore0 E dX10_readings_48 (Nat.le_of_ble_eq_true rfl) [(6, .int 0), (5, .int 0), (4, .int (-2)), (3, .int 0), (2, .int v3), (0, .ref (g.2.2.1 0)), (1, .int a1)] rfl ?_
        refine j_iconst E (v := 0) dX10_readings_50 (by decide) ?_
        refine j_istore0 E dX10_readings_51 (Nat.le_of_ble_eq_true rfl) [(7, .int 0), (6, .int 0), (5, .int 0), (4, .int (-2)), (3, .int 0), (2, .int v3), (0, .ref (g.2.2.1 0)), (1, .int a1)] rfl ?_
        refine j_iconst E (v := 0) dX10_readings_53 (by decide) ?_
        refine j_istore0 E dX10_readings_54 (Nat.le_of_ble_eq_true rfl) [(8, .int 0), (7, .int 0), (6, .int 0), (5, .int 0), (4, .int (-2)), (3, .int 0), (2, .int v3), (0, .ref (g.2.2.1 0)), (1, .int a1)] rfl ?_
        exact j_sub [7, 8, 5, 4, 3, 2, 1, 0] (lv1 := [(0, .ref (g.2.2.1 0)), (1, .int a1), (3, .int 0), (4, .int (-2)), (5, .int 0), (6, .int 0), (7, .int 0), (8, .int 0)]) rfl (jxX10_readings_56 hg N E N a1 0 (-2) 0 0 0 0 h5)
      · exact j_sub [] (lv1 := []) rfl (jxX10_readings_36 hg N E h5)
theorem ok_X10_readings {g : GC} (hg : isGX g) (hI : gI g) (N : Nat) (a1 : Int32) (h : HP) : Ok g yX10_readings mX10_readings [.ref (g.2.2.1 0), .int a1] h (xX10_readings N a1 h) := Ok.of hI (by decide) rfl (Nat.le_of_ble_eq_true rfl) (fun X E => jxX10_readings hg N E a1 h)
set_option maxRecDepth 20000 in
set_option maxHeartbeats 4000000 in
theorem jxX10_hose_77 {g : GC} (hg : isGX g) {X : MX} (N : Nat) (E : JE g mX10_hose X) (h : HP) : J g mX10_hose X 77 [] [] h (xX10_hose_77 N h) := by
  unfold xX10_hose_77
  refine j_iconst E (v := (-1)) dX10_hose_77 (by decide) ?_
  exact j_ireturn E rfl dX10_hose_78
set_option maxRecDepth 20000 in
set_option maxHeartbeats 4000000 in
theorem jxX10_hose_174 {g : GC} (hg : isGX g) {X : MX} (N : Nat) (E : JE g mX10_hose X) (K127 : Int32 → Int32 → Int32 → Int32 → Int32 → Int32 → Int32 → Int32 → HP → Option (Int32 × HP)) (hK127 : ∀ (a1 : Int32) (a2 : Int32) (a3 : Int32) (a6 : Int32) (a7 : Int32) (a8 : Int32) (a9 : Int32) (a10 : Int32) (h : HP), J g mX10_hose X 127 [(0, .ref (g.2.2.1 0)), (1, .int a1), (2, .int a2), (3, .int a3), (6, .int a6), (7, .int a7), (8, .int a8), (9, .int a9), (10, .int a10)] [] h (K127 a1 a2 a3 a6 a7 a8 a9 a10 h)) (a1 : Int32) (a2 : Int32) (a3 : Int32) (a6 : Int32) (a7 : Int32) (a8 : Int32) (a9 : Int32) (a10 : Int32) (h : HP) : J g mX10_hose X 174 [(0, .ref (g.2.2.1 0)), (1, .int a1), (2, .int a2), (3, .int a3), (6, .int a6), (7, .int a7), (8, .int a8), (9, .int a9), (10, .int a10)] [] h (xX10_hose_174 N K127 a1 a2 a3 a6 a7 a8 a9 a10 h) := by
  unfold xX10_hose_174
  refine j_iinc E (c := 1) dX10_hose_174 8 rfl (by decide) (Nat.le_of_ble_eq_true rfl) (fun v1 => [(10, .int v1), (0, .ref (g.2.2.1 0)), (1, .int a1), (2, .int a2), (3, .int a3), (6, .int a6), (7, .int a7), (8, .int a8), (9, .int a9)]) (fun _ => rfl) (fun v1 => ?_)
  refine j_goto E 127 dX10_hose_177 rfl ?_
  exact j_sub [1, 2, 3, 4, 5, 6, 7, 8, 0] (lv1 := [(0, .ref (g.2.2.1 0)), (1, .int a1), (2, .int a2), (3, .int a3), (6, .int a6), (7, .int a7), (8, .int a8), (9, .int a9), (10, .int v1)]) rfl (hK127 a1 a2 a3 a6 a7 a8 a9 v1 h)
set_option maxRecDepth 20000 in
set_option maxHeartbeats 4000000 in
theorem jxX10_hose_127 {g : GC} (hg : isGX g) {X : MX} (N : Nat) (E : JE g mX10_hose X) (K93 : Int32 → Int32 → Int32 → Int32 → Int32 → HP → Option (Int32 × HP)) (hK93 : ∀ (a1 : Int32) (a2 : Int32) (a3 : Int32) (a6 : Int32) (a7 : Int32) (h : HP), J g mX10_hose X 93 [(0, .ref (g.2.2.1 0)), (1, .int a1), (2, .int a2), (3, .int a3), (6, .int a6), (7, .int a7)] [] h (K93 a1 a2 a3 a6 a7 h)) : ∀ (n : Nat) (a1 : Int32) (a2 : Int32) (a3 : Int32) (a6 : Int32) (a7 : Int32) (a8 : Int32) (a9 : Int32) (a10 : Int32) (h : HP), J g mX10_hose X 127 [(0, .ref (g.2.2.1 0)), (1, .int a1), (2, .int a2), (3, .int a3), (6, .int a6), (7, .int a7), (8, .int a8), (9, .int a9), (10, .int a10)] [] h (xX10_hose_127 N K93 n a1 a2 a3 a6 a7 a8 a9 a10 h) := by
  intro n
  induction n with
  | zero => intro a1 a2 a3 a6 a7 a8 a9 a10 h; exact j_none
  | succ n ih =>
    intro a1 a2 a3 a6 a7 a8 a9 a10 h
    unfold xX10_hose_127
    refine j_iload E dX10_hose_127 8 rfl ?_
    refine j_iload_n E dX10_hose_129 2 rfl ?_
    refine j_cmp_ge E 180 dX10_hose_130 rfl ?_ ?_
    · refine j_iload E dX10_hose_180 5 rfl ?_
      refine j_iload_n E dX10_hose_182 3 rfl ?_
      refine j_cmp_ne E 189 dX10_hose_183 rfl ?_ ?_
      · refine j_aload_n E dX10_hose_189 0 rfl ?_
        refine j_getr E f_X10_97 (cX_0 hg) 58 rfl dX10_hose_190 ?_
        refine j_iload E dX10_hose_193 6 rfl ?_
        refine j_iload E dX10_hose_195 7 rfl ?_
        refine j_iast E (cX_58 hg) dX10_hose_197 (fun h1 => ?_)
        refine j_iload E dX10_hose_198 4 rfl ?_
        refine j_iload E dX10_hose_200 7 rfl ?_
        refine j_max2 E ml_X10_275 (Nat.le_of_ble_eq_true rfl) (Nat.le_of_ble_eq_true rfl) dX10_hose_202 ?_
        refine j_istore E dX10_hose_205 (Nat.le_of_ble_eq_true rfl) (fun v2 => [(6, .int v2), (0, .ref (g.2.2.1 0)), (1, .int a1), (2, .int a2), (3, .int a3), (7, .int a7), (8, .int a8), (9, .int a9), (10, .int a10)]) (fun _ => rfl) (fun v2 => ?_)
        refine j_iinc E (c := 1) dX10_hose_207 5 rfl (by decide) (Nat.le_of_ble_eq_true rfl) (fun v3 => [(7, .int v3), (6, .int v2), (0, .ref (g.2.2.1 0)), (1, .int a1), (2, .int a2), (3, .int a3), (8, .int a8), (9, .int a9), (10, .int a10)]) (fun _ => rfl) (fun v3 => ?_)
        refine j_goto E 93 dX10_hose_210 rfl ?_
        exact j_sub [2, 3, 4, 5, 1, 0] (lv1 := [(0, .ref (g.2.2.1 0)), (1, .int a1), (2, .int a2), (3, .int a3), (6, .int v2), (7, .int v3)]) rfl (hK93 a1 a2 a3 v2 v3 h1)
      · refine j_iload E dX10_hose_186 6 rfl ?_
        exact j_ireturn E rfl dX10_hose_188
    · refine j_aload_n E dX10_hose_133 0 rfl ?_
      refine j_getr E f_X10_97 (cX_0 hg) 58 rfl dX10_hose_134 ?_
      refine j_iload E dX10_hose_137 8 rfl ?_
      refine j_iald E (cX_58 hg) dX10_hose_139 (fun t4 => ?_)
      refine j_iconst E (v := 2) dX10_hose_140 (by decide) ?_
      refine j_aload_n E dX10_hose_141 0 rfl ?_
      refine j_getr E f_X10_10 (cX_0 hg) 1 rfl dX10_hose_142 ?_
      refine j_iload E dX10_hose_145 5 rfl ?_
      refine j_iload_n E dX10_hose_147 2 rfl ?_
      refine j_imul E dX10_hose_148 ?_
      refine j_iload E dX10_hose_149 8 rfl ?_
      refine j_iadd E dX10_hose_151 ?_
      refine j_callvI (As := [.int ((a7 * a2) + a10)]) (st := [.int 2, .int t4]) E (ok_X7_byteAt hg E.2.2.2.2.2.2.2.1 ((a7 * a2) + a10) h) (cX_1 hg) (cl_X10_266) (⟨Nat.le_of_ble_eq_true rfl, Nat.le_of_ble_eq_true rfl⟩) rfl rfl (Nat.le_of_ble_eq_true rfl) dX10_hose_152 (fun t5 h6 => ?_)
      refine j_imul E dX10_hose_155 ?_
      refine j_iadd E dX10_hose_156 ?_
      refine j_istore E dX10_hose_157 (Nat.le_of_ble_eq_true rfl) (fun v7 => [(11, .int v7), (0, .ref (g.2.2.1 0)), (1, .int a1), (2, .int a2), (3, .int a3), (6, .int a6), (7, .int a7), (8, .int a8), (9, .int a9), (10, .int a10)]) (fun _ => rfl) (fun v7 => ?_)
      refine j_iload E dX10_hose_159 0 rfl ?_
      refine j_iload E dX10_hose_161 8 rfl ?_
      refine j_cmp_ge E 174 dX10_hose_163 rfl ?_ ?_
      · exact j_sub [1, 2, 3, 4, 5, 6, 7, 8, 9] (lv1 := [(0, .ref (g.2.2.1 0)), (1, .int a1), (2, .int a2), (3, .int a3), (6, .int a6), (7, .int a7), (8, .int a8), (9, .int a9), (10, .int a10)]) rfl (jxX10_hose_174 hg N E (xX10_hose_127 N K93 n) ih a1 a2 a3 a6 a7 a8 a9 a10 h6)
      · refine j_iload E dX10_hose_166 9 rfl ?_
        refine j_istore0 E dX10_hose_168 (Nat.le_of_ble_eq_true rfl) [(8, .int a10), (11, .int v7), (0, .ref (g.2.2.1 0)), (1, .int a1), (2, .int a2), (3, .int a3), (6, .int a6), (7, .int a7), (9, .int a9), (10, .int a10)] rfl ?_
        refine j_iload E dX10_hose_170 1 rfl ?_
        refine j_istore0 E dX10_hose_172 (Nat.le_of_ble_eq_true rfl) [(9, .int v7), (8, .int a10), (11, .int v7), (0, .ref (g.2.2.1 0)), (1, .int a1), (2, .int a2), (3, .int a3), (6, .int a6), (7, .int a7), (10, .int a10)] rfl ?_
        exact j_sub [3, 4, 5, 6, 7, 8, 1, 0, 9] (lv1 := [(0, .ref (g.2.2.1 0)), (1, .int a1), (2, .int a2), (3, .int a3), (6, .int a6), (7, .int a7), (8, .int a10), (9, .int v7), (10, .int a10)]) rfl (jxX10_hose_174 hg N E (xX10_hose_127 N K93 n) ih a1 a2 a3 a6 a7 a10 v7 a10 h6)
set_option maxRecDepth 20000 in
set_option maxHeartbeats 4000000 in
theorem jxX10_hose_93 {g : GC} (hg : isGX g) {X : MX} (N : Nat) (E : JE g mX10_hose X) : ∀ (n : Nat) (a1 : Int32) (a2 : Int32) (a3 : Int32) (a6 : Int32) (a7 : Int32) (h : HP), J g mX10_hose X 93 [(0, .ref (g.2.2.1 0)), (1, .int a1), (2, .int a2), (3, .int a3), (6, .int a6), (7, .int a7)] [] h (xX10_hose_93 N n a1 a2 a3 a6 a7 h) := by
  intro n
  induction n with
  | zero => intro a1 a2 a3 a6 a7 h; exact j_none
  | succ n ih =>
    intro a1 a2 a3 a6 a7 h
    unfold xX10_hose_93
    refine j_iload E dX10_hose_93 5 rfl ?_
    refine j_iload_n E dX10_hose_95 1 rfl ?_
    refine j_cmp_ge E 213 dX10_hose_96 rfl ?_ ?_
    · refine j_iload E dX10_hose_213 4 rfl ?_
      exact j_ireturn E rfl dX10_hose_215
    · refine j_iconst E (v := 0) dX10_hose_99 (by decide) ?_
      refine j_istore0 E dX10_hose_100 (Nat.le_of_ble_eq_true rfl) [(8, .int 0), (0, .ref (g.2.2.1 0)), (1, .int a1), (2, .int a2), (3, .int a3), (6, .int a6), (7, .int a7)] rfl ?_
      refine j_aload_n E dX10_hose_102 1 rfl ?_
      refine j_getr E f_X10_97 (cX_0 hg) 58 rfl dX10_hose_103 ?_
      refine j_iconst E (v := 0) dX10_hose_106 (by decide) ?_
      refine j_iald E (cX_58 hg) dX10_hose_107 (fun t1 => ?_)
      refine j_iconst E (v := 2) dX10_hose_108 (by decide) ?_
      refine j_aload_n E dX10_hose_109 1 rfl ?_
      refine j_getr E f_X10_10 (cX_0 hg) 1 rfl dX10_hose_110 ?_
      refine j_iload E dX10_hose_113 6 rfl ?_
      refine j_iload_n E dX10_hose_115 3 rfl ?_
      refine j_imul E dX10_hose_116 ?_
      refine j_callvI (As := [.int (a7 * a2)]) (st := [.int 2, .int t1]) E (ok_X7_byteAt hg E.2.2.2.2.2.2.2.1 (a7 * a2) h) (cX_1 hg) (cl_X10_266) (⟨Nat.le_of_ble_eq_true rfl, Nat.le_of_ble_eq_true rfl⟩) rfl rfl (Nat.le_of_ble_eq_true rfl) dX10_hose_117 (fun t2 h3 => ?_)
      refine j_imul E dX10_hose_120 ?_
      refine j_iadd E dX10_hose_121 ?_
      refine j_istore E dX10_hose_122 (Nat.le_of_ble_eq_true rfl) (fun v4 => [(9, .int v4), (8, .int 0), (0, .ref (g.2.2.1 0)), (1, .int a1), (2, .int a2), (3, .int a3), (6, .int a6), (7, .int a7)]) (fun _ => rfl) (fun v4 => ?_)
      refine j_iconst E (v := 1) dX10_hose_124 (by decide) ?_
      refine j_istore0 E dX10_hose_125 (Nat.le_of_ble_eq_true rfl) [(10, .int 1), (9, .int v4), (8, .int 0), (0, .ref (g.2.2.1 0)), (1, .int a1), (2, .int a2), (3, .int a3), (6, .int a6), (7, .int a7)] rfl ?_
      exact j_sub [3, 4, 5, 6, 7, 8, 2, 1, 0] (lv1 := [(0, .ref (g.2.2.1 0)), (1, .int a1), (2, .int a2), (3, .int a3), (6, .int a6), (7, .int a7), (8, .int 0), (9, .int v4), (10, .int 1)]) rfl (jxX10_hose_127 hg N E (xX10_hose_93 N n) ih N a1 a2 a3 a6 a7 0 v4 1 h3)
set_option maxRecDepth 20000 in
set_option maxHeartbeats 4000000 in
theorem jxX10_hose_49 {g : GC} (hg : isGX g) {X : MX} (N : Nat) (E : JE g mX10_hose X) (a1 : Int32) (a2 : Int32) (a3 : Int32) (a4 : Int32) (s0 : Int32) (h : HP) : J g mX10_hose X 49 [(0, .ref (g.2.2.1 0)), (1, .int a1), (2, .int a2), (3, .int a3), (4, .int a4)] [.int s0] h (xX10_hose_49 N a1 a2 a3 a4 s0 h) := by
  unfold xX10_hose_49
  refine j_istore0 E dX10_hose_49 (Nat.le_of_ble_eq_true rfl) [(5, .int s0), (0, .ref (g.2.2.1 0)), (1, .int a1), (2, .int a2), (3, .int a3), (4, .int a4)] rfl ?_
  refine j_iload E dX10_hose_51 5 rfl ?_
  refine j_if_eq E 77 dX10_hose_53 rfl ?_ ?_
  · exact j_sub [] (lv1 := []) rfl (jxX10_hose_77 hg N E h)
  · refine j_iload E dX10_hose_56 0 rfl ?_
    refine j_if_eq E 77 dX10_hose_58 rfl ?_ ?_
    · exact j_sub [] (lv1 := []) rfl (jxX10_hose_77 hg N E h)
    · refine j_aload_n E dX10_hose_61 1 rfl ?_
      refine j_getr E f_X10_10 (cX_0 hg) 1 rfl dX10_hose_62 ?_
      refine j_iload_n E dX10_hose_65 2 rfl ?_
      refine j_iload_n E dX10_hose_66 3 rfl ?_
      refine j_imul E dX10_hose_67 ?_
      refine j_iconst E (v := 1) dX10_hose_68 (by decide) ?_
      refine j_bipush E (v := 72) dX10_hose_69 (by decide) ?_
      refine j_callvI (As := [.int (a1 * a2), .int 1, .int 72]) (st := []) E (ok_X7_gives hg E.2.2.2.2.2.2.2.1 (a1 * a2) 1 72 h) (cX_1 hg) (cl_X10_109) (⟨Nat.le_of_ble_eq_true rfl, Nat.le_of_ble_eq_true rfl⟩) rfl rfl (Nat.le_of_ble_eq_true rfl) dX10_hose_71 (fun t1 h2 => ?_)
      refine j_if_ne E 79 dX10_hose_74 rfl ?_ ?_
      · refine j_aload_n E dX10_hose_79 1 rfl ?_
        refine j_getr E f_X10_97 (cX_0 hg) 58 rfl dX10_hose_80 ?_
        refine j_iconst E (v := 0) dX10_hose_83 (by decide) ?_
        refine j_callsV (As := [.ref (g.2.2.1 58), .int 0]) (st := []) E (ok_J7_fill_53178 hg E.2.2.2.2.2.2.2.1 N 6 58 (cX_58 hg) 0 h2) (cl_X10_269) (⟨Nat.le_of_ble_eq_true rfl, Nat.le_of_ble_eq_true rfl⟩) rfl rfl (Nat.le_of_ble_eq_true rfl) dX10_hose_84 (fun t3 h4 => ?_)
        refine j_iconst E (v := 0) dX10_hose_87 (by decide) ?_
        refine j_istore0 E dX10_hose_88 (Nat.le_of_ble_eq_true rfl) [(6, .int 0), (5, .int s0), (0, .ref (g.2.2.1 0)), (1, .int a1), (2, .int a2), (3, .int a3), (4, .int a4)] rfl ?_
        refine j_iconst E (v := 0) dX10_hose_90 (by decide) ?_
        refine j_istore0 E dX10_hose_91 (Nat.le_of_ble_eq_true rfl) [(7, .int 0), (6, .int 0), (5, .int s0), (0, .ref (g.2.2.1 0)), (1, .int a1), (2, .int a2), (3, .int a3), (4, .int a4)] rfl ?_
        exact j_sub [3, 4, 5, 6, 1, 0] (lv1 := [(0, .ref (g.2.2.1 0)), (1, .int a1), (2, .int a2), (3, .int a3), (6, .int 0), (7, .int 0)]) rfl (jxX10_hose_93 hg N E N a1 a2 a3 0 0 h4)
      · exact j_sub [] (lv1 := []) rfl (jxX10_hose_77 hg N E h2)
set_option maxRecDepth 20000 in
set_option maxHeartbeats 4000000 in
theorem jxX10_hose_44 {g : GC} (hg : isGX g) {X : MX} (N : Nat) (E : JE g mX10_hose X) (a1 : Int32) (a2 : Int32) (a3 : Int32) (a4 : Int32) (h : HP) : J g mX10_hose X 44 [(0, .ref (g.2.2.1 0)), (1, .int a1), (2, .int a2), (3, .int a3), (4, .int a4)] [] h (xX10_hose_44 N a1 a2 a3 a4 h) := by
  unfold xX10_hose_44
  refine j_iconst E (v := 1) dX10_hose_44 (by decide) ?_
  refine j_goto E 49 dX10_hose_45 rfl ?_
  exact jxX10_hose_49 hg N E a1 a2 a3 a4 1 h
set_option maxRecDepth 20000 in
set_option maxHeartbeats 4000000 in
theorem jxX10_hose_48 {g : GC} (hg : isGX g) {X : MX} (N : Nat) (E : JE g mX10_hose X) (a1 : Int32) (a2 : Int32) (a3 : Int32) (a4 : Int32) (h : HP) : J g mX10_hose X 48 [(0, .ref (g.2.2.1 0)), (1, .int a1), (2, .int a2), (3, .int a3), (4, .int a4)] [] h (xX10_hose_48 N a1 a2 a3 a4 h) := by
  unfold xX10_hose_48
  refine j_iconst E (v := 0) dX10_hose_48 (by decide) ?_
  exact jxX10_hose_49 hg N E a1 a2 a3 a4 0 h
set_option maxRecDepth 20000 in
set_option maxHeartbeats 4000000 in
theorem jxX10_hose_27 {g : GC} (hg : isGX g) {X : MX} (N : Nat) (E : JE g mX10_hose X) (a1 : Int32) (a2 : Int32) (a3 : Int32) (s0 : Int32) (h : HP) : J g mX10_hose X 27 [(0, .ref (g.2.2.1 0)), (1, .int a1), (2, .int a2), (3, .int a3)] [.int s0] h (xX10_hose_27 N a1 a2 a3 s0 h) := by
  unfold xX10_hose_27
  refine j_istore0 E dX10_hose_27 (Nat.le_of_ble_eq_true rfl) [(4, .int s0), (0, .ref (g.2.2.1 0)), (1, .int a1), (2, .int a2), (3, .int a3)] rfl ?_
  refine j_iload_n E dX10_hose_29 4 rfl ?_
  refine j_bipush E (v := 100) dX10_hose_30 (by decide) ?_
  refine j_cmp_eq E 44 dX10_hose_32 rfl ?_ ?_
  · exact j_sub [1, 2, 3, 4, 0] (lv1 := [(0, .ref (g.2.2.1 0)), (1, .int a1), (2, .int a2), (3, .int a3), (4, .int s0)]) rfl (jxX10_hose_44 hg N E a1 a2 a3 s0 h)
  · refine j_iload_n E dX10_hose_35 4 rfl ?_
    refine j_if_lt E 48 dX10_hose_36 rfl ?_ ?_
    · exact j_sub [1, 2, 3, 4, 0] (lv1 := [(0, .ref (g.2.2.1 0)), (1, .int a1), (2, .int a2), (3, .int a3), (4, .int s0)]) rfl (jxX10_hose_48 hg N E a1 a2 a3 s0 h)
    · refine j_iload_n E dX10_hose_39 4 rfl ?_
      refine j_iload_n E dX10_hose_40 2 rfl ?_
      refine j_cmp_ge E 48 dX10_hose_41 rfl ?_ ?_
      · exact j_sub [1, 2, 3, 4, 0] (lv1 := [(0, .ref (g.2.2.1 0)), (1, .int a1), (2, .int a2), (3, .int a3), (4, .int s0)]) rfl (jxX10_hose_48 hg N E a1 a2 a3 s0 h)
      · exact j_sub [1, 2, 3, 4, 0] (lv1 := [(0, .ref (g.2.2.1 0)), (1, .int a1), (2, .int a2), (3, .int a3), (4, .int s0)]) rfl (jxX10_hose_44 hg N E a1 a2 a3 s0 h)
set_option maxRecDepth 20000 in
set_option maxHeartbeats 4000000 in
theorem jxX10_hose_26 {g : GC} (hg : isGX g) {X : MX} (N : Nat) (E : JE g mX10_hose X) (a1 : Int32) (a2 : Int32) (a3 : Int32) (h : HP) : J g mX10_hose X 26 [(0, .ref (g.2.2.1 0)), (1, .int a1), (2, .int a2), (3, .int a3)] [] h (xX10_hose_26 N a1 a2 a3 h) := by
  unfold xX10_hose_26
  refine j_iconst E (v := 0) dX10_hose_26 (by decide) ?_
  exact jxX10_hose_27 hg N E a1 a2 a3 0 h
set_option maxRecDepth 20000 in
set_option maxHeartbeats 4000000 in
theorem jxX10_hose {g : GC} (hg : isGX g) {X : MX} (N : Nat) (E : JE g mX10_hose X) (a1 : Int32) (a2 : Int32) (a3 : Int32) (h : HP) : J g mX10_hose X 0 [(0, .ref (g.2.2.1 0)), (1, .int a1), (2, .int a2), (3, .int a3)] [] h (xX10_hose N a1 a2 a3 h) := by
  unfold xX10_hose
  refine j_iload_n E dX10_hose_0 1 rfl ?_
  refine j_iconst E (v := 1) dX10_hose_1 (by decide) ?_
  refine j_cmp_lt E 26 dX10_hose_2 rfl ?_ ?_
  · exact jxX10_hose_26 hg N E a1 a2 a3 h
  · refine j_iload_n E dX10_hose_5 1 rfl ?_
    refine j_bipush E (v := 12) dX10_hose_6 (by decide) ?_
    refine j_cmp_gt E 26 dX10_hose_8 rfl ?_ ?_
    · exact jxX10_hose_26 hg N E a1 a2 a3 h
    · refine j_iload_n E dX10_hose_11 2 rfl ?_
      refine j_iconst E (v := 1) dX10_hose_12 (by decide) ?_
      refine j_cmp_lt E 26 dX10_hose_13 rfl ?_ ?_
      · exact jxX10_hose_26 hg N E a1 a2 a3 h
      · refine j_iload_n E dX10_hose_16 2 rfl ?_
        refine j_bipush E (v := 6) dX10_hose_17 (by decide) ?_
        refine j_cmp_gt E 26 dX10_hose_19 rfl ?_ ?_
        · exact jxX10_hose_26 hg N E a1 a2 a3 h
        · refine j_iconst E (v := 1) dX10_hose_22 (by decide) ?_
          refine j_goto E 27 dX10_hose_23 rfl ?_
          exact jxX10_hose_27 hg N E a1 a2 a3 1 h
theorem ok_X10_hose {g : GC} (hg : isGX g) (hI : gI g) (N : Nat) (a1 : Int32) (a2 : Int32) (a3 : Int32) (h : HP) : Ok g yX10_hose mX10_hose [.ref (g.2.2.1 0), .int a1, .int a2, .int a3] h (xX10_hose N a1 a2 a3 h) := Ok.of hI (by decide) rfl (Nat.le_of_ble_eq_true rfl) (fun X E => jxX10_hose hg N E a1 a2 a3 h)
set_option maxRecDepth 20000 in
set_option maxHeartbeats 4000000 in
theorem jxX10_seed_11 {g : GC} (hg : isGX g) {X : MX} (E : JE g mX10_seed X) (h : HP) : J g mX10_seed X 11 [] [] h (xX10_seed_11 h) := by
  unfold xX10_seed_11
  refine j_iconst E (v := 0) dX10_seed_11 (by decide) ?_
  exact j_zreturn E rfl dX10_seed_12
set_option maxRecDepth 20000 in
set_option maxHeartbeats 4000000 in
theorem jxX10_seed {g : GC} (hg : isGX g) {X : MX} (E : JE g mX10_seed X) (a1 : Int32) (h : HP) : J g mX10_seed X 0 [(0, .ref (g.2.2.1 0)), (1, .int a1)] [] h (xX10_seed a1 h) := by
  unfold xX10_seed
  refine j_iload_n E dX10_seed_0 1 rfl ?_
  refine j_if_lt E 11 dX10_seed_1 rfl ?_ ?_
  · exact j_sub [] (lv1 := []) rfl (jxX10_seed_11 hg E h)
  · refine j_iload_n E dX10_seed_4 1 rfl ?_
    refine j_ldcw E (v := 65536) k_X10_280 dX10_seed_5 ?_
    refine j_cmp_lt E 13 dX10_seed_8 rfl ?_ ?_
    · refine j_aload_n E dX10_seed_13 0 rfl ?_
      refine j_getr E f_X10_46 (cX_0 hg) 31 rfl dX10_seed_14 ?_
      refine j_iload_n E dX10_seed_17 1 rfl ?_
      refine j_puti E fp_X10_281 (cX_31 hg) rfl dX10_seed_18 (fun h1 => ?_)
      refine j_iconst E (v := 1) dX10_seed_21 (by decide) ?_
      exact j_zreturn E rfl dX10_seed_22
    · exact j_sub [] (lv1 := []) rfl (jxX10_seed_11 hg E h)
theorem ok_X10_seed {g : GC} (hg : isGX g) (hI : gI g) (a1 : Int32) (h : HP) : Ok g yX10_seed mX10_seed [.ref (g.2.2.1 0), .int a1] h (xX10_seed a1 h) := Ok.of hI (by decide) rfl (Nat.le_of_ble_eq_true rfl) (fun X E => jxX10_seed hg E a1 h)
set_option maxRecDepth 20000 in
set_option maxHeartbeats 4000000 in
theorem jxX10_keep {g : GC} (hg : isGX g) {X : MX} (E : JE g mX10_keep X) (h : HP) : J g mX10_keep X 0 [(0, .ref (g.2.2.1 0))] [] h (xX10_keep h) := by
  unfold xX10_keep
  refine j_aload_n E dX10_keep_0 0 rfl ?_
  refine j_getr E f_X10_50 (cX_0 hg) 35 rfl dX10_keep_1 ?_
  refine j_aload_n E dX10_keep_4 0 rfl ?_
  refine j_getr E f_X10_46 (cX_0 hg) 31 rfl dX10_keep_5 ?_
  refine j_callvV (As := [.ref (g.2.2.1 31)]) (st := []) E (ok_X5_become hg E.2.2.2.2.2.2.2.1 35 (by decide) h) (cX_35 hg) (cl_X10_159) (⟨Nat.le_of_ble_eq_true rfl, Nat.le_of_ble_eq_true rfl⟩) rfl rfl (Nat.le_of_ble_eq_true rfl) dX10_keep_8 (fun t1 h2 => ?_)
  refine j_aload_n E dX10_keep_11 0 rfl ?_
  refine j_iconst E (v := 1) dX10_keep_12 (by decide) ?_
  refine j_putz E fp_X10_284 (cX_0 hg) rfl dX10_keep_13 (fun h3 => ?_)
  refine j_aload_n E dX10_keep_16 0 rfl ?_
  refine j_getr E f_X10_46 (cX_0 hg) 31 rfl dX10_keep_17 ?_
  refine j_geti E f_X10_288 (cX_31 hg) rfl dX10_keep_20 ?_
  exact j_ireturn E rfl dX10_keep_23
theorem ok_X10_keep {g : GC} (hg : isGX g) (hI : gI g) (h : HP) : Ok g yX10_keep mX10_keep [.ref (g.2.2.1 0)] h (xX10_keep h) := Ok.of hI (by decide) rfl (Nat.le_of_ble_eq_true rfl) (fun X E => jxX10_keep hg E h)
set_option maxRecDepth 20000 in
set_option maxHeartbeats 4000000 in
theorem jxX10_undo_18 {g : GC} (hg : isGX g) {X : MX} (N : Nat) (E : JE g mX10_undo X) (h : HP) : J g mX10_undo X 18 [(0, .ref (g.2.2.1 0))] [] h (xX10_undo_18 N h) := by
  unfold xX10_undo_18
  refine j_aload_n E dX10_undo_18 0 rfl ?_
  refine j_geti E f_X10_284 (cX_0 hg) rfl dX10_undo_19 ?_
  exact j_zreturn E rfl dX10_undo_22
set_option maxRecDepth 20000 in
set_option maxHeartbeats 4000000 in
theorem jxX10_undo {g : GC} (hg : isGX g) {X : MX} (N : Nat) (E : JE g mX10_undo X) (h : HP) : J g mX10_undo X 0 [(0, .ref (g.2.2.1 0))] [] h (xX10_undo N h) := by
  unfold xX10_undo
  refine j_aload_n E dX10_undo_0 0 rfl ?_
  refine j_geti E f_X10_284 (cX_0 hg) rfl dX10_undo_1 ?_
  refine j_if_eq E 18 dX10_undo_4 rfl ?_ ?_
  · exact jxX10_undo_18 hg N E h
  · refine j_aload_n E dX10_undo_7 0 rfl ?_
    refine j_getr E f_X10_46 (cX_0 hg) 31 rfl dX10_undo_8 ?_
    refine j_aload_n E dX10_undo_11 0 rfl ?_
    refine j_getr E f_X10_50 (cX_0 hg) 35 rfl dX10_undo_12 ?_
    refine j_callvV (As := [.ref (g.2.2.1 35)]) (st := []) E (ok_X5_comeBackTo hg E.2.2.2.2.2.2.2.1 N h) (cX_31 hg) (cl_X10_291) (⟨Nat.le_of_ble_eq_true rfl, Nat.le_of_ble_eq_true rfl⟩) rfl rfl (Nat.le_of_ble_eq_true rfl) dX10_undo_15 (fun t1 h2 => ?_)
    exact jxX10_undo_18 hg N E h2
theorem ok_X10_undo {g : GC} (hg : isGX g) (hI : gI g) (N : Nat) (h : HP) : Ok g yX10_undo mX10_undo [.ref (g.2.2.1 0)] h (xX10_undo N h) := Ok.of hI (by decide) rfl (Nat.le_of_ble_eq_true rfl) (fun X E => jxX10_undo hg N E h)
set_option maxRecDepth 20000 in
set_option maxHeartbeats 4000000 in
theorem jxX10_check_50 {g : GC} (hg : isGX g) {X : MX} (N : Nat) (E : JE g mX10_check X) (K19 : Int32 → Int32 → HP → Option (Int32 × HP)) (hK19 : ∀ (a1 : Int32) (a2 : Int32) (h : HP), J g mX10_check X 19 [(0, .ref (g.2.2.1 0)), (1, .int a1), (2, .int a2)] [] h (K19 a1 a2 h)) (a1 : Int32) (a2 : Int32) (s0 : Int32) (h : HP) : J g mX10_check X 50 [(0, .ref (g.2.2.1 0)), (1, .int a1), (2, .int a2)] [.int s0] h (xX10_check_50 N K19 a1 a2 s0 h) := by
  unfold xX10_check_50
  refine j_istore0_n E dX10_check_50 (Nat.le_of_ble_eq_true rfl) [(3, .int s0), (0, .ref (g.2.2.1 0)), (1, .int a1), (2, .int a2)] rfl ?_
  refine j_aload_n E dX10_check_51 1 rfl ?_
  refine j_getr E f_X10_10 (cX_0 hg) 1 rfl dX10_check_52 ?_
  refine j_iload_n E dX10_check_55 3 rfl ?_
  refine j_callvI (As := [.int a2]) (st := []) E (ok_X7_byteAt hg E.2.2.2.2.2.2.2.1 a2 h) (cX_1 hg) (cl_X10_266) (⟨Nat.le_of_ble_eq_true rfl, Nat.le_of_ble_eq_true rfl⟩) rfl rfl (Nat.le_of_ble_eq_true rfl) dX10_check_56 (fun t1 h2 => ?_)
  refine j_iload_n E dX10_check_59 0 rfl ?_
  refine j_cmp_eq E 65 dX10_check_60 rfl ?_ ?_
  · refine j_iinc E (c := 1) dX10_check_65 3 rfl (by decide) (Nat.le_of_ble_eq_true rfl) (fun v3 => [(2, .int v3), (3, .int s0), (0, .ref (g.2.2.1 0)), (1, .int a1)]) (fun _ => rfl) (fun v3 => ?_)
    refine j_goto E 19 dX10_check_68 rfl ?_
    exact j_sub [2, 3, 0] (lv1 := [(0, .ref (g.2.2.1 0)), (1, .int a1), (2, .int v3)]) rfl (hK19 a1 v3 h2)
  · refine j_iload_n E dX10_check_63 3 rfl ?_
    exact j_ireturn E rfl dX10_check_64
set_option maxRecDepth 20000 in
set_option maxHeartbeats 4000000 in
theorem jxX10_check_19 {g : GC} (hg : isGX g) {X : MX} (N : Nat) (E : JE g mX10_check X) : ∀ (n : Nat) (a1 : Int32) (a2 : Int32) (h : HP), J g mX10_check X 19 [(0, .ref (g.2.2.1 0)), (1, .int a1), (2, .int a2)] [] h (xX10_check_19 N n a1 a2 h) := by
  intro n
  induction n with
  | zero => intro a1 a2 h; exact j_none
  | succ n ih =>
    intro a1 a2 h
    unfold xX10_check_19
    refine j_iload_n E dX10_check_19 2 rfl ?_
    refine j_iload_n E dX10_check_20 1 rfl ?_
    refine j_cmp_ge E 71 dX10_check_21 rfl ?_ ?_
    · refine j_iconst E (v := (-1)) dX10_check_71 (by decide) ?_
      exact j_ireturn E rfl dX10_check_72
    · refine j_aload_n E dX10_check_24 0 rfl ?_
      refine j_getr E f_X10_19 (cX_0 hg) 3 rfl dX10_check_25 ?_
      refine j_iload_n E dX10_check_28 2 rfl ?_
      refine j_callvI (As := [.int a2]) (st := []) E (ok_X6_isTold hg E.2.2.2.2.2.2.2.1 a2 h) (cX_3 hg) (cl_X10_156) (⟨Nat.le_of_ble_eq_true rfl, Nat.le_of_ble_eq_true rfl⟩) rfl rfl (Nat.le_of_ble_eq_true rfl) dX10_check_29 (fun t1 h2 => ?_)
      refine j_if_eq E 47 dX10_check_32 rfl ?_ ?_
      · refine j_sipush E (v := 255) dX10_check_47 (by decide) ?_
        exact jxX10_check_50 hg N E (xX10_check_19 N n) ih a1 a2 255 h2
      · refine j_aload_n E dX10_check_35 0 rfl ?_
        refine j_getr E f_X10_46 (cX_0 hg) 31 rfl dX10_check_36 ?_
        refine j_getr E f_X10_177 (cX_31 hg) 33 rfl dX10_check_39 ?_
        refine j_iload_n E dX10_check_42 2 rfl ?_
        refine j_iald E (cX_33 hg) dX10_check_43 (fun t3 => ?_)
        refine j_goto E 50 dX10_check_44 rfl ?_
        exact jxX10_check_50 hg N E (xX10_check_19 N n) ih a1 a2 t3 h2
set_option maxRecDepth 20000 in
set_option maxHeartbeats 4000000 in
theorem jxX10_check {g : GC} (hg : isGX g) {X : MX} (N : Nat) (E : JE g mX10_check X) (a1 : Int32) (h : HP) : J g mX10_check X 0 [(0, .ref (g.2.2.1 0)), (1, .int a1)] [] h (xX10_check N a1 h) := by
  unfold xX10_check
  refine j_aload_n E dX10_check_0 0 rfl ?_
  refine j_getr E f_X10_10 (cX_0 hg) 1 rfl dX10_check_1 ?_
  refine j_iload_n E dX10_check_4 1 rfl ?_
  refine j_iconst E (v := 0) dX10_check_5 (by decide) ?_
  refine j_bipush E (v := 16) dX10_check_6 (by decide) ?_
  refine j_callvI (As := [.int a1, .int 0, .int 16]) (st := []) E (ok_X7_gives hg E.2.2.2.2.2.2.2.1 a1 0 16 h) (cX_1 hg) (cl_X10_109) (⟨Nat.le_of_ble_eq_true rfl, Nat.le_of_ble_eq_true rfl⟩) rfl rfl (Nat.le_of_ble_eq_true rfl) dX10_check_8 (fun t1 h2 => ?_)
  refine j_if_ne E 17 dX10_check_11 rfl ?_ ?_
  · refine j_iconst E (v := 0) dX10_check_17 (by decide) ?_
    refine j_istore0_n E dX10_check_18 (Nat.le_of_ble_eq_true rfl) [(2, .int 0), (0, .ref (g.2.2.1 0)), (1, .int a1)] rfl ?_
    exact j_sub [1, 2, 0] (lv1 := [(0, .ref (g.2.2.1 0)), (1, .int a1), (2, .int 0)]) rfl (jxX10_check_19 hg N E N a1 0 h2)
  · refine j_bipush E (v := (-2)) dX10_check_14 (by decide) ?_
    exact j_ireturn E rfl dX10_check_16
theorem ok_X10_check {g : GC} (hg : isGX g) (hI : gI g) (N : Nat) (a1 : Int32) (h : HP) : Ok g yX10_check mX10_check [.ref (g.2.2.1 0), .int a1] h (xX10_check N a1 h) := Ok.of hI (by decide) rfl (Nat.le_of_ble_eq_true rfl) (fun X E => jxX10_check hg N E a1 h)
set_option maxRecDepth 20000 in
set_option maxHeartbeats 4000000 in
theorem jxX10_count {g : GC} (hg : isGX g) {X : MX} (N : Nat) (E : JE g mX10_count X) (a1 : Int32) (h : HP) : J g mX10_count X 0 [(0, .ref (g.2.2.1 0)), (1, .int a1)] [] h (xX10_count N a1 h) := by
  unfold xX10_count
  refine j_iload_n E dX10_count_0 1 rfl ?_
  refine j_tab E 0 60 dX10_count_1 (by decide) (by decide) rfl rfl ?_ (fun hx0 => ?_)
  · refine j_aload_n E dX10_count_60 0 rfl ?_
    refine j_getr E f_X10_46 (cX_0 hg) 31 rfl dX10_count_61 ?_
    refine j_geti E f_X10_288 (cX_31 hg) rfl dX10_count_64 ?_
    exact j_ireturn E rfl dX10_count_67
  refine j_tab E 1 68 dX10_count_1 (by decide) (by decide) rfl rfl ?_ (fun hx1 => ?_)
  · refine j_aload_n E dX10_count_68 0 rfl ?_
    refine j_getr E f_X10_19 (cX_0 hg) 3 rfl dX10_count_69 ?_
    refine j_geti E f_X10_130 (cX_3 hg) rfl dX10_count_72 ?_
    exact j_ireturn E rfl dX10_count_75
  refine j_tab E 2 76 dX10_count_1 (by decide) (by decide) rfl rfl ?_ (fun hx2 => ?_)
  · refine j_aload_n E dX10_count_76 0 rfl ?_
    refine j_getr E f_X10_19 (cX_0 hg) 3 rfl dX10_count_77 ?_
    refine j_geti E f_X10_133 (cX_3 hg) rfl dX10_count_80 ?_
    exact j_ireturn E rfl dX10_count_83
  refine j_tab E 3 84 dX10_count_1 (by decide) (by decide) rfl rfl ?_ (fun hx3 => ?_)
  · refine j_aload_n E dX10_count_84 0 rfl ?_
    refine j_getr E f_X10_46 (cX_0 hg) 31 rfl dX10_count_85 ?_
    refine j_geti E f_X10_180 (cX_31 hg) rfl dX10_count_88 ?_
    refine j_callsI (As := [.int (h.1 31 3)]) (st := []) E (ok_J6_bitCount_0f7a4 hg E.2.2.2.2.2.2.2.1 (h.1 31 3) h) (cl_X10_223) (⟨Nat.le_of_ble_eq_true rfl, Nat.le_of_ble_eq_true rfl⟩) rfl rfl (Nat.le_of_ble_eq_true rfl) dX10_count_91 (fun t1 h2 => ?_)
    exact j_ireturn E rfl dX10_count_94
  refine j_tab E 4 95 dX10_count_1 (by decide) (by decide) rfl rfl ?_ (fun hx4 => ?_)
  · refine j_aload_n E dX10_count_95 0 rfl ?_
    refine j_getr E f_X10_46 (cX_0 hg) 31 rfl dX10_count_96 ?_
    refine j_geti E f_X10_167 (cX_31 hg) rfl dX10_count_99 ?_
    exact j_ireturn E rfl dX10_count_102
  refine j_tab E 5 103 dX10_count_1 (by decide) (by decide) rfl rfl ?_ (fun hx5 => ?_)
  · refine j_aload_n E dX10_count_103 0 rfl ?_
    refine j_getr E f_X10_29 (cX_0 hg) 13 rfl dX10_count_104 ?_
    refine j_geti E f_X10_124 (cX_13 hg) rfl dX10_count_107 ?_
    exact j_ireturn E rfl dX10_count_110
  refine j_tab E 6 111 dX10_count_1 (by decide) (by decide) rfl rfl ?_ (fun hx6 => ?_)
  · refine j_aload_n E dX10_count_111 0 rfl ?_
    refine j_getr E f_X10_10 (cX_0 hg) 1 rfl dX10_count_112 ?_
    refine j_geti E f_X10_101 (cX_1 hg) rfl dX10_count_115 ?_
    exact j_ireturn E rfl dX10_count_118
  refine j_tab E 7 119 dX10_count_1 (by decide) (by decide) rfl rfl ?_ (fun hx7 => ?_)
  · refine j_aload_n E dX10_count_119 0 rfl ?_
    refine j_getr E f_X10_46 (cX_0 hg) 31 rfl dX10_count_120 ?_
    refine j_geti E f_X10_281 (cX_31 hg) rfl dX10_count_123 ?_
    exact j_ireturn E rfl dX10_count_126
  refine j_tab E 8 127 dX10_count_1 (by decide) (by decide) rfl rfl ?_ (fun hx8 => ?_)
  · refine j_aload_n E dX10_count_127 0 rfl ?_
    refine j_getr E f_X10_46 (cX_0 hg) 31 rfl dX10_count_128 ?_
    refine j_callvI (As := []) (st := []) E (ok_X5_allSorrow hg E.2.2.2.2.2.2.2.1 N 31 (by decide) h) (cX_31 hg) (cl_X10_170) (⟨Nat.le_of_ble_eq_true rfl, Nat.le_of_ble_eq_true rfl⟩) rfl rfl (Nat.le_of_ble_eq_true rfl) dX10_count_131 (fun t3 h4 => ?_)
    exact j_ireturn E rfl dX10_count_134
  refine j_tab E 9 135 dX10_count_1 (by decide) (by decide) rfl rfl ?_ (fun hx9 => ?_)
  · refine j_aload_n E dX10_count_135 0 rfl ?_
    refine j_getr E f_X10_46 (cX_0 hg) 31 rfl dX10_count_136 ?_
    refine j_callvI (As := []) (st := []) E (ok_X5_allWept hg E.2.2.2.2.2.2.2.1 N h) (cX_31 hg) (cl_X10_294) (⟨Nat.le_of_ble_eq_true rfl, Nat.le_of_ble_eq_true rfl⟩) rfl rfl (Nat.le_of_ble_eq_true rfl) dX10_count_139 (fun t5 h6 => ?_)
    exact j_ireturn E rfl dX10_count_142
  refine j_tab E 10 143 dX10_count_1 (by decide) (by decide) rfl rfl ?_ (fun hx10 => ?_)
  · refine j_aload_n E dX10_count_143 0 rfl ?_
    refine j_getr E f_X10_70 (cX_0 hg) 45 rfl dX10_count_144 ?_
    refine j_aload_n E dX10_count_147 0 rfl ?_
    refine j_getr E f_X10_46 (cX_0 hg) 31 rfl dX10_count_148 ?_
    refine j_geti E f_X10_180 (cX_31 hg) rfl dX10_count_151 ?_
    refine j_callvI (As := [.int (h.1 31 3)]) (st := []) E (ok_X3_groups hg E.2.2.2.2.2.2.2.1 N (h.1 31 3) h) (cX_45 hg) (cl_X10_297) (⟨Nat.le_of_ble_eq_true rfl, Nat.le_of_ble_eq_true rfl⟩) rfl rfl (Nat.le_of_ble_eq_true rfl) dX10_count_154 (fun t7 h8 => ?_)
    exact j_ireturn E rfl dX10_count_157
  refine j_tdef E 158 [0, 1, 2, 3, 4, 5, 6, 7, 8, 9, 10] (by intro vq hq; simp only [List.mem_cons, List.not_mem_nil, or_false] at hq; rcases hq with rfl | rfl | rfl | rfl | rfl | rfl | rfl | rfl | rfl | rfl | rfl <;> assumption) dX10_count_1 (by decide) (by decide) rfl ?_
  refine j_iconst E (v := (-1)) dX10_count_158 (by decide) ?_
  exact j_ireturn E rfl dX10_count_159
theorem ok_X10_count {g : GC} (hg : isGX g) (hI : gI g) (N : Nat) (a1 : Int32) (h : HP) : Ok g yX10_count mX10_count [.ref (g.2.2.1 0), .int a1] h (xX10_count N a1 h) := Ok.of hI (by decide) rfl (Nat.le_of_ble_eq_true rfl) (fun X E => jxX10_count hg N E a1 h)
