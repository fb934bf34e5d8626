theorem ok_X5_settle {g : GC} (hg : isGX g) (hI : gI g) (N : Nat) (a1 : Int32) (a2 : Int32) (h : HP) : Ok g yX5_settle mX5_settle [.ref (g.2.2.1 31), .int a1, .int a2] h (xX5_settle N a1 a2 h) := Ok.of hI (by decide) rfl (Nat.le_of_ble_eq_true rfl) (fun X E => jxX5_settle hg N E a1 a2 h)
set_option maxRecDepth 20000 in
set_option maxHeartbeats 4000000 in
theorem jxX5_become {g : GC} (hg : isGX g) {X : MX} (k0 : Nat) (E : JE g mX5_become X) (hk0 : isSt k0) (h : HP) : J g mX5_become X 0 [(0, .ref (g.2.2.1 k0)), (1, .ref (g.2.2.1 31))] [] h (xX5_become k0 h) := by
  unfold xX5_become
  refine j_aload_n E dX5_become_0 1 rfl ?_
  refine j_getr E f_X5_9 (cX_31 hg) 32 rfl dX5_become_1 ?_
  refine j_iconst E (v := 0) dX5_become_4 (by decide) ?_
  refine j_aload_n E dX5_become_5 0 rfl ?_
  refine j_getr E f_X5_9 (cSt hg hk0) (k0 + 1) rfl dX5_become_6 ?_
  refine j_iconst E (v := 0) dX5_become_9 (by decide) ?_
  refine j_bipush E (v := 16) dX5_become_10 (by decide) ?_
  refine j_copy (m := 16) E (cX_32 hg) (cSt1 hg hk0) ml_X5_43 ac_nat ac_st ac_in (by decide) (by decide) (Nat.le_of_ble_eq_true rfl) (Nat.le_of_ble_eq_true rfl) (Nat.le_of_ble_eq_true rfl) (by decide +kernel) dX5_become_12 (fun h1 => ?_)
  refine j_aload_n E dX5_become_15 1 rfl ?_
  refine j_getr E f_X5_15 (cX_31 hg) 33 rfl dX5_become_16 ?_
  refine j_iconst E (v := 0) dX5_become_19 (by decide) ?_
  refine j_aload_n E dX5_become_20 0 rfl ?_
  refine j_getr E f_X5_15 (cSt hg hk0) (k0 + 2) rfl dX5_become_21 ?_
  refine j_iconst E (v := 0) dX5_become_24 (by decide) ?_
  refine j_bipush E (v := 16) dX5_become_25 (by decide) ?_
  refine j_copy (m := 16) E (cX_33 hg) (cSt2 hg hk0) ml_X5_43 ac_nat ac_st ac_in (by decide) (by decide) (Nat.le_of_ble_eq_true rfl) (Nat.le_of_ble_eq_true rfl) (Nat.le_of_ble_eq_true rfl) (by decide +kernel) dX5_become_27 (fun h2 => ?_)
  refine j_aload_n E dX5_become_30 1 rfl ?_
  refine j_getr E f_X5_18 (cX_31 hg) 34 rfl dX5_become_31 ?_
  refine j_iconst E (v := 0) dX5_become_34 (by decide) ?_
  refine j_aload_n E dX5_become_35 0 rfl ?_
  refine j_getr E f_X5_18 (cSt hg hk0) (k0 + 3) rfl dX5_become_36 ?_
  refine j_iconst E (v := 0) dX5_become_39 (by decide) ?_
  refine j_bipush E (v := 16) dX5_become_40 (by decide) ?_
  refine j_copy (m := 16) E (cX_34 hg) (cSt3 hg hk0) ml_X5_43 ac_nat ac_st ac_in (by decide) (by decide) (Nat.le_of_ble_eq_true rfl) (Nat.le_of_ble_eq_true rfl) (Nat.le_of_ble_eq_true rfl) (by decide +kernel) dX5_become_42 (fun h3 => ?_)
  refine j_aload_n E dX5_become_45 0 rfl ?_
  refine j_aload_n E dX5_become_46 1 rfl ?_
  refine j_geti E f_X5_40 (cX_31 hg) rfl dX5_become_47 ?_
  refine j_puti E fp_X5_40 (cSt hg hk0) rfl dX5_become_50 (fun h4 => ?_)
  refine j_aload_n E dX5_become_53 0 rfl ?_
  refine j_aload_n E dX5_become_54 1 rfl ?_
  refine j_geti E f_X5_21 (cX_31 hg) rfl dX5_become_55 ?_
  refine j_puti E fp_X5_21 (cSt hg hk0) rfl dX5_become_58 (fun h5 => ?_)
  refine j_aload_n E dX5_become_61 0 rfl ?_
  refine j_aload_n E dX5_become_62 1 rfl ?_
  refine j_geti E f_X5_49 (cX_31 hg) rfl dX5_become_63 ?_
  refine j_puti E fp_X5_49 (cSt hg hk0) rfl dX5_become_66 (fun h6 => ?_)
  refine j_aload_n E dX5_become_69 0 rfl ?_
  refine j_aload_n E dX5_become_70 1 rfl ?_
  refine j_geti E f_X5_25 (cX_31 hg) rfl dX5_become_71 ?_
  refine j_puti E fp_X5_25 (cSt hg hk0) rfl dX5_become_74 (fun h7 => ?_)
  refine j_aload_n E dX5_become_77 0 rfl ?_
  refine j_aload_n E dX5_become_78 1 rfl ?_
  refine j_geti E f_X5_34 (cX_31 hg) rfl dX5_become_79 ?_
  refine j_puti E fp_X5_34 (cSt hg hk0) rfl dX5_become_82 (fun h8 => ?_)
  refine j_aload_n E dX5_become_85 0 rfl ?_
  refine j_aload_n E dX5_become_86 1 rfl ?_
  refine j_geti E f_X5_37 (cX_31 hg) rfl dX5_become_87 ?_
  refine j_puti E fp_X5_37 (cSt hg hk0) rfl dX5_become_90 (fun h9 => ?_)
  exact j_vreturn E rfl dX5_become_93
theorem ok_X5_become {g : GC} (hg : isGX g) (hI : gI g) (k0 : Nat) (hk0 : isSt k0) (h : HP) : Ok g yX5_become mX5_become [.ref (g.2.2.1 k0), .ref (g.2.2.1 31)] h (xX5_become k0 h) := Ok.of hI (by decide) rfl (Nat.le_of_ble_eq_true rfl) (fun X E => jxX5_become hg k0 E hk0 h)
set_option maxRecDepth 20000 in
set_option maxHeartbeats 4000000 in
theorem jxX5_comeBackTo_87 {g : GC} (hg : isGX g) {X : MX} (N : Nat) (E : JE g mX5_comeBackTo X) (K12 : Int32 → Int32 → HP → Option (Int32 × HP)) (hK12 : ∀ (a2 : Int32) (a3 : Int32) (h : HP), J g mX5_comeBackTo X 12 [(0, .ref (g.2.2.1 31)), (1, .ref (g.2.2.1 35)), (2, .int a2), (3, .int a3)] [] h (K12 a2 a3 h)) (a2 : Int32) (a3 : Int32) (s1 : Int32) (s2 : Int32) (h : HP) : J g mX5_comeBackTo X 87 [(0, .ref (g.2.2.1 31)), (1, .ref (g.2.2.1 35)), (2, .int a2), (3, .int a3)] [.int s2, .int s1, .ref (g.2.2.1 34)] h (xX5_comeBackTo_87 N K12 a2 a3 s1 s2 h) := by
  unfold xX5_comeBackTo_87
  refine j_iast E (cX_34 hg) dX5_comeBackTo_87 (fun h1 => ?_)
  refine j_iinc E (c := 1) dX5_comeBackTo_88 3 rfl (by decide) (Nat.le_of_ble_eq_true rfl) (fun v2 => [(3, .int v2), (0, .ref (g.2.2.1 31)), (1, .ref (g.2.2.1 35)), (2, .int a2)]) (fun _ => rfl) (fun v2 => ?_)
  refine j_goto E 12 dX5_comeBackTo_91 rfl ?_
  exact j_sub [1, 2, 3, 0] (lv1 := [(0, .ref (g.2.2.1 31)), (1, .ref (g.2.2.1 35)), (2, .int a2), (3, .int v2)]) rfl (hK12 a2 v2 h1)
set_option maxRecDepth 20000 in
set_option maxHeartbeats 4000000 in
theorem jxX5_comeBackTo_66 {g : GC} (hg : isGX g) {X : MX} (N : Nat) (E : JE g mX5_comeBackTo X) (K12 : Int32 → Int32 → HP → Option (Int32 × HP)) (hK12 : ∀ (a2 : Int32) (a3 : Int32) (h : HP), J g mX5_comeBackTo X 12 [(0, .ref (g.2.2.1 31)), (1, .ref (g.2.2.1 35)), (2, .int a2), (3, .int a3)] [] h (K12 a2 a3 h)) (a2 : Int32) (a3 : Int32) (a4 : Int32) (s1 : Int32) (s2 : Int32) (h : HP) : J g mX5_comeBackTo X 66 [(0, .ref (g.2.2.1 31)), (1, .ref (g.2.2.1 35)), (2, .int a2), (3, .int a3), (4, .int a4)] [.int s2, .int s1, .ref (g.2.2.1 33)] h (xX5_comeBackTo_66 N K12 a2 a3 a4 s1 s2 h) := by
  unfold xX5_comeBackTo_66
  refine j_iast E (cX_33 hg) dX5_comeBackTo_66 (fun h1 => ?_)
  refine j_aload_n E dX5_comeBackTo_67 0 rfl ?_
  refine j_getr E f_X5_18 (cX_31 hg) 34 rfl dX5_comeBackTo_68 ?_
  refine j_iload_n E dX5_comeBackTo_71 3 rfl ?_
  refine j_iload E dX5_comeBackTo_72 4 rfl ?_
  refine j_if_eq E 86 dX5_comeBackTo_74 rfl ?_ ?_
  · refine j_iconst E (v := 0) dX5_comeBackTo_86 (by decide) ?_
    exact j_sub [0, 1, 2, 3] (lv1 := [(0, .ref (g.2.2.1 31)), (1, .ref (g.2.2.1 35)), (2, .int a2), (3, .int a3)]) rfl (jxX5_comeBackTo_87 hg N E K12 hK12 a2 a3 a3 0 h1)
  · refine j_aload_n E dX5_comeBackTo_77 1 rfl ?_
    refine j_getr E f_X5_18 (cX_35 hg) 38 rfl dX5_comeBackTo_78 ?_
    refine j_iload_n E dX5_comeBackTo_81 3 rfl ?_
    refine j_iald E (cX_38 hg) dX5_comeBackTo_82 (fun t2 => ?_)
    refine j_goto E 87 dX5_comeBackTo_83 rfl ?_
    exact j_sub [0, 1, 2, 3] (lv1 := [(0, .ref (g.2.2.1 31)), (1, .ref (g.2.2.1 35)), (2, .int a2), (3, .int a3)]) rfl (jxX5_comeBackTo_87 hg N E K12 hK12 a2 a3 a3 t2 h1)
set_option maxRecDepth 20000 in
set_option maxHeartbeats 4000000 in
theorem jxX5_comeBackTo_45 {g : GC} (hg : isGX g) {X : MX} (N : Nat) (E : JE g mX5_comeBackTo X) (K12 : Int32 → Int32 → HP → Option (Int32 × HP)) (hK12 : ∀ (a2 : Int32) (a3 : Int32) (h : HP), J g mX5_comeBackTo X 12 [(0, .ref (g.2.2.1 31)), (1, .ref (g.2.2.1 35)), (2, .int a2), (3, .int a3)] [] h (K12 a2 a3 h)) (a2 : Int32) (a3 : Int32) (a4 : Int32) (s1 : Int32) (s2 : Int32) (h : HP) : J g mX5_comeBackTo X 45 [(0, .ref (g.2.2.1 31)), (1, .ref (g.2.2.1 35)), (2, .int a2), (3, .int a3), (4, .int a4)] [.int s2, .int s1, .ref (g.2.2.1 32)] h (xX5_comeBackTo_45 N K12 a2 a3 a4 s1 s2 h) := by
  unfold xX5_comeBackTo_45
  refine j_iast E (cX_32 hg) dX5_comeBackTo_45 (fun h1 => ?_)
  refine j_aload_n E dX5_comeBackTo_46 0 rfl ?_
  refine j_getr E f_X5_15 (cX_31 hg) 33 rfl dX5_comeBackTo_47 ?_
  refine j_iload_n E dX5_comeBackTo_50 3 rfl ?_
  refine j_iload E dX5_comeBackTo_51 4 rfl ?_
  refine j_if_eq E 65 dX5_comeBackTo_53 rfl ?_ ?_
  · refine j_iconst E (v := 0) dX5_comeBackTo_65 (by decide) ?_
    exact jxX5_comeBackTo_66 hg N E K12 hK12 a2 a3 a4 a3 0 h1
  · refine j_aload_n E dX5_comeBackTo_56 1 rfl ?_
    refine j_getr E f_X5_15 (cX_35 hg) 37 rfl dX5_comeBackTo_57 ?_
    refine j_iload_n E dX5_comeBackTo_60 3 rfl ?_
    refine j_iald E (cX_37 hg) dX5_comeBackTo_61 (fun t2 => ?_)
    refine j_goto E 66 dX5_comeBackTo_62 rfl ?_
    exact jxX5_comeBackTo_66 hg N E K12 hK12 a2 a3 a4 a3 t2 h1
set_option maxRecDepth 20000 in
set_option maxHeartbeats 4000000 in
theorem jxX5_comeBackTo_12 {g : GC} (hg : isGX g) {X : MX} (N : Nat) (E : JE g mX5_comeBackTo X) : ∀ (n : Nat) (a2 : Int32) (a3 : Int32) (h : HP), J g mX5_comeBackTo X 12 [(0, .ref (g.2.2.1 31)), (1, .ref (g.2.2.1 35)), (2, .int a2), (3, .int a3)] [] h (xX5_comeBackTo_12 N n a2 a3 h) := by
  intro n
  induction n with
  | zero => intro a2 a3 h; exact j_none
  | succ n ih =>
    intro a2 a3 h
    unfold xX5_comeBackTo_12
    refine j_iload_n E dX5_comeBackTo_12 3 rfl ?_
    refine j_bipush E (v := 16) dX5_comeBackTo_13 (by decide) ?_
    refine j_cmp_ge E 94 dX5_comeBackTo_15 rfl ?_ ?_
    · refine j_iconst E (v := 1) dX5_comeBackTo_94 (by decide) ?_
      refine j_aload_n E dX5_comeBackTo_95 1 rfl ?_
      refine j_geti E f_X5_37 (cX_35 hg) rfl dX5_comeBackTo_96 ?_
      refine j_ishl E dX5_comeBackTo_99 ?_
      refine j_ineg E dX5_comeBackTo_100 ?_
      refine j_istore_n E dX5_comeBackTo_101 (Nat.le_of_ble_eq_true rfl) (fun v1 => [(3, .int v1), (0, .ref (g.2.2.1 31)), (1, .ref (g.2.2.1 35)), (2, .int a2)]) (fun _ => rfl) (fun v1 => ?_)
      refine j_aload_n E dX5_comeBackTo_102 1 rfl ?_
      refine j_aload_n E dX5_comeBackTo_103 2 rfl ?_
      refine j_geti E f_X5_40 (cX_35 hg) rfl dX5_comeBackTo_104 ?_
      refine j_iload_n E dX5_comeBackTo_107 0 rfl ?_
      refine j_ior E dX5_comeBackTo_108 ?_
      refine j_iconst E (v := 1) dX5_comeBackTo_109 (by decide) ?_
      refine j_aload_n E dX5_comeBackTo_110 1 rfl ?_
      refine j_geti E f_X5_37 (cX_31 hg) rfl dX5_comeBackTo_111 ?_
      refine j_ishl E dX5_comeBackTo_114 ?_
      refine j_iconst E (v := 1) dX5_comeBackTo_115 (by decide) ?_
      refine j_isub E dX5_comeBackTo_116 ?_
      refine j_iand E dX5_comeBackTo_117 ?_
      refine j_puti E fp_X5_40 (cX_31 hg) rfl dX5_comeBackTo_118 (fun h2 => ?_)
      refine j_aload_n E dX5_comeBackTo_121 1 rfl ?_
      refine j_aload_n E dX5_comeBackTo_122 2 rfl ?_
      refine j_geti E f_X5_21 (cX_35 hg) rfl dX5_comeBackTo_123 ?_
      refine j_puti E fp_X5_21 (cX_31 hg) rfl dX5_comeBackTo_126 (fun h3 => ?_)
      refine j_aload_n E dX5_comeBackTo_129 1 rfl ?_
      refine j_aload_n E dX5_comeBackTo_130 2 rfl ?_
      refine j_geti E f_X5_49 (cX_35 hg) rfl dX5_comeBackTo_131 ?_
      refine j_puti E fp_X5_49 (cX_31 hg) rfl dX5_comeBackTo_134 (fun h4 => ?_)
      refine j_aload_n E dX5_comeBackTo_137 1 rfl ?_
      refine j_aload_n E dX5_comeBackTo_138 2 rfl ?_
      refine j_geti E f_X5_25 (cX_35 hg) rfl dX5_comeBackTo_139 ?_
      refine j_puti E fp_X5_25 (cX_31 hg) rfl dX5_comeBackTo_142 (fun h5 => ?_)
      exact j_vreturn E rfl dX5_comeBackTo_145
    · refine j_iload_n E dX5_comeBackTo_18 2 rfl ?_
      refine j_iload_n E dX5_comeBackTo_19 3 rfl ?_
      refine j_callnI (As := [.int a2, .int a3]) (st := []) E (ok_X10_hasBit hg E.2.2.2.2.2.2.2.1 a2 a3 h) (cl_X5_52) (⟨Nat.le_of_ble_eq_true rfl, Nat.le_of_ble_eq_true rfl⟩) rfl rfl (Nat.le_of_ble_eq_true rfl) dX5_comeBackTo_20 (fun t6 h7 => ?_)
      refine j_istore0 E dX5_comeBackTo_23 (Nat.le_of_ble_eq_true rfl) [(4, .int t6), (0, .ref (g.2.2.1 31)), (1, .ref (g.2.2.1 35)), (2, .int a2), (3, .int a3)] rfl ?_
      refine j_aload_n E dX5_comeBackTo_25 1 rfl ?_
      refine j_getr E f_X5_9 (cX_31 hg) 32 rfl dX5_comeBackTo_26 ?_
      refine j_iload_n E dX5_comeBackTo_29 4 rfl ?_
      refine j_iload E dX5_comeBackTo_30 0 rfl ?_
      refine j_if_eq E 44 dX5_comeBackTo_32 rfl ?_ ?_
      · refine j_iconst E (v := 0) dX5_comeBackTo_44 (by decide) ?_
        exact j_sub [1, 2, 3, 4, 0] (lv1 := [(0, .ref (g.2.2.1 31)), (1, .ref (g.2.2.1 35)), (2, .int a2), (3, .int a3), (4, .int t6)]) rfl (jxX5_comeBackTo_45 hg N E (xX5_comeBackTo_12 N n) ih a2 a3 t6 a3 0 h7)
      · refine j_aload_n E dX5_comeBackTo_35 2 rfl ?_
        refine j_getr E f_X5_9 (cX_35 hg) 36 rfl dX5_comeBackTo_36 ?_
        refine j_iload_n E dX5_comeBackTo_39 4 rfl ?_
        refine j_iald E (cX_36 hg) dX5_comeBackTo_40 (fun t8 => ?_)
        refine j_goto E 45 dX5_comeBackTo_41 rfl ?_
        exact j_sub [1, 2, 3, 4, 0] (lv1 := [(0, .ref (g.2.2.1 31)), (1, .ref (g.2.2.1 35)), (2, .int a2), (3, .int a3), (4, .int t6)]) rfl (jxX5_comeBackTo_45 hg N E (xX5_comeBackTo_12 N n) ih a2 a3 t6 a3 t8 h7)
set_option maxRecDepth 20000 in
set_option maxHeartbeats 4000000 in
theorem jxX5_comeBackTo {g : GC} (hg : isGX g) {X : MX} (N : Nat) (E : JE g mX5_comeBackTo X) (h : HP) : J g mX5_comeBackTo X 0 [(0, .ref (g.2.2.1 31)), (1, .ref (g.2.2.1 35))] [] h (xX5_comeBackTo N h) := by
  unfold xX5_comeBackTo
  refine j_aload_n E dX5_comeBackTo_0 0 rfl ?_
  refine j_geti E f_X5_34 (cX_31 hg) rfl dX5_comeBackTo_1 ?_
  refine j_aload_n E dX5_comeBackTo_4 1 rfl ?_
  refine j_geti E f_X5_34 (cX_35 hg) rfl dX5_comeBackTo_5 ?_
  refine j_iand E dX5_comeBackTo_8 ?_
  refine j_istore_n E dX5_comeBackTo_9 (Nat.le_of_ble_eq_true rfl) (fun v1 => [(2, .int v1), (0, .ref (g.2.2.1 31)), (1, .ref (g.2.2.1 35))]) (fun _ => rfl) (fun v1 => ?_)
  refine j_iconst E (v := 0) dX5_comeBackTo_10 (by decide) ?_
  refine j_istore0_n E dX5_comeBackTo_11 (Nat.le_of_ble_eq_true rfl) [(3, .int 0), (2, .int v1), (0, .ref (g.2.2.1 31)), (1, .ref (g.2.2.1 35))] rfl ?_
  exact j_sub [2, 3, 1, 0] (lv1 := [(0, .ref (g.2.2.1 31)), (1, .ref (g.2.2.1 35)), (2, .int v1), (3, .int 0)]) rfl (jxX5_comeBackTo_12 hg N E N v1 0 h)
theorem ok_X5_comeBackTo {g : GC} (hg : isGX g) (hI : gI g) (N : Nat) (h : HP) : Ok g yX5_comeBackTo mX5_comeBackTo [.ref (g.2.2.1 31), .ref (g.2.2.1 35)] h (xX5_comeBackTo N h) := Ok.of hI (by decide) rfl (Nat.le_of_ble_eq_true rfl) (fun X E => jxX5_comeBackTo hg N E h)
set_option maxRecDepth 20000 in
set_option maxHeartbeats 4000000 in
theorem jxX5_drawNumber {g : GC} (hg : isGX g) {X : MX} (k0 : Nat) (E : JE g mX5_drawNumber X) (hk0 : isSt k0) (h : HP) : J g mX5_drawNumber X 0 [(0, .ref (g.2.2.1 k0))] [] h (xX5_drawNumber k0 h) := by
  unfold xX5_drawNumber
  refine j_aload_n E dX5_drawNumber_0 0 rfl ?_
  refine j_sipush E (v := 25173) dX5_drawNumber_1 (by decide) ?_
  refine j_aload_n E dX5_drawNumber_4 0 rfl ?_
  refine j_geti E f_X5_25 (cSt hg hk0) rfl dX5_drawNumber_5 ?_
  refine j_imul E dX5_drawNumber_8 ?_
  refine j_sipush E (v := 13849) dX5_drawNumber_9 (by decide) ?_
  refine j_iadd E dX5_drawNumber_12 ?_
  refine j_ldc E (v := 65536) k_X5_56 dX5_drawNumber_13 ?_
  refine j_rem2 E (by decide) dX5_drawNumber_15 ?_
  refine j_puti E fp_X5_25 (cSt hg hk0) rfl dX5_drawNumber_16 (fun h1 => ?_)
  refine j_aload_n E dX5_drawNumber_19 0 rfl ?_
  refine j_geti E f_X5_25 (cSt hg hk0) rfl dX5_drawNumber_20 ?_
  refine j_bipush E (v := 10) dX5_drawNumber_23 (by decide) ?_
  refine j_rem2 E (by decide) dX5_drawNumber_25 ?_
  exact j_ireturn E rfl dX5_drawNumber_26
theorem ok_X5_drawNumber {g : GC} (hg : isGX g) (hI : gI g) (k0 : Nat) (hk0 : isSt k0) (h : HP) : Ok g yX5_drawNumber mX5_drawNumber [.ref (g.2.2.1 k0)] h (xX5_drawNumber k0 h) := Ok.of hI (by decide) rfl (Nat.le_of_ble_eq_true rfl) (fun X E => jxX5_drawNumber hg k0 E hk0 h)
set_option maxRecDepth 20000 in
set_option maxHeartbeats 4000000 in
theorem jxX5_allSorrow_4 {g : GC} (hg : isGX g) {X : MX} (N : Nat) (k0 : Nat) (E : JE g mX5_allSorrow X) (hk0 : isSt k0) : ∀ (n : Nat) (a1 : Int32) (a2 : Int32) (h : HP), J g mX5_allSorrow X 4 [(0, .ref (g.2.2.1 k0)), (1, .int a1), (2, .int a2)] [] h (xX5_allSorrow_4 N k0 n a1 a2 h) := by
  intro n
  induction n with
  | zero => intro a1 a2 h; exact j_none
  | succ n ih =>
    intro a1 a2 h
    unfold xX5_allSorrow_4
    refine j_iload_n E dX5_allSorrow_4 2 rfl ?_
    refine j_bipush E (v := 16) dX5_allSorrow_5 (by decide) ?_
    refine j_cmp_ge E 25 dX5_allSorrow_7 rfl ?_ ?_
    · refine j_iload_n E dX5_allSorrow_25 1 rfl ?_
      exact j_ireturn E rfl dX5_allSorrow_26
    · refine j_iload_n E dX5_allSorrow_10 1 rfl ?_
      refine j_aload_n E dX5_allSorrow_11 0 rfl ?_
      refine j_getr E f_X5_9 (cSt hg hk0) (k0 + 1) rfl dX5_allSorrow_12 ?_
      refine j_iload_n E dX5_allSorrow_15 2 rfl ?_
      refine j_iald E (cSt1 hg hk0) dX5_allSorrow_16 (fun t1 => ?_)
      refine j_iadd E dX5_allSorrow_17 ?_
      refine j_istore_n E dX5_allSorrow_18 (Nat.le_of_ble_eq_true rfl) (fun v2 => [(1, .int v2), (0, .ref (g.2.2.1 k0)), (2, .int a2)]) (fun _ => rfl) (fun v2 => ?_)
      refine j_iinc E (c := 1) dX5_allSorrow_19 2 rfl (by decide) (Nat.le_of_ble_eq_true rfl) (fun v3 => [(2, .int v3), (1, .int v2), (0, .ref (g.2.2.1 k0))]) (fun _ => rfl) (fun v3 => ?_)
      refine j_goto E 4 dX5_allSorrow_22 rfl ?_
      exact j_sub [2, 1, 0] (lv1 := [(0, .ref (g.2.2.1 k0)), (1, .int v2), (2, .int v3)]) rfl (ih v2 v3 h)
set_option maxRecDepth 20000 in
set_option maxHeartbeats 4000000 in
theorem jxX5_allSorrow {g : GC} (hg : isGX g) {X : MX} (N : Nat) (k0 : Nat) (E : JE g mX5_allSorrow X) (hk0 : isSt k0) (h : HP) : J g mX5_allSorrow X 0 [(0, .ref (g.2.2.1 k0))] [] h (xX5_allSorrow N k0 h) := by
  unfold xX5_allSorrow
  refine j_iconst E (v := 0) dX5_allSorrow_0 (by decide) ?_
  refine j_istore0_n E dX5_allSorrow_1 (Nat.le_of_ble_eq_true rfl) [(1, .int 0), (0, .ref (g.2.2.1 k0))] rfl ?_
  refine j_iconst E (v := 0) dX5_allSorrow_2 (by decide) ?_
  refine j_istore0_n E dX5_allSorrow_3 (Nat.le_of_ble_eq_true rfl) [(2, .int 0), (1, .int 0), (0, .ref (g.2.2.1 k0))] rfl ?_
  exact j_sub [2, 1, 0] (lv1 := [(0, .ref (g.2.2.1 k0)), (1, .int 0), (2, .int 0)]) rfl (jxX5_allSorrow_4 hg N k0 E hk0 N 0 0 h)
theorem ok_X5_allSorrow {g : GC} (hg : isGX g) (hI : gI g) (N : Nat) (k0 : Nat) (hk0 : isSt k0) (h : HP) : Ok g yX5_allSorrow mX5_allSorrow [.ref (g.2.2.1 k0)] h (xX5_allSorrow N k0 h) := Ok.of hI (by decide) rfl (Nat.le_of_ble_eq_true rfl) (fun X E => jxX5_allSorrow hg N k0 E hk0 h)
set_option maxRecDepth 20000 in
set_option maxHeartbeats 4000000 in
theorem jxX5_allWept_4 {g : GC} (hg : isGX g) {X : MX} (N : Nat) (E : JE g mX5_allWept X) : ∀ (n : Nat) (a1 : Int32) (a2 : Int32) (h : HP), J g mX5_allWept X 4 [(0, .ref (g.2.2.1 31)), (1, .int a1), (2, .int a2)] [] h (xX5_allWept_4 N n a1 a2 h) := by
  intro n
  induction n with
  | zero => intro a1 a2 h; exact j_none
  | succ n ih =>
    intro a1 a2 h
    unfold xX5_allWept_4
    refine j_iload_n E dX5_allWept_4 2 rfl ?_
    refine j_bipush E (v := 16) dX5_allWept_5 (by decide) ?_
    refine j_cmp_ge E 25 dX5_allWept_7 rfl ?_ ?_
    · refine j_iload_n E dX5_allWept_25 1 rfl ?_
      exact j_ireturn E rfl dX5_allWept_26
    · refine j_iload_n E dX5_allWept_10 1 rfl ?_
      refine j_aload_n E dX5_allWept_11 0 rfl ?_
      refine j_getr E f_X5_18 (cX_31 hg) 34 rfl dX5_allWept_12 ?_
      refine j_iload_n E dX5_allWept_15 2 rfl ?_
      refine j_iald E (cX_34 hg) dX5_allWept_16 (fun t1 => ?_)
      refine j_iadd E dX5_allWept_17 ?_
      refine j_istore_n E dX5_allWept_18 (Nat.le_of_ble_eq_true rfl) (fun v2 => [(1, .int v2), (0, .ref (g.2.2.1 31)), (2, .int a2)]) (fun _ => rfl) (fun v2 => ?_)
      refine j_iinc E (c := 1) dX5_allWept_19 2 rfl (by decide) (Nat.le_of_ble_eq_true rfl) (fun v3 => [(2, .int v3), (1, .int v2), (0, .ref (g.2.2.1 31))]) (fun _ => rfl) (fun v3 => ?_)
      refine j_goto E 4 dX5_allWept_22 rfl ?_
      exact j_sub [2, 1, 0] (lv1 := [(0, .ref (g.2.2.1 31)), (1, .int v2), (2, .int v3)]) rfl (ih v2 v3 h)
set_option maxRecDepth 20000 in
set_option maxHeartbeats 4000000 in
theorem jxX5_allWept {g : GC} (hg : isGX g) {X : MX} (N : Nat) (E : JE g mX5_allWept X) (h : HP) : J g mX5_allWept X 0 [(0, .ref (g.2.2.1 31))] [] h (xX5_allWept N h) := by
  unfold xX5_allWept
  refine j_iconst E (v := 0) dX5_allWept_0 (by decide) ?_
  refine j_istore0_n E dX5_allWept_1 (Nat.le_of_ble_eq_true rfl) [(1, .int 0), (0, .ref (g.2.2.1 31))] rfl ?_
  refine j_iconst E (v := 0) dX5_allWept_2 (by decide) ?_
  refine j_istore0_n E dX5_allWept_3 (Nat.le_of_ble_eq_true rfl) [(2, .int 0), (1, .int 0), (0, .ref (g.2.2.1 31))] rfl ?_
  exact j_sub [2, 1, 0] (lv1 := [(0, .ref (g.2.2.1 31)), (1, .int 0), (2, .int 0)]) rfl (jxX5_allWept_4 hg N E N 0 0 h)
theorem ok_X5_allWept {g : GC} (hg : isGX g) (hI : gI g) (N : Nat) (h : HP) : Ok g yX5_allWept mX5_allWept [.ref (g.2.2.1 31)] h (xX5_allWept N h) := Ok.of hI (by decide) rfl (Nat.le_of_ble_eq_true rfl) (fun X E => jxX5_allWept hg N E h)
set_option maxRecDepth 20000 in
set_option maxHeartbeats 4000000 in
theorem jxX6_openPipesOf_37 {g : GC} (hg : isGX g) {X : MX} (N : Nat) (E : JE g mX6_openPipesOf X) (K5 : Int32 → Int32 → Int32 → Int32 → HP → Option (Int32 × HP)) (hK5 : ∀ (a1 : Int32) (a2 : Int32) (a3 : Int32) (a4 : Int32) (h : HP), J g mX6_openPipesOf X 5 [(0, .ref (g.2.2.1 3)), (1, .int a1), (2, .int a2), (3, .int a3), (4, .int a4)] [] h (K5 a1 a2 a3 a4 h)) (a1 : Int32) (a2 : Int32) (a3 : Int32) (a4 : Int32) (h : HP) : J g mX6_openPipesOf X 37 [(0, .ref (g.2.2.1 3)), (1, .int a1), (2, .int a2), (3, .int a3), (4, .int a4)] [] h (xX6_openPipesOf_37 N K5 a1 a2 a3 a4 h) := by
  unfold xX6_openPipesOf_37
  refine j_iinc E (c := 1) dX6_openPipesOf_37 4 rfl (by decide) (Nat.le_of_ble_eq_true rfl) (fun v1 => [(4, .int v1), (0, .ref (g.2.2.1 3)), (1, .int a1), (2, .int a2), (3, .int a3)]) (fun _ => rfl) (fun v1 => ?_)
  refine j_goto E 5 dX6_openPipesOf_40 rfl ?_
  exact j_sub [1, 2, 3, 4, 0] (lv1 := [(0, .ref (g.2.2.1 3)), (1, .int a1), (2, .int a2), (3, .int a3), (4, .int v1)]) rfl (hK5 a1 a2 a3 v1 h)
set_option maxRecDepth 20000 in
set_option maxHeartbeats 4000000 in
theorem jxX6_openPipesOf_5 {g : GC} (hg : isGX g) {X : MX} (N : Nat) (E : JE g mX6_openPipesOf X) : ∀ (n : Nat) (a1 : Int32) (a2 : Int32) (a3 : Int32) (a4 : Int32) (h : HP), J g mX6_openPipesOf X 5 [(0, .ref (g.2.2.1 3)), (1, .int a1), (2, .int a2), (3, .int a3), (4, .int a4)] [] h (xX6_openPipesOf_5 N n a1 a2 a3 a4 h) := by
  intro n
  induction n with
  | zero => intro a1 a2 a3 a4 h; exact j_none
  | succ n ih =>
    intro a1 a2 a3 a4 h
    unfold xX6_openPipesOf_5
    refine j_iload E dX6_openPipesOf_5 4 rfl ?_
    refine j_aload_n E dX6_openPipesOf_7 0 rfl ?_
    refine j_geti E f_X6_32 (cX_3 hg) rfl dX6_openPipesOf_8 ?_
    refine j_cmp_ge E 43 dX6_openPipesOf_11 rfl ?_ ?_
    · refine j_iload_n E dX6_openPipesOf_43 3 rfl ?_
      exact j_ireturn E rfl dX6_openPipesOf_44
    · refine j_iload_n E dX6_openPipesOf_14 2 rfl ?_
      refine j_iload E dX6_openPipesOf_15 4 rfl ?_
      refine j_callnI (As := [.int a2, .int a4]) (st := []) E (ok_X10_hasBit hg E.2.2.2.2.2.2.2.1 a2 a4 h) (cl_X6_28) (⟨Nat.le_of_ble_eq_true rfl, Nat.le_of_ble_eq_true rfl⟩) rfl rfl (Nat.le_of_ble_eq_true rfl) dX6_openPipesOf_17 (fun t1 h2 => ?_)
      refine j_if_eq E 37 dX6_openPipesOf_20 rfl ?_ ?_
      · exact jxX6_openPipesOf_37 hg N E (xX6_openPipesOf_5 N n) ih a1 a2 a3 a4 h2
      · refine j_aload_n E dX6_openPipesOf_23 0 rfl ?_
        refine j_iload E dX6_openPipesOf_24 4 rfl ?_
        refine j_iload_n E dX6_openPipesOf_26 1 rfl ?_
        refine j_callvI (As := [.int a4, .int a1]) (st := []) E (ok_X6_across hg E.2.2.2.2.2.2.2.1 a4 a1 h2) (cX_3 hg) (cl_X6_35) (⟨Nat.le_of_ble_eq_true rfl, Nat.le_of_ble_eq_true rfl⟩) rfl rfl (Nat.le_of_ble_eq_true rfl) dX6_openPipesOf_27 (fun t3 h4 => ?_)
        refine j_iconst E (v := (-1)) dX6_openPipesOf_30 (by decide) ?_
        refine j_cmp_eq E 37 dX6_openPipesOf_31 rfl ?_ ?_
        · exact jxX6_openPipesOf_37 hg N E (xX6_openPipesOf_5 N n) ih a1 a2 a3 a4 h4
        · refine j_iinc E (c := 1) dX6_openPipesOf_34 3 rfl (by decide) (Nat.le_of_ble_eq_true rfl) (fun v5 => [(3, .int v5), (0, .ref (g.2.2.1 3)), (1, .int a1), (2, .int a2), (4, .int a4)]) (fun _ => rfl) (fun v5 => ?_)
          exact j_sub [1, 2, 3, 0, 4] (lv1 := [(0, .ref (g.2.2.1 3)), (1, .int a1), (2, .int a2), (3, .int v5), (4, .int a4)]) rfl (jxX6_openPipesOf_37 hg N E (xX6_openPipesOf_5 N n) ih a1 a2 v5 a4 h4)
set_option maxRecDepth 20000 in
set_option maxHeartbeats 4000000 in
theorem jxX6_openPipesOf {g : GC} (hg : isGX g) {X : MX} (N : Nat) (E : JE g mX6_openPipesOf X) (a1 : Int32) (a2 : Int32) (h : HP) : J g mX6_openPipesOf X 0 [(0, .ref (g.2.2.1 3)), (1, .int a1), (2, .int a2)] [] h (xX6_openPipesOf N a1 a2 h) := by
  unfold xX6_openPipesOf
  refine j_iconst E (v := 0) dX6_openPipesOf_0 (by decide) ?_
  refine j_istore0_n E dX6_openPipesOf_1 (Nat.le_of_ble_eq_true rfl) [(3, .int 0), (0, .ref (g.2.2.1 3)), (1, .int a1), (2, .int a2)] rfl ?_
  refine j_iconst E (v := 0) dX6_openPipesOf_2 (by decide) ?_
  refine j_istore0 E dX6_openPipesOf_3 (Nat.le_of_ble_eq_true rfl) [(4, .int 0), (3, .int 0), (0, .ref (g.2.2.1 3)), (1, .int a1), (2, .int a2)] rfl ?_
  exact j_sub [2, 3, 4, 1, 0] (lv1 := [(0, .ref (g.2.2.1 3)), (1, .int a1), (2, .int a2), (3, .int 0), (4, .int 0)]) rfl (jxX6_openPipesOf_5 hg N E N a1 a2 0 0 h)
theorem ok_X6_openPipesOf {g : GC} (hg : isGX g) (hI : gI g) (N : Nat) (a1 : Int32) (a2 : Int32) (h : HP) : Ok g yX6_openPipesOf mX6_openPipesOf [.ref (g.2.2.1 3), .int a1, .int a2] h (xX6_openPipesOf N a1 a2 h) := Ok.of hI (by decide) rfl (Nat.le_of_ble_eq_true rfl) (fun X E => jxX6_openPipesOf hg N E a1 a2 h)
set_option maxRecDepth 20000 in
set_option maxHeartbeats 4000000 in
theorem jxX6_besides_45 {g : GC} (hg : isGX g) {X : MX} (N : Nat) (E : JE g mX6_besides X) (K5 : Int32 → Int32 → Int32 → Int32 → HP → Option (Int32 × HP)) (hK5 : ∀ (a1 : Int32) (a2 : Int32) (a3 : Int32) (a4 : Int32) (h : HP), J g mX6_besides X 5 [(0, .ref (g.2.2.1 3)), (1, .int a1), (2, .int a2), (3, .int a3), (4, .int a4)] [] h (K5 a1 a2 a3 a4 h)) (a1 : Int32) (a2 : Int32) (a3 : Int32) (a4 : Int32) (h : HP) : J g mX6_besides X 45 [(0, .ref (g.2.2.1 3)), (1, .int a1), (2, .int a2), (3, .int a3), (4, .int a4)] [] h (xX6_besides_45 N K5 a1 a2 a3 a4 h) := by
  unfold xX6_besides_45
  refine j_iinc E (c := 1) dX6_besides_45 4 rfl (by decide) (Nat.le_of_ble_eq_true rfl) (fun v1 => [(4, .int v1), (0, .ref (g.2.2.1 3)), (1, .int a1), (2, .int a2), (3, .int a3)]) (fun _ => rfl) (fun v1 => ?_)
  refine j_goto E 5 dX6_besides_48 rfl ?_
  exact j_sub [1, 2, 3, 4, 0] (lv1 := [(0, .ref (g.2.2.1 3)), (1, .int a1), (2, .int a2), (3, .int a3), (4, .int v1)]) rfl (hK5 a1 a2 a3 v1 h)
set_option maxRecDepth 20000 in
set_option maxHeartbeats 4000000 in
theorem jxX6_besides_5 {g : GC} (hg : isGX g) {X : MX} (N : Nat) (E : JE g mX6_besides X) : ∀ (n : Nat) (a1 : Int32) (a2 : Int32) (a3 : Int32) (a4 : Int32) (h : HP), J g mX6_besides X 5 [(0, .ref (g.2.2.1 3)), (1, .int a1), (2, .int a2), (3, .int a3), (4, .int a4)] [] h (xX6_besides_5 N n a1 a2 a3 a4 h) := by
  intro n
  induction n with
  | zero => intro a1 a2 a3 a4 h; exact j_none
  | succ n ih =>
    intro a1 a2 a3 a4 h
    unfold xX6_besides_5
    refine j_iload E dX6_besides_5 4 rfl ?_
    refine j_aload_n E dX6_besides_7 0 rfl ?_
    refine j_geti E f_X6_32 (cX_3 hg) rfl dX6_besides_8 ?_
    refine j_cmp_ge E 51 dX6_besides_11 rfl ?_ ?_
    · refine j_iload_n E dX6_besides_51 3 rfl ?_
      exact j_ireturn E rfl dX6_besides_52
    · refine j_aload_n E dX6_besides_14 0 rfl ?_
      refine j_iload E dX6_besides_15 4 rfl ?_
      refine j_iload_n E dX6_besides_17 1 rfl ?_
      refine j_callvI (As := [.int a4, .int a1]) (st := []) E (ok_X6_across hg E.2.2.2.2.2.2.2.1 a4 a1 h) (cX_3 hg) (cl_X6_35) (⟨Nat.le_of_ble_eq_true rfl, Nat.le_of_ble_eq_true rfl⟩) rfl rfl (Nat.le_of_ble_eq_true rfl) dX6_besides_18 (fun t1 h2 => ?_)
      refine j_istore0 E dX6_besides_21 (Nat.le_of_ble_eq_true rfl) [(5, .int t1), (0, .ref (g.2.2.1 3)), (1, .int a1), (2, .int a2), (3, .int a3), (4, .int a4)] rfl ?_
      refine j_iload_n E dX6_besides_23 3 rfl ?_
      refine j_iload E dX6_besides_24 5 rfl ?_
      refine j_callnI (As := [.int a2, .int a4]) (st := []) E (ok_X10_hasBit hg E.2.2.2.2.2.2.2.1 a2 a4 h2) (cl_X6_28) (⟨Nat.le_of_ble_eq_true rfl, Nat.le_of_ble_eq_true rfl⟩) rfl rfl (Nat.le_of_ble_eq_true rfl) dX6_besides_26 (fun t3 h4 => ?_)
      refine j_if_eq E 45 dX6_besides_29 rfl ?_ ?_
      · exact j_sub [1, 2, 3, 4, 5] (lv1 := [(0, .ref (g.2.2.1 3)), (1, .int a1), (2, .int a2), (3, .int a3), (4, .int a4)]) rfl (jxX6_besides_45 hg N E (xX6_besides_5 N n) ih a1 a2 a3 a4 h4)
      · refine j_iload E dX6_besides_32 0 rfl ?_
        refine j_iconst E (v := (-1)) dX6_besides_34 (by decide) ?_
        refine j_cmp_eq E 45 dX6_besides_35 rfl ?_ ?_
        · exact j_sub [1, 2, 3, 4, 5] (lv1 := [(0, .ref (g.2.2.1 3)), (1, .int a1), (2, .int a2), (3, .int a3), (4, .int a4)]) rfl (jxX6_besides_45 hg N E (xX6_besides_5 N n) ih a1 a2 a3 a4 h4)
        · refine j_iload_n E dX6_besides_38 4 rfl ?_
          refine j_iconst E (v := 1) dX6_besides_39 (by decide) ?_
          refine j_iload E dX6_besides_40 0 rfl ?_
          refine j_ishl E dX6_besides_42 ?_
          refine j_ior E dX6_besides_43 ?_
          refine j_istore_n E dX6_besides_44 (Nat.le_of_ble_eq_true rfl) (fun v5 => [(3, .int v5), (5, .int t1), (0, .ref (g.2.2.1 3)), (1, .int a1), (2, .int a2), (4, .int a4)]) (fun _ => rfl) (fun v5 => ?_)
          exact j_sub [2, 3, 4, 0, 5] (lv1 := [(0, .ref (g.2.2.1 3)), (1, .int a1), (2, .int a2), (3, .int v5), (4, .int a4)]) rfl (jxX6_besides_45 hg N E (xX6_besides_5 N n) ih a1 a2 v5 a4 h4)
set_option maxRecDepth 20000 in
set_option maxHeartbeats 4000000 in
theorem jxX6_besides {g : GC} (hg : isGX g) {X : MX} (N : Nat) (E : JE g mX6_besides X) (a1 : Int32) (a2 : Int32) (h : HP) : J g mX6_besides X 0 [(0, .ref (g.2.2.1 3)), (1, .int a1), (2, .int a2)] [] h (xX6_besides N a1 a2 h) := by
  unfold xX6_besides
  refine j_iconst E (v := 0) dX6_besides_0 (by decide) ?_
  refine j_istore0_n E dX6_besides_1 (Nat.le_of_ble_eq_true rfl) [(3, .int 0), (0, .ref (g.2.2.1 3)), (1, .int a1), (2, .int a2)] rfl ?_
  refine j_iconst E (v := 0) dX6_besides_2 (by decide) ?_
  refine j_istore0 E dX6_besides_3 (Nat.le_of_ble_eq_true rfl) [(4, .int 0), (3, .int 0), (0, .ref (g.2.2.1 3)), (1, .int a1), (2, .int a2)] rfl ?_
  exact j_sub [2, 3, 4, 1, 0] (lv1 := [(0, .ref (g.2.2.1 3)), (1, .int a1), (2, .int a2), (3, .int 0), (4, .int 0)]) rfl (jxX6_besides_5 hg N E N a1 a2 0 0 h)
theorem ok_X6_besides {g : GC} (hg : isGX g) (hI : gI g) (N : Nat) (a1 : Int32) (a2 : Int32) (h : HP) : Ok g yX6_besides mX6_besides [.ref (g.2.2.1 3), .int a1, .int a2] h (xX6_besides N a1 a2 h) := Ok.of hI (by decide) rfl (Nat.le_of_ble_eq_true rfl) (fun X E => jxX6_besides hg N E a1 a2 h)
set_option maxRecDepth 20000 in
set_option maxHeartbeats 4000000 in
theorem jxX6_become {g : GC} (hg : isGX g) {X : MX} (E : JE g mX6_become X) (h : HP) : J g mX6_become X 0 [(0, .ref (g.2.2.1 3)), (1, .ref (g.2.2.1 8))] [] h (xX6_become h) := by
  unfold xX6_become
  refine j_aload_n E dX6_become_0 1 rfl ?_
  refine j_getr E f_X6_9 (cX_8 hg) 9 rfl dX6_become_1 ?_
  refine j_iconst E (v := 0) dX6_become_4 (by decide) ?_
  refine j_aload_n E dX6_become_5 0 rfl ?_
  refine j_getr E f_X6_9 (cX_3 hg) 4 rfl dX6_become_6 ?_
  refine j_iconst E (v := 0) dX6_become_9 (by decide) ?_
  refine j_bipush E (v := 16) dX6_become_10 (by decide) ?_
  refine j_copy (m := 16) E (cX_9 hg) (cX_4 hg) ml_X6_39 ac_nat ac_st ac_in (by decide) (by decide) (Nat.le_of_ble_eq_true rfl) (Nat.le_of_ble_eq_true rfl) (Nat.le_of_ble_eq_true rfl) (by decide +kernel) dX6_become_12 (fun h1 => ?_)
  refine j_aload_n E dX6_become_15 1 rfl ?_
  refine j_getr E f_X6_15 (cX_8 hg) 10 rfl dX6_become_16 ?_
  refine j_iconst E (v := 0) dX6_become_19 (by decide) ?_
  refine j_aload_n E dX6_become_20 0 rfl ?_
  refine j_getr E f_X6_15 (cX_3 hg) 5 rfl dX6_become_21 ?_
  refine j_iconst E (v := 0) dX6_become_24 (by decide) ?_
  refine j_bipush E (v := 24) dX6_become_25 (by decide) ?_
  refine j_copy (m := 24) E (cX_10 hg) (cX_5 hg) ml_X6_39 ac_nat ac_st ac_in (by decide) (by decide) (Nat.le_of_ble_eq_true rfl) (Nat.le_of_ble_eq_true rfl) (Nat.le_of_ble_eq_true rfl) (by decide +kernel) dX6_become_27 (fun h2 => ?_)
  refine j_aload_n E dX6_become_30 1 rfl ?_
  refine j_getr E f_X6_18 (cX_8 hg) 11 rfl dX6_become_31 ?_
  refine j_iconst E (v := 0) dX6_become_34 (by decide) ?_
  refine j_aload_n E dX6_become_35 0 rfl ?_
  refine j_getr E f_X6_18 (cX_3 hg) 6 rfl dX6_become_36 ?_
  refine j_iconst E (v := 0) dX6_become_39 (by decide) ?_
  refine j_bipush E (v := 24) dX6_become_40 (by decide) ?_
  refine j_copy (m := 24) E (cX_11 hg) (cX_6 hg) ml_X6_39 ac_nat ac_st ac_in (by decide) (by decide) (Nat.le_of_ble_eq_true rfl) (Nat.le_of_ble_eq_true rfl) (Nat.le_of_ble_eq_true rfl) (by decide +kernel) dX6_become_42 (fun h3 => ?_)
  refine j_aload_n E dX6_become_45 1 rfl ?_
  refine j_getr E f_X6_21 (cX_8 hg) 12 rfl dX6_become_46 ?_
  refine j_iconst E (v := 0) dX6_become_49 (by decide) ?_
  refine j_aload_n E dX6_become_50 0 rfl ?_
  refine j_getr E f_X6_21 (cX_3 hg) 7 rfl dX6_become_51 ?_
  refine j_iconst E (v := 0) dX6_become_54 (by decide) ?_
  refine j_bipush E (v := 24) dX6_become_55 (by decide) ?_
  refine j_copy (m := 24) E (cX_12 hg) (cX_7 hg) ml_X6_39 ac_nat ac_st ac_in (by decide) (by decide) (Nat.le_of_ble_eq_true rfl) (Nat.le_of_ble_eq_true rfl) (Nat.le_of_ble_eq_true rfl) (by decide +kernel) dX6_become_57 (fun h4 => ?_)
  refine j_aload_n E dX6_become_60 0 rfl ?_
  refine j_aload_n E dX6_become_61 1 rfl ?_
  refine j_geti E f_X6_24 (cX_8 hg) rfl dX6_become_62 ?_
  refine j_puti E fp_X6_24 (cX_3 hg) rfl dX6_become_65 (fun h5 => ?_)
  refine j_aload_n E dX6_become_68 0 rfl ?_
  refine j_aload_n E dX6_become_69 1 rfl ?_
  refine j_geti E f_X6_32 (cX_8 hg) rfl dX6_become_70 ?_
  refine j_puti E fp_X6_32 (cX_3 hg) rfl dX6_become_73 (fun h6 => ?_)
  exact j_vreturn E rfl dX6_become_76
theorem ok_X6_become {g : GC} (hg : isGX g) (hI : gI g) (h : HP) : Ok g yX6_become mX6_become [.ref (g.2.2.1 3), .ref (g.2.2.1 8)] h (xX6_become h) := Ok.of hI (by decide) rfl (Nat.le_of_ble_eq_true rfl) (fun X E => jxX6_become hg E h)
set_option maxRecDepth 20000 in
set_option maxHeartbeats 4000000 in
theorem jxX6_readCorner {g : GC} (hg : isGX g) {X : MX} (E : JE g mX6_readCorner X) (h : HP) : J g mX6_readCorner X 0 [(0, .ref (g.2.2.1 8)), (1, .ref (g.2.2.1 1))] [] h (xX6_readCorner h) := by
  unfold xX6_readCorner
  refine j_aload_n E dX6_readCorner_0 1 rfl ?_
  refine j_callvI (As := []) (st := []) E (ok_X7_peek hg E.2.2.2.2.2.2.2.1 h) (cX_1 hg) (cl_X6_85) (⟨Nat.le_of_ble_eq_true rfl, Nat.le_of_ble_eq_true rfl⟩) rfl rfl (Nat.le_of_ble_eq_true rfl) dX6_readCorner_1 (fun t1 h2 => ?_)
  refine j_bipush E (v := 97) dX6_readCorner_4 (by decide) ?_
  refine j_isub E dX6_readCorner_6 ?_
  refine j_istore_n E dX6_readCorner_7 (Nat.le_of_ble_eq_true rfl) (fun v3 => [(2, .int v3), (0, .ref (g.2.2.1 8)), (1, .ref (g.2.2.1 1))]) (fun _ => rfl) (fun v3 => ?_)
  refine j_aload_n E dX6_readCorner_8 1 rfl ?_
  refine j_dup E dX6_readCorner_9 rfl ?_
  refine j_geti E f_X6_24 (cX_8 hg) rfl dX6_readCorner_10 ?_
  refine j_iconst E (v := 1) dX6_readCorner_13 (by decide) ?_
  refine j_iload_n E dX6_readCorner_14 0 rfl ?_
  refine j_ishl E dX6_readCorner_15 ?_
  refine j_ior E dX6_readCorner_16 ?_
  refine j_puti E fp_X6_24 (cX_8 hg) rfl dX6_readCorner_17 (fun h4 => ?_)
  refine j_aload_n E dX6_readCorner_20 2 rfl ?_
  refine j_dup E dX6_readCorner_21 rfl ?_
  refine j_geti E f_X6_57 (cX_1 hg) rfl dX6_readCorner_22 ?_
  refine j_iconst E (v := 1) dX6_readCorner_25 (by decide) ?_
  refine j_iadd E dX6_readCorner_26 ?_
  refine j_puti E fp_X6_57 (cX_1 hg) rfl dX6_readCorner_27 (fun h5 => ?_)
  refine j_iload_n E dX6_readCorner_30 0 rfl ?_
  exact j_ireturn E rfl dX6_readCorner_31
theorem ok_X6_readCorner {g : GC} (hg : isGX g) (hI : gI g) (h : HP) : Ok g yX6_readCorner mX6_readCorner [.ref (g.2.2.1 8), .ref (g.2.2.1 1)] h (xX6_readCorner h) := Ok.of hI (by decide) rfl (Nat.le_of_ble_eq_true rfl) (fun X E => jxX6_readCorner hg E h)
set_option maxRecDepth 20000 in
set_option maxHeartbeats 4000000 in
theorem jxX6_readRoad {g : GC} (hg : isGX g) {X : MX} (N : Nat) (E : JE g mX6_readRoad X) (a2 : Int32) (h : HP) : J g mX6_readRoad X 0 [(0, .ref (g.2.2.1 8)), (1, .ref (g.2.2.1 1)), (2, .int a2)] [] h (xX6_readRoad N a2 h) := by
  unfold xX6_readRoad
  refine j_aload_n E dX6_readRoad_0 0 rfl ?_
  refine j_geti E f_X6_32 (cX_8 hg) rfl dX6_readRoad_1 ?_
  refine j_bipush E (v := 24) dX6_readRoad_4 (by decide) ?_
  refine j_cmp_lt E 19 dX6_readRoad_6 rfl ?_ ?_
  · refine j_aload_n E dX6_readRoad_19 1 rfl ?_
    refine j_dup E dX6_readRoad_20 rfl ?_
    refine j_geti E f_X6_57 (cX_1 hg) rfl dX6_readRoad_21 ?_
    refine j_iconst E (v := 1) dX6_readRoad_24 (by decide) ?_
    refine j_iadd E dX6_readRoad_25 ?_
    refine j_puti E fp_X6_57 (cX_1 hg) rfl dX6_readRoad_26 (fun h1 => ?_)
    refine j_aload_n E dX6_readRoad_29 1 rfl ?_
    refine j_callvI (As := []) (st := []) E (ok_X7_isAtCorner hg E.2.2.2.2.2.2.2.1 h1) (cX_1 hg) (cl_X6_51) (⟨Nat.le_of_ble_eq_true rfl, Nat.le_of_ble_eq_true rfl⟩) rfl rfl (Nat.le_of_ble_eq_true rfl) dX6_readRoad_30 (fun t2 h3 => ?_)
    refine j_if_ne E 46 dX6_readRoad_33 rfl ?_ ?_
    · refine j_aload_n E dX6_readRoad_46 1 rfl ?_
      refine j_callvI (As := []) (st := []) E (ok_X7_peek hg E.2.2.2.2.2.2.2.1 h3) (cX_1 hg) (cl_X6_85) (⟨Nat.le_of_ble_eq_true rfl, Nat.le_of_ble_eq_true rfl⟩) rfl rfl (Nat.le_of_ble_eq_true rfl) dX6_readRoad_47 (fun t4 h5 => ?_)
      refine j_bipush E (v := 97) dX6_readRoad_50 (by decide) ?_
      refine j_isub E dX6_readRoad_52 ?_
      refine j_iload_n E dX6_readRoad_53 2 rfl ?_
      refine j_cmp_ne E 68 dX6_readRoad_54 rfl ?_ ?_
      · refine j_aload_n E dX6_readRoad_68 0 rfl ?_
        refine j_aload_n E dX6_readRoad_69 1 rfl ?_
        refine j_callvI (As := [.ref (g.2.2.1 1)]) (st := []) E (ok_X6_readCorner hg E.2.2.2.2.2.2.2.1 h5) (cX_8 hg) (cl_X6_74) (⟨Nat.le_of_ble_eq_true rfl, Nat.le_of_ble_eq_true rfl⟩) rfl rfl (Nat.le_of_ble_eq_true rfl) dX6_readRoad_70 (fun t6 h7 => ?_)
        refine j_istore0_n E dX6_readRoad_73 (Nat.le_of_ble_eq_true rfl) [(3, .int t6), (0, .ref (g.2.2.1 8)), (1, .ref (g.2.2.1 1)), (2, .int a2)] rfl ?_
        refine j_aload_n E dX6_readRoad_74 2 rfl ?_
        refine j_geti E f_X6_57 (cX_1 hg) rfl dX6_readRoad_75 ?_
        refine j_istore E dX6_readRoad_78 (Nat.le_of_ble_eq_true rfl) (fun v8 => [(4, .int v8), (3, .int t6), (0, .ref (g.2.2.1 8)), (1, .ref (g.2.2.1 1)), (2, .int a2)]) (fun _ => rfl) (fun v8 => ?_)
        refine j_aload_n E dX6_readRoad_80 3 rfl ?_
        refine j_iconst E (v := 2) dX6_readRoad_81 (by decide) ?_
        refine j_callvI (As := [.int 2]) (st := []) E (ok_X7_readNumber hg E.2.2.2.2.2.2.2.1 N 2 h7) (cX_1 hg) (cl_X6_81) (⟨Nat.le_of_ble_eq_true rfl, Nat.le_of_ble_eq_true rfl⟩) rfl rfl (Nat.le_of_ble_eq_true rfl) dX6_readRoad_82 (fun t9 h10 => ?_)
        refine j_istore0 E dX6_readRoad_85 (Nat.le_of_ble_eq_true rfl) [(5, .int t9), (4, .int v8), (3, .int t6), (0, .ref (g.2.2.1 8)), (1, .ref (g.2.2.1 1)), (2, .int a2)] rfl ?_
        refine j_iload E dX6_readRoad_87 0 rfl ?_
        refine j_iconst E (v := (-1)) dX6_readRoad_89 (by decide) ?_
        refine j_cmp_ne E 95 dX6_readRoad_90 rfl ?_ ?_
        · refine j_iload E dX6_readRoad_95 0 rfl ?_
          refine j_if_ne E 108 dX6_readRoad_97 rfl ?_ ?_
          · refine j_aload_n E dX6_readRoad_108 3 rfl ?_
            refine j_getr E f_X6_15 (cX_8 hg) 10 rfl dX6_readRoad_109 ?_
            refine j_aload_n E dX6_readRoad_112 3 rfl ?_
            refine j_geti E f_X6_32 (cX_8 hg) rfl dX6_readRoad_113 ?_
            refine j_iload_n E dX6_readRoad_116 5 rfl ?_
            refine j_iast E (cX_10 hg) dX6_readRoad_117 (fun h11 => ?_)
            refine j_aload_n E dX6_readRoad_118 3 rfl ?_
            refine j_getr E f_X6_18 (cX_8 hg) 11 rfl dX6_readRoad_119 ?_
            refine j_aload_n E dX6_readRoad_122 3 rfl ?_
            refine j_geti E f_X6_32 (cX_8 hg) rfl dX6_readRoad_123 ?_
            refine j_iload_n E dX6_readRoad_126 2 rfl ?_
            refine j_iast E (cX_11 hg) dX6_readRoad_127 (fun h12 => ?_)
            refine j_aload_n E dX6_readRoad_128 3 rfl ?_
            refine j_getr E f_X6_21 (cX_8 hg) 12 rfl dX6_readRoad_129 ?_
            refine j_aload_n E dX6_readRoad_132 3 rfl ?_
            refine j_geti E f_X6_32 (cX_8 hg) rfl dX6_readRoad_133 ?_
            refine j_iload E dX6_readRoad_136 0 rfl ?_
            refine j_iast E (cX_12 hg) dX6_readRoad_138 (fun h13 => ?_)
            refine j_aload_n E dX6_readRoad_139 3 rfl ?_
            refine j_dup E dX6_readRoad_140 rfl ?_
            refine j_geti E f_X6_32 (cX_8 hg) rfl dX6_readRoad_141 ?_
            refine j_iconst E (v := 1) dX6_readRoad_144 (by decide) ?_
            refine j_iadd E dX6_readRoad_145 ?_
            refine j_puti E fp_X6_32 (cX_8 hg) rfl dX6_readRoad_146 (fun h14 => ?_)
            refine j_iconst E (v := 1) dX6_readRoad_149 (by decide) ?_
            exact j_zreturn E rfl dX6_readRoad_150
          · refine j_aload_n E dX6_readRoad_100 4 rfl ?_
            refine j_iconst E (v := 3) dX6_readRoad_101 (by decide) ?_
            refine j_iload E dX6_readRoad_102 1 rfl ?_
            refine j_callvI (As := [.int 3, .int v8]) (st := []) E (ok_X7_refuse hg E.2.2.2.2.2.2.2.1 3 v8 h10) (cX_1 hg) (cl_X6_60) (⟨Nat.le_of_ble_eq_true rfl, Nat.le_of_ble_eq_true rfl⟩) rfl rfl (Nat.le_of_ble_eq_true rfl) dX6_readRoad_104 (fun t15 h16 => ?_)
            exact j_zreturn E rfl dX6_readRoad_107
        · refine j_iconst E (v := 0) dX6_readRoad_93 (by decide) ?_
          exact j_zreturn E rfl dX6_readRoad_94
      · refine j_aload_n E dX6_readRoad_57 1 rfl ?_
        refine j_bipush E (v := 6) dX6_readRoad_58 (by decide) ?_
        refine j_aload_n E dX6_readRoad_60 1 rfl ?_
        refine j_geti E f_X6_57 (cX_1 hg) rfl dX6_readRoad_61 ?_
        refine j_callvI (As := [.int 6, .int (h5.1 1 2)]) (st := []) E (ok_X7_refuse hg E.2.2.2.2.2.2.2.1 6 (h5.1 1 2) h5) (cX_1 hg) (cl_X6_60) (⟨Nat.le_of_ble_eq_true rfl, Nat.le_of_ble_eq_true rfl⟩) rfl rfl (Nat.le_of_ble_eq_true rfl) dX6_readRoad_64 (fun t17 h18 => ?_)
        exact j_zreturn E rfl dX6_readRoad_67
    · refine j_aload_n E dX6_readRoad_36 1 rfl ?_
      refine j_iconst E (v := 1) dX6_readRoad_37 (by decide) ?_
      refine j_aload_n E dX6_readRoad_38 1 rfl ?_
      refine j_geti E f_X6_57 (cX_1 hg) rfl dX6_readRoad_39 ?_
      refine j_callvI (As := [.int 1, .int (h3.1 1 2)]) (st := []) E (ok_X7_refuse hg E.2.2.2.2.2.2.2.1 1 (h3.1 1 2) h3) (cX_1 hg) (cl_X6_60) (⟨Nat.le_of_ble_eq_true rfl, Nat.le_of_ble_eq_true rfl⟩) rfl rfl (Nat.le_of_ble_eq_true rfl) dX6_readRoad_42 (fun t19 h20 => ?_)
      exact j_zreturn E rfl dX6_readRoad_45
  · refine j_aload_n E dX6_readRoad_9 1 rfl ?_
    refine j_iconst E (v := 5) dX6_readRoad_10 (by decide) ?_
    refine j_aload_n E dX6_readRoad_11 1 rfl ?_
    refine j_geti E f_X6_57 (cX_1 hg) rfl dX6_readRoad_12 ?_
    refine j_callvI (As := [.int 5, .int (h.1 1 2)]) (st := []) E (ok_X7_refuse hg E.2.2.2.2.2.2.2.1 5 (h.1 1 2) h) (cX_1 hg) (cl_X6_60) (⟨Nat.le_of_ble_eq_true rfl, Nat.le_of_ble_eq_true rfl⟩) rfl rfl (Nat.le_of_ble_eq_true rfl) dX6_readRoad_15 (fun t21 h22 => ?_)
    exact j_zreturn E rfl dX6_readRoad_18
theorem ok_X6_readRoad {g : GC} (hg : isGX g) (hI : gI g) (N : Nat) (a2 : Int32) (h : HP) : Ok g yX6_readRoad mX6_readRoad [.ref (g.2.2.1 8), .ref (g.2.2.1 1), .int a2] h (xX6_readRoad N a2 h) := Ok.of hI (by decide) rfl (Nat.le_of_ble_eq_true rfl) (fun X E => jxX6_readRoad hg N E a2 h)
set_option maxRecDepth 20000 in
set_option maxHeartbeats 4000000 in
theorem jxX6_readLine_83 {g : GC} (hg : isGX g) {X : MX} (N : Nat) (E : JE g mX6_readLine X) (h : HP) : J g mX6_readLine X 83 [] [] h (xX6_readLine_83 N h) := by
  unfold xX6_readLine_83
  refine j_iconst E (v := 1) dX6_readLine_83 (by decide) ?_
  exact j_zreturn E rfl dX6_readLine_84
set_option maxRecDepth 20000 in
set_option maxHeartbeats 4000000 in
theorem jxX6_readLine_39 {g : GC} (hg : isGX g) {X : MX} (N : Nat) (E : JE g mX6_readLine X) : ∀ (n : Nat) (a2 : Int32) (a3 : Int32) (h : HP), J g mX6_readLine X 39 [(0, .ref (g.2.2.1 8)), (1, .ref (g.2.2.1 1)), (2, .int a2), (3, .int a3)] [] h (xX6_readLine_39 N n a2 a3 h) := by
  intro n
  induction n with
  | zero => intro a2 a3 h; exact j_none
  | succ n ih =>
    intro a2 a3 h
    unfold xX6_readLine_39
    refine j_iload_n E dX6_readLine_39 3 rfl ?_
    refine j_bipush E (v := 24) dX6_readLine_40 (by decide) ?_
    refine j_cmp_gt E 83 dX6_readLine_42 rfl ?_ ?_
    · exact j_sub [] (lv1 := []) rfl (jxX6_readLine_83 hg N E h)
    · refine j_aload_n E dX6_readLine_45 1 rfl ?_
      refine j_callvI (As := []) (st := []) E (ok_X7_peek hg E.2.2.2.2.2.2.2.1 h) (cX_1 hg) (cl_X6_85) (⟨Nat.le_of_ble_eq_true rfl, Nat.le_of_ble_eq_true rfl⟩) rfl rfl (Nat.le_of_ble_eq_true rfl) dX6_readLine_46 (fun t1 h2 => ?_)
      refine j_bipush E (v := 45) dX6_readLine_49 (by decide) ?_
      refine j_cmp_ne E 83 dX6_readLine_51 rfl ?_ ?_
      · exact j_sub [] (lv1 := []) rfl (jxX6_readLine_83 hg N E h2)
      · refine j_aload_n E dX6_readLine_54 0 rfl ?_
        refine j_aload_n E dX6_readLine_55 1 rfl ?_
        refine j_iload_n E dX6_readLine_56 2 rfl ?_
        refine j_callvI (As := [.ref (g.2.2.1 1), .int a2]) (st := []) E (ok_X6_readRoad hg E.2.2.2.2.2.2.2.1 N a2 h2) (cX_8 hg) (cl_X6_89) (⟨Nat.le_of_ble_eq_true rfl, Nat.le_of_ble_eq_true rfl⟩) rfl rfl (Nat.le_of_ble_eq_true rfl) dX6_readLine_57 (fun t3 h4 => ?_)
        refine j_if_ne E 65 dX6_readLine_60 rfl ?_ ?_
        · refine j_aload_n E dX6_readLine_65 0 rfl ?_
          refine j_getr E f_X6_18 (cX_8 hg) 11 rfl dX6_readLine_66 ?_
          refine j_aload_n E dX6_readLine_69 0 rfl ?_
          refine j_geti E f_X6_32 (cX_8 hg) rfl dX6_readLine_70 ?_
          refine j_iconst E (v := 1) dX6_readLine_73 (by decide) ?_
          refine j_isub E dX6_readLine_74 ?_
          refine j_iald E (cX_11 hg) dX6_readLine_75 (fun t5 => ?_)
          refine j_istore0_n E dX6_readLine_76 (Nat.le_of_ble_eq_true rfl) [(2, .int t5), (0, .ref (g.2.2.1 8)), (1, .ref (g.2.2.1 1)), (3, .int a3)] rfl ?_
          refine j_iinc E (c := 1) dX6_readLine_77 3 rfl (by decide) (Nat.le_of_ble_eq_true rfl) (fun v6 => [(3, .int v6), (2, .int t5), (0, .ref (g.2.2.1 8)), (1, .ref (g.2.2.1 1))]) (fun _ => rfl) (fun v6 => ?_)
          refine j_goto E 39 dX6_readLine_80 rfl ?_
          exact j_sub [2, 3, 1, 0] (lv1 := [(0, .ref (g.2.2.1 8)), (1, .ref (g.2.2.1 1)), (2, .int t5), (3, .int v6)]) rfl (ih t5 v6 h4)
        · refine j_iconst E (v := 0) dX6_readLine_63 (by decide) ?_
          exact j_zreturn E rfl dX6_readLine_64
set_option maxRecDepth 20000 in
set_option maxHeartbeats 4000000 in
theorem jxX6_readLine {g : GC} (hg : isGX g) {X : MX} (N : Nat) (E : JE g mX6_readLine X) (h : HP) : J g mX6_readLine X 0 [(0, .ref (g.2.2.1 8)), (1, .ref (g.2.2.1 1))] [] h (xX6_readLine N h) := by
  unfold xX6_readLine
  refine j_aload_n E dX6_readLine_0 0 rfl ?_
  refine j_aload_n E dX6_readLine_1 1 rfl ?_
  refine j_callvI (As := [.ref (g.2.2.1 1)]) (st := []) E (ok_X6_readCorner hg E.2.2.2.2.2.2.2.1 h) (cX_8 hg) (cl_X6_74) (⟨Nat.le_of_ble_eq_true rfl, Nat.le_of_ble_eq_true rfl⟩) rfl rfl (Nat.le_of_ble_eq_true rfl) dX6_readLine_2 (fun t1 h2 => ?_)
  refine j_istore0_n E dX6_readLine_5 (Nat.le_of_ble_eq_true rfl) [(2, .int t1), (0, .ref (g.2.2.1 8)), (1, .ref (g.2.2.1 1))] rfl ?_
  refine j_aload_n E dX6_readLine_6 2 rfl ?_
  refine j_bipush E (v := 61) dX6_readLine_7 (by decide) ?_
  refine j_callvI (As := [.int 61]) (st := []) E (ok_X7_takes hg E.2.2.2.2.2.2.2.1 61 h2) (cX_1 hg) (cl_X6_78) (⟨Nat.le_of_ble_eq_true rfl, Nat.le_of_ble_eq_true rfl⟩) rfl rfl (Nat.le_of_ble_eq_true rfl) dX6_readLine_9 (fun t3 h4 => ?_)
  refine j_if_eq E 37 dX6_readLine_12 rfl ?_ ?_
  · refine j_iconst E (v := 0) dX6_readLine_37 (by decide) ?_
    refine j_istore0_n E dX6_readLine_38 (Nat.le_of_ble_eq_true rfl) [(3, .int 0), (2, .int t1), (0, .ref (g.2.2.1 8)), (1, .ref (g.2.2.1 1))] rfl ?_
    exact j_sub [2, 3, 1, 0] (lv1 := [(0, .ref (g.2.2.1 8)), (1, .ref (g.2.2.1 1)), (2, .int t1), (3, .int 0)]) rfl (jxX6_readLine_39 hg N E N t1 0 h4)
  · refine j_aload_n E dX6_readLine_15 2 rfl ?_
    refine j_iconst E (v := 2) dX6_readLine_16 (by decide) ?_
    refine j_callvI (As := [.int 2]) (st := []) E (ok_X7_readNumber hg E.2.2.2.2.2.2.2.1 N 2 h4) (cX_1 hg) (cl_X6_81) (⟨Nat.le_of_ble_eq_true rfl, Nat.le_of_ble_eq_true rfl⟩) rfl rfl (Nat.le_of_ble_eq_true rfl) dX6_readLine_17 (fun t5 h6 => ?_)
    refine j_istore0_n E dX6_readLine_20 (Nat.le_of_ble_eq_true rfl) [(3, .int t5), (2, .int t1), (0, .ref (g.2.2.1 8)), (1, .ref (g.2.2.1 1))] rfl ?_
    refine j_iload_n E dX6_readLine_21 0 rfl ?_
    refine j_iconst E (v := (-1)) dX6_readLine_22 (by decide) ?_
    refine j_cmp_ne E 28 dX6_readLine_23 rfl ?_ ?_
    · refine j_aload_n E dX6_readLine_28 2 rfl ?_
      refine j_getr E f_X6_9 (cX_8 hg) 9 rfl dX6_readLine_29 ?_
      refine j_iload_n E dX6_readLine_32 1 rfl ?_
      refine j_iload_n E dX6_readLine_33 0 rfl ?_
      refine j_iast E (cX_9 hg) dX6_readLine_34 (fun h7 => ?_)
      refine j_iconst E (v := 1) dX6_readLine_35 (by decide) ?_
      exact j_zreturn E rfl dX6_readLine_36
    · refine j_iconst E (v := 0) dX6_readLine_26 (by decide) ?_
      exact j_zreturn E rfl dX6_readLine_27
theorem ok_X6_readLine {g : GC} (hg : isGX g) (hI : gI g) (N : Nat) (h : HP) : Ok g yX6_readLine mX6_readLine [.ref (g.2.2.1 8), .ref (g.2.2.1 1)] h (xX6_readLine N h) := Ok.of hI (by decide) rfl (Nat.le_of_ble_eq_true rfl) (fun X E => jxX6_readLine hg N E h)
set_option maxRecDepth 20000 in
set_option maxHeartbeats 4000000 in
theorem jxX6_readFrom_20 {g : GC} (hg : isGX g) {X : MX} (N : Nat) (E : JE g mX6_readFrom X) : ∀ (n : Nat) (a2 : Int32) (h : HP), J g mX6_readFrom X 20 [(0, .ref (g.2.2.1 8)), (1, .ref (g.2.2.1 1)), (2, .int a2)] [] h (xX6_readFrom_20 N n a2 h) := by
  intro n
  induction n with
  | zero => intro a2 h; exact j_none
  | succ n ih =>
    intro a2 h
    unfold xX6_readFrom_20
    refine j_iload_n E dX6_readFrom_20 2 rfl ?_
    refine j_bipush E (v := 24) dX6_readFrom_21 (by decide) ?_
    refine j_cmp_gt E 95 dX6_readFrom_23 rfl ?_ ?_
    · refine j_iconst E (v := 0) dX6_readFrom_95 (by decide) ?_
      exact j_zreturn E rfl dX6_readFrom_96
    · refine j_aload_n E dX6_readFrom_26 1 rfl ?_
      refine j_callvI (As := []) (st := []) E (ok_X7_isAtCorner hg E.2.2.2.2.2.2.2.1 h) (cX_1 hg) (cl_X6_51) (⟨Nat.le_of_ble_eq_true rfl, Nat.le_of_ble_eq_true rfl⟩) rfl rfl (Nat.le_of_ble_eq_true rfl) dX6_readFrom_27 (fun t1 h2 => ?_)
      refine j_if_ne E 43 dX6_readFrom_30 rfl ?_ ?_
      · refine j_iload_n E dX6_readFrom_43 2 rfl ?_
        refine j_bipush E (v := 24) dX6_readFrom_44 (by decide) ?_
        refine j_cmp_ne E 59 dX6_readFrom_46 rfl ?_ ?_
        · refine j_aload_n E dX6_readFrom_59 0 rfl ?_
          refine j_aload_n E dX6_readFrom_60 1 rfl ?_
          refine j_callvI (As := [.ref (g.2.2.1 1)]) (st := []) E (ok_X6_readLine hg E.2.2.2.2.2.2.2.1 N h2) (cX_8 hg) (cl_X6_63) (⟨Nat.le_of_ble_eq_true rfl, Nat.le_of_ble_eq_true rfl⟩) rfl rfl (Nat.le_of_ble_eq_true rfl) dX6_readFrom_61 (fun t3 h4 => ?_)
          refine j_if_ne E 69 dX6_readFrom_64 rfl ?_ ?_
          · refine j_aload_n E dX6_readFrom_69 1 rfl ?_
            refine j_callvI (As := []) (st := []) E (ok_X7_isAtEnd hg E.2.2.2.2.2.2.2.1 h4) (cX_1 hg) (cl_X6_67) (⟨Nat.le_of_ble_eq_true rfl, Nat.le_of_ble_eq_true rfl⟩) rfl rfl (Nat.le_of_ble_eq_true rfl) dX6_readFrom_70 (fun t5 h6 => ?_)
            refine j_if_eq E 78 dX6_readFrom_73 rfl ?_ ?_
            · refine j_aload_n E dX6_readFrom_78 1 rfl ?_
              refine j_bipush E (v := 59) dX6_readFrom_79 (by decide) ?_
              refine j_callvI (As := [.int 59]) (st := []) E (ok_X7_demands hg E.2.2.2.2.2.2.2.1 59 h6) (cX_1 hg) (cl_X6_70) (⟨Nat.le_of_ble_eq_true rfl, Nat.le_of_ble_eq_true rfl⟩) rfl rfl (Nat.le_of_ble_eq_true rfl) dX6_readFrom_81 (fun t7 h8 => ?_)
              refine j_if_ne E 89 dX6_readFrom_84 rfl ?_ ?_
              · refine j_iinc E (c := 1) dX6_readFrom_89 2 rfl (by decide) (Nat.le_of_ble_eq_true rfl) (fun v9 => [(2, .int v9), (0, .ref (g.2.2.1 8)), (1, .ref (g.2.2.1 1))]) (fun _ => rfl) (fun v9 => ?_)
                refine j_goto E 20 dX6_readFrom_92 rfl ?_
                exact j_sub [1, 2, 0] (lv1 := [(0, .ref (g.2.2.1 8)), (1, .ref (g.2.2.1 1)), (2, .int v9)]) rfl (ih v9 h8)
              · refine j_iconst E (v := 0) dX6_readFrom_87 (by decide) ?_
                exact j_zreturn E rfl dX6_readFrom_88
            · refine j_iconst E (v := 1) dX6_readFrom_76 (by decide) ?_
              exact j_zreturn E rfl dX6_readFrom_77
          · refine j_iconst E (v := 0) dX6_readFrom_67 (by decide) ?_
            exact j_zreturn E rfl dX6_readFrom_68
        · refine j_aload_n E dX6_readFrom_49 1 rfl ?_
          refine j_iconst E (v := 4) dX6_readFrom_50 (by decide) ?_
          refine j_aload_n E dX6_readFrom_51 1 rfl ?_
          refine j_geti E f_X6_57 (cX_1 hg) rfl dX6_readFrom_52 ?_
          refine j_callvI (As := [.int 4, .int (h2.1 1 2)]) (st := []) E (ok_X7_refuse hg E.2.2.2.2.2.2.2.1 4 (h2.1 1 2) h2) (cX_1 hg) (cl_X6_60) (⟨Nat.le_of_ble_eq_true rfl, Nat.le_of_ble_eq_true rfl⟩) rfl rfl (Nat.le_of_ble_eq_true rfl) dX6_readFrom_55 (fun t10 h11 => ?_)
          exact j_zreturn E rfl dX6_readFrom_58
      · refine j_aload_n E dX6_readFrom_33 1 rfl ?_
        refine j_iconst E (v := 1) dX6_readFrom_34 (by decide) ?_
        refine j_aload_n E dX6_readFrom_35 1 rfl ?_
        refine j_geti E f_X6_57 (cX_1 hg) rfl dX6_readFrom_36 ?_
        refine j_callvI (As := [.int 1, .int (h2.1 1 2)]) (st := []) E (ok_X7_refuse hg E.2.2.2.2.2.2.2.1 1 (h2.1 1 2) h2) (cX_1 hg) (cl_X6_60) (⟨Nat.le_of_ble_eq_true rfl, Nat.le_of_ble_eq_true rfl⟩) rfl rfl (Nat.le_of_ble_eq_true rfl) dX6_readFrom_39 (fun t12 h13 => ?_)
        exact j_zreturn E rfl dX6_readFrom_42
set_option maxRecDepth 20000 in
set_option maxHeartbeats 4000000 in
theorem jxX6_readFrom {g : GC} (hg : isGX g) {X : MX} (N : Nat) (E : JE g mX6_readFrom X) (h : HP) : J g mX6_readFrom X 0 [(0, .ref (g.2.2.1 8)), (1, .ref (g.2.2.1 1))] [] h (xX6_readFrom N h) := by
  unfold xX6_readFrom
  refine j_aload_n E dX6_readFrom_0 0 rfl ?_
  refine j_getr E f_X6_9 (cX_8 hg) 9 rfl dX6_readFrom_1 ?_
  refine j_iconst E (v := 0) dX6_readFrom_4 (by decide) ?_
  refine j_callsV (As := [.ref (g.2.2.1 9), .int 0]) (st := []) E (ok_J7_fill_53178 hg E.2.2.2.2.2.2.2.1 N 16 9 (cX_9 hg) 0 h) (cl_X6_45) (⟨Nat.le_of_ble_eq_true rfl, Nat.le_of_ble_eq_true rfl⟩) rfl rfl (Nat.le_of_ble_eq_true rfl) dX6_readFrom_5 (fun t1 h2 => ?_)
  refine j_aload_n E dX6_readFrom_8 0 rfl ?_
  refine j_iconst E (v := 0) dX6_readFrom_9 (by decide) ?_
  refine j_puti E fp_X6_24 (cX_8 hg) rfl dX6_readFrom_10 (fun h3 => ?_)
  refine j_aload_n E dX6_readFrom_13 0 rfl ?_
  refine j_iconst E (v := 0) dX6_readFrom_14 (by decide) ?_
  refine j_puti E fp_X6_32 (cX_8 hg) rfl dX6_readFrom_15 (fun h4 => ?_)
  refine j_iconst E (v := 0) dX6_readFrom_18 (by decide) ?_
  refine j_istore0_n E dX6_readFrom_19 (Nat.le_of_ble_eq_true rfl) [(2, .int 0), (0, .ref (g.2.2.1 8)), (1, .ref (g.2.2.1 1))] rfl ?_
  exact j_sub [1, 2, 0] (lv1 := [(0, .ref (g.2.2.1 8)), (1, .ref (g.2.2.1 1)), (2, .int 0)]) rfl (jxX6_readFrom_20 hg N E N 0 h4)
theorem ok_X6_readFrom {g : GC} (hg : isGX g) (hI : gI g) (N : Nat) (h : HP) : Ok g yX6_readFrom mX6_readFrom [.ref (g.2.2.1 8), .ref (g.2.2.1 1)] h (xX6_readFrom N h) := Ok.of hI (by decide) rfl (Nat.le_of_ble_eq_true rfl) (fun X E => jxX6_readFrom hg N E h)
set_option maxRecDepth 20000 in
set_option maxHeartbeats 4000000 in
theorem jxX7_put_45 {g : GC} (hg : isGX g) {X : MX} (N : Nat) (E : JE g mX7_put X) (K3 : Int32 → Int32 → HP → Option (Int32 × HP)) (hK3 : ∀ (a1 : Int32) (a2 : Int32) (h : HP), J g mX7_put X 3 [(0, .ref (g.2.2.1 1)), (1, .int a1), (2, .int a2)] [] h (K3 a1 a2 h)) (a1 : Int32) (a2 : Int32) (h : HP) : J g mX7_put X 45 [(0, .ref (g.2.2.1 1)), (1, .int a1), (2, .int a2)] [] h (xX7_put_45 N K3 a1 a2 h) := by
  unfold xX7_put_45
  refine j_iinc E (c := (-8)) dX7_put_45 2 rfl (by decide) (Nat.le_of_ble_eq_true rfl) (fun v1 => [(2, .int v1), (0, .ref (g.2.2.1 1)), (1, .int a1)]) (fun _ => rfl) (fun v1 => ?_)
  refine j_goto E 3 dX7_put_48 rfl ?_
  exact j_sub [1, 2, 0] (lv1 := [(0, .ref (g.2.2.1 1)), (1, .int a1), (2, .int v1)]) rfl (hK3 a1 v1 h)
set_option maxRecDepth 20000 in
set_option maxHeartbeats 4000000 in
theorem jxX7_put_3 {g : GC} (hg : isGX g) {X : MX} (N : Nat) (E : JE g mX7_put X) : ∀ (n : Nat) (a1 : Int32) (a2 : Int32) (h : HP), J g mX7_put X 3 [(0, .ref (g.2.2.1 1)), (1, .int a1), (2, .int a2)] [] h (xX7_put_3 N n a1 a2 h) := by
  intro n
  induction n with
  | zero => intro a1 a2 h; exact j_none
  | succ n ih =>
    intro a1 a2 h
    unfold xX7_put_3
    refine j_iload_n E dX7_put_3 2 rfl ?_
    refine j_if_lt E 51 dX7_put_4 rfl ?_ ?_
    · exact j_vreturn E rfl dX7_put_51
    · refine j_aload_n E dX7_put_7 0 rfl ?_
      refine j_geti E f_X7_15 (cX_1 hg) rfl dX7_put_8 ?_
      refine j_aload_n E dX7_put_11 0 rfl ?_
      refine j_getr E f_X7_9 (cX_1 hg) 2 rfl dX7_put_12 ?_
      refine j_alen (v := 260) E (cX_2 hg) (by decide) (by decide) dX7_put_15 ?_
      refine j_cmp_ge E 45 dX7_put_16 rfl ?_ ?_
      · exact jxX7_put_45 hg N E (xX7_put_3 N n) ih a1 a2 h
      · refine j_aload_n E dX7_put_19 0 rfl ?_
        refine j_getr E f_X7_9 (cX_1 hg) 2 rfl dX7_put_20 ?_
        refine j_aload_n E dX7_put_23 0 rfl ?_
        refine j_geti E f_X7_15 (cX_1 hg) rfl dX7_put_24 ?_
        refine j_iload_n E dX7_put_27 1 rfl ?_
        refine j_iload_n E dX7_put_28 2 rfl ?_
        refine j_ushr2 E dX7_put_29 ?_
        refine j_sipush E (v := 255) dX7_put_30 (by decide) ?_
        refine j_iand E dX7_put_33 ?_
        refine j_iast E (cX_2 hg) dX7_put_34 (fun h1 => ?_)
        refine j_aload_n E dX7_put_35 0 rfl ?_
        refine j_dup E dX7_put_36 rfl ?_
        refine j_geti E f_X7_15 (cX_1 hg) rfl dX7_put_37 ?_
        refine j_iconst E (v := 1) dX7_put_40 (by decide) ?_
        refine j_iadd E dX7_put_41 ?_
        refine j_puti E fp_X7_15 (cX_1 hg) rfl dX7_put_42 (fun h2 => ?_)
        exact jxX7_put_45 hg N E (xX7_put_3 N n) ih a1 a2 h2
set_option maxRecDepth 20000 in
set_option maxHeartbeats 4000000 in
theorem jxX7_put {g : GC} (hg : isGX g) {X : MX} (N : Nat) (E : JE g mX7_put X) (a1 : Int32) (h : HP) : J g mX7_put X 0 [(0, .ref (g.2.2.1 1)), (1, .int a1)] [] h (xX7_put N a1 h) := by
  unfold xX7_put
  refine j_bipush E (v := 24) dX7_put_0 (by decide) ?_
  refine j_istore0_n E dX7_put_2 (Nat.le_of_ble_eq_true rfl) [(2, .int 24), (0, .ref (g.2.2.1 1)), (1, .int a1)] rfl ?_
  exact j_sub [1, 2, 0] (lv1 := [(0, .ref (g.2.2.1 1)), (1, .int a1), (2, .int 24)]) rfl (jxX7_put_3 hg N E N a1 24 h)
theorem ok_X7_put {g : GC} (hg : isGX g) (hI : gI g) (N : Nat) (a1 : Int32) (h : HP) : Ok g yX7_put mX7_put [.ref (g.2.2.1 1), .int a1] h (xX7_put N a1 h) := Ok.of hI (by decide) rfl (Nat.le_of_ble_eq_true rfl) (fun X E => jxX7_put hg N E a1 h)
set_option maxRecDepth 20000 in
set_option maxHeartbeats 4000000 in
theorem jxX7_gives_18 {g : GC} (hg : isGX g) {X : MX} (E : JE g mX7_gives X) (h : HP) : J g mX7_gives X 18 [] [] h (xX7_gives_18 h) := by
  unfold xX7_gives_18
  refine j_iconst E (v := 0) dX7_gives_18 (by decide) ?_
  exact j_zreturn E rfl dX7_gives_19
set_option maxRecDepth 20000 in
set_option maxHeartbeats 4000000 in
theorem jxX7_gives {g : GC} (hg : isGX g) {X : MX} (E : JE g mX7_gives X) (a1 : Int32) (a2 : Int32) (a3 : Int32) (h : HP) : J g mX7_gives X 0 [(0, .ref (g.2.2.1 1)), (1, .int a1), (2, .int a2), (3, .int a3)] [] h (xX7_gives a1 a2 a3 h) := by
  unfold xX7_gives
  refine j_iload_n E dX7_gives_0 1 rfl ?_
  refine j_iload_n E dX7_gives_1 2 rfl ?_
  refine j_cmp_lt E 18 dX7_gives_2 rfl ?_ ?_
  · exact j_sub [] (lv1 := []) rfl (jxX7_gives_18 hg E h)
  · refine j_iload_n E dX7_gives_5 1 rfl ?_
    refine j_iload_n E dX7_gives_6 3 rfl ?_
    refine j_cmp_gt E 18 dX7_gives_7 rfl ?_ ?_
    · exact j_sub [] (lv1 := []) rfl (jxX7_gives_18 hg E h)
    · refine j_iload_n E dX7_gives_10 1 rfl ?_
      refine j_aload_n E dX7_gives_11 0 rfl ?_
      refine j_geti E f_X7_15 (cX_1 hg) rfl dX7_gives_12 ?_
      refine j_cmp_le E 20 dX7_gives_15 rfl ?_ ?_
      · refine j_aload_n E dX7_gives_20 0 rfl ?_
        refine j_iconst E (v := 0) dX7_gives_21 (by decide) ?_
        refine j_puti E fp_X7_15 (cX_1 hg) rfl dX7_gives_22 (fun h1 => ?_)
        refine j_aload_n E dX7_gives_25 0 rfl ?_
        refine j_iconst E (v := 0) dX7_gives_26 (by decide) ?_
        refine j_puti E fp_X7_19 (cX_1 hg) rfl dX7_gives_27 (fun h2 => ?_)
        refine j_aload_n E dX7_gives_30 0 rfl ?_
        refine j_iload_n E dX7_gives_31 1 rfl ?_
        refine j_puti E fp_X7_22 (cX_1 hg) rfl dX7_gives_32 (fun h3 => ?_)
        refine j_aload_n E dX7_gives_35 0 rfl ?_
        refine j_iconst E (v := 0) dX7_gives_36 (by decide) ?_
        refine j_puti E fp_X7_25 (cX_1 hg) rfl dX7_gives_37 (fun h4 => ?_)
        refine j_iconst E (v := 1) dX7_gives_40 (by decide) ?_
        exact j_zreturn E rfl dX7_gives_41
      · exact j_sub [] (lv1 := []) rfl (jxX7_gives_18 hg E h)
theorem ok_X7_gives {g : GC} (hg : isGX g) (hI : gI g) (a1 : Int32) (a2 : Int32) (a3 : Int32) (h : HP) : Ok g yX7_gives mX7_gives [.ref (g.2.2.1 1), .int a1, .int a2, .int a3] h (xX7_gives a1 a2 a3 h) := Ok.of hI (by decide) rfl (Nat.le_of_ble_eq_true rfl) (fun X E => jxX7_gives hg E a1 a2 a3 h)
set_option maxRecDepth 20000 in
set_option maxHeartbeats 4000000 in
theorem jxX8_neededBy_12 {g : GC} (hg : isGX g) {X : MX} (E : JE g mX8_neededBy X) (h : HP) : J g mX8_neededBy X 12 [] [] h (xX8_neededBy_12 h) := by
  unfold xX8_neededBy_12
  refine j_iconst E (v := 0) dX8_neededBy_12 (by decide) ?_
  exact j_ireturn E rfl dX8_neededBy_13
set_option maxRecDepth 20000 in
set_option maxHeartbeats 4000000 in
theorem jxX8_neededBy_37 {g : GC} (hg : isGX g) {X : MX} (E : JE g mX8_neededBy X) (s0 : Int32) (h : HP) : J g mX8_neededBy X 37 [] [.int s0] h (xX8_neededBy_37 s0 h) := by
  unfold xX8_neededBy_37
  exact j_ireturn E rfl dX8_neededBy_37
set_option maxRecDepth 20000 in
set_option maxHeartbeats 4000000 in
theorem jxX8_neededBy_32 {g : GC} (hg : isGX g) {X : MX} (E : JE g mX8_neededBy X) (h : HP) : J g mX8_neededBy X 32 [] [] h (xX8_neededBy_32 h) := by
  unfold xX8_neededBy_32
  refine j_iconst E (v := 1) dX8_neededBy_32 (by decide) ?_
  refine j_goto E 37 dX8_neededBy_33 rfl ?_
  exact jxX8_neededBy_37 hg E 1 h
set_option maxRecDepth 20000 in
set_option maxHeartbeats 4000000 in
theorem jxX8_neededBy {g : GC} (hg : isGX g) {X : MX} (E : JE g mX8_neededBy X) (a0 : Int32) (h : HP) : J g mX8_neededBy X 0 [(0, .int a0)] [] h (xX8_neededBy a0 h) := by
  unfold xX8_neededBy
  refine j_iload_n E dX8_neededBy_0 0 rfl ?_
  refine j_bipush E (v := 48) dX8_neededBy_1 (by decide) ?_
  refine j_cmp_eq E 12 dX8_neededBy_3 rfl ?_ ?_
  · exact j_sub [] (lv1 := []) rfl (jxX8_neededBy_12 hg E h)
  · refine j_iload_n E dX8_neededBy_6 0 rfl ?_
    refine j_bipush E (v := 97) dX8_neededBy_7 (by decide) ?_
    refine j_cmp_ne E 14 dX8_neededBy_9 rfl ?_ ?_
    · refine j_iload_n E dX8_neededBy_14 0 rfl ?_
      refine j_bipush E (v := 33) dX8_neededBy_15 (by decide) ?_
      refine j_cmp_eq E 32 dX8_neededBy_17 rfl ?_ ?_
      · exact j_sub [] (lv1 := []) rfl (jxX8_neededBy_32 hg E h)
      · refine j_iload_n E dX8_neededBy_20 0 rfl ?_
        refine j_bipush E (v := 38) dX8_neededBy_21 (by decide) ?_
        refine j_cmp_eq E 32 dX8_neededBy_23 rfl ?_ ?_
        · exact j_sub [] (lv1 := []) rfl (jxX8_neededBy_32 hg E h)
        · refine j_iload_n E dX8_neededBy_26 0 rfl ?_
          refine j_bipush E (v := 124) dX8_neededBy_27 (by decide) ?_
          refine j_cmp_ne E 36 dX8_neededBy_29 rfl ?_ ?_
          · refine j_iconst E (v := 2) dX8_neededBy_36 (by decide) ?_
            exact j_sub [] (lv1 := []) rfl (jxX8_neededBy_37 hg E 2 h)
          · exact j_sub [] (lv1 := []) rfl (jxX8_neededBy_32 hg E h)
    · exact j_sub [] (lv1 := []) rfl (jxX8_neededBy_12 hg E h)
theorem ok_X8_neededBy {g : GC} (hg : isGX g) (hI : gI g) (a0 : Int32) (h : HP) : Ok g yX8_neededBy mX8_neededBy [.int a0] h (xX8_neededBy a0 h) := Ok.of hI (by decide) rfl (Nat.le_of_ble_eq_true rfl) (fun X E => jxX8_neededBy hg E a0 h)
set_option maxRecDepth 20000 in
set_option maxHeartbeats 4000000 in
theorem jxX8_mostBeside_61 {g : GC} (hg : isGX g) {X : MX} (N : Nat) (E : JE g mX8_mostBeside X) (K4 : Int32 → Int32 → HP → Option (Int32 × HP)) (hK4 : ∀ (a1 : Int32) (a2 : Int32) (h : HP), J g mX8_mostBeside X 4 [(0, .ref (g.2.2.1 43)), (1, .int a1), (2, .int a2)] [] h (K4 a1 a2 h)) (a1 : Int32) (a2 : Int32) (h : HP) : J g mX8_mostBeside X 61 [(0, .ref (g.2.2.1 43)), (1, .int a1), (2, .int a2)] [] h (xX8_mostBeside_61 N K4 a1 a2 h) := by
  unfold xX8_mostBeside_61
  refine j_iinc E (c := 1) dX8_mostBeside_61 2 rfl (by decide) (Nat.le_of_ble_eq_true rfl) (fun v1 => [(2, .int v1), (0, .ref (g.2.2.1 43)), (1, .int a1)]) (fun _ => rfl) (fun v1 => ?_)
  refine j_goto E 4 dX8_mostBeside_64 rfl ?_
  exact j_sub [1, 2, 0] (lv1 := [(0, .ref (g.2.2.1 43)), (1, .int a1), (2, .int v1)]) rfl (hK4 a1 v1 h)
set_option maxRecDepth 20000 in
set_option maxHeartbeats 4000000 in
theorem jxX8_mostBeside_4 {g : GC} (hg : isGX g) {X : MX} (N : Nat) (E : JE g mX8_mostBeside X) : ∀ (n : Nat) (a1 : Int32) (a2 : Int32) (h : HP), J g mX8_mostBeside X 4 [(0, .ref (g.2.2.1 43)), (1, .int a1), (2, .int a2)] [] h (xX8_mostBeside_4 N n a1 a2 h) := by
  intro n
  induction n with
  | zero => intro a1 a2 h; exact j_none
  | succ n ih =>
    intro a1 a2 h
    unfold xX8_mostBeside_4
    refine j_iload_n E dX8_mostBeside_4 2 rfl ?_
    refine j_aload_n E dX8_mostBeside_5 0 rfl ?_
    refine j_getr E f_X8_15 (cX_43 hg) 3 rfl dX8_mostBeside_6 ?_
    refine j_geti E f_X8_74 (cX_3 hg) rfl dX8_mostBeside_9 ?_
    refine j_cmp_ge E 67 dX8_mostBeside_12 rfl ?_ ?_
    · refine j_iload_n E dX8_mostBeside_67 1 rfl ?_
      exact j_ireturn E rfl dX8_mostBeside_68
    · refine j_aload_n E dX8_mostBeside_15 0 rfl ?_
      refine j_getr E f_X8_15 (cX_43 hg) 3 rfl dX8_mostBeside_16 ?_
      refine j_iload_n E dX8_mostBeside_19 2 rfl ?_
      refine j_aload_n E dX8_mostBeside_20 0 rfl ?_
      refine j_geti E f_X8_49 (cX_43 hg) rfl dX8_mostBeside_21 ?_
      refine j_callvI (As := [.int a2, .int (h.1 43 4)]) (st := []) E (ok_X6_across hg E.2.2.2.2.2.2.2.1 a2 (h.1 43 4) h) (cX_3 hg) (cl_X8_159) (⟨Nat.le_of_ble_eq_true rfl, Nat.le_of_ble_eq_true rfl⟩) rfl rfl (Nat.le_of_ble_eq_true rfl) dX8_mostBeside_24 (fun t1 h2 => ?_)
      refine j_istore0_n E dX8_mostBeside_27 (Nat.le_of_ble_eq_true rfl) [(3, .int t1), (0, .ref (g.2.2.1 43)), (1, .int a1), (2, .int a2)] rfl ?_
      refine j_aload_n E dX8_mostBeside_28 1 rfl ?_
      refine j_getk (p := isSt) E f_X8_23 (cX_43 hg) rfl dX8_mostBeside_29 (fun k3 hk3 => ?_)
      refine j_geti E f_X8_77 (cSt hg hk3) rfl dX8_mostBeside_32 ?_
      refine j_iload_n E dX8_mostBeside_35 3 rfl ?_
      refine j_callnI (As := [.int (h2.1 k3 3), .int a2]) (st := []) E (ok_X10_hasBit hg E.2.2.2.2.2.2.2.1 (h2.1 k3 3) a2 h2) (cl_X8_80) (⟨Nat.le_of_ble_eq_true rfl, Nat.le_of_ble_eq_true rfl⟩) rfl rfl (Nat.le_of_ble_eq_true rfl) dX8_mostBeside_36 (fun t4 h5 => ?_)
      refine j_if_eq E 61 dX8_mostBeside_39 rfl ?_ ?_
      · exact j_sub [1, 2, 3] (lv1 := [(0, .ref (g.2.2.1 43)), (1, .int a1), (2, .int a2)]) rfl (jxX8_mostBeside_61 hg N E (xX8_mostBeside_4 N n) ih a1 a2 h5)
      · refine j_iload_n E dX8_mostBeside_42 0 rfl ?_
        refine j_iconst E (v := (-1)) dX8_mostBeside_43 (by decide) ?_
        refine j_cmp_eq E 61 dX8_mostBeside_44 rfl ?_ ?_
        · exact j_sub [1, 2, 3] (lv1 := [(0, .ref (g.2.2.1 43)), (1, .int a1), (2, .int a2)]) rfl (jxX8_mostBeside_61 hg N E (xX8_mostBeside_4 N n) ih a1 a2 h5)
        · refine j_iload_n E dX8_mostBeside_47 2 rfl ?_
          refine j_aload_n E dX8_mostBeside_48 1 rfl ?_
          refine j_getk (p := isSt) E f_X8_23 (cX_43 hg) rfl dX8_mostBeside_49 (fun k6 hk6 => ?_)
          refine j_getr E f_X8_61 (cSt hg hk6) (k6 + 1) rfl dX8_mostBeside_52 ?_
          refine j_iload_n E dX8_mostBeside_55 0 rfl ?_
          refine j_iald E (cSt1 hg hk6) dX8_mostBeside_56 (fun t7 => ?_)
          refine j_max2 E ml_X8_134 (Nat.le_of_ble_eq_true rfl) (Nat.le_of_ble_eq_true rfl) dX8_mostBeside_57 ?_
          refine j_istore_n E dX8_mostBeside_60 (Nat.le_of_ble_eq_true rfl) (fun v8 => [(1, .int v8), (3, .int t1), (0, .ref (g.2.2.1 43)), (2, .int a2)]) (fun _ => rfl) (fun v8 => ?_)
          exact j_sub [2, 0, 3] (lv1 := [(0, .ref (g.2.2.1 43)), (1, .int v8), (2, .int a2)]) rfl (jxX8_mostBeside_61 hg N E (xX8_mostBeside_4 N n) ih v8 a2 h5)
set_option maxRecDepth 20000 in
set_option maxHeartbeats 4000000 in
theorem jxX8_mostBeside {g : GC} (hg : isGX g) {X : MX} (N : Nat) (E : JE g mX8_mostBeside X) (h : HP) : J g mX8_mostBeside X 0 [(0, .ref (g.2.2.1 43))] [] h (xX8_mostBeside N h) := by
  unfold xX8_mostBeside
  refine j_iconst E (v := 0) dX8_mostBeside_0 (by decide) ?_
  refine j_istore0_n E dX8_mostBeside_1 (Nat.le_of_ble_eq_true rfl) [(1, .int 0), (0, .ref (g.2.2.1 43))] rfl ?_
  refine j_iconst E (v := 0) dX8_mostBeside_2 (by decide) ?_
  refine j_istore0_n E dX8_mostBeside_3 (Nat.le_of_ble_eq_true rfl) [(2, .int 0), (1, .int 0), (0, .ref (g.2.2.1 43))] rfl ?_
  exact j_sub [2, 1, 0] (lv1 := [(0, .ref (g.2.2.1 43)), (1, .int 0), (2, .int 0)]) rfl (jxX8_mostBeside_4 hg N E N 0 0 h)
theorem ok_X8_mostBeside {g : GC} (hg : isGX g) (hI : gI g) (N : Nat) (h : HP) : Ok g yX8_mostBeside mX8_mostBeside [.ref (g.2.2.1 43)] h (xX8_mostBeside N h) := Ok.of hI (by decide) rfl (Nat.le_of_ble_eq_true rfl) (fun X E => jxX8_mostBeside hg N E h)
set_option maxRecDepth 20000 in
set_option maxHeartbeats 4000000 in
theorem jxX8_letter {g : GC} (hg : isGX g) {X : MX} (N : Nat) (E : JE g mX8_letter X) (a1 : Int32) (h : HP) : J g mX8_letter X 0 [(0, .ref (g.2.2.1 43)), (1, .int a1)] [] h (xX8_letter N a1 h) := by
  unfold xX8_letter
  refine j_iload_n E dX8_letter_0 1 rfl ?_
  refine j_tab E 97 184 dX8_letter_1 (by decide) (by decide) rfl rfl ?_ (fun hx97 => ?_)
  · refine j_aload_n E dX8_letter_184 0 rfl ?_
    refine j_getk (p := isSt) E f_X8_23 (cX_43 hg) rfl dX8_letter_185 (fun k1 hk1 => ?_)
    refine j_geti E f_X8_58 (cSt hg hk1) rfl dX8_letter_188 ?_
    refine j_bipush E (v := 100) dX8_letter_191 (by decide) ?_
    refine j_idivc E (by decide) dX8_letter_193 ?_
    exact j_ireturn E rfl dX8_letter_194
  refine j_tab E 99 100 dX8_letter_1 (by decide) (by decide) rfl rfl ?_ (fun hx99 => ?_)
  · refine j_aload_n E dX8_letter_100 0 rfl ?_
    refine j_geti E f_X8_49 (cX_43 hg) rfl dX8_letter_101 ?_
    exact j_ireturn E rfl dX8_letter_104
  refine j_tab E 104 105 dX8_letter_1 (by decide) (by decide) rfl rfl ?_ (fun hx104 => ?_)
  · refine j_aload_n E dX8_letter_105 0 rfl ?_
    refine j_getr E f_X8_15 (cX_43 hg) 3 rfl dX8_letter_106 ?_
    refine j_getr E f_X8_90 (cX_3 hg) 4 rfl dX8_letter_109 ?_
    refine j_aload_n E dX8_letter_112 0 rfl ?_
    refine j_geti E f_X8_49 (cX_43 hg) rfl dX8_letter_113 ?_
    refine j_iald E (cX_4 hg) dX8_letter_116 (fun t2 => ?_)
    exact j_ireturn E rfl dX8_letter_117
  refine j_tab E 109 163 dX8_letter_1 (by decide) (by decide) rfl rfl ?_ (fun hx109 => ?_)
  · refine j_aload_n E dX8_letter_163 0 rfl ?_
    refine j_callvI (As := []) (st := []) E (ok_X8_mostBeside hg E.2.2.2.2.2.2.2.1 N h) (cX_43 hg) (cl_X8_156) (⟨Nat.le_of_ble_eq_true rfl, Nat.le_of_ble_eq_true rfl⟩) rfl rfl (Nat.le_of_ble_eq_true rfl) dX8_letter_164 (fun t3 h4 => ?_)
    exact j_ireturn E rfl dX8_letter_167
  refine j_tab E 110 144 dX8_letter_1 (by decide) (by decide) rfl rfl ?_ (fun hx110 => ?_)
  · refine j_aload_n E dX8_letter_144 0 rfl ?_
    refine j_getr E f_X8_15 (cX_43 hg) 3 rfl dX8_letter_145 ?_
    refine j_aload_n E dX8_letter_148 0 rfl ?_
    refine j_geti E f_X8_49 (cX_43 hg) rfl dX8_letter_149 ?_
    refine j_aload_n E dX8_letter_152 0 rfl ?_
    refine j_getk (p := isSt) E f_X8_23 (cX_43 hg) rfl dX8_letter_153 (fun k5 hk5 => ?_)
    refine j_geti E f_X8_77 (cSt hg hk5) rfl dX8_letter_156 ?_
    refine j_callvI (As := [.int (h.1 43 4), .int (h.1 k5 3)]) (st := []) E (ok_X6_openPipesOf hg E.2.2.2.2.2.2.2.1 N (h.1 43 4) (h.1 k5 3) h) (cX_3 hg) (cl_X8_153) (⟨Nat.le_of_ble_eq_true rfl, Nat.le_of_ble_eq_true rfl⟩) rfl rfl (Nat.le_of_ble_eq_true rfl) dX8_letter_159 (fun t6 h7 => ?_)
    exact j_ireturn E rfl dX8_letter_162
  refine j_tab E 113 168 dX8_letter_1 (by decide) (by decide) rfl rfl ?_ (fun hx113 => ?_)
  · refine j_aload_n E dX8_letter_168 0 rfl ?_
    refine j_getk (p := isSt) E f_X8_23 (cX_43 hg) rfl dX8_letter_169 (fun k8 hk8 => ?_)
    refine j_getr E f_X8_107 (cSt hg hk8) (k8 + 3) rfl dX8_letter_172 ?_
    refine j_aload_n E dX8_letter_175 0 rfl ?_
    refine j_geti E f_X8_49 (cX_43 hg) rfl dX8_letter_176 ?_
    refine j_iald E (cSt3 hg hk8) dX8_letter_179 (fun t9 => ?_)
    refine j_bipush E (v := 100) dX8_letter_180 (by decide) ?_
    refine j_idivc E (by decide) dX8_letter_182 ?_
    exact j_ireturn E rfl dX8_letter_183
  refine j_tab E 115 118 dX8_letter_1 (by decide) (by decide) rfl rfl ?_ (fun hx115 => ?_)
  · refine j_aload_n E dX8_letter_118 0 rfl ?_
    refine j_getk (p := isSt) E f_X8_23 (cX_43 hg) rfl dX8_letter_119 (fun k10 hk10 => ?_)
    refine j_getr E f_X8_61 (cSt hg hk10) (k10 + 1) rfl dX8_letter_122 ?_
    refine j_aload_n E dX8_letter_125 0 rfl ?_
    refine j_geti E f_X8_49 (cX_43 hg) rfl dX8_letter_126 ?_
    refine j_iald E (cSt1 hg hk10) dX8_letter_129 (fun t11 => ?_)
    exact j_ireturn E rfl dX8_letter_130
  refine j_tab E 116 195 dX8_letter_1 (by decide) (by decide) rfl rfl ?_ (fun hx116 => ?_)
  · refine j_aload_n E dX8_letter_195 0 rfl ?_
    refine j_getk (p := isSt) E f_X8_23 (cX_43 hg) rfl dX8_letter_196 (fun k12 hk12 => ?_)
    refine j_geti E f_X8_27 (cSt hg hk12) rfl dX8_letter_199 ?_
    refine j_bipush E (v := 100) dX8_letter_202 (by decide) ?_
    refine j_rem2 E (by decide) dX8_letter_204 ?_
    exact j_ireturn E rfl dX8_letter_205
  refine j_tab E 117 131 dX8_letter_1 (by decide) (by decide) rfl rfl ?_ (fun hx117 => ?_)
  · refine j_aload_n E dX8_letter_131 0 rfl ?_
    refine j_getk (p := isSt) E f_X8_23 (cX_43 hg) rfl dX8_letter_132 (fun k13 hk13 => ?_)
    refine j_getr E f_X8_100 (cSt hg hk13) (k13 + 2) rfl dX8_letter_135 ?_
    refine j_aload_n E dX8_letter_138 0 rfl ?_
    refine j_geti E f_X8_49 (cX_43 hg) rfl dX8_letter_139 ?_
    refine j_iald E (cSt2 hg hk13) dX8_letter_142 (fun t14 => ?_)
    exact j_ireturn E rfl dX8_letter_143
  refine j_tdef E 206 [97, 99, 104, 109, 110, 113, 115, 116, 117] (by intro vq hq; simp only [List.mem_cons, List.not_mem_nil, or_false] at hq; rcases hq with rfl | rfl | rfl | rfl | rfl | rfl | rfl | rfl | rfl <;> assumption) dX8_letter_1 (by decide) (by decide) rfl ?_
  refine j_aload_n E dX8_letter_206 0 rfl ?_
  refine j_geti E f_X8_55 (cX_43 hg) rfl dX8_letter_207 ?_
  exact j_ireturn E rfl dX8_letter_210
theorem ok_X8_letter {g : GC} (hg : isGX g) (hI : gI g) (N : Nat) (a1 : Int32) (h : HP) : Ok g yX8_letter mX8_letter [.ref (g.2.2.1 43), .int a1] h (xX8_letter N a1 h) := Ok.of hI (by decide) rfl (Nat.le_of_ble_eq_true rfl) (fun X E => jxX8_letter hg N E a1 h)
set_option maxRecDepth 20000 in
set_option maxHeartbeats 4000000 in
theorem jxX8_reckon_91 {g : GC} (hg : isGX g) {X : MX} (E : JE g mX8_reckon X) (s0 : Int32) (h : HP) : J g mX8_reckon X 91 [] [.int s0] h (xX8_reckon_91 s0 h) := by
  unfold xX8_reckon_91
  exact j_ireturn E rfl dX8_reckon_91
set_option maxRecDepth 20000 in
set_option maxHeartbeats 4000000 in
theorem jxX8_reckon_103 {g : GC} (hg : isGX g) {X : MX} (E : JE g mX8_reckon X) (s0 : Int32) (h : HP) : J g mX8_reckon X 103 [] [.int s0] h (xX8_reckon_103 s0 h) := by
  unfold xX8_reckon_103
  exact j_ireturn E rfl dX8_reckon_103
set_option maxRecDepth 20000 in
set_option maxHeartbeats 4000000 in
theorem jxX8_reckon_114 {g : GC} (hg : isGX g) {X : MX} (E : JE g mX8_reckon X) (s0 : Int32) (h : HP) : J g mX8_reckon X 114 [] [.int s0] h (xX8_reckon_114 s0 h) := by
  unfold xX8_reckon_114
  exact j_ireturn E rfl dX8_reckon_114
set_option maxRecDepth 20000 in
set_option maxHeartbeats 4000000 in
theorem jxX8_reckon_125 {g : GC} (hg : isGX g) {X : MX} (E : JE g mX8_reckon X) (s0 : Int32) (h : HP) : J g mX8_reckon X 125 [] [.int s0] h (xX8_reckon_125 s0 h) := by
  unfold xX8_reckon_125
  exact j_ireturn E rfl dX8_reckon_125
set_option maxRecDepth 20000 in
set_option maxHeartbeats 4000000 in
theorem jxX8_reckon_136 {g : GC} (hg : isGX g) {X : MX} (E : JE g mX8_reckon X) (s0 : Int32) (h : HP) : J g mX8_reckon X 136 [] [.int s0] h (xX8_reckon_136 s0 h) := by
  unfold xX8_reckon_136
  exact j_ireturn E rfl dX8_reckon_136
set_option maxRecDepth 20000 in
set_option maxHeartbeats 4000000 in
theorem jxX8_reckon {g : GC} (hg : isGX g) {X : MX} (E : JE g mX8_reckon X) (a0 : Int32) (a1 : Int32) (a2 : Int32) (h : HP) : J g mX8_reckon X 0 [(0, .int a0), (1, .int a1), (2, .int a2)] [] h (xX8_reckon a0 a1 a2 h) := by
  unfold xX8_reckon
  refine j_iload_n E dX8_reckon_0 0 rfl ?_
  refine j_look (off := 91) E 37 92 dX8_reckon_1 (by decide) (by decide) rfl ?_ (fun hx37 => ?_)
  · refine j_iload_n E dX8_reckon_92 2 rfl ?_
    refine j_if_ne E 100 dX8_reckon_93 rfl ?_ ?_
    · refine j_iload_n E dX8_reckon_100 1 rfl ?_
      refine j_iload_n E dX8_reckon_101 2 rfl ?_
      refine j_irem E dX8_reckon_102 (fun t1 => ?_)
      exact j_sub [] (lv1 := []) rfl (jxX8_reckon_103 hg E t1 h)
    · refine j_iconst E (v := 0) dX8_reckon_96 (by decide) ?_
      refine j_goto E 103 dX8_reckon_97 rfl ?_
      exact j_sub [] (lv1 := []) rfl (jxX8_reckon_103 hg E 0 h)
  refine j_look (off := 75) E 42 76 dX8_reckon_1 (by decide) (by decide) rfl ?_ (fun hx42 => ?_)
  · refine j_iload_n E dX8_reckon_76 1 rfl ?_
    refine j_iload_n E dX8_reckon_77 2 rfl ?_
    refine j_imul E dX8_reckon_78 ?_
    exact j_ireturn E rfl dX8_reckon_79
  refine j_look (off := 67) E 43 68 dX8_reckon_1 (by decide) (by decide) rfl ?_ (fun hx43 => ?_)
  · refine j_iload_n E dX8_reckon_68 1 rfl ?_
    refine j_iload_n E dX8_reckon_69 2 rfl ?_
    refine j_iadd E dX8_reckon_70 ?_
    exact j_ireturn E rfl dX8_reckon_71
  refine j_look (off := 71) E 45 72 dX8_reckon_1 (by decide) (by decide) rfl ?_ (fun hx45 => ?_)
  · refine j_iload_n E dX8_reckon_72 1 rfl ?_
    refine j_iload_n E dX8_reckon_73 2 rfl ?_
    refine j_isub E dX8_reckon_74 ?_
    exact j_ireturn E rfl dX8_reckon_75
  refine j_look (off := 79) E 47 80 dX8_reckon_1 (by decide) (by decide) rfl ?_ (fun hx47 => ?_)
  · refine j_iload_n E dX8_reckon_80 2 rfl ?_
    refine j_if_ne E 88 dX8_reckon_81 rfl ?_ ?_
    · refine j_iload_n E dX8_reckon_88 1 rfl ?_
      refine j_iload_n E dX8_reckon_89 2 rfl ?_
      refine j_idiv E dX8_reckon_90 (fun t2 => ?_)
      exact j_sub [] (lv1 := []) rfl (jxX8_reckon_91 hg E t2 h)
    · refine j_iconst E (v := 0) dX8_reckon_84 (by decide) ?_
      refine j_goto E 91 dX8_reckon_85 rfl ?_
      exact j_sub [] (lv1 := []) rfl (jxX8_reckon_91 hg E 0 h)
  refine j_look (off := 103) E 60 104 dX8_reckon_1 (by decide) (by decide) rfl ?_ (fun hx60 => ?_)
  · refine j_iload_n E dX8_reckon_104 1 rfl ?_
    refine j_iload_n E dX8_reckon_105 2 rfl ?_
    refine j_cmp_ge E 113 dX8_reckon_106 rfl ?_ ?_
    · refine j_iconst E (v := 0) dX8_reckon_113 (by decide) ?_
      exact j_sub [] (lv1 := []) rfl (jxX8_reckon_114 hg E 0 h)
    · refine j_iconst E (v := 1) dX8_reckon_109 (by decide) ?_
      refine j_goto E 114 dX8_reckon_110 rfl ?_
      exact j_sub [] (lv1 := []) rfl (jxX8_reckon_114 hg E 1 h)
  refine j_look (off := 114) E 62 115 dX8_reckon_1 (by decide) (by decide) rfl ?_ (fun hx62 => ?_)
  · refine j_iload_n E dX8_reckon_115 1 rfl ?_
    refine j_iload_n E dX8_reckon_116 2 rfl ?_
    refine j_cmp_le E 124 dX8_reckon_117 rfl ?_ ?_
    · refine j_iconst E (v := 0) dX8_reckon_124 (by decide) ?_
      exact j_sub [] (lv1 := []) rfl (jxX8_reckon_125 hg E 0 h)
    · refine j_iconst E (v := 1) dX8_reckon_120 (by decide) ?_
      refine j_goto E 125 dX8_reckon_121 rfl ?_
      exact j_sub [] (lv1 := []) rfl (jxX8_reckon_125 hg E 1 h)
  refine j_ldef E 126 [37, 42, 43, 45, 47, 60, 62] (by intro vq hq; simp only [List.mem_cons, List.not_mem_nil, or_false] at hq; rcases hq with rfl | rfl | rfl | rfl | rfl | rfl | rfl <;> assumption) dX8_reckon_1 (by decide) (by decide) rfl ?_
  refine j_iload_n E dX8_reckon_126 1 rfl ?_
  refine j_iload_n E dX8_reckon_127 2 rfl ?_
  refine j_cmp_ne E 135 dX8_reckon_128 rfl ?_ ?_
  · refine j_iconst E (v := 0) dX8_reckon_135 (by decide) ?_
    exact j_sub [] (lv1 := []) rfl (jxX8_reckon_136 hg E 0 h)
  · refine j_iconst E (v := 1) dX8_reckon_131 (by decide) ?_
    refine j_goto E 136 dX8_reckon_132 rfl ?_
    exact j_sub [] (lv1 := []) rfl (jxX8_reckon_136 hg E 1 h)
theorem ok_X8_reckon {g : GC} (hg : isGX g) (hI : gI g) (a0 : Int32) (a1 : Int32) (a2 : Int32) (h : HP) : Ok g yX8_reckon mX8_reckon [.int a0, .int a1, .int a2] h (xX8_reckon a0 a1 a2 h) := Ok.of hI (by decide) rfl (Nat.le_of_ble_eq_true rfl) (fun X E => jxX8_reckon hg E a0 a1 a2 h)
set_option maxRecDepth 20000 in
set_option maxHeartbeats 4000000 in
theorem jxX8_work_67 {g : GC} (hg : isGX g) {X : MX} (N : Nat) (E : JE g mX8_work X) (h : HP) : J g mX8_work X 67 [] [] h (xX8_work_67 N h) := by
  unfold xX8_work_67
  refine j_iconst E (v := 0) dX8_work_67 (by decide) ?_
  exact j_zreturn E rfl dX8_work_68
set_option maxRecDepth 20000 in
set_option maxHeartbeats 4000000 in
theorem jxX8_work_270 {g : GC} (hg : isGX g) {X : MX} (N : Nat) (E : JE g mX8_work X) (K8 : Int32 → Int32 → Int32 → Int32 → HP → Option (Int32 × HP)) (hK8 : ∀ (a2 : Int32) (a3 : Int32) (a4 : Int32) (a5 : Int32) (h : HP), J g mX8_work X 8 [(0, .ref (g.2.2.1 43)), (2, .int a2), (3, .int a3), (4, .int a4), (5, .int a5)] [] h (K8 a2 a3 a4 a5 h)) (a2 : Int32) (a3 : Int32) (a4 : Int32) (a5 : Int32) (h : HP) : J g mX8_work X 270 [(0, .ref (g.2.2.1 43)), (2, .int a2), (3, .int a3), (4, .int a4), (5, .int a5)] [] h (xX8_work_270 N K8 a2 a3 a4 a5 h) := by
  unfold xX8_work_270
  refine j_iinc E (c := 1) dX8_work_270 4 rfl (by decide) (Nat.le_of_ble_eq_true rfl) (fun v1 => [(5, .int v1), (0, .ref (g.2.2.1 43)), (2, .int a2), (3, .int a3), (4, .int a4)]) (fun _ => rfl) (fun v1 => ?_)
  refine j_goto E 8 dX8_work_273 rfl ?_
  exact j_sub [1, 2, 3, 4, 0] (lv1 := [(0, .ref (g.2.2.1 43)), (2, .int a2), (3, .int a3), (4, .int a4), (5, .int v1)]) rfl (hK8 a2 a3 a4 v1 h)
set_option maxRecDepth 20000 in
set_option maxHeartbeats 4000000 in
theorem jxX8_work_106 {g : GC} (hg : isGX g) {X : MX} (N : Nat) (E : JE g mX8_work X) (K8 : Int32 → Int32 → Int32 → Int32 → HP → Option (Int32 × HP)) (hK8 : ∀ (a2 : Int32) (a3 : Int32) (a4 : Int32) (a5 : Int32) (h : HP), J g mX8_work X 8 [(0, .ref (g.2.2.1 43)), (2, .int a2), (3, .int a3), (4, .int a4), (5, .int a5)] [] h (K8 a2 a3 a4 a5 h)) (a2 : Int32) (a3 : Int32) (a4 : Int32) (a5 : Int32) (s1 : Int32) (s2 : Int32) (h : HP) : J g mX8_work X 106 [(0, .ref (g.2.2.1 43)), (2, .int a2), (3, .int a3), (4, .int a4), (5, .int a5)] [.int s2, .int s1, .ref (g.2.2.1 44)] h (xX8_work_106 N K8 a2 a3 a4 a5 s1 s2 h) := by
  unfold xX8_work_106
  refine j_iast E (cX_44 hg) dX8_work_106 (fun h1 => ?_)
  refine j_iinc E (c := 1) dX8_work_107 2 rfl (by decide) (Nat.le_of_ble_eq_true rfl) (fun v2 => [(3, .int v2), (0, .ref (g.2.2.1 43)), (2, .int a2), (4, .int a4), (5, .int a5)]) (fun _ => rfl) (fun v2 => ?_)
  refine j_goto E 270 dX8_work_110 rfl ?_
  exact j_sub [1, 2, 0, 3, 4] (lv1 := [(0, .ref (g.2.2.1 43)), (2, .int a2), (3, .int v2), (4, .int a4), (5, .int a5)]) rfl (jxX8_work_270 hg N E K8 hK8 a2 v2 a4 a5 h1)
set_option maxRecDepth 20000 in
set_option maxHeartbeats 4000000 in
theorem jxX8_work_83 {g : GC} (hg : isGX g) {X : MX} (N : Nat) (E : JE g mX8_work X) (K8 : Int32 → Int32 → Int32 → Int32 → HP → Option (Int32 × HP)) (hK8 : ∀ (a2 : Int32) (a3 : Int32) (a4 : Int32) (a5 : Int32) (h : HP), J g mX8_work X 8 [(0, .ref (g.2.2.1 43)), (2, .int a2), (3, .int a3), (4, .int a4), (5, .int a5)] [] h (K8 a2 a3 a4 a5 h)) (a2 : Int32) (a3 : Int32) (a4 : Int32) (a5 : Int32) (a6 : Int32) (a7 : Int32) (h : HP) : J g mX8_work X 83 [(0, .ref (g.2.2.1 43)), (2, .int a2), (3, .int a3), (4, .int a4), (5, .int a5), (6, .int a6), (7, .int a7)] [] h (xX8_work_83 N K8 a2 a3 a4 a5 a6 a7 h) := by
  unfold xX8_work_83
  refine j_aload_n E dX8_work_83 0 rfl ?_
  refine j_getr E f_X8_9 (cX_43 hg) 44 rfl dX8_work_84 ?_
  refine j_iload_n E dX8_work_87 2 rfl ?_
  refine j_iload E dX8_work_88 5 rfl ?_
  refine j_bipush E (v := 48) dX8_work_90 (by decide) ?_
  refine j_cmp_ne E 100 dX8_work_92 rfl ?_ ?_
  · refine j_aload_n E dX8_work_100 0 rfl ?_
    refine j_iload E dX8_work_101 6 rfl ?_
    refine j_callvI (As := [.int a7]) (st := [.int a3, .ref (g.2.2.1 44)]) E (ok_X8_letter hg E.2.2.2.2.2.2.2.1 N a7 h) (cX_43 hg) (cl_X8_146) (⟨Nat.le_of_ble_eq_true rfl, Nat.le_of_ble_eq_true rfl⟩) rfl rfl (Nat.le_of_ble_eq_true rfl) dX8_work_103 (fun t1 h2 => ?_)
    exact j_sub [0, 1, 2, 3, 4] (lv1 := [(0, .ref (g.2.2.1 43)), (2, .int a2), (3, .int a3), (4, .int a4), (5, .int a5)]) rfl (jxX8_work_106 hg N E K8 hK8 a2 a3 a4 a5 a3 t1 h2)
  · refine j_iload E dX8_work_95 6 rfl ?_
    refine j_goto E 106 dX8_work_97 rfl ?_
    exact j_sub [0, 1, 2, 3, 4] (lv1 := [(0, .ref (g.2.2.1 43)), (2, .int a2), (3, .int a3), (4, .int a4), (5, .int a5)]) rfl (jxX8_work_106 hg N E K8 hK8 a2 a3 a4 a5 a3 a7 h)
set_option maxRecDepth 20000 in
set_option maxHeartbeats 4000000 in
theorem jxX8_work_211 {g : GC} (hg : isGX g) {X : MX} (N : Nat) (E : JE g mX8_work X) (K8 : Int32 → Int32 → Int32 → Int32 → HP → Option (Int32 × HP)) (hK8 : ∀ (a2 : Int32) (a3 : Int32) (a4 : Int32) (a5 : Int32) (h : HP), J g mX8_work X 8 [(0, .ref (g.2.2.1 43)), (2, .int a2), (3, .int a3), (4, .int a4), (5, .int a5)] [] h (K8 a2 a3 a4 a5 h)) (a2 : Int32) (a4 : Int32) (a5 : Int32) (s0 : Int32) (h : HP) : J g mX8_work X 211 [(0, .ref (g.2.2.1 43)), (2, .int a2), (4, .int a4), (5, .int a5)] [.int s0] h (xX8_work_211 N K8 a2 a4 a5 s0 h) := by
  unfold xX8_work_211
  refine j_istore0_n E dX8_work_211 (Nat.le_of_ble_eq_true rfl) [(3, .int s0), (0, .ref (g.2.2.1 43)), (2, .int a2), (4, .int a4), (5, .int a5)] rfl ?_
  refine j_goto E 270 dX8_work_212 rfl ?_
  exact j_sub [1, 2, 0, 3, 4] (lv1 := [(0, .ref (g.2.2.1 43)), (2, .int a2), (3, .int s0), (4, .int a4), (5, .int a5)]) rfl (jxX8_work_270 hg N E K8 hK8 a2 s0 a4 a5 h)
set_option maxRecDepth 20000 in
set_option maxHeartbeats 4000000 in
theorem jxX8_work_197 {g : GC} (hg : isGX g) {X : MX} (N : Nat) (E : JE g mX8_work X) (K8 : Int32 → Int32 → Int32 → Int32 → HP → Option (Int32 × HP)) (hK8 : ∀ (a2 : Int32) (a3 : Int32) (a4 : Int32) (a5 : Int32) (h : HP), J g mX8_work X 8 [(0, .ref (g.2.2.1 43)), (2, .int a2), (3, .int a3), (4, .int a4), (5, .int a5)] [] h (K8 a2 a3 a4 a5 h)) (a2 : Int32) (a3 : Int32) (a5 : Int32) (a8 : Int32) (s0 : Int32) (h : HP) : J g mX8_work X 197 [(0, .ref (g.2.2.1 43)), (2, .int a2), (3, .int a3), (5, .int a5), (8, .int a8)] [.int s0] h (xX8_work_197 N K8 a2 a3 a5 a8 s0 h) := by
  unfold xX8_work_197
  refine j_istore0 E dX8_work_197 (Nat.le_of_ble_eq_true rfl) [(4, .int s0), (0, .ref (g.2.2.1 43)), (2, .int a2), (3, .int a3), (5, .int a5), (8, .int a8)] rfl ?_
  refine j_iload E dX8_work_199 5 rfl ?_
  refine j_if_eq E 208 dX8_work_201 rfl ?_ ?_
  · refine j_iload_n E dX8_work_208 3 rfl ?_
    refine j_iconst E (v := 1) dX8_work_209 (by decide) ?_
    refine j_isub E dX8_work_210 ?_
    exact j_sub [1, 2, 0, 4] (lv1 := [(0, .ref (g.2.2.1 43)), (2, .int a2), (4, .int s0), (5, .int a5)]) rfl (jxX8_work_211 hg N E K8 hK8 a2 s0 a5 (a3 - 1) h)
  · refine j_iload_n E dX8_work_204 3 rfl ?_
    refine j_goto E 211 dX8_work_205 rfl ?_
    exact j_sub [1, 2, 0, 4] (lv1 := [(0, .ref (g.2.2.1 43)), (2, .int a2), (4, .int s0), (5, .int a5)]) rfl (jxX8_work_211 hg N E K8 hK8 a2 s0 a5 a3 h)
set_option maxRecDepth 20000 in
set_option maxHeartbeats 4000000 in
theorem jxX8_work_183 {g : GC} (hg : isGX g) {X : MX} (N : Nat) (E : JE g mX8_work X) (K8 : Int32 → Int32 → Int32 → Int32 → HP → Option (Int32 × HP)) (hK8 : ∀ (a2 : Int32) (a3 : Int32) (a4 : Int32) (a5 : Int32) (h : HP), J g mX8_work X 8 [(0, .ref (g.2.2.1 43)), (2, .int a2), (3, .int a3), (4, .int a4), (5, .int a5)] [] h (K8 a2 a3 a4 a5 h)) (a2 : Int32) (a3 : Int32) (a4 : Int32) (a5 : Int32) (a7 : Int32) (s0 : Int32) (h : HP) : J g mX8_work X 183 [(0, .ref (g.2.2.1 43)), (2, .int a2), (3, .int a3), (4, .int a4), (5, .int a5), (7, .int a7)] [.int s0] h (xX8_work_183 N K8 a2 a3 a4 a5 a7 s0 h) := by
  unfold xX8_work_183
  refine j_istore0 E dX8_work_183 (Nat.le_of_ble_eq_true rfl) [(8, .int s0), (0, .ref (g.2.2.1 43)), (2, .int a2), (3, .int a3), (4, .int a4), (5, .int a5), (7, .int a7)] rfl ?_
  refine j_iload E dX8_work_185 0 rfl ?_
  refine j_if_eq E 195 dX8_work_187 rfl ?_ ?_
  · refine j_iload E dX8_work_195 4 rfl ?_
    exact j_sub [1, 2, 3, 5, 0] (lv1 := [(0, .ref (g.2.2.1 43)), (2, .int a2), (3, .int a3), (5, .int a5), (8, .int s0)]) rfl (jxX8_work_197 hg N E K8 hK8 a2 a3 a5 s0 a4 h)
  · refine j_iload E dX8_work_190 6 rfl ?_
    refine j_goto E 197 dX8_work_192 rfl ?_
    exact j_sub [1, 2, 3, 5, 0] (lv1 := [(0, .ref (g.2.2.1 43)), (2, .int a2), (3, .int a3), (5, .int a5), (8, .int s0)]) rfl (jxX8_work_197 hg N E K8 hK8 a2 a3 a5 s0 a7 h)
set_option maxRecDepth 20000 in
set_option maxHeartbeats 4000000 in
theorem jxX8_work_175 {g : GC} (hg : isGX g) {X : MX} (N : Nat) (E : JE g mX8_work X) (K8 : Int32 → Int32 → Int32 → Int32 → HP → Option (Int32 × HP)) (hK8 : ∀ (a2 : Int32) (a3 : Int32) (a4 : Int32) (a5 : Int32) (h : HP), J g mX8_work X 8 [(0, .ref (g.2.2.1 43)), (2, .int a2), (3, .int a3), (4, .int a4), (5, .int a5)] [] h (K8 a2 a3 a4 a5 h)) (a2 : Int32) (a3 : Int32) (a4 : Int32) (a5 : Int32) (a7 : Int32) (s0 : Int32) (s1 : Int32) (h : HP) : J g mX8_work X 175 [(0, .ref (g.2.2.1 43)), (2, .int a2), (3, .int a3), (4, .int a4), (5, .int a5), (7, .int a7)] [.int s1, .int s0] h (xX8_work_175 N K8 a2 a3 a4 a5 a7 s0 s1 h) := by
  unfold xX8_work_175
  refine j_cmp_ne E 182 dX8_work_175 rfl ?_ ?_
  · refine j_iconst E (v := 0) dX8_work_182 (by decide) ?_
    exact jxX8_work_183 hg N E K8 hK8 a2 a3 a4 a5 a7 0 h
  · refine j_iconst E (v := 1) dX8_work_178 (by decide) ?_
    refine j_goto E 183 dX8_work_179 rfl ?_
    exact jxX8_work_183 hg N E K8 hK8 a2 a3 a4 a5 a7 1 h
set_option maxRecDepth 20000 in
set_option maxHeartbeats 4000000 in
theorem jxX8_work_155 {g : GC} (hg : isGX g) {X : MX} (N : Nat) (E : JE g mX8_work X) (K8 : Int32 → Int32 → Int32 → Int32 → HP → Option (Int32 × HP)) (hK8 : ∀ (a2 : Int32) (a3 : Int32) (a4 : Int32) (a5 : Int32) (h : HP), J g mX8_work X 8 [(0, .ref (g.2.2.1 43)), (2, .int a2), (3, .int a3), (4, .int a4), (5, .int a5)] [] h (K8 a2 a3 a4 a5 h)) (a2 : Int32) (a3 : Int32) (a4 : Int32) (a5 : Int32) (a6 : Int32) (a7 : Int32) (h : HP) : J g mX8_work X 155 [(0, .ref (g.2.2.1 43)), (2, .int a2), (3, .int a3), (4, .int a4), (5, .int a5), (6, .int a6), (7, .int a7)] [] h (xX8_work_155 N K8 a2 a3 a4 a5 a6 a7 h) := by
  unfold xX8_work_155
  refine j_aload_n E dX8_work_155 0 rfl ?_
  refine j_getr E f_X8_9 (cX_43 hg) 44 rfl dX8_work_156 ?_
  refine j_iload_n E dX8_work_159 2 rfl ?_
  refine j_iconst E (v := 1) dX8_work_160 (by decide) ?_
  refine j_isub E dX8_work_161 ?_
  refine j_iald E (cX_44 hg) dX8_work_162 (fun t1 => ?_)
  refine j_iload E dX8_work_163 5 rfl ?_
  refine j_bipush E (v := 38) dX8_work_165 (by decide) ?_
  refine j_cmp_ne E 174 dX8_work_167 rfl ?_ ?_
  · refine j_iconst E (v := 1) dX8_work_174 (by decide) ?_
    exact j_sub [0, 1, 2, 3, 4, 6] (lv1 := [(0, .ref (g.2.2.1 43)), (2, .int a2), (3, .int a3), (4, .int a4), (5, .int a5), (7, .int a7)]) rfl (jxX8_work_175 hg N E K8 hK8 a2 a3 a4 a5 a7 t1 1 h)
  · refine j_iconst E (v := 0) dX8_work_170 (by decide) ?_
    refine j_goto E 175 dX8_work_171 rfl ?_
    exact j_sub [0, 1, 2, 3, 4, 6] (lv1 := [(0, .ref (g.2.2.1 43)), (2, .int a2), (3, .int a3), (4, .int a4), (5, .int a5), (7, .int a7)]) rfl (jxX8_work_175 hg N E K8 hK8 a2 a3 a4 a5 a7 t1 0 h)
set_option maxRecDepth 20000 in
set_option maxHeartbeats 4000000 in
theorem jxX8_work_245 {g : GC} (hg : isGX g) {X : MX} (N : Nat) (E : JE g mX8_work X) (h : HP) : J g mX8_work X 245 [] [] h (xX8_work_245 N h) := by
  unfold xX8_work_245
  refine j_iconst E (v := 0) dX8_work_245 (by decide) ?_
  exact j_zreturn E rfl dX8_work_246
set_option maxRecDepth 20000 in
set_option maxHeartbeats 4000000 in
theorem jxX8_work_247 {g : GC} (hg : isGX g) {X : MX} (N : Nat) (E : JE g mX8_work X) (K8 : Int32 → Int32 → Int32 → Int32 → HP → Option (Int32 × HP)) (hK8 : ∀ (a2 : Int32) (a3 : Int32) (a4 : Int32) (a5 : Int32) (h : HP), J g mX8_work X 8 [(0, .ref (g.2.2.1 43)), (2, .int a2), (3, .int a3), (4, .int a4), (5, .int a5)] [] h (K8 a2 a3 a4 a5 h)) (a2 : Int32) (a3 : Int32) (a4 : Int32) (a5 : Int32) (a6 : Int32) (a8 : Int32) (h : HP) : J g mX8_work X 247 [(0, .ref (g.2.2.1 43)), (2, .int a2), (3, .int a3), (4, .int a4), (5, .int a5), (6, .int a6), (8, .int a8)] [] h (xX8_work_247 N K8 a2 a3 a4 a5 a6 a8 h) := by
  unfold xX8_work_247
  refine j_aload_n E dX8_work_247 0 rfl ?_
  refine j_getr E f_X8_9 (cX_43 hg) 44 rfl dX8_work_248 ?_
  refine j_iload_n E dX8_work_251 2 rfl ?_
  refine j_iconst E (v := 1) dX8_work_252 (by decide) ?_
  refine j_isub E dX8_work_253 ?_
  refine j_iload E dX8_work_254 5 rfl ?_
  refine j_aload_n E dX8_work_256 0 rfl ?_
  refine j_getr E f_X8_9 (cX_43 hg) 44 rfl dX8_work_257 ?_
  refine j_iload_n E dX8_work_260 2 rfl ?_
  refine j_iconst E (v := 1) dX8_work_261 (by decide) ?_
  refine j_isub E dX8_work_262 ?_
  refine j_iald E (cX_44 hg) dX8_work_263 (fun t1 => ?_)
  refine j_iload E dX8_work_264 6 rfl ?_
  refine j_callsI (As := [.int a6, .int t1, .int a8]) (st := [.int (a3 - 1), .ref (g.2.2.1 44)]) E (ok_X8_reckon hg E.2.2.2.2.2.2.2.1 a6 t1 a8 h) (cl_X8_149) (⟨Nat.le_of_ble_eq_true rfl, Nat.le_of_ble_eq_true rfl⟩) rfl rfl (Nat.le_of_ble_eq_true rfl) dX8_work_266 (fun t2 h3 => ?_)
  refine j_iast E (cX_44 hg) dX8_work_269 (fun h4 => ?_)
  exact j_sub [0, 1, 2, 3, 4] (lv1 := [(0, .ref (g.2.2.1 43)), (2, .int a2), (3, .int a3), (4, .int a4), (5, .int a5)]) rfl (jxX8_work_270 hg N E K8 hK8 a2 a3 a4 a5 h4)
set_option maxRecDepth 20000 in
set_option maxHeartbeats 4000000 in
theorem jxX8_work_276 {g : GC} (hg : isGX g) {X : MX} (N : Nat) (E : JE g mX8_work X) (h : HP) : J g mX8_work X 276 [(0, .ref (g.2.2.1 43))] [] h (xX8_work_276 N h) := by
  unfold xX8_work_276
  refine j_aload_n E dX8_work_276 0 rfl ?_
  refine j_aload_n E dX8_work_277 0 rfl ?_
  refine j_getr E f_X8_9 (cX_43 hg) 44 rfl dX8_work_278 ?_
  refine j_iconst E (v := 0) dX8_work_281 (by decide) ?_
  refine j_iald E (cX_44 hg) dX8_work_282 (fun t1 => ?_)
  refine j_puti E fp_X8_128 (cX_43 hg) rfl dX8_work_283 (fun h2 => ?_)
  refine j_iconst E (v := 1) dX8_work_286 (by decide) ?_
  exact j_zreturn E rfl dX8_work_287
set_option maxRecDepth 20000 in
set_option maxHeartbeats 4000000 in
theorem jxX8_work_8 {g : GC} (hg : isGX g) {X : MX} (N : Nat) (E : JE g mX8_work X) : ∀ (n : Nat) (a2 : Int32) (a3 : Int32) (a4 : Int32) (a5 : Int32) (h : HP), J g mX8_work X 8 [(0, .ref (g.2.2.1 43)), (2, .int a2), (3, .int a3), (4, .int a4), (5, .int a5)] [] h (xX8_work_8 N n a2 a3 a4 a5 h) := by
  intro n
  induction n with
  | zero => intro a2 a3 a4 a5 h; exact j_none
  | succ n ih =>
    intro a2 a3 a4 a5 h
    unfold xX8_work_8
    refine j_iload E dX8_work_8 4 rfl ?_
    refine j_sipush E (v := 240) dX8_work_10 (by decide) ?_
    refine j_cmp_ge E 276 dX8_work_13 rfl ?_ ?_
    · exact j_sub [0] (lv1 := [(0, .ref (g.2.2.1 43))]) rfl (jxX8_work_276 hg N E h)
    · refine j_iload E dX8_work_16 3 rfl ?_
      refine j_iload_n E dX8_work_18 1 rfl ?_
      refine j_cmp_ge E 276 dX8_work_19 rfl ?_ ?_
      · exact j_sub [0] (lv1 := [(0, .ref (g.2.2.1 43))]) rfl (jxX8_work_276 hg N E h)
      · refine j_aload_n E dX8_work_22 0 rfl ?_
        refine j_getr E f_X8_19 (cX_43 hg) 13 rfl dX8_work_23 ?_
        refine j_getr E f_X8_137 (cX_13 hg) 14 rfl dX8_work_26 ?_
        refine j_iload E dX8_work_29 3 rfl ?_
        refine j_iald E (cX_14 hg) dX8_work_31 (fun t1 => ?_)
        refine j_istore0 E dX8_work_32 (Nat.le_of_ble_eq_true rfl) [(6, .int t1), (0, .ref (g.2.2.1 43)), (2, .int a2), (3, .int a3), (4, .int a4), (5, .int a5)] rfl ?_
        refine j_aload_n E dX8_work_34 1 rfl ?_
        refine j_getr E f_X8_19 (cX_43 hg) 13 rfl dX8_work_35 ?_
        refine j_getr E f_X8_140 (cX_13 hg) 15 rfl dX8_work_38 ?_
        refine j_iload E dX8_work_41 4 rfl ?_
        refine j_iald E (cX_15 hg) dX8_work_43 (fun t2 => ?_)
        refine j_istore0 E dX8_work_44 (Nat.le_of_ble_eq_true rfl) [(7, .int t2), (6, .int t1), (0, .ref (g.2.2.1 43)), (2, .int a2), (3, .int a3), (4, .int a4), (5, .int a5)] rfl ?_
        refine j_iinc E (c := 1) dX8_work_46 5 rfl (by decide) (Nat.le_of_ble_eq_true rfl) (fun v3 => [(4, .int v3), (7, .int t2), (6, .int t1), (0, .ref (g.2.2.1 43)), (2, .int a2), (3, .int a3), (5, .int a5)]) (fun _ => rfl) (fun v3 => ?_)
        refine j_iload_n E dX8_work_49 5 rfl ?_
        refine j_iload E dX8_work_50 2 rfl ?_
        refine j_callsI (As := [.int t1]) (st := [.int a3]) E (ok_X8_neededBy hg E.2.2.2.2.2.2.2.1 t1 h) (cl_X8_143) (⟨Nat.le_of_ble_eq_true rfl, Nat.le_of_ble_eq_true rfl⟩) rfl rfl (Nat.le_of_ble_eq_true rfl) dX8_work_52 (fun t4 h5 => ?_)
        refine j_cmp_lt E 67 dX8_work_55 rfl ?_ ?_
        · exact j_sub [] (lv1 := []) rfl (jxX8_work_67 hg N E h5)
        · refine j_iload_n E dX8_work_58 5 rfl ?_
          refine j_aload_n E dX8_work_59 3 rfl ?_
          refine j_getr E f_X8_9 (cX_43 hg) 44 rfl dX8_work_60 ?_
          refine j_alen (v := 240) E (cX_44 hg) (by decide) (by decide) dX8_work_63 ?_
          refine j_cmp_lt E 69 dX8_work_64 rfl ?_ ?_
          · refine j_iload E dX8_work_69 2 rfl ?_
            refine j_bipush E (v := 48) dX8_work_71 (by decide) ?_
            refine j_cmp_eq E 83 dX8_work_73 rfl ?_ ?_
            · exact j_sub [3, 4, 5, 0, 6, 2, 1] (lv1 := [(0, .ref (g.2.2.1 43)), (2, .int a2), (3, .int a3), (4, .int v3), (5, .int a5), (6, .int t1), (7, .int t2)]) rfl (jxX8_work_83 hg N E (xX8_work_8 N n) ih a2 a3 v3 a5 t1 t2 h5)
            · refine j_iload E dX8_work_76 2 rfl ?_
              refine j_bipush E (v := 97) dX8_work_78 (by decide) ?_
              refine j_cmp_ne E 113 dX8_work_80 rfl ?_ ?_
              · refine j_iload E dX8_work_113 2 rfl ?_
                refine j_bipush E (v := 33) dX8_work_115 (by decide) ?_
                refine j_cmp_ne E 141 dX8_work_117 rfl ?_ ?_
                · refine j_iload E dX8_work_141 2 rfl ?_
                  refine j_bipush E (v := 38) dX8_work_143 (by decide) ?_
                  refine j_cmp_eq E 155 dX8_work_145 rfl ?_ ?_
                  · exact j_sub [3, 4, 5, 0, 6, 2, 1] (lv1 := [(0, .ref (g.2.2.1 43)), (2, .int a2), (3, .int a3), (4, .int v3), (5, .int a5), (6, .int t1), (7, .int t2)]) rfl (jxX8_work_155 hg N E (xX8_work_8 N n) ih a2 a3 v3 a5 t1 t2 h5)
                  · refine j_iload E dX8_work_148 2 rfl ?_
                    refine j_bipush E (v := 124) dX8_work_150 (by decide) ?_
                    refine j_cmp_ne E 215 dX8_work_152 rfl ?_ ?_
                    · refine j_iinc E (c := (-1)) dX8_work_215 5 rfl (by decide) (Nat.le_of_ble_eq_true rfl) (fun v6 => [(3, .int v6), (4, .int v3), (7, .int t2), (6, .int t1), (0, .ref (g.2.2.1 43)), (2, .int a2), (5, .int a5)]) (fun _ => rfl) (fun v6 => ?_)
                      refine j_aload_n E dX8_work_218 4 rfl ?_
                      refine j_getr E f_X8_9 (cX_43 hg) 44 rfl dX8_work_219 ?_
                      refine j_iload_n E dX8_work_222 0 rfl ?_
                      refine j_iald E (cX_44 hg) dX8_work_223 (fun t7 => ?_)
                      refine j_istore0 E dX8_work_224 (Nat.le_of_ble_eq_true rfl) [(8, .int t7), (3, .int v6), (4, .int v3), (7, .int t2), (6, .int t1), (0, .ref (g.2.2.1 43)), (2, .int a2), (5, .int a5)] rfl ?_
                      refine j_iload E dX8_work_226 0 rfl ?_
                      refine j_if_ne E 247 dX8_work_228 rfl ?_ ?_
                      · exact j_sub [5, 6, 1, 2, 7, 4, 0] (lv1 := [(0, .ref (g.2.2.1 43)), (2, .int a2), (3, .int v6), (4, .int v3), (5, .int a5), (6, .int t1), (8, .int t7)]) rfl (jxX8_work_247 hg N E (xX8_work_8 N n) ih a2 v6 v3 a5 t1 t7 h5)
                      · refine j_iload E dX8_work_231 4 rfl ?_
                        refine j_bipush E (v := 47) dX8_work_233 (by decide) ?_
                        refine j_cmp_eq E 245 dX8_work_235 rfl ?_ ?_
                        · exact j_sub [] (lv1 := []) rfl (jxX8_work_245 hg N E h5)
                        · refine j_iload E dX8_work_238 4 rfl ?_
                          refine j_bipush E (v := 37) dX8_work_240 (by decide) ?_
                          refine j_cmp_ne E 247 dX8_work_242 rfl ?_ ?_
                          · exact j_sub [5, 6, 1, 2, 7, 4, 0] (lv1 := [(0, .ref (g.2.2.1 43)), (2, .int a2), (3, .int v6), (4, .int v3), (5, .int a5), (6, .int t1), (8, .int t7)]) rfl (jxX8_work_247 hg N E (xX8_work_8 N n) ih a2 v6 v3 a5 t1 t7 h5)
                          · exact j_sub [] (lv1 := []) rfl (jxX8_work_245 hg N E h5)
                    · exact j_sub [3, 4, 5, 0, 6, 2, 1] (lv1 := [(0, .ref (g.2.2.1 43)), (2, .int a2), (3, .int a3), (4, .int v3), (5, .int a5), (6, .int t1), (7, .int t2)]) rfl (jxX8_work_155 hg N E (xX8_work_8 N n) ih a2 a3 v3 a5 t1 t2 h5)
                · refine j_aload_n E dX8_work_120 3 rfl ?_
                  refine j_getr E f_X8_9 (cX_43 hg) 44 rfl dX8_work_121 ?_
                  refine j_iload_n E dX8_work_124 5 rfl ?_
                  refine j_iconst E (v := 1) dX8_work_125 (by decide) ?_
                  refine j_isub E dX8_work_126 ?_
                  refine j_iconst E (v := 1) dX8_work_127 (by decide) ?_
                  refine j_aload_n E dX8_work_128 3 rfl ?_
                  refine j_getr E f_X8_9 (cX_43 hg) 44 rfl dX8_work_129 ?_
                  refine j_iload_n E dX8_work_132 5 rfl ?_
                  refine j_iconst E (v := 1) dX8_work_133 (by decide) ?_
                  refine j_isub E dX8_work_134 ?_
                  refine j_iald E (cX_44 hg) dX8_work_135 (fun t8 => ?_)
                  refine j_isub E dX8_work_136 ?_
                  refine j_iast E (cX_44 hg) dX8_work_137 (fun h9 => ?_)
                  refine j_goto E 270 dX8_work_138 rfl ?_
                  exact j_sub [3, 4, 5, 0, 6] (lv1 := [(0, .ref (g.2.2.1 43)), (2, .int a2), (3, .int a3), (4, .int v3), (5, .int a5)]) rfl (jxX8_work_270 hg N E (xX8_work_8 N n) ih a2 a3 v3 a5 h9)
              · exact j_sub [3, 4, 5, 0, 6, 2, 1] (lv1 := [(0, .ref (g.2.2.1 43)), (2, .int a2), (3, .int a3), (4, .int v3), (5, .int a5), (6, .int t1), (7, .int t2)]) rfl (jxX8_work_83 hg N E (xX8_work_8 N n) ih a2 a3 v3 a5 t1 t2 h5)
          · exact j_sub [] (lv1 := []) rfl (jxX8_work_67 hg N E h5)
set_option maxRecDepth 20000 in
set_option maxHeartbeats 4000000 in
theorem jxX8_work {g : GC} (hg : isGX g) {X : MX} (N : Nat) (E : JE g mX8_work X) (a1 : Int32) (a2 : Int32) (h : HP) : J g mX8_work X 0 [(0, .ref (g.2.2.1 43)), (1, .int a1), (2, .int a2)] [] h (xX8_work N a1 a2 h) := by
  unfold xX8_work
  refine j_iconst E (v := 0) dX8_work_0 (by decide) ?_
  refine j_istore0_n E dX8_work_1 (Nat.le_of_ble_eq_true rfl) [(3, .int 0), (0, .ref (g.2.2.1 43)), (1, .int a1), (2, .int a2)] rfl ?_
  refine j_iload_n E dX8_work_2 2 rfl ?_
  refine j_istore0 E dX8_work_3 (Nat.le_of_ble_eq_true rfl) [(4, .int a1), (3, .int 0), (0, .ref (g.2.2.1 43)), (1, .int a1), (2, .int a2)] rfl ?_
  refine j_iconst E (v := 0) dX8_work_5 (by decide) ?_
  refine j_istore0 E dX8_work_6 (Nat.le_of_ble_eq_true rfl) [(5, .int 0), (4, .int a1), (3, .int 0), (0, .ref (g.2.2.1 43)), (1, .int a1), (2, .int a2)] rfl ?_
  exact j_sub [3, 5, 2, 1, 0] (lv1 := [(0, .ref (g.2.2.1 43)), (2, .int a2), (3, .int 0), (4, .int a1), (5, .int 0)]) rfl (jxX8_work_8 hg N E N a2 0 a1 0 h)
theorem ok_X8_work {g : GC} (hg : isGX g) (hI : gI g) (N : Nat) (a1 : Int32) (a2 : Int32) (h : HP) : Ok g yX8_work mX8_work [.ref (g.2.2.1 43), .int a1, .int a2] h (xX8_work N a1 a2 h) := Ok.of hI (by decide) rfl (Nat.le_of_ble_eq_true rfl) (fun X E => jxX8_work hg N E a1 a2 h)
set_option maxRecDepth 20000 in
set_option maxHeartbeats 4000000 in
theorem jxX8_amountOf_114 {g : GC} (hg : isGX g) {X : MX} (N : Nat) (E : JE g mX8_amountOf X) (s0 : Int32) (h : HP) : J g mX8_amountOf X 114 [] [.int s0] h (xX8_amountOf_114 N s0 h) := by
  unfold xX8_amountOf_114
  exact j_ireturn E rfl dX8_amountOf_114
set_option maxRecDepth 20000 in
set_option maxHeartbeats 4000000 in
theorem jxX8_amountOf_115 {g : GC} (hg : isGX g) {X : MX} (N : Nat) (E : JE g mX8_amountOf X) (K2 : Int32 → Int32 → HP → Option (Int32 × HP)) (hK2 : ∀ (a1 : Int32) (a2 : Int32) (h : HP), J g mX8_amountOf X 2 [(0, .ref (g.2.2.1 43)), (1, .int a1), (2, .int a2)] [] h (K2 a1 a2 h)) (a1 : Int32) (a2 : Int32) (h : HP) : J g mX8_amountOf X 115 [(0, .ref (g.2.2.1 43)), (1, .int a1), (2, .int a2)] [] h (xX8_amountOf_115 N K2 a1 a2 h) := by
  unfold xX8_amountOf_115
  refine j_iinc E (c := 1) dX8_amountOf_115 2 rfl (by decide) (Nat.le_of_ble_eq_true rfl) (fun v1 => [(2, .int v1), (0, .ref (g.2.2.1 43)), (1, .int a1)]) (fun _ => rfl) (fun v1 => ?_)
  refine j_goto E 2 dX8_amountOf_118 rfl ?_
  exact j_sub [1, 2, 0] (lv1 := [(0, .ref (g.2.2.1 43)), (1, .int a1), (2, .int v1)]) rfl (hK2 a1 v1 h)
set_option maxRecDepth 20000 in
set_option maxHeartbeats 4000000 in
theorem jxX8_amountOf_31 {g : GC} (hg : isGX g) {X : MX} (N : Nat) (E : JE g mX8_amountOf X) (K2 : Int32 → Int32 → HP → Option (Int32 × HP)) (hK2 : ∀ (a1 : Int32) (a2 : Int32) (h : HP), J g mX8_amountOf X 2 [(0, .ref (g.2.2.1 43)), (1, .int a1), (2, .int a2)] [] h (K2 a1 a2 h)) (a1 : Int32) (a2 : Int32) (s0 : Int32) (h : HP) : J g mX8_amountOf X 31 [(0, .ref (g.2.2.1 43)), (1, .int a1), (2, .int a2)] [.int s0] h (xX8_amountOf_31 N K2 a1 a2 s0 h) := by
  unfold xX8_amountOf_31
  refine j_istore0_n E dX8_amountOf_31 (Nat.le_of_ble_eq_true rfl) [(3, .int s0), (0, .ref (g.2.2.1 43)), (1, .int a1), (2, .int a2)] rfl ?_
  refine j_iload_n E dX8_amountOf_32 0 rfl ?_
  refine j_if_eq E 115 dX8_amountOf_33 rfl ?_ ?_
  · exact j_sub [1, 2, 3] (lv1 := [(0, .ref (g.2.2.1 43)), (1, .int a1), (2, .int a2)]) rfl (jxX8_amountOf_115 hg N E K2 hK2 a1 a2 h)
  · refine j_aload_n E dX8_amountOf_36 1 rfl ?_
    refine j_aload_n E dX8_amountOf_37 1 rfl ?_
    refine j_getr E f_X8_19 (cX_43 hg) 13 rfl dX8_amountOf_38 ?_
    refine j_getr E f_X8_119 (cX_13 hg) 18 rfl dX8_amountOf_41 ?_
    refine j_iload_n E dX8_amountOf_44 3 rfl ?_
    refine j_iald E (cX_18 hg) dX8_amountOf_45 (fun t1 => ?_)
    refine j_aload_n E dX8_amountOf_46 1 rfl ?_
    refine j_getr E f_X8_19 (cX_43 hg) 13 rfl dX8_amountOf_47 ?_
    refine j_getr E f_X8_122 (cX_13 hg) 19 rfl dX8_amountOf_50 ?_
    refine j_iload_n E dX8_amountOf_53 3 rfl ?_
    refine j_iald E (cX_19 hg) dX8_amountOf_54 (fun t2 => ?_)
    refine j_callvI (As := [.int t1, .int t2]) (st := []) E (ok_X8_work hg E.2.2.2.2.2.2.2.1 N t1 t2 h) (cX_43 hg) (cl_X8_125) (⟨Nat.le_of_ble_eq_true rfl, Nat.le_of_ble_eq_true rfl⟩) rfl rfl (Nat.le_of_ble_eq_true rfl) dX8_amountOf_55 (fun t3 h4 => ?_)
    refine j_if_eq E 115 dX8_amountOf_58 rfl ?_ ?_
    · exact j_sub [1, 2, 3] (lv1 := [(0, .ref (g.2.2.1 43)), (1, .int a1), (2, .int a2)]) rfl (jxX8_amountOf_115 hg N E K2 hK2 a1 a2 h4)
    · refine j_aload_n E dX8_amountOf_61 1 rfl ?_
      refine j_geti E f_X8_128 (cX_43 hg) rfl dX8_amountOf_62 ?_
      refine j_if_eq E 115 dX8_amountOf_65 rfl ?_ ?_
      · exact j_sub [1, 2, 3] (lv1 := [(0, .ref (g.2.2.1 43)), (1, .int a1), (2, .int a2)]) rfl (jxX8_amountOf_115 hg N E K2 hK2 a1 a2 h4)
      · refine j_aload_n E dX8_amountOf_68 1 rfl ?_
        refine j_aload_n E dX8_amountOf_69 1 rfl ?_
        refine j_getr E f_X8_19 (cX_43 hg) 13 rfl dX8_amountOf_70 ?_
        refine j_getr E f_X8_131 (cX_13 hg) 17 rfl dX8_amountOf_73 ?_
        refine j_iload_n E dX8_amountOf_76 3 rfl ?_
        refine j_iald E (cX_17 hg) dX8_amountOf_77 (fun t5 => ?_)
        refine j_aload_n E dX8_amountOf_78 1 rfl ?_
        refine j_getr E f_X8_19 (cX_43 hg) 13 rfl dX8_amountOf_79 ?_
        refine j_getr E f_X8_119 (cX_13 hg) 18 rfl dX8_amountOf_82 ?_
        refine j_iload_n E dX8_amountOf_85 3 rfl ?_
        refine j_iald E (cX_18 hg) dX8_amountOf_86 (fun t6 => ?_)
        refine j_callvI (As := [.int t5, .int t6]) (st := []) E (ok_X8_work hg E.2.2.2.2.2.2.2.1 N t5 t6 h4) (cX_43 hg) (cl_X8_125) (⟨Nat.le_of_ble_eq_true rfl, Nat.le_of_ble_eq_true rfl⟩) rfl rfl (Nat.le_of_ble_eq_true rfl) dX8_amountOf_87 (fun t7 h8 => ?_)
        refine j_istore0 E dX8_amountOf_90 (Nat.le_of_ble_eq_true rfl) [(4, .int t7), (3, .int s0), (0, .ref (g.2.2.1 43)), (1, .int a1), (2, .int a2)] rfl ?_
        refine j_iload E dX8_amountOf_92 0 rfl ?_
        refine j_if_eq E 113 dX8_amountOf_94 rfl ?_ ?_
        · refine j_iconst E (v := 0) dX8_amountOf_113 (by decide) ?_
          exact j_sub [] (lv1 := []) rfl (jxX8_amountOf_114 hg N E 0 h8)
        · refine j_iconst E (v := 0) dX8_amountOf_97 (by decide) ?_
          refine j_bipush E (v := 99) dX8_amountOf_98 (by decide) ?_
          refine j_aload_n E dX8_amountOf_100 2 rfl ?_
          refine j_geti E f_X8_128 (cX_43 hg) rfl dX8_amountOf_101 ?_
          refine j_min2 E ml_X8_64 (Nat.le_of_ble_eq_true rfl) (Nat.le_of_ble_eq_true rfl) dX8_amountOf_104 ?_
          refine j_max2 E ml_X8_134 (Nat.le_of_ble_eq_true rfl) (Nat.le_of_ble_eq_true rfl) dX8_amountOf_107 ?_
          refine j_goto E 114 dX8_amountOf_110 rfl ?_
          exact j_sub [] (lv1 := []) rfl (jxX8_amountOf_114 hg N E (imx 0 (imn 99 (h8.1 43 6))) h8)
set_option maxRecDepth 20000 in
set_option maxHeartbeats 4000000 in
theorem jxX8_amountOf_2 {g : GC} (hg : isGX g) {X : MX} (N : Nat) (E : JE g mX8_amountOf X) : ∀ (n : Nat) (a1 : Int32) (a2 : Int32) (h : HP), J g mX8_amountOf X 2 [(0, .ref (g.2.2.1 43)), (1, .int a1), (2, .int a2)] [] h (xX8_amountOf_2 N n a1 a2 h) := by
  intro n
  induction n with
  | zero => intro a1 a2 h; exact j_none
  | succ n ih =>
    intro a1 a2 h
    unfold xX8_amountOf_2
    refine j_iload_n E dX8_amountOf_2 2 rfl ?_
    refine j_aload_n E dX8_amountOf_3 0 rfl ?_
    refine j_getr E f_X8_19 (cX_43 hg) 13 rfl dX8_amountOf_4 ?_
    refine j_geti E f_X8_111 (cX_13 hg) rfl dX8_amountOf_7 ?_
    refine j_cmp_ge E 121 dX8_amountOf_10 rfl ?_ ?_
    · refine j_iconst E (v := 1) dX8_amountOf_121 (by decide) ?_
      exact j_ireturn E rfl dX8_amountOf_122
    · refine j_aload_n E dX8_amountOf_13 0 rfl ?_
      refine j_getr E f_X8_19 (cX_43 hg) 13 rfl dX8_amountOf_14 ?_
      refine j_getr E f_X8_116 (cX_13 hg) 16 rfl dX8_amountOf_17 ?_
      refine j_iload_n E dX8_amountOf_20 2 rfl ?_
      refine j_iald E (cX_16 hg) dX8_amountOf_21 (fun t1 => ?_)
      refine j_iload_n E dX8_amountOf_22 1 rfl ?_
      refine j_cmp_ne E 30 dX8_amountOf_23 rfl ?_ ?_
      · refine j_iconst E (v := 0) dX8_amountOf_30 (by decide) ?_
        exact jxX8_amountOf_31 hg N E (xX8_amountOf_2 N n) ih a1 a2 0 h
      · refine j_iconst E (v := 1) dX8_amountOf_26 (by decide) ?_
        refine j_goto E 31 dX8_amountOf_27 rfl ?_
        exact jxX8_amountOf_31 hg N E (xX8_amountOf_2 N n) ih a1 a2 1 h
set_option maxRecDepth 20000 in
set_option maxHeartbeats 4000000 in
theorem jxX8_amountOf {g : GC} (hg : isGX g) {X : MX} (N : Nat) (E : JE g mX8_amountOf X) (a1 : Int32) (h : HP) : J g mX8_amountOf X 0 [(0, .ref (g.2.2.1 43)), (1, .int a1)] [] h (xX8_amountOf N a1 h) := by
  unfold xX8_amountOf
  refine j_iconst E (v := 0) dX8_amountOf_0 (by decide) ?_
  refine j_istore0_n E dX8_amountOf_1 (Nat.le_of_ble_eq_true rfl) [(2, .int 0), (0, .ref (g.2.2.1 43)), (1, .int a1)] rfl ?_
  exact j_sub [1, 2, 0] (lv1 := [(0, .ref (g.2.2.1 43)), (1, .int a1), (2, .int 0)]) rfl (jxX8_amountOf_2 hg N E N a1 0 h)
theorem ok_X8_amountOf {g : GC} (hg : isGX g) (hI : gI g) (N : Nat) (a1 : Int32) (h : HP) : Ok g yX8_amountOf mX8_amountOf [.ref (g.2.2.1 43), .int a1] h (xX8_amountOf N a1 h) := Ok.of hI (by decide) rfl (Nat.le_of_ble_eq_true rfl) (fun X E => jxX8_amountOf hg N E a1 h)
set_option maxRecDepth 20000 in
set_option maxHeartbeats 4000000 in
theorem jxX8_rise_99 {g : GC} (hg : isGX g) {X : MX} (N : Nat) (E : JE g mX8_rise X) (K2 : Int32 → HP → Option (Int32 × HP)) (hK2 : ∀ (a1 : Int32) (h : HP), J g mX8_rise X 2 [(0, .ref (g.2.2.1 43)), (1, .int a1)] [] h (K2 a1 h)) (a1 : Int32) (h : HP) : J g mX8_rise X 99 [(0, .ref (g.2.2.1 43)), (1, .int a1)] [] h (xX8_rise_99 N K2 a1 h) := by
  unfold xX8_rise_99
  refine j_iinc E (c := 1) dX8_rise_99 1 rfl (by decide) (Nat.le_of_ble_eq_true rfl) (fun v1 => [(1, .int v1), (0, .ref (g.2.2.1 43))]) (fun _ => rfl) (fun v1 => ?_)
  refine j_goto E 2 dX8_rise_102 rfl ?_
  exact j_sub [1, 0] (lv1 := [(0, .ref (g.2.2.1 43)), (1, .int v1)]) rfl (hK2 v1 h)
set_option maxRecDepth 20000 in
set_option maxHeartbeats 4000000 in
theorem jxX8_rise_2 {g : GC} (hg : isGX g) {X : MX} (N : Nat) (E : JE g mX8_rise X) : ∀ (n : Nat) (a1 : Int32) (h : HP), J g mX8_rise X 2 [(0, .ref (g.2.2.1 43)), (1, .int a1)] [] h (xX8_rise_2 N n a1 h) := by
  intro n
  induction n with
  | zero => intro a1 h; exact j_none
  | succ n ih =>
    intro a1 h
    unfold xX8_rise_2
    refine j_iload_n E dX8_rise_2 1 rfl ?_
    refine j_bipush E (v := 16) dX8_rise_3 (by decide) ?_
    refine j_cmp_ge E 105 dX8_rise_5 rfl ?_ ?_
    · exact j_vreturn E rfl dX8_rise_105
    · refine j_aload_n E dX8_rise_8 0 rfl ?_
      refine j_getr E f_X8_15 (cX_43 hg) 3 rfl dX8_rise_9 ?_
      refine j_iload_n E dX8_rise_12 1 rfl ?_
      refine j_callvI (As := [.int a1]) (st := []) E (ok_X6_isTold hg E.2.2.2.2.2.2.2.1 a1 h) (cX_3 hg) (cl_X8_43) (⟨Nat.le_of_ble_eq_true rfl, Nat.le_of_ble_eq_true rfl⟩) rfl rfl (Nat.le_of_ble_eq_true rfl) dX8_rise_13 (fun t1 h2 => ?_)
      refine j_if_ne E 22 dX8_rise_16 rfl ?_ ?_
      · refine j_aload_n E dX8_rise_22 0 rfl ?_
        refine j_iload_n E dX8_rise_23 1 rfl ?_
        refine j_puti E fp_X8_49 (cX_43 hg) rfl dX8_rise_24 (fun h3 => ?_)
        refine j_aload_n E dX8_rise_27 0 rfl ?_
        refine j_aload_n E dX8_rise_28 0 rfl ?_
        refine j_getk (p := isSt) E f_X8_23 (cX_43 hg) rfl dX8_rise_29 (fun k4 hk4 => ?_)
        refine j_callvI (As := []) (st := [.ref (g.2.2.1 43)]) E (ok_X5_drawNumber hg E.2.2.2.2.2.2.2.1 k4 hk4 h3) (cSt hg hk4) (cl_X8_52) (⟨Nat.le_of_ble_eq_true rfl, Nat.le_of_ble_eq_true rfl⟩) rfl rfl (Nat.le_of_ble_eq_true rfl) dX8_rise_32 (fun t5 h6 => ?_)
        refine j_puti E fp_X8_55 (cX_43 hg) rfl dX8_rise_35 (fun h7 => ?_)
        refine j_aload_n E dX8_rise_38 0 rfl ?_
        refine j_getk (p := isSt) E f_X8_23 (cX_43 hg) rfl dX8_rise_39 (fun k8 hk8 => ?_)
        refine j_geti E f_X8_58 (cSt hg hk8) rfl dX8_rise_42 ?_
        refine j_sipush E (v := 9999) dX8_rise_45 (by decide) ?_
        refine j_aload_n E dX8_rise_48 0 rfl ?_
        refine j_getk (p := isSt) E f_X8_23 (cX_43 hg) rfl dX8_rise_49 (fun k9 hk9 => ?_)
        refine j_getr E f_X8_61 (cSt hg hk9) (k9 + 1) rfl dX8_rise_52 ?_
        refine j_iload_n E dX8_rise_55 1 rfl ?_
        refine j_iald E (cSt1 hg hk9) dX8_rise_56 (fun t10 => ?_)
        refine j_isub E dX8_rise_57 ?_
        refine j_min2 E ml_X8_64 (Nat.le_of_ble_eq_true rfl) (Nat.le_of_ble_eq_true rfl) dX8_rise_58 ?_
        refine j_istore_n E dX8_rise_61 (Nat.le_of_ble_eq_true rfl) (fun v11 => [(2, .int v11), (0, .ref (g.2.2.1 43)), (1, .int a1)]) (fun _ => rfl) (fun v11 => ?_)
        refine j_aload_n E dX8_rise_62 1 rfl ?_
        refine j_bipush E (v := 114) dX8_rise_63 (by decide) ?_
        refine j_callvI (As := [.int 114]) (st := []) E (ok_X8_amountOf hg E.2.2.2.2.2.2.2.1 N 114 h7) (cX_43 hg) (cl_X8_70) (⟨Nat.le_of_ble_eq_true rfl, Nat.le_of_ble_eq_true rfl⟩) rfl rfl (Nat.le_of_ble_eq_true rfl) dX8_rise_65 (fun t12 h13 => ?_)
        refine j_iload_n E dX8_rise_68 0 rfl ?_
        refine j_min2 E ml_X8_64 (Nat.le_of_ble_eq_true rfl) (Nat.le_of_ble_eq_true rfl) dX8_rise_69 ?_
        refine j_istore_n E dX8_rise_72 (Nat.le_of_ble_eq_true rfl) (fun v14 => [(3, .int v14), (2, .int v11), (0, .ref (g.2.2.1 43)), (1, .int a1)]) (fun _ => rfl) (fun v14 => ?_)
        refine j_aload_n E dX8_rise_73 2 rfl ?_
        refine j_getk (p := isSt) E f_X8_23 (cX_43 hg) rfl dX8_rise_74 (fun k15 hk15 => ?_)
        refine j_getr E f_X8_61 (cSt hg hk15) (k15 + 1) rfl dX8_rise_77 ?_
        refine j_iload_n E dX8_rise_80 3 rfl ?_
        refine j_dup2 E dX8_rise_81 rfl rfl ?_
        refine j_iald E (cSt1 hg hk15) dX8_rise_82 (fun t16 => ?_)
        refine j_iload_n E dX8_rise_83 0 rfl ?_
        refine j_iadd E dX8_rise_84 ?_
        refine j_iast E (cSt1 hg hk15) dX8_rise_85 (fun h17 => ?_)
        refine j_aload_n E dX8_rise_86 2 rfl ?_
        refine j_getk (p := isSt) E f_X8_23 (cX_43 hg) rfl dX8_rise_87 (fun k18 hk18 => ?_)
        refine j_dup E dX8_rise_90 rfl ?_
        refine j_geti E f_X8_58 (cSt hg hk18) rfl dX8_rise_91 ?_
        refine j_iload_n E dX8_rise_94 0 rfl ?_
        refine j_isub E dX8_rise_95 ?_
        refine j_puti E fp_X8_58 (cSt hg hk18) rfl dX8_rise_96 (fun h19 => ?_)
        exact j_sub [2, 3] (lv1 := [(0, .ref (g.2.2.1 43)), (1, .int a1)]) rfl (jxX8_rise_99 hg N E (xX8_rise_2 N n) ih a1 h19)
      · refine j_goto E 99 dX8_rise_19 rfl ?_
        exact jxX8_rise_99 hg N E (xX8_rise_2 N n) ih a1 h2
set_option maxRecDepth 20000 in
set_option maxHeartbeats 4000000 in
theorem jxX8_rise {g : GC} (hg : isGX g) {X : MX} (N : Nat) (E : JE g mX8_rise X) (h : HP) : J g mX8_rise X 0 [(0, .ref (g.2.2.1 43))] [] h (xX8_rise N h) := by
  unfold xX8_rise
  refine j_iconst E (v := 0) dX8_rise_0 (by decide) ?_
  refine j_istore0_n E dX8_rise_1 (Nat.le_of_ble_eq_true rfl) [(1, .int 0), (0, .ref (g.2.2.1 43))] rfl ?_
  exact j_sub [1, 0] (lv1 := [(0, .ref (g.2.2.1 43)), (1, .int 0)]) rfl (jxX8_rise_2 hg N E N 0 h)
theorem ok_X8_rise {g : GC} (hg : isGX g) (hI : gI g) (N : Nat) (h : HP) : Ok g yX8_rise mX8_rise [.ref (g.2.2.1 43)] h (xX8_rise N h) := Ok.of hI (by decide) rfl (Nat.le_of_ble_eq_true rfl) (fun X E => jxX8_rise hg N E h)
set_option maxRecDepth 20000 in
set_option maxHeartbeats 4000000 in
theorem jxX8_give {g : GC} (hg : isGX g) {X : MX} (E : JE g mX8_give X) (a1 : Int32) (a2 : Int32) (a3 : Int32) (h : HP) : J g mX8_give X 0 [(0, .ref (g.2.2.1 43)), (1, .int a1), (2, .int a2), (3, .int a3)] [] h (xX8_give a1 a2 a3 h) := by
  unfold xX8_give
  refine j_aload_n E dX8_give_0 0 rfl ?_
  refine j_getk (p := isSt) E f_X8_23 (cX_43 hg) rfl dX8_give_1 (fun k1 hk1 => ?_)
  refine j_getr E f_X8_61 (cSt hg hk1) (k1 + 1) rfl dX8_give_4 ?_
  refine j_iload_n E dX8_give_7 1 rfl ?_
  refine j_iald E (cSt1 hg hk1) dX8_give_8 (fun t2 => ?_)
  refine j_sipush E (v := 9999) dX8_give_9 (by decide) ?_
  refine j_aload_n E dX8_give_12 0 rfl ?_
  refine j_getk (p := isSt) E f_X8_23 (cX_43 hg) rfl dX8_give_13 (fun k3 hk3 => ?_)
  refine j_getr E f_X8_61 (cSt hg hk3) (k3 + 1) rfl dX8_give_16 ?_
  refine j_iload_n E dX8_give_19 2 rfl ?_
  refine j_iald E (cSt1 hg hk3) dX8_give_20 (fun t4 => ?_)
  refine j_isub E dX8_give_21 ?_
  refine j_min2 E ml_X8_64 (Nat.le_of_ble_eq_true rfl) (Nat.le_of_ble_eq_true rfl) dX8_give_22 ?_
  refine j_istore E dX8_give_25 (Nat.le_of_ble_eq_true rfl) (fun v5 => [(4, .int v5), (0, .ref (g.2.2.1 43)), (1, .int a1), (2, .int a2), (3, .int a3)]) (fun _ => rfl) (fun v5 => ?_)
  refine j_iload_n E dX8_give_27 4 rfl ?_
  refine j_iload E dX8_give_28 0 rfl ?_
  refine j_min2 E ml_X8_64 (Nat.le_of_ble_eq_true rfl) (Nat.le_of_ble_eq_true rfl) dX8_give_30 ?_
  refine j_istore E dX8_give_33 (Nat.le_of_ble_eq_true rfl) (fun v6 => [(5, .int v6), (4, .int v5), (0, .ref (g.2.2.1 43)), (1, .int a1), (2, .int a2), (3, .int a3)]) (fun _ => rfl) (fun v6 => ?_)
  refine j_aload_n E dX8_give_35 2 rfl ?_
  refine j_getk (p := isSt) E f_X8_23 (cX_43 hg) rfl dX8_give_36 (fun k7 hk7 => ?_)
  refine j_getr E f_X8_61 (cSt hg hk7) (k7 + 1) rfl dX8_give_39 ?_
  refine j_iload_n E dX8_give_42 3 rfl ?_
  refine j_dup2 E dX8_give_43 rfl rfl ?_
  refine j_iald E (cSt1 hg hk7) dX8_give_44 (fun t8 => ?_)
  refine j_iload E dX8_give_45 0 rfl ?_
  refine j_isub E dX8_give_47 ?_
  refine j_iast E (cSt1 hg hk7) dX8_give_48 (fun h9 => ?_)
  refine j_aload_n E dX8_give_49 2 rfl ?_
  refine j_getk (p := isSt) E f_X8_23 (cX_43 hg) rfl dX8_give_50 (fun k10 hk10 => ?_)
  refine j_getr E f_X8_61 (cSt hg hk10) (k10 + 1) rfl dX8_give_53 ?_
  refine j_iload_n E dX8_give_56 4 rfl ?_
  refine j_dup2 E dX8_give_57 rfl rfl ?_
  refine j_iald E (cSt1 hg hk10) dX8_give_58 (fun t11 => ?_)
  refine j_iload E dX8_give_59 0 rfl ?_
  refine j_iadd E dX8_give_61 ?_
  refine j_iast E (cSt1 hg hk10) dX8_give_62 (fun h12 => ?_)
  exact j_vreturn E rfl dX8_give_63
theorem ok_X8_give {g : GC} (hg : isGX g) (hI : gI g) (a1 : Int32) (a2 : Int32) (a3 : Int32) (h : HP) : Ok g yX8_give mX8_give [.ref (g.2.2.1 43), .int a1, .int a2, .int a3] h (xX8_give a1 a2 a3 h) := Ok.of hI (by decide) rfl (Nat.le_of_ble_eq_true rfl) (fun X E => jxX8_give hg E a1 a2 a3 h)
set_option maxRecDepth 20000 in
set_option maxHeartbeats 4000000 in
theorem jxX8_level_144 {g : GC} (hg : isGX g) {X : MX} (N : Nat) (E : JE g mX8_level X) (K2 : Int32 → HP → Option (Int32 × HP)) (hK2 : ∀ (a1 : Int32) (h : HP), J g mX8_level X 2 [(0, .ref (g.2.2.1 43)), (1, .int a1)] [] h (K2 a1 h)) (a1 : Int32) (h : HP) : J g mX8_level X 144 [(0, .ref (g.2.2.1 43)), (1, .int a1)] [] h (xX8_level_144 N K2 a1 h) := by
  unfold xX8_level_144
  refine j_iinc E (c := 1) dX8_level_144 1 rfl (by decide) (Nat.le_of_ble_eq_true rfl) (fun v1 => [(1, .int v1), (0, .ref (g.2.2.1 43))]) (fun _ => rfl) (fun v1 => ?_)
  refine j_goto E 2 dX8_level_147 rfl ?_
  exact j_sub [1, 0] (lv1 := [(0, .ref (g.2.2.1 43)), (1, .int v1)]) rfl (hK2 v1 h)
set_option maxRecDepth 20000 in
set_option maxHeartbeats 4000000 in
theorem jxX8_level_2 {g : GC} (hg : isGX g) {X : MX} (N : Nat) (E : JE g mX8_level X) : ∀ (n : Nat) (a1 : Int32) (h : HP), J g mX8_level X 2 [(0, .ref (g.2.2.1 43)), (1, .int a1)] [] h (xX8_level_2 N n a1 h) := by
  intro n
  induction n with
  | zero => intro a1 h; exact j_none
  | succ n ih =>
    intro a1 h
    unfold xX8_level_2
    refine j_iload_n E dX8_level_2 1 rfl ?_
    refine j_aload_n E dX8_level_3 0 rfl ?_
    refine j_getr E f_X8_15 (cX_43 hg) 3 rfl dX8_level_4 ?_
    refine j_geti E f_X8_74 (cX_3 hg) rfl dX8_level_7 ?_
    refine j_cmp_ge E 150 dX8_level_10 rfl ?_ ?_
    · exact j_vreturn E rfl dX8_level_150
    · refine j_aload_n E dX8_level_13 0 rfl ?_
      refine j_getk (p := isSt) E f_X8_23 (cX_43 hg) rfl dX8_level_14 (fun k1 hk1 => ?_)
      refine j_geti E f_X8_77 (cSt hg hk1) rfl dX8_level_17 ?_
      refine j_iload_n E dX8_level_20 1 rfl ?_
      refine j_callnI (As := [.int (h.1 k1 3), .int a1]) (st := []) E (ok_X10_hasBit hg E.2.2.2.2.2.2.2.1 (h.1 k1 3) a1 h) (cl_X8_80) (⟨Nat.le_of_ble_eq_true rfl, Nat.le_of_ble_eq_true rfl⟩) rfl rfl (Nat.le_of_ble_eq_true rfl) dX8_level_21 (fun t2 h3 => ?_)
      refine j_if_ne E 30 dX8_level_24 rfl ?_ ?_
      · refine j_aload_n E dX8_level_30 0 rfl ?_
        refine j_getr E f_X8_15 (cX_43 hg) 3 rfl dX8_level_31 ?_
        refine j_getr E f_X8_84 (cX_3 hg) 5 rfl dX8_level_34 ?_
        refine j_iload_n E dX8_level_37 1 rfl ?_
        refine j_iald E (cX_5 hg) dX8_level_38 (fun t4 => ?_)
        refine j_istore0_n E dX8_level_39 (Nat.le_of_ble_eq_true rfl) [(2, .int t4), (0, .ref (g.2.2.1 43)), (1, .int a1)] rfl ?_
        refine j_aload_n E dX8_level_40 1 rfl ?_
        refine j_getr E f_X8_15 (cX_43 hg) 3 rfl dX8_level_41 ?_
        refine j_getr E f_X8_87 (cX_3 hg) 6 rfl dX8_level_44 ?_
        refine j_iload_n E dX8_level_47 2 rfl ?_
        refine j_iald E (cX_6 hg) dX8_level_48 (fun t5 => ?_)
        refine j_istore0_n E dX8_level_49 (Nat.le_of_ble_eq_true rfl) [(3, .int t5), (2, .int t4), (0, .ref (g.2.2.1 43)), (1, .int a1)] rfl ?_
        refine j_aload_n E dX8_level_50 2 rfl ?_
        refine j_getr E f_X8_15 (cX_43 hg) 3 rfl dX8_level_51 ?_
        refine j_getr E f_X8_90 (cX_3 hg) 4 rfl dX8_level_54 ?_
        refine j_iload_n E dX8_level_57 1 rfl ?_
        refine j_iald E (cX_4 hg) dX8_level_58 (fun t6 => ?_)
        refine j_aload_n E dX8_level_59 2 rfl ?_
        refine j_getk (p := isSt) E f_X8_23 (cX_43 hg) rfl dX8_level_60 (fun k7 hk7 => ?_)
        refine j_getr E f_X8_61 (cSt hg hk7) (k7 + 1) rfl dX8_level_63 ?_
        refine j_iload_n E dX8_level_66 1 rfl ?_
        refine j_iald E (cSt1 hg hk7) dX8_level_67 (fun t8 => ?_)
        refine j_iadd E dX8_level_68 ?_
        refine j_aload_n E dX8_level_69 2 rfl ?_
        refine j_getr E f_X8_15 (cX_43 hg) 3 rfl dX8_level_70 ?_
        refine j_getr E f_X8_90 (cX_3 hg) 4 rfl dX8_level_73 ?_
        refine j_iload_n E dX8_level_76 0 rfl ?_
        refine j_iald E (cX_4 hg) dX8_level_77 (fun t9 => ?_)
        refine j_isub E dX8_level_78 ?_
        refine j_aload_n E dX8_level_79 2 rfl ?_
        refine j_getk (p := isSt) E f_X8_23 (cX_43 hg) rfl dX8_level_80 (fun k10 hk10 => ?_)
        refine j_getr E f_X8_61 (cSt hg hk10) (k10 + 1) rfl dX8_level_83 ?_
        refine j_iload_n E dX8_level_86 0 rfl ?_
        refine j_iald E (cSt1 hg hk10) dX8_level_87 (fun t11 => ?_)
        refine j_isub E dX8_level_88 ?_
        refine j_istore E dX8_level_89 (Nat.le_of_ble_eq_true rfl) (fun v12 => [(4, .int v12), (3, .int t5), (2, .int t4), (0, .ref (g.2.2.1 43)), (1, .int a1)]) (fun _ => rfl) (fun v12 => ?_)
        refine j_iload E dX8_level_91 0 rfl ?_
        refine j_if_lt E 121 dX8_level_93 rfl ?_ ?_
        · refine j_aload_n E dX8_level_121 3 rfl ?_
          refine j_iload_n E dX8_level_122 1 rfl ?_
          refine j_iload_n E dX8_level_123 2 rfl ?_
          refine j_aload_n E dX8_level_124 3 rfl ?_
          refine j_getr E f_X8_15 (cX_43 hg) 3 rfl dX8_level_125 ?_
          refine j_getr E f_X8_93 (cX_3 hg) 7 rfl dX8_level_128 ?_
          refine j_iload_n E dX8_level_131 4 rfl ?_
          refine j_iald E (cX_7 hg) dX8_level_132 (fun t13 => ?_)
          refine j_iload E dX8_level_133 0 rfl ?_
          refine j_ineg E dX8_level_135 ?_
          refine j_iconst E (v := 2) dX8_level_136 (by decide) ?_
          refine j_idivc E (by decide) dX8_level_137 ?_
          refine j_min2 E ml_X8_64 (Nat.le_of_ble_eq_true rfl) (Nat.le_of_ble_eq_true rfl) dX8_level_138 ?_
          refine j_callvV (As := [.int t5, .int t4, .int (imn t13 ((-v12) / 2))]) (st := []) E (ok_X8_give hg E.2.2.2.2.2.2.2.1 t5 t4 (imn t13 ((-v12) / 2)) h3) (cX_43 hg) (cl_X8_96) (⟨Nat.le_of_ble_eq_true rfl, Nat.le_of_ble_eq_true rfl⟩) rfl rfl (Nat.le_of_ble_eq_true rfl) dX8_level_141 (fun t14 h15 => ?_)
          exact j_sub [3, 4] (lv1 := [(0, .ref (g.2.2.1 43)), (1, .int a1)]) rfl (jxX8_level_144 hg N E (xX8_level_2 N n) ih a1 h15)
        · refine j_aload_n E dX8_level_96 3 rfl ?_
          refine j_iload_n E dX8_level_97 2 rfl ?_
          refine j_iload_n E dX8_level_98 1 rfl ?_
          refine j_aload_n E dX8_level_99 3 rfl ?_
          refine j_getr E f_X8_15 (cX_43 hg) 3 rfl dX8_level_100 ?_
          refine j_getr E f_X8_93 (cX_3 hg) 7 rfl dX8_level_103 ?_
          refine j_iload_n E dX8_level_106 4 rfl ?_
          refine j_iald E (cX_7 hg) dX8_level_107 (fun t16 => ?_)
          refine j_iload E dX8_level_108 0 rfl ?_
          refine j_iconst E (v := 2) dX8_level_110 (by decide) ?_
          refine j_idivc E (by decide) dX8_level_111 ?_
          refine j_min2 E ml_X8_64 (Nat.le_of_ble_eq_true rfl) (Nat.le_of_ble_eq_true rfl) dX8_level_112 ?_
          refine j_callvV (As := [.int t4, .int t5, .int (imn t16 (v12 / 2))]) (st := []) E (ok_X8_give hg E.2.2.2.2.2.2.2.1 t4 t5 (imn t16 (v12 / 2)) h3) (cX_43 hg) (cl_X8_96) (⟨Nat.le_of_ble_eq_true rfl, Nat.le_of_ble_eq_true rfl⟩) rfl rfl (Nat.le_of_ble_eq_true rfl) dX8_level_115 (fun t17 h18 => ?_)
          refine j_goto E 144 dX8_level_118 rfl ?_
          exact j_sub [3, 4] (lv1 := [(0, .ref (g.2.2.1 43)), (1, .int a1)]) rfl (jxX8_level_144 hg N E (xX8_level_2 N n) ih a1 h18)
      · refine j_goto E 144 dX8_level_27 rfl ?_
        exact jxX8_level_144 hg N E (xX8_level_2 N n) ih a1 h3
set_option maxRecDepth 20000 in
set_option maxHeartbeats 4000000 in
theorem jxX8_level {g : GC} (hg : isGX g) {X : MX} (N : Nat) (E : JE g mX8_level X) (h : HP) : J g mX8_level X 0 [(0, .ref (g.2.2.1 43))] [] h (xX8_level N h) := by
  unfold xX8_level
  refine j_iconst E (v := 0) dX8_level_0 (by decide) ?_
  refine j_istore0_n E dX8_level_1 (Nat.le_of_ble_eq_true rfl) [(1, .int 0), (0, .ref (g.2.2.1 43))] rfl ?_
  exact j_sub [1, 0] (lv1 := [(0, .ref (g.2.2.1 43)), (1, .int 0)]) rfl (jxX8_level_2 hg N E N 0 h)
theorem ok_X8_level {g : GC} (hg : isGX g) (hI : gI g) (N : Nat) (h : HP) : Ok g yX8_level mX8_level [.ref (g.2.2.1 43)] h (xX8_level N h) := Ok.of hI (by decide) rfl (Nat.le_of_ble_eq_true rfl) (fun X E => jxX8_level hg N E h)
set_option maxRecDepth 20000 in
set_option maxHeartbeats 4000000 in
theorem jxX8_isFrozen_71 {g : GC} (hg : isGX g) {X : MX} (N : Nat) (E : JE g mX8_isFrozen X) (K2 : Int32 → HP → Option (Int32 × HP)) (hK2 : ∀ (a1 : Int32) (h : HP), J g mX8_isFrozen X 2 [(0, .ref (g.2.2.1 43)), (1, .int a1)] [] h (K2 a1 h)) (a1 : Int32) (h : HP) : J g mX8_isFrozen X 71 [(0, .ref (g.2.2.1 43)), (1, .int a1)] [] h (xX8_isFrozen_71 N K2 a1 h) := by
  unfold xX8_isFrozen_71
  refine j_iinc E (c := 1) dX8_isFrozen_71 1 rfl (by decide) (Nat.le_of_ble_eq_true rfl) (fun v1 => [(1, .int v1), (0, .ref (g.2.2.1 43))]) (fun _ => rfl) (fun v1 => ?_)
  refine j_goto E 2 dX8_isFrozen_74 rfl ?_
  exact j_sub [1, 0] (lv1 := [(0, .ref (g.2.2.1 43)), (1, .int v1)]) rfl (hK2 v1 h)
set_option maxRecDepth 20000 in
set_option maxHeartbeats 4000000 in
theorem jxX8_isFrozen_32 {g : GC} (hg : isGX g) {X : MX} (N : Nat) (E : JE g mX8_isFrozen X) (K2 : Int32 → HP → Option (Int32 × HP)) (hK2 : ∀ (a1 : Int32) (h : HP), J g mX8_isFrozen X 2 [(0, .ref (g.2.2.1 43)), (1, .int a1)] [] h (K2 a1 h)) (a1 : Int32) (s0 : Int32) (h : HP) : J g mX8_isFrozen X 32 [(0, .ref (g.2.2.1 43)), (1, .int a1)] [.int s0] h (xX8_isFrozen_32 N K2 a1 s0 h) := by
  unfold xX8_isFrozen_32
  refine j_istore0_n E dX8_isFrozen_32 (Nat.le_of_ble_eq_true rfl) [(2, .int s0), (0, .ref (g.2.2.1 43)), (1, .int a1)] rfl ?_
  refine j_iload_n E dX8_isFrozen_33 0 rfl ?_
  refine j_if_eq E 71 dX8_isFrozen_34 rfl ?_ ?_
  · exact j_sub [1, 2] (lv1 := [(0, .ref (g.2.2.1 43)), (1, .int a1)]) rfl (jxX8_isFrozen_71 hg N E K2 hK2 a1 h)
  · refine j_aload_n E dX8_isFrozen_37 1 rfl ?_
    refine j_aload_n E dX8_isFrozen_38 1 rfl ?_
    refine j_getr E f_X8_19 (cX_43 hg) 13 rfl dX8_isFrozen_39 ?_
    refine j_getr E f_X8_119 (cX_13 hg) 18 rfl dX8_isFrozen_42 ?_
    refine j_iload_n E dX8_isFrozen_45 2 rfl ?_
    refine j_iald E (cX_18 hg) dX8_isFrozen_46 (fun t1 => ?_)
    refine j_aload_n E dX8_isFrozen_47 1 rfl ?_
    refine j_getr E f_X8_19 (cX_43 hg) 13 rfl dX8_isFrozen_48 ?_
    refine j_getr E f_X8_122 (cX_13 hg) 19 rfl dX8_isFrozen_51 ?_
    refine j_iload_n E dX8_isFrozen_54 2 rfl ?_
    refine j_iald E (cX_19 hg) dX8_isFrozen_55 (fun t2 => ?_)
    refine j_callvI (As := [.int t1, .int t2]) (st := []) E (ok_X8_work hg E.2.2.2.2.2.2.2.1 N t1 t2 h) (cX_43 hg) (cl_X8_125) (⟨Nat.le_of_ble_eq_true rfl, Nat.le_of_ble_eq_true rfl⟩) rfl rfl (Nat.le_of_ble_eq_true rfl) dX8_isFrozen_56 (fun t3 h4 => ?_)
    refine j_if_eq E 71 dX8_isFrozen_59 rfl ?_ ?_
    · exact j_sub [1, 2] (lv1 := [(0, .ref (g.2.2.1 43)), (1, .int a1)]) rfl (jxX8_isFrozen_71 hg N E K2 hK2 a1 h4)
    · refine j_aload_n E dX8_isFrozen_62 1 rfl ?_
      refine j_geti E f_X8_128 (cX_43 hg) rfl dX8_isFrozen_63 ?_
      refine j_if_eq E 71 dX8_isFrozen_66 rfl ?_ ?_
      · exact j_sub [1, 2] (lv1 := [(0, .ref (g.2.2.1 43)), (1, .int a1)]) rfl (jxX8_isFrozen_71 hg N E K2 hK2 a1 h4)
      · refine j_iconst E (v := 1) dX8_isFrozen_69 (by decide) ?_
        exact j_zreturn E rfl dX8_isFrozen_70
set_option maxRecDepth 20000 in
set_option maxHeartbeats 4000000 in
theorem jxX8_isFrozen_2 {g : GC} (hg : isGX g) {X : MX} (N : Nat) (E : JE g mX8_isFrozen X) : ∀ (n : Nat) (a1 : Int32) (h : HP), J g mX8_isFrozen X 2 [(0, .ref (g.2.2.1 43)), (1, .int a1)] [] h (xX8_isFrozen_2 N n a1 h) := by
  intro n
  induction n with
  | zero => intro a1 h; exact j_none
  | succ n ih =>
    intro a1 h
    unfold xX8_isFrozen_2
    refine j_iload_n E dX8_isFrozen_2 1 rfl ?_
    refine j_aload_n E dX8_isFrozen_3 0 rfl ?_
    refine j_getr E f_X8_19 (cX_43 hg) 13 rfl dX8_isFrozen_4 ?_
    refine j_geti E f_X8_111 (cX_13 hg) rfl dX8_isFrozen_7 ?_
    refine j_cmp_ge E 77 dX8_isFrozen_10 rfl ?_ ?_
    · refine j_iconst E (v := 0) dX8_isFrozen_77 (by decide) ?_
      exact j_zreturn E rfl dX8_isFrozen_78
    · refine j_aload_n E dX8_isFrozen_13 0 rfl ?_
      refine j_getr E f_X8_19 (cX_43 hg) 13 rfl dX8_isFrozen_14 ?_
      refine j_getr E f_X8_116 (cX_13 hg) 16 rfl dX8_isFrozen_17 ?_
      refine j_iload_n E dX8_isFrozen_20 1 rfl ?_
      refine j_iald E (cX_16 hg) dX8_isFrozen_21 (fun t1 => ?_)
      refine j_bipush E (v := 120) dX8_isFrozen_22 (by decide) ?_
      refine j_cmp_ne E 31 dX8_isFrozen_24 rfl ?_ ?_
      · refine j_iconst E (v := 0) dX8_isFrozen_31 (by decide) ?_
        exact jxX8_isFrozen_32 hg N E (xX8_isFrozen_2 N n) ih a1 0 h
      · refine j_iconst E (v := 1) dX8_isFrozen_27 (by decide) ?_
        refine j_goto E 32 dX8_isFrozen_28 rfl ?_
        exact jxX8_isFrozen_32 hg N E (xX8_isFrozen_2 N n) ih a1 1 h
set_option maxRecDepth 20000 in
set_option maxHeartbeats 4000000 in
theorem jxX8_isFrozen {g : GC} (hg : isGX g) {X : MX} (N : Nat) (E : JE g mX8_isFrozen X) (h : HP) : J g mX8_isFrozen X 0 [(0, .ref (g.2.2.1 43))] [] h (xX8_isFrozen N h) := by
  unfold xX8_isFrozen
  refine j_iconst E (v := 0) dX8_isFrozen_0 (by decide) ?_
  refine j_istore0_n E dX8_isFrozen_1 (Nat.le_of_ble_eq_true rfl) [(1, .int 0), (0, .ref (g.2.2.1 43))] rfl ?_
  exact j_sub [1, 0] (lv1 := [(0, .ref (g.2.2.1 43)), (1, .int 0)]) rfl (jxX8_isFrozen_2 hg N E N 0 h)
theorem ok_X8_isFrozen {g : GC} (hg : isGX g) (hI : gI g) (N : Nat) (h : HP) : Ok g yX8_isFrozen mX8_isFrozen [.ref (g.2.2.1 43)] h (xX8_isFrozen N h) := Ok.of hI (by decide) rfl (Nat.le_of_ble_eq_true rfl) (fun X E => jxX8_isFrozen hg N E h)
set_option maxRecDepth 20000 in
set_option maxHeartbeats 4000000 in
theorem jxX8_weep_133 {g : GC} (hg : isGX g) {X : MX} (N : Nat) (E : JE g mX8_weep X) (K4 : Int32 → Int32 → HP → Option (Int32 × HP)) (hK4 : ∀ (a1 : Int32) (a2 : Int32) (h : HP), J g mX8_weep X 4 [(0, .ref (g.2.2.1 43)), (1, .int a1), (2, .int a2)] [] h (K4 a1 a2 h)) (a1 : Int32) (a2 : Int32) (h : HP) : J g mX8_weep X 133 [(0, .ref (g.2.2.1 43)), (1, .int a1), (2, .int a2)] [] h (xX8_weep_133 N K4 a1 a2 h) := by
  unfold xX8_weep_133
  refine j_iinc E (c := 1) dX8_weep_133 2 rfl (by decide) (Nat.le_of_ble_eq_true rfl) (fun v1 => [(2, .int v1), (0, .ref (g.2.2.1 43)), (1, .int a1)]) (fun _ => rfl) (fun v1 => ?_)
  refine j_goto E 4 dX8_weep_136 rfl ?_
  exact j_sub [1, 2, 0] (lv1 := [(0, .ref (g.2.2.1 43)), (1, .int a1), (2, .int v1)]) rfl (hK4 a1 v1 h)
set_option maxRecDepth 20000 in
set_option maxHeartbeats 4000000 in
theorem jxX8_weep_4 {g : GC} (hg : isGX g) {X : MX} (N : Nat) (E : JE g mX8_weep X) : ∀ (n : Nat) (a1 : Int32) (a2 : Int32) (h : HP), J g mX8_weep X 4 [(0, .ref (g.2.2.1 43)), (1, .int a1), (2, .int a2)] [] h (xX8_weep_4 N n a1 a2 h) := by
  intro n
  induction n with
  | zero => intro a1 a2 h; exact j_none
  | succ n ih =>
    intro a1 a2 h
    unfold xX8_weep_4
    refine j_iload_n E dX8_weep_4 2 rfl ?_
    refine j_bipush E (v := 16) dX8_weep_5 (by decide) ?_
    refine j_cmp_ge E 139 dX8_weep_7 rfl ?_ ?_
    · refine j_iload_n E dX8_weep_139 1 rfl ?_
      exact j_ireturn E rfl dX8_weep_140
    · refine j_aload_n E dX8_weep_10 0 rfl ?_
      refine j_getr E f_X8_15 (cX_43 hg) 3 rfl dX8_weep_11 ?_
      refine j_iload_n E dX8_weep_14 2 rfl ?_
      refine j_callvI (As := [.int a2]) (st := []) E (ok_X6_isTold hg E.2.2.2.2.2.2.2.1 a2 h) (cX_3 hg) (cl_X8_43) (⟨Nat.le_of_ble_eq_true rfl, Nat.le_of_ble_eq_true rfl⟩) rfl rfl (Nat.le_of_ble_eq_true rfl) dX8_weep_15 (fun t1 h2 => ?_)
      refine j_if_eq E 133 dX8_weep_18 rfl ?_ ?_
      · exact jxX8_weep_133 hg N E (xX8_weep_4 N n) ih a1 a2 h2
      · refine j_aload_n E dX8_weep_21 0 rfl ?_
        refine j_getk (p := isSt) E f_X8_23 (cX_43 hg) rfl dX8_weep_22 (fun k3 hk3 => ?_)
        refine j_getr E f_X8_100 (cSt hg hk3) (k3 + 2) rfl dX8_weep_25 ?_
        refine j_iload_n E dX8_weep_28 2 rfl ?_
        refine j_iald E (cSt2 hg hk3) dX8_weep_29 (fun t4 => ?_)
        refine j_if_ne E 36 dX8_weep_30 rfl ?_ ?_
        · refine j_aload_n E dX8_weep_36 0 rfl ?_
          refine j_iload_n E dX8_weep_37 2 rfl ?_
          refine j_puti E fp_X8_49 (cX_43 hg) rfl dX8_weep_38 (fun h5 => ?_)
          refine j_aload_n E dX8_weep_41 0 rfl ?_
          refine j_aload_n E dX8_weep_42 0 rfl ?_
          refine j_getk (p := isSt) E f_X8_23 (cX_43 hg) rfl dX8_weep_43 (fun k6 hk6 => ?_)
          refine j_callvI (As := []) (st := [.ref (g.2.2.1 43)]) E (ok_X5_drawNumber hg E.2.2.2.2.2.2.2.1 k6 hk6 h5) (cSt hg hk6) (cl_X8_52) (⟨Nat.le_of_ble_eq_true rfl, Nat.le_of_ble_eq_true rfl⟩) rfl rfl (Nat.le_of_ble_eq_true rfl) dX8_weep_46 (fun t7 h8 => ?_)
          refine j_puti E fp_X8_55 (cX_43 hg) rfl dX8_weep_49 (fun h9 => ?_)
          refine j_aload_n E dX8_weep_52 0 rfl ?_
          refine j_callvI (As := []) (st := []) E (ok_X8_isFrozen hg E.2.2.2.2.2.2.2.1 N h9) (cX_43 hg) (cl_X8_103) (⟨Nat.le_of_ble_eq_true rfl, Nat.le_of_ble_eq_true rfl⟩) rfl rfl (Nat.le_of_ble_eq_true rfl) dX8_weep_53 (fun t10 h11 => ?_)
          refine j_if_eq E 62 dX8_weep_56 rfl ?_ ?_
          · refine j_aload_n E dX8_weep_62 0 rfl ?_
            refine j_getk (p := isSt) E f_X8_23 (cX_43 hg) rfl dX8_weep_63 (fun k12 hk12 => ?_)
            refine j_getr E f_X8_100 (cSt hg hk12) (k12 + 2) rfl dX8_weep_66 ?_
            refine j_iload_n E dX8_weep_69 2 rfl ?_
            refine j_iald E (cSt2 hg hk12) dX8_weep_70 (fun t13 => ?_)
            refine j_aload_n E dX8_weep_71 0 rfl ?_
            refine j_bipush E (v := 111) dX8_weep_72 (by decide) ?_
            refine j_callvI (As := [.int 111]) (st := [.int t13]) E (ok_X8_amountOf hg E.2.2.2.2.2.2.2.1 N 111 h11) (cX_43 hg) (cl_X8_70) (⟨Nat.le_of_ble_eq_true rfl, Nat.le_of_ble_eq_true rfl⟩) rfl rfl (Nat.le_of_ble_eq_true rfl) dX8_weep_74 (fun t14 h15 => ?_)
            refine j_imul E dX8_weep_77 ?_
            refine j_aload_n E dX8_weep_78 0 rfl ?_
            refine j_getk (p := isSt) E f_X8_23 (cX_43 hg) rfl dX8_weep_79 (fun k16 hk16 => ?_)
            refine j_getr E f_X8_61 (cSt hg hk16) (k16 + 1) rfl dX8_weep_82 ?_
            refine j_iload_n E dX8_weep_85 2 rfl ?_
            refine j_iald E (cSt1 hg hk16) dX8_weep_86 (fun t17 => ?_)
            refine j_min2 E ml_X8_64 (Nat.le_of_ble_eq_true rfl) (Nat.le_of_ble_eq_true rfl) dX8_weep_87 ?_
            refine j_istore_n E dX8_weep_90 (Nat.le_of_ble_eq_true rfl) (fun v18 => [(3, .int v18), (0, .ref (g.2.2.1 43)), (1, .int a1), (2, .int a2)]) (fun _ => rfl) (fun v18 => ?_)
            refine j_aload_n E dX8_weep_91 1 rfl ?_
            refine j_getk (p := isSt) E f_X8_23 (cX_43 hg) rfl dX8_weep_92 (fun k19 hk19 => ?_)
            refine j_getr E f_X8_61 (cSt hg hk19) (k19 + 1) rfl dX8_weep_95 ?_
            refine j_iload_n E dX8_weep_98 3 rfl ?_
            refine j_dup2 E dX8_weep_99 rfl rfl ?_
            refine j_iald E (cSt1 hg hk19) dX8_weep_100 (fun t20 => ?_)
            refine j_iload_n E dX8_weep_101 0 rfl ?_
            refine j_isub E dX8_weep_102 ?_
            refine j_iast E (cSt1 hg hk19) dX8_weep_103 (fun h21 => ?_)
            refine j_aload_n E dX8_weep_104 1 rfl ?_
            refine j_getk (p := isSt) E f_X8_23 (cX_43 hg) rfl dX8_weep_105 (fun k22 hk22 => ?_)
            refine j_getr E f_X8_107 (cSt hg hk22) (k22 + 3) rfl dX8_weep_108 ?_
            refine j_iload_n E dX8_weep_111 3 rfl ?_
            refine j_ldc E (v := 999999) k_X8_110 dX8_weep_112 ?_
            refine j_aload_n E dX8_weep_114 1 rfl ?_
            refine j_getk (p := isSt) E f_X8_23 (cX_43 hg) rfl dX8_weep_115 (fun k23 hk23 => ?_)
            refine j_getr E f_X8_107 (cSt hg hk23) (k23 + 3) rfl dX8_weep_118 ?_
            refine j_iload_n E dX8_weep_121 3 rfl ?_
            refine j_iald E (cSt3 hg hk23) dX8_weep_122 (fun t24 => ?_)
            refine j_iload_n E dX8_weep_123 0 rfl ?_
            refine j_iadd E dX8_weep_124 ?_
            refine j_min2 E ml_X8_64 (Nat.le_of_ble_eq_true rfl) (Nat.le_of_ble_eq_true rfl) dX8_weep_125 ?_
            refine j_iast E (cSt3 hg hk22) dX8_weep_128 (fun h25 => ?_)
            refine j_iload_n E dX8_weep_129 2 rfl ?_
            refine j_iload_n E dX8_weep_130 0 rfl ?_
            refine j_iadd E dX8_weep_131 ?_
            refine j_istore_n E dX8_weep_132 (Nat.le_of_ble_eq_true rfl) (fun v26 => [(1, .int v26), (3, .int v18), (0, .ref (g.2.2.1 43)), (2, .int a2)]) (fun _ => rfl) (fun v26 => ?_)
            exact j_sub [2, 0, 3] (lv1 := [(0, .ref (g.2.2.1 43)), (1, .int v26), (2, .int a2)]) rfl (jxX8_weep_133 hg N E (xX8_weep_4 N n) ih v26 a2 h25)
          · refine j_goto E 133 dX8_weep_59 rfl ?_
            exact jxX8_weep_133 hg N E (xX8_weep_4 N n) ih a1 a2 h11
        · refine j_goto E 133 dX8_weep_33 rfl ?_
          exact jxX8_weep_133 hg N E (xX8_weep_4 N n) ih a1 a2 h2
set_option maxRecDepth 20000 in
set_option maxHeartbeats 4000000 in
theorem jxX8_weep {g : GC} (hg : isGX g) {X : MX} (N : Nat) (E : JE g mX8_weep X) (h : HP) : J g mX8_weep X 0 [(0, .ref (g.2.2.1 43))] [] h (xX8_weep N h) := by
  unfold xX8_weep
  refine j_iconst E (v := 0) dX8_weep_0 (by decide) ?_
  refine j_istore0_n E dX8_weep_1 (Nat.le_of_ble_eq_true rfl) [(1, .int 0), (0, .ref (g.2.2.1 43))] rfl ?_
  refine j_iconst E (v := 0) dX8_weep_2 (by decide) ?_
  refine j_istore0_n E dX8_weep_3 (Nat.le_of_ble_eq_true rfl) [(2, .int 0), (1, .int 0), (0, .ref (g.2.2.1 43))] rfl ?_
  exact j_sub [2, 1, 0] (lv1 := [(0, .ref (g.2.2.1 43)), (1, .int 0), (2, .int 0)]) rfl (jxX8_weep_4 hg N E N 0 0 h)
theorem ok_X8_weep {g : GC} (hg : isGX g) (hI : gI g) (N : Nat) (h : HP) : Ok g yX8_weep mX8_weep [.ref (g.2.2.1 43)] h (xX8_weep N h) := Ok.of hI (by decide) rfl (Nat.le_of_ble_eq_true rfl) (fun X E => jxX8_weep hg N E h)
set_option maxRecDepth 20000 in
set_option maxHeartbeats 4000000 in
theorem jxX8_pass_63 {g : GC} (hg : isGX g) {X : MX} (N : Nat) (k0 : Nat) (E : JE g mX8_pass X) (hk0 : isSt k0) (a3 : Int32) (h : HP) : J g mX8_pass X 63 [(3, .int a3)] [] h (xX8_pass_63 N k0 a3 h) := by
  unfold xX8_pass_63
  refine j_iload_n E dX8_pass_63 0 rfl ?_
  exact j_ireturn E rfl dX8_pass_64
set_option maxRecDepth 20000 in
set_option maxHeartbeats 4000000 in
theorem jxX8_pass_10 {g : GC} (hg : isGX g) {X : MX} (N : Nat) (k0 : Nat) (E : JE g mX8_pass X) (hk0 : isSt k0) : ∀ (n : Nat) (a1 : Int32) (a3 : Int32) (a4 : Int32) (h : HP), J g mX8_pass X 10 [(0, .ref (g.2.2.1 43)), (1, .int a1), (3, .int a3), (4, .int a4)] [] h (xX8_pass_10 N k0 n a1 a3 a4 h) := by
  intro n
  induction n with
  | zero => intro a1 a3 a4 h; exact j_none
  | succ n ih =>
    intro a1 a3 a4 h
    unfold xX8_pass_10
    refine j_iload E dX8_pass_10 3 rfl ?_
    refine j_iload_n E dX8_pass_12 1 rfl ?_
    refine j_cmp_ge E 63 dX8_pass_13 rfl ?_ ?_
    · exact j_sub [2] (lv1 := [(3, .int a3)]) rfl (jxX8_pass_63 hg N k0 E hk0 a3 h)
    · refine j_aload_n E dX8_pass_16 0 rfl ?_
      refine j_getk (p := isSt) E f_X8_23 (cX_43 hg) rfl dX8_pass_17 (fun k1 hk1 => ?_)
      refine j_geti E f_X8_27 (cSt hg hk1) rfl dX8_pass_20 ?_
      refine j_sipush E (v := 9999) dX8_pass_23 (by decide) ?_
      refine j_cmp_ge E 63 dX8_pass_26 rfl ?_ ?_
      · exact j_sub [2] (lv1 := [(3, .int a3)]) rfl (jxX8_pass_63 hg N k0 E hk0 a3 h)
      · refine j_aload_n E dX8_pass_29 0 rfl ?_
        refine j_callvV (As := []) (st := []) E (ok_X8_rise hg E.2.2.2.2.2.2.2.1 N h) (cX_43 hg) (cl_X8_33) (⟨Nat.le_of_ble_eq_true rfl, Nat.le_of_ble_eq_true rfl⟩) rfl rfl (Nat.le_of_ble_eq_true rfl) dX8_pass_30 (fun t2 h3 => ?_)
        refine j_aload_n E dX8_pass_33 0 rfl ?_
        refine j_callvV (As := []) (st := []) E (ok_X8_level hg E.2.2.2.2.2.2.2.1 N h3) (cX_43 hg) (cl_X8_36) (⟨Nat.le_of_ble_eq_true rfl, Nat.le_of_ble_eq_true rfl⟩) rfl rfl (Nat.le_of_ble_eq_true rfl) dX8_pass_34 (fun t4 h5 => ?_)
        refine j_iload_n E dX8_pass_37 2 rfl ?_
        refine j_aload_n E dX8_pass_38 0 rfl ?_
        refine j_callvI (As := []) (st := [.int a3]) E (ok_X8_weep hg E.2.2.2.2.2.2.2.1 N h5) (cX_43 hg) (cl_X8_39) (⟨Nat.le_of_ble_eq_true rfl, Nat.le_of_ble_eq_true rfl⟩) rfl rfl (Nat.le_of_ble_eq_true rfl) dX8_pass_39 (fun t6 h7 => ?_)
        refine j_iadd E dX8_pass_42 ?_
        refine j_istore_n E dX8_pass_43 (Nat.le_of_ble_eq_true rfl) (fun v8 => [(3, .int v8), (0, .ref (g.2.2.1 43)), (1, .int a1), (4, .int a4)]) (fun _ => rfl) (fun v8 => ?_)
        refine j_aload_n E dX8_pass_44 1 rfl ?_
        refine j_getk (p := isSt) E f_X8_23 (cX_43 hg) rfl dX8_pass_45 (fun k9 hk9 => ?_)
        refine j_dup E dX8_pass_48 rfl ?_
        refine j_geti E f_X8_27 (cSt hg hk9) rfl dX8_pass_49 ?_
        refine j_iconst E (v := 1) dX8_pass_52 (by decide) ?_
        refine j_iadd E dX8_pass_53 ?_
        refine j_puti E fp_X8_27 (cSt hg hk9) rfl dX8_pass_54 (fun h10 => ?_)
        refine j_iinc E (c := 1) dX8_pass_57 3 rfl (by decide) (Nat.le_of_ble_eq_true rfl) (fun v11 => [(4, .int v11), (3, .int v8), (0, .ref (g.2.2.1 43)), (1, .int a1)]) (fun _ => rfl) (fun v11 => ?_)
        refine j_goto E 10 dX8_pass_60 rfl ?_
        exact j_sub [2, 3, 1, 0] (lv1 := [(0, .ref (g.2.2.1 43)), (1, .int a1), (3, .int v8), (4, .int v11)]) rfl (ih a1 v8 v11 h10)
set_option maxRecDepth 20000 in
set_option maxHeartbeats 4000000 in
theorem jxX8_pass {g : GC} (hg : isGX g) {X : MX} (N : Nat) (k0 : Nat) (E : JE g mX8_pass X) (hk0 : isSt k0) (a1 : Int32) (h : HP) : J g mX8_pass X 0 [(0, .ref (g.2.2.1 43)), (1, .int a1), (2, .ref (g.2.2.1 k0))] [] h (xX8_pass N k0 a1 h) := by
  unfold xX8_pass
  refine j_aload_n E dX8_pass_0 0 rfl ?_
  refine j_aload_n E dX8_pass_1 2 rfl ?_
  refine j_putr (v := nI k0) E fp_X8_23 (cX_43 hg) rfl (st_cl hk0) dX8_pass_2 (fun h1 => ?_)
  refine j_iconst E (v := 0) dX8_pass_5 (by decide) ?_
  refine j_istore0_n E dX8_pass_6 (Nat.le_of_ble_eq_true rfl) [(3, .int 0), (0, .ref (g.2.2.1 43)), (1, .int a1), (2, .ref (g.2.2.1 k0))] rfl ?_
  refine j_iconst E (v := 0) dX8_pass_7 (by decide) ?_
  refine j_istore0 E dX8_pass_8 (Nat.le_of_ble_eq_true rfl) [(4, .int 0), (3, .int 0), (0, .ref (g.2.2.1 43)), (1, .int a1), (2, .ref (g.2.2.1 k0))] rfl ?_
  exact j_sub [2, 3, 1, 0] (lv1 := [(0, .ref (g.2.2.1 43)), (1, .int a1), (3, .int 0), (4, .int 0)]) rfl (jxX8_pass_10 hg N k0 E hk0 N a1 0 0 h1)
theorem ok_X8_pass {g : GC} (hg : isGX g) (hI : gI g) (N : Nat) (k0 : Nat) (hk0 : isSt k0) (a1 : Int32) (h : HP) : Ok g yX8_pass mX8_pass [.ref (g.2.2.1 43), .int a1, .ref (g.2.2.1 k0)] h (xX8_pass N k0 a1 h) := Ok.of hI (by decide) rfl (Nat.le_of_ble_eq_true rfl) (fun X E => jxX8_pass hg N k0 E hk0 a1 h)
set_option maxRecDepth 20000 in
set_option maxHeartbeats 4000000 in
theorem jxX9_measureOdds_26 {g : GC} (hg : isGX g) {X : MX} (N : Nat) (E : JE g mX9_measureOdds X) (K2 : Int32 → HP → Option (Int32 × HP)) (hK2 : ∀ (a1 : Int32) (h : HP), J g mX9_measureOdds X 2 [(0, .ref (g.2.2.1 52)), (1, .int a1)] [] h (K2 a1 h)) : ∀ (n : Nat) (a1 : Int32) (a2 : Int32) (h : HP), J g mX9_measureOdds X 26 [(0, .ref (g.2.2.1 52)), (1, .int a1), (2, .int a2)] [] h (xX9_measureOdds_26 N K2 n a1 a2 h) := by
  intro n
  induction n with
  | zero => intro a1 a2 h; exact j_none
  | succ n ih =>
    intro a1 a2 h
    unfold xX9_measureOdds_26
    refine j_iload_n E dX9_measureOdds_26 2 rfl ?_
    refine j_aload_n E dX9_measureOdds_27 0 rfl ?_
    refine j_geti E f_X9_36 (cX_52 hg) rfl dX9_measureOdds_28 ?_
    refine j_cmp_ge E 65 dX9_measureOdds_31 rfl ?_ ?_
    · refine j_iinc E (c := 1) dX9_measureOdds_65 1 rfl (by decide) (Nat.le_of_ble_eq_true rfl) (fun v1 => [(1, .int v1), (0, .ref (g.2.2.1 52)), (2, .int a2)]) (fun _ => rfl) (fun v1 => ?_)
      refine j_goto E 2 dX9_measureOdds_68 rfl ?_
      exact j_sub [1, 0] (lv1 := [(0, .ref (g.2.2.1 52)), (1, .int v1)]) rfl (hK2 v1 h)
    · refine j_aload_n E dX9_measureOdds_34 0 rfl ?_
      refine j_getr E f_X9_15 (cX_52 hg) 54 rfl dX9_measureOdds_35 ?_
      refine j_iload_n E dX9_measureOdds_38 1 rfl ?_
      refine j_bipush E (v := 16) dX9_measureOdds_39 (by decide) ?_
      refine j_imul E dX9_measureOdds_41 ?_
      refine j_iload_n E dX9_measureOdds_42 2 rfl ?_
      refine j_iadd E dX9_measureOdds_43 ?_
      refine j_aload_n E dX9_measureOdds_44 0 rfl ?_
      refine j_getr E f_X9_26 (cX_52 hg) 45 rfl dX9_measureOdds_45 ?_
      refine j_getr E f_X9_72 (cX_45 hg) 47 rfl dX9_measureOdds_48 ?_
      refine j_aload_n E dX9_measureOdds_51 0 rfl ?_
      refine j_getr E f_X9_9 (cX_52 hg) 53 rfl dX9_measureOdds_52 ?_
      refine j_iload_n E dX9_measureOdds_55 2 rfl ?_
      refine j_iald E (cX_53 hg) dX9_measureOdds_56 (fun t2 => ?_)
      refine j_iald E (cX_47 hg) dX9_measureOdds_57 (fun t3 => ?_)
      refine j_iast E (cX_54 hg) dX9_measureOdds_58 (fun h4 => ?_)
      refine j_iinc E (c := 1) dX9_measureOdds_59 2 rfl (by decide) (Nat.le_of_ble_eq_true rfl) (fun v5 => [(2, .int v5), (0, .ref (g.2.2.1 52)), (1, .int a1)]) (fun _ => rfl) (fun v5 => ?_)
      refine j_goto E 26 dX9_measureOdds_62 rfl ?_
      exact j_sub [1, 2, 0] (lv1 := [(0, .ref (g.2.2.1 52)), (1, .int a1), (2, .int v5)]) rfl (ih a1 v5 h4)
set_option maxRecDepth 20000 in
set_option maxHeartbeats 4000000 in
theorem jxX9_measureOdds_2 {g : GC} (hg : isGX g) {X : MX} (N : Nat) (E : JE g mX9_measureOdds X) : ∀ (n : Nat) (a1 : Int32) (h : HP), J g mX9_measureOdds X 2 [(0, .ref (g.2.2.1 52)), (1, .int a1)] [] h (xX9_measureOdds_2 N n a1 h) := by
  intro n
  induction n with
  | zero => intro a1 h; exact j_none
  | succ n ih =>
    intro a1 h
    unfold xX9_measureOdds_2
    refine j_iload_n E dX9_measureOdds_2 1 rfl ?_
    refine j_aload_n E dX9_measureOdds_3 0 rfl ?_
    refine j_geti E f_X9_36 (cX_52 hg) rfl dX9_measureOdds_4 ?_
    refine j_cmp_ge E 71 dX9_measureOdds_7 rfl ?_ ?_
    · exact j_vreturn E rfl dX9_measureOdds_71
    · refine j_aload_n E dX9_measureOdds_10 0 rfl ?_
      refine j_getr E f_X9_26 (cX_52 hg) 45 rfl dX9_measureOdds_11 ?_
      refine j_aload_n E dX9_measureOdds_14 0 rfl ?_
      refine j_getr E f_X9_9 (cX_52 hg) 53 rfl dX9_measureOdds_15 ?_
      refine j_iload_n E dX9_measureOdds_18 1 rfl ?_
      refine j_iald E (cX_53 hg) dX9_measureOdds_19 (fun t1 => ?_)
      refine j_callvI (As := [.int t1]) (st := []) E (ok_X3_measureFrom hg E.2.2.2.2.2.2.2.1 N t1 h) (cX_45 hg) (cl_X9_30) (⟨Nat.le_of_ble_eq_true rfl, Nat.le_of_ble_eq_true rfl⟩) rfl rfl (Nat.le_of_ble_eq_true rfl) dX9_measureOdds_20 (fun t2 h3 => ?_)
      refine j_pop E dX9_measureOdds_23 rfl ?_
      refine j_iconst E (v := 0) dX9_measureOdds_24 (by decide) ?_
      refine j_istore0_n E dX9_measureOdds_25 (Nat.le_of_ble_eq_true rfl) [(2, .int 0), (0, .ref (g.2.2.1 52)), (1, .int a1)] rfl ?_
      exact j_sub [1, 2, 0] (lv1 := [(0, .ref (g.2.2.1 52)), (1, .int a1), (2, .int 0)]) rfl (jxX9_measureOdds_26 hg N E (xX9_measureOdds_2 N n) ih N a1 0 h3)
set_option maxRecDepth 20000 in
set_option maxHeartbeats 4000000 in
theorem jxX9_measureOdds {g : GC} (hg : isGX g) {X : MX} (N : Nat) (E : JE g mX9_measureOdds X) (h : HP) : J g mX9_measureOdds X 0 [(0, .ref (g.2.2.1 52))] [] h (xX9_measureOdds N h) := by
  unfold xX9_measureOdds
  refine j_iconst E (v := 0) dX9_measureOdds_0 (by decide) ?_
  refine j_istore0_n E dX9_measureOdds_1 (Nat.le_of_ble_eq_true rfl) [(1, .int 0), (0, .ref (g.2.2.1 52))] rfl ?_
  exact j_sub [1, 0] (lv1 := [(0, .ref (g.2.2.1 52)), (1, .int 0)]) rfl (jxX9_measureOdds_2 hg N E N 0 h)
theorem ok_X9_measureOdds {g : GC} (hg : isGX g) (hI : gI g) (N : Nat) (h : HP) : Ok g yX9_measureOdds mX9_measureOdds [.ref (g.2.2.1 52)] h (xX9_measureOdds N h) := Ok.of hI (by decide) rfl (Nat.le_of_ble_eq_true rfl) (fun X E => jxX9_measureOdds hg N E h)
set_option maxRecDepth 20000 in
set_option maxHeartbeats 4000000 in
theorem jxX9_costOf {g : GC} (hg : isGX g) {X : MX} (E : JE g mX9_costOf X) (a1 : Int32) (h : HP) : J g mX9_costOf X 0 [(0, .ref (g.2.2.1 52)), (1, .int a1)] [] h (xX9_costOf a1 h) := by
  unfold xX9_costOf
  refine j_aload_n E dX9_costOf_0 0 rfl ?_
  refine j_getr E f_X9_18 (cX_52 hg) 55 rfl dX9_costOf_1 ?_
  refine j_iload_n E dX9_costOf_4 1 rfl ?_
  refine j_iconst E (v := 4) dX9_costOf_5 (by decide) ?_
  refine j_ishr E dX9_costOf_6 ?_
  refine j_lald E (cX_55 hg) dX9_costOf_7 (fun t1 => ?_)
  refine j_iload_n E dX9_costOf_8 1 rfl ?_
  refine j_bipush E (v := 15) dX9_costOf_9 (by decide) ?_
  refine j_iand E dX9_costOf_11 ?_
  refine j_iconst E (v := 2) dX9_costOf_12 (by decide) ?_
  refine j_ishl E dX9_costOf_13 ?_
  refine j_lushr2 E dX9_costOf_14 ?_
  refine j_ldc2 E (v := 15) k_X9_83 dX9_costOf_15 ?_
  refine j_land E dX9_costOf_18 ?_
  refine j_l2i E dX9_costOf_19 ?_
  exact j_ireturn E rfl dX9_costOf_20
theorem ok_X9_costOf {g : GC} (hg : isGX g) (hI : gI g) (a1 : Int32) (h : HP) : Ok g yX9_costOf mX9_costOf [.ref (g.2.2.1 52), .int a1] h (xX9_costOf a1 h) := Ok.of hI (by decide) rfl (Nat.le_of_ble_eq_true rfl) (fun X E => jxX9_costOf hg E a1 h)
set_option maxRecDepth 20000 in
set_option maxHeartbeats 4000000 in
theorem jxX9_leastFor_82 {g : GC} (hg : isGX g) {X : MX} (N : Nat) (E : JE g mX9_leastFor X) (K26 : Int32 → Int32 → Int32 → Int32 → HP → Option (Int32 × HP)) (hK26 : ∀ (a2 : Int32) (a3 : Int32) (a4 : Int32) (a5 : Int32) (h : HP), J g mX9_leastFor X 26 [(0, .ref (g.2.2.1 52)), (2, .int a2), (3, .int a3), (4, .int a4), (5, .int a5)] [] h (K26 a2 a3 a4 a5 h)) (a2 : Int32) (a3 : Int32) (a4 : Int32) (a5 : Int32) (h : HP) : J g mX9_leastFor X 82 [(0, .ref (g.2.2.1 52)), (2, .int a2), (3, .int a3), (4, .int a4), (5, .int a5)] [] h (xX9_leastFor_82 N K26 a2 a3 a4 a5 h) := by
  unfold xX9_leastFor_82
  refine j_iinc E (c := 1) dX9_leastFor_82 4 rfl (by decide) (Nat.le_of_ble_eq_true rfl) (fun v1 => [(5, .int v1), (0, .ref (g.2.2.1 52)), (2, .int a2), (3, .int a3), (4, .int a4)]) (fun _ => rfl) (fun v1 => ?_)
  refine j_goto E 26 dX9_leastFor_85 rfl ?_
  exact j_sub [1, 2, 3, 4, 0] (lv1 := [(0, .ref (g.2.2.1 52)), (2, .int a2), (3, .int a3), (4, .int a4), (5, .int v1)]) rfl (hK26 a2 a3 a4 v1 h)
set_option maxRecDepth 20000 in
set_option maxHeartbeats 4000000 in
theorem jxX9_leastFor_26 {g : GC} (hg : isGX g) {X : MX} (N : Nat) (E : JE g mX9_leastFor X) : ∀ (n : Nat) (a2 : Int32) (a3 : Int32) (a4 : Int32) (a5 : Int32) (h : HP), J g mX9_leastFor X 26 [(0, .ref (g.2.2.1 52)), (2, .int a2), (3, .int a3), (4, .int a4), (5, .int a5)] [] h (xX9_leastFor_26 N n a2 a3 a4 a5 h) := by
  intro n
  induction n with
  | zero => intro a2 a3 a4 a5 h; exact j_none
  | succ n ih =>
    intro a2 a3 a4 a5 h
    unfold xX9_leastFor_26
    refine j_iload E dX9_leastFor_26 4 rfl ?_
    refine j_aload_n E dX9_leastFor_28 0 rfl ?_
    refine j_geti E f_X9_36 (cX_52 hg) rfl dX9_leastFor_29 ?_
    refine j_cmp_ge E 88 dX9_leastFor_32 rfl ?_ ?_
    · refine j_iload E dX9_leastFor_88 3 rfl ?_
      exact j_ireturn E rfl dX9_leastFor_90
    · refine j_iload_n E dX9_leastFor_35 2 rfl ?_
      refine j_iload E dX9_leastFor_36 4 rfl ?_
      refine j_callnI (As := [.int a3, .int a5]) (st := []) E (ok_X10_hasBit hg E.2.2.2.2.2.2.2.1 a3 a5 h) (cl_X9_40) (⟨Nat.le_of_ble_eq_true rfl, Nat.le_of_ble_eq_true rfl⟩) rfl rfl (Nat.le_of_ble_eq_true rfl) dX9_leastFor_38 (fun t1 h2 => ?_)
      refine j_if_eq E 82 dX9_leastFor_41 rfl ?_ ?_
      · exact jxX9_leastFor_82 hg N E (xX9_leastFor_26 N n) ih a2 a3 a4 a5 h2
      · refine j_iload_n E dX9_leastFor_44 2 rfl ?_
        refine j_iconst E (v := 1) dX9_leastFor_45 (by decide) ?_
        refine j_iload E dX9_leastFor_46 4 rfl ?_
        refine j_ishl E dX9_leastFor_48 ?_
        refine j_iconst E (v := (-1)) dX9_leastFor_49 (by decide) ?_
        refine j_ixor E dX9_leastFor_50 ?_
        refine j_iand E dX9_leastFor_51 ?_
        refine j_istore E dX9_leastFor_52 (Nat.le_of_ble_eq_true rfl) (fun v3 => [(6, .int v3), (0, .ref (g.2.2.1 52)), (2, .int a2), (3, .int a3), (4, .int a4), (5, .int a5)]) (fun _ => rfl) (fun v3 => ?_)
        refine j_iload E dX9_leastFor_54 4 rfl ?_
        refine j_aload_n E dX9_leastFor_56 1 rfl ?_
        refine j_getr E f_X9_15 (cX_52 hg) 54 rfl dX9_leastFor_57 ?_
        refine j_iload_n E dX9_leastFor_60 2 rfl ?_
        refine j_bipush E (v := 16) dX9_leastFor_61 (by decide) ?_
        refine j_imul E dX9_leastFor_63 ?_
        refine j_iload E dX9_leastFor_64 5 rfl ?_
        refine j_iadd E dX9_leastFor_66 ?_
        refine j_iald E (cX_54 hg) dX9_leastFor_67 (fun t4 => ?_)
        refine j_aload_n E dX9_leastFor_68 1 rfl ?_
        refine j_iload E dX9_leastFor_69 0 rfl ?_
        refine j_iconst E (v := 1) dX9_leastFor_71 (by decide) ?_
        refine j_ishr E dX9_leastFor_72 ?_
        refine j_callvI (As := [.int (v3 >>> (1 &&& 31))]) (st := [.int t4, .int a4]) E (ok_X9_costOf hg E.2.2.2.2.2.2.2.1 (v3 >>> (1 &&& 31)) h2) (cX_52 hg) (cl_X9_69) (⟨Nat.le_of_ble_eq_true rfl, Nat.le_of_ble_eq_true rfl⟩) rfl rfl (Nat.le_of_ble_eq_true rfl) dX9_leastFor_73 (fun t5 h6 => ?_)
        refine j_iadd E dX9_leastFor_76 ?_
        refine j_min2 E ml_X9_78 (Nat.le_of_ble_eq_true rfl) (Nat.le_of_ble_eq_true rfl) dX9_leastFor_77 ?_
        refine j_istore E dX9_leastFor_80 (Nat.le_of_ble_eq_true rfl) (fun v7 => [(4, .int v7), (6, .int v3), (0, .ref (g.2.2.1 52)), (2, .int a2), (3, .int a3), (5, .int a5)]) (fun _ => rfl) (fun v7 => ?_)
        exact j_sub [2, 3, 4, 0, 5] (lv1 := [(0, .ref (g.2.2.1 52)), (2, .int a2), (3, .int a3), (4, .int v7), (5, .int a5)]) rfl (jxX9_leastFor_82 hg N E (xX9_leastFor_26 N n) ih a2 a3 v7 a5 h6)
set_option maxRecDepth 20000 in
set_option maxHeartbeats 4000000 in
theorem jxX9_leastFor {g : GC} (hg : isGX g) {X : MX} (N : Nat) (E : JE g mX9_leastFor X) (a1 : Int32) (h : HP) : J g mX9_leastFor X 0 [(0, .ref (g.2.2.1 52)), (1, .int a1)] [] h (xX9_leastFor N a1 h) := by
  unfold xX9_leastFor
  refine j_iload_n E dX9_leastFor_0 1 rfl ?_
  refine j_if_ne E 6 dX9_leastFor_1 rfl ?_ ?_
  · refine j_iload_n E dX9_leastFor_6 1 rfl ?_
    refine j_callnI (As := [.int a1]) (st := []) E (ok_X10_lowest hg E.2.2.2.2.2.2.2.1 a1 h) (cl_X9_75) (⟨Nat.le_of_ble_eq_true rfl, Nat.le_of_ble_eq_true rfl⟩) rfl rfl (Nat.le_of_ble_eq_true rfl) dX9_leastFor_7 (fun t1 h2 => ?_)
    refine j_istore0_n E dX9_leastFor_10 (Nat.le_of_ble_eq_true rfl) [(2, .int t1), (0, .ref (g.2.2.1 52)), (1, .int a1)] rfl ?_
    refine j_iload_n E dX9_leastFor_11 2 rfl ?_
    refine j_iload_n E dX9_leastFor_12 2 rfl ?_
    refine j_iconst E (v := 1) dX9_leastFor_13 (by decide) ?_
    refine j_isub E dX9_leastFor_14 ?_
    refine j_iand E dX9_leastFor_15 ?_
    refine j_istore_n E dX9_leastFor_16 (Nat.le_of_ble_eq_true rfl) (fun v3 => [(3, .int v3), (2, .int t1), (0, .ref (g.2.2.1 52)), (1, .int a1)]) (fun _ => rfl) (fun v3 => ?_)
    refine j_bipush E (v := 15) dX9_leastFor_17 (by decide) ?_
    refine j_istore0 E dX9_leastFor_19 (Nat.le_of_ble_eq_true rfl) [(4, .int 15), (3, .int v3), (2, .int t1), (0, .ref (g.2.2.1 52)), (1, .int a1)] rfl ?_
    refine j_iload_n E dX9_leastFor_21 2 rfl ?_
    refine j_iconst E (v := 1) dX9_leastFor_22 (by decide) ?_
    refine j_iadd E dX9_leastFor_23 ?_
    refine j_istore E dX9_leastFor_24 (Nat.le_of_ble_eq_true rfl) (fun v4 => [(5, .int v4), (4, .int 15), (3, .int v3), (2, .int t1), (0, .ref (g.2.2.1 52)), (1, .int a1)]) (fun _ => rfl) (fun v4 => ?_)
    exact j_sub [4, 3, 2, 1, 0] (lv1 := [(0, .ref (g.2.2.1 52)), (2, .int t1), (3, .int v3), (4, .int 15), (5, .int v4)]) rfl (jxX9_leastFor_26 hg N E N t1 v3 15 v4 h2)
  · refine j_iconst E (v := 0) dX9_leastFor_4 (by decide) ?_
    exact j_ireturn E rfl dX9_leastFor_5
theorem ok_X9_leastFor {g : GC} (hg : isGX g) (hI : gI g) (N : Nat) (a1 : Int32) (h : HP) : Ok g yX9_leastFor mX9_leastFor [.ref (g.2.2.1 52), .int a1] h (xX9_leastFor N a1 h) := Ok.of hI (by decide) rfl (Nat.le_of_ble_eq_true rfl) (fun X E => jxX9_leastFor hg N E a1 h)
set_option maxRecDepth 20000 in
set_option maxHeartbeats 4000000 in
theorem jxX9_setCost {g : GC} (hg : isGX g) {X : MX} (E : JE g mX9_setCost X) (a1 : Int32) (a2 : Int32) (h : HP) : J g mX9_setCost X 0 [(0, .ref (g.2.2.1 52)), (1, .int a1), (2, .int a2)] [] h (xX9_setCost a1 a2 h) := by
  unfold xX9_setCost
  refine j_iload_n E dX9_setCost_0 1 rfl ?_
  refine j_bipush E (v := 15) dX9_setCost_1 (by decide) ?_
  refine j_iand E dX9_setCost_3 ?_
  refine j_iconst E (v := 2) dX9_setCost_4 (by decide) ?_
  refine j_ishl E dX9_setCost_5 ?_
  refine j_istore_n E dX9_setCost_6 (Nat.le_of_ble_eq_true rfl) (fun v1 => [(3, .int v1), (0, .ref (g.2.2.1 52)), (1, .int a1), (2, .int a2)]) (fun _ => rfl) (fun v1 => ?_)
  refine j_aload_n E dX9_setCost_7 1 rfl ?_
  refine j_getr E f_X9_18 (cX_52 hg) 55 rfl dX9_setCost_8 ?_
  refine j_iload_n E dX9_setCost_11 2 rfl ?_
  refine j_iconst E (v := 4) dX9_setCost_12 (by decide) ?_
  refine j_ishr E dX9_setCost_13 ?_
  refine j_aload_n E dX9_setCost_14 1 rfl ?_
  refine j_getr E f_X9_18 (cX_52 hg) 55 rfl dX9_setCost_15 ?_
  refine j_iload_n E dX9_setCost_18 2 rfl ?_
  refine j_iconst E (v := 4) dX9_setCost_19 (by decide) ?_
  refine j_ishr E dX9_setCost_20 ?_
  refine j_lald E (cX_55 hg) dX9_setCost_21 (fun t2 => ?_)
  refine j_ldc2 E (v := 15) k_X9_83 dX9_setCost_22 ?_
  refine j_iload_n E dX9_setCost_25 0 rfl ?_
  refine j_lshl E dX9_setCost_26 ?_
  refine j_ldc2 E (v := (-1)) k_X9_85 dX9_setCost_27 ?_
  refine j_lxor E dX9_setCost_30 ?_
  refine j_land E dX9_setCost_31 ?_
  refine j_iload_n E dX9_setCost_32 3 rfl ?_
  refine j_i2l E dX9_setCost_33 ?_
  refine j_iload_n E dX9_setCost_34 0 rfl ?_
  refine j_lshl E dX9_setCost_35 ?_
  refine j_lor E dX9_setCost_36 ?_
  refine j_last E (cX_55 hg) (uL_X hg) dX9_setCost_37 (fun h3 => ?_)
  exact j_vreturn E rfl dX9_setCost_38
theorem ok_X9_setCost {g : GC} (hg : isGX g) (hI : gI g) (a1 : Int32) (a2 : Int32) (h : HP) : Ok g yX9_setCost mX9_setCost [.ref (g.2.2.1 52), .int a1, .int a2] h (xX9_setCost a1 a2 h) := Ok.of hI (by decide) rfl (Nat.le_of_ble_eq_true rfl) (fun X E => jxX9_setCost hg E a1 a2 h)
set_option maxRecDepth 20000 in
set_option maxHeartbeats 4000000 in
theorem jxX9_pairUp_81 {g : GC} (hg : isGX g) {X : MX} (N : Nat) (E : JE g mX9_pairUp X) (K15 : Int32 → Int32 → HP → Option (Int32 × HP)) (hK15 : ∀ (a1 : Int32) (a2 : Int32) (h : HP), J g mX9_pairUp X 15 [(0, .ref (g.2.2.1 52)), (1, .int a1), (2, .int a2)] [] h (K15 a1 a2 h)) (a1 : Int32) (a2 : Int32) (h : HP) : J g mX9_pairUp X 81 [(0, .ref (g.2.2.1 52)), (1, .int a1), (2, .int a2)] [] h (xX9_pairUp_81 N K15 a1 a2 h) := by
  unfold xX9_pairUp_81
  refine j_iinc E (c := 1) dX9_pairUp_81 2 rfl (by decide) (Nat.le_of_ble_eq_true rfl) (fun v1 => [(2, .int v1), (0, .ref (g.2.2.1 52)), (1, .int a1)]) (fun _ => rfl) (fun v1 => ?_)
  refine j_goto E 15 dX9_pairUp_84 rfl ?_
  exact j_sub [1, 2, 0] (lv1 := [(0, .ref (g.2.2.1 52)), (1, .int a1), (2, .int v1)]) rfl (hK15 a1 v1 h)
