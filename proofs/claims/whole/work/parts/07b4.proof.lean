set_option maxRecDepth 20000 in
set_option maxHeartbeats 4000000 in
theorem jxX11_keptOpen_102 {g : GC} (hg : isGM g) {X : MX} (N : Nat) (E : JE g mX11_keptOpen X) (K32 : Int32 → Int32 → Int32 → HP → Option (Int32 × HP)) (hK32 : ∀ (a1 : Int32) (a2 : Int32) (a3 : Int32) (h : HP), J g mX11_keptOpen X 32 [(0, .ref (g.2.2.1 0)), (1, .int a1), (2, .int a2), (3, .int a3)] [] h (K32 a1 a2 a3 h)) : ∀ (n : Nat) (a1 : Int32) (a2 : Int32) (a3 : Int32) (a4 : Int32) (a5 : Int32) (h : HP), J g mX11_keptOpen X 102 [(0, .ref (g.2.2.1 0)), (1, .int a1), (2, .int a2), (3, .int a3), (4, .int a4), (5, .int a5)] [] h (xX11_keptOpen_102 N K32 n a1 a2 a3 a4 a5 h) := by
  intro n
  induction n with
  | zero => intro a1 a2 a3 a4 a5 h; exact j_none
  | succ n ih =>
    intro a1 a2 a3 a4 a5 h
    unfold xX11_keptOpen_102
    refine j_iload E dX11_keptOpen_102 5 rfl ?_
    refine j_bipush E (v := 16) dX11_keptOpen_104 (by decide) ?_
    refine j_cmp_ge E 145 dX11_keptOpen_106 rfl ?_ ?_
    · refine j_iload_n E dX11_keptOpen_145 1 rfl ?_
      refine j_iload_n E dX11_keptOpen_146 2 rfl ?_
      refine j_iadd E dX11_keptOpen_147 ?_
      refine j_istore_n E dX11_keptOpen_148 (Nat.le_of_ble_eq_true rfl) (fun v1 => [(1, .int v1), (0, .ref (g.2.2.1 0)), (2, .int a2), (3, .int a3), (4, .int a4), (5, .int a5)]) (fun _ => rfl) (fun v1 => ?_)
      exact j_sub [1, 0, 2, 3] (lv1 := [(0, .ref (g.2.2.1 0)), (1, .int v1), (2, .int a2), (3, .int a3)]) rfl (jxX11_keptOpen_149 hg N E K32 hK32 v1 a2 a3 h)
    · refine j_aload_n E dX11_keptOpen_109 0 rfl ?_
      refine j_getr E f_X11_105 (cM_0 hg) 32 rfl dX11_keptOpen_110 ?_
      refine j_iload E dX11_keptOpen_113 5 rfl ?_
      refine j_iald E (cM_32 hg) dX11_keptOpen_115 (fun t2 => ?_)
      refine j_iload E dX11_keptOpen_116 4 rfl ?_
      refine j_cmp_ne E 139 dX11_keptOpen_118 rfl ?_ ?_
      · exact jxX11_keptOpen_139 hg N E (xX11_keptOpen_102 N K32 n) ih a1 a2 a3 a4 a5 h
      · refine j_aload_n E dX11_keptOpen_121 0 rfl ?_
        refine j_getr E f_X11_105 (cM_0 hg) 32 rfl dX11_keptOpen_122 ?_
        refine j_iload E dX11_keptOpen_125 5 rfl ?_
        refine j_aload_n E dX11_keptOpen_127 0 rfl ?_
        refine j_getr E f_X11_105 (cM_0 hg) 32 rfl dX11_keptOpen_128 ?_
        refine j_aload_n E dX11_keptOpen_131 0 rfl ?_
        refine j_getr E f_X11_22 (cM_0 hg) 5 rfl dX11_keptOpen_132 ?_
        refine j_iload_n E dX11_keptOpen_135 3 rfl ?_
        refine j_iald E (cM_5 hg) dX11_keptOpen_136 (fun t3 => ?_)
        refine j_iald E (cM_32 hg) dX11_keptOpen_137 (fun t4 => ?_)
        refine j_iast E (cM_32 hg) dX11_keptOpen_138 (fun h5 => ?_)
        exact jxX11_keptOpen_139 hg N E (xX11_keptOpen_102 N K32 n) ih a1 a2 a3 a4 a5 h5
set_option maxRecDepth 20000 in
set_option maxHeartbeats 4000000 in
theorem jxX11_keptOpen_32 {g : GC} (hg : isGM g) {X : MX} (N : Nat) (E : JE g mX11_keptOpen X) (K26 : Int32 → Int32 → HP → Option (Int32 × HP)) (hK26 : ∀ (a1 : Int32) (a2 : Int32) (h : HP), J g mX11_keptOpen X 26 [(0, .ref (g.2.2.1 0)), (1, .int a1), (2, .int a2)] [] h (K26 a1 a2 h)) : ∀ (n : Nat) (a1 : Int32) (a2 : Int32) (a3 : Int32) (h : HP), J g mX11_keptOpen X 32 [(0, .ref (g.2.2.1 0)), (1, .int a1), (2, .int a2), (3, .int a3)] [] h (xX11_keptOpen_32 N K26 n a1 a2 a3 h) := by
  intro n
  induction n with
  | zero => intro a1 a2 a3 h; exact j_none
  | succ n ih =>
    intro a1 a2 a3 h
    unfold xX11_keptOpen_32
    refine j_iload_n E dX11_keptOpen_32 3 rfl ?_
    refine j_aload_n E dX11_keptOpen_33 0 rfl ?_
    refine j_geti E f_X11_145 (cM_0 hg) rfl dX11_keptOpen_34 ?_
    refine j_cmp_ge E 155 dX11_keptOpen_37 rfl ?_ ?_
    · refine j_iinc E (c := (-1)) dX11_keptOpen_155 2 rfl (by decide) (Nat.le_of_ble_eq_true rfl) (fun v1 => [(2, .int v1), (0, .ref (g.2.2.1 0)), (1, .int a1), (3, .int a3)]) (fun _ => rfl) (fun v1 => ?_)
      refine j_goto E 26 dX11_keptOpen_158 rfl ?_
      exact j_sub [1, 2, 0] (lv1 := [(0, .ref (g.2.2.1 0)), (1, .int a1), (2, .int v1)]) rfl (hK26 a1 v1 h)
    · refine j_aload_n E dX11_keptOpen_40 0 rfl ?_
      refine j_iload_n E dX11_keptOpen_41 3 rfl ?_
      refine j_callvI (As := [.int a3]) (st := []) E (ok_X11_isOpen hg E.2.2.2.2.2.2.2.1 a3 h) (cM_0 hg) (cl_X11_148) (⟨Nat.le_of_ble_eq_true rfl, Nat.le_of_ble_eq_true rfl⟩) rfl rfl (Nat.le_of_ble_eq_true rfl) dX11_keptOpen_42 (fun t2 h3 => ?_)
      refine j_if_eq E 149 dX11_keptOpen_45 rfl ?_ ?_
      · exact jxX11_keptOpen_149 hg N E (xX11_keptOpen_32 N K26 n) ih a1 a2 a3 h3
      · refine j_aload_n E dX11_keptOpen_48 0 rfl ?_
        refine j_getr E f_X11_28 (cM_0 hg) 7 rfl dX11_keptOpen_49 ?_
        refine j_iload_n E dX11_keptOpen_52 3 rfl ?_
        refine j_iald E (cM_7 hg) dX11_keptOpen_53 (fun t4 => ?_)
        refine j_iload_n E dX11_keptOpen_54 2 rfl ?_
        refine j_cmp_ne E 149 dX11_keptOpen_55 rfl ?_ ?_
        · exact jxX11_keptOpen_149 hg N E (xX11_keptOpen_32 N K26 n) ih a1 a2 a3 h3
        · refine j_aload_n E dX11_keptOpen_58 0 rfl ?_
          refine j_getr E f_X11_105 (cM_0 hg) 32 rfl dX11_keptOpen_59 ?_
          refine j_aload_n E dX11_keptOpen_62 0 rfl ?_
          refine j_getr E f_X11_22 (cM_0 hg) 5 rfl dX11_keptOpen_63 ?_
          refine j_iload_n E dX11_keptOpen_66 3 rfl ?_
          refine j_iald E (cM_5 hg) dX11_keptOpen_67 (fun t5 => ?_)
          refine j_iald E (cM_32 hg) dX11_keptOpen_68 (fun t6 => ?_)
          refine j_aload_n E dX11_keptOpen_69 0 rfl ?_
          refine j_getr E f_X11_105 (cM_0 hg) 32 rfl dX11_keptOpen_70 ?_
          refine j_aload_n E dX11_keptOpen_73 0 rfl ?_
          refine j_getr E f_X11_25 (cM_0 hg) 6 rfl dX11_keptOpen_74 ?_
          refine j_iload_n E dX11_keptOpen_77 3 rfl ?_
          refine j_iald E (cM_6 hg) dX11_keptOpen_78 (fun t7 => ?_)
          refine j_iald E (cM_32 hg) dX11_keptOpen_79 (fun t8 => ?_)
          refine j_cmp_ne E 86 dX11_keptOpen_80 rfl ?_ ?_
          · refine j_aload_n E dX11_keptOpen_86 0 rfl ?_
            refine j_getr E f_X11_105 (cM_0 hg) 32 rfl dX11_keptOpen_87 ?_
            refine j_aload_n E dX11_keptOpen_90 0 rfl ?_
            refine j_getr E f_X11_25 (cM_0 hg) 6 rfl dX11_keptOpen_91 ?_
            refine j_iload_n E dX11_keptOpen_94 3 rfl ?_
            refine j_iald E (cM_6 hg) dX11_keptOpen_95 (fun t9 => ?_)
            refine j_iald E (cM_32 hg) dX11_keptOpen_96 (fun t10 => ?_)
            refine j_istore0 E dX11_keptOpen_97 (Nat.le_of_ble_eq_true rfl) [(4, .int t10), (0, .ref (g.2.2.1 0)), (1, .int a1), (2, .int a2), (3, .int a3)] rfl ?_
            refine j_iconst E (v := 0) dX11_keptOpen_99 (by decide) ?_
            refine j_istore0 E dX11_keptOpen_100 (Nat.le_of_ble_eq_true rfl) [(5, .int 0), (4, .int t10), (0, .ref (g.2.2.1 0)), (1, .int a1), (2, .int a2), (3, .int a3)] rfl ?_
            exact j_sub [2, 3, 4, 5, 1, 0] (lv1 := [(0, .ref (g.2.2.1 0)), (1, .int a1), (2, .int a2), (3, .int a3), (4, .int t10), (5, .int 0)]) rfl (jxX11_keptOpen_102 hg N E (xX11_keptOpen_32 N K26 n) ih N a1 a2 a3 t10 0 h3)
          · refine j_goto E 149 dX11_keptOpen_83 rfl ?_
            exact jxX11_keptOpen_149 hg N E (xX11_keptOpen_32 N K26 n) ih a1 a2 a3 h3
set_option maxRecDepth 20000 in
set_option maxHeartbeats 4000000 in
theorem jxX11_keptOpen_26 {g : GC} (hg : isGM g) {X : MX} (N : Nat) (E : JE g mX11_keptOpen X) : ∀ (n : Nat) (a1 : Int32) (a2 : Int32) (h : HP), J g mX11_keptOpen X 26 [(0, .ref (g.2.2.1 0)), (1, .int a1), (2, .int a2)] [] h (xX11_keptOpen_26 N n a1 a2 h) := by
  intro n
  induction n with
  | zero => intro a1 a2 h; exact j_none
  | succ n ih =>
    intro a1 a2 h
    unfold xX11_keptOpen_26
    refine j_iload_n E dX11_keptOpen_26 2 rfl ?_
    refine j_if_le E 161 dX11_keptOpen_27 rfl ?_ ?_
    · refine j_iload_n E dX11_keptOpen_161 1 rfl ?_
      exact j_ireturn E rfl dX11_keptOpen_162
    · refine j_iconst E (v := 0) dX11_keptOpen_30 (by decide) ?_
      refine j_istore0_n E dX11_keptOpen_31 (Nat.le_of_ble_eq_true rfl) [(3, .int 0), (0, .ref (g.2.2.1 0)), (1, .int a1), (2, .int a2)] rfl ?_
      exact j_sub [1, 2, 3, 0] (lv1 := [(0, .ref (g.2.2.1 0)), (1, .int a1), (2, .int a2), (3, .int 0)]) rfl (jxX11_keptOpen_32 hg N E (xX11_keptOpen_26 N n) ih N a1 a2 0 h)
set_option maxRecDepth 20000 in
set_option maxHeartbeats 4000000 in
theorem jxX11_keptOpen_4 {g : GC} (hg : isGM g) {X : MX} (N : Nat) (E : JE g mX11_keptOpen X) : ∀ (n : Nat) (a1 : Int32) (a2 : Int32) (h : HP), J g mX11_keptOpen X 4 [(0, .ref (g.2.2.1 0)), (1, .int a1), (2, .int a2)] [] h (xX11_keptOpen_4 N n a1 a2 h) := by
  intro n
  induction n with
  | zero => intro a1 a2 h; exact j_none
  | succ n ih =>
    intro a1 a2 h
    unfold xX11_keptOpen_4
    refine j_iload_n E dX11_keptOpen_4 2 rfl ?_
    refine j_bipush E (v := 16) dX11_keptOpen_5 (by decide) ?_
    refine j_cmp_ge E 23 dX11_keptOpen_7 rfl ?_ ?_
    · refine j_bipush E (v := 99) dX11_keptOpen_23 (by decide) ?_
      refine j_istore0_n E dX11_keptOpen_25 (Nat.le_of_ble_eq_true rfl) [(2, .int 99), (0, .ref (g.2.2.1 0)), (1, .int a1)] rfl ?_
      exact j_sub [1, 2, 0] (lv1 := [(0, .ref (g.2.2.1 0)), (1, .int a1), (2, .int 99)]) rfl (jxX11_keptOpen_26 hg N E N a1 99 h)
    · refine j_aload_n E dX11_keptOpen_10 0 rfl ?_
      refine j_getr E f_X11_105 (cM_0 hg) 32 rfl dX11_keptOpen_11 ?_
      refine j_iload_n E dX11_keptOpen_14 2 rfl ?_
      refine j_iload_n E dX11_keptOpen_15 2 rfl ?_
      refine j_iast E (cM_32 hg) dX11_keptOpen_16 (fun h1 => ?_)
      refine j_iinc E (c := 1) dX11_keptOpen_17 2 rfl (by decide) (Nat.le_of_ble_eq_true rfl) (fun v2 => [(2, .int v2), (0, .ref (g.2.2.1 0)), (1, .int a1)]) (fun _ => rfl) (fun v2 => ?_)
      refine j_goto E 4 dX11_keptOpen_20 rfl ?_
      exact j_sub [1, 2, 0] (lv1 := [(0, .ref (g.2.2.1 0)), (1, .int a1), (2, .int v2)]) rfl (ih a1 v2 h1)
set_option maxRecDepth 20000 in
set_option maxHeartbeats 4000000 in
theorem jxX11_keptOpen {g : GC} (hg : isGM g) {X : MX} (N : Nat) (E : JE g mX11_keptOpen X) (h : HP) : J g mX11_keptOpen X 0 [(0, .ref (g.2.2.1 0))] [] h (xX11_keptOpen N h) := by
  unfold xX11_keptOpen
  refine j_iconst E (v := 0) dX11_keptOpen_0 (by decide) ?_
  refine j_istore0_n E dX11_keptOpen_1 (Nat.le_of_ble_eq_true rfl) [(1, .int 0), (0, .ref (g.2.2.1 0))] rfl ?_
  refine j_iconst E (v := 0) dX11_keptOpen_2 (by decide) ?_
  refine j_istore0_n E dX11_keptOpen_3 (Nat.le_of_ble_eq_true rfl) [(2, .int 0), (1, .int 0), (0, .ref (g.2.2.1 0))] rfl ?_
  exact j_sub [2, 1, 0] (lv1 := [(0, .ref (g.2.2.1 0)), (1, .int 0), (2, .int 0)]) rfl (jxX11_keptOpen_4 hg N E N 0 0 h)
theorem ok_X11_keptOpen {g : GC} (hg : isGM g) (hI : gI g) (N : Nat) (h : HP) : Ok g yX11_keptOpen mX11_keptOpen [.ref (g.2.2.1 0)] h (xX11_keptOpen N h) := Ok.of hI (by decide) rfl (Nat.le_of_ble_eq_true rfl) (fun X E => jxX11_keptOpen hg N E h)
set_option maxRecDepth 20000 in
set_option maxHeartbeats 4000000 in
theorem jxX11_farthest_96 {g : GC} (hg : isGM g) {X : MX} (N : Nat) (E : JE g mX11_farthest X) (K39 : Int32 → Int32 → Int32 → Int32 → Int32 → Int32 → HP → Option (Int32 × HP)) (hK39 : ∀ (a1 : Int32) (a2 : Int32) (a3 : Int32) (a4 : Int32) (a5 : Int32) (a6 : Int32) (h : HP), J g mX11_farthest X 39 [(0, .ref (g.2.2.1 0)), (1, .int a1), (2, .int a2), (3, .int a3), (4, .int a4), (5, .int a5), (6, .int a6)] [] h (K39 a1 a2 a3 a4 a5 a6 h)) (a1 : Int32) (a2 : Int32) (a3 : Int32) (a4 : Int32) (a5 : Int32) (a6 : Int32) (h : HP) : J g mX11_farthest X 96 [(0, .ref (g.2.2.1 0)), (1, .int a1), (2, .int a2), (3, .int a3), (4, .int a4), (5, .int a5), (6, .int a6)] [] h (xX11_farthest_96 N K39 a1 a2 a3 a4 a5 a6 h) := by
  unfold xX11_farthest_96
  refine j_iinc E (c := 1) dX11_farthest_96 6 rfl (by decide) (Nat.le_of_ble_eq_true rfl) (fun v1 => [(6, .int v1), (0, .ref (g.2.2.1 0)), (1, .int a1), (2, .int a2), (3, .int a3), (4, .int a4), (5, .int a5)]) (fun _ => rfl) (fun v1 => ?_)
  refine j_goto E 39 dX11_farthest_99 rfl ?_
  exact j_sub [1, 2, 3, 4, 5, 6, 0] (lv1 := [(0, .ref (g.2.2.1 0)), (1, .int a1), (2, .int a2), (3, .int a3), (4, .int a4), (5, .int a5), (6, .int v1)]) rfl (hK39 a1 a2 a3 a4 a5 v1 h)
set_option maxRecDepth 20000 in
set_option maxHeartbeats 4000000 in
theorem jxX11_farthest_39 {g : GC} (hg : isGM g) {X : MX} (N : Nat) (E : JE g mX11_farthest X) (K28 : Int32 → Int32 → Int32 → Int32 → Int32 → HP → Option (Int32 × HP)) (hK28 : ∀ (a1 : Int32) (a2 : Int32) (a3 : Int32) (a4 : Int32) (a5 : Int32) (h : HP), J g mX11_farthest X 28 [(0, .ref (g.2.2.1 0)), (1, .int a1), (2, .int a2), (3, .int a3), (4, .int a4), (5, .int a5)] [] h (K28 a1 a2 a3 a4 a5 h)) : ∀ (n : Nat) (a1 : Int32) (a2 : Int32) (a3 : Int32) (a4 : Int32) (a5 : Int32) (a6 : Int32) (h : HP), J g mX11_farthest X 39 [(0, .ref (g.2.2.1 0)), (1, .int a1), (2, .int a2), (3, .int a3), (4, .int a4), (5, .int a5), (6, .int a6)] [] h (xX11_farthest_39 N K28 n a1 a2 a3 a4 a5 a6 h) := by
  intro n
  induction n with
  | zero => intro a1 a2 a3 a4 a5 a6 h; exact j_none
  | succ n ih =>
    intro a1 a2 a3 a4 a5 a6 h
    unfold xX11_farthest_39
    refine j_iload E dX11_farthest_39 6 rfl ?_
    refine j_bipush E (v := 16) dX11_farthest_41 (by decide) ?_
    refine j_cmp_ge E 102 dX11_farthest_43 rfl ?_ ?_
    · refine j_iinc E (c := 1) dX11_farthest_102 5 rfl (by decide) (Nat.le_of_ble_eq_true rfl) (fun v1 => [(5, .int v1), (0, .ref (g.2.2.1 0)), (1, .int a1), (2, .int a2), (3, .int a3), (4, .int a4), (6, .int a6)]) (fun _ => rfl) (fun v1 => ?_)
      refine j_goto E 28 dX11_farthest_105 rfl ?_
      exact j_sub [1, 2, 3, 4, 5, 0] (lv1 := [(0, .ref (g.2.2.1 0)), (1, .int a1), (2, .int a2), (3, .int a3), (4, .int a4), (5, .int v1)]) rfl (hK28 a1 a2 a3 a4 v1 h)
    · refine j_aload_n E dX11_farthest_46 0 rfl ?_
      refine j_iload E dX11_farthest_47 5 rfl ?_
      refine j_callvI (As := [.int a5]) (st := []) E (ok_X11_isTold hg E.2.2.2.2.2.2.2.1 a5 h) (cM_0 hg) (cl_X11_141) (⟨Nat.le_of_ble_eq_true rfl, Nat.le_of_ble_eq_true rfl⟩) rfl rfl (Nat.le_of_ble_eq_true rfl) dX11_farthest_49 (fun t2 h3 => ?_)
      refine j_if_eq E 96 dX11_farthest_52 rfl ?_ ?_
      · exact jxX11_farthest_96 hg N E (xX11_farthest_39 N K28 n) ih a1 a2 a3 a4 a5 a6 h3
      · refine j_aload_n E dX11_farthest_55 0 rfl ?_
        refine j_iload E dX11_farthest_56 6 rfl ?_
        refine j_callvI (As := [.int a6]) (st := []) E (ok_X11_isTold hg E.2.2.2.2.2.2.2.1 a6 h3) (cM_0 hg) (cl_X11_141) (⟨Nat.le_of_ble_eq_true rfl, Nat.le_of_ble_eq_true rfl⟩) rfl rfl (Nat.le_of_ble_eq_true rfl) dX11_farthest_58 (fun t4 h5 => ?_)
        refine j_if_eq E 96 dX11_farthest_61 rfl ?_ ?_
        · exact jxX11_farthest_96 hg N E (xX11_farthest_39 N K28 n) ih a1 a2 a3 a4 a5 a6 h5
        · refine j_aload_n E dX11_farthest_64 0 rfl ?_
          refine j_iload E dX11_farthest_65 5 rfl ?_
          refine j_iload E dX11_farthest_67 6 rfl ?_
          refine j_callvI (As := [.int a5, .int a6]) (st := []) E (ok_X11_far hg E.2.2.2.2.2.2.2.1 a5 a6 h5) (cM_0 hg) (cl_X11_378) (⟨Nat.le_of_ble_eq_true rfl, Nat.le_of_ble_eq_true rfl⟩) rfl rfl (Nat.le_of_ble_eq_true rfl) dX11_farthest_69 (fun t6 h7 => ?_)
          refine j_iload E dX11_farthest_72 4 rfl ?_
          refine j_cmp_gt E 80 dX11_farthest_74 rfl ?_ ?_
          · refine j_aload_n E dX11_farthest_80 0 rfl ?_
            refine j_iload E dX11_farthest_81 5 rfl ?_
            refine j_iload E dX11_farthest_83 6 rfl ?_
            refine j_callvI (As := [.int a5, .int a6]) (st := []) E (ok_X11_far hg E.2.2.2.2.2.2.2.1 a5 a6 h7) (cM_0 hg) (cl_X11_378) (⟨Nat.le_of_ble_eq_true rfl, Nat.le_of_ble_eq_true rfl⟩) rfl rfl (Nat.le_of_ble_eq_true rfl) dX11_farthest_85 (fun t8 h9 => ?_)
            refine j_istore0 E dX11_farthest_88 (Nat.le_of_ble_eq_true rfl) [(4, .int t8), (0, .ref (g.2.2.1 0)), (1, .int a1), (2, .int a2), (3, .int a3), (5, .int a5), (6, .int a6)] rfl ?_
            refine j_iload E dX11_farthest_90 5 rfl ?_
            refine j_istore0_n E dX11_farthest_92 (Nat.le_of_ble_eq_true rfl) [(2, .int a5), (4, .int t8), (0, .ref (g.2.2.1 0)), (1, .int a1), (3, .int a3), (5, .int a5), (6, .int a6)] rfl ?_
            refine j_iload E dX11_farthest_93 6 rfl ?_
            refine j_istore0_n E dX11_farthest_95 (Nat.le_of_ble_eq_true rfl) [(3, .int a6), (2, .int a5), (4, .int t8), (0, .ref (g.2.2.1 0)), (1, .int a1), (5, .int a5), (6, .int a6)] rfl ?_
            exact j_sub [3, 4, 1, 0, 2, 5, 6] (lv1 := [(0, .ref (g.2.2.1 0)), (1, .int a1), (2, .int a5), (3, .int a6), (4, .int t8), (5, .int a5), (6, .int a6)]) rfl (jxX11_farthest_96 hg N E (xX11_farthest_39 N K28 n) ih a1 a5 a6 t8 a5 a6 h9)
          · refine j_goto E 96 dX11_farthest_77 rfl ?_
            exact jxX11_farthest_96 hg N E (xX11_farthest_39 N K28 n) ih a1 a2 a3 a4 a5 a6 h7
set_option maxRecDepth 20000 in
set_option maxHeartbeats 4000000 in
theorem jxX11_farthest_127 {g : GC} (hg : isGM g) {X : MX} (N : Nat) (E : JE g mX11_farthest X) (s0 : Int32) (h : HP) : J g mX11_farthest X 127 [] [.int s0] h (xX11_farthest_127 N s0 h) := by
  unfold xX11_farthest_127
  exact j_ireturn E rfl dX11_farthest_127
set_option maxRecDepth 20000 in
set_option maxHeartbeats 4000000 in
theorem jxX11_farthest_28 {g : GC} (hg : isGM g) {X : MX} (N : Nat) (E : JE g mX11_farthest X) : ∀ (n : Nat) (a1 : Int32) (a2 : Int32) (a3 : Int32) (a4 : Int32) (a5 : Int32) (h : HP), J g mX11_farthest X 28 [(0, .ref (g.2.2.1 0)), (1, .int a1), (2, .int a2), (3, .int a3), (4, .int a4), (5, .int a5)] [] h (xX11_farthest_28 N n a1 a2 a3 a4 a5 h) := by
  intro n
  induction n with
  | zero => intro a1 a2 a3 a4 a5 h; exact j_none
  | succ n ih =>
    intro a1 a2 a3 a4 a5 h
    unfold xX11_farthest_28
    refine j_iload E dX11_farthest_28 5 rfl ?_
    refine j_bipush E (v := 16) dX11_farthest_30 (by decide) ?_
    refine j_cmp_ge E 108 dX11_farthest_32 rfl ?_ ?_
    · refine j_iload_n E dX11_farthest_108 1 rfl ?_
      refine j_if_ne E 117 dX11_farthest_109 rfl ?_ ?_
      · refine j_iload_n E dX11_farthest_117 1 rfl ?_
        refine j_iconst E (v := 1) dX11_farthest_118 (by decide) ?_
        refine j_cmp_ne E 126 dX11_farthest_119 rfl ?_ ?_
        · refine j_iload_n E dX11_farthest_126 3 rfl ?_
          exact j_sub [] (lv1 := []) rfl (jxX11_farthest_127 hg N E a3 h)
        · refine j_iload_n E dX11_farthest_122 2 rfl ?_
          refine j_goto E 127 dX11_farthest_123 rfl ?_
          exact j_sub [] (lv1 := []) rfl (jxX11_farthest_127 hg N E a2 h)
      · refine j_iload E dX11_farthest_112 4 rfl ?_
        refine j_goto E 127 dX11_farthest_114 rfl ?_
        exact j_sub [] (lv1 := []) rfl (jxX11_farthest_127 hg N E a4 h)
    · refine j_iload E dX11_farthest_35 5 rfl ?_
      refine j_istore0 E dX11_farthest_37 (Nat.le_of_ble_eq_true rfl) [(6, .int a5), (0, .ref (g.2.2.1 0)), (1, .int a1), (2, .int a2), (3, .int a3), (4, .int a4), (5, .int a5)] rfl ?_
      exact j_sub [1, 2, 3, 4, 5, 6, 0] (lv1 := [(0, .ref (g.2.2.1 0)), (1, .int a1), (2, .int a2), (3, .int a3), (4, .int a4), (5, .int a5), (6, .int a5)]) rfl (jxX11_farthest_39 hg N E (xX11_farthest_28 N n) ih N a1 a2 a3 a4 a5 a5 h)
set_option maxRecDepth 20000 in
set_option maxHeartbeats 4000000 in
theorem jxX11_farthest {g : GC} (hg : isGM g) {X : MX} (N : Nat) (E : JE g mX11_farthest X) (a1 : Int32) (h : HP) : J g mX11_farthest X 0 [(0, .ref (g.2.2.1 0)), (1, .int a1)] [] h (xX11_farthest N a1 h) := by
  unfold xX11_farthest
  refine j_iload_n E dX11_farthest_0 1 rfl ?_
  refine j_iconst E (v := 0) dX11_farthest_1 (by decide) ?_
  refine j_iconst E (v := 2) dX11_farthest_2 (by decide) ?_
  refine j_callsI (As := [.int a1, .int 0, .int 2]) (st := []) E (ok_X11_in hg E.2.2.2.2.2.2.2.1 a1 0 2 h) (cl_X11_129) (⟨Nat.le_of_ble_eq_true rfl, Nat.le_of_ble_eq_true rfl⟩) rfl rfl (Nat.le_of_ble_eq_true rfl) dX11_farthest_3 (fun t1 h2 => ?_)
  refine j_if_ne E 11 dX11_farthest_6 rfl ?_ ?_
  · refine j_aload_n E dX11_farthest_11 0 rfl ?_
    refine j_callvV (As := []) (st := []) E (ok_X11_laysAllSteps hg E.2.2.2.2.2.2.2.1 N h2) (cM_0 hg) (cl_X11_381) (⟨Nat.le_of_ble_eq_true rfl, Nat.le_of_ble_eq_true rfl⟩) rfl rfl (Nat.le_of_ble_eq_true rfl) dX11_farthest_12 (fun t3 h4 => ?_)
    refine j_bipush E (v := (-2)) dX11_farthest_15 (by decide) ?_
    refine j_istore0_n E dX11_farthest_17 (Nat.le_of_ble_eq_true rfl) [(2, .int (-2)), (0, .ref (g.2.2.1 0)), (1, .int a1)] rfl ?_
    refine j_bipush E (v := (-2)) dX11_farthest_18 (by decide) ?_
    refine j_istore0_n E dX11_farthest_20 (Nat.le_of_ble_eq_true rfl) [(3, .int (-2)), (2, .int (-2)), (0, .ref (g.2.2.1 0)), (1, .int a1)] rfl ?_
    refine j_bipush E (v := (-2)) dX11_farthest_21 (by decide) ?_
    refine j_istore0 E dX11_farthest_23 (Nat.le_of_ble_eq_true rfl) [(4, .int (-2)), (3, .int (-2)), (2, .int (-2)), (0, .ref (g.2.2.1 0)), (1, .int a1)] rfl ?_
    refine j_iconst E (v := 0) dX11_farthest_25 (by decide) ?_
    refine j_istore0 E dX11_farthest_26 (Nat.le_of_ble_eq_true rfl) [(5, .int 0), (4, .int (-2)), (3, .int (-2)), (2, .int (-2)), (0, .ref (g.2.2.1 0)), (1, .int a1)] rfl ?_
    exact j_sub [4, 5, 3, 2, 1, 0] (lv1 := [(0, .ref (g.2.2.1 0)), (1, .int a1), (2, .int (-2)), (3, .int (-2)), (4, .int (-2)), (5, .int 0)]) rfl (jxX11_farthest_28 hg N E N a1 (-2) (-2) (-2) 0 h4)
  · refine j_iconst E (v := (-1)) dX11_farthest_9 (by decide) ?_
    exact j_ireturn E rfl dX11_farthest_10
theorem ok_X11_farthest {g : GC} (hg : isGM g) (hI : gI g) (N : Nat) (a1 : Int32) (h : HP) : Ok g yX11_farthest mX11_farthest [.ref (g.2.2.1 0), .int a1] h (xX11_farthest N a1 h) := Ok.of hI (by decide) rfl (Nat.le_of_ble_eq_true rfl) (fun X E => jxX11_farthest hg N E a1 h)
set_option maxRecDepth 20000 in
set_option maxHeartbeats 4000000 in
theorem jxX11_ring_85 {g : GC} (hg : isGM g) {X : MX} (N : Nat) (E : JE g mX11_ring X) (K15 : Int32 → Int32 → Int32 → HP → Option (Int32 × HP)) (hK15 : ∀ (a1 : Int32) (a2 : Int32) (a3 : Int32) (h : HP), J g mX11_ring X 15 [(0, .ref (g.2.2.1 0)), (1, .int a1), (2, .int a2), (3, .int a3)] [] h (K15 a1 a2 a3 h)) (a1 : Int32) (a2 : Int32) (a3 : Int32) (h : HP) : J g mX11_ring X 85 [(0, .ref (g.2.2.1 0)), (1, .int a1), (2, .int a2), (3, .int a3)] [] h (xX11_ring_85 N K15 a1 a2 a3 h) := by
  unfold xX11_ring_85
  refine j_iinc E (c := 1) dX11_ring_85 3 rfl (by decide) (Nat.le_of_ble_eq_true rfl) (fun v1 => [(3, .int v1), (0, .ref (g.2.2.1 0)), (1, .int a1), (2, .int a2)]) (fun _ => rfl) (fun v1 => ?_)
  refine j_goto E 15 dX11_ring_88 rfl ?_
  exact j_sub [1, 2, 3, 0] (lv1 := [(0, .ref (g.2.2.1 0)), (1, .int a1), (2, .int a2), (3, .int v1)]) rfl (hK15 a1 a2 v1 h)
set_option maxRecDepth 20000 in
set_option maxHeartbeats 4000000 in
theorem jxX11_ring_82 {g : GC} (hg : isGM g) {X : MX} (N : Nat) (E : JE g mX11_ring X) (K15 : Int32 → Int32 → Int32 → HP → Option (Int32 × HP)) (hK15 : ∀ (a1 : Int32) (a2 : Int32) (a3 : Int32) (h : HP), J g mX11_ring X 15 [(0, .ref (g.2.2.1 0)), (1, .int a1), (2, .int a2), (3, .int a3)] [] h (K15 a1 a2 a3 h)) (a1 : Int32) (a3 : Int32) (a5 : Int32) (h : HP) : J g mX11_ring X 82 [(0, .ref (g.2.2.1 0)), (1, .int a1), (3, .int a3), (5, .int a5)] [] h (xX11_ring_82 N K15 a1 a3 a5 h) := by
  unfold xX11_ring_82
  refine j_iload E dX11_ring_82 3 rfl ?_
  refine j_istore0_n E dX11_ring_84 (Nat.le_of_ble_eq_true rfl) [(2, .int a5), (0, .ref (g.2.2.1 0)), (1, .int a1), (3, .int a3), (5, .int a5)] rfl ?_
  exact j_sub [1, 2, 0, 3] (lv1 := [(0, .ref (g.2.2.1 0)), (1, .int a1), (2, .int a5), (3, .int a3)]) rfl (jxX11_ring_85 hg N E K15 hK15 a1 a5 a3 h)
set_option maxRecDepth 20000 in
set_option maxHeartbeats 4000000 in
theorem jxX11_ring_15 {g : GC} (hg : isGM g) {X : MX} (N : Nat) (E : JE g mX11_ring X) : ∀ (n : Nat) (a1 : Int32) (a2 : Int32) (a3 : Int32) (h : HP), J g mX11_ring X 15 [(0, .ref (g.2.2.1 0)), (1, .int a1), (2, .int a2), (3, .int a3)] [] h (xX11_ring_15 N n a1 a2 a3 h) := by
  intro n
  induction n with
  | zero => intro a1 a2 a3 h; exact j_none
  | succ n ih =>
    intro a1 a2 a3 h
    unfold xX11_ring_15
    refine j_iload_n E dX11_ring_15 3 rfl ?_
    refine j_aload_n E dX11_ring_16 0 rfl ?_
    refine j_geti E f_X11_145 (cM_0 hg) rfl dX11_ring_17 ?_
    refine j_cmp_ge E 91 dX11_ring_20 rfl ?_ ?_
    · refine j_iload_n E dX11_ring_91 2 rfl ?_
      exact j_ireturn E rfl dX11_ring_92
    · refine j_aload_n E dX11_ring_23 0 rfl ?_
      refine j_iload_n E dX11_ring_24 3 rfl ?_
      refine j_iload_n E dX11_ring_25 1 rfl ?_
      refine j_callvI (As := [.int a3, .int a1]) (st := []) E (ok_X11_beyond hg E.2.2.2.2.2.2.2.1 a3 a1 h) (cM_0 hg) (cl_X11_151) (⟨Nat.le_of_ble_eq_true rfl, Nat.le_of_ble_eq_true rfl⟩) rfl rfl (Nat.le_of_ble_eq_true rfl) dX11_ring_26 (fun t1 h2 => ?_)
      refine j_istore0 E dX11_ring_29 (Nat.le_of_ble_eq_true rfl) [(4, .int t1), (0, .ref (g.2.2.1 0)), (1, .int a1), (2, .int a2), (3, .int a3)] rfl ?_
      refine j_iload E dX11_ring_31 0 rfl ?_
      refine j_iconst E (v := (-1)) dX11_ring_33 (by decide) ?_
      refine j_cmp_ne E 40 dX11_ring_34 rfl ?_ ?_
      · refine j_aload_n E dX11_ring_40 1 rfl ?_
        refine j_iload E dX11_ring_41 0 rfl ?_
        refine j_iload_n E dX11_ring_43 4 rfl ?_
        refine j_callvV (As := [.int t1, .int a3]) (st := []) E (ok_X11_laysSteps hg E.2.2.2.2.2.2.2.1 N t1 a3 h2) (cM_0 hg) (cl_X11_375) (⟨Nat.le_of_ble_eq_true rfl, Nat.le_of_ble_eq_true rfl⟩) rfl rfl (Nat.le_of_ble_eq_true rfl) dX11_ring_44 (fun t3 h4 => ?_)
        refine j_aload_n E dX11_ring_47 1 rfl ?_
        refine j_iload E dX11_ring_48 0 rfl ?_
        refine j_iload_n E dX11_ring_50 2 rfl ?_
        refine j_callvI (As := [.int t1, .int a1]) (st := []) E (ok_X11_far hg E.2.2.2.2.2.2.2.1 t1 a1 h4) (cM_0 hg) (cl_X11_378) (⟨Nat.le_of_ble_eq_true rfl, Nat.le_of_ble_eq_true rfl⟩) rfl rfl (Nat.le_of_ble_eq_true rfl) dX11_ring_51 (fun t5 h6 => ?_)
        refine j_iconst E (v := 1) dX11_ring_54 (by decide) ?_
        refine j_iadd E dX11_ring_55 ?_
        refine j_istore E dX11_ring_56 (Nat.le_of_ble_eq_true rfl) (fun v7 => [(5, .int v7), (4, .int t1), (0, .ref (g.2.2.1 0)), (1, .int a1), (2, .int a2), (3, .int a3)]) (fun _ => rfl) (fun v7 => ?_)
        refine j_aload_n E dX11_ring_58 2 rfl ?_
        refine j_iload E dX11_ring_59 1 rfl ?_
        refine j_iload_n E dX11_ring_61 3 rfl ?_
        refine j_callvI (As := [.int t1, .int a1]) (st := []) E (ok_X11_far hg E.2.2.2.2.2.2.2.1 t1 a1 h6) (cM_0 hg) (cl_X11_378) (⟨Nat.le_of_ble_eq_true rfl, Nat.le_of_ble_eq_true rfl⟩) rfl rfl (Nat.le_of_ble_eq_true rfl) dX11_ring_62 (fun t8 h9 => ?_)
        refine j_bipush E (v := (-2)) dX11_ring_65 (by decide) ?_
        refine j_cmp_eq E 85 dX11_ring_67 rfl ?_ ?_
        · exact j_sub [2, 3, 4, 5] (lv1 := [(0, .ref (g.2.2.1 0)), (1, .int a1), (2, .int a2), (3, .int a3)]) rfl (jxX11_ring_85 hg N E (xX11_ring_15 N n) ih a1 a2 a3 h9)
        · refine j_iload_n E dX11_ring_70 4 rfl ?_
          refine j_bipush E (v := (-2)) dX11_ring_71 (by decide) ?_
          refine j_cmp_eq E 82 dX11_ring_73 rfl ?_ ?_
          · exact j_sub [2, 3, 5, 0] (lv1 := [(0, .ref (g.2.2.1 0)), (1, .int a1), (3, .int a3), (5, .int v7)]) rfl (jxX11_ring_82 hg N E (xX11_ring_15 N n) ih a1 a3 v7 h9)
          · refine j_iload E dX11_ring_76 0 rfl ?_
            refine j_iload_n E dX11_ring_78 4 rfl ?_
            refine j_cmp_ge E 85 dX11_ring_79 rfl ?_ ?_
            · exact j_sub [2, 3, 4, 5] (lv1 := [(0, .ref (g.2.2.1 0)), (1, .int a1), (2, .int a2), (3, .int a3)]) rfl (jxX11_ring_85 hg N E (xX11_ring_15 N n) ih a1 a2 a3 h9)
            · exact j_sub [2, 3, 5, 0] (lv1 := [(0, .ref (g.2.2.1 0)), (1, .int a1), (3, .int a3), (5, .int v7)]) rfl (jxX11_ring_82 hg N E (xX11_ring_15 N n) ih a1 a3 v7 h9)
      · refine j_goto E 85 dX11_ring_37 rfl ?_
        exact j_sub [1, 2, 3, 4] (lv1 := [(0, .ref (g.2.2.1 0)), (1, .int a1), (2, .int a2), (3, .int a3)]) rfl (jxX11_ring_85 hg N E (xX11_ring_15 N n) ih a1 a2 a3 h2)
set_option maxRecDepth 20000 in
set_option maxHeartbeats 4000000 in
theorem jxX11_ring {g : GC} (hg : isGM g) {X : MX} (N : Nat) (E : JE g mX11_ring X) (a1 : Int32) (h : HP) : J g mX11_ring X 0 [(0, .ref (g.2.2.1 0)), (1, .int a1)] [] h (xX11_ring N a1 h) := by
  unfold xX11_ring
  refine j_aload_n E dX11_ring_0 0 rfl ?_
  refine j_iload_n E dX11_ring_1 1 rfl ?_
  refine j_callvI (As := [.int a1]) (st := []) E (ok_X11_isTold hg E.2.2.2.2.2.2.2.1 a1 h) (cM_0 hg) (cl_X11_141) (⟨Nat.le_of_ble_eq_true rfl, Nat.le_of_ble_eq_true rfl⟩) rfl rfl (Nat.le_of_ble_eq_true rfl) dX11_ring_2 (fun t1 h2 => ?_)
  refine j_if_ne E 10 dX11_ring_5 rfl ?_ ?_
  · refine j_bipush E (v := (-2)) dX11_ring_10 (by decide) ?_
    refine j_istore0_n E dX11_ring_12 (Nat.le_of_ble_eq_true rfl) [(2, .int (-2)), (0, .ref (g.2.2.1 0)), (1, .int a1)] rfl ?_
    refine j_iconst E (v := 0) dX11_ring_13 (by decide) ?_
    refine j_istore0_n E dX11_ring_14 (Nat.le_of_ble_eq_true rfl) [(3, .int 0), (2, .int (-2)), (0, .ref (g.2.2.1 0)), (1, .int a1)] rfl ?_
    exact j_sub [2, 3, 1, 0] (lv1 := [(0, .ref (g.2.2.1 0)), (1, .int a1), (2, .int (-2)), (3, .int 0)]) rfl (jxX11_ring_15 hg N E N a1 (-2) 0 h2)
  · refine j_iconst E (v := (-1)) dX11_ring_8 (by decide) ?_
    exact j_ireturn E rfl dX11_ring_9
theorem ok_X11_ring {g : GC} (hg : isGM g) (hI : gI g) (N : Nat) (a1 : Int32) (h : HP) : Ok g yX11_ring mX11_ring [.ref (g.2.2.1 0), .int a1] h (xX11_ring N a1 h) := Ok.of hI (by decide) rfl (Nat.le_of_ble_eq_true rfl) (fun X E => jxX11_ring hg N E a1 h)
set_option maxRecDepth 20000 in
set_option maxHeartbeats 4000000 in
theorem jxX11_highest_51 {g : GC} (hg : isGM g) {X : MX} (N : Nat) (E : JE g mX11_highest X) (K16 : Int32 → Int32 → Int32 → HP → Option (Int32 × HP)) (hK16 : ∀ (a1 : Int32) (a2 : Int32) (a3 : Int32) (h : HP), J g mX11_highest X 16 [(0, .ref (g.2.2.1 0)), (1, .int a1), (2, .int a2), (3, .int a3)] [] h (K16 a1 a2 a3 h)) (a1 : Int32) (a2 : Int32) (a3 : Int32) (h : HP) : J g mX11_highest X 51 [(0, .ref (g.2.2.1 0)), (1, .int a1), (2, .int a2), (3, .int a3)] [] h (xX11_highest_51 N K16 a1 a2 a3 h) := by
  unfold xX11_highest_51
  refine j_iinc E (c := 1) dX11_highest_51 3 rfl (by decide) (Nat.le_of_ble_eq_true rfl) (fun v1 => [(3, .int v1), (0, .ref (g.2.2.1 0)), (1, .int a1), (2, .int a2)]) (fun _ => rfl) (fun v1 => ?_)
  refine j_goto E 16 dX11_highest_54 rfl ?_
  exact j_sub [1, 2, 3, 0] (lv1 := [(0, .ref (g.2.2.1 0)), (1, .int a1), (2, .int a2), (3, .int v1)]) rfl (hK16 a1 a2 v1 h)
set_option maxRecDepth 20000 in
set_option maxHeartbeats 4000000 in
theorem jxX11_highest_49 {g : GC} (hg : isGM g) {X : MX} (N : Nat) (E : JE g mX11_highest X) (K16 : Int32 → Int32 → Int32 → HP → Option (Int32 × HP)) (hK16 : ∀ (a1 : Int32) (a2 : Int32) (a3 : Int32) (h : HP), J g mX11_highest X 16 [(0, .ref (g.2.2.1 0)), (1, .int a1), (2, .int a2), (3, .int a3)] [] h (K16 a1 a2 a3 h)) (a1 : Int32) (a3 : Int32) (h : HP) : J g mX11_highest X 49 [(0, .ref (g.2.2.1 0)), (1, .int a1), (3, .int a3)] [] h (xX11_highest_49 N K16 a1 a3 h) := by
  unfold xX11_highest_49
  refine j_iload_n E dX11_highest_49 2 rfl ?_
  refine j_istore0_n E dX11_highest_50 (Nat.le_of_ble_eq_true rfl) [(2, .int a3), (0, .ref (g.2.2.1 0)), (1, .int a1), (3, .int a3)] rfl ?_
  exact j_sub [1, 2, 0, 3] (lv1 := [(0, .ref (g.2.2.1 0)), (1, .int a1), (2, .int a3), (3, .int a3)]) rfl (jxX11_highest_51 hg N E K16 hK16 a1 a3 a3 h)
set_option maxRecDepth 20000 in
set_option maxHeartbeats 4000000 in
theorem jxX11_highest_76 {g : GC} (hg : isGM g) {X : MX} (N : Nat) (E : JE g mX11_highest X) (s0 : Int32) (h : HP) : J g mX11_highest X 76 [] [.int s0] h (xX11_highest_76 N s0 h) := by
  unfold xX11_highest_76
  exact j_ireturn E rfl dX11_highest_76
set_option maxRecDepth 20000 in
set_option maxHeartbeats 4000000 in
theorem jxX11_highest_67 {g : GC} (hg : isGM g) {X : MX} (N : Nat) (E : JE g mX11_highest X) (a2 : Int32) (h : HP) : J g mX11_highest X 67 [(2, .int a2)] [] h (xX11_highest_67 N a2 h) := by
  unfold xX11_highest_67
  refine j_iload_n E dX11_highest_67 0 rfl ?_
  refine j_goto E 76 dX11_highest_68 rfl ?_
  exact j_sub [] (lv1 := []) rfl (jxX11_highest_76 hg N E a2 h)
set_option maxRecDepth 20000 in
set_option maxHeartbeats 4000000 in
theorem jxX11_highest_16 {g : GC} (hg : isGM g) {X : MX} (N : Nat) (E : JE g mX11_highest X) : ∀ (n : Nat) (a1 : Int32) (a2 : Int32) (a3 : Int32) (h : HP), J g mX11_highest X 16 [(0, .ref (g.2.2.1 0)), (1, .int a1), (2, .int a2), (3, .int a3)] [] h (xX11_highest_16 N n a1 a2 a3 h) := by
  intro n
  induction n with
  | zero => intro a1 a2 a3 h; exact j_none
  | succ n ih =>
    intro a1 a2 a3 h
    unfold xX11_highest_16
    refine j_iload_n E dX11_highest_16 3 rfl ?_
    refine j_bipush E (v := 16) dX11_highest_17 (by decide) ?_
    refine j_cmp_ge E 57 dX11_highest_19 rfl ?_ ?_
    · refine j_iload_n E dX11_highest_57 1 rfl ?_
      refine j_if_eq E 67 dX11_highest_58 rfl ?_ ?_
      · exact j_sub [2] (lv1 := [(2, .int a2)]) rfl (jxX11_highest_67 hg N E a2 h)
      · refine j_iload_n E dX11_highest_61 2 rfl ?_
        refine j_bipush E (v := (-2)) dX11_highest_62 (by decide) ?_
        refine j_cmp_ne E 71 dX11_highest_64 rfl ?_ ?_
        · refine j_aload_n E dX11_highest_71 0 rfl ?_
          refine j_iload_n E dX11_highest_72 2 rfl ?_
          refine j_callvI (As := [.int a2]) (st := []) E (ok_X11_levelOf hg E.2.2.2.2.2.2.2.1 a2 h) (cM_0 hg) (cl_X11_320) (⟨Nat.le_of_ble_eq_true rfl, Nat.le_of_ble_eq_true rfl⟩) rfl rfl (Nat.le_of_ble_eq_true rfl) dX11_highest_73 (fun t1 h2 => ?_)
          exact j_sub [] (lv1 := []) rfl (jxX11_highest_76 hg N E t1 h2)
        · exact j_sub [2] (lv1 := [(2, .int a2)]) rfl (jxX11_highest_67 hg N E a2 h)
    · refine j_aload_n E dX11_highest_22 0 rfl ?_
      refine j_iload_n E dX11_highest_23 3 rfl ?_
      refine j_callvI (As := [.int a3]) (st := []) E (ok_X11_isTold hg E.2.2.2.2.2.2.2.1 a3 h) (cM_0 hg) (cl_X11_141) (⟨Nat.le_of_ble_eq_true rfl, Nat.le_of_ble_eq_true rfl⟩) rfl rfl (Nat.le_of_ble_eq_true rfl) dX11_highest_24 (fun t3 h4 => ?_)
      refine j_if_eq E 51 dX11_highest_27 rfl ?_ ?_
      · exact jxX11_highest_51 hg N E (xX11_highest_16 N n) ih a1 a2 a3 h4
      · refine j_iload_n E dX11_highest_30 2 rfl ?_
        refine j_bipush E (v := (-2)) dX11_highest_31 (by decide) ?_
        refine j_cmp_eq E 49 dX11_highest_33 rfl ?_ ?_
        · exact j_sub [0, 1, 3] (lv1 := [(0, .ref (g.2.2.1 0)), (1, .int a1), (3, .int a3)]) rfl (jxX11_highest_49 hg N E (xX11_highest_16 N n) ih a1 a3 h4)
        · refine j_aload_n E dX11_highest_36 0 rfl ?_
          refine j_iload_n E dX11_highest_37 3 rfl ?_
          refine j_callvI (As := [.int a3]) (st := []) E (ok_X11_levelOf hg E.2.2.2.2.2.2.2.1 a3 h4) (cM_0 hg) (cl_X11_320) (⟨Nat.le_of_ble_eq_true rfl, Nat.le_of_ble_eq_true rfl⟩) rfl rfl (Nat.le_of_ble_eq_true rfl) dX11_highest_38 (fun t5 h6 => ?_)
          refine j_aload_n E dX11_highest_41 0 rfl ?_
          refine j_iload_n E dX11_highest_42 2 rfl ?_
          refine j_callvI (As := [.int a2]) (st := [.int t5]) E (ok_X11_levelOf hg E.2.2.2.2.2.2.2.1 a2 h6) (cM_0 hg) (cl_X11_320) (⟨Nat.le_of_ble_eq_true rfl, Nat.le_of_ble_eq_true rfl⟩) rfl rfl (Nat.le_of_ble_eq_true rfl) dX11_highest_43 (fun t7 h8 => ?_)
          refine j_cmp_le E 51 dX11_highest_46 rfl ?_ ?_
          · exact jxX11_highest_51 hg N E (xX11_highest_16 N n) ih a1 a2 a3 h8
          · exact j_sub [0, 1, 3] (lv1 := [(0, .ref (g.2.2.1 0)), (1, .int a1), (3, .int a3)]) rfl (jxX11_highest_49 hg N E (xX11_highest_16 N n) ih a1 a3 h8)
set_option maxRecDepth 20000 in
set_option maxHeartbeats 4000000 in
theorem jxX11_highest {g : GC} (hg : isGM g) {X : MX} (N : Nat) (E : JE g mX11_highest X) (a1 : Int32) (h : HP) : J g mX11_highest X 0 [(0, .ref (g.2.2.1 0)), (1, .int a1)] [] h (xX11_highest N a1 h) := by
  unfold xX11_highest
  refine j_iload_n E dX11_highest_0 1 rfl ?_
  refine j_iconst E (v := 0) dX11_highest_1 (by decide) ?_
  refine j_iconst E (v := 1) dX11_highest_2 (by decide) ?_
  refine j_callsI (As := [.int a1, .int 0, .int 1]) (st := []) E (ok_X11_in hg E.2.2.2.2.2.2.2.1 a1 0 1 h) (cl_X11_129) (⟨Nat.le_of_ble_eq_true rfl, Nat.le_of_ble_eq_true rfl⟩) rfl rfl (Nat.le_of_ble_eq_true rfl) dX11_highest_3 (fun t1 h2 => ?_)
  refine j_if_ne E 11 dX11_highest_6 rfl ?_ ?_
  · refine j_bipush E (v := (-2)) dX11_highest_11 (by decide) ?_
    refine j_istore0_n E dX11_highest_13 (Nat.le_of_ble_eq_true rfl) [(2, .int (-2)), (0, .ref (g.2.2.1 0)), (1, .int a1)] rfl ?_
    refine j_iconst E (v := 0) dX11_highest_14 (by decide) ?_
    refine j_istore0_n E dX11_highest_15 (Nat.le_of_ble_eq_true rfl) [(3, .int 0), (2, .int (-2)), (0, .ref (g.2.2.1 0)), (1, .int a1)] rfl ?_
    exact j_sub [2, 3, 1, 0] (lv1 := [(0, .ref (g.2.2.1 0)), (1, .int a1), (2, .int (-2)), (3, .int 0)]) rfl (jxX11_highest_16 hg N E N a1 (-2) 0 h2)
  · refine j_iconst E (v := (-1)) dX11_highest_9 (by decide) ?_
    exact j_ireturn E rfl dX11_highest_10
theorem ok_X11_highest {g : GC} (hg : isGM g) (hI : gI g) (N : Nat) (a1 : Int32) (h : HP) : Ok g yX11_highest mX11_highest [.ref (g.2.2.1 0), .int a1] h (xX11_highest N a1 h) := Ok.of hI (by decide) rfl (Nat.le_of_ble_eq_true rfl) (fun X E => jxX11_highest hg N E a1 h)
set_option maxRecDepth 20000 in
set_option maxHeartbeats 4000000 in
theorem jxX11_lowestOf_2 {g : GC} (hg : isGM g) {X : MX} (N : Nat) (E : JE g mX11_lowestOf X) : ∀ (n : Nat) (a0 : Int32) (a1 : Int32) (h : HP), J g mX11_lowestOf X 2 [(0, .int a0), (1, .int a1)] [] h (xX11_lowestOf_2 N n a0 a1 h) := by
  intro n
  induction n with
  | zero => intro a0 a1 h; exact j_none
  | succ n ih =>
    intro a0 a1 h
    unfold xX11_lowestOf_2
    refine j_iload_n E dX11_lowestOf_2 0 rfl ?_
    refine j_iload_n E dX11_lowestOf_3 1 rfl ?_
    refine j_callsI (As := [.int a0, .int a1]) (st := []) E (ok_X11_has hg E.2.2.2.2.2.2.2.1 a0 a1 h) (cl_X11_137) (⟨Nat.le_of_ble_eq_true rfl, Nat.le_of_ble_eq_true rfl⟩) rfl rfl (Nat.le_of_ble_eq_true rfl) dX11_lowestOf_4 (fun t1 h2 => ?_)
    refine j_if_ne E 17 dX11_lowestOf_7 rfl ?_ ?_
    · refine j_iload_n E dX11_lowestOf_17 1 rfl ?_
      exact j_ireturn E rfl dX11_lowestOf_18
    · refine j_iload_n E dX11_lowestOf_10 1 rfl ?_
      refine j_iconst E (v := 1) dX11_lowestOf_11 (by decide) ?_
      refine j_iadd E dX11_lowestOf_12 ?_
      refine j_istore_n E dX11_lowestOf_13 (Nat.le_of_ble_eq_true rfl) (fun v3 => [(1, .int v3), (0, .int a0)]) (fun _ => rfl) (fun v3 => ?_)
      refine j_goto E 2 dX11_lowestOf_14 rfl ?_
      exact j_sub [1, 0] (lv1 := [(0, .int a0), (1, .int v3)]) rfl (ih a0 v3 h2)
set_option maxRecDepth 20000 in
set_option maxHeartbeats 4000000 in
theorem jxX11_lowestOf {g : GC} (hg : isGM g) {X : MX} (N : Nat) (E : JE g mX11_lowestOf X) (a0 : Int32) (h : HP) : J g mX11_lowestOf X 0 [(0, .int a0)] [] h (xX11_lowestOf N a0 h) := by
  unfold xX11_lowestOf
  refine j_iconst E (v := 0) dX11_lowestOf_0 (by decide) ?_
  refine j_istore0_n E dX11_lowestOf_1 (Nat.le_of_ble_eq_true rfl) [(1, .int 0), (0, .int a0)] rfl ?_
  exact j_sub [1, 0] (lv1 := [(0, .int a0), (1, .int 0)]) rfl (jxX11_lowestOf_2 hg N E N a0 0 h)
theorem ok_X11_lowestOf {g : GC} (hg : isGM g) (hI : gI g) (N : Nat) (a0 : Int32) (h : HP) : Ok g yX11_lowestOf mX11_lowestOf [.int a0] h (xX11_lowestOf N a0 h) := Ok.of hI (by decide) rfl (Nat.le_of_ble_eq_true rfl) (fun X E => jxX11_lowestOf hg N E a0 h)
set_option maxRecDepth 20000 in
set_option maxHeartbeats 4000000 in
theorem jxX11_longest_17 {g : GC} (hg : isGM g) {X : MX} (N : Nat) (E : JE g mX11_longest X) (h : HP) : J g mX11_longest X 17 [] [] h (xX11_longest_17 N h) := by
  unfold xX11_longest_17
  refine j_iconst E (v := (-1)) dX11_longest_17 (by decide) ?_
  exact j_ireturn E rfl dX11_longest_18
set_option maxRecDepth 20000 in
set_option maxHeartbeats 4000000 in
theorem jxX11_longest_221 {g : GC} (hg : isGM g) {X : MX} (N : Nat) (E : JE g mX11_longest X) (K170 : Int32 → Int32 → Int32 → Int32 → Int32 → Int32 → Int32 → HP → Option (Int32 × HP)) (hK170 : ∀ (a2 : Int32) (a3 : Int32) (a4 : Int32) (a5 : Int32) (a6 : Int32) (a7 : Int32) (a8 : Int32) (h : HP), J g mX11_longest X 170 [(0, .ref (g.2.2.1 0)), (2, .int a2), (3, .int a3), (4, .int a4), (5, .int a5), (6, .int a6), (7, .int a7), (8, .int a8)] [] h (K170 a2 a3 a4 a5 a6 a7 a8 h)) (a2 : Int32) (a3 : Int32) (a4 : Int32) (a5 : Int32) (a6 : Int32) (a7 : Int32) (a8 : Int32) (h : HP) : J g mX11_longest X 221 [(0, .ref (g.2.2.1 0)), (2, .int a2), (3, .int a3), (4, .int a4), (5, .int a5), (6, .int a6), (7, .int a7), (8, .int a8)] [] h (xX11_longest_221 N K170 a2 a3 a4 a5 a6 a7 a8 h) := by
  unfold xX11_longest_221
  refine j_iinc E (c := 1) dX11_longest_221 7 rfl (by decide) (Nat.le_of_ble_eq_true rfl) (fun v1 => [(8, .int v1), (0, .ref (g.2.2.1 0)), (2, .int a2), (3, .int a3), (4, .int a4), (5, .int a5), (6, .int a6), (7, .int a7)]) (fun _ => rfl) (fun v1 => ?_)
  refine j_goto E 170 dX11_longest_224 rfl ?_
  exact j_sub [1, 2, 3, 4, 5, 6, 7, 0] (lv1 := [(0, .ref (g.2.2.1 0)), (2, .int a2), (3, .int a3), (4, .int a4), (5, .int a5), (6, .int a6), (7, .int a7), (8, .int v1)]) rfl (hK170 a2 a3 a4 a5 a6 a7 v1 h)
set_option maxRecDepth 20000 in
set_option maxHeartbeats 4000000 in
theorem jxX11_longest_227 {g : GC} (hg : isGM g) {X : MX} (N : Nat) (E : JE g mX11_longest X) (K128 : Int32 → Int32 → Int32 → Int32 → Int32 → HP → Option (Int32 × HP)) (hK128 : ∀ (a2 : Int32) (a3 : Int32) (a4 : Int32) (a5 : Int32) (a6 : Int32) (h : HP), J g mX11_longest X 128 [(0, .ref (g.2.2.1 0)), (2, .int a2), (3, .int a3), (4, .int a4), (5, .int a5), (6, .int a6)] [] h (K128 a2 a3 a4 a5 a6 h)) (a2 : Int32) (a3 : Int32) (a4 : Int32) (a5 : Int32) (a6 : Int32) (h : HP) : J g mX11_longest X 227 [(0, .ref (g.2.2.1 0)), (2, .int a2), (3, .int a3), (4, .int a4), (5, .int a5), (6, .int a6)] [] h (xX11_longest_227 N K128 a2 a3 a4 a5 a6 h) := by
  unfold xX11_longest_227
  refine j_iinc E (c := 1) dX11_longest_227 5 rfl (by decide) (Nat.le_of_ble_eq_true rfl) (fun v1 => [(6, .int v1), (0, .ref (g.2.2.1 0)), (2, .int a2), (3, .int a3), (4, .int a4), (5, .int a5)]) (fun _ => rfl) (fun v1 => ?_)
  refine j_goto E 128 dX11_longest_230 rfl ?_
  exact j_sub [1, 2, 3, 4, 5, 0] (lv1 := [(0, .ref (g.2.2.1 0)), (2, .int a2), (3, .int a3), (4, .int a4), (5, .int a5), (6, .int v1)]) rfl (hK128 a2 a3 a4 a5 v1 h)
set_option maxRecDepth 20000 in
set_option maxHeartbeats 4000000 in
theorem jxX11_longest_170 {g : GC} (hg : isGM g) {X : MX} (N : Nat) (E : JE g mX11_longest X) (K128 : Int32 → Int32 → Int32 → Int32 → Int32 → HP → Option (Int32 × HP)) (hK128 : ∀ (a2 : Int32) (a3 : Int32) (a4 : Int32) (a5 : Int32) (a6 : Int32) (h : HP), J g mX11_longest X 128 [(0, .ref (g.2.2.1 0)), (2, .int a2), (3, .int a3), (4, .int a4), (5, .int a5), (6, .int a6)] [] h (K128 a2 a3 a4 a5 a6 h)) : ∀ (n : Nat) (a2 : Int32) (a3 : Int32) (a4 : Int32) (a5 : Int32) (a6 : Int32) (a7 : Int32) (a8 : Int32) (h : HP), J g mX11_longest X 170 [(0, .ref (g.2.2.1 0)), (2, .int a2), (3, .int a3), (4, .int a4), (5, .int a5), (6, .int a6), (7, .int a7), (8, .int a8)] [] h (xX11_longest_170 N K128 n a2 a3 a4 a5 a6 a7 a8 h) := by
  intro n
  induction n with
  | zero => intro a2 a3 a4 a5 a6 a7 a8 h; exact j_none
  | succ n ih =>
    intro a2 a3 a4 a5 a6 a7 a8 h
    unfold xX11_longest_170
    refine j_iload E dX11_longest_170 7 rfl ?_
    refine j_bipush E (v := 16) dX11_longest_172 (by decide) ?_
    refine j_cmp_ge E 227 dX11_longest_174 rfl ?_ ?_
    · exact j_sub [0, 1, 2, 3, 4, 5] (lv1 := [(0, .ref (g.2.2.1 0)), (2, .int a2), (3, .int a3), (4, .int a4), (5, .int a5), (6, .int a6)]) rfl (jxX11_longest_227 hg N E K128 hK128 a2 a3 a4 a5 a6 h)
    · refine j_iload E dX11_longest_177 6 rfl ?_
      refine j_if_eq E 227 dX11_longest_179 rfl ?_ ?_
      · exact j_sub [0, 1, 2, 3, 4, 5] (lv1 := [(0, .ref (g.2.2.1 0)), (2, .int a2), (3, .int a3), (4, .int a4), (5, .int a5), (6, .int a6)]) rfl (jxX11_longest_227 hg N E K128 hK128 a2 a3 a4 a5 a6 h)
      · refine j_iload E dX11_longest_182 6 rfl ?_
        refine j_iload E dX11_longest_184 7 rfl ?_
        refine j_callsI (As := [.int a7, .int a8]) (st := []) E (ok_X11_has hg E.2.2.2.2.2.2.2.1 a7 a8 h) (cl_X11_137) (⟨Nat.le_of_ble_eq_true rfl, Nat.le_of_ble_eq_true rfl⟩) rfl rfl (Nat.le_of_ble_eq_true rfl) dX11_longest_186 (fun t1 h2 => ?_)
        refine j_if_eq E 221 dX11_longest_189 rfl ?_ ?_
        · exact jxX11_longest_221 hg N E (xX11_longest_170 N K128 n) ih a2 a3 a4 a5 a6 a7 a8 h2
        · refine j_aload_n E dX11_longest_192 0 rfl ?_
          refine j_getr E f_X11_108 (cM_0 hg) 33 rfl dX11_longest_193 ?_
          refine j_iload E dX11_longest_196 4 rfl ?_
          refine j_iconst E (v := 1) dX11_longest_198 (by decide) ?_
          refine j_iload E dX11_longest_199 7 rfl ?_
          refine j_ishl E dX11_longest_201 ?_
          refine j_ior E dX11_longest_202 ?_
          refine j_aload_n E dX11_longest_203 0 rfl ?_
          refine j_getr E f_X11_108 (cM_0 hg) 33 rfl dX11_longest_204 ?_
          refine j_iload E dX11_longest_207 4 rfl ?_
          refine j_iconst E (v := 1) dX11_longest_209 (by decide) ?_
          refine j_iload E dX11_longest_210 7 rfl ?_
          refine j_ishl E dX11_longest_212 ?_
          refine j_ior E dX11_longest_213 ?_
          refine j_iald E (cM_33 hg) dX11_longest_214 (fun t3 => ?_)
          refine j_iconst E (v := 1) dX11_longest_215 (by decide) ?_
          refine j_iload E dX11_longest_216 7 rfl ?_
          refine j_ishl E dX11_longest_218 ?_
          refine j_ior E dX11_longest_219 ?_
          refine j_iast E (cM_33 hg) dX11_longest_220 (fun h4 => ?_)
          exact jxX11_longest_221 hg N E (xX11_longest_170 N K128 n) ih a2 a3 a4 a5 a6 a7 a8 h4
set_option maxRecDepth 20000 in
set_option maxHeartbeats 4000000 in
theorem jxX11_longest_165 {g : GC} (hg : isGM g) {X : MX} (N : Nat) (E : JE g mX11_longest X) (K128 : Int32 → Int32 → Int32 → Int32 → Int32 → HP → Option (Int32 × HP)) (hK128 : ∀ (a2 : Int32) (a3 : Int32) (a4 : Int32) (a5 : Int32) (a6 : Int32) (h : HP), J g mX11_longest X 128 [(0, .ref (g.2.2.1 0)), (2, .int a2), (3, .int a3), (4, .int a4), (5, .int a5), (6, .int a6)] [] h (K128 a2 a3 a4 a5 a6 h)) (a2 : Int32) (a3 : Int32) (a4 : Int32) (a5 : Int32) (a6 : Int32) (s0 : Int32) (h : HP) : J g mX11_longest X 165 [(0, .ref (g.2.2.1 0)), (2, .int a2), (3, .int a3), (4, .int a4), (5, .int a5), (6, .int a6)] [.int s0] h (xX11_longest_165 N K128 a2 a3 a4 a5 a6 s0 h) := by
  unfold xX11_longest_165
  refine j_istore0 E dX11_longest_165 (Nat.le_of_ble_eq_true rfl) [(7, .int s0), (0, .ref (g.2.2.1 0)), (2, .int a2), (3, .int a3), (4, .int a4), (5, .int a5), (6, .int a6)] rfl ?_
  refine j_iconst E (v := 0) dX11_longest_167 (by decide) ?_
  refine j_istore0 E dX11_longest_168 (Nat.le_of_ble_eq_true rfl) [(8, .int 0), (7, .int s0), (0, .ref (g.2.2.1 0)), (2, .int a2), (3, .int a3), (4, .int a4), (5, .int a5), (6, .int a6)] rfl ?_
  exact j_sub [2, 3, 4, 5, 6, 7, 1, 0] (lv1 := [(0, .ref (g.2.2.1 0)), (2, .int a2), (3, .int a3), (4, .int a4), (5, .int a5), (6, .int a6), (7, .int s0), (8, .int 0)]) rfl (jxX11_longest_170 hg N E K128 hK128 N a2 a3 a4 a5 a6 s0 0 h)
set_option maxRecDepth 20000 in
set_option maxHeartbeats 4000000 in
theorem jxX11_longest_233 {g : GC} (hg : isGM g) {X : MX} (N : Nat) (E : JE g mX11_longest X) (K63 : Int32 → Int32 → Int32 → Int32 → HP → Option (Int32 × HP)) (hK63 : ∀ (a2 : Int32) (a3 : Int32) (a4 : Int32) (a5 : Int32) (h : HP), J g mX11_longest X 63 [(0, .ref (g.2.2.1 0)), (2, .int a2), (3, .int a3), (4, .int a4), (5, .int a5)] [] h (K63 a2 a3 a4 a5 h)) (a2 : Int32) (a3 : Int32) (a4 : Int32) (a5 : Int32) (h : HP) : J g mX11_longest X 233 [(0, .ref (g.2.2.1 0)), (2, .int a2), (3, .int a3), (4, .int a4), (5, .int a5)] [] h (xX11_longest_233 N K63 a2 a3 a4 a5 h) := by
  unfold xX11_longest_233
  refine j_iinc E (c := 1) dX11_longest_233 4 rfl (by decide) (Nat.le_of_ble_eq_true rfl) (fun v1 => [(5, .int v1), (0, .ref (g.2.2.1 0)), (2, .int a2), (3, .int a3), (4, .int a4)]) (fun _ => rfl) (fun v1 => ?_)
  refine j_goto E 63 dX11_longest_236 rfl ?_
  exact j_sub [1, 2, 3, 4, 0] (lv1 := [(0, .ref (g.2.2.1 0)), (2, .int a2), (3, .int a3), (4, .int a4), (5, .int v1)]) rfl (hK63 a2 a3 a4 v1 h)
set_option maxRecDepth 20000 in
set_option maxHeartbeats 4000000 in
theorem jxX11_longest_128 {g : GC} (hg : isGM g) {X : MX} (N : Nat) (E : JE g mX11_longest X) (K63 : Int32 → Int32 → Int32 → Int32 → HP → Option (Int32 × HP)) (hK63 : ∀ (a2 : Int32) (a3 : Int32) (a4 : Int32) (a5 : Int32) (h : HP), J g mX11_longest X 63 [(0, .ref (g.2.2.1 0)), (2, .int a2), (3, .int a3), (4, .int a4), (5, .int a5)] [] h (K63 a2 a3 a4 a5 h)) : ∀ (n : Nat) (a2 : Int32) (a3 : Int32) (a4 : Int32) (a5 : Int32) (a6 : Int32) (h : HP), J g mX11_longest X 128 [(0, .ref (g.2.2.1 0)), (2, .int a2), (3, .int a3), (4, .int a4), (5, .int a5), (6, .int a6)] [] h (xX11_longest_128 N K63 n a2 a3 a4 a5 a6 h) := by
  intro n
  induction n with
  | zero => intro a2 a3 a4 a5 a6 h; exact j_none
  | succ n ih =>
    intro a2 a3 a4 a5 a6 h
    unfold xX11_longest_128
    refine j_iload E dX11_longest_128 5 rfl ?_
    refine j_bipush E (v := 16) dX11_longest_130 (by decide) ?_
    refine j_cmp_ge E 233 dX11_longest_132 rfl ?_ ?_
    · exact j_sub [0, 1, 2, 3, 4] (lv1 := [(0, .ref (g.2.2.1 0)), (2, .int a2), (3, .int a3), (4, .int a4), (5, .int a5)]) rfl (jxX11_longest_233 hg N E K63 hK63 a2 a3 a4 a5 h)
    · refine j_aload_n E dX11_longest_135 0 rfl ?_
      refine j_getr E f_X11_108 (cM_0 hg) 33 rfl dX11_longest_136 ?_
      refine j_iload E dX11_longest_139 4 rfl ?_
      refine j_iald E (cM_33 hg) dX11_longest_141 (fun t1 => ?_)
      refine j_iload E dX11_longest_142 5 rfl ?_
      refine j_callsI (As := [.int t1, .int a6]) (st := []) E (ok_X11_has hg E.2.2.2.2.2.2.2.1 t1 a6 h) (cl_X11_137) (⟨Nat.le_of_ble_eq_true rfl, Nat.le_of_ble_eq_true rfl⟩) rfl rfl (Nat.le_of_ble_eq_true rfl) dX11_longest_144 (fun t2 h3 => ?_)
      refine j_if_eq E 164 dX11_longest_147 rfl ?_ ?_
      · refine j_iconst E (v := 0) dX11_longest_164 (by decide) ?_
        exact jxX11_longest_165 hg N E (xX11_longest_128 N K63 n) ih a2 a3 a4 a5 a6 0 h3
      · refine j_aload_n E dX11_longest_150 0 rfl ?_
        refine j_iload E dX11_longest_151 5 rfl ?_
        refine j_callvI (As := [.int a6]) (st := []) E (ok_X11_nextTo hg E.2.2.2.2.2.2.2.1 N a6 h3) (cM_0 hg) (cl_X11_305) (⟨Nat.le_of_ble_eq_true rfl, Nat.le_of_ble_eq_true rfl⟩) rfl rfl (Nat.le_of_ble_eq_true rfl) dX11_longest_153 (fun t4 h5 => ?_)
        refine j_iload E dX11_longest_156 4 rfl ?_
        refine j_iconst E (v := (-1)) dX11_longest_158 (by decide) ?_
        refine j_ixor E dX11_longest_159 ?_
        refine j_iand E dX11_longest_160 ?_
        refine j_goto E 165 dX11_longest_161 rfl ?_
        exact jxX11_longest_165 hg N E (xX11_longest_128 N K63 n) ih a2 a3 a4 a5 a6 (t4 &&& (a5 ^^^ (-1))) h5
set_option maxRecDepth 20000 in
set_option maxHeartbeats 4000000 in
theorem jxX11_longest_125 {g : GC} (hg : isGM g) {X : MX} (N : Nat) (E : JE g mX11_longest X) (K63 : Int32 → Int32 → Int32 → Int32 → HP → Option (Int32 × HP)) (hK63 : ∀ (a2 : Int32) (a3 : Int32) (a4 : Int32) (a5 : Int32) (h : HP), J g mX11_longest X 63 [(0, .ref (g.2.2.1 0)), (2, .int a2), (3, .int a3), (4, .int a4), (5, .int a5)] [] h (K63 a2 a3 a4 a5 h)) (a2 : Int32) (a3 : Int32) (a4 : Int32) (a5 : Int32) (h : HP) : J g mX11_longest X 125 [(0, .ref (g.2.2.1 0)), (2, .int a2), (3, .int a3), (4, .int a4), (5, .int a5)] [] h (xX11_longest_125 N K63 a2 a3 a4 a5 h) := by
  unfold xX11_longest_125
  refine j_iconst E (v := 0) dX11_longest_125 (by decide) ?_
  refine j_istore0 E dX11_longest_126 (Nat.le_of_ble_eq_true rfl) [(6, .int 0), (0, .ref (g.2.2.1 0)), (2, .int a2), (3, .int a3), (4, .int a4), (5, .int a5)] rfl ?_
  exact j_sub [1, 2, 3, 4, 5, 0] (lv1 := [(0, .ref (g.2.2.1 0)), (2, .int a2), (3, .int a3), (4, .int a4), (5, .int a5), (6, .int 0)]) rfl (jxX11_longest_128 hg N E K63 hK63 N a2 a3 a4 a5 0 h)
set_option maxRecDepth 20000 in
set_option maxHeartbeats 4000000 in
theorem jxX11_longest_101 {g : GC} (hg : isGM g) {X : MX} (N : Nat) (E : JE g mX11_longest X) (K63 : Int32 → Int32 → Int32 → Int32 → HP → Option (Int32 × HP)) (hK63 : ∀ (a2 : Int32) (a3 : Int32) (a4 : Int32) (a5 : Int32) (h : HP), J g mX11_longest X 63 [(0, .ref (g.2.2.1 0)), (2, .int a2), (3, .int a3), (4, .int a4), (5, .int a5)] [] h (K63 a2 a3 a4 a5 h)) (a2 : Int32) (a3 : Int32) (a4 : Int32) (a5 : Int32) (h : HP) : J g mX11_longest X 101 [(0, .ref (g.2.2.1 0)), (2, .int a2), (3, .int a3), (4, .int a4), (5, .int a5)] [] h (xX11_longest_101 N K63 a2 a3 a4 a5 h) := by
  unfold xX11_longest_101
  refine j_iload E dX11_longest_101 4 rfl ?_
  refine j_callsI (As := [.int a5]) (st := []) E (ok_X11_bits hg E.2.2.2.2.2.2.2.1 N a5 h) (cl_X11_384) (⟨Nat.le_of_ble_eq_true rfl, Nat.le_of_ble_eq_true rfl⟩) rfl rfl (Nat.le_of_ble_eq_true rfl) dX11_longest_103 (fun t1 h2 => ?_)
  refine j_iload_n E dX11_longest_106 2 rfl ?_
  refine j_callsI (As := [.int a3]) (st := [.int t1]) E (ok_X11_bits hg E.2.2.2.2.2.2.2.1 N a3 h2) (cl_X11_384) (⟨Nat.le_of_ble_eq_true rfl, Nat.le_of_ble_eq_true rfl⟩) rfl rfl (Nat.le_of_ble_eq_true rfl) dX11_longest_107 (fun t3 h4 => ?_)
  refine j_cmp_ne E 125 dX11_longest_110 rfl ?_ ?_
  · exact jxX11_longest_125 hg N E K63 hK63 a2 a3 a4 a5 h4
  · refine j_iload E dX11_longest_113 3 rfl ?_
    refine j_aload_n E dX11_longest_115 0 rfl ?_
    refine j_getr E f_X11_108 (cM_0 hg) 33 rfl dX11_longest_116 ?_
    refine j_iload E dX11_longest_119 4 rfl ?_
    refine j_iald E (cM_33 hg) dX11_longest_121 (fun t5 => ?_)
    refine j_ior E dX11_longest_122 ?_
    refine j_istore E dX11_longest_123 (Nat.le_of_ble_eq_true rfl) (fun v6 => [(4, .int v6), (0, .ref (g.2.2.1 0)), (2, .int a2), (3, .int a3), (5, .int a5)]) (fun _ => rfl) (fun v6 => ?_)
    exact j_sub [1, 2, 3, 0, 4] (lv1 := [(0, .ref (g.2.2.1 0)), (2, .int a2), (3, .int a3), (4, .int v6), (5, .int a5)]) rfl (jxX11_longest_125 hg N E K63 hK63 a2 a3 v6 a5 h4)
set_option maxRecDepth 20000 in
set_option maxHeartbeats 4000000 in
theorem jxX11_longest_257 {g : GC} (hg : isGM g) {X : MX} (N : Nat) (E : JE g mX11_longest X) (s0 : Int32) (h : HP) : J g mX11_longest X 257 [] [.int s0] h (xX11_longest_257 N s0 h) := by
  unfold xX11_longest_257
  exact j_ireturn E rfl dX11_longest_257
set_option maxRecDepth 20000 in
set_option maxHeartbeats 4000000 in
theorem jxX11_longest_63 {g : GC} (hg : isGM g) {X : MX} (N : Nat) (E : JE g mX11_longest X) : ∀ (n : Nat) (a2 : Int32) (a3 : Int32) (a4 : Int32) (a5 : Int32) (h : HP), J g mX11_longest X 63 [(0, .ref (g.2.2.1 0)), (2, .int a2), (3, .int a3), (4, .int a4), (5, .int a5)] [] h (xX11_longest_63 N n a2 a3 a4 a5 h) := by
  intro n
  induction n with
  | zero => intro a2 a3 a4 a5 h; exact j_none
  | succ n ih =>
    intro a2 a3 a4 a5 h
    unfold xX11_longest_63
    refine j_iload E dX11_longest_63 4 rfl ?_
    refine j_ldc E (v := 65536) k_X11_101 dX11_longest_65 ?_
    refine j_cmp_ge E 239 dX11_longest_67 rfl ?_ ?_
    · refine j_iload_n E dX11_longest_239 1 rfl ?_
      refine j_if_ne E 252 dX11_longest_240 rfl ?_ ?_
      · refine j_iload E dX11_longest_252 3 rfl ?_
        refine j_callsI (As := [.int a4]) (st := []) E (ok_X11_lowestOf hg E.2.2.2.2.2.2.2.1 N a4 h) (cl_X11_396) (⟨Nat.le_of_ble_eq_true rfl, Nat.le_of_ble_eq_true rfl⟩) rfl rfl (Nat.le_of_ble_eq_true rfl) dX11_longest_254 (fun t1 h2 => ?_)
        exact j_sub [] (lv1 := []) rfl (jxX11_longest_257 hg N E t1 h2)
      · refine j_iload_n E dX11_longest_243 2 rfl ?_
        refine j_callsI (As := [.int a3]) (st := []) E (ok_X11_bits hg E.2.2.2.2.2.2.2.1 N a3 h) (cl_X11_384) (⟨Nat.le_of_ble_eq_true rfl, Nat.le_of_ble_eq_true rfl⟩) rfl rfl (Nat.le_of_ble_eq_true rfl) dX11_longest_244 (fun t3 h4 => ?_)
        refine j_iconst E (v := 1) dX11_longest_247 (by decide) ?_
        refine j_isub E dX11_longest_248 ?_
        refine j_goto E 257 dX11_longest_249 rfl ?_
        exact j_sub [] (lv1 := []) rfl (jxX11_longest_257 hg N E (t3 - 1) h4)
    · refine j_aload_n E dX11_longest_70 0 rfl ?_
      refine j_getr E f_X11_108 (cM_0 hg) 33 rfl dX11_longest_71 ?_
      refine j_iload E dX11_longest_74 4 rfl ?_
      refine j_iald E (cM_33 hg) dX11_longest_76 (fun t5 => ?_)
      refine j_if_ne E 83 dX11_longest_77 rfl ?_ ?_
      · refine j_iload E dX11_longest_83 4 rfl ?_
        refine j_callsI (As := [.int a5]) (st := []) E (ok_X11_bits hg E.2.2.2.2.2.2.2.1 N a5 h) (cl_X11_384) (⟨Nat.le_of_ble_eq_true rfl, Nat.le_of_ble_eq_true rfl⟩) rfl rfl (Nat.le_of_ble_eq_true rfl) dX11_longest_85 (fun t6 h7 => ?_)
        refine j_iload_n E dX11_longest_88 2 rfl ?_
        refine j_callsI (As := [.int a3]) (st := [.int t6]) E (ok_X11_bits hg E.2.2.2.2.2.2.2.1 N a3 h7) (cl_X11_384) (⟨Nat.le_of_ble_eq_true rfl, Nat.le_of_ble_eq_true rfl⟩) rfl rfl (Nat.le_of_ble_eq_true rfl) dX11_longest_89 (fun t8 h9 => ?_)
        refine j_cmp_le E 101 dX11_longest_92 rfl ?_ ?_
        · exact jxX11_longest_101 hg N E (xX11_longest_63 N n) ih a2 a3 a4 a5 h9
        · refine j_iload E dX11_longest_95 4 rfl ?_
          refine j_istore0_n E dX11_longest_97 (Nat.le_of_ble_eq_true rfl) [(3, .int a5), (0, .ref (g.2.2.1 0)), (2, .int a2), (4, .int a4), (5, .int a5)] rfl ?_
          refine j_iconst E (v := 0) dX11_longest_98 (by decide) ?_
          refine j_istore0 E dX11_longest_99 (Nat.le_of_ble_eq_true rfl) [(4, .int 0), (3, .int a5), (0, .ref (g.2.2.1 0)), (2, .int a2), (5, .int a5)] rfl ?_
          exact j_sub [2, 3, 1, 0, 4] (lv1 := [(0, .ref (g.2.2.1 0)), (2, .int a2), (3, .int a5), (4, .int 0), (5, .int a5)]) rfl (jxX11_longest_101 hg N E (xX11_longest_63 N n) ih a2 a5 0 a5 h9)
      · refine j_goto E 233 dX11_longest_80 rfl ?_
        exact jxX11_longest_233 hg N E (xX11_longest_63 N n) ih a2 a3 a4 a5 h
set_option maxRecDepth 20000 in
set_option maxHeartbeats 4000000 in
theorem jxX11_longest_21 {g : GC} (hg : isGM g) {X : MX} (N : Nat) (E : JE g mX11_longest X) : ∀ (n : Nat) (a1 : Int32) (a2 : Int32) (a3 : Int32) (h : HP), J g mX11_longest X 21 [(0, .ref (g.2.2.1 0)), (1, .int a1), (2, .int a2), (3, .int a3)] [] h (xX11_longest_21 N n a1 a2 a3 h) := by
  intro n
  induction n with
  | zero => intro a1 a2 a3 h; exact j_none
  | succ n ih =>
    intro a1 a2 a3 h
    unfold xX11_longest_21
    refine j_iload_n E dX11_longest_21 3 rfl ?_
    refine j_ldc E (v := 65536) k_X11_101 dX11_longest_22 ?_
    refine j_cmp_ge E 40 dX11_longest_24 rfl ?_ ?_
    · refine j_aload_n E dX11_longest_40 0 rfl ?_
      refine j_getr E f_X11_108 (cM_0 hg) 33 rfl dX11_longest_41 ?_
      refine j_iconst E (v := 1) dX11_longest_44 (by decide) ?_
      refine j_iload_n E dX11_longest_45 1 rfl ?_
      refine j_ishl E dX11_longest_46 ?_
      refine j_iconst E (v := 1) dX11_longest_47 (by decide) ?_
      refine j_iload_n E dX11_longest_48 1 rfl ?_
      refine j_ishl E dX11_longest_49 ?_
      refine j_iast E (cM_33 hg) dX11_longest_50 (fun h1 => ?_)
      refine j_iconst E (v := 1) dX11_longest_51 (by decide) ?_
      refine j_iload_n E dX11_longest_52 1 rfl ?_
      refine j_ishl E dX11_longest_53 ?_
      refine j_istore_n E dX11_longest_54 (Nat.le_of_ble_eq_true rfl) (fun v2 => [(3, .int v2), (0, .ref (g.2.2.1 0)), (1, .int a1), (2, .int a2)]) (fun _ => rfl) (fun v2 => ?_)
      refine j_iconst E (v := 1) dX11_longest_55 (by decide) ?_
      refine j_iload_n E dX11_longest_56 2 rfl ?_
      refine j_ishl E dX11_longest_57 ?_
      refine j_istore E dX11_longest_58 (Nat.le_of_ble_eq_true rfl) (fun v3 => [(4, .int v3), (3, .int v2), (0, .ref (g.2.2.1 0)), (1, .int a1), (2, .int a2)]) (fun _ => rfl) (fun v3 => ?_)
      refine j_iconst E (v := 1) dX11_longest_60 (by decide) ?_
      refine j_istore0 E dX11_longest_61 (Nat.le_of_ble_eq_true rfl) [(5, .int 1), (4, .int v3), (3, .int v2), (0, .ref (g.2.2.1 0)), (1, .int a1), (2, .int a2)] rfl ?_
      exact j_sub [3, 5, 2, 1, 0] (lv1 := [(0, .ref (g.2.2.1 0)), (2, .int a2), (3, .int v2), (4, .int v3), (5, .int 1)]) rfl (jxX11_longest_63 hg N E N a2 v2 v3 1 h1)
    · refine j_aload_n E dX11_longest_27 0 rfl ?_
      refine j_getr E f_X11_108 (cM_0 hg) 33 rfl dX11_longest_28 ?_
      refine j_iload_n E dX11_longest_31 3 rfl ?_
      refine j_iconst E (v := 0) dX11_longest_32 (by decide) ?_
      refine j_iast E (cM_33 hg) dX11_longest_33 (fun h4 => ?_)
      refine j_iinc E (c := 1) dX11_longest_34 3 rfl (by decide) (Nat.le_of_ble_eq_true rfl) (fun v5 => [(3, .int v5), (0, .ref (g.2.2.1 0)), (1, .int a1), (2, .int a2)]) (fun _ => rfl) (fun v5 => ?_)
      refine j_goto E 21 dX11_longest_37 rfl ?_
      exact j_sub [1, 2, 3, 0] (lv1 := [(0, .ref (g.2.2.1 0)), (1, .int a1), (2, .int a2), (3, .int v5)]) rfl (ih a1 a2 v5 h4)
set_option maxRecDepth 20000 in
set_option maxHeartbeats 4000000 in
theorem jxX11_longest {g : GC} (hg : isGM g) {X : MX} (N : Nat) (E : JE g mX11_longest X) (a1 : Int32) (a2 : Int32) (h : HP) : J g mX11_longest X 0 [(0, .ref (g.2.2.1 0)), (1, .int a1), (2, .int a2)] [] h (xX11_longest N a1 a2 h) := by
  unfold xX11_longest
  refine j_aload_n E dX11_longest_0 0 rfl ?_
  refine j_iload_n E dX11_longest_1 1 rfl ?_
  refine j_callvI (As := [.int a1]) (st := []) E (ok_X11_isTold hg E.2.2.2.2.2.2.2.1 a1 h) (cM_0 hg) (cl_X11_141) (⟨Nat.le_of_ble_eq_true rfl, Nat.le_of_ble_eq_true rfl⟩) rfl rfl (Nat.le_of_ble_eq_true rfl) dX11_longest_2 (fun t1 h2 => ?_)
  refine j_if_eq E 17 dX11_longest_5 rfl ?_ ?_
  · exact j_sub [] (lv1 := []) rfl (jxX11_longest_17 hg N E h2)
  · refine j_iload_n E dX11_longest_8 2 rfl ?_
    refine j_iconst E (v := 0) dX11_longest_9 (by decide) ?_
    refine j_iconst E (v := 1) dX11_longest_10 (by decide) ?_
    refine j_callsI (As := [.int a2, .int 0, .int 1]) (st := []) E (ok_X11_in hg E.2.2.2.2.2.2.2.1 a2 0 1 h2) (cl_X11_129) (⟨Nat.le_of_ble_eq_true rfl, Nat.le_of_ble_eq_true rfl⟩) rfl rfl (Nat.le_of_ble_eq_true rfl) dX11_longest_11 (fun t3 h4 => ?_)
    refine j_if_ne E 19 dX11_longest_14 rfl ?_ ?_
    · refine j_iconst E (v := 0) dX11_longest_19 (by decide) ?_
      refine j_istore0_n E dX11_longest_20 (Nat.le_of_ble_eq_true rfl) [(3, .int 0), (0, .ref (g.2.2.1 0)), (1, .int a1), (2, .int a2)] rfl ?_
      exact j_sub [1, 2, 3, 0] (lv1 := [(0, .ref (g.2.2.1 0)), (1, .int a1), (2, .int a2), (3, .int 0)]) rfl (jxX11_longest_21 hg N E N a1 a2 0 h4)
    · exact j_sub [] (lv1 := []) rfl (jxX11_longest_17 hg N E h4)
theorem ok_X11_longest {g : GC} (hg : isGM g) (hI : gI g) (N : Nat) (a1 : Int32) (a2 : Int32) (h : HP) : Ok g yX11_longest mX11_longest [.ref (g.2.2.1 0), .int a1, .int a2] h (xX11_longest N a1 a2 h) := Ok.of hI (by decide) rfl (Nat.le_of_ble_eq_true rfl) (fun X E => jxX11_longest hg N E a1 a2 h)
set_option maxRecDepth 20000 in
set_option maxHeartbeats 4000000 in
theorem jxX11_adds_100 {g : GC} (hg : isGM g) {X : MX} (N : Nat) (E : JE g mX11_adds X) (K2 : Int32 → Int32 → Int32 → HP → Option (Int32 × HP)) (hK2 : ∀ (a1 : Int32) (a2 : Int32) (a3 : Int32) (h : HP), J g mX11_adds X 2 [(0, .ref (g.2.2.1 0)), (1, .int a1), (2, .int a2), (3, .int a3)] [] h (K2 a1 a2 a3 h)) (a1 : Int32) (a2 : Int32) (a3 : Int32) (h : HP) : J g mX11_adds X 100 [(0, .ref (g.2.2.1 0)), (1, .int a1), (2, .int a2), (3, .int a3)] [] h (xX11_adds_100 N K2 a1 a2 a3 h) := by
  unfold xX11_adds_100
  refine j_iinc E (c := 1) dX11_adds_100 3 rfl (by decide) (Nat.le_of_ble_eq_true rfl) (fun v1 => [(3, .int v1), (0, .ref (g.2.2.1 0)), (1, .int a1), (2, .int a2)]) (fun _ => rfl) (fun v1 => ?_)
  refine j_goto E 2 dX11_adds_103 rfl ?_
  exact j_sub [1, 2, 3, 0] (lv1 := [(0, .ref (g.2.2.1 0)), (1, .int a1), (2, .int a2), (3, .int v1)]) rfl (hK2 a1 a2 v1 h)
set_option maxRecDepth 20000 in
set_option maxHeartbeats 4000000 in
theorem jxX11_adds_26 {g : GC} (hg : isGM g) {X : MX} (N : Nat) (E : JE g mX11_adds X) (K2 : Int32 → Int32 → Int32 → HP → Option (Int32 × HP)) (hK2 : ∀ (a1 : Int32) (a2 : Int32) (a3 : Int32) (h : HP), J g mX11_adds X 2 [(0, .ref (g.2.2.1 0)), (1, .int a1), (2, .int a2), (3, .int a3)] [] h (K2 a1 a2 a3 h)) : ∀ (n : Nat) (a1 : Int32) (a2 : Int32) (a3 : Int32) (a4 : Int32) (h : HP), J g mX11_adds X 26 [(0, .ref (g.2.2.1 0)), (1, .int a1), (2, .int a2), (3, .int a3), (4, .int a4)] [] h (xX11_adds_26 N K2 n a1 a2 a3 a4 h) := by
  intro n
  induction n with
  | zero => intro a1 a2 a3 a4 h; exact j_none
  | succ n ih =>
    intro a1 a2 a3 a4 h
    unfold xX11_adds_26
    refine j_iload E dX11_adds_26 4 rfl ?_
    refine j_bipush E (v := 9) dX11_adds_28 (by decide) ?_
    refine j_cmp_ge E 100 dX11_adds_30 rfl ?_ ?_
    · exact j_sub [0, 1, 2, 3] (lv1 := [(0, .ref (g.2.2.1 0)), (1, .int a1), (2, .int a2), (3, .int a3)]) rfl (jxX11_adds_100 hg N E K2 hK2 a1 a2 a3 h)
    · refine j_iload E dX11_adds_33 4 rfl ?_
      refine j_iload_n E dX11_adds_35 1 rfl ?_
      refine j_imul E dX11_adds_36 ?_
      refine j_iload_n E dX11_adds_37 3 rfl ?_
      refine j_cmp_gt E 100 dX11_adds_38 rfl ?_ ?_
      · exact j_sub [0, 1, 2, 3] (lv1 := [(0, .ref (g.2.2.1 0)), (1, .int a1), (2, .int a2), (3, .int a3)]) rfl (jxX11_adds_100 hg N E K2 hK2 a1 a2 a3 h)
      · refine j_aload_n E dX11_adds_41 0 rfl ?_
        refine j_getr E f_X11_117 (cM_0 hg) 36 rfl dX11_adds_42 ?_
        refine j_iload_n E dX11_adds_45 3 rfl ?_
        refine j_aload_n E dX11_adds_46 0 rfl ?_
        refine j_getr E f_X11_117 (cM_0 hg) 36 rfl dX11_adds_47 ?_
        refine j_iload_n E dX11_adds_50 3 rfl ?_
        refine j_iald E (cM_36 hg) dX11_adds_51 (fun t1 => ?_)
        refine j_aload_n E dX11_adds_52 0 rfl ?_
        refine j_getr E f_X11_111 (cM_0 hg) 34 rfl dX11_adds_53 ?_
        refine j_iload_n E dX11_adds_56 3 rfl ?_
        refine j_iload E dX11_adds_57 4 rfl ?_
        refine j_iload_n E dX11_adds_59 1 rfl ?_
        refine j_imul E dX11_adds_60 ?_
        refine j_isub E dX11_adds_61 ?_
        refine j_iald E (cM_34 hg) dX11_adds_62 (fun t2 => ?_)
        refine j_iadd E dX11_adds_63 ?_
        refine j_iast E (cM_36 hg) dX11_adds_64 (fun h3 => ?_)
        refine j_aload_n E dX11_adds_65 0 rfl ?_
        refine j_getr E f_X11_120 (cM_0 hg) 37 rfl dX11_adds_66 ?_
        refine j_iload_n E dX11_adds_69 3 rfl ?_
        refine j_aload_n E dX11_adds_70 0 rfl ?_
        refine j_getr E f_X11_120 (cM_0 hg) 37 rfl dX11_adds_71 ?_
        refine j_iload_n E dX11_adds_74 3 rfl ?_
        refine j_iald E (cM_37 hg) dX11_adds_75 (fun t4 => ?_)
        refine j_aload_n E dX11_adds_76 0 rfl ?_
        refine j_getr E f_X11_114 (cM_0 hg) 35 rfl dX11_adds_77 ?_
        refine j_iload_n E dX11_adds_80 3 rfl ?_
        refine j_iload E dX11_adds_81 4 rfl ?_
        refine j_iload_n E dX11_adds_83 1 rfl ?_
        refine j_imul E dX11_adds_84 ?_
        refine j_isub E dX11_adds_85 ?_
        refine j_iald E (cM_35 hg) dX11_adds_86 (fun t5 => ?_)
        refine j_iload E dX11_adds_87 4 rfl ?_
        refine j_iadd E dX11_adds_89 ?_
        refine j_callsI (As := [.int t4, .int (t5 + a4)]) (st := [.int a3, .ref (g.2.2.1 37)]) E (ok_X11_min hg E.2.2.2.2.2.2.2.1 t4 (t5 + a4) h3) (cl_X11_286) (⟨Nat.le_of_ble_eq_true rfl, Nat.le_of_ble_eq_true rfl⟩) rfl rfl (Nat.le_of_ble_eq_true rfl) dX11_adds_90 (fun t6 h7 => ?_)
        refine j_iast E (cM_37 hg) dX11_adds_93 (fun h8 => ?_)
        refine j_iinc E (c := 1) dX11_adds_94 4 rfl (by decide) (Nat.le_of_ble_eq_true rfl) (fun v9 => [(4, .int v9), (0, .ref (g.2.2.1 0)), (1, .int a1), (2, .int a2), (3, .int a3)]) (fun _ => rfl) (fun v9 => ?_)
        refine j_goto E 26 dX11_adds_97 rfl ?_
        exact j_sub [1, 2, 3, 4, 0] (lv1 := [(0, .ref (g.2.2.1 0)), (1, .int a1), (2, .int a2), (3, .int a3), (4, .int v9)]) rfl (ih a1 a2 a3 v9 h8)
set_option maxRecDepth 20000 in
set_option maxHeartbeats 4000000 in
theorem jxX11_adds_108 {g : GC} (hg : isGM g) {X : MX} (N : Nat) (E : JE g mX11_adds X) : ∀ (n : Nat) (a2 : Int32) (a3 : Int32) (h : HP), J g mX11_adds X 108 [(0, .ref (g.2.2.1 0)), (2, .int a2), (3, .int a3)] [] h (xX11_adds_108 N n a2 a3 h) := by
  intro n
  induction n with
  | zero => intro a2 a3 h; exact j_none
  | succ n ih =>
    intro a2 a3 h
    unfold xX11_adds_108
    refine j_iload_n E dX11_adds_108 2 rfl ?_
    refine j_iload_n E dX11_adds_109 1 rfl ?_
    refine j_cmp_gt E 143 dX11_adds_110 rfl ?_ ?_
    · exact j_vreturn E rfl dX11_adds_143
    · refine j_aload_n E dX11_adds_113 0 rfl ?_
      refine j_getr E f_X11_111 (cM_0 hg) 34 rfl dX11_adds_114 ?_
      refine j_iload_n E dX11_adds_117 2 rfl ?_
      refine j_aload_n E dX11_adds_118 0 rfl ?_
      refine j_getr E f_X11_117 (cM_0 hg) 36 rfl dX11_adds_119 ?_
      refine j_iload_n E dX11_adds_122 2 rfl ?_
      refine j_iald E (cM_36 hg) dX11_adds_123 (fun t1 => ?_)
      refine j_iast E (cM_34 hg) dX11_adds_124 (fun h2 => ?_)
      refine j_aload_n E dX11_adds_125 0 rfl ?_
      refine j_getr E f_X11_114 (cM_0 hg) 35 rfl dX11_adds_126 ?_
      refine j_iload_n E dX11_adds_129 2 rfl ?_
      refine j_aload_n E dX11_adds_130 0 rfl ?_
      refine j_getr E f_X11_120 (cM_0 hg) 37 rfl dX11_adds_131 ?_
      refine j_iload_n E dX11_adds_134 2 rfl ?_
      refine j_iald E (cM_37 hg) dX11_adds_135 (fun t3 => ?_)
      refine j_iast E (cM_35 hg) dX11_adds_136 (fun h4 => ?_)
      refine j_iinc E (c := 1) dX11_adds_137 2 rfl (by decide) (Nat.le_of_ble_eq_true rfl) (fun v5 => [(3, .int v5), (0, .ref (g.2.2.1 0)), (2, .int a2)]) (fun _ => rfl) (fun v5 => ?_)
      refine j_goto E 108 dX11_adds_140 rfl ?_
      exact j_sub [1, 2, 0] (lv1 := [(0, .ref (g.2.2.1 0)), (2, .int a2), (3, .int v5)]) rfl (ih a2 v5 h4)
set_option maxRecDepth 20000 in
set_option maxHeartbeats 4000000 in
theorem jxX11_adds_2 {g : GC} (hg : isGM g) {X : MX} (N : Nat) (E : JE g mX11_adds X) : ∀ (n : Nat) (a1 : Int32) (a2 : Int32) (a3 : Int32) (h : HP), J g mX11_adds X 2 [(0, .ref (g.2.2.1 0)), (1, .int a1), (2, .int a2), (3, .int a3)] [] h (xX11_adds_2 N n a1 a2 a3 h) := by
  intro n
  induction n with
  | zero => intro a1 a2 a3 h; exact j_none
  | succ n ih =>
    intro a1 a2 a3 h
    unfold xX11_adds_2
    refine j_iload_n E dX11_adds_2 3 rfl ?_
    refine j_iload_n E dX11_adds_3 2 rfl ?_
    refine j_cmp_gt E 106 dX11_adds_4 rfl ?_ ?_
    · refine j_iconst E (v := 0) dX11_adds_106 (by decide) ?_
      refine j_istore0_n E dX11_adds_107 (Nat.le_of_ble_eq_true rfl) [(3, .int 0), (0, .ref (g.2.2.1 0)), (1, .int a1), (2, .int a2)] rfl ?_
      exact j_sub [1, 3, 0] (lv1 := [(0, .ref (g.2.2.1 0)), (2, .int a2), (3, .int 0)]) rfl (jxX11_adds_108 hg N E N a2 0 h)
    · refine j_aload_n E dX11_adds_7 0 rfl ?_
      refine j_getr E f_X11_117 (cM_0 hg) 36 rfl dX11_adds_8 ?_
      refine j_iload_n E dX11_adds_11 3 rfl ?_
      refine j_iconst E (v := 0) dX11_adds_12 (by decide) ?_
      refine j_iast E (cM_36 hg) dX11_adds_13 (fun h1 => ?_)
      refine j_aload_n E dX11_adds_14 0 rfl ?_
      refine j_getr E f_X11_120 (cM_0 hg) 37 rfl dX11_adds_15 ?_
      refine j_iload_n E dX11_adds_18 3 rfl ?_
      refine j_ldcw E (v := 1000000) k_X11_355 dX11_adds_19 ?_
      refine j_iast E (cM_37 hg) dX11_adds_22 (fun h2 => ?_)
      refine j_iconst E (v := 0) dX11_adds_23 (by decide) ?_
      refine j_istore0 E dX11_adds_24 (Nat.le_of_ble_eq_true rfl) [(4, .int 0), (0, .ref (g.2.2.1 0)), (1, .int a1), (2, .int a2), (3, .int a3)] rfl ?_
      exact j_sub [1, 2, 3, 4, 0] (lv1 := [(0, .ref (g.2.2.1 0)), (1, .int a1), (2, .int a2), (3, .int a3), (4, .int 0)]) rfl (jxX11_adds_26 hg N E (xX11_adds_2 N n) ih N a1 a2 a3 0 h2)
set_option maxRecDepth 20000 in
set_option maxHeartbeats 4000000 in
theorem jxX11_adds {g : GC} (hg : isGM g) {X : MX} (N : Nat) (E : JE g mX11_adds X) (a1 : Int32) (a2 : Int32) (h : HP) : J g mX11_adds X 0 [(0, .ref (g.2.2.1 0)), (1, .int a1), (2, .int a2)] [] h (xX11_adds N a1 a2 h) := by
  unfold xX11_adds
  refine j_iconst E (v := 0) dX11_adds_0 (by decide) ?_
  refine j_istore0_n E dX11_adds_1 (Nat.le_of_ble_eq_true rfl) [(3, .int 0), (0, .ref (g.2.2.1 0)), (1, .int a1), (2, .int a2)] rfl ?_
  exact j_sub [1, 2, 3, 0] (lv1 := [(0, .ref (g.2.2.1 0)), (1, .int a1), (2, .int a2), (3, .int 0)]) rfl (jxX11_adds_2 hg N E N a1 a2 0 h)
theorem ok_X11_adds {g : GC} (hg : isGM g) (hI : gI g) (N : Nat) (a1 : Int32) (a2 : Int32) (h : HP) : Ok g yX11_adds mX11_adds [.ref (g.2.2.1 0), .int a1, .int a2] h (xX11_adds N a1 a2 h) := Ok.of hI (by decide) rfl (Nat.le_of_ble_eq_true rfl) (fun X E => jxX11_adds hg N E a1 a2 h)
set_option maxRecDepth 20000 in
set_option maxHeartbeats 4000000 in
theorem jxX11_byEighths_38 {g : GC} (hg : isGM g) {X : MX} (N : Nat) (E : JE g mX11_byEighths X) (h : HP) : J g mX11_byEighths X 38 [] [] h (xX11_byEighths_38 N h) := by
  unfold xX11_byEighths_38
  refine j_iconst E (v := (-1)) dX11_byEighths_38 (by decide) ?_
  exact j_ireturn E rfl dX11_byEighths_39
set_option maxRecDepth 20000 in
set_option maxHeartbeats 4000000 in
theorem jxX11_byEighths_89 {g : GC} (hg : isGM g) {X : MX} (N : Nat) (E : JE g mX11_byEighths X) (K48 : Int32 → Int32 → Int32 → Int32 → HP → Option (Int32 × HP)) (hK48 : ∀ (a1 : Int32) (a2 : Int32) (a3 : Int32) (a4 : Int32) (h : HP), J g mX11_byEighths X 48 [(0, .ref (g.2.2.1 0)), (1, .int a1), (2, .int a2), (3, .int a3), (4, .int a4)] [] h (K48 a1 a2 a3 a4 h)) (a1 : Int32) (a2 : Int32) (a3 : Int32) (a4 : Int32) (s1 : Int32) (s2 : Int32) (h : HP) : J g mX11_byEighths X 89 [(0, .ref (g.2.2.1 0)), (1, .int a1), (2, .int a2), (3, .int a3), (4, .int a4)] [.int s2, .int s1, .ref (g.2.2.1 35)] h (xX11_byEighths_89 N K48 a1 a2 a3 a4 s1 s2 h) := by
  unfold xX11_byEighths_89
  refine j_iast E (cM_35 hg) dX11_byEighths_89 (fun h1 => ?_)
  refine j_iinc E (c := 1) dX11_byEighths_90 4 rfl (by decide) (Nat.le_of_ble_eq_true rfl) (fun v2 => [(4, .int v2), (0, .ref (g.2.2.1 0)), (1, .int a1), (2, .int a2), (3, .int a3)]) (fun _ => rfl) (fun v2 => ?_)
  refine j_goto E 48 dX11_byEighths_93 rfl ?_
  exact j_sub [1, 2, 3, 4, 0] (lv1 := [(0, .ref (g.2.2.1 0)), (1, .int a1), (2, .int a2), (3, .int a3), (4, .int v2)]) rfl (hK48 a1 a2 a3 v2 h1)
set_option maxRecDepth 20000 in
set_option maxHeartbeats 4000000 in
theorem jxX11_byEighths_70 {g : GC} (hg : isGM g) {X : MX} (N : Nat) (E : JE g mX11_byEighths X) (K48 : Int32 → Int32 → Int32 → Int32 → HP → Option (Int32 × HP)) (hK48 : ∀ (a1 : Int32) (a2 : Int32) (a3 : Int32) (a4 : Int32) (h : HP), J g mX11_byEighths X 48 [(0, .ref (g.2.2.1 0)), (1, .int a1), (2, .int a2), (3, .int a3), (4, .int a4)] [] h (K48 a1 a2 a3 a4 h)) (a1 : Int32) (a2 : Int32) (a3 : Int32) (a4 : Int32) (s1 : Int32) (s2 : Int32) (h : HP) : J g mX11_byEighths X 70 [(0, .ref (g.2.2.1 0)), (1, .int a1), (2, .int a2), (3, .int a3), (4, .int a4)] [.int s2, .int s1, .ref (g.2.2.1 34)] h (xX11_byEighths_70 N K48 a1 a2 a3 a4 s1 s2 h) := by
  unfold xX11_byEighths_70
  refine j_iast E (cM_34 hg) dX11_byEighths_70 (fun h1 => ?_)
  refine j_aload_n E dX11_byEighths_71 0 rfl ?_
  refine j_getr E f_X11_114 (cM_0 hg) 35 rfl dX11_byEighths_72 ?_
  refine j_iload E dX11_byEighths_75 4 rfl ?_
  refine j_iload E dX11_byEighths_77 4 rfl ?_
  refine j_if_ne E 86 dX11_byEighths_79 rfl ?_ ?_
  · refine j_ldcw E (v := 1000000) k_X11_355 dX11_byEighths_86 ?_
    exact jxX11_byEighths_89 hg N E K48 hK48 a1 a2 a3 a4 a4 1000000 h1
  · refine j_iconst E (v := 0) dX11_byEighths_82 (by decide) ?_
    refine j_goto E 89 dX11_byEighths_83 rfl ?_
    exact jxX11_byEighths_89 hg N E K48 hK48 a1 a2 a3 a4 a4 0 h1
set_option maxRecDepth 20000 in
set_option maxHeartbeats 4000000 in
theorem jxX11_byEighths_156 {g : GC} (hg : isGM g) {X : MX} (N : Nat) (E : JE g mX11_byEighths X) (s0 : Int32) (h : HP) : J g mX11_byEighths X 156 [] [.int s0] h (xX11_byEighths_156 N s0 h) := by
  unfold xX11_byEighths_156
  exact j_ireturn E rfl dX11_byEighths_156
set_option maxRecDepth 20000 in
set_option maxHeartbeats 4000000 in
theorem jxX11_byEighths_99 {g : GC} (hg : isGM g) {X : MX} (N : Nat) (E : JE g mX11_byEighths X) : ∀ (n : Nat) (a1 : Int32) (a2 : Int32) (a3 : Int32) (a4 : Int32) (h : HP), J g mX11_byEighths X 99 [(0, .ref (g.2.2.1 0)), (1, .int a1), (2, .int a2), (3, .int a3), (4, .int a4)] [] h (xX11_byEighths_99 N n a1 a2 a3 a4 h) := by
  intro n
  induction n with
  | zero => intro a1 a2 a3 a4 h; exact j_none
  | succ n ih =>
    intro a1 a2 a3 a4 h
    unfold xX11_byEighths_99
    refine j_iload E dX11_byEighths_99 4 rfl ?_
    refine j_iload_n E dX11_byEighths_101 1 rfl ?_
    refine j_cmp_ge E 122 dX11_byEighths_102 rfl ?_ ?_
    · refine j_iload_n E dX11_byEighths_122 3 rfl ?_
      refine j_if_ne E 133 dX11_byEighths_123 rfl ?_ ?_
      · refine j_aload_n E dX11_byEighths_133 0 rfl ?_
        refine j_getr E f_X11_114 (cM_0 hg) 35 rfl dX11_byEighths_134 ?_
        refine j_iload_n E dX11_byEighths_137 2 rfl ?_
        refine j_iald E (cM_35 hg) dX11_byEighths_138 (fun t1 => ?_)
        refine j_ldcw E (v := 1000000) k_X11_355 dX11_byEighths_139 ?_
        refine j_cmp_lt E 150 dX11_byEighths_142 rfl ?_ ?_
        · refine j_aload_n E dX11_byEighths_150 0 rfl ?_
          refine j_getr E f_X11_114 (cM_0 hg) 35 rfl dX11_byEighths_151 ?_
          refine j_iload_n E dX11_byEighths_154 2 rfl ?_
          refine j_iald E (cM_35 hg) dX11_byEighths_155 (fun t2 => ?_)
          exact j_sub [] (lv1 := []) rfl (jxX11_byEighths_156 hg N E t2 h)
        · refine j_bipush E (v := (-2)) dX11_byEighths_145 (by decide) ?_
          refine j_goto E 156 dX11_byEighths_147 rfl ?_
          exact j_sub [] (lv1 := []) rfl (jxX11_byEighths_156 hg N E (-2) h)
      · refine j_aload_n E dX11_byEighths_126 0 rfl ?_
        refine j_getr E f_X11_111 (cM_0 hg) 34 rfl dX11_byEighths_127 ?_
        refine j_iload_n E dX11_byEighths_130 2 rfl ?_
        refine j_iald E (cM_34 hg) dX11_byEighths_131 (fun t3 => ?_)
        exact j_ireturn E rfl dX11_byEighths_132
    · refine j_aload_n E dX11_byEighths_105 0 rfl ?_
      refine j_aload_n E dX11_byEighths_106 0 rfl ?_
      refine j_iload E dX11_byEighths_107 4 rfl ?_
      refine j_callvI (As := [.int a4]) (st := [.ref (g.2.2.1 0)]) E (ok_X11_octet hg E.2.2.2.2.2.2.2.1 a4 h) (cM_0 hg) (cl_X11_399) (⟨Nat.le_of_ble_eq_true rfl, Nat.le_of_ble_eq_true rfl⟩) rfl rfl (Nat.le_of_ble_eq_true rfl) dX11_byEighths_109 (fun t4 h5 => ?_)
      refine j_iload_n E dX11_byEighths_112 2 rfl ?_
      refine j_callvV (As := [.int t4, .int a2]) (st := []) E (ok_X11_adds hg E.2.2.2.2.2.2.2.1 N t4 a2 h5) (cM_0 hg) (cl_X11_402) (⟨Nat.le_of_ble_eq_true rfl, Nat.le_of_ble_eq_true rfl⟩) rfl rfl (Nat.le_of_ble_eq_true rfl) dX11_byEighths_113 (fun t6 h7 => ?_)
      refine j_iinc E (c := 1) dX11_byEighths_116 4 rfl (by decide) (Nat.le_of_ble_eq_true rfl) (fun v8 => [(4, .int v8), (0, .ref (g.2.2.1 0)), (1, .int a1), (2, .int a2), (3, .int a3)]) (fun _ => rfl) (fun v8 => ?_)
      refine j_goto E 99 dX11_byEighths_119 rfl ?_
      exact j_sub [1, 2, 3, 4, 0] (lv1 := [(0, .ref (g.2.2.1 0)), (1, .int a1), (2, .int a2), (3, .int a3), (4, .int v8)]) rfl (ih a1 a2 a3 v8 h7)
set_option maxRecDepth 20000 in
set_option maxHeartbeats 4000000 in
theorem jxX11_byEighths_48 {g : GC} (hg : isGM g) {X : MX} (N : Nat) (E : JE g mX11_byEighths X) : ∀ (n : Nat) (a1 : Int32) (a2 : Int32) (a3 : Int32) (a4 : Int32) (h : HP), J g mX11_byEighths X 48 [(0, .ref (g.2.2.1 0)), (1, .int a1), (2, .int a2), (3, .int a3), (4, .int a4)] [] h (xX11_byEighths_48 N n a1 a2 a3 a4 h) := by
  intro n
  induction n with
  | zero => intro a1 a2 a3 a4 h; exact j_none
  | succ n ih =>
    intro a1 a2 a3 a4 h
    unfold xX11_byEighths_48
    refine j_iload E dX11_byEighths_48 4 rfl ?_
    refine j_iload_n E dX11_byEighths_50 2 rfl ?_
    refine j_cmp_gt E 96 dX11_byEighths_51 rfl ?_ ?_
    · refine j_iconst E (v := 0) dX11_byEighths_96 (by decide) ?_
      refine j_istore0 E dX11_byEighths_97 (Nat.le_of_ble_eq_true rfl) [(4, .int 0), (0, .ref (g.2.2.1 0)), (1, .int a1), (2, .int a2), (3, .int a3)] rfl ?_
      exact j_sub [1, 2, 3, 4, 0] (lv1 := [(0, .ref (g.2.2.1 0)), (1, .int a1), (2, .int a2), (3, .int a3), (4, .int 0)]) rfl (jxX11_byEighths_99 hg N E N a1 a2 a3 0 h)
    · refine j_aload_n E dX11_byEighths_54 0 rfl ?_
      refine j_getr E f_X11_111 (cM_0 hg) 34 rfl dX11_byEighths_55 ?_
      refine j_iload E dX11_byEighths_58 4 rfl ?_
      refine j_iload E dX11_byEighths_60 4 rfl ?_
      refine j_if_ne E 69 dX11_byEighths_62 rfl ?_ ?_
      · refine j_iconst E (v := 0) dX11_byEighths_69 (by decide) ?_
        exact jxX11_byEighths_70 hg N E (xX11_byEighths_48 N n) ih a1 a2 a3 a4 a4 0 h
      · refine j_iconst E (v := 1) dX11_byEighths_65 (by decide) ?_
        refine j_goto E 70 dX11_byEighths_66 rfl ?_
        exact jxX11_byEighths_70 hg N E (xX11_byEighths_48 N n) ih a1 a2 a3 a4 a4 1 h
set_option maxRecDepth 20000 in
set_option maxHeartbeats 4000000 in
theorem jxX11_byEighths {g : GC} (hg : isGM g) {X : MX} (N : Nat) (E : JE g mX11_byEighths X) (a1 : Int32) (a2 : Int32) (a3 : Int32) (h : HP) : J g mX11_byEighths X 0 [(0, .ref (g.2.2.1 0)), (1, .int a1), (2, .int a2), (3, .int a3)] [] h (xX11_byEighths N a1 a2 a3 h) := by
  unfold xX11_byEighths
  refine j_iload_n E dX11_byEighths_0 1 rfl ?_
  refine j_iconst E (v := 1) dX11_byEighths_1 (by decide) ?_
  refine j_bipush E (v := 8) dX11_byEighths_2 (by decide) ?_
  refine j_callsI (As := [.int a1, .int 1, .int 8]) (st := []) E (ok_X11_in hg E.2.2.2.2.2.2.2.1 a1 1 8 h) (cl_X11_129) (⟨Nat.le_of_ble_eq_true rfl, Nat.le_of_ble_eq_true rfl⟩) rfl rfl (Nat.le_of_ble_eq_true rfl) dX11_byEighths_4 (fun t1 h2 => ?_)
  refine j_if_eq E 38 dX11_byEighths_7 rfl ?_ ?_
  · exact j_sub [] (lv1 := []) rfl (jxX11_byEighths_38 hg N E h2)
  · refine j_iload_n E dX11_byEighths_10 2 rfl ?_
    refine j_iconst E (v := 0) dX11_byEighths_11 (by decide) ?_
    refine j_sipush E (v := 16320) dX11_byEighths_12 (by decide) ?_
    refine j_callsI (As := [.int a2, .int 0, .int 16320]) (st := []) E (ok_X11_in hg E.2.2.2.2.2.2.2.1 a2 0 16320 h2) (cl_X11_129) (⟨Nat.le_of_ble_eq_true rfl, Nat.le_of_ble_eq_true rfl⟩) rfl rfl (Nat.le_of_ble_eq_true rfl) dX11_byEighths_15 (fun t3 h4 => ?_)
    refine j_if_eq E 38 dX11_byEighths_18 rfl ?_ ?_
    · exact j_sub [] (lv1 := []) rfl (jxX11_byEighths_38 hg N E h4)
    · refine j_iload_n E dX11_byEighths_21 3 rfl ?_
      refine j_iconst E (v := 0) dX11_byEighths_22 (by decide) ?_
      refine j_iconst E (v := 1) dX11_byEighths_23 (by decide) ?_
      refine j_callsI (As := [.int a3, .int 0, .int 1]) (st := []) E (ok_X11_in hg E.2.2.2.2.2.2.2.1 a3 0 1 h4) (cl_X11_129) (⟨Nat.le_of_ble_eq_true rfl, Nat.le_of_ble_eq_true rfl⟩) rfl rfl (Nat.le_of_ble_eq_true rfl) dX11_byEighths_24 (fun t5 h6 => ?_)
      refine j_if_eq E 38 dX11_byEighths_27 rfl ?_ ?_
      · exact j_sub [] (lv1 := []) rfl (jxX11_byEighths_38 hg N E h6)
      · refine j_iload_n E dX11_byEighths_30 1 rfl ?_
        refine j_aload_n E dX11_byEighths_31 0 rfl ?_
        refine j_geti E f_X11_155 (cM_0 hg) rfl dX11_byEighths_32 ?_
        refine j_cmp_le E 40 dX11_byEighths_35 rfl ?_ ?_
        · refine j_aload_n E dX11_byEighths_40 0 rfl ?_
          refine j_iconst E (v := 0) dX11_byEighths_41 (by decide) ?_
          refine j_puti E fp_X11_155 (cM_0 hg) rfl dX11_byEighths_42 (fun h7 => ?_)
          refine j_iconst E (v := 0) dX11_byEighths_45 (by decide) ?_
          refine j_istore0 E dX11_byEighths_46 (Nat.le_of_ble_eq_true rfl) [(4, .int 0), (0, .ref (g.2.2.1 0)), (1, .int a1), (2, .int a2), (3, .int a3)] rfl ?_
          exact j_sub [1, 2, 3, 4, 0] (lv1 := [(0, .ref (g.2.2.1 0)), (1, .int a1), (2, .int a2), (3, .int a3), (4, .int 0)]) rfl (jxX11_byEighths_48 hg N E N a1 a2 a3 0 h7)
        · exact j_sub [] (lv1 := []) rfl (jxX11_byEighths_38 hg N E h6)
theorem ok_X11_byEighths {g : GC} (hg : isGM g) (hI : gI g) (N : Nat) (a1 : Int32) (a2 : Int32) (a3 : Int32) (h : HP) : Ok g yX11_byEighths mX11_byEighths [.ref (g.2.2.1 0), .int a1, .int a2, .int a3] h (xX11_byEighths N a1 a2 a3 h) := Ok.of hI (by decide) rfl (Nat.le_of_ble_eq_true rfl) (fun X E => jxX11_byEighths hg N E a1 a2 a3 h)
set_option maxRecDepth 20000 in
set_option maxHeartbeats 4000000 in
theorem jxX11_readings_32 {g : GC} (hg : isGM g) {X : MX} (N : Nat) (E : JE g mX11_readings X) (h : HP) : J g mX11_readings X 32 [] [] h (xX11_readings_32 N h) := by
  unfold xX11_readings_32
  refine j_iconst E (v := (-1)) dX11_readings_32 (by decide) ?_
  exact j_ireturn E rfl dX11_readings_33
set_option maxRecDepth 20000 in
set_option maxHeartbeats 4000000 in
theorem jxX11_readings_137 {g : GC} (hg : isGM g) {X : MX} (N : Nat) (E : JE g mX11_readings X) (K56 : Int32 → Int32 → Int32 → Int32 → Int32 → Int32 → Int32 → HP → Option (Int32 × HP)) (hK56 : ∀ (a1 : Int32) (a2 : Int32) (a3 : Int32) (a4 : Int32) (a5 : Int32) (a6 : Int32) (a7 : Int32) (h : HP), J g mX11_readings X 56 [(0, .ref (g.2.2.1 0)), (1, .int a1), (2, .int a2), (3, .int a3), (4, .int a4), (5, .int a5), (6, .int a6), (7, .int a7)] [] h (K56 a1 a2 a3 a4 a5 a6 a7 h)) (a1 : Int32) (a2 : Int32) (a3 : Int32) (a4 : Int32) (a5 : Int32) (a6 : Int32) (a7 : Int32) (h : HP) : J g mX11_readings X 137 [(0, .ref (g.2.2.1 0)), (1, .int a1), (2, .int a2), (3, .int a3), (4, .int a4), (5, .int a5), (6, .int a6), (7, .int a7)] [] h (xX11_readings_137 N K56 a1 a2 a3 a4 a5 a6 a7 h) := by
  unfold xX11_readings_137
  refine j_iinc E (c := 1) dX11_readings_137 7 rfl (by decide) (Nat.le_of_ble_eq_true rfl) (fun v1 => [(7, .int v1), (0, .ref (g.2.2.1 0)), (1, .int a1), (2, .int a2), (3, .int a3), (4, .int a4), (5, .int a5), (6, .int a6)]) (fun _ => rfl) (fun v1 => ?_)
  refine j_goto E 56 dX11_readings_140 rfl ?_
  exact j_sub [1, 2, 3, 4, 5, 6, 7, 0] (lv1 := [(0, .ref (g.2.2.1 0)), (1, .int a1), (2, .int a2), (3, .int a3), (4, .int a4), (5, .int a5), (6, .int a6), (7, .int v1)]) rfl (hK56 a1 a2 a3 a4 a5 a6 v1 h)
set_option maxRecDepth 20000 in
set_option maxHeartbeats 4000000 in
theorem jxX11_readings_162 {g : GC} (hg : isGM g) {X : MX} (N : Nat) (E : JE g mX11_readings X) (s0 : Int32) (h : HP) : J g mX11_readings X 162 [] [.int s0] h (xX11_readings_162 N s0 h) := by
  unfold xX11_readings_162
  exact j_ireturn E rfl dX11_readings_162
set_option maxRecDepth 20000 in
set_option maxHeartbeats 4000000 in
theorem jxX11_readings_56 {g : GC} (hg : isGM g) {X : MX} (N : Nat) (E : JE g mX11_readings X) : ∀ (n : Nat) (a1 : Int32) (a2 : Int32) (a3 : Int32) (a4 : Int32) (a5 : Int32) (a6 : Int32) (a7 : Int32) (h : HP), J g mX11_readings X 56 [(0, .ref (g.2.2.1 0)), (1, .int a1), (2, .int a2), (3, .int a3), (4, .int a4), (5, .int a5), (6, .int a6), (7, .int a7)] [] h (xX11_readings_56 N n a1 a2 a3 a4 a5 a6 a7 h) := by
  intro n
  induction n with
  | zero => intro a1 a2 a3 a4 a5 a6 a7 h; exact j_none
  | succ n ih =>
    intro a1 a2 a3 a4 a5 a6 a7 h
    unfold xX11_readings_56
    refine j_iload E dX11_readings_56 7 rfl ?_
    refine j_bipush E (v := 16) dX11_readings_58 (by decide) ?_
    refine j_cmp_ge E 143 dX11_readings_60 rfl ?_ ?_
    · refine j_iload_n E dX11_readings_143 1 rfl ?_
      refine j_if_ne E 151 dX11_readings_144 rfl ?_ ?_
      · refine j_iload_n E dX11_readings_151 1 rfl ?_
        refine j_iconst E (v := 1) dX11_readings_152 (by decide) ?_
        refine j_cmp_ne E 160 dX11_readings_153 rfl ?_ ?_
        · refine j_iload E dX11_readings_160 5 rfl ?_
          exact j_sub [] (lv1 := []) rfl (jxX11_readings_162 hg N E a5 h)
        · refine j_iload_n E dX11_readings_156 3 rfl ?_
          refine j_goto E 162 dX11_readings_157 rfl ?_
          exact j_sub [] (lv1 := []) rfl (jxX11_readings_162 hg N E a3 h)
      · refine j_iload_n E dX11_readings_147 2 rfl ?_
        refine j_goto E 162 dX11_readings_148 rfl ?_
        exact j_sub [] (lv1 := []) rfl (jxX11_readings_162 hg N E a2 h)
    · refine j_aload_n E dX11_readings_63 0 rfl ?_
      refine j_iload E dX11_readings_64 7 rfl ?_
      refine j_callvI (As := [.int a7]) (st := []) E (ok_X11_isTold hg E.2.2.2.2.2.2.2.1 a7 h) (cM_0 hg) (cl_X11_141) (⟨Nat.le_of_ble_eq_true rfl, Nat.le_of_ble_eq_true rfl⟩) rfl rfl (Nat.le_of_ble_eq_true rfl) dX11_readings_66 (fun t1 h2 => ?_)
      refine j_if_ne E 75 dX11_readings_69 rfl ?_ ?_
      · refine j_aload_n E dX11_readings_75 0 rfl ?_
        refine j_iload E dX11_readings_76 6 rfl ?_
        refine j_callvI (As := [.int a6]) (st := []) E (ok_X11_octet hg E.2.2.2.2.2.2.2.1 a6 h2) (cM_0 hg) (cl_X11_399) (⟨Nat.le_of_ble_eq_true rfl, Nat.le_of_ble_eq_true rfl⟩) rfl rfl (Nat.le_of_ble_eq_true rfl) dX11_readings_78 (fun t3 h4 => ?_)
        refine j_aload_n E dX11_readings_81 0 rfl ?_
        refine j_iload E dX11_readings_82 6 rfl ?_
        refine j_iconst E (v := 1) dX11_readings_84 (by decide) ?_
        refine j_iadd E dX11_readings_85 ?_
        refine j_callvI (As := [.int (a6 + 1)]) (st := [.int t3]) E (ok_X11_octet hg E.2.2.2.2.2.2.2.1 (a6 + 1) h4) (cM_0 hg) (cl_X11_399) (⟨Nat.le_of_ble_eq_true rfl, Nat.le_of_ble_eq_true rfl⟩) rfl rfl (Nat.le_of_ble_eq_true rfl) dX11_readings_86 (fun t5 h6 => ?_)
        refine j_isub E dX11_readings_89 ?_
        refine j_istore E dX11_readings_90 (Nat.le_of_ble_eq_true rfl) (fun v7 => [(8, .int v7), (0, .ref (g.2.2.1 0)), (1, .int a1), (2, .int a2), (3, .int a3), (4, .int a4), (5, .int a5), (6, .int a6), (7, .int a7)]) (fun _ => rfl) (fun v7 => ?_)
        refine j_iload E dX11_readings_92 7 rfl ?_
        refine j_iconst E (v := 2) dX11_readings_94 (by decide) ?_
        refine j_iadd E dX11_readings_95 ?_
        refine j_istore E dX11_readings_96 (Nat.le_of_ble_eq_true rfl) (fun v8 => [(6, .int v8), (8, .int v7), (0, .ref (g.2.2.1 0)), (1, .int a1), (2, .int a2), (3, .int a3), (4, .int a4), (5, .int a5), (7, .int a7)]) (fun _ => rfl) (fun v8 => ?_)
        refine j_iload E dX11_readings_98 1 rfl ?_
        refine j_if_gt E 106 dX11_readings_100 rfl ?_ ?_
        · refine j_iload_n E dX11_readings_106 4 rfl ?_
          refine j_iconst E (v := 1) dX11_readings_107 (by decide) ?_
          refine j_iload E dX11_readings_108 8 rfl ?_
          refine j_ishl E dX11_readings_110 ?_
          refine j_ior E dX11_readings_111 ?_
          refine j_istore_n E dX11_readings_112 (Nat.le_of_ble_eq_true rfl) (fun v9 => [(2, .int v9), (6, .int v8), (8, .int v7), (0, .ref (g.2.2.1 0)), (1, .int a1), (3, .int a3), (4, .int a4), (5, .int a5), (7, .int a7)]) (fun _ => rfl) (fun v9 => ?_)
          refine j_iload E dX11_readings_113 7 rfl ?_
          refine j_iload E dX11_readings_115 2 rfl ?_
          refine j_iadd E dX11_readings_117 ?_
          refine j_istore E dX11_readings_118 (Nat.le_of_ble_eq_true rfl) (fun v10 => [(5, .int v10), (2, .int v9), (6, .int v8), (8, .int v7), (0, .ref (g.2.2.1 0)), (1, .int a1), (3, .int a3), (4, .int a4), (7, .int a7)]) (fun _ => rfl) (fun v10 => ?_)
          refine j_iload E dX11_readings_120 3 rfl ?_
          refine j_iload E dX11_readings_122 7 rfl ?_
          refine j_cmp_gt E 130 dX11_readings_124 rfl ?_ ?_
          · refine j_iload E dX11_readings_130 3 rfl ?_
            refine j_istore0 E dX11_readings_132 (Nat.le_of_ble_eq_true rfl) [(4, .int v7), (5, .int v10), (2, .int v9), (6, .int v8), (8, .int v7), (0, .ref (g.2.2.1 0)), (1, .int a1), (3, .int a3), (7, .int a7)] rfl ?_
            refine j_iload E dX11_readings_134 8 rfl ?_
            refine j_istore0_n E dX11_readings_136 (Nat.le_of_ble_eq_true rfl) [(3, .int a7), (4, .int v7), (5, .int v10), (2, .int v9), (6, .int v8), (8, .int v7), (0, .ref (g.2.2.1 0)), (1, .int a1), (7, .int a7)] rfl ?_
            exact j_sub [6, 7, 3, 0, 1, 2, 4, 8] (lv1 := [(0, .ref (g.2.2.1 0)), (1, .int a1), (2, .int v9), (3, .int a7), (4, .int v7), (5, .int v10), (6, .int v8), (7, .int a7)]) rfl (jxX11_readings_137 hg N E (xX11_readings_56 N n) ih a1 v9 a7 v7 v10 v8 a7 h6)
          · refine j_goto E 137 dX11_readings_127 rfl ?_
            exact j_sub [4, 5, 1, 6, 7, 0, 2, 8] (lv1 := [(0, .ref (g.2.2.1 0)), (1, .int a1), (2, .int v9), (3, .int a3), (4, .int a4), (5, .int v10), (6, .int v8), (7, .int a7)]) rfl (jxX11_readings_137 hg N E (xX11_readings_56 N n) ih a1 v9 a3 a4 v10 v8 a7 h6)
        · refine j_goto E 137 dX11_readings_103 rfl ?_
          exact j_sub [2, 3, 4, 5, 6, 7, 0, 8] (lv1 := [(0, .ref (g.2.2.1 0)), (1, .int a1), (2, .int a2), (3, .int a3), (4, .int a4), (5, .int a5), (6, .int v8), (7, .int a7)]) rfl (jxX11_readings_137 hg N E (xX11_readings_56 N n) ih a1 a2 a3 a4 a5 v8 a7 h6)
      · refine j_goto E 137 dX11_readings_72 rfl ?_
        exact jxX11_readings_137 hg N E (xX11_readings_56 N n) ih a1 a2 a3 a4 a5 a6 a7 h2
set_option maxRecDepth 20000 in
set_option maxHeartbeats 4000000 in
theorem jxX11_readings {g : GC} (hg : isGM g) {X : MX} (N : Nat) (E : JE g mX11_readings X) (a1 : Int32) (h : HP) : J g mX11_readings X 0 [(0, .ref (g.2.2.1 0)), (1, .int a1)] [] h (xX11_readings N a1 h) := by
  unfold xX11_readings
  refine j_iload_n E dX11_readings_0 1 rfl ?_
  refine j_iconst E (v := 0) dX11_readings_1 (by decide) ?_
  refine j_iconst E (v := 2) dX11_readings_2 (by decide) ?_
  refine j_callsI (As := [.int a1, .int 0, .int 2]) (st := []) E (ok_X11_in hg E.2.2.2.2.2.2.2.1 a1 0 2 h) (cl_X11_129) (⟨Nat.le_of_ble_eq_true rfl, Nat.le_of_ble_eq_true rfl⟩) rfl rfl (Nat.le_of_ble_eq_true rfl) dX11_readings_3 (fun t1 h2 => ?_)
  refine j_if_eq E 32 dX11_readings_6 rfl ?_ ?_
  · exact j_sub [] (lv1 := []) rfl (jxX11_readings_32 hg N E h2)
  · refine j_aload_n E dX11_readings_9 0 rfl ?_
    refine j_geti E f_X11_133 (cM_0 hg) rfl dX11_readings_10 ?_
    refine j_if_eq E 32 dX11_readings_13 rfl ?_ ?_
    · exact j_sub [] (lv1 := []) rfl (jxX11_readings_32 hg N E h2)
    · refine j_iconst E (v := 2) dX11_readings_16 (by decide) ?_
      refine j_aload_n E dX11_readings_17 0 rfl ?_
      refine j_geti E f_X11_133 (cM_0 hg) rfl dX11_readings_18 ?_
      refine j_callsI (As := [.int (h2.1 0 7)]) (st := [.int 2]) E (ok_X11_bits hg E.2.2.2.2.2.2.2.1 N (h2.1 0 7) h2) (cl_X11_384) (⟨Nat.le_of_ble_eq_true rfl, Nat.le_of_ble_eq_true rfl⟩) rfl rfl (Nat.le_of_ble_eq_true rfl) dX11_readings_21 (fun t3 h4 => ?_)
      refine j_imul E dX11_readings_24 ?_
      refine j_aload_n E dX11_readings_25 0 rfl ?_
      refine j_geti E f_X11_155 (cM_0 hg) rfl dX11_readings_26 ?_
      refine j_cmp_le E 34 dX11_readings_29 rfl ?_ ?_
      · refine j_aload_n E dX11_readings_34 0 rfl ?_
        refine j_iconst E (v := 0) dX11_readings_35 (by decide) ?_
        refine j_puti E fp_X11_155 (cM_0 hg) rfl dX11_readings_36 (fun h5 => ?_)
        refine j_iconst E (v := 0) dX11_readings_39 (by decide) ?_
        refine j_istore0_n E dX11_readings_40 (Nat.le_of_ble_eq_true rfl) [(2, .int 0), (0, .ref (g.2.2.1 0)), (1, .int a1)] rfl ?_
        refine j_bipush E (v := (-2)) dX11_readings_41 (by decide) ?_
        refine j_istore0_n E dX11_readings_43 (Nat.le_of_ble_eq_true rfl) [(3, .int (-2)), (2, .int 0), (0, .ref (g.2.2.1 0)), (1, .int a1)] rfl ?_
        refine j_iconst E (v := 0) dX11_readings_44 (by decide) ?_
        refine j_istore0 E dX11_readings_45 (Nat.le_of_ble_eq_true rfl) [(4, .int 0), (3, .int (-2)), (2, .int 0), (0, .ref (g.2.2.1 0)), (1, .int a1)] rfl ?_
        refine j_iconst E (v := 0) dX11_readings_47 (by decide) ?_
        refine j_istore0 E dX11_readings_48 (Nat.le_of_ble_eq_true rfl) [(5, .int 0), (4, .int 0), (3, .int (-2)), (2, .int 0), (0, .ref (g.2.2.1 0)), (1, .int a1)] rfl ?_
        refine j_iconst E (v := 0) dX11_readings_50 (by decide) ?_
        refine j_istore0 E dX11_readings_51 (Nat.le_of_ble_eq_true rfl) [(6, .int 0), (5, .int 0), (4, .int 0), (3, .int (-2)), (2, .int 0), (0, .ref (g.2.2.1 0)), (1, .int a1)] rfl ?_
        refine j_iconst E (v := 0) dX11_readings_53 (by decide) ?_
        refine j_istore0 E dX11_readings_54 (Nat.le_of_ble_eq_true rfl) [(7, .int 0), (6, .int 0), (5, .int 0), (4, .int 0), (3, .int (-2)), (2, .int 0), (0, .ref (g.2.2.1 0)), (1, .int a1)] rfl ?_
        exact j_sub [6, 7, 5, 4, 3, 2, 1, 0] (lv1 := [(0, .ref (g.2.2.1 0)), (1, .int a1), (2, .int 0), (3, .int (-2)), (4, .int 0), (5, .int 0), (6, .int 0), (7, .int 0)]) rfl (jxX11_readings_56 hg N E N a1 0 (-2) 0 0 0 0 h5)
      · exact j_sub [] (lv1 := []) rfl (jxX11_readings_32 hg N E h4)
theorem ok_X11_readings {g : GC} (hg : isGM g) (hI : gI g) (N : Nat) (a1 : Int32) (h : HP) : Ok g yX11_readings mX11_readings [.ref (g.2.2.1 0), .int a1] h (xX11_readings N a1 h) := Ok.of hI (by decide) rfl (Nat.le_of_ble_eq_true rfl) (fun X E => jxX11_readings hg N E a1 h)
set_option maxRecDepth 20000 in
set_option maxHeartbeats 4000000 in
theorem jxX11_hose_47 {g : GC} (hg : isGM g) {X : MX} (N : Nat) (E : JE g mX11_hose X) (h : HP) : J g mX11_hose X 47 [] [] h (xX11_hose_47 N h) := by
  unfold xX11_hose_47
  refine j_iconst E (v := (-1)) dX11_hose_47 (by decide) ?_
  exact j_ireturn E rfl dX11_hose_48
set_option maxRecDepth 20000 in
set_option maxHeartbeats 4000000 in
theorem jxX11_hose_150 {g : GC} (hg : isGM g) {X : MX} (N : Nat) (E : JE g mX11_hose X) (K95 : Int32 → Int32 → Int32 → Int32 → Int32 → Int32 → Int32 → HP → Option (Int32 × HP)) (hK95 : ∀ (a1 : Int32) (a2 : Int32) (a3 : Int32) (a4 : Int32) (a5 : Int32) (a6 : Int32) (a7 : Int32) (h : HP), J g mX11_hose X 95 [(0, .ref (g.2.2.1 0)), (1, .int a1), (2, .int a2), (3, .int a3), (4, .int a4), (5, .int a5), (6, .int a6), (7, .int a7)] [] h (K95 a1 a2 a3 a4 a5 a6 a7 h)) (a1 : Int32) (a2 : Int32) (a3 : Int32) (a4 : Int32) (a5 : Int32) (a6 : Int32) (a7 : Int32) (h : HP) : J g mX11_hose X 150 [(0, .ref (g.2.2.1 0)), (1, .int a1), (2, .int a2), (3, .int a3), (4, .int a4), (5, .int a5), (6, .int a6), (7, .int a7)] [] h (xX11_hose_150 N K95 a1 a2 a3 a4 a5 a6 a7 h) := by
  unfold xX11_hose_150
  refine j_iinc E (c := 1) dX11_hose_150 7 rfl (by decide) (Nat.le_of_ble_eq_true rfl) (fun v1 => [(7, .int v1), (0, .ref (g.2.2.1 0)), (1, .int a1), (2, .int a2), (3, .int a3), (4, .int a4), (5, .int a5), (6, .int a6)]) (fun _ => rfl) (fun v1 => ?_)
  refine j_goto E 95 dX11_hose_153 rfl ?_
  exact j_sub [1, 2, 3, 4, 5, 6, 7, 0] (lv1 := [(0, .ref (g.2.2.1 0)), (1, .int a1), (2, .int a2), (3, .int a3), (4, .int a4), (5, .int a5), (6, .int a6), (7, .int v1)]) rfl (hK95 a1 a2 a3 a4 a5 a6 v1 h)
set_option maxRecDepth 20000 in
set_option maxHeartbeats 4000000 in
theorem jxX11_hose_95 {g : GC} (hg : isGM g) {X : MX} (N : Nat) (E : JE g mX11_hose X) (K83 : Int32 → Int32 → Int32 → Int32 → Int32 → HP → Option (Int32 × HP)) (hK83 : ∀ (a1 : Int32) (a2 : Int32) (a3 : Int32) (a4 : Int32) (a5 : Int32) (h : HP), J g mX11_hose X 83 [(0, .ref (g.2.2.1 0)), (1, .int a1), (2, .int a2), (3, .int a3), (4, .int a4), (5, .int a5)] [] h (K83 a1 a2 a3 a4 a5 h)) : ∀ (n : Nat) (a1 : Int32) (a2 : Int32) (a3 : Int32) (a4 : Int32) (a5 : Int32) (a6 : Int32) (a7 : Int32) (h : HP), J g mX11_hose X 95 [(0, .ref (g.2.2.1 0)), (1, .int a1), (2, .int a2), (3, .int a3), (4, .int a4), (5, .int a5), (6, .int a6), (7, .int a7)] [] h (xX11_hose_95 N K83 n a1 a2 a3 a4 a5 a6 a7 h) := by
  intro n
  induction n with
  | zero => intro a1 a2 a3 a4 a5 a6 a7 h; exact j_none
  | succ n ih =>
    intro a1 a2 a3 a4 a5 a6 a7 h
    unfold xX11_hose_95
    refine j_iload E dX11_hose_95 7 rfl ?_
    refine j_iload_n E dX11_hose_97 2 rfl ?_
    refine j_cmp_ge E 156 dX11_hose_98 rfl ?_ ?_
    · refine j_aload_n E dX11_hose_156 0 rfl ?_
      refine j_getr E f_X11_123 (cM_0 hg) 38 rfl dX11_hose_157 ?_
      refine j_iload E dX11_hose_160 6 rfl ?_
      refine j_aload_n E dX11_hose_162 0 rfl ?_
      refine j_getr E f_X11_123 (cM_0 hg) 38 rfl dX11_hose_163 ?_
      refine j_iload E dX11_hose_166 6 rfl ?_
      refine j_iald E (cM_38 hg) dX11_hose_168 (fun t1 => ?_)
      refine j_iconst E (v := 2) dX11_hose_169 (by decide) ?_
      refine j_aload_n E dX11_hose_170 0 rfl ?_
      refine j_iload_n E dX11_hose_171 2 rfl ?_
      refine j_iload E dX11_hose_172 5 rfl ?_
      refine j_imul E dX11_hose_174 ?_
      refine j_iload E dX11_hose_175 6 rfl ?_
      refine j_iadd E dX11_hose_177 ?_
      refine j_callvI (As := [.int ((a2 * a5) + a6)]) (st := [.int 2, .int t1, .int a6, .ref (g.2.2.1 38)]) E (ok_X11_octet hg E.2.2.2.2.2.2.2.1 ((a2 * a5) + a6) h) (cM_0 hg) (cl_X11_399) (⟨Nat.le_of_ble_eq_true rfl, Nat.le_of_ble_eq_true rfl⟩) rfl rfl (Nat.le_of_ble_eq_true rfl) dX11_hose_178 (fun t2 h3 => ?_)
      refine j_imul E dX11_hose_181 ?_
      refine j_iadd E dX11_hose_182 ?_
      refine j_iast E (cM_38 hg) dX11_hose_183 (fun h4 => ?_)
      refine j_aload_n E dX11_hose_184 0 rfl ?_
      refine j_getr E f_X11_126 (cM_0 hg) 39 rfl dX11_hose_185 ?_
      refine j_iload E dX11_hose_188 5 rfl ?_
      refine j_iload E dX11_hose_190 6 rfl ?_
      refine j_iast E (cM_39 hg) dX11_hose_192 (fun h5 => ?_)
      refine j_iload E dX11_hose_193 4 rfl ?_
      refine j_aload_n E dX11_hose_195 0 rfl ?_
      refine j_getr E f_X11_123 (cM_0 hg) 38 rfl dX11_hose_196 ?_
      refine j_iload E dX11_hose_199 6 rfl ?_
      refine j_iald E (cM_38 hg) dX11_hose_201 (fun t6 => ?_)
      refine j_callsI (As := [.int a4, .int t6]) (st := []) E (ok_X11_max hg E.2.2.2.2.2.2.2.1 a4 t6 h5) (cl_X11_289) (⟨Nat.le_of_ble_eq_true rfl, Nat.le_of_ble_eq_true rfl⟩) rfl rfl (Nat.le_of_ble_eq_true rfl) dX11_hose_202 (fun t7 h8 => ?_)
      refine j_istore0 E dX11_hose_205 (Nat.le_of_ble_eq_true rfl) [(4, .int t7), (0, .ref (g.2.2.1 0)), (1, .int a1), (2, .int a2), (3, .int a3), (5, .int a5), (6, .int a6), (7, .int a7)] rfl ?_
      refine j_iinc E (c := 1) dX11_hose_207 5 rfl (by decide) (Nat.le_of_ble_eq_true rfl) (fun v9 => [(5, .int v9), (4, .int t7), (0, .ref (g.2.2.1 0)), (1, .int a1), (2, .int a2), (3, .int a3), (6, .int a6), (7, .int a7)]) (fun _ => rfl) (fun v9 => ?_)
      refine j_goto E 83 dX11_hose_210 rfl ?_
      exact j_sub [2, 3, 4, 5, 1, 0] (lv1 := [(0, .ref (g.2.2.1 0)), (1, .int a1), (2, .int a2), (3, .int a3), (4, .int t7), (5, .int v9)]) rfl (hK83 a1 a2 a3 t7 v9 h8)
    · refine j_aload_n E dX11_hose_101 0 rfl ?_
      refine j_getr E f_X11_123 (cM_0 hg) 38 rfl dX11_hose_102 ?_
      refine j_iload E dX11_hose_105 7 rfl ?_
      refine j_iald E (cM_38 hg) dX11_hose_107 (fun t10 => ?_)
      refine j_iconst E (v := 2) dX11_hose_108 (by decide) ?_
      refine j_aload_n E dX11_hose_109 0 rfl ?_
      refine j_iload_n E dX11_hose_110 2 rfl ?_
      refine j_iload E dX11_hose_111 5 rfl ?_
      refine j_imul E dX11_hose_113 ?_
      refine j_iload E dX11_hose_114 7 rfl ?_
      refine j_iadd E dX11_hose_116 ?_
      refine j_callvI (As := [.int ((a2 * a5) + a7)]) (st := [.int 2, .int t10]) E (ok_X11_octet hg E.2.2.2.2.2.2.2.1 ((a2 * a5) + a7) h) (cM_0 hg) (cl_X11_399) (⟨Nat.le_of_ble_eq_true rfl, Nat.le_of_ble_eq_true rfl⟩) rfl rfl (Nat.le_of_ble_eq_true rfl) dX11_hose_117 (fun t11 h12 => ?_)
      refine j_imul E dX11_hose_120 ?_
      refine j_iadd E dX11_hose_121 ?_
      refine j_aload_n E dX11_hose_122 0 rfl ?_
      refine j_getr E f_X11_123 (cM_0 hg) 38 rfl dX11_hose_123 ?_
      refine j_iload E dX11_hose_126 6 rfl ?_
      refine j_iald E (cM_38 hg) dX11_hose_128 (fun t13 => ?_)
      refine j_iconst E (v := 2) dX11_hose_129 (by decide) ?_
      refine j_aload_n E dX11_hose_130 0 rfl ?_
      refine j_iload_n E dX11_hose_131 2 rfl ?_
      refine j_iload E dX11_hose_132 5 rfl ?_
      refine j_imul E dX11_hose_134 ?_
      refine j_iload E dX11_hose_135 6 rfl ?_
      refine j_iadd E dX11_hose_137 ?_
      refine j_callvI (As := [.int ((a2 * a5) + a6)]) (st := [.int 2, .int t13, .int (t10 + (2 * t11))]) E (ok_X11_octet hg E.2.2.2.2.2.2.2.1 ((a2 * a5) + a6) h12) (cM_0 hg) (cl_X11_399) (⟨Nat.le_of_ble_eq_true rfl, Nat.le_of_ble_eq_true rfl⟩) rfl rfl (Nat.le_of_ble_eq_true rfl) dX11_hose_138 (fun t14 h15 => ?_)
      refine j_imul E dX11_hose_141 ?_
      refine j_iadd E dX11_hose_142 ?_
      refine j_cmp_ge E 150 dX11_hose_143 rfl ?_ ?_
      · exact jxX11_hose_150 hg N E (xX11_hose_95 N K83 n) ih a1 a2 a3 a4 a5 a6 a7 h15
      · refine j_iload E dX11_hose_146 7 rfl ?_
        refine j_istore0 E dX11_hose_148 (Nat.le_of_ble_eq_true rfl) [(6, .int a7), (0, .ref (g.2.2.1 0)), (1, .int a1), (2, .int a2), (3, .int a3), (4, .int a4), (5, .int a5), (7, .int a7)] rfl ?_
        exact j_sub [1, 2, 3, 4, 5, 6, 0, 7] (lv1 := [(0, .ref (g.2.2.1 0)), (1, .int a1), (2, .int a2), (3, .int a3), (4, .int a4), (5, .int a5), (6, .int a7), (7, .int a7)]) rfl (jxX11_hose_150 hg N E (xX11_hose_95 N K83 n) ih a1 a2 a3 a4 a5 a7 a7 h15)
set_option maxRecDepth 20000 in
set_option maxHeartbeats 4000000 in
theorem jxX11_hose_230 {g : GC} (hg : isGM g) {X : MX} (N : Nat) (E : JE g mX11_hose X) (s0 : Int32) (h : HP) : J g mX11_hose X 230 [] [.int s0] h (xX11_hose_230 N s0 h) := by
  unfold xX11_hose_230
  exact j_ireturn E rfl dX11_hose_230
set_option maxRecDepth 20000 in
set_option maxHeartbeats 4000000 in
theorem jxX11_hose_83 {g : GC} (hg : isGM g) {X : MX} (N : Nat) (E : JE g mX11_hose X) : ∀ (n : Nat) (a1 : Int32) (a2 : Int32) (a3 : Int32) (a4 : Int32) (a5 : Int32) (h : HP), J g mX11_hose X 83 [(0, .ref (g.2.2.1 0)), (1, .int a1), (2, .int a2), (3, .int a3), (4, .int a4), (5, .int a5)] [] h (xX11_hose_83 N n a1 a2 a3 a4 a5 h) := by
  intro n
  induction n with
  | zero => intro a1 a2 a3 a4 a5 h; exact j_none
  | succ n ih =>
    intro a1 a2 a3 a4 a5 h
    unfold xX11_hose_83
    refine j_iload E dX11_hose_83 5 rfl ?_
    refine j_iload_n E dX11_hose_85 1 rfl ?_
    refine j_cmp_ge E 213 dX11_hose_86 rfl ?_ ?_
    · refine j_iload_n E dX11_hose_213 3 rfl ?_
      refine j_bipush E (v := 100) dX11_hose_214 (by decide) ?_
      refine j_cmp_ne E 224 dX11_hose_216 rfl ?_ ?_
      · refine j_aload_n E dX11_hose_224 0 rfl ?_
        refine j_getr E f_X11_126 (cM_0 hg) 39 rfl dX11_hose_225 ?_
        refine j_iload_n E dX11_hose_228 3 rfl ?_
        refine j_iald E (cM_39 hg) dX11_hose_229 (fun t1 => ?_)
        exact j_sub [] (lv1 := []) rfl (jxX11_hose_230 hg N E t1 h)
      · refine j_iload E dX11_hose_219 4 rfl ?_
        refine j_goto E 230 dX11_hose_221 rfl ?_
        exact j_sub [] (lv1 := []) rfl (jxX11_hose_230 hg N E a4 h)
    · refine j_iconst E (v := 0) dX11_hose_89 (by decide) ?_
      refine j_istore0 E dX11_hose_90 (Nat.le_of_ble_eq_true rfl) [(6, .int 0), (0, .ref (g.2.2.1 0)), (1, .int a1), (2, .int a2), (3, .int a3), (4, .int a4), (5, .int a5)] rfl ?_
      refine j_iconst E (v := 1) dX11_hose_92 (by decide) ?_
      refine j_istore0 E dX11_hose_93 (Nat.le_of_ble_eq_true rfl) [(7, .int 1), (6, .int 0), (0, .ref (g.2.2.1 0)), (1, .int a1), (2, .int a2), (3, .int a3), (4, .int a4), (5, .int a5)] rfl ?_
      exact j_sub [2, 3, 4, 5, 6, 7, 1, 0] (lv1 := [(0, .ref (g.2.2.1 0)), (1, .int a1), (2, .int a2), (3, .int a3), (4, .int a4), (5, .int a5), (6, .int 0), (7, .int 1)]) rfl (jxX11_hose_95 hg N E (xX11_hose_83 N n) ih N a1 a2 a3 a4 a5 0 1 h)
set_option maxRecDepth 20000 in
set_option maxHeartbeats 4000000 in
theorem jxX11_hose_60 {g : GC} (hg : isGM g) {X : MX} (N : Nat) (E : JE g mX11_hose X) : ∀ (n : Nat) (a1 : Int32) (a2 : Int32) (a3 : Int32) (a4 : Int32) (a5 : Int32) (h : HP), J g mX11_hose X 60 [(0, .ref (g.2.2.1 0)), (1, .int a1), (2, .int a2), (3, .int a3), (4, .int a4), (5, .int a5)] [] h (xX11_hose_60 N n a1 a2 a3 a4 a5 h) := by
  intro n
  induction n with
  | zero => intro a1 a2 a3 a4 a5 h; exact j_none
  | succ n ih =>
    intro a1 a2 a3 a4 a5 h
    unfold xX11_hose_60
    refine j_iload E dX11_hose_60 5 rfl ?_
    refine j_iload_n E dX11_hose_62 2 rfl ?_
    refine j_cmp_ge E 80 dX11_hose_63 rfl ?_ ?_
    · refine j_iconst E (v := 0) dX11_hose_80 (by decide) ?_
      refine j_istore0 E dX11_hose_81 (Nat.le_of_ble_eq_true rfl) [(5, .int 0), (0, .ref (g.2.2.1 0)), (1, .int a1), (2, .int a2), (3, .int a3), (4, .int a4)] rfl ?_
      exact j_sub [1, 2, 3, 4, 5, 0] (lv1 := [(0, .ref (g.2.2.1 0)), (1, .int a1), (2, .int a2), (3, .int a3), (4, .int a4), (5, .int 0)]) rfl (jxX11_hose_83 hg N E N a1 a2 a3 a4 0 h)
    · refine j_aload_n E dX11_hose_66 0 rfl ?_
      refine j_getr E f_X11_123 (cM_0 hg) 38 rfl dX11_hose_67 ?_
      refine j_iload E dX11_hose_70 5 rfl ?_
      refine j_iconst E (v := 0) dX11_hose_72 (by decide) ?_
      refine j_iast E (cM_38 hg) dX11_hose_73 (fun h1 => ?_)
      refine j_iinc E (c := 1) dX11_hose_74 5 rfl (by decide) (Nat.le_of_ble_eq_true rfl) (fun v2 => [(5, .int v2), (0, .ref (g.2.2.1 0)), (1, .int a1), (2, .int a2), (3, .int a3), (4, .int a4)]) (fun _ => rfl) (fun v2 => ?_)
      refine j_goto E 60 dX11_hose_77 rfl ?_
      exact j_sub [1, 2, 3, 4, 5, 0] (lv1 := [(0, .ref (g.2.2.1 0)), (1, .int a1), (2, .int a2), (3, .int a3), (4, .int a4), (5, .int v2)]) rfl (ih a1 a2 a3 a4 v2 h1)
set_option maxRecDepth 20000 in
set_option maxHeartbeats 4000000 in
theorem jxX11_hose_37 {g : GC} (hg : isGM g) {X : MX} (N : Nat) (E : JE g mX11_hose X) (a1 : Int32) (a2 : Int32) (a3 : Int32) (h : HP) : J g mX11_hose X 37 [(0, .ref (g.2.2.1 0)), (1, .int a1), (2, .int a2), (3, .int a3)] [] h (xX11_hose_37 N a1 a2 a3 h) := by
  unfold xX11_hose_37
  refine j_iload_n E dX11_hose_37 1 rfl ?_
  refine j_iload_n E dX11_hose_38 2 rfl ?_
  refine j_imul E dX11_hose_39 ?_
  refine j_aload_n E dX11_hose_40 0 rfl ?_
  refine j_geti E f_X11_155 (cM_0 hg) rfl dX11_hose_41 ?_
  refine j_cmp_le E 49 dX11_hose_44 rfl ?_ ?_
  · refine j_aload_n E dX11_hose_49 0 rfl ?_
    refine j_iconst E (v := 0) dX11_hose_50 (by decide) ?_
    refine j_puti E fp_X11_155 (cM_0 hg) rfl dX11_hose_51 (fun h1 => ?_)
    refine j_iconst E (v := 0) dX11_hose_54 (by decide) ?_
    refine j_istore0 E dX11_hose_55 (Nat.le_of_ble_eq_true rfl) [(4, .int 0), (0, .ref (g.2.2.1 0)), (1, .int a1), (2, .int a2), (3, .int a3)] rfl ?_
    refine j_iconst E (v := 0) dX11_hose_57 (by decide) ?_
    refine j_istore0 E dX11_hose_58 (Nat.le_of_ble_eq_true rfl) [(5, .int 0), (4, .int 0), (0, .ref (g.2.2.1 0)), (1, .int a1), (2, .int a2), (3, .int a3)] rfl ?_
    exact j_sub [2, 3, 4, 5, 1, 0] (lv1 := [(0, .ref (g.2.2.1 0)), (1, .int a1), (2, .int a2), (3, .int a3), (4, .int 0), (5, .int 0)]) rfl (jxX11_hose_60 hg N E N a1 a2 a3 0 0 h1)
  · exact j_sub [] (lv1 := []) rfl (jxX11_hose_47 hg N E h)
set_option maxRecDepth 20000 in
set_option maxHeartbeats 4000000 in
theorem jxX11_hose {g : GC} (hg : isGM g) {X : MX} (N : Nat) (E : JE g mX11_hose X) (a1 : Int32) (a2 : Int32) (a3 : Int32) (h : HP) : J g mX11_hose X 0 [(0, .ref (g.2.2.1 0)), (1, .int a1), (2, .int a2), (3, .int a3)] [] h (xX11_hose N a1 a2 a3 h) := by
  unfold xX11_hose
  refine j_iload_n E dX11_hose_0 1 rfl ?_
  refine j_iconst E (v := 1) dX11_hose_1 (by decide) ?_
  refine j_bipush E (v := 12) dX11_hose_2 (by decide) ?_
  refine j_callsI (As := [.int a1, .int 1, .int 12]) (st := []) E (ok_X11_in hg E.2.2.2.2.2.2.2.1 a1 1 12 h) (cl_X11_129) (⟨Nat.le_of_ble_eq_true rfl, Nat.le_of_ble_eq_true rfl⟩) rfl rfl (Nat.le_of_ble_eq_true rfl) dX11_hose_4 (fun t1 h2 => ?_)
  refine j_if_eq E 47 dX11_hose_7 rfl ?_ ?_
  · exact j_sub [] (lv1 := []) rfl (jxX11_hose_47 hg N E h2)
  · refine j_iload_n E dX11_hose_10 2 rfl ?_
    refine j_iconst E (v := 1) dX11_hose_11 (by decide) ?_
    refine j_bipush E (v := 6) dX11_hose_12 (by decide) ?_
    refine j_callsI (As := [.int a2, .int 1, .int 6]) (st := []) E (ok_X11_in hg E.2.2.2.2.2.2.2.1 a2 1 6 h2) (cl_X11_129) (⟨Nat.le_of_ble_eq_true rfl, Nat.le_of_ble_eq_true rfl⟩) rfl rfl (Nat.le_of_ble_eq_true rfl) dX11_hose_14 (fun t3 h4 => ?_)
    refine j_if_eq E 47 dX11_hose_17 rfl ?_ ?_
    · exact j_sub [] (lv1 := []) rfl (jxX11_hose_47 hg N E h4)
    · refine j_iload_n E dX11_hose_20 3 rfl ?_
      refine j_iconst E (v := 0) dX11_hose_21 (by decide) ?_
      refine j_iload_n E dX11_hose_22 1 rfl ?_
      refine j_iconst E (v := 1) dX11_hose_23 (by decide) ?_
      refine j_isub E dX11_hose_24 ?_
      refine j_callsI (As := [.int a3, .int 0, .int (a1 - 1)]) (st := []) E (ok_X11_in hg E.2.2.2.2.2.2.2.1 a3 0 (a1 - 1) h4) (cl_X11_129) (⟨Nat.le_of_ble_eq_true rfl, Nat.le_of_ble_eq_true rfl⟩) rfl rfl (Nat.le_of_ble_eq_true rfl) dX11_hose_25 (fun t5 h6 => ?_)
      refine j_if_ne E 37 dX11_hose_28 rfl ?_ ?_
      · exact jxX11_hose_37 hg N E a1 a2 a3 h6
      · refine j_iload_n E dX11_hose_31 3 rfl ?_
        refine j_bipush E (v := 100) dX11_hose_32 (by decide) ?_
        refine j_cmp_ne E 47 dX11_hose_34 rfl ?_ ?_
        · exact j_sub [] (lv1 := []) rfl (jxX11_hose_47 hg N E h6)
        · exact jxX11_hose_37 hg N E a1 a2 a3 h6
theorem ok_X11_hose {g : GC} (hg : isGM g) (hI : gI g) (N : Nat) (a1 : Int32) (a2 : Int32) (a3 : Int32) (h : HP) : Ok g yX11_hose mX11_hose [.ref (g.2.2.1 0), .int a1, .int a2, .int a3] h (xX11_hose N a1 a2 a3 h) := Ok.of hI (by decide) rfl (Nat.le_of_ble_eq_true rfl) (fun X E => jxX11_hose hg N E a1 a2 a3 h)
set_option maxRecDepth 20000 in
set_option maxHeartbeats 4000000 in
theorem jxX11_seed {g : GC} (hg : isGM g) {X : MX} (E : JE g mX11_seed X) (a1 : Int32) (h : HP) : J g mX11_seed X 0 [(0, .ref (g.2.2.1 0)), (1, .int a1)] [] h (xX11_seed a1 h) := by
  unfold xX11_seed
  refine j_iload_n E dX11_seed_0 1 rfl ?_
  refine j_iconst E (v := 0) dX11_seed_1 (by decide) ?_
  refine j_ldcw E (v := 65535) k_X11_405 dX11_seed_2 ?_
  refine j_callsI (As := [.int a1, .int 0, .int 65535]) (st := []) E (ok_X11_in hg E.2.2.2.2.2.2.2.1 a1 0 65535 h) (cl_X11_129) (⟨Nat.le_of_ble_eq_true rfl, Nat.le_of_ble_eq_true rfl⟩) rfl rfl (Nat.le_of_ble_eq_true rfl) dX11_seed_5 (fun t1 h2 => ?_)
  refine j_if_ne E 13 dX11_seed_8 rfl ?_ ?_
  · refine j_aload_n E dX11_seed_13 0 rfl ?_
    refine j_getr E f_X11_7 (cM_0 hg) 1 rfl dX11_seed_14 ?_
    refine j_bipush E (v := 74) dX11_seed_17 (by decide) ?_
    refine j_iload_n E dX11_seed_19 1 rfl ?_
    refine j_iast E (cM_1 hg) dX11_seed_20 (fun h3 => ?_)
    refine j_iconst E (v := 1) dX11_seed_21 (by decide) ?_
    exact j_zreturn E rfl dX11_seed_22
  · refine j_iconst E (v := 0) dX11_seed_11 (by decide) ?_
    exact j_zreturn E rfl dX11_seed_12
theorem ok_X11_seed {g : GC} (hg : isGM g) (hI : gI g) (a1 : Int32) (h : HP) : Ok g yX11_seed mX11_seed [.ref (g.2.2.1 0), .int a1] h (xX11_seed a1 h) := Ok.of hI (by decide) rfl (Nat.le_of_ble_eq_true rfl) (fun X E => jxX11_seed hg E a1 h)
set_option maxRecDepth 20000 in
set_option maxHeartbeats 4000000 in
theorem jxX11_keep {g : GC} (hg : isGM g) {X : MX} (N : Nat) (E : JE g mX11_keep X) (h : HP) : J g mX11_keep X 0 [(0, .ref (g.2.2.1 0))] [] h (xX11_keep N h) := by
  unfold xX11_keep
  refine j_aload_n E dX11_keep_0 0 rfl ?_
  refine j_iconst E (v := 1) dX11_keep_1 (by decide) ?_
  refine j_putz E fp_X11_406 (cM_0 hg) rfl dX11_keep_2 (fun h1 => ?_)
  refine j_aload_n E dX11_keep_5 0 rfl ?_
  refine j_aload_n E dX11_keep_6 0 rfl ?_
  refine j_geti E f_X11_133 (cM_0 hg) rfl dX11_keep_7 ?_
  refine j_puti E fp_X11_410 (cM_0 hg) rfl dX11_keep_10 (fun h2 => ?_)
  refine j_aload_n E dX11_keep_13 0 rfl ?_
  refine j_aload_n E dX11_keep_14 0 rfl ?_
  refine j_geti E f_X11_145 (cM_0 hg) rfl dX11_keep_15 ?_
  refine j_puti E fp_X11_413 (cM_0 hg) rfl dX11_keep_18 (fun h3 => ?_)
  refine j_aload_n E dX11_keep_21 0 rfl ?_
  refine j_getr E f_X11_7 (cM_0 hg) 1 rfl dX11_keep_22 ?_
  refine j_aload_n E dX11_keep_25 0 rfl ?_
  refine j_getr E f_X11_16 (cM_0 hg) 3 rfl dX11_keep_26 ?_
  refine j_callsV (As := [.ref (g.2.2.1 1), .ref (g.2.2.1 3)]) (st := []) E (ok_X11_copies hg E.2.2.2.2.2.2.2.1 N 1 3 (cM_1 hg) (cM_3 hg) h3) (cl_X11_298) (⟨Nat.le_of_ble_eq_true rfl, Nat.le_of_ble_eq_true rfl⟩) rfl rfl (Nat.le_of_ble_eq_true rfl) dX11_keep_29 (fun t4 h5 => ?_)
  refine j_aload_n E dX11_keep_32 0 rfl ?_
  refine j_getr E f_X11_7 (cM_0 hg) 1 rfl dX11_keep_33 ?_
  refine j_bipush E (v := 73) dX11_keep_36 (by decide) ?_
  refine j_iald E (cM_1 hg) dX11_keep_38 (fun t6 => ?_)
  exact j_ireturn E rfl dX11_keep_39
theorem ok_X11_keep {g : GC} (hg : isGM g) (hI : gI g) (N : Nat) (h : HP) : Ok g yX11_keep mX11_keep [.ref (g.2.2.1 0)] h (xX11_keep N h) := Ok.of hI (by decide) rfl (Nat.le_of_ble_eq_true rfl) (fun X E => jxX11_keep hg N E h)
set_option maxRecDepth 20000 in
set_option maxHeartbeats 4000000 in
theorem jxX11_undo_63 {g : GC} (hg : isGM g) {X : MX} (N : Nat) (E : JE g mX11_undo X) (K19 : Int32 → Int32 → HP → Option (Int32 × HP)) (hK19 : ∀ (a1 : Int32) (a2 : Int32) (h : HP), J g mX11_undo X 19 [(0, .ref (g.2.2.1 0)), (1, .int a1), (2, .int a2)] [] h (K19 a1 a2 h)) (a1 : Int32) (a2 : Int32) (s1 : Int32) (s2 : Int32) (h : HP) : J g mX11_undo X 63 [(0, .ref (g.2.2.1 0)), (1, .int a1), (2, .int a2)] [.int s2, .int s1, .ref (g.2.2.1 1)] h (xX11_undo_63 N K19 a1 a2 s1 s2 h) := by
  unfold xX11_undo_63
  refine j_iast E (cM_1 hg) dX11_undo_63 (fun h1 => ?_)
  refine j_iload_n E dX11_undo_64 2 rfl ?_
  refine j_bipush E (v := 16) dX11_undo_65 (by decide) ?_
  refine j_iadd E dX11_undo_67 ?_
  refine j_istore_n E dX11_undo_68 (Nat.le_of_ble_eq_true rfl) (fun v2 => [(2, .int v2), (0, .ref (g.2.2.1 0)), (1, .int a1)]) (fun _ => rfl) (fun v2 => ?_)
  refine j_goto E 19 dX11_undo_69 rfl ?_
  exact j_sub [1, 2, 0] (lv1 := [(0, .ref (g.2.2.1 0)), (1, .int a1), (2, .int v2)]) rfl (hK19 a1 v2 h1)
set_option maxRecDepth 20000 in
set_option maxHeartbeats 4000000 in
theorem jxX11_undo_62 {g : GC} (hg : isGM g) {X : MX} (N : Nat) (E : JE g mX11_undo X) (K19 : Int32 → Int32 → HP → Option (Int32 × HP)) (hK19 : ∀ (a1 : Int32) (a2 : Int32) (h : HP), J g mX11_undo X 19 [(0, .ref (g.2.2.1 0)), (1, .int a1), (2, .int a2)] [] h (K19 a1 a2 h)) (a1 : Int32) (a2 : Int32) (s1 : Int32) (h : HP) : J g mX11_undo X 62 [(0, .ref (g.2.2.1 0)), (1, .int a1), (2, .int a2)] [.int s1, .ref (g.2.2.1 1)] h (xX11_undo_62 N K19 a1 a2 s1 h) := by
  unfold xX11_undo_62
  refine j_iconst E (v := 0) dX11_undo_62 (by decide) ?_
  exact jxX11_undo_63 hg N E K19 hK19 a1 a2 s1 0 h
set_option maxRecDepth 20000 in
set_option maxHeartbeats 4000000 in
theorem jxX11_undo_19 {g : GC} (hg : isGM g) {X : MX} (N : Nat) (E : JE g mX11_undo X) (K11 : Int32 → HP → Option (Int32 × HP)) (hK11 : ∀ (a1 : Int32) (h : HP), J g mX11_undo X 11 [(0, .ref (g.2.2.1 0)), (1, .int a1)] [] h (K11 a1 h)) : ∀ (n : Nat) (a1 : Int32) (a2 : Int32) (h : HP), J g mX11_undo X 19 [(0, .ref (g.2.2.1 0)), (1, .int a1), (2, .int a2)] [] h (xX11_undo_19 N K11 n a1 a2 h) := by
  intro n
  induction n with
  | zero => intro a1 a2 h; exact j_none
  | succ n ih =>
    intro a1 a2 h
    unfold xX11_undo_19
    refine j_iload_n E dX11_undo_19 2 rfl ?_
    refine j_bipush E (v := 48) dX11_undo_20 (by decide) ?_
    refine j_cmp_ge E 72 dX11_undo_22 rfl ?_ ?_
    · refine j_iinc E (c := 1) dX11_undo_72 1 rfl (by decide) (Nat.le_of_ble_eq_true rfl) (fun v1 => [(1, .int v1), (0, .ref (g.2.2.1 0)), (2, .int a2)]) (fun _ => rfl) (fun v1 => ?_)
      refine j_goto E 11 dX11_undo_75 rfl ?_
      exact j_sub [1, 0] (lv1 := [(0, .ref (g.2.2.1 0)), (1, .int v1)]) rfl (hK11 v1 h)
    · refine j_aload_n E dX11_undo_25 0 rfl ?_
      refine j_getr E f_X11_7 (cM_0 hg) 1 rfl dX11_undo_26 ?_
      refine j_iload_n E dX11_undo_29 2 rfl ?_
      refine j_iload_n E dX11_undo_30 1 rfl ?_
      refine j_iadd E dX11_undo_31 ?_
      refine j_aload_n E dX11_undo_32 0 rfl ?_
      refine j_iload_n E dX11_undo_33 1 rfl ?_
      refine j_callvI (As := [.int a1]) (st := [.int (a2 + a1), .ref (g.2.2.1 1)]) E (ok_X11_isTold hg E.2.2.2.2.2.2.2.1 a1 h) (cM_0 hg) (cl_X11_141) (⟨Nat.le_of_ble_eq_true rfl, Nat.le_of_ble_eq_true rfl⟩) rfl rfl (Nat.le_of_ble_eq_true rfl) dX11_undo_34 (fun t2 h3 => ?_)
      refine j_if_eq E 62 dX11_undo_37 rfl ?_ ?_
      · exact jxX11_undo_62 hg N E (xX11_undo_19 N K11 n) ih a1 a2 (a2 + a1) h3
      · refine j_aload_n E dX11_undo_40 0 rfl ?_
        refine j_geti E f_X11_410 (cM_0 hg) rfl dX11_undo_41 ?_
        refine j_iload_n E dX11_undo_44 1 rfl ?_
        refine j_callsI (As := [.int (h3.1 0 59), .int a1]) (st := [.int (a2 + a1), .ref (g.2.2.1 1)]) E (ok_X11_has hg E.2.2.2.2.2.2.2.1 (h3.1 0 59) a1 h3) (cl_X11_137) (⟨Nat.le_of_ble_eq_true rfl, Nat.le_of_ble_eq_true rfl⟩) rfl rfl (Nat.le_of_ble_eq_true rfl) dX11_undo_45 (fun t4 h5 => ?_)
        refine j_if_eq E 62 dX11_undo_48 rfl ?_ ?_
        · exact jxX11_undo_62 hg N E (xX11_undo_19 N K11 n) ih a1 a2 (a2 + a1) h5
        · refine j_aload_n E dX11_undo_51 0 rfl ?_
          refine j_getr E f_X11_16 (cM_0 hg) 3 rfl dX11_undo_52 ?_
          refine j_iload_n E dX11_undo_55 2 rfl ?_
          refine j_iload_n E dX11_undo_56 1 rfl ?_
          refine j_iadd E dX11_undo_57 ?_
          refine j_iald E (cM_3 hg) dX11_undo_58 (fun t6 => ?_)
          refine j_goto E 63 dX11_undo_59 rfl ?_
          exact jxX11_undo_63 hg N E (xX11_undo_19 N K11 n) ih a1 a2 (a2 + a1) t6 h5
set_option maxRecDepth 20000 in
set_option maxHeartbeats 4000000 in
theorem jxX11_undo_117 {g : GC} (hg : isGM g) {X : MX} (N : Nat) (E : JE g mX11_undo X) (K80 : Int32 → HP → Option (Int32 × HP)) (hK80 : ∀ (a1 : Int32) (h : HP), J g mX11_undo X 80 [(0, .ref (g.2.2.1 0)), (1, .int a1)] [] h (K80 a1 h)) (a1 : Int32) (s1 : Int32) (s2 : Int32) (h : HP) : J g mX11_undo X 117 [(0, .ref (g.2.2.1 0)), (1, .int a1)] [.int s2, .int s1, .ref (g.2.2.1 1)] h (xX11_undo_117 N K80 a1 s1 s2 h) := by
  unfold xX11_undo_117
  refine j_iast E (cM_1 hg) dX11_undo_117 (fun h1 => ?_)
  refine j_iinc E (c := 1) dX11_undo_118 1 rfl (by decide) (Nat.le_of_ble_eq_true rfl) (fun v2 => [(1, .int v2), (0, .ref (g.2.2.1 0))]) (fun _ => rfl) (fun v2 => ?_)
  refine j_goto E 80 dX11_undo_121 rfl ?_
  exact j_sub [1, 0] (lv1 := [(0, .ref (g.2.2.1 0)), (1, .int v2)]) rfl (hK80 v2 h1)
set_option maxRecDepth 20000 in
set_option maxHeartbeats 4000000 in
theorem jxX11_undo_80 {g : GC} (hg : isGM g) {X : MX} (N : Nat) (E : JE g mX11_undo X) : ∀ (n : Nat) (a1 : Int32) (h : HP), J g mX11_undo X 80 [(0, .ref (g.2.2.1 0)), (1, .int a1)] [] h (xX11_undo_80 N n a1 h) := by
  intro n
  induction n with
  | zero => intro a1 h; exact j_none
  | succ n ih =>
    intro a1 h
    unfold xX11_undo_80
    refine j_iload_n E dX11_undo_80 1 rfl ?_
    refine j_aload_n E dX11_undo_81 0 rfl ?_
    refine j_geti E f_X11_145 (cM_0 hg) rfl dX11_undo_82 ?_
    refine j_cmp_ge E 124 dX11_undo_85 rfl ?_ ?_
    · refine j_aload_n E dX11_undo_124 0 rfl ?_
      refine j_getr E f_X11_7 (cM_0 hg) 1 rfl dX11_undo_125 ?_
      refine j_bipush E (v := 72) dX11_undo_128 (by decide) ?_
      refine j_aload_n E dX11_undo_130 0 rfl ?_
      refine j_getr E f_X11_16 (cM_0 hg) 3 rfl dX11_undo_131 ?_
      refine j_bipush E (v := 72) dX11_undo_134 (by decide) ?_
      refine j_iald E (cM_3 hg) dX11_undo_136 (fun t1 => ?_)
      refine j_iast E (cM_1 hg) dX11_undo_137 (fun h2 => ?_)
      refine j_aload_n E dX11_undo_138 0 rfl ?_
      refine j_getr E f_X11_7 (cM_0 hg) 1 rfl dX11_undo_139 ?_
      refine j_bipush E (v := 73) dX11_undo_142 (by decide) ?_
      refine j_aload_n E dX11_undo_144 0 rfl ?_
      refine j_getr E f_X11_16 (cM_0 hg) 3 rfl dX11_undo_145 ?_
      refine j_bipush E (v := 73) dX11_undo_148 (by decide) ?_
      refine j_iald E (cM_3 hg) dX11_undo_150 (fun t3 => ?_)
      refine j_iast E (cM_1 hg) dX11_undo_151 (fun h4 => ?_)
      refine j_aload_n E dX11_undo_152 0 rfl ?_
      refine j_getr E f_X11_7 (cM_0 hg) 1 rfl dX11_undo_153 ?_
      refine j_bipush E (v := 74) dX11_undo_156 (by decide) ?_
      refine j_aload_n E dX11_undo_158 0 rfl ?_
      refine j_getr E f_X11_16 (cM_0 hg) 3 rfl dX11_undo_159 ?_
      refine j_bipush E (v := 74) dX11_undo_162 (by decide) ?_
      refine j_iald E (cM_3 hg) dX11_undo_164 (fun t5 => ?_)
      refine j_iast E (cM_1 hg) dX11_undo_165 (fun h6 => ?_)
      refine j_iconst E (v := 1) dX11_undo_166 (by decide) ?_
      exact j_zreturn E rfl dX11_undo_167
    · refine j_aload_n E dX11_undo_88 0 rfl ?_
      refine j_getr E f_X11_7 (cM_0 hg) 1 rfl dX11_undo_89 ?_
      refine j_bipush E (v := 48) dX11_undo_92 (by decide) ?_
      refine j_iload_n E dX11_undo_94 1 rfl ?_
      refine j_iadd E dX11_undo_95 ?_
      refine j_iload_n E dX11_undo_96 1 rfl ?_
      refine j_aload_n E dX11_undo_97 0 rfl ?_
      refine j_geti E f_X11_413 (cM_0 hg) rfl dX11_undo_98 ?_
      refine j_cmp_ge E 116 dX11_undo_101 rfl ?_ ?_
      · refine j_iconst E (v := 1) dX11_undo_116 (by decide) ?_
        exact jxX11_undo_117 hg N E (xX11_undo_80 N n) ih a1 (48 + a1) 1 h
      · refine j_aload_n E dX11_undo_104 0 rfl ?_
        refine j_getr E f_X11_16 (cM_0 hg) 3 rfl dX11_undo_105 ?_
        refine j_bipush E (v := 48) dX11_undo_108 (by decide) ?_
        refine j_iload_n E dX11_undo_110 1 rfl ?_
        refine j_iadd E dX11_undo_111 ?_
        refine j_iald E (cM_3 hg) dX11_undo_112 (fun t7 => ?_)
        refine j_goto E 117 dX11_undo_113 rfl ?_
        exact jxX11_undo_117 hg N E (xX11_undo_80 N n) ih a1 (48 + a1) t7 h
set_option maxRecDepth 20000 in
set_option maxHeartbeats 4000000 in
theorem jxX11_undo_11 {g : GC} (hg : isGM g) {X : MX} (N : Nat) (E : JE g mX11_undo X) : ∀ (n : Nat) (a1 : Int32) (h : HP), J g mX11_undo X 11 [(0, .ref (g.2.2.1 0)), (1, .int a1)] [] h (xX11_undo_11 N n a1 h) := by
  intro n
  induction n with
  | zero => intro a1 h; exact j_none
  | succ n ih =>
    intro a1 h
    unfold xX11_undo_11
    refine j_iload_n E dX11_undo_11 1 rfl ?_
    refine j_bipush E (v := 16) dX11_undo_12 (by decide) ?_
    refine j_cmp_ge E 78 dX11_undo_14 rfl ?_ ?_
    · refine j_iconst E (v := 0) dX11_undo_78 (by decide) ?_
      refine j_istore0_n E dX11_undo_79 (Nat.le_of_ble_eq_true rfl) [(1, .int 0), (0, .ref (g.2.2.1 0))] rfl ?_
      exact j_sub [1, 0] (lv1 := [(0, .ref (g.2.2.1 0)), (1, .int 0)]) rfl (jxX11_undo_80 hg N E N 0 h)
    · refine j_iconst E (v := 0) dX11_undo_17 (by decide) ?_
      refine j_istore0_n E dX11_undo_18 (Nat.le_of_ble_eq_true rfl) [(2, .int 0), (0, .ref (g.2.2.1 0)), (1, .int a1)] rfl ?_
      exact j_sub [1, 2, 0] (lv1 := [(0, .ref (g.2.2.1 0)), (1, .int a1), (2, .int 0)]) rfl (jxX11_undo_19 hg N E (xX11_undo_11 N n) ih N a1 0 h)
set_option maxRecDepth 20000 in
set_option maxHeartbeats 4000000 in
theorem jxX11_undo {g : GC} (hg : isGM g) {X : MX} (N : Nat) (E : JE g mX11_undo X) (h : HP) : J g mX11_undo X 0 [(0, .ref (g.2.2.1 0))] [] h (xX11_undo N h) := by
  unfold xX11_undo
  refine j_aload_n E dX11_undo_0 0 rfl ?_
  refine j_geti E f_X11_406 (cM_0 hg) rfl dX11_undo_1 ?_
  refine j_if_ne E 9 dX11_undo_4 rfl ?_ ?_
  · refine j_iconst E (v := 0) dX11_undo_9 (by decide) ?_
    refine j_istore0_n E dX11_undo_10 (Nat.le_of_ble_eq_true rfl) [(1, .int 0), (0, .ref (g.2.2.1 0))] rfl ?_
    exact j_sub [1, 0] (lv1 := [(0, .ref (g.2.2.1 0)), (1, .int 0)]) rfl (jxX11_undo_11 hg N E N 0 h)
  · refine j_iconst E (v := 0) dX11_undo_7 (by decide) ?_
    exact j_zreturn E rfl dX11_undo_8
theorem ok_X11_undo {g : GC} (hg : isGM g) (hI : gI g) (N : Nat) (h : HP) : Ok g yX11_undo mX11_undo [.ref (g.2.2.1 0)] h (xX11_undo N h) := Ok.of hI (by decide) rfl (Nat.le_of_ble_eq_true rfl) (fun X E => jxX11_undo hg N E h)
set_option maxRecDepth 20000 in
set_option maxHeartbeats 4000000 in
theorem jxX11_check_18 {g : GC} (hg : isGM g) {X : MX} (N : Nat) (E : JE g mX11_check X) (h : HP) : J g mX11_check X 18 [] [] h (xX11_check_18 N h) := by
  unfold xX11_check_18
  refine j_bipush E (v := (-2)) dX11_check_18 (by decide) ?_
  exact j_ireturn E rfl dX11_check_20
set_option maxRecDepth 20000 in
set_option maxHeartbeats 4000000 in
theorem jxX11_check_61 {g : GC} (hg : isGM g) {X : MX} (N : Nat) (E : JE g mX11_check X) (K28 : Int32 → Int32 → HP → Option (Int32 × HP)) (hK28 : ∀ (a1 : Int32) (a2 : Int32) (h : HP), J g mX11_check X 28 [(0, .ref (g.2.2.1 0)), (1, .int a1), (2, .int a2)] [] h (K28 a1 a2 h)) (a1 : Int32) (a2 : Int32) (s0 : Int32) (s1 : Int32) (h : HP) : J g mX11_check X 61 [(0, .ref (g.2.2.1 0)), (1, .int a1), (2, .int a2)] [.int s1, .int s0] h (xX11_check_61 N K28 a1 a2 s0 s1 h) := by
  unfold xX11_check_61
  refine j_cmp_eq E 66 dX11_check_61 rfl ?_ ?_
  · refine j_iinc E (c := 1) dX11_check_66 2 rfl (by decide) (Nat.le_of_ble_eq_true rfl) (fun v1 => [(2, .int v1), (0, .ref (g.2.2.1 0)), (1, .int a1)]) (fun _ => rfl) (fun v1 => ?_)
    refine j_goto E 28 dX11_check_69 rfl ?_
    exact j_sub [1, 2, 0] (lv1 := [(0, .ref (g.2.2.1 0)), (1, .int a1), (2, .int v1)]) rfl (hK28 a1 v1 h)
  · refine j_iload_n E dX11_check_64 2 rfl ?_
    exact j_ireturn E rfl dX11_check_65
set_option maxRecDepth 20000 in
set_option maxHeartbeats 4000000 in
theorem jxX11_check_28 {g : GC} (hg : isGM g) {X : MX} (N : Nat) (E : JE g mX11_check X) : ∀ (n : Nat) (a1 : Int32) (a2 : Int32) (h : HP), J g mX11_check X 28 [(0, .ref (g.2.2.1 0)), (1, .int a1), (2, .int a2)] [] h (xX11_check_28 N n a1 a2 h) := by
  intro n
  induction n with
  | zero => intro a1 a2 h; exact j_none
  | succ n ih =>
    intro a1 a2 h
    unfold xX11_check_28
    refine j_iload_n E dX11_check_28 2 rfl ?_
    refine j_iload_n E dX11_check_29 1 rfl ?_
    refine j_cmp_ge E 72 dX11_check_30 rfl ?_ ?_
    · refine j_iconst E (v := (-1)) dX11_check_72 (by decide) ?_
      exact j_ireturn E rfl dX11_check_73
    · refine j_aload_n E dX11_check_33 0 rfl ?_
      refine j_iload_n E dX11_check_34 2 rfl ?_
      refine j_callvI (As := [.int a2]) (st := []) E (ok_X11_octet hg E.2.2.2.2.2.2.2.1 a2 h) (cM_0 hg) (cl_X11_399) (⟨Nat.le_of_ble_eq_true rfl, Nat.le_of_ble_eq_true rfl⟩) rfl rfl (Nat.le_of_ble_eq_true rfl) dX11_check_35 (fun t1 h2 => ?_)
      refine j_aload_n E dX11_check_38 0 rfl ?_
      refine j_iload_n E dX11_check_39 2 rfl ?_
      refine j_callvI (As := [.int a2]) (st := [.int t1]) E (ok_X11_isTold hg E.2.2.2.2.2.2.2.1 a2 h2) (cM_0 hg) (cl_X11_141) (⟨Nat.le_of_ble_eq_true rfl, Nat.le_of_ble_eq_true rfl⟩) rfl rfl (Nat.le_of_ble_eq_true rfl) dX11_check_40 (fun t3 h4 => ?_)
      refine j_if_eq E 58 dX11_check_43 rfl ?_ ?_
      · refine j_sipush E (v := 255) dX11_check_58 (by decide) ?_
        exact jxX11_check_61 hg N E (xX11_check_28 N n) ih a1 a2 t1 255 h4
      · refine j_aload_n E dX11_check_46 0 rfl ?_
        refine j_getr E f_X11_7 (cM_0 hg) 1 rfl dX11_check_47 ?_
        refine j_bipush E (v := 16) dX11_check_50 (by decide) ?_
        refine j_iload_n E dX11_check_52 2 rfl ?_
        refine j_iadd E dX11_check_53 ?_
        refine j_iald E (cM_1 hg) dX11_check_54 (fun t5 => ?_)
        refine j_goto E 61 dX11_check_55 rfl ?_
        exact jxX11_check_61 hg N E (xX11_check_28 N n) ih a1 a2 t1 t5 h4
set_option maxRecDepth 20000 in
set_option maxHeartbeats 4000000 in
theorem jxX11_check {g : GC} (hg : isGM g) {X : MX} (N : Nat) (E : JE g mX11_check X) (a1 : Int32) (h : HP) : J g mX11_check X 0 [(0, .ref (g.2.2.1 0)), (1, .int a1)] [] h (xX11_check N a1 h) := by
  unfold xX11_check
  refine j_iload_n E dX11_check_0 1 rfl ?_
  refine j_iconst E (v := 0) dX11_check_1 (by decide) ?_
  refine j_bipush E (v := 16) dX11_check_2 (by decide) ?_
  refine j_callsI (As := [.int a1, .int 0, .int 16]) (st := []) E (ok_X11_in hg E.2.2.2.2.2.2.2.1 a1 0 16 h) (cl_X11_129) (⟨Nat.le_of_ble_eq_true rfl, Nat.le_of_ble_eq_true rfl⟩) rfl rfl (Nat.le_of_ble_eq_true rfl) dX11_check_4 (fun t1 h2 => ?_)
  refine j_if_eq E 18 dX11_check_7 rfl ?_ ?_
  · exact j_sub [] (lv1 := []) rfl (jxX11_check_18 hg N E h2)
  · refine j_iload_n E dX11_check_10 1 rfl ?_
    refine j_aload_n E dX11_check_11 0 rfl ?_
    refine j_geti E f_X11_155 (cM_0 hg) rfl dX11_check_12 ?_
    refine j_cmp_le E 21 dX11_check_15 rfl ?_ ?_
    · refine j_aload_n E dX11_check_21 0 rfl ?_
      refine j_iconst E (v := 0) dX11_check_22 (by decide) ?_
      refine j_puti E fp_X11_155 (cM_0 hg) rfl dX11_check_23 (fun h3 => ?_)
      refine j_iconst E (v := 0) dX11_check_26 (by decide) ?_
      refine j_istore0_n E dX11_check_27 (Nat.le_of_ble_eq_true rfl) [(2, .int 0), (0, .ref (g.2.2.1 0)), (1, .int a1)] rfl ?_
      exact j_sub [1, 2, 0] (lv1 := [(0, .ref (g.2.2.1 0)), (1, .int a1), (2, .int 0)]) rfl (jxX11_check_28 hg N E N a1 0 h3)
    · exact j_sub [] (lv1 := []) rfl (jxX11_check_18 hg N E h2)
theorem ok_X11_check {g : GC} (hg : isGM g) (hI : gI g) (N : Nat) (a1 : Int32) (h : HP) : Ok g yX11_check mX11_check [.ref (g.2.2.1 0), .int a1] h (xX11_check N a1 h) := Ok.of hI (by decide) rfl (Nat.le_of_ble_eq_true rfl) (fun X E => jxX11_check hg N E a1 h)
set_option maxRecDepth 20000 in
set_option maxHeartbeats 4000000 in
theorem jxX11_openPipes_24 {g : GC} (hg : isGM g) {X : MX} (N : Nat) (E : JE g mX11_openPipes X) (K4 : Int32 → Int32 → HP → Option (Int32 × HP)) (hK4 : ∀ (a1 : Int32) (a2 : Int32) (h : HP), J g mX11_openPipes X 4 [(0, .ref (g.2.2.1 0)), (1, .int a1), (2, .int a2)] [] h (K4 a1 a2 h)) (a1 : Int32) (a2 : Int32) (h : HP) : J g mX11_openPipes X 24 [(0, .ref (g.2.2.1 0)), (1, .int a1), (2, .int a2)] [] h (xX11_openPipes_24 N K4 a1 a2 h) := by
  unfold xX11_openPipes_24
  refine j_iinc E (c := 1) dX11_openPipes_24 2 rfl (by decide) (Nat.le_of_ble_eq_true rfl) (fun v1 => [(2, .int v1), (0, .ref (g.2.2.1 0)), (1, .int a1)]) (fun _ => rfl) (fun v1 => ?_)
  refine j_goto E 4 dX11_openPipes_27 rfl ?_
  exact j_sub [1, 2, 0] (lv1 := [(0, .ref (g.2.2.1 0)), (1, .int a1), (2, .int v1)]) rfl (hK4 a1 v1 h)
set_option maxRecDepth 20000 in
set_option maxHeartbeats 4000000 in
theorem jxX11_openPipes_4 {g : GC} (hg : isGM g) {X : MX} (N : Nat) (E : JE g mX11_openPipes X) : ∀ (n : Nat) (a1 : Int32) (a2 : Int32) (h : HP), J g mX11_openPipes X 4 [(0, .ref (g.2.2.1 0)), (1, .int a1), (2, .int a2)] [] h (xX11_openPipes_4 N n a1 a2 h) := by
  intro n
  induction n with
  | zero => intro a1 a2 h; exact j_none
  | succ n ih =>
    intro a1 a2 h
    unfold xX11_openPipes_4
    refine j_iload_n E dX11_openPipes_4 2 rfl ?_
    refine j_aload_n E dX11_openPipes_5 0 rfl ?_
    refine j_geti E f_X11_145 (cM_0 hg) rfl dX11_openPipes_6 ?_
    refine j_cmp_ge E 30 dX11_openPipes_9 rfl ?_ ?_
    · refine j_iload_n E dX11_openPipes_30 1 rfl ?_
      exact j_ireturn E rfl dX11_openPipes_31
    · refine j_aload_n E dX11_openPipes_12 0 rfl ?_
      refine j_iload_n E dX11_openPipes_13 2 rfl ?_
      refine j_callvI (As := [.int a2]) (st := []) E (ok_X11_isOpen hg E.2.2.2.2.2.2.2.1 a2 h) (cM_0 hg) (cl_X11_148) (⟨Nat.le_of_ble_eq_true rfl, Nat.le_of_ble_eq_true rfl⟩) rfl rfl (Nat.le_of_ble_eq_true rfl) dX11_openPipes_14 (fun t1 h2 => ?_)
      refine j_if_eq E 24 dX11_openPipes_17 rfl ?_ ?_
      · exact jxX11_openPipes_24 hg N E (xX11_openPipes_4 N n) ih a1 a2 h2
      · refine j_iload_n E dX11_openPipes_20 1 rfl ?_
        refine j_iconst E (v := 1) dX11_openPipes_21 (by decide) ?_
        refine j_iadd E dX11_openPipes_22 ?_
        refine j_istore_n E dX11_openPipes_23 (Nat.le_of_ble_eq_true rfl) (fun v3 => [(1, .int v3), (0, .ref (g.2.2.1 0)), (2, .int a2)]) (fun _ => rfl) (fun v3 => ?_)
        exact j_sub [1, 0, 2] (lv1 := [(0, .ref (g.2.2.1 0)), (1, .int v3), (2, .int a2)]) rfl (jxX11_openPipes_24 hg N E (xX11_openPipes_4 N n) ih v3 a2 h2)
set_option maxRecDepth 20000 in
set_option maxHeartbeats 4000000 in
theorem jxX11_openPipes {g : GC} (hg : isGM g) {X : MX} (N : Nat) (E : JE g mX11_openPipes X) (h : HP) : J g mX11_openPipes X 0 [(0, .ref (g.2.2.1 0))] [] h (xX11_openPipes N h) := by
  unfold xX11_openPipes
  refine j_iconst E (v := 0) dX11_openPipes_0 (by decide) ?_
  refine j_istore0_n E dX11_openPipes_1 (Nat.le_of_ble_eq_true rfl) [(1, .int 0), (0, .ref (g.2.2.1 0))] rfl ?_
  refine j_iconst E (v := 0) dX11_openPipes_2 (by decide) ?_
  refine j_istore0_n E dX11_openPipes_3 (Nat.le_of_ble_eq_true rfl) [(2, .int 0), (1, .int 0), (0, .ref (g.2.2.1 0))] rfl ?_
  exact j_sub [2, 1, 0] (lv1 := [(0, .ref (g.2.2.1 0)), (1, .int 0), (2, .int 0)]) rfl (jxX11_openPipes_4 hg N E N 0 0 h)
theorem ok_X11_openPipes {g : GC} (hg : isGM g) (hI : gI g) (N : Nat) (h : HP) : Ok g yX11_openPipes mX11_openPipes [.ref (g.2.2.1 0)] h (xX11_openPipes N h) := Ok.of hI (by decide) rfl (Nat.le_of_ble_eq_true rfl) (fun X E => jxX11_openPipes hg N E h)
set_option maxRecDepth 20000 in
set_option maxHeartbeats 4000000 in
theorem jxX11_count {g : GC} (hg : isGM g) {X : MX} (N : Nat) (E : JE g mX11_count X) (a1 : Int32) (h : HP) : J g mX11_count X 0 [(0, .ref (g.2.2.1 0)), (1, .int a1)] [] h (xX11_count N a1 h) := by
  unfold xX11_count
  refine j_iload_n E dX11_count_0 1 rfl ?_
  refine j_tab E 0 60 dX11_count_1 (by decide) (by decide) rfl rfl ?_ (fun hx0 => ?_)
  · refine j_aload_n E dX11_count_60 0 rfl ?_
    refine j_getr E f_X11_7 (cM_0 hg) 1 rfl dX11_count_61 ?_
    refine j_bipush E (v := 73) dX11_count_64 (by decide) ?_
    refine j_iald E (cM_1 hg) dX11_count_66 (fun t1 => ?_)
    exact j_ireturn E rfl dX11_count_67
  refine j_tab E 1 68 dX11_count_1 (by decide) (by decide) rfl rfl ?_ (fun hx1 => ?_)
  · refine j_aload_n E dX11_count_68 0 rfl ?_
    refine j_geti E f_X11_133 (cM_0 hg) rfl dX11_count_69 ?_
    exact j_ireturn E rfl dX11_count_72
  refine j_tab E 2 73 dX11_count_1 (by decide) (by decide) rfl rfl ?_ (fun hx2 => ?_)
  · refine j_aload_n E dX11_count_73 0 rfl ?_
    refine j_geti E f_X11_145 (cM_0 hg) rfl dX11_count_74 ?_
    exact j_ireturn E rfl dX11_count_77
  refine j_tab E 3 78 dX11_count_1 (by decide) (by decide) rfl rfl ?_ (fun hx3 => ?_)
  · refine j_aload_n E dX11_count_78 0 rfl ?_
    refine j_callvI (As := []) (st := []) E (ok_X11_openPipes hg E.2.2.2.2.2.2.2.1 N h) (cM_0 hg) (cl_X11_416) (⟨Nat.le_of_ble_eq_true rfl, Nat.le_of_ble_eq_true rfl⟩) rfl rfl (Nat.le_of_ble_eq_true rfl) dX11_count_79 (fun t2 h3 => ?_)
    exact j_ireturn E rfl dX11_count_82
  refine j_tab E 4 83 dX11_count_1 (by decide) (by decide) rfl rfl ?_ (fun hx4 => ?_)
  · refine j_aload_n E dX11_count_83 0 rfl ?_
    refine j_getr E f_X11_7 (cM_0 hg) 1 rfl dX11_count_84 ?_
    refine j_bipush E (v := 72) dX11_count_87 (by decide) ?_
    refine j_iald E (cM_1 hg) dX11_count_89 (fun t4 => ?_)
    exact j_ireturn E rfl dX11_count_90
  refine j_tab E 5 91 dX11_count_1 (by decide) (by decide) rfl rfl ?_ (fun hx5 => ?_)
  · refine j_aload_n E dX11_count_91 0 rfl ?_
    refine j_geti E f_X11_255 (cM_0 hg) rfl dX11_count_92 ?_
    exact j_ireturn E rfl dX11_count_95
  refine j_tab E 6 96 dX11_count_1 (by decide) (by decide) rfl rfl ?_ (fun hx6 => ?_)
  · refine j_aload_n E dX11_count_96 0 rfl ?_
    refine j_geti E f_X11_155 (cM_0 hg) rfl dX11_count_97 ?_
    exact j_ireturn E rfl dX11_count_100
  refine j_tab E 7 101 dX11_count_1 (by decide) (by decide) rfl rfl ?_ (fun hx7 => ?_)
  · refine j_aload_n E dX11_count_101 0 rfl ?_
    refine j_getr E f_X11_7 (cM_0 hg) 1 rfl dX11_count_102 ?_
    refine j_bipush E (v := 74) dX11_count_105 (by decide) ?_
    refine j_iald E (cM_1 hg) dX11_count_107 (fun t5 => ?_)
    exact j_ireturn E rfl dX11_count_108
  refine j_tab E 8 109 dX11_count_1 (by decide) (by decide) rfl rfl ?_ (fun hx8 => ?_)
  · refine j_aload_n E dX11_count_109 0 rfl ?_
    refine j_iconst E (v := 0) dX11_count_110 (by decide) ?_
    refine j_callvI (As := [.int 0]) (st := []) E (ok_X11_sumOf hg E.2.2.2.2.2.2.2.1 N 0 h) (cM_0 hg) (cl_X11_345) (⟨Nat.le_of_ble_eq_true rfl, Nat.le_of_ble_eq_true rfl⟩) rfl rfl (Nat.le_of_ble_eq_true rfl) dX11_count_111 (fun t6 h7 => ?_)
    exact j_ireturn E rfl dX11_count_114
  refine j_tab E 9 115 dX11_count_1 (by decide) (by decide) rfl rfl ?_ (fun hx9 => ?_)
  · refine j_aload_n E dX11_count_115 0 rfl ?_
    refine j_bipush E (v := 32) dX11_count_116 (by decide) ?_
    refine j_callvI (As := [.int 32]) (st := []) E (ok_X11_sumOf hg E.2.2.2.2.2.2.2.1 N 32 h) (cM_0 hg) (cl_X11_345) (⟨Nat.le_of_ble_eq_true rfl, Nat.le_of_ble_eq_true rfl⟩) rfl rfl (Nat.le_of_ble_eq_true rfl) dX11_count_118 (fun t8 h9 => ?_)
    exact j_ireturn E rfl dX11_count_121
  refine j_tab E 10 122 dX11_count_1 (by decide) (by decide) rfl rfl ?_ (fun hx10 => ?_)
  · refine j_aload_n E dX11_count_122 0 rfl ?_
    refine j_callvI (As := []) (st := []) E (ok_X11_groups hg E.2.2.2.2.2.2.2.1 N h) (cM_0 hg) (cl_X11_419) (⟨Nat.le_of_ble_eq_true rfl, Nat.le_of_ble_eq_true rfl⟩) rfl rfl (Nat.le_of_ble_eq_true rfl) dX11_count_123 (fun t10 h11 => ?_)
    exact j_ireturn E rfl dX11_count_126
  refine j_tdef E 127 [0, 1, 2, 3, 4, 5, 6, 7, 8, 9, 10] (by intro vq hq; simp only [List.mem_cons, List.not_mem_nil, or_false] at hq; rcases hq with rfl | rfl | rfl | rfl | rfl | rfl | rfl | rfl | rfl | rfl | rfl <;> assumption) dX11_count_1 (by decide) (by decide) rfl ?_
  refine j_iconst E (v := (-1)) dX11_count_127 (by decide) ?_
  exact j_ireturn E rfl dX11_count_128
theorem ok_X11_count {g : GC} (hg : isGM g) (hI : gI g) (N : Nat) (a1 : Int32) (h : HP) : Ok g yX11_count mX11_count [.ref (g.2.2.1 0), .int a1] h (xX11_count N a1 h) := Ok.of hI (by decide) rfl (Nat.le_of_ble_eq_true rfl) (fun X E => jxX11_count hg N E a1 h)
