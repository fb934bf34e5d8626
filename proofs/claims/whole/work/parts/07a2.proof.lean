theorem ok_X2_readSum {g : GC} (hg : isGX g) (hI : gI g) (N dp : Nat) (a2 : Int32) (h : HP) : Ok g yX2_readSum (mX2_readSum dp) [.ref (g.2.2.1 20), .ref (g.2.2.1 1), .int a2] h (xr_X2_readSum N dp a2 h) := (ok_rg0 hg hI N dp).2.2.1 a2 h
theorem ok_X2_readFactor {g : GC} (hg : isGX g) (hI : gI g) (N dp : Nat) (a2 : Int32) (h : HP) : Ok g yX2_readFactor (mX2_readFactor dp) [.ref (g.2.2.1 20), .ref (g.2.2.1 1), .int a2] h (xr_X2_readFactor N dp a2 h) := (ok_rg0 hg hI N dp).2.2.2 a2 h
set_option maxRecDepth 20000 in
set_option maxHeartbeats 4000000 in
theorem jxX7_isAtEnd_16 {g : GC} (hg : isGX g) {X : MX} (E : JE g mX7_isAtEnd X) (s0 : Int32) (h : HP) : J g mX7_isAtEnd X 16 [] [.int s0] h (xX7_isAtEnd_16 s0 h) := by
  unfold xX7_isAtEnd_16
  exact j_zreturn E rfl dX7_isAtEnd_16
set_option maxRecDepth 20000 in
set_option maxHeartbeats 4000000 in
theorem jxX7_isAtEnd {g : GC} (hg : isGX g) {X : MX} (E : JE g mX7_isAtEnd X) (h : HP) : J g mX7_isAtEnd X 0 [(0, .ref (g.2.2.1 1))] [] h (xX7_isAtEnd h) := by
  unfold xX7_isAtEnd
  refine j_aload_n E dX7_isAtEnd_0 0 rfl ?_
  refine j_geti E f_X7_19 (cX_1 hg) rfl dX7_isAtEnd_1 ?_
  refine j_aload_n E dX7_isAtEnd_4 0 rfl ?_
  refine j_geti E f_X7_22 (cX_1 hg) rfl dX7_isAtEnd_5 ?_
  refine j_cmp_lt E 15 dX7_isAtEnd_8 rfl ?_ ?_
  · refine j_iconst E (v := 0) dX7_isAtEnd_15 (by decide) ?_
    exact j_sub [] (lv1 := []) rfl (jxX7_isAtEnd_16 hg E 0 h)
  · refine j_iconst E (v := 1) dX7_isAtEnd_11 (by decide) ?_
    refine j_goto E 16 dX7_isAtEnd_12 rfl ?_
    exact j_sub [] (lv1 := []) rfl (jxX7_isAtEnd_16 hg E 1 h)
theorem ok_X7_isAtEnd {g : GC} (hg : isGX g) (hI : gI g) (h : HP) : Ok g yX7_isAtEnd mX7_isAtEnd [.ref (g.2.2.1 1)] h (xX7_isAtEnd h) := Ok.of hI (by decide) rfl (Nat.le_of_ble_eq_true rfl) (fun X E => jxX7_isAtEnd hg E h)
set_option maxRecDepth 20000 in
set_option maxHeartbeats 4000000 in
theorem jxX2_readFrom_148 {g : GC} (hg : isGX g) {X : MX} (N : Nat) (E : JE g mX2_readFrom X) (h : HP) : J g mX2_readFrom X 148 [] [] h (xX2_readFrom_148 N h) := by
  unfold xX2_readFrom_148
  refine j_iconst E (v := 0) dX2_readFrom_148 (by decide) ?_
  exact j_zreturn E rfl dX2_readFrom_149
set_option maxRecDepth 20000 in
set_option maxHeartbeats 4000000 in
theorem jxX2_readFrom_111 {g : GC} (hg : isGX g) {X : MX} (N : Nat) (E : JE g mX2_readFrom X) (K12 : Int32 → HP → Option (Int32 × HP)) (hK12 : ∀ (a2 : Int32) (h : HP), J g mX2_readFrom X 12 [(0, .ref (g.2.2.1 20)), (1, .ref (g.2.2.1 1)), (2, .int a2)] [] h (K12 a2 h)) (a2 : Int32) (h : HP) : J g mX2_readFrom X 111 [(0, .ref (g.2.2.1 20)), (1, .ref (g.2.2.1 1)), (2, .int a2)] [] h (xX2_readFrom_111 N K12 a2 h) := by
  unfold xX2_readFrom_111
  refine j_aload_n E dX2_readFrom_111 0 rfl ?_
  refine j_getr E f_X2_24 (cX_20 hg) 25 rfl dX2_readFrom_112 ?_
  refine j_iload_n E dX2_readFrom_115 2 rfl ?_
  refine j_aload_n E dX2_readFrom_116 0 rfl ?_
  refine j_geti E f_X2_36 (cX_20 hg) rfl dX2_readFrom_117 ?_
  refine j_iast E (cX_25 hg) dX2_readFrom_120 (fun h1 => ?_)
  refine j_aload_n E dX2_readFrom_121 1 rfl ?_
  refine j_bipush E (v := 40) dX2_readFrom_122 (by decide) ?_
  refine j_callvI (As := [.int 40]) (st := []) E (ok_X7_demands hg E.2.2.2.2.2.2.2.1 40 h1) (cX_1 hg) (cl_X2_60) (⟨Nat.le_of_ble_eq_true rfl, Nat.le_of_ble_eq_true rfl⟩) rfl rfl (Nat.le_of_ble_eq_true rfl) dX2_readFrom_124 (fun t2 h3 => ?_)
  refine j_if_eq E 148 dX2_readFrom_127 rfl ?_ ?_
  · exact j_sub [] (lv1 := []) rfl (jxX2_readFrom_148 hg N E h3)
  · refine j_aload_n E dX2_readFrom_130 0 rfl ?_
    refine j_aload_n E dX2_readFrom_131 1 rfl ?_
    refine j_iconst E (v := 1) dX2_readFrom_132 (by decide) ?_
    refine j_callvI (As := [.ref (g.2.2.1 1), .int 1]) (st := []) E (ok_X2_readCondition hg E.2.2.2.2.2.2.2.1 N 60 1 h3) (cX_20 hg) (cl_X2_64 60) (⟨Nat.le_of_ble_eq_true rfl, Nat.le_of_ble_eq_true rfl⟩) rfl rfl (Nat.le_of_ble_eq_true rfl) dX2_readFrom_133 (fun t4 h5 => ?_)
    refine j_if_eq E 148 dX2_readFrom_136 rfl ?_ ?_
    · exact j_sub [] (lv1 := []) rfl (jxX2_readFrom_148 hg N E h5)
    · refine j_aload_n E dX2_readFrom_139 1 rfl ?_
      refine j_bipush E (v := 41) dX2_readFrom_140 (by decide) ?_
      refine j_callvI (As := [.int 41]) (st := []) E (ok_X7_demands hg E.2.2.2.2.2.2.2.1 41 h5) (cX_1 hg) (cl_X2_60) (⟨Nat.le_of_ble_eq_true rfl, Nat.le_of_ble_eq_true rfl⟩) rfl rfl (Nat.le_of_ble_eq_true rfl) dX2_readFrom_142 (fun t6 h7 => ?_)
      refine j_if_ne E 150 dX2_readFrom_145 rfl ?_ ?_
      · refine j_aload_n E dX2_readFrom_150 0 rfl ?_
        refine j_getr E f_X2_27 (cX_20 hg) 26 rfl dX2_readFrom_151 ?_
        refine j_iload_n E dX2_readFrom_154 2 rfl ?_
        refine j_aload_n E dX2_readFrom_155 0 rfl ?_
        refine j_geti E f_X2_36 (cX_20 hg) rfl dX2_readFrom_156 ?_
        refine j_iast E (cX_26 hg) dX2_readFrom_159 (fun h8 => ?_)
        refine j_aload_n E dX2_readFrom_160 0 rfl ?_
        refine j_iload_n E dX2_readFrom_161 2 rfl ?_
        refine j_iconst E (v := 1) dX2_readFrom_162 (by decide) ?_
        refine j_iadd E dX2_readFrom_163 ?_
        refine j_puti E fp_X2_40 (cX_20 hg) rfl dX2_readFrom_164 (fun h9 => ?_)
        refine j_aload_n E dX2_readFrom_167 1 rfl ?_
        refine j_callvI (As := []) (st := []) E (ok_X7_isAtEnd hg E.2.2.2.2.2.2.2.1 h9) (cX_1 hg) (cl_X2_67) (⟨Nat.le_of_ble_eq_true rfl, Nat.le_of_ble_eq_true rfl⟩) rfl rfl (Nat.le_of_ble_eq_true rfl) dX2_readFrom_168 (fun t10 h11 => ?_)
        refine j_if_eq E 176 dX2_readFrom_171 rfl ?_ ?_
        · refine j_aload_n E dX2_readFrom_176 1 rfl ?_
          refine j_bipush E (v := 59) dX2_readFrom_177 (by decide) ?_
          refine j_callvI (As := [.int 59]) (st := []) E (ok_X7_demands hg E.2.2.2.2.2.2.2.1 59 h11) (cX_1 hg) (cl_X2_60) (⟨Nat.le_of_ble_eq_true rfl, Nat.le_of_ble_eq_true rfl⟩) rfl rfl (Nat.le_of_ble_eq_true rfl) dX2_readFrom_179 (fun t12 h13 => ?_)
          refine j_if_ne E 187 dX2_readFrom_182 rfl ?_ ?_
          · refine j_iinc E (c := 1) dX2_readFrom_187 2 rfl (by decide) (Nat.le_of_ble_eq_true rfl) (fun v14 => [(2, .int v14), (0, .ref (g.2.2.1 20)), (1, .ref (g.2.2.1 1))]) (fun _ => rfl) (fun v14 => ?_)
            refine j_goto E 12 dX2_readFrom_190 rfl ?_
            exact j_sub [1, 2, 0] (lv1 := [(0, .ref (g.2.2.1 20)), (1, .ref (g.2.2.1 1)), (2, .int v14)]) rfl (hK12 v14 h13)
          · refine j_iconst E (v := 0) dX2_readFrom_185 (by decide) ?_
            exact j_zreturn E rfl dX2_readFrom_186
        · refine j_iconst E (v := 1) dX2_readFrom_174 (by decide) ?_
          exact j_zreturn E rfl dX2_readFrom_175
      · exact j_sub [] (lv1 := []) rfl (jxX2_readFrom_148 hg N E h7)
set_option maxRecDepth 20000 in
set_option maxHeartbeats 4000000 in
theorem jxX2_readFrom_51 {g : GC} (hg : isGX g) {X : MX} (N : Nat) (E : JE g mX2_readFrom X) (K12 : Int32 → HP → Option (Int32 × HP)) (hK12 : ∀ (a2 : Int32) (h : HP), J g mX2_readFrom X 12 [(0, .ref (g.2.2.1 20)), (1, .ref (g.2.2.1 1)), (2, .int a2)] [] h (K12 a2 h)) (a2 : Int32) (a3 : Int32) (h : HP) : J g mX2_readFrom X 51 [(0, .ref (g.2.2.1 20)), (1, .ref (g.2.2.1 1)), (2, .int a2), (3, .int a3)] [] h (xX2_readFrom_51 N K12 a2 a3 h) := by
  unfold xX2_readFrom_51
  refine j_iload_n E dX2_readFrom_51 2 rfl ?_
  refine j_bipush E (v := 16) dX2_readFrom_52 (by decide) ?_
  refine j_cmp_ne E 67 dX2_readFrom_54 rfl ?_ ?_
  · refine j_aload_n E dX2_readFrom_67 1 rfl ?_
    refine j_dup E dX2_readFrom_68 rfl ?_
    refine j_geti E f_X2_49 (cX_1 hg) rfl dX2_readFrom_69 ?_
    refine j_iconst E (v := 1) dX2_readFrom_72 (by decide) ?_
    refine j_iadd E dX2_readFrom_73 ?_
    refine j_puti E fp_X2_49 (cX_1 hg) rfl dX2_readFrom_74 (fun h1 => ?_)
    refine j_aload_n E dX2_readFrom_77 0 rfl ?_
    refine j_getr E f_X2_18 (cX_20 hg) 23 rfl dX2_readFrom_78 ?_
    refine j_iload_n E dX2_readFrom_81 2 rfl ?_
    refine j_iload_n E dX2_readFrom_82 3 rfl ?_
    refine j_iast E (cX_23 hg) dX2_readFrom_83 (fun h2 => ?_)
    refine j_aload_n E dX2_readFrom_84 0 rfl ?_
    refine j_getr E f_X2_21 (cX_20 hg) 24 rfl dX2_readFrom_85 ?_
    refine j_iload_n E dX2_readFrom_88 2 rfl ?_
    refine j_aload_n E dX2_readFrom_89 0 rfl ?_
    refine j_geti E f_X2_36 (cX_20 hg) rfl dX2_readFrom_90 ?_
    refine j_iast E (cX_24 hg) dX2_readFrom_93 (fun h3 => ?_)
    refine j_iload_n E dX2_readFrom_94 3 rfl ?_
    refine j_bipush E (v := 120) dX2_readFrom_95 (by decide) ?_
    refine j_cmp_eq E 111 dX2_readFrom_97 rfl ?_ ?_
    · exact j_sub [0, 1, 2] (lv1 := [(0, .ref (g.2.2.1 20)), (1, .ref (g.2.2.1 1)), (2, .int a2)]) rfl (jxX2_readFrom_111 hg N E K12 hK12 a2 h3)
    · refine j_aload_n E dX2_readFrom_100 0 rfl ?_
      refine j_aload_n E dX2_readFrom_101 1 rfl ?_
      refine j_iconst E (v := 0) dX2_readFrom_102 (by decide) ?_
      refine j_callvI (As := [.ref (g.2.2.1 1), .int 0]) (st := []) E (ok_X2_readSum hg E.2.2.2.2.2.2.2.1 N 60 0 h3) (cX_20 hg) (cl_X2_56 60) (⟨Nat.le_of_ble_eq_true rfl, Nat.le_of_ble_eq_true rfl⟩) rfl rfl (Nat.le_of_ble_eq_true rfl) dX2_readFrom_103 (fun t4 h5 => ?_)
      refine j_if_ne E 111 dX2_readFrom_106 rfl ?_ ?_
      · exact j_sub [0, 1, 2] (lv1 := [(0, .ref (g.2.2.1 20)), (1, .ref (g.2.2.1 1)), (2, .int a2)]) rfl (jxX2_readFrom_111 hg N E K12 hK12 a2 h5)
      · refine j_iconst E (v := 0) dX2_readFrom_109 (by decide) ?_
        exact j_zreturn E rfl dX2_readFrom_110
  · refine j_aload_n E dX2_readFrom_57 1 rfl ?_
    refine j_iconst E (v := 4) dX2_readFrom_58 (by decide) ?_
    refine j_aload_n E dX2_readFrom_59 1 rfl ?_
    refine j_geti E f_X2_49 (cX_1 hg) rfl dX2_readFrom_60 ?_
    refine j_callvI (As := [.int 4, .int (h.1 1 2)]) (st := []) E (ok_X7_refuse hg E.2.2.2.2.2.2.2.1 4 (h.1 1 2) h) (cX_1 hg) (cl_X2_52) (⟨Nat.le_of_ble_eq_true rfl, Nat.le_of_ble_eq_true rfl⟩) rfl rfl (Nat.le_of_ble_eq_true rfl) dX2_readFrom_63 (fun t6 h7 => ?_)
    exact j_zreturn E rfl dX2_readFrom_66
set_option maxRecDepth 20000 in
set_option maxHeartbeats 4000000 in
theorem jxX2_readFrom_12 {g : GC} (hg : isGX g) {X : MX} (N : Nat) (E : JE g mX2_readFrom X) : ∀ (n : Nat) (a2 : Int32) (h : HP), J g mX2_readFrom X 12 [(0, .ref (g.2.2.1 20)), (1, .ref (g.2.2.1 1)), (2, .int a2)] [] h (xX2_readFrom_12 N n a2 h) := by
  intro n
  induction n with
  | zero => intro a2 h; exact j_none
  | succ n ih =>
    intro a2 h
    unfold xX2_readFrom_12
    refine j_iload_n E dX2_readFrom_12 2 rfl ?_
    refine j_bipush E (v := 16) dX2_readFrom_13 (by decide) ?_
    refine j_cmp_gt E 193 dX2_readFrom_15 rfl ?_ ?_
    · refine j_iconst E (v := 0) dX2_readFrom_193 (by decide) ?_
      exact j_zreturn E rfl dX2_readFrom_194
    · refine j_aload_n E dX2_readFrom_18 1 rfl ?_
      refine j_callvI (As := []) (st := []) E (ok_X7_peek hg E.2.2.2.2.2.2.2.1 h) (cX_1 hg) (cl_X2_43) (⟨Nat.le_of_ble_eq_true rfl, Nat.le_of_ble_eq_true rfl⟩) rfl rfl (Nat.le_of_ble_eq_true rfl) dX2_readFrom_19 (fun t1 h2 => ?_)
      refine j_istore0_n E dX2_readFrom_22 (Nat.le_of_ble_eq_true rfl) [(3, .int t1), (0, .ref (g.2.2.1 20)), (1, .ref (g.2.2.1 1)), (2, .int a2)] rfl ?_
      refine j_iload_n E dX2_readFrom_23 0 rfl ?_
      refine j_bipush E (v := 114) dX2_readFrom_24 (by decide) ?_
      refine j_cmp_eq E 51 dX2_readFrom_26 rfl ?_ ?_
      · exact j_sub [1, 2, 3, 0] (lv1 := [(0, .ref (g.2.2.1 20)), (1, .ref (g.2.2.1 1)), (2, .int a2), (3, .int t1)]) rfl (jxX2_readFrom_51 hg N E (xX2_readFrom_12 N n) ih a2 t1 h2)
      · refine j_iload_n E dX2_readFrom_29 0 rfl ?_
        refine j_bipush E (v := 111) dX2_readFrom_30 (by decide) ?_
        refine j_cmp_eq E 51 dX2_readFrom_32 rfl ?_ ?_
        · exact j_sub [1, 2, 3, 0] (lv1 := [(0, .ref (g.2.2.1 20)), (1, .ref (g.2.2.1 1)), (2, .int a2), (3, .int t1)]) rfl (jxX2_readFrom_51 hg N E (xX2_readFrom_12 N n) ih a2 t1 h2)
        · refine j_iload_n E dX2_readFrom_35 0 rfl ?_
          refine j_bipush E (v := 120) dX2_readFrom_36 (by decide) ?_
          refine j_cmp_eq E 51 dX2_readFrom_38 rfl ?_ ?_
          · exact j_sub [1, 2, 3, 0] (lv1 := [(0, .ref (g.2.2.1 20)), (1, .ref (g.2.2.1 1)), (2, .int a2), (3, .int t1)]) rfl (jxX2_readFrom_51 hg N E (xX2_readFrom_12 N n) ih a2 t1 h2)
          · refine j_aload_n E dX2_readFrom_41 2 rfl ?_
            refine j_iconst E (v := 1) dX2_readFrom_42 (by decide) ?_
            refine j_aload_n E dX2_readFrom_43 2 rfl ?_
            refine j_geti E f_X2_49 (cX_1 hg) rfl dX2_readFrom_44 ?_
            refine j_callvI (As := [.int 1, .int (h2.1 1 2)]) (st := []) E (ok_X7_refuse hg E.2.2.2.2.2.2.2.1 1 (h2.1 1 2) h2) (cX_1 hg) (cl_X2_52) (⟨Nat.le_of_ble_eq_true rfl, Nat.le_of_ble_eq_true rfl⟩) rfl rfl (Nat.le_of_ble_eq_true rfl) dX2_readFrom_47 (fun t3 h4 => ?_)
            exact j_zreturn E rfl dX2_readFrom_50
set_option maxRecDepth 20000 in
set_option maxHeartbeats 4000000 in
theorem jxX2_readFrom {g : GC} (hg : isGX g) {X : MX} (N : Nat) (E : JE g mX2_readFrom X) (h : HP) : J g mX2_readFrom X 0 [(0, .ref (g.2.2.1 20)), (1, .ref (g.2.2.1 1))] [] h (xX2_readFrom N h) := by
  unfold xX2_readFrom
  refine j_aload_n E dX2_readFrom_0 0 rfl ?_
  refine j_iconst E (v := 0) dX2_readFrom_1 (by decide) ?_
  refine j_puti E fp_X2_36 (cX_20 hg) rfl dX2_readFrom_2 (fun h1 => ?_)
  refine j_aload_n E dX2_readFrom_5 0 rfl ?_
  refine j_iconst E (v := 0) dX2_readFrom_6 (by decide) ?_
  refine j_puti E fp_X2_40 (cX_20 hg) rfl dX2_readFrom_7 (fun h2 => ?_)
  refine j_iconst E (v := 0) dX2_readFrom_10 (by decide) ?_
  refine j_istore0_n E dX2_readFrom_11 (Nat.le_of_ble_eq_true rfl) [(2, .int 0), (0, .ref (g.2.2.1 20)), (1, .ref (g.2.2.1 1))] rfl ?_
  exact j_sub [1, 2, 0] (lv1 := [(0, .ref (g.2.2.1 20)), (1, .ref (g.2.2.1 1)), (2, .int 0)]) rfl (jxX2_readFrom_12 hg N E N 0 h2)
theorem ok_X2_readFrom {g : GC} (hg : isGX g) (hI : gI g) (N : Nat) (h : HP) : Ok g yX2_readFrom mX2_readFrom [.ref (g.2.2.1 20), .ref (g.2.2.1 1)] h (xX2_readFrom N h) := Ok.of hI (by decide) rfl (Nat.le_of_ble_eq_true rfl) (fun X E => jxX2_readFrom hg N E h)
set_option maxRecDepth 20000 in
set_option maxHeartbeats 4000000 in
theorem jxX3_look_93 {g : GC} (hg : isGX g) {X : MX} (N : Nat) (E : JE g mX3_look X) (K15 : Int32 → HP → Option (Int32 × HP)) (hK15 : ∀ (a2 : Int32) (h : HP), J g mX3_look X 15 [(0, .ref (g.2.2.1 45)), (2, .int a2)] [] h (K15 a2 h)) (a2 : Int32) (h : HP) : J g mX3_look X 93 [(0, .ref (g.2.2.1 45)), (2, .int a2)] [] h (xX3_look_93 N K15 a2 h) := by
  unfold xX3_look_93
  refine j_iinc E (c := 1) dX3_look_93 1 rfl (by decide) (Nat.le_of_ble_eq_true rfl) (fun v1 => [(2, .int v1), (0, .ref (g.2.2.1 45))]) (fun _ => rfl) (fun v1 => ?_)
  refine j_goto E 15 dX3_look_96 rfl ?_
  exact j_sub [1, 0] (lv1 := [(0, .ref (g.2.2.1 45)), (2, .int v1)]) rfl (hK15 v1 h)
set_option maxRecDepth 20000 in
set_option maxHeartbeats 4000000 in
theorem jxX3_look_15 {g : GC} (hg : isGX g) {X : MX} (N : Nat) (E : JE g mX3_look X) : ∀ (n : Nat) (a2 : Int32) (h : HP), J g mX3_look X 15 [(0, .ref (g.2.2.1 45)), (2, .int a2)] [] h (xX3_look_15 N n a2 h) := by
  intro n
  induction n with
  | zero => intro a2 h; exact j_none
  | succ n ih =>
    intro a2 h
    unfold xX3_look_15
    refine j_iload_n E dX3_look_15 1 rfl ?_
    refine j_aload_n E dX3_look_16 0 rfl ?_
    refine j_getr E f_X3_21 (cX_45 hg) 3 rfl dX3_look_17 ?_
    refine j_geti E f_X3_35 (cX_3 hg) rfl dX3_look_20 ?_
    refine j_cmp_ge E 99 dX3_look_23 rfl ?_ ?_
    · exact j_vreturn E rfl dX3_look_99
    · refine j_aload_n E dX3_look_26 0 rfl ?_
      refine j_geti E f_X3_25 (cX_45 hg) rfl dX3_look_27 ?_
      refine j_iload_n E dX3_look_30 1 rfl ?_
      refine j_callnI (As := [.int (h.1 45 4), .int a2]) (st := []) E (ok_X10_hasBit hg E.2.2.2.2.2.2.2.1 (h.1 45 4) a2 h) (cl_X3_40) (⟨Nat.le_of_ble_eq_true rfl, Nat.le_of_ble_eq_true rfl⟩) rfl rfl (Nat.le_of_ble_eq_true rfl) dX3_look_31 (fun t1 h2 => ?_)
      refine j_if_eq E 93 dX3_look_34 rfl ?_ ?_
      · exact jxX3_look_93 hg N E (xX3_look_15 N n) ih a2 h2
      · refine j_aload_n E dX3_look_37 0 rfl ?_
        refine j_getr E f_X3_9 (cX_45 hg) 46 rfl dX3_look_38 ?_
        refine j_aload_n E dX3_look_41 0 rfl ?_
        refine j_getr E f_X3_21 (cX_45 hg) 3 rfl dX3_look_42 ?_
        refine j_getr E f_X3_44 (cX_3 hg) 5 rfl dX3_look_45 ?_
        refine j_iload_n E dX3_look_48 1 rfl ?_
        refine j_iald E (cX_5 hg) dX3_look_49 (fun t3 => ?_)
        refine j_dup2 E dX3_look_50 rfl rfl ?_
        refine j_iald E (cX_46 hg) dX3_look_51 (fun t4 => ?_)
        refine j_iconst E (v := 1) dX3_look_52 (by decide) ?_
        refine j_aload_n E dX3_look_53 0 rfl ?_
        refine j_getr E f_X3_21 (cX_45 hg) 3 rfl dX3_look_54 ?_
        refine j_getr E f_X3_47 (cX_3 hg) 6 rfl dX3_look_57 ?_
        refine j_iload_n E dX3_look_60 1 rfl ?_
        refine j_iald E (cX_6 hg) dX3_look_61 (fun t5 => ?_)
        refine j_ishl E dX3_look_62 ?_
        refine j_ior E dX3_look_63 ?_
        refine j_iast E (cX_46 hg) dX3_look_64 (fun h6 => ?_)
        refine j_aload_n E dX3_look_65 0 rfl ?_
        refine j_getr E f_X3_9 (cX_45 hg) 46 rfl dX3_look_66 ?_
        refine j_aload_n E dX3_look_69 0 rfl ?_
        refine j_getr E f_X3_21 (cX_45 hg) 3 rfl dX3_look_70 ?_
        refine j_getr E f_X3_47 (cX_3 hg) 6 rfl dX3_look_73 ?_
        refine j_iload_n E dX3_look_76 1 rfl ?_
        refine j_iald E (cX_6 hg) dX3_look_77 (fun t7 => ?_)
        refine j_dup2 E dX3_look_78 rfl rfl ?_
        refine j_iald E (cX_46 hg) dX3_look_79 (fun t8 => ?_)
        refine j_iconst E (v := 1) dX3_look_80 (by decide) ?_
        refine j_aload_n E dX3_look_81 0 rfl ?_
        refine j_getr E f_X3_21 (cX_45 hg) 3 rfl dX3_look_82 ?_
        refine j_getr E f_X3_44 (cX_3 hg) 5 rfl dX3_look_85 ?_
        refine j_iload_n E dX3_look_88 1 rfl ?_
        refine j_iald E (cX_5 hg) dX3_look_89 (fun t9 => ?_)
        refine j_ishl E dX3_look_90 ?_
        refine j_ior E dX3_look_91 ?_
        refine j_iast E (cX_46 hg) dX3_look_92 (fun h10 => ?_)
        exact jxX3_look_93 hg N E (xX3_look_15 N n) ih a2 h10
set_option maxRecDepth 20000 in
set_option maxHeartbeats 4000000 in
theorem jxX3_look {g : GC} (hg : isGX g) {X : MX} (N : Nat) (E : JE g mX3_look X) (a1 : Int32) (h : HP) : J g mX3_look X 0 [(0, .ref (g.2.2.1 45)), (1, .int a1)] [] h (xX3_look N a1 h) := by
  unfold xX3_look
  refine j_aload_n E dX3_look_0 0 rfl ?_
  refine j_iload_n E dX3_look_1 1 rfl ?_
  refine j_puti E fp_X3_25 (cX_45 hg) rfl dX3_look_2 (fun h1 => ?_)
  refine j_aload_n E dX3_look_5 0 rfl ?_
  refine j_getr E f_X3_9 (cX_45 hg) 46 rfl dX3_look_6 ?_
  refine j_iconst E (v := 0) dX3_look_9 (by decide) ?_
  refine j_callsV (As := [.ref (g.2.2.1 46), .int 0]) (st := []) E (ok_J7_fill_53178 hg E.2.2.2.2.2.2.2.1 N 16 46 (cX_46 hg) 0 h1) (cl_X3_29) (⟨Nat.le_of_ble_eq_true rfl, Nat.le_of_ble_eq_true rfl⟩) rfl rfl (Nat.le_of_ble_eq_true rfl) dX3_look_10 (fun t2 h3 => ?_)
  refine j_iconst E (v := 0) dX3_look_13 (by decide) ?_
  refine j_istore0_n E dX3_look_14 (Nat.le_of_ble_eq_true rfl) [(2, .int 0), (0, .ref (g.2.2.1 45)), (1, .int a1)] rfl ?_
  exact j_sub [1, 0] (lv1 := [(0, .ref (g.2.2.1 45)), (2, .int 0)]) rfl (jxX3_look_15 hg N E N 0 h3)
theorem ok_X3_look {g : GC} (hg : isGX g) (hI : gI g) (N : Nat) (a1 : Int32) (h : HP) : Ok g yX3_look mX3_look [.ref (g.2.2.1 45), .int a1] h (xX3_look N a1 h) := Ok.of hI (by decide) rfl (Nat.le_of_ble_eq_true rfl) (fun X E => jxX3_look hg N E a1 h)
set_option maxRecDepth 20000 in
set_option maxHeartbeats 4000000 in
theorem jxJ6_bitCount_0f7a4 {g : GC} (hg : isGX g) {X : MX} (E : JE g mJ6_bitCount_0f7a4 X) (a0 : Int32) (h : HP) : J g mJ6_bitCount_0f7a4 X 0 [(0, .int a0)] [] h (xJ6_bitCount_0f7a4 a0 h) := by
  unfold xJ6_bitCount_0f7a4
  refine j_iload_n E dJ6_bitCount_0f7a4_0 0 rfl ?_
  refine j_iload_n E dJ6_bitCount_0f7a4_1 0 rfl ?_
  refine j_iconst E (v := 1) dJ6_bitCount_0f7a4_2 (by decide) ?_
  refine j_ushr2 E dJ6_bitCount_0f7a4_3 ?_
  refine j_ldcw E (v := 1431655765) k_J6_265 dJ6_bitCount_0f7a4_4 ?_
  refine j_iand E dJ6_bitCount_0f7a4_7 ?_
  refine j_isub E dJ6_bitCount_0f7a4_8 ?_
  refine j_istore_n E dJ6_bitCount_0f7a4_9 (Nat.le_of_ble_eq_true rfl) (fun v1 => [(0, .int v1)]) (fun _ => rfl) (fun v1 => ?_)
  refine j_iload_n E dJ6_bitCount_0f7a4_10 0 rfl ?_
  refine j_ldcw E (v := 858993459) k_J6_266 dJ6_bitCount_0f7a4_11 ?_
  refine j_iand E dJ6_bitCount_0f7a4_14 ?_
  refine j_iload_n E dJ6_bitCount_0f7a4_15 0 rfl ?_
  refine j_iconst E (v := 2) dJ6_bitCount_0f7a4_16 (by decide) ?_
  refine j_ushr2 E dJ6_bitCount_0f7a4_17 ?_
  refine j_ldcw E (v := 858993459) k_J6_266 dJ6_bitCount_0f7a4_18 ?_
  refine j_iand E dJ6_bitCount_0f7a4_21 ?_
  refine j_iadd E dJ6_bitCount_0f7a4_22 ?_
  refine j_istore_n E dJ6_bitCount_0f7a4_23 (Nat.le_of_ble_eq_true rfl) (fun v2 => [(0, .int v2)]) (fun _ => rfl) (fun v2 => ?_)
  refine j_iload_n E dJ6_bitCount_0f7a4_24 0 rfl ?_
  refine j_iload_n E dJ6_bitCount_0f7a4_25 0 rfl ?_
  refine j_iconst E (v := 4) dJ6_bitCount_0f7a4_26 (by decide) ?_
  refine j_ushr2 E dJ6_bitCount_0f7a4_27 ?_
  refine j_iadd E dJ6_bitCount_0f7a4_28 ?_
  refine j_ldcw E (v := 252645135) k_J6_267 dJ6_bitCount_0f7a4_29 ?_
  refine j_iand E dJ6_bitCount_0f7a4_32 ?_
  refine j_istore_n E dJ6_bitCount_0f7a4_33 (Nat.le_of_ble_eq_true rfl) (fun v3 => [(0, .int v3)]) (fun _ => rfl) (fun v3 => ?_)
  refine j_iload_n E dJ6_bitCount_0f7a4_34 0 rfl ?_
  refine j_iload_n E dJ6_bitCount_0f7a4_35 0 rfl ?_
  refine j_bipush E (v := 8) dJ6_bitCount_0f7a4_36 (by decide) ?_
  refine j_ushr2 E dJ6_bitCount_0f7a4_38 ?_
  refine j_iadd E dJ6_bitCount_0f7a4_39 ?_
  refine j_istore_n E dJ6_bitCount_0f7a4_40 (Nat.le_of_ble_eq_true rfl) (fun v4 => [(0, .int v4)]) (fun _ => rfl) (fun v4 => ?_)
  refine j_iload_n E dJ6_bitCount_0f7a4_41 0 rfl ?_
  refine j_iload_n E dJ6_bitCount_0f7a4_42 0 rfl ?_
  refine j_bipush E (v := 16) dJ6_bitCount_0f7a4_43 (by decide) ?_
  refine j_ushr2 E dJ6_bitCount_0f7a4_45 ?_
  refine j_iadd E dJ6_bitCount_0f7a4_46 ?_
  refine j_istore_n E dJ6_bitCount_0f7a4_47 (Nat.le_of_ble_eq_true rfl) (fun v5 => [(0, .int v5)]) (fun _ => rfl) (fun v5 => ?_)
  refine j_iload_n E dJ6_bitCount_0f7a4_48 0 rfl ?_
  refine j_bipush E (v := 63) dJ6_bitCount_0f7a4_49 (by decide) ?_
  refine j_iand E dJ6_bitCount_0f7a4_51 ?_
  exact j_ireturn E rfl dJ6_bitCount_0f7a4_52
theorem ok_J6_bitCount_0f7a4 {g : GC} (hg : isGX g) (hI : gI g) (a0 : Int32) (h : HP) : Ok g yJ6_bitCount_0f7a4 mJ6_bitCount_0f7a4 [.int a0] h (xJ6_bitCount_0f7a4 a0 h) := Ok.of hI (by decide) rfl (Nat.le_of_ble_eq_true rfl) (fun X E => jxJ6_bitCount_0f7a4 hg E a0 h)
set_option maxRecDepth 20000 in
set_option maxHeartbeats 4000000 in
theorem jxX10_lowest {g : GC} (hg : isGX g) {X : MX} (E : JE g mX10_lowest X) (a0 : Int32) (h : HP) : J g mX10_lowest X 0 [(0, .int a0)] [] h (xX10_lowest a0 h) := by
  unfold xX10_lowest
  refine j_iload_n E dX10_lowest_0 0 rfl ?_
  refine j_iload_n E dX10_lowest_1 0 rfl ?_
  refine j_ineg E dX10_lowest_2 ?_
  refine j_iand E dX10_lowest_3 ?_
  refine j_iconst E (v := 1) dX10_lowest_4 (by decide) ?_
  refine j_isub E dX10_lowest_5 ?_
  refine j_callsI (As := [.int ((a0 &&& (-a0)) - 1)]) (st := []) E (ok_J6_bitCount_0f7a4 hg E.2.2.2.2.2.2.2.1 ((a0 &&& (-a0)) - 1) h) (cl_X10_223) (⟨Nat.le_of_ble_eq_true rfl, Nat.le_of_ble_eq_true rfl⟩) rfl rfl (Nat.le_of_ble_eq_true rfl) dX10_lowest_6 (fun t1 h2 => ?_)
  exact j_ireturn E rfl dX10_lowest_9
theorem ok_X10_lowest {g : GC} (hg : isGX g) (hI : gI g) (a0 : Int32) (h : HP) : Ok g yX10_lowest mX10_lowest [.int a0] h (xX10_lowest a0 h) := Ok.of hI (by decide) rfl (Nat.le_of_ble_eq_true rfl) (fun X E => jxX10_lowest hg E a0 h)
set_option maxRecDepth 20000 in
set_option maxHeartbeats 4000000 in
theorem jxX3_nearTo_42 {g : GC} (hg : isGX g) {X : MX} (N : Nat) (E : JE g mX3_nearTo X) (a2 : Int32) (h : HP) : J g mX3_nearTo X 42 [(2, .int a2)] [] h (xX3_nearTo_42 N a2 h) := by
  unfold xX3_nearTo_42
  refine j_iload_n E dX3_nearTo_42 0 rfl ?_
  exact j_ireturn E rfl dX3_nearTo_43
set_option maxRecDepth 20000 in
set_option maxHeartbeats 4000000 in
theorem jxX3_nearTo_7 {g : GC} (hg : isGX g) {X : MX} (N : Nat) (E : JE g mX3_nearTo X) : ∀ (n : Nat) (a2 : Int32) (a3 : Int32) (a4 : Int32) (h : HP), J g mX3_nearTo X 7 [(0, .ref (g.2.2.1 45)), (2, .int a2), (3, .int a3), (4, .int a4)] [] h (xX3_nearTo_7 N n a2 a3 a4 h) := by
  intro n
  induction n with
  | zero => intro a2 a3 a4 h; exact j_none
  | succ n ih =>
    intro a2 a3 a4 h
    unfold xX3_nearTo_7
    refine j_iload E dX3_nearTo_7 3 rfl ?_
    refine j_bipush E (v := 16) dX3_nearTo_9 (by decide) ?_
    refine j_cmp_ge E 42 dX3_nearTo_11 rfl ?_ ?_
    · exact j_sub [1] (lv1 := [(2, .int a2)]) rfl (jxX3_nearTo_42 hg N E a2 h)
    · refine j_iload_n E dX3_nearTo_14 2 rfl ?_
      refine j_if_eq E 42 dX3_nearTo_15 rfl ?_ ?_
      · exact j_sub [1] (lv1 := [(2, .int a2)]) rfl (jxX3_nearTo_42 hg N E a2 h)
      · refine j_iload_n E dX3_nearTo_18 1 rfl ?_
        refine j_aload_n E dX3_nearTo_19 0 rfl ?_
        refine j_getr E f_X3_9 (cX_45 hg) 46 rfl dX3_nearTo_20 ?_
        refine j_iload_n E dX3_nearTo_23 2 rfl ?_
        refine j_callnI (As := [.int a3]) (st := [.ref (g.2.2.1 46), .int a2]) E (ok_X10_lowest hg E.2.2.2.2.2.2.2.1 a3 h) (cl_X3_50) (⟨Nat.le_of_ble_eq_true rfl, Nat.le_of_ble_eq_true rfl⟩) rfl rfl (Nat.le_of_ble_eq_true rfl) dX3_nearTo_24 (fun t1 h2 => ?_)
        refine j_iald E (cX_46 hg) dX3_nearTo_27 (fun t3 => ?_)
        refine j_ior E dX3_nearTo_28 ?_
        refine j_istore_n E dX3_nearTo_29 (Nat.le_of_ble_eq_true rfl) (fun v4 => [(2, .int v4), (0, .ref (g.2.2.1 45)), (3, .int a3), (4, .int a4)]) (fun _ => rfl) (fun v4 => ?_)
        refine j_iload_n E dX3_nearTo_30 2 rfl ?_
        refine j_iload_n E dX3_nearTo_31 2 rfl ?_
        refine j_iconst E (v := 1) dX3_nearTo_32 (by decide) ?_
        refine j_isub E dX3_nearTo_33 ?_
        refine j_iand E dX3_nearTo_34 ?_
        refine j_istore_n E dX3_nearTo_35 (Nat.le_of_ble_eq_true rfl) (fun v5 => [(3, .int v5), (2, .int v4), (0, .ref (g.2.2.1 45)), (4, .int a4)]) (fun _ => rfl) (fun v5 => ?_)
        refine j_iinc E (c := 1) dX3_nearTo_36 3 rfl (by decide) (Nat.le_of_ble_eq_true rfl) (fun v6 => [(4, .int v6), (3, .int v5), (2, .int v4), (0, .ref (g.2.2.1 45))]) (fun _ => rfl) (fun v6 => ?_)
        refine j_goto E 7 dX3_nearTo_39 rfl ?_
        exact j_sub [3, 2, 1, 0] (lv1 := [(0, .ref (g.2.2.1 45)), (2, .int v4), (3, .int v5), (4, .int v6)]) rfl (ih v4 v5 v6 h2)
set_option maxRecDepth 20000 in
set_option maxHeartbeats 4000000 in
theorem jxX3_nearTo {g : GC} (hg : isGX g) {X : MX} (N : Nat) (E : JE g mX3_nearTo X) (a1 : Int32) (h : HP) : J g mX3_nearTo X 0 [(0, .ref (g.2.2.1 45)), (1, .int a1)] [] h (xX3_nearTo N a1 h) := by
  unfold xX3_nearTo
  refine j_iconst E (v := 0) dX3_nearTo_0 (by decide) ?_
  refine j_istore0_n E dX3_nearTo_1 (Nat.le_of_ble_eq_true rfl) [(2, .int 0), (0, .ref (g.2.2.1 45)), (1, .int a1)] rfl ?_
  refine j_iload_n E dX3_nearTo_2 2 rfl ?_
  refine j_istore0_n E dX3_nearTo_3 (Nat.le_of_ble_eq_true rfl) [(3, .int a1), (2, .int 0), (0, .ref (g.2.2.1 45)), (1, .int a1)] rfl ?_
  refine j_iconst E (v := 0) dX3_nearTo_4 (by decide) ?_
  refine j_istore0 E dX3_nearTo_5 (Nat.le_of_ble_eq_true rfl) [(4, .int 0), (3, .int a1), (2, .int 0), (0, .ref (g.2.2.1 45)), (1, .int a1)] rfl ?_
  exact j_sub [3, 2, 1, 0] (lv1 := [(0, .ref (g.2.2.1 45)), (2, .int 0), (3, .int a1), (4, .int 0)]) rfl (jxX3_nearTo_7 hg N E N 0 a1 0 h)
theorem ok_X3_nearTo {g : GC} (hg : isGX g) (hI : gI g) (N : Nat) (a1 : Int32) (h : HP) : Ok g yX3_nearTo mX3_nearTo [.ref (g.2.2.1 45), .int a1] h (xX3_nearTo N a1 h) := Ok.of hI (by decide) rfl (Nat.le_of_ble_eq_true rfl) (fun X E => jxX3_nearTo hg N E a1 h)
set_option maxRecDepth 20000 in
set_option maxHeartbeats 4000000 in
theorem jxX3_measureFrom_57 {g : GC} (hg : isGX g) {X : MX} (N : Nat) (E : JE g mX3_measureFrom X) (K32 : Int32 → Int32 → Int32 → Int32 → HP → Option (Int32 × HP)) (hK32 : ∀ (a2 : Int32) (a3 : Int32) (a4 : Int32) (a5 : Int32) (h : HP), J g mX3_measureFrom X 32 [(0, .ref (g.2.2.1 45)), (2, .int a2), (3, .int a3), (4, .int a4), (5, .int a5)] [] h (K32 a2 a3 a4 a5 h)) (a2 : Int32) (a3 : Int32) (a4 : Int32) (a5 : Int32) (h : HP) : J g mX3_measureFrom X 57 [(0, .ref (g.2.2.1 45)), (2, .int a2), (3, .int a3), (4, .int a4), (5, .int a5)] [] h (xX3_measureFrom_57 N K32 a2 a3 a4 a5 h) := by
  unfold xX3_measureFrom_57
  refine j_iinc E (c := 1) dX3_measureFrom_57 4 rfl (by decide) (Nat.le_of_ble_eq_true rfl) (fun v1 => [(5, .int v1), (0, .ref (g.2.2.1 45)), (2, .int a2), (3, .int a3), (4, .int a4)]) (fun _ => rfl) (fun v1 => ?_)
  refine j_goto E 32 dX3_measureFrom_60 rfl ?_
  exact j_sub [1, 2, 3, 4, 0] (lv1 := [(0, .ref (g.2.2.1 45)), (2, .int a2), (3, .int a3), (4, .int a4), (5, .int v1)]) rfl (hK32 a2 a3 a4 v1 h)
set_option maxRecDepth 20000 in
set_option maxHeartbeats 4000000 in
theorem jxX3_measureFrom_32 {g : GC} (hg : isGX g) {X : MX} (N : Nat) (E : JE g mX3_measureFrom X) (K18 : Int32 → Int32 → Int32 → HP → Option (Int32 × HP)) (hK18 : ∀ (a2 : Int32) (a3 : Int32) (a4 : Int32) (h : HP), J g mX3_measureFrom X 18 [(0, .ref (g.2.2.1 45)), (2, .int a2), (3, .int a3), (4, .int a4)] [] h (K18 a2 a3 a4 h)) : ∀ (n : Nat) (a2 : Int32) (a3 : Int32) (a4 : Int32) (a5 : Int32) (h : HP), J g mX3_measureFrom X 32 [(0, .ref (g.2.2.1 45)), (2, .int a2), (3, .int a3), (4, .int a4), (5, .int a5)] [] h (xX3_measureFrom_32 N K18 n a2 a3 a4 a5 h) := by
  intro n
  induction n with
  | zero => intro a2 a3 a4 a5 h; exact j_none
  | succ n ih =>
    intro a2 a3 a4 a5 h
    unfold xX3_measureFrom_32
    refine j_iload E dX3_measureFrom_32 4 rfl ?_
    refine j_bipush E (v := 16) dX3_measureFrom_34 (by decide) ?_
    refine j_cmp_ge E 63 dX3_measureFrom_36 rfl ?_ ?_
    · refine j_aload_n E dX3_measureFrom_63 0 rfl ?_
      refine j_iload_n E dX3_measureFrom_64 2 rfl ?_
      refine j_callvI (As := [.int a3]) (st := []) E (ok_X3_nearTo hg E.2.2.2.2.2.2.2.1 N a3 h) (cX_45 hg) (cl_X3_54) (⟨Nat.le_of_ble_eq_true rfl, Nat.le_of_ble_eq_true rfl⟩) rfl rfl (Nat.le_of_ble_eq_true rfl) dX3_measureFrom_65 (fun t1 h2 => ?_)
      refine j_iload_n E dX3_measureFrom_68 1 rfl ?_
      refine j_iconst E (v := (-1)) dX3_measureFrom_69 (by decide) ?_
      refine j_ixor E dX3_measureFrom_70 ?_
      refine j_iand E dX3_measureFrom_71 ?_
      refine j_istore_n E dX3_measureFrom_72 (Nat.le_of_ble_eq_true rfl) (fun v3 => [(3, .int v3), (0, .ref (g.2.2.1 45)), (2, .int a2), (4, .int a4), (5, .int a5)]) (fun _ => rfl) (fun v3 => ?_)
      refine j_iload_n E dX3_measureFrom_73 2 rfl ?_
      refine j_iload_n E dX3_measureFrom_74 0 rfl ?_
      refine j_ior E dX3_measureFrom_75 ?_
      refine j_istore_n E dX3_measureFrom_76 (Nat.le_of_ble_eq_true rfl) (fun v4 => [(2, .int v4), (3, .int v3), (0, .ref (g.2.2.1 45)), (4, .int a4), (5, .int a5)]) (fun _ => rfl) (fun v4 => ?_)
      refine j_iinc E (c := 1) dX3_measureFrom_77 3 rfl (by decide) (Nat.le_of_ble_eq_true rfl) (fun v5 => [(4, .int v5), (2, .int v4), (3, .int v3), (0, .ref (g.2.2.1 45)), (5, .int a5)]) (fun _ => rfl) (fun v5 => ?_)
      refine j_goto E 18 dX3_measureFrom_80 rfl ?_
      exact j_sub [3, 1, 2, 0] (lv1 := [(0, .ref (g.2.2.1 45)), (2, .int v4), (3, .int v3), (4, .int v5)]) rfl (hK18 v4 v3 v5 h2)
    · refine j_iload_n E dX3_measureFrom_39 2 rfl ?_
      refine j_iload E dX3_measureFrom_40 4 rfl ?_
      refine j_callnI (As := [.int a3, .int a5]) (st := []) E (ok_X10_hasBit hg E.2.2.2.2.2.2.2.1 a3 a5 h) (cl_X3_40) (⟨Nat.le_of_ble_eq_true rfl, Nat.le_of_ble_eq_true rfl⟩) rfl rfl (Nat.le_of_ble_eq_true rfl) dX3_measureFrom_42 (fun t6 h7 => ?_)
      refine j_if_eq E 57 dX3_measureFrom_45 rfl ?_ ?_
      · exact jxX3_measureFrom_57 hg N E (xX3_measureFrom_32 N K18 n) ih a2 a3 a4 a5 h7
      · refine j_aload_n E dX3_measureFrom_48 0 rfl ?_
        refine j_getr E f_X3_15 (cX_45 hg) 47 rfl dX3_measureFrom_49 ?_
        refine j_iload E dX3_measureFrom_52 4 rfl ?_
        refine j_iload E dX3_measureFrom_54 3 rfl ?_
        refine j_iast E (cX_47 hg) dX3_measureFrom_56 (fun h8 => ?_)
        exact jxX3_measureFrom_57 hg N E (xX3_measureFrom_32 N K18 n) ih a2 a3 a4 a5 h8
set_option maxRecDepth 20000 in
set_option maxHeartbeats 4000000 in
theorem jxX3_measureFrom_83 {g : GC} (hg : isGX g) {X : MX} (N : Nat) (E : JE g mX3_measureFrom X) (a2 : Int32) (h : HP) : J g mX3_measureFrom X 83 [(2, .int a2)] [] h (xX3_measureFrom_83 N a2 h) := by
  unfold xX3_measureFrom_83
  refine j_iload_n E dX3_measureFrom_83 0 rfl ?_
  exact j_ireturn E rfl dX3_measureFrom_84
set_option maxRecDepth 20000 in
set_option maxHeartbeats 4000000 in
theorem jxX3_measureFrom_18 {g : GC} (hg : isGX g) {X : MX} (N : Nat) (E : JE g mX3_measureFrom X) : ∀ (n : Nat) (a2 : Int32) (a3 : Int32) (a4 : Int32) (h : HP), J g mX3_measureFrom X 18 [(0, .ref (g.2.2.1 45)), (2, .int a2), (3, .int a3), (4, .int a4)] [] h (xX3_measureFrom_18 N n a2 a3 a4 h) := by
  intro n
  induction n with
  | zero => intro a2 a3 a4 h; exact j_none
  | succ n ih =>
    intro a2 a3 a4 h
    unfold xX3_measureFrom_18
    refine j_iload E dX3_measureFrom_18 3 rfl ?_
    refine j_bipush E (v := 16) dX3_measureFrom_20 (by decide) ?_
    refine j_cmp_ge E 83 dX3_measureFrom_22 rfl ?_ ?_
    · exact j_sub [1] (lv1 := [(2, .int a2)]) rfl (jxX3_measureFrom_83 hg N E a2 h)
    · refine j_iload_n E dX3_measureFrom_25 2 rfl ?_
      refine j_if_eq E 83 dX3_measureFrom_26 rfl ?_ ?_
      · exact j_sub [1] (lv1 := [(2, .int a2)]) rfl (jxX3_measureFrom_83 hg N E a2 h)
      · refine j_iconst E (v := 0) dX3_measureFrom_29 (by decide) ?_
        refine j_istore0 E dX3_measureFrom_30 (Nat.le_of_ble_eq_true rfl) [(5, .int 0), (0, .ref (g.2.2.1 45)), (2, .int a2), (3, .int a3), (4, .int a4)] rfl ?_
        exact j_sub [1, 2, 3, 4, 0] (lv1 := [(0, .ref (g.2.2.1 45)), (2, .int a2), (3, .int a3), (4, .int a4), (5, .int 0)]) rfl (jxX3_measureFrom_32 hg N E (xX3_measureFrom_18 N n) ih N a2 a3 a4 0 h)
set_option maxRecDepth 20000 in
set_option maxHeartbeats 4000000 in
theorem jxX3_measureFrom {g : GC} (hg : isGX g) {X : MX} (N : Nat) (E : JE g mX3_measureFrom X) (a1 : Int32) (h : HP) : J g mX3_measureFrom X 0 [(0, .ref (g.2.2.1 45)), (1, .int a1)] [] h (xX3_measureFrom N a1 h) := by
  unfold xX3_measureFrom
  refine j_aload_n E dX3_measureFrom_0 0 rfl ?_
  refine j_getr E f_X3_15 (cX_45 hg) 47 rfl dX3_measureFrom_1 ?_
  refine j_bipush E (v := (-2)) dX3_measureFrom_4 (by decide) ?_
  refine j_callsV (As := [.ref (g.2.2.1 47), .int (-2)]) (st := []) E (ok_J7_fill_53178 hg E.2.2.2.2.2.2.2.1 N 16 47 (cX_47 hg) (-2) h) (cl_X3_29) (⟨Nat.le_of_ble_eq_true rfl, Nat.le_of_ble_eq_true rfl⟩) rfl rfl (Nat.le_of_ble_eq_true rfl) dX3_measureFrom_6 (fun t1 h2 => ?_)
  refine j_iconst E (v := 1) dX3_measureFrom_9 (by decide) ?_
  refine j_iload_n E dX3_measureFrom_10 1 rfl ?_
  refine j_ishl E dX3_measureFrom_11 ?_
  refine j_istore_n E dX3_measureFrom_12 (Nat.le_of_ble_eq_true rfl) (fun v3 => [(2, .int v3), (0, .ref (g.2.2.1 45)), (1, .int a1)]) (fun _ => rfl) (fun v3 => ?_)
  refine j_iload_n E dX3_measureFrom_13 0 rfl ?_
  refine j_istore0_n E dX3_measureFrom_14 (Nat.le_of_ble_eq_true rfl) [(3, .int v3), (2, .int v3), (0, .ref (g.2.2.1 45)), (1, .int a1)] rfl ?_
  refine j_iconst E (v := 0) dX3_measureFrom_15 (by decide) ?_
  refine j_istore0 E dX3_measureFrom_16 (Nat.le_of_ble_eq_true rfl) [(4, .int 0), (3, .int v3), (2, .int v3), (0, .ref (g.2.2.1 45)), (1, .int a1)] rfl ?_
  exact j_sub [3, 2, 1, 0] (lv1 := [(0, .ref (g.2.2.1 45)), (2, .int v3), (3, .int v3), (4, .int 0)]) rfl (jxX3_measureFrom_18 hg N E N v3 v3 0 h2)
theorem ok_X3_measureFrom {g : GC} (hg : isGX g) (hI : gI g) (N : Nat) (a1 : Int32) (h : HP) : Ok g yX3_measureFrom mX3_measureFrom [.ref (g.2.2.1 45), .int a1] h (xX3_measureFrom N a1 h) := Ok.of hI (by decide) rfl (Nat.le_of_ble_eq_true rfl) (fun X E => jxX3_measureFrom hg N E a1 h)
set_option maxRecDepth 20000 in
set_option maxHeartbeats 4000000 in
theorem jxX3_stepsBetween {g : GC} (hg : isGX g) {X : MX} (N : Nat) (E : JE g mX3_stepsBetween X) (a1 : Int32) (a2 : Int32) (h : HP) : J g mX3_stepsBetween X 0 [(0, .ref (g.2.2.1 45)), (1, .int a1), (2, .int a2)] [] h (xX3_stepsBetween N a1 a2 h) := by
  unfold xX3_stepsBetween
  refine j_aload_n E dX3_stepsBetween_0 0 rfl ?_
  refine j_iload_n E dX3_stepsBetween_1 1 rfl ?_
  refine j_callvI (As := [.int a1]) (st := []) E (ok_X3_measureFrom hg E.2.2.2.2.2.2.2.1 N a1 h) (cX_45 hg) (cl_X3_57) (⟨Nat.le_of_ble_eq_true rfl, Nat.le_of_ble_eq_true rfl⟩) rfl rfl (Nat.le_of_ble_eq_true rfl) dX3_stepsBetween_2 (fun t1 h2 => ?_)
  refine j_pop E dX3_stepsBetween_5 rfl ?_
  refine j_aload_n E dX3_stepsBetween_6 0 rfl ?_
  refine j_getr E f_X3_15 (cX_45 hg) 47 rfl dX3_stepsBetween_7 ?_
  refine j_iload_n E dX3_stepsBetween_10 2 rfl ?_
  refine j_iald E (cX_47 hg) dX3_stepsBetween_11 (fun t3 => ?_)
  exact j_ireturn E rfl dX3_stepsBetween_12
theorem ok_X3_stepsBetween {g : GC} (hg : isGX g) (hI : gI g) (N : Nat) (a1 : Int32) (a2 : Int32) (h : HP) : Ok g yX3_stepsBetween mX3_stepsBetween [.ref (g.2.2.1 45), .int a1, .int a2] h (xX3_stepsBetween N a1 a2 h) := Ok.of hI (by decide) rfl (Nat.le_of_ble_eq_true rfl) (fun X E => jxX3_stepsBetween hg N E a1 a2 h)
set_option maxRecDepth 20000 in
set_option maxHeartbeats 4000000 in
theorem jxX3_widestWay_150 {g : GC} (hg : isGX g) {X : MX} (N : Nat) (E : JE g mX3_widestWay X) (K28 : Int32 → Int32 → Int32 → HP → Option (Int32 × HP)) (hK28 : ∀ (a2 : Int32) (a3 : Int32) (a4 : Int32) (h : HP), J g mX3_widestWay X 28 [(0, .ref (g.2.2.1 45)), (2, .int a2), (3, .int a3), (4, .int a4)] [] h (K28 a2 a3 a4 h)) (a2 : Int32) (a3 : Int32) (a4 : Int32) (h : HP) : J g mX3_widestWay X 150 [(0, .ref (g.2.2.1 45)), (2, .int a2), (3, .int a3), (4, .int a4)] [] h (xX3_widestWay_150 N K28 a2 a3 a4 h) := by
  unfold xX3_widestWay_150
  refine j_iinc E (c := 1) dX3_widestWay_150 3 rfl (by decide) (Nat.le_of_ble_eq_true rfl) (fun v1 => [(4, .int v1), (0, .ref (g.2.2.1 45)), (2, .int a2), (3, .int a3)]) (fun _ => rfl) (fun v1 => ?_)
  refine j_goto E 28 dX3_widestWay_153 rfl ?_
  exact j_sub [1, 2, 3, 0] (lv1 := [(0, .ref (g.2.2.1 45)), (2, .int a2), (3, .int a3), (4, .int v1)]) rfl (hK28 a2 a3 v1 h)
set_option maxRecDepth 20000 in
set_option maxHeartbeats 4000000 in
theorem jxX3_widestWay_28 {g : GC} (hg : isGX g) {X : MX} (N : Nat) (E : JE g mX3_widestWay X) (K19 : Int32 → Int32 → HP → Option (Int32 × HP)) (hK19 : ∀ (a2 : Int32) (a3 : Int32) (h : HP), J g mX3_widestWay X 19 [(0, .ref (g.2.2.1 45)), (2, .int a2), (3, .int a3)] [] h (K19 a2 a3 h)) : ∀ (n : Nat) (a2 : Int32) (a3 : Int32) (a4 : Int32) (h : HP), J g mX3_widestWay X 28 [(0, .ref (g.2.2.1 45)), (2, .int a2), (3, .int a3), (4, .int a4)] [] h (xX3_widestWay_28 N K19 n a2 a3 a4 h) := by
  intro n
  induction n with
  | zero => intro a2 a3 a4 h; exact j_none
  | succ n ih =>
    intro a2 a3 a4 h
    unfold xX3_widestWay_28
    refine j_iload E dX3_widestWay_28 3 rfl ?_
    refine j_aload_n E dX3_widestWay_30 0 rfl ?_
    refine j_getr E f_X3_21 (cX_45 hg) 3 rfl dX3_widestWay_31 ?_
    refine j_geti E f_X3_35 (cX_3 hg) rfl dX3_widestWay_34 ?_
    refine j_cmp_ge E 156 dX3_widestWay_37 rfl ?_ ?_
    · refine j_iinc E (c := 1) dX3_widestWay_156 2 rfl (by decide) (Nat.le_of_ble_eq_true rfl) (fun v1 => [(3, .int v1), (0, .ref (g.2.2.1 45)), (2, .int a2), (4, .int a4)]) (fun _ => rfl) (fun v1 => ?_)
      refine j_goto E 19 dX3_widestWay_159 rfl ?_
      exact j_sub [1, 2, 0] (lv1 := [(0, .ref (g.2.2.1 45)), (2, .int a2), (3, .int v1)]) rfl (hK19 a2 v1 h)
    · refine j_aload_n E dX3_widestWay_40 0 rfl ?_
      refine j_geti E f_X3_25 (cX_45 hg) rfl dX3_widestWay_41 ?_
      refine j_iload E dX3_widestWay_44 3 rfl ?_
      refine j_callnI (As := [.int (h.1 45 4), .int a4]) (st := []) E (ok_X10_hasBit hg E.2.2.2.2.2.2.2.1 (h.1 45 4) a4 h) (cl_X3_40) (⟨Nat.le_of_ble_eq_true rfl, Nat.le_of_ble_eq_true rfl⟩) rfl rfl (Nat.le_of_ble_eq_true rfl) dX3_widestWay_46 (fun t2 h3 => ?_)
      refine j_if_eq E 150 dX3_widestWay_49 rfl ?_ ?_
      · exact jxX3_widestWay_150 hg N E (xX3_widestWay_28 N K19 n) ih a2 a3 a4 h3
      · refine j_aload_n E dX3_widestWay_52 0 rfl ?_
        refine j_getr E f_X3_21 (cX_45 hg) 3 rfl dX3_widestWay_53 ?_
        refine j_getr E f_X3_44 (cX_3 hg) 5 rfl dX3_widestWay_56 ?_
        refine j_iload E dX3_widestWay_59 3 rfl ?_
        refine j_iald E (cX_5 hg) dX3_widestWay_61 (fun t4 => ?_)
        refine j_istore0 E dX3_widestWay_62 (Nat.le_of_ble_eq_true rfl) [(5, .int t4), (0, .ref (g.2.2.1 45)), (2, .int a2), (3, .int a3), (4, .int a4)] rfl ?_
        refine j_aload_n E dX3_widestWay_64 1 rfl ?_
        refine j_getr E f_X3_21 (cX_45 hg) 3 rfl dX3_widestWay_65 ?_
        refine j_getr E f_X3_47 (cX_3 hg) 6 rfl dX3_widestWay_68 ?_
        refine j_iload E dX3_widestWay_71 4 rfl ?_
        refine j_iald E (cX_6 hg) dX3_widestWay_73 (fun t5 => ?_)
        refine j_istore0 E dX3_widestWay_74 (Nat.le_of_ble_eq_true rfl) [(6, .int t5), (5, .int t4), (0, .ref (g.2.2.1 45)), (2, .int a2), (3, .int a3), (4, .int a4)] rfl ?_
        refine j_aload_n E dX3_widestWay_76 2 rfl ?_
        refine j_getr E f_X3_18 (cX_45 hg) 48 rfl dX3_widestWay_77 ?_
        refine j_iload E dX3_widestWay_80 0 rfl ?_
        refine j_aload_n E dX3_widestWay_82 2 rfl ?_
        refine j_getr E f_X3_18 (cX_45 hg) 48 rfl dX3_widestWay_83 ?_
        refine j_iload E dX3_widestWay_86 0 rfl ?_
        refine j_iald E (cX_48 hg) dX3_widestWay_88 (fun t6 => ?_)
        refine j_aload_n E dX3_widestWay_89 2 rfl ?_
        refine j_getr E f_X3_18 (cX_45 hg) 48 rfl dX3_widestWay_90 ?_
        refine j_iload E dX3_widestWay_93 1 rfl ?_
        refine j_iald E (cX_48 hg) dX3_widestWay_95 (fun t7 => ?_)
        refine j_aload_n E dX3_widestWay_96 2 rfl ?_
        refine j_getr E f_X3_21 (cX_45 hg) 3 rfl dX3_widestWay_97 ?_
        refine j_getr E f_X3_60 (cX_3 hg) 7 rfl dX3_widestWay_100 ?_
        refine j_iload E dX3_widestWay_103 5 rfl ?_
        refine j_iald E (cX_7 hg) dX3_widestWay_105 (fun t8 => ?_)
        refine j_min2 E ml_X3_63 (Nat.le_of_ble_eq_true rfl) (Nat.le_of_ble_eq_true rfl) dX3_widestWay_106 ?_
        refine j_max2 E ml_X3_69 (Nat.le_of_ble_eq_true rfl) (Nat.le_of_ble_eq_true rfl) dX3_widestWay_109 ?_
        refine j_iast E (cX_48 hg) dX3_widestWay_112 (fun h9 => ?_)
        refine j_aload_n E dX3_widestWay_113 2 rfl ?_
        refine j_getr E f_X3_18 (cX_45 hg) 48 rfl dX3_widestWay_114 ?_
        refine j_iload E dX3_widestWay_117 1 rfl ?_
        refine j_aload_n E dX3_widestWay_119 2 rfl ?_
        refine j_getr E f_X3_18 (cX_45 hg) 48 rfl dX3_widestWay_120 ?_
        refine j_iload E dX3_widestWay_123 1 rfl ?_
        refine j_iald E (cX_48 hg) dX3_widestWay_125 (fun t10 => ?_)
        refine j_aload_n E dX3_widestWay_126 2 rfl ?_
        refine j_getr E f_X3_18 (cX_45 hg) 48 rfl dX3_widestWay_127 ?_
        refine j_iload E dX3_widestWay_130 0 rfl ?_
        refine j_iald E (cX_48 hg) dX3_widestWay_132 (fun t11 => ?_)
        refine j_aload_n E dX3_widestWay_133 2 rfl ?_
        refine j_getr E f_X3_21 (cX_45 hg) 3 rfl dX3_widestWay_134 ?_
        refine j_getr E f_X3_60 (cX_3 hg) 7 rfl dX3_widestWay_137 ?_
        refine j_iload E dX3_widestWay_140 5 rfl ?_
        refine j_iald E (cX_7 hg) dX3_widestWay_142 (fun t12 => ?_)
        refine j_min2 E ml_X3_63 (Nat.le_of_ble_eq_true rfl) (Nat.le_of_ble_eq_true rfl) dX3_widestWay_143 ?_
        refine j_max2 E ml_X3_69 (Nat.le_of_ble_eq_true rfl) (Nat.le_of_ble_eq_true rfl) dX3_widestWay_146 ?_
        refine j_iast E (cX_48 hg) dX3_widestWay_149 (fun h13 => ?_)
        exact j_sub [2, 3, 4, 5] (lv1 := [(0, .ref (g.2.2.1 45)), (2, .int a2), (3, .int a3), (4, .int a4)]) rfl (jxX3_widestWay_150 hg N E (xX3_widestWay_28 N K19 n) ih a2 a3 a4 h13)
set_option maxRecDepth 20000 in
set_option maxHeartbeats 4000000 in
theorem jxX3_widestWay_19 {g : GC} (hg : isGX g) {X : MX} (N : Nat) (E : JE g mX3_widestWay X) : ∀ (n : Nat) (a2 : Int32) (a3 : Int32) (h : HP), J g mX3_widestWay X 19 [(0, .ref (g.2.2.1 45)), (2, .int a2), (3, .int a3)] [] h (xX3_widestWay_19 N n a2 a3 h) := by
  intro n
  induction n with
  | zero => intro a2 a3 h; exact j_none
  | succ n ih =>
    intro a2 a3 h
    unfold xX3_widestWay_19
    refine j_iload_n E dX3_widestWay_19 2 rfl ?_
    refine j_bipush E (v := 16) dX3_widestWay_20 (by decide) ?_
    refine j_cmp_ge E 162 dX3_widestWay_22 rfl ?_ ?_
    · refine j_aload_n E dX3_widestWay_162 0 rfl ?_
      refine j_getr E f_X3_18 (cX_45 hg) 48 rfl dX3_widestWay_163 ?_
      refine j_iload_n E dX3_widestWay_166 1 rfl ?_
      refine j_iald E (cX_48 hg) dX3_widestWay_167 (fun t1 => ?_)
      exact j_ireturn E rfl dX3_widestWay_168
    · refine j_iconst E (v := 0) dX3_widestWay_25 (by decide) ?_
      refine j_istore0 E dX3_widestWay_26 (Nat.le_of_ble_eq_true rfl) [(4, .int 0), (0, .ref (g.2.2.1 45)), (2, .int a2), (3, .int a3)] rfl ?_
      exact j_sub [1, 2, 3, 0] (lv1 := [(0, .ref (g.2.2.1 45)), (2, .int a2), (3, .int a3), (4, .int 0)]) rfl (jxX3_widestWay_28 hg N E (xX3_widestWay_19 N n) ih N a2 a3 0 h)
set_option maxRecDepth 20000 in
set_option maxHeartbeats 4000000 in
theorem jxX3_widestWay {g : GC} (hg : isGX g) {X : MX} (N : Nat) (E : JE g mX3_widestWay X) (a1 : Int32) (a2 : Int32) (h : HP) : J g mX3_widestWay X 0 [(0, .ref (g.2.2.1 45)), (1, .int a1), (2, .int a2)] [] h (xX3_widestWay N a1 a2 h) := by
  unfold xX3_widestWay
  refine j_aload_n E dX3_widestWay_0 0 rfl ?_
  refine j_getr E f_X3_18 (cX_45 hg) 48 rfl dX3_widestWay_1 ?_
  refine j_bipush E (v := (-2)) dX3_widestWay_4 (by decide) ?_
  refine j_callsV (As := [.ref (g.2.2.1 48), .int (-2)]) (st := []) E (ok_J7_fill_53178 hg E.2.2.2.2.2.2.2.1 N 16 48 (cX_48 hg) (-2) h) (cl_X3_29) (⟨Nat.le_of_ble_eq_true rfl, Nat.le_of_ble_eq_true rfl⟩) rfl rfl (Nat.le_of_ble_eq_true rfl) dX3_widestWay_6 (fun t1 h2 => ?_)
  refine j_aload_n E dX3_widestWay_9 0 rfl ?_
  refine j_getr E f_X3_18 (cX_45 hg) 48 rfl dX3_widestWay_10 ?_
  refine j_iload_n E dX3_widestWay_13 1 rfl ?_
  refine j_bipush E (v := 99) dX3_widestWay_14 (by decide) ?_
  refine j_iast E (cX_48 hg) dX3_widestWay_16 (fun h3 => ?_)
  refine j_iconst E (v := 1) dX3_widestWay_17 (by decide) ?_
  refine j_istore0_n E dX3_widestWay_18 (Nat.le_of_ble_eq_true rfl) [(3, .int 1), (0, .ref (g.2.2.1 45)), (1, .int a1), (2, .int a2)] rfl ?_
  exact j_sub [1, 3, 0] (lv1 := [(0, .ref (g.2.2.1 45)), (2, .int a2), (3, .int 1)]) rfl (jxX3_widestWay_19 hg N E N a2 1 h3)
theorem ok_X3_widestWay {g : GC} (hg : isGX g) (hI : gI g) (N : Nat) (a1 : Int32) (a2 : Int32) (h : HP) : Ok g yX3_widestWay mX3_widestWay [.ref (g.2.2.1 45), .int a1, .int a2] h (xX3_widestWay N a1 a2 h) := Ok.of hI (by decide) rfl (Nat.le_of_ble_eq_true rfl) (fun X E => jxX3_widestWay hg N E a1 a2 h)
set_option maxRecDepth 20000 in
set_option maxHeartbeats 4000000 in
theorem jxX3_groups_51 {g : GC} (hg : isGX g) {X : MX} (N : Nat) (E : JE g mX3_groups X) (a2 : Int32) (h : HP) : J g mX3_groups X 51 [(2, .int a2)] [] h (xX3_groups_51 N a2 h) := by
  unfold xX3_groups_51
  refine j_iload_n E dX3_groups_51 0 rfl ?_
  exact j_ireturn E rfl dX3_groups_52
set_option maxRecDepth 20000 in
set_option maxHeartbeats 4000000 in
theorem jxX3_groups_18 {g : GC} (hg : isGX g) {X : MX} (N : Nat) (E : JE g mX3_groups X) : ∀ (n : Nat) (a2 : Int32) (a3 : Int32) (a4 : Int32) (h : HP), J g mX3_groups X 18 [(0, .ref (g.2.2.1 45)), (2, .int a2), (3, .int a3), (4, .int a4)] [] h (xX3_groups_18 N n a2 a3 a4 h) := by
  intro n
  induction n with
  | zero => intro a2 a3 a4 h; exact j_none
  | succ n ih =>
    intro a2 a3 a4 h
    unfold xX3_groups_18
    refine j_iload E dX3_groups_18 3 rfl ?_
    refine j_bipush E (v := 16) dX3_groups_20 (by decide) ?_
    refine j_cmp_ge E 51 dX3_groups_22 rfl ?_ ?_
    · exact j_sub [1] (lv1 := [(2, .int a2)]) rfl (jxX3_groups_51 hg N E a2 h)
    · refine j_iload_n E dX3_groups_25 2 rfl ?_
      refine j_if_eq E 51 dX3_groups_26 rfl ?_ ?_
      · exact j_sub [1] (lv1 := [(2, .int a2)]) rfl (jxX3_groups_51 hg N E a2 h)
      · refine j_iload_n E dX3_groups_29 2 rfl ?_
        refine j_aload_n E dX3_groups_30 0 rfl ?_
        refine j_iload_n E dX3_groups_31 2 rfl ?_
        refine j_callnI (As := [.int a3]) (st := [.ref (g.2.2.1 45), .int a3]) E (ok_X10_lowest hg E.2.2.2.2.2.2.2.1 a3 h) (cl_X3_50) (⟨Nat.le_of_ble_eq_true rfl, Nat.le_of_ble_eq_true rfl⟩) rfl rfl (Nat.le_of_ble_eq_true rfl) dX3_groups_32 (fun t1 h2 => ?_)
        refine j_callvI (As := [.int t1]) (st := [.int a3]) E (ok_X3_measureFrom hg E.2.2.2.2.2.2.2.1 N t1 h2) (cX_45 hg) (cl_X3_57) (⟨Nat.le_of_ble_eq_true rfl, Nat.le_of_ble_eq_true rfl⟩) rfl rfl (Nat.le_of_ble_eq_true rfl) dX3_groups_35 (fun t3 h4 => ?_)
        refine j_iconst E (v := (-1)) dX3_groups_38 (by decide) ?_
        refine j_ixor E dX3_groups_39 ?_
        refine j_iand E dX3_groups_40 ?_
        refine j_istore_n E dX3_groups_41 (Nat.le_of_ble_eq_true rfl) (fun v5 => [(3, .int v5), (0, .ref (g.2.2.1 45)), (2, .int a2), (4, .int a4)]) (fun _ => rfl) (fun v5 => ?_)
        refine j_iinc E (c := 1) dX3_groups_42 2 rfl (by decide) (Nat.le_of_ble_eq_true rfl) (fun v6 => [(2, .int v6), (3, .int v5), (0, .ref (g.2.2.1 45)), (4, .int a4)]) (fun _ => rfl) (fun v6 => ?_)
        refine j_iinc E (c := 1) dX3_groups_45 3 rfl (by decide) (Nat.le_of_ble_eq_true rfl) (fun v7 => [(4, .int v7), (2, .int v6), (3, .int v5), (0, .ref (g.2.2.1 45))]) (fun _ => rfl) (fun v7 => ?_)
        refine j_goto E 18 dX3_groups_48 rfl ?_
        exact j_sub [3, 1, 2, 0] (lv1 := [(0, .ref (g.2.2.1 45)), (2, .int v6), (3, .int v5), (4, .int v7)]) rfl (ih v6 v5 v7 h4)
set_option maxRecDepth 20000 in
set_option maxHeartbeats 4000000 in
theorem jxX3_groups {g : GC} (hg : isGX g) {X : MX} (N : Nat) (E : JE g mX3_groups X) (a1 : Int32) (h : HP) : J g mX3_groups X 0 [(0, .ref (g.2.2.1 45)), (1, .int a1)] [] h (xX3_groups N a1 h) := by
  unfold xX3_groups
  refine j_aload_n E dX3_groups_0 0 rfl ?_
  refine j_iload_n E dX3_groups_1 1 rfl ?_
  refine j_callvV (As := [.int a1]) (st := []) E (ok_X3_look hg E.2.2.2.2.2.2.2.1 N a1 h) (cX_45 hg) (cl_X3_72) (⟨Nat.le_of_ble_eq_true rfl, Nat.le_of_ble_eq_true rfl⟩) rfl rfl (Nat.le_of_ble_eq_true rfl) dX3_groups_2 (fun t1 h2 => ?_)
  refine j_iconst E (v := 0) dX3_groups_5 (by decide) ?_
  refine j_istore0_n E dX3_groups_6 (Nat.le_of_ble_eq_true rfl) [(2, .int 0), (0, .ref (g.2.2.1 45)), (1, .int a1)] rfl ?_
  refine j_aload_n E dX3_groups_7 1 rfl ?_
  refine j_getr E f_X3_21 (cX_45 hg) 3 rfl dX3_groups_8 ?_
  refine j_geti E f_X3_76 (cX_3 hg) rfl dX3_groups_11 ?_
  refine j_istore_n E dX3_groups_14 (Nat.le_of_ble_eq_true rfl) (fun v3 => [(3, .int v3), (2, .int 0), (0, .ref (g.2.2.1 45)), (1, .int a1)]) (fun _ => rfl) (fun v3 => ?_)
  refine j_iconst E (v := 0) dX3_groups_15 (by decide) ?_
  refine j_istore0 E dX3_groups_16 (Nat.le_of_ble_eq_true rfl) [(4, .int 0), (3, .int v3), (2, .int 0), (0, .ref (g.2.2.1 45)), (1, .int a1)] rfl ?_
  exact j_sub [3, 2, 1, 0] (lv1 := [(0, .ref (g.2.2.1 45)), (2, .int 0), (3, .int v3), (4, .int 0)]) rfl (jxX3_groups_18 hg N E N 0 v3 0 h2)
theorem ok_X3_groups {g : GC} (hg : isGX g) (hI : gI g) (N : Nat) (a1 : Int32) (h : HP) : Ok g yX3_groups mX3_groups [.ref (g.2.2.1 45), .int a1] h (xX3_groups N a1 h) := Ok.of hI (by decide) rfl (Nat.le_of_ble_eq_true rfl) (fun X E => jxX3_groups hg N E a1 h)
set_option maxRecDepth 20000 in
set_option maxHeartbeats 4000000 in
theorem jxX3_bridgeBits_67 {g : GC} (hg : isGX g) {X : MX} (N : Nat) (E : JE g mX3_bridgeBits X) (K4 : Int32 → Int32 → Int32 → HP → Option (Int32 × HP)) (hK4 : ∀ (a1 : Int32) (a2 : Int32) (a3 : Int32) (h : HP), J g mX3_bridgeBits X 4 [(0, .ref (g.2.2.1 45)), (1, .int a1), (2, .int a2), (3, .int a3)] [] h (K4 a1 a2 a3 h)) (a1 : Int32) (a2 : Int32) (a3 : Int32) (h : HP) : J g mX3_bridgeBits X 67 [(0, .ref (g.2.2.1 45)), (1, .int a1), (2, .int a2), (3, .int a3)] [] h (xX3_bridgeBits_67 N K4 a1 a2 a3 h) := by
  unfold xX3_bridgeBits_67
  refine j_iinc E (c := 1) dX3_bridgeBits_67 3 rfl (by decide) (Nat.le_of_ble_eq_true rfl) (fun v1 => [(3, .int v1), (0, .ref (g.2.2.1 45)), (1, .int a1), (2, .int a2)]) (fun _ => rfl) (fun v1 => ?_)
  refine j_goto E 4 dX3_bridgeBits_70 rfl ?_
  exact j_sub [1, 2, 3, 0] (lv1 := [(0, .ref (g.2.2.1 45)), (1, .int a1), (2, .int a2), (3, .int v1)]) rfl (hK4 a1 a2 v1 h)
set_option maxRecDepth 20000 in
set_option maxHeartbeats 4000000 in
theorem jxX3_bridgeBits_4 {g : GC} (hg : isGX g) {X : MX} (N : Nat) (E : JE g mX3_bridgeBits X) : ∀ (n : Nat) (a1 : Int32) (a2 : Int32) (a3 : Int32) (h : HP), J g mX3_bridgeBits X 4 [(0, .ref (g.2.2.1 45)), (1, .int a1), (2, .int a2), (3, .int a3)] [] h (xX3_bridgeBits_4 N n a1 a2 a3 h) := by
  intro n
  induction n with
  | zero => intro a1 a2 a3 h; exact j_none
  | succ n ih =>
    intro a1 a2 a3 h
    unfold xX3_bridgeBits_4
    refine j_iload_n E dX3_bridgeBits_4 3 rfl ?_
    refine j_aload_n E dX3_bridgeBits_5 0 rfl ?_
    refine j_getr E f_X3_21 (cX_45 hg) 3 rfl dX3_bridgeBits_6 ?_
    refine j_geti E f_X3_35 (cX_3 hg) rfl dX3_bridgeBits_9 ?_
    refine j_cmp_ge E 73 dX3_bridgeBits_12 rfl ?_ ?_
    · refine j_iload_n E dX3_bridgeBits_73 2 rfl ?_
      exact j_ireturn E rfl dX3_bridgeBits_74
    · refine j_iload_n E dX3_bridgeBits_15 1 rfl ?_
      refine j_iload_n E dX3_bridgeBits_16 3 rfl ?_
      refine j_callnI (As := [.int a1, .int a3]) (st := []) E (ok_X10_hasBit hg E.2.2.2.2.2.2.2.1 a1 a3 h) (cl_X3_40) (⟨Nat.le_of_ble_eq_true rfl, Nat.le_of_ble_eq_true rfl⟩) rfl rfl (Nat.le_of_ble_eq_true rfl) dX3_bridgeBits_17 (fun t1 h2 => ?_)
      refine j_if_eq E 67 dX3_bridgeBits_20 rfl ?_ ?_
      · exact jxX3_bridgeBits_67 hg N E (xX3_bridgeBits_4 N n) ih a1 a2 a3 h2
      · refine j_aload_n E dX3_bridgeBits_23 0 rfl ?_
        refine j_iload_n E dX3_bridgeBits_24 1 rfl ?_
        refine j_iconst E (v := 1) dX3_bridgeBits_25 (by decide) ?_
        refine j_iload_n E dX3_bridgeBits_26 3 rfl ?_
        refine j_ishl E dX3_bridgeBits_27 ?_
        refine j_iconst E (v := (-1)) dX3_bridgeBits_28 (by decide) ?_
        refine j_ixor E dX3_bridgeBits_29 ?_
        refine j_iand E dX3_bridgeBits_30 ?_
        refine j_callvV (As := [.int (a1 &&& ((1 <<< (a3 &&& 31)) ^^^ (-1)))]) (st := []) E (ok_X3_look hg E.2.2.2.2.2.2.2.1 N (a1 &&& ((1 <<< (a3 &&& 31)) ^^^ (-1))) h2) (cX_45 hg) (cl_X3_72) (⟨Nat.le_of_ble_eq_true rfl, Nat.le_of_ble_eq_true rfl⟩) rfl rfl (Nat.le_of_ble_eq_true rfl) dX3_bridgeBits_31 (fun t3 h4 => ?_)
        refine j_aload_n E dX3_bridgeBits_34 0 rfl ?_
        refine j_aload_n E dX3_bridgeBits_35 0 rfl ?_
        refine j_getr E f_X3_21 (cX_45 hg) 3 rfl dX3_bridgeBits_36 ?_
        refine j_getr E f_X3_44 (cX_3 hg) 5 rfl dX3_bridgeBits_39 ?_
        refine j_iload_n E dX3_bridgeBits_42 3 rfl ?_
        refine j_iald E (cX_5 hg) dX3_bridgeBits_43 (fun t5 => ?_)
        refine j_aload_n E dX3_bridgeBits_44 0 rfl ?_
        refine j_getr E f_X3_21 (cX_45 hg) 3 rfl dX3_bridgeBits_45 ?_
        refine j_getr E f_X3_47 (cX_3 hg) 6 rfl dX3_bridgeBits_48 ?_
        refine j_iload_n E dX3_bridgeBits_51 3 rfl ?_
        refine j_iald E (cX_6 hg) dX3_bridgeBits_52 (fun t6 => ?_)
        refine j_callvI (As := [.int t5, .int t6]) (st := []) E (ok_X3_stepsBetween hg E.2.2.2.2.2.2.2.1 N t5 t6 h4) (cX_45 hg) (cl_X3_79) (⟨Nat.le_of_ble_eq_true rfl, Nat.le_of_ble_eq_true rfl⟩) rfl rfl (Nat.le_of_ble_eq_true rfl) dX3_bridgeBits_53 (fun t7 h8 => ?_)
        refine j_bipush E (v := (-2)) dX3_bridgeBits_56 (by decide) ?_
        refine j_cmp_ne E 67 dX3_bridgeBits_58 rfl ?_ ?_
        · exact jxX3_bridgeBits_67 hg N E (xX3_bridgeBits_4 N n) ih a1 a2 a3 h8
        · refine j_iload_n E dX3_bridgeBits_61 2 rfl ?_
          refine j_iconst E (v := 1) dX3_bridgeBits_62 (by decide) ?_
          refine j_iload_n E dX3_bridgeBits_63 3 rfl ?_
          refine j_ishl E dX3_bridgeBits_64 ?_
          refine j_ior E dX3_bridgeBits_65 ?_
          refine j_istore_n E dX3_bridgeBits_66 (Nat.le_of_ble_eq_true rfl) (fun v9 => [(2, .int v9), (0, .ref (g.2.2.1 45)), (1, .int a1), (3, .int a3)]) (fun _ => rfl) (fun v9 => ?_)
          exact j_sub [1, 2, 0, 3] (lv1 := [(0, .ref (g.2.2.1 45)), (1, .int a1), (2, .int v9), (3, .int a3)]) rfl (jxX3_bridgeBits_67 hg N E (xX3_bridgeBits_4 N n) ih a1 v9 a3 h8)
set_option maxRecDepth 20000 in
set_option maxHeartbeats 4000000 in
theorem jxX3_bridgeBits {g : GC} (hg : isGX g) {X : MX} (N : Nat) (E : JE g mX3_bridgeBits X) (a1 : Int32) (h : HP) : J g mX3_bridgeBits X 0 [(0, .ref (g.2.2.1 45)), (1, .int a1)] [] h (xX3_bridgeBits N a1 h) := by
  unfold xX3_bridgeBits
  refine j_iconst E (v := 0) dX3_bridgeBits_0 (by decide) ?_
  refine j_istore0_n E dX3_bridgeBits_1 (Nat.le_of_ble_eq_true rfl) [(2, .int 0), (0, .ref (g.2.2.1 45)), (1, .int a1)] rfl ?_
  refine j_iconst E (v := 0) dX3_bridgeBits_2 (by decide) ?_
  refine j_istore0_n E dX3_bridgeBits_3 (Nat.le_of_ble_eq_true rfl) [(3, .int 0), (2, .int 0), (0, .ref (g.2.2.1 45)), (1, .int a1)] rfl ?_
  exact j_sub [2, 3, 1, 0] (lv1 := [(0, .ref (g.2.2.1 45)), (1, .int a1), (2, .int 0), (3, .int 0)]) rfl (jxX3_bridgeBits_4 hg N E N a1 0 0 h)
theorem ok_X3_bridgeBits {g : GC} (hg : isGX g) (hI : gI g) (N : Nat) (a1 : Int32) (h : HP) : Ok g yX3_bridgeBits mX3_bridgeBits [.ref (g.2.2.1 45), .int a1] h (xX3_bridgeBits N a1 h) := Ok.of hI (by decide) rfl (Nat.le_of_ble_eq_true rfl) (fun X E => jxX3_bridgeBits hg N E a1 h)
set_option maxRecDepth 20000 in
set_option maxHeartbeats 4000000 in
theorem jxX6_across_37 {g : GC} (hg : isGX g) {X : MX} (E : JE g mX6_across X) (s0 : Int32) (h : HP) : J g mX6_across X 37 [] [.int s0] h (xX6_across_37 s0 h) := by
  unfold xX6_across_37
  exact j_ireturn E rfl dX6_across_37
set_option maxRecDepth 20000 in
set_option maxHeartbeats 4000000 in
theorem jxX6_across {g : GC} (hg : isGX g) {X : MX} (E : JE g mX6_across X) (a1 : Int32) (a2 : Int32) (h : HP) : J g mX6_across X 0 [(0, .ref (g.2.2.1 3)), (1, .int a1), (2, .int a2)] [] h (xX6_across a1 a2 h) := by
  unfold xX6_across
  refine j_aload_n E dX6_across_0 0 rfl ?_
  refine j_getr E f_X6_15 (cX_3 hg) 5 rfl dX6_across_1 ?_
  refine j_iload_n E dX6_across_4 1 rfl ?_
  refine j_iald E (cX_5 hg) dX6_across_5 (fun t1 => ?_)
  refine j_iload_n E dX6_across_6 2 rfl ?_
  refine j_cmp_ne E 17 dX6_across_7 rfl ?_ ?_
  · refine j_aload_n E dX6_across_17 0 rfl ?_
    refine j_getr E f_X6_18 (cX_3 hg) 6 rfl dX6_across_18 ?_
    refine j_iload_n E dX6_across_21 1 rfl ?_
    refine j_iald E (cX_6 hg) dX6_across_22 (fun t2 => ?_)
    refine j_iload_n E dX6_across_23 2 rfl ?_
    refine j_cmp_ne E 36 dX6_across_24 rfl ?_ ?_
    · refine j_iconst E (v := (-1)) dX6_across_36 (by decide) ?_
      exact j_sub [] (lv1 := []) rfl (jxX6_across_37 hg E (-1) h)
    · refine j_aload_n E dX6_across_27 0 rfl ?_
      refine j_getr E f_X6_15 (cX_3 hg) 5 rfl dX6_across_28 ?_
      refine j_iload_n E dX6_across_31 1 rfl ?_
      refine j_iald E (cX_5 hg) dX6_across_32 (fun t3 => ?_)
      refine j_goto E 37 dX6_across_33 rfl ?_
      exact j_sub [] (lv1 := []) rfl (jxX6_across_37 hg E t3 h)
  · refine j_aload_n E dX6_across_10 0 rfl ?_
    refine j_getr E f_X6_18 (cX_3 hg) 6 rfl dX6_across_11 ?_
    refine j_iload_n E dX6_across_14 1 rfl ?_
    refine j_iald E (cX_6 hg) dX6_across_15 (fun t4 => ?_)
    exact j_ireturn E rfl dX6_across_16
theorem ok_X6_across {g : GC} (hg : isGX g) (hI : gI g) (a1 : Int32) (a2 : Int32) (h : HP) : Ok g yX6_across mX6_across [.ref (g.2.2.1 3), .int a1, .int a2] h (xX6_across a1 a2 h) := Ok.of hI (by decide) rfl (Nat.le_of_ble_eq_true rfl) (fun X E => jxX6_across hg E a1 a2 h)
set_option maxRecDepth 20000 in
set_option maxHeartbeats 4000000 in
theorem jxX3_leastRing_95 {g : GC} (hg : isGX g) {X : MX} (N : Nat) (E : JE g mX3_leastRing X) (K6 : Int32 → Int32 → Int32 → Int32 → HP → Option (Int32 × HP)) (hK6 : ∀ (a1 : Int32) (a2 : Int32) (a3 : Int32) (a4 : Int32) (h : HP), J g mX3_leastRing X 6 [(0, .ref (g.2.2.1 45)), (1, .int a1), (2, .int a2), (3, .int a3), (4, .int a4)] [] h (K6 a1 a2 a3 a4 h)) (a1 : Int32) (a2 : Int32) (a3 : Int32) (a4 : Int32) (h : HP) : J g mX3_leastRing X 95 [(0, .ref (g.2.2.1 45)), (1, .int a1), (2, .int a2), (3, .int a3), (4, .int a4)] [] h (xX3_leastRing_95 N K6 a1 a2 a3 a4 h) := by
  unfold xX3_leastRing_95
  refine j_iinc E (c := 1) dX3_leastRing_95 4 rfl (by decide) (Nat.le_of_ble_eq_true rfl) (fun v1 => [(4, .int v1), (0, .ref (g.2.2.1 45)), (1, .int a1), (2, .int a2), (3, .int a3)]) (fun _ => rfl) (fun v1 => ?_)
  refine j_goto E 6 dX3_leastRing_98 rfl ?_
  exact j_sub [1, 2, 3, 4, 0] (lv1 := [(0, .ref (g.2.2.1 45)), (1, .int a1), (2, .int a2), (3, .int a3), (4, .int v1)]) rfl (hK6 a1 a2 a3 v1 h)
set_option maxRecDepth 20000 in
set_option maxHeartbeats 4000000 in
theorem jxX3_leastRing_90 {g : GC} (hg : isGX g) {X : MX} (N : Nat) (E : JE g mX3_leastRing X) (K6 : Int32 → Int32 → Int32 → Int32 → HP → Option (Int32 × HP)) (hK6 : ∀ (a1 : Int32) (a2 : Int32) (a3 : Int32) (a4 : Int32) (h : HP), J g mX3_leastRing X 6 [(0, .ref (g.2.2.1 45)), (1, .int a1), (2, .int a2), (3, .int a3), (4, .int a4)] [] h (K6 a1 a2 a3 a4 h)) (a1 : Int32) (a2 : Int32) (a4 : Int32) (a6 : Int32) (h : HP) : J g mX3_leastRing X 90 [(0, .ref (g.2.2.1 45)), (1, .int a1), (2, .int a2), (4, .int a4), (6, .int a6)] [] h (xX3_leastRing_90 N K6 a1 a2 a4 a6 h) := by
  unfold xX3_leastRing_90
  refine j_iload E dX3_leastRing_90 4 rfl ?_
  refine j_iconst E (v := 1) dX3_leastRing_92 (by decide) ?_
  refine j_iadd E dX3_leastRing_93 ?_
  refine j_istore_n E dX3_leastRing_94 (Nat.le_of_ble_eq_true rfl) (fun v1 => [(3, .int v1), (0, .ref (g.2.2.1 45)), (1, .int a1), (2, .int a2), (4, .int a4), (6, .int a6)]) (fun _ => rfl) (fun v1 => ?_)
  exact j_sub [1, 2, 3, 0, 4] (lv1 := [(0, .ref (g.2.2.1 45)), (1, .int a1), (2, .int a2), (3, .int v1), (4, .int a4)]) rfl (jxX3_leastRing_95 hg N E K6 hK6 a1 a2 v1 a4 h)
set_option maxRecDepth 20000 in
set_option maxHeartbeats 4000000 in
theorem jxX3_leastRing_6 {g : GC} (hg : isGX g) {X : MX} (N : Nat) (E : JE g mX3_leastRing X) : ∀ (n : Nat) (a1 : Int32) (a2 : Int32) (a3 : Int32) (a4 : Int32) (h : HP), J g mX3_leastRing X 6 [(0, .ref (g.2.2.1 45)), (1, .int a1), (2, .int a2), (3, .int a3), (4, .int a4)] [] h (xX3_leastRing_6 N n a1 a2 a3 a4 h) := by
  intro n
  induction n with
  | zero => intro a1 a2 a3 a4 h; exact j_none
  | succ n ih =>
    intro a1 a2 a3 a4 h
    unfold xX3_leastRing_6
    refine j_iload E dX3_leastRing_6 4 rfl ?_
    refine j_aload_n E dX3_leastRing_8 0 rfl ?_
    refine j_getr E f_X3_21 (cX_45 hg) 3 rfl dX3_leastRing_9 ?_
    refine j_geti E f_X3_35 (cX_3 hg) rfl dX3_leastRing_12 ?_
    refine j_cmp_ge E 101 dX3_leastRing_15 rfl ?_ ?_
    · refine j_iload_n E dX3_leastRing_101 3 rfl ?_
      exact j_ireturn E rfl dX3_leastRing_102
    · refine j_aload_n E dX3_leastRing_18 0 rfl ?_
      refine j_getr E f_X3_21 (cX_45 hg) 3 rfl dX3_leastRing_19 ?_
      refine j_iload E dX3_leastRing_22 4 rfl ?_
      refine j_iload_n E dX3_leastRing_24 1 rfl ?_
      refine j_callvI (As := [.int a4, .int a1]) (st := []) E (ok_X6_across hg E.2.2.2.2.2.2.2.1 a4 a1 h) (cX_3 hg) (cl_X3_82) (⟨Nat.le_of_ble_eq_true rfl, Nat.le_of_ble_eq_true rfl⟩) rfl rfl (Nat.le_of_ble_eq_true rfl) dX3_leastRing_25 (fun t1 h2 => ?_)
      refine j_istore0 E dX3_leastRing_28 (Nat.le_of_ble_eq_true rfl) [(5, .int t1), (0, .ref (g.2.2.1 45)), (1, .int a1), (2, .int a2), (3, .int a3), (4, .int a4)] rfl ?_
      refine j_iload_n E dX3_leastRing_30 3 rfl ?_
      refine j_iload E dX3_leastRing_31 5 rfl ?_
      refine j_callnI (As := [.int a2, .int a4]) (st := []) E (ok_X10_hasBit hg E.2.2.2.2.2.2.2.1 a2 a4 h2) (cl_X3_40) (⟨Nat.le_of_ble_eq_true rfl, Nat.le_of_ble_eq_true rfl⟩) rfl rfl (Nat.le_of_ble_eq_true rfl) dX3_leastRing_33 (fun t3 h4 => ?_)
      refine j_if_eq E 95 dX3_leastRing_36 rfl ?_ ?_
      · exact j_sub [1, 2, 3, 4, 5] (lv1 := [(0, .ref (g.2.2.1 45)), (1, .int a1), (2, .int a2), (3, .int a3), (4, .int a4)]) rfl (jxX3_leastRing_95 hg N E (xX3_leastRing_6 N n) ih a1 a2 a3 a4 h4)
      · refine j_iload E dX3_leastRing_39 0 rfl ?_
        refine j_iconst E (v := (-1)) dX3_leastRing_41 (by decide) ?_
        refine j_cmp_ne E 48 dX3_leastRing_42 rfl ?_ ?_
        · refine j_aload_n E dX3_leastRing_48 1 rfl ?_
          refine j_iload_n E dX3_leastRing_49 3 rfl ?_
          refine j_iconst E (v := 1) dX3_leastRing_50 (by decide) ?_
          refine j_iload E dX3_leastRing_51 5 rfl ?_
          refine j_ishl E dX3_leastRing_53 ?_
          refine j_iconst E (v := (-1)) dX3_leastRing_54 (by decide) ?_
          refine j_ixor E dX3_leastRing_55 ?_
          refine j_iand E dX3_leastRing_56 ?_
          refine j_callvV (As := [.int (a2 &&& ((1 <<< (a4 &&& 31)) ^^^ (-1)))]) (st := []) E (ok_X3_look hg E.2.2.2.2.2.2.2.1 N (a2 &&& ((1 <<< (a4 &&& 31)) ^^^ (-1))) h4) (cX_45 hg) (cl_X3_72) (⟨Nat.le_of_ble_eq_true rfl, Nat.le_of_ble_eq_true rfl⟩) rfl rfl (Nat.le_of_ble_eq_true rfl) dX3_leastRing_57 (fun t5 h6 => ?_)
          refine j_aload_n E dX3_leastRing_60 1 rfl ?_
          refine j_iload E dX3_leastRing_61 0 rfl ?_
          refine j_iload_n E dX3_leastRing_63 2 rfl ?_
          refine j_callvI (As := [.int t1, .int a1]) (st := []) E (ok_X3_stepsBetween hg E.2.2.2.2.2.2.2.1 N t1 a1 h6) (cX_45 hg) (cl_X3_79) (⟨Nat.le_of_ble_eq_true rfl, Nat.le_of_ble_eq_true rfl⟩) rfl rfl (Nat.le_of_ble_eq_true rfl) dX3_leastRing_64 (fun t7 h8 => ?_)
          refine j_istore0 E dX3_leastRing_67 (Nat.le_of_ble_eq_true rfl) [(6, .int t7), (5, .int t1), (0, .ref (g.2.2.1 45)), (1, .int a1), (2, .int a2), (3, .int a3), (4, .int a4)] rfl ?_
          refine j_iload E dX3_leastRing_69 0 rfl ?_
          refine j_bipush E (v := (-2)) dX3_leastRing_71 (by decide) ?_
          refine j_cmp_eq E 95 dX3_leastRing_73 rfl ?_ ?_
          · exact j_sub [2, 3, 4, 5, 6] (lv1 := [(0, .ref (g.2.2.1 45)), (1, .int a1), (2, .int a2), (3, .int a3), (4, .int a4)]) rfl (jxX3_leastRing_95 hg N E (xX3_leastRing_6 N n) ih a1 a2 a3 a4 h8)
          · refine j_iload_n E dX3_leastRing_76 5 rfl ?_
            refine j_bipush E (v := (-2)) dX3_leastRing_77 (by decide) ?_
            refine j_cmp_eq E 90 dX3_leastRing_79 rfl ?_ ?_
            · exact j_sub [2, 3, 4, 6, 0] (lv1 := [(0, .ref (g.2.2.1 45)), (1, .int a1), (2, .int a2), (4, .int a4), (6, .int t7)]) rfl (jxX3_leastRing_90 hg N E (xX3_leastRing_6 N n) ih a1 a2 a4 t7 h8)
            · refine j_iload E dX3_leastRing_82 0 rfl ?_
              refine j_iconst E (v := 1) dX3_leastRing_84 (by decide) ?_
              refine j_iadd E dX3_leastRing_85 ?_
              refine j_iload_n E dX3_leastRing_86 5 rfl ?_
              refine j_cmp_ge E 95 dX3_leastRing_87 rfl ?_ ?_
              · exact j_sub [2, 3, 4, 5, 6] (lv1 := [(0, .ref (g.2.2.1 45)), (1, .int a1), (2, .int a2), (3, .int a3), (4, .int a4)]) rfl (jxX3_leastRing_95 hg N E (xX3_leastRing_6 N n) ih a1 a2 a3 a4 h8)
              · exact j_sub [2, 3, 4, 6, 0] (lv1 := [(0, .ref (g.2.2.1 45)), (1, .int a1), (2, .int a2), (4, .int a4), (6, .int t7)]) rfl (jxX3_leastRing_90 hg N E (xX3_leastRing_6 N n) ih a1 a2 a4 t7 h8)
        · refine j_goto E 95 dX3_leastRing_45 rfl ?_
          exact j_sub [1, 2, 3, 4, 5] (lv1 := [(0, .ref (g.2.2.1 45)), (1, .int a1), (2, .int a2), (3, .int a3), (4, .int a4)]) rfl (jxX3_leastRing_95 hg N E (xX3_leastRing_6 N n) ih a1 a2 a3 a4 h4)
set_option maxRecDepth 20000 in
set_option maxHeartbeats 4000000 in
theorem jxX3_leastRing {g : GC} (hg : isGX g) {X : MX} (N : Nat) (E : JE g mX3_leastRing X) (a1 : Int32) (a2 : Int32) (h : HP) : J g mX3_leastRing X 0 [(0, .ref (g.2.2.1 45)), (1, .int a1), (2, .int a2)] [] h (xX3_leastRing N a1 a2 h) := by
  unfold xX3_leastRing
  refine j_bipush E (v := (-2)) dX3_leastRing_0 (by decide) ?_
  refine j_istore0_n E dX3_leastRing_2 (Nat.le_of_ble_eq_true rfl) [(3, .int (-2)), (0, .ref (g.2.2.1 45)), (1, .int a1), (2, .int a2)] rfl ?_
  refine j_iconst E (v := 0) dX3_leastRing_3 (by decide) ?_
  refine j_istore0 E dX3_leastRing_4 (Nat.le_of_ble_eq_true rfl) [(4, .int 0), (3, .int (-2)), (0, .ref (g.2.2.1 45)), (1, .int a1), (2, .int a2)] rfl ?_
  exact j_sub [2, 3, 4, 1, 0] (lv1 := [(0, .ref (g.2.2.1 45)), (1, .int a1), (2, .int a2), (3, .int (-2)), (4, .int 0)]) rfl (jxX3_leastRing_6 hg N E N a1 a2 (-2) 0 h)
theorem ok_X3_leastRing {g : GC} (hg : isGX g) (hI : gI g) (N : Nat) (a1 : Int32) (a2 : Int32) (h : HP) : Ok g yX3_leastRing mX3_leastRing [.ref (g.2.2.1 45), .int a1, .int a2] h (xX3_leastRing N a1 a2 h) := Ok.of hI (by decide) rfl (Nat.le_of_ble_eq_true rfl) (fun X E => jxX3_leastRing hg N E a1 a2 h)
set_option maxRecDepth 20000 in
set_option maxHeartbeats 4000000 in
theorem jxX6_isTold_26 {g : GC} (hg : isGX g) {X : MX} (E : JE g mX6_isTold X) (s0 : Int32) (h : HP) : J g mX6_isTold X 26 [] [.int s0] h (xX6_isTold_26 s0 h) := by
  unfold xX6_isTold_26
  exact j_zreturn E rfl dX6_isTold_26
set_option maxRecDepth 20000 in
set_option maxHeartbeats 4000000 in
theorem jxX6_isTold_25 {g : GC} (hg : isGX g) {X : MX} (E : JE g mX6_isTold X) (h : HP) : J g mX6_isTold X 25 [] [] h (xX6_isTold_25 h) := by
  unfold xX6_isTold_25
  refine j_iconst E (v := 0) dX6_isTold_25 (by decide) ?_
  exact jxX6_isTold_26 hg E 0 h
set_option maxRecDepth 20000 in
set_option maxHeartbeats 4000000 in
theorem jxX6_isTold {g : GC} (hg : isGX g) {X : MX} (E : JE g mX6_isTold X) (a1 : Int32) (h : HP) : J g mX6_isTold X 0 [(0, .ref (g.2.2.1 3)), (1, .int a1)] [] h (xX6_isTold a1 h) := by
  unfold xX6_isTold
  refine j_iload_n E dX6_isTold_0 1 rfl ?_
  refine j_if_lt E 25 dX6_isTold_1 rfl ?_ ?_
  · exact j_sub [] (lv1 := []) rfl (jxX6_isTold_25 hg E h)
  · refine j_iload_n E dX6_isTold_4 1 rfl ?_
    refine j_bipush E (v := 16) dX6_isTold_5 (by decide) ?_
    refine j_cmp_ge E 25 dX6_isTold_7 rfl ?_ ?_
    · exact j_sub [] (lv1 := []) rfl (jxX6_isTold_25 hg E h)
    · refine j_aload_n E dX6_isTold_10 0 rfl ?_
      refine j_geti E f_X6_24 (cX_3 hg) rfl dX6_isTold_11 ?_
      refine j_iload_n E dX6_isTold_14 1 rfl ?_
      refine j_callnI (As := [.int (h.1 3 4), .int a1]) (st := []) E (ok_X10_hasBit hg E.2.2.2.2.2.2.2.1 (h.1 3 4) a1 h) (cl_X6_28) (⟨Nat.le_of_ble_eq_true rfl, Nat.le_of_ble_eq_true rfl⟩) rfl rfl (Nat.le_of_ble_eq_true rfl) dX6_isTold_15 (fun t1 h2 => ?_)
      refine j_if_eq E 25 dX6_isTold_18 rfl ?_ ?_
      · exact j_sub [] (lv1 := []) rfl (jxX6_isTold_25 hg E h2)
      · refine j_iconst E (v := 1) dX6_isTold_21 (by decide) ?_
        refine j_goto E 26 dX6_isTold_22 rfl ?_
        exact j_sub [] (lv1 := []) rfl (jxX6_isTold_26 hg E 1 h2)
theorem ok_X6_isTold {g : GC} (hg : isGX g) (hI : gI g) (a1 : Int32) (h : HP) : Ok g yX6_isTold mX6_isTold [.ref (g.2.2.1 3), .int a1] h (xX6_isTold a1 h) := Ok.of hI (by decide) rfl (Nat.le_of_ble_eq_true rfl) (fun X E => jxX6_isTold hg E a1 h)
set_option maxRecDepth 20000 in
set_option maxHeartbeats 4000000 in
theorem jxX3_farthestPair_96 {g : GC} (hg : isGX g) {X : MX} (N : Nat) (E : JE g mX3_farthestPair X) (K57 : Int32 → Int32 → Int32 → Int32 → HP → Option (Int32 × HP)) (hK57 : ∀ (a2 : Int32) (a3 : Int32) (a4 : Int32) (a5 : Int32) (h : HP), J g mX3_farthestPair X 57 [(0, .ref (g.2.2.1 45)), (2, .int a2), (3, .int a3), (4, .int a4), (5, .int a5)] [] h (K57 a2 a3 a4 a5 h)) (a2 : Int32) (a3 : Int32) (a4 : Int32) (a5 : Int32) (h : HP) : J g mX3_farthestPair X 96 [(0, .ref (g.2.2.1 45)), (2, .int a2), (3, .int a3), (4, .int a4), (5, .int a5)] [] h (xX3_farthestPair_96 N K57 a2 a3 a4 a5 h) := by
  unfold xX3_farthestPair_96
  refine j_iinc E (c := 1) dX3_farthestPair_96 4 rfl (by decide) (Nat.le_of_ble_eq_true rfl) (fun v1 => [(5, .int v1), (0, .ref (g.2.2.1 45)), (2, .int a2), (3, .int a3), (4, .int a4)]) (fun _ => rfl) (fun v1 => ?_)
  refine j_goto E 57 dX3_farthestPair_99 rfl ?_
  exact j_sub [1, 2, 3, 4, 0] (lv1 := [(0, .ref (g.2.2.1 45)), (2, .int a2), (3, .int a3), (4, .int a4), (5, .int v1)]) rfl (hK57 a2 a3 a4 v1 h)
set_option maxRecDepth 20000 in
set_option maxHeartbeats 4000000 in
theorem jxX3_farthestPair_102 {g : GC} (hg : isGX g) {X : MX} (N : Nat) (E : JE g mX3_farthestPair X) (K22 : Int32 → Int32 → Int32 → HP → Option (Int32 × HP)) (hK22 : ∀ (a2 : Int32) (a3 : Int32) (a4 : Int32) (h : HP), J g mX3_farthestPair X 22 [(0, .ref (g.2.2.1 45)), (2, .int a2), (3, .int a3), (4, .int a4)] [] h (K22 a2 a3 a4 h)) (a2 : Int32) (a3 : Int32) (a4 : Int32) (h : HP) : J g mX3_farthestPair X 102 [(0, .ref (g.2.2.1 45)), (2, .int a2), (3, .int a3), (4, .int a4)] [] h (xX3_farthestPair_102 N K22 a2 a3 a4 h) := by
  unfold xX3_farthestPair_102
  refine j_iinc E (c := 1) dX3_farthestPair_102 3 rfl (by decide) (Nat.le_of_ble_eq_true rfl) (fun v1 => [(4, .int v1), (0, .ref (g.2.2.1 45)), (2, .int a2), (3, .int a3)]) (fun _ => rfl) (fun v1 => ?_)
  refine j_goto E 22 dX3_farthestPair_105 rfl ?_
  exact j_sub [1, 2, 3, 0] (lv1 := [(0, .ref (g.2.2.1 45)), (2, .int a2), (3, .int a3), (4, .int v1)]) rfl (hK22 a2 a3 v1 h)
set_option maxRecDepth 20000 in
set_option maxHeartbeats 4000000 in
theorem jxX3_farthestPair_57 {g : GC} (hg : isGX g) {X : MX} (N : Nat) (E : JE g mX3_farthestPair X) (K22 : Int32 → Int32 → Int32 → HP → Option (Int32 × HP)) (hK22 : ∀ (a2 : Int32) (a3 : Int32) (a4 : Int32) (h : HP), J g mX3_farthestPair X 22 [(0, .ref (g.2.2.1 45)), (2, .int a2), (3, .int a3), (4, .int a4)] [] h (K22 a2 a3 a4 h)) : ∀ (n : Nat) (a2 : Int32) (a3 : Int32) (a4 : Int32) (a5 : Int32) (h : HP), J g mX3_farthestPair X 57 [(0, .ref (g.2.2.1 45)), (2, .int a2), (3, .int a3), (4, .int a4), (5, .int a5)] [] h (xX3_farthestPair_57 N K22 n a2 a3 a4 a5 h) := by
  intro n
  induction n with
  | zero => intro a2 a3 a4 a5 h; exact j_none
  | succ n ih =>
    intro a2 a3 a4 a5 h
    unfold xX3_farthestPair_57
    refine j_iload E dX3_farthestPair_57 4 rfl ?_
    refine j_bipush E (v := 16) dX3_farthestPair_59 (by decide) ?_
    refine j_cmp_ge E 102 dX3_farthestPair_61 rfl ?_ ?_
    · exact j_sub [0, 1, 2, 3] (lv1 := [(0, .ref (g.2.2.1 45)), (2, .int a2), (3, .int a3), (4, .int a4)]) rfl (jxX3_farthestPair_102 hg N E K22 hK22 a2 a3 a4 h)
    · refine j_aload_n E dX3_farthestPair_64 0 rfl ?_
      refine j_getr E f_X3_15 (cX_45 hg) 47 rfl dX3_farthestPair_65 ?_
      refine j_iload E dX3_farthestPair_68 4 rfl ?_
      refine j_iald E (cX_47 hg) dX3_farthestPair_70 (fun t1 => ?_)
      refine j_iload_n E dX3_farthestPair_71 1 rfl ?_
      refine j_cmp_le E 96 dX3_farthestPair_72 rfl ?_ ?_
      · exact jxX3_farthestPair_96 hg N E (xX3_farthestPair_57 N K22 n) ih a2 a3 a4 a5 h
      · refine j_aload_n E dX3_farthestPair_75 0 rfl ?_
        refine j_getr E f_X3_15 (cX_45 hg) 47 rfl dX3_farthestPair_76 ?_
        refine j_iload E dX3_farthestPair_79 4 rfl ?_
        refine j_iald E (cX_47 hg) dX3_farthestPair_81 (fun t2 => ?_)
        refine j_istore0_n E dX3_farthestPair_82 (Nat.le_of_ble_eq_true rfl) [(2, .int t2), (0, .ref (g.2.2.1 45)), (3, .int a3), (4, .int a4), (5, .int a5)] rfl ?_
        refine j_iload_n E dX3_farthestPair_83 0 rfl ?_
        refine j_bipush E (v := 8) dX3_farthestPair_84 (by decide) ?_
        refine j_ishl E dX3_farthestPair_86 ?_
        refine j_iload E dX3_farthestPair_87 3 rfl ?_
        refine j_iconst E (v := 4) dX3_farthestPair_89 (by decide) ?_
        refine j_ishl E dX3_farthestPair_90 ?_
        refine j_ior E dX3_farthestPair_91 ?_
        refine j_iload E dX3_farthestPair_92 4 rfl ?_
        refine j_ior E dX3_farthestPair_94 ?_
        refine j_istore_n E dX3_farthestPair_95 (Nat.le_of_ble_eq_true rfl) (fun v3 => [(3, .int v3), (2, .int t2), (0, .ref (g.2.2.1 45)), (4, .int a4), (5, .int a5)]) (fun _ => rfl) (fun v3 => ?_)
        exact j_sub [2, 1, 0, 3, 4] (lv1 := [(0, .ref (g.2.2.1 45)), (2, .int t2), (3, .int v3), (4, .int a4), (5, .int a5)]) rfl (jxX3_farthestPair_96 hg N E (xX3_farthestPair_57 N K22 n) ih t2 v3 a4 a5 h)
set_option maxRecDepth 20000 in
set_option maxHeartbeats 4000000 in
theorem jxX3_farthestPair_22 {g : GC} (hg : isGX g) {X : MX} (N : Nat) (E : JE g mX3_farthestPair X) : ∀ (n : Nat) (a2 : Int32) (a3 : Int32) (a4 : Int32) (h : HP), J g mX3_farthestPair X 22 [(0, .ref (g.2.2.1 45)), (2, .int a2), (3, .int a3), (4, .int a4)] [] h (xX3_farthestPair_22 N n a2 a3 a4 h) := by
  intro n
  induction n with
  | zero => intro a2 a3 a4 h; exact j_none
  | succ n ih =>
    intro a2 a3 a4 h
    unfold xX3_farthestPair_22
    refine j_iload E dX3_farthestPair_22 3 rfl ?_
    refine j_bipush E (v := 16) dX3_farthestPair_24 (by decide) ?_
    refine j_cmp_ge E 108 dX3_farthestPair_26 rfl ?_ ?_
    · refine j_iload_n E dX3_farthestPair_108 2 rfl ?_
      exact j_ireturn E rfl dX3_farthestPair_109
    · refine j_aload_n E dX3_farthestPair_29 0 rfl ?_
      refine j_getr E f_X3_21 (cX_45 hg) 3 rfl dX3_farthestPair_30 ?_
      refine j_iload E dX3_farthestPair_33 3 rfl ?_
      refine j_callvI (As := [.int a4]) (st := []) E (ok_X6_isTold hg E.2.2.2.2.2.2.2.1 a4 h) (cX_3 hg) (cl_X3_85) (⟨Nat.le_of_ble_eq_true rfl, Nat.le_of_ble_eq_true rfl⟩) rfl rfl (Nat.le_of_ble_eq_true rfl) dX3_farthestPair_35 (fun t1 h2 => ?_)
      refine j_if_ne E 44 dX3_farthestPair_38 rfl ?_ ?_
      · refine j_aload_n E dX3_farthestPair_44 0 rfl ?_
        refine j_iload E dX3_farthestPair_45 3 rfl ?_
        refine j_callvI (As := [.int a4]) (st := []) E (ok_X3_measureFrom hg E.2.2.2.2.2.2.2.1 N a4 h2) (cX_45 hg) (cl_X3_57) (⟨Nat.le_of_ble_eq_true rfl, Nat.le_of_ble_eq_true rfl⟩) rfl rfl (Nat.le_of_ble_eq_true rfl) dX3_farthestPair_47 (fun t3 h4 => ?_)
        refine j_pop E dX3_farthestPair_50 rfl ?_
        refine j_iload E dX3_farthestPair_51 3 rfl ?_
        refine j_iconst E (v := 1) dX3_farthestPair_53 (by decide) ?_
        refine j_iadd E dX3_farthestPair_54 ?_
        refine j_istore E dX3_farthestPair_55 (Nat.le_of_ble_eq_true rfl) (fun v5 => [(5, .int v5), (0, .ref (g.2.2.1 45)), (2, .int a2), (3, .int a3), (4, .int a4)]) (fun _ => rfl) (fun v5 => ?_)
        exact j_sub [1, 2, 3, 4, 0] (lv1 := [(0, .ref (g.2.2.1 45)), (2, .int a2), (3, .int a3), (4, .int a4), (5, .int v5)]) rfl (jxX3_farthestPair_57 hg N E (xX3_farthestPair_22 N n) ih N a2 a3 a4 v5 h4)
      · refine j_goto E 102 dX3_farthestPair_41 rfl ?_
        exact jxX3_farthestPair_102 hg N E (xX3_farthestPair_22 N n) ih a2 a3 a4 h2
set_option maxRecDepth 20000 in
set_option maxHeartbeats 4000000 in
theorem jxX3_farthestPair {g : GC} (hg : isGX g) {X : MX} (N : Nat) (E : JE g mX3_farthestPair X) (h : HP) : J g mX3_farthestPair X 0 [(0, .ref (g.2.2.1 45))] [] h (xX3_farthestPair N h) := by
  unfold xX3_farthestPair
  refine j_aload_n E dX3_farthestPair_0 0 rfl ?_
  refine j_getr E f_X3_21 (cX_45 hg) 3 rfl dX3_farthestPair_1 ?_
  refine j_geti E f_X3_76 (cX_3 hg) rfl dX3_farthestPair_4 ?_
  refine j_callnI (As := [.int (h.1 3 4)]) (st := []) E (ok_X10_lowest hg E.2.2.2.2.2.2.2.1 (h.1 3 4) h) (cl_X3_50) (⟨Nat.le_of_ble_eq_true rfl, Nat.le_of_ble_eq_true rfl⟩) rfl rfl (Nat.le_of_ble_eq_true rfl) dX3_farthestPair_7 (fun t1 h2 => ?_)
  refine j_istore0_n E dX3_farthestPair_10 (Nat.le_of_ble_eq_true rfl) [(1, .int t1), (0, .ref (g.2.2.1 45))] rfl ?_
  refine j_iconst E (v := 0) dX3_farthestPair_11 (by decide) ?_
  refine j_istore0_n E dX3_farthestPair_12 (Nat.le_of_ble_eq_true rfl) [(2, .int 0), (1, .int t1), (0, .ref (g.2.2.1 45))] rfl ?_
  refine j_iload_n E dX3_farthestPair_13 1 rfl ?_
  refine j_iconst E (v := 4) dX3_farthestPair_14 (by decide) ?_
  refine j_ishl E dX3_farthestPair_15 ?_
  refine j_iload_n E dX3_farthestPair_16 1 rfl ?_
  refine j_ior E dX3_farthestPair_17 ?_
  refine j_istore_n E dX3_farthestPair_18 (Nat.le_of_ble_eq_true rfl) (fun v3 => [(3, .int v3), (2, .int 0), (1, .int t1), (0, .ref (g.2.2.1 45))]) (fun _ => rfl) (fun v3 => ?_)
  refine j_iload_n E dX3_farthestPair_19 2 rfl ?_
  refine j_istore0 E dX3_farthestPair_20 (Nat.le_of_ble_eq_true rfl) [(4, .int t1), (3, .int v3), (2, .int 0), (1, .int t1), (0, .ref (g.2.2.1 45))] rfl ?_
  exact j_sub [4, 2, 1, 0] (lv1 := [(0, .ref (g.2.2.1 45)), (2, .int 0), (3, .int v3), (4, .int t1)]) rfl (jxX3_farthestPair_22 hg N E N 0 v3 t1 h2)
theorem ok_X3_farthestPair {g : GC} (hg : isGX g) (hI : gI g) (N : Nat) (h : HP) : Ok g yX3_farthestPair mX3_farthestPair [.ref (g.2.2.1 45)] h (xX3_farthestPair N h) := Ok.of hI (by decide) rfl (Nat.le_of_ble_eq_true rfl) (fun X E => jxX3_farthestPair hg N E h)
set_option maxRecDepth 20000 in
set_option maxHeartbeats 4000000 in
theorem jxX3_widestBetweenGroups_94 {g : GC} (hg : isGX g) {X : MX} (N : Nat) (E : JE g mX3_widestBetweenGroups X) (K4 : Int32 → Int32 → Int32 → HP → Option (Int32 × HP)) (hK4 : ∀ (a1 : Int32) (a2 : Int32) (a3 : Int32) (h : HP), J g mX3_widestBetweenGroups X 4 [(0, .ref (g.2.2.1 45)), (1, .int a1), (2, .int a2), (3, .int a3)] [] h (K4 a1 a2 a3 h)) (a1 : Int32) (a2 : Int32) (a3 : Int32) (h : HP) : J g mX3_widestBetweenGroups X 94 [(0, .ref (g.2.2.1 45)), (1, .int a1), (2, .int a2), (3, .int a3)] [] h (xX3_widestBetweenGroups_94 N K4 a1 a2 a3 h) := by
  unfold xX3_widestBetweenGroups_94
  refine j_iinc E (c := 1) dX3_widestBetweenGroups_94 3 rfl (by decide) (Nat.le_of_ble_eq_true rfl) (fun v1 => [(3, .int v1), (0, .ref (g.2.2.1 45)), (1, .int a1), (2, .int a2)]) (fun _ => rfl) (fun v1 => ?_)
  refine j_goto E 4 dX3_widestBetweenGroups_97 rfl ?_
  exact j_sub [1, 2, 3, 0] (lv1 := [(0, .ref (g.2.2.1 45)), (1, .int a1), (2, .int a2), (3, .int v1)]) rfl (hK4 a1 a2 v1 h)
set_option maxRecDepth 20000 in
set_option maxHeartbeats 4000000 in
theorem jxX3_widestBetweenGroups_92 {g : GC} (hg : isGX g) {X : MX} (N : Nat) (E : JE g mX3_widestBetweenGroups X) (K4 : Int32 → Int32 → Int32 → HP → Option (Int32 × HP)) (hK4 : ∀ (a1 : Int32) (a2 : Int32) (a3 : Int32) (h : HP), J g mX3_widestBetweenGroups X 4 [(0, .ref (g.2.2.1 45)), (1, .int a1), (2, .int a2), (3, .int a3)] [] h (K4 a1 a2 a3 h)) (a1 : Int32) (a3 : Int32) (h : HP) : J g mX3_widestBetweenGroups X 92 [(0, .ref (g.2.2.1 45)), (1, .int a1), (3, .int a3)] [] h (xX3_widestBetweenGroups_92 N K4 a1 a3 h) := by
  unfold xX3_widestBetweenGroups_92
  refine j_iload_n E dX3_widestBetweenGroups_92 2 rfl ?_
  refine j_istore0_n E dX3_widestBetweenGroups_93 (Nat.le_of_ble_eq_true rfl) [(2, .int a3), (0, .ref (g.2.2.1 45)), (1, .int a1), (3, .int a3)] rfl ?_
  exact j_sub [1, 2, 0, 3] (lv1 := [(0, .ref (g.2.2.1 45)), (1, .int a1), (2, .int a3), (3, .int a3)]) rfl (jxX3_widestBetweenGroups_94 hg N E K4 hK4 a1 a3 a3 h)
set_option maxRecDepth 20000 in
set_option maxHeartbeats 4000000 in
theorem jxX3_widestBetweenGroups_51 {g : GC} (hg : isGX g) {X : MX} (N : Nat) (E : JE g mX3_widestBetweenGroups X) (K4 : Int32 → Int32 → Int32 → HP → Option (Int32 × HP)) (hK4 : ∀ (a1 : Int32) (a2 : Int32) (a3 : Int32) (h : HP), J g mX3_widestBetweenGroups X 4 [(0, .ref (g.2.2.1 45)), (1, .int a1), (2, .int a2), (3, .int a3)] [] h (K4 a1 a2 a3 h)) (a1 : Int32) (a2 : Int32) (a3 : Int32) (s0 : Int32) (h : HP) : J g mX3_widestBetweenGroups X 51 [(0, .ref (g.2.2.1 45)), (1, .int a1), (2, .int a2), (3, .int a3)] [.int s0] h (xX3_widestBetweenGroups_51 N K4 a1 a2 a3 s0 h) := by
  unfold xX3_widestBetweenGroups_51
  refine j_istore0 E dX3_widestBetweenGroups_51 (Nat.le_of_ble_eq_true rfl) [(4, .int s0), (0, .ref (g.2.2.1 45)), (1, .int a1), (2, .int a2), (3, .int a3)] rfl ?_
  refine j_iload_n E dX3_widestBetweenGroups_53 2 rfl ?_
  refine j_iload_n E dX3_widestBetweenGroups_54 4 rfl ?_
  refine j_callnI (As := [.int a1, .int a3]) (st := []) E (ok_X10_hasBit hg E.2.2.2.2.2.2.2.1 a1 a3 h) (cl_X3_40) (⟨Nat.le_of_ble_eq_true rfl, Nat.le_of_ble_eq_true rfl⟩) rfl rfl (Nat.le_of_ble_eq_true rfl) dX3_widestBetweenGroups_55 (fun t1 h2 => ?_)
  refine j_if_eq E 94 dX3_widestBetweenGroups_58 rfl ?_ ?_
  · exact j_sub [1, 2, 3, 4] (lv1 := [(0, .ref (g.2.2.1 45)), (1, .int a1), (2, .int a2), (3, .int a3)]) rfl (jxX3_widestBetweenGroups_94 hg N E K4 hK4 a1 a2 a3 h2)
  · refine j_iload E dX3_widestBetweenGroups_61 0 rfl ?_
    refine j_if_eq E 94 dX3_widestBetweenGroups_63 rfl ?_ ?_
    · exact j_sub [1, 2, 3, 4] (lv1 := [(0, .ref (g.2.2.1 45)), (1, .int a1), (2, .int a2), (3, .int a3)]) rfl (jxX3_widestBetweenGroups_94 hg N E K4 hK4 a1 a2 a3 h2)
    · refine j_iload_n E dX3_widestBetweenGroups_66 3 rfl ?_
      refine j_iconst E (v := (-1)) dX3_widestBetweenGroups_67 (by decide) ?_
      refine j_cmp_eq E 92 dX3_widestBetweenGroups_68 rfl ?_ ?_
      · exact j_sub [1, 2, 4] (lv1 := [(0, .ref (g.2.2.1 45)), (1, .int a1), (3, .int a3)]) rfl (jxX3_widestBetweenGroups_92 hg N E K4 hK4 a1 a3 h2)
      · refine j_aload_n E dX3_widestBetweenGroups_71 1 rfl ?_
        refine j_getr E f_X3_21 (cX_45 hg) 3 rfl dX3_widestBetweenGroups_72 ?_
        refine j_getr E f_X3_60 (cX_3 hg) 7 rfl dX3_widestBetweenGroups_75 ?_
        refine j_iload_n E dX3_widestBetweenGroups_78 4 rfl ?_
        refine j_iald E (cX_7 hg) dX3_widestBetweenGroups_79 (fun t3 => ?_)
        refine j_aload_n E dX3_widestBetweenGroups_80 1 rfl ?_
        refine j_getr E f_X3_21 (cX_45 hg) 3 rfl dX3_widestBetweenGroups_81 ?_
        refine j_getr E f_X3_60 (cX_3 hg) 7 rfl dX3_widestBetweenGroups_84 ?_
        refine j_iload_n E dX3_widestBetweenGroups_87 3 rfl ?_
        refine j_iald E (cX_7 hg) dX3_widestBetweenGroups_88 (fun t4 => ?_)
        refine j_cmp_le E 94 dX3_widestBetweenGroups_89 rfl ?_ ?_
        · exact j_sub [1, 2, 3, 4] (lv1 := [(0, .ref (g.2.2.1 45)), (1, .int a1), (2, .int a2), (3, .int a3)]) rfl (jxX3_widestBetweenGroups_94 hg N E K4 hK4 a1 a2 a3 h2)
        · exact j_sub [1, 2, 4] (lv1 := [(0, .ref (g.2.2.1 45)), (1, .int a1), (3, .int a3)]) rfl (jxX3_widestBetweenGroups_92 hg N E K4 hK4 a1 a3 h2)
set_option maxRecDepth 20000 in
set_option maxHeartbeats 4000000 in
theorem jxX3_widestBetweenGroups_4 {g : GC} (hg : isGX g) {X : MX} (N : Nat) (E : JE g mX3_widestBetweenGroups X) : ∀ (n : Nat) (a1 : Int32) (a2 : Int32) (a3 : Int32) (h : HP), J g mX3_widestBetweenGroups X 4 [(0, .ref (g.2.2.1 45)), (1, .int a1), (2, .int a2), (3, .int a3)] [] h (xX3_widestBetweenGroups_4 N n a1 a2 a3 h) := by
  intro n
  induction n with
  | zero => intro a1 a2 a3 h; exact j_none
  | succ n ih =>
    intro a1 a2 a3 h
    unfold xX3_widestBetweenGroups_4
    refine j_iload_n E dX3_widestBetweenGroups_4 3 rfl ?_
    refine j_aload_n E dX3_widestBetweenGroups_5 0 rfl ?_
    refine j_getr E f_X3_21 (cX_45 hg) 3 rfl dX3_widestBetweenGroups_6 ?_
    refine j_geti E f_X3_35 (cX_3 hg) rfl dX3_widestBetweenGroups_9 ?_
    refine j_cmp_ge E 100 dX3_widestBetweenGroups_12 rfl ?_ ?_
    · refine j_iload_n E dX3_widestBetweenGroups_100 2 rfl ?_
      exact j_ireturn E rfl dX3_widestBetweenGroups_101
    · refine j_aload_n E dX3_widestBetweenGroups_15 0 rfl ?_
      refine j_getr E f_X3_18 (cX_45 hg) 48 rfl dX3_widestBetweenGroups_16 ?_
      refine j_aload_n E dX3_widestBetweenGroups_19 0 rfl ?_
      refine j_getr E f_X3_21 (cX_45 hg) 3 rfl dX3_widestBetweenGroups_20 ?_
      refine j_getr E f_X3_44 (cX_3 hg) 5 rfl dX3_widestBetweenGroups_23 ?_
      refine j_iload_n E dX3_widestBetweenGroups_26 3 rfl ?_
      refine j_iald E (cX_5 hg) dX3_widestBetweenGroups_27 (fun t1 => ?_)
      refine j_iald E (cX_48 hg) dX3_widestBetweenGroups_28 (fun t2 => ?_)
      refine j_aload_n E dX3_widestBetweenGroups_29 0 rfl ?_
      refine j_getr E f_X3_18 (cX_45 hg) 48 rfl dX3_widestBetweenGroups_30 ?_
      refine j_aload_n E dX3_widestBetweenGroups_33 0 rfl ?_
      refine j_getr E f_X3_21 (cX_45 hg) 3 rfl dX3_widestBetweenGroups_34 ?_
      refine j_getr E f_X3_47 (cX_3 hg) 6 rfl dX3_widestBetweenGroups_37 ?_
      refine j_iload_n E dX3_widestBetweenGroups_40 3 rfl ?_
      refine j_iald E (cX_6 hg) dX3_widestBetweenGroups_41 (fun t3 => ?_)
      refine j_iald E (cX_48 hg) dX3_widestBetweenGroups_42 (fun t4 => ?_)
      refine j_cmp_eq E 50 dX3_widestBetweenGroups_43 rfl ?_ ?_
      · refine j_iconst E (v := 0) dX3_widestBetweenGroups_50 (by decide) ?_
        exact jxX3_widestBetweenGroups_51 hg N E (xX3_widestBetweenGroups_4 N n) ih a1 a2 a3 0 h
      · refine j_iconst E (v := 1) dX3_widestBetweenGroups_46 (by decide) ?_
        refine j_goto E 51 dX3_widestBetweenGroups_47 rfl ?_
        exact jxX3_widestBetweenGroups_51 hg N E (xX3_widestBetweenGroups_4 N n) ih a1 a2 a3 1 h
set_option maxRecDepth 20000 in
set_option maxHeartbeats 4000000 in
theorem jxX3_widestBetweenGroups {g : GC} (hg : isGX g) {X : MX} (N : Nat) (E : JE g mX3_widestBetweenGroups X) (a1 : Int32) (h : HP) : J g mX3_widestBetweenGroups X 0 [(0, .ref (g.2.2.1 45)), (1, .int a1)] [] h (xX3_widestBetweenGroups N a1 h) := by
  unfold xX3_widestBetweenGroups
  refine j_iconst E (v := (-1)) dX3_widestBetweenGroups_0 (by decide) ?_
  refine j_istore0_n E dX3_widestBetweenGroups_1 (Nat.le_of_ble_eq_true rfl) [(2, .int (-1)), (0, .ref (g.2.2.1 45)), (1, .int a1)] rfl ?_
  refine j_iconst E (v := 0) dX3_widestBetweenGroups_2 (by decide) ?_
  refine j_istore0_n E dX3_widestBetweenGroups_3 (Nat.le_of_ble_eq_true rfl) [(3, .int 0), (2, .int (-1)), (0, .ref (g.2.2.1 45)), (1, .int a1)] rfl ?_
  exact j_sub [2, 3, 1, 0] (lv1 := [(0, .ref (g.2.2.1 45)), (1, .int a1), (2, .int (-1)), (3, .int 0)]) rfl (jxX3_widestBetweenGroups_4 hg N E N a1 (-1) 0 h)
theorem ok_X3_widestBetweenGroups {g : GC} (hg : isGX g) (hI : gI g) (N : Nat) (a1 : Int32) (h : HP) : Ok g yX3_widestBetweenGroups mX3_widestBetweenGroups [.ref (g.2.2.1 45), .int a1] h (xX3_widestBetweenGroups N a1 h) := Ok.of hI (by decide) rfl (Nat.le_of_ble_eq_true rfl) (fun X E => jxX3_widestBetweenGroups hg N E a1 h)
set_option maxRecDepth 20000 in
set_option maxHeartbeats 4000000 in
theorem jxX3_joinGroups_25 {g : GC} (hg : isGX g) {X : MX} (N : Nat) (E : JE g mX3_joinGroups X) (K2 : Int32 → Int32 → Int32 → HP → Option (Int32 × HP)) (hK2 : ∀ (a1 : Int32) (a2 : Int32) (a3 : Int32) (h : HP), J g mX3_joinGroups X 2 [(0, .ref (g.2.2.1 45)), (1, .int a1), (2, .int a2), (3, .int a3)] [] h (K2 a1 a2 a3 h)) (a1 : Int32) (a2 : Int32) (a3 : Int32) (h : HP) : J g mX3_joinGroups X 25 [(0, .ref (g.2.2.1 45)), (1, .int a1), (2, .int a2), (3, .int a3)] [] h (xX3_joinGroups_25 N K2 a1 a2 a3 h) := by
  unfold xX3_joinGroups_25
  refine j_iinc E (c := 1) dX3_joinGroups_25 3 rfl (by decide) (Nat.le_of_ble_eq_true rfl) (fun v1 => [(3, .int v1), (0, .ref (g.2.2.1 45)), (1, .int a1), (2, .int a2)]) (fun _ => rfl) (fun v1 => ?_)
  refine j_goto E 2 dX3_joinGroups_28 rfl ?_
  exact j_sub [1, 2, 3, 0] (lv1 := [(0, .ref (g.2.2.1 45)), (1, .int a1), (2, .int a2), (3, .int v1)]) rfl (hK2 a1 a2 v1 h)
set_option maxRecDepth 20000 in
set_option maxHeartbeats 4000000 in
theorem jxX3_joinGroups_2 {g : GC} (hg : isGX g) {X : MX} (N : Nat) (E : JE g mX3_joinGroups X) : ∀ (n : Nat) (a1 : Int32) (a2 : Int32) (a3 : Int32) (h : HP), J g mX3_joinGroups X 2 [(0, .ref (g.2.2.1 45)), (1, .int a1), (2, .int a2), (3, .int a3)] [] h (xX3_joinGroups_2 N n a1 a2 a3 h) := by
  intro n
  induction n with
  | zero => intro a1 a2 a3 h; exact j_none
  | succ n ih =>
    intro a1 a2 a3 h
    unfold xX3_joinGroups_2
    refine j_iload_n E dX3_joinGroups_2 3 rfl ?_
    refine j_bipush E (v := 16) dX3_joinGroups_3 (by decide) ?_
    refine j_cmp_ge E 31 dX3_joinGroups_5 rfl ?_ ?_
    · exact j_vreturn E rfl dX3_joinGroups_31
    · refine j_aload_n E dX3_joinGroups_8 0 rfl ?_
      refine j_getr E f_X3_18 (cX_45 hg) 48 rfl dX3_joinGroups_9 ?_
      refine j_iload_n E dX3_joinGroups_12 3 rfl ?_
      refine j_iald E (cX_48 hg) dX3_joinGroups_13 (fun t1 => ?_)
      refine j_iload_n E dX3_joinGroups_14 2 rfl ?_
      refine j_cmp_ne E 25 dX3_joinGroups_15 rfl ?_ ?_
      · exact jxX3_joinGroups_25 hg N E (xX3_joinGroups_2 N n) ih a1 a2 a3 h
      · refine j_aload_n E dX3_joinGroups_18 0 rfl ?_
        refine j_getr E f_X3_18 (cX_45 hg) 48 rfl dX3_joinGroups_19 ?_
        refine j_iload_n E dX3_joinGroups_22 3 rfl ?_
        refine j_iload_n E dX3_joinGroups_23 1 rfl ?_
        refine j_iast E (cX_48 hg) dX3_joinGroups_24 (fun h2 => ?_)
        exact jxX3_joinGroups_25 hg N E (xX3_joinGroups_2 N n) ih a1 a2 a3 h2
set_option maxRecDepth 20000 in
set_option maxHeartbeats 4000000 in
theorem jxX3_joinGroups {g : GC} (hg : isGX g) {X : MX} (N : Nat) (E : JE g mX3_joinGroups X) (a1 : Int32) (a2 : Int32) (h : HP) : J g mX3_joinGroups X 0 [(0, .ref (g.2.2.1 45)), (1, .int a1), (2, .int a2)] [] h (xX3_joinGroups N a1 a2 h) := by
  unfold xX3_joinGroups
  refine j_iconst E (v := 0) dX3_joinGroups_0 (by decide) ?_
  refine j_istore0_n E dX3_joinGroups_1 (Nat.le_of_ble_eq_true rfl) [(3, .int 0), (0, .ref (g.2.2.1 45)), (1, .int a1), (2, .int a2)] rfl ?_
  exact j_sub [1, 2, 3, 0] (lv1 := [(0, .ref (g.2.2.1 45)), (1, .int a1), (2, .int a2), (3, .int 0)]) rfl (jxX3_joinGroups_2 hg N E N a1 a2 0 h)
theorem ok_X3_joinGroups {g : GC} (hg : isGX g) (hI : gI g) (N : Nat) (a1 : Int32) (a2 : Int32) (h : HP) : Ok g yX3_joinGroups mX3_joinGroups [.ref (g.2.2.1 45), .int a1, .int a2] h (xX3_joinGroups N a1 a2 h) := Ok.of hI (by decide) rfl (Nat.le_of_ble_eq_true rfl) (fun X E => jxX3_joinGroups hg N E a1 a2 h)
set_option maxRecDepth 20000 in
set_option maxHeartbeats 4000000 in
theorem jxX3_widthToHold_25 {g : GC} (hg : isGX g) {X : MX} (N : Nat) (E : JE g mX3_widthToHold X) : ∀ (n : Nat) (a1 : Int32) (a2 : Int32) (a3 : Int32) (h : HP), J g mX3_widthToHold X 25 [(0, .ref (g.2.2.1 45)), (1, .int a1), (2, .int a2), (3, .int a3)] [] h (xX3_widthToHold_25 N n a1 a2 a3 h) := by
  intro n
  induction n with
  | zero => intro a1 a2 a3 h; exact j_none
  | succ n ih =>
    intro a1 a2 a3 h
    unfold xX3_widthToHold_25
    refine j_iload_n E dX3_widthToHold_25 3 rfl ?_
    refine j_bipush E (v := 16) dX3_widthToHold_26 (by decide) ?_
    refine j_cmp_ge E 99 dX3_widthToHold_28 rfl ?_ ?_
    · refine j_iload_n E dX3_widthToHold_99 2 rfl ?_
      exact j_ireturn E rfl dX3_widthToHold_100
    · refine j_aload_n E dX3_widthToHold_31 0 rfl ?_
      refine j_iload_n E dX3_widthToHold_32 1 rfl ?_
      refine j_callvI (As := [.int a1]) (st := []) E (ok_X3_widestBetweenGroups hg E.2.2.2.2.2.2.2.1 N a1 h) (cX_45 hg) (cl_X3_89) (⟨Nat.le_of_ble_eq_true rfl, Nat.le_of_ble_eq_true rfl⟩) rfl rfl (Nat.le_of_ble_eq_true rfl) dX3_widthToHold_33 (fun t1 h2 => ?_)
      refine j_istore0 E dX3_widthToHold_36 (Nat.le_of_ble_eq_true rfl) [(4, .int t1), (0, .ref (g.2.2.1 45)), (1, .int a1), (2, .int a2), (3, .int a3)] rfl ?_
      refine j_iload E dX3_widthToHold_38 0 rfl ?_
      refine j_iconst E (v := (-1)) dX3_widthToHold_40 (by decide) ?_
      refine j_cmp_ne E 46 dX3_widthToHold_41 rfl ?_ ?_
      · refine j_iload_n E dX3_widthToHold_46 3 rfl ?_
        refine j_aload_n E dX3_widthToHold_47 1 rfl ?_
        refine j_getr E f_X3_21 (cX_45 hg) 3 rfl dX3_widthToHold_48 ?_
        refine j_getr E f_X3_60 (cX_3 hg) 7 rfl dX3_widthToHold_51 ?_
        refine j_iload E dX3_widthToHold_54 0 rfl ?_
        refine j_iald E (cX_7 hg) dX3_widthToHold_56 (fun t3 => ?_)
        refine j_iadd E dX3_widthToHold_57 ?_
        refine j_istore_n E dX3_widthToHold_58 (Nat.le_of_ble_eq_true rfl) (fun v4 => [(2, .int v4), (4, .int t1), (0, .ref (g.2.2.1 45)), (1, .int a1), (3, .int a3)]) (fun _ => rfl) (fun v4 => ?_)
        refine j_aload_n E dX3_widthToHold_59 2 rfl ?_
        refine j_aload_n E dX3_widthToHold_60 2 rfl ?_
        refine j_getr E f_X3_18 (cX_45 hg) 48 rfl dX3_widthToHold_61 ?_
        refine j_aload_n E dX3_widthToHold_64 2 rfl ?_
        refine j_getr E f_X3_21 (cX_45 hg) 3 rfl dX3_widthToHold_65 ?_
        refine j_getr E f_X3_44 (cX_3 hg) 5 rfl dX3_widthToHold_68 ?_
        refine j_iload E dX3_widthToHold_71 1 rfl ?_
        refine j_iald E (cX_5 hg) dX3_widthToHold_73 (fun t5 => ?_)
        refine j_iald E (cX_48 hg) dX3_widthToHold_74 (fun t6 => ?_)
        refine j_aload_n E dX3_widthToHold_75 2 rfl ?_
        refine j_getr E f_X3_18 (cX_45 hg) 48 rfl dX3_widthToHold_76 ?_
        refine j_aload_n E dX3_widthToHold_79 2 rfl ?_
        refine j_getr E f_X3_21 (cX_45 hg) 3 rfl dX3_widthToHold_80 ?_
        refine j_getr E f_X3_47 (cX_3 hg) 6 rfl dX3_widthToHold_83 ?_
        refine j_iload E dX3_widthToHold_86 1 rfl ?_
        refine j_iald E (cX_6 hg) dX3_widthToHold_88 (fun t7 => ?_)
        refine j_iald E (cX_48 hg) dX3_widthToHold_89 (fun t8 => ?_)
        refine j_callvV (As := [.int t6, .int t8]) (st := []) E (ok_X3_joinGroups hg E.2.2.2.2.2.2.2.1 N t6 t8 h2) (cX_45 hg) (cl_X3_92) (⟨Nat.le_of_ble_eq_true rfl, Nat.le_of_ble_eq_true rfl⟩) rfl rfl (Nat.le_of_ble_eq_true rfl) dX3_widthToHold_90 (fun t9 h10 => ?_)
        refine j_iinc E (c := 1) dX3_widthToHold_93 4 rfl (by decide) (Nat.le_of_ble_eq_true rfl) (fun v11 => [(3, .int v11), (2, .int v4), (4, .int t1), (0, .ref (g.2.2.1 45)), (1, .int a1)]) (fun _ => rfl) (fun v11 => ?_)
        refine j_goto E 25 dX3_widthToHold_96 rfl ?_
        exact j_sub [3, 4, 1, 0] (lv1 := [(0, .ref (g.2.2.1 45)), (1, .int a1), (2, .int v4), (3, .int v11)]) rfl (ih a1 v4 v11 h10)
      · refine j_iload_n E dX3_widthToHold_44 3 rfl ?_
        exact j_ireturn E rfl dX3_widthToHold_45
set_option maxRecDepth 20000 in
set_option maxHeartbeats 4000000 in
theorem jxX3_widthToHold_2 {g : GC} (hg : isGX g) {X : MX} (N : Nat) (E : JE g mX3_widthToHold X) : ∀ (n : Nat) (a1 : Int32) (a2 : Int32) (h : HP), J g mX3_widthToHold X 2 [(0, .ref (g.2.2.1 45)), (1, .int a1), (2, .int a2)] [] h (xX3_widthToHold_2 N n a1 a2 h) := by
  intro n
  induction n with
  | zero => intro a1 a2 h; exact j_none
  | succ n ih =>
    intro a1 a2 h
    unfold xX3_widthToHold_2
    refine j_iload_n E dX3_widthToHold_2 2 rfl ?_
    refine j_bipush E (v := 16) dX3_widthToHold_3 (by decide) ?_
    refine j_cmp_ge E 21 dX3_widthToHold_5 rfl ?_ ?_
    · refine j_iconst E (v := 0) dX3_widthToHold_21 (by decide) ?_
      refine j_istore0_n E dX3_widthToHold_22 (Nat.le_of_ble_eq_true rfl) [(2, .int 0), (0, .ref (g.2.2.1 45)), (1, .int a1)] rfl ?_
      refine j_iconst E (v := 1) dX3_widthToHold_23 (by decide) ?_
      refine j_istore0_n E dX3_widthToHold_24 (Nat.le_of_ble_eq_true rfl) [(3, .int 1), (2, .int 0), (0, .ref (g.2.2.1 45)), (1, .int a1)] rfl ?_
      exact j_sub [2, 3, 1, 0] (lv1 := [(0, .ref (g.2.2.1 45)), (1, .int a1), (2, .int 0), (3, .int 1)]) rfl (jxX3_widthToHold_25 hg N E N a1 0 1 h)
    · refine j_aload_n E dX3_widthToHold_8 0 rfl ?_
      refine j_getr E f_X3_18 (cX_45 hg) 48 rfl dX3_widthToHold_9 ?_
      refine j_iload_n E dX3_widthToHold_12 2 rfl ?_
      refine j_iload_n E dX3_widthToHold_13 2 rfl ?_
      refine j_iast E (cX_48 hg) dX3_widthToHold_14 (fun h1 => ?_)
      refine j_iinc E (c := 1) dX3_widthToHold_15 2 rfl (by decide) (Nat.le_of_ble_eq_true rfl) (fun v2 => [(2, .int v2), (0, .ref (g.2.2.1 45)), (1, .int a1)]) (fun _ => rfl) (fun v2 => ?_)
      refine j_goto E 2 dX3_widthToHold_18 rfl ?_
      exact j_sub [1, 2, 0] (lv1 := [(0, .ref (g.2.2.1 45)), (1, .int a1), (2, .int v2)]) rfl (ih a1 v2 h1)
set_option maxRecDepth 20000 in
set_option maxHeartbeats 4000000 in
theorem jxX3_widthToHold {g : GC} (hg : isGX g) {X : MX} (N : Nat) (E : JE g mX3_widthToHold X) (a1 : Int32) (h : HP) : J g mX3_widthToHold X 0 [(0, .ref (g.2.2.1 45)), (1, .int a1)] [] h (xX3_widthToHold N a1 h) := by
  unfold xX3_widthToHold
  refine j_iconst E (v := 0) dX3_widthToHold_0 (by decide) ?_
  refine j_istore0_n E dX3_widthToHold_1 (Nat.le_of_ble_eq_true rfl) [(2, .int 0), (0, .ref (g.2.2.1 45)), (1, .int a1)] rfl ?_
  exact j_sub [1, 2, 0] (lv1 := [(0, .ref (g.2.2.1 45)), (1, .int a1), (2, .int 0)]) rfl (jxX3_widthToHold_2 hg N E N a1 0 h)
theorem ok_X3_widthToHold {g : GC} (hg : isGX g) (hI : gI g) (N : Nat) (a1 : Int32) (h : HP) : Ok g yX3_widthToHold mX3_widthToHold [.ref (g.2.2.1 45), .int a1] h (xX3_widthToHold N a1 h) := Ok.of hI (by decide) rfl (Nat.le_of_ble_eq_true rfl) (fun X E => jxX3_widthToHold hg N E a1 h)
set_option maxRecDepth 20000 in
set_option maxHeartbeats 4000000 in
theorem jxX3_doesCover_57 {g : GC} (hg : isGX g) {X : MX} (N : Nat) (E : JE g mX3_doesCover X) (s0 : Int32) (h : HP) : J g mX3_doesCover X 57 [] [.int s0] h (xX3_doesCover_57 N s0 h) := by
  unfold xX3_doesCover_57
  exact j_zreturn E rfl dX3_doesCover_57
set_option maxRecDepth 20000 in
set_option maxHeartbeats 4000000 in
theorem jxX3_doesCover_41 {g : GC} (hg : isGX g) {X : MX} (N : Nat) (E : JE g mX3_doesCover X) (a2 : Int32) (h : HP) : J g mX3_doesCover X 41 [(0, .ref (g.2.2.1 45)), (2, .int a2)] [] h (xX3_doesCover_41 N a2 h) := by
  unfold xX3_doesCover_41
  refine j_iload_n E dX3_doesCover_41 1 rfl ?_
  refine j_aload_n E dX3_doesCover_42 0 rfl ?_
  refine j_getr E f_X3_21 (cX_45 hg) 3 rfl dX3_doesCover_43 ?_
  refine j_geti E f_X3_76 (cX_3 hg) rfl dX3_doesCover_46 ?_
  refine j_cmp_ne E 56 dX3_doesCover_49 rfl ?_ ?_
  · refine j_iconst E (v := 0) dX3_doesCover_56 (by decide) ?_
    exact j_sub [] (lv1 := []) rfl (jxX3_doesCover_57 hg N E 0 h)
  · refine j_iconst E (v := 1) dX3_doesCover_52 (by decide) ?_
    refine j_goto E 57 dX3_doesCover_53 rfl ?_
    exact j_sub [] (lv1 := []) rfl (jxX3_doesCover_57 hg N E 1 h)
set_option maxRecDepth 20000 in
set_option maxHeartbeats 4000000 in
theorem jxX3_doesCover_7 {g : GC} (hg : isGX g) {X : MX} (N : Nat) (E : JE g mX3_doesCover X) : ∀ (n : Nat) (a2 : Int32) (a3 : Int32) (a4 : Int32) (h : HP), J g mX3_doesCover X 7 [(0, .ref (g.2.2.1 45)), (2, .int a2), (3, .int a3), (4, .int a4)] [] h (xX3_doesCover_7 N n a2 a3 a4 h) := by
  intro n
  induction n with
  | zero => intro a2 a3 a4 h; exact j_none
  | succ n ih =>
    intro a2 a3 a4 h
    unfold xX3_doesCover_7
    refine j_iload E dX3_doesCover_7 3 rfl ?_
    refine j_iconst E (v := 5) dX3_doesCover_9 (by decide) ?_
    refine j_cmp_ge E 41 dX3_doesCover_10 rfl ?_ ?_
    · exact j_sub [0, 1] (lv1 := [(0, .ref (g.2.2.1 45)), (2, .int a2)]) rfl (jxX3_doesCover_41 hg N E a2 h)
    · refine j_iload_n E dX3_doesCover_13 2 rfl ?_
      refine j_if_eq E 41 dX3_doesCover_14 rfl ?_ ?_
      · exact j_sub [0, 1] (lv1 := [(0, .ref (g.2.2.1 45)), (2, .int a2)]) rfl (jxX3_doesCover_41 hg N E a2 h)
      · refine j_iload_n E dX3_doesCover_17 1 rfl ?_
        refine j_aload_n E dX3_doesCover_18 0 rfl ?_
        refine j_getr E f_X3_18 (cX_45 hg) 48 rfl dX3_doesCover_19 ?_
        refine j_iload_n E dX3_doesCover_22 2 rfl ?_
        refine j_callnI (As := [.int a3]) (st := [.ref (g.2.2.1 48), .int a2]) E (ok_X10_lowest hg E.2.2.2.2.2.2.2.1 a3 h) (cl_X3_50) (⟨Nat.le_of_ble_eq_true rfl, Nat.le_of_ble_eq_true rfl⟩) rfl rfl (Nat.le_of_ble_eq_true rfl) dX3_doesCover_23 (fun t1 h2 => ?_)
        refine j_iald E (cX_48 hg) dX3_doesCover_26 (fun t3 => ?_)
        refine j_ior E dX3_doesCover_27 ?_
        refine j_istore_n E dX3_doesCover_28 (Nat.le_of_ble_eq_true rfl) (fun v4 => [(2, .int v4), (0, .ref (g.2.2.1 45)), (3, .int a3), (4, .int a4)]) (fun _ => rfl) (fun v4 => ?_)
        refine j_iload_n E dX3_doesCover_29 2 rfl ?_
        refine j_iload_n E dX3_doesCover_30 2 rfl ?_
        refine j_iconst E (v := 1) dX3_doesCover_31 (by decide) ?_
        refine j_isub E dX3_doesCover_32 ?_
        refine j_iand E dX3_doesCover_33 ?_
        refine j_istore_n E dX3_doesCover_34 (Nat.le_of_ble_eq_true rfl) (fun v5 => [(3, .int v5), (2, .int v4), (0, .ref (g.2.2.1 45)), (4, .int a4)]) (fun _ => rfl) (fun v5 => ?_)
        refine j_iinc E (c := 1) dX3_doesCover_35 3 rfl (by decide) (Nat.le_of_ble_eq_true rfl) (fun v6 => [(4, .int v6), (3, .int v5), (2, .int v4), (0, .ref (g.2.2.1 45))]) (fun _ => rfl) (fun v6 => ?_)
        refine j_goto E 7 dX3_doesCover_38 rfl ?_
        exact j_sub [3, 2, 1, 0] (lv1 := [(0, .ref (g.2.2.1 45)), (2, .int v4), (3, .int v5), (4, .int v6)]) rfl (ih v4 v5 v6 h2)
set_option maxRecDepth 20000 in
set_option maxHeartbeats 4000000 in
theorem jxX3_doesCover {g : GC} (hg : isGX g) {X : MX} (N : Nat) (E : JE g mX3_doesCover X) (a1 : Int32) (h : HP) : J g mX3_doesCover X 0 [(0, .ref (g.2.2.1 45)), (1, .int a1)] [] h (xX3_doesCover N a1 h) := by
  unfold xX3_doesCover
  refine j_iconst E (v := 0) dX3_doesCover_0 (by decide) ?_
  refine j_istore0_n E dX3_doesCover_1 (Nat.le_of_ble_eq_true rfl) [(2, .int 0), (0, .ref (g.2.2.1 45)), (1, .int a1)] rfl ?_
  refine j_iload_n E dX3_doesCover_2 2 rfl ?_
  refine j_istore0_n E dX3_doesCover_3 (Nat.le_of_ble_eq_true rfl) [(3, .int a1), (2, .int 0), (0, .ref (g.2.2.1 45)), (1, .int a1)] rfl ?_
  refine j_iconst E (v := 0) dX3_doesCover_4 (by decide) ?_
  refine j_istore0 E dX3_doesCover_5 (Nat.le_of_ble_eq_true rfl) [(4, .int 0), (3, .int a1), (2, .int 0), (0, .ref (g.2.2.1 45)), (1, .int a1)] rfl ?_
  exact j_sub [3, 2, 1, 0] (lv1 := [(0, .ref (g.2.2.1 45)), (2, .int 0), (3, .int a1), (4, .int 0)]) rfl (jxX3_doesCover_7 hg N E N 0 a1 0 h)
theorem ok_X3_doesCover {g : GC} (hg : isGX g) (hI : gI g) (N : Nat) (a1 : Int32) (h : HP) : Ok g yX3_doesCover mX3_doesCover [.ref (g.2.2.1 45), .int a1] h (xX3_doesCover N a1 h) := Ok.of hI (by decide) rfl (Nat.le_of_ble_eq_true rfl) (fun X E => jxX3_doesCover hg N E a1 h)
set_option maxRecDepth 20000 in
set_option maxHeartbeats 4000000 in
theorem jxX3_nextOfAsMany_27 {g : GC} (hg : isGX g) {X : MX} (E : JE g mX3_nextOfAsMany X) (s0 : Int32) (h : HP) : J g mX3_nextOfAsMany X 27 [] [.int s0] h (xX3_nextOfAsMany_27 s0 h) := by
  unfold xX3_nextOfAsMany_27
  exact j_ireturn E rfl dX3_nextOfAsMany_27
set_option maxRecDepth 20000 in
set_option maxHeartbeats 4000000 in
theorem jxX3_nextOfAsMany {g : GC} (hg : isGX g) {X : MX} (E : JE g mX3_nextOfAsMany X) (a0 : Int32) (h : HP) : J g mX3_nextOfAsMany X 0 [(0, .int a0)] [] h (xX3_nextOfAsMany a0 h) := by
  unfold xX3_nextOfAsMany
  refine j_iload_n E dX3_nextOfAsMany_0 0 rfl ?_
  refine j_iload_n E dX3_nextOfAsMany_1 0 rfl ?_
  refine j_ineg E dX3_nextOfAsMany_2 ?_
  refine j_iand E dX3_nextOfAsMany_3 ?_
  refine j_istore_n E dX3_nextOfAsMany_4 (Nat.le_of_ble_eq_true rfl) (fun v1 => [(1, .int v1), (0, .int a0)]) (fun _ => rfl) (fun v1 => ?_)
  refine j_iload_n E dX3_nextOfAsMany_5 1 rfl ?_
  refine j_iload_n E dX3_nextOfAsMany_6 0 rfl ?_
  refine j_iadd E dX3_nextOfAsMany_7 ?_
  refine j_istore_n E dX3_nextOfAsMany_8 (Nat.le_of_ble_eq_true rfl) (fun v2 => [(2, .int v2), (1, .int v1), (0, .int a0)]) (fun _ => rfl) (fun v2 => ?_)
  refine j_iload_n E dX3_nextOfAsMany_9 1 rfl ?_
  refine j_if_ne E 18 dX3_nextOfAsMany_10 rfl ?_ ?_
  · refine j_iload_n E dX3_nextOfAsMany_18 0 rfl ?_
    refine j_iload_n E dX3_nextOfAsMany_19 2 rfl ?_
    refine j_iload_n E dX3_nextOfAsMany_20 0 rfl ?_
    refine j_ixor E dX3_nextOfAsMany_21 ?_
    refine j_iload_n E dX3_nextOfAsMany_22 1 rfl ?_
    refine j_idiv E dX3_nextOfAsMany_23 (fun t3 => ?_)
    refine j_iconst E (v := 2) dX3_nextOfAsMany_24 (by decide) ?_
    refine j_ishr E dX3_nextOfAsMany_25 ?_
    refine j_ior E dX3_nextOfAsMany_26 ?_
    exact j_sub [] (lv1 := []) rfl (jxX3_nextOfAsMany_27 hg E (v2 ||| (t3 >>> (2 &&& 31))) h)
  · refine j_ldc E (v := 65536) k_X3_107 dX3_nextOfAsMany_13 ?_
    refine j_goto E 27 dX3_nextOfAsMany_15 rfl ?_
    exact j_sub [] (lv1 := []) rfl (jxX3_nextOfAsMany_27 hg E 65536 h)
theorem ok_X3_nextOfAsMany {g : GC} (hg : isGX g) (hI : gI g) (a0 : Int32) (h : HP) : Ok g yX3_nextOfAsMany mX3_nextOfAsMany [.int a0] h (xX3_nextOfAsMany a0 h) := Ok.of hI (by decide) rfl (Nat.le_of_ble_eq_true rfl) (fun X E => jxX3_nextOfAsMany hg E a0 h)
set_option maxRecDepth 20000 in
set_option maxHeartbeats 4000000 in
theorem jxX3_leastCover_44 {g : GC} (hg : isGX g) {X : MX} (N : Nat) (E : JE g mX3_leastCover X) (K8 : Int32 → Int32 → HP → Option (Int32 × HP)) (hK8 : ∀ (a2 : Int32) (a3 : Int32) (h : HP), J g mX3_leastCover X 8 [(0, .ref (g.2.2.1 45)), (2, .int a2), (3, .int a3)] [] h (K8 a2 a3 h)) (a2 : Int32) (a3 : Int32) (h : HP) : J g mX3_leastCover X 44 [(0, .ref (g.2.2.1 45)), (2, .int a2), (3, .int a3)] [] h (xX3_leastCover_44 N K8 a2 a3 h) := by
  unfold xX3_leastCover_44
  refine j_iload_n E dX3_leastCover_44 1 rfl ?_
  refine j_callsI (As := [.int a2]) (st := []) E (ok_X3_nextOfAsMany hg E.2.2.2.2.2.2.2.1 a2 h) (cl_X3_111) (⟨Nat.le_of_ble_eq_true rfl, Nat.le_of_ble_eq_true rfl⟩) rfl rfl (Nat.le_of_ble_eq_true rfl) dX3_leastCover_45 (fun t1 h2 => ?_)
  refine j_istore0_n E dX3_leastCover_48 (Nat.le_of_ble_eq_true rfl) [(2, .int t1), (0, .ref (g.2.2.1 45)), (3, .int a3)] rfl ?_
  refine j_iinc E (c := 1) dX3_leastCover_49 2 rfl (by decide) (Nat.le_of_ble_eq_true rfl) (fun v3 => [(3, .int v3), (2, .int t1), (0, .ref (g.2.2.1 45))]) (fun _ => rfl) (fun v3 => ?_)
  refine j_goto E 8 dX3_leastCover_52 rfl ?_
  exact j_sub [2, 1, 0] (lv1 := [(0, .ref (g.2.2.1 45)), (2, .int t1), (3, .int v3)]) rfl (hK8 t1 v3 h2)
set_option maxRecDepth 20000 in
set_option maxHeartbeats 4000000 in
theorem jxX3_leastCover_55 {g : GC} (hg : isGX g) {X : MX} (N : Nat) (E : JE g mX3_leastCover X) (h : HP) : J g mX3_leastCover X 55 [] [] h (xX3_leastCover_55 N h) := by
  unfold xX3_leastCover_55
  refine j_iconst E (v := 0) dX3_leastCover_55 (by decide) ?_
  exact j_ireturn E rfl dX3_leastCover_56
set_option maxRecDepth 20000 in
set_option maxHeartbeats 4000000 in
theorem jxX3_leastCover_8 {g : GC} (hg : isGX g) {X : MX} (N : Nat) (E : JE g mX3_leastCover X) : ∀ (n : Nat) (a2 : Int32) (a3 : Int32) (h : HP), J g mX3_leastCover X 8 [(0, .ref (g.2.2.1 45)), (2, .int a2), (3, .int a3)] [] h (xX3_leastCover_8 N n a2 a3 h) := by
  intro n
  induction n with
  | zero => intro a2 a3 h; exact j_none
  | succ n ih =>
    intro a2 a3 h
    unfold xX3_leastCover_8
    refine j_iload_n E dX3_leastCover_8 2 rfl ?_
    refine j_ldc E (v := 65536) k_X3_107 dX3_leastCover_9 ?_
    refine j_cmp_ge E 55 dX3_leastCover_11 rfl ?_ ?_
    · exact j_sub [] (lv1 := []) rfl (jxX3_leastCover_55 hg N E h)
    · refine j_iload_n E dX3_leastCover_14 1 rfl ?_
      refine j_ldc E (v := 65536) k_X3_107 dX3_leastCover_15 ?_
      refine j_cmp_ge E 55 dX3_leastCover_17 rfl ?_ ?_
      · exact j_sub [] (lv1 := []) rfl (jxX3_leastCover_55 hg N E h)
      · refine j_iload_n E dX3_leastCover_20 1 rfl ?_
        refine j_aload_n E dX3_leastCover_21 0 rfl ?_
        refine j_getr E f_X3_21 (cX_45 hg) 3 rfl dX3_leastCover_22 ?_
        refine j_geti E f_X3_76 (cX_3 hg) rfl dX3_leastCover_25 ?_
        refine j_iconst E (v := (-1)) dX3_leastCover_28 (by decide) ?_
        refine j_ixor E dX3_leastCover_29 ?_
        refine j_iand E dX3_leastCover_30 ?_
        refine j_if_ne E 44 dX3_leastCover_31 rfl ?_ ?_
        · exact jxX3_leastCover_44 hg N E (xX3_leastCover_8 N n) ih a2 a3 h
        · refine j_aload_n E dX3_leastCover_34 0 rfl ?_
          refine j_iload_n E dX3_leastCover_35 1 rfl ?_
          refine j_callvI (As := [.int a2]) (st := []) E (ok_X3_doesCover hg E.2.2.2.2.2.2.2.1 N a2 h) (cX_45 hg) (cl_X3_108) (⟨Nat.le_of_ble_eq_true rfl, Nat.le_of_ble_eq_true rfl⟩) rfl rfl (Nat.le_of_ble_eq_true rfl) dX3_leastCover_36 (fun t1 h2 => ?_)
          refine j_if_eq E 44 dX3_leastCover_39 rfl ?_ ?_
          · exact jxX3_leastCover_44 hg N E (xX3_leastCover_8 N n) ih a2 a3 h2
          · refine j_iload_n E dX3_leastCover_42 1 rfl ?_
            exact j_ireturn E rfl dX3_leastCover_43
set_option maxRecDepth 20000 in
set_option maxHeartbeats 4000000 in
theorem jxX3_leastCover {g : GC} (hg : isGX g) {X : MX} (N : Nat) (E : JE g mX3_leastCover X) (a1 : Int32) (h : HP) : J g mX3_leastCover X 0 [(0, .ref (g.2.2.1 45)), (1, .int a1)] [] h (xX3_leastCover N a1 h) := by
  unfold xX3_leastCover
  refine j_iconst E (v := 1) dX3_leastCover_0 (by decide) ?_
  refine j_iload_n E dX3_leastCover_1 1 rfl ?_
  refine j_ishl E dX3_leastCover_2 ?_
  refine j_iconst E (v := 1) dX3_leastCover_3 (by decide) ?_
  refine j_isub E dX3_leastCover_4 ?_
  refine j_istore_n E dX3_leastCover_5 (Nat.le_of_ble_eq_true rfl) (fun v1 => [(2, .int v1), (0, .ref (g.2.2.1 45)), (1, .int a1)]) (fun _ => rfl) (fun v1 => ?_)
  refine j_iconst E (v := 0) dX3_leastCover_6 (by decide) ?_
  refine j_istore0_n E dX3_leastCover_7 (Nat.le_of_ble_eq_true rfl) [(3, .int 0), (2, .int v1), (0, .ref (g.2.2.1 45)), (1, .int a1)] rfl ?_
  exact j_sub [2, 1, 0] (lv1 := [(0, .ref (g.2.2.1 45)), (2, .int v1), (3, .int 0)]) rfl (jxX3_leastCover_8 hg N E N v1 0 h)
theorem ok_X3_leastCover {g : GC} (hg : isGX g) (hI : gI g) (N : Nat) (a1 : Int32) (h : HP) : Ok g yX3_leastCover mX3_leastCover [.ref (g.2.2.1 45), .int a1] h (xX3_leastCover N a1 h) := Ok.of hI (by decide) rfl (Nat.le_of_ble_eq_true rfl) (fun X E => jxX3_leastCover hg N E a1 h)
set_option maxRecDepth 20000 in
set_option maxHeartbeats 4000000 in
theorem jxX3_bestStand_26 {g : GC} (hg : isGX g) {X : MX} (N : Nat) (E : JE g mX3_bestStand X) (h : HP) : J g mX3_bestStand X 26 [] [] h (xX3_bestStand_26 N h) := by
  unfold xX3_bestStand_26
  refine j_bipush E (v := (-2)) dX3_bestStand_26 (by decide) ?_
  exact j_ireturn E rfl dX3_bestStand_28
set_option maxRecDepth 20000 in
set_option maxHeartbeats 4000000 in
theorem jxX3_bestStand_80 {g : GC} (hg : isGX g) {X : MX} (N : Nat) (E : JE g mX3_bestStand X) (K54 : Int32 → Int32 → HP → Option (Int32 × HP)) (hK54 : ∀ (a1 : Int32) (a2 : Int32) (h : HP), J g mX3_bestStand X 54 [(0, .ref (g.2.2.1 45)), (1, .int a1), (2, .int a2)] [] h (K54 a1 a2 h)) : ∀ (n : Nat) (a1 : Int32) (a2 : Int32) (a4 : Int32) (h : HP), J g mX3_bestStand X 80 [(0, .ref (g.2.2.1 45)), (1, .int a1), (2, .int a2), (4, .int a4)] [] h (xX3_bestStand_80 N K54 n a1 a2 a4 h) := by
  intro n
  induction n with
  | zero => intro a1 a2 a4 h; exact j_none
  | succ n ih =>
    intro a1 a2 a4 h
    unfold xX3_bestStand_80
    refine j_iload E dX3_bestStand_80 3 rfl ?_
    refine j_bipush E (v := 16) dX3_bestStand_82 (by decide) ?_
    refine j_cmp_ge E 114 dX3_bestStand_84 rfl ?_ ?_
    · refine j_iinc E (c := 1) dX3_bestStand_114 2 rfl (by decide) (Nat.le_of_ble_eq_true rfl) (fun v1 => [(2, .int v1), (0, .ref (g.2.2.1 45)), (1, .int a1), (4, .int a4)]) (fun _ => rfl) (fun v1 => ?_)
      refine j_goto E 54 dX3_bestStand_117 rfl ?_
      exact j_sub [1, 2, 0] (lv1 := [(0, .ref (g.2.2.1 45)), (1, .int a1), (2, .int v1)]) rfl (hK54 a1 v1 h)
    · refine j_aload_n E dX3_bestStand_87 0 rfl ?_
      refine j_getr E f_X3_18 (cX_45 hg) 48 rfl dX3_bestStand_88 ?_
      refine j_iload E dX3_bestStand_91 3 rfl ?_
      refine j_dup2 E dX3_bestStand_93 rfl rfl ?_
      refine j_iald E (cX_48 hg) dX3_bestStand_94 (fun t2 => ?_)
      refine j_aload_n E dX3_bestStand_95 0 rfl ?_
      refine j_aload_n E dX3_bestStand_96 0 rfl ?_
      refine j_getr E f_X3_18 (cX_45 hg) 48 rfl dX3_bestStand_97 ?_
      refine j_iload E dX3_bestStand_100 3 rfl ?_
      refine j_iald E (cX_48 hg) dX3_bestStand_102 (fun t3 => ?_)
      refine j_callvI (As := [.int t3]) (st := [.int t2, .int a4, .ref (g.2.2.1 48)]) E (ok_X3_nearTo hg E.2.2.2.2.2.2.2.1 N t3 h) (cX_45 hg) (cl_X3_54) (⟨Nat.le_of_ble_eq_true rfl, Nat.le_of_ble_eq_true rfl⟩) rfl rfl (Nat.le_of_ble_eq_true rfl) dX3_bestStand_103 (fun t4 h5 => ?_)
      refine j_ior E dX3_bestStand_106 ?_
      refine j_iast E (cX_48 hg) dX3_bestStand_107 (fun h6 => ?_)
      refine j_iinc E (c := 1) dX3_bestStand_108 3 rfl (by decide) (Nat.le_of_ble_eq_true rfl) (fun v7 => [(4, .int v7), (0, .ref (g.2.2.1 45)), (1, .int a1), (2, .int a2)]) (fun _ => rfl) (fun v7 => ?_)
      refine j_goto E 80 dX3_bestStand_111 rfl ?_
      exact j_sub [1, 2, 3, 0] (lv1 := [(0, .ref (g.2.2.1 45)), (1, .int a1), (2, .int a2), (4, .int v7)]) rfl (ih a1 a2 v7 h6)
set_option maxRecDepth 20000 in
set_option maxHeartbeats 4000000 in
theorem jxX3_bestStand_54 {g : GC} (hg : isGX g) {X : MX} (N : Nat) (E : JE g mX3_bestStand X) : ∀ (n : Nat) (a1 : Int32) (a2 : Int32) (h : HP), J g mX3_bestStand X 54 [(0, .ref (g.2.2.1 45)), (1, .int a1), (2, .int a2)] [] h (xX3_bestStand_54 N n a1 a2 h) := by
  intro n
  induction n with
  | zero => intro a1 a2 h; exact j_none
  | succ n ih =>
    intro a1 a2 h
    unfold xX3_bestStand_54
    refine j_iload_n E dX3_bestStand_54 2 rfl ?_
    refine j_bipush E (v := 16) dX3_bestStand_55 (by decide) ?_
    refine j_cmp_ge E 120 dX3_bestStand_57 rfl ?_ ?_
    · refine j_bipush E (v := (-2)) dX3_bestStand_120 (by decide) ?_
      exact j_ireturn E rfl dX3_bestStand_122
    · refine j_aload_n E dX3_bestStand_60 0 rfl ?_
      refine j_iload_n E dX3_bestStand_61 1 rfl ?_
      refine j_callvI (As := [.int a1]) (st := []) E (ok_X3_leastCover hg E.2.2.2.2.2.2.2.1 N a1 h) (cX_45 hg) (cl_X3_104) (⟨Nat.le_of_ble_eq_true rfl, Nat.le_of_ble_eq_true rfl⟩) rfl rfl (Nat.le_of_ble_eq_true rfl) dX3_bestStand_62 (fun t1 h2 => ?_)
      refine j_istore0_n E dX3_bestStand_65 (Nat.le_of_ble_eq_true rfl) [(3, .int t1), (0, .ref (g.2.2.1 45)), (1, .int a1), (2, .int a2)] rfl ?_
      refine j_iload_n E dX3_bestStand_66 0 rfl ?_
      refine j_if_eq E 77 dX3_bestStand_67 rfl ?_ ?_
      · refine j_iconst E (v := 0) dX3_bestStand_77 (by decide) ?_
        refine j_istore0 E dX3_bestStand_78 (Nat.le_of_ble_eq_true rfl) [(4, .int 0), (3, .int t1), (0, .ref (g.2.2.1 45)), (1, .int a1), (2, .int a2)] rfl ?_
        exact j_sub [2, 3, 4, 0] (lv1 := [(0, .ref (g.2.2.1 45)), (1, .int a1), (2, .int a2), (4, .int 0)]) rfl (jxX3_bestStand_80 hg N E (xX3_bestStand_54 N n) ih N a1 a2 0 h2)
      · refine j_iload_n E dX3_bestStand_70 3 rfl ?_
        refine j_bipush E (v := 16) dX3_bestStand_71 (by decide) ?_
        refine j_ishl E dX3_bestStand_73 ?_
        refine j_iload_n E dX3_bestStand_74 0 rfl ?_
        refine j_ior E dX3_bestStand_75 ?_
        exact j_ireturn E rfl dX3_bestStand_76
set_option maxRecDepth 20000 in
set_option maxHeartbeats 4000000 in
theorem jxX3_bestStand_31 {g : GC} (hg : isGX g) {X : MX} (N : Nat) (E : JE g mX3_bestStand X) : ∀ (n : Nat) (a1 : Int32) (a2 : Int32) (h : HP), J g mX3_bestStand X 31 [(0, .ref (g.2.2.1 45)), (1, .int a1), (2, .int a2)] [] h (xX3_bestStand_31 N n a1 a2 h) := by
  intro n
  induction n with
  | zero => intro a1 a2 h; exact j_none
  | succ n ih =>
    intro a1 a2 h
    unfold xX3_bestStand_31
    refine j_iload_n E dX3_bestStand_31 2 rfl ?_
    refine j_bipush E (v := 16) dX3_bestStand_32 (by decide) ?_
    refine j_cmp_ge E 52 dX3_bestStand_34 rfl ?_ ?_
    · refine j_iconst E (v := 0) dX3_bestStand_52 (by decide) ?_
      refine j_istore0_n E dX3_bestStand_53 (Nat.le_of_ble_eq_true rfl) [(2, .int 0), (0, .ref (g.2.2.1 45)), (1, .int a1)] rfl ?_
      exact j_sub [1, 2, 0] (lv1 := [(0, .ref (g.2.2.1 45)), (1, .int a1), (2, .int 0)]) rfl (jxX3_bestStand_54 hg N E N a1 0 h)
    · refine j_aload_n E dX3_bestStand_37 0 rfl ?_
      refine j_getr E f_X3_18 (cX_45 hg) 48 rfl dX3_bestStand_38 ?_
      refine j_iload_n E dX3_bestStand_41 2 rfl ?_
      refine j_iconst E (v := 1) dX3_bestStand_42 (by decide) ?_
      refine j_iload_n E dX3_bestStand_43 2 rfl ?_
      refine j_ishl E dX3_bestStand_44 ?_
      refine j_iast E (cX_48 hg) dX3_bestStand_45 (fun h1 => ?_)
      refine j_iinc E (c := 1) dX3_bestStand_46 2 rfl (by decide) (Nat.le_of_ble_eq_true rfl) (fun v2 => [(2, .int v2), (0, .ref (g.2.2.1 45)), (1, .int a1)]) (fun _ => rfl) (fun v2 => ?_)
      refine j_goto E 31 dX3_bestStand_49 rfl ?_
      exact j_sub [1, 2, 0] (lv1 := [(0, .ref (g.2.2.1 45)), (1, .int a1), (2, .int v2)]) rfl (ih a1 v2 h1)
set_option maxRecDepth 20000 in
set_option maxHeartbeats 4000000 in
theorem jxX3_bestStand {g : GC} (hg : isGX g) {X : MX} (N : Nat) (E : JE g mX3_bestStand X) (a1 : Int32) (h : HP) : J g mX3_bestStand X 0 [(0, .ref (g.2.2.1 45)), (1, .int a1)] [] h (xX3_bestStand N a1 h) := by
  unfold xX3_bestStand
  refine j_aload_n E dX3_bestStand_0 0 rfl ?_
  refine j_getr E f_X3_21 (cX_45 hg) 3 rfl dX3_bestStand_1 ?_
  refine j_geti E f_X3_76 (cX_3 hg) rfl dX3_bestStand_4 ?_
  refine j_callsI (As := [.int (h.1 3 4)]) (st := []) E (ok_J6_bitCount_0f7a4 hg E.2.2.2.2.2.2.2.1 (h.1 3 4) h) (cl_X3_96) (⟨Nat.le_of_ble_eq_true rfl, Nat.le_of_ble_eq_true rfl⟩) rfl rfl (Nat.le_of_ble_eq_true rfl) dX3_bestStand_7 (fun t1 h2 => ?_)
  refine j_iload_n E dX3_bestStand_10 1 rfl ?_
  refine j_cmp_lt E 26 dX3_bestStand_11 rfl ?_ ?_
  · exact j_sub [] (lv1 := []) rfl (jxX3_bestStand_26 hg N E h2)
  · refine j_aload_n E dX3_bestStand_14 0 rfl ?_
    refine j_aload_n E dX3_bestStand_15 0 rfl ?_
    refine j_geti E f_X3_25 (cX_45 hg) rfl dX3_bestStand_16 ?_
    refine j_callvI (As := [.int (h2.1 45 4)]) (st := []) E (ok_X3_groups hg E.2.2.2.2.2.2.2.1 N (h2.1 45 4) h2) (cX_45 hg) (cl_X3_101) (⟨Nat.le_of_ble_eq_true rfl, Nat.le_of_ble_eq_true rfl⟩) rfl rfl (Nat.le_of_ble_eq_true rfl) dX3_bestStand_19 (fun t3 h4 => ?_)
    refine j_iload_n E dX3_bestStand_22 1 rfl ?_
    refine j_cmp_le E 29 dX3_bestStand_23 rfl ?_ ?_
    · refine j_iconst E (v := 0) dX3_bestStand_29 (by decide) ?_
      refine j_istore0_n E dX3_bestStand_30 (Nat.le_of_ble_eq_true rfl) [(2, .int 0), (0, .ref (g.2.2.1 45)), (1, .int a1)] rfl ?_
      exact j_sub [1, 2, 0] (lv1 := [(0, .ref (g.2.2.1 45)), (1, .int a1), (2, .int 0)]) rfl (jxX3_bestStand_31 hg N E N a1 0 h4)
    · exact j_sub [] (lv1 := []) rfl (jxX3_bestStand_26 hg N E h4)
theorem ok_X3_bestStand {g : GC} (hg : isGX g) (hI : gI g) (N : Nat) (a1 : Int32) (h : HP) : Ok g yX3_bestStand mX3_bestStand [.ref (g.2.2.1 45), .int a1] h (xX3_bestStand N a1 h) := Ok.of hI (by decide) rfl (Nat.le_of_ble_eq_true rfl) (fun X E => jxX3_bestStand hg N E a1 h)
set_option maxRecDepth 20000 in
set_option maxHeartbeats 4000000 in
theorem jxX7_isAtCorner_22 {g : GC} (hg : isGX g) {X : MX} (E : JE g mX7_isAtCorner X) (s0 : Int32) (h : HP) : J g mX7_isAtCorner X 22 [] [.int s0] h (xX7_isAtCorner_22 s0 h) := by
  unfold xX7_isAtCorner_22
  exact j_zreturn E rfl dX7_isAtCorner_22
set_option maxRecDepth 20000 in
set_option maxHeartbeats 4000000 in
theorem jxX7_isAtCorner_21 {g : GC} (hg : isGX g) {X : MX} (E : JE g mX7_isAtCorner X) (h : HP) : J g mX7_isAtCorner X 21 [] [] h (xX7_isAtCorner_21 h) := by
  unfold xX7_isAtCorner_21
  refine j_iconst E (v := 0) dX7_isAtCorner_21 (by decide) ?_
  exact jxX7_isAtCorner_22 hg E 0 h
set_option maxRecDepth 20000 in
set_option maxHeartbeats 4000000 in
theorem jxX7_isAtCorner {g : GC} (hg : isGX g) {X : MX} (E : JE g mX7_isAtCorner X) (h : HP) : J g mX7_isAtCorner X 0 [(0, .ref (g.2.2.1 1))] [] h (xX7_isAtCorner h) := by
  unfold xX7_isAtCorner
  refine j_aload_n E dX7_isAtCorner_0 0 rfl ?_
  refine j_callvI (As := []) (st := []) E (ok_X7_peek hg E.2.2.2.2.2.2.2.1 h) (cX_1 hg) (cl_X7_28) (⟨Nat.le_of_ble_eq_true rfl, Nat.le_of_ble_eq_true rfl⟩) rfl rfl (Nat.le_of_ble_eq_true rfl) dX7_isAtCorner_1 (fun t1 h2 => ?_)
  refine j_istore0_n E dX7_isAtCorner_4 (Nat.le_of_ble_eq_true rfl) [(1, .int t1), (0, .ref (g.2.2.1 1))] rfl ?_
  refine j_iload_n E dX7_isAtCorner_5 0 rfl ?_
  refine j_bipush E (v := 97) dX7_isAtCorner_6 (by decide) ?_
  refine j_cmp_lt E 21 dX7_isAtCorner_8 rfl ?_ ?_
  · exact j_sub [] (lv1 := []) rfl (jxX7_isAtCorner_21 hg E h2)
  · refine j_iload_n E dX7_isAtCorner_11 0 rfl ?_
    refine j_bipush E (v := 113) dX7_isAtCorner_12 (by decide) ?_
    refine j_cmp_ge E 21 dX7_isAtCorner_14 rfl ?_ ?_
    · exact j_sub [] (lv1 := []) rfl (jxX7_isAtCorner_21 hg E h2)
    · refine j_iconst E (v := 1) dX7_isAtCorner_17 (by decide) ?_
      refine j_goto E 22 dX7_isAtCorner_18 rfl ?_
      exact j_sub [] (lv1 := []) rfl (jxX7_isAtCorner_22 hg E 1 h2)
theorem ok_X7_isAtCorner {g : GC} (hg : isGX g) (hI : gI g) (h : HP) : Ok g yX7_isAtCorner mX7_isAtCorner [.ref (g.2.2.1 1)] h (xX7_isAtCorner h) := Ok.of hI (by decide) rfl (Nat.le_of_ble_eq_true rfl) (fun X E => jxX7_isAtCorner hg E h)
set_option maxRecDepth 20000 in
set_option maxHeartbeats 4000000 in
theorem jxX4_note {g : GC} (hg : isGX g) {X : MX} (E : JE g mX4_note X) (a1 : Int32) (a2 : Int32) (a3 : Int32) (h : HP) : J g mX4_note X 0 [(0, .ref (g.2.2.1 27)), (1, .int a1), (2, .int a2), (3, .int a3)] [] h (xX4_note a1 a2 a3 h) := by
  unfold xX4_note
  refine j_aload_n E dX4_note_0 0 rfl ?_
  refine j_geti E f_X4_21 (cX_27 hg) rfl dX4_note_1 ?_
  refine j_bipush E (v := 20) dX4_note_4 (by decide) ?_
  refine j_cmp_lt E 11 dX4_note_6 rfl ?_ ?_
  · refine j_aload_n E dX4_note_11 0 rfl ?_
    refine j_getr E f_X4_9 (cX_27 hg) 28 rfl dX4_note_12 ?_
    refine j_aload_n E dX4_note_15 0 rfl ?_
    refine j_geti E f_X4_21 (cX_27 hg) rfl dX4_note_16 ?_
    refine j_iload_n E dX4_note_19 1 rfl ?_
    refine j_iast E (cX_28 hg) dX4_note_20 (fun h1 => ?_)
    refine j_aload_n E dX4_note_21 0 rfl ?_
    refine j_getr E f_X4_15 (cX_27 hg) 29 rfl dX4_note_22 ?_
    refine j_aload_n E dX4_note_25 0 rfl ?_
    refine j_geti E f_X4_21 (cX_27 hg) rfl dX4_note_26 ?_
    refine j_iload_n E dX4_note_29 2 rfl ?_
    refine j_iast E (cX_29 hg) dX4_note_30 (fun h2 => ?_)
    refine j_aload_n E dX4_note_31 0 rfl ?_
    refine j_getr E f_X4_18 (cX_27 hg) 30 rfl dX4_note_32 ?_
    refine j_aload_n E dX4_note_35 0 rfl ?_
    refine j_geti E f_X4_21 (cX_27 hg) rfl dX4_note_36 ?_
    refine j_iload_n E dX4_note_39 3 rfl ?_
    refine j_iast E (cX_30 hg) dX4_note_40 (fun h3 => ?_)
    refine j_aload_n E dX4_note_41 0 rfl ?_
    refine j_dup E dX4_note_42 rfl ?_
    refine j_geti E f_X4_21 (cX_27 hg) rfl dX4_note_43 ?_
    refine j_iconst E (v := 1) dX4_note_46 (by decide) ?_
    refine j_iadd E dX4_note_47 ?_
    refine j_puti E fp_X4_21 (cX_27 hg) rfl dX4_note_48 (fun h4 => ?_)
    refine j_iconst E (v := 1) dX4_note_51 (by decide) ?_
    exact j_zreturn E rfl dX4_note_52
  · refine j_iconst E (v := 0) dX4_note_9 (by decide) ?_
    exact j_zreturn E rfl dX4_note_10
theorem ok_X4_note {g : GC} (hg : isGX g) (hI : gI g) (a1 : Int32) (a2 : Int32) (a3 : Int32) (h : HP) : Ok g yX4_note mX4_note [.ref (g.2.2.1 27), .int a1, .int a2, .int a3] h (xX4_note a1 a2 a3 h) := Ok.of hI (by decide) rfl (Nat.le_of_ble_eq_true rfl) (fun X E => jxX4_note hg E a1 a2 a3 h)
set_option maxRecDepth 20000 in
set_option maxHeartbeats 4000000 in
theorem jxX4_readPipe_82 {g : GC} (hg : isGX g) {X : MX} (N : Nat) (E : JE g mX4_readPipe X) (s0 : Int32) (h : HP) : J g mX4_readPipe X 82 [] [.int s0] h (xX4_readPipe_82 N s0 h) := by
  unfold xX4_readPipe_82
  exact j_zreturn E rfl dX4_readPipe_82
set_option maxRecDepth 20000 in
set_option maxHeartbeats 4000000 in
theorem jxX4_readPipe_81 {g : GC} (hg : isGX g) {X : MX} (N : Nat) (E : JE g mX4_readPipe X) (h : HP) : J g mX4_readPipe X 81 [] [] h (xX4_readPipe_81 N h) := by
  unfold xX4_readPipe_81
  refine j_iconst E (v := 0) dX4_readPipe_81 (by decide) ?_
  exact jxX4_readPipe_82 hg N E 0 h
set_option maxRecDepth 20000 in
set_option maxHeartbeats 4000000 in
theorem jxX4_readPipe {g : GC} (hg : isGX g) {X : MX} (N : Nat) (E : JE g mX4_readPipe X) (h : HP) : J g mX4_readPipe X 0 [(0, .ref (g.2.2.1 27)), (1, .ref (g.2.2.1 1)), (2, .ref (g.2.2.1 3))] [] h (xX4_readPipe N h) := by
  unfold xX4_readPipe
  refine j_aload_n E dX4_readPipe_0 1 rfl ?_
  refine j_geti E f_X4_35 (cX_1 hg) rfl dX4_readPipe_1 ?_
  refine j_istore_n E dX4_readPipe_4 (Nat.le_of_ble_eq_true rfl) (fun v1 => [(3, .int v1), (0, .ref (g.2.2.1 27)), (1, .ref (g.2.2.1 1)), (2, .ref (g.2.2.1 3))]) (fun _ => rfl) (fun v1 => ?_)
  refine j_aload_n E dX4_readPipe_5 2 rfl ?_
  refine j_iconst E (v := 2) dX4_readPipe_6 (by decide) ?_
  refine j_callvI (As := [.int 2]) (st := []) E (ok_X7_readNumber hg E.2.2.2.2.2.2.2.1 N 2 h) (cX_1 hg) (cl_X4_72) (⟨Nat.le_of_ble_eq_true rfl, Nat.le_of_ble_eq_true rfl⟩) rfl rfl (Nat.le_of_ble_eq_true rfl) dX4_readPipe_7 (fun t2 h3 => ?_)
  refine j_istore0 E dX4_readPipe_10 (Nat.le_of_ble_eq_true rfl) [(4, .int t2), (3, .int v1), (0, .ref (g.2.2.1 27)), (1, .ref (g.2.2.1 1)), (2, .ref (g.2.2.1 3))] rfl ?_
  refine j_iload E dX4_readPipe_12 0 rfl ?_
  refine j_iconst E (v := (-1)) dX4_readPipe_14 (by decide) ?_
  refine j_cmp_ne E 20 dX4_readPipe_15 rfl ?_ ?_
  · refine j_iload E dX4_readPipe_20 0 rfl ?_
    refine j_aload_n E dX4_readPipe_22 4 rfl ?_
    refine j_geti E f_X4_76 (cX_3 hg) rfl dX4_readPipe_23 ?_
    refine j_cmp_lt E 37 dX4_readPipe_26 rfl ?_ ?_
    · refine j_aload_n E dX4_readPipe_37 3 rfl ?_
      refine j_bipush E (v := 33) dX4_readPipe_38 (by decide) ?_
      refine j_callvI (As := [.int 33]) (st := []) E (ok_X7_takes hg E.2.2.2.2.2.2.2.1 33 h3) (cX_1 hg) (cl_X4_53) (⟨Nat.le_of_ble_eq_true rfl, Nat.le_of_ble_eq_true rfl⟩) rfl rfl (Nat.le_of_ble_eq_true rfl) dX4_readPipe_40 (fun t4 h5 => ?_)
      refine j_if_eq E 56 dX4_readPipe_43 rfl ?_ ?_
      · refine j_aload_n E dX4_readPipe_56 3 rfl ?_
        refine j_bipush E (v := 63) dX4_readPipe_57 (by decide) ?_
        refine j_callvI (As := [.int 63]) (st := []) E (ok_X7_demands hg E.2.2.2.2.2.2.2.1 63 h5) (cX_1 hg) (cl_X4_49) (⟨Nat.le_of_ble_eq_true rfl, Nat.le_of_ble_eq_true rfl⟩) rfl rfl (Nat.le_of_ble_eq_true rfl) dX4_readPipe_59 (fun t6 h7 => ?_)
        refine j_if_eq E 81 dX4_readPipe_62 rfl ?_ ?_
        · exact j_sub [] (lv1 := []) rfl (jxX4_readPipe_81 hg N E h7)
        · refine j_aload_n E dX4_readPipe_65 2 rfl ?_
          refine j_bipush E (v := 63) dX4_readPipe_66 (by decide) ?_
          refine j_iload E dX4_readPipe_68 0 rfl ?_
          refine j_iconst E (v := 0) dX4_readPipe_70 (by decide) ?_
          refine j_callvI (As := [.int 63, .int t2, .int 0]) (st := []) E (ok_X4_note hg E.2.2.2.2.2.2.2.1 63 t2 0 h7) (cX_27 hg) (cl_X4_79) (⟨Nat.le_of_ble_eq_true rfl, Nat.le_of_ble_eq_true rfl⟩) rfl rfl (Nat.le_of_ble_eq_true rfl) dX4_readPipe_71 (fun t8 h9 => ?_)
          refine j_if_eq E 81 dX4_readPipe_74 rfl ?_ ?_
          · exact j_sub [] (lv1 := []) rfl (jxX4_readPipe_81 hg N E h9)
          · refine j_iconst E (v := 1) dX4_readPipe_77 (by decide) ?_
            refine j_goto E 82 dX4_readPipe_78 rfl ?_
            exact j_sub [] (lv1 := []) rfl (jxX4_readPipe_82 hg N E 1 h9)
      · refine j_aload_n E dX4_readPipe_46 2 rfl ?_
        refine j_bipush E (v := 33) dX4_readPipe_47 (by decide) ?_
        refine j_iload E dX4_readPipe_49 0 rfl ?_
        refine j_iconst E (v := 0) dX4_readPipe_51 (by decide) ?_
        refine j_callvI (As := [.int 33, .int t2, .int 0]) (st := []) E (ok_X4_note hg E.2.2.2.2.2.2.2.1 33 t2 0 h5) (cX_27 hg) (cl_X4_79) (⟨Nat.le_of_ble_eq_true rfl, Nat.le_of_ble_eq_true rfl⟩) rfl rfl (Nat.le_of_ble_eq_true rfl) dX4_readPipe_52 (fun t10 h11 => ?_)
        exact j_zreturn E rfl dX4_readPipe_55
    · refine j_aload_n E dX4_readPipe_29 3 rfl ?_
      refine j_bipush E (v := 7) dX4_readPipe_30 (by decide) ?_
      refine j_iload_n E dX4_readPipe_32 1 rfl ?_
      refine j_callvI (As := [.int 7, .int v1]) (st := []) E (ok_X7_refuse hg E.2.2.2.2.2.2.2.1 7 v1 h3) (cX_1 hg) (cl_X4_38) (⟨Nat.le_of_ble_eq_true rfl, Nat.le_of_ble_eq_true rfl⟩) rfl rfl (Nat.le_of_ble_eq_true rfl) dX4_readPipe_33 (fun t12 h13 => ?_)
      exact j_zreturn E rfl dX4_readPipe_36
  · refine j_iconst E (v := 0) dX4_readPipe_18 (by decide) ?_
    exact j_zreturn E rfl dX4_readPipe_19
theorem ok_X4_readPipe {g : GC} (hg : isGX g) (hI : gI g) (N : Nat) (h : HP) : Ok g yX4_readPipe mX4_readPipe [.ref (g.2.2.1 27), .ref (g.2.2.1 1), .ref (g.2.2.1 3)] h (xX4_readPipe N h) := Ok.of hI (by decide) rfl (Nat.le_of_ble_eq_true rfl) (fun X E => jxX4_readPipe hg N E h)
set_option maxRecDepth 20000 in
set_option maxHeartbeats 4000000 in
theorem jxX4_readAmount_30 {g : GC} (hg : isGX g) {X : MX} (N : Nat) (E : JE g mX4_readAmount X) (s0 : Int32) (h : HP) : J g mX4_readAmount X 30 [] [.int s0] h (xX4_readAmount_30 N s0 h) := by
  unfold xX4_readAmount_30
  exact j_zreturn E rfl dX4_readAmount_30
set_option maxRecDepth 20000 in
set_option maxHeartbeats 4000000 in
theorem jxX4_readAmount_29 {g : GC} (hg : isGX g) {X : MX} (N : Nat) (E : JE g mX4_readAmount X) (h : HP) : J g mX4_readAmount X 29 [] [] h (xX4_readAmount_29 N h) := by
  unfold xX4_readAmount_29
  refine j_iconst E (v := 0) dX4_readAmount_29 (by decide) ?_
  exact jxX4_readAmount_30 hg N E 0 h
set_option maxRecDepth 20000 in
set_option maxHeartbeats 4000000 in
theorem jxX4_readAmount {g : GC} (hg : isGX g) {X : MX} (N : Nat) (E : JE g mX4_readAmount X) (a2 : Int32) (a3 : Int32) (a4 : Int32) (h : HP) : J g mX4_readAmount X 0 [(0, .ref (g.2.2.1 27)), (1, .ref (g.2.2.1 1)), (2, .int a2), (3, .int a3), (4, .int a4)] [] h (xX4_readAmount N a2 a3 a4 h) := by
  unfold xX4_readAmount
  refine j_aload_n E dX4_readAmount_0 1 rfl ?_
  refine j_iload E dX4_readAmount_1 4 rfl ?_
  refine j_callvI (As := [.int a4]) (st := []) E (ok_X7_readNumber hg E.2.2.2.2.2.2.2.1 N a4 h) (cX_1 hg) (cl_X4_72) (⟨Nat.le_of_ble_eq_true rfl, Nat.le_of_ble_eq_true rfl⟩) rfl rfl (Nat.le_of_ble_eq_true rfl) dX4_readAmount_3 (fun t1 h2 => ?_)
  refine j_istore0 E dX4_readAmount_6 (Nat.le_of_ble_eq_true rfl) [(5, .int t1), (0, .ref (g.2.2.1 27)), (1, .ref (g.2.2.1 1)), (2, .int a2), (3, .int a3), (4, .int a4)] rfl ?_
  refine j_iload E dX4_readAmount_8 0 rfl ?_
  refine j_iconst E (v := (-1)) dX4_readAmount_10 (by decide) ?_
  refine j_cmp_eq E 29 dX4_readAmount_11 rfl ?_ ?_
  · exact j_sub [] (lv1 := []) rfl (jxX4_readAmount_29 hg N E h2)
  · refine j_aload_n E dX4_readAmount_14 1 rfl ?_
    refine j_iload_n E dX4_readAmount_15 3 rfl ?_
    refine j_iload_n E dX4_readAmount_16 4 rfl ?_
    refine j_iload E dX4_readAmount_17 0 rfl ?_
    refine j_callvI (As := [.int a2, .int a3, .int t1]) (st := []) E (ok_X4_note hg E.2.2.2.2.2.2.2.1 a2 a3 t1 h2) (cX_27 hg) (cl_X4_79) (⟨Nat.le_of_ble_eq_true rfl, Nat.le_of_ble_eq_true rfl⟩) rfl rfl (Nat.le_of_ble_eq_true rfl) dX4_readAmount_19 (fun t3 h4 => ?_)
    refine j_if_eq E 29 dX4_readAmount_22 rfl ?_ ?_
    · exact j_sub [] (lv1 := []) rfl (jxX4_readAmount_29 hg N E h4)
    · refine j_iconst E (v := 1) dX4_readAmount_25 (by decide) ?_
      refine j_goto E 30 dX4_readAmount_26 rfl ?_
      exact j_sub [] (lv1 := []) rfl (jxX4_readAmount_30 hg N E 1 h4)
theorem ok_X4_readAmount {g : GC} (hg : isGX g) (hI : gI g) (N : Nat) (a2 : Int32) (a3 : Int32) (a4 : Int32) (h : HP) : Ok g yX4_readAmount mX4_readAmount [.ref (g.2.2.1 27), .ref (g.2.2.1 1), .int a2, .int a3, .int a4] h (xX4_readAmount N a2 a3 a4 h) := Ok.of hI (by decide) rfl (Nat.le_of_ble_eq_true rfl) (fun X E => jxX4_readAmount hg N E a2 a3 a4 h)
set_option maxRecDepth 20000 in
set_option maxHeartbeats 4000000 in
theorem jxX4_readTurn_18 {g : GC} (hg : isGX g) {X : MX} (E : JE g mX4_readTurn X) (h : HP) : J g mX4_readTurn X 18 [(1, .ref (g.2.2.1 1))] [] h (xX4_readTurn_18 h) := by
  unfold xX4_readTurn_18
  refine j_aload_n E dX4_readTurn_18 0 rfl ?_
  refine j_iconst E (v := 1) dX4_readTurn_19 (by decide) ?_
  refine j_aload_n E dX4_readTurn_20 0 rfl ?_
  refine j_geti E f_X4_35 (cX_1 hg) rfl dX4_readTurn_21 ?_
  refine j_callvI (As := [.int 1, .int (h.1 1 2)]) (st := []) E (ok_X7_refuse hg E.2.2.2.2.2.2.2.1 1 (h.1 1 2) h) (cX_1 hg) (cl_X4_38) (⟨Nat.le_of_ble_eq_true rfl, Nat.le_of_ble_eq_true rfl⟩) rfl rfl (Nat.le_of_ble_eq_true rfl) dX4_readTurn_24 (fun t1 h2 => ?_)
  exact j_zreturn E rfl dX4_readTurn_27
set_option maxRecDepth 20000 in
set_option maxHeartbeats 4000000 in
theorem jxX4_readTurn {g : GC} (hg : isGX g) {X : MX} (E : JE g mX4_readTurn X) (a2 : Int32) (h : HP) : J g mX4_readTurn X 0 [(0, .ref (g.2.2.1 27)), (1, .ref (g.2.2.1 1)), (2, .int a2)] [] h (xX4_readTurn a2 h) := by
  unfold xX4_readTurn
  refine j_aload_n E dX4_readTurn_0 1 rfl ?_
  refine j_callvI (As := []) (st := []) E (ok_X7_peek hg E.2.2.2.2.2.2.2.1 h) (cX_1 hg) (cl_X4_25) (⟨Nat.le_of_ble_eq_true rfl, Nat.le_of_ble_eq_true rfl⟩) rfl rfl (Nat.le_of_ble_eq_true rfl) dX4_readTurn_1 (fun t1 h2 => ?_)
  refine j_bipush E (v := 48) dX4_readTurn_4 (by decide) ?_
  refine j_isub E dX4_readTurn_6 ?_
  refine j_istore_n E dX4_readTurn_7 (Nat.le_of_ble_eq_true rfl) (fun v3 => [(3, .int v3), (0, .ref (g.2.2.1 27)), (1, .ref (g.2.2.1 1)), (2, .int a2)]) (fun _ => rfl) (fun v3 => ?_)
  refine j_iload_n E dX4_readTurn_8 0 rfl ?_
  refine j_if_lt E 18 dX4_readTurn_9 rfl ?_ ?_
  · exact j_sub [2] (lv1 := [(1, .ref (g.2.2.1 1))]) rfl (jxX4_readTurn_18 hg E h2)
  · refine j_iload_n E dX4_readTurn_12 0 rfl ?_
    refine j_bipush E (v := 8) dX4_readTurn_13 (by decide) ?_
    refine j_cmp_le E 28 dX4_readTurn_15 rfl ?_ ?_
    · refine j_aload_n E dX4_readTurn_28 2 rfl ?_
      refine j_dup E dX4_readTurn_29 rfl ?_
      refine j_geti E f_X4_35 (cX_1 hg) rfl dX4_readTurn_30 ?_
      refine j_iconst E (v := 1) dX4_readTurn_33 (by decide) ?_
      refine j_iadd E dX4_readTurn_34 ?_
      refine j_puti E fp_X4_35 (cX_1 hg) rfl dX4_readTurn_35 (fun h4 => ?_)
      refine j_aload_n E dX4_readTurn_38 1 rfl ?_
      refine j_bipush E (v := 64) dX4_readTurn_39 (by decide) ?_
      refine j_iload_n E dX4_readTurn_41 3 rfl ?_
      refine j_iload_n E dX4_readTurn_42 0 rfl ?_
      refine j_callvI (As := [.int 64, .int a2, .int v3]) (st := []) E (ok_X4_note hg E.2.2.2.2.2.2.2.1 64 a2 v3 h4) (cX_27 hg) (cl_X4_79) (⟨Nat.le_of_ble_eq_true rfl, Nat.le_of_ble_eq_true rfl⟩) rfl rfl (Nat.le_of_ble_eq_true rfl) dX4_readTurn_43 (fun t5 h6 => ?_)
      exact j_zreturn E rfl dX4_readTurn_46
    · exact j_sub [2] (lv1 := [(1, .ref (g.2.2.1 1))]) rfl (jxX4_readTurn_18 hg E h2)
theorem ok_X4_readTurn {g : GC} (hg : isGX g) (hI : gI g) (a2 : Int32) (h : HP) : Ok g yX4_readTurn mX4_readTurn [.ref (g.2.2.1 27), .ref (g.2.2.1 1), .int a2] h (xX4_readTurn a2 h) := Ok.of hI (by decide) rfl (Nat.le_of_ble_eq_true rfl) (fun X E => jxX4_readTurn hg E a2 h)
set_option maxRecDepth 20000 in
set_option maxHeartbeats 4000000 in
theorem jxX4_readLine_134 {g : GC} (hg : isGX g) {X : MX} (N : Nat) (E : JE g mX4_readLine X) (s0 : Int32) (h : HP) : J g mX4_readLine X 134 [] [.int s0] h (xX4_readLine_134 N s0 h) := by
  unfold xX4_readLine_134
  exact j_zreturn E rfl dX4_readLine_134
set_option maxRecDepth 20000 in
set_option maxHeartbeats 4000000 in
theorem jxX4_readLine_133 {g : GC} (hg : isGX g) {X : MX} (N : Nat) (E : JE g mX4_readLine X) (h : HP) : J g mX4_readLine X 133 [] [] h (xX4_readLine_133 N h) := by
  unfold xX4_readLine_133
  refine j_iconst E (v := 0) dX4_readLine_133 (by decide) ?_
  exact jxX4_readLine_134 hg N E 0 h
set_option maxRecDepth 20000 in
set_option maxHeartbeats 4000000 in
theorem jxX4_readLine {g : GC} (hg : isGX g) {X : MX} (N : Nat) (E : JE g mX4_readLine X) (h : HP) : J g mX4_readLine X 0 [(0, .ref (g.2.2.1 27)), (1, .ref (g.2.2.1 1)), (2, .ref (g.2.2.1 3))] [] h (xX4_readLine N h) := by
  unfold xX4_readLine
  refine j_aload_n E dX4_readLine_0 1 rfl ?_
  refine j_bipush E (v := 35) dX4_readLine_1 (by decide) ?_
  refine j_callvI (As := [.int 35]) (st := []) E (ok_X7_takes hg E.2.2.2.2.2.2.2.1 35 h) (cX_1 hg) (cl_X4_53) (⟨Nat.le_of_ble_eq_true rfl, Nat.le_of_ble_eq_true rfl⟩) rfl rfl (Nat.le_of_ble_eq_true rfl) dX4_readLine_3 (fun t1 h2 => ?_)
  refine j_if_eq E 16 dX4_readLine_6 rfl ?_ ?_
  · refine j_aload_n E dX4_readLine_16 1 rfl ?_
    refine j_bipush E (v := 126) dX4_readLine_17 (by decide) ?_
    refine j_callvI (As := [.int 126]) (st := []) E (ok_X7_takes hg E.2.2.2.2.2.2.2.1 126 h2) (cX_1 hg) (cl_X4_53) (⟨Nat.le_of_ble_eq_true rfl, Nat.le_of_ble_eq_true rfl⟩) rfl rfl (Nat.le_of_ble_eq_true rfl) dX4_readLine_19 (fun t3 h4 => ?_)
    refine j_if_eq E 36 dX4_readLine_22 rfl ?_ ?_
    · refine j_aload_n E dX4_readLine_36 1 rfl ?_
      refine j_callvI (As := []) (st := []) E (ok_X7_peek hg E.2.2.2.2.2.2.2.1 h4) (cX_1 hg) (cl_X4_25) (⟨Nat.le_of_ble_eq_true rfl, Nat.le_of_ble_eq_true rfl⟩) rfl rfl (Nat.le_of_ble_eq_true rfl) dX4_readLine_37 (fun t5 h6 => ?_)
      refine j_bipush E (v := 97) dX4_readLine_40 (by decide) ?_
      refine j_isub E dX4_readLine_42 ?_
      refine j_istore_n E dX4_readLine_43 (Nat.le_of_ble_eq_true rfl) (fun v7 => [(3, .int v7), (0, .ref (g.2.2.1 27)), (1, .ref (g.2.2.1 1)), (2, .ref (g.2.2.1 3))]) (fun _ => rfl) (fun v7 => ?_)
      refine j_aload_n E dX4_readLine_44 3 rfl ?_
      refine j_iload_n E dX4_readLine_45 0 rfl ?_
      refine j_callvI (As := [.int v7]) (st := []) E (ok_X6_isTold hg E.2.2.2.2.2.2.2.1 v7 h6) (cX_3 hg) (cl_X4_63) (⟨Nat.le_of_ble_eq_true rfl, Nat.le_of_ble_eq_true rfl⟩) rfl rfl (Nat.le_of_ble_eq_true rfl) dX4_readLine_46 (fun t8 h9 => ?_)
      refine j_if_ne E 63 dX4_readLine_49 rfl ?_ ?_
      · refine j_aload_n E dX4_readLine_63 2 rfl ?_
        refine j_dup E dX4_readLine_64 rfl ?_
        refine j_geti E f_X4_35 (cX_1 hg) rfl dX4_readLine_65 ?_
        refine j_iconst E (v := 1) dX4_readLine_68 (by decide) ?_
        refine j_iadd E dX4_readLine_69 ?_
        refine j_puti E fp_X4_35 (cX_1 hg) rfl dX4_readLine_70 (fun h10 => ?_)
        refine j_aload_n E dX4_readLine_73 2 rfl ?_
        refine j_bipush E (v := 64) dX4_readLine_74 (by decide) ?_
        refine j_callvI (As := [.int 64]) (st := []) E (ok_X7_takes hg E.2.2.2.2.2.2.2.1 64 h10) (cX_1 hg) (cl_X4_53) (⟨Nat.le_of_ble_eq_true rfl, Nat.le_of_ble_eq_true rfl⟩) rfl rfl (Nat.le_of_ble_eq_true rfl) dX4_readLine_76 (fun t11 h12 => ?_)
        refine j_if_eq E 89 dX4_readLine_79 rfl ?_ ?_
        · refine j_aload_n E dX4_readLine_89 2 rfl ?_
          refine j_bipush E (v := 43) dX4_readLine_90 (by decide) ?_
          refine j_callvI (As := [.int 43]) (st := []) E (ok_X7_takes hg E.2.2.2.2.2.2.2.1 43 h12) (cX_1 hg) (cl_X4_53) (⟨Nat.le_of_ble_eq_true rfl, Nat.le_of_ble_eq_true rfl⟩) rfl rfl (Nat.le_of_ble_eq_true rfl) dX4_readLine_92 (fun t13 h14 => ?_)
          refine j_if_eq E 108 dX4_readLine_95 rfl ?_ ?_
          · refine j_aload_n E dX4_readLine_108 2 rfl ?_
            refine j_bipush E (v := 45) dX4_readLine_109 (by decide) ?_
            refine j_callvI (As := [.int 45]) (st := []) E (ok_X7_demands hg E.2.2.2.2.2.2.2.1 45 h14) (cX_1 hg) (cl_X4_49) (⟨Nat.le_of_ble_eq_true rfl, Nat.le_of_ble_eq_true rfl⟩) rfl rfl (Nat.le_of_ble_eq_true rfl) dX4_readLine_111 (fun t15 h16 => ?_)
            refine j_if_eq E 133 dX4_readLine_114 rfl ?_ ?_
            · exact j_sub [] (lv1 := []) rfl (jxX4_readLine_133 hg N E h16)
            · refine j_aload_n E dX4_readLine_117 1 rfl ?_
              refine j_aload_n E dX4_readLine_118 2 rfl ?_
              refine j_bipush E (v := 45) dX4_readLine_119 (by decide) ?_
              refine j_iload_n E dX4_readLine_121 0 rfl ?_
              refine j_iconst E (v := 4) dX4_readLine_122 (by decide) ?_
              refine j_callvI (As := [.ref (g.2.2.1 1), .int 45, .int v7, .int 4]) (st := []) E (ok_X4_readAmount hg E.2.2.2.2.2.2.2.1 N 45 v7 4 h16) (cX_27 hg) (cl_X4_59) (⟨Nat.le_of_ble_eq_true rfl, Nat.le_of_ble_eq_true rfl⟩) rfl rfl (Nat.le_of_ble_eq_true rfl) dX4_readLine_123 (fun t17 h18 => ?_)
              refine j_if_eq E 133 dX4_readLine_126 rfl ?_ ?_
              · exact j_sub [] (lv1 := []) rfl (jxX4_readLine_133 hg N E h18)
              · refine j_iconst E (v := 1) dX4_readLine_129 (by decide) ?_
                refine j_goto E 134 dX4_readLine_130 rfl ?_
                exact j_sub [] (lv1 := []) rfl (jxX4_readLine_134 hg N E 1 h18)
          · refine j_aload_n E dX4_readLine_98 1 rfl ?_
            refine j_aload_n E dX4_readLine_99 2 rfl ?_
            refine j_bipush E (v := 43) dX4_readLine_100 (by decide) ?_
            refine j_iload_n E dX4_readLine_102 0 rfl ?_
            refine j_iconst E (v := 4) dX4_readLine_103 (by decide) ?_
            refine j_callvI (As := [.ref (g.2.2.1 1), .int 43, .int v7, .int 4]) (st := []) E (ok_X4_readAmount hg E.2.2.2.2.2.2.2.1 N 43 v7 4 h14) (cX_27 hg) (cl_X4_59) (⟨Nat.le_of_ble_eq_true rfl, Nat.le_of_ble_eq_true rfl⟩) rfl rfl (Nat.le_of_ble_eq_true rfl) dX4_readLine_104 (fun t19 h20 => ?_)
            exact j_zreturn E rfl dX4_readLine_107
        · refine j_aload_n E dX4_readLine_82 1 rfl ?_
          refine j_aload_n E dX4_readLine_83 2 rfl ?_
          refine j_iload_n E dX4_readLine_84 0 rfl ?_
          refine j_callvI (As := [.ref (g.2.2.1 1), .int v7]) (st := []) E (ok_X4_readTurn hg E.2.2.2.2.2.2.2.1 v7 h12) (cX_27 hg) (cl_X4_68) (⟨Nat.le_of_ble_eq_true rfl, Nat.le_of_ble_eq_true rfl⟩) rfl rfl (Nat.le_of_ble_eq_true rfl) dX4_readLine_85 (fun t21 h22 => ?_)
          exact j_zreturn E rfl dX4_readLine_88
      · refine j_aload_n E dX4_readLine_52 2 rfl ?_
        refine j_bipush E (v := 7) dX4_readLine_53 (by decide) ?_
        refine j_aload_n E dX4_readLine_55 2 rfl ?_
        refine j_geti E f_X4_35 (cX_1 hg) rfl dX4_readLine_56 ?_
        refine j_callvI (As := [.int 7, .int (h9.1 1 2)]) (st := []) E (ok_X7_refuse hg E.2.2.2.2.2.2.2.1 7 (h9.1 1 2) h9) (cX_1 hg) (cl_X4_38) (⟨Nat.le_of_ble_eq_true rfl, Nat.le_of_ble_eq_true rfl⟩) rfl rfl (Nat.le_of_ble_eq_true rfl) dX4_readLine_59 (fun t23 h24 => ?_)
        exact j_zreturn E rfl dX4_readLine_62
    · refine j_aload_n E dX4_readLine_25 0 rfl ?_
      refine j_aload_n E dX4_readLine_26 1 rfl ?_
      refine j_bipush E (v := 126) dX4_readLine_27 (by decide) ?_
      refine j_iconst E (v := 0) dX4_readLine_29 (by decide) ?_
      refine j_bipush E (v := 6) dX4_readLine_30 (by decide) ?_
      refine j_callvI (As := [.ref (g.2.2.1 1), .int 126, .int 0, .int 6]) (st := []) E (ok_X4_readAmount hg E.2.2.2.2.2.2.2.1 N 126 0 6 h4) (cX_27 hg) (cl_X4_59) (⟨Nat.le_of_ble_eq_true rfl, Nat.le_of_ble_eq_true rfl⟩) rfl rfl (Nat.le_of_ble_eq_true rfl) dX4_readLine_32 (fun t25 h26 => ?_)
      exact j_zreturn E rfl dX4_readLine_35
  · refine j_aload_n E dX4_readLine_9 0 rfl ?_
    refine j_aload_n E dX4_readLine_10 1 rfl ?_
    refine j_aload_n E dX4_readLine_11 2 rfl ?_
    refine j_callvI (As := [.ref (g.2.2.1 1), .ref (g.2.2.1 3)]) (st := []) E (ok_X4_readPipe hg E.2.2.2.2.2.2.2.1 N h2) (cX_27 hg) (cl_X4_56) (⟨Nat.le_of_ble_eq_true rfl, Nat.le_of_ble_eq_true rfl⟩) rfl rfl (Nat.le_of_ble_eq_true rfl) dX4_readLine_12 (fun t27 h28 => ?_)
    exact j_zreturn E rfl dX4_readLine_15
theorem ok_X4_readLine {g : GC} (hg : isGX g) (hI : gI g) (N : Nat) (h : HP) : Ok g yX4_readLine mX4_readLine [.ref (g.2.2.1 27), .ref (g.2.2.1 1), .ref (g.2.2.1 3)] h (xX4_readLine N h) := Ok.of hI (by decide) rfl (Nat.le_of_ble_eq_true rfl) (fun X E => jxX4_readLine hg N E h)
set_option maxRecDepth 20000 in
set_option maxHeartbeats 4000000 in
theorem jxX4_readFrom_45 {g : GC} (hg : isGX g) {X : MX} (N : Nat) (E : JE g mX4_readFrom X) (K7 : Int32 → HP → Option (Int32 × HP)) (hK7 : ∀ (a3 : Int32) (h : HP), J g mX4_readFrom X 7 [(0, .ref (g.2.2.1 27)), (1, .ref (g.2.2.1 1)), (2, .ref (g.2.2.1 3)), (3, .int a3)] [] h (K7 a3 h)) (a3 : Int32) (s0 : Int32) (h : HP) : J g mX4_readFrom X 45 [(0, .ref (g.2.2.1 27)), (1, .ref (g.2.2.1 1)), (2, .ref (g.2.2.1 3)), (3, .int a3)] [.int s0] h (xX4_readFrom_45 N K7 a3 s0 h) := by
  unfold xX4_readFrom_45
  refine j_istore0 E dX4_readFrom_45 (Nat.le_of_ble_eq_true rfl) [(5, .int s0), (0, .ref (g.2.2.1 27)), (1, .ref (g.2.2.1 1)), (2, .ref (g.2.2.1 3)), (3, .int a3)] rfl ?_
  refine j_iload E dX4_readFrom_47 0 rfl ?_
  refine j_if_ne E 62 dX4_readFrom_49 rfl ?_ ?_
  · refine j_iload_n E dX4_readFrom_62 4 rfl ?_
    refine j_bipush E (v := 20) dX4_readFrom_63 (by decide) ?_
    refine j_cmp_ne E 78 dX4_readFrom_65 rfl ?_ ?_
    · refine j_aload_n E dX4_readFrom_78 1 rfl ?_
      refine j_aload_n E dX4_readFrom_79 2 rfl ?_
      refine j_aload_n E dX4_readFrom_80 3 rfl ?_
      refine j_callvI (As := [.ref (g.2.2.1 1), .ref (g.2.2.1 3)]) (st := []) E (ok_X4_readLine hg E.2.2.2.2.2.2.2.1 N h) (cX_27 hg) (cl_X4_42) (⟨Nat.le_of_ble_eq_true rfl, Nat.le_of_ble_eq_true rfl⟩) rfl rfl (Nat.le_of_ble_eq_true rfl) dX4_readFrom_81 (fun t1 h2 => ?_)
      refine j_if_ne E 89 dX4_readFrom_84 rfl ?_ ?_
      · refine j_aload_n E dX4_readFrom_89 2 rfl ?_
        refine j_callvI (As := []) (st := []) E (ok_X7_isAtEnd hg E.2.2.2.2.2.2.2.1 h2) (cX_1 hg) (cl_X4_46) (⟨Nat.le_of_ble_eq_true rfl, Nat.le_of_ble_eq_true rfl⟩) rfl rfl (Nat.le_of_ble_eq_true rfl) dX4_readFrom_90 (fun t3 h4 => ?_)
        refine j_if_eq E 98 dX4_readFrom_93 rfl ?_ ?_
        · refine j_aload_n E dX4_readFrom_98 2 rfl ?_
          refine j_bipush E (v := 59) dX4_readFrom_99 (by decide) ?_
          refine j_callvI (As := [.int 59]) (st := []) E (ok_X7_demands hg E.2.2.2.2.2.2.2.1 59 h4) (cX_1 hg) (cl_X4_49) (⟨Nat.le_of_ble_eq_true rfl, Nat.le_of_ble_eq_true rfl⟩) rfl rfl (Nat.le_of_ble_eq_true rfl) dX4_readFrom_101 (fun t5 h6 => ?_)
          refine j_if_ne E 109 dX4_readFrom_104 rfl ?_ ?_
          · refine j_iinc E (c := 1) dX4_readFrom_109 4 rfl (by decide) (Nat.le_of_ble_eq_true rfl) (fun v7 => [(3, .int v7), (5, .int s0), (0, .ref (g.2.2.1 27)), (1, .ref (g.2.2.1 1)), (2, .ref (g.2.2.1 3))]) (fun _ => rfl) (fun v7 => ?_)
            refine j_goto E 7 dX4_readFrom_112 rfl ?_
            exact j_sub [2, 3, 4, 0] (lv1 := [(0, .ref (g.2.2.1 27)), (1, .ref (g.2.2.1 1)), (2, .ref (g.2.2.1 3)), (3, .int v7)]) rfl (hK7 v7 h6)
          · refine j_iconst E (v := 0) dX4_readFrom_107 (by decide) ?_
            exact j_zreturn E rfl dX4_readFrom_108
        · refine j_iconst E (v := 1) dX4_readFrom_96 (by decide) ?_
          exact j_zreturn E rfl dX4_readFrom_97
      · refine j_iconst E (v := 0) dX4_readFrom_87 (by decide) ?_
        exact j_zreturn E rfl dX4_readFrom_88
    · refine j_aload_n E dX4_readFrom_68 2 rfl ?_
      refine j_iconst E (v := 4) dX4_readFrom_69 (by decide) ?_
      refine j_aload_n E dX4_readFrom_70 2 rfl ?_
      refine j_geti E f_X4_35 (cX_1 hg) rfl dX4_readFrom_71 ?_
      refine j_callvI (As := [.int 4, .int (h.1 1 2)]) (st := []) E (ok_X7_refuse hg E.2.2.2.2.2.2.2.1 4 (h.1 1 2) h) (cX_1 hg) (cl_X4_38) (⟨Nat.le_of_ble_eq_true rfl, Nat.le_of_ble_eq_true rfl⟩) rfl rfl (Nat.le_of_ble_eq_true rfl) dX4_readFrom_74 (fun t8 h9 => ?_)
      exact j_zreturn E rfl dX4_readFrom_77
  · refine j_aload_n E dX4_readFrom_52 2 rfl ?_
    refine j_iconst E (v := 1) dX4_readFrom_53 (by decide) ?_
    refine j_aload_n E dX4_readFrom_54 2 rfl ?_
    refine j_geti E f_X4_35 (cX_1 hg) rfl dX4_readFrom_55 ?_
    refine j_callvI (As := [.int 1, .int (h.1 1 2)]) (st := []) E (ok_X7_refuse hg E.2.2.2.2.2.2.2.1 1 (h.1 1 2) h) (cX_1 hg) (cl_X4_38) (⟨Nat.le_of_ble_eq_true rfl, Nat.le_of_ble_eq_true rfl⟩) rfl rfl (Nat.le_of_ble_eq_true rfl) dX4_readFrom_58 (fun t10 h11 => ?_)
    exact j_zreturn E rfl dX4_readFrom_61
set_option maxRecDepth 20000 in
set_option maxHeartbeats 4000000 in
theorem jxX4_readFrom_40 {g : GC} (hg : isGX g) {X : MX} (N : Nat) (E : JE g mX4_readFrom X) (K7 : Int32 → HP → Option (Int32 × HP)) (hK7 : ∀ (a3 : Int32) (h : HP), J g mX4_readFrom X 7 [(0, .ref (g.2.2.1 27)), (1, .ref (g.2.2.1 1)), (2, .ref (g.2.2.1 3)), (3, .int a3)] [] h (K7 a3 h)) (a3 : Int32) (h : HP) : J g mX4_readFrom X 40 [(0, .ref (g.2.2.1 27)), (1, .ref (g.2.2.1 1)), (2, .ref (g.2.2.1 3)), (3, .int a3)] [] h (xX4_readFrom_40 N K7 a3 h) := by
  unfold xX4_readFrom_40
  refine j_iconst E (v := 1) dX4_readFrom_40 (by decide) ?_
  refine j_goto E 45 dX4_readFrom_41 rfl ?_
  exact jxX4_readFrom_45 hg N E K7 hK7 a3 1 h
set_option maxRecDepth 20000 in
set_option maxHeartbeats 4000000 in
theorem jxX4_readFrom_7 {g : GC} (hg : isGX g) {X : MX} (N : Nat) (E : JE g mX4_readFrom X) : ∀ (n : Nat) (a3 : Int32) (h : HP), J g mX4_readFrom X 7 [(0, .ref (g.2.2.1 27)), (1, .ref (g.2.2.1 1)), (2, .ref (g.2.2.1 3)), (3, .int a3)] [] h (xX4_readFrom_7 N n a3 h) := by
  intro n
  induction n with
  | zero => intro a3 h; exact j_none
  | succ n ih =>
    intro a3 h
    unfold xX4_readFrom_7
    refine j_iload_n E dX4_readFrom_7 3 rfl ?_
    refine j_bipush E (v := 20) dX4_readFrom_8 (by decide) ?_
    refine j_cmp_gt E 115 dX4_readFrom_10 rfl ?_ ?_
    · refine j_iconst E (v := 0) dX4_readFrom_115 (by decide) ?_
      exact j_zreturn E rfl dX4_readFrom_116
    · refine j_aload_n E dX4_readFrom_13 1 rfl ?_
      refine j_callvI (As := []) (st := []) E (ok_X7_peek hg E.2.2.2.2.2.2.2.1 h) (cX_1 hg) (cl_X4_25) (⟨Nat.le_of_ble_eq_true rfl, Nat.le_of_ble_eq_true rfl⟩) rfl rfl (Nat.le_of_ble_eq_true rfl) dX4_readFrom_14 (fun t1 h2 => ?_)
      refine j_istore0 E dX4_readFrom_17 (Nat.le_of_ble_eq_true rfl) [(4, .int t1), (0, .ref (g.2.2.1 27)), (1, .ref (g.2.2.1 1)), (2, .ref (g.2.2.1 3)), (3, .int a3)] rfl ?_
      refine j_aload_n E dX4_readFrom_19 2 rfl ?_
      refine j_callvI (As := []) (st := []) E (ok_X7_isAtCorner hg E.2.2.2.2.2.2.2.1 h2) (cX_1 hg) (cl_X4_31) (⟨Nat.le_of_ble_eq_true rfl, Nat.le_of_ble_eq_true rfl⟩) rfl rfl (Nat.le_of_ble_eq_true rfl) dX4_readFrom_20 (fun t3 h4 => ?_)
      refine j_if_ne E 40 dX4_readFrom_23 rfl ?_ ?_
      · exact j_sub [1, 2, 3, 4] (lv1 := [(0, .ref (g.2.2.1 27)), (1, .ref (g.2.2.1 1)), (2, .ref (g.2.2.1 3)), (3, .int a3)]) rfl (jxX4_readFrom_40 hg N E (xX4_readFrom_7 N n) ih a3 h4)
      · refine j_iload E dX4_readFrom_26 0 rfl ?_
        refine j_bipush E (v := 35) dX4_readFrom_28 (by decide) ?_
        refine j_cmp_eq E 40 dX4_readFrom_30 rfl ?_ ?_
        · exact j_sub [1, 2, 3, 4] (lv1 := [(0, .ref (g.2.2.1 27)), (1, .ref (g.2.2.1 1)), (2, .ref (g.2.2.1 3)), (3, .int a3)]) rfl (jxX4_readFrom_40 hg N E (xX4_readFrom_7 N n) ih a3 h4)
        · refine j_iload E dX4_readFrom_33 0 rfl ?_
          refine j_bipush E (v := 126) dX4_readFrom_35 (by decide) ?_
          refine j_cmp_ne E 44 dX4_readFrom_37 rfl ?_ ?_
          · refine j_iconst E (v := 0) dX4_readFrom_44 (by decide) ?_
            exact j_sub [1, 2, 3, 4] (lv1 := [(0, .ref (g.2.2.1 27)), (1, .ref (g.2.2.1 1)), (2, .ref (g.2.2.1 3)), (3, .int a3)]) rfl (jxX4_readFrom_45 hg N E (xX4_readFrom_7 N n) ih a3 0 h4)
          · exact j_sub [1, 2, 3, 4] (lv1 := [(0, .ref (g.2.2.1 27)), (1, .ref (g.2.2.1 1)), (2, .ref (g.2.2.1 3)), (3, .int a3)]) rfl (jxX4_readFrom_40 hg N E (xX4_readFrom_7 N n) ih a3 h4)
set_option maxRecDepth 20000 in
set_option maxHeartbeats 4000000 in
theorem jxX4_readFrom {g : GC} (hg : isGX g) {X : MX} (N : Nat) (E : JE g mX4_readFrom X) (h : HP) : J g mX4_readFrom X 0 [(0, .ref (g.2.2.1 27)), (1, .ref (g.2.2.1 1)), (2, .ref (g.2.2.1 3))] [] h (xX4_readFrom N h) := by
  unfold xX4_readFrom
  refine j_aload_n E dX4_readFrom_0 0 rfl ?_
  refine j_iconst E (v := 0) dX4_readFrom_1 (by decide) ?_
  refine j_puti E fp_X4_21 (cX_27 hg) rfl dX4_readFrom_2 (fun h1 => ?_)
  refine j_iconst E (v := 0) dX4_readFrom_5 (by decide) ?_
  refine j_istore0_n E dX4_readFrom_6 (Nat.le_of_ble_eq_true rfl) [(3, .int 0), (0, .ref (g.2.2.1 27)), (1, .ref (g.2.2.1 1)), (2, .ref (g.2.2.1 3))] rfl ?_
  exact j_sub [1, 2, 3, 0] (lv1 := [(0, .ref (g.2.2.1 27)), (1, .ref (g.2.2.1 1)), (2, .ref (g.2.2.1 3)), (3, .int 0)]) rfl (jxX4_readFrom_7 hg N E N 0 h1)
theorem ok_X4_readFrom {g : GC} (hg : isGX g) (hI : gI g) (N : Nat) (h : HP) : Ok g yX4_readFrom mX4_readFrom [.ref (g.2.2.1 27), .ref (g.2.2.1 1), .ref (g.2.2.1 3)] h (xX4_readFrom N h) := Ok.of hI (by decide) rfl (Nat.le_of_ble_eq_true rfl) (fun X E => jxX4_readFrom hg N E h)
set_option maxRecDepth 20000 in
set_option maxHeartbeats 4000000 in
theorem jxX4_carryOut_183 {g : GC} (hg : isGX g) {X : MX} (N : Nat) (E : JE g mX4_carryOut X) (K2 : Int32 → HP → Option (Int32 × HP)) (hK2 : ∀ (a2 : Int32) (h : HP), J g mX4_carryOut X 2 [(0, .ref (g.2.2.1 27)), (1, .ref (g.2.2.1 31)), (2, .int a2)] [] h (K2 a2 h)) (a2 : Int32) (h : HP) : J g mX4_carryOut X 183 [(0, .ref (g.2.2.1 27)), (1, .ref (g.2.2.1 31)), (2, .int a2)] [] h (xX4_carryOut_183 N K2 a2 h) := by
  unfold xX4_carryOut_183
  refine j_iinc E (c := 1) dX4_carryOut_183 2 rfl (by decide) (Nat.le_of_ble_eq_true rfl) (fun v1 => [(2, .int v1), (0, .ref (g.2.2.1 27)), (1, .ref (g.2.2.1 31))]) (fun _ => rfl) (fun v1 => ?_)
  refine j_goto E 2 dX4_carryOut_186 rfl ?_
  exact j_sub [1, 2, 0] (lv1 := [(0, .ref (g.2.2.1 27)), (1, .ref (g.2.2.1 31)), (2, .int v1)]) rfl (hK2 v1 h)
set_option maxRecDepth 20000 in
set_option maxHeartbeats 4000000 in
theorem jxX4_carryOut_2 {g : GC} (hg : isGX g) {X : MX} (N : Nat) (E : JE g mX4_carryOut X) : ∀ (n : Nat) (a2 : Int32) (h : HP), J g mX4_carryOut X 2 [(0, .ref (g.2.2.1 27)), (1, .ref (g.2.2.1 31)), (2, .int a2)] [] h (xX4_carryOut_2 N n a2 h) := by
  intro n
  induction n with
  | zero => intro a2 h; exact j_none
  | succ n ih =>
    intro a2 h
    unfold xX4_carryOut_2
    refine j_iload_n E dX4_carryOut_2 2 rfl ?_
    refine j_aload_n E dX4_carryOut_3 0 rfl ?_
    refine j_geti E f_X4_21 (cX_27 hg) rfl dX4_carryOut_4 ?_
    refine j_cmp_ge E 189 dX4_carryOut_7 rfl ?_ ?_
    · exact j_vreturn E rfl dX4_carryOut_189
    · refine j_aload_n E dX4_carryOut_10 0 rfl ?_
      refine j_getr E f_X4_15 (cX_27 hg) 29 rfl dX4_carryOut_11 ?_
      refine j_iload_n E dX4_carryOut_14 2 rfl ?_
      refine j_iald E (cX_29 hg) dX4_carryOut_15 (fun t1 => ?_)
      refine j_istore0_n E dX4_carryOut_16 (Nat.le_of_ble_eq_true rfl) [(3, .int t1), (0, .ref (g.2.2.1 27)), (1, .ref (g.2.2.1 31)), (2, .int a2)] rfl ?_
      refine j_aload_n E dX4_carryOut_17 1 rfl ?_
      refine j_getr E f_X4_9 (cX_27 hg) 28 rfl dX4_carryOut_18 ?_
      refine j_iload_n E dX4_carryOut_21 3 rfl ?_
      refine j_iald E (cX_28 hg) dX4_carryOut_22 (fun t2 => ?_)
      refine j_look (off := 118) E 33 141 dX4_carryOut_23 (by decide) (by decide) rfl ?_ (fun hx33 => ?_)
      · refine j_aload_n E dX4_carryOut_141 2 rfl ?_
        refine j_dup E dX4_carryOut_142 rfl ?_
        refine j_geti E f_X4_100 (cX_31 hg) rfl dX4_carryOut_143 ?_
        refine j_iconst E (v := 1) dX4_carryOut_146 (by decide) ?_
        refine j_iload_n E dX4_carryOut_147 0 rfl ?_
        refine j_ishl E dX4_carryOut_148 ?_
        refine j_iconst E (v := (-1)) dX4_carryOut_149 (by decide) ?_
        refine j_ixor E dX4_carryOut_150 ?_
        refine j_iand E dX4_carryOut_151 ?_
        refine j_puti E fp_X4_100 (cX_31 hg) rfl dX4_carryOut_152 (fun h3 => ?_)
        refine j_goto E 183 dX4_carryOut_155 rfl ?_
        exact j_sub [1, 2, 3] (lv1 := [(0, .ref (g.2.2.1 27)), (1, .ref (g.2.2.1 31)), (2, .int a2)]) rfl (jxX4_carryOut_183 hg N E (xX4_carryOut_2 N n) ih a2 h3)
      refine j_look (off := 64) E 43 87 dX4_carryOut_23 (by decide) (by decide) rfl ?_ (fun hx43 => ?_)
      · refine j_aload_n E dX4_carryOut_87 2 rfl ?_
        refine j_getr E f_X4_88 (cX_31 hg) 32 rfl dX4_carryOut_88 ?_
        refine j_iload_n E dX4_carryOut_91 0 rfl ?_
        refine j_sipush E (v := 9999) dX4_carryOut_92 (by decide) ?_
        refine j_aload_n E dX4_carryOut_95 2 rfl ?_
        refine j_getr E f_X4_88 (cX_31 hg) 32 rfl dX4_carryOut_96 ?_
        refine j_iload_n E dX4_carryOut_99 0 rfl ?_
        refine j_iald E (cX_32 hg) dX4_carryOut_100 (fun t4 => ?_)
        refine j_aload_n E dX4_carryOut_101 1 rfl ?_
        refine j_getr E f_X4_18 (cX_27 hg) 30 rfl dX4_carryOut_102 ?_
        refine j_iload_n E dX4_carryOut_105 3 rfl ?_
        refine j_iald E (cX_30 hg) dX4_carryOut_106 (fun t5 => ?_)
        refine j_iadd E dX4_carryOut_107 ?_
        refine j_min2 E ml_X4_91 (Nat.le_of_ble_eq_true rfl) (Nat.le_of_ble_eq_true rfl) dX4_carryOut_108 ?_
        refine j_iast E (cX_32 hg) dX4_carryOut_111 (fun h6 => ?_)
        refine j_goto E 183 dX4_carryOut_112 rfl ?_
        exact j_sub [1, 2, 3] (lv1 := [(0, .ref (g.2.2.1 27)), (1, .ref (g.2.2.1 31)), (2, .int a2)]) rfl (jxX4_carryOut_183 hg N E (xX4_carryOut_2 N n) ih a2 h6)
      refine j_look (off := 92) E 45 115 dX4_carryOut_23 (by decide) (by decide) rfl ?_ (fun hx45 => ?_)
      · refine j_aload_n E dX4_carryOut_115 2 rfl ?_
        refine j_getr E f_X4_88 (cX_31 hg) 32 rfl dX4_carryOut_116 ?_
        refine j_iload_n E dX4_carryOut_119 0 rfl ?_
        refine j_iconst E (v := 0) dX4_carryOut_120 (by decide) ?_
        refine j_aload_n E dX4_carryOut_121 2 rfl ?_
        refine j_getr E f_X4_88 (cX_31 hg) 32 rfl dX4_carryOut_122 ?_
        refine j_iload_n E dX4_carryOut_125 0 rfl ?_
        refine j_iald E (cX_32 hg) dX4_carryOut_126 (fun t7 => ?_)
        refine j_aload_n E dX4_carryOut_127 1 rfl ?_
        refine j_getr E f_X4_18 (cX_27 hg) 30 rfl dX4_carryOut_128 ?_
        refine j_iload_n E dX4_carryOut_131 3 rfl ?_
        refine j_iald E (cX_30 hg) dX4_carryOut_132 (fun t8 => ?_)
        refine j_isub E dX4_carryOut_133 ?_
        refine j_max2 E ml_X4_97 (Nat.le_of_ble_eq_true rfl) (Nat.le_of_ble_eq_true rfl) dX4_carryOut_134 ?_
        refine j_iast E (cX_32 hg) dX4_carryOut_137 (fun h9 => ?_)
        refine j_goto E 183 dX4_carryOut_138 rfl ?_
        exact j_sub [1, 2, 3] (lv1 := [(0, .ref (g.2.2.1 27)), (1, .ref (g.2.2.1 31)), (2, .int a2)]) rfl (jxX4_carryOut_183 hg N E (xX4_carryOut_2 N n) ih a2 h9)
      refine j_look (off := 135) E 63 158 dX4_carryOut_23 (by decide) (by decide) rfl ?_ (fun hx63 => ?_)
      · refine j_aload_n E dX4_carryOut_158 2 rfl ?_
        refine j_dup E dX4_carryOut_159 rfl ?_
        refine j_geti E f_X4_100 (cX_31 hg) rfl dX4_carryOut_160 ?_
        refine j_iconst E (v := 1) dX4_carryOut_163 (by decide) ?_
        refine j_iload_n E dX4_carryOut_164 0 rfl ?_
        refine j_ishl E dX4_carryOut_165 ?_
        refine j_ior E dX4_carryOut_166 ?_
        refine j_puti E fp_X4_100 (cX_31 hg) rfl dX4_carryOut_167 (fun h10 => ?_)
        refine j_goto E 183 dX4_carryOut_170 rfl ?_
        exact j_sub [1, 2, 3] (lv1 := [(0, .ref (g.2.2.1 27)), (1, .ref (g.2.2.1 31)), (2, .int a2)]) rfl (jxX4_carryOut_183 hg N E (xX4_carryOut_2 N n) ih a2 h10)
      refine j_look (off := 49) E 64 72 dX4_carryOut_23 (by decide) (by decide) rfl ?_ (fun hx64 => ?_)
      · refine j_aload_n E dX4_carryOut_72 2 rfl ?_
        refine j_getr E f_X4_83 (cX_31 hg) 33 rfl dX4_carryOut_73 ?_
        refine j_iload_n E dX4_carryOut_76 0 rfl ?_
        refine j_aload_n E dX4_carryOut_77 1 rfl ?_
        refine j_getr E f_X4_18 (cX_27 hg) 30 rfl dX4_carryOut_78 ?_
        refine j_iload_n E dX4_carryOut_81 3 rfl ?_
        refine j_iald E (cX_30 hg) dX4_carryOut_82 (fun t11 => ?_)
        refine j_iast E (cX_33 hg) dX4_carryOut_83 (fun h12 => ?_)
        refine j_goto E 183 dX4_carryOut_84 rfl ?_
        exact j_sub [1, 2, 3] (lv1 := [(0, .ref (g.2.2.1 27)), (1, .ref (g.2.2.1 31)), (2, .int a2)]) rfl (jxX4_carryOut_183 hg N E (xX4_carryOut_2 N n) ih a2 h12)
      refine j_ldef E 173 [33, 43, 45, 63, 64] (by intro vq hq; simp only [List.mem_cons, List.not_mem_nil, or_false] at hq; rcases hq with rfl | rfl | rfl | rfl | rfl <;> assumption) dX4_carryOut_23 (by decide) (by decide) rfl ?_
      refine j_aload_n E dX4_carryOut_173 2 rfl ?_
      refine j_aload_n E dX4_carryOut_174 1 rfl ?_
      refine j_getr E f_X4_18 (cX_27 hg) 30 rfl dX4_carryOut_175 ?_
      refine j_iload_n E dX4_carryOut_178 3 rfl ?_
      refine j_iald E (cX_30 hg) dX4_carryOut_179 (fun t13 => ?_)
      refine j_puti E fp_X4_103 (cX_31 hg) rfl dX4_carryOut_180 (fun h14 => ?_)
      exact j_sub [1, 2, 3] (lv1 := [(0, .ref (g.2.2.1 27)), (1, .ref (g.2.2.1 31)), (2, .int a2)]) rfl (jxX4_carryOut_183 hg N E (xX4_carryOut_2 N n) ih a2 h14)
set_option maxRecDepth 20000 in
set_option maxHeartbeats 4000000 in
theorem jxX4_carryOut {g : GC} (hg : isGX g) {X : MX} (N : Nat) (E : JE g mX4_carryOut X) (h : HP) : J g mX4_carryOut X 0 [(0, .ref (g.2.2.1 27)), (1, .ref (g.2.2.1 31))] [] h (xX4_carryOut N h) := by
  unfold xX4_carryOut
  refine j_iconst E (v := 0) dX4_carryOut_0 (by decide) ?_
  refine j_istore0_n E dX4_carryOut_1 (Nat.le_of_ble_eq_true rfl) [(2, .int 0), (0, .ref (g.2.2.1 27)), (1, .ref (g.2.2.1 31))] rfl ?_
  exact j_sub [1, 2, 0] (lv1 := [(0, .ref (g.2.2.1 27)), (1, .ref (g.2.2.1 31)), (2, .int 0)]) rfl (jxX4_carryOut_2 hg N E N 0 h)
theorem ok_X4_carryOut {g : GC} (hg : isGX g) (hI : gI g) (N : Nat) (h : HP) : Ok g yX4_carryOut mX4_carryOut [.ref (g.2.2.1 27), .ref (g.2.2.1 31)] h (xX4_carryOut N h) := Ok.of hI (by decide) rfl (Nat.le_of_ble_eq_true rfl) (fun X E => jxX4_carryOut hg N E h)
set_option maxRecDepth 20000 in
set_option maxHeartbeats 4000000 in
theorem jxX5_settle {g : GC} (hg : isGX g) {X : MX} (N : Nat) (E : JE g mX5_settle X) (a1 : Int32) (a2 : Int32) (h : HP) : J g mX5_settle X 0 [(0, .ref (g.2.2.1 31)), (1, .int a1), (2, .int a2)] [] h (xX5_settle N a1 a2 h) := by
  unfold xX5_settle
  refine j_aload_n E dX5_settle_0 0 rfl ?_
  refine j_getr E f_X5_9 (cX_31 hg) 32 rfl dX5_settle_1 ?_
  refine j_iconst E (v := 0) dX5_settle_4 (by decide) ?_
  refine j_callsV (As := [.ref (g.2.2.1 32), .int 0]) (st := []) E (ok_J7_fill_53178 hg E.2.2.2.2.2.2.2.1 N 16 32 (cX_32 hg) 0 h) (cl_X5_28) (⟨Nat.le_of_ble_eq_true rfl, Nat.le_of_ble_eq_true rfl⟩) rfl rfl (Nat.le_of_ble_eq_true rfl) dX5_settle_5 (fun t1 h2 => ?_)
  refine j_aload_n E dX5_settle_8 0 rfl ?_
  refine j_getr E f_X5_15 (cX_31 hg) 33 rfl dX5_settle_9 ?_
  refine j_iconst E (v := 0) dX5_settle_12 (by decide) ?_
  refine j_callsV (As := [.ref (g.2.2.1 33), .int 0]) (st := []) E (ok_J7_fill_53178 hg E.2.2.2.2.2.2.2.1 N 16 33 (cX_33 hg) 0 h2) (cl_X5_28) (⟨Nat.le_of_ble_eq_true rfl, Nat.le_of_ble_eq_true rfl⟩) rfl rfl (Nat.le_of_ble_eq_true rfl) dX5_settle_13 (fun t3 h4 => ?_)
  refine j_aload_n E dX5_settle_16 0 rfl ?_
  refine j_getr E f_X5_18 (cX_31 hg) 34 rfl dX5_settle_17 ?_
  refine j_iconst E (v := 0) dX5_settle_20 (by decide) ?_
  refine j_callsV (As := [.ref (g.2.2.1 34), .int 0]) (st := []) E (ok_J7_fill_53178 hg E.2.2.2.2.2.2.2.1 N 16 34 (cX_34 hg) 0 h4) (cl_X5_28) (⟨Nat.le_of_ble_eq_true rfl, Nat.le_of_ble_eq_true rfl⟩) rfl rfl (Nat.le_of_ble_eq_true rfl) dX5_settle_21 (fun t5 h6 => ?_)
  refine j_aload_n E dX5_settle_24 0 rfl ?_
  refine j_iload_n E dX5_settle_25 1 rfl ?_
  refine j_puti E fp_X5_34 (cX_31 hg) rfl dX5_settle_26 (fun h7 => ?_)
  refine j_aload_n E dX5_settle_29 0 rfl ?_
  refine j_iload_n E dX5_settle_30 2 rfl ?_
  refine j_puti E fp_X5_37 (cX_31 hg) rfl dX5_settle_31 (fun h8 => ?_)
  refine j_aload_n E dX5_settle_34 0 rfl ?_
  refine j_iconst E (v := 1) dX5_settle_35 (by decide) ?_
  refine j_iload_n E dX5_settle_36 2 rfl ?_
  refine j_ishl E dX5_settle_37 ?_
  refine j_iconst E (v := 1) dX5_settle_38 (by decide) ?_
  refine j_isub E dX5_settle_39 ?_
  refine j_puti E fp_X5_40 (cX_31 hg) rfl dX5_settle_40 (fun h9 => ?_)
  exact j_vreturn E rfl dX5_settle_43
