set_option maxRecDepth 20000 in
set_option maxHeartbeats 4000000 in
theorem jxX11_tried_41 {g : GC} (hg : isGM g) {X : MX} (N : Nat) (E : JE g mX11_tried X) (h : HP) : J g mX11_tried X 41 [] [] h (xX11_tried_41 N h) := by
  unfold xX11_tried_41
  refine j_iconst E (v := (-1)) dX11_tried_41 (by decide) ?_
  exact j_ireturn E rfl dX11_tried_42
set_option maxRecDepth 20000 in
set_option maxHeartbeats 4000000 in
theorem jxX11_tried_149 {g : GC} (hg : isGM g) {X : MX} (N : Nat) (E : JE g mX11_tried X) (a3 : Int32) (h : HP) : J g mX11_tried X 149 [(0, .ref (g.2.2.1 0)), (3, .int a3)] [] h (xX11_tried_149 N a3 h) := by
  unfold xX11_tried_149
  refine j_aload_n E dX11_tried_149 0 rfl ?_
  refine j_getr E f_X11_13 (cM_0 hg) 2 rfl dX11_tried_150 ?_
  refine j_aload_n E dX11_tried_153 0 rfl ?_
  refine j_getr E f_X11_7 (cM_0 hg) 1 rfl dX11_tried_154 ?_
  refine j_callsV (As := [.ref (g.2.2.1 2), .ref (g.2.2.1 1)]) (st := []) E (ok_X11_copies hg E.2.2.2.2.2.2.2.1 N 2 1 (cM_2 hg) (cM_1 hg) h) (cl_X11_298) (⟨Nat.le_of_ble_eq_true rfl, Nat.le_of_ble_eq_true rfl⟩) rfl rfl (Nat.le_of_ble_eq_true rfl) dX11_tried_157 (fun t1 h2 => ?_)
  refine j_iload_n E dX11_tried_160 1 rfl ?_
  exact j_ireturn E rfl dX11_tried_161
set_option maxRecDepth 20000 in
set_option maxHeartbeats 4000000 in
theorem jxX11_tried_148 {g : GC} (hg : isGM g) {X : MX} (N : Nat) (E : JE g mX11_tried X) (s0 : Int32) (h : HP) : J g mX11_tried X 148 [(0, .ref (g.2.2.1 0))] [.int s0] h (xX11_tried_148 N s0 h) := by
  unfold xX11_tried_148
  refine j_istore0_n E dX11_tried_148 (Nat.le_of_ble_eq_true rfl) [(3, .int s0), (0, .ref (g.2.2.1 0))] rfl ?_
  exact j_sub [1, 0] (lv1 := [(0, .ref (g.2.2.1 0)), (3, .int s0)]) rfl (jxX11_tried_149 hg N E s0 h)
set_option maxRecDepth 20000 in
set_option maxHeartbeats 4000000 in
theorem jxX11_tried_43 {g : GC} (hg : isGM g) {X : MX} (N : Nat) (E : JE g mX11_tried X) (a1 : Int32) (a2 : Int32) (h : HP) : J g mX11_tried X 43 [(0, .ref (g.2.2.1 0)), (1, .int a1), (2, .int a2)] [] h (xX11_tried_43 N a1 a2 h) := by
  unfold xX11_tried_43
  refine j_aload_n E dX11_tried_43 0 rfl ?_
  refine j_getr E f_X11_7 (cM_0 hg) 1 rfl dX11_tried_44 ?_
  refine j_aload_n E dX11_tried_47 0 rfl ?_
  refine j_getr E f_X11_13 (cM_0 hg) 2 rfl dX11_tried_48 ?_
  refine j_callsV (As := [.ref (g.2.2.1 1), .ref (g.2.2.1 2)]) (st := []) E (ok_X11_copies hg E.2.2.2.2.2.2.2.1 N 1 2 (cM_1 hg) (cM_2 hg) h) (cl_X11_298) (⟨Nat.le_of_ble_eq_true rfl, Nat.le_of_ble_eq_true rfl⟩) rfl rfl (Nat.le_of_ble_eq_true rfl) dX11_tried_51 (fun t1 h2 => ?_)
  refine j_aload_n E dX11_tried_54 0 rfl ?_
  refine j_iload_n E dX11_tried_55 1 rfl ?_
  refine j_callvV (As := [.int a1]) (st := []) E (ok_X11_minutesGo hg E.2.2.2.2.2.2.2.1 N a1 h2) (cM_0 hg) (cl_X11_342) (⟨Nat.le_of_ble_eq_true rfl, Nat.le_of_ble_eq_true rfl⟩) rfl rfl (Nat.le_of_ble_eq_true rfl) dX11_tried_56 (fun t3 h4 => ?_)
  refine j_iload_n E dX11_tried_59 2 rfl ?_
  refine j_tab E 0 88 dX11_tried_60 (by decide) (by decide) rfl rfl ?_ (fun hx0 => ?_)
  · refine j_aload_n E dX11_tried_88 0 rfl ?_
    refine j_geti E f_X11_327 (cM_0 hg) rfl dX11_tried_89 ?_
    refine j_istore_n E dX11_tried_92 (Nat.le_of_ble_eq_true rfl) (fun v5 => [(3, .int v5), (0, .ref (g.2.2.1 0)), (1, .int a1), (2, .int a2)]) (fun _ => rfl) (fun v5 => ?_)
    refine j_goto E 149 dX11_tried_93 rfl ?_
    exact j_sub [1, 0] (lv1 := [(0, .ref (g.2.2.1 0)), (3, .int v5)]) rfl (jxX11_tried_149 hg N E v5 h4)
  refine j_tab E 1 96 dX11_tried_60 (by decide) (by decide) rfl rfl ?_ (fun hx1 => ?_)
  · refine j_aload_n E dX11_tried_96 0 rfl ?_
    refine j_getr E f_X11_7 (cM_0 hg) 1 rfl dX11_tried_97 ?_
    refine j_bipush E (v := 72) dX11_tried_100 (by decide) ?_
    refine j_iald E (cM_1 hg) dX11_tried_102 (fun t6 => ?_)
    refine j_istore0_n E dX11_tried_103 (Nat.le_of_ble_eq_true rfl) [(3, .int t6), (0, .ref (g.2.2.1 0)), (1, .int a1), (2, .int a2)] rfl ?_
    refine j_goto E 149 dX11_tried_104 rfl ?_
    exact j_sub [1, 0] (lv1 := [(0, .ref (g.2.2.1 0)), (3, .int t6)]) rfl (jxX11_tried_149 hg N E t6 h4)
  refine j_tab E 2 107 dX11_tried_60 (by decide) (by decide) rfl rfl ?_ (fun hx2 => ?_)
  · refine j_aload_n E dX11_tried_107 0 rfl ?_
    refine j_iconst E (v := 0) dX11_tried_108 (by decide) ?_
    refine j_callvI (As := [.int 0]) (st := []) E (ok_X11_sumOf hg E.2.2.2.2.2.2.2.1 N 0 h4) (cM_0 hg) (cl_X11_345) (⟨Nat.le_of_ble_eq_true rfl, Nat.le_of_ble_eq_true rfl⟩) rfl rfl (Nat.le_of_ble_eq_true rfl) dX11_tried_109 (fun t7 h8 => ?_)
    refine j_istore0_n E dX11_tried_112 (Nat.le_of_ble_eq_true rfl) [(3, .int t7), (0, .ref (g.2.2.1 0)), (1, .int a1), (2, .int a2)] rfl ?_
    refine j_goto E 149 dX11_tried_113 rfl ?_
    exact j_sub [1, 0] (lv1 := [(0, .ref (g.2.2.1 0)), (3, .int t7)]) rfl (jxX11_tried_149 hg N E t7 h8)
  refine j_tdef E 116 [0, 1, 2] (by intro vq hq; simp only [List.mem_cons, List.not_mem_nil, or_false] at hq; rcases hq with rfl | rfl | rfl <;> assumption) dX11_tried_60 (by decide) (by decide) rfl ?_
  refine j_iload_n E dX11_tried_116 2 rfl ?_
  refine j_bipush E (v := 30) dX11_tried_117 (by decide) ?_
  refine j_cmp_ge E 136 dX11_tried_119 rfl ?_ ?_
  · refine j_aload_n E dX11_tried_136 0 rfl ?_
    refine j_getr E f_X11_7 (cM_0 hg) 1 rfl dX11_tried_137 ?_
    refine j_bipush E (v := 32) dX11_tried_140 (by decide) ?_
    refine j_iload_n E dX11_tried_142 2 rfl ?_
    refine j_iadd E dX11_tried_143 ?_
    refine j_bipush E (v := 30) dX11_tried_144 (by decide) ?_
    refine j_isub E dX11_tried_146 ?_
    refine j_iald E (cM_1 hg) dX11_tried_147 (fun t9 => ?_)
    exact j_sub [0] (lv1 := [(0, .ref (g.2.2.1 0))]) rfl (jxX11_tried_148 hg N E t9 h4)
  · refine j_aload_n E dX11_tried_122 0 rfl ?_
    refine j_getr E f_X11_7 (cM_0 hg) 1 rfl dX11_tried_123 ?_
    refine j_iconst E (v := 0) dX11_tried_126 (by decide) ?_
    refine j_iload_n E dX11_tried_127 2 rfl ?_
    refine j_iadd E dX11_tried_128 ?_
    refine j_bipush E (v := 10) dX11_tried_129 (by decide) ?_
    refine j_isub E dX11_tried_131 ?_
    refine j_iald E (cM_1 hg) dX11_tried_132 (fun t10 => ?_)
    refine j_goto E 148 dX11_tried_133 rfl ?_
    exact j_sub [0] (lv1 := [(0, .ref (g.2.2.1 0))]) rfl (jxX11_tried_148 hg N E t10 h4)
set_option maxRecDepth 20000 in
set_option maxHeartbeats 4000000 in
theorem jxX11_tried {g : GC} (hg : isGM g) {X : MX} (N : Nat) (E : JE g mX11_tried X) (a1 : Int32) (a2 : Int32) (h : HP) : J g mX11_tried X 0 [(0, .ref (g.2.2.1 0)), (1, .int a1), (2, .int a2)] [] h (xX11_tried N a1 a2 h) := by
  unfold xX11_tried
  refine j_iload_n E dX11_tried_0 1 rfl ?_
  refine j_iconst E (v := 1) dX11_tried_1 (by decide) ?_
  refine j_bipush E (v := 100) dX11_tried_2 (by decide) ?_
  refine j_callsI (As := [.int a1, .int 1, .int 100]) (st := []) E (ok_X11_in hg E.2.2.2.2.2.2.2.1 a1 1 100 h) (cl_X11_129) (⟨Nat.le_of_ble_eq_true rfl, Nat.le_of_ble_eq_true rfl⟩) rfl rfl (Nat.le_of_ble_eq_true rfl) dX11_tried_4 (fun t1 h2 => ?_)
  refine j_if_eq E 41 dX11_tried_7 rfl ?_ ?_
  · exact j_sub [] (lv1 := []) rfl (jxX11_tried_41 hg N E h2)
  · refine j_iload_n E dX11_tried_10 2 rfl ?_
    refine j_iconst E (v := 0) dX11_tried_11 (by decide) ?_
    refine j_iconst E (v := 2) dX11_tried_12 (by decide) ?_
    refine j_callsI (As := [.int a2, .int 0, .int 2]) (st := []) E (ok_X11_in hg E.2.2.2.2.2.2.2.1 a2 0 2 h2) (cl_X11_129) (⟨Nat.le_of_ble_eq_true rfl, Nat.le_of_ble_eq_true rfl⟩) rfl rfl (Nat.le_of_ble_eq_true rfl) dX11_tried_13 (fun t3 h4 => ?_)
    refine j_if_ne E 43 dX11_tried_16 rfl ?_ ?_
    · exact jxX11_tried_43 hg N E a1 a2 h4
    · refine j_aload_n E dX11_tried_19 0 rfl ?_
      refine j_iload_n E dX11_tried_20 2 rfl ?_
      refine j_bipush E (v := 10) dX11_tried_21 (by decide) ?_
      refine j_isub E dX11_tried_23 ?_
      refine j_callvI (As := [.int (a2 - 10)]) (st := []) E (ok_X11_isTold hg E.2.2.2.2.2.2.2.1 (a2 - 10) h4) (cM_0 hg) (cl_X11_141) (⟨Nat.le_of_ble_eq_true rfl, Nat.le_of_ble_eq_true rfl⟩) rfl rfl (Nat.le_of_ble_eq_true rfl) dX11_tried_24 (fun t5 h6 => ?_)
      refine j_if_ne E 43 dX11_tried_27 rfl ?_ ?_
      · exact jxX11_tried_43 hg N E a1 a2 h6
      · refine j_aload_n E dX11_tried_30 0 rfl ?_
        refine j_iload_n E dX11_tried_31 2 rfl ?_
        refine j_bipush E (v := 30) dX11_tried_32 (by decide) ?_
        refine j_isub E dX11_tried_34 ?_
        refine j_callvI (As := [.int (a2 - 30)]) (st := []) E (ok_X11_isTold hg E.2.2.2.2.2.2.2.1 (a2 - 30) h6) (cM_0 hg) (cl_X11_141) (⟨Nat.le_of_ble_eq_true rfl, Nat.le_of_ble_eq_true rfl⟩) rfl rfl (Nat.le_of_ble_eq_true rfl) dX11_tried_35 (fun t7 h8 => ?_)
        refine j_if_ne E 43 dX11_tried_38 rfl ?_ ?_
        · exact jxX11_tried_43 hg N E a1 a2 h8
        · exact j_sub [] (lv1 := []) rfl (jxX11_tried_41 hg N E h8)
theorem ok_X11_tried {g : GC} (hg : isGM g) (hI : gI g) (N : Nat) (a1 : Int32) (a2 : Int32) (h : HP) : Ok g yX11_tried mX11_tried [.ref (g.2.2.1 0), .int a1, .int a2] h (xX11_tried N a1 a2 h) := Ok.of hI (by decide) rfl (Nat.le_of_ble_eq_true rfl) (fun X E => jxX11_tried hg N E a1 a2 h)
set_option maxRecDepth 20000 in
set_option maxHeartbeats 4000000 in
theorem jxX11_dry_18 {g : GC} (hg : isGM g) {X : MX} (N : Nat) (E : JE g mX11_dry X) (h : HP) : J g mX11_dry X 18 [] [] h (xX11_dry_18 N h) := by
  unfold xX11_dry_18
  refine j_iconst E (v := (-1)) dX11_dry_18 (by decide) ?_
  exact j_ireturn E rfl dX11_dry_19
set_option maxRecDepth 20000 in
set_option maxHeartbeats 4000000 in
theorem jxX11_dry_113 {g : GC} (hg : isGM g) {X : MX} (N : Nat) (E : JE g mX11_dry X) (s0 : Int32) (h : HP) : J g mX11_dry X 113 [] [.int s0] h (xX11_dry_113 N s0 h) := by
  unfold xX11_dry_113
  exact j_ireturn E rfl dX11_dry_113
set_option maxRecDepth 20000 in
set_option maxHeartbeats 4000000 in
theorem jxX11_dry_89 {g : GC} (hg : isGM g) {X : MX} (N : Nat) (E : JE g mX11_dry X) (a3 : Int32) (s0 : Int32) (h : HP) : J g mX11_dry X 89 [(0, .ref (g.2.2.1 0)), (3, .int a3)] [.int s0] h (xX11_dry_89 N a3 s0 h) := by
  unfold xX11_dry_89
  refine j_istore0 E dX11_dry_89 (Nat.le_of_ble_eq_true rfl) [(4, .int s0), (0, .ref (g.2.2.1 0)), (3, .int a3)] rfl ?_
  refine j_aload_n E dX11_dry_91 1 rfl ?_
  refine j_getr E f_X11_13 (cM_0 hg) 2 rfl dX11_dry_92 ?_
  refine j_aload_n E dX11_dry_95 1 rfl ?_
  refine j_getr E f_X11_7 (cM_0 hg) 1 rfl dX11_dry_96 ?_
  refine j_callsV (As := [.ref (g.2.2.1 2), .ref (g.2.2.1 1)]) (st := []) E (ok_X11_copies hg E.2.2.2.2.2.2.2.1 N 2 1 (cM_2 hg) (cM_1 hg) h) (cl_X11_298) (⟨Nat.le_of_ble_eq_true rfl, Nat.le_of_ble_eq_true rfl⟩) rfl rfl (Nat.le_of_ble_eq_true rfl) dX11_dry_99 (fun t1 h2 => ?_)
  refine j_iload E dX11_dry_102 0 rfl ?_
  refine j_if_eq E 111 dX11_dry_104 rfl ?_ ?_
  · refine j_bipush E (v := (-2)) dX11_dry_111 (by decide) ?_
    exact j_sub [] (lv1 := []) rfl (jxX11_dry_113 hg N E (-2) h2)
  · refine j_iload_n E dX11_dry_107 2 rfl ?_
    refine j_goto E 113 dX11_dry_108 rfl ?_
    exact j_sub [] (lv1 := []) rfl (jxX11_dry_113 hg N E a3 h2)
set_option maxRecDepth 20000 in
set_option maxHeartbeats 4000000 in
theorem jxX11_dry_73 {g : GC} (hg : isGM g) {X : MX} (N : Nat) (E : JE g mX11_dry X) (a1 : Int32) (a3 : Int32) (h : HP) : J g mX11_dry X 73 [(0, .ref (g.2.2.1 0)), (1, .int a1), (3, .int a3)] [] h (xX11_dry_73 N a1 a3 h) := by
  unfold xX11_dry_73
  refine j_aload_n E dX11_dry_73 0 rfl ?_
  refine j_getr E f_X11_7 (cM_0 hg) 1 rfl dX11_dry_74 ?_
  refine j_iconst E (v := 0) dX11_dry_77 (by decide) ?_
  refine j_iload_n E dX11_dry_78 1 rfl ?_
  refine j_iadd E dX11_dry_79 ?_
  refine j_iald E (cM_1 hg) dX11_dry_80 (fun t1 => ?_)
  refine j_if_ne E 88 dX11_dry_81 rfl ?_ ?_
  · refine j_iconst E (v := 0) dX11_dry_88 (by decide) ?_
    exact j_sub [0, 2] (lv1 := [(0, .ref (g.2.2.1 0)), (3, .int a3)]) rfl (jxX11_dry_89 hg N E a3 0 h)
  · refine j_iconst E (v := 1) dX11_dry_84 (by decide) ?_
    refine j_goto E 89 dX11_dry_85 rfl ?_
    exact j_sub [0, 2] (lv1 := [(0, .ref (g.2.2.1 0)), (3, .int a3)]) rfl (jxX11_dry_89 hg N E a3 1 h)
set_option maxRecDepth 20000 in
set_option maxHeartbeats 4000000 in
theorem jxX11_dry_33 {g : GC} (hg : isGM g) {X : MX} (N : Nat) (E : JE g mX11_dry X) : ∀ (n : Nat) (a1 : Int32) (a2 : Int32) (a3 : Int32) (h : HP), J g mX11_dry X 33 [(0, .ref (g.2.2.1 0)), (1, .int a1), (2, .int a2), (3, .int a3)] [] h (xX11_dry_33 N n a1 a2 a3 h) := by
  intro n
  induction n with
  | zero => intro a1 a2 a3 h; exact j_none
  | succ n ih =>
    intro a1 a2 a3 h
    unfold xX11_dry_33
    refine j_aload_n E dX11_dry_33 0 rfl ?_
    refine j_getr E f_X11_7 (cM_0 hg) 1 rfl dX11_dry_34 ?_
    refine j_iconst E (v := 0) dX11_dry_37 (by decide) ?_
    refine j_iload_n E dX11_dry_38 1 rfl ?_
    refine j_iadd E dX11_dry_39 ?_
    refine j_iald E (cM_1 hg) dX11_dry_40 (fun t1 => ?_)
    refine j_if_le E 73 dX11_dry_41 rfl ?_ ?_
    · exact j_sub [0, 1, 3] (lv1 := [(0, .ref (g.2.2.1 0)), (1, .int a1), (3, .int a3)]) rfl (jxX11_dry_73 hg N E a1 a3 h)
    · refine j_iload_n E dX11_dry_44 3 rfl ?_
      refine j_iload_n E dX11_dry_45 2 rfl ?_
      refine j_cmp_ge E 73 dX11_dry_46 rfl ?_ ?_
      · exact j_sub [0, 1, 3] (lv1 := [(0, .ref (g.2.2.1 0)), (1, .int a1), (3, .int a3)]) rfl (jxX11_dry_73 hg N E a1 a3 h)
      · refine j_aload_n E dX11_dry_49 0 rfl ?_
        refine j_getr E f_X11_7 (cM_0 hg) 1 rfl dX11_dry_50 ?_
        refine j_bipush E (v := 73) dX11_dry_53 (by decide) ?_
        refine j_iald E (cM_1 hg) dX11_dry_55 (fun t2 => ?_)
        refine j_sipush E (v := 9999) dX11_dry_56 (by decide) ?_
        refine j_cmp_ge E 73 dX11_dry_59 rfl ?_ ?_
        · exact j_sub [0, 1, 3] (lv1 := [(0, .ref (g.2.2.1 0)), (1, .int a1), (3, .int a3)]) rfl (jxX11_dry_73 hg N E a1 a3 h)
        · refine j_aload_n E dX11_dry_62 0 rfl ?_
          refine j_callvV (As := []) (st := []) E (ok_X11_minuteGoes hg E.2.2.2.2.2.2.2.1 N h) (cM_0 hg) (cl_X11_339) (⟨Nat.le_of_ble_eq_true rfl, Nat.le_of_ble_eq_true rfl⟩) rfl rfl (Nat.le_of_ble_eq_true rfl) dX11_dry_63 (fun t3 h4 => ?_)
          refine j_iload_n E dX11_dry_66 3 rfl ?_
          refine j_iconst E (v := 1) dX11_dry_67 (by decide) ?_
          refine j_iadd E dX11_dry_68 ?_
          refine j_istore_n E dX11_dry_69 (Nat.le_of_ble_eq_true rfl) (fun v5 => [(3, .int v5), (0, .ref (g.2.2.1 0)), (1, .int a1), (2, .int a2)]) (fun _ => rfl) (fun v5 => ?_)
          refine j_goto E 33 dX11_dry_70 rfl ?_
          exact j_sub [1, 2, 3, 0] (lv1 := [(0, .ref (g.2.2.1 0)), (1, .int a1), (2, .int a2), (3, .int v5)]) rfl (ih a1 a2 v5 h4)
set_option maxRecDepth 20000 in
set_option maxHeartbeats 4000000 in
theorem jxX11_dry {g : GC} (hg : isGM g) {X : MX} (N : Nat) (E : JE g mX11_dry X) (a1 : Int32) (a2 : Int32) (h : HP) : J g mX11_dry X 0 [(0, .ref (g.2.2.1 0)), (1, .int a1), (2, .int a2)] [] h (xX11_dry N a1 a2 h) := by
  unfold xX11_dry
  refine j_aload_n E dX11_dry_0 0 rfl ?_
  refine j_iload_n E dX11_dry_1 1 rfl ?_
  refine j_callvI (As := [.int a1]) (st := []) E (ok_X11_isTold hg E.2.2.2.2.2.2.2.1 a1 h) (cM_0 hg) (cl_X11_141) (⟨Nat.le_of_ble_eq_true rfl, Nat.le_of_ble_eq_true rfl⟩) rfl rfl (Nat.le_of_ble_eq_true rfl) dX11_dry_2 (fun t1 h2 => ?_)
  refine j_if_eq E 18 dX11_dry_5 rfl ?_ ?_
  · exact j_sub [] (lv1 := []) rfl (jxX11_dry_18 hg N E h2)
  · refine j_iload_n E dX11_dry_8 2 rfl ?_
    refine j_iconst E (v := 1) dX11_dry_9 (by decide) ?_
    refine j_bipush E (v := 100) dX11_dry_10 (by decide) ?_
    refine j_callsI (As := [.int a2, .int 1, .int 100]) (st := []) E (ok_X11_in hg E.2.2.2.2.2.2.2.1 a2 1 100 h2) (cl_X11_129) (⟨Nat.le_of_ble_eq_true rfl, Nat.le_of_ble_eq_true rfl⟩) rfl rfl (Nat.le_of_ble_eq_true rfl) dX11_dry_12 (fun t3 h4 => ?_)
    refine j_if_ne E 20 dX11_dry_15 rfl ?_ ?_
    · refine j_aload_n E dX11_dry_20 0 rfl ?_
      refine j_getr E f_X11_7 (cM_0 hg) 1 rfl dX11_dry_21 ?_
      refine j_aload_n E dX11_dry_24 0 rfl ?_
      refine j_getr E f_X11_13 (cM_0 hg) 2 rfl dX11_dry_25 ?_
      refine j_callsV (As := [.ref (g.2.2.1 1), .ref (g.2.2.1 2)]) (st := []) E (ok_X11_copies hg E.2.2.2.2.2.2.2.1 N 1 2 (cM_1 hg) (cM_2 hg) h4) (cl_X11_298) (⟨Nat.le_of_ble_eq_true rfl, Nat.le_of_ble_eq_true rfl⟩) rfl rfl (Nat.le_of_ble_eq_true rfl) dX11_dry_28 (fun t5 h6 => ?_)
      refine j_iconst E (v := 0) dX11_dry_31 (by decide) ?_
      refine j_istore0_n E dX11_dry_32 (Nat.le_of_ble_eq_true rfl) [(3, .int 0), (0, .ref (g.2.2.1 0)), (1, .int a1), (2, .int a2)] rfl ?_
      exact j_sub [1, 2, 3, 0] (lv1 := [(0, .ref (g.2.2.1 0)), (1, .int a1), (2, .int a2), (3, .int 0)]) rfl (jxX11_dry_33 hg N E N a1 a2 0 h6)
    · exact j_sub [] (lv1 := []) rfl (jxX11_dry_18 hg N E h4)
theorem ok_X11_dry {g : GC} (hg : isGM g) (hI : gI g) (N : Nat) (a1 : Int32) (a2 : Int32) (h : HP) : Ok g yX11_dry mX11_dry [.ref (g.2.2.1 0), .int a1, .int a2] h (xX11_dry N a1 a2 h) := Ok.of hI (by decide) rfl (Nat.le_of_ble_eq_true rfl) (fun X E => jxX11_dry hg N E a1 a2 h)
set_option maxRecDepth 20000 in
set_option maxHeartbeats 4000000 in
theorem jxX11_cornerIs {g : GC} (hg : isGM g) {X : MX} (N : Nat) (E : JE g mX11_cornerIs X) (a1 : Int32) (a2 : Int32) (h : HP) : J g mX11_cornerIs X 0 [(0, .ref (g.2.2.1 0)), (1, .int a1), (2, .int a2)] [] h (xX11_cornerIs N a1 a2 h) := by
  unfold xX11_cornerIs
  refine j_aload_n E dX11_cornerIs_0 0 rfl ?_
  refine j_iload_n E dX11_cornerIs_1 1 rfl ?_
  refine j_callvI (As := [.int a1]) (st := []) E (ok_X11_isTold hg E.2.2.2.2.2.2.2.1 a1 h) (cM_0 hg) (cl_X11_141) (⟨Nat.le_of_ble_eq_true rfl, Nat.le_of_ble_eq_true rfl⟩) rfl rfl (Nat.le_of_ble_eq_true rfl) dX11_cornerIs_2 (fun t1 h2 => ?_)
  refine j_if_ne E 10 dX11_cornerIs_5 rfl ?_ ?_
  · refine j_iload_n E dX11_cornerIs_10 2 rfl ?_
    refine j_tab E 0 48 dX11_cornerIs_11 (by decide) (by decide) rfl rfl ?_ (fun hx0 => ?_)
    · refine j_aload_n E dX11_cornerIs_48 0 rfl ?_
      refine j_getr E f_X11_19 (cM_0 hg) 4 rfl dX11_cornerIs_49 ?_
      refine j_iload_n E dX11_cornerIs_52 1 rfl ?_
      refine j_iald E (cM_4 hg) dX11_cornerIs_53 (fun t3 => ?_)
      exact j_ireturn E rfl dX11_cornerIs_54
    refine j_tab E 1 55 dX11_cornerIs_11 (by decide) (by decide) rfl rfl ?_ (fun hx1 => ?_)
    · refine j_aload_n E dX11_cornerIs_55 0 rfl ?_
      refine j_getr E f_X11_7 (cM_0 hg) 1 rfl dX11_cornerIs_56 ?_
      refine j_iconst E (v := 0) dX11_cornerIs_59 (by decide) ?_
      refine j_iload_n E dX11_cornerIs_60 1 rfl ?_
      refine j_iadd E dX11_cornerIs_61 ?_
      refine j_iald E (cM_1 hg) dX11_cornerIs_62 (fun t4 => ?_)
      exact j_ireturn E rfl dX11_cornerIs_63
    refine j_tab E 2 64 dX11_cornerIs_11 (by decide) (by decide) rfl rfl ?_ (fun hx2 => ?_)
    · refine j_aload_n E dX11_cornerIs_64 0 rfl ?_
      refine j_getr E f_X11_7 (cM_0 hg) 1 rfl dX11_cornerIs_65 ?_
      refine j_bipush E (v := 16) dX11_cornerIs_68 (by decide) ?_
      refine j_iload_n E dX11_cornerIs_70 1 rfl ?_
      refine j_iadd E dX11_cornerIs_71 ?_
      refine j_iald E (cM_1 hg) dX11_cornerIs_72 (fun t5 => ?_)
      exact j_ireturn E rfl dX11_cornerIs_73
    refine j_tab E 3 74 dX11_cornerIs_11 (by decide) (by decide) rfl rfl ?_ (fun hx3 => ?_)
    · refine j_aload_n E dX11_cornerIs_74 0 rfl ?_
      refine j_getr E f_X11_7 (cM_0 hg) 1 rfl dX11_cornerIs_75 ?_
      refine j_bipush E (v := 32) dX11_cornerIs_78 (by decide) ?_
      refine j_iload_n E dX11_cornerIs_80 1 rfl ?_
      refine j_iadd E dX11_cornerIs_81 ?_
      refine j_iald E (cM_1 hg) dX11_cornerIs_82 (fun t6 => ?_)
      exact j_ireturn E rfl dX11_cornerIs_83
    refine j_tab E 4 84 dX11_cornerIs_11 (by decide) (by decide) rfl rfl ?_ (fun hx4 => ?_)
    · refine j_aload_n E dX11_cornerIs_84 0 rfl ?_
      refine j_iload_n E dX11_cornerIs_85 1 rfl ?_
      refine j_callvI (As := [.int a1]) (st := []) E (ok_X11_openOf hg E.2.2.2.2.2.2.2.1 N a1 h2) (cM_0 hg) (cl_X11_308) (⟨Nat.le_of_ble_eq_true rfl, Nat.le_of_ble_eq_true rfl⟩) rfl rfl (Nat.le_of_ble_eq_true rfl) dX11_cornerIs_86 (fun t7 h8 => ?_)
      exact j_ireturn E rfl dX11_cornerIs_89
    refine j_tab E 5 90 dX11_cornerIs_11 (by decide) (by decide) rfl rfl ?_ (fun hx5 => ?_)
    · refine j_aload_n E dX11_cornerIs_90 0 rfl ?_
      refine j_iload_n E dX11_cornerIs_91 1 rfl ?_
      refine j_callvI (As := [.int a1]) (st := []) E (ok_X11_nextTo hg E.2.2.2.2.2.2.2.1 N a1 h2) (cM_0 hg) (cl_X11_305) (⟨Nat.le_of_ble_eq_true rfl, Nat.le_of_ble_eq_true rfl⟩) rfl rfl (Nat.le_of_ble_eq_true rfl) dX11_cornerIs_92 (fun t9 h10 => ?_)
      exact j_ireturn E rfl dX11_cornerIs_95
    refine j_tdef E 96 [0, 1, 2, 3, 4, 5] (by intro vq hq; simp only [List.mem_cons, List.not_mem_nil, or_false] at hq; rcases hq with rfl | rfl | rfl | rfl | rfl | rfl <;> assumption) dX11_cornerIs_11 (by decide) (by decide) rfl ?_
    refine j_iconst E (v := (-1)) dX11_cornerIs_96 (by decide) ?_
    exact j_ireturn E rfl dX11_cornerIs_97
  · refine j_iconst E (v := (-1)) dX11_cornerIs_8 (by decide) ?_
    exact j_ireturn E rfl dX11_cornerIs_9
theorem ok_X11_cornerIs {g : GC} (hg : isGM g) (hI : gI g) (N : Nat) (a1 : Int32) (a2 : Int32) (h : HP) : Ok g yX11_cornerIs mX11_cornerIs [.ref (g.2.2.1 0), .int a1, .int a2] h (xX11_cornerIs N a1 a2 h) := Ok.of hI (by decide) rfl (Nat.le_of_ble_eq_true rfl) (fun X E => jxX11_cornerIs hg N E a1 a2 h)
set_option maxRecDepth 20000 in
set_option maxHeartbeats 4000000 in
theorem jxX11_pipeIs_75 {g : GC} (hg : isGM g) {X : MX} (E : JE g mX11_pipeIs X) (s0 : Int32) (h : HP) : J g mX11_pipeIs X 75 [] [.int s0] h (xX11_pipeIs_75 s0 h) := by
  unfold xX11_pipeIs_75
  exact j_ireturn E rfl dX11_pipeIs_75
set_option maxRecDepth 20000 in
set_option maxHeartbeats 4000000 in
theorem jxX11_pipeIs {g : GC} (hg : isGM g) {X : MX} (E : JE g mX11_pipeIs X) (a1 : Int32) (a2 : Int32) (h : HP) : J g mX11_pipeIs X 0 [(0, .ref (g.2.2.1 0)), (1, .int a1), (2, .int a2)] [] h (xX11_pipeIs a1 a2 h) := by
  unfold xX11_pipeIs
  refine j_iload_n E dX11_pipeIs_0 1 rfl ?_
  refine j_iconst E (v := 0) dX11_pipeIs_1 (by decide) ?_
  refine j_aload_n E dX11_pipeIs_2 0 rfl ?_
  refine j_geti E f_X11_145 (cM_0 hg) rfl dX11_pipeIs_3 ?_
  refine j_iconst E (v := 1) dX11_pipeIs_6 (by decide) ?_
  refine j_isub E dX11_pipeIs_7 ?_
  refine j_callsI (As := [.int a1, .int 0, .int ((h.1 0 8) - 1)]) (st := []) E (ok_X11_in hg E.2.2.2.2.2.2.2.1 a1 0 ((h.1 0 8) - 1) h) (cl_X11_129) (⟨Nat.le_of_ble_eq_true rfl, Nat.le_of_ble_eq_true rfl⟩) rfl rfl (Nat.le_of_ble_eq_true rfl) dX11_pipeIs_8 (fun t1 h2 => ?_)
  refine j_if_ne E 16 dX11_pipeIs_11 rfl ?_ ?_
  · refine j_iload_n E dX11_pipeIs_16 2 rfl ?_
    refine j_if_ne E 29 dX11_pipeIs_17 rfl ?_ ?_
    · refine j_iload_n E dX11_pipeIs_29 2 rfl ?_
      refine j_iconst E (v := 1) dX11_pipeIs_30 (by decide) ?_
      refine j_cmp_ne E 43 dX11_pipeIs_31 rfl ?_ ?_
      · refine j_iload_n E dX11_pipeIs_43 2 rfl ?_
        refine j_iconst E (v := 2) dX11_pipeIs_44 (by decide) ?_
        refine j_cmp_ne E 57 dX11_pipeIs_45 rfl ?_ ?_
        · refine j_iload_n E dX11_pipeIs_57 2 rfl ?_
          refine j_iconst E (v := 3) dX11_pipeIs_58 (by decide) ?_
          refine j_cmp_ne E 74 dX11_pipeIs_59 rfl ?_ ?_
          · refine j_iconst E (v := (-1)) dX11_pipeIs_74 (by decide) ?_
            exact j_sub [] (lv1 := []) rfl (jxX11_pipeIs_75 hg E (-1) h2)
          · refine j_aload_n E dX11_pipeIs_62 0 rfl ?_
            refine j_getr E f_X11_7 (cM_0 hg) 1 rfl dX11_pipeIs_63 ?_
            refine j_bipush E (v := 48) dX11_pipeIs_66 (by decide) ?_
            refine j_iload_n E dX11_pipeIs_68 1 rfl ?_
            refine j_iadd E dX11_pipeIs_69 ?_
            refine j_iald E (cM_1 hg) dX11_pipeIs_70 (fun t3 => ?_)
            refine j_goto E 75 dX11_pipeIs_71 rfl ?_
            exact j_sub [] (lv1 := []) rfl (jxX11_pipeIs_75 hg E t3 h2)
        · refine j_aload_n E dX11_pipeIs_48 0 rfl ?_
          refine j_getr E f_X11_28 (cM_0 hg) 7 rfl dX11_pipeIs_49 ?_
          refine j_iload_n E dX11_pipeIs_52 1 rfl ?_
          refine j_iald E (cM_7 hg) dX11_pipeIs_53 (fun t4 => ?_)
          refine j_goto E 75 dX11_pipeIs_54 rfl ?_
          exact j_sub [] (lv1 := []) rfl (jxX11_pipeIs_75 hg E t4 h2)
      · refine j_aload_n E dX11_pipeIs_34 0 rfl ?_
        refine j_getr E f_X11_25 (cM_0 hg) 6 rfl dX11_pipeIs_35 ?_
        refine j_iload_n E dX11_pipeIs_38 1 rfl ?_
        refine j_iald E (cM_6 hg) dX11_pipeIs_39 (fun t5 => ?_)
        refine j_goto E 75 dX11_pipeIs_40 rfl ?_
        exact j_sub [] (lv1 := []) rfl (jxX11_pipeIs_75 hg E t5 h2)
    · refine j_aload_n E dX11_pipeIs_20 0 rfl ?_
      refine j_getr E f_X11_22 (cM_0 hg) 5 rfl dX11_pipeIs_21 ?_
      refine j_iload_n E dX11_pipeIs_24 1 rfl ?_
      refine j_iald E (cM_5 hg) dX11_pipeIs_25 (fun t6 => ?_)
      refine j_goto E 75 dX11_pipeIs_26 rfl ?_
      exact j_sub [] (lv1 := []) rfl (jxX11_pipeIs_75 hg E t6 h2)
  · refine j_iconst E (v := (-1)) dX11_pipeIs_14 (by decide) ?_
    exact j_ireturn E rfl dX11_pipeIs_15
theorem ok_X11_pipeIs {g : GC} (hg : isGM g) (hI : gI g) (a1 : Int32) (a2 : Int32) (h : HP) : Ok g yX11_pipeIs mX11_pipeIs [.ref (g.2.2.1 0), .int a1, .int a2] h (xX11_pipeIs a1 a2 h) := Ok.of hI (by decide) rfl (Nat.le_of_ble_eq_true rfl) (fun X E => jxX11_pipeIs hg E a1 a2 h)
set_option maxRecDepth 20000 in
set_option maxHeartbeats 4000000 in
theorem jxX11_restOf_47 {g : GC} (hg : isGM g) {X : MX} (E : JE g mX11_restOf X) (s0 : Int32) (h : HP) : J g mX11_restOf X 47 [] [.int s0] h (xX11_restOf_47 s0 h) := by
  unfold xX11_restOf_47
  exact j_ireturn E rfl dX11_restOf_47
set_option maxRecDepth 20000 in
set_option maxHeartbeats 4000000 in
theorem jxX11_restOf_14 {g : GC} (hg : isGM g) {X : MX} (E : JE g mX11_restOf X) (a1 : Int32) (a2 : Int32) (s0 : Int32) (h : HP) : J g mX11_restOf X 14 [(0, .ref (g.2.2.1 0)), (1, .int a1), (2, .int a2)] [.int s0] h (xX11_restOf_14 a1 a2 s0 h) := by
  unfold xX11_restOf_14
  refine j_istore0 E dX11_restOf_14 (Nat.le_of_ble_eq_true rfl) [(4, .int s0), (0, .ref (g.2.2.1 0)), (1, .int a1), (2, .int a2)] rfl ?_
  refine j_aload_n E dX11_restOf_16 1 rfl ?_
  refine j_getr E f_X11_22 (cM_0 hg) 5 rfl dX11_restOf_17 ?_
  refine j_iload_n E dX11_restOf_20 2 rfl ?_
  refine j_iald E (cM_5 hg) dX11_restOf_21 (fun t1 => ?_)
  refine j_iload_n E dX11_restOf_22 3 rfl ?_
  refine j_cmp_ne E 38 dX11_restOf_23 rfl ?_ ?_
  · refine j_iload E dX11_restOf_38 0 rfl ?_
    refine j_aload_n E dX11_restOf_40 1 rfl ?_
    refine j_getr E f_X11_86 (cM_0 hg) 26 rfl dX11_restOf_41 ?_
    refine j_iload_n E dX11_restOf_44 2 rfl ?_
    refine j_iald E (cM_26 hg) dX11_restOf_45 (fun t2 => ?_)
    refine j_iadd E dX11_restOf_46 ?_
    exact j_sub [] (lv1 := []) rfl (jxX11_restOf_47 hg E (s0 + t2) h)
  · refine j_iload E dX11_restOf_26 0 rfl ?_
    refine j_aload_n E dX11_restOf_28 1 rfl ?_
    refine j_getr E f_X11_86 (cM_0 hg) 26 rfl dX11_restOf_29 ?_
    refine j_iload_n E dX11_restOf_32 2 rfl ?_
    refine j_iald E (cM_26 hg) dX11_restOf_33 (fun t3 => ?_)
    refine j_isub E dX11_restOf_34 ?_
    refine j_goto E 47 dX11_restOf_35 rfl ?_
    exact j_sub [] (lv1 := []) rfl (jxX11_restOf_47 hg E (s0 - t3) h)
set_option maxRecDepth 20000 in
set_option maxHeartbeats 4000000 in
theorem jxX11_restOf {g : GC} (hg : isGM g) {X : MX} (E : JE g mX11_restOf X) (a1 : Int32) (a2 : Int32) (a3 : Int32) (h : HP) : J g mX11_restOf X 0 [(0, .ref (g.2.2.1 0)), (1, .int a1), (2, .int a2), (3, .int a3)] [] h (xX11_restOf a1 a2 a3 h) := by
  unfold xX11_restOf
  refine j_iload_n E dX11_restOf_0 3 rfl ?_
  refine j_if_eq E 8 dX11_restOf_1 rfl ?_ ?_
  · refine j_aload_n E dX11_restOf_8 0 rfl ?_
    refine j_getr E f_X11_28 (cM_0 hg) 7 rfl dX11_restOf_9 ?_
    refine j_iload_n E dX11_restOf_12 1 rfl ?_
    refine j_iald E (cM_7 hg) dX11_restOf_13 (fun t1 => ?_)
    exact j_sub [0, 1, 2] (lv1 := [(0, .ref (g.2.2.1 0)), (1, .int a1), (2, .int a2)]) rfl (jxX11_restOf_14 hg E a1 a2 t1 h)
  · refine j_iconst E (v := 1) dX11_restOf_4 (by decide) ?_
    refine j_goto E 14 dX11_restOf_5 rfl ?_
    exact j_sub [0, 1, 2] (lv1 := [(0, .ref (g.2.2.1 0)), (1, .int a1), (2, .int a2)]) rfl (jxX11_restOf_14 hg E a1 a2 1 h)
theorem ok_X11_restOf {g : GC} (hg : isGM g) (hI : gI g) (a1 : Int32) (a2 : Int32) (a3 : Int32) (h : HP) : Ok g yX11_restOf mX11_restOf [.ref (g.2.2.1 0), .int a1, .int a2, .int a3] h (xX11_restOf a1 a2 a3 h) := Ok.of hI (by decide) rfl (Nat.le_of_ble_eq_true rfl) (fun X E => jxX11_restOf hg E a1 a2 a3 h)
set_option maxRecDepth 20000 in
set_option maxHeartbeats 4000000 in
theorem jxX11_comesOn_127 {g : GC} (hg : isGM g) {X : MX} (N : Nat) (E : JE g mX11_comesOn X) (K31 : Int32 → Int32 → Int32 → Int32 → HP → Option (Int32 × HP)) (hK31 : ∀ (a2 : Int32) (a3 : Int32) (a4 : Int32) (a5 : Int32) (h : HP), J g mX11_comesOn X 31 [(0, .ref (g.2.2.1 0)), (2, .int a2), (3, .int a3), (4, .int a4), (5, .int a5)] [] h (K31 a2 a3 a4 a5 h)) (a2 : Int32) (a3 : Int32) (a4 : Int32) (a5 : Int32) (h : HP) : J g mX11_comesOn X 127 [(0, .ref (g.2.2.1 0)), (2, .int a2), (3, .int a3), (4, .int a4), (5, .int a5)] [] h (xX11_comesOn_127 N K31 a2 a3 a4 a5 h) := by
  unfold xX11_comesOn_127
  refine j_iinc E (c := 1) dX11_comesOn_127 4 rfl (by decide) (Nat.le_of_ble_eq_true rfl) (fun v1 => [(5, .int v1), (0, .ref (g.2.2.1 0)), (2, .int a2), (3, .int a3), (4, .int a4)]) (fun _ => rfl) (fun v1 => ?_)
  refine j_goto E 31 dX11_comesOn_130 rfl ?_
  exact j_sub [1, 2, 3, 4, 0] (lv1 := [(0, .ref (g.2.2.1 0)), (2, .int a2), (3, .int a3), (4, .int a4), (5, .int v1)]) rfl (hK31 a2 a3 a4 v1 h)
set_option maxRecDepth 20000 in
set_option maxHeartbeats 4000000 in
theorem jxX11_comesOn_31 {g : GC} (hg : isGM g) {X : MX} (N : Nat) (E : JE g mX11_comesOn X) (K19 : Int32 → Int32 → Int32 → HP → Option (Int32 × HP)) (hK19 : ∀ (a2 : Int32) (a3 : Int32) (a4 : Int32) (h : HP), J g mX11_comesOn X 19 [(0, .ref (g.2.2.1 0)), (2, .int a2), (3, .int a3), (4, .int a4)] [] h (K19 a2 a3 a4 h)) : ∀ (n : Nat) (a2 : Int32) (a3 : Int32) (a4 : Int32) (a5 : Int32) (h : HP), J g mX11_comesOn X 31 [(0, .ref (g.2.2.1 0)), (2, .int a2), (3, .int a3), (4, .int a4), (5, .int a5)] [] h (xX11_comesOn_31 N K19 n a2 a3 a4 a5 h) := by
  intro n
  induction n with
  | zero => intro a2 a3 a4 a5 h; exact j_none
  | succ n ih =>
    intro a2 a3 a4 a5 h
    unfold xX11_comesOn_31
    refine j_iload E dX11_comesOn_31 4 rfl ?_
    refine j_aload_n E dX11_comesOn_33 0 rfl ?_
    refine j_geti E f_X11_145 (cM_0 hg) rfl dX11_comesOn_34 ?_
    refine j_cmp_ge E 133 dX11_comesOn_37 rfl ?_ ?_
    · refine j_iinc E (c := 1) dX11_comesOn_133 3 rfl (by decide) (Nat.le_of_ble_eq_true rfl) (fun v1 => [(4, .int v1), (0, .ref (g.2.2.1 0)), (2, .int a2), (3, .int a3), (5, .int a5)]) (fun _ => rfl) (fun v1 => ?_)
      refine j_goto E 19 dX11_comesOn_136 rfl ?_
      exact j_sub [1, 2, 3, 0] (lv1 := [(0, .ref (g.2.2.1 0)), (2, .int a2), (3, .int a3), (4, .int v1)]) rfl (hK19 a2 a3 v1 h)
    · refine j_aload_n E dX11_comesOn_40 0 rfl ?_
      refine j_iload E dX11_comesOn_41 4 rfl ?_
      refine j_aload_n E dX11_comesOn_43 0 rfl ?_
      refine j_getr E f_X11_92 (cM_0 hg) 28 rfl dX11_comesOn_44 ?_
      refine j_iload E dX11_comesOn_47 3 rfl ?_
      refine j_iald E (cM_28 hg) dX11_comesOn_49 (fun t2 => ?_)
      refine j_callvI (As := [.int a5, .int t2]) (st := []) E (ok_X11_beyond hg E.2.2.2.2.2.2.2.1 a5 t2 h) (cM_0 hg) (cl_X11_151) (⟨Nat.le_of_ble_eq_true rfl, Nat.le_of_ble_eq_true rfl⟩) rfl rfl (Nat.le_of_ble_eq_true rfl) dX11_comesOn_50 (fun t3 h4 => ?_)
      refine j_istore0 E dX11_comesOn_53 (Nat.le_of_ble_eq_true rfl) [(6, .int t3), (0, .ref (g.2.2.1 0)), (2, .int a2), (3, .int a3), (4, .int a4), (5, .int a5)] rfl ?_
      refine j_iload E dX11_comesOn_55 0 rfl ?_
      refine j_iconst E (v := (-1)) dX11_comesOn_57 (by decide) ?_
      refine j_cmp_eq E 127 dX11_comesOn_58 rfl ?_ ?_
      · exact j_sub [1, 2, 3, 4, 5] (lv1 := [(0, .ref (g.2.2.1 0)), (2, .int a2), (3, .int a3), (4, .int a4), (5, .int a5)]) rfl (jxX11_comesOn_127 hg N E (xX11_comesOn_31 N K19 n) ih a2 a3 a4 a5 h4)
      · refine j_iload_n E dX11_comesOn_61 3 rfl ?_
        refine j_iload E dX11_comesOn_62 0 rfl ?_
        refine j_callsI (As := [.int a3, .int t3]) (st := []) E (ok_X11_has hg E.2.2.2.2.2.2.2.1 a3 t3 h4) (cl_X11_137) (⟨Nat.le_of_ble_eq_true rfl, Nat.le_of_ble_eq_true rfl⟩) rfl rfl (Nat.le_of_ble_eq_true rfl) dX11_comesOn_64 (fun t5 h6 => ?_)
        refine j_if_ne E 127 dX11_comesOn_67 rfl ?_ ?_
        · exact j_sub [1, 2, 3, 4, 5] (lv1 := [(0, .ref (g.2.2.1 0)), (2, .int a2), (3, .int a3), (4, .int a4), (5, .int a5)]) rfl (jxX11_comesOn_127 hg N E (xX11_comesOn_31 N K19 n) ih a2 a3 a4 a5 h6)
        · refine j_aload_n E dX11_comesOn_70 1 rfl ?_
          refine j_iload E dX11_comesOn_71 5 rfl ?_
          refine j_aload_n E dX11_comesOn_73 1 rfl ?_
          refine j_getr E f_X11_92 (cM_0 hg) 28 rfl dX11_comesOn_74 ?_
          refine j_iload E dX11_comesOn_77 4 rfl ?_
          refine j_iald E (cM_28 hg) dX11_comesOn_79 (fun t7 => ?_)
          refine j_iload_n E dX11_comesOn_80 2 rfl ?_
          refine j_callvI (As := [.int a5, .int t7, .int a2]) (st := []) E (ok_X11_restOf hg E.2.2.2.2.2.2.2.1 a5 t7 a2 h6) (cM_0 hg) (cl_X11_351) (⟨Nat.le_of_ble_eq_true rfl, Nat.le_of_ble_eq_true rfl⟩) rfl rfl (Nat.le_of_ble_eq_true rfl) dX11_comesOn_81 (fun t8 h9 => ?_)
          refine j_if_ne E 90 dX11_comesOn_84 rfl ?_ ?_
          · refine j_iload_n E dX11_comesOn_90 3 rfl ?_
            refine j_iconst E (v := 1) dX11_comesOn_91 (by decide) ?_
            refine j_iload E dX11_comesOn_92 0 rfl ?_
            refine j_ishl E dX11_comesOn_94 ?_
            refine j_ior E dX11_comesOn_95 ?_
            refine j_istore_n E dX11_comesOn_96 (Nat.le_of_ble_eq_true rfl) (fun v10 => [(3, .int v10), (6, .int t3), (0, .ref (g.2.2.1 0)), (2, .int a2), (4, .int a4), (5, .int a5)]) (fun _ => rfl) (fun v10 => ?_)
            refine j_aload_n E dX11_comesOn_97 2 rfl ?_
            refine j_getr E f_X11_89 (cM_0 hg) 27 rfl dX11_comesOn_98 ?_
            refine j_iload E dX11_comesOn_101 1 rfl ?_
            refine j_iload E dX11_comesOn_103 5 rfl ?_
            refine j_iast E (cM_27 hg) dX11_comesOn_105 (fun h11 => ?_)
            refine j_aload_n E dX11_comesOn_106 2 rfl ?_
            refine j_getr E f_X11_92 (cM_0 hg) 28 rfl dX11_comesOn_107 ?_
            refine j_aload_n E dX11_comesOn_110 2 rfl ?_
            refine j_geti E f_X11_348 (cM_0 hg) rfl dX11_comesOn_111 ?_
            refine j_iload E dX11_comesOn_114 1 rfl ?_
            refine j_iast E (cM_28 hg) dX11_comesOn_116 (fun h12 => ?_)
            refine j_aload_n E dX11_comesOn_117 2 rfl ?_
            refine j_aload_n E dX11_comesOn_118 2 rfl ?_
            refine j_geti E f_X11_348 (cM_0 hg) rfl dX11_comesOn_119 ?_
            refine j_iconst E (v := 1) dX11_comesOn_122 (by decide) ?_
            refine j_iadd E dX11_comesOn_123 ?_
            refine j_puti E fp_X11_348 (cM_0 hg) rfl dX11_comesOn_124 (fun h13 => ?_)
            exact j_sub [2, 3, 0, 4, 5] (lv1 := [(0, .ref (g.2.2.1 0)), (2, .int a2), (3, .int v10), (4, .int a4), (5, .int a5)]) rfl (jxX11_comesOn_127 hg N E (xX11_comesOn_31 N K19 n) ih a2 v10 a4 a5 h13)
          · refine j_goto E 127 dX11_comesOn_87 rfl ?_
            exact j_sub [1, 2, 3, 4, 5] (lv1 := [(0, .ref (g.2.2.1 0)), (2, .int a2), (3, .int a3), (4, .int a4), (5, .int a5)]) rfl (jxX11_comesOn_127 hg N E (xX11_comesOn_31 N K19 n) ih a2 a3 a4 a5 h9)
set_option maxRecDepth 20000 in
set_option maxHeartbeats 4000000 in
theorem jxX11_comesOn_19 {g : GC} (hg : isGM g) {X : MX} (N : Nat) (E : JE g mX11_comesOn X) : ∀ (n : Nat) (a2 : Int32) (a3 : Int32) (a4 : Int32) (h : HP), J g mX11_comesOn X 19 [(0, .ref (g.2.2.1 0)), (2, .int a2), (3, .int a3), (4, .int a4)] [] h (xX11_comesOn_19 N n a2 a3 a4 h) := by
  intro n
  induction n with
  | zero => intro a2 a3 a4 h; exact j_none
  | succ n ih =>
    intro a2 a3 a4 h
    unfold xX11_comesOn_19
    refine j_iload E dX11_comesOn_19 3 rfl ?_
    refine j_aload_n E dX11_comesOn_21 0 rfl ?_
    refine j_geti E f_X11_348 (cM_0 hg) rfl dX11_comesOn_22 ?_
    refine j_cmp_ge E 139 dX11_comesOn_25 rfl ?_ ?_
    · refine j_iload_n E dX11_comesOn_139 2 rfl ?_
      exact j_ireturn E rfl dX11_comesOn_140
    · refine j_iconst E (v := 0) dX11_comesOn_28 (by decide) ?_
      refine j_istore0 E dX11_comesOn_29 (Nat.le_of_ble_eq_true rfl) [(5, .int 0), (0, .ref (g.2.2.1 0)), (2, .int a2), (3, .int a3), (4, .int a4)] rfl ?_
      exact j_sub [1, 2, 3, 4, 0] (lv1 := [(0, .ref (g.2.2.1 0)), (2, .int a2), (3, .int a3), (4, .int a4), (5, .int 0)]) rfl (jxX11_comesOn_31 hg N E (xX11_comesOn_19 N n) ih N a2 a3 a4 0 h)
set_option maxRecDepth 20000 in
set_option maxHeartbeats 4000000 in
theorem jxX11_comesOn {g : GC} (hg : isGM g) {X : MX} (N : Nat) (E : JE g mX11_comesOn X) (a1 : Int32) (a2 : Int32) (h : HP) : J g mX11_comesOn X 0 [(0, .ref (g.2.2.1 0)), (1, .int a1), (2, .int a2)] [] h (xX11_comesOn N a1 a2 h) := by
  unfold xX11_comesOn
  refine j_iconst E (v := 1) dX11_comesOn_0 (by decide) ?_
  refine j_iload_n E dX11_comesOn_1 1 rfl ?_
  refine j_ishl E dX11_comesOn_2 ?_
  refine j_istore_n E dX11_comesOn_3 (Nat.le_of_ble_eq_true rfl) (fun v1 => [(3, .int v1), (0, .ref (g.2.2.1 0)), (1, .int a1), (2, .int a2)]) (fun _ => rfl) (fun v1 => ?_)
  refine j_aload_n E dX11_comesOn_4 1 rfl ?_
  refine j_getr E f_X11_92 (cM_0 hg) 28 rfl dX11_comesOn_5 ?_
  refine j_iconst E (v := 0) dX11_comesOn_8 (by decide) ?_
  refine j_iload_n E dX11_comesOn_9 2 rfl ?_
  refine j_iast E (cM_28 hg) dX11_comesOn_10 (fun h2 => ?_)
  refine j_aload_n E dX11_comesOn_11 1 rfl ?_
  refine j_iconst E (v := 1) dX11_comesOn_12 (by decide) ?_
  refine j_puti E fp_X11_348 (cM_0 hg) rfl dX11_comesOn_13 (fun h3 => ?_)
  refine j_iconst E (v := 0) dX11_comesOn_16 (by decide) ?_
  refine j_istore0 E dX11_comesOn_17 (Nat.le_of_ble_eq_true rfl) [(4, .int 0), (3, .int v1), (0, .ref (g.2.2.1 0)), (1, .int a1), (2, .int a2)] rfl ?_
  exact j_sub [2, 4, 1, 0] (lv1 := [(0, .ref (g.2.2.1 0)), (2, .int a2), (3, .int v1), (4, .int 0)]) rfl (jxX11_comesOn_19 hg N E N a2 v1 0 h3)
theorem ok_X11_comesOn {g : GC} (hg : isGM g) (hI : gI g) (N : Nat) (a1 : Int32) (a2 : Int32) (h : HP) : Ok g yX11_comesOn mX11_comesOn [.ref (g.2.2.1 0), .int a1, .int a2] h (xX11_comesOn N a1 a2 h) := Ok.of hI (by decide) rfl (Nat.le_of_ble_eq_true rfl) (fun X E => jxX11_comesOn hg N E a1 a2 h)
set_option maxRecDepth 20000 in
set_option maxHeartbeats 4000000 in
theorem jxX11_carries_115 {g : GC} (hg : isGM g) {X : MX} (N : Nat) (E : JE g mX11_carries X) (K67 : Int32 → Int32 → Int32 → HP → Option (Int32 × HP)) (hK67 : ∀ (a1 : Int32) (a4 : Int32) (a5 : Int32) (h : HP), J g mX11_carries X 67 [(0, .ref (g.2.2.1 0)), (1, .int a1), (4, .int a4), (5, .int a5)] [] h (K67 a1 a4 a5 h)) (a1 : Int32) (a4 : Int32) (a5 : Int32) (s1 : Int32) (s2 : Int32) (s3 : Int32) (h : HP) : J g mX11_carries X 115 [(0, .ref (g.2.2.1 0)), (1, .int a1), (4, .int a4), (5, .int a5)] [.int s3, .int s2, .int s1, .ref (g.2.2.1 26)] h (xX11_carries_115 N K67 a1 a4 a5 s1 s2 s3 h) := by
  unfold xX11_carries_115
  refine j_iadd E dX11_carries_115 ?_
  refine j_iast E (cM_26 hg) dX11_carries_116 (fun h1 => ?_)
  refine j_aload_n E dX11_carries_117 0 rfl ?_
  refine j_aload_n E dX11_carries_118 0 rfl ?_
  refine j_getr E f_X11_89 (cM_0 hg) 27 rfl dX11_carries_119 ?_
  refine j_iload E dX11_carries_122 3 rfl ?_
  refine j_iald E (cM_27 hg) dX11_carries_124 (fun t2 => ?_)
  refine j_iload E dX11_carries_125 3 rfl ?_
  refine j_callvI (As := [.int t2, .int a5]) (st := []) E (ok_X11_beyond hg E.2.2.2.2.2.2.2.1 t2 a5 h1) (cM_0 hg) (cl_X11_151) (⟨Nat.le_of_ble_eq_true rfl, Nat.le_of_ble_eq_true rfl⟩) rfl rfl (Nat.le_of_ble_eq_true rfl) dX11_carries_127 (fun t3 h4 => ?_)
  refine j_istore0 E dX11_carries_130 (Nat.le_of_ble_eq_true rfl) [(5, .int t3), (0, .ref (g.2.2.1 0)), (1, .int a1), (4, .int a4)] rfl ?_
  refine j_goto E 67 dX11_carries_132 rfl ?_
  exact j_sub [1, 2, 3, 0] (lv1 := [(0, .ref (g.2.2.1 0)), (1, .int a1), (4, .int a4), (5, .int t3)]) rfl (hK67 a1 a4 t3 h4)
set_option maxRecDepth 20000 in
set_option maxHeartbeats 4000000 in
theorem jxX11_carries_67 {g : GC} (hg : isGM g) {X : MX} (N : Nat) (E : JE g mX11_carries X) : ∀ (n : Nat) (a1 : Int32) (a4 : Int32) (a5 : Int32) (h : HP), J g mX11_carries X 67 [(0, .ref (g.2.2.1 0)), (1, .int a1), (4, .int a4), (5, .int a5)] [] h (xX11_carries_67 N n a1 a4 a5 h) := by
  intro n
  induction n with
  | zero => intro a1 a4 a5 h; exact j_none
  | succ n ih =>
    intro a1 a4 a5 h
    unfold xX11_carries_67
    refine j_iload E dX11_carries_67 3 rfl ?_
    refine j_iload_n E dX11_carries_69 1 rfl ?_
    refine j_cmp_eq E 135 dX11_carries_70 rfl ?_ ?_
    · refine j_iload E dX11_carries_135 2 rfl ?_
      exact j_ireturn E rfl dX11_carries_137
    · refine j_aload_n E dX11_carries_73 0 rfl ?_
      refine j_getr E f_X11_89 (cM_0 hg) 27 rfl dX11_carries_74 ?_
      refine j_iload E dX11_carries_77 3 rfl ?_
      refine j_iald E (cM_27 hg) dX11_carries_79 (fun t1 => ?_)
      refine j_istore0 E dX11_carries_80 (Nat.le_of_ble_eq_true rfl) [(6, .int t1), (0, .ref (g.2.2.1 0)), (1, .int a1), (4, .int a4), (5, .int a5)] rfl ?_
      refine j_aload_n E dX11_carries_82 1 rfl ?_
      refine j_getr E f_X11_86 (cM_0 hg) 26 rfl dX11_carries_83 ?_
      refine j_iload E dX11_carries_86 0 rfl ?_
      refine j_aload_n E dX11_carries_88 1 rfl ?_
      refine j_getr E f_X11_86 (cM_0 hg) 26 rfl dX11_carries_89 ?_
      refine j_iload E dX11_carries_92 0 rfl ?_
      refine j_iald E (cM_26 hg) dX11_carries_94 (fun t2 => ?_)
      refine j_aload_n E dX11_carries_95 1 rfl ?_
      refine j_getr E f_X11_22 (cM_0 hg) 5 rfl dX11_carries_96 ?_
      refine j_iload E dX11_carries_99 0 rfl ?_
      refine j_iald E (cM_5 hg) dX11_carries_101 (fun t3 => ?_)
      refine j_iload E dX11_carries_102 4 rfl ?_
      refine j_cmp_ne E 113 dX11_carries_104 rfl ?_ ?_
      · refine j_iload E dX11_carries_113 3 rfl ?_
        exact j_sub [1, 2, 3, 4] (lv1 := [(0, .ref (g.2.2.1 0)), (1, .int a1), (4, .int a4), (5, .int a5)]) rfl (jxX11_carries_115 hg N E (xX11_carries_67 N n) ih a1 a4 a5 t1 t2 a4 h)
      · refine j_iload E dX11_carries_107 3 rfl ?_
        refine j_ineg E dX11_carries_109 ?_
        refine j_goto E 115 dX11_carries_110 rfl ?_
        exact j_sub [1, 2, 3, 4] (lv1 := [(0, .ref (g.2.2.1 0)), (1, .int a1), (4, .int a4), (5, .int a5)]) rfl (jxX11_carries_115 hg N E (xX11_carries_67 N n) ih a1 a4 a5 t1 t2 (-a4) h)
set_option maxRecDepth 20000 in
set_option maxHeartbeats 4000000 in
theorem jxX11_carries_8 {g : GC} (hg : isGM g) {X : MX} (N : Nat) (E : JE g mX11_carries X) : ∀ (n : Nat) (a1 : Int32) (a2 : Int32) (a3 : Int32) (a4 : Int32) (a5 : Int32) (h : HP), J g mX11_carries X 8 [(0, .ref (g.2.2.1 0)), (1, .int a1), (2, .int a2), (3, .int a3), (4, .int a4), (5, .int a5)] [] h (xX11_carries_8 N n a1 a2 a3 a4 a5 h) := by
  intro n
  induction n with
  | zero => intro a1 a2 a3 a4 a5 h; exact j_none
  | succ n ih =>
    intro a1 a2 a3 a4 a5 h
    unfold xX11_carries_8
    refine j_iload E dX11_carries_8 5 rfl ?_
    refine j_iload_n E dX11_carries_10 1 rfl ?_
    refine j_cmp_eq E 64 dX11_carries_11 rfl ?_ ?_
    · refine j_iload_n E dX11_carries_64 2 rfl ?_
      refine j_istore0 E dX11_carries_65 (Nat.le_of_ble_eq_true rfl) [(5, .int a2), (0, .ref (g.2.2.1 0)), (1, .int a1), (2, .int a2), (3, .int a3), (4, .int a4)] rfl ?_
      exact j_sub [1, 2, 5, 0] (lv1 := [(0, .ref (g.2.2.1 0)), (1, .int a1), (4, .int a4), (5, .int a2)]) rfl (jxX11_carries_67 hg N E N a1 a4 a2 h)
    · refine j_iload E dX11_carries_14 4 rfl ?_
      refine j_aload_n E dX11_carries_16 0 rfl ?_
      refine j_aload_n E dX11_carries_17 0 rfl ?_
      refine j_getr E f_X11_89 (cM_0 hg) 27 rfl dX11_carries_18 ?_
      refine j_iload E dX11_carries_21 5 rfl ?_
      refine j_iald E (cM_27 hg) dX11_carries_23 (fun t1 => ?_)
      refine j_aload_n E dX11_carries_24 0 rfl ?_
      refine j_aload_n E dX11_carries_25 0 rfl ?_
      refine j_getr E f_X11_89 (cM_0 hg) 27 rfl dX11_carries_26 ?_
      refine j_iload E dX11_carries_29 5 rfl ?_
      refine j_iald E (cM_27 hg) dX11_carries_31 (fun t2 => ?_)
      refine j_iload E dX11_carries_32 5 rfl ?_
      refine j_callvI (As := [.int t2, .int a5]) (st := [.int t1, .ref (g.2.2.1 0), .int a4]) E (ok_X11_beyond hg E.2.2.2.2.2.2.2.1 t2 a5 h) (cM_0 hg) (cl_X11_151) (⟨Nat.le_of_ble_eq_true rfl, Nat.le_of_ble_eq_true rfl⟩) rfl rfl (Nat.le_of_ble_eq_true rfl) dX11_carries_34 (fun t3 h4 => ?_)
      refine j_iload_n E dX11_carries_37 3 rfl ?_
      refine j_callvI (As := [.int t1, .int t3, .int a3]) (st := [.int a4]) E (ok_X11_restOf hg E.2.2.2.2.2.2.2.1 t1 t3 a3 h4) (cM_0 hg) (cl_X11_351) (⟨Nat.le_of_ble_eq_true rfl, Nat.le_of_ble_eq_true rfl⟩) rfl rfl (Nat.le_of_ble_eq_true rfl) dX11_carries_38 (fun t5 h6 => ?_)
      refine j_callsI (As := [.int a4, .int t5]) (st := []) E (ok_X11_min hg E.2.2.2.2.2.2.2.1 a4 t5 h6) (cl_X11_286) (⟨Nat.le_of_ble_eq_true rfl, Nat.le_of_ble_eq_true rfl⟩) rfl rfl (Nat.le_of_ble_eq_true rfl) dX11_carries_41 (fun t7 h8 => ?_)
      refine j_istore0 E dX11_carries_44 (Nat.le_of_ble_eq_true rfl) [(4, .int t7), (0, .ref (g.2.2.1 0)), (1, .int a1), (2, .int a2), (3, .int a3), (5, .int a5)] rfl ?_
      refine j_aload_n E dX11_carries_46 1 rfl ?_
      refine j_aload_n E dX11_carries_47 1 rfl ?_
      refine j_getr E f_X11_89 (cM_0 hg) 27 rfl dX11_carries_48 ?_
      refine j_iload E dX11_carries_51 5 rfl ?_
      refine j_iald E (cM_27 hg) dX11_carries_53 (fun t9 => ?_)
      refine j_iload E dX11_carries_54 5 rfl ?_
      refine j_callvI (As := [.int t9, .int a5]) (st := []) E (ok_X11_beyond hg E.2.2.2.2.2.2.2.1 t9 a5 h8) (cM_0 hg) (cl_X11_151) (⟨Nat.le_of_ble_eq_true rfl, Nat.le_of_ble_eq_true rfl⟩) rfl rfl (Nat.le_of_ble_eq_true rfl) dX11_carries_56 (fun t10 h11 => ?_)
      refine j_istore0 E dX11_carries_59 (Nat.le_of_ble_eq_true rfl) [(5, .int t10), (4, .int t7), (0, .ref (g.2.2.1 0)), (1, .int a1), (2, .int a2), (3, .int a3)] rfl ?_
      refine j_goto E 8 dX11_carries_61 rfl ?_
      exact j_sub [2, 3, 4, 5, 1, 0] (lv1 := [(0, .ref (g.2.2.1 0)), (1, .int a1), (2, .int a2), (3, .int a3), (4, .int t7), (5, .int t10)]) rfl (ih a1 a2 a3 t7 t10 h11)
set_option maxRecDepth 20000 in
set_option maxHeartbeats 4000000 in
theorem jxX11_carries {g : GC} (hg : isGM g) {X : MX} (N : Nat) (E : JE g mX11_carries X) (a1 : Int32) (a2 : Int32) (a3 : Int32) (h : HP) : J g mX11_carries X 0 [(0, .ref (g.2.2.1 0)), (1, .int a1), (2, .int a2), (3, .int a3)] [] h (xX11_carries N a1 a2 a3 h) := by
  unfold xX11_carries
  refine j_ldcw E (v := 1000000) k_X11_355 dX11_carries_0 ?_
  refine j_istore0 E dX11_carries_3 (Nat.le_of_ble_eq_true rfl) [(4, .int 1000000), (0, .ref (g.2.2.1 0)), (1, .int a1), (2, .int a2), (3, .int a3)] rfl ?_
  refine j_iload_n E dX11_carries_5 3 rfl ?_
  refine j_istore0 E dX11_carries_6 (Nat.le_of_ble_eq_true rfl) [(5, .int a2), (4, .int 1000000), (0, .ref (g.2.2.1 0)), (1, .int a1), (2, .int a2), (3, .int a3)] rfl ?_
  exact j_sub [2, 3, 4, 5, 1, 0] (lv1 := [(0, .ref (g.2.2.1 0)), (1, .int a1), (2, .int a2), (3, .int a3), (4, .int 1000000), (5, .int a2)]) rfl (jxX11_carries_8 hg N E N a1 a2 a3 1000000 a2 h)
theorem ok_X11_carries {g : GC} (hg : isGM g) (hI : gI g) (N : Nat) (a1 : Int32) (a2 : Int32) (a3 : Int32) (h : HP) : Ok g yX11_carries mX11_carries [.ref (g.2.2.1 0), .int a1, .int a2, .int a3] h (xX11_carries N a1 a2 a3 h) := Ok.of hI (by decide) rfl (Nat.le_of_ble_eq_true rfl) (fun X E => jxX11_carries hg N E a1 a2 a3 h)
set_option maxRecDepth 20000 in
set_option maxHeartbeats 4000000 in
theorem jxX11_laysFlow_39 {g : GC} (hg : isGM g) {X : MX} (N : Nat) (E : JE g mX11_laysFlow X) : ∀ (n : Nat) (a1 : Int32) (a2 : Int32) (a3 : Int32) (a4 : Int32) (h : HP), J g mX11_laysFlow X 39 [(0, .ref (g.2.2.1 0)), (1, .int a1), (2, .int a2), (3, .int a3), (4, .int a4)] [] h (xX11_laysFlow_39 N n a1 a2 a3 a4 h) := by
  intro n
  induction n with
  | zero => intro a1 a2 a3 a4 h; exact j_none
  | succ n ih =>
    intro a1 a2 a3 a4 h
    unfold xX11_laysFlow_39
    refine j_aload_n E dX11_laysFlow_39 0 rfl ?_
    refine j_geti E f_X11_360 (cM_0 hg) rfl dX11_laysFlow_40 ?_
    refine j_iload_n E dX11_laysFlow_43 2 rfl ?_
    refine j_callsI (As := [.int (h.1 0 45), .int a2]) (st := []) E (ok_X11_has hg E.2.2.2.2.2.2.2.1 (h.1 0 45) a2 h) (cl_X11_137) (⟨Nat.le_of_ble_eq_true rfl, Nat.le_of_ble_eq_true rfl⟩) rfl rfl (Nat.le_of_ble_eq_true rfl) dX11_laysFlow_44 (fun t1 h2 => ?_)
    refine j_if_eq E 75 dX11_laysFlow_47 rfl ?_ ?_
    · refine j_iload E dX11_laysFlow_75 4 rfl ?_
      exact j_ireturn E rfl dX11_laysFlow_77
    · refine j_iload E dX11_laysFlow_50 4 rfl ?_
      refine j_aload_n E dX11_laysFlow_52 0 rfl ?_
      refine j_iload_n E dX11_laysFlow_53 1 rfl ?_
      refine j_iload_n E dX11_laysFlow_54 2 rfl ?_
      refine j_iload_n E dX11_laysFlow_55 3 rfl ?_
      refine j_callvI (As := [.int a1, .int a2, .int a3]) (st := [.int a4]) E (ok_X11_carries hg E.2.2.2.2.2.2.2.1 N a1 a2 a3 h2) (cM_0 hg) (cl_X11_363) (⟨Nat.le_of_ble_eq_true rfl, Nat.le_of_ble_eq_true rfl⟩) rfl rfl (Nat.le_of_ble_eq_true rfl) dX11_laysFlow_56 (fun t3 h4 => ?_)
      refine j_iadd E dX11_laysFlow_59 ?_
      refine j_istore E dX11_laysFlow_60 (Nat.le_of_ble_eq_true rfl) (fun v5 => [(4, .int v5), (0, .ref (g.2.2.1 0)), (1, .int a1), (2, .int a2), (3, .int a3)]) (fun _ => rfl) (fun v5 => ?_)
      refine j_aload_n E dX11_laysFlow_62 1 rfl ?_
      refine j_aload_n E dX11_laysFlow_63 1 rfl ?_
      refine j_iload_n E dX11_laysFlow_64 2 rfl ?_
      refine j_iload_n E dX11_laysFlow_65 4 rfl ?_
      refine j_callvI (As := [.int a1, .int a3]) (st := [.ref (g.2.2.1 0)]) E (ok_X11_comesOn hg E.2.2.2.2.2.2.2.1 N a1 a3 h4) (cM_0 hg) (cl_X11_356) (⟨Nat.le_of_ble_eq_true rfl, Nat.le_of_ble_eq_true rfl⟩) rfl rfl (Nat.le_of_ble_eq_true rfl) dX11_laysFlow_66 (fun t6 h7 => ?_)
      refine j_puti E fp_X11_360 (cM_0 hg) rfl dX11_laysFlow_69 (fun h8 => ?_)
      refine j_goto E 39 dX11_laysFlow_72 rfl ?_
      exact j_sub [1, 2, 3, 4, 0] (lv1 := [(0, .ref (g.2.2.1 0)), (1, .int a1), (2, .int a2), (3, .int a3), (4, .int v5)]) rfl (ih a1 a2 a3 v5 h8)
set_option maxRecDepth 20000 in
set_option maxHeartbeats 4000000 in
theorem jxX11_laysFlow_3 {g : GC} (hg : isGM g) {X : MX} (N : Nat) (E : JE g mX11_laysFlow X) : ∀ (n : Nat) (a1 : Int32) (a2 : Int32) (a3 : Int32) (a4 : Int32) (h : HP), J g mX11_laysFlow X 3 [(0, .ref (g.2.2.1 0)), (1, .int a1), (2, .int a2), (3, .int a3), (4, .int a4)] [] h (xX11_laysFlow_3 N n a1 a2 a3 a4 h) := by
  intro n
  induction n with
  | zero => intro a1 a2 a3 a4 h; exact j_none
  | succ n ih =>
    intro a1 a2 a3 a4 h
    unfold xX11_laysFlow_3
    refine j_iload E dX11_laysFlow_3 4 rfl ?_
    refine j_aload_n E dX11_laysFlow_5 0 rfl ?_
    refine j_geti E f_X11_145 (cM_0 hg) rfl dX11_laysFlow_6 ?_
    refine j_cmp_ge E 26 dX11_laysFlow_9 rfl ?_ ?_
    · refine j_iconst E (v := 0) dX11_laysFlow_26 (by decide) ?_
      refine j_istore0 E dX11_laysFlow_27 (Nat.le_of_ble_eq_true rfl) [(4, .int 0), (0, .ref (g.2.2.1 0)), (1, .int a1), (2, .int a2), (3, .int a3)] rfl ?_
      refine j_aload_n E dX11_laysFlow_29 1 rfl ?_
      refine j_aload_n E dX11_laysFlow_30 1 rfl ?_
      refine j_iload_n E dX11_laysFlow_31 2 rfl ?_
      refine j_iload_n E dX11_laysFlow_32 4 rfl ?_
      refine j_callvI (As := [.int a1, .int a3]) (st := [.ref (g.2.2.1 0)]) E (ok_X11_comesOn hg E.2.2.2.2.2.2.2.1 N a1 a3 h) (cM_0 hg) (cl_X11_356) (⟨Nat.le_of_ble_eq_true rfl, Nat.le_of_ble_eq_true rfl⟩) rfl rfl (Nat.le_of_ble_eq_true rfl) dX11_laysFlow_33 (fun t1 h2 => ?_)
      refine j_puti E fp_X11_360 (cM_0 hg) rfl dX11_laysFlow_36 (fun h3 => ?_)
      exact j_sub [1, 2, 3, 4, 0] (lv1 := [(0, .ref (g.2.2.1 0)), (1, .int a1), (2, .int a2), (3, .int a3), (4, .int 0)]) rfl (jxX11_laysFlow_39 hg N E N a1 a2 a3 0 h3)
    · refine j_aload_n E dX11_laysFlow_12 0 rfl ?_
      refine j_getr E f_X11_86 (cM_0 hg) 26 rfl dX11_laysFlow_13 ?_
      refine j_iload E dX11_laysFlow_16 4 rfl ?_
      refine j_iconst E (v := 0) dX11_laysFlow_18 (by decide) ?_
      refine j_iast E (cM_26 hg) dX11_laysFlow_19 (fun h4 => ?_)
      refine j_iinc E (c := 1) dX11_laysFlow_20 4 rfl (by decide) (Nat.le_of_ble_eq_true rfl) (fun v5 => [(4, .int v5), (0, .ref (g.2.2.1 0)), (1, .int a1), (2, .int a2), (3, .int a3)]) (fun _ => rfl) (fun v5 => ?_)
      refine j_goto E 3 dX11_laysFlow_23 rfl ?_
      exact j_sub [1, 2, 3, 4, 0] (lv1 := [(0, .ref (g.2.2.1 0)), (1, .int a1), (2, .int a2), (3, .int a3), (4, .int v5)]) rfl (ih a1 a2 a3 v5 h4)
set_option maxRecDepth 20000 in
set_option maxHeartbeats 4000000 in
theorem jxX11_laysFlow {g : GC} (hg : isGM g) {X : MX} (N : Nat) (E : JE g mX11_laysFlow X) (a1 : Int32) (a2 : Int32) (a3 : Int32) (h : HP) : J g mX11_laysFlow X 0 [(0, .ref (g.2.2.1 0)), (1, .int a1), (2, .int a2), (3, .int a3)] [] h (xX11_laysFlow N a1 a2 a3 h) := by
  unfold xX11_laysFlow
  refine j_iconst E (v := 0) dX11_laysFlow_0 (by decide) ?_
  refine j_istore0 E dX11_laysFlow_1 (Nat.le_of_ble_eq_true rfl) [(4, .int 0), (0, .ref (g.2.2.1 0)), (1, .int a1), (2, .int a2), (3, .int a3)] rfl ?_
  exact j_sub [1, 2, 3, 4, 0] (lv1 := [(0, .ref (g.2.2.1 0)), (1, .int a1), (2, .int a2), (3, .int a3), (4, .int 0)]) rfl (jxX11_laysFlow_3 hg N E N a1 a2 a3 0 h)
theorem ok_X11_laysFlow {g : GC} (hg : isGM g) (hI : gI g) (N : Nat) (a1 : Int32) (a2 : Int32) (a3 : Int32) (h : HP) : Ok g yX11_laysFlow mX11_laysFlow [.ref (g.2.2.1 0), .int a1, .int a2, .int a3] h (xX11_laysFlow N a1 a2 a3 h) := Ok.of hI (by decide) rfl (Nat.le_of_ble_eq_true rfl) (fun X E => jxX11_laysFlow hg N E a1 a2 a3 h)
set_option maxRecDepth 20000 in
set_option maxHeartbeats 4000000 in
theorem jxX11_most_18 {g : GC} (hg : isGM g) {X : MX} (N : Nat) (E : JE g mX11_most X) (h : HP) : J g mX11_most X 18 [] [] h (xX11_most_18 N h) := by
  unfold xX11_most_18
  refine j_iconst E (v := (-1)) dX11_most_18 (by decide) ?_
  exact j_ireturn E rfl dX11_most_19
set_option maxRecDepth 20000 in
set_option maxHeartbeats 4000000 in
theorem jxX11_most_42 {g : GC} (hg : isGM g) {X : MX} (N : Nat) (E : JE g mX11_most X) (s0 : Int32) (h : HP) : J g mX11_most X 42 [] [.int s0] h (xX11_most_42 N s0 h) := by
  unfold xX11_most_42
  exact j_ireturn E rfl dX11_most_42
set_option maxRecDepth 20000 in
set_option maxHeartbeats 4000000 in
theorem jxX11_most {g : GC} (hg : isGM g) {X : MX} (N : Nat) (E : JE g mX11_most X) (a1 : Int32) (a2 : Int32) (a3 : Int32) (h : HP) : J g mX11_most X 0 [(0, .ref (g.2.2.1 0)), (1, .int a1), (2, .int a2), (3, .int a3)] [] h (xX11_most N a1 a2 a3 h) := by
  unfold xX11_most
  refine j_aload_n E dX11_most_0 0 rfl ?_
  refine j_iload_n E dX11_most_1 1 rfl ?_
  refine j_iload_n E dX11_most_2 2 rfl ?_
  refine j_callvI (As := [.int a1, .int a2]) (st := []) E (ok_X11_areTwo hg E.2.2.2.2.2.2.2.1 a1 a2 h) (cM_0 hg) (cl_X11_366) (⟨Nat.le_of_ble_eq_true rfl, Nat.le_of_ble_eq_true rfl⟩) rfl rfl (Nat.le_of_ble_eq_true rfl) dX11_most_3 (fun t1 h2 => ?_)
  refine j_if_eq E 18 dX11_most_6 rfl ?_ ?_
  · exact j_sub [] (lv1 := []) rfl (jxX11_most_18 hg N E h2)
  · refine j_iload_n E dX11_most_9 3 rfl ?_
    refine j_iconst E (v := 0) dX11_most_10 (by decide) ?_
    refine j_iconst E (v := 1) dX11_most_11 (by decide) ?_
    refine j_callsI (As := [.int a3, .int 0, .int 1]) (st := []) E (ok_X11_in hg E.2.2.2.2.2.2.2.1 a3 0 1 h2) (cl_X11_129) (⟨Nat.le_of_ble_eq_true rfl, Nat.le_of_ble_eq_true rfl⟩) rfl rfl (Nat.le_of_ble_eq_true rfl) dX11_most_12 (fun t3 h4 => ?_)
    refine j_if_ne E 20 dX11_most_15 rfl ?_ ?_
    · refine j_aload_n E dX11_most_20 0 rfl ?_
      refine j_iload_n E dX11_most_21 1 rfl ?_
      refine j_iload_n E dX11_most_22 2 rfl ?_
      refine j_iconst E (v := 0) dX11_most_23 (by decide) ?_
      refine j_callvI (As := [.int a1, .int a2, .int 0]) (st := []) E (ok_X11_laysFlow hg E.2.2.2.2.2.2.2.1 N a1 a2 0 h4) (cM_0 hg) (cl_X11_369) (⟨Nat.le_of_ble_eq_true rfl, Nat.le_of_ble_eq_true rfl⟩) rfl rfl (Nat.le_of_ble_eq_true rfl) dX11_most_24 (fun t5 h6 => ?_)
      refine j_istore0 E dX11_most_27 (Nat.le_of_ble_eq_true rfl) [(4, .int t5), (0, .ref (g.2.2.1 0)), (1, .int a1), (2, .int a2), (3, .int a3)] rfl ?_
      refine j_iload_n E dX11_most_29 4 rfl ?_
      refine j_if_ne E 38 dX11_most_30 rfl ?_ ?_
      · refine j_aload_n E dX11_most_38 1 rfl ?_
        refine j_geti E f_X11_360 (cM_0 hg) rfl dX11_most_39 ?_
        exact j_sub [] (lv1 := []) rfl (jxX11_most_42 hg N E (h6.1 0 45) h6)
      · refine j_iload E dX11_most_33 0 rfl ?_
        refine j_goto E 42 dX11_most_35 rfl ?_
        exact j_sub [] (lv1 := []) rfl (jxX11_most_42 hg N E t5 h6)
    · exact j_sub [] (lv1 := []) rfl (jxX11_most_18 hg N E h4)
theorem ok_X11_most {g : GC} (hg : isGM g) (hI : gI g) (N : Nat) (a1 : Int32) (a2 : Int32) (a3 : Int32) (h : HP) : Ok g yX11_most mX11_most [.ref (g.2.2.1 0), .int a1, .int a2, .int a3] h (xX11_most N a1 a2 a3 h) := Ok.of hI (by decide) rfl (Nat.le_of_ble_eq_true rfl) (fun X E => jxX11_most hg N E a1 a2 a3 h)
set_option maxRecDepth 20000 in
set_option maxHeartbeats 4000000 in
theorem jxX11_cut_20 {g : GC} (hg : isGM g) {X : MX} (N : Nat) (E : JE g mX11_cut X) (s0 : Int32) (h : HP) : J g mX11_cut X 20 [] [.int s0] h (xX11_cut_20 N s0 h) := by
  unfold xX11_cut_20
  exact j_ireturn E rfl dX11_cut_20
set_option maxRecDepth 20000 in
set_option maxHeartbeats 4000000 in
theorem jxX11_cut {g : GC} (hg : isGM g) {X : MX} (N : Nat) (E : JE g mX11_cut X) (a1 : Int32) (a2 : Int32) (h : HP) : J g mX11_cut X 0 [(0, .ref (g.2.2.1 0)), (1, .int a1), (2, .int a2)] [] h (xX11_cut N a1 a2 h) := by
  unfold xX11_cut
  refine j_aload_n E dX11_cut_0 0 rfl ?_
  refine j_iload_n E dX11_cut_1 1 rfl ?_
  refine j_iload_n E dX11_cut_2 2 rfl ?_
  refine j_callvI (As := [.int a1, .int a2]) (st := []) E (ok_X11_areTwo hg E.2.2.2.2.2.2.2.1 a1 a2 h) (cM_0 hg) (cl_X11_366) (⟨Nat.le_of_ble_eq_true rfl, Nat.le_of_ble_eq_true rfl⟩) rfl rfl (Nat.le_of_ble_eq_true rfl) dX11_cut_3 (fun t1 h2 => ?_)
  refine j_if_eq E 19 dX11_cut_6 rfl ?_ ?_
  · refine j_iconst E (v := (-1)) dX11_cut_19 (by decide) ?_
    exact j_sub [] (lv1 := []) rfl (jxX11_cut_20 hg N E (-1) h2)
  · refine j_aload_n E dX11_cut_9 0 rfl ?_
    refine j_iload_n E dX11_cut_10 1 rfl ?_
    refine j_iload_n E dX11_cut_11 2 rfl ?_
    refine j_iconst E (v := 1) dX11_cut_12 (by decide) ?_
    refine j_callvI (As := [.int a1, .int a2, .int 1]) (st := []) E (ok_X11_laysFlow hg E.2.2.2.2.2.2.2.1 N a1 a2 1 h2) (cM_0 hg) (cl_X11_369) (⟨Nat.le_of_ble_eq_true rfl, Nat.le_of_ble_eq_true rfl⟩) rfl rfl (Nat.le_of_ble_eq_true rfl) dX11_cut_13 (fun t3 h4 => ?_)
    refine j_goto E 20 dX11_cut_16 rfl ?_
    exact j_sub [] (lv1 := []) rfl (jxX11_cut_20 hg N E t3 h4)
theorem ok_X11_cut {g : GC} (hg : isGM g) (hI : gI g) (N : Nat) (a1 : Int32) (a2 : Int32) (h : HP) : Ok g yX11_cut mX11_cut [.ref (g.2.2.1 0), .int a1, .int a2] h (xX11_cut N a1 a2 h) := Ok.of hI (by decide) rfl (Nat.le_of_ble_eq_true rfl) (fun X E => jxX11_cut hg N E a1 a2 h)
set_option maxRecDepth 20000 in
set_option maxHeartbeats 4000000 in
theorem jxX11_reached_96 {g : GC} (hg : isGM g) {X : MX} (N : Nat) (E : JE g mX11_reached X) (K22 : Int32 → Int32 → Int32 → Int32 → Int32 → HP → Option (Int32 × HP)) (hK22 : ∀ (a2 : Int32) (a3 : Int32) (a4 : Int32) (a5 : Int32) (a6 : Int32) (h : HP), J g mX11_reached X 22 [(0, .ref (g.2.2.1 0)), (2, .int a2), (3, .int a3), (4, .int a4), (5, .int a5), (6, .int a6)] [] h (K22 a2 a3 a4 a5 a6 h)) (a2 : Int32) (a3 : Int32) (a4 : Int32) (a5 : Int32) (a6 : Int32) (h : HP) : J g mX11_reached X 96 [(0, .ref (g.2.2.1 0)), (2, .int a2), (3, .int a3), (4, .int a4), (5, .int a5), (6, .int a6)] [] h (xX11_reached_96 N K22 a2 a3 a4 a5 a6 h) := by
  unfold xX11_reached_96
  refine j_iinc E (c := 1) dX11_reached_96 5 rfl (by decide) (Nat.le_of_ble_eq_true rfl) (fun v1 => [(6, .int v1), (0, .ref (g.2.2.1 0)), (2, .int a2), (3, .int a3), (4, .int a4), (5, .int a5)]) (fun _ => rfl) (fun v1 => ?_)
  refine j_goto E 22 dX11_reached_99 rfl ?_
  exact j_sub [1, 2, 3, 4, 5, 0] (lv1 := [(0, .ref (g.2.2.1 0)), (2, .int a2), (3, .int a3), (4, .int a4), (5, .int a5), (6, .int v1)]) rfl (hK22 a2 a3 a4 a5 v1 h)
set_option maxRecDepth 20000 in
set_option maxHeartbeats 4000000 in
theorem jxX11_reached_22 {g : GC} (hg : isGM g) {X : MX} (N : Nat) (E : JE g mX11_reached X) (K8 : Int32 → Int32 → Int32 → Int32 → HP → Option (Int32 × HP)) (hK8 : ∀ (a2 : Int32) (a3 : Int32) (a4 : Int32) (a5 : Int32) (h : HP), J g mX11_reached X 8 [(0, .ref (g.2.2.1 0)), (2, .int a2), (3, .int a3), (4, .int a4), (5, .int a5)] [] h (K8 a2 a3 a4 a5 h)) : ∀ (n : Nat) (a2 : Int32) (a3 : Int32) (a4 : Int32) (a5 : Int32) (a6 : Int32) (h : HP), J g mX11_reached X 22 [(0, .ref (g.2.2.1 0)), (2, .int a2), (3, .int a3), (4, .int a4), (5, .int a5), (6, .int a6)] [] h (xX11_reached_22 N K8 n a2 a3 a4 a5 a6 h) := by
  intro n
  induction n with
  | zero => intro a2 a3 a4 a5 a6 h; exact j_none
  | succ n ih =>
    intro a2 a3 a4 a5 a6 h
    unfold xX11_reached_22
    refine j_iload E dX11_reached_22 5 rfl ?_
    refine j_aload_n E dX11_reached_24 0 rfl ?_
    refine j_geti E f_X11_145 (cM_0 hg) rfl dX11_reached_25 ?_
    refine j_cmp_ge E 102 dX11_reached_28 rfl ?_ ?_
    · refine j_goto E 8 dX11_reached_102 rfl ?_
      exact j_sub [0, 1, 2, 3, 4] (lv1 := [(0, .ref (g.2.2.1 0)), (2, .int a2), (3, .int a3), (4, .int a4), (5, .int a5)]) rfl (hK8 a2 a3 a4 a5 h)
    · refine j_aload_n E dX11_reached_31 0 rfl ?_
      refine j_iload E dX11_reached_32 5 rfl ?_
      refine j_callvI (As := [.int a6]) (st := []) E (ok_X11_isOpen hg E.2.2.2.2.2.2.2.1 a6 h) (cM_0 hg) (cl_X11_148) (⟨Nat.le_of_ble_eq_true rfl, Nat.le_of_ble_eq_true rfl⟩) rfl rfl (Nat.le_of_ble_eq_true rfl) dX11_reached_34 (fun t1 h2 => ?_)
      refine j_if_eq E 96 dX11_reached_37 rfl ?_ ?_
      · exact jxX11_reached_96 hg N E (xX11_reached_22 N K8 n) ih a2 a3 a4 a5 a6 h2
      · refine j_iload E dX11_reached_40 5 rfl ?_
        refine j_iload_n E dX11_reached_42 2 rfl ?_
        refine j_cmp_eq E 96 dX11_reached_43 rfl ?_ ?_
        · exact jxX11_reached_96 hg N E (xX11_reached_22 N K8 n) ih a2 a3 a4 a5 a6 h2
        · refine j_aload_n E dX11_reached_46 0 rfl ?_
          refine j_getr E f_X11_28 (cM_0 hg) 7 rfl dX11_reached_47 ?_
          refine j_iload E dX11_reached_50 5 rfl ?_
          refine j_iald E (cM_7 hg) dX11_reached_52 (fun t3 => ?_)
          refine j_iload_n E dX11_reached_53 1 rfl ?_
          refine j_cmp_ge E 60 dX11_reached_54 rfl ?_ ?_
          · refine j_iconst E (v := 1) dX11_reached_60 (by decide) ?_
            refine j_aload_n E dX11_reached_61 0 rfl ?_
            refine j_getr E f_X11_22 (cM_0 hg) 5 rfl dX11_reached_62 ?_
            refine j_iload E dX11_reached_65 5 rfl ?_
            refine j_iald E (cM_5 hg) dX11_reached_67 (fun t4 => ?_)
            refine j_ishl E dX11_reached_68 ?_
            refine j_iconst E (v := 1) dX11_reached_69 (by decide) ?_
            refine j_aload_n E dX11_reached_70 0 rfl ?_
            refine j_getr E f_X11_25 (cM_0 hg) 6 rfl dX11_reached_71 ?_
            refine j_iload E dX11_reached_74 5 rfl ?_
            refine j_iald E (cM_6 hg) dX11_reached_76 (fun t5 => ?_)
            refine j_ishl E dX11_reached_77 ?_
            refine j_ior E dX11_reached_78 ?_
            refine j_istore E dX11_reached_79 (Nat.le_of_ble_eq_true rfl) (fun v6 => [(7, .int v6), (0, .ref (g.2.2.1 0)), (2, .int a2), (3, .int a3), (4, .int a4), (5, .int a5), (6, .int a6)]) (fun _ => rfl) (fun v6 => ?_)
            refine j_iload E dX11_reached_81 4 rfl ?_
            refine j_iload E dX11_reached_83 0 rfl ?_
            refine j_iand E dX11_reached_85 ?_
            refine j_if_eq E 96 dX11_reached_86 rfl ?_ ?_
            · exact j_sub [1, 2, 3, 4, 5, 6] (lv1 := [(0, .ref (g.2.2.1 0)), (2, .int a2), (3, .int a3), (4, .int a4), (5, .int a5), (6, .int a6)]) rfl (jxX11_reached_96 hg N E (xX11_reached_22 N K8 n) ih a2 a3 a4 a5 a6 h2)
            · refine j_iload E dX11_reached_89 4 rfl ?_
              refine j_iload E dX11_reached_91 0 rfl ?_
              refine j_ior E dX11_reached_93 ?_
              refine j_istore E dX11_reached_94 (Nat.le_of_ble_eq_true rfl) (fun v7 => [(4, .int v7), (7, .int v6), (0, .ref (g.2.2.1 0)), (2, .int a2), (3, .int a3), (5, .int a5), (6, .int a6)]) (fun _ => rfl) (fun v7 => ?_)
              exact j_sub [2, 3, 4, 0, 5, 6] (lv1 := [(0, .ref (g.2.2.1 0)), (2, .int a2), (3, .int a3), (4, .int v7), (5, .int a5), (6, .int a6)]) rfl (jxX11_reached_96 hg N E (xX11_reached_22 N K8 n) ih a2 a3 v7 a5 a6 h2)
          · refine j_goto E 96 dX11_reached_57 rfl ?_
            exact jxX11_reached_96 hg N E (xX11_reached_22 N K8 n) ih a2 a3 a4 a5 a6 h2
set_option maxRecDepth 20000 in
set_option maxHeartbeats 4000000 in
theorem jxX11_reached_8 {g : GC} (hg : isGM g) {X : MX} (N : Nat) (E : JE g mX11_reached X) : ∀ (n : Nat) (a2 : Int32) (a3 : Int32) (a4 : Int32) (a5 : Int32) (h : HP), J g mX11_reached X 8 [(0, .ref (g.2.2.1 0)), (2, .int a2), (3, .int a3), (4, .int a4), (5, .int a5)] [] h (xX11_reached_8 N n a2 a3 a4 a5 h) := by
  intro n
  induction n with
  | zero => intro a2 a3 a4 a5 h; exact j_none
  | succ n ih =>
    intro a2 a3 a4 a5 h
    unfold xX11_reached_8
    refine j_iload E dX11_reached_8 3 rfl ?_
    refine j_iload E dX11_reached_10 4 rfl ?_
    refine j_cmp_eq E 105 dX11_reached_12 rfl ?_ ?_
    · refine j_iload E dX11_reached_105 3 rfl ?_
      exact j_ireturn E rfl dX11_reached_107
    · refine j_iload E dX11_reached_15 3 rfl ?_
      refine j_istore0 E dX11_reached_17 (Nat.le_of_ble_eq_true rfl) [(5, .int a4), (0, .ref (g.2.2.1 0)), (2, .int a2), (3, .int a3), (4, .int a4)] rfl ?_
      refine j_iconst E (v := 0) dX11_reached_19 (by decide) ?_
      refine j_istore0 E dX11_reached_20 (Nat.le_of_ble_eq_true rfl) [(6, .int 0), (5, .int a4), (0, .ref (g.2.2.1 0)), (2, .int a2), (3, .int a3), (4, .int a4)] rfl ?_
      exact j_sub [2, 3, 4, 5, 1, 0] (lv1 := [(0, .ref (g.2.2.1 0)), (2, .int a2), (3, .int a3), (4, .int a4), (5, .int a4), (6, .int 0)]) rfl (jxX11_reached_22 hg N E (xX11_reached_8 N n) ih N a2 a3 a4 a4 0 h)
set_option maxRecDepth 20000 in
set_option maxHeartbeats 4000000 in
theorem jxX11_reached {g : GC} (hg : isGM g) {X : MX} (N : Nat) (E : JE g mX11_reached X) (a1 : Int32) (a2 : Int32) (a3 : Int32) (h : HP) : J g mX11_reached X 0 [(0, .ref (g.2.2.1 0)), (1, .int a1), (2, .int a2), (3, .int a3)] [] h (xX11_reached N a1 a2 a3 h) := by
  unfold xX11_reached
  refine j_iconst E (v := 1) dX11_reached_0 (by decide) ?_
  refine j_iload_n E dX11_reached_1 1 rfl ?_
  refine j_ishl E dX11_reached_2 ?_
  refine j_istore E dX11_reached_3 (Nat.le_of_ble_eq_true rfl) (fun v1 => [(4, .int v1), (0, .ref (g.2.2.1 0)), (1, .int a1), (2, .int a2), (3, .int a3)]) (fun _ => rfl) (fun v1 => ?_)
  refine j_iconst E (v := 0) dX11_reached_5 (by decide) ?_
  refine j_istore0 E dX11_reached_6 (Nat.le_of_ble_eq_true rfl) [(5, .int 0), (4, .int v1), (0, .ref (g.2.2.1 0)), (1, .int a1), (2, .int a2), (3, .int a3)] rfl ?_
  exact j_sub [2, 4, 5, 1, 0] (lv1 := [(0, .ref (g.2.2.1 0)), (2, .int a2), (3, .int a3), (4, .int v1), (5, .int 0)]) rfl (jxX11_reached_8 hg N E N a2 a3 v1 0 h)
theorem ok_X11_reached {g : GC} (hg : isGM g) (hI : gI g) (N : Nat) (a1 : Int32) (a2 : Int32) (a3 : Int32) (h : HP) : Ok g yX11_reached mX11_reached [.ref (g.2.2.1 0), .int a1, .int a2, .int a3] h (xX11_reached N a1 a2 a3 h) := Ok.of hI (by decide) rfl (Nat.le_of_ble_eq_true rfl) (fun X E => jxX11_reached hg N E a1 a2 a3 h)
set_option maxRecDepth 20000 in
set_option maxHeartbeats 4000000 in
theorem jxX11_widest_14 {g : GC} (hg : isGM g) {X : MX} (N : Nat) (E : JE g mX11_widest X) : ∀ (n : Nat) (a1 : Int32) (a2 : Int32) (a3 : Int32) (h : HP), J g mX11_widest X 14 [(0, .ref (g.2.2.1 0)), (1, .int a1), (2, .int a2), (3, .int a3)] [] h (xX11_widest_14 N n a1 a2 a3 h) := by
  intro n
  induction n with
  | zero => intro a1 a2 a3 h; exact j_none
  | succ n ih =>
    intro a1 a2 a3 h
    unfold xX11_widest_14
    refine j_iload_n E dX11_widest_14 3 rfl ?_
    refine j_if_le E 40 dX11_widest_15 rfl ?_ ?_
    · refine j_bipush E (v := (-2)) dX11_widest_40 (by decide) ?_
      exact j_ireturn E rfl dX11_widest_42
    · refine j_aload_n E dX11_widest_18 0 rfl ?_
      refine j_iload_n E dX11_widest_19 1 rfl ?_
      refine j_iload_n E dX11_widest_20 3 rfl ?_
      refine j_iconst E (v := (-1)) dX11_widest_21 (by decide) ?_
      refine j_callvI (As := [.int a1, .int a3, .int (-1)]) (st := []) E (ok_X11_reached hg E.2.2.2.2.2.2.2.1 N a1 a3 (-1) h) (cM_0 hg) (cl_X11_372) (⟨Nat.le_of_ble_eq_true rfl, Nat.le_of_ble_eq_true rfl⟩) rfl rfl (Nat.le_of_ble_eq_true rfl) dX11_widest_22 (fun t1 h2 => ?_)
      refine j_iload_n E dX11_widest_25 2 rfl ?_
      refine j_callsI (As := [.int t1, .int a2]) (st := []) E (ok_X11_has hg E.2.2.2.2.2.2.2.1 t1 a2 h2) (cl_X11_137) (⟨Nat.le_of_ble_eq_true rfl, Nat.le_of_ble_eq_true rfl⟩) rfl rfl (Nat.le_of_ble_eq_true rfl) dX11_widest_26 (fun t3 h4 => ?_)
      refine j_if_eq E 34 dX11_widest_29 rfl ?_ ?_
      · refine j_iinc E (c := (-1)) dX11_widest_34 3 rfl (by decide) (Nat.le_of_ble_eq_true rfl) (fun v5 => [(3, .int v5), (0, .ref (g.2.2.1 0)), (1, .int a1), (2, .int a2)]) (fun _ => rfl) (fun v5 => ?_)
        refine j_goto E 14 dX11_widest_37 rfl ?_
        exact j_sub [1, 2, 3, 0] (lv1 := [(0, .ref (g.2.2.1 0)), (1, .int a1), (2, .int a2), (3, .int v5)]) rfl (ih a1 a2 v5 h4)
      · refine j_iload_n E dX11_widest_32 3 rfl ?_
        exact j_ireturn E rfl dX11_widest_33
set_option maxRecDepth 20000 in
set_option maxHeartbeats 4000000 in
theorem jxX11_widest {g : GC} (hg : isGM g) {X : MX} (N : Nat) (E : JE g mX11_widest X) (a1 : Int32) (a2 : Int32) (h : HP) : J g mX11_widest X 0 [(0, .ref (g.2.2.1 0)), (1, .int a1), (2, .int a2)] [] h (xX11_widest N a1 a2 h) := by
  unfold xX11_widest
  refine j_aload_n E dX11_widest_0 0 rfl ?_
  refine j_iload_n E dX11_widest_1 1 rfl ?_
  refine j_iload_n E dX11_widest_2 2 rfl ?_
  refine j_callvI (As := [.int a1, .int a2]) (st := []) E (ok_X11_areTwo hg E.2.2.2.2.2.2.2.1 a1 a2 h) (cM_0 hg) (cl_X11_366) (⟨Nat.le_of_ble_eq_true rfl, Nat.le_of_ble_eq_true rfl⟩) rfl rfl (Nat.le_of_ble_eq_true rfl) dX11_widest_3 (fun t1 h2 => ?_)
  refine j_if_ne E 11 dX11_widest_6 rfl ?_ ?_
  · refine j_bipush E (v := 99) dX11_widest_11 (by decide) ?_
    refine j_istore0_n E dX11_widest_13 (Nat.le_of_ble_eq_true rfl) [(3, .int 99), (0, .ref (g.2.2.1 0)), (1, .int a1), (2, .int a2)] rfl ?_
    exact j_sub [1, 2, 3, 0] (lv1 := [(0, .ref (g.2.2.1 0)), (1, .int a1), (2, .int a2), (3, .int 99)]) rfl (jxX11_widest_14 hg N E N a1 a2 99 h2)
  · refine j_iconst E (v := (-1)) dX11_widest_9 (by decide) ?_
    exact j_ireturn E rfl dX11_widest_10
theorem ok_X11_widest {g : GC} (hg : isGM g) (hI : gI g) (N : Nat) (a1 : Int32) (a2 : Int32) (h : HP) : Ok g yX11_widest mX11_widest [.ref (g.2.2.1 0), .int a1, .int a2] h (xX11_widest N a1 a2 h) := Ok.of hI (by decide) rfl (Nat.le_of_ble_eq_true rfl) (fun X E => jxX11_widest hg N E a1 a2 h)
set_option maxRecDepth 20000 in
set_option maxHeartbeats 4000000 in
theorem jxX11_laysSteps_174 {g : GC} (hg : isGM g) {X : MX} (N : Nat) (E : JE g mX11_laysSteps X) (K64 : Int32 → Int32 → Int32 → Int32 → HP → Option (Int32 × HP)) (hK64 : ∀ (a1 : Int32) (a2 : Int32) (a3 : Int32) (a4 : Int32) (h : HP), J g mX11_laysSteps X 64 [(0, .ref (g.2.2.1 0)), (1, .int a1), (2, .int a2), (3, .int a3), (4, .int a4)] [] h (K64 a1 a2 a3 a4 h)) (a1 : Int32) (a2 : Int32) (a3 : Int32) (a4 : Int32) (h : HP) : J g mX11_laysSteps X 174 [(0, .ref (g.2.2.1 0)), (1, .int a1), (2, .int a2), (3, .int a3), (4, .int a4)] [] h (xX11_laysSteps_174 N K64 a1 a2 a3 a4 h) := by
  unfold xX11_laysSteps_174
  refine j_iinc E (c := 1) dX11_laysSteps_174 4 rfl (by decide) (Nat.le_of_ble_eq_true rfl) (fun v1 => [(4, .int v1), (0, .ref (g.2.2.1 0)), (1, .int a1), (2, .int a2), (3, .int a3)]) (fun _ => rfl) (fun v1 => ?_)
  refine j_goto E 64 dX11_laysSteps_177 rfl ?_
  exact j_sub [1, 2, 3, 4, 0] (lv1 := [(0, .ref (g.2.2.1 0)), (1, .int a1), (2, .int a2), (3, .int a3), (4, .int v1)]) rfl (hK64 a1 a2 a3 v1 h)
set_option maxRecDepth 20000 in
set_option maxHeartbeats 4000000 in
theorem jxX11_laysSteps_95 {g : GC} (hg : isGM g) {X : MX} (N : Nat) (E : JE g mX11_laysSteps X) (K64 : Int32 → Int32 → Int32 → Int32 → HP → Option (Int32 × HP)) (hK64 : ∀ (a1 : Int32) (a2 : Int32) (a3 : Int32) (a4 : Int32) (h : HP), J g mX11_laysSteps X 64 [(0, .ref (g.2.2.1 0)), (1, .int a1), (2, .int a2), (3, .int a3), (4, .int a4)] [] h (K64 a1 a2 a3 a4 h)) (a1 : Int32) (a2 : Int32) (a3 : Int32) (a4 : Int32) (s0 : Int32) (h : HP) : J g mX11_laysSteps X 95 [(0, .ref (g.2.2.1 0)), (1, .int a1), (2, .int a2), (3, .int a3), (4, .int a4)] [.int s0] h (xX11_laysSteps_95 N K64 a1 a2 a3 a4 s0 h) := by
  unfold xX11_laysSteps_95
  refine j_istore0 E dX11_laysSteps_95 (Nat.le_of_ble_eq_true rfl) [(5, .int s0), (0, .ref (g.2.2.1 0)), (1, .int a1), (2, .int a2), (3, .int a3), (4, .int a4)] rfl ?_
  refine j_iload E dX11_laysSteps_97 0 rfl ?_
  refine j_iconst E (v := (-1)) dX11_laysSteps_99 (by decide) ?_
  refine j_cmp_eq E 174 dX11_laysSteps_100 rfl ?_ ?_
  · exact j_sub [1, 2, 3, 4, 5] (lv1 := [(0, .ref (g.2.2.1 0)), (1, .int a1), (2, .int a2), (3, .int a3), (4, .int a4)]) rfl (jxX11_laysSteps_174 hg N E K64 hK64 a1 a2 a3 a4 h)
  · refine j_aload_n E dX11_laysSteps_103 1 rfl ?_
    refine j_getr E f_X11_95 (cM_0 hg) 29 rfl dX11_laysSteps_104 ?_
    refine j_bipush E (v := 16) dX11_laysSteps_107 (by decide) ?_
    refine j_iload_n E dX11_laysSteps_109 2 rfl ?_
    refine j_imul E dX11_laysSteps_110 ?_
    refine j_iload E dX11_laysSteps_111 0 rfl ?_
    refine j_iadd E dX11_laysSteps_113 ?_
    refine j_iald E (cM_29 hg) dX11_laysSteps_114 (fun t1 => ?_)
    refine j_bipush E (v := (-2)) dX11_laysSteps_115 (by decide) ?_
    refine j_cmp_eq E 123 dX11_laysSteps_117 rfl ?_ ?_
    · refine j_aload_n E dX11_laysSteps_123 1 rfl ?_
      refine j_getr E f_X11_95 (cM_0 hg) 29 rfl dX11_laysSteps_124 ?_
      refine j_bipush E (v := 16) dX11_laysSteps_127 (by decide) ?_
      refine j_iload_n E dX11_laysSteps_129 2 rfl ?_
      refine j_imul E dX11_laysSteps_130 ?_
      refine j_iload E dX11_laysSteps_131 0 rfl ?_
      refine j_iadd E dX11_laysSteps_133 ?_
      refine j_aload_n E dX11_laysSteps_134 1 rfl ?_
      refine j_getr E f_X11_95 (cM_0 hg) 29 rfl dX11_laysSteps_135 ?_
      refine j_bipush E (v := 16) dX11_laysSteps_138 (by decide) ?_
      refine j_iload_n E dX11_laysSteps_140 2 rfl ?_
      refine j_imul E dX11_laysSteps_141 ?_
      refine j_aload_n E dX11_laysSteps_142 1 rfl ?_
      refine j_getr E f_X11_92 (cM_0 hg) 28 rfl dX11_laysSteps_143 ?_
      refine j_iload_n E dX11_laysSteps_146 4 rfl ?_
      refine j_iald E (cM_28 hg) dX11_laysSteps_147 (fun t2 => ?_)
      refine j_iadd E dX11_laysSteps_148 ?_
      refine j_iald E (cM_29 hg) dX11_laysSteps_149 (fun t3 => ?_)
      refine j_iconst E (v := 1) dX11_laysSteps_150 (by decide) ?_
      refine j_iadd E dX11_laysSteps_151 ?_
      refine j_iast E (cM_29 hg) dX11_laysSteps_152 (fun h4 => ?_)
      refine j_aload_n E dX11_laysSteps_153 1 rfl ?_
      refine j_getr E f_X11_92 (cM_0 hg) 28 rfl dX11_laysSteps_154 ?_
      refine j_aload_n E dX11_laysSteps_157 1 rfl ?_
      refine j_geti E f_X11_348 (cM_0 hg) rfl dX11_laysSteps_158 ?_
      refine j_iload E dX11_laysSteps_161 0 rfl ?_
      refine j_iast E (cM_28 hg) dX11_laysSteps_163 (fun h5 => ?_)
      refine j_aload_n E dX11_laysSteps_164 1 rfl ?_
      refine j_aload_n E dX11_laysSteps_165 1 rfl ?_
      refine j_geti E f_X11_348 (cM_0 hg) rfl dX11_laysSteps_166 ?_
      refine j_iconst E (v := 1) dX11_laysSteps_169 (by decide) ?_
      refine j_iadd E dX11_laysSteps_170 ?_
      refine j_puti E fp_X11_348 (cM_0 hg) rfl dX11_laysSteps_171 (fun h6 => ?_)
      exact j_sub [1, 2, 3, 4, 5] (lv1 := [(0, .ref (g.2.2.1 0)), (1, .int a1), (2, .int a2), (3, .int a3), (4, .int a4)]) rfl (jxX11_laysSteps_174 hg N E K64 hK64 a1 a2 a3 a4 h6)
    · refine j_goto E 174 dX11_laysSteps_120 rfl ?_
      exact j_sub [1, 2, 3, 4, 5] (lv1 := [(0, .ref (g.2.2.1 0)), (1, .int a1), (2, .int a2), (3, .int a3), (4, .int a4)]) rfl (jxX11_laysSteps_174 hg N E K64 hK64 a1 a2 a3 a4 h)
set_option maxRecDepth 20000 in
set_option maxHeartbeats 4000000 in
theorem jxX11_laysSteps_64 {g : GC} (hg : isGM g) {X : MX} (N : Nat) (E : JE g mX11_laysSteps X) (K53 : Int32 → Int32 → Int32 → HP → Option (Int32 × HP)) (hK53 : ∀ (a1 : Int32) (a2 : Int32) (a3 : Int32) (h : HP), J g mX11_laysSteps X 53 [(0, .ref (g.2.2.1 0)), (1, .int a1), (2, .int a2), (3, .int a3)] [] h (K53 a1 a2 a3 h)) : ∀ (n : Nat) (a1 : Int32) (a2 : Int32) (a3 : Int32) (a4 : Int32) (h : HP), J g mX11_laysSteps X 64 [(0, .ref (g.2.2.1 0)), (1, .int a1), (2, .int a2), (3, .int a3), (4, .int a4)] [] h (xX11_laysSteps_64 N K53 n a1 a2 a3 a4 h) := by
  intro n
  induction n with
  | zero => intro a1 a2 a3 a4 h; exact j_none
  | succ n ih =>
    intro a1 a2 a3 a4 h
    unfold xX11_laysSteps_64
    refine j_iload E dX11_laysSteps_64 4 rfl ?_
    refine j_aload_n E dX11_laysSteps_66 0 rfl ?_
    refine j_geti E f_X11_145 (cM_0 hg) rfl dX11_laysSteps_67 ?_
    refine j_cmp_ge E 180 dX11_laysSteps_70 rfl ?_ ?_
    · refine j_iinc E (c := 1) dX11_laysSteps_180 3 rfl (by decide) (Nat.le_of_ble_eq_true rfl) (fun v1 => [(3, .int v1), (0, .ref (g.2.2.1 0)), (1, .int a1), (2, .int a2), (4, .int a4)]) (fun _ => rfl) (fun v1 => ?_)
      refine j_goto E 53 dX11_laysSteps_183 rfl ?_
      exact j_sub [1, 2, 3, 0] (lv1 := [(0, .ref (g.2.2.1 0)), (1, .int a1), (2, .int a2), (3, .int v1)]) rfl (hK53 a1 a2 v1 h)
    · refine j_iload E dX11_laysSteps_73 4 rfl ?_
      refine j_iload_n E dX11_laysSteps_75 2 rfl ?_
      refine j_cmp_ne E 83 dX11_laysSteps_76 rfl ?_ ?_
      · refine j_aload_n E dX11_laysSteps_83 0 rfl ?_
        refine j_iload E dX11_laysSteps_84 4 rfl ?_
        refine j_aload_n E dX11_laysSteps_86 0 rfl ?_
        refine j_getr E f_X11_92 (cM_0 hg) 28 rfl dX11_laysSteps_87 ?_
        refine j_iload_n E dX11_laysSteps_90 3 rfl ?_
        refine j_iald E (cM_28 hg) dX11_laysSteps_91 (fun t2 => ?_)
        refine j_callvI (As := [.int a4, .int t2]) (st := []) E (ok_X11_beyond hg E.2.2.2.2.2.2.2.1 a4 t2 h) (cM_0 hg) (cl_X11_151) (⟨Nat.le_of_ble_eq_true rfl, Nat.le_of_ble_eq_true rfl⟩) rfl rfl (Nat.le_of_ble_eq_true rfl) dX11_laysSteps_92 (fun t3 h4 => ?_)
        exact jxX11_laysSteps_95 hg N E (xX11_laysSteps_64 N K53 n) ih a1 a2 a3 a4 t3 h4
      · refine j_iconst E (v := (-1)) dX11_laysSteps_79 (by decide) ?_
        refine j_goto E 95 dX11_laysSteps_80 rfl ?_
        exact jxX11_laysSteps_95 hg N E (xX11_laysSteps_64 N K53 n) ih a1 a2 a3 a4 (-1) h
set_option maxRecDepth 20000 in
set_option maxHeartbeats 4000000 in
theorem jxX11_laysSteps_53 {g : GC} (hg : isGM g) {X : MX} (N : Nat) (E : JE g mX11_laysSteps X) : ∀ (n : Nat) (a1 : Int32) (a2 : Int32) (a3 : Int32) (h : HP), J g mX11_laysSteps X 53 [(0, .ref (g.2.2.1 0)), (1, .int a1), (2, .int a2), (3, .int a3)] [] h (xX11_laysSteps_53 N n a1 a2 a3 h) := by
  intro n
  induction n with
  | zero => intro a1 a2 a3 h; exact j_none
  | succ n ih =>
    intro a1 a2 a3 h
    unfold xX11_laysSteps_53
    refine j_iload_n E dX11_laysSteps_53 3 rfl ?_
    refine j_aload_n E dX11_laysSteps_54 0 rfl ?_
    refine j_geti E f_X11_348 (cM_0 hg) rfl dX11_laysSteps_55 ?_
    refine j_cmp_ge E 186 dX11_laysSteps_58 rfl ?_ ?_
    · exact j_vreturn E rfl dX11_laysSteps_186
    · refine j_iconst E (v := 0) dX11_laysSteps_61 (by decide) ?_
      refine j_istore0 E dX11_laysSteps_62 (Nat.le_of_ble_eq_true rfl) [(4, .int 0), (0, .ref (g.2.2.1 0)), (1, .int a1), (2, .int a2), (3, .int a3)] rfl ?_
      exact j_sub [1, 2, 3, 4, 0] (lv1 := [(0, .ref (g.2.2.1 0)), (1, .int a1), (2, .int a2), (3, .int a3), (4, .int 0)]) rfl (jxX11_laysSteps_64 hg N E (xX11_laysSteps_53 N n) ih N a1 a2 a3 0 h)
set_option maxRecDepth 20000 in
set_option maxHeartbeats 4000000 in
theorem jxX11_laysSteps_2 {g : GC} (hg : isGM g) {X : MX} (N : Nat) (E : JE g mX11_laysSteps X) : ∀ (n : Nat) (a1 : Int32) (a2 : Int32) (a3 : Int32) (h : HP), J g mX11_laysSteps X 2 [(0, .ref (g.2.2.1 0)), (1, .int a1), (2, .int a2), (3, .int a3)] [] h (xX11_laysSteps_2 N n a1 a2 a3 h) := by
  intro n
  induction n with
  | zero => intro a1 a2 a3 h; exact j_none
  | succ n ih =>
    intro a1 a2 a3 h
    unfold xX11_laysSteps_2
    refine j_iload_n E dX11_laysSteps_2 3 rfl ?_
    refine j_bipush E (v := 16) dX11_laysSteps_3 (by decide) ?_
    refine j_cmp_ge E 27 dX11_laysSteps_5 rfl ?_ ?_
    · refine j_aload_n E dX11_laysSteps_27 0 rfl ?_
      refine j_getr E f_X11_95 (cM_0 hg) 29 rfl dX11_laysSteps_28 ?_
      refine j_bipush E (v := 16) dX11_laysSteps_31 (by decide) ?_
      refine j_iload_n E dX11_laysSteps_33 1 rfl ?_
      refine j_imul E dX11_laysSteps_34 ?_
      refine j_iload_n E dX11_laysSteps_35 1 rfl ?_
      refine j_iadd E dX11_laysSteps_36 ?_
      refine j_iconst E (v := 0) dX11_laysSteps_37 (by decide) ?_
      refine j_iast E (cM_29 hg) dX11_laysSteps_38 (fun h1 => ?_)
      refine j_aload_n E dX11_laysSteps_39 0 rfl ?_
      refine j_getr E f_X11_92 (cM_0 hg) 28 rfl dX11_laysSteps_40 ?_
      refine j_iconst E (v := 0) dX11_laysSteps_43 (by decide) ?_
      refine j_iload_n E dX11_laysSteps_44 1 rfl ?_
      refine j_iast E (cM_28 hg) dX11_laysSteps_45 (fun h2 => ?_)
      refine j_aload_n E dX11_laysSteps_46 0 rfl ?_
      refine j_iconst E (v := 1) dX11_laysSteps_47 (by decide) ?_
      refine j_puti E fp_X11_348 (cM_0 hg) rfl dX11_laysSteps_48 (fun h3 => ?_)
      refine j_iconst E (v := 0) dX11_laysSteps_51 (by decide) ?_
      refine j_istore0_n E dX11_laysSteps_52 (Nat.le_of_ble_eq_true rfl) [(3, .int 0), (0, .ref (g.2.2.1 0)), (1, .int a1), (2, .int a2)] rfl ?_
      exact j_sub [1, 2, 3, 0] (lv1 := [(0, .ref (g.2.2.1 0)), (1, .int a1), (2, .int a2), (3, .int 0)]) rfl (jxX11_laysSteps_53 hg N E N a1 a2 0 h3)
    · refine j_aload_n E dX11_laysSteps_8 0 rfl ?_
      refine j_getr E f_X11_95 (cM_0 hg) 29 rfl dX11_laysSteps_9 ?_
      refine j_bipush E (v := 16) dX11_laysSteps_12 (by decide) ?_
      refine j_iload_n E dX11_laysSteps_14 1 rfl ?_
      refine j_imul E dX11_laysSteps_15 ?_
      refine j_iload_n E dX11_laysSteps_16 3 rfl ?_
      refine j_iadd E dX11_laysSteps_17 ?_
      refine j_bipush E (v := (-2)) dX11_laysSteps_18 (by decide) ?_
      refine j_iast E (cM_29 hg) dX11_laysSteps_20 (fun h4 => ?_)
      refine j_iinc E (c := 1) dX11_laysSteps_21 3 rfl (by decide) (Nat.le_of_ble_eq_true rfl) (fun v5 => [(3, .int v5), (0, .ref (g.2.2.1 0)), (1, .int a1), (2, .int a2)]) (fun _ => rfl) (fun v5 => ?_)
      refine j_goto E 2 dX11_laysSteps_24 rfl ?_
      exact j_sub [1, 2, 3, 0] (lv1 := [(0, .ref (g.2.2.1 0)), (1, .int a1), (2, .int a2), (3, .int v5)]) rfl (ih a1 a2 v5 h4)
set_option maxRecDepth 20000 in
set_option maxHeartbeats 4000000 in
theorem jxX11_laysSteps {g : GC} (hg : isGM g) {X : MX} (N : Nat) (E : JE g mX11_laysSteps X) (a1 : Int32) (a2 : Int32) (h : HP) : J g mX11_laysSteps X 0 [(0, .ref (g.2.2.1 0)), (1, .int a1), (2, .int a2)] [] h (xX11_laysSteps N a1 a2 h) := by
  unfold xX11_laysSteps
  refine j_iconst E (v := 0) dX11_laysSteps_0 (by decide) ?_
  refine j_istore0_n E dX11_laysSteps_1 (Nat.le_of_ble_eq_true rfl) [(3, .int 0), (0, .ref (g.2.2.1 0)), (1, .int a1), (2, .int a2)] rfl ?_
  exact j_sub [1, 2, 3, 0] (lv1 := [(0, .ref (g.2.2.1 0)), (1, .int a1), (2, .int a2), (3, .int 0)]) rfl (jxX11_laysSteps_2 hg N E N a1 a2 0 h)
theorem ok_X11_laysSteps {g : GC} (hg : isGM g) (hI : gI g) (N : Nat) (a1 : Int32) (a2 : Int32) (h : HP) : Ok g yX11_laysSteps mX11_laysSteps [.ref (g.2.2.1 0), .int a1, .int a2] h (xX11_laysSteps N a1 a2 h) := Ok.of hI (by decide) rfl (Nat.le_of_ble_eq_true rfl) (fun X E => jxX11_laysSteps hg N E a1 a2 h)
set_option maxRecDepth 20000 in
set_option maxHeartbeats 4000000 in
theorem jxX11_far {g : GC} (hg : isGM g) {X : MX} (E : JE g mX11_far X) (a1 : Int32) (a2 : Int32) (h : HP) : J g mX11_far X 0 [(0, .ref (g.2.2.1 0)), (1, .int a1), (2, .int a2)] [] h (xX11_far a1 a2 h) := by
  unfold xX11_far
  refine j_aload_n E dX11_far_0 0 rfl ?_
  refine j_getr E f_X11_95 (cM_0 hg) 29 rfl dX11_far_1 ?_
  refine j_bipush E (v := 16) dX11_far_4 (by decide) ?_
  refine j_iload_n E dX11_far_6 1 rfl ?_
  refine j_imul E dX11_far_7 ?_
  refine j_iload_n E dX11_far_8 2 rfl ?_
  refine j_iadd E dX11_far_9 ?_
  refine j_iald E (cM_29 hg) dX11_far_10 (fun t1 => ?_)
  exact j_ireturn E rfl dX11_far_11
theorem ok_X11_far {g : GC} (hg : isGM g) (hI : gI g) (a1 : Int32) (a2 : Int32) (h : HP) : Ok g yX11_far mX11_far [.ref (g.2.2.1 0), .int a1, .int a2] h (xX11_far a1 a2 h) := Ok.of hI (by decide) rfl (Nat.le_of_ble_eq_true rfl) (fun X E => jxX11_far hg E a1 a2 h)
set_option maxRecDepth 20000 in
set_option maxHeartbeats 4000000 in
theorem jxX11_laysAllSteps_22 {g : GC} (hg : isGM g) {X : MX} (N : Nat) (E : JE g mX11_laysAllSteps X) (K2 : Int32 → HP → Option (Int32 × HP)) (hK2 : ∀ (a1 : Int32) (h : HP), J g mX11_laysAllSteps X 2 [(0, .ref (g.2.2.1 0)), (1, .int a1)] [] h (K2 a1 h)) (a1 : Int32) (h : HP) : J g mX11_laysAllSteps X 22 [(0, .ref (g.2.2.1 0)), (1, .int a1)] [] h (xX11_laysAllSteps_22 N K2 a1 h) := by
  unfold xX11_laysAllSteps_22
  refine j_iinc E (c := 1) dX11_laysAllSteps_22 1 rfl (by decide) (Nat.le_of_ble_eq_true rfl) (fun v1 => [(1, .int v1), (0, .ref (g.2.2.1 0))]) (fun _ => rfl) (fun v1 => ?_)
  refine j_goto E 2 dX11_laysAllSteps_25 rfl ?_
  exact j_sub [1, 0] (lv1 := [(0, .ref (g.2.2.1 0)), (1, .int v1)]) rfl (hK2 v1 h)
set_option maxRecDepth 20000 in
set_option maxHeartbeats 4000000 in
theorem jxX11_laysAllSteps_2 {g : GC} (hg : isGM g) {X : MX} (N : Nat) (E : JE g mX11_laysAllSteps X) : ∀ (n : Nat) (a1 : Int32) (h : HP), J g mX11_laysAllSteps X 2 [(0, .ref (g.2.2.1 0)), (1, .int a1)] [] h (xX11_laysAllSteps_2 N n a1 h) := by
  intro n
  induction n with
  | zero => intro a1 h; exact j_none
  | succ n ih =>
    intro a1 h
    unfold xX11_laysAllSteps_2
    refine j_iload_n E dX11_laysAllSteps_2 1 rfl ?_
    refine j_bipush E (v := 16) dX11_laysAllSteps_3 (by decide) ?_
    refine j_cmp_ge E 28 dX11_laysAllSteps_5 rfl ?_ ?_
    · exact j_vreturn E rfl dX11_laysAllSteps_28
    · refine j_aload_n E dX11_laysAllSteps_8 0 rfl ?_
      refine j_iload_n E dX11_laysAllSteps_9 1 rfl ?_
      refine j_callvI (As := [.int a1]) (st := []) E (ok_X11_isTold hg E.2.2.2.2.2.2.2.1 a1 h) (cM_0 hg) (cl_X11_141) (⟨Nat.le_of_ble_eq_true rfl, Nat.le_of_ble_eq_true rfl⟩) rfl rfl (Nat.le_of_ble_eq_true rfl) dX11_laysAllSteps_10 (fun t1 h2 => ?_)
      refine j_if_eq E 22 dX11_laysAllSteps_13 rfl ?_ ?_
      · exact jxX11_laysAllSteps_22 hg N E (xX11_laysAllSteps_2 N n) ih a1 h2
      · refine j_aload_n E dX11_laysAllSteps_16 0 rfl ?_
        refine j_iload_n E dX11_laysAllSteps_17 1 rfl ?_
        refine j_iconst E (v := (-1)) dX11_laysAllSteps_18 (by decide) ?_
        refine j_callvV (As := [.int a1, .int (-1)]) (st := []) E (ok_X11_laysSteps hg E.2.2.2.2.2.2.2.1 N a1 (-1) h2) (cM_0 hg) (cl_X11_375) (⟨Nat.le_of_ble_eq_true rfl, Nat.le_of_ble_eq_true rfl⟩) rfl rfl (Nat.le_of_ble_eq_true rfl) dX11_laysAllSteps_19 (fun t3 h4 => ?_)
        exact jxX11_laysAllSteps_22 hg N E (xX11_laysAllSteps_2 N n) ih a1 h4
set_option maxRecDepth 20000 in
set_option maxHeartbeats 4000000 in
theorem jxX11_laysAllSteps {g : GC} (hg : isGM g) {X : MX} (N : Nat) (E : JE g mX11_laysAllSteps X) (h : HP) : J g mX11_laysAllSteps X 0 [(0, .ref (g.2.2.1 0))] [] h (xX11_laysAllSteps N h) := by
  unfold xX11_laysAllSteps
  refine j_iconst E (v := 0) dX11_laysAllSteps_0 (by decide) ?_
  refine j_istore0_n E dX11_laysAllSteps_1 (Nat.le_of_ble_eq_true rfl) [(1, .int 0), (0, .ref (g.2.2.1 0))] rfl ?_
  exact j_sub [1, 0] (lv1 := [(0, .ref (g.2.2.1 0)), (1, .int 0)]) rfl (jxX11_laysAllSteps_2 hg N E N 0 h)
theorem ok_X11_laysAllSteps {g : GC} (hg : isGM g) (hI : gI g) (N : Nat) (h : HP) : Ok g yX11_laysAllSteps mX11_laysAllSteps [.ref (g.2.2.1 0)] h (xX11_laysAllSteps N h) := Ok.of hI (by decide) rfl (Nat.le_of_ble_eq_true rfl) (fun X E => jxX11_laysAllSteps hg N E h)
set_option maxRecDepth 20000 in
set_option maxHeartbeats 4000000 in
theorem jxX11_steps_16 {g : GC} (hg : isGM g) {X : MX} (N : Nat) (E : JE g mX11_steps X) (h : HP) : J g mX11_steps X 16 [] [] h (xX11_steps_16 N h) := by
  unfold xX11_steps_16
  refine j_iconst E (v := (-1)) dX11_steps_16 (by decide) ?_
  exact j_ireturn E rfl dX11_steps_17
set_option maxRecDepth 20000 in
set_option maxHeartbeats 4000000 in
theorem jxX11_steps {g : GC} (hg : isGM g) {X : MX} (N : Nat) (E : JE g mX11_steps X) (a1 : Int32) (a2 : Int32) (h : HP) : J g mX11_steps X 0 [(0, .ref (g.2.2.1 0)), (1, .int a1), (2, .int a2)] [] h (xX11_steps N a1 a2 h) := by
  unfold xX11_steps
  refine j_aload_n E dX11_steps_0 0 rfl ?_
  refine j_iload_n E dX11_steps_1 1 rfl ?_
  refine j_callvI (As := [.int a1]) (st := []) E (ok_X11_isTold hg E.2.2.2.2.2.2.2.1 a1 h) (cM_0 hg) (cl_X11_141) (⟨Nat.le_of_ble_eq_true rfl, Nat.le_of_ble_eq_true rfl⟩) rfl rfl (Nat.le_of_ble_eq_true rfl) dX11_steps_2 (fun t1 h2 => ?_)
  refine j_if_eq E 16 dX11_steps_5 rfl ?_ ?_
  · exact j_sub [] (lv1 := []) rfl (jxX11_steps_16 hg N E h2)
  · refine j_aload_n E dX11_steps_8 0 rfl ?_
    refine j_iload_n E dX11_steps_9 2 rfl ?_
    refine j_callvI (As := [.int a2]) (st := []) E (ok_X11_isTold hg E.2.2.2.2.2.2.2.1 a2 h2) (cM_0 hg) (cl_X11_141) (⟨Nat.le_of_ble_eq_true rfl, Nat.le_of_ble_eq_true rfl⟩) rfl rfl (Nat.le_of_ble_eq_true rfl) dX11_steps_10 (fun t3 h4 => ?_)
    refine j_if_ne E 18 dX11_steps_13 rfl ?_ ?_
    · refine j_aload_n E dX11_steps_18 0 rfl ?_
      refine j_iload_n E dX11_steps_19 1 rfl ?_
      refine j_iconst E (v := (-1)) dX11_steps_20 (by decide) ?_
      refine j_callvV (As := [.int a1, .int (-1)]) (st := []) E (ok_X11_laysSteps hg E.2.2.2.2.2.2.2.1 N a1 (-1) h4) (cM_0 hg) (cl_X11_375) (⟨Nat.le_of_ble_eq_true rfl, Nat.le_of_ble_eq_true rfl⟩) rfl rfl (Nat.le_of_ble_eq_true rfl) dX11_steps_21 (fun t5 h6 => ?_)
      refine j_aload_n E dX11_steps_24 0 rfl ?_
      refine j_iload_n E dX11_steps_25 1 rfl ?_
      refine j_iload_n E dX11_steps_26 2 rfl ?_
      refine j_callvI (As := [.int a1, .int a2]) (st := []) E (ok_X11_far hg E.2.2.2.2.2.2.2.1 a1 a2 h6) (cM_0 hg) (cl_X11_378) (⟨Nat.le_of_ble_eq_true rfl, Nat.le_of_ble_eq_true rfl⟩) rfl rfl (Nat.le_of_ble_eq_true rfl) dX11_steps_27 (fun t7 h8 => ?_)
      exact j_ireturn E rfl dX11_steps_30
    · exact j_sub [] (lv1 := []) rfl (jxX11_steps_16 hg N E h4)
theorem ok_X11_steps {g : GC} (hg : isGM g) (hI : gI g) (N : Nat) (a1 : Int32) (a2 : Int32) (h : HP) : Ok g yX11_steps mX11_steps [.ref (g.2.2.1 0), .int a1, .int a2] h (xX11_steps N a1 a2 h) := Ok.of hI (by decide) rfl (Nat.le_of_ble_eq_true rfl) (fun X E => jxX11_steps hg N E a1 a2 h)
set_option maxRecDepth 20000 in
set_option maxHeartbeats 4000000 in
theorem jxX11_bridges_75 {g : GC} (hg : isGM g) {X : MX} (N : Nat) (E : JE g mX11_bridges X) (K24 : Int32 → Int32 → Int32 → Int32 → HP → Option (Int32 × HP)) (hK24 : ∀ (a1 : Int32) (a2 : Int32) (a3 : Int32) (a4 : Int32) (h : HP), J g mX11_bridges X 24 [(0, .ref (g.2.2.1 0)), (1, .int a1), (2, .int a2), (3, .int a3), (4, .int a4)] [] h (K24 a1 a2 a3 a4 h)) (a1 : Int32) (a2 : Int32) (a3 : Int32) (a4 : Int32) (h : HP) : J g mX11_bridges X 75 [(0, .ref (g.2.2.1 0)), (1, .int a1), (2, .int a2), (3, .int a3), (4, .int a4)] [] h (xX11_bridges_75 N K24 a1 a2 a3 a4 h) := by
  unfold xX11_bridges_75
  refine j_iinc E (c := (-1)) dX11_bridges_75 4 rfl (by decide) (Nat.le_of_ble_eq_true rfl) (fun v1 => [(4, .int v1), (0, .ref (g.2.2.1 0)), (1, .int a1), (2, .int a2), (3, .int a3)]) (fun _ => rfl) (fun v1 => ?_)
  refine j_goto E 24 dX11_bridges_78 rfl ?_
  exact j_sub [1, 2, 3, 4, 0] (lv1 := [(0, .ref (g.2.2.1 0)), (1, .int a1), (2, .int a2), (3, .int a3), (4, .int v1)]) rfl (hK24 a1 a2 a3 v1 h)
set_option maxRecDepth 20000 in
set_option maxHeartbeats 4000000 in
theorem jxX11_bridges_90 {g : GC} (hg : isGM g) {X : MX} (N : Nat) (E : JE g mX11_bridges X) (s0 : Int32) (h : HP) : J g mX11_bridges X 90 [] [.int s0] h (xX11_bridges_90 N s0 h) := by
  unfold xX11_bridges_90
  exact j_ireturn E rfl dX11_bridges_90
set_option maxRecDepth 20000 in
set_option maxHeartbeats 4000000 in
theorem jxX11_bridges_24 {g : GC} (hg : isGM g) {X : MX} (N : Nat) (E : JE g mX11_bridges X) : ∀ (n : Nat) (a1 : Int32) (a2 : Int32) (a3 : Int32) (a4 : Int32) (h : HP), J g mX11_bridges X 24 [(0, .ref (g.2.2.1 0)), (1, .int a1), (2, .int a2), (3, .int a3), (4, .int a4)] [] h (xX11_bridges_24 N n a1 a2 a3 a4 h) := by
  intro n
  induction n with
  | zero => intro a1 a2 a3 a4 h; exact j_none
  | succ n ih =>
    intro a1 a2 a3 a4 h
    unfold xX11_bridges_24
    refine j_iload E dX11_bridges_24 4 rfl ?_
    refine j_if_lt E 81 dX11_bridges_26 rfl ?_ ?_
    · refine j_iload_n E dX11_bridges_81 1 rfl ?_
      refine j_if_ne E 89 dX11_bridges_82 rfl ?_ ?_
      · refine j_iload_n E dX11_bridges_89 3 rfl ?_
        exact j_sub [] (lv1 := []) rfl (jxX11_bridges_90 hg N E a3 h)
      · refine j_iload_n E dX11_bridges_85 2 rfl ?_
        refine j_goto E 90 dX11_bridges_86 rfl ?_
        exact j_sub [] (lv1 := []) rfl (jxX11_bridges_90 hg N E a2 h)
    · refine j_aload_n E dX11_bridges_29 0 rfl ?_
      refine j_iload E dX11_bridges_30 4 rfl ?_
      refine j_callvI (As := [.int a4]) (st := []) E (ok_X11_isOpen hg E.2.2.2.2.2.2.2.1 a4 h) (cM_0 hg) (cl_X11_148) (⟨Nat.le_of_ble_eq_true rfl, Nat.le_of_ble_eq_true rfl⟩) rfl rfl (Nat.le_of_ble_eq_true rfl) dX11_bridges_32 (fun t1 h2 => ?_)
      refine j_if_eq E 75 dX11_bridges_35 rfl ?_ ?_
      · exact jxX11_bridges_75 hg N E (xX11_bridges_24 N n) ih a1 a2 a3 a4 h2
      · refine j_aload_n E dX11_bridges_38 0 rfl ?_
        refine j_aload_n E dX11_bridges_39 0 rfl ?_
        refine j_getr E f_X11_22 (cM_0 hg) 5 rfl dX11_bridges_40 ?_
        refine j_iload E dX11_bridges_43 4 rfl ?_
        refine j_iald E (cM_5 hg) dX11_bridges_45 (fun t3 => ?_)
        refine j_iconst E (v := 1) dX11_bridges_46 (by decide) ?_
        refine j_iload E dX11_bridges_47 4 rfl ?_
        refine j_callvI (As := [.int t3, .int 1, .int a4]) (st := []) E (ok_X11_reached hg E.2.2.2.2.2.2.2.1 N t3 1 a4 h2) (cM_0 hg) (cl_X11_372) (⟨Nat.le_of_ble_eq_true rfl, Nat.le_of_ble_eq_true rfl⟩) rfl rfl (Nat.le_of_ble_eq_true rfl) dX11_bridges_49 (fun t4 h5 => ?_)
        refine j_aload_n E dX11_bridges_52 0 rfl ?_
        refine j_getr E f_X11_25 (cM_0 hg) 6 rfl dX11_bridges_53 ?_
        refine j_iload E dX11_bridges_56 4 rfl ?_
        refine j_iald E (cM_6 hg) dX11_bridges_58 (fun t6 => ?_)
        refine j_callsI (As := [.int t4, .int t6]) (st := []) E (ok_X11_has hg E.2.2.2.2.2.2.2.1 t4 t6 h5) (cl_X11_137) (⟨Nat.le_of_ble_eq_true rfl, Nat.le_of_ble_eq_true rfl⟩) rfl rfl (Nat.le_of_ble_eq_true rfl) dX11_bridges_59 (fun t7 h8 => ?_)
        refine j_if_eq E 68 dX11_bridges_62 rfl ?_ ?_
        · refine j_iload_n E dX11_bridges_68 2 rfl ?_
          refine j_iconst E (v := 1) dX11_bridges_69 (by decide) ?_
          refine j_iadd E dX11_bridges_70 ?_
          refine j_istore_n E dX11_bridges_71 (Nat.le_of_ble_eq_true rfl) (fun v9 => [(2, .int v9), (0, .ref (g.2.2.1 0)), (1, .int a1), (3, .int a3), (4, .int a4)]) (fun _ => rfl) (fun v9 => ?_)
          refine j_iload E dX11_bridges_72 4 rfl ?_
          refine j_istore0_n E dX11_bridges_74 (Nat.le_of_ble_eq_true rfl) [(3, .int a4), (2, .int v9), (0, .ref (g.2.2.1 0)), (1, .int a1), (4, .int a4)] rfl ?_
          exact j_sub [2, 3, 1, 0, 4] (lv1 := [(0, .ref (g.2.2.1 0)), (1, .int a1), (2, .int v9), (3, .int a4), (4, .int a4)]) rfl (jxX11_bridges_75 hg N E (xX11_bridges_24 N n) ih a1 v9 a4 a4 h8)
        · refine j_goto E 75 dX11_bridges_65 rfl ?_
          exact jxX11_bridges_75 hg N E (xX11_bridges_24 N n) ih a1 a2 a3 a4 h8
set_option maxRecDepth 20000 in
set_option maxHeartbeats 4000000 in
theorem jxX11_bridges {g : GC} (hg : isGM g) {X : MX} (N : Nat) (E : JE g mX11_bridges X) (a1 : Int32) (h : HP) : J g mX11_bridges X 0 [(0, .ref (g.2.2.1 0)), (1, .int a1)] [] h (xX11_bridges N a1 h) := by
  unfold xX11_bridges
  refine j_iload_n E dX11_bridges_0 1 rfl ?_
  refine j_iconst E (v := 0) dX11_bridges_1 (by decide) ?_
  refine j_iconst E (v := 1) dX11_bridges_2 (by decide) ?_
  refine j_callsI (As := [.int a1, .int 0, .int 1]) (st := []) E (ok_X11_in hg E.2.2.2.2.2.2.2.1 a1 0 1 h) (cl_X11_129) (⟨Nat.le_of_ble_eq_true rfl, Nat.le_of_ble_eq_true rfl⟩) rfl rfl (Nat.le_of_ble_eq_true rfl) dX11_bridges_3 (fun t1 h2 => ?_)
  refine j_if_ne E 11 dX11_bridges_6 rfl ?_ ?_
  · refine j_iconst E (v := 0) dX11_bridges_11 (by decide) ?_
    refine j_istore0_n E dX11_bridges_12 (Nat.le_of_ble_eq_true rfl) [(2, .int 0), (0, .ref (g.2.2.1 0)), (1, .int a1)] rfl ?_
    refine j_bipush E (v := (-2)) dX11_bridges_13 (by decide) ?_
    refine j_istore0_n E dX11_bridges_15 (Nat.le_of_ble_eq_true rfl) [(3, .int (-2)), (2, .int 0), (0, .ref (g.2.2.1 0)), (1, .int a1)] rfl ?_
    refine j_aload_n E dX11_bridges_16 2 rfl ?_
    refine j_geti E f_X11_145 (cM_0 hg) rfl dX11_bridges_17 ?_
    refine j_iconst E (v := 1) dX11_bridges_20 (by decide) ?_
    refine j_isub E dX11_bridges_21 ?_
    refine j_istore E dX11_bridges_22 (Nat.le_of_ble_eq_true rfl) (fun v3 => [(4, .int v3), (3, .int (-2)), (2, .int 0), (0, .ref (g.2.2.1 0)), (1, .int a1)]) (fun _ => rfl) (fun v3 => ?_)
    exact j_sub [3, 4, 2, 1, 0] (lv1 := [(0, .ref (g.2.2.1 0)), (1, .int a1), (2, .int 0), (3, .int (-2)), (4, .int v3)]) rfl (jxX11_bridges_24 hg N E N a1 0 (-2) v3 h2)
  · refine j_iconst E (v := (-1)) dX11_bridges_9 (by decide) ?_
    exact j_ireturn E rfl dX11_bridges_10
theorem ok_X11_bridges {g : GC} (hg : isGM g) (hI : gI g) (N : Nat) (a1 : Int32) (h : HP) : Ok g yX11_bridges mX11_bridges [.ref (g.2.2.1 0), .int a1] h (xX11_bridges N a1 h) := Ok.of hI (by decide) rfl (Nat.le_of_ble_eq_true rfl) (fun X E => jxX11_bridges hg N E a1 h)
set_option maxRecDepth 20000 in
set_option maxHeartbeats 4000000 in
theorem jxX11_groups_45 {g : GC} (hg : isGM g) {X : MX} (N : Nat) (E : JE g mX11_groups X) (K6 : Int32 → Int32 → Int32 → HP → Option (Int32 × HP)) (hK6 : ∀ (a1 : Int32) (a2 : Int32) (a3 : Int32) (h : HP), J g mX11_groups X 6 [(0, .ref (g.2.2.1 0)), (1, .int a1), (2, .int a2), (3, .int a3)] [] h (K6 a1 a2 a3 h)) (a1 : Int32) (a2 : Int32) (a3 : Int32) (h : HP) : J g mX11_groups X 45 [(0, .ref (g.2.2.1 0)), (1, .int a1), (2, .int a2), (3, .int a3)] [] h (xX11_groups_45 N K6 a1 a2 a3 h) := by
  unfold xX11_groups_45
  refine j_iinc E (c := 1) dX11_groups_45 3 rfl (by decide) (Nat.le_of_ble_eq_true rfl) (fun v1 => [(3, .int v1), (0, .ref (g.2.2.1 0)), (1, .int a1), (2, .int a2)]) (fun _ => rfl) (fun v1 => ?_)
  refine j_goto E 6 dX11_groups_48 rfl ?_
  exact j_sub [1, 2, 3, 0] (lv1 := [(0, .ref (g.2.2.1 0)), (1, .int a1), (2, .int a2), (3, .int v1)]) rfl (hK6 a1 a2 v1 h)
set_option maxRecDepth 20000 in
set_option maxHeartbeats 4000000 in
theorem jxX11_groups_6 {g : GC} (hg : isGM g) {X : MX} (N : Nat) (E : JE g mX11_groups X) : ∀ (n : Nat) (a1 : Int32) (a2 : Int32) (a3 : Int32) (h : HP), J g mX11_groups X 6 [(0, .ref (g.2.2.1 0)), (1, .int a1), (2, .int a2), (3, .int a3)] [] h (xX11_groups_6 N n a1 a2 a3 h) := by
  intro n
  induction n with
  | zero => intro a1 a2 a3 h; exact j_none
  | succ n ih =>
    intro a1 a2 a3 h
    unfold xX11_groups_6
    refine j_iload_n E dX11_groups_6 3 rfl ?_
    refine j_bipush E (v := 16) dX11_groups_7 (by decide) ?_
    refine j_cmp_ge E 51 dX11_groups_9 rfl ?_ ?_
    · refine j_iload_n E dX11_groups_51 1 rfl ?_
      exact j_ireturn E rfl dX11_groups_52
    · refine j_aload_n E dX11_groups_12 0 rfl ?_
      refine j_iload_n E dX11_groups_13 3 rfl ?_
      refine j_callvI (As := [.int a3]) (st := []) E (ok_X11_isTold hg E.2.2.2.2.2.2.2.1 a3 h) (cM_0 hg) (cl_X11_141) (⟨Nat.le_of_ble_eq_true rfl, Nat.le_of_ble_eq_true rfl⟩) rfl rfl (Nat.le_of_ble_eq_true rfl) dX11_groups_14 (fun t1 h2 => ?_)
      refine j_if_eq E 45 dX11_groups_17 rfl ?_ ?_
      · exact jxX11_groups_45 hg N E (xX11_groups_6 N n) ih a1 a2 a3 h2
      · refine j_iload_n E dX11_groups_20 2 rfl ?_
        refine j_iload_n E dX11_groups_21 3 rfl ?_
        refine j_callsI (As := [.int a2, .int a3]) (st := []) E (ok_X11_has hg E.2.2.2.2.2.2.2.1 a2 a3 h2) (cl_X11_137) (⟨Nat.le_of_ble_eq_true rfl, Nat.le_of_ble_eq_true rfl⟩) rfl rfl (Nat.le_of_ble_eq_true rfl) dX11_groups_22 (fun t3 h4 => ?_)
        refine j_if_eq E 31 dX11_groups_25 rfl ?_ ?_
        · refine j_iload_n E dX11_groups_31 2 rfl ?_
          refine j_aload_n E dX11_groups_32 0 rfl ?_
          refine j_iload_n E dX11_groups_33 3 rfl ?_
          refine j_iconst E (v := 1) dX11_groups_34 (by decide) ?_
          refine j_iconst E (v := (-1)) dX11_groups_35 (by decide) ?_
          refine j_callvI (As := [.int a3, .int 1, .int (-1)]) (st := [.int a2]) E (ok_X11_reached hg E.2.2.2.2.2.2.2.1 N a3 1 (-1) h4) (cM_0 hg) (cl_X11_372) (⟨Nat.le_of_ble_eq_true rfl, Nat.le_of_ble_eq_true rfl⟩) rfl rfl (Nat.le_of_ble_eq_true rfl) dX11_groups_36 (fun t5 h6 => ?_)
          refine j_ior E dX11_groups_39 ?_
          refine j_istore_n E dX11_groups_40 (Nat.le_of_ble_eq_true rfl) (fun v7 => [(2, .int v7), (0, .ref (g.2.2.1 0)), (1, .int a1), (3, .int a3)]) (fun _ => rfl) (fun v7 => ?_)
          refine j_iload_n E dX11_groups_41 2 rfl ?_
          refine j_iconst E (v := 1) dX11_groups_42 (by decide) ?_
          refine j_iadd E dX11_groups_43 ?_
          refine j_istore_n E dX11_groups_44 (Nat.le_of_ble_eq_true rfl) (fun v8 => [(1, .int v8), (2, .int v7), (0, .ref (g.2.2.1 0)), (3, .int a3)]) (fun _ => rfl) (fun v8 => ?_)
          exact j_sub [2, 0, 1, 3] (lv1 := [(0, .ref (g.2.2.1 0)), (1, .int v8), (2, .int v7), (3, .int a3)]) rfl (jxX11_groups_45 hg N E (xX11_groups_6 N n) ih v8 v7 a3 h6)
        · refine j_goto E 45 dX11_groups_28 rfl ?_
          exact jxX11_groups_45 hg N E (xX11_groups_6 N n) ih a1 a2 a3 h4
set_option maxRecDepth 20000 in
set_option maxHeartbeats 4000000 in
theorem jxX11_groups {g : GC} (hg : isGM g) {X : MX} (N : Nat) (E : JE g mX11_groups X) (h : HP) : J g mX11_groups X 0 [(0, .ref (g.2.2.1 0))] [] h (xX11_groups N h) := by
  unfold xX11_groups
  refine j_iconst E (v := 0) dX11_groups_0 (by decide) ?_
  refine j_istore0_n E dX11_groups_1 (Nat.le_of_ble_eq_true rfl) [(1, .int 0), (0, .ref (g.2.2.1 0))] rfl ?_
  refine j_iconst E (v := 0) dX11_groups_2 (by decide) ?_
  refine j_istore0_n E dX11_groups_3 (Nat.le_of_ble_eq_true rfl) [(2, .int 0), (1, .int 0), (0, .ref (g.2.2.1 0))] rfl ?_
  refine j_iconst E (v := 0) dX11_groups_4 (by decide) ?_
  refine j_istore0_n E dX11_groups_5 (Nat.le_of_ble_eq_true rfl) [(3, .int 0), (2, .int 0), (1, .int 0), (0, .ref (g.2.2.1 0))] rfl ?_
  exact j_sub [3, 2, 1, 0] (lv1 := [(0, .ref (g.2.2.1 0)), (1, .int 0), (2, .int 0), (3, .int 0)]) rfl (jxX11_groups_6 hg N E N 0 0 0 h)
theorem ok_X11_groups {g : GC} (hg : isGM g) (hI : gI g) (N : Nat) (h : HP) : Ok g yX11_groups mX11_groups [.ref (g.2.2.1 0)] h (xX11_groups N h) := Ok.of hI (by decide) rfl (Nat.le_of_ble_eq_true rfl) (fun X E => jxX11_groups hg N E h)
set_option maxRecDepth 20000 in
set_option maxHeartbeats 4000000 in
theorem jxX11_worstOf_71 {g : GC} (hg : isGM g) {X : MX} (N : Nat) (E : JE g mX11_worstOf X) (K29 : Int32 → Int32 → Int32 → Int32 → Int32 → HP → Option (Int32 × HP)) (hK29 : ∀ (a1 : Int32) (a2 : Int32) (a3 : Int32) (a4 : Int32) (a5 : Int32) (h : HP), J g mX11_worstOf X 29 [(0, .ref (g.2.2.1 0)), (1, .int a1), (2, .int a2), (3, .int a3), (4, .int a4), (5, .int a5)] [] h (K29 a1 a2 a3 a4 a5 h)) (a1 : Int32) (a2 : Int32) (a3 : Int32) (a4 : Int32) (a5 : Int32) (h : HP) : J g mX11_worstOf X 71 [(0, .ref (g.2.2.1 0)), (1, .int a1), (2, .int a2), (3, .int a3), (4, .int a4), (5, .int a5)] [] h (xX11_worstOf_71 N K29 a1 a2 a3 a4 a5 h) := by
  unfold xX11_worstOf_71
  refine j_iinc E (c := 1) dX11_worstOf_71 5 rfl (by decide) (Nat.le_of_ble_eq_true rfl) (fun v1 => [(5, .int v1), (0, .ref (g.2.2.1 0)), (1, .int a1), (2, .int a2), (3, .int a3), (4, .int a4)]) (fun _ => rfl) (fun v1 => ?_)
  refine j_goto E 29 dX11_worstOf_74 rfl ?_
  exact j_sub [1, 2, 3, 4, 5, 0] (lv1 := [(0, .ref (g.2.2.1 0)), (1, .int a1), (2, .int a2), (3, .int a3), (4, .int a4), (5, .int v1)]) rfl (hK29 a1 a2 a3 a4 v1 h)
set_option maxRecDepth 20000 in
set_option maxHeartbeats 4000000 in
theorem jxX11_worstOf_84 {g : GC} (hg : isGM g) {X : MX} (N : Nat) (E : JE g mX11_worstOf X) (K4 : Int32 → Int32 → Int32 → HP → Option (Int32 × HP)) (hK4 : ∀ (a1 : Int32) (a2 : Int32) (a3 : Int32) (h : HP), J g mX11_worstOf X 4 [(0, .ref (g.2.2.1 0)), (1, .int a1), (2, .int a2), (3, .int a3)] [] h (K4 a1 a2 a3 h)) (a1 : Int32) (a2 : Int32) (a3 : Int32) (h : HP) : J g mX11_worstOf X 84 [(0, .ref (g.2.2.1 0)), (1, .int a1), (2, .int a2), (3, .int a3)] [] h (xX11_worstOf_84 N K4 a1 a2 a3 h) := by
  unfold xX11_worstOf_84
  refine j_iinc E (c := 1) dX11_worstOf_84 3 rfl (by decide) (Nat.le_of_ble_eq_true rfl) (fun v1 => [(3, .int v1), (0, .ref (g.2.2.1 0)), (1, .int a1), (2, .int a2)]) (fun _ => rfl) (fun v1 => ?_)
  refine j_goto E 4 dX11_worstOf_87 rfl ?_
  exact j_sub [1, 2, 3, 0] (lv1 := [(0, .ref (g.2.2.1 0)), (1, .int a1), (2, .int a2), (3, .int v1)]) rfl (hK4 a1 a2 v1 h)
set_option maxRecDepth 20000 in
set_option maxHeartbeats 4000000 in
theorem jxX11_worstOf_29 {g : GC} (hg : isGM g) {X : MX} (N : Nat) (E : JE g mX11_worstOf X) (K4 : Int32 → Int32 → Int32 → HP → Option (Int32 × HP)) (hK4 : ∀ (a1 : Int32) (a2 : Int32) (a3 : Int32) (h : HP), J g mX11_worstOf X 4 [(0, .ref (g.2.2.1 0)), (1, .int a1), (2, .int a2), (3, .int a3)] [] h (K4 a1 a2 a3 h)) : ∀ (n : Nat) (a1 : Int32) (a2 : Int32) (a3 : Int32) (a4 : Int32) (a5 : Int32) (h : HP), J g mX11_worstOf X 29 [(0, .ref (g.2.2.1 0)), (1, .int a1), (2, .int a2), (3, .int a3), (4, .int a4), (5, .int a5)] [] h (xX11_worstOf_29 N K4 n a1 a2 a3 a4 a5 h) := by
  intro n
  induction n with
  | zero => intro a1 a2 a3 a4 a5 h; exact j_none
  | succ n ih =>
    intro a1 a2 a3 a4 a5 h
    unfold xX11_worstOf_29
    refine j_iload E dX11_worstOf_29 5 rfl ?_
    refine j_bipush E (v := 16) dX11_worstOf_31 (by decide) ?_
    refine j_cmp_ge E 77 dX11_worstOf_33 rfl ?_ ?_
    · refine j_iload_n E dX11_worstOf_77 2 rfl ?_
      refine j_iload E dX11_worstOf_78 4 rfl ?_
      refine j_callsI (As := [.int a2, .int a4]) (st := []) E (ok_X11_max hg E.2.2.2.2.2.2.2.1 a2 a4 h) (cl_X11_289) (⟨Nat.le_of_ble_eq_true rfl, Nat.le_of_ble_eq_true rfl⟩) rfl rfl (Nat.le_of_ble_eq_true rfl) dX11_worstOf_80 (fun t1 h2 => ?_)
      refine j_istore0_n E dX11_worstOf_83 (Nat.le_of_ble_eq_true rfl) [(2, .int t1), (0, .ref (g.2.2.1 0)), (1, .int a1), (3, .int a3), (4, .int a4), (5, .int a5)] rfl ?_
      exact j_sub [1, 2, 0, 3] (lv1 := [(0, .ref (g.2.2.1 0)), (1, .int a1), (2, .int t1), (3, .int a3)]) rfl (jxX11_worstOf_84 hg N E K4 hK4 a1 t1 a3 h2)
    · refine j_iload_n E dX11_worstOf_36 1 rfl ?_
      refine j_iload E dX11_worstOf_37 5 rfl ?_
      refine j_callsI (As := [.int a1, .int a5]) (st := []) E (ok_X11_has hg E.2.2.2.2.2.2.2.1 a1 a5 h) (cl_X11_137) (⟨Nat.le_of_ble_eq_true rfl, Nat.le_of_ble_eq_true rfl⟩) rfl rfl (Nat.le_of_ble_eq_true rfl) dX11_worstOf_39 (fun t3 h4 => ?_)
      refine j_if_eq E 71 dX11_worstOf_42 rfl ?_ ?_
      · exact jxX11_worstOf_71 hg N E (xX11_worstOf_29 N K4 n) ih a1 a2 a3 a4 a5 h4
      · refine j_aload_n E dX11_worstOf_45 0 rfl ?_
        refine j_iload E dX11_worstOf_46 5 rfl ?_
        refine j_iload_n E dX11_worstOf_48 3 rfl ?_
        refine j_callvI (As := [.int a5, .int a3]) (st := []) E (ok_X11_far hg E.2.2.2.2.2.2.2.1 a5 a3 h4) (cM_0 hg) (cl_X11_378) (⟨Nat.le_of_ble_eq_true rfl, Nat.le_of_ble_eq_true rfl⟩) rfl rfl (Nat.le_of_ble_eq_true rfl) dX11_worstOf_49 (fun t5 h6 => ?_)
        refine j_bipush E (v := (-2)) dX11_worstOf_52 (by decide) ?_
        refine j_cmp_eq E 71 dX11_worstOf_54 rfl ?_ ?_
        · exact jxX11_worstOf_71 hg N E (xX11_worstOf_29 N K4 n) ih a1 a2 a3 a4 a5 h6
        · refine j_iload E dX11_worstOf_57 4 rfl ?_
          refine j_aload_n E dX11_worstOf_59 0 rfl ?_
          refine j_iload E dX11_worstOf_60 5 rfl ?_
          refine j_iload_n E dX11_worstOf_62 3 rfl ?_
          refine j_callvI (As := [.int a5, .int a3]) (st := [.int a4]) E (ok_X11_far hg E.2.2.2.2.2.2.2.1 a5 a3 h6) (cM_0 hg) (cl_X11_378) (⟨Nat.le_of_ble_eq_true rfl, Nat.le_of_ble_eq_true rfl⟩) rfl rfl (Nat.le_of_ble_eq_true rfl) dX11_worstOf_63 (fun t7 h8 => ?_)
          refine j_callsI (As := [.int a4, .int t7]) (st := []) E (ok_X11_min hg E.2.2.2.2.2.2.2.1 a4 t7 h8) (cl_X11_286) (⟨Nat.le_of_ble_eq_true rfl, Nat.le_of_ble_eq_true rfl⟩) rfl rfl (Nat.le_of_ble_eq_true rfl) dX11_worstOf_66 (fun t9 h10 => ?_)
          refine j_istore0 E dX11_worstOf_69 (Nat.le_of_ble_eq_true rfl) [(4, .int t9), (0, .ref (g.2.2.1 0)), (1, .int a1), (2, .int a2), (3, .int a3), (5, .int a5)] rfl ?_
          exact j_sub [1, 2, 3, 4, 0, 5] (lv1 := [(0, .ref (g.2.2.1 0)), (1, .int a1), (2, .int a2), (3, .int a3), (4, .int t9), (5, .int a5)]) rfl (jxX11_worstOf_71 hg N E (xX11_worstOf_29 N K4 n) ih a1 a2 a3 t9 a5 h10)
set_option maxRecDepth 20000 in
set_option maxHeartbeats 4000000 in
theorem jxX11_worstOf_4 {g : GC} (hg : isGM g) {X : MX} (N : Nat) (E : JE g mX11_worstOf X) : ∀ (n : Nat) (a1 : Int32) (a2 : Int32) (a3 : Int32) (h : HP), J g mX11_worstOf X 4 [(0, .ref (g.2.2.1 0)), (1, .int a1), (2, .int a2), (3, .int a3)] [] h (xX11_worstOf_4 N n a1 a2 a3 h) := by
  intro n
  induction n with
  | zero => intro a1 a2 a3 h; exact j_none
  | succ n ih =>
    intro a1 a2 a3 h
    unfold xX11_worstOf_4
    refine j_iload_n E dX11_worstOf_4 3 rfl ?_
    refine j_bipush E (v := 16) dX11_worstOf_5 (by decide) ?_
    refine j_cmp_ge E 90 dX11_worstOf_7 rfl ?_ ?_
    · refine j_iload_n E dX11_worstOf_90 2 rfl ?_
      exact j_ireturn E rfl dX11_worstOf_91
    · refine j_aload_n E dX11_worstOf_10 0 rfl ?_
      refine j_iload_n E dX11_worstOf_11 3 rfl ?_
      refine j_callvI (As := [.int a3]) (st := []) E (ok_X11_isTold hg E.2.2.2.2.2.2.2.1 a3 h) (cM_0 hg) (cl_X11_141) (⟨Nat.le_of_ble_eq_true rfl, Nat.le_of_ble_eq_true rfl⟩) rfl rfl (Nat.le_of_ble_eq_true rfl) dX11_worstOf_12 (fun t1 h2 => ?_)
      refine j_if_ne E 21 dX11_worstOf_15 rfl ?_ ?_
      · refine j_ldcw E (v := 1000000) k_X11_355 dX11_worstOf_21 ?_
        refine j_istore0 E dX11_worstOf_24 (Nat.le_of_ble_eq_true rfl) [(4, .int 1000000), (0, .ref (g.2.2.1 0)), (1, .int a1), (2, .int a2), (3, .int a3)] rfl ?_
        refine j_iconst E (v := 0) dX11_worstOf_26 (by decide) ?_
        refine j_istore0 E dX11_worstOf_27 (Nat.le_of_ble_eq_true rfl) [(5, .int 0), (4, .int 1000000), (0, .ref (g.2.2.1 0)), (1, .int a1), (2, .int a2), (3, .int a3)] rfl ?_
        exact j_sub [2, 3, 4, 5, 1, 0] (lv1 := [(0, .ref (g.2.2.1 0)), (1, .int a1), (2, .int a2), (3, .int a3), (4, .int 1000000), (5, .int 0)]) rfl (jxX11_worstOf_29 hg N E (xX11_worstOf_4 N n) ih N a1 a2 a3 1000000 0 h2)
      · refine j_goto E 84 dX11_worstOf_18 rfl ?_
        exact jxX11_worstOf_84 hg N E (xX11_worstOf_4 N n) ih a1 a2 a3 h2
set_option maxRecDepth 20000 in
set_option maxHeartbeats 4000000 in
theorem jxX11_worstOf {g : GC} (hg : isGM g) {X : MX} (N : Nat) (E : JE g mX11_worstOf X) (a1 : Int32) (h : HP) : J g mX11_worstOf X 0 [(0, .ref (g.2.2.1 0)), (1, .int a1)] [] h (xX11_worstOf N a1 h) := by
  unfold xX11_worstOf
  refine j_iconst E (v := 0) dX11_worstOf_0 (by decide) ?_
  refine j_istore0_n E dX11_worstOf_1 (Nat.le_of_ble_eq_true rfl) [(2, .int 0), (0, .ref (g.2.2.1 0)), (1, .int a1)] rfl ?_
  refine j_iconst E (v := 0) dX11_worstOf_2 (by decide) ?_
  refine j_istore0_n E dX11_worstOf_3 (Nat.le_of_ble_eq_true rfl) [(3, .int 0), (2, .int 0), (0, .ref (g.2.2.1 0)), (1, .int a1)] rfl ?_
  exact j_sub [2, 3, 1, 0] (lv1 := [(0, .ref (g.2.2.1 0)), (1, .int a1), (2, .int 0), (3, .int 0)]) rfl (jxX11_worstOf_4 hg N E N a1 0 0 h)
theorem ok_X11_worstOf {g : GC} (hg : isGM g) (hI : gI g) (N : Nat) (a1 : Int32) (h : HP) : Ok g yX11_worstOf mX11_worstOf [.ref (g.2.2.1 0), .int a1] h (xX11_worstOf N a1 h) := Ok.of hI (by decide) rfl (Nat.le_of_ble_eq_true rfl) (fun X E => jxX11_worstOf hg N E a1 h)
set_option maxRecDepth 20000 in
set_option maxHeartbeats 4000000 in
theorem jxX11_brigades_18 {g : GC} (hg : isGM g) {X : MX} (N : Nat) (E : JE g mX11_brigades X) (h : HP) : J g mX11_brigades X 18 [] [] h (xX11_brigades_18 N h) := by
  unfold xX11_brigades_18
  refine j_iconst E (v := (-1)) dX11_brigades_18 (by decide) ?_
  exact j_ireturn E rfl dX11_brigades_19
set_option maxRecDepth 20000 in
set_option maxHeartbeats 4000000 in
theorem jxX11_brigades_91 {g : GC} (hg : isGM g) {X : MX} (N : Nat) (E : JE g mX11_brigades X) (K35 : Int32 → Int32 → Int32 → Int32 → Int32 → HP → Option (Int32 × HP)) (hK35 : ∀ (a1 : Int32) (a2 : Int32) (a3 : Int32) (a4 : Int32) (a5 : Int32) (h : HP), J g mX11_brigades X 35 [(0, .ref (g.2.2.1 0)), (1, .int a1), (2, .int a2), (3, .int a3), (4, .int a4), (5, .int a5)] [] h (K35 a1 a2 a3 a4 a5 h)) (a1 : Int32) (a2 : Int32) (a3 : Int32) (a4 : Int32) (a5 : Int32) (h : HP) : J g mX11_brigades X 91 [(0, .ref (g.2.2.1 0)), (1, .int a1), (2, .int a2), (3, .int a3), (4, .int a4), (5, .int a5)] [] h (xX11_brigades_91 N K35 a1 a2 a3 a4 a5 h) := by
  unfold xX11_brigades_91
  refine j_iinc E (c := 1) dX11_brigades_91 5 rfl (by decide) (Nat.le_of_ble_eq_true rfl) (fun v1 => [(5, .int v1), (0, .ref (g.2.2.1 0)), (1, .int a1), (2, .int a2), (3, .int a3), (4, .int a4)]) (fun _ => rfl) (fun v1 => ?_)
  refine j_goto E 35 dX11_brigades_94 rfl ?_
  exact j_sub [1, 2, 3, 4, 5, 0] (lv1 := [(0, .ref (g.2.2.1 0)), (1, .int a1), (2, .int a2), (3, .int a3), (4, .int a4), (5, .int v1)]) rfl (hK35 a1 a2 a3 a4 v1 h)
set_option maxRecDepth 20000 in
set_option maxHeartbeats 4000000 in
theorem jxX11_brigades_114 {g : GC} (hg : isGM g) {X : MX} (N : Nat) (E : JE g mX11_brigades X) (s0 : Int32) (h : HP) : J g mX11_brigades X 114 [] [.int s0] h (xX11_brigades_114 N s0 h) := by
  unfold xX11_brigades_114
  exact j_ireturn E rfl dX11_brigades_114
set_option maxRecDepth 20000 in
set_option maxHeartbeats 4000000 in
theorem jxX11_brigades_108 {g : GC} (hg : isGM g) {X : MX} (N : Nat) (E : JE g mX11_brigades X) (a3 : Int32) (h : HP) : J g mX11_brigades X 108 [(3, .int a3)] [] h (xX11_brigades_108 N a3 h) := by
  unfold xX11_brigades_108
  refine j_iload_n E dX11_brigades_108 0 rfl ?_
  refine j_goto E 114 dX11_brigades_109 rfl ?_
  exact j_sub [] (lv1 := []) rfl (jxX11_brigades_114 hg N E a3 h)
set_option maxRecDepth 20000 in
set_option maxHeartbeats 4000000 in
theorem jxX11_brigades_35 {g : GC} (hg : isGM g) {X : MX} (N : Nat) (E : JE g mX11_brigades X) : ∀ (n : Nat) (a1 : Int32) (a2 : Int32) (a3 : Int32) (a4 : Int32) (a5 : Int32) (h : HP), J g mX11_brigades X 35 [(0, .ref (g.2.2.1 0)), (1, .int a1), (2, .int a2), (3, .int a3), (4, .int a4), (5, .int a5)] [] h (xX11_brigades_35 N n a1 a2 a3 a4 a5 h) := by
  intro n
  induction n with
  | zero => intro a1 a2 a3 a4 a5 h; exact j_none
  | succ n ih =>
    intro a1 a2 a3 a4 a5 h
    unfold xX11_brigades_35
    refine j_iload E dX11_brigades_35 5 rfl ?_
    refine j_ldc E (v := 65536) k_X11_101 dX11_brigades_37 ?_
    refine j_cmp_ge E 97 dX11_brigades_39 rfl ?_ ?_
    · refine j_iload_n E dX11_brigades_97 2 rfl ?_
      refine j_iconst E (v := 1) dX11_brigades_98 (by decide) ?_
      refine j_cmp_eq E 108 dX11_brigades_99 rfl ?_ ?_
      · exact j_sub [3] (lv1 := [(3, .int a3)]) rfl (jxX11_brigades_108 hg N E a3 h)
      · refine j_iload_n E dX11_brigades_102 3 rfl ?_
        refine j_bipush E (v := (-2)) dX11_brigades_103 (by decide) ?_
        refine j_cmp_ne E 112 dX11_brigades_105 rfl ?_ ?_
        · refine j_iload E dX11_brigades_112 4 rfl ?_
          exact j_sub [] (lv1 := []) rfl (jxX11_brigades_114 hg N E a4 h)
        · exact j_sub [3] (lv1 := [(3, .int a3)]) rfl (jxX11_brigades_108 hg N E a3 h)
    · refine j_iload E dX11_brigades_42 5 rfl ?_
      refine j_aload_n E dX11_brigades_44 0 rfl ?_
      refine j_geti E f_X11_133 (cM_0 hg) rfl dX11_brigades_45 ?_
      refine j_iconst E (v := (-1)) dX11_brigades_48 (by decide) ?_
      refine j_ixor E dX11_brigades_49 ?_
      refine j_iand E dX11_brigades_50 ?_
      refine j_if_ne E 91 dX11_brigades_51 rfl ?_ ?_
      · exact jxX11_brigades_91 hg N E (xX11_brigades_35 N n) ih a1 a2 a3 a4 a5 h
      · refine j_iload E dX11_brigades_54 5 rfl ?_
        refine j_callsI (As := [.int a5]) (st := []) E (ok_X11_bits hg E.2.2.2.2.2.2.2.1 N a5 h) (cl_X11_384) (⟨Nat.le_of_ble_eq_true rfl, Nat.le_of_ble_eq_true rfl⟩) rfl rfl (Nat.le_of_ble_eq_true rfl) dX11_brigades_56 (fun t1 h2 => ?_)
        refine j_iload_n E dX11_brigades_59 1 rfl ?_
        refine j_cmp_eq E 66 dX11_brigades_60 rfl ?_ ?_
        · refine j_aload_n E dX11_brigades_66 0 rfl ?_
          refine j_iload E dX11_brigades_67 5 rfl ?_
          refine j_callvI (As := [.int a5]) (st := []) E (ok_X11_worstOf hg E.2.2.2.2.2.2.2.1 N a5 h2) (cM_0 hg) (cl_X11_387) (⟨Nat.le_of_ble_eq_true rfl, Nat.le_of_ble_eq_true rfl⟩) rfl rfl (Nat.le_of_ble_eq_true rfl) dX11_brigades_69 (fun t3 h4 => ?_)
          refine j_istore0 E dX11_brigades_72 (Nat.le_of_ble_eq_true rfl) [(6, .int t3), (0, .ref (g.2.2.1 0)), (1, .int a1), (2, .int a2), (3, .int a3), (4, .int a4), (5, .int a5)] rfl ?_
          refine j_iload E dX11_brigades_74 0 rfl ?_
          refine j_iload E dX11_brigades_76 5 rfl ?_
          refine j_cmp_lt E 84 dX11_brigades_78 rfl ?_ ?_
          · refine j_iload E dX11_brigades_84 0 rfl ?_
            refine j_istore0 E dX11_brigades_86 (Nat.le_of_ble_eq_true rfl) [(4, .int t3), (6, .int t3), (0, .ref (g.2.2.1 0)), (1, .int a1), (2, .int a2), (3, .int a3), (5, .int a5)] rfl ?_
            refine j_iload E dX11_brigades_88 6 rfl ?_
            refine j_istore0_n E dX11_brigades_90 (Nat.le_of_ble_eq_true rfl) [(3, .int a5), (4, .int t3), (6, .int t3), (0, .ref (g.2.2.1 0)), (1, .int a1), (2, .int a2), (5, .int a5)] rfl ?_
            exact j_sub [3, 4, 5, 0, 1, 6] (lv1 := [(0, .ref (g.2.2.1 0)), (1, .int a1), (2, .int a2), (3, .int a5), (4, .int t3), (5, .int a5)]) rfl (jxX11_brigades_91 hg N E (xX11_brigades_35 N n) ih a1 a2 a5 t3 a5 h4)
          · refine j_goto E 91 dX11_brigades_81 rfl ?_
            exact j_sub [1, 2, 3, 4, 5, 6] (lv1 := [(0, .ref (g.2.2.1 0)), (1, .int a1), (2, .int a2), (3, .int a3), (4, .int a4), (5, .int a5)]) rfl (jxX11_brigades_91 hg N E (xX11_brigades_35 N n) ih a1 a2 a3 a4 a5 h4)
        · refine j_goto E 91 dX11_brigades_63 rfl ?_
          exact jxX11_brigades_91 hg N E (xX11_brigades_35 N n) ih a1 a2 a3 a4 a5 h2
set_option maxRecDepth 20000 in
set_option maxHeartbeats 4000000 in
theorem jxX11_brigades {g : GC} (hg : isGM g) {X : MX} (N : Nat) (E : JE g mX11_brigades X) (a1 : Int32) (a2 : Int32) (h : HP) : J g mX11_brigades X 0 [(0, .ref (g.2.2.1 0)), (1, .int a1), (2, .int a2)] [] h (xX11_brigades N a1 a2 h) := by
  unfold xX11_brigades
  refine j_iload_n E dX11_brigades_0 1 rfl ?_
  refine j_iconst E (v := 1) dX11_brigades_1 (by decide) ?_
  refine j_iconst E (v := 5) dX11_brigades_2 (by decide) ?_
  refine j_callsI (As := [.int a1, .int 1, .int 5]) (st := []) E (ok_X11_in hg E.2.2.2.2.2.2.2.1 a1 1 5 h) (cl_X11_129) (⟨Nat.le_of_ble_eq_true rfl, Nat.le_of_ble_eq_true rfl⟩) rfl rfl (Nat.le_of_ble_eq_true rfl) dX11_brigades_3 (fun t1 h2 => ?_)
  refine j_if_eq E 18 dX11_brigades_6 rfl ?_ ?_
  · exact j_sub [] (lv1 := []) rfl (jxX11_brigades_18 hg N E h2)
  · refine j_iload_n E dX11_brigades_9 2 rfl ?_
    refine j_iconst E (v := 0) dX11_brigades_10 (by decide) ?_
    refine j_iconst E (v := 1) dX11_brigades_11 (by decide) ?_
    refine j_callsI (As := [.int a2, .int 0, .int 1]) (st := []) E (ok_X11_in hg E.2.2.2.2.2.2.2.1 a2 0 1 h2) (cl_X11_129) (⟨Nat.le_of_ble_eq_true rfl, Nat.le_of_ble_eq_true rfl⟩) rfl rfl (Nat.le_of_ble_eq_true rfl) dX11_brigades_12 (fun t3 h4 => ?_)
    refine j_if_ne E 20 dX11_brigades_15 rfl ?_ ?_
    · refine j_aload_n E dX11_brigades_20 0 rfl ?_
      refine j_callvV (As := []) (st := []) E (ok_X11_laysAllSteps hg E.2.2.2.2.2.2.2.1 N h4) (cM_0 hg) (cl_X11_381) (⟨Nat.le_of_ble_eq_true rfl, Nat.le_of_ble_eq_true rfl⟩) rfl rfl (Nat.le_of_ble_eq_true rfl) dX11_brigades_21 (fun t5 h6 => ?_)
      refine j_bipush E (v := (-2)) dX11_brigades_24 (by decide) ?_
      refine j_istore0_n E dX11_brigades_26 (Nat.le_of_ble_eq_true rfl) [(3, .int (-2)), (0, .ref (g.2.2.1 0)), (1, .int a1), (2, .int a2)] rfl ?_
      refine j_ldcw E (v := 1000000) k_X11_355 dX11_brigades_27 ?_
      refine j_istore0 E dX11_brigades_30 (Nat.le_of_ble_eq_true rfl) [(4, .int 1000000), (3, .int (-2)), (0, .ref (g.2.2.1 0)), (1, .int a1), (2, .int a2)] rfl ?_
      refine j_iconst E (v := 1) dX11_brigades_32 (by decide) ?_
      refine j_istore0 E dX11_brigades_33 (Nat.le_of_ble_eq_true rfl) [(5, .int 1), (4, .int 1000000), (3, .int (-2)), (0, .ref (g.2.2.1 0)), (1, .int a1), (2, .int a2)] rfl ?_
      exact j_sub [3, 4, 5, 2, 1, 0] (lv1 := [(0, .ref (g.2.2.1 0)), (1, .int a1), (2, .int a2), (3, .int (-2)), (4, .int 1000000), (5, .int 1)]) rfl (jxX11_brigades_35 hg N E N a1 a2 (-2) 1000000 1 h6)
    · exact j_sub [] (lv1 := []) rfl (jxX11_brigades_18 hg N E h4)
theorem ok_X11_brigades {g : GC} (hg : isGM g) (hI : gI g) (N : Nat) (a1 : Int32) (a2 : Int32) (h : HP) : Ok g yX11_brigades mX11_brigades [.ref (g.2.2.1 0), .int a1, .int a2] h (xX11_brigades N a1 a2 h) := Ok.of hI (by decide) rfl (Nat.le_of_ble_eq_true rfl) (fun X E => jxX11_brigades hg N E a1 a2 h)
set_option maxRecDepth 20000 in
set_option maxHeartbeats 4000000 in
theorem jxX11_painting_122 {g : GC} (hg : isGM g) {X : MX} (N : Nat) (E : JE g mX11_painting X) (K54 : Int32 → Int32 → Int32 → Int32 → HP → Option (Int32 × HP)) (hK54 : ∀ (a1 : Int32) (a2 : Int32) (a3 : Int32) (a4 : Int32) (h : HP), J g mX11_painting X 54 [(0, .ref (g.2.2.1 0)), (1, .int a1), (2, .int a2), (3, .int a3), (4, .int a4)] [] h (K54 a1 a2 a3 a4 h)) (a1 : Int32) (a2 : Int32) (a3 : Int32) (a4 : Int32) (h : HP) : J g mX11_painting X 122 [(0, .ref (g.2.2.1 0)), (1, .int a1), (2, .int a2), (3, .int a3), (4, .int a4)] [] h (xX11_painting_122 N K54 a1 a2 a3 a4 h) := by
  unfold xX11_painting_122
  refine j_iinc E (c := 1) dX11_painting_122 4 rfl (by decide) (Nat.le_of_ble_eq_true rfl) (fun v1 => [(4, .int v1), (0, .ref (g.2.2.1 0)), (1, .int a1), (2, .int a2), (3, .int a3)]) (fun _ => rfl) (fun v1 => ?_)
  refine j_goto E 54 dX11_painting_125 rfl ?_
  exact j_sub [1, 2, 3, 4, 0] (lv1 := [(0, .ref (g.2.2.1 0)), (1, .int a1), (2, .int a2), (3, .int a3), (4, .int v1)]) rfl (hK54 a1 a2 a3 v1 h)
set_option maxRecDepth 20000 in
set_option maxHeartbeats 4000000 in
theorem jxX11_painting_54 {g : GC} (hg : isGM g) {X : MX} (N : Nat) (E : JE g mX11_painting X) (K18 : Int32 → Int32 → HP → Option (Int32 × HP)) (hK18 : ∀ (a1 : Int32) (a2 : Int32) (h : HP), J g mX11_painting X 18 [(0, .ref (g.2.2.1 0)), (1, .int a1), (2, .int a2)] [] h (K18 a1 a2 h)) : ∀ (n : Nat) (a1 : Int32) (a2 : Int32) (a3 : Int32) (a4 : Int32) (h : HP), J g mX11_painting X 54 [(0, .ref (g.2.2.1 0)), (1, .int a1), (2, .int a2), (3, .int a3), (4, .int a4)] [] h (xX11_painting_54 N K18 n a1 a2 a3 a4 h) := by
  intro n
  induction n with
  | zero => intro a1 a2 a3 a4 h; exact j_none
  | succ n ih =>
    intro a1 a2 a3 a4 h
    unfold xX11_painting_54
    refine j_iload E dX11_painting_54 4 rfl ?_
    refine j_aload_n E dX11_painting_56 0 rfl ?_
    refine j_geti E f_X11_390 (cM_0 hg) rfl dX11_painting_57 ?_
    refine j_cmp_ge E 128 dX11_painting_60 rfl ?_ ?_
    · refine j_iinc E (c := 1) dX11_painting_128 2 rfl (by decide) (Nat.le_of_ble_eq_true rfl) (fun v1 => [(2, .int v1), (0, .ref (g.2.2.1 0)), (1, .int a1), (3, .int a3), (4, .int a4)]) (fun _ => rfl) (fun v1 => ?_)
      refine j_goto E 18 dX11_painting_131 rfl ?_
      exact j_sub [1, 2, 0] (lv1 := [(0, .ref (g.2.2.1 0)), (1, .int a1), (2, .int v1)]) rfl (hK18 a1 v1 h)
    · refine j_iload_n E dX11_painting_63 2 rfl ?_
      refine j_iload E dX11_painting_64 4 rfl ?_
      refine j_callsI (As := [.int a2, .int a4]) (st := []) E (ok_X11_has hg E.2.2.2.2.2.2.2.1 a2 a4 h) (cl_X11_137) (⟨Nat.le_of_ble_eq_true rfl, Nat.le_of_ble_eq_true rfl⟩) rfl rfl (Nat.le_of_ble_eq_true rfl) dX11_painting_66 (fun t2 h3 => ?_)
      refine j_if_eq E 122 dX11_painting_69 rfl ?_ ?_
      · exact jxX11_painting_122 hg N E (xX11_painting_54 N K18 n) ih a1 a2 a3 a4 h3
      · refine j_aload_n E dX11_painting_72 0 rfl ?_
        refine j_getr E f_X11_102 (cM_0 hg) 31 rfl dX11_painting_73 ?_
        refine j_iload_n E dX11_painting_76 2 rfl ?_
        refine j_aload_n E dX11_painting_77 0 rfl ?_
        refine j_getr E f_X11_102 (cM_0 hg) 31 rfl dX11_painting_78 ?_
        refine j_iload_n E dX11_painting_81 2 rfl ?_
        refine j_iald E (cM_31 hg) dX11_painting_82 (fun t4 => ?_)
        refine j_aload_n E dX11_painting_83 0 rfl ?_
        refine j_getr E f_X11_102 (cM_0 hg) 31 rfl dX11_painting_84 ?_
        refine j_iload_n E dX11_painting_87 2 rfl ?_
        refine j_iconst E (v := 1) dX11_painting_88 (by decide) ?_
        refine j_iload_n E dX11_painting_89 3 rfl ?_
        refine j_ishl E dX11_painting_90 ?_
        refine j_iconst E (v := 1) dX11_painting_91 (by decide) ?_
        refine j_iload E dX11_painting_92 4 rfl ?_
        refine j_ishl E dX11_painting_94 ?_
        refine j_ior E dX11_painting_95 ?_
        refine j_iconst E (v := (-1)) dX11_painting_96 (by decide) ?_
        refine j_ixor E dX11_painting_97 ?_
        refine j_iand E dX11_painting_98 ?_
        refine j_iald E (cM_31 hg) dX11_painting_99 (fun t5 => ?_)
        refine j_aload_n E dX11_painting_100 0 rfl ?_
        refine j_aload_n E dX11_painting_101 0 rfl ?_
        refine j_getr E f_X11_98 (cM_0 hg) 30 rfl dX11_painting_102 ?_
        refine j_iload_n E dX11_painting_105 3 rfl ?_
        refine j_iald E (cM_30 hg) dX11_painting_106 (fun t6 => ?_)
        refine j_aload_n E dX11_painting_107 0 rfl ?_
        refine j_getr E f_X11_98 (cM_0 hg) 30 rfl dX11_painting_108 ?_
        refine j_iload E dX11_painting_111 4 rfl ?_
        refine j_iald E (cM_30 hg) dX11_painting_113 (fun t7 => ?_)
        refine j_callvI (As := [.int t6, .int t7]) (st := [.int t5, .int t4, .int a2, .ref (g.2.2.1 31)]) E (ok_X11_far hg E.2.2.2.2.2.2.2.1 t6 t7 h3) (cM_0 hg) (cl_X11_378) (⟨Nat.le_of_ble_eq_true rfl, Nat.le_of_ble_eq_true rfl⟩) rfl rfl (Nat.le_of_ble_eq_true rfl) dX11_painting_114 (fun t8 h9 => ?_)
        refine j_iadd E dX11_painting_117 ?_
        refine j_callsI (As := [.int t4, .int (t5 + t8)]) (st := [.int a2, .ref (g.2.2.1 31)]) E (ok_X11_min hg E.2.2.2.2.2.2.2.1 t4 (t5 + t8) h9) (cl_X11_286) (⟨Nat.le_of_ble_eq_true rfl, Nat.le_of_ble_eq_true rfl⟩) rfl rfl (Nat.le_of_ble_eq_true rfl) dX11_painting_118 (fun t10 h11 => ?_)
        refine j_iast E (cM_31 hg) dX11_painting_121 (fun h12 => ?_)
        exact jxX11_painting_122 hg N E (xX11_painting_54 N K18 n) ih a1 a2 a3 a4 h12
set_option maxRecDepth 20000 in
set_option maxHeartbeats 4000000 in
theorem jxX11_painting_34 {g : GC} (hg : isGM g) {X : MX} (N : Nat) (E : JE g mX11_painting X) (K18 : Int32 → Int32 → HP → Option (Int32 × HP)) (hK18 : ∀ (a1 : Int32) (a2 : Int32) (h : HP), J g mX11_painting X 18 [(0, .ref (g.2.2.1 0)), (1, .int a1), (2, .int a2)] [] h (K18 a1 a2 h)) : ∀ (n : Nat) (a1 : Int32) (a2 : Int32) (a3 : Int32) (h : HP), J g mX11_painting X 34 [(0, .ref (g.2.2.1 0)), (1, .int a1), (2, .int a2), (3, .int a3)] [] h (xX11_painting_34 N K18 n a1 a2 a3 h) := by
  intro n
  induction n with
  | zero => intro a1 a2 a3 h; exact j_none
  | succ n ih =>
    intro a1 a2 a3 h
    unfold xX11_painting_34
    refine j_iload_n E dX11_painting_34 2 rfl ?_
    refine j_iload_n E dX11_painting_35 3 rfl ?_
    refine j_callsI (As := [.int a2, .int a3]) (st := []) E (ok_X11_has hg E.2.2.2.2.2.2.2.1 a2 a3 h) (cl_X11_137) (⟨Nat.le_of_ble_eq_true rfl, Nat.le_of_ble_eq_true rfl⟩) rfl rfl (Nat.le_of_ble_eq_true rfl) dX11_painting_36 (fun t1 h2 => ?_)
    refine j_if_ne E 49 dX11_painting_39 rfl ?_ ?_
    · refine j_iload_n E dX11_painting_49 3 rfl ?_
      refine j_iconst E (v := 1) dX11_painting_50 (by decide) ?_
      refine j_iadd E dX11_painting_51 ?_
      refine j_istore E dX11_painting_52 (Nat.le_of_ble_eq_true rfl) (fun v3 => [(4, .int v3), (0, .ref (g.2.2.1 0)), (1, .int a1), (2, .int a2), (3, .int a3)]) (fun _ => rfl) (fun v3 => ?_)
      exact j_sub [1, 2, 3, 4, 0] (lv1 := [(0, .ref (g.2.2.1 0)), (1, .int a1), (2, .int a2), (3, .int a3), (4, .int v3)]) rfl (jxX11_painting_54 hg N E K18 hK18 N a1 a2 a3 v3 h2)
    · refine j_iload_n E dX11_painting_42 3 rfl ?_
      refine j_iconst E (v := 1) dX11_painting_43 (by decide) ?_
      refine j_iadd E dX11_painting_44 ?_
      refine j_istore_n E dX11_painting_45 (Nat.le_of_ble_eq_true rfl) (fun v4 => [(3, .int v4), (0, .ref (g.2.2.1 0)), (1, .int a1), (2, .int a2)]) (fun _ => rfl) (fun v4 => ?_)
      refine j_goto E 34 dX11_painting_46 rfl ?_
      exact j_sub [1, 2, 3, 0] (lv1 := [(0, .ref (g.2.2.1 0)), (1, .int a1), (2, .int a2), (3, .int v4)]) rfl (ih a1 a2 v4 h2)
set_option maxRecDepth 20000 in
set_option maxHeartbeats 4000000 in
theorem jxX11_painting_18 {g : GC} (hg : isGM g) {X : MX} (N : Nat) (E : JE g mX11_painting X) : ∀ (n : Nat) (a1 : Int32) (a2 : Int32) (h : HP), J g mX11_painting X 18 [(0, .ref (g.2.2.1 0)), (1, .int a1), (2, .int a2)] [] h (xX11_painting_18 N n a1 a2 h) := by
  intro n
  induction n with
  | zero => intro a1 a2 h; exact j_none
  | succ n ih =>
    intro a1 a2 h
    unfold xX11_painting_18
    refine j_iload_n E dX11_painting_18 2 rfl ?_
    refine j_iload_n E dX11_painting_19 1 rfl ?_
    refine j_cmp_gt E 134 dX11_painting_20 rfl ?_ ?_
    · refine j_aload_n E dX11_painting_134 0 rfl ?_
      refine j_getr E f_X11_102 (cM_0 hg) 31 rfl dX11_painting_135 ?_
      refine j_iload_n E dX11_painting_138 1 rfl ?_
      refine j_iald E (cM_31 hg) dX11_painting_139 (fun t1 => ?_)
      exact j_ireturn E rfl dX11_painting_140
    · refine j_aload_n E dX11_painting_23 0 rfl ?_
      refine j_getr E f_X11_102 (cM_0 hg) 31 rfl dX11_painting_24 ?_
      refine j_iload_n E dX11_painting_27 2 rfl ?_
      refine j_ldcw E (v := 1000000) k_X11_355 dX11_painting_28 ?_
      refine j_iast E (cM_31 hg) dX11_painting_31 (fun h2 => ?_)
      refine j_iconst E (v := 0) dX11_painting_32 (by decide) ?_
      refine j_istore0_n E dX11_painting_33 (Nat.le_of_ble_eq_true rfl) [(3, .int 0), (0, .ref (g.2.2.1 0)), (1, .int a1), (2, .int a2)] rfl ?_
      exact j_sub [1, 2, 3, 0] (lv1 := [(0, .ref (g.2.2.1 0)), (1, .int a1), (2, .int a2), (3, .int 0)]) rfl (jxX11_painting_34 hg N E (xX11_painting_18 N n) ih N a1 a2 0 h2)
set_option maxRecDepth 20000 in
set_option maxHeartbeats 4000000 in
theorem jxX11_painting {g : GC} (hg : isGM g) {X : MX} (N : Nat) (E : JE g mX11_painting X) (h : HP) : J g mX11_painting X 0 [(0, .ref (g.2.2.1 0))] [] h (xX11_painting N h) := by
  unfold xX11_painting
  refine j_iconst E (v := 1) dX11_painting_0 (by decide) ?_
  refine j_aload_n E dX11_painting_1 0 rfl ?_
  refine j_geti E f_X11_390 (cM_0 hg) rfl dX11_painting_2 ?_
  refine j_ishl E dX11_painting_5 ?_
  refine j_iconst E (v := 1) dX11_painting_6 (by decide) ?_
  refine j_isub E dX11_painting_7 ?_
  refine j_istore_n E dX11_painting_8 (Nat.le_of_ble_eq_true rfl) (fun v1 => [(1, .int v1), (0, .ref (g.2.2.1 0))]) (fun _ => rfl) (fun v1 => ?_)
  refine j_aload_n E dX11_painting_9 1 rfl ?_
  refine j_getr E f_X11_102 (cM_0 hg) 31 rfl dX11_painting_10 ?_
  refine j_iconst E (v := 0) dX11_painting_13 (by decide) ?_
  refine j_iconst E (v := 0) dX11_painting_14 (by decide) ?_
  refine j_iast E (cM_31 hg) dX11_painting_15 (fun h2 => ?_)
  refine j_iconst E (v := 1) dX11_painting_16 (by decide) ?_
  refine j_istore0_n E dX11_painting_17 (Nat.le_of_ble_eq_true rfl) [(2, .int 1), (1, .int v1), (0, .ref (g.2.2.1 0))] rfl ?_
  exact j_sub [2, 1, 0] (lv1 := [(0, .ref (g.2.2.1 0)), (1, .int v1), (2, .int 1)]) rfl (jxX11_painting_18 hg N E N v1 1 h2)
theorem ok_X11_painting {g : GC} (hg : isGM g) (hI : gI g) (N : Nat) (h : HP) : Ok g yX11_painting mX11_painting [.ref (g.2.2.1 0)] h (xX11_painting N h) := Ok.of hI (by decide) rfl (Nat.le_of_ble_eq_true rfl) (fun X E => jxX11_painting hg N E h)
set_option maxRecDepth 20000 in
set_option maxHeartbeats 4000000 in
theorem jxX11_painted_95 {g : GC} (hg : isGM g) {X : MX} (N : Nat) (E : JE g mX11_painted X) (K32 : Int32 → Int32 → Int32 → HP → Option (Int32 × HP)) (hK32 : ∀ (a2 : Int32) (a3 : Int32) (a4 : Int32) (h : HP), J g mX11_painted X 32 [(0, .ref (g.2.2.1 0)), (2, .int a2), (3, .int a3), (4, .int a4)] [] h (K32 a2 a3 a4 h)) (a2 : Int32) (a3 : Int32) (a4 : Int32) (h : HP) : J g mX11_painted X 95 [(0, .ref (g.2.2.1 0)), (2, .int a2), (3, .int a3), (4, .int a4)] [] h (xX11_painted_95 N K32 a2 a3 a4 h) := by
  unfold xX11_painted_95
  refine j_iinc E (c := 1) dX11_painted_95 3 rfl (by decide) (Nat.le_of_ble_eq_true rfl) (fun v1 => [(4, .int v1), (0, .ref (g.2.2.1 0)), (2, .int a2), (3, .int a3)]) (fun _ => rfl) (fun v1 => ?_)
  refine j_goto E 32 dX11_painted_98 rfl ?_
  exact j_sub [1, 2, 3, 0] (lv1 := [(0, .ref (g.2.2.1 0)), (2, .int a2), (3, .int a3), (4, .int v1)]) rfl (hK32 a2 a3 v1 h)
set_option maxRecDepth 20000 in
set_option maxHeartbeats 4000000 in
theorem jxX11_painted_32 {g : GC} (hg : isGM g) {X : MX} (N : Nat) (E : JE g mX11_painted X) : ∀ (n : Nat) (a2 : Int32) (a3 : Int32) (a4 : Int32) (h : HP), J g mX11_painted X 32 [(0, .ref (g.2.2.1 0)), (2, .int a2), (3, .int a3), (4, .int a4)] [] h (xX11_painted_32 N n a2 a3 a4 h) := by
  intro n
  induction n with
  | zero => intro a2 a3 a4 h; exact j_none
  | succ n ih =>
    intro a2 a3 a4 h
    unfold xX11_painted_32
    refine j_iload E dX11_painted_32 3 rfl ?_
    refine j_bipush E (v := 16) dX11_painted_34 (by decide) ?_
    refine j_cmp_ge E 101 dX11_painted_36 rfl ?_ ?_
    · refine j_iload_n E dX11_painted_101 2 rfl ?_
      refine j_iconst E (v := 2) dX11_painted_102 (by decide) ?_
      refine j_idivc E (by decide) dX11_painted_103 ?_
      refine j_aload_n E dX11_painted_104 0 rfl ?_
      refine j_callvI (As := []) (st := [.int (a3 / 2)]) E (ok_X11_painting hg E.2.2.2.2.2.2.2.1 N h) (cM_0 hg) (cl_X11_393) (⟨Nat.le_of_ble_eq_true rfl, Nat.le_of_ble_eq_true rfl⟩) rfl rfl (Nat.le_of_ble_eq_true rfl) dX11_painted_105 (fun t1 h2 => ?_)
      refine j_iadd E dX11_painted_108 ?_
      exact j_ireturn E rfl dX11_painted_109
    · refine j_iload_n E dX11_painted_39 1 rfl ?_
      refine j_iload E dX11_painted_40 3 rfl ?_
      refine j_callsI (As := [.int a2, .int a4]) (st := []) E (ok_X11_has hg E.2.2.2.2.2.2.2.1 a2 a4 h) (cl_X11_137) (⟨Nat.le_of_ble_eq_true rfl, Nat.le_of_ble_eq_true rfl⟩) rfl rfl (Nat.le_of_ble_eq_true rfl) dX11_painted_42 (fun t3 h4 => ?_)
      refine j_if_ne E 51 dX11_painted_45 rfl ?_ ?_
      · refine j_iload_n E dX11_painted_51 2 rfl ?_
        refine j_aload_n E dX11_painted_52 0 rfl ?_
        refine j_iload E dX11_painted_53 3 rfl ?_
        refine j_callvI (As := [.int a4]) (st := [.int a3]) E (ok_X11_openOf hg E.2.2.2.2.2.2.2.1 N a4 h4) (cM_0 hg) (cl_X11_308) (⟨Nat.le_of_ble_eq_true rfl, Nat.le_of_ble_eq_true rfl⟩) rfl rfl (Nat.le_of_ble_eq_true rfl) dX11_painted_55 (fun t5 h6 => ?_)
        refine j_iadd E dX11_painted_58 ?_
        refine j_istore_n E dX11_painted_59 (Nat.le_of_ble_eq_true rfl) (fun v7 => [(3, .int v7), (0, .ref (g.2.2.1 0)), (2, .int a2), (4, .int a4)]) (fun _ => rfl) (fun v7 => ?_)
        refine j_aload_n E dX11_painted_60 1 rfl ?_
        refine j_iload E dX11_painted_61 3 rfl ?_
        refine j_callvI (As := [.int a4]) (st := []) E (ok_X11_openOf hg E.2.2.2.2.2.2.2.1 N a4 h6) (cM_0 hg) (cl_X11_308) (⟨Nat.le_of_ble_eq_true rfl, Nat.le_of_ble_eq_true rfl⟩) rfl rfl (Nat.le_of_ble_eq_true rfl) dX11_painted_63 (fun t8 h9 => ?_)
        refine j_iconst E (v := 2) dX11_painted_66 (by decide) ?_
        refine j_rem2 E (by decide) dX11_painted_67 ?_
        refine j_if_ne E 74 dX11_painted_68 rfl ?_ ?_
        · refine j_aload_n E dX11_painted_74 1 rfl ?_
          refine j_getr E f_X11_98 (cM_0 hg) 30 rfl dX11_painted_75 ?_
          refine j_aload_n E dX11_painted_78 1 rfl ?_
          refine j_geti E f_X11_390 (cM_0 hg) rfl dX11_painted_79 ?_
          refine j_iload E dX11_painted_82 3 rfl ?_
          refine j_iast E (cM_30 hg) dX11_painted_84 (fun h10 => ?_)
          refine j_aload_n E dX11_painted_85 1 rfl ?_
          refine j_aload_n E dX11_painted_86 1 rfl ?_
          refine j_geti E f_X11_390 (cM_0 hg) rfl dX11_painted_87 ?_
          refine j_iconst E (v := 1) dX11_painted_90 (by decide) ?_
          refine j_iadd E dX11_painted_91 ?_
          refine j_puti E fp_X11_390 (cM_0 hg) rfl dX11_painted_92 (fun h11 => ?_)
          exact j_sub [1, 2, 0, 3] (lv1 := [(0, .ref (g.2.2.1 0)), (2, .int a2), (3, .int v7), (4, .int a4)]) rfl (jxX11_painted_95 hg N E (xX11_painted_32 N n) ih a2 v7 a4 h11)
        · refine j_goto E 95 dX11_painted_71 rfl ?_
          exact j_sub [1, 2, 0, 3] (lv1 := [(0, .ref (g.2.2.1 0)), (2, .int a2), (3, .int v7), (4, .int a4)]) rfl (jxX11_painted_95 hg N E (xX11_painted_32 N n) ih a2 v7 a4 h9)
      · refine j_goto E 95 dX11_painted_48 rfl ?_
        exact jxX11_painted_95 hg N E (xX11_painted_32 N n) ih a2 a3 a4 h4
set_option maxRecDepth 20000 in
set_option maxHeartbeats 4000000 in
theorem jxX11_painted {g : GC} (hg : isGM g) {X : MX} (N : Nat) (E : JE g mX11_painted X) (a1 : Int32) (h : HP) : J g mX11_painted X 0 [(0, .ref (g.2.2.1 0)), (1, .int a1)] [] h (xX11_painted N a1 h) := by
  unfold xX11_painted
  refine j_aload_n E dX11_painted_0 0 rfl ?_
  refine j_iload_n E dX11_painted_1 1 rfl ?_
  refine j_callvI (As := [.int a1]) (st := []) E (ok_X11_isTold hg E.2.2.2.2.2.2.2.1 a1 h) (cM_0 hg) (cl_X11_141) (⟨Nat.le_of_ble_eq_true rfl, Nat.le_of_ble_eq_true rfl⟩) rfl rfl (Nat.le_of_ble_eq_true rfl) dX11_painted_2 (fun t1 h2 => ?_)
  refine j_if_ne E 10 dX11_painted_5 rfl ?_ ?_
  · refine j_aload_n E dX11_painted_10 0 rfl ?_
    refine j_callvV (As := []) (st := []) E (ok_X11_laysAllSteps hg E.2.2.2.2.2.2.2.1 N h2) (cM_0 hg) (cl_X11_381) (⟨Nat.le_of_ble_eq_true rfl, Nat.le_of_ble_eq_true rfl⟩) rfl rfl (Nat.le_of_ble_eq_true rfl) dX11_painted_11 (fun t3 h4 => ?_)
    refine j_aload_n E dX11_painted_14 0 rfl ?_
    refine j_iload_n E dX11_painted_15 1 rfl ?_
    refine j_iconst E (v := 1) dX11_painted_16 (by decide) ?_
    refine j_iconst E (v := (-1)) dX11_painted_17 (by decide) ?_
    refine j_callvI (As := [.int a1, .int 1, .int (-1)]) (st := []) E (ok_X11_reached hg E.2.2.2.2.2.2.2.1 N a1 1 (-1) h4) (cM_0 hg) (cl_X11_372) (⟨Nat.le_of_ble_eq_true rfl, Nat.le_of_ble_eq_true rfl⟩) rfl rfl (Nat.le_of_ble_eq_true rfl) dX11_painted_18 (fun t5 h6 => ?_)
    refine j_istore0_n E dX11_painted_21 (Nat.le_of_ble_eq_true rfl) [(2, .int t5), (0, .ref (g.2.2.1 0)), (1, .int a1)] rfl ?_
    refine j_iconst E (v := 0) dX11_painted_22 (by decide) ?_
    refine j_istore0_n E dX11_painted_23 (Nat.le_of_ble_eq_true rfl) [(3, .int 0), (2, .int t5), (0, .ref (g.2.2.1 0)), (1, .int a1)] rfl ?_
    refine j_aload_n E dX11_painted_24 2 rfl ?_
    refine j_iconst E (v := 0) dX11_painted_25 (by decide) ?_
    refine j_puti E fp_X11_390 (cM_0 hg) rfl dX11_painted_26 (fun h7 => ?_)
    refine j_iconst E (v := 0) dX11_painted_29 (by decide) ?_
    refine j_istore0 E dX11_painted_30 (Nat.le_of_ble_eq_true rfl) [(4, .int 0), (3, .int 0), (2, .int t5), (0, .ref (g.2.2.1 0)), (1, .int a1)] rfl ?_
    exact j_sub [3, 2, 1, 0] (lv1 := [(0, .ref (g.2.2.1 0)), (2, .int t5), (3, .int 0), (4, .int 0)]) rfl (jxX11_painted_32 hg N E N t5 0 0 h7)
  · refine j_iconst E (v := (-1)) dX11_painted_8 (by decide) ?_
    exact j_ireturn E rfl dX11_painted_9
theorem ok_X11_painted {g : GC} (hg : isGM g) (hI : gI g) (N : Nat) (a1 : Int32) (h : HP) : Ok g yX11_painted mX11_painted [.ref (g.2.2.1 0), .int a1] h (xX11_painted N a1 h) := Ok.of hI (by decide) rfl (Nat.le_of_ble_eq_true rfl) (fun X E => jxX11_painted hg N E a1 h)
set_option maxRecDepth 20000 in
set_option maxHeartbeats 4000000 in
theorem jxX11_keptOpen_139 {g : GC} (hg : isGM g) {X : MX} (N : Nat) (E : JE g mX11_keptOpen X) (K102 : Int32 → Int32 → Int32 → Int32 → Int32 → HP → Option (Int32 × HP)) (hK102 : ∀ (a1 : Int32) (a2 : Int32) (a3 : Int32) (a4 : Int32) (a5 : Int32) (h : HP), J g mX11_keptOpen X 102 [(0, .ref (g.2.2.1 0)), (1, .int a1), (2, .int a2), (3, .int a3), (4, .int a4), (5, .int a5)] [] h (K102 a1 a2 a3 a4 a5 h)) (a1 : Int32) (a2 : Int32) (a3 : Int32) (a4 : Int32) (a5 : Int32) (h : HP) : J g mX11_keptOpen X 139 [(0, .ref (g.2.2.1 0)), (1, .int a1), (2, .int a2), (3, .int a3), (4, .int a4), (5, .int a5)] [] h (xX11_keptOpen_139 N K102 a1 a2 a3 a4 a5 h) := by
  unfold xX11_keptOpen_139
  refine j_iinc E (c := 1) dX11_keptOpen_139 5 rfl (by decide) (Nat.le_of_ble_eq_true rfl) (fun v1 => [(5, .int v1), (0, .ref (g.2.2.1 0)), (1, .int a1), (2, .int a2), (3, .int a3), (4, .int a4)]) (fun _ => rfl) (fun v1 => ?_)
  refine j_goto E 102 dX11_keptOpen_142 rfl ?_
  exact j_sub [1, 2, 3, 4, 5, 0] (lv1 := [(0, .ref (g.2.2.1 0)), (1, .int a1), (2, .int a2), (3, .int a3), (4, .int a4), (5, .int v1)]) rfl (hK102 a1 a2 a3 a4 v1 h)
set_option maxRecDepth 20000 in
set_option maxHeartbeats 4000000 in
theorem jxX11_keptOpen_149 {g : GC} (hg : isGM g) {X : MX} (N : Nat) (E : JE g mX11_keptOpen X) (K32 : Int32 → Int32 → Int32 → HP → Option (Int32 × HP)) (hK32 : ∀ (a1 : Int32) (a2 : Int32) (a3 : Int32) (h : HP), J g mX11_keptOpen X 32 [(0, .ref (g.2.2.1 0)), (1, .int a1), (2, .int a2), (3, .int a3)] [] h (K32 a1 a2 a3 h)) (a1 : Int32) (a2 : Int32) (a3 : Int32) (h : HP) : J g mX11_keptOpen X 149 [(0, .ref (g.2.2.1 0)), (1, .int a1), (2, .int a2), (3, .int a3)] [] h (xX11_keptOpen_149 N K32 a1 a2 a3 h) := by
  unfold xX11_keptOpen_149
  refine j_iinc E (c := 1) dX11_keptOpen_149 3 rfl (by decide) (Nat.le_of_ble_eq_true rfl) (fun v1 => [(3, .int v1), (0, .ref (g.2.2.1 0)), (1, .int a1), (2, .int a2)]) (fun _ => rfl) (fun v1 => ?_)
  refine j_goto E 32 dX11_keptOpen_152 rfl ?_
  exact j_sub [1, 2, 3, 0] (lv1 := [(0, .ref (g.2.2.1 0)), (1, .int a1), (2, .int a2), (3, .int v1)]) rfl (hK32 a1 a2 v1 h)
