set_option maxRecDepth 20000 in
set_option maxHeartbeats 4000000 in
theorem jxX11_reckonsTo_135 {g : GC} (hg : isGM g) {X : MX} (N : Nat) (E : JE g mX11_reckonsTo X) (K16 : Int32 → Int32 → Int32 → Int32 → HP → Option (Int32 × HP)) (hK16 : ∀ (a2 : Int32) (a3 : Int32) (a4 : Int32) (a5 : Int32) (h : HP), J g mX11_reckonsTo X 16 [(0, .ref (g.2.2.1 0)), (2, .int a2), (3, .int a3), (4, .int a4), (5, .int a5)] [] h (K16 a2 a3 a4 a5 h)) (a2 : Int32) (a3 : Int32) (a4 : Int32) (a5 : Int32) (a6 : Int32) (a7 : Int32) (h : HP) : J g mX11_reckonsTo X 135 [(0, .ref (g.2.2.1 0)), (2, .int a2), (3, .int a3), (4, .int a4), (5, .int a5), (6, .int a6), (7, .int a7)] [] h (xX11_reckonsTo_135 N K16 a2 a3 a4 a5 a6 a7 h) := by
  unfold xX11_reckonsTo_135
  refine j_aload_n E dX11_reckonsTo_135 0 rfl ?_
  refine j_getr E f_X11_68 (cM_0 hg) 20 rfl dX11_reckonsTo_136 ?_
  refine j_iload_n E dX11_reckonsTo_139 2 rfl ?_
  refine j_iconst E (v := 1) dX11_reckonsTo_140 (by decide) ?_
  refine j_isub E dX11_reckonsTo_141 ?_
  refine j_iald E (cM_20 hg) dX11_reckonsTo_142 (fun t1 => ?_)
  refine j_iload E dX11_reckonsTo_143 5 rfl ?_
  refine j_bipush E (v := 12) dX11_reckonsTo_145 (by decide) ?_
  refine j_cmp_ne E 154 dX11_reckonsTo_147 rfl ?_ ?_
  · refine j_iconst E (v := 0) dX11_reckonsTo_154 (by decide) ?_
    exact j_sub [0, 1, 2, 3, 4, 6] (lv1 := [(0, .ref (g.2.2.1 0)), (2, .int a2), (3, .int a3), (4, .int a4), (5, .int a5), (7, .int a7)]) rfl (jxX11_reckonsTo_155 hg N E K16 hK16 a2 a3 a4 a5 a7 t1 0 h)
  · refine j_iconst E (v := 1) dX11_reckonsTo_150 (by decide) ?_
    refine j_goto E 155 dX11_reckonsTo_151 rfl ?_
    exact j_sub [0, 1, 2, 3, 4, 6] (lv1 := [(0, .ref (g.2.2.1 0)), (2, .int a2), (3, .int a3), (4, .int a4), (5, .int a5), (7, .int a7)]) rfl (jxX11_reckonsTo_155 hg N E K16 hK16 a2 a3 a4 a5 a7 t1 1 h)
set_option maxRecDepth 20000 in
set_option maxHeartbeats 4000000 in
theorem jxX11_reckonsTo_203 {g : GC} (hg : isGM g) {X : MX} (N : Nat) (E : JE g mX11_reckonsTo X) (K16 : Int32 → Int32 → Int32 → Int32 → HP → Option (Int32 × HP)) (hK16 : ∀ (a2 : Int32) (a3 : Int32) (a4 : Int32) (a5 : Int32) (h : HP), J g mX11_reckonsTo X 16 [(0, .ref (g.2.2.1 0)), (2, .int a2), (3, .int a3), (4, .int a4), (5, .int a5)] [] h (K16 a2 a3 a4 a5 h)) (a2 : Int32) (a3 : Int32) (a4 : Int32) (a5 : Int32) (a6 : Int32) (h : HP) : J g mX11_reckonsTo X 203 [(0, .ref (g.2.2.1 0)), (2, .int a2), (3, .int a3), (4, .int a4), (5, .int a5), (6, .int a6)] [] h (xX11_reckonsTo_203 N K16 a2 a3 a4 a5 a6 h) := by
  unfold xX11_reckonsTo_203
  refine j_aload_n E dX11_reckonsTo_203 0 rfl ?_
  refine j_getr E f_X11_68 (cM_0 hg) 20 rfl dX11_reckonsTo_204 ?_
  refine j_iload_n E dX11_reckonsTo_207 2 rfl ?_
  refine j_iconst E (v := 1) dX11_reckonsTo_208 (by decide) ?_
  refine j_isub E dX11_reckonsTo_209 ?_
  refine j_iload E dX11_reckonsTo_210 5 rfl ?_
  refine j_aload_n E dX11_reckonsTo_212 0 rfl ?_
  refine j_getr E f_X11_68 (cM_0 hg) 20 rfl dX11_reckonsTo_213 ?_
  refine j_iload_n E dX11_reckonsTo_216 2 rfl ?_
  refine j_iconst E (v := 1) dX11_reckonsTo_217 (by decide) ?_
  refine j_isub E dX11_reckonsTo_218 ?_
  refine j_iald E (cM_20 hg) dX11_reckonsTo_219 (fun t1 => ?_)
  refine j_aload_n E dX11_reckonsTo_220 0 rfl ?_
  refine j_getr E f_X11_68 (cM_0 hg) 20 rfl dX11_reckonsTo_221 ?_
  refine j_iload_n E dX11_reckonsTo_224 2 rfl ?_
  refine j_iald E (cM_20 hg) dX11_reckonsTo_225 (fun t2 => ?_)
  refine j_callsI (As := [.int a6, .int t1, .int t2]) (st := [.int (a3 - 1), .ref (g.2.2.1 20)]) E (ok_X11_reckon hg E.2.2.2.2.2.2.2.1 a6 t1 t2 h) (cl_X11_258) (⟨Nat.le_of_ble_eq_true rfl, Nat.le_of_ble_eq_true rfl⟩) rfl rfl (Nat.le_of_ble_eq_true rfl) dX11_reckonsTo_226 (fun t3 h4 => ?_)
  refine j_iast E (cM_20 hg) dX11_reckonsTo_229 (fun h5 => ?_)
  exact j_sub [0, 1, 2, 3, 4] (lv1 := [(0, .ref (g.2.2.1 0)), (2, .int a2), (3, .int a3), (4, .int a4), (5, .int a5)]) rfl (jxX11_reckonsTo_230 hg N E K16 hK16 a2 a3 a4 a5 h5)
set_option maxRecDepth 20000 in
set_option maxHeartbeats 4000000 in
theorem jxX11_reckonsTo_192 {g : GC} (hg : isGM g) {X : MX} (N : Nat) (E : JE g mX11_reckonsTo X) (K16 : Int32 → Int32 → Int32 → Int32 → HP → Option (Int32 × HP)) (hK16 : ∀ (a2 : Int32) (a3 : Int32) (a4 : Int32) (a5 : Int32) (h : HP), J g mX11_reckonsTo X 16 [(0, .ref (g.2.2.1 0)), (2, .int a2), (3, .int a3), (4, .int a4), (5, .int a5)] [] h (K16 a2 a3 a4 a5 h)) (a2 : Int32) (a3 : Int32) (a4 : Int32) (a5 : Int32) (a6 : Int32) (h : HP) : J g mX11_reckonsTo X 192 [(0, .ref (g.2.2.1 0)), (2, .int a2), (3, .int a3), (4, .int a4), (5, .int a5), (6, .int a6)] [] h (xX11_reckonsTo_192 N K16 a2 a3 a4 a5 a6 h) := by
  unfold xX11_reckonsTo_192
  refine j_aload_n E dX11_reckonsTo_192 0 rfl ?_
  refine j_getr E f_X11_68 (cM_0 hg) 20 rfl dX11_reckonsTo_193 ?_
  refine j_iload_n E dX11_reckonsTo_196 2 rfl ?_
  refine j_iald E (cM_20 hg) dX11_reckonsTo_197 (fun t1 => ?_)
  refine j_if_ne E 203 dX11_reckonsTo_198 rfl ?_ ?_
  · exact jxX11_reckonsTo_203 hg N E K16 hK16 a2 a3 a4 a5 a6 h
  · refine j_iconst E (v := 0) dX11_reckonsTo_201 (by decide) ?_
    exact j_ireturn E rfl dX11_reckonsTo_202
set_option maxRecDepth 20000 in
set_option maxHeartbeats 4000000 in
theorem jxX11_reckonsTo_16 {g : GC} (hg : isGM g) {X : MX} (N : Nat) (E : JE g mX11_reckonsTo X) : ∀ (n : Nat) (a2 : Int32) (a3 : Int32) (a4 : Int32) (a5 : Int32) (h : HP), J g mX11_reckonsTo X 16 [(0, .ref (g.2.2.1 0)), (2, .int a2), (3, .int a3), (4, .int a4), (5, .int a5)] [] h (xX11_reckonsTo_16 N n a2 a3 a4 a5 h) := by
  intro n
  induction n with
  | zero => intro a2 a3 a4 a5 h; exact j_none
  | succ n ih =>
    intro a2 a3 a4 a5 h
    unfold xX11_reckonsTo_16
    refine j_iload E dX11_reckonsTo_16 4 rfl ?_
    refine j_iload_n E dX11_reckonsTo_18 1 rfl ?_
    refine j_cmp_ge E 233 dX11_reckonsTo_19 rfl ?_ ?_
    · refine j_aload_n E dX11_reckonsTo_233 0 rfl ?_
      refine j_getr E f_X11_68 (cM_0 hg) 20 rfl dX11_reckonsTo_234 ?_
      refine j_iconst E (v := 0) dX11_reckonsTo_237 (by decide) ?_
      refine j_iald E (cM_20 hg) dX11_reckonsTo_238 (fun t1 => ?_)
      exact j_ireturn E rfl dX11_reckonsTo_239
    · refine j_aload_n E dX11_reckonsTo_22 0 rfl ?_
      refine j_getr E f_X11_53 (cM_0 hg) 15 rfl dX11_reckonsTo_23 ?_
      refine j_iload E dX11_reckonsTo_26 4 rfl ?_
      refine j_iald E (cM_15 hg) dX11_reckonsTo_28 (fun t2 => ?_)
      refine j_ldc E (v := 1048576) k_X11_188 dX11_reckonsTo_29 ?_
      refine j_idivc E (by decide) dX11_reckonsTo_31 ?_
      refine j_istore E dX11_reckonsTo_32 (Nat.le_of_ble_eq_true rfl) (fun v3 => [(6, .int v3), (0, .ref (g.2.2.1 0)), (2, .int a2), (3, .int a3), (4, .int a4), (5, .int a5)]) (fun _ => rfl) (fun v3 => ?_)
      refine j_aload_n E dX11_reckonsTo_34 1 rfl ?_
      refine j_getr E f_X11_53 (cM_0 hg) 15 rfl dX11_reckonsTo_35 ?_
      refine j_iload E dX11_reckonsTo_38 5 rfl ?_
      refine j_iald E (cM_15 hg) dX11_reckonsTo_40 (fun t4 => ?_)
      refine j_ldc E (v := 1048576) k_X11_188 dX11_reckonsTo_41 ?_
      refine j_rem2 E (by decide) dX11_reckonsTo_43 ?_
      refine j_istore E dX11_reckonsTo_44 (Nat.le_of_ble_eq_true rfl) (fun v5 => [(7, .int v5), (6, .int v3), (0, .ref (g.2.2.1 0)), (2, .int a2), (3, .int a3), (4, .int a4), (5, .int a5)]) (fun _ => rfl) (fun v5 => ?_)
      refine j_iload E dX11_reckonsTo_46 6 rfl ?_
      refine j_iconst E (v := 1) dX11_reckonsTo_48 (by decide) ?_
      refine j_iadd E dX11_reckonsTo_49 ?_
      refine j_istore E dX11_reckonsTo_50 (Nat.le_of_ble_eq_true rfl) (fun v6 => [(5, .int v6), (7, .int v5), (6, .int v3), (0, .ref (g.2.2.1 0)), (2, .int a2), (3, .int a3), (4, .int a4)]) (fun _ => rfl) (fun v6 => ?_)
      refine j_iload E dX11_reckonsTo_52 2 rfl ?_
      refine j_if_eq E 63 dX11_reckonsTo_54 rfl ?_ ?_
      · exact j_sub [3, 4, 5, 6, 0, 2, 1] (lv1 := [(0, .ref (g.2.2.1 0)), (2, .int a2), (3, .int a3), (4, .int a4), (5, .int v6), (6, .int v3), (7, .int v5)]) rfl (jxX11_reckonsTo_63 hg N E (xX11_reckonsTo_16 N n) ih a2 a3 a4 v6 v3 v5 h)
      · refine j_iload E dX11_reckonsTo_57 2 rfl ?_
        refine j_iconst E (v := 1) dX11_reckonsTo_59 (by decide) ?_
        refine j_cmp_ne E 93 dX11_reckonsTo_60 rfl ?_ ?_
        · refine j_iload E dX11_reckonsTo_93 2 rfl ?_
          refine j_bipush E (v := 10) dX11_reckonsTo_95 (by decide) ?_
          refine j_cmp_ne E 121 dX11_reckonsTo_97 rfl ?_ ?_
          · refine j_iload E dX11_reckonsTo_121 2 rfl ?_
            refine j_bipush E (v := 11) dX11_reckonsTo_123 (by decide) ?_
            refine j_cmp_eq E 135 dX11_reckonsTo_125 rfl ?_ ?_
            · exact j_sub [3, 4, 5, 6, 0, 2, 1] (lv1 := [(0, .ref (g.2.2.1 0)), (2, .int a2), (3, .int a3), (4, .int a4), (5, .int v6), (6, .int v3), (7, .int v5)]) rfl (jxX11_reckonsTo_135 hg N E (xX11_reckonsTo_16 N n) ih a2 a3 a4 v6 v3 v5 h)
            · refine j_iload E dX11_reckonsTo_128 2 rfl ?_
              refine j_bipush E (v := 12) dX11_reckonsTo_130 (by decide) ?_
              refine j_cmp_ne E 175 dX11_reckonsTo_132 rfl ?_ ?_
              · refine j_iload_n E dX11_reckonsTo_175 5 rfl ?_
                refine j_iconst E (v := 1) dX11_reckonsTo_176 (by decide) ?_
                refine j_isub E dX11_reckonsTo_177 ?_
                refine j_istore_n E dX11_reckonsTo_178 (Nat.le_of_ble_eq_true rfl) (fun v7 => [(3, .int v7), (5, .int v6), (7, .int v5), (6, .int v3), (0, .ref (g.2.2.1 0)), (2, .int a2), (4, .int a4)]) (fun _ => rfl) (fun v7 => ?_)
                refine j_iload E dX11_reckonsTo_179 3 rfl ?_
                refine j_iconst E (v := 5) dX11_reckonsTo_181 (by decide) ?_
                refine j_cmp_eq E 192 dX11_reckonsTo_182 rfl ?_ ?_
                · exact j_sub [4, 5, 0, 6, 1, 3] (lv1 := [(0, .ref (g.2.2.1 0)), (2, .int a2), (3, .int v7), (4, .int a4), (5, .int v6), (6, .int v3)]) rfl (jxX11_reckonsTo_192 hg N E (xX11_reckonsTo_16 N n) ih a2 v7 a4 v6 v3 h)
                · refine j_iload E dX11_reckonsTo_185 3 rfl ?_
                  refine j_bipush E (v := 6) dX11_reckonsTo_187 (by decide) ?_
                  refine j_cmp_ne E 203 dX11_reckonsTo_189 rfl ?_ ?_
                  · exact j_sub [4, 5, 0, 6, 1, 3] (lv1 := [(0, .ref (g.2.2.1 0)), (2, .int a2), (3, .int v7), (4, .int a4), (5, .int v6), (6, .int v3)]) rfl (jxX11_reckonsTo_203 hg N E (xX11_reckonsTo_16 N n) ih a2 v7 a4 v6 v3 h)
                  · exact j_sub [4, 5, 0, 6, 1, 3] (lv1 := [(0, .ref (g.2.2.1 0)), (2, .int a2), (3, .int v7), (4, .int a4), (5, .int v6), (6, .int v3)]) rfl (jxX11_reckonsTo_192 hg N E (xX11_reckonsTo_16 N n) ih a2 v7 a4 v6 v3 h)
              · exact j_sub [3, 4, 5, 6, 0, 2, 1] (lv1 := [(0, .ref (g.2.2.1 0)), (2, .int a2), (3, .int a3), (4, .int a4), (5, .int v6), (6, .int v3), (7, .int v5)]) rfl (jxX11_reckonsTo_135 hg N E (xX11_reckonsTo_16 N n) ih a2 a3 a4 v6 v3 v5 h)
          · refine j_aload_n E dX11_reckonsTo_100 3 rfl ?_
            refine j_getr E f_X11_68 (cM_0 hg) 20 rfl dX11_reckonsTo_101 ?_
            refine j_iload_n E dX11_reckonsTo_104 5 rfl ?_
            refine j_iconst E (v := 1) dX11_reckonsTo_105 (by decide) ?_
            refine j_isub E dX11_reckonsTo_106 ?_
            refine j_iconst E (v := 1) dX11_reckonsTo_107 (by decide) ?_
            refine j_aload_n E dX11_reckonsTo_108 3 rfl ?_
            refine j_getr E f_X11_68 (cM_0 hg) 20 rfl dX11_reckonsTo_109 ?_
            refine j_iload_n E dX11_reckonsTo_112 5 rfl ?_
            refine j_iconst E (v := 1) dX11_reckonsTo_113 (by decide) ?_
            refine j_isub E dX11_reckonsTo_114 ?_
            refine j_iald E (cM_20 hg) dX11_reckonsTo_115 (fun t8 => ?_)
            refine j_isub E dX11_reckonsTo_116 ?_
            refine j_iast E (cM_20 hg) dX11_reckonsTo_117 (fun h9 => ?_)
            refine j_goto E 230 dX11_reckonsTo_118 rfl ?_
            exact j_sub [3, 4, 5, 6, 0] (lv1 := [(0, .ref (g.2.2.1 0)), (2, .int a2), (3, .int a3), (4, .int a4), (5, .int v6)]) rfl (jxX11_reckonsTo_230 hg N E (xX11_reckonsTo_16 N n) ih a2 a3 a4 v6 h9)
        · exact j_sub [3, 4, 5, 6, 0, 2, 1] (lv1 := [(0, .ref (g.2.2.1 0)), (2, .int a2), (3, .int a3), (4, .int a4), (5, .int v6), (6, .int v3), (7, .int v5)]) rfl (jxX11_reckonsTo_63 hg N E (xX11_reckonsTo_16 N n) ih a2 a3 a4 v6 v3 v5 h)
set_option maxRecDepth 20000 in
set_option maxHeartbeats 4000000 in
theorem jxX11_reckonsTo {g : GC} (hg : isGM g) {X : MX} (N : Nat) (E : JE g mX11_reckonsTo X) (a1 : Int32) (a2 : Int32) (h : HP) : J g mX11_reckonsTo X 0 [(0, .ref (g.2.2.1 0)), (1, .int a1), (2, .int a2)] [] h (xX11_reckonsTo N a1 a2 h) := by
  unfold xX11_reckonsTo
  refine j_iconst E (v := 0) dX11_reckonsTo_0 (by decide) ?_
  refine j_istore0_n E dX11_reckonsTo_1 (Nat.le_of_ble_eq_true rfl) [(3, .int 0), (0, .ref (g.2.2.1 0)), (1, .int a1), (2, .int a2)] rfl ?_
  refine j_sipush E (v := 260) dX11_reckonsTo_2 (by decide) ?_
  refine j_iload_n E dX11_reckonsTo_5 2 rfl ?_
  refine j_sipush E (v := 260) dX11_reckonsTo_6 (by decide) ?_
  refine j_idivc E (by decide) dX11_reckonsTo_9 ?_
  refine j_imul E dX11_reckonsTo_10 ?_
  refine j_istore E dX11_reckonsTo_11 (Nat.le_of_ble_eq_true rfl) (fun v1 => [(4, .int v1), (3, .int 0), (0, .ref (g.2.2.1 0)), (1, .int a1), (2, .int a2)]) (fun _ => rfl) (fun v1 => ?_)
  refine j_iload_n E dX11_reckonsTo_13 3 rfl ?_
  refine j_istore0 E dX11_reckonsTo_14 (Nat.le_of_ble_eq_true rfl) [(5, .int a1), (4, .int v1), (3, .int 0), (0, .ref (g.2.2.1 0)), (1, .int a1), (2, .int a2)] rfl ?_
  exact j_sub [3, 5, 2, 1, 0] (lv1 := [(0, .ref (g.2.2.1 0)), (2, .int a2), (3, .int 0), (4, .int v1), (5, .int a1)]) rfl (jxX11_reckonsTo_16 hg N E N a2 0 v1 a1 h)
theorem ok_X11_reckonsTo {g : GC} (hg : isGM g) (hI : gI g) (N : Nat) (a1 : Int32) (a2 : Int32) (h : HP) : Ok g yX11_reckonsTo mX11_reckonsTo [.ref (g.2.2.1 0), .int a1, .int a2] h (xX11_reckonsTo N a1 a2 h) := Ok.of hI (by decide) rfl (Nat.le_of_ble_eq_true rfl) (fun X E => jxX11_reckonsTo hg N E a1 a2 h)
set_option maxRecDepth 20000 in
set_option maxHeartbeats 4000000 in
theorem jxX11_byLaw_80 {g : GC} (hg : isGM g) {X : MX} (N : Nat) (E : JE g mX11_byLaw X) (s0 : Int32) (h : HP) : J g mX11_byLaw X 80 [] [.int s0] h (xX11_byLaw_80 N s0 h) := by
  unfold xX11_byLaw_80
  exact j_ireturn E rfl dX11_byLaw_80
set_option maxRecDepth 20000 in
set_option maxHeartbeats 4000000 in
theorem jxX11_byLaw_81 {g : GC} (hg : isGM g) {X : MX} (N : Nat) (E : JE g mX11_byLaw X) (K2 : Int32 → Int32 → HP → Option (Int32 × HP)) (hK2 : ∀ (a1 : Int32) (a2 : Int32) (h : HP), J g mX11_byLaw X 2 [(0, .ref (g.2.2.1 0)), (1, .int a1), (2, .int a2)] [] h (K2 a1 a2 h)) (a1 : Int32) (a2 : Int32) (h : HP) : J g mX11_byLaw X 81 [(0, .ref (g.2.2.1 0)), (1, .int a1), (2, .int a2)] [] h (xX11_byLaw_81 N K2 a1 a2 h) := by
  unfold xX11_byLaw_81
  refine j_iinc E (c := 1) dX11_byLaw_81 2 rfl (by decide) (Nat.le_of_ble_eq_true rfl) (fun v1 => [(2, .int v1), (0, .ref (g.2.2.1 0)), (1, .int a1)]) (fun _ => rfl) (fun v1 => ?_)
  refine j_goto E 2 dX11_byLaw_84 rfl ?_
  exact j_sub [1, 2, 0] (lv1 := [(0, .ref (g.2.2.1 0)), (1, .int a1), (2, .int v1)]) rfl (hK2 a1 v1 h)
set_option maxRecDepth 20000 in
set_option maxHeartbeats 4000000 in
theorem jxX11_byLaw_2 {g : GC} (hg : isGM g) {X : MX} (N : Nat) (E : JE g mX11_byLaw X) : ∀ (n : Nat) (a1 : Int32) (a2 : Int32) (h : HP), J g mX11_byLaw X 2 [(0, .ref (g.2.2.1 0)), (1, .int a1), (2, .int a2)] [] h (xX11_byLaw_2 N n a1 a2 h) := by
  intro n
  induction n with
  | zero => intro a1 a2 h; exact j_none
  | succ n ih =>
    intro a1 a2 h
    unfold xX11_byLaw_2
    refine j_iload_n E dX11_byLaw_2 2 rfl ?_
    refine j_aload_n E dX11_byLaw_3 0 rfl ?_
    refine j_geti E f_X11_255 (cM_0 hg) rfl dX11_byLaw_4 ?_
    refine j_cmp_ge E 87 dX11_byLaw_7 rfl ?_ ?_
    · refine j_iconst E (v := 1) dX11_byLaw_87 (by decide) ?_
      exact j_ireturn E rfl dX11_byLaw_88
    · refine j_aload_n E dX11_byLaw_10 0 rfl ?_
      refine j_getr E f_X11_56 (cM_0 hg) 16 rfl dX11_byLaw_11 ?_
      refine j_iload_n E dX11_byLaw_14 2 rfl ?_
      refine j_iald E (cM_16 hg) dX11_byLaw_15 (fun t1 => ?_)
      refine j_iload_n E dX11_byLaw_16 1 rfl ?_
      refine j_cmp_ne E 81 dX11_byLaw_17 rfl ?_ ?_
      · exact jxX11_byLaw_81 hg N E (xX11_byLaw_2 N n) ih a1 a2 h
      · refine j_aload_n E dX11_byLaw_20 0 rfl ?_
        refine j_aload_n E dX11_byLaw_21 0 rfl ?_
        refine j_getr E f_X11_62 (cM_0 hg) 18 rfl dX11_byLaw_22 ?_
        refine j_iload_n E dX11_byLaw_25 2 rfl ?_
        refine j_iald E (cM_18 hg) dX11_byLaw_26 (fun t2 => ?_)
        refine j_aload_n E dX11_byLaw_27 0 rfl ?_
        refine j_getr E f_X11_65 (cM_0 hg) 19 rfl dX11_byLaw_28 ?_
        refine j_iload_n E dX11_byLaw_31 2 rfl ?_
        refine j_iald E (cM_19 hg) dX11_byLaw_32 (fun t3 => ?_)
        refine j_callvI (As := [.int t2, .int t3]) (st := []) E (ok_X11_reckonsTo hg E.2.2.2.2.2.2.2.1 N t2 t3 h) (cM_0 hg) (cl_X11_262) (⟨Nat.le_of_ble_eq_true rfl, Nat.le_of_ble_eq_true rfl⟩) rfl rfl (Nat.le_of_ble_eq_true rfl) dX11_byLaw_33 (fun t4 h5 => ?_)
        refine j_iconst E (v := 1) dX11_byLaw_36 (by decide) ?_
        refine j_cmp_eq E 43 dX11_byLaw_37 rfl ?_ ?_
        · refine j_aload_n E dX11_byLaw_43 0 rfl ?_
          refine j_aload_n E dX11_byLaw_44 0 rfl ?_
          refine j_getr E f_X11_59 (cM_0 hg) 17 rfl dX11_byLaw_45 ?_
          refine j_iload_n E dX11_byLaw_48 2 rfl ?_
          refine j_iald E (cM_17 hg) dX11_byLaw_49 (fun t6 => ?_)
          refine j_aload_n E dX11_byLaw_50 0 rfl ?_
          refine j_getr E f_X11_62 (cM_0 hg) 18 rfl dX11_byLaw_51 ?_
          refine j_iload_n E dX11_byLaw_54 2 rfl ?_
          refine j_iald E (cM_18 hg) dX11_byLaw_55 (fun t7 => ?_)
          refine j_callvI (As := [.int t6, .int t7]) (st := []) E (ok_X11_reckonsTo hg E.2.2.2.2.2.2.2.1 N t6 t7 h5) (cM_0 hg) (cl_X11_262) (⟨Nat.le_of_ble_eq_true rfl, Nat.le_of_ble_eq_true rfl⟩) rfl rfl (Nat.le_of_ble_eq_true rfl) dX11_byLaw_56 (fun t8 h9 => ?_)
          refine j_istore0_n E dX11_byLaw_59 (Nat.le_of_ble_eq_true rfl) [(3, .int t8), (0, .ref (g.2.2.1 0)), (1, .int a1), (2, .int a2)] rfl ?_
          refine j_iload_n E dX11_byLaw_60 0 rfl ?_
          refine j_if_ge E 68 dX11_byLaw_61 rfl ?_ ?_
          · refine j_iload_n E dX11_byLaw_68 0 rfl ?_
            refine j_bipush E (v := 99) dX11_byLaw_69 (by decide) ?_
            refine j_cmp_le E 79 dX11_byLaw_71 rfl ?_ ?_
            · refine j_iload_n E dX11_byLaw_79 0 rfl ?_
              exact j_sub [] (lv1 := []) rfl (jxX11_byLaw_80 hg N E t8 h9)
            · refine j_bipush E (v := 99) dX11_byLaw_74 (by decide) ?_
              refine j_goto E 80 dX11_byLaw_76 rfl ?_
              exact j_sub [] (lv1 := []) rfl (jxX11_byLaw_80 hg N E 99 h9)
          · refine j_iconst E (v := 0) dX11_byLaw_64 (by decide) ?_
            refine j_goto E 80 dX11_byLaw_65 rfl ?_
            exact j_sub [] (lv1 := []) rfl (jxX11_byLaw_80 hg N E 0 h9)
        · refine j_goto E 81 dX11_byLaw_40 rfl ?_
          exact jxX11_byLaw_81 hg N E (xX11_byLaw_2 N n) ih a1 a2 h5
set_option maxRecDepth 20000 in
set_option maxHeartbeats 4000000 in
theorem jxX11_byLaw {g : GC} (hg : isGM g) {X : MX} (N : Nat) (E : JE g mX11_byLaw X) (a1 : Int32) (h : HP) : J g mX11_byLaw X 0 [(0, .ref (g.2.2.1 0)), (1, .int a1)] [] h (xX11_byLaw N a1 h) := by
  unfold xX11_byLaw
  refine j_iconst E (v := 0) dX11_byLaw_0 (by decide) ?_
  refine j_istore0_n E dX11_byLaw_1 (Nat.le_of_ble_eq_true rfl) [(2, .int 0), (0, .ref (g.2.2.1 0)), (1, .int a1)] rfl ?_
  exact j_sub [1, 2, 0] (lv1 := [(0, .ref (g.2.2.1 0)), (1, .int a1), (2, .int 0)]) rfl (jxX11_byLaw_2 hg N E N a1 0 h)
theorem ok_X11_byLaw {g : GC} (hg : isGM g) (hI : gI g) (N : Nat) (a1 : Int32) (h : HP) : Ok g yX11_byLaw mX11_byLaw [.ref (g.2.2.1 0), .int a1] h (xX11_byLaw N a1 h) := Ok.of hI (by decide) rfl (Nat.le_of_ble_eq_true rfl) (fun X E => jxX11_byLaw hg N E a1 h)
set_option maxRecDepth 20000 in
set_option maxHeartbeats 4000000 in
theorem jxX11_holdsAny_42 {g : GC} (hg : isGM g) {X : MX} (N : Nat) (E : JE g mX11_holdsAny X) (K2 : Int32 → Int32 → HP → Option (Int32 × HP)) (hK2 : ∀ (a1 : Int32) (a2 : Int32) (h : HP), J g mX11_holdsAny X 2 [(0, .ref (g.2.2.1 0)), (1, .int a1), (2, .int a2)] [] h (K2 a1 a2 h)) (a1 : Int32) (a2 : Int32) (h : HP) : J g mX11_holdsAny X 42 [(0, .ref (g.2.2.1 0)), (1, .int a1), (2, .int a2)] [] h (xX11_holdsAny_42 N K2 a1 a2 h) := by
  unfold xX11_holdsAny_42
  refine j_iinc E (c := 1) dX11_holdsAny_42 2 rfl (by decide) (Nat.le_of_ble_eq_true rfl) (fun v1 => [(2, .int v1), (0, .ref (g.2.2.1 0)), (1, .int a1)]) (fun _ => rfl) (fun v1 => ?_)
  refine j_goto E 2 dX11_holdsAny_45 rfl ?_
  exact j_sub [1, 2, 0] (lv1 := [(0, .ref (g.2.2.1 0)), (1, .int a1), (2, .int v1)]) rfl (hK2 a1 v1 h)
set_option maxRecDepth 20000 in
set_option maxHeartbeats 4000000 in
theorem jxX11_holdsAny_2 {g : GC} (hg : isGM g) {X : MX} (N : Nat) (E : JE g mX11_holdsAny X) : ∀ (n : Nat) (a1 : Int32) (a2 : Int32) (h : HP), J g mX11_holdsAny X 2 [(0, .ref (g.2.2.1 0)), (1, .int a1), (2, .int a2)] [] h (xX11_holdsAny_2 N n a1 a2 h) := by
  intro n
  induction n with
  | zero => intro a1 a2 h; exact j_none
  | succ n ih =>
    intro a1 a2 h
    unfold xX11_holdsAny_2
    refine j_iload_n E dX11_holdsAny_2 2 rfl ?_
    refine j_aload_n E dX11_holdsAny_3 0 rfl ?_
    refine j_geti E f_X11_255 (cM_0 hg) rfl dX11_holdsAny_4 ?_
    refine j_cmp_ge E 48 dX11_holdsAny_7 rfl ?_ ?_
    · refine j_iconst E (v := 0) dX11_holdsAny_48 (by decide) ?_
      exact j_zreturn E rfl dX11_holdsAny_49
    · refine j_aload_n E dX11_holdsAny_10 0 rfl ?_
      refine j_getr E f_X11_56 (cM_0 hg) 16 rfl dX11_holdsAny_11 ?_
      refine j_iload_n E dX11_holdsAny_14 2 rfl ?_
      refine j_iald E (cM_16 hg) dX11_holdsAny_15 (fun t1 => ?_)
      refine j_iload_n E dX11_holdsAny_16 1 rfl ?_
      refine j_cmp_ne E 42 dX11_holdsAny_17 rfl ?_ ?_
      · exact jxX11_holdsAny_42 hg N E (xX11_holdsAny_2 N n) ih a1 a2 h
      · refine j_aload_n E dX11_holdsAny_20 0 rfl ?_
        refine j_aload_n E dX11_holdsAny_21 0 rfl ?_
        refine j_getr E f_X11_62 (cM_0 hg) 18 rfl dX11_holdsAny_22 ?_
        refine j_iload_n E dX11_holdsAny_25 2 rfl ?_
        refine j_iald E (cM_18 hg) dX11_holdsAny_26 (fun t2 => ?_)
        refine j_aload_n E dX11_holdsAny_27 0 rfl ?_
        refine j_getr E f_X11_65 (cM_0 hg) 19 rfl dX11_holdsAny_28 ?_
        refine j_iload_n E dX11_holdsAny_31 2 rfl ?_
        refine j_iald E (cM_19 hg) dX11_holdsAny_32 (fun t3 => ?_)
        refine j_callvI (As := [.int t2, .int t3]) (st := []) E (ok_X11_reckonsTo hg E.2.2.2.2.2.2.2.1 N t2 t3 h) (cM_0 hg) (cl_X11_262) (⟨Nat.le_of_ble_eq_true rfl, Nat.le_of_ble_eq_true rfl⟩) rfl rfl (Nat.le_of_ble_eq_true rfl) dX11_holdsAny_33 (fun t4 h5 => ?_)
        refine j_iconst E (v := 1) dX11_holdsAny_36 (by decide) ?_
        refine j_cmp_ne E 42 dX11_holdsAny_37 rfl ?_ ?_
        · exact jxX11_holdsAny_42 hg N E (xX11_holdsAny_2 N n) ih a1 a2 h5
        · refine j_iconst E (v := 1) dX11_holdsAny_40 (by decide) ?_
          exact j_zreturn E rfl dX11_holdsAny_41
set_option maxRecDepth 20000 in
set_option maxHeartbeats 4000000 in
theorem jxX11_holdsAny {g : GC} (hg : isGM g) {X : MX} (N : Nat) (E : JE g mX11_holdsAny X) (a1 : Int32) (h : HP) : J g mX11_holdsAny X 0 [(0, .ref (g.2.2.1 0)), (1, .int a1)] [] h (xX11_holdsAny N a1 h) := by
  unfold xX11_holdsAny
  refine j_iconst E (v := 0) dX11_holdsAny_0 (by decide) ?_
  refine j_istore0_n E dX11_holdsAny_1 (Nat.le_of_ble_eq_true rfl) [(2, .int 0), (0, .ref (g.2.2.1 0)), (1, .int a1)] rfl ?_
  exact j_sub [1, 2, 0] (lv1 := [(0, .ref (g.2.2.1 0)), (1, .int a1), (2, .int 0)]) rfl (jxX11_holdsAny_2 hg N E N a1 0 h)
theorem ok_X11_holdsAny {g : GC} (hg : isGM g) (hI : gI g) (N : Nat) (a1 : Int32) (h : HP) : Ok g yX11_holdsAny mX11_holdsAny [.ref (g.2.2.1 0), .int a1] h (xX11_holdsAny N a1 h) := Ok.of hI (by decide) rfl (Nat.le_of_ble_eq_true rfl) (fun X E => jxX11_holdsAny hg N E a1 h)
set_option maxRecDepth 20000 in
set_option maxHeartbeats 4000000 in
theorem jxX11_isLetter {g : GC} (hg : isGM g) {X : MX} (E : JE g mX11_isLetter X) (h : HP) : J g mX11_isLetter X 0 [(0, .ref (g.2.2.1 0))] [] h (xX11_isLetter h) := by
  unfold xX11_isLetter
  refine j_aload_n E dX11_isLetter_0 0 rfl ?_
  refine j_callvI (As := []) (st := []) E (ok_X11_here hg E.2.2.2.2.2.2.2.1 h) (cM_0 hg) (cl_X11_168) (⟨Nat.le_of_ble_eq_true rfl, Nat.le_of_ble_eq_true rfl⟩) rfl rfl (Nat.le_of_ble_eq_true rfl) dX11_isLetter_1 (fun t1 h2 => ?_)
  refine j_bipush E (v := 97) dX11_isLetter_4 (by decide) ?_
  refine j_isub E dX11_isLetter_6 ?_
  refine j_iconst E (v := 0) dX11_isLetter_7 (by decide) ?_
  refine j_bipush E (v := 15) dX11_isLetter_8 (by decide) ?_
  refine j_callsI (As := [.int (t1 - 97), .int 0, .int 15]) (st := []) E (ok_X11_in hg E.2.2.2.2.2.2.2.1 (t1 - 97) 0 15 h2) (cl_X11_129) (⟨Nat.le_of_ble_eq_true rfl, Nat.le_of_ble_eq_true rfl⟩) rfl rfl (Nat.le_of_ble_eq_true rfl) dX11_isLetter_10 (fun t3 h4 => ?_)
  exact j_zreturn E rfl dX11_isLetter_13
theorem ok_X11_isLetter {g : GC} (hg : isGM g) (hI : gI g) (h : HP) : Ok g yX11_isLetter mX11_isLetter [.ref (g.2.2.1 0)] h (xX11_isLetter h) := Ok.of hI (by decide) rfl (Nat.le_of_ble_eq_true rfl) (fun X E => jxX11_isLetter hg E h)
set_option maxRecDepth 20000 in
set_option maxHeartbeats 4000000 in
theorem jxX11_readsAmount_27 {g : GC} (hg : isGM g) {X : MX} (N : Nat) (E : JE g mX11_readsAmount X) : ∀ (n : Nat) (a1 : Int32) (a2 : Int32) (h : HP), J g mX11_readsAmount X 27 [(0, .ref (g.2.2.1 0)), (1, .int a1), (2, .int a2)] [] h (xX11_readsAmount_27 N n a1 a2 h) := by
  intro n
  induction n with
  | zero => intro a1 a2 h; exact j_none
  | succ n ih =>
    intro a1 a2 h
    unfold xX11_readsAmount_27
    refine j_aload_n E dX11_readsAmount_27 0 rfl ?_
    refine j_callvI (As := []) (st := []) E (ok_X11_isDigit hg E.2.2.2.2.2.2.2.1 h) (cM_0 hg) (cl_X11_181) (⟨Nat.le_of_ble_eq_true rfl, Nat.le_of_ble_eq_true rfl⟩) rfl rfl (Nat.le_of_ble_eq_true rfl) dX11_readsAmount_28 (fun t1 h2 => ?_)
    refine j_if_eq E 86 dX11_readsAmount_31 rfl ?_ ?_
    · refine j_iconst E (v := 1) dX11_readsAmount_86 (by decide) ?_
      exact j_zreturn E rfl dX11_readsAmount_87
    · refine j_aload_n E dX11_readsAmount_34 0 rfl ?_
      refine j_geti E f_X11_162 (cM_0 hg) rfl dX11_readsAmount_35 ?_
      refine j_iload_n E dX11_readsAmount_38 2 rfl ?_
      refine j_iload_n E dX11_readsAmount_39 1 rfl ?_
      refine j_iadd E dX11_readsAmount_40 ?_
      refine j_cmp_ne E 54 dX11_readsAmount_41 rfl ?_ ?_
      · refine j_aload_n E dX11_readsAmount_54 0 rfl ?_
        refine j_bipush E (v := 10) dX11_readsAmount_55 (by decide) ?_
        refine j_aload_n E dX11_readsAmount_57 0 rfl ?_
        refine j_geti E f_X11_178 (cM_0 hg) rfl dX11_readsAmount_58 ?_
        refine j_imul E dX11_readsAmount_61 ?_
        refine j_aload_n E dX11_readsAmount_62 0 rfl ?_
        refine j_callvI (As := []) (st := [.int (10 * (h2.1 0 14)), .ref (g.2.2.1 0)]) E (ok_X11_here hg E.2.2.2.2.2.2.2.1 h2) (cM_0 hg) (cl_X11_168) (⟨Nat.le_of_ble_eq_true rfl, Nat.le_of_ble_eq_true rfl⟩) rfl rfl (Nat.le_of_ble_eq_true rfl) dX11_readsAmount_63 (fun t3 h4 => ?_)
        refine j_iadd E dX11_readsAmount_66 ?_
        refine j_bipush E (v := 48) dX11_readsAmount_67 (by decide) ?_
        refine j_isub E dX11_readsAmount_69 ?_
        refine j_puti E fp_X11_178 (cM_0 hg) rfl dX11_readsAmount_70 (fun h5 => ?_)
        refine j_aload_n E dX11_readsAmount_73 0 rfl ?_
        refine j_aload_n E dX11_readsAmount_74 0 rfl ?_
        refine j_geti E f_X11_162 (cM_0 hg) rfl dX11_readsAmount_75 ?_
        refine j_iconst E (v := 1) dX11_readsAmount_78 (by decide) ?_
        refine j_iadd E dX11_readsAmount_79 ?_
        refine j_puti E fp_X11_162 (cM_0 hg) rfl dX11_readsAmount_80 (fun h6 => ?_)
        refine j_goto E 27 dX11_readsAmount_83 rfl ?_
        exact ih a1 a2 h6
      · refine j_aload_n E dX11_readsAmount_44 0 rfl ?_
        refine j_iconst E (v := 2) dX11_readsAmount_45 (by decide) ?_
        refine j_aload_n E dX11_readsAmount_46 0 rfl ?_
        refine j_geti E f_X11_162 (cM_0 hg) rfl dX11_readsAmount_47 ?_
        refine j_callvI (As := [.int 2, .int (h2.1 0 11)]) (st := []) E (ok_X11_wrongAt hg E.2.2.2.2.2.2.2.1 2 (h2.1 0 11) h2) (cM_0 hg) (cl_X11_175) (⟨Nat.le_of_ble_eq_true rfl, Nat.le_of_ble_eq_true rfl⟩) rfl rfl (Nat.le_of_ble_eq_true rfl) dX11_readsAmount_50 (fun t7 h8 => ?_)
        exact j_zreturn E rfl dX11_readsAmount_53
set_option maxRecDepth 20000 in
set_option maxHeartbeats 4000000 in
theorem jxX11_readsAmount {g : GC} (hg : isGM g) {X : MX} (N : Nat) (E : JE g mX11_readsAmount X) (a1 : Int32) (h : HP) : J g mX11_readsAmount X 0 [(0, .ref (g.2.2.1 0)), (1, .int a1)] [] h (xX11_readsAmount N a1 h) := by
  unfold xX11_readsAmount
  refine j_aload_n E dX11_readsAmount_0 0 rfl ?_
  refine j_geti E f_X11_162 (cM_0 hg) rfl dX11_readsAmount_1 ?_
  refine j_istore_n E dX11_readsAmount_4 (Nat.le_of_ble_eq_true rfl) (fun v1 => [(2, .int v1), (0, .ref (g.2.2.1 0)), (1, .int a1)]) (fun _ => rfl) (fun v1 => ?_)
  refine j_aload_n E dX11_readsAmount_5 1 rfl ?_
  refine j_callvI (As := []) (st := []) E (ok_X11_isDigit hg E.2.2.2.2.2.2.2.1 h) (cM_0 hg) (cl_X11_181) (⟨Nat.le_of_ble_eq_true rfl, Nat.le_of_ble_eq_true rfl⟩) rfl rfl (Nat.le_of_ble_eq_true rfl) dX11_readsAmount_6 (fun t2 h3 => ?_)
  refine j_if_ne E 22 dX11_readsAmount_9 rfl ?_ ?_
  · refine j_aload_n E dX11_readsAmount_22 1 rfl ?_
    refine j_iconst E (v := 0) dX11_readsAmount_23 (by decide) ?_
    refine j_puti E fp_X11_178 (cM_0 hg) rfl dX11_readsAmount_24 (fun h4 => ?_)
    exact j_sub [1, 2, 0] (lv1 := [(0, .ref (g.2.2.1 0)), (1, .int a1), (2, .int v1)]) rfl (jxX11_readsAmount_27 hg N E N a1 v1 h4)
  · refine j_aload_n E dX11_readsAmount_12 1 rfl ?_
    refine j_iconst E (v := 1) dX11_readsAmount_13 (by decide) ?_
    refine j_aload_n E dX11_readsAmount_14 1 rfl ?_
    refine j_geti E f_X11_162 (cM_0 hg) rfl dX11_readsAmount_15 ?_
    refine j_callvI (As := [.int 1, .int (h3.1 0 11)]) (st := []) E (ok_X11_wrongAt hg E.2.2.2.2.2.2.2.1 1 (h3.1 0 11) h3) (cM_0 hg) (cl_X11_175) (⟨Nat.le_of_ble_eq_true rfl, Nat.le_of_ble_eq_true rfl⟩) rfl rfl (Nat.le_of_ble_eq_true rfl) dX11_readsAmount_18 (fun t5 h6 => ?_)
    exact j_zreturn E rfl dX11_readsAmount_21
theorem ok_X11_readsAmount {g : GC} (hg : isGM g) (hI : gI g) (N : Nat) (a1 : Int32) (h : HP) : Ok g yX11_readsAmount mX11_readsAmount [.ref (g.2.2.1 0), .int a1] h (xX11_readsAmount N a1 h) := Ok.of hI (by decide) rfl (Nat.le_of_ble_eq_true rfl) (fun X E => jxX11_readsAmount hg N E a1 h)
set_option maxRecDepth 20000 in
set_option maxHeartbeats 4000000 in
theorem jxX11_readsRoad {g : GC} (hg : isGM g) {X : MX} (N : Nat) (E : JE g mX11_readsRoad X) (a1 : Int32) (h : HP) : J g mX11_readsRoad X 0 [(0, .ref (g.2.2.1 0)), (1, .int a1)] [] h (xX11_readsRoad N a1 h) := by
  unfold xX11_readsRoad
  refine j_aload_n E dX11_readsRoad_0 0 rfl ?_
  refine j_geti E f_X11_265 (cM_0 hg) rfl dX11_readsRoad_1 ?_
  refine j_bipush E (v := 24) dX11_readsRoad_4 (by decide) ?_
  refine j_cmp_ne E 19 dX11_readsRoad_6 rfl ?_ ?_
  · refine j_aload_n E dX11_readsRoad_19 0 rfl ?_
    refine j_aload_n E dX11_readsRoad_20 0 rfl ?_
    refine j_geti E f_X11_162 (cM_0 hg) rfl dX11_readsRoad_21 ?_
    refine j_iconst E (v := 1) dX11_readsRoad_24 (by decide) ?_
    refine j_iadd E dX11_readsRoad_25 ?_
    refine j_puti E fp_X11_162 (cM_0 hg) rfl dX11_readsRoad_26 (fun h1 => ?_)
    refine j_aload_n E dX11_readsRoad_29 0 rfl ?_
    refine j_callvI (As := []) (st := []) E (ok_X11_isLetter hg E.2.2.2.2.2.2.2.1 h1) (cM_0 hg) (cl_X11_268) (⟨Nat.le_of_ble_eq_true rfl, Nat.le_of_ble_eq_true rfl⟩) rfl rfl (Nat.le_of_ble_eq_true rfl) dX11_readsRoad_30 (fun t2 h3 => ?_)
    refine j_if_ne E 46 dX11_readsRoad_33 rfl ?_ ?_
    · refine j_aload_n E dX11_readsRoad_46 0 rfl ?_
      refine j_callvI (As := []) (st := []) E (ok_X11_here hg E.2.2.2.2.2.2.2.1 h3) (cM_0 hg) (cl_X11_168) (⟨Nat.le_of_ble_eq_true rfl, Nat.le_of_ble_eq_true rfl⟩) rfl rfl (Nat.le_of_ble_eq_true rfl) dX11_readsRoad_47 (fun t4 h5 => ?_)
      refine j_bipush E (v := 97) dX11_readsRoad_50 (by decide) ?_
      refine j_isub E dX11_readsRoad_52 ?_
      refine j_istore_n E dX11_readsRoad_53 (Nat.le_of_ble_eq_true rfl) (fun v6 => [(2, .int v6), (0, .ref (g.2.2.1 0)), (1, .int a1)]) (fun _ => rfl) (fun v6 => ?_)
      refine j_iload_n E dX11_readsRoad_54 0 rfl ?_
      refine j_iload_n E dX11_readsRoad_55 2 rfl ?_
      refine j_cmp_ne E 70 dX11_readsRoad_56 rfl ?_ ?_
      · refine j_aload_n E dX11_readsRoad_70 1 rfl ?_
        refine j_aload_n E dX11_readsRoad_71 1 rfl ?_
        refine j_geti E f_X11_162 (cM_0 hg) rfl dX11_readsRoad_72 ?_
        refine j_iconst E (v := 1) dX11_readsRoad_75 (by decide) ?_
        refine j_iadd E dX11_readsRoad_76 ?_
        refine j_puti E fp_X11_162 (cM_0 hg) rfl dX11_readsRoad_77 (fun h7 => ?_)
        refine j_aload_n E dX11_readsRoad_80 1 rfl ?_
        refine j_geti E f_X11_162 (cM_0 hg) rfl dX11_readsRoad_81 ?_
        refine j_istore_n E dX11_readsRoad_84 (Nat.le_of_ble_eq_true rfl) (fun v8 => [(3, .int v8), (2, .int v6), (0, .ref (g.2.2.1 0)), (1, .int a1)]) (fun _ => rfl) (fun v8 => ?_)
        refine j_aload_n E dX11_readsRoad_85 2 rfl ?_
        refine j_iconst E (v := 2) dX11_readsRoad_86 (by decide) ?_
        refine j_callvI (As := [.int 2]) (st := []) E (ok_X11_readsAmount hg E.2.2.2.2.2.2.2.1 N 2 h7) (cM_0 hg) (cl_X11_271) (⟨Nat.le_of_ble_eq_true rfl, Nat.le_of_ble_eq_true rfl⟩) rfl rfl (Nat.le_of_ble_eq_true rfl) dX11_readsRoad_87 (fun t9 h10 => ?_)
        refine j_if_ne E 95 dX11_readsRoad_90 rfl ?_ ?_
        · refine j_aload_n E dX11_readsRoad_95 2 rfl ?_
          refine j_geti E f_X11_178 (cM_0 hg) rfl dX11_readsRoad_96 ?_
          refine j_if_ne E 109 dX11_readsRoad_99 rfl ?_ ?_
          · refine j_aload_n E dX11_readsRoad_109 2 rfl ?_
            refine j_aload_n E dX11_readsRoad_110 2 rfl ?_
            refine j_geti E f_X11_274 (cM_0 hg) rfl dX11_readsRoad_111 ?_
            refine j_iconst E (v := 1) dX11_readsRoad_114 (by decide) ?_
            refine j_iload_n E dX11_readsRoad_115 1 rfl ?_
            refine j_ishl E dX11_readsRoad_116 ?_
            refine j_ior E dX11_readsRoad_117 ?_
            refine j_puti E fp_X11_274 (cM_0 hg) rfl dX11_readsRoad_118 (fun h11 => ?_)
            refine j_aload_n E dX11_readsRoad_121 2 rfl ?_
            refine j_getr E f_X11_77 (cM_0 hg) 23 rfl dX11_readsRoad_122 ?_
            refine j_aload_n E dX11_readsRoad_125 2 rfl ?_
            refine j_geti E f_X11_265 (cM_0 hg) rfl dX11_readsRoad_126 ?_
            refine j_iload_n E dX11_readsRoad_129 3 rfl ?_
            refine j_iast E (cM_23 hg) dX11_readsRoad_130 (fun h12 => ?_)
            refine j_aload_n E dX11_readsRoad_131 2 rfl ?_
            refine j_getr E f_X11_80 (cM_0 hg) 24 rfl dX11_readsRoad_132 ?_
            refine j_aload_n E dX11_readsRoad_135 2 rfl ?_
            refine j_geti E f_X11_265 (cM_0 hg) rfl dX11_readsRoad_136 ?_
            refine j_iload_n E dX11_readsRoad_139 1 rfl ?_
            refine j_iast E (cM_24 hg) dX11_readsRoad_140 (fun h13 => ?_)
            refine j_aload_n E dX11_readsRoad_141 2 rfl ?_
            refine j_getr E f_X11_83 (cM_0 hg) 25 rfl dX11_readsRoad_142 ?_
            refine j_aload_n E dX11_readsRoad_145 2 rfl ?_
            refine j_geti E f_X11_265 (cM_0 hg) rfl dX11_readsRoad_146 ?_
            refine j_aload_n E dX11_readsRoad_149 2 rfl ?_
            refine j_geti E f_X11_178 (cM_0 hg) rfl dX11_readsRoad_150 ?_
            refine j_iast E (cM_25 hg) dX11_readsRoad_153 (fun h14 => ?_)
            refine j_aload_n E dX11_readsRoad_154 2 rfl ?_
            refine j_aload_n E dX11_readsRoad_155 2 rfl ?_
            refine j_geti E f_X11_265 (cM_0 hg) rfl dX11_readsRoad_156 ?_
            refine j_iconst E (v := 1) dX11_readsRoad_159 (by decide) ?_
            refine j_iadd E dX11_readsRoad_160 ?_
            refine j_puti E fp_X11_265 (cM_0 hg) rfl dX11_readsRoad_161 (fun h15 => ?_)
            refine j_iconst E (v := 1) dX11_readsRoad_164 (by decide) ?_
            exact j_zreturn E rfl dX11_readsRoad_165
          · refine j_aload_n E dX11_readsRoad_102 2 rfl ?_
            refine j_iconst E (v := 3) dX11_readsRoad_103 (by decide) ?_
            refine j_iload_n E dX11_readsRoad_104 0 rfl ?_
            refine j_callvI (As := [.int 3, .int v8]) (st := []) E (ok_X11_wrongAt hg E.2.2.2.2.2.2.2.1 3 v8 h10) (cM_0 hg) (cl_X11_175) (⟨Nat.le_of_ble_eq_true rfl, Nat.le_of_ble_eq_true rfl⟩) rfl rfl (Nat.le_of_ble_eq_true rfl) dX11_readsRoad_105 (fun t16 h17 => ?_)
            exact j_zreturn E rfl dX11_readsRoad_108
        · refine j_iconst E (v := 0) dX11_readsRoad_93 (by decide) ?_
          exact j_zreturn E rfl dX11_readsRoad_94
      · refine j_aload_n E dX11_readsRoad_59 1 rfl ?_
        refine j_bipush E (v := 6) dX11_readsRoad_60 (by decide) ?_
        refine j_aload_n E dX11_readsRoad_62 1 rfl ?_
        refine j_geti E f_X11_162 (cM_0 hg) rfl dX11_readsRoad_63 ?_
        refine j_callvI (As := [.int 6, .int (h5.1 0 11)]) (st := []) E (ok_X11_wrongAt hg E.2.2.2.2.2.2.2.1 6 (h5.1 0 11) h5) (cM_0 hg) (cl_X11_175) (⟨Nat.le_of_ble_eq_true rfl, Nat.le_of_ble_eq_true rfl⟩) rfl rfl (Nat.le_of_ble_eq_true rfl) dX11_readsRoad_66 (fun t18 h19 => ?_)
        exact j_zreturn E rfl dX11_readsRoad_69
    · refine j_aload_n E dX11_readsRoad_36 0 rfl ?_
      refine j_iconst E (v := 1) dX11_readsRoad_37 (by decide) ?_
      refine j_aload_n E dX11_readsRoad_38 0 rfl ?_
      refine j_geti E f_X11_162 (cM_0 hg) rfl dX11_readsRoad_39 ?_
      refine j_callvI (As := [.int 1, .int (h3.1 0 11)]) (st := []) E (ok_X11_wrongAt hg E.2.2.2.2.2.2.2.1 1 (h3.1 0 11) h3) (cM_0 hg) (cl_X11_175) (⟨Nat.le_of_ble_eq_true rfl, Nat.le_of_ble_eq_true rfl⟩) rfl rfl (Nat.le_of_ble_eq_true rfl) dX11_readsRoad_42 (fun t20 h21 => ?_)
      exact j_zreturn E rfl dX11_readsRoad_45
  · refine j_aload_n E dX11_readsRoad_9 0 rfl ?_
    refine j_iconst E (v := 5) dX11_readsRoad_10 (by decide) ?_
    refine j_aload_n E dX11_readsRoad_11 0 rfl ?_
    refine j_geti E f_X11_162 (cM_0 hg) rfl dX11_readsRoad_12 ?_
    refine j_callvI (As := [.int 5, .int (h.1 0 11)]) (st := []) E (ok_X11_wrongAt hg E.2.2.2.2.2.2.2.1 5 (h.1 0 11) h) (cM_0 hg) (cl_X11_175) (⟨Nat.le_of_ble_eq_true rfl, Nat.le_of_ble_eq_true rfl⟩) rfl rfl (Nat.le_of_ble_eq_true rfl) dX11_readsRoad_15 (fun t22 h23 => ?_)
    exact j_zreturn E rfl dX11_readsRoad_18
theorem ok_X11_readsRoad {g : GC} (hg : isGM g) (hI : gI g) (N : Nat) (a1 : Int32) (h : HP) : Ok g yX11_readsRoad mX11_readsRoad [.ref (g.2.2.1 0), .int a1] h (xX11_readsRoad N a1 h) := Ok.of hI (by decide) rfl (Nat.le_of_ble_eq_true rfl) (fun X E => jxX11_readsRoad hg N E a1 h)
set_option maxRecDepth 20000 in
set_option maxHeartbeats 4000000 in
theorem jxX11_readsTownLine_117 {g : GC} (hg : isGM g) {X : MX} (N : Nat) (E : JE g mX11_readsTownLine X) : ∀ (n : Nat) (a1 : Int32) (h : HP), J g mX11_readsTownLine X 117 [(0, .ref (g.2.2.1 0)), (1, .int a1)] [] h (xX11_readsTownLine_117 N n a1 h) := by
  intro n
  induction n with
  | zero => intro a1 h; exact j_none
  | succ n ih =>
    intro a1 h
    unfold xX11_readsTownLine_117
    refine j_aload_n E dX11_readsTownLine_117 0 rfl ?_
    refine j_callvI (As := []) (st := []) E (ok_X11_here hg E.2.2.2.2.2.2.2.1 h) (cM_0 hg) (cl_X11_168) (⟨Nat.le_of_ble_eq_true rfl, Nat.le_of_ble_eq_true rfl⟩) rfl rfl (Nat.le_of_ble_eq_true rfl) dX11_readsTownLine_118 (fun t1 h2 => ?_)
    refine j_bipush E (v := 45) dX11_readsTownLine_121 (by decide) ?_
    refine j_cmp_ne E 151 dX11_readsTownLine_123 rfl ?_ ?_
    · refine j_iconst E (v := 1) dX11_readsTownLine_151 (by decide) ?_
      exact j_zreturn E rfl dX11_readsTownLine_152
    · refine j_aload_n E dX11_readsTownLine_126 0 rfl ?_
      refine j_iload_n E dX11_readsTownLine_127 1 rfl ?_
      refine j_callvI (As := [.int a1]) (st := []) E (ok_X11_readsRoad hg E.2.2.2.2.2.2.2.1 N a1 h2) (cM_0 hg) (cl_X11_280) (⟨Nat.le_of_ble_eq_true rfl, Nat.le_of_ble_eq_true rfl⟩) rfl rfl (Nat.le_of_ble_eq_true rfl) dX11_readsTownLine_128 (fun t3 h4 => ?_)
      refine j_if_ne E 136 dX11_readsTownLine_131 rfl ?_ ?_
      · refine j_aload_n E dX11_readsTownLine_136 0 rfl ?_
        refine j_getr E f_X11_80 (cM_0 hg) 24 rfl dX11_readsTownLine_137 ?_
        refine j_aload_n E dX11_readsTownLine_140 0 rfl ?_
        refine j_geti E f_X11_265 (cM_0 hg) rfl dX11_readsTownLine_141 ?_
        refine j_iconst E (v := 1) dX11_readsTownLine_144 (by decide) ?_
        refine j_isub E dX11_readsTownLine_145 ?_
        refine j_iald E (cM_24 hg) dX11_readsTownLine_146 (fun t5 => ?_)
        refine j_istore0_n E dX11_readsTownLine_147 (Nat.le_of_ble_eq_true rfl) [(1, .int t5), (0, .ref (g.2.2.1 0))] rfl ?_
        refine j_goto E 117 dX11_readsTownLine_148 rfl ?_
        exact j_sub [1, 0] (lv1 := [(0, .ref (g.2.2.1 0)), (1, .int t5)]) rfl (ih t5 h4)
      · refine j_iconst E (v := 0) dX11_readsTownLine_134 (by decide) ?_
        exact j_zreturn E rfl dX11_readsTownLine_135
set_option maxRecDepth 20000 in
set_option maxHeartbeats 4000000 in
theorem jxX11_readsTownLine {g : GC} (hg : isGM g) {X : MX} (N : Nat) (E : JE g mX11_readsTownLine X) (h : HP) : J g mX11_readsTownLine X 0 [(0, .ref (g.2.2.1 0))] [] h (xX11_readsTownLine N h) := by
  unfold xX11_readsTownLine
  refine j_aload_n E dX11_readsTownLine_0 0 rfl ?_
  refine j_callvI (As := []) (st := []) E (ok_X11_isLetter hg E.2.2.2.2.2.2.2.1 h) (cM_0 hg) (cl_X11_268) (⟨Nat.le_of_ble_eq_true rfl, Nat.le_of_ble_eq_true rfl⟩) rfl rfl (Nat.le_of_ble_eq_true rfl) dX11_readsTownLine_1 (fun t1 h2 => ?_)
  refine j_if_ne E 17 dX11_readsTownLine_4 rfl ?_ ?_
  · refine j_aload_n E dX11_readsTownLine_17 0 rfl ?_
    refine j_geti E f_X11_277 (cM_0 hg) rfl dX11_readsTownLine_18 ?_
    refine j_bipush E (v := 24) dX11_readsTownLine_21 (by decide) ?_
    refine j_cmp_ne E 36 dX11_readsTownLine_23 rfl ?_ ?_
    · refine j_aload_n E dX11_readsTownLine_36 0 rfl ?_
      refine j_aload_n E dX11_readsTownLine_37 0 rfl ?_
      refine j_geti E f_X11_277 (cM_0 hg) rfl dX11_readsTownLine_38 ?_
      refine j_iconst E (v := 1) dX11_readsTownLine_41 (by decide) ?_
      refine j_iadd E dX11_readsTownLine_42 ?_
      refine j_puti E fp_X11_277 (cM_0 hg) rfl dX11_readsTownLine_43 (fun h3 => ?_)
      refine j_aload_n E dX11_readsTownLine_46 0 rfl ?_
      refine j_callvI (As := []) (st := []) E (ok_X11_here hg E.2.2.2.2.2.2.2.1 h3) (cM_0 hg) (cl_X11_168) (⟨Nat.le_of_ble_eq_true rfl, Nat.le_of_ble_eq_true rfl⟩) rfl rfl (Nat.le_of_ble_eq_true rfl) dX11_readsTownLine_47 (fun t4 h5 => ?_)
      refine j_bipush E (v := 97) dX11_readsTownLine_50 (by decide) ?_
      refine j_isub E dX11_readsTownLine_52 ?_
      refine j_istore_n E dX11_readsTownLine_53 (Nat.le_of_ble_eq_true rfl) (fun v6 => [(1, .int v6), (0, .ref (g.2.2.1 0))]) (fun _ => rfl) (fun v6 => ?_)
      refine j_aload_n E dX11_readsTownLine_54 1 rfl ?_
      refine j_aload_n E dX11_readsTownLine_55 1 rfl ?_
      refine j_geti E f_X11_162 (cM_0 hg) rfl dX11_readsTownLine_56 ?_
      refine j_iconst E (v := 1) dX11_readsTownLine_59 (by decide) ?_
      refine j_iadd E dX11_readsTownLine_60 ?_
      refine j_puti E fp_X11_162 (cM_0 hg) rfl dX11_readsTownLine_61 (fun h7 => ?_)
      refine j_aload_n E dX11_readsTownLine_64 1 rfl ?_
      refine j_aload_n E dX11_readsTownLine_65 1 rfl ?_
      refine j_geti E f_X11_274 (cM_0 hg) rfl dX11_readsTownLine_66 ?_
      refine j_iconst E (v := 1) dX11_readsTownLine_69 (by decide) ?_
      refine j_iload_n E dX11_readsTownLine_70 0 rfl ?_
      refine j_ishl E dX11_readsTownLine_71 ?_
      refine j_ior E dX11_readsTownLine_72 ?_
      refine j_puti E fp_X11_274 (cM_0 hg) rfl dX11_readsTownLine_73 (fun h8 => ?_)
      refine j_aload_n E dX11_readsTownLine_76 1 rfl ?_
      refine j_callvI (As := []) (st := []) E (ok_X11_here hg E.2.2.2.2.2.2.2.1 h8) (cM_0 hg) (cl_X11_168) (⟨Nat.le_of_ble_eq_true rfl, Nat.le_of_ble_eq_true rfl⟩) rfl rfl (Nat.le_of_ble_eq_true rfl) dX11_readsTownLine_77 (fun t9 h10 => ?_)
      refine j_bipush E (v := 61) dX11_readsTownLine_80 (by decide) ?_
      refine j_cmp_ne E 117 dX11_readsTownLine_82 rfl ?_ ?_
      · exact j_sub [1, 0] (lv1 := [(0, .ref (g.2.2.1 0)), (1, .int v6)]) rfl (jxX11_readsTownLine_117 hg N E N v6 h10)
      · refine j_aload_n E dX11_readsTownLine_85 1 rfl ?_
        refine j_aload_n E dX11_readsTownLine_86 1 rfl ?_
        refine j_geti E f_X11_162 (cM_0 hg) rfl dX11_readsTownLine_87 ?_
        refine j_iconst E (v := 1) dX11_readsTownLine_90 (by decide) ?_
        refine j_iadd E dX11_readsTownLine_91 ?_
        refine j_puti E fp_X11_162 (cM_0 hg) rfl dX11_readsTownLine_92 (fun h11 => ?_)
        refine j_aload_n E dX11_readsTownLine_95 1 rfl ?_
        refine j_iconst E (v := 2) dX11_readsTownLine_96 (by decide) ?_
        refine j_callvI (As := [.int 2]) (st := []) E (ok_X11_readsAmount hg E.2.2.2.2.2.2.2.1 N 2 h11) (cM_0 hg) (cl_X11_271) (⟨Nat.le_of_ble_eq_true rfl, Nat.le_of_ble_eq_true rfl⟩) rfl rfl (Nat.le_of_ble_eq_true rfl) dX11_readsTownLine_97 (fun t12 h13 => ?_)
        refine j_if_ne E 105 dX11_readsTownLine_100 rfl ?_ ?_
        · refine j_aload_n E dX11_readsTownLine_105 1 rfl ?_
          refine j_getr E f_X11_74 (cM_0 hg) 22 rfl dX11_readsTownLine_106 ?_
          refine j_iload_n E dX11_readsTownLine_109 0 rfl ?_
          refine j_aload_n E dX11_readsTownLine_110 1 rfl ?_
          refine j_geti E f_X11_178 (cM_0 hg) rfl dX11_readsTownLine_111 ?_
          refine j_iast E (cM_22 hg) dX11_readsTownLine_114 (fun h14 => ?_)
          refine j_iconst E (v := 1) dX11_readsTownLine_115 (by decide) ?_
          exact j_zreturn E rfl dX11_readsTownLine_116
        · refine j_iconst E (v := 0) dX11_readsTownLine_103 (by decide) ?_
          exact j_zreturn E rfl dX11_readsTownLine_104
    · refine j_aload_n E dX11_readsTownLine_26 0 rfl ?_
      refine j_iconst E (v := 4) dX11_readsTownLine_27 (by decide) ?_
      refine j_aload_n E dX11_readsTownLine_28 0 rfl ?_
      refine j_geti E f_X11_162 (cM_0 hg) rfl dX11_readsTownLine_29 ?_
      refine j_callvI (As := [.int 4, .int (h2.1 0 11)]) (st := []) E (ok_X11_wrongAt hg E.2.2.2.2.2.2.2.1 4 (h2.1 0 11) h2) (cM_0 hg) (cl_X11_175) (⟨Nat.le_of_ble_eq_true rfl, Nat.le_of_ble_eq_true rfl⟩) rfl rfl (Nat.le_of_ble_eq_true rfl) dX11_readsTownLine_32 (fun t15 h16 => ?_)
      exact j_zreturn E rfl dX11_readsTownLine_35
  · refine j_aload_n E dX11_readsTownLine_7 0 rfl ?_
    refine j_iconst E (v := 1) dX11_readsTownLine_8 (by decide) ?_
    refine j_aload_n E dX11_readsTownLine_9 0 rfl ?_
    refine j_geti E f_X11_162 (cM_0 hg) rfl dX11_readsTownLine_10 ?_
    refine j_callvI (As := [.int 1, .int (h2.1 0 11)]) (st := []) E (ok_X11_wrongAt hg E.2.2.2.2.2.2.2.1 1 (h2.1 0 11) h2) (cM_0 hg) (cl_X11_175) (⟨Nat.le_of_ble_eq_true rfl, Nat.le_of_ble_eq_true rfl⟩) rfl rfl (Nat.le_of_ble_eq_true rfl) dX11_readsTownLine_13 (fun t17 h18 => ?_)
    exact j_zreturn E rfl dX11_readsTownLine_16
theorem ok_X11_readsTownLine {g : GC} (hg : isGM g) (hI : gI g) (N : Nat) (h : HP) : Ok g yX11_readsTownLine mX11_readsTownLine [.ref (g.2.2.1 0)] h (xX11_readsTownLine N h) := Ok.of hI (by decide) rfl (Nat.le_of_ble_eq_true rfl) (fun X E => jxX11_readsTownLine hg N E h)
set_option maxRecDepth 20000 in
set_option maxHeartbeats 4000000 in
theorem jxX11_town_19 {g : GC} (hg : isGM g) {X : MX} (N : Nat) (E : JE g mX11_town X) (h : HP) : J g mX11_town X 19 [] [] h (xX11_town_19 N h) := by
  unfold xX11_town_19
  refine j_iconst E (v := (-1)) dX11_town_19 (by decide) ?_
  exact j_ireturn E rfl dX11_town_20
set_option maxRecDepth 20000 in
set_option maxHeartbeats 4000000 in
theorem jxX11_town_103 {g : GC} (hg : isGM g) {X : MX} (N : Nat) (E : JE g mX11_town X) (K67 : Int32 → HP → Option (Int32 × HP)) (hK67 : ∀ (a2 : Int32) (h : HP), J g mX11_town X 67 [(0, .ref (g.2.2.1 0)), (2, .int a2)] [] h (K67 a2 h)) (s0 : Int32) (h : HP) : J g mX11_town X 103 [(0, .ref (g.2.2.1 0))] [.int s0] h (xX11_town_103 N K67 s0 h) := by
  unfold xX11_town_103
  refine j_istore0_n E dX11_town_103 (Nat.le_of_ble_eq_true rfl) [(2, .int s0), (0, .ref (g.2.2.1 0))] rfl ?_
  refine j_goto E 67 dX11_town_104 rfl ?_
  exact j_sub [1, 0] (lv1 := [(0, .ref (g.2.2.1 0)), (2, .int s0)]) rfl (hK67 s0 h)
set_option maxRecDepth 20000 in
set_option maxHeartbeats 4000000 in
theorem jxX11_town_102 {g : GC} (hg : isGM g) {X : MX} (N : Nat) (E : JE g mX11_town X) (K67 : Int32 → HP → Option (Int32 × HP)) (hK67 : ∀ (a2 : Int32) (h : HP), J g mX11_town X 67 [(0, .ref (g.2.2.1 0)), (2, .int a2)] [] h (K67 a2 h)) (h : HP) : J g mX11_town X 102 [(0, .ref (g.2.2.1 0))] [] h (xX11_town_102 N K67 h) := by
  unfold xX11_town_102
  refine j_iconst E (v := 0) dX11_town_102 (by decide) ?_
  exact jxX11_town_103 hg N E K67 hK67 0 h
set_option maxRecDepth 20000 in
set_option maxHeartbeats 4000000 in
theorem jxX11_town_194 {g : GC} (hg : isGM g) {X : MX} (N : Nat) (E : JE g mX11_town X) : ∀ (n : Nat) (a3 : Int32) (h : HP), J g mX11_town X 194 [(0, .ref (g.2.2.1 0)), (3, .int a3)] [] h (xX11_town_194 N n a3 h) := by
  intro n
  induction n with
  | zero => intro a3 h; exact j_none
  | succ n ih =>
    intro a3 h
    unfold xX11_town_194
    refine j_iload_n E dX11_town_194 1 rfl ?_
    refine j_aload_n E dX11_town_195 0 rfl ?_
    refine j_geti E f_X11_145 (cM_0 hg) rfl dX11_town_196 ?_
    refine j_cmp_ge E 254 dX11_town_199 rfl ?_ ?_
    · refine j_aload_n E dX11_town_254 0 rfl ?_
      refine j_geti E f_X11_145 (cM_0 hg) rfl dX11_town_255 ?_
      exact j_ireturn E rfl dX11_town_258
    · refine j_aload_n E dX11_town_202 0 rfl ?_
      refine j_getr E f_X11_22 (cM_0 hg) 5 rfl dX11_town_203 ?_
      refine j_iload_n E dX11_town_206 1 rfl ?_
      refine j_aload_n E dX11_town_207 0 rfl ?_
      refine j_getr E f_X11_77 (cM_0 hg) 23 rfl dX11_town_208 ?_
      refine j_iload_n E dX11_town_211 1 rfl ?_
      refine j_iald E (cM_23 hg) dX11_town_212 (fun t1 => ?_)
      refine j_iast E (cM_5 hg) dX11_town_213 (fun h2 => ?_)
      refine j_aload_n E dX11_town_214 0 rfl ?_
      refine j_getr E f_X11_25 (cM_0 hg) 6 rfl dX11_town_215 ?_
      refine j_iload_n E dX11_town_218 1 rfl ?_
      refine j_aload_n E dX11_town_219 0 rfl ?_
      refine j_getr E f_X11_80 (cM_0 hg) 24 rfl dX11_town_220 ?_
      refine j_iload_n E dX11_town_223 1 rfl ?_
      refine j_iald E (cM_24 hg) dX11_town_224 (fun t3 => ?_)
      refine j_iast E (cM_6 hg) dX11_town_225 (fun h4 => ?_)
      refine j_aload_n E dX11_town_226 0 rfl ?_
      refine j_getr E f_X11_28 (cM_0 hg) 7 rfl dX11_town_227 ?_
      refine j_iload_n E dX11_town_230 1 rfl ?_
      refine j_aload_n E dX11_town_231 0 rfl ?_
      refine j_getr E f_X11_83 (cM_0 hg) 25 rfl dX11_town_232 ?_
      refine j_iload_n E dX11_town_235 1 rfl ?_
      refine j_iald E (cM_25 hg) dX11_town_236 (fun t5 => ?_)
      refine j_iast E (cM_7 hg) dX11_town_237 (fun h6 => ?_)
      refine j_aload_n E dX11_town_238 0 rfl ?_
      refine j_getr E f_X11_7 (cM_0 hg) 1 rfl dX11_town_239 ?_
      refine j_bipush E (v := 48) dX11_town_242 (by decide) ?_
      refine j_iload_n E dX11_town_244 1 rfl ?_
      refine j_iadd E dX11_town_245 ?_
      refine j_iconst E (v := 1) dX11_town_246 (by decide) ?_
      refine j_iast E (cM_1 hg) dX11_town_247 (fun h7 => ?_)
      refine j_iinc E (c := 1) dX11_town_248 1 rfl (by decide) (Nat.le_of_ble_eq_true rfl) (fun v8 => [(3, .int v8), (0, .ref (g.2.2.1 0))]) (fun _ => rfl) (fun v8 => ?_)
      refine j_goto E 194 dX11_town_251 rfl ?_
      exact j_sub [1, 0] (lv1 := [(0, .ref (g.2.2.1 0)), (3, .int v8)]) rfl (ih v8 h7)
set_option maxRecDepth 20000 in
set_option maxHeartbeats 4000000 in
theorem jxX11_town_139 {g : GC} (hg : isGM g) {X : MX} (N : Nat) (E : JE g mX11_town X) : ∀ (n : Nat) (a3 : Int32) (h : HP), J g mX11_town X 139 [(0, .ref (g.2.2.1 0)), (3, .int a3)] [] h (xX11_town_139 N n a3 h) := by
  intro n
  induction n with
  | zero => intro a3 h; exact j_none
  | succ n ih =>
    intro a3 h
    unfold xX11_town_139
    refine j_iload_n E dX11_town_139 1 rfl ?_
    refine j_bipush E (v := 16) dX11_town_140 (by decide) ?_
    refine j_cmp_ge E 192 dX11_town_142 rfl ?_ ?_
    · refine j_iconst E (v := 0) dX11_town_192 (by decide) ?_
      refine j_istore0_n E dX11_town_193 (Nat.le_of_ble_eq_true rfl) [(3, .int 0), (0, .ref (g.2.2.1 0))] rfl ?_
      exact j_sub [1, 0] (lv1 := [(0, .ref (g.2.2.1 0)), (3, .int 0)]) rfl (jxX11_town_194 hg N E N 0 h)
    · refine j_aload_n E dX11_town_145 0 rfl ?_
      refine j_getr E f_X11_19 (cM_0 hg) 4 rfl dX11_town_146 ?_
      refine j_iload_n E dX11_town_149 1 rfl ?_
      refine j_aload_n E dX11_town_150 0 rfl ?_
      refine j_getr E f_X11_74 (cM_0 hg) 22 rfl dX11_town_151 ?_
      refine j_iload_n E dX11_town_154 1 rfl ?_
      refine j_iald E (cM_22 hg) dX11_town_155 (fun t1 => ?_)
      refine j_iast E (cM_4 hg) dX11_town_156 (fun h2 => ?_)
      refine j_aload_n E dX11_town_157 0 rfl ?_
      refine j_getr E f_X11_7 (cM_0 hg) 1 rfl dX11_town_158 ?_
      refine j_iconst E (v := 0) dX11_town_161 (by decide) ?_
      refine j_iload_n E dX11_town_162 1 rfl ?_
      refine j_iadd E dX11_town_163 ?_
      refine j_iconst E (v := 0) dX11_town_164 (by decide) ?_
      refine j_iast E (cM_1 hg) dX11_town_165 (fun h3 => ?_)
      refine j_aload_n E dX11_town_166 0 rfl ?_
      refine j_getr E f_X11_7 (cM_0 hg) 1 rfl dX11_town_167 ?_
      refine j_bipush E (v := 16) dX11_town_170 (by decide) ?_
      refine j_iload_n E dX11_town_172 1 rfl ?_
      refine j_iadd E dX11_town_173 ?_
      refine j_iconst E (v := 0) dX11_town_174 (by decide) ?_
      refine j_iast E (cM_1 hg) dX11_town_175 (fun h4 => ?_)
      refine j_aload_n E dX11_town_176 0 rfl ?_
      refine j_getr E f_X11_7 (cM_0 hg) 1 rfl dX11_town_177 ?_
      refine j_bipush E (v := 32) dX11_town_180 (by decide) ?_
      refine j_iload_n E dX11_town_182 1 rfl ?_
      refine j_iadd E dX11_town_183 ?_
      refine j_iconst E (v := 0) dX11_town_184 (by decide) ?_
      refine j_iast E (cM_1 hg) dX11_town_185 (fun h5 => ?_)
      refine j_iinc E (c := 1) dX11_town_186 1 rfl (by decide) (Nat.le_of_ble_eq_true rfl) (fun v6 => [(3, .int v6), (0, .ref (g.2.2.1 0))]) (fun _ => rfl) (fun v6 => ?_)
      refine j_goto E 139 dX11_town_189 rfl ?_
      exact j_sub [1, 0] (lv1 := [(0, .ref (g.2.2.1 0)), (3, .int v6)]) rfl (ih v6 h5)
set_option maxRecDepth 20000 in
set_option maxHeartbeats 4000000 in
theorem jxX11_town_107 {g : GC} (hg : isGM g) {X : MX} (N : Nat) (E : JE g mX11_town X) (a2 : Int32) (h : HP) : J g mX11_town X 107 [(0, .ref (g.2.2.1 0)), (2, .int a2)] [] h (xX11_town_107 N a2 h) := by
  unfold xX11_town_107
  refine j_aload_n E dX11_town_107 0 rfl ?_
  refine j_iconst E (v := 0) dX11_town_108 (by decide) ?_
  refine j_puti E fp_X11_155 (cM_0 hg) rfl dX11_town_109 (fun h1 => ?_)
  refine j_iload_n E dX11_town_112 1 rfl ?_
  refine j_if_ne E 121 dX11_town_113 rfl ?_ ?_
  · refine j_aload_n E dX11_town_121 0 rfl ?_
    refine j_aload_n E dX11_town_122 0 rfl ?_
    refine j_geti E f_X11_274 (cM_0 hg) rfl dX11_town_123 ?_
    refine j_puti E fp_X11_133 (cM_0 hg) rfl dX11_town_126 (fun h2 => ?_)
    refine j_aload_n E dX11_town_129 0 rfl ?_
    refine j_aload_n E dX11_town_130 0 rfl ?_
    refine j_geti E f_X11_265 (cM_0 hg) rfl dX11_town_131 ?_
    refine j_puti E fp_X11_145 (cM_0 hg) rfl dX11_town_134 (fun h3 => ?_)
    refine j_iconst E (v := 0) dX11_town_137 (by decide) ?_
    refine j_istore0_n E dX11_town_138 (Nat.le_of_ble_eq_true rfl) [(3, .int 0), (0, .ref (g.2.2.1 0)), (2, .int a2)] rfl ?_
    exact j_sub [1, 0] (lv1 := [(0, .ref (g.2.2.1 0)), (3, .int 0)]) rfl (jxX11_town_139 hg N E N 0 h3)
  · refine j_aload_n E dX11_town_116 0 rfl ?_
    refine j_geti E f_X11_172 (cM_0 hg) rfl dX11_town_117 ?_
    exact j_ireturn E rfl dX11_town_120
set_option maxRecDepth 20000 in
set_option maxHeartbeats 4000000 in
theorem jxX11_town_67 {g : GC} (hg : isGM g) {X : MX} (N : Nat) (E : JE g mX11_town X) : ∀ (n : Nat) (a2 : Int32) (h : HP), J g mX11_town X 67 [(0, .ref (g.2.2.1 0)), (2, .int a2)] [] h (xX11_town_67 N n a2 h) := by
  intro n
  induction n with
  | zero => intro a2 h; exact j_none
  | succ n ih =>
    intro a2 h
    unfold xX11_town_67
    refine j_iload_n E dX11_town_67 1 rfl ?_
    refine j_if_eq E 107 dX11_town_68 rfl ?_ ?_
    · exact jxX11_town_107 hg N E a2 h
    · refine j_aload_n E dX11_town_71 0 rfl ?_
      refine j_geti E f_X11_162 (cM_0 hg) rfl dX11_town_72 ?_
      refine j_aload_n E dX11_town_75 0 rfl ?_
      refine j_geti E f_X11_165 (cM_0 hg) rfl dX11_town_76 ?_
      refine j_cmp_ge E 107 dX11_town_79 rfl ?_ ?_
      · exact jxX11_town_107 hg N E a2 h
      · refine j_aload_n E dX11_town_82 0 rfl ?_
        refine j_bipush E (v := 59) dX11_town_83 (by decide) ?_
        refine j_callvI (As := [.int 59]) (st := []) E (ok_X11_takes hg E.2.2.2.2.2.2.2.1 59 h) (cM_0 hg) (cl_X11_252) (⟨Nat.le_of_ble_eq_true rfl, Nat.le_of_ble_eq_true rfl⟩) rfl rfl (Nat.le_of_ble_eq_true rfl) dX11_town_85 (fun t1 h2 => ?_)
        refine j_if_eq E 102 dX11_town_88 rfl ?_ ?_
        · exact j_sub [0] (lv1 := [(0, .ref (g.2.2.1 0))]) rfl (jxX11_town_102 hg N E (xX11_town_67 N n) ih h2)
        · refine j_aload_n E dX11_town_91 0 rfl ?_
          refine j_callvI (As := []) (st := []) E (ok_X11_readsTownLine hg E.2.2.2.2.2.2.2.1 N h2) (cM_0 hg) (cl_X11_283) (⟨Nat.le_of_ble_eq_true rfl, Nat.le_of_ble_eq_true rfl⟩) rfl rfl (Nat.le_of_ble_eq_true rfl) dX11_town_92 (fun t3 h4 => ?_)
          refine j_if_eq E 102 dX11_town_95 rfl ?_ ?_
          · exact j_sub [0] (lv1 := [(0, .ref (g.2.2.1 0))]) rfl (jxX11_town_102 hg N E (xX11_town_67 N n) ih h4)
          · refine j_iconst E (v := 1) dX11_town_98 (by decide) ?_
            refine j_goto E 103 dX11_town_99 rfl ?_
            exact j_sub [0] (lv1 := [(0, .ref (g.2.2.1 0))]) rfl (jxX11_town_103 hg N E (xX11_town_67 N n) ih 1 h4)
set_option maxRecDepth 20000 in
set_option maxHeartbeats 4000000 in
theorem jxX11_town_43 {g : GC} (hg : isGM g) {X : MX} (N : Nat) (E : JE g mX11_town X) : ∀ (n : Nat) (a2 : Int32) (h : HP), J g mX11_town X 43 [(0, .ref (g.2.2.1 0)), (2, .int a2)] [] h (xX11_town_43 N n a2 h) := by
  intro n
  induction n with
  | zero => intro a2 h; exact j_none
  | succ n ih =>
    intro a2 h
    unfold xX11_town_43
    refine j_iload_n E dX11_town_43 1 rfl ?_
    refine j_bipush E (v := 16) dX11_town_44 (by decide) ?_
    refine j_cmp_ge E 62 dX11_town_46 rfl ?_ ?_
    · refine j_aload_n E dX11_town_62 0 rfl ?_
      refine j_callvI (As := []) (st := []) E (ok_X11_readsTownLine hg E.2.2.2.2.2.2.2.1 N h) (cM_0 hg) (cl_X11_283) (⟨Nat.le_of_ble_eq_true rfl, Nat.le_of_ble_eq_true rfl⟩) rfl rfl (Nat.le_of_ble_eq_true rfl) dX11_town_63 (fun t1 h2 => ?_)
      refine j_istore0_n E dX11_town_66 (Nat.le_of_ble_eq_true rfl) [(2, .int t1), (0, .ref (g.2.2.1 0))] rfl ?_
      exact j_sub [1, 0] (lv1 := [(0, .ref (g.2.2.1 0)), (2, .int t1)]) rfl (jxX11_town_67 hg N E N t1 h2)
    · refine j_aload_n E dX11_town_49 0 rfl ?_
      refine j_getr E f_X11_74 (cM_0 hg) 22 rfl dX11_town_50 ?_
      refine j_iload_n E dX11_town_53 1 rfl ?_
      refine j_iconst E (v := 0) dX11_town_54 (by decide) ?_
      refine j_iast E (cM_22 hg) dX11_town_55 (fun h3 => ?_)
      refine j_iinc E (c := 1) dX11_town_56 1 rfl (by decide) (Nat.le_of_ble_eq_true rfl) (fun v4 => [(2, .int v4), (0, .ref (g.2.2.1 0))]) (fun _ => rfl) (fun v4 => ?_)
      refine j_goto E 43 dX11_town_59 rfl ?_
      exact j_sub [1, 0] (lv1 := [(0, .ref (g.2.2.1 0)), (2, .int v4)]) rfl (ih v4 h3)
set_option maxRecDepth 20000 in
set_option maxHeartbeats 4000000 in
theorem jxX11_town {g : GC} (hg : isGM g) {X : MX} (N : Nat) (E : JE g mX11_town X) (a1 : Int32) (h : HP) : J g mX11_town X 0 [(0, .ref (g.2.2.1 0)), (1, .int a1)] [] h (xX11_town N a1 h) := by
  unfold xX11_town
  refine j_iload_n E dX11_town_0 1 rfl ?_
  refine j_iconst E (v := 1) dX11_town_1 (by decide) ?_
  refine j_sipush E (v := 160) dX11_town_2 (by decide) ?_
  refine j_callsI (As := [.int a1, .int 1, .int 160]) (st := []) E (ok_X11_in hg E.2.2.2.2.2.2.2.1 a1 1 160 h) (cl_X11_129) (⟨Nat.le_of_ble_eq_true rfl, Nat.le_of_ble_eq_true rfl⟩) rfl rfl (Nat.le_of_ble_eq_true rfl) dX11_town_5 (fun t1 h2 => ?_)
  refine j_if_eq E 19 dX11_town_8 rfl ?_ ?_
  · exact j_sub [] (lv1 := []) rfl (jxX11_town_19 hg N E h2)
  · refine j_iload_n E dX11_town_11 1 rfl ?_
    refine j_aload_n E dX11_town_12 0 rfl ?_
    refine j_geti E f_X11_155 (cM_0 hg) rfl dX11_town_13 ?_
    refine j_cmp_le E 21 dX11_town_16 rfl ?_ ?_
    · refine j_aload_n E dX11_town_21 0 rfl ?_
      refine j_iload_n E dX11_town_22 1 rfl ?_
      refine j_callvV (As := [.int a1]) (st := []) E (ok_X11_beginsText hg E.2.2.2.2.2.2.2.1 a1 h2) (cM_0 hg) (cl_X11_246) (⟨Nat.le_of_ble_eq_true rfl, Nat.le_of_ble_eq_true rfl⟩) rfl rfl (Nat.le_of_ble_eq_true rfl) dX11_town_23 (fun t3 h4 => ?_)
      refine j_aload_n E dX11_town_26 0 rfl ?_
      refine j_iconst E (v := 0) dX11_town_27 (by decide) ?_
      refine j_puti E fp_X11_274 (cM_0 hg) rfl dX11_town_28 (fun h5 => ?_)
      refine j_aload_n E dX11_town_31 0 rfl ?_
      refine j_iconst E (v := 0) dX11_town_32 (by decide) ?_
      refine j_puti E fp_X11_265 (cM_0 hg) rfl dX11_town_33 (fun h6 => ?_)
      refine j_aload_n E dX11_town_36 0 rfl ?_
      refine j_iconst E (v := 0) dX11_town_37 (by decide) ?_
      refine j_puti E fp_X11_277 (cM_0 hg) rfl dX11_town_38 (fun h7 => ?_)
      refine j_iconst E (v := 0) dX11_town_41 (by decide) ?_
      refine j_istore0_n E dX11_town_42 (Nat.le_of_ble_eq_true rfl) [(2, .int 0), (0, .ref (g.2.2.1 0)), (1, .int a1)] rfl ?_
      exact j_sub [1, 0] (lv1 := [(0, .ref (g.2.2.1 0)), (2, .int 0)]) rfl (jxX11_town_43 hg N E N 0 h7)
    · exact j_sub [] (lv1 := []) rfl (jxX11_town_19 hg N E h2)
theorem ok_X11_town {g : GC} (hg : isGM g) (hI : gI g) (N : Nat) (a1 : Int32) (h : HP) : Ok g yX11_town mX11_town [.ref (g.2.2.1 0), .int a1] h (xX11_town N a1 h) := Ok.of hI (by decide) rfl (Nat.le_of_ble_eq_true rfl) (fun X E => jxX11_town hg N E a1 h)
set_option maxRecDepth 20000 in
set_option maxHeartbeats 4000000 in
theorem jxX11_readsCornerLine_189 {g : GC} (hg : isGM g) {X : MX} (N : Nat) (E : JE g mX11_readsCornerLine X) (s1 : Int32) (s2 : Int32) (s3 : Int32) (s4 : Int32) (s5 : Int32) (h : HP) : J g mX11_readsCornerLine X 189 [] [.int s5, .int s4, .int s3, .int s2, .int s1, .ref (g.2.2.1 1)] h (xX11_readsCornerLine_189 N s1 s2 s3 s4 s5 h) := by
  unfold xX11_readsCornerLine_189
  refine j_iadd E dX11_readsCornerLine_189 ?_
  refine j_callsI (As := [.int s3, .int (s4 + s5)]) (st := [.int s2, .int s1, .ref (g.2.2.1 1)]) E (ok_X11_min hg E.2.2.2.2.2.2.2.1 s3 (s4 + s5) h) (cl_X11_286) (⟨Nat.le_of_ble_eq_true rfl, Nat.le_of_ble_eq_true rfl⟩) rfl rfl (Nat.le_of_ble_eq_true rfl) dX11_readsCornerLine_190 (fun t1 h2 => ?_)
  refine j_callsI (As := [.int s2, .int t1]) (st := [.int s1, .ref (g.2.2.1 1)]) E (ok_X11_max hg E.2.2.2.2.2.2.2.1 s2 t1 h2) (cl_X11_289) (⟨Nat.le_of_ble_eq_true rfl, Nat.le_of_ble_eq_true rfl⟩) rfl rfl (Nat.le_of_ble_eq_true rfl) dX11_readsCornerLine_193 (fun t3 h4 => ?_)
  refine j_iast E (cM_1 hg) dX11_readsCornerLine_196 (fun h5 => ?_)
  refine j_iconst E (v := 1) dX11_readsCornerLine_197 (by decide) ?_
  exact j_zreturn E rfl dX11_readsCornerLine_198
set_option maxRecDepth 20000 in
set_option maxHeartbeats 4000000 in
theorem jxX11_readsCornerLine_132 {g : GC} (hg : isGM g) {X : MX} (N : Nat) (E : JE g mX11_readsCornerLine X) (a1 : Int32) (a2 : Int32) (h : HP) : J g mX11_readsCornerLine X 132 [(0, .ref (g.2.2.1 0)), (1, .int a1), (2, .int a2)] [] h (xX11_readsCornerLine_132 N a1 a2 h) := by
  unfold xX11_readsCornerLine_132
  refine j_aload_n E dX11_readsCornerLine_132 0 rfl ?_
  refine j_aload_n E dX11_readsCornerLine_133 0 rfl ?_
  refine j_geti E f_X11_162 (cM_0 hg) rfl dX11_readsCornerLine_134 ?_
  refine j_iconst E (v := 1) dX11_readsCornerLine_137 (by decide) ?_
  refine j_iadd E dX11_readsCornerLine_138 ?_
  refine j_puti E fp_X11_162 (cM_0 hg) rfl dX11_readsCornerLine_139 (fun h1 => ?_)
  refine j_aload_n E dX11_readsCornerLine_142 0 rfl ?_
  refine j_iconst E (v := 4) dX11_readsCornerLine_143 (by decide) ?_
  refine j_callvI (As := [.int 4]) (st := []) E (ok_X11_readsAmount hg E.2.2.2.2.2.2.2.1 N 4 h1) (cM_0 hg) (cl_X11_271) (⟨Nat.le_of_ble_eq_true rfl, Nat.le_of_ble_eq_true rfl⟩) rfl rfl (Nat.le_of_ble_eq_true rfl) dX11_readsCornerLine_144 (fun t2 h3 => ?_)
  refine j_if_ne E 152 dX11_readsCornerLine_147 rfl ?_ ?_
  · refine j_aload_n E dX11_readsCornerLine_152 0 rfl ?_
    refine j_getr E f_X11_7 (cM_0 hg) 1 rfl dX11_readsCornerLine_153 ?_
    refine j_iconst E (v := 0) dX11_readsCornerLine_156 (by decide) ?_
    refine j_iload_n E dX11_readsCornerLine_157 1 rfl ?_
    refine j_iadd E dX11_readsCornerLine_158 ?_
    refine j_iconst E (v := 0) dX11_readsCornerLine_159 (by decide) ?_
    refine j_sipush E (v := 9999) dX11_readsCornerLine_160 (by decide) ?_
    refine j_aload_n E dX11_readsCornerLine_163 0 rfl ?_
    refine j_getr E f_X11_7 (cM_0 hg) 1 rfl dX11_readsCornerLine_164 ?_
    refine j_iconst E (v := 0) dX11_readsCornerLine_167 (by decide) ?_
    refine j_iload_n E dX11_readsCornerLine_168 1 rfl ?_
    refine j_iadd E dX11_readsCornerLine_169 ?_
    refine j_iald E (cM_1 hg) dX11_readsCornerLine_170 (fun t4 => ?_)
    refine j_iload_n E dX11_readsCornerLine_171 2 rfl ?_
    refine j_bipush E (v := 43) dX11_readsCornerLine_172 (by decide) ?_
    refine j_cmp_ne E 184 dX11_readsCornerLine_174 rfl ?_ ?_
    · refine j_aload_n E dX11_readsCornerLine_184 0 rfl ?_
      refine j_geti E f_X11_178 (cM_0 hg) rfl dX11_readsCornerLine_185 ?_
      refine j_ineg E dX11_readsCornerLine_188 ?_
      exact j_sub [] (lv1 := []) rfl (jxX11_readsCornerLine_189 hg N E (0 + a1) 0 9999 t4 (-(h3.1 0 14)) h3)
    · refine j_aload_n E dX11_readsCornerLine_177 0 rfl ?_
      refine j_geti E f_X11_178 (cM_0 hg) rfl dX11_readsCornerLine_178 ?_
      refine j_goto E 189 dX11_readsCornerLine_181 rfl ?_
      exact j_sub [] (lv1 := []) rfl (jxX11_readsCornerLine_189 hg N E (0 + a1) 0 9999 t4 (h3.1 0 14) h3)
  · refine j_iconst E (v := 0) dX11_readsCornerLine_150 (by decide) ?_
    exact j_zreturn E rfl dX11_readsCornerLine_151
set_option maxRecDepth 20000 in
set_option maxHeartbeats 4000000 in
theorem jxX11_readsCornerLine {g : GC} (hg : isGM g) {X : MX} (N : Nat) (E : JE g mX11_readsCornerLine X) (h : HP) : J g mX11_readsCornerLine X 0 [(0, .ref (g.2.2.1 0))] [] h (xX11_readsCornerLine N h) := by
  unfold xX11_readsCornerLine
  refine j_aload_n E dX11_readsCornerLine_0 0 rfl ?_
  refine j_callvI (As := []) (st := []) E (ok_X11_here hg E.2.2.2.2.2.2.2.1 h) (cM_0 hg) (cl_X11_168) (⟨Nat.le_of_ble_eq_true rfl, Nat.le_of_ble_eq_true rfl⟩) rfl rfl (Nat.le_of_ble_eq_true rfl) dX11_readsCornerLine_1 (fun t1 h2 => ?_)
  refine j_bipush E (v := 97) dX11_readsCornerLine_4 (by decide) ?_
  refine j_isub E dX11_readsCornerLine_6 ?_
  refine j_istore_n E dX11_readsCornerLine_7 (Nat.le_of_ble_eq_true rfl) (fun v3 => [(1, .int v3), (0, .ref (g.2.2.1 0))]) (fun _ => rfl) (fun v3 => ?_)
  refine j_aload_n E dX11_readsCornerLine_8 1 rfl ?_
  refine j_iload_n E dX11_readsCornerLine_9 0 rfl ?_
  refine j_callvI (As := [.int v3]) (st := []) E (ok_X11_isTold hg E.2.2.2.2.2.2.2.1 v3 h2) (cM_0 hg) (cl_X11_141) (⟨Nat.le_of_ble_eq_true rfl, Nat.le_of_ble_eq_true rfl⟩) rfl rfl (Nat.le_of_ble_eq_true rfl) dX11_readsCornerLine_10 (fun t4 h5 => ?_)
  refine j_if_ne E 27 dX11_readsCornerLine_13 rfl ?_ ?_
  · refine j_aload_n E dX11_readsCornerLine_27 1 rfl ?_
    refine j_aload_n E dX11_readsCornerLine_28 1 rfl ?_
    refine j_geti E f_X11_162 (cM_0 hg) rfl dX11_readsCornerLine_29 ?_
    refine j_iconst E (v := 1) dX11_readsCornerLine_32 (by decide) ?_
    refine j_iadd E dX11_readsCornerLine_33 ?_
    refine j_puti E fp_X11_162 (cM_0 hg) rfl dX11_readsCornerLine_34 (fun h6 => ?_)
    refine j_aload_n E dX11_readsCornerLine_37 1 rfl ?_
    refine j_callvI (As := []) (st := []) E (ok_X11_here hg E.2.2.2.2.2.2.2.1 h6) (cM_0 hg) (cl_X11_168) (⟨Nat.le_of_ble_eq_true rfl, Nat.le_of_ble_eq_true rfl⟩) rfl rfl (Nat.le_of_ble_eq_true rfl) dX11_readsCornerLine_38 (fun t7 h8 => ?_)
    refine j_istore0_n E dX11_readsCornerLine_41 (Nat.le_of_ble_eq_true rfl) [(2, .int t7), (1, .int v3), (0, .ref (g.2.2.1 0))] rfl ?_
    refine j_iload_n E dX11_readsCornerLine_42 0 rfl ?_
    refine j_bipush E (v := 64) dX11_readsCornerLine_43 (by decide) ?_
    refine j_cmp_ne E 110 dX11_readsCornerLine_45 rfl ?_ ?_
    · refine j_iload_n E dX11_readsCornerLine_110 0 rfl ?_
      refine j_bipush E (v := 43) dX11_readsCornerLine_111 (by decide) ?_
      refine j_cmp_eq E 132 dX11_readsCornerLine_113 rfl ?_ ?_
      · exact j_sub [2, 1, 0] (lv1 := [(0, .ref (g.2.2.1 0)), (1, .int v3), (2, .int t7)]) rfl (jxX11_readsCornerLine_132 hg N E v3 t7 h8)
      · refine j_iload_n E dX11_readsCornerLine_116 0 rfl ?_
        refine j_bipush E (v := 45) dX11_readsCornerLine_117 (by decide) ?_
        refine j_cmp_eq E 132 dX11_readsCornerLine_119 rfl ?_ ?_
        · exact j_sub [2, 1, 0] (lv1 := [(0, .ref (g.2.2.1 0)), (1, .int v3), (2, .int t7)]) rfl (jxX11_readsCornerLine_132 hg N E v3 t7 h8)
        · refine j_aload_n E dX11_readsCornerLine_122 2 rfl ?_
          refine j_iconst E (v := 1) dX11_readsCornerLine_123 (by decide) ?_
          refine j_aload_n E dX11_readsCornerLine_124 2 rfl ?_
          refine j_geti E f_X11_162 (cM_0 hg) rfl dX11_readsCornerLine_125 ?_
          refine j_callvI (As := [.int 1, .int (h8.1 0 11)]) (st := []) E (ok_X11_wrongAt hg E.2.2.2.2.2.2.2.1 1 (h8.1 0 11) h8) (cM_0 hg) (cl_X11_175) (⟨Nat.le_of_ble_eq_true rfl, Nat.le_of_ble_eq_true rfl⟩) rfl rfl (Nat.le_of_ble_eq_true rfl) dX11_readsCornerLine_128 (fun t9 h10 => ?_)
          exact j_zreturn E rfl dX11_readsCornerLine_131
    · refine j_aload_n E dX11_readsCornerLine_48 2 rfl ?_
      refine j_aload_n E dX11_readsCornerLine_49 2 rfl ?_
      refine j_geti E f_X11_162 (cM_0 hg) rfl dX11_readsCornerLine_50 ?_
      refine j_iconst E (v := 1) dX11_readsCornerLine_53 (by decide) ?_
      refine j_iadd E dX11_readsCornerLine_54 ?_
      refine j_puti E fp_X11_162 (cM_0 hg) rfl dX11_readsCornerLine_55 (fun h11 => ?_)
      refine j_aload_n E dX11_readsCornerLine_58 2 rfl ?_
      refine j_callvI (As := []) (st := []) E (ok_X11_here hg E.2.2.2.2.2.2.2.1 h11) (cM_0 hg) (cl_X11_168) (⟨Nat.le_of_ble_eq_true rfl, Nat.le_of_ble_eq_true rfl⟩) rfl rfl (Nat.le_of_ble_eq_true rfl) dX11_readsCornerLine_59 (fun t12 h13 => ?_)
      refine j_bipush E (v := 48) dX11_readsCornerLine_62 (by decide) ?_
      refine j_bipush E (v := 56) dX11_readsCornerLine_64 (by decide) ?_
      refine j_callsI (As := [.int t12, .int 48, .int 56]) (st := []) E (ok_X11_in hg E.2.2.2.2.2.2.2.1 t12 48 56 h13) (cl_X11_129) (⟨Nat.le_of_ble_eq_true rfl, Nat.le_of_ble_eq_true rfl⟩) rfl rfl (Nat.le_of_ble_eq_true rfl) dX11_readsCornerLine_66 (fun t14 h15 => ?_)
      refine j_if_ne E 82 dX11_readsCornerLine_69 rfl ?_ ?_
      · refine j_aload_n E dX11_readsCornerLine_82 2 rfl ?_
        refine j_getr E f_X11_7 (cM_0 hg) 1 rfl dX11_readsCornerLine_83 ?_
        refine j_bipush E (v := 16) dX11_readsCornerLine_86 (by decide) ?_
        refine j_iload_n E dX11_readsCornerLine_88 1 rfl ?_
        refine j_iadd E dX11_readsCornerLine_89 ?_
        refine j_aload_n E dX11_readsCornerLine_90 2 rfl ?_
        refine j_callvI (As := []) (st := [.int (16 + v3), .ref (g.2.2.1 1)]) E (ok_X11_here hg E.2.2.2.2.2.2.2.1 h15) (cM_0 hg) (cl_X11_168) (⟨Nat.le_of_ble_eq_true rfl, Nat.le_of_ble_eq_true rfl⟩) rfl rfl (Nat.le_of_ble_eq_true rfl) dX11_readsCornerLine_91 (fun t16 h17 => ?_)
        refine j_bipush E (v := 48) dX11_readsCornerLine_94 (by decide) ?_
        refine j_isub E dX11_readsCornerLine_96 ?_
        refine j_iast E (cM_1 hg) dX11_readsCornerLine_97 (fun h18 => ?_)
        refine j_aload_n E dX11_readsCornerLine_98 2 rfl ?_
        refine j_aload_n E dX11_readsCornerLine_99 2 rfl ?_
        refine j_geti E f_X11_162 (cM_0 hg) rfl dX11_readsCornerLine_100 ?_
        refine j_iconst E (v := 1) dX11_readsCornerLine_103 (by decide) ?_
        refine j_iadd E dX11_readsCornerLine_104 ?_
        refine j_puti E fp_X11_162 (cM_0 hg) rfl dX11_readsCornerLine_105 (fun h19 => ?_)
        refine j_iconst E (v := 1) dX11_readsCornerLine_108 (by decide) ?_
        exact j_zreturn E rfl dX11_readsCornerLine_109
      · refine j_aload_n E dX11_readsCornerLine_72 2 rfl ?_
        refine j_iconst E (v := 1) dX11_readsCornerLine_73 (by decide) ?_
        refine j_aload_n E dX11_readsCornerLine_74 2 rfl ?_
        refine j_geti E f_X11_162 (cM_0 hg) rfl dX11_readsCornerLine_75 ?_
        refine j_callvI (As := [.int 1, .int (h15.1 0 11)]) (st := []) E (ok_X11_wrongAt hg E.2.2.2.2.2.2.2.1 1 (h15.1 0 11) h15) (cM_0 hg) (cl_X11_175) (⟨Nat.le_of_ble_eq_true rfl, Nat.le_of_ble_eq_true rfl⟩) rfl rfl (Nat.le_of_ble_eq_true rfl) dX11_readsCornerLine_78 (fun t20 h21 => ?_)
        exact j_zreturn E rfl dX11_readsCornerLine_81
  · refine j_aload_n E dX11_readsCornerLine_16 1 rfl ?_
    refine j_bipush E (v := 7) dX11_readsCornerLine_17 (by decide) ?_
    refine j_aload_n E dX11_readsCornerLine_19 1 rfl ?_
    refine j_geti E f_X11_162 (cM_0 hg) rfl dX11_readsCornerLine_20 ?_
    refine j_callvI (As := [.int 7, .int (h5.1 0 11)]) (st := []) E (ok_X11_wrongAt hg E.2.2.2.2.2.2.2.1 7 (h5.1 0 11) h5) (cM_0 hg) (cl_X11_175) (⟨Nat.le_of_ble_eq_true rfl, Nat.le_of_ble_eq_true rfl⟩) rfl rfl (Nat.le_of_ble_eq_true rfl) dX11_readsCornerLine_23 (fun t22 h23 => ?_)
    exact j_zreturn E rfl dX11_readsCornerLine_26
theorem ok_X11_readsCornerLine {g : GC} (hg : isGM g) (hI : gI g) (N : Nat) (h : HP) : Ok g yX11_readsCornerLine mX11_readsCornerLine [.ref (g.2.2.1 0)] h (xX11_readsCornerLine N h) := Ok.of hI (by decide) rfl (Nat.le_of_ble_eq_true rfl) (fun X E => jxX11_readsCornerLine hg N E h)
set_option maxRecDepth 20000 in
set_option maxHeartbeats 4000000 in
theorem jxX11_readsPipeLine_87 {g : GC} (hg : isGM g) {X : MX} (N : Nat) (E : JE g mX11_readsPipeLine X) (s1 : Int32) (s2 : Int32) (h : HP) : J g mX11_readsPipeLine X 87 [(0, .ref (g.2.2.1 0))] [.int s2, .int s1, .ref (g.2.2.1 1)] h (xX11_readsPipeLine_87 N s1 s2 h) := by
  unfold xX11_readsPipeLine_87
  refine j_iast E (cM_1 hg) dX11_readsPipeLine_87 (fun h1 => ?_)
  refine j_aload_n E dX11_readsPipeLine_88 0 rfl ?_
  refine j_aload_n E dX11_readsPipeLine_89 0 rfl ?_
  refine j_geti E f_X11_162 (cM_0 hg) rfl dX11_readsPipeLine_90 ?_
  refine j_iconst E (v := 1) dX11_readsPipeLine_93 (by decide) ?_
  refine j_iadd E dX11_readsPipeLine_94 ?_
  refine j_puti E fp_X11_162 (cM_0 hg) rfl dX11_readsPipeLine_95 (fun h2 => ?_)
  refine j_iconst E (v := 1) dX11_readsPipeLine_98 (by decide) ?_
  exact j_zreturn E rfl dX11_readsPipeLine_99
set_option maxRecDepth 20000 in
set_option maxHeartbeats 4000000 in
theorem jxX11_readsPipeLine_62 {g : GC} (hg : isGM g) {X : MX} (N : Nat) (E : JE g mX11_readsPipeLine X) (h : HP) : J g mX11_readsPipeLine X 62 [(0, .ref (g.2.2.1 0))] [] h (xX11_readsPipeLine_62 N h) := by
  unfold xX11_readsPipeLine_62
  refine j_aload_n E dX11_readsPipeLine_62 0 rfl ?_
  refine j_getr E f_X11_7 (cM_0 hg) 1 rfl dX11_readsPipeLine_63 ?_
  refine j_bipush E (v := 48) dX11_readsPipeLine_66 (by decide) ?_
  refine j_aload_n E dX11_readsPipeLine_68 0 rfl ?_
  refine j_geti E f_X11_178 (cM_0 hg) rfl dX11_readsPipeLine_69 ?_
  refine j_iadd E dX11_readsPipeLine_72 ?_
  refine j_aload_n E dX11_readsPipeLine_73 0 rfl ?_
  refine j_callvI (As := []) (st := [.int (48 + (h.1 0 14)), .ref (g.2.2.1 1)]) E (ok_X11_here hg E.2.2.2.2.2.2.2.1 h) (cM_0 hg) (cl_X11_168) (⟨Nat.le_of_ble_eq_true rfl, Nat.le_of_ble_eq_true rfl⟩) rfl rfl (Nat.le_of_ble_eq_true rfl) dX11_readsPipeLine_74 (fun t1 h2 => ?_)
  refine j_bipush E (v := 63) dX11_readsPipeLine_77 (by decide) ?_
  refine j_cmp_ne E 86 dX11_readsPipeLine_79 rfl ?_ ?_
  · refine j_iconst E (v := 0) dX11_readsPipeLine_86 (by decide) ?_
    exact jxX11_readsPipeLine_87 hg N E (48 + (h.1 0 14)) 0 h2
  · refine j_iconst E (v := 1) dX11_readsPipeLine_82 (by decide) ?_
    refine j_goto E 87 dX11_readsPipeLine_83 rfl ?_
    exact jxX11_readsPipeLine_87 hg N E (48 + (h.1 0 14)) 1 h2
set_option maxRecDepth 20000 in
set_option maxHeartbeats 4000000 in
theorem jxX11_readsPipeLine {g : GC} (hg : isGM g) {X : MX} (N : Nat) (E : JE g mX11_readsPipeLine X) (h : HP) : J g mX11_readsPipeLine X 0 [(0, .ref (g.2.2.1 0))] [] h (xX11_readsPipeLine N h) := by
  unfold xX11_readsPipeLine
  refine j_aload_n E dX11_readsPipeLine_0 0 rfl ?_
  refine j_geti E f_X11_162 (cM_0 hg) rfl dX11_readsPipeLine_1 ?_
  refine j_istore_n E dX11_readsPipeLine_4 (Nat.le_of_ble_eq_true rfl) (fun v1 => [(1, .int v1), (0, .ref (g.2.2.1 0))]) (fun _ => rfl) (fun v1 => ?_)
  refine j_aload_n E dX11_readsPipeLine_5 1 rfl ?_
  refine j_iconst E (v := 2) dX11_readsPipeLine_6 (by decide) ?_
  refine j_callvI (As := [.int 2]) (st := []) E (ok_X11_readsAmount hg E.2.2.2.2.2.2.2.1 N 2 h) (cM_0 hg) (cl_X11_271) (⟨Nat.le_of_ble_eq_true rfl, Nat.le_of_ble_eq_true rfl⟩) rfl rfl (Nat.le_of_ble_eq_true rfl) dX11_readsPipeLine_7 (fun t2 h3 => ?_)
  refine j_if_ne E 15 dX11_readsPipeLine_10 rfl ?_ ?_
  · refine j_aload_n E dX11_readsPipeLine_15 1 rfl ?_
    refine j_geti E f_X11_178 (cM_0 hg) rfl dX11_readsPipeLine_16 ?_
    refine j_aload_n E dX11_readsPipeLine_19 1 rfl ?_
    refine j_geti E f_X11_145 (cM_0 hg) rfl dX11_readsPipeLine_20 ?_
    refine j_cmp_lt E 34 dX11_readsPipeLine_23 rfl ?_ ?_
    · refine j_aload_n E dX11_readsPipeLine_34 1 rfl ?_
      refine j_callvI (As := []) (st := []) E (ok_X11_here hg E.2.2.2.2.2.2.2.1 h3) (cM_0 hg) (cl_X11_168) (⟨Nat.le_of_ble_eq_true rfl, Nat.le_of_ble_eq_true rfl⟩) rfl rfl (Nat.le_of_ble_eq_true rfl) dX11_readsPipeLine_35 (fun t4 h5 => ?_)
      refine j_bipush E (v := 33) dX11_readsPipeLine_38 (by decide) ?_
      refine j_cmp_eq E 62 dX11_readsPipeLine_40 rfl ?_ ?_
      · exact j_sub [1] (lv1 := [(0, .ref (g.2.2.1 0))]) rfl (jxX11_readsPipeLine_62 hg N E h5)
      · refine j_aload_n E dX11_readsPipeLine_43 1 rfl ?_
        refine j_callvI (As := []) (st := []) E (ok_X11_here hg E.2.2.2.2.2.2.2.1 h5) (cM_0 hg) (cl_X11_168) (⟨Nat.le_of_ble_eq_true rfl, Nat.le_of_ble_eq_true rfl⟩) rfl rfl (Nat.le_of_ble_eq_true rfl) dX11_readsPipeLine_44 (fun t6 h7 => ?_)
        refine j_bipush E (v := 63) dX11_readsPipeLine_47 (by decide) ?_
        refine j_cmp_eq E 62 dX11_readsPipeLine_49 rfl ?_ ?_
        · exact j_sub [1] (lv1 := [(0, .ref (g.2.2.1 0))]) rfl (jxX11_readsPipeLine_62 hg N E h7)
        · refine j_aload_n E dX11_readsPipeLine_52 1 rfl ?_
          refine j_iconst E (v := 1) dX11_readsPipeLine_53 (by decide) ?_
          refine j_aload_n E dX11_readsPipeLine_54 1 rfl ?_
          refine j_geti E f_X11_162 (cM_0 hg) rfl dX11_readsPipeLine_55 ?_
          refine j_callvI (As := [.int 1, .int (h7.1 0 11)]) (st := []) E (ok_X11_wrongAt hg E.2.2.2.2.2.2.2.1 1 (h7.1 0 11) h7) (cM_0 hg) (cl_X11_175) (⟨Nat.le_of_ble_eq_true rfl, Nat.le_of_ble_eq_true rfl⟩) rfl rfl (Nat.le_of_ble_eq_true rfl) dX11_readsPipeLine_58 (fun t8 h9 => ?_)
          exact j_zreturn E rfl dX11_readsPipeLine_61
    · refine j_aload_n E dX11_readsPipeLine_26 1 rfl ?_
      refine j_bipush E (v := 7) dX11_readsPipeLine_27 (by decide) ?_
      refine j_iload_n E dX11_readsPipeLine_29 0 rfl ?_
      refine j_callvI (As := [.int 7, .int v1]) (st := []) E (ok_X11_wrongAt hg E.2.2.2.2.2.2.2.1 7 v1 h3) (cM_0 hg) (cl_X11_175) (⟨Nat.le_of_ble_eq_true rfl, Nat.le_of_ble_eq_true rfl⟩) rfl rfl (Nat.le_of_ble_eq_true rfl) dX11_readsPipeLine_30 (fun t10 h11 => ?_)
      exact j_zreturn E rfl dX11_readsPipeLine_33
  · refine j_iconst E (v := 0) dX11_readsPipeLine_13 (by decide) ?_
    exact j_zreturn E rfl dX11_readsPipeLine_14
theorem ok_X11_readsPipeLine {g : GC} (hg : isGM g) (hI : gI g) (N : Nat) (h : HP) : Ok g yX11_readsPipeLine mX11_readsPipeLine [.ref (g.2.2.1 0)] h (xX11_readsPipeLine N h) := Ok.of hI (by decide) rfl (Nat.le_of_ble_eq_true rfl) (fun X E => jxX11_readsPipeLine hg N E h)
set_option maxRecDepth 20000 in
set_option maxHeartbeats 4000000 in
theorem jxX11_readsOrder_34 {g : GC} (hg : isGM g) {X : MX} (N : Nat) (E : JE g mX11_readsOrder X) (a1 : Int32) (h : HP) : J g mX11_readsOrder X 34 [(0, .ref (g.2.2.1 0)), (1, .int a1)] [] h (xX11_readsOrder_34 N a1 h) := by
  unfold xX11_readsOrder_34
  refine j_aload_n E dX11_readsOrder_34 0 rfl ?_
  refine j_geti E f_X11_277 (cM_0 hg) rfl dX11_readsOrder_35 ?_
  refine j_bipush E (v := 20) dX11_readsOrder_38 (by decide) ?_
  refine j_cmp_ne E 53 dX11_readsOrder_40 rfl ?_ ?_
  · refine j_aload_n E dX11_readsOrder_53 0 rfl ?_
    refine j_aload_n E dX11_readsOrder_54 0 rfl ?_
    refine j_geti E f_X11_277 (cM_0 hg) rfl dX11_readsOrder_55 ?_
    refine j_iconst E (v := 1) dX11_readsOrder_58 (by decide) ?_
    refine j_iadd E dX11_readsOrder_59 ?_
    refine j_puti E fp_X11_277 (cM_0 hg) rfl dX11_readsOrder_60 (fun h1 => ?_)
    refine j_aload_n E dX11_readsOrder_63 0 rfl ?_
    refine j_callvI (As := []) (st := []) E (ok_X11_isLetter hg E.2.2.2.2.2.2.2.1 h1) (cM_0 hg) (cl_X11_268) (⟨Nat.le_of_ble_eq_true rfl, Nat.le_of_ble_eq_true rfl⟩) rfl rfl (Nat.le_of_ble_eq_true rfl) dX11_readsOrder_64 (fun t2 h3 => ?_)
    refine j_if_eq E 75 dX11_readsOrder_67 rfl ?_ ?_
    · refine j_aload_n E dX11_readsOrder_75 0 rfl ?_
      refine j_aload_n E dX11_readsOrder_76 0 rfl ?_
      refine j_geti E f_X11_162 (cM_0 hg) rfl dX11_readsOrder_77 ?_
      refine j_iconst E (v := 1) dX11_readsOrder_80 (by decide) ?_
      refine j_iadd E dX11_readsOrder_81 ?_
      refine j_puti E fp_X11_162 (cM_0 hg) rfl dX11_readsOrder_82 (fun h4 => ?_)
      refine j_iload_n E dX11_readsOrder_85 1 rfl ?_
      refine j_bipush E (v := 35) dX11_readsOrder_86 (by decide) ?_
      refine j_cmp_ne E 96 dX11_readsOrder_88 rfl ?_ ?_
      · refine j_aload_n E dX11_readsOrder_96 0 rfl ?_
        refine j_bipush E (v := 6) dX11_readsOrder_97 (by decide) ?_
        refine j_callvI (As := [.int 6]) (st := []) E (ok_X11_readsAmount hg E.2.2.2.2.2.2.2.1 N 6 h4) (cM_0 hg) (cl_X11_271) (⟨Nat.le_of_ble_eq_true rfl, Nat.le_of_ble_eq_true rfl⟩) rfl rfl (Nat.le_of_ble_eq_true rfl) dX11_readsOrder_99 (fun t5 h6 => ?_)
        refine j_if_ne E 107 dX11_readsOrder_102 rfl ?_ ?_
        · refine j_aload_n E dX11_readsOrder_107 0 rfl ?_
          refine j_getr E f_X11_7 (cM_0 hg) 1 rfl dX11_readsOrder_108 ?_
          refine j_bipush E (v := 72) dX11_readsOrder_111 (by decide) ?_
          refine j_aload_n E dX11_readsOrder_113 0 rfl ?_
          refine j_geti E f_X11_178 (cM_0 hg) rfl dX11_readsOrder_114 ?_
          refine j_iast E (cM_1 hg) dX11_readsOrder_117 (fun h7 => ?_)
          refine j_iconst E (v := 1) dX11_readsOrder_118 (by decide) ?_
          exact j_zreturn E rfl dX11_readsOrder_119
        · refine j_iconst E (v := 0) dX11_readsOrder_105 (by decide) ?_
          exact j_zreturn E rfl dX11_readsOrder_106
      · refine j_aload_n E dX11_readsOrder_91 0 rfl ?_
        refine j_callvI (As := []) (st := []) E (ok_X11_readsPipeLine hg E.2.2.2.2.2.2.2.1 N h4) (cM_0 hg) (cl_X11_295) (⟨Nat.le_of_ble_eq_true rfl, Nat.le_of_ble_eq_true rfl⟩) rfl rfl (Nat.le_of_ble_eq_true rfl) dX11_readsOrder_92 (fun t8 h9 => ?_)
        exact j_zreturn E rfl dX11_readsOrder_95
    · refine j_aload_n E dX11_readsOrder_70 0 rfl ?_
      refine j_callvI (As := []) (st := []) E (ok_X11_readsCornerLine hg E.2.2.2.2.2.2.2.1 N h3) (cM_0 hg) (cl_X11_292) (⟨Nat.le_of_ble_eq_true rfl, Nat.le_of_ble_eq_true rfl⟩) rfl rfl (Nat.le_of_ble_eq_true rfl) dX11_readsOrder_71 (fun t10 h11 => ?_)
      exact j_zreturn E rfl dX11_readsOrder_74
  · refine j_aload_n E dX11_readsOrder_43 0 rfl ?_
    refine j_iconst E (v := 4) dX11_readsOrder_44 (by decide) ?_
    refine j_aload_n E dX11_readsOrder_45 0 rfl ?_
    refine j_geti E f_X11_162 (cM_0 hg) rfl dX11_readsOrder_46 ?_
    refine j_callvI (As := [.int 4, .int (h.1 0 11)]) (st := []) E (ok_X11_wrongAt hg E.2.2.2.2.2.2.2.1 4 (h.1 0 11) h) (cM_0 hg) (cl_X11_175) (⟨Nat.le_of_ble_eq_true rfl, Nat.le_of_ble_eq_true rfl⟩) rfl rfl (Nat.le_of_ble_eq_true rfl) dX11_readsOrder_49 (fun t12 h13 => ?_)
    exact j_zreturn E rfl dX11_readsOrder_52
set_option maxRecDepth 20000 in
set_option maxHeartbeats 4000000 in
theorem jxX11_readsOrder {g : GC} (hg : isGM g) {X : MX} (N : Nat) (E : JE g mX11_readsOrder X) (h : HP) : J g mX11_readsOrder X 0 [(0, .ref (g.2.2.1 0))] [] h (xX11_readsOrder N h) := by
  unfold xX11_readsOrder
  refine j_aload_n E dX11_readsOrder_0 0 rfl ?_
  refine j_callvI (As := []) (st := []) E (ok_X11_here hg E.2.2.2.2.2.2.2.1 h) (cM_0 hg) (cl_X11_168) (⟨Nat.le_of_ble_eq_true rfl, Nat.le_of_ble_eq_true rfl⟩) rfl rfl (Nat.le_of_ble_eq_true rfl) dX11_readsOrder_1 (fun t1 h2 => ?_)
  refine j_istore0_n E dX11_readsOrder_4 (Nat.le_of_ble_eq_true rfl) [(1, .int t1), (0, .ref (g.2.2.1 0))] rfl ?_
  refine j_aload_n E dX11_readsOrder_5 1 rfl ?_
  refine j_callvI (As := []) (st := []) E (ok_X11_isLetter hg E.2.2.2.2.2.2.2.1 h2) (cM_0 hg) (cl_X11_268) (⟨Nat.le_of_ble_eq_true rfl, Nat.le_of_ble_eq_true rfl⟩) rfl rfl (Nat.le_of_ble_eq_true rfl) dX11_readsOrder_6 (fun t3 h4 => ?_)
  refine j_if_ne E 34 dX11_readsOrder_9 rfl ?_ ?_
  · exact j_sub [1, 0] (lv1 := [(0, .ref (g.2.2.1 0)), (1, .int t1)]) rfl (jxX11_readsOrder_34 hg N E t1 h4)
  · refine j_iload_n E dX11_readsOrder_12 0 rfl ?_
    refine j_bipush E (v := 35) dX11_readsOrder_13 (by decide) ?_
    refine j_cmp_eq E 34 dX11_readsOrder_15 rfl ?_ ?_
    · exact j_sub [1, 0] (lv1 := [(0, .ref (g.2.2.1 0)), (1, .int t1)]) rfl (jxX11_readsOrder_34 hg N E t1 h4)
    · refine j_iload_n E dX11_readsOrder_18 0 rfl ?_
      refine j_bipush E (v := 126) dX11_readsOrder_19 (by decide) ?_
      refine j_cmp_eq E 34 dX11_readsOrder_21 rfl ?_ ?_
      · exact j_sub [1, 0] (lv1 := [(0, .ref (g.2.2.1 0)), (1, .int t1)]) rfl (jxX11_readsOrder_34 hg N E t1 h4)
      · refine j_aload_n E dX11_readsOrder_24 1 rfl ?_
        refine j_iconst E (v := 1) dX11_readsOrder_25 (by decide) ?_
        refine j_aload_n E dX11_readsOrder_26 1 rfl ?_
        refine j_geti E f_X11_162 (cM_0 hg) rfl dX11_readsOrder_27 ?_
        refine j_callvI (As := [.int 1, .int (h4.1 0 11)]) (st := []) E (ok_X11_wrongAt hg E.2.2.2.2.2.2.2.1 1 (h4.1 0 11) h4) (cM_0 hg) (cl_X11_175) (⟨Nat.le_of_ble_eq_true rfl, Nat.le_of_ble_eq_true rfl⟩) rfl rfl (Nat.le_of_ble_eq_true rfl) dX11_readsOrder_30 (fun t5 h6 => ?_)
        exact j_zreturn E rfl dX11_readsOrder_33
theorem ok_X11_readsOrder {g : GC} (hg : isGM g) (hI : gI g) (N : Nat) (h : HP) : Ok g yX11_readsOrder mX11_readsOrder [.ref (g.2.2.1 0)] h (xX11_readsOrder N h) := Ok.of hI (by decide) rfl (Nat.le_of_ble_eq_true rfl) (fun X E => jxX11_readsOrder hg N E h)
set_option maxRecDepth 20000 in
set_option maxHeartbeats 4000000 in
theorem jxX11_orders_18 {g : GC} (hg : isGM g) {X : MX} (N : Nat) (E : JE g mX11_orders X) (h : HP) : J g mX11_orders X 18 [] [] h (xX11_orders_18 N h) := by
  unfold xX11_orders_18
  refine j_iconst E (v := (-1)) dX11_orders_18 (by decide) ?_
  exact j_ireturn E rfl dX11_orders_19
set_option maxRecDepth 20000 in
set_option maxHeartbeats 4000000 in
theorem jxX11_orders_82 {g : GC} (hg : isGM g) {X : MX} (N : Nat) (E : JE g mX11_orders X) (K46 : Int32 → HP → Option (Int32 × HP)) (hK46 : ∀ (a2 : Int32) (h : HP), J g mX11_orders X 46 [(0, .ref (g.2.2.1 0)), (2, .int a2)] [] h (K46 a2 h)) (s0 : Int32) (h : HP) : J g mX11_orders X 82 [(0, .ref (g.2.2.1 0))] [.int s0] h (xX11_orders_82 N K46 s0 h) := by
  unfold xX11_orders_82
  refine j_istore0_n E dX11_orders_82 (Nat.le_of_ble_eq_true rfl) [(2, .int s0), (0, .ref (g.2.2.1 0))] rfl ?_
  refine j_goto E 46 dX11_orders_83 rfl ?_
  exact j_sub [1, 0] (lv1 := [(0, .ref (g.2.2.1 0)), (2, .int s0)]) rfl (hK46 s0 h)
set_option maxRecDepth 20000 in
set_option maxHeartbeats 4000000 in
theorem jxX11_orders_81 {g : GC} (hg : isGM g) {X : MX} (N : Nat) (E : JE g mX11_orders X) (K46 : Int32 → HP → Option (Int32 × HP)) (hK46 : ∀ (a2 : Int32) (h : HP), J g mX11_orders X 46 [(0, .ref (g.2.2.1 0)), (2, .int a2)] [] h (K46 a2 h)) (h : HP) : J g mX11_orders X 81 [(0, .ref (g.2.2.1 0))] [] h (xX11_orders_81 N K46 h) := by
  unfold xX11_orders_81
  refine j_iconst E (v := 0) dX11_orders_81 (by decide) ?_
  exact jxX11_orders_82 hg N E K46 hK46 0 h
set_option maxRecDepth 20000 in
set_option maxHeartbeats 4000000 in
theorem jxX11_orders_86 {g : GC} (hg : isGM g) {X : MX} (N : Nat) (E : JE g mX11_orders X) (a2 : Int32) (h : HP) : J g mX11_orders X 86 [(0, .ref (g.2.2.1 0)), (2, .int a2)] [] h (xX11_orders_86 N a2 h) := by
  unfold xX11_orders_86
  refine j_aload_n E dX11_orders_86 0 rfl ?_
  refine j_iconst E (v := 0) dX11_orders_87 (by decide) ?_
  refine j_puti E fp_X11_155 (cM_0 hg) rfl dX11_orders_88 (fun h1 => ?_)
  refine j_iload_n E dX11_orders_91 1 rfl ?_
  refine j_if_eq E 100 dX11_orders_92 rfl ?_ ?_
  · refine j_aload_n E dX11_orders_100 0 rfl ?_
    refine j_getr E f_X11_13 (cM_0 hg) 2 rfl dX11_orders_101 ?_
    refine j_aload_n E dX11_orders_104 0 rfl ?_
    refine j_getr E f_X11_7 (cM_0 hg) 1 rfl dX11_orders_105 ?_
    refine j_callsV (As := [.ref (g.2.2.1 2), .ref (g.2.2.1 1)]) (st := []) E (ok_X11_copies hg E.2.2.2.2.2.2.2.1 N 2 1 (cM_2 hg) (cM_1 hg) h1) (cl_X11_298) (⟨Nat.le_of_ble_eq_true rfl, Nat.le_of_ble_eq_true rfl⟩) rfl rfl (Nat.le_of_ble_eq_true rfl) dX11_orders_108 (fun t2 h3 => ?_)
    refine j_aload_n E dX11_orders_111 0 rfl ?_
    refine j_geti E f_X11_172 (cM_0 hg) rfl dX11_orders_112 ?_
    exact j_ireturn E rfl dX11_orders_115
  · refine j_aload_n E dX11_orders_95 0 rfl ?_
    refine j_geti E f_X11_277 (cM_0 hg) rfl dX11_orders_96 ?_
    exact j_ireturn E rfl dX11_orders_99
set_option maxRecDepth 20000 in
set_option maxHeartbeats 4000000 in
theorem jxX11_orders_46 {g : GC} (hg : isGM g) {X : MX} (N : Nat) (E : JE g mX11_orders X) : ∀ (n : Nat) (a2 : Int32) (h : HP), J g mX11_orders X 46 [(0, .ref (g.2.2.1 0)), (2, .int a2)] [] h (xX11_orders_46 N n a2 h) := by
  intro n
  induction n with
  | zero => intro a2 h; exact j_none
  | succ n ih =>
    intro a2 h
    unfold xX11_orders_46
    refine j_iload_n E dX11_orders_46 1 rfl ?_
    refine j_if_eq E 86 dX11_orders_47 rfl ?_ ?_
    · exact jxX11_orders_86 hg N E a2 h
    · refine j_aload_n E dX11_orders_50 0 rfl ?_
      refine j_geti E f_X11_162 (cM_0 hg) rfl dX11_orders_51 ?_
      refine j_aload_n E dX11_orders_54 0 rfl ?_
      refine j_geti E f_X11_165 (cM_0 hg) rfl dX11_orders_55 ?_
      refine j_cmp_ge E 86 dX11_orders_58 rfl ?_ ?_
      · exact jxX11_orders_86 hg N E a2 h
      · refine j_aload_n E dX11_orders_61 0 rfl ?_
        refine j_bipush E (v := 59) dX11_orders_62 (by decide) ?_
        refine j_callvI (As := [.int 59]) (st := []) E (ok_X11_takes hg E.2.2.2.2.2.2.2.1 59 h) (cM_0 hg) (cl_X11_252) (⟨Nat.le_of_ble_eq_true rfl, Nat.le_of_ble_eq_true rfl⟩) rfl rfl (Nat.le_of_ble_eq_true rfl) dX11_orders_64 (fun t1 h2 => ?_)
        refine j_if_eq E 81 dX11_orders_67 rfl ?_ ?_
        · exact j_sub [0] (lv1 := [(0, .ref (g.2.2.1 0))]) rfl (jxX11_orders_81 hg N E (xX11_orders_46 N n) ih h2)
        · refine j_aload_n E dX11_orders_70 0 rfl ?_
          refine j_callvI (As := []) (st := []) E (ok_X11_readsOrder hg E.2.2.2.2.2.2.2.1 N h2) (cM_0 hg) (cl_X11_302) (⟨Nat.le_of_ble_eq_true rfl, Nat.le_of_ble_eq_true rfl⟩) rfl rfl (Nat.le_of_ble_eq_true rfl) dX11_orders_71 (fun t3 h4 => ?_)
          refine j_if_eq E 81 dX11_orders_74 rfl ?_ ?_
          · exact j_sub [0] (lv1 := [(0, .ref (g.2.2.1 0))]) rfl (jxX11_orders_81 hg N E (xX11_orders_46 N n) ih h4)
          · refine j_iconst E (v := 1) dX11_orders_77 (by decide) ?_
            refine j_goto E 82 dX11_orders_78 rfl ?_
            exact j_sub [0] (lv1 := [(0, .ref (g.2.2.1 0))]) rfl (jxX11_orders_82 hg N E (xX11_orders_46 N n) ih 1 h4)
set_option maxRecDepth 20000 in
set_option maxHeartbeats 4000000 in
theorem jxX11_orders {g : GC} (hg : isGM g) {X : MX} (N : Nat) (E : JE g mX11_orders X) (a1 : Int32) (h : HP) : J g mX11_orders X 0 [(0, .ref (g.2.2.1 0)), (1, .int a1)] [] h (xX11_orders N a1 h) := by
  unfold xX11_orders
  refine j_iload_n E dX11_orders_0 1 rfl ?_
  refine j_iconst E (v := 1) dX11_orders_1 (by decide) ?_
  refine j_bipush E (v := 120) dX11_orders_2 (by decide) ?_
  refine j_callsI (As := [.int a1, .int 1, .int 120]) (st := []) E (ok_X11_in hg E.2.2.2.2.2.2.2.1 a1 1 120 h) (cl_X11_129) (⟨Nat.le_of_ble_eq_true rfl, Nat.le_of_ble_eq_true rfl⟩) rfl rfl (Nat.le_of_ble_eq_true rfl) dX11_orders_4 (fun t1 h2 => ?_)
  refine j_if_eq E 18 dX11_orders_7 rfl ?_ ?_
  · exact j_sub [] (lv1 := []) rfl (jxX11_orders_18 hg N E h2)
  · refine j_iload_n E dX11_orders_10 1 rfl ?_
    refine j_aload_n E dX11_orders_11 0 rfl ?_
    refine j_geti E f_X11_155 (cM_0 hg) rfl dX11_orders_12 ?_
    refine j_cmp_le E 20 dX11_orders_15 rfl ?_ ?_
    · refine j_aload_n E dX11_orders_20 0 rfl ?_
      refine j_iload_n E dX11_orders_21 1 rfl ?_
      refine j_callvV (As := [.int a1]) (st := []) E (ok_X11_beginsText hg E.2.2.2.2.2.2.2.1 a1 h2) (cM_0 hg) (cl_X11_246) (⟨Nat.le_of_ble_eq_true rfl, Nat.le_of_ble_eq_true rfl⟩) rfl rfl (Nat.le_of_ble_eq_true rfl) dX11_orders_22 (fun t3 h4 => ?_)
      refine j_aload_n E dX11_orders_25 0 rfl ?_
      refine j_iconst E (v := 0) dX11_orders_26 (by decide) ?_
      refine j_puti E fp_X11_277 (cM_0 hg) rfl dX11_orders_27 (fun h5 => ?_)
      refine j_aload_n E dX11_orders_30 0 rfl ?_
      refine j_getr E f_X11_7 (cM_0 hg) 1 rfl dX11_orders_31 ?_
      refine j_aload_n E dX11_orders_34 0 rfl ?_
      refine j_getr E f_X11_13 (cM_0 hg) 2 rfl dX11_orders_35 ?_
      refine j_callsV (As := [.ref (g.2.2.1 1), .ref (g.2.2.1 2)]) (st := []) E (ok_X11_copies hg E.2.2.2.2.2.2.2.1 N 1 2 (cM_1 hg) (cM_2 hg) h5) (cl_X11_298) (⟨Nat.le_of_ble_eq_true rfl, Nat.le_of_ble_eq_true rfl⟩) rfl rfl (Nat.le_of_ble_eq_true rfl) dX11_orders_38 (fun t6 h7 => ?_)
      refine j_aload_n E dX11_orders_41 0 rfl ?_
      refine j_callvI (As := []) (st := []) E (ok_X11_readsOrder hg E.2.2.2.2.2.2.2.1 N h7) (cM_0 hg) (cl_X11_302) (⟨Nat.le_of_ble_eq_true rfl, Nat.le_of_ble_eq_true rfl⟩) rfl rfl (Nat.le_of_ble_eq_true rfl) dX11_orders_42 (fun t8 h9 => ?_)
      refine j_istore0_n E dX11_orders_45 (Nat.le_of_ble_eq_true rfl) [(2, .int t8), (0, .ref (g.2.2.1 0)), (1, .int a1)] rfl ?_
      exact j_sub [1, 0] (lv1 := [(0, .ref (g.2.2.1 0)), (2, .int t8)]) rfl (jxX11_orders_46 hg N E N t8 h9)
    · exact j_sub [] (lv1 := []) rfl (jxX11_orders_18 hg N E h2)
theorem ok_X11_orders {g : GC} (hg : isGM g) (hI : gI g) (N : Nat) (a1 : Int32) (h : HP) : Ok g yX11_orders mX11_orders [.ref (g.2.2.1 0), .int a1] h (xX11_orders N a1 h) := Ok.of hI (by decide) rfl (Nat.le_of_ble_eq_true rfl) (fun X E => jxX11_orders hg N E a1 h)
set_option maxRecDepth 20000 in
set_option maxHeartbeats 4000000 in
theorem jxX11_mostBeyond_35 {g : GC} (hg : isGM g) {X : MX} (N : Nat) (E : JE g mX11_mostBeyond X) (K4 : Int32 → Int32 → Int32 → HP → Option (Int32 × HP)) (hK4 : ∀ (a1 : Int32) (a2 : Int32) (a3 : Int32) (h : HP), J g mX11_mostBeyond X 4 [(0, .ref (g.2.2.1 0)), (1, .int a1), (2, .int a2), (3, .int a3)] [] h (K4 a1 a2 a3 h)) (a1 : Int32) (a2 : Int32) (a3 : Int32) (h : HP) : J g mX11_mostBeyond X 35 [(0, .ref (g.2.2.1 0)), (1, .int a1), (2, .int a2), (3, .int a3)] [] h (xX11_mostBeyond_35 N K4 a1 a2 a3 h) := by
  unfold xX11_mostBeyond_35
  refine j_iinc E (c := 1) dX11_mostBeyond_35 3 rfl (by decide) (Nat.le_of_ble_eq_true rfl) (fun v1 => [(3, .int v1), (0, .ref (g.2.2.1 0)), (1, .int a1), (2, .int a2)]) (fun _ => rfl) (fun v1 => ?_)
  refine j_goto E 4 dX11_mostBeyond_38 rfl ?_
  exact j_sub [1, 2, 3, 0] (lv1 := [(0, .ref (g.2.2.1 0)), (1, .int a1), (2, .int a2), (3, .int v1)]) rfl (hK4 a1 a2 v1 h)
set_option maxRecDepth 20000 in
set_option maxHeartbeats 4000000 in
theorem jxX11_mostBeyond_4 {g : GC} (hg : isGM g) {X : MX} (N : Nat) (E : JE g mX11_mostBeyond X) : ∀ (n : Nat) (a1 : Int32) (a2 : Int32) (a3 : Int32) (h : HP), J g mX11_mostBeyond X 4 [(0, .ref (g.2.2.1 0)), (1, .int a1), (2, .int a2), (3, .int a3)] [] h (xX11_mostBeyond_4 N n a1 a2 a3 h) := by
  intro n
  induction n with
  | zero => intro a1 a2 a3 h; exact j_none
  | succ n ih =>
    intro a1 a2 a3 h
    unfold xX11_mostBeyond_4
    refine j_iload_n E dX11_mostBeyond_4 3 rfl ?_
    refine j_bipush E (v := 16) dX11_mostBeyond_5 (by decide) ?_
    refine j_cmp_ge E 41 dX11_mostBeyond_7 rfl ?_ ?_
    · refine j_iload_n E dX11_mostBeyond_41 2 rfl ?_
      exact j_ireturn E rfl dX11_mostBeyond_42
    · refine j_aload_n E dX11_mostBeyond_10 0 rfl ?_
      refine j_iload_n E dX11_mostBeyond_11 1 rfl ?_
      refine j_callvI (As := [.int a1]) (st := []) E (ok_X11_nextTo hg E.2.2.2.2.2.2.2.1 N a1 h) (cM_0 hg) (cl_X11_305) (⟨Nat.le_of_ble_eq_true rfl, Nat.le_of_ble_eq_true rfl⟩) rfl rfl (Nat.le_of_ble_eq_true rfl) dX11_mostBeyond_12 (fun t1 h2 => ?_)
      refine j_iload_n E dX11_mostBeyond_15 3 rfl ?_
      refine j_callsI (As := [.int t1, .int a3]) (st := []) E (ok_X11_has hg E.2.2.2.2.2.2.2.1 t1 a3 h2) (cl_X11_137) (⟨Nat.le_of_ble_eq_true rfl, Nat.le_of_ble_eq_true rfl⟩) rfl rfl (Nat.le_of_ble_eq_true rfl) dX11_mostBeyond_16 (fun t3 h4 => ?_)
      refine j_if_eq E 35 dX11_mostBeyond_19 rfl ?_ ?_
      · exact jxX11_mostBeyond_35 hg N E (xX11_mostBeyond_4 N n) ih a1 a2 a3 h4
      · refine j_iload_n E dX11_mostBeyond_22 2 rfl ?_
        refine j_aload_n E dX11_mostBeyond_23 0 rfl ?_
        refine j_getr E f_X11_7 (cM_0 hg) 1 rfl dX11_mostBeyond_24 ?_
        refine j_iconst E (v := 0) dX11_mostBeyond_27 (by decide) ?_
        refine j_iload_n E dX11_mostBeyond_28 3 rfl ?_
        refine j_iadd E dX11_mostBeyond_29 ?_
        refine j_iald E (cM_1 hg) dX11_mostBeyond_30 (fun t5 => ?_)
        refine j_callsI (As := [.int a2, .int t5]) (st := []) E (ok_X11_max hg E.2.2.2.2.2.2.2.1 a2 t5 h4) (cl_X11_289) (⟨Nat.le_of_ble_eq_true rfl, Nat.le_of_ble_eq_true rfl⟩) rfl rfl (Nat.le_of_ble_eq_true rfl) dX11_mostBeyond_31 (fun t6 h7 => ?_)
        refine j_istore0_n E dX11_mostBeyond_34 (Nat.le_of_ble_eq_true rfl) [(2, .int t6), (0, .ref (g.2.2.1 0)), (1, .int a1), (3, .int a3)] rfl ?_
        exact j_sub [1, 2, 0, 3] (lv1 := [(0, .ref (g.2.2.1 0)), (1, .int a1), (2, .int t6), (3, .int a3)]) rfl (jxX11_mostBeyond_35 hg N E (xX11_mostBeyond_4 N n) ih a1 t6 a3 h7)
set_option maxRecDepth 20000 in
set_option maxHeartbeats 4000000 in
theorem jxX11_mostBeyond {g : GC} (hg : isGM g) {X : MX} (N : Nat) (E : JE g mX11_mostBeyond X) (a1 : Int32) (h : HP) : J g mX11_mostBeyond X 0 [(0, .ref (g.2.2.1 0)), (1, .int a1)] [] h (xX11_mostBeyond N a1 h) := by
  unfold xX11_mostBeyond
  refine j_iconst E (v := 0) dX11_mostBeyond_0 (by decide) ?_
  refine j_istore0_n E dX11_mostBeyond_1 (Nat.le_of_ble_eq_true rfl) [(2, .int 0), (0, .ref (g.2.2.1 0)), (1, .int a1)] rfl ?_
  refine j_iconst E (v := 0) dX11_mostBeyond_2 (by decide) ?_
  refine j_istore0_n E dX11_mostBeyond_3 (Nat.le_of_ble_eq_true rfl) [(3, .int 0), (2, .int 0), (0, .ref (g.2.2.1 0)), (1, .int a1)] rfl ?_
  exact j_sub [2, 3, 1, 0] (lv1 := [(0, .ref (g.2.2.1 0)), (1, .int a1), (2, .int 0), (3, .int 0)]) rfl (jxX11_mostBeyond_4 hg N E N a1 0 0 h)
theorem ok_X11_mostBeyond {g : GC} (hg : isGM g) (hI : gI g) (N : Nat) (a1 : Int32) (h : HP) : Ok g yX11_mostBeyond mX11_mostBeyond [.ref (g.2.2.1 0), .int a1] h (xX11_mostBeyond N a1 h) := Ok.of hI (by decide) rfl (Nat.le_of_ble_eq_true rfl) (fun X E => jxX11_mostBeyond hg N E a1 h)
set_option maxRecDepth 20000 in
set_option maxHeartbeats 4000000 in
theorem jxX11_feels {g : GC} (hg : isGM g) {X : MX} (N : Nat) (E : JE g mX11_feels X) (a1 : Int32) (h : HP) : J g mX11_feels X 0 [(0, .ref (g.2.2.1 0)), (1, .int a1)] [] h (xX11_feels N a1 h) := by
  unfold xX11_feels
  refine j_aload_n E dX11_feels_0 0 rfl ?_
  refine j_getr E f_X11_7 (cM_0 hg) 1 rfl dX11_feels_1 ?_
  refine j_bipush E (v := 74) dX11_feels_4 (by decide) ?_
  refine j_sipush E (v := 25173) dX11_feels_6 (by decide) ?_
  refine j_aload_n E dX11_feels_9 0 rfl ?_
  refine j_getr E f_X11_7 (cM_0 hg) 1 rfl dX11_feels_10 ?_
  refine j_bipush E (v := 74) dX11_feels_13 (by decide) ?_
  refine j_iald E (cM_1 hg) dX11_feels_15 (fun t1 => ?_)
  refine j_imul E dX11_feels_16 ?_
  refine j_sipush E (v := 13849) dX11_feels_17 (by decide) ?_
  refine j_iadd E dX11_feels_20 ?_
  refine j_ldc E (v := 65536) k_X11_101 dX11_feels_21 ?_
  refine j_rem2 E (by decide) dX11_feels_23 ?_
  refine j_iast E (cM_1 hg) dX11_feels_24 (fun h2 => ?_)
  refine j_aload_n E dX11_feels_25 0 rfl ?_
  refine j_getr E f_X11_71 (cM_0 hg) 21 rfl dX11_feels_26 ?_
  refine j_iconst E (v := 0) dX11_feels_29 (by decide) ?_
  refine j_iload_n E dX11_feels_30 1 rfl ?_
  refine j_iast E (cM_21 hg) dX11_feels_31 (fun h3 => ?_)
  refine j_aload_n E dX11_feels_32 0 rfl ?_
  refine j_getr E f_X11_71 (cM_0 hg) 21 rfl dX11_feels_33 ?_
  refine j_iconst E (v := 1) dX11_feels_36 (by decide) ?_
  refine j_aload_n E dX11_feels_37 0 rfl ?_
  refine j_getr E f_X11_19 (cM_0 hg) 4 rfl dX11_feels_38 ?_
  refine j_iload_n E dX11_feels_41 1 rfl ?_
  refine j_iald E (cM_4 hg) dX11_feels_42 (fun t4 => ?_)
  refine j_iast E (cM_21 hg) dX11_feels_43 (fun h5 => ?_)
  refine j_aload_n E dX11_feels_44 0 rfl ?_
  refine j_getr E f_X11_71 (cM_0 hg) 21 rfl dX11_feels_45 ?_
  refine j_iconst E (v := 2) dX11_feels_48 (by decide) ?_
  refine j_aload_n E dX11_feels_49 0 rfl ?_
  refine j_getr E f_X11_7 (cM_0 hg) 1 rfl dX11_feels_50 ?_
  refine j_iconst E (v := 0) dX11_feels_53 (by decide) ?_
  refine j_iload_n E dX11_feels_54 1 rfl ?_
  refine j_iadd E dX11_feels_55 ?_
  refine j_iald E (cM_1 hg) dX11_feels_56 (fun t6 => ?_)
  refine j_iast E (cM_21 hg) dX11_feels_57 (fun h7 => ?_)
  refine j_aload_n E dX11_feels_58 0 rfl ?_
  refine j_getr E f_X11_71 (cM_0 hg) 21 rfl dX11_feels_59 ?_
  refine j_iconst E (v := 3) dX11_feels_62 (by decide) ?_
  refine j_aload_n E dX11_feels_63 0 rfl ?_
  refine j_getr E f_X11_7 (cM_0 hg) 1 rfl dX11_feels_64 ?_
  refine j_bipush E (v := 16) dX11_feels_67 (by decide) ?_
  refine j_iload_n E dX11_feels_69 1 rfl ?_
  refine j_iadd E dX11_feels_70 ?_
  refine j_iald E (cM_1 hg) dX11_feels_71 (fun t8 => ?_)
  refine j_iast E (cM_21 hg) dX11_feels_72 (fun h9 => ?_)
  refine j_aload_n E dX11_feels_73 0 rfl ?_
  refine j_getr E f_X11_71 (cM_0 hg) 21 rfl dX11_feels_74 ?_
  refine j_iconst E (v := 4) dX11_feels_77 (by decide) ?_
  refine j_aload_n E dX11_feels_78 0 rfl ?_
  refine j_iload_n E dX11_feels_79 1 rfl ?_
  refine j_callvI (As := [.int a1]) (st := [.int 4, .ref (g.2.2.1 21)]) E (ok_X11_openOf hg E.2.2.2.2.2.2.2.1 N a1 h9) (cM_0 hg) (cl_X11_308) (⟨Nat.le_of_ble_eq_true rfl, Nat.le_of_ble_eq_true rfl⟩) rfl rfl (Nat.le_of_ble_eq_true rfl) dX11_feels_80 (fun t10 h11 => ?_)
  refine j_iast E (cM_21 hg) dX11_feels_83 (fun h12 => ?_)
  refine j_aload_n E dX11_feels_84 0 rfl ?_
  refine j_getr E f_X11_71 (cM_0 hg) 21 rfl dX11_feels_85 ?_
  refine j_iconst E (v := 5) dX11_feels_88 (by decide) ?_
  refine j_aload_n E dX11_feels_89 0 rfl ?_
  refine j_iload_n E dX11_feels_90 1 rfl ?_
  refine j_callvI (As := [.int a1]) (st := [.int 5, .ref (g.2.2.1 21)]) E (ok_X11_mostBeyond hg E.2.2.2.2.2.2.2.1 N a1 h12) (cM_0 hg) (cl_X11_311) (⟨Nat.le_of_ble_eq_true rfl, Nat.le_of_ble_eq_true rfl⟩) rfl rfl (Nat.le_of_ble_eq_true rfl) dX11_feels_91 (fun t13 h14 => ?_)
  refine j_iast E (cM_21 hg) dX11_feels_94 (fun h15 => ?_)
  refine j_aload_n E dX11_feels_95 0 rfl ?_
  refine j_getr E f_X11_71 (cM_0 hg) 21 rfl dX11_feels_96 ?_
  refine j_bipush E (v := 6) dX11_feels_99 (by decide) ?_
  refine j_aload_n E dX11_feels_101 0 rfl ?_
  refine j_getr E f_X11_7 (cM_0 hg) 1 rfl dX11_feels_102 ?_
  refine j_bipush E (v := 32) dX11_feels_105 (by decide) ?_
  refine j_iload_n E dX11_feels_107 1 rfl ?_
  refine j_iadd E dX11_feels_108 ?_
  refine j_iald E (cM_1 hg) dX11_feels_109 (fun t16 => ?_)
  refine j_bipush E (v := 100) dX11_feels_110 (by decide) ?_
  refine j_idivc E (by decide) dX11_feels_112 ?_
  refine j_iast E (cM_21 hg) dX11_feels_113 (fun h17 => ?_)
  refine j_aload_n E dX11_feels_114 0 rfl ?_
  refine j_getr E f_X11_71 (cM_0 hg) 21 rfl dX11_feels_115 ?_
  refine j_bipush E (v := 7) dX11_feels_118 (by decide) ?_
  refine j_aload_n E dX11_feels_120 0 rfl ?_
  refine j_getr E f_X11_7 (cM_0 hg) 1 rfl dX11_feels_121 ?_
  refine j_bipush E (v := 72) dX11_feels_124 (by decide) ?_
  refine j_iald E (cM_1 hg) dX11_feels_126 (fun t18 => ?_)
  refine j_bipush E (v := 100) dX11_feels_127 (by decide) ?_
  refine j_idivc E (by decide) dX11_feels_129 ?_
  refine j_iast E (cM_21 hg) dX11_feels_130 (fun h19 => ?_)
  refine j_aload_n E dX11_feels_131 0 rfl ?_
  refine j_getr E f_X11_71 (cM_0 hg) 21 rfl dX11_feels_132 ?_
  refine j_bipush E (v := 8) dX11_feels_135 (by decide) ?_
  refine j_aload_n E dX11_feels_137 0 rfl ?_
  refine j_getr E f_X11_7 (cM_0 hg) 1 rfl dX11_feels_138 ?_
  refine j_bipush E (v := 73) dX11_feels_141 (by decide) ?_
  refine j_iald E (cM_1 hg) dX11_feels_143 (fun t20 => ?_)
  refine j_bipush E (v := 100) dX11_feels_144 (by decide) ?_
  refine j_rem2 E (by decide) dX11_feels_146 ?_
  refine j_iast E (cM_21 hg) dX11_feels_147 (fun h21 => ?_)
  refine j_aload_n E dX11_feels_148 0 rfl ?_
  refine j_getr E f_X11_71 (cM_0 hg) 21 rfl dX11_feels_149 ?_
  refine j_bipush E (v := 9) dX11_feels_152 (by decide) ?_
  refine j_aload_n E dX11_feels_154 0 rfl ?_
  refine j_getr E f_X11_7 (cM_0 hg) 1 rfl dX11_feels_155 ?_
  refine j_bipush E (v := 74) dX11_feels_158 (by decide) ?_
  refine j_iald E (cM_1 hg) dX11_feels_160 (fun t22 => ?_)
  refine j_bipush E (v := 10) dX11_feels_161 (by decide) ?_
  refine j_rem2 E (by decide) dX11_feels_163 ?_
  refine j_iast E (cM_21 hg) dX11_feels_164 (fun h23 => ?_)
  exact j_vreturn E rfl dX11_feels_165
theorem ok_X11_feels {g : GC} (hg : isGM g) (hI : gI g) (N : Nat) (a1 : Int32) (h : HP) : Ok g yX11_feels mX11_feels [.ref (g.2.2.1 0), .int a1] h (xX11_feels N a1 h) := Ok.of hI (by decide) rfl (Nat.le_of_ble_eq_true rfl) (fun X E => jxX11_feels hg N E a1 h)
set_option maxRecDepth 20000 in
set_option maxHeartbeats 4000000 in
theorem jxX11_rises {g : GC} (hg : isGM g) {X : MX} (N : Nat) (E : JE g mX11_rises X) (a1 : Int32) (h : HP) : J g mX11_rises X 0 [(0, .ref (g.2.2.1 0)), (1, .int a1)] [] h (xX11_rises N a1 h) := by
  unfold xX11_rises
  refine j_aload_n E dX11_rises_0 0 rfl ?_
  refine j_iload_n E dX11_rises_1 1 rfl ?_
  refine j_callvV (As := [.int a1]) (st := []) E (ok_X11_feels hg E.2.2.2.2.2.2.2.1 N a1 h) (cM_0 hg) (cl_X11_314) (⟨Nat.le_of_ble_eq_true rfl, Nat.le_of_ble_eq_true rfl⟩) rfl rfl (Nat.le_of_ble_eq_true rfl) dX11_rises_2 (fun t1 h2 => ?_)
  refine j_aload_n E dX11_rises_5 0 rfl ?_
  refine j_bipush E (v := 114) dX11_rises_6 (by decide) ?_
  refine j_callvI (As := [.int 114]) (st := []) E (ok_X11_byLaw hg E.2.2.2.2.2.2.2.1 N 114 h2) (cM_0 hg) (cl_X11_317) (⟨Nat.le_of_ble_eq_true rfl, Nat.le_of_ble_eq_true rfl⟩) rfl rfl (Nat.le_of_ble_eq_true rfl) dX11_rises_8 (fun t3 h4 => ?_)
  refine j_aload_n E dX11_rises_11 0 rfl ?_
  refine j_getr E f_X11_7 (cM_0 hg) 1 rfl dX11_rises_12 ?_
  refine j_bipush E (v := 72) dX11_rises_15 (by decide) ?_
  refine j_iald E (cM_1 hg) dX11_rises_17 (fun t5 => ?_)
  refine j_sipush E (v := 9999) dX11_rises_18 (by decide) ?_
  refine j_aload_n E dX11_rises_21 0 rfl ?_
  refine j_getr E f_X11_7 (cM_0 hg) 1 rfl dX11_rises_22 ?_
  refine j_iconst E (v := 0) dX11_rises_25 (by decide) ?_
  refine j_iload_n E dX11_rises_26 1 rfl ?_
  refine j_iadd E dX11_rises_27 ?_
  refine j_iald E (cM_1 hg) dX11_rises_28 (fun t6 => ?_)
  refine j_isub E dX11_rises_29 ?_
  refine j_callsI (As := [.int t5, .int (9999 - t6)]) (st := [.int t3]) E (ok_X11_min hg E.2.2.2.2.2.2.2.1 t5 (9999 - t6) h4) (cl_X11_286) (⟨Nat.le_of_ble_eq_true rfl, Nat.le_of_ble_eq_true rfl⟩) rfl rfl (Nat.le_of_ble_eq_true rfl) dX11_rises_30 (fun t7 h8 => ?_)
  refine j_callsI (As := [.int t3, .int t7]) (st := []) E (ok_X11_min hg E.2.2.2.2.2.2.2.1 t3 t7 h8) (cl_X11_286) (⟨Nat.le_of_ble_eq_true rfl, Nat.le_of_ble_eq_true rfl⟩) rfl rfl (Nat.le_of_ble_eq_true rfl) dX11_rises_33 (fun t9 h10 => ?_)
  refine j_istore0_n E dX11_rises_36 (Nat.le_of_ble_eq_true rfl) [(2, .int t9), (0, .ref (g.2.2.1 0)), (1, .int a1)] rfl ?_
  refine j_aload_n E dX11_rises_37 1 rfl ?_
  refine j_getr E f_X11_7 (cM_0 hg) 1 rfl dX11_rises_38 ?_
  refine j_iconst E (v := 0) dX11_rises_41 (by decide) ?_
  refine j_iload_n E dX11_rises_42 2 rfl ?_
  refine j_iadd E dX11_rises_43 ?_
  refine j_aload_n E dX11_rises_44 1 rfl ?_
  refine j_getr E f_X11_7 (cM_0 hg) 1 rfl dX11_rises_45 ?_
  refine j_iconst E (v := 0) dX11_rises_48 (by decide) ?_
  refine j_iload_n E dX11_rises_49 2 rfl ?_
  refine j_iadd E dX11_rises_50 ?_
  refine j_iald E (cM_1 hg) dX11_rises_51 (fun t11 => ?_)
  refine j_iload_n E dX11_rises_52 0 rfl ?_
  refine j_iadd E dX11_rises_53 ?_
  refine j_iast E (cM_1 hg) dX11_rises_54 (fun h12 => ?_)
  refine j_aload_n E dX11_rises_55 1 rfl ?_
  refine j_getr E f_X11_7 (cM_0 hg) 1 rfl dX11_rises_56 ?_
  refine j_bipush E (v := 72) dX11_rises_59 (by decide) ?_
  refine j_aload_n E dX11_rises_61 1 rfl ?_
  refine j_getr E f_X11_7 (cM_0 hg) 1 rfl dX11_rises_62 ?_
  refine j_bipush E (v := 72) dX11_rises_65 (by decide) ?_
  refine j_iald E (cM_1 hg) dX11_rises_67 (fun t13 => ?_)
  refine j_iload_n E dX11_rises_68 0 rfl ?_
  refine j_isub E dX11_rises_69 ?_
  refine j_iast E (cM_1 hg) dX11_rises_70 (fun h14 => ?_)
  exact j_vreturn E rfl dX11_rises_71
theorem ok_X11_rises {g : GC} (hg : isGM g) (hI : gI g) (N : Nat) (a1 : Int32) (h : HP) : Ok g yX11_rises mX11_rises [.ref (g.2.2.1 0), .int a1] h (xX11_rises N a1 h) := Ok.of hI (by decide) rfl (Nat.le_of_ble_eq_true rfl) (fun X E => jxX11_rises hg N E a1 h)
set_option maxRecDepth 20000 in
set_option maxHeartbeats 4000000 in
theorem jxX11_levelOf {g : GC} (hg : isGM g) {X : MX} (E : JE g mX11_levelOf X) (a1 : Int32) (h : HP) : J g mX11_levelOf X 0 [(0, .ref (g.2.2.1 0)), (1, .int a1)] [] h (xX11_levelOf a1 h) := by
  unfold xX11_levelOf
  refine j_aload_n E dX11_levelOf_0 0 rfl ?_
  refine j_getr E f_X11_19 (cM_0 hg) 4 rfl dX11_levelOf_1 ?_
  refine j_iload_n E dX11_levelOf_4 1 rfl ?_
  refine j_iald E (cM_4 hg) dX11_levelOf_5 (fun t1 => ?_)
  refine j_aload_n E dX11_levelOf_6 0 rfl ?_
  refine j_getr E f_X11_7 (cM_0 hg) 1 rfl dX11_levelOf_7 ?_
  refine j_iconst E (v := 0) dX11_levelOf_10 (by decide) ?_
  refine j_iload_n E dX11_levelOf_11 1 rfl ?_
  refine j_iadd E dX11_levelOf_12 ?_
  refine j_iald E (cM_1 hg) dX11_levelOf_13 (fun t2 => ?_)
  refine j_iadd E dX11_levelOf_14 ?_
  exact j_ireturn E rfl dX11_levelOf_15
theorem ok_X11_levelOf {g : GC} (hg : isGM g) (hI : gI g) (a1 : Int32) (h : HP) : Ok g yX11_levelOf mX11_levelOf [.ref (g.2.2.1 0), .int a1] h (xX11_levelOf a1 h) := Ok.of hI (by decide) rfl (Nat.le_of_ble_eq_true rfl) (fun X E => jxX11_levelOf hg E a1 h)
set_option maxRecDepth 20000 in
set_option maxHeartbeats 4000000 in
theorem jxX11_levels_38 {g : GC} (hg : isGM g) {X : MX} (E : JE g mX11_levels X) (a1 : Int32) (s0 : Int32) (h : HP) : J g mX11_levels X 38 [(0, .ref (g.2.2.1 0)), (1, .int a1)] [.int s0] h (xX11_levels_38 a1 s0 h) := by
  unfold xX11_levels_38
  refine j_istore0_n E dX11_levels_38 (Nat.le_of_ble_eq_true rfl) [(2, .int s0), (0, .ref (g.2.2.1 0)), (1, .int a1)] rfl ?_
  refine j_aload_n E dX11_levels_39 1 rfl ?_
  refine j_getr E f_X11_22 (cM_0 hg) 5 rfl dX11_levels_40 ?_
  refine j_iload_n E dX11_levels_43 2 rfl ?_
  refine j_iald E (cM_5 hg) dX11_levels_44 (fun t1 => ?_)
  refine j_aload_n E dX11_levels_45 1 rfl ?_
  refine j_getr E f_X11_25 (cM_0 hg) 6 rfl dX11_levels_46 ?_
  refine j_iload_n E dX11_levels_49 2 rfl ?_
  refine j_iald E (cM_6 hg) dX11_levels_50 (fun t2 => ?_)
  refine j_iadd E dX11_levels_51 ?_
  refine j_iload_n E dX11_levels_52 0 rfl ?_
  refine j_isub E dX11_levels_53 ?_
  refine j_istore_n E dX11_levels_54 (Nat.le_of_ble_eq_true rfl) (fun v3 => [(3, .int v3), (2, .int s0), (0, .ref (g.2.2.1 0)), (1, .int a1)]) (fun _ => rfl) (fun v3 => ?_)
  refine j_aload_n E dX11_levels_55 2 rfl ?_
  refine j_iload_n E dX11_levels_56 1 rfl ?_
  refine j_callvI (As := [.int s0]) (st := []) E (ok_X11_levelOf hg E.2.2.2.2.2.2.2.1 s0 h) (cM_0 hg) (cl_X11_320) (⟨Nat.le_of_ble_eq_true rfl, Nat.le_of_ble_eq_true rfl⟩) rfl rfl (Nat.le_of_ble_eq_true rfl) dX11_levels_57 (fun t4 h5 => ?_)
  refine j_aload_n E dX11_levels_60 2 rfl ?_
  refine j_iload_n E dX11_levels_61 0 rfl ?_
  refine j_callvI (As := [.int v3]) (st := [.int t4]) E (ok_X11_levelOf hg E.2.2.2.2.2.2.2.1 v3 h5) (cM_0 hg) (cl_X11_320) (⟨Nat.le_of_ble_eq_true rfl, Nat.le_of_ble_eq_true rfl⟩) rfl rfl (Nat.le_of_ble_eq_true rfl) dX11_levels_62 (fun t6 h7 => ?_)
  refine j_isub E dX11_levels_65 ?_
  refine j_iconst E (v := 2) dX11_levels_66 (by decide) ?_
  refine j_idivc E (by decide) dX11_levels_67 ?_
  refine j_istore E dX11_levels_68 (Nat.le_of_ble_eq_true rfl) (fun v8 => [(4, .int v8), (3, .int v3), (2, .int s0), (0, .ref (g.2.2.1 0)), (1, .int a1)]) (fun _ => rfl) (fun v8 => ?_)
  refine j_aload_n E dX11_levels_70 3 rfl ?_
  refine j_getr E f_X11_28 (cM_0 hg) 7 rfl dX11_levels_71 ?_
  refine j_iload_n E dX11_levels_74 4 rfl ?_
  refine j_iald E (cM_7 hg) dX11_levels_75 (fun t9 => ?_)
  refine j_iload E dX11_levels_76 0 rfl ?_
  refine j_callsI (As := [.int t9, .int v8]) (st := []) E (ok_X11_min hg E.2.2.2.2.2.2.2.1 t9 v8 h7) (cl_X11_286) (⟨Nat.le_of_ble_eq_true rfl, Nat.le_of_ble_eq_true rfl⟩) rfl rfl (Nat.le_of_ble_eq_true rfl) dX11_levels_78 (fun t10 h11 => ?_)
  refine j_aload_n E dX11_levels_81 3 rfl ?_
  refine j_getr E f_X11_7 (cM_0 hg) 1 rfl dX11_levels_82 ?_
  refine j_iconst E (v := 0) dX11_levels_85 (by decide) ?_
  refine j_iload_n E dX11_levels_86 2 rfl ?_
  refine j_iadd E dX11_levels_87 ?_
  refine j_iald E (cM_1 hg) dX11_levels_88 (fun t12 => ?_)
  refine j_sipush E (v := 9999) dX11_levels_89 (by decide) ?_
  refine j_aload_n E dX11_levels_92 3 rfl ?_
  refine j_getr E f_X11_7 (cM_0 hg) 1 rfl dX11_levels_93 ?_
  refine j_iconst E (v := 0) dX11_levels_96 (by decide) ?_
  refine j_iload_n E dX11_levels_97 1 rfl ?_
  refine j_iadd E dX11_levels_98 ?_
  refine j_iald E (cM_1 hg) dX11_levels_99 (fun t13 => ?_)
  refine j_isub E dX11_levels_100 ?_
  refine j_callsI (As := [.int t12, .int (9999 - t13)]) (st := [.int t10]) E (ok_X11_min hg E.2.2.2.2.2.2.2.1 t12 (9999 - t13) h11) (cl_X11_286) (⟨Nat.le_of_ble_eq_true rfl, Nat.le_of_ble_eq_true rfl⟩) rfl rfl (Nat.le_of_ble_eq_true rfl) dX11_levels_101 (fun t14 h15 => ?_)
  refine j_callsI (As := [.int t10, .int t14]) (st := []) E (ok_X11_min hg E.2.2.2.2.2.2.2.1 t10 t14 h15) (cl_X11_286) (⟨Nat.le_of_ble_eq_true rfl, Nat.le_of_ble_eq_true rfl⟩) rfl rfl (Nat.le_of_ble_eq_true rfl) dX11_levels_104 (fun t16 h17 => ?_)
  refine j_istore0 E dX11_levels_107 (Nat.le_of_ble_eq_true rfl) [(5, .int t16), (4, .int v8), (3, .int v3), (2, .int s0), (0, .ref (g.2.2.1 0)), (1, .int a1)] rfl ?_
  refine j_aload_n E dX11_levels_109 4 rfl ?_
  refine j_getr E f_X11_7 (cM_0 hg) 1 rfl dX11_levels_110 ?_
  refine j_iconst E (v := 0) dX11_levels_113 (by decide) ?_
  refine j_iload_n E dX11_levels_114 3 rfl ?_
  refine j_iadd E dX11_levels_115 ?_
  refine j_aload_n E dX11_levels_116 4 rfl ?_
  refine j_getr E f_X11_7 (cM_0 hg) 1 rfl dX11_levels_117 ?_
  refine j_iconst E (v := 0) dX11_levels_120 (by decide) ?_
  refine j_iload_n E dX11_levels_121 3 rfl ?_
  refine j_iadd E dX11_levels_122 ?_
  refine j_iald E (cM_1 hg) dX11_levels_123 (fun t18 => ?_)
  refine j_iload E dX11_levels_124 0 rfl ?_
  refine j_isub E dX11_levels_126 ?_
  refine j_iast E (cM_1 hg) dX11_levels_127 (fun h19 => ?_)
  refine j_aload_n E dX11_levels_128 4 rfl ?_
  refine j_getr E f_X11_7 (cM_0 hg) 1 rfl dX11_levels_129 ?_
  refine j_iconst E (v := 0) dX11_levels_132 (by decide) ?_
  refine j_iload_n E dX11_levels_133 2 rfl ?_
  refine j_iadd E dX11_levels_134 ?_
  refine j_aload_n E dX11_levels_135 4 rfl ?_
  refine j_getr E f_X11_7 (cM_0 hg) 1 rfl dX11_levels_136 ?_
  refine j_iconst E (v := 0) dX11_levels_139 (by decide) ?_
  refine j_iload_n E dX11_levels_140 2 rfl ?_
  refine j_iadd E dX11_levels_141 ?_
  refine j_iald E (cM_1 hg) dX11_levels_142 (fun t20 => ?_)
  refine j_iload E dX11_levels_143 0 rfl ?_
  refine j_iadd E dX11_levels_145 ?_
  refine j_iast E (cM_1 hg) dX11_levels_146 (fun h21 => ?_)
  exact j_vreturn E rfl dX11_levels_147
set_option maxRecDepth 20000 in
set_option maxHeartbeats 4000000 in
theorem jxX11_levels {g : GC} (hg : isGM g) {X : MX} (E : JE g mX11_levels X) (a1 : Int32) (h : HP) : J g mX11_levels X 0 [(0, .ref (g.2.2.1 0)), (1, .int a1)] [] h (xX11_levels a1 h) := by
  unfold xX11_levels
  refine j_aload_n E dX11_levels_0 0 rfl ?_
  refine j_aload_n E dX11_levels_1 0 rfl ?_
  refine j_getr E f_X11_22 (cM_0 hg) 5 rfl dX11_levels_2 ?_
  refine j_iload_n E dX11_levels_5 1 rfl ?_
  refine j_iald E (cM_5 hg) dX11_levels_6 (fun t1 => ?_)
  refine j_callvI (As := [.int t1]) (st := []) E (ok_X11_levelOf hg E.2.2.2.2.2.2.2.1 t1 h) (cM_0 hg) (cl_X11_320) (⟨Nat.le_of_ble_eq_true rfl, Nat.le_of_ble_eq_true rfl⟩) rfl rfl (Nat.le_of_ble_eq_true rfl) dX11_levels_7 (fun t2 h3 => ?_)
  refine j_aload_n E dX11_levels_10 0 rfl ?_
  refine j_aload_n E dX11_levels_11 0 rfl ?_
  refine j_getr E f_X11_25 (cM_0 hg) 6 rfl dX11_levels_12 ?_
  refine j_iload_n E dX11_levels_15 1 rfl ?_
  refine j_iald E (cM_6 hg) dX11_levels_16 (fun t4 => ?_)
  refine j_callvI (As := [.int t4]) (st := [.int t2]) E (ok_X11_levelOf hg E.2.2.2.2.2.2.2.1 t4 h3) (cM_0 hg) (cl_X11_320) (⟨Nat.le_of_ble_eq_true rfl, Nat.le_of_ble_eq_true rfl⟩) rfl rfl (Nat.le_of_ble_eq_true rfl) dX11_levels_17 (fun t5 h6 => ?_)
  refine j_cmp_lt E 32 dX11_levels_20 rfl ?_ ?_
  · refine j_aload_n E dX11_levels_32 0 rfl ?_
    refine j_getr E f_X11_25 (cM_0 hg) 6 rfl dX11_levels_33 ?_
    refine j_iload_n E dX11_levels_36 1 rfl ?_
    refine j_iald E (cM_6 hg) dX11_levels_37 (fun t7 => ?_)
    exact jxX11_levels_38 hg E a1 t7 h6
  · refine j_aload_n E dX11_levels_23 0 rfl ?_
    refine j_getr E f_X11_22 (cM_0 hg) 5 rfl dX11_levels_24 ?_
    refine j_iload_n E dX11_levels_27 1 rfl ?_
    refine j_iald E (cM_5 hg) dX11_levels_28 (fun t8 => ?_)
    refine j_goto E 38 dX11_levels_29 rfl ?_
    exact jxX11_levels_38 hg E a1 t8 h6
theorem ok_X11_levels {g : GC} (hg : isGM g) (hI : gI g) (a1 : Int32) (h : HP) : Ok g yX11_levels mX11_levels [.ref (g.2.2.1 0), .int a1] h (xX11_levels a1 h) := Ok.of hI (by decide) rfl (Nat.le_of_ble_eq_true rfl) (fun X E => jxX11_levels hg E a1 h)
set_option maxRecDepth 20000 in
set_option maxHeartbeats 4000000 in
theorem jxX11_weeps {g : GC} (hg : isGM g) {X : MX} (N : Nat) (E : JE g mX11_weeps X) (a1 : Int32) (h : HP) : J g mX11_weeps X 0 [(0, .ref (g.2.2.1 0)), (1, .int a1)] [] h (xX11_weeps N a1 h) := by
  unfold xX11_weeps
  refine j_aload_n E dX11_weeps_0 0 rfl ?_
  refine j_iload_n E dX11_weeps_1 1 rfl ?_
  refine j_callvV (As := [.int a1]) (st := []) E (ok_X11_feels hg E.2.2.2.2.2.2.2.1 N a1 h) (cM_0 hg) (cl_X11_314) (⟨Nat.le_of_ble_eq_true rfl, Nat.le_of_ble_eq_true rfl⟩) rfl rfl (Nat.le_of_ble_eq_true rfl) dX11_weeps_2 (fun t1 h2 => ?_)
  refine j_aload_n E dX11_weeps_5 0 rfl ?_
  refine j_bipush E (v := 120) dX11_weeps_6 (by decide) ?_
  refine j_callvI (As := [.int 120]) (st := []) E (ok_X11_holdsAny hg E.2.2.2.2.2.2.2.1 N 120 h2) (cM_0 hg) (cl_X11_323) (⟨Nat.le_of_ble_eq_true rfl, Nat.le_of_ble_eq_true rfl⟩) rfl rfl (Nat.le_of_ble_eq_true rfl) dX11_weeps_8 (fun t3 h4 => ?_)
  refine j_if_eq E 15 dX11_weeps_11 rfl ?_ ?_
  · refine j_aload_n E dX11_weeps_15 0 rfl ?_
    refine j_getr E f_X11_7 (cM_0 hg) 1 rfl dX11_weeps_16 ?_
    refine j_bipush E (v := 16) dX11_weeps_19 (by decide) ?_
    refine j_iload_n E dX11_weeps_21 1 rfl ?_
    refine j_iadd E dX11_weeps_22 ?_
    refine j_iald E (cM_1 hg) dX11_weeps_23 (fun t5 => ?_)
    refine j_aload_n E dX11_weeps_24 0 rfl ?_
    refine j_bipush E (v := 111) dX11_weeps_25 (by decide) ?_
    refine j_callvI (As := [.int 111]) (st := [.int t5]) E (ok_X11_byLaw hg E.2.2.2.2.2.2.2.1 N 111 h4) (cM_0 hg) (cl_X11_317) (⟨Nat.le_of_ble_eq_true rfl, Nat.le_of_ble_eq_true rfl⟩) rfl rfl (Nat.le_of_ble_eq_true rfl) dX11_weeps_27 (fun t6 h7 => ?_)
    refine j_imul E dX11_weeps_30 ?_
    refine j_aload_n E dX11_weeps_31 0 rfl ?_
    refine j_getr E f_X11_7 (cM_0 hg) 1 rfl dX11_weeps_32 ?_
    refine j_iconst E (v := 0) dX11_weeps_35 (by decide) ?_
    refine j_iload_n E dX11_weeps_36 1 rfl ?_
    refine j_iadd E dX11_weeps_37 ?_
    refine j_iald E (cM_1 hg) dX11_weeps_38 (fun t8 => ?_)
    refine j_callsI (As := [.int (t5 * t6), .int t8]) (st := []) E (ok_X11_min hg E.2.2.2.2.2.2.2.1 (t5 * t6) t8 h7) (cl_X11_286) (⟨Nat.le_of_ble_eq_true rfl, Nat.le_of_ble_eq_true rfl⟩) rfl rfl (Nat.le_of_ble_eq_true rfl) dX11_weeps_39 (fun t9 h10 => ?_)
    refine j_istore0_n E dX11_weeps_42 (Nat.le_of_ble_eq_true rfl) [(2, .int t9), (0, .ref (g.2.2.1 0)), (1, .int a1)] rfl ?_
    refine j_aload_n E dX11_weeps_43 1 rfl ?_
    refine j_getr E f_X11_7 (cM_0 hg) 1 rfl dX11_weeps_44 ?_
    refine j_bipush E (v := 32) dX11_weeps_47 (by decide) ?_
    refine j_iload_n E dX11_weeps_49 2 rfl ?_
    refine j_iadd E dX11_weeps_50 ?_
    refine j_ldcw E (v := 999999) k_X11_326 dX11_weeps_51 ?_
    refine j_aload_n E dX11_weeps_54 1 rfl ?_
    refine j_getr E f_X11_7 (cM_0 hg) 1 rfl dX11_weeps_55 ?_
    refine j_bipush E (v := 32) dX11_weeps_58 (by decide) ?_
    refine j_iload_n E dX11_weeps_60 2 rfl ?_
    refine j_iadd E dX11_weeps_61 ?_
    refine j_iald E (cM_1 hg) dX11_weeps_62 (fun t11 => ?_)
    refine j_iload_n E dX11_weeps_63 0 rfl ?_
    refine j_iadd E dX11_weeps_64 ?_
    refine j_callsI (As := [.int 999999, .int (t11 + t9)]) (st := [.int (32 + a1), .ref (g.2.2.1 1)]) E (ok_X11_min hg E.2.2.2.2.2.2.2.1 999999 (t11 + t9) h10) (cl_X11_286) (⟨Nat.le_of_ble_eq_true rfl, Nat.le_of_ble_eq_true rfl⟩) rfl rfl (Nat.le_of_ble_eq_true rfl) dX11_weeps_65 (fun t12 h13 => ?_)
    refine j_iast E (cM_1 hg) dX11_weeps_68 (fun h14 => ?_)
    refine j_aload_n E dX11_weeps_69 1 rfl ?_
    refine j_getr E f_X11_7 (cM_0 hg) 1 rfl dX11_weeps_70 ?_
    refine j_iconst E (v := 0) dX11_weeps_73 (by decide) ?_
    refine j_iload_n E dX11_weeps_74 2 rfl ?_
    refine j_iadd E dX11_weeps_75 ?_
    refine j_aload_n E dX11_weeps_76 1 rfl ?_
    refine j_getr E f_X11_7 (cM_0 hg) 1 rfl dX11_weeps_77 ?_
    refine j_iconst E (v := 0) dX11_weeps_80 (by decide) ?_
    refine j_iload_n E dX11_weeps_81 2 rfl ?_
    refine j_iadd E dX11_weeps_82 ?_
    refine j_iald E (cM_1 hg) dX11_weeps_83 (fun t15 => ?_)
    refine j_iload_n E dX11_weeps_84 0 rfl ?_
    refine j_isub E dX11_weeps_85 ?_
    refine j_iast E (cM_1 hg) dX11_weeps_86 (fun h16 => ?_)
    refine j_aload_n E dX11_weeps_87 1 rfl ?_
    refine j_aload_n E dX11_weeps_88 1 rfl ?_
    refine j_geti E f_X11_327 (cM_0 hg) rfl dX11_weeps_89 ?_
    refine j_iload_n E dX11_weeps_92 0 rfl ?_
    refine j_iadd E dX11_weeps_93 ?_
    refine j_puti E fp_X11_327 (cM_0 hg) rfl dX11_weeps_94 (fun h17 => ?_)
    exact j_vreturn E rfl dX11_weeps_97
  · exact j_vreturn E rfl dX11_weeps_14
theorem ok_X11_weeps {g : GC} (hg : isGM g) (hI : gI g) (N : Nat) (a1 : Int32) (h : HP) : Ok g yX11_weeps mX11_weeps [.ref (g.2.2.1 0), .int a1] h (xX11_weeps N a1 h) := Ok.of hI (by decide) rfl (Nat.le_of_ble_eq_true rfl) (fun X E => jxX11_weeps hg N E a1 h)
set_option maxRecDepth 20000 in
set_option maxHeartbeats 4000000 in
theorem jxX11_minuteGoes_21 {g : GC} (hg : isGM g) {X : MX} (N : Nat) (E : JE g mX11_minuteGoes X) (K2 : Int32 → HP → Option (Int32 × HP)) (hK2 : ∀ (a1 : Int32) (h : HP), J g mX11_minuteGoes X 2 [(0, .ref (g.2.2.1 0)), (1, .int a1)] [] h (K2 a1 h)) (a1 : Int32) (h : HP) : J g mX11_minuteGoes X 21 [(0, .ref (g.2.2.1 0)), (1, .int a1)] [] h (xX11_minuteGoes_21 N K2 a1 h) := by
  unfold xX11_minuteGoes_21
  refine j_iinc E (c := 1) dX11_minuteGoes_21 1 rfl (by decide) (Nat.le_of_ble_eq_true rfl) (fun v1 => [(1, .int v1), (0, .ref (g.2.2.1 0))]) (fun _ => rfl) (fun v1 => ?_)
  refine j_goto E 2 dX11_minuteGoes_24 rfl ?_
  exact j_sub [1, 0] (lv1 := [(0, .ref (g.2.2.1 0)), (1, .int v1)]) rfl (hK2 v1 h)
set_option maxRecDepth 20000 in
set_option maxHeartbeats 4000000 in
theorem jxX11_minuteGoes_50 {g : GC} (hg : isGM g) {X : MX} (N : Nat) (E : JE g mX11_minuteGoes X) (K29 : Int32 → HP → Option (Int32 × HP)) (hK29 : ∀ (a1 : Int32) (h : HP), J g mX11_minuteGoes X 29 [(0, .ref (g.2.2.1 0)), (1, .int a1)] [] h (K29 a1 h)) (a1 : Int32) (h : HP) : J g mX11_minuteGoes X 50 [(0, .ref (g.2.2.1 0)), (1, .int a1)] [] h (xX11_minuteGoes_50 N K29 a1 h) := by
  unfold xX11_minuteGoes_50
  refine j_iinc E (c := 1) dX11_minuteGoes_50 1 rfl (by decide) (Nat.le_of_ble_eq_true rfl) (fun v1 => [(1, .int v1), (0, .ref (g.2.2.1 0))]) (fun _ => rfl) (fun v1 => ?_)
  refine j_goto E 29 dX11_minuteGoes_53 rfl ?_
  exact j_sub [1, 0] (lv1 := [(0, .ref (g.2.2.1 0)), (1, .int v1)]) rfl (hK29 v1 h)
set_option maxRecDepth 20000 in
set_option maxHeartbeats 4000000 in
theorem jxX11_minuteGoes_89 {g : GC} (hg : isGM g) {X : MX} (N : Nat) (E : JE g mX11_minuteGoes X) (K58 : Int32 → HP → Option (Int32 × HP)) (hK58 : ∀ (a1 : Int32) (h : HP), J g mX11_minuteGoes X 58 [(0, .ref (g.2.2.1 0)), (1, .int a1)] [] h (K58 a1 h)) (a1 : Int32) (h : HP) : J g mX11_minuteGoes X 89 [(0, .ref (g.2.2.1 0)), (1, .int a1)] [] h (xX11_minuteGoes_89 N K58 a1 h) := by
  unfold xX11_minuteGoes_89
  refine j_iinc E (c := 1) dX11_minuteGoes_89 1 rfl (by decide) (Nat.le_of_ble_eq_true rfl) (fun v1 => [(1, .int v1), (0, .ref (g.2.2.1 0))]) (fun _ => rfl) (fun v1 => ?_)
  refine j_goto E 58 dX11_minuteGoes_92 rfl ?_
  exact j_sub [1, 0] (lv1 := [(0, .ref (g.2.2.1 0)), (1, .int v1)]) rfl (hK58 v1 h)
set_option maxRecDepth 20000 in
set_option maxHeartbeats 4000000 in
theorem jxX11_minuteGoes_58 {g : GC} (hg : isGM g) {X : MX} (N : Nat) (E : JE g mX11_minuteGoes X) : ∀ (n : Nat) (a1 : Int32) (h : HP), J g mX11_minuteGoes X 58 [(0, .ref (g.2.2.1 0)), (1, .int a1)] [] h (xX11_minuteGoes_58 N n a1 h) := by
  intro n
  induction n with
  | zero => intro a1 h; exact j_none
  | succ n ih =>
    intro a1 h
    unfold xX11_minuteGoes_58
    refine j_iload_n E dX11_minuteGoes_58 1 rfl ?_
    refine j_bipush E (v := 16) dX11_minuteGoes_59 (by decide) ?_
    refine j_cmp_ge E 95 dX11_minuteGoes_61 rfl ?_ ?_
    · refine j_aload_n E dX11_minuteGoes_95 0 rfl ?_
      refine j_getr E f_X11_7 (cM_0 hg) 1 rfl dX11_minuteGoes_96 ?_
      refine j_bipush E (v := 73) dX11_minuteGoes_99 (by decide) ?_
      refine j_aload_n E dX11_minuteGoes_101 0 rfl ?_
      refine j_getr E f_X11_7 (cM_0 hg) 1 rfl dX11_minuteGoes_102 ?_
      refine j_bipush E (v := 73) dX11_minuteGoes_105 (by decide) ?_
      refine j_iald E (cM_1 hg) dX11_minuteGoes_107 (fun t1 => ?_)
      refine j_iconst E (v := 1) dX11_minuteGoes_108 (by decide) ?_
      refine j_iadd E dX11_minuteGoes_109 ?_
      refine j_iast E (cM_1 hg) dX11_minuteGoes_110 (fun h2 => ?_)
      exact j_vreturn E rfl dX11_minuteGoes_111
    · refine j_aload_n E dX11_minuteGoes_64 0 rfl ?_
      refine j_iload_n E dX11_minuteGoes_65 1 rfl ?_
      refine j_callvI (As := [.int a1]) (st := []) E (ok_X11_isTold hg E.2.2.2.2.2.2.2.1 a1 h) (cM_0 hg) (cl_X11_141) (⟨Nat.le_of_ble_eq_true rfl, Nat.le_of_ble_eq_true rfl⟩) rfl rfl (Nat.le_of_ble_eq_true rfl) dX11_minuteGoes_66 (fun t3 h4 => ?_)
      refine j_if_eq E 89 dX11_minuteGoes_69 rfl ?_ ?_
      · exact jxX11_minuteGoes_89 hg N E (xX11_minuteGoes_58 N n) ih a1 h4
      · refine j_aload_n E dX11_minuteGoes_72 0 rfl ?_
        refine j_getr E f_X11_7 (cM_0 hg) 1 rfl dX11_minuteGoes_73 ?_
        refine j_bipush E (v := 16) dX11_minuteGoes_76 (by decide) ?_
        refine j_iload_n E dX11_minuteGoes_78 1 rfl ?_
        refine j_iadd E dX11_minuteGoes_79 ?_
        refine j_iald E (cM_1 hg) dX11_minuteGoes_80 (fun t5 => ?_)
        refine j_if_le E 89 dX11_minuteGoes_81 rfl ?_ ?_
        · exact jxX11_minuteGoes_89 hg N E (xX11_minuteGoes_58 N n) ih a1 h4
        · refine j_aload_n E dX11_minuteGoes_84 0 rfl ?_
          refine j_iload_n E dX11_minuteGoes_85 1 rfl ?_
          refine j_callvV (As := [.int a1]) (st := []) E (ok_X11_weeps hg E.2.2.2.2.2.2.2.1 N a1 h4) (cM_0 hg) (cl_X11_336) (⟨Nat.le_of_ble_eq_true rfl, Nat.le_of_ble_eq_true rfl⟩) rfl rfl (Nat.le_of_ble_eq_true rfl) dX11_minuteGoes_86 (fun t6 h7 => ?_)
          exact jxX11_minuteGoes_89 hg N E (xX11_minuteGoes_58 N n) ih a1 h7
set_option maxRecDepth 20000 in
set_option maxHeartbeats 4000000 in
theorem jxX11_minuteGoes_29 {g : GC} (hg : isGM g) {X : MX} (N : Nat) (E : JE g mX11_minuteGoes X) : ∀ (n : Nat) (a1 : Int32) (h : HP), J g mX11_minuteGoes X 29 [(0, .ref (g.2.2.1 0)), (1, .int a1)] [] h (xX11_minuteGoes_29 N n a1 h) := by
  intro n
  induction n with
  | zero => intro a1 h; exact j_none
  | succ n ih =>
    intro a1 h
    unfold xX11_minuteGoes_29
    refine j_iload_n E dX11_minuteGoes_29 1 rfl ?_
    refine j_aload_n E dX11_minuteGoes_30 0 rfl ?_
    refine j_geti E f_X11_145 (cM_0 hg) rfl dX11_minuteGoes_31 ?_
    refine j_cmp_ge E 56 dX11_minuteGoes_34 rfl ?_ ?_
    · refine j_iconst E (v := 0) dX11_minuteGoes_56 (by decide) ?_
      refine j_istore0_n E dX11_minuteGoes_57 (Nat.le_of_ble_eq_true rfl) [(1, .int 0), (0, .ref (g.2.2.1 0))] rfl ?_
      exact j_sub [1, 0] (lv1 := [(0, .ref (g.2.2.1 0)), (1, .int 0)]) rfl (jxX11_minuteGoes_58 hg N E N 0 h)
    · refine j_aload_n E dX11_minuteGoes_37 0 rfl ?_
      refine j_iload_n E dX11_minuteGoes_38 1 rfl ?_
      refine j_callvI (As := [.int a1]) (st := []) E (ok_X11_isOpen hg E.2.2.2.2.2.2.2.1 a1 h) (cM_0 hg) (cl_X11_148) (⟨Nat.le_of_ble_eq_true rfl, Nat.le_of_ble_eq_true rfl⟩) rfl rfl (Nat.le_of_ble_eq_true rfl) dX11_minuteGoes_39 (fun t1 h2 => ?_)
      refine j_if_eq E 50 dX11_minuteGoes_42 rfl ?_ ?_
      · exact jxX11_minuteGoes_50 hg N E (xX11_minuteGoes_29 N n) ih a1 h2
      · refine j_aload_n E dX11_minuteGoes_45 0 rfl ?_
        refine j_iload_n E dX11_minuteGoes_46 1 rfl ?_
        refine j_callvV (As := [.int a1]) (st := []) E (ok_X11_levels hg E.2.2.2.2.2.2.2.1 a1 h2) (cM_0 hg) (cl_X11_333) (⟨Nat.le_of_ble_eq_true rfl, Nat.le_of_ble_eq_true rfl⟩) rfl rfl (Nat.le_of_ble_eq_true rfl) dX11_minuteGoes_47 (fun t3 h4 => ?_)
        exact jxX11_minuteGoes_50 hg N E (xX11_minuteGoes_29 N n) ih a1 h4
set_option maxRecDepth 20000 in
set_option maxHeartbeats 4000000 in
theorem jxX11_minuteGoes_2 {g : GC} (hg : isGM g) {X : MX} (N : Nat) (E : JE g mX11_minuteGoes X) : ∀ (n : Nat) (a1 : Int32) (h : HP), J g mX11_minuteGoes X 2 [(0, .ref (g.2.2.1 0)), (1, .int a1)] [] h (xX11_minuteGoes_2 N n a1 h) := by
  intro n
  induction n with
  | zero => intro a1 h; exact j_none
  | succ n ih =>
    intro a1 h
    unfold xX11_minuteGoes_2
    refine j_iload_n E dX11_minuteGoes_2 1 rfl ?_
    refine j_bipush E (v := 16) dX11_minuteGoes_3 (by decide) ?_
    refine j_cmp_ge E 27 dX11_minuteGoes_5 rfl ?_ ?_
    · refine j_iconst E (v := 0) dX11_minuteGoes_27 (by decide) ?_
      refine j_istore0_n E dX11_minuteGoes_28 (Nat.le_of_ble_eq_true rfl) [(1, .int 0), (0, .ref (g.2.2.1 0))] rfl ?_
      exact j_sub [1, 0] (lv1 := [(0, .ref (g.2.2.1 0)), (1, .int 0)]) rfl (jxX11_minuteGoes_29 hg N E N 0 h)
    · refine j_aload_n E dX11_minuteGoes_8 0 rfl ?_
      refine j_iload_n E dX11_minuteGoes_9 1 rfl ?_
      refine j_callvI (As := [.int a1]) (st := []) E (ok_X11_isTold hg E.2.2.2.2.2.2.2.1 a1 h) (cM_0 hg) (cl_X11_141) (⟨Nat.le_of_ble_eq_true rfl, Nat.le_of_ble_eq_true rfl⟩) rfl rfl (Nat.le_of_ble_eq_true rfl) dX11_minuteGoes_10 (fun t1 h2 => ?_)
      refine j_if_eq E 21 dX11_minuteGoes_13 rfl ?_ ?_
      · exact jxX11_minuteGoes_21 hg N E (xX11_minuteGoes_2 N n) ih a1 h2
      · refine j_aload_n E dX11_minuteGoes_16 0 rfl ?_
        refine j_iload_n E dX11_minuteGoes_17 1 rfl ?_
        refine j_callvV (As := [.int a1]) (st := []) E (ok_X11_rises hg E.2.2.2.2.2.2.2.1 N a1 h2) (cM_0 hg) (cl_X11_330) (⟨Nat.le_of_ble_eq_true rfl, Nat.le_of_ble_eq_true rfl⟩) rfl rfl (Nat.le_of_ble_eq_true rfl) dX11_minuteGoes_18 (fun t3 h4 => ?_)
        exact jxX11_minuteGoes_21 hg N E (xX11_minuteGoes_2 N n) ih a1 h4
set_option maxRecDepth 20000 in
set_option maxHeartbeats 4000000 in
theorem jxX11_minuteGoes {g : GC} (hg : isGM g) {X : MX} (N : Nat) (E : JE g mX11_minuteGoes X) (h : HP) : J g mX11_minuteGoes X 0 [(0, .ref (g.2.2.1 0))] [] h (xX11_minuteGoes N h) := by
  unfold xX11_minuteGoes
  refine j_iconst E (v := 0) dX11_minuteGoes_0 (by decide) ?_
  refine j_istore0_n E dX11_minuteGoes_1 (Nat.le_of_ble_eq_true rfl) [(1, .int 0), (0, .ref (g.2.2.1 0))] rfl ?_
  exact j_sub [1, 0] (lv1 := [(0, .ref (g.2.2.1 0)), (1, .int 0)]) rfl (jxX11_minuteGoes_2 hg N E N 0 h)
theorem ok_X11_minuteGoes {g : GC} (hg : isGM g) (hI : gI g) (N : Nat) (h : HP) : Ok g yX11_minuteGoes mX11_minuteGoes [.ref (g.2.2.1 0)] h (xX11_minuteGoes N h) := Ok.of hI (by decide) rfl (Nat.le_of_ble_eq_true rfl) (fun X E => jxX11_minuteGoes hg N E h)
set_option maxRecDepth 20000 in
set_option maxHeartbeats 4000000 in
theorem jxX11_minutesGo_35 {g : GC} (hg : isGM g) {X : MX} (N : Nat) (E : JE g mX11_minutesGo X) (h : HP) : J g mX11_minutesGo X 35 [] [] h (xX11_minutesGo_35 N h) := by
  unfold xX11_minutesGo_35
  exact j_vreturn E rfl dX11_minutesGo_35
set_option maxRecDepth 20000 in
set_option maxHeartbeats 4000000 in
theorem jxX11_minutesGo_7 {g : GC} (hg : isGM g) {X : MX} (N : Nat) (E : JE g mX11_minutesGo X) : ∀ (n : Nat) (a1 : Int32) (a2 : Int32) (h : HP), J g mX11_minutesGo X 7 [(0, .ref (g.2.2.1 0)), (1, .int a1), (2, .int a2)] [] h (xX11_minutesGo_7 N n a1 a2 h) := by
  intro n
  induction n with
  | zero => intro a1 a2 h; exact j_none
  | succ n ih =>
    intro a1 a2 h
    unfold xX11_minutesGo_7
    refine j_iload_n E dX11_minutesGo_7 2 rfl ?_
    refine j_iload_n E dX11_minutesGo_8 1 rfl ?_
    refine j_cmp_ge E 35 dX11_minutesGo_9 rfl ?_ ?_
    · exact j_sub [] (lv1 := []) rfl (jxX11_minutesGo_35 hg N E h)
    · refine j_aload_n E dX11_minutesGo_12 0 rfl ?_
      refine j_getr E f_X11_7 (cM_0 hg) 1 rfl dX11_minutesGo_13 ?_
      refine j_bipush E (v := 73) dX11_minutesGo_16 (by decide) ?_
      refine j_iald E (cM_1 hg) dX11_minutesGo_18 (fun t1 => ?_)
      refine j_sipush E (v := 9999) dX11_minutesGo_19 (by decide) ?_
      refine j_cmp_ge E 35 dX11_minutesGo_22 rfl ?_ ?_
      · exact j_sub [] (lv1 := []) rfl (jxX11_minutesGo_35 hg N E h)
      · refine j_aload_n E dX11_minutesGo_25 0 rfl ?_
        refine j_callvV (As := []) (st := []) E (ok_X11_minuteGoes hg E.2.2.2.2.2.2.2.1 N h) (cM_0 hg) (cl_X11_339) (⟨Nat.le_of_ble_eq_true rfl, Nat.le_of_ble_eq_true rfl⟩) rfl rfl (Nat.le_of_ble_eq_true rfl) dX11_minutesGo_26 (fun t2 h3 => ?_)
        refine j_iinc E (c := 1) dX11_minutesGo_29 2 rfl (by decide) (Nat.le_of_ble_eq_true rfl) (fun v4 => [(2, .int v4), (0, .ref (g.2.2.1 0)), (1, .int a1)]) (fun _ => rfl) (fun v4 => ?_)
        refine j_goto E 7 dX11_minutesGo_32 rfl ?_
        exact j_sub [1, 2, 0] (lv1 := [(0, .ref (g.2.2.1 0)), (1, .int a1), (2, .int v4)]) rfl (ih a1 v4 h3)
set_option maxRecDepth 20000 in
set_option maxHeartbeats 4000000 in
theorem jxX11_minutesGo {g : GC} (hg : isGM g) {X : MX} (N : Nat) (E : JE g mX11_minutesGo X) (a1 : Int32) (h : HP) : J g mX11_minutesGo X 0 [(0, .ref (g.2.2.1 0)), (1, .int a1)] [] h (xX11_minutesGo N a1 h) := by
  unfold xX11_minutesGo
  refine j_aload_n E dX11_minutesGo_0 0 rfl ?_
  refine j_iconst E (v := 0) dX11_minutesGo_1 (by decide) ?_
  refine j_puti E fp_X11_327 (cM_0 hg) rfl dX11_minutesGo_2 (fun h1 => ?_)
  refine j_iconst E (v := 0) dX11_minutesGo_5 (by decide) ?_
  refine j_istore0_n E dX11_minutesGo_6 (Nat.le_of_ble_eq_true rfl) [(2, .int 0), (0, .ref (g.2.2.1 0)), (1, .int a1)] rfl ?_
  exact j_sub [1, 2, 0] (lv1 := [(0, .ref (g.2.2.1 0)), (1, .int a1), (2, .int 0)]) rfl (jxX11_minutesGo_7 hg N E N a1 0 h1)
theorem ok_X11_minutesGo {g : GC} (hg : isGM g) (hI : gI g) (N : Nat) (a1 : Int32) (h : HP) : Ok g yX11_minutesGo mX11_minutesGo [.ref (g.2.2.1 0), .int a1] h (xX11_minutesGo N a1 h) := Ok.of hI (by decide) rfl (Nat.le_of_ble_eq_true rfl) (fun X E => jxX11_minutesGo hg N E a1 h)
set_option maxRecDepth 20000 in
set_option maxHeartbeats 4000000 in
theorem jxX11_minutes {g : GC} (hg : isGM g) {X : MX} (N : Nat) (E : JE g mX11_minutes X) (a1 : Int32) (h : HP) : J g mX11_minutes X 0 [(0, .ref (g.2.2.1 0)), (1, .int a1)] [] h (xX11_minutes N a1 h) := by
  unfold xX11_minutes
  refine j_iload_n E dX11_minutes_0 1 rfl ?_
  refine j_iconst E (v := 1) dX11_minutes_1 (by decide) ?_
  refine j_bipush E (v := 100) dX11_minutes_2 (by decide) ?_
  refine j_callsI (As := [.int a1, .int 1, .int 100]) (st := []) E (ok_X11_in hg E.2.2.2.2.2.2.2.1 a1 1 100 h) (cl_X11_129) (⟨Nat.le_of_ble_eq_true rfl, Nat.le_of_ble_eq_true rfl⟩) rfl rfl (Nat.le_of_ble_eq_true rfl) dX11_minutes_4 (fun t1 h2 => ?_)
  refine j_if_ne E 12 dX11_minutes_7 rfl ?_ ?_
  · refine j_aload_n E dX11_minutes_12 0 rfl ?_
    refine j_iload_n E dX11_minutes_13 1 rfl ?_
    refine j_callvV (As := [.int a1]) (st := []) E (ok_X11_minutesGo hg E.2.2.2.2.2.2.2.1 N a1 h2) (cM_0 hg) (cl_X11_342) (⟨Nat.le_of_ble_eq_true rfl, Nat.le_of_ble_eq_true rfl⟩) rfl rfl (Nat.le_of_ble_eq_true rfl) dX11_minutes_14 (fun t3 h4 => ?_)
    refine j_aload_n E dX11_minutes_17 0 rfl ?_
    refine j_geti E f_X11_327 (cM_0 hg) rfl dX11_minutes_18 ?_
    exact j_ireturn E rfl dX11_minutes_21
  · refine j_iconst E (v := (-1)) dX11_minutes_10 (by decide) ?_
    exact j_ireturn E rfl dX11_minutes_11
theorem ok_X11_minutes {g : GC} (hg : isGM g) (hI : gI g) (N : Nat) (a1 : Int32) (h : HP) : Ok g yX11_minutes mX11_minutes [.ref (g.2.2.1 0), .int a1] h (xX11_minutes N a1 h) := Ok.of hI (by decide) rfl (Nat.le_of_ble_eq_true rfl) (fun X E => jxX11_minutes hg N E a1 h)
set_option maxRecDepth 20000 in
set_option maxHeartbeats 4000000 in
theorem jxX11_sumOf_29 {g : GC} (hg : isGM g) {X : MX} (N : Nat) (E : JE g mX11_sumOf X) (K4 : Int32 → Int32 → Int32 → HP → Option (Int32 × HP)) (hK4 : ∀ (a1 : Int32) (a2 : Int32) (a3 : Int32) (h : HP), J g mX11_sumOf X 4 [(0, .ref (g.2.2.1 0)), (1, .int a1), (2, .int a2), (3, .int a3)] [] h (K4 a1 a2 a3 h)) (a1 : Int32) (a2 : Int32) (a3 : Int32) (h : HP) : J g mX11_sumOf X 29 [(0, .ref (g.2.2.1 0)), (1, .int a1), (2, .int a2), (3, .int a3)] [] h (xX11_sumOf_29 N K4 a1 a2 a3 h) := by
  unfold xX11_sumOf_29
  refine j_iinc E (c := 1) dX11_sumOf_29 3 rfl (by decide) (Nat.le_of_ble_eq_true rfl) (fun v1 => [(3, .int v1), (0, .ref (g.2.2.1 0)), (1, .int a1), (2, .int a2)]) (fun _ => rfl) (fun v1 => ?_)
  refine j_goto E 4 dX11_sumOf_32 rfl ?_
  exact j_sub [1, 2, 3, 0] (lv1 := [(0, .ref (g.2.2.1 0)), (1, .int a1), (2, .int a2), (3, .int v1)]) rfl (hK4 a1 a2 v1 h)
set_option maxRecDepth 20000 in
set_option maxHeartbeats 4000000 in
theorem jxX11_sumOf_4 {g : GC} (hg : isGM g) {X : MX} (N : Nat) (E : JE g mX11_sumOf X) : ∀ (n : Nat) (a1 : Int32) (a2 : Int32) (a3 : Int32) (h : HP), J g mX11_sumOf X 4 [(0, .ref (g.2.2.1 0)), (1, .int a1), (2, .int a2), (3, .int a3)] [] h (xX11_sumOf_4 N n a1 a2 a3 h) := by
  intro n
  induction n with
  | zero => intro a1 a2 a3 h; exact j_none
  | succ n ih =>
    intro a1 a2 a3 h
    unfold xX11_sumOf_4
    refine j_iload_n E dX11_sumOf_4 3 rfl ?_
    refine j_bipush E (v := 16) dX11_sumOf_5 (by decide) ?_
    refine j_cmp_ge E 35 dX11_sumOf_7 rfl ?_ ?_
    · refine j_iload_n E dX11_sumOf_35 2 rfl ?_
      exact j_ireturn E rfl dX11_sumOf_36
    · refine j_aload_n E dX11_sumOf_10 0 rfl ?_
      refine j_iload_n E dX11_sumOf_11 3 rfl ?_
      refine j_callvI (As := [.int a3]) (st := []) E (ok_X11_isTold hg E.2.2.2.2.2.2.2.1 a3 h) (cM_0 hg) (cl_X11_141) (⟨Nat.le_of_ble_eq_true rfl, Nat.le_of_ble_eq_true rfl⟩) rfl rfl (Nat.le_of_ble_eq_true rfl) dX11_sumOf_12 (fun t1 h2 => ?_)
      refine j_if_eq E 29 dX11_sumOf_15 rfl ?_ ?_
      · exact jxX11_sumOf_29 hg N E (xX11_sumOf_4 N n) ih a1 a2 a3 h2
      · refine j_iload_n E dX11_sumOf_18 2 rfl ?_
        refine j_aload_n E dX11_sumOf_19 0 rfl ?_
        refine j_getr E f_X11_7 (cM_0 hg) 1 rfl dX11_sumOf_20 ?_
        refine j_iload_n E dX11_sumOf_23 1 rfl ?_
        refine j_iload_n E dX11_sumOf_24 3 rfl ?_
        refine j_iadd E dX11_sumOf_25 ?_
        refine j_iald E (cM_1 hg) dX11_sumOf_26 (fun t3 => ?_)
        refine j_iadd E dX11_sumOf_27 ?_
        refine j_istore_n E dX11_sumOf_28 (Nat.le_of_ble_eq_true rfl) (fun v4 => [(2, .int v4), (0, .ref (g.2.2.1 0)), (1, .int a1), (3, .int a3)]) (fun _ => rfl) (fun v4 => ?_)
        exact j_sub [1, 2, 0, 3] (lv1 := [(0, .ref (g.2.2.1 0)), (1, .int a1), (2, .int v4), (3, .int a3)]) rfl (jxX11_sumOf_29 hg N E (xX11_sumOf_4 N n) ih a1 v4 a3 h2)
set_option maxRecDepth 20000 in
set_option maxHeartbeats 4000000 in
theorem jxX11_sumOf {g : GC} (hg : isGM g) {X : MX} (N : Nat) (E : JE g mX11_sumOf X) (a1 : Int32) (h : HP) : J g mX11_sumOf X 0 [(0, .ref (g.2.2.1 0)), (1, .int a1)] [] h (xX11_sumOf N a1 h) := by
  unfold xX11_sumOf
  refine j_iconst E (v := 0) dX11_sumOf_0 (by decide) ?_
  refine j_istore0_n E dX11_sumOf_1 (Nat.le_of_ble_eq_true rfl) [(2, .int 0), (0, .ref (g.2.2.1 0)), (1, .int a1)] rfl ?_
  refine j_iconst E (v := 0) dX11_sumOf_2 (by decide) ?_
  refine j_istore0_n E dX11_sumOf_3 (Nat.le_of_ble_eq_true rfl) [(3, .int 0), (2, .int 0), (0, .ref (g.2.2.1 0)), (1, .int a1)] rfl ?_
  exact j_sub [2, 3, 1, 0] (lv1 := [(0, .ref (g.2.2.1 0)), (1, .int a1), (2, .int 0), (3, .int 0)]) rfl (jxX11_sumOf_4 hg N E N a1 0 0 h)
theorem ok_X11_sumOf {g : GC} (hg : isGM g) (hI : gI g) (N : Nat) (a1 : Int32) (h : HP) : Ok g yX11_sumOf mX11_sumOf [.ref (g.2.2.1 0), .int a1] h (xX11_sumOf N a1 h) := Ok.of hI (by decide) rfl (Nat.le_of_ble_eq_true rfl) (fun X E => jxX11_sumOf hg N E a1 h)
