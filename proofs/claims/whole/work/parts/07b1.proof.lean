set_option maxRecDepth 20000 in
set_option maxHeartbeats 4000000 in
theorem jxX11_in_15 {g : GC} (hg : isGM g) {X : MX} (E : JE g mX11_in X) (s0 : Int32) (h : HP) : J g mX11_in X 15 [] [.int s0] h (xX11_in_15 s0 h) := by
  unfold xX11_in_15
  exact j_zreturn E rfl dX11_in_15
set_option maxRecDepth 20000 in
set_option maxHeartbeats 4000000 in
theorem jxX11_in_14 {g : GC} (hg : isGM g) {X : MX} (E : JE g mX11_in X) (h : HP) : J g mX11_in X 14 [] [] h (xX11_in_14 h) := by
  unfold xX11_in_14
  refine j_iconst E (v := 0) dX11_in_14 (by decide) ?_
  exact jxX11_in_15 hg E 0 h
set_option maxRecDepth 20000 in
set_option maxHeartbeats 4000000 in
theorem jxX11_in {g : GC} (hg : isGM g) {X : MX} (E : JE g mX11_in X) (a0 : Int32) (a1 : Int32) (a2 : Int32) (h : HP) : J g mX11_in X 0 [(0, .int a0), (1, .int a1), (2, .int a2)] [] h (xX11_in a0 a1 a2 h) := by
  unfold xX11_in
  refine j_iload_n E dX11_in_0 0 rfl ?_
  refine j_iload_n E dX11_in_1 1 rfl ?_
  refine j_cmp_lt E 14 dX11_in_2 rfl ?_ ?_
  · exact j_sub [] (lv1 := []) rfl (jxX11_in_14 hg E h)
  · refine j_iload_n E dX11_in_5 0 rfl ?_
    refine j_iload_n E dX11_in_6 2 rfl ?_
    refine j_cmp_gt E 14 dX11_in_7 rfl ?_ ?_
    · exact j_sub [] (lv1 := []) rfl (jxX11_in_14 hg E h)
    · refine j_iconst E (v := 1) dX11_in_10 (by decide) ?_
      refine j_goto E 15 dX11_in_11 rfl ?_
      exact j_sub [] (lv1 := []) rfl (jxX11_in_15 hg E 1 h)
theorem ok_X11_in {g : GC} (hg : isGM g) (hI : gI g) (a0 : Int32) (a1 : Int32) (a2 : Int32) (h : HP) : Ok g yX11_in mX11_in [.int a0, .int a1, .int a2] h (xX11_in a0 a1 a2 h) := Ok.of hI (by decide) rfl (Nat.le_of_ble_eq_true rfl) (fun X E => jxX11_in hg E a0 a1 a2 h)
set_option maxRecDepth 20000 in
set_option maxHeartbeats 4000000 in
theorem jxX11_min_10 {g : GC} (hg : isGM g) {X : MX} (E : JE g mX11_min X) (s0 : Int32) (h : HP) : J g mX11_min X 10 [] [.int s0] h (xX11_min_10 s0 h) := by
  unfold xX11_min_10
  exact j_ireturn E rfl dX11_min_10
set_option maxRecDepth 20000 in
set_option maxHeartbeats 4000000 in
theorem jxX11_min {g : GC} (hg : isGM g) {X : MX} (E : JE g mX11_min X) (a0 : Int32) (a1 : Int32) (h : HP) : J g mX11_min X 0 [(0, .int a0), (1, .int a1)] [] h (xX11_min a0 a1 h) := by
  unfold xX11_min
  refine j_iload_n E dX11_min_0 0 rfl ?_
  refine j_iload_n E dX11_min_1 1 rfl ?_
  refine j_cmp_ge E 9 dX11_min_2 rfl ?_ ?_
  · refine j_iload_n E dX11_min_9 1 rfl ?_
    exact j_sub [] (lv1 := []) rfl (jxX11_min_10 hg E a1 h)
  · refine j_iload_n E dX11_min_5 0 rfl ?_
    refine j_goto E 10 dX11_min_6 rfl ?_
    exact j_sub [] (lv1 := []) rfl (jxX11_min_10 hg E a0 h)
theorem ok_X11_min {g : GC} (hg : isGM g) (hI : gI g) (a0 : Int32) (a1 : Int32) (h : HP) : Ok g yX11_min mX11_min [.int a0, .int a1] h (xX11_min a0 a1 h) := Ok.of hI (by decide) rfl (Nat.le_of_ble_eq_true rfl) (fun X E => jxX11_min hg E a0 a1 h)
set_option maxRecDepth 20000 in
set_option maxHeartbeats 4000000 in
theorem jxX11_max_10 {g : GC} (hg : isGM g) {X : MX} (E : JE g mX11_max X) (s0 : Int32) (h : HP) : J g mX11_max X 10 [] [.int s0] h (xX11_max_10 s0 h) := by
  unfold xX11_max_10
  exact j_ireturn E rfl dX11_max_10
set_option maxRecDepth 20000 in
set_option maxHeartbeats 4000000 in
theorem jxX11_max {g : GC} (hg : isGM g) {X : MX} (E : JE g mX11_max X) (a0 : Int32) (a1 : Int32) (h : HP) : J g mX11_max X 0 [(0, .int a0), (1, .int a1)] [] h (xX11_max a0 a1 h) := by
  unfold xX11_max
  refine j_iload_n E dX11_max_0 0 rfl ?_
  refine j_iload_n E dX11_max_1 1 rfl ?_
  refine j_cmp_le E 9 dX11_max_2 rfl ?_ ?_
  · refine j_iload_n E dX11_max_9 1 rfl ?_
    exact j_sub [] (lv1 := []) rfl (jxX11_max_10 hg E a1 h)
  · refine j_iload_n E dX11_max_5 0 rfl ?_
    refine j_goto E 10 dX11_max_6 rfl ?_
    exact j_sub [] (lv1 := []) rfl (jxX11_max_10 hg E a0 h)
theorem ok_X11_max {g : GC} (hg : isGM g) (hI : gI g) (a0 : Int32) (a1 : Int32) (h : HP) : Ok g yX11_max mX11_max [.int a0, .int a1] h (xX11_max a0 a1 h) := Ok.of hI (by decide) rfl (Nat.le_of_ble_eq_true rfl) (fun X E => jxX11_max hg E a0 a1 h)
set_option maxRecDepth 20000 in
set_option maxHeartbeats 4000000 in
theorem jxX11_has_14 {g : GC} (hg : isGM g) {X : MX} (E : JE g mX11_has X) (s0 : Int32) (h : HP) : J g mX11_has X 14 [] [.int s0] h (xX11_has_14 s0 h) := by
  unfold xX11_has_14
  exact j_zreturn E rfl dX11_has_14
set_option maxRecDepth 20000 in
set_option maxHeartbeats 4000000 in
theorem jxX11_has {g : GC} (hg : isGM g) {X : MX} (E : JE g mX11_has X) (a0 : Int32) (a1 : Int32) (h : HP) : J g mX11_has X 0 [(0, .int a0), (1, .int a1)] [] h (xX11_has a0 a1 h) := by
  unfold xX11_has
  refine j_iload_n E dX11_has_0 0 rfl ?_
  refine j_iload_n E dX11_has_1 1 rfl ?_
  refine j_ishr E dX11_has_2 ?_
  refine j_iconst E (v := 1) dX11_has_3 (by decide) ?_
  refine j_iand E dX11_has_4 ?_
  refine j_iconst E (v := 1) dX11_has_5 (by decide) ?_
  refine j_cmp_ne E 13 dX11_has_6 rfl ?_ ?_
  · refine j_iconst E (v := 0) dX11_has_13 (by decide) ?_
    exact j_sub [] (lv1 := []) rfl (jxX11_has_14 hg E 0 h)
  · refine j_iconst E (v := 1) dX11_has_9 (by decide) ?_
    refine j_goto E 14 dX11_has_10 rfl ?_
    exact j_sub [] (lv1 := []) rfl (jxX11_has_14 hg E 1 h)
theorem ok_X11_has {g : GC} (hg : isGM g) (hI : gI g) (a0 : Int32) (a1 : Int32) (h : HP) : Ok g yX11_has mX11_has [.int a0, .int a1] h (xX11_has a0 a1 h) := Ok.of hI (by decide) rfl (Nat.le_of_ble_eq_true rfl) (fun X E => jxX11_has hg E a0 a1 h)
set_option maxRecDepth 20000 in
set_option maxHeartbeats 4000000 in
theorem jxX11_bits_4 {g : GC} (hg : isGM g) {X : MX} (N : Nat) (E : JE g mX11_bits X) : ∀ (n : Nat) (a0 : Int32) (a1 : Int32) (a2 : Int32) (h : HP), J g mX11_bits X 4 [(0, .int a0), (1, .int a1), (2, .int a2)] [] h (xX11_bits_4 N n a0 a1 a2 h) := by
  intro n
  induction n with
  | zero => intro a0 a1 a2 h; exact j_none
  | succ n ih =>
    intro a0 a1 a2 h
    unfold xX11_bits_4
    refine j_iload_n E dX11_bits_4 2 rfl ?_
    refine j_bipush E (v := 16) dX11_bits_5 (by decide) ?_
    refine j_cmp_ge E 24 dX11_bits_7 rfl ?_ ?_
    · refine j_iload_n E dX11_bits_24 1 rfl ?_
      exact j_ireturn E rfl dX11_bits_25
    · refine j_iload_n E dX11_bits_10 1 rfl ?_
      refine j_iload_n E dX11_bits_11 0 rfl ?_
      refine j_iload_n E dX11_bits_12 2 rfl ?_
      refine j_ishr E dX11_bits_13 ?_
      refine j_iconst E (v := 1) dX11_bits_14 (by decide) ?_
      refine j_iand E dX11_bits_15 ?_
      refine j_iadd E dX11_bits_16 ?_
      refine j_istore_n E dX11_bits_17 (Nat.le_of_ble_eq_true rfl) (fun v1 => [(1, .int v1), (0, .int a0), (2, .int a2)]) (fun _ => rfl) (fun v1 => ?_)
      refine j_iinc E (c := 1) dX11_bits_18 2 rfl (by decide) (Nat.le_of_ble_eq_true rfl) (fun v2 => [(2, .int v2), (1, .int v1), (0, .int a0)]) (fun _ => rfl) (fun v2 => ?_)
      refine j_goto E 4 dX11_bits_21 rfl ?_
      exact j_sub [2, 1, 0] (lv1 := [(0, .int a0), (1, .int v1), (2, .int v2)]) rfl (ih a0 v1 v2 h)
set_option maxRecDepth 20000 in
set_option maxHeartbeats 4000000 in
theorem jxX11_bits {g : GC} (hg : isGM g) {X : MX} (N : Nat) (E : JE g mX11_bits X) (a0 : Int32) (h : HP) : J g mX11_bits X 0 [(0, .int a0)] [] h (xX11_bits N a0 h) := by
  unfold xX11_bits
  refine j_iconst E (v := 0) dX11_bits_0 (by decide) ?_
  refine j_istore0_n E dX11_bits_1 (Nat.le_of_ble_eq_true rfl) [(1, .int 0), (0, .int a0)] rfl ?_
  refine j_iconst E (v := 0) dX11_bits_2 (by decide) ?_
  refine j_istore0_n E dX11_bits_3 (Nat.le_of_ble_eq_true rfl) [(2, .int 0), (1, .int 0), (0, .int a0)] rfl ?_
  exact j_sub [2, 1, 0] (lv1 := [(0, .int a0), (1, .int 0), (2, .int 0)]) rfl (jxX11_bits_4 hg N E N a0 0 0 h)
theorem ok_X11_bits {g : GC} (hg : isGM g) (hI : gI g) (N : Nat) (a0 : Int32) (h : HP) : Ok g yX11_bits mX11_bits [.int a0] h (xX11_bits N a0 h) := Ok.of hI (by decide) rfl (Nat.le_of_ble_eq_true rfl) (fun X E => jxX11_bits hg N E a0 h)
set_option maxRecDepth 20000 in
set_option maxHeartbeats 4000000 in
theorem jxX11_copies_2 {g : GC} (hg : isGM g) {X : MX} (N : Nat) (ka : Nat) (kb : Nat) (E : JE g mX11_copies X) (hka : cellIs g ka (.inl (0, 75))) (hkb : cellIs g kb (.inl (0, 75))) : ∀ (n : Nat) (a2 : Int32) (h : HP), J g mX11_copies X 2 [(0, .ref (g.2.2.1 ka)), (1, .ref (g.2.2.1 kb)), (2, .int a2)] [] h (xX11_copies_2 N ka kb n a2 h) := by
  intro n
  induction n with
  | zero => intro a2 h; exact j_none
  | succ n ih =>
    intro a2 h
    unfold xX11_copies_2
    refine j_iload_n E dX11_copies_2 2 rfl ?_
    refine j_bipush E (v := 75) dX11_copies_3 (by decide) ?_
    refine j_cmp_ge E 20 dX11_copies_5 rfl ?_ ?_
    · exact j_vreturn E rfl dX11_copies_20
    · refine j_aload_n E dX11_copies_8 1 rfl ?_
      refine j_iload_n E dX11_copies_9 2 rfl ?_
      refine j_aload_n E dX11_copies_10 0 rfl ?_
      refine j_iload_n E dX11_copies_11 2 rfl ?_
      refine j_iald E hka dX11_copies_12 (fun t1 => ?_)
      refine j_iast E hkb dX11_copies_13 (fun h2 => ?_)
      refine j_iinc E (c := 1) dX11_copies_14 2 rfl (by decide) (Nat.le_of_ble_eq_true rfl) (fun v3 => [(2, .int v3), (0, .ref (g.2.2.1 ka)), (1, .ref (g.2.2.1 kb))]) (fun _ => rfl) (fun v3 => ?_)
      refine j_goto E 2 dX11_copies_17 rfl ?_
      exact j_sub [1, 2, 0] (lv1 := [(0, .ref (g.2.2.1 ka)), (1, .ref (g.2.2.1 kb)), (2, .int v3)]) rfl (ih v3 h2)
set_option maxRecDepth 20000 in
set_option maxHeartbeats 4000000 in
theorem jxX11_copies {g : GC} (hg : isGM g) {X : MX} (N : Nat) (ka : Nat) (kb : Nat) (E : JE g mX11_copies X) (hka : cellIs g ka (.inl (0, 75))) (hkb : cellIs g kb (.inl (0, 75))) (h : HP) : J g mX11_copies X 0 [(0, .ref (g.2.2.1 ka)), (1, .ref (g.2.2.1 kb))] [] h (xX11_copies N ka kb h) := by
  unfold xX11_copies
  refine j_iconst E (v := 0) dX11_copies_0 (by decide) ?_
  refine j_istore0_n E dX11_copies_1 (Nat.le_of_ble_eq_true rfl) [(2, .int 0), (0, .ref (g.2.2.1 ka)), (1, .ref (g.2.2.1 kb))] rfl ?_
  exact j_sub [1, 2, 0] (lv1 := [(0, .ref (g.2.2.1 ka)), (1, .ref (g.2.2.1 kb)), (2, .int 0)]) rfl (jxX11_copies_2 hg N ka kb E hka hkb N 0 h)
theorem ok_X11_copies {g : GC} (hg : isGM g) (hI : gI g) (N : Nat) (ka : Nat) (kb : Nat) (hka : cellIs g ka (.inl (0, 75))) (hkb : cellIs g kb (.inl (0, 75))) (h : HP) : Ok g yX11_copies mX11_copies [.ref (g.2.2.1 ka), .ref (g.2.2.1 kb)] h (xX11_copies N ka kb h) := Ok.of hI (by decide) rfl (Nat.le_of_ble_eq_true rfl) (fun X E => jxX11_copies hg N ka kb E hka hkb h)
set_option maxRecDepth 20000 in
set_option maxHeartbeats 4000000 in
theorem jxX11_isTold_26 {g : GC} (hg : isGM g) {X : MX} (E : JE g mX11_isTold X) (s0 : Int32) (h : HP) : J g mX11_isTold X 26 [] [.int s0] h (xX11_isTold_26 s0 h) := by
  unfold xX11_isTold_26
  exact j_zreturn E rfl dX11_isTold_26
set_option maxRecDepth 20000 in
set_option maxHeartbeats 4000000 in
theorem jxX11_isTold_25 {g : GC} (hg : isGM g) {X : MX} (E : JE g mX11_isTold X) (h : HP) : J g mX11_isTold X 25 [] [] h (xX11_isTold_25 h) := by
  unfold xX11_isTold_25
  refine j_iconst E (v := 0) dX11_isTold_25 (by decide) ?_
  exact jxX11_isTold_26 hg E 0 h
set_option maxRecDepth 20000 in
set_option maxHeartbeats 4000000 in
theorem jxX11_isTold {g : GC} (hg : isGM g) {X : MX} (E : JE g mX11_isTold X) (a1 : Int32) (h : HP) : J g mX11_isTold X 0 [(0, .ref (g.2.2.1 0)), (1, .int a1)] [] h (xX11_isTold a1 h) := by
  unfold xX11_isTold
  refine j_iload_n E dX11_isTold_0 1 rfl ?_
  refine j_iconst E (v := 0) dX11_isTold_1 (by decide) ?_
  refine j_bipush E (v := 15) dX11_isTold_2 (by decide) ?_
  refine j_callsI (As := [.int a1, .int 0, .int 15]) (st := []) E (ok_X11_in hg E.2.2.2.2.2.2.2.1 a1 0 15 h) (cl_X11_129) (⟨Nat.le_of_ble_eq_true rfl, Nat.le_of_ble_eq_true rfl⟩) rfl rfl (Nat.le_of_ble_eq_true rfl) dX11_isTold_4 (fun t1 h2 => ?_)
  refine j_if_eq E 25 dX11_isTold_7 rfl ?_ ?_
  · exact j_sub [] (lv1 := []) rfl (jxX11_isTold_25 hg E h2)
  · refine j_aload_n E dX11_isTold_10 0 rfl ?_
    refine j_geti E f_X11_133 (cM_0 hg) rfl dX11_isTold_11 ?_
    refine j_iload_n E dX11_isTold_14 1 rfl ?_
    refine j_callsI (As := [.int (h2.1 0 7), .int a1]) (st := []) E (ok_X11_has hg E.2.2.2.2.2.2.2.1 (h2.1 0 7) a1 h2) (cl_X11_137) (⟨Nat.le_of_ble_eq_true rfl, Nat.le_of_ble_eq_true rfl⟩) rfl rfl (Nat.le_of_ble_eq_true rfl) dX11_isTold_15 (fun t3 h4 => ?_)
    refine j_if_eq E 25 dX11_isTold_18 rfl ?_ ?_
    · exact j_sub [] (lv1 := []) rfl (jxX11_isTold_25 hg E h4)
    · refine j_iconst E (v := 1) dX11_isTold_21 (by decide) ?_
      refine j_goto E 26 dX11_isTold_22 rfl ?_
      exact j_sub [] (lv1 := []) rfl (jxX11_isTold_26 hg E 1 h4)
theorem ok_X11_isTold {g : GC} (hg : isGM g) (hI : gI g) (a1 : Int32) (h : HP) : Ok g yX11_isTold mX11_isTold [.ref (g.2.2.1 0), .int a1] h (xX11_isTold a1 h) := Ok.of hI (by decide) rfl (Nat.le_of_ble_eq_true rfl) (fun X E => jxX11_isTold hg E a1 h)
set_option maxRecDepth 20000 in
set_option maxHeartbeats 4000000 in
theorem jxX11_areTwo_26 {g : GC} (hg : isGM g) {X : MX} (E : JE g mX11_areTwo X) (s0 : Int32) (h : HP) : J g mX11_areTwo X 26 [] [.int s0] h (xX11_areTwo_26 s0 h) := by
  unfold xX11_areTwo_26
  exact j_zreturn E rfl dX11_areTwo_26
set_option maxRecDepth 20000 in
set_option maxHeartbeats 4000000 in
theorem jxX11_areTwo_25 {g : GC} (hg : isGM g) {X : MX} (E : JE g mX11_areTwo X) (h : HP) : J g mX11_areTwo X 25 [] [] h (xX11_areTwo_25 h) := by
  unfold xX11_areTwo_25
  refine j_iconst E (v := 0) dX11_areTwo_25 (by decide) ?_
  exact jxX11_areTwo_26 hg E 0 h
set_option maxRecDepth 20000 in
set_option maxHeartbeats 4000000 in
theorem jxX11_areTwo {g : GC} (hg : isGM g) {X : MX} (E : JE g mX11_areTwo X) (a1 : Int32) (a2 : Int32) (h : HP) : J g mX11_areTwo X 0 [(0, .ref (g.2.2.1 0)), (1, .int a1), (2, .int a2)] [] h (xX11_areTwo a1 a2 h) := by
  unfold xX11_areTwo
  refine j_aload_n E dX11_areTwo_0 0 rfl ?_
  refine j_iload_n E dX11_areTwo_1 1 rfl ?_
  refine j_callvI (As := [.int a1]) (st := []) E (ok_X11_isTold hg E.2.2.2.2.2.2.2.1 a1 h) (cM_0 hg) (cl_X11_141) (⟨Nat.le_of_ble_eq_true rfl, Nat.le_of_ble_eq_true rfl⟩) rfl rfl (Nat.le_of_ble_eq_true rfl) dX11_areTwo_2 (fun t1 h2 => ?_)
  refine j_if_eq E 25 dX11_areTwo_5 rfl ?_ ?_
  · exact j_sub [] (lv1 := []) rfl (jxX11_areTwo_25 hg E h2)
  · refine j_aload_n E dX11_areTwo_8 0 rfl ?_
    refine j_iload_n E dX11_areTwo_9 2 rfl ?_
    refine j_callvI (As := [.int a2]) (st := []) E (ok_X11_isTold hg E.2.2.2.2.2.2.2.1 a2 h2) (cM_0 hg) (cl_X11_141) (⟨Nat.le_of_ble_eq_true rfl, Nat.le_of_ble_eq_true rfl⟩) rfl rfl (Nat.le_of_ble_eq_true rfl) dX11_areTwo_10 (fun t3 h4 => ?_)
    refine j_if_eq E 25 dX11_areTwo_13 rfl ?_ ?_
    · exact j_sub [] (lv1 := []) rfl (jxX11_areTwo_25 hg E h4)
    · refine j_iload_n E dX11_areTwo_16 1 rfl ?_
      refine j_iload_n E dX11_areTwo_17 2 rfl ?_
      refine j_cmp_eq E 25 dX11_areTwo_18 rfl ?_ ?_
      · exact j_sub [] (lv1 := []) rfl (jxX11_areTwo_25 hg E h4)
      · refine j_iconst E (v := 1) dX11_areTwo_21 (by decide) ?_
        refine j_goto E 26 dX11_areTwo_22 rfl ?_
        exact j_sub [] (lv1 := []) rfl (jxX11_areTwo_26 hg E 1 h4)
theorem ok_X11_areTwo {g : GC} (hg : isGM g) (hI : gI g) (a1 : Int32) (a2 : Int32) (h : HP) : Ok g yX11_areTwo mX11_areTwo [.ref (g.2.2.1 0), .int a1, .int a2] h (xX11_areTwo a1 a2 h) := Ok.of hI (by decide) rfl (Nat.le_of_ble_eq_true rfl) (fun X E => jxX11_areTwo hg E a1 a2 h)
set_option maxRecDepth 20000 in
set_option maxHeartbeats 4000000 in
theorem jxX11_isOpen_32 {g : GC} (hg : isGM g) {X : MX} (E : JE g mX11_isOpen X) (s0 : Int32) (h : HP) : J g mX11_isOpen X 32 [] [.int s0] h (xX11_isOpen_32 s0 h) := by
  unfold xX11_isOpen_32
  exact j_zreturn E rfl dX11_isOpen_32
set_option maxRecDepth 20000 in
set_option maxHeartbeats 4000000 in
theorem jxX11_isOpen_31 {g : GC} (hg : isGM g) {X : MX} (E : JE g mX11_isOpen X) (h : HP) : J g mX11_isOpen X 31 [] [] h (xX11_isOpen_31 h) := by
  unfold xX11_isOpen_31
  refine j_iconst E (v := 0) dX11_isOpen_31 (by decide) ?_
  exact jxX11_isOpen_32 hg E 0 h
set_option maxRecDepth 20000 in
set_option maxHeartbeats 4000000 in
theorem jxX11_isOpen {g : GC} (hg : isGM g) {X : MX} (E : JE g mX11_isOpen X) (a1 : Int32) (h : HP) : J g mX11_isOpen X 0 [(0, .ref (g.2.2.1 0)), (1, .int a1)] [] h (xX11_isOpen a1 h) := by
  unfold xX11_isOpen
  refine j_iload_n E dX11_isOpen_0 1 rfl ?_
  refine j_iconst E (v := 0) dX11_isOpen_1 (by decide) ?_
  refine j_aload_n E dX11_isOpen_2 0 rfl ?_
  refine j_geti E f_X11_145 (cM_0 hg) rfl dX11_isOpen_3 ?_
  refine j_iconst E (v := 1) dX11_isOpen_6 (by decide) ?_
  refine j_isub E dX11_isOpen_7 ?_
  refine j_callsI (As := [.int a1, .int 0, .int ((h.1 0 8) - 1)]) (st := []) E (ok_X11_in hg E.2.2.2.2.2.2.2.1 a1 0 ((h.1 0 8) - 1) h) (cl_X11_129) (⟨Nat.le_of_ble_eq_true rfl, Nat.le_of_ble_eq_true rfl⟩) rfl rfl (Nat.le_of_ble_eq_true rfl) dX11_isOpen_8 (fun t1 h2 => ?_)
  refine j_if_eq E 31 dX11_isOpen_11 rfl ?_ ?_
  · exact j_sub [] (lv1 := []) rfl (jxX11_isOpen_31 hg E h2)
  · refine j_aload_n E dX11_isOpen_14 0 rfl ?_
    refine j_getr E f_X11_7 (cM_0 hg) 1 rfl dX11_isOpen_15 ?_
    refine j_bipush E (v := 48) dX11_isOpen_18 (by decide) ?_
    refine j_iload_n E dX11_isOpen_20 1 rfl ?_
    refine j_iadd E dX11_isOpen_21 ?_
    refine j_iald E (cM_1 hg) dX11_isOpen_22 (fun t3 => ?_)
    refine j_iconst E (v := 1) dX11_isOpen_23 (by decide) ?_
    refine j_cmp_ne E 31 dX11_isOpen_24 rfl ?_ ?_
    · exact j_sub [] (lv1 := []) rfl (jxX11_isOpen_31 hg E h2)
    · refine j_iconst E (v := 1) dX11_isOpen_27 (by decide) ?_
      refine j_goto E 32 dX11_isOpen_28 rfl ?_
      exact j_sub [] (lv1 := []) rfl (jxX11_isOpen_32 hg E 1 h2)
theorem ok_X11_isOpen {g : GC} (hg : isGM g) (hI : gI g) (a1 : Int32) (h : HP) : Ok g yX11_isOpen mX11_isOpen [.ref (g.2.2.1 0), .int a1] h (xX11_isOpen a1 h) := Ok.of hI (by decide) rfl (Nat.le_of_ble_eq_true rfl) (fun X E => jxX11_isOpen hg E a1 h)
set_option maxRecDepth 20000 in
set_option maxHeartbeats 4000000 in
theorem jxX11_beyond_49 {g : GC} (hg : isGM g) {X : MX} (E : JE g mX11_beyond X) (s0 : Int32) (h : HP) : J g mX11_beyond X 49 [] [.int s0] h (xX11_beyond_49 s0 h) := by
  unfold xX11_beyond_49
  exact j_ireturn E rfl dX11_beyond_49
set_option maxRecDepth 20000 in
set_option maxHeartbeats 4000000 in
theorem jxX11_beyond {g : GC} (hg : isGM g) {X : MX} (E : JE g mX11_beyond X) (a1 : Int32) (a2 : Int32) (h : HP) : J g mX11_beyond X 0 [(0, .ref (g.2.2.1 0)), (1, .int a1), (2, .int a2)] [] h (xX11_beyond a1 a2 h) := by
  unfold xX11_beyond
  refine j_aload_n E dX11_beyond_0 0 rfl ?_
  refine j_iload_n E dX11_beyond_1 1 rfl ?_
  refine j_callvI (As := [.int a1]) (st := []) E (ok_X11_isOpen hg E.2.2.2.2.2.2.2.1 a1 h) (cM_0 hg) (cl_X11_148) (⟨Nat.le_of_ble_eq_true rfl, Nat.le_of_ble_eq_true rfl⟩) rfl rfl (Nat.le_of_ble_eq_true rfl) dX11_beyond_2 (fun t1 h2 => ?_)
  refine j_if_ne E 10 dX11_beyond_5 rfl ?_ ?_
  · refine j_aload_n E dX11_beyond_10 0 rfl ?_
    refine j_getr E f_X11_22 (cM_0 hg) 5 rfl dX11_beyond_11 ?_
    refine j_iload_n E dX11_beyond_14 1 rfl ?_
    refine j_iald E (cM_5 hg) dX11_beyond_15 (fun t3 => ?_)
    refine j_iload_n E dX11_beyond_16 2 rfl ?_
    refine j_cmp_ne E 29 dX11_beyond_17 rfl ?_ ?_
    · refine j_aload_n E dX11_beyond_29 0 rfl ?_
      refine j_getr E f_X11_25 (cM_0 hg) 6 rfl dX11_beyond_30 ?_
      refine j_iload_n E dX11_beyond_33 1 rfl ?_
      refine j_iald E (cM_6 hg) dX11_beyond_34 (fun t4 => ?_)
      refine j_iload_n E dX11_beyond_35 2 rfl ?_
      refine j_cmp_ne E 48 dX11_beyond_36 rfl ?_ ?_
      · refine j_iconst E (v := (-1)) dX11_beyond_48 (by decide) ?_
        exact j_sub [] (lv1 := []) rfl (jxX11_beyond_49 hg E (-1) h2)
      · refine j_aload_n E dX11_beyond_39 0 rfl ?_
        refine j_getr E f_X11_22 (cM_0 hg) 5 rfl dX11_beyond_40 ?_
        refine j_iload_n E dX11_beyond_43 1 rfl ?_
        refine j_iald E (cM_5 hg) dX11_beyond_44 (fun t5 => ?_)
        refine j_goto E 49 dX11_beyond_45 rfl ?_
        exact j_sub [] (lv1 := []) rfl (jxX11_beyond_49 hg E t5 h2)
    · refine j_aload_n E dX11_beyond_20 0 rfl ?_
      refine j_getr E f_X11_25 (cM_0 hg) 6 rfl dX11_beyond_21 ?_
      refine j_iload_n E dX11_beyond_24 1 rfl ?_
      refine j_iald E (cM_6 hg) dX11_beyond_25 (fun t6 => ?_)
      refine j_goto E 49 dX11_beyond_26 rfl ?_
      exact j_sub [] (lv1 := []) rfl (jxX11_beyond_49 hg E t6 h2)
  · refine j_iconst E (v := (-1)) dX11_beyond_8 (by decide) ?_
    exact j_ireturn E rfl dX11_beyond_9
theorem ok_X11_beyond {g : GC} (hg : isGM g) (hI : gI g) (a1 : Int32) (a2 : Int32) (h : HP) : Ok g yX11_beyond mX11_beyond [.ref (g.2.2.1 0), .int a1, .int a2] h (xX11_beyond a1 a2 h) := Ok.of hI (by decide) rfl (Nat.le_of_ble_eq_true rfl) (fun X E => jxX11_beyond hg E a1 a2 h)
set_option maxRecDepth 20000 in
set_option maxHeartbeats 4000000 in
theorem jxX11_nextTo_33 {g : GC} (hg : isGM g) {X : MX} (N : Nat) (E : JE g mX11_nextTo X) (K4 : Int32 → Int32 → Int32 → HP → Option (Int32 × HP)) (hK4 : ∀ (a1 : Int32) (a2 : Int32) (a3 : Int32) (h : HP), J g mX11_nextTo X 4 [(0, .ref (g.2.2.1 0)), (1, .int a1), (2, .int a2), (3, .int a3)] [] h (K4 a1 a2 a3 h)) (a1 : Int32) (a2 : Int32) (a3 : Int32) (h : HP) : J g mX11_nextTo X 33 [(0, .ref (g.2.2.1 0)), (1, .int a1), (2, .int a2), (3, .int a3)] [] h (xX11_nextTo_33 N K4 a1 a2 a3 h) := by
  unfold xX11_nextTo_33
  refine j_iinc E (c := 1) dX11_nextTo_33 3 rfl (by decide) (Nat.le_of_ble_eq_true rfl) (fun v1 => [(3, .int v1), (0, .ref (g.2.2.1 0)), (1, .int a1), (2, .int a2)]) (fun _ => rfl) (fun v1 => ?_)
  refine j_goto E 4 dX11_nextTo_36 rfl ?_
  exact j_sub [1, 2, 3, 0] (lv1 := [(0, .ref (g.2.2.1 0)), (1, .int a1), (2, .int a2), (3, .int v1)]) rfl (hK4 a1 a2 v1 h)
set_option maxRecDepth 20000 in
set_option maxHeartbeats 4000000 in
theorem jxX11_nextTo_4 {g : GC} (hg : isGM g) {X : MX} (N : Nat) (E : JE g mX11_nextTo X) : ∀ (n : Nat) (a1 : Int32) (a2 : Int32) (a3 : Int32) (h : HP), J g mX11_nextTo X 4 [(0, .ref (g.2.2.1 0)), (1, .int a1), (2, .int a2), (3, .int a3)] [] h (xX11_nextTo_4 N n a1 a2 a3 h) := by
  intro n
  induction n with
  | zero => intro a1 a2 a3 h; exact j_none
  | succ n ih =>
    intro a1 a2 a3 h
    unfold xX11_nextTo_4
    refine j_iload_n E dX11_nextTo_4 3 rfl ?_
    refine j_aload_n E dX11_nextTo_5 0 rfl ?_
    refine j_geti E f_X11_145 (cM_0 hg) rfl dX11_nextTo_6 ?_
    refine j_cmp_ge E 39 dX11_nextTo_9 rfl ?_ ?_
    · refine j_iload_n E dX11_nextTo_39 2 rfl ?_
      exact j_ireturn E rfl dX11_nextTo_40
    · refine j_aload_n E dX11_nextTo_12 0 rfl ?_
      refine j_iload_n E dX11_nextTo_13 3 rfl ?_
      refine j_iload_n E dX11_nextTo_14 1 rfl ?_
      refine j_callvI (As := [.int a3, .int a1]) (st := []) E (ok_X11_beyond hg E.2.2.2.2.2.2.2.1 a3 a1 h) (cM_0 hg) (cl_X11_151) (⟨Nat.le_of_ble_eq_true rfl, Nat.le_of_ble_eq_true rfl⟩) rfl rfl (Nat.le_of_ble_eq_true rfl) dX11_nextTo_15 (fun t1 h2 => ?_)
      refine j_iconst E (v := (-1)) dX11_nextTo_18 (by decide) ?_
      refine j_cmp_eq E 33 dX11_nextTo_19 rfl ?_ ?_
      · exact jxX11_nextTo_33 hg N E (xX11_nextTo_4 N n) ih a1 a2 a3 h2
      · refine j_iload_n E dX11_nextTo_22 2 rfl ?_
        refine j_iconst E (v := 1) dX11_nextTo_23 (by decide) ?_
        refine j_aload_n E dX11_nextTo_24 0 rfl ?_
        refine j_iload_n E dX11_nextTo_25 3 rfl ?_
        refine j_iload_n E dX11_nextTo_26 1 rfl ?_
        refine j_callvI (As := [.int a3, .int a1]) (st := [.int 1, .int a2]) E (ok_X11_beyond hg E.2.2.2.2.2.2.2.1 a3 a1 h2) (cM_0 hg) (cl_X11_151) (⟨Nat.le_of_ble_eq_true rfl, Nat.le_of_ble_eq_true rfl⟩) rfl rfl (Nat.le_of_ble_eq_true rfl) dX11_nextTo_27 (fun t3 h4 => ?_)
        refine j_ishl E dX11_nextTo_30 ?_
        refine j_ior E dX11_nextTo_31 ?_
        refine j_istore_n E dX11_nextTo_32 (Nat.le_of_ble_eq_true rfl) (fun v5 => [(2, .int v5), (0, .ref (g.2.2.1 0)), (1, .int a1), (3, .int a3)]) (fun _ => rfl) (fun v5 => ?_)
        exact j_sub [1, 2, 0, 3] (lv1 := [(0, .ref (g.2.2.1 0)), (1, .int a1), (2, .int v5), (3, .int a3)]) rfl (jxX11_nextTo_33 hg N E (xX11_nextTo_4 N n) ih a1 v5 a3 h4)
set_option maxRecDepth 20000 in
set_option maxHeartbeats 4000000 in
theorem jxX11_nextTo {g : GC} (hg : isGM g) {X : MX} (N : Nat) (E : JE g mX11_nextTo X) (a1 : Int32) (h : HP) : J g mX11_nextTo X 0 [(0, .ref (g.2.2.1 0)), (1, .int a1)] [] h (xX11_nextTo N a1 h) := by
  unfold xX11_nextTo
  refine j_iconst E (v := 0) dX11_nextTo_0 (by decide) ?_
  refine j_istore0_n E dX11_nextTo_1 (Nat.le_of_ble_eq_true rfl) [(2, .int 0), (0, .ref (g.2.2.1 0)), (1, .int a1)] rfl ?_
  refine j_iconst E (v := 0) dX11_nextTo_2 (by decide) ?_
  refine j_istore0_n E dX11_nextTo_3 (Nat.le_of_ble_eq_true rfl) [(3, .int 0), (2, .int 0), (0, .ref (g.2.2.1 0)), (1, .int a1)] rfl ?_
  exact j_sub [2, 3, 1, 0] (lv1 := [(0, .ref (g.2.2.1 0)), (1, .int a1), (2, .int 0), (3, .int 0)]) rfl (jxX11_nextTo_4 hg N E N a1 0 0 h)
theorem ok_X11_nextTo {g : GC} (hg : isGM g) (hI : gI g) (N : Nat) (a1 : Int32) (h : HP) : Ok g yX11_nextTo mX11_nextTo [.ref (g.2.2.1 0), .int a1] h (xX11_nextTo N a1 h) := Ok.of hI (by decide) rfl (Nat.le_of_ble_eq_true rfl) (fun X E => jxX11_nextTo hg N E a1 h)
set_option maxRecDepth 20000 in
set_option maxHeartbeats 4000000 in
theorem jxX11_openOf_26 {g : GC} (hg : isGM g) {X : MX} (N : Nat) (E : JE g mX11_openOf X) (K4 : Int32 → Int32 → Int32 → HP → Option (Int32 × HP)) (hK4 : ∀ (a1 : Int32) (a2 : Int32) (a3 : Int32) (h : HP), J g mX11_openOf X 4 [(0, .ref (g.2.2.1 0)), (1, .int a1), (2, .int a2), (3, .int a3)] [] h (K4 a1 a2 a3 h)) (a1 : Int32) (a2 : Int32) (a3 : Int32) (h : HP) : J g mX11_openOf X 26 [(0, .ref (g.2.2.1 0)), (1, .int a1), (2, .int a2), (3, .int a3)] [] h (xX11_openOf_26 N K4 a1 a2 a3 h) := by
  unfold xX11_openOf_26
  refine j_iinc E (c := 1) dX11_openOf_26 3 rfl (by decide) (Nat.le_of_ble_eq_true rfl) (fun v1 => [(3, .int v1), (0, .ref (g.2.2.1 0)), (1, .int a1), (2, .int a2)]) (fun _ => rfl) (fun v1 => ?_)
  refine j_goto E 4 dX11_openOf_29 rfl ?_
  exact j_sub [1, 2, 3, 0] (lv1 := [(0, .ref (g.2.2.1 0)), (1, .int a1), (2, .int a2), (3, .int v1)]) rfl (hK4 a1 a2 v1 h)
set_option maxRecDepth 20000 in
set_option maxHeartbeats 4000000 in
theorem jxX11_openOf_4 {g : GC} (hg : isGM g) {X : MX} (N : Nat) (E : JE g mX11_openOf X) : ∀ (n : Nat) (a1 : Int32) (a2 : Int32) (a3 : Int32) (h : HP), J g mX11_openOf X 4 [(0, .ref (g.2.2.1 0)), (1, .int a1), (2, .int a2), (3, .int a3)] [] h (xX11_openOf_4 N n a1 a2 a3 h) := by
  intro n
  induction n with
  | zero => intro a1 a2 a3 h; exact j_none
  | succ n ih =>
    intro a1 a2 a3 h
    unfold xX11_openOf_4
    refine j_iload_n E dX11_openOf_4 3 rfl ?_
    refine j_aload_n E dX11_openOf_5 0 rfl ?_
    refine j_geti E f_X11_145 (cM_0 hg) rfl dX11_openOf_6 ?_
    refine j_cmp_ge E 32 dX11_openOf_9 rfl ?_ ?_
    · refine j_iload_n E dX11_openOf_32 2 rfl ?_
      exact j_ireturn E rfl dX11_openOf_33
    · refine j_aload_n E dX11_openOf_12 0 rfl ?_
      refine j_iload_n E dX11_openOf_13 3 rfl ?_
      refine j_iload_n E dX11_openOf_14 1 rfl ?_
      refine j_callvI (As := [.int a3, .int a1]) (st := []) E (ok_X11_beyond hg E.2.2.2.2.2.2.2.1 a3 a1 h) (cM_0 hg) (cl_X11_151) (⟨Nat.le_of_ble_eq_true rfl, Nat.le_of_ble_eq_true rfl⟩) rfl rfl (Nat.le_of_ble_eq_true rfl) dX11_openOf_15 (fun t1 h2 => ?_)
      refine j_iconst E (v := (-1)) dX11_openOf_18 (by decide) ?_
      refine j_cmp_eq E 26 dX11_openOf_19 rfl ?_ ?_
      · exact jxX11_openOf_26 hg N E (xX11_openOf_4 N n) ih a1 a2 a3 h2
      · refine j_iload_n E dX11_openOf_22 2 rfl ?_
        refine j_iconst E (v := 1) dX11_openOf_23 (by decide) ?_
        refine j_iadd E dX11_openOf_24 ?_
        refine j_istore_n E dX11_openOf_25 (Nat.le_of_ble_eq_true rfl) (fun v3 => [(2, .int v3), (0, .ref (g.2.2.1 0)), (1, .int a1), (3, .int a3)]) (fun _ => rfl) (fun v3 => ?_)
        exact j_sub [1, 2, 0, 3] (lv1 := [(0, .ref (g.2.2.1 0)), (1, .int a1), (2, .int v3), (3, .int a3)]) rfl (jxX11_openOf_26 hg N E (xX11_openOf_4 N n) ih a1 v3 a3 h2)
set_option maxRecDepth 20000 in
set_option maxHeartbeats 4000000 in
theorem jxX11_openOf {g : GC} (hg : isGM g) {X : MX} (N : Nat) (E : JE g mX11_openOf X) (a1 : Int32) (h : HP) : J g mX11_openOf X 0 [(0, .ref (g.2.2.1 0)), (1, .int a1)] [] h (xX11_openOf N a1 h) := by
  unfold xX11_openOf
  refine j_iconst E (v := 0) dX11_openOf_0 (by decide) ?_
  refine j_istore0_n E dX11_openOf_1 (Nat.le_of_ble_eq_true rfl) [(2, .int 0), (0, .ref (g.2.2.1 0)), (1, .int a1)] rfl ?_
  refine j_iconst E (v := 0) dX11_openOf_2 (by decide) ?_
  refine j_istore0_n E dX11_openOf_3 (Nat.le_of_ble_eq_true rfl) [(3, .int 0), (2, .int 0), (0, .ref (g.2.2.1 0)), (1, .int a1)] rfl ?_
  exact j_sub [2, 3, 1, 0] (lv1 := [(0, .ref (g.2.2.1 0)), (1, .int a1), (2, .int 0), (3, .int 0)]) rfl (jxX11_openOf_4 hg N E N a1 0 0 h)
theorem ok_X11_openOf {g : GC} (hg : isGM g) (hI : gI g) (N : Nat) (a1 : Int32) (h : HP) : Ok g yX11_openOf mX11_openOf [.ref (g.2.2.1 0), .int a1] h (xX11_openOf N a1 h) := Ok.of hI (by decide) rfl (Nat.le_of_ble_eq_true rfl) (fun X E => jxX11_openOf hg N E a1 h)
set_option maxRecDepth 20000 in
set_option maxHeartbeats 4000000 in
theorem jxX11_types_2 {g : GC} (hg : isGM g) {X : MX} (N : Nat) (E : JE g mX11_types X) : ∀ (n : Nat) (a1 : Int32) (a2 : Int32) (h : HP), J g mX11_types X 2 [(0, .ref (g.2.2.1 0)), (1, .int a1), (2, .int a2)] [] h (xX11_types_2 N n a1 a2 h) := by
  intro n
  induction n with
  | zero => intro a1 a2 h; exact j_none
  | succ n ih =>
    intro a1 a2 h
    unfold xX11_types_2
    refine j_iload_n E dX11_types_2 2 rfl ?_
    refine j_if_lt E 38 dX11_types_3 rfl ?_ ?_
    · exact j_vreturn E rfl dX11_types_38
    · refine j_aload_n E dX11_types_6 0 rfl ?_
      refine j_getr E f_X11_31 (cM_0 hg) 8 rfl dX11_types_7 ?_
      refine j_aload_n E dX11_types_10 0 rfl ?_
      refine j_geti E f_X11_155 (cM_0 hg) rfl dX11_types_11 ?_
      refine j_iload_n E dX11_types_14 1 rfl ?_
      refine j_bipush E (v := 8) dX11_types_15 (by decide) ?_
      refine j_iload_n E dX11_types_17 2 rfl ?_
      refine j_imul E dX11_types_18 ?_
      refine j_ishr E dX11_types_19 ?_
      refine j_i2b E dX11_types_20 ?_
      refine j_bast E (cM_8 hg) dX11_types_21 (fun h1 => ?_)
      refine j_aload_n E dX11_types_22 0 rfl ?_
      refine j_aload_n E dX11_types_23 0 rfl ?_
      refine j_geti E f_X11_155 (cM_0 hg) rfl dX11_types_24 ?_
      refine j_iconst E (v := 1) dX11_types_27 (by decide) ?_
      refine j_iadd E dX11_types_28 ?_
      refine j_puti E fp_X11_155 (cM_0 hg) rfl dX11_types_29 (fun h2 => ?_)
      refine j_iinc E (c := (-1)) dX11_types_32 2 rfl (by decide) (Nat.le_of_ble_eq_true rfl) (fun v3 => [(2, .int v3), (0, .ref (g.2.2.1 0)), (1, .int a1)]) (fun _ => rfl) (fun v3 => ?_)
      refine j_goto E 2 dX11_types_35 rfl ?_
      exact j_sub [1, 2, 0] (lv1 := [(0, .ref (g.2.2.1 0)), (1, .int a1), (2, .int v3)]) rfl (ih a1 v3 h2)
set_option maxRecDepth 20000 in
set_option maxHeartbeats 4000000 in
theorem jxX11_types {g : GC} (hg : isGM g) {X : MX} (N : Nat) (E : JE g mX11_types X) (a1 : Int32) (h : HP) : J g mX11_types X 0 [(0, .ref (g.2.2.1 0)), (1, .int a1)] [] h (xX11_types N a1 h) := by
  unfold xX11_types
  refine j_iconst E (v := 3) dX11_types_0 (by decide) ?_
  refine j_istore0_n E dX11_types_1 (Nat.le_of_ble_eq_true rfl) [(2, .int 3), (0, .ref (g.2.2.1 0)), (1, .int a1)] rfl ?_
  exact j_sub [1, 2, 0] (lv1 := [(0, .ref (g.2.2.1 0)), (1, .int a1), (2, .int 3)]) rfl (jxX11_types_2 hg N E N a1 3 h)
theorem ok_X11_types {g : GC} (hg : isGM g) (hI : gI g) (N : Nat) (a1 : Int32) (h : HP) : Ok g yX11_types mX11_types [.ref (g.2.2.1 0), .int a1] h (xX11_types N a1 h) := Ok.of hI (by decide) rfl (Nat.le_of_ble_eq_true rfl) (fun X E => jxX11_types hg N E a1 h)
set_option maxRecDepth 20000 in
set_option maxHeartbeats 4000000 in
theorem jxX11_feed {g : GC} (hg : isGM g) {X : MX} (N : Nat) (E : JE g mX11_feed X) (a1 : Int32) (a2 : Int32) (a3 : Int32) (a4 : Int32) (a5 : Int32) (h : HP) : J g mX11_feed X 0 [(0, .ref (g.2.2.1 0)), (1, .int a1), (2, .int a2), (3, .int a3), (4, .int a4), (5, .int a5)] [] h (xX11_feed N a1 a2 a3 a4 a5 h) := by
  unfold xX11_feed
  refine j_aload_n E dX11_feed_0 0 rfl ?_
  refine j_geti E f_X11_155 (cM_0 hg) rfl dX11_feed_1 ?_
  refine j_bipush E (v := 20) dX11_feed_4 (by decide) ?_
  refine j_iadd E dX11_feed_6 ?_
  refine j_sipush E (v := 260) dX11_feed_7 (by decide) ?_
  refine j_cmp_le E 15 dX11_feed_10 rfl ?_ ?_
  · refine j_aload_n E dX11_feed_15 0 rfl ?_
    refine j_iload_n E dX11_feed_16 1 rfl ?_
    refine j_callvV (As := [.int a1]) (st := []) E (ok_X11_types hg E.2.2.2.2.2.2.2.1 N a1 h) (cM_0 hg) (cl_X11_158) (⟨Nat.le_of_ble_eq_true rfl, Nat.le_of_ble_eq_true rfl⟩) rfl rfl (Nat.le_of_ble_eq_true rfl) dX11_feed_17 (fun t1 h2 => ?_)
    refine j_aload_n E dX11_feed_20 0 rfl ?_
    refine j_iload_n E dX11_feed_21 2 rfl ?_
    refine j_callvV (As := [.int a2]) (st := []) E (ok_X11_types hg E.2.2.2.2.2.2.2.1 N a2 h2) (cM_0 hg) (cl_X11_158) (⟨Nat.le_of_ble_eq_true rfl, Nat.le_of_ble_eq_true rfl⟩) rfl rfl (Nat.le_of_ble_eq_true rfl) dX11_feed_22 (fun t3 h4 => ?_)
    refine j_aload_n E dX11_feed_25 0 rfl ?_
    refine j_iload_n E dX11_feed_26 3 rfl ?_
    refine j_callvV (As := [.int a3]) (st := []) E (ok_X11_types hg E.2.2.2.2.2.2.2.1 N a3 h4) (cM_0 hg) (cl_X11_158) (⟨Nat.le_of_ble_eq_true rfl, Nat.le_of_ble_eq_true rfl⟩) rfl rfl (Nat.le_of_ble_eq_true rfl) dX11_feed_27 (fun t5 h6 => ?_)
    refine j_aload_n E dX11_feed_30 0 rfl ?_
    refine j_iload E dX11_feed_31 4 rfl ?_
    refine j_callvV (As := [.int a4]) (st := []) E (ok_X11_types hg E.2.2.2.2.2.2.2.1 N a4 h6) (cM_0 hg) (cl_X11_158) (⟨Nat.le_of_ble_eq_true rfl, Nat.le_of_ble_eq_true rfl⟩) rfl rfl (Nat.le_of_ble_eq_true rfl) dX11_feed_33 (fun t7 h8 => ?_)
    refine j_aload_n E dX11_feed_36 0 rfl ?_
    refine j_iload E dX11_feed_37 5 rfl ?_
    refine j_callvV (As := [.int a5]) (st := []) E (ok_X11_types hg E.2.2.2.2.2.2.2.1 N a5 h8) (cM_0 hg) (cl_X11_158) (⟨Nat.le_of_ble_eq_true rfl, Nat.le_of_ble_eq_true rfl⟩) rfl rfl (Nat.le_of_ble_eq_true rfl) dX11_feed_39 (fun t9 h10 => ?_)
    refine j_aload_n E dX11_feed_42 0 rfl ?_
    refine j_geti E f_X11_155 (cM_0 hg) rfl dX11_feed_43 ?_
    exact j_ireturn E rfl dX11_feed_46
  · refine j_iconst E (v := (-1)) dX11_feed_13 (by decide) ?_
    exact j_ireturn E rfl dX11_feed_14
theorem ok_X11_feed {g : GC} (hg : isGM g) (hI : gI g) (N : Nat) (a1 : Int32) (a2 : Int32) (a3 : Int32) (a4 : Int32) (a5 : Int32) (h : HP) : Ok g yX11_feed mX11_feed [.ref (g.2.2.1 0), .int a1, .int a2, .int a3, .int a4, .int a5] h (xX11_feed N a1 a2 a3 a4 a5 h) := Ok.of hI (by decide) rfl (Nat.le_of_ble_eq_true rfl) (fun X E => jxX11_feed hg N E a1 a2 a3 a4 a5 h)
set_option maxRecDepth 20000 in
set_option maxHeartbeats 4000000 in
theorem jxX11_octet {g : GC} (hg : isGM g) {X : MX} (E : JE g mX11_octet X) (a1 : Int32) (h : HP) : J g mX11_octet X 0 [(0, .ref (g.2.2.1 0)), (1, .int a1)] [] h (xX11_octet a1 h) := by
  unfold xX11_octet
  refine j_aload_n E dX11_octet_0 0 rfl ?_
  refine j_getr E f_X11_31 (cM_0 hg) 8 rfl dX11_octet_1 ?_
  refine j_iload_n E dX11_octet_4 1 rfl ?_
  refine j_bald E (cM_8 hg) dX11_octet_5 (fun t1 => ?_)
  refine j_sipush E (v := 255) dX11_octet_6 (by decide) ?_
  refine j_iand E dX11_octet_9 ?_
  exact j_ireturn E rfl dX11_octet_10
theorem ok_X11_octet {g : GC} (hg : isGM g) (hI : gI g) (a1 : Int32) (h : HP) : Ok g yX11_octet mX11_octet [.ref (g.2.2.1 0), .int a1] h (xX11_octet a1 h) := Ok.of hI (by decide) rfl (Nat.le_of_ble_eq_true rfl) (fun X E => jxX11_octet hg E a1 h)
set_option maxRecDepth 20000 in
set_option maxHeartbeats 4000000 in
theorem jxX11_here_28 {g : GC} (hg : isGM g) {X : MX} (E : JE g mX11_here X) (s0 : Int32) (h : HP) : J g mX11_here X 28 [] [.int s0] h (xX11_here_28 s0 h) := by
  unfold xX11_here_28
  exact j_ireturn E rfl dX11_here_28
set_option maxRecDepth 20000 in
set_option maxHeartbeats 4000000 in
theorem jxX11_here {g : GC} (hg : isGM g) {X : MX} (E : JE g mX11_here X) (h : HP) : J g mX11_here X 0 [(0, .ref (g.2.2.1 0))] [] h (xX11_here h) := by
  unfold xX11_here
  refine j_aload_n E dX11_here_0 0 rfl ?_
  refine j_geti E f_X11_162 (cM_0 hg) rfl dX11_here_1 ?_
  refine j_aload_n E dX11_here_4 0 rfl ?_
  refine j_geti E f_X11_165 (cM_0 hg) rfl dX11_here_5 ?_
  refine j_cmp_ge E 27 dX11_here_8 rfl ?_ ?_
  · refine j_iconst E (v := (-1)) dX11_here_27 (by decide) ?_
    exact j_sub [] (lv1 := []) rfl (jxX11_here_28 hg E (-1) h)
  · refine j_aload_n E dX11_here_11 0 rfl ?_
    refine j_getr E f_X11_31 (cM_0 hg) 8 rfl dX11_here_12 ?_
    refine j_aload_n E dX11_here_15 0 rfl ?_
    refine j_geti E f_X11_162 (cM_0 hg) rfl dX11_here_16 ?_
    refine j_bald E (cM_8 hg) dX11_here_19 (fun t1 => ?_)
    refine j_sipush E (v := 255) dX11_here_20 (by decide) ?_
    refine j_iand E dX11_here_23 ?_
    refine j_goto E 28 dX11_here_24 rfl ?_
    exact j_sub [] (lv1 := []) rfl (jxX11_here_28 hg E (t1 &&& 255) h)
theorem ok_X11_here {g : GC} (hg : isGM g) (hI : gI g) (h : HP) : Ok g yX11_here mX11_here [.ref (g.2.2.1 0)] h (xX11_here h) := Ok.of hI (by decide) rfl (Nat.le_of_ble_eq_true rfl) (fun X E => jxX11_here hg E h)
set_option maxRecDepth 20000 in
set_option maxHeartbeats 4000000 in
theorem jxX11_isDigit_23 {g : GC} (hg : isGM g) {X : MX} (E : JE g mX11_isDigit X) (s0 : Int32) (h : HP) : J g mX11_isDigit X 23 [] [.int s0] h (xX11_isDigit_23 s0 h) := by
  unfold xX11_isDigit_23
  exact j_zreturn E rfl dX11_isDigit_23
set_option maxRecDepth 20000 in
set_option maxHeartbeats 4000000 in
theorem jxX11_isDigit_22 {g : GC} (hg : isGM g) {X : MX} (E : JE g mX11_isDigit X) (h : HP) : J g mX11_isDigit X 22 [] [] h (xX11_isDigit_22 h) := by
  unfold xX11_isDigit_22
  refine j_iconst E (v := 0) dX11_isDigit_22 (by decide) ?_
  exact jxX11_isDigit_23 hg E 0 h
set_option maxRecDepth 20000 in
set_option maxHeartbeats 4000000 in
theorem jxX11_isDigit {g : GC} (hg : isGM g) {X : MX} (E : JE g mX11_isDigit X) (h : HP) : J g mX11_isDigit X 0 [(0, .ref (g.2.2.1 0))] [] h (xX11_isDigit h) := by
  unfold xX11_isDigit
  refine j_aload_n E dX11_isDigit_0 0 rfl ?_
  refine j_callvI (As := []) (st := []) E (ok_X11_here hg E.2.2.2.2.2.2.2.1 h) (cM_0 hg) (cl_X11_168) (⟨Nat.le_of_ble_eq_true rfl, Nat.le_of_ble_eq_true rfl⟩) rfl rfl (Nat.le_of_ble_eq_true rfl) dX11_isDigit_1 (fun t1 h2 => ?_)
  refine j_bipush E (v := 48) dX11_isDigit_4 (by decide) ?_
  refine j_cmp_lt E 22 dX11_isDigit_6 rfl ?_ ?_
  · exact j_sub [] (lv1 := []) rfl (jxX11_isDigit_22 hg E h2)
  · refine j_aload_n E dX11_isDigit_9 0 rfl ?_
    refine j_callvI (As := []) (st := []) E (ok_X11_here hg E.2.2.2.2.2.2.2.1 h2) (cM_0 hg) (cl_X11_168) (⟨Nat.le_of_ble_eq_true rfl, Nat.le_of_ble_eq_true rfl⟩) rfl rfl (Nat.le_of_ble_eq_true rfl) dX11_isDigit_10 (fun t3 h4 => ?_)
    refine j_bipush E (v := 57) dX11_isDigit_13 (by decide) ?_
    refine j_cmp_gt E 22 dX11_isDigit_15 rfl ?_ ?_
    · exact j_sub [] (lv1 := []) rfl (jxX11_isDigit_22 hg E h4)
    · refine j_iconst E (v := 1) dX11_isDigit_18 (by decide) ?_
      refine j_goto E 23 dX11_isDigit_19 rfl ?_
      exact j_sub [] (lv1 := []) rfl (jxX11_isDigit_23 hg E 1 h4)
theorem ok_X11_isDigit {g : GC} (hg : isGM g) (hI : gI g) (h : HP) : Ok g yX11_isDigit mX11_isDigit [.ref (g.2.2.1 0)] h (xX11_isDigit h) := Ok.of hI (by decide) rfl (Nat.le_of_ble_eq_true rfl) (fun X E => jxX11_isDigit hg E h)
set_option maxRecDepth 20000 in
set_option maxHeartbeats 4000000 in
theorem jxX11_wrongAt {g : GC} (hg : isGM g) {X : MX} (E : JE g mX11_wrongAt X) (a1 : Int32) (a2 : Int32) (h : HP) : J g mX11_wrongAt X 0 [(0, .ref (g.2.2.1 0)), (1, .int a1), (2, .int a2)] [] h (xX11_wrongAt a1 a2 h) := by
  unfold xX11_wrongAt
  refine j_aload_n E dX11_wrongAt_0 0 rfl ?_
  refine j_sipush E (v := (-1000)) dX11_wrongAt_1 (by decide) ?_
  refine j_iload_n E dX11_wrongAt_4 1 rfl ?_
  refine j_imul E dX11_wrongAt_5 ?_
  refine j_iload_n E dX11_wrongAt_6 2 rfl ?_
  refine j_isub E dX11_wrongAt_7 ?_
  refine j_puti E fp_X11_172 (cM_0 hg) rfl dX11_wrongAt_8 (fun h1 => ?_)
  refine j_iconst E (v := 0) dX11_wrongAt_11 (by decide) ?_
  exact j_zreturn E rfl dX11_wrongAt_12
theorem ok_X11_wrongAt {g : GC} (hg : isGM g) (hI : gI g) (a1 : Int32) (a2 : Int32) (h : HP) : Ok g yX11_wrongAt mX11_wrongAt [.ref (g.2.2.1 0), .int a1, .int a2] h (xX11_wrongAt a1 a2 h) := Ok.of hI (by decide) rfl (Nat.le_of_ble_eq_true rfl) (fun X E => jxX11_wrongAt hg E a1 a2 h)
set_option maxRecDepth 20000 in
set_option maxHeartbeats 4000000 in
theorem jxX11_takes {g : GC} (hg : isGM g) {X : MX} (E : JE g mX11_takes X) (a1 : Int32) (h : HP) : J g mX11_takes X 0 [(0, .ref (g.2.2.1 0)), (1, .int a1)] [] h (xX11_takes a1 h) := by
  unfold xX11_takes
  refine j_aload_n E dX11_takes_0 0 rfl ?_
  refine j_callvI (As := []) (st := []) E (ok_X11_here hg E.2.2.2.2.2.2.2.1 h) (cM_0 hg) (cl_X11_168) (⟨Nat.le_of_ble_eq_true rfl, Nat.le_of_ble_eq_true rfl⟩) rfl rfl (Nat.le_of_ble_eq_true rfl) dX11_takes_1 (fun t1 h2 => ?_)
  refine j_iload_n E dX11_takes_4 1 rfl ?_
  refine j_cmp_eq E 18 dX11_takes_5 rfl ?_ ?_
  · refine j_aload_n E dX11_takes_18 0 rfl ?_
    refine j_aload_n E dX11_takes_19 0 rfl ?_
    refine j_geti E f_X11_162 (cM_0 hg) rfl dX11_takes_20 ?_
    refine j_iconst E (v := 1) dX11_takes_23 (by decide) ?_
    refine j_iadd E dX11_takes_24 ?_
    refine j_puti E fp_X11_162 (cM_0 hg) rfl dX11_takes_25 (fun h3 => ?_)
    refine j_iconst E (v := 1) dX11_takes_28 (by decide) ?_
    exact j_zreturn E rfl dX11_takes_29
  · refine j_aload_n E dX11_takes_8 0 rfl ?_
    refine j_iconst E (v := 1) dX11_takes_9 (by decide) ?_
    refine j_aload_n E dX11_takes_10 0 rfl ?_
    refine j_geti E f_X11_162 (cM_0 hg) rfl dX11_takes_11 ?_
    refine j_callvI (As := [.int 1, .int (h2.1 0 11)]) (st := []) E (ok_X11_wrongAt hg E.2.2.2.2.2.2.2.1 1 (h2.1 0 11) h2) (cM_0 hg) (cl_X11_175) (⟨Nat.le_of_ble_eq_true rfl, Nat.le_of_ble_eq_true rfl⟩) rfl rfl (Nat.le_of_ble_eq_true rfl) dX11_takes_14 (fun t4 h5 => ?_)
    exact j_zreturn E rfl dX11_takes_17
theorem ok_X11_takes {g : GC} (hg : isGM g) (hI : gI g) (a1 : Int32) (h : HP) : Ok g yX11_takes mX11_takes [.ref (g.2.2.1 0), .int a1] h (xX11_takes a1 h) := Ok.of hI (by decide) rfl (Nat.le_of_ble_eq_true rfl) (fun X E => jxX11_takes hg E a1 h)
set_option maxRecDepth 20000 in
set_option maxHeartbeats 4000000 in
theorem jxX11_readsNumber_10 {g : GC} (hg : isGM g) {X : MX} (N : Nat) (E : JE g mX11_readsNumber X) : ∀ (n : Nat) (a1 : Int32) (h : HP), J g mX11_readsNumber X 10 [(0, .ref (g.2.2.1 0)), (1, .int a1)] [] h (xX11_readsNumber_10 N n a1 h) := by
  intro n
  induction n with
  | zero => intro a1 h; exact j_none
  | succ n ih =>
    intro a1 h
    unfold xX11_readsNumber_10
    refine j_aload_n E dX11_readsNumber_10 0 rfl ?_
    refine j_callvI (As := []) (st := []) E (ok_X11_isDigit hg E.2.2.2.2.2.2.2.1 h) (cM_0 hg) (cl_X11_181) (⟨Nat.le_of_ble_eq_true rfl, Nat.le_of_ble_eq_true rfl⟩) rfl rfl (Nat.le_of_ble_eq_true rfl) dX11_readsNumber_11 (fun t1 h2 => ?_)
    refine j_if_eq E 69 dX11_readsNumber_14 rfl ?_ ?_
    · refine j_iconst E (v := 1) dX11_readsNumber_69 (by decide) ?_
      exact j_zreturn E rfl dX11_readsNumber_70
    · refine j_aload_n E dX11_readsNumber_17 0 rfl ?_
      refine j_geti E f_X11_162 (cM_0 hg) rfl dX11_readsNumber_18 ?_
      refine j_iload_n E dX11_readsNumber_21 1 rfl ?_
      refine j_iconst E (v := 5) dX11_readsNumber_22 (by decide) ?_
      refine j_iadd E dX11_readsNumber_23 ?_
      refine j_cmp_ne E 37 dX11_readsNumber_24 rfl ?_ ?_
      · refine j_aload_n E dX11_readsNumber_37 0 rfl ?_
        refine j_bipush E (v := 10) dX11_readsNumber_38 (by decide) ?_
        refine j_aload_n E dX11_readsNumber_40 0 rfl ?_
        refine j_geti E f_X11_178 (cM_0 hg) rfl dX11_readsNumber_41 ?_
        refine j_imul E dX11_readsNumber_44 ?_
        refine j_aload_n E dX11_readsNumber_45 0 rfl ?_
        refine j_callvI (As := []) (st := [.int (10 * (h2.1 0 14)), .ref (g.2.2.1 0)]) E (ok_X11_here hg E.2.2.2.2.2.2.2.1 h2) (cM_0 hg) (cl_X11_168) (⟨Nat.le_of_ble_eq_true rfl, Nat.le_of_ble_eq_true rfl⟩) rfl rfl (Nat.le_of_ble_eq_true rfl) dX11_readsNumber_46 (fun t3 h4 => ?_)
        refine j_iadd E dX11_readsNumber_49 ?_
        refine j_bipush E (v := 48) dX11_readsNumber_50 (by decide) ?_
        refine j_isub E dX11_readsNumber_52 ?_
        refine j_puti E fp_X11_178 (cM_0 hg) rfl dX11_readsNumber_53 (fun h5 => ?_)
        refine j_aload_n E dX11_readsNumber_56 0 rfl ?_
        refine j_aload_n E dX11_readsNumber_57 0 rfl ?_
        refine j_geti E f_X11_162 (cM_0 hg) rfl dX11_readsNumber_58 ?_
        refine j_iconst E (v := 1) dX11_readsNumber_61 (by decide) ?_
        refine j_iadd E dX11_readsNumber_62 ?_
        refine j_puti E fp_X11_162 (cM_0 hg) rfl dX11_readsNumber_63 (fun h6 => ?_)
        refine j_goto E 10 dX11_readsNumber_66 rfl ?_
        exact ih a1 h6
      · refine j_aload_n E dX11_readsNumber_27 0 rfl ?_
        refine j_iconst E (v := 2) dX11_readsNumber_28 (by decide) ?_
        refine j_aload_n E dX11_readsNumber_29 0 rfl ?_
        refine j_geti E f_X11_162 (cM_0 hg) rfl dX11_readsNumber_30 ?_
        refine j_callvI (As := [.int 2, .int (h2.1 0 11)]) (st := []) E (ok_X11_wrongAt hg E.2.2.2.2.2.2.2.1 2 (h2.1 0 11) h2) (cM_0 hg) (cl_X11_175) (⟨Nat.le_of_ble_eq_true rfl, Nat.le_of_ble_eq_true rfl⟩) rfl rfl (Nat.le_of_ble_eq_true rfl) dX11_readsNumber_33 (fun t7 h8 => ?_)
        exact j_zreturn E rfl dX11_readsNumber_36
set_option maxRecDepth 20000 in
set_option maxHeartbeats 4000000 in
theorem jxX11_readsNumber {g : GC} (hg : isGM g) {X : MX} (N : Nat) (E : JE g mX11_readsNumber X) (h : HP) : J g mX11_readsNumber X 0 [(0, .ref (g.2.2.1 0))] [] h (xX11_readsNumber N h) := by
  unfold xX11_readsNumber
  refine j_aload_n E dX11_readsNumber_0 0 rfl ?_
  refine j_geti E f_X11_162 (cM_0 hg) rfl dX11_readsNumber_1 ?_
  refine j_istore_n E dX11_readsNumber_4 (Nat.le_of_ble_eq_true rfl) (fun v1 => [(1, .int v1), (0, .ref (g.2.2.1 0))]) (fun _ => rfl) (fun v1 => ?_)
  refine j_aload_n E dX11_readsNumber_5 1 rfl ?_
  refine j_iconst E (v := 0) dX11_readsNumber_6 (by decide) ?_
  refine j_puti E fp_X11_178 (cM_0 hg) rfl dX11_readsNumber_7 (fun h2 => ?_)
  exact j_sub [1, 0] (lv1 := [(0, .ref (g.2.2.1 0)), (1, .int v1)]) rfl (jxX11_readsNumber_10 hg N E N v1 h2)
theorem ok_X11_readsNumber {g : GC} (hg : isGM g) (hI : gI g) (N : Nat) (h : HP) : Ok g yX11_readsNumber mX11_readsNumber [.ref (g.2.2.1 0)] h (xX11_readsNumber N h) := Ok.of hI (by decide) rfl (Nat.le_of_ble_eq_true rfl) (fun X E => jxX11_readsNumber hg N E h)
set_option maxRecDepth 20000 in
set_option maxHeartbeats 4000000 in
theorem jxX11_notes {g : GC} (hg : isGM g) {X : MX} (E : JE g mX11_notes X) (a1 : Int32) (a2 : Int32) (h : HP) : J g mX11_notes X 0 [(0, .ref (g.2.2.1 0)), (1, .int a1), (2, .int a2)] [] h (xX11_notes a1 a2 h) := by
  unfold xX11_notes
  refine j_aload_n E dX11_notes_0 0 rfl ?_
  refine j_getr E f_X11_35 (cM_0 hg) 9 rfl dX11_notes_1 ?_
  refine j_aload_n E dX11_notes_4 0 rfl ?_
  refine j_geti E f_X11_185 (cM_0 hg) rfl dX11_notes_5 ?_
  refine j_ldc E (v := 1048576) k_X11_188 dX11_notes_8 ?_
  refine j_iload_n E dX11_notes_10 1 rfl ?_
  refine j_imul E dX11_notes_11 ?_
  refine j_iload_n E dX11_notes_12 2 rfl ?_
  refine j_iadd E dX11_notes_13 ?_
  refine j_iast E (cM_9 hg) dX11_notes_14 (fun h1 => ?_)
  refine j_aload_n E dX11_notes_15 0 rfl ?_
  refine j_aload_n E dX11_notes_16 0 rfl ?_
  refine j_geti E f_X11_185 (cM_0 hg) rfl dX11_notes_17 ?_
  refine j_iconst E (v := 1) dX11_notes_20 (by decide) ?_
  refine j_iadd E dX11_notes_21 ?_
  refine j_puti E fp_X11_185 (cM_0 hg) rfl dX11_notes_22 (fun h2 => ?_)
  exact j_vreturn E rfl dX11_notes_25
theorem ok_X11_notes {g : GC} (hg : isGM g) (hI : gI g) (a1 : Int32) (a2 : Int32) (h : HP) : Ok g yX11_notes mX11_notes [.ref (g.2.2.1 0), .int a1, .int a2] h (xX11_notes a1 a2 h) := Ok.of hI (by decide) rfl (Nat.le_of_ble_eq_true rfl) (fun X E => jxX11_notes hg E a1 a2 h)
set_option maxRecDepth 20000 in
set_option maxHeartbeats 4000000 in
theorem jxX11_opens {g : GC} (hg : isGM g) {X : MX} (E : JE g mX11_opens X) (a1 : Int32) (h : HP) : J g mX11_opens X 0 [(0, .ref (g.2.2.1 0)), (1, .int a1)] [] h (xX11_opens a1 h) := by
  unfold xX11_opens
  refine j_aload_n E dX11_opens_0 0 rfl ?_
  refine j_geti E f_X11_189 (cM_0 hg) rfl dX11_opens_1 ?_
  refine j_bipush E (v := 6) dX11_opens_4 (by decide) ?_
  refine j_cmp_ne E 19 dX11_opens_6 rfl ?_ ?_
  · refine j_aload_n E dX11_opens_19 0 rfl ?_
    refine j_aload_n E dX11_opens_20 0 rfl ?_
    refine j_geti E f_X11_189 (cM_0 hg) rfl dX11_opens_21 ?_
    refine j_iconst E (v := 1) dX11_opens_24 (by decide) ?_
    refine j_iadd E dX11_opens_25 ?_
    refine j_puti E fp_X11_189 (cM_0 hg) rfl dX11_opens_26 (fun h1 => ?_)
    refine j_aload_n E dX11_opens_29 0 rfl ?_
    refine j_getr E f_X11_38 (cM_0 hg) 10 rfl dX11_opens_30 ?_
    refine j_aload_n E dX11_opens_33 0 rfl ?_
    refine j_geti E f_X11_192 (cM_0 hg) rfl dX11_opens_34 ?_
    refine j_ldc E (v := 1048576) k_X11_188 dX11_opens_37 ?_
    refine j_iload_n E dX11_opens_39 1 rfl ?_
    refine j_imul E dX11_opens_40 ?_
    refine j_iast E (cM_10 hg) dX11_opens_41 (fun h2 => ?_)
    refine j_aload_n E dX11_opens_42 0 rfl ?_
    refine j_aload_n E dX11_opens_43 0 rfl ?_
    refine j_geti E f_X11_192 (cM_0 hg) rfl dX11_opens_44 ?_
    refine j_iconst E (v := 1) dX11_opens_47 (by decide) ?_
    refine j_iadd E dX11_opens_48 ?_
    refine j_puti E fp_X11_192 (cM_0 hg) rfl dX11_opens_49 (fun h3 => ?_)
    refine j_aload_n E dX11_opens_52 0 rfl ?_
    refine j_aload_n E dX11_opens_53 0 rfl ?_
    refine j_geti E f_X11_162 (cM_0 hg) rfl dX11_opens_54 ?_
    refine j_iconst E (v := 1) dX11_opens_57 (by decide) ?_
    refine j_iadd E dX11_opens_58 ?_
    refine j_puti E fp_X11_162 (cM_0 hg) rfl dX11_opens_59 (fun h4 => ?_)
    refine j_iconst E (v := 1) dX11_opens_62 (by decide) ?_
    exact j_zreturn E rfl dX11_opens_63
  · refine j_aload_n E dX11_opens_9 0 rfl ?_
    refine j_iconst E (v := 5) dX11_opens_10 (by decide) ?_
    refine j_aload_n E dX11_opens_11 0 rfl ?_
    refine j_geti E f_X11_162 (cM_0 hg) rfl dX11_opens_12 ?_
    refine j_callvI (As := [.int 5, .int (h.1 0 11)]) (st := []) E (ok_X11_wrongAt hg E.2.2.2.2.2.2.2.1 5 (h.1 0 11) h) (cM_0 hg) (cl_X11_175) (⟨Nat.le_of_ble_eq_true rfl, Nat.le_of_ble_eq_true rfl⟩) rfl rfl (Nat.le_of_ble_eq_true rfl) dX11_opens_15 (fun t5 h6 => ?_)
    exact j_zreturn E rfl dX11_opens_18
theorem ok_X11_opens {g : GC} (hg : isGM g) (hI : gI g) (a1 : Int32) (h : HP) : Ok g yX11_opens mX11_opens [.ref (g.2.2.1 0), .int a1] h (xX11_opens a1 h) := Ok.of hI (by decide) rfl (Nat.le_of_ble_eq_true rfl) (fun X E => jxX11_opens hg E a1 h)
set_option maxRecDepth 20000 in
set_option maxHeartbeats 4000000 in
theorem jxX11_waitTop_25 {g : GC} (hg : isGM g) {X : MX} (E : JE g mX11_waitTop X) (s0 : Int32) (h : HP) : J g mX11_waitTop X 25 [] [.int s0] h (xX11_waitTop_25 s0 h) := by
  unfold xX11_waitTop_25
  exact j_ireturn E rfl dX11_waitTop_25
set_option maxRecDepth 20000 in
set_option maxHeartbeats 4000000 in
theorem jxX11_waitTop {g : GC} (hg : isGM g) {X : MX} (E : JE g mX11_waitTop X) (h : HP) : J g mX11_waitTop X 0 [(0, .ref (g.2.2.1 0))] [] h (xX11_waitTop h) := by
  unfold xX11_waitTop
  refine j_aload_n E dX11_waitTop_0 0 rfl ?_
  refine j_geti E f_X11_192 (cM_0 hg) rfl dX11_waitTop_1 ?_
  refine j_if_ne E 11 dX11_waitTop_4 rfl ?_ ?_
  · refine j_aload_n E dX11_waitTop_11 0 rfl ?_
    refine j_getr E f_X11_38 (cM_0 hg) 10 rfl dX11_waitTop_12 ?_
    refine j_aload_n E dX11_waitTop_15 0 rfl ?_
    refine j_geti E f_X11_192 (cM_0 hg) rfl dX11_waitTop_16 ?_
    refine j_iconst E (v := 1) dX11_waitTop_19 (by decide) ?_
    refine j_isub E dX11_waitTop_20 ?_
    refine j_iald E (cM_10 hg) dX11_waitTop_21 (fun t1 => ?_)
    refine j_ldc E (v := 1048576) k_X11_188 dX11_waitTop_22 ?_
    refine j_idivc E (by decide) dX11_waitTop_24 ?_
    exact j_sub [] (lv1 := []) rfl (jxX11_waitTop_25 hg E (t1 / 1048576) h)
  · refine j_iconst E (v := (-1)) dX11_waitTop_7 (by decide) ?_
    refine j_goto E 25 dX11_waitTop_8 rfl ?_
    exact j_sub [] (lv1 := []) rfl (jxX11_waitTop_25 hg E (-1) h)
theorem ok_X11_waitTop {g : GC} (hg : isGM g) (hI : gI g) (h : HP) : Ok g yX11_waitTop mX11_waitTop [.ref (g.2.2.1 0)] h (xX11_waitTop h) := Ok.of hI (by decide) rfl (Nat.le_of_ble_eq_true rfl) (fun X E => jxX11_waitTop hg E h)
set_option maxRecDepth 20000 in
set_option maxHeartbeats 4000000 in
theorem jxX11_factOf {g : GC} (hg : isGM g) {X : MX} (E : JE g mX11_factOf X) (a0 : Int32) (h : HP) : J g mX11_factOf X 0 [(0, .int a0)] [] h (xX11_factOf a0 h) := by
  unfold xX11_factOf
  refine j_iload_n E dX11_factOf_0 0 rfl ?_
  refine j_tab E 97 123 dX11_factOf_1 (by decide) (by decide) rfl rfl ?_ (fun hx97 => ?_)
  · refine j_bipush E (v := 7) dX11_factOf_123 (by decide) ?_
    exact j_ireturn E rfl dX11_factOf_125
  refine j_tab E 99 108 dX11_factOf_1 (by decide) (by decide) rfl rfl ?_ (fun hx99 => ?_)
  · refine j_iconst E (v := 0) dX11_factOf_108 (by decide) ?_
    exact j_ireturn E rfl dX11_factOf_109
  refine j_tab E 104 110 dX11_factOf_1 (by decide) (by decide) rfl rfl ?_ (fun hx104 => ?_)
  · refine j_iconst E (v := 1) dX11_factOf_110 (by decide) ?_
    exact j_ireturn E rfl dX11_factOf_111
  refine j_tab E 109 118 dX11_factOf_1 (by decide) (by decide) rfl rfl ?_ (fun hx109 => ?_)
  · refine j_iconst E (v := 5) dX11_factOf_118 (by decide) ?_
    exact j_ireturn E rfl dX11_factOf_119
  refine j_tab E 110 116 dX11_factOf_1 (by decide) (by decide) rfl rfl ?_ (fun hx110 => ?_)
  · refine j_iconst E (v := 4) dX11_factOf_116 (by decide) ?_
    exact j_ireturn E rfl dX11_factOf_117
  refine j_tab E 113 120 dX11_factOf_1 (by decide) (by decide) rfl rfl ?_ (fun hx113 => ?_)
  · refine j_bipush E (v := 6) dX11_factOf_120 (by decide) ?_
    exact j_ireturn E rfl dX11_factOf_122
  refine j_tab E 115 112 dX11_factOf_1 (by decide) (by decide) rfl rfl ?_ (fun hx115 => ?_)
  · refine j_iconst E (v := 2) dX11_factOf_112 (by decide) ?_
    exact j_ireturn E rfl dX11_factOf_113
  refine j_tab E 116 126 dX11_factOf_1 (by decide) (by decide) rfl rfl ?_ (fun hx116 => ?_)
  · refine j_bipush E (v := 8) dX11_factOf_126 (by decide) ?_
    exact j_ireturn E rfl dX11_factOf_128
  refine j_tab E 117 114 dX11_factOf_1 (by decide) (by decide) rfl rfl ?_ (fun hx117 => ?_)
  · refine j_iconst E (v := 3) dX11_factOf_114 (by decide) ?_
    exact j_ireturn E rfl dX11_factOf_115
  refine j_tab E 119 129 dX11_factOf_1 (by decide) (by decide) rfl rfl ?_ (fun hx119 => ?_)
  · refine j_bipush E (v := 9) dX11_factOf_129 (by decide) ?_
    exact j_ireturn E rfl dX11_factOf_131
  refine j_tdef E 132 [97, 99, 104, 109, 110, 113, 115, 116, 117, 119] (by intro vq hq; simp only [List.mem_cons, List.not_mem_nil, or_false] at hq; rcases hq with rfl | rfl | rfl | rfl | rfl | rfl | rfl | rfl | rfl | rfl <;> assumption) dX11_factOf_1 (by decide) (by decide) rfl ?_
  refine j_iconst E (v := (-1)) dX11_factOf_132 (by decide) ?_
  exact j_ireturn E rfl dX11_factOf_133
theorem ok_X11_factOf {g : GC} (hg : isGM g) (hI : gI g) (a0 : Int32) (h : HP) : Ok g yX11_factOf mX11_factOf [.int a0] h (xX11_factOf a0 h) := Ok.of hI (by decide) rfl (Nat.le_of_ble_eq_true rfl) (fun X E => jxX11_factOf hg E a0 h)
set_option maxRecDepth 20000 in
set_option maxHeartbeats 4000000 in
theorem jxX11_sumSign_52 {g : GC} (hg : isGM g) {X : MX} (E : JE g mX11_sumSign X) (s0 : Int32) (h : HP) : J g mX11_sumSign X 52 [] [.int s0] h (xX11_sumSign_52 s0 h) := by
  unfold xX11_sumSign_52
  exact j_ireturn E rfl dX11_sumSign_52
set_option maxRecDepth 20000 in
set_option maxHeartbeats 4000000 in
theorem jxX11_sumSign {g : GC} (hg : isGM g) {X : MX} (E : JE g mX11_sumSign X) (a0 : Int32) (h : HP) : J g mX11_sumSign X 0 [(0, .int a0)] [] h (xX11_sumSign a0 h) := by
  unfold xX11_sumSign
  refine j_iload_n E dX11_sumSign_0 0 rfl ?_
  refine j_bipush E (v := 43) dX11_sumSign_1 (by decide) ?_
  refine j_cmp_ne E 10 dX11_sumSign_3 rfl ?_ ?_
  · refine j_iload_n E dX11_sumSign_10 0 rfl ?_
    refine j_bipush E (v := 45) dX11_sumSign_11 (by decide) ?_
    refine j_cmp_ne E 20 dX11_sumSign_13 rfl ?_ ?_
    · refine j_iload_n E dX11_sumSign_20 0 rfl ?_
      refine j_bipush E (v := 42) dX11_sumSign_21 (by decide) ?_
      refine j_cmp_ne E 30 dX11_sumSign_23 rfl ?_ ?_
      · refine j_iload_n E dX11_sumSign_30 0 rfl ?_
        refine j_bipush E (v := 47) dX11_sumSign_31 (by decide) ?_
        refine j_cmp_ne E 40 dX11_sumSign_33 rfl ?_ ?_
        · refine j_iload_n E dX11_sumSign_40 0 rfl ?_
          refine j_bipush E (v := 37) dX11_sumSign_41 (by decide) ?_
          refine j_cmp_ne E 51 dX11_sumSign_43 rfl ?_ ?_
          · refine j_iconst E (v := (-1)) dX11_sumSign_51 (by decide) ?_
            exact j_sub [] (lv1 := []) rfl (jxX11_sumSign_52 hg E (-1) h)
          · refine j_bipush E (v := 6) dX11_sumSign_46 (by decide) ?_
            refine j_goto E 52 dX11_sumSign_48 rfl ?_
            exact j_sub [] (lv1 := []) rfl (jxX11_sumSign_52 hg E 6 h)
        · refine j_iconst E (v := 5) dX11_sumSign_36 (by decide) ?_
          refine j_goto E 52 dX11_sumSign_37 rfl ?_
          exact j_sub [] (lv1 := []) rfl (jxX11_sumSign_52 hg E 5 h)
      · refine j_iconst E (v := 4) dX11_sumSign_26 (by decide) ?_
        refine j_goto E 52 dX11_sumSign_27 rfl ?_
        exact j_sub [] (lv1 := []) rfl (jxX11_sumSign_52 hg E 4 h)
    · refine j_iconst E (v := 3) dX11_sumSign_16 (by decide) ?_
      refine j_goto E 52 dX11_sumSign_17 rfl ?_
      exact j_sub [] (lv1 := []) rfl (jxX11_sumSign_52 hg E 3 h)
  · refine j_iconst E (v := 2) dX11_sumSign_6 (by decide) ?_
    refine j_goto E 52 dX11_sumSign_7 rfl ?_
    exact j_sub [] (lv1 := []) rfl (jxX11_sumSign_52 hg E 2 h)
theorem ok_X11_sumSign {g : GC} (hg : isGM g) (hI : gI g) (a0 : Int32) (h : HP) : Ok g yX11_sumSign mX11_sumSign [.int a0] h (xX11_sumSign a0 h) := Ok.of hI (by decide) rfl (Nat.le_of_ble_eq_true rfl) (fun X E => jxX11_sumSign hg E a0 h)
set_option maxRecDepth 20000 in
set_option maxHeartbeats 4000000 in
theorem jxX11_closesSums_37 {g : GC} (hg : isGM g) {X : MX} (N : Nat) (E : JE g mX11_closesSums X) (K0 : Int32 → HP → Option (Int32 × HP)) (hK0 : ∀ (a1 : Int32) (h : HP), J g mX11_closesSums X 0 [(0, .ref (g.2.2.1 0)), (1, .int a1)] [] h (K0 a1 h)) (a1 : Int32) (h : HP) : J g mX11_closesSums X 37 [(0, .ref (g.2.2.1 0)), (1, .int a1)] [] h (xX11_closesSums_37 N K0 a1 h) := by
  unfold xX11_closesSums_37
  refine j_aload_n E dX11_closesSums_37 0 rfl ?_
  refine j_aload_n E dX11_closesSums_38 0 rfl ?_
  refine j_callvI (As := []) (st := [.ref (g.2.2.1 0)]) E (ok_X11_waitTop hg E.2.2.2.2.2.2.2.1 h) (cM_0 hg) (cl_X11_195) (⟨Nat.le_of_ble_eq_true rfl, Nat.le_of_ble_eq_true rfl⟩) rfl rfl (Nat.le_of_ble_eq_true rfl) dX11_closesSums_39 (fun t1 h2 => ?_)
  refine j_iconst E (v := 0) dX11_closesSums_42 (by decide) ?_
  refine j_callvV (As := [.int t1, .int 0]) (st := []) E (ok_X11_notes hg E.2.2.2.2.2.2.2.1 t1 0 h2) (cM_0 hg) (cl_X11_198) (⟨Nat.le_of_ble_eq_true rfl, Nat.le_of_ble_eq_true rfl⟩) rfl rfl (Nat.le_of_ble_eq_true rfl) dX11_closesSums_43 (fun t3 h4 => ?_)
  refine j_aload_n E dX11_closesSums_46 0 rfl ?_
  refine j_aload_n E dX11_closesSums_47 0 rfl ?_
  refine j_geti E f_X11_192 (cM_0 hg) rfl dX11_closesSums_48 ?_
  refine j_iconst E (v := 1) dX11_closesSums_51 (by decide) ?_
  refine j_isub E dX11_closesSums_52 ?_
  refine j_puti E fp_X11_192 (cM_0 hg) rfl dX11_closesSums_53 (fun h5 => ?_)
  refine j_goto E 0 dX11_closesSums_56 rfl ?_
  exact hK0 a1 h5
set_option maxRecDepth 20000 in
set_option maxHeartbeats 4000000 in
theorem jxX11_closesSums_59 {g : GC} (hg : isGM g) {X : MX} (N : Nat) (E : JE g mX11_closesSums X) (h : HP) : J g mX11_closesSums X 59 [] [] h (xX11_closesSums_59 N h) := by
  unfold xX11_closesSums_59
  exact j_vreturn E rfl dX11_closesSums_59
set_option maxRecDepth 20000 in
set_option maxHeartbeats 4000000 in
theorem jxX11_closesSums_17 {g : GC} (hg : isGM g) {X : MX} (N : Nat) (E : JE g mX11_closesSums X) (K0 : Int32 → HP → Option (Int32 × HP)) (hK0 : ∀ (a1 : Int32) (h : HP), J g mX11_closesSums X 0 [(0, .ref (g.2.2.1 0)), (1, .int a1)] [] h (K0 a1 h)) (a1 : Int32) (h : HP) : J g mX11_closesSums X 17 [(0, .ref (g.2.2.1 0)), (1, .int a1)] [] h (xX11_closesSums_17 N K0 a1 h) := by
  unfold xX11_closesSums_17
  refine j_iload_n E dX11_closesSums_17 1 rfl ?_
  refine j_if_eq E 59 dX11_closesSums_18 rfl ?_ ?_
  · exact j_sub [] (lv1 := []) rfl (jxX11_closesSums_59 hg N E h)
  · refine j_aload_n E dX11_closesSums_21 0 rfl ?_
    refine j_callvI (As := []) (st := []) E (ok_X11_waitTop hg E.2.2.2.2.2.2.2.1 h) (cM_0 hg) (cl_X11_195) (⟨Nat.le_of_ble_eq_true rfl, Nat.le_of_ble_eq_true rfl⟩) rfl rfl (Nat.le_of_ble_eq_true rfl) dX11_closesSums_22 (fun t1 h2 => ?_)
    refine j_iconst E (v := 2) dX11_closesSums_25 (by decide) ?_
    refine j_cmp_eq E 37 dX11_closesSums_26 rfl ?_ ?_
    · exact jxX11_closesSums_37 hg N E K0 hK0 a1 h2
    · refine j_aload_n E dX11_closesSums_29 0 rfl ?_
      refine j_callvI (As := []) (st := []) E (ok_X11_waitTop hg E.2.2.2.2.2.2.2.1 h2) (cM_0 hg) (cl_X11_195) (⟨Nat.le_of_ble_eq_true rfl, Nat.le_of_ble_eq_true rfl⟩) rfl rfl (Nat.le_of_ble_eq_true rfl) dX11_closesSums_30 (fun t3 h4 => ?_)
      refine j_iconst E (v := 3) dX11_closesSums_33 (by decide) ?_
      refine j_cmp_ne E 59 dX11_closesSums_34 rfl ?_ ?_
      · exact j_sub [] (lv1 := []) rfl (jxX11_closesSums_59 hg N E h4)
      · exact jxX11_closesSums_37 hg N E K0 hK0 a1 h4
set_option maxRecDepth 20000 in
set_option maxHeartbeats 4000000 in
theorem jxX11_closesSums_0 {g : GC} (hg : isGM g) {X : MX} (N : Nat) (E : JE g mX11_closesSums X) : ∀ (n : Nat) (a1 : Int32) (h : HP), J g mX11_closesSums X 0 [(0, .ref (g.2.2.1 0)), (1, .int a1)] [] h (xX11_closesSums_0 N n a1 h) := by
  intro n
  induction n with
  | zero => intro a1 h; exact j_none
  | succ n ih =>
    intro a1 h
    unfold xX11_closesSums_0
    refine j_aload_n E dX11_closesSums_0 0 rfl ?_
    refine j_callvI (As := []) (st := []) E (ok_X11_waitTop hg E.2.2.2.2.2.2.2.1 h) (cM_0 hg) (cl_X11_195) (⟨Nat.le_of_ble_eq_true rfl, Nat.le_of_ble_eq_true rfl⟩) rfl rfl (Nat.le_of_ble_eq_true rfl) dX11_closesSums_1 (fun t1 h2 => ?_)
    refine j_iconst E (v := 4) dX11_closesSums_4 (by decide) ?_
    refine j_cmp_lt E 17 dX11_closesSums_5 rfl ?_ ?_
    · exact jxX11_closesSums_17 hg N E (xX11_closesSums_0 N n) ih a1 h2
    · refine j_aload_n E dX11_closesSums_8 0 rfl ?_
      refine j_callvI (As := []) (st := []) E (ok_X11_waitTop hg E.2.2.2.2.2.2.2.1 h2) (cM_0 hg) (cl_X11_195) (⟨Nat.le_of_ble_eq_true rfl, Nat.le_of_ble_eq_true rfl⟩) rfl rfl (Nat.le_of_ble_eq_true rfl) dX11_closesSums_9 (fun t3 h4 => ?_)
      refine j_bipush E (v := 6) dX11_closesSums_12 (by decide) ?_
      refine j_cmp_le E 37 dX11_closesSums_14 rfl ?_ ?_
      · exact jxX11_closesSums_37 hg N E (xX11_closesSums_0 N n) ih a1 h4
      · exact jxX11_closesSums_17 hg N E (xX11_closesSums_0 N n) ih a1 h4
theorem ok_X11_closesSums {g : GC} (hg : isGM g) (hI : gI g) (N : Nat) (a1 : Int32) (h : HP) : Ok g yX11_closesSums mX11_closesSums [.ref (g.2.2.1 0), .int a1] h (xX11_closesSums N a1 h) := Ok.of hI (by decide) rfl (Nat.le_of_ble_eq_true rfl) (fun X E => jxX11_closesSums_0 hg N E N a1 h)
set_option maxRecDepth 20000 in
set_option maxHeartbeats 4000000 in
theorem jxX11_readsFactor_0 {g : GC} (hg : isGM g) {X : MX} (N : Nat) (E : JE g mX11_readsFactor X) : ∀ (n : Nat) (h : HP), J g mX11_readsFactor X 0 [(0, .ref (g.2.2.1 0))] [] h (xX11_readsFactor_0 N n h) := by
  intro n
  induction n with
  | zero => intro h; exact j_none
  | succ n ih =>
    intro h
    unfold xX11_readsFactor_0
    refine j_aload_n E dX11_readsFactor_0 0 rfl ?_
    refine j_callvI (As := []) (st := []) E (ok_X11_here hg E.2.2.2.2.2.2.2.1 h) (cM_0 hg) (cl_X11_168) (⟨Nat.le_of_ble_eq_true rfl, Nat.le_of_ble_eq_true rfl⟩) rfl rfl (Nat.le_of_ble_eq_true rfl) dX11_readsFactor_1 (fun t1 h2 => ?_)
    refine j_bipush E (v := 91) dX11_readsFactor_4 (by decide) ?_
    refine j_cmp_ne E 20 dX11_readsFactor_6 rfl ?_ ?_
    · refine j_aload_n E dX11_readsFactor_20 0 rfl ?_
      refine j_callvI (As := []) (st := []) E (ok_X11_isDigit hg E.2.2.2.2.2.2.2.1 h2) (cM_0 hg) (cl_X11_181) (⟨Nat.le_of_ble_eq_true rfl, Nat.le_of_ble_eq_true rfl⟩) rfl rfl (Nat.le_of_ble_eq_true rfl) dX11_readsFactor_21 (fun t3 h4 => ?_)
      refine j_if_eq E 47 dX11_readsFactor_24 rfl ?_ ?_
      · refine j_aload_n E dX11_readsFactor_47 0 rfl ?_
        refine j_callvI (As := []) (st := []) E (ok_X11_here hg E.2.2.2.2.2.2.2.1 h4) (cM_0 hg) (cl_X11_168) (⟨Nat.le_of_ble_eq_true rfl, Nat.le_of_ble_eq_true rfl⟩) rfl rfl (Nat.le_of_ble_eq_true rfl) dX11_readsFactor_48 (fun t5 h6 => ?_)
        refine j_callsI (As := [.int t5]) (st := []) E (ok_X11_factOf hg E.2.2.2.2.2.2.2.1 t5 h6) (cl_X11_208) (⟨Nat.le_of_ble_eq_true rfl, Nat.le_of_ble_eq_true rfl⟩) rfl rfl (Nat.le_of_ble_eq_true rfl) dX11_readsFactor_51 (fun t7 h8 => ?_)
        refine j_istore0_n E dX11_readsFactor_54 (Nat.le_of_ble_eq_true rfl) [(1, .int t7), (0, .ref (g.2.2.1 0))] rfl ?_
        refine j_iload_n E dX11_readsFactor_55 0 rfl ?_
        refine j_iconst E (v := (-1)) dX11_readsFactor_56 (by decide) ?_
        refine j_cmp_ne E 70 dX11_readsFactor_57 rfl ?_ ?_
        · refine j_aload_n E dX11_readsFactor_70 1 rfl ?_
          refine j_iconst E (v := 1) dX11_readsFactor_71 (by decide) ?_
          refine j_iload_n E dX11_readsFactor_72 0 rfl ?_
          refine j_callvV (As := [.int 1, .int t7]) (st := []) E (ok_X11_notes hg E.2.2.2.2.2.2.2.1 1 t7 h8) (cM_0 hg) (cl_X11_198) (⟨Nat.le_of_ble_eq_true rfl, Nat.le_of_ble_eq_true rfl⟩) rfl rfl (Nat.le_of_ble_eq_true rfl) dX11_readsFactor_73 (fun t9 h10 => ?_)
          refine j_aload_n E dX11_readsFactor_76 1 rfl ?_
          refine j_aload_n E dX11_readsFactor_77 1 rfl ?_
          refine j_geti E f_X11_162 (cM_0 hg) rfl dX11_readsFactor_78 ?_
          refine j_iconst E (v := 1) dX11_readsFactor_81 (by decide) ?_
          refine j_iadd E dX11_readsFactor_82 ?_
          refine j_puti E fp_X11_162 (cM_0 hg) rfl dX11_readsFactor_83 (fun h11 => ?_)
          refine j_iconst E (v := 1) dX11_readsFactor_86 (by decide) ?_
          exact j_zreturn E rfl dX11_readsFactor_87
        · refine j_aload_n E dX11_readsFactor_60 1 rfl ?_
          refine j_iconst E (v := 1) dX11_readsFactor_61 (by decide) ?_
          refine j_aload_n E dX11_readsFactor_62 1 rfl ?_
          refine j_geti E f_X11_162 (cM_0 hg) rfl dX11_readsFactor_63 ?_
          refine j_callvI (As := [.int 1, .int (h8.1 0 11)]) (st := []) E (ok_X11_wrongAt hg E.2.2.2.2.2.2.2.1 1 (h8.1 0 11) h8) (cM_0 hg) (cl_X11_175) (⟨Nat.le_of_ble_eq_true rfl, Nat.le_of_ble_eq_true rfl⟩) rfl rfl (Nat.le_of_ble_eq_true rfl) dX11_readsFactor_66 (fun t12 h13 => ?_)
          exact j_zreturn E rfl dX11_readsFactor_69
      · refine j_aload_n E dX11_readsFactor_27 0 rfl ?_
        refine j_callvI (As := []) (st := []) E (ok_X11_readsNumber hg E.2.2.2.2.2.2.2.1 N h4) (cM_0 hg) (cl_X11_205) (⟨Nat.le_of_ble_eq_true rfl, Nat.le_of_ble_eq_true rfl⟩) rfl rfl (Nat.le_of_ble_eq_true rfl) dX11_readsFactor_28 (fun t14 h15 => ?_)
        refine j_if_ne E 36 dX11_readsFactor_31 rfl ?_ ?_
        · refine j_aload_n E dX11_readsFactor_36 0 rfl ?_
          refine j_iconst E (v := 0) dX11_readsFactor_37 (by decide) ?_
          refine j_aload_n E dX11_readsFactor_38 0 rfl ?_
          refine j_geti E f_X11_178 (cM_0 hg) rfl dX11_readsFactor_39 ?_
          refine j_callvV (As := [.int 0, .int (h15.1 0 14)]) (st := []) E (ok_X11_notes hg E.2.2.2.2.2.2.2.1 0 (h15.1 0 14) h15) (cM_0 hg) (cl_X11_198) (⟨Nat.le_of_ble_eq_true rfl, Nat.le_of_ble_eq_true rfl⟩) rfl rfl (Nat.le_of_ble_eq_true rfl) dX11_readsFactor_42 (fun t16 h17 => ?_)
          refine j_iconst E (v := 1) dX11_readsFactor_45 (by decide) ?_
          exact j_zreturn E rfl dX11_readsFactor_46
        · refine j_iconst E (v := 0) dX11_readsFactor_34 (by decide) ?_
          exact j_zreturn E rfl dX11_readsFactor_35
    · refine j_aload_n E dX11_readsFactor_9 0 rfl ?_
      refine j_bipush E (v := 14) dX11_readsFactor_10 (by decide) ?_
      refine j_callvI (As := [.int 14]) (st := []) E (ok_X11_opens hg E.2.2.2.2.2.2.2.1 14 h2) (cM_0 hg) (cl_X11_202) (⟨Nat.le_of_ble_eq_true rfl, Nat.le_of_ble_eq_true rfl⟩) rfl rfl (Nat.le_of_ble_eq_true rfl) dX11_readsFactor_12 (fun t18 h19 => ?_)
      refine j_if_ne E 0 dX11_readsFactor_15 rfl ?_ ?_
      · exact ih h19
      · refine j_iconst E (v := 0) dX11_readsFactor_18 (by decide) ?_
        exact j_zreturn E rfl dX11_readsFactor_19
theorem ok_X11_readsFactor {g : GC} (hg : isGM g) (hI : gI g) (N : Nat) (h : HP) : Ok g yX11_readsFactor mX11_readsFactor [.ref (g.2.2.1 0)] h (xX11_readsFactor N h) := Ok.of hI (by decide) rfl (Nat.le_of_ble_eq_true rfl) (fun X E => jxX11_readsFactor_0 hg N E N h)
set_option maxRecDepth 20000 in
set_option maxHeartbeats 4000000 in
theorem jxX11_hasOpenSum_2 {g : GC} (hg : isGM g) {X : MX} (N : Nat) (E : JE g mX11_hasOpenSum X) : ∀ (n : Nat) (a2 : Int32) (h : HP), J g mX11_hasOpenSum X 2 [(0, .ref (g.2.2.1 0)), (2, .int a2)] [] h (xX11_hasOpenSum_2 N n a2 h) := by
  intro n
  induction n with
  | zero => intro a2 h; exact j_none
  | succ n ih =>
    intro a2 h
    unfold xX11_hasOpenSum_2
    refine j_iload_n E dX11_hasOpenSum_2 1 rfl ?_
    refine j_aload_n E dX11_hasOpenSum_3 0 rfl ?_
    refine j_geti E f_X11_192 (cM_0 hg) rfl dX11_hasOpenSum_4 ?_
    refine j_cmp_ge E 32 dX11_hasOpenSum_7 rfl ?_ ?_
    · refine j_iconst E (v := 0) dX11_hasOpenSum_32 (by decide) ?_
      exact j_zreturn E rfl dX11_hasOpenSum_33
    · refine j_aload_n E dX11_hasOpenSum_10 0 rfl ?_
      refine j_getr E f_X11_38 (cM_0 hg) 10 rfl dX11_hasOpenSum_11 ?_
      refine j_iload_n E dX11_hasOpenSum_14 1 rfl ?_
      refine j_iald E (cM_10 hg) dX11_hasOpenSum_15 (fun t1 => ?_)
      refine j_ldc E (v := 1048576) k_X11_188 dX11_hasOpenSum_16 ?_
      refine j_idivc E (by decide) dX11_hasOpenSum_18 ?_
      refine j_bipush E (v := 14) dX11_hasOpenSum_19 (by decide) ?_
      refine j_cmp_ne E 26 dX11_hasOpenSum_21 rfl ?_ ?_
      · refine j_iinc E (c := 1) dX11_hasOpenSum_26 1 rfl (by decide) (Nat.le_of_ble_eq_true rfl) (fun v2 => [(2, .int v2), (0, .ref (g.2.2.1 0))]) (fun _ => rfl) (fun v2 => ?_)
        refine j_goto E 2 dX11_hasOpenSum_29 rfl ?_
        exact j_sub [1, 0] (lv1 := [(0, .ref (g.2.2.1 0)), (2, .int v2)]) rfl (ih v2 h)
      · refine j_iconst E (v := 1) dX11_hasOpenSum_24 (by decide) ?_
        exact j_zreturn E rfl dX11_hasOpenSum_25
set_option maxRecDepth 20000 in
set_option maxHeartbeats 4000000 in
theorem jxX11_hasOpenSum {g : GC} (hg : isGM g) {X : MX} (N : Nat) (E : JE g mX11_hasOpenSum X) (a1 : Int32) (h : HP) : J g mX11_hasOpenSum X 0 [(0, .ref (g.2.2.1 0)), (1, .int a1)] [] h (xX11_hasOpenSum N a1 h) := by
  unfold xX11_hasOpenSum
  refine j_iload_n E dX11_hasOpenSum_0 1 rfl ?_
  refine j_istore0_n E dX11_hasOpenSum_1 (Nat.le_of_ble_eq_true rfl) [(2, .int a1), (0, .ref (g.2.2.1 0)), (1, .int a1)] rfl ?_
  exact j_sub [1, 0] (lv1 := [(0, .ref (g.2.2.1 0)), (2, .int a1)]) rfl (jxX11_hasOpenSum_2 hg N E N a1 h)
theorem ok_X11_hasOpenSum {g : GC} (hg : isGM g) (hI : gI g) (N : Nat) (a1 : Int32) (h : HP) : Ok g yX11_hasOpenSum mX11_hasOpenSum [.ref (g.2.2.1 0), .int a1] h (xX11_hasOpenSum N a1 h) := Ok.of hI (by decide) rfl (Nat.le_of_ble_eq_true rfl) (fun X E => jxX11_hasOpenSum hg N E a1 h)
set_option maxRecDepth 20000 in
set_option maxHeartbeats 4000000 in
theorem jxX11_readsSum_163 {g : GC} (hg : isGM g) {X : MX} (N : Nat) (E : JE g mX11_readsSum X) (K14 : Int32 → HP → Option (Int32 × HP)) (hK14 : ∀ (a1 : Int32) (h : HP), J g mX11_readsSum X 14 [(0, .ref (g.2.2.1 0)), (1, .int a1)] [] h (K14 a1 h)) (a1 : Int32) (h : HP) : J g mX11_readsSum X 163 [(0, .ref (g.2.2.1 0)), (1, .int a1)] [] h (xX11_readsSum_163 N K14 a1 h) := by
  unfold xX11_readsSum_163
  refine j_goto E 14 dX11_readsSum_163 rfl ?_
  exact hK14 a1 h
set_option maxRecDepth 20000 in
set_option maxHeartbeats 4000000 in
theorem jxX11_readsSum_38 {g : GC} (hg : isGM g) {X : MX} (N : Nat) (E : JE g mX11_readsSum X) (K14 : Int32 → HP → Option (Int32 × HP)) (hK14 : ∀ (a1 : Int32) (h : HP), J g mX11_readsSum X 14 [(0, .ref (g.2.2.1 0)), (1, .int a1)] [] h (K14 a1 h)) (a1 : Int32) (a2 : Int32) (s1 : Int32) (h : HP) : J g mX11_readsSum X 38 [(0, .ref (g.2.2.1 0)), (1, .int a1), (2, .int a2)] [.int s1, .ref (g.2.2.1 0)] h (xX11_readsSum_38 N K14 a1 a2 s1 h) := by
  unfold xX11_readsSum_38
  refine j_callvV (As := [.int s1]) (st := []) E (ok_X11_closesSums hg E.2.2.2.2.2.2.2.1 N s1 h) (cM_0 hg) (cl_X11_218) (⟨Nat.le_of_ble_eq_true rfl, Nat.le_of_ble_eq_true rfl⟩) rfl rfl (Nat.le_of_ble_eq_true rfl) dX11_readsSum_38 (fun t1 h2 => ?_)
  refine j_aload_n E dX11_readsSum_41 0 rfl ?_
  refine j_getr E f_X11_38 (cM_0 hg) 10 rfl dX11_readsSum_42 ?_
  refine j_aload_n E dX11_readsSum_45 0 rfl ?_
  refine j_geti E f_X11_192 (cM_0 hg) rfl dX11_readsSum_46 ?_
  refine j_ldc E (v := 1048576) k_X11_188 dX11_readsSum_49 ?_
  refine j_iload_n E dX11_readsSum_51 2 rfl ?_
  refine j_imul E dX11_readsSum_52 ?_
  refine j_iast E (cM_10 hg) dX11_readsSum_53 (fun h3 => ?_)
  refine j_aload_n E dX11_readsSum_54 0 rfl ?_
  refine j_aload_n E dX11_readsSum_55 0 rfl ?_
  refine j_geti E f_X11_192 (cM_0 hg) rfl dX11_readsSum_56 ?_
  refine j_iconst E (v := 1) dX11_readsSum_59 (by decide) ?_
  refine j_iadd E dX11_readsSum_60 ?_
  refine j_puti E fp_X11_192 (cM_0 hg) rfl dX11_readsSum_61 (fun h4 => ?_)
  refine j_aload_n E dX11_readsSum_64 0 rfl ?_
  refine j_aload_n E dX11_readsSum_65 0 rfl ?_
  refine j_geti E f_X11_162 (cM_0 hg) rfl dX11_readsSum_66 ?_
  refine j_iconst E (v := 1) dX11_readsSum_69 (by decide) ?_
  refine j_iadd E dX11_readsSum_70 ?_
  refine j_puti E fp_X11_162 (cM_0 hg) rfl dX11_readsSum_71 (fun h5 => ?_)
  refine j_aload_n E dX11_readsSum_74 0 rfl ?_
  refine j_callvI (As := []) (st := []) E (ok_X11_readsFactor hg E.2.2.2.2.2.2.2.1 N h5) (cM_0 hg) (cl_X11_212) (⟨Nat.le_of_ble_eq_true rfl, Nat.le_of_ble_eq_true rfl⟩) rfl rfl (Nat.le_of_ble_eq_true rfl) dX11_readsSum_75 (fun t6 h7 => ?_)
  refine j_if_ne E 163 dX11_readsSum_78 rfl ?_ ?_
  · exact j_sub [0, 1] (lv1 := [(0, .ref (g.2.2.1 0)), (1, .int a1)]) rfl (jxX11_readsSum_163 hg N E K14 hK14 a1 h7)
  · refine j_iconst E (v := 0) dX11_readsSum_81 (by decide) ?_
    exact j_zreturn E rfl dX11_readsSum_82
set_option maxRecDepth 20000 in
set_option maxHeartbeats 4000000 in
theorem jxX11_readsSum_138 {g : GC} (hg : isGM g) {X : MX} (N : Nat) (E : JE g mX11_readsSum X) (a1 : Int32) (h : HP) : J g mX11_readsSum X 138 [(0, .ref (g.2.2.1 0)), (1, .int a1)] [] h (xX11_readsSum_138 N a1 h) := by
  unfold xX11_readsSum_138
  refine j_aload_n E dX11_readsSum_138 0 rfl ?_
  refine j_iload_n E dX11_readsSum_139 1 rfl ?_
  refine j_callvI (As := [.int a1]) (st := []) E (ok_X11_hasOpenSum hg E.2.2.2.2.2.2.2.1 N a1 h) (cM_0 hg) (cl_X11_222) (⟨Nat.le_of_ble_eq_true rfl, Nat.le_of_ble_eq_true rfl⟩) rfl rfl (Nat.le_of_ble_eq_true rfl) dX11_readsSum_140 (fun t1 h2 => ?_)
  refine j_if_eq E 156 dX11_readsSum_143 rfl ?_ ?_
  · refine j_aload_n E dX11_readsSum_156 0 rfl ?_
    refine j_iconst E (v := 1) dX11_readsSum_157 (by decide) ?_
    refine j_callvV (As := [.int 1]) (st := []) E (ok_X11_closesSums hg E.2.2.2.2.2.2.2.1 N 1 h2) (cM_0 hg) (cl_X11_218) (⟨Nat.le_of_ble_eq_true rfl, Nat.le_of_ble_eq_true rfl⟩) rfl rfl (Nat.le_of_ble_eq_true rfl) dX11_readsSum_158 (fun t3 h4 => ?_)
    refine j_iconst E (v := 1) dX11_readsSum_161 (by decide) ?_
    exact j_zreturn E rfl dX11_readsSum_162
  · refine j_aload_n E dX11_readsSum_146 0 rfl ?_
    refine j_iconst E (v := 1) dX11_readsSum_147 (by decide) ?_
    refine j_aload_n E dX11_readsSum_148 0 rfl ?_
    refine j_geti E f_X11_162 (cM_0 hg) rfl dX11_readsSum_149 ?_
    refine j_callvI (As := [.int 1, .int (h2.1 0 11)]) (st := []) E (ok_X11_wrongAt hg E.2.2.2.2.2.2.2.1 1 (h2.1 0 11) h2) (cM_0 hg) (cl_X11_175) (⟨Nat.le_of_ble_eq_true rfl, Nat.le_of_ble_eq_true rfl⟩) rfl rfl (Nat.le_of_ble_eq_true rfl) dX11_readsSum_152 (fun t5 h6 => ?_)
    exact j_zreturn E rfl dX11_readsSum_155
set_option maxRecDepth 20000 in
set_option maxHeartbeats 4000000 in
theorem jxX11_readsSum_14 {g : GC} (hg : isGM g) {X : MX} (N : Nat) (E : JE g mX11_readsSum X) : ∀ (n : Nat) (a1 : Int32) (h : HP), J g mX11_readsSum X 14 [(0, .ref (g.2.2.1 0)), (1, .int a1)] [] h (xX11_readsSum_14 N n a1 h) := by
  intro n
  induction n with
  | zero => intro a1 h; exact j_none
  | succ n ih =>
    intro a1 h
    unfold xX11_readsSum_14
    refine j_aload_n E dX11_readsSum_14 0 rfl ?_
    refine j_callvI (As := []) (st := []) E (ok_X11_here hg E.2.2.2.2.2.2.2.1 h) (cM_0 hg) (cl_X11_168) (⟨Nat.le_of_ble_eq_true rfl, Nat.le_of_ble_eq_true rfl⟩) rfl rfl (Nat.le_of_ble_eq_true rfl) dX11_readsSum_15 (fun t1 h2 => ?_)
    refine j_callsI (As := [.int t1]) (st := []) E (ok_X11_sumSign hg E.2.2.2.2.2.2.2.1 t1 h2) (cl_X11_215) (⟨Nat.le_of_ble_eq_true rfl, Nat.le_of_ble_eq_true rfl⟩) rfl rfl (Nat.le_of_ble_eq_true rfl) dX11_readsSum_18 (fun t3 h4 => ?_)
    refine j_istore0_n E dX11_readsSum_21 (Nat.le_of_ble_eq_true rfl) [(2, .int t3), (0, .ref (g.2.2.1 0)), (1, .int a1)] rfl ?_
    refine j_iload_n E dX11_readsSum_22 0 rfl ?_
    refine j_iconst E (v := (-1)) dX11_readsSum_23 (by decide) ?_
    refine j_cmp_eq E 83 dX11_readsSum_24 rfl ?_ ?_
    · refine j_aload_n E dX11_readsSum_83 1 rfl ?_
      refine j_callvI (As := []) (st := []) E (ok_X11_here hg E.2.2.2.2.2.2.2.1 h4) (cM_0 hg) (cl_X11_168) (⟨Nat.le_of_ble_eq_true rfl, Nat.le_of_ble_eq_true rfl⟩) rfl rfl (Nat.le_of_ble_eq_true rfl) dX11_readsSum_84 (fun t5 h6 => ?_)
      refine j_bipush E (v := 93) dX11_readsSum_87 (by decide) ?_
      refine j_cmp_ne E 138 dX11_readsSum_89 rfl ?_ ?_
      · exact j_sub [1, 2] (lv1 := [(0, .ref (g.2.2.1 0)), (1, .int a1)]) rfl (jxX11_readsSum_138 hg N E a1 h6)
      · refine j_aload_n E dX11_readsSum_92 1 rfl ?_
        refine j_iload_n E dX11_readsSum_93 2 rfl ?_
        refine j_callvI (As := [.int a1]) (st := []) E (ok_X11_hasOpenSum hg E.2.2.2.2.2.2.2.1 N a1 h6) (cM_0 hg) (cl_X11_222) (⟨Nat.le_of_ble_eq_true rfl, Nat.le_of_ble_eq_true rfl⟩) rfl rfl (Nat.le_of_ble_eq_true rfl) dX11_readsSum_94 (fun t7 h8 => ?_)
        refine j_if_eq E 138 dX11_readsSum_97 rfl ?_ ?_
        · exact j_sub [1, 2] (lv1 := [(0, .ref (g.2.2.1 0)), (1, .int a1)]) rfl (jxX11_readsSum_138 hg N E a1 h8)
        · refine j_aload_n E dX11_readsSum_100 1 rfl ?_
          refine j_iconst E (v := 1) dX11_readsSum_101 (by decide) ?_
          refine j_callvV (As := [.int 1]) (st := []) E (ok_X11_closesSums hg E.2.2.2.2.2.2.2.1 N 1 h8) (cM_0 hg) (cl_X11_218) (⟨Nat.le_of_ble_eq_true rfl, Nat.le_of_ble_eq_true rfl⟩) rfl rfl (Nat.le_of_ble_eq_true rfl) dX11_readsSum_102 (fun t9 h10 => ?_)
          refine j_aload_n E dX11_readsSum_105 1 rfl ?_
          refine j_aload_n E dX11_readsSum_106 1 rfl ?_
          refine j_geti E f_X11_192 (cM_0 hg) rfl dX11_readsSum_107 ?_
          refine j_iconst E (v := 1) dX11_readsSum_110 (by decide) ?_
          refine j_isub E dX11_readsSum_111 ?_
          refine j_puti E fp_X11_192 (cM_0 hg) rfl dX11_readsSum_112 (fun h11 => ?_)
          refine j_aload_n E dX11_readsSum_115 1 rfl ?_
          refine j_aload_n E dX11_readsSum_116 1 rfl ?_
          refine j_geti E f_X11_189 (cM_0 hg) rfl dX11_readsSum_117 ?_
          refine j_iconst E (v := 1) dX11_readsSum_120 (by decide) ?_
          refine j_isub E dX11_readsSum_121 ?_
          refine j_puti E fp_X11_189 (cM_0 hg) rfl dX11_readsSum_122 (fun h12 => ?_)
          refine j_aload_n E dX11_readsSum_125 1 rfl ?_
          refine j_aload_n E dX11_readsSum_126 1 rfl ?_
          refine j_geti E f_X11_162 (cM_0 hg) rfl dX11_readsSum_127 ?_
          refine j_iconst E (v := 1) dX11_readsSum_130 (by decide) ?_
          refine j_iadd E dX11_readsSum_131 ?_
          refine j_puti E fp_X11_162 (cM_0 hg) rfl dX11_readsSum_132 (fun h13 => ?_)
          refine j_goto E 163 dX11_readsSum_135 rfl ?_
          exact j_sub [1, 2] (lv1 := [(0, .ref (g.2.2.1 0)), (1, .int a1)]) rfl (jxX11_readsSum_163 hg N E (xX11_readsSum_14 N n) ih a1 h13)
    · refine j_aload_n E dX11_readsSum_27 1 rfl ?_
      refine j_iload_n E dX11_readsSum_28 0 rfl ?_
      refine j_iconst E (v := 4) dX11_readsSum_29 (by decide) ?_
      refine j_cmp_ge E 37 dX11_readsSum_30 rfl ?_ ?_
      · refine j_iconst E (v := 0) dX11_readsSum_37 (by decide) ?_
        exact j_sub [1, 2, 0] (lv1 := [(0, .ref (g.2.2.1 0)), (1, .int a1), (2, .int t3)]) rfl (jxX11_readsSum_38 hg N E (xX11_readsSum_14 N n) ih a1 t3 0 h4)
      · refine j_iconst E (v := 1) dX11_readsSum_33 (by decide) ?_
        refine j_goto E 38 dX11_readsSum_34 rfl ?_
        exact j_sub [1, 2, 0] (lv1 := [(0, .ref (g.2.2.1 0)), (1, .int a1), (2, .int t3)]) rfl (jxX11_readsSum_38 hg N E (xX11_readsSum_14 N n) ih a1 t3 1 h4)
set_option maxRecDepth 20000 in
set_option maxHeartbeats 4000000 in
theorem jxX11_readsSum {g : GC} (hg : isGM g) {X : MX} (N : Nat) (E : JE g mX11_readsSum X) (h : HP) : J g mX11_readsSum X 0 [(0, .ref (g.2.2.1 0))] [] h (xX11_readsSum N h) := by
  unfold xX11_readsSum
  refine j_aload_n E dX11_readsSum_0 0 rfl ?_
  refine j_geti E f_X11_192 (cM_0 hg) rfl dX11_readsSum_1 ?_
  refine j_istore_n E dX11_readsSum_4 (Nat.le_of_ble_eq_true rfl) (fun v1 => [(1, .int v1), (0, .ref (g.2.2.1 0))]) (fun _ => rfl) (fun v1 => ?_)
  refine j_aload_n E dX11_readsSum_5 1 rfl ?_
  refine j_callvI (As := []) (st := []) E (ok_X11_readsFactor hg E.2.2.2.2.2.2.2.1 N h) (cM_0 hg) (cl_X11_212) (⟨Nat.le_of_ble_eq_true rfl, Nat.le_of_ble_eq_true rfl⟩) rfl rfl (Nat.le_of_ble_eq_true rfl) dX11_readsSum_6 (fun t2 h3 => ?_)
  refine j_if_ne E 14 dX11_readsSum_9 rfl ?_ ?_
  · exact j_sub [1, 0] (lv1 := [(0, .ref (g.2.2.1 0)), (1, .int v1)]) rfl (jxX11_readsSum_14 hg N E N v1 h3)
  · refine j_iconst E (v := 0) dX11_readsSum_12 (by decide) ?_
    exact j_zreturn E rfl dX11_readsSum_13
theorem ok_X11_readsSum {g : GC} (hg : isGM g) (hI : gI g) (N : Nat) (h : HP) : Ok g yX11_readsSum mX11_readsSum [.ref (g.2.2.1 0)] h (xX11_readsSum N h) := Ok.of hI (by decide) rfl (Nat.le_of_ble_eq_true rfl) (fun X E => jxX11_readsSum hg N E h)
set_option maxRecDepth 20000 in
set_option maxHeartbeats 4000000 in
theorem jxX11_endsPiece_0 {g : GC} (hg : isGM g) {X : MX} (N : Nat) (E : JE g mX11_endsPiece X) : ∀ (n : Nat) (h : HP), J g mX11_endsPiece X 0 [(0, .ref (g.2.2.1 0))] [] h (xX11_endsPiece_0 N n h) := by
  intro n
  induction n with
  | zero => intro h; exact j_none
  | succ n ih =>
    intro h
    unfold xX11_endsPiece_0
    refine j_aload_n E dX11_endsPiece_0 0 rfl ?_
    refine j_callvI (As := []) (st := []) E (ok_X11_waitTop hg E.2.2.2.2.2.2.2.1 h) (cM_0 hg) (cl_X11_195) (⟨Nat.le_of_ble_eq_true rfl, Nat.le_of_ble_eq_true rfl⟩) rfl rfl (Nat.le_of_ble_eq_true rfl) dX11_endsPiece_1 (fun t1 h2 => ?_)
    refine j_bipush E (v := 10) dX11_endsPiece_4 (by decide) ?_
    refine j_cmp_ne E 39 dX11_endsPiece_6 rfl ?_ ?_
    · exact j_vreturn E rfl dX11_endsPiece_39
    · refine j_aload_n E dX11_endsPiece_9 0 rfl ?_
      refine j_bipush E (v := 10) dX11_endsPiece_10 (by decide) ?_
      refine j_iconst E (v := 0) dX11_endsPiece_12 (by decide) ?_
      refine j_callvV (As := [.int 10, .int 0]) (st := []) E (ok_X11_notes hg E.2.2.2.2.2.2.2.1 10 0 h2) (cM_0 hg) (cl_X11_198) (⟨Nat.le_of_ble_eq_true rfl, Nat.le_of_ble_eq_true rfl⟩) rfl rfl (Nat.le_of_ble_eq_true rfl) dX11_endsPiece_13 (fun t3 h4 => ?_)
      refine j_aload_n E dX11_endsPiece_16 0 rfl ?_
      refine j_aload_n E dX11_endsPiece_17 0 rfl ?_
      refine j_geti E f_X11_192 (cM_0 hg) rfl dX11_endsPiece_18 ?_
      refine j_iconst E (v := 1) dX11_endsPiece_21 (by decide) ?_
      refine j_isub E dX11_endsPiece_22 ?_
      refine j_puti E fp_X11_192 (cM_0 hg) rfl dX11_endsPiece_23 (fun h5 => ?_)
      refine j_aload_n E dX11_endsPiece_26 0 rfl ?_
      refine j_aload_n E dX11_endsPiece_27 0 rfl ?_
      refine j_geti E f_X11_189 (cM_0 hg) rfl dX11_endsPiece_28 ?_
      refine j_iconst E (v := 1) dX11_endsPiece_31 (by decide) ?_
      refine j_isub E dX11_endsPiece_32 ?_
      refine j_puti E fp_X11_189 (cM_0 hg) rfl dX11_endsPiece_33 (fun h6 => ?_)
      refine j_goto E 0 dX11_endsPiece_36 rfl ?_
      exact ih h6
theorem ok_X11_endsPiece {g : GC} (hg : isGM g) (hI : gI g) (N : Nat) (h : HP) : Ok g yX11_endsPiece mX11_endsPiece [.ref (g.2.2.1 0)] h (xX11_endsPiece N h) := Ok.of hI (by decide) rfl (Nat.le_of_ble_eq_true rfl) (fun X E => jxX11_endsPiece_0 hg N E N h)
set_option maxRecDepth 20000 in
set_option maxHeartbeats 4000000 in
theorem jxX11_lands_22 {g : GC} (hg : isGM g) {X : MX} (N : Nat) (E : JE g mX11_lands X) (K0 : Int32 → HP → Option (Int32 × HP)) (hK0 : ∀ (a1 : Int32) (h : HP), J g mX11_lands X 0 [(0, .ref (g.2.2.1 0)), (1, .int a1)] [] h (K0 a1 h)) (a1 : Int32) (h : HP) : J g mX11_lands X 22 [(0, .ref (g.2.2.1 0)), (1, .int a1)] [] h (xX11_lands_22 N K0 a1 h) := by
  unfold xX11_lands_22
  refine j_aload_n E dX11_lands_22 0 rfl ?_
  refine j_getr E f_X11_38 (cM_0 hg) 10 rfl dX11_lands_23 ?_
  refine j_aload_n E dX11_lands_26 0 rfl ?_
  refine j_geti E f_X11_192 (cM_0 hg) rfl dX11_lands_27 ?_
  refine j_iconst E (v := 1) dX11_lands_30 (by decide) ?_
  refine j_isub E dX11_lands_31 ?_
  refine j_iald E (cM_10 hg) dX11_lands_32 (fun t1 => ?_)
  refine j_ldc E (v := 1048576) k_X11_188 dX11_lands_33 ?_
  refine j_rem2 E (by decide) dX11_lands_35 ?_
  refine j_istore_n E dX11_lands_36 (Nat.le_of_ble_eq_true rfl) (fun v2 => [(2, .int v2), (0, .ref (g.2.2.1 0)), (1, .int a1)]) (fun _ => rfl) (fun v2 => ?_)
  refine j_aload_n E dX11_lands_37 1 rfl ?_
  refine j_getr E f_X11_35 (cM_0 hg) 9 rfl dX11_lands_38 ?_
  refine j_iload_n E dX11_lands_41 0 rfl ?_
  refine j_ldc E (v := 1048576) k_X11_188 dX11_lands_42 ?_
  refine j_aload_n E dX11_lands_44 1 rfl ?_
  refine j_getr E f_X11_35 (cM_0 hg) 9 rfl dX11_lands_45 ?_
  refine j_iload_n E dX11_lands_48 0 rfl ?_
  refine j_iald E (cM_9 hg) dX11_lands_49 (fun t3 => ?_)
  refine j_ldc E (v := 1048576) k_X11_188 dX11_lands_50 ?_
  refine j_idivc E (by decide) dX11_lands_52 ?_
  refine j_imul E dX11_lands_53 ?_
  refine j_aload_n E dX11_lands_54 1 rfl ?_
  refine j_geti E f_X11_185 (cM_0 hg) rfl dX11_lands_55 ?_
  refine j_iadd E dX11_lands_58 ?_
  refine j_iast E (cM_9 hg) dX11_lands_59 (fun h4 => ?_)
  refine j_aload_n E dX11_lands_60 1 rfl ?_
  refine j_aload_n E dX11_lands_61 1 rfl ?_
  refine j_geti E f_X11_192 (cM_0 hg) rfl dX11_lands_62 ?_
  refine j_iconst E (v := 1) dX11_lands_65 (by decide) ?_
  refine j_isub E dX11_lands_66 ?_
  refine j_puti E fp_X11_192 (cM_0 hg) rfl dX11_lands_67 (fun h5 => ?_)
  refine j_goto E 0 dX11_lands_70 rfl ?_
  exact j_sub [1, 2] (lv1 := [(0, .ref (g.2.2.1 0)), (1, .int a1)]) rfl (hK0 a1 h5)
set_option maxRecDepth 20000 in
set_option maxHeartbeats 4000000 in
theorem jxX11_lands_73 {g : GC} (hg : isGM g) {X : MX} (N : Nat) (E : JE g mX11_lands X) (h : HP) : J g mX11_lands X 73 [] [] h (xX11_lands_73 N h) := by
  unfold xX11_lands_73
  exact j_vreturn E rfl dX11_lands_73
set_option maxRecDepth 20000 in
set_option maxHeartbeats 4000000 in
theorem jxX11_lands_0 {g : GC} (hg : isGM g) {X : MX} (N : Nat) (E : JE g mX11_lands X) : ∀ (n : Nat) (a1 : Int32) (h : HP), J g mX11_lands X 0 [(0, .ref (g.2.2.1 0)), (1, .int a1)] [] h (xX11_lands_0 N n a1 h) := by
  intro n
  induction n with
  | zero => intro a1 h; exact j_none
  | succ n ih =>
    intro a1 h
    unfold xX11_lands_0
    refine j_aload_n E dX11_lands_0 0 rfl ?_
    refine j_callvI (As := []) (st := []) E (ok_X11_waitTop hg E.2.2.2.2.2.2.2.1 h) (cM_0 hg) (cl_X11_195) (⟨Nat.le_of_ble_eq_true rfl, Nat.le_of_ble_eq_true rfl⟩) rfl rfl (Nat.le_of_ble_eq_true rfl) dX11_lands_1 (fun t1 h2 => ?_)
    refine j_bipush E (v := 11) dX11_lands_4 (by decide) ?_
    refine j_cmp_eq E 22 dX11_lands_6 rfl ?_ ?_
    · exact jxX11_lands_22 hg N E (xX11_lands_0 N n) ih a1 h2
    · refine j_iload_n E dX11_lands_9 1 rfl ?_
      refine j_if_eq E 73 dX11_lands_10 rfl ?_ ?_
      · exact j_sub [] (lv1 := []) rfl (jxX11_lands_73 hg N E h2)
      · refine j_aload_n E dX11_lands_13 0 rfl ?_
        refine j_callvI (As := []) (st := []) E (ok_X11_waitTop hg E.2.2.2.2.2.2.2.1 h2) (cM_0 hg) (cl_X11_195) (⟨Nat.le_of_ble_eq_true rfl, Nat.le_of_ble_eq_true rfl⟩) rfl rfl (Nat.le_of_ble_eq_true rfl) dX11_lands_14 (fun t3 h4 => ?_)
        refine j_bipush E (v := 12) dX11_lands_17 (by decide) ?_
        refine j_cmp_ne E 73 dX11_lands_19 rfl ?_ ?_
        · exact j_sub [] (lv1 := []) rfl (jxX11_lands_73 hg N E h4)
        · exact jxX11_lands_22 hg N E (xX11_lands_0 N n) ih a1 h4
theorem ok_X11_lands {g : GC} (hg : isGM g) (hI : gI g) (N : Nat) (a1 : Int32) (h : HP) : Ok g yX11_lands mX11_lands [.ref (g.2.2.1 0), .int a1] h (xX11_lands N a1 h) := Ok.of hI (by decide) rfl (Nat.le_of_ble_eq_true rfl) (fun X E => jxX11_lands_0 hg N E N a1 h)
set_option maxRecDepth 20000 in
set_option maxHeartbeats 4000000 in
theorem jxX11_jumps {g : GC} (hg : isGM g) {X : MX} (E : JE g mX11_jumps X) (a1 : Int32) (h : HP) : J g mX11_jumps X 0 [(0, .ref (g.2.2.1 0)), (1, .int a1)] [] h (xX11_jumps a1 h) := by
  unfold xX11_jumps
  refine j_aload_n E dX11_jumps_0 0 rfl ?_
  refine j_getr E f_X11_38 (cM_0 hg) 10 rfl dX11_jumps_1 ?_
  refine j_aload_n E dX11_jumps_4 0 rfl ?_
  refine j_geti E f_X11_192 (cM_0 hg) rfl dX11_jumps_5 ?_
  refine j_ldc E (v := 1048576) k_X11_188 dX11_jumps_8 ?_
  refine j_iload_n E dX11_jumps_10 1 rfl ?_
  refine j_imul E dX11_jumps_11 ?_
  refine j_aload_n E dX11_jumps_12 0 rfl ?_
  refine j_geti E f_X11_185 (cM_0 hg) rfl dX11_jumps_13 ?_
  refine j_iadd E dX11_jumps_16 ?_
  refine j_iast E (cM_10 hg) dX11_jumps_17 (fun h1 => ?_)
  refine j_aload_n E dX11_jumps_18 0 rfl ?_
  refine j_aload_n E dX11_jumps_19 0 rfl ?_
  refine j_geti E f_X11_192 (cM_0 hg) rfl dX11_jumps_20 ?_
  refine j_iconst E (v := 1) dX11_jumps_23 (by decide) ?_
  refine j_iadd E dX11_jumps_24 ?_
  refine j_puti E fp_X11_192 (cM_0 hg) rfl dX11_jumps_25 (fun h2 => ?_)
  refine j_aload_n E dX11_jumps_28 0 rfl ?_
  refine j_iload_n E dX11_jumps_29 1 rfl ?_
  refine j_iconst E (v := 0) dX11_jumps_30 (by decide) ?_
  refine j_callvV (As := [.int a1, .int 0]) (st := []) E (ok_X11_notes hg E.2.2.2.2.2.2.2.1 a1 0 h2) (cM_0 hg) (cl_X11_198) (⟨Nat.le_of_ble_eq_true rfl, Nat.le_of_ble_eq_true rfl⟩) rfl rfl (Nat.le_of_ble_eq_true rfl) dX11_jumps_31 (fun t3 h4 => ?_)
  refine j_aload_n E dX11_jumps_34 0 rfl ?_
  refine j_aload_n E dX11_jumps_35 0 rfl ?_
  refine j_geti E f_X11_162 (cM_0 hg) rfl dX11_jumps_36 ?_
  refine j_iconst E (v := 1) dX11_jumps_39 (by decide) ?_
  refine j_iadd E dX11_jumps_40 ?_
  refine j_puti E fp_X11_162 (cM_0 hg) rfl dX11_jumps_41 (fun h5 => ?_)
  exact j_vreturn E rfl dX11_jumps_44
theorem ok_X11_jumps {g : GC} (hg : isGM g) (hI : gI g) (a1 : Int32) (h : HP) : Ok g yX11_jumps mX11_jumps [.ref (g.2.2.1 0), .int a1] h (xX11_jumps a1 h) := Ok.of hI (by decide) rfl (Nat.le_of_ble_eq_true rfl) (fun X E => jxX11_jumps hg E a1 h)
set_option maxRecDepth 20000 in
set_option maxHeartbeats 4000000 in
theorem jxX11_readsCompared_52 {g : GC} (hg : isGM g) {X : MX} (N : Nat) (E : JE g mX11_readsCompared X) (s0 : Int32) (h : HP) : J g mX11_readsCompared X 52 [(0, .ref (g.2.2.1 0))] [.int s0] h (xX11_readsCompared_52 N s0 h) := by
  unfold xX11_readsCompared_52
  refine j_istore0_n E dX11_readsCompared_52 (Nat.le_of_ble_eq_true rfl) [(1, .int s0), (0, .ref (g.2.2.1 0))] rfl ?_
  refine j_iload_n E dX11_readsCompared_53 0 rfl ?_
  refine j_iconst E (v := (-1)) dX11_readsCompared_54 (by decide) ?_
  refine j_cmp_ne E 68 dX11_readsCompared_55 rfl ?_ ?_
  · refine j_aload_n E dX11_readsCompared_68 1 rfl ?_
    refine j_aload_n E dX11_readsCompared_69 1 rfl ?_
    refine j_geti E f_X11_162 (cM_0 hg) rfl dX11_readsCompared_70 ?_
    refine j_iconst E (v := 1) dX11_readsCompared_73 (by decide) ?_
    refine j_iadd E dX11_readsCompared_74 ?_
    refine j_puti E fp_X11_162 (cM_0 hg) rfl dX11_readsCompared_75 (fun h1 => ?_)
    refine j_aload_n E dX11_readsCompared_78 1 rfl ?_
    refine j_callvI (As := []) (st := []) E (ok_X11_readsSum hg E.2.2.2.2.2.2.2.1 N h1) (cM_0 hg) (cl_X11_225) (⟨Nat.le_of_ble_eq_true rfl, Nat.le_of_ble_eq_true rfl⟩) rfl rfl (Nat.le_of_ble_eq_true rfl) dX11_readsCompared_79 (fun t2 h3 => ?_)
    refine j_if_ne E 87 dX11_readsCompared_82 rfl ?_ ?_
    · refine j_aload_n E dX11_readsCompared_87 1 rfl ?_
      refine j_iload_n E dX11_readsCompared_88 0 rfl ?_
      refine j_iconst E (v := 0) dX11_readsCompared_89 (by decide) ?_
      refine j_callvV (As := [.int s0, .int 0]) (st := []) E (ok_X11_notes hg E.2.2.2.2.2.2.2.1 s0 0 h3) (cM_0 hg) (cl_X11_198) (⟨Nat.le_of_ble_eq_true rfl, Nat.le_of_ble_eq_true rfl⟩) rfl rfl (Nat.le_of_ble_eq_true rfl) dX11_readsCompared_90 (fun t4 h5 => ?_)
      refine j_aload_n E dX11_readsCompared_93 1 rfl ?_
      refine j_callvV (As := []) (st := []) E (ok_X11_endsPiece hg E.2.2.2.2.2.2.2.1 N h5) (cM_0 hg) (cl_X11_228) (⟨Nat.le_of_ble_eq_true rfl, Nat.le_of_ble_eq_true rfl⟩) rfl rfl (Nat.le_of_ble_eq_true rfl) dX11_readsCompared_94 (fun t6 h7 => ?_)
      refine j_iconst E (v := 1) dX11_readsCompared_97 (by decide) ?_
      exact j_zreturn E rfl dX11_readsCompared_98
    · refine j_iconst E (v := 0) dX11_readsCompared_85 (by decide) ?_
      exact j_zreturn E rfl dX11_readsCompared_86
  · refine j_aload_n E dX11_readsCompared_58 1 rfl ?_
    refine j_iconst E (v := 1) dX11_readsCompared_59 (by decide) ?_
    refine j_aload_n E dX11_readsCompared_60 1 rfl ?_
    refine j_geti E f_X11_162 (cM_0 hg) rfl dX11_readsCompared_61 ?_
    refine j_callvI (As := [.int 1, .int (h.1 0 11)]) (st := []) E (ok_X11_wrongAt hg E.2.2.2.2.2.2.2.1 1 (h.1 0 11) h) (cM_0 hg) (cl_X11_175) (⟨Nat.le_of_ble_eq_true rfl, Nat.le_of_ble_eq_true rfl⟩) rfl rfl (Nat.le_of_ble_eq_true rfl) dX11_readsCompared_64 (fun t8 h9 => ?_)
    exact j_zreturn E rfl dX11_readsCompared_67
set_option maxRecDepth 20000 in
set_option maxHeartbeats 4000000 in
theorem jxX11_readsCompared {g : GC} (hg : isGM g) {X : MX} (N : Nat) (E : JE g mX11_readsCompared X) (h : HP) : J g mX11_readsCompared X 0 [(0, .ref (g.2.2.1 0))] [] h (xX11_readsCompared N h) := by
  unfold xX11_readsCompared
  refine j_aload_n E dX11_readsCompared_0 0 rfl ?_
  refine j_callvI (As := []) (st := []) E (ok_X11_readsSum hg E.2.2.2.2.2.2.2.1 N h) (cM_0 hg) (cl_X11_225) (⟨Nat.le_of_ble_eq_true rfl, Nat.le_of_ble_eq_true rfl⟩) rfl rfl (Nat.le_of_ble_eq_true rfl) dX11_readsCompared_1 (fun t1 h2 => ?_)
  refine j_if_ne E 9 dX11_readsCompared_4 rfl ?_ ?_
  · refine j_aload_n E dX11_readsCompared_9 0 rfl ?_
    refine j_callvI (As := []) (st := []) E (ok_X11_here hg E.2.2.2.2.2.2.2.1 h2) (cM_0 hg) (cl_X11_168) (⟨Nat.le_of_ble_eq_true rfl, Nat.le_of_ble_eq_true rfl⟩) rfl rfl (Nat.le_of_ble_eq_true rfl) dX11_readsCompared_10 (fun t3 h4 => ?_)
    refine j_bipush E (v := 60) dX11_readsCompared_13 (by decide) ?_
    refine j_cmp_ne E 23 dX11_readsCompared_15 rfl ?_ ?_
    · refine j_aload_n E dX11_readsCompared_23 0 rfl ?_
      refine j_callvI (As := []) (st := []) E (ok_X11_here hg E.2.2.2.2.2.2.2.1 h4) (cM_0 hg) (cl_X11_168) (⟨Nat.le_of_ble_eq_true rfl, Nat.le_of_ble_eq_true rfl⟩) rfl rfl (Nat.le_of_ble_eq_true rfl) dX11_readsCompared_24 (fun t5 h6 => ?_)
      refine j_bipush E (v := 62) dX11_readsCompared_27 (by decide) ?_
      refine j_cmp_ne E 37 dX11_readsCompared_29 rfl ?_ ?_
      · refine j_aload_n E dX11_readsCompared_37 0 rfl ?_
        refine j_callvI (As := []) (st := []) E (ok_X11_here hg E.2.2.2.2.2.2.2.1 h6) (cM_0 hg) (cl_X11_168) (⟨Nat.le_of_ble_eq_true rfl, Nat.le_of_ble_eq_true rfl⟩) rfl rfl (Nat.le_of_ble_eq_true rfl) dX11_readsCompared_38 (fun t7 h8 => ?_)
        refine j_bipush E (v := 61) dX11_readsCompared_41 (by decide) ?_
        refine j_cmp_ne E 51 dX11_readsCompared_43 rfl ?_ ?_
        · refine j_iconst E (v := (-1)) dX11_readsCompared_51 (by decide) ?_
          exact jxX11_readsCompared_52 hg N E (-1) h8
        · refine j_bipush E (v := 9) dX11_readsCompared_46 (by decide) ?_
          refine j_goto E 52 dX11_readsCompared_48 rfl ?_
          exact jxX11_readsCompared_52 hg N E 9 h8
      · refine j_bipush E (v := 8) dX11_readsCompared_32 (by decide) ?_
        refine j_goto E 52 dX11_readsCompared_34 rfl ?_
        exact jxX11_readsCompared_52 hg N E 8 h6
    · refine j_bipush E (v := 7) dX11_readsCompared_18 (by decide) ?_
      refine j_goto E 52 dX11_readsCompared_20 rfl ?_
      exact jxX11_readsCompared_52 hg N E 7 h4
  · refine j_iconst E (v := 0) dX11_readsCompared_7 (by decide) ?_
    exact j_zreturn E rfl dX11_readsCompared_8
theorem ok_X11_readsCompared {g : GC} (hg : isGM g) (hI : gI g) (N : Nat) (h : HP) : Ok g yX11_readsCompared mX11_readsCompared [.ref (g.2.2.1 0)] h (xX11_readsCompared N h) := Ok.of hI (by decide) rfl (Nat.le_of_ble_eq_true rfl) (fun X E => jxX11_readsCompared hg N E h)
set_option maxRecDepth 20000 in
set_option maxHeartbeats 4000000 in
theorem jxX11_readsCondition_75 {g : GC} (hg : isGM g) {X : MX} (N : Nat) (E : JE g mX11_readsCondition X) (K40 : HP → Option (Int32 × HP)) (hK40 : ∀ (h : HP), J g mX11_readsCondition X 40 [(0, .ref (g.2.2.1 0))] [] h (K40 h)) (s1 : Int32) (h : HP) : J g mX11_readsCondition X 75 [(0, .ref (g.2.2.1 0))] [.int s1, .ref (g.2.2.1 0)] h (xX11_readsCondition_75 N K40 s1 h) := by
  unfold xX11_readsCondition_75
  refine j_callvI (As := [.int s1]) (st := []) E (ok_X11_opens hg E.2.2.2.2.2.2.2.1 s1 h) (cM_0 hg) (cl_X11_202) (⟨Nat.le_of_ble_eq_true rfl, Nat.le_of_ble_eq_true rfl⟩) rfl rfl (Nat.le_of_ble_eq_true rfl) dX11_readsCondition_75 (fun t1 h2 => ?_)
  refine j_if_ne E 40 dX11_readsCondition_78 rfl ?_ ?_
  · exact hK40 h2
  · refine j_iconst E (v := 0) dX11_readsCondition_81 (by decide) ?_
    exact j_zreturn E rfl dX11_readsCondition_82
set_option maxRecDepth 20000 in
set_option maxHeartbeats 4000000 in
theorem jxX11_readsCondition_58 {g : GC} (hg : isGM g) {X : MX} (N : Nat) (E : JE g mX11_readsCondition X) (K40 : HP → Option (Int32 × HP)) (hK40 : ∀ (h : HP), J g mX11_readsCondition X 40 [(0, .ref (g.2.2.1 0))] [] h (K40 h)) (h : HP) : J g mX11_readsCondition X 58 [(0, .ref (g.2.2.1 0))] [] h (xX11_readsCondition_58 N K40 h) := by
  unfold xX11_readsCondition_58
  refine j_aload_n E dX11_readsCondition_58 0 rfl ?_
  refine j_aload_n E dX11_readsCondition_59 0 rfl ?_
  refine j_callvI (As := []) (st := [.ref (g.2.2.1 0)]) E (ok_X11_here hg E.2.2.2.2.2.2.2.1 h) (cM_0 hg) (cl_X11_168) (⟨Nat.le_of_ble_eq_true rfl, Nat.le_of_ble_eq_true rfl⟩) rfl rfl (Nat.le_of_ble_eq_true rfl) dX11_readsCondition_60 (fun t1 h2 => ?_)
  refine j_bipush E (v := 33) dX11_readsCondition_63 (by decide) ?_
  refine j_cmp_ne E 73 dX11_readsCondition_65 rfl ?_ ?_
  · refine j_bipush E (v := 13) dX11_readsCondition_73 (by decide) ?_
    exact jxX11_readsCondition_75 hg N E K40 hK40 13 h2
  · refine j_bipush E (v := 10) dX11_readsCondition_68 (by decide) ?_
    refine j_goto E 75 dX11_readsCondition_70 rfl ?_
    exact jxX11_readsCondition_75 hg N E K40 hK40 10 h2
set_option maxRecDepth 20000 in
set_option maxHeartbeats 4000000 in
theorem jxX11_readsCondition_215 {g : GC} (hg : isGM g) {X : MX} (N : Nat) (E : JE g mX11_readsCondition X) (K40 : HP → Option (Int32 × HP)) (hK40 : ∀ (h : HP), J g mX11_readsCondition X 40 [(0, .ref (g.2.2.1 0))] [] h (K40 h)) (s1 : Int32) (h : HP) : J g mX11_readsCondition X 215 [(0, .ref (g.2.2.1 0))] [.int s1, .ref (g.2.2.1 0)] h (xX11_readsCondition_215 N K40 s1 h) := by
  unfold xX11_readsCondition_215
  refine j_callvV (As := [.int s1]) (st := []) E (ok_X11_jumps hg E.2.2.2.2.2.2.2.1 s1 h) (cM_0 hg) (cl_X11_237) (⟨Nat.le_of_ble_eq_true rfl, Nat.le_of_ble_eq_true rfl⟩) rfl rfl (Nat.le_of_ble_eq_true rfl) dX11_readsCondition_215 (fun t1 h2 => ?_)
  refine j_goto E 40 dX11_readsCondition_218 rfl ?_
  exact hK40 h2
set_option maxRecDepth 20000 in
set_option maxHeartbeats 4000000 in
theorem jxX11_readsCondition_195 {g : GC} (hg : isGM g) {X : MX} (N : Nat) (E : JE g mX11_readsCondition X) (K40 : HP → Option (Int32 × HP)) (hK40 : ∀ (h : HP), J g mX11_readsCondition X 40 [(0, .ref (g.2.2.1 0))] [] h (K40 h)) (s1 : Int32) (h : HP) : J g mX11_readsCondition X 195 [(0, .ref (g.2.2.1 0))] [.int s1, .ref (g.2.2.1 0)] h (xX11_readsCondition_195 N K40 s1 h) := by
  unfold xX11_readsCondition_195
  refine j_callvV (As := [.int s1]) (st := []) E (ok_X11_lands hg E.2.2.2.2.2.2.2.1 N s1 h) (cM_0 hg) (cl_X11_234) (⟨Nat.le_of_ble_eq_true rfl, Nat.le_of_ble_eq_true rfl⟩) rfl rfl (Nat.le_of_ble_eq_true rfl) dX11_readsCondition_195 (fun t1 h2 => ?_)
  refine j_aload_n E dX11_readsCondition_198 0 rfl ?_
  refine j_aload_n E dX11_readsCondition_199 0 rfl ?_
  refine j_callvI (As := []) (st := [.ref (g.2.2.1 0)]) E (ok_X11_here hg E.2.2.2.2.2.2.2.1 h2) (cM_0 hg) (cl_X11_168) (⟨Nat.le_of_ble_eq_true rfl, Nat.le_of_ble_eq_true rfl⟩) rfl rfl (Nat.le_of_ble_eq_true rfl) dX11_readsCondition_200 (fun t3 h4 => ?_)
  refine j_bipush E (v := 38) dX11_readsCondition_203 (by decide) ?_
  refine j_cmp_ne E 213 dX11_readsCondition_205 rfl ?_ ?_
  · refine j_bipush E (v := 12) dX11_readsCondition_213 (by decide) ?_
    exact jxX11_readsCondition_215 hg N E K40 hK40 12 h4
  · refine j_bipush E (v := 11) dX11_readsCondition_208 (by decide) ?_
    refine j_goto E 215 dX11_readsCondition_210 rfl ?_
    exact jxX11_readsCondition_215 hg N E K40 hK40 11 h4
set_option maxRecDepth 20000 in
set_option maxHeartbeats 4000000 in
theorem jxX11_readsCondition_180 {g : GC} (hg : isGM g) {X : MX} (N : Nat) (E : JE g mX11_readsCondition X) (K40 : HP → Option (Int32 × HP)) (hK40 : ∀ (h : HP), J g mX11_readsCondition X 40 [(0, .ref (g.2.2.1 0))] [] h (K40 h)) (h : HP) : J g mX11_readsCondition X 180 [(0, .ref (g.2.2.1 0))] [] h (xX11_readsCondition_180 N K40 h) := by
  unfold xX11_readsCondition_180
  refine j_aload_n E dX11_readsCondition_180 0 rfl ?_
  refine j_aload_n E dX11_readsCondition_181 0 rfl ?_
  refine j_callvI (As := []) (st := [.ref (g.2.2.1 0)]) E (ok_X11_here hg E.2.2.2.2.2.2.2.1 h) (cM_0 hg) (cl_X11_168) (⟨Nat.le_of_ble_eq_true rfl, Nat.le_of_ble_eq_true rfl⟩) rfl rfl (Nat.le_of_ble_eq_true rfl) dX11_readsCondition_182 (fun t1 h2 => ?_)
  refine j_bipush E (v := 124) dX11_readsCondition_185 (by decide) ?_
  refine j_cmp_ne E 194 dX11_readsCondition_187 rfl ?_ ?_
  · refine j_iconst E (v := 0) dX11_readsCondition_194 (by decide) ?_
    exact jxX11_readsCondition_195 hg N E K40 hK40 0 h2
  · refine j_iconst E (v := 1) dX11_readsCondition_190 (by decide) ?_
    refine j_goto E 195 dX11_readsCondition_191 rfl ?_
    exact jxX11_readsCondition_195 hg N E K40 hK40 1 h2
set_option maxRecDepth 20000 in
set_option maxHeartbeats 4000000 in
theorem jxX11_readsCondition_92 {g : GC} (hg : isGM g) {X : MX} (N : Nat) (E : JE g mX11_readsCondition X) (K40 : HP → Option (Int32 × HP)) (hK40 : ∀ (h : HP), J g mX11_readsCondition X 40 [(0, .ref (g.2.2.1 0))] [] h (K40 h)) : ∀ (n : Nat) (h : HP), J g mX11_readsCondition X 92 [(0, .ref (g.2.2.1 0))] [] h (xX11_readsCondition_92 N K40 n h) := by
  intro n
  induction n with
  | zero => intro h; exact j_none
  | succ n ih =>
    intro h
    unfold xX11_readsCondition_92
    refine j_aload_n E dX11_readsCondition_92 0 rfl ?_
    refine j_callvI (As := []) (st := []) E (ok_X11_here hg E.2.2.2.2.2.2.2.1 h) (cM_0 hg) (cl_X11_168) (⟨Nat.le_of_ble_eq_true rfl, Nat.le_of_ble_eq_true rfl⟩) rfl rfl (Nat.le_of_ble_eq_true rfl) dX11_readsCondition_93 (fun t1 h2 => ?_)
    refine j_bipush E (v := 41) dX11_readsCondition_96 (by decide) ?_
    refine j_cmp_ne E 152 dX11_readsCondition_98 rfl ?_ ?_
    · refine j_aload_n E dX11_readsCondition_152 0 rfl ?_
      refine j_callvI (As := []) (st := []) E (ok_X11_here hg E.2.2.2.2.2.2.2.1 h2) (cM_0 hg) (cl_X11_168) (⟨Nat.le_of_ble_eq_true rfl, Nat.le_of_ble_eq_true rfl⟩) rfl rfl (Nat.le_of_ble_eq_true rfl) dX11_readsCondition_153 (fun t3 h4 => ?_)
      refine j_bipush E (v := 38) dX11_readsCondition_156 (by decide) ?_
      refine j_cmp_eq E 180 dX11_readsCondition_158 rfl ?_ ?_
      · exact jxX11_readsCondition_180 hg N E K40 hK40 h4
      · refine j_aload_n E dX11_readsCondition_161 0 rfl ?_
        refine j_callvI (As := []) (st := []) E (ok_X11_here hg E.2.2.2.2.2.2.2.1 h4) (cM_0 hg) (cl_X11_168) (⟨Nat.le_of_ble_eq_true rfl, Nat.le_of_ble_eq_true rfl⟩) rfl rfl (Nat.le_of_ble_eq_true rfl) dX11_readsCondition_162 (fun t5 h6 => ?_)
        refine j_bipush E (v := 124) dX11_readsCondition_165 (by decide) ?_
        refine j_cmp_eq E 180 dX11_readsCondition_167 rfl ?_ ?_
        · exact jxX11_readsCondition_180 hg N E K40 hK40 h6
        · refine j_aload_n E dX11_readsCondition_170 0 rfl ?_
          refine j_iconst E (v := 1) dX11_readsCondition_171 (by decide) ?_
          refine j_aload_n E dX11_readsCondition_172 0 rfl ?_
          refine j_geti E f_X11_162 (cM_0 hg) rfl dX11_readsCondition_173 ?_
          refine j_callvI (As := [.int 1, .int (h6.1 0 11)]) (st := []) E (ok_X11_wrongAt hg E.2.2.2.2.2.2.2.1 1 (h6.1 0 11) h6) (cM_0 hg) (cl_X11_175) (⟨Nat.le_of_ble_eq_true rfl, Nat.le_of_ble_eq_true rfl⟩) rfl rfl (Nat.le_of_ble_eq_true rfl) dX11_readsCondition_176 (fun t7 h8 => ?_)
          exact j_zreturn E rfl dX11_readsCondition_179
    · refine j_aload_n E dX11_readsCondition_101 0 rfl ?_
      refine j_iconst E (v := 1) dX11_readsCondition_102 (by decide) ?_
      refine j_callvV (As := [.int 1]) (st := []) E (ok_X11_lands hg E.2.2.2.2.2.2.2.1 N 1 h2) (cM_0 hg) (cl_X11_234) (⟨Nat.le_of_ble_eq_true rfl, Nat.le_of_ble_eq_true rfl⟩) rfl rfl (Nat.le_of_ble_eq_true rfl) dX11_readsCondition_103 (fun t9 h10 => ?_)
      refine j_aload_n E dX11_readsCondition_106 0 rfl ?_
      refine j_aload_n E dX11_readsCondition_107 0 rfl ?_
      refine j_geti E f_X11_192 (cM_0 hg) rfl dX11_readsCondition_108 ?_
      refine j_iconst E (v := 1) dX11_readsCondition_111 (by decide) ?_
      refine j_isub E dX11_readsCondition_112 ?_
      refine j_puti E fp_X11_192 (cM_0 hg) rfl dX11_readsCondition_113 (fun h11 => ?_)
      refine j_aload_n E dX11_readsCondition_116 0 rfl ?_
      refine j_aload_n E dX11_readsCondition_117 0 rfl ?_
      refine j_geti E f_X11_189 (cM_0 hg) rfl dX11_readsCondition_118 ?_
      refine j_iconst E (v := 1) dX11_readsCondition_121 (by decide) ?_
      refine j_isub E dX11_readsCondition_122 ?_
      refine j_puti E fp_X11_189 (cM_0 hg) rfl dX11_readsCondition_123 (fun h12 => ?_)
      refine j_aload_n E dX11_readsCondition_126 0 rfl ?_
      refine j_aload_n E dX11_readsCondition_127 0 rfl ?_
      refine j_geti E f_X11_162 (cM_0 hg) rfl dX11_readsCondition_128 ?_
      refine j_iconst E (v := 1) dX11_readsCondition_131 (by decide) ?_
      refine j_iadd E dX11_readsCondition_132 ?_
      refine j_puti E fp_X11_162 (cM_0 hg) rfl dX11_readsCondition_133 (fun h13 => ?_)
      refine j_aload_n E dX11_readsCondition_136 0 rfl ?_
      refine j_geti E f_X11_192 (cM_0 hg) rfl dX11_readsCondition_137 ?_
      refine j_if_ne E 145 dX11_readsCondition_140 rfl ?_ ?_
      · refine j_aload_n E dX11_readsCondition_145 0 rfl ?_
        refine j_callvV (As := []) (st := []) E (ok_X11_endsPiece hg E.2.2.2.2.2.2.2.1 N h13) (cM_0 hg) (cl_X11_228) (⟨Nat.le_of_ble_eq_true rfl, Nat.le_of_ble_eq_true rfl⟩) rfl rfl (Nat.le_of_ble_eq_true rfl) dX11_readsCondition_146 (fun t14 h15 => ?_)
        refine j_goto E 92 dX11_readsCondition_149 rfl ?_
        exact ih h15
      · refine j_iconst E (v := 1) dX11_readsCondition_143 (by decide) ?_
        exact j_zreturn E rfl dX11_readsCondition_144
set_option maxRecDepth 20000 in
set_option maxHeartbeats 4000000 in
theorem jxX11_readsCondition_40 {g : GC} (hg : isGM g) {X : MX} (N : Nat) (E : JE g mX11_readsCondition X) : ∀ (n : Nat) (h : HP), J g mX11_readsCondition X 40 [(0, .ref (g.2.2.1 0))] [] h (xX11_readsCondition_40 N n h) := by
  intro n
  induction n with
  | zero => intro h; exact j_none
  | succ n ih =>
    intro h
    unfold xX11_readsCondition_40
    refine j_aload_n E dX11_readsCondition_40 0 rfl ?_
    refine j_callvI (As := []) (st := []) E (ok_X11_here hg E.2.2.2.2.2.2.2.1 h) (cM_0 hg) (cl_X11_168) (⟨Nat.le_of_ble_eq_true rfl, Nat.le_of_ble_eq_true rfl⟩) rfl rfl (Nat.le_of_ble_eq_true rfl) dX11_readsCondition_41 (fun t1 h2 => ?_)
    refine j_bipush E (v := 33) dX11_readsCondition_44 (by decide) ?_
    refine j_cmp_eq E 58 dX11_readsCondition_46 rfl ?_ ?_
    · exact jxX11_readsCondition_58 hg N E (xX11_readsCondition_40 N n) ih h2
    · refine j_aload_n E dX11_readsCondition_49 0 rfl ?_
      refine j_callvI (As := []) (st := []) E (ok_X11_here hg E.2.2.2.2.2.2.2.1 h2) (cM_0 hg) (cl_X11_168) (⟨Nat.le_of_ble_eq_true rfl, Nat.le_of_ble_eq_true rfl⟩) rfl rfl (Nat.le_of_ble_eq_true rfl) dX11_readsCondition_50 (fun t3 h4 => ?_)
      refine j_bipush E (v := 40) dX11_readsCondition_53 (by decide) ?_
      refine j_cmp_ne E 83 dX11_readsCondition_55 rfl ?_ ?_
      · refine j_aload_n E dX11_readsCondition_83 0 rfl ?_
        refine j_callvI (As := []) (st := []) E (ok_X11_readsCompared hg E.2.2.2.2.2.2.2.1 N h4) (cM_0 hg) (cl_X11_231) (⟨Nat.le_of_ble_eq_true rfl, Nat.le_of_ble_eq_true rfl⟩) rfl rfl (Nat.le_of_ble_eq_true rfl) dX11_readsCondition_84 (fun t5 h6 => ?_)
        refine j_if_ne E 92 dX11_readsCondition_87 rfl ?_ ?_
        · exact jxX11_readsCondition_92 hg N E (xX11_readsCondition_40 N n) ih N h6
        · refine j_iconst E (v := 0) dX11_readsCondition_90 (by decide) ?_
          exact j_zreturn E rfl dX11_readsCondition_91
      · exact jxX11_readsCondition_58 hg N E (xX11_readsCondition_40 N n) ih h4
set_option maxRecDepth 20000 in
set_option maxHeartbeats 4000000 in
theorem jxX11_readsCondition {g : GC} (hg : isGM g) {X : MX} (N : Nat) (E : JE g mX11_readsCondition X) (h : HP) : J g mX11_readsCondition X 0 [(0, .ref (g.2.2.1 0))] [] h (xX11_readsCondition N h) := by
  unfold xX11_readsCondition
  refine j_aload_n E dX11_readsCondition_0 0 rfl ?_
  refine j_callvI (As := []) (st := []) E (ok_X11_here hg E.2.2.2.2.2.2.2.1 h) (cM_0 hg) (cl_X11_168) (⟨Nat.le_of_ble_eq_true rfl, Nat.le_of_ble_eq_true rfl⟩) rfl rfl (Nat.le_of_ble_eq_true rfl) dX11_readsCondition_1 (fun t1 h2 => ?_)
  refine j_bipush E (v := 40) dX11_readsCondition_4 (by decide) ?_
  refine j_cmp_eq E 19 dX11_readsCondition_6 rfl ?_ ?_
  · refine j_aload_n E dX11_readsCondition_19 0 rfl ?_
    refine j_iconst E (v := 0) dX11_readsCondition_20 (by decide) ?_
    refine j_puti E fp_X11_189 (cM_0 hg) rfl dX11_readsCondition_21 (fun h3 => ?_)
    refine j_aload_n E dX11_readsCondition_24 0 rfl ?_
    refine j_iconst E (v := 0) dX11_readsCondition_25 (by decide) ?_
    refine j_puti E fp_X11_192 (cM_0 hg) rfl dX11_readsCondition_26 (fun h4 => ?_)
    refine j_aload_n E dX11_readsCondition_29 0 rfl ?_
    refine j_bipush E (v := 13) dX11_readsCondition_30 (by decide) ?_
    refine j_callvI (As := [.int 13]) (st := []) E (ok_X11_opens hg E.2.2.2.2.2.2.2.1 13 h4) (cM_0 hg) (cl_X11_202) (⟨Nat.le_of_ble_eq_true rfl, Nat.le_of_ble_eq_true rfl⟩) rfl rfl (Nat.le_of_ble_eq_true rfl) dX11_readsCondition_32 (fun t5 h6 => ?_)
    refine j_if_ne E 40 dX11_readsCondition_35 rfl ?_ ?_
    · exact jxX11_readsCondition_40 hg N E N h6
    · refine j_iconst E (v := 0) dX11_readsCondition_38 (by decide) ?_
      exact j_zreturn E rfl dX11_readsCondition_39
  · refine j_aload_n E dX11_readsCondition_9 0 rfl ?_
    refine j_iconst E (v := 1) dX11_readsCondition_10 (by decide) ?_
    refine j_aload_n E dX11_readsCondition_11 0 rfl ?_
    refine j_geti E f_X11_162 (cM_0 hg) rfl dX11_readsCondition_12 ?_
    refine j_callvI (As := [.int 1, .int (h2.1 0 11)]) (st := []) E (ok_X11_wrongAt hg E.2.2.2.2.2.2.2.1 1 (h2.1 0 11) h2) (cM_0 hg) (cl_X11_175) (⟨Nat.le_of_ble_eq_true rfl, Nat.le_of_ble_eq_true rfl⟩) rfl rfl (Nat.le_of_ble_eq_true rfl) dX11_readsCondition_15 (fun t7 h8 => ?_)
    exact j_zreturn E rfl dX11_readsCondition_18
theorem ok_X11_readsCondition {g : GC} (hg : isGM g) (hI : gI g) (N : Nat) (h : HP) : Ok g yX11_readsCondition mX11_readsCondition [.ref (g.2.2.1 0)] h (xX11_readsCondition N h) := Ok.of hI (by decide) rfl (Nat.le_of_ble_eq_true rfl) (fun X E => jxX11_readsCondition hg N E h)
set_option maxRecDepth 20000 in
set_option maxHeartbeats 4000000 in
theorem jxX11_readsRule_110 {g : GC} (hg : isGM g) {X : MX} (N : Nat) (E : JE g mX11_readsRule X) (h : HP) : J g mX11_readsRule X 110 [(0, .ref (g.2.2.1 0))] [] h (xX11_readsRule_110 N h) := by
  unfold xX11_readsRule_110
  refine j_aload_n E dX11_readsRule_110 0 rfl ?_
  refine j_getr E f_X11_47 (cM_0 hg) 13 rfl dX11_readsRule_111 ?_
  refine j_aload_n E dX11_readsRule_114 0 rfl ?_
  refine j_geti E f_X11_240 (cM_0 hg) rfl dX11_readsRule_115 ?_
  refine j_aload_n E dX11_readsRule_118 0 rfl ?_
  refine j_geti E f_X11_185 (cM_0 hg) rfl dX11_readsRule_119 ?_
  refine j_iast E (cM_13 hg) dX11_readsRule_122 (fun h1 => ?_)
  refine j_aload_n E dX11_readsRule_123 0 rfl ?_
  refine j_callvI (As := []) (st := []) E (ok_X11_readsCondition hg E.2.2.2.2.2.2.2.1 N h1) (cM_0 hg) (cl_X11_243) (⟨Nat.le_of_ble_eq_true rfl, Nat.le_of_ble_eq_true rfl⟩) rfl rfl (Nat.le_of_ble_eq_true rfl) dX11_readsRule_124 (fun t2 h3 => ?_)
  refine j_if_ne E 132 dX11_readsRule_127 rfl ?_ ?_
  · refine j_aload_n E dX11_readsRule_132 0 rfl ?_
    refine j_getr E f_X11_50 (cM_0 hg) 14 rfl dX11_readsRule_133 ?_
    refine j_aload_n E dX11_readsRule_136 0 rfl ?_
    refine j_geti E f_X11_240 (cM_0 hg) rfl dX11_readsRule_137 ?_
    refine j_aload_n E dX11_readsRule_140 0 rfl ?_
    refine j_geti E f_X11_185 (cM_0 hg) rfl dX11_readsRule_141 ?_
    refine j_iast E (cM_14 hg) dX11_readsRule_144 (fun h4 => ?_)
    refine j_aload_n E dX11_readsRule_145 0 rfl ?_
    refine j_aload_n E dX11_readsRule_146 0 rfl ?_
    refine j_geti E f_X11_240 (cM_0 hg) rfl dX11_readsRule_147 ?_
    refine j_iconst E (v := 1) dX11_readsRule_150 (by decide) ?_
    refine j_iadd E dX11_readsRule_151 ?_
    refine j_puti E fp_X11_240 (cM_0 hg) rfl dX11_readsRule_152 (fun h5 => ?_)
    refine j_iconst E (v := 1) dX11_readsRule_155 (by decide) ?_
    exact j_zreturn E rfl dX11_readsRule_156
  · refine j_iconst E (v := 0) dX11_readsRule_130 (by decide) ?_
    exact j_zreturn E rfl dX11_readsRule_131
set_option maxRecDepth 20000 in
set_option maxHeartbeats 4000000 in
theorem jxX11_readsRule_33 {g : GC} (hg : isGM g) {X : MX} (N : Nat) (E : JE g mX11_readsRule X) (a1 : Int32) (h : HP) : J g mX11_readsRule X 33 [(0, .ref (g.2.2.1 0)), (1, .int a1)] [] h (xX11_readsRule_33 N a1 h) := by
  unfold xX11_readsRule_33
  refine j_aload_n E dX11_readsRule_33 0 rfl ?_
  refine j_geti E f_X11_240 (cM_0 hg) rfl dX11_readsRule_34 ?_
  refine j_bipush E (v := 16) dX11_readsRule_37 (by decide) ?_
  refine j_cmp_ne E 52 dX11_readsRule_39 rfl ?_ ?_
  · refine j_aload_n E dX11_readsRule_52 0 rfl ?_
    refine j_getr E f_X11_41 (cM_0 hg) 11 rfl dX11_readsRule_53 ?_
    refine j_aload_n E dX11_readsRule_56 0 rfl ?_
    refine j_geti E f_X11_240 (cM_0 hg) rfl dX11_readsRule_57 ?_
    refine j_iload_n E dX11_readsRule_60 1 rfl ?_
    refine j_iast E (cM_11 hg) dX11_readsRule_61 (fun h1 => ?_)
    refine j_aload_n E dX11_readsRule_62 0 rfl ?_
    refine j_aload_n E dX11_readsRule_63 0 rfl ?_
    refine j_geti E f_X11_162 (cM_0 hg) rfl dX11_readsRule_64 ?_
    refine j_iconst E (v := 1) dX11_readsRule_67 (by decide) ?_
    refine j_iadd E dX11_readsRule_68 ?_
    refine j_puti E fp_X11_162 (cM_0 hg) rfl dX11_readsRule_69 (fun h2 => ?_)
    refine j_aload_n E dX11_readsRule_72 0 rfl ?_
    refine j_getr E f_X11_44 (cM_0 hg) 12 rfl dX11_readsRule_73 ?_
    refine j_aload_n E dX11_readsRule_76 0 rfl ?_
    refine j_geti E f_X11_240 (cM_0 hg) rfl dX11_readsRule_77 ?_
    refine j_aload_n E dX11_readsRule_80 0 rfl ?_
    refine j_geti E f_X11_185 (cM_0 hg) rfl dX11_readsRule_81 ?_
    refine j_iast E (cM_12 hg) dX11_readsRule_84 (fun h3 => ?_)
    refine j_aload_n E dX11_readsRule_85 0 rfl ?_
    refine j_iconst E (v := 0) dX11_readsRule_86 (by decide) ?_
    refine j_puti E fp_X11_189 (cM_0 hg) rfl dX11_readsRule_87 (fun h4 => ?_)
    refine j_aload_n E dX11_readsRule_90 0 rfl ?_
    refine j_iconst E (v := 0) dX11_readsRule_91 (by decide) ?_
    refine j_puti E fp_X11_192 (cM_0 hg) rfl dX11_readsRule_92 (fun h5 => ?_)
    refine j_iload_n E dX11_readsRule_95 1 rfl ?_
    refine j_bipush E (v := 120) dX11_readsRule_96 (by decide) ?_
    refine j_cmp_eq E 110 dX11_readsRule_98 rfl ?_ ?_
    · exact j_sub [0] (lv1 := [(0, .ref (g.2.2.1 0))]) rfl (jxX11_readsRule_110 hg N E h5)
    · refine j_aload_n E dX11_readsRule_101 0 rfl ?_
      refine j_callvI (As := []) (st := []) E (ok_X11_readsSum hg E.2.2.2.2.2.2.2.1 N h5) (cM_0 hg) (cl_X11_225) (⟨Nat.le_of_ble_eq_true rfl, Nat.le_of_ble_eq_true rfl⟩) rfl rfl (Nat.le_of_ble_eq_true rfl) dX11_readsRule_102 (fun t6 h7 => ?_)
      refine j_if_ne E 110 dX11_readsRule_105 rfl ?_ ?_
      · exact j_sub [0] (lv1 := [(0, .ref (g.2.2.1 0))]) rfl (jxX11_readsRule_110 hg N E h7)
      · refine j_iconst E (v := 0) dX11_readsRule_108 (by decide) ?_
        exact j_zreturn E rfl dX11_readsRule_109
  · refine j_aload_n E dX11_readsRule_42 0 rfl ?_
    refine j_iconst E (v := 4) dX11_readsRule_43 (by decide) ?_
    refine j_aload_n E dX11_readsRule_44 0 rfl ?_
    refine j_geti E f_X11_162 (cM_0 hg) rfl dX11_readsRule_45 ?_
    refine j_callvI (As := [.int 4, .int (h.1 0 11)]) (st := []) E (ok_X11_wrongAt hg E.2.2.2.2.2.2.2.1 4 (h.1 0 11) h) (cM_0 hg) (cl_X11_175) (⟨Nat.le_of_ble_eq_true rfl, Nat.le_of_ble_eq_true rfl⟩) rfl rfl (Nat.le_of_ble_eq_true rfl) dX11_readsRule_48 (fun t8 h9 => ?_)
    exact j_zreturn E rfl dX11_readsRule_51
set_option maxRecDepth 20000 in
set_option maxHeartbeats 4000000 in
theorem jxX11_readsRule {g : GC} (hg : isGM g) {X : MX} (N : Nat) (E : JE g mX11_readsRule X) (h : HP) : J g mX11_readsRule X 0 [(0, .ref (g.2.2.1 0))] [] h (xX11_readsRule N h) := by
  unfold xX11_readsRule
  refine j_aload_n E dX11_readsRule_0 0 rfl ?_
  refine j_callvI (As := []) (st := []) E (ok_X11_here hg E.2.2.2.2.2.2.2.1 h) (cM_0 hg) (cl_X11_168) (⟨Nat.le_of_ble_eq_true rfl, Nat.le_of_ble_eq_true rfl⟩) rfl rfl (Nat.le_of_ble_eq_true rfl) dX11_readsRule_1 (fun t1 h2 => ?_)
  refine j_istore0_n E dX11_readsRule_4 (Nat.le_of_ble_eq_true rfl) [(1, .int t1), (0, .ref (g.2.2.1 0))] rfl ?_
  refine j_iload_n E dX11_readsRule_5 0 rfl ?_
  refine j_bipush E (v := 114) dX11_readsRule_6 (by decide) ?_
  refine j_cmp_eq E 33 dX11_readsRule_8 rfl ?_ ?_
  · exact j_sub [1, 0] (lv1 := [(0, .ref (g.2.2.1 0)), (1, .int t1)]) rfl (jxX11_readsRule_33 hg N E t1 h2)
  · refine j_iload_n E dX11_readsRule_11 0 rfl ?_
    refine j_bipush E (v := 111) dX11_readsRule_12 (by decide) ?_
    refine j_cmp_eq E 33 dX11_readsRule_14 rfl ?_ ?_
    · exact j_sub [1, 0] (lv1 := [(0, .ref (g.2.2.1 0)), (1, .int t1)]) rfl (jxX11_readsRule_33 hg N E t1 h2)
    · refine j_iload_n E dX11_readsRule_17 0 rfl ?_
      refine j_bipush E (v := 120) dX11_readsRule_18 (by decide) ?_
      refine j_cmp_eq E 33 dX11_readsRule_20 rfl ?_ ?_
      · exact j_sub [1, 0] (lv1 := [(0, .ref (g.2.2.1 0)), (1, .int t1)]) rfl (jxX11_readsRule_33 hg N E t1 h2)
      · refine j_aload_n E dX11_readsRule_23 1 rfl ?_
        refine j_iconst E (v := 1) dX11_readsRule_24 (by decide) ?_
        refine j_aload_n E dX11_readsRule_25 1 rfl ?_
        refine j_geti E f_X11_162 (cM_0 hg) rfl dX11_readsRule_26 ?_
        refine j_callvI (As := [.int 1, .int (h2.1 0 11)]) (st := []) E (ok_X11_wrongAt hg E.2.2.2.2.2.2.2.1 1 (h2.1 0 11) h2) (cM_0 hg) (cl_X11_175) (⟨Nat.le_of_ble_eq_true rfl, Nat.le_of_ble_eq_true rfl⟩) rfl rfl (Nat.le_of_ble_eq_true rfl) dX11_readsRule_29 (fun t3 h4 => ?_)
        exact j_zreturn E rfl dX11_readsRule_32
theorem ok_X11_readsRule {g : GC} (hg : isGM g) (hI : gI g) (N : Nat) (h : HP) : Ok g yX11_readsRule mX11_readsRule [.ref (g.2.2.1 0)] h (xX11_readsRule N h) := Ok.of hI (by decide) rfl (Nat.le_of_ble_eq_true rfl) (fun X E => jxX11_readsRule hg N E h)
set_option maxRecDepth 20000 in
set_option maxHeartbeats 4000000 in
theorem jxX11_beginsText {g : GC} (hg : isGM g) {X : MX} (E : JE g mX11_beginsText X) (a1 : Int32) (h : HP) : J g mX11_beginsText X 0 [(0, .ref (g.2.2.1 0)), (1, .int a1)] [] h (xX11_beginsText a1 h) := by
  unfold xX11_beginsText
  refine j_aload_n E dX11_beginsText_0 0 rfl ?_
  refine j_iconst E (v := 0) dX11_beginsText_1 (by decide) ?_
  refine j_puti E fp_X11_162 (cM_0 hg) rfl dX11_beginsText_2 (fun h1 => ?_)
  refine j_aload_n E dX11_beginsText_5 0 rfl ?_
  refine j_iload_n E dX11_beginsText_6 1 rfl ?_
  refine j_puti E fp_X11_165 (cM_0 hg) rfl dX11_beginsText_7 (fun h2 => ?_)
  refine j_aload_n E dX11_beginsText_10 0 rfl ?_
  refine j_iconst E (v := 0) dX11_beginsText_11 (by decide) ?_
  refine j_puti E fp_X11_185 (cM_0 hg) rfl dX11_beginsText_12 (fun h3 => ?_)
  refine j_aload_n E dX11_beginsText_15 0 rfl ?_
  refine j_iconst E (v := 0) dX11_beginsText_16 (by decide) ?_
  refine j_puti E fp_X11_240 (cM_0 hg) rfl dX11_beginsText_17 (fun h4 => ?_)
  exact j_vreturn E rfl dX11_beginsText_20
theorem ok_X11_beginsText {g : GC} (hg : isGM g) (hI : gI g) (a1 : Int32) (h : HP) : Ok g yX11_beginsText mX11_beginsText [.ref (g.2.2.1 0), .int a1] h (xX11_beginsText a1 h) := Ok.of hI (by decide) rfl (Nat.le_of_ble_eq_true rfl) (fun X E => jxX11_beginsText hg E a1 h)
set_option maxRecDepth 20000 in
set_option maxHeartbeats 4000000 in
theorem jxX11_law_19 {g : GC} (hg : isGM g) {X : MX} (N : Nat) (E : JE g mX11_law X) (h : HP) : J g mX11_law X 19 [] [] h (xX11_law_19 N h) := by
  unfold xX11_law_19
  refine j_iconst E (v := (-1)) dX11_law_19 (by decide) ?_
  exact j_ireturn E rfl dX11_law_20
set_option maxRecDepth 20000 in
set_option maxHeartbeats 4000000 in
theorem jxX11_law_67 {g : GC} (hg : isGM g) {X : MX} (N : Nat) (E : JE g mX11_law X) (K31 : Int32 → HP → Option (Int32 × HP)) (hK31 : ∀ (a2 : Int32) (h : HP), J g mX11_law X 31 [(0, .ref (g.2.2.1 0)), (2, .int a2)] [] h (K31 a2 h)) (s0 : Int32) (h : HP) : J g mX11_law X 67 [(0, .ref (g.2.2.1 0))] [.int s0] h (xX11_law_67 N K31 s0 h) := by
  unfold xX11_law_67
  refine j_istore0_n E dX11_law_67 (Nat.le_of_ble_eq_true rfl) [(2, .int s0), (0, .ref (g.2.2.1 0))] rfl ?_
  refine j_goto E 31 dX11_law_68 rfl ?_
  exact j_sub [1, 0] (lv1 := [(0, .ref (g.2.2.1 0)), (2, .int s0)]) rfl (hK31 s0 h)
set_option maxRecDepth 20000 in
set_option maxHeartbeats 4000000 in
theorem jxX11_law_66 {g : GC} (hg : isGM g) {X : MX} (N : Nat) (E : JE g mX11_law X) (K31 : Int32 → HP → Option (Int32 × HP)) (hK31 : ∀ (a2 : Int32) (h : HP), J g mX11_law X 31 [(0, .ref (g.2.2.1 0)), (2, .int a2)] [] h (K31 a2 h)) (h : HP) : J g mX11_law X 66 [(0, .ref (g.2.2.1 0))] [] h (xX11_law_66 N K31 h) := by
  unfold xX11_law_66
  refine j_iconst E (v := 0) dX11_law_66 (by decide) ?_
  exact jxX11_law_67 hg N E K31 hK31 0 h
set_option maxRecDepth 20000 in
set_option maxHeartbeats 4000000 in
theorem jxX11_law_123 {g : GC} (hg : isGM g) {X : MX} (N : Nat) (E : JE g mX11_law X) : ∀ (n : Nat) (a3 : Int32) (h : HP), J g mX11_law X 123 [(0, .ref (g.2.2.1 0)), (3, .int a3)] [] h (xX11_law_123 N n a3 h) := by
  intro n
  induction n with
  | zero => intro a3 h; exact j_none
  | succ n ih =>
    intro a3 h
    unfold xX11_law_123
    refine j_iload_n E dX11_law_123 1 rfl ?_
    refine j_aload_n E dX11_law_124 0 rfl ?_
    refine j_geti E f_X11_240 (cM_0 hg) rfl dX11_law_125 ?_
    refine j_cmp_ge E 185 dX11_law_128 rfl ?_ ?_
    · refine j_aload_n E dX11_law_185 0 rfl ?_
      refine j_geti E f_X11_240 (cM_0 hg) rfl dX11_law_186 ?_
      exact j_ireturn E rfl dX11_law_189
    · refine j_aload_n E dX11_law_131 0 rfl ?_
      refine j_getr E f_X11_56 (cM_0 hg) 16 rfl dX11_law_132 ?_
      refine j_iload_n E dX11_law_135 1 rfl ?_
      refine j_aload_n E dX11_law_136 0 rfl ?_
      refine j_getr E f_X11_41 (cM_0 hg) 11 rfl dX11_law_137 ?_
      refine j_iload_n E dX11_law_140 1 rfl ?_
      refine j_iald E (cM_11 hg) dX11_law_141 (fun t1 => ?_)
      refine j_iast E (cM_16 hg) dX11_law_142 (fun h2 => ?_)
      refine j_aload_n E dX11_law_143 0 rfl ?_
      refine j_getr E f_X11_59 (cM_0 hg) 17 rfl dX11_law_144 ?_
      refine j_iload_n E dX11_law_147 1 rfl ?_
      refine j_aload_n E dX11_law_148 0 rfl ?_
      refine j_getr E f_X11_44 (cM_0 hg) 12 rfl dX11_law_149 ?_
      refine j_iload_n E dX11_law_152 1 rfl ?_
      refine j_iald E (cM_12 hg) dX11_law_153 (fun t3 => ?_)
      refine j_iast E (cM_17 hg) dX11_law_154 (fun h4 => ?_)
      refine j_aload_n E dX11_law_155 0 rfl ?_
      refine j_getr E f_X11_62 (cM_0 hg) 18 rfl dX11_law_156 ?_
      refine j_iload_n E dX11_law_159 1 rfl ?_
      refine j_aload_n E dX11_law_160 0 rfl ?_
      refine j_getr E f_X11_47 (cM_0 hg) 13 rfl dX11_law_161 ?_
      refine j_iload_n E dX11_law_164 1 rfl ?_
      refine j_iald E (cM_13 hg) dX11_law_165 (fun t5 => ?_)
      refine j_iast E (cM_18 hg) dX11_law_166 (fun h6 => ?_)
      refine j_aload_n E dX11_law_167 0 rfl ?_
      refine j_getr E f_X11_65 (cM_0 hg) 19 rfl dX11_law_168 ?_
      refine j_iload_n E dX11_law_171 1 rfl ?_
      refine j_aload_n E dX11_law_172 0 rfl ?_
      refine j_getr E f_X11_50 (cM_0 hg) 14 rfl dX11_law_173 ?_
      refine j_iload_n E dX11_law_176 1 rfl ?_
      refine j_iald E (cM_14 hg) dX11_law_177 (fun t7 => ?_)
      refine j_iast E (cM_19 hg) dX11_law_178 (fun h8 => ?_)
      refine j_iinc E (c := 1) dX11_law_179 1 rfl (by decide) (Nat.le_of_ble_eq_true rfl) (fun v9 => [(3, .int v9), (0, .ref (g.2.2.1 0))]) (fun _ => rfl) (fun v9 => ?_)
      refine j_goto E 123 dX11_law_182 rfl ?_
      exact j_sub [1, 0] (lv1 := [(0, .ref (g.2.2.1 0)), (3, .int v9)]) rfl (ih v9 h8)
set_option maxRecDepth 20000 in
set_option maxHeartbeats 4000000 in
theorem jxX11_law_95 {g : GC} (hg : isGM g) {X : MX} (N : Nat) (E : JE g mX11_law X) : ∀ (n : Nat) (a3 : Int32) (h : HP), J g mX11_law X 95 [(0, .ref (g.2.2.1 0)), (3, .int a3)] [] h (xX11_law_95 N n a3 h) := by
  intro n
  induction n with
  | zero => intro a3 h; exact j_none
  | succ n ih =>
    intro a3 h
    unfold xX11_law_95
    refine j_iload_n E dX11_law_95 1 rfl ?_
    refine j_aload_n E dX11_law_96 0 rfl ?_
    refine j_geti E f_X11_185 (cM_0 hg) rfl dX11_law_97 ?_
    refine j_cmp_ge E 121 dX11_law_100 rfl ?_ ?_
    · refine j_iconst E (v := 0) dX11_law_121 (by decide) ?_
      refine j_istore0_n E dX11_law_122 (Nat.le_of_ble_eq_true rfl) [(3, .int 0), (0, .ref (g.2.2.1 0))] rfl ?_
      exact j_sub [1, 0] (lv1 := [(0, .ref (g.2.2.1 0)), (3, .int 0)]) rfl (jxX11_law_123 hg N E N 0 h)
    · refine j_aload_n E dX11_law_103 0 rfl ?_
      refine j_getr E f_X11_53 (cM_0 hg) 15 rfl dX11_law_104 ?_
      refine j_iload_n E dX11_law_107 1 rfl ?_
      refine j_aload_n E dX11_law_108 0 rfl ?_
      refine j_getr E f_X11_35 (cM_0 hg) 9 rfl dX11_law_109 ?_
      refine j_iload_n E dX11_law_112 1 rfl ?_
      refine j_iald E (cM_9 hg) dX11_law_113 (fun t1 => ?_)
      refine j_iast E (cM_15 hg) dX11_law_114 (fun h2 => ?_)
      refine j_iinc E (c := 1) dX11_law_115 1 rfl (by decide) (Nat.le_of_ble_eq_true rfl) (fun v3 => [(3, .int v3), (0, .ref (g.2.2.1 0))]) (fun _ => rfl) (fun v3 => ?_)
      refine j_goto E 95 dX11_law_118 rfl ?_
      exact j_sub [1, 0] (lv1 := [(0, .ref (g.2.2.1 0)), (3, .int v3)]) rfl (ih v3 h2)
set_option maxRecDepth 20000 in
set_option maxHeartbeats 4000000 in
theorem jxX11_law_71 {g : GC} (hg : isGM g) {X : MX} (N : Nat) (E : JE g mX11_law X) (a2 : Int32) (h : HP) : J g mX11_law X 71 [(0, .ref (g.2.2.1 0)), (2, .int a2)] [] h (xX11_law_71 N a2 h) := by
  unfold xX11_law_71
  refine j_aload_n E dX11_law_71 0 rfl ?_
  refine j_iconst E (v := 0) dX11_law_72 (by decide) ?_
  refine j_puti E fp_X11_155 (cM_0 hg) rfl dX11_law_73 (fun h1 => ?_)
  refine j_iload_n E dX11_law_76 1 rfl ?_
  refine j_if_ne E 85 dX11_law_77 rfl ?_ ?_
  · refine j_aload_n E dX11_law_85 0 rfl ?_
    refine j_aload_n E dX11_law_86 0 rfl ?_
    refine j_geti E f_X11_240 (cM_0 hg) rfl dX11_law_87 ?_
    refine j_puti E fp_X11_255 (cM_0 hg) rfl dX11_law_90 (fun h2 => ?_)
    refine j_iconst E (v := 0) dX11_law_93 (by decide) ?_
    refine j_istore0_n E dX11_law_94 (Nat.le_of_ble_eq_true rfl) [(3, .int 0), (0, .ref (g.2.2.1 0)), (2, .int a2)] rfl ?_
    exact j_sub [1, 0] (lv1 := [(0, .ref (g.2.2.1 0)), (3, .int 0)]) rfl (jxX11_law_95 hg N E N 0 h2)
  · refine j_aload_n E dX11_law_80 0 rfl ?_
    refine j_geti E f_X11_172 (cM_0 hg) rfl dX11_law_81 ?_
    exact j_ireturn E rfl dX11_law_84
set_option maxRecDepth 20000 in
set_option maxHeartbeats 4000000 in
theorem jxX11_law_31 {g : GC} (hg : isGM g) {X : MX} (N : Nat) (E : JE g mX11_law X) : ∀ (n : Nat) (a2 : Int32) (h : HP), J g mX11_law X 31 [(0, .ref (g.2.2.1 0)), (2, .int a2)] [] h (xX11_law_31 N n a2 h) := by
  intro n
  induction n with
  | zero => intro a2 h; exact j_none
  | succ n ih =>
    intro a2 h
    unfold xX11_law_31
    refine j_iload_n E dX11_law_31 1 rfl ?_
    refine j_if_eq E 71 dX11_law_32 rfl ?_ ?_
    · exact jxX11_law_71 hg N E a2 h
    · refine j_aload_n E dX11_law_35 0 rfl ?_
      refine j_geti E f_X11_162 (cM_0 hg) rfl dX11_law_36 ?_
      refine j_aload_n E dX11_law_39 0 rfl ?_
      refine j_geti E f_X11_165 (cM_0 hg) rfl dX11_law_40 ?_
      refine j_cmp_ge E 71 dX11_law_43 rfl ?_ ?_
      · exact jxX11_law_71 hg N E a2 h
      · refine j_aload_n E dX11_law_46 0 rfl ?_
        refine j_bipush E (v := 59) dX11_law_47 (by decide) ?_
        refine j_callvI (As := [.int 59]) (st := []) E (ok_X11_takes hg E.2.2.2.2.2.2.2.1 59 h) (cM_0 hg) (cl_X11_252) (⟨Nat.le_of_ble_eq_true rfl, Nat.le_of_ble_eq_true rfl⟩) rfl rfl (Nat.le_of_ble_eq_true rfl) dX11_law_49 (fun t1 h2 => ?_)
        refine j_if_eq E 66 dX11_law_52 rfl ?_ ?_
        · exact j_sub [0] (lv1 := [(0, .ref (g.2.2.1 0))]) rfl (jxX11_law_66 hg N E (xX11_law_31 N n) ih h2)
        · refine j_aload_n E dX11_law_55 0 rfl ?_
          refine j_callvI (As := []) (st := []) E (ok_X11_readsRule hg E.2.2.2.2.2.2.2.1 N h2) (cM_0 hg) (cl_X11_249) (⟨Nat.le_of_ble_eq_true rfl, Nat.le_of_ble_eq_true rfl⟩) rfl rfl (Nat.le_of_ble_eq_true rfl) dX11_law_56 (fun t3 h4 => ?_)
          refine j_if_eq E 66 dX11_law_59 rfl ?_ ?_
          · exact j_sub [0] (lv1 := [(0, .ref (g.2.2.1 0))]) rfl (jxX11_law_66 hg N E (xX11_law_31 N n) ih h4)
          · refine j_iconst E (v := 1) dX11_law_62 (by decide) ?_
            refine j_goto E 67 dX11_law_63 rfl ?_
            exact j_sub [0] (lv1 := [(0, .ref (g.2.2.1 0))]) rfl (jxX11_law_67 hg N E (xX11_law_31 N n) ih 1 h4)
set_option maxRecDepth 20000 in
set_option maxHeartbeats 4000000 in
theorem jxX11_law {g : GC} (hg : isGM g) {X : MX} (N : Nat) (E : JE g mX11_law X) (a1 : Int32) (h : HP) : J g mX11_law X 0 [(0, .ref (g.2.2.1 0)), (1, .int a1)] [] h (xX11_law N a1 h) := by
  unfold xX11_law
  refine j_iload_n E dX11_law_0 1 rfl ?_
  refine j_iconst E (v := 1) dX11_law_1 (by decide) ?_
  refine j_sipush E (v := 240) dX11_law_2 (by decide) ?_
  refine j_callsI (As := [.int a1, .int 1, .int 240]) (st := []) E (ok_X11_in hg E.2.2.2.2.2.2.2.1 a1 1 240 h) (cl_X11_129) (⟨Nat.le_of_ble_eq_true rfl, Nat.le_of_ble_eq_true rfl⟩) rfl rfl (Nat.le_of_ble_eq_true rfl) dX11_law_5 (fun t1 h2 => ?_)
  refine j_if_eq E 19 dX11_law_8 rfl ?_ ?_
  · exact j_sub [] (lv1 := []) rfl (jxX11_law_19 hg N E h2)
  · refine j_iload_n E dX11_law_11 1 rfl ?_
    refine j_aload_n E dX11_law_12 0 rfl ?_
    refine j_geti E f_X11_155 (cM_0 hg) rfl dX11_law_13 ?_
    refine j_cmp_le E 21 dX11_law_16 rfl ?_ ?_
    · refine j_aload_n E dX11_law_21 0 rfl ?_
      refine j_iload_n E dX11_law_22 1 rfl ?_
      refine j_callvV (As := [.int a1]) (st := []) E (ok_X11_beginsText hg E.2.2.2.2.2.2.2.1 a1 h2) (cM_0 hg) (cl_X11_246) (⟨Nat.le_of_ble_eq_true rfl, Nat.le_of_ble_eq_true rfl⟩) rfl rfl (Nat.le_of_ble_eq_true rfl) dX11_law_23 (fun t3 h4 => ?_)
      refine j_aload_n E dX11_law_26 0 rfl ?_
      refine j_callvI (As := []) (st := []) E (ok_X11_readsRule hg E.2.2.2.2.2.2.2.1 N h4) (cM_0 hg) (cl_X11_249) (⟨Nat.le_of_ble_eq_true rfl, Nat.le_of_ble_eq_true rfl⟩) rfl rfl (Nat.le_of_ble_eq_true rfl) dX11_law_27 (fun t5 h6 => ?_)
      refine j_istore0_n E dX11_law_30 (Nat.le_of_ble_eq_true rfl) [(2, .int t5), (0, .ref (g.2.2.1 0)), (1, .int a1)] rfl ?_
      exact j_sub [1, 0] (lv1 := [(0, .ref (g.2.2.1 0)), (2, .int t5)]) rfl (jxX11_law_31 hg N E N t5 h6)
    · exact j_sub [] (lv1 := []) rfl (jxX11_law_19 hg N E h2)
theorem ok_X11_law {g : GC} (hg : isGM g) (hI : gI g) (N : Nat) (a1 : Int32) (h : HP) : Ok g yX11_law mX11_law [.ref (g.2.2.1 0), .int a1] h (xX11_law N a1 h) := Ok.of hI (by decide) rfl (Nat.le_of_ble_eq_true rfl) (fun X E => jxX11_law hg N E a1 h)
set_option maxRecDepth 20000 in
set_option maxHeartbeats 4000000 in
theorem jxX11_reckon_74 {g : GC} (hg : isGM g) {X : MX} (E : JE g mX11_reckon X) (s0 : Int32) (h : HP) : J g mX11_reckon X 74 [] [.int s0] h (xX11_reckon_74 s0 h) := by
  unfold xX11_reckon_74
  exact j_ireturn E rfl dX11_reckon_74
set_option maxRecDepth 20000 in
set_option maxHeartbeats 4000000 in
theorem jxX11_reckon_85 {g : GC} (hg : isGM g) {X : MX} (E : JE g mX11_reckon X) (s0 : Int32) (h : HP) : J g mX11_reckon X 85 [] [.int s0] h (xX11_reckon_85 s0 h) := by
  unfold xX11_reckon_85
  exact j_ireturn E rfl dX11_reckon_85
set_option maxRecDepth 20000 in
set_option maxHeartbeats 4000000 in
theorem jxX11_reckon_96 {g : GC} (hg : isGM g) {X : MX} (E : JE g mX11_reckon X) (s0 : Int32) (h : HP) : J g mX11_reckon X 96 [] [.int s0] h (xX11_reckon_96 s0 h) := by
  unfold xX11_reckon_96
  exact j_ireturn E rfl dX11_reckon_96
set_option maxRecDepth 20000 in
set_option maxHeartbeats 4000000 in
theorem jxX11_reckon {g : GC} (hg : isGM g) {X : MX} (E : JE g mX11_reckon X) (a0 : Int32) (a1 : Int32) (a2 : Int32) (h : HP) : J g mX11_reckon X 0 [(0, .int a0), (1, .int a1), (2, .int a2)] [] h (xX11_reckon a0 a1 a2 h) := by
  unfold xX11_reckon
  refine j_iload_n E dX11_reckon_0 0 rfl ?_
  refine j_tab E 2 44 dX11_reckon_1 (by decide) (by decide) rfl rfl ?_ (fun hx2 => ?_)
  · refine j_iload_n E dX11_reckon_44 1 rfl ?_
    refine j_iload_n E dX11_reckon_45 2 rfl ?_
    refine j_iadd E dX11_reckon_46 ?_
    exact j_ireturn E rfl dX11_reckon_47
  refine j_tab E 3 48 dX11_reckon_1 (by decide) (by decide) rfl rfl ?_ (fun hx3 => ?_)
  · refine j_iload_n E dX11_reckon_48 1 rfl ?_
    refine j_iload_n E dX11_reckon_49 2 rfl ?_
    refine j_isub E dX11_reckon_50 ?_
    exact j_ireturn E rfl dX11_reckon_51
  refine j_tab E 4 52 dX11_reckon_1 (by decide) (by decide) rfl rfl ?_ (fun hx4 => ?_)
  · refine j_iload_n E dX11_reckon_52 1 rfl ?_
    refine j_iload_n E dX11_reckon_53 2 rfl ?_
    refine j_imul E dX11_reckon_54 ?_
    exact j_ireturn E rfl dX11_reckon_55
  refine j_tab E 5 56 dX11_reckon_1 (by decide) (by decide) rfl rfl ?_ (fun hx5 => ?_)
  · refine j_iload_n E dX11_reckon_56 1 rfl ?_
    refine j_iload_n E dX11_reckon_57 2 rfl ?_
    refine j_idiv E dX11_reckon_58 (fun t1 => ?_)
    exact j_ireturn E rfl dX11_reckon_59
  refine j_tab E 6 60 dX11_reckon_1 (by decide) (by decide) rfl rfl ?_ (fun hx6 => ?_)
  · refine j_iload_n E dX11_reckon_60 1 rfl ?_
    refine j_iload_n E dX11_reckon_61 2 rfl ?_
    refine j_irem E dX11_reckon_62 (fun t2 => ?_)
    exact j_ireturn E rfl dX11_reckon_63
  refine j_tab E 7 64 dX11_reckon_1 (by decide) (by decide) rfl rfl ?_ (fun hx7 => ?_)
  · refine j_iload_n E dX11_reckon_64 1 rfl ?_
    refine j_iload_n E dX11_reckon_65 2 rfl ?_
    refine j_cmp_ge E 73 dX11_reckon_66 rfl ?_ ?_
    · refine j_iconst E (v := 0) dX11_reckon_73 (by decide) ?_
      exact j_sub [] (lv1 := []) rfl (jxX11_reckon_74 hg E 0 h)
    · refine j_iconst E (v := 1) dX11_reckon_69 (by decide) ?_
      refine j_goto E 74 dX11_reckon_70 rfl ?_
      exact j_sub [] (lv1 := []) rfl (jxX11_reckon_74 hg E 1 h)
  refine j_tab E 8 75 dX11_reckon_1 (by decide) (by decide) rfl rfl ?_ (fun hx8 => ?_)
  · refine j_iload_n E dX11_reckon_75 1 rfl ?_
    refine j_iload_n E dX11_reckon_76 2 rfl ?_
    refine j_cmp_le E 84 dX11_reckon_77 rfl ?_ ?_
    · refine j_iconst E (v := 0) dX11_reckon_84 (by decide) ?_
      exact j_sub [] (lv1 := []) rfl (jxX11_reckon_85 hg E 0 h)
    · refine j_iconst E (v := 1) dX11_reckon_80 (by decide) ?_
      refine j_goto E 85 dX11_reckon_81 rfl ?_
      exact j_sub [] (lv1 := []) rfl (jxX11_reckon_85 hg E 1 h)
  refine j_tdef E 86 [2, 3, 4, 5, 6, 7, 8] (by intro vq hq; simp only [List.mem_cons, List.not_mem_nil, or_false] at hq; rcases hq with rfl | rfl | rfl | rfl | rfl | rfl | rfl <;> assumption) dX11_reckon_1 (by decide) (by decide) rfl ?_
  refine j_iload_n E dX11_reckon_86 1 rfl ?_
  refine j_iload_n E dX11_reckon_87 2 rfl ?_
  refine j_cmp_ne E 95 dX11_reckon_88 rfl ?_ ?_
  · refine j_iconst E (v := 0) dX11_reckon_95 (by decide) ?_
    exact j_sub [] (lv1 := []) rfl (jxX11_reckon_96 hg E 0 h)
  · refine j_iconst E (v := 1) dX11_reckon_91 (by decide) ?_
    refine j_goto E 96 dX11_reckon_92 rfl ?_
    exact j_sub [] (lv1 := []) rfl (jxX11_reckon_96 hg E 1 h)
theorem ok_X11_reckon {g : GC} (hg : isGM g) (hI : gI g) (a0 : Int32) (a1 : Int32) (a2 : Int32) (h : HP) : Ok g yX11_reckon mX11_reckon [.int a0, .int a1, .int a2] h (xX11_reckon a0 a1 a2 h) := Ok.of hI (by decide) rfl (Nat.le_of_ble_eq_true rfl) (fun X E => jxX11_reckon hg E a0 a1 a2 h)
set_option maxRecDepth 20000 in
set_option maxHeartbeats 4000000 in
theorem jxX11_reckonsTo_230 {g : GC} (hg : isGM g) {X : MX} (N : Nat) (E : JE g mX11_reckonsTo X) (K16 : Int32 → Int32 → Int32 → Int32 → HP → Option (Int32 × HP)) (hK16 : ∀ (a2 : Int32) (a3 : Int32) (a4 : Int32) (a5 : Int32) (h : HP), J g mX11_reckonsTo X 16 [(0, .ref (g.2.2.1 0)), (2, .int a2), (3, .int a3), (4, .int a4), (5, .int a5)] [] h (K16 a2 a3 a4 a5 h)) (a2 : Int32) (a3 : Int32) (a4 : Int32) (a5 : Int32) (h : HP) : J g mX11_reckonsTo X 230 [(0, .ref (g.2.2.1 0)), (2, .int a2), (3, .int a3), (4, .int a4), (5, .int a5)] [] h (xX11_reckonsTo_230 N K16 a2 a3 a4 a5 h) := by
  unfold xX11_reckonsTo_230
  refine j_goto E 16 dX11_reckonsTo_230 rfl ?_
  exact hK16 a2 a3 a4 a5 h
set_option maxRecDepth 20000 in
set_option maxHeartbeats 4000000 in
theorem jxX11_reckonsTo_85 {g : GC} (hg : isGM g) {X : MX} (N : Nat) (E : JE g mX11_reckonsTo X) (K16 : Int32 → Int32 → Int32 → Int32 → HP → Option (Int32 × HP)) (hK16 : ∀ (a2 : Int32) (a3 : Int32) (a4 : Int32) (a5 : Int32) (h : HP), J g mX11_reckonsTo X 16 [(0, .ref (g.2.2.1 0)), (2, .int a2), (3, .int a3), (4, .int a4), (5, .int a5)] [] h (K16 a2 a3 a4 a5 h)) (a2 : Int32) (a3 : Int32) (a4 : Int32) (a5 : Int32) (s1 : Int32) (s2 : Int32) (h : HP) : J g mX11_reckonsTo X 85 [(0, .ref (g.2.2.1 0)), (2, .int a2), (3, .int a3), (4, .int a4), (5, .int a5)] [.int s2, .int s1, .ref (g.2.2.1 20)] h (xX11_reckonsTo_85 N K16 a2 a3 a4 a5 s1 s2 h) := by
  unfold xX11_reckonsTo_85
  refine j_iast E (cM_20 hg) dX11_reckonsTo_85 (fun h1 => ?_)
  refine j_iload_n E dX11_reckonsTo_86 2 rfl ?_
  refine j_iconst E (v := 1) dX11_reckonsTo_87 (by decide) ?_
  refine j_iadd E dX11_reckonsTo_88 ?_
  refine j_istore_n E dX11_reckonsTo_89 (Nat.le_of_ble_eq_true rfl) (fun v2 => [(3, .int v2), (0, .ref (g.2.2.1 0)), (2, .int a2), (4, .int a4), (5, .int a5)]) (fun _ => rfl) (fun v2 => ?_)
  refine j_goto E 230 dX11_reckonsTo_90 rfl ?_
  exact j_sub [1, 2, 0, 3, 4] (lv1 := [(0, .ref (g.2.2.1 0)), (2, .int a2), (3, .int v2), (4, .int a4), (5, .int a5)]) rfl (jxX11_reckonsTo_230 hg N E K16 hK16 a2 v2 a4 a5 h1)
set_option maxRecDepth 20000 in
set_option maxHeartbeats 4000000 in
theorem jxX11_reckonsTo_63 {g : GC} (hg : isGM g) {X : MX} (N : Nat) (E : JE g mX11_reckonsTo X) (K16 : Int32 → Int32 → Int32 → Int32 → HP → Option (Int32 × HP)) (hK16 : ∀ (a2 : Int32) (a3 : Int32) (a4 : Int32) (a5 : Int32) (h : HP), J g mX11_reckonsTo X 16 [(0, .ref (g.2.2.1 0)), (2, .int a2), (3, .int a3), (4, .int a4), (5, .int a5)] [] h (K16 a2 a3 a4 a5 h)) (a2 : Int32) (a3 : Int32) (a4 : Int32) (a5 : Int32) (a6 : Int32) (a7 : Int32) (h : HP) : J g mX11_reckonsTo X 63 [(0, .ref (g.2.2.1 0)), (2, .int a2), (3, .int a3), (4, .int a4), (5, .int a5), (6, .int a6), (7, .int a7)] [] h (xX11_reckonsTo_63 N K16 a2 a3 a4 a5 a6 a7 h) := by
  unfold xX11_reckonsTo_63
  refine j_aload_n E dX11_reckonsTo_63 0 rfl ?_
  refine j_getr E f_X11_68 (cM_0 hg) 20 rfl dX11_reckonsTo_64 ?_
  refine j_iload_n E dX11_reckonsTo_67 2 rfl ?_
  refine j_iload E dX11_reckonsTo_68 5 rfl ?_
  refine j_if_ne E 78 dX11_reckonsTo_70 rfl ?_ ?_
  · refine j_aload_n E dX11_reckonsTo_78 0 rfl ?_
    refine j_getr E f_X11_71 (cM_0 hg) 21 rfl dX11_reckonsTo_79 ?_
    refine j_iload E dX11_reckonsTo_82 6 rfl ?_
    refine j_iald E (cM_21 hg) dX11_reckonsTo_84 (fun t1 => ?_)
    exact j_sub [0, 1, 2, 3, 4] (lv1 := [(0, .ref (g.2.2.1 0)), (2, .int a2), (3, .int a3), (4, .int a4), (5, .int a5)]) rfl (jxX11_reckonsTo_85 hg N E K16 hK16 a2 a3 a4 a5 a3 t1 h)
  · refine j_iload E dX11_reckonsTo_73 6 rfl ?_
    refine j_goto E 85 dX11_reckonsTo_75 rfl ?_
    exact j_sub [0, 1, 2, 3, 4] (lv1 := [(0, .ref (g.2.2.1 0)), (2, .int a2), (3, .int a3), (4, .int a4), (5, .int a5)]) rfl (jxX11_reckonsTo_85 hg N E K16 hK16 a2 a3 a4 a5 a3 a7 h)
set_option maxRecDepth 20000 in
set_option maxHeartbeats 4000000 in
theorem jxX11_reckonsTo_155 {g : GC} (hg : isGM g) {X : MX} (N : Nat) (E : JE g mX11_reckonsTo X) (K16 : Int32 → Int32 → Int32 → Int32 → HP → Option (Int32 × HP)) (hK16 : ∀ (a2 : Int32) (a3 : Int32) (a4 : Int32) (a5 : Int32) (h : HP), J g mX11_reckonsTo X 16 [(0, .ref (g.2.2.1 0)), (2, .int a2), (3, .int a3), (4, .int a4), (5, .int a5)] [] h (K16 a2 a3 a4 a5 h)) (a2 : Int32) (a3 : Int32) (a4 : Int32) (a5 : Int32) (a7 : Int32) (s0 : Int32) (s1 : Int32) (h : HP) : J g mX11_reckonsTo X 155 [(0, .ref (g.2.2.1 0)), (2, .int a2), (3, .int a3), (4, .int a4), (5, .int a5), (7, .int a7)] [.int s1, .int s0] h (xX11_reckonsTo_155 N K16 a2 a3 a4 a5 a7 s0 s1 h) := by
  unfold xX11_reckonsTo_155
  refine j_cmp_ne E 168 dX11_reckonsTo_155 rfl ?_ ?_
  · refine j_iload_n E dX11_reckonsTo_168 2 rfl ?_
    refine j_iconst E (v := 1) dX11_reckonsTo_169 (by decide) ?_
    refine j_isub E dX11_reckonsTo_170 ?_
    refine j_istore_n E dX11_reckonsTo_171 (Nat.le_of_ble_eq_true rfl) (fun v1 => [(3, .int v1), (0, .ref (g.2.2.1 0)), (2, .int a2), (4, .int a4), (5, .int a5), (7, .int a7)]) (fun _ => rfl) (fun v1 => ?_)
    refine j_goto E 230 dX11_reckonsTo_172 rfl ?_
    exact j_sub [1, 2, 0, 3, 4] (lv1 := [(0, .ref (g.2.2.1 0)), (2, .int a2), (3, .int v1), (4, .int a4), (5, .int a5)]) rfl (jxX11_reckonsTo_230 hg N E K16 hK16 a2 v1 a4 a5 h)
  · refine j_iload E dX11_reckonsTo_158 3 rfl ?_
    refine j_iload E dX11_reckonsTo_160 5 rfl ?_
    refine j_iadd E dX11_reckonsTo_162 ?_
    refine j_istore E dX11_reckonsTo_163 (Nat.le_of_ble_eq_true rfl) (fun v2 => [(5, .int v2), (0, .ref (g.2.2.1 0)), (2, .int a2), (3, .int a3), (4, .int a4), (7, .int a7)]) (fun _ => rfl) (fun v2 => ?_)
    refine j_goto E 230 dX11_reckonsTo_165 rfl ?_
    exact j_sub [1, 2, 3, 4, 0] (lv1 := [(0, .ref (g.2.2.1 0)), (2, .int a2), (3, .int a3), (4, .int a4), (5, .int v2)]) rfl (jxX11_reckonsTo_230 hg N E K16 hK16 a2 a3 a4 v2 h)
