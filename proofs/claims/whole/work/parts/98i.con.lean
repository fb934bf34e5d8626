/-! ===== the constructors ===== -/
theorem oi_i : Cond.instanceMethod objectInit ∈ TBL := tb_in 126 (by decide +kernel) rfl
theorem oi_c : Cond.code objectInit ⟨#[0xb1]⟩ 1 none ∈ TBL := tb_in 127 (by decide +kernel) rfl
theorem ar_int : Cond.arrayClass (newarray.typeOf .int) ∈ TBL := tb_in 155 (by decide +kernel) rfl
theorem ar_byte : Cond.arrayClass (newarray.typeOf .byte) ∈ TBL := tb_in 658 (by decide +kernel) rfl
theorem ar_long : Cond.arrayClass (newarray.typeOf .long) ∈ TBL := tb_in 417 (by decide +kernel) rfl
theorem c_nrm {g : GC} {M : CM} {X : MX} {b pc cells slots : Nat} {es es2 es1 : List va_E} {lv : List (Nat × Value)} {st st1 : List Value} {cells1 slots1 : Nat} (h : es = es1) (h0 : st = st1) (h1 : cells = cells1) (h2 : slots = slots1) (kk : CJ g M X b es2 pc lv st1 es1 cells1 slots1) : CJ g M X b es2 pc lv st es cells slots := by subst h; subst h0; subst h1; subst h2; exact kk
theorem wr_X0_9 : WRF RX0 9 0 0 (.array .int) true := ⟨RX0, TX0, 5, tyX0, rfl, inX0, by decide, tb_in 424 (by decide +kernel) rfl, tyX0_ok, nmX0, rfl, by decide +kernel, rfl⟩
def MX0_init : CM := (cX0_init, 1, RX0, 1, 12, 1, 8161)
set_option maxRecDepth 20000 in
set_option maxHeartbeats 4000000 in
theorem co_X0 (g : GC) (b : Nat) : CO g yX0_init MX0_init [.ref b] b [.inr (0, [.null, .int 0, .int 0, .int 0, .int 0])]
    [.inr (0, [.ref (b + 1), .int 0, .int 0, .int 0, .int 0]), .inl (g.2.2.2.1.1, 8161, .inl (fun _ => 0))] := by
  refine CO.of (by decide) rfl rfl (Nat.le_of_ble_eq_true rfl) (fun X E => ?_)
  show CJ g MX0_init X b _ 0 [(0, .ref b)] [] [.inr (0, [.null, .int 0, .int 0, .int 0, .int 0])] 0 0
  refine c_aload E dX0_init_0 0 rfl ?_
  refine c_obj E (idx := 3) (tb_in 423 (by decide +kernel) rfl) oi_i oi_c dX0_init_1 (by decide) (by decide) ?_
  refine c_aload E dX0_init_4 0 rfl ?_
  refine c_spush (v := 8161) E dX0_init_5 (by decide) ?_
  refine c_newI E ar_int 8161 (by decide) (by decide) (by decide) (by decide) (by decide) dX0_init_8 ?_
  refine c_nrm (es1 := [.inr (0, [.null, .int 0, .int 0, .int 0, .int 0]), .inl (g.2.2.2.1.1, 8161, .inl (fun _ => 0))]) (st1 := [.ref (b + 1), .ref b]) (cells1 := 1) (slots1 := 8161) rfl rfl rfl rfl ?_
  refine c_putF E 0 wr_X0_9 rfl rfl rfl rfl (Nat.le_of_ble_eq_true rfl) dX0_init_10 ?_
  refine c_nrm (es1 := [.inr (0, [.ref (b + 1), .int 0, .int 0, .int 0, .int 0]), .inl (g.2.2.2.1.1, 8161, .inl (fun _ => 0))]) (st1 := []) (cells1 := 1) (slots1 := 8161) rfl rfl rfl rfl ?_
  exact c_ret E (by decide) (by decide) dX0_init_13
theorem wr_X1_9 : WRF RX1 9 1 1 (.array .int) true := ⟨RX1, TX1, 4, tyX1, rfl, inX1, by decide, tb_in 371 (by decide +kernel) rfl, tyX1_ok, nmX1, rfl, by decide +kernel, rfl⟩
theorem wr_X1_15 : WRF RX1 15 1 2 (.array .int) true := ⟨RX1, TX1, 4, tyX1, rfl, inX1, by decide, tb_in 372 (by decide +kernel) rfl, tyX1_ok, nmX1, rfl, by decide +kernel, rfl⟩
theorem wr_X1_18 : WRF RX1 18 1 0 (.object "SorrowPipes$Streets") true := ⟨RX1, TX1, 4, tyX1, rfl, inX1, by decide, tb_in 370 (by decide +kernel) rfl, tyX1_ok, nmX1, rfl, by decide +kernel, rfl⟩
def MX1_init : CM := (cX1_init, 2, RX1, 1, 12, 2, 272)
set_option maxRecDepth 20000 in
set_option maxHeartbeats 4000000 in
theorem co_X1 (g : GC) (b x0 : Nat) : CO g yX1_init MX1_init [.ref b, .ref x0] b [.inr (1, [.null, .null, .null, .int 0])]
    [.inr (1, [.ref x0, .ref (b + 1), .ref (b + 2), .int 0]), .inl (g.2.2.2.1.1, 256, .inl (fun _ => 0)), .inl (g.2.2.2.1.1, 16, .inl (fun _ => 0))] := by
  refine CO.of (by decide) rfl rfl (Nat.le_of_ble_eq_true rfl) (fun X E => ?_)
  show CJ g MX1_init X b _ 0 [(0, .ref b), (1, .ref x0)] [] [.inr (1, [.null, .null, .null, .int 0])] 0 0
  refine c_aload E dX1_init_0 0 rfl ?_
  refine c_obj E (idx := 3) (tb_in 369 (by decide +kernel) rfl) oi_i oi_c dX1_init_1 (by decide) (by decide) ?_
  refine c_aload E dX1_init_4 0 rfl ?_
  refine c_spush (v := 256) E dX1_init_5 (by decide) ?_
  refine c_newI E ar_int 256 (by decide) (by decide) (by decide) (by decide) (by decide) dX1_init_8 ?_
  refine c_nrm (es1 := [.inr (1, [.null, .null, .null, .int 0]), .inl (g.2.2.2.1.1, 256, .inl (fun _ => 0))]) (st1 := [.ref (b + 1), .ref b]) (cells1 := 1) (slots1 := 256) rfl rfl rfl rfl ?_
  refine c_putF E 0 wr_X1_9 rfl rfl rfl rfl (Nat.le_of_ble_eq_true rfl) dX1_init_10 ?_
  refine c_nrm (es1 := [.inr (1, [.null, .ref (b + 1), .null, .int 0]), .inl (g.2.2.2.1.1, 256, .inl (fun _ => 0))]) (st1 := []) (cells1 := 1) (slots1 := 256) rfl rfl rfl rfl ?_
  refine c_aload E dX1_init_13 0 rfl ?_
  refine c_push (v := 16) E dX1_init_14 (by decide) ?_
  refine c_newI E ar_int 16 (by decide) (by decide) (by decide) (by decide) (by decide) dX1_init_16 ?_
  refine c_nrm (es1 := [.inr (1, [.null, .ref (b + 1), .null, .int 0]), .inl (g.2.2.2.1.1, 256, .inl (fun _ => 0)), .inl (g.2.2.2.1.1, 16, .inl (fun _ => 0))]) (st1 := [.ref (b + 2), .ref b]) (cells1 := 2) (slots1 := 272) rfl rfl rfl rfl ?_
  refine c_putF E 0 wr_X1_15 rfl rfl rfl rfl (Nat.le_of_ble_eq_true rfl) dX1_init_18 ?_
  refine c_nrm (es1 := [.inr (1, [.null, .ref (b + 1), .ref (b + 2), .int 0]), .inl (g.2.2.2.1.1, 256, .inl (fun _ => 0)), .inl (g.2.2.2.1.1, 16, .inl (fun _ => 0))]) (st1 := []) (cells1 := 2) (slots1 := 272) rfl rfl rfl rfl ?_
  refine c_aload E dX1_init_21 0 rfl ?_
  refine c_aload E dX1_init_22 1 rfl ?_
  refine c_putF E 0 wr_X1_18 rfl rfl rfl rfl (Nat.le_of_ble_eq_true rfl) dX1_init_23 ?_
  refine c_nrm (es1 := [.inr (1, [.ref x0, .ref (b + 1), .ref (b + 2), .int 0]), .inl (g.2.2.2.1.1, 256, .inl (fun _ => 0)), .inl (g.2.2.2.1.1, 16, .inl (fun _ => 0))]) (st1 := []) (cells1 := 2) (slots1 := 272) rfl rfl rfl rfl ?_
  exact c_ret E (by decide) (by decide) dX1_init_26
theorem wr_X2_9 : WRF RX2 9 2 0 (.array .int) true := ⟨RX2, TX2, 8, tyX2, rfl, inX2, by decide, tb_in 208 (by decide +kernel) rfl, tyX2_ok, nmX2, rfl, by decide +kernel, rfl⟩
theorem wr_X2_15 : WRF RX2 15 2 1 (.array .int) true := ⟨RX2, TX2, 8, tyX2, rfl, inX2, by decide, tb_in 210 (by decide +kernel) rfl, tyX2_ok, nmX2, rfl, by decide +kernel, rfl⟩
theorem wr_X2_18 : WRF RX2 18 2 2 (.array .int) true := ⟨RX2, TX2, 8, tyX2, rfl, inX2, by decide, tb_in 212 (by decide +kernel) rfl, tyX2_ok, nmX2, rfl, by decide +kernel, rfl⟩
theorem wr_X2_21 : WRF RX2 21 2 3 (.array .int) true := ⟨RX2, TX2, 8, tyX2, rfl, inX2, by decide, tb_in 214 (by decide +kernel) rfl, tyX2_ok, nmX2, rfl, by decide +kernel, rfl⟩
theorem wr_X2_24 : WRF RX2 24 2 4 (.array .int) true := ⟨RX2, TX2, 8, tyX2, rfl, inX2, by decide, tb_in 216 (by decide +kernel) rfl, tyX2_ok, nmX2, rfl, by decide +kernel, rfl⟩
theorem wr_X2_27 : WRF RX2 27 2 5 (.array .int) true := ⟨RX2, TX2, 8, tyX2, rfl, inX2, by decide, tb_in 218 (by decide +kernel) rfl, tyX2_ok, nmX2, rfl, by decide +kernel, rfl⟩
def MX2_init : CM := (cX2_init, 1, RX2, 1, 12, 6, 544)
set_option maxRecDepth 20000 in
set_option maxHeartbeats 4000000 in
theorem co_X2 (g : GC) (b : Nat) : CO g yX2_init MX2_init [.ref b] b [.inr (2, [.null, .null, .null, .null, .null, .null, .int 0, .int 0])]
    [.inr (2, [.ref (b + 1), .ref (b + 2), .ref (b + 3), .ref (b + 4), .ref (b + 5), .ref (b + 6), .int 0, .int 0]), .inl (g.2.2.2.1.1, 240, .inl (fun _ => 0)), .inl (g.2.2.2.1.1, 240, .inl (fun _ => 0)), .inl (g.2.2.2.1.1, 16, .inl (fun _ => 0)), .inl (g.2.2.2.1.1, 16, .inl (fun _ => 0)), .inl (g.2.2.2.1.1, 16, .inl (fun _ => 0)), .inl (g.2.2.2.1.1, 16, .inl (fun _ => 0))] := by
  refine CO.of (by decide) rfl rfl (Nat.le_of_ble_eq_true rfl) (fun X E => ?_)
  show CJ g MX2_init X b _ 0 [(0, .ref b)] [] [.inr (2, [.null, .null, .null, .null, .null, .null, .int 0, .int 0])] 0 0
  refine c_aload E dX2_init_0 0 rfl ?_
  refine c_obj E (idx := 3) (tb_in 207 (by decide +kernel) rfl) oi_i oi_c dX2_init_1 (by decide) (by decide) ?_
  refine c_aload E dX2_init_4 0 rfl ?_
  refine c_spush (v := 240) E dX2_init_5 (by decide) ?_
  refine c_newI E ar_int 240 (by decide) (by decide) (by decide) (by decide) (by decide) dX2_init_8 ?_
  refine c_nrm (es1 := [.inr (2, [.null, .null, .null, .null, .null, .null, .int 0, .int 0]), .inl (g.2.2.2.1.1, 240, .inl (fun _ => 0))]) (st1 := [.ref (b + 1), .ref b]) (cells1 := 1) (slots1 := 240) rfl rfl rfl rfl ?_
  refine c_putF E 0 wr_X2_9 rfl rfl rfl rfl (Nat.le_of_ble_eq_true rfl) dX2_init_10 ?_
  refine c_nrm (es1 := [.inr (2, [.ref (b + 1), .null, .null, .null, .null, .null, .int 0, .int 0]), .inl (g.2.2.2.1.1, 240, .inl (fun _ => 0))]) (st1 := []) (cells1 := 1) (slots1 := 240) rfl rfl rfl rfl ?_
  refine c_aload E dX2_init_13 0 rfl ?_
  refine c_spush (v := 240) E dX2_init_14 (by decide) ?_
  refine c_newI E ar_int 240 (by decide) (by decide) (by decide) (by decide) (by decide) dX2_init_17 ?_
  refine c_nrm (es1 := [.inr (2, [.ref (b + 1), .null, .null, .null, .null, .null, .int 0, .int 0]), .inl (g.2.2.2.1.1, 240, .inl (fun _ => 0)), .inl (g.2.2.2.1.1, 240, .inl (fun _ => 0))]) (st1 := [.ref (b + 2), .ref b]) (cells1 := 2) (slots1 := 480) rfl rfl rfl rfl ?_
  refine c_putF E 0 wr_X2_15 rfl rfl rfl rfl (Nat.le_of_ble_eq_true rfl) dX2_init_19 ?_
  refine c_nrm (es1 := [.inr (2, [.ref (b + 1), .ref (b + 2), .null, .null, .null, .null, .int 0, .int 0]), .inl (g.2.2.2.1.1, 240, .inl (fun _ => 0)), .inl (g.2.2.2.1.1, 240, .inl (fun _ => 0))]) (st1 := []) (cells1 := 2) (slots1 := 480) rfl rfl rfl rfl ?_
  refine c_aload E dX2_init_22 0 rfl ?_
  refine c_push (v := 16) E dX2_init_23 (by decide) ?_
  refine c_newI E ar_int 16 (by decide) (by decide) (by decide) (by decide) (by decide) dX2_init_25 ?_
  refine c_nrm (es1 := [.inr (2, [.ref (b + 1), .ref (b + 2), .null, .null, .null, .null, .int 0, .int 0]), .inl (g.2.2.2.1.1, 240, .inl (fun _ => 0)), .inl (g.2.2.2.1.1, 240, .inl (fun _ => 0)), .inl (g.2.2.2.1.1, 16, .inl (fun _ => 0))]) (st1 := [.ref (b + 3), .ref b]) (cells1 := 3) (slots1 := 496) rfl rfl rfl rfl ?_
  refine c_putF E 0 wr_X2_18 rfl rfl rfl rfl (Nat.le_of_ble_eq_true rfl) dX2_init_27 ?_
  refine c_nrm (es1 := [.inr (2, [.ref (b + 1), .ref (b + 2), .ref (b + 3), .null, .null, .null, .int 0, .int 0]), .inl (g.2.2.2.1.1, 240, .inl (fun _ => 0)), .inl (g.2.2.2.1.1, 240, .inl (fun _ => 0)), .inl (g.2.2.2.1.1, 16, .inl (fun _ => 0))]) (st1 := []) (cells1 := 3) (slots1 := 496) rfl rfl rfl rfl ?_
  refine c_aload E dX2_init_30 0 rfl ?_
  refine c_push (v := 16) E dX2_init_31 (by decide) ?_
  refine c_newI E ar_int 16 (by decide) (by decide) (by decide) (by decide) (by decide) dX2_init_33 ?_
  refine c_nrm (es1 := [.inr (2, [.ref (b + 1), .ref (b + 2), .ref (b + 3), .null, .null, .null, .int 0, .int 0]), .inl (g.2.2.2.1.1, 240, .inl (fun _ => 0)), .inl (g.2.2.2.1.1, 240, .inl (fun _ => 0)), .inl (g.2.2.2.1.1, 16, .inl (fun _ => 0)), .inl (g.2.2.2.1.1, 16, .inl (fun _ => 0))]) (st1 := [.ref (b + 4), .ref b]) (cells1 := 4) (slots1 := 512) rfl rfl rfl rfl ?_
  refine c_putF E 0 wr_X2_21 rfl rfl rfl rfl (Nat.le_of_ble_eq_true rfl) dX2_init_35 ?_
  refine c_nrm (es1 := [.inr (2, [.ref (b + 1), .ref (b + 2), .ref (b + 3), .ref (b + 4), .null, .null, .int 0, .int 0]), .inl (g.2.2.2.1.1, 240, .inl (fun _ => 0)), .inl (g.2.2.2.1.1, 240, .inl (fun _ => 0)), .inl (g.2.2.2.1.1, 16, .inl (fun _ => 0)), .inl (g.2.2.2.1.1, 16, .inl (fun _ => 0))]) (st1 := []) (cells1 := 4) (slots1 := 512) rfl rfl rfl rfl ?_
  refine c_aload E dX2_init_38 0 rfl ?_
  refine c_push (v := 16) E dX2_init_39 (by decide) ?_
  refine c_newI E ar_int 16 (by decide) (by decide) (by decide) (by decide) (by decide) dX2_init_41 ?_
  refine c_nrm (es1 := [.inr (2, [.ref (b + 1), .ref (b + 2), .ref (b + 3), .ref (b + 4), .null, .null, .int 0, .int 0]), .inl (g.2.2.2.1.1, 240, .inl (fun _ => 0)), .inl (g.2.2.2.1.1, 240, .inl (fun _ => 0)), .inl (g.2.2.2.1.1, 16, .inl (fun _ => 0)), .inl (g.2.2.2.1.1, 16, .inl (fun _ => 0)), .inl (g.2.2.2.1.1, 16, .inl (fun _ => 0))]) (st1 := [.ref (b + 5), .ref b]) (cells1 := 5) (slots1 := 528) rfl rfl rfl rfl ?_
  refine c_putF E 0 wr_X2_24 rfl rfl rfl rfl (Nat.le_of_ble_eq_true rfl) dX2_init_43 ?_
  refine c_nrm (es1 := [.inr (2, [.ref (b + 1), .ref (b + 2), .ref (b + 3), .ref (b + 4), .ref (b + 5), .null, .int 0, .int 0]), .inl (g.2.2.2.1.1, 240, .inl (fun _ => 0)), .inl (g.2.2.2.1.1, 240, .inl (fun _ => 0)), .inl (g.2.2.2.1.1, 16, .inl (fun _ => 0)), .inl (g.2.2.2.1.1, 16, .inl (fun _ => 0)), .inl (g.2.2.2.1.1, 16, .inl (fun _ => 0))]) (st1 := []) (cells1 := 5) (slots1 := 528) rfl rfl rfl rfl ?_
  refine c_aload E dX2_init_46 0 rfl ?_
  refine c_push (v := 16) E dX2_init_47 (by decide) ?_
  refine c_newI E ar_int 16 (by decide) (by decide) (by decide) (by decide) (by decide) dX2_init_49 ?_
  refine c_nrm (es1 := [.inr (2, [.ref (b + 1), .ref (b + 2), .ref (b + 3), .ref (b + 4), .ref (b + 5), .null, .int 0, .int 0]), .inl (g.2.2.2.1.1, 240, .inl (fun _ => 0)), .inl (g.2.2.2.1.1, 240, .inl (fun _ => 0)), .inl (g.2.2.2.1.1, 16, .inl (fun _ => 0)), .inl (g.2.2.2.1.1, 16, .inl (fun _ => 0)), .inl (g.2.2.2.1.1, 16, .inl (fun _ => 0)), .inl (g.2.2.2.1.1, 16, .inl (fun _ => 0))]) (st1 := [.ref (b + 6), .ref b]) (cells1 := 6) (slots1 := 544) rfl rfl rfl rfl ?_
  refine c_putF E 0 wr_X2_27 rfl rfl rfl rfl (Nat.le_of_ble_eq_true rfl) dX2_init_51 ?_
  refine c_nrm (es1 := [.inr (2, [.ref (b + 1), .ref (b + 2), .ref (b + 3), .ref (b + 4), .ref (b + 5), .ref (b + 6), .int 0, .int 0]), .inl (g.2.2.2.1.1, 240, .inl (fun _ => 0)), .inl (g.2.2.2.1.1, 240, .inl (fun _ => 0)), .inl (g.2.2.2.1.1, 16, .inl (fun _ => 0)), .inl (g.2.2.2.1.1, 16, .inl (fun _ => 0)), .inl (g.2.2.2.1.1, 16, .inl (fun _ => 0)), .inl (g.2.2.2.1.1, 16, .inl (fun _ => 0))]) (st1 := []) (cells1 := 6) (slots1 := 544) rfl rfl rfl rfl ?_
  exact c_ret E (by decide) (by decide) dX2_init_54
theorem wr_X3_9 : WRF RX3 9 3 1 (.array .int) true := ⟨RX3, TX3, 5, tyX3, rfl, inX3, by decide, tb_in 347 (by decide +kernel) rfl, tyX3_ok, nmX3, rfl, by decide +kernel, rfl⟩
theorem wr_X3_15 : WRF RX3 15 3 2 (.array .int) true := ⟨RX3, TX3, 5, tyX3, rfl, inX3, by decide, tb_in 349 (by decide +kernel) rfl, tyX3_ok, nmX3, rfl, by decide +kernel, rfl⟩
theorem wr_X3_18 : WRF RX3 18 3 3 (.array .int) true := ⟨RX3, TX3, 5, tyX3, rfl, inX3, by decide, tb_in 351 (by decide +kernel) rfl, tyX3_ok, nmX3, rfl, by decide +kernel, rfl⟩
theorem wr_X3_21 : WRF RX3 21 3 0 (.object "SorrowPipes$Streets") true := ⟨RX3, TX3, 5, tyX3, rfl, inX3, by decide, tb_in 346 (by decide +kernel) rfl, tyX3_ok, nmX3, rfl, by decide +kernel, rfl⟩
def MX3_init : CM := (cX3_init, 2, RX3, 1, 12, 3, 48)
set_option maxRecDepth 20000 in
set_option maxHeartbeats 4000000 in
theorem co_X3 (g : GC) (b x0 : Nat) : CO g yX3_init MX3_init [.ref b, .ref x0] b [.inr (3, [.null, .null, .null, .null, .int 0])]
    [.inr (3, [.ref x0, .ref (b + 1), .ref (b + 2), .ref (b + 3), .int 0]), .inl (g.2.2.2.1.1, 16, .inl (fun _ => 0)), .inl (g.2.2.2.1.1, 16, .inl (fun _ => 0)), .inl (g.2.2.2.1.1, 16, .inl (fun _ => 0))] := by
  refine CO.of (by decide) rfl rfl (Nat.le_of_ble_eq_true rfl) (fun X E => ?_)
  show CJ g MX3_init X b _ 0 [(0, .ref b), (1, .ref x0)] [] [.inr (3, [.null, .null, .null, .null, .int 0])] 0 0
  refine c_aload E dX3_init_0 0 rfl ?_
  refine c_obj E (idx := 3) (tb_in 345 (by decide +kernel) rfl) oi_i oi_c dX3_init_1 (by decide) (by decide) ?_
  refine c_aload E dX3_init_4 0 rfl ?_
  refine c_push (v := 16) E dX3_init_5 (by decide) ?_
  refine c_newI E ar_int 16 (by decide) (by decide) (by decide) (by decide) (by decide) dX3_init_7 ?_
  refine c_nrm (es1 := [.inr (3, [.null, .null, .null, .null, .int 0]), .inl (g.2.2.2.1.1, 16, .inl (fun _ => 0))]) (st1 := [.ref (b + 1), .ref b]) (cells1 := 1) (slots1 := 16) rfl rfl rfl rfl ?_
  refine c_putF E 0 wr_X3_9 rfl rfl rfl rfl (Nat.le_of_ble_eq_true rfl) dX3_init_9 ?_
  refine c_nrm (es1 := [.inr (3, [.null, .ref (b + 1), .null, .null, .int 0]), .inl (g.2.2.2.1.1, 16, .inl (fun _ => 0))]) (st1 := []) (cells1 := 1) (slots1 := 16) rfl rfl rfl rfl ?_
  refine c_aload E dX3_init_12 0 rfl ?_
  refine c_push (v := 16) E dX3_init_13 (by decide) ?_
  refine c_newI E ar_int 16 (by decide) (by decide) (by decide) (by decide) (by decide) dX3_init_15 ?_
  refine c_nrm (es1 := [.inr (3, [.null, .ref (b + 1), .null, .null, .int 0]), .inl (g.2.2.2.1.1, 16, .inl (fun _ => 0)), .inl (g.2.2.2.1.1, 16, .inl (fun _ => 0))]) (st1 := [.ref (b + 2), .ref b]) (cells1 := 2) (slots1 := 32) rfl rfl rfl rfl ?_
  refine c_putF E 0 wr_X3_15 rfl rfl rfl rfl (Nat.le_of_ble_eq_true rfl) dX3_init_17 ?_
  refine c_nrm (es1 := [.inr (3, [.null, .ref (b + 1), .ref (b + 2), .null, .int 0]), .inl (g.2.2.2.1.1, 16, .inl (fun _ => 0)), .inl (g.2.2.2.1.1, 16, .inl (fun _ => 0))]) (st1 := []) (cells1 := 2) (slots1 := 32) rfl rfl rfl rfl ?_
  refine c_aload E dX3_init_20 0 rfl ?_
  refine c_push (v := 16) E dX3_init_21 (by decide) ?_
  refine c_newI E ar_int 16 (by decide) (by decide) (by decide) (by decide) (by decide) dX3_init_23 ?_
  refine c_nrm (es1 := [.inr (3, [.null, .ref (b + 1), .ref (b + 2), .null, .int 0]), .inl (g.2.2.2.1.1, 16, .inl (fun _ => 0)), .inl (g.2.2.2.1.1, 16, .inl (fun _ => 0)), .inl (g.2.2.2.1.1, 16, .inl (fun _ => 0))]) (st1 := [.ref (b + 3), .ref b]) (cells1 := 3) (slots1 := 48) rfl rfl rfl rfl ?_
  refine c_putF E 0 wr_X3_18 rfl rfl rfl rfl (Nat.le_of_ble_eq_true rfl) dX3_init_25 ?_
  refine c_nrm (es1 := [.inr (3, [.null, .ref (b + 1), .ref (b + 2), .ref (b + 3), .int 0]), .inl (g.2.2.2.1.1, 16, .inl (fun _ => 0)), .inl (g.2.2.2.1.1, 16, .inl (fun _ => 0)), .inl (g.2.2.2.1.1, 16, .inl (fun _ => 0))]) (st1 := []) (cells1 := 3) (slots1 := 48) rfl rfl rfl rfl ?_
  refine c_aload E dX3_init_28 0 rfl ?_
  refine c_aload E dX3_init_29 1 rfl ?_
  refine c_putF E 0 wr_X3_21 rfl rfl rfl rfl (Nat.le_of_ble_eq_true rfl) dX3_init_30 ?_
  refine c_nrm (es1 := [.inr (3, [.ref x0, .ref (b + 1), .ref (b + 2), .ref (b + 3), .int 0]), .inl (g.2.2.2.1.1, 16, .inl (fun _ => 0)), .inl (g.2.2.2.1.1, 16, .inl (fun _ => 0)), .inl (g.2.2.2.1.1, 16, .inl (fun _ => 0))]) (st1 := []) (cells1 := 3) (slots1 := 48) rfl rfl rfl rfl ?_
  exact c_ret E (by decide) (by decide) dX3_init_33
theorem wr_X4_9 : WRF RX4 9 4 0 (.array .int) true := ⟨RX4, TX4, 4, tyX4, rfl, inX4, by decide, tb_in 247 (by decide +kernel) rfl, tyX4_ok, nmX4, rfl, by decide +kernel, rfl⟩
theorem wr_X4_15 : WRF RX4 15 4 1 (.array .int) true := ⟨RX4, TX4, 4, tyX4, rfl, inX4, by decide, tb_in 248 (by decide +kernel) rfl, tyX4_ok, nmX4, rfl, by decide +kernel, rfl⟩
theorem wr_X4_18 : WRF RX4 18 4 2 (.array .int) true := ⟨RX4, TX4, 4, tyX4, rfl, inX4, by decide, tb_in 249 (by decide +kernel) rfl, tyX4_ok, nmX4, rfl, by decide +kernel, rfl⟩
def MX4_init : CM := (cX4_init, 1, RX4, 1, 12, 3, 60)
set_option maxRecDepth 20000 in
set_option maxHeartbeats 4000000 in
theorem co_X4 (g : GC) (b : Nat) : CO g yX4_init MX4_init [.ref b] b [.inr (4, [.null, .null, .null, .int 0])]
    [.inr (4, [.ref (b + 1), .ref (b + 2), .ref (b + 3), .int 0]), .inl (g.2.2.2.1.1, 20, .inl (fun _ => 0)), .inl (g.2.2.2.1.1, 20, .inl (fun _ => 0)), .inl (g.2.2.2.1.1, 20, .inl (fun _ => 0))] := by
  refine CO.of (by decide) rfl rfl (Nat.le_of_ble_eq_true rfl) (fun X E => ?_)
  show CJ g MX4_init X b _ 0 [(0, .ref b)] [] [.inr (4, [.null, .null, .null, .int 0])] 0 0
  refine c_aload E dX4_init_0 0 rfl ?_
  refine c_obj E (idx := 3) (tb_in 246 (by decide +kernel) rfl) oi_i oi_c dX4_init_1 (by decide) (by decide) ?_
  refine c_aload E dX4_init_4 0 rfl ?_
  refine c_push (v := 20) E dX4_init_5 (by decide) ?_
  refine c_newI E ar_int 20 (by decide) (by decide) (by decide) (by decide) (by decide) dX4_init_7 ?_
  refine c_nrm (es1 := [.inr (4, [.null, .null, .null, .int 0]), .inl (g.2.2.2.1.1, 20, .inl (fun _ => 0))]) (st1 := [.ref (b + 1), .ref b]) (cells1 := 1) (slots1 := 20) rfl rfl rfl rfl ?_
  refine c_putF E 0 wr_X4_9 rfl rfl rfl rfl (Nat.le_of_ble_eq_true rfl) dX4_init_9 ?_
  refine c_nrm (es1 := [.inr (4, [.ref (b + 1), .null, .null, .int 0]), .inl (g.2.2.2.1.1, 20, .inl (fun _ => 0))]) (st1 := []) (cells1 := 1) (slots1 := 20) rfl rfl rfl rfl ?_
  refine c_aload E dX4_init_12 0 rfl ?_
  refine c_push (v := 20) E dX4_init_13 (by decide) ?_
  refine c_newI E ar_int 20 (by decide) (by decide) (by decide) (by decide) (by decide) dX4_init_15 ?_
  refine c_nrm (es1 := [.inr (4, [.ref (b + 1), .null, .null, .int 0]), .inl (g.2.2.2.1.1, 20, .inl (fun _ => 0)), .inl (g.2.2.2.1.1, 20, .inl (fun _ => 0))]) (st1 := [.ref (b + 2), .ref b]) (cells1 := 2) (slots1 := 40) rfl rfl rfl rfl ?_
  refine c_putF E 0 wr_X4_15 rfl rfl rfl rfl (Nat.le_of_ble_eq_true rfl) dX4_init_17 ?_
  refine c_nrm (es1 := [.inr (4, [.ref (b + 1), .ref (b + 2), .null, .int 0]), .inl (g.2.2.2.1.1, 20, .inl (fun _ => 0)), .inl (g.2.2.2.1.1, 20, .inl (fun _ => 0))]) (st1 := []) (cells1 := 2) (slots1 := 40) rfl rfl rfl rfl ?_
  refine c_aload E dX4_init_20 0 rfl ?_
  refine c_push (v := 20) E dX4_init_21 (by decide) ?_
  refine c_newI E ar_int 20 (by decide) (by decide) (by decide) (by decide) (by decide) dX4_init_23 ?_
  refine c_nrm (es1 := [.inr (4, [.ref (b + 1), .ref (b + 2), .null, .int 0]), .inl (g.2.2.2.1.1, 20, .inl (fun _ => 0)), .inl (g.2.2.2.1.1, 20, .inl (fun _ => 0)), .inl (g.2.2.2.1.1, 20, .inl (fun _ => 0))]) (st1 := [.ref (b + 3), .ref b]) (cells1 := 3) (slots1 := 60) rfl rfl rfl rfl ?_
  refine c_putF E 0 wr_X4_18 rfl rfl rfl rfl (Nat.le_of_ble_eq_true rfl) dX4_init_25 ?_
  refine c_nrm (es1 := [.inr (4, [.ref (b + 1), .ref (b + 2), .ref (b + 3), .int 0]), .inl (g.2.2.2.1.1, 20, .inl (fun _ => 0)), .inl (g.2.2.2.1.1, 20, .inl (fun _ => 0)), .inl (g.2.2.2.1.1, 20, .inl (fun _ => 0))]) (st1 := []) (cells1 := 3) (slots1 := 60) rfl rfl rfl rfl ?_
  exact c_ret E (by decide) (by decide) dX4_init_28
theorem wr_X5_9 : WRF RX5 9 5 0 (.array .int) true := ⟨RX5, TX5, 9, tyX5, rfl, inX5, by decide, tb_in 267 (by decide +kernel) rfl, tyX5_ok, nmX5, rfl, by decide +kernel, rfl⟩
theorem wr_X5_15 : WRF RX5 15 5 1 (.array .int) true := ⟨RX5, TX5, 9, tyX5, rfl, inX5, by decide, tb_in 271 (by decide +kernel) rfl, tyX5_ok, nmX5, rfl, by decide +kernel, rfl⟩
theorem wr_X5_18 : WRF RX5 18 5 2 (.array .int) true := ⟨RX5, TX5, 9, tyX5, rfl, inX5, by decide, tb_in 275 (by decide +kernel) rfl, tyX5_ok, nmX5, rfl, by decide +kernel, rfl⟩
theorem wr_X5_21 : WRF RX5 21 5 4 (.int) false := ⟨RX5, TX5, 9, tyX5, rfl, inX5, by decide, tb_in 282 (by decide +kernel) rfl, tyX5_ok, nmX5, rfl, by decide +kernel, rfl⟩
theorem wr_X5_25 : WRF RX5 25 5 6 (.int) false := ⟨RX5, TX5, 9, tyX5, rfl, inX5, by decide, tb_in 289 (by decide +kernel) rfl, tyX5_ok, nmX5, rfl, by decide +kernel, rfl⟩
def MX5_init : CM := (cX5_init, 1, RX5, 1, 12, 3, 48)
set_option maxRecDepth 20000 in
set_option maxHeartbeats 4000000 in
theorem co_X5 (g : GC) (b : Nat) : CO g yX5_init MX5_init [.ref b] b [.inr (5, [.null, .null, .null, .int 0, .int 0, .int 0, .int 0, .int 0, .int 0])]
    [.inr (5, [.ref (b + 1), .ref (b + 2), .ref (b + 3), .int 0, .int 9999, .int 0, .int 1, .int 0, .int 0]), .inl (g.2.2.2.1.1, 16, .inl (fun _ => 0)), .inl (g.2.2.2.1.1, 16, .inl (fun _ => 0)), .inl (g.2.2.2.1.1, 16, .inl (fun _ => 0))] := by
  refine CO.of (by decide) rfl rfl (Nat.le_of_ble_eq_true rfl) (fun X E => ?_)
  show CJ g MX5_init X b _ 0 [(0, .ref b)] [] [.inr (5, [.null, .null, .null, .int 0, .int 0, .int 0, .int 0, .int 0, .int 0])] 0 0
  refine c_aload E dX5_init_0 0 rfl ?_
  refine c_obj E (idx := 3) (tb_in 266 (by decide +kernel) rfl) oi_i oi_c dX5_init_1 (by decide) (by decide) ?_
  refine c_aload E dX5_init_4 0 rfl ?_
  refine c_push (v := 16) E dX5_init_5 (by decide) ?_
  refine c_newI E ar_int 16 (by decide) (by decide) (by decide) (by decide) (by decide) dX5_init_7 ?_
  refine c_nrm (es1 := [.inr (5, [.null, .null, .null, .int 0, .int 0, .int 0, .int 0, .int 0, .int 0]), .inl (g.2.2.2.1.1, 16, .inl (fun _ => 0))]) (st1 := [.ref (b + 1), .ref b]) (cells1 := 1) (slots1 := 16) rfl rfl rfl rfl ?_
  refine c_putF E 0 wr_X5_9 rfl rfl rfl rfl (Nat.le_of_ble_eq_true rfl) dX5_init_9 ?_
  refine c_nrm (es1 := [.inr (5, [.ref (b + 1), .null, .null, .int 0, .int 0, .int 0, .int 0, .int 0, .int 0]), .inl (g.2.2.2.1.1, 16, .inl (fun _ => 0))]) (st1 := []) (cells1 := 1) (slots1 := 16) rfl rfl rfl rfl ?_
  refine c_aload E dX5_init_12 0 rfl ?_
  refine c_push (v := 16) E dX5_init_13 (by decide) ?_
  refine c_newI E ar_int 16 (by decide) (by decide) (by decide) (by decide) (by decide) dX5_init_15 ?_
  refine c_nrm (es1 := [.inr (5, [.ref (b + 1), .null, .null, .int 0, .int 0, .int 0, .int 0, .int 0, .int 0]), .inl (g.2.2.2.1.1, 16, .inl (fun _ => 0)), .inl (g.2.2.2.1.1, 16, .inl (fun _ => 0))]) (st1 := [.ref (b + 2), .ref b]) (cells1 := 2) (slots1 := 32) rfl rfl rfl rfl ?_
  refine c_putF E 0 wr_X5_15 rfl rfl rfl rfl (Nat.le_of_ble_eq_true rfl) dX5_init_17 ?_
  refine c_nrm (es1 := [.inr (5, [.ref (b + 1), .ref (b + 2), .null, .int 0, .int 0, .int 0, .int 0, .int 0, .int 0]), .inl (g.2.2.2.1.1, 16, .inl (fun _ => 0)), .inl (g.2.2.2.1.1, 16, .inl (fun _ => 0))]) (st1 := []) (cells1 := 2) (slots1 := 32) rfl rfl rfl rfl ?_
  refine c_aload E dX5_init_20 0 rfl ?_
  refine c_push (v := 16) E dX5_init_21 (by decide) ?_
  refine c_newI E ar_int 16 (by decide) (by decide) (by decide) (by decide) (by decide) dX5_init_23 ?_
  refine c_nrm (es1 := [.inr (5, [.ref (b + 1), .ref (b + 2), .null, .int 0, .int 0, .int 0, .int 0, .int 0, .int 0]), .inl (g.2.2.2.1.1, 16, .inl (fun _ => 0)), .inl (g.2.2.2.1.1, 16, .inl (fun _ => 0)), .inl (g.2.2.2.1.1, 16, .inl (fun _ => 0))]) (st1 := [.ref (b + 3), .ref b]) (cells1 := 3) (slots1 := 48) rfl rfl rfl rfl ?_
  refine c_putF E 0 wr_X5_18 rfl rfl rfl rfl (Nat.le_of_ble_eq_true rfl) dX5_init_25 ?_
  refine c_nrm (es1 := [.inr (5, [.ref (b + 1), .ref (b + 2), .ref (b + 3), .int 0, .int 0, .int 0, .int 0, .int 0, .int 0]), .inl (g.2.2.2.1.1, 16, .inl (fun _ => 0)), .inl (g.2.2.2.1.1, 16, .inl (fun _ => 0)), .inl (g.2.2.2.1.1, 16, .inl (fun _ => 0))]) (st1 := []) (cells1 := 3) (slots1 := 48) rfl rfl rfl rfl ?_
  refine c_aload E dX5_init_28 0 rfl ?_
  refine c_spush (v := 9999) E dX5_init_29 (by decide) ?_
  refine c_put E 0 wr_X5_21 rfl rfl rfl rfl (Nat.le_of_ble_eq_true rfl) dX5_init_32 ?_
  refine c_nrm (es1 := [.inr (5, [.ref (b + 1), .ref (b + 2), .ref (b + 3), .int 0, .int 9999, .int 0, .int 0, .int 0, .int 0]), .inl (g.2.2.2.1.1, 16, .inl (fun _ => 0)), .inl (g.2.2.2.1.1, 16, .inl (fun _ => 0)), .inl (g.2.2.2.1.1, 16, .inl (fun _ => 0))]) (st1 := []) (cells1 := 3) (slots1 := 48) rfl rfl rfl rfl ?_
  refine c_aload E dX5_init_35 0 rfl ?_
  refine c_const (v := 1) E dX5_init_36 (by decide) ?_
  refine c_put E 0 wr_X5_25 rfl rfl rfl rfl (Nat.le_of_ble_eq_true rfl) dX5_init_37 ?_
  refine c_nrm (es1 := [.inr (5, [.ref (b + 1), .ref (b + 2), .ref (b + 3), .int 0, .int 9999, .int 0, .int 1, .int 0, .int 0]), .inl (g.2.2.2.1.1, 16, .inl (fun _ => 0)), .inl (g.2.2.2.1.1, 16, .inl (fun _ => 0)), .inl (g.2.2.2.1.1, 16, .inl (fun _ => 0))]) (st1 := []) (cells1 := 3) (slots1 := 48) rfl rfl rfl rfl ?_
  exact c_ret E (by decide) (by decide) dX5_init_40
theorem wr_X6_9 : WRF RX6 9 6 0 (.array .int) true := ⟨RX6, TX6, 6, tyX6, rfl, inX6, by decide, tb_in 162 (by decide +kernel) rfl, tyX6_ok, nmX6, rfl, by decide +kernel, rfl⟩
theorem wr_X6_15 : WRF RX6 15 6 1 (.array .int) true := ⟨RX6, TX6, 6, tyX6, rfl, inX6, by decide, tb_in 165 (by decide +kernel) rfl, tyX6_ok, nmX6, rfl, by decide +kernel, rfl⟩
theorem wr_X6_18 : WRF RX6 18 6 2 (.array .int) true := ⟨RX6, TX6, 6, tyX6, rfl, inX6, by decide, tb_in 170 (by decide +kernel) rfl, tyX6_ok, nmX6, rfl, by decide +kernel, rfl⟩
theorem wr_X6_21 : WRF RX6 21 6 3 (.array .int) true := ⟨RX6, TX6, 6, tyX6, rfl, inX6, by decide, tb_in 175 (by decide +kernel) rfl, tyX6_ok, nmX6, rfl, by decide +kernel, rfl⟩
def MX6_init : CM := (cX6_init, 1, RX6, 1, 12, 4, 88)
set_option maxRecDepth 20000 in
set_option maxHeartbeats 4000000 in
theorem co_X6 (g : GC) (b : Nat) : CO g yX6_init MX6_init [.ref b] b [.inr (6, [.null, .null, .null, .null, .int 0, .int 0])]
    [.inr (6, [.ref (b + 1), .ref (b + 2), .ref (b + 3), .ref (b + 4), .int 0, .int 0]), .inl (g.2.2.2.1.1, 16, .inl (fun _ => 0)), .inl (g.2.2.2.1.1, 24, .inl (fun _ => 0)), .inl (g.2.2.2.1.1, 24, .inl (fun _ => 0)), .inl (g.2.2.2.1.1, 24, .inl (fun _ => 0))] := by
  refine CO.of (by decide) rfl rfl (Nat.le_of_ble_eq_true rfl) (fun X E => ?_)
  show CJ g MX6_init X b _ 0 [(0, .ref b)] [] [.inr (6, [.null, .null, .null, .null, .int 0, .int 0])] 0 0
  refine c_aload E dX6_init_0 0 rfl ?_
  refine c_obj E (idx := 3) (tb_in 161 (by decide +kernel) rfl) oi_i oi_c dX6_init_1 (by decide) (by decide) ?_
  refine c_aload E dX6_init_4 0 rfl ?_
  refine c_push (v := 16) E dX6_init_5 (by decide) ?_
  refine c_newI E ar_int 16 (by decide) (by decide) (by decide) (by decide) (by decide) dX6_init_7 ?_
  refine c_nrm (es1 := [.inr (6, [.null, .null, .null, .null, .int 0, .int 0]), .inl (g.2.2.2.1.1, 16, .inl (fun _ => 0))]) (st1 := [.ref (b + 1), .ref b]) (cells1 := 1) (slots1 := 16) rfl rfl rfl rfl ?_
  refine c_putF E 0 wr_X6_9 rfl rfl rfl rfl (Nat.le_of_ble_eq_true rfl) dX6_init_9 ?_
  refine c_nrm (es1 := [.inr (6, [.ref (b + 1), .null, .null, .null, .int 0, .int 0]), .inl (g.2.2.2.1.1, 16, .inl (fun _ => 0))]) (st1 := []) (cells1 := 1) (slots1 := 16) rfl rfl rfl rfl ?_
  refine c_aload E dX6_init_12 0 rfl ?_
  refine c_push (v := 24) E dX6_init_13 (by decide) ?_
  refine c_newI E ar_int 24 (by decide) (by decide) (by decide) (by decide) (by decide) dX6_init_15 ?_
  refine c_nrm (es1 := [.inr (6, [.ref (b + 1), .null, .null, .null, .int 0, .int 0]), .inl (g.2.2.2.1.1, 16, .inl (fun _ => 0)), .inl (g.2.2.2.1.1, 24, .inl (fun _ => 0))]) (st1 := [.ref (b + 2), .ref b]) (cells1 := 2) (slots1 := 40) rfl rfl rfl rfl ?_
  refine c_putF E 0 wr_X6_15 rfl rfl rfl rfl (Nat.le_of_ble_eq_true rfl) dX6_init_17 ?_
  refine c_nrm (es1 := [.inr (6, [.ref (b + 1), .ref (b + 2), .null, .null, .int 0, .int 0]), .inl (g.2.2.2.1.1, 16, .inl (fun _ => 0)), .inl (g.2.2.2.1.1, 24, .inl (fun _ => 0))]) (st1 := []) (cells1 := 2) (slots1 := 40) rfl rfl rfl rfl ?_
  refine c_aload E dX6_init_20 0 rfl ?_
  refine c_push (v := 24) E dX6_init_21 (by decide) ?_
  refine c_newI E ar_int 24 (by decide) (by decide) (by decide) (by decide) (by decide) dX6_init_23 ?_
  refine c_nrm (es1 := [.inr (6, [.ref (b + 1), .ref (b + 2), .null, .null, .int 0, .int 0]), .inl (g.2.2.2.1.1, 16, .inl (fun _ => 0)), .inl (g.2.2.2.1.1, 24, .inl (fun _ => 0)), .inl (g.2.2.2.1.1, 24, .inl (fun _ => 0))]) (st1 := [.ref (b + 3), .ref b]) (cells1 := 3) (slots1 := 64) rfl rfl rfl rfl ?_
  refine c_putF E 0 wr_X6_18 rfl rfl rfl rfl (Nat.le_of_ble_eq_true rfl) dX6_init_25 ?_
  refine c_nrm (es1 := [.inr (6, [.ref (b + 1), .ref (b + 2), .ref (b + 3), .null, .int 0, .int 0]), .inl (g.2.2.2.1.1, 16, .inl (fun _ => 0)), .inl (g.2.2.2.1.1, 24, .inl (fun _ => 0)), .inl (g.2.2.2.1.1, 24, .inl (fun _ => 0))]) (st1 := []) (cells1 := 3) (slots1 := 64) rfl rfl rfl rfl ?_
  refine c_aload E dX6_init_28 0 rfl ?_
  refine c_push (v := 24) E dX6_init_29 (by decide) ?_
  refine c_newI E ar_int 24 (by decide) (by decide) (by decide) (by decide) (by decide) dX6_init_31 ?_
  refine c_nrm (es1 := [.inr (6, [.ref (b + 1), .ref (b + 2), .ref (b + 3), .null, .int 0, .int 0]), .inl (g.2.2.2.1.1, 16, .inl (fun _ => 0)), .inl (g.2.2.2.1.1, 24, .inl (fun _ => 0)), .inl (g.2.2.2.1.1, 24, .inl (fun _ => 0)), .inl (g.2.2.2.1.1, 24, .inl (fun _ => 0))]) (st1 := [.ref (b + 4), .ref b]) (cells1 := 4) (slots1 := 88) rfl rfl rfl rfl ?_
  refine c_putF E 0 wr_X6_21 rfl rfl rfl rfl (Nat.le_of_ble_eq_true rfl) dX6_init_33 ?_
  refine c_nrm (es1 := [.inr (6, [.ref (b + 1), .ref (b + 2), .ref (b + 3), .ref (b + 4), .int 0, .int 0]), .inl (g.2.2.2.1.1, 16, .inl (fun _ => 0)), .inl (g.2.2.2.1.1, 24, .inl (fun _ => 0)), .inl (g.2.2.2.1.1, 24, .inl (fun _ => 0)), .inl (g.2.2.2.1.1, 24, .inl (fun _ => 0))]) (st1 := []) (cells1 := 4) (slots1 := 88) rfl rfl rfl rfl ?_
  exact c_ret E (by decide) (by decide) dX6_init_36
theorem wr_X7_9 : WRF RX7 9 7 0 (.array .int) true := ⟨RX7, TX7, 5, tyX7, rfl, inX7, by decide, tb_in 134 (by decide +kernel) rfl, tyX7_ok, nmX7, rfl, by decide +kernel, rfl⟩
def MX7_init : CM := (cX7_init, 1, RX7, 1, 12, 1, 260)
set_option maxRecDepth 20000 in
set_option maxHeartbeats 4000000 in
theorem co_X7 (g : GC) (b : Nat) : CO g yX7_init MX7_init [.ref b] b [.inr (7, [.null, .int 0, .int 0, .int 0, .int 0])]
    [.inr (7, [.ref (b + 1), .int 0, .int 0, .int 0, .int 0]), .inl (g.2.2.2.1.1, 260, .inl (fun _ => 0))] := by
  refine CO.of (by decide) rfl rfl (Nat.le_of_ble_eq_true rfl) (fun X E => ?_)
  show CJ g MX7_init X b _ 0 [(0, .ref b)] [] [.inr (7, [.null, .int 0, .int 0, .int 0, .int 0])] 0 0
  refine c_aload E dX7_init_0 0 rfl ?_
  refine c_obj E (idx := 3) (tb_in 133 (by decide +kernel) rfl) oi_i oi_c dX7_init_1 (by decide) (by decide) ?_
  refine c_aload E dX7_init_4 0 rfl ?_
  refine c_spush (v := 260) E dX7_init_5 (by decide) ?_
  refine c_newI E ar_int 260 (by decide) (by decide) (by decide) (by decide) (by decide) dX7_init_8 ?_
  refine c_nrm (es1 := [.inr (7, [.null, .int 0, .int 0, .int 0, .int 0]), .inl (g.2.2.2.1.1, 260, .inl (fun _ => 0))]) (st1 := [.ref (b + 1), .ref b]) (cells1 := 1) (slots1 := 260) rfl rfl rfl rfl ?_
  refine c_putF E 0 wr_X7_9 rfl rfl rfl rfl (Nat.le_of_ble_eq_true rfl) dX7_init_10 ?_
  refine c_nrm (es1 := [.inr (7, [.ref (b + 1), .int 0, .int 0, .int 0, .int 0]), .inl (g.2.2.2.1.1, 260, .inl (fun _ => 0))]) (st1 := []) (cells1 := 1) (slots1 := 260) rfl rfl rfl rfl ?_
  exact c_ret E (by decide) (by decide) dX7_init_13
theorem wr_X8_9 : WRF RX8 9 8 2 (.array .int) true := ⟨RX8, TX8, 7, tyX8, rfl, inX8, by decide, tb_in 320 (by decide +kernel) rfl, tyX8_ok, nmX8, rfl, by decide +kernel, rfl⟩
theorem wr_X8_15 : WRF RX8 15 8 0 (.object "SorrowPipes$Streets") true := ⟨RX8, TX8, 7, tyX8, rfl, inX8, by decide, tb_in 318 (by decide +kernel) rfl, tyX8_ok, nmX8, rfl, by decide +kernel, rfl⟩
theorem wr_X8_19 : WRF RX8 19 8 1 (.object "SorrowPipes$Law") true := ⟨RX8, TX8, 7, tyX8, rfl, inX8, by decide, tb_in 319 (by decide +kernel) rfl, tyX8_ok, nmX8, rfl, by decide +kernel, rfl⟩
theorem wr_X8_23 : WRF RX8 23 8 3 (.object "SorrowPipes$State") false := ⟨RX8, TX8, 7, tyX8, rfl, inX8, by decide, tb_in 321 (by decide +kernel) rfl, tyX8_ok, nmX8, rfl, by decide +kernel, rfl⟩
def MX8_init : CM := (cX8_init, 4, RX8, 1, 12, 1, 240)
set_option maxRecDepth 20000 in
set_option maxHeartbeats 4000000 in
theorem co_X8 (g : GC) (b x0 x1 x2 : Nat) : CO g yX8_init MX8_init [.ref b, .ref x0, .ref x1, .ref x2] b [.inr (8, [.null, .null, .null, .null, .int 0, .int 0, .int 0])]
    [.inr (8, [.ref x0, .ref x1, .ref (b + 1), .ref x2, .int 0, .int 0, .int 0]), .inl (g.2.2.2.1.1, 240, .inl (fun _ => 0))] := by
  refine CO.of (by decide) rfl rfl (Nat.le_of_ble_eq_true rfl) (fun X E => ?_)
  show CJ g MX8_init X b _ 0 [(0, .ref b), (1, .ref x0), (2, .ref x1), (3, .ref x2)] [] [.inr (8, [.null, .null, .null, .null, .int 0, .int 0, .int 0])] 0 0
  refine c_aload E dX8_init_0 0 rfl ?_
  refine c_obj E (idx := 3) (tb_in 317 (by decide +kernel) rfl) oi_i oi_c dX8_init_1 (by decide) (by decide) ?_
  refine c_aload E dX8_init_4 0 rfl ?_
  refine c_spush (v := 240) E dX8_init_5 (by decide) ?_
  refine c_newI E ar_int 240 (by decide) (by decide) (by decide) (by decide) (by decide) dX8_init_8 ?_
  refine c_nrm (es1 := [.inr (8, [.null, .null, .null, .null, .int 0, .int 0, .int 0]), .inl (g.2.2.2.1.1, 240, .inl (fun _ => 0))]) (st1 := [.ref (b + 1), .ref b]) (cells1 := 1) (slots1 := 240) rfl rfl rfl rfl ?_
  refine c_putF E 0 wr_X8_9 rfl rfl rfl rfl (Nat.le_of_ble_eq_true rfl) dX8_init_10 ?_
  refine c_nrm (es1 := [.inr (8, [.null, .null, .ref (b + 1), .null, .int 0, .int 0, .int 0]), .inl (g.2.2.2.1.1, 240, .inl (fun _ => 0))]) (st1 := []) (cells1 := 1) (slots1 := 240) rfl rfl rfl rfl ?_
  refine c_aload E dX8_init_13 0 rfl ?_
  refine c_aload E dX8_init_14 1 rfl ?_
  refine c_putF E 0 wr_X8_15 rfl rfl rfl rfl (Nat.le_of_ble_eq_true rfl) dX8_init_15 ?_
  refine c_nrm (es1 := [.inr (8, [.ref x0, .null, .ref (b + 1), .null, .int 0, .int 0, .int 0]), .inl (g.2.2.2.1.1, 240, .inl (fun _ => 0))]) (st1 := []) (cells1 := 1) (slots1 := 240) rfl rfl rfl rfl ?_
  refine c_aload E dX8_init_18 0 rfl ?_
  refine c_aload E dX8_init_19 2 rfl ?_
  refine c_putF E 0 wr_X8_19 rfl rfl rfl rfl (Nat.le_of_ble_eq_true rfl) dX8_init_20 ?_
  refine c_nrm (es1 := [.inr (8, [.ref x0, .ref x1, .ref (b + 1), .null, .int 0, .int 0, .int 0]), .inl (g.2.2.2.1.1, 240, .inl (fun _ => 0))]) (st1 := []) (cells1 := 1) (slots1 := 240) rfl rfl rfl rfl ?_
  refine c_aload E dX8_init_23 0 rfl ?_
  refine c_aload E dX8_init_24 3 rfl ?_
  refine c_put E 0 wr_X8_23 rfl rfl rfl rfl (Nat.le_of_ble_eq_true rfl) dX8_init_25 ?_
  refine c_nrm (es1 := [.inr (8, [.ref x0, .ref x1, .ref (b + 1), .ref x2, .int 0, .int 0, .int 0]), .inl (g.2.2.2.1.1, 240, .inl (fun _ => 0))]) (st1 := []) (cells1 := 1) (slots1 := 240) rfl rfl rfl rfl ?_
  exact c_ret E (by decide) (by decide) dX8_init_28
theorem wr_X9_9 : WRF RX9 9 9 2 (.array .int) true := ⟨RX9, TX9, 8, tyX9, rfl, inX9, by decide, tb_in 392 (by decide +kernel) rfl, tyX9_ok, nmX9, rfl, by decide +kernel, rfl⟩
theorem wr_X9_15 : WRF RX9 15 9 3 (.array .int) true := ⟨RX9, TX9, 8, tyX9, rfl, inX9, by decide, tb_in 393 (by decide +kernel) rfl, tyX9_ok, nmX9, rfl, by decide +kernel, rfl⟩
theorem wr_X9_18 : WRF RX9 18 9 4 (.array .long) true := ⟨RX9, TX9, 8, tyX9, rfl, inX9, by decide, tb_in 394 (by decide +kernel) rfl, tyX9_ok, nmX9, rfl, by decide +kernel, rfl⟩
theorem wr_X9_22 : WRF RX9 22 9 0 (.object "SorrowPipes$Streets") true := ⟨RX9, TX9, 8, tyX9, rfl, inX9, by decide, tb_in 390 (by decide +kernel) rfl, tyX9_ok, nmX9, rfl, by decide +kernel, rfl⟩
theorem wr_X9_26 : WRF RX9 26 9 1 (.object "SorrowPipes$Net") true := ⟨RX9, TX9, 8, tyX9, rfl, inX9, by decide, tb_in 391 (by decide +kernel) rfl, tyX9_ok, nmX9, rfl, by decide +kernel, rfl⟩
def MX9_init : CM := (cX9_init, 3, RX9, 1, 12, 3, 2320)
set_option maxRecDepth 20000 in
set_option maxHeartbeats 4000000 in
theorem co_X9 (g : GC) (b x0 x1 : Nat) : CO g yX9_init MX9_init [.ref b, .ref x0, .ref x1] b [.inr (9, [.null, .null, .null, .null, .null, .int 0, .int 0, .int 0])]
    [.inr (9, [.ref x0, .ref x1, .ref (b + 1), .ref (b + 2), .ref (b + 3), .int 0, .int 0, .int 0]), .inl (g.2.2.2.1.1, 16, .inl (fun _ => 0)), .inl (g.2.2.2.1.1, 256, .inl (fun _ => 0)), .inl (g.2.2.2.1.2.2, 2048, .inr (.inl (fun _ => 0)))] := by
  refine CO.of (by decide) rfl rfl (Nat.le_of_ble_eq_true rfl) (fun X E => ?_)
  show CJ g MX9_init X b _ 0 [(0, .ref b), (1, .ref x0), (2, .ref x1)] [] [.inr (9, [.null, .null, .null, .null, .null, .int 0, .int 0, .int 0])] 0 0
  refine c_aload E dX9_init_0 0 rfl ?_
  refine c_obj E (idx := 3) (tb_in 389 (by decide +kernel) rfl) oi_i oi_c dX9_init_1 (by decide) (by decide) ?_
  refine c_aload E dX9_init_4 0 rfl ?_
  refine c_push (v := 16) E dX9_init_5 (by decide) ?_
  refine c_newI E ar_int 16 (by decide) (by decide) (by decide) (by decide) (by decide) dX9_init_7 ?_
  refine c_nrm (es1 := [.inr (9, [.null, .null, .null, .null, .null, .int 0, .int 0, .int 0]), .inl (g.2.2.2.1.1, 16, .inl (fun _ => 0))]) (st1 := [.ref (b + 1), .ref b]) (cells1 := 1) (slots1 := 16) rfl rfl rfl rfl ?_
  refine c_putF E 0 wr_X9_9 rfl rfl rfl rfl (Nat.le_of_ble_eq_true rfl) dX9_init_9 ?_
  refine c_nrm (es1 := [.inr (9, [.null, .null, .ref (b + 1), .null, .null, .int 0, .int 0, .int 0]), .inl (g.2.2.2.1.1, 16, .inl (fun _ => 0))]) (st1 := []) (cells1 := 1) (slots1 := 16) rfl rfl rfl rfl ?_
  refine c_aload E dX9_init_12 0 rfl ?_
  refine c_spush (v := 256) E dX9_init_13 (by decide) ?_
  refine c_newI E ar_int 256 (by decide) (by decide) (by decide) (by decide) (by decide) dX9_init_16 ?_
  refine c_nrm (es1 := [.inr (9, [.null, .null, .ref (b + 1), .null, .null, .int 0, .int 0, .int 0]), .inl (g.2.2.2.1.1, 16, .inl (fun _ => 0)), .inl (g.2.2.2.1.1, 256, .inl (fun _ => 0))]) (st1 := [.ref (b + 2), .ref b]) (cells1 := 2) (slots1 := 272) rfl rfl rfl rfl ?_
  refine c_putF E 0 wr_X9_15 rfl rfl rfl rfl (Nat.le_of_ble_eq_true rfl) dX9_init_18 ?_
  refine c_nrm (es1 := [.inr (9, [.null, .null, .ref (b + 1), .ref (b + 2), .null, .int 0, .int 0, .int 0]), .inl (g.2.2.2.1.1, 16, .inl (fun _ => 0)), .inl (g.2.2.2.1.1, 256, .inl (fun _ => 0))]) (st1 := []) (cells1 := 2) (slots1 := 272) rfl rfl rfl rfl ?_
  refine c_aload E dX9_init_21 0 rfl ?_
  refine c_spush (v := 2048) E dX9_init_22 (by decide) ?_
  refine c_newL E ar_long 2048 (by decide) (by decide) (by decide) (by decide) (by decide) dX9_init_25 ?_
  refine c_nrm (es1 := [.inr (9, [.null, .null, .ref (b + 1), .ref (b + 2), .null, .int 0, .int 0, .int 0]), .inl (g.2.2.2.1.1, 16, .inl (fun _ => 0)), .inl (g.2.2.2.1.1, 256, .inl (fun _ => 0)), .inl (g.2.2.2.1.2.2, 2048, .inr (.inl (fun _ => 0)))]) (st1 := [.ref (b + 3), .ref b]) (cells1 := 3) (slots1 := 2320) rfl rfl rfl rfl ?_
  refine c_putF E 0 wr_X9_18 rfl rfl rfl rfl (Nat.le_of_ble_eq_true rfl) dX9_init_27 ?_
  refine c_nrm (es1 := [.inr (9, [.null, .null, .ref (b + 1), .ref (b + 2), .ref (b + 3), .int 0, .int 0, .int 0]), .inl (g.2.2.2.1.1, 16, .inl (fun _ => 0)), .inl (g.2.2.2.1.1, 256, .inl (fun _ => 0)), .inl (g.2.2.2.1.2.2, 2048, .inr (.inl (fun _ => 0)))]) (st1 := []) (cells1 := 3) (slots1 := 2320) rfl rfl rfl rfl ?_
  refine c_aload E dX9_init_30 0 rfl ?_
  refine c_aload E dX9_init_31 1 rfl ?_
  refine c_putF E 0 wr_X9_22 rfl rfl rfl rfl (Nat.le_of_ble_eq_true rfl) dX9_init_32 ?_
  refine c_nrm (es1 := [.inr (9, [.ref x0, .null, .ref (b + 1), .ref (b + 2), .ref (b + 3), .int 0, .int 0, .int 0]), .inl (g.2.2.2.1.1, 16, .inl (fun _ => 0)), .inl (g.2.2.2.1.1, 256, .inl (fun _ => 0)), .inl (g.2.2.2.1.2.2, 2048, .inr (.inl (fun _ => 0)))]) (st1 := []) (cells1 := 3) (slots1 := 2320) rfl rfl rfl rfl ?_
  refine c_aload E dX9_init_35 0 rfl ?_
  refine c_aload E dX9_init_36 2 rfl ?_
  refine c_putF E 0 wr_X9_26 rfl rfl rfl rfl (Nat.le_of_ble_eq_true rfl) dX9_init_37 ?_
  refine c_nrm (es1 := [.inr (9, [.ref x0, .ref x1, .ref (b + 1), .ref (b + 2), .ref (b + 3), .int 0, .int 0, .int 0]), .inl (g.2.2.2.1.1, 16, .inl (fun _ => 0)), .inl (g.2.2.2.1.1, 256, .inl (fun _ => 0)), .inl (g.2.2.2.1.2.2, 2048, .inr (.inl (fun _ => 0)))]) (st1 := []) (cells1 := 3) (slots1 := 2320) rfl rfl rfl rfl ?_
  exact c_ret E (by decide) (by decide) dX9_init_40
