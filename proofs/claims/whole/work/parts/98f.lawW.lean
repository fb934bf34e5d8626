/-! ===== the law's own walk, over two worlds that are apart ===== -/
def fA (s : State) : Nat → Prop := fun q => s.heap.size ≤ q
def TE (l : Launch) (gX gM : GC) (X : MX) (b L : Nat) (xs : Nat → Int32) : Prop :=
  X.1.tables.exec = Jvm.exec ∧ X.2.2.2.2.2.2.2.code = code ∧ X.2.2.2.2.2.2.1.sig.returnType = ret ∧ X.2.2.2.2.2.2.2.maxLocals = 4 ∧ X.2.2.1.vm.findClass R_law = some X.2.2.2.1.cls ∧ (∀ w ∈ TBL, w.before #[Value.ref b] X.2.2.1 = true) ∧ va_X b L xs X.2.2.1 X.2.2.1.heap ∧ b < X.2.2.1.heap.size ∧ X.2.2.2.2.2.2.1.locks = false ∧ X.2.2.2.2.1 = #[Value.ref b] ∧ (gK gX X.2.2.1 ∧ gK gM X.2.2.1) ∧ (gI gX ∧ gI gM) ∧ (isGX gX ∧ isGM gM) ∧ (gX.1 = l ∧ gM.1 = l) ∧ ((∀ q, gA gX q → fA X.2.2.1 q) ∧ ∀ q, gA gM q → fA X.2.2.1 q) ∧ ∀ q, gA gX q → ¬ gA gM q
section TELAW
variable {l : Launch} {gX gM : GC} {X : MX} {b L : Nat} {xs : Nat → Int32} {hx hm : HP} {pc : Nat} {lv : List (Nat × Value)} {st : List Value}
theorem TE.gx (E : TE l gX gM X b L xs) : isGX gX := E.2.2.2.2.2.2.2.2.2.2.2.2.1.1
theorem TE.gm (E : TE l gX gM X b L xs) : isGM gM := E.2.2.2.2.2.2.2.2.2.2.2.2.1.2
theorem TE.ix (E : TE l gX gM X b L xs) : gI gX := E.2.2.2.2.2.2.2.2.2.2.2.1.1
theorem TE.im (E : TE l gX gM X b L xs) : gI gM := E.2.2.2.2.2.2.2.2.2.2.2.1.2
def TT (l : Launch) (gX gM : GC) (X : MX) (b pc : Nat) (lv : List (Nat × Value)) (st : List Value) (hx hm : HP) : Prop := ∀ (H : Heap) (locs : List Loc) (ls : Array Slot), gR gX hx H → gR gM hm H → va_S (fA X.2.2.1) X.2.2.1.heap H locs → lv_has ls 4 lv →
  W X.1 l X.2.1 room_1 X.2.2.1 X.2.2.2.1 #[Value.ref b] X.2.2.2.2.2.1 X.2.2.2.2.2.2.1 X.2.2.2.2.2.2.2 H locs 600000 7302250 (lw_Z X.2.2.2.2.2.1 #[Value.ref b] X.2.2.1) (F0 X.2.2.2.1 pc ls st)
def LVw (gX gM : GC) (b j : Nat) : List (Nat × Value) := [(3, .int (nI j)), (2, .ref (gM.2.2.1 0)), (1, .ref (gX.2.2.1 0)), (0, .ref b)]
theorem fA_s {s : State} {g : GC} {H : Heap} {locs : List Loc} (h : va_S (fA s) s.heap H locs) : va_S (gA g) s.heap H [] := ⟨h.1, fun q h1 _ => h.2.1 q h1 (Nat.not_le.mpr h1), fun _ z => by cases z⟩
theorem gR_apart {g1 g2 : GC} {h : HP} {H H1 : Heap} (hR : gR g1 h H) (hI : gI g1) (ha : ∀ q, gA g1 q → ¬ gA g2 q) (hk : ∀ q : Nat, q < H.size → ¬ gA g2 q → H1[q]? = H[q]?) : gR g1 h H1 := fun k q hq => (hR k q hq).kept (hk q.1 ((hR k q hq).lt) (ha q.1 ((gw_D hI h).2 k q hq)))
theorem t_aload (E : TE l gX gM X b L xs) {k : Fin 4} {x : Nat} (hd : decode code pc = .ok (.aload_n k, 1)) (q : Nat) (hl : lv[q]? = some (k.val, .ref x)) (kk : TT l gX gM X b (pc + 1) lv (.ref x :: st) hx hm) : TT l gX gM X b pc lv st hx hm := by
  intro H locs ls h1 h2 hS hl0
  exact lv_aload_n E.1 E.2.1 hd rfl (lv_at hl0 q hl) (kk H locs ls h1 h2 hS hl0)
theorem t_arg {j k : Nat} {n : Int} (hL : L ≤ 3072) (E : TE l gX gM X b L xs) (hn : Int32.ofInt n = nI k) (hj : j + k < L) (d0 : decode code pc = .ok (.aload_n 0, 1)) (d1 : decode code (pc + 1) = .ok (.iload_n 3, 1)) (d2 : decode code (pc + 1 + 1) = .ok (.iconst n, 1)) (d3 : decode code (pc + 1 + 1 + 1) = .ok (.iadd, 1)) (d4 : decode code (pc + 1 + 1 + 1 + 1) = .ok (.iaload, 1)) (kk : TT l gX gM X b (pc + 1 + 1 + 1 + 1 + 1) (LVw gX gM b j) (.int (xs (j + k)) :: st) hx hm) : TT l gX gM X b pc (LVw gX gM b j) st hx hm := by
  intro H locs ls h1 h2 hS hl
  have hbl := E.2.2.2.2.2.2.2.1
  refine lv_aload_n E.1 E.2.1 d0 rfl (lv_at hl 3 rfl) ?_
  refine lv_iload_n E.1 E.2.1 d1 rfl (lv_at hl 0 rfl) ?_
  refine lv_iconst (v := nI k) E.1 E.2.1 d2 hn ?_
  refine lv_iadd E.1 E.2.1 d3 ?_
  rw [add_nn]
  refine va_sld (A := fA X.2.2.1) E.1 E.2.1 E.2.2.2.2.2.2.1 hbl (Nat.not_le.mpr hbl) hS (i := nI (j + k)) (nI_big hj (by omega)) d4 ?_
  rw [nI_clamp (show j + k < 2147483648 by omega)]
  exact kk H locs ls h1 h2 hS hl
theorem t_callB (E : TE l gX gM X b L xs) {idx n : Nat} {y : MethodName} {M1 : MD} (c : CLB R_law idx y M1 n) (hr : M1.2.2.2.2.1 + 1 ≤ 2048 ∧ 8 + (M1.2.1 + 11) + M1.2.2.2.2.2 ≤ 84000) : CallB room_1 X.2.2.1 #[Value.ref b] R_law idx y M1.1 M1.2.1 M1.2.2.2.1 (Cond.code y M1.1 M1.2.1 M1.2.2.2.1 :: TBL) (gRm M1) 0 0 n :=
  callB_of n E.2.2.2.2.2.1 (tb_good c.2.1) rfl rfl rfl (E.2.2.2.2.2.1 _ c.2.2.1) (E.2.2.2.2.2.1 _ c.1) c.2.2.2 hr
theorem t_callX (E : TE l gX gM X b L xs) {idx n : Nat} {y : MethodName} {M1 : MD} {As : List Value} {dm : Option (Int32 × HP)} {r : Int32} {h1 : HP} (hO : Ok gX y M1 (.ref (gX.2.2.1 0) :: As) hx dm) (hdm : dm = some (r, h1)) (c : CLV R_law idx 10 y M1 n) (hr : M1.2.2.2.2.1 + 1 ≤ 2048 ∧ 8 + (M1.2.1 + 11) + M1.2.2.2.2.2 ≤ 84000) {ty : FieldType} (hv : M1.2.2.2.1 = some ty) (hn : As.length = n) (hst : (st.map fun v => v.category).sum ≤ 8) (hd : decode code pc = .ok (.invokevirtual idx, 3)) (kk : TT l gX gM X b (pc + 3) lv (.int r :: st) h1 hm) : TT l gX gM X b pc lv (As.reverse ++ .ref (gX.2.2.1 0) :: st) hx hm := by
  intro H locs ls hR1 hR2 hS hl0
  have hM := hO r h1 hdm
  obtain ⟨q0, a1, a2⟩ := c.2.2
  rw [gQ_i hv] at hM
  have E1 := E.2.2.2.2.2.2.2.2.2.2
  rw [E1.2.2.2.1.1] at hM
  refine va_calli (va_runV (As := As) (rest := st) ⟨E.1, E.2.1, E.2.2.2.1, E.2.2.2.2.1, E.2.2.2.2.2.1⟩ hM ⟨t_callB E c.1 hr, E.2.2.2.2.2.1 _ c.2.1, E.2.2.2.2.2.1 _ a2⟩ ⟨g_blind, va_recv E1.1.1.1 hR1 a1 ((cX_0 E.gx).w hx), fun U hU hW => ⟨rfl, by rw [hU]; exact hR1, E1.1.1.warm hW (fA_s hS) hU⟩⟩ rfl hn hl0.1 rfl (lv_room hst) hd ⟨Nat.le_refl _, Nat.le_refl _⟩) hS (fun q _ h => E1.2.2.2.2.1.1 q h) (fun q h => E1.2.2.2.2.1.1 q h) (fun vq uq tq H1 locs1 ht hvm hw hB hz hk hS1 => ?_)
  obtain ⟨rfl, rfl⟩ := hw
  exact kk H1 locs1 ls (by rw [← ht]; exact hB) (gR_apart hR2 E.im (fun q z1 z2 => E1.2.2.2.2.2 q z2 z1) hk) hS1 hl0
theorem t_callM (E : TE l gX gM X b L xs) {idx n : Nat} {y : MethodName} {M1 : MD} {As : List Value} {dm : Option (Int32 × HP)} {r : Int32} {h1 : HP} (hO : Ok gM y M1 (.ref (gM.2.2.1 0) :: As) hm dm) (hdm : dm = some (r, h1)) (c : CLV R_law idx 11 y M1 n) (hr : M1.2.2.2.2.1 + 1 ≤ 2048 ∧ 8 + (M1.2.1 + 11) + M1.2.2.2.2.2 ≤ 84000) {ty : FieldType} (hv : M1.2.2.2.1 = some ty) (hn : As.length = n) (hst : (st.map fun v => v.category).sum ≤ 8) (hd : decode code pc = .ok (.invokevirtual idx, 3)) (kk : TT l gX gM X b (pc + 3) lv (.int r :: st) hx h1) : TT l gX gM X b pc lv (As.reverse ++ .ref (gM.2.2.1 0) :: st) hx hm := by
  intro H locs ls hR1 hR2 hS hl0
  have hM := hO r h1 hdm
  obtain ⟨q0, a1, a2⟩ := c.2.2
  rw [gQ_i hv] at hM
  have E1 := E.2.2.2.2.2.2.2.2.2.2
  rw [E1.2.2.2.1.2] at hM
  refine va_calli (va_runV (As := As) (rest := st) ⟨E.1, E.2.1, E.2.2.2.1, E.2.2.2.2.1, E.2.2.2.2.2.1⟩ hM ⟨t_callB E c.1 hr, E.2.2.2.2.2.1 _ c.2.1, E.2.2.2.2.2.1 _ a2⟩ ⟨g_blind, va_recv E1.1.2.1 hR2 a1 ((cM_0 E.gm).w hm), fun U hU hW => ⟨rfl, by rw [hU]; exact hR2, E1.1.2.warm hW (fA_s hS) hU⟩⟩ rfl hn hl0.1 rfl (lv_room hst) hd ⟨Nat.le_refl _, Nat.le_refl _⟩) hS (fun q _ h => E1.2.2.2.2.1.2 q h) (fun q h => E1.2.2.2.2.1.2 q h) (fun vq uq tq H1 locs1 ht hvm hw hB hz hk hS1 => ?_)
  obtain ⟨rfl, rfl⟩ := hw
  exact kk H1 locs1 ls (gR_apart hR1 E.ix (fun q z1 z2 => E1.2.2.2.2.2 q z1 z2) hk) (by rw [← ht]; exact hB) hS1 hl0
theorem t_eq (E : TE l gX gM X b L xs) {r : Int32} {off : Int} {tgt : Nat} (hd : decode code pc = .ok (.if_icmp .eq off, 3)) (ht : (pc : Int) + off = (tgt : Int)) (kk : TT l gX gM X b tgt lv st hx hm) : TT l gX gM X b pc lv (.int r :: .int r :: st) hx hm := by
  intro H locs ls h1 h2 hS hl0
  exact lv_icmp_eq E.1 E.2.1 (tgt := tgt) hd ht (fun _ => kk H locs ls h1 h2 hS hl0) (fun hc => absurd rfl hc)
theorem t_swI (E : TE l gX gM X b L xs) {dflt lo hi : Int} {offs : Array Int} {len : Nat} {x : Int32} {off : Int} {tgt : Nat} (hd : decode code pc = .ok (.tableswitch dflt lo hi offs, len)) (h1 : ¬ x.toInt < lo) (h2 : ¬ hi < x.toInt) (ho : offs[(x.toInt - lo).toNat]? = some off) (ht : (pc : Int) + off = (tgt : Int)) (kk : TT l gX gM X b tgt lv st hx hm) : TT l gX gM X b pc lv (.int x :: st) hx hm := by
  intro H locs ls q1 q2 hS hl0
  exact lv_tableIn E.1 E.2.1 hd h1 h2 ho ht (kk H locs ls q1 q2 hS hl0)
theorem t_swO (E : TE l gX gM X b L xs) {dflt lo hi : Int} {offs : Array Int} {len : Nat} {x : Int32} {tgt : Nat} (hd : decode code pc = .ok (.tableswitch dflt lo hi offs, len)) (h1 : x.toInt < lo ∨ hi < x.toInt) (ht : (pc : Int) + dflt = (tgt : Int)) (kk : TT l gX gM X b tgt lv st hx hm) : TT l gX gM X b pc lv (.int x :: st) hx hm := by
  intro H locs ls q1 q2 hS hl0
  exact lv_tableOut E.1 E.2.1 hd h1 ht (kk H locs ls q1 q2 hS hl0)
theorem t_case_0 (hL : L ≤ 3072) (E : TE l gX gM X b L xs) {j : Nat} (hj : j + 5 < L) (q : RR hx hm) (kk : ∀ hx' hm', RR hx' hm' → TT l gX gM X b 991 (LVw gX gM b j) [] hx' hm') : TT l gX gM X b 164 (LVw gX gM b j) [] hx hm := by
  obtain ⟨r, hx1, hm1, e1, e2, q1⟩ := bb_feed (N := 100000) (Nat.le_refl _) q (xs (j + 1)) (xs (j + 2)) (xs (j + 3)) (xs (j + 4)) (xs (j + 5))
  refine t_aload E dl_164 2 rfl ?_
  refine t_arg (k := 1) hL E rfl (by omega) dl_165 dl_166 dl_167 dl_168 dl_169 ?_
  refine t_arg (k := 2) hL E rfl (by omega) dl_170 dl_171 dl_172 dl_173 dl_174 ?_
  refine t_arg (k := 3) hL E rfl (by omega) dl_175 dl_176 dl_177 dl_178 dl_179 ?_
  refine t_arg (k := 4) hL E rfl (by omega) dl_180 dl_181 dl_182 dl_183 dl_184 ?_
  refine t_arg (k := 5) hL E rfl (by omega) dl_185 dl_186 dl_187 dl_188 dl_189 ?_
  refine t_callX (As := [.int (xs (j + 1)), .int (xs (j + 2)), .int (xs (j + 3)), .int (xs (j + 4)), .int (xs (j + 5))]) (st := []) E (ok_X10_feed E.gx E.ix 100000 (xs (j + 1)) (xs (j + 2)) (xs (j + 3)) (xs (j + 4)) (xs (j + 5)) hx) e1 cl_law_13 (by decide) rfl rfl (Nat.le_of_ble_eq_true rfl) dl_190 ?_
  refine t_aload E dl_193 1 rfl ?_
  refine t_arg (k := 1) hL E rfl (by omega) dl_194 dl_195 dl_196 dl_197 dl_198 ?_
  refine t_arg (k := 2) hL E rfl (by omega) dl_199 dl_200 dl_201 dl_202 dl_203 ?_
  refine t_arg (k := 3) hL E rfl (by omega) dl_204 dl_205 dl_206 dl_207 dl_208 ?_
  refine t_arg (k := 4) hL E rfl (by omega) dl_209 dl_210 dl_211 dl_212 dl_213 ?_
  refine t_arg (k := 5) hL E rfl (by omega) dl_214 dl_215 dl_216 dl_217 dl_218 ?_
  refine t_callM (As := [.int (xs (j + 1)), .int (xs (j + 2)), .int (xs (j + 3)), .int (xs (j + 4)), .int (xs (j + 5))]) (st := [.int r]) E (ok_X11_feed E.gm E.im 100000 (xs (j + 1)) (xs (j + 2)) (xs (j + 3)) (xs (j + 4)) (xs (j + 5)) hm) e2 cl_law_17 (by decide) rfl rfl (Nat.le_of_ble_eq_true rfl) dl_219 ?_
  exact t_eq E dl_222 rfl (kk _ _ q1)
theorem t_case_1 (hL : L ≤ 3072) (E : TE l gX gM X b L xs) {j : Nat} (hj : j + 5 < L) (q : RR hx hm) (kk : ∀ hx' hm', RR hx' hm' → TT l gX gM X b 991 (LVw gX gM b j) [] hx' hm') : TT l gX gM X b 227 (LVw gX gM b j) [] hx hm := by
  obtain ⟨r, hx1, hm1, e1, e2, q1⟩ := bb_law (N := 100000) (Nat.le_refl _) q (xs (j + 1))
  refine t_aload E dl_227 2 rfl ?_
  refine t_arg (k := 1) hL E rfl (by omega) dl_228 dl_229 dl_230 dl_231 dl_232 ?_
  refine t_callX (As := [.int (xs (j + 1))]) (st := []) E (ok_X10_law E.gx E.ix 100000 (xs (j + 1)) hx) e1 cl_law_18 (by decide) rfl rfl (Nat.le_of_ble_eq_true rfl) dl_233 ?_
  refine t_aload E dl_236 1 rfl ?_
  refine t_arg (k := 1) hL E rfl (by omega) dl_237 dl_238 dl_239 dl_240 dl_241 ?_
  refine t_callM (As := [.int (xs (j + 1))]) (st := [.int r]) E (ok_X11_law E.gm E.im 100000 (xs (j + 1)) hm) e2 cl_law_22 (by decide) rfl rfl (Nat.le_of_ble_eq_true rfl) dl_242 ?_
  exact t_eq E dl_245 rfl (kk _ _ q1)
theorem t_case_2 (hL : L ≤ 3072) (E : TE l gX gM X b L xs) {j : Nat} (hj : j + 5 < L) (q : RR hx hm) (kk : ∀ hx' hm', RR hx' hm' → TT l gX gM X b 991 (LVw gX gM b j) [] hx' hm') : TT l gX gM X b 250 (LVw gX gM b j) [] hx hm := by
  obtain ⟨r, hx1, hm1, e1, e2, q1⟩ := bb_town (N := 100000) (Nat.le_refl _) q (xs (j + 1))
  refine t_aload E dl_250 2 rfl ?_
  refine t_arg (k := 1) hL E rfl (by omega) dl_251 dl_252 dl_253 dl_254 dl_255 ?_
  refine t_callX (As := [.int (xs (j + 1))]) (st := []) E (ok_X10_town E.gx E.ix 100000 (xs (j + 1)) hx) e1 cl_law_23 (by decide) rfl rfl (Nat.le_of_ble_eq_true rfl) dl_256 ?_
  refine t_aload E dl_259 1 rfl ?_
  refine t_arg (k := 1) hL E rfl (by omega) dl_260 dl_261 dl_262 dl_263 dl_264 ?_
  refine t_callM (As := [.int (xs (j + 1))]) (st := [.int r]) E (ok_X11_town E.gm E.im 100000 (xs (j + 1)) hm) e2 cl_law_26 (by decide) rfl rfl (Nat.le_of_ble_eq_true rfl) dl_265 ?_
  exact t_eq E dl_268 rfl (kk _ _ q1)
theorem t_case_3 (hL : L ≤ 3072) (E : TE l gX gM X b L xs) {j : Nat} (hj : j + 5 < L) (q : RR hx hm) (kk : ∀ hx' hm', RR hx' hm' → TT l gX gM X b 991 (LVw gX gM b j) [] hx' hm') : TT l gX gM X b 273 (LVw gX gM b j) [] hx hm := by
  obtain ⟨r, hx1, hm1, e1, e2, q1⟩ := bb_orders (N := 100000) (Nat.le_refl _) q (xs (j + 1))
  refine t_aload E dl_273 2 rfl ?_
  refine t_arg (k := 1) hL E rfl (by omega) dl_274 dl_275 dl_276 dl_277 dl_278 ?_
  refine t_callX (As := [.int (xs (j + 1))]) (st := []) E (ok_X10_orders E.gx E.ix 100000 (xs (j + 1)) hx) e1 cl_law_27 (by decide) rfl rfl (Nat.le_of_ble_eq_true rfl) dl_279 ?_
  refine t_aload E dl_282 1 rfl ?_
  refine t_arg (k := 1) hL E rfl (by omega) dl_283 dl_284 dl_285 dl_286 dl_287 ?_
  refine t_callM (As := [.int (xs (j + 1))]) (st := [.int r]) E (ok_X11_orders E.gm E.im 100000 (xs (j + 1)) hm) e2 cl_law_30 (by decide) rfl rfl (Nat.le_of_ble_eq_true rfl) dl_288 ?_
  exact t_eq E dl_291 rfl (kk _ _ q1)
theorem t_case_4 (hL : L ≤ 3072) (E : TE l gX gM X b L xs) {j : Nat} (hj : j + 5 < L) (q : RR hx hm) (kk : ∀ hx' hm', RR hx' hm' → TT l gX gM X b 991 (LVw gX gM b j) [] hx' hm') : TT l gX gM X b 296 (LVw gX gM b j) [] hx hm := by
  obtain ⟨r, hx1, hm1, e1, e2, q1⟩ := bb_minutes (N := 100000) (Nat.le_refl _) q (xs (j + 1))
  refine t_aload E dl_296 2 rfl ?_
  refine t_arg (k := 1) hL E rfl (by omega) dl_297 dl_298 dl_299 dl_300 dl_301 ?_
  refine t_callX (As := [.int (xs (j + 1))]) (st := []) E (ok_X10_minutes E.gx E.ix 100000 (xs (j + 1)) hx) e1 cl_law_31 (by decide) rfl rfl (Nat.le_of_ble_eq_true rfl) dl_302 ?_
  refine t_aload E dl_305 1 rfl ?_
  refine t_arg (k := 1) hL E rfl (by omega) dl_306 dl_307 dl_308 dl_309 dl_310 ?_
  refine t_callM (As := [.int (xs (j + 1))]) (st := [.int r]) E (ok_X11_minutes E.gm E.im 100000 (xs (j + 1)) hm) e2 cl_law_34 (by decide) rfl rfl (Nat.le_of_ble_eq_true rfl) dl_311 ?_
  exact t_eq E dl_314 rfl (kk _ _ q1)
theorem t_case_5 (hL : L ≤ 3072) (E : TE l gX gM X b L xs) {j : Nat} (hj : j + 5 < L) (q : RR hx hm) (kk : ∀ hx' hm', RR hx' hm' → TT l gX gM X b 991 (LVw gX gM b j) [] hx' hm') : TT l gX gM X b 319 (LVw gX gM b j) [] hx hm := by
  obtain ⟨r, hx1, hm1, e1, e2, q1⟩ := bb_tried (N := 100000) (Nat.le_refl _) q (xs (j + 1)) (xs (j + 2))
  refine t_aload E dl_319 2 rfl ?_
  refine t_arg (k := 1) hL E rfl (by omega) dl_320 dl_321 dl_322 dl_323 dl_324 ?_
  refine t_arg (k := 2) hL E rfl (by omega) dl_325 dl_326 dl_327 dl_328 dl_329 ?_
  refine t_callX (As := [.int (xs (j + 1)), .int (xs (j + 2))]) (st := []) E (ok_X10_tried E.gx E.ix 100000 (xs (j + 1)) (xs (j + 2)) hx) e1 cl_law_35 (by decide) rfl rfl (Nat.le_of_ble_eq_true rfl) dl_330 ?_
  refine t_aload E dl_333 1 rfl ?_
  refine t_arg (k := 1) hL E rfl (by omega) dl_334 dl_335 dl_336 dl_337 dl_338 ?_
  refine t_arg (k := 2) hL E rfl (by omega) dl_339 dl_340 dl_341 dl_342 dl_343 ?_
  refine t_callM (As := [.int (xs (j + 1)), .int (xs (j + 2))]) (st := [.int r]) E (ok_X11_tried E.gm E.im 100000 (xs (j + 1)) (xs (j + 2)) hm) e2 cl_law_39 (by decide) rfl rfl (Nat.le_of_ble_eq_true rfl) dl_344 ?_
  exact t_eq E dl_347 rfl (kk _ _ q1)
theorem t_case_6 (hL : L ≤ 3072) (E : TE l gX gM X b L xs) {j : Nat} (hj : j + 5 < L) (q : RR hx hm) (kk : ∀ hx' hm', RR hx' hm' → TT l gX gM X b 991 (LVw gX gM b j) [] hx' hm') : TT l gX gM X b 352 (LVw gX gM b j) [] hx hm := by
  obtain ⟨r, hx1, hm1, e1, e2, q1⟩ := bb_cornerIs (N := 100000) (Nat.le_refl _) q (xs (j + 1)) (xs (j + 2))
  refine t_aload E dl_352 2 rfl ?_
  refine t_arg (k := 1) hL E rfl (by omega) dl_353 dl_354 dl_355 dl_356 dl_357 ?_
  refine t_arg (k := 2) hL E rfl (by omega) dl_358 dl_359 dl_360 dl_361 dl_362 ?_
  refine t_callX (As := [.int (xs (j + 1)), .int (xs (j + 2))]) (st := []) E (ok_X10_cornerIs E.gx E.ix 100000 (xs (j + 1)) (xs (j + 2)) hx) e1 cl_law_40 (by decide) rfl rfl (Nat.le_of_ble_eq_true rfl) dl_363 ?_
  refine t_aload E dl_366 1 rfl ?_
  refine t_arg (k := 1) hL E rfl (by omega) dl_367 dl_368 dl_369 dl_370 dl_371 ?_
  refine t_arg (k := 2) hL E rfl (by omega) dl_372 dl_373 dl_374 dl_375 dl_376 ?_
  refine t_callM (As := [.int (xs (j + 1)), .int (xs (j + 2))]) (st := [.int r]) E (ok_X11_cornerIs E.gm E.im 100000 (xs (j + 1)) (xs (j + 2)) hm) e2 cl_law_43 (by decide) rfl rfl (Nat.le_of_ble_eq_true rfl) dl_377 ?_
  exact t_eq E dl_380 rfl (kk _ _ q1)
theorem t_case_7 (hL : L ≤ 3072) (E : TE l gX gM X b L xs) {j : Nat} (hj : j + 5 < L) (q : RR hx hm) (kk : ∀ hx' hm', RR hx' hm' → TT l gX gM X b 991 (LVw gX gM b j) [] hx' hm') : TT l gX gM X b 385 (LVw gX gM b j) [] hx hm := by
  obtain ⟨r, hx1, hm1, e1, e2, q1⟩ := bb_pipeIs q (xs (j + 1)) (xs (j + 2))
  refine t_aload E dl_385 2 rfl ?_
  refine t_arg (k := 1) hL E rfl (by omega) dl_386 dl_387 dl_388 dl_389 dl_390 ?_
  refine t_arg (k := 2) hL E rfl (by omega) dl_391 dl_392 dl_393 dl_394 dl_395 ?_
  refine t_callX (As := [.int (xs (j + 1)), .int (xs (j + 2))]) (st := []) E (ok_X10_pipeIs E.gx E.ix (xs (j + 1)) (xs (j + 2)) hx) e1 cl_law_44 (by decide) rfl rfl (Nat.le_of_ble_eq_true rfl) dl_396 ?_
  refine t_aload E dl_399 1 rfl ?_
  refine t_arg (k := 1) hL E rfl (by omega) dl_400 dl_401 dl_402 dl_403 dl_404 ?_
  refine t_arg (k := 2) hL E rfl (by omega) dl_405 dl_406 dl_407 dl_408 dl_409 ?_
  refine t_callM (As := [.int (xs (j + 1)), .int (xs (j + 2))]) (st := [.int r]) E (ok_X11_pipeIs E.gm E.im (xs (j + 1)) (xs (j + 2)) hm) e2 cl_law_47 (by decide) rfl rfl (Nat.le_of_ble_eq_true rfl) dl_410 ?_
  exact t_eq E dl_413 rfl (kk _ _ q1)
theorem t_case_8 (hL : L ≤ 3072) (E : TE l gX gM X b L xs) {j : Nat} (hj : j + 5 < L) (q : RR hx hm) (kk : ∀ hx' hm', RR hx' hm' → TT l gX gM X b 991 (LVw gX gM b j) [] hx' hm') : TT l gX gM X b 418 (LVw gX gM b j) [] hx hm := by
  obtain ⟨r, hx1, hm1, e1, e2, q1⟩ := bb_dry (N := 100000) (Nat.le_refl _) q (xs (j + 1)) (xs (j + 2))
  refine t_aload E dl_418 2 rfl ?_
  refine t_arg (k := 1) hL E rfl (by omega) dl_419 dl_420 dl_421 dl_422 dl_423 ?_
  refine t_arg (k := 2) hL E rfl (by omega) dl_424 dl_425 dl_426 dl_427 dl_428 ?_
  refine t_callX (As := [.int (xs (j + 1)), .int (xs (j + 2))]) (st := []) E (ok_X10_dry E.gx E.ix 100000 (xs (j + 1)) (xs (j + 2)) hx) e1 cl_law_48 (by decide) rfl rfl (Nat.le_of_ble_eq_true rfl) dl_429 ?_
  refine t_aload E dl_432 1 rfl ?_
  refine t_arg (k := 1) hL E rfl (by omega) dl_433 dl_434 dl_435 dl_436 dl_437 ?_
  refine t_arg (k := 2) hL E rfl (by omega) dl_438 dl_439 dl_440 dl_441 dl_442 ?_
  refine t_callM (As := [.int (xs (j + 1)), .int (xs (j + 2))]) (st := [.int r]) E (ok_X11_dry E.gm E.im 100000 (xs (j + 1)) (xs (j + 2)) hm) e2 cl_law_51 (by decide) rfl rfl (Nat.le_of_ble_eq_true rfl) dl_443 ?_
  exact t_eq E dl_446 rfl (kk _ _ q1)
theorem t_case_9 (hL : L ≤ 3072) (E : TE l gX gM X b L xs) {j : Nat} (hj : j + 5 < L) (q : RR hx hm) (kk : ∀ hx' hm', RR hx' hm' → TT l gX gM X b 991 (LVw gX gM b j) [] hx' hm') : TT l gX gM X b 451 (LVw gX gM b j) [] hx hm := by
  obtain ⟨r, hx1, hm1, e1, e2, q1⟩ := bb_most (N := 100000) (Nat.le_refl _) q (xs (j + 1)) (xs (j + 2)) (xs (j + 3))
  refine t_aload E dl_451 2 rfl ?_
  refine t_arg (k := 1) hL E rfl (by omega) dl_452 dl_453 dl_454 dl_455 dl_456 ?_
  refine t_arg (k := 2) hL E rfl (by omega) dl_457 dl_458 dl_459 dl_460 dl_461 ?_
  refine t_arg (k := 3) hL E rfl (by omega) dl_462 dl_463 dl_464 dl_465 dl_466 ?_
  refine t_callX (As := [.int (xs (j + 1)), .int (xs (j + 2)), .int (xs (j + 3))]) (st := []) E (ok_X10_most E.gx E.ix 100000 (xs (j + 1)) (xs (j + 2)) (xs (j + 3)) hx) e1 cl_law_52 (by decide) rfl rfl (Nat.le_of_ble_eq_true rfl) dl_467 ?_
  refine t_aload E dl_470 1 rfl ?_
  refine t_arg (k := 1) hL E rfl (by omega) dl_471 dl_472 dl_473 dl_474 dl_475 ?_
  refine t_arg (k := 2) hL E rfl (by omega) dl_476 dl_477 dl_478 dl_479 dl_480 ?_
  refine t_arg (k := 3) hL E rfl (by omega) dl_481 dl_482 dl_483 dl_484 dl_485 ?_
  refine t_callM (As := [.int (xs (j + 1)), .int (xs (j + 2)), .int (xs (j + 3))]) (st := [.int r]) E (ok_X11_most E.gm E.im 100000 (xs (j + 1)) (xs (j + 2)) (xs (j + 3)) hm) e2 cl_law_56 (by decide) rfl rfl (Nat.le_of_ble_eq_true rfl) dl_486 ?_
  exact t_eq E dl_489 rfl (kk _ _ q1)
theorem t_case_10 (hL : L ≤ 3072) (E : TE l gX gM X b L xs) {j : Nat} (hj : j + 5 < L) (q : RR hx hm) (kk : ∀ hx' hm', RR hx' hm' → TT l gX gM X b 991 (LVw gX gM b j) [] hx' hm') : TT l gX gM X b 494 (LVw gX gM b j) [] hx hm := by
  obtain ⟨r, hx1, hm1, e1, e2, q1⟩ := bb_cut (N := 100000) (Nat.le_refl _) q (xs (j + 1)) (xs (j + 2))
  refine t_aload E dl_494 2 rfl ?_
  refine t_arg (k := 1) hL E rfl (by omega) dl_495 dl_496 dl_497 dl_498 dl_499 ?_
  refine t_arg (k := 2) hL E rfl (by omega) dl_500 dl_501 dl_502 dl_503 dl_504 ?_
  refine t_callX (As := [.int (xs (j + 1)), .int (xs (j + 2))]) (st := []) E (ok_X10_cut E.gx E.ix 100000 (xs (j + 1)) (xs (j + 2)) hx) e1 cl_law_57 (by decide) rfl rfl (Nat.le_of_ble_eq_true rfl) dl_505 ?_
  refine t_aload E dl_508 1 rfl ?_
  refine t_arg (k := 1) hL E rfl (by omega) dl_509 dl_510 dl_511 dl_512 dl_513 ?_
  refine t_arg (k := 2) hL E rfl (by omega) dl_514 dl_515 dl_516 dl_517 dl_518 ?_
  refine t_callM (As := [.int (xs (j + 1)), .int (xs (j + 2))]) (st := [.int r]) E (ok_X11_cut E.gm E.im 100000 (xs (j + 1)) (xs (j + 2)) hm) e2 cl_law_60 (by decide) rfl rfl (Nat.le_of_ble_eq_true rfl) dl_519 ?_
  exact t_eq E dl_522 rfl (kk _ _ q1)
theorem t_case_11 (hL : L ≤ 3072) (E : TE l gX gM X b L xs) {j : Nat} (hj : j + 5 < L) (q : RR hx hm) (kk : ∀ hx' hm', RR hx' hm' → TT l gX gM X b 991 (LVw gX gM b j) [] hx' hm') : TT l gX gM X b 527 (LVw gX gM b j) [] hx hm := by
  obtain ⟨r, hx1, hm1, e1, e2, q1⟩ := bb_widest (N := 100000) (Nat.le_refl _) q (xs (j + 1)) (xs (j + 2))
  refine t_aload E dl_527 2 rfl ?_
  refine t_arg (k := 1) hL E rfl (by omega) dl_528 dl_529 dl_530 dl_531 dl_532 ?_
  refine t_arg (k := 2) hL E rfl (by omega) dl_533 dl_534 dl_535 dl_536 dl_537 ?_
  refine t_callX (As := [.int (xs (j + 1)), .int (xs (j + 2))]) (st := []) E (ok_X10_widest E.gx E.ix 100000 (xs (j + 1)) (xs (j + 2)) hx) e1 cl_law_61 (by decide) rfl rfl (Nat.le_of_ble_eq_true rfl) dl_538 ?_
  refine t_aload E dl_541 1 rfl ?_
  refine t_arg (k := 1) hL E rfl (by omega) dl_542 dl_543 dl_544 dl_545 dl_546 ?_
  refine t_arg (k := 2) hL E rfl (by omega) dl_547 dl_548 dl_549 dl_550 dl_551 ?_
  refine t_callM (As := [.int (xs (j + 1)), .int (xs (j + 2))]) (st := [.int r]) E (ok_X11_widest E.gm E.im 100000 (xs (j + 1)) (xs (j + 2)) hm) e2 cl_law_64 (by decide) rfl rfl (Nat.le_of_ble_eq_true rfl) dl_552 ?_
  exact t_eq E dl_555 rfl (kk _ _ q1)
theorem t_case_12 (hL : L ≤ 3072) (E : TE l gX gM X b L xs) {j : Nat} (hj : j + 5 < L) (q : RR hx hm) (kk : ∀ hx' hm', RR hx' hm' → TT l gX gM X b 991 (LVw gX gM b j) [] hx' hm') : TT l gX gM X b 560 (LVw gX gM b j) [] hx hm := by
  obtain ⟨r, hx1, hm1, e1, e2, q1⟩ := bb_steps (N := 100000) (Nat.le_refl _) q (xs (j + 1)) (xs (j + 2))
  refine t_aload E dl_560 2 rfl ?_
  refine t_arg (k := 1) hL E rfl (by omega) dl_561 dl_562 dl_563 dl_564 dl_565 ?_
  refine t_arg (k := 2) hL E rfl (by omega) dl_566 dl_567 dl_568 dl_569 dl_570 ?_
  refine t_callX (As := [.int (xs (j + 1)), .int (xs (j + 2))]) (st := []) E (ok_X10_steps E.gx E.ix 100000 (xs (j + 1)) (xs (j + 2)) hx) e1 cl_law_65 (by decide) rfl rfl (Nat.le_of_ble_eq_true rfl) dl_571 ?_
  refine t_aload E dl_574 1 rfl ?_
  refine t_arg (k := 1) hL E rfl (by omega) dl_575 dl_576 dl_577 dl_578 dl_579 ?_
  refine t_arg (k := 2) hL E rfl (by omega) dl_580 dl_581 dl_582 dl_583 dl_584 ?_
  refine t_callM (As := [.int (xs (j + 1)), .int (xs (j + 2))]) (st := [.int r]) E (ok_X11_steps E.gm E.im 100000 (xs (j + 1)) (xs (j + 2)) hm) e2 cl_law_68 (by decide) rfl rfl (Nat.le_of_ble_eq_true rfl) dl_585 ?_
  exact t_eq E dl_588 rfl (kk _ _ q1)
theorem t_case_13 (hL : L ≤ 3072) (E : TE l gX gM X b L xs) {j : Nat} (hj : j + 5 < L) (q : RR hx hm) (kk : ∀ hx' hm', RR hx' hm' → TT l gX gM X b 991 (LVw gX gM b j) [] hx' hm') : TT l gX gM X b 593 (LVw gX gM b j) [] hx hm := by
  obtain ⟨r, hx1, hm1, e1, e2, q1⟩ := bb_bridges (N := 100000) (Nat.le_refl _) q (xs (j + 1))
  refine t_aload E dl_593 2 rfl ?_
  refine t_arg (k := 1) hL E rfl (by omega) dl_594 dl_595 dl_596 dl_597 dl_598 ?_
  refine t_callX (As := [.int (xs (j + 1))]) (st := []) E (ok_X10_bridges E.gx E.ix 100000 (xs (j + 1)) hx) e1 cl_law_69 (by decide) rfl rfl (Nat.le_of_ble_eq_true rfl) dl_599 ?_
  refine t_aload E dl_602 1 rfl ?_
  refine t_arg (k := 1) hL E rfl (by omega) dl_603 dl_604 dl_605 dl_606 dl_607 ?_
  refine t_callM (As := [.int (xs (j + 1))]) (st := [.int r]) E (ok_X11_bridges E.gm E.im 100000 (xs (j + 1)) hm) e2 cl_law_72 (by decide) rfl rfl (Nat.le_of_ble_eq_true rfl) dl_608 ?_
  exact t_eq E dl_611 rfl (kk _ _ q1)
theorem t_case_14 (hL : L ≤ 3072) (E : TE l gX gM X b L xs) {j : Nat} (hj : j + 5 < L) (q : RR hx hm) (kk : ∀ hx' hm', RR hx' hm' → TT l gX gM X b 991 (LVw gX gM b j) [] hx' hm') : TT l gX gM X b 616 (LVw gX gM b j) [] hx hm := by
  obtain ⟨r, hx1, hm1, e1, e2, q1⟩ := bb_brigades (N := 100000) (Nat.le_refl _) q (xs (j + 1)) (xs (j + 2))
  refine t_aload E dl_616 2 rfl ?_
  refine t_arg (k := 1) hL E rfl (by omega) dl_617 dl_618 dl_619 dl_620 dl_621 ?_
  refine t_arg (k := 2) hL E rfl (by omega) dl_622 dl_623 dl_624 dl_625 dl_626 ?_
  refine t_callX (As := [.int (xs (j + 1)), .int (xs (j + 2))]) (st := []) E (ok_X10_brigades E.gx E.ix 100000 (xs (j + 1)) (xs (j + 2)) hx) e1 cl_law_73 (by decide) rfl rfl (Nat.le_of_ble_eq_true rfl) dl_627 ?_
  refine t_aload E dl_630 1 rfl ?_
  refine t_arg (k := 1) hL E rfl (by omega) dl_631 dl_632 dl_633 dl_634 dl_635 ?_
  refine t_arg (k := 2) hL E rfl (by omega) dl_636 dl_637 dl_638 dl_639 dl_640 ?_
  refine t_callM (As := [.int (xs (j + 1)), .int (xs (j + 2))]) (st := [.int r]) E (ok_X11_brigades E.gm E.im 100000 (xs (j + 1)) (xs (j + 2)) hm) e2 cl_law_76 (by decide) rfl rfl (Nat.le_of_ble_eq_true rfl) dl_641 ?_
  exact t_eq E dl_644 rfl (kk _ _ q1)
theorem t_case_15 (hL : L ≤ 3072) (E : TE l gX gM X b L xs) {j : Nat} (hj : j + 5 < L) (q : RR hx hm) (kk : ∀ hx' hm', RR hx' hm' → TT l gX gM X b 991 (LVw gX gM b j) [] hx' hm') : TT l gX gM X b 649 (LVw gX gM b j) [] hx hm := by
  obtain ⟨r, hx1, hm1, e1, e2, q1⟩ := bb_painted (N := 100000) (Nat.le_refl _) q (xs (j + 1))
  refine t_aload E dl_649 2 rfl ?_
  refine t_arg (k := 1) hL E rfl (by omega) dl_650 dl_651 dl_652 dl_653 dl_654 ?_
  refine t_callX (As := [.int (xs (j + 1))]) (st := []) E (ok_X10_painted E.gx E.ix 100000 (xs (j + 1)) hx) e1 cl_law_77 (by decide) rfl rfl (Nat.le_of_ble_eq_true rfl) dl_655 ?_
  refine t_aload E dl_658 1 rfl ?_
  refine t_arg (k := 1) hL E rfl (by omega) dl_659 dl_660 dl_661 dl_662 dl_663 ?_
  refine t_callM (As := [.int (xs (j + 1))]) (st := [.int r]) E (ok_X11_painted E.gm E.im 100000 (xs (j + 1)) hm) e2 cl_law_80 (by decide) rfl rfl (Nat.le_of_ble_eq_true rfl) dl_664 ?_
  exact t_eq E dl_667 rfl (kk _ _ q1)
theorem t_case_16 (hL : L ≤ 3072) (E : TE l gX gM X b L xs) {j : Nat} (hj : j + 5 < L) (q : RR hx hm) (kk : ∀ hx' hm', RR hx' hm' → TT l gX gM X b 991 (LVw gX gM b j) [] hx' hm') : TT l gX gM X b 672 (LVw gX gM b j) [] hx hm := by
  obtain ⟨r, hx1, hm1, e1, e2, q1⟩ := bb_keptOpen (N := 100000) (Nat.le_refl _) q 
  refine t_aload E dl_672 2 rfl ?_
  refine t_callX (As := []) (st := []) E (ok_X10_keptOpen E.gx E.ix 100000  hx) e1 cl_law_81 (by decide) rfl rfl (Nat.le_of_ble_eq_true rfl) dl_673 ?_
  refine t_aload E dl_676 1 rfl ?_
  refine t_callM (As := []) (st := [.int r]) E (ok_X11_keptOpen E.gm E.im 100000  hm) e2 cl_law_85 (by decide) rfl rfl (Nat.le_of_ble_eq_true rfl) dl_677 ?_
  exact t_eq E dl_680 rfl (kk _ _ q1)
theorem t_case_17 (hL : L ≤ 3072) (E : TE l gX gM X b L xs) {j : Nat} (hj : j + 5 < L) (q : RR hx hm) (kk : ∀ hx' hm', RR hx' hm' → TT l gX gM X b 991 (LVw gX gM b j) [] hx' hm') : TT l gX gM X b 685 (LVw gX gM b j) [] hx hm := by
  obtain ⟨r, hx1, hm1, e1, e2, q1⟩ := bb_farthest (N := 100000) (Nat.le_refl _) q (xs (j + 1))
  refine t_aload E dl_685 2 rfl ?_
  refine t_arg (k := 1) hL E rfl (by omega) dl_686 dl_687 dl_688 dl_689 dl_690 ?_
  refine t_callX (As := [.int (xs (j + 1))]) (st := []) E (ok_X10_farthest E.gx E.ix 100000 (xs (j + 1)) hx) e1 cl_law_86 (by decide) rfl rfl (Nat.le_of_ble_eq_true rfl) dl_691 ?_
  refine t_aload E dl_694 1 rfl ?_
  refine t_arg (k := 1) hL E rfl (by omega) dl_695 dl_696 dl_697 dl_698 dl_699 ?_
  refine t_callM (As := [.int (xs (j + 1))]) (st := [.int r]) E (ok_X11_farthest E.gm E.im 100000 (xs (j + 1)) hm) e2 cl_law_89 (by decide) rfl rfl (Nat.le_of_ble_eq_true rfl) dl_700 ?_
  exact t_eq E dl_703 rfl (kk _ _ q1)
theorem t_case_18 (hL : L ≤ 3072) (E : TE l gX gM X b L xs) {j : Nat} (hj : j + 5 < L) (q : RR hx hm) (kk : ∀ hx' hm', RR hx' hm' → TT l gX gM X b 991 (LVw gX gM b j) [] hx' hm') : TT l gX gM X b 708 (LVw gX gM b j) [] hx hm := by
  obtain ⟨r, hx1, hm1, e1, e2, q1⟩ := bb_ring (N := 100000) (Nat.le_refl _) q (xs (j + 1))
  refine t_aload E dl_708 2 rfl ?_
  refine t_arg (k := 1) hL E rfl (by omega) dl_709 dl_710 dl_711 dl_712 dl_713 ?_
  refine t_callX (As := [.int (xs (j + 1))]) (st := []) E (ok_X10_ring E.gx E.ix 100000 (xs (j + 1)) hx) e1 cl_law_90 (by decide) rfl rfl (Nat.le_of_ble_eq_true rfl) dl_714 ?_
  refine t_aload E dl_717 1 rfl ?_
  refine t_arg (k := 1) hL E rfl (by omega) dl_718 dl_719 dl_720 dl_721 dl_722 ?_
  refine t_callM (As := [.int (xs (j + 1))]) (st := [.int r]) E (ok_X11_ring E.gm E.im 100000 (xs (j + 1)) hm) e2 cl_law_93 (by decide) rfl rfl (Nat.le_of_ble_eq_true rfl) dl_723 ?_
  exact t_eq E dl_726 rfl (kk _ _ q1)
theorem t_case_19 (hL : L ≤ 3072) (E : TE l gX gM X b L xs) {j : Nat} (hj : j + 5 < L) (q : RR hx hm) (kk : ∀ hx' hm', RR hx' hm' → TT l gX gM X b 991 (LVw gX gM b j) [] hx' hm') : TT l gX gM X b 731 (LVw gX gM b j) [] hx hm := by
  obtain ⟨r, hx1, hm1, e1, e2, q1⟩ := bb_highest (N := 100000) (Nat.le_refl _) q (xs (j + 1))
  refine t_aload E dl_731 2 rfl ?_
  refine t_arg (k := 1) hL E rfl (by omega) dl_732 dl_733 dl_734 dl_735 dl_736 ?_
  refine t_callX (As := [.int (xs (j + 1))]) (st := []) E (ok_X10_highest E.gx E.ix 100000 (xs (j + 1)) hx) e1 cl_law_94 (by decide) rfl rfl (Nat.le_of_ble_eq_true rfl) dl_737 ?_
  refine t_aload E dl_740 1 rfl ?_
  refine t_arg (k := 1) hL E rfl (by omega) dl_741 dl_742 dl_743 dl_744 dl_745 ?_
  refine t_callM (As := [.int (xs (j + 1))]) (st := [.int r]) E (ok_X11_highest E.gm E.im 100000 (xs (j + 1)) hm) e2 cl_law_97 (by decide) rfl rfl (Nat.le_of_ble_eq_true rfl) dl_746 ?_
  exact t_eq E dl_749 rfl (kk _ _ q1)
theorem t_case_20 (hL : L ≤ 3072) (E : TE l gX gM X b L xs) {j : Nat} (hj : j + 5 < L) (q : RR hx hm) (kk : ∀ hx' hm', RR hx' hm' → TT l gX gM X b 991 (LVw gX gM b j) [] hx' hm') : TT l gX gM X b 754 (LVw gX gM b j) [] hx hm := by
  obtain ⟨r, hx1, hm1, e1, e2, q1⟩ := bb_longest (N := 100000) (Nat.le_refl _) q (xs (j + 1)) (xs (j + 2))
  refine t_aload E dl_754 2 rfl ?_
  refine t_arg (k := 1) hL E rfl (by omega) dl_755 dl_756 dl_757 dl_758 dl_759 ?_
  refine t_arg (k := 2) hL E rfl (by omega) dl_760 dl_761 dl_762 dl_763 dl_764 ?_
  refine t_callX (As := [.int (xs (j + 1)), .int (xs (j + 2))]) (st := []) E (ok_X10_longest E.gx E.ix 100000 (xs (j + 1)) (xs (j + 2)) hx) e1 cl_law_98 (by decide) rfl rfl (Nat.le_of_ble_eq_true rfl) dl_765 ?_
  refine t_aload E dl_768 1 rfl ?_
  refine t_arg (k := 1) hL E rfl (by omega) dl_769 dl_770 dl_771 dl_772 dl_773 ?_
  refine t_arg (k := 2) hL E rfl (by omega) dl_774 dl_775 dl_776 dl_777 dl_778 ?_
  refine t_callM (As := [.int (xs (j + 1)), .int (xs (j + 2))]) (st := [.int r]) E (ok_X11_longest E.gm E.im 100000 (xs (j + 1)) (xs (j + 2)) hm) e2 cl_law_101 (by decide) rfl rfl (Nat.le_of_ble_eq_true rfl) dl_779 ?_
  exact t_eq E dl_782 rfl (kk _ _ q1)
theorem t_case_21 (hL : L ≤ 3072) (E : TE l gX gM X b L xs) {j : Nat} (hj : j + 5 < L) (q : RR hx hm) (kk : ∀ hx' hm', RR hx' hm' → TT l gX gM X b 991 (LVw gX gM b j) [] hx' hm') : TT l gX gM X b 787 (LVw gX gM b j) [] hx hm := by
  obtain ⟨r, hx1, hm1, e1, e2, q1⟩ := bb_byEighths (N := 100000) (Nat.le_refl _) q (xs (j + 1)) (xs (j + 2)) (xs (j + 3))
  refine t_aload E dl_787 2 rfl ?_
  refine t_arg (k := 1) hL E rfl (by omega) dl_788 dl_789 dl_790 dl_791 dl_792 ?_
  refine t_arg (k := 2) hL E rfl (by omega) dl_793 dl_794 dl_795 dl_796 dl_797 ?_
  refine t_arg (k := 3) hL E rfl (by omega) dl_798 dl_799 dl_800 dl_801 dl_802 ?_
  refine t_callX (As := [.int (xs (j + 1)), .int (xs (j + 2)), .int (xs (j + 3))]) (st := []) E (ok_X10_byEighths E.gx E.ix 100000 (xs (j + 1)) (xs (j + 2)) (xs (j + 3)) hx) e1 cl_law_102 (by decide) rfl rfl (Nat.le_of_ble_eq_true rfl) dl_803 ?_
  refine t_aload E dl_806 1 rfl ?_
  refine t_arg (k := 1) hL E rfl (by omega) dl_807 dl_808 dl_809 dl_810 dl_811 ?_
  refine t_arg (k := 2) hL E rfl (by omega) dl_812 dl_813 dl_814 dl_815 dl_816 ?_
  refine t_arg (k := 3) hL E rfl (by omega) dl_817 dl_818 dl_819 dl_820 dl_821 ?_
  refine t_callM (As := [.int (xs (j + 1)), .int (xs (j + 2)), .int (xs (j + 3))]) (st := [.int r]) E (ok_X11_byEighths E.gm E.im 100000 (xs (j + 1)) (xs (j + 2)) (xs (j + 3)) hm) e2 cl_law_105 (by decide) rfl rfl (Nat.le_of_ble_eq_true rfl) dl_822 ?_
  exact t_eq E dl_825 rfl (kk _ _ q1)
theorem t_case_22 (hL : L ≤ 3072) (E : TE l gX gM X b L xs) {j : Nat} (hj : j + 5 < L) (q : RR hx hm) (kk : ∀ hx' hm', RR hx' hm' → TT l gX gM X b 991 (LVw gX gM b j) [] hx' hm') : TT l gX gM X b 830 (LVw gX gM b j) [] hx hm := by
  obtain ⟨r, hx1, hm1, e1, e2, q1⟩ := bb_readings (N := 100000) (Nat.le_refl _) q (xs (j + 1))
  refine t_aload E dl_830 2 rfl ?_
  refine t_arg (k := 1) hL E rfl (by omega) dl_831 dl_832 dl_833 dl_834 dl_835 ?_
  refine t_callX (As := [.int (xs (j + 1))]) (st := []) E (ok_X10_readings E.gx E.ix 100000 (xs (j + 1)) hx) e1 cl_law_106 (by decide) rfl rfl (Nat.le_of_ble_eq_true rfl) dl_836 ?_
  refine t_aload E dl_839 1 rfl ?_
  refine t_arg (k := 1) hL E rfl (by omega) dl_840 dl_841 dl_842 dl_843 dl_844 ?_
  refine t_callM (As := [.int (xs (j + 1))]) (st := [.int r]) E (ok_X11_readings E.gm E.im 100000 (xs (j + 1)) hm) e2 cl_law_109 (by decide) rfl rfl (Nat.le_of_ble_eq_true rfl) dl_845 ?_
  exact t_eq E dl_848 rfl (kk _ _ q1)
theorem t_case_23 (hL : L ≤ 3072) (E : TE l gX gM X b L xs) {j : Nat} (hj : j + 5 < L) (q : RR hx hm) (kk : ∀ hx' hm', RR hx' hm' → TT l gX gM X b 991 (LVw gX gM b j) [] hx' hm') : TT l gX gM X b 853 (LVw gX gM b j) [] hx hm := by
  obtain ⟨r, hx1, hm1, e1, e2, q1⟩ := bb_hose (N := 100000) (Nat.le_refl _) q (xs (j + 1)) (xs (j + 2)) (xs (j + 3))
  refine t_aload E dl_853 2 rfl ?_
  refine t_arg (k := 1) hL E rfl (by omega) dl_854 dl_855 dl_856 dl_857 dl_858 ?_
  refine t_arg (k := 2) hL E rfl (by omega) dl_859 dl_860 dl_861 dl_862 dl_863 ?_
  refine t_arg (k := 3) hL E rfl (by omega) dl_864 dl_865 dl_866 dl_867 dl_868 ?_
  refine t_callX (As := [.int (xs (j + 1)), .int (xs (j + 2)), .int (xs (j + 3))]) (st := []) E (ok_X10_hose E.gx E.ix 100000 (xs (j + 1)) (xs (j + 2)) (xs (j + 3)) hx) e1 cl_law_110 (by decide) rfl rfl (Nat.le_of_ble_eq_true rfl) dl_869 ?_
  refine t_aload E dl_872 1 rfl ?_
  refine t_arg (k := 1) hL E rfl (by omega) dl_873 dl_874 dl_875 dl_876 dl_877 ?_
  refine t_arg (k := 2) hL E rfl (by omega) dl_878 dl_879 dl_880 dl_881 dl_882 ?_
  refine t_arg (k := 3) hL E rfl (by omega) dl_883 dl_884 dl_885 dl_886 dl_887 ?_
  refine t_callM (As := [.int (xs (j + 1)), .int (xs (j + 2)), .int (xs (j + 3))]) (st := [.int r]) E (ok_X11_hose E.gm E.im 100000 (xs (j + 1)) (xs (j + 2)) (xs (j + 3)) hm) e2 cl_law_113 (by decide) rfl rfl (Nat.le_of_ble_eq_true rfl) dl_888 ?_
  exact t_eq E dl_891 rfl (kk _ _ q1)
theorem t_case_24 (hL : L ≤ 3072) (E : TE l gX gM X b L xs) {j : Nat} (hj : j + 5 < L) (q : RR hx hm) (kk : ∀ hx' hm', RR hx' hm' → TT l gX gM X b 991 (LVw gX gM b j) [] hx' hm') : TT l gX gM X b 896 (LVw gX gM b j) [] hx hm := by
  obtain ⟨r, hx1, hm1, e1, e2, q1⟩ := bb_seed q (xs (j + 1))
  refine t_aload E dl_896 2 rfl ?_
  refine t_arg (k := 1) hL E rfl (by omega) dl_897 dl_898 dl_899 dl_900 dl_901 ?_
  refine t_callX (As := [.int (xs (j + 1))]) (st := []) E (ok_X10_seed E.gx E.ix (xs (j + 1)) hx) e1 cl_law_114 (by decide) rfl rfl (Nat.le_of_ble_eq_true rfl) dl_902 ?_
  refine t_aload E dl_905 1 rfl ?_
  refine t_arg (k := 1) hL E rfl (by omega) dl_906 dl_907 dl_908 dl_909 dl_910 ?_
  refine t_callM (As := [.int (xs (j + 1))]) (st := [.int r]) E (ok_X11_seed E.gm E.im (xs (j + 1)) hm) e2 cl_law_118 (by decide) rfl rfl (Nat.le_of_ble_eq_true rfl) dl_911 ?_
  exact t_eq E dl_914 rfl (kk _ _ q1)
theorem t_case_25 (hL : L ≤ 3072) (E : TE l gX gM X b L xs) {j : Nat} (hj : j + 5 < L) (q : RR hx hm) (kk : ∀ hx' hm', RR hx' hm' → TT l gX gM X b 991 (LVw gX gM b j) [] hx' hm') : TT l gX gM X b 919 (LVw gX gM b j) [] hx hm := by
  obtain ⟨r, hx1, hm1, e1, e2, q1⟩ := bb_keep (N := 100000) (Nat.le_refl _) q 
  refine t_aload E dl_919 2 rfl ?_
  refine t_callX (As := []) (st := []) E (ok_X10_keep E.gx E.ix  hx) e1 cl_law_119 (by decide) rfl rfl (Nat.le_of_ble_eq_true rfl) dl_920 ?_
  refine t_aload E dl_923 1 rfl ?_
  refine t_callM (As := []) (st := [.int r]) E (ok_X11_keep E.gm E.im 100000  hm) e2 cl_law_122 (by decide) rfl rfl (Nat.le_of_ble_eq_true rfl) dl_924 ?_
  exact t_eq E dl_927 rfl (kk _ _ q1)
theorem t_case_26 (hL : L ≤ 3072) (E : TE l gX gM X b L xs) {j : Nat} (hj : j + 5 < L) (q : RR hx hm) (kk : ∀ hx' hm', RR hx' hm' → TT l gX gM X b 991 (LVw gX gM b j) [] hx' hm') : TT l gX gM X b 932 (LVw gX gM b j) [] hx hm := by
  obtain ⟨r, hx1, hm1, e1, e2, q1⟩ := bb_undo (N := 100000) (Nat.le_refl _) q 
  refine t_aload E dl_932 2 rfl ?_
  refine t_callX (As := []) (st := []) E (ok_X10_undo E.gx E.ix 100000  hx) e1 cl_law_123 (by decide) rfl rfl (Nat.le_of_ble_eq_true rfl) dl_933 ?_
  refine t_aload E dl_936 1 rfl ?_
  refine t_callM (As := []) (st := [.int r]) E (ok_X11_undo E.gm E.im 100000  hm) e2 cl_law_127 (by decide) rfl rfl (Nat.le_of_ble_eq_true rfl) dl_937 ?_
  exact t_eq E dl_940 rfl (kk _ _ q1)
theorem t_case_27 (hL : L ≤ 3072) (E : TE l gX gM X b L xs) {j : Nat} (hj : j + 5 < L) (q : RR hx hm) (kk : ∀ hx' hm', RR hx' hm' → TT l gX gM X b 991 (LVw gX gM b j) [] hx' hm') : TT l gX gM X b 945 (LVw gX gM b j) [] hx hm := by
  obtain ⟨r, hx1, hm1, e1, e2, q1⟩ := bb_check (N := 100000) (Nat.le_refl _) q (xs (j + 1))
  refine t_aload E dl_945 2 rfl ?_
  refine t_arg (k := 1) hL E rfl (by omega) dl_946 dl_947 dl_948 dl_949 dl_950 ?_
  refine t_callX (As := [.int (xs (j + 1))]) (st := []) E (ok_X10_check E.gx E.ix 100000 (xs (j + 1)) hx) e1 cl_law_128 (by decide) rfl rfl (Nat.le_of_ble_eq_true rfl) dl_951 ?_
  refine t_aload E dl_954 1 rfl ?_
  refine t_arg (k := 1) hL E rfl (by omega) dl_955 dl_956 dl_957 dl_958 dl_959 ?_
  refine t_callM (As := [.int (xs (j + 1))]) (st := [.int r]) E (ok_X11_check E.gm E.im 100000 (xs (j + 1)) hm) e2 cl_law_131 (by decide) rfl rfl (Nat.le_of_ble_eq_true rfl) dl_960 ?_
  exact t_eq E dl_963 rfl (kk _ _ q1)
theorem t_case_28 (hL : L ≤ 3072) (E : TE l gX gM X b L xs) {j : Nat} (hj : j + 5 < L) (q : RR hx hm) (kk : ∀ hx' hm', RR hx' hm' → TT l gX gM X b 991 (LVw gX gM b j) [] hx' hm') : TT l gX gM X b 968 (LVw gX gM b j) [] hx hm := by
  obtain ⟨r, hx1, hm1, e1, e2, q1⟩ := bb_count (N := 100000) (Nat.le_refl _) q (xs (j + 1))
  refine t_aload E dl_968 2 rfl ?_
  refine t_arg (k := 1) hL E rfl (by omega) dl_969 dl_970 dl_971 dl_972 dl_973 ?_
  refine t_callX (As := [.int (xs (j + 1))]) (st := []) E (ok_X10_count E.gx E.ix 100000 (xs (j + 1)) hx) e1 cl_law_132 (by decide) rfl rfl (Nat.le_of_ble_eq_true rfl) dl_974 ?_
  refine t_aload E dl_977 1 rfl ?_
  refine t_arg (k := 1) hL E rfl (by omega) dl_978 dl_979 dl_980 dl_981 dl_982 ?_
  refine t_callM (As := [.int (xs (j + 1))]) (st := [.int r]) E (ok_X11_count E.gm E.im 100000 (xs (j + 1)) hm) e2 cl_law_135 (by decide) rfl rfl (Nat.le_of_ble_eq_true rfl) dl_983 ?_
  exact t_eq E dl_986 rfl (kk _ _ q1)
theorem t_switch (hL : L ≤ 3072) (E : TE l gX gM X b L xs) {j t : Nat} (ht : t < 32) (hj : j + 5 < L) (q : RR hx hm) (kk : ∀ hx' hm', RR hx' hm' → TT l gX gM X b 991 (LVw gX gM b j) [] hx' hm') : TT l gX gM X b 33 (LVw gX gM b j) [.int (nI t)] hx hm := by
  have hc : t = 0 ∨ t = 1 ∨ t = 2 ∨ t = 3 ∨ t = 4 ∨ t = 5 ∨ t = 6 ∨ t = 7 ∨ t = 8 ∨ t = 9 ∨ t = 10 ∨ t = 11 ∨ t = 12 ∨ t = 13 ∨ t = 14 ∨ t = 15 ∨ t = 16 ∨ t = 17 ∨ t = 18 ∨ t = 19 ∨ t = 20 ∨ t = 21 ∨ t = 22 ∨ t = 23 ∨ t = 24 ∨ t = 25 ∨ t = 26 ∨ t = 27 ∨ t = 28 ∨ 29 ≤ t := by omega
  rcases hc with rfl | rfl | rfl | rfl | rfl | rfl | rfl | rfl | rfl | rfl | rfl | rfl | rfl | rfl | rfl | rfl | rfl | rfl | rfl | rfl | rfl | rfl | rfl | rfl | rfl | rfl | rfl | rfl | rfl | hc
  · exact t_swI E dl_33 (by decide) (by decide) rfl rfl (t_case_0 hL E hj q kk)
  · exact t_swI E dl_33 (by decide) (by decide) rfl rfl (t_case_1 hL E hj q kk)
  · exact t_swI E dl_33 (by decide) (by decide) rfl rfl (t_case_2 hL E hj q kk)
  · exact t_swI E dl_33 (by decide) (by decide) rfl rfl (t_case_3 hL E hj q kk)
  · exact t_swI E dl_33 (by decide) (by decide) rfl rfl (t_case_4 hL E hj q kk)
  · exact t_swI E dl_33 (by decide) (by decide) rfl rfl (t_case_5 hL E hj q kk)
  · exact t_swI E dl_33 (by decide) (by decide) rfl rfl (t_case_6 hL E hj q kk)
  · exact t_swI E dl_33 (by decide) (by decide) rfl rfl (t_case_7 hL E hj q kk)
  · exact t_swI E dl_33 (by decide) (by decide) rfl rfl (t_case_8 hL E hj q kk)
  · exact t_swI E dl_33 (by decide) (by decide) rfl rfl (t_case_9 hL E hj q kk)
  · exact t_swI E dl_33 (by decide) (by decide) rfl rfl (t_case_10 hL E hj q kk)
  · exact t_swI E dl_33 (by decide) (by decide) rfl rfl (t_case_11 hL E hj q kk)
  · exact t_swI E dl_33 (by decide) (by decide) rfl rfl (t_case_12 hL E hj q kk)
  · exact t_swI E dl_33 (by decide) (by decide) rfl rfl (t_case_13 hL E hj q kk)
  · exact t_swI E dl_33 (by decide) (by decide) rfl rfl (t_case_14 hL E hj q kk)
  · exact t_swI E dl_33 (by decide) (by decide) rfl rfl (t_case_15 hL E hj q kk)
  · exact t_swI E dl_33 (by decide) (by decide) rfl rfl (t_case_16 hL E hj q kk)
  · exact t_swI E dl_33 (by decide) (by decide) rfl rfl (t_case_17 hL E hj q kk)
  · exact t_swI E dl_33 (by decide) (by decide) rfl rfl (t_case_18 hL E hj q kk)
  · exact t_swI E dl_33 (by decide) (by decide) rfl rfl (t_case_19 hL E hj q kk)
  · exact t_swI E dl_33 (by decide) (by decide) rfl rfl (t_case_20 hL E hj q kk)
  · exact t_swI E dl_33 (by decide) (by decide) rfl rfl (t_case_21 hL E hj q kk)
  · exact t_swI E dl_33 (by decide) (by decide) rfl rfl (t_case_22 hL E hj q kk)
  · exact t_swI E dl_33 (by decide) (by decide) rfl rfl (t_case_23 hL E hj q kk)
  · exact t_swI E dl_33 (by decide) (by decide) rfl rfl (t_case_24 hL E hj q kk)
  · exact t_swI E dl_33 (by decide) (by decide) rfl rfl (t_case_25 hL E hj q kk)
  · exact t_swI E dl_33 (by decide) (by decide) rfl rfl (t_case_26 hL E hj q kk)
  · exact t_swI E dl_33 (by decide) (by decide) rfl rfl (t_case_27 hL E hj q kk)
  · exact t_swI E dl_33 (by decide) (by decide) rfl rfl (t_case_28 hL E hj q kk)
  · exact t_swO E dl_33 (Or.inr (by rw [nI_toInt (by omega)]; omega)) rfl (kk hx hm q)
theorem and31 (x : Int32) : ∃ t, t < 32 ∧ x &&& 31 = nI t := by
  refine ⟨(x &&& 31).toBitVec.toNat, ?_, ?_⟩
  · have e : (x &&& 31).toBitVec = x.toBitVec &&& 31#32 := by rw [Int32.toBitVec_and]; rfl
    rw [e, BitVec.toNat_and]
    exact Nat.lt_of_le_of_lt Nat.and_le_right (by decide)
  · apply I_bv
    rw [bv_n]
    apply BitVec.eq_of_toNat_eq
    simp
theorem sub6 : ∀ L, L < 6 → ∀ j, j < 6 → nI L - 6 < nI j := by decide +kernel
theorem t_loop (hL : L ≤ 3072) (E : TE l gX gM X b L xs) : ∀ n j hx hm, RR hx hm → j ≤ L → L - j < n → TT l gX gM X b 18 (LVw gX gM b j) [] hx hm := by
  intro n
  induction n with
  | zero => intro j hx hm _ _ q; omega
  | succ n ih =>
    intro j hx hm q hj hq H locs ls h1 h2 hS hl
    have hbl := E.2.2.2.2.2.2.2.1
    refine lv_iload_n E.1 E.2.1 dl_18 rfl (lv_at hl 0 rfl) ?_
    refine lv_aload_n E.1 E.2.1 dl_19 rfl (lv_at hl 3 rfl) ?_
    refine va_slen (A := fA X.2.2.1) E.1 E.2.1 E.2.2.2.2.2.2.1 hbl (Nat.not_le.mpr hbl) hS dl_20 ?_
    refine lv_bipush (v := 6) E.1 E.2.1 dl_21 (by decide) ?_
    refine lv_isub E.1 E.2.1 dl_23 ?_
    refine lv_icmp_gt E.1 E.2.1 (tgt := 997) dl_24 rfl (fun hc => ?_) (fun hc => ?_)
    · refine lv_iconst (v := 1) E.1 E.2.1 dl_997 (by decide) ?_
      exact va_forget (fun q hq => hS.2.2 q hq) (lw_ret E.1 E.2.1 E.2.2.1 E.2.2.2.2.2.2.2.2.1 dl_998)
    · have h6 : j + 6 ≤ L := by
        rw [nI_ofNat] at hc
        by_cases z : L < 6
        · exact absurd (sub6 L z j (by omega)) hc
        · rw [l6, sub_nn (by omega), lt_nn (by omega) (by omega)] at hc
          omega
      refine lv_aload_n E.1 E.2.1 dl_27 rfl (lv_at hl 3 rfl) ?_
      refine lv_iload_n E.1 E.2.1 dl_28 rfl (lv_at hl 0 rfl) ?_
      refine va_sld (A := fA X.2.2.1) E.1 E.2.1 E.2.2.2.2.2.2.1 hbl (Nat.not_le.mpr hbl) hS (i := nI j) (nI_big (show j < L by omega) (by omega)) dl_29 ?_
      refine lv_bipush (v := 31) E.1 E.2.1 dl_30 (by decide) ?_
      refine lv_iand E.1 E.2.1 dl_32 ?_
      obtain ⟨t, ht, e⟩ := and31 (xs (nI j).toNatClampNeg)
      rw [e]
      refine t_switch hL E ht (by omega) q (fun hx' hm' q' => ?_) H locs ls h1 h2 hS hl
      intro H' locs' ls' g1 g2 gS gl
      refine lv_iinc E.1 E.2.1 dl_991 gl (k := 0) rfl (v := nI (j + 6)) (by rw [show Int32.ofInt 6 = nI 6 from rfl, add_nn]) (by decide) (lv' := LVw gX gM b (j + 6)) rfl (fun ls2 gl2 => ?_)
      exact lv_goto E.1 E.2.1 dl_994 rfl (ih (j + 6) hx' hm' q' (by omega) (by omega) H' locs' ls2 g1 g2 gS gl2)
end TELAW
