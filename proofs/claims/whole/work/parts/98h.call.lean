/-! ===== constructors: a call, and the contract out of the body ===== -/
section CALLC
variable {g : GC} {p : Program} {e : Env} {R : Room} {s : State} {m : MethodId} {args : Array Value} {below : List Frame} {meth : Method} {c : Code} {H : Heap} {locs : List Loc} {cells slots : Nat} {Q : State → Prop}
variable {cc : ByteArray} {pc nL : Nat} {ls : Array Slot} {rest As : List Value} {b n idx : Nat} {pre es1 : List va_E} {o : va_E} {H0 : Heap} {own : String} {y : MethodName} {M1 : CM}
theorem c_blind {as : List Value} {es : List va_E} : FrameBlind (va_Pc as (fun U => PB g b es U.heap ∧ gK0 g U)) := fun _ _ _ _ q => ⟨q.1, q.2.1, q.2.2.calling⟩
theorem pb_call (S : CallFix p m c cc nL s args TBL own) (hM : CO g y M1 (.ref (b + pre.length) :: As) (b + pre.length) [o] es1) (hK : gK0 g s) (hl : Cond.methodLink own idx y ∈ TBL) (hcode : Cond.code y M1.1 M1.2.1 none ∈ TBL) (hini : Cond.initialized y.cls ∈ TBL) (hy : y.cls ≠ "java/lang/invoke/MethodHandle" ∧ y.cls ≠ "java/lang/invoke/VarHandle" ∧ (parseMethodDescriptor y.desc).map (fun d => d.parameters.length) = some n) (hin : Cond.instanceMethod y ∈ TBL) (hnm : y.name = "<init>") (hR : M1.2.2.2.1 + 1 ≤ R.frames ∧ 8 + (M1.2.1 + 11) + M1.2.2.2.2.1 ≤ R.locals) (hP : PB g b (pre ++ [o]) H) (hS : va_S (fun q => b ≤ q) H0 H locs) (hn : As.length = n) (hls : ls.size = nL) (hst : (rest.map fun v => v.category).sum ≤ 8) (hd : decode cc pc = .ok (.invokespecial idx, 3)) (hf : cells + M1.2.2.2.2.2.1 ≤ R.cells ∧ slots + M1.2.2.2.2.2.2 ≤ R.slots)
    (kk : ∀ (H1 : Heap) (locs1 : List Loc), PB g b (pre ++ es1) H1 → va_S (fun q => b ≤ q) H0 H1 locs1 → W p g.1 e R s m args below meth c H1 locs1 (cells + M1.2.2.2.2.2.1) (slots + M1.2.2.2.2.2.2) Q (F0 m (pc + 3) ls rest)) : W p g.1 e R s m args below meth c H locs cells slots Q (F0 m pc ls (As.reverse ++ .ref (b + pre.length) :: rest)) := by
  refine va_callv (va_runI (As := As) (rest := rest) S hM ⟨callB_of n S.2.2.2.2 (tb_good hcode) rfl rfl rfl (S.2.2.2.2 _ hini) (S.2.2.2.2 _ hl) hy hR, hnm, S.2.2.2.2 _ hin⟩ ⟨c_blind, fun U hU hW => ⟨rfl, by rw [hU]; exact hP.end_, hK.warm hW⟩⟩ rfl hn hls rfl (lv_room hst) hd hf) hS (fun q _ h => Nat.le_trans (Nat.le_add_right b pre.length) h) (fun q h => Nat.le_trans (Nat.le_add_right b pre.length) h) (fun u t H1 locs1 ht hvm hw hB hz hk hS1 => ?_)
  rw [ht] at hB
  exact kk H1 locs1 (hP.join hk hB) hS1
theorem pb_callN (S : CallFix p m c cc nL s args TBL own) (hM : CO g y M1 (.ref (b + pre.length) :: As) (b + pre.length) [o] es1) (hK : gK0 g s) (hl : (own, idx, y) ∈ lw_nest) (hcode : Cond.code y M1.1 M1.2.1 none ∈ TBL) (hini : Cond.initialized y.cls ∈ TBL) (hy : y.cls ≠ "java/lang/invoke/MethodHandle" ∧ y.cls ≠ "java/lang/invoke/VarHandle" ∧ (parseMethodDescriptor y.desc).map (fun d => d.parameters.length) = some n) (hin : Cond.instanceMethod y ∈ TBL) (hnm : y.name = "<init>") (hR : M1.2.2.2.1 + 1 ≤ R.frames ∧ 8 + (M1.2.1 + 11) + M1.2.2.2.2.1 ≤ R.locals) (hP : PB g b (pre ++ [o]) H) (hS : va_S (fun q => b ≤ q) H0 H locs) (hn : As.length = n) (hls : ls.size = nL) (hst : (rest.map fun v => v.category).sum ≤ 8) (hd : decode cc pc = .ok (.invokespecial idx, 3)) (hf : cells + M1.2.2.2.2.2.1 ≤ R.cells ∧ slots + M1.2.2.2.2.2.2 ≤ R.slots)
    (kk : ∀ (H1 : Heap) (locs1 : List Loc), PB g b (pre ++ es1) H1 → va_S (fun q => b ≤ q) H0 H1 locs1 → W p g.1 e R s m args below meth c H1 locs1 (cells + M1.2.2.2.2.2.1) (slots + M1.2.2.2.2.2.2) Q (F0 m (pc + 3) ls rest)) : W p g.1 e R s m args below meth c H locs cells slots Q (F0 m pc ls (As.reverse ++ .ref (b + pre.length) :: rest)) := by
  refine va_callv (va_runIN (host := "SorrowPipes") (As := As) (rest := rest) S hM ⟨va_cnB n S.2.2.2.2 (tb_good hcode) rfl rfl rfl (hK.2 _ hl) (S.2.2.2.2 _ hini) hy hR, hnm, S.2.2.2.2 _ hin⟩ ⟨c_blind, fun U hU hW => ⟨rfl, by rw [hU]; exact hP.end_, hK.warm hW⟩⟩ rfl hn hls rfl (lv_room hst) hd hf) hS (fun q _ h => Nat.le_trans (Nat.le_add_right b pre.length) h) (fun q h => Nat.le_trans (Nat.le_add_right b pre.length) h) (fun u t H1 locs1 ht hvm hw hB hz hk hS1 => ?_)
  rw [ht] at hB
  exact kk H1 locs1 (hP.join hk hB) hS1
end CALLC
/-- what a constructor's walk stands on -/
def CEn (g : GC) (M : CM) (X : MX) : Prop := X.1.tables.exec = Jvm.exec ∧ X.2.2.2.2.2.2.2.code = M.1 ∧ X.2.2.2.2.2.2.1.sig.returnType = none ∧ X.2.2.2.2.2.2.2.maxLocals = M.2.1 ∧ X.2.2.1.vm.findClass M.2.2.1 = some X.2.2.2.1.cls ∧ (∀ w ∈ TBL, w.before X.2.2.2.2.1 X.2.2.1 = true) ∧ gK0 g X.2.2.1 ∧ X.2.2.2.2.2.2.1.name = "<init>" ∧ X.2.2.2.2.2.2.1.locks = false
def CJ (g : GC) (M : CM) (X : MX) (b : Nat) (es2 : List va_E) (pc : Nat) (lv : List (Nat × Value)) (st : List Value) (es : List va_E) (cells slots : Nat) : Prop := ∀ (H : Heap) (locs : List Loc) (ls : Array Slot), PB g b es H → va_S (fun q => b ≤ q) X.2.2.1.heap H locs → lv_has ls M.2.1 lv →
  W X.1 g.1 X.2.1 (cRm M) X.2.2.1 X.2.2.2.1 X.2.2.2.2.1 X.2.2.2.2.2.1 X.2.2.2.2.2.2.1 X.2.2.2.2.2.2.2 H locs cells slots (MQ X.2.2.2.2.2.1 (va_Qv (fun _ : Unit => True) (fun _ t => PB g b es2 t.heap) (fun q => b ≤ q)) X.2.2.2.2.1 X.2.2.1 M.2.2.2.2.2.1 M.2.2.2.2.2.2 (fun q => b ≤ q)) (F0 X.2.2.2.1 pc ls st)
theorem CO.of {g : GC} {y : MethodName} {M : CM} {as : List Value} {b : Nat} {es es2 : List va_E} (hy : plainName y.cls = true) (hnm : y.name = "<init>") (hown : M.2.2.1 = y.cls) (hn : (lg_sl as).length ≤ M.2.1)
    (body : ∀ X, CEn g M X → CJ g M X b es2 0 (lv_args 0 as) [] es 0 0) : CO g y M as b es es2 := by
  refine Met.ofW (cc := M.1) (maxL := M.2.1) (ret := none) hy rfl ?_
  intro p e2 s m args below meth c s₁ B hml hv
  obtain ⟨rfl, hR, hK⟩ := hv
  have hts := atoms_spec (ws := Cond.code y M.1 M.2.1 none :: TBL) B.pre
  have hfc : s.vm.findClass y.cls = some m.cls := findClass_of_methodNamed B.named
  have hin : meth.name = y.name := (name_of_methodNamed B.named B.method).1
  have E : CEn g M (p, e2, s, m, as.toArray, below, meth, c) := ⟨B.exec, B.bytes, B.returns, hml, by rw [hown]; exact hfc, fun w hw => hts w (List.mem_cons_of_mem _ hw), hK, by rw [hin]; exact hnm, B.notSynchronized⟩
  rw [lg_entry_eq]
  exact body _ E s.heap [] _ hR va_S.rf (lv_entry as hn)
section CJS
variable {g : GC} {M : CM} {X : MX} {b pc cells slots : Nat} {es es2 : List va_E} {lv : List (Nat × Value)} {st : List Value}
theorem c_aload (E : CEn g M X) {k : Fin 4} {x : Nat} (hd : decode M.1 pc = .ok (.aload_n k, 1)) (q : Nat) (hl : lv[q]? = some (k.val, .ref x)) (kk : CJ g M X b es2 (pc + 1) lv (.ref x :: st) es cells slots) : CJ g M X b es2 pc lv st es cells slots := by
  intro H locs ls hP hS hl0
  exact lv_aload_n E.1 E.2.1 hd rfl (lv_at hl0 q hl) (kk H locs ls hP hS hl0)
theorem c_obj (E : CEn g M X) {idx x : Nat} (a1 : Cond.methodLink M.2.2.1 idx objectInit ∈ TBL) (a2 : Cond.instanceMethod objectInit ∈ TBL) (a3 : Cond.code objectInit ⟨#[0xb1]⟩ 1 none ∈ TBL) (hd : decode M.1 pc = .ok (.invokespecial idx, 3)) (hf : 1 ≤ M.2.2.2.1) (hlo : 12 ≤ M.2.2.2.2.1) (kk : CJ g M X b es2 (pc + 3) lv [] es cells slots) : CJ g M X b es2 pc lv [.ref x] es cells slots := by
  intro H locs ls hP hS hl0
  refine W.objInit E.1 E.2.1 E.2.2.2.2.1 (E.2.2.2.2.2.1 _ a1) (E.2.2.2.2.2.1 _ a2) (E.2.2.2.2.2.1 _ a3) rfl (by rw [E.2.2.2.1]; exact hl0.1) rfl hd hf hlo ?_
  exact kk H locs ls hP hS hl0
theorem c_push (E : CEn g M X) {v : Int32} {n : Int} (hd : decode M.1 pc = .ok (.bipush n, 2)) (hv : (Int8.ofInt n).toInt32 = v) (kk : CJ g M X b es2 (pc + 2) lv (.int v :: st) es cells slots) : CJ g M X b es2 pc lv st es cells slots := by
  intro H locs ls hP hS hl0
  exact lv_bipush E.1 E.2.1 hd hv (kk H locs ls hP hS hl0)
theorem c_spush (E : CEn g M X) {v : Int32} {n : Int} (hd : decode M.1 pc = .ok (.sipush n, 3)) (hv : (Int16.ofInt n).toInt32 = v) (kk : CJ g M X b es2 (pc + 3) lv (.int v :: st) es cells slots) : CJ g M X b es2 pc lv st es cells slots := by
  intro H locs ls hP hS hl0
  exact lv_sipush E.1 E.2.1 hd hv (kk H locs ls hP hS hl0)
theorem c_const (E : CEn g M X) {v : Int32} {n : Int} (hd : decode M.1 pc = .ok (.iconst n, 1)) (hv : Int32.ofInt n = v) (kk : CJ g M X b es2 (pc + 1) lv (.int v :: st) es cells slots) : CJ g M X b es2 pc lv st es cells slots := by
  intro H locs ls hP hS hl0
  exact lv_iconst E.1 E.2.1 hd hv (kk H locs ls hP hS hl0)
theorem c_ldc (E : CEn g M X) {i : Nat} {v : Int32} (hc : Cond.constant M.2.2.1 i v ∈ TBL) (hd : decode M.1 pc = .ok (.ldc i, 2)) (kk : CJ g M X b es2 (pc + 2) lv (.int v :: st) es cells slots) : CJ g M X b es2 pc lv st es cells slots := by
  intro H locs ls hP hS hl0
  exact lv_ldc E.1 E.2.1 E.2.2.2.2.1 (E.2.2.2.2.2.1 _ hc) hd (kk H locs ls hP hS hl0)
theorem c_dup (E : CEn g M X) {x : Nat} (hd : decode M.1 pc = .ok (.dup, 1)) (kk : CJ g M X b es2 (pc + 1) lv (.ref x :: .ref x :: st) es cells slots) : CJ g M X b es2 pc lv (.ref x :: st) es cells slots := by
  intro H locs ls hP hS hl0
  exact lv_dup E.1 E.2.1 hd rfl (kk H locs ls hP hS hl0)
theorem c_newI (E : CEn g M X) (harr : Cond.arrayClass (newarray.typeOf .int) ∈ TBL) {n : Int32} (N : Nat) (hn : ¬ n < 0) (hN : n.toNatClampNeg = N) (hby : N * componentBytes (newarray.typeOf .int) ≤ 536870912) (h1 : cells + 1 ≤ M.2.2.2.2.2.1) (h2 : slots + N ≤ M.2.2.2.2.2.2) (hd : decode M.1 pc = .ok (.newarray .int, 2)) (kk : CJ g M X b es2 (pc + 2) lv (.ref (b + es.length) :: st) (es ++ [.inl (g.2.2.2.1.1, N, .inl (fun _ => 0))]) (cells + 1) (slots + N)) : CJ g M X b es2 pc lv (.int n :: st) es cells slots := by
  intro H locs ls hP hS hl0
  exact pb_newa (cI := g.2.2.2.1.1) (a0 := (N, .inl (fun _ => 0))) E.1 E.2.1 E.2.2.2.2.2.1 harr (E.2.2.2.2.2.2.1.1.2 0 _ rfl).2 rfl hP hS hn hN hby h1 h2 hd (fun H1 hP1 hS1 => kk H1 locs ls hP1 hS1 hl0)
theorem c_newB (E : CEn g M X) (harr : Cond.arrayClass (newarray.typeOf .byte) ∈ TBL) {n : Int32} (N : Nat) (hn : ¬ n < 0) (hN : n.toNatClampNeg = N) (hby : N * componentBytes (newarray.typeOf .byte) ≤ 536870912) (h1 : cells + 1 ≤ M.2.2.2.2.2.1) (h2 : slots + N ≤ M.2.2.2.2.2.2) (hd : decode M.1 pc = .ok (.newarray .byte, 2)) (kk : CJ g M X b es2 (pc + 2) lv (.ref (b + es.length) :: st) (es ++ [.inl (g.2.2.2.1.2.1, N, .inl (fun _ => 0))]) (cells + 1) (slots + N)) : CJ g M X b es2 pc lv (.int n :: st) es cells slots := by
  intro H locs ls hP hS hl0
  exact pb_newa (cI := g.2.2.2.1.2.1) (a0 := (N, .inl (fun _ => 0))) E.1 E.2.1 E.2.2.2.2.2.1 harr (E.2.2.2.2.2.2.1.1.2 1 _ rfl).2 rfl hP hS hn hN hby h1 h2 hd (fun H1 hP1 hS1 => kk H1 locs ls hP1 hS1 hl0)
theorem c_newL (E : CEn g M X) (harr : Cond.arrayClass (newarray.typeOf .long) ∈ TBL) {n : Int32} (N : Nat) (hn : ¬ n < 0) (hN : n.toNatClampNeg = N) (hby : N * componentBytes (newarray.typeOf .long) ≤ 536870912) (h1 : cells + 1 ≤ M.2.2.2.2.2.1) (h2 : slots + N ≤ M.2.2.2.2.2.2) (hd : decode M.1 pc = .ok (.newarray .long, 2)) (kk : CJ g M X b es2 (pc + 2) lv (.ref (b + es.length) :: st) (es ++ [.inl (g.2.2.2.1.2.2, N, .inr (.inl (fun _ => 0)))]) (cells + 1) (slots + N)) : CJ g M X b es2 pc lv (.int n :: st) es cells slots := by
  intro H locs ls hP hS hl0
  exact pb_newa (cI := g.2.2.2.1.2.2) (a0 := (N, .inr (.inl (fun _ => 0)))) E.1 E.2.1 E.2.2.2.2.2.1 harr (E.2.2.2.2.2.2.1.1.2 2 _ rfl).2 rfl hP hS hn hN hby h1 h2 hd (fun H1 hP1 hS1 => kk H1 locs ls hP1 hS1 hl0)
theorem c_new (E : CEn g M X) {index ci N : Nat} {fs : List Value} (f : NWO M.2.2.1 index ci N fs) (h1 : cells + 1 ≤ M.2.2.2.2.2.1) (h2 : slots + N ≤ M.2.2.2.2.2.2) (hd : decode M.1 pc = .ok (.new index, 3)) (kk : CJ g M X b es2 (pc + 3) lv (.ref (b + es.length) :: st) (es ++ [.inr (ci, fs)]) (cells + 1) (slots + N)) : CJ g M X b es2 pc lv st es cells slots := by
  intro H locs ls hP hS hl0
  exact pb_new E.1 E.2.1 E.2.2.2.2.2.1 E.2.2.2.2.1 E.2.2.2.2.2.2.1 f hP hS h1 h2 hd (fun H1 hP1 hS1 => kk H1 locs ls hP1 hS1 hl0)
theorem c_putF (E : CEn g M X) {index ci j : Nat} (k : Nat) {a : Nat} {ty : FieldType} {fs : List Value} {v : Value} (f : WRF M.2.2.1 index ci j ty true) (he : es[k]? = some (.inr (ci, fs))) (ha : a = b + k) (hn : narrow ty v = v) (hfit : fits ty v = true) (hl : j < fs.length) (hd : decode M.1 pc = .ok (.putfield index, 3)) (kk : CJ g M X b es2 (pc + 3) lv st (es.set k (.inr (ci, fs.set j v))) cells slots) : CJ g M X b es2 pc lv (v :: .ref a :: st) es cells slots := by
  intro H locs ls hP hS hl0
  exact pb_putF E.1 E.2.1 E.2.2.2.2.2.1 E.2.2.2.2.1 E.2.2.2.2.2.2.1 E.2.2.2.2.2.2.2.1 f he ha hn hfit hl hP hS hd (fun H1 locs1 hP1 hS1 => kk H1 locs1 ls hP1 hS1 hl0)
theorem c_put (E : CEn g M X) {index ci j : Nat} (k : Nat) {a : Nat} {ty : FieldType} {fs : List Value} {v : Value} (f : WRF M.2.2.1 index ci j ty false) (he : es[k]? = some (.inr (ci, fs))) (ha : a = b + k) (hn : narrow ty v = v) (hfit : fits ty v = true) (hl : j < fs.length) (hd : decode M.1 pc = .ok (.putfield index, 3)) (kk : CJ g M X b es2 (pc + 3) lv st (es.set k (.inr (ci, fs.set j v))) cells slots) : CJ g M X b es2 pc lv (v :: .ref a :: st) es cells slots := by
  intro H locs ls hP hS hl0
  exact pb_put E.1 E.2.1 E.2.2.2.2.2.1 E.2.2.2.2.1 E.2.2.2.2.2.2.1 f he ha hn hfit hl hP hS hd (fun H1 locs1 hP1 hS1 => kk H1 locs1 ls hP1 hS1 hl0)
theorem c_get (E : CEn g M X) {index ci j : Nat} (k : Nat) {a : Nat} {fs : List Value} {v : Value} (f : FLD M.2.2.1 index ci j) (he : es[k]? = some (.inr (ci, fs))) (ha : a = b + k) (hv : fs[j]? = some v) (hd : decode M.1 pc = .ok (.getfield index, 3)) (kk : CJ g M X b es2 (pc + 3) lv (v :: st) es cells slots) : CJ g M X b es2 pc lv (.ref a :: st) es cells slots := by
  intro H locs ls hP hS hl0
  exact pb_get E.1 E.2.1 E.2.2.2.2.2.1 E.2.2.2.2.1 E.2.2.2.2.2.2.1 f he ha hv hP hd (kk H locs ls hP hS hl0)
theorem c_ret (E : CEn g M X) (h1 : cells ≤ M.2.2.2.2.2.1) (h2 : slots ≤ M.2.2.2.2.2.2) (hd : decode M.1 pc = .ok (.return_, 1)) : CJ g M X b es pc lv [] es cells slots := by
  intro H locs ls hP hS hl0
  refine W.widen (k := M.2.2.2.2.2.1) (n := M.2.2.2.2.2.2) h1 h2 ?_
  have hlocks := E.2.2.2.2.2.2.2.2
  exact W.vret E.1 E.2.1 E.2.2.1 (fun t ht hW => ⟨⟨(), rfl, trivial, by show PB g b es t.heap; rw [ht]; exact hP⟩, hS.F ht⟩) hS.2.2 hd
theorem c_eq {es1 : List va_E} {cells1 slots1 : Nat} (h : es = es1) (h1 : cells = cells1) (h2 : slots = slots1) (kk : CJ g M X b es2 pc lv st es1 cells1 slots1) : CJ g M X b es2 pc lv st es cells slots := by subst h; subst h1; subst h2; exact kk
def CLI (own : String) (idx : Nat) (y : MethodName) (M1 : CM) (n : Nat) : Prop := Cond.code y M1.1 M1.2.1 none ∈ TBL ∧ Cond.initialized y.cls ∈ TBL ∧ (y.cls ≠ "java/lang/invoke/MethodHandle" ∧ y.cls ≠ "java/lang/invoke/VarHandle" ∧ (parseMethodDescriptor y.desc).map (fun d => d.parameters.length) = some n) ∧ Cond.instanceMethod y ∈ TBL ∧ y.name = "<init>" ∧ (Cond.methodLink own idx y ∈ TBL ∨ (own, idx, y) ∈ lw_nest)
theorem c_call (E : CEn g M X) {idx n a : Nat} {y : MethodName} {M1 : CM} (As : List Value) (pre : List va_E) {o : va_E} {es1 : List va_E} (f : CLI M.2.2.1 idx y M1 n) (hM : CO g y M1 (.ref (b + pre.length) :: As) (b + pre.length) [o] es1) (he : es = pre ++ [o]) (ha : a = b + pre.length) (hR : M1.2.2.2.1 + 1 ≤ M.2.2.2.1 ∧ 8 + (M1.2.1 + 11) + M1.2.2.2.2.1 ≤ M.2.2.2.2.1) (hn : As.length = n) (hst : (st.map fun v => v.category).sum ≤ 8) (hd : decode M.1 pc = .ok (.invokespecial idx, 3)) (h1 : cells + M1.2.2.2.2.2.1 ≤ M.2.2.2.2.2.1) (h2 : slots + M1.2.2.2.2.2.2 ≤ M.2.2.2.2.2.2) (kk : CJ g M X b es2 (pc + 3) lv st (pre ++ es1) (cells + M1.2.2.2.2.2.1) (slots + M1.2.2.2.2.2.2)) : CJ g M X b es2 pc lv (As.reverse ++ .ref a :: st) es cells slots := by
  intro H locs ls hP hS hl0
  subst he; subst ha
  obtain ⟨f1, f2, f3, f4, f5, f6⟩ := f
  rcases f6 with f6 | f6
  · exact pb_call ⟨E.1, E.2.1, E.2.2.2.1, E.2.2.2.2.1, E.2.2.2.2.2.1⟩ hM E.2.2.2.2.2.2.1 f6 f1 f2 f3 f4 f5 hR hP hS hn hl0.1 hst hd ⟨h1, h2⟩ (fun H1 locs1 hP1 hS1 => kk H1 locs1 ls hP1 hS1 hl0)
  · exact pb_callN ⟨E.1, E.2.1, E.2.2.2.1, E.2.2.2.2.1, E.2.2.2.2.2.1⟩ hM E.2.2.2.2.2.2.1 f6 f1 f2 f3 f4 f5 hR hP hS hn hl0.1 hst hd ⟨h1, h2⟩ (fun H1 locs1 hP1 hS1 => kk H1 locs1 ls hP1 hS1 hl0)
theorem c_iast (E : CEn g M X) (k : Nat) {a N : Nat} {i x : Int32} {f : Nat → Int32} (he : es[k]? = some (.inl (g.2.2.2.1.1, N, .inl f))) (ha : a = b + k) (hin : vp_in i N) (hd : decode M.1 pc = .ok (.iastore, 1)) (kk : CJ g M X b es2 (pc + 1) lv st (es.set k (.inl (g.2.2.2.1.1, N, .inl (upd f i.toNatClampNeg x)))) cells slots) : CJ g M X b es2 pc lv (.int x :: .int i :: .ref a :: st) es cells slots := by
  intro H locs ls hP hS hl0
  subst ha
  have he2 : (wsO b es)[k]? = some (b + k, .inl (g.2.2.2.1.1, N, .inl f)) := by rw [wsO_at, he]; rfl
  refine W.iast E.1 E.2.1 (hP.2 k _ he2) ((E.2.2.2.2.2.2.1.1.2 0 _ rfl).1 N (fun j => .int (f j))) (fun q => by cases q) (by show ¬ (i < 0 ∨ (arrV _ _ _).slots.size ≤ _); rw [arrV_size]; exact hin) rfl rfl hd fun H1 e z oq => ?_
  refine kk H1 _ ls ⟨by rw [z, hP.1, List.length_set], ?_⟩ (hS.put z oq (Nat.le_add_right b k)) hl0
  rw [← wsO_set]
  refine hP.2.set (wsO_D es b) he2 ?_ oq
  show H1[b + k]? = some (vp_cell _ _)
  rw [e, vp_cell_i, vp_cell_i, arrV_store]
  congr 2
  funext q
  by_cases hq : q = i.toNatClampNeg
  · subst hq
    simp [updV, upd]
  · simp [updV, upd, hq]
end CJS
