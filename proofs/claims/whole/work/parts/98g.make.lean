/-! ===== making cells: they lie one behind another ===== -/
def wsO : Nat → List va_E → va_W
  | _, [] => []
  | b, e :: r => (b, e) :: wsO (b + 1) r
theorem wsO_at : ∀ (es : List va_E) (b k : Nat), (wsO b es)[k]? = (es[k]?).map (fun e => (b + k, e))
  | [], _, _ => by simp [wsO]
  | e :: r, b, 0 => by simp [wsO]
  | e :: r, b, k + 1 => by
    have q := wsO_at r (b + 1) k
    simp only [wsO, List.getElem?_cons_succ]
    rw [q, show b + 1 + k = b + (k + 1) by omega]
theorem wsO_set : ∀ (es : List va_E) (b k : Nat) (e : va_E), (wsO b es).set k (b + k, e) = wsO b (es.set k e)
  | [], _, _, _ => by simp [wsO]
  | _ :: r, b, 0, _ => by simp [wsO]
  | _ :: r, b, k + 1, e => by
    have q := wsO_set r (b + 1) k e
    simp only [wsO, List.set_cons_succ]
    rw [← q, show b + 1 + k = b + (k + 1) by omega]
theorem wsO_app : ∀ (es : List va_E) (b : Nat) (fs : List va_E), wsO b (es ++ fs) = wsO b es ++ wsO (b + es.length) fs
  | [], _, _ => by simp [wsO]
  | e :: r, b, fs => by
    have q := wsO_app r (b + 1) fs
    simp only [wsO, List.cons_append, List.length_cons]
    rw [q, show b + 1 + r.length = b + (r.length + 1) by omega]
theorem wsO_in {es : List va_E} {b k : Nat} {q : Nat × va_E} (h : (wsO b es)[k]? = some q) : q.1 = b + k ∧ k < es.length := by
  rw [wsO_at] at h
  cases he : es[k]? with
  | none => rw [he] at h; cases h
  | some e => rw [he] at h; cases h; exact ⟨rfl, (List.getElem?_eq_some_iff.mp he).1⟩
theorem wsO_D (es : List va_E) (b : Nat) : va_D (fun q => b ≤ q) (wsO b es) := by
  refine ⟨fun i j x y hi hj hxy => ?_, fun k x hk => ?_⟩
  · have h1 := (wsO_in hi).1
    have h2 := (wsO_in hj).1
    omega
  · have h1 := (wsO_in hk).1
    show b ≤ x.1
    omega
def PB (g : GC) (b : Nat) (es : List va_E) (H : Heap) : Prop := H.size = b + es.length ∧ va_P g.2.1 vwCl (wsO b es) H
def gK0 (g : GC) (U : State) : Prop := va_K g.2.1 vwCl (gT g) U ∧ ∀ q ∈ lw_nest, va_Nw (.methodLinkNest q.1 q.2.1 q.2.2 "SorrowPipes") U
theorem gK0.warm {g : GC} {s U : State} (hW : s.WarmedH U.vm) (h : gK0 g s) : gK0 g U := ⟨va_K.moved hW.alike h.1, fun q hq => va_Nw.warmM hW (h.2 q hq)⟩
theorem gK0.calling {g : GC} {U : State} {f : JFrame} {mk : MethodId} {a : Array Value} (h : gK0 g U) : gK0 g (U.calling f mk a) := ⟨va_K.moved (u := U) (U := U.calling f mk a) (Vm.Alike.refl U.vm) h.1, fun q hq => va_Nw.same (u := U) (U := U.calling f mk a) rfl rfl (h.2 q hq)⟩
theorem PB.end_ {g : GC} {b : Nat} {pre r : List va_E} {H : Heap} (h : PB g b (pre ++ r) H) : PB g (b + pre.length) r H := by
  obtain ⟨h1, h2⟩ := h
  rw [wsO_app] at h2
  refine ⟨by rw [h1, List.length_append]; omega, fun k q hk => h2 ((wsO b pre).length + k) q ?_⟩
  rw [List.getElem?_append_right (by omega), show (wsO b pre).length + k - (wsO b pre).length = k by omega]
  exact hk
theorem PB.join {g : GC} {b : Nat} {pre r r1 : List va_E} {H H1 : Heap} (h : PB g b (pre ++ r) H) (hk : ∀ q : Nat, q < H.size → ¬ (b + pre.length ≤ q) → H1[q]? = H[q]?) (h1 : PB g (b + pre.length) r1 H1) : PB g b (pre ++ r1) H1 := by
  obtain ⟨a1, a2⟩ := h
  obtain ⟨c1, c2⟩ := h1
  rw [wsO_app] at a2
  refine ⟨by rw [c1, List.length_append]; omega, ?_⟩
  rw [wsO_app]
  refine va_P.app (fun k q hk' => ?_) c2
  have hl := wsO_in hk'
  refine (a2 k q ?_).kept (hk q.1 (by rw [a1, List.length_append]; omega) (by omega))
  rw [List.getElem?_append_left (List.getElem?_eq_some_iff.mp hk').1]
  exact hk'
abbrev CM : Type := ByteArray × Nat × String × Nat × Nat × Nat × Nat
def cRm (M : CM) : Room := { frames := M.2.2.2.1, cells := M.2.2.2.2.2.1, slots := M.2.2.2.2.2.2, locals := M.2.2.2.2.1 }
/-- a constructor's contract: from the cells es behind b to the cells es2 -/
def CO (g : GC) (y : MethodName) (M : CM) (as : List Value) (b : Nat) (es es2 : List va_E) : Prop := Met g.1 y (Cond.code y M.1 M.2.1 none :: TBL) (cRm M) (va_Pc as (fun U => PB g b es U.heap ∧ gK0 g U)) (va_Qv (fun _ : Unit => True) (fun _ t => PB g b es2 t.heap) (fun q => b ≤ q)) M.2.2.2.2.2.1 M.2.2.2.2.2.2 (fun q => b ≤ q)
/-- what a new object needs of the tables -/
def NWO (own : String) (index ci N : Nat) (fs : List Value) : Prop := ∃ (C : String) (T : u_T) (ty : Nat → FieldType), vwCl[ci]? = some (C, T, N) ∧ (∀ w ∈ u_ws C T N, w ∈ TBL) ∧ (∀ k, k < N → parseFieldDescriptor (T k).2.2.1 = some (ty k)) ∧ Cond.classLink own index C ∈ TBL ∧ Cond.instantiable C N ∈ TBL ∧ Cond.initialized C ∈ TBL ∧ ∀ j, j < N → defaultValue (ty j) = vp_V fs j
/-- what a write of a field needs of the tables, in a constructor where the field is final -/
def WRF (own : String) (index ci j : Nat) (ty : FieldType) (fin : Bool) : Prop := ∃ (C : String) (T : u_T) (N : Nat) (ty0 : Nat → FieldType), vwCl[ci]? = some (C, T, N) ∧ (∀ w ∈ u_ws C T N, w ∈ TBL) ∧ j < N ∧ Cond.fieldLink own index (T j).1 (T j).2.1 (T j).2.2.1 ∈ TBL ∧ (∀ k, k < N → parseFieldDescriptor (T k).2.2.1 = some (ty0 k)) ∧ (∀ a, a < N → ∀ b, b < N → a ≠ b → (T a).2.1 ≠ (T b).2.1) ∧ (T j).2.2.2 = fin ∧ parseFieldDescriptor (T j).2.2.1 = some ty ∧ (T j).1 = own
section MAKE
variable {g : GC} {p : Program} {l : Launch} {e : Env} {R : Room} {s : State} {m : MethodId} {args : Array Value} {below : List Frame} {meth : Method} {c : Code} {H : Heap} {locs : List Loc} {cells slots : Nat} {Q : State → Prop}
variable {cc : ByteArray} {pc : Nat} {ls : Array Slot} {rest : List Value} {b : Nat} {es : List va_E} {H0 : Heap} {own : String}
theorem pb_new (hexec : p.tables.exec = Jvm.exec) (hb : c.code = cc) (hts : ∀ w ∈ TBL, w.before args s = true) (hown : s.vm.findClass own = some m.cls) (hK : gK0 g s) {index ci N : Nat} {fs : List Value} (f : NWO own index ci N fs) (hP : PB g b es H) (hS : va_S (fun q => b ≤ q) H0 H locs) (hcells : cells + 1 ≤ R.cells) (hslots : slots + N ≤ R.slots) (hdg : decode cc pc = .ok (.new index, 3))
    (kk : ∀ H1 : Heap, PB g b (es ++ [.inr (ci, fs)]) H1 → va_S (fun q => b ≤ q) H0 H1 locs → W p l e R s m args below meth c H1 locs (cells + 1) (slots + N) Q (F0 m (pc + 3) ls (.ref (b + es.length) :: rest))) : W p l e R s m args below meth c H locs cells slots Q (F0 m pc ls rest) := by
  obtain ⟨C, T, ty, hc, hin, hty, a1, a2, a3, hfs⟩ := f
  have hKn := hK.1.1 ci _ hc
  refine W.newcK hexec hb hown (hts _ a1) (hts _ a2) (hts _ a3) rfl hdg hcells hslots hKn.2.1 rfl fun H1 kC hkC e1 z1 o1 => ?_
  rw [← hP.1] at kk
  refine kk H1 ⟨by rw [z1, hP.1, List.length_append]; rfl, ?_⟩ ⟨Nat.le_trans hS.1 (by omega), fun x h1 h2 => (o1 x (Nat.lt_of_lt_of_le h1 hS.1)).trans (hS.2.1 x h1 h2), hS.2.2⟩
  rw [wsO_app, ← hP.1]
  refine va_P.app (hP.2.kept fun k x hx => o1 x.1 ((hP.2 k x hx).lt)) (fun k x hx => ?_)
  have hz : k < 1 := (wsO_in hx).2
  rw [show k = 0 by omega] at hx
  cases hx
  exact ⟨_, hc, (u_born ty hts hin hKn hkC e1 hty).to hfs⟩
theorem pb_newa (hexec : p.tables.exec = Jvm.exec) (hb : c.code = cc) (hts : ∀ w ∈ TBL, w.before args s = true) {atype : ArrayType} (harr : Cond.arrayClass (newarray.typeOf atype) ∈ TBL) {cI : ClassId} (hid : s.vm.findClass ("[" ++ (newarray.typeOf atype).toString) = some cI) {a0 : vp_A} {n : Int32} {N : Nat} (ha : vp_cell cI a0 = arrV cI N (fun _ => defaultValue (newarray.typeOf atype))) (hP : PB g b es H) (hS : va_S (fun q => b ≤ q) H0 H locs) (hn : ¬ n < 0) (hN : n.toNatClampNeg = N) (hbytes : N * componentBytes (newarray.typeOf atype) ≤ 536870912) (hcells : cells + 1 ≤ R.cells) (hslots : slots + N ≤ R.slots) (hdg : decode cc pc = .ok (.newarray atype, 2))
    (kk : ∀ H1 : Heap, PB g b (es ++ [.inl (cI, a0)]) H1 → va_S (fun q => b ≤ q) H0 H1 locs → W p l e R s m args below meth c H1 locs (cells + 1) (slots + N) Q (F0 m (pc + 2) ls (.ref (b + es.length) :: rest))) : W p l e R s m args below meth c H locs cells slots Q (F0 m pc ls (.int n :: rest)) := by
  refine va_newaK hexec hb (hts _ harr) rfl hdg rfl hn hN hbytes hcells hslots rfl fun H1 cA e1 z1 o1 hAr hNm => ?_
  have ec : cA = cI := Option.some.inj (hNm.symm.trans hid)
  subst ec
  rw [← hP.1] at kk
  refine kk H1 ⟨by rw [z1, hP.1, List.length_append]; rfl, ?_⟩ ⟨Nat.le_trans hS.1 (by omega), fun x h1 h2 => (o1 x (Nat.lt_of_lt_of_le h1 hS.1)).trans (hS.2.1 x h1 h2), hS.2.2⟩
  rw [wsO_app, ← hP.1]
  refine va_P.app (hP.2.kept fun k x hx => o1 x.1 ((hP.2 k x hx).lt)) (fun k x hx => ?_)
  have hz : k < 1 := (wsO_in hx).2
  rw [show k = 0 by omega] at hx
  cases hx
  show H1[H.size]? = some (vp_cell _ _)
  rw [ha]
  exact e1
theorem pb_put (hexec : p.tables.exec = Jvm.exec) (hb : c.code = cc) (hts : ∀ w ∈ TBL, w.before args s = true) (hown : s.vm.findClass own = some m.cls) (hK : gK0 g s) {index ci j k a : Nat} {ty : FieldType} {fs : List Value} {v : Value} (f : WRF own index ci j ty false) (he : es[k]? = some (.inr (ci, fs))) (ha : a = b + k) (hn : narrow ty v = v) (hfit : fits ty v = true) (hl : j < fs.length) (hP : PB g b es H) (hS : va_S (fun q => b ≤ q) H0 H locs) (hdg : decode cc pc = .ok (.putfield index, 3))
    (kk : ∀ (H1 : Heap) (locs1 : List Loc), PB g b (es.set k (.inr (ci, fs.set j v))) H1 → va_S (fun q => b ≤ q) H0 H1 locs1 → W p l e R s m args below meth c H1 locs1 cells slots Q (F0 m (pc + 3) ls rest)) : W p l e R s m args below meth c H locs cells slots Q (F0 m pc ls (v :: .ref a :: rest)) := by
  subst ha
  obtain ⟨C, T, N, ty0, hc, hin, hj, a1, hty, hnm, hfin, hd, hdecl⟩ := f
  have he2 : (wsO b es)[k]? = some (b + k, .inr (ci, fs)) := by rw [wsO_at, he]; rfl
  have hap := va_apart (own := own) hts hin ty0 hty hnm hK.1 hc
  obtain ⟨r, h1, cell, q1, q2, q3, q4⟩ := hP.2 k _ he2
  have hr : r = (C, T, N) := Option.some.inj (h1.symm.trans hc)
  subst hr
  obtain ⟨hSl, hfc, kC, hkC, hkind⟩ := hK.1.1 ci _ hc
  obtain ⟨cf, kf, fi, f0, hi, hsl⟩ := hSl j hj
  have hlay := hts _ (hin _ (u_in_lay hj))
  unfold u_lay at hlay
  rw [if_neg (by rw [hfin]; decide)] at hlay
  refine W.putK hexec hb (f := f0) ⟨hown, hts _ a1, ⟨_, _, _, hi⟩, (u_facts hfc hkC (u_lays hts hin hj) hi).1⟩ (by rw [q2]; exact u_store hfc hkC hkind hlay hi hd hn hfit) q1 q3 (by rw [hsl]; exact k2_hasslot (q4 j hj)) rfl rfl hdg fun H' e1 e2 e3 => ?_
  rw [hsl] at e1 ⊢
  refine kk H' _ ⟨by rw [e2, hP.1, List.length_set], ?_⟩ (hS.put e2 e3 (Nat.le_add_right b k))
  rw [← wsO_set]
  exact hP.2.set (wsO_D es b) he2 ⟨_, hc, t_OB.to (V := updV (vp_V fs) j v) ⟨_, e1, q2, q3, t_set q4 hap hj v⟩ (fun i _ => vp_updV_set hl v i)⟩ e3
theorem pb_putF (hexec : p.tables.exec = Jvm.exec) (hb : c.code = cc) (hts : ∀ w ∈ TBL, w.before args s = true) (hown : s.vm.findClass own = some m.cls) (hK : gK0 g s) (hini : meth.name = "<init>") {index ci j k a : Nat} {ty : FieldType} {fs : List Value} {v : Value} (f : WRF own index ci j ty true) (he : es[k]? = some (.inr (ci, fs))) (ha : a = b + k) (hn : narrow ty v = v) (hfit : fits ty v = true) (hl : j < fs.length) (hP : PB g b es H) (hS : va_S (fun q => b ≤ q) H0 H locs) (hdg : decode cc pc = .ok (.putfield index, 3))
    (kk : ∀ (H1 : Heap) (locs1 : List Loc), PB g b (es.set k (.inr (ci, fs.set j v))) H1 → va_S (fun q => b ≤ q) H0 H1 locs1 → W p l e R s m args below meth c H1 locs1 cells slots Q (F0 m (pc + 3) ls rest)) : W p l e R s m args below meth c H locs cells slots Q (F0 m pc ls (v :: .ref a :: rest)) := by
  subst ha
  obtain ⟨C, T, N, ty0, hc, hin, hj, a1, hty, hnm, hfin, hd, hdecl⟩ := f
  have he2 : (wsO b es)[k]? = some (b + k, .inr (ci, fs)) := by rw [wsO_at, he]; rfl
  have hap := va_apart (own := own) hts hin ty0 hty hnm hK.1 hc
  obtain ⟨r, h1, cell, q1, q2, q3, q4⟩ := hP.2 k _ he2
  have hr : r = (C, T, N) := Option.some.inj (h1.symm.trans hc)
  subst hr
  obtain ⟨hSl, hfc, kC, hkC, hkind⟩ := hK.1.1 ci _ hc
  obtain ⟨cf, kf, fi, f0, hi, hsl⟩ := hSl j hj
  have hlay := hts _ (hin _ (u_in_lay hj))
  unfold u_lay at hlay
  rw [if_pos hfin] at hlay
  have hcf : m.cls = cf := by
    obtain ⟨_, _, c2, _, _, _, -, -, hf2, -, -, -, ho2, -⟩ := Cond.laysFinal_spec hlay
    have e1 : c2 = cf := by have := hi.symm.trans hf2; simp at this; exact this.1.symm
    rw [hdecl] at ho2
    rw [← e1]; exact Option.some.inj (hown.symm.trans ho2)
  refine W.putFinK hexec hb hown (hts _ a1) hi (u_facts hfc hkC (u_lays hts hin hj) hi).1 hcf hini (by rw [q2]; exact u_fits hfc hkC hkind (Or.inr hlay) hi hd hn hfit) q1 q3 (by rw [hsl]; exact k2_hasslot (q4 j hj)) rfl rfl hdg fun H' e1 e2 e3 => ?_
  rw [hsl] at e1 ⊢
  refine kk H' _ ⟨by rw [e2, hP.1, List.length_set], ?_⟩ (hS.put e2 e3 (Nat.le_add_right b k))
  rw [← wsO_set]
  exact hP.2.set (wsO_D es b) he2 ⟨_, hc, t_OB.to (V := updV (vp_V fs) j v) ⟨_, e1, q2, q3, t_set q4 hap hj v⟩ (fun i _ => vp_updV_set hl v i)⟩ e3
theorem pb_get (hexec : p.tables.exec = Jvm.exec) (hb : c.code = cc) (hts : ∀ w ∈ TBL, w.before args s = true) (hown : s.vm.findClass own = some m.cls) (hK : gK0 g s) {index ci j k a : Nat} {fs : List Value} {v : Value} (f : FLD own index ci j) (he : es[k]? = some (.inr (ci, fs))) (ha : a = b + k) (hv : fs[j]? = some v) (hP : PB g b es H) (hdg : decode cc pc = .ok (.getfield index, 3))
    (kk : W p l e R s m args below meth c H locs cells slots Q (F0 m (pc + 3) ls (v :: rest))) : W p l e R s m args below meth c H locs cells slots Q (F0 m pc ls (.ref a :: rest)) := by
  subst ha
  obtain ⟨C, T, N, hc, hin, hj, a1⟩ := f
  exact va_get hexec hb hts hin hown hK.1 hP.2 k (show (wsO b es)[k]? = some (b + k, .inr (ci, fs)) by rw [wsO_at, he]; rfl) hc j hj (hts _ a1) (fun _ h9 => h9) hv hdg kk
end MAKE
