/-! ===== the words that all contracts here stand on: the good ones of the tables; the nest mates' links apart ===== -/
def TBL : List Cond := lw_tbl.filter goodWord
theorem tb_in {w : Cond} (i : Nat) (h : lw_tbl[i]? = some w) (hg : goodWord w = true) : w ∈ TBL := List.mem_filter.mpr ⟨List.mem_of_getElem? h, hg⟩
def lw_nest : List (String × Nat × MethodName) := [("SorrowPipes", 9, ⟨"SorrowPipes$Tape", "<init>", "()V"⟩), ("SorrowPipes", 18, ⟨"SorrowPipes$Streets", "<init>", "()V"⟩), ("SorrowPipes", 28, ⟨"SorrowPipes$Law", "<init>", "()V"⟩), ("SorrowPipes", 38, ⟨"SorrowPipes$Orders", "<init>", "()V"⟩), ("SorrowPipes", 45, ⟨"SorrowPipes$State", "<init>", "()V"⟩), ("SorrowPipes", 92, ⟨"SorrowPipes$Eighths", "<init>", "()V"⟩), ("SorrowPipes$Streets", 28, ⟨"SorrowPipes", "hasBit", "(II)Z"⟩), ("SorrowPipes$Tide", 80, ⟨"SorrowPipes", "hasBit", "(II)Z"⟩), ("SorrowPipes$Flow", 34, ⟨"SorrowPipes", "hasBit", "(II)Z"⟩), ("SorrowPipes$Net", 40, ⟨"SorrowPipes", "hasBit", "(II)Z"⟩), ("SorrowPipes$Net", 50, ⟨"SorrowPipes", "lowest", "(I)I"⟩), ("SorrowPipes$Walks", 40, ⟨"SorrowPipes", "hasBit", "(II)Z"⟩), ("SorrowPipes$Walks", 75, ⟨"SorrowPipes", "lowest", "(I)I"⟩), ("SorrowPipes$State", 52, ⟨"SorrowPipes", "hasBit", "(II)Z"⟩)]
theorem lw_nest_in : ∀ q ∈ lw_nest, Cond.methodLinkNest q.1 q.2.1 q.2.2 "SorrowPipes" ∈ tables_1 := by
  intro q hq
  simp only [lw_nest, List.mem_cons, List.not_mem_nil, or_false] at hq
  rcases hq with rfl | rfl | rfl | rfl | rfl | rfl | rfl | rfl | rfl | rfl | rfl | rfl | rfl | rfl
  · exact List.mem_of_getElem? (i := 32) (by decide +kernel)
  · exact List.mem_of_getElem? (i := 60) (by decide +kernel)
  · exact List.mem_of_getElem? (i := 106) (by decide +kernel)
  · exact List.mem_of_getElem? (i := 145) (by decide +kernel)
  · exact List.mem_of_getElem? (i := 165) (by decide +kernel)
  · exact List.mem_of_getElem? (i := 322) (by decide +kernel)
  · exact List.mem_of_getElem? (i := 638) (by decide +kernel)
  · exact List.mem_of_getElem? (i := 702) (by decide +kernel)
  · exact List.mem_of_getElem? (i := 768) (by decide +kernel)
  · exact List.mem_of_getElem? (i := 795) (by decide +kernel)
  · exact List.mem_of_getElem? (i := 818) (by decide +kernel)
  · exact List.mem_of_getElem? (i := 873) (by decide +kernel)
  · exact List.mem_of_getElem? (i := 888) (by decide +kernel)
  · exact List.mem_of_getElem? (i := 1002) (by decide +kernel)
theorem tb_good {y : MethodName} {cc : ByteArray} {nL : Nat} {ret : Option FieldType} (h : Cond.code y cc nL ret ∈ TBL) : GoodIn TBL (Cond.code y cc nL ret :: TBL) := by
  intro w hw
  rcases List.mem_cons.mp hw with rfl | h1
  · exact ⟨h, good_of_word (List.mem_filter.mp h).2⟩
  · exact ⟨h1, good_of_word (List.mem_filter.mp h1).2⟩
/-! ===== the heap as numbers: a cell's number, a place in it; one array of longs ===== -/
abbrev HP : Type := (Nat → Nat → Int32) × (Nat → Int64)
def up (h : HP) (k j : Nat) (v : Int32) : HP := (fun a => if a = k then upd (h.1 k) j v else h.1 a, h.2)
def upL (h : HP) (j : Nat) (v : Int64) : HP := (h.1, fun b => if b = j then v else h.2 b)
def upA (h : HP) (k : Nat) (f : Nat → Int32) : HP := (fun a => if a = k then f else h.1 a, h.2)
theorem up_upA (h : HP) (k j : Nat) (v : Int32) : up h k j v = upA h k (upd (h.1 k) j v) := rfl
/-! what programs are made of -/
def lt {α β : Type} (a : α) (f : α → β) : β := f a
def cl {α : Type} (d : Option (Int32 × HP)) (f : Int32 → HP → Option α) : Option α := match d with
  | some (v, h) => f v h
  | none => none
def ald {α : Type} (h : HP) (k n : Nat) (i : Int32) (f : Int32 → Option α) : Option α := if i < 0 ∨ n ≤ i.toNatClampNeg then none else f (h.1 k i.toNatClampNeg)
def alL {α : Type} (h : HP) (n : Nat) (i : Int32) (f : Int64 → Option α) : Option α := if i < 0 ∨ n ≤ i.toNatClampNeg then none else f (h.2 i.toNatClampNeg)
def ast {α : Type} (h : HP) (k n : Nat) (i v : Int32) (f : HP → Option α) : Option α := if i < 0 ∨ n ≤ i.toNatClampNeg then none else f (up h k i.toNatClampNeg v)
def asL {α : Type} (h : HP) (n : Nat) (i : Int32) (v : Int64) (f : HP → Option α) : Option α := if i < 0 ∨ n ≤ i.toNatClampNeg then none else f (upL h i.toNatClampNeg v)
def dvd {α : Type} (x y : Int32) (f : Int32 → Option α) : Option α := if y = 0 then none else f (x / y)
def rmd {α : Type} (x y : Int32) (f : Int32 → Option α) : Option α := if y = 0 then none else f (x - x / y * y)
def zok {α : Type} (v : Int32) (d : Option α) : Option α := if v = 0 ∨ v = 1 then d else none
def iok {α : Type} (c : Prop) [Decidable c] (d : Option α) : Option α := if c then d else none
/-! ===== the shapes of cells, the world, the contract, the judgement ===== -/
abbrev Shp : Type := (Nat × Nat) ⊕ (Nat × List Nat)
abbrev GC : Type := Launch × va_G × (Nat → Nat) × (ClassId × ClassId × ClassId) × Nat × (Nat → Shp)
abbrev MD : Type := ByteArray × Nat × String × Option FieldType × Nat × Nat
abbrev MX : Type := Program × Env × State × MethodId × Array Value × List Frame × Method × Code
def gvl (ad : Nat → Nat) (f : Nat → Int32) : Nat → List Nat → List Value
  | _, [] => []
  | j, 0 :: r => .int (f j) :: gvl ad f (j + 1) r
  | j, 1 :: r => .ref (ad (f j).toNatClampNeg) :: gvl ad f (j + 1) r
  | j, (n + 2) :: r => .ref (ad n) :: gvl ad f (j + 1) r
def gcl (g : GC) (h : HP) (k : Nat) : Shp → va_E
  | .inl (0, n) => .inl (g.2.2.2.1.1, n, .inl (h.1 k))
  | .inl (1, n) => .inl (g.2.2.2.1.2.1, n, .inl (h.1 k))
  | .inl (_, n) => .inl (g.2.2.2.1.2.2, n, .inr (.inl h.2))
  | .inr (ci, ks) => .inr (ci, gvl g.2.2.1 (h.1 k) 0 ks)
def gw (g : GC) (h : HP) : va_W := (List.range g.2.2.2.2.1).map (fun k => (g.2.2.1 k, gcl g h k (g.2.2.2.2.2 k)))
def gA (g : GC) : Nat → Prop := fun q => ∃ k, k < g.2.2.2.2.1 ∧ q = g.2.2.1 k
def gI (g : GC) : Prop := ∀ i j, i < g.2.2.2.2.1 → j < g.2.2.2.2.1 → g.2.2.1 i = g.2.2.1 j → i = j
def gR (g : GC) (h : HP) (H : Heap) : Prop := va_P g.2.1 vwCl (gw g h) H
def gT (g : GC) : List (ClassId × FieldType) := [(g.2.2.2.1.1, .int), (g.2.2.2.1.2.1, .byte), (g.2.2.2.1.2.2, .long)]
def gStr (g : GC) (U : State) : Prop := vk_R RX2 95 "chsunmqatw" (g.2.2.1 1000) U ∧ vk_S 1 [10] [[99, 104, 115, 117, 110, 109, 113, 97, 116, 119]] (fun _ => g.2.2.1 1000) (fun _ => g.2.2.1 1001) (gA g) U U.heap ∧ va_Z "java/lang/String" "COMPACT_STRINGS" "Z" (.int 1) (gA g) U U.heap
def gK (g : GC) (U : State) : Prop := va_K g.2.1 vwCl (gT g) U ∧ (∀ q ∈ lw_nest, va_Nw (.methodLinkNest q.1 q.2.1 q.2.2 "SorrowPipes") U) ∧ gStr g U
def gQ (g : GC) (ret : Option FieldType) (r : Int32) (h' : HP) : Array Value → State → Outcome → State → Prop := match ret with
  | none => va_Qv (fun u : HP => u = h') (fun u t => gR g u t.heap) (gA g)
  | some _ => va_Qi (fun v (u : HP) => v = r ∧ u = h') (fun u t => gR g u t.heap) (gA g)
def gRm (M : MD) : Room := { frames := M.2.2.2.2.1, cells := 0, slots := 0, locals := M.2.2.2.2.2 }
/-- the contract: from a heap that holds h, with these arguments, the method y ends as the program d says (where d says none: nothing is said) -/
def Ok (g : GC) (y : MethodName) (M : MD) (as : List Value) (h : HP) (d : Option (Int32 × HP)) : Prop :=
  ∀ r h', d = some (r, h') → Met g.1 y (Cond.code y M.1 M.2.1 M.2.2.2.1 :: TBL) (gRm M) (va_Pc as (fun U => gR g h U.heap ∧ gK g U)) (gQ g M.2.2.2.1 r h') 0 0 (gA g)
def J (g : GC) (M : MD) (X : MX) (pc : Nat) (lv : List (Nat × Value)) (st : List Value) (h : HP) (d : Option (Int32 × HP)) : Prop :=
  ∀ r h', d = some (r, h') → ∀ (H : Heap) (locs : List Loc) (ls : Array Slot), gR g h H → va_S (gA g) X.2.2.1.heap H locs → lv_has ls M.2.1 lv →
    W X.1 g.1 X.2.1 (gRm M) X.2.2.1 X.2.2.2.1 X.2.2.2.2.1 X.2.2.2.2.2.1 X.2.2.2.2.2.2.1 X.2.2.2.2.2.2.2 H locs 0 0 (MQ X.2.2.2.2.2.1 (gQ g M.2.2.2.1 r h') X.2.2.2.2.1 X.2.2.1 0 0 (gA g)) (F0 X.2.2.2.1 pc ls st)
def JE (g : GC) (M : MD) (X : MX) : Prop :=
  X.1.tables.exec = Jvm.exec ∧ X.2.2.2.2.2.2.2.code = M.1 ∧ X.2.2.2.2.2.2.1.sig.returnType = M.2.2.2.1 ∧ X.2.2.2.2.2.2.2.maxLocals = M.2.1 ∧ X.2.2.1.vm.findClass M.2.2.1 = some X.2.2.2.1.cls ∧ (∀ w ∈ TBL, w.before X.2.2.2.2.1 X.2.2.1 = true) ∧ gK g X.2.2.1 ∧ gI g ∧ X.2.2.2.2.2.2.1.locks = false
theorem gw_at {g : GC} {h : HP} {k : Nat} (hk : k < g.2.2.2.2.1) : (gw g h)[k]? = some (g.2.2.1 k, gcl g h k (g.2.2.2.2.2 k)) := by
  unfold gw
  rw [List.getElem?_map, List.getElem?_range hk]
  rfl
theorem gw_D {g : GC} (hI : gI g) (h : HP) : va_D (gA g) (gw g h) := by
  have key : ∀ (k : Nat) (q : Nat × va_E), (gw g h)[k]? = some q → k < g.2.2.2.2.1 ∧ q.1 = g.2.2.1 k := by
    intro k q hq
    unfold gw at hq
    rw [List.getElem?_map] at hq
    by_cases hk : k < g.2.2.2.2.1
    · rw [List.getElem?_range hk] at hq
      cases hq
      exact ⟨hk, rfl⟩
    · rw [List.getElem?_eq_none (by rw [List.length_range]; omega)] at hq
      cases hq
  refine ⟨fun i j p q hi hj hpq => ?_, fun k q hq => ?_⟩
  · obtain ⟨a1, a2⟩ := key i p hi
    obtain ⟨b1, b2⟩ := key j q hj
    exact hI i j a1 b1 (by rw [← a2, ← b2]; exact hpq)
  · obtain ⟨a1, a2⟩ := key k q hq
    exact ⟨k, a1, a2⟩
theorem gw_set {g : GC} {h h1 : HP} {k : Nat} {e : va_E} (hk : k < g.2.2.2.2.1) (he : gcl g h1 k (g.2.2.2.2.2 k) = e) (ho : ∀ j, j < g.2.2.2.2.1 → j ≠ k → gcl g h1 j (g.2.2.2.2.2 j) = gcl g h j (g.2.2.2.2.2 j)) : (gw g h).set k (g.2.2.1 k, e) = gw g h1 := by
  apply List.ext_getElem?
  intro j
  by_cases hj : j < g.2.2.2.2.1
  · rw [gw_at hj]
    by_cases hjk : j = k
    · subst hjk
      rw [List.getElem?_set_self (by unfold gw; simpa using hj), he]
    · rw [List.getElem?_set_ne (Ne.symm hjk), gw_at hj, ho j hj hjk]
  · rw [List.getElem?_eq_none (by simp [gw]; omega), List.getElem?_eq_none (by simp [gw]; omega)]
theorem gcl_upA_ne {g : GC} {h : HP} {k j : Nat} {f : Nat → Int32} (hj : j ≠ k) (S : Shp) : gcl g (upA h k f) j S = gcl g h j S := by
  have e : (upA h k f).1 j = h.1 j := by simp [upA, hj]
  have e2 : (upA h k f).2 = h.2 := rfl
  rcases S with ⟨t, n⟩ | ⟨ci, ks⟩
  · match t with
    | 0 => simp only [gcl, e]
    | 1 => simp only [gcl, e]
    | t + 2 => simp only [gcl, e2]
  · simp only [gcl, e]
theorem gw_upA {g : GC} {h : HP} {k : Nat} {f : Nat → Int32} {e : va_E} (hk : k < g.2.2.2.2.1) (he : gcl g (upA h k f) k (g.2.2.2.2.2 k) = e) : (gw g h).set k (g.2.2.1 k, e) = gw g (upA h k f) :=
  gw_set hk he (fun _ _ hjk => gcl_upA_ne hjk _)
theorem gvl_get (ad : Nat → Nat) (f : Nat → Int32) : ∀ (ks : List Nat) (i j : Nat), (gvl ad f i ks)[j]? = match ks[j]? with
    | none => none
    | some 0 => some (.int (f (i + j)))
    | some 1 => some (.ref (ad (f (i + j)).toNatClampNeg))
    | some (n + 2) => some (.ref (ad n)) := by
  intro ks
  induction ks with
  | nil => intro i j; simp [gvl]
  | cons a r ih =>
    intro i j
    cases j with
    | zero =>
      match a with
      | 0 => simp [gvl]
      | 1 => simp [gvl]
      | n + 2 => simp [gvl]
    | succ j =>
      have e : i + 1 + j = i + (j + 1) := by omega
      match a with
      | 0 => simp only [gvl, List.getElem?_cons_succ]; rw [ih, e]
      | 1 => simp only [gvl, List.getElem?_cons_succ]; rw [ih, e]
      | n + 2 => simp only [gvl, List.getElem?_cons_succ]; rw [ih, e]
theorem gvl_len (ad : Nat → Nat) (f : Nat → Int32) : ∀ (ks : List Nat) (i : Nat), (gvl ad f i ks).length = ks.length := by
  intro ks
  induction ks with
  | nil => intro i; simp [gvl]
  | cons a r ih =>
    intro i
    match a with
    | 0 => simp [gvl, ih]
    | 1 => simp [gvl, ih]
    | n + 2 => simp [gvl, ih]
theorem gvl_set (ad : Nat → Nat) (f : Nat → Int32) {ks : List Nat} {j : Nat} {x : Int32} (hj : ks[j]? = some 0) : (gvl ad f 0 ks).set j (.int x) = gvl ad (upd f j x) 0 ks := by
  have hl : j < (gvl ad f 0 ks).length := by rw [gvl_len]; exact (List.getElem?_eq_some_iff.mp hj).1
  apply List.ext_getElem?
  intro i
  by_cases hi : i = j
  · subst hi
    rw [List.getElem?_set_self hl, gvl_get, hj]
    simp [upd]
  · rw [List.getElem?_set_ne (Ne.symm hi), gvl_get, gvl_get]
    have e : upd f j x (0 + i) = f (0 + i) := by simp [upd, hi]
    rw [e]
theorem gvl_setR (ad : Nat → Nat) (f : Nat → Int32) {ks : List Nat} {j n : Nat} {x : Int32} (hj : ks[j]? = some 1) (hx : x.toNatClampNeg = n) : (gvl ad f 0 ks).set j (.ref (ad n)) = gvl ad (upd f j x) 0 ks := by
  have hl : j < (gvl ad f 0 ks).length := by rw [gvl_len]; exact (List.getElem?_eq_some_iff.mp hj).1
  apply List.ext_getElem?
  intro i
  by_cases hi : i = j
  · subst hi
    rw [List.getElem?_set_self hl, gvl_get, hj]
    simp [upd, hx]
  · rw [List.getElem?_set_ne (Ne.symm hi), gvl_get, gvl_get]
    have e : upd f j x (0 + i) = f (0 + i) := by simp [upd, hi]
    rw [e]
def cellIs (g : GC) (k : Nat) (S : Shp) : Prop := k < g.2.2.2.2.1 ∧ g.2.2.2.2.2 k = S
theorem cellIs.w {g : GC} {k : Nat} {S : Shp} (c : cellIs g k S) (h : HP) : (gw g h)[k]? = some (g.2.2.1 k, gcl g h k S) := by rw [gw_at c.1, c.2]
theorem gStr.warm {g : GC} {s U : State} (hW : s.WarmedH U.vm) (hk : ∀ a : Nat, a < s.heap.size → ¬ gA g a → U.heap[a]? = s.heap[a]?) (h : gStr g s) : gStr g U := by
  obtain ⟨h1, h2, h3⟩ := h
  exact ⟨h1.warm hW, (h2.moved hW.alike).kept hk, (h3.moved hW.alike).kept hk⟩
theorem gStr.calling {g : GC} {U : State} {f : JFrame} {mk : MethodId} {a : Array Value} (h : gStr g U) : gStr g (U.calling f mk a) := by
  obtain ⟨h1, h2, h3⟩ := h
  exact ⟨vk_R.same (u := U) (U := U.calling f mk a) rfl h1, vk_S.moved (u := U) (U := U.calling f mk a) (Vm.Alike.refl U.vm) h2, va_Z.moved (u := U) (U := U.calling f mk a) (Vm.Alike.refl U.vm) h3⟩
theorem gK.warm {g : GC} {s U : State} {H : Heap} {locs : List Loc} (hW : s.WarmedH U.vm) (hS : va_S (gA g) s.heap H locs) (hU : U.heap = H) (h : gK g s) : gK g U := ⟨va_K.moved hW.alike h.1, fun q hq => va_Nw.warmM hW (h.2.1 q hq), h.2.2.warm hW (by rw [hU]; exact hS.2.1)⟩
theorem gK.calling {g : GC} {U : State} {f : JFrame} {mk : MethodId} {a : Array Value} (h : gK g U) : gK g (U.calling f mk a) := ⟨va_K.moved (u := U) (U := U.calling f mk a) (Vm.Alike.refl U.vm) h.1, fun q hq => va_Nw.same (u := U) (U := U.calling f mk a) rfl rfl (h.2.1 q hq), h.2.2.calling⟩
/-- a field: of which class's cells, which place; by an entry of the pool of the class own -/
def FLD (own : String) (idx ci j : Nat) : Prop := ∃ (C : String) (T : u_T) (N : Nat), vwCl[ci]? = some (C, T, N) ∧ (∀ w ∈ u_ws C T N, w ∈ TBL) ∧ j < N ∧ Cond.fieldLink own idx (T j).1 (T j).2.1 (T j).2.2.1 ∈ TBL
/-- and one that is written -/
def FPT (own : String) (idx ci j : Nat) (ty : FieldType) : Prop := ∃ (C : String) (T : u_T) (N : Nat) (ty0 : Nat → FieldType), vwCl[ci]? = some (C, T, N) ∧ (∀ w ∈ u_ws C T N, w ∈ TBL) ∧ j < N ∧ Cond.fieldLink own idx (T j).1 (T j).2.1 (T j).2.2.1 ∈ TBL ∧ (∀ k, k < N → parseFieldDescriptor (T k).2.2.1 = some (ty0 k)) ∧ (∀ a, a < N → ∀ b, b < N → a ≠ b → (T a).2.1 ≠ (T b).2.1) ∧ (T j).2.2.2 = false ∧ parseFieldDescriptor (T j).2.2.1 = some ty
section JS
variable {g : GC} {M : MD} {X : MX} {pc : Nat} {lv : List (Nat × Value)} {st : List Value} {h : HP} {d d1 d2 : Option (Int32 × HP)}
theorem j_iconst (E : JE g M X) {n : Int} {v : Int32} (hd : decode M.1 pc = .ok (.iconst n, 1)) (hv : Int32.ofInt n = v) (kk : J g M X (pc + 1) lv (.int v :: st) h d) : J g M X pc lv st h d := by
  intro r h1 e H locs ls hR hS hl0
  exact lv_iconst E.1 E.2.1 hd hv (kk r h1 e H locs ls hR hS hl0)
theorem j_bipush (E : JE g M X) {n : Int} {v : Int32} (hd : decode M.1 pc = .ok (.bipush n, 2)) (hv : (Int8.ofInt n).toInt32 = v) (kk : J g M X (pc + 2) lv (.int v :: st) h d) : J g M X pc lv st h d := by
  intro r h1 e H locs ls hR hS hl0
  exact lv_bipush E.1 E.2.1 hd hv (kk r h1 e H locs ls hR hS hl0)
theorem j_sipush (E : JE g M X) {n : Int} {v : Int32} (hd : decode M.1 pc = .ok (.sipush n, 3)) (hv : (Int16.ofInt n).toInt32 = v) (kk : J g M X (pc + 3) lv (.int v :: st) h d) : J g M X pc lv st h d := by
  intro r h1 e H locs ls hR hS hl0
  exact lv_sipush E.1 E.2.1 hd hv (kk r h1 e H locs ls hR hS hl0)
theorem j_ldc (E : JE g M X) {i : Nat} {v : Int32} (hc : Cond.constant M.2.2.1 i v ∈ TBL) (hd : decode M.1 pc = .ok (.ldc i, 2)) (kk : J g M X (pc + 2) lv (.int v :: st) h d) : J g M X pc lv st h d := by
  intro r h1 e H locs ls hR hS hl0
  exact lv_ldc E.1 E.2.1 E.2.2.2.2.1 (E.2.2.2.2.2.1 _ hc) hd (kk r h1 e H locs ls hR hS hl0)
theorem j_ldcw (E : JE g M X) {i : Nat} {v : Int32} (hc : Cond.constant M.2.2.1 i v ∈ TBL) (hd : decode M.1 pc = .ok (.ldc_w i, 3)) (kk : J g M X (pc + 3) lv (.int v :: st) h d) : J g M X pc lv st h d := by
  intro r h1 e H locs ls hR hS hl0
  exact lv_ldcw E.1 E.2.1 E.2.2.2.2.1 (E.2.2.2.2.2.1 _ hc) hd (kk r h1 e H locs ls hR hS hl0)
theorem j_ldc2 (E : JE g M X) {i : Nat} {v : Int64} (hc : Cond.constantLong M.2.2.1 i v ∈ TBL) (hd : decode M.1 pc = .ok (.ldc2_w i, 3)) (kk : J g M X (pc + 3) lv (.long v :: st) h d) : J g M X pc lv st h d := by
  intro r h1 e H locs ls hR hS hl0
  exact lv_ldc2 E.1 E.2.1 E.2.2.2.2.1 (E.2.2.2.2.2.1 _ hc) hd (kk r h1 e H locs ls hR hS hl0)
theorem j_iload (E : JE g M X) {i : Nat} {x : Int32} (hd : decode M.1 pc = .ok (.iload i, 2)) (q : Nat) (hl : lv[q]? = some (i, .int x)) (kk : J g M X (pc + 2) lv (.int x :: st) h d) : J g M X pc lv st h d := by
  intro r h1 e H locs ls hR hS hl0
  exact lv_iload E.1 E.2.1 hd (lv_at hl0 q hl) (kk r h1 e H locs ls hR hS hl0)
theorem j_iload_n (E : JE g M X) {k : Fin 4} {x : Int32} (hd : decode M.1 pc = .ok (.iload_n k, 1)) (q : Nat) (hl : lv[q]? = some (k.val, .int x)) (kk : J g M X (pc + 1) lv (.int x :: st) h d) : J g M X pc lv st h d := by
  intro r h1 e H locs ls hR hS hl0
  exact lv_iload_n E.1 E.2.1 hd rfl (lv_at hl0 q hl) (kk r h1 e H locs ls hR hS hl0)
theorem j_lload (E : JE g M X) {i : Nat} {x : Int64} (hd : decode M.1 pc = .ok (.lload i, 2)) (q : Nat) (hl : lv[q]? = some (i, .long x)) (kk : J g M X (pc + 2) lv (.long x :: st) h d) : J g M X pc lv st h d := by
  intro r h1 e H locs ls hR hS hl0
  exact lv_lload E.1 E.2.1 hd (lv_at hl0 q hl) (kk r h1 e H locs ls hR hS hl0)
theorem j_lload_n (E : JE g M X) {k : Fin 4} {x : Int64} (hd : decode M.1 pc = .ok (.lload_n k, 1)) (q : Nat) (hl : lv[q]? = some (k.val, .long x)) (kk : J g M X (pc + 1) lv (.long x :: st) h d) : J g M X pc lv st h d := by
  intro r h1 e H locs ls hR hS hl0
  exact lv_lload_n E.1 E.2.1 hd rfl (lv_at hl0 q hl) (kk r h1 e H locs ls hR hS hl0)
theorem j_aload (E : JE g M X) {i : Nat} {x : Nat} (hd : decode M.1 pc = .ok (.aload i, 2)) (q : Nat) (hl : lv[q]? = some (i, .ref x)) (kk : J g M X (pc + 2) lv (.ref x :: st) h d) : J g M X pc lv st h d := by
  intro r h1 e H locs ls hR hS hl0
  exact lv_aload E.1 E.2.1 hd (lv_at hl0 q hl) (kk r h1 e H locs ls hR hS hl0)
theorem j_aload_n (E : JE g M X) {k : Fin 4} {x : Nat} (hd : decode M.1 pc = .ok (.aload_n k, 1)) (q : Nat) (hl : lv[q]? = some (k.val, .ref x)) (kk : J g M X (pc + 1) lv (.ref x :: st) h d) : J g M X pc lv st h d := by
  intro r h1 e H locs ls hR hS hl0
  exact lv_aload_n E.1 E.2.1 hd rfl (lv_at hl0 q hl) (kk r h1 e H locs ls hR hS hl0)
theorem j_istore (E : JE g M X) {i : Nat} {x : Int32} {f : Int32 → Option (Int32 × HP)} (hd : decode M.1 pc = .ok (.istore i, 2)) (hn : i < M.2.1) (lv1 : Int32 → List (Nat × Value)) (hl : ∀ y, (i, Value.int y) :: lv.filter (fun q => !(q.1 == i) && !(q.1 + 1 == i && q.2.category == 2)) = lv1 y) (kk : ∀ y, J g M X (pc + 2) (lv1 y) st h (f y)) : J g M X pc lv (.int x :: st) h (lt x f) := by
  intro r h1 e H locs ls hR hS hl0
  exact lv_istore E.1 E.2.1 hd hl0 hn (hl x) (fun ls hl1 => kk x r h1 e H locs ls hR hS hl1)
theorem j_istore_n (E : JE g M X) {k : Fin 4} {x : Int32} {f : Int32 → Option (Int32 × HP)} (hd : decode M.1 pc = .ok (.istore_n k, 1)) (hn : k.val < M.2.1) (lv1 : Int32 → List (Nat × Value)) (hl : ∀ y, (k.val, Value.int y) :: lv.filter (fun q => !(q.1 == k.val) && !(q.1 + 1 == k.val && q.2.category == 2)) = lv1 y) (kk : ∀ y, J g M X (pc + 1) (lv1 y) st h (f y)) : J g M X pc lv (.int x :: st) h (lt x f) := by
  intro r h1 e H locs ls hR hS hl0
  exact lv_istore_n E.1 E.2.1 hd rfl hl0 hn (hl x) (fun ls hl1 => kk x r h1 e H locs ls hR hS hl1)
theorem j_istore0 (E : JE g M X) {i : Nat} {x : Int32} (hd : decode M.1 pc = .ok (.istore i, 2)) (hn : i < M.2.1) (lv1 : List (Nat × Value)) (hl : (i, Value.int x) :: lv.filter (fun q => !(q.1 == i) && !(q.1 + 1 == i && q.2.category == 2)) = lv1) (kk : J g M X (pc + 2) lv1 st h d) : J g M X pc lv (Value.int x :: st) h d := by
  intro r h1 e H locs ls hR hS hl0
  exact lv_istore E.1 E.2.1 hd hl0 hn hl (fun ls hl1 => kk r h1 e H locs ls hR hS hl1)
theorem j_istore0_n (E : JE g M X) {k : Fin 4} {x : Int32} (hd : decode M.1 pc = .ok (.istore_n k, 1)) (hn : k.val < M.2.1) (lv1 : List (Nat × Value)) (hl : (k.val, Value.int x) :: lv.filter (fun q => !(q.1 == k.val) && !(q.1 + 1 == k.val && q.2.category == 2)) = lv1) (kk : J g M X (pc + 1) lv1 st h d) : J g M X pc lv (Value.int x :: st) h d := by
  intro r h1 e H locs ls hR hS hl0
  exact lv_istore_n E.1 E.2.1 hd rfl hl0 hn hl (fun ls hl1 => kk r h1 e H locs ls hR hS hl1)
theorem j_astore (E : JE g M X) {i : Nat} {x : Nat} (hd : decode M.1 pc = .ok (.astore i, 2)) (hn : i < M.2.1) (lv1 : List (Nat × Value)) (hl : (i, Value.ref x) :: lv.filter (fun q => !(q.1 == i) && !(q.1 + 1 == i && q.2.category == 2)) = lv1) (kk : J g M X (pc + 2) lv1 st h d) : J g M X pc lv (Value.ref x :: st) h d := by
  intro r h1 e H locs ls hR hS hl0
  exact lv_astore E.1 E.2.1 hd hl0 hn hl (fun ls hl1 => kk r h1 e H locs ls hR hS hl1)
theorem j_astore_n (E : JE g M X) {k : Fin 4} {x : Nat} (hd : decode M.1 pc = .ok (.astore_n k, 1)) (hn : k.val < M.2.1) (lv1 : List (Nat × Value)) (hl : (k.val, Value.ref x) :: lv.filter (fun q => !(q.1 == k.val) && !(q.1 + 1 == k.val && q.2.category == 2)) = lv1) (kk : J g M X (pc + 1) lv1 st h d) : J g M X pc lv (Value.ref x :: st) h d := by
  intro r h1 e H locs ls hR hS hl0
  exact lv_astore_n E.1 E.2.1 hd rfl hl0 hn hl (fun ls hl1 => kk r h1 e H locs ls hR hS hl1)
theorem j_iinc (E : JE g M X) {i : Nat} {n : Int} {x c : Int32} {f : Int32 → Option (Int32 × HP)} (hd : decode M.1 pc = .ok (.iinc i n, 3)) (q : Nat) (hq : lv[q]? = some (i, .int x)) (hc : Int32.ofInt n = c) (hn : i < M.2.1) (lv1 : Int32 → List (Nat × Value)) (hl : ∀ y, (i, Value.int y) :: lv.filter (fun q => !(q.1 == i) && !(q.1 + 1 == i && q.2.category == 2)) = lv1 y) (kk : ∀ y, J g M X (pc + 3) (lv1 y) st h (f y)) : J g M X pc lv st h (lt (x + c) f) := by
  intro r h1 e H locs ls hR hS hl0
  exact lv_iinc E.1 E.2.1 hd hl0 hq (by rw [hc]) hn (hl _) (fun ls hl1 => kk _ r h1 e H locs ls hR hS hl1)
theorem j_iadd (E : JE g M X) {x y : Int32} (hd : decode M.1 pc = .ok (.iadd, 1)) (kk : J g M X (pc + 1) lv (.int (x + y) :: st) h d) : J g M X pc lv (.int y :: .int x :: st) h d := by
  intro r h1 e H locs ls hR hS hl0
  exact lv_iadd E.1 E.2.1 hd (kk r h1 e H locs ls hR hS hl0)
theorem j_isub (E : JE g M X) {x y : Int32} (hd : decode M.1 pc = .ok (.isub, 1)) (kk : J g M X (pc + 1) lv (.int (x - y) :: st) h d) : J g M X pc lv (.int y :: .int x :: st) h d := by
  intro r h1 e H locs ls hR hS hl0
  exact lv_isub E.1 E.2.1 hd (kk r h1 e H locs ls hR hS hl0)
theorem j_imul (E : JE g M X) {x y : Int32} (hd : decode M.1 pc = .ok (.imul, 1)) (kk : J g M X (pc + 1) lv (.int (x * y) :: st) h d) : J g M X pc lv (.int y :: .int x :: st) h d := by
  intro r h1 e H locs ls hR hS hl0
  exact lv_imul E.1 E.2.1 hd (kk r h1 e H locs ls hR hS hl0)
theorem j_iand (E : JE g M X) {x y : Int32} (hd : decode M.1 pc = .ok (.iand, 1)) (kk : J g M X (pc + 1) lv (.int (x &&& y) :: st) h d) : J g M X pc lv (.int y :: .int x :: st) h d := by
  intro r h1 e H locs ls hR hS hl0
  exact lv_iand E.1 E.2.1 hd (kk r h1 e H locs ls hR hS hl0)
theorem j_ior (E : JE g M X) {x y : Int32} (hd : decode M.1 pc = .ok (.ior, 1)) (kk : J g M X (pc + 1) lv (.int (x ||| y) :: st) h d) : J g M X pc lv (.int y :: .int x :: st) h d := by
  intro r h1 e H locs ls hR hS hl0
  exact lv_ior E.1 E.2.1 hd (kk r h1 e H locs ls hR hS hl0)
theorem j_ixor (E : JE g M X) {x y : Int32} (hd : decode M.1 pc = .ok (.ixor, 1)) (kk : J g M X (pc + 1) lv (.int (x ^^^ y) :: st) h d) : J g M X pc lv (.int y :: .int x :: st) h d := by
  intro r h1 e H locs ls hR hS hl0
  exact lv_ixor E.1 E.2.1 hd (kk r h1 e H locs ls hR hS hl0)
theorem j_ishl (E : JE g M X) {x y : Int32} (hd : decode M.1 pc = .ok (.ishl, 1)) (kk : J g M X (pc + 1) lv (.int (x <<< (y &&& 31)) :: st) h d) : J g M X pc lv (.int y :: .int x :: st) h d := by
  intro r h1 e H locs ls hR hS hl0
  exact lv_ishl E.1 E.2.1 hd (kk r h1 e H locs ls hR hS hl0)
theorem j_ishr (E : JE g M X) {x y : Int32} (hd : decode M.1 pc = .ok (.ishr, 1)) (kk : J g M X (pc + 1) lv (.int (x >>> (y &&& 31)) :: st) h d) : J g M X pc lv (.int y :: .int x :: st) h d := by
  intro r h1 e H locs ls hR hS hl0
  exact lv_ishr E.1 E.2.1 hd (kk r h1 e H locs ls hR hS hl0)
theorem j_iushr (E : JE g M X) {x y : Int32} (hd : decode M.1 pc = .ok (.iushr, 1)) (kk : J g M X (pc + 1) lv (.int (x.toUInt32 >>> (y.toUInt32 &&& Int32.toUInt32 31)).toInt32 :: st) h d) : J g M X pc lv (.int y :: .int x :: st) h d := by
  intro r h1 e H locs ls hR hS hl0
  exact lv_iushr E.1 E.2.1 hd rfl (kk r h1 e H locs ls hR hS hl0)
theorem j_ineg (E : JE g M X) {x : Int32} (hd : decode M.1 pc = .ok (.ineg, 1)) (kk : J g M X (pc + 1) lv (.int (-x) :: st) h d) : J g M X pc lv (.int x :: st) h d := by
  intro r h1 e H locs ls hR hS hl0
  exact lv_ineg E.1 E.2.1 hd (kk r h1 e H locs ls hR hS hl0)
theorem j_idivc (E : JE g M X) {x y : Int32} (hne : ¬ y = 0) (hd : decode M.1 pc = .ok (.idiv, 1)) (kk : J g M X (pc + 1) lv (.int (x / y) :: st) h d) : J g M X pc lv (.int y :: .int x :: st) h d := by
  intro r h1 e H locs ls hR hS hl0
  exact lv_idiv E.1 E.2.1 hd hne (kk r h1 e H locs ls hR hS hl0)
theorem j_idiv (E : JE g M X) {x y : Int32} {f : Int32 → Option (Int32 × HP)} (hd : decode M.1 pc = .ok (.idiv, 1)) (kk : ∀ z, J g M X (pc + 1) lv (.int z :: st) h (f z)) : J g M X pc lv (.int y :: .int x :: st) h (dvd x y f) := by
  intro r h1 e H locs ls hR hS hl0
  unfold dvd at e
  split at e
  · cases e
  · rename_i hne
    exact lv_idiv E.1 E.2.1 hd hne (kk _ r h1 e H locs ls hR hS hl0)
theorem j_iremc (E : JE g M X) {x y : Int32} (hne : ¬ y = 0) (hd : decode M.1 pc = .ok (.irem, 1)) (kk : J g M X (pc + 1) lv (.int (x - x / y * y) :: st) h d) : J g M X pc lv (.int y :: .int x :: st) h d := by
  intro r h1 e H locs ls hR hS hl0
  exact lv_irem E.1 E.2.1 hd hne (kk r h1 e H locs ls hR hS hl0)
theorem j_irem (E : JE g M X) {x y : Int32} {f : Int32 → Option (Int32 × HP)} (hd : decode M.1 pc = .ok (.irem, 1)) (kk : ∀ z, J g M X (pc + 1) lv (.int z :: st) h (f z)) : J g M X pc lv (.int y :: .int x :: st) h (rmd x y f) := by
  intro r h1 e H locs ls hR hS hl0
  unfold rmd at e
  split at e
  · cases e
  · rename_i hne
    exact lv_irem E.1 E.2.1 hd hne (kk _ r h1 e H locs ls hR hS hl0)
theorem j_land (E : JE g M X) {x y : Int64} (hd : decode M.1 pc = .ok (.land, 1)) (kk : J g M X (pc + 1) lv (.long (x &&& y) :: st) h d) : J g M X pc lv (.long y :: .long x :: st) h d := by
  intro r h1 e H locs ls hR hS hl0
  exact lv_land E.1 E.2.1 hd (kk r h1 e H locs ls hR hS hl0)
theorem j_lor (E : JE g M X) {x y : Int64} (hd : decode M.1 pc = .ok (.lor, 1)) (kk : J g M X (pc + 1) lv (.long (x ||| y) :: st) h d) : J g M X pc lv (.long y :: .long x :: st) h d := by
  intro r h1 e H locs ls hR hS hl0
  exact lv_lor E.1 E.2.1 hd (kk r h1 e H locs ls hR hS hl0)
theorem j_lxor (E : JE g M X) {x y : Int64} (hd : decode M.1 pc = .ok (.lxor, 1)) (kk : J g M X (pc + 1) lv (.long (x ^^^ y) :: st) h d) : J g M X pc lv (.long y :: .long x :: st) h d := by
  intro r h1 e H locs ls hR hS hl0
  exact lv_lxor E.1 E.2.1 hd (kk r h1 e H locs ls hR hS hl0)
theorem j_ladd (E : JE g M X) {x y : Int64} (hd : decode M.1 pc = .ok (.ladd, 1)) (kk : J g M X (pc + 1) lv (.long (x + y) :: st) h d) : J g M X pc lv (.long y :: .long x :: st) h d := by
  intro r h1 e H locs ls hR hS hl0
  exact lv_ladd E.1 E.2.1 hd (kk r h1 e H locs ls hR hS hl0)
theorem j_lushr (E : JE g M X) {x : Int64} {y : Int32} (hd : decode M.1 pc = .ok (.lushr, 1)) (kk : J g M X (pc + 1) lv (.long (x.toUInt64 >>> (y.toInt64.toUInt64 &&& Int64.toUInt64 63)).toInt64 :: st) h d) : J g M X pc lv (.int y :: .long x :: st) h d := by
  intro r h1 e H locs ls hR hS hl0
  exact lv_lushr E.1 E.2.1 hd rfl (kk r h1 e H locs ls hR hS hl0)
theorem j_lshl (E : JE g M X) {x : Int64} {y : Int32} (hd : decode M.1 pc = .ok (.lshl, 1)) (kk : J g M X (pc + 1) lv (.long (x <<< (y.toInt64 &&& 63)) :: st) h d) : J g M X pc lv (.int y :: .long x :: st) h d := by
  intro r h1 e H locs ls hR hS hl0
  exact lv_lshl E.1 E.2.1 hd rfl (kk r h1 e H locs ls hR hS hl0)
theorem j_i2l (E : JE g M X) {x : Int32} (hd : decode M.1 pc = .ok (.i2l, 1)) (kk : J g M X (pc + 1) lv (.long (x.toInt64) :: st) h d) : J g M X pc lv (.int x :: st) h d := by
  intro r h1 e H locs ls hR hS hl0
  exact lv_i2l E.1 E.2.1 hd rfl (kk r h1 e H locs ls hR hS hl0)
theorem j_l2i (E : JE g M X) {x : Int64} (hd : decode M.1 pc = .ok (.l2i, 1)) (kk : J g M X (pc + 1) lv (.int (x.toInt32) :: st) h d) : J g M X pc lv (.long x :: st) h d := by
  intro r h1 e H locs ls hR hS hl0
  exact lv_l2i E.1 E.2.1 hd rfl (kk r h1 e H locs ls hR hS hl0)
theorem j_i2b (E : JE g M X) {x : Int32} (hd : decode M.1 pc = .ok (.i2b, 1)) (kk : J g M X (pc + 1) lv (.int (x.toInt8.toInt32) :: st) h d) : J g M X pc lv (.int x :: st) h d := by
  intro r h1 e H locs ls hR hS hl0
  exact lv_i2b E.1 E.2.1 hd rfl (kk r h1 e H locs ls hR hS hl0)
theorem j_i2c (E : JE g M X) {x : Int32} (hd : decode M.1 pc = .ok (.i2c, 1)) (kk : J g M X (pc + 1) lv (.int ((x.toUInt32 % 65536).toInt32) :: st) h d) : J g M X pc lv (.int x :: st) h d := by
  intro r h1 e H locs ls hR hS hl0
  exact lv_i2c E.1 E.2.1 hd rfl (kk r h1 e H locs ls hR hS hl0)
theorem j_dup (E : JE g M X) {v : Value} (hd : decode M.1 pc = .ok (.dup, 1)) (hv : v.category = 1) (kk : J g M X (pc + 1) lv (v :: v :: st) h d) : J g M X pc lv (v :: st) h d := by
  intro r h1 e H locs ls hR hS hl0
  exact lv_dup E.1 E.2.1 hd hv (kk r h1 e H locs ls hR hS hl0)
theorem j_pop (E : JE g M X) {v : Value} (hd : decode M.1 pc = .ok (.pop, 1)) (hv : v.category = 1) (kk : J g M X (pc + 1) lv st h d) : J g M X pc lv (v :: st) h d := by
  intro r h1 e H locs ls hR hS hl0
  exact lv_pop E.1 E.2.1 hd hv (kk r h1 e H locs ls hR hS hl0)
theorem j_dup2 (E : JE g M X) {v w : Value} (hd : decode M.1 pc = .ok (.dup2, 1)) (hv : v.category = 1) (hw : w.category = 1) (kk : J g M X (pc + 1) lv (v :: w :: v :: w :: st) h d) : J g M X pc lv (v :: w :: st) h d := by
  intro r h1 e H locs ls hR hS hl0
  exact lv_dup2_11 E.1 E.2.1 hd hv hw (kk r h1 e H locs ls hR hS hl0)
theorem j_if_eq (E : JE g M X) {x : Int32} {off : Int} (tgt : Nat) (hd : decode M.1 pc = .ok (.ifCond .eq off, 3)) (ht : (pc : Int) + off = (tgt : Int)) (kt : J g M X tgt lv st h d1) (kf : J g M X (pc + 3) lv st h d2) : J g M X pc lv (.int x :: st) h (if x = 0 then d1 else d2) := by
  intro r h1 e H locs ls hR hS hl0
  refine lv_if_eq E.1 E.2.1 (tgt := tgt) hd ht (fun hc => ?_) (fun hc => ?_)
  · exact kt r h1 (by first | rwa [if_pos hc] at e | (simp [hc] at e; exact e)) H locs ls hR hS hl0
  · exact kf r h1 (by first | rwa [if_neg hc] at e | (simp [hc] at e; exact e)) H locs ls hR hS hl0
theorem j_cmp_eq (E : JE g M X) {x y : Int32} {off : Int} (tgt : Nat) (hd : decode M.1 pc = .ok (.if_icmp .eq off, 3)) (ht : (pc : Int) + off = (tgt : Int)) (kt : J g M X tgt lv st h d1) (kf : J g M X (pc + 3) lv st h d2) : J g M X pc lv (.int y :: .int x :: st) h (if x = y then d1 else d2) := by
  intro r h1 e H locs ls hR hS hl0
  refine lv_icmp_eq E.1 E.2.1 (tgt := tgt) hd ht (fun hc => ?_) (fun hc => ?_)
  · exact kt r h1 (by first | rwa [if_pos hc] at e | (simp [hc] at e; exact e)) H locs ls hR hS hl0
  · exact kf r h1 (by first | rwa [if_neg hc] at e | (simp [hc] at e; exact e)) H locs ls hR hS hl0
theorem j_if_ne (E : JE g M X) {x : Int32} {off : Int} (tgt : Nat) (hd : decode M.1 pc = .ok (.ifCond .ne off, 3)) (ht : (pc : Int) + off = (tgt : Int)) (kt : J g M X tgt lv st h d1) (kf : J g M X (pc + 3) lv st h d2) : J g M X pc lv (.int x :: st) h (if x ≠ 0 then d1 else d2) := by
  intro r h1 e H locs ls hR hS hl0
  refine lv_if_ne E.1 E.2.1 (tgt := tgt) hd ht (fun hc => ?_) (fun hc => ?_)
  · exact kt r h1 (by first | rwa [if_pos hc] at e | (simp [hc] at e; exact e)) H locs ls hR hS hl0
  · exact kf r h1 (by first | rwa [if_neg hc] at e | (simp [hc] at e; exact e)) H locs ls hR hS hl0
theorem j_cmp_ne (E : JE g M X) {x y : Int32} {off : Int} (tgt : Nat) (hd : decode M.1 pc = .ok (.if_icmp .ne off, 3)) (ht : (pc : Int) + off = (tgt : Int)) (kt : J g M X tgt lv st h d1) (kf : J g M X (pc + 3) lv st h d2) : J g M X pc lv (.int y :: .int x :: st) h (if x ≠ y then d1 else d2) := by
  intro r h1 e H locs ls hR hS hl0
  refine lv_icmp_ne E.1 E.2.1 (tgt := tgt) hd ht (fun hc => ?_) (fun hc => ?_)
  · exact kt r h1 (by first | rwa [if_pos hc] at e | (simp [hc] at e; exact e)) H locs ls hR hS hl0
  · exact kf r h1 (by first | rwa [if_neg hc] at e | (simp [hc] at e; exact e)) H locs ls hR hS hl0
theorem j_if_lt (E : JE g M X) {x : Int32} {off : Int} (tgt : Nat) (hd : decode M.1 pc = .ok (.ifCond .lt off, 3)) (ht : (pc : Int) + off = (tgt : Int)) (kt : J g M X tgt lv st h d1) (kf : J g M X (pc + 3) lv st h d2) : J g M X pc lv (.int x :: st) h (if x < 0 then d1 else d2) := by
  intro r h1 e H locs ls hR hS hl0
  refine lv_if_lt E.1 E.2.1 (tgt := tgt) hd ht (fun hc => ?_) (fun hc => ?_)
  · exact kt r h1 (by first | rwa [if_pos hc] at e | (simp [hc] at e; exact e)) H locs ls hR hS hl0
  · exact kf r h1 (by first | rwa [if_neg hc] at e | (simp [hc] at e; exact e)) H locs ls hR hS hl0
theorem j_cmp_lt (E : JE g M X) {x y : Int32} {off : Int} (tgt : Nat) (hd : decode M.1 pc = .ok (.if_icmp .lt off, 3)) (ht : (pc : Int) + off = (tgt : Int)) (kt : J g M X tgt lv st h d1) (kf : J g M X (pc + 3) lv st h d2) : J g M X pc lv (.int y :: .int x :: st) h (if x < y then d1 else d2) := by
  intro r h1 e H locs ls hR hS hl0
  refine lv_icmp_lt E.1 E.2.1 (tgt := tgt) hd ht (fun hc => ?_) (fun hc => ?_)
  · exact kt r h1 (by first | rwa [if_pos hc] at e | (simp [hc] at e; exact e)) H locs ls hR hS hl0
  · exact kf r h1 (by first | rwa [if_neg hc] at e | (simp [hc] at e; exact e)) H locs ls hR hS hl0
theorem j_if_ge (E : JE g M X) {x : Int32} {off : Int} (tgt : Nat) (hd : decode M.1 pc = .ok (.ifCond .ge off, 3)) (ht : (pc : Int) + off = (tgt : Int)) (kt : J g M X tgt lv st h d1) (kf : J g M X (pc + 3) lv st h d2) : J g M X pc lv (.int x :: st) h (if 0 ≤ x then d1 else d2) := by
  intro r h1 e H locs ls hR hS hl0
  refine lv_if_ge E.1 E.2.1 (tgt := tgt) hd ht (fun hc => ?_) (fun hc => ?_)
  · exact kt r h1 (by first | rwa [if_pos hc] at e | (simp [hc] at e; exact e)) H locs ls hR hS hl0
  · exact kf r h1 (by first | rwa [if_neg hc] at e | (simp [hc] at e; exact e)) H locs ls hR hS hl0
theorem j_cmp_ge (E : JE g M X) {x y : Int32} {off : Int} (tgt : Nat) (hd : decode M.1 pc = .ok (.if_icmp .ge off, 3)) (ht : (pc : Int) + off = (tgt : Int)) (kt : J g M X tgt lv st h d1) (kf : J g M X (pc + 3) lv st h d2) : J g M X pc lv (.int y :: .int x :: st) h (if y ≤ x then d1 else d2) := by
  intro r h1 e H locs ls hR hS hl0
  refine lv_icmp_ge E.1 E.2.1 (tgt := tgt) hd ht (fun hc => ?_) (fun hc => ?_)
  · exact kt r h1 (by first | rwa [if_pos hc] at e | (simp [hc] at e; exact e)) H locs ls hR hS hl0
  · exact kf r h1 (by first | rwa [if_neg hc] at e | (simp [hc] at e; exact e)) H locs ls hR hS hl0
theorem j_if_gt (E : JE g M X) {x : Int32} {off : Int} (tgt : Nat) (hd : decode M.1 pc = .ok (.ifCond .gt off, 3)) (ht : (pc : Int) + off = (tgt : Int)) (kt : J g M X tgt lv st h d1) (kf : J g M X (pc + 3) lv st h d2) : J g M X pc lv (.int x :: st) h (if 0 < x then d1 else d2) := by
  intro r h1 e H locs ls hR hS hl0
  refine lv_if_gt E.1 E.2.1 (tgt := tgt) hd ht (fun hc => ?_) (fun hc => ?_)
  · exact kt r h1 (by first | rwa [if_pos hc] at e | (simp [hc] at e; exact e)) H locs ls hR hS hl0
  · exact kf r h1 (by first | rwa [if_neg hc] at e | (simp [hc] at e; exact e)) H locs ls hR hS hl0
theorem j_cmp_gt (E : JE g M X) {x y : Int32} {off : Int} (tgt : Nat) (hd : decode M.1 pc = .ok (.if_icmp .gt off, 3)) (ht : (pc : Int) + off = (tgt : Int)) (kt : J g M X tgt lv st h d1) (kf : J g M X (pc + 3) lv st h d2) : J g M X pc lv (.int y :: .int x :: st) h (if y < x then d1 else d2) := by
  intro r h1 e H locs ls hR hS hl0
  refine lv_icmp_gt E.1 E.2.1 (tgt := tgt) hd ht (fun hc => ?_) (fun hc => ?_)
  · exact kt r h1 (by first | rwa [if_pos hc] at e | (simp [hc] at e; exact e)) H locs ls hR hS hl0
  · exact kf r h1 (by first | rwa [if_neg hc] at e | (simp [hc] at e; exact e)) H locs ls hR hS hl0
theorem j_if_le (E : JE g M X) {x : Int32} {off : Int} (tgt : Nat) (hd : decode M.1 pc = .ok (.ifCond .le off, 3)) (ht : (pc : Int) + off = (tgt : Int)) (kt : J g M X tgt lv st h d1) (kf : J g M X (pc + 3) lv st h d2) : J g M X pc lv (.int x :: st) h (if x ≤ 0 then d1 else d2) := by
  intro r h1 e H locs ls hR hS hl0
  refine lv_if_le E.1 E.2.1 (tgt := tgt) hd ht (fun hc => ?_) (fun hc => ?_)
  · exact kt r h1 (by first | rwa [if_pos hc] at e | (simp [hc] at e; exact e)) H locs ls hR hS hl0
  · exact kf r h1 (by first | rwa [if_neg hc] at e | (simp [hc] at e; exact e)) H locs ls hR hS hl0
theorem j_cmp_le (E : JE g M X) {x y : Int32} {off : Int} (tgt : Nat) (hd : decode M.1 pc = .ok (.if_icmp .le off, 3)) (ht : (pc : Int) + off = (tgt : Int)) (kt : J g M X tgt lv st h d1) (kf : J g M X (pc + 3) lv st h d2) : J g M X pc lv (.int y :: .int x :: st) h (if x ≤ y then d1 else d2) := by
  intro r h1 e H locs ls hR hS hl0
  refine lv_icmp_le E.1 E.2.1 (tgt := tgt) hd ht (fun hc => ?_) (fun hc => ?_)
  · exact kt r h1 (by first | rwa [if_pos hc] at e | (simp [hc] at e; exact e)) H locs ls hR hS hl0
  · exact kf r h1 (by first | rwa [if_neg hc] at e | (simp [hc] at e; exact e)) H locs ls hR hS hl0
theorem j_goto (E : JE g M X) {off : Int} (tgt : Nat) (hd : decode M.1 pc = .ok (.goto off, 3)) (ht : (pc : Int) + off = (tgt : Int)) (kk : J g M X tgt lv st h d) : J g M X pc lv st h d := by
  intro r h1 e H locs ls hR hS hl0
  exact lv_goto E.1 E.2.1 hd ht (kk r h1 e H locs ls hR hS hl0)
theorem j_sub (ks : List Nat) {lv1 : List (Nat × Value)} (hl : lv_pick lv ks = lv1) (kk : J g M X pc lv1 st h d) : J g M X pc lv st h d := by
  intro r h1 e H locs ls hR hS hl0
  exact kk r h1 e H locs ls hR hS (lv_sub hl0 ks hl)
theorem j_none  : J g M X pc lv st h none := by
  intro r h1 e
  cases e
theorem j_iok {c : Prop} [Decidable c] (kk : c → J g M X pc lv st h d) : J g M X pc lv st h (iok c d) := by
  intro r h1 e H locs ls hR hS hl0
  unfold iok at e
  split at e
  · rename_i hc
    exact kk hc r h1 e H locs ls hR hS hl0
  · cases e
theorem j_ireturn (E : JE g M X) {v : Int32} (hr : M.2.2.2.1 = some .int) (hd : decode M.1 pc = .ok (.ireturn, 1)) : J g M X pc lv [.int v] h (some (v, h)) := by
  intro r h1 e H locs ls hR hS hl0
  have e1 := Option.some.inj e
  simp only [Prod.mk.injEq] at e1
  obtain ⟨rfl, rfl⟩ := e1
  have hlk : X.2.2.2.2.2.2.1.locks = false := E.2.2.2.2.2.2.2.2
  refine W.iret E.1 E.2.1 (by rw [E.2.2.1, hr]) (fun t ht hW => ?_) (fun q hq => hS.2.2 q hq) hd hlk
  rw [hr]
  exact ⟨⟨v, h, rfl, ⟨rfl, rfl⟩, by show gR g h t.heap; rw [ht]; exact hR⟩, hS.F ht⟩
theorem j_zreturn (E : JE g M X) {v : Int32} (hr : M.2.2.2.1 = some .boolean) (hd : decode M.1 pc = .ok (.ireturn, 1)) : J g M X pc lv [.int v] h (zok v (some (v, h))) := by
  intro r h1 e H locs ls hR hS hl0
  unfold zok at e
  split at e
  · rename_i hv
    have e1 := Option.some.inj e
    simp only [Prod.mk.injEq] at e1
    obtain ⟨rfl, rfl⟩ := e1
    have hlk : X.2.2.2.2.2.2.1.locks = false := E.2.2.2.2.2.2.2.2
    refine W.zret (ty := .boolean) E.1 E.2.1 (by rw [E.2.2.1, hr]) (by rcases hv with rfl | rfl <;> decide) (fun t ht hW => ?_) (fun q hq => hS.2.2 q hq) hd hlk
    rw [hr]
    exact ⟨⟨v, h, rfl, ⟨rfl, rfl⟩, by show gR g h t.heap; rw [ht]; exact hR⟩, hS.F ht⟩
  · cases e
theorem j_vreturn (E : JE g M X) (hr : M.2.2.2.1 = none) (hd : decode M.1 pc = .ok (.return_, 1)) : J g M X pc lv [] h (some (0, h)) := by
  intro r h1 e H locs ls hR hS hl0
  have e1 := Option.some.inj e
  simp only [Prod.mk.injEq] at e1
  obtain ⟨rfl, rfl⟩ := e1
  have hlk : X.2.2.2.2.2.2.1.locks = false := E.2.2.2.2.2.2.2.2
  refine W.vret E.1 E.2.1 (by rw [E.2.2.1, hr]) (fun t ht hW => ?_) (fun q hq => hS.2.2 q hq) hd hlk
  rw [hr]
  exact ⟨⟨h, rfl, rfl, by show gR g h t.heap; rw [ht]; exact hR⟩, hS.F ht⟩
theorem j_geti (E : JE g M X) {idx ci j k : Nat} {ks : List Nat} (f : FLD M.2.2.1 idx ci j) (c : cellIs g k (.inr (ci, ks))) (hj : ks[j]? = some 0) (hd : decode M.1 pc = .ok (.getfield idx, 3)) (kk : J g M X (pc + 3) lv (.int (h.1 k j) :: st) h d) : J g M X pc lv (.ref (g.2.2.1 k) :: st) h d := by
  intro r h1 e H locs ls hR hS hl0
  obtain ⟨C, T, N, a1, a2, a3, a4⟩ := f
  have hc := c.w h
  refine va_get E.1 E.2.1 (own := M.2.2.1) E.2.2.2.2.2.1 a2 E.2.2.2.2.1 E.2.2.2.2.2.2.1.1 hR k (fs := gvl g.2.2.1 (h.1 k) 0 ks) hc a1 j a3 (E.2.2.2.2.2.1 _ a4) (fun x hx => hx) (v := .int (h.1 k j)) ?_ hd (kk r h1 e H locs ls hR hS hl0)
  rw [gvl_get, hj]
  simp
theorem j_getr (E : JE g M X) {idx ci j k : Nat} {ks : List Nat} (f : FLD M.2.2.1 idx ci j) (c : cellIs g k (.inr (ci, ks))) (n : Nat) (hj : ks[j]? = some (n + 2)) (hd : decode M.1 pc = .ok (.getfield idx, 3)) (kk : J g M X (pc + 3) lv (.ref (g.2.2.1 n) :: st) h d) : J g M X pc lv (.ref (g.2.2.1 k) :: st) h d := by
  intro r h1 e H locs ls hR hS hl0
  obtain ⟨C, T, N, a1, a2, a3, a4⟩ := f
  have hc := c.w h
  refine va_get E.1 E.2.1 (own := M.2.2.1) E.2.2.2.2.2.1 a2 E.2.2.2.2.1 E.2.2.2.2.2.2.1.1 hR k (fs := gvl g.2.2.1 (h.1 k) 0 ks) hc a1 j a3 (E.2.2.2.2.2.1 _ a4) (fun x hx => hx) (v := .ref (g.2.2.1 n)) ?_ hd (kk r h1 e H locs ls hR hS hl0)
  rw [gvl_get, hj]
theorem j_getc (E : JE g M X) {idx ci j k : Nat} {ks : List Nat} (f : FLD M.2.2.1 idx ci j) (c : cellIs g k (.inr (ci, ks))) (hj : ks[j]? = some 1) (hd : decode M.1 pc = .ok (.getfield idx, 3)) (kk : J g M X (pc + 3) lv (.ref (g.2.2.1 (h.1 k j).toNatClampNeg) :: st) h d) : J g M X pc lv (.ref (g.2.2.1 k) :: st) h d := by
  intro r h1 e H locs ls hR hS hl0
  obtain ⟨C, T, N, a1, a2, a3, a4⟩ := f
  have hc := c.w h
  refine va_get E.1 E.2.1 (own := M.2.2.1) E.2.2.2.2.2.1 a2 E.2.2.2.2.1 E.2.2.2.2.2.2.1.1 hR k (fs := gvl g.2.2.1 (h.1 k) 0 ks) hc a1 j a3 (E.2.2.2.2.2.1 _ a4) (fun x hx => hx) (v := .ref (g.2.2.1 (h.1 k j).toNatClampNeg)) ?_ hd (kk r h1 e H locs ls hR hS hl0)
  rw [gvl_get, hj]
  simp
theorem j_puti (E : JE g M X) {idx ci j k : Nat} {ks : List Nat} {v : Int32} {f : HP → Option (Int32 × HP)} (fp : FPT M.2.2.1 idx ci j .int) (c : cellIs g k (.inr (ci, ks))) (hj : ks[j]? = some 0) (hd : decode M.1 pc = .ok (.putfield idx, 3)) (kk : ∀ h1, J g M X (pc + 3) lv st h1 (f h1)) : J g M X pc lv (.int v :: .ref (g.2.2.1 k) :: st) h (lt (up h k j v) f) := by
  intro r h1 e H locs ls hR hS hl0
  obtain ⟨C, T, N, ty0, a1, a2, a3, a4, a5, a6, a7, a8⟩ := fp
  have hc := c.w h
  refine va_put E.1 E.2.1 (own := M.2.2.1) E.2.2.2.2.2.1 a2 ty0 a5 a6 E.2.2.2.2.1 E.2.2.2.2.2.2.1.1 hR (gw_D E.2.2.2.2.2.2.2.1 h) hS k (fs := gvl g.2.2.1 (h.1 k) 0 ks) hc a1 j a3 (E.2.2.2.2.2.1 _ a4) (fun x hx => hx) a7 (v := .int v) a8 rfl rfl (by rw [gvl_len]; exact (List.getElem?_eq_some_iff.mp hj).1) hd (fun H1 locs1 hP1 hD1 hS1 => ?_)
  rw [gvl_set g.2.2.1 (h.1 k) hj, gw_upA (f := upd (h.1 k) j v) c.1 (by rw [c.2]; simp only [gcl, upA, if_pos])] at hP1
  exact kk _ r h1 e H1 locs1 ls hP1 hS1 hl0
theorem j_putz (E : JE g M X) {idx ci j k : Nat} {ks : List Nat} {v : Int32} {f : HP → Option (Int32 × HP)} (fp : FPT M.2.2.1 idx ci j .boolean) (c : cellIs g k (.inr (ci, ks))) (hj : ks[j]? = some 0) (hd : decode M.1 pc = .ok (.putfield idx, 3)) (kk : ∀ h1, J g M X (pc + 3) lv st h1 (f h1)) : J g M X pc lv (.int v :: .ref (g.2.2.1 k) :: st) h (zok v (lt (up h k j v) f)) := by
  intro r h1 e H locs ls hR hS hl0
  unfold zok at e
  split at e
  · rename_i hv
    obtain ⟨C, T, N, ty0, a1, a2, a3, a4, a5, a6, a7, a8⟩ := fp
    have hc := c.w h
    refine va_put E.1 E.2.1 (own := M.2.2.1) E.2.2.2.2.2.1 a2 ty0 a5 a6 E.2.2.2.2.1 E.2.2.2.2.2.2.1.1 hR (gw_D E.2.2.2.2.2.2.2.1 h) hS k (fs := gvl g.2.2.1 (h.1 k) 0 ks) hc a1 j a3 (E.2.2.2.2.2.1 _ a4) (fun x hx => hx) a7 (v := .int v) a8 (by rcases hv with rfl | rfl <;> decide) (by rcases hv with rfl | rfl <;> decide) (by rw [gvl_len]; exact (List.getElem?_eq_some_iff.mp hj).1) hd (fun H1 locs1 hP1 hD1 hS1 => ?_)
    rw [gvl_set g.2.2.1 (h.1 k) hj, gw_upA (f := upd (h.1 k) j v) c.1 (by rw [c.2]; simp only [gcl, upA, if_pos])] at hP1
    exact kk _ r h1 e H1 locs1 ls hP1 hS1 hl0
  · cases e
theorem j_putr (E : JE g M X) {idx ci j k n : Nat} {C0 : String} {ks : List Nat} {v : Int32} {f : HP → Option (Int32 × HP)} (fp : FPT M.2.2.1 idx ci j (.object C0)) (c : cellIs g k (.inr (ci, ks))) (hj : ks[j]? = some 1) (hv : v.toNatClampNeg = n) (hd : decode M.1 pc = .ok (.putfield idx, 3)) (kk : ∀ h1, J g M X (pc + 3) lv st h1 (f h1)) : J g M X pc lv (.ref (g.2.2.1 n) :: .ref (g.2.2.1 k) :: st) h (lt (up h k j v) f) := by
  intro r h1 e H locs ls hR hS hl0
  obtain ⟨C, T, N, ty0, a1, a2, a3, a4, a5, a6, a7, a8⟩ := fp
  have hc := c.w h
  refine va_put E.1 E.2.1 (own := M.2.2.1) E.2.2.2.2.2.1 a2 ty0 a5 a6 E.2.2.2.2.1 E.2.2.2.2.2.2.1.1 hR (gw_D E.2.2.2.2.2.2.2.1 h) hS k (fs := gvl g.2.2.1 (h.1 k) 0 ks) hc a1 j a3 (E.2.2.2.2.2.1 _ a4) (fun x hx => hx) a7 (v := .ref (g.2.2.1 n)) a8 rfl rfl (by rw [gvl_len]; exact (List.getElem?_eq_some_iff.mp hj).1) hd (fun H1 locs1 hP1 hD1 hS1 => ?_)
  rw [gvl_setR g.2.2.1 (h.1 k) hj hv, gw_upA (f := upd (h.1 k) j v) c.1 (by rw [c.2]; simp only [gcl, upA, if_pos])] at hP1
  exact kk _ r h1 e H1 locs1 ls hP1 hS1 hl0
theorem j_iald (E : JE g M X) {k n : Nat} {i : Int32} {f : Int32 → Option (Int32 × HP)} (c : cellIs g k (.inl (0, n))) (hd : decode M.1 pc = .ok (.iaload, 1)) (kk : ∀ v, J g M X (pc + 1) lv (.int v :: st) h (f v)) : J g M X pc lv (.int i :: .ref (g.2.2.1 k) :: st) h (ald h k n i f) := by
  intro r h1 e H locs ls hR hS hl0
  unfold ald at e
  split at e
  · cases e
  · rename_i hin
    exact va_iald E.1 E.2.1 E.2.2.2.2.2.2.1.1 hR k 0 (f := h.1 k) (c.w h) rfl hin hd (kk _ r h1 e H locs ls hR hS hl0)
theorem j_bald (E : JE g M X) {k n : Nat} {i : Int32} {f : Int32 → Option (Int32 × HP)} (c : cellIs g k (.inl (1, n))) (hd : decode M.1 pc = .ok (.baload, 1)) (kk : ∀ v, J g M X (pc + 1) lv (.int v :: st) h (f v)) : J g M X pc lv (.int i :: .ref (g.2.2.1 k) :: st) h (ald h k n i f) := by
  intro r h1 e H locs ls hR hS hl0
  unfold ald at e
  split at e
  · cases e
  · rename_i hin
    exact va_bald E.1 E.2.1 E.2.2.2.2.2.2.1.1 hR k 1 (f := h.1 k) (c.w h) rfl hin hd (kk _ r h1 e H locs ls hR hS hl0)
theorem j_lald (E : JE g M X) {k n : Nat} {i : Int32} {f : Int64 → Option (Int32 × HP)} (c : cellIs g k (.inl (2, n))) (hd : decode M.1 pc = .ok (.laload, 1)) (kk : ∀ v, J g M X (pc + 1) lv (.long v :: st) h (f v)) : J g M X pc lv (.int i :: .ref (g.2.2.1 k) :: st) h (alL h n i f) := by
  intro r h1 e H locs ls hR hS hl0
  unfold alL at e
  split at e
  · cases e
  · rename_i hin
    exact va_lald E.1 E.2.1 E.2.2.2.2.2.2.1.1 hR k 2 (f := h.2) (c.w h) rfl hin hd (kk _ r h1 e H locs ls hR hS hl0)
theorem j_iast (E : JE g M X) {k n : Nat} {i x : Int32} {f : HP → Option (Int32 × HP)} (c : cellIs g k (.inl (0, n))) (hd : decode M.1 pc = .ok (.iastore, 1)) (kk : ∀ h1, J g M X (pc + 1) lv st h1 (f h1)) : J g M X pc lv (.int x :: .int i :: .ref (g.2.2.1 k) :: st) h (ast h k n i x f) := by
  intro r h1 e H locs ls hR hS hl0
  unfold ast at e
  split at e
  · cases e
  · rename_i hin
    refine va_iast E.1 E.2.1 E.2.2.2.2.2.2.1.1 hR (gw_D E.2.2.2.2.2.2.2.1 h) hS k 0 (f := h.1 k) (c.w h) rfl hin hd (fun H1 locs1 hP1 hD1 hS1 => ?_)
    (try rw [vp_nar_byte] at hP1)
    rw [gw_upA (f := upd (h.1 k) i.toNatClampNeg (x)) c.1 (by rw [c.2]; simp only [gcl, upA, if_pos])] at hP1
    exact kk _ r h1 e H1 locs1 ls hP1 hS1 hl0
theorem j_bast (E : JE g M X) {k n : Nat} {i x : Int32} {f : HP → Option (Int32 × HP)} (c : cellIs g k (.inl (1, n))) (hd : decode M.1 pc = .ok (.bastore, 1)) (kk : ∀ h1, J g M X (pc + 1) lv st h1 (f h1)) : J g M X pc lv (.int x :: .int i :: .ref (g.2.2.1 k) :: st) h (ast h k n i x.toInt8.toInt32 f) := by
  intro r h1 e H locs ls hR hS hl0
  unfold ast at e
  split at e
  · cases e
  · rename_i hin
    refine va_bast E.1 E.2.1 E.2.2.2.2.2.2.1.1 hR (gw_D E.2.2.2.2.2.2.2.1 h) hS k 1 (f := h.1 k) (c.w h) rfl hin hd (fun H1 locs1 hP1 hD1 hS1 => ?_)
    (try rw [vp_nar_byte] at hP1)
    rw [gw_upA (f := upd (h.1 k) i.toNatClampNeg (x.toInt8.toInt32)) c.1 (by rw [c.2]; simp only [gcl, upA, if_pos])] at hP1
    exact kk _ r h1 e H1 locs1 ls hP1 hS1 hl0
theorem j_last (E : JE g M X) {k n : Nat} {i : Int32} {x : Int64} {f : HP → Option (Int32 × HP)} (c : cellIs g k (.inl (2, n))) (hu : ∀ j, j < g.2.2.2.2.1 → j ≠ k → ∀ t m, g.2.2.2.2.2 j ≠ .inl (t + 2, m)) (hd : decode M.1 pc = .ok (.lastore, 1)) (kk : ∀ h1, J g M X (pc + 1) lv st h1 (f h1)) : J g M X pc lv (.long x :: .int i :: .ref (g.2.2.1 k) :: st) h (asL h n i x f) := by
  intro r h1 e H locs ls hR hS hl0
  unfold asL at e
  split at e
  · cases e
  · rename_i hin
    refine va_last E.1 E.2.1 E.2.2.2.2.2.2.1.1 hR (gw_D E.2.2.2.2.2.2.2.1 h) hS k 2 (f := h.2) (c.w h) rfl hin hd (fun H1 locs1 hP1 hD1 hS1 => ?_)
    rw [gw_set (h1 := upL h i.toNatClampNeg x) c.1 (by rw [c.2]; rfl) (fun j hj hjk => by
      have h3 := hu j hj hjk
      generalize g.2.2.2.2.2 j = S at h3
      rcases S with ⟨t, m⟩ | ⟨ci, ks⟩
      · match t, h3 with
        | 0, _ => rfl
        | 1, _ => rfl
        | t + 2, h3 => exact absurd rfl (h3 t m)
      · rfl)] at hP1
    exact kk _ r h1 e H1 locs1 ls hP1 hS1 hl0
theorem j_alen (E : JE g M X) {k n t : Nat} {v : Int32} (c : cellIs g k (.inl (t, n))) (ht : t < 2) (hv : Int32.ofNat n = v) (hd : decode M.1 pc = .ok (.arraylength, 1)) (kk : J g M X (pc + 1) lv (.int v :: st) h d) : J g M X pc lv (.ref (g.2.2.1 k) :: st) h d := by
  intro r h1 e H locs ls hR hS hl0
  match t, ht, c with
  | 0, _, c => exact va_alen E.1 E.2.1 E.2.2.2.2.2.2.1.1 hR k 0 (x := (n, .inl (h.1 k))) (c.w h) (ty := .int) rfl hv hd (kk r h1 e H locs ls hR hS hl0)
  | 1, _, c => exact va_alen E.1 E.2.1 E.2.2.2.2.2.2.1.1 hR k 1 (x := (n, .inl (h.1 k))) (c.w h) (ty := .byte) rfl hv hd (kk r h1 e H locs ls hR hS hl0)
/-- a call by the pool's entry idx of the class own, of a method y of code M1, n arguments -/
def CLB (own : String) (idx : Nat) (y : MethodName) (M1 : MD) (n : Nat) : Prop := Cond.methodLink own idx y ∈ TBL ∧ Cond.code y M1.1 M1.2.1 M1.2.2.2.1 ∈ TBL ∧ Cond.initialized y.cls ∈ TBL ∧ (y.cls ≠ "java/lang/invoke/MethodHandle" ∧ y.cls ≠ "java/lang/invoke/VarHandle" ∧ (parseMethodDescriptor y.desc).map (fun d => d.parameters.length) = some n)
def CLV (own : String) (idx ci : Nat) (y : MethodName) (M1 : MD) (n : Nat) : Prop := CLB own idx y M1 n ∧ Cond.instanceMethod y ∈ TBL ∧ ∃ q : vw_C, vwCl[ci]? = some q ∧ Cond.selects q.1 y y ∈ TBL
def CLS (own : String) (idx : Nat) (y : MethodName) (M1 : MD) (n : Nat) : Prop := CLB own idx y M1 n ∧ Cond.static y ∈ TBL
def CLN (own : String) (idx : Nat) (y : MethodName) (M1 : MD) (n : Nat) : Prop := (own, idx, y) ∈ lw_nest ∧ Cond.code y M1.1 M1.2.1 M1.2.2.2.1 ∈ TBL ∧ Cond.initialized y.cls ∈ TBL ∧ (y.cls ≠ "java/lang/invoke/MethodHandle" ∧ y.cls ≠ "java/lang/invoke/VarHandle" ∧ (parseMethodDescriptor y.desc).map (fun d => d.parameters.length) = some n) ∧ Cond.static y ∈ TBL
theorem gQ_i {g : GC} {ret : Option FieldType} {r : Int32} {h1 : HP} {ty : FieldType} (hv : ret = some ty) : gQ g ret r h1 = va_Qi (fun v (u : HP) => v = r ∧ u = h1) (fun u t => gR g u t.heap) (gA g) := by subst hv; rfl
theorem gQ_v {g : GC} {ret : Option FieldType} {r : Int32} {h1 : HP} (hv : ret = none) : gQ g ret r h1 = va_Qv (fun u : HP => u = h1) (fun u t => gR g u t.heap) (gA g) := by subst hv; rfl
def RMS (M1 M : MD) : Prop := M1.2.2.2.2.1 + 1 ≤ M.2.2.2.2.1 ∧ 8 + (M1.2.1 + 11) + M1.2.2.2.2.2 ≤ M.2.2.2.2.2
theorem g_blind {g : GC} {as : List Value} {h : HP} : FrameBlind (va_Pc as (fun U => gR g h U.heap ∧ gK g U)) := fun _ _ _ _ q => ⟨q.1, q.2.1, q.2.2.calling⟩
theorem g_callB (E : JE g M X) {idx n : Nat} {y : MethodName} {M1 : MD} (b : CLB M.2.2.1 idx y M1 n) (hr : RMS M1 M) : CallB (gRm M) X.2.2.1 X.2.2.2.2.1 M.2.2.1 idx y M1.1 M1.2.1 M1.2.2.2.1 (Cond.code y M1.1 M1.2.1 M1.2.2.2.1 :: TBL) (gRm M1) 0 0 n := by
  exact callB_of n E.2.2.2.2.2.1 (tb_good b.2.1) rfl rfl rfl (E.2.2.2.2.2.1 _ b.2.2.1) (E.2.2.2.2.2.1 _ b.1) b.2.2.2 hr
theorem j_callvI (E : JE g M X) {idx ci k n : Nat} {ks : List Nat} {y : MethodName} {M1 : MD} {As : List Value} {dm : Option (Int32 × HP)} {f : Int32 → HP → Option (Int32 × HP)} (hO : Ok g y M1 (.ref (g.2.2.1 k) :: As) h dm) (c : cellIs g k (.inr (ci, ks))) (b : CLV M.2.2.1 idx ci y M1 n) (hr : RMS M1 M) {ty : FieldType} (hv : M1.2.2.2.1 = some ty) (hn : As.length = n) (hst : (st.map fun v => v.category).sum ≤ 8) (hd : decode M.1 pc = .ok (.invokevirtual idx, 3)) (kk : ∀ v h1, J g M X (pc + 3) lv (.int v :: st) h1 (f v h1)) : J g M X pc lv (As.reverse ++ .ref (g.2.2.1 k) :: st) h (cl dm f) := by
  intro r h1 e H locs ls hR hS hl0
  cases hdm : dm with
  | none => rw [hdm] at e; cases e
  | some qdm =>
    obtain ⟨v0q, h0q⟩ := qdm
    rw [hdm] at e
    have hM := hO v0q h0q hdm
    change f v0q h0q = some (r, h1) at e
    obtain ⟨q0, a1, a2⟩ := b.2.2
    rw [gQ_i hv] at hM
    refine va_calli (va_runV (As := As) (rest := st) ⟨E.1, E.2.1, E.2.2.2.1, E.2.2.2.2.1, E.2.2.2.2.2.1⟩ hM ⟨g_callB E b.1 hr, E.2.2.2.2.2.1 _ b.2.1, E.2.2.2.2.2.1 _ a2⟩ ⟨g_blind, va_recv E.2.2.2.2.2.2.1.1 hR a1 (c.w h), fun U hU hW => ⟨rfl, by rw [hU]; exact hR, E.2.2.2.2.2.2.1.warm hW hS hU⟩⟩ rfl hn hl0.1 rfl (lv_room hst) hd ⟨Nat.le_refl 0, Nat.le_refl 0⟩) hS (fun q _ h => h) (fun q h => h) (fun vq uq tq H1 locs1 ht hvm hw hB hz hk hS1 => ?_)
    obtain ⟨rfl, rfl⟩ := hw
    exact kk vq uq r h1 e H1 locs1 ls (by rw [← ht]; exact hB) hS1 hl0
theorem j_callsI (E : JE g M X) {idx n : Nat} {y : MethodName} {M1 : MD} {As : List Value} {dm : Option (Int32 × HP)} {f : Int32 → HP → Option (Int32 × HP)} (hO : Ok g y M1 As h dm) (b : CLS M.2.2.1 idx y M1 n) (hr : RMS M1 M) {ty : FieldType} (hv : M1.2.2.2.1 = some ty) (hn : As.length = n) (hst : (st.map fun v => v.category).sum ≤ 8) (hd : decode M.1 pc = .ok (.invokestatic idx, 3)) (kk : ∀ v h1, J g M X (pc + 3) lv (.int v :: st) h1 (f v h1)) : J g M X pc lv (As.reverse ++ st) h (cl dm f) := by
  intro r h1 e H locs ls hR hS hl0
  cases hdm : dm with
  | none => rw [hdm] at e; cases e
  | some qdm =>
    obtain ⟨v0q, h0q⟩ := qdm
    rw [hdm] at e
    have hM := hO v0q h0q hdm
    change f v0q h0q = some (r, h1) at e
    rw [gQ_i hv] at hM
    refine va_calli (va_runS (As := As) (rest := st) ⟨E.1, E.2.1, E.2.2.2.1, E.2.2.2.2.1, E.2.2.2.2.2.1⟩ hM ⟨g_callB E b.1 hr, E.2.2.2.2.2.1 _ b.2⟩ ⟨g_blind, fun U hU hW => ⟨rfl, by rw [hU]; exact hR, E.2.2.2.2.2.2.1.warm hW hS hU⟩⟩ rfl hn hl0.1 rfl (lv_room hst) hd ⟨Nat.le_refl 0, Nat.le_refl 0⟩) hS (fun q _ h => h) (fun q h => h) (fun vq uq tq H1 locs1 ht hvm hw hB hz hk hS1 => ?_)
    obtain ⟨rfl, rfl⟩ := hw
    exact kk vq uq r h1 e H1 locs1 ls (by rw [← ht]; exact hB) hS1 hl0
theorem j_callnI (E : JE g M X) {idx n : Nat} {y : MethodName} {M1 : MD} {As : List Value} {dm : Option (Int32 × HP)} {f : Int32 → HP → Option (Int32 × HP)} (hO : Ok g y M1 As h dm) (b : CLN M.2.2.1 idx y M1 n) (hr : RMS M1 M) {ty : FieldType} (hv : M1.2.2.2.1 = some ty) (hn : As.length = n) (hst : (st.map fun v => v.category).sum ≤ 8) (hd : decode M.1 pc = .ok (.invokestatic idx, 3)) (kk : ∀ v h1, J g M X (pc + 3) lv (.int v :: st) h1 (f v h1)) : J g M X pc lv (As.reverse ++ st) h (cl dm f) := by
  intro r h1 e H locs ls hR hS hl0
  cases hdm : dm with
  | none => rw [hdm] at e; cases e
  | some qdm =>
    obtain ⟨v0q, h0q⟩ := qdm
    rw [hdm] at e
    have hM := hO v0q h0q hdm
    change f v0q h0q = some (r, h1) at e
    rw [gQ_i hv] at hM
    refine va_calli (va_runSN (host := "SorrowPipes") (As := As) (rest := st) ⟨E.1, E.2.1, E.2.2.2.1, E.2.2.2.2.1, E.2.2.2.2.2.1⟩ hM ⟨va_cnB n E.2.2.2.2.2.1 (tb_good b.2.1) rfl rfl rfl (E.2.2.2.2.2.2.1.2.1 _ b.1) (E.2.2.2.2.2.1 _ b.2.2.1) b.2.2.2.1 hr, E.2.2.2.2.2.1 _ b.2.2.2.2, trivial⟩ ⟨g_blind, fun U hU hW => ⟨rfl, by rw [hU]; exact hR, E.2.2.2.2.2.2.1.warm hW hS hU⟩⟩ rfl hn hl0.1 rfl (lv_room hst) hd ⟨Nat.le_refl 0, Nat.le_refl 0⟩) hS (fun q _ h => h) (fun q h => h) (fun vq uq tq H1 locs1 ht hvm hw hB hz hk hS1 => ?_)
    obtain ⟨rfl, rfl⟩ := hw
    exact kk vq uq r h1 e H1 locs1 ls (by rw [← ht]; exact hB) hS1 hl0
theorem j_callvV (E : JE g M X) {idx ci k n : Nat} {ks : List Nat} {y : MethodName} {M1 : MD} {As : List Value} {dm : Option (Int32 × HP)} {f : Int32 → HP → Option (Int32 × HP)} (hO : Ok g y M1 (.ref (g.2.2.1 k) :: As) h dm) (c : cellIs g k (.inr (ci, ks))) (b : CLV M.2.2.1 idx ci y M1 n) (hr : RMS M1 M) (hv : M1.2.2.2.1 = none) (hn : As.length = n) (hst : (st.map fun v => v.category).sum ≤ 8) (hd : decode M.1 pc = .ok (.invokevirtual idx, 3)) (kk : ∀ v h1, J g M X (pc + 3) lv st h1 (f v h1)) : J g M X pc lv (As.reverse ++ .ref (g.2.2.1 k) :: st) h (cl dm f) := by
  intro r h1 e H locs ls hR hS hl0
  cases hdm : dm with
  | none => rw [hdm] at e; cases e
  | some qdm =>
    obtain ⟨v0q, h0q⟩ := qdm
    rw [hdm] at e
    have hM := hO v0q h0q hdm
    change f v0q h0q = some (r, h1) at e
    obtain ⟨q0, a1, a2⟩ := b.2.2
    rw [gQ_v hv] at hM
    refine va_callv (va_runV (As := As) (rest := st) ⟨E.1, E.2.1, E.2.2.2.1, E.2.2.2.2.1, E.2.2.2.2.2.1⟩ hM ⟨g_callB E b.1 hr, E.2.2.2.2.2.1 _ b.2.1, E.2.2.2.2.2.1 _ a2⟩ ⟨g_blind, va_recv E.2.2.2.2.2.2.1.1 hR a1 (c.w h), fun U hU hW => ⟨rfl, by rw [hU]; exact hR, E.2.2.2.2.2.2.1.warm hW hS hU⟩⟩ rfl hn hl0.1 rfl (lv_room hst) hd ⟨Nat.le_refl 0, Nat.le_refl 0⟩) hS (fun q _ h => h) (fun q h => h) (fun uq tq H1 locs1 ht hvm hw hB hz hk hS1 => ?_)
    subst hw
    exact kk v0q uq r h1 e H1 locs1 ls (by rw [← ht]; exact hB) hS1 hl0
theorem j_callsV (E : JE g M X) {idx n : Nat} {y : MethodName} {M1 : MD} {As : List Value} {dm : Option (Int32 × HP)} {f : Int32 → HP → Option (Int32 × HP)} (hO : Ok g y M1 As h dm) (b : CLS M.2.2.1 idx y M1 n) (hr : RMS M1 M) (hv : M1.2.2.2.1 = none) (hn : As.length = n) (hst : (st.map fun v => v.category).sum ≤ 8) (hd : decode M.1 pc = .ok (.invokestatic idx, 3)) (kk : ∀ v h1, J g M X (pc + 3) lv st h1 (f v h1)) : J g M X pc lv (As.reverse ++ st) h (cl dm f) := by
  intro r h1 e H locs ls hR hS hl0
  cases hdm : dm with
  | none => rw [hdm] at e; cases e
  | some qdm =>
    obtain ⟨v0q, h0q⟩ := qdm
    rw [hdm] at e
    have hM := hO v0q h0q hdm
    change f v0q h0q = some (r, h1) at e
    rw [gQ_v hv] at hM
    refine va_callv (va_runS (As := As) (rest := st) ⟨E.1, E.2.1, E.2.2.2.1, E.2.2.2.2.1, E.2.2.2.2.2.1⟩ hM ⟨g_callB E b.1 hr, E.2.2.2.2.2.1 _ b.2⟩ ⟨g_blind, fun U hU hW => ⟨rfl, by rw [hU]; exact hR, E.2.2.2.2.2.2.1.warm hW hS hU⟩⟩ rfl hn hl0.1 rfl (lv_room hst) hd ⟨Nat.le_refl 0, Nat.le_refl 0⟩) hS (fun q _ h => h) (fun q h => h) (fun uq tq H1 locs1 ht hvm hw hB hz hk hS1 => ?_)
    subst hw
    exact kk v0q uq r h1 e H1 locs1 ls (by rw [← ht]; exact hB) hS1 hl0
theorem j_callnV (E : JE g M X) {idx n : Nat} {y : MethodName} {M1 : MD} {As : List Value} {dm : Option (Int32 × HP)} {f : Int32 → HP → Option (Int32 × HP)} (hO : Ok g y M1 As h dm) (b : CLN M.2.2.1 idx y M1 n) (hr : RMS M1 M) (hv : M1.2.2.2.1 = none) (hn : As.length = n) (hst : (st.map fun v => v.category).sum ≤ 8) (hd : decode M.1 pc = .ok (.invokestatic idx, 3)) (kk : ∀ v h1, J g M X (pc + 3) lv st h1 (f v h1)) : J g M X pc lv (As.reverse ++ st) h (cl dm f) := by
  intro r h1 e H locs ls hR hS hl0
  cases hdm : dm with
  | none => rw [hdm] at e; cases e
  | some qdm =>
    obtain ⟨v0q, h0q⟩ := qdm
    rw [hdm] at e
    have hM := hO v0q h0q hdm
    change f v0q h0q = some (r, h1) at e
    rw [gQ_v hv] at hM
    refine va_callv (va_runSN (host := "SorrowPipes") (As := As) (rest := st) ⟨E.1, E.2.1, E.2.2.2.1, E.2.2.2.2.1, E.2.2.2.2.2.1⟩ hM ⟨va_cnB n E.2.2.2.2.2.1 (tb_good b.2.1) rfl rfl rfl (E.2.2.2.2.2.2.1.2.1 _ b.1) (E.2.2.2.2.2.1 _ b.2.2.1) b.2.2.2.1 hr, E.2.2.2.2.2.1 _ b.2.2.2.2, trivial⟩ ⟨g_blind, fun U hU hW => ⟨rfl, by rw [hU]; exact hR, E.2.2.2.2.2.2.1.warm hW hS hU⟩⟩ rfl hn hl0.1 rfl (lv_room hst) hd ⟨Nat.le_refl 0, Nat.le_refl 0⟩) hS (fun q _ h => h) (fun q h => h) (fun uq tq H1 locs1 ht hvm hw hB hz hk hS1 => ?_)
    subst hw
    exact kk v0q uq r h1 e H1 locs1 ls (by rw [← ht]; exact hB) hS1 hl0
theorem j_mmax (E : JE g M X) {idx : Nat} {x y : Int32} (b1 : Cond.methodLink M.2.2.1 idx Lib.Math.max.name ∈ TBL) (b2 : Cond.static Lib.Math.max.name ∈ TBL) (b3 : Cond.initialized "java/lang/Math" ∈ TBL) (b4 : Cond.code Lib.Math.max.name Lib.Math.max.code 2 (some .int) ∈ TBL) (hf : 1 ≤ M.2.2.2.2.1) (hlc : (st.map fun v => v.category).sum + 13 ≤ M.2.2.2.2.2) (hd : decode M.1 pc = .ok (.invokestatic idx, 3)) (kk : J g M X (pc + 3) lv (.int (if x < y then y else x) :: st) h d) : J g M X pc lv (.int y :: .int x :: st) h d := by
  intro r h1 e H locs ls hR hS hl0
  exact va_mmax E.1 E.2.1 (by rw [E.2.2.2.1]; exact hl0.1.symm) E.2.2.2.2.1 (E.2.2.2.2.2.1 _ b1) (E.2.2.2.2.2.1 _ b2) (E.2.2.2.2.2.1 _ b3) (E.2.2.2.2.2.1 _ b4) hf hlc (Nat.le_refl 0) (Nat.le_refl 0) hd (kk r h1 e H locs ls hR hS hl0)
theorem j_mmin (E : JE g M X) {idx : Nat} {x y : Int32} (b1 : Cond.methodLink M.2.2.1 idx Lib.Math.min.name ∈ TBL) (b2 : Cond.static Lib.Math.min.name ∈ TBL) (b3 : Cond.initialized "java/lang/Math" ∈ TBL) (b4 : Cond.code Lib.Math.min.name Lib.Math.min.code 2 (some .int) ∈ TBL) (hf : 1 ≤ M.2.2.2.2.1) (hlc : (st.map fun v => v.category).sum + 13 ≤ M.2.2.2.2.2) (hd : decode M.1 pc = .ok (.invokestatic idx, 3)) (kk : J g M X (pc + 3) lv (.int (if y < x then y else x) :: st) h d) : J g M X pc lv (.int y :: .int x :: st) h d := by
  intro r h1 e H locs ls hR hS hl0
  exact va_mmin E.1 E.2.1 (by rw [E.2.2.2.1]; exact hl0.1.symm) E.2.2.2.2.1 (E.2.2.2.2.2.1 _ b1) (E.2.2.2.2.2.1 _ b2) (E.2.2.2.2.2.1 _ b3) (E.2.2.2.2.2.1 _ b4) hf hlc (Nat.le_refl 0) (Nat.le_refl 0) hd (kk r h1 e H locs ls hR hS hl0)
def cpyA (h : HP) (ks kd n : Nat) : HP := upA h kd (va_cpy (h.1 ks) (h.1 kd) 0 0 n)
theorem j_copy (E : JE g M X) {idx k0 k1 n0 n1 : Nat} {n : Int32} {m : Nat} {f : HP → Option (Int32 × HP)} (c0 : cellIs g k0 (.inl (0, n0))) (c1 : cellIs g k1 (.inl (0, n1))) (b1 : Cond.methodLink M.2.2.1 idx arraycopyName ∈ TBL) (b2 : Cond.native arraycopyName ∈ TBL) (b3 : Cond.static arraycopyName ∈ TBL) (b4 : Cond.initialized "java/lang/System" ∈ TBL) (hm : n.toNatClampNeg = m) (hn : ¬ n < 0) (h4 : m ≤ n0) (h5 : m ≤ n1) (hf : 1 ≤ M.2.2.2.2.1) (hlc : (st.map fun v => v.category).sum + (nativeFrameWords "java/lang/System" "arraycopy" 5 + 11) ≤ M.2.2.2.2.2) (hd : decode M.1 pc = .ok (.invokestatic idx, 3)) (kk : ∀ h1, J g M X (pc + 3) lv st h1 (f h1)) : J g M X pc lv (.int n :: .int 0 :: .ref (g.2.2.1 k1) :: .int 0 :: .ref (g.2.2.1 k0) :: st) h (lt (cpyA h k0 k1 m) f) := by
  intro r h1 e H locs ls hR hS hl0
  subst hm
  refine va_copyi E.1 E.2.1 (by rw [E.2.2.2.1]; exact hl0.1.symm) E.2.2.2.2.1 (E.2.2.2.2.2.1 _ b1) (E.2.2.2.2.2.1 _ b2) (E.2.2.2.2.2.1 _ b3) (E.2.2.2.2.2.1 _ b4) E.2.2.2.2.2.2.1.1 hR (gw_D E.2.2.2.2.2.2.2.1 h) hS k0 k1 0 0 (f := h.1 k0) (g := h.1 k1) (c0.w h) (c1.w h) rfl rfl (ty := .int) rfl (sp := 0) (dp := 0) (by decide) (by decide) hn (by rw [sb_cl0]; omega) (by rw [sb_cl0]; omega) (fun i _ => rfl) hf hlc hd (fun H1 locs1 hP1 hD1 hS1 => ?_)
  rw [sb_cl0, gw_upA (f := va_cpy (h.1 k0) (h.1 k1) 0 0 n.toNatClampNeg) c1.1 (by rw [c1.2]; simp only [gcl, upA, if_pos])] at hP1
  exact kk _ r h1 e H1 locs1 ls hP1 hS1 hl0
theorem j_tab (E : JE g M X) {dflt lo hi : Int} {offs : Array Int} {len : Nat} {x : Int32} {off : Int} (v : Int32) (tgt : Nat) (hd : decode M.1 pc = .ok (.tableswitch dflt lo hi offs, len)) (h1 : ¬ v.toInt < lo) (h2 : ¬ hi < v.toInt) (ho : offs[(v.toInt - lo).toNat]? = some off) (ht : (pc : Int) + off = (tgt : Int)) (kt : J g M X tgt lv st h d1) (kf : x ≠ v → J g M X pc lv (.int x :: st) h d2) : J g M X pc lv (.int x :: st) h (if x = v then d1 else d2) := by
  by_cases hx : x = v
  · subst hx
    rw [if_pos rfl]
    intro r h3 e H locs ls hR hS hl0
    exact lv_tableIn E.1 E.2.1 hd h1 h2 ho ht (kt r h3 e H locs ls hR hS hl0)
  · rw [if_neg hx]
    exact kf hx
theorem j_tabd (E : JE g M X) {dflt lo hi : Int} {offs : Array Int} {len : Nat} {x : Int32} (tgt : Nat) (hd : decode M.1 pc = .ok (.tableswitch dflt lo hi offs, len)) (hx : x.toInt < lo ∨ hi < x.toInt) (ht : (pc : Int) + dflt = (tgt : Int)) (kt : J g M X tgt lv st h d) : J g M X pc lv (.int x :: st) h d := by
  intro r h1 e H locs ls hR hS hl0
  exact lv_tableOut E.1 E.2.1 hd hx ht (kt r h1 e H locs ls hR hS hl0)
theorem j_look (E : JE g M X) {dflt : Int} {ps : Array (Int × Int)} {len : Nat} {x : Int32} {off : Int} (v : Int32) (tgt : Nat) (hd : decode M.1 pc = .ok (.lookupswitch dflt ps, len)) (hp : (ps.toList.zip (ps.toList.drop 1)).all (fun (a, next) => a.1 < next.1) = true) (ho : Op.lookupswitch.offset ps.toList dflt v.toInt = off) (ht : (pc : Int) + off = (tgt : Int)) (kt : J g M X tgt lv st h d1) (kf : x ≠ v → J g M X pc lv (.int x :: st) h d2) : J g M X pc lv (.int x :: st) h (if x = v then d1 else d2) := by
  by_cases hx : x = v
  · subst hx
    rw [if_pos rfl]
    intro r h3 e H locs ls hR hS hl0
    exact lv_lookup E.1 E.2.1 hd hp ho ht (kt r h3 e H locs ls hR hS hl0)
  · rw [if_neg hx]
    exact kf hx
theorem j_lookd (E : JE g M X) {dflt : Int} {ps : Array (Int × Int)} {len : Nat} {x : Int32} (tgt : Nat) (hd : decode M.1 pc = .ok (.lookupswitch dflt ps, len)) (hp : (ps.toList.zip (ps.toList.drop 1)).all (fun (a, next) => a.1 < next.1) = true) (ho : Op.lookupswitch.offset ps.toList dflt x.toInt = dflt) (ht : (pc : Int) + dflt = (tgt : Int)) (kt : J g M X tgt lv st h d) : J g M X pc lv (.int x :: st) h d := by
  intro r h1 e H locs ls hR hS hl0
  exact lv_lookup E.1 E.2.1 hd hp ho ht (kt r h1 e H locs ls hR hS hl0)
end JS
/-- a method's contract out of its body -/
theorem Ok.of {g : GC} {y : MethodName} {M : MD} {as : List Value} {h : HP} {d : Option (Int32 × HP)} (hI : gI g) (hy : plainName y.cls = true) (hown : M.2.2.1 = y.cls) (hn : (lg_sl as).length ≤ M.2.1)
    (body : ∀ X, JE g M X → J g M X 0 (lv_args 0 as) [] h d) : Ok g y M as h d := by
  intro r h' e
  refine Met.ofW (cc := M.1) (maxL := M.2.1) (ret := M.2.2.2.1) hy rfl ?_
  intro p e' s m args below meth c s₁ B hml hv
  obtain ⟨rfl, hR, hK⟩ := hv
  have hts := atoms_spec (ws := Cond.code y M.1 M.2.1 M.2.2.2.1 :: TBL) B.pre
  have hfc : s.vm.findClass y.cls = some m.cls := findClass_of_methodNamed B.named
  have E : JE g M (p, e', s, m, as.toArray, below, meth, c) := ⟨B.exec, B.bytes, B.returns, hml, by rw [hown]; exact hfc, fun w hw => hts w (List.mem_cons_of_mem _ hw), hK, hI, B.notSynchronized⟩
  rw [lg_entry_eq]
  exact body _ E r h' e s.heap [] _ hR va_S.rf (lv_entry as hn)
