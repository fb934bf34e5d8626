def irem (x y : Int32) : Int32 := x - x / y * y
def imx (x y : Int32) : Int32 := if x < y then y else x
def imn (x y : Int32) : Int32 := if y < x then y else x
def ushr (x y : Int32) : Int32 := (x.toUInt32 >>> (y.toUInt32 &&& Int32.toUInt32 31)).toInt32
def lushr (x : Int64) (y : Int32) : Int64 := (x.toUInt64 >>> (y.toInt64.toUInt64 &&& Int64.toUInt64 63)).toInt64
def i2c (x : Int32) : Int32 := (x.toUInt32 % 65536).toInt32
theorem ws_in (ws : List Cond) (ps : List Nat) (hp : ws = ps.filterMap (fun i => lw_tbl[i]?)) (hg : ws.all goodWord = true) : ∀ w ∈ ws, w ∈ TBL := by
  intro w hw
  have h1 := List.all_eq_true.mp hg w hw
  rw [hp] at hw
  obtain ⟨i, -, hi⟩ := List.mem_filterMap.mp hw
  exact tb_in i hi h1
section JH
variable {g : GC} {M : MD} {X : MX} {pc : Nat} {lv : List (Nat × Value)} {st : List Value} {h : HP} {d d1 d2 : Option (Int32 × HP)}
theorem j_name {x : Int32} {f : Int32 → Option (Int32 × HP)} (kk : ∀ y, J g M X pc lv (.int y :: st) h (f y)) : J g M X pc lv (.int x :: st) h (lt x f) := kk x
theorem j_rem2 (E : JE g M X) {x y : Int32} (hne : ¬ y = 0) (hd : decode M.1 pc = .ok (.irem, 1)) (kk : J g M X (pc + 1) lv (.int (irem x y) :: st) h d) : J g M X pc lv (.int y :: .int x :: st) h d := j_iremc E hne hd kk
theorem j_max2 (E : JE g M X) {idx : Nat} {x y : Int32} (b1 : Cond.methodLink M.2.2.1 idx Lib.Math.max.name ∈ TBL) (hf : 1 ≤ M.2.2.2.2.1) (hlc : (st.map fun v => v.category).sum + 13 ≤ M.2.2.2.2.2) (hd : decode M.1 pc = .ok (.invokestatic idx, 3)) (kk : J g M X (pc + 3) lv (.int (imx x y) :: st) h d) : J g M X pc lv (.int y :: .int x :: st) h d :=
  j_mmax E b1 (tb_in 574 (by decide +kernel) rfl) (tb_in 113 (by decide +kernel) rfl) (tb_in 575 (by decide +kernel) rfl) hf hlc hd kk
theorem j_min2 (E : JE g M X) {idx : Nat} {x y : Int32} (b1 : Cond.methodLink M.2.2.1 idx Lib.Math.min.name ∈ TBL) (hf : 1 ≤ M.2.2.2.2.1) (hlc : (st.map fun v => v.category).sum + 13 ≤ M.2.2.2.2.2) (hd : decode M.1 pc = .ok (.invokestatic idx, 3)) (kk : J g M X (pc + 3) lv (.int (imn x y) :: st) h d) : J g M X pc lv (.int y :: .int x :: st) h d :=
  j_mmin E b1 (tb_in 577 (by decide +kernel) rfl) (tb_in 113 (by decide +kernel) rfl) (tb_in 578 (by decide +kernel) rfl) hf hlc hd kk
theorem j_ushr2 (E : JE g M X) {x y : Int32} (hd : decode M.1 pc = .ok (.iushr, 1)) (kk : J g M X (pc + 1) lv (.int (ushr x y) :: st) h d) : J g M X pc lv (.int y :: .int x :: st) h d := j_iushr E hd kk
theorem j_lushr2 (E : JE g M X) {x : Int64} {y : Int32} (hd : decode M.1 pc = .ok (.lushr, 1)) (kk : J g M X (pc + 1) lv (.long (lushr x y) :: st) h d) : J g M X pc lv (.int y :: .long x :: st) h d := j_lushr E hd kk
theorem j_i2c2 (E : JE g M X) {x : Int32} (hd : decode M.1 pc = .ok (.i2c, 1)) (kk : J g M X (pc + 1) lv (.int (i2c x) :: st) h d) : J g M X pc lv (.int x :: st) h d := j_i2c E hd kk
theorem j_getk (E : JE g M X) {idx ci j k : Nat} {ks : List Nat} {p : Nat → Prop} [DecidablePred p] {f : Nat → Option (Int32 × HP)} (fl : FLD M.2.2.1 idx ci j) (c : cellIs g k (.inr (ci, ks))) (hj : ks[j]? = some 1) (hd : decode M.1 pc = .ok (.getfield idx, 3)) (kk : ∀ k1, p k1 → J g M X (pc + 3) lv (.ref (g.2.2.1 k1) :: st) h (f k1)) : J g M X pc lv (.ref (g.2.2.1 k) :: st) h (lt (h.1 k j).toNatClampNeg fun k1 => iok (p k1) (f k1)) :=
  j_getc E fl c hj hd (j_iok (fun hp => kk _ hp))
theorem j_tdef (E : JE g M X) {dflt lo hi : Int} {offs : Array Int} {len : Nat} {x : Int32} (tgt : Nat) (vs : List Int32) (hx : ∀ v ∈ vs, x ≠ v) (hd : decode M.1 pc = .ok (.tableswitch dflt lo hi offs, len)) (hs : hi - lo + 1 = offs.size) (ha : ∀ i, i < offs.size → offs[i]? = some dflt ∨ ∃ v ∈ vs, v.toInt = lo + i) (ht : (pc : Int) + dflt = (tgt : Int)) (kt : J g M X tgt lv st h d) : J g M X pc lv (.int x :: st) h d := by
  by_cases h1 : x.toInt < lo
  · exact j_tabd E tgt hd (Or.inl h1) ht kt
  by_cases h2 : hi < x.toInt
  · exact j_tabd E tgt hd (Or.inr h2) ht kt
  have h3 : (x.toInt - lo).toNat < offs.size := by omega
  rcases ha _ h3 with h4 | ⟨v, hv, h5⟩
  · intro r h6 e H locs ls hR hS hl0
    exact lv_tableIn E.1 E.2.1 hd h1 h2 h4 ht (kt r h6 e H locs ls hR hS hl0)
  · exact absurd (Int32.toInt_inj.mp (by rw [h5]; omega)) (hx v hv)
theorem lk_dflt {x : Int32} {dflt : Int} : ∀ (ps : List (Int × Int)), (∀ p ∈ ps, x.toInt ≠ p.1) → Op.lookupswitch.offset ps dflt x.toInt = dflt := by
  intro ps
  induction ps with
  | nil => intro _; rfl
  | cons a r ih =>
    intro hp
    obtain ⟨a1, a2⟩ := a
    have h1 : x.toInt ≠ a1 := hp (a1, a2) List.mem_cons_self
    have h2 := ih (fun p hq => hp p (List.mem_cons_of_mem _ hq))
    simp only [Op.lookupswitch.offset]
    (try rw [if_neg h1])
    (try rw [if_neg (Ne.symm h1)])
    (try simp [h1])
    (try exact h2)
theorem j_ldef (E : JE g M X) {dflt : Int} {ps : Array (Int × Int)} {len : Nat} {x : Int32} (tgt : Nat) (vs : List Int32) (hx : ∀ v ∈ vs, x ≠ v) (hd : decode M.1 pc = .ok (.lookupswitch dflt ps, len)) (hp : (ps.toList.zip (ps.toList.drop 1)).all (fun (a, next) => a.1 < next.1) = true) (ha : ∀ p ∈ ps.toList, ∃ v ∈ vs, v.toInt = p.1) (ht : (pc : Int) + dflt = (tgt : Int)) (kt : J g M X tgt lv st h d) : J g M X pc lv (.int x :: st) h d := by
  refine j_lookd E tgt hd hp (lk_dflt _ (fun p hq hxp => ?_)) ht kt
  obtain ⟨v, hv, h1⟩ := ha p hq
  exact hx v hv (Int32.toInt_inj.mp (by rw [h1]; exact hxp))
end JH

def shX : Nat → Shp := fun k => ([.inr (10, [3, 5, 10, 15, 22, 29, 33, 37, 41, 45, 47, 51, 54, 58, 60, 0]), .inr (7, [4, 0, 0, 0, 0]), .inl (0, 260), .inr (6, [6, 7, 8, 9, 0, 0]), .inl (0, 16), .inl (0, 24), .inl (0, 24), .inl (0, 24), .inr (6, [11, 12, 13, 14, 0, 0]), .inl (0, 16), .inl (0, 24), .inl (0, 24), .inl (0, 24), .inr (2, [16, 17, 18, 19, 20, 21, 0, 0]), .inl (0, 240), .inl (0, 240), .inl (0, 16), .inl (0, 16), .inl (0, 16), .inl (0, 16), .inr (2, [23, 24, 25, 26, 27, 28, 0, 0]), .inl (0, 240), .inl (0, 240), .inl (0, 16), .inl (0, 16), .inl (0, 16), .inl (0, 16), .inr (4, [30, 31, 32, 0]), .inl (0, 20), .inl (0, 20), .inl (0, 20), .inr (5, [34, 35, 36, 0, 0, 0, 0, 0, 0]), .inl (0, 16), .inl (0, 16), .inl (0, 16), .inr (5, [38, 39, 40, 0, 0, 0, 0, 0, 0]), .inl (0, 16), .inl (0, 16), .inl (0, 16), .inr (5, [42, 43, 44, 0, 0, 0, 0, 0, 0]), .inl (0, 16), .inl (0, 16), .inl (0, 16), .inr (8, [5, 15, 46, 1, 0, 0, 0]), .inl (0, 240), .inr (3, [5, 48, 49, 50, 0]), .inl (0, 16), .inl (0, 16), .inl (0, 16), .inr (1, [5, 52, 53, 0]), .inl (0, 256), .inl (0, 16), .inr (9, [5, 47, 55, 56, 57, 0, 0, 0]), .inl (0, 16), .inl (0, 256), .inl (2, 2048), .inr (0, [59, 0, 0, 0, 0]), .inl (0, 8161), .inl (0, 6)] : List Shp).getD k (.inl (0, 0))
def isGX (g : GC) : Prop := g.2.2.2.2 = (59, shX)
theorem cX_of {g : GC} (hg : isGX g) {k : Nat} {S : Shp} (hk : k < 59) (hS : shX k = S) : cellIs g k S := by
  unfold isGX at hg
  refine ⟨?_, ?_⟩
  · rw [hg]; exact hk
  · rw [hg]; exact hS
theorem cX_0 {g : GC} (hg : isGX g) : cellIs g 0 (.inr (10, [3, 5, 10, 15, 22, 29, 33, 37, 41, 45, 47, 51, 54, 58, 60, 0])) := cX_of hg (Nat.le_of_ble_eq_true rfl) rfl
theorem cX_1 {g : GC} (hg : isGX g) : cellIs g 1 (.inr (7, [4, 0, 0, 0, 0])) := cX_of hg (Nat.le_of_ble_eq_true rfl) rfl
theorem cX_2 {g : GC} (hg : isGX g) : cellIs g 2 (.inl (0, 260)) := cX_of hg (Nat.le_of_ble_eq_true rfl) rfl
theorem cX_3 {g : GC} (hg : isGX g) : cellIs g 3 (.inr (6, [6, 7, 8, 9, 0, 0])) := cX_of hg (Nat.le_of_ble_eq_true rfl) rfl
theorem cX_4 {g : GC} (hg : isGX g) : cellIs g 4 (.inl (0, 16)) := cX_of hg (Nat.le_of_ble_eq_true rfl) rfl
theorem cX_5 {g : GC} (hg : isGX g) : cellIs g 5 (.inl (0, 24)) := cX_of hg (Nat.le_of_ble_eq_true rfl) rfl
theorem cX_6 {g : GC} (hg : isGX g) : cellIs g 6 (.inl (0, 24)) := cX_of hg (Nat.le_of_ble_eq_true rfl) rfl
theorem cX_7 {g : GC} (hg : isGX g) : cellIs g 7 (.inl (0, 24)) := cX_of hg (Nat.le_of_ble_eq_true rfl) rfl
theorem cX_8 {g : GC} (hg : isGX g) : cellIs g 8 (.inr (6, [11, 12, 13, 14, 0, 0])) := cX_of hg (Nat.le_of_ble_eq_true rfl) rfl
theorem cX_9 {g : GC} (hg : isGX g) : cellIs g 9 (.inl (0, 16)) := cX_of hg (Nat.le_of_ble_eq_true rfl) rfl
theorem cX_10 {g : GC} (hg : isGX g) : cellIs g 10 (.inl (0, 24)) := cX_of hg (Nat.le_of_ble_eq_true rfl) rfl
theorem cX_11 {g : GC} (hg : isGX g) : cellIs g 11 (.inl (0, 24)) := cX_of hg (Nat.le_of_ble_eq_true rfl) rfl
theorem cX_12 {g : GC} (hg : isGX g) : cellIs g 12 (.inl (0, 24)) := cX_of hg (Nat.le_of_ble_eq_true rfl) rfl
theorem cX_13 {g : GC} (hg : isGX g) : cellIs g 13 (.inr (2, [16, 17, 18, 19, 20, 21, 0, 0])) := cX_of hg (Nat.le_of_ble_eq_true rfl) rfl
theorem cX_14 {g : GC} (hg : isGX g) : cellIs g 14 (.inl (0, 240)) := cX_of hg (Nat.le_of_ble_eq_true rfl) rfl
theorem cX_15 {g : GC} (hg : isGX g) : cellIs g 15 (.inl (0, 240)) := cX_of hg (Nat.le_of_ble_eq_true rfl) rfl
theorem cX_16 {g : GC} (hg : isGX g) : cellIs g 16 (.inl (0, 16)) := cX_of hg (Nat.le_of_ble_eq_true rfl) rfl
theorem cX_17 {g : GC} (hg : isGX g) : cellIs g 17 (.inl (0, 16)) := cX_of hg (Nat.le_of_ble_eq_true rfl) rfl
theorem cX_18 {g : GC} (hg : isGX g) : cellIs g 18 (.inl (0, 16)) := cX_of hg (Nat.le_of_ble_eq_true rfl) rfl
theorem cX_19 {g : GC} (hg : isGX g) : cellIs g 19 (.inl (0, 16)) := cX_of hg (Nat.le_of_ble_eq_true rfl) rfl
theorem cX_20 {g : GC} (hg : isGX g) : cellIs g 20 (.inr (2, [23, 24, 25, 26, 27, 28, 0, 0])) := cX_of hg (Nat.le_of_ble_eq_true rfl) rfl
theorem cX_21 {g : GC} (hg : isGX g) : cellIs g 21 (.inl (0, 240)) := cX_of hg (Nat.le_of_ble_eq_true rfl) rfl
theorem cX_22 {g : GC} (hg : isGX g) : cellIs g 22 (.inl (0, 240)) := cX_of hg (Nat.le_of_ble_eq_true rfl) rfl
theorem cX_23 {g : GC} (hg : isGX g) : cellIs g 23 (.inl (0, 16)) := cX_of hg (Nat.le_of_ble_eq_true rfl) rfl
theorem cX_24 {g : GC} (hg : isGX g) : cellIs g 24 (.inl (0, 16)) := cX_of hg (Nat.le_of_ble_eq_true rfl) rfl
theorem cX_25 {g : GC} (hg : isGX g) : cellIs g 25 (.inl (0, 16)) := cX_of hg (Nat.le_of_ble_eq_true rfl) rfl
theorem cX_26 {g : GC} (hg : isGX g) : cellIs g 26 (.inl (0, 16)) := cX_of hg (Nat.le_of_ble_eq_true rfl) rfl
theorem cX_27 {g : GC} (hg : isGX g) : cellIs g 27 (.inr (4, [30, 31, 32, 0])) := cX_of hg (Nat.le_of_ble_eq_true rfl) rfl
theorem cX_28 {g : GC} (hg : isGX g) : cellIs g 28 (.inl (0, 20)) := cX_of hg (Nat.le_of_ble_eq_true rfl) rfl
theorem cX_29 {g : GC} (hg : isGX g) : cellIs g 29 (.inl (0, 20)) := cX_of hg (Nat.le_of_ble_eq_true rfl) rfl
theorem cX_30 {g : GC} (hg : isGX g) : cellIs g 30 (.inl (0, 20)) := cX_of hg (Nat.le_of_ble_eq_true rfl) rfl
theorem cX_31 {g : GC} (hg : isGX g) : cellIs g 31 (.inr (5, [34, 35, 36, 0, 0, 0, 0, 0, 0])) := cX_of hg (Nat.le_of_ble_eq_true rfl) rfl
theorem cX_32 {g : GC} (hg : isGX g) : cellIs g 32 (.inl (0, 16)) := cX_of hg (Nat.le_of_ble_eq_true rfl) rfl
theorem cX_33 {g : GC} (hg : isGX g) : cellIs g 33 (.inl (0, 16)) := cX_of hg (Nat.le_of_ble_eq_true rfl) rfl
theorem cX_34 {g : GC} (hg : isGX g) : cellIs g 34 (.inl (0, 16)) := cX_of hg (Nat.le_of_ble_eq_true rfl) rfl
theorem cX_35 {g : GC} (hg : isGX g) : cellIs g 35 (.inr (5, [38, 39, 40, 0, 0, 0, 0, 0, 0])) := cX_of hg (Nat.le_of_ble_eq_true rfl) rfl
theorem cX_36 {g : GC} (hg : isGX g) : cellIs g 36 (.inl (0, 16)) := cX_of hg (Nat.le_of_ble_eq_true rfl) rfl
theorem cX_37 {g : GC} (hg : isGX g) : cellIs g 37 (.inl (0, 16)) := cX_of hg (Nat.le_of_ble_eq_true rfl) rfl
theorem cX_38 {g : GC} (hg : isGX g) : cellIs g 38 (.inl (0, 16)) := cX_of hg (Nat.le_of_ble_eq_true rfl) rfl
theorem cX_39 {g : GC} (hg : isGX g) : cellIs g 39 (.inr (5, [42, 43, 44, 0, 0, 0, 0, 0, 0])) := cX_of hg (Nat.le_of_ble_eq_true rfl) rfl
theorem cX_40 {g : GC} (hg : isGX g) : cellIs g 40 (.inl (0, 16)) := cX_of hg (Nat.le_of_ble_eq_true rfl) rfl
theorem cX_41 {g : GC} (hg : isGX g) : cellIs g 41 (.inl (0, 16)) := cX_of hg (Nat.le_of_ble_eq_true rfl) rfl
theorem cX_42 {g : GC} (hg : isGX g) : cellIs g 42 (.inl (0, 16)) := cX_of hg (Nat.le_of_ble_eq_true rfl) rfl
theorem cX_43 {g : GC} (hg : isGX g) : cellIs g 43 (.inr (8, [5, 15, 46, 1, 0, 0, 0])) := cX_of hg (Nat.le_of_ble_eq_true rfl) rfl
theorem cX_44 {g : GC} (hg : isGX g) : cellIs g 44 (.inl (0, 240)) := cX_of hg (Nat.le_of_ble_eq_true rfl) rfl
theorem cX_45 {g : GC} (hg : isGX g) : cellIs g 45 (.inr (3, [5, 48, 49, 50, 0])) := cX_of hg (Nat.le_of_ble_eq_true rfl) rfl
theorem cX_46 {g : GC} (hg : isGX g) : cellIs g 46 (.inl (0, 16)) := cX_of hg (Nat.le_of_ble_eq_true rfl) rfl
theorem cX_47 {g : GC} (hg : isGX g) : cellIs g 47 (.inl (0, 16)) := cX_of hg (Nat.le_of_ble_eq_true rfl) rfl
theorem cX_48 {g : GC} (hg : isGX g) : cellIs g 48 (.inl (0, 16)) := cX_of hg (Nat.le_of_ble_eq_true rfl) rfl
theorem cX_49 {g : GC} (hg : isGX g) : cellIs g 49 (.inr (1, [5, 52, 53, 0])) := cX_of hg (Nat.le_of_ble_eq_true rfl) rfl
theorem cX_50 {g : GC} (hg : isGX g) : cellIs g 50 (.inl (0, 256)) := cX_of hg (Nat.le_of_ble_eq_true rfl) rfl
theorem cX_51 {g : GC} (hg : isGX g) : cellIs g 51 (.inl (0, 16)) := cX_of hg (Nat.le_of_ble_eq_true rfl) rfl
theorem cX_52 {g : GC} (hg : isGX g) : cellIs g 52 (.inr (9, [5, 47, 55, 56, 57, 0, 0, 0])) := cX_of hg (Nat.le_of_ble_eq_true rfl) rfl
theorem cX_53 {g : GC} (hg : isGX g) : cellIs g 53 (.inl (0, 16)) := cX_of hg (Nat.le_of_ble_eq_true rfl) rfl
theorem cX_54 {g : GC} (hg : isGX g) : cellIs g 54 (.inl (0, 256)) := cX_of hg (Nat.le_of_ble_eq_true rfl) rfl
theorem cX_55 {g : GC} (hg : isGX g) : cellIs g 55 (.inl (2, 2048)) := cX_of hg (Nat.le_of_ble_eq_true rfl) rfl
theorem cX_56 {g : GC} (hg : isGX g) : cellIs g 56 (.inr (0, [59, 0, 0, 0, 0])) := cX_of hg (Nat.le_of_ble_eq_true rfl) rfl
theorem cX_57 {g : GC} (hg : isGX g) : cellIs g 57 (.inl (0, 8161)) := cX_of hg (Nat.le_of_ble_eq_true rfl) rfl
theorem cX_58 {g : GC} (hg : isGX g) : cellIs g 58 (.inl (0, 6)) := cX_of hg (Nat.le_of_ble_eq_true rfl) rfl
def shM : Nat → Shp := fun k => ([.inr (11, [3, 4, 5, 6, 7, 8, 9, 0, 0, 10, 0, 0, 0, 0, 0, 0, 0, 0, 0, 0, 11, 12, 13, 14, 15, 16, 17, 18, 19, 20, 21, 22, 23, 24, 25, 26, 27, 0, 0, 0, 0, 28, 29, 30, 0, 0, 31, 32, 33, 0, 34, 35, 36, 37, 38, 39, 40, 41, 0, 0, 0]), .inl (0, 75), .inl (0, 75), .inl (0, 75), .inl (0, 16), .inl (0, 24), .inl (0, 24), .inl (0, 24), .inl (1, 260), .inl (0, 260), .inl (0, 260), .inl (0, 16), .inl (0, 16), .inl (0, 16), .inl (0, 16), .inl (0, 260), .inl (0, 16), .inl (0, 16), .inl (0, 16), .inl (0, 16), .inl (0, 260), .inl (0, 10), .inl (0, 16), .inl (0, 24), .inl (0, 24), .inl (0, 24), .inl (0, 24), .inl (0, 16), .inl (0, 16), .inl (0, 256), .inl (0, 16), .inl (0, 65536), .inl (0, 16), .inl (0, 65536), .inl (0, 16321), .inl (0, 16321), .inl (0, 16321), .inl (0, 16321), .inl (0, 6), .inl (0, 12)] : List Shp).getD k (.inl (0, 0))
def isGM (g : GC) : Prop := g.2.2.2.2 = (40, shM)
theorem cM_of {g : GC} (hg : isGM g) {k : Nat} {S : Shp} (hk : k < 40) (hS : shM k = S) : cellIs g k S := by
  unfold isGM at hg
  refine ⟨?_, ?_⟩
  · rw [hg]; exact hk
  · rw [hg]; exact hS
theorem cM_0 {g : GC} (hg : isGM g) : cellIs g 0 (.inr (11, [3, 4, 5, 6, 7, 8, 9, 0, 0, 10, 0, 0, 0, 0, 0, 0, 0, 0, 0, 0, 11, 12, 13, 14, 15, 16, 17, 18, 19, 20, 21, 22, 23, 24, 25, 26, 27, 0, 0, 0, 0, 28, 29, 30, 0, 0, 31, 32, 33, 0, 34, 35, 36, 37, 38, 39, 40, 41, 0, 0, 0])) := cM_of hg (Nat.le_of_ble_eq_true rfl) rfl
theorem cM_1 {g : GC} (hg : isGM g) : cellIs g 1 (.inl (0, 75)) := cM_of hg (Nat.le_of_ble_eq_true rfl) rfl
theorem cM_2 {g : GC} (hg : isGM g) : cellIs g 2 (.inl (0, 75)) := cM_of hg (Nat.le_of_ble_eq_true rfl) rfl
theorem cM_3 {g : GC} (hg : isGM g) : cellIs g 3 (.inl (0, 75)) := cM_of hg (Nat.le_of_ble_eq_true rfl) rfl
theorem cM_4 {g : GC} (hg : isGM g) : cellIs g 4 (.inl (0, 16)) := cM_of hg (Nat.le_of_ble_eq_true rfl) rfl
theorem cM_5 {g : GC} (hg : isGM g) : cellIs g 5 (.inl (0, 24)) := cM_of hg (Nat.le_of_ble_eq_true rfl) rfl
theorem cM_6 {g : GC} (hg : isGM g) : cellIs g 6 (.inl (0, 24)) := cM_of hg (Nat.le_of_ble_eq_true rfl) rfl
theorem cM_7 {g : GC} (hg : isGM g) : cellIs g 7 (.inl (0, 24)) := cM_of hg (Nat.le_of_ble_eq_true rfl) rfl
theorem cM_8 {g : GC} (hg : isGM g) : cellIs g 8 (.inl (1, 260)) := cM_of hg (Nat.le_of_ble_eq_true rfl) rfl
theorem cM_9 {g : GC} (hg : isGM g) : cellIs g 9 (.inl (0, 260)) := cM_of hg (Nat.le_of_ble_eq_true rfl) rfl
theorem cM_10 {g : GC} (hg : isGM g) : cellIs g 10 (.inl (0, 260)) := cM_of hg (Nat.le_of_ble_eq_true rfl) rfl
theorem cM_11 {g : GC} (hg : isGM g) : cellIs g 11 (.inl (0, 16)) := cM_of hg (Nat.le_of_ble_eq_true rfl) rfl
theorem cM_12 {g : GC} (hg : isGM g) : cellIs g 12 (.inl (0, 16)) := cM_of hg (Nat.le_of_ble_eq_true rfl) rfl
theorem cM_13 {g : GC} (hg : isGM g) : cellIs g 13 (.inl (0, 16)) := cM_of hg (Nat.le_of_ble_eq_true rfl) rfl
theorem cM_14 {g : GC} (hg : isGM g) : cellIs g 14 (.inl (0, 16)) := cM_of hg (Nat.le_of_ble_eq_true rfl) rfl
theorem cM_15 {g : GC} (hg : isGM g) : cellIs g 15 (.inl (0, 260)) := cM_of hg (Nat.le_of_ble_eq_true rfl) rfl
theorem cM_16 {g : GC} (hg : isGM g) : cellIs g 16 (.inl (0, 16)) := cM_of hg (Nat.le_of_ble_eq_true rfl) rfl
theorem cM_17 {g : GC} (hg : isGM g) : cellIs g 17 (.inl (0, 16)) := cM_of hg (Nat.le_of_ble_eq_true rfl) rfl
theorem cM_18 {g : GC} (hg : isGM g) : cellIs g 18 (.inl (0, 16)) := cM_of hg (Nat.le_of_ble_eq_true rfl) rfl
theorem cM_19 {g : GC} (hg : isGM g) : cellIs g 19 (.inl (0, 16)) := cM_of hg (Nat.le_of_ble_eq_true rfl) rfl
theorem cM_20 {g : GC} (hg : isGM g) : cellIs g 20 (.inl (0, 260)) := cM_of hg (Nat.le_of_ble_eq_true rfl) rfl
theorem cM_21 {g : GC} (hg : isGM g) : cellIs g 21 (.inl (0, 10)) := cM_of hg (Nat.le_of_ble_eq_true rfl) rfl
theorem cM_22 {g : GC} (hg : isGM g) : cellIs g 22 (.inl (0, 16)) := cM_of hg (Nat.le_of_ble_eq_true rfl) rfl
theorem cM_23 {g : GC} (hg : isGM g) : cellIs g 23 (.inl (0, 24)) := cM_of hg (Nat.le_of_ble_eq_true rfl) rfl
theorem cM_24 {g : GC} (hg : isGM g) : cellIs g 24 (.inl (0, 24)) := cM_of hg (Nat.le_of_ble_eq_true rfl) rfl
theorem cM_25 {g : GC} (hg : isGM g) : cellIs g 25 (.inl (0, 24)) := cM_of hg (Nat.le_of_ble_eq_true rfl) rfl
theorem cM_26 {g : GC} (hg : isGM g) : cellIs g 26 (.inl (0, 24)) := cM_of hg (Nat.le_of_ble_eq_true rfl) rfl
theorem cM_27 {g : GC} (hg : isGM g) : cellIs g 27 (.inl (0, 16)) := cM_of hg (Nat.le_of_ble_eq_true rfl) rfl
theorem cM_28 {g : GC} (hg : isGM g) : cellIs g 28 (.inl (0, 16)) := cM_of hg (Nat.le_of_ble_eq_true rfl) rfl
theorem cM_29 {g : GC} (hg : isGM g) : cellIs g 29 (.inl (0, 256)) := cM_of hg (Nat.le_of_ble_eq_true rfl) rfl
theorem cM_30 {g : GC} (hg : isGM g) : cellIs g 30 (.inl (0, 16)) := cM_of hg (Nat.le_of_ble_eq_true rfl) rfl
theorem cM_31 {g : GC} (hg : isGM g) : cellIs g 31 (.inl (0, 65536)) := cM_of hg (Nat.le_of_ble_eq_true rfl) rfl
theorem cM_32 {g : GC} (hg : isGM g) : cellIs g 32 (.inl (0, 16)) := cM_of hg (Nat.le_of_ble_eq_true rfl) rfl
theorem cM_33 {g : GC} (hg : isGM g) : cellIs g 33 (.inl (0, 65536)) := cM_of hg (Nat.le_of_ble_eq_true rfl) rfl
theorem cM_34 {g : GC} (hg : isGM g) : cellIs g 34 (.inl (0, 16321)) := cM_of hg (Nat.le_of_ble_eq_true rfl) rfl
theorem cM_35 {g : GC} (hg : isGM g) : cellIs g 35 (.inl (0, 16321)) := cM_of hg (Nat.le_of_ble_eq_true rfl) rfl
theorem cM_36 {g : GC} (hg : isGM g) : cellIs g 36 (.inl (0, 16321)) := cM_of hg (Nat.le_of_ble_eq_true rfl) rfl
theorem cM_37 {g : GC} (hg : isGM g) : cellIs g 37 (.inl (0, 16321)) := cM_of hg (Nat.le_of_ble_eq_true rfl) rfl
theorem cM_38 {g : GC} (hg : isGM g) : cellIs g 38 (.inl (0, 6)) := cM_of hg (Nat.le_of_ble_eq_true rfl) rfl
theorem cM_39 {g : GC} (hg : isGM g) : cellIs g 39 (.inl (0, 12)) := cM_of hg (Nat.le_of_ble_eq_true rfl) rfl
abbrev isSt (k : Nat) : Prop := k = 31 ∨ k = 35 ∨ k = 39
theorem cSt {g : GC} (hg : isGX g) {k : Nat} (hk : isSt k) : cellIs g k (.inr (5, [k + 3, k + 4, k + 5, 0, 0, 0, 0, 0, 0])) := by
  rcases hk with rfl | rfl | rfl
  · exact cX_31 hg
  · exact cX_35 hg
  · exact cX_39 hg
theorem cSt1 {g : GC} (hg : isGX g) {k : Nat} (hk : isSt k) : cellIs g (k + 1) (.inl (0, 16)) := by
  rcases hk with rfl | rfl | rfl
  · exact cX_32 hg
  · exact cX_36 hg
  · exact cX_40 hg
theorem cSt2 {g : GC} (hg : isGX g) {k : Nat} (hk : isSt k) : cellIs g (k + 2) (.inl (0, 16)) := by
  rcases hk with rfl | rfl | rfl
  · exact cX_33 hg
  · exact cX_37 hg
  · exact cX_41 hg
theorem cSt3 {g : GC} (hg : isGX g) {k : Nat} (hk : isSt k) : cellIs g (k + 3) (.inl (0, 16)) := by
  rcases hk with rfl | rfl | rfl
  · exact cX_34 hg
  · exact cX_38 hg
  · exact cX_42 hg
theorem st_cl {k : Nat} (hk : isSt k) : (nI k).toNatClampNeg = k := by
  rcases hk with rfl | rfl | rfl <;> decide
theorem uL_X {g : GC} (hg : isGX g) : ∀ j, j < g.2.2.2.2.1 → j ≠ 55 → ∀ t m, g.2.2.2.2.2 j ≠ .inl (t + 2, m) := by
  unfold isGX at hg
  rw [hg]
  intro j hj hne t m
  have h1 : ∀ j, j < 59 → j ≠ 55 → (match shX j with | .inl (t, _) => decide (t < 2) | .inr _ => true) = true := by decide +kernel
  have h2 := h1 j hj hne
  intro h3
  have h4 : shX j = .inl (t + 2, m) := h3
  rw [h4] at h2
  simp only [decide_eq_true_eq] at h2
  omega
set_option maxRecDepth 20000 in
theorem inX0 : ∀ w ∈ u_ws RX0 TX0 5, w ∈ TBL := ws_in _ [431, 433, 435, 437, 439] (by decide +kernel) (by decide +kernel)
set_option maxRecDepth 20000 in
theorem inX1 : ∀ w ∈ u_ws RX1 TX1 4, w ∈ TBL := ws_in _ [375, 377, 379, 381] (by decide +kernel) (by decide +kernel)
set_option maxRecDepth 20000 in
theorem inX2 : ∀ w ∈ u_ws RX2 TX2 8, w ∈ TBL := ws_in _ [224, 226, 228, 230, 232, 234, 236, 238] (by decide +kernel) (by decide +kernel)
set_option maxRecDepth 20000 in
theorem inX3 : ∀ w ∈ u_ws RX3 TX3 5, w ∈ TBL := ws_in _ [353, 355, 357, 359, 361] (by decide +kernel) (by decide +kernel)
set_option maxRecDepth 20000 in
theorem inX4 : ∀ w ∈ u_ws RX4 TX4 4, w ∈ TBL := ws_in _ [252, 254, 256, 258] (by decide +kernel) (by decide +kernel)
set_option maxRecDepth 20000 in
theorem inX5 : ∀ w ∈ u_ws RX5 TX5 9, w ∈ TBL := ws_in _ [293, 295, 297, 299, 301, 303, 305, 307, 309] (by decide +kernel) (by decide +kernel)
set_option maxRecDepth 20000 in
theorem inX6 : ∀ w ∈ u_ws RX6 TX6 6, w ∈ TBL := ws_in _ [189, 191, 193, 195, 197, 199] (by decide +kernel) (by decide +kernel)
set_option maxRecDepth 20000 in
theorem inX7 : ∀ w ∈ u_ws RX7 TX7 5, w ∈ TBL := ws_in _ [144, 146, 148, 150, 152] (by decide +kernel) (by decide +kernel)
set_option maxRecDepth 20000 in
theorem inX8 : ∀ w ∈ u_ws RX8 TX8 7, w ∈ TBL := ws_in _ [325, 327, 329, 331, 333, 335, 337] (by decide +kernel) (by decide +kernel)
set_option maxRecDepth 20000 in
theorem inX9 : ∀ w ∈ u_ws RX9 TX9 8, w ∈ TBL := ws_in _ [400, 402, 404, 406, 408, 410, 412, 414] (by decide +kernel) (by decide +kernel)
set_option maxRecDepth 20000 in
theorem inX10 : ∀ w ∈ u_ws RX10 TX10 16, w ∈ TBL := ws_in _ [458, 460, 462, 464, 466, 468, 470, 472, 474, 476, 478, 480, 482, 484, 486, 488] (by decide +kernel) (by decide +kernel)
set_option maxRecDepth 20000 in
theorem inX11 : ∀ w ∈ u_ws RX11 TX11 61, w ∈ TBL := ws_in _ [1182, 1184, 1186, 1188, 1190, 1192, 1194, 1196, 1198, 1200, 1202, 1204, 1206, 1208, 1210, 1212, 1214, 1216, 1218, 1220, 1222, 1224, 1226, 1228, 1230, 1232, 1234, 1236, 1238, 1240, 1242, 1244, 1246, 1248, 1250, 1252, 1254, 1256, 1258, 1260, 1262, 1264, 1266, 1268, 1270, 1272, 1274, 1276, 1278, 1280, 1282, 1284, 1286, 1288, 1290, 1292, 1294, 1296, 1298, 1300, 1302] (by decide +kernel) (by decide +kernel)
theorem f_X7_9 : FLD RX7 9 7 0 := ⟨_, _, _, rfl, inX7, by decide, tb_in 134 (by decide +kernel) rfl⟩
theorem f_X10_101 : FLD RX10 101 7 1 := ⟨_, _, _, rfl, inX7, by decide, tb_in 135 (by decide +kernel) rfl⟩
theorem fp_X10_101 : FPT RX10 101 7 1 .int := ⟨_, _, _, tyX7, rfl, inX7, by decide, tb_in 135 (by decide +kernel) rfl, tyX7_ok, nmX7, rfl, by decide +kernel⟩
theorem f_X7_15 : FLD RX7 15 7 1 := ⟨_, _, _, rfl, inX7, by decide, tb_in 136 (by decide +kernel) rfl⟩
theorem fp_X7_15 : FPT RX7 15 7 1 .int := ⟨_, _, _, tyX7, rfl, inX7, by decide, tb_in 136 (by decide +kernel) rfl, tyX7_ok, nmX7, rfl, by decide +kernel⟩
theorem f_X4_35 : FLD RX4 35 7 2 := ⟨_, _, _, rfl, inX7, by decide, tb_in 137 (by decide +kernel) rfl⟩
theorem fp_X4_35 : FPT RX4 35 7 2 .int := ⟨_, _, _, tyX7, rfl, inX7, by decide, tb_in 137 (by decide +kernel) rfl, tyX7_ok, nmX7, rfl, by decide +kernel⟩
theorem f_X7_19 : FLD RX7 19 7 2 := ⟨_, _, _, rfl, inX7, by decide, tb_in 138 (by decide +kernel) rfl⟩
theorem fp_X7_19 : FPT RX7 19 7 2 .int := ⟨_, _, _, tyX7, rfl, inX7, by decide, tb_in 138 (by decide +kernel) rfl, tyX7_ok, nmX7, rfl, by decide +kernel⟩
theorem f_X2_49 : FLD RX2 49 7 2 := ⟨_, _, _, rfl, inX7, by decide, tb_in 139 (by decide +kernel) rfl⟩
theorem fp_X2_49 : FPT RX2 49 7 2 .int := ⟨_, _, _, tyX7, rfl, inX7, by decide, tb_in 139 (by decide +kernel) rfl, tyX7_ok, nmX7, rfl, by decide +kernel⟩
theorem f_X6_57 : FLD RX6 57 7 2 := ⟨_, _, _, rfl, inX7, by decide, tb_in 140 (by decide +kernel) rfl⟩
theorem fp_X6_57 : FPT RX6 57 7 2 .int := ⟨_, _, _, tyX7, rfl, inX7, by decide, tb_in 140 (by decide +kernel) rfl, tyX7_ok, nmX7, rfl, by decide +kernel⟩
theorem f_X7_22 : FLD RX7 22 7 3 := ⟨_, _, _, rfl, inX7, by decide, tb_in 141 (by decide +kernel) rfl⟩
theorem fp_X7_22 : FPT RX7 22 7 3 .int := ⟨_, _, _, tyX7, rfl, inX7, by decide, tb_in 141 (by decide +kernel) rfl, tyX7_ok, nmX7, rfl, by decide +kernel⟩
theorem f_X10_117 : FLD RX10 117 7 4 := ⟨_, _, _, rfl, inX7, by decide, tb_in 142 (by decide +kernel) rfl⟩
theorem fp_X10_117 : FPT RX10 117 7 4 .int := ⟨_, _, _, tyX7, rfl, inX7, by decide, tb_in 142 (by decide +kernel) rfl, tyX7_ok, nmX7, rfl, by decide +kernel⟩
theorem f_X7_25 : FLD RX7 25 7 4 := ⟨_, _, _, rfl, inX7, by decide, tb_in 143 (by decide +kernel) rfl⟩
theorem fp_X7_25 : FPT RX7 25 7 4 .int := ⟨_, _, _, tyX7, rfl, inX7, by decide, tb_in 143 (by decide +kernel) rfl, tyX7_ok, nmX7, rfl, by decide +kernel⟩
theorem f_X6_9 : FLD RX6 9 6 0 := ⟨_, _, _, rfl, inX6, by decide, tb_in 162 (by decide +kernel) rfl⟩
theorem f_X8_90 : FLD RX8 90 6 0 := ⟨_, _, _, rfl, inX6, by decide, tb_in 163 (by decide +kernel) rfl⟩
theorem f_X10_174 : FLD RX10 174 6 0 := ⟨_, _, _, rfl, inX6, by decide, tb_in 164 (by decide +kernel) rfl⟩
theorem f_X6_15 : FLD RX6 15 6 1 := ⟨_, _, _, rfl, inX6, by decide, tb_in 165 (by decide +kernel) rfl⟩
theorem f_X3_44 : FLD RX3 44 6 1 := ⟨_, _, _, rfl, inX6, by decide, tb_in 166 (by decide +kernel) rfl⟩
theorem f_X1_41 : FLD RX1 41 6 1 := ⟨_, _, _, rfl, inX6, by decide, tb_in 167 (by decide +kernel) rfl⟩
theorem f_X8_84 : FLD RX8 84 6 1 := ⟨_, _, _, rfl, inX6, by decide, tb_in 168 (by decide +kernel) rfl⟩
theorem f_X10_190 : FLD RX10 190 6 1 := ⟨_, _, _, rfl, inX6, by decide, tb_in 169 (by decide +kernel) rfl⟩
theorem f_X6_18 : FLD RX6 18 6 2 := ⟨_, _, _, rfl, inX6, by decide, tb_in 170 (by decide +kernel) rfl⟩
theorem f_X3_47 : FLD RX3 47 6 2 := ⟨_, _, _, rfl, inX6, by decide, tb_in 171 (by decide +kernel) rfl⟩
theorem f_X1_44 : FLD RX1 44 6 2 := ⟨_, _, _, rfl, inX6, by decide, tb_in 172 (by decide +kernel) rfl⟩
theorem f_X8_87 : FLD RX8 87 6 2 := ⟨_, _, _, rfl, inX6, by decide, tb_in 173 (by decide +kernel) rfl⟩
theorem f_X10_193 : FLD RX10 193 6 2 := ⟨_, _, _, rfl, inX6, by decide, tb_in 174 (by decide +kernel) rfl⟩
theorem f_X6_21 : FLD RX6 21 6 3 := ⟨_, _, _, rfl, inX6, by decide, tb_in 175 (by decide +kernel) rfl⟩
theorem f_X1_38 : FLD RX1 38 6 3 := ⟨_, _, _, rfl, inX6, by decide, tb_in 176 (by decide +kernel) rfl⟩
theorem f_X8_93 : FLD RX8 93 6 3 := ⟨_, _, _, rfl, inX6, by decide, tb_in 177 (by decide +kernel) rfl⟩
theorem f_X3_60 : FLD RX3 60 6 3 := ⟨_, _, _, rfl, inX6, by decide, tb_in 178 (by decide +kernel) rfl⟩
theorem f_X10_196 : FLD RX10 196 6 3 := ⟨_, _, _, rfl, inX6, by decide, tb_in 179 (by decide +kernel) rfl⟩
theorem f_X6_24 : FLD RX6 24 6 4 := ⟨_, _, _, rfl, inX6, by decide, tb_in 180 (by decide +kernel) rfl⟩
theorem fp_X6_24 : FPT RX6 24 6 4 .int := ⟨_, _, _, tyX6, rfl, inX6, by decide, tb_in 180 (by decide +kernel) rfl, tyX6_ok, nmX6, rfl, by decide +kernel⟩
theorem f_X10_130 : FLD RX10 130 6 4 := ⟨_, _, _, rfl, inX6, by decide, tb_in 181 (by decide +kernel) rfl⟩
theorem fp_X10_130 : FPT RX10 130 6 4 .int := ⟨_, _, _, tyX6, rfl, inX6, by decide, tb_in 181 (by decide +kernel) rfl, tyX6_ok, nmX6, rfl, by decide +kernel⟩
theorem f_X3_76 : FLD RX3 76 6 4 := ⟨_, _, _, rfl, inX6, by decide, tb_in 182 (by decide +kernel) rfl⟩
theorem fp_X3_76 : FPT RX3 76 6 4 .int := ⟨_, _, _, tyX6, rfl, inX6, by decide, tb_in 182 (by decide +kernel) rfl, tyX6_ok, nmX6, rfl, by decide +kernel⟩
theorem f_X1_28 : FLD RX1 28 6 5 := ⟨_, _, _, rfl, inX6, by decide, tb_in 183 (by decide +kernel) rfl⟩
theorem fp_X1_28 : FPT RX1 28 6 5 .int := ⟨_, _, _, tyX6, rfl, inX6, by decide, tb_in 183 (by decide +kernel) rfl, tyX6_ok, nmX6, rfl, by decide +kernel⟩
theorem f_X3_35 : FLD RX3 35 6 5 := ⟨_, _, _, rfl, inX6, by decide, tb_in 184 (by decide +kernel) rfl⟩
theorem fp_X3_35 : FPT RX3 35 6 5 .int := ⟨_, _, _, tyX6, rfl, inX6, by decide, tb_in 184 (by decide +kernel) rfl, tyX6_ok, nmX6, rfl, by decide +kernel⟩
theorem f_X8_74 : FLD RX8 74 6 5 := ⟨_, _, _, rfl, inX6, by decide, tb_in 185 (by decide +kernel) rfl⟩
theorem fp_X8_74 : FPT RX8 74 6 5 .int := ⟨_, _, _, tyX6, rfl, inX6, by decide, tb_in 185 (by decide +kernel) rfl, tyX6_ok, nmX6, rfl, by decide +kernel⟩
theorem f_X6_32 : FLD RX6 32 6 5 := ⟨_, _, _, rfl, inX6, by decide, tb_in 186 (by decide +kernel) rfl⟩
theorem fp_X6_32 : FPT RX6 32 6 5 .int := ⟨_, _, _, tyX6, rfl, inX6, by decide, tb_in 186 (by decide +kernel) rfl, tyX6_ok, nmX6, rfl, by decide +kernel⟩
theorem f_X4_76 : FLD RX4 76 6 5 := ⟨_, _, _, rfl, inX6, by decide, tb_in 187 (by decide +kernel) rfl⟩
theorem fp_X4_76 : FPT RX4 76 6 5 .int := ⟨_, _, _, tyX6, rfl, inX6, by decide, tb_in 187 (by decide +kernel) rfl, tyX6_ok, nmX6, rfl, by decide +kernel⟩
theorem f_X10_133 : FLD RX10 133 6 5 := ⟨_, _, _, rfl, inX6, by decide, tb_in 188 (by decide +kernel) rfl⟩
theorem fp_X10_133 : FPT RX10 133 6 5 .int := ⟨_, _, _, tyX6, rfl, inX6, by decide, tb_in 188 (by decide +kernel) rfl, tyX6_ok, nmX6, rfl, by decide +kernel⟩
theorem f_X2_9 : FLD RX2 9 2 0 := ⟨_, _, _, rfl, inX2, by decide, tb_in 208 (by decide +kernel) rfl⟩
theorem f_X8_137 : FLD RX8 137 2 0 := ⟨_, _, _, rfl, inX2, by decide, tb_in 209 (by decide +kernel) rfl⟩
theorem f_X2_15 : FLD RX2 15 2 1 := ⟨_, _, _, rfl, inX2, by decide, tb_in 210 (by decide +kernel) rfl⟩
theorem f_X8_140 : FLD RX8 140 2 1 := ⟨_, _, _, rfl, inX2, by decide, tb_in 211 (by decide +kernel) rfl⟩
theorem f_X2_18 : FLD RX2 18 2 2 := ⟨_, _, _, rfl, inX2, by decide, tb_in 212 (by decide +kernel) rfl⟩
theorem f_X8_116 : FLD RX8 116 2 2 := ⟨_, _, _, rfl, inX2, by decide, tb_in 213 (by decide +kernel) rfl⟩
theorem f_X2_21 : FLD RX2 21 2 3 := ⟨_, _, _, rfl, inX2, by decide, tb_in 214 (by decide +kernel) rfl⟩
theorem f_X8_131 : FLD RX8 131 2 3 := ⟨_, _, _, rfl, inX2, by decide, tb_in 215 (by decide +kernel) rfl⟩
theorem f_X2_24 : FLD RX2 24 2 4 := ⟨_, _, _, rfl, inX2, by decide, tb_in 216 (by decide +kernel) rfl⟩
theorem f_X8_119 : FLD RX8 119 2 4 := ⟨_, _, _, rfl, inX2, by decide, tb_in 217 (by decide +kernel) rfl⟩
theorem f_X2_27 : FLD RX2 27 2 5 := ⟨_, _, _, rfl, inX2, by decide, tb_in 218 (by decide +kernel) rfl⟩
theorem f_X8_122 : FLD RX8 122 2 5 := ⟨_, _, _, rfl, inX2, by decide, tb_in 219 (by decide +kernel) rfl⟩
theorem f_X2_36 : FLD RX2 36 2 6 := ⟨_, _, _, rfl, inX2, by decide, tb_in 220 (by decide +kernel) rfl⟩
theorem fp_X2_36 : FPT RX2 36 2 6 .int := ⟨_, _, _, tyX2, rfl, inX2, by decide, tb_in 220 (by decide +kernel) rfl, tyX2_ok, nmX2, rfl, by decide +kernel⟩
theorem f_X2_40 : FLD RX2 40 2 7 := ⟨_, _, _, rfl, inX2, by decide, tb_in 221 (by decide +kernel) rfl⟩
theorem fp_X2_40 : FPT RX2 40 2 7 .int := ⟨_, _, _, tyX2, rfl, inX2, by decide, tb_in 221 (by decide +kernel) rfl, tyX2_ok, nmX2, rfl, by decide +kernel⟩
theorem f_X10_124 : FLD RX10 124 2 7 := ⟨_, _, _, rfl, inX2, by decide, tb_in 222 (by decide +kernel) rfl⟩
theorem fp_X10_124 : FPT RX10 124 2 7 .int := ⟨_, _, _, tyX2, rfl, inX2, by decide, tb_in 222 (by decide +kernel) rfl, tyX2_ok, nmX2, rfl, by decide +kernel⟩
theorem f_X8_111 : FLD RX8 111 2 7 := ⟨_, _, _, rfl, inX2, by decide, tb_in 223 (by decide +kernel) rfl⟩
theorem fp_X8_111 : FPT RX8 111 2 7 .int := ⟨_, _, _, tyX2, rfl, inX2, by decide, tb_in 223 (by decide +kernel) rfl, tyX2_ok, nmX2, rfl, by decide +kernel⟩
theorem f_X4_9 : FLD RX4 9 4 0 := ⟨_, _, _, rfl, inX4, by decide, tb_in 247 (by decide +kernel) rfl⟩
theorem f_X4_15 : FLD RX4 15 4 1 := ⟨_, _, _, rfl, inX4, by decide, tb_in 248 (by decide +kernel) rfl⟩
theorem f_X4_18 : FLD RX4 18 4 2 := ⟨_, _, _, rfl, inX4, by decide, tb_in 249 (by decide +kernel) rfl⟩
theorem f_X4_21 : FLD RX4 21 4 3 := ⟨_, _, _, rfl, inX4, by decide, tb_in 250 (by decide +kernel) rfl⟩
theorem fp_X4_21 : FPT RX4 21 4 3 .int := ⟨_, _, _, tyX4, rfl, inX4, by decide, tb_in 250 (by decide +kernel) rfl, tyX4_ok, nmX4, rfl, by decide +kernel⟩
theorem f_X10_147 : FLD RX10 147 4 3 := ⟨_, _, _, rfl, inX4, by decide, tb_in 251 (by decide +kernel) rfl⟩
theorem fp_X10_147 : FPT RX10 147 4 3 .int := ⟨_, _, _, tyX4, rfl, inX4, by decide, tb_in 251 (by decide +kernel) rfl, tyX4_ok, nmX4, rfl, by decide +kernel⟩
theorem f_X5_9 : FLD RX5 9 5 0 := ⟨_, _, _, rfl, inX5, by decide, tb_in 267 (by decide +kernel) rfl⟩
theorem f_X8_61 : FLD RX8 61 5 0 := ⟨_, _, _, rfl, inX5, by decide, tb_in 268 (by decide +kernel) rfl⟩
theorem f_X10_161 : FLD RX10 161 5 0 := ⟨_, _, _, rfl, inX5, by decide, tb_in 269 (by decide +kernel) rfl⟩
theorem f_X4_88 : FLD RX4 88 5 0 := ⟨_, _, _, rfl, inX5, by decide, tb_in 270 (by decide +kernel) rfl⟩
theorem f_X5_15 : FLD RX5 15 5 1 := ⟨_, _, _, rfl, inX5, by decide, tb_in 271 (by decide +kernel) rfl⟩
theorem f_X8_100 : FLD RX8 100 5 1 := ⟨_, _, _, rfl, inX5, by decide, tb_in 272 (by decide +kernel) rfl⟩
theorem f_X4_83 : FLD RX4 83 5 1 := ⟨_, _, _, rfl, inX5, by decide, tb_in 273 (by decide +kernel) rfl⟩
theorem f_X10_177 : FLD RX10 177 5 1 := ⟨_, _, _, rfl, inX5, by decide, tb_in 274 (by decide +kernel) rfl⟩
theorem f_X5_18 : FLD RX5 18 5 2 := ⟨_, _, _, rfl, inX5, by decide, tb_in 275 (by decide +kernel) rfl⟩
theorem f_X8_107 : FLD RX8 107 5 2 := ⟨_, _, _, rfl, inX5, by decide, tb_in 276 (by decide +kernel) rfl⟩
theorem f_X10_164 : FLD RX10 164 5 2 := ⟨_, _, _, rfl, inX5, by decide, tb_in 277 (by decide +kernel) rfl⟩
theorem f_X5_40 : FLD RX5 40 5 3 := ⟨_, _, _, rfl, inX5, by decide, tb_in 278 (by decide +kernel) rfl⟩
theorem fp_X5_40 : FPT RX5 40 5 3 .int := ⟨_, _, _, tyX5, rfl, inX5, by decide, tb_in 278 (by decide +kernel) rfl, tyX5_ok, nmX5, rfl, by decide +kernel⟩
theorem f_X8_77 : FLD RX8 77 5 3 := ⟨_, _, _, rfl, inX5, by decide, tb_in 279 (by decide +kernel) rfl⟩
theorem fp_X8_77 : FPT RX8 77 5 3 .int := ⟨_, _, _, tyX5, rfl, inX5, by decide, tb_in 279 (by decide +kernel) rfl, tyX5_ok, nmX5, rfl, by decide +kernel⟩
theorem f_X10_180 : FLD RX10 180 5 3 := ⟨_, _, _, rfl, inX5, by decide, tb_in 280 (by decide +kernel) rfl⟩
theorem fp_X10_180 : FPT RX10 180 5 3 .int := ⟨_, _, _, tyX5, rfl, inX5, by decide, tb_in 280 (by decide +kernel) rfl, tyX5_ok, nmX5, rfl, by decide +kernel⟩
theorem f_X4_100 : FLD RX4 100 5 3 := ⟨_, _, _, rfl, inX5, by decide, tb_in 281 (by decide +kernel) rfl⟩
theorem fp_X4_100 : FPT RX4 100 5 3 .int := ⟨_, _, _, tyX5, rfl, inX5, by decide, tb_in 281 (by decide +kernel) rfl, tyX5_ok, nmX5, rfl, by decide +kernel⟩
theorem f_X5_21 : FLD RX5 21 5 4 := ⟨_, _, _, rfl, inX5, by decide, tb_in 282 (by decide +kernel) rfl⟩
theorem fp_X5_21 : FPT RX5 21 5 4 .int := ⟨_, _, _, tyX5, rfl, inX5, by decide, tb_in 282 (by decide +kernel) rfl, tyX5_ok, nmX5, rfl, by decide +kernel⟩
theorem f_X8_58 : FLD RX8 58 5 4 := ⟨_, _, _, rfl, inX5, by decide, tb_in 283 (by decide +kernel) rfl⟩
theorem fp_X8_58 : FPT RX8 58 5 4 .int := ⟨_, _, _, tyX5, rfl, inX5, by decide, tb_in 283 (by decide +kernel) rfl, tyX5_ok, nmX5, rfl, by decide +kernel⟩
theorem f_X10_167 : FLD RX10 167 5 4 := ⟨_, _, _, rfl, inX5, by decide, tb_in 284 (by decide +kernel) rfl⟩
theorem fp_X10_167 : FPT RX10 167 5 4 .int := ⟨_, _, _, tyX5, rfl, inX5, by decide, tb_in 284 (by decide +kernel) rfl, tyX5_ok, nmX5, rfl, by decide +kernel⟩
theorem f_X4_103 : FLD RX4 103 5 4 := ⟨_, _, _, rfl, inX5, by decide, tb_in 285 (by decide +kernel) rfl⟩
theorem fp_X4_103 : FPT RX4 103 5 4 .int := ⟨_, _, _, tyX5, rfl, inX5, by decide, tb_in 285 (by decide +kernel) rfl, tyX5_ok, nmX5, rfl, by decide +kernel⟩
theorem f_X8_27 : FLD RX8 27 5 5 := ⟨_, _, _, rfl, inX5, by decide, tb_in 286 (by decide +kernel) rfl⟩
theorem fp_X8_27 : FPT RX8 27 5 5 .int := ⟨_, _, _, tyX5, rfl, inX5, by decide, tb_in 286 (by decide +kernel) rfl, tyX5_ok, nmX5, rfl, by decide +kernel⟩
theorem f_X5_49 : FLD RX5 49 5 5 := ⟨_, _, _, rfl, inX5, by decide, tb_in 287 (by decide +kernel) rfl⟩
theorem fp_X5_49 : FPT RX5 49 5 5 .int := ⟨_, _, _, tyX5, rfl, inX5, by decide, tb_in 287 (by decide +kernel) rfl, tyX5_ok, nmX5, rfl, by decide +kernel⟩
theorem f_X10_288 : FLD RX10 288 5 5 := ⟨_, _, _, rfl, inX5, by decide, tb_in 288 (by decide +kernel) rfl⟩
theorem fp_X10_288 : FPT RX10 288 5 5 .int := ⟨_, _, _, tyX5, rfl, inX5, by decide, tb_in 288 (by decide +kernel) rfl, tyX5_ok, nmX5, rfl, by decide +kernel⟩
theorem f_X5_25 : FLD RX5 25 5 6 := ⟨_, _, _, rfl, inX5, by decide, tb_in 289 (by decide +kernel) rfl⟩
theorem fp_X5_25 : FPT RX5 25 5 6 .int := ⟨_, _, _, tyX5, rfl, inX5, by decide, tb_in 289 (by decide +kernel) rfl, tyX5_ok, nmX5, rfl, by decide +kernel⟩
theorem f_X10_281 : FLD RX10 281 5 6 := ⟨_, _, _, rfl, inX5, by decide, tb_in 290 (by decide +kernel) rfl⟩
theorem fp_X10_281 : FPT RX10 281 5 6 .int := ⟨_, _, _, tyX5, rfl, inX5, by decide, tb_in 290 (by decide +kernel) rfl, tyX5_ok, nmX5, rfl, by decide +kernel⟩
theorem f_X5_34 : FLD RX5 34 5 7 := ⟨_, _, _, rfl, inX5, by decide, tb_in 291 (by decide +kernel) rfl⟩
theorem fp_X5_34 : FPT RX5 34 5 7 .int := ⟨_, _, _, tyX5, rfl, inX5, by decide, tb_in 291 (by decide +kernel) rfl, tyX5_ok, nmX5, rfl, by decide +kernel⟩
theorem f_X5_37 : FLD RX5 37 5 8 := ⟨_, _, _, rfl, inX5, by decide, tb_in 292 (by decide +kernel) rfl⟩
theorem fp_X5_37 : FPT RX5 37 5 8 .int := ⟨_, _, _, tyX5, rfl, inX5, by decide, tb_in 292 (by decide +kernel) rfl, tyX5_ok, nmX5, rfl, by decide +kernel⟩
theorem f_X8_15 : FLD RX8 15 8 0 := ⟨_, _, _, rfl, inX8, by decide, tb_in 318 (by decide +kernel) rfl⟩
theorem f_X8_19 : FLD RX8 19 8 1 := ⟨_, _, _, rfl, inX8, by decide, tb_in 319 (by decide +kernel) rfl⟩
theorem f_X8_9 : FLD RX8 9 8 2 := ⟨_, _, _, rfl, inX8, by decide, tb_in 320 (by decide +kernel) rfl⟩
theorem f_X8_23 : FLD RX8 23 8 3 := ⟨_, _, _, rfl, inX8, by decide, tb_in 321 (by decide +kernel) rfl⟩
theorem fp_X8_23 : FPT RX8 23 8 3 (.object "SorrowPipes$State") := ⟨_, _, _, tyX8, rfl, inX8, by decide, tb_in 321 (by decide +kernel) rfl, tyX8_ok, nmX8, rfl, by decide +kernel⟩
theorem f_X8_49 : FLD RX8 49 8 4 := ⟨_, _, _, rfl, inX8, by decide, tb_in 322 (by decide +kernel) rfl⟩
theorem fp_X8_49 : FPT RX8 49 8 4 .int := ⟨_, _, _, tyX8, rfl, inX8, by decide, tb_in 322 (by decide +kernel) rfl, tyX8_ok, nmX8, rfl, by decide +kernel⟩
theorem f_X8_55 : FLD RX8 55 8 5 := ⟨_, _, _, rfl, inX8, by decide, tb_in 323 (by decide +kernel) rfl⟩
theorem fp_X8_55 : FPT RX8 55 8 5 .int := ⟨_, _, _, tyX8, rfl, inX8, by decide, tb_in 323 (by decide +kernel) rfl, tyX8_ok, nmX8, rfl, by decide +kernel⟩
theorem f_X8_128 : FLD RX8 128 8 6 := ⟨_, _, _, rfl, inX8, by decide, tb_in 324 (by decide +kernel) rfl⟩
theorem fp_X8_128 : FPT RX8 128 8 6 .int := ⟨_, _, _, tyX8, rfl, inX8, by decide, tb_in 324 (by decide +kernel) rfl, tyX8_ok, nmX8, rfl, by decide +kernel⟩
theorem f_X3_21 : FLD RX3 21 3 0 := ⟨_, _, _, rfl, inX3, by decide, tb_in 346 (by decide +kernel) rfl⟩
theorem f_X3_9 : FLD RX3 9 3 1 := ⟨_, _, _, rfl, inX3, by decide, tb_in 347 (by decide +kernel) rfl⟩
theorem f_X9_97 : FLD RX9 97 3 1 := ⟨_, _, _, rfl, inX3, by decide, tb_in 348 (by decide +kernel) rfl⟩
theorem f_X3_15 : FLD RX3 15 3 2 := ⟨_, _, _, rfl, inX3, by decide, tb_in 349 (by decide +kernel) rfl⟩
theorem f_X9_72 : FLD RX9 72 3 2 := ⟨_, _, _, rfl, inX3, by decide, tb_in 350 (by decide +kernel) rfl⟩
theorem f_X3_18 : FLD RX3 18 3 3 := ⟨_, _, _, rfl, inX3, by decide, tb_in 351 (by decide +kernel) rfl⟩
theorem f_X3_25 : FLD RX3 25 3 4 := ⟨_, _, _, rfl, inX3, by decide, tb_in 352 (by decide +kernel) rfl⟩
theorem fp_X3_25 : FPT RX3 25 3 4 .int := ⟨_, _, _, tyX3, rfl, inX3, by decide, tb_in 352 (by decide +kernel) rfl, tyX3_ok, nmX3, rfl, by decide +kernel⟩
theorem f_X1_18 : FLD RX1 18 1 0 := ⟨_, _, _, rfl, inX1, by decide, tb_in 370 (by decide +kernel) rfl⟩
theorem f_X1_9 : FLD RX1 9 1 1 := ⟨_, _, _, rfl, inX1, by decide, tb_in 371 (by decide +kernel) rfl⟩
theorem f_X1_15 : FLD RX1 15 1 2 := ⟨_, _, _, rfl, inX1, by decide, tb_in 372 (by decide +kernel) rfl⟩
theorem f_X1_51 : FLD RX1 51 1 3 := ⟨_, _, _, rfl, inX1, by decide, tb_in 373 (by decide +kernel) rfl⟩
theorem fp_X1_51 : FPT RX1 51 1 3 .int := ⟨_, _, _, tyX1, rfl, inX1, by decide, tb_in 373 (by decide +kernel) rfl, tyX1_ok, nmX1, rfl, by decide +kernel⟩
theorem f_X10_207 : FLD RX10 207 1 3 := ⟨_, _, _, rfl, inX1, by decide, tb_in 374 (by decide +kernel) rfl⟩
theorem fp_X10_207 : FPT RX10 207 1 3 .int := ⟨_, _, _, tyX1, rfl, inX1, by decide, tb_in 374 (by decide +kernel) rfl, tyX1_ok, nmX1, rfl, by decide +kernel⟩
theorem f_X9_22 : FLD RX9 22 9 0 := ⟨_, _, _, rfl, inX9, by decide, tb_in 390 (by decide +kernel) rfl⟩
theorem f_X9_26 : FLD RX9 26 9 1 := ⟨_, _, _, rfl, inX9, by decide, tb_in 391 (by decide +kernel) rfl⟩
theorem f_X9_9 : FLD RX9 9 9 2 := ⟨_, _, _, rfl, inX9, by decide, tb_in 392 (by decide +kernel) rfl⟩
theorem f_X9_15 : FLD RX9 15 9 3 := ⟨_, _, _, rfl, inX9, by decide, tb_in 393 (by decide +kernel) rfl⟩
theorem f_X9_18 : FLD RX9 18 9 4 := ⟨_, _, _, rfl, inX9, by decide, tb_in 394 (by decide +kernel) rfl⟩
theorem f_X9_36 : FLD RX9 36 9 5 := ⟨_, _, _, rfl, inX9, by decide, tb_in 395 (by decide +kernel) rfl⟩
theorem fp_X9_36 : FPT RX9 36 9 5 .int := ⟨_, _, _, tyX9, rfl, inX9, by decide, tb_in 395 (by decide +kernel) rfl, tyX9_ok, nmX9, rfl, by decide +kernel⟩
theorem f_X9_87 : FLD RX9 87 9 6 := ⟨_, _, _, rfl, inX9, by decide, tb_in 396 (by decide +kernel) rfl⟩
theorem fp_X9_87 : FPT RX9 87 9 6 .int := ⟨_, _, _, tyX9, rfl, inX9, by decide, tb_in 396 (by decide +kernel) rfl, tyX9_ok, nmX9, rfl, by decide +kernel⟩
theorem f_X10_250 : FLD RX10 250 9 6 := ⟨_, _, _, rfl, inX9, by decide, tb_in 397 (by decide +kernel) rfl⟩
theorem fp_X10_250 : FPT RX10 250 9 6 .int := ⟨_, _, _, tyX9, rfl, inX9, by decide, tb_in 397 (by decide +kernel) rfl, tyX9_ok, nmX9, rfl, by decide +kernel⟩
theorem f_X9_90 : FLD RX9 90 9 7 := ⟨_, _, _, rfl, inX9, by decide, tb_in 398 (by decide +kernel) rfl⟩
theorem fp_X9_90 : FPT RX9 90 9 7 .int := ⟨_, _, _, tyX9, rfl, inX9, by decide, tb_in 398 (by decide +kernel) rfl, tyX9_ok, nmX9, rfl, by decide +kernel⟩
theorem f_X10_253 : FLD RX10 253 9 7 := ⟨_, _, _, rfl, inX9, by decide, tb_in 399 (by decide +kernel) rfl⟩
theorem fp_X10_253 : FPT RX10 253 9 7 .int := ⟨_, _, _, tyX9, rfl, inX9, by decide, tb_in 399 (by decide +kernel) rfl, tyX9_ok, nmX9, rfl, by decide +kernel⟩
theorem f_X0_9 : FLD RX0 9 0 0 := ⟨_, _, _, rfl, inX0, by decide, tb_in 424 (by decide +kernel) rfl⟩
theorem f_X0_34 : FLD RX0 34 0 1 := ⟨_, _, _, rfl, inX0, by decide, tb_in 425 (by decide +kernel) rfl⟩
theorem fp_X0_34 : FPT RX0 34 0 1 .int := ⟨_, _, _, tyX0, rfl, inX0, by decide, tb_in 425 (by decide +kernel) rfl, tyX0_ok, nmX0, rfl, by decide +kernel⟩
theorem f_X0_37 : FLD RX0 37 0 2 := ⟨_, _, _, rfl, inX0, by decide, tb_in 426 (by decide +kernel) rfl⟩
theorem fp_X0_37 : FPT RX0 37 0 2 .int := ⟨_, _, _, tyX0, rfl, inX0, by decide, tb_in 426 (by decide +kernel) rfl, tyX0_ok, nmX0, rfl, by decide +kernel⟩
theorem f_X0_19 : FLD RX0 19 0 3 := ⟨_, _, _, rfl, inX0, by decide, tb_in 427 (by decide +kernel) rfl⟩
theorem fp_X0_19 : FPT RX0 19 0 3 .int := ⟨_, _, _, tyX0, rfl, inX0, by decide, tb_in 427 (by decide +kernel) rfl, tyX0_ok, nmX0, rfl, by decide +kernel⟩
theorem f_X10_260 : FLD RX10 260 0 3 := ⟨_, _, _, rfl, inX0, by decide, tb_in 428 (by decide +kernel) rfl⟩
theorem fp_X10_260 : FPT RX10 260 0 3 .int := ⟨_, _, _, tyX0, rfl, inX0, by decide, tb_in 428 (by decide +kernel) rfl, tyX0_ok, nmX0, rfl, by decide +kernel⟩
theorem f_X0_23 : FLD RX0 23 0 4 := ⟨_, _, _, rfl, inX0, by decide, tb_in 429 (by decide +kernel) rfl⟩
theorem fp_X0_23 : FPT RX0 23 0 4 .int := ⟨_, _, _, tyX0, rfl, inX0, by decide, tb_in 429 (by decide +kernel) rfl, tyX0_ok, nmX0, rfl, by decide +kernel⟩
theorem f_X10_263 : FLD RX10 263 0 4 := ⟨_, _, _, rfl, inX0, by decide, tb_in 430 (by decide +kernel) rfl⟩
theorem fp_X10_263 : FPT RX10 263 0 4 .int := ⟨_, _, _, tyX0, rfl, inX0, by decide, tb_in 430 (by decide +kernel) rfl, tyX0_ok, nmX0, rfl, by decide +kernel⟩
theorem f_X10_10 : FLD RX10 10 10 0 := ⟨_, _, _, rfl, inX10, by decide, tb_in 442 (by decide +kernel) rfl⟩
theorem f_X10_19 : FLD RX10 19 10 1 := ⟨_, _, _, rfl, inX10, by decide, tb_in 443 (by decide +kernel) rfl⟩
theorem f_X10_23 : FLD RX10 23 10 2 := ⟨_, _, _, rfl, inX10, by decide, tb_in 444 (by decide +kernel) rfl⟩
theorem f_X10_29 : FLD RX10 29 10 3 := ⟨_, _, _, rfl, inX10, by decide, tb_in 445 (by decide +kernel) rfl⟩
theorem f_X10_33 : FLD RX10 33 10 4 := ⟨_, _, _, rfl, inX10, by decide, tb_in 446 (by decide +kernel) rfl⟩
theorem f_X10_39 : FLD RX10 39 10 5 := ⟨_, _, _, rfl, inX10, by decide, tb_in 447 (by decide +kernel) rfl⟩
theorem f_X10_46 : FLD RX10 46 10 6 := ⟨_, _, _, rfl, inX10, by decide, tb_in 448 (by decide +kernel) rfl⟩
theorem f_X10_50 : FLD RX10 50 10 7 := ⟨_, _, _, rfl, inX10, by decide, tb_in 449 (by decide +kernel) rfl⟩
theorem f_X10_53 : FLD RX10 53 10 8 := ⟨_, _, _, rfl, inX10, by decide, tb_in 450 (by decide +kernel) rfl⟩
theorem f_X10_61 : FLD RX10 61 10 9 := ⟨_, _, _, rfl, inX10, by decide, tb_in 451 (by decide +kernel) rfl⟩
theorem f_X10_70 : FLD RX10 70 10 10 := ⟨_, _, _, rfl, inX10, by decide, tb_in 452 (by decide +kernel) rfl⟩
theorem f_X10_77 : FLD RX10 77 10 11 := ⟨_, _, _, rfl, inX10, by decide, tb_in 453 (by decide +kernel) rfl⟩
theorem f_X10_86 : FLD RX10 86 10 12 := ⟨_, _, _, rfl, inX10, by decide, tb_in 454 (by decide +kernel) rfl⟩
theorem f_X10_93 : FLD RX10 93 10 13 := ⟨_, _, _, rfl, inX10, by decide, tb_in 455 (by decide +kernel) rfl⟩
theorem f_X10_97 : FLD RX10 97 10 14 := ⟨_, _, _, rfl, inX10, by decide, tb_in 456 (by decide +kernel) rfl⟩
theorem f_X10_284 : FLD RX10 284 10 15 := ⟨_, _, _, rfl, inX10, by decide, tb_in 457 (by decide +kernel) rfl⟩
theorem fp_X10_284 : FPT RX10 284 10 15 .boolean := ⟨_, _, _, tyX10, rfl, inX10, by decide, tb_in 457 (by decide +kernel) rfl, tyX10_ok, nmX10, rfl, by decide +kernel⟩
theorem f_X11_7 : FLD RX11 7 11 0 := ⟨_, _, _, rfl, inX11, by decide, tb_in 1121 (by decide +kernel) rfl⟩
theorem f_X11_13 : FLD RX11 13 11 1 := ⟨_, _, _, rfl, inX11, by decide, tb_in 1122 (by decide +kernel) rfl⟩
theorem f_X11_16 : FLD RX11 16 11 2 := ⟨_, _, _, rfl, inX11, by decide, tb_in 1123 (by decide +kernel) rfl⟩
theorem f_X11_19 : FLD RX11 19 11 3 := ⟨_, _, _, rfl, inX11, by decide, tb_in 1124 (by decide +kernel) rfl⟩
theorem f_X11_22 : FLD RX11 22 11 4 := ⟨_, _, _, rfl, inX11, by decide, tb_in 1125 (by decide +kernel) rfl⟩
theorem f_X11_25 : FLD RX11 25 11 5 := ⟨_, _, _, rfl, inX11, by decide, tb_in 1126 (by decide +kernel) rfl⟩
theorem f_X11_28 : FLD RX11 28 11 6 := ⟨_, _, _, rfl, inX11, by decide, tb_in 1127 (by decide +kernel) rfl⟩
theorem f_X11_133 : FLD RX11 133 11 7 := ⟨_, _, _, rfl, inX11, by decide, tb_in 1128 (by decide +kernel) rfl⟩
theorem fp_X11_133 : FPT RX11 133 11 7 .int := ⟨_, _, _, tyX11, rfl, inX11, by decide, tb_in 1128 (by decide +kernel) rfl, tyX11_ok, nmX11, rfl, by decide +kernel⟩
theorem f_X11_145 : FLD RX11 145 11 8 := ⟨_, _, _, rfl, inX11, by decide, tb_in 1129 (by decide +kernel) rfl⟩
theorem fp_X11_145 : FPT RX11 145 11 8 .int := ⟨_, _, _, tyX11, rfl, inX11, by decide, tb_in 1129 (by decide +kernel) rfl, tyX11_ok, nmX11, rfl, by decide +kernel⟩
theorem f_X11_31 : FLD RX11 31 11 9 := ⟨_, _, _, rfl, inX11, by decide, tb_in 1130 (by decide +kernel) rfl⟩
theorem f_X11_155 : FLD RX11 155 11 10 := ⟨_, _, _, rfl, inX11, by decide, tb_in 1131 (by decide +kernel) rfl⟩
theorem fp_X11_155 : FPT RX11 155 11 10 .int := ⟨_, _, _, tyX11, rfl, inX11, by decide, tb_in 1131 (by decide +kernel) rfl, tyX11_ok, nmX11, rfl, by decide +kernel⟩
theorem f_X11_162 : FLD RX11 162 11 11 := ⟨_, _, _, rfl, inX11, by decide, tb_in 1132 (by decide +kernel) rfl⟩
theorem fp_X11_162 : FPT RX11 162 11 11 .int := ⟨_, _, _, tyX11, rfl, inX11, by decide, tb_in 1132 (by decide +kernel) rfl, tyX11_ok, nmX11, rfl, by decide +kernel⟩
theorem f_X11_165 : FLD RX11 165 11 12 := ⟨_, _, _, rfl, inX11, by decide, tb_in 1133 (by decide +kernel) rfl⟩
theorem fp_X11_165 : FPT RX11 165 11 12 .int := ⟨_, _, _, tyX11, rfl, inX11, by decide, tb_in 1133 (by decide +kernel) rfl, tyX11_ok, nmX11, rfl, by decide +kernel⟩
theorem f_X11_172 : FLD RX11 172 11 13 := ⟨_, _, _, rfl, inX11, by decide, tb_in 1134 (by decide +kernel) rfl⟩
theorem fp_X11_172 : FPT RX11 172 11 13 .int := ⟨_, _, _, tyX11, rfl, inX11, by decide, tb_in 1134 (by decide +kernel) rfl, tyX11_ok, nmX11, rfl, by decide +kernel⟩
theorem f_X11_178 : FLD RX11 178 11 14 := ⟨_, _, _, rfl, inX11, by decide, tb_in 1135 (by decide +kernel) rfl⟩
theorem fp_X11_178 : FPT RX11 178 11 14 .int := ⟨_, _, _, tyX11, rfl, inX11, by decide, tb_in 1135 (by decide +kernel) rfl, tyX11_ok, nmX11, rfl, by decide +kernel⟩
theorem f_X11_189 : FLD RX11 189 11 15 := ⟨_, _, _, rfl, inX11, by decide, tb_in 1136 (by decide +kernel) rfl⟩
theorem fp_X11_189 : FPT RX11 189 11 15 .int := ⟨_, _, _, tyX11, rfl, inX11, by decide, tb_in 1136 (by decide +kernel) rfl, tyX11_ok, nmX11, rfl, by decide +kernel⟩
theorem f_X11_185 : FLD RX11 185 11 16 := ⟨_, _, _, rfl, inX11, by decide, tb_in 1137 (by decide +kernel) rfl⟩
theorem fp_X11_185 : FPT RX11 185 11 16 .int := ⟨_, _, _, tyX11, rfl, inX11, by decide, tb_in 1137 (by decide +kernel) rfl, tyX11_ok, nmX11, rfl, by decide +kernel⟩
theorem f_X11_192 : FLD RX11 192 11 17 := ⟨_, _, _, rfl, inX11, by decide, tb_in 1138 (by decide +kernel) rfl⟩
theorem fp_X11_192 : FPT RX11 192 11 17 .int := ⟨_, _, _, tyX11, rfl, inX11, by decide, tb_in 1138 (by decide +kernel) rfl, tyX11_ok, nmX11, rfl, by decide +kernel⟩
theorem f_X11_240 : FLD RX11 240 11 18 := ⟨_, _, _, rfl, inX11, by decide, tb_in 1139 (by decide +kernel) rfl⟩
theorem fp_X11_240 : FPT RX11 240 11 18 .int := ⟨_, _, _, tyX11, rfl, inX11, by decide, tb_in 1139 (by decide +kernel) rfl, tyX11_ok, nmX11, rfl, by decide +kernel⟩
theorem f_X11_255 : FLD RX11 255 11 19 := ⟨_, _, _, rfl, inX11, by decide, tb_in 1140 (by decide +kernel) rfl⟩
theorem fp_X11_255 : FPT RX11 255 11 19 .int := ⟨_, _, _, tyX11, rfl, inX11, by decide, tb_in 1140 (by decide +kernel) rfl, tyX11_ok, nmX11, rfl, by decide +kernel⟩
theorem f_X11_35 : FLD RX11 35 11 20 := ⟨_, _, _, rfl, inX11, by decide, tb_in 1141 (by decide +kernel) rfl⟩
theorem f_X11_38 : FLD RX11 38 11 21 := ⟨_, _, _, rfl, inX11, by decide, tb_in 1142 (by decide +kernel) rfl⟩
theorem f_X11_41 : FLD RX11 41 11 22 := ⟨_, _, _, rfl, inX11, by decide, tb_in 1143 (by decide +kernel) rfl⟩
theorem f_X11_44 : FLD RX11 44 11 23 := ⟨_, _, _, rfl, inX11, by decide, tb_in 1144 (by decide +kernel) rfl⟩
theorem f_X11_47 : FLD RX11 47 11 24 := ⟨_, _, _, rfl, inX11, by decide, tb_in 1145 (by decide +kernel) rfl⟩
theorem f_X11_50 : FLD RX11 50 11 25 := ⟨_, _, _, rfl, inX11, by decide, tb_in 1146 (by decide +kernel) rfl⟩
theorem f_X11_53 : FLD RX11 53 11 26 := ⟨_, _, _, rfl, inX11, by decide, tb_in 1147 (by decide +kernel) rfl⟩
theorem f_X11_56 : FLD RX11 56 11 27 := ⟨_, _, _, rfl, inX11, by decide, tb_in 1148 (by decide +kernel) rfl⟩
theorem f_X11_59 : FLD RX11 59 11 28 := ⟨_, _, _, rfl, inX11, by decide, tb_in 1149 (by decide +kernel) rfl⟩
theorem f_X11_62 : FLD RX11 62 11 29 := ⟨_, _, _, rfl, inX11, by decide, tb_in 1150 (by decide +kernel) rfl⟩
theorem f_X11_65 : FLD RX11 65 11 30 := ⟨_, _, _, rfl, inX11, by decide, tb_in 1151 (by decide +kernel) rfl⟩
theorem f_X11_68 : FLD RX11 68 11 31 := ⟨_, _, _, rfl, inX11, by decide, tb_in 1152 (by decide +kernel) rfl⟩
theorem f_X11_71 : FLD RX11 71 11 32 := ⟨_, _, _, rfl, inX11, by decide, tb_in 1153 (by decide +kernel) rfl⟩
theorem f_X11_74 : FLD RX11 74 11 33 := ⟨_, _, _, rfl, inX11, by decide, tb_in 1154 (by decide +kernel) rfl⟩
theorem f_X11_77 : FLD RX11 77 11 34 := ⟨_, _, _, rfl, inX11, by decide, tb_in 1155 (by decide +kernel) rfl⟩
theorem f_X11_80 : FLD RX11 80 11 35 := ⟨_, _, _, rfl, inX11, by decide, tb_in 1156 (by decide +kernel) rfl⟩
theorem f_X11_83 : FLD RX11 83 11 36 := ⟨_, _, _, rfl, inX11, by decide, tb_in 1157 (by decide +kernel) rfl⟩
theorem f_X11_274 : FLD RX11 274 11 37 := ⟨_, _, _, rfl, inX11, by decide, tb_in 1158 (by decide +kernel) rfl⟩
theorem fp_X11_274 : FPT RX11 274 11 37 .int := ⟨_, _, _, tyX11, rfl, inX11, by decide, tb_in 1158 (by decide +kernel) rfl, tyX11_ok, nmX11, rfl, by decide +kernel⟩
theorem f_X11_265 : FLD RX11 265 11 38 := ⟨_, _, _, rfl, inX11, by decide, tb_in 1159 (by decide +kernel) rfl⟩
theorem fp_X11_265 : FPT RX11 265 11 38 .int := ⟨_, _, _, tyX11, rfl, inX11, by decide, tb_in 1159 (by decide +kernel) rfl, tyX11_ok, nmX11, rfl, by decide +kernel⟩
theorem f_X11_277 : FLD RX11 277 11 39 := ⟨_, _, _, rfl, inX11, by decide, tb_in 1160 (by decide +kernel) rfl⟩
theorem fp_X11_277 : FPT RX11 277 11 39 .int := ⟨_, _, _, tyX11, rfl, inX11, by decide, tb_in 1160 (by decide +kernel) rfl, tyX11_ok, nmX11, rfl, by decide +kernel⟩
theorem f_X11_327 : FLD RX11 327 11 40 := ⟨_, _, _, rfl, inX11, by decide, tb_in 1161 (by decide +kernel) rfl⟩
theorem fp_X11_327 : FPT RX11 327 11 40 .int := ⟨_, _, _, tyX11, rfl, inX11, by decide, tb_in 1161 (by decide +kernel) rfl, tyX11_ok, nmX11, rfl, by decide +kernel⟩
theorem f_X11_86 : FLD RX11 86 11 41 := ⟨_, _, _, rfl, inX11, by decide, tb_in 1162 (by decide +kernel) rfl⟩
theorem f_X11_89 : FLD RX11 89 11 42 := ⟨_, _, _, rfl, inX11, by decide, tb_in 1163 (by decide +kernel) rfl⟩
theorem f_X11_92 : FLD RX11 92 11 43 := ⟨_, _, _, rfl, inX11, by decide, tb_in 1164 (by decide +kernel) rfl⟩
theorem f_X11_348 : FLD RX11 348 11 44 := ⟨_, _, _, rfl, inX11, by decide, tb_in 1165 (by decide +kernel) rfl⟩
theorem fp_X11_348 : FPT RX11 348 11 44 .int := ⟨_, _, _, tyX11, rfl, inX11, by decide, tb_in 1165 (by decide +kernel) rfl, tyX11_ok, nmX11, rfl, by decide +kernel⟩
theorem f_X11_360 : FLD RX11 360 11 45 := ⟨_, _, _, rfl, inX11, by decide, tb_in 1166 (by decide +kernel) rfl⟩
theorem fp_X11_360 : FPT RX11 360 11 45 .int := ⟨_, _, _, tyX11, rfl, inX11, by decide, tb_in 1166 (by decide +kernel) rfl, tyX11_ok, nmX11, rfl, by decide +kernel⟩
theorem f_X11_95 : FLD RX11 95 11 46 := ⟨_, _, _, rfl, inX11, by decide, tb_in 1167 (by decide +kernel) rfl⟩
theorem f_X11_98 : FLD RX11 98 11 47 := ⟨_, _, _, rfl, inX11, by decide, tb_in 1168 (by decide +kernel) rfl⟩
theorem f_X11_102 : FLD RX11 102 11 48 := ⟨_, _, _, rfl, inX11, by decide, tb_in 1169 (by decide +kernel) rfl⟩
theorem f_X11_390 : FLD RX11 390 11 49 := ⟨_, _, _, rfl, inX11, by decide, tb_in 1170 (by decide +kernel) rfl⟩
theorem fp_X11_390 : FPT RX11 390 11 49 .int := ⟨_, _, _, tyX11, rfl, inX11, by decide, tb_in 1170 (by decide +kernel) rfl, tyX11_ok, nmX11, rfl, by decide +kernel⟩
theorem f_X11_105 : FLD RX11 105 11 50 := ⟨_, _, _, rfl, inX11, by decide, tb_in 1171 (by decide +kernel) rfl⟩
theorem f_X11_108 : FLD RX11 108 11 51 := ⟨_, _, _, rfl, inX11, by decide, tb_in 1172 (by decide +kernel) rfl⟩
theorem f_X11_111 : FLD RX11 111 11 52 := ⟨_, _, _, rfl, inX11, by decide, tb_in 1173 (by decide +kernel) rfl⟩
theorem f_X11_114 : FLD RX11 114 11 53 := ⟨_, _, _, rfl, inX11, by decide, tb_in 1174 (by decide +kernel) rfl⟩
theorem f_X11_117 : FLD RX11 117 11 54 := ⟨_, _, _, rfl, inX11, by decide, tb_in 1175 (by decide +kernel) rfl⟩
theorem f_X11_120 : FLD RX11 120 11 55 := ⟨_, _, _, rfl, inX11, by decide, tb_in 1176 (by decide +kernel) rfl⟩
theorem f_X11_123 : FLD RX11 123 11 56 := ⟨_, _, _, rfl, inX11, by decide, tb_in 1177 (by decide +kernel) rfl⟩
theorem f_X11_126 : FLD RX11 126 11 57 := ⟨_, _, _, rfl, inX11, by decide, tb_in 1178 (by decide +kernel) rfl⟩
theorem f_X11_406 : FLD RX11 406 11 58 := ⟨_, _, _, rfl, inX11, by decide, tb_in 1179 (by decide +kernel) rfl⟩
theorem fp_X11_406 : FPT RX11 406 11 58 .boolean := ⟨_, _, _, tyX11, rfl, inX11, by decide, tb_in 1179 (by decide +kernel) rfl, tyX11_ok, nmX11, rfl, by decide +kernel⟩
theorem f_X11_410 : FLD RX11 410 11 59 := ⟨_, _, _, rfl, inX11, by decide, tb_in 1180 (by decide +kernel) rfl⟩
theorem fp_X11_410 : FPT RX11 410 11 59 .int := ⟨_, _, _, tyX11, rfl, inX11, by decide, tb_in 1180 (by decide +kernel) rfl, tyX11_ok, nmX11, rfl, by decide +kernel⟩
theorem f_X11_413 : FLD RX11 413 11 60 := ⟨_, _, _, rfl, inX11, by decide, tb_in 1181 (by decide +kernel) rfl⟩
theorem fp_X11_413 : FPT RX11 413 11 60 .int := ⟨_, _, _, tyX11, rfl, inX11, by decide, tb_in 1181 (by decide +kernel) rfl, tyX11_ok, nmX11, rfl, by decide +kernel⟩
theorem k_X5_56 : Cond.constant RX5 56 (65536) ∈ TBL := tb_in 770 (by decide +kernel) rfl
theorem k_X8_110 : Cond.constant RX8 110 (999999) ∈ TBL := tb_in 821 (by decide +kernel) rfl
theorem k_J6_265 : Cond.constant RJ6 265 (1431655765) ∈ TBL := tb_in 922 (by decide +kernel) rfl
theorem k_J6_266 : Cond.constant RJ6 266 (858993459) ∈ TBL := tb_in 923 (by decide +kernel) rfl
theorem k_J6_267 : Cond.constant RJ6 267 (252645135) ∈ TBL := tb_in 924 (by decide +kernel) rfl
theorem k_X3_107 : Cond.constant RX3 107 (65536) ∈ TBL := tb_in 953 (by decide +kernel) rfl
theorem k_X10_234 : Cond.constant RX10 234 (65535) ∈ TBL := tb_in 961 (by decide +kernel) rfl
theorem k_X10_280 : Cond.constant RX10 280 (65536) ∈ TBL := tb_in 1087 (by decide +kernel) rfl
theorem k_X11_101 : Cond.constant RX11 101 (65536) ∈ TBL := tb_in 1120 (by decide +kernel) rfl
theorem k_X11_188 : Cond.constant RX11 188 (1048576) ∈ TBL := tb_in 1348 (by decide +kernel) rfl
theorem k_X11_326 : Cond.constant RX11 326 (999999) ∈ TBL := tb_in 1522 (by decide +kernel) rfl
theorem k_X11_355 : Cond.constant RX11 355 (1000000) ∈ TBL := tb_in 1567 (by decide +kernel) rfl
theorem k_X11_405 : Cond.constant RX11 405 (65535) ∈ TBL := tb_in 1666 (by decide +kernel) rfl
theorem k_X9_83 : Cond.constantLong RX9 83 (15) ∈ TBL := tb_in 991 (by decide +kernel) rfl
theorem k_X9_85 : Cond.constantLong RX9 85 (-1) ∈ TBL := tb_in 997 (by decide +kernel) rfl
def mX0_reckon : MD := (cX0_reckon, 8, RX0, none, 4, 154)
def mX0_layOut : MD := (cX0_layOut, 7, RX0, none, 3, 128)
def mX0_choicesOf : MD := (cX0_choicesOf, 3, RX0, some .int, 1, 80)
def mX0_turnKeys : MD := (cX0_turnKeys, 8, RX0, none, 2, 101)
def mX1_push : MD := (cX1_push, 7, RX1, some .int, 4, 149)
def mX1_seek : MD := (cX1_seek, 6, RX1, none, 3, 124)
def mX1_spreadFrom : MD := (cX1_spreadFrom, 4, RX1, some .int, 2, 101)
def mX1_pushBy : MD := (cX1_pushBy, 6, RX1, some .int, 1, 80)
def mX2_become : MD := (cX2_become, 2, RX2, none, 1, 80)
def mX2_readFrom : MD := (cX2_readFrom, 4, RX2, some .boolean, 72, 4286)
def mX2_readCondition (dp : Nat) : MD := (cX2_readCondition, 6, RX2, some .boolean, 11 + dp, 420 + 64 * dp)
def mX2_readTest (dp : Nat) : MD := (cX2_readTest, 6, RX2, some .boolean, 11 + dp, 420 + 64 * dp)
def mX2_readSum (dp : Nat) : MD := (cX2_readSum, 7, RX2, some .boolean, 11 + dp, 420 + 64 * dp)
def mX2_readFactor (dp : Nat) : MD := (cX2_readFactor, 5, RX2, some .boolean, 11 + dp, 420 + 64 * dp)
def mX2_isLetter : MD := (cX2_isLetter, 1, RX2, some .boolean, 10, 400)
def mX2_write : MD := (cX2_write, 3, RX2, some .int, 1, 80)
def mX2_land : MD := (cX2_land, 5, RX2, none, 1, 80)
def mX3_look : MD := (cX3_look, 3, RX3, none, 2, 103)
def mX3_nearTo : MD := (cX3_nearTo, 5, RX3, some .int, 3, 120)
def mX3_measureFrom : MD := (cX3_measureFrom, 6, RX3, some .int, 4, 144)
def mX3_stepsBetween : MD := (cX3_stepsBetween, 3, RX3, some .int, 5, 169)
def mX3_widestWay : MD := (cX3_widestWay, 7, RX3, some .int, 2, 103)
def mX3_groups : MD := (cX3_groups, 5, RX3, some .int, 5, 169)
def mX3_bridgeBits : MD := (cX3_bridgeBits, 4, RX3, some .int, 6, 191)
def mX3_leastRing : MD := (cX3_leastRing, 7, RX3, some .int, 6, 191)
def mX3_farthestPair : MD := (cX3_farthestPair, 6, RX3, some .int, 5, 169)
def mX3_widthToHold : MD := (cX3_widthToHold, 5, RX3, some .int, 3, 125)
def mX3_widestBetweenGroups : MD := (cX3_widestBetweenGroups, 5, RX3, some .int, 2, 101)
def mX3_joinGroups : MD := (cX3_joinGroups, 4, RX3, none, 1, 80)
def mX3_bestStand : MD := (cX3_bestStand, 5, RX3, some .int, 6, 193)
def mX3_leastCover : MD := (cX3_leastCover, 4, RX3, some .int, 4, 144)
def mX3_doesCover : MD := (cX3_doesCover, 5, RX3, some .boolean, 3, 120)
def mX3_nextOfAsMany : MD := (cX3_nextOfAsMany, 3, RX3, some .int, 1, 80)
def mX4_readFrom : MD := (cX4_readFrom, 6, RX4, some .boolean, 5, 175)
def mX4_readLine : MD := (cX4_readLine, 4, RX4, some .boolean, 4, 152)
def mX4_readPipe : MD := (cX4_readPipe, 5, RX4, some .boolean, 3, 127)
def mX4_readTurn : MD := (cX4_readTurn, 4, RX4, some .boolean, 2, 103)
def mX4_readAmount : MD := (cX4_readAmount, 6, RX4, some .boolean, 3, 127)
def mX4_note : MD := (cX4_note, 4, RX4, some .boolean, 1, 80)
def mX4_carryOut : MD := (cX4_carryOut, 4, RX4, none, 1, 80)
def mX5_settle : MD := (cX5_settle, 3, RX5, none, 2, 103)
def mX5_become : MD := (cX5_become, 2, RX5, none, 1, 80)
def mX5_comeBackTo : MD := (cX5_comeBackTo, 5, RX5, none, 2, 101)
def mX5_drawNumber : MD := (cX5_drawNumber, 1, RX5, some .int, 1, 80)
def mX5_allSorrow : MD := (cX5_allSorrow, 3, RX5, some .int, 1, 80)
def mX5_allWept : MD := (cX5_allWept, 3, RX5, some .int, 1, 80)
def mX6_isTold : MD := (cX6_isTold, 2, RX6, some .boolean, 2, 101)
def mX6_across : MD := (cX6_across, 3, RX6, some .int, 1, 80)
def mX6_openPipesOf : MD := (cX6_openPipesOf, 5, RX6, some .int, 2, 102)
def mX6_besides : MD := (cX6_besides, 6, RX6, some .int, 2, 102)
def mX6_become : MD := (cX6_become, 2, RX6, none, 1, 80)
def mX6_readFrom : MD := (cX6_readFrom, 3, RX6, some .boolean, 5, 175)
def mX6_readLine : MD := (cX6_readLine, 4, RX6, some .boolean, 4, 152)
def mX6_readRoad : MD := (cX6_readRoad, 6, RX6, some .boolean, 3, 127)
def mX6_readCorner : MD := (cX6_readCorner, 3, RX6, some .int, 2, 100)
def mX7_put : MD := (cX7_put, 3, RX7, none, 1, 80)
def mX7_gives : MD := (cX7_gives, 4, RX7, some .boolean, 1, 80)
def mX7_byteAt : MD := (cX7_byteAt, 2, RX7, some .int, 1, 80)
def mX7_isAtEnd : MD := (cX7_isAtEnd, 1, RX7, some .boolean, 1, 80)
def mX7_peek : MD := (cX7_peek, 1, RX7, some .int, 1, 80)
def mX7_isAtCorner : MD := (cX7_isAtCorner, 2, RX7, some .boolean, 2, 100)
def mX7_refuse : MD := (cX7_refuse, 3, RX7, some .boolean, 1, 80)
def mX7_takes : MD := (cX7_takes, 2, RX7, some .boolean, 2, 100)
def mX7_demands : MD := (cX7_demands, 2, RX7, some .boolean, 2, 102)
def mX7_readNumber : MD := (cX7_readNumber, 6, RX7, some .int, 2, 102)
def mX8_pass : MD := (cX8_pass, 5, RX8, some .int, 7, 222)
def mX8_rise : MD := (cX8_rise, 4, RX8, none, 6, 199)
def mX8_level : MD := (cX8_level, 5, RX8, none, 2, 105)
def mX8_give : MD := (cX8_give, 6, RX8, none, 1, 80)
def mX8_weep : MD := (cX8_weep, 4, RX8, some .int, 6, 199)
def mX8_isFrozen : MD := (cX8_isFrozen, 3, RX8, some .boolean, 5, 175)
def mX8_amountOf : MD := (cX8_amountOf, 5, RX8, some .int, 5, 175)
def mX8_work : MD := (cX8_work, 9, RX8, some .boolean, 4, 147)
def mX8_neededBy : MD := (cX8_neededBy, 1, RX8, some .int, 1, 80)
def mX8_reckon : MD := (cX8_reckon, 3, RX8, some .int, 1, 80)
def mX8_letter : MD := (cX8_letter, 2, RX8, some .int, 3, 126)
def mX8_mostBeside : MD := (cX8_mostBeside, 4, RX8, some .int, 2, 102)
def mX9_paintAll : MD := (cX9_paintAll, 7, RX9, some .int, 7, 216)
def mX9_pairUp : MD := (cX9_pairUp, 6, RX9, some .int, 6, 191)
def mX9_measureOdds : MD := (cX9_measureOdds, 3, RX9, none, 5, 169)
def mX9_leastFor : MD := (cX9_leastFor, 7, RX9, some .int, 3, 120)
def mX9_costOf : MD := (cX9_costOf, 2, RX9, some .int, 1, 80)
def mX9_setCost : MD := (cX9_setCost, 4, RX9, none, 1, 80)
def mX9_goFar : MD := (cX9_goFar, 2, RX9, none, 64, 3986)
def mX9_goOn (dp : Nat) : MD := (cX9_goOn, 7, RX9, none, 3 + dp, 120 + 64 * dp)
def mX10_feed : MD := (cX10_feed, 6, RX10, some .int, 2, 102)
def mX10_law : MD := (cX10_law, 2, RX10, some .int, 73, 4309)
def mX10_town : MD := (cX10_town, 2, RX10, some .int, 6, 197)
def mX10_orders : MD := (cX10_orders, 2, RX10, some .int, 6, 200)
def mX10_minutes : MD := (cX10_minutes, 2, RX10, some .int, 8, 246)
def mX10_tried : MD := (cX10_tried, 7, RX10, some .int, 8, 246)
def mX10_cornerIs : MD := (cX10_cornerIs, 3, RX10, some .int, 3, 127)
def mX10_pipeIs : MD := (cX10_pipeIs, 3, RX10, some .int, 1, 80)
def mX10_dry : MD := (cX10_dry, 4, RX10, some .int, 8, 246)
def mX10_most : MD := (cX10_most, 5, RX10, some .int, 5, 175)
def mX10_cut : MD := (cX10_cut, 3, RX10, some .int, 5, 175)
def mX10_widest : MD := (cX10_widest, 3, RX10, some .int, 4, 144)
def mX10_steps : MD := (cX10_steps, 3, RX10, some .int, 6, 191)
def mX10_bridges : MD := (cX10_bridges, 3, RX10, some .int, 7, 214)
def mX10_brigades : MD := (cX10_brigades, 4, RX10, some .int, 7, 217)
def mX10_painted : MD := (cX10_painted, 2, RX10, some .int, 8, 242)
def mX10_keptOpen : MD := (cX10_keptOpen, 1, RX10, some .int, 4, 149)
def mX10_farthest : MD := (cX10_farthest, 3, RX10, some .int, 6, 194)
def mX10_ring : MD := (cX10_ring, 2, RX10, some .int, 7, 217)
def mX10_highest : MD := (cX10_highest, 5, RX10, some .int, 3, 122)
def mX10_longest : MD := (cX10_longest, 3, RX10, some .int, 65, 4007)
def mX10_byEighths : MD := (cX10_byEighths, 5, RX10, some .int, 5, 181)
def mX10_readings : MD := (cX10_readings, 10, RX10, some .int, 3, 122)
def mX10_hose : MD := (cX10_hose, 12, RX10, some .int, 2, 103)
def mX10_seed : MD := (cX10_seed, 2, RX10, some .boolean, 1, 80)
def mX10_keep : MD := (cX10_keep, 1, RX10, some .int, 2, 101)
def mX10_undo : MD := (cX10_undo, 1, RX10, some .boolean, 3, 125)
def mX10_check : MD := (cX10_check, 4, RX10, some .int, 3, 122)
def mX10_count : MD := (cX10_count, 2, RX10, some .int, 6, 193)
def mX10_areTwo : MD := (cX10_areTwo, 3, RX10, some .boolean, 3, 122)
def mX10_isSpan : MD := (cX10_isSpan, 1, RX10, some .boolean, 1, 80)
def mX10_hasBit : MD := (cX10_hasBit, 2, RX10, some .boolean, 1, 80)
def mX10_lowest : MD := (cX10_lowest, 1, RX10, some .int, 2, 100)
def mX11_in : MD := (cX11_in, 3, RX11, some .boolean, 1, 80)
def mX11_min : MD := (cX11_min, 2, RX11, some .int, 1, 80)
def mX11_max : MD := (cX11_max, 2, RX11, some .int, 1, 80)
def mX11_has : MD := (cX11_has, 2, RX11, some .boolean, 1, 80)
def mX11_bits : MD := (cX11_bits, 3, RX11, some .int, 1, 80)
def mX11_copies : MD := (cX11_copies, 3, RX11, none, 1, 80)
def mX11_isTold : MD := (cX11_isTold, 2, RX11, some .boolean, 2, 102)
def mX11_areTwo : MD := (cX11_areTwo, 3, RX11, some .boolean, 3, 123)
def mX11_isOpen : MD := (cX11_isOpen, 2, RX11, some .boolean, 2, 102)
def mX11_beyond : MD := (cX11_beyond, 3, RX11, some .int, 3, 123)
def mX11_nextTo : MD := (cX11_nextTo, 4, RX11, some .int, 4, 145)
def mX11_openOf : MD := (cX11_openOf, 4, RX11, some .int, 4, 145)
def mX11_types : MD := (cX11_types, 3, RX11, none, 1, 80)
def mX11_feed : MD := (cX11_feed, 6, RX11, some .int, 2, 102)
def mX11_octet : MD := (cX11_octet, 2, RX11, some .int, 1, 80)
def mX11_here : MD := (cX11_here, 1, RX11, some .int, 1, 80)
def mX11_isDigit : MD := (cX11_isDigit, 1, RX11, some .boolean, 2, 100)
def mX11_wrongAt : MD := (cX11_wrongAt, 3, RX11, some .boolean, 1, 80)
def mX11_takes : MD := (cX11_takes, 2, RX11, some .boolean, 2, 102)
def mX11_readsNumber : MD := (cX11_readsNumber, 2, RX11, some .boolean, 3, 120)
def mX11_notes : MD := (cX11_notes, 3, RX11, none, 1, 80)
def mX11_opens : MD := (cX11_opens, 2, RX11, some .boolean, 2, 102)
def mX11_waitTop : MD := (cX11_waitTop, 1, RX11, some .int, 1, 80)
def mX11_factOf : MD := (cX11_factOf, 1, RX11, some .int, 1, 80)
def mX11_sumSign : MD := (cX11_sumSign, 1, RX11, some .int, 1, 80)
def mX11_closesSums : MD := (cX11_closesSums, 2, RX11, none, 2, 102)
def mX11_readsFactor : MD := (cX11_readsFactor, 2, RX11, some .boolean, 4, 141)
def mX11_hasOpenSum : MD := (cX11_hasOpenSum, 3, RX11, some .boolean, 1, 80)
def mX11_readsSum : MD := (cX11_readsSum, 3, RX11, some .boolean, 5, 162)
def mX11_endsPiece : MD := (cX11_endsPiece, 1, RX11, none, 2, 102)
def mX11_lands : MD := (cX11_lands, 3, RX11, none, 2, 100)
def mX11_jumps : MD := (cX11_jumps, 2, RX11, none, 2, 102)
def mX11_readsCompared : MD := (cX11_readsCompared, 2, RX11, some .boolean, 6, 184)
def mX11_readsCondition : MD := (cX11_readsCondition, 1, RX11, some .boolean, 7, 205)
def mX11_readsRule : MD := (cX11_readsRule, 2, RX11, some .boolean, 8, 225)
def mX11_beginsText : MD := (cX11_beginsText, 2, RX11, none, 1, 80)
def mX11_law : MD := (cX11_law, 4, RX11, some .int, 9, 246)
def mX11_reckon : MD := (cX11_reckon, 3, RX11, some .int, 1, 80)
def mX11_reckonsTo : MD := (cX11_reckonsTo, 8, RX11, some .int, 2, 102)
def mX11_byLaw : MD := (cX11_byLaw, 4, RX11, some .int, 3, 129)
def mX11_holdsAny : MD := (cX11_holdsAny, 3, RX11, some .boolean, 3, 129)
def mX11_isLetter : MD := (cX11_isLetter, 1, RX11, some .boolean, 2, 102)
def mX11_readsAmount : MD := (cX11_readsAmount, 3, RX11, some .boolean, 3, 120)
def mX11_readsRoad : MD := (cX11_readsRoad, 4, RX11, some .boolean, 4, 142)
def mX11_readsTownLine : MD := (cX11_readsTownLine, 2, RX11, some .boolean, 5, 165)
def mX11_town : MD := (cX11_town, 4, RX11, some .int, 6, 186)
def mX11_readsCornerLine : MD := (cX11_readsCornerLine, 3, RX11, some .boolean, 4, 142)
def mX11_readsPipeLine : MD := (cX11_readsPipeLine, 2, RX11, some .boolean, 4, 142)
def mX11_readsOrder : MD := (cX11_readsOrder, 2, RX11, some .boolean, 5, 164)
def mX11_orders : MD := (cX11_orders, 3, RX11, some .int, 6, 185)
def mX11_mostBeyond : MD := (cX11_mostBeyond, 4, RX11, some .int, 5, 168)
def mX11_feels : MD := (cX11_feels, 2, RX11, none, 6, 191)
def mX11_rises : MD := (cX11_rises, 3, RX11, none, 7, 212)
def mX11_levelOf : MD := (cX11_levelOf, 2, RX11, some .int, 1, 80)
def mX11_levels : MD := (cX11_levels, 6, RX11, none, 2, 101)
def mX11_weeps : MD := (cX11_weeps, 3, RX11, none, 7, 212)
def mX11_minuteGoes : MD := (cX11_minuteGoes, 2, RX11, none, 8, 234)
def mX11_minutesGo : MD := (cX11_minutesGo, 3, RX11, none, 9, 255)
def mX11_minutes : MD := (cX11_minutes, 2, RX11, some .int, 10, 277)
def mX11_sumOf : MD := (cX11_sumOf, 4, RX11, some .int, 3, 123)
def mX11_tried : MD := (cX11_tried, 4, RX11, some .int, 10, 277)
def mX11_dry : MD := (cX11_dry, 5, RX11, some .int, 9, 255)
def mX11_cornerIs : MD := (cX11_cornerIs, 3, RX11, some .int, 5, 168)
def mX11_pipeIs : MD := (cX11_pipeIs, 3, RX11, some .int, 2, 102)
def mX11_restOf : MD := (cX11_restOf, 5, RX11, some .int, 1, 80)
def mX11_comesOn : MD := (cX11_comesOn, 7, RX11, some .int, 4, 145)
def mX11_carries : MD := (cX11_carries, 7, RX11, some .int, 4, 145)
def mX11_laysFlow : MD := (cX11_laysFlow, 5, RX11, some .int, 5, 171)
def mX11_most : MD := (cX11_most, 5, RX11, some .int, 6, 195)
def mX11_cut : MD := (cX11_cut, 3, RX11, some .int, 6, 195)
def mX11_reached : MD := (cX11_reached, 8, RX11, some .int, 3, 123)
def mX11_widest : MD := (cX11_widest, 4, RX11, some .int, 4, 150)
def mX11_laysSteps : MD := (cX11_laysSteps, 6, RX11, none, 4, 145)
def mX11_far : MD := (cX11_far, 3, RX11, some .int, 1, 80)
def mX11_laysAllSteps : MD := (cX11_laysAllSteps, 2, RX11, none, 5, 170)
def mX11_steps : MD := (cX11_steps, 3, RX11, some .int, 5, 170)
def mX11_bridges : MD := (cX11_bridges, 5, RX11, some .int, 4, 150)
def mX11_groups : MD := (cX11_groups, 4, RX11, some .int, 4, 150)
def mX11_worstOf : MD := (cX11_worstOf, 6, RX11, some .int, 3, 123)
def mX11_brigades : MD := (cX11_brigades, 7, RX11, some .int, 6, 191)
def mX11_painting : MD := (cX11_painting, 5, RX11, some .int, 2, 102)
def mX11_painted : MD := (cX11_painted, 5, RX11, some .int, 6, 191)
def mX11_keptOpen : MD := (cX11_keptOpen, 6, RX11, some .int, 3, 123)
def mX11_farthest : MD := (cX11_farthest, 7, RX11, some .int, 6, 191)
def mX11_ring : MD := (cX11_ring, 6, RX11, some .int, 5, 170)
def mX11_highest : MD := (cX11_highest, 4, RX11, some .int, 3, 123)
def mX11_lowestOf : MD := (cX11_lowestOf, 2, RX11, some .int, 2, 101)
def mX11_longest : MD := (cX11_longest, 9, RX11, some .int, 5, 168)
def mX11_adds : MD := (cX11_adds, 5, RX11, none, 2, 101)
def mX11_byEighths : MD := (cX11_byEighths, 5, RX11, some .int, 3, 125)
def mX11_readings : MD := (cX11_readings, 9, RX11, some .int, 3, 123)
def mX11_hose : MD := (cX11_hose, 8, RX11, some .int, 2, 102)
def mX11_seed : MD := (cX11_seed, 2, RX11, some .boolean, 2, 102)
def mX11_keep : MD := (cX11_keep, 1, RX11, some .int, 2, 102)
def mX11_undo : MD := (cX11_undo, 3, RX11, some .boolean, 3, 123)
def mX11_check : MD := (cX11_check, 3, RX11, some .int, 3, 123)
def mX11_openPipes : MD := (cX11_openPipes, 3, RX11, some .int, 3, 123)
def mX11_count : MD := (cX11_count, 2, RX11, some .int, 5, 173)
def mJ6_bitCount_0f7a4 : MD := (cJ6_bitCount_0f7a4, 1, RJ6, some .int, 1, 80)
def mJ7_fill_53178 : MD := (cJ7_fill_53178, 4, RJ7, none, 1, 80)
theorem rms_X2_readCondition_X2_readTest (dp : Nat) : RMS (mX2_readTest dp) (mX2_readCondition (dp + 1)) := ⟨by simp only [mX2_readCondition, mX2_readTest]; omega, by simp only [mX2_readCondition, mX2_readTest]; omega⟩
theorem rms_X2_readTest_X2_readCondition (dp : Nat) : RMS (mX2_readCondition dp) (mX2_readTest (dp + 1)) := ⟨by simp only [mX2_readTest, mX2_readCondition]; omega, by simp only [mX2_readTest, mX2_readCondition]; omega⟩
theorem rms_X2_readTest_X2_readSum (dp : Nat) : RMS (mX2_readSum dp) (mX2_readTest (dp + 1)) := ⟨by simp only [mX2_readTest, mX2_readSum]; omega, by simp only [mX2_readTest, mX2_readSum]; omega⟩
theorem rms_X2_readSum_X2_readFactor (dp : Nat) : RMS (mX2_readFactor dp) (mX2_readSum (dp + 1)) := ⟨by simp only [mX2_readSum, mX2_readFactor]; omega, by simp only [mX2_readSum, mX2_readFactor]; omega⟩
theorem rms_X2_readFactor_X2_readSum (dp : Nat) : RMS (mX2_readSum dp) (mX2_readFactor (dp + 1)) := ⟨by simp only [mX2_readFactor, mX2_readSum]; omega, by simp only [mX2_readFactor, mX2_readSum]; omega⟩
theorem rms_X9_goOn_X9_goOn (dp : Nat) : RMS (mX9_goOn dp) (mX9_goOn (dp + 1)) := ⟨by simp only [mX9_goOn, mX9_goOn]; omega, by simp only [mX9_goOn, mX9_goOn]; omega⟩
theorem cl_X0_15 : CLV RX0 15 0 yX0_layOut mX0_layOut 2 := ⟨⟨tb_in 1055 (by decide +kernel) rfl, tb_in 1058 (by decide +kernel) rfl, tb_in 109 (by decide +kernel) rfl, by decide +kernel⟩, tb_in 1057 (by decide +kernel) rfl, _, rfl, tb_in 37 (by decide +kernel) rfl⟩
theorem cl_X0_26 : CLS RX0 26 yX0_choicesOf mX0_choicesOf 1 := ⟨⟨tb_in 1060 (by decide +kernel) rfl, tb_in 1062 (by decide +kernel) rfl, tb_in 109 (by decide +kernel) rfl, by decide +kernel⟩, tb_in 1061 (by decide +kernel) rfl⟩
theorem cl_X0_30 : CLV RX0 30 0 yX0_turnKeys mX0_turnKeys 4 := ⟨⟨tb_in 1063 (by decide +kernel) rfl, tb_in 1066 (by decide +kernel) rfl, tb_in 109 (by decide +kernel) rfl, by decide +kernel⟩, tb_in 1065 (by decide +kernel) rfl, _, rfl, tb_in 38 (by decide +kernel) rfl⟩
theorem ml_X0_40 : Cond.methodLink RX0 40 Lib.Math.min.name ∈ TBL := tb_in 1071 (by decide +kernel) rfl
theorem cl_X0_46 : CLS RX0 46 yJ7_fill_53178 mJ7_fill_53178 2 := ⟨⟨tb_in 1059 (by decide +kernel) rfl, tb_in 669 (by decide +kernel) rfl, tb_in 118 (by decide +kernel) rfl, by decide +kernel⟩, tb_in 668 (by decide +kernel) rfl⟩
theorem cl_X0_52 : CLV RX0 52 7 yX7_byteAt mX7_byteAt 1 := ⟨⟨tb_in 1067 (by decide +kernel) rfl, tb_in 1070 (by decide +kernel) rfl, tb_in 100 (by decide +kernel) rfl, by decide +kernel⟩, tb_in 1068 (by decide +kernel) rfl, _, rfl, tb_in 1069 (by decide +kernel) rfl⟩
theorem cl_X1_22 : CLS RX1 22 yJ7_fill_53178 mJ7_fill_53178 2 := ⟨⟨tb_in 865 (by decide +kernel) rfl, tb_in 669 (by decide +kernel) rfl, tb_in 118 (by decide +kernel) rfl, by decide +kernel⟩, tb_in 668 (by decide +kernel) rfl⟩
theorem cl_X1_34 : CLN RX1 34 yX10_hasBit mX10_hasBit 2 := ⟨List.mem_of_getElem? (i := 8) (by decide +kernel), tb_in 738 (by decide +kernel) rfl, tb_in 99 (by decide +kernel) rfl, by decide +kernel, tb_in 737 (by decide +kernel) rfl⟩
theorem cl_X1_47 : CLV RX1 47 1 yX1_seek mX1_seek 1 := ⟨⟨tb_in 867 (by decide +kernel) rfl, tb_in 870 (by decide +kernel) rfl, tb_in 107 (by decide +kernel) rfl, by decide +kernel⟩, tb_in 869 (by decide +kernel) rfl, _, rfl, tb_in 24 (by decide +kernel) rfl⟩
theorem cl_X1_54 : CLV RX1 54 1 yX1_pushBy mX1_pushBy 2 := ⟨⟨tb_in 875 (by decide +kernel) rfl, tb_in 878 (by decide +kernel) rfl, tb_in 107 (by decide +kernel) rfl, by decide +kernel⟩, tb_in 877 (by decide +kernel) rfl, _, rfl, tb_in 26 (by decide +kernel) rfl⟩
theorem cl_X1_58 : CLV RX1 58 1 yX1_spreadFrom mX1_spreadFrom 1 := ⟨⟨tb_in 871 (by decide +kernel) rfl, tb_in 874 (by decide +kernel) rfl, tb_in 107 (by decide +kernel) rfl, by decide +kernel⟩, tb_in 873 (by decide +kernel) rfl, _, rfl, tb_in 25 (by decide +kernel) rfl⟩
theorem ml_X1_62 : Cond.methodLink RX1 62 Lib.Math.min.name ∈ TBL := tb_in 879 (by decide +kernel) rfl
theorem cl_X10_105 : CLV RX10 105 7 yX7_put mX7_put 1 := ⟨⟨tb_in 495 (by decide +kernel) rfl, tb_in 498 (by decide +kernel) rfl, tb_in 100 (by decide +kernel) rfl, by decide +kernel⟩, tb_in 496 (by decide +kernel) rfl, _, rfl, tb_in 497 (by decide +kernel) rfl⟩
theorem cl_X10_109 : CLV RX10 109 7 yX7_gives mX7_gives 3 := ⟨⟨tb_in 503 (by decide +kernel) rfl, tb_in 506 (by decide +kernel) rfl, tb_in 100 (by decide +kernel) rfl, by decide +kernel⟩, tb_in 504 (by decide +kernel) rfl, _, rfl, tb_in 505 (by decide +kernel) rfl⟩
theorem cl_X10_113 : CLV RX10 113 2 yX2_readFrom mX2_readFrom 1 := ⟨⟨tb_in 507 (by decide +kernel) rfl, tb_in 510 (by decide +kernel) rfl, tb_in 102 (by decide +kernel) rfl, by decide +kernel⟩, tb_in 508 (by decide +kernel) rfl, _, rfl, tb_in 509 (by decide +kernel) rfl⟩
theorem cl_X10_120 : CLV RX10 120 2 yX2_become mX2_become 1 := ⟨⟨tb_in 651 (by decide +kernel) rfl, tb_in 654 (by decide +kernel) rfl, tb_in 102 (by decide +kernel) rfl, by decide +kernel⟩, tb_in 652 (by decide +kernel) rfl, _, rfl, tb_in 653 (by decide +kernel) rfl⟩
theorem cl_X10_127 : CLV RX10 127 6 yX6_readFrom mX6_readFrom 1 := ⟨⟨tb_in 663 (by decide +kernel) rfl, tb_in 666 (by decide +kernel) rfl, tb_in 101 (by decide +kernel) rfl, by decide +kernel⟩, tb_in 664 (by decide +kernel) rfl, _, rfl, tb_in 665 (by decide +kernel) rfl⟩
theorem cl_X10_128 : CLV RX10 128 6 yX6_become mX6_become 1 := ⟨⟨tb_in 692 (by decide +kernel) rfl, tb_in 695 (by decide +kernel) rfl, tb_in 101 (by decide +kernel) rfl, by decide +kernel⟩, tb_in 693 (by decide +kernel) rfl, _, rfl, tb_in 694 (by decide +kernel) rfl⟩
theorem cl_X10_136 : CLV RX10 136 5 yX5_settle mX5_settle 2 := ⟨⟨tb_in 697 (by decide +kernel) rfl, tb_in 700 (by decide +kernel) rfl, tb_in 104 (by decide +kernel) rfl, by decide +kernel⟩, tb_in 698 (by decide +kernel) rfl, _, rfl, tb_in 699 (by decide +kernel) rfl⟩
theorem cl_X10_140 : CLV RX10 140 4 yX4_readFrom mX4_readFrom 2 := ⟨⟨tb_in 706 (by decide +kernel) rfl, tb_in 709 (by decide +kernel) rfl, tb_in 103 (by decide +kernel) rfl, by decide +kernel⟩, tb_in 707 (by decide +kernel) rfl, _, rfl, tb_in 708 (by decide +kernel) rfl⟩
theorem cl_X10_143 : CLV RX10 143 4 yX4_carryOut mX4_carryOut 1 := ⟨⟨tb_in 744 (by decide +kernel) rfl, tb_in 747 (by decide +kernel) rfl, tb_in 103 (by decide +kernel) rfl, by decide +kernel⟩, tb_in 745 (by decide +kernel) rfl, _, rfl, tb_in 746 (by decide +kernel) rfl⟩
theorem cl_X10_148 : CLS RX10 148 yX10_isSpan mX10_isSpan 1 := ⟨⟨tb_in 754 (by decide +kernel) rfl, tb_in 756 (by decide +kernel) rfl, tb_in 99 (by decide +kernel) rfl, by decide +kernel⟩, tb_in 755 (by decide +kernel) rfl⟩
theorem cl_X10_152 : CLV RX10 152 8 yX8_pass mX8_pass 2 := ⟨⟨tb_in 757 (by decide +kernel) rfl, tb_in 760 (by decide +kernel) rfl, tb_in 105 (by decide +kernel) rfl, by decide +kernel⟩, tb_in 758 (by decide +kernel) rfl, _, rfl, tb_in 759 (by decide +kernel) rfl⟩
theorem cl_X10_156 : CLV RX10 156 6 yX6_isTold mX6_isTold 1 := ⟨⟨tb_in 826 (by decide +kernel) rfl, tb_in 735 (by decide +kernel) rfl, tb_in 101 (by decide +kernel) rfl, by decide +kernel⟩, tb_in 733 (by decide +kernel) rfl, _, rfl, tb_in 734 (by decide +kernel) rfl⟩
theorem cl_X10_159 : CLV RX10 159 5 yX5_become mX5_become 1 := ⟨⟨tb_in 827 (by decide +kernel) rfl, tb_in 830 (by decide +kernel) rfl, tb_in 104 (by decide +kernel) rfl, by decide +kernel⟩, tb_in 828 (by decide +kernel) rfl, _, rfl, tb_in 829 (by decide +kernel) rfl⟩
theorem cl_X10_170 : CLV RX10 170 5 yX5_allSorrow mX5_allSorrow 0 := ⟨⟨tb_in 832 (by decide +kernel) rfl, tb_in 835 (by decide +kernel) rfl, tb_in 104 (by decide +kernel) rfl, by decide +kernel⟩, tb_in 833 (by decide +kernel) rfl, _, rfl, tb_in 834 (by decide +kernel) rfl⟩
theorem cl_X10_183 : CLV RX10 183 6 yX6_openPipesOf mX6_openPipesOf 2 := ⟨⟨tb_in 840 (by decide +kernel) rfl, tb_in 790 (by decide +kernel) rfl, tb_in 101 (by decide +kernel) rfl, by decide +kernel⟩, tb_in 788 (by decide +kernel) rfl, _, rfl, tb_in 789 (by decide +kernel) rfl⟩
theorem cl_X10_187 : CLV RX10 187 6 yX6_besides mX6_besides 2 := ⟨⟨tb_in 841 (by decide +kernel) rfl, tb_in 844 (by decide +kernel) rfl, tb_in 101 (by decide +kernel) rfl, by decide +kernel⟩, tb_in 842 (by decide +kernel) rfl, _, rfl, tb_in 843 (by decide +kernel) rfl⟩
theorem cl_X10_199 : CLV RX10 199 10 yX10_areTwo mX10_areTwo 2 := ⟨⟨tb_in 857 (by decide +kernel) rfl, tb_in 860 (by decide +kernel) rfl, tb_in 99 (by decide +kernel) rfl, by decide +kernel⟩, tb_in 859 (by decide +kernel) rfl, _, rfl, tb_in 23 (by decide +kernel) rfl⟩
theorem cl_X10_203 : CLV RX10 203 1 yX1_push mX1_push 4 := ⟨⟨tb_in 861 (by decide +kernel) rfl, tb_in 864 (by decide +kernel) rfl, tb_in 107 (by decide +kernel) rfl, by decide +kernel⟩, tb_in 862 (by decide +kernel) rfl, _, rfl, tb_in 863 (by decide +kernel) rfl⟩
theorem cl_X10_210 : CLV RX10 210 3 yX3_look mX3_look 1 := ⟨⟨tb_in 888 (by decide +kernel) rfl, tb_in 891 (by decide +kernel) rfl, tb_in 106 (by decide +kernel) rfl, by decide +kernel⟩, tb_in 889 (by decide +kernel) rfl, _, rfl, tb_in 890 (by decide +kernel) rfl⟩
theorem cl_X10_213 : CLV RX10 213 3 yX3_widestWay mX3_widestWay 2 := ⟨⟨tb_in 894 (by decide +kernel) rfl, tb_in 897 (by decide +kernel) rfl, tb_in 106 (by decide +kernel) rfl, by decide +kernel⟩, tb_in 895 (by decide +kernel) rfl, _, rfl, tb_in 896 (by decide +kernel) rfl⟩
theorem cl_X10_216 : CLV RX10 216 3 yX3_stepsBetween mX3_stepsBetween 2 := ⟨⟨tb_in 904 (by decide +kernel) rfl, tb_in 907 (by decide +kernel) rfl, tb_in 106 (by decide +kernel) rfl, by decide +kernel⟩, tb_in 905 (by decide +kernel) rfl, _, rfl, tb_in 906 (by decide +kernel) rfl⟩
theorem cl_X10_219 : CLV RX10 219 3 yX3_bridgeBits mX3_bridgeBits 1 := ⟨⟨tb_in 929 (by decide +kernel) rfl, tb_in 932 (by decide +kernel) rfl, tb_in 106 (by decide +kernel) rfl, by decide +kernel⟩, tb_in 930 (by decide +kernel) rfl, _, rfl, tb_in 931 (by decide +kernel) rfl⟩
theorem cl_X10_223 : CLS RX10 223 yJ6_bitCount_0f7a4 mJ6_bitCount_0f7a4 1 := ⟨⟨tb_in 919 (by decide +kernel) rfl, tb_in 921 (by decide +kernel) rfl, tb_in 119 (by decide +kernel) rfl, by decide +kernel⟩, tb_in 920 (by decide +kernel) rfl⟩
theorem cl_X10_228 : CLS RX10 228 yX10_lowest mX10_lowest 1 := ⟨⟨tb_in 935 (by decide +kernel) rfl, tb_in 918 (by decide +kernel) rfl, tb_in 99 (by decide +kernel) rfl, by decide +kernel⟩, tb_in 917 (by decide +kernel) rfl⟩
theorem cl_X10_231 : CLV RX10 231 3 yX3_bestStand mX3_bestStand 1 := ⟨⟨tb_in 940 (by decide +kernel) rfl, tb_in 943 (by decide +kernel) rfl, tb_in 106 (by decide +kernel) rfl, by decide +kernel⟩, tb_in 941 (by decide +kernel) rfl, _, rfl, tb_in 942 (by decide +kernel) rfl⟩
theorem cl_X10_235 : CLV RX10 235 9 yX9_paintAll mX9_paintAll 2 := ⟨⟨tb_in 966 (by decide +kernel) rfl, tb_in 969 (by decide +kernel) rfl, tb_in 108 (by decide +kernel) rfl, by decide +kernel⟩, tb_in 967 (by decide +kernel) rfl, _, rfl, tb_in 968 (by decide +kernel) rfl⟩
theorem cl_X10_238 : CLV RX10 238 3 yX3_widthToHold mX3_widthToHold 1 := ⟨⟨tb_in 1002 (by decide +kernel) rfl, tb_in 1005 (by decide +kernel) rfl, tb_in 106 (by decide +kernel) rfl, by decide +kernel⟩, tb_in 1003 (by decide +kernel) rfl, _, rfl, tb_in 1004 (by decide +kernel) rfl⟩
theorem cl_X10_241 : CLV RX10 241 3 yX3_farthestPair mX3_farthestPair 0 := ⟨⟨tb_in 1018 (by decide +kernel) rfl, tb_in 1021 (by decide +kernel) rfl, tb_in 106 (by decide +kernel) rfl, by decide +kernel⟩, tb_in 1019 (by decide +kernel) rfl, _, rfl, tb_in 1020 (by decide +kernel) rfl⟩
theorem cl_X10_244 : CLV RX10 244 3 yX3_leastRing mX3_leastRing 2 := ⟨⟨tb_in 1027 (by decide +kernel) rfl, tb_in 1030 (by decide +kernel) rfl, tb_in 106 (by decide +kernel) rfl, by decide +kernel⟩, tb_in 1028 (by decide +kernel) rfl, _, rfl, tb_in 1029 (by decide +kernel) rfl⟩
theorem cl_X10_247 : CLV RX10 247 9 yX9_goFar mX9_goFar 1 := ⟨⟨tb_in 1040 (by decide +kernel) rfl, tb_in 1043 (by decide +kernel) rfl, tb_in 108 (by decide +kernel) rfl, by decide +kernel⟩, tb_in 1041 (by decide +kernel) rfl, _, rfl, tb_in 1042 (by decide +kernel) rfl⟩
theorem cl_X10_256 : CLV RX10 256 0 yX0_reckon mX0_reckon 3 := ⟨⟨tb_in 1051 (by decide +kernel) rfl, tb_in 1054 (by decide +kernel) rfl, tb_in 109 (by decide +kernel) rfl, by decide +kernel⟩, tb_in 1052 (by decide +kernel) rfl, _, rfl, tb_in 1053 (by decide +kernel) rfl⟩
theorem cl_X10_266 : CLV RX10 266 7 yX7_byteAt mX7_byteAt 1 := ⟨⟨tb_in 1076 (by decide +kernel) rfl, tb_in 1070 (by decide +kernel) rfl, tb_in 100 (by decide +kernel) rfl, by decide +kernel⟩, tb_in 1068 (by decide +kernel) rfl, _, rfl, tb_in 1069 (by decide +kernel) rfl⟩
theorem cl_X10_269 : CLS RX10 269 yJ7_fill_53178 mJ7_fill_53178 2 := ⟨⟨tb_in 1081 (by decide +kernel) rfl, tb_in 669 (by decide +kernel) rfl, tb_in 118 (by decide +kernel) rfl, by decide +kernel⟩, tb_in 668 (by decide +kernel) rfl⟩
theorem ml_X10_275 : Cond.methodLink RX10 275 Lib.Math.max.name ∈ TBL := tb_in 1082 (by decide +kernel) rfl
theorem cl_X10_291 : CLV RX10 291 5 yX5_comeBackTo mX5_comeBackTo 1 := ⟨⟨tb_in 1096 (by decide +kernel) rfl, tb_in 1099 (by decide +kernel) rfl, tb_in 104 (by decide +kernel) rfl, by decide +kernel⟩, tb_in 1097 (by decide +kernel) rfl, _, rfl, tb_in 1098 (by decide +kernel) rfl⟩
theorem cl_X10_294 : CLV RX10 294 5 yX5_allWept mX5_allWept 0 := ⟨⟨tb_in 1109 (by decide +kernel) rfl, tb_in 1112 (by decide +kernel) rfl, tb_in 104 (by decide +kernel) rfl, by decide +kernel⟩, tb_in 1110 (by decide +kernel) rfl, _, rfl, tb_in 1111 (by decide +kernel) rfl⟩
theorem cl_X10_297 : CLV RX10 297 3 yX3_groups mX3_groups 1 := ⟨⟨tb_in 1113 (by decide +kernel) rfl, tb_in 948 (by decide +kernel) rfl, tb_in 106 (by decide +kernel) rfl, by decide +kernel⟩, tb_in 946 (by decide +kernel) rfl, _, rfl, tb_in 947 (by decide +kernel) rfl⟩
theorem cl_X11_129 : CLS RX11 129 yX11_in mX11_in 3 := ⟨⟨tb_in 1317 (by decide +kernel) rfl, tb_in 1319 (by decide +kernel) rfl, tb_in 110 (by decide +kernel) rfl, by decide +kernel⟩, tb_in 1318 (by decide +kernel) rfl⟩
theorem cl_X11_137 : CLS RX11 137 yX11_has mX11_has 2 := ⟨⟨tb_in 1442 (by decide +kernel) rfl, tb_in 1444 (by decide +kernel) rfl, tb_in 110 (by decide +kernel) rfl, by decide +kernel⟩, tb_in 1443 (by decide +kernel) rfl⟩
theorem cl_X11_141 : CLV RX11 141 11 yX11_isTold mX11_isTold 1 := ⟨⟨tb_in 1438 (by decide +kernel) rfl, tb_in 1441 (by decide +kernel) rfl, tb_in 110 (by decide +kernel) rfl, by decide +kernel⟩, tb_in 1440 (by decide +kernel) rfl, _, rfl, tb_in 65 (by decide +kernel) rfl⟩
theorem cl_X11_148 : CLV RX11 148 11 yX11_isOpen mX11_isOpen 1 := ⟨⟨tb_in 1483 (by decide +kernel) rfl, tb_in 1486 (by decide +kernel) rfl, tb_in 110 (by decide +kernel) rfl, by decide +kernel⟩, tb_in 1485 (by decide +kernel) rfl, _, rfl, tb_in 73 (by decide +kernel) rfl⟩
theorem cl_X11_151 : CLV RX11 151 11 yX11_beyond mX11_beyond 2 := ⟨⟨tb_in 1479 (by decide +kernel) rfl, tb_in 1482 (by decide +kernel) rfl, tb_in 110 (by decide +kernel) rfl, by decide +kernel⟩, tb_in 1481 (by decide +kernel) rfl, _, rfl, tb_in 72 (by decide +kernel) rfl⟩
theorem cl_X11_158 : CLV RX11 158 11 yX11_types mX11_types 1 := ⟨⟨tb_in 1309 (by decide +kernel) rfl, tb_in 1312 (by decide +kernel) rfl, tb_in 110 (by decide +kernel) rfl, by decide +kernel⟩, tb_in 1311 (by decide +kernel) rfl, _, rfl, tb_in 39 (by decide +kernel) rfl⟩
theorem cl_X11_168 : CLV RX11 168 11 yX11_here mX11_here 0 := ⟨⟨tb_in 1328 (by decide +kernel) rfl, tb_in 1331 (by decide +kernel) rfl, tb_in 110 (by decide +kernel) rfl, by decide +kernel⟩, tb_in 1330 (by decide +kernel) rfl, _, rfl, tb_in 42 (by decide +kernel) rfl⟩
theorem cl_X11_175 : CLV RX11 175 11 yX11_wrongAt mX11_wrongAt 2 := ⟨⟨tb_in 1332 (by decide +kernel) rfl, tb_in 1335 (by decide +kernel) rfl, tb_in 110 (by decide +kernel) rfl, by decide +kernel⟩, tb_in 1334 (by decide +kernel) rfl, _, rfl, tb_in 43 (by decide +kernel) rfl⟩
theorem cl_X11_181 : CLV RX11 181 11 yX11_isDigit mX11_isDigit 0 := ⟨⟨tb_in 1349 (by decide +kernel) rfl, tb_in 1352 (by decide +kernel) rfl, tb_in 110 (by decide +kernel) rfl, by decide +kernel⟩, tb_in 1351 (by decide +kernel) rfl, _, rfl, tb_in 47 (by decide +kernel) rfl⟩
theorem cl_X11_195 : CLV RX11 195 11 yX11_waitTop mX11_waitTop 0 := ⟨⟨tb_in 1371 (by decide +kernel) rfl, tb_in 1374 (by decide +kernel) rfl, tb_in 110 (by decide +kernel) rfl, by decide +kernel⟩, tb_in 1373 (by decide +kernel) rfl, _, rfl, tb_in 51 (by decide +kernel) rfl⟩
theorem cl_X11_198 : CLV RX11 198 11 yX11_notes mX11_notes 2 := ⟨⟨tb_in 1357 (by decide +kernel) rfl, tb_in 1360 (by decide +kernel) rfl, tb_in 110 (by decide +kernel) rfl, by decide +kernel⟩, tb_in 1359 (by decide +kernel) rfl, _, rfl, tb_in 49 (by decide +kernel) rfl⟩
theorem cl_X11_202 : CLV RX11 202 11 yX11_opens mX11_opens 1 := ⟨⟨tb_in 1344 (by decide +kernel) rfl, tb_in 1347 (by decide +kernel) rfl, tb_in 110 (by decide +kernel) rfl, by decide +kernel⟩, tb_in 1346 (by decide +kernel) rfl, _, rfl, tb_in 46 (by decide +kernel) rfl⟩
theorem cl_X11_205 : CLV RX11 205 11 yX11_readsNumber mX11_readsNumber 0 := ⟨⟨tb_in 1353 (by decide +kernel) rfl, tb_in 1356 (by decide +kernel) rfl, tb_in 110 (by decide +kernel) rfl, by decide +kernel⟩, tb_in 1355 (by decide +kernel) rfl, _, rfl, tb_in 48 (by decide +kernel) rfl⟩
theorem cl_X11_208 : CLS RX11 208 yX11_factOf mX11_factOf 1 := ⟨⟨tb_in 1361 (by decide +kernel) rfl, tb_in 1363 (by decide +kernel) rfl, tb_in 110 (by decide +kernel) rfl, by decide +kernel⟩, tb_in 1362 (by decide +kernel) rfl⟩
theorem cl_X11_212 : CLV RX11 212 11 yX11_readsFactor mX11_readsFactor 0 := ⟨⟨tb_in 1340 (by decide +kernel) rfl, tb_in 1343 (by decide +kernel) rfl, tb_in 110 (by decide +kernel) rfl, by decide +kernel⟩, tb_in 1342 (by decide +kernel) rfl, _, rfl, tb_in 45 (by decide +kernel) rfl⟩
theorem cl_X11_215 : CLS RX11 215 yX11_sumSign mX11_sumSign 1 := ⟨⟨tb_in 1364 (by decide +kernel) rfl, tb_in 1366 (by decide +kernel) rfl, tb_in 110 (by decide +kernel) rfl, by decide +kernel⟩, tb_in 1365 (by decide +kernel) rfl⟩
theorem cl_X11_218 : CLV RX11 218 11 yX11_closesSums mX11_closesSums 1 := ⟨⟨tb_in 1367 (by decide +kernel) rfl, tb_in 1370 (by decide +kernel) rfl, tb_in 110 (by decide +kernel) rfl, by decide +kernel⟩, tb_in 1369 (by decide +kernel) rfl, _, rfl, tb_in 50 (by decide +kernel) rfl⟩
theorem cl_X11_222 : CLV RX11 222 11 yX11_hasOpenSum mX11_hasOpenSum 1 := ⟨⟨tb_in 1375 (by decide +kernel) rfl, tb_in 1378 (by decide +kernel) rfl, tb_in 110 (by decide +kernel) rfl, by decide +kernel⟩, tb_in 1377 (by decide +kernel) rfl, _, rfl, tb_in 52 (by decide +kernel) rfl⟩
theorem cl_X11_225 : CLV RX11 225 11 yX11_readsSum mX11_readsSum 0 := ⟨⟨tb_in 1336 (by decide +kernel) rfl, tb_in 1339 (by decide +kernel) rfl, tb_in 110 (by decide +kernel) rfl, by decide +kernel⟩, tb_in 1338 (by decide +kernel) rfl, _, rfl, tb_in 44 (by decide +kernel) rfl⟩
theorem cl_X11_228 : CLV RX11 228 11 yX11_endsPiece mX11_endsPiece 0 := ⟨⟨tb_in 1387 (by decide +kernel) rfl, tb_in 1390 (by decide +kernel) rfl, tb_in 110 (by decide +kernel) rfl, by decide +kernel⟩, tb_in 1389 (by decide +kernel) rfl, _, rfl, tb_in 55 (by decide +kernel) rfl⟩
theorem cl_X11_231 : CLV RX11 231 11 yX11_readsCompared mX11_readsCompared 0 := ⟨⟨tb_in 1383 (by decide +kernel) rfl, tb_in 1386 (by decide +kernel) rfl, tb_in 110 (by decide +kernel) rfl, by decide +kernel⟩, tb_in 1385 (by decide +kernel) rfl, _, rfl, tb_in 54 (by decide +kernel) rfl⟩
theorem cl_X11_234 : CLV RX11 234 11 yX11_lands mX11_lands 1 := ⟨⟨tb_in 1391 (by decide +kernel) rfl, tb_in 1394 (by decide +kernel) rfl, tb_in 110 (by decide +kernel) rfl, by decide +kernel⟩, tb_in 1393 (by decide +kernel) rfl, _, rfl, tb_in 56 (by decide +kernel) rfl⟩
theorem cl_X11_237 : CLV RX11 237 11 yX11_jumps mX11_jumps 1 := ⟨⟨tb_in 1395 (by decide +kernel) rfl, tb_in 1398 (by decide +kernel) rfl, tb_in 110 (by decide +kernel) rfl, by decide +kernel⟩, tb_in 1397 (by decide +kernel) rfl, _, rfl, tb_in 57 (by decide +kernel) rfl⟩
theorem cl_X11_243 : CLV RX11 243 11 yX11_readsCondition mX11_readsCondition 0 := ⟨⟨tb_in 1379 (by decide +kernel) rfl, tb_in 1382 (by decide +kernel) rfl, tb_in 110 (by decide +kernel) rfl, by decide +kernel⟩, tb_in 1381 (by decide +kernel) rfl, _, rfl, tb_in 53 (by decide +kernel) rfl⟩
theorem cl_X11_246 : CLV RX11 246 11 yX11_beginsText mX11_beginsText 1 := ⟨⟨tb_in 1320 (by decide +kernel) rfl, tb_in 1323 (by decide +kernel) rfl, tb_in 110 (by decide +kernel) rfl, by decide +kernel⟩, tb_in 1322 (by decide +kernel) rfl, _, rfl, tb_in 40 (by decide +kernel) rfl⟩
theorem cl_X11_249 : CLV RX11 249 11 yX11_readsRule mX11_readsRule 0 := ⟨⟨tb_in 1324 (by decide +kernel) rfl, tb_in 1327 (by decide +kernel) rfl, tb_in 110 (by decide +kernel) rfl, by decide +kernel⟩, tb_in 1326 (by decide +kernel) rfl, _, rfl, tb_in 41 (by decide +kernel) rfl⟩
theorem cl_X11_252 : CLV RX11 252 11 yX11_takes mX11_takes 1 := ⟨⟨tb_in 1399 (by decide +kernel) rfl, tb_in 1402 (by decide +kernel) rfl, tb_in 110 (by decide +kernel) rfl, by decide +kernel⟩, tb_in 1401 (by decide +kernel) rfl, _, rfl, tb_in 58 (by decide +kernel) rfl⟩
theorem cl_X11_258 : CLS RX11 258 yX11_reckon mX11_reckon 3 := ⟨⟨tb_in 1503 (by decide +kernel) rfl, tb_in 1505 (by decide +kernel) rfl, tb_in 110 (by decide +kernel) rfl, by decide +kernel⟩, tb_in 1504 (by decide +kernel) rfl⟩
theorem cl_X11_262 : CLV RX11 262 11 yX11_reckonsTo mX11_reckonsTo 2 := ⟨⟨tb_in 1499 (by decide +kernel) rfl, tb_in 1502 (by decide +kernel) rfl, tb_in 110 (by decide +kernel) rfl, by decide +kernel⟩, tb_in 1501 (by decide +kernel) rfl, _, rfl, tb_in 77 (by decide +kernel) rfl⟩
theorem cl_X11_268 : CLV RX11 268 11 yX11_isLetter mX11_isLetter 0 := ⟨⟨tb_in 1411 (by decide +kernel) rfl, tb_in 1414 (by decide +kernel) rfl, tb_in 110 (by decide +kernel) rfl, by decide +kernel⟩, tb_in 1413 (by decide +kernel) rfl, _, rfl, tb_in 60 (by decide +kernel) rfl⟩
theorem cl_X11_271 : CLV RX11 271 11 yX11_readsAmount mX11_readsAmount 1 := ⟨⟨tb_in 1415 (by decide +kernel) rfl, tb_in 1418 (by decide +kernel) rfl, tb_in 110 (by decide +kernel) rfl, by decide +kernel⟩, tb_in 1417 (by decide +kernel) rfl, _, rfl, tb_in 61 (by decide +kernel) rfl⟩
theorem cl_X11_280 : CLV RX11 280 11 yX11_readsRoad mX11_readsRoad 1 := ⟨⟨tb_in 1419 (by decide +kernel) rfl, tb_in 1422 (by decide +kernel) rfl, tb_in 110 (by decide +kernel) rfl, by decide +kernel⟩, tb_in 1421 (by decide +kernel) rfl, _, rfl, tb_in 62 (by decide +kernel) rfl⟩
theorem cl_X11_283 : CLV RX11 283 11 yX11_readsTownLine mX11_readsTownLine 0 := ⟨⟨tb_in 1407 (by decide +kernel) rfl, tb_in 1410 (by decide +kernel) rfl, tb_in 110 (by decide +kernel) rfl, by decide +kernel⟩, tb_in 1409 (by decide +kernel) rfl, _, rfl, tb_in 59 (by decide +kernel) rfl⟩
theorem cl_X11_286 : CLS RX11 286 yX11_min mX11_min 2 := ⟨⟨tb_in 1445 (by decide +kernel) rfl, tb_in 1447 (by decide +kernel) rfl, tb_in 110 (by decide +kernel) rfl, by decide +kernel⟩, tb_in 1446 (by decide +kernel) rfl⟩
theorem cl_X11_289 : CLS RX11 289 yX11_max mX11_max 2 := ⟨⟨tb_in 1448 (by decide +kernel) rfl, tb_in 1450 (by decide +kernel) rfl, tb_in 110 (by decide +kernel) rfl, by decide +kernel⟩, tb_in 1449 (by decide +kernel) rfl⟩
theorem cl_X11_292 : CLV RX11 292 11 yX11_readsCornerLine mX11_readsCornerLine 0 := ⟨⟨tb_in 1434 (by decide +kernel) rfl, tb_in 1437 (by decide +kernel) rfl, tb_in 110 (by decide +kernel) rfl, by decide +kernel⟩, tb_in 1436 (by decide +kernel) rfl, _, rfl, tb_in 64 (by decide +kernel) rfl⟩
theorem cl_X11_295 : CLV RX11 295 11 yX11_readsPipeLine mX11_readsPipeLine 0 := ⟨⟨tb_in 1451 (by decide +kernel) rfl, tb_in 1454 (by decide +kernel) rfl, tb_in 110 (by decide +kernel) rfl, by decide +kernel⟩, tb_in 1453 (by decide +kernel) rfl, _, rfl, tb_in 66 (by decide +kernel) rfl⟩
theorem cl_X11_298 : CLS RX11 298 yX11_copies mX11_copies 2 := ⟨⟨tb_in 1427 (by decide +kernel) rfl, tb_in 1429 (by decide +kernel) rfl, tb_in 110 (by decide +kernel) rfl, by decide +kernel⟩, tb_in 1428 (by decide +kernel) rfl⟩
theorem cl_X11_302 : CLV RX11 302 11 yX11_readsOrder mX11_readsOrder 0 := ⟨⟨tb_in 1430 (by decide +kernel) rfl, tb_in 1433 (by decide +kernel) rfl, tb_in 110 (by decide +kernel) rfl, by decide +kernel⟩, tb_in 1432 (by decide +kernel) rfl, _, rfl, tb_in 63 (by decide +kernel) rfl⟩
theorem cl_X11_305 : CLV RX11 305 11 yX11_nextTo mX11_nextTo 1 := ⟨⟨tb_in 1491 (by decide +kernel) rfl, tb_in 1494 (by decide +kernel) rfl, tb_in 110 (by decide +kernel) rfl, by decide +kernel⟩, tb_in 1493 (by decide +kernel) rfl, _, rfl, tb_in 75 (by decide +kernel) rfl⟩
theorem cl_X11_308 : CLV RX11 308 11 yX11_openOf mX11_openOf 1 := ⟨⟨tb_in 1475 (by decide +kernel) rfl, tb_in 1478 (by decide +kernel) rfl, tb_in 110 (by decide +kernel) rfl, by decide +kernel⟩, tb_in 1477 (by decide +kernel) rfl, _, rfl, tb_in 71 (by decide +kernel) rfl⟩
theorem cl_X11_311 : CLV RX11 311 11 yX11_mostBeyond mX11_mostBeyond 1 := ⟨⟨tb_in 1487 (by decide +kernel) rfl, tb_in 1490 (by decide +kernel) rfl, tb_in 110 (by decide +kernel) rfl, by decide +kernel⟩, tb_in 1489 (by decide +kernel) rfl, _, rfl, tb_in 74 (by decide +kernel) rfl⟩
theorem cl_X11_314 : CLV RX11 314 11 yX11_feels mX11_feels 1 := ⟨⟨tb_in 1471 (by decide +kernel) rfl, tb_in 1474 (by decide +kernel) rfl, tb_in 110 (by decide +kernel) rfl, by decide +kernel⟩, tb_in 1473 (by decide +kernel) rfl, _, rfl, tb_in 70 (by decide +kernel) rfl⟩
theorem cl_X11_317 : CLV RX11 317 11 yX11_byLaw mX11_byLaw 1 := ⟨⟨tb_in 1495 (by decide +kernel) rfl, tb_in 1498 (by decide +kernel) rfl, tb_in 110 (by decide +kernel) rfl, by decide +kernel⟩, tb_in 1497 (by decide +kernel) rfl, _, rfl, tb_in 76 (by decide +kernel) rfl⟩
theorem cl_X11_320 : CLV RX11 320 11 yX11_levelOf mX11_levelOf 1 := ⟨⟨tb_in 1510 (by decide +kernel) rfl, tb_in 1513 (by decide +kernel) rfl, tb_in 110 (by decide +kernel) rfl, by decide +kernel⟩, tb_in 1512 (by decide +kernel) rfl, _, rfl, tb_in 79 (by decide +kernel) rfl⟩
theorem cl_X11_323 : CLV RX11 323 11 yX11_holdsAny mX11_holdsAny 1 := ⟨⟨tb_in 1518 (by decide +kernel) rfl, tb_in 1521 (by decide +kernel) rfl, tb_in 110 (by decide +kernel) rfl, by decide +kernel⟩, tb_in 1520 (by decide +kernel) rfl, _, rfl, tb_in 81 (by decide +kernel) rfl⟩
theorem cl_X11_330 : CLV RX11 330 11 yX11_rises mX11_rises 1 := ⟨⟨tb_in 1467 (by decide +kernel) rfl, tb_in 1470 (by decide +kernel) rfl, tb_in 110 (by decide +kernel) rfl, by decide +kernel⟩, tb_in 1469 (by decide +kernel) rfl, _, rfl, tb_in 69 (by decide +kernel) rfl⟩
theorem cl_X11_333 : CLV RX11 333 11 yX11_levels mX11_levels 1 := ⟨⟨tb_in 1506 (by decide +kernel) rfl, tb_in 1509 (by decide +kernel) rfl, tb_in 110 (by decide +kernel) rfl, by decide +kernel⟩, tb_in 1508 (by decide +kernel) rfl, _, rfl, tb_in 78 (by decide +kernel) rfl⟩
theorem cl_X11_336 : CLV RX11 336 11 yX11_weeps mX11_weeps 1 := ⟨⟨tb_in 1514 (by decide +kernel) rfl, tb_in 1517 (by decide +kernel) rfl, tb_in 110 (by decide +kernel) rfl, by decide +kernel⟩, tb_in 1516 (by decide +kernel) rfl, _, rfl, tb_in 80 (by decide +kernel) rfl⟩
theorem cl_X11_339 : CLV RX11 339 11 yX11_minuteGoes mX11_minuteGoes 0 := ⟨⟨tb_in 1463 (by decide +kernel) rfl, tb_in 1466 (by decide +kernel) rfl, tb_in 110 (by decide +kernel) rfl, by decide +kernel⟩, tb_in 1465 (by decide +kernel) rfl, _, rfl, tb_in 68 (by decide +kernel) rfl⟩
theorem cl_X11_342 : CLV RX11 342 11 yX11_minutesGo mX11_minutesGo 1 := ⟨⟨tb_in 1459 (by decide +kernel) rfl, tb_in 1462 (by decide +kernel) rfl, tb_in 110 (by decide +kernel) rfl, by decide +kernel⟩, tb_in 1461 (by decide +kernel) rfl, _, rfl, tb_in 67 (by decide +kernel) rfl⟩
theorem cl_X11_345 : CLV RX11 345 11 yX11_sumOf mX11_sumOf 1 := ⟨⟨tb_in 1527 (by decide +kernel) rfl, tb_in 1530 (by decide +kernel) rfl, tb_in 110 (by decide +kernel) rfl, by decide +kernel⟩, tb_in 1529 (by decide +kernel) rfl, _, rfl, tb_in 82 (by decide +kernel) rfl⟩
theorem cl_X11_351 : CLV RX11 351 11 yX11_restOf mX11_restOf 3 := ⟨⟨tb_in 1559 (by decide +kernel) rfl, tb_in 1562 (by decide +kernel) rfl, tb_in 110 (by decide +kernel) rfl, by decide +kernel⟩, tb_in 1561 (by decide +kernel) rfl, _, rfl, tb_in 86 (by decide +kernel) rfl⟩
theorem cl_X11_356 : CLV RX11 356 11 yX11_comesOn mX11_comesOn 2 := ⟨⟨tb_in 1555 (by decide +kernel) rfl, tb_in 1558 (by decide +kernel) rfl, tb_in 110 (by decide +kernel) rfl, by decide +kernel⟩, tb_in 1557 (by decide +kernel) rfl, _, rfl, tb_in 85 (by decide +kernel) rfl⟩
theorem cl_X11_363 : CLV RX11 363 11 yX11_carries mX11_carries 3 := ⟨⟨tb_in 1563 (by decide +kernel) rfl, tb_in 1566 (by decide +kernel) rfl, tb_in 110 (by decide +kernel) rfl, by decide +kernel⟩, tb_in 1565 (by decide +kernel) rfl, _, rfl, tb_in 87 (by decide +kernel) rfl⟩
theorem cl_X11_366 : CLV RX11 366 11 yX11_areTwo mX11_areTwo 2 := ⟨⟨tb_in 1547 (by decide +kernel) rfl, tb_in 1550 (by decide +kernel) rfl, tb_in 110 (by decide +kernel) rfl, by decide +kernel⟩, tb_in 1549 (by decide +kernel) rfl, _, rfl, tb_in 83 (by decide +kernel) rfl⟩
theorem cl_X11_369 : CLV RX11 369 11 yX11_laysFlow mX11_laysFlow 3 := ⟨⟨tb_in 1551 (by decide +kernel) rfl, tb_in 1554 (by decide +kernel) rfl, tb_in 110 (by decide +kernel) rfl, by decide +kernel⟩, tb_in 1553 (by decide +kernel) rfl, _, rfl, tb_in 84 (by decide +kernel) rfl⟩
theorem cl_X11_372 : CLV RX11 372 11 yX11_reached mX11_reached 3 := ⟨⟨tb_in 1576 (by decide +kernel) rfl, tb_in 1579 (by decide +kernel) rfl, tb_in 110 (by decide +kernel) rfl, by decide +kernel⟩, tb_in 1578 (by decide +kernel) rfl, _, rfl, tb_in 88 (by decide +kernel) rfl⟩
theorem cl_X11_375 : CLV RX11 375 11 yX11_laysSteps mX11_laysSteps 2 := ⟨⟨tb_in 1584 (by decide +kernel) rfl, tb_in 1587 (by decide +kernel) rfl, tb_in 110 (by decide +kernel) rfl, by decide +kernel⟩, tb_in 1586 (by decide +kernel) rfl, _, rfl, tb_in 89 (by decide +kernel) rfl⟩
theorem cl_X11_378 : CLV RX11 378 11 yX11_far mX11_far 2 := ⟨⟨tb_in 1588 (by decide +kernel) rfl, tb_in 1591 (by decide +kernel) rfl, tb_in 110 (by decide +kernel) rfl, by decide +kernel⟩, tb_in 1590 (by decide +kernel) rfl, _, rfl, tb_in 90 (by decide +kernel) rfl⟩
theorem cl_X11_381 : CLV RX11 381 11 yX11_laysAllSteps mX11_laysAllSteps 0 := ⟨⟨tb_in 1600 (by decide +kernel) rfl, tb_in 1603 (by decide +kernel) rfl, tb_in 110 (by decide +kernel) rfl, by decide +kernel⟩, tb_in 1602 (by decide +kernel) rfl, _, rfl, tb_in 91 (by decide +kernel) rfl⟩
theorem cl_X11_384 : CLS RX11 384 yX11_bits mX11_bits 1 := ⟨⟨tb_in 1604 (by decide +kernel) rfl, tb_in 1606 (by decide +kernel) rfl, tb_in 110 (by decide +kernel) rfl, by decide +kernel⟩, tb_in 1605 (by decide +kernel) rfl⟩
theorem cl_X11_387 : CLV RX11 387 11 yX11_worstOf mX11_worstOf 1 := ⟨⟨tb_in 1607 (by decide +kernel) rfl, tb_in 1610 (by decide +kernel) rfl, tb_in 110 (by decide +kernel) rfl, by decide +kernel⟩, tb_in 1609 (by decide +kernel) rfl, _, rfl, tb_in 92 (by decide +kernel) rfl⟩
theorem cl_X11_393 : CLV RX11 393 11 yX11_painting mX11_painting 0 := ⟨⟨tb_in 1615 (by decide +kernel) rfl, tb_in 1618 (by decide +kernel) rfl, tb_in 110 (by decide +kernel) rfl, by decide +kernel⟩, tb_in 1617 (by decide +kernel) rfl, _, rfl, tb_in 93 (by decide +kernel) rfl⟩
theorem cl_X11_396 : CLS RX11 396 yX11_lowestOf mX11_lowestOf 1 := ⟨⟨tb_in 1639 (by decide +kernel) rfl, tb_in 1641 (by decide +kernel) rfl, tb_in 110 (by decide +kernel) rfl, by decide +kernel⟩, tb_in 1640 (by decide +kernel) rfl⟩
theorem cl_X11_399 : CLV RX11 399 11 yX11_octet mX11_octet 1 := ⟨⟨tb_in 1646 (by decide +kernel) rfl, tb_in 1649 (by decide +kernel) rfl, tb_in 110 (by decide +kernel) rfl, by decide +kernel⟩, tb_in 1648 (by decide +kernel) rfl, _, rfl, tb_in 94 (by decide +kernel) rfl⟩
theorem cl_X11_402 : CLV RX11 402 11 yX11_adds mX11_adds 2 := ⟨⟨tb_in 1650 (by decide +kernel) rfl, tb_in 1653 (by decide +kernel) rfl, tb_in 110 (by decide +kernel) rfl, by decide +kernel⟩, tb_in 1652 (by decide +kernel) rfl, _, rfl, tb_in 95 (by decide +kernel) rfl⟩
theorem cl_X11_416 : CLV RX11 416 11 yX11_openPipes mX11_openPipes 0 := ⟨⟨tb_in 1683 (by decide +kernel) rfl, tb_in 1686 (by decide +kernel) rfl, tb_in 110 (by decide +kernel) rfl, by decide +kernel⟩, tb_in 1685 (by decide +kernel) rfl, _, rfl, tb_in 96 (by decide +kernel) rfl⟩
theorem cl_X11_419 : CLV RX11 419 11 yX11_groups mX11_groups 0 := ⟨⟨tb_in 1687 (by decide +kernel) rfl, tb_in 1690 (by decide +kernel) rfl, tb_in 110 (by decide +kernel) rfl, by decide +kernel⟩, tb_in 1689 (by decide +kernel) rfl, _, rfl, tb_in 97 (by decide +kernel) rfl⟩
theorem ml_X2_30 : Cond.methodLink RX2 30 arraycopyName ∈ TBL := tb_in 655 (by decide +kernel) rfl
theorem cl_X2_43 : CLV RX2 43 7 yX7_peek mX7_peek 0 := ⟨⟨tb_in 511 (by decide +kernel) rfl, tb_in 514 (by decide +kernel) rfl, tb_in 100 (by decide +kernel) rfl, by decide +kernel⟩, tb_in 512 (by decide +kernel) rfl, _, rfl, tb_in 513 (by decide +kernel) rfl⟩
theorem cl_X2_52 : CLV RX2 52 7 yX7_refuse mX7_refuse 2 := ⟨⟨tb_in 515 (by decide +kernel) rfl, tb_in 518 (by decide +kernel) rfl, tb_in 100 (by decide +kernel) rfl, by decide +kernel⟩, tb_in 516 (by decide +kernel) rfl, _, rfl, tb_in 517 (by decide +kernel) rfl⟩
theorem cl_X2_56 (dp : Nat) : CLV RX2 56 2 yX2_readSum (mX2_readSum dp) 2 := ⟨⟨tb_in 519 (by decide +kernel) rfl, tb_in 522 (by show lw_tbl[522]? = some (Cond.code yX2_readSum cX2_readSum 7 (some .boolean)); decide +kernel) rfl, tb_in 102 (by decide +kernel) rfl, by decide +kernel⟩, tb_in 521 (by decide +kernel) rfl, _, rfl, tb_in 0 (by decide +kernel) rfl⟩
theorem cl_X2_60 : CLV RX2 60 7 yX7_demands mX7_demands 1 := ⟨⟨tb_in 527 (by decide +kernel) rfl, tb_in 530 (by decide +kernel) rfl, tb_in 100 (by decide +kernel) rfl, by decide +kernel⟩, tb_in 528 (by decide +kernel) rfl, _, rfl, tb_in 529 (by decide +kernel) rfl⟩
theorem cl_X2_64 (dp : Nat) : CLV RX2 64 2 yX2_readCondition (mX2_readCondition dp) 2 := ⟨⟨tb_in 631 (by decide +kernel) rfl, tb_in 634 (by show lw_tbl[634]? = some (Cond.code yX2_readCondition cX2_readCondition 6 (some .boolean)); decide +kernel) rfl, tb_in 102 (by decide +kernel) rfl, by decide +kernel⟩, tb_in 633 (by decide +kernel) rfl, _, rfl, tb_in 3 (by decide +kernel) rfl⟩
theorem cl_X2_67 : CLV RX2 67 7 yX7_isAtEnd mX7_isAtEnd 0 := ⟨⟨tb_in 647 (by decide +kernel) rfl, tb_in 650 (by decide +kernel) rfl, tb_in 100 (by decide +kernel) rfl, by decide +kernel⟩, tb_in 648 (by decide +kernel) rfl, _, rfl, tb_in 649 (by decide +kernel) rfl⟩
theorem cl_X2_71 (dp : Nat) : CLV RX2 71 2 yX2_readTest (mX2_readTest dp) 2 := ⟨⟨tb_in 635 (by decide +kernel) rfl, tb_in 638 (by show lw_tbl[638]? = some (Cond.code yX2_readTest cX2_readTest 6 (some .boolean)); decide +kernel) rfl, tb_in 102 (by decide +kernel) rfl, by decide +kernel⟩, tb_in 637 (by decide +kernel) rfl, _, rfl, tb_in 4 (by decide +kernel) rfl⟩
theorem cl_X2_74 : CLV RX2 74 7 yX7_takes mX7_takes 1 := ⟨⟨tb_in 639 (by decide +kernel) rfl, tb_in 642 (by decide +kernel) rfl, tb_in 100 (by decide +kernel) rfl, by decide +kernel⟩, tb_in 640 (by decide +kernel) rfl, _, rfl, tb_in 641 (by decide +kernel) rfl⟩
theorem cl_X2_77 : CLV RX2 77 2 yX2_write mX2_write 2 := ⟨⟨tb_in 537 (by decide +kernel) rfl, tb_in 540 (by decide +kernel) rfl, tb_in 102 (by decide +kernel) rfl, by decide +kernel⟩, tb_in 539 (by decide +kernel) rfl, _, rfl, tb_in 2 (by decide +kernel) rfl⟩
theorem cl_X2_81 : CLV RX2 81 2 yX2_land mX2_land 1 := ⟨⟨tb_in 643 (by decide +kernel) rfl, tb_in 646 (by decide +kernel) rfl, tb_in 102 (by decide +kernel) rfl, by decide +kernel⟩, tb_in 645 (by decide +kernel) rfl, _, rfl, tb_in 5 (by decide +kernel) rfl⟩
theorem cl_X2_85 (dp : Nat) : CLV RX2 85 2 yX2_readFactor (mX2_readFactor dp) 2 := ⟨⟨tb_in 523 (by decide +kernel) rfl, tb_in 526 (by show lw_tbl[526]? = some (Cond.code yX2_readFactor cX2_readFactor 5 (some .boolean)); decide +kernel) rfl, tb_in 102 (by decide +kernel) rfl, by decide +kernel⟩, tb_in 525 (by decide +kernel) rfl, _, rfl, tb_in 1 (by decide +kernel) rfl⟩
theorem cl_X2_88 : CLV RX2 88 7 yX7_readNumber mX7_readNumber 1 := ⟨⟨tb_in 533 (by decide +kernel) rfl, tb_in 536 (by decide +kernel) rfl, tb_in 100 (by decide +kernel) rfl, by decide +kernel⟩, tb_in 534 (by decide +kernel) rfl, _, rfl, tb_in 535 (by decide +kernel) rfl⟩
theorem cl_X2_92 : CLS RX2 92 yX2_isLetter mX2_isLetter 1 := ⟨⟨tb_in 541 (by decide +kernel) rfl, tb_in 543 (by decide +kernel) rfl, tb_in 102 (by decide +kernel) rfl, by decide +kernel⟩, tb_in 542 (by decide +kernel) rfl⟩
theorem cl_X3_29 : CLS RX3 29 yJ7_fill_53178 mJ7_fill_53178 2 := ⟨⟨tb_in 892 (by decide +kernel) rfl, tb_in 669 (by decide +kernel) rfl, tb_in 118 (by decide +kernel) rfl, by decide +kernel⟩, tb_in 668 (by decide +kernel) rfl⟩
theorem cl_X3_40 : CLN RX3 40 yX10_hasBit mX10_hasBit 2 := ⟨List.mem_of_getElem? (i := 9) (by decide +kernel), tb_in 738 (by decide +kernel) rfl, tb_in 99 (by decide +kernel) rfl, by decide +kernel, tb_in 737 (by decide +kernel) rfl⟩
theorem cl_X3_50 : CLN RX3 50 yX10_lowest mX10_lowest 1 := ⟨List.mem_of_getElem? (i := 10) (by decide +kernel), tb_in 918 (by decide +kernel) rfl, tb_in 99 (by decide +kernel) rfl, by decide +kernel, tb_in 917 (by decide +kernel) rfl⟩
theorem cl_X3_54 : CLV RX3 54 3 yX3_nearTo mX3_nearTo 1 := ⟨⟨tb_in 912 (by decide +kernel) rfl, tb_in 915 (by decide +kernel) rfl, tb_in 106 (by decide +kernel) rfl, by decide +kernel⟩, tb_in 914 (by decide +kernel) rfl, _, rfl, tb_in 27 (by decide +kernel) rfl⟩
theorem cl_X3_57 : CLV RX3 57 3 yX3_measureFrom mX3_measureFrom 1 := ⟨⟨tb_in 908 (by decide +kernel) rfl, tb_in 911 (by decide +kernel) rfl, tb_in 106 (by decide +kernel) rfl, by decide +kernel⟩, tb_in 909 (by decide +kernel) rfl, _, rfl, tb_in 910 (by decide +kernel) rfl⟩
theorem ml_X3_63 : Cond.methodLink RX3 63 Lib.Math.min.name ∈ TBL := tb_in 898 (by decide +kernel) rfl
theorem ml_X3_69 : Cond.methodLink RX3 69 Lib.Math.max.name ∈ TBL := tb_in 899 (by decide +kernel) rfl
theorem cl_X3_72 : CLV RX3 72 3 yX3_look mX3_look 1 := ⟨⟨tb_in 933 (by decide +kernel) rfl, tb_in 891 (by decide +kernel) rfl, tb_in 106 (by decide +kernel) rfl, by decide +kernel⟩, tb_in 889 (by decide +kernel) rfl, _, rfl, tb_in 890 (by decide +kernel) rfl⟩
theorem cl_X3_79 : CLV RX3 79 3 yX3_stepsBetween mX3_stepsBetween 2 := ⟨⟨tb_in 934 (by decide +kernel) rfl, tb_in 907 (by decide +kernel) rfl, tb_in 106 (by decide +kernel) rfl, by decide +kernel⟩, tb_in 905 (by decide +kernel) rfl, _, rfl, tb_in 906 (by decide +kernel) rfl⟩
theorem cl_X3_82 : CLV RX3 82 6 yX6_across mX6_across 2 := ⟨⟨tb_in 1031 (by decide +kernel) rfl, tb_in 794 (by decide +kernel) rfl, tb_in 101 (by decide +kernel) rfl, by decide +kernel⟩, tb_in 792 (by decide +kernel) rfl, _, rfl, tb_in 793 (by decide +kernel) rfl⟩
theorem cl_X3_85 : CLV RX3 85 6 yX6_isTold mX6_isTold 1 := ⟨⟨tb_in 1022 (by decide +kernel) rfl, tb_in 735 (by decide +kernel) rfl, tb_in 101 (by decide +kernel) rfl, by decide +kernel⟩, tb_in 733 (by decide +kernel) rfl, _, rfl, tb_in 734 (by decide +kernel) rfl⟩
theorem cl_X3_89 : CLV RX3 89 3 yX3_widestBetweenGroups mX3_widestBetweenGroups 1 := ⟨⟨tb_in 1006 (by decide +kernel) rfl, tb_in 1009 (by decide +kernel) rfl, tb_in 106 (by decide +kernel) rfl, by decide +kernel⟩, tb_in 1008 (by decide +kernel) rfl, _, rfl, tb_in 35 (by decide +kernel) rfl⟩
theorem cl_X3_92 : CLV RX3 92 3 yX3_joinGroups mX3_joinGroups 2 := ⟨⟨tb_in 1010 (by decide +kernel) rfl, tb_in 1013 (by decide +kernel) rfl, tb_in 106 (by decide +kernel) rfl, by decide +kernel⟩, tb_in 1012 (by decide +kernel) rfl, _, rfl, tb_in 36 (by decide +kernel) rfl⟩
theorem cl_X3_96 : CLS RX3 96 yJ6_bitCount_0f7a4 mJ6_bitCount_0f7a4 1 := ⟨⟨tb_in 944 (by decide +kernel) rfl, tb_in 921 (by decide +kernel) rfl, tb_in 119 (by decide +kernel) rfl, by decide +kernel⟩, tb_in 920 (by decide +kernel) rfl⟩
theorem cl_X3_101 : CLV RX3 101 3 yX3_groups mX3_groups 1 := ⟨⟨tb_in 945 (by decide +kernel) rfl, tb_in 948 (by decide +kernel) rfl, tb_in 106 (by decide +kernel) rfl, by decide +kernel⟩, tb_in 946 (by decide +kernel) rfl, _, rfl, tb_in 947 (by decide +kernel) rfl⟩
theorem cl_X3_104 : CLV RX3 104 3 yX3_leastCover mX3_leastCover 1 := ⟨⟨tb_in 949 (by decide +kernel) rfl, tb_in 952 (by decide +kernel) rfl, tb_in 106 (by decide +kernel) rfl, by decide +kernel⟩, tb_in 951 (by decide +kernel) rfl, _, rfl, tb_in 28 (by decide +kernel) rfl⟩
theorem cl_X3_108 : CLV RX3 108 3 yX3_doesCover mX3_doesCover 1 := ⟨⟨tb_in 954 (by decide +kernel) rfl, tb_in 957 (by decide +kernel) rfl, tb_in 106 (by decide +kernel) rfl, by decide +kernel⟩, tb_in 956 (by decide +kernel) rfl, _, rfl, tb_in 29 (by decide +kernel) rfl⟩
theorem cl_X3_111 : CLS RX3 111 yX3_nextOfAsMany mX3_nextOfAsMany 1 := ⟨⟨tb_in 958 (by decide +kernel) rfl, tb_in 960 (by decide +kernel) rfl, tb_in 106 (by decide +kernel) rfl, by decide +kernel⟩, tb_in 959 (by decide +kernel) rfl⟩
theorem cl_X4_25 : CLV RX4 25 7 yX7_peek mX7_peek 0 := ⟨⟨tb_in 710 (by decide +kernel) rfl, tb_in 514 (by decide +kernel) rfl, tb_in 100 (by decide +kernel) rfl, by decide +kernel⟩, tb_in 512 (by decide +kernel) rfl, _, rfl, tb_in 513 (by decide +kernel) rfl⟩
theorem cl_X4_31 : CLV RX4 31 7 yX7_isAtCorner mX7_isAtCorner 0 := ⟨⟨tb_in 711 (by decide +kernel) rfl, tb_in 673 (by decide +kernel) rfl, tb_in 100 (by decide +kernel) rfl, by decide +kernel⟩, tb_in 671 (by decide +kernel) rfl, _, rfl, tb_in 672 (by decide +kernel) rfl⟩
theorem cl_X4_38 : CLV RX4 38 7 yX7_refuse mX7_refuse 2 := ⟨⟨tb_in 712 (by decide +kernel) rfl, tb_in 518 (by decide +kernel) rfl, tb_in 100 (by decide +kernel) rfl, by decide +kernel⟩, tb_in 516 (by decide +kernel) rfl, _, rfl, tb_in 517 (by decide +kernel) rfl⟩
theorem cl_X4_42 : CLV RX4 42 4 yX4_readLine mX4_readLine 2 := ⟨⟨tb_in 713 (by decide +kernel) rfl, tb_in 716 (by decide +kernel) rfl, tb_in 103 (by decide +kernel) rfl, by decide +kernel⟩, tb_in 715 (by decide +kernel) rfl, _, rfl, tb_in 9 (by decide +kernel) rfl⟩
theorem cl_X4_46 : CLV RX4 46 7 yX7_isAtEnd mX7_isAtEnd 0 := ⟨⟨tb_in 743 (by decide +kernel) rfl, tb_in 650 (by decide +kernel) rfl, tb_in 100 (by decide +kernel) rfl, by decide +kernel⟩, tb_in 648 (by decide +kernel) rfl, _, rfl, tb_in 649 (by decide +kernel) rfl⟩
theorem cl_X4_49 : CLV RX4 49 7 yX7_demands mX7_demands 1 := ⟨⟨tb_in 727 (by decide +kernel) rfl, tb_in 530 (by decide +kernel) rfl, tb_in 100 (by decide +kernel) rfl, by decide +kernel⟩, tb_in 528 (by decide +kernel) rfl, _, rfl, tb_in 529 (by decide +kernel) rfl⟩
theorem cl_X4_53 : CLV RX4 53 7 yX7_takes mX7_takes 1 := ⟨⟨tb_in 717 (by decide +kernel) rfl, tb_in 642 (by decide +kernel) rfl, tb_in 100 (by decide +kernel) rfl, by decide +kernel⟩, tb_in 640 (by decide +kernel) rfl, _, rfl, tb_in 641 (by decide +kernel) rfl⟩
theorem cl_X4_56 : CLV RX4 56 4 yX4_readPipe mX4_readPipe 2 := ⟨⟨tb_in 718 (by decide +kernel) rfl, tb_in 721 (by decide +kernel) rfl, tb_in 103 (by decide +kernel) rfl, by decide +kernel⟩, tb_in 720 (by decide +kernel) rfl, _, rfl, tb_in 10 (by decide +kernel) rfl⟩
theorem cl_X4_59 : CLV RX4 59 4 yX4_readAmount mX4_readAmount 4 := ⟨⟨tb_in 728 (by decide +kernel) rfl, tb_in 731 (by decide +kernel) rfl, tb_in 103 (by decide +kernel) rfl, by decide +kernel⟩, tb_in 730 (by decide +kernel) rfl, _, rfl, tb_in 12 (by decide +kernel) rfl⟩
theorem cl_X4_63 : CLV RX4 63 6 yX6_isTold mX6_isTold 1 := ⟨⟨tb_in 732 (by decide +kernel) rfl, tb_in 735 (by decide +kernel) rfl, tb_in 101 (by decide +kernel) rfl, by decide +kernel⟩, tb_in 733 (by decide +kernel) rfl, _, rfl, tb_in 734 (by decide +kernel) rfl⟩
theorem cl_X4_68 : CLV RX4 68 4 yX4_readTurn mX4_readTurn 2 := ⟨⟨tb_in 739 (by decide +kernel) rfl, tb_in 742 (by decide +kernel) rfl, tb_in 103 (by decide +kernel) rfl, by decide +kernel⟩, tb_in 741 (by decide +kernel) rfl, _, rfl, tb_in 13 (by decide +kernel) rfl⟩
theorem cl_X4_72 : CLV RX4 72 7 yX7_readNumber mX7_readNumber 1 := ⟨⟨tb_in 722 (by decide +kernel) rfl, tb_in 536 (by decide +kernel) rfl, tb_in 100 (by decide +kernel) rfl, by decide +kernel⟩, tb_in 534 (by decide +kernel) rfl, _, rfl, tb_in 535 (by decide +kernel) rfl⟩
theorem cl_X4_79 : CLV RX4 79 4 yX4_note mX4_note 3 := ⟨⟨tb_in 723 (by decide +kernel) rfl, tb_in 726 (by decide +kernel) rfl, tb_in 103 (by decide +kernel) rfl, by decide +kernel⟩, tb_in 725 (by decide +kernel) rfl, _, rfl, tb_in 11 (by decide +kernel) rfl⟩
theorem ml_X4_91 : Cond.methodLink RX4 91 Lib.Math.min.name ∈ TBL := tb_in 748 (by decide +kernel) rfl
theorem ml_X4_97 : Cond.methodLink RX4 97 Lib.Math.max.name ∈ TBL := tb_in 749 (by decide +kernel) rfl
theorem cl_X5_28 : CLS RX5 28 yJ7_fill_53178 mJ7_fill_53178 2 := ⟨⟨tb_in 701 (by decide +kernel) rfl, tb_in 669 (by decide +kernel) rfl, tb_in 118 (by decide +kernel) rfl, by decide +kernel⟩, tb_in 668 (by decide +kernel) rfl⟩
theorem ml_X5_43 : Cond.methodLink RX5 43 arraycopyName ∈ TBL := tb_in 831 (by decide +kernel) rfl
theorem cl_X5_52 : CLN RX5 52 yX10_hasBit mX10_hasBit 2 := ⟨List.mem_of_getElem? (i := 13) (by decide +kernel), tb_in 738 (by decide +kernel) rfl, tb_in 99 (by decide +kernel) rfl, by decide +kernel, tb_in 737 (by decide +kernel) rfl⟩
theorem cl_X6_28 : CLN RX6 28 yX10_hasBit mX10_hasBit 2 := ⟨List.mem_of_getElem? (i := 6) (by decide +kernel), tb_in 738 (by decide +kernel) rfl, tb_in 99 (by decide +kernel) rfl, by decide +kernel, tb_in 737 (by decide +kernel) rfl⟩
theorem cl_X6_35 : CLV RX6 35 6 yX6_across mX6_across 2 := ⟨⟨tb_in 791 (by decide +kernel) rfl, tb_in 794 (by decide +kernel) rfl, tb_in 101 (by decide +kernel) rfl, by decide +kernel⟩, tb_in 792 (by decide +kernel) rfl, _, rfl, tb_in 793 (by decide +kernel) rfl⟩
theorem ml_X6_39 : Cond.methodLink RX6 39 arraycopyName ∈ TBL := tb_in 696 (by decide +kernel) rfl
theorem cl_X6_45 : CLS RX6 45 yJ7_fill_53178 mJ7_fill_53178 2 := ⟨⟨tb_in 667 (by decide +kernel) rfl, tb_in 669 (by decide +kernel) rfl, tb_in 118 (by decide +kernel) rfl, by decide +kernel⟩, tb_in 668 (by decide +kernel) rfl⟩
theorem cl_X6_51 : CLV RX6 51 7 yX7_isAtCorner mX7_isAtCorner 0 := ⟨⟨tb_in 670 (by decide +kernel) rfl, tb_in 673 (by decide +kernel) rfl, tb_in 100 (by decide +kernel) rfl, by decide +kernel⟩, tb_in 671 (by decide +kernel) rfl, _, rfl, tb_in 672 (by decide +kernel) rfl⟩
theorem cl_X6_60 : CLV RX6 60 7 yX7_refuse mX7_refuse 2 := ⟨⟨tb_in 674 (by decide +kernel) rfl, tb_in 518 (by decide +kernel) rfl, tb_in 100 (by decide +kernel) rfl, by decide +kernel⟩, tb_in 516 (by decide +kernel) rfl, _, rfl, tb_in 517 (by decide +kernel) rfl⟩
theorem cl_X6_63 : CLV RX6 63 6 yX6_readLine mX6_readLine 1 := ⟨⟨tb_in 675 (by decide +kernel) rfl, tb_in 678 (by decide +kernel) rfl, tb_in 101 (by decide +kernel) rfl, by decide +kernel⟩, tb_in 677 (by decide +kernel) rfl, _, rfl, tb_in 6 (by decide +kernel) rfl⟩
theorem cl_X6_67 : CLV RX6 67 7 yX7_isAtEnd mX7_isAtEnd 0 := ⟨⟨tb_in 690 (by decide +kernel) rfl, tb_in 650 (by decide +kernel) rfl, tb_in 100 (by decide +kernel) rfl, by decide +kernel⟩, tb_in 648 (by decide +kernel) rfl, _, rfl, tb_in 649 (by decide +kernel) rfl⟩
theorem cl_X6_70 : CLV RX6 70 7 yX7_demands mX7_demands 1 := ⟨⟨tb_in 691 (by decide +kernel) rfl, tb_in 530 (by decide +kernel) rfl, tb_in 100 (by decide +kernel) rfl, by decide +kernel⟩, tb_in 528 (by decide +kernel) rfl, _, rfl, tb_in 529 (by decide +kernel) rfl⟩
theorem cl_X6_74 : CLV RX6 74 6 yX6_readCorner mX6_readCorner 1 := ⟨⟨tb_in 679 (by decide +kernel) rfl, tb_in 682 (by decide +kernel) rfl, tb_in 101 (by decide +kernel) rfl, by decide +kernel⟩, tb_in 681 (by decide +kernel) rfl, _, rfl, tb_in 7 (by decide +kernel) rfl⟩
theorem cl_X6_78 : CLV RX6 78 7 yX7_takes mX7_takes 1 := ⟨⟨tb_in 684 (by decide +kernel) rfl, tb_in 642 (by decide +kernel) rfl, tb_in 100 (by decide +kernel) rfl, by decide +kernel⟩, tb_in 640 (by decide +kernel) rfl, _, rfl, tb_in 641 (by decide +kernel) rfl⟩
theorem cl_X6_81 : CLV RX6 81 7 yX7_readNumber mX7_readNumber 1 := ⟨⟨tb_in 685 (by decide +kernel) rfl, tb_in 536 (by decide +kernel) rfl, tb_in 100 (by decide +kernel) rfl, by decide +kernel⟩, tb_in 534 (by decide +kernel) rfl, _, rfl, tb_in 535 (by decide +kernel) rfl⟩
theorem cl_X6_85 : CLV RX6 85 7 yX7_peek mX7_peek 0 := ⟨⟨tb_in 683 (by decide +kernel) rfl, tb_in 514 (by decide +kernel) rfl, tb_in 100 (by decide +kernel) rfl, by decide +kernel⟩, tb_in 512 (by decide +kernel) rfl, _, rfl, tb_in 513 (by decide +kernel) rfl⟩
theorem cl_X6_89 : CLV RX6 89 6 yX6_readRoad mX6_readRoad 2 := ⟨⟨tb_in 686 (by decide +kernel) rfl, tb_in 689 (by decide +kernel) rfl, tb_in 101 (by decide +kernel) rfl, by decide +kernel⟩, tb_in 688 (by decide +kernel) rfl, _, rfl, tb_in 8 (by decide +kernel) rfl⟩
theorem cl_X7_28 : CLV RX7 28 7 yX7_peek mX7_peek 0 := ⟨⟨tb_in 531 (by decide +kernel) rfl, tb_in 514 (by decide +kernel) rfl, tb_in 100 (by decide +kernel) rfl, by decide +kernel⟩, tb_in 512 (by decide +kernel) rfl, _, rfl, tb_in 513 (by decide +kernel) rfl⟩
theorem cl_X7_32 : CLV RX7 32 7 yX7_refuse mX7_refuse 2 := ⟨⟨tb_in 532 (by decide +kernel) rfl, tb_in 518 (by decide +kernel) rfl, tb_in 100 (by decide +kernel) rfl, by decide +kernel⟩, tb_in 516 (by decide +kernel) rfl, _, rfl, tb_in 517 (by decide +kernel) rfl⟩
theorem cl_X8_33 : CLV RX8 33 8 yX8_rise mX8_rise 0 := ⟨⟨tb_in 761 (by decide +kernel) rfl, tb_in 764 (by decide +kernel) rfl, tb_in 105 (by decide +kernel) rfl, by decide +kernel⟩, tb_in 763 (by decide +kernel) rfl, _, rfl, tb_in 14 (by decide +kernel) rfl⟩
theorem cl_X8_36 : CLV RX8 36 8 yX8_level mX8_level 0 := ⟨⟨tb_in 805 (by decide +kernel) rfl, tb_in 808 (by decide +kernel) rfl, tb_in 105 (by decide +kernel) rfl, by decide +kernel⟩, tb_in 807 (by decide +kernel) rfl, _, rfl, tb_in 19 (by decide +kernel) rfl⟩
theorem cl_X8_39 : CLV RX8 39 8 yX8_weep mX8_weep 0 := ⟨⟨tb_in 813 (by decide +kernel) rfl, tb_in 816 (by decide +kernel) rfl, tb_in 105 (by decide +kernel) rfl, by decide +kernel⟩, tb_in 815 (by decide +kernel) rfl, _, rfl, tb_in 21 (by decide +kernel) rfl⟩
theorem cl_X8_43 : CLV RX8 43 6 yX6_isTold mX6_isTold 1 := ⟨⟨tb_in 765 (by decide +kernel) rfl, tb_in 735 (by decide +kernel) rfl, tb_in 101 (by decide +kernel) rfl, by decide +kernel⟩, tb_in 733 (by decide +kernel) rfl, _, rfl, tb_in 734 (by decide +kernel) rfl⟩
theorem cl_X8_52 : CLV RX8 52 5 yX5_drawNumber mX5_drawNumber 0 := ⟨⟨tb_in 766 (by decide +kernel) rfl, tb_in 769 (by decide +kernel) rfl, tb_in 104 (by decide +kernel) rfl, by decide +kernel⟩, tb_in 767 (by decide +kernel) rfl, _, rfl, tb_in 768 (by decide +kernel) rfl⟩
theorem ml_X8_64 : Cond.methodLink RX8 64 Lib.Math.min.name ∈ TBL := tb_in 771 (by decide +kernel) rfl
theorem cl_X8_70 : CLV RX8 70 8 yX8_amountOf mX8_amountOf 1 := ⟨⟨tb_in 772 (by decide +kernel) rfl, tb_in 775 (by decide +kernel) rfl, tb_in 105 (by decide +kernel) rfl, by decide +kernel⟩, tb_in 774 (by decide +kernel) rfl, _, rfl, tb_in 15 (by decide +kernel) rfl⟩
theorem cl_X8_80 : CLN RX8 80 yX10_hasBit mX10_hasBit 2 := ⟨List.mem_of_getElem? (i := 7) (by decide +kernel), tb_in 738 (by decide +kernel) rfl, tb_in 99 (by decide +kernel) rfl, by decide +kernel, tb_in 737 (by decide +kernel) rfl⟩
theorem cl_X8_96 : CLV RX8 96 8 yX8_give mX8_give 3 := ⟨⟨tb_in 809 (by decide +kernel) rfl, tb_in 812 (by decide +kernel) rfl, tb_in 105 (by decide +kernel) rfl, by decide +kernel⟩, tb_in 811 (by decide +kernel) rfl, _, rfl, tb_in 20 (by decide +kernel) rfl⟩
theorem cl_X8_103 : CLV RX8 103 8 yX8_isFrozen mX8_isFrozen 0 := ⟨⟨tb_in 817 (by decide +kernel) rfl, tb_in 820 (by decide +kernel) rfl, tb_in 105 (by decide +kernel) rfl, by decide +kernel⟩, tb_in 819 (by decide +kernel) rfl, _, rfl, tb_in 22 (by decide +kernel) rfl⟩
theorem cl_X8_125 : CLV RX8 125 8 yX8_work mX8_work 2 := ⟨⟨tb_in 776 (by decide +kernel) rfl, tb_in 779 (by decide +kernel) rfl, tb_in 105 (by decide +kernel) rfl, by decide +kernel⟩, tb_in 778 (by decide +kernel) rfl, _, rfl, tb_in 16 (by decide +kernel) rfl⟩
theorem ml_X8_134 : Cond.methodLink RX8 134 Lib.Math.max.name ∈ TBL := tb_in 801 (by decide +kernel) rfl
theorem cl_X8_143 : CLS RX8 143 yX8_neededBy mX8_neededBy 1 := ⟨⟨tb_in 780 (by decide +kernel) rfl, tb_in 782 (by decide +kernel) rfl, tb_in 105 (by decide +kernel) rfl, by decide +kernel⟩, tb_in 781 (by decide +kernel) rfl⟩
theorem cl_X8_146 : CLV RX8 146 8 yX8_letter mX8_letter 1 := ⟨⟨tb_in 783 (by decide +kernel) rfl, tb_in 786 (by decide +kernel) rfl, tb_in 105 (by decide +kernel) rfl, by decide +kernel⟩, tb_in 785 (by decide +kernel) rfl, _, rfl, tb_in 17 (by decide +kernel) rfl⟩
theorem cl_X8_149 : CLS RX8 149 yX8_reckon mX8_reckon 3 := ⟨⟨tb_in 802 (by decide +kernel) rfl, tb_in 804 (by decide +kernel) rfl, tb_in 105 (by decide +kernel) rfl, by decide +kernel⟩, tb_in 803 (by decide +kernel) rfl⟩
theorem cl_X8_153 : CLV RX8 153 6 yX6_openPipesOf mX6_openPipesOf 2 := ⟨⟨tb_in 787 (by decide +kernel) rfl, tb_in 790 (by decide +kernel) rfl, tb_in 101 (by decide +kernel) rfl, by decide +kernel⟩, tb_in 788 (by decide +kernel) rfl, _, rfl, tb_in 789 (by decide +kernel) rfl⟩
theorem cl_X8_156 : CLV RX8 156 8 yX8_mostBeside mX8_mostBeside 0 := ⟨⟨tb_in 795 (by decide +kernel) rfl, tb_in 798 (by decide +kernel) rfl, tb_in 105 (by decide +kernel) rfl, by decide +kernel⟩, tb_in 797 (by decide +kernel) rfl, _, rfl, tb_in 18 (by decide +kernel) rfl⟩
theorem cl_X8_159 : CLV RX8 159 6 yX6_across mX6_across 2 := ⟨⟨tb_in 799 (by decide +kernel) rfl, tb_in 794 (by decide +kernel) rfl, tb_in 101 (by decide +kernel) rfl, by decide +kernel⟩, tb_in 792 (by decide +kernel) rfl, _, rfl, tb_in 793 (by decide +kernel) rfl⟩
theorem cl_X9_30 : CLV RX9 30 3 yX3_measureFrom mX3_measureFrom 1 := ⟨⟨tb_in 970 (by decide +kernel) rfl, tb_in 911 (by decide +kernel) rfl, tb_in 106 (by decide +kernel) rfl, by decide +kernel⟩, tb_in 909 (by decide +kernel) rfl, _, rfl, tb_in 910 (by decide +kernel) rfl⟩
theorem cl_X9_40 : CLN RX9 40 yX10_hasBit mX10_hasBit 2 := ⟨List.mem_of_getElem? (i := 11) (by decide +kernel), tb_in 738 (by decide +kernel) rfl, tb_in 99 (by decide +kernel) rfl, by decide +kernel, tb_in 737 (by decide +kernel) rfl⟩
theorem cl_X9_44 : CLV RX9 44 6 yX6_openPipesOf mX6_openPipesOf 2 := ⟨⟨tb_in 972 (by decide +kernel) rfl, tb_in 790 (by decide +kernel) rfl, tb_in 101 (by decide +kernel) rfl, by decide +kernel⟩, tb_in 788 (by decide +kernel) rfl, _, rfl, tb_in 789 (by decide +kernel) rfl⟩
theorem cl_X9_50 : CLV RX9 50 9 yX9_pairUp mX9_pairUp 0 := ⟨⟨tb_in 973 (by decide +kernel) rfl, tb_in 976 (by decide +kernel) rfl, tb_in 108 (by decide +kernel) rfl, by decide +kernel⟩, tb_in 975 (by decide +kernel) rfl, _, rfl, tb_in 30 (by decide +kernel) rfl⟩
theorem cl_X9_54 : CLV RX9 54 9 yX9_measureOdds mX9_measureOdds 0 := ⟨⟨tb_in 977 (by decide +kernel) rfl, tb_in 980 (by decide +kernel) rfl, tb_in 108 (by decide +kernel) rfl, by decide +kernel⟩, tb_in 979 (by decide +kernel) rfl, _, rfl, tb_in 31 (by decide +kernel) rfl⟩
theorem cl_X9_57 : CLS RX9 57 yJ6_bitCount_0f7a4 mJ6_bitCount_0f7a4 1 := ⟨⟨tb_in 981 (by decide +kernel) rfl, tb_in 921 (by decide +kernel) rfl, tb_in 119 (by decide +kernel) rfl, by decide +kernel⟩, tb_in 920 (by decide +kernel) rfl⟩
theorem cl_X9_62 : CLV RX9 62 9 yX9_leastFor mX9_leastFor 1 := ⟨⟨tb_in 982 (by decide +kernel) rfl, tb_in 985 (by decide +kernel) rfl, tb_in 108 (by decide +kernel) rfl, by decide +kernel⟩, tb_in 984 (by decide +kernel) rfl, _, rfl, tb_in 32 (by decide +kernel) rfl⟩
theorem cl_X9_65 : CLV RX9 65 9 yX9_setCost mX9_setCost 2 := ⟨⟨tb_in 993 (by decide +kernel) rfl, tb_in 996 (by decide +kernel) rfl, tb_in 108 (by decide +kernel) rfl, by decide +kernel⟩, tb_in 995 (by decide +kernel) rfl, _, rfl, tb_in 34 (by decide +kernel) rfl⟩
theorem cl_X9_69 : CLV RX9 69 9 yX9_costOf mX9_costOf 1 := ⟨⟨tb_in 987 (by decide +kernel) rfl, tb_in 990 (by decide +kernel) rfl, tb_in 108 (by decide +kernel) rfl, by decide +kernel⟩, tb_in 989 (by decide +kernel) rfl, _, rfl, tb_in 33 (by decide +kernel) rfl⟩
theorem cl_X9_75 : CLN RX9 75 yX10_lowest mX10_lowest 1 := ⟨List.mem_of_getElem? (i := 12) (by decide +kernel), tb_in 918 (by decide +kernel) rfl, tb_in 99 (by decide +kernel) rfl, by decide +kernel, tb_in 917 (by decide +kernel) rfl⟩
theorem ml_X9_78 : Cond.methodLink RX9 78 Lib.Math.min.name ∈ TBL := tb_in 992 (by decide +kernel) rfl
theorem cl_X9_93 (dp : Nat) : CLS RX9 93 yX9_goOn (mX9_goOn dp) 4 := ⟨⟨tb_in 1044 (by decide +kernel) rfl, tb_in 1046 (by show lw_tbl[1046]? = some (Cond.code yX9_goOn cX9_goOn 7 (none)); decide +kernel) rfl, tb_in 108 (by decide +kernel) rfl, by decide +kernel⟩, tb_in 1045 (by decide +kernel) rfl⟩
theorem ac_nat : Cond.native arraycopyName ∈ TBL := tb_in 657 (by decide +kernel) rfl
theorem ac_st : Cond.static arraycopyName ∈ TBL := tb_in 656 (by decide +kernel) rfl
theorem ac_in : Cond.initialized "java/lang/System" ∈ TBL := tb_in 117 (by decide +kernel) rfl
