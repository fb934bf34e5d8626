/-! ===== Level 3: plain facts on the words of programs ===== -/
theorem litI (n : Nat) : (OfNat.ofNat n : Int32) = nI n := rfl
theorem nI_ofNat (n : Nat) : Int32.ofNat n = nI n := rfl
theorem lt_e {α β : Type} (a : α) (f : α → β) : lt a f = f a := rfl
theorem cl_s {α : Type} (v : Int32) (h : HP) (f : Int32 → HP → Option α) : cl (some (v, h)) f = f v h := rfl
theorem cl_n {α : Type} (f : Int32 → HP → Option α) : cl none f = none := rfl
theorem zok_0 {α : Type} (d : Option α) : zok 0 d = d := by simp [zok]
theorem zok_1 {α : Type} (d : Option α) : zok 1 d = d := by simp [zok]
theorem iok_t {α : Type} {c : Prop} [Decidable c] (hc : c) (d : Option α) : iok c d = d := if_pos hc
theorem up_at (h : HP) (k j a b : Nat) (v : Int32) : (up h k j v).1 a b = if a = k ∧ b = j then v else h.1 a b := by
  unfold up upd
  by_cases ha : a = k
  · subst ha; by_cases hb : b = j <;> simp [hb]
  · simp [ha]
theorem up_n {h : HP} {k j a : Nat} {v : Int32} (ha : a ≠ k) : (up h k j v).1 a = h.1 a := by simp [up, ha]
theorem up_2 (h : HP) (k j : Nat) (v : Int32) : (up h k j v).2 = h.2 := rfl
theorem upA_at (h : HP) (k a : Nat) (f : Nat → Int32) : (upA h k f).1 a = if a = k then f else h.1 a := rfl
theorem upA_n {h : HP} {k a : Nat} {f : Nat → Int32} (ha : a ≠ k) : (upA h k f).1 a = h.1 a := by simp [upA, ha]
theorem upA_k (h : HP) (k : Nat) (f : Nat → Int32) : (upA h k f).1 k = f := by simp [upA]
theorem nI_big {i n : Nat} (hi : i < n) (hn : n < 2147483648) : ¬ (nI i < 0 ∨ n ≤ (nI i).toNatClampNeg) := nI_in hi hn
theorem ald_n {α : Type} {h : HP} {k n i : Nat} {f : Int32 → Option α} (hi : i < n) (hn : n < 2147483648) : ald h k n (nI i) f = f (h.1 k i) := by
  unfold ald
  rw [if_neg (nI_big hi hn), nI_clamp (by omega)]
theorem ast_n {α : Type} {h : HP} {k n i : Nat} {v : Int32} {f : HP → Option α} (hi : i < n) (hn : n < 2147483648) : ast h k n (nI i) v f = f (up h k i v) := by
  unfold ast
  rw [if_neg (nI_big hi hn), nI_clamp (by omega)]
theorem alL_n {α : Type} {h : HP} {n i : Nat} {f : Int64 → Option α} (hi : i < n) (hn : n < 2147483648) : alL h n (nI i) f = f (h.2 i) := by
  unfold alL
  rw [if_neg (nI_big hi hn), nI_clamp (by omega)]
theorem asL_n {α : Type} {h : HP} {n i : Nat} {v : Int64} {f : HP → Option α} (hi : i < n) (hn : n < 2147483648) : asL h n (nI i) v f = f (upL h i v) := by
  unfold asL
  rw [if_neg (nI_big hi hn), nI_clamp (by omega)]
/-- numbers of the machine, by their values -/
theorem i_le (x y : Int32) : x ≤ y ↔ x.toInt ≤ y.toInt := Int32.le_iff_toInt_le
theorem i_lt (x y : Int32) : x < y ↔ x.toInt < y.toInt := Int32.lt_iff_toInt_lt
theorem i_eq (x y : Int32) : x = y ↔ x.toInt = y.toInt := Int32.toInt_inj.symm
theorem i_n {n : Nat} (h : n < 2147483648) : (nI n).toInt = (n : Int) := nI_toInt h
theorem i_m1 : (-1 : Int32).toInt = -1 := by decide
theorem i_m2 : (-2 : Int32).toInt = -2 := by decide
/-- comparisons between what is known as numbers -/
theorem le_nn {a b : Nat} (ha : a < 2147483648) (hb : b < 2147483648) : nI a ≤ nI b ↔ a ≤ b := nI_leI ha hb
theorem lt_nn {a b : Nat} (ha : a < 2147483648) (hb : b < 2147483648) : nI a < nI b ↔ a < b := nI_ltI ha hb
theorem eq_nn {a b : Nat} (ha : a < 2147483648) (hb : b < 2147483648) : nI a = nI b ↔ a = b := nI_eq ha hb
theorem nn_m1 {a : Nat} (ha : a < 2147483648) : nI a ≠ -1 := by
  intro h
  have h1 := congrArg Int32.toInt h
  rw [i_n ha, i_m1] at h1
  omega
theorem nn_m2 {a : Nat} (ha : a < 2147483648) : nI a ≠ -2 := by
  intro h
  have h1 := congrArg Int32.toInt h
  rw [i_n ha, i_m2] at h1
  omega
theorem add_nn (a b : Nat) : nI a + nI b = nI (a + b) := nI_add a b
theorem sub_nn {a b : Nat} (h : b ≤ a) : nI a - nI b = nI (a - b) := pk_sub h
theorem mul_nn (a b : Nat) : nI a * nI b = nI (a * b) := pk_mul a b
theorem div_nn {a d : Nat} (ha : a < 2147483648) (h0 : 0 < d) (hd : d < 2147483648) : nI a / nI d = nI (a / d) := pk_div ha h0 hd
theorem rem_nn {a d : Nat} (ha : a < 2147483648) (h0 : 0 < d) (hd : d < 2147483648) : irem (nI a) (nI d) = nI (a % d) := pk_rem ha h0 hd
theorem imn_nn {a b : Nat} (ha : a < 2147483648) (hb : b < 2147483648) : imn (nI a) (nI b) = nI (min a b) := by
  unfold imn
  by_cases h : b < a
  · rw [if_pos ((lt_nn hb ha).mpr h), Nat.min_eq_right (by omega)]
  · rw [if_neg (fun q => h ((lt_nn hb ha).mp q)), Nat.min_eq_left (by omega)]
theorem imx_nn {a b : Nat} (ha : a < 2147483648) (hb : b < 2147483648) : imx (nI a) (nI b) = nI (max a b) := by
  unfold imx
  by_cases h : a < b
  · rw [if_pos ((lt_nn ha hb).mpr h), Nat.max_eq_right (by omega)]
  · rw [if_neg (fun q => h ((lt_nn ha hb).mp q)), Nat.max_eq_left (by omega)]
theorem bv_n (n : Nat) : (nI n).toBitVec = BitVec.ofNat 32 n := rfl
theorem I_bv {x y : Int32} (h : x.toBitVec = y.toBitVec) : x = y := Int32.toBitVec_inj.mp h
theorem and_nn (a b : Nat) : nI a &&& nI b = nI (a &&& b) := I_bv (by rw [Int32.toBitVec_and, bv_n, bv_n, bv_n]; apply BitVec.eq_of_toNat_eq; simp [Nat.and_mod_two_pow])
theorem or_nn (a b : Nat) : nI a ||| nI b = nI (a ||| b) := I_bv (by rw [Int32.toBitVec_or, bv_n, bv_n, bv_n]; apply BitVec.eq_of_toNat_eq; simp [Nat.or_mod_two_pow])
theorem xor_nn (a b : Nat) : nI a ^^^ nI b = nI (a ^^^ b) := I_bv (by rw [Int32.toBitVec_xor, bv_n, bv_n, bv_n]; apply BitVec.eq_of_toNat_eq; simp [Nat.xor_mod_two_pow])
theorem sh_k : ∀ k, k < 32 → ((nI k &&& 31).toBitVec.smod 32).toNat = k := by decide +kernel
theorem shl_nn {a k : Nat} (hk : k < 32) (h : a * 2 ^ k < 4294967296) : nI a <<< (nI k &&& 31) = nI (a * 2 ^ k) := pk_shlN _ k (sh_k k hk) h
theorem shr_nn {a k : Nat} (hk : k < 32) (ha : a < 2147483648) : nI a >>> (nI k &&& 31) = nI (a / 2 ^ k) := pk_shrN ha _ k (sh_k k hk)
theorem bit_nn {a k : Nat} (hk : k < 32) (ha : a < 2147483648) : (nI a >>> (nI k &&& 31)) &&& 1 = nI (a / 2 ^ k % 2) := by
  rw [shr_nn hk ha, litI, and_nn]
  congr 1
  exact Nat.and_one_is_mod _
theorem ush_k : ∀ k, k < 32 → (((nI k).toUInt32 &&& Int32.toUInt32 31).toBitVec % 32).toNat = k := by decide +kernel
theorem ushr_nn {a k : Nat} (hk : k < 32) (ha : a < 4294967296) : ushr (nI a) (nI k) = nI (a / 2 ^ k) := pk_ushrN ha _ k (ush_k k hk)
theorem I_n (x : Int32) : ∃ a, a < 4294967296 ∧ x = nI a := ⟨x.toBitVec.toNat, x.toBitVec.isLt, I_bv (by rw [bv_n]; simp)⟩
theorem l0 : (0 : Int32) = nI 0 := rfl
theorem l1 : (1 : Int32) = nI 1 := rfl
theorem l2 : (2 : Int32) = nI 2 := rfl
theorem l3 : (3 : Int32) = nI 3 := rfl
theorem l4 : (4 : Int32) = nI 4 := rfl
theorem l5 : (5 : Int32) = nI 5 := rfl
theorem l6 : (6 : Int32) = nI 6 := rfl
theorem l7 : (7 : Int32) = nI 7 := rfl
theorem l8 : (8 : Int32) = nI 8 := rfl
theorem l9 : (9 : Int32) = nI 9 := rfl
theorem l10 : (10 : Int32) = nI 10 := rfl
theorem l11 : (11 : Int32) = nI 11 := rfl
theorem l12 : (12 : Int32) = nI 12 := rfl
theorem l13 : (13 : Int32) = nI 13 := rfl
theorem l14 : (14 : Int32) = nI 14 := rfl
theorem l15 : (15 : Int32) = nI 15 := rfl
theorem l16 : (16 : Int32) = nI 16 := rfl
theorem l20 : (20 : Int32) = nI 20 := rfl
theorem l23 : (23 : Int32) = nI 23 := rfl
theorem l24 : (24 : Int32) = nI 24 := rfl
theorem l31 : (31 : Int32) = nI 31 := rfl
theorem l32 : (32 : Int32) = nI 32 := rfl
theorem l35 : (35 : Int32) = nI 35 := rfl
theorem l39 : (39 : Int32) = nI 39 := rfl
theorem l48 : (48 : Int32) = nI 48 := rfl
theorem l72 : (72 : Int32) = nI 72 := rfl
theorem l73 : (73 : Int32) = nI 73 := rfl
theorem l74 : (74 : Int32) = nI 74 := rfl
theorem l75 : (75 : Int32) = nI 75 := rfl
theorem l97 : (97 : Int32) = nI 97 := rfl
theorem l99 : (99 : Int32) = nI 99 := rfl
theorem l100 : (100 : Int32) = nI 100 := rfl
theorem l113 : (113 : Int32) = nI 113 := rfl
theorem l240 : (240 : Int32) = nI 240 := rfl
theorem l255 : (255 : Int32) = nI 255 := rfl
theorem l256 : (256 : Int32) = nI 256 := rfl
theorem l260 : (260 : Int32) = nI 260 := rfl
theorem l1000 : (1000 : Int32) = nI 1000 := rfl
theorem l8161 : (8161 : Int32) = nI 8161 := rfl
theorem l9999 : (9999 : Int32) = nI 9999 := rfl
theorem l16320 : (16320 : Int32) = nI 16320 := rfl
theorem l16321 : (16321 : Int32) = nI 16321 := rfl
theorem l65535 : (65535 : Int32) = nI 65535 := rfl
theorem l65536 : (65536 : Int32) = nI 65536 := rfl
theorem l999999 : (999999 : Int32) = nI 999999 := rfl
theorem l1000000 : (1000000 : Int32) = nI 1000000 := rfl
theorem l1048576 : (1048576 : Int32) = nI 1048576 := rfl
theorem upA_self (h : HP) (k : Nat) : upA h k (h.1 k) = h := Prod.ext (funext fun a => by by_cases q : a = k <;> simp [upA, q]) rfl
theorem upA_selfE {h : HP} {k : Nat} {f : Nat → Int32} (e : ∀ j, f j = h.1 k j) : upA h k f = h := by
  rw [show f = h.1 k from funext e]; exact upA_self h k
theorem up_upAk (h : HP) (k j : Nat) (f : Nat → Int32) (v : Int32) : up (upA h k f) k j v = upA h k (upd f j v) := Prod.ext (funext fun a => by by_cases q : a = k <;> simp [up, upA, q]) rfl
theorem upA_upA (h : HP) (k : Nat) (f g : Nat → Int32) : upA (upA h k f) k g = upA h k g := Prod.ext (funext fun a => by by_cases q : a = k <;> simp [upA, q]) rfl
theorem upA_ext {h : HP} {k : Nat} {f g : Nat → Int32} (e : ∀ j, f j = g j) : upA h k f = upA h k g := by rw [show f = g from funext e]
theorem upd_at (f : Nat → Int32) (j b : Nat) (v : Int32) : upd f j v b = if b = j then v else f b := rfl
