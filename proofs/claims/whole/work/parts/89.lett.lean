/-! ===== letters and numbers of the law ===== -/
def lix (t : Nat) : Nat := if t = 99 then 0 else if t = 104 then 1 else if t = 115 then 2 else if t = 117 then 3 else if t = 110 then 4 else if t = 109 then 5 else if t = 113 then 6 else if t = 97 then 7 else if t = 116 then 8 else if t = 119 then 9 else 10
theorem lix_ch : ∀ t, t < 256 → lix t < 10 → lch (lix t) = t := by decide +kernel
def foI (x : Int32) : Int32 := if x = 97 then 7 else if x = 99 then 0 else if x = 104 then 1 else if x = 109 then 5 else if x = 110 then 4 else if x = 113 then 6 else if x = 115 then 2 else if x = 116 then 8 else if x = 117 then 3 else if x = 119 then 9 else -1
theorem factOf_e (x : Int32) (h : HP) : xX11_factOf x h = some (foI x, h) := by
  unfold xX11_factOf foI
  by_cases h1 : x = 97
  · rw [if_pos h1, if_pos h1]
  rw [if_neg h1, if_neg h1]
  by_cases h2 : x = 99
  · rw [if_pos h2, if_pos h2]
  rw [if_neg h2, if_neg h2]
  by_cases h3 : x = 104
  · rw [if_pos h3, if_pos h3]
  rw [if_neg h3, if_neg h3]
  by_cases h4 : x = 109
  · rw [if_pos h4, if_pos h4]
  rw [if_neg h4, if_neg h4]
  by_cases h5 : x = 110
  · rw [if_pos h5, if_pos h5]
  rw [if_neg h5, if_neg h5]
  by_cases h6 : x = 113
  · rw [if_pos h6, if_pos h6]
  rw [if_neg h6, if_neg h6]
  by_cases h7 : x = 115
  · rw [if_pos h7, if_pos h7]
  rw [if_neg h7, if_neg h7]
  by_cases h8 : x = 116
  · rw [if_pos h8, if_pos h8]
  rw [if_neg h8, if_neg h8]
  by_cases h9 : x = 117
  · rw [if_pos h9, if_pos h9]
  rw [if_neg h9, if_neg h9]
  by_cases h10 : x = 119
  · rw [if_pos h10, if_pos h10]
  · rw [if_neg h10, if_neg h10]
theorem foI_n : ∀ t, t < 256 → foI (nI t) = if lix t < 10 then nI (lix t) else -1 := by decide +kernel
def ixI (x : Int32) : Int32 := if (99 : Int32) ≠ x then (if (104 : Int32) ≠ x then (if (115 : Int32) ≠ x then (if (117 : Int32) ≠ x then (if (110 : Int32) ≠ x then (if (109 : Int32) ≠ x then (if (113 : Int32) ≠ x then (if (97 : Int32) ≠ x then (if (116 : Int32) ≠ x then (if (119 : Int32) ≠ x then -1 else 9) else 8) else 7) else 6) else 5) else 4) else 3) else 2) else 1) else 0
section LET
variable {N : Nat}
theorem sld_n {α : Type} {i : Nat} (hi : i < 10) (f : Int32 → Option α) : sld (nI i) f = f (strB.getD i 0) := by
  unfold sld
  rw [nI_clamp (by omega), if_neg]
  rw [l0, lt_nn (by omega) (by decide)]
  omega
theorem ic_s {k i : Nat} (x : Int32) (h : HP) (hi : i < 10) : xJ1_indexOfChar_4cfef_7 N (k + 1) 10 x (nI i) h = if strB.getD i 0 ≠ x then xJ1_indexOfChar_4cfef_7 N k 10 x (nI (i + 1)) h else some (nI i, h) := by
  rw [xJ1_indexOfChar_4cfef_7]
  dsimp only
  rw [if_neg (by rw [l10, le_nn (by decide) (by omega)]; omega), sld_n hi, lt_e, nI_1]
theorem ite_o {c : Prop} [Decidable c] (a b : Int32) (h : HP) : (if c then some (a, h) else some (b, h)) = some ((if c then a else b), h) := by split <;> rfl
theorem ic_e {k : Nat} (x : Int32) (h : HP) : xJ1_indexOfChar_4cfef_7 N (k + 11) 10 x 0 h = some (ixI x, h) := by
  have e10 : xJ1_indexOfChar_4cfef_7 N (k + 1) 10 x (nI 10) h = some (-1, h) := by
    rw [xJ1_indexOfChar_4cfef_7]
    dsimp only
    rw [if_pos (by decide)]
  rw [show xJ1_indexOfChar_4cfef_7 N (k + 11) 10 x 0 h = xJ1_indexOfChar_4cfef_7 N (k + 10 + 1) 10 x (nI 0) h from rfl, ic_s x h (by decide), show k + 10 = k + 9 + 1 from rfl, ic_s x h (by decide), show k + 9 = k + 8 + 1 from rfl, ic_s x h (by decide), show k + 8 = k + 7 + 1 from rfl, ic_s x h (by decide), show k + 7 = k + 6 + 1 from rfl, ic_s x h (by decide), show k + 6 = k + 5 + 1 from rfl, ic_s x h (by decide), show k + 5 = k + 4 + 1 from rfl, ic_s x h (by decide), show k + 4 = k + 3 + 1 from rfl, ic_s x h (by decide), show k + 3 = k + 2 + 1 from rfl, ic_s x h (by decide), show k + 2 = k + 1 + 1 from rfl, ic_s x h (by decide), show (9 + 1 : Nat) = 10 from rfl, e10, ite_o, ite_o, ite_o, ite_o, ite_o, ite_o, ite_o, ite_o, ite_o, ite_o]
  rfl
theorem i2c_n : ∀ t, t < 256 → i2c (nI t) = nI t := by decide +kernel
theorem ix_n : ∀ t, t < 256 → (ixI (nI t).toInt8.toInt32 < 0 ↔ ¬ lix t < 10) := by decide +kernel
theorem isLetX {t : Nat} (hN : 100 ≤ N) (ht : t < 256) (h : HP) : xX2_isLetter N (nI t) h = some (b2 (decide (lix t < 10)), h) := by
  obtain ⟨k, rfl⟩ : ∃ k, N = k + 11 := ⟨N - 11, by omega⟩
  unfold xX2_isLetter xX2_isLetter_18 xX2_isLetter_19
  by_cases z : t = 0
  · subst z
    rw [if_pos (by decide), zok_0]; rfl
  · rw [if_neg (by rw [l0, le_nn (by omega) (by decide)]; omega), i2c_n t ht]
    unfold xJ0_indexOf_0f7a4 xJ0_indexOf_7cf53 xJ0_indexOf_7cf53_36 xJ0_isLatin1_aae02 xJ0_isLatin1_aae02_17 xJ0_isLatin1_aae02_18 xJ0_length_8abf5 xJ0_coder_7d493 xJ0_coder_7d493_14 xJ1_indexOf_4cfef xJ1_canEncode_9a6ad xJ1_canEncode_9a6ad_15 xJ1_canEncode_9a6ad_16 xJ1_indexOfChar_4cfef
    rw [if_neg (show ¬ (1 : Int32) = 0 from by decide), if_neg (show ¬ (0 : Int32) ≠ 0 from by decide), zok_1, cl_s, if_neg (show ¬ (1 : Int32) = 0 from by decide), if_neg (show ¬ (1 : Int32) = 0 from by decide), zok_0, cl_s, cl_s, show (10 : Int32) >>> (0 &&& 31) = 10 from by decide, if_neg (show ¬ nI t < 0 from by rw [l0, lt_nn (by omega) (by decide)]; omega), if_neg (show ¬ (255 : Int32) < nI t from by rw [l255, lt_nn (by decide) (by omega)]; omega), zok_1, cl_s, if_pos (show (1 : Int32) ≠ 0 from by decide), lt_e, lt_e, show imx 0 0 = 0 from by decide, show imn 10 10 = 10 from by decide, if_pos (show (0 : Int32) < 10 from by decide), lt_e, ic_e, cl_s, cl_s, cl_s, cl_s]
    have := ix_n t ht
    by_cases y : lix t < 10
    · rw [if_neg (fun k => this.mp k y), zok_1, decide_eq_true y]; rfl
    · rw [if_pos (this.mpr y), zok_0, decide_eq_false y]; rfl
theorem isLet_m (h : HP) : xX2_isLetter N (-1) h = some (0, h) := by
  unfold xX2_isLetter xX2_isLetter_18 xX2_isLetter_19
  rw [if_pos (by decide), zok_0]
theorem rn10 : ∀ n a h, xX11_readsNumber_10 N n a h = xX11_readsAmount_27 N n 5 a h := by
  intro n
  induction n with
  | zero => intro a h; rfl
  | succ n ih =>
    intro a h
    rw [xX11_readsNumber_10, xX11_readsAmount_27]
    dsimp only
    rw [show xX11_readsNumber_10 N n = xX11_readsAmount_27 N n 5 from funext fun a => funext fun h => ih a h]
theorem num5_e {T : Nat → Nat} {n p d : Nat} {h : HP} (tp : TP T n) (hp : p ≤ n) (t : TcM T n p h) (d9 : d ≤ 9) (e : pk T n p = nI (48 + d)) : xX11_readsNumber N h = xX11_readsAmount N (nI 5) h := by
  unfold xX11_readsNumber xX11_readsAmount
  rw [lt_e, lt_e, lt_e, isDigit_t tp hp t d9 e, cl_s, if_pos (show (1 : Int32) ≠ 0 from by decide), lt_e, rn10]
  rfl
end LET
