/-! ===== State.become, copies; keep, undo ===== -/
theorem cpyA_n {h : HP} {a b n k : Nat} (hk : k ≠ b) : (cpyA h a b n).1 k = h.1 k := upA_n hk
theorem cpyA_in {h : HP} {a b n j : Nat} (hj : j < n) : (cpyA h a b n).1 b j = h.1 a j := by
  unfold cpyA
  rw [upA_k, pk_cpy_in (Nat.zero_le j) (by omega)]
  simp
theorem become_e {k0 told np op sea mi x : Nat} {so tu we : Nat → Nat} {h : HP} (hk : k0 = 35 ∨ k0 = 39) (s : SX 31 told np op sea mi x so tu we h) : ∃ h', xX5_become k0 h = some (0, h') ∧ (∀ k, (k < k0 ∨ k0 + 4 ≤ k) → h'.1 k = h.1 k) ∧ SX k0 told np op sea mi x so tu we h' := by
  obtain ⟨s1, s2, s3, s4, s5, s6, s7⟩ := s
  refine ⟨_, rfl, fun k hq => ?_, ?_, ?_, ?_, ?_, ?_, ?_, fun c hc => ?_⟩
  · rw [up_n (by omega), up_n (by omega), up_n (by omega), up_n (by omega), up_n (by omega), up_n (by omega), cpyA_n (by omega), cpyA_n (by omega), cpyA_n (by omega)]
  · rcases hk with rfl | rfl <;> simp [up_at, cpyA_n, s1]
  · rcases hk with rfl | rfl <;> simp [up_at, cpyA_n, s2]
  · rcases hk with rfl | rfl <;> simp [up_at, cpyA_n, s3]
  · rcases hk with rfl | rfl <;> simp [up_at, cpyA_n, s4]
  · rcases hk with rfl | rfl <;> simp [up_at, cpyA_n, s5]
  · rcases hk with rfl | rfl <;> simp [up_at, cpyA_n, s6]
  · obtain ⟨q1, q2, q3⟩ := s7 c hc
    refine ⟨?_, ?_, ?_⟩
    · rw [up_n (by omega), up_n (by omega), up_n (by omega), up_n (by omega), up_n (by omega), up_n (by omega), cpyA_n (by omega), cpyA_n (by omega), cpyA_in hc]; exact q1
    · rw [up_n (by omega), up_n (by omega), up_n (by omega), up_n (by omega), up_n (by omega), up_n (by omega), cpyA_n (by omega), cpyA_in hc, cpyA_n (by omega)]; exact q2
    · rw [up_n (by omega), up_n (by omega), up_n (by omega), up_n (by omega), up_n (by omega), up_n (by omega), cpyA_in hc, cpyA_n (by omega), cpyA_n (by omega)]; exact q3
def cpM (h : HP) (ka kb i : Nat) : HP := upA h kb (fun j => if j < i then h.1 ka j else h.1 kb j)
theorem copies_l {N ka kb : Nat} {h : HP} (hne : ka ≠ kb) : ∀ n i, i ≤ 75 → 75 - i < n → xX11_copies_2 N ka kb n (nI i) (cpM h ka kb i) = some (0, cpM h ka kb 75) := by
  intro n
  induction n with
  | zero => intro i _ q; omega
  | succ n ih =>
    intro i hi hq
    rw [xX11_copies_2]
    dsimp only
    by_cases e : i = 75
    · subst e
      rw [if_pos (by decide)]
    · rw [if_neg (by rw [l75, le_nn (by decide) (by omega)]; omega), ald_n (by omega) (by decide), ast_n (by omega) (by decide), lt_e, nI_1]
      rw [← ih (i + 1) (by omega) (by omega)]
      congr 1
      unfold cpM
      rw [upA_n hne, up_upAk]
      refine upA_ext (fun j => ?_)
      rw [upd_at]
      by_cases hj : j = i
      · rw [if_pos hj, if_pos (by omega), hj]
      · by_cases hj2 : j < i
        · rw [if_neg hj, if_pos hj2, if_pos (by omega)]
        · rw [if_neg hj, if_neg hj2, if_neg (by omega)]
theorem copies_e {N ka kb : Nat} {h : HP} (hN : 100 ≤ N) (hne : ka ≠ kb) : xX11_copies N ka kb h = some (0, cpM h ka kb 75) := by
  unfold xX11_copies
  rw [← copies_l (N := N) hne N 0 (by omega) (by omega)]
  congr 1
  unfold cpM
  exact (upA_selfE (fun j => by simp)).symm
theorem cpM_k {h : HP} {ka kb j : Nat} (hj : j < 75) : (cpM h ka kb 75).1 kb j = h.1 ka j := by
  unfold cpM
  rw [upA_k, if_pos hj]
theorem cpM_n {h : HP} {ka kb k i : Nat} (hk : k ≠ kb) : (cpM h ka kb i).1 k = h.1 k := upA_n hk
theorem SM.eqv {f g : Nat → Int32} {np op sea mi x : Nat} {so tu we : Nat → Nat} (hn : np ≤ 24) (e : ∀ j, j < 75 → g j = f j) (s : SM f np op sea mi x so tu we) : SM g np op sea mi x so tu we := by
  obtain ⟨s1, s2, s3, s4, s5⟩ := s
  exact ⟨fun c hc => by rw [e c (by omega), e (16 + c) (by omega), e (32 + c) (by omega)]; exact s1 c hc, fun p hp => by rw [e (48 + p) (by omega)]; exact s2 p hp, by rw [e 72 (by omega)]; exact s3, by rw [e 73 (by omega)]; exact s4, by rw [e 74 (by omega)]; exact s5⟩
section KU
variable {A : AS} {hx hm : HP} {N : Nat}
theorem c_keep (hN : 100 ≤ N) (w : WF A) (rx : RX A hx) (rm : RM A hm) : CC (xX10_keep hx) (xX11_keep N hm) hx hm := by
  obtain ⟨h1, e1, k1, s1⟩ := become_e (Or.inl rfl) rx.2.1
  have w2 := w.1.2.1
  unfold xX10_keep xX11_keep
  rw [e1, cl_s, zok_1, zok_1]
  simp only [lt_e]
  rw [copies_e hN (by decide), cl_s, l73, ald_n (by decide) (by decide), up_n (by decide), cpM_n (by decide)]
  rw [up_n (by decide), up_n (by decide), up_n (by decide), rm.2.1.2.2.2.1]
  have e2 : h1.1 31 5 = nI (A 0 4) := by rw [k1 31 (by omega)]; exact rx.2.1.2.2.1
  rw [e2]
  refine ⟨_, _, _, kpA A, rfl, rfl, w.kp, ⟨?_, ?_, ?_, ?_⟩, ⟨?_, ?_, ?_, ?_⟩, fun k h3 h4 => ?_, ⟨?_, fun k h3 h4 => ?_⟩⟩
  · obtain ⟨a1, a2, a3, a4⟩ := rx.1
    exact ⟨by rw [up_n (by decide), k1 3 (by omega)]; exact a1, by rw [up_n (by decide), k1 3 (by omega)]; exact a2, fun c hc => by rw [up_n (by decide), k1 4 (by omega)]; exact a3 c hc, fun p hp => by rw [up_n (by decide), up_n (by decide), up_n (by decide), k1 5 (by omega), k1 6 (by omega), k1 7 (by omega)]; exact a4 p hp⟩
  · exact rx.2.1.keep (fun a q1 q2 => by rw [up_n (by omega), k1 a (by omega)])
  · exact ⟨by rw [up_n (by decide), k1 1 (by omega)]; exact rx.2.2.1.1, fun i hi => by rw [up_n (by decide), k1 2 (by omega)]; exact rx.2.2.1.2 i hi⟩
  · exact ⟨by rw [up_at]; rfl, fun _ => s1.keep (fun a q1 q2 => up_n (by omega))⟩
  · obtain ⟨a1, a2, a3, a4⟩ := rm.1
    refine ⟨?_, ?_, fun c hc => ?_, fun p hp => ?_⟩
    · rw [cpM_n (by decide), up_at, up_at, up_at]; exact a1
    · rw [cpM_n (by decide), up_at, up_at, up_at]; exact a2
    · rw [cpM_n (by decide), up_n (by decide), up_n (by decide), up_n (by decide)]; exact a3 c hc
    · rw [cpM_n (by decide), cpM_n (by decide), cpM_n (by decide), up_n (by decide), up_n (by decide), up_n (by decide), up_n (by decide), up_n (by decide), up_n (by decide), up_n (by decide), up_n (by decide), up_n (by decide)]; exact a4 p hp
  · rw [cpM_n (by decide), up_n (by decide), up_n (by decide), up_n (by decide)]; exact rm.2.1
  · exact ⟨by rw [cpM_n (by decide), up_at, up_at, up_at]; exact rm.2.2.1.1, fun i hi => by rw [cpM_n (by decide), up_n (by decide), up_n (by decide), up_n (by decide)]; exact rm.2.2.1.2 i hi⟩
  · refine ⟨by rw [cpM_n (by decide), up_at, up_at, up_at]; rfl, fun _ => ⟨?_, ?_, ?_⟩⟩
    · rw [cpM_n (by decide), up_at, up_at, up_at]; exact rm.1.1
    · rw [cpM_n (by decide), up_at, up_at, up_at]; exact rm.1.2.1
    · refine SM.eqv w2 (fun j hj => ?_) rm.2.1
      rw [cpM_k hj, up_n (by decide), up_n (by decide), up_n (by decide)]
  · rw [up_n (by omega), k1 k (by omega)]
  · rw [cpM_n (by decide), up_at, up_at, up_at]; rfl
  · rw [cpM_n (by omega), up_n (by omega), up_n (by omega), up_n (by omega)]
end KU
