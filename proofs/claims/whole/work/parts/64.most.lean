section MQ4
variable {A : AS} {hx hm : HP} {N : Nat}
theorem sL.ke {h h' : HP} (q : sL h h') : keM h h' := ⟨fun j hj => q.2 j (fun z => hj (by unfold scM; omega)) (fun z => hj (by unfold scM; omega)), fun k hk => q.1 k (by omega) (by omega) (by omega) (by omega)⟩
theorem flow_q (hN : 5000 ≤ N) (w : WF A) (rx : RX A hx) (rm : RM A hm) {c d : Nat} (one : Bool) (hc : c < 16) (hd : d < 16) (hcd : c ≠ d) : ∃ F S hx' hm', xX1_push N (nI c) (nI d) (nI (A 0 2)) (b2 one) hx = some (nI F, hx') ∧ xX11_laysFlow N (nI c) (nI d) (b2 one) hm = some (nI F, hm') ∧ keX hx hx' ∧ keM hm hm' ∧ hx'.1 49 3 = nI S ∧ hm'.1 0 45 = nI S := by
  have wo := op_lt w
  have wn := w.1.2.1
  obtain ⟨F, r, S, h', e1, k1, f1, s1, c1, d1⟩ := pushX_e (N := N) (op := A 0 2) (one := one) hN w.2.1 wn (by omega) hc hd hcd rx.1
  obtain ⟨F2, r2, S2, h2, e2, k2, f2, s2, c2, d2⟩ := lays3 (N := N) (op := A 0 2) (one := one) hN w.2.1 wn hc hd hcd N 0 hm (by omega) (by omega) rm.1 rm.2.1.2.1 (fun q hq => by omega)
  obtain ⟨u1, u2⟩ := flw_uniq (cap := cpF A (A 0 2) one) (fun a b => capN_sym (A := A) (op := A 0 2) (one := one) (a := a) (b := b) (A 0 1)) hc hcd f1 f2 s1 s2 d1 d2
  subst u1; subst u2
  unfold xX11_laysFlow
  exact ⟨F, S, h', h2, e1, e2, ⟨fun k q1 q2 => k1 k (by omega) (by omega) (by omega), by rw [k1 1 (by decide) (by decide) (by decide)], fun k q1 q2 q3 => k1 k (by omega) (by omega) (by omega)⟩, k2.ke, c1, c2⟩
theorem q_cut (hN : 5000 ≤ N) (w : WF A) (rx : RX A hx) (rm : RM A hm) (a b : Int32) : QQ (xX10_cut N a b hx) (xX11_cut N a b hm) hx hm := by
  unfold xX10_cut xX11_cut
  rw [areTwoX w.1.1 rx.1.1, areTwoM w.1.1 rm.1.1, cl_s, cl_s]
  cases ht : (tld A a && (tld A b && decide (a ≠ b)))
  · exact QQ.rf (-1) (by rw [b2_f, if_pos rfl]; rfl) (by rw [b2_f, if_pos rfl]; rfl)
  · rw [Bool.and_eq_true, Bool.and_eq_true, decide_eq_true_iff] at ht
    obtain ⟨c, hc, rfl, -⟩ := tld_of ht.1
    obtain ⟨d, hd, rfl, -⟩ := tld_of ht.2.1
    have hcd : c ≠ d := fun z => ht.2.2 (by rw [z])
    obtain ⟨F, S, h1, h2, e1, e2, k1, k2, -⟩ := flow_q hN w rx rm true hc hd hcd
    rw [b2_t] at e1 e2 ⊢
    rw [if_neg (show ¬ (1 : Int32) = 0 from by decide), if_neg (show ¬ (1 : Int32) = 0 from by decide), rx.2.1.1, e1, e2, cl_s, cl_s]
    exact ⟨_, h1, h2, rfl, rfl, k1, k2⟩
theorem q_most (hN : 5000 ≤ N) (w : WF A) (rx : RX A hx) (rm : RM A hm) (a b v : Int32) : QQ (xX10_most N a b v hx) (xX11_most N a b v hm) hx hm := by
  unfold xX10_most xX11_most
  rw [areTwoX w.1.1 rx.1.1, areTwoM w.1.1 rm.1.1, cl_s, cl_s]
  cases ht : (tld A a && (tld A b && decide (a ≠ b)))
  · exact QQ.rf (-1) (by rw [b2_f, if_pos rfl]; rfl) (by rw [b2_f, if_pos rfl]; rfl)
  · rw [Bool.and_eq_true, Bool.and_eq_true, decide_eq_true_iff] at ht
    obtain ⟨c, hc, rfl, -⟩ := tld_of ht.1
    obtain ⟨d, hd, rfl, -⟩ := tld_of ht.2.1
    have hcd : c ≠ d := fun z => ht.2.2 (by rw [z])
    rw [b2_t, if_neg (show ¬ (1 : Int32) = 0 from by decide), if_neg (show ¬ (1 : Int32) = 0 from by decide), inM_e, cl_s]
    by_cases h1 : v < 0
    · exact QQ.rf (-1) (by rw [if_pos h1]; rfl) (by rw [if_neg (by simp [h1, b2])]; rfl)
    · rw [if_neg h1]
      by_cases h2 : v ≤ 1
      · have h3 : ¬ (1 : Int32) < v := fun z => by rw [i_lt] at z; rw [i_le] at h2; omega
        obtain ⟨F, S, g1, g2, e1, e2, k1, k2, s1, s2⟩ := flow_q hN w rx rm false hc hd hcd
        rw [b2_f] at e1 e2
        rw [if_pos h2, if_pos (by simp [h1, h3, b2]), rx.2.1.1, e1, e2, cl_s, cl_s, s1, s2]
        by_cases hv : v = 0
        · rw [if_neg (fun z => z hv), if_neg (fun z => z hv)]
          exact ⟨_, g1, g2, rfl, rfl, k1, k2⟩
        · rw [if_pos hv, if_pos hv]
          exact ⟨_, g1, g2, rfl, rfl, k1, k2⟩
      · have h3 : (1 : Int32) < v := by rw [i_lt]; rw [i_le] at h2; omega
        exact QQ.rf (-1) (by rw [if_neg h2]; rfl) (by rw [if_neg (by simp [h1, h3, b2])]; rfl)
end MQ4
