/-! ===== all calls over one relation ===== -/
def RR (hx hm : HP) : Prop := ∃ A : AS, WF A ∧ RX A hx ∧ RM A hm ∧ LW hx hm
/-- both answer, and alike -/
def BB (dx dm : Option (Int32 × HP)) : Prop := ∃ (r : Int32) (hx' hm' : HP), dx = some (r, hx') ∧ dm = some (r, hm') ∧ RR hx' hm'
theorem CC.bb {dx dm : Option (Int32 × HP)} {hx hm : HP} (q : CC dx dm hx hm) (lw : LW hx hm) : BB dx dm := by
  obtain ⟨r, hx', hm', A', e1, e2, w, x, m, lx, lm⟩ := q
  exact ⟨r, hx', hm', e1, e2, A', w, x, m, lw.tr lx lm⟩
section ALLC
variable {N : Nat} {hx hm : HP}
theorem bb_q {dx dm : Option (Int32 × HP)} (q : RR hx hm) (f : ∀ A, WF A → RX A hx → RM A hm → LW hx hm → QQ dx dm hx hm) : BB dx dm := by
  obtain ⟨A, w, x, m, lw⟩ := q
  exact ((f A w x m lw).cc w x m).bb lw
theorem bb_c {dx dm : Option (Int32 × HP)} (q : RR hx hm) (f : ∀ A, WF A → RX A hx → RM A hm → LW hx hm → CC dx dm hx hm) : BB dx dm := by
  obtain ⟨A, w, x, m, lw⟩ := q
  exact (f A w x m lw).bb lw
theorem LW.five (lw : LW hx hm) : hx.1 13 7 = hm.1 0 19 := by
  obtain ⟨m, len, CX, CM, a1, a2, a3, a4⟩ := lw
  rw [a2, a3]
theorem bb_cornerIs (hN : 100000 ≤ N) (q : RR hx hm) (a b : Int32) : BB (xX10_cornerIs N a b hx) (xX11_cornerIs N a b hm) := bb_q q fun _ w x m lw => q_cornerIs (by omega) w x m a b
theorem bb_pipeIs (q : RR hx hm) (a b : Int32) : BB (xX10_pipeIs a b hx) (xX11_pipeIs a b hm) := bb_q q fun _ w x m lw => q_pipeIs w x m a b
theorem bb_seed (q : RR hx hm) (a : Int32) : BB (xX10_seed a hx) (xX11_seed a hm) := bb_c q fun _ w x m lw => c_seed w x m a
theorem bb_keep (hN : 100000 ≤ N) (q : RR hx hm) : BB (xX10_keep hx) (xX11_keep N hm) := bb_c q fun _ w x m lw => c_keep (by omega) w x m
theorem bb_undo (hN : 100000 ≤ N) (q : RR hx hm) : BB (xX10_undo N hx) (xX11_undo N hm) := bb_c q fun _ w x m lw => c_undo (by omega) w x m
theorem bb_check (hN : 100000 ≤ N) (q : RR hx hm) (a : Int32) : BB (xX10_check N a hx) (xX11_check N a hm) := bb_c q fun _ w x m lw => c_check (by omega) w x m a
theorem bb_readings (hN : 100000 ≤ N) (q : RR hx hm) (a : Int32) : BB (xX10_readings N a hx) (xX11_readings N a hm) := bb_c q fun _ w x m lw => c_readings (by omega) w x m a
theorem bb_feed (hN : 100000 ≤ N) (q : RR hx hm) (a b c d e : Int32) : BB (xX10_feed N a b c d e hx) (xX11_feed N a b c d e hm) := bb_c q fun _ w x m lw => c_feed (by omega) w x m a b c d e
theorem bb_highest (hN : 100000 ≤ N) (q : RR hx hm) (a : Int32) : BB (xX10_highest N a hx) (xX11_highest N a hm) := bb_q q fun _ w x m lw => q_highest (by omega) w x m a
theorem bb_hose (hN : 100000 ≤ N) (q : RR hx hm) (a b c : Int32) : BB (xX10_hose N a b c hx) (xX11_hose N a b c hm) := bb_c q fun _ w x m lw => c_hose (by omega) w x m a b c
theorem bb_count (hN : 100000 ≤ N) (q : RR hx hm) (a : Int32) : BB (xX10_count N a hx) (xX11_count N a hm) := bb_q q fun _ w x m lw => q_count (by omega) w x m lw.five a
theorem bb_bridges (hN : 100000 ≤ N) (q : RR hx hm) (a : Int32) : BB (xX10_bridges N a hx) (xX11_bridges N a hm) := bb_q q fun _ w x m lw => q_bridges (by omega) w x m a
theorem bb_widest (hN : 100000 ≤ N) (q : RR hx hm) (a b : Int32) : BB (xX10_widest N a b hx) (xX11_widest N a b hm) := bb_q q fun _ w x m lw => q_widest (by omega) w x m a b
theorem bb_steps (hN : 100000 ≤ N) (q : RR hx hm) (a b : Int32) : BB (xX10_steps N a b hx) (xX11_steps N a b hm) := bb_q q fun _ w x m lw => q_steps (by omega) w x m a b
theorem bb_ring (hN : 100000 ≤ N) (q : RR hx hm) (a : Int32) : BB (xX10_ring N a hx) (xX11_ring N a hm) := bb_q q fun _ w x m lw => q_ring (by omega) w x m a
theorem bb_farthest (hN : 100000 ≤ N) (q : RR hx hm) (a : Int32) : BB (xX10_farthest N a hx) (xX11_farthest N a hm) := bb_q q fun _ w x m lw => q_farthest (by omega) w x m a
theorem bb_keptOpen (hN : 100000 ≤ N) (q : RR hx hm) : BB (xX10_keptOpen N hx) (xX11_keptOpen N hm) := bb_q q fun _ w x m lw => q_keptOpen (by omega) w x m
theorem bb_byEighths (hN : 100000 ≤ N) (q : RR hx hm) (a b c : Int32) : BB (xX10_byEighths N a b c hx) (xX11_byEighths N a b c hm) := bb_c q fun _ w x m lw => c_byEighths (by omega) w x m a b c
theorem bb_brigades (hN : 100000 ≤ N) (q : RR hx hm) (a b : Int32) : BB (xX10_brigades N a b hx) (xX11_brigades N a b hm) := bb_q q fun _ w x m lw => q_brigades (by omega) w x m a b
theorem bb_longest (hN : 100000 ≤ N) (q : RR hx hm) (a b : Int32) : BB (xX10_longest N a b hx) (xX11_longest N a b hm) := bb_q q fun _ w x m lw => q_longest (by omega) w x m a b
theorem bb_painted (hN : 100000 ≤ N) (q : RR hx hm) (a : Int32) : BB (xX10_painted N a hx) (xX11_painted N a hm) := bb_q q fun _ w x m lw => q_painted (by omega) w x m a
theorem bb_cut (hN : 100000 ≤ N) (q : RR hx hm) (a b : Int32) : BB (xX10_cut N a b hx) (xX11_cut N a b hm) := bb_q q fun _ w x m lw => q_cut (by omega) w x m a b
theorem bb_most (hN : 100000 ≤ N) (q : RR hx hm) (a b c : Int32) : BB (xX10_most N a b c hx) (xX11_most N a b c hm) := bb_q q fun _ w x m lw => q_most (by omega) w x m a b c
theorem bb_town (hN : 100000 ≤ N) (q : RR hx hm) (a : Int32) : BB (xX10_town N a hx) (xX11_town N a hm) := bb_c q fun _ w x m lw => c_town (by omega) w x m a
theorem bb_orders (hN : 100000 ≤ N) (q : RR hx hm) (a : Int32) : BB (xX10_orders N a hx) (xX11_orders N a hm) := bb_c q fun _ w x m lw => c_orders (by omega) w x m a
theorem bb_minutes (hN : 100000 ≤ N) (q : RR hx hm) (a : Int32) : BB (xX10_minutes N a hx) (xX11_minutes N a hm) := bb_c q fun _ w x m lw => c_minutes (by omega) w x m lw a
theorem bb_tried (hN : 100000 ≤ N) (q : RR hx hm) (a b : Int32) : BB (xX10_tried N a b hx) (xX11_tried N a b hm) := bb_c q fun _ w x m lw => c_tried (by omega) w x m lw a b
theorem bb_dry (hN : 100000 ≤ N) (q : RR hx hm) (a b : Int32) : BB (xX10_dry N a b hx) (xX11_dry N a b hm) := bb_c q fun _ w x m lw => c_dry (by omega) w x m lw a b
theorem bb_law (hN : 100000 ≤ N) (q : RR hx hm) (a : Int32) : BB (xX10_law N a hx) (xX11_law N a hm) := by
  obtain ⟨A, w, x, m, lw⟩ := q
  obtain ⟨v, hx', hm', A', e1, e2, w', x', m', lw'⟩ := c_law (N := N) (by omega) w x m lw a
  exact ⟨v, hx', hm', e1, e2, A', w', x', m', lw'⟩
end ALLC
/-! ===== the first heaps ===== -/
def hX0 : HP := (fun k j => if (k = 31 ∨ k = 35 ∨ k = 39) ∧ j = 4 then 9999 else if (k = 31 ∨ k = 35 ∨ k = 39) ∧ j = 6 then 1 else if k = 43 ∧ j = 3 then nI 31 else 0, fun _ => 0)
def hM0 : HP := (fun k j => if k = 1 ∧ j = 72 then 9999 else if k = 1 ∧ j = 74 then 1 else 0, fun _ => 0)
def A0 : AS := fun k j => if k = 0 ∧ j = 3 then 9999 else if k = 0 ∧ j = 5 then 1 else 0
/-- any heaps that say the same of the state's cells -/
theorem RR0 : RR hX0 hM0 := by
  refine ⟨A0, ⟨⟨by decide, by decide, by decide, by decide, by decide, by decide, fun c _ => ⟨Nat.zero_le _, Nat.zero_le _, Nat.zero_le _⟩, fun c _ _ => ⟨rfl, rfl, rfl⟩⟩, ⟨fun c _ => Nat.zero_le _, fun p hp => absurd hp (Nat.not_lt_zero p)⟩, ⟨Nat.zero_le _, fun i hi => absurd hi (Nat.not_lt_zero i)⟩, Or.inl rfl⟩, ?_, ?_, ?_⟩
  · refine ⟨⟨rfl, rfl, fun c _ => rfl, fun p hp => absurd hp (Nat.not_lt_zero p)⟩, ⟨rfl, rfl, rfl, rfl, rfl, rfl, fun c _ => ⟨rfl, rfl, rfl⟩⟩, ⟨rfl, fun i hi => absurd hi (Nat.not_lt_zero i)⟩, rfl, fun q => ?_⟩
    exact absurd q (by decide)
  · refine ⟨⟨rfl, rfl, fun c _ => rfl, fun p hp => absurd hp (Nat.not_lt_zero p)⟩, ⟨fun c hc => ⟨?_, ?_, ?_⟩, fun p hp => absurd hp (Nat.not_lt_zero p), rfl, rfl, rfl⟩, ⟨rfl, fun i hi => absurd hi (Nat.not_lt_zero i)⟩, rfl, fun q => ?_⟩
    · show (if 1 = 1 ∧ c = 72 then (9999 : Int32) else if 1 = 1 ∧ c = 74 then 1 else 0) = 0
      rw [if_neg (by omega), if_neg (by omega)]
    · show (if 1 = 1 ∧ 16 + c = 72 then (9999 : Int32) else if 1 = 1 ∧ 16 + c = 74 then 1 else 0) = 0
      rw [if_neg (by omega), if_neg (by omega)]
    · show (if 1 = 1 ∧ 32 + c = 72 then (9999 : Int32) else if 1 = 1 ∧ 32 + c = 74 then 1 else 0) = 0
      rw [if_neg (by omega), if_neg (by omega)]
    · exact absurd q (by decide)
  · exact ⟨0, 0, fun _ => (0, 0), fun _ => (0, 0), by decide, rfl, rfl, by decide, fun k k1 k2 => absurd k2 (by omega), fun k k1 k2 => absurd k2 (by omega), fun i hi => absurd hi (Nat.not_lt_zero i)⟩
