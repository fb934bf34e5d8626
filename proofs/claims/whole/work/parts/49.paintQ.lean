section PQ
variable {A : AS} {hx hm : HP} {N : Nat}
theorem pr_cap {op C O s : Nat} {c : Nat} (w : WFt A) (hc : c < 16) (cp : isCp A (am op) c C) (hO : oddS A op C O) (hev : pc O 16 % 2 = 0) (hs : s = pc O 16) : ∃ k x, pr (oD A op O) k (2 ^ s - 1) x ∧ x ≤ 15 := by
  obtain ⟨k, x, p1, p2⟩ := token15 (U := O) w hc cp (fun v hv => ((hO.2 v).mp hv).2.1) hev
  refine ⟨k, x, pr.map (D := dn A (am op)) (o := fun i => oth O i 16) (s := s) (fun i j _ _ => rfl) (fun i j hi hj e => ?_) k O (2 ^ s - 1) x p1 (fun c hcO => ?_) (fun i => ?_), p2⟩
  · have a := (oth_s (O := O) (i := i) 16 (by omega)).2.1
    have b := (oth_s (O := O) (i := j) 16 (by omega)).2.1
    rw [show oth O i 16 = oth O j 16 from e, b] at a
    exact a.symm
  · have c16 := tb16 hO.1 hcO
    exact ⟨pc O c, by rw [hs]; exact pc_strict hcO c16, oth_d hcO c16⟩
  · rw [Nat.testBit_two_pow_sub_one, decide_eq_true_iff]
    exact ⟨fun z => ⟨z, (oth_s (O := O) (i := i) 16 (by omega)).1⟩, fun z => z.1⟩
theorem q_painted (hN : 100000 ≤ N) (w : WF A) (rx : RX A hx) (rm : RM A hm) (a : Int32) : QQ (xX10_painted N a hx) (xX11_painted N a hm) hx hm := by
  have wo := op_lt w
  have wn := w.1.2.1
  have w1 := w.1.1
  unfold xX10_painted xX11_painted
  rw [isToldX w1 rx.1.1, isToldM w1 rm.1.1, cl_s, cl_s]
  cases ht : tld A a
  · exact QQ.rf (-1) (by rw [b2_f, if_neg (by decide)]) (by rw [b2_f, if_neg (by decide)])
  · obtain ⟨c, hc, rfl, htb⟩ := tld_of ht
    rw [b2_t, if_pos (show (1 : Int32) ≠ 0 from by decide), if_pos (show (1 : Int32) ≠ 0 from by decide), rx.2.1.1]
    -- the class: looks, measures
    obtain ⟨h4, e4, k4, r4, -⟩ := look_e (N := N) (op := A 0 2) (by omega) w.2.1 wn (by omega) rx.1
    have t4 : TX A h4 := sB.TX (h0 := hx) (fun k q1 q2 _ => k4 k q1 q2) rx.1
    have op4 : h4.1 31 3 = nI (A 0 2) := by rw [k4 31 (by decide) (by decide)]; exact rx.2.1.1
    unfold xX9_paintAll
    obtain ⟨C, h5, e5, s5, cp, -⟩ := measureFrom_e (N := N) (op := A 0 2) (c := c) (by omega) w.2.1 hc r4
    rw [e4, cl_s, op4, e5, cl_s, lt_e]
    have hcl : ∀ p, p < A 0 1 → (A 0 2).testBit p = true → C.testBit (A 2 p) = C.testBit (A 3 p) := fun p hp hop => by
      obtain ⟨x1, x2, x3, -⟩ := w.2.1.2 p hp
      have a1 : ad A (am (A 0 2)) (A 2 p) (A 3 p) := ⟨p, hp, hop, by rw [ac_eq, if_pos rfl]⟩
      have a2 := ad_sym w.2.1 a1
      apply boolE
      constructor
      · intro z
        obtain ⟨g, hg⟩ := (cp.2 _).mp z
        exact (cp.2 _).mpr ⟨g + 1, Or.inr ⟨_, hg, a1⟩⟩
      · intro z
        obtain ⟨g, hg⟩ := (cp.2 _).mp z
        exact (cp.2 _).mpr ⟨g + 1, Or.inr ⟨_, hg, a2⟩⟩
    obtain ⟨O, oLt, oB, hev⟩ := hand (op := A 0 2) w.2.1 cp.1 hcl (A 0 1) (Nat.le_refl _)
    have hO : oddS A (A 0 2) C O := ⟨oLt, oB⟩
    have s16 := pc_le O 16
    have inC : ∀ i, i < pc O 16 → C.testBit (oth O i 16) = true ∧ oth O i 16 < 16 := fun i hi => by
      obtain ⟨o1, o2, o3⟩ := oth_s (O := O) (i := i) 16 hi
      exact ⟨((oB _).mp o1).2.1, o3⟩
    have dlt : ∀ i j, i < pc O 16 → j < pc O 16 → oD A (A 0 2) O i j < 16 := fun i j hi hj => by
      obtain ⟨i1, i2⟩ := inC i hi
      obtain ⟨j1, j2⟩ := inC j hj
      have cij : cn A (am (A 0 2)) (oth O i 16) (oth O j 16) := (cn.symm w.2.1 ((cp.2 _).mp i1)).tr ((cp.2 _).mp j1)
      rcases dn_cases (A := A) (act := am (A 0 2)) (c := oth O i 16) (d := oth O j 16) w.2.1 i2 with z | z
      · exact z.1
      · exact absurd cij z.2
    have t5 : TX A (up h5 52 5 0) := sB.TX (h0 := h4) (fun k q1 q2 q3 => s5 k q3) t4 |> fun t => by
      obtain ⟨t1, t2, t3, t4⟩ := t
      exact ⟨by rw [up_n (by decide)]; exact t1, by rw [up_n (by decide)]; exact t2, fun c hc => by rw [up_n (by decide)]; exact t3 c hc, fun p hp => by rw [up_n (by decide), up_n (by decide), up_n (by decide)]; exact t4 p hp⟩
    obtain ⟨h6, e6, k6, z6, o6⟩ := paintX_l (N := N) (A := A) (op := A 0 2) (C := C) (O := O) (by omega) w.2.1 wn (by omega) cp.1 hO N 0 (up h5 52 5 0) (by omega) (by omega) t5 (by rw [up_at, if_pos ⟨rfl, rfl⟩]; rfl) (fun e he => by omega)
    rw [show xX9_paintAll_20 N N (nI (A 0 2)) (nI C) 0 0 (up h5 52 5 0) = _ from e6, z6]
    -- the reference
    obtain ⟨h7, e7, k7, j7, r7⟩ := allSteps_e (N := N) (op := A 0 2) (by omega) w.2.1 w1 wn rm.1 rm.2.1.2.1
    have t7 : TM A h7 := by
      obtain ⟨t1, t2, t3, t4⟩ := rm.1
      exact ⟨by rw [j7 7 (by decide)]; exact t1, by rw [j7 8 (by decide)]; exact t2, fun c hc => by rw [k7 4 (by decide) (by decide) (by decide)]; exact t3 c hc, fun p hp => by rw [k7 5 (by decide) (by decide) (by decide), k7 6 (by decide) (by decide) (by decide), k7 7 (by decide) (by decide) (by decide)]; exact t4 p hp⟩
    have s7 : ∀ p, p < A 0 1 → h7.1 1 (48 + p) = nI (A 0 2 / 2 ^ p % 2) := fun p hp => by rw [k7 1 (by decide) (by decide) (by decide)]; exact rm.2.1.2.1 p hp
    obtain ⟨C2, e8, cp2⟩ := reached_e (N := N) (op := A 0 2) (wd := 1) (c := c) (by omega) w.2.1 wn t7 s7 (by decide) hc (-1)
    have ec : C2 = C := (isCp_act (am3_1 w.2.1 wn) cp2).uniq cp
    subst ec
    rw [e7, cl_s, show xX11_reached N (nI c) 1 (-1) h7 = _ from e8, cl_s, lt_e]
    obtain ⟨h9, e9, k9, j9, z9, o9⟩ := paintM_l (N := N) (A := A) (op := A 0 2) (C := C2) (O := O) (by omega) w.2.1 wn cp.1 hO N 0 (up h7 0 49 0) (by omega) (by omega) (by
      obtain ⟨t1, t2, t3, t4⟩ := t7
      exact ⟨by rw [up_at, if_neg (by omega)]; exact t1, by rw [up_at, if_neg (by omega)]; exact t2, fun c hc => by rw [up_n (by decide)]; exact t3 c hc, fun p hp => by rw [up_n (by decide), up_n (by decide), up_n (by decide)]; exact t4 p hp⟩) (fun p hp => by rw [up_n (by decide)]; exact s7 p hp) (by rw [up_at, if_pos ⟨rfl, rfl⟩]; rfl) (fun e he => by omega)
    rw [show xX11_painted_32 N N (nI C2) 0 0 (up h7 0 49 0) = _ from e9]
    have hD : ∀ a b, oD A (A 0 2) O a b = oD A (A 0 2) O b a := fun a b => dn_sym w.2.1 _ _
    have apm : apM (oD A (A 0 2) O) (pc O 16) h9 := by
      refine ⟨z9, fun i j hi hj => ?_⟩
      obtain ⟨i1, i2, i3⟩ := oth_s (O := O) (i := i) 16 hi
      obtain ⟨j1, j2, j3⟩ := oth_s (O := O) (i := j) 16 hj
      have d1 := dlt i j hi hj
      have c1 := o9 _ i3 i1
      have c2 := o9 _ j3 j1
      rw [i2] at c1
      rw [j2] at c2
      refine ⟨oth O i 16, oth O j 16, i3, j3, c1, c2, ?_, d1⟩
      rw [k9 29 (by decide) (by decide), up_n (by decide), r7 _ i3 (rc_told w.2.1 htb _ _ (Classical.choose_spec ((cp.2 _).mp (inC i hi).1))) _ j3]
      unfold fI
      rw [if_neg (by show ¬ dn A (am (A 0 2)) (oth O i 16) (oth O j 16) = 100; unfold oD at d1; omega)]
      rfl
    obtain ⟨v, h10, e10, k10, cv⟩ := painting_e (N := N) (s := pc O 16) (D := oD A (A 0 2) O) hN s16 hD apm
    rw [e10, cl_s]
    have km : keM hm h10 := by
      have m1 : keM hm h7 := keM.bfs k7 j7
      refine ⟨fun j hj => ?_, fun k hk => ?_⟩
      · have n49 : j ≠ 49 := fun z => hj (by rw [z]; unfold scM; omega)
        rw [k10 0 (by decide), j9 j n49, up_at, if_neg (fun z => n49 z.2)]
        exact m1.1 j hj
      · rw [k10 k (by omega), k9 k (by omega) (by omega), up_n (by omega)]
        exact m1.2 k hk
    have kx6 : ∀ k, k ≠ 45 → k ≠ 46 → k ≠ 47 → k ≠ 52 → k ≠ 53 → h6.1 k = hx.1 k := fun k a1 a2 a3 a4 a5 => by rw [k6 k a4 a5, up_n a4, s5 k a3, k4 k a1 a2]
    have keep : ∀ h', (∀ k, k ≠ 54 → k ≠ 47 → h'.1 k = h6.1 k) → keX hx h' := fun h' q =>
      ⟨fun k q1 q2 => by rw [q k (by omega) (by omega), kx6 k (by omega) (by omega) (by omega) (by omega) (by omega)], by rw [q 1 (by omega) (by omega), kx6 1 (by omega) (by omega) (by omega) (by omega) (by omega)], fun k q1 q2 q3 => by rw [q k (by omega) (by omega), kx6 k (by omega) (by omega) (by omega) (by omega) (by omega)]⟩
    by_cases s0 : pc O 16 = 0
    · have v0 : v = 0 := by
        rw [s0] at cv
        exact cv.uniq (cvB.zero _ _)
      rw [s0, if_neg (show ¬ nI 0 ≠ 0 from fun z => z rfl), cl_s, v0]
      exact ⟨_, h6, h10, rfl, rfl, keep h6 (fun _ _ _ => rfl), km⟩
    · rw [if_pos (by rw [ne_eq, l0, eq_nn (by omega) (by decide)]; exact s0)]
      unfold xX9_pairUp xX9_measureOdds
      have nr6 : NR A (A 0 2) h6 := fun d hd => by rw [k6 46 (by decide) (by decide), up_n (by decide), s5 46 (by decide)]; exact r4 d hd
      obtain ⟨h11, e11, k11, v11⟩ := odds_2 (N := N) (A := A) (op := A 0 2) (O := O) (by omega) w.2.1 s16 rfl dlt N 0 h6 (by omega) (by omega) nr6 z6 o6 (fun a k ha => by omega)
      have a11 : apR (oD A (A 0 2) O) (pc O 16) h11 := ⟨by rw [k11 52 (by decide) (by decide)]; exact z6, fun i j hi hj => ⟨v11 i j hi hj, dlt i j hi hj⟩⟩
      have p15 : 2 ^ (pc O 16 - 1) ≤ 2 ^ 15 := Nat.pow_le_pow_right (by decide) (by omega)
      obtain ⟨v2, h12, e12, k12, cv2⟩ := pairUp_l (N := N) (s := pc O 16) (D := oD A (A 0 2) O) (by omega) s16 (by omega) hev hD N 0 h11 (Nat.zero_le _) (by omega) a11 (fun j hj => by omega)
      rw [show xX9_measureOdds_2 N N 0 h6 = _ from e11, cl_s, a11.1, l1, sub_nn (by omega), ← l1, shl1 (by omega), lt_e, show xX9_pairUp_15 N N (nI (2 ^ (pc O 16 - 1))) 0 h11 = _ from e12, cl_s, cl_s]
      obtain ⟨k, x, p1, p2⟩ := pr_cap (A := A) (op := A 0 2) (s := pc O 16) w.2.1 hc cp hO hev rfl
      have ev : v2 = v := cvB.cap p1 p2 (by decide) cv2 cv
      rw [ev]
      exact ⟨_, h12, h10, rfl, rfl, keep h12 (fun k q1 q2 => by rw [k12, k11 k q1 q2]), km⟩
end PQ
