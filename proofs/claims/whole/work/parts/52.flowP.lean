section FP
variable {cap r : Nat → Nat → Nat} {N : Nat}
theorem LR.push {u v e : Nat} {h : HP} (hu : u < 16) (hv : v < 16) (huv : u ≠ v) (he : e ≤ r u v) (hl : LR r h) (hb : ∀ a b, a < 16 → b < 16 → psh r u v e a b ≤ 5000) : LR (psh r u v e) (up (up h 50 (u * 16 + v) (nI (r u v - e))) 50 (v * 16 + u) (nI (r v u + e))) := by
  intro a b ha hb2
  refine ⟨?_, hb a b ha hb2⟩
  unfold psh
  rw [up_at, up_at]
  by_cases q1 : a = u ∧ b = v
  · obtain ⟨rfl, rfl⟩ := q1
    rw [if_neg (by omega), if_pos ⟨rfl, rfl⟩, if_pos ⟨rfl, rfl⟩]
  · by_cases q2 : a = v ∧ b = u
    · obtain ⟨rfl, rfl⟩ := q2
      rw [if_pos ⟨rfl, rfl⟩, if_neg q1, if_pos ⟨rfl, rfl⟩]
    · rw [if_neg (by omega), if_neg (by omega), if_neg q1, if_neg q2]
      exact (hl a b ha hb2).1
theorem fln.bd {nt : Nat → Int} (hcap : ∀ a b, cap a b ≤ 2376) (h : fln cap r nt) {a b : Nat} (ha : a < 16) (hb : b < 16) : r a b ≤ 5000 := by
  have := h.1 a b ha hb
  have := hcap a b
  omega
theorem push67 {c S d K e : Nat} {cf lv : Nat → Nat} {nt : Nat → Int} (hcap : ∀ a b, cap a b ≤ 2376) (h : trE r c S cf lv) (hc : c < 16) (hd : S.testBit d = true) (hK : ∀ j, j < K → itr cf d j ≠ c) (hKc : itr cf d K = c) (hK15 : K < 16) {hh : HP} (hcf : ∀ x, S.testBit x = true → x ≠ c → hh.1 51 x = nI (cf x)) (he : ∀ i, i < K → e ≤ r (itr cf d (i + 1)) (itr cf d i)) : ∀ n j rj hj, j ≤ K → K - j < n → LR rj hj → hj.1 51 = hh.1 51 → fln cap rj (fun a => nt a + (if a = itr cf d j then (e : Int) else 0) - (if a = d then (e : Int) else 0)) → (∀ m, j ≤ m → m < K → rj (itr cf d (m + 1)) (itr cf d m) = r (itr cf d (m + 1)) (itr cf d m)) → ∃ r' h', xX1_pushBy_67 N n (nI c) (nI e) (nI (itr cf d j)) (nI j) hj = some (nI e, h') ∧ (∀ k, k ≠ 50 → h'.1 k = hj.1 k) ∧ LR r' h' ∧ fln cap r' (fun a => nt a + (if a = c then (e : Int) else 0) - (if a = d then (e : Int) else 0)) := by
  intro n
  induction n with
  | zero => intro j rj hj _ q; omega
  | succ n ih =>
    intro j rj hj hjK hq hl h51 hf hm
    obtain ⟨p1, p2⟩ := path_in h hd hK j hjK
    obtain ⟨x16, -, g⟩ := h _ p1
    rw [xX1_pushBy_67]
    dsimp only
    unfold xX1_pushBy_139
    rw [if_neg (by rw [l16, le_nn (by decide) (by omega)]; omega)]
    by_cases q : j = K
    · subst q
      rw [hKc] at hf ⊢
      rw [if_pos rfl]
      exact ⟨rj, hj, rfl, fun _ _ => rfl, hl, hf⟩
    · have hne := hK j (by omega)
      obtain ⟨g1, g2, g3⟩ := g hne
      obtain ⟨u16, -, -⟩ := h _ g1
      have e51 : hj.1 51 (itr cf d j) = nI (cf (itr cf d j)) := by rw [h51]; exact hcf _ p1 hne
      have huv : cf (itr cf d j) ≠ itr cf d j := fun z => by rw [z] at g3; omega
      have hr0 := hm j (Nat.le_refl _) (by omega)
      have hej := he j (by omega)
      have her : e ≤ rj (cf (itr cf d j)) (itr cf d j) := by rw [show rj (cf (itr cf d j)) (itr cf d j) = _ from hr0]; exact hej
      obtain ⟨c1, -⟩ := hl _ _ u16 x16
      obtain ⟨c2, -⟩ := hl _ _ x16 u16
      have f2 := fln.push u16 x16 huv her hf
      rw [if_neg (by rw [eq_nn (by omega) (by omega)]; exact hne), ald_n x16 (by decide), e51, l16, mul_nn, add_nn, ald_n (by omega) (by decide), c1, sub_nn her, ast_n (by omega) (by decide), ald_n x16 (by decide), up_n (show 51 ≠ 50 by decide), e51, mul_nn, add_nn, ald_n (by omega) (by decide), up_at, if_neg (by omega), c2, add_nn, ast_n (by omega) (by decide), ald_n x16 (by decide), up_n (show 51 ≠ 50 by decide), up_n (show 51 ≠ 50 by decide), e51, lt_e, nI_1]
      have l2 := LR.push (h := hj) u16 x16 huv her hl (fun a b ha hb => fln.bd hcap f2 ha hb)
      obtain ⟨r', h', k1, k2, k3, k4⟩ := ih (j + 1) (psh rj (cf (itr cf d j)) (itr cf d j) e) _ (by omega) (by omega) l2 (by rw [up_n (by decide), up_n (by decide)]; exact h51) (by
        refine ⟨f2.1, fun a ha => ?_⟩
        rw [f2.2 a ha]
        show (nt a + (if a = itr cf d j then (e : Int) else 0) - (if a = d then (e : Int) else 0)) + (if a = cf (itr cf d j) then (e : Int) else if a = itr cf d j then -(e : Int) else 0) = nt a + (if a = cf (itr cf d j) then (e : Int) else 0) - (if a = d then (e : Int) else 0)
        by_cases z1 : a = cf (itr cf d j)
        · have z2 : ¬ a = itr cf d j := fun y => huv (by rw [← z1, y])
          simp only [z2, if_pos z1, if_false]; omega
        · by_cases z2 : a = itr cf d j
          · simp only [if_neg z1, if_pos z2]; omega
          · simp only [if_neg z1, if_neg z2]; omega) (fun m hm1 hm2 => by
        rw [← hm m (by omega) hm2]
        have a1 := (path_in h hd hK m (by omega)).2 j (by omega)
        have a2 := (path_in h hd hK (m + 1) (by omega)).2 j (by omega)
        unfold psh
        rw [if_neg (fun z => by rw [z.2] at a1; omega), if_neg (fun z => by rw [z.1] at a2; omega)])
      exact ⟨r', h', k1, fun k hk => by rw [k2 k hk, up_n hk, up_n hk], k3, k4⟩
theorem pushBy_e {c S d F : Nat} {cf lv : Nat → Nat} (hN : 100 ≤ N) (hcap : ∀ a b, cap a b ≤ 2376) (h : trE r c S cf lv) (hc : c < 16) (hcd : c ≠ d) (hd : S.testBit d = true) {hh : HP} (hcf : ∀ x, S.testBit x = true → x ≠ c → hh.1 51 x = nI (cf x)) (hl : LR r hh) (hf : flw cap c d r F) : ∃ e r' h', xX1_pushBy N (nI c) (nI d) hh = some (nI e, h') ∧ 1 ≤ e ∧ e ≤ 2376 ∧ (∀ k, k ≠ 50 → h'.1 k = hh.1 k) ∧ LR r' h' ∧ flw cap c d r' (F + e) := by
  obtain ⟨K, k1, k2, k3⟩ := path_ex h hd
  have lvd := (h d hd).2.1
  obtain ⟨e, e1, e2, e3, e4⟩ := push10 (N := N) h hc hd k3 k1 (by omega) hl hcf (nI d) N 0 2376 (by omega) (by omega) (by omega) (by omega) (fun i hi => by omega)
  unfold xX1_pushBy
  rw [show xX1_pushBy_10 N N (nI c) (nI d) 2376 (nI d) 0 hh = _ from e1]
  unfold xX1_pushBy_61
  obtain ⟨r', h', f1, f2, f3, f4⟩ := push67 (N := N) (e := e) (nt := fun a => if a = c then (F : Int) else if a = d then -(F : Int) else 0) hcap h hc hd k3 k1 (by omega) hcf e4 N 0 r hh (by omega) (by omega) hl rfl (by
    refine ⟨hf.1, fun a ha => ?_⟩
    rw [hf.2 a ha]
    show _ = _ + (if a = d then (e : Int) else 0) - _
    omega) (fun _ _ _ => rfl)
  rw [show xX1_pushBy_67 N N (nI c) (nI e) (nI d) 0 hh = _ from f1]
  refine ⟨e, r', h', rfl, e2, e3, f2, f3, f4.1, fun a ha => ?_⟩
  rw [f4.2 a ha]
  dsimp only
  by_cases z1 : a = c
  · have z2 : ¬ a = d := fun z => hcd (by rw [← z1, z])
    simp only [if_pos z1, if_neg z2]; omega
  · by_cases z2 : a = d
    · simp only [if_neg z1, if_pos z2]; omega
    · simp only [if_neg z1, if_neg z2]; omega
end FP
