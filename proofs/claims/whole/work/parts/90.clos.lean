section CLO
variable {T : Nat → Nat} {n p ℓ o N : Nat} {W : List (Nat × Nat)} {hx hm : HP}
theorem opens_t {k : Nat} (hk : k ≤ 14) (t : TcM T n p hm) (h15 : hm.1 0 15 = nI o) (ho : o < 6) (w : WS W hm) (hl : W.length < 250) (ℓ : Nat) : ∃ h', xX11_opens (nI k) hm = some (1, h') ∧ h'.1 0 15 = nI (o + 1) ∧ WS ((k, 0) :: W) h' ∧ TcM T n (p + 1) h' ∧ h'.1 0 16 = hm.1 0 16 ∧ gL ℓ hm h' := by
  unfold xX11_opens
  rw [h15, if_pos (show nI o ≠ 6 from i_ne (b := 6) (by omega) (by decide) (by omega)), lt_e, nI_1, show (up hm 0 15 (nI (o + 1))).1 0 17 = nI W.length from by rw [up_at, if_neg (by decide)]; exact w.1, l1048576, mul_nn, ast_n (by omega) (by decide), lt_e, show (up (up hm 0 15 (nI (o + 1))) 10 W.length (nI (1048576 * k))).1 0 17 = nI W.length from by rw [up_n (by decide), up_at, if_neg (by decide)]; exact w.1, nI_1, lt_e, show (up (up (up hm 0 15 (nI (o + 1))) 10 W.length (nI (1048576 * k))) 0 17 (nI (W.length + 1))).1 0 11 = nI p from by rw [up_at, if_neg (by decide), up_n (by decide), up_at, if_neg (by decide)]; exact t.1, nI_1, zok_1]
  refine ⟨_, rfl, ?_, ?_, ⟨?_, ?_, fun i hi => ?_⟩, ?_, ⟨fun k q1 q2 q3 => ?_, fun j q => ?_, fun k q => ?_⟩⟩
  · rw [up_at, if_neg (by decide), up_at, if_neg (by decide), up_n (by decide), up_at, if_pos ⟨rfl, rfl⟩]
  · refine w.push (e := (k, 0)) ⟨hk, by show (0 : Nat) < 1000; decide⟩ hl ?_ ?_ (fun j hj => ?_)
    · rw [up_at, if_neg (by decide), up_at, if_pos ⟨rfl, rfl⟩]
    · rw [up_n (by decide), up_n (by decide), up_at, if_pos ⟨rfl, rfl⟩]; rfl
    · rw [up_n (by decide), up_n (by decide), up_at, if_neg (by omega), up_n (by decide)]
  · rw [up_at, if_pos ⟨rfl, rfl⟩]
  · rw [up_at, if_neg (by decide), up_at, if_neg (by decide), up_n (by decide), up_at, if_neg (by decide)]; exact t.2.1
  · rw [up_n (by decide), up_n (by decide), up_n (by decide), up_n (by decide)]; exact t.2.2 i hi
  · rw [up_at, if_neg (by decide), up_at, if_neg (by decide), up_n (by decide), up_at, if_neg (by decide)]
  · rw [up_n q1, up_n q1, up_n q3, up_n q1]
  · rw [up_at, if_neg (by omega), up_at, if_neg (by omega), up_n (by decide), up_at, if_neg (by omega)]
  · rw [up_n (by decide), up_n (by decide), up_n (by decide), up_n (by decide)]
theorem opens_f {k : Int32} (t : TcM T n p hm) (h15 : hm.1 0 15 = nI 6) : xX11_opens k hm = some (0, up hm 0 13 ((-1000) * 5 - nI p)) := by
  unfold xX11_opens
  rw [h15, if_neg (fun z => z rfl), wro_e, cl_s, zok_0, t.1]
/-- is a sum open above b -/
def wat (W : List (Nat × Nat)) (i : Nat) : Nat × Nat := match W with
  | [] => (0, 0)
  | e :: W => if i = W.length then e else wat W i
theorem stW_at {h : HP} : ∀ {W : List (Nat × Nat)} {i : Nat}, stW h W → i < W.length → h.1 10 i = nI (1048576 * (wat W i).1 + (wat W i).2) ∧ wat W i ∈ W := by
  intro W
  induction W with
  | nil => intro i _ hi; exact absurd hi (Nat.not_lt_zero _)
  | cons e W ih =>
    intro i s hi
    rw [List.length_cons] at hi
    unfold wat
    by_cases z : i = W.length
    · rw [if_pos z, z]; exact ⟨s.1, List.mem_cons_self⟩
    · rw [if_neg z]
      obtain ⟨a, b⟩ := ih (i := i) s.2 (by omega)
      exact ⟨a, List.mem_cons_of_mem _ b⟩
theorem hos_l {h : HP} (w : WS W h) : ∀ f i, i ≤ W.length → W.length - i < f → ((∀ j, i ≤ j → j < W.length → (wat W j).1 ≠ 14) → xX11_hasOpenSum_2 N f (nI i) h = some (0, h)) ∧ ((∃ j, i ≤ j ∧ j < W.length ∧ (wat W j).1 = 14) → xX11_hasOpenSum_2 N f (nI i) h = some (1, h)) := by
  have wl := w.2.2.2
  intro f
  induction f with
  | zero => intro i _ q; omega
  | succ f ih =>
    intro i hi hq
    rw [xX11_hasOpenSum_2]
    dsimp only
    rw [w.1]
    by_cases e : i = W.length
    · rw [if_pos (by rw [e, le_nn (by omega) (by omega)]; omega), zok_0]
      exact ⟨fun _ => rfl, fun ⟨j, h1, h2, _⟩ => by omega⟩
    · obtain ⟨a, b⟩ := stW_at w.2.1 (show i < W.length by omega)
      obtain ⟨o1, o2⟩ := w.2.2.1 _ b
      rw [if_neg (by rw [le_nn (by omega) (by omega)]; omega), ald_n (by omega) (by decide), a, l1048576, div_nn (by omega) (by decide) (by decide), show (1048576 * (wat W i).1 + (wat W i).2) / 1048576 = (wat W i).1 by omega]
      obtain ⟨g1, g2⟩ := ih (i + 1) (by omega) (by omega)
      by_cases z : (wat W i).1 = 14
      · rw [if_neg (fun k => k (by rw [z]; rfl)), zok_1]
        exact ⟨fun k => absurd z (k i (Nat.le_refl _) (by omega)), fun _ => rfl⟩
      · rw [if_pos (show nI (wat W i).1 ≠ 14 from i_ne (b := 14) (by omega) (by decide) z), lt_e, nI_1]
        refine ⟨fun k => g1 (fun j h1 h2 => k j (by omega) h2), fun ⟨j, h1, h2, h3⟩ => g2 ⟨j, ?_, h2, h3⟩⟩
        rcases Nat.lt_or_ge i j with y | y
        · omega
        · exact absurd (by rw [show i = j by omega]; exact h3) z
theorem wat_app : ∀ (P W : List (Nat × Nat)) (i : Nat), (i < W.length → wat (P ++ W) i = wat W i) ∧ (W.length ≤ i → i < (P ++ W).length → wat (P ++ W) i ∈ P) := by
  intro P
  induction P with
  | nil => intro W i; exact ⟨fun _ => rfl, fun h1 h2 => by simp at h2; omega⟩
  | cons e P ih =>
    intro W i
    obtain ⟨a, b⟩ := ih W i
    have hl : (P ++ W).length = P.length + W.length := by simp
    show (i < W.length → (if i = (P ++ W).length then e else wat (P ++ W) i) = wat W i) ∧ (W.length ≤ i → i < (P ++ W).length + 1 → (if i = (P ++ W).length then e else wat (P ++ W) i) ∈ e :: P)
    refine ⟨fun h => ?_, fun h1 h2 => ?_⟩
    · rw [if_neg (by omega)]; exact a h
    · by_cases z : i = (P ++ W).length
      · rw [if_pos z]; exact List.mem_cons_self
      · rw [if_neg z]; exact List.mem_cons_of_mem _ (b h1 (by omega))
def pw (op : Nat) : List (Nat × Nat) := if op = 0 then [] else [(op, 0)]
theorem pw_m {op : Nat} {e : Nat × Nat} (h : e ∈ pw op) : e.1 = op ∧ op ≠ 0 := by
  unfold pw at h
  split at h
  · cases h
  · rename_i q
    rw [List.mem_singleton] at h
    rw [h]; exact ⟨rfl, q⟩
theorem pw_0 : pw 0 = [] := rfl
theorem pw_n {op : Nat} (h : op ≠ 0) : pw op = [(op, 0)] := if_neg h
def nx (op : Nat) : Nat := if op = 0 then 0 else 1
theorem nx_0 : nx 0 = 0 := rfl
theorem nx_n {op : Nat} (h : op ≠ 0) : nx op = 1 := if_neg h
theorem poH_e {h : HP} {op w : Nat} (t : TcM T n p h) (e15 : h.1 0 15 = nI o) : TcM T n p (poH h ℓ w op) ∧ (poH h ℓ w op).1 0 15 = nI o ∧ (poH h ℓ w op).1 0 16 = nI (ℓ + 1) ∧ gL ℓ h (poH h ℓ w op) ∧ (poH h ℓ w op).1 10 = h.1 10 ∧ (poH h ℓ w op).1 0 17 = nI w ∧ (poH h ℓ w op).1 9 ℓ = nI (1048576 * op) := by
  obtain ⟨a, b, c, d⟩ := ntH_0 (h := h) (ℓ := ℓ) (i := (op, 0))
  have f := ntH_f (h := h) (i := (op, 0)) (Nat.le_refl ℓ)
  have t' := ntH_T (ℓ := ℓ) (i := (op, 0)) t
  unfold poH
  refine ⟨⟨by rw [up_at, if_neg (by decide)]; exact t'.1, by rw [up_at, if_neg (by decide)]; exact t'.2.1, fun i hi => by rw [up_n (by decide)]; exact t'.2.2 i hi⟩, by rw [up_at, if_neg (by decide), b 15 (by decide)]; exact e15, by rw [up_at, if_neg (by decide)]; exact a, ⟨fun k q1 q2 q3 => by rw [up_n q1]; exact f.1 k q1 q2 q3, fun j q => by rw [up_at, if_neg (by omega)]; exact f.2.1 j q, fun k q => by rw [up_n (by decide)]; exact f.2.2 k q⟩, by rw [up_n (by decide)]; exact c, by rw [up_at, if_pos ⟨rfl, rfl⟩], ?_⟩
  rw [up_n (by decide)]
  unfold ntH
  rw [up_n (by decide), up_at, if_pos ⟨rfl, rfl⟩]
  rfl
/-- one row of what waits is closed, if it is there -/
theorem clo_p {h : HP} {a : Int32} {op f : Nat} (hop : op = 0 ∨ clS a op) (t : TcM T n p h) (e15 : h.1 0 15 = nI o) (e16 : h.1 0 16 = nI ℓ) (hl : ℓ < 250) (w : WS (pw op ++ W) h) : ∃ h', xX11_closesSums_0 N (f + 1) a h = xX11_closesSums_0 N (f + 1 - nx op) a h' ∧ TcM T n p h' ∧ h'.1 0 15 = nI o ∧ h'.1 0 16 = nI (ℓ + nx op) ∧ WS W h' ∧ gL ℓ h h' ∧ ((op = 0 ∧ h' = h) ∨ (op ≠ 0 ∧ h'.1 9 ℓ = nI (1048576 * op))) := by
  by_cases z : op = 0
  · subst z
    exact ⟨h, rfl, t, e15, e16, w, gL.rf _ _, Or.inl ⟨rfl, rfl⟩⟩
  · have hc := hop.resolve_left z
    rw [pw_n z] at w
    obtain ⟨a1, a2, a3, a4, a5, a6, a7⟩ := poH_e (T := T) (n := n) (p := p) (o := o) (ℓ := ℓ) (op := op) (w := W.length) t e15
    refine ⟨poH h ℓ W.length op, ?_, a1, a2, by rw [nx_n z]; exact a3, WS.pop (e := (op, 0)) w a6 (fun j _ => by rw [a5]), a4, Or.inr ⟨z, a7⟩⟩
    rw [nx_n z, show f + 1 - 1 = f by omega]
    exact clo_1 (e := (op, 0)) w (by omega) e16 hc
end CLO
