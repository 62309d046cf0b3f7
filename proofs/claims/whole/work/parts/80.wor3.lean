/-! THE WORST AND THE BEST ORDER OF LETTERS 4 -/
section WR3
variable {S : o_S} {n : Nat × Nat × Nat} {A : aS} {T : Nat} {c a b : Nat}
theorem r_w62 (h : OKA T A) (hc : c < 3) (ha : a < 3) (hb : b < 3) (k48 : q_H → Nat → Int32 → Int32 → Int32 → Int32 → Int32 → Option (q_H × Int32)) {i : Nat} (hi : i ≤ (wY (sW A) (3 * a + c)).length) : ∀ d j fuel (S : o_S), j + d = (wY (sW A) (3 * b + c)).length + 1 → d < fuel → RR S A → dpA S 311 310 (uA A c a b) (uA A c b a) (wY (sW A) (3 * b + c)).length i j → ∃ S', l_X10_worst_62 k48 fuel (ov S n) 296 (nI c) (nI a) (nI b) 7 (nI i) (nI j) = k48 (ov S' n) 296 (nI c) (nI a) (nI b) 7 (nI (i + 1)) ∧ dpA S' 311 310 (uA A c a b) (uA A c b a) (wY (sW A) (3 * b + c)).length (i + 1) 0 ∧ wZ S S' := by
  have hl2 := (h.1.2.2.2.2.1 b c hb hc).1
  intro d
  induction d with
  | zero =>
    intro j fuel S hj hfu H hD
    obtain ⟨fu, rfl⟩ : ∃ f, fuel = f + 1 := ⟨fuel - 1, by omega⟩
    have : j = (wY (sW A) (3 * b + c)).length + 1 := by omega
    subst this
    refine ⟨S, ?_, hD.row, wZ.rf⟩
    have hw := r_waiting (n := n) H.1.2.2.2.2 hb hc
    show b_X10_worst_62 _ _ _ _ _ _ _ _ _ _ = _
    unfold b_X10_worst_62
    rw [hw, bS, if_pos (nI_lt (by omega) (by omega)), nI_1]
  | succ d ih =>
    intro j fuel S hj hfu H hD
    obtain ⟨fu, rfl⟩ : ∃ f, fuel = f + 1 := ⟨fuel - 1, by omega⟩
    obtain ⟨S1, g1, g2, g3⟩ := r_cell (n := n) h hc ha hb k48 (l_X10_worst_62 k48 fu) H hi (by omega) hD
    obtain ⟨S2, k1, k2, k3⟩ := ih (j + 1) fu S1 (by omega) (by omega) (g3.rr H) g2
    exact ⟨S2, g1.trans k1, k2, g3.tr k3⟩
theorem r_w48 (h : OKA T A) (hc : c < 3) (ha : a < 3) (hb : b < 3) : ∀ d i fuel (S : o_S), i + d = (wY (sW A) (3 * a + c)).length + 1 → d < fuel → RR S A → dpA S 311 310 (uA A c a b) (uA A c b a) (wY (sW A) (3 * b + c)).length i 0 → ∃ S' f', l_X10_worst_48 fuel (ov S n) 296 (nI c) (nI a) (nI b) 7 (nI i) = b_X10_worst_48 (l_X10_worst_48 f') (ov S' n) 296 (nI c) (nI a) (nI b) 7 (nI ((wY (sW A) (3 * a + c)).length + 1)) ∧ dpA S' 311 310 (uA A c a b) (uA A c b a) (wY (sW A) (3 * b + c)).length ((wY (sW A) (3 * a + c)).length + 1) 0 ∧ wZ S S' := by
  have hl1 := (h.1.2.2.2.2.1 a c ha hc).1
  have hl2 := (h.1.2.2.2.2.1 b c hb hc).1
  intro d
  induction d with
  | zero =>
    intro i fuel S hi hfu H hD
    obtain ⟨fu, rfl⟩ : ∃ f, fuel = f + 1 := ⟨fuel - 1, by omega⟩
    have : i = (wY (sW A) (3 * a + c)).length + 1 := by omega
    subst this
    exact ⟨S, fu, rfl, hD, wZ.rf⟩
  | succ d ih =>
    intro i fuel S hi hfu H hD
    obtain ⟨fu, rfl⟩ : ∃ f, fuel = f + 1 := ⟨fuel - 1, by omega⟩
    obtain ⟨S1, g1, g2, g3⟩ := r_w62 (n := n) h hc ha hb (l_X10_worst_48 fu) (i := i) (by omega) ((wY (sW A) (3 * b + c)).length + 1) 0 q_FU S (by omega) (q_FU_lt (by omega)) H hD
    obtain ⟨S2, f2, k1, k2, k3⟩ := ih (i + 1) fu S1 (by omega) (by omega) (g3.rr H) g2
    refine ⟨S2, f2, ?_, k2, g3.tr k3⟩
    rw [← k1]
    have hw := r_waiting (n := n) H.1.2.2.2.2 ha hc
    show b_X10_worst_48 _ _ _ _ _ _ _ _ = _
    conv => lhs; unfold b_X10_worst_48
    rw [hw, bS, if_neg (by rw [i_lt (by omega) (by omega)]; omega)]
    exact g1
theorem r_worstL (h : OKA T A) (hc : c < 3) (ha : a < 3) (hb : b < 3) (H : RR S A) : ∃ S', l_X10_worst_48 q_FU (ov S n) 296 (nI c) (nI a) (nI b) 7 0 = some (ov S' n, nI (dp max (uA A c a b) (uA A c b a) (wY (sW A) (3 * a + c)).length (wY (sW A) (3 * b + c)).length)) ∧ RR S' (sRow A ([Int32.toInt64 (nI (dp min (uA A c a b) (uA A c b a) (wY (sW A) (3 * a + c)).length (wY (sW A) (3 * b + c)).length))] ++ [Int32.toInt64 (nI (dUn (sW A) c))])) ∧ AG (fun b => 296 ≤ b ∧ b < 313) S S' := by
  have hl1 := (h.1.2.2.2.2.1 a c ha hc).1
  have hl2 := (h.1.2.2.2.2.1 b c hb hc).1
  obtain ⟨S1, f1, g1, g2, g3⟩ := r_w48 (n := n) h hc ha hb ((wY (sW A) (3 * a + c)).length + 1) 0 q_FU S (by omega) (q_FU_lt (by omega)) H (fun i' j' _ q => by omega)
  have H1 := g3.rr H
  obtain ⟨v1, v2⟩ := g2 (wY (sW A) (3 * a + c)).length (wY (sW A) (3 * b + c)).length (Nat.le_refl _) (Or.inl (by omega))
  obtain ⟨S2, k1, k2, k3⟩ := r_tell (n := n) H1 (Int32.toInt64 (nI (dp min (uA A c a b) (uA A c b a) (wY (sW A) (3 * a + c)).length (wY (sW A) (3 * b + c)).length)))
  obtain ⟨S3, p1, p2⟩ := r_undone (n := n) k2.1 h.1 hc
  have H3 : RR S3 (sRow A [Int32.toInt64 (nI (dp min (uA A c a b) (uA A c b a) (wY (sW A) (3 * a + c)).length (wY (sW A) (3 * b + c)).length))]) := k2.zs p2.x.z p2.m
  obtain ⟨S4, q1, q2, q3⟩ := r_enters (n := n) H3 (show 1 < 80 by omega) (Int32.toInt64 (nI (dUn (sW A) c)))
  have e4 : S4.2.1 310 (7 * (wY (sW A) (3 * a + c)).length + (wY (sW A) (3 * b + c)).length) = nI (dp max (uA A c a b) (uA A c b a) (wY (sW A) (3 * a + c)).length (wY (sW A) (3 * b + c)).length) := by
    rw [q3.m (by omega), p2.1.I (by omega), k3.m (by omega)]
    exact v2
  have e1 : (o_sf S1 296 1 0).2.1 311 (7 * (wY (sW A) (3 * a + c)).length + (wY (sW A) (3 * b + c)).length) = nI (dp min (uA A c a b) (uA A c b a) (wY (sW A) (3 * a + c)).length (wY (sW A) (3 * b + c)).length) := v1
  have w1 := r_waiting (n := n) H1.1.2.2.2.2 ha hc
  have w2 := r_waiting (n := n) H1.1.2.2.2.2 hb hc
  have g1 : l_X10_worst_48 q_FU (ov S n) 296 (nI c) (nI a) (nI b) 7 0 = _ := g1
  refine ⟨S4, ?_, q2, ((g3.1.ag.tr k3.ag (C := fun b => 296 ≤ b ∧ b < 313) (fun _ q => q) (fun _ q => q)).tr p2.x.z.ag (C := fun b => 296 ≤ b ∧ b < 313) (fun _ q => q) (fun _ q => q)).tr q3.ag (fun _ q => q) (fun _ q => q)⟩
  rw [g1]
  unfold b_X10_worst_48
  rw [w1, bS, if_pos (nI_lt (by omega) (by omega))]
  simp only [w1, w2, bS, rP1, rR23, i_73, rlL (show 7 * (wY (sW A) (3 * a + c)).length + (wY (sW A) (3 * b + c)).length < 49 by omega), e1, k1, p1, q1, rR22, rmL (show 7 * (wY (sW A) (3 * a + c)).length + (wY (sW A) (3 * b + c)).length < 49 by omega), e4]
theorem x_worstL (h : OKA T A) (hc : c < 3) (hne : aWf (sW A) c ≠ 0) (H : CR S A) : ∃ S', f_X9_worst (ov S n) 0 (nI c) = some (ov S' n, nI (dp max (uA A c (nx c) (nx (nx c))) (uA A c (nx (nx c)) (nx c)) (wY (sW A) (3 * nx c + c)).length (wY (sW A) (3 * nx (nx c) + c)).length)) ∧ CR S' (sRow A ([Int32.toInt64 (nI (dp min (uA A c (nx c) (nx (nx c))) (uA A c (nx (nx c)) (nx c)) (wY (sW A) (3 * nx c + c)).length (wY (sW A) (3 * nx (nx c) + c)).length))] ++ [Int32.toInt64 (nI (dUn (sW A) c))])) ∧ AG (fun b => b < 296) S S' := by
  obtain ⟨n1, n2, n3, n4, n5⟩ := nx_lt hc
  have hl1 := (h.1.2.2.2.2.1 (nx c) c n1 hc).1
  have hl2 := (h.1.2.2.2.2.1 (nx (nx c)) c n4 hc).1
  have hwf := h.1.wf hc
  obtain ⟨S1, g1, g2, g3, g4, g5⟩ := x_weighAll (n := n) h hc n1 n4 H
  obtain ⟨S2, k1, k2, k3⟩ := x_tell (n := n) g2 (Int32.toInt64 (nI (dp min (uA A c (nx c) (nx (nx c))) (uA A c (nx (nx c)) (nx c)) (wY (sW A) (3 * nx c + c)).length (wY (sW A) (3 * nx (nx c) + c)).length)))
  have hu := x_undone (n := n) k2.1 h.1 hc
  obtain ⟨S3, p1, p2, p3⟩ := x_add (n := n) k2 (show 1 < 80 by omega) (Int32.toInt64 (nI (dUn (sW A) c)))
  have e3 : S3.2.1 101 (7 * (wY (sW A) (3 * nx c + c)).length + (wY (sW A) (3 * nx (nx c) + c)).length) = nI (dp max (uA A c (nx c) (nx (nx c))) (uA A c (nx (nx c)) (nx c)) (wY (sW A) (3 * nx c + c)).length (wY (sW A) (3 * nx (nx c) + c)).length) := by
    rw [p3.I (by omega), k3.I (by omega)]
    exact g4
  have s1 := s_gI (n := n) (g2.wy (i := 3 * nx c + c) (by omega))
  have s2 := s_gI (n := n) (g2.wy (i := 3 * nx (nx c) + c) (by omega))
  refine ⟨S3, ?_, p2, (g5.tr k3 (C := fun b => b < 296) (fun b q => by omega) (fun b q => by omega)).tr p3 (fun b q => q) (fun b q => by omega)⟩
  unfold f_X9_worst b_X9_worst_0
  simp only [x_chk, x_isCopy, inR_ok (Nat.zero_le c) hc (by omega), b2i_eq0, Bool.true_eq_false, if_false, bS, xR0, x_waitingFor H.1 hc, i_eq0 (show aWf (sW A) c < 2 ^ 31 by omega), hne, x_next (ov S n) hc, x_next (ov S n) n1, u_way n1 hc, u_way n4 hc, xR7, u_R0, u_cp hc, u_R3 hc, g1, s1, s2, x_place _ (show (wY (sW A) (3 * nx c + c)).length ≤ 6 by omega) (show (wY (sW A) (3 * nx (nx c) + c)).length ≤ 6 by omega), xR4, oR0, oL (show 7 * (wY (sW A) (3 * nx c + c)).length + (wY (sW A) (3 * nx (nx c) + c)).length < 49 by omega), g3, k1, hu, p1, oR1, oM (show 7 * (wY (sW A) (3 * nx c + c)).length + (wY (sW A) (3 * nx (nx c) + c)).length < 49 by omega), e3]
theorem ag_worst (h : OKA T A) (x : Int32) : AGR T A (fun h => f_X9_worst h 0 x) (fun h => f_X10_worst h 296 x) := by
  by_cases e : inR 0 3 x = true
  · obtain ⟨c, -, hc, rfl⟩ := inR_t e (by omega)
    have hwf := h.1.wf hc
    by_cases hne : aWf (sW A) c = 0
    · refine ⟨-2, A, fun S n H => ⟨S, ?_, H, AG.rf⟩, fun S n H => ⟨_, ?_, H.fld (k := 0) 0 (by omega) (by omega), (RZ.fld 0 (by omega) (by omega)).ag⟩, h.mono (by omega)⟩
      · unfold f_X9_worst b_X9_worst_0
        simp only [x_chk, x_isCopy, e, b2i_eq0, Bool.true_eq_false, if_false, bS, xR0, x_waitingFor H.1 hc, hne, show nI 0 = 0 from rfl, if_true]
      · have H0 : RR (o_sf S 296 0 0) A := H.fld 0 (by omega) (by omega)
        unfold f_X10_worst b_X10_worst_0
        simp only [r_chk, rP0, bS, r_isCopy, e, b2i_eq0, Bool.true_eq_false, if_false, r_waitingAll H0.1 h.1 hc, hne, show nI 0 = 0 from rfl, if_true]
    · refine ⟨nI (dp max (uA A c (nx c) (nx (nx c))) (uA A c (nx (nx c)) (nx c)) (wY (sW A) (3 * nx c + c)).length (wY (sW A) (3 * nx (nx c) + c)).length), sRow A ([Int32.toInt64 (nI (dp min (uA A c (nx c) (nx (nx c))) (uA A c (nx (nx c)) (nx c)) (wY (sW A) (3 * nx c + c)).length (wY (sW A) (3 * nx (nx c) + c)).length))] ++ [Int32.toInt64 (nI (dUn (sW A) c))]), fun S n H => x_worstL h hc hne H, fun S n H => ?_, h.row (by omega) _⟩
      have H0 : RR (o_sf S 296 0 0) A := H.fld 0 (by omega) (by omega)
      have hz : AG (fun b => 296 ≤ b ∧ b < 313) S (o_sf S 296 0 0) := (RZ.fld 0 (by omega) (by omega)).ag
      have e34 : ∀ (a b : Nat), a < 3 → b < 3 → a ≠ c → b = 3 - a - c → (a = nx c ∧ b = nx (nx c)) ∨ (b = nx c ∧ a = nx (nx c)) → ∃ S', b_X10_worst_34 (ov (o_sf S 296 0 0) n) 296 (nI c) (nI a) = some (ov S' n, nI (dp max (uA A c (nx c) (nx (nx c))) (uA A c (nx (nx c)) (nx c)) (wY (sW A) (3 * nx c + c)).length (wY (sW A) (3 * nx (nx c) + c)).length)) ∧ RR S' (sRow A ([Int32.toInt64 (nI (dp min (uA A c (nx c) (nx (nx c))) (uA A c (nx (nx c)) (nx c)) (wY (sW A) (3 * nx c + c)).length (wY (sW A) (3 * nx (nx c) + c)).length))] ++ [Int32.toInt64 (nI (dUn (sW A) c))])) ∧ AG (fun b => 296 ≤ b ∧ b < 313) S S' := by
        intro a b ha hb hac hbe hab
        obtain ⟨S1, g1, g2, g3⟩ := r_worstL (n := n) h hc ha hb H0
        have e3 : ((3 : Int32) - nI a) - nI c = nI b := by
          rw [show (3 : Int32) = nI 3 from rfl, pk_sub (by omega), pk_sub (by omega), hbe]
        refine ⟨S1, ?_, ?_, hz.tr g3 (fun _ q => q) (fun _ q => q)⟩
        · unfold b_X10_worst_34 f_X10_third b_X10_third_0
          rw [bS, e3, g1]
          rcases hab with ⟨rfl, rfl⟩ | ⟨rfl, rfl⟩
          · rfl
          · rw [dp_sym (fun a b => Nat.max_comm a b)]
        · rcases hab with ⟨rfl, rfl⟩ | ⟨rfl, rfl⟩
          · exact g2
          · rw [dp_sym (fun a b => Nat.min_comm a b)]
            exact g2
      have hgo : ∃ S', (if nI c = 0 then b_X10_worst_34 (ov (o_sf S 296 0 0) n) 296 (nI c) 1 else b_X10_worst_34 (ov (o_sf S 296 0 0) n) 296 (nI c) 0) = some (ov S' n, nI (dp max (uA A c (nx c) (nx (nx c))) (uA A c (nx (nx c)) (nx c)) (wY (sW A) (3 * nx c + c)).length (wY (sW A) (3 * nx (nx c) + c)).length)) ∧ RR S' (sRow A ([Int32.toInt64 (nI (dp min (uA A c (nx c) (nx (nx c))) (uA A c (nx (nx c)) (nx c)) (wY (sW A) (3 * nx c + c)).length (wY (sW A) (3 * nx (nx c) + c)).length))] ++ [Int32.toInt64 (nI (dUn (sW A) c))])) ∧ AG (fun b => 296 ≤ b ∧ b < 313) S S' := by
        have hc3 : c = 0 ∨ c = 1 ∨ c = 2 := by omega
        rcases hc3 with rfl | rfl | rfl
        · rw [if_pos (show nI 0 = 0 from rfl)]
          exact e34 1 2 (by omega) (by omega) (by omega) (by omega) (Or.inl ⟨rfl, rfl⟩)
        · rw [if_neg (show ¬ nI 1 = 0 by decide)]
          exact e34 0 2 (by omega) (by omega) (by omega) (by omega) (Or.inr ⟨rfl, rfl⟩)
        · rw [if_neg (show ¬ nI 2 = 0 by decide)]
          exact e34 0 1 (by omega) (by omega) (by omega) (by omega) (Or.inl ⟨rfl, rfl⟩)
      obtain ⟨S1, g1, g2, g3⟩ := hgo
      refine ⟨S1, ?_, g2, g3⟩
      unfold f_X10_worst b_X10_worst_0
      simp only [r_chk, rP0, bS, r_isCopy, e, b2i_eq0, Bool.true_eq_false, if_false, r_waitingAll H0.1 h.1 hc, i_eq0 (show aWf (sW A) c < 2 ^ 31 by omega), hne]
      exact g1
  · have e' : inR 0 3 x = false := by simpa using e
    refine ⟨-1, A, fun S n H => ⟨S, ?_, H, AG.rf⟩, fun S n H => ⟨_, ?_, H.fld (k := 0) 0 (by omega) (by omega), (RZ.fld 0 (by omega) (by omega)).ag⟩, h.mono (by omega)⟩
    · unfold f_X9_worst b_X9_worst_0
      simp only [x_chk, x_isCopy, e', b2i_eq0, if_true, bS]
    · unfold f_X10_worst b_X10_worst_0
      simp only [r_chk, rP0, bS, r_isCopy, e', b2i_eq0, if_true]
end WR3
