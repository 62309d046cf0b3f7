/-! DRAWN DAYS 2 -/
section YE2
variable {S : o_S} {n : Nat × Nat × Nat} {A : aS} {T : Nat} {W : aW} {g : Int32 → Int32} {u : Int32 → Nat → Nat}
theorem x_yeL (hg : xDr n g u) (hu : ∀ R k, 0 < k → u R k < k) {N : Nat} (hN : N ≤ 40) : ∀ d i fuel (S : o_S) (T : Nat) (R : Int32) (W : aW), i + d = N → d < fuel → CR S A → CW S 46 W → S.1 0 9 = R → V T W → T + d ≤ 100000 → ∃ S' f', l_X9_years_31 fuel (ov S n) 0 (nI N) (nI i) = b_X9_years_31 (l_X9_years_31 f') (ov S' n) 0 (nI N) (nI N) ∧ CR S' A ∧ CW S' 46 (dI g u d R W).2 ∧ AG yA S S' := by
  intro d
  induction d with
  | zero =>
    intro i fuel S T R W hi hf H H2 hR hV hT
    obtain ⟨f, rfl⟩ : ∃ f, fuel = f + 1 := ⟨fuel - 1, by omega⟩
    have : i = N := by omega
    subst this
    exact ⟨S, f, rfl, H, H2, AG.rf⟩
  | succ d ih =>
    intro i fuel S T R W hi hf H H2 hR hV hT
    obtain ⟨f, rfl⟩ : ∃ f, fuel = f + 1 := ⟨fuel - 1, by omega⟩
    obtain ⟨S1, g1, g2, g3, g4⟩ := x_drawAct (n := n) hg hu hR H2 hV (by omega)
    have H1 : CR S1 A := H.tri g4 (fun b q => q.elim (fun q => Or.inr (Or.inl q)) Or.inl) g2.xtr
    obtain ⟨S2, f2, k1, k2, k3, k4⟩ := ih (i + 1) f S1 (T + 1) _ _ (by omega) (by omega) H1 g2 g3 (hV.dAc (by omega) R) (by omega)
    refine ⟨S2, f2, ?_, k2, k3, g4.tr k4 (fun _ q => q) (fun _ q => q)⟩
    rw [← k1]
    show b_X9_years_31 _ _ _ _ _ = _
    conv => lhs; unfold b_X9_years_31
    rw [if_neg (by rw [i_le (by omega) (by omega)]; omega), g1, bS, nI_1]
theorem r_yeL (hg : rDr n g u) (hu : ∀ R k, 0 < k → u R k < k) {N : Nat} (hN : N ≤ 40) : ∀ d i fuel (S : o_S) (T : Nat) (R : Int32) (W : aW), i + d = N → d < fuel → RW (S.2.1 299) 0 W → S.1 296 24 = R → V T W → T + d ≤ 100000 → ∃ S', l_X10_years_32 fuel (ov S n) 296 (nI N) (nI i) = l_X10_years_52 q_FU (ov S' n) 296 0 0 ∧ RW (S'.2.1 299) 0 (dI g u d R W).2 ∧ RD' S S' := by
  intro d
  induction d with
  | zero =>
    intro i fuel S T R W hi hf H hR hV hT
    obtain ⟨f, rfl⟩ : ∃ f, fuel = f + 1 := ⟨fuel - 1, by omega⟩
    refine ⟨S, ?_, H, RD'.rf⟩
    show b_X10_years_32 _ _ _ _ _ = _
    unfold b_X10_years_32
    rw [if_pos (by rw [i_le (by omega) (by omega)]; omega)]
  | succ d ih =>
    intro i fuel S T R W hi hf H hR hV hT
    obtain ⟨f, rfl⟩ : ∃ f, fuel = f + 1 := ⟨fuel - 1, by omega⟩
    obtain ⟨S1, g1, g2, g3, g4⟩ := r_drawnAct (n := n) hg hu hR H hV (by omega)
    obtain ⟨S2, k1, k2, k3⟩ := ih (i + 1) f S1 (T + 1) _ _ (by omega) (by omega) g2 g3 (hV.dAc (by omega) R) (by omega)
    refine ⟨S2, ?_, k2, g4.tr k3⟩
    show b_X10_years_32 _ _ _ _ _ = _
    unfold b_X10_years_32
    rw [if_neg (by rw [i_le (by omega) (by omega)]; omega), g1, bS, nI_1, k1]
theorem r_laysM (h : OKA T A) (H : RR S A) {c s : Nat} (hc : c < 3) (hs : s < 104) : ∃ S', f_X10_lays (ov S n) 296 (nI s) (nI c) = some (ov S' n, ()) ∧ RR S' A ∧ TT S' s (tr (sW A) c) ∧ RZ S S' ∧ S'.2.1 299 = S.2.1 299 ∧ ∀ s' E, s' ≠ s → TT S s' E → TT S' s' E := by
  obtain ⟨S', g1, g2, g3, g4, g5, g6, g7, g8⟩ := r_laysF (n := n) h.1 H.1 hc hs
  exact ⟨S', g1, H.zs g5.z g6, g3, g5.z, g6, g8⟩
theorem r_y52 {L : Nat → Nat} (hL : ∀ c, c < 3 → S.2.1 299 (180 + c) = nI (L c)) : ∃ f', l_X10_years_52 q_FU (ov S n) 296 0 0 = b_X10_years_52 (l_X10_years_52 f') (ov S n) 296 (nI (L 0 + L 1 + L 2)) 3 := by
  obtain ⟨f, hf⟩ := q_FUe
  have st : ∀ (k52 : q_H → Nat → Int32 → Int32 → Option (q_H × Int32)) (c v : Nat), c < 3 → b_X10_years_52 k52 (ov S n) 296 (nI v) (nI c) = k52 (ov S n) 296 (nI (v + L c)) (nI (c + 1)) := by
    intro k52 c v hc
    unfold b_X10_years_52
    simp (disch := omega) only [show (3 : Int32) = nI 3 from rfl, i_le, show ¬ 3 ≤ c by omega, if_false, rR7, show (180 : Int32) = nI 180 from rfl, nI_add, r_mem, hL c hc, bS, nI_1]
  refine ⟨f + 96, ?_⟩
  rw [hf]
  show b_X10_years_52 (l_X10_years_52 (f + 99)) (ov S n) 296 (nI 0) (nI 0) = _
  rw [st _ 0 0 (by omega), Nat.zero_add]
  show b_X10_years_52 (l_X10_years_52 (f + 98)) (ov S n) 296 _ (nI 1) = _
  rw [st _ 1 _ (by omega)]
  show b_X10_years_52 (l_X10_years_52 (f + 97)) (ov S n) 296 _ (nI 2) = _
  rw [st _ 2 _ (by omega)]
  rfl
theorem ag_years (h : OKA T A) (hT : T ≤ 90000) (x y : Int32) : AGR T A (fun h => f_X9_years h 0 x y) (fun h => f_X10_years h 296 x y) := by
  have hin : ∀ (S : o_S) (n : Nat × Nat × Nat), f_X10_in (ov S n) (Int32.toInt64 y) 1 40 = some (ov S n, b2i (inR 1 41 y)) := fun S n => r_in _ _ (lo := 1) (hi := 41) (by decide) (by decide)
  by_cases e : inR 1 41 y = true
  · obtain ⟨N, hN1, hN, rfl⟩ := inR_t e (by omega)
    obtain ⟨W', hW'⟩ : ∃ W', W' = (dI dR dV N x (sW A)).2 := ⟨_, rfl⟩
    have hV' : V (T + N) W' := by rw [hW']; exact V.dIc N T x (sW A) h.1 (by omega)
    have hO : OKA (T + N) (sWld A W') := h.wld (by omega) hV'
    have hh : ∀ d, d < 3 → wH W' 0 d < 2 ^ 31 := fun d hd => by have := hV'.2.1 0 d (by omega) hd; omega
    refine ⟨nI ((wL W' 0).length + (wL W' 1).length + (wL W' 2).length), sRow A ([Int32.toInt64 (nI (mOt (tr W' 0) (tr W' 1)))] ++ [Int32.toInt64 (nI (mFo (tr W' 2)))] ++ [Int32.toInt64 (nI (mSt2 (wH W' 0) 0))] ++ [Int32.toInt64 (nI (aWf W' 0 + aWf W' 1 + aWf W' 2))]), fun S n H => ?_, fun S n H => ?_, h.row (by omega) _⟩
    · obtain ⟨S1, g1, g2, g3, g4⟩ := x_tri (n := n) H
      have H2 : CR (o_sf S1 0 9 x) A := g3.ag (AG_sf S1 0 9 x) (fun b q => Or.inl q)
      obtain ⟨S2, f2, k1, k2, k3, k4⟩ := x_yeL (n := n) (g := dR) (u := dV) (fun S R k h1 h2 h3 => x_draw h1 h2 h3) (fun R k hk => Nat.mod_lt _ hk) (show N ≤ 40 by omega) N 0 q_FU (o_sf S1 0 9 x) T x (sW A) (by omega) (q_FU_lt (by omega)) H2 (g2.ag (AG_sf S1 0 9 x) (fun b h1 h2 q => by omega)) (by rw [sf_f, pk_us]) h.1 (by omega)
      rw [← hW'] at k3
      have ho := t_otherThan (n := n) (k3.te46 (c := 0) (by omega)) (k3.te46 (c := 1) (by omega))
      obtain ⟨S3, p1, p2, p3⟩ := x_tell (n := n) k2 (Int32.toInt64 (nI (mOt (tr W' 0) (tr W' 1))))
      have c3 : CW S3 46 W' := k3.ag p3 (fun b h1 h2 q => by omega)
      have hfo : f_X7_folders (ov S3 n) (49 + 8 * 2 + 6) = some (ov S3 n, nI (mFo (tr W' 2))) := t_folders (c3.te46 (c := 2) (by omega))
      obtain ⟨S4, q1, q2, q3⟩ := x_add (n := n) p2 (show 1 < 80 by omega) (Int32.toInt64 (nI (mFo (tr W' 2))))
      have c4 : CW S4 46 W' := c3.ag q3 (fun b h1 h2 q => by omega)
      have hst := x_stableTime (n := n) (v_k (c := 0) (by omega)) (c4.cc46 (c := 0) (by omega)).1 (by omega) hh
      obtain ⟨S5, u1, u2, u3⟩ := x_add (n := n) q2 (show 2 < 80 by omega) (Int32.toInt64 (nI (mSt2 (wH W' 0) 0)))
      have c5 : CW S5 46 W' := c4.ag u3 (fun b h1 h2 q => by omega)
      have hwt := x_waiting (n := n) c5
      obtain ⟨S6, w1, w2, w3⟩ := x_add (n := n) u2 (show 3 < 80 by omega) (Int32.toInt64 (nI (aWf W' 0 + aWf W' 1 + aWf W' 2)))
      have c6 : CW S6 46 W' := c5.ag w3 (fun b h1 h2 q => by omega)
      have l0 := s_gI (n := n) (c6.cc46 (c := 0) (by omega)).1.2.2.1
      have l1 := s_gI (n := n) (c6.cc46 (c := 1) (by omega)).1.2.2.1
      have l2 := s_gI (n := n) (c6.cc46 (c := 2) (by omega)).1.2.2.1
      refine ⟨S6, ?_, w2, ?_⟩
      · have v0 : ∀ S : o_S, q_lR 4 (ov S n) 47 0 = some (49 + 8 * 0) := fun S => v_cp (c := 0) (by omega)
        have v1 : ∀ S : o_S, q_lR 4 (ov S n) 47 1 = some (49 + 8 * 1) := fun S => v_cp (c := 1) (by omega)
        have v2 : ∀ S : o_S, q_lR 4 (ov S n) 47 2 = some (49 + 8 * 2) := fun S => v_cp (c := 2) (by omega)
        have z1 : ¬ nI N < 1 := by rw [show (1 : Int32) = nI 1 from rfl, i_lt (by omega) (by omega)]; omega
        have z2 : nI N ≤ 40 := by rw [show (40 : Int32) = nI 40 from rfl, i_le (by omega) (by omega)]; omega
        have k1 : l_X9_years_31 q_FU (ov (o_sf S1 0 9 x) n) 0 (nI N) 0 = _ := k1
        unfold f_X9_years b_X9_years_0
        simp only [x_chk, z1, if_false, z2, if_true, xR0, xR1, bS, g1, xP9, k1]
        unfold b_X9_years_31
        rw [if_pos (nI_le (Nat.le_refl _) (by omega))]
        simp only [xR4, xR1, bS, v_R0, v0, v1, v2, v_R5 (show 0 < 3 by omega), v_R5 (show 1 < 3 by omega), v_R5 (show 2 < 3 by omega), v_R3 (show 0 < 3 by omega), v_R3 (show 1 < 3 by omega), v_R3 (show 2 < 3 by omega), ho, p1, hfo, q1, hst, u1, hwt, w1, l0, l1, l2, nI_add]
      · refine AG.tr (C := fun b => b < 296) (g4.tr (AG_sf S1 0 9 x) (C := fun b => b < 296) (fun b q => by omega) (fun b q => by omega)) ?_ (fun b q => q) (fun b q => q)
        refine AG.tr (C := fun b => b < 296) (k4.tr p3 (C := fun b => b < 296) (fun b q => by unfold yA at q; omega) (fun b q => by omega)) ?_ (fun b q => q) (fun b q => q)
        refine AG.tr (C := fun b => b < 296) (q3.tr u3 (C := fun b => b < 296) (fun b q => by omega) (fun b q => by omega)) w3 (fun b q => q) (fun b q => by omega)
    · obtain ⟨S1, g1, g2, g3, g4⟩ := r_copies (S := o_sf (o_sf S 296 0 0) 296 24 x) (n := n) (a := 0) (b := 3) (by omega) (by omega) (by omega)
      have H0 : RR (o_sf (o_sf S 296 0 0) 296 24 x) A := (H.fld (k := 0) 0 (by omega) (by omega)).fld (k := 24) x (by omega) (by omega)
      have z1 : RZ (o_sf (o_sf S 296 0 0) 296 24 x) S1 := ⟨g4.mono (fun b q => by omega), by rw [g4.f (by omega)], by rw [g4.f (by omega)], fun j h1 h2 => g3 j (by omega)⟩
      have H1 : RR S1 A := H0.z (W' := sW A) z1 (H0.1.cg (fun j hj => g3 _ (by omega)))
      have hb3 : RW (S1.2.1 299) 2124 (sW A) := H0.1.cg (fun j hj => by have := g2 j hj; rw [show 2124 + j = 708 * 3 + j by omega, this, Nat.mul_zero])
      have e24 : S1.1 296 24 = x := by rw [g4.f (by omega), sf_f, pk_us]
      obtain ⟨S2, k1, k2, k3⟩ := r_yeL (n := n) (g := dR) (u := dV) (fun S R k h1 h2 h3 => r_draws h1 h2 h3) (fun R k hk => Nat.mod_lt _ hk) (show N ≤ 40 by omega) N 0 q_FU S1 T x (sW A) (by omega) (q_FU_lt (by omega)) H1.1 e24 h.1 (by omega)
      rw [← hW'] at k2
      have H2 : RR S2 (sWld A W') := H1.z k3.z k2
      obtain ⟨f52, e52⟩ := r_y52 (n := n) (S := S2) (L := fun c => (wL W' c).length) (fun c hc => H2.1.len hc)
      obtain ⟨S3, p1, p2, p4, p6, p7, -⟩ := r_laysM (n := n) hO H2 (c := 0) (s := 0) (by omega) (by omega)
      obtain ⟨S4, q1, q2, q4, q6, q7, q8⟩ := r_laysM (n := n) hO p2 (c := 1) (s := 1) (by omega) (by omega)
      have t0 := q8 0 _ (by omega) p4
      have p1 : f_X10_lays (ov S2 n) 296 0 0 = some (ov S3 n, ()) := p1
      have q1 : f_X10_lays (ov S3 n) 296 1 1 = some (ov S4 n, ()) := q1
      obtain ⟨S5, u1, u2, u3⟩ := r_tell (n := n) q2 (Int32.toInt64 (nI (mOt (tr W' 0) (tr W' 1))))
      have ho : f_X10_otherSet (ov (o_sf S4 296 1 0) n) 296 0 1 = _ := r_otherSet (s := 0) (s' := 1) (t0.re re_row0) (hV'.ti (by omega)) (q4.re re_row0) (hV'.ti (by omega))
      obtain ⟨S6, a1, a2, a4, a6, a7, -⟩ := r_laysM (n := n) (hO.row (Nat.le_refl _) _) u2 (c := 2) (s := 0) (by omega) (by omega)
      have a1 : f_X10_lays (ov S5 n) 296 0 2 = some (ov S6 n, ()) := a1
      have hfo : f_X10_folders (ov S6 n) 296 0 = some (ov S6 n, nI (mFo (tr W' 2))) := r_folders (s := 0) a4
      obtain ⟨S7, b1, b2, b3⟩ := r_enters (n := n) a2 (show 1 < 80 by omega) (Int32.toInt64 (nI (mFo (tr W' 2))))
      have hst : f_X10_stableOf (ov S7 n) 296 0 = _ := r_stableOf (n := n) b2.1 hV' (by omega) (c := 0) (by omega)
      obtain ⟨S8, c1, c2, c3⟩ := r_enters (n := n) b2 (show 2 < 80 by omega) (Int32.toInt64 (nI (mSt2 (wH W' 0) 0)))
      have hla := r_lettersAll (n := n) c2
      obtain ⟨S9, d1, d2, d3⟩ := r_enters (n := n) c2 (show 3 < 80 by omega) (Int32.toInt64 (nI (aWf W' 0 + aWf W' 1 + aWf W' 2)))
      obtain ⟨S10, e1, e2, e3, e4⟩ := r_copies (S := S9) (n := n) (a := 3) (b := 0) (by omega) (by omega) (by omega)
      have e1 : f_X10_copies (ov S9 n) 296 3 0 = some (ov S10 n, ()) := e1
      have hz : RZ S9 S10 := ⟨e4.mono (fun b q => by omega), by rw [e4.f (by omega)], by rw [e4.f (by omega)], fun j h1 h2 => e3 j (by omega)⟩
      have hb9 : RW (S9.2.1 299) 2124 (sW A) := by
        rw [d3.m (by omega), c3.m (by omega), b3.m (by omega)]
        have hlays : ∀ j, 708 ≤ j → S6.2.1 299 j = S1.2.1 299 j := fun j hj => by rw [a7, u3.m (by omega), q7, p7, k3.2.2 j hj]
        exact hb3.cg (fun j hj => hlays _ (by omega))
      refine ⟨S10, ?_, d2.z (W' := sW A) hz (hb9.cg (fun j hj => ?_)), ?_⟩
      · have g1 : f_X10_copies (ov (o_sf (o_sf S 296 0 0) 296 24 x) n) 296 0 3 = some (ov S1 n, ()) := g1
        have k1 : l_X10_years_32 q_FU (ov S1 n) 296 (nI N) 0 = _ := k1
        unfold f_X10_years b_X10_years_0
        simp only [r_chk, rP0, bS, hin, e, b2i_eq0, Bool.true_eq_false, if_false, rP24, g1, k1, e52]
        unfold b_X10_years_52
        rw [if_pos (by decide)]
        simp only [p1, bS, q1, rP1, ho, u1, a1, hfo, b1, hst, c1, hla, d1, e1]
      · have := e2 j hj
        rw [Nat.mul_zero] at this
        exact this
      · refine AG.tr (C := fun b => 296 ≤ b ∧ b < 313) (((((RZ.fld (k := 0) 0 (by omega) (by omega)).tr (RZ.fld (k := 24) x (by omega) (by omega))).tr z1).tr k3.z).tr (p6.tr q6)).ag ?_ (fun b q => q) (fun b q => q)
        refine AG.tr (C := fun b => 296 ≤ b ∧ b < 313) (u3.ag.tr a6.ag (C := fun b => 296 ≤ b ∧ b < 313) (fun b q => q) (fun b q => q)) ?_ (fun b q => q) (fun b q => q)
        exact ((b3.tr c3).tr d3).ag.tr hz.ag (fun b q => q) (fun b q => q)
  · have e : inR 1 41 y = false := by simpa using e
    refine ⟨-1, A, fun S n H => ⟨S, ?_, H, AG.rf⟩, fun S n H => ⟨_, ?_, H.fld (k := 0) 0 (by omega) (by omega), (RZ.fld 0 (by omega) (by omega)).ag⟩, h.mono (by omega)⟩
    · rw [x_rng y (show 1 < 2 ^ 31 by omega) (show 41 < 2 ^ 31 by omega)] at e
      unfold f_X9_years b_X9_years_0
      simp only [x_chk]
      by_cases h0 : y < 1
      · simp [h0]
      · have h0' : ¬ y < nI 1 := h0
        have h1 : nI 41 ≤ y := by simpa [h0'] using e
        have h2 : ¬ y ≤ 40 := by
          intro q
          rw [Int32.le_iff_toInt_le] at q h1
          have a1 : (nI 41).toInt = 41 := by decide
          have a2 : (40 : Int32).toInt = 40 := by decide
          omega
        simp [h0, h2]
    · unfold f_X10_years b_X10_years_0
      simp only [r_chk, rP0, bS, hin, e, b2i_eq0, if_true]
end YE2
