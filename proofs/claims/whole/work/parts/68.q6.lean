/-! THE PUBLIC METHODS 6: count, and those that throw -/
section P6
variable {S : o_S} {n : Nat × Nat × Nat} {A : aS} {T : Nat}
theorem inR_ne {lo hi k : Nat} {z : Int32} (e : inR lo hi z = false) (h1 : lo ≤ k) (h2 : k < hi) (hk : k < 2 ^ 31) : ¬ z = nI k := by
  intro q
  subst q
  rw [inR_ok h1 h2 hk] at e
  cases e
theorem r_lettersAll (H : RR S A) : f_X10_lettersAll (ov S n) 296 = some (ov S n, nI (aWf (sW A) 0 + aWf (sW A) 1 + aWf (sW A) 2)) := by
  unfold f_X10_lettersAll b_X10_lettersAll_0
  rw [r_chk]
  have := fw_loop (fun fuel a j => l_X10_lettersAll_4 fuel (ov S n) 296 (nI a) (nI j)) (fun w a => a + (wY (sW A) w).length) (fun a => (ov S n, nI a)) (fun _ => True) 0 9 (fun fuel a _ => rfl) (fun fuel a j _ h1 h2 => ⟨trivial, by
    have e := H.1.y h2
    show b_X10_lettersAll_4 _ _ _ _ _ = _
    unfold b_X10_lettersAll_4
    simp (disch := omega) only [j2, j3, j4, j5, j6, j7, j8, j9, j10, j12, j14, j20, j40, j48, j49, j56, j80, j96, j180, j183, j483, j492, j708, j2401, j1000000, nI_1, nI_add, pk_mul, i_le, i_lt, i_eq, i_lt0, i_0le, i_le0, i_eq0, i_0lt, i_eq1, i_eqm1, i_sub1, i_addm1, pk_sub, i_add0, b2i_eq0, b2i_1, i_bit, if_true, if_false, rR2, rR3, rR7, rR8, rR10, rR11, rR15, rR16, rR17, rR18, rR19, rR20, rR21, rR22, rR23, rR25, rI0, rI1, rI4, rI5, rI6, rI9, rI12, rI13, rI14, rI24, rP0, rP1, rP4, rP5, rP6, rP9, rP12, rP13, rP14, rP24, r_chk, bS, r_mem, r_memS, r_lst, r_lstS, r_tre, r_treS, r_voi, r_voiS, e, show ¬ 9 ≤ j by omega]⟩) 9 0 q_FU 0 trivial (by omega) (by omega) (q_FU_lt (by omega))
  have e : fw (fun w a => a + (wY (sW A) w).length) 0 0 9 = aWf (sW A) 0 + aWf (sW A) 1 + aWf (sW A) 2 := by
    simp [aWf, fw]
    omega
  rw [e] at this
  exact this
theorem ag_count (h : OKA T A) (hT : T ≤ 100000) (x : Int32) : AGR T A (fun h => f_X9_count h 0 x) (fun h => f_X10_count h 296 x) := by
  have ht : ∀ c, c < 3 → wT (sW A) c < 2 ^ 31 := fun c hc => by have := h.1.1 c hc; omega
  have hinA : ∀ (S : o_S) (n : Nat × Nat × Nat), f_X10_in (ov S n) (Int32.toInt64 x) 0 2 = some (ov S n, b2i (inR 0 3 x)) := fun S n => r_in _ _ (lo := 0) (hi := 3) (by decide) (by decide)
  have hinB : ∀ (S : o_S) (n : Nat × Nat × Nat), f_X10_in (ov S n) (Int32.toInt64 x) 3 5 = some (ov S n, b2i (inR 3 6 x)) := fun S n => r_in _ _ (lo := 3) (hi := 6) (by decide) (by decide)
  by_cases e1 : inR 0 3 x = true
  · obtain ⟨c, -, hc, rfl⟩ := inR_t e1 (by omega)
    refine ⟨nI (wL (sW A) c).length, A, fun S n H => ⟨S, ?_, H, AG.rf⟩, fun S n H => ⟨_, ?_, H.fld (k := 0) 0 (by omega) (by omega), (RZ.fld 0 (by omega) (by omega)).ag⟩, h.mono (by omega)⟩
    · unfold f_X9_count b_X9_count_0
      simp (disch := omega) only [x_chk, i_lt0, if_false, show (3 : Int32) = nI 3 from rfl, i_le, show ¬ 3 ≤ c by omega, xR0, u_R0, u_cp hc, u_R3 hc, bS, s_gI (H.lg hc)]
    · have H0 : RR (o_sf S 296 0 0) A := H.fld 0 (by omega) (by omega)
      have e := H0.1.len hc
      unfold f_X10_count b_X10_count_0
      simp (disch := omega) only [r_chk, rP0, bS, hinA, e1, b2i_eq0, Bool.true_eq_false, if_false, rR7, show (180 : Int32) = nI 180 from rfl, nI_add, r_mem, e]
  · have e1' : inR 0 3 x = false := by simpa using e1
    by_cases e2 : inR 3 6 x = true
    · obtain ⟨c3, h3, h6, rfl⟩ := inR_t e2 (by omega)
      obtain ⟨c, rfl⟩ : ∃ c, c3 = c + 3 := ⟨c3 - 3, by omega⟩
      have hc : c < 3 := by omega
      have es : nI (c + 3) - 3 = nI c := by
        rw [show (3 : Int32) = nI 3 from rfl, pk_sub (by omega), Nat.add_sub_cancel]
      refine ⟨nI (mFo (tr (sW A) c)), A, fun S n H => ⟨S, ?_, H, AG.rf⟩, fun S n H => ?_, h.mono (by omega)⟩
      · have hfo : f_X7_folders (ov S n) (4 + 8 * c + 6) = some (ov S n, nI (mFo (tr (sW A) c))) := t_folders (H.te hc)
        unfold f_X9_count b_X9_count_0 b_X9_count_25
        simp only [es]
        simp (disch := omega) only [x_chk, i_lt0, if_false, show (3 : Int32) = nI 3 from rfl, show (6 : Int32) = nI 6 from rfl, i_le, i_lt, show 3 ≤ c + 3 by omega, show ¬ c + 3 < 3 by omega, show ¬ 6 ≤ c + 3 by omega, if_true, xR0, u_R0, u_cp hc, u_R5 hc, bS, hfo]
      · have H0 : RR (o_sf S 296 0 0) A := H.fld 0 (by omega) (by omega)
        obtain ⟨S1, g1, g2, g3, g4, g5, g6, -, -⟩ := r_laysR (n := n) h H0 hc (s := 0) (by omega)
        have g1 : f_X10_lays (ov (o_sf S 296 0 0) n) 296 0 (nI c) = some (ov S1 n, ()) := g1
        have hfo : f_X10_folders (ov S1 n) 296 0 = some (ov S1 n, nI (mFo (tr (sW A) c))) := r_folders (s := 0) g4
        refine ⟨S1, ?_, g2, ((RZ.fld 0 (by omega) (by omega)).tr g6).ag⟩
        unfold f_X10_count b_X10_count_0
        simp only [r_chk, rP0, bS, hinA, e1', hinB, e2, b2i_eq0, Bool.true_eq_false, if_false, if_true, es, g1, hfo]
    · have e2' : inR 3 6 x = false := by simpa using e2
      have x54 : ∀ S n, f_X9_count (ov S n) 0 x = b_X9_count_54 (ov S n) 0 x := by
        intro S n
        unfold f_X9_count b_X9_count_0 b_X9_count_25
        rw [x_rng x (show 0 < 2 ^ 31 by omega) (show 3 < 2 ^ 31 by omega)] at e1'
        rw [x_rng x (show 3 < 2 ^ 31 by omega) (show 6 < 2 ^ 31 by omega)] at e2'
        rw [x_chk]
        by_cases h0 : x < 0
        · have h3 : x < 3 := by
            rw [Int32.lt_iff_toInt_lt] at h0 ⊢
            have a0 : (0 : Int32).toInt = 0 := by decide
            have a3 : (3 : Int32).toInt = 3 := by decide
            omega
          rw [if_pos h0, if_pos h3]
        · have h0' : ¬ x < nI 0 := h0
          have h3 : (3 : Int32) ≤ x := by
            have : nI 3 ≤ x := by simpa [h0'] using e1'
            exact this
          have h3' : ¬ x < nI 3 := Int32.not_lt.mpr h3
          have h3'' : ¬ x < 3 := h3'
          have h6 : (6 : Int32) ≤ x := by
            have : nI 6 ≤ x := by simpa [h3'] using e2'
            exact this
          rw [if_neg h0, if_pos h3, if_neg h3'', if_pos h6]
      by_cases c6 : x = 6
      · subst c6
        refine ⟨nI (aWf (sW A) 0 + aWf (sW A) 1 + aWf (sW A) 2), A, fun S n H => ⟨S, ?_, H, AG.rf⟩, fun S n H => ⟨_, ?_, H.fld (k := 0) 0 (by omega) (by omega), (RZ.fld 0 (by omega) (by omega)).ag⟩, h.mono (by omega)⟩
        · show f_X9_count (ov S n) 0 6 = _
          rw [x54]
          unfold b_X9_count_54
          simp only [if_true, xR0, bS, x_waiting H.1]
        · have H0 : RR (o_sf S 296 0 0) A := H.fld 0 (by omega) (by omega)
          unfold f_X10_count b_X10_count_0
          simp only [r_chk, rP0, bS, hinA, e1', hinB, e2', b2i_eq0, if_true, r_lettersAll H0]
      by_cases c7 : x = 7
      · subst c7
        refine ⟨nI (sR A).length, A, fun S n H => ⟨S, ?_, H, AG.rf⟩, fun S n H => ⟨_, ?_, H.fld (k := 0) 0 (by omega) (by omega), (RZ.fld 0 (by omega) (by omega)).ag⟩, h.mono (by omega)⟩
        · show f_X9_count (ov S n) 0 7 = _
          rw [x54]
          unfold b_X9_count_54
          simp only [c6, if_false, if_true, xR4, bS, H.rl]
        · have H0 : RR (o_sf S 296 0 0) A := H.fld 0 (by omega) (by omega)
          unfold f_X10_count b_X10_count_0
          simp only [r_chk, rP0, bS, hinA, e1', hinB, e2', b2i_eq0, if_true, c6, if_false, H0.rl]
      by_cases c8 : x = 8
      · subst c8
        refine ⟨nI (sX A).length, A, fun S n H => ⟨S, ?_, H, AG.rf⟩, fun S n H => ⟨_, ?_, H.fld (k := 0) 0 (by omega) (by omega), (RZ.fld 0 (by omega) (by omega)).ag⟩, h.mono (by omega)⟩
        · show f_X9_count (ov S n) 0 8 = _
          rw [x54]
          unfold b_X9_count_54
          simp only [c6, c7, if_false, if_true, xR5, bS, H.xl]
        · have H0 : RR (o_sf S 296 0 0) A := H.fld 0 (by omega) (by omega)
          unfold f_X10_count b_X10_count_0
          simp only [r_chk, rP0, bS, hinA, e1', hinB, e2', b2i_eq0, if_true, c6, c7, if_false, H0.xl]
      by_cases c9 : x = 9
      · subst c9
        refine ⟨nI (max (wT (sW A) 0) (max (wT (sW A) 1) (wT (sW A) 2))), A, fun S n H => ⟨S, ?_, H, AG.rf⟩, fun S n H => ⟨_, ?_, H.fld (k := 0) 0 (by omega) (by omega), (RZ.fld 0 (by omega) (by omega)).ag⟩, h.mono (by omega)⟩
        · show f_X9_count (ov S n) 0 9 = _
          rw [x54]
          unfold b_X9_count_54
          simp only [c6, c7, c8, if_false, if_true, xR0, bS, x_latest H.1 ht]
        · have H0 : RR (o_sf S 296 0 0) A := H.fld 0 (by omega) (by omega)
          have m0 : q_lI 0 (ov (o_sf S 296 0 0) n) 299 0 = some (nI (wT (sW A) 0)) := (r_mem (j := 0) (by omega)).trans (congrArg some (H0.1.tm (c := 0) (by omega)))
          have m1 : q_lI 0 (ov (o_sf S 296 0 0) n) 299 1 = some (nI (wT (sW A) 1)) := (r_mem (j := 1) (by omega)).trans (congrArg some (H0.1.tm (c := 1) (by omega)))
          have m2 : q_lI 0 (ov (o_sf S 296 0 0) n) 299 2 = some (nI (wT (sW A) 2)) := (r_mem (j := 2) (by omega)).trans (congrArg some (H0.1.tm (c := 2) (by omega)))
          have t0 := ht 0 (by omega)
          have t1 := ht 1 (by omega)
          have t2 := ht 2 (by omega)
          unfold f_X10_count b_X10_count_0
          simp only [r_chk, rP0, bS, hinA, e1', hinB, e2', b2i_eq0, if_true, c6, c7, c8, if_false, rR7, m0, m1, m2, i_max t1 t2, i_max t0 (show max (wT (sW A) 1) (wT (sW A) 2) < 2 ^ 31 by omega)]
      refine ⟨-1, A, fun S n H => ⟨S, ?_, H, AG.rf⟩, fun S n H => ⟨_, ?_, H.fld (k := 0) 0 (by omega) (by omega), (RZ.fld 0 (by omega) (by omega)).ag⟩, h.mono (by omega)⟩
      · show f_X9_count (ov S n) 0 x = _
        rw [x54]
        unfold b_X9_count_54
        simp only [c6, c7, c8, c9, if_false]
      · unfold f_X10_count b_X10_count_0
        simp only [r_chk, rP0, bS, hinA, e1', hinB, e2', b2i_eq0, if_true, c6, c7, c8, c9, if_false]
/-! those that throw -/
def AGT {α : Type} (A : aS) (f : q_H → Option (q_H × α)) (t : q_H → Option (q_H × Unit)) (g : q_H → Option (q_H × α)) : Prop :=
  (∃ v, (∀ S n, CR S A → f (ov S n) = some (ov S n, v)) ∧ ∀ S n, RR S A → ∃ S', g (ov S n) = some (ov S' n, v) ∧ RR S' A ∧ AG (fun b => 296 ≤ b ∧ b < 313) S S' ∧ S'.1 296 0 = 0) ∨
  ((∀ S n, CR S A → f (ov S n) = none ∧ t (ov S n) = some (q_th (ov S n), ())) ∧ ∀ S n, RR S A → ∃ S' v, g (ov S n) = some (ov S' n, v) ∧ RR S' A ∧ AG (fun b => 296 ≤ b ∧ b < 313) S S' ∧ S'.1 296 0 = 1)
theorem f0_0 (v : Int32) : (o_sf S 296 0 v).1 296 0 = v := by rw [s_F, if_pos rfl, pk_us]
theorem x_has {S : o_S} {n : Nat × Nat × Nat} {A : aS} (H : CR S A) (x : Int32) : f_X4_has (ov S n) 93 x = some (ov S n, b2i (inR 0 (sR A).length x)) := by
  have hl := H.2.2.2.1.1
  unfold f_X4_has b_X4_has_0
  rw [yC]
  cases e : inR 0 (sR A).length x
  · by_cases h0 : x < 0
    · rw [if_pos h0]
      rfl
    · obtain ⟨j, hj, rfl⟩ := nI_of h0
      have hn : ¬ j < (sR A).length := fun q => inR_ne e (Nat.zero_le j) q hj rfl
      rw [if_neg h0, H.rl, bS, if_pos (by rw [i_le (by omega) hj]; omega)]
      rfl
  · obtain ⟨i, -, hi, rfl⟩ := inR_t e (by omega)
    rw [if_neg (nI_pos (by omega)), H.rl, bS, if_neg (by rw [i_le (by omega) (by omega)]; omega), yR0, bS, yLn, bS, if_neg (by rw [i_le (by omega) (by omega)]; omega)]
    rfl
theorem ag_row (x : Int32) : AGT A (fun h => f_X9_row h 0 x) (fun h => t_X9_row h 0 x) (fun h => f_X10_row h 296 x) := by
  have hin : ∀ (S : o_S) (n : Nat × Nat × Nat), (sR A).length ≤ 80 → f_X10_in (ov S n) (Int32.toInt64 x) 0 (Int32.toInt64 (nI (sR A).length - 1)) = some (ov S n, b2i (inR 0 (sR A).length x)) := fun S n hl => r_in _ _ (lo := 0) (hi := (sR A).length) (by decide) (by
    have := pk_sub_toInt (a := (sR A).length) (b := 1) (by omega) (by omega)
    have e : nI (sR A).length - 1 = nI (sR A).length - nI 1 := rfl
    rw [Int32.toInt_toInt64, e, this]
    omega)
  by_cases e : inR 0 (sR A).length x = true
  · by_cases hl : (sR A).length ≤ 80
    · obtain ⟨i, -, hi, rfl⟩ := inR_t e (by omega)
      refine Or.inl ⟨(sR A)[i], fun S n H => ?_, fun S n H => ⟨o_sf S 296 0 0, ?_, H.fld 0 (by omega) (by omega), (RZ.fld 0 (by omega) (by omega)).ag, f0_0 0⟩⟩
      · have hv := H.2.2.2.1.2.2 i _ (List.getElem?_eq_getElem hi)
        unfold f_X9_row b_X9_row_0
        simp (disch := omega) only [x_chk, xR4, bS, x_has H, e, b2i_eq0, Bool.true_eq_false, if_false, yR0, yLd, hv]
      · have hv : (o_sf S 296 0 0).2.2 297 i = (sR A)[i] := H.2.2.1.2.2 i _ (List.getElem?_eq_getElem hi)
        have f0 : f_X10_flag (ov S n) 0 = some (ov S n, 0) := rfl
        unfold f_X10_row b_X10_row_0 b_X10_row_22
        simp only [r_chk, H.rl, bS, hin S n hl, e, b2i_eq0, Bool.true_eq_false, if_false, f0, rP0, rI0, f0_0, show ¬ (0 : Int32) = 1 by decide, rR2, rwL (show i < 96 by omega), hv]
    · refine Or.inl ⟨0, fun S n H => absurd H.2.2.2.1.1 hl, fun S n H => absurd H.2.2.1.1 hl⟩
  · have e' : inR 0 (sR A).length x = false := by simpa using e
    refine Or.inr ⟨fun S n H => ?_, fun S n H => ⟨o_sf S 296 0 1, 0, ?_, H.fld 1 (by omega) (by omega), (RZ.fld 1 (by omega) (by omega)).ag, f0_0 1⟩⟩
    · have hl := H.2.2.2.1.1
      show f_X9_row (ov S n) 0 x = none ∧ t_X9_row (ov S n) 0 x = _
      unfold f_X9_row b_X9_row_0 t_X9_row bt_X9_row_0
      rw [x_chk, x_chk]
      simp only [xR4, bS, x_has H, e', b2i_eq0, if_true, and_self]
    · have hl := H.2.2.1.1
      have f1 : f_X10_flag (ov S n) 1 = some (ov S n, 1) := rfl
      unfold f_X10_row b_X10_row_0 b_X10_row_22
      simp only [r_chk, H.rl, bS, hin S n hl, e', b2i_eq0, if_true, f1, rP0, rI0, f0_0]
theorem ag_entry (h : OKA T A) (x y z : Int32) : AGT A (fun h => f_X9_entry h 0 x y z) (fun h => t_X9_entry h 0 x y z) (fun h => f_X10_entry h 296 x y z) := by
  have hin : ∀ (S : o_S) (n : Nat × Nat × Nat), f_X10_in (ov S n) (Int32.toInt64 z) 0 4 = some (ov S n, b2i (inR 0 5 z)) := fun S n => r_in _ _ (lo := 0) (hi := 5) (by decide) (by decide)
  have f0 : ∀ (S : o_S) (n : Nat × Nat × Nat), f_X10_flag (ov S n) 0 = some (ov S n, 0) := fun _ _ => rfl
  have f1 : ∀ (S : o_S) (n : Nat × Nat × Nat), f_X10_flag (ov S n) 1 = some (ov S n, 1) := fun _ _ => rfl
  have n10 : ¬ (1 : Int32) = 0 := by decide
  have n01 : ¬ (0 : Int32) = 1 := by decide
  by_cases e : (inR 0 3 x && (inR 2 14 y && inR 0 5 z)) = true
  · simp only [Bool.and_eq_true] at e
    obtain ⟨e1, e2, e3⟩ := e
    obtain ⟨c, -, hc, rfl⟩ := inR_t e1 (by omega)
    obtain ⟨f, hf2, hf, rfl⟩ := inR_t e2 (by omega)
    obtain ⟨m, -, hm, rfl⟩ := inR_t e3 (by omega)
    have ti := h.1.ti hc
    have su := h.1.su hc
    by_cases ht : mTh (tr (sW A) c) f = true
    · have hne : tr (sW A) c f ≠ 0 := by simpa [mTh, show ¬ f < 2 by omega] using ht
      have hb := ti.b f
      obtain ⟨v, hv⟩ : ∃ v, v = (if m = 2 then nI (mRk (tr (sW A) c) f) else eT (tr (sW A) c f) (if m < 2 then m else m - 1)) := ⟨_, rfl⟩
      refine Or.inl ⟨v, fun S n H => ?_, fun S n H => ?_⟩
      · unfold f_X9_entry b_X9_entry_0
        simp only [x_chk, x_isCopy, x_isFolder, e1, e2, b2i_eq0, Bool.true_eq_false, if_false, bS, xR0, u_R0, u_cp hc, u_R5 hc, t_isThere (H.te hc) (show f < 16 by omega), ht, t_get (H.te hc), t_ld (H.te hc) (show f < 16 by omega), c_parent _ hb, c_name _ hb, t_rankOf (H.te hc) (show f < 16 by omega), c_time _ hb, c_sender _ hb]
        have hm' : m = 0 ∨ m = 1 ∨ m = 2 ∨ m = 3 ∨ m = 4 := by omega
        rcases hm' with rfl | rfl | rfl | rfl | rfl
        · rw [if_pos (show nI 0 = 0 from rfl), hv]
          rw [if_neg (by omega), if_pos (by omega), eT_0n hne]
        · rw [if_neg (show ¬ nI 1 = 0 by decide), if_pos (show nI 1 = 1 from rfl), hv]
          rw [if_neg (by omega), if_pos (by omega)]
          rfl
        · rw [if_neg (show ¬ nI 2 = 0 by decide), if_neg (show ¬ nI 2 = 1 by decide), if_pos (show nI 2 = 2 from rfl), hv]
          rw [if_pos rfl]
        · rw [if_neg (show ¬ nI 3 = 0 by decide), if_neg (show ¬ nI 3 = 1 by decide), if_neg (show ¬ nI 3 = 2 by decide), if_pos (show nI 3 = 3 from rfl), hv]
          rw [if_neg (by omega), if_neg (by omega)]
          rfl
        · rw [if_neg (show ¬ nI 4 = 0 by decide), if_neg (show ¬ nI 4 = 1 by decide), if_neg (show ¬ nI 4 = 2 by decide), if_neg (show ¬ nI 4 = 3 by decide), if_pos (show nI 4 = 4 from rfl), hv]
          rw [if_neg (by omega), if_neg (by omega)]
          rfl
      · have H0 : RR (o_sf S 296 0 0) A := H.fld 0 (by omega) (by omega)
        obtain ⟨S1, g1, g2, g3, g4, g5, g6, -, -⟩ := r_laysR (n := n) h H0 hc (s := 0) (by omega)
        have g1 : f_X10_lays (ov (o_sf S 296 0 0) n) 296 0 (nI c) = some (ov S1 n, ()) := g1
        have a1 : f_X10_isThere (ov S1 n) 296 0 (nI f) = _ := r_isThere (s := 0) g4 hf
        have g4' : TT (o_sf S1 296 0 0) 0 (tr (sW A) c) := g4
        have a2 : f_X10_rank (ov (o_sf S1 296 0 0) n) 296 0 (nI f) = _ := r_rank (s := 0) g4' ti su hne
        have a3 : ∀ q, q < 4 → f_X10_its (ov (o_sf S1 296 0 0) n) 296 0 (nI f) (nI q) = _ := fun q hq => r_its (s := 0) g4' hf hq
        refine ⟨o_sf S1 296 0 0, ?_, g2.fld 0 (by omega) (by omega), (((RZ.fld 0 (by omega) (by omega)).tr g6).tr (RZ.fld 0 (by omega) (by omega))).ag, f0_0 0⟩
        unfold f_X10_entry b_X10_entry_0 b_X10_entry_27 b_X10_entry_32 b_X10_entry_66 b_X10_entry_72 b_X10_entry_111
        simp only [r_chk, r_isCopy, r_isFolder, hin, e1, e2, e3, b2i_eq0, Bool.true_eq_false, if_false, bS, f0, rP0, rI0, f0_0, if_true, g1, a1, ht, n01, a2]
        have hm' : m = 0 ∨ m = 1 ∨ m = 2 ∨ m = 3 ∨ m = 4 := by omega
        rcases hm' with rfl | rfl | rfl | rfl | rfl
        · rw [if_neg (show ¬ nI 0 = 2 by decide), if_neg (show ¬ (2 : Int32) ≤ nI 0 by decide), a3 0 (by omega), bS, hv, if_neg (by omega), if_pos (by omega)]
        · rw [if_neg (show ¬ nI 1 = 2 by decide), if_neg (show ¬ (2 : Int32) ≤ nI 1 by decide), a3 1 (by omega), bS, hv, if_neg (by omega), if_pos (by omega)]
        · rw [if_pos (show nI 2 = 2 from rfl), hv, if_pos rfl]
        · rw [if_neg (show ¬ nI 3 = 2 by decide), if_pos (show (2 : Int32) ≤ nI 3 by decide), show nI 3 - 1 = nI 2 from rfl, a3 2 (by omega), bS, hv, if_neg (by omega), if_neg (by omega)]
        · rw [if_neg (show ¬ nI 4 = 2 by decide), if_pos (show (2 : Int32) ≤ nI 4 by decide), show nI 4 - 1 = nI 3 from rfl, a3 3 (by omega), bS, hv, if_neg (by omega), if_neg (by omega)]
    · have ht : mTh (tr (sW A) c) f = false := by simpa using ht
      refine Or.inr ⟨fun S n H => ?_, fun S n H => ?_⟩
      · unfold f_X9_entry b_X9_entry_0 t_X9_entry bt_X9_entry_0
        simp only [x_chk, x_isCopy, x_isFolder, e1, e2, b2i_eq0, Bool.true_eq_false, if_false, bS, xR0, u_R0, u_cp hc, u_R5 hc, t_isThere (H.te hc) (show f < 16 by omega), ht, if_true, and_self]
      · have H0 : RR (o_sf S 296 0 0) A := H.fld 0 (by omega) (by omega)
        obtain ⟨S1, g1, g2, g3, g4, g5, g6, -, -⟩ := r_laysR (n := n) h H0 hc (s := 0) (by omega)
        have g1 : f_X10_lays (ov (o_sf S 296 0 0) n) 296 0 (nI c) = some (ov S1 n, ()) := g1
        have a1 : f_X10_isThere (ov S1 n) 296 0 (nI f) = _ := r_isThere (s := 0) g4 hf
        refine ⟨o_sf S1 296 0 1, 0, ?_, g2.fld 1 (by omega) (by omega), (((RZ.fld 0 (by omega) (by omega)).tr g6).tr (RZ.fld 1 (by omega) (by omega))).ag, f0_0 1⟩
        unfold f_X10_entry b_X10_entry_0 b_X10_entry_27 b_X10_entry_32 b_X10_entry_66 b_X10_entry_72 b_X10_entry_111
        simp only [r_chk, r_isCopy, r_isFolder, hin, e1, e2, e3, b2i_eq0, Bool.true_eq_false, if_false, bS, f0, f1, rP0, rI0, f0_0, if_true, g1, a1, ht]
  · have e : (inR 0 3 x && (inR 2 14 y && inR 0 5 z)) = false := by simpa using e
    refine Or.inr ⟨fun S n H => ?_, fun S n H => ⟨o_sf S 296 0 1, 0, ?_, H.fld 1 (by omega) (by omega), (RZ.fld 1 (by omega) (by omega)).ag, f0_0 1⟩⟩
    · show f_X9_entry (ov S n) 0 x y z = none ∧ t_X9_entry (ov S n) 0 x y z = _
      unfold f_X9_entry b_X9_entry_0 t_X9_entry bt_X9_entry_0 b_X9_entry_14 bt_X9_entry_14
      simp only [x_chk, x_isCopy, x_isFolder, b2i_eq0, bS]
      cases e1 : inR 0 3 x
      · simp
      · cases e2 : inR 2 14 y
        · simp
        · have ez : inR 0 5 z = false := by
            rw [e1, e2, Bool.true_and, Bool.true_and] at e
            exact e
          obtain ⟨c, -, hc, rfl⟩ := inR_t e1 (by omega)
          obtain ⟨f, hf2, hf, rfl⟩ := inR_t e2 (by omega)
          have z0 : ¬ z = 0 := inR_ne ez (k := 0) (by omega) (by omega) (by omega)
          have z1 : ¬ z = 1 := inR_ne ez (k := 1) (by omega) (by omega) (by omega)
          have z2 : ¬ z = 2 := inR_ne ez (k := 2) (by omega) (by omega) (by omega)
          have z3 : ¬ z = 3 := inR_ne ez (k := 3) (by omega) (by omega) (by omega)
          have z4 : ¬ z = 4 := inR_ne ez (k := 4) (by omega) (by omega) (by omega)
          simp only [Bool.true_eq_false, if_false, bS, xR0, u_R0, u_cp hc, u_R5 hc, t_isThere (H.te hc) (show f < 16 by omega), b2i_eq0, t_get (H.te hc), t_ld (H.te hc) (show f < 16 by omega), z0, z1, z2, z3, z4]
          cases mTh (tr (sW A) c) f <;> simp
    · show f_X10_entry (ov S n) 296 x y z = _
      unfold f_X10_entry b_X10_entry_0 b_X10_entry_27 b_X10_entry_32 b_X10_entry_72
      simp only [r_chk, r_isCopy, r_isFolder, hin, b2i_eq0, bS, f1, rP0, rI0, f0_0, n10, if_false, if_true]
      cases e1 : inR 0 3 x
      · simp
      · cases e2 : inR 2 14 y
        · simp
        · rw [e1, e2, Bool.true_and, Bool.true_and] at e
          simp [e]
theorem ag_move (h : OKA T A) (x y z : Int32) : AGT A (fun h => f_X9_move h 0 x y z) (fun h => t_X9_move h 0 x y z) (fun h => f_X10_move h 296 x y z) := by
  have hin : ∀ (S : o_S) (n : Nat × Nat × Nat), f_X10_in (ov S n) (Int32.toInt64 z) 0 5 = some (ov S n, b2i (inR 0 6 z)) := fun S n => r_in _ _ (lo := 0) (hi := 6) (by decide) (by decide)
  have hinL : ∀ (S : o_S) (n : Nat × Nat × Nat) (L : Nat), L ≤ 20 → f_X10_in (ov S n) (Int32.toInt64 y) 0 (Int32.toInt64 (nI L - 1)) = some (ov S n, b2i (inR 0 L y)) := fun S n L hl => r_in _ _ (lo := 0) (hi := L) (by decide) (by
    have := pk_sub_toInt (a := L) (b := 1) (by omega) (by omega)
    have e : nI L - 1 = nI L - nI 1 := rfl
    rw [Int32.toInt_toInt64, e, this]
    omega)
  have f0 : ∀ (S : o_S) (n : Nat × Nat × Nat), f_X10_flag (ov S n) 0 = some (ov S n, 0) := fun _ _ => rfl
  have f1 : ∀ (S : o_S) (n : Nat × Nat × Nat), f_X10_flag (ov S n) 1 = some (ov S n, 1) := fun _ _ => rfl
  have n10 : ¬ (1 : Int32) = 0 := by decide
  have n01 : ¬ (0 : Int32) = 1 := by decide
  have hhas : ∀ (S : o_S) (n : Nat × Nat × Nat) (c : Nat), CR S A → c < 3 → f_X0_hasMove (ov S n) (4 + 8 * c) y = some (ov S n, b2i (inR 0 (wL (sW A) c).length y)) := by
    intro S n c H hc
    have hl := (H.lg hc).2.2.1
    unfold f_X0_hasMove b_X0_hasMove_0
    rw [cp_chk (u_k hc), x_rng y (show 0 < 2 ^ 31 by omega) (show (wL (sW A) c).length < 2 ^ 31 by omega)]
    by_cases h0 : y < 0
    · have h0' : y < nI 0 := h0
      simp [h0, h0', b2i]
    · have h0' : ¬ y < nI 0 := h0
      simp only [h0, if_false, u_R3 hc, bS, s_gI (H.lg hc)]
      by_cases h1 : nI (wL (sW A) c).length ≤ y
      · simp [h0', h1, b2i]
      · simp [h0', h1, b2i]
  by_cases e1 : inR 0 3 x = true
  · obtain ⟨c, -, hc, rfl⟩ := inR_t e1 (by omega)
    have hl20 := (h.1.2.2.1 c hc).1
    by_cases e2 : inR 0 (wL (sW A) c).length y = true
    · obtain ⟨i, -, hi, rfl⟩ := inR_t e2 (by omega)
      have hx : (wL (sW A) c)[i]? = some (wL (sW A) c)[i] := List.getElem?_eq_getElem hi
      have hb : (wL (sW A) c)[i] < 2 ^ 31 := h.1.lb hc _ (List.getElem_mem hi)
      have hv20 := vds_lt 1000 (wL (sW A) c) (wB (sW A) c) (N := 20) hl20
      have hat : ∀ (S : o_S) (n : Nat × Nat × Nat), CR S A → f_X5_at (ov S n) (4 + 8 * c + 2) (nI i) = some (ov S n, lN (wL (sW A) c)[i]) := fun S n H => by
        rw [s_at (H.lg hc) (by omega), List.getD_eq_getElem?_getD, hx]; rfl
      by_cases e3 : inR 0 6 z = true
      · obtain ⟨m, -, hm, rfl⟩ := inR_t e3 (by omega)
        obtain ⟨v, hv⟩ : ∃ v, v = (if m = 5 then b2i ((mVds 1000 (wL (sW A) c) 0 (wB (sW A) c) 0).testBit i) else eM (wL (sW A) c)[i] m) := ⟨_, rfl⟩
        refine Or.inl ⟨v, fun S n H => ?_, fun S n H => ?_⟩
        · have hh := hhas S n c H hc
          unfold f_X9_move b_X9_move_0
          simp only [x_chk, x_isCopy, e1, b2i_eq0, Bool.true_eq_false, if_false, bS, xR0, u_R0, u_cp hc, u_R3 hc, hh, e2, hat S n H, c_time _ hb, c_sender _ hb, c_folder _ hb, c_parent _ hb, c_name _ hb, H.vd hc, i_tb (show mVds 1000 (wL (sW A) c) 0 (wB (sW A) c) 0 < 2 ^ 32 by omega) (show i < 32 by omega)]
          have hm' : m = 0 ∨ m = 1 ∨ m = 2 ∨ m = 3 ∨ m = 4 ∨ m = 5 := by omega
          rcases hm' with rfl | rfl | rfl | rfl | rfl | rfl
          · rw [if_pos (show nI 0 = 0 from rfl), hv]
            rw [if_neg (by omega)]
            rfl
          · rw [if_neg (show ¬ nI 1 = 0 by decide), if_pos (show nI 1 = 1 from rfl), hv]
            rw [if_neg (by omega)]
            rfl
          · rw [if_neg (show ¬ nI 2 = 0 by decide), if_neg (show ¬ nI 2 = 1 by decide), if_pos (show nI 2 = 2 from rfl), hv]
            rw [if_neg (by omega)]
            rfl
          · rw [if_neg (show ¬ nI 3 = 0 by decide), if_neg (show ¬ nI 3 = 1 by decide), if_neg (show ¬ nI 3 = 2 by decide), if_pos (show nI 3 = 3 from rfl), hv]
            rw [if_neg (by omega)]
            rfl
          · rw [if_neg (show ¬ nI 4 = 0 by decide), if_neg (show ¬ nI 4 = 1 by decide), if_neg (show ¬ nI 4 = 2 by decide), if_neg (show ¬ nI 4 = 3 by decide), if_pos (show nI 4 = 4 from rfl), hv]
            rw [if_neg (by omega)]
            rfl
          · rw [if_neg (show ¬ nI 5 = 0 by decide), if_neg (show ¬ nI 5 = 1 by decide), if_neg (show ¬ nI 5 = 2 by decide), if_neg (show ¬ nI 5 = 3 by decide), if_neg (show ¬ nI 5 = 4 by decide), if_pos (show nI 5 = 5 from rfl), hv]
            rw [if_pos rfl]
        · have H0 : RR (o_sf (o_sf S 296 0 0) 296 0 0) A := (H.fld (k := 0) 0 (by omega) (by omega)).fld 0 (by omega) (by omega)
          have elen := (H.fld (k := 0) 0 (by omega) (by omega)).1.len hc
          obtain ⟨S1, g1, g2, g3, g4, g5, g6, g7, -⟩ := r_laysR (n := n) h H0 hc (s := 0) (by omega)
          have g1 : f_X10_lays (ov (o_sf (o_sf S 296 0 0) 296 0 0) n) 296 0 (nI c) = some (ov S1 n, ()) := g1
          have hvl : (mVl 1000 (wL (sW A) c) 0 (wB (sW A) c))[i]? = some ((mVds 1000 (wL (sW A) c) 0 (wB (sW A) c) 0).testBit i) := by
            rw [vds_bit0, List.getElem?_eq_getElem (by rw [vl_len]; exact hi)]
            rfl
          have hvo := g5 i _ hvl
          have hls := fun q hq => (g3.2.2 i _ hx).2 q hq
          refine ⟨S1, ?_, g2, (((RZ.fld 0 (by omega) (by omega)).tr (RZ.fld 0 (by omega) (by omega))).tr g6).ag, by rw [g7 0 (by omega), f0_0]⟩
          unfold f_X10_move b_X10_move_0 b_X10_move_20 b_X10_move_25 b_X10_move_66 b_X10_move_72
          simp only [r_chk, r_isCopy, hin, e1, e3, b2i_eq0, Bool.true_eq_false, if_false, bS, f0, rP0, rI0, f0_0, if_true, rR7, show (180 : Int32) = nI 180 from rfl, nI_add, r_mem (show 180 + c < 2832 by omega), elen, hinL _ _ _ hl20, e2, n01, g1]
          by_cases h5 : m = 5
          · subst h5
            have hv : v = b2i ((mVds 1000 (wL (sW A) c) 0 (wB (sW A) c) 0).testBit i) := hv
            rw [if_pos (show nI 5 = 5 from rfl), rR10, bS, r_voi (show i < 40 by omega), bS, hvo, r_flag, bS, hv]
          · have hn5 : ¬ nI m = 5 := by
              rw [show (5 : Int32) = nI 5 from rfl, i_eq (by omega) (by omega)]
              exact h5
            rw [if_neg h5] at hv
            rw [if_neg hn5, rR8, bS, show (5 : Int32) * nI i + nI m = nI (5 * i + m) by rw [show (5 : Int32) = nI 5 from rfl, pk_mul, nI_add], r_lst (show 5 * i + m < 200 by omega), bS, hls m (by omega), hv]
      · have e3 : inR 0 6 z = false := by simpa using e3
        refine Or.inr ⟨fun S n H => ?_, fun S n H => ⟨o_sf S 296 0 1, 0, ?_, H.fld 1 (by omega) (by omega), (RZ.fld 1 (by omega) (by omega)).ag, f0_0 1⟩⟩
        · have hh := hhas S n c H hc
          have z0 : ¬ z = 0 := inR_ne e3 (k := 0) (by omega) (by omega) (by omega)
          have z1 : ¬ z = 1 := inR_ne e3 (k := 1) (by omega) (by omega) (by omega)
          have z2 : ¬ z = 2 := inR_ne e3 (k := 2) (by omega) (by omega) (by omega)
          have z3 : ¬ z = 3 := inR_ne e3 (k := 3) (by omega) (by omega) (by omega)
          have z4 : ¬ z = 4 := inR_ne e3 (k := 4) (by omega) (by omega) (by omega)
          have z5 : ¬ z = 5 := inR_ne e3 (k := 5) (by omega) (by omega) (by omega)
          unfold f_X9_move b_X9_move_0 t_X9_move bt_X9_move_0
          simp only [x_chk, x_isCopy, e1, b2i_eq0, Bool.true_eq_false, if_false, bS, xR0, u_R0, u_cp hc, u_R3 hc, hh, e2, hat S n H, z0, z1, z2, z3, z4, z5, and_self]
        · unfold f_X10_move b_X10_move_0 b_X10_move_20 b_X10_move_25 b_X10_move_72
          simp only [r_chk, r_isCopy, hin, e1, e3, b2i_eq0, Bool.true_eq_false, if_false, bS, f1, rP0, rI0, f0_0, n10, if_true]
    · have e2 : inR 0 (wL (sW A) c).length y = false := by simpa using e2
      refine Or.inr ⟨fun S n H => ?_, fun S n H => ?_⟩
      · have hh := hhas S n c H hc
        unfold f_X9_move b_X9_move_0 t_X9_move bt_X9_move_0 b_X9_move_23 bt_X9_move_23
        simp only [x_chk, x_isCopy, e1, b2i_eq0, Bool.true_eq_false, if_false, bS, xR0, u_R0, u_cp hc, hh, e2, if_true, and_self]
      · by_cases e3 : inR 0 6 z = true
        · have elen := (H.fld (k := 0) 0 (by omega) (by omega)).1.len hc
          refine ⟨o_sf (o_sf S 296 0 0) 296 0 1, 0, ?_, (H.fld (k := 0) 0 (by omega) (by omega)).fld 1 (by omega) (by omega), ((RZ.fld 0 (by omega) (by omega)).tr (RZ.fld 1 (by omega) (by omega))).ag, f0_0 1⟩
          unfold f_X10_move b_X10_move_0 b_X10_move_20 b_X10_move_25 b_X10_move_66 b_X10_move_72
          simp only [r_chk, r_isCopy, hin, e1, e3, b2i_eq0, Bool.true_eq_false, if_false, bS, f0, f1, rP0, rI0, f0_0, if_true, rR7, show (180 : Int32) = nI 180 from rfl, nI_add, r_mem (show 180 + c < 2832 by omega), elen, hinL _ _ _ hl20, e2, n01]
        · have e3 : inR 0 6 z = false := by simpa using e3
          refine ⟨o_sf S 296 0 1, 0, ?_, H.fld 1 (by omega) (by omega), (RZ.fld 1 (by omega) (by omega)).ag, f0_0 1⟩
          unfold f_X10_move b_X10_move_0 b_X10_move_20 b_X10_move_25 b_X10_move_72
          simp only [r_chk, r_isCopy, hin, e1, e3, b2i_eq0, Bool.true_eq_false, if_false, bS, f1, rP0, rI0, f0_0, n10, if_true]
  · have e1 : inR 0 3 x = false := by simpa using e1
    refine Or.inr ⟨fun S n H => ?_, fun S n H => ⟨o_sf S 296 0 1, 0, ?_, H.fld 1 (by omega) (by omega), (RZ.fld 1 (by omega) (by omega)).ag, f0_0 1⟩⟩
    · unfold f_X9_move b_X9_move_0 t_X9_move bt_X9_move_0 b_X9_move_23 bt_X9_move_23
      simp only [x_chk, x_isCopy, e1, b2i_eq0, if_true, bS, and_self]
    · unfold f_X10_move b_X10_move_0 b_X10_move_20 b_X10_move_25 b_X10_move_72
      simp only [r_chk, r_isCopy, e1, b2i_eq0, if_true, bS, f1, rP0, rI0, f0_0, n10, if_false]
end P6
