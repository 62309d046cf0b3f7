/-! TOTALS 2 -/
abbrev tA : Type := Nat × Nat × Nat × Nat × Nat
def tS (E : Nat → Nat) (p k : Nat) (a : tA) : tA := if (mAw E p).testBit k then (a.1 + 1, (if mCh E k = 0 then a.2.1 + 1 else a.2.1), max a.2.2.1 (mSx E p 13 k), (if k < 2 then a.2.2.2.1 else max a.2.2.2.1 (cT (E k))), (if k < 2 then a.2.2.2.2 else if mRk E k = 0 then a.2.2.2.2 else a.2.2.2.2 + 1)) else a
def tF (E : Nat → Nat) (p m : Nat) (a : tA) : Int32 := if m = 0 then nI a.1 else if m = 1 then nI a.2.1 else if m = 2 then nI a.2.2.1 else if m = 3 then nI a.2.2.2.1 else if m = 4 then nI a.2.2.2.2 else mWg E (13 - mSu E 14 p) p
section TO2
variable {S : o_S} {n : Nat × Nat × Nat} {t : Nat} {E : Nat → Nat}
theorem r_totL (h : TT S 0 E) (ti : TI E) (su : SU E) {p m : Nat} (hp : mTh E p = true) (hm : m < 6) : l_X10_total_65 q_FU (ov S n) 296 (nI p) (nI m) (nI (mAw E p)) 0 0 0 0 0 0 = some (ov S n, tF E p m (fw (tS E p) (0, 0, 0, 0, 0) 0 14)) := by
  have hp14 := mTh_lt ti hp
  have hv := aw_lt E hp14
  refine fw_loop (fun fuel (a : tA) j => l_X10_total_65 fuel (ov S n) 296 (nI p) (nI m) (nI (mAw E p)) (nI a.1) (nI a.2.1) (nI a.2.2.1) (nI a.2.2.2.1) (nI a.2.2.2.2) (nI j)) (tS E p) (fun a => (ov S n, tF E p m a)) (fun a => a.2.2.1 < 2 ^ 31 ∧ a.2.2.2.1 < 2 ^ 31) 0 14 (fun fuel a _ => ?_) (fun fuel a j ha h1 h2 => ?_) 14 0 q_FU (0, 0, 0, 0, 0) (by show 0 < 2 ^ 31 ∧ 0 < 2 ^ 31; omega) (by omega) (by omega) (q_FU_lt (by omega))
  · show b_X10_total_65 _ _ _ _ _ _ _ _ _ _ _ _ = _
    have hw := su_12 ti hp
    have hwo := r_worth (n := n) h ti (13 - mSu E 14 p) p q_RD hp (by omega) (by show _ ≤ 20; omega)
    unfold b_X10_total_65 tF
    rw [if_pos (show (14 : Int32) ≤ nI 14 by decide)]
    have hm' : m = 0 ∨ m = 1 ∨ m = 2 ∨ m = 3 ∨ m = 4 ∨ m = 5 := by omega
    rcases hm' with rfl | rfl | rfl | rfl | rfl | rfl
    · rw [if_pos (show nI 0 = 0 from rfl), if_pos rfl]
    · rw [if_neg (show ¬ nI 1 = 0 by decide), if_pos (show nI 1 = 1 from rfl), if_neg (by omega), if_pos rfl]
    · rw [if_neg (show ¬ nI 2 = 0 by decide), if_neg (show ¬ nI 2 = 1 by decide), if_pos (show nI 2 = 2 from rfl), if_neg (by omega), if_neg (by omega), if_pos rfl]
    · rw [if_neg (show ¬ nI 3 = 0 by decide), if_neg (show ¬ nI 3 = 1 by decide), if_neg (show ¬ nI 3 = 2 by decide), if_pos (show nI 3 = 3 from rfl), if_neg (by omega), if_neg (by omega), if_neg (by omega), if_pos rfl]
    · rw [if_neg (show ¬ nI 4 = 0 by decide), if_neg (show ¬ nI 4 = 1 by decide), if_neg (show ¬ nI 4 = 2 by decide), if_neg (show ¬ nI 4 = 3 by decide), if_pos (show nI 4 = 4 from rfl), if_neg (by omega), if_neg (by omega), if_neg (by omega), if_neg (by omega), if_pos rfl]
    · rw [if_neg (show ¬ nI 5 = 0 by decide), if_neg (show ¬ nI 5 = 1 by decide), if_neg (show ¬ nI 5 = 2 by decide), if_neg (show ¬ nI 5 = 3 by decide), if_neg (show ¬ nI 5 = 4 by decide), if_neg (by omega), if_neg (by omega), if_neg (by omega), if_neg (by omega), if_neg (by omega), hwo, bS]
  · obtain ⟨a1, a2, a3, a4, a5⟩ := a
    have ha3 : a3 < 2 ^ 31 := ha.1
    have ha4 : a4 < 2 ^ 31 := ha.2
    have hsx := sx_le E p 13 j
    have hct := cT_lt (ti.b j)
    have hch := ch_lt E j
    have f0 : f_X10_flag (ov S n) 0 = some (ov S n, 0) := rfl
    have f1 : f_X10_flag (ov S n) 1 = some (ov S n, 1) := rfl
    have hrb : f_X10_rightBelow (ov S n) 296 0 (nI j) = some (ov S n, nI (mCh E j)) := r_rightBelow (s := 0) h (by omega)
    have hit : f_X10_its (ov S n) 296 0 (nI j) 2 = some (ov S n, nI (cT (E j))) := r_its2 h h2
    refine ⟨?_, ?_⟩
    · unfold tS
      split
      · refine ⟨by show max a3 _ < 2 ^ 31; omega, ?_⟩
        show (if j < 2 then a4 else max a4 _) < 2 ^ 31
        split <;> omega
      · exact ha
    · show b_X10_total_65 _ _ _ _ _ _ _ _ _ _ _ _ = _
      unfold b_X10_total_65 b_X10_total_180
      by_cases e1 : (mAw E p).testBit j = true
      · obtain ⟨q1, q2⟩ := aw_in hp e1
        have hsu := r_stepsUp (n := n) h ti hp14 q1
        have et : tS E p j (a1, a2, a3, a4, a5) = (a1 + 1, (if mCh E j = 0 then a2 + 1 else a2), max a3 (mSx E p 13 j), (if j < 2 then a4 else max a4 (cT (E j))), (if j < 2 then a5 else if mRk E j = 0 then a5 else a5 + 1)) := by unfold tS; rw [if_pos e1]
        rw [et]
        unfold b_X10_total_105 b_X10_total_149 b_X10_total_173 b_X10_total_174 b_X10_total_180
        have hce : (nI (mCh E j) = 0) = (mCh E j = 0) := i_eq0 (by omega)
        simp (maxSteps := 1000000) (disch := omega) only [show (14 : Int32) = nI 14 from rfl, i_le, show ¬ 14 ≤ j by omega, if_false, r_has, e1, bS, b2i_eq0, Bool.true_eq_false, hrb, hce, f0, f1, hsu, i_max, nI_1, i_add0]
        simp (disch := omega) only [show (2 : Int32) = nI 2 from rfl, i_le, i_lt]
        by_cases e2 : j < 2
        · simp only [show ¬ 2 ≤ j by omega, if_false, e2, if_true]
          by_cases e3 : mCh E j = 0 <;> simp [e3]
        · have hne : E j ≠ 0 := by simpa [mTh, e2] using q1
          have hrk : f_X10_rank (ov S n) 296 0 (nI j) = some (ov S n, nI (mRk E j)) := r_rank (s := 0) h ti su hne
          have hlt := mRk_lt E j
          have hit : f_X10_its (ov S n) 296 0 (nI j) (nI 2) = some (ov S n, nI (cT (E j))) := hit
          simp (disch := omega) only [show 2 ≤ j by omega, if_true, e2, if_false, hit, bS, hrk, i_le0, i_max]
          by_cases e3 : mCh E j = 0
          · by_cases e4 : mRk E j = 0 <;> simp [e3, e4, f0, f1, nI_1, i_add0]
          · by_cases e4 : mRk E j = 0 <;> simp [e3, e4, f0, f1, nI_1, i_add0]
      · have e1' : (mAw E p).testBit j = false := by simpa using e1
        have et : tS E p j (a1, a2, a3, a4, a5) = (a1, a2, a3, a4, a5) := by unfold tS; rw [if_neg e1]
        rw [et]
        simp (disch := omega) only [show (14 : Int32) = nI 14 from rfl, i_le, show ¬ 14 ≤ j by omega, if_false, r_has, e1', bS, b2i_eq0, if_true, nI_1]
/-! what both come to -/
theorem tot_0 (p : Nat) : (fw (tS E p) (0, 0, 0, 0, 0) 0 14).1 = cn (fun k => (mAw E p).testBit k) 0 14 := by
  refine fw_map (fun a : tA => a.1) 14 0 (0, 0, 0, 0, 0) (fun k a _ _ => ?_)
  unfold tS mCnt
  split <;> rfl
theorem tot_1 (p : Nat) : (fw (tS E p) (0, 0, 0, 0, 0) 0 14).2.1 = cn (fun k => (mAw E p).testBit k && decide (mCh E k = 0)) 0 14 := by
  refine fw_map (fun a : tA => a.2.1) 14 0 (0, 0, 0, 0, 0) (fun k a _ _ => ?_)
  unfold tS mCnt
  by_cases e1 : (mAw E p).testBit k = true
  · by_cases e2 : mCh E k = 0 <;> simp [e1, e2]
  · simp [e1]
theorem tot_2 (ti : TI E) {p : Nat} (hp : mTh E p = true) : nI (fw (mMx (fun k => (mAw E p).testBit k) (mSu E 14)) (mSu E 14 p) 2 12) - nI (mSu E 14 p) = nI (fw (tS E p) (0, 0, 0, 0, 0) 0 14).2.2.1 := by
  have h1 : (fw (tS E p) (0, 0, 0, 0, 0) 0 14).2.2.1 = fw (mMx (fun k => (mAw E p).testBit k) (mSx E p 13)) 0 0 14 := by
    refine fw_map (fun a : tA => a.2.2.1) 14 0 (0, 0, 0, 0, 0) (fun k a _ _ => ?_)
    unfold tS mMx
    split <;> rfl
  have h2 : fw (mMx (fun k => (mAw E p).testBit k) (mSx E p 13)) 0 0 2 = 0 := by
    have hz : ∀ k, k < 2 → mMx (fun k => (mAw E p).testBit k) (mSx E p 13) k 0 = 0 := by
      intro k hk
      unfold mMx
      split
      · rename_i q
        have q : (mAw E p).testBit k = true := q
        rw [aw_bit, decide_eq_false (show ¬ (2 ≤ k ∧ k < 14) by omega), Bool.false_and, Bool.or_false] at q
        have : p = k := by simpa using q
        subst this
        simp [mSx]
      · rfl
    show mMx _ _ 1 (mMx _ _ 0 0) = 0
    rw [hz 0 (by omega), hz 1 (by omega)]
  have h3 : fw (mMx (fun k => (mAw E p).testBit k) (mSx E p 13)) 0 0 14 = fw (mMx (fun k => (mAw E p).testBit k) (mSx E p 13)) 0 2 12 := by
    have := fw_ap (mMx (fun k => (mAw E p).testBit k) (mSx E p 13)) 2 12 0 0
    rw [h2] at this
    exact this
  have h4 : fw (mMx (fun k => (mAw E p).testBit k) (mSx E p 13)) 0 2 12 + mSu E 14 p = fw (mMx (fun k => (mAw E p).testBit k) (mSu E 14)) (0 + mSu E 14 p) 2 12 := by
    refine fw_map (fun a => a + mSu E 14 p) 12 2 0 (fun k a _ _ => ?_)
    unfold mMx
    split
    · rename_i q
      obtain ⟨q1, q2⟩ := aw_in hp q
      have := su_sx ti hp q1 q2
      show max a (mSx E p 13 k) + mSu E 14 p = max (a + mSu E 14 p) (mSu E 14 k)
      omega
    · rfl
  rw [h1, h3]
  rw [Nat.zero_add] at h4
  rw [← h4, pk_sub (by omega), Nat.add_sub_cancel]
theorem tot_3 (p : Nat) : (fw (tS E p) (0, 0, 0, 0, 0) 0 14).2.2.2.1 = fw (mMx (fun k => (mAw E p).testBit k) (fun k => cT (E k))) 0 2 12 := by
  have h1 : (fw (tS E p) (0, 0, 0, 0, 0) 0 14).2.2.2.1 = fw (fun k m => if k < 2 then m else mMx (fun k => (mAw E p).testBit k) (fun k => cT (E k)) k m) 0 0 14 := by
    refine fw_map (fun a : tA => a.2.2.2.1) 14 0 (0, 0, 0, 0, 0) (fun k a _ _ => ?_)
    unfold tS mMx
    by_cases e1 : (mAw E p).testBit k = true
    · by_cases e2 : k < 2 <;> simp [e1, e2]
    · simp [e1]
  rw [h1]
  refine (fw_ap _ 2 12 0 0).trans ?_
  show fw _ 0 2 12 = _
  exact fw_congr 12 2 0 (fun i b q1 _ => by rw [if_neg (by omega)])
theorem tot_4 (p : Nat) : (fw (tS E p) (0, 0, 0, 0, 0) 0 14).2.2.2.2 = cn (fun k => (mAw E p).testBit k && decide (0 < mRk E k)) 2 12 := by
  have h1 : (fw (tS E p) (0, 0, 0, 0, 0) 0 14).2.2.2.2 = fw (fun k m => if k < 2 then m else mCnt (fun k => (mAw E p).testBit k && decide (0 < mRk E k)) k m) 0 0 14 := by
    refine fw_map (fun a : tA => a.2.2.2.2) 14 0 (0, 0, 0, 0, 0) (fun k a _ _ => ?_)
    unfold tS mCnt
    by_cases e1 : (mAw E p).testBit k = true
    · by_cases e2 : k < 2
      · simp [e1, e2]
      · by_cases e3 : mRk E k = 0
        · simp [e1, e2, e3]
        · simp [e1, e2, e3, Nat.pos_of_ne_zero e3]
    · simp [e1]
  rw [h1]
  refine (fw_ap _ 2 12 0 0).trans ?_
  show fw _ 0 2 12 = _
  exact fw_congr 12 2 0 (fun i b q1 _ => by rw [if_neg (by omega)])
theorem ag_total {A : aS} {T : Nat} (h : OKA T A) (x y z : Int32) : AGR T A (fun h => f_X9_total h 0 x y z) (fun h => f_X10_total h 296 x y z) := by
  have hin : ∀ (S : o_S) (n : Nat × Nat × Nat), f_X10_in (ov S n) (Int32.toInt64 z) 0 5 = some (ov S n, b2i (inR 0 6 z)) := fun S n => r_in _ _ (lo := 0) (hi := 6) (by decide) (by decide)
  by_cases e3 : inR 0 6 z = true
  · obtain ⟨m, -, hm, rfl⟩ := inR_t e3 (by omega)
    have hz1 : ¬ nI m < 0 := nI_pos (by omega)
    have hz2 : nI m ≤ 5 := by rw [show (5 : Int32) = nI 5 from rfl, i_le (by omega) (by omega)]; omega
    refine ag_ask h (x := x) (y := y) (fun S n r hr e => ?_) (fun S S' n r hr e => ?_) (fun c j hc hj hx hy ht ti su => ?_)
    · unfold f_X9_total b_X9_total_0
      simp only [x_chk, hz1, if_false, hz2, if_true, e, bS, neg_nle hr]
    · unfold f_X10_total b_X10_total_0
      simp only [r_chk, rP0, bS, hin, e3, b2i_eq0, Bool.true_eq_false, if_false, e, neg_nle hr]
    · subst hx hy
      refine ⟨tF (tr (sW A) c) j m (fw (tS (tr (sW A) c) j) (0, 0, 0, 0, 0) 0 14), A, fun S n H e => ⟨S, ?_, H, AG.rf⟩, fun S S0 n H ht0 hl0 e => ⟨S0, ?_, H, AG.rf⟩, h.mono (by omega)⟩
      · have hte := H.te hc
        have hsu := su_12 ti ht
        have a1 := t_allWithin (n := n) hte (show j < 16 by omega)
        have hv := aw_lt (tr (sW A) c) hj
        have a2 := x_bitCount (ov S n) (v := mAw (tr (sW A) c) j) (by omega)
        have ew := x_weigh (n := n) hte ti (13 - mSu (tr (sW A) c) 14 j) j q_RD 0 ht (by omega) (by show _ ≤ 20; omega) (Nat.zero_le _)
        have ew : f_X7_weigh q_RD (ov S n) (4 + 8 * c + 6) (nI j) 0 = _ := ew
        unfold f_X9_total b_X9_total_0 tF
        simp only [x_chk, hz1, if_false, hz2, if_true, e, bS, show (0 : Int32) ≤ 0 by decide, xR0, u_R0, u_cp hc, u_R5 hc, a1, a2, t_leaves hte hj, t_stepsDown hte hj, t_latest hte hj, t_ranked hte hj, ew, tot_2 ti ht]
        have hm' : m = 0 ∨ m = 1 ∨ m = 2 ∨ m = 3 ∨ m = 4 ∨ m = 5 := by omega
        rcases hm' with rfl | rfl | rfl | rfl | rfl | rfl
        · rw [if_pos (show nI 0 = 0 from rfl), if_pos rfl, tot_0, cbit_w (a := 14) hv (by omega), cbit_c0]
        · rw [if_neg (show ¬ nI 1 = 0 by decide), if_pos (show nI 1 = 1 from rfl), if_neg (by omega), if_pos rfl, tot_1]
        · rw [if_neg (show ¬ nI 2 = 0 by decide), if_neg (show ¬ nI 2 = 1 by decide), if_pos (show nI 2 = 2 from rfl), if_neg (by omega), if_neg (by omega), if_pos rfl]
        · rw [if_neg (show ¬ nI 3 = 0 by decide), if_neg (show ¬ nI 3 = 1 by decide), if_neg (show ¬ nI 3 = 2 by decide), if_pos (show nI 3 = 3 from rfl), if_neg (by omega), if_neg (by omega), if_neg (by omega), if_pos rfl, tot_3]
        · rw [if_neg (show ¬ nI 4 = 0 by decide), if_neg (show ¬ nI 4 = 1 by decide), if_neg (show ¬ nI 4 = 2 by decide), if_neg (show ¬ nI 4 = 3 by decide), if_pos (show nI 4 = 4 from rfl), if_neg (by omega), if_neg (by omega), if_neg (by omega), if_neg (by omega), if_pos rfl, tot_4]
        · rw [if_neg (show ¬ nI 5 = 0 by decide), if_neg (show ¬ nI 5 = 1 by decide), if_neg (show ¬ nI 5 = 2 by decide), if_neg (show ¬ nI 5 = 3 by decide), if_neg (show ¬ nI 5 = 4 by decide), if_neg (by omega), if_neg (by omega), if_neg (by omega), if_neg (by omega), if_neg (by omega)]
      · have a1 : f_X10_allBelow (ov S0 n) 296 0 (nI j) = some (ov S0 n, nI (mAb (tr (sW A) c) j)) := r_allBelow (s := 0) ht0 ti hj
        have hb := ab_lt (tr (sW A) c) j
        have eo : nI (mAb (tr (sW A) c) j) ||| (1 : Int32) <<< (nI j &&& 31) = nI (mAw (tr (sW A) c) j) := by
          rw [i_bit (by omega), i_or _ _ (by omega) (Nat.pow_lt_pow_right (by omega) (by omega)), aw_or]
        unfold f_X10_total b_X10_total_0
        simp only [r_chk, rP0, bS, hin, e3, b2i_eq0, Bool.true_eq_false, if_false, e, show (0 : Int32) ≤ 0 by decide, if_true, a1, eo]
        exact r_totL ht0 ti su ht hm
  · have e3 : inR 0 6 z = false := by simpa using e3
    refine ⟨-1, A, fun S n H => ⟨S, ?_, H, AG.rf⟩, fun S n H => ⟨_, ?_, H.fld (k := 0) 0 (by omega) (by omega), (RZ.fld 0 (by omega) (by omega)).ag⟩, h.mono (by omega)⟩
    · rw [x_rng z (show 0 < 2 ^ 31 by omega) (show 6 < 2 ^ 31 by omega)] at e3
      unfold f_X9_total b_X9_total_0
      simp only [x_chk]
      by_cases h0 : z < 0
      · simp [h0]
      · obtain ⟨j, hj, rfl⟩ := nI_of h0
        have h0' : ¬ nI j < nI 0 := h0
        have : nI 6 ≤ nI j := by simpa [h0'] using e3
        rw [i_le (by omega) hj] at this
        rw [if_neg h0, if_neg (by rw [show (5 : Int32) = nI 5 from rfl, i_le hj (by omega)]; omega)]
    · unfold f_X10_total b_X10_total_0
      simp only [r_chk, rP0, bS, hin, e3, b2i_eq0, if_true]
end TO2
