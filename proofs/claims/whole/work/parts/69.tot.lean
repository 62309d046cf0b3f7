/-! TOTALS -/
theorem fw_map {α β : Type} {s : Nat → α → α} {s' : Nat → β → β} (f : α → β) : ∀ (d j : Nat) (a : α), (∀ k a, j ≤ k → k < j + d → f (s k a) = s' k (f a)) → f (fw s a j d) = fw s' (f a) j d := by
  intro d
  induction d with
  | zero => intro j a _; rfl
  | succ d ih =>
    intro j a h
    show f (fw s (s j a) (j + 1) d) = fw s' (s' j (f a)) (j + 1) d
    rw [ih (j + 1) _ (fun k a h1 h2 => h k a (by omega) (by omega)), h j a (Nat.le_refl _) (by omega)]
theorem fw_ap {α : Type} (s : Nat → α → α) : ∀ (d e j : Nat) (a : α), fw s a j (d + e) = fw s (fw s a j d) (j + d) e := by
  intro d
  induction d with
  | zero => intro e j a; rw [Nat.zero_add, Nat.add_zero]; rfl
  | succ d ih =>
    intro e j a
    rw [show d + 1 + e = (d + e) + 1 by omega]
    show fw s (s j a) (j + 1) (d + e) = fw s (fw s (s j a) (j + 1) d) (j + (d + 1)) e
    rw [ih, show j + 1 + d = j + (d + 1) by omega]
theorem aw_or (E : Nat → Nat) (p : Nat) : mAb E p ||| 2 ^ p = mAw E p := by
  apply Nat.eq_of_testBit_eq
  intro i
  rw [Nat.testBit_or, ab_bit, aw_bit, Nat.testBit_two_pow]
  by_cases e : i = p
  · subst e; simp
  · simp [e, Ne.symm e]
theorem wi_self (E : Nat → Nat) (p d : Nat) : mWi E p d p = true := by cases d <;> simp [mWi]
theorem aw_in {E : Nat → Nat} {p k : Nat} (hp : mTh E p = true) (h : (mAw E p).testBit k = true) : mTh E k = true ∧ mWi E p 14 k = true := by
  rw [aw_bit] at h
  by_cases e : p = k
  · subst e
    exact ⟨hp, wi_self E p 14⟩
  · simp only [e, decide_false, Bool.false_or, Bool.and_eq_true, decide_eq_true_eq] at h
    exact ⟨by simp [mTh, h.2.1], h.2.2⟩
theorem sx_add {E : Nat → Nat} {p : Nat} : ∀ d k, mWi E p d k = true → mSu E (d + 14) k = mSx E p d k + mSu E (d + 14 - mSx E p d k) p := by
  intro d
  induction d with
  | zero =>
    intro k h
    have h : k = p := by simpa [mWi] using h
    subst h
    simp [mSx]
  | succ d ih =>
    intro k h
    by_cases e1 : k = p
    · subst e1
      simp [mSx]
    · by_cases e2 : k < 2
      · simp [mWi, e1, e2] at h
      · simp only [mWi, e1, e2, if_false] at h
        have := ih _ h
        rw [show d + 1 + 14 = (d + 14) + 1 by omega]
        show (if k < 2 then 0 else mSu E (d + 14) (cP (E k)) + 1) = _
        rw [if_neg e2, this, show mSx E p (d + 1) k = mSx E p d (cP (E k)) + 1 by simp only [mSx, e1, e2, if_false], show d + 14 + 1 - (mSx E p d (cP (E k)) + 1) = d + 14 - mSx E p d (cP (E k)) by omega]
        omega
theorem sx_le (E : Nat → Nat) (t : Nat) : ∀ d a, mSx E t d a ≤ d := by
  intro d
  induction d with
  | zero => intro a; exact Nat.le_refl _
  | succ d ih =>
    intro a
    by_cases e1 : a = t
    · simp [mSx, e1]
    · by_cases h2 : a < 2
      · simp [mSx, e1, h2]
      · simp only [mSx, e1, h2, if_false]
        have := ih (cP (E a))
        omega
theorem su_any {E : Nat → Nat} (ti : TI E) {a : Nat} (ha : mTh E a = true) {d : Nat} (hd : 12 ≤ d) : mSu E d a = mSu E 12 a := by
  have := mSu_st E 12 a (d - 12) (ti.up ha)
  rw [show 12 + (d - 12) = d by omega] at this
  exact this
theorem sx_st {E : Nat → Nat} {t : Nat} : ∀ d a e, mUp E d a < 2 → mSx E t (d + 1 + e) a = mSx E t (d + 1) a := by
  intro d
  induction d with
  | zero =>
    intro a e h
    have h : a < 2 := h
    rw [show 0 + 1 + e = e + 1 by omega]
    by_cases e1 : a = t <;> simp [mSx, e1, h]
  | succ d ih =>
    intro a e h
    rw [show d + 1 + 1 + e = (d + 1 + e) + 1 by omega]
    by_cases e1 : a = t
    · simp [mSx, e1]
    · by_cases h2 : a < 2
      · simp [mSx, e1, h2]
      · simp only [mUp, h2, if_false] at h
        have := ih _ e h
        show (if a = t then 0 else if a < 2 then 0 else mSx E t (d + 1 + e) (cP (E a)) + 1) = (if a = t then 0 else if a < 2 then 0 else mSx E t (d + 1) (cP (E a)) + 1)
        rw [this]
theorem su_sx {E : Nat → Nat} (ti : TI E) {p k : Nat} (hp : mTh E p = true) (hk : mTh E k = true) (hw : mWi E p 14 k = true) : mSu E 14 k = mSx E p 13 k + mSu E 14 p := by
  have h1 := sx_add 14 k hw
  have h2 : mSx E p 14 k = mSx E p 13 k := by
    have := sx_st (E := E) (t := p) 12 k 1 (ti.up hk)
    exact this
  have h3 := sx_le E p 13 k
  rw [su_any ti hk (by omega), h2, su_any ti hp (by omega)] at h1
  rw [su_any ti hk (by omega), su_any ti hp (by omega)]
  exact h1
def mMx (P : Nat → Bool) (g : Nat → Nat) (k m : Nat) : Nat := if P k then max m (g k) else m
theorem mx_lt {P : Nat → Bool} {g : Nat → Nat} {B : Nat} {k m : Nat} (hm : m < B) (hg : P k = true → g k < B) : mMx P g k m < B := by
  unfold mMx
  split
  · rename_i h
    have := hg h
    omega
  · exact hm
section TO
variable {S : o_S} {n : Nat × Nat × Nat} {t : Nat} {E : Nat → Nat}
theorem t_leaves (h : TE S t E) {p : Nat} (hp : p < 14) : f_X7_leavesWithin (ov S n) t (nI p) = some (ov S n, nI (cn (fun k => (mAw E p).testBit k && decide (mCh E k = 0)) 0 14)) := by
  have hv := aw_lt E hp
  unfold f_X7_leavesWithin b_X7_leavesWithin_0
  rw [t_chk h, t_allWithin h (by omega), bS]
  refine fw_loop (fun fuel a j => l_X7_leavesWithin_11 fuel (ov S n) t (nI (mAw E p)) (nI a) (nI j)) (mCnt (fun k => (mAw E p).testBit k && decide (mCh E k = 0))) (fun a => (ov S n, nI a)) (fun _ => True) 0 14 (fun fuel a _ => rfl) (fun fuel a j _ h1 h2 => ⟨trivial, ?_⟩) 14 0 q_FU 0 trivial (by omega) (by omega) (q_FU_lt (by omega))
  show b_X7_leavesWithin_11 _ _ _ _ _ _ = _
  unfold b_X7_leavesWithin_11 b_X7_leavesWithin_40
  have hc := ch_lt E j
  simp (disch := omega) only [show (14 : Int32) = nI 14 from rfl, i_le, show ¬ 14 ≤ j by omega, if_false, i_tb (show mAw E p < 2 ^ 32 by omega) (show j < 32 by omega), b2i_1, t_childrenOf h (show j < 2 ^ 31 by omega), bS, i_eq0, nI_1, mCnt]
  by_cases e1 : (mAw E p).testBit j = true
  · by_cases e2 : mCh E j = 0 <;> simp [e1, e2]
  · simp [e1]
theorem t_stepsDown (h : TE S t E) {p : Nat} (hp : p < 14) : f_X7_stepsDown (ov S n) t (nI p) = some (ov S n, nI (fw (mMx (fun k => (mAw E p).testBit k) (mSu E 14)) (mSu E 14 p) 2 12) - nI (mSu E 14 p)) := by
  have hv := aw_lt E hp
  unfold f_X7_stepsDown b_X7_stepsDown_0
  rw [t_chk h, t_allWithin h (by omega), bS, t_stepsUp h (by omega), bS]
  refine fw_loop (fun fuel a j => l_X7_stepsDown_15 fuel (ov S n) t (nI p) (nI (mAw E p)) (nI a) (nI j)) (mMx (fun k => (mAw E p).testBit k) (mSu E 14)) (fun a => (ov S n, nI a - nI (mSu E 14 p))) (fun a => a < 100) 2 14 (fun fuel a _ => ?_) (fun fuel a j ha h1 h2 => ⟨mx_lt ha (fun _ => by have := su_le E 14 j; omega), ?_⟩) 12 2 q_FU (mSu E 14 p) (by have := su_le E 14 p; omega) (by omega) (by omega) (q_FU_lt (by omega))
  · show b_X7_stepsDown_15 _ _ _ _ _ _ _ = _
    unfold b_X7_stepsDown_15
    rw [if_pos (by decide), t_stepsUp h (by omega), bS]
  · show b_X7_stepsDown_15 _ _ _ _ _ _ _ = _
    unfold b_X7_stepsDown_15 b_X7_stepsDown_43
    have hl := su_le E 14 j
    simp (disch := omega) only [show (14 : Int32) = nI 14 from rfl, i_le, show ¬ 14 ≤ j by omega, if_false, i_tb (show mAw E p < 2 ^ 32 by omega) (show j < 32 by omega), b2i_1, t_stepsUp h (show j < 16 by omega), bS, i_max, nI_1, mMx]
    by_cases e1 : (mAw E p).testBit j = true <;> simp [e1]
theorem t_latest (h : TE S t E) {p : Nat} (hp : p < 14) : f_X7_latestWithin (ov S n) t (nI p) = some (ov S n, nI (fw (mMx (fun k => (mAw E p).testBit k) (fun k => cT (E k))) 0 2 12)) := by
  have hv := aw_lt E hp
  unfold f_X7_latestWithin b_X7_latestWithin_0
  rw [t_chk h, t_allWithin h (by omega), bS]
  refine fw_loop (fun fuel a j => l_X7_latestWithin_11 fuel (ov S n) t (nI (mAw E p)) (nI a) (nI j)) (mMx (fun k => (mAw E p).testBit k) (fun k => cT (E k))) (fun a => (ov S n, nI a)) (fun a => a < 2 ^ 31) 2 14 (fun fuel a _ => rfl) (fun fuel a j ha h1 h2 => ⟨mx_lt ha (fun _ => cT_lt (h.2 j (by omega)).2), ?_⟩) 12 2 q_FU 0 (by omega) (by omega) (by omega) (q_FU_lt (by omega))
  show b_X7_latestWithin_11 _ _ _ _ _ _ = _
  unfold b_X7_latestWithin_11 b_X7_latestWithin_43
  have hb := (h.2 j (by omega)).2
  have hl := cT_lt hb
  simp (disch := omega) only [show (14 : Int32) = nI 14 from rfl, i_le, show ¬ 14 ≤ j by omega, if_false, i_tb (show mAw E p < 2 ^ 32 by omega) (show j < 32 by omega), b2i_1, t_get h, t_ld h (show j < 16 by omega), c_time _ hb, bS, i_max, nI_1, mMx]
  by_cases e1 : (mAw E p).testBit j = true <;> simp [e1]
theorem t_ranked (h : TE S t E) {p : Nat} (hp : p < 14) : f_X7_rankedWithin (ov S n) t (nI p) = some (ov S n, nI (cn (fun k => (mAw E p).testBit k && decide (0 < mRk E k)) 2 12)) := by
  have hv := aw_lt E hp
  unfold f_X7_rankedWithin b_X7_rankedWithin_0
  rw [t_chk h, t_allWithin h (by omega), bS]
  refine fw_loop (fun fuel a j => l_X7_rankedWithin_11 fuel (ov S n) t (nI (mAw E p)) (nI a) (nI j)) (mCnt (fun k => (mAw E p).testBit k && decide (0 < mRk E k))) (fun a => (ov S n, nI a)) (fun _ => True) 2 14 (fun fuel a _ => rfl) (fun fuel a j _ h1 h2 => ⟨trivial, ?_⟩) 12 2 q_FU 0 trivial (by omega) (by omega) (q_FU_lt (by omega))
  show b_X7_rankedWithin_11 _ _ _ _ _ _ = _
  unfold b_X7_rankedWithin_11 b_X7_rankedWithin_40
  have hc := mRk_lt E j
  simp (disch := omega) only [show (14 : Int32) = nI 14 from rfl, i_le, show ¬ 14 ≤ j by omega, if_false, i_tb (show mAw E p < 2 ^ 32 by omega) (show j < 32 by omega), b2i_1, t_rankOf h (show j < 16 by omega), bS, i_le0, nI_1, mCnt]
  by_cases e1 : (mAw E p).testBit j = true
  · by_cases e2 : mRk E j = 0
    · simp [e1, e2]
    · simp [e1, e2, Nat.pos_of_ne_zero e2]
  · simp [e1]
/-! W -/
def mWg (E : Nat → Nat) : Nat → Nat → Int32
  | 0, _ => 0
  | d + 1, a => fw (fun k w => if mRb E a k then 3 * w + mWg E d k else w) (if a < 2 then 0 else nI (cN (E a))) 2 12
theorem rb_th {a k : Nat} (ti : TI E) (h : mRb E a k = true) : mTh E k = true ∧ ¬ k < 2 ∧ cP (E k) = a := by
  simp only [mRb, Bool.and_eq_true, decide_eq_true_eq] at h
  have := ti.lt h.1
  exact ⟨by simp [mTh, h.1], by omega, h.2⟩
theorem su_12 {a : Nat} (ti : TI E) (ha : mTh E a = true) : mSu E 14 a ≤ 12 := by
  rw [su_any ti ha (by omega)]
  exact su_le E 12 a
theorem x_weigh (h : TE S t E) (ti : TI E) : ∀ r a D lev, mTh E a = true → mSu E 14 a + r = 13 → r ≤ D → lev ≤ mSu E 14 a → f_X7_weigh D (ov S n) t (nI a) (nI lev) = some (ov S n, mWg E r a) := by
  intro r
  induction r with
  | zero =>
    intro a D lev ha hs
    have := su_12 ti ha
    omega
  | succ r ih =>
    intro a D lev ha hs hD hl
    obtain ⟨D, rfl⟩ : ∃ D', D = D' + 1 := ⟨D - 1, by omega⟩
    have ha14 := mTh_lt ti ha
    have hb := ti.b a
    have hsu := su_12 ti ha
    have loop : ∀ w, l_X7_weigh_33 (f_X7_weigh D) q_FU (ov S n) t (nI a) (nI lev) w 2 = some (ov S n, fw (fun k w => if mRb E a k then 3 * w + mWg E r k else w) w 2 12) := by
      intro w
      refine fw_loop (fun fuel (w : Int32) j => l_X7_weigh_33 (f_X7_weigh D) fuel (ov S n) t (nI a) (nI lev) w (nI j)) (fun k w => if mRb E a k then 3 * w + mWg E r k else w) (fun w => (ov S n, w)) (fun _ => True) 2 14 (fun fuel a _ => rfl) (fun fuel w j _ h1 h2 => ⟨trivial, ?_⟩) 12 2 q_FU w trivial (by omega) (by omega) (q_FU_lt (by omega))
      show b_X7_weigh_33 _ _ _ _ _ _ _ _ = _
      unfold b_X7_weigh_33 b_X7_weigh_64
      simp (disch := omega) only [show (14 : Int32) = nI 14 from rfl, i_le, show ¬ 14 ≤ j by omega, if_false, t_isRightBelow h (show j < 16 by omega) (show a < 2 ^ 31 by omega), bS, b2i_eq0, nI_1]
      by_cases e : mRb E a j = true
      · obtain ⟨q1, q2, q3⟩ := rb_th ti e
        have hsj := su_s ti q1 q2
        rw [q3] at hsj
        have := ih j D (lev + 1) q1 (by omega) (by omega) (by omega)
        simp only [e, Bool.true_eq_false, if_false, this, bS, if_true]
      · simp [e]
    show b_X7_weigh_0 (f_X7_weigh D) _ _ _ _ = _
    unfold b_X7_weigh_0 b_X7_weigh_21
    by_cases h2 : a < 2
    · rw [if_neg (by rw [show (2 : Int32) = nI 2 from rfl, i_le (by omega) (by omega)]; omega), if_pos (by rw [show (14 : Int32) = nI 14 from rfl, i_le (by omega) (by omega)]; omega), loop]
      simp [mWg, h2]
    · rw [if_pos (by rw [show (2 : Int32) = nI 2 from rfl, i_le (by omega) (by omega)]; omega)]
      simp only [t_get h, bS, t_ldm h (show a < 16 by omega), c_name _ hb]
      rw [if_pos (by rw [show (14 : Int32) = nI 14 from rfl, i_le (by omega) (by omega)]; omega), loop]
      simp [mWg, h2]
theorem ch_bit (a : Nat) {k : Nat} (h1 : 2 ≤ k) (h2 : k < 14) : (mCh E a).testBit k = mRb E a k := by
  unfold mCh
  rw [st_bit0, decide_eq_true (by omega), Bool.true_and]
theorem r_worth (h : TT S 0 E) (ti : TI E) : ∀ r a D, mTh E a = true → mSu E 14 a + r = 13 → r ≤ D → f_X10_worth D (ov S n) 296 (nI a) = some (ov S n, mWg E r a) := by
  intro r
  induction r with
  | zero =>
    intro a D ha hs
    have := su_12 ti ha
    omega
  | succ r ih =>
    intro a D ha hs hD
    obtain ⟨D, rfl⟩ : ∃ D', D = D' + 1 := ⟨D - 1, by omega⟩
    have ha14 := mTh_lt ti ha
    have hc := ch_lt E a
    have loop : ∀ w, l_X10_worth_27 (f_X10_worth D) q_FU (ov S n) 296 w (nI (mCh E a)) 2 = some (ov S n, fw (fun k w => if mRb E a k then 3 * w + mWg E r k else w) w 2 12) := by
      intro w
      refine fw_loop (fun fuel (w : Int32) j => l_X10_worth_27 (f_X10_worth D) fuel (ov S n) 296 w (nI (mCh E a)) (nI j)) (fun k w => if mRb E a k then 3 * w + mWg E r k else w) (fun w => (ov S n, w)) (fun _ => True) 2 14 (fun fuel a _ => rfl) (fun fuel w j _ h1 h2 => ⟨trivial, ?_⟩) 12 2 q_FU w trivial (by omega) (by omega) (q_FU_lt (by omega))
      show b_X10_worth_27 _ _ _ _ _ _ _ = _
      unfold b_X10_worth_27 b_X10_worth_58
      simp (disch := omega) only [show (14 : Int32) = nI 14 from rfl, i_le, show ¬ 14 ≤ j by omega, if_false, r_has, ch_bit a h1 h2, bS, b2i_eq0, nI_1]
      by_cases e : mRb E a j = true
      · obtain ⟨q1, q2, q3⟩ := rb_th ti e
        have hsj := su_s ti q1 q2
        rw [q3] at hsj
        have := ih j D q1 (by omega) (by omega)
        simp only [e, Bool.true_eq_false, if_false, this, bS, if_true]
      · simp [e]
    have hrb : f_X10_rightBelow (ov S n) 296 0 (nI a) = some (ov S n, nI (mCh E a)) := r_rightBelow (s := 0) h (by omega)
    have hits : f_X10_its (ov S n) 296 0 (nI a) 1 = some (ov S n, nI (cN (E a))) := r_its1 h ha14
    show q_chk 9 _ _ (b_X10_worth_0 (f_X10_worth D) _ _ _) = _
    unfold b_X10_worth_0 b_X10_worth_16
    rw [r_chk]
    by_cases h2 : a < 2
    · rw [if_neg (by rw [show (2 : Int32) = nI 2 from rfl, i_le (by omega) (by omega)]; omega), hrb, bS, loop]
      simp [mWg, h2]
    · rw [if_pos (by rw [show (2 : Int32) = nI 2 from rfl, i_le (by omega) (by omega)]; omega), hits, bS, hrb, bS, loop]
      simp [mWg, h2]
end TO
