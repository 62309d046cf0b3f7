/-! THE REFERENCE'S TREES IN CODES: what it asks of a tree that is laid -/
def eT (k q : Nat) : Int32 := match q with
  | 0 => if k = 0 then -1 else nI (cP k)
  | 1 => nI (cN k)
  | 2 => nI (cT k)
  | _ => nI (cC k)
def TT (S : o_S) (s : Nat) (E : Nat → Nat) : Prop := s < 104 ∧ ∀ j, j < 14 → ∀ q, q < 4 → S.2.1 302 (4 * (14 * s + j) + q) = eT (E j) q
theorem eT_0 (k : Nat) : (eT k 0 = -1) = (k = 0) := by
  have := cP_lt k
  unfold eT
  apply propext
  by_cases e : k = 0
  · simp [e]
  · simp only [e, if_false, i_eqm1 (show cP k < 2 ^ 31 by omega)]
theorem eT_0p {k p : Nat} (h : k ≠ 0) (hp : p < 2 ^ 31) : (eT k 0 = nI p) = (cP k = p) := by
  have := cP_lt k
  unfold eT
  simp only [h, if_false, i_eq (show cP k < 2 ^ 31 by omega) hp]
theorem eT_0n {k : Nat} (h : k ≠ 0) : eT k 0 = nI (cP k) := if_neg h
theorem cT_lt {k : Nat} (h : k < 2 ^ 31) : cT k < 2 ^ 31 := Nat.lt_of_le_of_lt (Nat.div_le_self _ _) h
/-- stamps -/
def mLs (k k' : Nat) : Bool := decide (k / 4096 < k' / 4096)
theorem mLs_e (k k' : Nat) : (cT k < cT k' ∨ cT k = cT k' ∧ cC k < cC k') ↔ k / 4096 < k' / 4096 := by
  unfold cT cC
  omega
theorem r_isLess (h : q_H) {k k' : Nat} (hk : k < 2 ^ 31) (hk' : k' < 2 ^ 31) : f_X10_isLess h (nI (cT k)) (nI (cC k)) (nI (cT k')) (nI (cC k')) = some (h, b2i (mLs k k')) := by
  have h1 := cT_lt hk
  have h2 := cT_lt hk'
  have h3 := cC_lt k
  have h4 := cC_lt k'
  unfold f_X10_isLess b_X10_isLess_0
  simp (disch := omega) only [j2, j3, j4, j5, j6, j7, j8, j9, j10, j12, j14, j20, j40, j48, j49, j56, j80, j96, j180, j183, j483, j492, j708, j2401, j1000000, nI_1, nI_add, pk_mul, i_le, i_lt, i_eq, i_lt0, i_0le, i_le0, i_eq0, i_0lt, i_eq1, i_eqm1, i_sub1, i_addm1, pk_sub, i_add0, b2i_eq0, b2i_1, i_bit, if_true, if_false]
  have e := mLs_e k k'
  by_cases e1 : cT k < cT k'
  · have : k / 4096 < k' / 4096 := e.mp (Or.inl e1)
    simp [e1, mLs, this, b2i]
  · by_cases e2 : cT k = cT k'
    · by_cases e3 : cC k' ≤ cC k
      · have : ¬ k / 4096 < k' / 4096 := fun q => by have := e.mpr q; omega
        simp [e2, e3, mLs, this, b2i]
      · have : k / 4096 < k' / 4096 := e.mp (by omega)
        simp [e2, e3, mLs, this, b2i]
    · have : ¬ k / 4096 < k' / 4096 := fun q => by have := e.mpr q; omega
      simp [e1, e2, mLs, this, b2i]
theorem r_flag (h : q_H) (b : Bool) : f_X10_flag h (b2i b) = some (h, b2i b) := by cases b <;> rfl
theorem b2i_add (r : Nat) (b : Bool) : nI r + b2i b = nI (if b then r + 1 else r) := by
  cases b
  · exact nI_add r 0
  · exact nI_add r 1
section RT
variable {S : o_S} {n : Nat × Nat × Nat} {s : Nat} {E : Nat → Nat}
theorem r_its (h : TT S s E) {j q : Nat} (hj : j < 14) (hq : q < 4) : f_X10_its (ov S n) 296 (nI s) (nI j) (nI q) = some (ov S n, eT (E j) q) := by
  have hs := h.1
  unfold f_X10_its b_X10_its_0
  simp (disch := omega) only [j2, j3, j4, j5, j6, j7, j8, j9, j10, j12, j14, j20, j40, j48, j49, j56, j80, j96, j180, j183, j483, j492, j708, j2401, j1000000, nI_1, nI_add, pk_mul, i_le, i_lt, i_eq, i_lt0, i_0le, i_le0, i_eq0, i_0lt, i_eq1, i_eqm1, i_sub1, i_addm1, pk_sub, i_add0, b2i_eq0, b2i_1, i_bit, if_true, if_false, rR2, rR3, rR7, rR8, rR10, rR11, rR15, rR16, rR17, rR18, rR19, rR20, rR21, rR22, rR23, rR25, rI0, rI1, rI4, rI5, rI6, rI9, rI12, rI13, rI14, rI24, rP0, rP1, rP4, rP5, rP6, rP9, rP12, rP13, rP14, rP24, r_chk, bS, r_mem, r_memS, r_lst, r_lstS, r_tre, r_treS, r_voi, r_voiS, h.2 j hj q hq]
theorem r_its0 (h : TT S s E) {j : Nat} (hj : j < 14) : f_X10_its (ov S n) 296 (nI s) (nI j) 0 = some (ov S n, eT (E j) 0) := r_its h hj (q := 0) (by omega)
theorem r_its1 (h : TT S s E) {j : Nat} (hj : j < 14) : f_X10_its (ov S n) 296 (nI s) (nI j) 1 = some (ov S n, nI (cN (E j))) := r_its h hj (q := 1) (by omega)
theorem r_its2 (h : TT S s E) {j : Nat} (hj : j < 14) : f_X10_its (ov S n) 296 (nI s) (nI j) (nI 2) = some (ov S n, nI (cT (E j))) := r_its h hj (q := 2) (by omega)
theorem r_its3 (h : TT S s E) {j : Nat} (hj : j < 14) : f_X10_its (ov S n) 296 (nI s) (nI j) (nI 3) = some (ov S n, nI (cC (E j))) := r_its h hj (q := 3) (by omega)
theorem r_isThere (h : TT S s E) {j : Nat} (hj : j < 14) : f_X10_isThere (ov S n) 296 (nI s) (nI j) = some (ov S n, b2i (mTh E j)) := by
  unfold f_X10_isThere b_X10_isThere_0
  simp (disch := omega) only [j2, j3, j4, j5, j6, j7, j8, j9, j10, j12, j14, j20, j40, j48, j49, j56, j80, j96, j180, j183, j483, j492, j708, j2401, j1000000, nI_1, nI_add, pk_mul, i_le, i_lt, i_eq, i_lt0, i_0le, i_le0, i_eq0, i_0lt, i_eq1, i_eqm1, i_sub1, i_addm1, pk_sub, i_add0, b2i_eq0, b2i_1, i_bit, if_true, if_false, rR2, rR3, rR7, rR8, rR10, rR11, rR15, rR16, rR17, rR18, rR19, rR20, rR21, rR22, rR23, rR25, rI0, rI1, rI4, rI5, rI6, rI9, rI12, rI13, rI14, rI24, rP0, rP1, rP4, rP5, rP6, rP9, rP12, rP13, rP14, rP24, r_chk, bS, r_mem, r_memS, r_lst, r_lstS, r_tre, r_treS, r_voi, r_voiS, r_its0 h hj, eT_0]
  by_cases h1 : j < 2
  · simp [h1, mTh, b2i]
  · by_cases h2 : E j = 0 <;> simp [h1, h2, mTh, b2i]
theorem r_undL (h : TT S s E) (ti : TI E) {top : Nat} (ht : top < 14) : ∀ d a fuel, mUp E d a < 2 → mTh E a = true → d < fuel → l_X10_isUnder_3 fuel (ov S n) 296 (nI s) (nI top) (nI a) = some (ov S n, b2i (mWi E top d a)) := by
  intro d
  induction d with
  | zero =>
    intro a fuel h1 h2 hf
    obtain ⟨f, rfl⟩ : ∃ f, fuel = f + 1 := ⟨fuel - 1, by omega⟩
    have h1 : a < 2 := h1
    show b_X10_isUnder_3 _ _ _ _ _ _ = _
    unfold b_X10_isUnder_3 b_X10_isUnder_28
    simp (disch := omega) only [j2, j3, j4, j5, j6, j7, j8, j9, j10, j12, j14, j20, j40, j48, j49, j56, j80, j96, j180, j183, j483, j492, j708, j2401, j1000000, nI_1, nI_add, pk_mul, i_le, i_lt, i_eq, i_lt0, i_0le, i_le0, i_eq0, i_0lt, i_eq1, i_eqm1, i_sub1, i_addm1, pk_sub, i_add0, b2i_eq0, b2i_1, i_bit, if_true, if_false, h1, mWi]
    by_cases e : a = top <;> simp [e, b2i]
  | succ d ih =>
    intro a fuel h1 h2 hf
    obtain ⟨f, rfl⟩ : ∃ f, fuel = f + 1 := ⟨fuel - 1, by omega⟩
    have ha := mTh_lt ti h2
    show b_X10_isUnder_3 _ _ _ _ _ _ = _
    unfold b_X10_isUnder_3 b_X10_isUnder_28
    by_cases e1 : a = top
    · subst e1
      simp [mWi, b2i]
    · by_cases e2 : a < 2
      · simp (disch := omega) only [j2, j3, j4, j5, j6, j7, j8, j9, j10, j12, j14, j20, j40, j48, j49, j56, j80, j96, j180, j183, j483, j492, j708, j2401, j1000000, nI_1, nI_add, pk_mul, i_le, i_lt, i_eq, i_lt0, i_0le, i_le0, i_eq0, i_0lt, i_eq1, i_eqm1, i_sub1, i_addm1, pk_sub, i_add0, b2i_eq0, b2i_1, i_bit, if_true, if_false, e1, e2, mWi]
        rfl
      · simp only [mUp, e2, if_false] at h1
        have h3 := ti.th h2 e2
        have h4 : E a ≠ 0 := by simpa [mTh, e2] using h2
        simp (disch := omega) only [j2, j3, j4, j5, j6, j7, j8, j9, j10, j12, j14, j20, j40, j48, j49, j56, j80, j96, j180, j183, j483, j492, j708, j2401, j1000000, nI_1, nI_add, pk_mul, i_le, i_lt, i_eq, i_lt0, i_0le, i_le0, i_eq0, i_0lt, i_eq1, i_eqm1, i_sub1, i_addm1, pk_sub, i_add0, b2i_eq0, b2i_1, i_bit, if_true, if_false, e1, e2, mWi, r_its0 h ha, eT_0n h4, Option.bind_some]
        exact ih _ f h1 h3.1 (by omega)
theorem r_isUnder (h : TT S s E) (ti : TI E) {a top : Nat} (ht : top < 14) (ha : mTh E a = true) : f_X10_isUnder (ov S n) 296 (nI s) (nI a) (nI top) = some (ov S n, b2i (mWi E top 14 a)) := by
  unfold f_X10_isUnder b_X10_isUnder_0
  rw [r_chk, r_undL h ti ht 12 a q_FU (ti.up ha) ha (q_FU_lt (by omega)), ← mWi_st E top 12 a 2 (ti.up ha)]
theorem r_canGo (h : TT S s E) (ti : TI E) {f p : Nat} (hf : 2 ≤ f) (hf' : f < 14) (hp : p < 14) : f_X10_canGo (ov S n) 296 (nI s) (nI f) (nI p) = some (ov S n, b2i (mGo E f 14 p)) := by
  unfold f_X10_canGo b_X10_canGo_0
  rw [ok_go ti hf]
  by_cases e1 : mTh E p = true
  · simp (disch := omega) only [j2, j3, j4, j5, j6, j7, j8, j9, j10, j12, j14, j20, j40, j48, j49, j56, j80, j96, j180, j183, j483, j492, j708, j2401, j1000000, nI_1, nI_add, pk_mul, i_le, i_lt, i_eq, i_lt0, i_0le, i_le0, i_eq0, i_0lt, i_eq1, i_eqm1, i_sub1, i_addm1, pk_sub, i_add0, b2i_eq0, b2i_1, i_bit, if_true, if_false, r_chk, r_isThere h hp, r_isThere h hf', Option.bind_some, r_isUnder h ti hf' e1, e1, Bool.true_eq_false]
    by_cases e2 : p = f
    · simp [e2, b2i]
    · by_cases e3 : mTh E f = true
      · by_cases e4 : mWi E f 14 p = true <;> simp [e2, e3, e4, b2i]
      · simp [e2, e3, b2i]
  · have e1' : mTh E p = false := by simpa using e1
    simp (disch := omega) only [j2, j3, j4, j5, j6, j7, j8, j9, j10, j12, j14, j20, j40, j48, j49, j56, j80, j96, j180, j183, j483, j492, j708, j2401, j1000000, nI_1, nI_add, pk_mul, i_le, i_lt, i_eq, i_lt0, i_0le, i_le0, i_eq0, i_0lt, i_eq1, i_eqm1, i_sub1, i_addm1, pk_sub, i_add0, b2i_eq0, b2i_1, i_bit, if_true, if_false, r_chk, r_isThere h hp, Option.bind_some, e1']
    rfl
theorem r_folders (h : TT S s E) : f_X10_folders (ov S n) 296 (nI s) = some (ov S n, nI (fw (mSt (fun j => decide (E j ≠ 0))) 0 2 12)) := by
  unfold f_X10_folders b_X10_folders_0
  rw [r_chk]
  refine fw_loop (fun fuel a j => l_X10_folders_4 fuel (ov S n) 296 (nI s) (nI a) (nI j)) (mSt (fun j => decide (E j ≠ 0))) (fun a => (ov S n, nI a)) (fun a => a < 2 ^ 32) 2 14 (fun fuel a _ => rfl) (fun fuel a j ha h1 h2 => ⟨mSt_lt (by omega) ha, ?_⟩) 12 2 q_FU 0 (by omega) (by omega) (by omega) (q_FU_lt (by omega))
  show b_X10_folders_4 _ _ _ _ _ _ = _
  unfold b_X10_folders_4 b_X10_folders_27
  have : mTh E j = decide (E j ≠ 0) := by simp [mTh]; omega
  simp (disch := omega) only [j2, j3, j4, j5, j6, j7, j8, j9, j10, j12, j14, j20, j40, j48, j49, j56, j80, j96, j180, j183, j483, j492, j708, j2401, j1000000, nI_1, nI_add, pk_mul, i_le, i_lt, i_eq, i_lt0, i_0le, i_le0, i_eq0, i_0lt, i_eq1, i_eqm1, i_sub1, i_addm1, pk_sub, i_add0, b2i_eq0, b2i_1, i_bit, if_true, if_false, r_isThere h h2, Option.bind_some, i_or a (2 ^ j) ha (Nat.pow_lt_pow_right (by omega) (by omega)), i_or0, mSt, this, show ¬ 14 ≤ j by omega]
  by_cases e : E j = 0 <;> simp [e]
theorem r_rightBelow (h : TT S s E) {p : Nat} (hp : p < 2 ^ 31) : f_X10_rightBelow (ov S n) 296 (nI s) (nI p) = some (ov S n, nI (mCh E p)) := by
  unfold f_X10_rightBelow b_X10_rightBelow_0
  rw [r_chk]
  refine fw_loop (fun fuel a j => l_X10_rightBelow_5 fuel (ov S n) 296 (nI s) (nI p) (nI a) (nI j)) (mSt (mRb E p)) (fun a => (ov S n, nI a)) (fun a => a < 2 ^ 32) 2 14 (fun fuel a _ => rfl) (fun fuel a j ha h1 h2 => ⟨mSt_lt (by omega) ha, ?_⟩) 12 2 q_FU 0 (by omega) (by omega) (by omega) (q_FU_lt (by omega))
  show b_X10_rightBelow_5 _ _ _ _ _ _ _ = _
  unfold b_X10_rightBelow_5 b_X10_rightBelow_42 b_X10_rightBelow_43
  have : mTh E j = decide (E j ≠ 0) := by simp [mTh]; omega
  by_cases e : E j = 0
  · simp (disch := omega) only [j2, j3, j4, j5, j6, j7, j8, j9, j10, j12, j14, j20, j40, j48, j49, j56, j80, j96, j180, j183, j483, j492, j708, j2401, j1000000, nI_1, nI_add, pk_mul, i_le, i_lt, i_eq, i_lt0, i_0le, i_le0, i_eq0, i_0lt, i_eq1, i_eqm1, i_sub1, i_addm1, pk_sub, i_add0, b2i_eq0, b2i_1, i_bit, if_true, if_false, r_isThere h h2, r_its0 h h2, Option.bind_some, i_or0, mSt, this, show ¬ 14 ≤ j by omega]
    simp [e, mRb]
  · simp (disch := omega) only [j2, j3, j4, j5, j6, j7, j8, j9, j10, j12, j14, j20, j40, j48, j49, j56, j80, j96, j180, j183, j483, j492, j708, j2401, j1000000, nI_1, nI_add, pk_mul, i_le, i_lt, i_eq, i_lt0, i_0le, i_le0, i_eq0, i_0lt, i_eq1, i_eqm1, i_sub1, i_addm1, pk_sub, i_add0, b2i_eq0, b2i_1, i_bit, if_true, if_false, r_isThere h h2, r_its0 h h2, Option.bind_some, i_or a (2 ^ j) ha (Nat.pow_lt_pow_right (by omega) (by omega)), i_or0, mSt, this, show ¬ 14 ≤ j by omega, eT_0p e hp]
    by_cases e2 : cP (E j) = p <;> simp [e, e2, mRb]
/-- what lies below, without the node -/
def mAb (E : Nat → Nat) (t : Nat) : Nat := fw (mSt (fun j => decide (j ≠ t) && (decide (E j ≠ 0) && mWi E t 14 j))) 0 2 12
theorem r_allBelow (h : TT S s E) (ti : TI E) {p : Nat} (hp : p < 14) : f_X10_allBelow (ov S n) 296 (nI s) (nI p) = some (ov S n, nI (mAb E p)) := by
  unfold f_X10_allBelow b_X10_allBelow_0
  rw [r_chk]
  refine fw_loop (fun fuel a j => l_X10_allBelow_5 fuel (ov S n) 296 (nI s) (nI p) (nI a) (nI j)) (mSt (fun j => decide (j ≠ p) && (decide (E j ≠ 0) && mWi E p 14 j))) (fun a => (ov S n, nI a)) (fun a => a < 2 ^ 32) 2 14 (fun fuel a _ => rfl) (fun fuel a j ha h1 h2 => ⟨mSt_lt (by omega) ha, ?_⟩) 12 2 q_FU 0 (by omega) (by omega) (by omega) (q_FU_lt (by omega))
  show b_X10_allBelow_5 _ _ _ _ _ _ _ = _
  unfold b_X10_allBelow_5 b_X10_allBelow_47 b_X10_allBelow_48
  have : mTh E j = decide (E j ≠ 0) := by simp [mTh]; omega
  by_cases e : E j = 0
  · simp (disch := omega) only [j2, j3, j4, j5, j6, j7, j8, j9, j10, j12, j14, j20, j40, j48, j49, j56, j80, j96, j180, j183, j483, j492, j708, j2401, j1000000, nI_1, nI_add, pk_mul, i_le, i_lt, i_eq, i_lt0, i_0le, i_le0, i_eq0, i_0lt, i_eq1, i_eqm1, i_sub1, i_addm1, pk_sub, i_add0, b2i_eq0, b2i_1, i_bit, if_true, if_false, r_isThere h h2, Option.bind_some, i_or0, mSt, this, show ¬ 14 ≤ j by omega]
    simp [e]
  · have ht : mTh E j = true := by simp [this, e]
    simp (disch := omega) only [j2, j3, j4, j5, j6, j7, j8, j9, j10, j12, j14, j20, j40, j48, j49, j56, j80, j96, j180, j183, j483, j492, j708, j2401, j1000000, nI_1, nI_add, pk_mul, i_le, i_lt, i_eq, i_lt0, i_0le, i_le0, i_eq0, i_0lt, i_eq1, i_eqm1, i_sub1, i_addm1, pk_sub, i_add0, b2i_eq0, b2i_1, i_bit, if_true, if_false, r_isThere h h2, r_isUnder h ti hp ht, Option.bind_some, i_or a (2 ^ j) ha (Nat.pow_lt_pow_right (by omega) (by omega)), i_or0, mSt, ht, show ¬ 14 ≤ j by omega, Bool.true_eq_false]
    by_cases e2 : j = p
    · simp [e2]
    · by_cases e3 : mWi E p 14 j = true <;> simp [e, e2, e3]
theorem eT_inj {k k' : Nat} (h : k ≠ 0) (h' : k' ≠ 0) (hk : k < 2 ^ 31) (hk' : k' < 2 ^ 31) (hF : cF k = cF k') : mAll (fun q => decide (eT k q = eT k' q)) 0 4 = decide (k = k') := by
  have h1 := cP_lt k
  have h2 := cP_lt k'
  have h3 := cN_lt k
  have h4 := cN_lt k'
  have h5 := cT_lt hk
  have h6 := cT_lt hk'
  have h7 := cC_lt k
  have h8 := cC_lt k'
  show (decide (eT k 0 = eT k' 0) && (decide (nI (cN k) = nI (cN k')) && (decide (nI (cT k) = nI (cT k')) && (decide (nI (cC k) = nI (cC k')) && true)))) = _
  rw [eT_0n h, eT_0n h']
  simp (disch := omega) only [i_eq]
  by_cases e : k = k'
  · subst e; simp
  · have a1 := cMk_all k
    have a2 := cMk_all k'
    by_cases b1 : cP k = cP k'
    · by_cases b2 : cN k = cN k'
      · by_cases b3 : cT k = cT k'
        · by_cases b4 : cC k = cC k'
          · exfalso
            apply e
            rw [← a1, ← a2, b1, b2, b3, b4, hF]
          · simp [e, b4]
        · simp [e, b3]
      · simp [e, b2]
    · simp [e, b1]
theorem r_othL (h : TT S s E) {s' : Nat} {D : Nat → Nat} (h' : TT S s' D) (k5 : q_H → Nat → Int32 → Int32 → Int32 → Int32 → Option (q_H × Int32)) {j a : Nat} (hj : j < 14) (h2 : 2 ≤ j) : ∀ d w fuel x, w + d = 4 → d < fuel → l_X10_otherSet_39 k5 fuel (ov S n) 296 (nI s) (nI s') (nI a) (nI j) (b2i x) (nI w) = b_X10_otherSet_94 k5 (ov S n) 296 (nI s) (nI s') (nI a) (nI j) (b2i (x || (decide (E j ≠ 0) && !(mAll (fun q => decide (eT (E j) q = eT (D j) q)) w d)))) := by
  have ht : mTh E j = decide (E j ≠ 0) := by simp [mTh]; omega
  intro d
  induction d with
  | zero =>
    intro w fuel x hw hf
    obtain ⟨f, rfl⟩ : ∃ f, fuel = f + 1 := ⟨fuel - 1, by omega⟩
    show b_X10_otherSet_39 _ _ _ _ _ _ _ _ _ _ = _
    unfold b_X10_otherSet_39
    simp (disch := omega) only [j2, j3, j4, j5, j6, j7, j8, j9, j10, j12, j14, j20, j40, j48, j49, j56, j80, j96, j180, j183, j483, j492, j708, j2401, j1000000, nI_1, nI_add, pk_mul, i_le, i_lt, i_eq, i_lt0, i_0le, i_le0, i_eq0, i_0lt, i_eq1, i_eqm1, i_sub1, i_addm1, pk_sub, i_add0, b2i_eq0, b2i_1, i_bit, if_true, if_false, show 4 ≤ w by omega, mAll, Bool.not_true, Bool.and_false, Bool.or_false]
  | succ d ih =>
    intro w fuel x hw hf
    obtain ⟨f, rfl⟩ : ∃ f, fuel = f + 1 := ⟨fuel - 1, by omega⟩
    show b_X10_otherSet_39 _ _ _ _ _ _ _ _ _ _ = _
    unfold b_X10_otherSet_39 b_X10_otherSet_86
    simp (disch := omega) only [j2, j3, j4, j5, j6, j7, j8, j9, j10, j12, j14, j20, j40, j48, j49, j56, j80, j96, j180, j183, j483, j492, j708, j2401, j1000000, nI_1, nI_add, pk_mul, i_le, i_lt, i_eq, i_lt0, i_0le, i_le0, i_eq0, i_0lt, i_eq1, i_eqm1, i_sub1, i_addm1, pk_sub, i_add0, b2i_eq0, b2i_1, i_bit, if_true, if_false, show ¬ 4 ≤ w by omega, r_isThere h hj, r_its h hj (show w < 4 by omega), r_its h' hj (show w < 4 by omega), Option.bind_some, ht, mAll]
    by_cases e : E j = 0
    · simp [e]
    · cases x with
      | true => simp [e]
      | false =>
        have i0 := ih (w + 1) f false (by omega) (by omega)
        have i1 := ih (w + 1) f true (by omega) (by omega)
        by_cases e2 : eT (E j) w = eT (D j) w
        · simp [e, e2] at i0 ⊢
          exact i0
        · simp [e, e2] at i1 ⊢
          exact i1
theorem r_otherSet (h : TT S s E) (ti : TI E) {s' : Nat} {D : Nat → Nat} (h' : TT S s' D) (ti' : TI D) : f_X10_otherSet (ov S n) 296 (nI s) (nI s') = some (ov S n, nI (mOt E D)) := by
  unfold f_X10_otherSet b_X10_otherSet_0
  rw [r_chk]
  refine fw_loop (fun fuel a j => l_X10_otherSet_5 fuel (ov S n) 296 (nI s) (nI s') (nI a) (nI j)) (mSt (fun j => decide (E j ≠ D j))) (fun a => (ov S n, nI a)) (fun a => a < 2 ^ 32) 2 14 (fun fuel a _ => rfl) (fun fuel a j ha h1 h2 => ⟨mSt_lt (by omega) ha, ?_⟩) 12 2 q_FU 0 (by omega) (by omega) (by omega) (q_FU_lt (by omega))
  have ht : mTh E j = decide (E j ≠ 0) := by simp [mTh]; omega
  have ht' : mTh D j = decide (D j ≠ 0) := by simp [mTh]; omega
  show b_X10_otherSet_5 _ _ _ _ _ _ _ = _
  unfold b_X10_otherSet_5 b_X10_otherSet_34
  have hx : ∀ x, l_X10_otherSet_39 (l_X10_otherSet_5 fuel) q_FU (ov S n) 296 (nI s) (nI s') (nI a) (nI j) (b2i x) 0 = _ := fun x => r_othL h h' (l_X10_otherSet_5 fuel) (a := a) h2 h1 4 0 q_FU x (by omega) (q_FU_lt (by omega))
  have hx0 := hx false
  have hx1 := hx true
  have e0 : b2i false = 0 := rfl
  have e1 : b2i true = 1 := rfl
  rw [e0] at hx0
  rw [e1] at hx1
  simp (disch := omega) only [j2, j3, j4, j5, j6, j7, j8, j9, j10, j12, j14, j20, j40, j48, j49, j56, j80, j96, j180, j183, j483, j492, j708, j2401, j1000000, nI_1, nI_add, pk_mul, i_le, i_lt, i_eq, i_lt0, i_0le, i_le0, i_eq0, i_0lt, i_eq1, i_eqm1, i_sub1, i_addm1, pk_sub, i_add0, b2i_eq0, b2i_1, i_bit, if_true, if_false, show ¬ 14 ≤ j by omega, r_isThere h h2, r_isThere h' h2, Option.bind_some, hx0, hx1, ht, ht', mSt]
  unfold b_X10_otherSet_94 b_X10_otherSet_108
  simp (disch := omega) only [j2, j3, j4, j5, j6, j7, j8, j9, j10, j12, j14, j20, j40, j48, j49, j56, j80, j96, j180, j183, j483, j492, j708, j2401, j1000000, nI_1, nI_add, pk_mul, i_le, i_lt, i_eq, i_lt0, i_0le, i_le0, i_eq0, i_0lt, i_eq1, i_eqm1, i_sub1, i_addm1, pk_sub, i_add0, b2i_eq0, b2i_1, i_bit, if_true, if_false, i_or a (2 ^ j) ha (Nat.pow_lt_pow_right (by omega) (by omega)), i_or0]
  by_cases e : E j = 0
  · by_cases e2 : D j = 0
    · simp [e, e2]
    · have : ¬ b2i false = b2i true := by decide
      simp [e, e2, this, Ne.symm e2]
  · by_cases e2 : D j = 0
    · have : ¬ b2i true = b2i false := by decide
      simp [e, e2, this]
    · rw [eT_inj e e2 (ti.b j) (ti'.b j) (by rw [(ti j e).2.1, (ti' j e2).2.1])]
      by_cases e3 : E j = D j <;> simp [e, e2, e3]
/-- no two entries of one stamp -/
def SU (E : Nat → Nat) : Prop := ∀ i j, E i ≠ 0 → E j ≠ 0 → E i / 4096 = E j / 4096 → E i = E j
theorem SU.ls {E : Nat → Nat} (h : SU E) {i j : Nat} (hi : E i ≠ 0) (hj : E j ≠ 0) : mLs (E i) (E j) = decide (E i < E j) := by
  unfold mLs
  congr 1
  apply propext
  have := h i j hi hj
  constructor
  · intro q; omega
  · intro q
    by_cases e : E i / 4096 = E j / 4096
    · exact absurd (this e) (by omega)
    · omega
theorem r_rank (h : TT S s E) (ti : TI E) (su : SU E) {f : Nat} (hf : E f ≠ 0) : f_X10_rank (ov S n) 296 (nI s) (nI f) = some (ov S n, nI (mRk E f)) := by
  have hf14 := (ti.lt hf).2
  unfold f_X10_rank b_X10_rank_0
  rw [r_chk]
  refine fw_loop (fun fuel a j => l_X10_rank_5 fuel (ov S n) 296 (nI s) (nI f) (nI a) (nI j)) (mCnt (mLess E f)) (fun a => (ov S n, nI a)) (fun _ => True) 2 14 (fun fuel a _ => rfl) (fun fuel a j _ h1 h2 => ⟨trivial, ?_⟩) 12 2 q_FU 0 trivial (by omega) (by omega) (q_FU_lt (by omega))
  show b_X10_rank_5 _ _ _ _ _ _ _ = _
  unfold b_X10_rank_5 b_X10_rank_68 b_X10_rank_69 b_X10_rank_117 b_X10_rank_118
  have ht : mTh E j = decide (E j ≠ 0) := by simp [mTh]; omega
  have f0 : f_X10_flag (ov S n) 0 = some (ov S n, 0) := rfl
  have f1 : f_X10_flag (ov S n) 1 = some (ov S n, 1) := rfl
  have n1 := cN_lt (E j)
  have n2 := cN_lt (E f)
  have p2 := cP_lt (E f)
  have z1 : ¬ (1 : Int32) = 0 := by decide
  by_cases e : E j = 0
  · simp (disch := omega) only [j2, j3, j4, j5, j6, j7, j8, j9, j10, j12, j14, j20, j40, j48, j49, j56, j80, j96, j180, j183, j483, j492, j708, j2401, j1000000, nI_1, nI_add, pk_mul, i_le, i_lt, i_eq, i_lt0, i_0le, i_le0, i_eq0, i_0lt, i_eq1, i_eqm1, i_sub1, i_addm1, pk_sub, i_add0, b2i_eq0, b2i_1, i_bit, if_true, if_false, show ¬ 14 ≤ j by omega, r_isThere h h2, Option.bind_some, ht, f0]
    simp [e, mCnt, mLess, mRb]
  · simp (disch := omega) only [j2, j3, j4, j5, j6, j7, j8, j9, j10, j12, j14, j20, j40, j48, j49, j56, j80, j96, j180, j183, j483, j492, j708, j2401, j1000000, nI_1, nI_add, pk_mul, i_le, i_lt, i_eq, i_lt0, i_0le, i_le0, i_eq0, i_0lt, i_eq1, i_eqm1, i_sub1, i_addm1, pk_sub, i_add0, b2i_eq0, b2i_1, i_bit, if_true, if_false, show ¬ 14 ≤ j by omega, r_isThere h h2, r_its0 h h2, r_its1 h h2, r_its2 h h2, r_its3 h h2, r_its0 h hf14, r_its1 h hf14, r_its2 h hf14, r_its3 h hf14, Option.bind_some, ht, f0, f1, z1, eT_0n hf, eT_0p e (show cP (E f) < 2 ^ 31 by omega), r_isLess (ov S n) (ti.b j) (ti.b f), su.ls e hf]
    by_cases e1 : j = f
    · subst e1
      simp [mCnt, mLess]
    · by_cases e2 : cP (E j) = cP (E f)
      · by_cases e3 : cN (E j) = cN (E f)
        · by_cases e4 : E j < E f
          · simp [e, e1, e2, e3, e4, mCnt, mLess, mRb]
          · simp [e, e1, e2, e3, e4, mCnt, mLess, mRb]
        · simp [e, e1, e2, e3, mCnt, mLess, mRb]
      · simp [e, e1, e2, mCnt, mLess, mRb]
end RT
