/-! LISTS IN AN ORDER -/
theorem sub_bit : ∀ (a v : Nat), v.testBit a = true → 2 ^ a ≤ v ∧ ∀ i, (v - 2 ^ a).testBit i = (v.testBit i && decide (i ≠ a)) := by
  intro a
  induction a with
  | zero =>
    intro v h
    rw [Nat.testBit_zero, decide_eq_true_eq] at h
    refine ⟨by rw [Nat.pow_zero]; omega, fun i => ?_⟩
    rw [Nat.pow_zero]
    cases i with
    | zero => rw [Nat.testBit_zero, decide_eq_false (by omega), decide_eq_false (fun q => q rfl), Bool.and_false]
    | succ i => rw [Nat.testBit_succ, Nat.testBit_succ, show (v - 1) / 2 = v / 2 by omega, decide_eq_true (by omega), Bool.and_true]
  | succ a ih =>
    intro v h
    rw [Nat.testBit_succ] at h
    obtain ⟨h1, h2⟩ := ih (v / 2) h
    have hp : 2 ^ (a + 1) = 2 * 2 ^ a := by rw [Nat.pow_succ, Nat.mul_comm]
    refine ⟨by omega, fun i => ?_⟩
    cases i with
    | zero => rw [Nat.testBit_zero, Nat.testBit_zero, show (v - 2 ^ (a + 1)) % 2 = v % 2 by omega, decide_eq_true (show (0 : Nat) ≠ a + 1 by omega), Bool.and_true]
    | succ i =>
      rw [Nat.testBit_succ, Nat.testBit_succ, show (v - 2 ^ (a + 1)) / 2 = v / 2 - 2 ^ a by omega, h2 i]
      congr 1
      apply decide_eq_decide.mpr
      omega
theorem i_clr {v a : Nat} (hv : v < 2 ^ 14) (ha : a < 14) (h : v.testBit a = true) : nI v &&& (((1 : Int32) <<< (nI a &&& 31)) ^^^ (-1)) = nI (v - 2 ^ a) := by
  have hp : 2 ^ a < 2 ^ 14 := Nat.pow_lt_pow_right (by omega) ha
  rw [i_bit (by omega)]
  apply Int32.toBitVec_inj.mp
  apply BitVec.eq_of_toNat_eq
  have e1 : (-1 : Int32).toBitVec.toNat = 2 ^ 32 - 1 := by decide
  rw [Int32.toBitVec_and, Int32.toBitVec_xor, BitVec.toNat_and, BitVec.toNat_xor, pk_tn (n := v) (by omega), pk_tn (n := 2 ^ a) (by omega), pk_tn (n := v - 2 ^ a) (Nat.lt_of_le_of_lt (Nat.sub_le _ _) (by omega)), e1]
  apply Nat.eq_of_testBit_eq
  intro i
  rw [(sub_bit a v h).2 i, Nat.testBit_and, Nat.testBit_xor, Nat.testBit_two_pow, Nat.testBit_two_pow_sub_one]
  by_cases hi : i < 32
  · by_cases e : i = a
    · subst e; simp [hi]
    · simp [hi, e, Ne.symm e]
  · have : v.testBit i = false := Nat.testBit_lt_two_pow (Nat.lt_of_lt_of_le hv (Nat.pow_le_pow_right (by omega) (by omega)))
    simp [this]
theorem i_sb {v a : Nat} (hv : v < 2 ^ 14) (ha : a < 14) (h : v.testBit a = true) : nI v - ((1 : Int32) <<< (nI a &&& 31)) = nI (v - 2 ^ a) := by
  rw [i_bit (by omega), pk_sub (sub_bit a v h).1]
theorem sub_cnt {v a : Nat} (ha : a < 20) (h : v.testBit a = true) : cbit 20 v = cbit 20 (v - 2 ^ a) + 1 := by
  rw [cbit_c0, cbit_c0]
  refine cn_one (p := a) (by omega) (by omega) (fun i hi => ?_) h ?_
  · rw [(sub_bit a v h).2 i, decide_eq_true hi, Bool.and_true]
  · rw [(sub_bit a v h).2 a, decide_eq_false (fun q => q rfl), Bool.and_false]
theorem cn_z {P : Nat → Bool} : ∀ {d j : Nat}, cn P j d = 0 → ∀ i, j ≤ i → i < j + d → P i = false := by
  intro d
  induction d with
  | zero => intro j _ i h1 h2; omega
  | succ d ih =>
    intro j h i h1 h2
    rw [cn_s] at h
    by_cases e : i = j
    · subst e
      cases q : P i
      · rfl
      · rw [q, if_pos rfl] at h
        omega
    · exact ih (j := j + 1) (by omega) i (by omega) (by omega)
theorem cbit_z {v : Nat} (hv : v < 2 ^ 20) : cbit 20 v = 0 ↔ v = 0 := by
  constructor
  · intro h
    rw [cbit_c0] at h
    apply Nat.eq_of_testBit_eq
    intro i
    rw [Nat.zero_testBit]
    by_cases hi : i < 20
    · exact cn_z h i (by omega) (by omega)
    · exact Nat.testBit_lt_two_pow (Nat.lt_of_lt_of_le hv (Nat.pow_le_pow_right (by omega) (by omega)))
  · intro h; subst h; decide
theorem cn_or {P Q R : Nat → Bool} : ∀ {d j : Nat}, (∀ i, R i = (P i || Q i)) → (∀ i, P i = true → Q i = false) → cn R j d = cn P j d + cn Q j d := by
  intro d
  induction d with
  | zero => intro j _ _; rfl
  | succ d ih =>
    intro j h1 h2
    rw [cn_s, cn_s, cn_s, ih h1 h2, h1 j]
    cases q : P j
    · cases q2 : Q j <;> simp <;> omega
    · rw [h2 j q]; simp; omega
theorem cn_mono {P Q : Nat → Bool} : ∀ {d j : Nat}, (∀ i, P i = true → Q i = true) → cn P j d ≤ cn Q j d := by
  intro d
  induction d with
  | zero => intro j _; exact Nat.le_refl _
  | succ d ih =>
    intro j h
    rw [cn_s, cn_s]
    have := ih (j := j + 1) h
    cases q : P j
    · cases q2 : Q j <;> simp <;> omega
    · rw [h j q]; simp; omega
theorem cn_lt {P Q : Nat → Bool} {p : Nat} : ∀ {d j : Nat}, j ≤ p → p < j + d → (∀ i, P i = true → Q i = true) → P p = false → Q p = true → cn P j d < cn Q j d := by
  intro d
  induction d with
  | zero => intro j h1 h2; omega
  | succ d ih =>
    intro j h1 h2 h3 h4 h5
    rw [cn_s, cn_s]
    by_cases e : j = p
    · subst e
      have := cn_mono (d := d) (j := j + 1) h3
      rw [h4, h5]
      simp
      omega
    · have := ih (j := j + 1) (by omega) (by omega) h3 h4 h5
      cases q : P j
      · cases q2 : Q j <;> simp <;> omega
      · rw [h3 j q]; simp; omega
section LS
variable {E : Nat → Nat}
/-- within a node -/
def wiB (E : Nat → Nat) (b j : Nat) : Bool := decide (E j ≠ 0) && mWi E b 14 j
/-- below a node -/
def sbB (E : Nat → Nat) (b j : Nat) : Bool := decide (j ≠ b) && wiB E b j
noncomputable def wvB (E : Nat → Nat) (v j : Nat) : Bool := @decide (∃ b, v.testBit b = true ∧ wiB E b j = true) (Classical.propDecidable _)
theorem wv_iff {v j : Nat} : wvB E v j = true ↔ ∃ b, v.testBit b = true ∧ wiB E b j = true := by
  unfold wvB
  exact @decide_eq_true_iff _ (Classical.propDecidable _)
theorem sx_up {t : Nat} : ∀ d a, mWi E t d a = true → mUp E (mSx E t d a) a = t := by
  intro d
  induction d with
  | zero => intro a h; simpa [mWi, mSx, mUp] using h
  | succ d ih =>
    intro a h
    by_cases e1 : a = t
    · simp [mSx, e1, mUp]
    · by_cases e2 : a < 2
      · simp [mWi, e1, e2] at h
      · simp only [mWi, e1, e2, if_false] at h
        simp only [mSx, e1, e2, if_false, mUp]
        exact ih _ h
theorem wi_th (ti : TI E) {b : Nat} : ∀ d j, mTh E j = true → mWi E b d j = true → mTh E b = true := by
  intro d
  induction d with
  | zero =>
    intro j hj h
    have : j = b := by simpa [mWi] using h
    rw [← this]; exact hj
  | succ d ih =>
    intro j hj h
    by_cases e1 : j = b
    · rw [← e1]; exact hj
    · by_cases e2 : j < 2
      · simp [mWi, e1, e2] at h
      · simp only [mWi, e1, e2, if_false] at h
        exact ih _ (ti.th hj e2).1 h
theorem wi_at (ti : TI E) {b j : Nat} (h : wiB E b j = true) : mTh E j = true ∧ mTh E b = true ∧ b = mUp E (mSu E 14 j - mSu E 14 b) j := by
  simp only [wiB, Bool.and_eq_true, decide_eq_true_eq] at h
  have hj : mTh E j = true := by simp [mTh, h.1]
  have hb := wi_th ti 14 j hj h.2
  have h2 := su_sx ti hb hj h.2
  have h3 := sx_up 14 j h.2
  have h4 : mSx E b 14 j = mSx E b 13 j := sx_st (E := E) (t := b) 12 j 1 (ti.up hj)
  refine ⟨hj, hb, ?_⟩
  rw [h4] at h3
  rw [show mSu E 14 j - mSu E 14 b = mSx E b 13 j by omega, h3]
theorem sib (ti : TI E) {p b b' j : Nat} (hb : mRb E p b = true) (hb' : mRb E p b' = true) (h : wiB E b j = true) (h' : wiB E b' j = true) : b = b' := by
  obtain ⟨t1, t2, t3⟩ := rb_th ti hb
  obtain ⟨u1, u2, u3⟩ := rb_th ti hb'
  have e1 := su_s ti t1 t2
  have e2 := su_s ti u1 u2
  rw [t3] at e1
  rw [u3] at e2
  have a1 := (wi_at ti h).2.2
  have a2 := (wi_at ti h').2.2
  rw [a1, a2, e1, e2]
theorem wi_sb {b : Nat} (hb : E b ≠ 0) (h2 : 2 ≤ b) (h14 : b < 14) : cn (wiB E b) 2 12 = cn (sbB E b) 2 12 + 1 := by
  refine cn_one (p := b) h2 (by omega) (fun i hi => ?_) ?_ ?_
  · unfold sbB; rw [decide_eq_true hi, Bool.true_and]
  · unfold wiB; rw [wi_self, decide_eq_true hb]; rfl
  · unfold sbB; rw [decide_eq_false (fun q => q rfl), Bool.false_and]
/-- a set of nodes right below p -/
def inC (E : Nat → Nat) (p v : Nat) : Prop := v < 2 ^ 14 ∧ ∀ i, v.testBit i = true → mRb E p i = true
theorem inC.sub {p v b : Nat} (h : inC E p v) (hb : v.testBit b = true) : inC E p (v - 2 ^ b) := ⟨Nat.lt_of_le_of_lt (Nat.sub_le _ _) h.1, fun i hi => by
  rw [(sub_bit b v hb).2 i, Bool.and_eq_true] at hi
  exact h.2 i hi.1⟩
theorem inC.ch (E : Nat → Nat) (p : Nat) : inC E p (mCh E p) := ⟨ch_lt E p, fun i hi => by
  unfold mCh at hi
  rw [st_bit0, Bool.and_eq_true] at hi
  exact hi.2⟩
theorem wv_sub (ti : TI E) {p v b : Nat} (h : inC E p v) (hb : v.testBit b = true) : cn (wvB E v) 2 12 = cn (wiB E b) 2 12 + cn (wvB E (v - 2 ^ b)) 2 12 := by
  refine cn_or (fun i => ?_) (fun i hi => ?_)
  · cases q : wiB E b i
    · rw [Bool.false_or]
      apply Bool.eq_iff_iff.mpr
      rw [wv_iff, wv_iff]
      constructor
      · rintro ⟨b', h1, h2⟩
        refine ⟨b', ?_, h2⟩
        rw [(sub_bit b v hb).2 b', h1, Bool.true_and]
        refine decide_eq_true (fun e => ?_)
        subst e
        rw [q] at h2
        cases h2
      · rintro ⟨b', h1, h2⟩
        rw [(sub_bit b v hb).2 b', Bool.and_eq_true] at h1
        exact ⟨b', h1.1, h2⟩
    · rw [Bool.true_or]
      exact wv_iff.mpr ⟨b, hb, q⟩
  · cases q : wvB E (v - 2 ^ b) i
    · rfl
    · obtain ⟨b', h1, h2⟩ := wv_iff.mp q
      rw [(sub_bit b v hb).2 b', Bool.and_eq_true, decide_eq_true_eq] at h1
      exact absurd (sib ti (h.2 b' h1.1) (h.2 b hb) h2 hi) h1.2
theorem wi_step (ti : TI E) {p b : Nat} (hb : mRb E p b = true) : ∀ j, wiB E b j = true → sbB E p j = true := by
  intro j h
  obtain ⟨t1, t2, t3⟩ := rb_th ti hb
  have a := wi_at ti h
  have e1 := su_s ti t1 t2
  rw [t3] at e1
  simp only [wiB, Bool.and_eq_true, decide_eq_true_eq] at h
  have h2 := su_sx ti t1 a.1 h.2
  have up : ∀ d j, mWi E b d j = true → mWi E p (d + 1) j = true := by
    intro d
    induction d with
    | zero =>
      intro j hj
      have : j = b := by simpa [mWi] using hj
      subst this
      show (if j = p then true else if j < 2 then false else decide (cP (E j) = p)) = true
      rw [t3]
      by_cases e : j = p
      · simp [e]
      · simp [e, t2]
    | succ d ih =>
      intro j hj
      by_cases e0 : j = p
      · subst e0; exact wi_self E j _
      · by_cases e1 : j = b
        · subst e1
          show (if j = p then true else if j < 2 then false else mWi E p (d + 1) (cP (E j))) = true
          rw [if_neg e0, if_neg t2, t3]
          exact wi_self E p _
        · by_cases e2 : j < 2
          · simp [mWi, e1, e2] at hj
          · simp only [mWi, e1, e2, if_false] at hj
            show (if j = p then true else if j < 2 then false else mWi E p (d + 1) (cP (E j))) = true
            rw [if_neg e0, if_neg e2]
            exact ih _ hj
  have h15 := up 14 j h.2
  have e15 : mWi E p 15 j = mWi E p 12 j := mWi_st E p 12 j 3 (ti.up a.1)
  have e14 : mWi E p 14 j = mWi E p 12 j := mWi_st E p 12 j 2 (ti.up a.1)
  have hne : j ≠ p := by
    intro e
    subst e
    omega
  unfold sbB wiB
  rw [decide_eq_true hne, decide_eq_true h.1, e14, ← e15, h15]
  rfl
theorem wv_ch (ti : TI E) (p : Nat) : cn (wvB E (mCh E p)) 2 12 ≤ cn (sbB E p) 2 12 :=
  cn_mono (fun j hj => by
    obtain ⟨b, h1, h2⟩ := wv_iff.mp hj
    exact wi_step ti ((inC.ch E p).2 b h1) j h2)
/-! the order -/
def aR (E : Nat → Nat) (how k b : Nat) : Bool :=
  if how = 1 then (if cN (E k) = cN (E b) then decide (E k < E b) else decide (cN (E k) < cN (E b)))
  else if how = 2 then decide (E b < E k)
  else if how = 3 then decide (cbit 20 (mAb E b) < cbit 20 (mAb E k)) else false
def aStep (E : Nat → Nat) (how v k b : Nat) : Nat := if v.testBit k && (decide (b = 0) || aR E how k b) then k else b
def aF (E : Nat → Nat) (how v : Nat) : Nat := fw (aStep E how v) 0 2 12
theorem aF_in {how v : Nat} : ∀ d j b, 2 ≤ j → (b = 0 ∨ v.testBit b = true) → (fw (aStep E how v) b j d = 0 ∧ b = 0 ∧ ∀ i, j ≤ i → i < j + d → v.testBit i = false) ∨ (v.testBit (fw (aStep E how v) b j d) = true ∧ (fw (aStep E how v) b j d = b ∨ fw (aStep E how v) b j d < j + d)) := by
  intro d
  induction d with
  | zero =>
    intro j b h2 hb
    rcases hb with hb | hb
    · exact Or.inl ⟨hb, hb, fun i h1 h2 => by omega⟩
    · exact Or.inr ⟨hb, Or.inl rfl⟩
  | succ d ih =>
    intro j b h2 hb
    show (fw (aStep E how v) (aStep E how v j b) (j + 1) d = 0 ∧ _) ∨ (v.testBit (fw (aStep E how v) (aStep E how v j b) (j + 1) d) = true ∧ (fw (aStep E how v) (aStep E how v j b) (j + 1) d = b ∨ fw (aStep E how v) (aStep E how v j b) (j + 1) d < j + (d + 1)))
    by_cases e : (v.testBit j && (decide (b = 0) || aR E how j b)) = true
    · have es : aStep E how v j b = j := if_pos e
      rw [Bool.and_eq_true] at e
      rw [es]
      rcases ih (j + 1) j (by omega) (Or.inr e.1) with ⟨h1, h3, -⟩ | ⟨h1, h3⟩
      · omega
      · exact Or.inr ⟨h1, Or.inr (by omega)⟩
    · have es : aStep E how v j b = b := if_neg e
      rw [es]
      rcases ih (j + 1) b (by omega) hb with ⟨h1, h3, h4⟩ | ⟨h1, h3⟩
      · refine Or.inl ⟨h1, h3, fun i q1 q2 => ?_⟩
        by_cases ei : i = j
        · subst ei
          subst h3
          simpa using e
        · exact h4 i (by omega) (by omega)
      · exact Or.inr ⟨h1, h3.elim Or.inl (fun q => Or.inr (by omega))⟩
theorem aF_ok {how p v : Nat} (ti : TI E) (h : inC E p v) (hne : v ≠ 0) : v.testBit (aF E how v) = true ∧ 2 ≤ aF E how v ∧ aF E how v < 14 ∧ mRb E p (aF E how v) = true ∧ E (aF E how v) ≠ 0 := by
  have hb : v.testBit (aF E how v) = true := by
    rcases aF_in (E := E) (how := how) (v := v) 12 2 0 (by omega) (Or.inl rfl) with ⟨-, -, h4⟩ | ⟨h1, -⟩
    · exfalso
      apply hne
      apply Nat.eq_of_testBit_eq
      intro i
      rw [Nat.zero_testBit]
      cases q : v.testBit i
      · rfl
      · have hr := h.2 i q
        have := (rb_th ti hr)
        have h14 := mTh_lt ti this.1
        rw [h4 i (by omega) (by omega)] at q
        cases q
    · exact h1
  have hr := h.2 _ hb
  have ht := rb_th ti hr
  have h14 := mTh_lt ti ht.1
  refine ⟨hb, by omega, h14, hr, ?_⟩
  simp only [mRb, Bool.and_eq_true, decide_eq_true_eq] at hr
  exact hr.1
theorem rk_lt {a b : Nat} (ha : E a ≠ 0) (hta : 2 ≤ a ∧ a < 14) (hP : cP (E a) = cP (E b)) (hN : cN (E a) = cN (E b)) (h : E a < E b) : mRk E a < mRk E b := by
  refine cn_lt (p := a) hta.1 (by omega) (fun i hi => ?_) ?_ ?_
  · simp only [mLess, Bool.and_eq_true, decide_eq_true_eq] at hi ⊢
    rw [← hP, ← hN]
    exact ⟨hi.1, by omega⟩
  · simp [mLess]
  · simp [mLess, mRb, ha, hP, hN, h]
theorem rk_iff {p a b : Nat} (ti : TI E) (ha : mRb E p a = true) (hb : mRb E p b = true) (hN : cN (E a) = cN (E b)) : (mRk E a < mRk E b) ↔ (E a < E b) := by
  simp only [mRb, Bool.and_eq_true, decide_eq_true_eq] at ha hb
  have hP : cP (E a) = cP (E b) := by rw [ha.2, hb.2]
  constructor
  · intro h
    rcases Nat.lt_trichotomy (E a) (E b) with q | q | q
    · exact q
    · exfalso
      have : mRk E a = mRk E b := by
        refine cn_cg (fun i _ _ => ?_)
        unfold mLess
        rw [q]
      omega
    · have := rk_lt hb.1 (ti.lt hb.1) hP.symm hN.symm q
      omega
  · intro h
    exact rk_lt ha.1 (ti.lt ha.1) hP hN h
end LS
