/-! THE REFERENCE'S ACTS IN CODES -/
def inR (lo hi : Nat) (x : Int32) : Bool := decide ((lo : Int) ≤ x.toInt ∧ x.toInt < (hi : Int))
theorem inR_t {lo hi : Nat} {x : Int32} (h : inR lo hi x = true) (hh : hi < 2 ^ 31) : ∃ c, lo ≤ c ∧ c < hi ∧ x = nI c := by
  have h := of_decide_eq_true h
  have hx : ¬ x < 0 := by
    rw [Int32.lt_iff_toInt_lt]
    have : (0 : Int32).toInt = 0 := by decide
    omega
  obtain ⟨j, hj, rfl⟩ := nI_of hx
  rw [nI_toInt hj] at h
  exact ⟨j, by omega, by omega, rfl⟩
theorem inR_nI {lo hi c : Nat} (hc : c < 2 ^ 31) : inR lo hi (nI c) = decide (lo ≤ c ∧ c < hi) := by
  unfold inR
  rw [nI_toInt hc]
  congr 1
  apply propext
  constructor <;> intro h <;> omega
theorem cmp_lt0 (x y : Int64) : (lg_cmp x y < 0) = (x.toInt < y.toInt) := by
  unfold lg_cmp
  simp only [Int64.lt_iff_toInt_lt, ← Int64.toInt_inj]
  apply propext
  by_cases e1 : y.toInt < x.toInt
  · rw [if_pos e1]
    exact ⟨fun h => absurd h (by decide), fun h => by omega⟩
  · rw [if_neg e1]
    by_cases e2 : x.toInt = y.toInt
    · rw [if_pos e2]
      exact ⟨fun h => absurd h (by decide), fun h => by omega⟩
    · rw [if_neg e2]
      exact ⟨fun h => by omega, fun h => by decide⟩
theorem cmp_gt0 (x y : Int64) : (0 < lg_cmp x y) = (y.toInt < x.toInt) := by
  unfold lg_cmp
  simp only [Int64.lt_iff_toInt_lt, ← Int64.toInt_inj]
  apply propext
  by_cases e1 : y.toInt < x.toInt
  · rw [if_pos e1]
    exact ⟨fun h => e1, fun h => by decide⟩
  · rw [if_neg e1]
    by_cases e2 : x.toInt = y.toInt
    · rw [if_pos e2]
      exact ⟨fun h => absurd h (by decide), fun h => by omega⟩
    · rw [if_neg e2]
      exact ⟨fun h => absurd h (by decide), fun h => by omega⟩
theorem r_in (h : q_H) (x : Int32) {a b : Int64} {lo hi : Nat} (ha : a.toInt = lo) (hb : b.toInt + 1 = hi) : f_X10_in h (Int32.toInt64 x) a b = some (h, b2i (inR lo hi x)) := by
  have hx : (Int32.toInt64 x).toInt = x.toInt := Int32.toInt_toInt64 x
  unfold f_X10_in b_X10_in_0 inR
  simp only [cmp_lt0, cmp_gt0, hx]
  by_cases e1 : x.toInt < a.toInt
  · have : ¬ ((lo : Int) ≤ x.toInt ∧ x.toInt < (hi : Int)) := by omega
    rw [if_pos e1, decide_eq_false this]; rfl
  · rw [if_neg e1]
    by_cases e2 : b.toInt < x.toInt
    · have : ¬ ((lo : Int) ≤ x.toInt ∧ x.toInt < (hi : Int)) := by omega
      rw [if_pos e2, decide_eq_false this]; rfl
    · have : ((lo : Int) ≤ x.toInt ∧ x.toInt < (hi : Int)) := by omega
      rw [if_neg e2, decide_eq_true this]; rfl
theorem r_isCopy (h : q_H) (x : Int32) : f_X10_isCopy h x = some (h, b2i (inR 0 3 x)) := by
  unfold f_X10_isCopy b_X10_isCopy_0
  rw [r_in h x (lo := 0) (hi := 3) (by decide) (by decide), bS, nar_b]
theorem r_isFolder (h : q_H) (x : Int32) : f_X10_isFolder h x = some (h, b2i (inR 2 14 x)) := by
  unfold f_X10_isFolder b_X10_isFolder_0
  rw [r_in h x (lo := 2) (hi := 14) (by decide) (by decide), bS, nar_b]
theorem r_isNode (h : q_H) (x : Int32) : f_X10_isNode h x = some (h, b2i (inR 0 14 x)) := by
  unfold f_X10_isNode b_X10_isNode_0
  rw [r_in h x (lo := 0) (hi := 14) (by decide) (by decide), bS, nar_b]
def two (x y : Int32) : Bool := inR 0 3 x && (inR 0 3 y && decide (x ≠ y))
theorem two_t {x y : Int32} (h : two x y = true) : ∃ a b, a < 3 ∧ b < 3 ∧ a ≠ b ∧ x = nI a ∧ y = nI b := by
  simp only [two, Bool.and_eq_true, decide_eq_true_eq] at h
  obtain ⟨a, -, ha, rfl⟩ := inR_t h.1 (by omega)
  obtain ⟨b, -, hb, rfl⟩ := inR_t h.2.1 (by omega)
  exact ⟨a, b, ha, hb, fun e => h.2.2 (by rw [e]), rfl, rfl⟩
theorem r_areTwo (h : q_H) (x y : Int32) : f_X10_areTwo h x y = some (h, b2i (two x y)) := by
  unfold f_X10_areTwo b_X10_areTwo_0
  simp only [r_isCopy, bS, b2i_eq0, two]
  by_cases e1 : inR 0 3 x = true
  · by_cases e2 : inR 0 3 y = true
    · by_cases e3 : x = y <;> simp [e1, e2, e3, b2i]
    · simp [e1, e2, b2i]
  · simp [e1, b2i]
section RA
variable {S : o_S} {n : Nat × Nat × Nat} {l : List Nat} {W : aW}
theorem r_wayOf (h : q_H) (a b : Nat) : f_X10_wayOf h (nI a) (nI b) = some (h, nI (3 * a + b)) := by
  unfold f_X10_wayOf b_X10_wayOf_0
  simp only [j2, j3, j4, j5, j6, j7, j8, j9, j10, j12, j14, j20, j40, j48, j49, j56, j80, j96, j180, j183, j483, j492, j708, j2401, j1000000, nI_1, nI_add, pk_mul, i_le, i_lt, i_eq, i_lt0, i_0le, i_le0, i_eq0, i_0lt, i_eq1, i_eqm1, i_sub1, i_addm1, pk_sub, i_add0, b2i_eq0, b2i_1, i_bit, if_true, if_false]
theorem r_letterOf (h : q_H) (a b i : Nat) : f_X10_letterOf h (nI a) (nI b) (nI i) = some (h, nI (492 + 4 * (6 * (3 * a + b) + i))) := by
  unfold f_X10_letterOf b_X10_letterOf_0
  simp only [j2, j3, j4, j5, j6, j7, j8, j9, j10, j12, j14, j20, j40, j48, j49, j56, j80, j96, j180, j183, j483, j492, j708, j2401, j1000000, nI_1, nI_add, pk_mul, i_le, i_lt, i_eq, i_lt0, i_0le, i_le0, i_eq0, i_0lt, i_eq1, i_eqm1, i_sub1, i_addm1, pk_sub, i_add0, b2i_eq0, b2i_1, i_bit, if_true, if_false, r_wayOf, bS]
theorem r_letterOf0 (h : q_H) (a b : Nat) : f_X10_letterOf h (nI a) (nI b) 0 = some (h, nI (492 + 4 * (6 * (3 * a + b)))) := r_letterOf h a b 0
theorem r_letterOf1 (h : q_H) (a b : Nat) : f_X10_letterOf h (nI a) (nI b) 1 = some (h, nI (492 + 4 * (6 * (3 * a + b) + 1))) := r_letterOf h a b 1
theorem r_waiting (h : mmY (S.2.1 299) 0 (wY W)) {a b : Nat} (ha : a < 3) (hb : b < 3) : f_X10_waiting (ov S n) 296 (nI a) (nI b) = some (ov S n, nI (wY W (3 * a + b)).length) := by
  have e := (h (3 * a + b) (by omega)).2.1
  rw [Nat.zero_add] at e
  unfold f_X10_waiting b_X10_waiting_0
  simp (disch := omega) only [j2, j3, j4, j5, j6, j7, j8, j9, j10, j12, j14, j20, j40, j48, j49, j56, j80, j96, j180, j183, j483, j492, j708, j2401, j1000000, nI_1, nI_add, pk_mul, i_le, i_lt, i_eq, i_lt0, i_0le, i_le0, i_eq0, i_0lt, i_eq1, i_eqm1, i_sub1, i_addm1, pk_sub, i_add0, b2i_eq0, b2i_1, i_bit, if_true, if_false, rR2, rR3, rR7, rR8, rR10, rR11, rR15, rR16, rR17, rR18, rR19, rR20, rR21, rR22, rR23, rR25, rI0, rI1, rI4, rI5, rI6, rI9, rI12, rI13, rI14, rI24, rP0, rP1, rP4, rP5, rP6, rP9, rP12, rP13, rP14, rP24, r_chk, bS, r_mem, r_memS, r_lst, r_lstS, r_tre, r_treS, r_voi, r_voiS, r_wayOf, e]
theorem eL_1 (k : Nat) : (eL k 1 = -1) = (mHm k = false) := by
  have := cF_lt k
  show ((if cF k = 0 then (-1 : Int32) else nI (cF k)) = -1) = _
  apply propext
  by_cases e : cF k = 0
  · simp [e, mHm]
  · simp only [e, if_false, mHm, i_eqm1 (show cF k < 2 ^ 31 by omega)]
    simp [e]
theorem r_isMove (h : mmY (S.2.1 299) 0 (wY W)) {w j k : Nat} (hw : w < 9) (hk : (wY W w)[j]? = some k) : f_X10_isMove (ov S n) 296 (nI (492 + 4 * (6 * w + j))) = some (ov S n, b2i (mHm k)) := by
  obtain ⟨h1, h2, h3⟩ := h w hw
  have hj : j < (wY W w).length := (List.getElem?_eq_some_iff.mp hk).1
  have e := h3 j k 1 hk (by omega)
  rw [Nat.zero_add] at e
  unfold f_X10_isMove b_X10_isMove_0
  simp (disch := omega) only [j2, j3, j4, j5, j6, j7, j8, j9, j10, j12, j14, j20, j40, j48, j49, j56, j80, j96, j180, j183, j483, j492, j708, j2401, j1000000, nI_1, nI_add, pk_mul, i_le, i_lt, i_eq, i_lt0, i_0le, i_le0, i_eq0, i_0lt, i_eq1, i_eqm1, i_sub1, i_addm1, pk_sub, i_add0, b2i_eq0, b2i_1, i_bit, if_true, if_false, rR2, rR3, rR7, rR8, rR10, rR11, rR15, rR16, rR17, rR18, rR19, rR20, rR21, rR22, rR23, rR25, rI0, rI1, rI4, rI5, rI6, rI9, rI12, rI13, rI14, rI24, rP0, rP1, rP4, rP5, rP6, rP9, rP12, rP13, rP14, rP24, r_chk, bS, r_mem, r_memS, r_lst, r_lstS, r_tre, r_treS, r_voi, r_voiS, e, eL_1]
  cases mHm k <;> rfl
/-- put in, if it is a move -/
def mPut (k : Nat) (l : List Nat) : List Nat := if mHm k then mAt k (l.length - l.countP (mLs k)) l else l
theorem mAt_len {k i : Nat} {l : List Nat} (h : i ≤ l.length) : (mAt k i l).length = l.length + 1 := by simp [mAt]; omega
theorem mPut_len (k : Nat) (l : List Nat) : (mPut k l).length ≤ l.length + 1 := by
  unfold mPut
  split
  · rw [mAt_len (by omega)]; exact Nat.le_refl _
  · omega
theorem r_putsLetter (h : mmY (S.2.1 299) 0 (wY W)) (hl : LL S l) (hl40 : l.length < 40) {w j k a : Nat} (hw : w < 9) (hk : (wY W w)[j]? = some k) (hkb : k < 2 ^ 31) (ha : cC k = a) : ∃ S', f_X10_putsLetter (ov S n) 296 (nI a) (nI (492 + 4 * (6 * w + j))) = some (ov S' n, ()) ∧ LL S' (mPut k l) ∧ RQ S S' := by
  obtain ⟨h1, h2, h3⟩ := h w hw
  have hj : j < (wY W w).length := (List.getElem?_eq_some_iff.mp hk).1
  have e0 := h3 j k 0 hk (by omega)
  have e1 := h3 j k 1 hk (by omega)
  have e2 := h3 j k 2 hk (by omega)
  have e3 := h3 j k 3 hk (by omega)
  rw [Nat.zero_add] at e0 e1 e2 e3
  have e0 : S.2.1 299 (492 + 4 * (6 * w + j)) = nI (cT k) := e0
  have e2 : S.2.1 299 (492 + 4 * (6 * w + j) + 2) = nI (cP k) := e2
  have e3 : S.2.1 299 (492 + 4 * (6 * w + j) + 3) = nI (cN k) := e3
  by_cases em : mHm k = true
  · have e1 : S.2.1 299 (492 + 4 * (6 * w + j) + 1) = nI (cF k) := by
      rw [e1]
      show (if cF k = 0 then (-1 : Int32) else nI (cF k)) = _
      rw [if_neg (by simpa [mHm] using em)]
    obtain ⟨S', g1, g2, g3⟩ := r_puts (n := n) hl hkb hl40
    rw [ha] at g1
    refine ⟨S', ?_, by unfold mPut; rw [if_pos em]; exact g2, g3⟩
    unfold f_X10_putsLetter b_X10_putsLetter_0
    simp (disch := omega) only [j2, j3, j4, j5, j6, j7, j8, j9, j10, j12, j14, j20, j40, j48, j49, j56, j80, j96, j180, j183, j483, j492, j708, j2401, j1000000, nI_1, nI_add, pk_mul, i_le, i_lt, i_eq, i_lt0, i_0le, i_le0, i_eq0, i_0lt, i_eq1, i_eqm1, i_sub1, i_addm1, pk_sub, i_add0, b2i_eq0, b2i_1, i_bit, if_true, if_false, rR2, rR3, rR7, rR8, rR10, rR11, rR15, rR16, rR17, rR18, rR19, rR20, rR21, rR22, rR23, rR25, rI0, rI1, rI4, rI5, rI6, rI9, rI12, rI13, rI14, rI24, rP0, rP1, rP4, rP5, rP6, rP9, rP12, rP13, rP14, rP24, r_chk, bS, r_mem, r_memS, r_lst, r_lstS, r_tre, r_treS, r_voi, r_voiS, r_isMove h hw hk, em, Bool.true_eq_false, e0, e1, e2, e3, g1]
  · have em : mHm k = false := by simpa using em
    refine ⟨S, ?_, by unfold mPut; rw [em]; exact hl, RQ.rf⟩
    unfold f_X10_putsLetter b_X10_putsLetter_0
    simp (disch := omega) only [j2, j3, j4, j5, j6, j7, j8, j9, j10, j12, j14, j20, j40, j48, j49, j56, j80, j96, j180, j183, j483, j492, j708, j2401, j1000000, nI_1, nI_add, pk_mul, i_le, i_lt, i_eq, i_lt0, i_0le, i_le0, i_eq0, i_0lt, i_eq1, i_eqm1, i_sub1, i_addm1, pk_sub, i_add0, b2i_eq0, b2i_1, i_bit, if_true, if_false, rR2, rR3, rR7, rR8, rR10, rR11, rR15, rR16, rR17, rR18, rR19, rR20, rR21, rR22, rR23, rR25, rI0, rI1, rI4, rI5, rI6, rI9, rI12, rI13, rI14, rI24, rP0, rP1, rP4, rP5, rP6, rP9, rP12, rP13, rP14, rP24, r_chk, bS, r_mem, r_memS, r_lst, r_lstS, r_tre, r_treS, r_voi, r_voiS, r_isMove h hw hk, em]
/-- the memory is changed, in its first block alone -/
def RM (S S' : o_S) : Prop := AG (fun b => b = 299) S S' ∧ ∀ j, 708 ≤ j → S'.2.1 299 j = S.2.1 299 j
theorem RM.rf {S : o_S} : RM S S := ⟨AG.rf, fun _ _ => rfl⟩
theorem RM.tr {S S1 S2 : o_S} (h : RM S S1) (k : RM S1 S2) : RM S S2 := ⟨h.1.tr k.1 (fun _ q => q) (fun _ q => q), fun j hj => (k.2 j hj).trans (h.2 j hj)⟩
theorem LL.rm {S S' : o_S} {l : List Nat} (h : LL S l) (k : RM S S') : LL S' l := ⟨by rw [k.1.f (by omega)]; exact h.1, h.2.1, by rw [k.1.I (by omega)]; exact h.2.2⟩
theorem TT.rm {s : Nat} {S S' : o_S} {E : Nat → Nat} (h : TT S s E) (k : RM S S') : TT S' s E := ⟨h.1, by rw [k.1.I (by omega)]; exact h.2⟩
theorem r_keepsList {c : Nat} (hc : c < 3) (h : RW (S.2.1 299) 0 W) (hl : LL S l) (hl20 : l.length ≤ 20) : ∃ S', f_X10_keepsList (ov S n) 296 (nI c) = some (ov S' n, ()) ∧ RW (S'.2.1 299) 0 (W.1, W.2.1, fset W.2.2.1 c l, W.2.2.2) ∧ RM S S' := by
  have hS : ∀ j, (o_sI S 299 (va_cpy (S.2.1 300) (upd (S.2.1 299) (180 + c) (nI l.length)) 0 (183 + 5 * (20 * c)) (5 * l.length))).2.1 299 j = if 183 + 5 * (20 * c) ≤ j ∧ j < 183 + 5 * (20 * c) + 5 * l.length then S.2.1 300 (0 + (j - (183 + 5 * (20 * c)))) else if j = 180 + c then nI l.length else S.2.1 299 j := fun j => rfl
  refine ⟨o_sI S 299 (va_cpy (S.2.1 300) (upd (S.2.1 299) (180 + c) (nI l.length)) 0 (183 + 5 * (20 * c)) (5 * l.length)), ?_, ⟨?_, ?_, ?_, ?_, ?_⟩, AG_sI _ _ _, ?_⟩
  · unfold f_X10_keepsList b_X10_keepsList_0
    simp (disch := omega) only [j2, j3, j4, j5, j6, j7, j8, j9, j10, j12, j14, j20, j40, j48, j49, j56, j80, j96, j180, j183, j483, j492, j708, j2401, j1000000, nI_1, nI_add, pk_mul, i_le, i_lt, i_eq, i_lt0, i_0le, i_le0, i_eq0, i_0lt, i_eq1, i_eqm1, i_sub1, i_addm1, pk_sub, i_add0, b2i_eq0, b2i_1, i_bit, if_true, if_false, rR2, rR3, rR7, rR8, rR10, rR11, rR15, rR16, rR17, rR18, rR19, rR20, rR21, rR22, rR23, rR25, rI0, rI1, rI4, rI5, rI6, rI9, rI12, rI13, rI14, rI24, rP0, rP1, rP4, rP5, rP6, rP9, rP12, rP13, rP14, rP24, r_chk, bS, r_mem, r_memS, r_lst, r_lstS, r_tre, r_treS, r_voi, r_voiS, hl.1, idS]
    have := fw_loop (fun fuel (S' : o_S) j => l_X10_keepsList_16 fuel (ov S' n) 296 (nI c) (nI j)) (fun k S => o_sI S 299 (upd (S.2.1 299) (183 + 5 * (20 * c) + k) (S.2.1 300 (0 + k)))) (fun S => (ov S n, ())) (fun S' => S'.1 296 9 = nI l.length) 0 (5 * l.length) (fun fuel S' hS => by
      show b_X10_keepsList_16 _ _ _ _ _ = _
      unfold b_X10_keepsList_16
      simp (disch := omega) only [j2, j3, j4, j5, j6, j7, j8, j9, j10, j12, j14, j20, j40, j48, j49, j56, j80, j96, j180, j183, j483, j492, j708, j2401, j1000000, nI_1, nI_add, pk_mul, i_le, i_lt, i_eq, i_lt0, i_0le, i_le0, i_eq0, i_0lt, i_eq1, i_eqm1, i_sub1, i_addm1, pk_sub, i_add0, b2i_eq0, b2i_1, i_bit, if_true, if_false, rR2, rR3, rR7, rR8, rR10, rR11, rR15, rR16, rR17, rR18, rR19, rR20, rR21, rR22, rR23, rR25, rI0, rI1, rI4, rI5, rI6, rI9, rI12, rI13, rI14, rI24, rP0, rP1, rP4, rP5, rP6, rP9, rP12, rP13, rP14, rP24, r_chk, bS, r_mem, r_memS, r_lst, r_lstS, r_tre, r_treS, r_voi, r_voiS, hS, if_pos]) (fun fuel S' j hS _ h2 => ⟨hS, by
      show b_X10_keepsList_16 _ _ _ _ _ = _
      unfold b_X10_keepsList_16
      simp (disch := omega) only [j2, j3, j4, j5, j6, j7, j8, j9, j10, j12, j14, j20, j40, j48, j49, j56, j80, j96, j180, j183, j483, j492, j708, j2401, j1000000, nI_1, nI_add, pk_mul, i_le, i_lt, i_eq, i_lt0, i_0le, i_le0, i_eq0, i_0lt, i_eq1, i_eqm1, i_sub1, i_addm1, pk_sub, i_add0, b2i_eq0, b2i_1, i_bit, if_true, if_false, rR2, rR3, rR7, rR8, rR10, rR11, rR15, rR16, rR17, rR18, rR19, rR20, rR21, rR22, rR23, rR25, rI0, rI1, rI4, rI5, rI6, rI9, rI12, rI13, rI14, rI24, rP0, rP1, rP4, rP5, rP6, rP9, rP12, rP13, rP14, rP24, r_chk, bS, r_mem, r_memS, r_lst, r_lstS, r_tre, r_treS, r_voi, r_voiS, hS, r_moveOf0, if_neg, idS, Nat.zero_add]⟩) (5 * l.length) 0 q_FU (o_sI S 299 (upd (S.2.1 299) (180 + c) (nI l.length))) hl.1 (by omega) (by omega) (q_FU_lt (by omega))
    rw [cp_fw 300 299 0 (183 + 5 * (20 * c)) _ _ _ (by omega), s_twice] at this
    exact this
  · exact h.1.cg (fun j h1 => by rw [hS, if_neg (by omega), if_neg (by omega)])
  · exact h.2.1.cg (fun j h1 h2 => by rw [hS, if_neg (by omega), if_neg (by omega)])
  · exact h.2.2.1.cg (fun j h1 h2 => by rw [hS, if_neg (by omega), if_neg (by omega)])
  · intro d hd
    by_cases e : d = c
    · subst e
      show (fset W.2.2.1 d l d).length ≤ 20 ∧ _
      rw [show wL (W.1, W.2.1, fset W.2.2.1 d l, W.2.2.2) d = l from fset_s _ _ _, fset_s]
      refine ⟨hl20, by rw [hS, if_neg (by omega), if_pos (by omega)], fun i k q hk hq => ?_⟩
      have hi : i < l.length := (List.getElem?_eq_some_iff.mp hk).1
      rw [hS, if_pos (by omega), ← (hl.2.2 i k hk).2 q hq, show 0 + (0 + 183 + 5 * (20 * d + i) + q - (183 + 5 * (20 * d))) = 5 * i + q by omega]
    · obtain ⟨h1, h2, h3⟩ := h.2.2.2.1 d hd
      rw [show wL (W.1, W.2.1, fset W.2.2.1 c l, W.2.2.2) d = wL W d from fset_n _ _ e]
      refine ⟨h1, by rw [hS, if_neg (by omega), if_neg (by omega)]; exact h2, fun i k q hk hq => ?_⟩
      have hi : i < (wL W d).length := (List.getElem?_eq_some_iff.mp hk).1
      rw [hS, if_neg (by omega), if_neg (by omega)]
      exact h3 i k q hk hq
  · exact h.2.2.2.2.cg (fun j h1 h2 => by rw [hS, if_neg (by omega), if_neg (by omega)])
  · intro j hj
    rw [hS, if_neg (by omega), if_neg (by omega)]
def aFull (W : aW) (c : Nat) : Bool := fw (fun d b => b || (decide (d ≠ c) && decide ((wY W (3 * c + d)).length = 6))) false 0 3
theorem r_areFull (h : mmY (S.2.1 299) 0 (wY W)) {c : Nat} (hc : c < 3) : f_X10_areFull (ov S n) 296 (nI c) = some (ov S n, b2i (aFull W c)) := by
  unfold f_X10_areFull b_X10_areFull_0
  rw [r_chk]
  refine fw_loop (fun fuel b j => l_X10_areFull_4 fuel (ov S n) 296 (nI c) (b2i b) (nI j)) (fun d b => b || (decide (d ≠ c) && decide ((wY W (3 * c + d)).length = 6))) (fun b => (ov S n, b2i b)) (fun _ => True) 0 3 (fun fuel b _ => ?_) (fun fuel b j _ h1 h2 => ⟨trivial, ?_⟩) 3 0 q_FU false trivial (by omega) (by omega) (q_FU_lt (by omega))
  · show b_X10_areFull_4 _ _ _ _ _ _ = _
    unfold b_X10_areFull_4
    simp (disch := omega) only [j2, j3, j4, j5, j6, j7, j8, j9, j10, j12, j14, j20, j40, j48, j49, j56, j80, j96, j180, j183, j483, j492, j708, j2401, j1000000, nI_1, nI_add, pk_mul, i_le, i_lt, i_eq, i_lt0, i_0le, i_le0, i_eq0, i_0lt, i_eq1, i_eqm1, i_sub1, i_addm1, pk_sub, i_add0, b2i_eq0, b2i_1, i_bit, if_true, if_false, if_pos, nar_b]
  · have hl := (h (3 * c + j) (by omega)).1
    show b_X10_areFull_4 _ _ _ _ _ _ = _
    unfold b_X10_areFull_4 b_X10_areFull_29 b_X10_areFull_33 b_X10_areFull_34
    simp (disch := omega) only [j2, j3, j4, j5, j6, j7, j8, j9, j10, j12, j14, j20, j40, j48, j49, j56, j80, j96, j180, j183, j483, j492, j708, j2401, j1000000, nI_1, nI_add, pk_mul, i_le, i_lt, i_eq, i_lt0, i_0le, i_le0, i_eq0, i_0lt, i_eq1, i_eqm1, i_sub1, i_addm1, pk_sub, i_add0, b2i_eq0, b2i_1, i_bit, if_true, if_false, r_waiting h hc h2, bS, show ¬ 3 ≤ j by omega]
    cases b with
    | true => rfl
    | false =>
      by_cases e : j = c
      · simp [e, b2i]
      · by_cases e2 : (wY W (3 * c + j)).length = 6 <;> simp [e, e2, b2i]
end RA
