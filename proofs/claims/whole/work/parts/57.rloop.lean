/-! THE REFERENCE'S LOOPS OVER LETTERS -/
section RW0
variable {I : Nat → Int32} {W : aW}
theorem RW.tm (h : RW I 0 W) {c : Nat} (hc : c < 3) : I c = nI (wT W c) := by
  have := h.1 c hc
  rw [Nat.zero_add] at this
  exact this
theorem RW.hd (h : RW I 0 W) {c d : Nat} (hc : c < 3) (hd : d < 3) : I (3 + (3 * c + d)) = nI (wH W c d) := by
  have := h.2.1 c d hc hd
  rw [show 0 + 3 + 3 * c + d = 3 + (3 * c + d) by omega] at this
  exact this
theorem RW.ba (h : RW I 0 W) {c j q : Nat} (hc : c < 3) (hj : j < 14) (hq : q < 4) : I (12 + 4 * (14 * c + j) + q) = eT (wB W c j) q := by
  have := h.2.2.1 c j q hc hj hq
  rw [Nat.zero_add] at this
  exact this
theorem RW.len (h : RW I 0 W) {c : Nat} (hc : c < 3) : I (180 + c) = nI (wL W c).length := by
  have := (h.2.2.2.1 c hc).2.1
  rw [Nat.zero_add] at this
  exact this
theorem RW.mv (h : RW I 0 W) {c i k q : Nat} (hc : c < 3) (hk : (wL W c)[i]? = some k) (hq : q < 5) : I (183 + 5 * (20 * c + i) + q) = eM k q := by
  have := (h.2.2.2.1 c hc).2.2 i k q hk hq
  rw [Nat.zero_add] at this
  exact this
theorem RW.mv0 (h : RW I 0 W) {c i k : Nat} (hc : c < 3) (hk : (wL W c)[i]? = some k) : I (183 + 5 * (20 * c + i)) = nI (cT k) := h.mv hc hk (q := 0) (by omega)
theorem RW.y (h : RW I 0 W) {w : Nat} (hw : w < 9) : I (483 + w) = nI (wY W w).length := by
  have := (h.2.2.2.2 w hw).2.1
  rw [Nat.zero_add] at this
  exact this
theorem RW.yl (h : RW I 0 W) {w j k q : Nat} (hw : w < 9) (hk : (wY W w)[j]? = some k) (hq : q < 4) : I (492 + 4 * (6 * w + j) + q) = eL k q := by
  have := (h.2.2.2.2 w hw).2.2 j k q hk hq
  rw [Nat.zero_add] at this
  exact this
theorem RW.yl0 (h : RW I 0 W) {w j k : Nat} (hw : w < 9) (hk : (wY W w)[j]? = some k) : I (492 + 4 * (6 * w + j)) = nI (cT k) := h.yl hw hk (q := 0) (by omega)
end RW0
section RL
variable {S : o_S} {n : Nat × Nat × Nat} {l : List Nat} {W : aW} {T : Nat}
theorem st2_fw (hV : V T W) (hT : T ≤ 100000) {c : Nat} (hc : c < 3) : mSt2 (wH W c) c = fw (fun d a => if d = c then a else min a (wH W c d)) 1000000 0 3 := by
  match c, hc with
  | 0, _ =>
    have h1 := hV.2.1 0 1 (by omega) (by omega)
    have h2 := hV.2.1 0 2 (by omega) (by omega)
    show min (wH W 0 1) (wH W 0 2) = min (min 1000000 (wH W 0 1)) (wH W 0 2)
    omega
  | 1, _ =>
    have h1 := hV.2.1 1 0 (by omega) (by omega)
    have h2 := hV.2.1 1 2 (by omega) (by omega)
    show min (wH W 1 2) (wH W 1 0) = min (min 1000000 (wH W 1 0)) (wH W 1 2)
    omega
  | 2, _ =>
    have h1 := hV.2.1 2 0 (by omega) (by omega)
    have h2 := hV.2.1 2 1 (by omega) (by omega)
    show min (wH W 2 0) (wH W 2 1) = min (min 1000000 (wH W 2 0)) (wH W 2 1)
    omega
  | m + 3, h => omega
theorem r_stableOf (h : RW (S.2.1 299) 0 W) (hV : V T W) (hT : T ≤ 100000) {c : Nat} (hc : c < 3) : f_X10_stableOf (ov S n) 296 (nI c) = some (ov S n, nI (mSt2 (wH W c) c)) := by
  rw [st2_fw hV hT hc]
  unfold f_X10_stableOf b_X10_stableOf_0
  rw [r_chk]
  refine fw_loop (fun fuel a j => l_X10_stableOf_5 fuel (ov S n) 296 (nI c) (nI a) (nI j)) (fun d a => if d = c then a else min a (wH W c d)) (fun a => (ov S n, nI a)) (fun a => a < 2 ^ 31) 0 3 (fun fuel a _ => ?_) (fun fuel a j ha h1 h2 => ⟨?_, ?_⟩) 3 0 q_FU 1000000 (by omega) (by omega) (by omega) (q_FU_lt (by omega))
  · show b_X10_stableOf_5 _ _ _ _ _ _ = _
    unfold b_X10_stableOf_5
    simp (disch := omega) only [j2, j3, j4, j5, j6, j7, j8, j9, j10, j12, j14, j20, j40, j48, j49, j56, j80, j96, j180, j183, j483, j492, j708, j2401, j1000000, nI_1, nI_add, pk_mul, i_le, i_lt, i_eq, i_lt0, i_0le, i_le0, i_eq0, i_0lt, i_eq1, i_eqm1, i_sub1, i_addm1, pk_sub, i_add0, b2i_eq0, b2i_1, i_bit, if_true, if_false, Nat.le_refl]
  · show (if j = c then a else min a (wH W c j)) < 2 ^ 31
    split <;> omega
  · have hh := hV.2.1 c j hc h2
    have he := h.hd hc h2
    show b_X10_stableOf_5 _ _ _ _ _ _ = _
    unfold b_X10_stableOf_5 b_X10_stableOf_35
    simp (disch := omega) only [j2, j3, j4, j5, j6, j7, j8, j9, j10, j12, j14, j20, j40, j48, j49, j56, j80, j96, j180, j183, j483, j492, j708, j2401, j1000000, nI_1, nI_add, pk_mul, i_le, i_lt, i_eq, i_lt0, i_0le, i_le0, i_eq0, i_0lt, i_eq1, i_eqm1, i_sub1, i_addm1, pk_sub, i_add0, b2i_eq0, b2i_1, i_bit, if_true, if_false, rR2, rR3, rR7, rR8, rR10, rR11, rR15, rR16, rR17, rR18, rR19, rR20, rR21, rR22, rR23, rR25, rI0, rI1, rI4, rI5, rI6, rI9, rI12, rI13, rI14, rI24, rP0, rP1, rP4, rP5, rP6, rP9, rP12, rP13, rP14, rP24, r_chk, bS, r_mem, r_memS, r_lst, r_lstS, r_tre, r_treS, r_voi, r_voiS, r_wayOf, he, i_min, show ¬ 3 ≤ j by omega]
    by_cases e : j = c
    · rw [if_pos e, if_pos e]
    · rw [if_neg e, if_neg e]
theorem r_cutL (h : RW (S.2.1 299) 0 W) (hV : V T W) (hT : T ≤ 100000) {c : Nat} (hc : c < 3) : ∀ d i fuel, i + d = (wL W c).length → d < fuel → l_X10_cutMany_2 fuel (ov S n) 296 (nI c) (nI i) = some (ov S n, nI (i + mCm (mSt2 (wH W c) c) ((wL W c).drop i))) := by
  have hl := (hV.2.2.1 c hc).1
  have hlim : mSt2 (wH W c) c ≤ 100000 := by
    have := hV.2.1 c (nx c) hc (nx_lt hc).1
    unfold mSt2
    omega
  intro d
  induction d with
  | zero =>
    intro i fuel hi hf
    obtain ⟨f, rfl⟩ : ∃ f, fuel = f + 1 := ⟨fuel - 1, by omega⟩
    show b_X10_cutMany_2 _ _ _ _ _ = _
    unfold b_X10_cutMany_2
    rw [List.drop_eq_nil_of_le (by omega)]
    simp (disch := omega) only [j2, j3, j4, j5, j6, j7, j8, j9, j10, j12, j14, j20, j40, j48, j49, j56, j80, j96, j180, j183, j483, j492, j708, j2401, j1000000, nI_1, nI_add, pk_mul, i_le, i_lt, i_eq, i_lt0, i_0le, i_le0, i_eq0, i_0lt, i_eq1, i_eqm1, i_sub1, i_addm1, pk_sub, i_add0, b2i_eq0, b2i_1, i_bit, if_true, if_false, rR2, rR3, rR7, rR8, rR10, rR11, rR15, rR16, rR17, rR18, rR19, rR20, rR21, rR22, rR23, rR25, rI0, rI1, rI4, rI5, rI6, rI9, rI12, rI13, rI14, rI24, rP0, rP1, rP4, rP5, rP6, rP9, rP12, rP13, rP14, rP24, r_chk, bS, r_mem, r_memS, r_lst, r_lstS, r_tre, r_treS, r_voi, r_voiS, h.len hc, show (wL W c).length ≤ i by omega]
    rfl
  | succ d ih =>
    intro i fuel hi hf
    obtain ⟨f, rfl⟩ : ∃ f, fuel = f + 1 := ⟨fuel - 1, by omega⟩
    have hx : (wL W c)[i]? = some (wL W c)[i] := List.getElem?_eq_getElem (by omega)
    have hxb := hV.lb hc _ (List.mem_of_getElem? hx)
    have hxT := cT_lt hxb
    show b_X10_cutMany_2 _ _ _ _ _ = _
    unfold b_X10_cutMany_2
    rw [List.drop_eq_getElem_cons (by omega)]
    simp (disch := omega) only [j2, j3, j4, j5, j6, j7, j8, j9, j10, j12, j14, j20, j40, j48, j49, j56, j80, j96, j180, j183, j483, j492, j708, j2401, j1000000, nI_1, nI_add, pk_mul, i_le, i_lt, i_eq, i_lt0, i_0le, i_le0, i_eq0, i_0lt, i_eq1, i_eqm1, i_sub1, i_addm1, pk_sub, i_add0, b2i_eq0, b2i_1, i_bit, if_true, if_false, rR2, rR3, rR7, rR8, rR10, rR11, rR15, rR16, rR17, rR18, rR19, rR20, rR21, rR22, rR23, rR25, rI0, rI1, rI4, rI5, rI6, rI9, rI12, rI13, rI14, rI24, rP0, rP1, rP4, rP5, rP6, rP9, rP12, rP13, rP14, rP24, r_chk, bS, r_mem, r_memS, r_lst, r_lstS, r_tre, r_treS, r_voi, r_voiS, h.len hc, show ¬ (wL W c).length ≤ i by omega, r_moveOf, h.mv0 hc hx, r_stableOf h hV hT hc, mCm]
    by_cases e : mSt2 (wH W c) c < cT (wL W c)[i]
    · rw [if_pos e, if_neg (by omega)]; rfl
    · rw [if_neg e, if_pos (by omega), ih (i + 1) f (by omega) (by omega), show i + 1 + mCm (mSt2 (wH W c) c) ((wL W c).drop (i + 1)) = i + (mCm (mSt2 (wH W c) c) ((wL W c).drop (i + 1)) + 1) by omega]
theorem r_cutMany (h : RW (S.2.1 299) 0 W) (hV : V T W) (hT : T ≤ 100000) {c : Nat} (hc : c < 3) : f_X10_cutMany (ov S n) 296 (nI c) = some (ov S n, nI (mCm (mSt2 (wH W c) c) (wL W c))) := by
  have hl := (hV.2.2.1 c hc).1
  have := r_cutL (n := n) h hV hT hc (wL W c).length 0 q_FU (by omega) (q_FU_lt (by omega))
  rw [Nat.zero_add, List.drop_zero] at this
  unfold f_X10_cutMany b_X10_cutMany_0
  rw [r_chk]
  exact this
theorem V.ne (hV : V T W) {c d : Nat} (hc : c < 3) (hd : d < 3) (hp : 0 < (wY W (3 * d + c)).length) : d ≠ c := fun e => by
  rw [(hV.2.2.2.2.1 d c hd hc).2.1 e] at hp
  simp at hp
theorem r_waitingAll (h : RW (S.2.1 299) 0 W) (hV : V T W) {c : Nat} (hc : c < 3) : f_X10_waitingAll (ov S n) 296 (nI c) = some (ov S n, nI (aWf W c)) := by
  unfold f_X10_waitingAll b_X10_waitingAll_0
  rw [r_chk]
  refine fw_loop (fun fuel a j => l_X10_waitingAll_4 fuel (ov S n) 296 (nI c) (nI a) (nI j)) (fun d a => a + (wY W (3 * d + c)).length) (fun a => (ov S n, nI a)) (fun _ => True) 0 3 (fun fuel a _ => ?_) (fun fuel a j ha h1 h2 => ⟨trivial, ?_⟩) 3 0 q_FU 0 trivial (by omega) (by omega) (q_FU_lt (by omega))
  · show b_X10_waitingAll_4 _ _ _ _ _ _ = _
    unfold b_X10_waitingAll_4
    simp (disch := omega) only [j2, j3, j4, j5, j6, j7, j8, j9, j10, j12, j14, j20, j40, j48, j49, j56, j80, j96, j180, j183, j483, j492, j708, j2401, j1000000, nI_1, nI_add, pk_mul, i_le, i_lt, i_eq, i_lt0, i_0le, i_le0, i_eq0, i_0lt, i_eq1, i_eqm1, i_sub1, i_addm1, pk_sub, i_add0, b2i_eq0, b2i_1, i_bit, if_true, if_false, Nat.le_refl]
  · show b_X10_waitingAll_4 _ _ _ _ _ _ = _
    unfold b_X10_waitingAll_4 b_X10_waitingAll_25
    simp (disch := omega) only [j2, j3, j4, j5, j6, j7, j8, j9, j10, j12, j14, j20, j40, j48, j49, j56, j80, j96, j180, j183, j483, j492, j708, j2401, j1000000, nI_1, nI_add, pk_mul, i_le, i_lt, i_eq, i_lt0, i_0le, i_le0, i_eq0, i_0lt, i_eq1, i_eqm1, i_sub1, i_addm1, pk_sub, i_add0, b2i_eq0, b2i_1, i_bit, if_true, if_false, r_waiting h.2.2.2.2 h2 hc, bS, show ¬ 3 ≤ j by omega]
    by_cases e : j = c
    · rw [if_pos e, (hV.2.2.2.2.1 j c h2 hc).2.1 e]; rfl
    · rw [if_neg e]
theorem r_mwL (h : RW (S.2.1 299) 0 W) (hV : V T W) {c j : Nat} (hc : c < 3) (hj : j < 3) (k4 : q_H → Nat → Int32 → Int32 → Int32 → Option (q_H × Int32)) : ∀ d i fuel a, i + d = (wY W (3 * j + c)).length → d < fuel → l_X10_movesWaiting_12 k4 fuel (ov S n) 296 (nI c) (nI a) (nI j) (nI i) = k4 (ov S n) 296 (nI c) (nI (a + ((wY W (3 * j + c)).drop i).countP mHm)) (nI (j + 1)) := by
  have hyl := (hV.2.2.2.2.1 j c hj hc).1
  intro d
  induction d with
  | zero =>
    intro i fuel a hi hf
    obtain ⟨f, rfl⟩ : ∃ f, fuel = f + 1 := ⟨fuel - 1, by omega⟩
    show b_X10_movesWaiting_12 _ _ _ _ _ _ _ _ = _
    unfold b_X10_movesWaiting_12 b_X10_movesWaiting_51
    rw [List.drop_eq_nil_of_le (by omega)]
    simp (disch := omega) only [j2, j3, j4, j5, j6, j7, j8, j9, j10, j12, j14, j20, j40, j48, j49, j56, j80, j96, j180, j183, j483, j492, j708, j2401, j1000000, nI_1, nI_add, pk_mul, i_le, i_lt, i_eq, i_lt0, i_0le, i_le0, i_eq0, i_0lt, i_eq1, i_eqm1, i_sub1, i_addm1, pk_sub, i_add0, b2i_eq0, b2i_1, i_bit, if_true, if_false, r_waiting h.2.2.2.2 hj hc, bS, show (wY W (3 * j + c)).length ≤ i by omega, List.countP_nil, Nat.add_zero]
  | succ d ih =>
    intro i fuel a hi hf
    obtain ⟨f, rfl⟩ : ∃ f, fuel = f + 1 := ⟨fuel - 1, by omega⟩
    have hx : (wY W (3 * j + c))[i]? = some (wY W (3 * j + c))[i] := List.getElem?_eq_getElem (by omega)
    have hne := hV.ne hc hj (by omega)
    show b_X10_movesWaiting_12 _ _ _ _ _ _ _ _ = _
    unfold b_X10_movesWaiting_12
    rw [List.drop_eq_getElem_cons (by omega), List.countP_cons]
    simp (disch := omega) only [j2, j3, j4, j5, j6, j7, j8, j9, j10, j12, j14, j20, j40, j48, j49, j56, j80, j96, j180, j183, j483, j492, j708, j2401, j1000000, nI_1, nI_add, pk_mul, i_le, i_lt, i_eq, i_lt0, i_0le, i_le0, i_eq0, i_0lt, i_eq1, i_eqm1, i_sub1, i_addm1, pk_sub, i_add0, b2i_eq0, b2i_1, i_bit, if_true, if_false, r_waiting h.2.2.2.2 hj hc, bS, show ¬ (wY W (3 * j + c)).length ≤ i by omega, hne, r_letterOf, r_isMove h.2.2.2.2 (show 3 * j + c < 9 by omega) hx, r_flag, b2i_add]
    rw [ih (i + 1) f _ (by omega) (by omega)]
    by_cases e : mHm (wY W (3 * j + c))[i] = true
    · simp only [e, if_true]
      rw [show a + 1 + List.countP mHm (List.drop (i + 1) (wY W (3 * j + c))) = a + (List.countP mHm (List.drop (i + 1) (wY W (3 * j + c))) + 1) by omega]
    · simp only [e, if_false, Nat.add_zero, Bool.false_eq_true]
theorem r_movesWaiting (h : RW (S.2.1 299) 0 W) (hV : V T W) {c : Nat} (hc : c < 3) : f_X10_movesWaiting (ov S n) 296 (nI c) = some (ov S n, nI (aMw W c)) := by
  unfold f_X10_movesWaiting b_X10_movesWaiting_0
  rw [r_chk]
  refine fw_loop (fun fuel a j => l_X10_movesWaiting_4 fuel (ov S n) 296 (nI c) (nI a) (nI j)) (fun d a => a + (wY W (3 * d + c)).countP mHm) (fun a => (ov S n, nI a)) (fun _ => True) 0 3 (fun fuel a _ => ?_) (fun fuel a j ha h1 h2 => ⟨trivial, ?_⟩) 3 0 q_FU 0 trivial (by omega) (by omega) (q_FU_lt (by omega))
  · show b_X10_movesWaiting_4 _ _ _ _ _ _ = _
    unfold b_X10_movesWaiting_4
    simp (disch := omega) only [j2, j3, j4, j5, j6, j7, j8, j9, j10, j12, j14, j20, j40, j48, j49, j56, j80, j96, j180, j183, j483, j492, j708, j2401, j1000000, nI_1, nI_add, pk_mul, i_le, i_lt, i_eq, i_lt0, i_0le, i_le0, i_eq0, i_0lt, i_eq1, i_eqm1, i_sub1, i_addm1, pk_sub, i_add0, b2i_eq0, b2i_1, i_bit, if_true, if_false, Nat.le_refl]
  · have hyl := (hV.2.2.2.2.1 j c h2 hc).1
    have := r_mwL (n := n) h hV hc h2 (l_X10_movesWaiting_4 fuel) (wY W (3 * j + c)).length 0 q_FU a (by omega) (q_FU_lt (by omega))
    rw [List.drop_zero] at this
    show b_X10_movesWaiting_4 _ _ _ _ _ _ = _
    unfold b_X10_movesWaiting_4
    simp (disch := omega) only [j2, j3, j4, j5, j6, j7, j8, j9, j10, j12, j14, j20, j40, j48, j49, j56, j80, j96, j180, j183, j483, j492, j708, j2401, j1000000, nI_1, nI_add, pk_mul, i_le, i_lt, i_eq, i_lt0, i_0le, i_le0, i_eq0, i_0lt, i_eq1, i_eqm1, i_sub1, i_addm1, pk_sub, i_add0, b2i_eq0, b2i_1, i_bit, if_true, if_false, show ¬ 3 ≤ j by omega]
    exact this
theorem V.yb (hV : V T W) {c d : Nat} (hc : c < 3) (hd : d < 3) {k : Nat} (hk : k ∈ wY W (3 * d + c)) : k < 2 ^ 31 ∧ cC k = d := ⟨((hV.2.2.2.2.1 d c hd hc).2.2.2 k hk).1.1, ((hV.2.2.2.2.1 d c hd hc).2.2.2 k hk).1.2.1⟩
theorem r_unL (h : RW (S.2.1 299) 0 W) (hV : V T W) {c j : Nat} (hc : c < 3) (hj : j < 3) (hl : LL S l) (k9 : q_H → Nat → Int32 → Int32 → Int32 → Option (q_H × Int32)) : ∀ d i fuel a, i + d = (wY W (3 * j + c)).length → d < fuel → a < 2 ^ 31 → l_X10_undoneAtOnce_17 k9 fuel (ov S n) 296 (nI c) (nI a) (nI j) (nI i) = k9 (ov S n) 296 (nI c) (nI ((mMv ((wY W (3 * j + c)).drop i)).foldl (fun a k => max a (l.countP (mLs k))) a)) (nI (j + 1)) := by
  have hyl := (hV.2.2.2.2.1 j c hj hc).1
  have hl40 := hl.2.1
  intro d
  induction d with
  | zero =>
    intro i fuel a hi hf ha
    obtain ⟨f, rfl⟩ : ∃ f, fuel = f + 1 := ⟨fuel - 1, by omega⟩
    show b_X10_undoneAtOnce_17 _ _ _ _ _ _ _ _ = _
    unfold b_X10_undoneAtOnce_17 b_X10_undoneAtOnce_78
    rw [List.drop_eq_nil_of_le (by omega)]
    simp (disch := omega) only [j2, j3, j4, j5, j6, j7, j8, j9, j10, j12, j14, j20, j40, j48, j49, j56, j80, j96, j180, j183, j483, j492, j708, j2401, j1000000, nI_1, nI_add, pk_mul, i_le, i_lt, i_eq, i_lt0, i_0le, i_le0, i_eq0, i_0lt, i_eq1, i_eqm1, i_sub1, i_addm1, pk_sub, i_add0, b2i_eq0, b2i_1, i_bit, if_true, if_false, r_waiting h.2.2.2.2 hj hc, bS, show (wY W (3 * j + c)).length ≤ i by omega]
    rfl
  | succ d ih =>
    intro i fuel a hi hf ha
    obtain ⟨f, rfl⟩ : ∃ f, fuel = f + 1 := ⟨fuel - 1, by omega⟩
    have hx : (wY W (3 * j + c))[i]? = some (wY W (3 * j + c))[i] := List.getElem?_eq_getElem (by omega)
    obtain ⟨hkb, hkc⟩ := hV.yb hc hj (List.mem_of_getElem? hx)
    have hne := hV.ne hc hj (by omega)
    have hgr := r_greater (n := n) hl hkb
    rw [hkc] at hgr
    have hle : l.countP (mLs (wY W (3 * j + c))[i]) ≤ l.length := List.countP_le_length
    show b_X10_undoneAtOnce_17 _ _ _ _ _ _ _ _ = _
    unfold b_X10_undoneAtOnce_17 b_X10_undoneAtOnce_71
    rw [List.drop_eq_getElem_cons (by omega), mMv_cons]
    simp (disch := omega) only [j2, j3, j4, j5, j6, j7, j8, j9, j10, j12, j14, j20, j40, j48, j49, j56, j80, j96, j180, j183, j483, j492, j708, j2401, j1000000, nI_1, nI_add, pk_mul, i_le, i_lt, i_eq, i_lt0, i_0le, i_le0, i_eq0, i_0lt, i_eq1, i_eqm1, i_sub1, i_addm1, pk_sub, i_add0, b2i_eq0, b2i_1, i_bit, if_true, if_false, rR2, rR3, rR7, rR8, rR10, rR11, rR15, rR16, rR17, rR18, rR19, rR20, rR21, rR22, rR23, rR25, rI0, rI1, rI4, rI5, rI6, rI9, rI12, rI13, rI14, rI24, rP0, rP1, rP4, rP5, rP6, rP9, rP12, rP13, rP14, rP24, r_chk, bS, r_mem, r_memS, r_lst, r_lstS, r_tre, r_treS, r_voi, r_voiS, r_waiting h.2.2.2.2 hj hc, show ¬ (wY W (3 * j + c)).length ≤ i by omega, hne, r_letterOf, r_isMove h.2.2.2.2 (show 3 * j + c < 9 by omega) hx, h.yl0 (show 3 * j + c < 9 by omega) hx, hgr, i_max]
    by_cases e : mHm (wY W (3 * j + c))[i] = true
    · rw [if_neg (by simp [e]), if_pos e, ih (i + 1) f _ (by omega) (by omega) (by omega)]
      rfl
    · rw [if_pos (by simpa using e), if_neg e, ih (i + 1) f a (by omega) (by omega) ha]
theorem und_lt {l : List Nat} (hl : l.length < 2 ^ 31) : ∀ (ms : List Nat) (a : Nat), a < 2 ^ 31 → ms.foldl (fun a k => max a (l.countP (mLs k))) a < 2 ^ 31 := by
  intro ms
  induction ms with
  | nil => intro a h; exact h
  | cons k ms ih =>
    intro a h
    have hle : l.countP (mLs k) ≤ l.length := List.countP_le_length
    exact ih (max a (l.countP (mLs k))) (by omega)
theorem r_undone (h : RW (S.2.1 299) 0 W) (hV : V T W) {c : Nat} (hc : c < 3) : ∃ S', f_X10_undoneAtOnce (ov S n) 296 (nI c) = some (ov S' n, nI (dUn W c)) ∧ RQ S S' := by
  obtain ⟨S', g1, g2, g3⟩ := r_loadsW (n := n) hc h (hV.lb hc)
  have h' : RW (S'.2.1 299) 0 W := by rw [g3.m]; exact h
  refine ⟨S', ?_, g3⟩
  unfold f_X10_undoneAtOnce b_X10_undoneAtOnce_0
  rw [r_chk, g1, bS]
  have hl40 := g2.2.1
  refine fw_loop (fun fuel a j => l_X10_undoneAtOnce_9 fuel (ov S' n) 296 (nI c) (nI a) (nI j)) (fun d a => (mMv (wY W (3 * d + c))).foldl (fun a k => max a ((wL W c).countP (mLs k))) a) (fun a => (ov S' n, nI a)) (fun a => a < 2 ^ 31) 0 3 (fun fuel a _ => ?_) (fun fuel a j ha h1 h2 => ⟨und_lt (by omega) _ _ ha, ?_⟩) 3 0 q_FU 0 (by omega) (by omega) (by omega) (q_FU_lt (by omega))
  · show b_X10_undoneAtOnce_9 _ _ _ _ _ _ = _
    unfold b_X10_undoneAtOnce_9
    simp (disch := omega) only [j2, j3, j4, j5, j6, j7, j8, j9, j10, j12, j14, j20, j40, j48, j49, j56, j80, j96, j180, j183, j483, j492, j708, j2401, j1000000, nI_1, nI_add, pk_mul, i_le, i_lt, i_eq, i_lt0, i_0le, i_le0, i_eq0, i_0lt, i_eq1, i_eqm1, i_sub1, i_addm1, pk_sub, i_add0, b2i_eq0, b2i_1, i_bit, if_true, if_false, Nat.le_refl]
  · have hyl := (hV.2.2.2.2.1 j c h2 hc).1
    have := r_unL (n := n) h' hV hc h2 g2 (l_X10_undoneAtOnce_9 fuel) (wY W (3 * j + c)).length 0 q_FU a (by omega) (q_FU_lt (by omega)) ha
    rw [List.drop_zero] at this
    show b_X10_undoneAtOnce_9 _ _ _ _ _ _ = _
    unfold b_X10_undoneAtOnce_9
    simp (disch := omega) only [j2, j3, j4, j5, j6, j7, j8, j9, j10, j12, j14, j20, j40, j48, j49, j56, j80, j96, j180, j183, j483, j492, j708, j2401, j1000000, nI_1, nI_add, pk_mul, i_le, i_lt, i_eq, i_lt0, i_0le, i_le0, i_eq0, i_0lt, i_eq1, i_eqm1, i_sub1, i_addm1, pk_sub, i_add0, b2i_eq0, b2i_1, i_bit, if_true, if_false, show ¬ 3 ≤ j by omega]
    exact this
theorem r_pwL (hV : V T W) {c j : Nat} (hc : c < 3) (hj : j < 3) (k2 : q_H → Nat → Int32 → Int32 → Option (q_H × Unit)) : ∀ d i fuel (S : o_S) (l : List Nat), i + d = (wY W (3 * j + c)).length → d < fuel → RW (S.2.1 299) 0 W → LL S l → l.length + d ≤ 40 → ∃ S', l_X10_putsWaiting_9 k2 fuel (ov S n) 296 (nI c) (nI j) (nI i) = k2 (ov S' n) 296 (nI c) (nI (j + 1)) ∧ LL S' (mPutA ((wY W (3 * j + c)).drop i) l) ∧ RQ S S' := by
  have hyl := (hV.2.2.2.2.1 j c hj hc).1
  intro d
  induction d with
  | zero =>
    intro i fuel S l hi hf h hl hlen
    obtain ⟨f, rfl⟩ : ∃ f, fuel = f + 1 := ⟨fuel - 1, by omega⟩
    rw [List.drop_eq_nil_of_le (by omega)]
    refine ⟨S, ?_, hl, RQ.rf⟩
    show b_X10_putsWaiting_9 _ _ _ _ _ _ _ = _
    unfold b_X10_putsWaiting_9 b_X10_putsWaiting_41
    simp (disch := omega) only [j2, j3, j4, j5, j6, j7, j8, j9, j10, j12, j14, j20, j40, j48, j49, j56, j80, j96, j180, j183, j483, j492, j708, j2401, j1000000, nI_1, nI_add, pk_mul, i_le, i_lt, i_eq, i_lt0, i_0le, i_le0, i_eq0, i_0lt, i_eq1, i_eqm1, i_sub1, i_addm1, pk_sub, i_add0, b2i_eq0, b2i_1, i_bit, if_true, if_false, r_waiting h.2.2.2.2 hj hc, bS, show (wY W (3 * j + c)).length ≤ i by omega]
  | succ d ih =>
    intro i fuel S l hi hf h hl hlen
    obtain ⟨f, rfl⟩ : ∃ f, fuel = f + 1 := ⟨fuel - 1, by omega⟩
    have hx : (wY W (3 * j + c))[i]? = some (wY W (3 * j + c))[i] := List.getElem?_eq_getElem (by omega)
    obtain ⟨hkb, hkc⟩ := hV.yb hc hj (List.mem_of_getElem? hx)
    have hne := hV.ne hc hj (by omega)
    obtain ⟨S1, g1, g2, g3⟩ := r_putsLetter (n := n) h.2.2.2.2 hl (by omega) (show 3 * j + c < 9 by omega) hx hkb hkc
    have hpl := mPut_len (wY W (3 * j + c))[i] l
    obtain ⟨S', k1, k2', k3⟩ := ih (i + 1) f S1 _ (by omega) (by omega) (by rw [g3.m]; exact h) g2 (by omega)
    refine ⟨S', ?_, by rw [List.drop_eq_getElem_cons (by omega)]; exact k2', g3.tr k3⟩
    show b_X10_putsWaiting_9 _ _ _ _ _ _ _ = _
    unfold b_X10_putsWaiting_9
    simp (disch := omega) only [j2, j3, j4, j5, j6, j7, j8, j9, j10, j12, j14, j20, j40, j48, j49, j56, j80, j96, j180, j183, j483, j492, j708, j2401, j1000000, nI_1, nI_add, pk_mul, i_le, i_lt, i_eq, i_lt0, i_0le, i_le0, i_eq0, i_0lt, i_eq1, i_eqm1, i_sub1, i_addm1, pk_sub, i_add0, b2i_eq0, b2i_1, i_bit, if_true, if_false, rR2, rR3, rR7, rR8, rR10, rR11, rR15, rR16, rR17, rR18, rR19, rR20, rR21, rR22, rR23, rR25, rI0, rI1, rI4, rI5, rI6, rI9, rI12, rI13, rI14, rI24, rP0, rP1, rP4, rP5, rP6, rP9, rP12, rP13, rP14, rP24, r_chk, bS, r_mem, r_memS, r_lst, r_lstS, r_tre, r_treS, r_voi, r_voiS, r_waiting h.2.2.2.2 hj hc, show ¬ (wY W (3 * j + c)).length ≤ i by omega, hne, r_letterOf, g1]
    exact k1
theorem r_pwO (hV : V T W) {c : Nat} (hc : c < 3) : ∀ d j fuel (S : o_S) (l : List Nat), j + d = 3 → d < fuel → RW (S.2.1 299) 0 W → LL S l → l.length + fw (fun d a => a + (wY W (3 * d + c)).length) 0 j d ≤ 40 → ∃ S', l_X10_putsWaiting_2 fuel (ov S n) 296 (nI c) (nI j) = some (ov S' n, ()) ∧ LL S' (fw (fun d l => mPutA (wY W (3 * d + c)) l) l j d) ∧ RQ S S' := by
  intro d
  induction d with
  | zero =>
    intro j fuel S l hj hf h hl hlen
    obtain ⟨f, rfl⟩ : ∃ f, fuel = f + 1 := ⟨fuel - 1, by omega⟩
    refine ⟨S, ?_, hl, RQ.rf⟩
    show b_X10_putsWaiting_2 _ _ _ _ _ = _
    unfold b_X10_putsWaiting_2
    simp (disch := omega) only [j2, j3, j4, j5, j6, j7, j8, j9, j10, j12, j14, j20, j40, j48, j49, j56, j80, j96, j180, j183, j483, j492, j708, j2401, j1000000, nI_1, nI_add, pk_mul, i_le, i_lt, i_eq, i_lt0, i_0le, i_le0, i_eq0, i_0lt, i_eq1, i_eqm1, i_sub1, i_addm1, pk_sub, i_add0, b2i_eq0, b2i_1, i_bit, if_true, if_false, show 3 ≤ j by omega]
  | succ d ih =>
    intro j fuel S l hj hf h hl hlen
    obtain ⟨f, rfl⟩ : ∃ f, fuel = f + 1 := ⟨fuel - 1, by omega⟩
    have hj3 : j < 3 := by omega
    have hyl := (hV.2.2.2.2.1 j c hj3 hc).1
    have hl' : l.length + ((wY W (3 * j + c)).length + fw (fun d a => a + (wY W (3 * d + c)).length) 0 (j + 1) d) ≤ 40 := by
      have e : fw (fun d a => a + (wY W (3 * d + c)).length) 0 j (d + 1) = fw (fun d a => a + (wY W (3 * d + c)).length) (0 + (wY W (3 * j + c)).length) (j + 1) d := rfl
      rw [e, fw_add, Nat.zero_add] at hlen
      exact hlen
    obtain ⟨S1, g1, g2, g3⟩ := r_pwL (n := n) hV hc hj3 (l_X10_putsWaiting_2 f) (wY W (3 * j + c)).length 0 q_FU S l (by omega) (q_FU_lt (by omega)) h hl (by omega)
    rw [List.drop_zero] at g2
    have hpl := mPutA_len (wY W (3 * j + c)) l
    obtain ⟨S', k1, k2, k3⟩ := ih (j + 1) f S1 _ (by omega) (by omega) (by rw [g3.m]; exact h) g2 (by omega)
    refine ⟨S', ?_, k2, g3.tr k3⟩
    show b_X10_putsWaiting_2 _ _ _ _ _ = _
    unfold b_X10_putsWaiting_2
    simp (disch := omega) only [j2, j3, j4, j5, j6, j7, j8, j9, j10, j12, j14, j20, j40, j48, j49, j56, j80, j96, j180, j183, j483, j492, j708, j2401, j1000000, nI_1, nI_add, pk_mul, i_le, i_lt, i_eq, i_lt0, i_0le, i_le0, i_eq0, i_0lt, i_eq1, i_eqm1, i_sub1, i_addm1, pk_sub, i_add0, b2i_eq0, b2i_1, i_bit, if_true, if_false, show ¬ 3 ≤ j by omega]
    exact g1.trans k1
/-- the log behind all letters, as the reference makes it -/
theorem V.all (hV : V T W) {c : Nat} (hc : c < 3) : ∃ M, fw (fun d l => mPutA (wY W (3 * d + c)) l) (wL W c) 0 3 = aAll W c ∧ SM M (aAll W c) := by
  obtain ⟨M, s1, s2⟩ := hV.sm
  obtain ⟨p1, q1⟩ := (s1 c hc).putA (ys := wY W (3 * 0 + c)) (s2 0 c (by omega) hc)
  obtain ⟨p2, q2⟩ := q1.putA (ys := wY W (3 * 1 + c)) (s2 1 c (by omega) hc)
  obtain ⟨p3, q3⟩ := q2.putA (ys := wY W (3 * 2 + c)) (s2 2 c (by omega) hc)
  have e : mPutA (wY W (3 * 2 + c)) (mPutA (wY W (3 * 1 + c)) (mPutA (wY W (3 * 0 + c)) (wL W c))) = aAll W c := by
    rw [p3, p2, p1]
    rfl
  exact ⟨M, e, by rw [← e]; exact q3⟩
theorem r_putsWaiting (h : RW (S.2.1 299) 0 W) (hV : V T W) {c : Nat} (hc : c < 3) (hl : LL S (wL W c)) : ∃ S', f_X10_putsWaiting (ov S n) 296 (nI c) = some (ov S' n, ()) ∧ LL S' (aAll W c) ∧ RQ S S' := by
  have hwf := hV.wf hc
  have hl20 := (hV.2.2.1 c hc).1
  obtain ⟨S', g1, g2, g3⟩ := r_pwO (n := n) hV hc 3 0 q_FU S (wL W c) (by omega) (q_FU_lt (by omega)) h hl (show (wL W c).length + aWf W c ≤ 40 by omega)
  obtain ⟨M, e, -⟩ := hV.all hc
  rw [e] at g2
  refine ⟨S', ?_, g2, g3⟩
  unfold f_X10_putsWaiting b_X10_putsWaiting_0
  rw [r_chk]
  exact g1
end RL
