/-! BITS, TREES IN PIECES; THE CLASS'S COPIES AND WORLDS -/
theorem bld_ap (w : Nat) : ∀ (l1 l2 : List Nat) (i : Nat) (E : Nat → Nat), mBld w (l1 ++ l2) i E = mBld w l2 (i + l1.length) (mBld w l1 i E) := by
  intro l1
  induction l1 with
  | nil => intro l2 i E; rfl
  | cons k l ih =>
    intro l2 i E
    show mBld w (l ++ l2) (i + 1) _ = mBld w l2 (i + (l.length + 1)) (mBld w l (i + 1) _)
    rw [ih, show i + 1 + l.length = i + (l.length + 1) by omega]
theorem bld_ix : ∀ (l : List Nat) (i j : Nat) (E : Nat → Nat), i + l.length ≤ 1000 → j + l.length ≤ 1000 → mBld 1000 l i E = mBld 1000 l j E := by
  intro l
  induction l with
  | nil => intro i j E _ _; rfl
  | cons k l ih =>
    intro i j E hi hj
    simp only [List.length_cons] at hi hj
    show mBld 1000 l (i + 1) (if i = 1000 then E else mDo E k) = mBld 1000 l (j + 1) (if j = 1000 then E else mDo E k)
    rw [if_neg (by omega), if_neg (by omega)]
    exact ih _ _ _ (by omega) (by omega)
theorem vl_len (w : Nat) : ∀ (l : List Nat) (i : Nat) (E : Nat → Nat), (mVl w l i E).length = l.length := by
  intro l
  induction l with
  | nil => intro i E; rfl
  | cons k l ih => intro i E; simp [mVl, ih]
theorem vl_ap (w : Nat) : ∀ (l1 l2 : List Nat) (i : Nat) (E : Nat → Nat), mVl w (l1 ++ l2) i E = mVl w l1 i E ++ mVl w l2 (i + l1.length) (mBld w l1 i E) := by
  intro l1
  induction l1 with
  | nil => intro l2 i E; rfl
  | cons k l ih =>
    intro l2 i E
    show _ :: mVl w (l ++ l2) (i + 1) _ = _ :: (mVl w l (i + 1) _ ++ mVl w l2 (i + (l.length + 1)) (mBld w l (i + 1) _))
    rw [ih, show i + 1 + l.length = i + (l.length + 1) by omega]
theorem vl_ix : ∀ (l : List Nat) (i j : Nat) (E : Nat → Nat), i + l.length ≤ 1000 → j + l.length ≤ 1000 → mVl 1000 l i E = mVl 1000 l j E := by
  intro l
  induction l with
  | nil => intro i j E _ _; rfl
  | cons k l ih =>
    intro i j E hi hj
    simp only [List.length_cons] at hi hj
    show (decide (i ≠ 1000) && !mOk E k) :: mVl 1000 l (i + 1) (if i = 1000 then E else mDo E k) = (decide (j ≠ 1000) && !mOk E k) :: mVl 1000 l (j + 1) (if j = 1000 then E else mDo E k)
    rw [if_neg (by omega), if_neg (by omega), ih (i + 1) (j + 1) _ (by omega) (by omega), decide_eq_true (show i ≠ 1000 by omega), decide_eq_true (show j ≠ 1000 by omega)]
theorem vds_bit (w : Nat) : ∀ (l : List Nat) (i : Nat) (E : Nat → Nat) (v j : Nat), (mVds w l i E v).testBit j = (v.testBit j || (decide (i ≤ j) && ((mVl w l i E)[j - i]?).getD false)) := by
  intro l
  induction l with
  | nil => intro i E v j; simp [mVds, mVl]
  | cons k l ih =>
    intro i E v j
    show (mVds w l (i + 1) (if i = w then E else mDo E k) (if i = w then v else if mOk E k then v else v ||| 2 ^ i)).testBit j = (v.testBit j || (decide (i ≤ j) && (((decide (i ≠ w) && !mOk E k) :: mVl w l (i + 1) (if i = w then E else mDo E k))[j - i]?).getD false))
    rw [ih]
    by_cases h2 : j = i
    · subst h2
      have a1 : ¬ j + 1 ≤ j := by omega
      simp only [a1, decide_false, Bool.false_and, Bool.or_false, Nat.le_refl, decide_true, Bool.true_and, Nat.sub_self, List.getElem?_cons_zero, Option.getD_some]
      by_cases e : j = w
      · simp [e]
      · by_cases e2 : mOk E k = true
        · simp [e, e2]
        · simp [e, e2, Nat.testBit_or, Nat.testBit_two_pow_self]
    · have hv : (if i = w then v else if mOk E k then v else v ||| 2 ^ i).testBit j = v.testBit j := by
        split
        · rfl
        · split
          · rfl
          · rw [Nat.testBit_or, Nat.testBit_two_pow_of_ne (fun e => h2 e.symm), Bool.or_false]
      rw [hv]
      by_cases h1 : j < i
      · have a1 : ¬ i + 1 ≤ j := by omega
        have a2 : ¬ i ≤ j := by omega
        simp only [a1, a2, decide_false, Bool.false_and]
      · obtain ⟨m, hm⟩ : ∃ m, j = i + 1 + m := ⟨j - i - 1, by omega⟩
        subst hm
        have a1 : i + 1 ≤ i + 1 + m := by omega
        have a2 : i ≤ i + 1 + m := by omega
        rw [show i + 1 + m - i = m + 1 by omega, show i + 1 + m - (i + 1) = m by omega, List.getElem?_cons_succ]
        simp only [a1, a2, decide_true, Bool.true_and]
theorem vds_bit0 (w : Nat) (l : List Nat) (E : Nat → Nat) (j : Nat) : (mVds w l 0 E 0).testBit j = ((mVl w l 0 E)[j]?).getD false := by
  rw [vds_bit]
  simp
theorem vds_lt (w : Nat) (l : List Nat) (E : Nat → Nat) {N : Nat} (h : l.length ≤ N) : mVds w l 0 E 0 < 2 ^ N := by
  refine Nat.lt_pow_two_of_testBit _ (fun j hj => ?_)
  rw [vds_bit0, List.getElem?_eq_none (by rw [vl_len]; omega)]
  rfl
/-- the first are cut -/
theorem bld_cut {l : List Nat} (m : Nat) (B : Nat → Nat) (hl : l.length ≤ 400) : mBld 1000 (l.drop m) 0 (mBld 1000 (l.take m) 0 B) = mBld 1000 l 0 B := by
  have e := bld_ap 1000 (l.take m) (l.drop m) 0 B
  rw [List.take_append_drop] at e
  have h1 : (l.drop m).length ≤ l.length := by rw [List.length_drop]; omega
  have h2 : (l.take m).length ≤ l.length := by rw [List.length_take]; omega
  rw [e]
  exact bld_ix _ _ _ _ (by omega) (by omega)
theorem vds_cut {l : List Nat} {m : Nat} (B : Nat → Nat) (hm : m ≤ l.length) (hl : l.length ≤ 400) : mVds 1000 (l.drop m) 0 (mBld 1000 (l.take m) 0 B) 0 = mVds 1000 l 0 B 0 / 2 ^ m := by
  rw [← Nat.shiftRight_eq_div_pow]
  apply Nat.eq_of_testBit_eq
  intro j
  have e := vl_ap 1000 (l.take m) (l.drop m) 0 B
  rw [List.take_append_drop] at e
  have h1 : (l.drop m).length ≤ l.length := by rw [List.length_drop]; omega
  have h2 : (l.take m).length = m := by rw [List.length_take]; omega
  rw [Nat.testBit_shiftRight, vds_bit0, vds_bit0, e, List.getElem?_append_right (by rw [vl_len]; omega), vl_len, h2, show m + j - m = j by omega, vl_ix (l.drop m) (0 + m) 0 _ (by omega) (by omega)]
theorem bld_1 {l : List Nat} {k : Nat} (B : Nat → Nat) (hl : l.length ≤ 400) : mBld 1000 (l ++ [k]) 0 B = mDo (mBld 1000 l 0 B) k := by
  rw [bld_ap]
  show (if 0 + l.length = 1000 then _ else _) = _
  rw [if_neg (by omega)]
theorem vds_1 {l : List Nat} {k : Nat} (B : Nat → Nat) (hl : l.length ≤ 400) : mVds 1000 (l ++ [k]) 0 B 0 = if mOk (mBld 1000 l 0 B) k then mVds 1000 l 0 B 0 else mVds 1000 l 0 B 0 ||| 2 ^ l.length := by
  have e := vl_ap 1000 l [k] 0 B
  have e2 : mVl 1000 [k] (0 + l.length) (mBld 1000 l 0 B) = [!mOk (mBld 1000 l 0 B) k] := by
    show [decide (0 + l.length ≠ 1000) && !mOk (mBld 1000 l 0 B) k] = _
    rw [decide_eq_true (show 0 + l.length ≠ 1000 by omega), Bool.true_and]
  rw [e2] at e
  apply Nat.eq_of_testBit_eq
  intro j
  rw [vds_bit0, e]
  by_cases h1 : j < l.length
  · rw [List.getElem?_append_left (by rw [vl_len]; exact h1), ← vds_bit0]
    split
    · rfl
    · rw [Nat.testBit_or, Nat.testBit_two_pow_of_ne (by omega), Bool.or_false]
  · have hz : (mVds 1000 l 0 B 0).testBit j = false := by
      rw [vds_bit0, List.getElem?_eq_none (by rw [vl_len]; omega)]
      rfl
    rw [List.getElem?_append_right (by rw [vl_len]; omega), vl_len]
    by_cases h2 : j = l.length
    · subst h2
      rw [Nat.sub_self, List.getElem?_cons_zero, Option.getD_some]
      split
      · rename_i h; rw [hz, h]; rfl
      · rename_i h; rw [Nat.testBit_or, Nat.testBit_two_pow_self, Bool.or_true]; simpa using h
    · rw [List.getElem?_eq_none (by simp; omega)]
      split
      · rw [hz]; rfl
      · rw [Nat.testBit_or, hz, Nat.testBit_two_pow_of_ne (by omega)]; rfl
theorem i_ushr {v m : Nat} (hv : v < 2 ^ 32) (hm : m < 32) : q_iushr (nI v) (nI m) = nI (v / 2 ^ m) := by
  have h : ∀ m, m < 32 → (((nI m).toUInt32 &&& Int32.toUInt32 31).toBitVec % 32).toNat = m := by decide +kernel
  exact pk_ushrN hv (nI m) m (h m hm)
theorem i_tb {v m : Nat} (hv : v < 2 ^ 32) (hm : m < 32) : q_iushr (nI v) (nI m) &&& 1 = b2i (v.testBit m) := by
  have h1 : v / 2 ^ m < 2 ^ 32 := Nat.lt_of_le_of_lt (Nat.div_le_self _ _) hv
  rw [i_ushr hv hm, pk_andN h1 1 (by decide), Nat.testBit_eq_decide_div_mod_eq, show (2 : Nat) ^ 1 = 2 from rfl]
  rcases Nat.mod_two_eq_zero_or_one (v / 2 ^ m) with e | e
  · rw [e, decide_eq_false (by omega)]; rfl
  · rw [e, decide_eq_true rfl]; rfl
/-- the copy at a holds number, time, heard, log and base -/
def CP (S : o_S) (a c t : Nat) (h : Nat → Nat) (l : List Nat) (B : Nat → Nat) : Prop := (S.1 a 0 = nI c ∧ S.1 a 1 = nI t) ∧ (∀ d, d < 3 → S.2.1 (a + 1) d = nI (h d)) ∧ SE S (a + 2) 32 l ∧ TE S (a + 4) B
/-- and the tree and the voids are theirs -/
def CC (S : o_S) (a c t : Nat) (h : Nat → Nat) (l : List Nat) (B : Nat → Nat) : Prop := CP S a c t h l B ∧ S.1 a 6 = nI (mVds 1000 l 0 B 0) ∧ TE S (a + 6) (mBld 1000 l 0 B)
theorem CP.ag {A : Nat → Prop} {S S' : o_S} {a c t : Nat} {h : Nat → Nat} {l : List Nat} {B : Nat → Nat} (H : CP S a c t h l B) (hA : AG A S S') (hn : ∀ b, a ≤ b → b < a + 6 → ¬ A b) : CP S' a c t h l B :=
  ⟨⟨by rw [hA.f (hn a (by omega) (by omega))]; exact H.1.1, by rw [hA.f (hn a (by omega) (by omega))]; exact H.1.2⟩, fun d hd => by rw [hA.I (hn (a + 1) (by omega) (by omega))]; exact H.2.1 d hd, H.2.2.1.ag hA (hn _ (by omega) (by omega)) (hn _ (by omega) (by omega)), H.2.2.2.ag hA (hn _ (by omega) (by omega))⟩
theorem CC.ag {A : Nat → Prop} {S S' : o_S} {a c t : Nat} {h : Nat → Nat} {l : List Nat} {B : Nat → Nat} (H : CC S a c t h l B) (hA : AG A S S') (hn : ∀ b, a ≤ b → b < a + 8 → ¬ A b) : CC S' a c t h l B :=
  ⟨H.1.ag hA (fun b h1 h2 => hn b h1 (by omega)), by rw [hA.f (hn a (by omega) (by omega))]; exact H.2.1, H.2.2.ag hA (hn _ (by omega) (by omega))⟩
/-- the class's world at w holds a world -/
def CW (S : o_S) (w : Nat) (W : aW) : Prop := kWorld w ∧ (∀ c, c < 3 → CC S (w + 3 + 8 * c) c (wT W c) (wH W c) (wL W c) (wB W c)) ∧ ∀ i, i < 9 → SE S (w + 27 + 2 * i) 6 (wY W i)
theorem CW.ag {A : Nat → Prop} {S S' : o_S} {w : Nat} {W : aW} (H : CW S w W) (hA : AG A S S') (hn : ∀ b, w ≤ b → b < w + 45 → ¬ A b) : CW S' w W :=
  ⟨H.1, fun c hc => (H.2.1 c hc).ag hA (fun b h1 h2 => hn b (by omega) (by omega)), fun i hi => (H.2.2 i hi).ag hA (hn _ (by omega) (by omega)) (hn _ (by omega) (by omega))⟩
/-- one copy and the ways are others -/
theorem CW.up {A : Nat → Prop} {S S' : o_S} {w c0 : Nat} {W W' : aW} (H : CW S w W) (hA : AG A S S') (hn : ∀ b, A b → w + 3 + 8 * c0 ≤ b ∧ b < w + 3 + 8 * c0 + 8 ∨ w + 27 ≤ b) (hc0 : c0 < 3) (he : ∀ c, c < 3 → c ≠ c0 → wT W' c = wT W c ∧ wH W' c = wH W c ∧ wL W' c = wL W c ∧ wB W' c = wB W c) (hc : CC S' (w + 3 + 8 * c0) c0 (wT W' c0) (wH W' c0) (wL W' c0) (wB W' c0)) (hy : ∀ i, i < 9 → SE S' (w + 27 + 2 * i) 6 (wY W' i)) : CW S' w W' := by
  refine ⟨H.1, fun c hc3 => ?_, hy⟩
  by_cases e : c = c0
  · subst e; exact hc
  · obtain ⟨e1, e2, e3, e4⟩ := he c hc3 e
    rw [e1, e2, e3, e4]
    exact (H.2.1 c hc3).ag hA (fun b h1 h2 h3 => by
      have := hn b h3
      omega)
theorem x_rng (x : Int32) {lo hi : Nat} (hlo : lo < 2 ^ 31) (hhi : hi < 2 ^ 31) : inR lo hi x = (!decide (x < nI lo) && !decide (nI hi ≤ x)) := by
  unfold inR
  simp only [Int32.lt_iff_toInt_lt, Int32.le_iff_toInt_le, nI_toInt hlo, nI_toInt hhi]
  by_cases h1 : x.toInt < (lo : Int)
  · by_cases h2 : (hi : Int) ≤ x.toInt
    · simp [h1, h2] <;> omega
    · simp [h1, h2] <;> omega
  · by_cases h2 : (hi : Int) ≤ x.toInt
    · simp [h1, h2] <;> omega
    · simp [h1, h2] <;> omega
theorem x_isCopy (h : q_H) (x : Int32) : f_X9_isCopy h x = some (h, b2i (inR 0 3 x)) := by
  rw [x_rng x (by omega) (by omega)]
  unfold f_X9_isCopy b_X9_isCopy_0
  show (if x < nI 0 then _ else if nI 3 ≤ x then _ else _) = _
  by_cases h1 : x < nI 0 <;> by_cases h2 : nI 3 ≤ x <;> simp [h1, h2, b2i]
theorem x_isFolder (h : q_H) (x : Int32) : f_X9_isFolder h x = some (h, b2i (inR 2 14 x)) := by
  rw [x_rng x (by omega) (by omega)]
  unfold f_X9_isFolder b_X9_isFolder_0
  show (if x < nI 2 then _ else if nI 14 ≤ x then _ else _) = _
  by_cases h1 : x < nI 2 <;> by_cases h2 : nI 14 ≤ x <;> simp [h1, h2, b2i]
theorem x_isNode (h : q_H) (x : Int32) : f_X9_isNode h x = some (h, b2i (inR 0 14 x)) := by
  rw [x_rng x (by omega) (by omega)]
  unfold f_X9_isNode b_X9_isNode_0
  show (if x < nI 0 then _ else if nI 14 ≤ x then _ else _) = _
  by_cases h1 : x < nI 0 <;> by_cases h2 : nI 14 ≤ x <;> simp [h1, h2, b2i]
theorem x_areTwo (h : q_H) (x y : Int32) : f_X9_areTwoCopies h x y = some (h, b2i (two x y)) := by
  unfold f_X9_areTwoCopies b_X9_areTwoCopies_0
  simp only [x_isCopy, bS, b2i_eq0, two]
  by_cases e1 : inR 0 3 x = true
  · by_cases e2 : inR 0 3 y = true
    · by_cases e3 : x = y <;> simp [e1, e2, e3, b2i]
    · simp [e1, e2, b2i]
  · simp [e1, b2i]
def nx (c : Nat) : Nat := if c = 2 then 0 else c + 1
theorem nx_lt {c : Nat} (h : c < 3) : nx c < 3 ∧ nx c ≠ c ∧ nx (nx c) ≠ c ∧ nx (nx c) < 3 ∧ nx c ≠ nx (nx c) := by
  match c, h with
  | 0, _ => decide
  | 1, _ => decide
  | 2, _ => decide
  | m + 3, h => omega
theorem x_next (h : q_H) {c : Nat} (hc : c < 3) : f_X9_nextCopy h (nI c) = some (h, nI (nx c)) := by
  unfold f_X9_nextCopy b_X9_nextCopy_0 nx
  rw [j2]
  simp only [i_eq (show c < 2 ^ 31 by omega) (show 2 < 2 ^ 31 by omega), nI_1]
  by_cases e : c = 2
  · rw [if_pos e, if_pos e]; rfl
  · rw [if_neg e, if_neg e]
section CWs
variable {S : o_S} {n : Nat × Nat × Nat} {w a : Nat} {W : aW}
theorem w_chk (k : kWorld w) {β : Type} {r : Option β} : q_chk 7 (ov S n) w r = r := o_chk k.1
theorem w_R0 (k : kWorld w) : q_gR 7 0 (ov S n) w = some (w + 1) := o_gR k.1 rfl
theorem w_R1 (k : kWorld w) : q_gR 7 1 (ov S n) w = some (w + 2) := o_gR k.1 rfl
theorem w_cp (k : kWorld w) {c : Nat} (hc : c < 3) : q_lR 4 (ov S n) (w + 1) (nI c) = some (w + 3 + 8 * c) := by
  rw [o_lR k.2.1, if_pos (q_in_nI hc (by omega)), nI_clamp (by omega)]
theorem w_ln (k : kWorld w) : q_len (ov S n) (w + 2) = some (nI 9) := o_lenR k.2.2.1 (by omega)
theorem w_wy (k : kWorld w) {i : Nat} (hi : i < 9) : q_lR 5 (ov S n) (w + 2) (nI i) = some (w + 27 + 2 * i) := by
  rw [o_lR k.2.2.1, if_pos (q_in_nI hi (by omega)), nI_clamp (by omega)]
theorem w_way (k : kWorld w) {a b : Nat} (ha : a < 3) (hb : b < 3) : f_X8_way (ov S n) w (nI a) (nI b) = some (ov S n, w + 27 + 2 * (3 * a + b)) := by
  unfold f_X8_way b_X8_way_0
  rw [w_chk k, w_R1 k, bS, j3, pk_mul, nI_add, w_wy k (by omega), bS, show a * 3 + b = 3 * a + b by omega]
theorem cp_chk (k : kCopy a) {β : Type} {r : Option β} : q_chk 0 (ov S n) a r = r := o_chk k.1
theorem cp_R2 (k : kCopy a) : q_gR 0 2 (ov S n) a = some (a + 1) := o_gR k.1 rfl
theorem cp_R3 (k : kCopy a) : q_gR 0 3 (ov S n) a = some (a + 2) := o_gR k.1 rfl
theorem cp_R4 (k : kCopy a) : q_gR 0 4 (ov S n) a = some (a + 4) := o_gR k.1 rfl
theorem cp_R5 (k : kCopy a) : q_gR 0 5 (ov S n) a = some (a + 6) := o_gR k.1 rfl
theorem cp_I0 (k : kCopy a) : q_gI 0 0 (ov S n) a = some (S.1 a 0) := o_gI k.1 rfl
theorem cp_I1 (k : kCopy a) : q_gI 0 1 (ov S n) a = some (S.1 a 1) := o_gI k.1 rfl
theorem cp_I6 (k : kCopy a) : q_gI 0 6 (ov S n) a = some (S.1 a 6) := o_gI k.1 rfl
theorem cp_P1 (k : kCopy a) (v : Int32) : q_p 0 1 (ov S n) a (.int v) = some (ov (o_sf S a 1 v) n) := o_pI k.1 (by show 1 < 7; omega) rfl
theorem cp_P6 (k : kCopy a) (v : Int32) : q_p 0 6 (ov S n) a (.int v) = some (ov (o_sf S a 6 v) n) := o_pI k.1 (by show 6 < 7; omega) rfl
theorem cp_ln (k : kCopy a) : q_len (ov S n) (a + 1) = some (nI 3) := o_lenI k.2.1 (by omega)
theorem cp_H (k : kCopy a) {d : Nat} (hd : d < 3) : q_lI 0 (ov S n) (a + 1) (nI d) = some (S.2.1 (a + 1) d) := by
  rw [o_lI k.2.1, if_pos (q_in_nI hd (by omega)), nI_clamp (by omega)]
theorem cp_HS (k : kCopy a) {d : Nat} (hd : d < 3) (x : Int32) : q_sI 0 id (ov S n) (a + 1) (nI d) x = some (ov (o_sI S (a + 1) (upd (S.2.1 (a + 1)) d (id x))) n) := by
  rw [o_stI k.2.1, if_pos (q_in_nI hd (by omega)), nI_clamp (by omega)]
variable {c t : Nat} {h : Nat → Nat} {l : List Nat} {B : Nat → Nat}
theorem x_hear (k : kCopy a) (H : CP S a c t h l B) {f x : Nat} (hf : f < 3) (hx : x < 2 ^ 31) (ht : t < 2 ^ 31) : ∃ S', f_X0_hear (ov S n) a (nI f) (lN x) = some (ov S' n, ()) ∧ CP S' a c (max t (cT x)) (fset h f (cT x)) l B ∧ S'.1 a 6 = S.1 a 6 ∧ AG (fun b => b = a ∨ b = a + 1) S S' := by
  have hxT := cT_lt hx
  have hA : AG (fun b => b = a ∨ b = a + 1) S (o_sf (o_sI S (a + 1) (upd (S.2.1 (a + 1)) f (nI (cT x)))) a 1 (nI (max t (cT x)))) := (AG_sI _ _ _).tr (AG_sf _ _ _ _) (fun _ q => Or.inr q) (fun _ q => Or.inl q)
  refine ⟨o_sf (o_sI S (a + 1) (upd (S.2.1 (a + 1)) f (nI (cT x)))) a 1 (nI (max t (cT x))), ?_, ⟨⟨?_, ?_⟩, fun d hd => ?_, H.2.2.1.ag hA (by omega) (by omega), H.2.2.2.ag hA (by omega)⟩, ?_, hA⟩
  · unfold f_X0_hear b_X0_hear_0 b_X0_hear_23
    rw [cp_chk k]
    have e1 : (o_sI S (a + 1) (upd (S.2.1 (a + 1)) f (nI (cT x)))).1 a 1 = nI t := H.1.2
    simp (disch := omega) only [i_lt0, if_false, cp_R2 k, cp_ln k, bS, i_le, show ¬ 3 ≤ f by omega, c_time _ hx, cp_HS k hf, idS, cp_I1 k, e1, i_max, cp_P1 k]
  · rw [s_F, if_pos rfl, pk_un (by omega)]; exact H.1.1
  · rw [s_F, if_pos rfl, pk_us]
  · rw [s_F2, s_I, if_pos rfl]
    by_cases e : d = f
    · subst e; rw [pk_us, fset_s]
    · rw [pk_un e, fset_n _ _ e]; exact H.2.1 d hd
  · rw [s_F, if_pos rfl, pk_un (by omega)]; rfl
/-- tree and voids are made anew -/
theorem x_reb (k : kCopy a) (H : CP S a c t h l B) : ∃ S1, f_X7_rebuild (ov S n) (a + 6) (a + 4) (a + 2) (-1) = some (ov S1 n, nI (mVds 1000 l 0 B 0)) ∧ CC (o_sf S1 a 6 (nI (mVds 1000 l 0 B 0))) a c t h l B ∧ AG (fun b => b = a ∨ b = a + 7) S (o_sf S1 a 6 (nI (mVds 1000 l 0 B 0))) := by
  obtain ⟨S1, g1, g2, g3⟩ := t_rebuild (n := n) (t := a + 6) k.2.2.2.2 H.2.2.2 H.2.2.1 H.2.2.1.2.2.1 w_none ⟨by omega, by omega⟩
  have hA := AG_sf S1 a 6 (nI (mVds 1000 l 0 B 0))
  have hA2 : AG (fun b => b = a ∨ b = a + 7) S (o_sf S1 a 6 (nI (mVds 1000 l 0 B 0))) := g3.tr hA (fun _ q => by omega) (fun _ q => by omega)
  refine ⟨S1, g1, ⟨⟨⟨?_, ?_⟩, fun d hd => ?_, H.2.2.1.ag hA2 (by omega) (by omega), H.2.2.2.ag hA2 (by omega)⟩, ?_, g2.ag hA (by omega)⟩, hA2⟩
  · rw [s_F, if_pos rfl, pk_un (by omega), g3.f (by omega)]; exact H.1.1
  · rw [s_F, if_pos rfl, pk_un (by omega), g3.f (by omega)]; exact H.1.2
  · rw [hA2.I (by omega)]; exact H.2.1 d hd
  · rw [s_F, if_pos rfl, pk_us]
def mSt2 (h : Nat → Nat) (c : Nat) : Nat := min (h (nx c)) (h (nx (nx c)))
theorem x_stableTime (k : kCopy a) (H : CP S a c t h l B) (hc : c < 3) (hh : ∀ d, d < 3 → h d < 2 ^ 31) : f_X0_stableTime (ov S n) a = some (ov S n, nI (mSt2 h c)) := by
  obtain ⟨n1, n2, n3, n4, n5⟩ := nx_lt hc
  unfold f_X0_stableTime b_X0_stableTime_0
  rw [cp_chk k]
  simp only [cp_R2 k, cp_I0 k, H.1.1, bS, x_next _ hc, x_next _ n1, cp_H k n1, cp_H k n4, H.2.1 _ n1, H.2.1 _ n4, i_min (hh _ n1) (hh _ n4)]
  rfl
/-- how many, the first ones, have a time at most -/
def mCm (lim : Nat) : List Nat → Nat
  | [] => 0
  | k :: l => if cT k ≤ lim then mCm lim l + 1 else 0
theorem mCm_le (lim : Nat) : ∀ l, mCm lim l ≤ l.length := by
  intro l
  induction l with
  | nil => exact Nat.le_refl _
  | cons k l ih =>
    unfold mCm
    split
    · simp; exact ih
    · omega
theorem x_stmL (k : kCopy a) (H : CP S a c t h l B) {lim : Nat} (hl : lim < 2 ^ 31) : ∀ d i fuel, i + d = l.length → d < fuel → l_X0_stableMoves_7 fuel (ov S n) a (nI lim) (nI i) = some (ov S n, nI (i + mCm lim (l.drop i))) := by
  have hs := H.2.2.1
  have hm := hs.2.2.1
  intro d
  induction d with
  | zero =>
    intro i fuel hi hf
    obtain ⟨f, rfl⟩ : ∃ f, fuel = f + 1 := ⟨fuel - 1, by omega⟩
    show b_X0_stableMoves_7 _ _ _ _ _ = _
    unfold b_X0_stableMoves_7
    rw [List.drop_eq_nil_of_le (by omega)]
    simp (disch := omega) only [cp_R3 k, s_gI hs, bS, i_le, show l.length ≤ i by omega, if_true]
    rfl
  | succ d ih =>
    intro i fuel hi hf
    obtain ⟨f, rfl⟩ : ∃ f, fuel = f + 1 := ⟨fuel - 1, by omega⟩
    have hx : l[i]? = some l[i] := List.getElem?_eq_getElem (by omega)
    have hxb : l[i] < 2 ^ 31 := hs.mem (List.mem_of_getElem? hx)
    have hat : f_X5_at (ov S n) (a + 2) (nI i) = some (ov S n, lN l[i]) := by
      rw [s_at hs (by omega), List.getD_eq_getElem?_getD, hx]; rfl
    have hxT := cT_lt hxb
    show b_X0_stableMoves_7 _ _ _ _ _ = _
    unfold b_X0_stableMoves_7
    rw [List.drop_eq_getElem_cons (by omega)]
    simp (disch := omega) only [cp_R3 k, s_gI hs, bS, i_le, show ¬ l.length ≤ i by omega, if_false, hat, c_time _ hxb, i_lt, nI_1, mCm]
    by_cases e : lim < cT l[i]
    · rw [if_pos e, if_neg (by omega)]; rfl
    · rw [if_neg e, if_pos (by omega), ih (i + 1) f (by omega) (by omega), show i + 1 + mCm lim (l.drop (i + 1)) = i + (mCm lim (l.drop (i + 1)) + 1) by omega]
theorem x_stableMoves (k : kCopy a) (H : CP S a c t h l B) (hc : c < 3) (hh : ∀ d, d < 3 → h d < 2 ^ 31) : f_X0_stableMoves (ov S n) a = some (ov S n, nI (mCm (mSt2 h c) l)) := by
  obtain ⟨n1, n2, n3, n4, n5⟩ := nx_lt hc
  have hm := H.2.2.1.2.2.1
  have := x_stmL (n := n) k H (lim := mSt2 h c) (by have := hh _ n1; unfold mSt2; omega) l.length 0 q_FU (by omega) (q_FU_lt (by omega))
  unfold f_X0_stableMoves b_X0_stableMoves_0
  rw [cp_chk k, x_stableTime k H hc hh, bS]
  rw [Nat.zero_add, List.drop_zero] at this
  exact this
theorem x_drpL (k : kCopy a) {m : Nat} (hm : m ≤ l.length) : ∀ d i fuel (S : o_S) (B' : Nat → Nat), i + d = m → d < fuel → SE S (a + 2) 32 l → TE S (a + 4) B' → ∃ S', l_X0_dropStable_7 fuel (ov S n) a (nI m) (nI i) = some (ov S' n, nI m) ∧ SE S' (a + 2) 32 (l.drop m) ∧ TE S' (a + 4) (mBld 1000 ((l.take m).drop i) i B') ∧ S'.1 a = upd (S.1 a) 6 (q_iushr (S.1 a 6) (nI m)) ∧ AG (fun b => b = a ∨ b = a + 2 ∨ b = a + 3 ∨ b = a + 5) S S' := by
  intro d
  induction d with
  | zero =>
    intro i fuel S B' hi hf hs hb
    obtain ⟨f, rfl⟩ : ∃ f, fuel = f + 1 := ⟨fuel - 1, by omega⟩
    have hl := hs.2.2.1
    obtain ⟨S1, g1, g2, g3⟩ := s_dropFirst (n := n) hs hm
    have hA2 := AG_sf S1 a 6 (q_iushr (S1.1 a 6) (nI m))
    refine ⟨o_sf S1 a 6 (q_iushr (S1.1 a 6) (nI m)), ?_, g2.ag hA2 (by omega) (by omega), ?_, ?_, g3.tr hA2 (fun _ q => by omega) (fun _ q => by omega)⟩
    · show b_X0_dropStable_7 _ _ _ _ _ = _
      unfold b_X0_dropStable_7
      simp (disch := omega) only [i_le, show m ≤ i by omega, if_true, cp_R3 k, bS, g1, cp_I6 k, cp_P6 k]
    · rw [List.drop_eq_nil_of_le (by rw [List.length_take]; omega)]
      exact (hb.ag g3 (by omega)).ag hA2 (by omega)
    · rw [sf_f, g3.f (by omega)]
  | succ d ih =>
    intro i fuel S B' hi hf hs hb
    obtain ⟨f, rfl⟩ : ∃ f, fuel = f + 1 := ⟨fuel - 1, by omega⟩
    have hl := hs.2.2.1
    have hx : l[i]? = some l[i] := List.getElem?_eq_getElem (by omega)
    have hxb : l[i] < 2 ^ 31 := hs.mem (List.mem_of_getElem? hx)
    have hat : f_X5_at (ov S n) (a + 2) (nI i) = some (ov S n, lN l[i]) := by
      rw [s_at hs (by omega), List.getD_eq_getElem?_getD, hx]; rfl
    obtain ⟨S1, k1, k2, k3⟩ := t_doMove (n := n) hb hxb
    obtain ⟨S', g1, g2, g3, g4, g5⟩ := ih (i + 1) f S1 (mDo B' l[i]) (by omega) (by omega) (hs.ag k3 (by omega) (by omega)) k2
    refine ⟨S', ?_, g2, ?_, ?_, k3.tr g5 (fun _ q => by omega) (fun _ q => q)⟩
    · show b_X0_dropStable_7 _ _ _ _ _ = _
      unfold b_X0_dropStable_7
      simp (disch := omega) only [i_le, show ¬ m ≤ i by omega, if_false, cp_R3 k, cp_R4 k, bS, hat, k1, nI_1]
      exact g1
    · have e : (l.take m).drop i = l[i] :: (l.take m).drop (i + 1) := by
        rw [List.drop_eq_getElem_cons (by rw [List.length_take]; omega)]
        congr 1
        rw [List.getElem_take]
      rw [e]
      show TE S' (a + 4) (mBld 1000 _ (i + 1) (if i = 1000 then B' else mDo B' l[i]))
      rw [if_neg (by omega)]
      exact g3
    · rw [g4, k3.f (by omega)]
theorem x_dropStable (k : kCopy a) (H : CC S a c t h l B) (hc : c < 3) (hh : ∀ d, d < 3 → h d < 2 ^ 31) (hl31 : l.length < 32) : ∃ S', f_X0_dropStable (ov S n) a = some (ov S' n, nI (mCm (mSt2 h c) l)) ∧ CC S' a c t h (l.drop (mCm (mSt2 h c) l)) (mBld 1000 (l.take (mCm (mSt2 h c) l)) 0 B) ∧ AG (fun b => a ≤ b ∧ b < a + 8) S S' := by
  have hm := mCm_le (mSt2 h c) l
  have hl := H.1.2.2.1.2.2.1
  obtain ⟨S', g1, g2, g3, g4, g5⟩ := x_drpL (n := n) k hm (mCm (mSt2 h c) l) 0 q_FU S B (by omega) (q_FU_lt (by omega)) H.1.2.2.1 H.1.2.2.2
  have hv := vds_lt 1000 l B hl
  refine ⟨S', ?_, ⟨⟨⟨?_, ?_⟩, fun d hd => ?_, g2, ?_⟩, ?_, ?_⟩, g5.mono (fun b q => by omega)⟩
  · unfold f_X0_dropStable b_X0_dropStable_0
    rw [cp_chk k, x_stableMoves k H.1 hc hh, bS]
    exact g1
  · rw [g4, pk_un (by omega)]; exact H.1.1.1
  · rw [g4, pk_un (by omega)]; exact H.1.1.2
  · rw [g5.I (by omega)]; exact H.1.2.1 d hd
  · rw [List.drop_zero] at g3; exact g3
  · rw [g4, pk_us, H.2.1, i_ushr hv (by omega), vds_cut B hm (by omega)]
  · rw [bld_cut _ _ (by omega)]; exact H.2.2.ag g5 (by omega)
end CWs
