/-! more of Series; Tree: copies, moves, rebuilding -/
theorem o_cpL {S : o_S} {n : Nat × Nat × Nat} {a0 a n0 n1 sp dp c : Nat} (h0 : kL n0 a0) (h1 : kL n1 a) (hs : sp + c ≤ n0) (hd : dp + c ≤ n1) (hn0 : n0 < 2 ^ 31) (hn1 : n1 < 2 ^ 31) : q_cpL (ov S n) a0 (nI sp) a (nI dp) (nI c) = some (ov (o_sL S a (va_cpy (S.2.2 a0) (S.2.2 a) sp dp c)) n) := by
  unfold q_cpL
  rw [ov_at, ov_at, h0, h1]
  have e1 := nI_clamp (n := sp) (by omega)
  have e2 := nI_clamp (n := dp) (by omega)
  have e3 := nI_clamp (n := c) (by omega)
  have p1 := nI_pos (n := sp) (by omega)
  have p2 := nI_pos (n := dp) (by omega)
  have p3 := nI_pos (n := c) (by omega)
  simp only [o_L, e1, e2, e3, p1, p2, p3, hs, hd, not_false_eq_true, and_self, if_true]
  refine congrArg some (o_put ?_ (fun b hb => ⟨rfl, rfl, if_neg hb⟩))
  rw [h1, sL_L]
  rfl
theorem cpy_0 {α : Type} {f g : Nat → α} {c j : Nat} (h : j < c) : va_cpy f g 0 0 c j = f j := by
  rw [pk_cpy_in (by omega) (by omega)]
  congr 1
  omega
def mHm (k : Nat) : Bool := decide (cF k ≠ 0)
theorem c_hasM (h : q_H) {k : Nat} (hk : k < 2 ^ 31) : f_X1_hasMove h (lN k) = some (h, b2i (mHm k)) := c_hasMove h hk
section SR2
variable {S : o_S} {n : Nat × Nat × Nat} {a m : Nat} {l : List Nat}
theorem s_cntL (h : SE S a m l) {x : Int64} {P : Nat → Bool} (hP : ∀ k ∈ l, (lg_cmp (lN k) x ≤ 0) = (P k = false)) {c : Nat} (hc : c < 2 ^ 31) : ∀ (d i fuel r : Nat), min c l.length = i + d → d < fuel → r + d < 2 ^ 31 → l_X5_countLater_6 fuel (ov S n) a x (nI c) (nI r) (nI i) = some (ov S n, nI (r + ((l.take c).drop i).countP (fun k => P k && mHm k))) := by
  have hm := h.2.1
  have hl := h.2.2.1
  intro d
  induction d with
  | zero =>
    intro i fuel r hi hf hr
    obtain ⟨f, rfl⟩ : ∃ f, fuel = f + 1 := ⟨fuel - 1, by omega⟩
    have e : (l.take c).drop i = [] := by
      apply List.drop_eq_nil_of_le
      rw [List.length_take]
      omega
    rw [e]
    show b_X5_countLater_6 _ _ _ _ _ _ _ = _
    unfold b_X5_countLater_6
    simp only [s_gI h, Option.bind_some, i_le hc (show i < 2 ^ 31 by omega), i_le (show l.length < 2 ^ 31 by omega) (show i < 2 ^ 31 by omega)]
    by_cases e1 : c ≤ i
    · simp [e1]
    · simp [e1, show l.length ≤ i by omega]
  | succ d ih =>
    intro i fuel r hi hf hr
    obtain ⟨f, rfl⟩ : ∃ f, fuel = f + 1 := ⟨fuel - 1, by omega⟩
    have hx : l[i]? = some l[i] := List.getElem?_eq_getElem (by omega)
    have hxb : l[i] < 2 ^ 31 := h.mem (List.mem_of_getElem? hx)
    have e : (l.take c).drop i = l[i] :: (l.take c).drop (i + 1) := by
      rw [List.drop_eq_getElem_cons (by rw [List.length_take]; omega)]
      congr 1
      rw [List.getElem_take]
    have hp := hP l[i] (List.mem_of_getElem? hx)
    rw [e, List.countP_cons]
    show b_X5_countLater_6 _ _ _ _ _ _ _ = _
    have ha : f_X5_at (ov S n) a (nI i) = some (ov S n, lN l[i]) := by rw [s_at h (by omega), List.getD_eq_getElem?_getD, hx, Option.getD_some]
    unfold b_X5_countLater_6 b_X5_countLater_47
    simp only [s_gI h, Option.bind_some, i_le hc (show i < 2 ^ 31 by omega), i_le (show l.length < 2 ^ 31 by omega) (show i < 2 ^ 31 by omega), show ¬ c ≤ i by omega, show ¬ l.length ≤ i by omega, if_false, ha, hp, c_hasM _ hxb, b2i_eq0, nI_1]
    by_cases e1 : P l[i] = true
    · by_cases e2 : mHm l[i] = true
      · simp only [e1, e2, Bool.and_self, if_true, if_false, Bool.true_eq_false]
        rw [ih (i + 1) f (r + 1) (by omega) (by omega) (by omega)]
        congr 3
        omega
      · simp only [e1, Bool.not_eq_true _ |>.mp e2, Bool.and_false, if_true, if_false, Bool.true_eq_false, Bool.false_eq_true]
        rw [ih (i + 1) f r (by omega) (by omega) (by omega)]
        rfl
    · simp only [Bool.not_eq_true _ |>.mp e1, Bool.false_and, if_true, if_false, Bool.false_eq_true]
      rw [ih (i + 1) f r (by omega) (by omega) (by omega)]
      rfl
theorem s_countLater (h : SE S a m l) {x : Int64} {P : Nat → Bool} (hP : ∀ k ∈ l, (lg_cmp (lN k) x ≤ 0) = (P k = false)) {c : Nat} (hc : c < 2 ^ 31) : f_X5_countLater (ov S n) a x (nI c) = some (ov S n, nI ((l.take c).countP (fun k => P k && mHm k))) := by
  have hm := h.2.1
  have hl := h.2.2.1
  unfold f_X5_countLater b_X5_countLater_0
  rw [s_chk h]
  have := s_cntL (n := n) h hP hc (min c l.length) 0 q_FU 0 (by omega) (q_FU_lt (by omega)) (by omega)
  rw [List.drop_zero, Nat.zero_add] at this
  exact this
theorem s_countLaterK (h : SE S a m l) {k c : Nat} (hk : k < 2 ^ 31) (hc : c < 2 ^ 31) : f_X5_countLater (ov S n) a (lN k) (nI c) = some (ov S n, nI ((l.take c).countP (fun x => decide (k < x) && mHm x))) :=
  s_countLater h (fun x hx => by rw [l_cmp_le (h.mem hx) hk]; simp) hc
theorem s_countMoves (h : SE S a m l) : f_X5_countMoves (ov S n) a = some (ov S n, nI (l.countP mHm)) := by
  have hm := h.2.1
  have hl := h.2.2.1
  unfold f_X5_countMoves b_X5_countMoves_0
  rw [s_chk h, s_gI h, Option.bind_some, s_countLater (P := fun _ => true) h (fun x hx => ?_) (by omega), Option.bind_some, List.take_length]
  · simp
  · have hb := h.mem hx
    unfold lg_cmp
    have h2 : (-1 : Int64) < lN x := by
      rw [Int64.lt_iff_toInt_lt, lN_toInt hb]
      have : (-1 : Int64).toInt = -1 := by decide
      omega
    rw [if_pos h2]
    decide
/-- insert all moves of a list -/
def mInsA (ms l : List Nat) : List Nat := ms.foldl (fun l k => mIns k l) l
def mMv (l : List Nat) : List Nat := l.filter (fun k => decide (cF k ≠ 0))
theorem s_insAL {b m' : Nat} {w : List Nat} (hab : a ≠ b ∧ a ≠ b + 1 ∧ a + 1 ≠ b) {c : Nat} (hc : c ≤ w.length) : ∀ (d i fuel : Nat) (S : o_S) (l : List Nat), c = i + d → d < fuel → SE S a m l → SE S b m' w → l.length + d ≤ m →
    ∃ S', l_X5_insertMovesOf_2 fuel (ov S n) a b (nI c) (nI i) = some (ov S' n, ()) ∧ SE S' a m (mInsA (mMv ((w.take c).drop i)) l) ∧ AG (fun x => x = a ∨ x = a + 1) S S' := by
  intro d
  induction d with
  | zero =>
    intro i fuel S l hi hf h hw hlm
    obtain ⟨f, rfl⟩ : ∃ f, fuel = f + 1 := ⟨fuel - 1, by omega⟩
    have hm := hw.2.1
    have hwl := hw.2.2.1
    refine ⟨S, ?_, ?_, AG.rf⟩
    · show b_X5_insertMovesOf_2 _ _ _ _ _ _ = _
      unfold b_X5_insertMovesOf_2
      simp only [i_le (show c < 2 ^ 31 by omega) (show i < 2 ^ 31 by omega), show c ≤ i by omega, if_true]
    · rw [show (w.take c).drop i = [] from List.drop_eq_nil_of_le (by rw [List.length_take]; omega)]
      exact h
  | succ d ih =>
    intro i fuel S l hi hf h hw hlm
    obtain ⟨f, rfl⟩ : ∃ f, fuel = f + 1 := ⟨fuel - 1, by omega⟩
    have hm := hw.2.1
    have hwl := hw.2.2.1
    have hx : w[i]? = some w[i] := List.getElem?_eq_getElem (by omega)
    have hxb : w[i] < 2 ^ 31 := hw.mem (List.mem_of_getElem? hx)
    have hat : f_X5_at (ov S n) b (nI i) = some (ov S n, lN w[i]) := by
      rw [s_at hw (by omega), List.getD_eq_getElem?_getD, hx]; rfl
    have e : (w.take c).drop i = w[i] :: (w.take c).drop (i + 1) := by
      rw [List.drop_eq_getElem_cons (by rw [List.length_take]; omega)]
      congr 1
      rw [List.getElem_take]
    rw [e]
    by_cases e1 : cF w[i] = 0
    · obtain ⟨S', g1, g2, g3⟩ := ih (i + 1) f S l (by omega) (by omega) h hw (by omega)
      refine ⟨S', ?_, ?_, g3⟩
      · show b_X5_insertMovesOf_2 _ _ _ _ _ _ = _
        unfold b_X5_insertMovesOf_2 b_X5_insertMovesOf_28
        simp only [i_le (show c < 2 ^ 31 by omega) (show i < 2 ^ 31 by omega), show ¬ c ≤ i by omega, if_false, hat, Option.bind_some, c_hasMove _ hxb, b2i_eq0, e1, ne_eq, not_true, decide_false, if_true, nI_1]
        exact g1
      · have : mMv (w[i] :: (w.take c).drop (i + 1)) = mMv ((w.take c).drop (i + 1)) := by simp [mMv, e1]
        rw [this]
        exact g2
    · obtain ⟨S1, k1, k2, k3⟩ := s_insert (n := n) h (by omega) hxb
      have hw1 : SE S1 b m' w := hw.ag k3 (fun q => by omega) (fun q => by omega)
      obtain ⟨S', g1, g2, g3⟩ := ih (i + 1) f S1 (mIns w[i] l) (by omega) (by omega) k2 hw1 (by rw [mIns_len]; omega)
      refine ⟨S', ?_, ?_, k3.tr g3 (fun _ q => q) (fun _ q => q)⟩
      · show b_X5_insertMovesOf_2 _ _ _ _ _ _ = _
        unfold b_X5_insertMovesOf_2 b_X5_insertMovesOf_28
        simp only [i_le (show c < 2 ^ 31 by omega) (show i < 2 ^ 31 by omega), show ¬ c ≤ i by omega, if_false, hat, Option.bind_some, c_hasMove _ hxb, b2i_eq0, e1, ne_eq, not_false_eq_true, decide_true, Bool.true_eq_false, k1, nI_1]
        exact g1
      · have : mMv (w[i] :: (w.take c).drop (i + 1)) = w[i] :: mMv ((w.take c).drop (i + 1)) := by simp [mMv, e1]
        rw [this]
        exact g2
theorem s_insertMovesOf {b m' : Nat} {w : List Nat} (h : SE S a m l) (hw : SE S b m' w) (hab : a ≠ b ∧ a ≠ b + 1 ∧ a + 1 ≠ b) {c : Nat} (hc : c ≤ w.length) (hlm : l.length + c ≤ m) : ∃ S', f_X5_insertMovesOf (ov S n) a b (nI c) = some (ov S' n, ()) ∧ SE S' a m (mInsA (mMv (w.take c)) l) ∧ AG (fun x => x = a ∨ x = a + 1) S S' := by
  have hm := h.2.1
  obtain ⟨S', g1, g2, g3⟩ := s_insAL (n := n) (a := a) (m := m) hab hc c 0 q_FU S l (by omega) (q_FU_lt (by omega)) h hw hlm
  rw [List.drop_zero] at g2
  refine ⟨S', ?_, g2, g3⟩
  unfold f_X5_insertMovesOf b_X5_insertMovesOf_0
  rw [s_chk h]
  exact g1
theorem s_copyFrom {b m' : Nat} {w : List Nat} (hk : kSer m a) (hm : m < 1000) (hw : SE S b m' w) (hab : a ≠ b) (hlm : w.length ≤ m) : ∃ S', f_X5_copyFrom (ov S n) a b = some (ov S' n, ()) ∧ SE S' a m w ∧ AG (fun x => x = a ∨ x = a + 1) S S' := by
  have hm' := hw.2.1
  have hwl := hw.2.2.1
  have hmin : q_min (nI w.length) (nI m) = nI w.length := by
    unfold q_min
    simp only [i_lt (show m < 2 ^ 31 by omega) (show w.length < 2 ^ 31 by omega), show ¬ m < w.length by omega, if_false]
  have hf1 : (o_sf S a 1 (nI w.length)).1 a 1 = nI w.length := by rw [sf_f, pk_us]
  have hcp : q_cpL (ov (o_sf S a 1 (nI w.length)) n) (b + 1) 0 (a + 1) 0 (nI w.length) = some (ov (o_sL (o_sf S a 1 (nI w.length)) (a + 1) (va_cpy ((o_sf S a 1 (nI w.length)).2.2 (b + 1)) ((o_sf S a 1 (nI w.length)).2.2 (a + 1)) 0 0 w.length)) n) :=
    o_cpL (sp := 0) (dp := 0) hw.1.2 hk.2 (by omega) (by omega) (by omega) (by omega)
  refine ⟨(o_sL (o_sf S a 1 (nI w.length)) (a + 1) (va_cpy ((o_sf S a 1 (nI w.length)).2.2 (b + 1)) ((o_sf S a 1 (nI w.length)).2.2 (a + 1)) 0 0 w.length)), ?_, ⟨hk, hm, hlm, ?_, fun j x hx => ?_⟩, (AG_sf S a 1 (nI w.length)).tr (AG_sL _ _ _) (fun _ q => Or.inl q) (fun _ q => Or.inr q)⟩
  · unfold f_X5_copyFrom b_X5_copyFrom_0
    rw [o_chk hk.1]
    simp only [s_gI hw, s_gR' hk, o_lenL hk.2, Option.bind_some, hmin, s_pf hk, s_gR' hw.1, s_gI' hk, hf1, hcp]
  · exact hf1
  · have hj : j < w.length := (List.getElem?_eq_some_iff.mp hx).1
    rw [sL_L, cpy_0 hj]
    exact hw.2.2.2.2 j x hx
theorem s_dropFirst (h : SE S a m l) {c : Nat} (hc : c ≤ l.length) : ∃ S', f_X5_dropFirst (ov S n) a (nI c) = some (ov S' n, ()) ∧ SE S' a m (l.drop c) ∧ AG (fun x => x = a ∨ x = a + 1) S S' := by
  have hm := h.2.1
  have hl := h.2.2.1
  by_cases e : c = 0
  · subst e
    refine ⟨S, ?_, by rw [List.drop_zero]; exact h, AG.rf⟩
    unfold f_X5_dropFirst b_X5_dropFirst_0
    rw [s_chk h, if_pos (show nI 0 ≤ 0 by decide)]
  · have hf1 : (o_sf S a 1 (nI (l.length - c))).1 a 1 = nI (l.length - c) := by rw [sf_f, pk_us]
    have hcp : q_cpL (ov (o_sf S a 1 (nI (l.length - c))) n) (a + 1) (nI c) (a + 1) 0 (nI (l.length - c)) = some (ov (o_sL (o_sf S a 1 (nI (l.length - c))) (a + 1) (va_cpy ((o_sf S a 1 (nI (l.length - c))).2.2 (a + 1)) ((o_sf S a 1 (nI (l.length - c))).2.2 (a + 1)) c 0 (l.length - c))) n) :=
      o_cpL (dp := 0) h.1.2 h.1.2 (by omega) (by omega) (by omega) (by omega)
    refine ⟨(o_sL (o_sf S a 1 (nI (l.length - c))) (a + 1) (va_cpy ((o_sf S a 1 (nI (l.length - c))).2.2 (a + 1)) ((o_sf S a 1 (nI (l.length - c))).2.2 (a + 1)) c 0 (l.length - c))), ?_, ⟨h.1, hm, by rw [List.length_drop]; omega, ?_, fun j x hx => ?_⟩, (AG_sf S a 1 (nI (l.length - c))).tr (AG_sL _ _ _) (fun _ q => Or.inl q) (fun _ q => Or.inr q)⟩
    · unfold f_X5_dropFirst b_X5_dropFirst_0
      rw [s_chk h, if_neg (nI_nle (by omega) (by omega))]
      simp only [s_gI h, Option.bind_some, i_lt (show l.length < 2 ^ 31 by omega) (show c < 2 ^ 31 by omega), show ¬ l.length < c by omega, if_false, pk_sub hc, s_pf h.1, s_gR' h.1, s_gI' h.1, hf1, hcp]
    · show (o_sf S a 1 (nI (l.length - c))).1 a 1 = _
      rw [hf1, List.length_drop]
    · rw [List.getElem?_drop] at hx
      have hj : c + j < l.length := (List.getElem?_eq_some_iff.mp hx).1
      rw [sL_L, pk_cpy_in (by omega) (by omega), Nat.sub_zero]
      exact h.2.2.2.2 (c + j) x hx
end SR2
/-! Tree -/
def mSet (E : Nat → Nat) (f k : Nat) : Nat → Nat := fun j => if j = f then k else E j
def mOk (E : Nat → Nat) (k : Nat) : Bool := mGo E (cF k) 14 (cP k)
def mDo (E : Nat → Nat) (k : Nat) : Nat → Nat := if mOk E k then mSet E (cF k) k else E
section TR3
variable {S : o_S} {n : Nat × Nat × Nat} {t : Nat} {E : Nat → Nat}
theorem t_copyFrom (hk : kTree t) {t' : Nat} {D : Nat → Nat} (h' : TE S t' D) : ∃ S', f_X7_copyFrom (ov S n) t t' = some (ov S' n, ()) ∧ TE S' t D ∧ AG (fun x => x = t + 1) S S' := by
  have hcp : q_cpL (ov S n) (t' + 1) 0 (t + 1) 0 (nI 16) = some (ov (o_sL S (t + 1) (va_cpy (S.2.2 (t' + 1)) (S.2.2 (t + 1)) 0 0 16)) n) := o_cpL (sp := 0) (dp := 0) h'.1.2 hk.2 (by omega) (by omega) (by omega) (by omega)
  refine ⟨(o_sL S (t + 1) (va_cpy (S.2.2 (t' + 1)) (S.2.2 (t + 1)) 0 0 16)), ?_, ⟨hk, fun j hj => ?_⟩, AG_sL S (t + 1) _⟩
  · unfold f_X7_copyFrom b_X7_copyFrom_0
    rw [o_chk hk.1]
    simp only [t_get h', Option.bind_some, o_gR (S := S) (n := n) hk.1 (k := 0) (v := t + 1) rfl, o_lenL hk.2, hcp]
  · rw [sL_L, cpy_0 hj]
    exact h'.2 j hj
theorem t_doL (h : TE S t E) {k : Nat} (hk : k < 2 ^ 31) : ∀ d fuel i a, i + d = 14 → d < fuel → a < 16 → ∃ S', l_X7_doMove_14 fuel (ov S n) t (lN k) (nI (cF k)) (nI a) (nI i) = some (ov S' n, b2i (mGo E (cF k) d a)) ∧ TE S' t (if mGo E (cF k) d a then mSet E (cF k) k else E) ∧ AG (fun x => x = t + 1) S S' := by
  have hcf := cF_lt k
  intro d
  induction d with
  | zero =>
    intro fuel i a hi hf ha
    obtain ⟨f, rfl⟩ : ∃ f, fuel = f + 1 := ⟨fuel - 1, by omega⟩
    refine ⟨S, ?_, by simp [mGo]; exact h, AG.rf⟩
    show b_X7_doMove_14 _ _ _ _ _ _ _ = _
    unfold b_X7_doMove_14
    simp only [show (14 : Int32) = nI 14 from rfl, i_le (show 14 < 2 ^ 31 by omega) (show i < 2 ^ 31 by omega), show 14 ≤ i by omega, if_true, mGo]
    rfl
  | succ d ih =>
    intro fuel i a hi hf ha
    obtain ⟨f, rfl⟩ : ∃ f, fuel = f + 1 := ⟨fuel - 1, by omega⟩
    have hb := (h.2 a ha).2
    have hun : ∀ R : Option (q_H × Int32), l_X7_doMove_14 (f + 1) (ov S n) t (lN k) (nI (cF k)) (nI a) (nI i) = R ↔ (if a = cF k then some (ov S n, 0) else if mTh E a = false then some (ov S n, 0) else if 2 ≤ a then l_X7_doMove_14 f (ov S n) t (lN k) (nI (cF k)) (nI (cP (E a))) (nI (i + 1)) else some (ov (o_sL S (t + 1) (vp_updL (S.2.2 (t + 1)) (cF k) (lN k))) n, 1)) = R := by
      intro R
      have hst : q_sL (ov S n) (t + 1) (nI (cF k)) (lN k) = some (ov (o_sL S (t + 1) (vp_updL (S.2.2 (t + 1)) (cF k) (lN k))) n) := by
        rw [o_stL h.1.2, if_pos (q_in_nI hcf (by omega)), nI_clamp (by omega)]
      show b_X7_doMove_14 _ _ _ _ _ _ _ = _ ↔ _
      unfold b_X7_doMove_14
      simp only [show (14 : Int32) = nI 14 from rfl, i_le (show 14 < 2 ^ 31 by omega) (show i < 2 ^ 31 by omega), show ¬ 14 ≤ i by omega, if_false, i_eq (show a < 2 ^ 31 by omega) (show cF k < 2 ^ 31 by omega), t_isThere h ha, Option.bind_some, b2i_eq0, show (2 : Int32) = nI 2 from rfl, i_le (show 2 < 2 ^ 31 by omega) (show a < 2 ^ 31 by omega), t_get h, t_ld h ha, c_parent _ hb, nI_1, hst]
    by_cases e1 : a = cF k
    · exact ⟨S, (hun _).mpr (by simp [e1, mGo, b2i]), by simp [mGo, e1]; exact h, AG.rf⟩
    · by_cases e2 : mTh E a = false
      · exact ⟨S, (hun _).mpr (by simp [e1, e2, mGo, b2i]), by simp [mGo, e1, e2]; exact h, AG.rf⟩
      · by_cases e3 : a < 2
        · refine ⟨(o_sL S (t + 1) (vp_updL (S.2.2 (t + 1)) (cF k) (lN k))), (hun _).mpr (by simp only [e1, e2, if_false, show ¬ 2 ≤ a by omega, mGo, e3, if_true]; rfl), ?_, AG_sL S (t + 1) _⟩
          simp only [mGo, e1, e2, e3, if_true, if_false]
          refine ⟨h.1, fun j hj => ?_⟩
          rw [sL_L]
          unfold mSet
          by_cases ej : j = cF k
          · subst ej
            rw [pk_uLs]
            simp [hk]
          · rw [pk_uLn ej]
            show S.2.2 (t + 1) j = lN (if j = cF k then k else E j) ∧ (if j = cF k then k else E j) < 2 ^ 31
            rw [if_neg ej]
            exact h.2 j hj
        · obtain ⟨S', g1, g2, g3⟩ := ih f (i + 1) (cP (E a)) (by omega) (by omega) (cP_lt _)
          refine ⟨S', (hun _).mpr ?_, ?_, g3⟩
          · simp only [e1, e2, if_false, show 2 ≤ a by omega, if_true, mGo, e3]
            exact g1
          · simp only [mGo, e1, e2, e3, if_false]
            exact g2
theorem t_doMove (h : TE S t E) {k : Nat} (hk : k < 2 ^ 31) : ∃ S', f_X7_doMove (ov S n) t (lN k) = some (ov S' n, b2i (mOk E k)) ∧ TE S' t (mDo E k) ∧ AG (fun x => x = t + 1) S S' := by
  obtain ⟨S', g1, g2, g3⟩ := t_doL (n := n) h hk 14 q_FU 0 (cP k) (by omega) (q_FU_lt (by omega)) (cP_lt k)
  refine ⟨S', ?_, g2, g3⟩
  unfold f_X7_doMove b_X7_doMove_0
  rw [t_chk h, c_folder _ hk, Option.bind_some, c_parent _ hk, Option.bind_some]
  exact g1
/-- a tree out of a base and moves but one; which of them are void -/
def mBld (w : Nat) : List Nat → Nat → (Nat → Nat) → (Nat → Nat)
  | [], _, E => E
  | k :: l, i, E => mBld w l (i + 1) (if i = w then E else mDo E k)
def mVds (w : Nat) : List Nat → Nat → (Nat → Nat) → Nat → Nat
  | [], _, _, v => v
  | k :: l, i, E, v => mVds w l (i + 1) (if i = w then E else mDo E k) (if i = w then v else if mOk E k then v else v ||| 2 ^ i)
theorem t_rebL {s m : Nat} {l : List Nat} (hl32 : l.length ≤ 32) {wi : Int32} {w : Nat} (hw : ∀ i, i < 1000 → (nI i = wi) = (i = w)) (hd : t + 1 ≠ s ∧ t + 1 ≠ s + 1) : ∀ (d i fuel v : Nat) (S : o_S) (E : Nat → Nat), l.length = i + d → d < fuel → v < 2 ^ 32 → TE S t E → SE S s m l →
    ∃ S', l_X7_rebuild_11 fuel (ov S n) t s wi (nI v) (nI i) = some (ov S' n, nI (mVds w (l.drop i) i E v)) ∧ TE S' t (mBld w (l.drop i) i E) ∧ AG (fun x => x = t + 1) S S' := by
  intro d
  induction d with
  | zero =>
    intro i fuel v S E hi hf hv h hs
    obtain ⟨f, rfl⟩ : ∃ f, fuel = f + 1 := ⟨fuel - 1, by omega⟩
    rw [show l.drop i = [] from List.drop_eq_nil_of_le (by omega)]
    refine ⟨S, ?_, h, AG.rf⟩
    show b_X7_rebuild_11 _ _ _ _ _ _ _ = _
    unfold b_X7_rebuild_11
    simp only [s_gI hs, Option.bind_some, i_le (show l.length < 2 ^ 31 by omega) (show i < 2 ^ 31 by omega), show l.length ≤ i by omega, if_true]
    rfl
  | succ d ih =>
    intro i fuel v S E hi hf hv h hs
    obtain ⟨f, rfl⟩ : ∃ f, fuel = f + 1 := ⟨fuel - 1, by omega⟩
    have hx : l[i]? = some l[i] := List.getElem?_eq_getElem (by omega)
    have hxb : l[i] < 2 ^ 31 := hs.mem (List.mem_of_getElem? hx)
    have hat : f_X5_at (ov S n) s (nI i) = some (ov S n, lN l[i]) := by
      rw [s_at hs (by omega), List.getD_eq_getElem?_getD, hx]; rfl
    have e : l.drop i = l[i] :: l.drop (i + 1) := List.drop_eq_getElem_cons (by omega)
    rw [e]
    by_cases ew : i = w
    · subst ew
      obtain ⟨S', g1, g2, g3⟩ := ih (i + 1) f v S E (by omega) (by omega) hv h hs
      refine ⟨S', ?_, ?_, g3⟩
      · show b_X7_rebuild_11 _ _ _ _ _ _ _ = _
        unfold b_X7_rebuild_11 b_X7_rebuild_48
        simp only [s_gI hs, Option.bind_some, i_le (show l.length < 2 ^ 31 by omega) (show i < 2 ^ 31 by omega), show ¬ l.length ≤ i by omega, if_false, hw i (by omega), if_true, nI_1, mVds]
        exact g1
      · simp only [mBld, if_true]
        exact g2
    · obtain ⟨S1, k1, k2, k3⟩ := t_doMove (n := n) h hxb
      have hs1 : SE S1 s m l := hs.ag k3 (fun q => by omega) (fun q => by omega)
      have hb2 : v ||| 2 ^ i < 2 ^ 32 := Nat.or_lt_two_pow hv (Nat.pow_lt_pow_right (by omega) (by omega))
      obtain ⟨S', g1, g2, g3⟩ := ih (i + 1) f (if mOk E l[i] then v else v ||| 2 ^ i) S1 (mDo E l[i]) (by omega) (by omega) (by split <;> assumption) k2 hs1
      refine ⟨S', ?_, ?_, k3.tr g3 (fun _ q => q) (fun _ q => q)⟩
      · show b_X7_rebuild_11 _ _ _ _ _ _ _ = _
        unfold b_X7_rebuild_11 b_X7_rebuild_48
        simp only [s_gI hs, Option.bind_some, i_le (show l.length < 2 ^ 31 by omega) (show i < 2 ^ 31 by omega), show ¬ l.length ≤ i by omega, if_false, hw i (by omega), ew, hat, k1, b2i_eq0, nI_1, i_bit (show i < 32 by omega), i_or v (2 ^ i) hv (Nat.pow_lt_pow_right (by omega) (by omega)), mVds]
        by_cases eo : mOk E l[i] = true
        · simp only [eo, if_true, Bool.true_eq_false, if_false] at g1 ⊢
          exact g1
        · simp only [Bool.not_eq_true _ |>.mp eo, if_true, Bool.false_eq_true, if_false] at g1 ⊢
          exact g1
      · simp only [mBld, ew, if_false]
        exact g2
theorem t_rebuild {tb s m : Nat} {B : Nat → Nat} {l : List Nat} (hk : kTree t) (hB : TE S tb B) (hs : SE S s m l) (hl32 : l.length ≤ 32) {wi : Int32} {w : Nat} (hw : ∀ i, i < 1000 → (nI i = wi) = (i = w)) (hd : t + 1 ≠ s ∧ t + 1 ≠ s + 1) : ∃ S', f_X7_rebuild (ov S n) t tb s wi = some (ov S' n, nI (mVds w l 0 B 0)) ∧ TE S' t (mBld w l 0 B) ∧ AG (fun x => x = t + 1) S S' := by
  obtain ⟨S1, k1, k2, k3⟩ := t_copyFrom (n := n) hk hB
  have hs1 : SE S1 s m l := hs.ag k3 (fun q => by omega) (fun q => by omega)
  obtain ⟨S', g1, g2, g3⟩ := t_rebL (n := n) hl32 hw hd l.length 0 q_FU 0 S1 B (by omega) (q_FU_lt (by omega)) (by omega) k2 hs1
  rw [List.drop_zero] at g1 g2
  refine ⟨S', ?_, g2, k3.tr g3 (fun _ q => q) (fun _ q => q)⟩
  unfold f_X7_rebuild b_X7_rebuild_0
  rw [o_chk hk.1, k1, Option.bind_some]
  exact g1
theorem w_none : ∀ i, i < 1000 → (nI i = (-1 : Int32)) = (i = 1000) := by
  intro i hi
  apply propext
  refine ⟨fun e => ?_, fun e => by omega⟩
  have := nI_toInt (n := i) (by omega)
  rw [e] at this
  have h1 : (-1 : Int32).toInt = -1 := by decide
  omega
theorem w_some {j : Nat} (hj : j < 1000) : ∀ i, i < 1000 → (nI i = nI j) = (i = j) := fun i hi => i_eq (by omega) (by omega)
end TR3
