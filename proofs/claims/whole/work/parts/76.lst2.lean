/-! LISTS 2 -/
def lL (F : Nat → Nat) (g : Nat → List Int64) : Nat → Nat → List Int64
  | 0, _ => []
  | m + 1, v => [Int32.toInt64 (nI (F v))] ++ g (F v) ++ lL F g m (v - 2 ^ F v)
def lB (E : Nat → Nat) (how : Nat) : Nat → Nat → List Int64
  | 0, _ => []
  | r + 1, p => lL (aF E how) (lB E how r) (cbit 20 (mCh E p)) (mCh E p)
def enc (b : Nat) : Int32 := if b = 0 then -1 else nI b
section LS2
variable {S : o_S} {n : Nat × Nat × Nat} {t : Nat} {E : Nat → Nat}
theorem aR3 (k b : Nat) : aR E 3 k b = decide (cbit 20 (mAb E b) < cbit 20 (mAb E k)) := by
  unfold aR
  rw [if_neg (show ¬ (3 : Nat) = 1 by omega), if_neg (show ¬ (3 : Nat) = 2 by omega), if_pos rfl]
theorem how_c {how : Nat} (h : how < 4) : how = 0 ∨ how = 1 ∨ how = 2 ∨ how = 3 := by omega
theorem cb_lt (v : Nat) : cbit 20 v ≤ 20 := by rw [cbit_c0]; exact cn_le _ 0 20
theorem x_stands (h : TE S t E) {k b how : Nat} (hk : k < 14) (hb : b < 14) (hh : how < 4) : f_X9_standsAhead (ov S n) t (nI k) (nI b) (nI how) = some (ov S n, b2i (aR E how k b)) := by
  have hbk := (h.2 k (by omega)).2
  have hbb := (h.2 b (by omega)).2
  have n1 := cN_lt (E k)
  have n2 := cN_lt (E b)
  have w1 := aw_lt E hk
  have w2 := aw_lt E hb
  have c1 := cb_lt (mAb E k)
  have c2 := cb_lt (mAb E b)
  unfold f_X9_standsAhead b_X9_standsAhead_0
  simp only [t_get h, bS, t_ld h (show k < 16 by omega), t_ld h (show b < 16 by omega), c_name _ hbk, c_name _ hbb, l_cmp_ge hbk hbb, l_cmp_le hbk hbb, t_allWithin h (show k < 16 by omega), t_allWithin h (show b < 16 by omega), x_bitCount (ov S n) (show mAw E k < 2 ^ 20 by omega), x_bitCount (ov S n) (show mAw E b < 2 ^ 20 by omega), aw_cnt E hk, aw_cnt E hb, i_eq (show cN (E k) < 2 ^ 31 by omega) (show cN (E b) < 2 ^ 31 by omega), i_le (show cN (E b) < 2 ^ 31 by omega) (show cN (E k) < 2 ^ 31 by omega), i_le (show cbit 20 (mAb E k) + 1 < 2 ^ 31 by omega) (show cbit 20 (mAb E b) + 1 < 2 ^ 31 by omega)]
  rcases how_c hh with rfl | rfl | rfl | rfl
  · rw [if_neg (show ¬ nI 0 = 1 by decide), if_neg (show ¬ nI 0 = 2 by decide), if_neg (show ¬ nI 0 = 3 by decide)]
    rfl
  · rw [if_pos (show nI 1 = 1 from rfl), show aR E 1 k b = (if cN (E k) = cN (E b) then decide (E k < E b) else decide (cN (E k) < cN (E b))) from rfl]
    by_cases e : cN (E k) = cN (E b)
    · rw [if_pos e, if_pos e]
      by_cases e2 : E b ≤ E k
      · rw [if_pos e2, decide_eq_false (by omega)]; rfl
      · rw [if_neg e2, decide_eq_true (by omega)]; rfl
    · rw [if_neg e, if_neg e]
      by_cases e2 : cN (E b) ≤ cN (E k)
      · rw [if_pos e2, decide_eq_false (by omega)]; rfl
      · rw [if_neg e2, decide_eq_true (by omega)]; rfl
  · rw [if_neg (show ¬ nI 2 = 1 by decide), if_pos (show nI 2 = 2 from rfl), show aR E 2 k b = decide (E b < E k) from rfl]
    by_cases e2 : E k ≤ E b
    · rw [if_pos e2, decide_eq_false (by omega)]; rfl
    · rw [if_neg e2, decide_eq_true (by omega)]; rfl
  · rw [if_neg (show ¬ nI 3 = 1 by decide), if_neg (show ¬ nI 3 = 2 by decide), if_pos (show nI 3 = 3 from rfl), aR3]
    by_cases e2 : cbit 20 (mAb E k) + 1 ≤ cbit 20 (mAb E b) + 1
    · rw [if_pos e2, decide_eq_false (by omega)]; rfl
    · rw [if_neg e2, decide_eq_true (by omega)]; rfl
theorem x_first (h : TE S t E) {v how : Nat} (hv : v < 2 ^ 14) (hh : how < 4) : f_X9_firstOf (ov S n) t (nI v) (nI how) = some (ov S n, nI (aF E how v)) := by
  unfold f_X9_firstOf b_X9_firstOf_0 aF
  refine fw_loop (fun fuel b j => l_X9_firstOf_5 fuel (ov S n) t (nI v) (nI how) (nI b) (nI j)) (aStep E how v) (fun b => (ov S n, nI b)) (fun b => b < 14) 2 14 (fun fuel b _ => rfl) (fun fuel b j hb h1 h2 => ⟨?_, ?_⟩) 12 2 q_FU 0 (by omega) (by omega) (by omega) (q_FU_lt (by omega))
  · unfold aStep
    split <;> omega
  · show b_X9_firstOf_5 _ _ _ _ _ _ _ = _
    unfold b_X9_firstOf_5 b_X9_firstOf_37 b_X9_firstOf_40
    simp (disch := omega) only [show (14 : Int32) = nI 14 from rfl, i_le, show ¬ 14 ≤ j by omega, if_false, i_tb (show v < 2 ^ 32 by omega) (show j < 32 by omega), b2i_1, i_eq0, x_stands h h2 hb hh, bS, b2i_eq0, nI_1, aStep]
    by_cases e1 : v.testBit j = true
    · by_cases e2 : b = 0
      · simp [e1, e2]
      · by_cases e3 : aR E how j b = true <;> simp [e1, e2, e3]
    · simp [e1]
theorem r_ahead (h : TT S 0 E) (ti : TI E) (su : SU E) {p k b how : Nat} (hk : mRb E p k = true) (hb : mRb E p b = true) (hlt : b < k) (hh : how < 4) : f_X10_isAhead (ov S n) 296 (nI k) (nI b) (nI how) = some (ov S n, b2i (aR E how k b)) := by
  have hk14 := mTh_lt ti (rb_th ti hk).1
  have hb14 := mTh_lt ti (rb_th ti hb).1
  have hkn : E k ≠ 0 := by simp only [mRb, Bool.and_eq_true, decide_eq_true_eq] at hk; exact hk.1
  have hbn : E b ≠ 0 := by simp only [mRb, Bool.and_eq_true, decide_eq_true_eq] at hb; exact hb.1
  have n1 := cN_lt (E k)
  have n2 := cN_lt (E b)
  have c1 := cb_lt (mAb E k)
  have c2 := cb_lt (mAb E b)
  have r1 := mRk_lt E k
  have r2 := mRk_lt E b
  have w1 := ab_lt E k
  have w2 := ab_lt E b
  have i1 : f_X10_its (ov S n) 296 0 (nI k) 1 = _ := r_its1 h hk14
  have i2 : f_X10_its (ov S n) 296 0 (nI b) 1 = _ := r_its1 h hb14
  have i3 : f_X10_its (ov S n) 296 0 (nI b) 2 = _ := r_its2 h hb14
  have i4 : f_X10_its (ov S n) 296 0 (nI b) 3 = _ := r_its3 h hb14
  have i5 : f_X10_its (ov S n) 296 0 (nI k) 2 = _ := r_its2 h hk14
  have i6 : f_X10_its (ov S n) 296 0 (nI k) 3 = _ := r_its3 h hk14
  have k1 : f_X10_rank (ov S n) 296 0 (nI k) = _ := r_rank (s := 0) h ti su hkn
  have k2 : f_X10_rank (ov S n) 296 0 (nI b) = _ := r_rank (s := 0) h ti su hbn
  have a1 : f_X10_allBelow (ov S n) 296 0 (nI k) = _ := r_allBelow (s := 0) h ti hk14
  have a2 : f_X10_allBelow (ov S n) 296 0 (nI b) = _ := r_allBelow (s := 0) h ti hb14
  unfold f_X10_isAhead b_X10_isAhead_0 b_X10_isAhead_45 b_X10_isAhead_136
  simp only [r_chk, i1, i2, i3, i4, i5, i6, k1, k2, a1, a2, bS, r_isLess (ov S n) (ti.b b) (ti.b k), su.ls hbn hkn, nar_b, r_bitsOf (ov S n) (show mAb E k < 2 ^ 20 by omega), r_bitsOf (ov S n) (show mAb E b < 2 ^ 20 by omega), i_eq (show cN (E k) < 2 ^ 31 by omega) (show cN (E b) < 2 ^ 31 by omega), i_le (show cN (E b) < 2 ^ 31 by omega) (show cN (E k) < 2 ^ 31 by omega), i_le (show mRk E b < 2 ^ 31 by omega) (show mRk E k < 2 ^ 31 by omega), i_le (show b < 2 ^ 31 by omega) (show k < 2 ^ 31 by omega), show b ≤ k by omega, if_true]
  rcases how_c hh with rfl | rfl | rfl | rfl
  · rw [if_neg (show ¬ nI 0 = 1 by decide), if_neg (show ¬ nI 0 = 1 by decide), if_neg (show ¬ nI 0 = 2 by decide), if_neg (show ¬ nI 0 = 3 by decide)]
    rfl
  · rw [if_pos (show nI 1 = 1 from rfl), show aR E 1 k b = (if cN (E k) = cN (E b) then decide (E k < E b) else decide (cN (E k) < cN (E b))) from rfl]
    by_cases e : cN (E k) = cN (E b)
    · rw [if_pos e, if_pos (show nI 1 = 1 from rfl), if_pos e]
      have hrk := rk_iff ti hk hb e
      by_cases e2 : mRk E b ≤ mRk E k
      · rw [if_pos e2, decide_eq_false (fun q => by have := hrk.mpr q; omega)]; rfl
      · rw [if_neg e2, decide_eq_true (hrk.mp (by omega))]; rfl
    · rw [if_neg e, if_neg e]
      by_cases e2 : cN (E b) ≤ cN (E k)
      · rw [if_pos e2, decide_eq_false (by omega)]; rfl
      · rw [if_neg e2, decide_eq_true (by omega)]; rfl
  · rw [if_neg (show ¬ nI 2 = 1 by decide), if_neg (show ¬ nI 2 = 1 by decide), if_pos (show nI 2 = 2 from rfl), show aR E 2 k b = decide (E b < E k) from rfl]
  · rw [if_neg (show ¬ nI 3 = 1 by decide), if_neg (show ¬ nI 3 = 1 by decide), if_neg (show ¬ nI 3 = 2 by decide), if_pos (show nI 3 = 3 from rfl), aR3]
    by_cases e1 : cbit 20 (mAb E b) < cbit 20 (mAb E k)
    · rw [pk_sub (by omega), if_neg (nI_ne0 (by omega) (by omega)), if_neg (nI_nle (by omega) (by omega)), decide_eq_true e1]; rfl
    · rw [decide_eq_false e1]
      by_cases e2 : cbit 20 (mAb E b) = cbit 20 (mAb E k)
      · rw [e2, pk_sub (by omega), Nat.sub_self, if_pos (show nI 0 = 0 from rfl)]; rfl
      · have hneg := pk_sneg (a := cbit 20 (mAb E k)) (b := cbit 20 (mAb E b)) (by omega) (by omega)
        rw [if_neg (fun q => by rw [q] at hneg; exact absurd hneg (by decide)), if_pos (Int32.le_of_lt hneg)]; rfl
theorem enc_0 : enc 0 = -1 := rfl
theorem enc_s {b : Nat} (h : b ≠ 0) : enc b = nI b := if_neg h
theorem enc_neg {b : Nat} (hb : b < 2 ^ 31) : (enc b < 0) = (b = 0) := by
  by_cases e : b = 0
  · subst e; exact propext ⟨fun _ => rfl, fun _ => by decide⟩
  · rw [enc_s e, i_lt0 hb]; exact propext ⟨fun q => q.elim, fun q => e q⟩
theorem r_teI (h : TT S 0 E) (ti : TI E) (su : SU E) {p v how : Nat} (hv : inC E p v) (hh : how < 4) (self : q_H → Nat → Int32 → Int32 → Option (q_H × Unit)) (k7 : q_H → Nat → Int32 → Int32 → Option (q_H × Unit)) : ∀ d j fuel b, j + d = 14 → 2 ≤ j → d < fuel → (b = 0 ∨ (v.testBit b = true ∧ b < j)) → l_X10_tells_17 self k7 fuel (ov S n) 296 (nI how) (nI v) (enc b) (nI j) = Option.bind (f_X10_enters (ov S n) 296 (Int32.toInt64 (enc (fw (aStep E how v) b j d)))) (fun q1 => Option.bind (self q1.1 296 (enc (fw (aStep E how v) b j d)) (nI how)) (fun q2 => k7 q2.1 296 (nI how) (nI v - ((1 : Int32) <<< (enc (fw (aStep E how v) b j d) &&& 31))))) := by
  have hv14 := hv.1
  intro d
  induction d with
  | zero =>
    intro j fuel b hj h2 hf hb
    obtain ⟨f, rfl⟩ : ∃ f, fuel = f + 1 := ⟨fuel - 1, by omega⟩
    show b_X10_tells_17 _ _ _ _ _ _ _ _ _ = _
    unfold b_X10_tells_17
    rw [if_pos (by rw [show (14 : Int32) = nI 14 from rfl, i_le (by omega) (by omega)]; omega)]
    rfl
  | succ d ih =>
    intro j fuel b hj h2 hf hb
    obtain ⟨f, rfl⟩ : ∃ f, fuel = f + 1 := ⟨fuel - 1, by omega⟩
    have hb31 : b < 2 ^ 31 := by rcases hb with hb | hb <;> omega
    show b_X10_tells_17 _ _ _ _ _ _ _ _ _ = _
    unfold b_X10_tells_17 b_X10_tells_55 b_X10_tells_50 b_X10_tells_57
    rw [if_neg (by rw [show (14 : Int32) = nI 14 from rfl, i_le (by omega) (by omega)]; omega), r_has (ov S n) (by omega) (by omega), bS]
    simp only [b2i_eq0, enc_neg hb31, nI_1]
    show _ = Option.bind (f_X10_enters (ov S n) 296 (Int32.toInt64 (enc (fw (aStep E how v) (aStep E how v j b) (j + 1) d)))) (fun q1 => Option.bind (self q1.1 296 (enc (fw (aStep E how v) (aStep E how v j b) (j + 1) d)) (nI how)) (fun q2 => k7 q2.1 296 (nI how) (nI v - ((1 : Int32) <<< (enc (fw (aStep E how v) (aStep E how v j b) (j + 1) d) &&& 31)))))
    cases e1 : v.testBit j
    · have es : aStep E how v j b = b := by unfold aStep; rw [e1]; rfl
      rw [if_pos rfl, es]
      exact ih (j + 1) f b (by omega) (by omega) (by omega) (hb.imp id (fun q => ⟨q.1, by omega⟩))
    · rw [if_neg (by decide)]
      have ej : enc j = nI j := enc_s (by omega)
      by_cases e2 : b = 0
      · have es : aStep E how v j b = j := by unfold aStep; rw [e1, e2]; rfl
        rw [if_pos e2, es, ← ej]
        exact ih (j + 1) f j (by omega) (by omega) (by omega) (Or.inr ⟨e1, by omega⟩)
      · have hbb := hb.resolve_left e2
        rw [if_neg e2]
        have ha := r_ahead (n := n) h ti su (hv.2 j e1) (hv.2 b hbb.1) hbb.2 hh
        rw [enc_s e2, ha, bS]
        simp only [b2i_eq0]
        cases e3 : aR E how j b
        · have es : aStep E how v j b = b := by unfold aStep; rw [e1, e3, decide_eq_false e2]; rfl
          rw [if_pos rfl, es, ← enc_s e2]
          exact ih (j + 1) f b (by omega) (by omega) (by omega) (Or.inr ⟨hbb.1, by omega⟩)
        · have es : aStep E how v j b = j := by unfold aStep; rw [e1, e3, decide_eq_false e2]; rfl
          rw [if_neg (by decide), es, ← ej]
          exact ih (j + 1) f j (by omega) (by omega) (by omega) (Or.inr ⟨e1, by omega⟩)
theorem x_lst (ti : TI E) (ht : t + 1 ≠ 93 ∧ t + 1 ≠ 94) {how : Nat} (hh : how < 4) : ∀ r p D lev (S : o_S) (A : aS), mTh E p = true → mSu E 14 p + r = 13 → r ≤ D → lev ≤ mSu E 14 p → CR S A → TE S t E → (sR A).length + cn (sbB E p) 2 12 ≤ 80 → ∃ S', f_X9_listBelow D (ov S n) t 93 (nI p) (nI how) (nI lev) = some (ov S' n, ()) ∧ CR S' (sRow A (sR A ++ lB E how r p)) ∧ AG (fun b => b = 93 ∨ b = 94) S S' ∧ (lB E how r p).length ≤ cn (sbB E p) 2 12 := by
  intro r
  induction r with
  | zero =>
    intro p D lev S A hp hs
    have := su_12 ti hp
    omega
  | succ r ih =>
    intro p D lev S A hp hs hD hl H hE hlen
    obtain ⟨D, rfl⟩ : ∃ D', D = D' + 1 := ⟨D - 1, by omega⟩
    have hp14 := mTh_lt ti hp
    have hsu := su_12 ti hp
    have loop : ∀ m v fuel (S : o_S) (A : aS), cbit 20 v = m → inC E p v → m < fuel → CR S A → TE S t E → (sR A).length + cn (wvB E v) 2 12 ≤ 80 → ∃ S', l_X9_listBelow_22 (f_X9_listBelow D) fuel (ov S n) t 93 (nI how) (nI lev) (nI v) (nI m) = some (ov S' n, ()) ∧ CR S' (sRow A (sR A ++ lL (aF E how) (lB E how r) m v)) ∧ AG (fun b => b = 93 ∨ b = 94) S S' ∧ (lL (aF E how) (lB E how r) m v).length ≤ cn (wvB E v) 2 12 := by
      intro m
      induction m with
      | zero =>
        intro v fuel S A hm hv hf H hE hlen
        obtain ⟨f, rfl⟩ : ∃ f, fuel = f + 1 := ⟨fuel - 1, by omega⟩
        refine ⟨S, ?_, by rw [show lL (aF E how) (lB E how r) 0 v = [] from rfl, List.append_nil]; exact H, AG.rf, Nat.zero_le _⟩
        show b_X9_listBelow_22 _ _ _ _ _ _ _ _ _ = _
        unfold b_X9_listBelow_22
        rw [if_pos (by decide)]
      | succ m ihm =>
        intro v fuel S A hm hv hf H hE hlen
        obtain ⟨f, rfl⟩ : ∃ f, fuel = f + 1 := ⟨fuel - 1, by omega⟩
        have hv14 := hv.1
        have hm20 := cb_lt v
        have hne : v ≠ 0 := fun e => by have := (cbit_z (v := v) (by omega)).mpr e; omega
        obtain ⟨f1, f2, f3, f4, f5⟩ := aF_ok (how := how) ti hv hne
        generalize hb : aF E how v = b at f1 f2 f3 f4 f5
        have hfst := x_first (n := n) hE hv14 hh
        rw [hb] at hfst
        have hcn := wv_sub ti hv f1
        have hcw := wi_sb f5 f2 f3
        have hsc := sub_cnt (v := v) (show b < 20 by omega) f1
        obtain ⟨t1, t2, t3⟩ := rb_th ti f4
        have hsb := su_s ti t1 t2
        rw [t3] at hsb
        obtain ⟨S1, k1, k2, k3⟩ := x_add (n := n) H (by omega) (Int32.toInt64 (nI b))
        obtain ⟨S2, l1, l2, l3, l4⟩ := ih b D (lev + 1) S1 (sRow A (sR A ++ [Int32.toInt64 (nI b)])) t1 (by omega) (by omega) (by omega) k2 (hE.ag k3 (by omega)) (by rw [sRr, List.length_append]; simp only [List.length_cons, List.length_nil]; omega)
        obtain ⟨S3, p1, p2, p3, p4⟩ := ihm (v - 2 ^ b) f S2 (sRow A (sR A ++ [Int32.toInt64 (nI b)] ++ lB E how r b)) (by omega) (hv.sub f1) (by omega) l2 ((hE.ag k3 (by omega)).ag l3 (by omega)) (by rw [sRr, List.length_append, List.length_append]; simp only [List.length_cons, List.length_nil]; omega)
        have el : lL (aF E how) (lB E how r) (m + 1) v = [Int32.toInt64 (nI b)] ++ lB E how r b ++ lL (aF E how) (lB E how r) m (v - 2 ^ b) := by
          show [Int32.toInt64 (nI (aF E how v))] ++ lB E how r (aF E how v) ++ lL (aF E how) (lB E how r) m (v - 2 ^ aF E how v) = _
          rw [hb]
        refine ⟨S3, ?_, ?_, (k3.tr l3 (C := fun b => b = 93 ∨ b = 94) (fun _ q => q) (fun _ q => q)).tr p3 (fun _ q => q) (fun _ q => q), ?_⟩
        · show b_X9_listBelow_22 _ _ _ _ _ _ _ _ _ = _
          unfold b_X9_listBelow_22
          rw [if_neg (nI_nle (by omega) (by omega)), hfst, bS, k1, bS, nI_1, l1, bS, i_clr hv14 f3 f1, pk_m1]
          exact p1
        · have p2 : CR S3 (sRow A (sR A ++ [Int32.toInt64 (nI b)] ++ lB E how r b ++ lL (aF E how) (lB E how r) m (v - 2 ^ b))) := p2
          rw [el, ← List.append_assoc, ← List.append_assoc]
          exact p2
        · rw [el]
          simp only [List.length_append, List.length_cons, List.length_nil]
          omega
    have hc := wv_ch ti p
    have hch := ch_lt E p
    obtain ⟨S1, k1, k2, k3, k4⟩ := loop (cbit 20 (mCh E p)) (mCh E p) q_FU S A rfl (inC.ch E p) (q_FU_lt (by have := cb_lt (mCh E p); omega)) H hE (by omega)
    refine ⟨S1, ?_, k2, k3, by show (lL _ _ _ _).length ≤ _; omega⟩
    show b_X9_listBelow_0 (f_X9_listBelow D) _ _ _ _ _ _ = _
    unfold b_X9_listBelow_0
    rw [if_pos (by rw [show (14 : Int32) = nI 14 from rfl, i_le (by omega) (by omega)]; omega), t_childrenOf hE (by omega), bS, x_bitCount _ (by omega), bS]
    exact k1
theorem r_lst2 (ti : TI E) (su : SU E) {how : Nat} (hh : how < 4) : ∀ r p D (S : o_S) (A : aS), mTh E p = true → mSu E 14 p + r = 13 → r ≤ D → RR S A → TT S 0 E → (sR A).length + cn (sbB E p) 2 12 ≤ 80 → ∃ S', f_X10_tells D (ov S n) 296 (nI p) (nI how) = some (ov S' n, ()) ∧ RR S' (sRow A (sR A ++ lB E how r p)) ∧ RE S S' ∧ (lB E how r p).length ≤ cn (sbB E p) 2 12 := by
  intro r
  induction r with
  | zero =>
    intro p D S A hp hs
    have := su_12 ti hp
    omega
  | succ r ih =>
    intro p D S A hp hs hD H hE hlen
    obtain ⟨D, rfl⟩ : ∃ D', D = D' + 1 := ⟨D - 1, by omega⟩
    have hp14 := mTh_lt ti hp
    have hsu := su_12 ti hp
    have loop : ∀ m v fuel (S : o_S) (A : aS), cbit 20 v = m → inC E p v → m < fuel → RR S A → TT S 0 E → (sR A).length + cn (wvB E v) 2 12 ≤ 80 → ∃ S', l_X10_tells_7 (f_X10_tells D) fuel (ov S n) 296 (nI how) (nI v) = some (ov S' n, ()) ∧ RR S' (sRow A (sR A ++ lL (aF E how) (lB E how r) m v)) ∧ RE S S' ∧ (lL (aF E how) (lB E how r) m v).length ≤ cn (wvB E v) 2 12 := by
      intro m
      induction m with
      | zero =>
        intro v fuel S A hm hv hf H hE hlen
        obtain ⟨f, rfl⟩ : ∃ f, fuel = f + 1 := ⟨fuel - 1, by omega⟩
        have hv14 := hv.1
        have hz := (cbit_z (v := v) (by omega)).mp hm
        refine ⟨S, ?_, by rw [show lL (aF E how) (lB E how r) 0 v = [] from rfl, List.append_nil]; exact H, RE.rf, Nat.zero_le _⟩
        show b_X10_tells_7 _ _ _ _ _ _ = _
        unfold b_X10_tells_7
        rw [hz, if_pos (show nI 0 = 0 from rfl)]
      | succ m ihm =>
        intro v fuel S A hm hv hf H hE hlen
        obtain ⟨f, rfl⟩ : ∃ f, fuel = f + 1 := ⟨fuel - 1, by omega⟩
        have hv14 := hv.1
        have hm20 := cb_lt v
        have hne : v ≠ 0 := fun e => by have := (cbit_z (v := v) (by omega)).mpr e; omega
        obtain ⟨f1, f2, f3, f4, f5⟩ := aF_ok (how := how) ti hv hne
        have hte : l_X10_tells_17 (f_X10_tells D) (l_X10_tells_7 (f_X10_tells D) f) q_FU (ov S n) 296 (nI how) (nI v) (-1) 2 = _ := r_teI (n := n) hE ti su hv hh (f_X10_tells D) (l_X10_tells_7 (f_X10_tells D) f) 12 2 q_FU 0 (by omega) (by omega) (q_FU_lt (by omega)) (Or.inl rfl)
        have hfw : fw (aStep E how v) 0 2 12 = aF E how v := rfl
        rw [hfw] at hte
        generalize hb : aF E how v = b at f1 f2 f3 f4 f5 hte
        rw [enc_s (show b ≠ 0 by omega)] at hte
        have hcn := wv_sub ti hv f1
        have hcw := wi_sb f5 f2 f3
        have hsc := sub_cnt (v := v) (show b < 20 by omega) f1
        obtain ⟨t1, t2, t3⟩ := rb_th ti f4
        have hsb := su_s ti t1 t2
        rw [t3] at hsb
        obtain ⟨S1, k1, k2, k3⟩ := r_enters (n := n) H (by omega) (Int32.toInt64 (nI b))
        obtain ⟨S2, l1, l2, l3, l4⟩ := ih b D S1 (sRow A (sR A ++ [Int32.toInt64 (nI b)])) t1 (by omega) (by omega) k2 (hE.re k3) (by rw [sRr, List.length_append]; simp only [List.length_cons, List.length_nil]; omega)
        obtain ⟨S3, p1, p2, p3, p4⟩ := ihm (v - 2 ^ b) f S2 (sRow A (sR A ++ [Int32.toInt64 (nI b)] ++ lB E how r b)) (by omega) (hv.sub f1) (by omega) l2 ((hE.re k3).re l3) (by rw [sRr, List.length_append, List.length_append]; simp only [List.length_cons, List.length_nil]; omega)
        have el : lL (aF E how) (lB E how r) (m + 1) v = [Int32.toInt64 (nI b)] ++ lB E how r b ++ lL (aF E how) (lB E how r) m (v - 2 ^ b) := by
          show [Int32.toInt64 (nI (aF E how v))] ++ lB E how r (aF E how v) ++ lL (aF E how) (lB E how r) m (v - 2 ^ aF E how v) = _
          rw [hb]
        refine ⟨S3, ?_, ?_, (k3.tr l3).tr p3, ?_⟩
        · show b_X10_tells_7 _ _ _ _ _ _ = _
          unfold b_X10_tells_7
          rw [if_neg (nI_ne0 (by omega) (by omega)), hte, k1, bS, l1, bS, i_sb hv14 f3 f1]
          exact p1
        · have p2 : RR S3 (sRow A (sR A ++ [Int32.toInt64 (nI b)] ++ lB E how r b ++ lL (aF E how) (lB E how r) m (v - 2 ^ b))) := p2
          rw [el, ← List.append_assoc, ← List.append_assoc]
          exact p2
        · rw [el]
          simp only [List.length_append, List.length_cons, List.length_nil]
          omega
    have hc := wv_ch ti p
    have hrb : f_X10_rightBelow (ov S n) 296 0 (nI p) = some (ov S n, nI (mCh E p)) := r_rightBelow (s := 0) hE (by omega)
    obtain ⟨S1, k1, k2, k3, k4⟩ := loop (cbit 20 (mCh E p)) (mCh E p) q_FU S A rfl (inC.ch E p) (q_FU_lt (by have := cb_lt (mCh E p); omega)) H hE (by omega)
    refine ⟨S1, ?_, k2, k3, by show (lL _ _ _ _).length ≤ _; omega⟩
    show q_chk 9 _ _ (b_X10_tells_0 (f_X10_tells D) _ _ _ _) = _
    unfold b_X10_tells_0
    rw [r_chk, hrb, bS]
    exact k1
theorem ag_lists {A : aS} {T : Nat} (h : OKA T A) (x y z : Int32) : AGR T A (fun h => f_X9_lists h 0 x y z) (fun h => f_X10_lists h 296 x y z) := by
  have hin : ∀ (S : o_S) (n : Nat × Nat × Nat), f_X10_in (ov S n) (Int32.toInt64 z) 0 3 = some (ov S n, b2i (inR 0 4 z)) := fun S n => r_in _ _ (lo := 0) (hi := 4) (by decide) (by decide)
  by_cases e3 : inR 0 4 z = true
  · obtain ⟨m, -, hm, rfl⟩ := inR_t e3 (by omega)
    have hz1 : ¬ nI m < 0 := nI_pos (by omega)
    have hz2 : nI m ≤ 3 := by rw [show (3 : Int32) = nI 3 from rfl, i_le (by omega) (by omega)]; omega
    refine ag_ask h (x := x) (y := y) (fun S n r hr e => ?_) (fun S S' n r hr e => ?_) (fun c j hc hj hx hy ht ti su => ?_)
    · unfold f_X9_lists b_X9_lists_0
      simp only [x_chk, hz1, if_false, hz2, if_true, e, bS, neg_nle hr]
    · unfold f_X10_lists b_X10_lists_0
      simp only [r_chk, rP0, bS, hin, e3, b2i_eq0, Bool.true_eq_false, if_false, e, neg_nle hr]
    · subst hx hy
      have hsu := su_12 ti ht
      have hcn := cn_le (sbB (tr (sW A) c) j) 2 12
      obtain ⟨L, hL⟩ : ∃ L, L = lB (tr (sW A) c) m (13 - mSu (tr (sW A) c) 14 j) j := ⟨_, rfl⟩
      refine ⟨nI L.length, sRow A L, fun S n H e => ?_, fun S S0 n H ht0 hl0 e => ?_, h.row (by omega) _⟩
      · have hte : TE (o_sf S 93 1 0) (4 + 8 * c + 6) (tr (sW A) c) := (H.te hc).ag (AG_sf S 93 1 0) (by omega)
        obtain ⟨S1, k1, k2, k3, -⟩ := x_lst (n := n) ti (t := 4 + 8 * c + 6) (by omega) hm (13 - mSu (tr (sW A) c) 14 j) j q_RD 0 (o_sf S 93 1 0) (sRow A []) ht (by omega) (by show _ ≤ 20; omega) (Nat.zero_le _) (x_row0 H) hte (by rw [sRr]; simp; omega)
        rw [sRr, List.nil_append, ← hL] at k2
        have k1 : f_X9_listBelow q_RD (ov (o_sf S 93 1 0) n) (4 + 8 * c + 6) 93 (nI j) (nI m) 0 = some (ov S1 n, ()) := k1
        have hrl := k2.rl (n := n)
        refine ⟨S1, ?_, k2, (AG_sf S 93 1 0).tr k3 (fun b q => by omega) (fun b q => by omega)⟩
        unfold f_X9_lists b_X9_lists_0
        simp only [x_chk, hz1, if_false, hz2, if_true, e, bS, show (0 : Int32) ≤ 0 by decide, xR4, yCl, xR0, u_R0, u_cp hc, u_R5 hc, k1, hrl]
      · obtain ⟨S1, k1, k2, k3, -⟩ := r_lst2 (n := n) ti su hm (13 - mSu (tr (sW A) c) 14 j) j q_RD (o_sf S0 296 1 0) (sRow A []) ht (by omega) (by show _ ≤ 20; omega) (r_row0 H) (ht0.re re_row0) (by rw [sRr]; simp; omega)
        rw [sRr, List.nil_append, ← hL] at k2
        have hrl := k2.rl (n := n)
        refine ⟨S1, ?_, k2, (re_row0.tr k3).ag⟩
        unfold f_X10_lists b_X10_lists_0
        simp only [r_chk, rP0, bS, hin, e3, b2i_eq0, Bool.true_eq_false, if_false, e, show (0 : Int32) ≤ 0 by decide, if_true, rP1, k1, hrl]
  · have e3 : inR 0 4 z = false := by simpa using e3
    refine ⟨-1, A, fun S n H => ⟨S, ?_, H, AG.rf⟩, fun S n H => ⟨_, ?_, H.fld (k := 0) 0 (by omega) (by omega), (RZ.fld 0 (by omega) (by omega)).ag⟩, h.mono (by omega)⟩
    · rw [x_rng z (show 0 < 2 ^ 31 by omega) (show 4 < 2 ^ 31 by omega)] at e3
      unfold f_X9_lists b_X9_lists_0
      simp only [x_chk]
      by_cases h0 : z < 0
      · simp [h0]
      · obtain ⟨j, hj, rfl⟩ := nI_of h0
        have h0' : ¬ nI j < nI 0 := h0
        have : nI 4 ≤ nI j := by simpa [h0'] using e3
        rw [i_le (by omega) hj] at this
        rw [if_neg h0, if_neg (by rw [show (3 : Int32) = nI 3 from rfl, i_le hj (by omega)]; omega)]
    · unfold f_X10_lists b_X10_lists_0
      simp only [r_chk, rP0, bS, hin, e3, b2i_eq0, if_true]
end LS2
