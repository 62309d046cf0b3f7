/-! THE REFERENCE'S ACTS: gathers, cuts; its copies of worlds -/
theorem aHear_2 {W : aW} {d c k k' : Nat} {r : List Nat} (h : cT k ≤ cT k') : aHear (aHear W d c k r) d c k' [] = aHear W d c k' [] := by
  unfold aHear
  simp only [fset_2, fset_s]
  rw [show max (max (W.1 c) (cT k)) (cT k') = max (W.1 c) (cT k') by omega]
section RD
variable {n : Nat × Nat × Nat} {l : List Nat} {W : aW} {T : Nat}
theorem r_hrL {c d : Nat} (hc : c < 3) (hd : d < 3) (k90 : q_H → Nat → Int32 → Int32 → Int32 → Option (q_H × Int32)) (v2 : Int32) : ∀ (y : List Nat) (fuel : Nat) (S : o_S) (W : aW), wY W (3 * d + c) = y → y.length < fuel → (y ≠ [] → d ≠ c) → (∀ k ∈ y, k < 2 ^ 31) → y.Pairwise (fun a b => cT a ≤ cT b) → wT W c < 2 ^ 31 → RW (S.2.1 299) 0 W → ∃ S', l_X10_gathersOne_95 k90 fuel (ov S n) 296 (nI c) v2 (nI d) = k90 (ov S' n) 296 (nI c) v2 (nI (d + 1)) ∧ RW (S'.2.1 299) 0 (aHA W c d) ∧ RM S S' := by
  intro y
  induction y with
  | nil =>
    intro fuel S W hy hf hne hb hp hT h
    obtain ⟨f, rfl⟩ : ∃ f, fuel = f + 1 := ⟨fuel - 1, by simp at hf; omega⟩
    have hw := r_waiting (n := n) h.2.2.2.2 hd hc
    rw [hy] at hw
    refine ⟨S, ?_, ?_, RM.rf⟩
    · show b_X10_gathersOne_95 _ _ _ _ _ _ _ = _
      unfold b_X10_gathersOne_95 b_X10_gathersOne_118
      have z0 : nI ([] : List Nat).length ≤ 0 := by decide
      simp (disch := omega) only [hw, bS, z0, if_true, nI_1]
      split <;> rfl
    · unfold aHA
      rw [hy]
      exact h
  | cons k r ih =>
    intro fuel S W hy hf hne hb hp hT h
    obtain ⟨f, rfl⟩ : ∃ f, fuel = f + 1 := ⟨fuel - 1, by simp at hf; omega⟩
    have hw := r_waiting (n := n) h.2.2.2.2 hd hc
    have hyl := (h.2.2.2.2 (3 * d + c) (by omega)).1
    rw [hy] at hw hyl
    have hk := hb k (by simp)
    have hkT := cT_lt hk
    have hdc := hne (by simp)
    obtain ⟨S1, g1, g2, g3⟩ := r_hears (n := n) hd hc hy hk hT h
    have e1 : wT (aHear W d c k r) c = max (wT W c) (cT k) := fset_s _ _ _
    obtain ⟨S', k1, k2, k3⟩ := ih f S1 (aHear W d c k r) (fset_s _ _ _) (by simp at hf; omega) (fun _ => hdc) (fun x hx => hb x (by simp [hx])) (List.pairwise_cons.mp hp).2 (by rw [e1]; omega) g2
    refine ⟨S', ?_, ?_, g3.tr k3⟩
    · show b_X10_gathersOne_95 _ _ _ _ _ _ _ = _
      unfold b_X10_gathersOne_95
      have z1 : ¬ nI (k :: r).length ≤ 0 := nI_nle (by simp) (by omega)
      simp (disch := omega) only [i_eq, hdc, if_false, hw, bS, z1, g1]
      exact k1
    · have e : aHA (aHear W d c k r) c d = aHA W c d := by
        unfold aHA
        rw [hy, show wY (aHear W d c k r) (3 * d + c) = r from fset_s _ _ _]
        cases hg : r.getLast? with
        | none =>
          have hr : r = [] := List.getLast?_eq_none_iff.mp hg
          subst hr
          rfl
        | some k' =>
          have hk' := List.mem_of_getLast? hg
          have : (k :: r).getLast? = some k' := by
            rw [List.getLast?_cons, hg]
            rfl
          rw [this]
          exact aHear_2 ((List.pairwise_cons.mp hp).1 k' hk')
      rw [← e]
      exact k2
theorem r_hrO {W0 : aW} (hV : V T W0) {c : Nat} (hc : c < 3) (v2 : Int32) : ∀ m j fuel (S : o_S) (W : aW), j + m = 3 → m < fuel → (∀ d, j ≤ d → d < 3 → wY W (3 * d + c) = wY W0 (3 * d + c)) → wT W c < 2 ^ 31 → RW (S.2.1 299) 0 W → ∃ S', l_X10_gathersOne_90 fuel (ov S n) 296 (nI c) v2 (nI j) = some (ov S' n, v2) ∧ RW (S'.2.1 299) 0 (fw (fun d W => aHA W c d) W j m) ∧ RM S S' := by
  intro m
  induction m with
  | zero =>
    intro j fuel S W hj hf hy hT h
    obtain ⟨f, rfl⟩ : ∃ f, fuel = f + 1 := ⟨fuel - 1, by omega⟩
    refine ⟨S, ?_, h, RM.rf⟩
    show b_X10_gathersOne_90 _ _ _ _ _ _ = _
    unfold b_X10_gathersOne_90
    simp (disch := omega) only [j2, j3, j4, j5, j6, j7, j8, j9, j10, j12, j14, j20, j40, j48, j49, j56, j80, j96, j180, j183, j483, j492, j708, j2401, j1000000, nI_1, nI_add, pk_mul, i_le, i_lt, i_eq, i_lt0, i_0le, i_le0, i_eq0, i_0lt, i_eq1, i_eqm1, i_sub1, i_addm1, pk_sub, i_add0, b2i_eq0, b2i_1, i_bit, if_true, if_false, show 3 ≤ j by omega]
  | succ m ih =>
    intro j fuel S W hj hf hy hT h
    obtain ⟨f, rfl⟩ : ∃ f, fuel = f + 1 := ⟨fuel - 1, by omega⟩
    have hj3 : j < 3 := by omega
    have hyj := hy j (by omega) hj3
    have hv := hV.2.2.2.2.1 j c hj3 hc
    obtain ⟨S1, g1, g2, g3⟩ := r_hrL (n := n) hc hj3 (l_X10_gathersOne_90 f) v2 (wY W0 (3 * j + c)) q_FU S W hyj (q_FU_lt (by omega)) (fun hne e => hne (hv.2.1 e)) (fun k hk => (hv.2.2.2 k hk).1.1) hv.2.2.1 hT h
    obtain ⟨S', k1, k2, k3⟩ := ih (j + 1) f S1 (aHA W c j) (by omega) (by omega) (fun d h1 h2 => by rw [aHA_Y _ _ _ _ (by omega)]; exact hy d (by omega) h2) (by
      unfold aHA
      rw [hyj]
      cases hg : (wY W0 (3 * j + c)).getLast? with
      | none => exact hT
      | some k =>
        have := cT_lt (hv.2.2.2 k (List.mem_of_getLast? hg)).1.1
        show fset W.1 c _ c < _
        rw [fset_s]
        have hT : W.1 c < 2 ^ 31 := hT
        omega) g2
    refine ⟨S', ?_, k2, g3.tr k3⟩
    show b_X10_gathersOne_90 _ _ _ _ _ _ = _
    unfold b_X10_gathersOne_90
    simp (disch := omega) only [j2, j3, j4, j5, j6, j7, j8, j9, j10, j12, j14, j20, j40, j48, j49, j56, j80, j96, j180, j183, j483, j492, j708, j2401, j1000000, nI_1, nI_add, pk_mul, i_le, i_lt, i_eq, i_lt0, i_0le, i_le0, i_eq0, i_0lt, i_eq1, i_eqm1, i_sub1, i_addm1, pk_sub, i_add0, b2i_eq0, b2i_1, i_bit, if_true, if_false, show ¬ 3 ≤ j by omega]
    exact g1.trans k1
theorem aAll_len (W : aW) (c : Nat) : (aAll W c).length = (wL W c).length + aMw W c := by
  have em : aMw W c = 0 + (wY W (3 * 0 + c)).countP mHm + (wY W (3 * 1 + c)).countP mHm + (wY W (3 * 2 + c)).countP mHm := rfl
  have e : aAll W c = mInsA (mMv (wY W (3 * 2 + c))) (mInsA (mMv (wY W (3 * 1 + c))) (mInsA (mMv (wY W (3 * 0 + c))) (wL W c))) := rfl
  rw [e, mInsA_len, mInsA_len, mInsA_len, mMv_cnt, mMv_cnt, mMv_cnt, em]
  omega
theorem r_gather {S : o_S} (h : RW (S.2.1 299) 0 W) (hV : V T W) (hT : T ≤ 100000) {c : Nat} (hc : c < 3) : ∃ S', f_X10_gathersOne (ov S n) 296 (nI c) = some (ov S' n, (dGa W c).1) ∧ RW (S'.2.1 299) 0 (dGa W c).2 ∧ (¬ (dGa W c).1 < 0 → S'.1 296 13 = nI (dUn W c) ∧ S'.1 296 14 = nI (mOt (tr W c) (tr (dGa W c).2 c))) ∧ RX S S' := by
  have hcC : inR 0 3 (nI c) = true := by rw [inR_nI (by omega)]; simp [hc]
  have hl20 := (hV.2.2.1 c hc).1
  have htt := hV.1 c hc
  have hwf := hV.wf hc
  have hmw : aMw W c ≤ aWf W c := by
    have e1 : aMw W c = 0 + (wY W (3 * 0 + c)).countP mHm + (wY W (3 * 1 + c)).countP mHm + (wY W (3 * 2 + c)).countP mHm := rfl
    have e2 : aWf W c = 0 + (wY W (3 * 0 + c)).length + (wY W (3 * 1 + c)).length + (wY W (3 * 2 + c)).length := rfl
    have l0 := List.countP_le_length (p := mHm) (l := wY W (3 * 0 + c))
    have l1 := List.countP_le_length (p := mHm) (l := wY W (3 * 1 + c))
    have l2 := List.countP_le_length (p := mHm) (l := wY W (3 * 2 + c))
    omega
  have hm1 : (nI (wL W c).length + nI (aMw W c) ≤ nI 20) = ((wL W c).length + aMw W c ≤ 20) := by rw [nI_add, i_le (by omega) (by omega)]
  unfold dGa
  by_cases e0 : aWf W c = 0
  · rw [if_pos e0]
    refine ⟨S, ?_, h, fun q => absurd (show (-2 : Int32) < 0 by decide) q, RX.rf⟩
    unfold f_X10_gathersOne b_X10_gathersOne_0
    simp (disch := omega) only [r_chk, bS, r_isCopy, hcC, b2i_eq0, Bool.true_eq_false, if_false, r_waitingAll h hV hc, i_eq0, e0, if_true]
  · rw [if_neg e0]
    by_cases e1 : 20 < (wL W c).length + aMw W c
    · rw [if_pos e1]
      refine ⟨S, ?_, h, fun q => absurd (show (-3 : Int32) < 0 by decide) q, RX.rf⟩
      unfold f_X10_gathersOne b_X10_gathersOne_0
      simp (disch := omega) only [r_chk, bS, r_isCopy, hcC, b2i_eq0, Bool.true_eq_false, if_false, r_waitingAll h hV hc, i_eq0, e0, rR7, j180, nI_add, r_mem, h.len hc, r_movesWaiting h hV hc, j20, i_le, show ¬ (wL W c).length + aMw W c ≤ 20 by omega]
    · rw [if_neg e1]
      obtain ⟨M, -, sm⟩ := hV.all hc
      obtain ⟨S1, a1, a2⟩ := r_undone (n := n) h hV hc
      have h2 : RW ((o_sf S1 296 13 (nI (dUn W c))).2.1 299) 0 W := by rw [s_F2, a2.m]; exact h
      obtain ⟨S3, b1, b2, b3, -, b5, b6, b7, b8⟩ := r_laysF (n := n) (s := 0) hV h2 hc (by omega)
      have b1 : f_X10_lays (ov (o_sf S1 296 13 (nI (dUn W c))) n) 296 0 (nI c) = some (ov S3 n, ()) := b1
      have h3 : RW (S3.2.1 299) 0 W := by rw [b6]; exact h2
      obtain ⟨S4, c1, c2, c3⟩ := r_putsWaiting (n := n) h3 hV hc b2
      have h4 : RW (S4.2.1 299) 0 W := by rw [c3.m]; exact h3
      obtain ⟨S5, d1, d2, d3, d4⟩ := r_growW (n := n) (s := 1) hV h4 hc (by omega) c2 (fun x hx => (sm.2 x hx).2) w_none
      have d1 : f_X10_grows (ov S4 n) 296 1 (nI c) (-1) = some (ov S5 n, ()) := d1
      have t0 : TT S5 0 (tr W c) := (b3.rl c3).rg d4 (by omega)
      generalize hX : mOt (tr W c) (mBld 1000 (aAll W c) 0 (wB W c)) = X
      have ho : f_X10_otherSet (ov S5 n) 296 0 1 = some (ov S5 n, nI X) := by
        rw [← hX]
        exact r_otherSet (n := n) t0 (hV.ti hc) d2 (TI.bld 1000 _ 0 _ (hV.2.2.2.1 c hc).1 (fun x hx => (sm.2 x hx).2))
      have h6 : RW ((o_sf S5 296 14 (nI X)).2.1 299) 0 W := by rw [s_F2, d4.m]; exact h4
      obtain ⟨S7, p1, p2, p3⟩ := r_keepsList (n := n) hc h6 ((c2.rg d4).fld (k := 14) (v := nI X) (by omega)) (by rw [aAll_len]; omega)
      obtain ⟨S8, q1, q2, q3⟩ := r_hrO (n := n) hV hc (nI (aWf W c)) 3 0 q_FU S7 (aLog W c (aAll W c)) (by omega) (q_FU_lt (by omega)) (fun d _ _ => rfl) (show wT W c < 2 ^ 31 by omega) p2
      have q1 : l_X10_gathersOne_90 q_FU (ov S7 n) 296 (nI c) (nI (aWf W c)) 0 = some (ov S8 n, nI (aWf W c)) := q1
      have ew : dTa W c = fw (fun d W => aHA W c d) (aLog W c (aAll W c)) 0 3 := by
        rw [dTa_eq]
        show aLog (aHA (aHA (aHA W c 0) c 1) c 2) c (aAll W c) = aHA (aHA (aHA (aLog W c (aAll W c)) c 0) c 1) c 2
        rw [aHA_log, aHA_log, aHA_log]
      have f13 : S8.1 296 13 = nI (dUn W c) := by
        rw [q3.1.f (by omega), p3.1.f (by omega), s_F, if_pos rfl, pk_un (by omega), d4.f, c3.2 13 (by omega), b7 13 (by omega), s_F, if_pos rfl, pk_us]
      have f14 : S8.1 296 14 = nI X := by
        rw [q3.1.f (by omega), p3.1.f (by omega), s_F, if_pos rfl, pk_us]
      refine ⟨S8, ?_, ?_, fun _ => ⟨f13, ?_⟩, ?_⟩
      · unfold f_X10_gathersOne b_X10_gathersOne_0
        simp (disch := omega) only [r_chk, bS, r_isCopy, hcC, b2i_eq0, Bool.true_eq_false, if_false, if_true, r_waitingAll h hV hc, i_eq0, e0, rR7, j180, nI_add, r_mem, h.len hc, r_movesWaiting h hV hc, j20, i_le, show (wL W c).length + aMw W c ≤ 20 by omega, a1, rP13, b1, c1, d1, ho, rP14, p1, q1]
      · show RW _ 0 (dTa W c)
        rw [ew]; exact q2
      · rw [f14, ← hX]
        have : tr (dTa W c) c = mBld 1000 (aAll W c) 0 (wB W c) := by
          rw [dTa_eq]
          show mBld 1000 (fset _ c (aAll W c) c) 0 (wB (aHA (aHA (aHA W c 0) c 1) c 2) c) = _
          rw [fset_s, aHA_B, aHA_B, aHA_B]
        exact congrArg nI (congrArg (mOt (tr W c)) this.symm)
      · exact ((((((a2.x.tr (RX.fld (by omega))).tr b5).tr c3.x).tr d4.x).tr (RX.fld (by omega))).tr p3.x).tr q3.x
/-- a loop that goes on elsewhere behind its copies -/
theorem r_cutsOne46 {c m a : Nat} (hc : c < 3) : ∀ d j fuel (S : o_S), j + d = 56 → d < fuel → l_X10_cutsOne_46 fuel (ov S n) 296 (nI c) (nI m) (nI a) (nI j) = l_X10_cutsOne_82 q_FU (ov (fw (fun k S => o_sI S 299 (upd (S.2.1 299) (12 + 4 * (14 * c) + k) (S.2.1 302 (0 + k)))) S j d) n) 296 (nI c) (nI m) (nI a) 0 := by
  intro d
  induction d with
  | zero =>
    intro j fuel S hj hf
    obtain ⟨f, rfl⟩ : ∃ f, fuel = f + 1 := ⟨fuel - 1, by omega⟩
    show b_X10_cutsOne_46 _ _ _ _ _ _ _ = _
    unfold b_X10_cutsOne_46
    simp (disch := omega) only [j2, j3, j4, j5, j6, j7, j8, j9, j10, j12, j14, j20, j40, j48, j49, j56, j80, j96, j180, j183, j483, j492, j708, j2401, j1000000, nI_1, nI_add, pk_mul, i_le, i_lt, i_eq, i_lt0, i_0le, i_le0, i_eq0, i_0lt, i_eq1, i_eqm1, i_sub1, i_addm1, pk_sub, i_add0, b2i_eq0, b2i_1, i_bit, if_true, if_false, if_pos, fw]
  | succ d ih =>
    intro j fuel S hj hf
    obtain ⟨f, rfl⟩ : ∃ f, fuel = f + 1 := ⟨fuel - 1, by omega⟩
    show b_X10_cutsOne_46 _ _ _ _ _ _ _ = _
    unfold b_X10_cutsOne_46
    simp (disch := omega) only [j2, j3, j4, j5, j6, j7, j8, j9, j10, j12, j14, j20, j40, j48, j49, j56, j80, j96, j180, j183, j483, j492, j708, j2401, j1000000, nI_1, nI_add, pk_mul, i_le, i_lt, i_eq, i_lt0, i_0le, i_le0, i_eq0, i_0lt, i_eq1, i_eqm1, i_sub1, i_addm1, pk_sub, i_add0, b2i_eq0, b2i_1, i_bit, if_true, if_false, rR2, rR3, rR7, rR8, rR10, rR11, rR15, rR16, rR17, rR18, rR19, rR20, rR21, rR22, rR23, rR25, rI0, rI1, rI4, rI5, rI6, rI9, rI12, rI13, rI14, rI24, rP0, rP1, rP4, rP5, rP6, rP9, rP12, rP13, rP14, rP24, r_chk, bS, r_mem, r_memS, r_lst, r_lstS, r_tre, r_treS, r_voi, r_voiS, if_neg, r_baseOf0, idS, fw]
    rw [ih (j + 1) f _ (by omega) (by omega), Nat.zero_add]
theorem r_cutsOne82 {c m a : Nat} (hc : c < 3) (hm : m ≤ a) (ha : a ≤ 20) : ∀ d j fuel (S : o_S), j + d = 5 * (a - m) → d < fuel → l_X10_cutsOne_82 fuel (ov S n) 296 (nI c) (nI m) (nI a) (nI j) = some (ov (o_sI (fw (fun k S => o_sI S 299 (upd (S.2.1 299) (183 + 5 * (20 * c) + k) (S.2.1 299 (183 + 5 * (20 * c + m) + k)))) S j d) 299 (upd ((fw (fun k S => o_sI S 299 (upd (S.2.1 299) (183 + 5 * (20 * c) + k) (S.2.1 299 (183 + 5 * (20 * c + m) + k)))) S j d).2.1 299) (180 + c) (nI (a - m)))) n, nI m) := by
  intro d
  induction d with
  | zero =>
    intro j fuel S hj hf
    obtain ⟨f, rfl⟩ : ∃ f, fuel = f + 1 := ⟨fuel - 1, by omega⟩
    show b_X10_cutsOne_82 _ _ _ _ _ _ _ = _
    unfold b_X10_cutsOne_82
    simp (disch := omega) only [j2, j3, j4, j5, j6, j7, j8, j9, j10, j12, j14, j20, j40, j48, j49, j56, j80, j96, j180, j183, j483, j492, j708, j2401, j1000000, nI_1, nI_add, pk_mul, i_le, i_lt, i_eq, i_lt0, i_0le, i_le0, i_eq0, i_0lt, i_eq1, i_eqm1, i_sub1, i_addm1, pk_sub, i_add0, b2i_eq0, b2i_1, i_bit, if_true, if_false, rR2, rR3, rR7, rR8, rR10, rR11, rR15, rR16, rR17, rR18, rR19, rR20, rR21, rR22, rR23, rR25, rI0, rI1, rI4, rI5, rI6, rI9, rI12, rI13, rI14, rI24, rP0, rP1, rP4, rP5, rP6, rP9, rP12, rP13, rP14, rP24, r_chk, bS, r_mem, r_memS, r_lst, r_lstS, r_tre, r_treS, r_voi, r_voiS, if_pos, fw, idS]
  | succ d ih =>
    intro j fuel S hj hf
    obtain ⟨f, rfl⟩ : ∃ f, fuel = f + 1 := ⟨fuel - 1, by omega⟩
    show b_X10_cutsOne_82 _ _ _ _ _ _ _ = _
    unfold b_X10_cutsOne_82
    simp (disch := omega) only [j2, j3, j4, j5, j6, j7, j8, j9, j10, j12, j14, j20, j40, j48, j49, j56, j80, j96, j180, j183, j483, j492, j708, j2401, j1000000, nI_1, nI_add, pk_mul, i_le, i_lt, i_eq, i_lt0, i_0le, i_le0, i_eq0, i_0lt, i_eq1, i_eqm1, i_sub1, i_addm1, pk_sub, i_add0, b2i_eq0, b2i_1, i_bit, if_true, if_false, rR2, rR3, rR7, rR8, rR10, rR11, rR15, rR16, rR17, rR18, rR19, rR20, rR21, rR22, rR23, rR25, rI0, rI1, rI4, rI5, rI6, rI9, rI12, rI13, rI14, rI24, rP0, rP1, rP4, rP5, rP6, rP9, rP12, rP13, rP14, rP24, r_chk, bS, r_mem, r_memS, r_lst, r_lstS, r_tre, r_treS, r_voi, r_voiS, if_neg, r_moveOf0, r_moveOf, idS, fw]
    rw [ih (j + 1) f _ (by omega) (by omega)]
theorem r_cut {S : o_S} (h : RW (S.2.1 299) 0 W) (hV : V T W) (hT : T ≤ 100000) {c : Nat} (hc : c < 3) : ∃ S', f_X10_cutsOne (ov S n) 296 (nI c) = some (ov S' n, (dCt W c).1) ∧ RW (S'.2.1 299) 0 (dCt W c).2 ∧ RX S S' := by
  have hcC : inR 0 3 (nI c) = true := by rw [inR_nI (by omega)]; simp [hc]
  have hl20 := (hV.2.2.1 c hc).1
  unfold dCt
  have hm := mCm_le (mSt2 (wH W c) c) (wL W c)
  have hcm := r_cutMany (n := n) h hV hT hc
  generalize mCm (mSt2 (wH W c) c) (wL W c) = m at hm hcm
  obtain ⟨S1, a1, a2, a3⟩ := r_loadsW (n := n) hc h (hV.lb hc)
  have h2 : RW ((o_sf S1 296 9 (nI m)).2.1 299) 0 W := by rw [s_F2, a3.m]; exact h
  have l2 : LL (o_sf S1 296 9 (nI m)) ((wL W c).take m) := by
    refine ⟨by rw [s_F, if_pos rfl, pk_us, List.length_take, Nat.min_eq_left hm], by rw [List.length_take]; omega, fun i k hk => ?_⟩
    have hi : i < m := by
      have := (List.getElem?_eq_some_iff.mp hk).1
      rw [List.length_take] at this
      omega
    rw [List.getElem?_take_of_lt hi] at hk
    exact a2.2.2 i k hk
  obtain ⟨S3, b1, b2, -, b4⟩ := r_growW (n := n) (s := 0) hV h2 hc (by omega) l2 (fun x hx => ((hV.2.2.1 c hc).2.2 x (List.mem_of_mem_take hx)).1) w_none
  have b1 : f_X10_grows (ov (o_sf S1 296 9 (nI m)) n) 296 0 (nI c) (-1) = some (ov S3 n, ()) := b1
  have h3 : RW (S3.2.1 299) 0 W := by rw [b4.m]; exact h2
  have k46 := r_cutsOne46 (n := n) (m := m) (a := (wL W c).length) hc 56 0 q_FU S3 (by omega) (q_FU_lt (by omega))
  rw [cp_fw 302 299 0 (12 + 4 * (14 * c)) 56 S3 0 (by omega)] at k46
  have k82 := r_cutsOne82 (n := n) (m := m) (a := (wL W c).length) hc hm hl20 (5 * ((wL W c).length - m)) 0 q_FU (o_sI S3 299 (va_cpy (S3.2.1 302) (S3.2.1 299) (0 + 0) (12 + 4 * (14 * c) + 0) 56)) (by omega) (q_FU_lt (by omega))
  rw [cp_fw 299 299 (183 + 5 * (20 * c + m)) (183 + 5 * (20 * c)) _ _ 0 (by omega)] at k82
  have k82' := k46.trans k82
  simp only [s_twice, sI_I] at k82'
  generalize hJ1 : va_cpy (S3.2.1 302) (S3.2.1 299) (0 + 0) (12 + 4 * (14 * c) + 0) 56 = J1 at k82'
  generalize hJ2 : upd (va_cpy J1 J1 (183 + 5 * (20 * c + m) + 0) (183 + 5 * (20 * c) + 0) (5 * ((wL W c).length - m))) (180 + c) (nI ((wL W c).length - m)) = J2 at k82'
  refine ⟨o_sI S3 299 J2, ?_, ?_, ?_⟩
  · unfold f_X10_cutsOne b_X10_cutsOne_0
    simp (disch := omega) only [r_chk, bS, r_isCopy, hcC, b2i_eq0, Bool.true_eq_false, if_false, hcm, rR7, j180, nI_add, r_mem, h.len hc, a1, rP9, b1]
    exact k82'
  · rw [sI_I]
    have hJ : ∀ j, J1 j = if 12 + 4 * (14 * c) ≤ j ∧ j < 12 + 4 * (14 * c) + 56 then S3.2.1 302 (j - (12 + 4 * (14 * c))) else S3.2.1 299 j := by
      intro j
      rw [← hJ1]
      by_cases hj : 12 + 4 * (14 * c) ≤ j ∧ j < 12 + 4 * (14 * c) + 56
      · rw [if_pos hj, pk_cpy_in (by omega) (by omega), show 0 + 0 + (j - (12 + 4 * (14 * c) + 0)) = j - (12 + 4 * (14 * c)) by omega]
      · rw [if_neg hj, pk_cpy_out (by omega)]
    have hK : ∀ j, J2 j = if j = 180 + c then nI ((wL W c).length - m) else if 183 + 5 * (20 * c) ≤ j ∧ j < 183 + 5 * (20 * c) + 5 * ((wL W c).length - m) then J1 (5 * m + j) else J1 j := by
      intro j
      rw [← hJ2]
      by_cases h1 : j = 180 + c
      · rw [if_pos h1, h1, pk_us]
      · rw [if_neg h1, pk_un h1]
        by_cases hj : 183 + 5 * (20 * c) ≤ j ∧ j < 183 + 5 * (20 * c) + 5 * ((wL W c).length - m)
        · rw [if_pos hj, pk_cpy_in (by omega) (by omega), show 183 + 5 * (20 * c + m) + 0 + (j - (183 + 5 * (20 * c) + 0)) = 5 * m + j by omega]
        · rw [if_neg hj, pk_cpy_out (by omega)]
    refine ⟨?_, ?_, ?_, ?_, ?_⟩
    · exact h3.1.cg (fun j h1 => by rw [hK, if_neg (by omega), if_neg (by omega), hJ, if_neg (by omega)])
    · exact h3.2.1.cg (fun j h1 h2 => by rw [hK, if_neg (by omega), if_neg (by omega), hJ, if_neg (by omega)])
    · intro d j q hd hj hq
      rw [hK, if_neg (by omega), if_neg (by omega), hJ]
      by_cases e : d = c
      · subst e
        rw [if_pos (by omega), show wB (aCut W d m) d = mBld 1000 ((wL W d).take m) 0 (wB W d) from fset_s _ _ _, ← b2.2 j hj q hq, show 0 + 12 + 4 * (14 * d + j) + q - (12 + 4 * (14 * d)) = 4 * (14 * 0 + j) + q by omega]
      · rw [if_neg (by omega), show wB (aCut W c m) d = wB W d from fset_n _ _ e]
        exact h3.2.2.1 d j q hd hj hq
    · intro d hd
      by_cases e : d = c
      · subst e
        rw [show wL (aCut W d m) d = (wL W d).drop m from fset_s _ _ _]
        refine ⟨by rw [List.length_drop]; omega, by rw [hK, if_pos (by omega), List.length_drop], fun i k q hk hq => ?_⟩
        rw [List.getElem?_drop] at hk
        have hi := (List.getElem?_eq_some_iff.mp hk).1
        rw [hK, if_neg (by omega), if_pos (by omega), hJ, if_neg (by omega), ← h3.mv hd hk hq, show 5 * m + (0 + 183 + 5 * (20 * d + i) + q) = 183 + 5 * (20 * d + (m + i)) + q by omega]
      · obtain ⟨x1, x2, x3⟩ := h3.2.2.2.1 d hd
        rw [show wL (aCut W c m) d = wL W d from fset_n _ _ e]
        refine ⟨x1, by rw [hK, if_neg (by omega), if_neg (by omega), hJ, if_neg (by omega)]; exact x2, fun i k q hk hq => ?_⟩
        have hi := (List.getElem?_eq_some_iff.mp hk).1
        rw [hK, if_neg (by omega), if_neg (by omega), hJ, if_neg (by omega)]
        exact x3 i k q hk hq
    · exact h3.2.2.2.2.cg (fun j h1 h2 => by rw [hK, if_neg (by omega), if_neg (by omega), hJ, if_neg (by omega)])
  · refine ((a3.x.tr (RX.fld (k := 9) (v := nI m) (by omega))).tr b4.x).tr ⟨(AG_sI _ _ _).mono (fun b q => by omega), fun _ _ _ _ _ => rfl, fun j hj => ?_⟩
    rw [sI_I, ← hJ2, pk_un (by omega), pk_cpy_out (by omega), ← hJ1, pk_cpy_out (by omega)]
/-- blocks of the memory -/
theorem r_copies {S : o_S} {a b : Nat} (ha : a < 4) (hb : b < 4) (hab : a ≠ b) : ∃ S', f_X10_copies (ov S n) 296 (nI a) (nI b) = some (ov S' n, ()) ∧ (∀ j, j < 708 → S'.2.1 299 (708 * b + j) = S.2.1 299 (708 * a + j)) ∧ (∀ j, (j < 708 * b ∨ 708 * b + 708 ≤ j) → S'.2.1 299 j = S.2.1 299 j) ∧ AG (fun x => x = 299) S S' := by
  refine ⟨o_sI S 299 (va_cpy (S.2.1 299) (S.2.1 299) (a * 708 + 0) (b * 708 + 0) 708), ?_, fun j hj => ?_, fun j hj => ?_, AG_sI _ _ _⟩
  · unfold f_X10_copies b_X10_copies_0
    rw [r_chk]
    have := fw_loop (fun fuel (S' : o_S) j => l_X10_copies_2 fuel (ov S' n) 296 (nI a) (nI b) (nI j)) (fun k S => o_sI S 299 (upd (S.2.1 299) (b * 708 + k) (S.2.1 299 (a * 708 + k)))) (fun S => (ov S n, ())) (fun _ => True) 0 708 (fun fuel S' _ => by
      show b_X10_copies_2 _ _ _ _ _ _ = _
      unfold b_X10_copies_2
      simp (disch := omega) only [j2, j3, j4, j5, j6, j7, j8, j9, j10, j12, j14, j20, j40, j48, j49, j56, j80, j96, j180, j183, j483, j492, j708, j2401, j1000000, nI_1, nI_add, pk_mul, i_le, i_lt, i_eq, i_lt0, i_0le, i_le0, i_eq0, i_0lt, i_eq1, i_eqm1, i_sub1, i_addm1, pk_sub, i_add0, b2i_eq0, b2i_1, i_bit, if_true, if_false, Nat.le_refl]) (fun fuel S' j _ _ h2 => ⟨trivial, by
      show b_X10_copies_2 _ _ _ _ _ _ = _
      unfold b_X10_copies_2
      simp (disch := omega) only [j2, j3, j4, j5, j6, j7, j8, j9, j10, j12, j14, j20, j40, j48, j49, j56, j80, j96, j180, j183, j483, j492, j708, j2401, j1000000, nI_1, nI_add, pk_mul, i_le, i_lt, i_eq, i_lt0, i_0le, i_le0, i_eq0, i_0lt, i_eq1, i_eqm1, i_sub1, i_addm1, pk_sub, i_add0, b2i_eq0, b2i_1, i_bit, if_true, if_false, rR2, rR3, rR7, rR8, rR10, rR11, rR15, rR16, rR17, rR18, rR19, rR20, rR21, rR22, rR23, rR25, rI0, rI1, rI4, rI5, rI6, rI9, rI12, rI13, rI14, rI24, rP0, rP1, rP4, rP5, rP6, rP9, rP12, rP13, rP14, rP24, r_chk, bS, r_mem, r_memS, r_lst, r_lstS, r_tre, r_treS, r_voi, r_voiS, show ¬ 708 ≤ j by omega, idS]⟩) 708 0 q_FU S trivial (by omega) (by omega) (q_FU_lt (by omega))
    have hne : 299 ≠ 299 ∨ b * 708 ≤ a * 708 ∨ a * 708 + (0 + 708) ≤ b * 708 := by omega
    rw [cp_fw 299 299 (a * 708) (b * 708) 708 S 0 hne] at this
    exact this
  · rw [sI_I, pk_cpy_in (by omega) (by omega), show a * 708 + 0 + (708 * b + j - (b * 708 + 0)) = 708 * a + j by omega]
  · rw [sI_I, pk_cpy_out (by omega)]
end RD
