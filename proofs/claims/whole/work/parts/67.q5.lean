/-! THE PUBLIC METHODS 5: late, then, keep, again, count -/
section P5
variable {S : o_S} {n : Nat × Nat × Nat} {A : aS} {T : Nat}
theorem k46 : kWorld 46 := kWorld_at 46 (by omega)
theorem k1 : kWorld 1 := kWorld_at 1 (by omega)
theorem x_tri (H : CR S A) : ∃ S', f_X8_copyFrom (ov S n) 46 1 = some (ov S' n, ()) ∧ CW S' 46 (sW A) ∧ CR S' A ∧ AG (fun b => 46 ≤ b ∧ b < 91) S S' := by
  obtain ⟨S', g1, g2, g3⟩ := x_cpyW (n := n) k46 H.1 (by omega) H.2.1
  exact ⟨S', g1, g2, H.tri g3 (fun b q => Or.inl (by omega)) g2.xtr, g3.mono (fun b q => by omega)⟩
theorem tk_tr (W : aW) (f t k : Nat) (r : List Nat) : tr (dTk W f t k r) t = mBld 1000 (if mHm k then mIns k (wL W t) else wL W t) 0 (wB W t) := by
  show mBld 1000 (fset _ t _ t) 0 _ = _
  rw [fset_s]
  rfl
theorem ag_late (h : OKA T A) (hT : T ≤ 100000) (x y : Int32) : AGR T A (fun h => f_X9_late h 0 x y) (fun h => f_X10_late h 296 x y) := by
  by_cases e : two x y = true
  · obtain ⟨f, t, hf, ht, hft, rfl, rfl⟩ := two_t e
    have hy6 := (h.1.2.2.2.2.1 f t hf ht).1
    cases hy : wY (sW A) (3 * f + t) with
    | nil =>
      refine ⟨-2, A, fun S n H => ⟨S, ?_, H, AG.rf⟩, fun S n H => ⟨_, ?_, H.fld (k := 0) 0 (by omega) (by omega), (RZ.fld 0 (by omega) (by omega)).ag⟩, h.mono (by omega)⟩
      · have hS := s_gI (n := n) (H.wy (i := 3 * f + t) (by omega))
        rw [hy] at hS
        have hS : q_gI 4 1 (ov S n) (28 + 2 * (3 * f + t)) = some 0 := hS
        unfold f_X9_late b_X9_late_0
        simp only [x_chk, x_areTwo, e, b2i_eq0, Bool.true_eq_false, if_false, xR0, u_way hf ht, bS, hS, if_true]
      · have H0 : RR (o_sf S 296 0 0) A := H.fld 0 (by omega) (by omega)
        have hw := r_waiting (n := n) H0.1.2.2.2.2 hf ht
        rw [hy] at hw
        have hw : f_X10_waiting (ov (o_sf S 296 0 0) n) 296 (nI f) (nI t) = some (ov (o_sf S 296 0 0) n, 0) := hw
        unfold f_X10_late b_X10_late_0
        simp only [r_chk, rP0, bS, r_areTwo, e, b2i_eq0, Bool.true_eq_false, if_false, hw, if_true]
    | cons k r =>
      obtain ⟨M, hM1, hM2⟩ := h.1.sm
      obtain ⟨p1, p2, p3⟩ := (hM1 t ht).put (k := k) (fun hm => hM2 f t hf ht k (by rw [hy]; simp) hm)
      have hlen := (h.1.2.2.1 t ht).1
      have htm : wT (sW A) t < 2 ^ 31 := by have := h.1.1 t ht; omega
      have eu : (if mHm k then (wL (sW A) t).length - mPos k (wL (sW A) t) (wL (sW A) t).length else 0) = (if mHm k then (wL (sW A) t).countP (mLs k) else 0) := by
        split
        · rename_i q; exact p3 q
        · rfl
      have et : mBld 1000 (mPut k (wL (sW A) t)) 0 (wB (sW A) t) = tr (dTk (sW A) f t k r) t := by rw [tk_tr, p1]
      have hyl : (wY (sW A) (3 * f + t)).length ≠ 0 := by rw [hy]; simp
      refine ⟨nI (if mHm k then (wL (sW A) t).countP (mLs k) else 0), sRow A [Int32.toInt64 (nI (mOt (tr (sW A) t) (tr (dTk (sW A) f t k r) t)))], fun S n H => ?_, fun S n H => ?_, h.row (by omega) _⟩
      · obtain ⟨S1, g1, g2, g3, g4⟩ := x_tri (n := n) H
        obtain ⟨S2, l1, l2, l3⟩ := x_takeNext (n := n) g2 hf ht hy htm (by omega)
        rw [eu] at l1
        have H2 : CR S2 A := g3.tri l3 (fun b q => Or.inl (by omega)) l2.xtr
        have ho := t_otherThan (n := n) (H2.te ht) (l2.te46 ht)
        obtain ⟨S3, q1, q2, q3⟩ := x_tell (n := n) H2 (Int32.toInt64 (nI (mOt (tr (sW A) t) (tr (dTk (sW A) f t k r) t))))
        have hS := s_gI (n := n) (H.wy (i := 3 * f + t) (by omega))
        refine ⟨S3, ?_, q2, (g4.tr l3 (C := fun b => b < 296) (fun b q => by omega) (fun b q => by omega)).tr q3 (fun b q => q) (fun b q => by omega)⟩
        unfold f_X9_late b_X9_late_0
        simp only [x_chk, x_areTwo, e, b2i_eq0, Bool.true_eq_false, if_false, xR0, xR1, xR4, u_way hf ht, bS, hS, i_eq0 (show (wY (sW A) (3 * f + t)).length < 2 ^ 31 by omega), hyl, g1, l1, u_R0, u_cp ht, u_R5 ht, v_R0, v_cp ht, v_R5 ht, ho, q1]
      · have H0 : RR (o_sf S 296 0 0) A := H.fld 0 (by omega) (by omega)
        have hw := r_waiting (n := n) H0.1.2.2.2.2 hf ht
        obtain ⟨S1, g1, g2, g3, g4, g5, g6⟩ := r_tries (n := n) H0.1 h.1 hf ht hy
        rw [et] at g5
        have H1 : RR S1 A := H0.zs g6.z g3
        obtain ⟨S3, q1, q2, q3⟩ := r_tell (n := n) H1 (Int32.toInt64 (nI (mOt (tr (sW A) t) (tr (dTk (sW A) f t k r) t))))
        have e14 : (o_sf S1 296 1 0).1 296 14 = nI (mOt (tr (sW A) t) (tr (dTk (sW A) f t k r) t)) := by rw [s_F, if_pos rfl, pk_un (by omega), g5]
        have e13 : S3.1 296 13 = nI (if mHm k then (wL (sW A) t).countP (mLs k) else 0) := by rw [q3.2 13 (by omega), g4]
        refine ⟨S3, ?_, q2, ((RZ.fld 0 (by omega) (by omega)).tr g6.z).ag.tr q3.ag (fun _ q => q) (fun _ q => q)⟩
        unfold f_X10_late b_X10_late_0
        simp only [r_chk, rP0, bS, r_areTwo, e, b2i_eq0, Bool.true_eq_false, if_false, hw, i_eq0 (show (wY (sW A) (3 * f + t)).length < 2 ^ 31 by omega), hyl, g1, rP1, rI14, e14, q1, rI13, e13]
  · have e' : two x y = false := by simpa using e
    refine ⟨-1, A, fun S n H => ⟨S, ?_, H, AG.rf⟩, fun S n H => ⟨_, ?_, H.fld (k := 0) 0 (by omega) (by omega), (RZ.fld 0 (by omega) (by omega)).ag⟩, h.mono (by omega)⟩
    · unfold f_X9_late b_X9_late_0
      simp only [x_chk, x_areTwo, e', b2i_eq0, if_true, bS]
    · unfold f_X10_late b_X10_late_0
      simp only [r_chk, rP0, bS, r_areTwo, e', b2i_eq0, if_true]
/-! then -/
def gP (E : Nat → Nat) (j : Nat) (r : List Int64) : List Int64 := r ++ [Int32.toInt64 (eT (E j) 0)]
theorem gP_len (E : Nat → Nat) : ∀ d j r, (fw (gP E) r j d).length = r.length + d := by
  intro d
  induction d with
  | zero => intro j r; rfl
  | succ d ih =>
    intro j r
    show (fw (gP E) (gP E j r) (j + 1) d).length = _
    rw [ih]
    simp [gP]
    omega
def mFo (E : Nat → Nat) : Nat := fw (mSt (fun j => decide (E j ≠ 0))) 0 2 12
theorem fo_lt (E : Nat → Nat) : mFo E < 2 ^ 20 := Nat.lt_trans (mSet_lt _ (by omega)) (by omega)
theorem x_thL {t : Nat} {E : Nat → Nat} (ht : t + 1 ≠ 93 ∧ t + 1 ≠ 94) : ∀ d j fuel (S : o_S) (A : aS), j + d = 14 → 2 ≤ j → d < fuel → CR S A → TE S t E → (sR A).length + d ≤ 80 → ∃ S', l_X9_then_50 fuel (ov S n) 0 t (nI j) = some (ov S' n, nI (cbit 20 (mFo E))) ∧ CR S' (sRow A (fw (gP E) (sR A) j d)) ∧ AG (fun b => b = 93 ∨ b = 94) S S' := by
  intro d
  induction d with
  | zero =>
    intro j fuel S A hj h2 hf H hE hl
    obtain ⟨f, rfl⟩ : ∃ f, fuel = f + 1 := ⟨fuel - 1, by omega⟩
    refine ⟨S, ?_, H, AG.rf⟩
    show b_X9_then_50 _ _ _ _ _ = _
    unfold b_X9_then_50
    simp (disch := omega) only [show (14 : Int32) = nI 14 from rfl, i_le, show 14 ≤ j by omega, if_true, t_folders hE, bS]
    show Option.bind (f_J6_bitCount_0f7a4 (ov S n) (nI (mFo E))) _ = _
    rw [x_bitCount _ (fo_lt E)]
    rfl
  | succ d ih =>
    intro j fuel S A hj h2 hf H hE hl
    obtain ⟨f, rfl⟩ : ∃ f, fuel = f + 1 := ⟨fuel - 1, by omega⟩
    obtain ⟨S1, k1, k2, k3⟩ := x_add (n := n) H (by omega) (Int32.toInt64 (eT (E j) 0))
    obtain ⟨S2, g1, g2, g3⟩ := ih (j + 1) f S1 (sRow A (sR A ++ [Int32.toInt64 (eT (E j) 0)])) (by omega) (by omega) (by omega) k2 (hE.ag k3 (by omega)) (by rw [sRr]; simp; omega)
    refine ⟨S2, ?_, g2, k3.tr g3 (fun _ q => q) (fun _ q => q)⟩
    have hth : mTh E j = decide (E j ≠ 0) := by simp [mTh]; omega
    have hb := (hE.2 j (by omega)).2
    show b_X9_then_50 _ _ _ _ _ = _
    unfold b_X9_then_50 b_X9_then_84
    simp (disch := omega) only [show (14 : Int32) = nI 14 from rfl, i_le, show ¬ 14 ≤ j by omega, if_false, xR4, bS, t_isThere hE (show j < 16 by omega), b2i_eq0, hth, t_get hE, t_ld hE (show j < 16 by omega), c_parent _ hb, nI_1]
    by_cases e : E j = 0
    · have e0 : eT (E j) 0 = -1 := by rw [e]; rfl
      have e1 : Int32.toInt64 (-1) = -1 := by decide
      rw [e0, e1] at k1
      simp only [e, ne_eq, not_true, decide_false, if_true, k1, bS, g1]
    · rw [eT_0n e] at k1
      simp only [e, ne_eq, not_false_eq_true, decide_true, Bool.true_eq_false, if_false, k1, bS, g1]
theorem r_thL {E : Nat → Nat} : ∀ d j fuel (S : o_S) (A : aS), j + d = 14 → 2 ≤ j → d < fuel → RR S A → TT S 0 E → (sR A).length + d ≤ 80 → ∃ S', l_X10_then_38 fuel (ov S n) 296 (nI j) = some (ov S' n, nI (cbit 20 (mFo E))) ∧ RR S' (sRow A (fw (gP E) (sR A) j d)) ∧ RE S S' := by
  intro d
  induction d with
  | zero =>
    intro j fuel S A hj h2 hf H hE hl
    obtain ⟨f, rfl⟩ : ∃ f, fuel = f + 1 := ⟨fuel - 1, by omega⟩
    refine ⟨S, ?_, H, RE.rf⟩
    have hfo : f_X10_folders (ov S n) 296 0 = some (ov S n, nI (mFo E)) := r_folders (s := 0) hE
    show b_X10_then_38 _ _ _ _ = _
    unfold b_X10_then_38
    simp (disch := omega) only [show (14 : Int32) = nI 14 from rfl, i_le, show 14 ≤ j by omega, if_true, hfo, bS, r_bitsOf _ (fo_lt E)]
  | succ d ih =>
    intro j fuel S A hj h2 hf H hE hl
    obtain ⟨f, rfl⟩ : ∃ f, fuel = f + 1 := ⟨fuel - 1, by omega⟩
    obtain ⟨S1, k1, k2, k3⟩ := r_enters (n := n) H (by omega) (Int32.toInt64 (eT (E j) 0))
    obtain ⟨S2, g1, g2, g3⟩ := ih (j + 1) f S1 (sRow A (sR A ++ [Int32.toInt64 (eT (E j) 0)])) (by omega) (by omega) (by omega) k2 (hE.re k3) (by rw [sRr]; simp; omega)
    have hits : f_X10_its (ov S n) 296 0 (nI j) 0 = some (ov S n, eT (E j) 0) := r_its0 hE (by omega)
    refine ⟨S2, ?_, g2, k3.tr g3⟩
    show b_X10_then_38 _ _ _ _ = _
    unfold b_X10_then_38
    simp (disch := omega) only [show (14 : Int32) = nI 14 from rfl, i_le, show ¬ 14 ≤ j by omega, if_false, hits, bS, k1, nI_1, g1]
theorem ta_tr (W : aW) (c : Nat) : tr (dTa W c) c = mBld 1000 (aAll W c) 0 (wB W c) := by
  rw [dTa_eq]
  show mBld 1000 (fset _ c (aAll W c) c) 0 (wB (aHA (aHA (aHA W c 0) c 1) c 2) c) = _
  rw [fset_s, aHA_B, aHA_B, aHA_B]
theorem ag_then (h : OKA T A) (hT : T ≤ 100000) (x : Int32) : AGR T A (fun h => f_X9_then h 0 x) (fun h => f_X10_then h 296 x) := by
  by_cases e : inR 0 3 x = true
  · obtain ⟨c, -, hc, rfl⟩ := inR_t e (by omega)
    have hlen := (h.1.2.2.1 c hc).1
    have hwf := h.1.wf hc
    have htm : wT (sW A) c < 2 ^ 31 := by have := h.1.1 c hc; omega
    obtain ⟨E, hE⟩ : ∃ E, E = tr (dTa (sW A) c) c := ⟨_, rfl⟩
    refine ⟨nI (cbit 20 (mFo E)), sRow A (fw (gP E) [] 2 12), fun S n H => ?_, fun S n H => ?_, h.row (by omega) _⟩
    · obtain ⟨S1, g1, g2, g3, g4⟩ := x_tri (n := n) H
      obtain ⟨S2, l1, l2, l3⟩ := x_takeAll (n := n) g2 hc htm (by omega)
      have H2 : CR S2 A := g3.tri l3 (fun b q => Or.inl (by omega)) l2.xtr
      have hte := l2.te46 hc
      rw [← hE] at hte
      obtain ⟨S3, q1, q2, q3⟩ := x_thL (n := n) (t := 49 + 8 * c + 6) (E := E) (by omega) 12 2 q_FU (o_sf S2 93 1 0) (sRow A []) (by omega) (by omega) (q_FU_lt (by omega)) (x_row0 H2) (hte.ag (AG_sf S2 93 1 0) (by omega)) (show 0 + 12 ≤ 80 by omega)
      refine ⟨S3, ?_, q2, ((g4.tr l3 (C := fun b => b < 296) (fun b q => by omega) (fun b q => by omega)).tr (AG_sf S2 93 1 0) (C := fun b => b < 296) (fun b q => q) (fun b q => by omega)).tr q3 (fun b q => q) (fun b q => by omega)⟩
      unfold f_X9_then b_X9_then_0
      simp only [x_chk, x_isCopy, e, b2i_eq0, Bool.true_eq_false, if_false, xR0, xR1, xR4, bS, g1, l1, v_R0, v_cp hc, v_R5 hc, yCl]
      exact q1
    · have H0 : RR (o_sf S 296 0 0) A := H.fld 0 (by omega) (by omega)
      obtain ⟨S1, g1, g2, g3⟩ := r_loadsW (n := n) hc H0.1 (h.1.lb hc)
      have H1 : RR S1 A := H0.zs g3.x.z g3.m
      obtain ⟨S2, l1, l2, l3⟩ := r_putsWaiting (n := n) H1.1 h.1 hc g2
      have H2 : RR S2 A := H1.zs l3.x.z l3.m
      obtain ⟨M, -, hM⟩ := h.1.all hc
      obtain ⟨S3, q1, q2, -, q4⟩ := r_growW (n := n) h.1 H2.1 hc (s := 0) (by omega) l2 (fun k hk => (hM.2 k hk).2) w_none
      rw [← ta_tr, ← hE] at q2
      have H3 : RR S3 A := H2.zs q4.x.z q4.m
      have q1 : f_X10_grows (ov S2 n) 296 0 (nI c) (-1) = some (ov S3 n, ()) := q1
      obtain ⟨S4, u1, u2, u3⟩ := r_thL (n := n) (E := E) 12 2 q_FU (o_sf S3 296 1 0) (sRow A []) (by omega) (by omega) (q_FU_lt (by omega)) (r_row0 H3) (q2.re re_row0) (show 0 + 12 ≤ 80 by omega)
      refine ⟨S4, ?_, u2, (((RZ.fld 0 (by omega) (by omega)).tr g3.x.z).tr (l3.x.z.tr q4.x.z)).ag.tr (re_row0.tr u3).ag (fun _ q => q) (fun _ q => q)⟩
      unfold f_X10_then b_X10_then_0
      simp only [r_chk, rP0, bS, r_isCopy, e, b2i_eq0, Bool.true_eq_false, if_false, g1, l1, q1, rP1]
      exact u1
  · have e' : inR 0 3 x = false := by simpa using e
    refine ⟨-1, A, fun S n H => ⟨S, ?_, H, AG.rf⟩, fun S n H => ⟨_, ?_, H.fld (k := 0) 0 (by omega) (by omega), (RZ.fld 0 (by omega) (by omega)).ag⟩, h.mono (by omega)⟩
    · unfold f_X9_then b_X9_then_0
      simp only [x_chk, x_isCopy, e', b2i_eq0, if_true, bS]
    · unfold f_X10_then b_X10_then_0
      simp only [r_chk, rP0, bS, r_isCopy, e', b2i_eq0, if_true]
/-! keep, again -/
theorem kK {i : Nat} (hi : i < 2) : kWorld (206 + 45 * i) := kWorld_at _ (by omega)
theorem ag_keep (h : OKA T A) (x : Int32) : AGR T A (fun h => f_X9_keep h 0 x) (fun h => f_X10_keep h 296 x) := by
  by_cases e : inR 0 2 x = true
  · obtain ⟨i, -, hi, rfl⟩ := inR_t e (by omega)
    refine ⟨1, (sW A, fset (sK A) i (some (sW A)), sR A, sX A), fun S n H => ?_, fun S n H => ?_, ⟨h.1.mono (by omega), fun j W hW => ?_⟩⟩
    · obtain ⟨S1, g1, g2, g3⟩ := x_cpyW (n := n) (kK hi) H.1 (by omega) (H.2.2.1 i hi).1
      have hag : AG (fun b => (206 + 45 * i ≤ b ∧ b < 206 + 45 * i + 45) ∨ b = 92) S (o_sI S1 92 (upd (S1.2.1 92) i (vp_nar .boolean 1))) := g3.tr (AG_sI _ _ _) (fun b q => Or.inl (by omega)) (fun b q => Or.inr q)
      have g2' : CW (o_sI S1 92 (upd (S1.2.1 92) i (vp_nar .boolean 1))) (206 + 45 * i) (sW A) := g2.ag (AG_sI _ _ _) (fun b h1 h2 q => by omega)
      refine ⟨_, ?_, ⟨H.1.ag hag (fun b h1 h2 q => by omega), H.2.1.ag hag (fun b q => by omega), fun j hj => ?_, H.2.2.2.1.ag hag (fun b q => by omega), H.2.2.2.2.ag hag (fun b q => by omega)⟩, hag.mono (fun b q => by omega)⟩
      · unfold f_X9_keep b_X9_keep_0
        simp (disch := omega) only [x_chk, i_lt0, if_false, show (2 : Int32) = nI 2 from rfl, i_lt, hi, if_true, xR2, kW hi, xR0, bS, g1, xR3, kSt hi]
      · show xTr _ _ ∧ (if (92 : Nat) = 92 then upd (S1.2.1 92) i (vp_nar .boolean 1) else S1.2.1 92) j = b2i (fset (sK A) i (some (sW A)) j).isSome ∧ ∀ W, fset (sK A) i (some (sW A)) j = some W → CW _ _ W
        rw [if_pos rfl]
        by_cases ej : j = i
        · subst ej
          rw [fset_s, pk_us, nar_1]
          exact ⟨g2'.xtr, rfl, fun W hW => by cases hW; exact g2'⟩
        · rw [fset_n _ _ ej, pk_un ej]
          obtain ⟨q1, q2, q3⟩ := H.2.2.1 j hj
          exact ⟨q1.ag hag (fun b q => by omega), by rw [g3.I (by omega)]; exact q2, fun W hW => (q3 W hW).ag hag (fun b h1 h2 q => by omega)⟩
    · have H0 : RR (o_sf S 296 0 0) A := H.fld 0 (by omega) (by omega)
      obtain ⟨S2, g1, g2, g3, g4⟩ := r_copies (S := o_sI (o_sf S 296 0 0) 312 (upd ((o_sf S 296 0 0).2.1 312) i (vp_nar .boolean 1))) (n := n) (a := 0) (b := 1 + i) (by omega) (by omega) (by omega)
      have hag : AG (fun b => b = 296 ∨ b = 299 ∨ b = 312) S S2 := ((AG_sf S 296 0 0).tr (AG_sI _ _ _) (C := fun b => b = 296 ∨ b = 299 ∨ b = 312) (fun b q => Or.inl q) (fun b q => Or.inr (Or.inr q))).tr g4 (fun b q => q) (fun b q => Or.inr (Or.inl q))
      have ef : ∀ k, k ≠ 0 → S2.1 296 k = S.1 296 k := fun k hk => by
        rw [g4.f (by omega), s_I1, s_F, if_pos rfl, pk_un hk]
      have em : ∀ j, j < 708 ∨ (708 * (1 + i) + 708 ≤ j ∨ j < 708 * (1 + i)) → (j < 708 * (1 + i) ∨ 708 * (1 + i) + 708 ≤ j) → S2.2.1 299 j = S.2.1 299 j := fun j _ hj => by
        rw [g3 j hj]
        rfl
      refine ⟨S2, ?_, ⟨H.1.cg (fun j hj => em _ (Or.inl (by omega)) (by omega)), fun j hj => ?_, ⟨H.2.2.1.1, by rw [ef 1 (by omega)]; exact H.2.2.1.2.1, by rw [hag.L (by omega)]; exact H.2.2.1.2.2⟩, ⟨H.2.2.2.1, by rw [ef 4 (by omega)]; exact H.2.2.2.2.1, by rw [hag.I (by omega)]; exact H.2.2.2.2.2⟩⟩, hag.mono (fun b q => by omega)⟩
      · have hin : f_X10_in (ov (o_sf S 296 0 0) n) (Int32.toInt64 (nI i)) 0 1 = some (ov (o_sf S 296 0 0) n, b2i (inR 0 2 (nI i))) := r_in _ _ (lo := 0) (hi := 2) (by decide) (by decide)
        have g1 : f_X10_copies (ov (o_sI (o_sf S 296 0 0) 312 (upd ((o_sf S 296 0 0).2.1 312) i (vp_nar .boolean 1))) n) 296 0 (nI (1 + i)) = some (ov S2 n, ()) := g1
        have e1 : (1 : Int32) + nI i = nI (1 + i) := nI_add 1 i
        unfold f_X10_keep b_X10_keep_0
        simp only [r_chk, rP0, bS, hin, e, b2i_eq0, Bool.true_eq_false, if_false, rR25, rkS hi, e1, g1]
      · have e3 : S2.2.1 312 j = upd (S.2.1 312) i (vp_nar .boolean 1) j := by
          rw [g4.I (by omega), s_I, if_pos rfl]
          rfl
        show S2.2.1 312 j = b2i (fset (sK A) i (some (sW A)) j).isSome ∧ ∀ W, fset (sK A) i (some (sW A)) j = some W → RW _ _ W
        rw [e3]
        by_cases ej : j = i
        · subst ej
          rw [fset_s, pk_us, nar_1]
          refine ⟨rfl, fun W hW => ?_⟩
          cases hW
          exact H.1.cg (fun k hk => by rw [g2 k hk]; rfl)
        · rw [fset_n _ _ ej, pk_un ej]
          refine ⟨(H.2.1 j hj).1, fun W hW => ((H.2.1 j hj).2 W hW).cg (fun k hk => em _ (Or.inr (by omega)) (by omega))⟩
    · by_cases ej : j = i
      · subst ej
        have hW : fset (sK A) j (some (sW A)) j = some W := hW
        rw [fset_s] at hW
        cases hW
        exact h.1.mono (by omega)
      · have hW : fset (sK A) i (some (sW A)) j = some W := hW
        rw [fset_n _ _ ej] at hW
        exact (h.2 j W hW).mono (by omega)
  · have e' : inR 0 2 x = false := by simpa using e
    refine ⟨0, A, fun S n H => ⟨S, ?_, H, AG.rf⟩, fun S n H => ⟨_, ?_, H.fld (k := 0) 0 (by omega) (by omega), (RZ.fld 0 (by omega) (by omega)).ag⟩, h.mono (by omega)⟩
    · rw [x_rng x (show 0 < 2 ^ 31 by omega) (show 2 < 2 ^ 31 by omega)] at e'
      unfold f_X9_keep b_X9_keep_0
      simp only [x_chk]
      by_cases h0 : x < 0
      · simp [h0]
      · have h1 : ¬ x < 2 := by
          have h0' : ¬ x < nI 0 := h0
          have : nI 2 ≤ x := by simpa [h0'] using e'
          exact Int32.not_lt.mpr this
        simp [h0, h1]
    · have hin : f_X10_in (ov (o_sf S 296 0 0) n) (Int32.toInt64 x) 0 1 = some (ov (o_sf S 296 0 0) n, b2i (inR 0 2 x)) := r_in _ _ (lo := 0) (hi := 2) (by decide) (by decide)
      unfold f_X10_keep b_X10_keep_0
      simp only [r_chk, rP0, bS, hin, e', b2i_eq0, if_true]
theorem ag_again (h : OKA T A) (x : Int32) : AGR T A (fun h => f_X9_again h 0 x) (fun h => f_X10_again h 296 x) := by
  have hin : ∀ (S : o_S) (n : Nat × Nat × Nat), f_X10_in (ov (o_sf S 296 0 0) n) (Int32.toInt64 x) 0 1 = some (ov (o_sf S 296 0 0) n, b2i (inR 0 2 x)) := fun S n => r_in _ _ (lo := 0) (hi := 2) (by decide) (by decide)
  by_cases e : inR 0 2 x = true
  · obtain ⟨i, -, hi, rfl⟩ := inR_t e (by omega)
    cases hK : sK A i with
    | none =>
      refine ⟨0, A, fun S n H => ⟨S, ?_, H, AG.rf⟩, fun S n H => ⟨_, ?_, H.fld (k := 0) 0 (by omega) (by omega), (RZ.fld 0 (by omega) (by omega)).ag⟩, h.mono (by omega)⟩
      · have hk := (H.2.2.1 i hi).2.1
        rw [hK] at hk
        have hk : S.2.1 92 i = 0 := hk
        unfold f_X9_again b_X9_again_0
        simp (disch := omega) only [x_chk, i_lt0, if_false, show (2 : Int32) = nI 2 from rfl, i_le, show ¬ 2 ≤ i by omega, xR3, kLd hi, bS, hk, if_true]
      · have hk := (H.2.1 i hi).1
        rw [hK] at hk
        have hk : (o_sf S 296 0 0).2.1 312 i = 0 := hk
        unfold f_X10_again b_X10_again_0
        simp only [r_chk, rP0, bS, hin, e, b2i_eq0, Bool.true_eq_false, if_false, rR25, rkL hi, hk, if_true]
    | some W =>
      refine ⟨1, sWld A W, fun S n H => ?_, fun S n H => ?_, h.wld (by omega) ((h.2 i W hK).mono (by omega))⟩
      · obtain ⟨q1, q2, q3⟩ := H.2.2.1 i hi
        rw [hK] at q2
        have q2 : S.2.1 92 i = 1 := q2
        obtain ⟨S1, g1, g2, g3⟩ := x_cpyW (n := n) k1 (q3 W hK) (by omega) H.1.xtr
        refine ⟨S1, ?_, H.wld g3 (fun b q => Or.inl (by omega)) g2, g3.mono (fun b q => by omega)⟩
        unfold f_X9_again b_X9_again_0
        simp (disch := omega) only [x_chk, i_lt0, if_false, show (2 : Int32) = nI 2 from rfl, i_le, show ¬ 2 ≤ i by omega, xR3, kLd hi, bS, q2, show ¬ (1 : Int32) = 0 by decide, xR0, xR2, kW hi, g1]
      · have H0 : RR (o_sf S 296 0 0) A := H.fld 0 (by omega) (by omega)
        obtain ⟨q2, q3⟩ := H0.2.1 i hi
        rw [hK] at q2
        have q2 : (o_sf S 296 0 0).2.1 312 i = 1 := q2
        obtain ⟨S2, g1, g2, g3, g4⟩ := r_copies (S := o_sf S 296 0 0) (n := n) (a := 1 + i) (b := 0) (by omega) (by omega) (by omega)
        have hz : RZ (o_sf S 296 0 0) S2 := ⟨g4.mono (fun b q => by omega), by rw [g4.f (by omega)], by rw [g4.f (by omega)], fun j h1 h2 => g3 j (by omega)⟩
        refine ⟨S2, ?_, H0.z hz ((q3 W hK).cg (fun j hj => ?_)), ((RZ.fld 0 (by omega) (by omega)).tr hz).ag⟩
        · have g1 : f_X10_copies (ov (o_sf S 296 0 0) n) 296 (nI (1 + i)) 0 = some (ov S2 n, ()) := g1
          have e1 : (1 : Int32) + nI i = nI (1 + i) := nI_add 1 i
          unfold f_X10_again b_X10_again_0
          simp only [r_chk, rP0, bS, hin, e, b2i_eq0, Bool.true_eq_false, if_false, rR25, rkL hi, q2, show ¬ (1 : Int32) = 0 by decide, e1, g1]
        · have := g2 j hj
          rw [Nat.mul_zero] at this
          exact this
  · have e' : inR 0 2 x = false := by simpa using e
    refine ⟨0, A, fun S n H => ⟨S, ?_, H, AG.rf⟩, fun S n H => ⟨_, ?_, H.fld (k := 0) 0 (by omega) (by omega), (RZ.fld 0 (by omega) (by omega)).ag⟩, h.mono (by omega)⟩
    · rw [x_rng x (show 0 < 2 ^ 31 by omega) (show 2 < 2 ^ 31 by omega)] at e'
      unfold f_X9_again b_X9_again_0
      simp only [x_chk]
      by_cases h0 : x < 0
      · simp [h0]
      · have h1 : (2 : Int32) ≤ x := by
          have h0' : ¬ x < nI 0 := h0
          have : nI 2 ≤ x := by simpa [h0'] using e'
          exact this
        simp [h0, h1]
    · unfold f_X10_again b_X10_again_0
      simp only [r_chk, rP0, bS, hin, e', b2i_eq0, if_true]
end P5
