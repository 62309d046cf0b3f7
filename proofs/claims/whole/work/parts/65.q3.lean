/-! THE PUBLIC METHODS 3: voids, questions of a tree -/
theorem cn_one {P Q : Nat → Bool} {p : Nat} : ∀ {d j : Nat}, j ≤ p → p < j + d → (∀ i, i ≠ p → P i = Q i) → P p = true → Q p = false → cn P j d = cn Q j d + 1 := by
  intro d
  induction d with
  | zero => intro j h1 h2; omega
  | succ d ih =>
    intro j h1 h2 h3 h4 h5
    rw [cn_s, cn_s]
    by_cases e : j = p
    · subst e
      rw [h4, h5, cn_cg (P := P) (Q := Q) (fun i q1 q2 => h3 i (by omega))]
      simp
      omega
    · rw [ih (by omega) (by omega) h3 h4 h5, h3 j e]
      omega
theorem ab_bit (E : Nat → Nat) (p i : Nat) : (mAb E p).testBit i = (decide (2 ≤ i ∧ i < 14) && (decide (i ≠ p) && (decide (E i ≠ 0) && mWi E p 14 i))) := by
  unfold mAb
  rw [st_bit0]
theorem aw_bit (E : Nat → Nat) (p i : Nat) : (mAw E p).testBit i = (decide (p = i) || (decide (2 ≤ i ∧ i < 14) && (decide (E i ≠ 0) && mWi E p 14 i))) := by
  unfold mAw
  rw [st_bit, Nat.testBit_two_pow]
theorem ab_lt (E : Nat → Nat) (p : Nat) : mAb E p < 2 ^ 14 := mSet_lt _ (by omega)
theorem aw_lt (E : Nat → Nat) {p : Nat} (hp : p < 14) : mAw E p < 2 ^ 14 := mSet_lt _ (Nat.pow_lt_pow_right (by omega) hp)
theorem ch_lt (E : Nat → Nat) (p : Nat) : mCh E p < 2 ^ 14 := mSet_lt _ (by omega)
theorem ot_lt (E D : Nat → Nat) : mOt E D < 2 ^ 14 := mSet_lt _ (by omega)
theorem aw_cnt (E : Nat → Nat) {p : Nat} (hp : p < 14) : cbit 20 (mAw E p) = cbit 20 (mAb E p) + 1 := by
  rw [cbit_c0, cbit_c0]
  refine cn_one (p := p) (by omega) (by omega) (fun i hi => ?_) ?_ ?_
  · rw [aw_bit, ab_bit, decide_eq_false (fun q => hi q.symm), decide_eq_true hi, Bool.false_or, Bool.true_and]
  · rw [aw_bit, decide_eq_true rfl, Bool.true_or]
  · rw [ab_bit, decide_eq_false (show ¬ p ≠ p from fun q => q rfl), Bool.false_and, Bool.and_false]
section P3
variable {S : o_S} {n : Nat × Nat × Nat} {A : aS} {T : Nat}
theorem x_tellSet (H : CR S A) {v : Nat} (hv : v < 2 ^ 20) : ∃ S', f_X9_tellSet (ov S n) 0 (nI v) = some (ov S' n, nI v) ∧ CR S' (sRow A [Int32.toInt64 (nI (cbit 20 v))]) ∧ AG (fun b => b = 93 ∨ b = 94) S S' := by
  obtain ⟨S1, k1, k2, k3⟩ := x_tell (n := n) H (Int32.toInt64 (nI (cbit 20 v)))
  refine ⟨S1, ?_, k2, k3⟩
  unfold f_X9_tellSet b_X9_tellSet_0
  simp only [x_chk, xR4, bS, x_bitCount _ hv, k1]
theorem r_laysR (h : OKA T A) (H : RR S A) {c s : Nat} (hc : c < 3) (hs : s < 104) : ∃ S', f_X10_lays (ov S n) 296 (nI s) (nI c) = some (ov S' n, ()) ∧ RR S' A ∧ LL S' (wL (sW A) c) ∧ TT S' s (tr (sW A) c) ∧ (∀ j b, (mVl 1000 (wL (sW A) c) 0 (wB (sW A) c))[j]? = some b → S'.2.1 301 j = b2i b) ∧ RZ S S' ∧ (∀ k, k ≠ 9 → S'.1 296 k = S.1 296 k) ∧ ∀ s' E, s' ≠ s → TT S s' E → TT S' s' E := by
  obtain ⟨S', g1, g2, g3, g4, g5, g6, g7, g8⟩ := r_laysF (n := n) h.1 H.1 hc hs
  exact ⟨S', g1, H.zs g5.z g6, g2, g3, g4, g5.z, g7, g8⟩
theorem r_voiL {l : List Bool} (hl : l.length ≤ 20) : ∀ d i fuel (S : o_S) (A : aS) (v : Nat), i + d = l.length → d < fuel → v < 2 ^ 20 → RR S A → S.1 296 9 = nI l.length → (∀ j b, l[j]? = some b → S.2.1 301 j = b2i b) → ∃ S', l_X10_voids_24 fuel (ov S n) 296 (nI v) (nI i) = some (ov S' n, nI (fw (mSt (fun j => (l[j]?).getD false)) v i d)) ∧ RR S' (sRow A [Int32.toInt64 (nI (cbit 20 (fw (mSt (fun j => (l[j]?).getD false)) v i d)))]) ∧ RE S S' := by
  intro d
  induction d with
  | zero =>
    intro i fuel S A v hi hf hv H h9 hj
    obtain ⟨f, rfl⟩ : ∃ f, fuel = f + 1 := ⟨fuel - 1, by omega⟩
    obtain ⟨S1, k1, k2, k3⟩ := r_tell (n := n) H (Int32.toInt64 (nI (cbit 20 v)))
    refine ⟨S1, ?_, k2, k3⟩
    show b_X10_voids_24 _ _ _ _ _ = _
    unfold b_X10_voids_24
    simp only [rI9, h9, bS, i_le (show l.length < 2 ^ 31 by omega) (show i < 2 ^ 31 by omega), show l.length ≤ i by omega, if_true, rP1, r_bitsOf _ hv, k1]
    rfl
  | succ d ih =>
    intro i fuel S A v hi hf hv H h9 hj
    obtain ⟨f, rfl⟩ : ∃ f, fuel = f + 1 := ⟨fuel - 1, by omega⟩
    have hx : l[i]? = some l[i] := List.getElem?_eq_getElem (by omega)
    have hb := hj i _ hx
    obtain ⟨S1, g1, g2, g3⟩ := ih (i + 1) f S A (mSt (fun j => (l[j]?).getD false) i v) (by omega) (by omega) (mSt_lt' (by omega) hv) H h9 hj
    refine ⟨S1, ?_, g2, g3⟩
    show b_X10_voids_24 _ _ _ _ _ = _
    unfold b_X10_voids_24 b_X10_voids_49
    have he : (l[i]?).getD false = l[i] := by rw [hx]; rfl
    simp only [rI9, h9, bS, i_le (show l.length < 2 ^ 31 by omega) (show i < 2 ^ 31 by omega), show ¬ l.length ≤ i by omega, if_false, rR10, r_voi (show i < 40 by omega), hb, b2i_eq0, i_or0, i_bit (show i < 32 by omega), i_or v (2 ^ i) (by omega) (Nat.pow_lt_pow_right (by omega) (by omega)), nI_1]
    show _ = some (ov S1 n, nI (fw _ (mSt (fun j => (l[j]?).getD false) i v) (i + 1) d))
    rw [← g1]
    unfold mSt
    simp only [he]
    cases l[i] <;> rfl
theorem ag_voids (h : OKA T A) (x : Int32) : AGR T A (fun h => f_X9_voids h 0 x) (fun h => f_X10_voids h 296 x) := by
  by_cases e : inR 0 3 x = true
  · obtain ⟨c, -, hc, rfl⟩ := inR_t e (by omega)
    have hl := (h.1.2.2.1 c hc).1
    have hv := vds_lt 1000 (wL (sW A) c) (wB (sW A) c) (N := 20) hl
    refine ⟨nI (mVds 1000 (wL (sW A) c) 0 (wB (sW A) c) 0), sRow A [Int32.toInt64 (nI (cbit 20 (mVds 1000 (wL (sW A) c) 0 (wB (sW A) c) 0)))], fun S n H => ?_, fun S n H => ?_, h.row (by omega) _⟩
    · obtain ⟨S1, k1, k2, k3⟩ := x_tellSet (n := n) H hv
      refine ⟨S1, ?_, k2, k3.mono (fun b q => by omega)⟩
      unfold f_X9_voids b_X9_voids_0
      simp only [x_chk, x_isCopy, e, b2i_eq0, Bool.true_eq_false, if_false, xR0, u_R0, u_cp hc, bS, H.vd hc, k1]
    · have H0 : RR (o_sf S 296 0 0) A := H.fld 0 (by omega) (by omega)
      obtain ⟨S1, g1, g2, g3, g4, g5, g6, -, -⟩ := r_laysR (n := n) h H0 hc (s := 0) (by omega)
      have hln : (mVl 1000 (wL (sW A) c) 0 (wB (sW A) c)).length = (wL (sW A) c).length := vl_len _ _ _ _
      obtain ⟨S2, k1, k2, k3⟩ := r_voiL (n := n) (l := mVl 1000 (wL (sW A) c) 0 (wB (sW A) c)) (by omega) (wL (sW A) c).length 0 q_FU S1 A 0 (by omega) (q_FU_lt (by omega)) (by omega) g2 (by rw [hln]; exact g3.1) g5
      have ev : fw (mSt (fun j => ((mVl 1000 (wL (sW A) c) 0 (wB (sW A) c))[j]?).getD false)) 0 0 (wL (sW A) c).length = mVds 1000 (wL (sW A) c) 0 (wB (sW A) c) 0 := by
        apply Nat.eq_of_testBit_eq
        intro i
        rw [st_bit0, vds_bit0]
        by_cases hi : i < (wL (sW A) c).length
        · rw [decide_eq_true (by omega), Bool.true_and]
        · rw [decide_eq_false (by omega), Bool.false_and, List.getElem?_eq_none (by omega)]
          rfl
      rw [ev] at k1 k2
      refine ⟨S2, ?_, k2, ((RZ.fld 0 (by omega) (by omega)).tr g6).ag.tr k3.ag (fun _ q => q) (fun _ q => q)⟩
      have g1 : f_X10_lays (ov (o_sf S 296 0 0) n) 296 0 (nI c) = some (ov S1 n, ()) := g1
      unfold f_X10_voids b_X10_voids_0
      simp only [r_chk, rP0, bS, r_isCopy, e, b2i_eq0, Bool.true_eq_false, if_false, g1]
      exact k1
  · have e' : inR 0 3 x = false := by simpa using e
    refine ⟨-1, A, fun S n H => ⟨S, ?_, H, AG.rf⟩, fun S n H => ⟨_, ?_, H.fld (k := 0) 0 (by omega) (by omega), (RZ.fld 0 (by omega) (by omega)).ag⟩, h.mono (by omega)⟩
    · unfold f_X9_voids b_X9_voids_0
      simp only [x_chk, x_isCopy, e', b2i_eq0, if_true, bS]
    · unfold f_X10_voids b_X10_voids_0
      simp only [r_chk, rP0, bS, r_isCopy, e', b2i_eq0, if_true]
/-! refusals -/
theorem x_refB {x y : Int32} (e : (inR 0 3 x && inR 0 14 y) = false) : f_X9_refusalOf (ov S n) 0 x y = some (ov S n, -1) := by
  unfold f_X9_refusalOf b_X9_refusalOf_0
  simp only [x_chk, x_isCopy, x_isNode, bS, b2i_eq0]
  cases e1 : inR 0 3 x
  · simp
  · rw [e1, Bool.true_and] at e
    simp [e]
theorem x_refO (H : CR S A) {c j : Nat} (hc : c < 3) (hj : j < 14) : f_X9_refusalOf (ov S n) 0 (nI c) (nI j) = some (ov S n, if mTh (tr (sW A) c) j then 0 else -2) := by
  unfold f_X9_refusalOf b_X9_refusalOf_0
  simp only [x_chk, x_isCopy, x_isNode, inR_ok (Nat.zero_le c) hc (by omega), inR_ok (Nat.zero_le j) hj (by omega), bS, b2i_eq0, Bool.true_eq_false, if_false, xR0, u_R0, u_cp hc, u_R5 hc, t_isThere (H.te hc) (show j < 16 by omega)]
  cases mTh (tr (sW A) c) j <;> simp
theorem r_askB {x y : Int32} (e : (inR 0 3 x && inR 0 14 y) = false) : f_X10_asked (ov S n) 296 x y = some (ov S n, -1) := by
  unfold f_X10_asked b_X10_asked_0
  simp only [r_chk, r_isCopy, r_isNode, bS, b2i_eq0]
  cases e1 : inR 0 3 x
  · simp
  · rw [e1, Bool.true_and] at e
    simp [e]
theorem r_askO (h : OKA T A) (H : RR S A) {c j : Nat} (hc : c < 3) (hj : j < 14) : ∃ S', f_X10_asked (ov S n) 296 (nI c) (nI j) = some (ov S' n, if mTh (tr (sW A) c) j then 0 else -2) ∧ RR S' A ∧ LL S' (wL (sW A) c) ∧ TT S' 0 (tr (sW A) c) ∧ RZ S S' ∧ (∀ k, k ≠ 9 → S'.1 296 k = S.1 296 k) := by
  obtain ⟨S1, g1, g2, g3, g4, g5, g6, g7, -⟩ := r_laysR (n := n) h H hc (s := 0) (by omega)
  refine ⟨S1, ?_, g2, g3, g4, g6, g7⟩
  have g1 : f_X10_lays (ov S n) 296 0 (nI c) = some (ov S1 n, ()) := g1
  have ht : f_X10_isThere (ov S1 n) 296 0 (nI j) = some (ov S1 n, b2i (mTh (tr (sW A) c) j)) := r_isThere g4 hj
  unfold f_X10_asked b_X10_asked_0
  simp only [r_chk, r_isCopy, r_isNode, inR_ok (Nat.zero_le c) hc (by omega), inR_ok (Nat.zero_le j) hj (by omega), bS, b2i_eq0, Bool.true_eq_false, if_false, g1, ht]
  cases mTh (tr (sW A) c) j <;> simp
/-- a question about a node: refused, or asked of a tree -/
theorem ag_ask (h : OKA T A) {f g : q_H → Option (q_H × Int32)} {x y : Int32}
    (fr : ∀ S n r, r < 0 → f_X9_refusalOf (ov S n) 0 x y = some (ov S n, r) → f (ov S n) = some (ov S n, r))
    (gr : ∀ S S' n r, r < 0 → f_X10_asked (ov (o_sf S 296 0 0) n) 296 x y = some (ov S' n, r) → g (ov S n) = some (ov S' n, r))
    (ok : ∀ c j, c < 3 → j < 14 → x = nI c → y = nI j → mTh (tr (sW A) c) j = true → TI (tr (sW A) c) → SU (tr (sW A) c) → ∃ r A', (∀ S n, CR S A → f_X9_refusalOf (ov S n) 0 x y = some (ov S n, 0) → ∃ S', f (ov S n) = some (ov S' n, r) ∧ CR S' A' ∧ AG (fun b => b < 296) S S') ∧
      (∀ S S0 n, RR S0 A → TT S0 0 (tr (sW A) c) → LL S0 (wL (sW A) c) → f_X10_asked (ov (o_sf S 296 0 0) n) 296 x y = some (ov S0 n, 0) → ∃ S', g (ov S n) = some (ov S' n, r) ∧ RR S' A' ∧ AG (fun b => 296 ≤ b ∧ b < 313) S0 S') ∧ OKA (T + 20) A') : AGR T A f g := by
  by_cases e : (inR 0 3 x && inR 0 14 y) = true
  · rw [Bool.and_eq_true] at e
    obtain ⟨c, -, hc, rfl⟩ := inR_t e.1 (by omega)
    obtain ⟨j, -, hj, rfl⟩ := inR_t e.2 (by omega)
    by_cases ht : mTh (tr (sW A) c) j = true
    · obtain ⟨r, A', h1, h2, h3⟩ := ok c j hc hj rfl rfl ht (h.1.ti hc) (h.1.su hc)
      refine ⟨r, A', fun S n H => h1 S n H (by rw [x_refO H hc hj, ht]; rfl), fun S n H => ?_, h3⟩
      have H0 : RR (o_sf S 296 0 0) A := H.fld 0 (by omega) (by omega)
      obtain ⟨S1, g1, g2, g3, g4, g5, -⟩ := r_askO (n := n) h H0 hc hj
      rw [ht] at g1
      obtain ⟨S2, k1, k2, k3⟩ := h2 S S1 n g2 g4 g3 g1
      exact ⟨S2, k1, k2, ((RZ.fld 0 (by omega) (by omega)).tr g5).ag.tr k3 (fun _ q => q) (fun _ q => q)⟩
    · have ht : mTh (tr (sW A) c) j = false := by simpa using ht
      refine ⟨-2, A, fun S n H => ⟨S, fr S n (-2) (by decide) (by rw [x_refO H hc hj, ht]; rfl), H, AG.rf⟩, fun S n H => ?_, h.mono (by omega)⟩
      have H0 : RR (o_sf S 296 0 0) A := H.fld 0 (by omega) (by omega)
      obtain ⟨S1, g1, g2, g3, g4, g5, -⟩ := r_askO (n := n) h H0 hc hj
      rw [ht] at g1
      exact ⟨S1, gr S S1 n (-2) (by decide) g1, g2, ((RZ.fld 0 (by omega) (by omega)).tr g5).ag⟩
  · have e : (inR 0 3 x && inR 0 14 y) = false := by simpa using e
    refine ⟨-1, A, fun S n H => ⟨S, fr S n (-1) (by decide) (x_refB e), H, AG.rf⟩, fun S n H => ⟨o_sf S 296 0 0, gr S _ n (-1) (by decide) (r_askB e), H.fld 0 (by omega) (by omega), (RZ.fld 0 (by omega) (by omega)).ag⟩, h.mono (by omega)⟩
theorem neg_nle {r : Int32} (h : r < 0) : ¬ (0 ≤ r) := fun q => Int32.not_lt.mpr q h
theorem ag_below (h : OKA T A) (x y : Int32) : AGR T A (fun h => f_X9_below h 0 x y) (fun h => f_X10_below h 296 x y) := by
  refine ag_ask h (x := x) (y := y) (fun S n r hr e => ?_) (fun S S' n r hr e => ?_) (fun c j hc hj hx hy ht ti su => ?_)
  · unfold f_X9_below b_X9_below_0
    simp only [x_chk, e, bS, neg_nle hr, if_false]
  · unfold f_X10_below b_X10_below_0
    simp only [r_chk, rP0, bS, e, neg_nle hr, if_false]
  · subst hx hy
    refine ⟨nI (mCh (tr (sW A) c) j), sRow A [Int32.toInt64 (nI (cbit 20 (mAb (tr (sW A) c) j)))], fun S n H e => ?_, fun S S0 n H ht0 hl0 e => ?_, h.row (by omega) _⟩
    · obtain ⟨S1, k1, k2, k3⟩ := x_tell (n := n) H (Int32.toInt64 (nI (cbit 20 (mAb (tr (sW A) c) j))))
      have a1 := t_allWithin (n := n) (H.te hc) (show j < 16 by omega)
      have a2 := t_childrenOf (n := n) (k2.te hc) (show j < 2 ^ 31 by omega)
      have a3 := x_bitCount (ov S n) (v := mAw (tr (sW A) c) j) (Nat.lt_trans (aw_lt _ hj) (by omega))
      rw [aw_cnt _ hj] at a3
      refine ⟨S1, ?_, k2, k3.mono (fun b q => by omega)⟩
      unfold f_X9_below b_X9_below_0
      simp only [x_chk, e, bS, show (0 : Int32) ≤ 0 by decide, if_true, xR0, u_R0, u_cp hc, u_R5 hc, xR4, a1, a3, nI_pred, k1, a2]
    · obtain ⟨S1, k1, k2, k3⟩ := r_tell (n := n) H (Int32.toInt64 (nI (cbit 20 (mAb (tr (sW A) c) j))))
      have a1 : f_X10_allBelow (ov (o_sf S0 296 1 0) n) 296 0 (nI j) = _ := r_allBelow (s := 0) (ht0.re re_row0) ti hj
      have a2 : f_X10_rightBelow (ov S1 n) 296 0 (nI j) = _ := r_rightBelow (s := 0) (ht0.re k3) (show j < 2 ^ 31 by omega)
      have a3 := r_bitsOf (ov (o_sf S0 296 1 0) n) (v := mAb (tr (sW A) c) j) (Nat.lt_trans (ab_lt _ _) (by omega))
      refine ⟨S1, ?_, k2, k3.ag⟩
      unfold f_X10_below b_X10_below_0
      simp only [r_chk, rP0, bS, e, show (0 : Int32) ≤ 0 by decide, if_true, rP1, a1, a3, k1, a2]
/-! steps up -/
theorem up_su (E : Nat → Nat) : ∀ d a, mUp E d a < 2 → mUp E (mSu E d a) a = mUp E d a := by
  intro d
  induction d with
  | zero => intro a _; rfl
  | succ d ih =>
    intro a h
    by_cases h2 : a < 2
    · rw [mUp_2 E h2, mUp_2 E h2]
    · simp only [mUp, h2, if_false] at h ⊢
      simp only [mSu, h2, if_false, mUp]
      exact ih _ h
theorem wi_up (E : Nat → Nat) {t : Nat} (ht : t < 2) : ∀ d a, mUp E d a < 2 → mWi E t d a = decide (mUp E d a = t) := by
  intro d
  induction d with
  | zero => intro a _; rfl
  | succ d ih =>
    intro a h
    by_cases h2 : a < 2
    · rw [mUp_2 E h2]
      by_cases e : a = t <;> simp [mWi, e, h2]
    · have e : a ≠ t := by omega
      simp only [mUp, h2, if_false] at h ⊢
      simp only [mWi, e, h2, if_false]
      exact ih _ h
theorem TI.up14 {E : Nat → Nat} (h : TI E) {a : Nat} (ha : mTh E a = true) : mUp E 14 a < 2 := mUp_mono E (h.up ha) (by omega)
theorem su_le (E : Nat → Nat) : ∀ d a, mSu E d a ≤ d := by
  intro d
  induction d with
  | zero => intro a; exact Nat.le_refl _
  | succ d ih =>
    intro a
    by_cases h2 : a < 2
    · simp [mSu, h2]
    · simp only [mSu, h2, if_false]
      have := ih (cP (E a))
      omega
theorem su_s {E : Nat → Nat} (h : TI E) {a : Nat} (ha : mTh E a = true) (h2 : ¬ a < 2) : mSu E 14 a = mSu E 14 (cP (E a)) + 1 := by
  have h3 := (h.th ha h2).1
  have e1 : mSu E 13 (cP (E a)) = mSu E 12 (cP (E a)) := mSu_st E 12 (cP (E a)) 1 (h.up h3)
  have e2 : mSu E 14 (cP (E a)) = mSu E 12 (cP (E a)) := mSu_st E 12 (cP (E a)) 2 (h.up h3)
  show (if a < 2 then 0 else mSu E 13 (cP (E a)) + 1) = _
  rw [if_neg h2]
  omega
/-- steps up to a node -/
def mSx (E : Nat → Nat) (t : Nat) : Nat → Nat → Nat
  | 0, _ => 0
  | k + 1, a => if a = t then 0 else if a < 2 then 0 else mSx E t k (cP (E a)) + 1
theorem r_suL {E : Nat → Nat} (h : TT S 0 E) (ti : TI E) {t : Nat} (ht : t < 14) : ∀ d a fuel r, mUp E d a < 2 → mTh E a = true → d + 1 < fuel → l_X10_stepsUp_5 fuel (ov S n) 296 (nI t) (nI r) (nI a) = some (ov S n, nI (r + mSx E t (d + 1) a)) := by
  intro d
  induction d with
  | zero =>
    intro a fuel r h1 h2 hf
    obtain ⟨f, rfl⟩ : ∃ f, fuel = f + 1 := ⟨fuel - 1, by omega⟩
    have h1 : a < 2 := h1
    show b_X10_stepsUp_5 _ _ _ _ _ _ = _
    unfold b_X10_stepsUp_5
    simp (disch := omega) only [i_eq, show (2 : Int32) = nI 2 from rfl, i_lt, h1, if_true, mSx]
    split <;> rfl
  | succ d ih =>
    intro a fuel r h1 h2 hf
    obtain ⟨f, rfl⟩ : ∃ f, fuel = f + 1 := ⟨fuel - 1, by omega⟩
    have ha := mTh_lt ti h2
    show b_X10_stepsUp_5 _ _ _ _ _ _ = _
    unfold b_X10_stepsUp_5
    by_cases e1 : a = t
    · subst e1
      simp [mSx]
    · by_cases e2 : a < 2
      · simp (disch := omega) only [i_eq, show (2 : Int32) = nI 2 from rfl, i_lt, e1, e2, if_true, if_false, mSx, Nat.add_zero]
      · have h3 := (ti.th h2 e2).1
        have h4 : E a ≠ 0 := by simpa [mTh, e2] using h2
        have hits : f_X10_its (ov S n) 296 0 (nI a) 0 = some (ov S n, eT (E a) 0) := r_its0 h ha
        have hu : mUp E d (cP (E a)) < 2 := by simpa only [mUp, e2, if_false] using h1
        have := ih (cP (E a)) f (r + 1) hu h3 (by omega)
        simp (disch := omega) only [i_eq, show (2 : Int32) = nI 2 from rfl, i_lt, e1, e2, if_false, hits, bS, eT_0n h4, nI_1]
        rw [this, show mSx E t (d + 1 + 1) a = mSx E t (d + 1) (cP (E a)) + 1 by simp only [mSx, e1, e2, if_false], show r + 1 + mSx E t (d + 1) (cP (E a)) = r + (mSx E t (d + 1) (cP (E a)) + 1) by omega]
theorem r_stepsUp {E : Nat → Nat} (h : TT S 0 E) (ti : TI E) {a t : Nat} (ht : t < 14) (ha : mTh E a = true) : f_X10_stepsUp (ov S n) 296 (nI a) (nI t) = some (ov S n, nI (mSx E t 13 a)) := by
  unfold f_X10_stepsUp b_X10_stepsUp_0
  have := r_suL (n := n) h ti ht 12 a q_FU 0 (ti.up ha) ha (q_FU_lt (by omega))
  rw [Nat.zero_add] at this
  rw [r_chk]
  exact this
theorem sx_su (E : Nat → Nat) {t : Nat} (ht : t < 2) : ∀ d a, mSx E t d a = mSu E d a := by
  intro d
  induction d with
  | zero => intro a; rfl
  | succ d ih =>
    intro a
    by_cases h2 : a < 2
    · simp [mSx, mSu, h2]
    · have e : a ≠ t := by omega
      simp only [mSx, mSu, h2, e, if_false, ih]
theorem r_topOf {E : Nat → Nat} (h : TT S 0 E) (ti : TI E) {a : Nat} (ha : mTh E a = true) : f_X10_topOf (ov S n) 296 (nI a) = some (ov S n, nI (mUp E 14 a)) := by
  have hu := ti.up14 ha
  have h1 : f_X10_isUnder (ov S n) 296 0 (nI a) 1 = some (ov S n, b2i (mWi E 1 14 a)) := r_isUnder (s := 0) (top := 1) h ti (by omega) ha
  unfold f_X10_topOf b_X10_topOf_0
  simp only [r_chk, h1, bS, b2i_eq0, wi_up E (show 1 < 2 by omega) 14 a hu]
  have : mUp E 14 a = 0 ∨ mUp E 14 a = 1 := by omega
  rcases this with e | e <;> rw [e] <;> rfl
theorem ag_depth (h : OKA T A) (x y : Int32) : AGR T A (fun h => f_X9_depth h 0 x y) (fun h => f_X10_depth h 296 x y) := by
  refine ag_ask h (x := x) (y := y) (fun S n r hr e => ?_) (fun S S' n r hr e => ?_) (fun c j hc hj hx hy ht ti su => ?_)
  · unfold f_X9_depth b_X9_depth_0
    simp only [x_chk, e, bS, neg_nle hr, if_false]
  · unfold f_X10_depth b_X10_depth_0
    simp only [r_chk, rP0, bS, e, neg_nle hr, if_false]
  · subst hx hy
    have hu := ti.up14 ht
    have hst : mSx (tr (sW A) c) (mUp (tr (sW A) c) 14 j) 13 j = mSu (tr (sW A) c) 14 j := by
      rw [sx_su _ hu, mSu_st _ 12 j 1 (ti.up ht), mSu_st _ 12 j 2 (ti.up ht)]
    refine ⟨nI (mSu (tr (sW A) c) 14 j), sRow A [Int32.toInt64 (nI (mUp (tr (sW A) c) 14 j))], fun S n H e => ?_, fun S S0 n H ht0 hl0 e => ?_, h.row (by omega) _⟩
    · obtain ⟨S1, k1, k2, k3⟩ := x_tell (n := n) H (Int32.toInt64 (nI (mUp (tr (sW A) c) 14 j)))
      have a1 := t_stepsUp (n := n) (H.te hc) (show j < 16 by omega)
      have hle := su_le (tr (sW A) c) 14 j
      have a2 := t_upF (n := n) (H.te hc) (show j < 16 by omega) (show mSu (tr (sW A) c) 14 j < 3000 by omega)
      rw [up_su _ _ _ hu] at a2
      refine ⟨S1, ?_, k2, k3.mono (fun b q => by omega)⟩
      unfold f_X9_depth b_X9_depth_0
      simp only [x_chk, e, bS, show (0 : Int32) ≤ 0 by decide, if_true, xR0, u_R0, u_cp hc, u_R5 hc, xR4, a1, a2, k1]
    · obtain ⟨S1, k1, k2, k3⟩ := r_tell (n := n) H (Int32.toInt64 (nI (mUp (tr (sW A) c) 14 j)))
      have a1 := r_topOf (n := n) (ht0.re re_row0) ti ht
      have a2 := r_topOf (n := n) (ht0.re k3) ti ht
      have a3 := r_stepsUp (n := n) (ht0.re k3) ti (show mUp (tr (sW A) c) 14 j < 14 by omega) ht
      rw [hst] at a3
      refine ⟨S1, ?_, k2, k3.ag⟩
      unfold f_X10_depth b_X10_depth_0
      simp only [r_chk, rP0, bS, e, show (0 : Int32) ≤ 0 by decide, if_true, rP1, a1, k1, a2, a3]
end P3
