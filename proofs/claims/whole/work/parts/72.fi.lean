/-! WHICH MOVE KEEPS ANOTHER ONE VOID; IDLE MOVES -/
theorem vl_far {w w' : Nat} : ∀ (l : List Nat) (i : Nat) (E : Nat → Nat) (j : Nat), i + j < w → i + j < w' → (mVl w l i E)[j]? = (mVl w' l i E)[j]? := by
  intro l
  induction l with
  | nil => intro i E j _ _; rfl
  | cons k l ih =>
    intro i E j h1 h2
    show ((decide (i ≠ w) && !mOk E k) :: mVl w l (i + 1) (if i = w then E else mDo E k))[j]? = ((decide (i ≠ w') && !mOk E k) :: mVl w' l (i + 1) (if i = w' then E else mDo E k))[j]?
    rw [if_neg (show ¬ i = w by omega), if_neg (show ¬ i = w' by omega), decide_eq_true (show i ≠ w by omega), decide_eq_true (show i ≠ w' by omega)]
    cases j with
    | zero => rfl
    | succ j =>
      rw [List.getElem?_cons_succ, List.getElem?_cons_succ]
      exact ih (i + 1) _ j (by omega) (by omega)
def vdB (l : List Nat) (B : Nat → Nat) (w i : Nat) : Bool := ((mVl w l 0 B)[i]?).getD false
def sFr (l : List Nat) (B : Nat → Nat) (i : Nat) : Nat := fw (mSt (fun j => !vdB l B j i)) 0 0 i
theorem fr_eq {l : List Nat} {B : Nat → Nat} {i : Nat} (hi : i < l.length) (hl : l.length ≤ 20) (hv : vdB l B 1000 i = true) : fw (mSt (fun j => decide (j ≠ i) && !vdB l B j i)) 0 0 l.length = sFr l B i := by
  unfold sFr
  apply Nat.eq_of_testBit_eq
  intro j
  rw [st_bit0, st_bit0]
  by_cases h1 : j < i
  · rw [decide_eq_true (show 0 ≤ j ∧ j < 0 + l.length by omega), decide_eq_true (show 0 ≤ j ∧ j < 0 + i by omega), decide_eq_true (show j ≠ i by omega), Bool.true_and]
  · rw [decide_eq_false (show ¬ (0 ≤ j ∧ j < 0 + i) by omega), Bool.false_and]
    by_cases h2 : j = i
    · rw [decide_eq_false (show ¬ j ≠ i from fun q => q h2), Bool.false_and, Bool.and_false]
    · have : vdB l B j i = true := by
        rw [← hv]
        unfold vdB
        rw [vl_far l 0 B i (w := j) (w' := 1000) (by omega) (by omega)]
      rw [this, Bool.not_true, Bool.and_false, Bool.and_false]
theorem xor0 (x y : Nat) : (x ^^^ y = 0) = (x = y) := by
  apply propext
  constructor
  · intro h
    apply Nat.eq_of_testBit_eq
    intro i
    have : (x ^^^ y).testBit i = false := by rw [h]; exact Nat.zero_testBit i
    rw [Nat.testBit_xor] at this
    cases h1 : x.testBit i <;> cases h2 : y.testBit i <;> rw [h1, h2] at this <;> first | rfl | cases this
  · intro h
    rw [h, Nat.xor_self]
theorem l_look {a b : Nat} (ha : a < 2 ^ 31) (hb : b < 2 ^ 31) : (lg_cmp ((lN a ^^^ lN b) &&& 4095) 0 = 0) = (a % 4096 = b % 4096) := by
  have h1 : lN a ^^^ lN b = lN (a ^^^ b) := by
    apply Int64.toBitVec_inj.mp
    apply BitVec.eq_of_toNat_eq
    rw [Int64.toBitVec_xor, BitVec.toNat_xor, lN_tn (by omega), lN_tn (by omega), lN_tn (Nat.lt_trans (Nat.xor_lt_two_pow ha hb) (by omega))]
  have h2 : (a ^^^ b) < 2 ^ 31 := Nat.xor_lt_two_pow ha hb
  have h3 : lN (a ^^^ b) &&& 4095 = lN ((a ^^^ b) % 4096) := by
    apply Int64.toBitVec_inj.mp
    apply BitVec.eq_of_toNat_eq
    have e : (4095 : Int64).toBitVec.toNat = 2 ^ 12 - 1 := by decide
    rw [Int64.toBitVec_and, BitVec.toNat_and, e, lN_tn (by omega), lN_tn (by omega), Nat.and_two_pow_sub_one_eq_mod]
  rw [h1, h3, l_cmp0 (by omega), show 4096 = 2 ^ 12 from rfl, Nat.xor_mod_two_pow, xor0]
section FI
variable {S : o_S} {n : Nat × Nat × Nat} {A : aS} {t T : Nat} {E : Nat → Nat}
def mLk (E D : Nat → Nat) : Bool := mAll (fun j => decide (E j % 4096 = D j % 4096)) 2 12
theorem t_looksAs (h : TE S t E) {t' : Nat} {D : Nat → Nat} (h' : TE S t' D) : f_X7_looksAs (ov S n) t t' = some (ov S n, b2i (mLk E D)) := by
  unfold f_X7_looksAs b_X7_looksAs_0
  rw [t_chk h]
  refine all_loop (fun fuel j => l_X7_looksAs_2 fuel (ov S n) t t' (nI j)) (fun j => decide (E j % 4096 = D j % 4096)) (ov S n) 2 14 (fun fuel => rfl) (fun fuel j h1 h2 => ?_) 12 2 q_FU (by omega) (by omega) (q_FU_lt (by omega))
  have hb := (h.2 j (by omega)).2
  have hb' := (h'.2 j (by omega)).2
  show b_X7_looksAs_2 _ _ _ _ _ = _
  unfold b_X7_looksAs_2
  simp (disch := omega) only [t_get h, t_get h', bS, t_ld h (show j < 16 by omega), t_ld h' (show j < 16 by omega), l_look hb hb', show (14 : Int32) = nI 14 from rfl, i_le, show ¬ 14 ≤ j by omega, if_false, nI_1]
  by_cases e : E j % 4096 = D j % 4096 <;> simp [e]
theorem lk_eq {k k' j : Nat} (hk : k ≠ 0 → okM k ∧ cF k = j) (hk' : k' ≠ 0 → okM k' ∧ cF k' = j) : (decide (eT k 0 = eT k' 0) && (decide (k = 0) || decide (cN k = cN k'))) = decide (k % 4096 = k' % 4096) := by
  have hd : ∀ x : Nat, x % 4096 = cF x * 256 + cP x * 16 + cN x := fun x => by unfold cF cP cN; omega
  have p1 := cP_lt k
  have p2 := cP_lt k'
  by_cases e : k = 0
  · subst e
    by_cases e' : k' = 0
    · subst e'; simp
    · have := (hk' e').1.2.1
      have h1 : ¬ (0 % 4096 = k' % 4096) := by rw [hd k']; omega
      have h2 : ¬ eT 0 0 = eT k' 0 := fun q => e' (by rw [← eT_0 k', ← q]; rfl)
      simp [h1, h2]
  · have hf := (hk e)
    by_cases e' : k' = 0
    · subst e'
      have := hf.1.2.1
      have h1 : ¬ (k % 4096 = 0 % 4096) := by rw [hd k]; omega
      have h2 : ¬ eT k 0 = eT 0 0 := fun q => e (by rw [← eT_0 k, q]; rfl)
      simp [h1, h2]
    · have hf' := (hk' e')
      rw [eT_0n e, eT_0n e', hd k, hd k', hf.2, hf'.2]
      simp only [i_eq (show cP k < 2 ^ 31 by omega) (show cP k' < 2 ^ 31 by omega), e, decide_false, Bool.false_or]
      have n1 := cN_lt k
      have n2 := cN_lt k'
      by_cases q1 : cP k = cP k'
      · by_cases q2 : cN k = cN k'
        · simp [q1, q2]
        · have : ¬ (j * 256 + cP k' * 16 + cN k = j * 256 + cP k' * 16 + cN k') := by omega
          simp [q1, q2]
      · have : ¬ (j * 256 + cP k * 16 + cN k = j * 256 + cP k' * 16 + cN k') := by omega
        simp [q1, this]
theorem r_areLike {s s' : Nat} {D : Nat → Nat} (h : TT S s E) (ti : TI E) (h' : TT S s' D) (ti' : TI D) : f_X10_areLike (ov S n) 296 (nI s) (nI s') = some (ov S n, b2i (mLk E D)) := by
  unfold f_X10_areLike b_X10_areLike_0
  rw [r_chk]
  refine all_loop (fun fuel j => l_X10_areLike_2 fuel (ov S n) 296 (nI s) (nI s') (nI j)) (fun j => decide (E j % 4096 = D j % 4096)) (ov S n) 2 14 (fun fuel => rfl) (fun fuel j h1 h2 => ?_) 12 2 q_FU (by omega) (by omega) (q_FU_lt (by omega))
  have hth : mTh E j = decide (E j ≠ 0) := by simp [mTh]; omega
  have n1 := cN_lt (E j)
  have n2 := cN_lt (D j)
  have hlk := lk_eq (k := E j) (k' := D j) (j := j) (fun q => ⟨(ti j q).1, (ti j q).2.1⟩) (fun q => ⟨(ti' j q).1, (ti' j q).2.1⟩)
  show b_X10_areLike_2 _ _ _ _ _ _ = _
  unfold b_X10_areLike_2 b_X10_areLike_51 b_X10_areLike_55 b_X10_areLike_56
  simp (disch := omega) only [show (14 : Int32) = nI 14 from rfl, i_le, show ¬ 14 ≤ j by omega, if_false, r_its0 h h2, r_its0 h' h2, bS, r_isThere h h2, b2i_eq0, hth, r_its1 h h2, r_its1 h' h2, i_eq, nI_1, show ¬ (1 : Int32) = 0 by decide, if_true, ← hlk]
  by_cases e1 : eT (E j) 0 = eT (D j) 0
  · by_cases e2 : E j = 0
    · simp [e1, e2]
    · by_cases e3 : cN (E j) = cN (D j) <;> simp [e1, e2, e3]
  · simp [e1]
theorem k97 : kTree 97 := ⟨fun _ _ _ => rfl, fun _ _ _ => rfl⟩
theorem vds_vdB (l : List Nat) (B : Nat → Nat) (w i : Nat) : (mVds w l 0 B 0).testBit i = vdB l B w i := vds_bit0 w l B i
theorem x_frL {c i : Nat} (hc : c < 3) : ∀ d j fuel (S : o_S) (A : aS) (v : Nat), (wL (sW A) c).length ≤ 20 → i < (wL (sW A) c).length → j + d = i → d < fuel → v < 2 ^ 20 → CR S A → ∃ S', l_X9_frees_55 fuel (ov S n) 0 (nI i) (4 + 8 * c) (nI v) (nI j) = some (ov S' n, nI (fw (mSt (fun j => !vdB (wL (sW A) c) (wB (sW A) c) j i)) v j d)) ∧ CR S' (sRow A [Int32.toInt64 (nI (cbit 20 (fw (mSt (fun j => !vdB (wL (sW A) c) (wB (sW A) c) j i)) v j d)))]) ∧ AG (fun b => b < 296) S S' := by
  intro d
  induction d with
  | zero =>
    intro j fuel S A v hl hi hj hf hv H
    obtain ⟨f, rfl⟩ : ∃ f, fuel = f + 1 := ⟨fuel - 1, by omega⟩
    obtain ⟨S1, k1, k2, k3⟩ := x_tellSet (n := n) H hv
    refine ⟨S1, ?_, k2, k3.mono (fun b q => by omega)⟩
    show b_X9_frees_55 _ _ _ _ _ _ _ = _
    unfold b_X9_frees_55
    rw [if_pos (by rw [i_le (by omega) (by omega)]; omega), k1, bS]
    rfl
  | succ d ih =>
    intro j fuel S A v hl hi hj hf hv H
    obtain ⟨f, rfl⟩ : ∃ f, fuel = f + 1 := ⟨fuel - 1, by omega⟩
    obtain ⟨S1, k1, k2, k3⟩ := t_rebuild (n := n) k97 (H.cc hc).1.2.2.2 (H.lg hc) (by omega) (w_some (j := j) (by omega)) (by omega)
    have H1 : CR S1 A := H.ag k3 (fun b q => by unfold xsc; omega)
    obtain ⟨S2, g1, g2, g3⟩ := ih (j + 1) f S1 A (mSt (fun j => !vdB (wL (sW A) c) (wB (sW A) c) j i) j v) hl hi (by omega) (by omega) (mSt_lt' (by omega) hv) H1
    refine ⟨S2, ?_, g2, k3.tr g3 (fun b q => by omega) (fun b q => q)⟩
    have hvl := vds_lt j (wL (sW A) c) (wB (sW A) c) (N := 20) hl
    show b_X9_frees_55 _ _ _ _ _ _ _ = _
    unfold b_X9_frees_55 b_X9_frees_94
    simp (disch := omega) only [i_le, show ¬ i ≤ j by omega, if_false, xR6, u_R4 hc, u_R3 hc, bS, k1, i_tb (show mVds j (wL (sW A) c) 0 (wB (sW A) c) 0 < 2 ^ 32 by omega) (show i < 32 by omega), vds_vdB, b2i_eq0, i_bit (show j < 32 by omega), i_or v (2 ^ j) (by omega) (Nat.pow_lt_pow_right (by omega) (by omega)), nI_1]
    show _ = some (ov S2 n, nI (fw _ (mSt _ j v) (j + 1) d))
    rw [← g1]
    unfold mSt
    cases e2 : vdB (wL (sW A) c) (wB (sW A) c) j i <;> simp [e2]
theorem r_frL (h : OKA T A) {c i : Nat} (hc : c < 3) (hi : i < (wL (sW A) c).length) : ∀ d j fuel (S : o_S) (v : Nat), j + d = (wL (sW A) c).length → d < fuel → v < 2 ^ 20 → RR S A → LL S (wL (sW A) c) → ∃ S', l_X10_frees_59 fuel (ov S n) 296 (nI c) (nI i) (nI v) (nI j) = some (ov S' n, nI (fw (mSt (fun j => decide (j ≠ i) && !vdB (wL (sW A) c) (wB (sW A) c) j i)) v j d)) ∧ RR S' (sRow A [Int32.toInt64 (nI (cbit 20 (fw (mSt (fun j => decide (j ≠ i) && !vdB (wL (sW A) c) (wB (sW A) c) j i)) v j d)))]) ∧ AG (fun b => 296 ≤ b ∧ b < 313) S S' := by
  have hl := (h.1.2.2.1 c hc).1
  intro d
  induction d with
  | zero =>
    intro j fuel S v hj hf hv H hL
    obtain ⟨f, rfl⟩ : ∃ f, fuel = f + 1 := ⟨fuel - 1, by omega⟩
    obtain ⟨S1, k1, k2, k3⟩ := r_tell (n := n) H (Int32.toInt64 (nI (cbit 20 v)))
    refine ⟨S1, ?_, k2, k3.ag⟩
    show b_X10_frees_59 _ _ _ _ _ _ _ = _
    unfold b_X10_frees_59
    simp only [rI9, hL.1, bS, i_le (show (wL (sW A) c).length < 2 ^ 31 by omega) (show j < 2 ^ 31 by omega), show (wL (sW A) c).length ≤ j by omega, if_true, rP1, r_bitsOf _ hv, k1]
    rfl
  | succ d ih =>
    intro j fuel S v hj hf hv H hL
    obtain ⟨f, rfl⟩ : ∃ f, fuel = f + 1 := ⟨fuel - 1, by omega⟩
    obtain ⟨S1, k1, k2, k3, k4⟩ := r_growW (n := n) h.1 H.1 hc (s := 0) (by omega) hL (fun k hk => ((h.1.2.2.1 c hc).2.2 k hk).1) (w_some (j := j) (by omega))
    have H1 : RR S1 A := H.zs k4.x.z k4.m
    have k1 : f_X10_grows (ov S n) 296 0 (nI c) (nI j) = some (ov S1 n, ()) := k1
    obtain ⟨S2, g1, g2, g3⟩ := ih (j + 1) f S1 (mSt (fun j => decide (j ≠ i) && !vdB (wL (sW A) c) (wB (sW A) c) j i) j v) (by omega) (by omega) (mSt_lt' (by omega) hv) H1 (hL.rg k4)
    refine ⟨S2, ?_, g2, k4.x.z.ag.tr g3 (fun b q => q) (fun b q => q)⟩
    have hx : (mVl j (wL (sW A) c) 0 (wB (sW A) c))[i]? = some (vdB (wL (sW A) c) (wB (sW A) c) j i) := by
      unfold vdB
      rw [List.getElem?_eq_getElem (by rw [vl_len]; exact hi)]
      rfl
    have hvo := k3 i _ hx
    show b_X10_frees_59 _ _ _ _ _ _ _ = _
    unfold b_X10_frees_59 b_X10_frees_99 b_X10_frees_100
    simp (disch := omega) only [rI9, hL.1, bS, i_le, show ¬ (wL (sW A) c).length ≤ j by omega, if_false, k1, i_eq, rR10, r_voi, hvo, b2i_eq0, i_or0, i_bit (show j < 32 by omega), i_or v (2 ^ j) (by omega) (Nat.pow_lt_pow_right (by omega) (by omega)), nI_1]
    show _ = some (ov S2 n, nI (fw _ (mSt _ j v) (j + 1) d))
    rw [← g1]
    unfold mSt
    by_cases e : j = i
    · simp [e]
    · cases e2 : vdB (wL (sW A) c) (wB (sW A) c) j i <;> simp [e, e2]
theorem ag_frees (h : OKA T A) (x y : Int32) : AGR T A (fun h => f_X9_frees h 0 x y) (fun h => f_X10_frees h 296 x y) := by
  have hinL : ∀ (S : o_S) (n : Nat × Nat × Nat) (L : Nat), L ≤ 20 → f_X10_in (ov S n) (Int32.toInt64 y) 0 (Int32.toInt64 (nI L - 1)) = some (ov S n, b2i (inR 0 L y)) := fun S n L hl => r_in _ _ (lo := 0) (hi := L) (by decide) (by
    have := pk_sub_toInt (a := L) (b := 1) (by omega) (by omega)
    have e : nI L - 1 = nI L - nI 1 := rfl
    rw [Int32.toInt_toInt64, e, this]
    omega)
  have hhas : ∀ (S : o_S) (n : Nat × Nat × Nat) (c : Nat), CR S A → c < 3 → f_X0_hasMove (ov S n) (4 + 8 * c) y = some (ov S n, b2i (inR 0 (wL (sW A) c).length y)) := by
    intro S n c H hc
    have hl := (H.lg hc).2.2.1
    unfold f_X0_hasMove b_X0_hasMove_0
    rw [cp_chk (u_k hc), x_rng y (show 0 < 2 ^ 31 by omega) (show (wL (sW A) c).length < 2 ^ 31 by omega)]
    by_cases h0 : y < 0
    · have h0' : y < nI 0 := h0
      simp [h0, h0', b2i]
    · have h0' : ¬ y < nI 0 := h0
      simp only [h0, if_false, u_R3 hc, bS, s_gI (H.lg hc)]
      by_cases h1 : nI (wL (sW A) c).length ≤ y
      · simp [h0', h1, b2i]
      · simp [h0', h1, b2i]
  by_cases e1 : inR 0 3 x = true
  · obtain ⟨c, -, hc, rfl⟩ := inR_t e1 (by omega)
    have hl20 := (h.1.2.2.1 c hc).1
    by_cases e2 : inR 0 (wL (sW A) c).length y = true
    · obtain ⟨i, -, hi, rfl⟩ := inR_t e2 (by omega)
      have hv20 := vds_lt 1000 (wL (sW A) c) (wB (sW A) c) (N := 20) hl20
      have rl : ∀ (S : o_S) (n : Nat × Nat × Nat), RR S A → ∃ S1, f_X10_lays (ov (o_sf S 296 0 0) n) 296 0 (nI c) = some (ov S1 n, ()) ∧ RR S1 A ∧ LL S1 (wL (sW A) c) ∧ S1.2.1 301 i = b2i (vdB (wL (sW A) c) (wB (sW A) c) 1000 i) ∧ AG (fun b => 296 ≤ b ∧ b < 313) S S1 := by
        intro S n H
        have H0 : RR (o_sf S 296 0 0) A := H.fld 0 (by omega) (by omega)
        obtain ⟨S1, g1, g2, g3, g4, g5, g6, -, -⟩ := r_laysR (n := n) h H0 hc (s := 0) (by omega)
        refine ⟨S1, g1, g2, g3, g5 i _ ?_, ((RZ.fld 0 (by omega) (by omega)).tr g6).ag⟩
        unfold vdB
        rw [List.getElem?_eq_getElem (by rw [vl_len]; exact hi)]
        rfl
      by_cases e3 : vdB (wL (sW A) c) (wB (sW A) c) 1000 i = true
      · refine ⟨nI (sFr (wL (sW A) c) (wB (sW A) c) i), sRow A [Int32.toInt64 (nI (cbit 20 (sFr (wL (sW A) c) (wB (sW A) c) i)))], fun S n H => ?_, fun S n H => ?_, h.row (by omega) _⟩
        · obtain ⟨S1, g1, g2, g3⟩ := x_frL (n := n) hc i 0 q_FU S A 0 hl20 hi (by omega) (q_FU_lt (by omega)) (by omega) H
          refine ⟨S1, ?_, g2, g3⟩
          have hh := hhas S n c H hc
          unfold f_X9_frees b_X9_frees_0
          simp only [x_chk, x_isCopy, e1, b2i_eq0, Bool.true_eq_false, if_false, bS, xR0, u_R0, u_cp hc, hh, e2, H.vd hc, i_tb (show mVds 1000 (wL (sW A) c) 0 (wB (sW A) c) 0 < 2 ^ 32 by omega) (show i < 32 by omega), vds_vdB, e3]
          exact g1
        · obtain ⟨S1, g1, g2, g3, g4, g5⟩ := rl S n H
          obtain ⟨S2, k1, k2, k3⟩ := r_frL (n := n) h hc hi (wL (sW A) c).length 0 q_FU S1 0 (by omega) (q_FU_lt (by omega)) (by omega) g2 g3
          rw [fr_eq hi hl20 e3] at k1 k2
          have elen := (H.fld (k := 0) 0 (by omega) (by omega)).1.len hc
          refine ⟨S2, ?_, k2, g5.tr k3 (fun b q => q) (fun b q => q)⟩
          unfold f_X10_frees b_X10_frees_0
          simp only [r_chk, rP0, r_isCopy, e1, b2i_eq0, Bool.true_eq_false, if_false, bS, rR7, show (180 : Int32) = nI 180 from rfl, nI_add, r_mem (show 180 + c < 2832 by omega), elen, hinL _ _ _ hl20, e2, g1, rR10, r_voi (show i < 40 by omega), g4, e3]
          exact k1
      · have e3 : vdB (wL (sW A) c) (wB (sW A) c) 1000 i = false := by simpa using e3
        refine ⟨-2, A, fun S n H => ⟨S, ?_, H, AG.rf⟩, fun S n H => ?_, h.mono (by omega)⟩
        · have hh := hhas S n c H hc
          unfold f_X9_frees b_X9_frees_0
          simp only [x_chk, x_isCopy, e1, b2i_eq0, Bool.true_eq_false, if_false, bS, xR0, u_R0, u_cp hc, hh, e2, H.vd hc, i_tb (show mVds 1000 (wL (sW A) c) 0 (wB (sW A) c) 0 < 2 ^ 32 by omega) (show i < 32 by omega), vds_vdB, e3, if_true]
        · obtain ⟨S1, g1, g2, g3, g4, g5⟩ := rl S n H
          have elen := (H.fld (k := 0) 0 (by omega) (by omega)).1.len hc
          refine ⟨S1, ?_, g2, g5⟩
          unfold f_X10_frees b_X10_frees_0
          simp only [r_chk, rP0, r_isCopy, e1, b2i_eq0, Bool.true_eq_false, if_false, bS, rR7, show (180 : Int32) = nI 180 from rfl, nI_add, r_mem (show 180 + c < 2832 by omega), elen, hinL _ _ _ hl20, e2, g1, rR10, r_voi (show i < 40 by omega), g4, e3, if_true]
    · have e2 : inR 0 (wL (sW A) c).length y = false := by simpa using e2
      refine ⟨-1, A, fun S n H => ⟨S, ?_, H, AG.rf⟩, fun S n H => ⟨_, ?_, H.fld (k := 0) 0 (by omega) (by omega), (RZ.fld 0 (by omega) (by omega)).ag⟩, h.mono (by omega)⟩
      · have hh := hhas S n c H hc
        unfold f_X9_frees b_X9_frees_0
        simp only [x_chk, x_isCopy, e1, b2i_eq0, Bool.true_eq_false, if_false, bS, xR0, u_R0, u_cp hc, hh, e2, if_true]
      · have elen := (H.fld (k := 0) 0 (by omega) (by omega)).1.len hc
        unfold f_X10_frees b_X10_frees_0
        simp only [r_chk, rP0, r_isCopy, e1, b2i_eq0, Bool.true_eq_false, if_false, bS, rR7, show (180 : Int32) = nI 180 from rfl, nI_add, r_mem (show 180 + c < 2832 by omega), elen, hinL _ _ _ hl20, e2, if_true]
  · have e1 : inR 0 3 x = false := by simpa using e1
    refine ⟨-1, A, fun S n H => ⟨S, ?_, H, AG.rf⟩, fun S n H => ⟨_, ?_, H.fld (k := 0) 0 (by omega) (by omega), (RZ.fld 0 (by omega) (by omega)).ag⟩, h.mono (by omega)⟩
    · unfold f_X9_frees b_X9_frees_0
      simp only [x_chk, x_isCopy, e1, b2i_eq0, if_true, bS]
    · unfold f_X10_frees b_X10_frees_0
      simp only [r_chk, rP0, bS, r_isCopy, e1, b2i_eq0, if_true]
/-! idle -/
def iP (l : List Nat) (B : Nat → Nat) (j : Nat) : Bool := mLk (mBld 1000 l 0 B) (mBld j l 0 B)
theorem mAll_cg {P Q : Nat → Bool} (h : ∀ i, P i = Q i) : ∀ d j, mAll P j d = mAll Q j d := by
  intro d
  induction d with
  | zero => intro j; rfl
  | succ d ih => intro j; show (P j && mAll P (j + 1) d) = (Q j && mAll Q (j + 1) d); rw [h, ih]
theorem lk_comm (E D : Nat → Nat) : mLk E D = mLk D E := by
  unfold mLk
  exact mAll_cg (fun i => decide_eq_decide.mpr ⟨Eq.symm, Eq.symm⟩) 12 2
theorem x_idL {c : Nat} (hc : c < 3) : ∀ d j fuel (S : o_S) (A : aS) (v : Nat), (wL (sW A) c).length ≤ 20 → j + d = (wL (sW A) c).length → d < fuel → v < 2 ^ 20 → CR S A → ∃ S', l_X9_idle_24 fuel (ov S n) 0 (4 + 8 * c) (nI v) (nI j) = some (ov S' n, nI (fw (mSt (iP (wL (sW A) c) (wB (sW A) c))) v j d)) ∧ CR S' (sRow A [Int32.toInt64 (nI (cbit 20 (fw (mSt (iP (wL (sW A) c) (wB (sW A) c))) v j d)))]) ∧ AG (fun b => b < 296) S S' := by
  intro d
  induction d with
  | zero =>
    intro j fuel S A v hl hj hf hv H
    obtain ⟨f, rfl⟩ : ∃ f, fuel = f + 1 := ⟨fuel - 1, by omega⟩
    obtain ⟨S1, k1, k2, k3⟩ := x_tellSet (n := n) H hv
    refine ⟨S1, ?_, k2, k3.mono (fun b q => by omega)⟩
    show b_X9_idle_24 _ _ _ _ _ _ = _
    unfold b_X9_idle_24
    simp only [u_R3 hc, bS, s_gI (H.lg hc), i_le (show (wL (sW A) c).length < 2 ^ 31 by omega) (show j < 2 ^ 31 by omega), show (wL (sW A) c).length ≤ j by omega, if_true, k1]
    rfl
  | succ d ih =>
    intro j fuel S A v hl hj hf hv H
    obtain ⟨f, rfl⟩ : ∃ f, fuel = f + 1 := ⟨fuel - 1, by omega⟩
    obtain ⟨S1, k1, k2, k3⟩ := t_rebuild (n := n) k97 (H.cc hc).1.2.2.2 (H.lg hc) (by omega) (w_some (j := j) (by omega)) (by omega)
    have H1 : CR S1 A := H.ag k3 (fun b q => by unfold xsc; omega)
    have hlk := t_looksAs (n := n) k2 (H1.te hc)
    rw [lk_comm] at hlk
    have hlk : f_X7_looksAs (ov S1 n) 97 (4 + 8 * c + 6) = some (ov S1 n, b2i (iP (wL (sW A) c) (wB (sW A) c) j)) := hlk
    obtain ⟨S2, g1, g2, g3⟩ := ih (j + 1) f S1 A (mSt (iP (wL (sW A) c) (wB (sW A) c)) j v) hl (by omega) (by omega) (mSt_lt' (by omega) hv) H1
    refine ⟨S2, ?_, g2, k3.tr g3 (fun b q => by omega) (fun b q => q)⟩
    show b_X9_idle_24 _ _ _ _ _ _ = _
    unfold b_X9_idle_24 b_X9_idle_75
    simp (disch := omega) only [u_R3 hc, bS, s_gI (H.lg hc), i_le, show ¬ (wL (sW A) c).length ≤ j by omega, if_false, xR6, u_R4 hc, k1, u_R5 hc, hlk, b2i_eq0, i_bit (show j < 32 by omega), i_or v (2 ^ j) (by omega) (Nat.pow_lt_pow_right (by omega) (by omega)), nI_1]
    show _ = some (ov S2 n, nI (fw _ (mSt _ j v) (j + 1) d))
    rw [← g1]
    unfold mSt
    cases iP (wL (sW A) c) (wB (sW A) c) j <;> rfl
theorem r_idL (h : OKA T A) {c : Nat} (hc : c < 3) : ∀ d j fuel (S : o_S) (v : Nat), j + d = (wL (sW A) c).length → d < fuel → v < 2 ^ 20 → RR S A → LL S (wL (sW A) c) → TT S 0 (tr (sW A) c) → ∃ S', l_X10_idle_24 fuel (ov S n) 296 (nI c) (nI v) (nI j) = some (ov S' n, nI (fw (mSt (iP (wL (sW A) c) (wB (sW A) c))) v j d)) ∧ RR S' (sRow A [Int32.toInt64 (nI (cbit 20 (fw (mSt (iP (wL (sW A) c) (wB (sW A) c))) v j d)))]) ∧ AG (fun b => 296 ≤ b ∧ b < 313) S S' := by
  have hl := (h.1.2.2.1 c hc).1
  intro d
  induction d with
  | zero =>
    intro j fuel S v hj hf hv H hL hT
    obtain ⟨f, rfl⟩ : ∃ f, fuel = f + 1 := ⟨fuel - 1, by omega⟩
    obtain ⟨S1, k1, k2, k3⟩ := r_tell (n := n) H (Int32.toInt64 (nI (cbit 20 v)))
    refine ⟨S1, ?_, k2, k3.ag⟩
    show b_X10_idle_24 _ _ _ _ _ _ = _
    unfold b_X10_idle_24
    simp only [rI9, hL.1, bS, i_le (show (wL (sW A) c).length < 2 ^ 31 by omega) (show j < 2 ^ 31 by omega), show (wL (sW A) c).length ≤ j by omega, if_true, rP1, r_bitsOf _ hv, k1]
    rfl
  | succ d ih =>
    intro j fuel S v hj hf hv H hL hT
    obtain ⟨f, rfl⟩ : ∃ f, fuel = f + 1 := ⟨fuel - 1, by omega⟩
    have hok : ∀ k ∈ wL (sW A) c, okM k := fun k hk => ((h.1.2.2.1 c hc).2.2 k hk).1
    obtain ⟨S1, k1, k2, k3, k4⟩ := r_growW (n := n) h.1 H.1 hc (s := 1) (by omega) hL hok (w_some (j := j) (by omega))
    have H1 : RR S1 A := H.zs k4.x.z k4.m
    have k1 : f_X10_grows (ov S n) 296 1 (nI c) (nI j) = some (ov S1 n, ()) := k1
    have hT1 : TT S1 0 (tr (sW A) c) := hT.rg k4 (by omega)
    have hlk : f_X10_areLike (ov S1 n) 296 0 1 = some (ov S1 n, b2i (iP (wL (sW A) c) (wB (sW A) c) j)) := r_areLike (s := 0) (s' := 1) hT1 (h.1.ti hc) k2 (TI.bld j _ 0 _ (h.1.2.2.2.1 c hc).1 hok)
    obtain ⟨S2, g1, g2, g3⟩ := ih (j + 1) f S1 (mSt (iP (wL (sW A) c) (wB (sW A) c)) j v) (by omega) (by omega) (mSt_lt' (by omega) hv) H1 (hL.rg k4) hT1
    refine ⟨S2, ?_, g2, k4.x.z.ag.tr g3 (fun b q => q) (fun b q => q)⟩
    show b_X10_idle_24 _ _ _ _ _ _ = _
    unfold b_X10_idle_24 b_X10_idle_56
    simp (disch := omega) only [rI9, hL.1, bS, i_le, show ¬ (wL (sW A) c).length ≤ j by omega, if_false, k1, hlk, b2i_eq0, i_or0, i_bit (show j < 32 by omega), i_or v (2 ^ j) (by omega) (Nat.pow_lt_pow_right (by omega) (by omega)), nI_1]
    show _ = some (ov S2 n, nI (fw _ (mSt _ j v) (j + 1) d))
    rw [← g1]
    unfold mSt
    cases iP (wL (sW A) c) (wB (sW A) c) j <;> rfl
theorem ag_idle (h : OKA T A) (x : Int32) : AGR T A (fun h => f_X9_idle h 0 x) (fun h => f_X10_idle h 296 x) := by
  by_cases e1 : inR 0 3 x = true
  · obtain ⟨c, -, hc, rfl⟩ := inR_t e1 (by omega)
    have hl20 := (h.1.2.2.1 c hc).1
    refine ⟨nI (fw (mSt (iP (wL (sW A) c) (wB (sW A) c))) 0 0 (wL (sW A) c).length), sRow A [Int32.toInt64 (nI (cbit 20 (fw (mSt (iP (wL (sW A) c) (wB (sW A) c))) 0 0 (wL (sW A) c).length)))], fun S n H => ?_, fun S n H => ?_, h.row (by omega) _⟩
    · obtain ⟨S1, g1, g2, g3⟩ := x_idL (n := n) hc (wL (sW A) c).length 0 q_FU S A 0 hl20 (by omega) (q_FU_lt (by omega)) (by omega) H
      refine ⟨S1, ?_, g2, g3⟩
      unfold f_X9_idle b_X9_idle_0
      simp only [x_chk, x_isCopy, e1, b2i_eq0, Bool.true_eq_false, if_false, bS, xR0, u_R0, u_cp hc]
      exact g1
    · have H0 : RR (o_sf S 296 0 0) A := H.fld 0 (by omega) (by omega)
      obtain ⟨S1, g1, g2, g3, g4, g5, g6, -, -⟩ := r_laysR (n := n) h H0 hc (s := 0) (by omega)
      have g1 : f_X10_lays (ov (o_sf S 296 0 0) n) 296 0 (nI c) = some (ov S1 n, ()) := g1
      obtain ⟨S2, k1, k2, k3⟩ := r_idL (n := n) h hc (wL (sW A) c).length 0 q_FU S1 0 (by omega) (q_FU_lt (by omega)) (by omega) g2 g3 g4
      refine ⟨S2, ?_, k2, ((RZ.fld 0 (by omega) (by omega)).tr g6).ag.tr k3 (fun b q => q) (fun b q => q)⟩
      unfold f_X10_idle b_X10_idle_0
      simp only [r_chk, rP0, r_isCopy, e1, b2i_eq0, Bool.true_eq_false, if_false, bS, g1]
      exact k1
  · have e1 : inR 0 3 x = false := by simpa using e1
    refine ⟨-1, A, fun S n H => ⟨S, ?_, H, AG.rf⟩, fun S n H => ⟨_, ?_, H.fld (k := 0) 0 (by omega) (by omega), (RZ.fld 0 (by omega) (by omega)).ag⟩, h.mono (by omega)⟩
    · unfold f_X9_idle b_X9_idle_0
      simp only [x_chk, x_isCopy, e1, b2i_eq0, if_true, bS]
    · unfold f_X10_idle b_X10_idle_0
      simp only [r_chk, rP0, bS, r_isCopy, e1, b2i_eq0, if_true]
end FI
