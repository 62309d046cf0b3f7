/-! PATHS AS TEXTS -/
def spT (r : Nat) : List Int64 := if r = 0 then [] else [46] ++ (if r ≤ 9 then [] else [Int32.toInt64 (48 + nI (r / 10))]) ++ [Int32.toInt64 (48 + nI (r % 10))]
def sp (E : Nat → Nat) (f : Nat) : List Int64 := [47] ++ [Int32.toInt64 (48 + nI (cN (E f)))] ++ spT (mRk E f)
def pR (E : Nat → Nat) : Nat → Nat → List Int64
  | 0, a => if a = 1 then [126] else []
  | d + 1, a => pR E d (cP (E a)) ++ sp E a
theorem spT_len (r : Nat) : (spT r).length ≤ 3 := by
  unfold spT
  split
  · simp
  · split <;> simp
theorem sp_len (E : Nat → Nat) (f : Nat) : (sp E f).length ≤ 5 := by
  have := spT_len (mRk E f)
  simp [sp]
  omega
theorem pR_len (E : Nat → Nat) : ∀ d a, (pR E d a).length ≤ 5 * d + 1 := by
  intro d
  induction d with
  | zero => intro a; simp only [pR]; split <;> simp
  | succ d ih =>
    intro a
    have h1 := ih (cP (E a))
    have h2 := sp_len E a
    simp only [pR, List.length_append]
    omega
theorem q_rem10 {r : Nat} (h : r < 2 ^ 31) : q_rem (nI r) 10 = some (nI (r % 10)) := by
  unfold q_rem
  rw [if_neg (by decide), show (10 : Int32) = nI 10 from rfl, pk_rem h (by omega) (by omega)]
theorem q_div10 {r : Nat} (h : r < 2 ^ 31) : q_div (nI r) 10 = some (nI (r / 10)) := by
  unfold q_div
  rw [if_neg (by decide), show (10 : Int32) = nI 10 from rfl, pk_div h (by omega) (by omega)]
section PA
variable {S : o_S} {n : Nat × Nat × Nat} {A : aS} {t T : Nat} {E : Nat → Nat}
theorem x_aS71 (H : CR S A) {r : Nat} (hr : r ≤ 12) (h0 : 0 < r) (hl : (sR A).length < 80) : ∃ S', b_X9_addStep_71 (ov S n) 0 (nI r) = some (ov S' n, ()) ∧ CR S' (sRow A (sR A ++ [Int32.toInt64 (48 + nI (r % 10))])) ∧ AG (fun b => b = 93 ∨ b = 94) S S' := by
  obtain ⟨S1, k1, k2, k3⟩ := x_add (n := n) H hl (Int32.toInt64 (48 + nI (r % 10)))
  refine ⟨S1, ?_, k2, k3⟩
  unfold b_X9_addStep_71
  rw [if_neg (by rw [i_le0 (by omega)]; omega), xR4, bS, q_rem10 (by omega), bS, k1, bS]
theorem x_aS50 (H : CR S A) {r : Nat} (hr : r ≤ 12) (h0 : 0 < r) (hl : (sR A).length + 1 < 80) : ∃ S', b_X9_addStep_50 (ov S n) 0 (nI r) = some (ov S' n, ()) ∧ CR S' (sRow A (sR A ++ (if r ≤ 9 then [] else [Int32.toInt64 (48 + nI (r / 10))]) ++ [Int32.toInt64 (48 + nI (r % 10))])) ∧ AG (fun b => b = 93 ∨ b = 94) S S' := by
  unfold b_X9_addStep_50
  by_cases e : r ≤ 9
  · obtain ⟨S1, k1, k2, k3⟩ := x_aS71 (n := n) H hr h0 (by omega)
    refine ⟨S1, ?_, by rw [if_pos e, List.append_nil]; exact k2, k3⟩
    rw [if_pos (by rw [show (9 : Int32) = nI 9 from rfl, i_le (by omega) (by omega)]; exact e), k1]
  · obtain ⟨S1, k1, k2, k3⟩ := x_add (n := n) H (by omega) (Int32.toInt64 (48 + nI (r / 10)))
    obtain ⟨S2, l1, l2, l3⟩ := x_aS71 (n := n) k2 hr h0 (by rw [sRr]; simp; omega)
    refine ⟨S2, ?_, by rw [if_neg e]; exact l2, k3.tr l3 (fun _ q => q) (fun _ q => q)⟩
    rw [if_neg (by rw [show (9 : Int32) = nI 9 from rfl, i_le (by omega) (by omega)]; exact e), xR4, bS, q_div10 (by omega), bS, k1, bS, l1]
theorem x_addStep (H : CR S A) (hE : TE S t E) (ht : t + 1 ≠ 93 ∧ t + 1 ≠ 94) {f : Nat} (hf : f < 14) (hl : (sR A).length + 5 ≤ 80) : ∃ S', f_X9_addStep (ov S n) 0 t (nI f) = some (ov S' n, ()) ∧ CR S' (sRow A (sR A ++ sp E f)) ∧ AG (fun b => b = 93 ∨ b = 94) S S' := by
  have hb := (hE.2 f (by omega)).2
  have hrk := mRk_lt E f
  obtain ⟨S1, k1, k2, k3⟩ := x_add (n := n) H (by omega) 47
  have hE1 := hE.ag k3 (by omega)
  obtain ⟨S2, l1, l2, l3⟩ := x_add (n := n) k2 (by rw [sRr]; simp; omega) (Int32.toInt64 (48 + nI (cN (E f))))
  have hE2 := hE1.ag l3 (by omega)
  have hag := k3.tr l3 (C := fun b => b = 93 ∨ b = 94) (fun _ q => q) (fun _ q => q)
  unfold f_X9_addStep b_X9_addStep_0
  simp only [x_chk, xR4, bS, k1, t_get hE1, t_ld hE1 (show f < 16 by omega), c_name _ hb, l1, t_rankOf hE2 (show f < 16 by omega)]
  by_cases e : mRk E f = 0
  · have es : sp E f = [47] ++ [Int32.toInt64 (48 + nI (cN (E f)))] := by unfold sp spT; rw [if_pos e, List.append_nil]
    refine ⟨S2, ?_, by rw [es, ← List.append_assoc]; exact l2, hag⟩
    rw [e, if_pos (by decide)]
    unfold b_X9_addStep_50 b_X9_addStep_71
    rw [if_pos (by decide), if_pos (by decide)]
  · obtain ⟨S3, p1, p2, p3⟩ := x_add (n := n) l2 (by rw [sRr, sRr]; simp; omega) 46
    obtain ⟨S4, q1, q2, q3⟩ := x_aS50 (n := n) p2 hrk (by omega) (by rw [sRr, sRr, sRr]; simp; omega)
    have es : sR A ++ sp E f = sR A ++ [47] ++ [Int32.toInt64 (48 + nI (cN (E f)))] ++ [46] ++ (if mRk E f ≤ 9 then [] else [Int32.toInt64 (48 + nI (mRk E f / 10))]) ++ [Int32.toInt64 (48 + nI (mRk E f % 10))] := by
      unfold sp spT
      rw [if_neg e]
      simp only [List.append_assoc]
    refine ⟨S4, ?_, by rw [es]; exact q2, (hag.tr p3 (C := fun b => b = 93 ∨ b = 94) (fun _ q => q) (fun _ q => q)).tr q3 (fun _ q => q) (fun _ q => q)⟩
    rw [if_neg (by rw [i_le0 (by omega)]; exact e), p1, bS, q1]
theorem up_th (ti : TI E) {a : Nat} (ha : mTh E a = true) : ∀ i, i ≤ mSu E 14 a → mSu E 14 (mUp E i a) = mSu E 14 a - i ∧ mTh E (mUp E i a) = true := by
  intro i
  induction i with
  | zero => intro _; exact ⟨rfl, ha⟩
  | succ i ih =>
    intro hi
    obtain ⟨h1, h2⟩ := ih (by omega)
    have h3 : ¬ mUp E i a < 2 := su_1 (E := E) (d := mSu E 14 a - i - 1) (by omega)
    have eu : mUp E (i + 1) a = cP (E (mUp E i a)) := by
      rw [Nat.add_comm, mUp_add]
      show (if mUp E i a < 2 then _ else cP (E (mUp E i a))) = _
      rw [if_neg h3]
    have h4 := su_s ti h2 h3
    rw [eu]
    exact ⟨by omega, (ti.th h2 h3).1⟩
theorem up_1 (ti : TI E) {a i : Nat} (ha : mTh E a = true) (hi : i < mSu E 14 a) : mUp E (i + 1) a = cP (E (mUp E i a)) := by
  obtain ⟨h1, h2⟩ := up_th ti ha i (by omega)
  have h3 : ¬ mUp E i a < 2 := su_1 (E := E) (d := mSu E 14 a - i - 1) (by omega)
  rw [Nat.add_comm, mUp_add]
  show (if mUp E i a < 2 then _ else cP (E (mUp E i a))) = _
  rw [if_neg h3]
theorem x_paL (ti : TI E) (ht : t + 1 ≠ 93 ∧ t + 1 ≠ 94) {a : Nat} (ha : mTh E a = true) : ∀ i fuel (S : o_S) (A : aS), i ≤ mSu E 14 a → i < fuel → CR S A → TE S t E → sR A = pR E (mSu E 14 a - i) (mUp E i a) → ∃ S', l_X9_path_70 fuel (ov S n) 0 (nI a) t (nI i - 1) = some (ov S' n, nI (pR E (mSu E 14 a) a).length) ∧ CR S' (sRow A (pR E (mSu E 14 a) a)) ∧ AG (fun b => b = 93 ∨ b = 94) S S' := by
  have hsu := su_12 ti ha
  have ha14 := mTh_lt ti ha
  intro i
  induction i with
  | zero =>
    intro fuel S A hi hf H hE hr
    obtain ⟨f, rfl⟩ : ∃ f, fuel = f + 1 := ⟨fuel - 1, by omega⟩
    have hr : sR A = pR E (mSu E 14 a) a := hr
    refine ⟨S, ?_, by rw [← hr]; exact H, AG.rf⟩
    show b_X9_path_70 _ _ _ _ _ _ = _
    unfold b_X9_path_70
    rw [if_pos (by decide), xR4, bS, H.rl, bS, hr]
  | succ i ih =>
    intro fuel S A hi hf H hE hr
    obtain ⟨f, rfl⟩ : ∃ f, fuel = f + 1 := ⟨fuel - 1, by omega⟩
    have hlen := pR_len E (mSu E 14 a - (i + 1)) (mUp E (i + 1) a)
    have hu := mTh_lt ti (up_th ti ha i (by omega)).2
    obtain ⟨S1, k1, k2, k3⟩ := x_addStep (n := n) H hE ht hu (by rw [hr]; omega)
    obtain ⟨S2, l1, l2, l3⟩ := ih f S1 (sRow A (sR A ++ sp E (mUp E i a))) (by omega) (by omega) k2 (hE.ag k3 (by omega)) (by
      rw [sRr, hr, up_1 ti ha (by omega), show mSu E 14 a - i = (mSu E 14 a - (i + 1)) + 1 by omega]
      rfl)
    refine ⟨S2, ?_, l2, k3.tr l3 (fun _ q => q) (fun _ q => q)⟩
    show b_X9_path_70 _ _ _ _ _ _ = _
    unfold b_X9_path_70
    rw [nI_pred, if_neg (nI_pos (by omega)), t_upF hE (by omega) (by omega), bS, k1, bS, i_m1s]
    exact l1
theorem r_eP87 (self : q_H → Nat → Int32 → Option (q_H × Unit)) (H : RR S A) {r : Nat} (hr : r ≤ 12) (h0 : 0 < r) (hl : (sR A).length < 80) : ∃ S', b_X10_entersPath_87 self (ov S n) 296 (nI r) = some (ov S' n, ()) ∧ RR S' (sRow A (sR A ++ [Int32.toInt64 (48 + nI (r % 10))])) ∧ RE S S' := by
  obtain ⟨S1, k1, k2, k3⟩ := r_enters (n := n) H hl (Int32.toInt64 (48 + nI (r % 10)))
  refine ⟨S1, ?_, k2, k3⟩
  unfold b_X10_entersPath_87
  rw [if_neg (by rw [i_le0 (by omega)]; omega), q_rem10 (by omega), bS, k1, bS]
theorem r_eP69 (self : q_H → Nat → Int32 → Option (q_H × Unit)) (H : RR S A) {r : Nat} (hr : r ≤ 12) (h0 : 0 < r) (hl : (sR A).length + 1 < 80) : ∃ S', b_X10_entersPath_69 self (ov S n) 296 (nI r) = some (ov S' n, ()) ∧ RR S' (sRow A (sR A ++ (if r ≤ 9 then [] else [Int32.toInt64 (48 + nI (r / 10))]) ++ [Int32.toInt64 (48 + nI (r % 10))])) ∧ RE S S' := by
  unfold b_X10_entersPath_69
  by_cases e : r ≤ 9
  · obtain ⟨S1, k1, k2, k3⟩ := r_eP87 (n := n) self H hr h0 (by omega)
    refine ⟨S1, ?_, by rw [if_pos e, List.append_nil]; exact k2, k3⟩
    rw [if_pos (by rw [show (9 : Int32) = nI 9 from rfl, i_le (by omega) (by omega)]; exact e), k1]
  · obtain ⟨S1, k1, k2, k3⟩ := r_enters (n := n) H (by omega) (Int32.toInt64 (48 + nI (r / 10)))
    obtain ⟨S2, l1, l2, l3⟩ := r_eP87 (n := n) self k2 hr h0 (by rw [sRr]; simp; omega)
    refine ⟨S2, ?_, by rw [if_neg e]; exact l2, k3.tr l3⟩
    rw [if_neg (by rw [show (9 : Int32) = nI 9 from rfl, i_le (by omega) (by omega)]; exact e), q_div10 (by omega), bS, k1, bS, l1]
theorem r_path (ti : TI E) (su : SU E) : ∀ d a D (S : o_S) (A : aS), mSu E 14 a = d → mTh E a = true → d < D → RR S A → TT S 0 E → (sR A).length + 5 * d + 1 ≤ 80 → ∃ S', f_X10_entersPath D (ov S n) 296 (nI a) = some (ov S' n, ()) ∧ RR S' (sRow A (sR A ++ pR E d a)) ∧ RE S S' := by
  intro d
  induction d with
  | zero =>
    intro a D S A hs ha hD H hE hl
    obtain ⟨D, rfl⟩ : ∃ D', D = D' + 1 := ⟨D - 1, by omega⟩
    have h2 := su_0 ti ha hs
    show ∃ S', q_chk 9 _ _ (b_X10_entersPath_0 (f_X10_entersPath D) _ _ _) = _ ∧ _
    unfold b_X10_entersPath_0 b_X10_entersPath_12
    rw [r_chk]
    have hn2 : ¬ (2 : Int32) ≤ nI a := by rw [show (2 : Int32) = nI 2 from rfl, i_le (by omega) (by omega)]; omega
    by_cases e : a = 1
    · subst e
      obtain ⟨S1, k1, k2, k3⟩ := r_enters (n := n) H (by omega) 126
      refine ⟨S1, ?_, k2, k3⟩
      rw [if_pos (show nI 1 = 1 from rfl), k1, bS, if_neg hn2]
    · refine ⟨S, ?_, by simp only [pR, e, if_false, List.append_nil]; exact H, RE.rf⟩
      rw [if_neg (by rw [i_eq1 (by omega)]; exact e), if_neg hn2]
  | succ d ih =>
    intro a D S A hs ha hD H hE hl
    obtain ⟨D, rfl⟩ : ∃ D', D = D' + 1 := ⟨D - 1, by omega⟩
    have h2 := su_1 hs
    have ha14 := mTh_lt ti ha
    have hne : E a ≠ 0 := by simpa [mTh, h2] using ha
    have hsp := su_s ti ha h2
    have hlp := pR_len E d (cP (E a))
    have hrk := mRk_lt E a
    have hits : f_X10_its (ov S n) 296 0 (nI a) 0 = some (ov S n, nI (cP (E a))) := by
      rw [← eT_0n hne]
      exact r_its0 hE ha14
    obtain ⟨S1, k1, k2, k3⟩ := ih (cP (E a)) D S A (by omega) (ti.th ha h2).1 (by omega) H hE (by omega)
    have hE1 := hE.re k3
    obtain ⟨S2, l1, l2, l3⟩ := r_enters (n := n) k2 (by rw [sRr]; simp; omega) 47
    have hE2 := hE1.re l3
    have hit2 : f_X10_its (ov S2 n) 296 0 (nI a) 1 = some (ov S2 n, nI (cN (E a))) := r_its1 hE2 ha14
    obtain ⟨S3, p1, p2, p3⟩ := r_enters (n := n) l2 (by rw [sRr, sRr]; simp; omega) (Int32.toInt64 (48 + nI (cN (E a))))
    have hE3 := hE2.re p3
    have hrank : f_X10_rank (ov S3 n) 296 0 (nI a) = some (ov S3 n, nI (mRk E a)) := r_rank (s := 0) hE3 ti su hne
    have h2' : (2 : Int32) ≤ nI a := by rw [show (2 : Int32) = nI 2 from rfl, i_le (by omega) (by omega)]; omega
    show ∃ S', q_chk 9 _ _ (b_X10_entersPath_0 (f_X10_entersPath D) _ _ _) = _ ∧ _
    unfold b_X10_entersPath_0 b_X10_entersPath_12
    rw [r_chk, if_neg (by rw [i_eq1 (by omega)]; omega), if_pos h2']
    simp only [hits, bS, k1, l1, hit2, p1, hrank]
    by_cases e : mRk E a = 0
    · have es : pR E (d + 1) a = pR E d (cP (E a)) ++ ([47] ++ [Int32.toInt64 (48 + nI (cN (E a)))]) := by show _ ++ sp E a = _; unfold sp spT; rw [if_pos e, List.append_nil]
      refine ⟨S3, ?_, by rw [es, ← List.append_assoc, ← List.append_assoc]; exact p2, (k3.tr l3).tr p3⟩
      rw [e, if_pos (by decide)]
      unfold b_X10_entersPath_69 b_X10_entersPath_87
      rw [if_pos (by decide), if_pos (by decide)]
    · obtain ⟨S4, q1, q2, q3⟩ := r_enters (n := n) p2 (by rw [sRr, sRr, sRr]; simp; omega) 46
      obtain ⟨S5, u1, u2, u3⟩ := r_eP69 (n := n) (f_X10_entersPath D) q2 hrk (by omega) (by rw [sRr, sRr, sRr, sRr]; simp; omega)
      have es : sR A ++ pR E (d + 1) a = sR A ++ pR E d (cP (E a)) ++ [47] ++ [Int32.toInt64 (48 + nI (cN (E a)))] ++ [46] ++ (if mRk E a ≤ 9 then [] else [Int32.toInt64 (48 + nI (mRk E a / 10))]) ++ [Int32.toInt64 (48 + nI (mRk E a % 10))] := by
        show sR A ++ (pR E d (cP (E a)) ++ sp E a) = _
        unfold sp spT
        rw [if_neg e]
        simp only [List.append_assoc]
      refine ⟨S5, ?_, by rw [es]; exact u2, (((k3.tr l3).tr p3).tr q3).tr u3⟩
      rw [if_neg (by rw [i_le0 (by omega)]; exact e), q1, bS, u1]
theorem ag_path (h : OKA T A) (x y : Int32) : AGR T A (fun h => f_X9_path h 0 x y) (fun h => f_X10_path h 296 x y) := by
  refine ag_ask h (x := x) (y := y) (fun S n r hr e => ?_) (fun S S' n r hr e => ?_) (fun c j hc hj hx hy ht ti su => ?_)
  · unfold f_X9_path b_X9_path_0
    simp only [x_chk, e, bS, neg_nle hr, if_false]
  · unfold f_X10_path b_X10_path_0
    simp only [r_chk, rP0, bS, e, neg_nle hr, if_false]
  · subst hx hy
    have hsu := su_12 ti ht
    have hu := ti.up14 ht
    refine ⟨nI (pR (tr (sW A) c) (mSu (tr (sW A) c) 14 j) j).length, sRow A (pR (tr (sW A) c) (mSu (tr (sW A) c) 14 j) j), fun S n H e => ?_, fun S S0 n H ht0 hl0 e => ?_, h.row (by omega) _⟩
    · have hte := H.te hc
      have hte0 : TE (o_sf S 93 1 0) (4 + 8 * c + 6) (tr (sW A) c) := hte.ag (AG_sf S 93 1 0) (by omega)
      have a1 := t_stepsUp (n := n) hte (show j < 16 by omega)
      have a2 := t_upF (n := n) hte0 (show j < 16 by omega) (show mSu (tr (sW A) c) 14 j < 3000 by omega)
      have a3 := up_su (tr (sW A) c) 14 j hu
      unfold f_X9_path b_X9_path_0 b_X9_path_64
      simp only [x_chk, e, bS, show (0 : Int32) ≤ 0 by decide, if_true, xR0, u_R0, u_cp hc, u_R5 hc, xR4, a1, yCl, a2]
      by_cases e1 : mUp (tr (sW A) c) (mSu (tr (sW A) c) 14 j) j = 1
      · obtain ⟨S1, k1, k2, k3⟩ := x_add (n := n) (x_row0 H) (show (0 : Nat) < 80 by omega) 126
        obtain ⟨S2, l1, l2, l3⟩ := x_paL (n := n) ti (show 4 + 8 * c + 6 + 1 ≠ 93 ∧ 4 + 8 * c + 6 + 1 ≠ 94 by omega) ht (mSu (tr (sW A) c) 14 j) q_FU S1 (sRow A ([] ++ [126])) (Nat.le_refl _) (q_FU_lt (by omega)) k2 (hte0.ag k3 (by omega)) (by
          rw [sRr, Nat.sub_self, e1]
          rfl)
        refine ⟨S2, ?_, l2, ((AG_sf S 93 1 0).tr k3 (C := fun b => b < 296) (fun b q => by omega) (fun b q => by omega)).tr l3 (fun b q => q) (fun b q => by omega)⟩
        rw [e1, if_pos (show nI 1 = 1 from rfl), k1, bS, l1]
      · obtain ⟨S2, l1, l2, l3⟩ := x_paL (n := n) ti (show 4 + 8 * c + 6 + 1 ≠ 93 ∧ 4 + 8 * c + 6 + 1 ≠ 94 by omega) ht (mSu (tr (sW A) c) 14 j) q_FU (o_sf S 93 1 0) (sRow A []) (Nat.le_refl _) (q_FU_lt (by omega)) (x_row0 H) hte0 (by
          rw [sRr, Nat.sub_self]
          simp only [pR, e1, if_false])
        refine ⟨S2, ?_, l2, (AG_sf S 93 1 0).tr l3 (fun b q => by omega) (fun b q => by omega)⟩
        rw [if_neg (by rw [i_eq1 (by omega)]; exact e1), l1]
    · obtain ⟨S1, k1, k2, k3⟩ := r_path (n := n) ti su (mSu (tr (sW A) c) 14 j) j q_RD (o_sf S0 296 1 0) (sRow A []) rfl ht (by show _ < 20; omega) (r_row0 H) (ht0.re re_row0) (by rw [sRr]; simp; omega)
      have hl := k2.rl (n := n)
      refine ⟨S1, ?_, k2, (re_row0.tr k3).ag⟩
      unfold f_X10_path b_X10_path_0
      simp only [r_chk, rP0, bS, e, show (0 : Int32) ≤ 0 by decide, if_true, rP1, k1, hl]
      rfl
end PA
