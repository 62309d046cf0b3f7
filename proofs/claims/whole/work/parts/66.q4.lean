/-! THE PUBLIC METHODS 4: meets, places, apart, late, then, keep, again, count -/
section P4
variable {S : o_S} {n : Nat × Nat × Nat} {A : aS} {T : Nat}
/-- the lowest node at or above a, by d steps, at or below which b lies -/
def mMe (E : Nat → Nat) (b : Nat) : Nat → Nat → Int32
  | 0, a => if mWi E a 14 b then nI a else -3
  | d + 1, a => if mWi E a 14 b then nI a else mMe E b d (cP (E a))
theorem su_0 {E : Nat → Nat} (ti : TI E) {a : Nat} (ha : mTh E a = true) (h : mSu E 14 a = 0) : a < 2 := by
  by_cases h2 : a < 2
  · exact h2
  · rw [su_s ti ha h2] at h
    omega
theorem su_1 {E : Nat → Nat} {a d : Nat} (h : mSu E 14 a = d + 1) : ¬ a < 2 := by
  intro h2
  have : mSu E 14 a = 0 := by simp [mSu, h2]
  omega
theorem x_meL {t : Nat} {E : Nat → Nat} (h : TE S t E) (ti : TI E) {o b : Nat} (ho : o < 14) (hb : b < 14) : ∀ d i fuel, mSu E 14 (mUp E i o) = d → mTh E (mUp E i o) = true → d + 1 < fuel → i + d < 2000 → l_X9_meets_69 fuel (ov S n) (nI o) (nI b) t (nI (i + d)) (nI i) = some (ov S n, mMe E b d (mUp E i o)) := by
  intro d
  induction d with
  | zero =>
    intro i fuel hs ht hf hi
    obtain ⟨f, rfl⟩ : ∃ f, fuel = f + 1 + 1 := ⟨fuel - 2, by omega⟩
    have ha := mTh_lt ti ht
    have h3 : l_X9_meets_69 (f + 1) (ov S n) (nI o) (nI b) t (nI i) (nI (i + 1)) = some (ov S n, -3) := by
      show b_X9_meets_69 _ _ _ _ _ _ _ = _
      unfold b_X9_meets_69
      rw [if_pos (nI_lt (by omega) (by omega))]
    show b_X9_meets_69 _ _ _ _ _ _ _ = _
    unfold b_X9_meets_69
    simp (disch := omega) only [Nat.add_zero, i_lt, Nat.lt_irrefl, if_false, t_upF h (show o < 16 by omega) (show i < 3000 by omega), bS, t_liesWithin h (show b < 16 by omega) (show mUp E i o < 2 ^ 31 by omega), b2i_eq0, mMe, nI_1, h3]
    cases mWi E (mUp E i o) 14 b <;> rfl
  | succ d ih =>
    intro i fuel hs ht hf hi
    obtain ⟨f, rfl⟩ : ∃ f, fuel = f + 1 := ⟨fuel - 1, by omega⟩
    have ha := mTh_lt ti ht
    have h2 := su_1 hs
    have eu : mUp E (i + 1) o = cP (E (mUp E i o)) := by
      rw [Nat.add_comm, mUp_add]
      show (if mUp E i o < 2 then _ else cP (E (mUp E i o))) = _
      rw [if_neg h2]
    have h3 := ti.th ht h2
    have := ih (i + 1) f (by rw [eu]; have := su_s ti ht h2; omega) (by rw [eu]; exact h3.1) (by omega) (by omega)
    rw [show i + 1 + d = i + (d + 1) by omega, eu] at this
    show b_X9_meets_69 _ _ _ _ _ _ _ = _
    unfold b_X9_meets_69
    simp (disch := omega) only [i_lt, show ¬ i + (d + 1) < i by omega, if_false, t_upF h (show o < 16 by omega) (show i < 3000 by omega), bS, t_liesWithin h (show b < 16 by omega) (show mUp E i o < 2 ^ 31 by omega), b2i_eq0, mMe, nI_1, this]
    cases mWi E (mUp E i o) 14 b <;> rfl
theorem r_meL {E : Nat → Nat} (h : TT S 0 E) (ti : TI E) {b : Nat} (hb : mTh E b = true) : ∀ d a fuel, mSu E 14 a = d → mTh E a = true → d < fuel → l_X10_meets_58 fuel (ov S n) 296 (nI b) (nI a) = some (ov S n, mMe E b d a) := by
  intro d
  induction d with
  | zero =>
    intro a fuel hs ht hf
    obtain ⟨f, rfl⟩ : ∃ f, fuel = f + 1 := ⟨fuel - 1, by omega⟩
    have ha := mTh_lt ti ht
    have h2 := su_0 ti ht hs
    have h1 : f_X10_isUnder (ov S n) 296 0 (nI b) (nI a) = some (ov S n, b2i (mWi E a 14 b)) := r_isUnder (s := 0) h ti ha hb
    show b_X10_meets_58 _ _ _ _ _ = _
    unfold b_X10_meets_58 b_X10_meets_88
    simp (disch := omega) only [show (2 : Int32) = nI 2 from rfl, i_lt, h2, if_true, h1, bS, b2i_eq0, mMe]
    cases mWi E a 14 b <;> rfl
  | succ d ih =>
    intro a fuel hs ht hf
    obtain ⟨f, rfl⟩ : ∃ f, fuel = f + 1 := ⟨fuel - 1, by omega⟩
    have ha := mTh_lt ti ht
    have h2 := su_1 hs
    have h3 := ti.th ht h2
    have h4 : E a ≠ 0 := by simpa [mTh, h2] using ht
    have h1 : f_X10_isUnder (ov S n) 296 0 (nI b) (nI a) = some (ov S n, b2i (mWi E a 14 b)) := r_isUnder (s := 0) h ti ha hb
    have hits : f_X10_its (ov S n) 296 0 (nI a) 0 = some (ov S n, eT (E a) 0) := r_its0 h ha
    have := ih (cP (E a)) f (by have := su_s ti ht h2; omega) h3.1 (by omega)
    show b_X10_meets_58 _ _ _ _ _ = _
    unfold b_X10_meets_58 b_X10_meets_88
    simp (disch := omega) only [show (2 : Int32) = nI 2 from rfl, i_lt, h2, if_false, h1, bS, b2i_eq0, mMe, hits, eT_0n h4, this]
    cases mWi E a 14 b <;> rfl
theorem ag_meets (h : OKA T A) (x y z : Int32) : AGR T A (fun h => f_X9_meets h 0 x y z) (fun h => f_X10_meets h 296 x y z) := by
  by_cases e : (inR 0 3 x && (inR 0 14 y && inR 0 14 z)) = true
  · simp only [Bool.and_eq_true] at e
    obtain ⟨e1, e2, e3⟩ := e
    obtain ⟨c, -, hc, rfl⟩ := inR_t e1 (by omega)
    obtain ⟨a, -, ha, rfl⟩ := inR_t e2 (by omega)
    obtain ⟨b, -, hb, rfl⟩ := inR_t e3 (by omega)
    have ti := h.1.ti hc
    have rl : ∀ (S : o_S) (n : Nat × Nat × Nat), RR S A → ∃ S1, f_X10_lays (ov (o_sf S 296 0 0) n) 296 0 (nI c) = some (ov S1 n, ()) ∧ RR S1 A ∧ TT S1 0 (tr (sW A) c) ∧ AG (fun b => 296 ≤ b ∧ b < 313) S S1 := by
      intro S n H
      have H0 : RR (o_sf S 296 0 0) A := H.fld 0 (by omega) (by omega)
      obtain ⟨S1, g1, g2, g3, g4, g5, g6, -, -⟩ := r_laysR (n := n) h H0 hc (s := 0) (by omega)
      exact ⟨S1, g1, g2, g4, ((RZ.fld 0 (by omega) (by omega)).tr g6).ag⟩
    by_cases ht : (mTh (tr (sW A) c) a && mTh (tr (sW A) c) b) = true
    · rw [Bool.and_eq_true] at ht
      obtain ⟨hta, htb⟩ := ht
      have hle := su_le (tr (sW A) c) 14 a
      refine ⟨mMe (tr (sW A) c) b (mSu (tr (sW A) c) 14 a) a, A, fun S n H => ⟨S, ?_, H, AG.rf⟩, fun S n H => ?_, h.mono (by omega)⟩
      · have := x_meL (n := n) (H.te hc) ti ha hb (mSu (tr (sW A) c) 14 a) 0 q_FU rfl hta (q_FU_lt (by omega)) (by omega)
        rw [Nat.zero_add] at this
        unfold f_X9_meets b_X9_meets_0
        simp only [x_chk, x_isCopy, x_isNode, e1, e2, e3, b2i_eq0, Bool.true_eq_false, if_false, bS, xR0, u_R0, u_cp hc, u_R5 hc, t_isThere (H.te hc) (show a < 16 by omega), t_isThere (H.te hc) (show b < 16 by omega), hta, htb, t_stepsUp (H.te hc) (show a < 16 by omega)]
        exact this
      · obtain ⟨S1, g1, g2, g3, g4⟩ := rl S n H
        have a1 : f_X10_isThere (ov S1 n) 296 0 (nI a) = _ := r_isThere (s := 0) g3 ha
        have a2 : f_X10_isThere (ov S1 n) 296 0 (nI b) = _ := r_isThere (s := 0) g3 hb
        have := r_meL (n := n) g3 ti htb (mSu (tr (sW A) c) 14 a) a q_FU rfl hta (q_FU_lt (by omega))
        refine ⟨S1, ?_, g2, g4⟩
        unfold f_X10_meets b_X10_meets_0
        simp only [r_chk, rP0, r_isCopy, r_isNode, e1, e2, e3, b2i_eq0, Bool.true_eq_false, if_false, bS, g1, a1, a2, hta, htb]
        exact this
    · have ht : (mTh (tr (sW A) c) a && mTh (tr (sW A) c) b) = false := by simpa using ht
      refine ⟨-2, A, fun S n H => ⟨S, ?_, H, AG.rf⟩, fun S n H => ?_, h.mono (by omega)⟩
      · unfold f_X9_meets b_X9_meets_0
        simp only [x_chk, x_isCopy, x_isNode, e1, e2, e3, b2i_eq0, Bool.true_eq_false, if_false, bS, xR0, u_R0, u_cp hc, u_R5 hc, t_isThere (H.te hc) (show a < 16 by omega), t_isThere (H.te hc) (show b < 16 by omega)]
        cases q : mTh (tr (sW A) c) a
        · simp
        · rw [q, Bool.true_and] at ht
          simp [ht]
      · obtain ⟨S1, g1, g2, g3, g4⟩ := rl S n H
        have a1 : f_X10_isThere (ov S1 n) 296 0 (nI a) = _ := r_isThere (s := 0) g3 ha
        have a2 : f_X10_isThere (ov S1 n) 296 0 (nI b) = _ := r_isThere (s := 0) g3 hb
        refine ⟨S1, ?_, g2, g4⟩
        unfold f_X10_meets b_X10_meets_0
        simp only [r_chk, rP0, r_isCopy, r_isNode, e1, e2, e3, b2i_eq0, Bool.true_eq_false, if_false, bS, g1, a1, a2]
        cases q : mTh (tr (sW A) c) a
        · simp
        · rw [q, Bool.true_and] at ht
          simp [ht]
  · have e : (inR 0 3 x && (inR 0 14 y && inR 0 14 z)) = false := by simpa using e
    refine ⟨-1, A, fun S n H => ⟨S, ?_, H, AG.rf⟩, fun S n H => ⟨_, ?_, H.fld (k := 0) 0 (by omega) (by omega), (RZ.fld 0 (by omega) (by omega)).ag⟩, h.mono (by omega)⟩
    · unfold f_X9_meets b_X9_meets_0
      simp only [x_chk, x_isCopy, x_isNode, bS, b2i_eq0]
      cases e1 : inR 0 3 x
      · simp
      · cases e2 : inR 0 14 y
        · simp
        · rw [e1, e2, Bool.true_and, Bool.true_and] at e
          simp [e]
    · unfold f_X10_meets b_X10_meets_0
      simp only [r_chk, rP0, r_isCopy, r_isNode, bS, b2i_eq0]
      cases e1 : inR 0 3 x
      · simp
      · cases e2 : inR 0 14 y
        · simp
        · rw [e1, e2, Bool.true_and, Bool.true_and] at e
          simp [e]
/-! places -/
theorem pl_eq {E : Nat → Nat} (ti : TI E) {f p : Nat} (hf : 2 ≤ f) : (mTh E p && !mWi E f 14 p) = mGo E f 14 p := by
  rw [ok_go ti hf]
  by_cases e1 : mTh E p = true
  · rw [e1]
    by_cases e2 : p = f
    · subst e2; simp [mWi]
    · by_cases e3 : mTh E f = true
      · simp [e2, e3]
      · have : E f = 0 := by
          simp [mTh] at e3
          exact e3.2
        rw [wi_not ti hf this _ _ e1]
        simp [e2, e3]
  · have e1 : mTh E p = false := by simpa using e1
    simp [e1]
theorem x_places {t : Nat} {E : Nat → Nat} (h : TE S t E) (ti : TI E) {f : Nat} (hf : 2 ≤ f) (hf' : f < 14) : l_X9_places_35 q_FU (ov S n) (nI f) t 0 0 = some (ov S n, nI (fw (mSt (mGo E f 14)) 0 0 14)) := by
  refine fw_loop (fun fuel a j => l_X9_places_35 fuel (ov S n) (nI f) t (nI a) (nI j)) (mSt (mGo E f 14)) (fun a => (ov S n, nI a)) (fun a => a < 2 ^ 32) 0 14 (fun fuel a _ => rfl) (fun fuel a j ha h1 h2 => ⟨mSt_lt (by omega) ha, ?_⟩) 14 0 q_FU 0 (by omega) (by omega) (by omega) (q_FU_lt (by omega))
  show b_X9_places_35 _ _ _ _ _ _ = _
  unfold b_X9_places_35 b_X9_places_70
  have hp := pl_eq ti (p := j) hf
  simp (disch := omega) only [show (14 : Int32) = nI 14 from rfl, i_le, show ¬ 14 ≤ j by omega, if_false, t_isThere h (show j < 16 by omega), t_liesWithin h (show j < 16 by omega) (show f < 2 ^ 31 by omega), bS, b2i_eq0, nI_1, i_bit (show j < 32 by omega), i_or a (2 ^ j) ha (Nat.pow_lt_pow_right (by omega) (by omega)), mSt, ← hp]
  cases mTh E j
  · rfl
  · cases mWi E f 14 j <;> rfl
theorem r_places {E : Nat → Nat} (h : TT S 0 E) (ti : TI E) {f : Nat} (hf : 2 ≤ f) (hf' : f < 14) : l_X10_places_32 q_FU (ov S n) 296 (nI f) 0 0 = some (ov S n, nI (fw (mSt (mGo E f 14)) 0 0 14)) := by
  refine fw_loop (fun fuel a j => l_X10_places_32 fuel (ov S n) 296 (nI f) (nI a) (nI j)) (mSt (mGo E f 14)) (fun a => (ov S n, nI a)) (fun a => a < 2 ^ 32) 0 14 (fun fuel a _ => rfl) (fun fuel a j ha h1 h2 => ⟨mSt_lt (by omega) ha, ?_⟩) 14 0 q_FU 0 (by omega) (by omega) (by omega) (q_FU_lt (by omega))
  have hg : f_X10_canGo (ov S n) 296 0 (nI f) (nI j) = _ := r_canGo (s := 0) h ti hf hf' h2
  show b_X10_places_32 _ _ _ _ _ _ = _
  unfold b_X10_places_32 b_X10_places_59
  simp (disch := omega) only [show (14 : Int32) = nI 14 from rfl, i_le, show ¬ 14 ≤ j by omega, if_false, hg, bS, b2i_eq0, nI_1, i_bit (show j < 32 by omega), i_or a (2 ^ j) ha (Nat.pow_lt_pow_right (by omega) (by omega)), i_or0, mSt]
  cases mGo E f 14 j <;> rfl
theorem ag_places (h : OKA T A) (x y : Int32) : AGR T A (fun h => f_X9_places h 0 x y) (fun h => f_X10_places h 296 x y) := by
  by_cases e : (inR 0 3 x && inR 2 14 y) = true
  · simp only [Bool.and_eq_true] at e
    obtain ⟨e1, e2⟩ := e
    obtain ⟨c, -, hc, rfl⟩ := inR_t e1 (by omega)
    obtain ⟨f, hf, hf', rfl⟩ := inR_t e2 (by omega)
    have ti := h.1.ti hc
    refine ⟨nI (fw (mSt (mGo (tr (sW A) c) f 14)) 0 0 14), A, fun S n H => ⟨S, ?_, H, AG.rf⟩, fun S n H => ?_, h.mono (by omega)⟩
    · unfold f_X9_places b_X9_places_0
      simp only [x_chk, x_isCopy, x_isFolder, e1, e2, b2i_eq0, Bool.true_eq_false, if_false, bS, xR0, u_R0, u_cp hc, u_R5 hc]
      exact x_places (H.te hc) ti hf hf'
    · have H0 : RR (o_sf S 296 0 0) A := H.fld 0 (by omega) (by omega)
      obtain ⟨S1, g1, g2, g3, g4, g5, g6, -, -⟩ := r_laysR (n := n) h H0 hc (s := 0) (by omega)
      have g1 : f_X10_lays (ov (o_sf S 296 0 0) n) 296 0 (nI c) = some (ov S1 n, ()) := g1
      refine ⟨S1, ?_, g2, ((RZ.fld 0 (by omega) (by omega)).tr g6).ag⟩
      unfold f_X10_places b_X10_places_0
      simp only [r_chk, rP0, r_isCopy, r_isFolder, e1, e2, b2i_eq0, Bool.true_eq_false, if_false, bS, g1]
      exact r_places g4 ti hf hf'
  · have e : (inR 0 3 x && inR 2 14 y) = false := by simpa using e
    refine ⟨-1, A, fun S n H => ⟨S, ?_, H, AG.rf⟩, fun S n H => ⟨_, ?_, H.fld (k := 0) 0 (by omega) (by omega), (RZ.fld 0 (by omega) (by omega)).ag⟩, h.mono (by omega)⟩
    · unfold f_X9_places b_X9_places_0
      simp only [x_chk, x_isCopy, x_isFolder, bS, b2i_eq0]
      cases e1 : inR 0 3 x
      · simp
      · rw [e1, Bool.true_and] at e
        simp [e]
    · unfold f_X10_places b_X10_places_0
      simp only [r_chk, rP0, r_isCopy, r_isFolder, bS, b2i_eq0]
      cases e1 : inR 0 3 x
      · simp
      · rw [e1, Bool.true_and] at e
        simp [e]
/-! apart -/
theorem ag_apart (h : OKA T A) (x y : Int32) : AGR T A (fun h => f_X9_apart h 0 x y) (fun h => f_X10_apart h 296 x y) := by
  by_cases e : two x y = true
  · obtain ⟨a, b, ha, hb, hab, rfl, rfl⟩ := two_t e
    have hlt : mOt (tr (sW A) a) (tr (sW A) b) < 2 ^ 20 := Nat.lt_trans (ot_lt _ _) (by omega)
    refine ⟨nI (cbit 20 (mOt (tr (sW A) a) (tr (sW A) b))), sRow A [Int32.toInt64 (nI (mOt (tr (sW A) a) (tr (sW A) b)))], fun S n H => ?_, fun S n H => ?_, h.row (by omega) _⟩
    · obtain ⟨S1, k1, k2, k3⟩ := x_tell (n := n) H (Int32.toInt64 (nI (mOt (tr (sW A) a) (tr (sW A) b))))
      refine ⟨S1, ?_, k2, k3.mono (fun b q => by omega)⟩
      unfold f_X9_apart b_X9_apart_0
      simp only [x_chk, x_areTwo, e, b2i_eq0, Bool.true_eq_false, if_false, xR0, u_R0, u_cp ha, u_cp hb, u_R5 ha, u_R5 hb, bS, t_otherThan (H.te ha) (H.te hb), xR4, k1, x_bitCount _ hlt]
    · have H0 : RR (o_sf S 296 0 0) A := H.fld 0 (by omega) (by omega)
      obtain ⟨S1, g1, g2, g3, g4, g5, g6, -, -⟩ := r_laysR (n := n) h H0 ha (s := 0) (by omega)
      obtain ⟨S2, l1, l2, l3, l4, l5, l6, -, l8⟩ := r_laysR (n := n) h g2 hb (s := 1) (by omega)
      have t0 := l8 0 _ (by omega) g4
      have g1 : f_X10_lays (ov (o_sf S 296 0 0) n) 296 0 (nI a) = some (ov S1 n, ()) := g1
      have l1 : f_X10_lays (ov S1 n) 296 1 (nI b) = some (ov S2 n, ()) := l1
      obtain ⟨S3, k1, k2, k3⟩ := r_tell (n := n) l2 (Int32.toInt64 (nI (mOt (tr (sW A) a) (tr (sW A) b))))
      have a1 : f_X10_otherSet (ov (o_sf S2 296 1 0) n) 296 0 1 = _ := r_otherSet (s := 0) (s' := 1) (t0.re re_row0) (h.1.ti ha) (l4.re re_row0) (h.1.ti hb)
      have a2 : f_X10_otherSet (ov S3 n) 296 0 1 = _ := r_otherSet (s := 0) (s' := 1) (t0.re k3) (h.1.ti ha) (l4.re k3) (h.1.ti hb)
      refine ⟨S3, ?_, k2, (((RZ.fld 0 (by omega) (by omega)).tr g6).tr l6).ag.tr k3.ag (fun _ q => q) (fun _ q => q)⟩
      unfold f_X10_apart b_X10_apart_0 f_X10_other b_X10_other_0
      simp only [r_chk, rP0, r_areTwo, e, b2i_eq0, Bool.true_eq_false, if_false, bS, g1, l1, rP1, a1, k1, a2, r_bitsOf _ hlt]
  · have e' : two x y = false := by simpa using e
    refine ⟨-1, A, fun S n H => ⟨S, ?_, H, AG.rf⟩, fun S n H => ⟨_, ?_, H.fld (k := 0) 0 (by omega) (by omega), (RZ.fld 0 (by omega) (by omega)).ag⟩, h.mono (by omega)⟩
    · unfold f_X9_apart b_X9_apart_0
      simp only [x_chk, x_areTwo, e', b2i_eq0, if_true, bS]
    · unfold f_X10_apart b_X10_apart_0
      simp only [r_chk, rP0, bS, r_areTwo, e', b2i_eq0, if_true]
end P4
