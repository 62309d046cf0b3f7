/-! THE PUBLIC METHODS 1: text, acts -/
theorem sXt (A : aS) (x : List Nat) : sX (sTxt A x) = x := Eq.trans rfl rfl
theorem sRr (A : aS) (x : List Int64) : sR (sRow A x) = x := Eq.trans rfl rfl
theorem inR_neg {hi : Nat} {x : Int32} (h : x < 0) : inR 0 hi x = false := by
  unfold inR
  rw [Int32.lt_iff_toInt_lt] at h
  have h0 : (0 : Int32).toInt = 0 := by decide
  exact decide_eq_false (by omega)
theorem x_eq (x : Int32) : x = nI x.toBitVec.toNat := by
  apply Int32.toBitVec_inj.mp
  show x.toBitVec = BitVec.ofNat 32 x.toBitVec.toNat
  rw [BitVec.ofNat_toNat, BitVec.setWidth_eq]
theorem x_tc (y : Int32) : y.toInt = (y.toBitVec.toNat : Int) ∨ y.toInt = (y.toBitVec.toNat : Int) - 4294967296 := by
  have h : y.toInt = y.toBitVec.toInt := rfl
  rw [h, BitVec.toInt_eq_toNat_cond]
  split
  · exact Or.inl rfl
  · exact Or.inr rfl
theorem sh_b (x s : Int32) (k : Nat) (hs : (s.toBitVec.smod 32).toNat = k) (hk : k = 24 ∨ k = 16 ∨ k = 8 ∨ k = 0) : (x >>> s) &&& 255 = nI (x.toBitVec.toNat / 2 ^ k % 256) := by
  rw [pk_and _ 8 (by decide)]
  have h1 := pk_shr x s k hs
  rw [Int.shiftRight_eq_div_pow] at h1
  have h2 := x_tc x
  have h3 := x_tc (x >>> s)
  have h4 : x.toBitVec.toNat < 4294967296 := x.toBitVec.isLt
  have h5 : (x >>> s).toBitVec.toNat < 4294967296 := (x >>> s).toBitVec.isLt
  congr 1
  rcases hk with rfl | rfl | rfl | rfl
  · have e : ((2 ^ 24 : Nat) : Int) = 16777216 := by decide
    rw [e] at h1
    omega
  · have e : ((2 ^ 16 : Nat) : Int) = 65536 := by decide
    rw [e] at h1
    omega
  · have e : ((2 ^ 8 : Nat) : Int) = 256 := by decide
    rw [e] at h1
    omega
  · have e : ((2 ^ 0 : Nat) : Int) = 1 := by decide
    rw [e] at h1
    omega
def by4 (m : Nat) : List Nat := [m / 2 ^ 24 % 256, m / 2 ^ 16 % 256, m / 2 ^ 8 % 256, m / 2 ^ 0 % 256]
theorem RR.txt {S S' : o_S} {A : aS} (H : RR S A) (k : AG (fun b => b = 296 ∨ b = 298) S S') (hf : S'.1 296 1 = S.1 296 1) {x : List Nat} (hx : rTx S' x) : RR S' (sTxt A x) :=
  ⟨by rw [k.I (by omega)]; exact H.1, fun i hi => by rw [k.I (b := 312) (by omega), k.I (b := 299) (by omega)]; exact H.2.1 i hi, ⟨H.2.2.1.1, by rw [hf]; exact H.2.2.1.2.1, by rw [k.L (by omega)]; exact H.2.2.1.2.2⟩, hx⟩
section P1
variable {S : o_S} {n : Nat × Nat × Nat} {A : aS} {T : Nat}
theorem x_ch (H : CR S A) (hl : (sX A).length < 80) {b : Nat} (hb : b < 256) : CR (o_sf (o_sI S 96 (upd (S.2.1 96) (sX A).length (nI b))) 95 1 (nI ((sX A).length + 1))) (sTxt A (sX A ++ [b])) ∧ AG (fun b => b = 95 ∨ b = 96) S (o_sf (o_sI S 96 (upd (S.2.1 96) (sX A).length (nI b))) 95 1 (nI ((sX A).length + 1))) := by
  have hX := H.2.2.2.2
  have hag : AG (fun b => b = 95 ∨ b = 96) S (o_sf (o_sI S 96 (upd (S.2.1 96) (sX A).length (nI b))) 95 1 (nI ((sX A).length + 1))) := (AG_sI _ _ _).tr (AG_sf _ _ _ _) (fun b hb => Or.inr hb) (fun b hb => Or.inl hb)
  refine ⟨⟨H.1.ag hag (fun b h1 h2 q => by omega), H.2.1.ag hag (fun b q => by omega), H.2.2.1.ag hag (fun b q => by omega), H.2.2.2.1.ag hag (fun b q => by omega), by rw [sXt]; simp; omega, ?_, fun j x hx => ?_⟩, hag⟩
  · rw [sf_f, pk_us, sXt, List.length_append]; rfl
  · rw [sXt] at hx
    show (if (96 : Nat) = 96 then upd (S.2.1 96) (sX A).length (nI b) else S.2.1 96) j = nI x ∧ x < 256
    rw [if_pos rfl]
    by_cases e : j = (sX A).length
    · subst e
      rw [pk_us]
      have : b = x := by simpa using hx
      subst this
      exact ⟨rfl, hb⟩
    · rw [pk_un e]
      have hj : j < (sX A ++ [b]).length := (List.getElem?_eq_some_iff.mp hx).1
      rw [List.length_append] at hj
      simp only [List.length_cons, List.length_nil] at hj
      rw [List.getElem?_append_left (by omega)] at hx
      exact hX.2.2 j x hx
theorem x_addL (H : CR S A) (hl : (sX A).length < 80) {m sh : Nat} (hm : m < 2 ^ 32) (hsh : sh < 32) (k26 : q_H → Nat → Int32 → Int32 → Option (q_H × Int32)) : ∃ S', b_X6_addFour_26 k26 (ov S n) 95 (nI m) (nI sh) = k26 (ov S' n) 95 (nI m) (nI sh + -8) ∧ CR S' (sTxt A (sX A ++ [m / 2 ^ sh % 256])) ∧ AG (fun b => b = 95 ∨ b = 96) S S' := by
  have hb : m / 2 ^ sh % 256 < 256 := Nat.mod_lt _ (by omega)
  obtain ⟨g1, g2⟩ := x_ch H hl hb
  refine ⟨_, ?_, g1, g2⟩
  unfold b_X6_addFour_26
  have ev : vp_nar .char (q_i2c (q_iushr (nI m) (nI sh) &&& 255)) = nI (m / 2 ^ sh % 256) := by
    rw [i_ushr hm hsh, pk_andN (Nat.lt_of_le_of_lt (Nat.div_le_self _ _) hm) 8 (by decide)]
    unfold q_i2c
    have hb' : m / 2 ^ sh % 2 ^ 8 < 256 := Nat.mod_lt _ (by omega)
    rw [pk_vc, pk_char, pk_tn (by omega), Nat.mod_eq_of_lt (by omega)]
  have e2 : (o_sI S 96 (upd (S.2.1 96) (sX A).length (nI (m / 2 ^ sh % 256)))).1 95 1 = nI (sX A).length := H.2.2.2.2.2.1
  simp only [i_lt0 (show sh < 2 ^ 31 by omega), if_false, zR0, H.xl, bS, zSt hl, ev, zI1, e2, nI_1, zP1]
theorem x_sign (H : CR S A) (x : Int32) : (76 < (sX A).length → f_X9_sign (ov S n) 0 x = some (ov S n, -1)) ∧ ((sX A).length ≤ 76 → ∃ S', f_X9_sign (ov S n) 0 x = some (ov S' n, nI ((sX A).length + 4)) ∧ CR S' (sTxt A (sX A ++ by4 x.toBitVec.toNat)) ∧ AG (fun b => b < 296) S S') := by
  have hX := H.2.2.2.2.1
  have h4 : nI (sX A).length + 4 = nI ((sX A).length + 4) := nI_add _ 4
  constructor
  · intro hl
    unfold f_X9_sign b_X9_sign_0 f_X6_addFour b_X6_addFour_0
    simp only [x_chk, xR5, zC, H.xl, zR0, zLn, bS, i_lt0 (show (sX A).length < 2 ^ 31 by omega), if_false, h4, i_le (show (sX A).length + 4 < 2 ^ 31 by omega) (show 80 < 2 ^ 31 by omega), show ¬ (sX A).length + 4 ≤ 80 by omega, if_true]
  · intro hl
    obtain ⟨m, hm⟩ : ∃ m, m = x.toBitVec.toNat := ⟨_, rfl⟩
    have hx : x = nI m := by rw [hm]; exact x_eq x
    have hm32 : m < 2 ^ 32 := by rw [hm]; exact x.toBitVec.isLt
    rw [← hm]
    obtain ⟨f, hf⟩ := q_FUe
    obtain ⟨S1, a1, a2, a3⟩ := x_addL (n := n) H (by omega) hm32 (sh := 24) (by omega) (l_X6_addFour_26 (f + 99))
    obtain ⟨S2, b1, b2, b3⟩ := x_addL (n := n) a2 (by simp [sXt]; omega) hm32 (sh := 16) (by omega) (l_X6_addFour_26 (f + 98))
    obtain ⟨S3, c1, c2, c3⟩ := x_addL (n := n) b2 (by simp [sXt]; omega) hm32 (sh := 8) (by omega) (l_X6_addFour_26 (f + 97))
    obtain ⟨S4, d1, d2, d3⟩ := x_addL (n := n) c2 (by simp [sXt]; omega) hm32 (sh := 0) (by omega) (l_X6_addFour_26 (f + 96))
    have hE : CR S4 (sTxt A (sX A ++ by4 m)) := by
      have e : ((((sX A ++ [m / 2 ^ 24 % 256]) ++ [m / 2 ^ 16 % 256]) ++ [m / 2 ^ 8 % 256]) ++ [m / 2 ^ 0 % 256]) = sX A ++ by4 m := by simp [by4]
      rw [← e]
      exact d2
    refine ⟨S4, ?_, hE, (((a3.tr b3 (fun _ q => q) (fun _ q => q)).tr c3 (fun _ q => q) (fun _ q => q)).tr d3 (fun _ q => q) (fun _ q => q)).mono (fun b q => by omega)⟩
    have hloop : l_X6_addFour_26 q_FU (ov S n) 95 x 24 = some (ov S4 n, 1) := by
      rw [hf, hx]
      show b_X6_addFour_26 (l_X6_addFour_26 (f + 99)) (ov S n) 95 (nI m) (nI 24) = _
      rw [a1]
      show b_X6_addFour_26 (l_X6_addFour_26 (f + 98)) (ov S1 n) 95 (nI m) (nI 16) = _
      rw [b1]
      show b_X6_addFour_26 (l_X6_addFour_26 (f + 97)) (ov S2 n) 95 (nI m) (nI 8) = _
      rw [c1]
      show b_X6_addFour_26 (l_X6_addFour_26 (f + 96)) (ov S3 n) 95 (nI m) (nI 0) = _
      rw [d1]
      show b_X6_addFour_26 (l_X6_addFour_26 (f + 95)) (ov S4 n) 95 (nI m) (nI 0 + -8) = _
      unfold b_X6_addFour_26
      rw [if_pos (by decide)]
    have hl4 : q_gI 5 1 (ov S4 n) 95 = some (nI ((sX A).length + 4)) := by
      rw [hE.xl, sXt]
      simp [by4]
    unfold f_X9_sign b_X9_sign_0 f_X6_addFour b_X6_addFour_0
    simp only [x_chk, xR5, zC, H.xl, zR0, zLn, bS, i_lt0 (show (sX A).length < 2 ^ 31 by omega), if_false, h4, i_le (show (sX A).length + 4 < 2 ^ 31 by omega) (show 80 < 2 ^ 31 by omega), show (sX A).length + 4 ≤ 80 by omega, if_true, hloop, hl4, show ¬ (1 : Int32) = 0 by decide]
theorem r_sgL {L k : Nat} (hl : S.1 296 4 = nI L) (hk : k < 4) (hL : L ≤ 76) (x : Int32) (k18 : q_H → Nat → Int32 → Int32 → Option (q_H × Int32)) : b_X10_sign_18 k18 (ov S n) 296 x (nI k) = k18 (ov (o_sI S 298 (upd (S.2.1 298) (L + k) (nI (x.toBitVec.toNat / 2 ^ (24 - 8 * k) % 256)))) n) 296 x (nI (k + 1)) := by
  have hs : ∀ k, k < 4 → ((((24 : Int32) - 8 * nI k) &&& 31).toBitVec.smod 32).toNat = 24 - 8 * k := by decide +kernel
  have ev := sh_b x _ (24 - 8 * k) (hs k hk) (by omega)
  unfold b_X10_sign_18
  simp only [ev]
  simp (disch := omega) only [show (4 : Int32) = nI 4 from rfl, i_le, show ¬ 4 ≤ k by omega, if_false, rR3, rI4, hl, bS, nI_add, nI_1, rtS, idS]
theorem r_sign (H : RR S A) (x : Int32) : (76 < (sX A).length → ∃ S', f_X10_sign (ov S n) 296 x = some (ov S' n, -1) ∧ RR S' A ∧ AG (fun b => 296 ≤ b ∧ b < 313) S S') ∧ ((sX A).length ≤ 76 → ∃ S', f_X10_sign (ov S n) 296 x = some (ov S' n, nI ((sX A).length + 4)) ∧ RR S' (sTxt A (sX A ++ by4 x.toBitVec.toNat)) ∧ AG (fun b => 296 ≤ b ∧ b < 313) S S') := by
  have hX := H.2.2.2
  have H0 : RR (o_sf S 296 0 0) A := H.fld 0 (by omega) (by omega)
  constructor
  · intro hl
    refine ⟨_, ?_, H0, (RZ.fld 0 (by omega) (by omega)).ag⟩
    have := hX.1
    unfold f_X10_sign b_X10_sign_0
    simp (disch := omega) only [r_chk, rP0, bS, H0.xl, show (76 : Int32) = nI 76 from rfl, i_le, show ¬ (sX A).length ≤ 76 by omega, if_false]
  · intro hl
    generalize hLn : (sX A).length = L at *
    obtain ⟨m, hm⟩ : ∃ m, m = x.toBitVec.toNat := ⟨_, rfl⟩
    obtain ⟨I, hI⟩ : ∃ I, I = upd (upd (upd (upd (S.2.1 298) L (nI (m / 2 ^ 24 % 256))) (L + 1) (nI (m / 2 ^ 16 % 256))) (L + 2) (nI (m / 2 ^ 8 % 256))) (L + 3) (nI (m / 2 ^ 0 % 256)) := ⟨_, rfl⟩
    obtain ⟨f, hf⟩ := q_FUe
    have hL0 : (o_sf S 296 0 0).1 296 4 = nI L := by rw [s_F, if_pos rfl, pk_un (by omega), hX.2.1, hLn]
    have hag : AG (fun b => b = 296 ∨ b = 298) S (o_sf (o_sI (o_sf S 296 0 0) 298 I) 296 4 (nI (L + 4))) := ((AG_sf S 296 0 0).tr (AG_sI _ 298 I) (C := fun b => b = 296 ∨ b = 298) (fun b q => Or.inl q) (fun b q => Or.inr q)).tr (AG_sf _ _ _ _) (fun _ q => q) (fun b q => Or.inl q)
    refine ⟨o_sf (o_sI (o_sf S 296 0 0) 298 I) 296 4 (nI (L + 4)), ?_, ?_, hag.mono (fun b q => by omega)⟩
    · unfold f_X10_sign b_X10_sign_0
      have hl' : l_X10_sign_18 q_FU (ov (o_sf S 296 0 0) n) 296 x 0 = some (ov (o_sf (o_sI (o_sf S 296 0 0) 298 I) 296 4 (nI (L + 4))) n, nI (L + 4)) := by
        rw [hf]
        show b_X10_sign_18 (l_X10_sign_18 (f + 99)) (ov (o_sf S 296 0 0) n) 296 x (nI 0) = _
        rw [r_sgL hL0 (by omega) hl]
        show b_X10_sign_18 (l_X10_sign_18 (f + 98)) _ 296 x (nI 1) = _
        rw [r_sgL (by rw [s_I1]; exact hL0) (by omega) hl]
        show b_X10_sign_18 (l_X10_sign_18 (f + 97)) _ 296 x (nI 2) = _
        rw [r_sgL (by rw [s_I1, s_I1]; exact hL0) (by omega) hl]
        show b_X10_sign_18 (l_X10_sign_18 (f + 96)) _ 296 x (nI 3) = _
        rw [r_sgL (by rw [s_I1, s_I1, s_I1]; exact hL0) (by omega) hl]
        show b_X10_sign_18 (l_X10_sign_18 (f + 95)) _ 296 x (nI 4) = _
        unfold b_X10_sign_18
        rw [if_pos (by decide)]
        simp only [s_twice, s_I, if_true, s_I1, rI4, hL0, bS, rP4, ← hm, s_F2, Nat.add_zero]
        have e4 : nI L + 4 = nI (L + 4) := nI_add L 4
        rw [e4, s_F, if_pos rfl, pk_us, hI]
      have hxl := H0.xl (n := n)
      rw [hLn] at hxl
      simp (disch := omega) only [r_chk, rP0, bS, hxl, show (76 : Int32) = nI 76 from rfl, i_le, hl, if_true, hl']
    · refine H.txt hag (by rw [s_F, if_pos rfl, pk_un (by omega), s_I1, s_F, if_pos rfl, pk_un (by omega)]) ⟨by simp [by4]; omega, ?_, fun j k hk => ?_⟩
      · rw [s_F, if_pos rfl, pk_us]
        simp [by4, hLn]
      · have hj : j < (sX A ++ by4 x.toBitVec.toNat).length := (List.getElem?_eq_some_iff.mp hk).1
        simp [by4, hLn] at hj
        show (if (298 : Nat) = 298 then I else S.2.1 298) j = nI k ∧ k < 256
        rw [if_pos rfl, hI]
        by_cases e : j < L
        · rw [pk_un (by omega), pk_un (by omega), pk_un (by omega), pk_un (by omega)]
          rw [List.getElem?_append_left (by omega)] at hk
          exact hX.2.2 j k hk
        · rw [List.getElem?_append_right (by omega), hLn, ← hm] at hk
          have hj' : j = L ∨ j = L + 1 ∨ j = L + 2 ∨ j = L + 3 := by omega
          rcases hj' with rfl | rfl | rfl | rfl
          · rw [pk_un (by omega), pk_un (by omega), pk_un (by omega), pk_us]
            rw [Nat.sub_self] at hk
            simp [by4] at hk
            subst hk
            exact ⟨rfl, Nat.mod_lt _ (by omega)⟩
          · rw [pk_un (by omega), pk_un (by omega), pk_us]
            rw [show L + 1 - L = 1 by omega] at hk
            simp [by4] at hk
            subst hk
            exact ⟨rfl, Nat.mod_lt _ (by omega)⟩
          · rw [pk_un (by omega), pk_us]
            rw [show L + 2 - L = 2 by omega] at hk
            simp [by4] at hk
            subst hk
            exact ⟨rfl, Nat.mod_lt _ (by omega)⟩
          · rw [pk_us]
            rw [show L + 3 - L = 3 by omega] at hk
            simp [by4] at hk
            subst hk
            exact ⟨by rw [Nat.pow_zero, Nat.div_one], Nat.mod_lt _ (by omega)⟩
theorem ag_sign (h : OKA T A) (x : Int32) : AGR T A (fun h => f_X9_sign h 0 x) (fun h => f_X10_sign h 296 x) := by
  by_cases hl : (sX A).length ≤ 76
  · exact ⟨_, _, fun S n H => (x_sign H x).2 hl, fun S n H => (r_sign H x).2 hl, h.txt (by omega) _⟩
  · exact ⟨-1, A, fun S n H => ⟨S, (x_sign H x).1 (by omega), H, AG.rf⟩, fun S n H => (r_sign H x).1 (by omega), h.mono (by omega)⟩
theorem ag_end (h : OKA T A) (x : Int32) : AGR T A (fun h => f_X9_end h 0 x) (fun h => f_X10_end h 296 x) := by
  have hin : ∀ (S : o_S) (n : Nat × Nat × Nat), (sX A).length ≤ 80 → f_X10_in (ov S n) (Int32.toInt64 x) 0 (Int32.toInt64 (nI (sX A).length)) = some (ov S n, b2i (inR 0 ((sX A).length + 1) x)) := fun S n hL => r_in (ov S n) x (lo := 0) (hi := (sX A).length + 1) (by decide) (by rw [Int32.toInt_toInt64, nI_toInt (by omega)]; omega)
  by_cases hx : ∃ m, m ≤ (sX A).length ∧ m < 2 ^ 31 ∧ x = nI m
  · obtain ⟨m, hm, hm31, rfl⟩ := hx
    refine ⟨1, sTxt A ((sX A).take m), fun S n H => ?_, fun S n H => ?_, h.txt (by omega) _⟩
    · have hX := H.2.2.2.2.1
      refine ⟨_, ?_, x_txt H hm, (AG_sf _ _ _ _).mono (fun b q => by omega)⟩
      unfold f_X9_end b_X9_end_0 f_X6_keepFirst b_X6_keepFirst_0
      simp (disch := omega) only [x_chk, zC, i_lt0, if_false, xR5, H.xl, bS, i_le, hm, if_true, zP1, nar_1]
    · have hX := H.2.2.2
      have hX1 := hX.1
      have H0 : RR (o_sf S 296 0 0) A := H.fld 0 (by omega) (by omega)
      have hag : AG (fun b => b = 296 ∨ b = 298) (o_sf S 296 0 0) (o_sf (o_sf S 296 0 0) 296 4 (nI m)) := (AG_sf _ _ _ _).mono (fun b q => Or.inl q)
      refine ⟨o_sf (o_sf S 296 0 0) 296 4 (nI m), ?_, H0.txt hag (by rw [s_F, if_pos rfl, pk_un (by omega)]) ⟨by rw [List.length_take]; omega, ?_, fun j k hk => ?_⟩, ((AG_sf S 296 0 0).tr (AG_sf _ _ _ _) (fun _ q => q) (fun _ q => q)).mono (fun b q => by omega)⟩
      · have e1 : inR 0 ((sX A).length + 1) (nI m) = true := inR_ok (Nat.zero_le _) (by omega) hm31
        unfold f_X10_end b_X10_end_0
        simp only [r_chk, rP0, bS, H0.xl, hin _ _ hX1, e1, b2i_eq0, Bool.true_eq_false, if_false, rP4]
      · rw [s_F, if_pos rfl, pk_us, List.length_take, Nat.min_eq_left hm]
      · have hj : j < ((sX A).take m).length := (List.getElem?_eq_some_iff.mp hk).1
        rw [List.length_take] at hj
        rw [List.getElem?_take_of_lt (by omega)] at hk
        exact hX.2.2 j k hk
  · refine ⟨0, A, fun S n H => ⟨S, ?_, H, AG.rf⟩, fun S n H => ⟨_, ?_, H.fld (k := 0) 0 (by omega) (by omega), (RZ.fld 0 (by omega) (by omega)).ag⟩, h.mono (by omega)⟩
    · have hX := H.2.2.2.2.1
      show f_X9_end (ov S n) 0 x = _
      unfold f_X9_end b_X9_end_0 f_X6_keepFirst b_X6_keepFirst_0
      rw [x_chk, xR5, bS, zC]
      by_cases h0 : x < 0
      · rw [if_pos h0, bS, nar_0]
      · obtain ⟨j, hj, rfl⟩ := nI_of h0
        have : ¬ j ≤ (sX A).length := fun q => hx ⟨j, q, hj, rfl⟩
        simp (disch := omega) only [h0, if_false, H.xl, bS, i_le, this, nar_0]
    · have hX1 := H.2.2.2.1
      have H0 : RR (o_sf S 296 0 0) A := H.fld 0 (by omega) (by omega)
      have e1 : inR 0 ((sX A).length + 1) x = false := by
        cases e : inR 0 ((sX A).length + 1) x
        · rfl
        · obtain ⟨c, -, c2, c3⟩ := inR_t e (by omega)
          exact absurd ⟨c, by omega, by omega, c3⟩ hx
      unfold f_X10_end b_X10_end_0
      simp only [r_chk, rP0, bS, H0.xl, hin _ _ hX1, e1, b2i_eq0, if_true]
/-! acts -/
theorem ag_beats (h : OKA T A) (hT : T ≤ 100000) (x : Int32) : AGR T A (fun h => f_X9_beats h 0 x) (fun h => f_X10_beats h 296 x) := by
  refine ⟨(eBt (sW A) x).1, sWld A (eBt (sW A) x).2, fun S n H => ?_, fun S n H => ?_, h.wld (by omega) ((h.1.btG hT x).mono (by omega))⟩
  · obtain ⟨S', g1, g2, g3⟩ := x_beatG (n := n) H.1 h.1 hT x
    refine ⟨S', ?_, H.wld g3 (fun b q => by omega) g2, g3.mono (fun b q => by omega)⟩
    unfold f_X9_beats b_X9_beats_0
    simp only [x_chk, xR0, bS, g1]
  · have H0 : RR (o_sf S 296 0 0) A := H.fld 0 (by omega) (by omega)
    obtain ⟨S', g1, g2, g3⟩ := r_beatG (n := n) H0.1 h.1 hT x
    refine ⟨S', ?_, H0.z g3.z g2, ((RZ.fld 0 (by omega) (by omega)).tr g3.z).ag⟩
    unfold f_X10_beats b_X10_beats_0
    simp only [r_chk, rP0, bS, g1]
theorem ag_cuts (h : OKA T A) (hT : T ≤ 100000) (x : Int32) : AGR T A (fun h => f_X9_cuts h 0 x) (fun h => f_X10_cuts h 296 x) := by
  refine ⟨(eCt (sW A) x).1, sWld A (eCt (sW A) x).2, fun S n H => ?_, fun S n H => ?_, h.wld (by omega) ((h.1.ctG x).mono (by omega))⟩
  · obtain ⟨S', g1, g2, g3⟩ := x_cutG (n := n) H.1 h.1 hT x
    refine ⟨S', ?_, H.wld g3 (fun b q => by omega) g2, g3.mono (fun b q => by omega)⟩
    unfold f_X9_cuts b_X9_cuts_0
    simp only [x_chk, xR0, bS, g1]
  · have H0 : RR (o_sf S 296 0 0) A := H.fld 0 (by omega) (by omega)
    obtain ⟨S', g1, g2, g3⟩ := r_cutG (n := n) H0.1 h.1 hT x
    refine ⟨S', ?_, H0.z g3.z g2, ((RZ.fld 0 (by omega) (by omega)).tr g3.z).ag⟩
    unfold f_X10_cuts b_X10_cuts_0
    simp only [r_chk, rP0, bS, g1]
end P1
