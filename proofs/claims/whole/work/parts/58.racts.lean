/-! THE REFERENCE'S ACTS: makes, beats, comes -/
section RC
variable {S : o_S} {n : Nat × Nat × Nat} {l : List Nat} {W : aW} {T : Nat}
theorem LL.fld (h : LL S l) {k : Nat} {v : Int32} (hk : k ≠ 9) : LL (o_sf S 296 k v) l := ⟨by rw [s_F, if_pos rfl, pk_un (by omega)]; exact h.1, h.2⟩
theorem r_beat (h : RW (S.2.1 299) 0 W) (hV : V T W) (hT : T ≤ 100000) {c : Nat} (hc : c < 3) : ∃ S', f_X10_beatsOne (ov S n) 296 (nI c) = some (ov S' n, (dBt W c).1) ∧ RW (S'.2.1 299) 0 (dBt W c).2 ∧ RX S S' := by
  have hcC : inR 0 3 (nI c) = true := by rw [inR_nI (by omega)]; simp [hc]
  have ht := hV.1 c hc
  unfold dBt
  by_cases e : aFull W c = true
  · rw [if_pos e]
    refine ⟨S, ?_, h, RX.rf⟩
    unfold f_X10_beatsOne b_X10_beatsOne_0
    simp only [r_chk, bS, r_isCopy, hcC, r_areFull h.2.2.2.2 hc, e, b2i_eq0, Bool.true_eq_false, if_false]
  · have e' : aFull W c = false := by simpa using e
    rw [if_neg e]
    have e0 := cMk_T (t := wT W c) (c := c) (f := 0) (p := 0) (n := 0) (by omega) (by omega) (by omega) (by omega)
    have e2 := cMk_F (t := wT W c) (c := c) (f := 0) (p := 0) (n := 0) (by omega) (by omega) (by omega) (by omega)
    have e3 := cMk_P (t := wT W c) (c := c) (f := 0) (p := 0) (n := 0) (by omega) (by omega) (by omega) (by omega)
    have e4 := cMk_N (t := wT W c) (c := c) (f := 0) (p := 0) (n := 0) (by omega) (by omega) (by omega) (by omega)
    generalize hk : cMk (wT W c) c 0 0 0 = k at e0 e2 e3 e4
    obtain ⟨S', g1, g2, g3⟩ := r_sends (n := n) hc (k := k) (fo := -1) (pa := 0) (na := 0) (by show _ = if cF k = 0 then _ else _; rw [if_pos e2]) (by show _ = nI (cP k); rw [e3]; rfl) (by show _ = nI (cN k); rw [e4]; rfl) e0.symm (full_not hV hc e') h
    have hv : S'.2.1 299 c = nI (wT W c) := g2.tm hc
    refine ⟨S', ?_, g2, g3.x⟩
    unfold f_X10_beatsOne b_X10_beatsOne_0
    simp (disch := omega) only [r_chk, bS, r_isCopy, hcC, r_areFull h.2.2.2.2 hc, e', b2i_eq0, Bool.true_eq_false, if_false, if_true, g1, rR7, r_mem, hv]
theorem app_put {k : Nat} (hx : ∀ x ∈ l, mLs k x = false) : mAt k (l.length - l.countP (mLs k)) l = l ++ [k] := by
  have : l.countP (mLs k) = 0 := by
    rw [List.countP_eq_zero]
    intro x h
    rw [hx x h]
    decide
  rw [this, Nat.sub_zero]
  unfold mAt
  rw [List.take_length, List.drop_length]
theorem r_make (h : RW (S.2.1 299) 0 W) (hV : V T W) (hT : T ≤ 100000) {c f p m : Nat} (hc : c < 3) (hf2 : 2 ≤ f) (hf : f < 14) (hp : p < 14) (hm : m < 10) : ∃ S', f_X10_makesOne (ov S n) 296 (nI c) (nI f) (nI p) (nI m) = some (ov S' n, (dMk W c f p m).1) ∧ RW (S'.2.1 299) 0 (dMk W c f p m).2 ∧ (¬ (dMk W c f p m).1 < 0 → S'.1 296 12 = b2i ((mVds 1000 (wL (dMk W c f p m).2 c) 0 (wB (dMk W c f p m).2 c) 0).testBit ((wL (dMk W c f p m).2 c).length - 1))) ∧ RX S S' := by
  have hcC : inR 0 3 (nI c) = true := by rw [inR_nI (by omega)]; simp [hc]
  have hcF : inR 2 14 (nI f) = true := by rw [inR_nI (by omega)]; simp [hf, hf2]
  have hcP : inR 0 14 (nI p) = true := by rw [inR_nI (by omega)]; simp [hp]
  have hcN : inR 0 10 (nI m) = true := by rw [inR_nI (by omega)]; simp [hm]
  have rin : f_X10_in (ov S n) (Int32.toInt64 (nI m)) 0 9 = some (ov S n, b2i (inR 0 10 (nI m))) := r_in _ _ (by decide) (by decide)
  have ht := hV.1 c hc
  have hl20 := (hV.2.2.1 c hc).1
  unfold dMk
  by_cases e0 : 20 ≤ (wL W c).length
  · rw [if_pos e0]
    refine ⟨S, ?_, h, fun q => absurd (show (-2 : Int32) < 0 by decide) q, RX.rf⟩
    unfold f_X10_makesOne b_X10_makesOne_0
    simp (disch := omega) only [r_chk, bS, r_isCopy, r_isFolder, r_isNode, rin, hcC, hcF, hcP, hcN, b2i_eq0, Bool.true_eq_false, if_false, rR7, j180, nI_add, r_mem, h.len hc, j20, i_eq, show (wL W c).length = 20 by omega, if_true]
  · rw [if_neg e0]
    by_cases e : aFull W c = true
    · rw [if_pos e]
      refine ⟨S, ?_, h, fun q => absurd (show (-3 : Int32) < 0 by decide) q, RX.rf⟩
      unfold f_X10_makesOne b_X10_makesOne_0
      simp (disch := omega) only [r_chk, bS, r_isCopy, r_isFolder, r_isNode, rin, hcC, hcF, hcP, hcN, b2i_eq0, Bool.true_eq_false, if_false, rR7, j180, nI_add, r_mem, h.len hc, j20, i_eq, show ¬ (wL W c).length = 20 by omega, r_areFull h.2.2.2.2 hc, e]
    · have e' : aFull W c = false := by simpa using e
      rw [if_neg e]
      have kT := cMk_T (t := wT W c + 1) (c := c) (f := f) (p := p) (n := m) (by omega) (by omega) (by omega) (by omega)
      have kC := cMk_C (t := wT W c + 1) (c := c) (f := f) (p := p) (n := m) (by omega) (by omega) (by omega) (by omega)
      have kF := cMk_F (t := wT W c + 1) (c := c) (f := f) (p := p) (n := m) (by omega) (by omega) (by omega) (by omega)
      have kP := cMk_P (t := wT W c + 1) (c := c) (f := f) (p := p) (n := m) (by omega) (by omega) (by omega) (by omega)
      have kN := cMk_N (t := wT W c + 1) (c := c) (f := f) (p := p) (n := m) (by omega) (by omega) (by omega) (by omega)
      have hlt := cMk_lt (t := wT W c + 1) (c := c) (f := f) (p := p) (m := m) (by omega) (by omega) (by omega) (by omega) (by omega)
      generalize hk : cMk (wT W c + 1) c f p m = k at kT kC kF kP kN hlt
      have hok : okM k := ⟨hlt, by omega, by omega, by omega, by omega, by omega⟩
      obtain ⟨V1, -⟩ := hV.made hc hok kC kT (by omega)
      have h1 : RW ((o_sI S 299 (upd (S.2.1 299) c (nI (wT W c + 1)))).2.1 299) 0 (fset W.1 c (wT W c + 1), W.2) := by
        rw [sI_I]
        refine ⟨fun d hd => ?_, h.2.1.cg (fun j h1 h2 => by rw [pk_un (by omega)]), h.2.2.1.cg (fun j h1 h2 => by rw [pk_un (by omega)]), h.2.2.2.1.cg (fun j h1 h2 => by rw [pk_un (by omega)]), h.2.2.2.2.cg (fun j h1 h2 => by rw [pk_un (by omega)])⟩
        rw [Nat.zero_add]
        by_cases ed : d = c
        · subst ed; rw [pk_us]; exact congrArg nI (fset_s _ _ _).symm
        · rw [pk_un ed, h.tm hd]; exact congrArg nI (fset_n _ _ ed).symm
      obtain ⟨S2, g1, g2, g3⟩ := r_loadsW (n := n) hc h1 (hV.lb hc)
      have g2 : LL S2 (wL W c) := g2
      obtain ⟨S3, p1, p2, p3⟩ := r_puts (n := n) g2 hlt (by omega)
      rw [app_put (fun x hx => by
        have hx1 := ((hV.2.2.1 c hc).2.2 x hx).2.1
        unfold mLs
        refine decide_eq_false ?_
        unfold cT at hx1 kT
        omega)] at p2
      rw [kT, kC, kF, kP, kN] at p1
      have h3 : RW (S3.2.1 299) 0 (fset W.1 c (wT W c + 1), W.2) := by rw [p3.m, g3.m]; exact h1
      obtain ⟨S4, q1, q2, q3⟩ := r_keepsList (n := n) hc h3 p2 (by simp; omega)
      have q2 : RW (S4.2.1 299) 0 (aMade W c k) := by
        have : aMade W c k = (fset W.1 c (wT W c + 1), W.2.1, fset W.2.2.1 c (wL W c ++ [k]), W.2.2.2) := by
          unfold aMade
          rw [kT]
        rw [this]
        exact q2
      have hok' : ∀ x ∈ wL W c ++ [k], okM x := by
        intro x hx
        rcases List.mem_append.mp hx with q | q
        · exact ((hV.2.2.1 c hc).2.2 x q).1
        · have : x = k := by simpa using q
          rw [this]; exact hok
      obtain ⟨S5, r1, r2, r3, r4⟩ := r_growW (n := n) (s := 0) V1 q2 hc (by omega) (p2.rm q3) hok' w_none
      have r1 : f_X10_grows (ov S4 n) 296 0 (nI c) (-1) = some (ov S5 n, ()) := r1
      have f9 : S5.1 296 9 = nI ((wL W c).length + 1) := by
        rw [r4.f]
        have := (p2.rm q3).1
        rw [List.length_append] at this
        exact this
      have hv : ∀ j b, (mVl 1000 (wL W c ++ [k]) 0 (wB W c))[j]? = some b → S5.2.1 301 j = b2i b := r3
      have hlv : (mVl 1000 (wL W c ++ [k]) 0 (wB W c)).length = (wL W c).length + 1 := by rw [vl_len, List.length_append]; rfl
      have hvl := List.getElem?_eq_getElem (l := mVl 1000 (wL W c ++ [k]) 0 (wB W c)) (i := (wL W c).length) (by omega)
      generalize hb : (mVl 1000 (wL W c ++ [k]) 0 (wB W c))[(wL W c).length] = b at hvl
      have h301 := hv _ _ hvl
      have hpz : q_pZ 9 12 (ov S5 n) 296 (b2i b) = some (ov (o_sf S5 296 12 (b2i b)) n) := by
        unfold q_pZ
        rw [if_pos (by cases b; exact Or.inl rfl; exact Or.inr rfl), rP12]
      have h6 : RW ((o_sf S5 296 12 (b2i b)).2.1 299) 0 (aMade W c k) := by rw [s_F2, r4.m]; exact q2
      obtain ⟨S7, u1, u2, u3⟩ := r_sends (n := n) hc (k := k) (W := aMade W c k) (fo := nI f) (pa := nI p) (na := nI m) (by show _ = if cF k = 0 then _ else _; rw [if_neg (by omega), kF]) (by show _ = nI (cP k); rw [kP]) (by show _ = nI (cN k); rw [kN]) (fset_s _ _ _) (fun d hd e => full_not hV hc e' d hd e) h6
      have hv7 : S7.2.1 299 c = nI (wT W c + 1) := by
        rw [u2.tm hc]
        exact congrArg nI ((fset_s _ _ _).trans kT)
      have hv3 : S2.2.1 299 c = nI (wT W c + 1) := by rw [g3.m, sI_I, pk_us]
      refine ⟨S7, ?_, u2, fun _ => ?_, ?_⟩
      · unfold f_X10_makesOne b_X10_makesOne_0
        simp (disch := omega) only [r_chk, bS, r_isCopy, r_isFolder, r_isNode, rin, hcC, hcF, hcP, hcN, b2i_eq0, Bool.true_eq_false, if_false, if_true, rR7, rR10, rI9, j180, nI_add, r_mem, h.len hc, h.tm hc, j20, i_eq, show ¬ (wL W c).length = 20 by omega, r_areFull h.2.2.2.2 hc, e', nI_1, r_memS, idS, g1, hv3, p1, q1, r1, f9, i_sub1, Nat.add_sub_cancel, r_voi, h301, hpz, u1, hv7]
      · rw [u3.1.f (by omega), s_F, if_pos rfl, pk_us]
        have w2 : wL (aSndP (aMade W c k) c k 3) c = wL W c ++ [k] := fset_s _ _ _
        show b2i b = b2i ((mVds 1000 (wL (aSndP (aMade W c k) c k 3) c) 0 (wB W c) 0).testBit ((wL (aSndP (aMade W c k) c k 3) c).length - 1))
        rw [w2, vds_bit0, List.length_append, show (wL W c).length + [k].length - 1 = (wL W c).length from Nat.add_sub_cancel _ _, hvl]
        rfl
      · have x1 : RX S (o_sI S 299 (upd (S.2.1 299) c (nI (wT W c + 1)))) := ⟨(AG_sI _ _ _).mono (fun b q => by omega), fun _ _ _ _ _ => rfl, fun j hj => by rw [sI_I, pk_un (by omega)]⟩
        exact ((((((x1.tr g3.x).tr p3.x).tr q3.x).tr r4.x).tr (RX.fld (by omega))).tr u3.x)
/-- a copy's tree is laid; but the length of the list no number is changed -/
theorem r_laysF (hV : V T W) (h : RW (S.2.1 299) 0 W) {c s : Nat} (hc : c < 3) (hs : s < 104) : ∃ S', f_X10_lays (ov S n) 296 (nI s) (nI c) = some (ov S' n, ()) ∧ LL S' (wL W c) ∧ TT S' s (tr W c) ∧ (∀ j b, (mVl 1000 (wL W c) 0 (wB W c))[j]? = some b → S'.2.1 301 j = b2i b) ∧ RX S S' ∧ S'.2.1 299 = S.2.1 299 ∧ (∀ k, k ≠ 9 → S'.1 296 k = S.1 296 k) ∧ ∀ s' E, s' ≠ s → TT S s' E → TT S' s' E := by
  obtain ⟨S1, k1, k2, k3⟩ := r_loadsW (n := n) hc h (hV.lb hc)
  obtain ⟨S2, g1, g2, g3, g4⟩ := r_grows (n := n) (S := S1) (E := wB W c) hs hc (fun j q hj hq => by
    rw [k3.m]
    exact h.ba hc hj hq) (hV.2.2.2.1 c hc).1 k2 (fun k hk => ((hV.2.2.1 c hc).2.2 k hk).1) w_none
  refine ⟨S2, ?_, k2.rg g4, g2, g3, k3.x.tr g4.x, by rw [g4.m, k3.m], fun k hk => by rw [g4.f]; exact k3.2 k hk, fun s' E h1 h2 => (h2.rl k3).rg g4 h1⟩
  unfold f_X10_lays b_X10_lays_0
  rw [r_chk, k1, bS, g1, bS]
theorem TT.fld {s k : Nat} {E : Nat → Nat} {v : Int32} (h : TT S s E) : TT (o_sf S 296 k v) s E := h
/-- what the next letter would undo and change -/
theorem r_tries (h : RW (S.2.1 299) 0 W) (hV : V T W) {f t k : Nat} {r : List Nat} (hf : f < 3) (ht : t < 3) (hy : wY W (3 * f + t) = k :: r) : ∃ S', f_X10_tries (ov S n) 296 (nI f) (nI t) = some (ov S' n, ()) ∧ LL S' (mPut k (wL W t)) ∧ S'.2.1 299 = S.2.1 299 ∧ S'.1 296 13 = nI (if mHm k then (wL W t).countP (mLs k) else 0) ∧ S'.1 296 14 = nI (mOt (tr W t) (mBld 1000 (mPut k (wL W t)) 0 (wB W t))) ∧ RX S S' := by
  have hl20 := (hV.2.2.1 t ht).1
  have hx : (wY W (3 * f + t))[0]? = some k := by rw [hy]; rfl
  obtain ⟨hkb, hkc⟩ := hV.yb ht hf (List.mem_of_getElem? hx)
  obtain ⟨M, s1, s2⟩ := hV.sm
  obtain ⟨p1, p2, p3⟩ := (s1 t ht).put (k := k) (s2 f t hf ht k (List.mem_of_getElem? hx))
  obtain ⟨S1, g1, g2, g3, g4, g5, g6, g7, g8⟩ := r_laysF (n := n) (s := 0) hV h ht (by omega)
  have g1 : f_X10_lays (ov S n) 296 0 (nI t) = some (ov S1 n, ()) := g1
  generalize hu : (if mHm k then (wL W t).countP (mLs k) else 0) = u
  have h2 : RW ((o_sf S1 296 13 (nI u)).2.1 299) 0 W := by rw [s_F2, g6]; exact h
  have h1 : RW (S1.2.1 299) 0 W := by rw [g6]; exact h
  obtain ⟨S3, a1, a2, a3⟩ := r_putsLetter (n := n) h2.2.2.2.2 (g2.fld (k := 13) (v := nI u) (by omega)) (by omega) (show 3 * f + t < 9 by omega) hx hkb hkc
  have h3 : RW (S3.2.1 299) 0 W := by rw [a3.m]; exact h2
  obtain ⟨S4, b1, b2, b3, b4⟩ := r_growW (n := n) (s := 1) hV h3 ht (by omega) a2 (fun x hx => (p2.2 x hx).2) w_none
  have b1 : f_X10_grows (ov S3 n) 296 1 (nI t) (-1) = some (ov S4 n, ()) := b1
  have t0 : TT S4 0 (tr W t) := (g3.fld.rl a3).rg b4 (by omega)
  have ho : f_X10_otherSet (ov S4 n) 296 0 1 = some (ov S4 n, nI (mOt (tr W t) (mBld 1000 (mPut k (wL W t)) 0 (wB W t)))) := r_otherSet (n := n) t0 (hV.ti ht) b2 (TI.bld 1000 _ 0 _ (hV.2.2.2.1 t ht).1 (fun x hx => (p2.2 x hx).2))
  rw [Nat.add_zero] at a1
  have him := r_isMove (n := n) h1.2.2.2.2 (show 3 * f + t < 9 by omega) hx
  rw [Nat.add_zero] at him
  have hm0 := h1.yl0 (show 3 * f + t < 9 by omega) hx
  rw [Nat.add_zero] at hm0
  have hgr := r_greater (n := n) g2 hkb
  rw [hkc] at hgr
  have tail : b_X10_tries_37 (ov S1 n) 296 (nI f) (nI t) (nI (492 + 4 * (6 * (3 * f + t)))) 296 (nI u) = some (ov (o_sf S4 296 14 (nI (mOt (tr W t) (mBld 1000 (mPut k (wL W t)) 0 (wB W t))))) n, ()) := by
    unfold b_X10_tries_37
    simp only [rP13, bS, a1, b1, ho, rP14]
  refine ⟨o_sf S4 296 14 (nI (mOt (tr W t) (mBld 1000 (mPut k (wL W t)) 0 (wB W t)))), ?_, (a2.rg b4).fld (by omega), ?_, ?_, ?_, ?_⟩
  · unfold f_X10_tries b_X10_tries_0
    simp (disch := omega) only [r_chk, g1, bS, r_letterOf0, him, rR7, r_mem, hm0, hgr, b2i_eq0]
    by_cases em : mHm k = true
    · rw [if_pos em] at hu
      rw [if_neg (by simp [em]), hu]
      exact tail
    · rw [if_neg em] at hu
      subst hu
      rw [if_pos (by simpa using em)]
      exact tail
  · rw [s_F2, b4.m, a3.m, s_F2, g6]
  · rw [s_F, if_pos rfl, pk_un (by omega), b4.f, a3.2 13 (by omega), s_F, if_pos rfl, pk_us]
  · rw [s_F, if_pos rfl, pk_us]
  · exact (((g5.tr (RX.fld (by omega))).tr a3.x).tr b4.x).tr (RX.fld (by omega))
theorem r_come (h : RW (S.2.1 299) 0 W) (hV : V T W) (hT : T ≤ 100000) {f t : Nat} (hf : f < 3) (ht : t < 3) (hft : f ≠ t) : ∃ S', f_X10_comesOne (ov S n) 296 (nI f) (nI t) = some (ov S' n, (dCm W f t).1) ∧ RW (S'.2.1 299) 0 (dCm W f t).2 ∧ (¬ (dCm W f t).1 < 0 → S'.1 296 14 = nI (mOt (tr W t) (tr (dCm W f t).2 t))) ∧ RX S S' := by
  have hcT : two (nI f) (nI t) = true := by
    simp only [two, inR_nI (show f < 2 ^ 31 by omega), inR_nI (show t < 2 ^ 31 by omega), Bool.and_eq_true, decide_eq_true_eq]
    exact ⟨by omega, by omega, fun e => hft ((nI_eq (by omega) (by omega)).mp e)⟩
  have hl20 := (hV.2.2.1 t ht).1
  have htt := hV.1 t ht
  have hyl := (hV.2.2.2.2.1 f t hf ht).1
  have hwt := r_waiting (n := n) h.2.2.2.2 hf ht
  unfold dCm
  cases hy : wY W (3 * f + t) with
  | nil =>
    rw [hy] at hwt
    refine ⟨S, ?_, h, fun q => absurd (show (-2 : Int32) < 0 by decide) q, RX.rf⟩
    unfold f_X10_comesOne b_X10_comesOne_0
    simp only [r_chk, bS, r_areTwo, hcT, b2i_eq0, Bool.true_eq_false, if_false, hwt, List.length_nil]
    rfl
  | cons k r =>
    rw [hy] at hwt hyl
    have hx : (wY W (3 * f + t))[0]? = some k := by rw [hy]; rfl
    obtain ⟨hkb, hkc⟩ := hV.yb ht hf (List.mem_of_getElem? hx)
    obtain ⟨M, s1, s2⟩ := hV.sm
    obtain ⟨p1, p2, p3⟩ := (s1 t ht).put (k := k) (s2 f t hf ht k (List.mem_of_getElem? hx))
    have him := r_isMove (n := n) h.2.2.2.2 (show 3 * f + t < 9 by omega) hx
    rw [Nat.add_zero] at him
    have hz : (nI (k :: r).length = 0) = False := eq_false (nI_ne0 (by simp) (by omega))
    have hu : f_X10_comesOne (ov S n) 296 (nI f) (nI t) = if mHm k && decide (20 ≤ (wL W t).length) then some (ov S n, -3) else b_X10_comesOne_53 (ov S n) 296 (nI f) (nI t) := by
      unfold f_X10_comesOne b_X10_comesOne_0
      simp (disch := omega) only [r_chk, bS, r_areTwo, hcT, b2i_eq0, Bool.true_eq_false, if_false, hwt, hz, r_letterOf0, him, rR7, j180, nI_add, r_mem, h.len ht, j20, i_eq]
      by_cases em : mHm k = true
      · by_cases el : 20 ≤ (wL W t).length
        · rw [if_neg (by simp [em]), if_pos (by omega), if_pos (by simp [em, el])]
        · rw [if_neg (by simp [em]), if_neg (by omega), if_neg (by simp [el])]
      · rw [if_pos (by simpa using em), if_neg (by simp [em])]
    show ∃ S', _ = some (ov S' n, (if mHm k && decide (20 ≤ (wL W t).length) then ((-3 : Int32), W) else _).1) ∧ RW (S'.2.1 299) 0 (if mHm k && decide (20 ≤ (wL W t).length) then ((-3 : Int32), W) else _).2 ∧ (¬ (if mHm k && decide (20 ≤ (wL W t).length) then ((-3 : Int32), W) else _).1 < 0 → S'.1 296 14 = nI (mOt (tr W t) (tr (if mHm k && decide (20 ≤ (wL W t).length) then ((-3 : Int32), W) else _).2 t))) ∧ RX S S'
    rw [hu]
    by_cases ec : (mHm k && decide (20 ≤ (wL W t).length)) = true
    · rw [if_pos ec, if_pos ec]
      exact ⟨S, rfl, h, fun q => absurd (show (-3 : Int32) < 0 by decide) q, RX.rf⟩
    · rw [if_neg ec, if_neg ec]
      obtain ⟨S1, a1, a2, a3, a4, a5, a6⟩ := r_tries (n := n) h hV hf ht hy
      have hlen : (mPut k (wL W t)).length ≤ 20 := by
        rw [p1]
        by_cases em : mHm k = true
        · rw [if_pos em, mIns_len]
          rw [em, Bool.true_and, decide_eq_true_eq] at ec
          omega
        · rw [if_neg em]; exact hl20
      have h1 : RW (S1.2.1 299) 0 W := by rw [a3]; exact h
      obtain ⟨S2, b1, b2, b3⟩ := r_keepsList (n := n) ht h1 a2 hlen
      obtain ⟨S3, c1, c2, c3⟩ := r_hears (n := n) (W := aLog W t (mPut k (wL W t))) hf ht hy hkb (show wT W t < 2 ^ 31 by omega) b2
      have ew : dTk W f t k r = aHear (aLog W t (mPut k (wL W t))) f t k r := by
        unfold dTk
        rw [← p1]
        rfl
      have f13 : S3.1 296 13 = nI (if mHm k then (wL W t).length - mPos k (wL W t) (wL W t).length else 0) := by
        rw [c3.1.f (by omega), b3.1.f (by omega), a4]
        by_cases em : mHm k = true
        · rw [if_pos em, if_pos em, p3 em]
        · rw [if_neg em, if_neg em]
      refine ⟨S3, ?_, ?_, fun _ => ?_, (a6.tr b3.x).tr c3.x⟩
      · unfold b_X10_comesOne_53
        simp only [a1, bS, b1, c1, rI13, f13]
      · show RW _ 0 (dTk W f t k r)
        rw [ew]; exact c2
      · rw [c3.1.f (by omega), b3.1.f (by omega), a5]
        show _ = nI (mOt (tr W t) (tr (dTk W f t k r) t))
        rw [ew]
        have : tr (aHear (aLog W t (mPut k (wL W t))) f t k r) t = mBld 1000 (mPut k (wL W t)) 0 (wB W t) := by
          show mBld 1000 (fset W.2.2.1 t (mPut k (wL W t)) t) 0 (wB W t) = _
          rw [fset_s]
        rw [this]
end RC
