/-! THE CLASS'S ACTS -/
def aLog (W : aW) (c : Nat) (l : List Nat) : aW := (W.1, W.2.1, fset W.2.2.1 c l, W.2.2.2)
theorem full_nx {W : aW} {c : Nat} (hc : c < 3) (hl : ∀ i, i < 9 → (wY W i).length ≤ 6) : aFull W c = (decide (6 ≤ (wY W (3 * c + nx c)).length) || decide (6 ≤ (wY W (3 * c + nx (nx c))).length)) := by
  have e : aFull W c = ((((false || (decide (0 ≠ c) && decide ((wY W (3 * c + 0)).length = 6))) || (decide (1 ≠ c) && decide ((wY W (3 * c + 1)).length = 6)))) || (decide (2 ≠ c) && decide ((wY W (3 * c + 2)).length = 6))) := rfl
  rw [e]
  have hd : ∀ i, i < 9 → decide ((wY W i).length = 6) = decide (6 ≤ (wY W i).length) := fun i hi => by
    have := hl i hi
    congr 1
    exact propext (by omega)
  rw [hd _ (by omega), hd _ (by omega), hd _ (by omega)]
  match c, hc with
  | 0, _ => simp [nx]
  | 1, _ => simp [nx, Bool.or_comm]
  | 2, _ => simp [nx]
  | m + 3, h => omega
section CA
variable {S : o_S} {n : Nat × Nat × Nat} {w : Nat} {W : aW} {T : Nat}
theorem CW.y6 (H : CW S w W) : ∀ i, i < 9 → (wY W i).length ≤ 6 := fun i hi => (H.2.2 i hi).2.2.1
theorem CW.k (H : CW S w W) {c : Nat} (hc : c < 3) : kCopy (w + 3 + 8 * c) := H.1.2.2.2.1 c hc
theorem x_full (H : CW S w W) {c : Nat} (hc : c < 3) : f_X8_hasFullWay (ov S n) w (nI c) = some (ov S n, b2i (aFull W c)) := by
  obtain ⟨n1, n2, n3, n4, n5⟩ := nx_lt hc
  have y1 := H.2.2 (3 * c + nx c) (by omega)
  have y2 := H.2.2 (3 * c + nx (nx c)) (by omega)
  have l1 := y1.2.2.1
  have l2 := y2.2.2.1
  rw [full_nx hc H.y6]
  unfold f_X8_hasFullWay b_X8_hasFullWay_0
  rw [w_chk H.1]
  simp (disch := omega) only [x_next _ hc, x_next _ n1, bS, w_way H.1 hc n1, w_way H.1 hc n4, s_gI y1, s_gI y2, j6, i_le, i_lt]
  by_cases e1 : 6 ≤ (wY W (3 * c + nx c)).length
  · rw [if_pos e1, decide_eq_true e1]; rfl
  · rw [if_neg e1, decide_eq_false e1]
    by_cases e2 : 6 ≤ (wY W (3 * c + nx (nx c))).length
    · rw [if_neg (by omega), decide_eq_true e2]; rfl
    · rw [if_pos (by omega), decide_eq_false e2]; rfl
theorem x_send (kw : kWorld w) {y : Nat → List Nat} (hy : ∀ i, i < 9 → SE S (w + 27 + 2 * i) 6 (y i)) {c x : Nat} (hc : c < 3) (hx : x < 2 ^ 31) (hf : ∀ d, d < 3 → d ≠ c → (y (3 * c + d)).length < 6) : ∃ S', f_X8_send (ov S n) w (nI c) (lN x) = some (ov S' n, ()) ∧ (∀ i, i < 9 → SE S' (w + 27 + 2 * i) 6 (if i / 3 = c ∧ i % 3 ≠ c ∧ i % 3 < 3 then y i ++ [x] else y i)) ∧ AG (fun b => w + 27 ≤ b ∧ b < w + 45) S S' := by
  obtain ⟨n1, n2, n3, n4, n5⟩ := nx_lt hc
  obtain ⟨S1, g1, g2, g3⟩ := s_append (n := n) (hy (3 * c + nx c) (by omega)) (hf _ n1 n2) hx
  obtain ⟨S2, k1, k2, k3⟩ := s_append (n := n) ((hy (3 * c + nx (nx c)) (by omega)).ag g3 (by omega) (by omega)) (hf _ n4 n3) hx
  refine ⟨S2, ?_, fun i hi => ?_, g3.tr k3 (fun _ q => by omega) (fun _ q => by omega)⟩
  · unfold f_X8_send b_X8_send_0
    rw [w_chk kw]
    simp only [x_next _ hc, x_next _ n1, bS, w_way kw hc n1, w_way kw hc n4, g1, k1]
  · by_cases e1 : i = 3 * c + nx c
    · subst e1; rw [if_pos (by omega)]; exact g2.ag k3 (by omega) (by omega)
    · by_cases e2 : i = 3 * c + nx (nx c)
      · subst e2; rw [if_pos (by omega)]; exact k2
      · rw [if_neg (by omega)]
        exact ((hy i hi).ag g3 (by omega) (by omega)).ag k3 (by omega) (by omega)
/-- a beat -/
def dBt (W : aW) (c : Nat) : Int32 × aW := if aFull W c then (-3, W) else (nI (wT W c), aSndP W c (cMk (wT W c) c 0 0 0) 3)
theorem cMk_lt {t c f p m : Nat} (ht : t ≤ 110000) (hc : c < 4) (hf : f < 16) (hp : p < 16) (hm : m < 16) : cMk t c f p m < 2 ^ 31 := by
  unfold cMk
  omega
theorem x_beat (H : CW S w W) (hV : V T W) (hT : T ≤ 100000) {c : Nat} (hc : c < 3) : ∃ S', f_X8_beat (ov S n) w (nI c) = some (ov S' n, (dBt W c).1) ∧ CW S' w (dBt W c).2 ∧ AG (fun b => w ≤ b ∧ b < w + 45) S S' := by
  have ht := hV.1 c hc
  have hcC : inR 0 3 (nI c) = true := by rw [inR_nI (by omega)]; simp [hc]
  have hI : S.1 (w + 3 + 8 * c) 1 = nI (wT W c) := (H.2.1 c hc).1.1.2
  unfold dBt
  by_cases e : aFull W c = true
  · rw [if_pos e]
    refine ⟨S, ?_, H, AG.rf⟩
    unfold f_X8_beat b_X8_beat_0
    rw [w_chk H.1]
    simp only [x_isCopy, hcC, bS, x_full H hc, e, b2i_eq0, Bool.true_eq_false, if_false]
  · have e' : aFull W c = false := by simpa using e
    rw [if_neg e]
    have hlt := cMk_lt (t := wT W c) (c := c) (f := 0) (p := 0) (m := 0) (by omega) (by omega) (by omega) (by omega) (by omega)
    obtain ⟨S', g1, g2, g3⟩ := x_send (n := n) H.1 H.2.2 hc hlt (full_not hV hc e')
    have hof : f_X1_of (ov S n) (nI (wT W c)) (nI c) 0 0 0 = some (ov S n, lN (cMk (wT W c) c 0 0 0)) := c_of (ov S n) (t := wT W c) (c := c) (f := 0) (p := 0) (n := 0) (by omega) (by omega) (by omega) (by omega) (by omega)
    refine ⟨S', ?_, ?_, g3.mono (fun b q => by omega)⟩
    · unfold f_X8_beat b_X8_beat_0
      rw [w_chk H.1]
      have e2 : S'.1 (w + 3 + 8 * c) 1 = nI (wT W c) := by rw [g3.f (by omega)]; exact hI
      simp only [x_isCopy, hcC, bS, x_full H hc, e', b2i_eq0, Bool.true_eq_false, if_false, if_true, w_R0 H.1, w_cp H.1 hc, cp_I1 (H.k hc), hI, hof, g1, e2]
    · exact H.up g3 (c0 := c) (fun b q => Or.inr q.1) hc (fun d hd hne => ⟨rfl, rfl, rfl, rfl⟩) ((H.2.1 c hc).ag g3 (fun b h1 h2 => by omega)) g2
/-- a move is made -/
def dMk (W : aW) (c f p m : Nat) : Int32 × aW := if 20 ≤ (wL W c).length then (-2, W) else if aFull W c then (-3, W) else (nI (wT W c + 1), aSndP (aMade W c (cMk (wT W c + 1) c f p m)) c (cMk (wT W c + 1) c f p m) 3)
theorem x_make (H : CW S w W) (hV : V T W) (hT : T ≤ 100000) {c f p m : Nat} (hc : c < 3) (hf2 : 2 ≤ f) (hf : f < 14) (hp : p < 14) (hm : m < 10) : ∃ S', f_X8_make (ov S n) w (nI c) (nI f) (nI p) (nI m) = some (ov S' n, (dMk W c f p m).1) ∧ CW S' w (dMk W c f p m).2 ∧ AG (fun b => w ≤ b ∧ b < w + 45) S S' := by
  have ht := hV.1 c hc
  have hcC : inR 0 3 (nI c) = true := by rw [inR_nI (by omega)]; simp [hc]
  have hcF : inR 2 14 (nI f) = true := by rw [inR_nI (by omega)]; simp [hf, hf2]
  have hcP : inR 0 14 (nI p) = true := by rw [inR_nI (by omega)]; simp [hp]
  have HC := H.2.1 c hc
  have hI : S.1 (w + 3 + 8 * c) 1 = nI (wT W c) := HC.1.1.2
  have kc := H.k hc
  have hs := HC.1.2.2.1
  have hl := (hV.2.2.1 c hc).1
  have m0 : (nI m < 0) = False := i_lt0 (by omega)
  have m1 : (nI m < nI 10) = (m < 10) := i_lt (by omega) (by omega)
  unfold dMk
  by_cases e0 : 20 ≤ (wL W c).length
  · rw [if_pos e0]
    refine ⟨S, ?_, H, AG.rf⟩
    unfold f_X8_make b_X8_make_0
    rw [w_chk H.1]
    simp (disch := omega) only [x_isCopy, x_isFolder, x_isNode, hcC, hcF, hcP, bS, b2i_eq0, Bool.true_eq_false, if_false, if_true, m0, j10, m1, hm, w_R0 H.1, w_cp H.1 hc, cp_R3 kc, s_gI hs, j20, i_lt, show ¬ (wL W c).length < 20 by omega]
  · rw [if_neg e0]
    by_cases e : aFull W c = true
    · rw [if_pos e]
      refine ⟨S, ?_, H, AG.rf⟩
      unfold f_X8_make b_X8_make_0
      rw [w_chk H.1]
      simp (disch := omega) only [x_isCopy, x_isFolder, x_isNode, hcC, hcF, hcP, bS, b2i_eq0, Bool.true_eq_false, if_false, if_true, m0, j10, m1, hm, w_R0 H.1, w_cp H.1 hc, cp_R3 kc, s_gI hs, j20, i_lt, show (wL W c).length < 20 by omega, x_full H hc, e]
    · have e' : aFull W c = false := by simpa using e
      rw [if_neg e]
      have hlt := cMk_lt (t := wT W c + 1) (c := c) (f := f) (p := p) (m := m) (by omega) (by omega) (by omega) (by omega) (by omega)
      have kT := cMk_T (t := wT W c + 1) (c := c) (f := f) (p := p) (n := m) (by omega) (by omega) (by omega) (by omega)
      generalize hk : cMk (wT W c + 1) c f p m = k at hlt kT
      have hA1 := AG_sf S (w + 3 + 8 * c) 1 (nI (wT W c + 1))
      have hof : f_X1_of (ov (o_sf S (w + 3 + 8 * c) 1 (nI (wT W c + 1))) n) (nI (wT W c + 1)) (nI c) (nI f) (nI p) (nI m) = some (ov (o_sf S (w + 3 + 8 * c) 1 (nI (wT W c + 1))) n, lN k) := by
        rw [← hk]
        exact c_of _ (by omega) (by omega) (by omega) (by omega) (by omega)
      obtain ⟨S2, g1, g2, g3⟩ := t_doMove (n := n) (HC.2.2.ag hA1 (by omega)) hlt
      have hA2 : AG (fun b => b = w + 3 + 8 * c ∨ b = w + 3 + 8 * c + 7) S S2 := hA1.tr g3 (fun _ q => by omega) (fun _ q => by omega)
      have a2 : S2.1 (w + 3 + 8 * c) = upd (S.1 (w + 3 + 8 * c)) 1 (nI (wT W c + 1)) := by rw [g3.f (by omega), sf_f]
      have tail : ∀ S3, S3.1 (w + 3 + 8 * c) 0 = nI c → S3.1 (w + 3 + 8 * c) 1 = nI (wT W c + 1) → S3.1 (w + 3 + 8 * c) 6 = nI (mVds 1000 (wL W c ++ [k]) 0 (wB W c) 0) → TE S3 (w + 3 + 8 * c + 6) (mDo (mBld 1000 (wL W c) 0 (wB W c)) k) → AG (fun b => b = w + 3 + 8 * c ∨ b = w + 3 + 8 * c + 7) S S3 → ∃ S', b_X8_make_129 (ov S3 n) w (nI c) (w + 3 + 8 * c) (lN k) = some (ov S' n, nI (wT W c + 1)) ∧ CW S' w (aSndP (aMade W c k) c k 3) ∧ AG (fun b => w ≤ b ∧ b < w + 45) S S' := by
        intro S3 b0 b1 b6 bt bA
        obtain ⟨S4, k1, k2, k3⟩ := s_append (n := n) (hs.ag bA (by omega) (by omega)) (show (wL W c).length < 32 by omega) hlt
        have hA4 : AG (fun b => w + 3 + 8 * c ≤ b ∧ b < w + 3 + 8 * c + 8) S S4 := bA.tr k3 (fun _ q => by omega) (fun _ q => by omega)
        obtain ⟨S5, q1, q2, q3⟩ := x_send (n := n) H.1 (fun i hi => (H.2.2 i hi).ag hA4 (by omega) (by omega)) hc hlt (full_not hV hc e')
        have e5 : S5.1 (w + 3 + 8 * c) = S3.1 (w + 3 + 8 * c) := by rw [q3.f (by omega), k3.f (by omega)]
        refine ⟨S5, ?_, ?_, hA4.tr q3 (fun _ q => by omega) (fun _ q => by omega)⟩
        · unfold b_X8_make_129
          simp only [cp_R3 kc, bS, k1, q1, cp_I1 kc, e5, b1]
        · refine H.up (hA4.tr q3 (C := fun b => w + 3 + 8 * c ≤ b ∧ b < w + 3 + 8 * c + 8 ∨ w + 27 ≤ b) (fun _ q => by omega) (fun _ q => by omega)) (fun b q => q) hc (fun d hd hne => ⟨fset_n _ _ hne, rfl, fset_n _ _ hne, rfl⟩) ?_ q2
          have w1 : wT (aSndP (aMade W c k) c k 3) c = wT W c + 1 := (fset_s _ _ _).trans kT
          have w2 : wL (aSndP (aMade W c k) c k 3) c = wL W c ++ [k] := fset_s _ _ _
          rw [w1, w2]
          refine ⟨⟨⟨by rw [e5]; exact b0, by rw [e5]; exact b1⟩, fun d hd => ?_, k2.ag q3 (by omega) (by omega), ((HC.1.2.2.2.ag bA (by omega)).ag k3 (by omega)).ag q3 (by omega)⟩, by rw [e5]; exact b6, ?_⟩
          · rw [q3.I (by omega), k3.I (by omega), bA.I (by omega)]; exact HC.1.2.1 d hd
          · have eb := bld_1 (l := wL W c) (k := k) (wB W c) (by omega)
            rw [show wB (aSndP (aMade W c k) c k 3) c = wB W c from rfl, eb]
            exact (bt.ag k3 (by omega)).ag q3 (by omega)
      have hv := vds_lt 1000 (wL W c) (wB W c) (show (wL W c).length ≤ 20 by omega)
      have ev := vds_1 (l := wL W c) (k := k) (wB W c) (by omega)
      have hu : ∀ R : Option (q_H × Int32), (if mOk (mBld 1000 (wL W c) 0 (wB W c)) k = false then b_X8_make_129 (ov (o_sf S2 (w + 3 + 8 * c) 6 (nI (mVds 1000 (wL W c) 0 (wB W c) 0 ||| 2 ^ (wL W c).length))) n) w (nI c) (w + 3 + 8 * c) (lN k) else b_X8_make_129 (ov S2 n) w (nI c) (w + 3 + 8 * c) (lN k)) = R → f_X8_make (ov S n) w (nI c) (nI f) (nI p) (nI m) = R := by
        intro R hR
        rw [← hR]
        have e1 : (o_sf S (w + 3 + 8 * c) 1 (nI (wT W c + 1))).1 (w + 3 + 8 * c) 1 = nI (wT W c + 1) := by rw [sf_f, pk_us]
        have e6 : S2.1 (w + 3 + 8 * c) 6 = nI (mVds 1000 (wL W c) 0 (wB W c) 0) := by rw [a2, pk_un (by omega)]; exact HC.2.1
        have hs2 := hs.ag hA2 (by omega) (by omega)
        unfold f_X8_make b_X8_make_0
        rw [w_chk H.1]
        simp (disch := omega) only [x_isCopy, x_isFolder, x_isNode, hcC, hcF, hcP, bS, b2i_eq0, Bool.true_eq_false, if_false, if_true, m0, j10, m1, hm, w_R0 H.1, w_cp H.1 hc, cp_R3 kc, cp_R5 kc, s_gI hs, s_gI hs2, j20, i_lt, show (wL W c).length < 20 by omega, x_full H hc, e', cp_I1 kc, hI, nI_1, cp_P1 kc, e1, hof, g1, cp_I6 kc, e6, i_bit, i_or _ _ (show mVds 1000 (wL W c) 0 (wB W c) 0 < 2 ^ 32 by omega) (show 2 ^ (wL W c).length < 2 ^ 32 from Nat.pow_lt_pow_right (by omega) (by omega)), cp_P6 kc]
      by_cases eo : mOk (mBld 1000 (wL W c) 0 (wB W c)) k = true
      · obtain ⟨S', r1, r2⟩ := tail S2 (by rw [a2, pk_un (by omega)]; exact HC.1.1.1) (by rw [a2, pk_us]) (by rw [a2, pk_un (by omega), ev, if_pos eo]; exact HC.2.1) g2 hA2
        exact ⟨S', hu _ (by rw [if_neg (by simp [eo])]; exact r1), r2⟩
      · have eo' : mOk (mBld 1000 (wL W c) 0 (wB W c)) k = false := by simpa using eo
        have hA3 := AG_sf S2 (w + 3 + 8 * c) 6 (nI (mVds 1000 (wL W c) 0 (wB W c) 0 ||| 2 ^ (wL W c).length))
        obtain ⟨S', r1, r2⟩ := tail (o_sf S2 (w + 3 + 8 * c) 6 (nI (mVds 1000 (wL W c) 0 (wB W c) 0 ||| 2 ^ (wL W c).length))) (by rw [sf_f, pk_un (by omega), a2, pk_un (by omega)]; exact HC.1.1.1) (by rw [sf_f, pk_un (by omega), a2, pk_us]) (by rw [sf_f, pk_us, ev, if_neg eo]) (g2.ag hA3 (by omega)) (hA2.tr hA3 (fun _ q => q) (fun _ q => Or.inl q))
        exact ⟨S', hu _ (by rw [if_pos eo']; exact r1), r2⟩
/-- a letter is taken -/
def dTk (W : aW) (f t k : Nat) (r : List Nat) : aW := aLog (aHear W f t k r) t (if mHm k then mIns k (wL W t) else wL W t)
theorem x_takeNext (H : CW S w W) {f t k : Nat} {r : List Nat} (hf : f < 3) (ht : t < 3) (hy : wY W (3 * f + t) = k :: r) (hT : wT W t < 2 ^ 31) (hl : (wL W t).length < 32) : ∃ S', f_X8_takeNext (ov S n) w (nI f) (nI t) = some (ov S' n, nI (if mHm k then (wL W t).length - mPos k (wL W t) (wL W t).length else 0)) ∧ CW S' w (dTk W f t k r) ∧ AG (fun b => w ≤ b ∧ b < w + 45) S S' := by
  have HY := H.2.2 (3 * f + t) (by omega)
  rw [hy] at HY
  have hk : k < 2 ^ 31 := HY.mem (by simp)
  have HC := H.2.1 t ht
  have kc := H.k ht
  have hat : f_X5_at (ov S n) (w + 27 + 2 * (3 * f + t)) 0 = some (ov S n, lN k) := s_at (n := n) HY (j := 0) (by omega)
  obtain ⟨S1, g1, g2, g3⟩ := s_dropFirst (n := n) HY (c := 1) (by simp)
  obtain ⟨S2, k1, k2, k3, k4⟩ := x_hear (n := n) kc (HC.1.ag g3 (by omega)) hf hk hT
  have hA2 : AG (fun b => w + 3 + 8 * t ≤ b ∧ b < w + 3 + 8 * t + 8 ∨ w + 27 ≤ b ∧ b < w + 45) S S2 := g3.tr k4 (fun _ q => by omega) (fun _ q => by omega)
  have hyS : ∀ S', AG (fun b => w + 3 + 8 * t ≤ b ∧ b < w + 3 + 8 * t + 8) S1 S' → ∀ i, i < 9 → SE S' (w + 27 + 2 * i) 6 (fset (wY W) (3 * f + t) r i) := by
    intro S' hA i hi
    by_cases e : i = 3 * f + t
    · subst e; rw [fset_s]; exact g2.ag hA (by omega) (by omega)
    · rw [fset_n _ _ e]; exact ((H.2.2 i hi).ag g3 (by omega) (by omega)).ag hA (by omega) (by omega)
  have fin : ∀ S' l', AG (fun b => w + 3 + 8 * t ≤ b ∧ b < w + 3 + 8 * t + 8) S1 S' → CC S' (w + 3 + 8 * t) t (max (wT W t) (cT k)) (fset (wH W t) f (cT k)) l' (wB W t) → CW S' w (aLog (aHear W f t k r) t l') := by
    intro S' l' hA hC
    refine H.up (g3.tr hA (C := fun b => w + 3 + 8 * t ≤ b ∧ b < w + 3 + 8 * t + 8 ∨ w + 27 ≤ b) (fun _ q => by omega) (fun _ q => by omega)) (fun b q => q) ht (fun d hd hne => ⟨fset_n _ _ hne, fset_n _ _ hne, fset_n _ _ hne, rfl⟩) ?_ (hyS S' hA)
    have w1 : wT (aLog (aHear W f t k r) t l') t = max (wT W t) (cT k) := fset_s _ _ _
    have w2 : wH (aLog (aHear W f t k r) t l') t = fset (wH W t) f (cT k) := fset_s _ _ _
    have w3 : wL (aLog (aHear W f t k r) t l') t = l' := fset_s _ _ _
    rw [w1, w2, w3]
    exact hC
  have g1' : f_X5_dropFirst (ov S n) (w + 27 + 2 * (3 * f + t)) 1 = some (ov S1 n, ()) := g1
  by_cases em : mHm k = true
  · obtain ⟨S3, p1, p2, p3⟩ := s_insert (n := n) k2.2.2.1 hl hk
    have hCP : CP S3 (w + 3 + 8 * t) t (max (wT W t) (cT k)) (fset (wH W t) f (cT k)) (mIns k (wL W t)) (wB W t) := ⟨⟨by rw [p3.f (by omega)]; exact k2.1.1, by rw [p3.f (by omega)]; exact k2.1.2⟩, fun d hd => by rw [p3.I (by omega)]; exact k2.2.1 d hd, p2, k2.2.2.2.ag p3 (by omega)⟩
    obtain ⟨S4, q1, q2, q3⟩ := x_reb (n := n) kc hCP
    have hA4 : AG (fun b => w + 3 + 8 * t ≤ b ∧ b < w + 3 + 8 * t + 8) S1 _ := (k4.tr p3 (C := fun b => w + 3 + 8 * t ≤ b ∧ b < w + 3 + 8 * t + 8) (fun _ q => by omega) (fun _ q => by omega)).tr q3 (fun _ q => q) (fun _ q => by omega)
    refine ⟨_, ?_, ?_, g3.tr hA4 (fun _ q => by omega) (fun _ q => by omega)⟩
    · unfold f_X8_takeNext b_X8_takeNext_0
      rw [w_chk H.1, em]
      simp only [w_way H.1 hf ht, bS, w_R0 H.1, w_cp H.1 ht, hat, g1', k1, c_hasM _ hk, em, b2i_eq0, Bool.true_eq_false, if_false, if_true, cp_R3 kc, cp_R4 kc, cp_R5 kc, p1, q1, cp_P6 kc]
    · unfold dTk
      rw [if_pos em]
      exact fin _ _ hA4 q2
  · have em' : mHm k = false := by simpa using em
    have hA4 : AG (fun b => w + 3 + 8 * t ≤ b ∧ b < w + 3 + 8 * t + 8) S1 S2 := k4.mono (fun _ q => by omega)
    refine ⟨S2, ?_, ?_, g3.tr hA4 (fun _ q => by omega) (fun _ q => by omega)⟩
    · unfold f_X8_takeNext b_X8_takeNext_0
      rw [w_chk H.1, em']
      simp only [w_way H.1 hf ht, bS, w_R0 H.1, w_cp H.1 ht, hat, g1', k1, c_hasM _ hk, em', b2i_eq0, if_true, Bool.false_eq_true, if_false]
      rfl
    · unfold dTk
      rw [if_neg em]
      refine fin _ _ hA4 ⟨k2, ?_, (HC.2.2.ag g3 (by omega)).ag k4 (by omega)⟩
      rw [k3, g3.f (by omega)]
      exact HC.2.1
/-- a letter comes -/
def dCm (W : aW) (f t : Nat) : Int32 × aW := match wY W (3 * f + t) with
  | [] => (-2, W)
  | k :: r => if mHm k && decide (20 ≤ (wL W t).length) then (-3, W) else (nI (if mHm k then (wL W t).length - mPos k (wL W t) (wL W t).length else 0), dTk W f t k r)
theorem x_deliver (H : CW S w W) (hV : V T W) (hT : T ≤ 100000) {f t : Nat} (hf : f < 3) (ht : t < 3) (hft : f ≠ t) : ∃ S', f_X8_deliver (ov S n) w (nI f) (nI t) = some (ov S' n, (dCm W f t).1) ∧ CW S' w (dCm W f t).2 ∧ AG (fun b => w ≤ b ∧ b < w + 45) S S' := by
  have hcT : two (nI f) (nI t) = true := by
    simp only [two, inR_nI (show f < 2 ^ 31 by omega), inR_nI (show t < 2 ^ 31 by omega), Bool.and_eq_true, decide_eq_true_eq]
    exact ⟨by omega, by omega, fun e => hft ((nI_eq (by omega) (by omega)).mp e)⟩
  have HY := H.2.2 (3 * f + t) (by omega)
  have HC := H.2.1 t ht
  have kc := H.k ht
  have hl := (hV.2.2.1 t ht).1
  have htt := hV.1 t ht
  have hs := HC.1.2.2.1
  unfold dCm
  cases hy : wY W (3 * f + t) with
  | nil =>
    rw [hy] at HY
    refine ⟨S, ?_, H, AG.rf⟩
    unfold f_X8_deliver b_X8_deliver_0
    rw [w_chk H.1]
    simp only [x_areTwo, hcT, bS, b2i_eq0, Bool.true_eq_false, if_false, w_way H.1 hf ht, s_gI HY, List.length_nil]
    rfl
  | cons k r =>
    rw [hy] at HY
    have hk : k < 2 ^ 31 := HY.mem (by simp)
    have hyl := HY.2.2.1
    have hat : f_X5_at (ov S n) (w + 27 + 2 * (3 * f + t)) 0 = some (ov S n, lN k) := s_at (n := n) HY (j := 0) (by omega)
    have hz : (nI (k :: r).length = 0) = False := eq_false (nI_ne0 (by simp) (by omega))
    obtain ⟨S', g1, g2, g3⟩ := x_takeNext (n := n) H hf ht hy (by omega) (by omega)
    have hu : f_X8_deliver (ov S n) w (nI f) (nI t) = if mHm k && decide (20 ≤ (wL W t).length) then some (ov S n, -3) else b_X8_deliver_58 (ov S n) w (nI f) (nI t) := by
      unfold f_X8_deliver b_X8_deliver_0
      rw [w_chk H.1]
      simp (disch := omega) only [x_areTwo, hcT, bS, b2i_eq0, Bool.true_eq_false, if_false, w_way H.1 hf ht, s_gI HY, hz, hat, c_hasM _ hk, w_R0 H.1, w_cp H.1 ht, cp_R3 kc, s_gI hs, j20, i_lt]
      by_cases em : mHm k = true
      · by_cases el : 20 ≤ (wL W t).length
        · rw [if_neg (by simp [em]), if_neg (by omega), if_pos (by simp [em, el])]
        · rw [if_neg (by simp [em]), if_pos (by omega), if_neg (by simp [el])]
      · rw [if_pos (by simpa using em), if_neg (by simp [em])]
    show ∃ S', _ = some (ov S' n, (if mHm k && decide (20 ≤ (wL W t).length) then ((-3 : Int32), W) else _).1) ∧ CW S' w (if mHm k && decide (20 ≤ (wL W t).length) then ((-3 : Int32), W) else _).2 ∧ _
    rw [hu]
    by_cases ec : (mHm k && decide (20 ≤ (wL W t).length)) = true
    · rw [if_pos ec, if_pos ec]
      exact ⟨S, rfl, H, AG.rf⟩
    · rw [if_neg ec, if_neg ec]
      refine ⟨S', ?_, g2, g3⟩
      unfold b_X8_deliver_58
      rw [g1, bS]
/-- the log is cut -/
def dCt (W : aW) (c : Nat) : Int32 × aW := (nI (mCm (mSt2 (wH W c) c) (wL W c)), aCut W c (mCm (mSt2 (wH W c) c) (wL W c)))
theorem x_cut (H : CW S w W) (hV : V T W) (hT : T ≤ 100000) {c : Nat} (hc : c < 3) : ∃ S', f_X8_cut (ov S n) w (nI c) = some (ov S' n, (dCt W c).1) ∧ CW S' w (dCt W c).2 ∧ AG (fun b => w ≤ b ∧ b < w + 45) S S' := by
  have hcC : inR 0 3 (nI c) = true := by rw [inR_nI (by omega)]; simp [hc]
  have hl := (hV.2.2.1 c hc).1
  obtain ⟨S', g1, g2, g3⟩ := x_dropStable (n := n) (H.k hc) (H.2.1 c hc) hc (fun d hd => by have := hV.2.1 c d hc hd; omega) (by omega)
  refine ⟨S', ?_, ?_, g3.mono (fun b q => by omega)⟩
  · unfold f_X8_cut b_X8_cut_0
    rw [w_chk H.1]
    simp only [x_isCopy, hcC, bS, b2i_eq0, Bool.true_eq_false, if_false, w_R0 H.1, w_cp H.1 hc, g1]
    rfl
  · refine H.up g3 (fun b q => Or.inl q) hc (fun d hd hne => ⟨rfl, rfl, fset_n _ _ hne, fset_n _ _ hne⟩) ?_ (fun i hi => (H.2.2 i hi).ag g3 (by omega) (by omega))
    have w1 : wL (dCt W c).2 c = (wL W c).drop (mCm (mSt2 (wH W c) c) (wL W c)) := fset_s _ _ _
    have w2 : wB (dCt W c).2 c = mBld 1000 ((wL W c).take (mCm (mSt2 (wH W c) c) (wL W c))) 0 (wB W c) := fset_s _ _ _
    rw [w1, w2]
    exact g2
end CA
