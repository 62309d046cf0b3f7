/-! ACTS WITH ANY NUMBERS -/
def eMk (W : aW) (x y z u : Int32) : Int32 × aW := if inR 0 3 x && (inR 2 14 y && (inR 0 14 z && inR 0 10 u)) then dMk W x.toNatClampNeg y.toNatClampNeg z.toNatClampNeg u.toNatClampNeg else (-1, W)
def eBt (W : aW) (x : Int32) : Int32 × aW := if inR 0 3 x then dBt W x.toNatClampNeg else (-1, W)
def eCm (W : aW) (x y : Int32) : Int32 × aW := if two x y then dCm W x.toNatClampNeg y.toNatClampNeg else (-1, W)
def eGa (W : aW) (x : Int32) : Int32 × aW := if inR 0 3 x then dGa W x.toNatClampNeg else (-1, W)
def eCt (W : aW) (x : Int32) : Int32 × aW := if inR 0 3 x then dCt W x.toNatClampNeg else (-1, W)
theorem inR_ok {lo hi c : Nat} (h1 : lo ≤ c) (h2 : c < hi) (hh : c < 2 ^ 31) : inR lo hi (nI c) = true := by rw [inR_nI hh]; simp [h1, h2]
theorem eMk_t (W : aW) {c f p m : Nat} (hc : c < 3) (hf2 : 2 ≤ f) (hf : f < 14) (hp : p < 14) (hm : m < 10) : eMk W (nI c) (nI f) (nI p) (nI m) = dMk W c f p m := by
  unfold eMk
  rw [inR_ok (Nat.zero_le _) hc (by omega), inR_ok hf2 hf (by omega), inR_ok (Nat.zero_le _) hp (by omega), inR_ok (Nat.zero_le _) hm (by omega), nI_clamp (by omega), nI_clamp (by omega), nI_clamp (by omega), nI_clamp (by omega)]
  rfl
theorem eBt_t (W : aW) {c : Nat} (hc : c < 3) : eBt W (nI c) = dBt W c := by
  unfold eBt
  rw [inR_ok (Nat.zero_le _) hc (by omega), nI_clamp (by omega)]
  rfl
theorem eGa_t (W : aW) {c : Nat} (hc : c < 3) : eGa W (nI c) = dGa W c := by
  unfold eGa
  rw [inR_ok (Nat.zero_le _) hc (by omega), nI_clamp (by omega)]
  rfl
theorem eCt_t (W : aW) {c : Nat} (hc : c < 3) : eCt W (nI c) = dCt W c := by
  unfold eCt
  rw [inR_ok (Nat.zero_le _) hc (by omega), nI_clamp (by omega)]
  rfl
theorem two_ok {a b : Nat} (ha : a < 3) (hb : b < 3) (hab : a ≠ b) : two (nI a) (nI b) = true := by
  unfold two
  rw [inR_ok (Nat.zero_le _) ha (by omega), inR_ok (Nat.zero_le _) hb (by omega)]
  simp only [ne_eq, i_eq (show a < 2 ^ 31 by omega) (show b < 2 ^ 31 by omega)]
  simp [hab]
theorem eCm_t (W : aW) {a b : Nat} (ha : a < 3) (hb : b < 3) (hab : a ≠ b) : eCm W (nI a) (nI b) = dCm W a b := by
  unfold eCm
  rw [two_ok ha hb hab, nI_clamp (by omega), nI_clamp (by omega)]
  rfl
theorem mk_args {x y z u : Int32} (h : (inR 0 3 x && (inR 2 14 y && (inR 0 14 z && inR 0 10 u))) = true) : ∃ c f p m, c < 3 ∧ 2 ≤ f ∧ f < 14 ∧ p < 14 ∧ m < 10 ∧ x = nI c ∧ y = nI f ∧ z = nI p ∧ u = nI m := by
  simp only [Bool.and_eq_true] at h
  obtain ⟨h1, h2, h3, h4⟩ := h
  obtain ⟨c, -, c2, rfl⟩ := inR_t h1 (by omega)
  obtain ⟨f, f1, f2, rfl⟩ := inR_t h2 (by omega)
  obtain ⟨p, -, p2, rfl⟩ := inR_t h3 (by omega)
  obtain ⟨m, -, m2, rfl⟩ := inR_t h4 (by omega)
  exact ⟨c, f, p, m, c2, f1, f2, p2, m2, rfl, rfl, rfl, rfl⟩
section EA
variable {S : o_S} {n : Nat × Nat × Nat} {w T : Nat} {W : aW}
theorem x_makeG (H : CW S w W) (hV : V T W) (hT : T ≤ 100000) (x y z u : Int32) : ∃ S', f_X8_make (ov S n) w x y z u = some (ov S' n, (eMk W x y z u).1) ∧ CW S' w (eMk W x y z u).2 ∧ AG (fun b => w ≤ b ∧ b < w + 45) S S' := by
  by_cases e : (inR 0 3 x && (inR 2 14 y && (inR 0 14 z && inR 0 10 u))) = true
  · obtain ⟨c, f, p, m, hc, hf2, hf, hp, hm, rfl, rfl, rfl, rfl⟩ := mk_args e
    rw [eMk_t W hc hf2 hf hp hm]
    exact x_make H hV hT hc hf2 hf hp hm
  · unfold eMk
    rw [if_neg e]
    refine ⟨S, ?_, H, AG.rf⟩
    unfold f_X8_make b_X8_make_0
    rw [w_chk H.1]
    simp only [x_isCopy, x_isFolder, x_isNode, bS, b2i_eq0]
    cases e1 : inR 0 3 x
    · simp
    · cases e2 : inR 2 14 y
      · simp
      · cases e3 : inR 0 14 z
        · simp
        · have e4 : inR 0 10 u = false := by
            rw [e1, e2, e3] at e
            simpa using e
          rw [x_rng u (show 0 < 2 ^ 31 by omega) (show 10 < 2 ^ 31 by omega)] at e4
          by_cases h0 : u < 0
          · simp [h0]
          · have h1 : ¬ u < 10 := by
              have h0' : ¬ u < nI 0 := h0
              have : nI 10 ≤ u := by simpa [h0'] using e4
              exact Int32.not_lt.mpr this
            simp [h0, h1]
theorem r_makeG (h : RW (S.2.1 299) 0 W) (hV : V T W) (hT : T ≤ 100000) (x y z u : Int32) : ∃ S', f_X10_makesOne (ov S n) 296 x y z u = some (ov S' n, (eMk W x y z u).1) ∧ RW (S'.2.1 299) 0 (eMk W x y z u).2 ∧ (∀ c, x = nI c → c < 3 → ¬ (eMk W x y z u).1 < 0 → S'.1 296 12 = b2i ((mVds 1000 (wL (eMk W x y z u).2 c) 0 (wB (eMk W x y z u).2 c) 0).testBit ((wL (eMk W x y z u).2 c).length - 1))) ∧ RX S S' := by
  by_cases e : (inR 0 3 x && (inR 2 14 y && (inR 0 14 z && inR 0 10 u))) = true
  · obtain ⟨c, f, p, m, hc, hf2, hf, hp, hm, rfl, rfl, rfl, rfl⟩ := mk_args e
    rw [eMk_t W hc hf2 hf hp hm]
    obtain ⟨S', g1, g2, g3, g4⟩ := r_make (n := n) h hV hT hc hf2 hf hp hm
    refine ⟨S', g1, g2, fun c' hc' h3 => ?_, g4⟩
    have : c = c' := (nI_eq (by omega) (by omega)).mp hc'
    subst this
    exact g3
  · unfold eMk
    rw [if_neg e]
    refine ⟨S, ?_, h, fun _ _ _ hn => absurd (show (-1 : Int32) < 0 by decide) hn, RX.rf⟩
    unfold f_X10_makesOne b_X10_makesOne_0
    simp only [r_chk, r_isCopy, r_isFolder, r_isNode, r_in (ov S n) u (a := 0) (b := 9) (lo := 0) (hi := 10) (by decide) (by decide), bS, b2i_eq0]
    cases e1 : inR 0 3 x
    · simp
    · cases e2 : inR 2 14 y
      · simp
      · cases e3 : inR 0 14 z
        · simp
        · have e4 : inR 0 10 u = false := by
            rw [e1, e2, e3] at e
            simpa using e
          simp [e4]
theorem V.mkG (hV : V T W) (hT : T ≤ 100000) (x y z u : Int32) : V (T + 1) (eMk W x y z u).2 := by
  by_cases e : (inR 0 3 x && (inR 2 14 y && (inR 0 14 z && inR 0 10 u))) = true
  · obtain ⟨c, f, p, m, hc, hf2, hf, hp, hm, rfl, rfl, rfl, rfl⟩ := mk_args e
    rw [eMk_t W hc hf2 hf hp hm]
    exact hV.mk hT hc hf2 hf hp hm
  · unfold eMk
    rw [if_neg e]
    exact hV.mono (by omega)
theorem x_beatG (H : CW S w W) (hV : V T W) (hT : T ≤ 100000) (x : Int32) : ∃ S', f_X8_beat (ov S n) w x = some (ov S' n, (eBt W x).1) ∧ CW S' w (eBt W x).2 ∧ AG (fun b => w ≤ b ∧ b < w + 45) S S' := by
  by_cases e : inR 0 3 x = true
  · obtain ⟨c, -, hc, rfl⟩ := inR_t e (by omega)
    rw [eBt_t W hc]
    exact x_beat H hV hT hc
  · have e' : inR 0 3 x = false := by simpa using e
    unfold eBt
    rw [e']
    refine ⟨S, ?_, H, AG.rf⟩
    unfold f_X8_beat b_X8_beat_0
    rw [w_chk H.1]
    simp only [x_isCopy, bS, b2i_eq0, e', if_true]
    rfl
theorem r_beatG (h : RW (S.2.1 299) 0 W) (hV : V T W) (hT : T ≤ 100000) (x : Int32) : ∃ S', f_X10_beatsOne (ov S n) 296 x = some (ov S' n, (eBt W x).1) ∧ RW (S'.2.1 299) 0 (eBt W x).2 ∧ RX S S' := by
  by_cases e : inR 0 3 x = true
  · obtain ⟨c, -, hc, rfl⟩ := inR_t e (by omega)
    rw [eBt_t W hc]
    exact r_beat h hV hT hc
  · have e' : inR 0 3 x = false := by simpa using e
    unfold eBt
    rw [e']
    refine ⟨S, ?_, h, RX.rf⟩
    unfold f_X10_beatsOne b_X10_beatsOne_0
    simp only [r_chk, r_isCopy, bS, b2i_eq0, e', if_true]
    rfl
theorem V.btG (hV : V T W) (hT : T ≤ 100000) (x : Int32) : V T (eBt W x).2 := by
  by_cases e : inR 0 3 x = true
  · obtain ⟨c, -, hc, rfl⟩ := inR_t e (by omega)
    rw [eBt_t W hc]
    exact hV.bt hT hc
  · unfold eBt
    rw [if_neg e]
    exact hV
theorem x_comeG (H : CW S w W) (hV : V T W) (hT : T ≤ 100000) (x y : Int32) : ∃ S', f_X8_deliver (ov S n) w x y = some (ov S' n, (eCm W x y).1) ∧ CW S' w (eCm W x y).2 ∧ AG (fun b => w ≤ b ∧ b < w + 45) S S' := by
  by_cases e : two x y = true
  · obtain ⟨a, b, ha, hb, hab, rfl, rfl⟩ := two_t e
    rw [eCm_t W ha hb hab]
    exact x_deliver H hV hT ha hb hab
  · have e' : two x y = false := by simpa using e
    unfold eCm
    rw [e']
    refine ⟨S, ?_, H, AG.rf⟩
    unfold f_X8_deliver b_X8_deliver_0
    rw [w_chk H.1]
    simp only [x_areTwo, bS, b2i_eq0, e', if_true]
    rfl
theorem r_comeG (h : RW (S.2.1 299) 0 W) (hV : V T W) (hT : T ≤ 100000) (x y : Int32) : ∃ S', f_X10_comesOne (ov S n) 296 x y = some (ov S' n, (eCm W x y).1) ∧ RW (S'.2.1 299) 0 (eCm W x y).2 ∧ (∀ t, y = nI t → t < 3 → ¬ (eCm W x y).1 < 0 → S'.1 296 14 = nI (mOt (tr W t) (tr (eCm W x y).2 t))) ∧ RX S S' := by
  by_cases e : two x y = true
  · obtain ⟨a, b, ha, hb, hab, rfl, rfl⟩ := two_t e
    rw [eCm_t W ha hb hab]
    obtain ⟨S', g1, g2, g3, g4⟩ := r_come (n := n) h hV hT ha hb hab
    refine ⟨S', g1, g2, fun c' hc' h3 => ?_, g4⟩
    have : b = c' := (nI_eq (by omega) (by omega)).mp hc'
    subst this
    exact g3
  · have e' : two x y = false := by simpa using e
    unfold eCm
    rw [e']
    refine ⟨S, ?_, h, fun _ _ _ hn => absurd (show (-1 : Int32) < 0 by decide) hn, RX.rf⟩
    unfold f_X10_comesOne b_X10_comesOne_0
    simp only [r_chk, r_areTwo, bS, b2i_eq0, e', if_true]
    rfl
theorem V.cmG (hV : V T W) (x y : Int32) : V T (eCm W x y).2 := by
  by_cases e : two x y = true
  · obtain ⟨a, b, ha, hb, hab, rfl, rfl⟩ := two_t e
    rw [eCm_t W ha hb hab]
    exact hV.cm ha hb hab
  · unfold eCm
    rw [if_neg e]
    exact hV
theorem x_gatherG (H : CW S w W) (hV : V T W) (hT : T ≤ 100000) (x : Int32) : ∃ S', f_X8_gather (ov S n) w x = some (ov S' n, (eGa W x).1) ∧ CW S' w (eGa W x).2 ∧ AG (fun b => w ≤ b ∧ b < w + 45) S S' := by
  by_cases e : inR 0 3 x = true
  · obtain ⟨c, -, hc, rfl⟩ := inR_t e (by omega)
    rw [eGa_t W hc]
    exact x_gather H hV hT hc
  · have e' : inR 0 3 x = false := by simpa using e
    unfold eGa
    rw [e']
    refine ⟨S, ?_, H, AG.rf⟩
    unfold f_X8_gather b_X8_gather_0
    rw [w_chk H.1]
    simp only [x_isCopy, bS, b2i_eq0, e', if_true]
    rfl
theorem r_gatherG (h : RW (S.2.1 299) 0 W) (hV : V T W) (hT : T ≤ 100000) (x : Int32) : ∃ S', f_X10_gathersOne (ov S n) 296 x = some (ov S' n, (eGa W x).1) ∧ RW (S'.2.1 299) 0 (eGa W x).2 ∧ (∀ c, x = nI c → c < 3 → ¬ (eGa W x).1 < 0 → S'.1 296 13 = nI (dUn W c) ∧ S'.1 296 14 = nI (mOt (tr W c) (tr (eGa W x).2 c))) ∧ RX S S' := by
  by_cases e : inR 0 3 x = true
  · obtain ⟨c, -, hc, rfl⟩ := inR_t e (by omega)
    rw [eGa_t W hc]
    obtain ⟨S', g1, g2, g3, g4⟩ := r_gather (n := n) h hV hT hc
    refine ⟨S', g1, g2, fun c' hc' h3 => ?_, g4⟩
    have : c = c' := (nI_eq (by omega) (by omega)).mp hc'
    subst this
    exact g3
  · have e' : inR 0 3 x = false := by simpa using e
    unfold eGa
    rw [e']
    refine ⟨S, ?_, h, fun _ _ _ hn => absurd (show (-1 : Int32) < 0 by decide) hn, RX.rf⟩
    unfold f_X10_gathersOne b_X10_gathersOne_0
    simp only [r_chk, r_isCopy, bS, b2i_eq0, e', if_true]
    rfl
theorem V.gaG (hV : V T W) (x : Int32) : V T (eGa W x).2 := by
  by_cases e : inR 0 3 x = true
  · obtain ⟨c, -, hc, rfl⟩ := inR_t e (by omega)
    rw [eGa_t W hc]
    exact hV.ga hc
  · unfold eGa
    rw [if_neg e]
    exact hV
theorem x_cutG (H : CW S w W) (hV : V T W) (hT : T ≤ 100000) (x : Int32) : ∃ S', f_X8_cut (ov S n) w x = some (ov S' n, (eCt W x).1) ∧ CW S' w (eCt W x).2 ∧ AG (fun b => w ≤ b ∧ b < w + 45) S S' := by
  by_cases e : inR 0 3 x = true
  · obtain ⟨c, -, hc, rfl⟩ := inR_t e (by omega)
    rw [eCt_t W hc]
    exact x_cut H hV hT hc
  · have e' : inR 0 3 x = false := by simpa using e
    unfold eCt
    rw [e']
    refine ⟨S, ?_, H, AG.rf⟩
    unfold f_X8_cut b_X8_cut_0
    rw [w_chk H.1]
    simp only [x_isCopy, bS, b2i_eq0, e', if_true]
    rfl
theorem r_cutG (h : RW (S.2.1 299) 0 W) (hV : V T W) (hT : T ≤ 100000) (x : Int32) : ∃ S', f_X10_cutsOne (ov S n) 296 x = some (ov S' n, (eCt W x).1) ∧ RW (S'.2.1 299) 0 (eCt W x).2 ∧ RX S S' := by
  by_cases e : inR 0 3 x = true
  · obtain ⟨c, -, hc, rfl⟩ := inR_t e (by omega)
    rw [eCt_t W hc]
    exact r_cut h hV hT hc
  · have e' : inR 0 3 x = false := by simpa using e
    unfold eCt
    rw [e']
    refine ⟨S, ?_, h, RX.rf⟩
    unfold f_X10_cutsOne b_X10_cutsOne_0
    simp only [r_chk, r_isCopy, bS, b2i_eq0, e', if_true]
    rfl
theorem V.ctG (hV : V T W) (x : Int32) : V T (eCt W x).2 := by
  by_cases e : inR 0 3 x = true
  · obtain ⟨c, -, hc, rfl⟩ := inR_t e (by omega)
    rw [eCt_t W hc]
    exact hV.ct hc
  · unfold eCt
    rw [if_neg e]
    exact hV
end EA
