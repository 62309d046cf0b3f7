/-! THE WORST AND THE BEST ORDER OF LETTERS 3: the reference -/
section WR
variable {S : o_S} {n : Nat × Nat × Nat} {A : aS} {T : Nat} {W : aW}
theorem r_un35 (hV : V T W) {c b fr m k : Nat} (hc : c < 3) (hb : b < 3) (hfr : fr < 3) (hk : (wY W (3 * fr + c))[m]? = some k) {o : Nat} (ho : o ≤ (wY W (3 * b + c)).length) : ∀ d i fuel (S : o_S) (l : List Nat), i + d = o → d < fuel → RW (S.2.1 299) 0 W → LL S l → l.length + d ≤ 40 → ∃ S', l_X10_undoes_35 fuel (ov S n) 296 (nI c) (nI b) (nI o) (nI fr) (nI (492 + 4 * (6 * (3 * fr + c) + m))) (nI i) = some (ov S' n, nI (if mHm k then (mPutA (((wY W (3 * b + c)).take o).drop i) l).countP (mLs k) else 0)) ∧ RQ S S' := by
  have hyl := (hV.2.2.2.2.1 b c hb hc).1
  have hyl' := (hV.2.2.2.2.1 fr c hfr hc).1
  have hm : m < (wY W (3 * fr + c)).length := (List.getElem?_eq_some_iff.mp hk).1
  obtain ⟨hkb, hkc⟩ := hV.yb hc hfr (List.mem_of_getElem? hk)
  intro d
  induction d with
  | zero =>
    intro i fuel S l hi hf h hl hlen
    obtain ⟨f, rfl⟩ : ∃ f, fuel = f + 1 := ⟨fuel - 1, by omega⟩
    have hx : ((wY W (3 * b + c)).take o).drop i = [] := List.drop_eq_nil_of_le (by rw [List.length_take]; omega)
    have hmv := r_isMove (n := n) h.2.2.2.2 (show 3 * fr + c < 9 by omega) hk
    have hmem := h.yl0 (show 3 * fr + c < 9 by omega) hk
    have hgr := r_greater (n := n) hl hkb
    rw [hkc] at hgr
    refine ⟨S, ?_, RQ.rf⟩
    rw [hx]
    show b_X10_undoes_35 _ _ _ _ _ _ _ _ _ = _
    unfold b_X10_undoes_35
    rw [if_pos (by rw [i_le (by omega) (by omega)]; omega), hmv, bS]
    simp only [b2i_eq0]
    cases e : mHm k
    · rw [if_pos rfl]; rfl
    · rw [if_neg (by decide), rR7, bS, r_mem (by omega), bS, hmem, hgr, bS]; rfl
  | succ d ih =>
    intro i fuel S l hi hf h hl hlen
    obtain ⟨f, rfl⟩ : ∃ f, fuel = f + 1 := ⟨fuel - 1, by omega⟩
    have hx : (wY W (3 * b + c))[i]? = some (wY W (3 * b + c))[i] := List.getElem?_eq_getElem (by omega)
    obtain ⟨hyb, hyc⟩ := hV.yb hc hb (List.mem_of_getElem? hx)
    obtain ⟨S1, g1, g2, g3⟩ := r_putsLetter (n := n) h.2.2.2.2 hl (by omega) (show 3 * b + c < 9 by omega) hx hyb hyc
    have hpl := mPut_len (wY W (3 * b + c))[i] l
    obtain ⟨S', k1, k2⟩ := ih (i + 1) f S1 _ (by omega) (by omega) (by rw [g3.m]; exact h) g2 (by omega)
    have ed : ((wY W (3 * b + c)).take o).drop i = (wY W (3 * b + c))[i] :: ((wY W (3 * b + c)).take o).drop (i + 1) := by
      rw [List.drop_eq_getElem_cons (by rw [List.length_take]; omega)]
      congr 1
      rw [List.getElem_take]
    refine ⟨S', ?_, g3.tr k2⟩
    rw [ed]
    show b_X10_undoes_35 _ _ _ _ _ _ _ _ _ = _
    unfold b_X10_undoes_35
    rw [if_neg (by rw [i_le (by omega) (by omega)]; omega), r_letterOf, bS, g1, bS, nI_1]
    exact k1
theorem r_un8 (hV : V T W) {c a b fr m k : Nat} (hc : c < 3) (ha : a < 3) (hb : b < 3) (hfr : fr < 3) (hk : (wY W (3 * fr + c))[m]? = some k) {o p : Nat} (ho : o ≤ (wY W (3 * b + c)).length) (hp : p ≤ (wY W (3 * a + c)).length) : ∀ d i fuel (S : o_S) (l : List Nat), i + d = p → d < fuel → RW (S.2.1 299) 0 W → LL S l → l.length + d + o ≤ 40 → ∃ S', l_X10_undoes_8 fuel (ov S n) 296 (nI c) (nI a) (nI p) (nI b) (nI o) (nI fr) (nI (492 + 4 * (6 * (3 * fr + c) + m))) (nI i) = some (ov S' n, nI (if mHm k then (mPutA ((wY W (3 * b + c)).take o) (mPutA (((wY W (3 * a + c)).take p).drop i) l)).countP (mLs k) else 0)) ∧ RQ S S' := by
  have hyl := (hV.2.2.2.2.1 a c ha hc).1
  have hyl2 := (hV.2.2.2.2.1 b c hb hc).1
  intro d
  induction d with
  | zero =>
    intro i fuel S l hi hf h hl hlen
    obtain ⟨f, rfl⟩ : ∃ f, fuel = f + 1 := ⟨fuel - 1, by omega⟩
    have hx : ((wY W (3 * a + c)).take p).drop i = [] := List.drop_eq_nil_of_le (by rw [List.length_take]; omega)
    obtain ⟨S', k1, k2⟩ := r_un35 (n := n) hV hc hb hfr hk ho o 0 q_FU S l (by omega) (q_FU_lt (by omega)) h hl (by omega)
    rw [List.drop_zero] at k1
    refine ⟨S', ?_, k2⟩
    rw [hx]
    show b_X10_undoes_8 _ _ _ _ _ _ _ _ _ _ _ = _
    unfold b_X10_undoes_8
    rw [if_pos (by rw [i_le (by omega) (by omega)]; omega)]
    exact k1
  | succ d ih =>
    intro i fuel S l hi hf h hl hlen
    obtain ⟨f, rfl⟩ : ∃ f, fuel = f + 1 := ⟨fuel - 1, by omega⟩
    have hx : (wY W (3 * a + c))[i]? = some (wY W (3 * a + c))[i] := List.getElem?_eq_getElem (by omega)
    obtain ⟨hyb, hyc⟩ := hV.yb hc ha (List.mem_of_getElem? hx)
    obtain ⟨S1, g1, g2, g3⟩ := r_putsLetter (n := n) h.2.2.2.2 hl (by omega) (show 3 * a + c < 9 by omega) hx hyb hyc
    have hpl := mPut_len (wY W (3 * a + c))[i] l
    obtain ⟨S', k1, k2⟩ := ih (i + 1) f S1 _ (by omega) (by omega) (by rw [g3.m]; exact h) g2 (by omega)
    have ed : ((wY W (3 * a + c)).take p).drop i = (wY W (3 * a + c))[i] :: ((wY W (3 * a + c)).take p).drop (i + 1) := by
      rw [List.drop_eq_getElem_cons (by rw [List.length_take]; omega)]
      congr 1
      rw [List.getElem_take]
    refine ⟨S', ?_, g3.tr k2⟩
    rw [ed]
    show b_X10_undoes_8 _ _ _ _ _ _ _ _ _ _ _ = _
    unfold b_X10_undoes_8
    rw [if_neg (by rw [i_le (by omega) (by omega)]; omega), r_letterOf, bS, g1, bS, nI_1]
    exact k1
theorem r_undoes (hV : V T W) (h : RW (S.2.1 299) 0 W) {c a b fr m k : Nat} (hc : c < 3) (ha : a < 3) (hb : b < 3) (hfr : fr < 3) (hk : (wY W (3 * fr + c))[m]? = some k) {o p : Nat} (ho : o ≤ (wY W (3 * b + c)).length) (hp : p ≤ (wY W (3 * a + c)).length) : ∃ S', f_X10_undoes (ov S n) 296 (nI c) (nI a) (nI p) (nI b) (nI o) (nI fr) (nI (492 + 4 * (6 * (3 * fr + c) + m))) = some (ov S' n, nI (if mHm k then (wL W c).countP (mLs k) + ((wY W (3 * a + c)).take p).countP (fun y => mLs k y && mHm y) + ((wY W (3 * b + c)).take o).countP (fun y => mLs k y && mHm y) else 0)) ∧ RQ S S' := by
  have hl20 := (hV.2.2.1 c hc).1
  have hyl := (hV.2.2.2.2.1 a c ha hc).1
  have hyl2 := (hV.2.2.2.2.1 b c hb hc).1
  obtain ⟨S1, g1, g2, g3⟩ := r_loadsW (n := n) hc h (hV.lb hc)
  obtain ⟨S2, k1, k2⟩ := r_un8 (n := n) hV hc ha hb hfr hk ho hp p 0 q_FU S1 (wL W c) (by omega) (q_FU_lt (by omega)) (by rw [g3.m]; exact h) g2 (by omega)
  rw [List.drop_zero, putA_cnt, putA_cnt] at k1
  refine ⟨S2, ?_, g3.tr k2⟩
  unfold f_X10_undoes b_X10_undoes_0
  rw [r_chk, g1, bS]
  exact k1
theorem rmL {j : Nat} (h : j < 49) : q_lI 0 (ov S n) 310 (nI j) = some (S.2.1 310 j) := by
  rw [o_lI (t := 0) (m := 49) (fun _ _ _ => rfl), if_pos (q_in_nI h (by omega)), nI_clamp (by omega)]
theorem rlL {j : Nat} (h : j < 49) : q_lI 0 (ov S n) 311 (nI j) = some (S.2.1 311 j) := by
  rw [o_lI (t := 0) (m := 49) (fun _ _ _ => rfl), if_pos (q_in_nI h (by omega)), nI_clamp (by omega)]
theorem rmS {j : Nat} (h : j < 49) (x : Int32) : q_sI 0 id (ov S n) 310 (nI j) x = some (ov (o_sI S 310 (upd (S.2.1 310) j (id x))) n) := by
  rw [o_stI (t := 0) (m := 49) (fun _ _ _ => rfl), if_pos (q_in_nI h (by omega)), nI_clamp (by omega)]
theorem rlS {j : Nat} (h : j < 49) (x : Int32) : q_sI 0 id (ov S n) 311 (nI j) x = some (ov (o_sI S 311 (upd (S.2.1 311) j (id x))) n) := by
  rw [o_stI (t := 0) (m := 49) (fun _ _ _ => rfl), if_pos (q_in_nI h (by omega)), nI_clamp (by omega)]
theorem qm1 {v : Nat} (hv : v < 2 ^ 31) : q_max (-1) (nI v) = nI v := by
  unfold q_max
  rw [if_pos]
  rw [Int32.lt_iff_toInt_lt, nI_toInt hv]
  have : (-1 : Int32).toInt = -1 := by decide
  omega
def wZ (S S' : o_S) : Prop := RZ S S' ∧ S'.2.1 299 = S.2.1 299
theorem wZ.tr {S S1 S2 : o_S} (h : wZ S S1) (k : wZ S1 S2) : wZ S S2 := ⟨h.1.tr k.1, k.2.trans h.2⟩
theorem wZ.rf {S : o_S} : wZ S S := ⟨RZ.rf, rfl⟩
theorem wZ.rr {S S' : o_S} (h : wZ S S') (H : RR S A) : RR S' A := H.zs h.1 h.2
theorem RQ.wz {S S' : o_S} (h : RQ S S') : wZ S S' := ⟨h.x.z, h.m⟩
theorem wZ.sI {S : o_S} {a : Nat} (I : Nat → Int32) (h1 : 300 ≤ a) (h2 : a ≤ 311) : wZ S (o_sI S a I) := ⟨RZ.sI I h1 h2, by rw [s_I, if_neg (by omega)]⟩
section CELL2
variable {c a b : Nat}
theorem r_two {idx : Nat} (hi : idx < 49) (M : Int32) (L : Nat) {S : o_S} {fr : Nat} (hfr : fr < 49) {v und dm dx : Nat} (h1 : S.2.1 310 idx = M) (h2 : S.2.1 311 idx = nI L) (h3 : S.2.1 310 fr = nI dx) (h4 : S.2.1 311 fr = nI dm) (hL : L < 2 ^ 31) (hb : dm + und < 2 ^ 31) (g : q_H → Option (q_H × Int32)) (fi : Int32) (hfi : fi = nI fr) : ∃ S', Option.bind (q_gR 9 22 (ov S n) 296) (fun x3 => Option.bind (q_gR 9 22 (ov S n) 296) (fun x4 => Option.bind (q_lI 0 (ov S n) x4 (nI idx)) (fun x5 => Option.bind (q_gR 9 22 (ov S n) 296) (fun x6 => Option.bind (q_lI 0 (ov S n) x6 fi) (fun x7 => Option.bind (q_sI 0 id (ov S n) x3 (nI idx) (q_max x5 (x7 + nI und))) (fun h8 => Option.bind (q_gR 9 23 h8 296) (fun x9 => Option.bind (q_gR 9 23 h8 296) (fun x10 => Option.bind (q_lI 0 h8 x10 (nI idx)) (fun x11 => Option.bind (q_gR 9 23 h8 296) (fun x12 => Option.bind (q_lI 0 h8 x12 fi) (fun x13 => Option.bind (q_sI 0 id h8 x9 (nI idx) (q_min x11 (x13 + nI und))) (fun h14 => g h14)))))))))))) = g (ov S' n) ∧ at2 310 311 S S' idx (q_max M (nI (dx + und))) (nI (min L (dm + und))) ∧ wZ S S' := by
  subst hfi
  have e1 : ∀ I, (o_sI S 310 I).2.1 311 = S.2.1 311 := fun I => by rw [s_I, if_neg (by omega)]
  refine ⟨_, ?_, at2_w (a1 := 310) (a2 := 311) (h := idx) S (q_max M (nI (dx + und))) (nI (min L (dm + und))) (by omega), (wZ.sI _ (by omega) (by omega)).tr (wZ.sI _ (by omega) (by omega))⟩
  simp only [rR22, rR23, bS, rmL hi, rmL hfr, h1, h3, nI_add, rmS hi, rlL hi, rlL hfr, e1, h2, h4, i_min hL hb, rlS hi, idS]
theorem r_c214 (h : OKA T A) (hc : c < 3) (ha : a < 3) (hb : b < 3) (k48 : q_H → Nat → Int32 → Int32 → Int32 → Int32 → Int32 → Option (q_H × Int32)) (k62 : q_H → Nat → Int32 → Int32 → Int32 → Int32 → Int32 → Int32 → Option (q_H × Int32)) {i j L : Nat} {M : Int32} (H : RR S A) (hi : i ≤ (wY (sW A) (3 * a + c)).length) (hj : j ≤ (wY (sW A) (3 * b + c)).length) (h1 : S.2.1 310 (7 * i + j) = M) (h2 : S.2.1 311 (7 * i + j) = nI L) (hL : L < 2 ^ 31) (hp : 0 < j → S.2.1 311 (7 * i + (j - 1)) = nI (dp min (uA A c a b) (uA A c b a) i (j - 1)) ∧ S.2.1 310 (7 * i + (j - 1)) = nI (dp max (uA A c a b) (uA A c b a) i (j - 1))) : ∃ S', b_X10_worst_214 k48 k62 (ov S n) 296 (nI c) (nI a) (nI b) 7 (nI i) (nI j) (nI (7 * i + j)) = k62 (ov S' n) 296 (nI c) (nI a) (nI b) 7 (nI i) (nI (j + 1)) ∧ at2 310 311 S S' (7 * i + j) (if j = 0 then M else q_max M (nI (dp max (uA A c a b) (uA A c b a) i (j - 1) + uA A c b a (j - 1) i))) (nI (if j = 0 then L else min L (dp min (uA A c a b) (uA A c b a) i (j - 1) + uA A c b a (j - 1) i))) ∧ wZ S S' := by
  have hl1 := (h.1.2.2.2.2.1 a c ha hc).1
  have hl2 := (h.1.2.2.2.2.1 b c hb hc).1
  unfold b_X10_worst_214 b_X10_worst_302
  cases j with
  | zero =>
    refine ⟨S, ?_, ⟨fun p => ?_, fun p => ?_⟩, wZ.rf⟩
    · rw [if_pos (by decide), nI_1]
    · rw [if_pos rfl]
      by_cases e : p = 7 * i + 0
      · rw [if_pos e, e, h1]
      · rw [if_neg e]
    · rw [if_pos rfl]
      by_cases e : p = 7 * i + 0
      · rw [if_pos e, e, h2]
      · rw [if_neg e]
  | succ j =>
    obtain ⟨p1, p2⟩ := hp (by omega)
    rw [Nat.add_sub_cancel] at p1 p2
    have b1 := dpm_le h hc ha hb i j
    have b3 := uA_le (f := b) h hc ha j i
    have hx : (wY (sW A) (3 * b + c))[j]? = some (wY (sW A) (3 * b + c))[j] := List.getElem?_eq_getElem (by omega)
    obtain ⟨S1, g1, g2⟩ := r_undoes (n := n) h.1 H.1 hc ha hb hb hx (o := j) (p := i) (by omega) hi
    have own := h.1.own hb hc hx
    have eu : (if mHm (wY (sW A) (3 * b + c))[j] then (wL (sW A) c).countP (mLs (wY (sW A) (3 * b + c))[j]) + ((wY (sW A) (3 * a + c)).take i).countP (fun y => mLs (wY (sW A) (3 * b + c))[j] y && mHm y) + ((wY (sW A) (3 * b + c)).take j).countP (fun y => mLs (wY (sW A) (3 * b + c))[j] y && mHm y) else 0) = uA A c b a j i := by
      unfold uA uf
      rw [own, List.getD_eq_getElem?_getD, hx]
      rfl
    rw [eu] at g1
    have er : ∀ q, (q = 310 ∨ q = 311) → S1.2.1 q = S.2.1 q := fun q hq => g2.1.I (by omega)
    obtain ⟨S2, k1, k2, k3⟩ := r_two (n := n) (S := S1) (idx := 7 * i + (j + 1)) (by omega) M L (fr := 7 * i + j) (by omega) (v := 0) (und := uA A c b a j i) (dm := dp min (uA A c a b) (uA A c b a) i j) (dx := dp max (uA A c a b) (uA A c b a) i j) (by rw [er 310 (Or.inl rfl)]; exact h1) (by rw [er 311 (Or.inr rfl)]; exact h2) (by rw [er 310 (Or.inl rfl)]; exact p2) (by rw [er 311 (Or.inr rfl)]; exact p1) hL (by omega) (fun h14 => k62 h14 296 (nI c) (nI a) (nI b) 7 (nI i) (nI (j + 1) + 1)) (nI (7 * i + (j + 1)) - 1) (by rw [show 7 * i + (j + 1) = (7 * i + j) + 1 by omega, nI_pred])
    refine ⟨S2, ?_, ?_, g2.wz.tr k3⟩
    · rw [if_neg (nI_nle (by omega) (by omega)), show nI (j + 1) - 1 = nI j from nI_pred j, r_letterOf, bS, g1, bS, ← nI_1 (j + 1)]
      exact k1
    · rw [if_neg (by omega), if_neg (by omega), Nat.add_sub_cancel]
      exact ⟨fun p => by rw [k2.1 p, er 310 (Or.inl rfl)], fun p => by rw [k2.2 p, er 311 (Or.inr rfl)]⟩
theorem i_73 (i j : Nat) : (7 : Int32) * nI i + nI j = nI (7 * i + j) := by rw [show (7 : Int32) = nI 7 from rfl, pk_mul, nI_add]
theorem r_cell (h : OKA T A) (hc : c < 3) (ha : a < 3) (hb : b < 3) (k48 : q_H → Nat → Int32 → Int32 → Int32 → Int32 → Int32 → Option (q_H × Int32)) (k62 : q_H → Nat → Int32 → Int32 → Int32 → Int32 → Int32 → Int32 → Option (q_H × Int32)) {i j : Nat} (H : RR S A) (hi : i ≤ (wY (sW A) (3 * a + c)).length) (hj : j ≤ (wY (sW A) (3 * b + c)).length) (hD : dpA S 311 310 (uA A c a b) (uA A c b a) (wY (sW A) (3 * b + c)).length i j) : ∃ S', b_X10_worst_62 k48 k62 (ov S n) 296 (nI c) (nI a) (nI b) 7 (nI i) (nI j) = k62 (ov S' n) 296 (nI c) (nI a) (nI b) 7 (nI i) (nI (j + 1)) ∧ dpA S' 311 310 (uA A c a b) (uA A c b a) (wY (sW A) (3 * b + c)).length i (j + 1) ∧ wZ S S' := by
  have hl1 := (h.1.2.2.2.2.1 a c ha hc).1
  have hl2 := (h.1.2.2.2.2.1 b c hb hc).1
  obtain ⟨L0, hL0⟩ : ∃ L0, L0 = (if i + j = 0 then 0 else 1000000) := ⟨_, rfl⟩
  obtain ⟨M0, hM0⟩ : ∃ M0 : Int32, M0 = (if i + j = 0 then 0 else -1) := ⟨_, rfl⟩
  have hL0b : L0 < 2 ^ 31 := by rw [hL0]; split <;> omega
  obtain ⟨S2, hS2⟩ : ∃ S2, S2 = o_sI (o_sI S 310 (upd (S.2.1 310) (7 * i + j) M0)) 311 (upd ((o_sI S 310 (upd (S.2.1 310) (7 * i + j) M0)).2.1 311) (7 * i + j) (nI L0)) := ⟨_, rfl⟩
  have g2 : at2 310 311 S S2 (7 * i + j) M0 (nI L0) := by rw [hS2]; exact at2_w S _ _ (by omega)
  have z2 : wZ S S2 := by rw [hS2]; exact (wZ.sI _ (by omega) (by omega)).tr (wZ.sI _ (by omega) (by omega))
  have H2 := z2.rr H
  have hbody : b_X10_worst_62 k48 k62 (ov S n) 296 (nI c) (nI a) (nI b) 7 (nI i) (nI j) = if nI i ≤ 0 then b_X10_worst_214 k48 k62 (ov S2 n) 296 (nI c) (nI a) (nI b) 7 (nI i) (nI j) (nI (7 * i + j)) else Option.bind (f_X10_letterOf (ov S2 n) (nI a) (nI c) (nI i - 1)) (fun q16 => Option.bind (f_X10_undoes q16.1 296 (nI c) (nI a) (nI i - 1) (nI b) (nI j) (nI a) q16.2) (fun q17 => Option.bind (q_gR 9 22 q17.1 296) (fun x18 => Option.bind (q_gR 9 22 q17.1 296) (fun x19 => Option.bind (q_lI 0 q17.1 x19 (nI (7 * i + j))) (fun x20 => Option.bind (q_gR 9 22 q17.1 296) (fun x21 => Option.bind (q_lI 0 q17.1 x21 (nI (7 * i + j) - 7)) (fun x22 => Option.bind (q_sI 0 id q17.1 x18 (nI (7 * i + j)) (q_max x20 (x22 + q17.2))) (fun h23 => Option.bind (q_gR 9 23 h23 296) (fun x24 => Option.bind (q_gR 9 23 h23 296) (fun x25 => Option.bind (q_lI 0 h23 x25 (nI (7 * i + j))) (fun x26 => Option.bind (q_gR 9 23 h23 296) (fun x27 => Option.bind (q_lI 0 h23 x27 (nI (7 * i + j) - 7)) (fun x28 => Option.bind (q_sI 0 id h23 x24 (nI (7 * i + j)) (q_min x26 (x28 + q17.2))) (fun h29 => b_X10_worst_214 k48 k62 h29 296 (nI c) (nI a) (nI b) 7 (nI i) (nI j) (nI (7 * i + j)))))))))))))))) := by
    have hw := r_waiting (n := n) H.1.2.2.2.2 hb hc
    unfold b_X10_worst_62 b_X10_worst_102 b_X10_worst_123
    rw [hw, bS, if_neg (by rw [i_lt (by omega) (by omega)]; omega), rR22, bS, i_73, nI_add]
    by_cases e : i + j = 0
    · have ea : L0 = 0 := by rw [hL0, if_pos e]
      have eb : M0 = 0 := by rw [hM0, if_pos e]
      have en : nI (i + j) = 0 := by rw [e]; rfl
      rw [if_pos en, rmS (by omega), bS, rR23, bS, if_pos en, rlS (by omega), bS]
      rw [hS2, ea, eb]
      rfl
    · have ea : L0 = 1000000 := by rw [hL0, if_neg e]
      have eb : M0 = -1 := by rw [hM0, if_neg e]
      have en : ¬ nI (i + j) = 0 := by rw [i_eq0 (by omega)]; exact e
      rw [if_neg en, rmS (by omega), bS, rR23, bS, if_neg en, rlS (by omega), bS]
      rw [hS2, ea, eb]
      rfl
  have p0 : ∀ S1 : o_S, at2 310 311 S S1 (7 * i + j) (S1.2.1 310 (7 * i + j)) (S1.2.1 311 (7 * i + j)) → 0 < j → S1.2.1 311 (7 * i + (j - 1)) = nI (dp min (uA A c a b) (uA A c b a) i (j - 1)) ∧ S1.2.1 310 (7 * i + (j - 1)) = nI (dp max (uA A c a b) (uA A c b a) i (j - 1)) := by
    intro S1 g hj0
    rw [g.1, g.2, if_neg (by omega), if_neg (by omega)]
    exact hD i (j - 1) (by omega) (Or.inr ⟨rfl, by omega⟩)
  have fin : ∀ {S1 : o_S} {M : Int32} {m : Nat}, at2 310 311 S S1 (7 * i + j) M (nI m) → wZ S S1 → m < 2 ^ 31 → (if j = 0 then M else q_max M (nI (dp max (uA A c a b) (uA A c b a) i (j - 1) + uA A c b a (j - 1) i))) = nI (dp max (uA A c a b) (uA A c b a) i j) → (if j = 0 then m else min m (dp min (uA A c a b) (uA A c b a) i (j - 1) + uA A c b a (j - 1) i)) = dp min (uA A c a b) (uA A c b a) i j → ∃ S', b_X10_worst_214 k48 k62 (ov S1 n) 296 (nI c) (nI a) (nI b) 7 (nI i) (nI j) (nI (7 * i + j)) = k62 (ov S' n) 296 (nI c) (nI a) (nI b) 7 (nI i) (nI (j + 1)) ∧ dpA S' 311 310 (uA A c a b) (uA A c b a) (wY (sW A) (3 * b + c)).length i (j + 1) ∧ wZ S S' := by
    intro S1 M m g gz hm e1 e2
    have v1 : S1.2.1 310 (7 * i + j) = M := by rw [g.1, if_pos rfl]
    have v2 : S1.2.1 311 (7 * i + j) = nI m := by rw [g.2, if_pos rfl]
    obtain ⟨S', k1, k2, k3'⟩ := r_c214 (n := n) h hc ha hb k48 k62 (gz.rr H) hi hj v1 v2 hm (p0 S1 (by rw [v1, v2]; exact g))
    rw [e1, e2] at k2
    have k2' := g.tr k2
    exact ⟨S', k1, hD.nx hl2 hj k2'.2 k2'.1, gz.tr k3'⟩
  rw [hbody]
  cases i with
  | zero =>
    rw [if_pos (by decide)]
    refine fin g2 z2 hL0b ?_ ?_
    · cases j with
      | zero => rw [if_pos rfl, hM0, if_pos rfl]; rfl
      | succ j =>
        have b1 := dpx_le h hc ha hb 0 j
        have b3 := uA_le (f := b) h hc ha j 0
        rw [if_neg (by omega), hM0, if_neg (by omega), dp_0s, Nat.add_sub_cancel, qm1 (by omega)]
    · cases j with
      | zero => rw [if_pos rfl, hL0, if_pos rfl]; rfl
      | succ j =>
        have b1 := dpm_le h hc ha hb 0 j
        have b3 := uA_le (f := b) h hc ha j 0
        rw [if_neg (by omega), hL0, if_neg (by omega), dp_0s, Nat.add_sub_cancel]
        omega
  | succ i =>
    have b1 := dpm_le h hc ha hb i j
    have b2 := dpx_le h hc ha hb i j
    have b3 := uA_le (f := a) h hc hb i j
    have hx : (wY (sW A) (3 * a + c))[i]? = some (wY (sW A) (3 * a + c))[i] := List.getElem?_eq_getElem (by omega)
    obtain ⟨S1, g1, g1q⟩ := r_undoes (n := n) h.1 H2.1 hc ha hb ha hx (o := j) (p := i) hj (by omega)
    have own := h.1.own ha hc hx
    have eu : (if mHm (wY (sW A) (3 * a + c))[i] then (wL (sW A) c).countP (mLs (wY (sW A) (3 * a + c))[i]) + ((wY (sW A) (3 * a + c)).take i).countP (fun y => mLs (wY (sW A) (3 * a + c))[i] y && mHm y) + ((wY (sW A) (3 * b + c)).take j).countP (fun y => mLs (wY (sW A) (3 * a + c))[i] y && mHm y) else 0) = uA A c a b i j := by
      unfold uA uf
      rw [own, List.getD_eq_getElem?_getD, hx]
      rfl
    rw [eu] at g1
    have er : ∀ q, (q = 310 ∨ q = 311) → S1.2.1 q = S2.2.1 q := fun q hq => g1q.1.I (by omega)
    have q1 := hD i j (by omega) (Or.inl (by omega))
    obtain ⟨S3, k1, k2, k3⟩ := r_two (n := n) (S := S1) (idx := 7 * (i + 1) + j) (by omega) M0 L0 (fr := 7 * i + j) (by omega) (v := 0) (und := uA A c a b i j) (dm := dp min (uA A c a b) (uA A c b a) i j) (dx := dp max (uA A c a b) (uA A c b a) i j) (by rw [er 310 (Or.inl rfl), g2.1, if_pos rfl]) (by rw [er 311 (Or.inr rfl), g2.2, if_pos rfl]) (by rw [er 310 (Or.inl rfl), g2.1, if_neg (by omega)]; exact q1.2) (by rw [er 311 (Or.inr rfl), g2.2, if_neg (by omega)]; exact q1.1) hL0b (by omega) (fun h14 => b_X10_worst_214 k48 k62 h14 296 (nI c) (nI a) (nI b) 7 (nI (i + 1)) (nI j) (nI (7 * (i + 1) + j))) (nI (7 * (i + 1) + j) - 7) (by rw [show (7 : Int32) = nI 7 from rfl, pk_sub (by omega), show 7 * (i + 1) + j - 7 = 7 * i + j by omega])
    have ea : L0 = 1000000 := by rw [hL0, if_neg (by omega)]
    have eb : M0 = -1 := by rw [hM0, if_neg (by omega)]
    rw [if_neg (nI_nle (by omega) (by omega)), nI_pred, r_letterOf, bS, g1, bS]
    rw [k1]
    have g3 : at2 310 311 S S3 (7 * (i + 1) + j) (q_max M0 (nI (dp max (uA A c a b) (uA A c b a) i j + uA A c a b i j))) (nI (min L0 (dp min (uA A c a b) (uA A c b a) i j + uA A c a b i j))) := (g2.cg (er 310 (Or.inl rfl)) (er 311 (Or.inr rfl))).tr k2
    rw [eb, qm1 (by omega)] at g3
    refine fin g3 ((z2.tr g1q.wz).tr k3) (by omega) ?_ ?_
    · cases j with
      | zero => rw [if_pos rfl, dp_s0]
      | succ j =>
        have b4 := dpx_le h hc ha hb (i + 1) j
        have b5 := uA_le (f := b) h hc ha j (i + 1)
        rw [if_neg (by omega), dp_ss, Nat.add_sub_cancel, i_max (by omega) (by omega)]
    · cases j with
      | zero => rw [if_pos rfl, dp_s0]; omega
      | succ j =>
        have b4 := dpm_le h hc ha hb (i + 1) j
        have b5 := uA_le (f := b) h hc ha j (i + 1)
        rw [if_neg (by omega), dp_ss, Nat.add_sub_cancel]
        omega
end CELL2
end WR
