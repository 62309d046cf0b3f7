/-! THE REFERENCE'S LIST AND HOW IT GROWS TREES -/
abbrev aW : Type := (Nat → Nat) × (Nat → Nat → Nat) × (Nat → List Nat) × (Nat → Nat → Nat) × (Nat → List Nat)
abbrev wT (W : aW) : Nat → Nat := W.1
abbrev wH (W : aW) : Nat → Nat → Nat := W.2.1
abbrev wL (W : aW) : Nat → List Nat := W.2.2.1
abbrev wB (W : aW) : Nat → Nat → Nat := W.2.2.2.1
abbrev wY (W : aW) : Nat → List Nat := W.2.2.2.2
def eM (k q : Nat) : Int32 := match q with
  | 0 => nI (cT k)
  | 1 => nI (cC k)
  | 2 => nI (cF k)
  | 3 => nI (cP k)
  | _ => nI (cN k)
def eL (k q : Nat) : Int32 := match q with
  | 0 => nI (cT k)
  | 1 => if cF k = 0 then -1 else nI (cF k)
  | 2 => nI (cP k)
  | _ => nI (cN k)
def mmT (I : Nat → Int32) (o : Nat) (t : Nat → Nat) : Prop := ∀ c, c < 3 → I (o + c) = nI (t c)
def mmH (I : Nat → Int32) (o : Nat) (h : Nat → Nat → Nat) : Prop := ∀ c d, c < 3 → d < 3 → I (o + 3 + 3 * c + d) = nI (h c d)
def mmB (I : Nat → Int32) (o : Nat) (b : Nat → Nat → Nat) : Prop := ∀ c j q, c < 3 → j < 14 → q < 4 → I (o + 12 + 4 * (14 * c + j) + q) = eT (b c j) q
def mmL (I : Nat → Int32) (o : Nat) (l : Nat → List Nat) : Prop := ∀ c, c < 3 → (l c).length ≤ 20 ∧ I (o + 180 + c) = nI (l c).length ∧ ∀ i k q, (l c)[i]? = some k → q < 5 → I (o + 183 + 5 * (20 * c + i) + q) = eM k q
def mmY (I : Nat → Int32) (o : Nat) (y : Nat → List Nat) : Prop := ∀ w, w < 9 → (y w).length ≤ 6 ∧ I (o + 483 + w) = nI (y w).length ∧ ∀ j k q, (y w)[j]? = some k → q < 4 → I (o + 492 + 4 * (6 * w + j) + q) = eL k q
def RW (I : Nat → Int32) (o : Nat) (W : aW) : Prop := mmT I o (wT W) ∧ mmH I o (wH W) ∧ mmB I o (wB W) ∧ mmL I o (wL W) ∧ mmY I o (wY W)
theorem mmT.cg {I J : Nat → Int32} {o o' : Nat} {t : Nat → Nat} (h : mmT I o t) (e : ∀ j, j < 3 → J (o' + j) = I (o + j)) : mmT J o' t := fun c hc => by rw [e c hc]; exact h c hc
theorem mmH.cg {I J : Nat → Int32} {o o' : Nat} {t : Nat → Nat → Nat} (h : mmH I o t) (e : ∀ j, 3 ≤ j → j < 12 → J (o' + j) = I (o + j)) : mmH J o' t := fun c d hc hd => by
  have := e (3 + 3 * c + d) (by omega) (by omega)
  rw [show o' + 3 + 3 * c + d = o' + (3 + 3 * c + d) by omega, this, show o + (3 + 3 * c + d) = o + 3 + 3 * c + d by omega]
  exact h c d hc hd
theorem mmB.cg {I J : Nat → Int32} {o o' : Nat} {t : Nat → Nat → Nat} (h : mmB I o t) (e : ∀ j, 12 ≤ j → j < 180 → J (o' + j) = I (o + j)) : mmB J o' t := fun c j q hc hj hq => by
  have := e (12 + 4 * (14 * c + j) + q) (by omega) (by omega)
  rw [show o' + 12 + 4 * (14 * c + j) + q = o' + (12 + 4 * (14 * c + j) + q) by omega, this, show o + (12 + 4 * (14 * c + j) + q) = o + 12 + 4 * (14 * c + j) + q by omega]
  exact h c j q hc hj hq
theorem mmL.cg {I J : Nat → Int32} {o o' : Nat} {t : Nat → List Nat} (h : mmL I o t) (e : ∀ j, 180 ≤ j → j < 483 → J (o' + j) = I (o + j)) : mmL J o' t := fun c hc => by
  obtain ⟨h1, h2, h3⟩ := h c hc
  refine ⟨h1, ?_, fun i k q hk hq => ?_⟩
  · rw [show o' + 180 + c = o' + (180 + c) by omega, e (180 + c) (by omega) (by omega), show o + (180 + c) = o + 180 + c by omega]
    exact h2
  · have hi : i < (t c).length := (List.getElem?_eq_some_iff.mp hk).1
    rw [show o' + 183 + 5 * (20 * c + i) + q = o' + (183 + 5 * (20 * c + i) + q) by omega, e _ (by omega) (by omega), show o + (183 + 5 * (20 * c + i) + q) = o + 183 + 5 * (20 * c + i) + q by omega]
    exact h3 i k q hk hq
theorem mmY.cg {I J : Nat → Int32} {o o' : Nat} {t : Nat → List Nat} (h : mmY I o t) (e : ∀ j, 483 ≤ j → j < 708 → J (o' + j) = I (o + j)) : mmY J o' t := fun w hw => by
  obtain ⟨h1, h2, h3⟩ := h w hw
  refine ⟨h1, ?_, fun i k q hk hq => ?_⟩
  · rw [show o' + 483 + w = o' + (483 + w) by omega, e (483 + w) (by omega) (by omega), show o + (483 + w) = o + 483 + w by omega]
    exact h2
  · have hi : i < (t w).length := (List.getElem?_eq_some_iff.mp hk).1
    rw [show o' + 492 + 4 * (6 * w + i) + q = o' + (492 + 4 * (6 * w + i) + q) by omega, e _ (by omega) (by omega), show o + (492 + 4 * (6 * w + i) + q) = o + 492 + 4 * (6 * w + i) + q by omega]
    exact h3 i k q hk hq
theorem RW.cg {I J : Nat → Int32} {o o' : Nat} {W : aW} (h : RW I o W) (e : ∀ j, j < 708 → J (o' + j) = I (o + j)) : RW J o' W :=
  ⟨h.1.cg (fun j h1 => e j (by omega)), h.2.1.cg (fun j _ h1 => e j (by omega)), h.2.2.1.cg (fun j _ h1 => e j (by omega)), h.2.2.2.1.cg (fun j _ h1 => e j (by omega)), h.2.2.2.2.cg (fun j _ h1 => e j (by omega))⟩
def LL (S : o_S) (l : List Nat) : Prop := S.1 296 9 = nI l.length ∧ l.length ≤ 40 ∧ ∀ i k, l[i]? = some k → k < 2 ^ 31 ∧ ∀ q, q < 5 → S.2.1 300 (5 * i + q) = eM k q
def RQ (S S' : o_S) : Prop := AG (fun b => b = 296 ∨ b = 300) S S' ∧ ∀ k, k ≠ 9 → S'.1 296 k = S.1 296 k
def RG (s : Nat) (S S' : o_S) : Prop := AG (fun b => b = 301 ∨ b = 302) S S' ∧ ∀ j, (j < 56 * s ∨ 56 * s + 56 ≤ j) → S'.2.1 302 j = S.2.1 302 j
theorem RQ.rf {S : o_S} : RQ S S := ⟨AG.rf, fun _ _ => rfl⟩
theorem RQ.tr {S S1 S2 : o_S} (h : RQ S S1) (k : RQ S1 S2) : RQ S S2 := ⟨h.1.tr k.1 (fun _ q => q) (fun _ q => q), fun j hj => (k.2 j hj).trans (h.2 j hj)⟩
theorem RG.rf {s : Nat} {S : o_S} : RG s S S := ⟨AG.rf, fun _ _ => rfl⟩
theorem RG.tr {s : Nat} {S S1 S2 : o_S} (h : RG s S S1) (k : RG s S1 S2) : RG s S S2 := ⟨h.1.tr k.1 (fun _ q => q) (fun _ q => q), fun j hj => (k.2 j hj).trans (h.2 j hj)⟩
theorem RQ.m {S S' : o_S} (h : RQ S S') : S'.2.1 299 = S.2.1 299 := h.1.I (by omega)
theorem RQ.t {S S' : o_S} (h : RQ S S') : S'.2.1 302 = S.2.1 302 := h.1.I (by omega)
theorem RQ.v {S S' : o_S} (h : RQ S S') : S'.2.1 301 = S.2.1 301 := h.1.I (by omega)
theorem RG.m {s : Nat} {S S' : o_S} (h : RG s S S') : S'.2.1 299 = S.2.1 299 := h.1.I (by omega)
theorem RG.l {s : Nat} {S S' : o_S} (h : RG s S S') : S'.2.1 300 = S.2.1 300 := h.1.I (by omega)
theorem RG.f {s : Nat} {S S' : o_S} (h : RG s S S') : S'.1 296 = S.1 296 := h.1.f (by omega)
theorem LL.rg {s : Nat} {S S' : o_S} {l : List Nat} (h : LL S l) (k : RG s S S') : LL S' l := ⟨by rw [k.f]; exact h.1, h.2.1, by rw [k.l]; exact h.2.2⟩
theorem TT.rl {s : Nat} {S S' : o_S} {E : Nat → Nat} (h : TT S s E) (k : RQ S S') : TT S' s E := ⟨h.1, by rw [k.t]; exact h.2⟩
theorem TT.rg {s s' : Nat} {S S' : o_S} {E : Nat → Nat} (h : TT S s E) (k : RG s' S S') (hs : s ≠ s') : TT S' s E := ⟨h.1, fun j hj q hq => by rw [k.2 _ (by omega)]; exact h.2 j hj q hq⟩
theorem LL.mem {S : o_S} {l : List Nat} (h : LL S l) {k : Nat} (hk : k ∈ l) : k < 2 ^ 31 := by
  obtain ⟨j, hj⟩ := List.getElem?_of_mem hk
  exact (h.2.2 j k hj).1
section RLi
variable {S : o_S} {n : Nat × Nat × Nat} {l : List Nat} {W : aW}
theorem r_moveOf (h : q_H) (c i : Nat) : f_X10_moveOf h (nI c) (nI i) = some (h, nI (183 + 5 * (20 * c + i))) := by
  unfold f_X10_moveOf b_X10_moveOf_0
  simp only [j2, j3, j4, j5, j6, j7, j8, j9, j10, j12, j14, j20, j40, j48, j49, j56, j80, j96, j180, j183, j483, j492, j708, j2401, j1000000, nI_1, nI_add, pk_mul, i_le, i_lt, i_eq, i_lt0, i_0le, i_le0, i_eq0, i_0lt, i_eq1, i_eqm1, i_sub1, i_addm1, pk_sub, i_add0, b2i_eq0, b2i_1, i_bit, if_true, if_false]
theorem r_moveOf0 (h : q_H) (c : Nat) : f_X10_moveOf h (nI c) 0 = some (h, nI (183 + 5 * (20 * c))) := r_moveOf h c 0
theorem r_baseOf (h : q_H) (c i : Nat) : f_X10_baseOf h (nI c) (nI i) = some (h, nI (12 + 4 * (14 * c + i))) := by
  unfold f_X10_baseOf b_X10_baseOf_0
  simp only [j2, j3, j4, j5, j6, j7, j8, j9, j10, j12, j14, j20, j40, j48, j49, j56, j80, j96, j180, j183, j483, j492, j708, j2401, j1000000, nI_1, nI_add, pk_mul, i_le, i_lt, i_eq, i_lt0, i_0le, i_le0, i_eq0, i_0lt, i_eq1, i_eqm1, i_sub1, i_addm1, pk_sub, i_add0, b2i_eq0, b2i_1, i_bit, if_true, if_false]
theorem r_baseOf0 (h : q_H) (c : Nat) : f_X10_baseOf h (nI c) 0 = some (h, nI (12 + 4 * (14 * c))) := r_baseOf h c 0
theorem r_loads {c : Nat} (hc : c < 3) (hl : S.2.1 299 (180 + c) = nI l.length) (hl20 : l.length ≤ 20) (hm : ∀ i k q, l[i]? = some k → q < 5 → S.2.1 299 (183 + 5 * (20 * c + i) + q) = eM k q) (hb : ∀ k ∈ l, k < 2 ^ 31) : ∃ S', f_X10_loads (ov S n) 296 (nI c) = some (ov S' n, ()) ∧ LL S' l ∧ RQ S S' := by
  refine ⟨o_sI (o_sf S 296 9 (nI l.length)) 300 (va_cpy (S.2.1 299) (S.2.1 300) (183 + 5 * (20 * c)) 0 (5 * l.length)), ?_, ⟨?_, by omega, fun i k hk => ⟨hb k (List.mem_of_getElem? hk), fun q hq => ?_⟩⟩, ?_, ?_⟩
  · unfold f_X10_loads b_X10_loads_0
    simp (disch := omega) only [j2, j3, j4, j5, j6, j7, j8, j9, j10, j12, j14, j20, j40, j48, j49, j56, j80, j96, j180, j183, j483, j492, j708, j2401, j1000000, nI_1, nI_add, pk_mul, i_le, i_lt, i_eq, i_lt0, i_0le, i_le0, i_eq0, i_0lt, i_eq1, i_eqm1, i_sub1, i_addm1, pk_sub, i_add0, b2i_eq0, b2i_1, i_bit, if_true, if_false, rR2, rR3, rR7, rR8, rR10, rR11, rR15, rR16, rR17, rR18, rR19, rR20, rR21, rR22, rR23, rR25, rI0, rI1, rI4, rI5, rI6, rI9, rI12, rI13, rI14, rI24, rP0, rP1, rP4, rP5, rP6, rP9, rP12, rP13, rP14, rP24, r_chk, bS, r_mem, r_memS, r_lst, r_lstS, r_tre, r_treS, r_voi, r_voiS, hl]
    have := fw_loop (fun fuel (S' : o_S) j => l_X10_loads_16 fuel (ov S' n) 296 (nI c) (nI j)) (fun k S => o_sI S 300 (upd (S.2.1 300) (0 + k) (S.2.1 299 (183 + 5 * (20 * c) + k)))) (fun S => (ov S n, ())) (fun S' => S'.1 296 9 = nI l.length) 0 (5 * l.length) (fun fuel S' hS => by
      show b_X10_loads_16 _ _ _ _ _ = _
      unfold b_X10_loads_16
      simp (disch := omega) only [j2, j3, j4, j5, j6, j7, j8, j9, j10, j12, j14, j20, j40, j48, j49, j56, j80, j96, j180, j183, j483, j492, j708, j2401, j1000000, nI_1, nI_add, pk_mul, i_le, i_lt, i_eq, i_lt0, i_0le, i_le0, i_eq0, i_0lt, i_eq1, i_eqm1, i_sub1, i_addm1, pk_sub, i_add0, b2i_eq0, b2i_1, i_bit, if_true, if_false, rR2, rR3, rR7, rR8, rR10, rR11, rR15, rR16, rR17, rR18, rR19, rR20, rR21, rR22, rR23, rR25, rI0, rI1, rI4, rI5, rI6, rI9, rI12, rI13, rI14, rI24, rP0, rP1, rP4, rP5, rP6, rP9, rP12, rP13, rP14, rP24, r_chk, bS, r_mem, r_memS, r_lst, r_lstS, r_tre, r_treS, r_voi, r_voiS, hS, if_pos]) (fun fuel S' j hS _ h2 => ⟨hS, by
      show b_X10_loads_16 _ _ _ _ _ = _
      unfold b_X10_loads_16
      simp (disch := omega) only [j2, j3, j4, j5, j6, j7, j8, j9, j10, j12, j14, j20, j40, j48, j49, j56, j80, j96, j180, j183, j483, j492, j708, j2401, j1000000, nI_1, nI_add, pk_mul, i_le, i_lt, i_eq, i_lt0, i_0le, i_le0, i_eq0, i_0lt, i_eq1, i_eqm1, i_sub1, i_addm1, pk_sub, i_add0, b2i_eq0, b2i_1, i_bit, if_true, if_false, rR2, rR3, rR7, rR8, rR10, rR11, rR15, rR16, rR17, rR18, rR19, rR20, rR21, rR22, rR23, rR25, rI0, rI1, rI4, rI5, rI6, rI9, rI12, rI13, rI14, rI24, rP0, rP1, rP4, rP5, rP6, rP9, rP12, rP13, rP14, rP24, r_chk, bS, r_mem, r_memS, r_lst, r_lstS, r_tre, r_treS, r_voi, r_voiS, hS, r_moveOf0, if_neg, idS, Nat.zero_add]⟩) (5 * l.length) 0 q_FU (o_sf S 296 9 (nI l.length)) (by rw [s_F, if_pos rfl, pk_us]) (by omega) (by omega) (q_FU_lt (by omega))
    rw [cp_fw 299 300 (183 + 5 * (20 * c)) 0 _ _ _ (by omega)] at this
    exact this
  · rw [s_I1, s_F, if_pos rfl, pk_us]
  · have hi : i < l.length := (List.getElem?_eq_some_iff.mp hk).1
    rw [s_I, if_pos rfl, pk_cpy_in (by omega) (by omega), ← hm i k q hk hq, show 183 + 5 * (20 * c) + (5 * i + q - 0) = 183 + 5 * (20 * c + i) + q by omega]
  · exact (AG_sf _ _ _ _).tr (AG_sI _ _ _) (fun _ q => Or.inl q) (fun _ q => Or.inr q)
  · intro k hk
    rw [s_I1, s_F, if_pos rfl, pk_un hk]
theorem r_loadsW {c : Nat} (hc : c < 3) (h : RW (S.2.1 299) 0 W) (hb : ∀ k ∈ wL W c, k < 2 ^ 31) : ∃ S', f_X10_loads (ov S n) 296 (nI c) = some (ov S' n, ()) ∧ LL S' (wL W c) ∧ RQ S S' := by
  obtain ⟨h1, h2, h3⟩ := h.2.2.2.1 c hc
  exact r_loads hc (by rw [Nat.zero_add] at h2; exact h2) h1 (fun i k q hk hq => by have := h3 i k q hk hq; rw [Nat.zero_add] at this; exact this) hb
theorem r_greL (h : LL S l) {k : Nat} (hk : k < 2 ^ 31) : ∀ d i r fuel, i + d = l.length → d < fuel → l_X10_greater_5 fuel (ov S n) 296 (nI (cT k)) (nI (cC k)) (nI r) (nI i) = some (ov S n, nI (r + (l.drop i).countP (mLs k))) := by
  have hl := h.2.1
  intro d
  induction d with
  | zero =>
    intro i r fuel hi hf
    obtain ⟨f, rfl⟩ : ∃ f, fuel = f + 1 := ⟨fuel - 1, by omega⟩
    show b_X10_greater_5 _ _ _ _ _ _ _ = _
    unfold b_X10_greater_5
    simp (disch := omega) only [j2, j3, j4, j5, j6, j7, j8, j9, j10, j12, j14, j20, j40, j48, j49, j56, j80, j96, j180, j183, j483, j492, j708, j2401, j1000000, nI_1, nI_add, pk_mul, i_le, i_lt, i_eq, i_lt0, i_0le, i_le0, i_eq0, i_0lt, i_eq1, i_eqm1, i_sub1, i_addm1, pk_sub, i_add0, b2i_eq0, b2i_1, i_bit, if_true, if_false, rR2, rR3, rR7, rR8, rR10, rR11, rR15, rR16, rR17, rR18, rR19, rR20, rR21, rR22, rR23, rR25, rI0, rI1, rI4, rI5, rI6, rI9, rI12, rI13, rI14, rI24, rP0, rP1, rP4, rP5, rP6, rP9, rP12, rP13, rP14, rP24, r_chk, bS, r_mem, r_memS, r_lst, r_lstS, r_tre, r_treS, r_voi, r_voiS, h.1, if_pos]
    rw [List.drop_eq_nil_of_le (by omega)]
    rfl
  | succ d ih =>
    intro i r fuel hi hf
    obtain ⟨f, rfl⟩ : ∃ f, fuel = f + 1 := ⟨fuel - 1, by omega⟩
    have hx : l[i]? = some l[i] := List.getElem?_eq_getElem (by omega)
    obtain ⟨hxb, hxe⟩ := h.2.2 i _ hx
    have e0 : S.2.1 300 (5 * i) = nI (cT l[i]) := hxe 0 (by omega)
    have e1 : S.2.1 300 (5 * i + 1) = nI (cC l[i]) := hxe 1 (by omega)
    show b_X10_greater_5 _ _ _ _ _ _ _ = _
    unfold b_X10_greater_5
    simp (disch := omega) only [j2, j3, j4, j5, j6, j7, j8, j9, j10, j12, j14, j20, j40, j48, j49, j56, j80, j96, j180, j183, j483, j492, j708, j2401, j1000000, nI_1, nI_add, pk_mul, i_le, i_lt, i_eq, i_lt0, i_0le, i_le0, i_eq0, i_0lt, i_eq1, i_eqm1, i_sub1, i_addm1, pk_sub, i_add0, b2i_eq0, b2i_1, i_bit, if_true, if_false, rR2, rR3, rR7, rR8, rR10, rR11, rR15, rR16, rR17, rR18, rR19, rR20, rR21, rR22, rR23, rR25, rI0, rI1, rI4, rI5, rI6, rI9, rI12, rI13, rI14, rI24, rP0, rP1, rP4, rP5, rP6, rP9, rP12, rP13, rP14, rP24, r_chk, bS, r_mem, r_memS, r_lst, r_lstS, r_tre, r_treS, r_voi, r_voiS, h.1, if_neg, e0, e1, r_isLess (ov S n) hk hxb, r_flag, b2i_add]
    rw [List.drop_eq_getElem_cons (by omega), List.countP_cons, ih (i + 1) _ f (by omega) (by omega)]
    by_cases e : mLs k l[i] = true
    · simp only [e, if_true]
      rw [show r + 1 + List.countP (mLs k) (List.drop (i + 1) l) = r + (List.countP (mLs k) (List.drop (i + 1) l) + 1) by omega]
    · simp only [e, if_false, Nat.add_zero, Bool.false_eq_true]
theorem r_greater (h : LL S l) {k : Nat} (hk : k < 2 ^ 31) : f_X10_greater (ov S n) 296 (nI (cT k)) (nI (cC k)) = some (ov S n, nI (l.countP (mLs k))) := by
  have hl := h.2.1
  unfold f_X10_greater b_X10_greater_0
  rw [r_chk]
  have := r_greL (n := n) h hk l.length 0 0 q_FU (by omega) (q_FU_lt (by omega))
  rw [List.drop_zero, Nat.zero_add] at this
  exact this
/-- put in at a place -/
def mAt (k i : Nat) (l : List Nat) : List Nat := l.take i ++ k :: l.drop i
theorem i_lem1 {a : Nat} (h : a < 2 ^ 31) : (nI a - 1 < nI a) = True := by
  apply eq_true
  cases a with
  | zero => decide
  | succ a => rw [nI_pred]; exact nI_lt (by omega) h
theorem i_m1s (x : Int32) : x + (-1) = x - 1 := by
  rw [Int32.sub_eq_add_neg]
def pFin (S : o_S) (i : Nat) (a b c d e : Int32) : o_S := o_sf (o_sI S 300 (upd (upd (upd (upd (upd (S.2.1 300) (5 * i) a) (5 * i + 1) b) (5 * i + 2) c) (5 * i + 3) d) (5 * i + 4) e)) 296 9 (S.1 296 9 + 1)
theorem r_putL {i : Nat} (a b c d e : Int32) (hi : i < 40) : ∀ m fuel S, 5 * i + m + 5 ≤ 200 → m < fuel → l_X10_puts_23 fuel (ov S n) 296 a b c d e (nI i) (nI (5 * i + m) - 1) = some (ov (pFin (o_sI S 300 (va_cpy (S.2.1 300) (S.2.1 300) (5 * i) (5 * i + 5) m)) i a b c d e) n, ()) := by
  intro m
  induction m with
  | zero =>
    intro fuel S hm hf
    obtain ⟨f, rfl⟩ : ∃ f, fuel = f + 1 := ⟨fuel - 1, by omega⟩
    show b_X10_puts_23 _ _ _ _ _ _ _ _ _ _ = _
    unfold b_X10_puts_23
    rw [s_same S 300 _ (fun j => pk_cpy_out (by omega))]
    have z : (5 : Int32) * nI i = nI (5 * i) := by rw [j5, pk_mul]
    simp only [z, Nat.add_zero, i_lem1 (show 5 * i < 2 ^ 31 by omega), if_true]
    simp (disch := omega) only [j2, j3, j4, j5, j6, j7, j8, j9, j10, j12, j14, j20, j40, j48, j49, j56, j80, j96, j180, j183, j483, j492, j708, j2401, j1000000, nI_1, nI_add, pk_mul, i_le, i_lt, i_eq, i_lt0, i_0le, i_le0, i_eq0, i_0lt, i_eq1, i_eqm1, i_sub1, i_addm1, pk_sub, i_add0, b2i_eq0, b2i_1, i_bit, if_true, if_false, rR2, rR3, rR7, rR8, rR10, rR11, rR15, rR16, rR17, rR18, rR19, rR20, rR21, rR22, rR23, rR25, rI0, rI1, rI4, rI5, rI6, rI9, rI12, rI13, rI14, rI24, rP0, rP1, rP4, rP5, rP6, rP9, rP12, rP13, rP14, rP24, r_chk, bS, r_mem, r_memS, r_lst, r_lstS, r_tre, r_treS, r_voi, r_voiS, idS, s_twice, s_I, s_I1]
    rfl
  | succ m ih =>
    intro fuel S hm hf
    obtain ⟨f, rfl⟩ : ∃ f, fuel = f + 1 := ⟨fuel - 1, by omega⟩
    show b_X10_puts_23 _ _ _ _ _ _ _ _ _ _ = _
    unfold b_X10_puts_23
    have z : nI (5 * i + (m + 1)) - 1 = nI (5 * i + m) := nI_pred (5 * i + m)
    rw [z]
    simp (disch := omega) only [j5, pk_mul, i_lt, if_neg, nI_add, rR2, rR3, rR7, rR8, rR10, rR11, rR15, rR16, rR17, rR18, rR19, rR20, rR21, rR22, rR23, rR25, rI0, rI1, rI4, rI5, rI6, rI9, rI12, rI13, rI14, rI24, rP0, rP1, rP4, rP5, rP6, rP9, rP12, rP13, rP14, rP24, r_chk, bS, r_mem, r_memS, r_lst, r_lstS, r_tre, r_treS, r_voi, r_voiS, idS, i_m1s]
    rw [ih f _ (by omega) (by omega), s_twice, s_I, if_pos rfl]
    refine congrArg (fun z => some (ov (pFin (o_sI S 300 z) i a b c d e) n, ())) (funext fun j => ?_)
    by_cases h1 : j = 5 * i + m + 5
    · subst h1
      rw [pk_cpy_out (by omega), pk_cpy_in (by omega) (by omega), pk_us, show 5 * i + (5 * i + m + 5 - (5 * i + 5)) = 5 * i + m by omega]
    · by_cases h2 : 5 * i + 5 ≤ j ∧ j < 5 * i + 5 + m
      · rw [pk_cpy_in h2.1 h2.2, pk_cpy_in (by omega) (by omega), pk_un (by omega)]
      · rw [pk_cpy_out (by omega), pk_cpy_out (by omega), pk_un h1]
theorem r_puts (h : LL S l) {k : Nat} (hk : k < 2 ^ 31) (hl : l.length < 40) : ∃ S', f_X10_puts (ov S n) 296 (nI (cT k)) (nI (cC k)) (nI (cF k)) (nI (cP k)) (nI (cN k)) = some (ov S' n, ()) ∧ LL S' (mAt k (l.length - l.countP (mLs k)) l) ∧ RQ S S' := by
  have hc : l.countP (mLs k) ≤ l.length := List.countP_le_length
  generalize hi : l.length - l.countP (mLs k) = i
  have hil : i ≤ l.length := by omega
  refine ⟨pFin (o_sI S 300 (va_cpy (S.2.1 300) (S.2.1 300) (5 * i) (5 * i + 5) (5 * l.length - 5 * i))) i (nI (cT k)) (nI (cC k)) (nI (cF k)) (nI (cP k)) (nI (cN k)), ?_, ?_, ?_⟩
  · unfold f_X10_puts b_X10_puts_0
    simp only [rR2, rR3, rR7, rR8, rR10, rR11, rR15, rR16, rR17, rR18, rR19, rR20, rR21, rR22, rR23, rR25, rI0, rI1, rI4, rI5, rI6, rI9, rI12, rI13, rI14, rI24, rP0, rP1, rP4, rP5, rP6, rP9, rP12, rP13, rP14, rP24, r_chk, bS, r_mem, r_memS, r_lst, r_lstS, r_tre, r_treS, r_voi, r_voiS, h.1, r_greater h hk, pk_sub hc, hi, j5, pk_mul]
    have := r_putL (n := n) (i := i) (nI (cT k)) (nI (cC k)) (nI (cF k)) (nI (cP k)) (nI (cN k)) (by omega) (5 * l.length - 5 * i) q_FU S (by omega) (q_FU_lt (by omega))
    rw [show 5 * i + (5 * l.length - 5 * i) = 5 * l.length by omega] at this
    exact this
  · have hlen : (mAt k i l).length = l.length + 1 := by simp [mAt]; omega
    refine ⟨?_, by omega, fun j x hx => ?_⟩
    · unfold pFin
      rw [s_F, if_pos rfl, pk_us, s_I1, h.1, nI_1, hlen]
    · have hlt : (l.take i).length = i := by simp; omega
      have hS : ∀ p, (pFin (o_sI S 300 (va_cpy (S.2.1 300) (S.2.1 300) (5 * i) (5 * i + 5) (5 * l.length - 5 * i))) i (nI (cT k)) (nI (cC k)) (nI (cF k)) (nI (cP k)) (nI (cN k))).2.1 300 p = if 5 * i ≤ p ∧ p < 5 * i + 5 then eM k (p - 5 * i) else va_cpy (S.2.1 300) (S.2.1 300) (5 * i) (5 * i + 5) (5 * l.length - 5 * i) p := by
        intro p
        show upd (upd (upd (upd (upd (va_cpy (S.2.1 300) (S.2.1 300) (5 * i) (5 * i + 5) (5 * l.length - 5 * i)) (5 * i) _) (5 * i + 1) _) (5 * i + 2) _) (5 * i + 3) _) (5 * i + 4) _ p = _
        by_cases hp : 5 * i ≤ p ∧ p < 5 * i + 5
        · rw [if_pos hp]
          obtain ⟨r, hr⟩ : ∃ r, p = 5 * i + r := ⟨p - 5 * i, by omega⟩
          subst hr
          rw [show 5 * i + r - 5 * i = r by omega]
          match r, hp with
          | 0, _ => rw [pk_un (by omega), pk_un (by omega), pk_un (by omega), pk_un (by omega)]; exact pk_us
          | 1, _ => rw [pk_un (by omega), pk_un (by omega), pk_un (by omega)]; exact pk_us
          | 2, _ => rw [pk_un (by omega), pk_un (by omega)]; exact pk_us
          | 3, _ => rw [pk_un (by omega)]; exact pk_us
          | 4, _ => exact pk_us
          | m + 5, hp => exact absurd hp (by omega)
        · rw [if_neg hp, pk_un (by omega), pk_un (by omega), pk_un (by omega), pk_un (by omega), pk_un (by omega)]
      have hj : j < l.length + 1 := by rw [← hlen]; exact (List.getElem?_eq_some_iff.mp hx).1
      unfold mAt at hx
      by_cases e1 : j < i
      · rw [List.getElem?_append_left (by omega), List.getElem?_take_of_lt e1] at hx
        refine ⟨(h.2.2 j x hx).1, fun q hq => ?_⟩
        rw [hS, if_neg (by omega), pk_cpy_out (by omega)]
        exact (h.2.2 j x hx).2 q hq
      · rw [List.getElem?_append_right (by omega), hlt] at hx
        by_cases e2 : j = i
        · subst e2
          rw [Nat.sub_self, List.getElem?_cons_zero] at hx
          cases hx
          refine ⟨hk, fun q hq => ?_⟩
          rw [hS, if_pos (by omega), show 5 * j + q - 5 * j = q by omega]
        · obtain ⟨m, rfl⟩ : ∃ m, j = i + (m + 1) := ⟨j - i - 1, by omega⟩
          rw [show i + (m + 1) - i = m + 1 by omega, List.getElem?_cons_succ, List.getElem?_drop] at hx
          have hm := h.2.2 _ x hx
          refine ⟨hm.1, fun q hq => ?_⟩
          rw [hS, if_neg (by omega), pk_cpy_in (by omega) (by omega), ← hm.2 q hq, show 5 * i + (5 * (i + (m + 1)) + q - (5 * i + 5)) = 5 * (i + m) + q by omega]
  · refine ⟨?_, fun j hj => ?_⟩
    · exact ((AG_sI _ _ _).tr ((AG_sI _ _ _).tr (AG_sf _ _ _ _) (C := fun b => b = 296 ∨ b = 300) (fun _ q => Or.inr q) (fun _ q => Or.inl q)) (fun _ q => Or.inr q) (fun _ q => q))
    · unfold pFin
      rw [s_F, if_pos rfl, pk_un hj]
      rfl
/-- which are void, one behind another -/
def mVl (w : Nat) : List Nat → Nat → (Nat → Nat) → List Bool
  | [], _, _ => []
  | k :: l, i, E => (decide (i ≠ w) && !mOk E k) :: mVl w l (i + 1) (if i = w then E else mDo E k)
theorem TT.cp {c s : Nat} {S S' : o_S} (hs : s < 104) {E : Nat → Nat} (hm : ∀ j q, j < 14 → q < 4 → S.2.1 299 (12 + 4 * (14 * c + j) + q) = eT (E j) q) (hS : S'.2.1 302 = va_cpy (S.2.1 299) (S.2.1 302) (12 + 4 * (14 * c)) (56 * s) 56) : TT S' s E := by
  refine ⟨hs, fun j hj q hq => ?_⟩
  rw [hS, pk_cpy_in (by omega) (by omega), ← hm j q hj hq, show 12 + 4 * (14 * c) + (4 * (14 * s + j) + q - 56 * s) = 12 + 4 * (14 * c + j) + q by omega]
theorem r_groL {s : Nat} (hok : ∀ k ∈ l, okM k) {bi : Int32} {w : Nat} (hw : ∀ i, i < 1000 → (nI i = bi) = (i = w)) : ∀ d i fuel (S : o_S) (E : Nat → Nat), i + d = l.length → d < fuel → LL S l → TT S s E → TI E →
    ∃ S', l_X10_grows_44 fuel (ov S n) 296 (nI s) bi (nI i) = some (ov S' n, ()) ∧ TT S' s (mBld w (l.drop i) i E) ∧ (∀ j b, (mVl w (l.drop i) i E)[j]? = some b → S'.2.1 301 (i + j) = b2i b) ∧ (∀ j, j < i → S'.2.1 301 j = S.2.1 301 j) ∧ RG s S S' := by
  intro d
  induction d with
  | zero =>
    intro i fuel S E hi hf hl ht ti
    obtain ⟨f, rfl⟩ : ∃ f, fuel = f + 1 := ⟨fuel - 1, by omega⟩
    have hl40 := hl.2.1
    rw [show l.drop i = [] from List.drop_eq_nil_of_le (by omega)]
    refine ⟨S, ?_, ht, fun j b hb => by simp [mVl] at hb, fun _ _ => rfl, RG.rf⟩
    show b_X10_grows_44 _ _ _ _ _ _ = _
    unfold b_X10_grows_44
    simp (disch := omega) only [j2, j3, j4, j5, j6, j7, j8, j9, j10, j12, j14, j20, j40, j48, j49, j56, j80, j96, j180, j183, j483, j492, j708, j2401, j1000000, nI_1, nI_add, pk_mul, i_le, i_lt, i_eq, i_lt0, i_0le, i_le0, i_eq0, i_0lt, i_eq1, i_eqm1, i_sub1, i_addm1, pk_sub, i_add0, b2i_eq0, b2i_1, i_bit, if_true, if_false, rR2, rR3, rR7, rR8, rR10, rR11, rR15, rR16, rR17, rR18, rR19, rR20, rR21, rR22, rR23, rR25, rI0, rI1, rI4, rI5, rI6, rI9, rI12, rI13, rI14, rI24, rP0, rP1, rP4, rP5, rP6, rP9, rP12, rP13, rP14, rP24, r_chk, bS, r_mem, r_memS, r_lst, r_lstS, r_tre, r_treS, r_voi, r_voiS, hl.1, if_pos]
  | succ d ih =>
    intro i fuel S E hi hf hl ht ti
    obtain ⟨f, rfl⟩ : ∃ f, fuel = f + 1 := ⟨fuel - 1, by omega⟩
    have hl40 := hl.2.1
    have hs := ht.1
    have hx : l[i]? = some l[i] := List.getElem?_eq_getElem (by omega)
    generalize hk : l[i] = k at hx
    obtain ⟨hxb, hxe⟩ := hl.2.2 i _ hx
    have hko := hok k (List.mem_of_getElem? hx)
    obtain ⟨-, o2, o3, o4, o5, o6⟩ := hko
    have e0 : S.2.1 300 (5 * i) = nI (cT k) := hxe 0 (by omega)
    have e1 : S.2.1 300 (5 * i + 1) = nI (cC k) := hxe 1 (by omega)
    have e2 : S.2.1 300 (5 * i + 2) = nI (cF k) := hxe 2 (by omega)
    have e3 : S.2.1 300 (5 * i + 3) = nI (cP k) := hxe 3 (by omega)
    have e4 : S.2.1 300 (5 * i + 4) = nI (cN k) := hxe 4 (by omega)
    have edr : l.drop i = k :: l.drop (i + 1) := by rw [← hk]; exact List.drop_eq_getElem_cons (by omega)
    rw [edr]
    have hrg : ∀ v, RG s S (o_sI S 301 (upd (S.2.1 301) i v)) := fun v => ⟨(AG_sI _ _ _).mono (fun _ q => Or.inl q), fun _ _ => rfl⟩
    have fin : ∀ (x : Bool) (E' : Nat → Nat) (S1 : o_S), x = (decide (i ≠ w) && !mOk E k) → E' = (if i = w then E else mDo E k) → S1.2.1 301 = upd (S.2.1 301) i (b2i x) → RG s S S1 → TT S1 s E' → TI E' → ∃ S', l_X10_grows_44 f (ov S1 n) 296 (nI s) bi (nI (i + 1)) = some (ov S' n, ()) ∧ TT S' s (mBld w (k :: l.drop (i + 1)) i E) ∧ (∀ j b, (mVl w (k :: l.drop (i + 1)) i E)[j]? = some b → S'.2.1 301 (i + j) = b2i b) ∧ (∀ j, j < i → S'.2.1 301 j = S.2.1 301 j) ∧ RG s S S' := by
      intro x E' S1 hx1 hE hv hr ht1 ti1
      obtain ⟨S', g1, g2, g3, g4, g5⟩ := ih (i + 1) f S1 E' (by omega) (by omega) (hl.rg hr) ht1 ti1
      subst hE
      refine ⟨S', g1, g2, fun j b hb => ?_, fun j hj => ?_, hr.tr g5⟩
      · cases j with
        | zero =>
          have : x = b := by simpa [mVl, hx1] using hb
          rw [Nat.add_zero, g4 i (by omega), hv, pk_us, this]
        | succ j =>
          rw [show i + (j + 1) = i + 1 + j by omega]
          exact g3 j b (by simpa [mVl] using hb)
      · rw [g4 j (by omega), hv, pk_un (by omega)]
    by_cases ew : i = w
    · obtain ⟨S', g1, g2⟩ := fin false E (o_sI S 301 (upd (S.2.1 301) i 0)) (by simp [ew]) (by simp [ew]) (by rw [s_I, if_pos rfl]; rfl) (hrg 0) ⟨hs, ht.2⟩ ti
      refine ⟨S', ?_, g2⟩
      show b_X10_grows_44 _ _ _ _ _ _ = _
      unfold b_X10_grows_44 b_X10_grows_103 b_X10_grows_104 b_X10_grows_211
      have hw1 : (nI i = bi) = True := by rw [hw i (by omega)]; exact eq_true ew
      simp (maxSteps := 5000000) (disch := omega) only [hw1, j2, j3, j4, j5, j6, j7, j8, j9, j10, j12, j14, j20, j40, j48, j49, j56, j80, j96, j180, j183, j483, j492, j708, j2401, j1000000, nI_1, nI_add, pk_mul, i_le, i_lt, i_eq, i_lt0, i_0le, i_le0, i_eq0, i_0lt, i_eq1, i_eqm1, i_sub1, i_addm1, pk_sub, i_add0, b2i_eq0, b2i_1, i_bit, if_true, if_false, rR2, rR3, rR7, rR8, rR10, rR11, rR15, rR16, rR17, rR18, rR19, rR20, rR21, rR22, rR23, rR25, rI0, rI1, rI4, rI5, rI6, rI9, rI12, rI13, rI14, rI24, rP0, rP1, rP4, rP5, rP6, rP9, rP12, rP13, rP14, rP24, r_chk, bS, r_mem, r_memS, r_lst, r_lstS, r_tre, r_treS, r_voi, r_voiS, hl.1, if_neg, e2, nar_0]
      exact g1
    · by_cases eo : mOk E k = true
      · obtain ⟨S', g1, g2⟩ := fin false (mDo E k) (o_sI (o_sI S 301 (upd (S.2.1 301) i 0)) 302 (upd (upd (upd (upd (S.2.1 302) (4 * (14 * s + cF k)) (nI (cP k))) (4 * (14 * s + cF k) + 1) (nI (cN k))) (4 * (14 * s + cF k) + 2) (nI (cT k))) (4 * (14 * s + cF k) + 3) (nI (cC k)))) (by simp [ew, eo]) (by simp [ew]) (by rfl)
          ⟨(AG_sI _ _ _).tr (AG_sI _ _ _) (fun _ q => Or.inl q) (fun _ q => Or.inr q), fun j hj => by
            rw [s_I, if_pos rfl, pk_un (by omega), pk_un (by omega), pk_un (by omega), pk_un (by omega)]⟩
          ⟨hs, fun j hj q hq => by
            rw [s_I, if_pos rfl]
            have hd : mDo E k j = if j = cF k then k else E j := by simp only [mDo, eo, if_true, mSet]
            rw [hd]
            by_cases ej : j = cF k
            · rw [if_pos ej, ej]
              have k0 : k ≠ 0 := by
                intro e
                rw [e] at o2
                exact absurd o2 (by decide)
              match q, hq with
              | 0, _ => rw [pk_un (by omega), pk_un (by omega), pk_un (by omega)]; exact (pk_us (f := S.2.1 302) (k := 4 * (14 * s + cF k))).trans (eT_0n k0).symm
              | 1, _ => rw [pk_un (by omega), pk_un (by omega), pk_us]; rfl
              | 2, _ => rw [pk_un (by omega), pk_us]; rfl
              | 3, _ => rw [pk_us]; rfl
              | m + 4, hq => exact absurd hq (by omega)
            · rw [if_neg ej, pk_un (by omega), pk_un (by omega), pk_un (by omega), pk_un (by omega)]
              exact ht.2 j hj q hq⟩ (ti.step (hok k (List.mem_of_getElem? hx)))
        refine ⟨S', ?_, g2⟩
        show b_X10_grows_44 _ _ _ _ _ _ = _
        unfold b_X10_grows_44 b_X10_grows_103 b_X10_grows_104 b_X10_grows_211
        have hw1 : (nI i = bi) = False := by rw [hw i (by omega)]; exact eq_false ew
        have eo' : mGo E (cF k) 14 (cP k) = true := eo
        simp (maxSteps := 5000000) (disch := omega) only [hw1, j2, j3, j4, j5, j6, j7, j8, j9, j10, j12, j14, j20, j40, j48, j49, j56, j80, j96, j180, j183, j483, j492, j708, j2401, j1000000, nI_1, nI_add, pk_mul, i_le, i_lt, i_eq, i_lt0, i_0le, i_le0, i_eq0, i_0lt, i_eq1, i_eqm1, i_sub1, i_addm1, pk_sub, i_add0, b2i_eq0, b2i_1, i_bit, if_true, if_false, rR2, rR3, rR7, rR8, rR10, rR11, rR15, rR16, rR17, rR18, rR19, rR20, rR21, rR22, rR23, rR25, rI0, rI1, rI4, rI5, rI6, rI9, rI12, rI13, rI14, rI24, rP0, rP1, rP4, rP5, rP6, rP9, rP12, rP13, rP14, rP24, r_chk, bS, r_mem, r_memS, r_lst, r_lstS, r_tre, r_treS, r_voi, r_voiS, hl.1, if_neg, e0, e1, e2, e3, e4, nar_0, r_canGo ht ti o2 o3 o4, eo', Bool.true_eq_false, s_I, Nat.reduceEqDiff, pk_us, idS, s_twice, s_I1]
        exact g1
      · have eo1 : mOk E k = false := by simpa using eo
        obtain ⟨S', g1, g2⟩ := fin true (mDo E k) (o_sI S 301 (upd (S.2.1 301) i 1)) (by simp [ew, eo1]) (by simp [ew]) (by rw [s_I, if_pos rfl]; rfl) (hrg 1) (by
          have : mDo E k = E := by simp [mDo, eo1]
          rw [this]
          exact ⟨hs, ht.2⟩) (ti.step (hok k (List.mem_of_getElem? hx)))
        refine ⟨S', ?_, g2⟩
        show b_X10_grows_44 _ _ _ _ _ _ = _
        unfold b_X10_grows_44 b_X10_grows_103 b_X10_grows_104 b_X10_grows_211
        have hw1 : (nI i = bi) = False := by rw [hw i (by omega)]; exact eq_false ew
        have eo' : mGo E (cF k) 14 (cP k) = false := eo1
        have z1 : ¬ (1 : Int32) = 0 := by decide
        simp (maxSteps := 5000000) (disch := omega) only [hw1, j2, j3, j4, j5, j6, j7, j8, j9, j10, j12, j14, j20, j40, j48, j49, j56, j80, j96, j180, j183, j483, j492, j708, j2401, j1000000, nI_1, nI_add, pk_mul, i_le, i_lt, i_eq, i_lt0, i_0le, i_le0, i_eq0, i_0lt, i_eq1, i_eqm1, i_sub1, i_addm1, pk_sub, i_add0, b2i_eq0, b2i_1, i_bit, if_true, if_false, rR2, rR3, rR7, rR8, rR10, rR11, rR15, rR16, rR17, rR18, rR19, rR20, rR21, rR22, rR23, rR25, rI0, rI1, rI4, rI5, rI6, rI9, rI12, rI13, rI14, rI24, rP0, rP1, rP4, rP5, rP6, rP9, rP12, rP13, rP14, rP24, r_chk, bS, r_mem, r_memS, r_lst, r_lstS, r_tre, r_treS, r_voi, r_voiS, hl.1, if_neg, e2, e3, nar_1, r_canGo ht ti o2 o3 o4, eo', s_I, pk_us, z1]
        exact g1
theorem r_grows {s c : Nat} (hs : s < 104) (hc : c < 3) {E : Nat → Nat} (hm : ∀ j q, j < 14 → q < 4 → S.2.1 299 (12 + 4 * (14 * c + j) + q) = eT (E j) q) (ti : TI E) (hl : LL S l) (hok : ∀ k ∈ l, okM k) {bi : Int32} {w : Nat} (hw : ∀ i, i < 1000 → (nI i = bi) = (i = w)) :
    ∃ S', f_X10_grows (ov S n) 296 (nI s) (nI c) bi = some (ov S' n, ()) ∧ TT S' s (mBld w l 0 E) ∧ (∀ j b, (mVl w l 0 E)[j]? = some b → S'.2.1 301 j = b2i b) ∧ RG s S S' := by
  have hl40 := hl.2.1
  have hr1 : RG s S (o_sI S 302 (va_cpy (S.2.1 299) (S.2.1 302) (12 + 4 * (14 * c)) (56 * s) 56)) := ⟨(AG_sI _ _ _).mono (fun _ q => Or.inr q), fun j hj => by rw [s_I, if_pos rfl, pk_cpy_out (by omega)]⟩
  obtain ⟨S', g1, g2, g3, -, g5⟩ := r_groL (n := n) (s := s) hok hw l.length 0 q_FU (o_sI S 302 (va_cpy (S.2.1 299) (S.2.1 302) (12 + 4 * (14 * c)) (56 * s) 56)) E (by omega) (q_FU_lt (by omega)) (hl.rg hr1) (TT.cp hs hm (by rw [s_I, if_pos rfl])) ti
  refine ⟨S', ?_, g2, fun j b hb => by have := g3 j b hb; rw [Nat.zero_add] at this; exact this, hr1.tr g5⟩
  unfold f_X10_grows b_X10_grows_0
  rw [r_chk, ← g1]
  have fuel0 : ∀ (d j fuel : Nat) (S : o_S), j + d = 56 → d < fuel → l_X10_grows_3 fuel (ov S n) 296 (nI s) (nI c) bi (nI j) = l_X10_grows_44 q_FU (ov (fw (fun k S => o_sI S 302 (upd (S.2.1 302) (56 * s + k) (S.2.1 299 (12 + 4 * (14 * c) + k)))) S j d) n) 296 (nI s) bi 0 := by
    intro d
    induction d with
    | zero =>
      intro j fuel S hj hf
      obtain ⟨f, rfl⟩ : ∃ f, fuel = f + 1 := ⟨fuel - 1, by omega⟩
      show b_X10_grows_3 _ _ _ _ _ _ _ = _
      unfold b_X10_grows_3
      simp (disch := omega) only [j2, j3, j4, j5, j6, j7, j8, j9, j10, j12, j14, j20, j40, j48, j49, j56, j80, j96, j180, j183, j483, j492, j708, j2401, j1000000, nI_1, nI_add, pk_mul, i_le, i_lt, i_eq, i_lt0, i_0le, i_le0, i_eq0, i_0lt, i_eq1, i_eqm1, i_sub1, i_addm1, pk_sub, i_add0, b2i_eq0, b2i_1, i_bit, if_true, if_false, if_pos, fw]
    | succ d ih =>
      intro j fuel S hj hf
      obtain ⟨f, rfl⟩ : ∃ f, fuel = f + 1 := ⟨fuel - 1, by omega⟩
      show b_X10_grows_3 _ _ _ _ _ _ _ = _
      unfold b_X10_grows_3
      simp (disch := omega) only [j2, j3, j4, j5, j6, j7, j8, j9, j10, j12, j14, j20, j40, j48, j49, j56, j80, j96, j180, j183, j483, j492, j708, j2401, j1000000, nI_1, nI_add, pk_mul, i_le, i_lt, i_eq, i_lt0, i_0le, i_le0, i_eq0, i_0lt, i_eq1, i_eqm1, i_sub1, i_addm1, pk_sub, i_add0, b2i_eq0, b2i_1, i_bit, if_true, if_false, rR2, rR3, rR7, rR8, rR10, rR11, rR15, rR16, rR17, rR18, rR19, rR20, rR21, rR22, rR23, rR25, rI0, rI1, rI4, rI5, rI6, rI9, rI12, rI13, rI14, rI24, rP0, rP1, rP4, rP5, rP6, rP9, rP12, rP13, rP14, rP24, r_chk, bS, r_mem, r_memS, r_lst, r_lstS, r_tre, r_treS, r_voi, r_voiS, if_neg, r_baseOf0, idS, fw]
      exact ih (j + 1) f _ (by omega) (by omega)
  have := fuel0 56 0 q_FU S (by omega) (q_FU_lt (by omega))
  rw [cp_fw 299 302 (12 + 4 * (14 * c)) (56 * s) 56 S 0 (by omega)] at this
  exact this
end RLi
