/-! CALLS, NEW CELLS, RETURNS, CONTRACTS -/
theorem q_X.mv {G : q_G} {s U : State} (hA : s.vm.Alike U.vm) (hV : ∀ {own tx : String} {k a : Nat}, vk_R own k tx a s → vk_R own k tx a U) (h : q_X G s) : q_X G U :=
  ⟨fun i x hi => hV (h.1 i x hi), vk_S.moved hA h.2.1, va_Z.moved hA h.2.2.1, h.2.2.2.1.imp (fun v hv => ⟨hv.1, va_Z.moved hA hv.2⟩), ⟨va_X.moved hA h.2.2.2.2.1.1, h.2.2.2.2.1.2⟩, vx_Zq.moved hA h.2.2.2.2.2.1, vx_Zq.moved hA h.2.2.2.2.2.2⟩
theorem q_K.warm {G : q_G} {s U : State} (hW : s.WarmedH U.vm) (h : q_K G s) : q_K G U := by
  refine ⟨va_K.moved hW.alike h.1, fun w hw => ?_, ⟨va_AO.moved hW.alike h.2.2.1.1, va_AO.moved hW.alike h.2.2.1.2.1, va_AO.moved hW.alike h.2.2.1.2.2.1, va_AO.moved hW.alike h.2.2.1.2.2.2⟩, h.2.2.2.mv hW.alike (vk_R.warm hW)⟩
  have h1 := h.2.1 w hw
  have h2 := (List.mem_filter.mp hw).2
  unfold q_isN at h2
  split at h2
  · exact va_Nw.warmM hW h1
  · exact va_Nw.warmC hW h1
  · exact va_Nw.warmD hW h1
  · cases h2
theorem q_K.same {G : q_G} {u U : State} (hv : u.vm = U.vm) (h : q_K G u) : q_K G U := by
  have hA : u.vm.Alike U.vm := by rw [hv]; exact Vm.Alike.refl U.vm
  refine ⟨va_K.moved hA h.1, fun w hw => ?_, ⟨va_AO.moved hA h.2.2.1.1, va_AO.moved hA h.2.2.1.2.1, va_AO.moved hA h.2.2.1.2.2.1, va_AO.moved hA h.2.2.1.2.2.2⟩, h.2.2.2.mv hA (vk_R.same hv.symm)⟩
  have h1 := h.2.1 w hw
  have h2 := (List.mem_filter.mp hw).2
  unfold q_isN at h2
  split at h2
  · exact va_Nw.same rfl hv h1
  · exact va_Nw.same rfl hv h1
  · exact va_Nw.same rfl hv h1
  · cases h2
theorem q_blind (G : q_G) (av : List Value) (h : q_H) : FrameBlind (q_P G av h) := fun a U g mk q => ⟨q.1, q.2.1, q_K.same (u := U) (U := U.calling g mk a) rfl q.2.2⟩
theorem q_goodTB {y : MethodName} {bytes : ByteArray} {mL : Nat} {ret : Option FieldType} (hc : Cond.code y bytes mL ret ∈ q_tb) : GoodIn q_tb (Cond.code y bytes mL ret :: q_tb) := by
  have h0 : ∀ w ∈ q_tb, w ∈ q_tb ∧ ((w.onTables && w.keeps) = true ∨ ∃ ty, w = .arrayClass ty) := fun w hw => ⟨hw, good_of_word (List.mem_filter.mp hw).2⟩
  intro w hw
  rcases List.mem_cons.mp hw with e | e
  · subst e; exact h0 _ hc
  · exact h0 _ e
theorem q_args (G : q_G) : ∀ (av : List Value) (i : Nat), lv_args i (av.map (q_v G)) = (lv_args i av).map (q_lv G) := by
  intro av
  induction av with
  | nil => intro i; rfl
  | cons v vs ih =>
    intro i
    show (i, q_v G v) :: lv_args (if (q_v G v).category = 2 then i + 2 else i + 1) (vs.map (q_v G)) = (i, q_v G v) :: (lv_args (if v.category = 2 then i + 2 else i + 1) vs).map (q_lv G)
    rw [q_cat, ih]
def q_max (x y : Int32) : Int32 := if x < y then y else x
def q_min (x y : Int32) : Int32 := if y < x then y else x
def q_minl (x y : Int64) : Int64 := if y < x then y else x
def q_FU : Nat := 4000
def q_RD : Nat := 20
theorem q_narz (v : Int32) : narrow .boolean (.int v) = .int (vp_nar .boolean v) := rfl
section QC
variable {G : q_G} {l : Launch} {own nm : String} {cc : ByteArray} {nL k0 z0 fr lo : Nat} {ret : Option FieldType} {tab : List ExceptionTableEntry} {α : Type} {Z : q_M → q_H × α → State → Prop} {pc : Nat} {lv lv' : List (Nat × Value)} {st : List Value} {h : q_H} {f : Option (q_H × α)}

/-- a step that changes the stack alone and wants room -/
theorem j_st2 {pc' : Nat} {st' : List Value} (hs : ∀ M : q_M, M.2.1 = l → q_C G M (own, cc, nL, fr, lo, ret, nm, tab) → ∀ (H : Heap) (locs : List Loc) (cells slots : Nat) (ls : Array Slot) (Q : State → Prop), lv_has ls nL (lv.map (q_lv G)) → cells ≤ M.2.2.2.1.cells → slots ≤ M.2.2.2.1.slots → q_W M H locs cells slots Q pc' ls (st'.map (q_v G)) → q_W M H locs cells slots Q pc ls (st.map (q_v G)))
    (k : q_J G l (own, cc, nL, fr, lo, ret, nm, tab) k0 z0 Z pc' lv st' h f) : q_J G l (own, cc, nL, fr, lo, ret, nm, tab) k0 z0 Z pc lv st h f := fun q hq =>
  ⟨(k q hq).1, fun M hM C a1 a2 a3 a4 H locs ls b1 b2 b3 => hs M hM C H locs _ _ ls _ b3 (by have := (k q hq).1.2.1; omega) (by have := (k q hq).1.2.2; omega) ((k q hq).2 M hM C a1 a2 a3 a4 H locs ls b1 b2 b3)⟩
theorem j_max  {x y : Int32} {idx : Nat} (hlink : Cond.methodLink own idx Lib.Math.max.name ∈ q_tb) (hstat : Cond.static Lib.Math.max.name ∈ q_tb) (hini : Cond.initialized "java/lang/Math" ∈ q_tb) (hcode : Cond.code Lib.Math.max.name Lib.Math.max.code 2 (some .int) ∈ q_tb) (hr : 1 ≤ fr ∧ ((st.map (q_v G)).map fun v => v.category).sum + 13 ≤ lo) (d : decode cc pc = .ok (.invokestatic idx, 3)) (k : q_J G l (own, cc, nL, fr, lo, ret, nm, tab) k0 z0 Z (pc + 3) lv (.int (q_max x y) :: st) h f) : q_J G l (own, cc, nL, fr, lo, ret, nm, tab) k0 z0 Z pc lv (.int y :: .int x :: st) h f :=
  j_st2 (pc' := pc + 3) (st' := .int (q_max x y) :: st) (fun M hM C H locs cells slots ls Q hl hc hs w => va_mmax C.1 C.2.1 (C.2.2.1.trans hl.1.symm) C.2.2.2.1 (C.2.2.2.2.1 _ hlink) (C.2.2.2.2.1 _ hstat) (C.2.2.2.2.1 _ hini) (C.2.2.2.2.1 _ hcode) (by rw [C.2.2.2.2.2.2.2.1]; exact hr.1) (by rw [C.2.2.2.2.2.2.2.2.1]; exact hr.2) hc hs d w) k
theorem j_min  {x y : Int32} {idx : Nat} (hlink : Cond.methodLink own idx Lib.Math.min.name ∈ q_tb) (hstat : Cond.static Lib.Math.min.name ∈ q_tb) (hini : Cond.initialized "java/lang/Math" ∈ q_tb) (hcode : Cond.code Lib.Math.min.name Lib.Math.min.code 2 (some .int) ∈ q_tb) (hr : 1 ≤ fr ∧ ((st.map (q_v G)).map fun v => v.category).sum + 13 ≤ lo) (d : decode cc pc = .ok (.invokestatic idx, 3)) (k : q_J G l (own, cc, nL, fr, lo, ret, nm, tab) k0 z0 Z (pc + 3) lv (.int (q_min x y) :: st) h f) : q_J G l (own, cc, nL, fr, lo, ret, nm, tab) k0 z0 Z pc lv (.int y :: .int x :: st) h f :=
  j_st2 (pc' := pc + 3) (st' := .int (q_min x y) :: st) (fun M hM C H locs cells slots ls Q hl hc hs w => va_mmin C.1 C.2.1 (C.2.2.1.trans hl.1.symm) C.2.2.2.1 (C.2.2.2.2.1 _ hlink) (C.2.2.2.2.1 _ hstat) (C.2.2.2.2.1 _ hini) (C.2.2.2.2.1 _ hcode) (by rw [C.2.2.2.2.2.2.2.1]; exact hr.1) (by rw [C.2.2.2.2.2.2.2.2.1]; exact hr.2) hc hs d w) k
theorem j_minl  {x y : Int64} {idx : Nat} (hlink : Cond.methodLink own idx Lib.MathLoose.min_long.x ∈ q_tb) (hstat : Cond.static Lib.MathLoose.min_long.x ∈ q_tb) (hini : Cond.initialized "java/lang/Math" ∈ q_tb) (hcode : Cond.code Lib.MathLoose.min_long.x Lib.MathLoose.min_long.code 4 (some .long) ∈ q_tb) (hr : 1 ≤ fr ∧ ((st.map (q_v G)).map fun v => v.category).sum + 15 ≤ lo) (d : decode cc pc = .ok (.invokestatic idx, 3)) (k : q_J G l (own, cc, nL, fr, lo, ret, nm, tab) k0 z0 Z (pc + 3) lv (.long (q_minl x y) :: st) h f) : q_J G l (own, cc, nL, fr, lo, ret, nm, tab) k0 z0 Z pc lv (.long y :: .long x :: st) h f :=
  j_st2 (pc' := pc + 3) (st' := .long (q_minl x y) :: st) (fun M hM C H locs cells slots ls Q hl hc hs w => va_mmin_long C.1 C.2.1 (C.2.2.1.trans hl.1.symm) C.2.2.2.1 (C.2.2.2.2.1 _ hlink) (C.2.2.2.2.1 _ hstat) (C.2.2.2.2.1 _ hini) (C.2.2.2.2.1 _ hcode) (by rw [C.2.2.2.2.2.2.2.1]; exact hr.1) (by rw [C.2.2.2.2.2.2.2.2.1]; exact hr.2) hc hs d w) k
theorem j_oinit  {a idx : Nat} (hlink : Cond.methodLink own idx Lib.objectInit ∈ q_tb) (hinst : Cond.instanceMethod Lib.objectInit ∈ q_tb) (hcode : Cond.code Lib.objectInit ⟨#[0xb1]⟩ 1 none ∈ q_tb) (hr : 1 ≤ fr ∧ ((st.map (q_v G)).map fun v => v.category).sum + 12 ≤ lo) (d : decode cc pc = .ok (.invokespecial idx, 3)) (k : q_J G l (own, cc, nL, fr, lo, ret, nm, tab) k0 z0 Z (pc + 3) lv st h f) : q_J G l (own, cc, nL, fr, lo, ret, nm, tab) k0 z0 Z pc lv (.ref a :: st) h f :=
  j_st (pc' := pc + 3) (st' := st) (fun M hM C H locs cells slots ls Q hl w => W.objInit C.1 C.2.1 C.2.2.2.1 (C.2.2.2.2.1 _ hlink) (C.2.2.2.2.1 _ hinst) (C.2.2.2.2.1 _ hcode) rfl (hl.1.trans C.2.2.1.symm) rfl d (by rw [C.2.2.2.2.2.2.2.1]; exact hr.1) (by rw [C.2.2.2.2.2.2.2.2.1]; show 2 * 0 + _ + 12 ≤ lo; have := hr.2; omega) w) k

theorem j_alc {op : Option (q_H × Nat)} {g : q_H × Nat → Option (q_H × α)} {pc' : Nat} {st' : List Value} {e : va_E} {n : Nat} (ho : ∀ x, op = some x → x = (q_al h e n, h.2.1))
    (hs : ∀ (x : q_H × Nat), op = some x → ∀ M : q_M, M.2.1 = l → q_C G M (own, cc, nL, fr, lo, ret, nm, tab) → ∀ (H : Heap) (locs : List Loc) (cells slots : Nat) (ls : Array Slot) (Q : State → Prop), q_R G h H → cells + 1 ≤ M.2.2.2.1.cells → slots + n ≤ M.2.2.2.1.slots → (∀ H' : Heap, q_R G (q_al h e n) H' → q_W M H' locs (cells + 1) (slots + n) Q pc' ls ((.ref h.2.1 :: st').map (q_v G))) → q_W M H locs cells slots Q pc ls (st.map (q_v G)))
    (k : ∀ x, op = some x → q_J G l (own, cc, nL, fr, lo, ret, nm, tab) k0 z0 Z pc' lv (.ref x.2 :: st') x.1 (g x)) : q_J G l (own, cc, nL, fr, lo, ret, nm, tab) k0 z0 Z pc lv st h (Option.bind op g) := fun q hq => by
  cases hop : op with
  | none => rw [hop] at hq; cases hq
  | some x =>
    rw [hop] at hq
    have hx := ho x hop
    have hk := k x hop
    have hw := hs x hop
    subst hx
    obtain ⟨h1, h2⟩ := hk q hq
    have l1 : h.2.1 + 1 ≤ q.1.2.1 := h1.1
    have l2 : h.2.2.1 + 1 ≤ q.1.2.2.1 := h1.2.1
    have l3 : h.2.2.2 + n ≤ q.1.2.2.2 := h1.2.2
    refine ⟨⟨by omega, by omega, by omega⟩, fun M hM C a1 a2 a3 a4 H locs ls b1 b2 b3 => hw M hM C H locs _ _ ls _ b1 (by omega) (by omega) (fun H' c1 => ?_)⟩
    have := h2 M hM C a1 a2 (show k0 ≤ h.2.2.1 + 1 by omega) (show z0 ≤ h.2.2.2 + n by omega) H' locs ls c1 b2 b3
    have e1 : h.2.2.1 + 1 - k0 = h.2.2.1 - k0 + 1 := by omega
    have e2 : h.2.2.2 + n - z0 = h.2.2.2 - z0 + n := by omega
    have t1 : (q_al h e n).2.2.1 - k0 = h.2.2.1 - k0 + 1 := e1
    have t2 : (q_al h e n).2.2.2 - z0 = h.2.2.2 - z0 + n := e2
    rw [t1, t2] at this
    exact this
theorem j_new  {C' : String} {T : u_T} {N ci idx : Nat} {ty : Nat → FieldType} {fs : List Value} {g : q_H × Nat → Option (q_H × α)} (hx : G.2.2.2.2.2.2.2 = true) (F : q_FI ci C' T N ty) (hcl : Cond.classLink own idx C' ∈ q_tb) (hinst : Cond.instantiable C' N ∈ q_tb) (hini : Cond.initialized C' ∈ q_tb) (hN : fs.length = N) (hfs : ∀ j, j < N → defaultValue (ty j) = vp_V (fs.map (q_v G)) j) (d : decode cc pc = .ok (.new idx, 3)) (kk : ∀ x, q_new ci fs h = some x → q_J G l (own, cc, nL, fr, lo, ret, nm, tab) k0 z0 Z (pc + 3) lv (.ref x.2 :: st) x.1 (g x)) : q_J G l (own, cc, nL, fr, lo, ret, nm, tab) k0 z0 Z pc lv st h (Option.bind (q_new ci fs h) g) :=
  j_alc (pc' := pc + 3) (st' := st) (e := .inr (ci, fs)) (n := fs.length) (fun x hx' => by cases hx'; rfl) (fun x hop M hM C H locs cells slots ls Q hR hc hs w => by
    have hK := C.2.2.2.2.2.1.1
    have hKn := hK.1 ci _ F.2.1
    refine W.newcK C.1 C.2.1 C.2.2.2.1 (C.2.2.2.2.1 _ hcl) (C.2.2.2.2.1 _ hinst) (C.2.2.2.2.1 _ hini) rfl d hc (by rw [← hN]; exact hs) hKn.2.1 (hR.1.2 hx) fun H1 kC hkC e1 z1 o1 => ?_
    rw [← hN]
    refine w H1 (hR.push hx ?_ (by rw [hR.1.2 hx]; exact z1) (by rw [hR.1.2 hx]; exact o1))
    exact ⟨_, F.2.1, (u_born ty C.2.2.2.2.1 F.1 hKn hkC e1 F.2.2.1).to hfs⟩) kk
theorem q_nI_ok {t : Nat} {n : Int32} {x : q_H × Nat} (e : q_nI t h n = some x) : ¬ n < 0 ∧ n.toNatClampNeg ≤ 100000 ∧ x = (q_al h (.inl (t, n.toNatClampNeg, .inl (fun _ => 0))) n.toNatClampNeg, h.2.1) := by
  unfold q_nI at e
  by_cases hc : n < 0 ∨ 100000 < n.toNatClampNeg
  · rw [if_pos hc] at e; cases e
  · rw [if_neg hc] at e; cases e
    exact ⟨fun h => hc (Or.inl h), by omega, rfl⟩
theorem q_nL_ok {n : Int32} {x : q_H × Nat} (e : q_nL h n = some x) : ¬ n < 0 ∧ n.toNatClampNeg ≤ 100000 ∧ x = (q_al h (.inl (1, n.toNatClampNeg, .inr (.inl (fun _ => 0)))) n.toNatClampNeg, h.2.1) := by
  unfold q_nL at e
  by_cases hc : n < 0 ∨ 100000 < n.toNatClampNeg
  · rw [if_pos hc] at e; cases e
  · rw [if_neg hc] at e; cases e
    exact ⟨fun h => hc (Or.inl h), by omega, rfl⟩
theorem q_nR_ok {t : Nat} {n : Int32} {x : q_H × Nat} (e : q_nR t h n = some x) : ¬ n < 0 ∧ n.toNatClampNeg ≤ 100000 ∧ x = (q_al h (.inl (t, n.toNatClampNeg, .inr (.inr (.inr (.inr (fun _ => none)))))) n.toNatClampNeg, h.2.1) := by
  unfold q_nR at e
  by_cases hc : n < 0 ∨ 100000 < n.toNatClampNeg
  · rw [if_pos hc] at e; cases e
  · rw [if_neg hc] at e; cases e
    exact ⟨fun h => hc (Or.inl h), by omega, rfl⟩

theorem j_newi  {n : Int32} {g : q_H × Nat → Option (q_H × α)} (hx : G.2.2.2.2.2.2.2 = true) (harr : Cond.arrayClass .int ∈ q_tb) (d : decode cc pc = .ok (.newarray .int, 2)) (kk : ∀ x, q_nI 0 h n = some x → q_J G l (own, cc, nL, fr, lo, ret, nm, tab) k0 z0 Z (pc + 2) lv (.ref x.2 :: st) x.1 (g x)) : q_J G l (own, cc, nL, fr, lo, ret, nm, tab) k0 z0 Z pc lv (.int n :: st) h (Option.bind (q_nI 0 h n) g) :=
  j_alc (pc' := pc + 2) (st' := st) (e := .inl (0, n.toNatClampNeg, .inl (fun _ => 0))) (n := n.toNatClampNeg) (fun x hx' => (q_nI_ok hx').2.2) (fun x hop M hM C H locs cells slots ls Q hR hc hs w => by
    obtain ⟨h1, h2, -⟩ := q_nI_ok hop
    refine va_newaK (atype := .int) C.1 C.2.1 (C.2.2.2.2.1 _ harr) rfl d rfl h1 rfl (Nat.le_trans (Nat.mul_le_mul_right _ h2) (Nat.le_of_ble_eq_true rfl)) hc hs (hR.1.2 hx) fun H1 cA e1 z1 o1 hAr hNm => ?_
    refine w H1 (hR.push hx ?_ (by rw [hR.1.2 hx]; exact z1) (by rw [hR.1.2 hx]; exact o1))
    have hcA : G.2.2.1 0 = cA := by
      have := (C.2.2.2.2.2.1.1.2 0 _ rfl).2
      exact Option.some.inj (this.symm.trans hNm)
    show H1[G.1 + h.2.1]? = some (vp_cell (G.2.2.1 0) (n.toNatClampNeg, .inl (fun _ => 0)))
    rw [hcA]
    exact e1) kk
theorem j_newz  {n : Int32} {g : q_H × Nat → Option (q_H × α)} (hx : G.2.2.2.2.2.2.2 = true) (harr : Cond.arrayClass .boolean ∈ q_tb) (d : decode cc pc = .ok (.newarray .boolean, 2)) (kk : ∀ x, q_nI 2 h n = some x → q_J G l (own, cc, nL, fr, lo, ret, nm, tab) k0 z0 Z (pc + 2) lv (.ref x.2 :: st) x.1 (g x)) : q_J G l (own, cc, nL, fr, lo, ret, nm, tab) k0 z0 Z pc lv (.int n :: st) h (Option.bind (q_nI 2 h n) g) :=
  j_alc (pc' := pc + 2) (st' := st) (e := .inl (2, n.toNatClampNeg, .inl (fun _ => 0))) (n := n.toNatClampNeg) (fun x hx' => (q_nI_ok hx').2.2) (fun x hop M hM C H locs cells slots ls Q hR hc hs w => by
    obtain ⟨h1, h2, -⟩ := q_nI_ok hop
    refine va_newaK (atype := .boolean) C.1 C.2.1 (C.2.2.2.2.1 _ harr) rfl d rfl h1 rfl (Nat.le_trans (Nat.mul_le_mul_right _ h2) (Nat.le_of_ble_eq_true rfl)) hc hs (hR.1.2 hx) fun H1 cA e1 z1 o1 hAr hNm => ?_
    refine w H1 (hR.push hx ?_ (by rw [hR.1.2 hx]; exact z1) (by rw [hR.1.2 hx]; exact o1))
    have hcA : G.2.2.1 2 = cA := by
      have := (C.2.2.2.2.2.1.1.2 2 _ rfl).2
      exact Option.some.inj (this.symm.trans hNm)
    show H1[G.1 + h.2.1]? = some (vp_cell (G.2.2.1 2) (n.toNatClampNeg, .inl (fun _ => 0)))
    rw [hcA]
    exact e1) kk
theorem j_newc  {n : Int32} {g : q_H × Nat → Option (q_H × α)} (hx : G.2.2.2.2.2.2.2 = true) (harr : Cond.arrayClass .char ∈ q_tb) (d : decode cc pc = .ok (.newarray .char, 2)) (kk : ∀ x, q_nI 3 h n = some x → q_J G l (own, cc, nL, fr, lo, ret, nm, tab) k0 z0 Z (pc + 2) lv (.ref x.2 :: st) x.1 (g x)) : q_J G l (own, cc, nL, fr, lo, ret, nm, tab) k0 z0 Z pc lv (.int n :: st) h (Option.bind (q_nI 3 h n) g) :=
  j_alc (pc' := pc + 2) (st' := st) (e := .inl (3, n.toNatClampNeg, .inl (fun _ => 0))) (n := n.toNatClampNeg) (fun x hx' => (q_nI_ok hx').2.2) (fun x hop M hM C H locs cells slots ls Q hR hc hs w => by
    obtain ⟨h1, h2, -⟩ := q_nI_ok hop
    refine va_newaK (atype := .char) C.1 C.2.1 (C.2.2.2.2.1 _ harr) rfl d rfl h1 rfl (Nat.le_trans (Nat.mul_le_mul_right _ h2) (Nat.le_of_ble_eq_true rfl)) hc hs (hR.1.2 hx) fun H1 cA e1 z1 o1 hAr hNm => ?_
    refine w H1 (hR.push hx ?_ (by rw [hR.1.2 hx]; exact z1) (by rw [hR.1.2 hx]; exact o1))
    have hcA : G.2.2.1 3 = cA := by
      have := (C.2.2.2.2.2.1.1.2 3 _ rfl).2
      exact Option.some.inj (this.symm.trans hNm)
    show H1[G.1 + h.2.1]? = some (vp_cell (G.2.2.1 3) (n.toNatClampNeg, .inl (fun _ => 0)))
    rw [hcA]
    exact e1) kk
theorem j_newl  {n : Int32} {g : q_H × Nat → Option (q_H × α)} (hx : G.2.2.2.2.2.2.2 = true) (harr : Cond.arrayClass .long ∈ q_tb) (d : decode cc pc = .ok (.newarray .long, 2)) (kk : ∀ x, q_nL h n = some x → q_J G l (own, cc, nL, fr, lo, ret, nm, tab) k0 z0 Z (pc + 2) lv (.ref x.2 :: st) x.1 (g x)) : q_J G l (own, cc, nL, fr, lo, ret, nm, tab) k0 z0 Z pc lv (.int n :: st) h (Option.bind (q_nL h n) g) :=
  j_alc (pc' := pc + 2) (st' := st) (e := .inl (1, n.toNatClampNeg, .inr (.inl (fun _ => 0)))) (n := n.toNatClampNeg) (fun x hx' => (q_nL_ok hx').2.2) (fun x hop M hM C H locs cells slots ls Q hR hc hs w => by
    obtain ⟨h1, h2, -⟩ := q_nL_ok hop
    refine va_newaK (atype := .long) C.1 C.2.1 (C.2.2.2.2.1 _ harr) rfl d rfl h1 rfl (Nat.le_trans (Nat.mul_le_mul_right _ h2) (Nat.le_of_ble_eq_true rfl)) hc hs (hR.1.2 hx) fun H1 cA e1 z1 o1 hAr hNm => ?_
    refine w H1 (hR.push hx ?_ (by rw [hR.1.2 hx]; exact z1) (by rw [hR.1.2 hx]; exact o1))
    have hcA : G.2.2.1 1 = cA := by
      have := (C.2.2.2.2.2.1.1.2 1 _ rfl).2
      exact Option.some.inj (this.symm.trans hNm)
    show H1[G.1 + h.2.1]? = some (vp_cell (G.2.2.1 1) (n.toNatClampNeg, .inr (.inl (fun _ => 0))))
    rw [hcA]
    exact e1) kk
theorem j_newr  {n : Int32} {t idx : Nat} {C' : String} {g : q_H × Nat → Option (q_H × α)} (hx : G.2.2.2.2.2.2.2 = true) (hT : (q_T G)[t]? = some (G.2.2.1 t, .object C')) (hcl : Cond.classLink own idx C' ∈ q_tb) (hao : ∀ U, q_K G U → va_AO C' U) (d : decode cc pc = .ok (.anewarray idx, 3)) (kk : ∀ x, q_nR t h n = some x → q_J G l (own, cc, nL, fr, lo, ret, nm, tab) k0 z0 Z (pc + 3) lv (.ref x.2 :: st) x.1 (g x)) : q_J G l (own, cc, nL, fr, lo, ret, nm, tab) k0 z0 Z pc lv (.int n :: st) h (Option.bind (q_nR t h n) g) :=
  j_alc (pc' := pc + 3) (st' := st) (e := .inl (t, n.toNatClampNeg, .inr (.inr (.inr (.inr (fun _ => none)))))) (n := n.toNatClampNeg) (fun x hx' => (q_nR_ok hx').2.2) (fun x hop M hM C H locs cells slots ls Q hR hc hs w => by
    obtain ⟨h1, h2, -⟩ := q_nR_ok hop
    refine W.anew C.1 C.2.1 C.2.2.2.1 (C.2.2.2.2.1 _ hcl) (va_AO.use (hao _ C.2.2.2.2.2.1)) rfl d rfl h1 (Nat.le_trans (Nat.mul_le_mul_right _ h2) (Nat.le_of_ble_eq_true rfl)) hc hs fun cA kA comp f1 f2 f3 f4 => ?_
    have hz := hR.1.2 hx
    generalize hH1 : H.push ({ cls := cA, slots := Array.replicate n.toNatClampNeg .null, vm := .none } : Cell) = H1
    have z1 : H1.size = H.size + 1 := by rw [← hH1, Array.size_push]
    have e1 : H1[H.size]? = some (arrV cA n.toNatClampNeg (fun _ => .null)) := by rw [← hH1, Array.getElem?_push_size, ← arrV_new]
    have o1 : ∀ q : Nat, q < H.size → H1[q]? = H[q]? := fun q hq => by rw [← hH1, Array.getElem?_push, if_neg (Nat.ne_of_lt hq)]
    have hw := w H1 (hR.push hx ?_ z1 o1)
    · rw [hz]; exact hw
    · have hcA : G.2.2.1 t = cA := by
        obtain ⟨kA', comp', k1, k2, k3, k4⟩ := (C.2.2.2.2.2.1.1.2 t _ hT).2
        first
          | exact Option.some.inj (k4.symm.trans f4)
          | exact Option.some.inj (k4.symm.trans f1)
      show H1[G.1 + h.2.1]? = some (vp_cell (G.2.2.1 t) (n.toNatClampNeg, .inr (.inr (.inr (.inr (fun j => ((fun _ => none : Nat → Option Nat) j).map (fun x => G.1 + x)))))))
      rw [hcA, ← hz]
      exact e1) kk
theorem j_call {β : Type} {en : β → Option Value} {op : Option (q_H × β)} {g : q_H × β → Option (q_H × α)} {y : MethodName} {bytes : ByteArray} {mL fr' lo' : Nat} {ret' : Option FieldType} {av rest : List Value} {a : Array Value} (hc : ∀ x, op = some x → q_CT G l y bytes mL ret' fr' lo' av h x.1 (en x.2))
    (hrun : ∀ (x : q_H × β), op = some x → ∀ M : q_M, M.2.1 = l → q_C G M (own, cc, nL, fr, lo, ret, nm, tab) → ∀ (H : Heap) (locs : List Loc) (cells slots : Nat) (ls : Array Slot), q_R G h H → lv_has ls nL (lv.map (q_lv G)) → cells + (x.1.2.2.1 - h.2.2.1) ≤ M.2.2.2.1.cells → slots + (x.1.2.2.2 - h.2.2.2) ≤ M.2.2.2.1.slots →
      va_Run M.1 M.2.1 M.2.2.1 M.2.2.2.1 M.2.2.2.2.1 M.2.2.2.2.2.1 M.2.2.2.2.2.2.1 M.2.2.2.2.2.2.2.1 M.2.2.2.2.2.2.2.2.1 M.2.2.2.2.2.2.2.2.2 H locs cells slots (x.1.2.2.1 - h.2.2.1) (x.1.2.2.2 - h.2.2.2) (F0 M.2.2.2.2.2.1 pc ls (st.map (q_v G))) (rest.map (q_v G)) (q_Q G (en x.2) x.1 a) (q_fr G))
    (k : ∀ x, op = some x → q_J G l (own, cc, nL, fr, lo, ret, nm, tab) k0 z0 Z (pc + 3) lv ((en x.2).toList ++ rest) x.1 (g x)) : q_J G l (own, cc, nL, fr, lo, ret, nm, tab) k0 z0 Z pc lv st h (Option.bind op g) := fun q hq => by
  cases hop : op with
  | none => rw [hop] at hq; cases hq
  | some x =>
    rw [hop] at hq
    obtain ⟨hle, -⟩ := hc x hop
    obtain ⟨h1, h2⟩ := k x hop q hq
    refine ⟨hle.tr h1, fun M hM C a1 a2 a3 a4 H locs ls b1 b2 b3 => ?_⟩
    have l2 := hle.2.1
    have l3 := hle.2.2
    have m2 := h1.2.1
    have m3 := h1.2.2
    intro T hT X
    obtain ⟨v, st₀, t, T', L, h0, X', hL, e1, e2, ⟨hv, hR'⟩, stp⟩ := hrun x hop M hM C H locs _ _ ls b1 b3 (by omega) (by omega) T hT X
    cases hv
    have ec : h.2.2.1 - k0 + (x.1.2.2.1 - h.2.2.1) = x.1.2.2.1 - k0 := by omega
    have es : h.2.2.2 - z0 + (x.1.2.2.2 - h.2.2.2) = x.1.2.2.2 - z0 := by omega
    rw [ec, es] at X'
    obtain ⟨t2, c1, c2⟩ := h2 M hM C a1 a2 (by omega) (by omega) T'.heap (locs ++ L) ls (by rw [e1]; exact hR') (fun z hz => by
      rcases List.mem_append.mp hz with h' | h'
      · exact b2 z h'
      · exact hL z h') b3 T' rfl X'
    refine ⟨t2, stp t2 ?_, c2⟩
    have : List.map (q_v G) ((en x.2).toList ++ rest) = ((en x.2).map (q_v G)).toList ++ rest.map (q_v G) := by
      rw [List.map_append]
      cases en x.2 <;> rfl
    rw [this] at c1
    exact c1
theorem q_recv {M : q_M} {S : q_S} (C : q_C G M S) {ci b : Nat} {fs : List Value} {r : vw_C} {H : Heap} (hR : q_R G h H) (hb : h.1 b = .inr (ci, fs)) (hc : vwCl[ci]? = some r) : ∃ cell : Cell, H[G.1 + b]? = some cell ∧ cell.vm.isStatics = false ∧ M.2.2.2.2.1.vm.findClass r.1 = some cell.cls :=
  va_recv (D := G.2.1) (cl := vwCl) (tys := q_T G) (ws := [(G.1 + b, .inr (ci, fs.map (q_v G)))]) C.2.2.2.2.2.1.1 (q_one (hR.at hb (q_nj (q_cl hc)))) hc (q0 := 0) rfl
theorem j_cV  {β : Type} {en : β → Option Value} {op : Option (q_H × β)} {g : q_H × β → Option (q_H × α)} {y : MethodName} {bytes : ByteArray} {mL fr' lo' n idx ci b : Nat} {ret' : Option FieldType} {As rest : List Value} {r : vw_C} (Y : q_Y y bytes mL ret' n) (hcl : vwCl[ci]? = some r) (hyc : y.cls = r.1) (hl : Cond.methodLink own idx y ∈ q_tb) (hi : Cond.instanceMethod y ∈ q_tb) (hse : Cond.selects y.cls y y ∈ q_tb) (hR : fr' + 1 ≤ fr ∧ 8 + (mL + 11) + lo' ≤ lo) (d : decode cc pc = .ok (.invokevirtual idx, 3)) (hn : As.length = n) (hst : st = As.reverse ++ .ref b :: rest) (hrm : ((rest.map (q_v G)).map fun v => v.category).sum ≤ 8)
    (hc : ∀ x, op = some x → (∃ fs, h.1 b = .inr (ci, fs)) ∧ q_CT G l y bytes mL ret' fr' lo' (.ref b :: As) h x.1 (en x.2))
    (k : ∀ x, op = some x → q_J G l (own, cc, nL, fr, lo, ret, nm, tab) k0 z0 Z (pc + 3) lv ((en x.2).toList ++ rest) x.1 (g x)) : q_J G l (own, cc, nL, fr, lo, ret, nm, tab) k0 z0 Z pc lv st h (Option.bind op g) :=
  j_call (rest := rest) (fun x hx => (hc x hx).2) (fun x hx M hM C H locs cells slots ls hRp hlv hce hsl => by
    obtain ⟨⟨fs, hb⟩, hle, hMt⟩ := hc x hx
    rw [← hM] at hMt
    refine va_runV (C := y.cls) (As := As.map (q_v G)) (rest := rest.map (q_v G)) (b := G.1 + b) ⟨C.1, C.2.1, C.2.2.1, C.2.2.2.1, C.2.2.2.2.1⟩ hMt
      ⟨callB_of n C.2.2.2.2.1 (q_goodTB Y.1) rfl rfl rfl (C.2.2.2.2.1 _ Y.2.1) (C.2.2.2.2.1 _ hl) ⟨Y.2.2.1, Y.2.2.2.1, Y.2.2.2.2.1⟩ ⟨by rw [C.2.2.2.2.2.2.2.1]; exact hR.1, by rw [C.2.2.2.2.2.2.2.2.1]; exact hR.2⟩, C.2.2.2.2.1 _ hi, C.2.2.2.2.1 _ hse⟩
      ⟨q_blind _ _ _, by rw [hyc]; exact q_recv C hRp hb hcl, fun U hU hW => ⟨rfl, by rw [hU]; exact hRp, q_K.warm hW C.2.2.2.2.2.1⟩⟩ rfl (by rw [List.length_map]; exact hn) hlv.1 (by rw [hst]; show _ = _; rw [List.map_append, List.map_reverse]; rfl) (lv_room hrm) d ⟨hce, hsl⟩) k
theorem j_cS  {β : Type} {en : β → Option Value} {op : Option (q_H × β)} {g : q_H × β → Option (q_H × α)} {y : MethodName} {bytes : ByteArray} {mL fr' lo' n idx : Nat} {ret' : Option FieldType} {As rest : List Value} (Y : q_Y y bytes mL ret' n) (hl : Cond.methodLink own idx y ∈ q_tb) (hi : Cond.static y ∈ q_tb) (hR : fr' + 1 ≤ fr ∧ 8 + (mL + 11) + lo' ≤ lo) (d : decode cc pc = .ok (.invokestatic idx, 3)) (hn : As.length = n) (hst : st = As.reverse ++ rest) (hrm : ((rest.map (q_v G)).map fun v => v.category).sum ≤ 8)
    (hc : ∀ x, op = some x → q_CT G l y bytes mL ret' fr' lo' As h x.1 (en x.2))
    (k : ∀ x, op = some x → q_J G l (own, cc, nL, fr, lo, ret, nm, tab) k0 z0 Z (pc + 3) lv ((en x.2).toList ++ rest) x.1 (g x)) : q_J G l (own, cc, nL, fr, lo, ret, nm, tab) k0 z0 Z pc lv st h (Option.bind op g) :=
  j_call (rest := rest) hc (fun x hx M hM C H locs cells slots ls hRp hlv hce hsl => by
    obtain ⟨hle, hMt⟩ := hc x hx
    rw [← hM] at hMt
    refine va_runS (As := As.map (q_v G)) (rest := rest.map (q_v G)) ⟨C.1, C.2.1, C.2.2.1, C.2.2.2.1, C.2.2.2.2.1⟩ hMt
      ⟨callB_of n C.2.2.2.2.1 (q_goodTB Y.1) rfl rfl rfl (C.2.2.2.2.1 _ Y.2.1) (C.2.2.2.2.1 _ hl) ⟨Y.2.2.1, Y.2.2.2.1, Y.2.2.2.2.1⟩ ⟨by rw [C.2.2.2.2.2.2.2.1]; exact hR.1, by rw [C.2.2.2.2.2.2.2.2.1]; exact hR.2⟩, C.2.2.2.2.1 _ hi⟩
      ⟨q_blind _ _ _, fun U hU hW => ⟨rfl, by rw [hU]; exact hRp, q_K.warm hW C.2.2.2.2.2.1⟩⟩ rfl (by rw [List.length_map]; exact hn) hlv.1 (by rw [hst]; show _ = _; rw [List.map_append, List.map_reverse]) (lv_room hrm) d ⟨hce, hsl⟩) k
theorem j_cI  {β : Type} {en : β → Option Value} {op : Option (q_H × β)} {g : q_H × β → Option (q_H × α)} {y : MethodName} {bytes : ByteArray} {mL fr' lo' n idx b : Nat} {As rest : List Value} (Y : q_Y y bytes mL none n) (hnm : y.name = "<init>") (hl : Cond.methodLink own idx y ∈ q_tb) (hi : Cond.instanceMethod y ∈ q_tb) (hR : fr' + 1 ≤ fr ∧ 8 + (mL + 11) + lo' ≤ lo) (d : decode cc pc = .ok (.invokespecial idx, 3)) (hn : As.length = n) (hst : st = As.reverse ++ .ref b :: rest) (hrm : ((rest.map (q_v G)).map fun v => v.category).sum ≤ 8)
    (hc : ∀ x, op = some x → q_CT G l y bytes mL none fr' lo' (.ref b :: As) h x.1 (en x.2))
    (k : ∀ x, op = some x → q_J G l (own, cc, nL, fr, lo, ret, nm, tab) k0 z0 Z (pc + 3) lv ((en x.2).toList ++ rest) x.1 (g x)) : q_J G l (own, cc, nL, fr, lo, ret, nm, tab) k0 z0 Z pc lv st h (Option.bind op g) :=
  j_call (rest := rest) hc (fun x hx M hM C H locs cells slots ls hRp hlv hce hsl => by
    obtain ⟨hle, hMt⟩ := hc x hx
    rw [← hM] at hMt
    refine va_runI (b := G.1 + b) (As := As.map (q_v G)) (rest := rest.map (q_v G)) ⟨C.1, C.2.1, C.2.2.1, C.2.2.2.1, C.2.2.2.2.1⟩ hMt
      ⟨callB_of n C.2.2.2.2.1 (q_goodTB Y.1) rfl rfl rfl (C.2.2.2.2.1 _ Y.2.1) (C.2.2.2.2.1 _ hl) ⟨Y.2.2.1, Y.2.2.2.1, Y.2.2.2.2.1⟩ ⟨by rw [C.2.2.2.2.2.2.2.1]; exact hR.1, by rw [C.2.2.2.2.2.2.2.2.1]; exact hR.2⟩, hnm, C.2.2.2.2.1 _ hi⟩
      ⟨q_blind _ _ _, fun U hU hW => ⟨rfl, by rw [hU]; exact hRp, q_K.warm hW C.2.2.2.2.2.1⟩⟩ rfl (by rw [List.length_map]; exact hn) hlv.1 (by rw [hst]; show _ = _; rw [List.map_append, List.map_reverse]; rfl) (lv_room hrm) d ⟨hce, hsl⟩) k
theorem j_cSN  {β : Type} {en : β → Option Value} {op : Option (q_H × β)} {g : q_H × β → Option (q_H × α)} {y : MethodName} {bytes : ByteArray} {mL fr' lo' n idx : Nat} {ret' : Option FieldType} {host : String} {As rest : List Value} (Y : q_Y y bytes mL ret' n) (hl : Cond.methodLinkNest own idx y host ∈ q_nw) (hi : Cond.static y ∈ q_tb) (hR : fr' + 1 ≤ fr ∧ 8 + (mL + 11) + lo' ≤ lo) (d : decode cc pc = .ok (.invokestatic idx, 3)) (hn : As.length = n) (hst : st = As.reverse ++ rest) (hrm : ((rest.map (q_v G)).map fun v => v.category).sum ≤ 8)
    (hc : ∀ x, op = some x → q_CT G l y bytes mL ret' fr' lo' As h x.1 (en x.2))
    (k : ∀ x, op = some x → q_J G l (own, cc, nL, fr, lo, ret, nm, tab) k0 z0 Z (pc + 3) lv ((en x.2).toList ++ rest) x.1 (g x)) : q_J G l (own, cc, nL, fr, lo, ret, nm, tab) k0 z0 Z pc lv st h (Option.bind op g) :=
  j_call (rest := rest) hc (fun x hx M hM C H locs cells slots ls hRp hlv hce hsl => by
    obtain ⟨hle, hMt⟩ := hc x hx
    rw [← hM] at hMt
    refine va_runSN (host := host) (As := As.map (q_v G)) (rest := rest.map (q_v G)) ⟨C.1, C.2.1, C.2.2.1, C.2.2.2.1, C.2.2.2.2.1⟩ hMt
      ⟨va_cnB n C.2.2.2.2.1 (q_goodTB Y.1) rfl rfl rfl (C.2.2.2.2.2.1.2.1 _ hl) (C.2.2.2.2.1 _ Y.2.1) ⟨Y.2.2.1, Y.2.2.2.1, Y.2.2.2.2.1⟩ ⟨by rw [C.2.2.2.2.2.2.2.1]; exact hR.1, by rw [C.2.2.2.2.2.2.2.2.1]; exact hR.2⟩, C.2.2.2.2.1 _ hi, trivial⟩
      ⟨q_blind _ _ _, fun U hU hW => ⟨rfl, by rw [hU]; exact hRp, q_K.warm hW C.2.2.2.2.2.1⟩⟩ rfl (by rw [List.length_map]; exact hn) hlv.1 (by rw [hst]; show _ = _; rw [List.map_append, List.map_reverse]) (lv_room hrm) d ⟨hce, hsl⟩) k
theorem j_cIN  {β : Type} {en : β → Option Value} {op : Option (q_H × β)} {g : q_H × β → Option (q_H × α)} {y : MethodName} {bytes : ByteArray} {mL fr' lo' n idx b : Nat} {host : String} {As rest : List Value} (Y : q_Y y bytes mL none n) (hnm : y.name = "<init>") (hl : Cond.methodLinkNest own idx y host ∈ q_nw) (hi : Cond.instanceMethod y ∈ q_tb) (hR : fr' + 1 ≤ fr ∧ 8 + (mL + 11) + lo' ≤ lo) (d : decode cc pc = .ok (.invokespecial idx, 3)) (hn : As.length = n) (hst : st = As.reverse ++ .ref b :: rest) (hrm : ((rest.map (q_v G)).map fun v => v.category).sum ≤ 8)
    (hc : ∀ x, op = some x → q_CT G l y bytes mL none fr' lo' (.ref b :: As) h x.1 (en x.2))
    (k : ∀ x, op = some x → q_J G l (own, cc, nL, fr, lo, ret, nm, tab) k0 z0 Z (pc + 3) lv ((en x.2).toList ++ rest) x.1 (g x)) : q_J G l (own, cc, nL, fr, lo, ret, nm, tab) k0 z0 Z pc lv st h (Option.bind op g) :=
  j_call (rest := rest) hc (fun x hx M hM C H locs cells slots ls hRp hlv hce hsl => by
    obtain ⟨hle, hMt⟩ := hc x hx
    rw [← hM] at hMt
    refine va_runIN (host := host) (b := G.1 + b) (As := As.map (q_v G)) (rest := rest.map (q_v G)) ⟨C.1, C.2.1, C.2.2.1, C.2.2.2.1, C.2.2.2.2.1⟩ hMt
      ⟨va_cnB n C.2.2.2.2.1 (q_goodTB Y.1) rfl rfl rfl (C.2.2.2.2.2.1.2.1 _ hl) (C.2.2.2.2.1 _ Y.2.1) ⟨Y.2.2.1, Y.2.2.2.1, Y.2.2.2.2.1⟩ ⟨by rw [C.2.2.2.2.2.2.2.1]; exact hR.1, by rw [C.2.2.2.2.2.2.2.2.1]; exact hR.2⟩, hnm, C.2.2.2.2.1 _ hi⟩
      ⟨q_blind _ _ _, fun U hU hW => ⟨rfl, by rw [hU]; exact hRp, q_K.warm hW C.2.2.2.2.2.1⟩⟩ rfl (by rw [List.length_map]; exact hn) hlv.1 (by rw [hst]; show _ = _; rw [List.map_append, List.map_reverse]; rfl) (lv_room hrm) d ⟨hce, hsl⟩) k

theorem j_cVi {op : Option (q_H × Int32)} {g : q_H × Int32 → Option (q_H × α)} {y : MethodName} {bytes : ByteArray} {mL fr' lo' n idx ci b : Nat} {ret' : Option FieldType} {As rest : List Value} {r : vw_C} (Y : q_Y y bytes mL ret' n) (hcl : vwCl[ci]? = some r) (hyc : y.cls = r.1) (hl : Cond.methodLink own idx y ∈ q_tb) (hi : Cond.instanceMethod y ∈ q_tb) (hse : Cond.selects y.cls y y ∈ q_tb) (hR : fr' + 1 ≤ fr ∧ 8 + (mL + 11) + lo' ≤ lo) (d : decode cc pc = .ok (.invokevirtual idx, 3)) (hn : As.length = n) (hst : st = As.reverse ++ .ref b :: rest) (hrm : ((rest.map (q_v G)).map fun v => v.category).sum ≤ 8) (hc : ∀ x, op = some x → (∃ fs, h.1 b = .inr (ci, fs)) ∧ q_CT G l y bytes mL ret' fr' lo' (.ref b :: As) h x.1 (q_i x.2)) (k : ∀ x, op = some x → q_J G l (own, cc, nL, fr, lo, ret, nm, tab) k0 z0 Z (pc + 3) lv (.int x.2 :: rest) x.1 (g x)) : q_J G l (own, cc, nL, fr, lo, ret, nm, tab) k0 z0 Z pc lv st h (Option.bind op g) := j_cV (en := q_i) Y hcl hyc hl hi hse hR d hn hst hrm hc k
theorem j_cVl {op : Option (q_H × Int64)} {g : q_H × Int64 → Option (q_H × α)} {y : MethodName} {bytes : ByteArray} {mL fr' lo' n idx ci b : Nat} {ret' : Option FieldType} {As rest : List Value} {r : vw_C} (Y : q_Y y bytes mL ret' n) (hcl : vwCl[ci]? = some r) (hyc : y.cls = r.1) (hl : Cond.methodLink own idx y ∈ q_tb) (hi : Cond.instanceMethod y ∈ q_tb) (hse : Cond.selects y.cls y y ∈ q_tb) (hR : fr' + 1 ≤ fr ∧ 8 + (mL + 11) + lo' ≤ lo) (d : decode cc pc = .ok (.invokevirtual idx, 3)) (hn : As.length = n) (hst : st = As.reverse ++ .ref b :: rest) (hrm : ((rest.map (q_v G)).map fun v => v.category).sum ≤ 8) (hc : ∀ x, op = some x → (∃ fs, h.1 b = .inr (ci, fs)) ∧ q_CT G l y bytes mL ret' fr' lo' (.ref b :: As) h x.1 (q_l x.2)) (k : ∀ x, op = some x → q_J G l (own, cc, nL, fr, lo, ret, nm, tab) k0 z0 Z (pc + 3) lv (.long x.2 :: rest) x.1 (g x)) : q_J G l (own, cc, nL, fr, lo, ret, nm, tab) k0 z0 Z pc lv st h (Option.bind op g) := j_cV (en := q_l) Y hcl hyc hl hi hse hR d hn hst hrm hc k
theorem j_cVr {op : Option (q_H × Nat)} {g : q_H × Nat → Option (q_H × α)} {y : MethodName} {bytes : ByteArray} {mL fr' lo' n idx ci b : Nat} {ret' : Option FieldType} {As rest : List Value} {r : vw_C} (Y : q_Y y bytes mL ret' n) (hcl : vwCl[ci]? = some r) (hyc : y.cls = r.1) (hl : Cond.methodLink own idx y ∈ q_tb) (hi : Cond.instanceMethod y ∈ q_tb) (hse : Cond.selects y.cls y y ∈ q_tb) (hR : fr' + 1 ≤ fr ∧ 8 + (mL + 11) + lo' ≤ lo) (d : decode cc pc = .ok (.invokevirtual idx, 3)) (hn : As.length = n) (hst : st = As.reverse ++ .ref b :: rest) (hrm : ((rest.map (q_v G)).map fun v => v.category).sum ≤ 8) (hc : ∀ x, op = some x → (∃ fs, h.1 b = .inr (ci, fs)) ∧ q_CT G l y bytes mL ret' fr' lo' (.ref b :: As) h x.1 (q_r x.2)) (k : ∀ x, op = some x → q_J G l (own, cc, nL, fr, lo, ret, nm, tab) k0 z0 Z (pc + 3) lv (.ref x.2 :: rest) x.1 (g x)) : q_J G l (own, cc, nL, fr, lo, ret, nm, tab) k0 z0 Z pc lv st h (Option.bind op g) := j_cV (en := q_r) Y hcl hyc hl hi hse hR d hn hst hrm hc k
theorem j_cVu {op : Option (q_H × Unit)} {g : q_H × Unit → Option (q_H × α)} {y : MethodName} {bytes : ByteArray} {mL fr' lo' n idx ci b : Nat} {ret' : Option FieldType} {As rest : List Value} {r : vw_C} (Y : q_Y y bytes mL ret' n) (hcl : vwCl[ci]? = some r) (hyc : y.cls = r.1) (hl : Cond.methodLink own idx y ∈ q_tb) (hi : Cond.instanceMethod y ∈ q_tb) (hse : Cond.selects y.cls y y ∈ q_tb) (hR : fr' + 1 ≤ fr ∧ 8 + (mL + 11) + lo' ≤ lo) (d : decode cc pc = .ok (.invokevirtual idx, 3)) (hn : As.length = n) (hst : st = As.reverse ++ .ref b :: rest) (hrm : ((rest.map (q_v G)).map fun v => v.category).sum ≤ 8) (hc : ∀ x, op = some x → (∃ fs, h.1 b = .inr (ci, fs)) ∧ q_CT G l y bytes mL ret' fr' lo' (.ref b :: As) h x.1 (q_u x.2)) (k : ∀ x, op = some x → q_J G l (own, cc, nL, fr, lo, ret, nm, tab) k0 z0 Z (pc + 3) lv (rest) x.1 (g x)) : q_J G l (own, cc, nL, fr, lo, ret, nm, tab) k0 z0 Z pc lv st h (Option.bind op g) := j_cV (en := q_u) Y hcl hyc hl hi hse hR d hn hst hrm hc k
theorem j_cSi {op : Option (q_H × Int32)} {g : q_H × Int32 → Option (q_H × α)} {y : MethodName} {bytes : ByteArray} {mL fr' lo' n idx : Nat} {ret' : Option FieldType} {As rest : List Value} (Y : q_Y y bytes mL ret' n) (hl : Cond.methodLink own idx y ∈ q_tb) (hi : Cond.static y ∈ q_tb) (hR : fr' + 1 ≤ fr ∧ 8 + (mL + 11) + lo' ≤ lo) (d : decode cc pc = .ok (.invokestatic idx, 3)) (hn : As.length = n) (hst : st = As.reverse ++ rest) (hrm : ((rest.map (q_v G)).map fun v => v.category).sum ≤ 8) (hc : ∀ x, op = some x → q_CT G l y bytes mL ret' fr' lo' As h x.1 (q_i x.2)) (k : ∀ x, op = some x → q_J G l (own, cc, nL, fr, lo, ret, nm, tab) k0 z0 Z (pc + 3) lv (.int x.2 :: rest) x.1 (g x)) : q_J G l (own, cc, nL, fr, lo, ret, nm, tab) k0 z0 Z pc lv st h (Option.bind op g) := j_cS (en := q_i) Y hl hi hR d hn hst hrm hc k
theorem j_cSl {op : Option (q_H × Int64)} {g : q_H × Int64 → Option (q_H × α)} {y : MethodName} {bytes : ByteArray} {mL fr' lo' n idx : Nat} {ret' : Option FieldType} {As rest : List Value} (Y : q_Y y bytes mL ret' n) (hl : Cond.methodLink own idx y ∈ q_tb) (hi : Cond.static y ∈ q_tb) (hR : fr' + 1 ≤ fr ∧ 8 + (mL + 11) + lo' ≤ lo) (d : decode cc pc = .ok (.invokestatic idx, 3)) (hn : As.length = n) (hst : st = As.reverse ++ rest) (hrm : ((rest.map (q_v G)).map fun v => v.category).sum ≤ 8) (hc : ∀ x, op = some x → q_CT G l y bytes mL ret' fr' lo' As h x.1 (q_l x.2)) (k : ∀ x, op = some x → q_J G l (own, cc, nL, fr, lo, ret, nm, tab) k0 z0 Z (pc + 3) lv (.long x.2 :: rest) x.1 (g x)) : q_J G l (own, cc, nL, fr, lo, ret, nm, tab) k0 z0 Z pc lv st h (Option.bind op g) := j_cS (en := q_l) Y hl hi hR d hn hst hrm hc k
theorem j_cSr {op : Option (q_H × Nat)} {g : q_H × Nat → Option (q_H × α)} {y : MethodName} {bytes : ByteArray} {mL fr' lo' n idx : Nat} {ret' : Option FieldType} {As rest : List Value} (Y : q_Y y bytes mL ret' n) (hl : Cond.methodLink own idx y ∈ q_tb) (hi : Cond.static y ∈ q_tb) (hR : fr' + 1 ≤ fr ∧ 8 + (mL + 11) + lo' ≤ lo) (d : decode cc pc = .ok (.invokestatic idx, 3)) (hn : As.length = n) (hst : st = As.reverse ++ rest) (hrm : ((rest.map (q_v G)).map fun v => v.category).sum ≤ 8) (hc : ∀ x, op = some x → q_CT G l y bytes mL ret' fr' lo' As h x.1 (q_r x.2)) (k : ∀ x, op = some x → q_J G l (own, cc, nL, fr, lo, ret, nm, tab) k0 z0 Z (pc + 3) lv (.ref x.2 :: rest) x.1 (g x)) : q_J G l (own, cc, nL, fr, lo, ret, nm, tab) k0 z0 Z pc lv st h (Option.bind op g) := j_cS (en := q_r) Y hl hi hR d hn hst hrm hc k
theorem j_cSu {op : Option (q_H × Unit)} {g : q_H × Unit → Option (q_H × α)} {y : MethodName} {bytes : ByteArray} {mL fr' lo' n idx : Nat} {ret' : Option FieldType} {As rest : List Value} (Y : q_Y y bytes mL ret' n) (hl : Cond.methodLink own idx y ∈ q_tb) (hi : Cond.static y ∈ q_tb) (hR : fr' + 1 ≤ fr ∧ 8 + (mL + 11) + lo' ≤ lo) (d : decode cc pc = .ok (.invokestatic idx, 3)) (hn : As.length = n) (hst : st = As.reverse ++ rest) (hrm : ((rest.map (q_v G)).map fun v => v.category).sum ≤ 8) (hc : ∀ x, op = some x → q_CT G l y bytes mL ret' fr' lo' As h x.1 (q_u x.2)) (k : ∀ x, op = some x → q_J G l (own, cc, nL, fr, lo, ret, nm, tab) k0 z0 Z (pc + 3) lv (rest) x.1 (g x)) : q_J G l (own, cc, nL, fr, lo, ret, nm, tab) k0 z0 Z pc lv st h (Option.bind op g) := j_cS (en := q_u) Y hl hi hR d hn hst hrm hc k
theorem j_cSNi {op : Option (q_H × Int32)} {g : q_H × Int32 → Option (q_H × α)} {y : MethodName} {bytes : ByteArray} {mL fr' lo' n idx : Nat} {ret' : Option FieldType} {host : String} {As rest : List Value} (Y : q_Y y bytes mL ret' n) (hl : Cond.methodLinkNest own idx y host ∈ q_nw) (hi : Cond.static y ∈ q_tb) (hR : fr' + 1 ≤ fr ∧ 8 + (mL + 11) + lo' ≤ lo) (d : decode cc pc = .ok (.invokestatic idx, 3)) (hn : As.length = n) (hst : st = As.reverse ++ rest) (hrm : ((rest.map (q_v G)).map fun v => v.category).sum ≤ 8) (hc : ∀ x, op = some x → q_CT G l y bytes mL ret' fr' lo' As h x.1 (q_i x.2)) (k : ∀ x, op = some x → q_J G l (own, cc, nL, fr, lo, ret, nm, tab) k0 z0 Z (pc + 3) lv (.int x.2 :: rest) x.1 (g x)) : q_J G l (own, cc, nL, fr, lo, ret, nm, tab) k0 z0 Z pc lv st h (Option.bind op g) := j_cSN (en := q_i) Y hl hi hR d hn hst hrm hc k
theorem j_cSNl {op : Option (q_H × Int64)} {g : q_H × Int64 → Option (q_H × α)} {y : MethodName} {bytes : ByteArray} {mL fr' lo' n idx : Nat} {ret' : Option FieldType} {host : String} {As rest : List Value} (Y : q_Y y bytes mL ret' n) (hl : Cond.methodLinkNest own idx y host ∈ q_nw) (hi : Cond.static y ∈ q_tb) (hR : fr' + 1 ≤ fr ∧ 8 + (mL + 11) + lo' ≤ lo) (d : decode cc pc = .ok (.invokestatic idx, 3)) (hn : As.length = n) (hst : st = As.reverse ++ rest) (hrm : ((rest.map (q_v G)).map fun v => v.category).sum ≤ 8) (hc : ∀ x, op = some x → q_CT G l y bytes mL ret' fr' lo' As h x.1 (q_l x.2)) (k : ∀ x, op = some x → q_J G l (own, cc, nL, fr, lo, ret, nm, tab) k0 z0 Z (pc + 3) lv (.long x.2 :: rest) x.1 (g x)) : q_J G l (own, cc, nL, fr, lo, ret, nm, tab) k0 z0 Z pc lv st h (Option.bind op g) := j_cSN (en := q_l) Y hl hi hR d hn hst hrm hc k
theorem j_cSNr {op : Option (q_H × Nat)} {g : q_H × Nat → Option (q_H × α)} {y : MethodName} {bytes : ByteArray} {mL fr' lo' n idx : Nat} {ret' : Option FieldType} {host : String} {As rest : List Value} (Y : q_Y y bytes mL ret' n) (hl : Cond.methodLinkNest own idx y host ∈ q_nw) (hi : Cond.static y ∈ q_tb) (hR : fr' + 1 ≤ fr ∧ 8 + (mL + 11) + lo' ≤ lo) (d : decode cc pc = .ok (.invokestatic idx, 3)) (hn : As.length = n) (hst : st = As.reverse ++ rest) (hrm : ((rest.map (q_v G)).map fun v => v.category).sum ≤ 8) (hc : ∀ x, op = some x → q_CT G l y bytes mL ret' fr' lo' As h x.1 (q_r x.2)) (k : ∀ x, op = some x → q_J G l (own, cc, nL, fr, lo, ret, nm, tab) k0 z0 Z (pc + 3) lv (.ref x.2 :: rest) x.1 (g x)) : q_J G l (own, cc, nL, fr, lo, ret, nm, tab) k0 z0 Z pc lv st h (Option.bind op g) := j_cSN (en := q_r) Y hl hi hR d hn hst hrm hc k
theorem j_cSNu {op : Option (q_H × Unit)} {g : q_H × Unit → Option (q_H × α)} {y : MethodName} {bytes : ByteArray} {mL fr' lo' n idx : Nat} {ret' : Option FieldType} {host : String} {As rest : List Value} (Y : q_Y y bytes mL ret' n) (hl : Cond.methodLinkNest own idx y host ∈ q_nw) (hi : Cond.static y ∈ q_tb) (hR : fr' + 1 ≤ fr ∧ 8 + (mL + 11) + lo' ≤ lo) (d : decode cc pc = .ok (.invokestatic idx, 3)) (hn : As.length = n) (hst : st = As.reverse ++ rest) (hrm : ((rest.map (q_v G)).map fun v => v.category).sum ≤ 8) (hc : ∀ x, op = some x → q_CT G l y bytes mL ret' fr' lo' As h x.1 (q_u x.2)) (k : ∀ x, op = some x → q_J G l (own, cc, nL, fr, lo, ret, nm, tab) k0 z0 Z (pc + 3) lv (rest) x.1 (g x)) : q_J G l (own, cc, nL, fr, lo, ret, nm, tab) k0 z0 Z pc lv st h (Option.bind op g) := j_cSN (en := q_u) Y hl hi hR d hn hst hrm hc k
theorem j_cIu {op : Option (q_H × Unit)} {g : q_H × Unit → Option (q_H × α)} {y : MethodName} {bytes : ByteArray} {mL fr' lo' n idx b : Nat} {As rest : List Value} (Y : q_Y y bytes mL none n) (hnm : y.name = "<init>") (hl : Cond.methodLink own idx y ∈ q_tb) (hi : Cond.instanceMethod y ∈ q_tb) (hR : fr' + 1 ≤ fr ∧ 8 + (mL + 11) + lo' ≤ lo) (d : decode cc pc = .ok (.invokespecial idx, 3)) (hn : As.length = n) (hst : st = As.reverse ++ .ref b :: rest) (hrm : ((rest.map (q_v G)).map fun v => v.category).sum ≤ 8) (hc : ∀ x, op = some x → q_CT G l y bytes mL none fr' lo' (.ref b :: As) h x.1 (q_u x.2)) (k : ∀ x, op = some x → q_J G l (own, cc, nL, fr, lo, ret, nm, tab) k0 z0 Z (pc + 3) lv (rest) x.1 (g x)) : q_J G l (own, cc, nL, fr, lo, ret, nm, tab) k0 z0 Z pc lv st h (Option.bind op g) := j_cI (en := q_u) Y hnm hl hi hR d hn hst hrm hc k
theorem j_cINu {op : Option (q_H × Unit)} {g : q_H × Unit → Option (q_H × α)} {y : MethodName} {bytes : ByteArray} {mL fr' lo' n idx b : Nat} {host : String} {As rest : List Value} (Y : q_Y y bytes mL none n) (hnm : y.name = "<init>") (hl : Cond.methodLinkNest own idx y host ∈ q_nw) (hi : Cond.instanceMethod y ∈ q_tb) (hR : fr' + 1 ≤ fr ∧ 8 + (mL + 11) + lo' ≤ lo) (d : decode cc pc = .ok (.invokespecial idx, 3)) (hn : As.length = n) (hst : st = As.reverse ++ .ref b :: rest) (hrm : ((rest.map (q_v G)).map fun v => v.category).sum ≤ 8) (hc : ∀ x, op = some x → q_CT G l y bytes mL none fr' lo' (.ref b :: As) h x.1 (q_u x.2)) (k : ∀ x, op = some x → q_J G l (own, cc, nL, fr, lo, ret, nm, tab) k0 z0 Z (pc + 3) lv (rest) x.1 (g x)) : q_J G l (own, cc, nL, fr, lo, ret, nm, tab) k0 z0 Z pc lv st h (Option.bind op g) := j_cIN (en := q_u) Y hnm hl hi hR d hn hst hrm hc k
theorem j_inc {i p : Nat} {n : Int} {x c : Int32} (hp : lv[p]? = some (i, .int x)) (hc : Int32.ofInt n = c) (hn : i < nL) (hf : (i, Value.int (x + c)) :: lv.filter (q_f1 i) = lv') (d : decode cc pc = .ok (.iinc i n, 3)) (k : q_J G l (own, cc, nL, fr, lo, ret, nm, tab) k0 z0 Z (pc + 3) lv' st h f) : q_J G l (own, cc, nL, fr, lo, ret, nm, tab) k0 z0 Z pc lv st h f := j_iinc hp (by rw [hc]) hn hf d k
def q_pZ (ci k : Nat) (h : q_H) (a : Nat) (x : Int32) : Option q_H := if x = 0 ∨ x = 1 then q_p ci k h a (.int x) else none
theorem j_putZ {C' : String} {T : u_T} {N ci k a idx : Nat} {ty : Nat → FieldType} {x : Int32} {g : q_H → Option (q_H × α)} (F : q_FI ci C' T N ty) (hk : k < N) (lk : Cond.fieldLink own idx (T k).1 (T k).2.1 (T k).2.2.1 ∈ q_tb) (hfin : (T k).2.2.2 = false) (hty : ty k = .boolean) (d : decode cc pc = .ok (.putfield idx, 3)) (kk : ∀ y, q_pZ ci k h a x = some y → q_J G l (own, cc, nL, fr, lo, ret, nm, tab) k0 z0 Z (pc + 3) lv st y (g y)) : q_J G l (own, cc, nL, fr, lo, ret, nm, tab) k0 z0 Z pc lv (.int x :: .ref a :: st) h (Option.bind (q_pZ ci k h a x) g) := by
  by_cases hx : x = 0 ∨ x = 1
  · have e : q_pZ ci k h a x = q_p ci k h a (.int x) := if_pos hx
    rw [e] at kk ⊢
    refine j_put F hk lk hfin ?_ ?_ d kk
    · rw [hty]; rcases hx with rfl | rfl <;> rfl
    · rw [hty]; rcases hx with rfl | rfl <;> rfl
  · have e : q_pZ ci k h a x = none := if_neg hx
    rw [e]
    exact j_none
theorem j_iret  {v : Int32} (hr : ret = some .int) (d : decode cc pc = .ok (.ireturn, 1)) : q_J G l (own, cc, nL, fr, lo, ret, nm, tab) k0 z0 (q_Z G k0 z0 q_i) pc lv [.int v] h (some (h, v)) := fun q hq => by
  cases hq
  exact ⟨q_le.rf, fun M hM C a1 a2 a3 a4 H locs ls b1 b2 b3 => W.iret C.1 C.2.1 (C.2.2.2.2.2.2.2.2.2.1.trans hr) (fun t ht hW => ⟨rfl, by rw [ht]; exact b1⟩) b2 d C.2.2.2.2.2.2.1⟩
theorem j_lret  {v : Int64} (hr : ret = some .long) (d : decode cc pc = .ok (.lreturn, 1)) : q_J G l (own, cc, nL, fr, lo, ret, nm, tab) k0 z0 (q_Z G k0 z0 q_l) pc lv [.long v] h (some (h, v)) := fun q hq => by
  cases hq
  exact ⟨q_le.rf, fun M hM C a1 a2 a3 a4 H locs ls b1 b2 b3 => W.lret C.1 C.2.1 (C.2.2.2.2.2.2.2.2.2.1.trans hr) (fun t ht hW => ⟨rfl, by rw [ht]; exact b1⟩) b2 d C.2.2.2.2.2.2.1⟩
theorem j_vret  (hr : ret = none) (d : decode cc pc = .ok (.return_, 1)) : q_J G l (own, cc, nL, fr, lo, ret, nm, tab) k0 z0 (q_Z G k0 z0 q_u) pc lv [] h (some (h, ())) := fun q hq => by
  cases hq
  exact ⟨q_le.rf, fun M hM C a1 a2 a3 a4 H locs ls b1 b2 b3 => W.vret C.1 C.2.1 (C.2.2.2.2.2.2.2.2.2.1.trans hr) (fun t ht hW => ⟨rfl, by rw [ht]; exact b1⟩) b2 d C.2.2.2.2.2.2.1⟩
theorem j_aret  {a : Nat} {rt : FieldType} (hr : ret = some rt) (hrt : (∃ n, rt = .object n) ∨ ∃ t, rt = .array t) (d : decode cc pc = .ok (.areturn, 1)) : q_J G l (own, cc, nL, fr, lo, ret, nm, tab) k0 z0 (q_Z G k0 z0 q_r) pc lv [.ref a] h (some (h, a)) := fun q hq => by
  cases hq
  exact ⟨q_le.rf, fun M hM C a1 a2 a3 a4 H locs ls b1 b2 b3 => W.aret C.1 C.2.1 (C.2.2.2.2.2.2.2.2.2.1.trans hr) hrt (Or.inr ⟨_, rfl⟩) (fun t ht hW => ⟨rfl, by rw [ht]; exact b1⟩) b2 d C.2.2.2.2.2.2.1⟩
theorem q_zret {p : Program} {l : Launch} {e : Env} {R : Room} {s : State} {m : MethodId} {args : Array Value} {below : List Frame} {meth : Method} {c : Code} {H : Heap} {locs : List Loc} {cells slots : Nat} {Qc : Array Value → State → Outcome → State → Prop} {free : Addr → Prop} {v v' : Int32} {ty : FieldType} (hexec : p.tables.exec = Jvm.exec) (hb : c.code = cc) (hr : meth.sig.returnType = some ty) (hn : narrow ty (.int v) = .int v')
    (hq : ∀ t : State, t.heap = H → s.WarmedH t.vm → Qc args s (.returned (some (.int v'))) t) (hf : ∀ q ∈ locs, free q.base)
    {ls : Array Slot} (hdg : decode cc pc = .ok (.ireturn, 1)) (hlocks : meth.locks = false) : W p l e R s m args below meth c H locs cells slots (MQ below Qc args s cells slots free) (F0 m pc ls [.int v]) := by
  intro T hT X
  obtain ⟨fs, hret, hrun, hended, hW, hframe⟩ := X.leave (v := some (.int v')) (hlocks := hlocks) (fun h => by rw [hr] at h; cases h)
  have hmeth' : T.vm.method? m = some meth := X.method'
  refine ⟨T.setFrames fs, ?_, .returned (some (.int v')), hrun, hended, hq _ hT hW, locs, ⟨⟨_, rfl⟩, hW, hframe⟩, hf⟩
  jvm_step X.here [X.here.top, hexec, hb, hdg, hmeth', hr, hn]
  (try refine ⟨rfl, ?_⟩); (try refine ⟨rfl, ?_⟩)
  first | (intro acts; rw [hret _ acts rfl rfl rfl]) | rw [hret _ _ rfl rfl rfl]
  exact Steps.refl _
theorem j_zret  {v v' : Int32} (hr : ret = some .boolean) (hn : narrow .boolean (.int v) = .int v') (d : decode cc pc = .ok (.ireturn, 1)) : q_J G l (own, cc, nL, fr, lo, ret, nm, tab) k0 z0 (q_Z G k0 z0 q_i) pc lv [.int v] h (some (h, v')) := fun q hq => by
  cases hq
  exact ⟨q_le.rf, fun M hM C a1 a2 a3 a4 H locs ls b1 b2 b3 => q_zret C.1 C.2.1 (C.2.2.2.2.2.2.2.2.2.1.trans hr) hn (fun t ht hW => ⟨rfl, by rw [ht]; exact b1⟩) b2 d C.2.2.2.2.2.2.1⟩
end QC
/-- a method's contract out of its judgement -/
theorem q_ofJ {G : q_G} {l : Launch} {y : MethodName} {bytes : ByteArray} {mL n fr lo : Nat} {ret : Option FieldType} {av : List Value} {h : q_H} {α : Type} {en : α → Option Value} {f : Option (q_H × α)} (Y : q_Y y bytes mL ret n) (hlen : (lg_sl (av.map (q_v G))).length ≤ mL)
    (hJ : q_J G l (y.cls, bytes, mL, fr, lo, ret, y.name, []) h.2.2.1 h.2.2.2 (q_Z G h.2.2.1 h.2.2.2 en) 0 (lv_args 0 av) [] h f) :
    ∀ q, f = some q → q_CT G l y bytes mL ret fr lo av h q.1 (en q.2) := by
  intro q hq
  obtain ⟨hle, hW⟩ := hJ q hq
  refine ⟨hle, ?_⟩
  refine Met.ofW (cc := bytes) (maxL := mL) (ret := ret) Y.2.2.2.2.2 rfl ?_
  intro p e s m args below meth c s₁ B hml hv
  obtain ⟨rfl, hR, hK⟩ := hv
  have hts := atoms_spec (ws := Cond.code y bytes mL ret :: q_tb) B.pre
  have hown : s.vm.findClass y.cls = some m.cls := findClass_of_methodNamed B.named
  have htab : c.exceptionTable.toList = [] := by
    obtain ⟨meth9, c9, h1, h2, -, -, -, -, h7, -⟩ := Cond.code_spec B.named (hts _ List.mem_cons_self)
    cases Option.some.inj (h1.symm.trans B.method)
    cases Option.some.inj (h2.symm.trans (Stand.of_body B).code)
    rw [Array.isEmpty_iff.mp h7]
  have hC : q_C G (p, l, e, (headSpec (Cond.code y bytes mL ret :: q_tb) { frames := fr, cells := q.1.2.2.1 - h.2.2.1, slots := q.1.2.2.2 - h.2.2.2, locals := lo }).room, s, m, (av.map (q_v G)).toArray, below, meth, c) (y.cls, bytes, mL, fr, lo, ret, y.name, []) :=
    ⟨B.exec, B.bytes, hml, hown, fun w hw => hts w (List.mem_cons_of_mem _ hw), hK, B.notSynchronized, rfl, rfl, B.returns, (name_of_methodNamed B.named B.method).1, htab, hR.2.2⟩
  have hl := lv_entry (av.map (q_v G)) (n := mL) hlen
  rw [lg_entry_eq]
  rw [q_args] at hl
  have := hW _ rfl hC (Nat.le_refl _) (Nat.le_refl _) (Nat.le_refl _) (Nat.le_refl _) s.heap [] _ hR (fun x hx => by cases hx) hl
  rw [Nat.sub_self, Nat.sub_self] at this
  exact this

