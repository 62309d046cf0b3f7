/-! METHODS THAT THROW, AND THEIR CATCHING -/
theorem ini_NS : Cond.initialized "java/util/NoSuchElementException" ∈ q_tb := q_inT1 (i := 15) (by decide +kernel) rfl
def hh_L_entry : List (Nat × Nat × Nat × Nat) := [((0), (12), (15), (13))]
theorem Y_L_entry : Cond.codeWith yL_entry cL_entry 6 (some .int) hh_L_entry ∈ q_tb ∧ Cond.initialized yL_entry.cls ∈ q_tb ∧ yL_entry.cls ≠ "java/lang/invoke/MethodHandle" ∧ yL_entry.cls ≠ "java/lang/invoke/VarHandle" ∧ (parseMethodDescriptor yL_entry.desc).map (fun d => d.parameters.length) = some 5 ∧ plainName yL_entry.cls = true := ⟨q_inT4 (i := 84) (by decide +kernel) rfl, ini_L, by decide, by decide, by decide +kernel, by decide⟩
theorem cl_L_13 : Cond.classLink RL 13 "java/util/NoSuchElementException" ∈ q_tb := q_inT4 (i := 85) (by decide +kernel) rfl
theorem cl_X9_79 : Cond.classLink RX9 79 "java/util/NoSuchElementException" ∈ q_tb := q_inT4 (i := 90) (by decide +kernel) rfl
theorem cs_NS : Cond.castable "java/util/NoSuchElementException" "java/util/NoSuchElementException" ∈ q_nw := q_inN4 (i := 92) (by decide +kernel) rfl
def hh_L_move : List (Nat × Nat × Nat × Nat) := [((0), (12), (15), (13))]
theorem Y_L_move : Cond.codeWith yL_move cL_move 6 (some .int) hh_L_move ∈ q_tb ∧ Cond.initialized yL_move.cls ∈ q_tb ∧ yL_move.cls ≠ "java/lang/invoke/MethodHandle" ∧ yL_move.cls ≠ "java/lang/invoke/VarHandle" ∧ (parseMethodDescriptor yL_move.desc).map (fun d => d.parameters.length) = some 5 ∧ plainName yL_move.cls = true := ⟨q_inT4 (i := 156) (by decide +kernel) rfl, ini_L, by decide, by decide, by decide +kernel, by decide⟩
def hh_L_row : List (Nat × Nat × Nat × Nat) := [((0), (8), (11), (13))]
theorem Y_L_row : Cond.codeWith yL_row cL_row 4 (some .int) hh_L_row ∈ q_tb ∧ Cond.initialized yL_row.cls ∈ q_tb ∧ yL_row.cls ≠ "java/lang/invoke/MethodHandle" ∧ yL_row.cls ≠ "java/lang/invoke/VarHandle" ∧ (parseMethodDescriptor yL_row.desc).map (fun d => d.parameters.length) = some 3 ∧ plainName yL_row.cls = true := ⟨q_inT4 (i := 164) (by decide +kernel) rfl, ini_L, by decide, by decide, by decide +kernel, by decide⟩
theorem q_at9 : ∀ w ∈ vx_at0 RX9 81 "java/util/NoSuchElementException" ["java/lang/RuntimeException", "java/lang/Exception"], w ∈ q_tb ∨ w ∈ q_nw := by decide +kernel
theorem q_ot9 : ∀ w ∈ Cond.classLink RX9 79 "java/util/NoSuchElementException" :: Cond.initialized "java/util/NoSuchElementException" :: vx_at0 RX9 81 "java/util/NoSuchElementException" ["java/lang/RuntimeException", "java/lang/Exception"], vx_ot w = true := by decide +kernel
theorem q_nwo {w : Cond} (h : w ∈ q_nw) : w.onTables = true := by
  have h2 := (List.mem_filter.mp h).2
  unfold q_isN at h2
  split at h2
  · rfl
  · rfl
  · rfl
  · cases h2
/-- one cell of six slots more, that nobody reads -/
def q_th (h : q_H) : q_H := (h.1, h.2.1, h.2.2.1 + 1, h.2.2.2 + 6)
def q_XC (G : q_G) (h : q_H) : String → State → State → Prop := fun E _ t => E = "java/util/NoSuchElementException" ∧ q_R G h t.heap
def q_no : Array Value → State → Outcome → State → Prop := fun _ _ _ _ => False
def q_ZX (G : q_G) (k0 z0 : Nat) : q_M → q_H × Unit → State → Prop := fun M q => vx_MQ M.2.2.2.2.2.2.2.1 q_no (q_XC G q.1) M.2.2.2.2.2.2.1 M.2.2.2.2.1 (q.1.2.2.1 - k0) (q.1.2.2.2 - z0) (q_fr G)
/-- the contract of a run that throws -/
def q_CX (G : q_G) (l : Launch) (y : MethodName) (bytes : ByteArray) (mL : Nat) (ret : Option FieldType) (fr lo : Nat) (av : List Value) (h h1 : q_H) : Prop :=
  q_le h h1 ∧ vx_Met l y (Cond.code y bytes mL ret :: q_tb) { frames := fr, cells := h1.2.2.1 - h.2.2.1, slots := h1.2.2.2 - h.2.2.2, locals := lo } (q_P G av h) q_no (q_XC G h1) (h1.2.2.1 - h.2.2.1) (h1.2.2.2 - h.2.2.2) (q_fr G)
theorem q_R.grow {G : q_G} {h : q_H} {H H1 : Heap} (hR : q_R G h H) (hx : G.2.2.2.2.2.2.2 = false) (hz : H.size ≤ H1.size) (ho : ∀ q : Nat, q < H.size → H1[q]? = H[q]?) (k z : Nat) : q_R G (h.1, h.2.1, k, z) H1 := by
  have h1 := hR.1.1
  refine ⟨⟨Nat.le_trans h1 hz, fun e => by rw [hx] at e; cases e⟩, fun a ha => ?_, fun q hq => by rw [ho q (by omega)]; exact hR.2.2 q hq⟩
  obtain ⟨g1, g2⟩ := hR.2.1 a ha
  exact ⟨g1, va_at.kept g2 (ho _ (by simp only; omega))⟩
section QX
variable {G : q_G} {l : Launch} {own nm : String} {cc : ByteArray} {nL k0 z0 fr lo : Nat} {ret : Option FieldType} {tab : List ExceptionTableEntry} {α : Type} {Z : q_M → q_H × α → State → Prop} {pc : Nat} {lv lv' : List (Nat × Value)} {st : List Value} {h : q_H} {f : Option (q_H × α)}
theorem j_throw (hx : G.2.2.2.2.2.2.2 = false) (hl : l.stackTraces = false) (ho : own = RX9) (htab : tab = []) (hr : 5 < fr ∧ ((st.map (q_v G)).map fun v => v.category).sum + 81 ≤ lo) (d0 : decode cc pc = .ok (.new 79, 3)) (d3 : decode cc (pc + 3) = .ok (.dup, 1)) (d4 : decode cc (pc + 4) = .ok (.invokespecial 81, 3)) (d7 : decode cc (pc + 7) = .ok (.athrow, 1)) : q_J G l (own, cc, nL, fr, lo, ret, nm, tab) k0 z0 (q_ZX G k0 z0) pc lv st h (some (q_th h, ())) := fun q hq => by
  cases hq
  refine ⟨⟨Nat.le_refl _, Nat.le_succ _, Nat.le_add_right _ _⟩, fun M hM C a1 a2 a3 a4 H locs ls b1 b2 b3 => ?_⟩
  subst ho
  intro T hT X
  have hsz : M.2.2.2.2.1.heap.size ≤ H.size := by rw [← hT]; exact (vx_frame X.same).1
  have hpre := C.2.2.2.2.2.2.2.2.2.2.2.2
  have hS : va_S (q_fr G) M.2.2.2.2.1.heap H locs := ⟨hsz, fun q h1 h2 => (b1.2.2 q (Nat.not_le.mp h2)).trans (hpre q (Nat.not_le.mp h2)).symm, b2⟩
  have hkp : ∀ a : Nat, a < G.2.2.2.2.2.2.1.size → ¬ q_fr G a → M.2.2.2.2.1.heap[a]? = G.2.2.2.2.2.2.1[a]? := fun a _ hn => hpre a (Nat.not_le.mp hn)
  have hX := C.2.2.2.2.2.1.2.2.2
  have hts := C.2.2.2.2.1
  have t1 : (q_th h).2.2.1 - k0 = h.2.2.1 - k0 + 1 := by show h.2.2.1 + 1 - k0 = _; omega
  have t2 : (q_th h).2.2.2 - z0 = h.2.2.2 - z0 + 6 := by show h.2.2.2 + 6 - z0 = _; omega
  refine vx_throw0 (A := q_fr G) (ik := 79) (ic := 81) (own := RX9) (cls := "java/util/NoSuchElementException") (names := ["java/lang/RuntimeException", "java/lang/Exception"]) C.1 C.2.1 (by rw [hM]; exact hl) C.2.2.2.1 (by decide) (by decide) (hts _ cl_X9_79) (hts _ ini_NS) (fun w hw => ?_) q_ot9 (vx_Zq.kept hX.2.2.2.2.2.1 hkp) (vx_Zq.kept hX.2.2.2.2.2.2 hkp) hS (b3.1.trans C.2.2.1.symm) d0 d3 d4 d7 (fun x hx9 => ?_) (by rw [C.2.2.2.2.2.2.2.1]; exact hr.1) (by rw [C.2.2.2.2.2.2.2.2.1]; exact hr.2) (by rw [← t1]; exact a1) (by rw [← t2]; exact a2) C.2.2.2.2.2.2.1 (fun t hA h1 h2 => ⟨rfl, b1.grow hx h1 h2 _ _⟩) b2 (by rw [← t1]; exact Nat.le_refl _) (by rw [← t2]; exact Nat.le_refl _) T hT X
  · rcases q_at9 w hw with h9 | h9
    · exact hts w h9
    · exact va_Nw.use (q_nwo h9) (C.2.2.2.2.2.1.2.1 w h9)
  · rw [C.2.2.2.2.2.2.2.2.2.2.2.1, show (RX9, cc, nL, fr, lo, ret, nm, tab).2.2.2.2.2.2.2 = tab from rfl, htab] at hx9
    cases hx9
/-- a call that throws, caught by a handler that answers 1 -/
theorem j_cVx {tM : Option (q_H × Unit)} {y : MethodName} {bytes : ByteArray} {mL fr' lo' n idx ci b i : Nat} {ret' : Option FieldType} {As rest : List Value} {r : vw_C} {hh : Nat × Nat × Nat × Nat} (Y : q_Y y bytes mL ret' n) (hcl : vwCl[ci]? = some r) (hyc : y.cls = r.1) (hl : Cond.methodLink own idx y ∈ q_tb) (hi : Cond.instanceMethod y ∈ q_tb) (hse : Cond.selects y.cls y y ∈ q_tb) (hR : fr' + 1 ≤ fr ∧ 8 + (mL + 11) + lo' ≤ lo) (d : decode cc pc = .ok (.invokevirtual idx, 3)) (hn : As.length = n) (hst : st = As.reverse ++ .ref b :: rest) (hrm : ((rest.map (q_v G)).map fun v => v.category).sum ≤ 8)
    (hc : ∀ x, tM = some x → (∃ fs, h.1 b = .inr (ci, fs)) ∧ q_CX G l y bytes mL ret' fr' lo' (.ref b :: As) h x.1)
    (htab : tab = tableOf [hh]) (hcov : covers ⟨hh.1, hh.2.1, hh.2.2.1, hh.2.2.2⟩ pc = true) (hck : hh.2.2.2 = 13) (ho : own = RL) (hret : ret = some .int)
    (e0 : (decode cc hh.2.2.1 = .ok (.astore i, 2) ∧ decode cc (hh.2.2.1 + 2) = .ok (.iconst 1, 1) ∧ decode cc (hh.2.2.1 + 3) = .ok (.ireturn, 1)) ∨ ((∃ kk : Fin 4, (kk : Nat) = i ∧ decode cc hh.2.2.1 = .ok (.astore_n kk, 1)) ∧ decode cc (hh.2.2.1 + 1) = .ok (.iconst 1, 1) ∧ decode cc (hh.2.2.1 + 2) = .ok (.ireturn, 1))) (hiL : i < nL) : q_J G l (own, cc, nL, fr, lo, ret, nm, tab) k0 z0 (q_Z G k0 z0 q_i) pc lv st h (Option.bind tM (fun q => some (q.1, (1 : Int32)))) := fun q hq => by
  cases hop : tM with
  | none => rw [hop] at hq; cases hq
  | some x =>
    rw [hop] at hq
    cases hq
    obtain ⟨⟨fs, hb⟩, hle, hMt⟩ := hc x hop
    refine ⟨hle, fun M hM C a1 a2 a3 a4 H locs ls b1 b2 b3 => ?_⟩
    have l2 := hle.2.1
    have l3 := hle.2.2
    have ec : h.2.2.1 - k0 + (x.1.2.2.1 - h.2.2.1) = x.1.2.2.1 - k0 := by omega
    have es : h.2.2.2 - z0 + (x.1.2.2.2 - h.2.2.2) = x.1.2.2.2 - z0 := by omega
    rw [← hM] at hMt
    have hrun := vx_runV (e := M.2.2.1) (below := M.2.2.2.2.2.2.2.1) (meth := M.2.2.2.2.2.2.2.2.1) (H := H) (locs := locs) (cells := h.2.2.1 - k0) (slots := h.2.2.2 - z0) (C := y.cls) (As := As.map (q_v G)) (rest := rest.map (q_v G)) (b := G.1 + b) (g := F0 M.2.2.2.2.2.1 pc ls (st.map (q_v G))) ⟨C.1, C.2.1, C.2.2.1, C.2.2.2.1, C.2.2.2.2.1⟩ hMt
      ⟨callB_of n C.2.2.2.2.1 (q_goodTB Y.1) rfl rfl rfl (C.2.2.2.2.1 _ Y.2.1) (C.2.2.2.2.1 _ hl) ⟨Y.2.2.1, Y.2.2.2.1, Y.2.2.2.2.1⟩ ⟨by rw [C.2.2.2.2.2.2.2.1]; exact hR.1, by rw [C.2.2.2.2.2.2.2.2.1]; exact hR.2⟩, C.2.2.2.2.1 _ hi, C.2.2.2.2.1 _ hse⟩
      ⟨q_blind _ _ _, by rw [hyc]; exact q_recv C b1 hb hcl, fun U hU hW => ⟨rfl, by rw [hU]; exact b1, q_K.warm hW C.2.2.2.2.2.1⟩⟩ rfl (by rw [List.length_map]; exact hn) b3.1 (by rw [hst]; show _ = _; rw [List.map_append, List.map_reverse]; rfl) (lv_room hrm) d ⟨by rw [ec]; exact a1, by rw [es]; exact a2⟩
    intro T hT X
    rcases hrun T hT X with ⟨v, st₀, t, T', L, h0, X', hL, e1, e2, hF, -⟩ | ⟨qa, st₀, t, T', L, E, ce, h0, X', hL, e1, e2, ⟨hE, hR'⟩, hce, hcv, hcls, stp⟩
    · exact hF.elim
    · rw [ec, es] at X'
      subst hE
      subst ho
      have hlo : ∀ z ∈ locs ++ L, G.1 ≤ z.base := fun z hz => by
        rcases List.mem_append.mp hz with h' | h'
        · exact b2 z h'
        · exact hL z h'
      have htb : M.2.2.2.2.2.2.2.2.2.exceptionTable.toList = [] ++ (⟨hh.1, hh.2.1, hh.2.2.1, hh.2.2.2⟩ : ExceptionTableEntry) :: [] := by
        rw [C.2.2.2.2.2.2.2.2.2.2.2.1, show (RL, cc, nL, fr, lo, ret, nm, tab).2.2.2.2.2.2.2 = tab from rfl, htab]; rfl
      have hcatch := vx_catch (p := M.1) (l := M.2.1) (e := M.2.2.1) (R := M.2.2.2.1) (s := M.2.2.2.2.1) (m := M.2.2.2.2.2.1) (args := M.2.2.2.2.2.2.1) (below := M.2.2.2.2.2.2.2.1) (meth := M.2.2.2.2.2.2.2.2.1) (c := M.2.2.2.2.2.2.2.2.2) (H := T'.heap) (locs := locs ++ L) (cells := x.1.2.2.1 - k0) (slots := x.1.2.2.2 - z0) (Q := q_Z G k0 z0 q_i M (x.1, (1 : Int32))) (pc := pc) (ls := ls) (rest := rest.map (q_v G)) (own := RL) (name := "java/util/NoSuchElementException") (E := "java/util/NoSuchElementException") (ce := ce) (q := qa) C.2.2.2.1 [] ⟨hh.1, hh.2.1, hh.2.2.1, hh.2.2.2⟩ [] htb (fun z hz => by cases hz) hcov (by show hh.2.2.2 ≠ 0; rw [hck]; decide) (by show (Cond.classLink RL hh.2.2.2 _).before _ _ = true; rw [hck]; exact C.2.2.2.2.1 _ cl_L_13) (va_Nw.use rfl (C.2.2.2.2.2.1.2.1 _ cs_NS)) (by rw [e1]; exact hce) hcv hcls ?_
      · obtain ⟨t2, c1, c2⟩ := hcatch T' rfl X'
        exact ⟨t2, stp.trans c1, c2⟩
      · have hfin : ∀ (ls' : Array Slot) (pc' : Nat), decode cc pc' = .ok (.iconst 1, 1) → decode cc (pc' + 1) = .ok (.ireturn, 1) → q_W M T'.heap (locs ++ L) (x.1.2.2.1 - k0) (x.1.2.2.2 - z0) (q_Z G k0 z0 q_i M (x.1, (1 : Int32))) pc' ls' [] := fun ls' pc' g1 g2 => by
          refine lv_iconst C.1 C.2.1 g1 ki_1 ?_
          exact W.iret C.1 C.2.1 (C.2.2.2.2.2.2.2.2.2.1.trans hret) (fun t' ht' hW' => ⟨rfl, by rw [ht', e1]; exact hR'⟩) hlo g2 C.2.2.2.2.2.2.1
        rcases e0 with ⟨g1, g2, g3⟩ | ⟨⟨kk, gk, g1⟩, g2, g3⟩
        · exact lv_astore (lv := []) C.1 C.2.1 g1 ⟨b3.1, b3.2.1, fun z hz => by cases hz⟩ hiL rfl (fun ls' _ => hfin ls' _ g2 g3)
        · exact lv_astore_n (lv := []) C.1 C.2.1 g1 gk ⟨b3.1, b3.2.1, fun z hz => by cases hz⟩ hiL rfl (fun ls' _ => hfin ls' _ g2 g3)
end QX
theorem q_ofJX {G : q_G} {l : Launch} {y : MethodName} {bytes : ByteArray} {mL n fr lo : Nat} {ret : Option FieldType} {av : List Value} {h : q_H} {f : Option (q_H × Unit)} (Y : q_Y y bytes mL ret n) (hlen : (lg_sl (av.map (q_v G))).length ≤ mL)
    (hJ : q_J G l (y.cls, bytes, mL, fr, lo, ret, y.name, []) h.2.2.1 h.2.2.2 (q_ZX G h.2.2.1 h.2.2.2) 0 (lv_args 0 av) [] h f) :
    ∀ q, f = some q → q_CX G l y bytes mL ret fr lo av h q.1 := by
  intro q hq
  obtain ⟨hle, hW⟩ := hJ q hq
  refine ⟨hle, ?_⟩
  refine vx_ofW (cc := bytes) (maxL := mL) (ret := ret) Y.2.2.2.2.2 rfl ?_
  intro p e s m args below meth c s₁ B hml hxt hv
  obtain ⟨rfl, hR, hK⟩ := hv
  have hts := atoms_spec (ws := Cond.code y bytes mL ret :: q_tb) B.pre
  have hown : s.vm.findClass y.cls = some m.cls := findClass_of_methodNamed B.named
  have htab : c.exceptionTable.toList = [] := List.eq_nil_iff_forall_not_mem.mpr hxt
  have hC : q_C G (p, l, e, (headSpec (Cond.code y bytes mL ret :: q_tb) { frames := fr, cells := q.1.2.2.1 - h.2.2.1, slots := q.1.2.2.2 - h.2.2.2, locals := lo }).room, s, m, (av.map (q_v G)).toArray, below, meth, c) (y.cls, bytes, mL, fr, lo, ret, y.name, []) :=
    ⟨B.exec, B.bytes, hml, hown, fun w hw => hts w (List.mem_cons_of_mem _ hw), hK, B.notSynchronized, rfl, rfl, B.returns, (name_of_methodNamed B.named B.method).1, htab, hR.2.2⟩
  have hl := lv_entry (av.map (q_v G)) (n := mL) hlen
  rw [lg_entry_eq]
  rw [q_args] at hl
  have := hW _ rfl hC (Nat.le_refl _) (Nat.le_refl _) (Nat.le_refl _) (Nat.le_refl _) s.heap [] _ hR (fun x hx => by cases hx) hl
  rw [Nat.sub_self, Nat.sub_self] at this
  exact this
/-- the contract of a method with handlers -/
def q_CW (G : q_G) (l : Launch) (y : MethodName) (bytes : ByteArray) (mL : Nat) (ret : Option FieldType) (hh : List (Nat × Nat × Nat × Nat)) (fr lo : Nat) (av : List Value) (h h1 : q_H) (rv : Option Value) : Prop :=
  q_le h h1 ∧ Met l y (Cond.codeWith y bytes mL ret hh :: q_tb) { frames := fr, cells := h1.2.2.1 - h.2.2.1, slots := h1.2.2.2 - h.2.2.2, locals := lo } (q_P G av h) (q_Q G rv h1) (h1.2.2.1 - h.2.2.1) (h1.2.2.2 - h.2.2.2) (q_fr G)
theorem q_ofJW {G : q_G} {l : Launch} {y : MethodName} {bytes : ByteArray} {mL fr lo : Nat} {ret : Option FieldType} {hh : List (Nat × Nat × Nat × Nat)} {av : List Value} {h : q_H} {α : Type} {en : α → Option Value} {f : Option (q_H × α)} (hpl : plainName y.cls = true) (hlen : (lg_sl (av.map (q_v G))).length ≤ mL)
    (hJ : q_J G l (y.cls, bytes, mL, fr, lo, ret, y.name, tableOf hh) h.2.2.1 h.2.2.2 (q_Z G h.2.2.1 h.2.2.2 en) 0 (lv_args 0 av) [] h f) :
    ∀ q, f = some q → q_CW G l y bytes mL ret hh fr lo av h q.1 (en q.2) := by
  intro q hq
  obtain ⟨hle, hW⟩ := hJ q hq
  refine ⟨hle, ?_⟩
  refine MetFree.of_bodyS (code := bytes) (maxLocals := mL) (ret := ret) hpl ?_ ?_
  · intro args s m h9 hn
    obtain ⟨m9, meth, c, hn9, h1, h2, h3, h4, -, h5, h6, -⟩ := Cond.codeWith_spec (atoms_spec (ws := Cond.codeWith y bytes mL ret hh :: q_tb) h9 _ List.mem_cons_self)
    cases hn.symm.trans hn9
    exact ⟨meth, c, h1, h2, h3, h4, h5, h6⟩
  · intro p e s m args below meth c s₁ B hml hv _
    have hh0 : s₁.heap = s.heap := by rw [B.state]; rfl
    obtain ⟨rfl, hR, hK⟩ := hv
    have hts := atoms_spec (ws := Cond.codeWith y bytes mL ret hh :: q_tb) B.pre
    have hown : s.vm.findClass y.cls = some m.cls := findClass_of_methodNamed B.named
    have htab : c.exceptionTable.toList = tableOf hh := by
      obtain ⟨m9, meth9, c9, hn9, h1, h2, -, -, h6, -⟩ := Cond.codeWith_spec (hts _ List.mem_cons_self)
      cases Option.some.inj (hn9.symm.trans B.named)
      cases Option.some.inj (h1.symm.trans B.method)
      cases Option.some.inj (h2.symm.trans (Stand.of_body B).code)
      rw [← h6, table_eq]
    have hC : q_C G (p, l, e, (headSpec (Cond.codeWith y bytes mL ret hh :: q_tb) { frames := fr, cells := q.1.2.2.1 - h.2.2.1, slots := q.1.2.2.2 - h.2.2.2, locals := lo }).room, s, m, (av.map (q_v G)).toArray, below, meth, c) (y.cls, bytes, mL, fr, lo, ret, y.name, tableOf hh) :=
      ⟨B.exec, B.bytes, hml, hown, fun w hw => hts w (List.mem_cons_of_mem _ hw), hK, B.notSynchronized, rfl, rfl, B.returns, (name_of_methodNamed B.named B.method).1, htab, hR.2.2⟩
    have hl := lv_entry (av.map (q_v G)) (n := mL) hlen
    rw [q_args] at hl
    have hw9 := hW _ rfl hC (Nat.le_refl _) (Nat.le_refl _) (Nat.le_refl _) (Nat.le_refl _) s.heap [] _ hR (fun x hx => by cases hx) hl
    rw [Nat.sub_self, Nat.sub_self] at hw9
    have hw8 : W p l e (headSpec (Cond.codeWith y bytes mL ret hh :: q_tb) { frames := fr, cells := q.1.2.2.1 - h.2.2.1, slots := q.1.2.2.2 - h.2.2.2, locals := lo }).room s m (av.map (q_v G)).toArray below meth c s.heap [] 0 0 (MQ below (q_Q G (en q.2) q.1) (av.map (q_v G)).toArray s (q.1.2.2.1 - h.2.2.1) (q.1.2.2.2 - h.2.2.2) (q_fr G)) (entryFrame m (av.map (q_v G)).toArray mL) := by
      rw [lg_entry_eq]
      exact hw9
    obtain ⟨t, a1, o, b1, b2, b3⟩ := hw8 s₁ hh0 (Stand.of_body B)
    exact ⟨t, o, a1, b1, b2, ⟨b3.1, b3.2⟩⟩
section QX2
variable {G : q_G} {l : Launch} {own nm : String} {cc : ByteArray} {nL k0 z0 fr lo : Nat} {ret : Option FieldType} {tab : List ExceptionTableEntry} {α : Type} {Z : q_M → q_H × α → State → Prop} {pc : Nat} {lv lv' : List (Nat × Value)} {st : List Value} {h : q_H} {f : Option (q_H × α)}
theorem j_cSW {op : Option (q_H × Int32)} {g : q_H × Int32 → Option (q_H × α)} {y : MethodName} {bytes : ByteArray} {mL fr' lo' n idx : Nat} {ret' : Option FieldType} {hh : List (Nat × Nat × Nat × Nat)} {As rest : List Value} (Y : Cond.codeWith y bytes mL ret' hh ∈ q_tb ∧ Cond.initialized y.cls ∈ q_tb ∧ y.cls ≠ "java/lang/invoke/MethodHandle" ∧ y.cls ≠ "java/lang/invoke/VarHandle" ∧ (parseMethodDescriptor y.desc).map (fun d => d.parameters.length) = some n ∧ plainName y.cls = true) (hl : Cond.methodLink own idx y ∈ q_tb) (hi : Cond.static y ∈ q_tb) (hR : fr' + 1 ≤ fr ∧ 8 + (mL + 11) + lo' ≤ lo) (d : decode cc pc = .ok (.invokestatic idx, 3)) (hn : As.length = n) (hst : st = As.reverse ++ rest) (hrm : ((rest.map (q_v G)).map fun v => v.category).sum ≤ 8)
    (hc : ∀ x, op = some x → q_CW G l y bytes mL ret' hh fr' lo' As h x.1 (q_i x.2))
    (k : ∀ x, op = some x → q_J G l (own, cc, nL, fr, lo, ret, nm, tab) k0 z0 Z (pc + 3) lv (.int x.2 :: rest) x.1 (g x)) : q_J G l (own, cc, nL, fr, lo, ret, nm, tab) k0 z0 Z pc lv st h (Option.bind op g) := fun q hq => by
  cases hop : op with
  | none => rw [hop] at hq; cases hq
  | some x =>
    rw [hop] at hq
    obtain ⟨hle, hMt⟩ := hc x hop
    obtain ⟨h1, h2⟩ := k x hop q hq
    refine ⟨hle.tr h1, fun M hM C a1 a2 a3 a4 H locs ls b1 b2 b3 => ?_⟩
    have l2 := hle.2.1
    have l3 := hle.2.2
    have m2 := h1.2.1
    have m3 := h1.2.2
    rw [← hM] at hMt
    have hG : GoodIn q_tb (va_wsS own idx y (Cond.codeWith y bytes mL ret' hh :: q_tb)) := by
      have h0 : ∀ w ∈ q_tb, w ∈ q_tb ∧ ((w.onTables && w.keeps) = true ∨ ∃ ty, w = .arrayClass ty) := fun w hw => ⟨hw, good_of_word (List.mem_filter.mp hw).2⟩
      intro w hw
      unfold va_wsS at hw
      simp only [List.mem_append, List.mem_cons, List.not_mem_nil, or_false] at hw
      rcases hw with (e | e | e) | e | e
      · subst e; exact h0 _ hl
      · subst e; exact h0 _ hi
      · subst e; exact h0 _ Y.2.1
      · subst e; exact h0 _ Y.1
      · exact h0 _ e
    have hrun := vx_runSW (e := M.2.2.1) (below := M.2.2.2.2.2.2.2.1) (meth := M.2.2.2.2.2.2.2.2.1) (H := H) (locs := locs) (cells := h.2.2.1 - k0) (slots := h.2.2.2 - z0) (hh := hh) (As := As.map (q_v G)) (rest := rest.map (q_v G)) (g := F0 M.2.2.2.2.2.1 pc ls (st.map (q_v G))) ⟨C.1, C.2.1, C.2.2.1, C.2.2.2.1, C.2.2.2.2.1⟩ hMt
      (vx_cwSW n C.2.2.2.2.1 hG rfl rfl rfl ⟨Y.2.2.1, Y.2.2.2.1, Y.2.2.2.2.1⟩ ⟨by rw [C.2.2.2.2.2.2.2.1]; exact hR.1, by rw [C.2.2.2.2.2.2.2.2.1]; exact hR.2⟩)
      ⟨q_blind _ _ _, fun U hU hW => ⟨rfl, by rw [hU]; exact b1, q_K.warm hW C.2.2.2.2.2.1⟩⟩ rfl (by rw [List.length_map]; exact hn) b3.1 (by rw [hst]; show _ = _; rw [List.map_append, List.map_reverse]) (lv_room hrm) d ⟨by omega, by omega⟩
    intro T hT X
    obtain ⟨v, st₀, t, T', L, h0, X', hL, e1, e2, ⟨hv, hR'⟩, stp⟩ := hrun T hT X
    cases hv
    have ec : h.2.2.1 - k0 + (x.1.2.2.1 - h.2.2.1) = x.1.2.2.1 - k0 := by omega
    have es : h.2.2.2 - z0 + (x.1.2.2.2 - h.2.2.2) = x.1.2.2.2 - z0 := by omega
    rw [ec, es] at X'
    obtain ⟨t2, c1, c2⟩ := h2 M hM C a1 a2 (by omega) (by omega) T'.heap (locs ++ L) ls (by rw [e1]; exact hR') (fun z hz => by
      rcases List.mem_append.mp hz with h' | h'
      · exact b2 z h'
      · exact hL z h') b3 T' rfl X'
    exact ⟨t2, stp t2 c1, c2⟩
end QX2
/-- a run that returns, or one that throws -/
def q_or {β : Type} (a b : Option β) : Option β := match a with
  | some x => some x
  | none => b
theorem q_or_ok {β : Type} {a b : Option β} {x : β} (h : q_or a b = some x) : a = some x ∨ b = some x := by
  cases a with
  | some y => exact Or.inl h
  | none => exact Or.inr h

