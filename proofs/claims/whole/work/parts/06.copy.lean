/-! System.arraycopy of longs and of ints -/
theorem q_nn (z : Int32) (hz : ¬ z < 0) : z.toInt = (z.toNatClampNeg : Int) := by
  have hz0 : (0 : Int) ≤ z.toInt := by
    have := Int32.not_lt.mp hz
    simpa using Int32.le_iff_toInt_le.mp this
  show z.toInt = ((z.toInt.toNat : Nat) : Int)
  omega
section QP
variable {G : q_G} {l : Launch} {own nm : String} {cc : ByteArray} {nL k0 z0 fr lo : Nat} {ret : Option FieldType} {tab : List ExceptionTableEntry} {α : Type} {Z : q_M → q_H × α → State → Prop} {pc : Nat} {lv lv' : List (Nat × Value)} {st : List Value} {h : q_H} {f : Option (q_H × α)}
theorem q_cpL_ok {a0 a : Nat} {sp dp n : Int32} {y : q_H} (e : q_cpL h a0 sp a dp n = some y) : ∃ n0 n1 f g, h.1 a0 = .inl (1, n0, .inr (.inl f)) ∧ h.1 a = .inl (1, n1, .inr (.inl g)) ∧ ¬ sp < 0 ∧ ¬ dp < 0 ∧ ¬ n < 0 ∧ sp.toNatClampNeg + n.toNatClampNeg ≤ n0 ∧ dp.toNatClampNeg + n.toNatClampNeg ≤ n1 ∧ y = q_s h a (.inl (1, n1, .inr (.inl (va_cpy f g sp.toNatClampNeg dp.toNatClampNeg n.toNatClampNeg)))) := by
  unfold q_cpL at e
  split at e
  · rename_i t0 n0 f t1 n1 g e1 e2
    by_cases hc : t0 = 1 ∧ t1 = 1 ∧ ¬ sp < 0 ∧ ¬ dp < 0 ∧ ¬ n < 0 ∧ sp.toNatClampNeg + n.toNatClampNeg ≤ n0 ∧ dp.toNatClampNeg + n.toNatClampNeg ≤ n1
    · rw [if_pos hc] at e
      cases e
      obtain ⟨rfl, rfl, c1, c2, c3, c4, c5⟩ := hc
      exact ⟨n0, n1, f, g, e1, e2, c1, c2, c3, c4, c5, rfl⟩
    · rw [if_neg hc] at e; cases e
  · cases e
theorem j_cpL {a0 a idx : Nat} {sp dp n : Int32} {g : q_H → Option (q_H × α)} (hlink : Cond.methodLink own idx arraycopyName ∈ q_tb) (hnat : Cond.native arraycopyName ∈ q_tb) (hstat : Cond.static arraycopyName ∈ q_tb) (hini : Cond.initialized "java/lang/System" ∈ q_tb) (hr : 1 ≤ fr ∧ ((st.map (q_v G)).map fun v => v.category).sum + (nativeFrameWords "java/lang/System" "arraycopy" 5 + 11) ≤ lo) (d : decode cc pc = .ok (.invokestatic idx, 3)) (kk : ∀ y, q_cpL h a0 sp a dp n = some y → q_J G l (own, cc, nL, fr, lo, ret, nm, tab) k0 z0 Z (pc + 3) lv st y (g y)) : q_J G l (own, cc, nL, fr, lo, ret, nm, tab) k0 z0 Z pc lv (.int n :: .int dp :: .ref a :: .int sp :: .ref a0 :: st) h (Option.bind (q_cpL h a0 sp a dp n) g) :=
  j_wr (pc' := pc + 3) (st' := st) (fun y hy => by
    obtain ⟨n0, n1, f, g, e0, e1, h1, h2, h3, h4, h5, rfl⟩ := q_cpL_ok hy
    refine ⟨rfl, fun M hM C H locs cells slots ls Q hR hlo hlv w => ?_⟩
    have hlt : a < h.2.1 := (hR.2.1 a (by rw [e1]; exact q_njl)).1
    have hc0 : H[G.1 + a0]? = some (vp_cell (G.2.2.1 1) (n0, .inr (.inl f))) := hR.at e0 q_njl
    have hc1 : H[G.1 + a]? = some (vp_cell (G.2.2.1 1) (n1, .inr (.inl g))) := hR.at e1 q_njl
    have hts := C.2.2.2.2.1
    have hK := C.2.2.2.2.2.1.1
    intro T hT X
    obtain ⟨-, k0, hk0, cm0, hkk0⟩ := (hK.2 1 _ rfl).1 n0 (fun j => .long (f j))
    obtain ⟨-, k1, hk1, cm1, hkk1⟩ := (hK.2 1 _ rfl).1 n1 (fun j => .long (g j))
    obtain ⟨vm', X', step⟩ := X.arraycopy C.1 C.2.2.2.1 (hts _ hlink) (hts _ hnat) (hts _ hstat) (hts _ hini) (src := G.1 + a0) (dst := G.1 + a) (cs := vp_cell (G.2.2.1 1) (n0, .inr (.inl f))) (cd := vp_cell (G.2.2.1 1) (n1, .inr (.inl g))) (srcPos := sp) (destPos := dp) (n := n) (by rw [hT]; exact hc0) (by rw [hT]; exact hc1)
      (fun _ h => by cases h) (fun _ h => by cases h) (fun h => by cases h) (fun h => by cases h) hk0 hk1 hkk0 hkk1 (by simp [refKind]) h1 h2 h3
      (by rw [q_nn sp h1, q_nn n h3]; show ¬ _ > ((arrV (G.2.2.1 1) n0 (fun j => .long (f j))).slots.size : Int); rw [arrV_size]; omega)
      (by rw [q_nn dp h2, q_nn n h3]; show ¬ _ > ((arrV (G.2.2.1 1) n1 (fun j => .long (g j))).slots.size : Int); rw [arrV_size]; omega)
      (fun vm₁ _ i hi => by
        have e : (vp_cell (G.2.2.1 1) (n0, .inr (.inl f))).slots.getD (sp.toNatClampNeg + i) .null = .long (f (sp.toNatClampNeg + i)) := by
          show (arrV (G.2.2.1 1) n0 (fun j => .long (f j))).slots.getD _ _ = _
          rw [Array.getD_eq_getD_getElem?, arrV_read _ _ (by omega)]
          rfl
        refine ⟨?_, ?_⟩
        · rw [e]
          first | rfl | decide | simp [fits]
        · rw [e]
          exact trivial)
      (g := F0 M.2.2.2.2.2.1 pc ls ((.int n :: .int dp :: .ref a :: .int sp :: .ref a0 :: st).map (q_v G))) rfl (hlv.1.trans C.2.2.1.symm) (rest := st.map (q_v G)) rfl (by rw [C.2.1]; exact d) (by rw [C.2.2.2.2.2.2.2.1]; exact hr.1) (by rw [C.2.2.2.2.2.2.2.2.1]; show 2 * 0 + _ + _ ≤ _; have := hr.2; simp only at this ⊢; omega)
    have ec : copied (vp_cell (G.2.2.1 1) (n0, .inr (.inl f))) (vp_cell (G.2.2.1 1) (n1, .inr (.inl g))) sp dp n = vp_cell (G.2.2.1 1) (n1, .inr (.inl (va_cpy f g sp.toNatClampNeg dp.toNatClampNeg n.toNatClampNeg))) := va_copied (fun z => .long z) (G.2.2.1 1) (G.2.2.1 1) f g h4
    rw [ec] at X' step
    have hl : G.1 + a < H.size := (Array.getElem?_eq_some_iff.mp hc1).1
    have hheap : ((T.setVm vm').setCell (G.1 + a) (vp_cell (G.2.2.1 1) (n1, .inr (.inl (va_cpy f g sp.toNatClampNeg dp.toNatClampNeg n.toNatClampNeg))))).heap = H.setIfInBounds (G.1 + a) (vp_cell (G.2.2.1 1) (n1, .inr (.inl (va_cpy f g sp.toNatClampNeg dp.toNatClampNeg n.toNatClampNeg)))) := by rw [← hT]; rfl
    have oq : ∀ q : Nat, q ≠ G.1 + a → (H.setIfInBounds (G.1 + a) (vp_cell (G.2.2.1 1) (n1, .inr (.inl (va_cpy f g sp.toNatClampNeg dp.toNatClampNeg n.toNatClampNeg)))))[q]? = H[q]? := fun q hq => by simp [Array.getElem?_setIfInBounds, Ne.symm hq]
    obtain ⟨t, a1, b1⟩ := w _ _ (hR.set (e := .inl (1, n1, .inr (.inl (va_cpy f g sp.toNatClampNeg dp.toNatClampNeg n.toNatClampNeg)))) hlt (show (H.setIfInBounds (G.1 + a) (vp_cell (G.2.2.1 1) (n1, .inr (.inl (va_cpy f g sp.toNatClampNeg dp.toNatClampNeg n.toNatClampNeg)))))[G.1 + a]? = some (vp_cell (G.2.2.1 1) (n1, .inr (.inl (va_cpy f g sp.toNatClampNeg dp.toNatClampNeg n.toNatClampNeg)))) by simp [Array.getElem?_setIfInBounds, hl]) (by simp) oq) (fun q hq => by
        rcases List.mem_append.mp hq with h | h
        · exact hlo q h
        · obtain ⟨z, -, hz⟩ := List.mem_map.mp h
          rw [← hz]
          exact Nat.le_add_right _ _) _ hheap X'
    exact ⟨t, step t a1, b1⟩) kk
theorem q_cpI_ok {a0 a : Nat} {sp dp n : Int32} {y : q_H} (e : q_cpI h a0 sp a dp n = some y) : ∃ n0 n1 f g, h.1 a0 = .inl (0, n0, .inl f) ∧ h.1 a = .inl (0, n1, .inl g) ∧ ¬ sp < 0 ∧ ¬ dp < 0 ∧ ¬ n < 0 ∧ sp.toNatClampNeg + n.toNatClampNeg ≤ n0 ∧ dp.toNatClampNeg + n.toNatClampNeg ≤ n1 ∧ y = q_s h a (.inl (0, n1, .inl (va_cpy f g sp.toNatClampNeg dp.toNatClampNeg n.toNatClampNeg))) := by
  unfold q_cpI at e
  split at e
  · rename_i t0 n0 f t1 n1 g e1 e2
    by_cases hc : t0 = 0 ∧ t1 = 0 ∧ ¬ sp < 0 ∧ ¬ dp < 0 ∧ ¬ n < 0 ∧ sp.toNatClampNeg + n.toNatClampNeg ≤ n0 ∧ dp.toNatClampNeg + n.toNatClampNeg ≤ n1
    · rw [if_pos hc] at e
      cases e
      obtain ⟨rfl, rfl, c1, c2, c3, c4, c5⟩ := hc
      exact ⟨n0, n1, f, g, e1, e2, c1, c2, c3, c4, c5, rfl⟩
    · rw [if_neg hc] at e; cases e
  · cases e
theorem j_cpI {a0 a idx : Nat} {sp dp n : Int32} {g : q_H → Option (q_H × α)} (hlink : Cond.methodLink own idx arraycopyName ∈ q_tb) (hnat : Cond.native arraycopyName ∈ q_tb) (hstat : Cond.static arraycopyName ∈ q_tb) (hini : Cond.initialized "java/lang/System" ∈ q_tb) (hr : 1 ≤ fr ∧ ((st.map (q_v G)).map fun v => v.category).sum + (nativeFrameWords "java/lang/System" "arraycopy" 5 + 11) ≤ lo) (d : decode cc pc = .ok (.invokestatic idx, 3)) (kk : ∀ y, q_cpI h a0 sp a dp n = some y → q_J G l (own, cc, nL, fr, lo, ret, nm, tab) k0 z0 Z (pc + 3) lv st y (g y)) : q_J G l (own, cc, nL, fr, lo, ret, nm, tab) k0 z0 Z pc lv (.int n :: .int dp :: .ref a :: .int sp :: .ref a0 :: st) h (Option.bind (q_cpI h a0 sp a dp n) g) :=
  j_wr (pc' := pc + 3) (st' := st) (fun y hy => by
    obtain ⟨n0, n1, f, g, e0, e1, h1, h2, h3, h4, h5, rfl⟩ := q_cpI_ok hy
    refine ⟨rfl, fun M hM C H locs cells slots ls Q hR hlo hlv w => ?_⟩
    have hlt : a < h.2.1 := (hR.2.1 a (by rw [e1]; exact q_njl)).1
    have hc0 : H[G.1 + a0]? = some (vp_cell (G.2.2.1 0) (n0, .inl f)) := hR.at e0 q_njl
    have hc1 : H[G.1 + a]? = some (vp_cell (G.2.2.1 0) (n1, .inl g)) := hR.at e1 q_njl
    have hts := C.2.2.2.2.1
    have hK := C.2.2.2.2.2.1.1
    intro T hT X
    obtain ⟨-, k0, hk0, cm0, hkk0⟩ := (hK.2 0 _ rfl).1 n0 (fun j => .int (f j))
    obtain ⟨-, k1, hk1, cm1, hkk1⟩ := (hK.2 0 _ rfl).1 n1 (fun j => .int (g j))
    obtain ⟨vm', X', step⟩ := X.arraycopy C.1 C.2.2.2.1 (hts _ hlink) (hts _ hnat) (hts _ hstat) (hts _ hini) (src := G.1 + a0) (dst := G.1 + a) (cs := vp_cell (G.2.2.1 0) (n0, .inl f)) (cd := vp_cell (G.2.2.1 0) (n1, .inl g)) (srcPos := sp) (destPos := dp) (n := n) (by rw [hT]; exact hc0) (by rw [hT]; exact hc1)
      (fun _ h => by cases h) (fun _ h => by cases h) (fun h => by cases h) (fun h => by cases h) hk0 hk1 hkk0 hkk1 (by simp [refKind]) h1 h2 h3
      (by rw [q_nn sp h1, q_nn n h3]; show ¬ _ > ((arrV (G.2.2.1 0) n0 (fun j => .int (f j))).slots.size : Int); rw [arrV_size]; omega)
      (by rw [q_nn dp h2, q_nn n h3]; show ¬ _ > ((arrV (G.2.2.1 0) n1 (fun j => .int (g j))).slots.size : Int); rw [arrV_size]; omega)
      (fun vm₁ _ i hi => by
        have e : (vp_cell (G.2.2.1 0) (n0, .inl f)).slots.getD (sp.toNatClampNeg + i) .null = .int (f (sp.toNatClampNeg + i)) := by
          show (arrV (G.2.2.1 0) n0 (fun j => .int (f j))).slots.getD _ _ = _
          rw [Array.getD_eq_getD_getElem?, arrV_read _ _ (by omega)]
          rfl
        refine ⟨?_, ?_⟩
        · rw [e]
          first | rfl | decide | simp [fits]
        · rw [e]
          exact trivial)
      (g := F0 M.2.2.2.2.2.1 pc ls ((.int n :: .int dp :: .ref a :: .int sp :: .ref a0 :: st).map (q_v G))) rfl (hlv.1.trans C.2.2.1.symm) (rest := st.map (q_v G)) rfl (by rw [C.2.1]; exact d) (by rw [C.2.2.2.2.2.2.2.1]; exact hr.1) (by rw [C.2.2.2.2.2.2.2.2.1]; show 2 * 0 + _ + _ ≤ _; have := hr.2; simp only at this ⊢; omega)
    have ec : copied (vp_cell (G.2.2.1 0) (n0, .inl f)) (vp_cell (G.2.2.1 0) (n1, .inl g)) sp dp n = vp_cell (G.2.2.1 0) (n1, .inl (va_cpy f g sp.toNatClampNeg dp.toNatClampNeg n.toNatClampNeg)) := va_copied (fun z => .int z) (G.2.2.1 0) (G.2.2.1 0) f g h4
    rw [ec] at X' step
    have hl : G.1 + a < H.size := (Array.getElem?_eq_some_iff.mp hc1).1
    have hheap : ((T.setVm vm').setCell (G.1 + a) (vp_cell (G.2.2.1 0) (n1, .inl (va_cpy f g sp.toNatClampNeg dp.toNatClampNeg n.toNatClampNeg)))).heap = H.setIfInBounds (G.1 + a) (vp_cell (G.2.2.1 0) (n1, .inl (va_cpy f g sp.toNatClampNeg dp.toNatClampNeg n.toNatClampNeg))) := by rw [← hT]; rfl
    have oq : ∀ q : Nat, q ≠ G.1 + a → (H.setIfInBounds (G.1 + a) (vp_cell (G.2.2.1 0) (n1, .inl (va_cpy f g sp.toNatClampNeg dp.toNatClampNeg n.toNatClampNeg))))[q]? = H[q]? := fun q hq => by simp [Array.getElem?_setIfInBounds, Ne.symm hq]
    obtain ⟨t, a1, b1⟩ := w _ _ (hR.set (e := .inl (0, n1, .inl (va_cpy f g sp.toNatClampNeg dp.toNatClampNeg n.toNatClampNeg))) hlt (show (H.setIfInBounds (G.1 + a) (vp_cell (G.2.2.1 0) (n1, .inl (va_cpy f g sp.toNatClampNeg dp.toNatClampNeg n.toNatClampNeg))))[G.1 + a]? = some (vp_cell (G.2.2.1 0) (n1, .inl (va_cpy f g sp.toNatClampNeg dp.toNatClampNeg n.toNatClampNeg))) by simp [Array.getElem?_setIfInBounds, hl]) (by simp) oq) (fun q hq => by
        rcases List.mem_append.mp hq with h | h
        · exact hlo q h
        · obtain ⟨z, -, hz⟩ := List.mem_map.mp h
          rw [← hz]
          exact Nat.le_add_right _ _) _ hheap X'
    exact ⟨t, step t a1, b1⟩) kk
end QP
