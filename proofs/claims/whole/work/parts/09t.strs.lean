/-! charAt() -/
section QS2
variable {G : q_G} {l : Launch} {own nm : String} {cc : ByteArray} {nL k0 z0 fr lo : Nat} {ret : Option FieldType} {tab : List ExceptionTableEntry} {α : Type} {Z : q_M → q_H × α → State → Prop} {pc : Nat} {lv lv' : List (Nat × Value)} {st : List Value} {h : q_H} {f : Option (q_H × α)}
theorem j_gst9 {idx : Nat} (lk : Cond.fieldLink own idx "jdk/internal/util/Preconditions" "SIOOBE_FORMATTER" "Ljava/util/function/BiFunction;" ∈ q_tb) (d : decode cc pc = .ok (.getstatic idx, 3)) (kk : ∀ v9 : Value, (v9 = .null ∨ v9 = .float 200) → q_J G l (own, cc, nL, fr, lo, ret, nm, tab) k0 z0 Z (pc + 3) lv (v9 :: st) h f) : q_J G l (own, cc, nL, fr, lo, ret, nm, tab) k0 z0 Z pc lv st h f := fun q hq =>
  ⟨(kk .null (Or.inl rfl) q hq).1, fun M hM C a1 a2 a3 a4 H locs ls b1 b2 b3 => by
    obtain ⟨v9, hv, hZ⟩ := C.2.2.2.2.2.1.2.2.2.2.2.2.1
    obtain ⟨cf, kf, fi, f, a, cell, h1, h2, h3, h4, h5, h6, h7, h8⟩ := hZ.kept b1.kp
    exact W.gets C.1 C.2.1 C.2.2.2.1 (C.2.2.2.2.1 _ lk) h1 h2 h3 h4 h5 (fun e => by rw [e] at h6; cases h6) h7 rfl d ((kk v9 hv q hq).2 M hM C a1 a2 a3 a4 H locs ls b1 b2 b3)⟩
end QS2
theorem jq_chk {G : q_G} {l : Launch} {k0 z0 fr lo : Nat} (hfr : 1 ≤ fr ∧ 22 ≤ lo) {h : q_H} {i n : Int32} (h1 : ¬ i < 0) (h2 : i < n) : q_J G l (RJ0, cJ0_checkIndex_df160, 2, fr, lo, none, "checkIndex", []) k0 z0 (q_Z G k0 z0 q_u) 0 [(0, .int i), (1, .int n)] [] h (some (h, ())) := by
  refine j_iload_n (pc := 0) (p := 0) rfl rfl dJ0_checkIndex_df160_0 ?_
  refine j_iload_n (pc := 1) (p := 1) rfl rfl dJ0_checkIndex_df160_1 ?_
  refine j_gst9 (pc := 2) fl_J0_1053 dJ0_checkIndex_df160_2 (fun v9 hv => ?_)
  rw [show (some (h, ()) : Option (q_H × Unit)) = Option.bind (some (h, i)) (fun q => some (q.1, ())) from rfl]
  refine j_cSi (pc := 5) Y_J3_checkIndex_8e157 ml_J0_1059 sm_J3_checkIndex_8e157 ⟨hfr.1, hfr.2⟩ dJ0_checkIndex_df160_5 (As := [.int i, .int n, v9]) (rest := []) rfl rfl (Nat.le_of_ble_eq_true rfl) (cq_pre hv h1 h2) (fun q hq => ?_)
  refine j_pop (pc := 8) rfl dJ0_checkIndex_df160_8 ?_
  exact j_vret (pc := 9) rfl dJ0_checkIndex_df160_9
theorem cq_chk {G : q_G} {l : Launch} {h : q_H} {i n : Int32} (h1 : ¬ i < 0) (h2 : i < n) : ∀ q, (some (h, ()) : Option (q_H × Unit)) = some q → q_CT G l yJ0_checkIndex_df160 cJ0_checkIndex_df160 2 none 1 22 [.int i, .int n] h q.1 (q_u q.2) :=
  q_ofJ Y_J0_checkIndex_df160 (Nat.le_of_ble_eq_true rfl) (jq_chk ⟨Nat.le_refl _, Nat.le_refl _⟩ h1 h2)
/-- charAt(i) -/
def q_sch (u : UInt32) (i : Int32) : Option Int32 := if u.toNat < 5 ∧ ¬ i < 0 ∧ i.toNatClampNeg < q_sl.getD u.toNat 0 then some ((q_sb.getD u.toNat []).getD i.toNatClampNeg 0) else none
theorem q_chs : ∀ i, i < 5 → ∀ j, j < q_sl.getD i 0 → narrow .char (.int (q_i2c ((q_sb.getD i []).getD j 0 &&& 255))) = .int ((q_sb.getD i []).getD j 0) ∧ narrow .char (.int ((q_sb.getD i []).getD j 0)) = .int ((q_sb.getD i []).getD j 0) := by decide +kernel
theorem q_sll : ∀ i, i < 5 → q_sl.getD i 0 < 20 := by decide
theorem q_ilt {i : Int32} {n : Nat} (h1 : ¬ i < 0) (h2 : i.toNatClampNeg < n) (hn : n < 2 ^ 31) : i < Int32.ofNat n := by
  rw [Int32.lt_iff_toInt_lt, q_nn i h1, show (Int32.ofNat n).toInt = (n : Int) from nI_toInt hn]
  omega
theorem jq_l1 {G : q_G} {l : Launch} {k0 z0 fr lo : Nat} (hfr : 2 ≤ fr ∧ 43 ≤ lo) {h : q_H} {u : UInt32} {i : Int32} (hu : u.toNat < 5) (h1 : ¬ i < 0) (h2 : i.toNatClampNeg < q_sl.getD u.toNat 0) : q_J G l (RJ1, cJ1_charAt_3b067, 2, fr, lo, (some .char), "charAt", []) k0 z0 (q_Z G k0 z0 q_i) 0 [(0, .float (100 + u)), (1, .int i)] [] h (some (h, (q_sb.getD u.toNat []).getD i.toNatClampNeg 0)) := by
  have hlt := q_ilt h1 h2 (by have := q_sll _ hu; omega)
  refine j_iload_n (pc := 0) (p := 1) rfl rfl dJ1_charAt_3b067_0 ?_
  refine j_sload_n (pc := 1) (p := 0) rfl rfl dJ1_charAt_3b067_1 ?_
  refine j_tlen (pc := 2) (q_Tv hu) dJ1_charAt_3b067_2 ?_
  rw [show (some (h, (q_sb.getD u.toNat []).getD i.toNatClampNeg 0) : Option (q_H × Int32)) = Option.bind (some (h, ())) (fun q => some (q.1, (q_sb.getD u.toNat []).getD i.toNatClampNeg 0)) from rfl]
  refine j_cSu (pc := 3) Y_J0_checkIndex_df160 ml_J1_9 sm_J0_checkIndex_df160 ⟨hfr.1, hfr.2⟩ dJ1_charAt_3b067_3 (As := [.int i, .int (Int32.ofNat (q_sl.getD u.toNat 0))]) (rest := []) rfl rfl (Nat.le_of_ble_eq_true rfl) (cq_chk h1 hlt) (fun q hq => ?_)
  refine j_sload_n (pc := 6) (p := 0) rfl rfl dJ1_charAt_3b067_6 ?_
  refine j_iload_n (pc := 7) (p := 1) rfl rfl dJ1_charAt_3b067_7 ?_
  refine j_tb (pc := 8) (q_Tv hu) (fun hc => by rcases hc with hc | hc; exact h1 hc; omega) rfl dJ1_charAt_3b067_8 ?_
  refine j_sipush (pc := 9) (v := 255) (by decide) dJ1_charAt_3b067_9 ?_
  refine j_iand (pc := 12) dJ1_charAt_3b067_12 ?_
  refine j_i2c (pc := 13) dJ1_charAt_3b067_13 ?_
  exact j_nret (pc := 14) rfl (q_chs _ hu _ h2).1 dJ1_charAt_3b067_14
theorem cq_l1 {G : q_G} {l : Launch} {h : q_H} {u : UInt32} {i : Int32} (hu : u.toNat < 5) (h1 : ¬ i < 0) (h2 : i.toNatClampNeg < q_sl.getD u.toNat 0) : ∀ q, (some (h, (q_sb.getD u.toNat []).getD i.toNatClampNeg 0) : Option (q_H × Int32)) = some q → q_CT G l yJ1_charAt_3b067 cJ1_charAt_3b067 2 (some .char) 2 43 [.float (100 + u), .int i] h q.1 (q_i q.2) :=
  q_ofJ Y_J1_charAt_3b067 (Nat.le_of_ble_eq_true rfl) (jq_l1 ⟨Nat.le_refl _, Nat.le_refl _⟩ hu h1 h2)
theorem jq_ch {G : q_G} {l : Launch} {k0 z0 fr lo : Nat} (hfr : 3 ≤ fr ∧ 64 ≤ lo) {h : q_H} {u : UInt32} {i : Int32} (hu : u.toNat < 5) (h1 : ¬ i < 0) (h2 : i.toNatClampNeg < q_sl.getD u.toNat 0) : q_J G l (RJ0, cJ0_charAt_5068e, 2, fr, lo, (some .char), "charAt", []) k0 z0 (q_Z G k0 z0 q_i) 0 [(0, .float u), (1, .int i)] [] h (some (h, (q_sb.getD u.toNat []).getD i.toNatClampNeg 0)) := by
  refine j_sload_n (pc := 0) (p := 0) rfl rfl dJ0_charAt_5068e_0 ?_
  rw [show (some (h, (q_sb.getD u.toNat []).getD i.toNatClampNeg 0) : Option (q_H × Int32)) = Option.bind (some (h, (1 : Int32))) (fun q => if (1 : Int32) = 0 then none else Option.bind (some (q.1, (q_sb.getD u.toNat []).getD i.toNatClampNeg 0)) (fun q => some (q.1, q.2))) from by rw [Option.bind_some, if_neg (by decide)]; rfl]
  refine j_cVs (pc := 1) Y_J0_isLatin1_aae02 hu rfl ml_J0_492 im_J0_isLatin1_aae02 se_J0_isLatin1_aae02 ⟨by omega, by omega⟩ dJ0_charAt_5068e_1 (As := []) (rest := []) rfl rfl (Nat.le_of_ble_eq_true rfl) (cq_isLatin1 hu) (fun q hq => ?_)
  cases hq
  refine j_if_eq (pc := 4) (tgt := 16) dJ0_charAt_5068e_4 (by decide) (fun e => absurd (show (1 : Int32) = 0 from e) (by decide)) (fun _ => ?_)
  refine j_sload_n (pc := 7) (p := 0) rfl rfl dJ0_charAt_5068e_7 ?_
  refine j_gof (pc := 8) (v := .float (100 + u)) (q_Ov hu) fl_J0_9 dJ0_charAt_5068e_8 ?_
  refine j_iload_n (pc := 11) (p := 1) rfl rfl dJ0_charAt_5068e_11 ?_
  refine j_cSi (pc := 12) Y_J1_charAt_3b067 ml_J0_495 sm_J1_charAt_3b067 ⟨hfr.1, hfr.2⟩ dJ0_charAt_5068e_12 (As := [.float (100 + u), .int i]) (rest := []) rfl rfl (Nat.le_of_ble_eq_true rfl) (cq_l1 hu h1 h2) (fun q hq => ?_)
  cases hq
  exact j_nret (pc := 15) rfl (q_chs _ hu _ h2).2 dJ0_charAt_5068e_15
theorem cq_ch {G : q_G} {l : Launch} {h : q_H} {u : UInt32} {i : Int32} (hu : u.toNat < 5) (h1 : ¬ i < 0) (h2 : i.toNatClampNeg < q_sl.getD u.toNat 0) : ∀ q, (some (h, (q_sb.getD u.toNat []).getD i.toNatClampNeg 0) : Option (q_H × Int32)) = some q → q_CT G l yJ0_charAt_5068e cJ0_charAt_5068e 2 (some .char) 3 64 [.float u, .int i] h q.1 (q_i q.2) :=
  q_ofJ Y_J0_charAt_5068e (Nat.le_of_ble_eq_true rfl) (jq_ch ⟨Nat.le_refl _, Nat.le_refl _⟩ hu h1 h2)
section QS3
variable {G : q_G} {l : Launch} {own nm : String} {cc : ByteArray} {nL k0 z0 fr lo : Nat} {ret : Option FieldType} {tab : List ExceptionTableEntry} {α : Type} {Z : q_M → q_H × α → State → Prop} {pc : Nat} {lv lv' : List (Nat × Value)} {st : List Value} {h : q_H} {f : Option (q_H × α)}
theorem j_slen {g : Int32 → Option (q_H × α)} {u : UInt32} {idx : Nat} (hl : Cond.methodLink own idx yJ0_length_8abf5 ∈ q_tb) (hr : 2 ≤ fr ∧ 40 ≤ lo) (hrm : ((st.map (q_v G)).map fun v => v.category).sum ≤ 8) (d : decode cc pc = .ok (.invokevirtual idx, 3)) (k : ∀ x, q_slen u = some x → q_J G l (own, cc, nL, fr, lo, ret, nm, tab) k0 z0 Z (pc + 3) lv (.int x :: st) h (g x)) : q_J G l (own, cc, nL, fr, lo, ret, nm, tab) k0 z0 Z pc lv (.float u :: st) h (Option.bind (q_slen u) g) := by
  by_cases hu : u.toNat < 5
  · have e : q_slen u = some (nI (q_sl.getD u.toNat 0)) := if_pos hu
    rw [e] at k ⊢
    show q_J G l (own, cc, nL, fr, lo, ret, nm, tab) k0 z0 Z pc lv (.float u :: st) h (Option.bind (some (h, nI (q_sl.getD u.toNat 0))) (fun q => g q.2))
    refine j_cVs Y_J0_length_8abf5 hu rfl hl im_J0_length_8abf5 se_J0_length_8abf5 ⟨hr.1, by omega⟩ d (As := []) (rest := st) rfl rfl hrm (cq_length hu) (fun q hq => ?_)
    cases hq
    exact k _ rfl
  · have e : q_slen u = none := if_neg hu
    rw [e]
    exact j_none
theorem j_sch {g : Int32 → Option (q_H × α)} {u : UInt32} {i : Int32} {idx : Nat} (hl : Cond.methodLink own idx yJ0_charAt_5068e ∈ q_tb) (hr : 4 ≤ fr ∧ 90 ≤ lo) (hrm : ((st.map (q_v G)).map fun v => v.category).sum ≤ 8) (d : decode cc pc = .ok (.invokevirtual idx, 3)) (k : ∀ x, q_sch u i = some x → q_J G l (own, cc, nL, fr, lo, ret, nm, tab) k0 z0 Z (pc + 3) lv (.int x :: st) h (g x)) : q_J G l (own, cc, nL, fr, lo, ret, nm, tab) k0 z0 Z pc lv (.int i :: .float u :: st) h (Option.bind (q_sch u i) g) := by
  by_cases hu : u.toNat < 5 ∧ ¬ i < 0 ∧ i.toNatClampNeg < q_sl.getD u.toNat 0
  · have e : q_sch u i = some ((q_sb.getD u.toNat []).getD i.toNatClampNeg 0) := if_pos hu
    rw [e] at k ⊢
    show q_J G l (own, cc, nL, fr, lo, ret, nm, tab) k0 z0 Z pc lv (.int i :: .float u :: st) h (Option.bind (some (h, (q_sb.getD u.toNat []).getD i.toNatClampNeg 0)) (fun q => g q.2))
    refine j_cVs Y_J0_charAt_5068e hu.1 rfl hl im_J0_charAt_5068e se_J0_charAt_5068e ⟨hr.1, by omega⟩ d (As := [.int i]) (rest := st) rfl rfl hrm (cq_ch hu.1 hu.2.1 hu.2.2) (fun q hq => ?_)
    cases hq
    exact k _ rfl
  · have e : q_sch u i = none := if_neg hu
    rw [e]
    exact j_none
end QS3

