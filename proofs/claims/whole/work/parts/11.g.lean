/-! FarFolders$Series.insert(J)I -/
theorem dX5_insert_0 : decode cX5_insert 0 = .ok (.aload_n 0, 1) := by decide +kernel
theorem dX5_insert_1 : decode cX5_insert 1 = .ok (.getfield 21, 3) := by decide +kernel
theorem dX5_insert_4 : decode cX5_insert 4 = .ok (.aload_n 0, 1) := by decide +kernel
theorem dX5_insert_5 : decode cX5_insert 5 = .ok (.getfield 15, 3) := by decide +kernel
theorem dX5_insert_8 : decode cX5_insert 8 = .ok (.arraylength, 1) := by decide +kernel
theorem dX5_insert_9 : decode cX5_insert 9 = .ok (.if_icmp .lt 5, 3) := by decide +kernel
theorem dX5_insert_12 : decode cX5_insert 12 = .ok (.iconst 0, 1) := by decide +kernel
theorem dX5_insert_13 : decode cX5_insert 13 = .ok (.ireturn, 1) := by decide +kernel
theorem dX5_insert_14 : decode cX5_insert 14 = .ok (.aload_n 0, 1) := by decide +kernel
theorem dX5_insert_15 : decode cX5_insert 15 = .ok (.getfield 21, 3) := by decide +kernel
theorem dX5_insert_18 : decode cX5_insert 18 = .ok (.istore_n 3, 1) := by decide +kernel
theorem dX5_insert_19 : decode cX5_insert 19 = .ok (.iload_n 3, 1) := by decide +kernel
theorem dX5_insert_20 : decode cX5_insert 20 = .ok (.ifCond .le 36, 3) := by decide +kernel
theorem dX5_insert_23 : decode cX5_insert 23 = .ok (.aload_n 0, 1) := by decide +kernel
theorem dX5_insert_24 : decode cX5_insert 24 = .ok (.getfield 15, 3) := by decide +kernel
theorem dX5_insert_27 : decode cX5_insert 27 = .ok (.iload_n 3, 1) := by decide +kernel
theorem dX5_insert_28 : decode cX5_insert 28 = .ok (.iconst 1, 1) := by decide +kernel
theorem dX5_insert_29 : decode cX5_insert 29 = .ok (.isub, 1) := by decide +kernel
theorem dX5_insert_30 : decode cX5_insert 30 = .ok (.laload, 1) := by decide +kernel
theorem dX5_insert_31 : decode cX5_insert 31 = .ok (.lload_n 1, 1) := by decide +kernel
theorem dX5_insert_32 : decode cX5_insert 32 = .ok (.lcmp, 1) := by decide +kernel
theorem dX5_insert_33 : decode cX5_insert 33 = .ok (.ifCond .le 23, 3) := by decide +kernel
theorem dX5_insert_36 : decode cX5_insert 36 = .ok (.aload_n 0, 1) := by decide +kernel
theorem dX5_insert_37 : decode cX5_insert 37 = .ok (.getfield 15, 3) := by decide +kernel
theorem dX5_insert_40 : decode cX5_insert 40 = .ok (.iload_n 3, 1) := by decide +kernel
theorem dX5_insert_41 : decode cX5_insert 41 = .ok (.aload_n 0, 1) := by decide +kernel
theorem dX5_insert_42 : decode cX5_insert 42 = .ok (.getfield 15, 3) := by decide +kernel
theorem dX5_insert_45 : decode cX5_insert 45 = .ok (.iload_n 3, 1) := by decide +kernel
theorem dX5_insert_46 : decode cX5_insert 46 = .ok (.iconst 1, 1) := by decide +kernel
theorem dX5_insert_47 : decode cX5_insert 47 = .ok (.isub, 1) := by decide +kernel
theorem dX5_insert_48 : decode cX5_insert 48 = .ok (.laload, 1) := by decide +kernel
theorem dX5_insert_49 : decode cX5_insert 49 = .ok (.lastore, 1) := by decide +kernel
theorem dX5_insert_50 : decode cX5_insert 50 = .ok (.iinc 3 (-1), 3) := by decide +kernel
theorem dX5_insert_53 : decode cX5_insert 53 = .ok (.goto (-34), 3) := by decide +kernel
theorem dX5_insert_56 : decode cX5_insert 56 = .ok (.aload_n 0, 1) := by decide +kernel
theorem dX5_insert_57 : decode cX5_insert 57 = .ok (.getfield 15, 3) := by decide +kernel
theorem dX5_insert_60 : decode cX5_insert 60 = .ok (.iload_n 3, 1) := by decide +kernel
theorem dX5_insert_61 : decode cX5_insert 61 = .ok (.lload_n 1, 1) := by decide +kernel
theorem dX5_insert_62 : decode cX5_insert 62 = .ok (.lastore, 1) := by decide +kernel
theorem dX5_insert_63 : decode cX5_insert 63 = .ok (.aload_n 0, 1) := by decide +kernel
theorem dX5_insert_64 : decode cX5_insert 64 = .ok (.dup, 1) := by decide +kernel
theorem dX5_insert_65 : decode cX5_insert 65 = .ok (.getfield 21, 3) := by decide +kernel
theorem dX5_insert_68 : decode cX5_insert 68 = .ok (.iconst 1, 1) := by decide +kernel
theorem dX5_insert_69 : decode cX5_insert 69 = .ok (.iadd, 1) := by decide +kernel
theorem dX5_insert_70 : decode cX5_insert 70 = .ok (.putfield 21, 3) := by decide +kernel
theorem dX5_insert_73 : decode cX5_insert 73 = .ok (.aload_n 0, 1) := by decide +kernel
theorem dX5_insert_74 : decode cX5_insert 74 = .ok (.getfield 21, 3) := by decide +kernel
theorem dX5_insert_77 : decode cX5_insert 77 = .ok (.iconst 1, 1) := by decide +kernel
theorem dX5_insert_78 : decode cX5_insert 78 = .ok (.isub, 1) := by decide +kernel
theorem dX5_insert_79 : decode cX5_insert 79 = .ok (.iload_n 3, 1) := by decide +kernel
theorem dX5_insert_80 : decode cX5_insert 80 = .ok (.isub, 1) := by decide +kernel
theorem dX5_insert_81 : decode cX5_insert 81 = .ok (.ireturn, 1) := by decide +kernel
def b_X5_insert_56 (h : q_H) (v0 : Nat) (v1 : Int64) (v3 : Int32) : Option (q_H × Int32) :=
  Option.bind (q_gR 4 0 h v0) (fun x1 => Option.bind (q_sL h x1 v3 v1) (fun h2 => Option.bind (q_gI 4 1 h2 v0) (fun x3 => Option.bind (q_p 4 1 h2 v0 (.int (x3 + (1)))) (fun h4 => Option.bind (q_gI 4 1 h4 v0) (fun x5 => some (h4, ((x5 - (1)) - v3)))))))
def b_X5_insert_19 (k19 : q_H → Nat → Int64 → Int32 → Option (q_H × Int32)) (h : q_H) (v0 : Nat) (v1 : Int64) (v3 : Int32) : Option (q_H × Int32) :=
  if v3 ≤ 0 then b_X5_insert_56 h v0 v1 v3 else Option.bind (q_gR 4 0 h v0) (fun x6 => Option.bind (q_lL h x6 (v3 - (1))) (fun x7 => if (lg_cmp x7 v1) ≤ 0 then b_X5_insert_56 h v0 v1 v3 else Option.bind (q_gR 4 0 h v0) (fun x8 => Option.bind (q_gR 4 0 h v0) (fun x9 => Option.bind (q_lL h x9 (v3 - (1))) (fun x10 => Option.bind (q_sL h x8 v3 x10) (fun h11 => k19 h11 v0 v1 (v3 + (-1))))))))
def l_X5_insert_19 : Nat → q_H → Nat → Int64 → Int32 → Option (q_H × Int32)
  | 0, _, _, _, _ => none
  | n + 1, h, v0, v1, v3 => b_X5_insert_19 (l_X5_insert_19 n) h v0 v1 v3
def b_X5_insert_0 (h : q_H) (v0 : Nat) (v1 : Int64) : Option (q_H × Int32) :=
  Option.bind (q_gI 4 1 h v0) (fun x12 => Option.bind (q_gR 4 0 h v0) (fun x13 => Option.bind (q_len h x13) (fun x14 => if x12 < x14 then Option.bind (q_gI 4 1 h v0) (fun x15 => l_X5_insert_19 q_FU h v0 v1 x15) else some (h, (0)))))
def f_X5_insert (h : q_H) (a0 : Nat) (a1 : Int64) : Option (q_H × Int32) := q_chk 4 h a0 (b_X5_insert_0 h a0 a1)
set_option maxRecDepth 20000 in
set_option maxHeartbeats 1000000 in
theorem jb_X5_insert_56 {G : q_G} {l : Launch} {k0 z0 : Nat} (h : q_H) (v0 : Nat) (v1 : Int64) (v3 : Int32) : q_J G l (RX5, cX5_insert, 4, 0, 0, (some .int), "insert", []) k0 z0 (q_Z G k0 z0 q_i) 56 [(0, .ref v0), (1, .long v1), (3, .int v3)] [] h (b_X5_insert_56 h v0 v1 v3) := by
  unfold b_X5_insert_56
  refine j_aload_n (pc := 56) (p := 0) rfl rfl dX5_insert_56 ?_
  refine j_getR (pc := 57) FI_X5 (k := 0) (by decide) fl_X5_15 dX5_insert_57 (fun x1 _ => ?_)
  refine j_iload_n (pc := 60) (p := 2) rfl rfl dX5_insert_60 ?_
  refine j_lload_n (pc := 61) (p := 1) rfl rfl dX5_insert_61 ?_
  refine j_last (pc := 62) dX5_insert_62 (fun h2 _ => ?_)
  refine j_aload_n (pc := 63) (p := 0) rfl rfl dX5_insert_63 ?_
  refine j_dup (pc := 64) rfl dX5_insert_64 ?_
  refine j_getI (pc := 65) FI_X5 (k := 1) (by decide) fl_X5_21 dX5_insert_65 (fun x3 _ => ?_)
  refine j_iconst (pc := 68) ki_1 dX5_insert_68 ?_
  refine j_iadd (pc := 69) dX5_insert_69 ?_
  refine j_put (pc := 70) FI_X5 (k := 1) (by decide) fl_X5_21 rfl rfl rfl dX5_insert_70 (fun h4 _ => ?_)
  refine j_aload_n (pc := 73) (p := 0) rfl rfl dX5_insert_73 ?_
  refine j_getI (pc := 74) FI_X5 (k := 1) (by decide) fl_X5_21 dX5_insert_74 (fun x5 _ => ?_)
  refine j_iconst (pc := 77) ki_1 dX5_insert_77 ?_
  refine j_isub (pc := 78) dX5_insert_78 ?_
  refine j_iload_n (pc := 79) (p := 2) rfl rfl dX5_insert_79 ?_
  refine j_isub (pc := 80) dX5_insert_80 ?_
  exact j_iret (pc := 81) rfl dX5_insert_81
set_option maxRecDepth 20000 in
set_option maxHeartbeats 1000000 in
theorem jb_X5_insert_19 {G : q_G} {l : Launch} {k0 z0 : Nat} (k19 : q_H → Nat → Int64 → Int32 → Option (q_H × Int32)) (hk19 : ∀ (h : q_H) (v0 : Nat) (v1 : Int64) (v3 : Int32), q_J G l (RX5, cX5_insert, 4, 0, 0, (some .int), "insert", []) k0 z0 (q_Z G k0 z0 q_i) 19 [(0, .ref v0), (1, .long v1), (3, .int v3)] [] h (k19 h v0 v1 v3)) (h : q_H) (v0 : Nat) (v1 : Int64) (v3 : Int32) : q_J G l (RX5, cX5_insert, 4, 0, 0, (some .int), "insert", []) k0 z0 (q_Z G k0 z0 q_i) 19 [(0, .ref v0), (1, .long v1), (3, .int v3)] [] h (b_X5_insert_19 k19 h v0 v1 v3) := by
  unfold b_X5_insert_19
  refine j_iload_n (pc := 19) (p := 2) rfl rfl dX5_insert_19 ?_
  refine j_if_le (pc := 20) (tgt := 56) dX5_insert_20 (by decide) (fun _ => ?_) (fun _ => ?_)
  · exact jb_X5_insert_56 _ _ _ _
  refine j_aload_n (pc := 23) (p := 0) rfl rfl dX5_insert_23 ?_
  refine j_getR (pc := 24) FI_X5 (k := 0) (by decide) fl_X5_15 dX5_insert_24 (fun x6 _ => ?_)
  refine j_iload_n (pc := 27) (p := 2) rfl rfl dX5_insert_27 ?_
  refine j_iconst (pc := 28) ki_1 dX5_insert_28 ?_
  refine j_isub (pc := 29) dX5_insert_29 ?_
  refine j_lald (pc := 30) dX5_insert_30 (fun x7 _ => ?_)
  refine j_lload_n (pc := 31) (p := 1) rfl rfl dX5_insert_31 ?_
  refine j_lcmp (pc := 32) dX5_insert_32 ?_
  refine j_if_le (pc := 33) (tgt := 56) dX5_insert_33 (by decide) (fun _ => ?_) (fun _ => ?_)
  · exact jb_X5_insert_56 _ _ _ _
  refine j_aload_n (pc := 36) (p := 0) rfl rfl dX5_insert_36 ?_
  refine j_getR (pc := 37) FI_X5 (k := 0) (by decide) fl_X5_15 dX5_insert_37 (fun x8 _ => ?_)
  refine j_iload_n (pc := 40) (p := 2) rfl rfl dX5_insert_40 ?_
  refine j_aload_n (pc := 41) (p := 0) rfl rfl dX5_insert_41 ?_
  refine j_getR (pc := 42) FI_X5 (k := 0) (by decide) fl_X5_15 dX5_insert_42 (fun x9 _ => ?_)
  refine j_iload_n (pc := 45) (p := 2) rfl rfl dX5_insert_45 ?_
  refine j_iconst (pc := 46) ki_1 dX5_insert_46 ?_
  refine j_isub (pc := 47) dX5_insert_47 ?_
  refine j_lald (pc := 48) dX5_insert_48 (fun x10 _ => ?_)
  refine j_last (pc := 49) dX5_insert_49 (fun h11 _ => ?_)
  refine j_inc (pc := 50) (p := 2) (lv' := [(3, .int (v3 + (-1))), (0, .ref v0), (1, .long v1)]) rfl ki_m1 (by decide) rfl dX5_insert_50 ?_
  refine j_goto (pc := 53) (tgt := 19) dX5_insert_53 (by decide) ?_
  refine j_sub [1, 2, 0] (lv' := [(0, .ref v0), (1, .long v1), (3, .int (v3 + (-1)))]) rfl ?_
  exact hk19 _ _ _ _
set_option maxRecDepth 20000 in
set_option maxHeartbeats 1000000 in
theorem jl_X5_insert_19 {G : q_G} {l : Launch} {k0 z0 : Nat} (n : Nat) : ∀ (h : q_H) (v0 : Nat) (v1 : Int64) (v3 : Int32), q_J G l (RX5, cX5_insert, 4, 0, 0, (some .int), "insert", []) k0 z0 (q_Z G k0 z0 q_i) 19 [(0, .ref v0), (1, .long v1), (3, .int v3)] [] h (l_X5_insert_19 n h v0 v1 v3) := by
  induction n with
  | zero => intro h v0 v1 v3; exact j_none
  | succ n ih => intro h v0 v1 v3; exact jb_X5_insert_19 (l_X5_insert_19 n) ih h v0 v1 v3
set_option maxRecDepth 20000 in
set_option maxHeartbeats 1000000 in
theorem jb_X5_insert_0 {G : q_G} {l : Launch} {k0 z0 : Nat} (h : q_H) (v0 : Nat) (v1 : Int64) : q_J G l (RX5, cX5_insert, 4, 0, 0, (some .int), "insert", []) k0 z0 (q_Z G k0 z0 q_i) 0 [(0, .ref v0), (1, .long v1)] [] h (b_X5_insert_0 h v0 v1) := by
  unfold b_X5_insert_0
  refine j_aload_n (pc := 0) (p := 0) rfl rfl dX5_insert_0 ?_
  refine j_getI (pc := 1) FI_X5 (k := 1) (by decide) fl_X5_21 dX5_insert_1 (fun x12 _ => ?_)
  refine j_aload_n (pc := 4) (p := 0) rfl rfl dX5_insert_4 ?_
  refine j_getR (pc := 5) FI_X5 (k := 0) (by decide) fl_X5_15 dX5_insert_5 (fun x13 _ => ?_)
  refine j_alen (pc := 8) dX5_insert_8 (fun x14 _ => ?_)
  refine j_ic_lt (pc := 9) (tgt := 14) dX5_insert_9 (by decide) (fun _ => ?_) (fun _ => ?_)
  · refine j_aload_n (pc := 14) (p := 0) rfl rfl dX5_insert_14 ?_
    refine j_getI (pc := 15) FI_X5 (k := 1) (by decide) fl_X5_21 dX5_insert_15 (fun x15 _ => ?_)
    refine j_istore_n (pc := 18) (lv' := [(3, .int x15), (0, .ref v0), (1, .long v1)]) rfl (by decide) rfl dX5_insert_18 ?_
    refine j_sub [1, 2, 0] (lv' := [(0, .ref v0), (1, .long v1), (3, .int x15)]) rfl ?_
    exact jl_X5_insert_19 q_FU _ _ _ _
  refine j_iconst (pc := 12) ki_0 dX5_insert_12 ?_
  exact j_iret (pc := 13) rfl dX5_insert_13
set_option maxRecDepth 20000 in
set_option maxHeartbeats 1000000 in
theorem c_X5_insert {G : q_G} {l : Launch} : ∀ (h : q_H) (a0 : Nat) (a1 : Int64) (q : q_H × Int32), f_X5_insert h a0 a1 = some q → (∃ fs, h.1 a0 = .inr (4, fs)) ∧ q_CT G l yX5_insert cX5_insert 4 (some .int) 0 0 [.ref a0, .long a1] h q.1 (q_i q.2) := by
  intro h a0 a1 q e
  obtain ⟨e1, e2⟩ := q_chk_ok e
  exact ⟨e1, q_ofJ Y_X5_insert (Nat.le_of_ble_eq_true rfl) (jb_X5_insert_0 h a0 a1) q e2⟩
/-! FarFolders$Series.insertMovesOf(LFarFolders$Series;I)V -/
theorem dX5_insertMovesOf_0 : decode cX5_insertMovesOf 0 = .ok (.iconst 0, 1) := by decide +kernel
theorem dX5_insertMovesOf_1 : decode cX5_insertMovesOf 1 = .ok (.istore_n 3, 1) := by decide +kernel
theorem dX5_insertMovesOf_2 : decode cX5_insertMovesOf 2 = .ok (.iload_n 3, 1) := by decide +kernel
theorem dX5_insertMovesOf_3 : decode cX5_insertMovesOf 3 = .ok (.iload_n 2, 1) := by decide +kernel
theorem dX5_insertMovesOf_4 : decode cX5_insertMovesOf 4 = .ok (.if_icmp .ge 30, 3) := by decide +kernel
theorem dX5_insertMovesOf_7 : decode cX5_insertMovesOf 7 = .ok (.aload_n 1, 1) := by decide +kernel
theorem dX5_insertMovesOf_8 : decode cX5_insertMovesOf 8 = .ok (.iload_n 3, 1) := by decide +kernel
theorem dX5_insertMovesOf_9 : decode cX5_insertMovesOf 9 = .ok (.invokevirtual 34, 3) := by decide +kernel
theorem dX5_insertMovesOf_12 : decode cX5_insertMovesOf 12 = .ok (.invokestatic 38, 3) := by decide +kernel
theorem dX5_insertMovesOf_15 : decode cX5_insertMovesOf 15 = .ok (.ifCond .eq 13, 3) := by decide +kernel
theorem dX5_insertMovesOf_18 : decode cX5_insertMovesOf 18 = .ok (.aload_n 0, 1) := by decide +kernel
theorem dX5_insertMovesOf_19 : decode cX5_insertMovesOf 19 = .ok (.aload_n 1, 1) := by decide +kernel
theorem dX5_insertMovesOf_20 : decode cX5_insertMovesOf 20 = .ok (.iload_n 3, 1) := by decide +kernel
theorem dX5_insertMovesOf_21 : decode cX5_insertMovesOf 21 = .ok (.invokevirtual 34, 3) := by decide +kernel
theorem dX5_insertMovesOf_24 : decode cX5_insertMovesOf 24 = .ok (.invokevirtual 50, 3) := by decide +kernel
theorem dX5_insertMovesOf_27 : decode cX5_insertMovesOf 27 = .ok (.pop, 1) := by decide +kernel
theorem dX5_insertMovesOf_28 : decode cX5_insertMovesOf 28 = .ok (.iinc 3 1, 3) := by decide +kernel
theorem dX5_insertMovesOf_31 : decode cX5_insertMovesOf 31 = .ok (.goto (-29), 3) := by decide +kernel
theorem dX5_insertMovesOf_34 : decode cX5_insertMovesOf 34 = .ok (.return_, 1) := by decide +kernel
def b_X5_insertMovesOf_28 (k2 : q_H → Nat → Nat → Int32 → Int32 → Option (q_H × Unit)) (h : q_H) (v0 : Nat) (v1 : Nat) (v2 : Int32) (v3 : Int32) : Option (q_H × Unit) :=
  k2 h v0 v1 v2 (v3 + 1)
def b_X5_insertMovesOf_2 (k2 : q_H → Nat → Nat → Int32 → Int32 → Option (q_H × Unit)) (h : q_H) (v0 : Nat) (v1 : Nat) (v2 : Int32) (v3 : Int32) : Option (q_H × Unit) :=
  if v2 ≤ v3 then some (h, ()) else Option.bind (f_X5_at h v1 v3) (fun q1 => Option.bind (f_X1_hasMove q1.1 q1.2) (fun q2 => if q2.2 = 0 then b_X5_insertMovesOf_28 k2 q2.1 v0 v1 v2 v3 else Option.bind (f_X5_at q2.1 v1 v3) (fun q3 => Option.bind (f_X5_insert q3.1 v0 q3.2) (fun q4 => b_X5_insertMovesOf_28 k2 q4.1 v0 v1 v2 v3))))
def l_X5_insertMovesOf_2 : Nat → q_H → Nat → Nat → Int32 → Int32 → Option (q_H × Unit)
  | 0, _, _, _, _, _ => none
  | n + 1, h, v0, v1, v2, v3 => b_X5_insertMovesOf_2 (l_X5_insertMovesOf_2 n) h v0 v1 v2 v3
def b_X5_insertMovesOf_0 (h : q_H) (v0 : Nat) (v1 : Nat) (v2 : Int32) : Option (q_H × Unit) :=
  l_X5_insertMovesOf_2 q_FU h v0 v1 v2 (0)
def f_X5_insertMovesOf (h : q_H) (a0 : Nat) (a1 : Nat) (a2 : Int32) : Option (q_H × Unit) := q_chk 4 h a0 (b_X5_insertMovesOf_0 h a0 a1 a2)
set_option maxRecDepth 20000 in
set_option maxHeartbeats 1000000 in
theorem jb_X5_insertMovesOf_28 {G : q_G} {l : Launch} {k0 z0 : Nat} (k2 : q_H → Nat → Nat → Int32 → Int32 → Option (q_H × Unit)) (hk2 : ∀ (h : q_H) (v0 : Nat) (v1 : Nat) (v2 : Int32) (v3 : Int32), q_J G l (RX5, cX5_insertMovesOf, 4, 2, 42, none, "insertMovesOf", []) k0 z0 (q_Z G k0 z0 q_u) 2 [(0, .ref v0), (1, .ref v1), (2, .int v2), (3, .int v3)] [] h (k2 h v0 v1 v2 v3)) (h : q_H) (v0 : Nat) (v1 : Nat) (v2 : Int32) (v3 : Int32) : q_J G l (RX5, cX5_insertMovesOf, 4, 2, 42, none, "insertMovesOf", []) k0 z0 (q_Z G k0 z0 q_u) 28 [(0, .ref v0), (1, .ref v1), (2, .int v2), (3, .int v3)] [] h (b_X5_insertMovesOf_28 k2 h v0 v1 v2 v3) := by
  unfold b_X5_insertMovesOf_28
  refine j_inc (pc := 28) (p := 3) (lv' := [(3, .int (v3 + 1)), (0, .ref v0), (1, .ref v1), (2, .int v2)]) rfl ki_1 (by decide) rfl dX5_insertMovesOf_28 ?_
  refine j_goto (pc := 31) (tgt := 2) dX5_insertMovesOf_31 (by decide) ?_
  refine j_sub [1, 2, 3, 0] (lv' := [(0, .ref v0), (1, .ref v1), (2, .int v2), (3, .int (v3 + 1))]) rfl ?_
  exact hk2 _ _ _ _ _
set_option maxRecDepth 20000 in
set_option maxHeartbeats 1000000 in
theorem jb_X5_insertMovesOf_2 {G : q_G} {l : Launch} {k0 z0 : Nat} (k2 : q_H → Nat → Nat → Int32 → Int32 → Option (q_H × Unit)) (hk2 : ∀ (h : q_H) (v0 : Nat) (v1 : Nat) (v2 : Int32) (v3 : Int32), q_J G l (RX5, cX5_insertMovesOf, 4, 2, 42, none, "insertMovesOf", []) k0 z0 (q_Z G k0 z0 q_u) 2 [(0, .ref v0), (1, .ref v1), (2, .int v2), (3, .int v3)] [] h (k2 h v0 v1 v2 v3)) (h : q_H) (v0 : Nat) (v1 : Nat) (v2 : Int32) (v3 : Int32) : q_J G l (RX5, cX5_insertMovesOf, 4, 2, 42, none, "insertMovesOf", []) k0 z0 (q_Z G k0 z0 q_u) 2 [(0, .ref v0), (1, .ref v1), (2, .int v2), (3, .int v3)] [] h (b_X5_insertMovesOf_2 k2 h v0 v1 v2 v3) := by
  unfold b_X5_insertMovesOf_2
  refine j_iload_n (pc := 2) (p := 3) rfl rfl dX5_insertMovesOf_2 ?_
  refine j_iload_n (pc := 3) (p := 2) rfl rfl dX5_insertMovesOf_3 ?_
  refine j_ic_ge (pc := 4) (tgt := 34) dX5_insertMovesOf_4 (by decide) (fun _ => ?_) (fun _ => ?_)
  · exact j_vret (pc := 34) rfl dX5_insertMovesOf_34
  refine j_aload_n (pc := 7) (p := 1) rfl rfl dX5_insertMovesOf_7 ?_
  refine j_iload_n (pc := 8) (p := 3) rfl rfl dX5_insertMovesOf_8 ?_
  refine j_cVl (pc := 9) Y_X5_at (ci := 4) (b := v1) rfl rfl ml_X5_34 im_X5_at se_X5_at ⟨Nat.le_of_ble_eq_true rfl, Nat.le_of_ble_eq_true rfl⟩ dX5_insertMovesOf_9 (As := [.int v3]) (rest := []) rfl rfl (Nat.le_of_ble_eq_true rfl) (fun x hq9 => c_X5_at _ _ _ _ hq9) (fun q1 _ => ?_)
  refine j_cSi (pc := 12) Y_X1_hasMove ml_X5_38 sm_X1_hasMove ⟨Nat.le_of_ble_eq_true rfl, Nat.le_of_ble_eq_true rfl⟩ dX5_insertMovesOf_12 (As := [.long q1.2]) (rest := []) rfl rfl (Nat.le_of_ble_eq_true rfl) (fun x hq9 => c_X1_hasMove _ _ _ hq9) (fun q2 _ => ?_)
  refine j_if_eq (pc := 15) (tgt := 28) dX5_insertMovesOf_15 (by decide) (fun _ => ?_) (fun _ => ?_)
  · exact jb_X5_insertMovesOf_28 k2 hk2 _ _ _ _ _
  refine j_aload_n (pc := 18) (p := 0) rfl rfl dX5_insertMovesOf_18 ?_
  refine j_aload_n (pc := 19) (p := 1) rfl rfl dX5_insertMovesOf_19 ?_
  refine j_iload_n (pc := 20) (p := 3) rfl rfl dX5_insertMovesOf_20 ?_
  refine j_cVl (pc := 21) Y_X5_at (ci := 4) (b := v1) rfl rfl ml_X5_34 im_X5_at se_X5_at ⟨Nat.le_of_ble_eq_true rfl, Nat.le_of_ble_eq_true rfl⟩ dX5_insertMovesOf_21 (As := [.int v3]) (rest := [.ref v0]) rfl rfl (Nat.le_of_ble_eq_true rfl) (fun x hq9 => c_X5_at _ _ _ _ hq9) (fun q3 _ => ?_)
  refine j_cVi (pc := 24) Y_X5_insert (ci := 4) (b := v0) rfl rfl ml_X5_50 im_X5_insert se_X5_insert ⟨Nat.le_of_ble_eq_true rfl, Nat.le_of_ble_eq_true rfl⟩ dX5_insertMovesOf_24 (As := [.long q3.2]) (rest := []) rfl rfl (Nat.le_of_ble_eq_true rfl) (fun x hq9 => c_X5_insert _ _ _ _ hq9) (fun q4 _ => ?_)
  refine j_pop (pc := 27) rfl dX5_insertMovesOf_27 ?_
  exact jb_X5_insertMovesOf_28 k2 hk2 _ _ _ _ _
set_option maxRecDepth 20000 in
set_option maxHeartbeats 1000000 in
theorem jl_X5_insertMovesOf_2 {G : q_G} {l : Launch} {k0 z0 : Nat} (n : Nat) : ∀ (h : q_H) (v0 : Nat) (v1 : Nat) (v2 : Int32) (v3 : Int32), q_J G l (RX5, cX5_insertMovesOf, 4, 2, 42, none, "insertMovesOf", []) k0 z0 (q_Z G k0 z0 q_u) 2 [(0, .ref v0), (1, .ref v1), (2, .int v2), (3, .int v3)] [] h (l_X5_insertMovesOf_2 n h v0 v1 v2 v3) := by
  induction n with
  | zero => intro h v0 v1 v2 v3; exact j_none
  | succ n ih => intro h v0 v1 v2 v3; exact jb_X5_insertMovesOf_2 (l_X5_insertMovesOf_2 n) ih h v0 v1 v2 v3
set_option maxRecDepth 20000 in
set_option maxHeartbeats 1000000 in
theorem jb_X5_insertMovesOf_0 {G : q_G} {l : Launch} {k0 z0 : Nat} (h : q_H) (v0 : Nat) (v1 : Nat) (v2 : Int32) : q_J G l (RX5, cX5_insertMovesOf, 4, 2, 42, none, "insertMovesOf", []) k0 z0 (q_Z G k0 z0 q_u) 0 [(0, .ref v0), (1, .ref v1), (2, .int v2)] [] h (b_X5_insertMovesOf_0 h v0 v1 v2) := by
  unfold b_X5_insertMovesOf_0
  refine j_iconst (pc := 0) ki_0 dX5_insertMovesOf_0 ?_
  refine j_istore_n (pc := 1) (lv' := [(3, .int (0)), (0, .ref v0), (1, .ref v1), (2, .int v2)]) rfl (by decide) rfl dX5_insertMovesOf_1 ?_
  refine j_sub [1, 2, 3, 0] (lv' := [(0, .ref v0), (1, .ref v1), (2, .int v2), (3, .int (0))]) rfl ?_
  exact jl_X5_insertMovesOf_2 q_FU _ _ _ _ _
set_option maxRecDepth 20000 in
set_option maxHeartbeats 1000000 in
theorem c_X5_insertMovesOf {G : q_G} {l : Launch} : ∀ (h : q_H) (a0 : Nat) (a1 : Nat) (a2 : Int32) (q : q_H × Unit), f_X5_insertMovesOf h a0 a1 a2 = some q → (∃ fs, h.1 a0 = .inr (4, fs)) ∧ q_CT G l yX5_insertMovesOf cX5_insertMovesOf 4 none 2 42 [.ref a0, .ref a1, .int a2] h q.1 (q_u q.2) := by
  intro h a0 a1 a2 q e
  obtain ⟨e1, e2⟩ := q_chk_ok e
  exact ⟨e1, q_ofJ Y_X5_insertMovesOf (Nat.le_of_ble_eq_true rfl) (jb_X5_insertMovesOf_0 h a0 a1 a2) q e2⟩
/-! FarFolders$Tree.rebuild(LFarFolders$Tree;LFarFolders$Series;I)I -/
theorem dX7_rebuild_0 : decode cX7_rebuild 0 = .ok (.aload_n 0, 1) := by decide +kernel
theorem dX7_rebuild_1 : decode cX7_rebuild 1 = .ok (.aload_n 1, 1) := by decide +kernel
theorem dX7_rebuild_2 : decode cX7_rebuild 2 = .ok (.invokevirtual 34, 3) := by decide +kernel
theorem dX7_rebuild_5 : decode cX7_rebuild 5 = .ok (.iconst 0, 1) := by decide +kernel
theorem dX7_rebuild_6 : decode cX7_rebuild 6 = .ok (.istore 4, 2) := by decide +kernel
theorem dX7_rebuild_8 : decode cX7_rebuild 8 = .ok (.iconst 0, 1) := by decide +kernel
theorem dX7_rebuild_9 : decode cX7_rebuild 9 = .ok (.istore 5, 2) := by decide +kernel
theorem dX7_rebuild_11 : decode cX7_rebuild 11 = .ok (.iload 5, 2) := by decide +kernel
theorem dX7_rebuild_13 : decode cX7_rebuild 13 = .ok (.aload_n 2, 1) := by decide +kernel
theorem dX7_rebuild_14 : decode cX7_rebuild 14 = .ok (.getfield 38, 3) := by decide +kernel
theorem dX7_rebuild_17 : decode cX7_rebuild 17 = .ok (.if_icmp .ge 37, 3) := by decide +kernel
theorem dX7_rebuild_20 : decode cX7_rebuild 20 = .ok (.iload 5, 2) := by decide +kernel
theorem dX7_rebuild_22 : decode cX7_rebuild 22 = .ok (.iload_n 3, 1) := by decide +kernel
theorem dX7_rebuild_23 : decode cX7_rebuild 23 = .ok (.if_icmp .eq 25, 3) := by decide +kernel
theorem dX7_rebuild_26 : decode cX7_rebuild 26 = .ok (.aload_n 0, 1) := by decide +kernel
theorem dX7_rebuild_27 : decode cX7_rebuild 27 = .ok (.aload_n 2, 1) := by decide +kernel
theorem dX7_rebuild_28 : decode cX7_rebuild 28 = .ok (.iload 5, 2) := by decide +kernel
theorem dX7_rebuild_30 : decode cX7_rebuild 30 = .ok (.invokevirtual 44, 3) := by decide +kernel
theorem dX7_rebuild_33 : decode cX7_rebuild 33 = .ok (.invokevirtual 48, 3) := by decide +kernel
theorem dX7_rebuild_36 : decode cX7_rebuild 36 = .ok (.ifCond .ne 12, 3) := by decide +kernel
theorem dX7_rebuild_39 : decode cX7_rebuild 39 = .ok (.iload 4, 2) := by decide +kernel
theorem dX7_rebuild_41 : decode cX7_rebuild 41 = .ok (.iconst 1, 1) := by decide +kernel
theorem dX7_rebuild_42 : decode cX7_rebuild 42 = .ok (.iload 5, 2) := by decide +kernel
theorem dX7_rebuild_44 : decode cX7_rebuild 44 = .ok (.ishl, 1) := by decide +kernel
theorem dX7_rebuild_45 : decode cX7_rebuild 45 = .ok (.ior, 1) := by decide +kernel
theorem dX7_rebuild_46 : decode cX7_rebuild 46 = .ok (.istore 4, 2) := by decide +kernel
theorem dX7_rebuild_48 : decode cX7_rebuild 48 = .ok (.iinc 5 1, 3) := by decide +kernel
theorem dX7_rebuild_51 : decode cX7_rebuild 51 = .ok (.goto (-40), 3) := by decide +kernel
theorem dX7_rebuild_54 : decode cX7_rebuild 54 = .ok (.iload 4, 2) := by decide +kernel
theorem dX7_rebuild_56 : decode cX7_rebuild 56 = .ok (.ireturn, 1) := by decide +kernel
def b_X7_rebuild_48 (k11 : q_H → Nat → Nat → Int32 → Int32 → Int32 → Option (q_H × Int32)) (h : q_H) (v0 : Nat) (v2 : Nat) (v3 : Int32) (v4 : Int32) (v5 : Int32) : Option (q_H × Int32) :=
  k11 h v0 v2 v3 v4 (v5 + 1)
def b_X7_rebuild_11 (k11 : q_H → Nat → Nat → Int32 → Int32 → Int32 → Option (q_H × Int32)) (h : q_H) (v0 : Nat) (v2 : Nat) (v3 : Int32) (v4 : Int32) (v5 : Int32) : Option (q_H × Int32) :=
  Option.bind (q_gI 4 1 h v2) (fun x1 => if x1 ≤ v5 then some (h, v4) else if v5 = v3 then b_X7_rebuild_48 k11 h v0 v2 v3 v4 v5 else Option.bind (f_X5_at h v2 v5) (fun q2 => Option.bind (f_X7_doMove q2.1 v0 q2.2) (fun q3 => if q3.2 = 0 then b_X7_rebuild_48 k11 q3.1 v0 v2 v3 (v4 ||| ((1) <<< (v5 &&& 31))) v5 else b_X7_rebuild_48 k11 q3.1 v0 v2 v3 v4 v5)))
def l_X7_rebuild_11 : Nat → q_H → Nat → Nat → Int32 → Int32 → Int32 → Option (q_H × Int32)
  | 0, _, _, _, _, _, _ => none
  | n + 1, h, v0, v2, v3, v4, v5 => b_X7_rebuild_11 (l_X7_rebuild_11 n) h v0 v2 v3 v4 v5
def b_X7_rebuild_0 (h : q_H) (v0 : Nat) (v1 : Nat) (v2 : Nat) (v3 : Int32) : Option (q_H × Int32) :=
  Option.bind (f_X7_copyFrom h v0 v1) (fun q4 => l_X7_rebuild_11 q_FU q4.1 v0 v2 v3 (0) (0))
def f_X7_rebuild (h : q_H) (a0 : Nat) (a1 : Nat) (a2 : Nat) (a3 : Int32) : Option (q_H × Int32) := q_chk 6 h a0 (b_X7_rebuild_0 h a0 a1 a2 a3)
set_option maxRecDepth 20000 in
set_option maxHeartbeats 1000000 in
theorem jb_X7_rebuild_48 {G : q_G} {l : Launch} {k0 z0 : Nat} (k11 : q_H → Nat → Nat → Int32 → Int32 → Int32 → Option (q_H × Int32)) (hk11 : ∀ (h : q_H) (v0 : Nat) (v2 : Nat) (v3 : Int32) (v4 : Int32) (v5 : Int32), q_J G l (RX7, cX7_rebuild, 6, 2, 81, (some .int), "rebuild", []) k0 z0 (q_Z G k0 z0 q_i) 11 [(0, .ref v0), (2, .ref v2), (3, .int v3), (4, .int v4), (5, .int v5)] [] h (k11 h v0 v2 v3 v4 v5)) (h : q_H) (v0 : Nat) (v2 : Nat) (v3 : Int32) (v4 : Int32) (v5 : Int32) : q_J G l (RX7, cX7_rebuild, 6, 2, 81, (some .int), "rebuild", []) k0 z0 (q_Z G k0 z0 q_i) 48 [(0, .ref v0), (2, .ref v2), (3, .int v3), (4, .int v4), (5, .int v5)] [] h (b_X7_rebuild_48 k11 h v0 v2 v3 v4 v5) := by
  unfold b_X7_rebuild_48
  refine j_inc (pc := 48) (p := 4) (lv' := [(5, .int (v5 + 1)), (0, .ref v0), (2, .ref v2), (3, .int v3), (4, .int v4)]) rfl ki_1 (by decide) rfl dX7_rebuild_48 ?_
  refine j_goto (pc := 51) (tgt := 11) dX7_rebuild_51 (by decide) ?_
  refine j_sub [1, 2, 3, 4, 0] (lv' := [(0, .ref v0), (2, .ref v2), (3, .int v3), (4, .int v4), (5, .int (v5 + 1))]) rfl ?_
  exact hk11 _ _ _ _ _ _
set_option maxRecDepth 20000 in
set_option maxHeartbeats 1000000 in
theorem jb_X7_rebuild_11 {G : q_G} {l : Launch} {k0 z0 : Nat} (k11 : q_H → Nat → Nat → Int32 → Int32 → Int32 → Option (q_H × Int32)) (hk11 : ∀ (h : q_H) (v0 : Nat) (v2 : Nat) (v3 : Int32) (v4 : Int32) (v5 : Int32), q_J G l (RX7, cX7_rebuild, 6, 2, 81, (some .int), "rebuild", []) k0 z0 (q_Z G k0 z0 q_i) 11 [(0, .ref v0), (2, .ref v2), (3, .int v3), (4, .int v4), (5, .int v5)] [] h (k11 h v0 v2 v3 v4 v5)) (h : q_H) (v0 : Nat) (v2 : Nat) (v3 : Int32) (v4 : Int32) (v5 : Int32) : q_J G l (RX7, cX7_rebuild, 6, 2, 81, (some .int), "rebuild", []) k0 z0 (q_Z G k0 z0 q_i) 11 [(0, .ref v0), (2, .ref v2), (3, .int v3), (4, .int v4), (5, .int v5)] [] h (b_X7_rebuild_11 k11 h v0 v2 v3 v4 v5) := by
  unfold b_X7_rebuild_11
  refine j_iload (pc := 11) (p := 4) rfl dX7_rebuild_11 ?_
  refine j_aload_n (pc := 13) (p := 1) rfl rfl dX7_rebuild_13 ?_
  refine j_getI (pc := 14) FI_X5 (k := 1) (by decide) fl_X7_38 dX7_rebuild_14 (fun x1 _ => ?_)
  refine j_ic_ge (pc := 17) (tgt := 54) dX7_rebuild_17 (by decide) (fun _ => ?_) (fun _ => ?_)
  · refine j_iload (pc := 54) (p := 3) rfl dX7_rebuild_54 ?_
    exact j_iret (pc := 56) rfl dX7_rebuild_56
  refine j_iload (pc := 20) (p := 4) rfl dX7_rebuild_20 ?_
  refine j_iload_n (pc := 22) (p := 2) rfl rfl dX7_rebuild_22 ?_
  refine j_ic_eq (pc := 23) (tgt := 48) dX7_rebuild_23 (by decide) (fun _ => ?_) (fun _ => ?_)
  · exact jb_X7_rebuild_48 k11 hk11 _ _ _ _ _ _
  refine j_aload_n (pc := 26) (p := 0) rfl rfl dX7_rebuild_26 ?_
  refine j_aload_n (pc := 27) (p := 1) rfl rfl dX7_rebuild_27 ?_
  refine j_iload (pc := 28) (p := 4) rfl dX7_rebuild_28 ?_
  refine j_cVl (pc := 30) Y_X5_at (ci := 4) (b := v2) rfl rfl ml_X7_44 im_X5_at se_X5_at ⟨Nat.le_of_ble_eq_true rfl, Nat.le_of_ble_eq_true rfl⟩ dX7_rebuild_30 (As := [.int v5]) (rest := [.ref v0]) rfl rfl (Nat.le_of_ble_eq_true rfl) (fun x hq9 => c_X5_at _ _ _ _ hq9) (fun q2 _ => ?_)
  refine j_cVi (pc := 33) Y_X7_doMove (ci := 6) (b := v0) rfl rfl ml_X7_48 im_X7_doMove se_X7_doMove ⟨Nat.le_of_ble_eq_true rfl, Nat.le_of_ble_eq_true rfl⟩ dX7_rebuild_33 (As := [.long q2.2]) (rest := []) rfl rfl (Nat.le_of_ble_eq_true rfl) (fun x hq9 => c_X7_doMove _ _ _ _ hq9) (fun q3 _ => ?_)
  refine j_if_ne (pc := 36) (tgt := 48) dX7_rebuild_36 (by decide) (fun _ => ?_) (fun _ => ?_)
  · refine j_iload (pc := 39) (p := 3) rfl dX7_rebuild_39 ?_
    refine j_iconst (pc := 41) ki_1 dX7_rebuild_41 ?_
    refine j_iload (pc := 42) (p := 4) rfl dX7_rebuild_42 ?_
    refine j_ishl (pc := 44) dX7_rebuild_44 ?_
    refine j_ior (pc := 45) dX7_rebuild_45 ?_
    refine j_istore (pc := 46) (lv' := [(4, .int (v4 ||| ((1) <<< (v5 &&& 31)))), (0, .ref v0), (2, .ref v2), (3, .int v3), (5, .int v5)]) (by decide) rfl dX7_rebuild_46 ?_
    refine j_sub [1, 2, 3, 0, 4] (lv' := [(0, .ref v0), (2, .ref v2), (3, .int v3), (4, .int (v4 ||| ((1) <<< (v5 &&& 31)))), (5, .int v5)]) rfl ?_
    exact jb_X7_rebuild_48 k11 hk11 _ _ _ _ _ _
  exact jb_X7_rebuild_48 k11 hk11 _ _ _ _ _ _
set_option maxRecDepth 20000 in
set_option maxHeartbeats 1000000 in
theorem jl_X7_rebuild_11 {G : q_G} {l : Launch} {k0 z0 : Nat} (n : Nat) : ∀ (h : q_H) (v0 : Nat) (v2 : Nat) (v3 : Int32) (v4 : Int32) (v5 : Int32), q_J G l (RX7, cX7_rebuild, 6, 2, 81, (some .int), "rebuild", []) k0 z0 (q_Z G k0 z0 q_i) 11 [(0, .ref v0), (2, .ref v2), (3, .int v3), (4, .int v4), (5, .int v5)] [] h (l_X7_rebuild_11 n h v0 v2 v3 v4 v5) := by
  induction n with
  | zero => intro h v0 v2 v3 v4 v5; exact j_none
  | succ n ih => intro h v0 v2 v3 v4 v5; exact jb_X7_rebuild_11 (l_X7_rebuild_11 n) ih h v0 v2 v3 v4 v5
set_option maxRecDepth 20000 in
set_option maxHeartbeats 1000000 in
theorem jb_X7_rebuild_0 {G : q_G} {l : Launch} {k0 z0 : Nat} (h : q_H) (v0 : Nat) (v1 : Nat) (v2 : Nat) (v3 : Int32) : q_J G l (RX7, cX7_rebuild, 6, 2, 81, (some .int), "rebuild", []) k0 z0 (q_Z G k0 z0 q_i) 0 [(0, .ref v0), (1, .ref v1), (2, .ref v2), (3, .int v3)] [] h (b_X7_rebuild_0 h v0 v1 v2 v3) := by
  unfold b_X7_rebuild_0
  refine j_aload_n (pc := 0) (p := 0) rfl rfl dX7_rebuild_0 ?_
  refine j_aload_n (pc := 1) (p := 1) rfl rfl dX7_rebuild_1 ?_
  refine j_cVu (pc := 2) Y_X7_copyFrom (ci := 6) (b := v0) rfl rfl ml_X7_34 im_X7_copyFrom se_X7_copyFrom ⟨Nat.le_of_ble_eq_true rfl, Nat.le_of_ble_eq_true rfl⟩ dX7_rebuild_2 (As := [.ref v1]) (rest := []) rfl rfl (Nat.le_of_ble_eq_true rfl) (fun x hq9 => c_X7_copyFrom _ _ _ _ hq9) (fun q4 _ => ?_)
  refine j_iconst (pc := 5) ki_0 dX7_rebuild_5 ?_
  refine j_istore (pc := 6) (lv' := [(4, .int (0)), (0, .ref v0), (1, .ref v1), (2, .ref v2), (3, .int v3)]) (by decide) rfl dX7_rebuild_6 ?_
  refine j_iconst (pc := 8) ki_0 dX7_rebuild_8 ?_
  refine j_istore (pc := 9) (lv' := [(5, .int (0)), (4, .int (0)), (0, .ref v0), (1, .ref v1), (2, .ref v2), (3, .int v3)]) (by decide) rfl dX7_rebuild_9 ?_
  refine j_sub [2, 4, 5, 1, 0] (lv' := [(0, .ref v0), (2, .ref v2), (3, .int v3), (4, .int (0)), (5, .int (0))]) rfl ?_
  exact jl_X7_rebuild_11 q_FU _ _ _ _ _ _
set_option maxRecDepth 20000 in
set_option maxHeartbeats 1000000 in
theorem c_X7_rebuild {G : q_G} {l : Launch} : ∀ (h : q_H) (a0 : Nat) (a1 : Nat) (a2 : Nat) (a3 : Int32) (q : q_H × Int32), f_X7_rebuild h a0 a1 a2 a3 = some q → (∃ fs, h.1 a0 = .inr (6, fs)) ∧ q_CT G l yX7_rebuild cX7_rebuild 6 (some .int) 2 81 [.ref a0, .ref a1, .ref a2, .int a3] h q.1 (q_i q.2) := by
  intro h a0 a1 a2 a3 q e
  obtain ⟨e1, e2⟩ := q_chk_ok e
  exact ⟨e1, q_ofJ Y_X7_rebuild (Nat.le_of_ble_eq_true rfl) (jb_X7_rebuild_0 h a0 a1 a2 a3) q e2⟩
/-! FarFolders$Meeting.grow(LFarFolders$Tree;LFarFolders$Copy;LFarFolders$Series;ILFarFolders$Series;I)V -/
theorem dX2_grow_0 : decode cX2_grow 0 = .ok (.aload_n 0, 1) := by decide +kernel
theorem dX2_grow_1 : decode cX2_grow 1 = .ok (.getfield 27, 3) := by decide +kernel
theorem dX2_grow_4 : decode cX2_grow 4 = .ok (.aload_n 2, 1) := by decide +kernel
theorem dX2_grow_5 : decode cX2_grow 5 = .ok (.getfield 63, 3) := by decide +kernel
theorem dX2_grow_8 : decode cX2_grow 8 = .ok (.invokevirtual 68, 3) := by decide +kernel
theorem dX2_grow_11 : decode cX2_grow 11 = .ok (.aload_n 0, 1) := by decide +kernel
theorem dX2_grow_12 : decode cX2_grow 12 = .ok (.getfield 27, 3) := by decide +kernel
theorem dX2_grow_15 : decode cX2_grow 15 = .ok (.aload_n 3, 1) := by decide +kernel
theorem dX2_grow_16 : decode cX2_grow 16 = .ok (.iload 4, 2) := by decide +kernel
theorem dX2_grow_18 : decode cX2_grow 18 = .ok (.invokevirtual 72, 3) := by decide +kernel
theorem dX2_grow_21 : decode cX2_grow 21 = .ok (.aload_n 0, 1) := by decide +kernel
theorem dX2_grow_22 : decode cX2_grow 22 = .ok (.getfield 27, 3) := by decide +kernel
theorem dX2_grow_25 : decode cX2_grow 25 = .ok (.aload 5, 2) := by decide +kernel
theorem dX2_grow_27 : decode cX2_grow 27 = .ok (.iload 6, 2) := by decide +kernel
theorem dX2_grow_29 : decode cX2_grow 29 = .ok (.invokevirtual 72, 3) := by decide +kernel
theorem dX2_grow_32 : decode cX2_grow 32 = .ok (.aload_n 1, 1) := by decide +kernel
theorem dX2_grow_33 : decode cX2_grow 33 = .ok (.aload_n 2, 1) := by decide +kernel
theorem dX2_grow_34 : decode cX2_grow 34 = .ok (.getfield 76, 3) := by decide +kernel
theorem dX2_grow_37 : decode cX2_grow 37 = .ok (.aload_n 0, 1) := by decide +kernel
theorem dX2_grow_38 : decode cX2_grow 38 = .ok (.getfield 27, 3) := by decide +kernel
theorem dX2_grow_41 : decode cX2_grow 41 = .ok (.iconst (-1), 1) := by decide +kernel
theorem dX2_grow_42 : decode cX2_grow 42 = .ok (.invokevirtual 79, 3) := by decide +kernel
theorem dX2_grow_45 : decode cX2_grow 45 = .ok (.pop, 1) := by decide +kernel
theorem dX2_grow_46 : decode cX2_grow 46 = .ok (.return_, 1) := by decide +kernel
def b_X2_grow_0 (h : q_H) (v0 : Nat) (v1 : Nat) (v2 : Nat) (v3 : Nat) (v4 : Int32) (v5 : Nat) (v6 : Int32) : Option (q_H × Unit) :=
  Option.bind (q_gR 1 2 h v0) (fun x1 => Option.bind (q_gR 0 3 h v2) (fun x2 => Option.bind (f_X5_copyFrom h x1 x2) (fun q3 => Option.bind (q_gR 1 2 q3.1 v0) (fun x4 => Option.bind (f_X5_insertMovesOf q3.1 x4 v3 v4) (fun q5 => Option.bind (q_gR 1 2 q5.1 v0) (fun x6 => Option.bind (f_X5_insertMovesOf q5.1 x6 v5 v6) (fun q7 => Option.bind (q_gR 0 4 q7.1 v2) (fun x8 => Option.bind (q_gR 1 2 q7.1 v0) (fun x9 => Option.bind (f_X7_rebuild q7.1 v1 x8 x9 (-1)) (fun q10 => some (q10.1, ())))))))))))
def f_X2_grow (h : q_H) (a0 : Nat) (a1 : Nat) (a2 : Nat) (a3 : Nat) (a4 : Int32) (a5 : Nat) (a6 : Int32) : Option (q_H × Unit) := q_chk 1 h a0 (b_X2_grow_0 h a0 a1 a2 a3 a4 a5 a6)
set_option maxRecDepth 20000 in
set_option maxHeartbeats 1000000 in
theorem jb_X2_grow_0 {G : q_G} {l : Launch} {k0 z0 : Nat} (h : q_H) (v0 : Nat) (v1 : Nat) (v2 : Nat) (v3 : Nat) (v4 : Int32) (v5 : Nat) (v6 : Int32) : q_J G l (RX2, cX2_grow, 7, 3, 106, none, "grow", []) k0 z0 (q_Z G k0 z0 q_u) 0 [(0, .ref v0), (1, .ref v1), (2, .ref v2), (3, .ref v3), (4, .int v4), (5, .ref v5), (6, .int v6)] [] h (b_X2_grow_0 h v0 v1 v2 v3 v4 v5 v6) := by
  unfold b_X2_grow_0
  refine j_aload_n (pc := 0) (p := 0) rfl rfl dX2_grow_0 ?_
  refine j_getR (pc := 1) FI_X2 (k := 2) (by decide) fl_X2_27 dX2_grow_1 (fun x1 _ => ?_)
  refine j_aload_n (pc := 4) (p := 2) rfl rfl dX2_grow_4 ?_
  refine j_getR (pc := 5) FI_X0 (k := 3) (by decide) fl_X2_63 dX2_grow_5 (fun x2 _ => ?_)
  refine j_cVu (pc := 8) Y_X5_copyFrom (ci := 4) (b := x1) rfl rfl ml_X2_68 im_X5_copyFrom se_X5_copyFrom ⟨Nat.le_of_ble_eq_true rfl, Nat.le_of_ble_eq_true rfl⟩ dX2_grow_8 (As := [.ref x2]) (rest := []) rfl rfl (Nat.le_of_ble_eq_true rfl) (fun x hq9 => c_X5_copyFrom _ _ _ _ hq9) (fun q3 _ => ?_)
  refine j_aload_n (pc := 11) (p := 0) rfl rfl dX2_grow_11 ?_
  refine j_getR (pc := 12) FI_X2 (k := 2) (by decide) fl_X2_27 dX2_grow_12 (fun x4 _ => ?_)
  refine j_aload_n (pc := 15) (p := 3) rfl rfl dX2_grow_15 ?_
  refine j_iload (pc := 16) (p := 4) rfl dX2_grow_16 ?_
  refine j_cVu (pc := 18) Y_X5_insertMovesOf (ci := 4) (b := x4) rfl rfl ml_X2_72 im_X5_insertMovesOf se_X5_insertMovesOf ⟨Nat.le_of_ble_eq_true rfl, Nat.le_of_ble_eq_true rfl⟩ dX2_grow_18 (As := [.ref v3, .int v4]) (rest := []) rfl rfl (Nat.le_of_ble_eq_true rfl) (fun x hq9 => c_X5_insertMovesOf _ _ _ _ _ hq9) (fun q5 _ => ?_)
  refine j_aload_n (pc := 21) (p := 0) rfl rfl dX2_grow_21 ?_
  refine j_getR (pc := 22) FI_X2 (k := 2) (by decide) fl_X2_27 dX2_grow_22 (fun x6 _ => ?_)
  refine j_aload (pc := 25) (p := 5) rfl dX2_grow_25 ?_
  refine j_iload (pc := 27) (p := 6) rfl dX2_grow_27 ?_
  refine j_cVu (pc := 29) Y_X5_insertMovesOf (ci := 4) (b := x6) rfl rfl ml_X2_72 im_X5_insertMovesOf se_X5_insertMovesOf ⟨Nat.le_of_ble_eq_true rfl, Nat.le_of_ble_eq_true rfl⟩ dX2_grow_29 (As := [.ref v5, .int v6]) (rest := []) rfl rfl (Nat.le_of_ble_eq_true rfl) (fun x hq9 => c_X5_insertMovesOf _ _ _ _ _ hq9) (fun q7 _ => ?_)
  refine j_aload_n (pc := 32) (p := 1) rfl rfl dX2_grow_32 ?_
  refine j_aload_n (pc := 33) (p := 2) rfl rfl dX2_grow_33 ?_
  refine j_getR (pc := 34) FI_X0 (k := 4) (by decide) fl_X2_76 dX2_grow_34 (fun x8 _ => ?_)
  refine j_aload_n (pc := 37) (p := 0) rfl rfl dX2_grow_37 ?_
  refine j_getR (pc := 38) FI_X2 (k := 2) (by decide) fl_X2_27 dX2_grow_38 (fun x9 _ => ?_)
  refine j_iconst (pc := 41) ki_m1 dX2_grow_41 ?_
  refine j_cVi (pc := 42) Y_X7_rebuild (ci := 6) (b := v1) rfl rfl ml_X2_79 im_X7_rebuild se_X7_rebuild ⟨Nat.le_of_ble_eq_true rfl, Nat.le_of_ble_eq_true rfl⟩ dX2_grow_42 (As := [.ref x8, .ref x9, .int (-1)]) (rest := []) rfl rfl (Nat.le_of_ble_eq_true rfl) (fun x hq9 => c_X7_rebuild _ _ _ _ _ _ hq9) (fun q10 _ => ?_)
  refine j_pop (pc := 45) rfl dX2_grow_45 ?_
  exact j_vret (pc := 46) rfl dX2_grow_46
set_option maxRecDepth 20000 in
set_option maxHeartbeats 1000000 in
theorem c_X2_grow {G : q_G} {l : Launch} : ∀ (h : q_H) (a0 : Nat) (a1 : Nat) (a2 : Nat) (a3 : Nat) (a4 : Int32) (a5 : Nat) (a6 : Int32) (q : q_H × Unit), f_X2_grow h a0 a1 a2 a3 a4 a5 a6 = some q → (∃ fs, h.1 a0 = .inr (1, fs)) ∧ q_CT G l yX2_grow cX2_grow 7 none 3 106 [.ref a0, .ref a1, .ref a2, .ref a3, .int a4, .ref a5, .int a6] h q.1 (q_u q.2) := by
  intro h a0 a1 a2 a3 a4 a5 a6 q e
  obtain ⟨e1, e2⟩ := q_chk_ok e
  exact ⟨e1, q_ofJ Y_X2_grow (Nat.le_of_ble_eq_true rfl) (jb_X2_grow_0 h a0 a1 a2 a3 a4 a5 a6) q e2⟩
/-! FarFolders$Meeting.<init>()V -/
theorem dX2_init_0 : decode cX2_init 0 = .ok (.aload_n 0, 1) := by decide +kernel
theorem dX2_init_1 : decode cX2_init 1 = .ok (.invokespecial 3, 3) := by decide +kernel
theorem dX2_init_4 : decode cX2_init 4 = .ok (.aload_n 0, 1) := by decide +kernel
theorem dX2_init_5 : decode cX2_init 5 = .ok (.bipush 49, 2) := by decide +kernel
theorem dX2_init_7 : decode cX2_init 7 = .ok (.anewarray 9, 3) := by decide +kernel
theorem dX2_init_10 : decode cX2_init 10 = .ok (.putfield 11, 3) := by decide +kernel
theorem dX2_init_13 : decode cX2_init 13 = .ok (.aload_n 0, 1) := by decide +kernel
theorem dX2_init_14 : decode cX2_init 14 = .ok (.new 9, 3) := by decide +kernel
theorem dX2_init_17 : decode cX2_init 17 = .ok (.dup, 1) := by decide +kernel
theorem dX2_init_18 : decode cX2_init 18 = .ok (.invokespecial 17, 3) := by decide +kernel
theorem dX2_init_21 : decode cX2_init 21 = .ok (.putfield 18, 3) := by decide +kernel
theorem dX2_init_24 : decode cX2_init 24 = .ok (.aload_n 0, 1) := by decide +kernel
theorem dX2_init_25 : decode cX2_init 25 = .ok (.new 22, 3) := by decide +kernel
theorem dX2_init_28 : decode cX2_init 28 = .ok (.dup, 1) := by decide +kernel
theorem dX2_init_29 : decode cX2_init 29 = .ok (.bipush 32, 2) := by decide +kernel
theorem dX2_init_31 : decode cX2_init 31 = .ok (.invokespecial 24, 3) := by decide +kernel
theorem dX2_init_34 : decode cX2_init 34 = .ok (.putfield 27, 3) := by decide +kernel
theorem dX2_init_37 : decode cX2_init 37 = .ok (.iconst 0, 1) := by decide +kernel
theorem dX2_init_38 : decode cX2_init 38 = .ok (.istore_n 1, 1) := by decide +kernel
theorem dX2_init_39 : decode cX2_init 39 = .ok (.iload_n 1, 1) := by decide +kernel
theorem dX2_init_40 : decode cX2_init 40 = .ok (.aload_n 0, 1) := by decide +kernel
theorem dX2_init_41 : decode cX2_init 41 = .ok (.getfield 11, 3) := by decide +kernel
theorem dX2_init_44 : decode cX2_init 44 = .ok (.arraylength, 1) := by decide +kernel
theorem dX2_init_45 : decode cX2_init 45 = .ok (.if_icmp .ge 22, 3) := by decide +kernel
theorem dX2_init_48 : decode cX2_init 48 = .ok (.aload_n 0, 1) := by decide +kernel
theorem dX2_init_49 : decode cX2_init 49 = .ok (.getfield 11, 3) := by decide +kernel
theorem dX2_init_52 : decode cX2_init 52 = .ok (.iload_n 1, 1) := by decide +kernel
theorem dX2_init_53 : decode cX2_init 53 = .ok (.new 9, 3) := by decide +kernel
theorem dX2_init_56 : decode cX2_init 56 = .ok (.dup, 1) := by decide +kernel
theorem dX2_init_57 : decode cX2_init 57 = .ok (.invokespecial 17, 3) := by decide +kernel
theorem dX2_init_60 : decode cX2_init 60 = .ok (.aastore, 1) := by decide +kernel
theorem dX2_init_61 : decode cX2_init 61 = .ok (.iinc 1 1, 3) := by decide +kernel
theorem dX2_init_64 : decode cX2_init 64 = .ok (.goto (-25), 3) := by decide +kernel
theorem dX2_init_67 : decode cX2_init 67 = .ok (.return_, 1) := by decide +kernel
def b_X2_init_39 (k39 : q_H → Nat → Int32 → Option (q_H × Unit)) (h : q_H) (v0 : Nat) (v1 : Int32) : Option (q_H × Unit) :=
  Option.bind (q_gR 1 0 h v0) (fun x1 => Option.bind (q_len h x1) (fun x2 => if x2 ≤ v1 then some (h, ()) else Option.bind (q_gR 1 0 h v0) (fun x3 => Option.bind (q_new 6 [.null] h) (fun q4 => Option.bind (f_X7_init q4.1 q4.2) (fun q5 => Option.bind (q_sR 6 6 q5.1 x3 v1 q4.2) (fun h6 => k39 h6 v0 (v1 + 1)))))))
def l_X2_init_39 : Nat → q_H → Nat → Int32 → Option (q_H × Unit)
  | 0, _, _, _ => none
  | n + 1, h, v0, v1 => b_X2_init_39 (l_X2_init_39 n) h v0 v1
def b_X2_init_0 (h : q_H) (v0 : Nat) : Option (q_H × Unit) :=
  Option.bind (q_nR 6 h (49)) (fun q7 => Option.bind (q_p 1 0 q7.1 v0 (.ref q7.2)) (fun h8 => Option.bind (q_new 6 [.null] h8) (fun q9 => Option.bind (f_X7_init q9.1 q9.2) (fun q10 => Option.bind (q_p 1 1 q10.1 v0 (.ref q9.2)) (fun h11 => Option.bind (q_new 4 [.null, .int 0] h11) (fun q12 => Option.bind (f_X5_init q12.1 q12.2 (32)) (fun q13 => Option.bind (q_p 1 2 q13.1 v0 (.ref q12.2)) (fun h14 => l_X2_init_39 q_FU h14 v0 (0)))))))))
def f_X2_init (h : q_H) (a0 : Nat) : Option (q_H × Unit) := b_X2_init_0 h a0
set_option maxRecDepth 20000 in
set_option maxHeartbeats 1000000 in
theorem jb_X2_init_39 {G : q_G} {l : Launch} {k0 z0 : Nat} (hx : G.2.2.2.2.2.2.2 = true) (k39 : q_H → Nat → Int32 → Option (q_H × Unit)) (hk39 : ∀ (h : q_H) (v0 : Nat) (v1 : Int32), q_J G l (RX2, cX2_init, 2, 2, 81, none, "<init>", []) k0 z0 (q_Z G k0 z0 q_u) 39 [(0, .ref v0), (1, .int v1)] [] h (k39 h v0 v1)) (h : q_H) (v0 : Nat) (v1 : Int32) : q_J G l (RX2, cX2_init, 2, 2, 81, none, "<init>", []) k0 z0 (q_Z G k0 z0 q_u) 39 [(0, .ref v0), (1, .int v1)] [] h (b_X2_init_39 k39 h v0 v1) := by
  unfold b_X2_init_39
  refine j_iload_n (pc := 39) (p := 1) rfl rfl dX2_init_39 ?_
  refine j_aload_n (pc := 40) (p := 0) rfl rfl dX2_init_40 ?_
  refine j_getR (pc := 41) FI_X2 (k := 0) (by decide) fl_X2_11 dX2_init_41 (fun x1 _ => ?_)
  refine j_alen (pc := 44) dX2_init_44 (fun x2 _ => ?_)
  refine j_ic_ge (pc := 45) (tgt := 67) dX2_init_45 (by decide) (fun _ => ?_) (fun _ => ?_)
  · exact j_vret (pc := 67) rfl dX2_init_67
  refine j_aload_n (pc := 48) (p := 0) rfl rfl dX2_init_48 ?_
  refine j_getR (pc := 49) FI_X2 (k := 0) (by decide) fl_X2_11 dX2_init_49 (fun x3 _ => ?_)
  refine j_iload_n (pc := 52) (p := 1) rfl rfl dX2_init_52 ?_
  refine j_new (pc := 53) hx FI_X7 cl_X2_9 ins_X7 ini_X7 rfl (nf_X7 G) dX2_init_53 (fun q4 _ => ?_)
  refine j_dup (pc := 56) rfl dX2_init_56 ?_
  refine j_cINu (pc := 57) Y_X7_init (b := q4.2) rfl mn_X2_17 im_X7_init ⟨Nat.le_of_ble_eq_true rfl, Nat.le_of_ble_eq_true rfl⟩ dX2_init_57 (As := []) (rest := [.ref q4.2, .int v1, .ref x3]) rfl rfl (Nat.le_of_ble_eq_true rfl) (fun x hq9 => (c_X7_init hx) _ _ _ hq9) (fun q5 _ => ?_)
  refine j_aast (pc := 60) (t := 6) (ci := 6) rfl rfl dX2_init_60 (fun h6 _ => ?_)
  refine j_inc (pc := 61) (p := 1) (lv' := [(1, .int (v1 + 1)), (0, .ref v0)]) rfl ki_1 (by decide) rfl dX2_init_61 ?_
  refine j_goto (pc := 64) (tgt := 39) dX2_init_64 (by decide) ?_
  refine j_sub [1, 0] (lv' := [(0, .ref v0), (1, .int (v1 + 1))]) rfl ?_
  exact hk39 _ _ _
set_option maxRecDepth 20000 in
set_option maxHeartbeats 1000000 in
theorem jl_X2_init_39 {G : q_G} {l : Launch} {k0 z0 : Nat} (hx : G.2.2.2.2.2.2.2 = true) (n : Nat) : ∀ (h : q_H) (v0 : Nat) (v1 : Int32), q_J G l (RX2, cX2_init, 2, 2, 81, none, "<init>", []) k0 z0 (q_Z G k0 z0 q_u) 39 [(0, .ref v0), (1, .int v1)] [] h (l_X2_init_39 n h v0 v1) := by
  induction n with
  | zero => intro h v0 v1; exact j_none
  | succ n ih => intro h v0 v1; exact jb_X2_init_39 hx (l_X2_init_39 n) ih h v0 v1
set_option maxRecDepth 20000 in
set_option maxHeartbeats 1000000 in
theorem jb_X2_init_0 {G : q_G} {l : Launch} {k0 z0 : Nat} (hx : G.2.2.2.2.2.2.2 = true) (h : q_H) (v0 : Nat) : q_J G l (RX2, cX2_init, 2, 2, 81, none, "<init>", []) k0 z0 (q_Z G k0 z0 q_u) 0 [(0, .ref v0)] [] h (b_X2_init_0 h v0) := by
  unfold b_X2_init_0
  refine j_aload_n (pc := 0) (p := 0) rfl rfl dX2_init_0 ?_
  refine j_oinit (pc := 1) ml_X2_3 im_Oinit co_Oinit ⟨Nat.le_of_ble_eq_true rfl, Nat.le_of_ble_eq_true rfl⟩ dX2_init_1 ?_
  refine j_aload_n (pc := 4) (p := 0) rfl rfl dX2_init_4 ?_
  refine j_bipush (pc := 5) kb_49 dX2_init_5 ?_
  refine j_newr (pc := 7) (t := 6) hx rfl cl_X2_9 (fun _ U => U.2.2.1.2.2.1) dX2_init_7 (fun q7 _ => ?_)
  refine j_putF (pc := 10) FI_X2 (k := 0) (by decide) fl_X2_11 rfl rfl rfl rfl rfl dX2_init_10 (fun h8 _ => ?_)
  refine j_aload_n (pc := 13) (p := 0) rfl rfl dX2_init_13 ?_
  refine j_new (pc := 14) hx FI_X7 cl_X2_9 ins_X7 ini_X7 rfl (nf_X7 G) dX2_init_14 (fun q9 _ => ?_)
  refine j_dup (pc := 17) rfl dX2_init_17 ?_
  refine j_cINu (pc := 18) Y_X7_init (b := q9.2) rfl mn_X2_17 im_X7_init ⟨Nat.le_of_ble_eq_true rfl, Nat.le_of_ble_eq_true rfl⟩ dX2_init_18 (As := []) (rest := [.ref q9.2, .ref v0]) rfl rfl (Nat.le_of_ble_eq_true rfl) (fun x hq9 => (c_X7_init hx) _ _ _ hq9) (fun q10 _ => ?_)
  refine j_putF (pc := 21) FI_X2 (k := 1) (by decide) fl_X2_18 rfl rfl rfl rfl rfl dX2_init_21 (fun h11 _ => ?_)
  refine j_aload_n (pc := 24) (p := 0) rfl rfl dX2_init_24 ?_
  refine j_new (pc := 25) hx FI_X5 cl_X2_22 ins_X5 ini_X5 rfl (nf_X5 G) dX2_init_25 (fun q12 _ => ?_)
  refine j_dup (pc := 28) rfl dX2_init_28 ?_
  refine j_bipush (pc := 29) kb_32 dX2_init_29 ?_
  refine j_cIu (pc := 31) Y_X5_init (b := q12.2) rfl ml_X2_24 im_X5_init ⟨Nat.le_of_ble_eq_true rfl, Nat.le_of_ble_eq_true rfl⟩ dX2_init_31 (As := [.int (32)]) (rest := [.ref q12.2, .ref v0]) rfl rfl (Nat.le_of_ble_eq_true rfl) (fun x hq9 => (c_X5_init hx) _ _ _ _ hq9) (fun q13 _ => ?_)
  refine j_putF (pc := 34) FI_X2 (k := 2) (by decide) fl_X2_27 rfl rfl rfl rfl rfl dX2_init_34 (fun h14 _ => ?_)
  refine j_iconst (pc := 37) ki_0 dX2_init_37 ?_
  refine j_istore_n (pc := 38) (lv' := [(1, .int (0)), (0, .ref v0)]) rfl (by decide) rfl dX2_init_38 ?_
  refine j_sub [1, 0] (lv' := [(0, .ref v0), (1, .int (0))]) rfl ?_
  exact jl_X2_init_39 hx q_FU _ _ _
set_option maxRecDepth 20000 in
set_option maxHeartbeats 1000000 in
theorem c_X2_init {G : q_G} {l : Launch} (hx : G.2.2.2.2.2.2.2 = true) : ∀ (h : q_H) (a0 : Nat) (q : q_H × Unit), f_X2_init h a0 = some q → q_CT G l yX2_init cX2_init 2 none 2 81 [.ref a0] h q.1 (q_u q.2) := by
  intro h a0 q e
  exact q_ofJ Y_X2_init (Nat.le_of_ble_eq_true rfl) (jb_X2_init_0 hx h a0) q e
/-! FarFolders$Meeting.lettersOn(II)I -/
theorem dX2_lettersOn_0 : decode cX2_lettersOn 0 = .ok (.iload_n 0, 1) := by decide +kernel
theorem dX2_lettersOn_1 : decode cX2_lettersOn 1 = .ok (.istore_n 2, 1) := by decide +kernel
theorem dX2_lettersOn_2 : decode cX2_lettersOn 2 = .ok (.iconst 3, 1) := by decide +kernel
theorem dX2_lettersOn_3 : decode cX2_lettersOn 3 = .ok (.istore_n 3, 1) := by decide +kernel
theorem dX2_lettersOn_4 : decode cX2_lettersOn 4 = .ok (.iload_n 3, 1) := by decide +kernel
theorem dX2_lettersOn_5 : decode cX2_lettersOn 5 = .ok (.iload_n 1, 1) := by decide +kernel
theorem dX2_lettersOn_6 : decode cX2_lettersOn 6 = .ok (.if_icmp .le 14, 3) := by decide +kernel
theorem dX2_lettersOn_9 : decode cX2_lettersOn 9 = .ok (.iload_n 2, 1) := by decide +kernel
theorem dX2_lettersOn_10 : decode cX2_lettersOn 10 = .ok (.bipush 7, 2) := by decide +kernel
theorem dX2_lettersOn_12 : decode cX2_lettersOn 12 = .ok (.idiv, 1) := by decide +kernel
theorem dX2_lettersOn_13 : decode cX2_lettersOn 13 = .ok (.istore_n 2, 1) := by decide +kernel
theorem dX2_lettersOn_14 : decode cX2_lettersOn 14 = .ok (.iinc 3 (-1), 3) := by decide +kernel
theorem dX2_lettersOn_17 : decode cX2_lettersOn 17 = .ok (.goto (-13), 3) := by decide +kernel
theorem dX2_lettersOn_20 : decode cX2_lettersOn 20 = .ok (.iload_n 2, 1) := by decide +kernel
theorem dX2_lettersOn_21 : decode cX2_lettersOn 21 = .ok (.bipush 7, 2) := by decide +kernel
theorem dX2_lettersOn_23 : decode cX2_lettersOn 23 = .ok (.irem, 1) := by decide +kernel
theorem dX2_lettersOn_24 : decode cX2_lettersOn 24 = .ok (.ireturn, 1) := by decide +kernel
def b_X2_lettersOn_4 (k4 : q_H → Int32 → Int32 → Int32 → Option (q_H × Int32)) (h : q_H) (v1 : Int32) (v2 : Int32) (v3 : Int32) : Option (q_H × Int32) :=
  if v3 ≤ v1 then Option.bind (q_rem v2 (7)) (fun x1 => some (h, x1)) else Option.bind (q_div v2 (7)) (fun x2 => k4 h v1 x2 (v3 + (-1)))
def l_X2_lettersOn_4 : Nat → q_H → Int32 → Int32 → Int32 → Option (q_H × Int32)
  | 0, _, _, _, _ => none
  | n + 1, h, v1, v2, v3 => b_X2_lettersOn_4 (l_X2_lettersOn_4 n) h v1 v2 v3
def b_X2_lettersOn_0 (h : q_H) (v0 : Int32) (v1 : Int32) : Option (q_H × Int32) :=
  l_X2_lettersOn_4 q_FU h v1 v0 (3)
def f_X2_lettersOn (h : q_H) (a0 : Int32) (a1 : Int32) : Option (q_H × Int32) := b_X2_lettersOn_0 h a0 a1
set_option maxRecDepth 20000 in
set_option maxHeartbeats 1000000 in
theorem jb_X2_lettersOn_4 {G : q_G} {l : Launch} {k0 z0 : Nat} (k4 : q_H → Int32 → Int32 → Int32 → Option (q_H × Int32)) (hk4 : ∀ (h : q_H) (v1 : Int32) (v2 : Int32) (v3 : Int32), q_J G l (RX2, cX2_lettersOn, 4, 0, 0, (some .int), "lettersOn", []) k0 z0 (q_Z G k0 z0 q_i) 4 [(1, .int v1), (2, .int v2), (3, .int v3)] [] h (k4 h v1 v2 v3)) (h : q_H) (v1 : Int32) (v2 : Int32) (v3 : Int32) : q_J G l (RX2, cX2_lettersOn, 4, 0, 0, (some .int), "lettersOn", []) k0 z0 (q_Z G k0 z0 q_i) 4 [(1, .int v1), (2, .int v2), (3, .int v3)] [] h (b_X2_lettersOn_4 k4 h v1 v2 v3) := by
  unfold b_X2_lettersOn_4
  refine j_iload_n (pc := 4) (p := 2) rfl rfl dX2_lettersOn_4 ?_
  refine j_iload_n (pc := 5) (p := 0) rfl rfl dX2_lettersOn_5 ?_
  refine j_ic_le (pc := 6) (tgt := 20) dX2_lettersOn_6 (by decide) (fun _ => ?_) (fun _ => ?_)
  · refine j_iload_n (pc := 20) (p := 1) rfl rfl dX2_lettersOn_20 ?_
    refine j_bipush (pc := 21) kb_7 dX2_lettersOn_21 ?_
    refine j_irem (pc := 23) dX2_lettersOn_23 (fun x1 _ => ?_)
    exact j_iret (pc := 24) rfl dX2_lettersOn_24
  refine j_iload_n (pc := 9) (p := 1) rfl rfl dX2_lettersOn_9 ?_
  refine j_bipush (pc := 10) kb_7 dX2_lettersOn_10 ?_
  refine j_idiv (pc := 12) dX2_lettersOn_12 (fun x2 _ => ?_)
  refine j_istore_n (pc := 13) (lv' := [(2, .int x2), (1, .int v1), (3, .int v3)]) rfl (by decide) rfl dX2_lettersOn_13 ?_
  refine j_inc (pc := 14) (p := 2) (lv' := [(3, .int (v3 + (-1))), (2, .int x2), (1, .int v1)]) rfl ki_m1 (by decide) rfl dX2_lettersOn_14 ?_
  refine j_goto (pc := 17) (tgt := 4) dX2_lettersOn_17 (by decide) ?_
  refine j_sub [2, 1, 0] (lv' := [(1, .int v1), (2, .int x2), (3, .int (v3 + (-1)))]) rfl ?_
  exact hk4 _ _ _ _
set_option maxRecDepth 20000 in
set_option maxHeartbeats 1000000 in
theorem jl_X2_lettersOn_4 {G : q_G} {l : Launch} {k0 z0 : Nat} (n : Nat) : ∀ (h : q_H) (v1 : Int32) (v2 : Int32) (v3 : Int32), q_J G l (RX2, cX2_lettersOn, 4, 0, 0, (some .int), "lettersOn", []) k0 z0 (q_Z G k0 z0 q_i) 4 [(1, .int v1), (2, .int v2), (3, .int v3)] [] h (l_X2_lettersOn_4 n h v1 v2 v3) := by
  induction n with
  | zero => intro h v1 v2 v3; exact j_none
  | succ n ih => intro h v1 v2 v3; exact jb_X2_lettersOn_4 (l_X2_lettersOn_4 n) ih h v1 v2 v3
set_option maxRecDepth 20000 in
set_option maxHeartbeats 1000000 in
theorem jb_X2_lettersOn_0 {G : q_G} {l : Launch} {k0 z0 : Nat} (h : q_H) (v0 : Int32) (v1 : Int32) : q_J G l (RX2, cX2_lettersOn, 4, 0, 0, (some .int), "lettersOn", []) k0 z0 (q_Z G k0 z0 q_i) 0 [(0, .int v0), (1, .int v1)] [] h (b_X2_lettersOn_0 h v0 v1) := by
  unfold b_X2_lettersOn_0
  refine j_iload_n (pc := 0) (p := 0) rfl rfl dX2_lettersOn_0 ?_
  refine j_istore_n (pc := 1) (lv' := [(2, .int v0), (0, .int v0), (1, .int v1)]) rfl (by decide) rfl dX2_lettersOn_1 ?_
  refine j_iconst (pc := 2) ki_3 dX2_lettersOn_2 ?_
  refine j_istore_n (pc := 3) (lv' := [(3, .int (3)), (2, .int v0), (0, .int v0), (1, .int v1)]) rfl (by decide) rfl dX2_lettersOn_3 ?_
  refine j_sub [3, 1, 0] (lv' := [(1, .int v1), (2, .int v0), (3, .int (3))]) rfl ?_
  exact jl_X2_lettersOn_4 q_FU _ _ _ _
set_option maxRecDepth 20000 in
set_option maxHeartbeats 1000000 in
theorem c_X2_lettersOn {G : q_G} {l : Launch} : ∀ (h : q_H) (a0 : Int32) (a1 : Int32) (q : q_H × Int32), f_X2_lettersOn h a0 a1 = some q → q_CT G l yX2_lettersOn cX2_lettersOn 4 (some .int) 0 0 [.int a0, .int a1] h q.1 (q_i q.2) := by
  intro h a0 a1 q e
  exact q_ofJ Y_X2_lettersOn (Nat.le_of_ble_eq_true rfl) (jb_X2_lettersOn_0 h a0 a1) q e
/-! FarFolders$World.way(II)LFarFolders$Series; -/
theorem dX8_way_0 : decode cX8_way 0 = .ok (.aload_n 0, 1) := by decide +kernel
theorem dX8_way_1 : decode cX8_way 1 = .ok (.getfield 19, 3) := by decide +kernel
theorem dX8_way_4 : decode cX8_way 4 = .ok (.iload_n 1, 1) := by decide +kernel
theorem dX8_way_5 : decode cX8_way 5 = .ok (.iconst 3, 1) := by decide +kernel
theorem dX8_way_6 : decode cX8_way 6 = .ok (.imul, 1) := by decide +kernel
theorem dX8_way_7 : decode cX8_way 7 = .ok (.iload_n 2, 1) := by decide +kernel
theorem dX8_way_8 : decode cX8_way 8 = .ok (.iadd, 1) := by decide +kernel
theorem dX8_way_9 : decode cX8_way 9 = .ok (.aaload, 1) := by decide +kernel
theorem dX8_way_10 : decode cX8_way 10 = .ok (.areturn, 1) := by decide +kernel
def b_X8_way_0 (h : q_H) (v0 : Nat) (v1 : Int32) (v2 : Int32) : Option (q_H × Nat) :=
  Option.bind (q_gR 7 1 h v0) (fun x1 => Option.bind (q_lR 5 h x1 ((v1 * (3)) + v2)) (fun x2 => some (h, x2)))
def f_X8_way (h : q_H) (a0 : Nat) (a1 : Int32) (a2 : Int32) : Option (q_H × Nat) := q_chk 7 h a0 (b_X8_way_0 h a0 a1 a2)
set_option maxRecDepth 20000 in
set_option maxHeartbeats 1000000 in
theorem jb_X8_way_0 {G : q_G} {l : Launch} {k0 z0 : Nat} (h : q_H) (v0 : Nat) (v1 : Int32) (v2 : Int32) : q_J G l (RX8, cX8_way, 3, 0, 0, (some (.object "FarFolders$Series")), "way", []) k0 z0 (q_Z G k0 z0 q_r) 0 [(0, .ref v0), (1, .int v1), (2, .int v2)] [] h (b_X8_way_0 h v0 v1 v2) := by
  unfold b_X8_way_0
  refine j_aload_n (pc := 0) (p := 0) rfl rfl dX8_way_0 ?_
  refine j_getR (pc := 1) FI_X8 (k := 1) (by decide) fl_X8_19 dX8_way_1 (fun x1 _ => ?_)
  refine j_iload_n (pc := 4) (p := 1) rfl rfl dX8_way_4 ?_
  refine j_iconst (pc := 5) ki_3 dX8_way_5 ?_
  refine j_imul (pc := 6) dX8_way_6 ?_
  refine j_iload_n (pc := 7) (p := 2) rfl rfl dX8_way_7 ?_
  refine j_iadd (pc := 8) dX8_way_8 ?_
  refine j_aald (pc := 9) (t := 5) rfl dX8_way_9 (fun x2 _ => ?_)
  exact j_aret (pc := 10) rfl (Or.inl ⟨_, rfl⟩) dX8_way_10
set_option maxRecDepth 20000 in
set_option maxHeartbeats 1000000 in
theorem c_X8_way {G : q_G} {l : Launch} : ∀ (h : q_H) (a0 : Nat) (a1 : Int32) (a2 : Int32) (q : q_H × Nat), f_X8_way h a0 a1 a2 = some q → (∃ fs, h.1 a0 = .inr (7, fs)) ∧ q_CT G l yX8_way cX8_way 3 (some (.object "FarFolders$Series")) 0 0 [.ref a0, .int a1, .int a2] h q.1 (q_r q.2) := by
  intro h a0 a1 a2 q e
  obtain ⟨e1, e2⟩ := q_chk_ok e
  exact ⟨e1, q_ofJ Y_X8_way (Nat.le_of_ble_eq_true rfl) (jb_X8_way_0 h a0 a1 a2) q e2⟩
/-! FarFolders$Meeting.search(LFarFolders$World;II)I -/
theorem dX2_search_0 : decode cX2_search 0 = .ok (.iconst 3, 1) := by decide +kernel
theorem dX2_search_1 : decode cX2_search 1 = .ok (.iload_n 2, 1) := by decide +kernel
theorem dX2_search_2 : decode cX2_search 2 = .ok (.isub, 1) := by decide +kernel
theorem dX2_search_3 : decode cX2_search 3 = .ok (.iload_n 3, 1) := by decide +kernel
theorem dX2_search_4 : decode cX2_search 4 = .ok (.isub, 1) := by decide +kernel
theorem dX2_search_5 : decode cX2_search 5 = .ok (.istore 4, 2) := by decide +kernel
theorem dX2_search_7 : decode cX2_search 7 = .ok (.aload_n 1, 1) := by decide +kernel
theorem dX2_search_8 : decode cX2_search 8 = .ok (.iload_n 2, 1) := by decide +kernel
theorem dX2_search_9 : decode cX2_search 9 = .ok (.iload_n 3, 1) := by decide +kernel
theorem dX2_search_10 : decode cX2_search 10 = .ok (.invokevirtual 31, 3) := by decide +kernel
theorem dX2_search_13 : decode cX2_search 13 = .ok (.astore 5, 2) := by decide +kernel
theorem dX2_search_15 : decode cX2_search 15 = .ok (.aload_n 1, 1) := by decide +kernel
theorem dX2_search_16 : decode cX2_search 16 = .ok (.iload 4, 2) := by decide +kernel
theorem dX2_search_18 : decode cX2_search 18 = .ok (.iload_n 3, 1) := by decide +kernel
theorem dX2_search_19 : decode cX2_search 19 = .ok (.invokevirtual 31, 3) := by decide +kernel
theorem dX2_search_22 : decode cX2_search 22 = .ok (.astore 6, 2) := by decide +kernel
theorem dX2_search_24 : decode cX2_search 24 = .ok (.iconst 0, 1) := by decide +kernel
theorem dX2_search_25 : decode cX2_search 25 = .ok (.istore 7, 2) := by decide +kernel
theorem dX2_search_27 : decode cX2_search 27 = .ok (.iload 7, 2) := by decide +kernel
theorem dX2_search_29 : decode cX2_search 29 = .ok (.aload 5, 2) := by decide +kernel
theorem dX2_search_31 : decode cX2_search 31 = .ok (.getfield 37, 3) := by decide +kernel
theorem dX2_search_34 : decode cX2_search 34 = .ok (.if_icmp .gt 58, 3) := by decide +kernel
theorem dX2_search_37 : decode cX2_search 37 = .ok (.iconst 0, 1) := by decide +kernel
theorem dX2_search_38 : decode cX2_search 38 = .ok (.istore 8, 2) := by decide +kernel
theorem dX2_search_40 : decode cX2_search 40 = .ok (.iload 8, 2) := by decide +kernel
theorem dX2_search_42 : decode cX2_search 42 = .ok (.aload 6, 2) := by decide +kernel
theorem dX2_search_44 : decode cX2_search 44 = .ok (.getfield 37, 3) := by decide +kernel
theorem dX2_search_47 : decode cX2_search 47 = .ok (.if_icmp .gt 39, 3) := by decide +kernel
theorem dX2_search_50 : decode cX2_search 50 = .ok (.aload_n 0, 1) := by decide +kernel
theorem dX2_search_51 : decode cX2_search 51 = .ok (.aload_n 0, 1) := by decide +kernel
theorem dX2_search_52 : decode cX2_search 52 = .ok (.getfield 11, 3) := by decide +kernel
theorem dX2_search_55 : decode cX2_search 55 = .ok (.iload 7, 2) := by decide +kernel
theorem dX2_search_57 : decode cX2_search 57 = .ok (.iload 8, 2) := by decide +kernel
theorem dX2_search_59 : decode cX2_search 59 = .ok (.invokestatic 41, 3) := by decide +kernel
theorem dX2_search_62 : decode cX2_search 62 = .ok (.aaload, 1) := by decide +kernel
theorem dX2_search_63 : decode cX2_search 63 = .ok (.aload_n 1, 1) := by decide +kernel
theorem dX2_search_64 : decode cX2_search 64 = .ok (.getfield 47, 3) := by decide +kernel
theorem dX2_search_67 : decode cX2_search 67 = .ok (.iload_n 3, 1) := by decide +kernel
theorem dX2_search_68 : decode cX2_search 68 = .ok (.aaload, 1) := by decide +kernel
theorem dX2_search_69 : decode cX2_search 69 = .ok (.aload 5, 2) := by decide +kernel
theorem dX2_search_71 : decode cX2_search 71 = .ok (.iload 7, 2) := by decide +kernel
theorem dX2_search_73 : decode cX2_search 73 = .ok (.aload 6, 2) := by decide +kernel
theorem dX2_search_75 : decode cX2_search 75 = .ok (.iload 8, 2) := by decide +kernel
theorem dX2_search_77 : decode cX2_search 77 = .ok (.invokevirtual 51, 3) := by decide +kernel
theorem dX2_search_80 : decode cX2_search 80 = .ok (.iinc 8 1, 3) := by decide +kernel
theorem dX2_search_83 : decode cX2_search 83 = .ok (.goto (-43), 3) := by decide +kernel
theorem dX2_search_86 : decode cX2_search 86 = .ok (.iinc 7 1, 3) := by decide +kernel
theorem dX2_search_89 : decode cX2_search 89 = .ok (.goto (-62), 3) := by decide +kernel
theorem dX2_search_92 : decode cX2_search 92 = .ok (.aload_n 0, 1) := by decide +kernel
theorem dX2_search_93 : decode cX2_search 93 = .ok (.ldc 55, 2) := by decide +kernel
theorem dX2_search_95 : decode cX2_search 95 = .ok (.putfield 56, 3) := by decide +kernel
theorem dX2_search_98 : decode cX2_search 98 = .ok (.aload_n 1, 1) := by decide +kernel
theorem dX2_search_99 : decode cX2_search 99 = .ok (.iload_n 3, 1) := by decide +kernel
theorem dX2_search_100 : decode cX2_search 100 = .ok (.iload_n 2, 1) := by decide +kernel
theorem dX2_search_101 : decode cX2_search 101 = .ok (.invokevirtual 31, 3) := by decide +kernel
theorem dX2_search_104 : decode cX2_search 104 = .ok (.astore 7, 2) := by decide +kernel
theorem dX2_search_106 : decode cX2_search 106 = .ok (.aload_n 1, 1) := by decide +kernel
theorem dX2_search_107 : decode cX2_search 107 = .ok (.iload 4, 2) := by decide +kernel
theorem dX2_search_109 : decode cX2_search 109 = .ok (.iload_n 2, 1) := by decide +kernel
theorem dX2_search_110 : decode cX2_search 110 = .ok (.invokevirtual 31, 3) := by decide +kernel
theorem dX2_search_113 : decode cX2_search 113 = .ok (.astore 8, 2) := by decide +kernel
theorem dX2_search_115 : decode cX2_search 115 = .ok (.iconst 0, 1) := by decide +kernel
theorem dX2_search_116 : decode cX2_search 116 = .ok (.istore 9, 2) := by decide +kernel
theorem dX2_search_118 : decode cX2_search 118 = .ok (.iload 9, 2) := by decide +kernel
theorem dX2_search_120 : decode cX2_search 120 = .ok (.aload 7, 2) := by decide +kernel
theorem dX2_search_122 : decode cX2_search 122 = .ok (.getfield 37, 3) := by decide +kernel
theorem dX2_search_125 : decode cX2_search 125 = .ok (.if_icmp .gt 68, 3) := by decide +kernel
theorem dX2_search_128 : decode cX2_search 128 = .ok (.iconst 0, 1) := by decide +kernel
theorem dX2_search_129 : decode cX2_search 129 = .ok (.istore 10, 2) := by decide +kernel
theorem dX2_search_131 : decode cX2_search 131 = .ok (.iload 10, 2) := by decide +kernel
theorem dX2_search_133 : decode cX2_search 133 = .ok (.aload 8, 2) := by decide +kernel
theorem dX2_search_135 : decode cX2_search 135 = .ok (.getfield 37, 3) := by decide +kernel
theorem dX2_search_138 : decode cX2_search 138 = .ok (.if_icmp .gt 49, 3) := by decide +kernel
theorem dX2_search_141 : decode cX2_search 141 = .ok (.aload_n 0, 1) := by decide +kernel
theorem dX2_search_142 : decode cX2_search 142 = .ok (.aload_n 0, 1) := by decide +kernel
theorem dX2_search_143 : decode cX2_search 143 = .ok (.getfield 18, 3) := by decide +kernel
theorem dX2_search_146 : decode cX2_search 146 = .ok (.aload_n 1, 1) := by decide +kernel
theorem dX2_search_147 : decode cX2_search 147 = .ok (.getfield 47, 3) := by decide +kernel
theorem dX2_search_150 : decode cX2_search 150 = .ok (.iload_n 2, 1) := by decide +kernel
theorem dX2_search_151 : decode cX2_search 151 = .ok (.aaload, 1) := by decide +kernel
theorem dX2_search_152 : decode cX2_search 152 = .ok (.aload 7, 2) := by decide +kernel
theorem dX2_search_154 : decode cX2_search 154 = .ok (.iload 9, 2) := by decide +kernel
theorem dX2_search_156 : decode cX2_search 156 = .ok (.aload 8, 2) := by decide +kernel
theorem dX2_search_158 : decode cX2_search 158 = .ok (.iload 10, 2) := by decide +kernel
theorem dX2_search_160 : decode cX2_search 160 = .ok (.invokevirtual 51, 3) := by decide +kernel
theorem dX2_search_163 : decode cX2_search 163 = .ok (.aload_n 0, 1) := by decide +kernel
theorem dX2_search_164 : decode cX2_search 164 = .ok (.iload 9, 2) := by decide +kernel
theorem dX2_search_166 : decode cX2_search 166 = .ok (.iload 10, 2) := by decide +kernel
theorem dX2_search_168 : decode cX2_search 168 = .ok (.aload 5, 2) := by decide +kernel
theorem dX2_search_170 : decode cX2_search 170 = .ok (.getfield 37, 3) := by decide +kernel
theorem dX2_search_173 : decode cX2_search 173 = .ok (.aload 6, 2) := by decide +kernel
theorem dX2_search_175 : decode cX2_search 175 = .ok (.getfield 37, 3) := by decide +kernel
theorem dX2_search_178 : decode cX2_search 178 = .ok (.invokevirtual 59, 3) := by decide +kernel
theorem dX2_search_181 : decode cX2_search 181 = .ok (.iinc 10 1, 3) := by decide +kernel
theorem dX2_search_184 : decode cX2_search 184 = .ok (.goto (-53), 3) := by decide +kernel
theorem dX2_search_187 : decode cX2_search 187 = .ok (.iinc 9 1, 3) := by decide +kernel
theorem dX2_search_190 : decode cX2_search 190 = .ok (.goto (-72), 3) := by decide +kernel
theorem dX2_search_193 : decode cX2_search 193 = .ok (.aload_n 0, 1) := by decide +kernel
theorem dX2_search_194 : decode cX2_search 194 = .ok (.getfield 56, 3) := by decide +kernel
theorem dX2_search_197 : decode cX2_search 197 = .ok (.ldc 55, 2) := by decide +kernel
theorem dX2_search_199 : decode cX2_search 199 = .ok (.if_icmp .ne 7, 3) := by decide +kernel
theorem dX2_search_202 : decode cX2_search 202 = .ok (.iconst (-1), 1) := by decide +kernel
theorem dX2_search_203 : decode cX2_search 203 = .ok (.goto 7, 3) := by decide +kernel
theorem dX2_search_206 : decode cX2_search 206 = .ok (.aload_n 0, 1) := by decide +kernel
theorem dX2_search_207 : decode cX2_search 207 = .ok (.getfield 56, 3) := by decide +kernel
theorem dX2_search_210 : decode cX2_search 210 = .ok (.ireturn, 1) := by decide +kernel
def b_X2_search_131 (k118 : q_H → Nat → Nat → Int32 → Nat → Nat → Nat → Nat → Int32 → Option (q_H × Int32)) (k131 : q_H → Nat → Nat → Int32 → Nat → Nat → Nat → Nat → Int32 → Int32 → Option (q_H × Int32)) (h : q_H) (v0 : Nat) (v1 : Nat) (v2 : Int32) (v5 : Nat) (v6 : Nat) (v7 : Nat) (v8 : Nat) (v9 : Int32) (v10 : Int32) : Option (q_H × Int32) :=
  Option.bind (q_gI 4 1 h v8) (fun x1 => if x1 < v10 then k118 h v0 v1 v2 v5 v6 v7 v8 (v9 + 1) else Option.bind (q_gR 1 1 h v0) (fun x2 => Option.bind (q_gR 7 0 h v1) (fun x3 => Option.bind (q_lR 4 h x3 v2) (fun x4 => Option.bind (f_X2_grow h v0 x2 x4 v7 v9 v8 v10) (fun q5 => Option.bind (q_gI 4 1 q5.1 v5) (fun x6 => Option.bind (q_gI 4 1 q5.1 v6) (fun x7 => Option.bind (f_X2_compare q5.1 v0 v9 v10 x6 x7) (fun q8 => k131 q8.1 v0 v1 v2 v5 v6 v7 v8 v9 (v10 + 1)))))))))
def l_X2_search_131 (k118 : q_H → Nat → Nat → Int32 → Nat → Nat → Nat → Nat → Int32 → Option (q_H × Int32)) : Nat → q_H → Nat → Nat → Int32 → Nat → Nat → Nat → Nat → Int32 → Int32 → Option (q_H × Int32)
  | 0, _, _, _, _, _, _, _, _, _, _ => none
  | n + 1, h, v0, v1, v2, v5, v6, v7, v8, v9, v10 => b_X2_search_131 k118 (l_X2_search_131 k118 n) h v0 v1 v2 v5 v6 v7 v8 v9 v10
def b_X2_search_118 (k118 : q_H → Nat → Nat → Int32 → Nat → Nat → Nat → Nat → Int32 → Option (q_H × Int32)) (h : q_H) (v0 : Nat) (v1 : Nat) (v2 : Int32) (v5 : Nat) (v6 : Nat) (v7 : Nat) (v8 : Nat) (v9 : Int32) : Option (q_H × Int32) :=
  Option.bind (q_gI 4 1 h v7) (fun x9 => if x9 < v9 then Option.bind (q_gI 1 3 h v0) (fun x10 => if x10 = (1073741824) then some (h, (-1)) else Option.bind (q_gI 1 3 h v0) (fun x11 => some (h, x11))) else l_X2_search_131 k118 q_FU h v0 v1 v2 v5 v6 v7 v8 v9 (0))
def l_X2_search_118 : Nat → q_H → Nat → Nat → Int32 → Nat → Nat → Nat → Nat → Int32 → Option (q_H × Int32)
  | 0, _, _, _, _, _, _, _, _, _ => none
  | n + 1, h, v0, v1, v2, v5, v6, v7, v8, v9 => b_X2_search_118 (l_X2_search_118 n) h v0 v1 v2 v5 v6 v7 v8 v9
def b_X2_search_40 (k27 : q_H → Nat → Nat → Int32 → Int32 → Int32 → Nat → Nat → Int32 → Option (q_H × Int32)) (k40 : q_H → Nat → Nat → Int32 → Int32 → Int32 → Nat → Nat → Int32 → Int32 → Option (q_H × Int32)) (h : q_H) (v0 : Nat) (v1 : Nat) (v2 : Int32) (v3 : Int32) (v4 : Int32) (v5 : Nat) (v6 : Nat) (v7 : Int32) (v8 : Int32) : Option (q_H × Int32) :=
  Option.bind (q_gI 4 1 h v6) (fun x12 => if x12 < v8 then k27 h v0 v1 v2 v3 v4 v5 v6 (v7 + 1) else Option.bind (q_gR 1 0 h v0) (fun x13 => Option.bind (f_X3_place h v7 v8) (fun q14 => Option.bind (q_lR 6 q14.1 x13 q14.2) (fun x15 => Option.bind (q_gR 7 0 q14.1 v1) (fun x16 => Option.bind (q_lR 4 q14.1 x16 v3) (fun x17 => Option.bind (f_X2_grow q14.1 v0 x15 x17 v5 v7 v6 v8) (fun q18 => k40 q18.1 v0 v1 v2 v3 v4 v5 v6 v7 (v8 + 1))))))))
def l_X2_search_40 (k27 : q_H → Nat → Nat → Int32 → Int32 → Int32 → Nat → Nat → Int32 → Option (q_H × Int32)) : Nat → q_H → Nat → Nat → Int32 → Int32 → Int32 → Nat → Nat → Int32 → Int32 → Option (q_H × Int32)
  | 0, _, _, _, _, _, _, _, _, _, _ => none
  | n + 1, h, v0, v1, v2, v3, v4, v5, v6, v7, v8 => b_X2_search_40 k27 (l_X2_search_40 k27 n) h v0 v1 v2 v3 v4 v5 v6 v7 v8
def b_X2_search_27 (k27 : q_H → Nat → Nat → Int32 → Int32 → Int32 → Nat → Nat → Int32 → Option (q_H × Int32)) (h : q_H) (v0 : Nat) (v1 : Nat) (v2 : Int32) (v3 : Int32) (v4 : Int32) (v5 : Nat) (v6 : Nat) (v7 : Int32) : Option (q_H × Int32) :=
  Option.bind (q_gI 4 1 h v5) (fun x19 => if x19 < v7 then Option.bind (q_p 1 3 h v0 (.int (1073741824))) (fun h20 => Option.bind (f_X8_way h20 v1 v3 v2) (fun q21 => Option.bind (f_X8_way q21.1 v1 v4 v2) (fun q22 => l_X2_search_118 q_FU q22.1 v0 v1 v2 v5 v6 q21.2 q22.2 (0)))) else l_X2_search_40 k27 q_FU h v0 v1 v2 v3 v4 v5 v6 v7 (0))
def l_X2_search_27 : Nat → q_H → Nat → Nat → Int32 → Int32 → Int32 → Nat → Nat → Int32 → Option (q_H × Int32)
  | 0, _, _, _, _, _, _, _, _, _ => none
  | n + 1, h, v0, v1, v2, v3, v4, v5, v6, v7 => b_X2_search_27 (l_X2_search_27 n) h v0 v1 v2 v3 v4 v5 v6 v7
def b_X2_search_0 (h : q_H) (v0 : Nat) (v1 : Nat) (v2 : Int32) (v3 : Int32) : Option (q_H × Int32) :=
  Option.bind (f_X8_way h v1 v2 v3) (fun q23 => Option.bind (f_X8_way q23.1 v1 (((3) - v2) - v3) v3) (fun q24 => l_X2_search_27 q_FU q24.1 v0 v1 v2 v3 (((3) - v2) - v3) q23.2 q24.2 (0)))
def f_X2_search (h : q_H) (a0 : Nat) (a1 : Nat) (a2 : Int32) (a3 : Int32) : Option (q_H × Int32) := q_chk 1 h a0 (b_X2_search_0 h a0 a1 a2 a3)
set_option maxRecDepth 20000 in
set_option maxHeartbeats 1000000 in
theorem jb_X2_search_131 {G : q_G} {l : Launch} {k0 z0 : Nat} (k118 : q_H → Nat → Nat → Int32 → Nat → Nat → Nat → Nat → Int32 → Option (q_H × Int32)) (k131 : q_H → Nat → Nat → Int32 → Nat → Nat → Nat → Nat → Int32 → Int32 → Option (q_H × Int32)) (hk118 : ∀ (h : q_H) (v0 : Nat) (v1 : Nat) (v2 : Int32) (v5 : Nat) (v6 : Nat) (v7 : Nat) (v8 : Nat) (v9 : Int32), q_J G l (RX2, cX2_search, 11, 4, 132, (some .int), "search", []) k0 z0 (q_Z G k0 z0 q_i) 118 [(0, .ref v0), (1, .ref v1), (2, .int v2), (5, .ref v5), (6, .ref v6), (7, .ref v7), (8, .ref v8), (9, .int v9)] [] h (k118 h v0 v1 v2 v5 v6 v7 v8 v9)) (hk131 : ∀ (h : q_H) (v0 : Nat) (v1 : Nat) (v2 : Int32) (v5 : Nat) (v6 : Nat) (v7 : Nat) (v8 : Nat) (v9 : Int32) (v10 : Int32), q_J G l (RX2, cX2_search, 11, 4, 132, (some .int), "search", []) k0 z0 (q_Z G k0 z0 q_i) 131 [(0, .ref v0), (1, .ref v1), (2, .int v2), (5, .ref v5), (6, .ref v6), (7, .ref v7), (8, .ref v8), (9, .int v9), (10, .int v10)] [] h (k131 h v0 v1 v2 v5 v6 v7 v8 v9 v10)) (h : q_H) (v0 : Nat) (v1 : Nat) (v2 : Int32) (v5 : Nat) (v6 : Nat) (v7 : Nat) (v8 : Nat) (v9 : Int32) (v10 : Int32) : q_J G l (RX2, cX2_search, 11, 4, 132, (some .int), "search", []) k0 z0 (q_Z G k0 z0 q_i) 131 [(0, .ref v0), (1, .ref v1), (2, .int v2), (5, .ref v5), (6, .ref v6), (7, .ref v7), (8, .ref v8), (9, .int v9), (10, .int v10)] [] h (b_X2_search_131 k118 k131 h v0 v1 v2 v5 v6 v7 v8 v9 v10) := by
  unfold b_X2_search_131
  refine j_iload (pc := 131) (p := 8) rfl dX2_search_131 ?_
  refine j_aload (pc := 133) (p := 6) rfl dX2_search_133 ?_
  refine j_getI (pc := 135) FI_X5 (k := 1) (by decide) fl_X2_37 dX2_search_135 (fun x1 _ => ?_)
  refine j_ic_gt (pc := 138) (tgt := 187) dX2_search_138 (by decide) (fun _ => ?_) (fun _ => ?_)
  · refine j_inc (pc := 187) (p := 7) (lv' := [(9, .int (v9 + 1)), (0, .ref v0), (1, .ref v1), (2, .int v2), (5, .ref v5), (6, .ref v6), (7, .ref v7), (8, .ref v8), (10, .int v10)]) rfl ki_1 (by decide) rfl dX2_search_187 ?_
    refine j_goto (pc := 190) (tgt := 118) dX2_search_190 (by decide) ?_
    refine j_sub [1, 2, 3, 4, 5, 6, 7, 0] (lv' := [(0, .ref v0), (1, .ref v1), (2, .int v2), (5, .ref v5), (6, .ref v6), (7, .ref v7), (8, .ref v8), (9, .int (v9 + 1))]) rfl ?_
    exact hk118 _ _ _ _ _ _ _ _ _
  refine j_aload_n (pc := 141) (p := 0) rfl rfl dX2_search_141 ?_
  refine j_aload_n (pc := 142) (p := 0) rfl rfl dX2_search_142 ?_
  refine j_getR (pc := 143) FI_X2 (k := 1) (by decide) fl_X2_18 dX2_search_143 (fun x2 _ => ?_)
  refine j_aload_n (pc := 146) (p := 1) rfl rfl dX2_search_146 ?_
  refine j_getR (pc := 147) FI_X8 (k := 0) (by decide) fl_X2_47 dX2_search_147 (fun x3 _ => ?_)
  refine j_iload_n (pc := 150) (p := 2) rfl rfl dX2_search_150 ?_
  refine j_aald (pc := 151) (t := 4) rfl dX2_search_151 (fun x4 _ => ?_)
  refine j_aload (pc := 152) (p := 5) rfl dX2_search_152 ?_
  refine j_iload (pc := 154) (p := 7) rfl dX2_search_154 ?_
  refine j_aload (pc := 156) (p := 6) rfl dX2_search_156 ?_
  refine j_iload (pc := 158) (p := 8) rfl dX2_search_158 ?_
  refine j_cVu (pc := 160) Y_X2_grow (ci := 1) (b := v0) rfl rfl ml_X2_51 im_X2_grow se_X2_grow ⟨Nat.le_of_ble_eq_true rfl, Nat.le_of_ble_eq_true rfl⟩ dX2_search_160 (As := [.ref x2, .ref x4, .ref v7, .int v9, .ref v8, .int v10]) (rest := []) rfl rfl (Nat.le_of_ble_eq_true rfl) (fun x hq9 => c_X2_grow _ _ _ _ _ _ _ _ _ hq9) (fun q5 _ => ?_)
  refine j_aload_n (pc := 163) (p := 0) rfl rfl dX2_search_163 ?_
  refine j_iload (pc := 164) (p := 7) rfl dX2_search_164 ?_
  refine j_iload (pc := 166) (p := 8) rfl dX2_search_166 ?_
  refine j_aload (pc := 168) (p := 3) rfl dX2_search_168 ?_
  refine j_getI (pc := 170) FI_X5 (k := 1) (by decide) fl_X2_37 dX2_search_170 (fun x6 _ => ?_)
  refine j_aload (pc := 173) (p := 4) rfl dX2_search_173 ?_
  refine j_getI (pc := 175) FI_X5 (k := 1) (by decide) fl_X2_37 dX2_search_175 (fun x7 _ => ?_)
  refine j_cVu (pc := 178) Y_X2_compare (ci := 1) (b := v0) rfl rfl ml_X2_59 im_X2_compare se_X2_compare ⟨Nat.le_of_ble_eq_true rfl, Nat.le_of_ble_eq_true rfl⟩ dX2_search_178 (As := [.int v9, .int v10, .int x6, .int x7]) (rest := []) rfl rfl (Nat.le_of_ble_eq_true rfl) (fun x hq9 => c_X2_compare _ _ _ _ _ _ _ hq9) (fun q8 _ => ?_)
  refine j_inc (pc := 181) (p := 8) (lv' := [(10, .int (v10 + 1)), (0, .ref v0), (1, .ref v1), (2, .int v2), (5, .ref v5), (6, .ref v6), (7, .ref v7), (8, .ref v8), (9, .int v9)]) rfl ki_1 (by decide) rfl dX2_search_181 ?_
  refine j_goto (pc := 184) (tgt := 131) dX2_search_184 (by decide) ?_
  refine j_sub [1, 2, 3, 4, 5, 6, 7, 8, 0] (lv' := [(0, .ref v0), (1, .ref v1), (2, .int v2), (5, .ref v5), (6, .ref v6), (7, .ref v7), (8, .ref v8), (9, .int v9), (10, .int (v10 + 1))]) rfl ?_
  exact hk131 _ _ _ _ _ _ _ _ _ _
set_option maxRecDepth 20000 in
set_option maxHeartbeats 1000000 in
theorem jl_X2_search_131 {G : q_G} {l : Launch} {k0 z0 : Nat} (k118 : q_H → Nat → Nat → Int32 → Nat → Nat → Nat → Nat → Int32 → Option (q_H × Int32)) (hk118 : ∀ (h : q_H) (v0 : Nat) (v1 : Nat) (v2 : Int32) (v5 : Nat) (v6 : Nat) (v7 : Nat) (v8 : Nat) (v9 : Int32), q_J G l (RX2, cX2_search, 11, 4, 132, (some .int), "search", []) k0 z0 (q_Z G k0 z0 q_i) 118 [(0, .ref v0), (1, .ref v1), (2, .int v2), (5, .ref v5), (6, .ref v6), (7, .ref v7), (8, .ref v8), (9, .int v9)] [] h (k118 h v0 v1 v2 v5 v6 v7 v8 v9)) (n : Nat) : ∀ (h : q_H) (v0 : Nat) (v1 : Nat) (v2 : Int32) (v5 : Nat) (v6 : Nat) (v7 : Nat) (v8 : Nat) (v9 : Int32) (v10 : Int32), q_J G l (RX2, cX2_search, 11, 4, 132, (some .int), "search", []) k0 z0 (q_Z G k0 z0 q_i) 131 [(0, .ref v0), (1, .ref v1), (2, .int v2), (5, .ref v5), (6, .ref v6), (7, .ref v7), (8, .ref v8), (9, .int v9), (10, .int v10)] [] h (l_X2_search_131 k118 n h v0 v1 v2 v5 v6 v7 v8 v9 v10) := by
  induction n with
  | zero => intro h v0 v1 v2 v5 v6 v7 v8 v9 v10; exact j_none
  | succ n ih => intro h v0 v1 v2 v5 v6 v7 v8 v9 v10; exact jb_X2_search_131 k118 (l_X2_search_131 k118 n) hk118 ih h v0 v1 v2 v5 v6 v7 v8 v9 v10
set_option maxRecDepth 20000 in
set_option maxHeartbeats 1000000 in
theorem jb_X2_search_118 {G : q_G} {l : Launch} {k0 z0 : Nat} (k118 : q_H → Nat → Nat → Int32 → Nat → Nat → Nat → Nat → Int32 → Option (q_H × Int32)) (hk118 : ∀ (h : q_H) (v0 : Nat) (v1 : Nat) (v2 : Int32) (v5 : Nat) (v6 : Nat) (v7 : Nat) (v8 : Nat) (v9 : Int32), q_J G l (RX2, cX2_search, 11, 4, 132, (some .int), "search", []) k0 z0 (q_Z G k0 z0 q_i) 118 [(0, .ref v0), (1, .ref v1), (2, .int v2), (5, .ref v5), (6, .ref v6), (7, .ref v7), (8, .ref v8), (9, .int v9)] [] h (k118 h v0 v1 v2 v5 v6 v7 v8 v9)) (h : q_H) (v0 : Nat) (v1 : Nat) (v2 : Int32) (v5 : Nat) (v6 : Nat) (v7 : Nat) (v8 : Nat) (v9 : Int32) : q_J G l (RX2, cX2_search, 11, 4, 132, (some .int), "search", []) k0 z0 (q_Z G k0 z0 q_i) 118 [(0, .ref v0), (1, .ref v1), (2, .int v2), (5, .ref v5), (6, .ref v6), (7, .ref v7), (8, .ref v8), (9, .int v9)] [] h (b_X2_search_118 k118 h v0 v1 v2 v5 v6 v7 v8 v9) := by
  unfold b_X2_search_118
  refine j_iload (pc := 118) (p := 7) rfl dX2_search_118 ?_
  refine j_aload (pc := 120) (p := 5) rfl dX2_search_120 ?_
  refine j_getI (pc := 122) FI_X5 (k := 1) (by decide) fl_X2_37 dX2_search_122 (fun x9 _ => ?_)
  refine j_ic_gt (pc := 125) (tgt := 193) dX2_search_125 (by decide) (fun _ => ?_) (fun _ => ?_)
  · refine j_aload_n (pc := 193) (p := 0) rfl rfl dX2_search_193 ?_
    refine j_getI (pc := 194) FI_X2 (k := 3) (by decide) fl_X2_56 dX2_search_194 (fun x10 _ => ?_)
    refine j_ldc (pc := 197) ct_X2_55 dX2_search_197 ?_
    refine j_ic_ne (pc := 199) (tgt := 206) dX2_search_199 (by decide) (fun _ => ?_) (fun _ => ?_)
    · refine j_iconst (pc := 202) ki_m1 dX2_search_202 ?_
      refine j_goto (pc := 203) (tgt := 210) dX2_search_203 (by decide) ?_
      exact j_iret (pc := 210) rfl dX2_search_210
    refine j_aload_n (pc := 206) (p := 0) rfl rfl dX2_search_206 ?_
    refine j_getI (pc := 207) FI_X2 (k := 3) (by decide) fl_X2_56 dX2_search_207 (fun x11 _ => ?_)
    exact j_iret (pc := 210) rfl dX2_search_210
  refine j_iconst (pc := 128) ki_0 dX2_search_128 ?_
  refine j_istore (pc := 129) (lv' := [(10, .int (0)), (0, .ref v0), (1, .ref v1), (2, .int v2), (5, .ref v5), (6, .ref v6), (7, .ref v7), (8, .ref v8), (9, .int v9)]) (by decide) rfl dX2_search_129 ?_
  refine j_sub [1, 2, 3, 4, 5, 6, 7, 8, 0] (lv' := [(0, .ref v0), (1, .ref v1), (2, .int v2), (5, .ref v5), (6, .ref v6), (7, .ref v7), (8, .ref v8), (9, .int v9), (10, .int (0))]) rfl ?_
  exact jl_X2_search_131 k118 hk118 q_FU _ _ _ _ _ _ _ _ _ _
set_option maxRecDepth 20000 in
set_option maxHeartbeats 1000000 in
theorem jl_X2_search_118 {G : q_G} {l : Launch} {k0 z0 : Nat} (n : Nat) : ∀ (h : q_H) (v0 : Nat) (v1 : Nat) (v2 : Int32) (v5 : Nat) (v6 : Nat) (v7 : Nat) (v8 : Nat) (v9 : Int32), q_J G l (RX2, cX2_search, 11, 4, 132, (some .int), "search", []) k0 z0 (q_Z G k0 z0 q_i) 118 [(0, .ref v0), (1, .ref v1), (2, .int v2), (5, .ref v5), (6, .ref v6), (7, .ref v7), (8, .ref v8), (9, .int v9)] [] h (l_X2_search_118 n h v0 v1 v2 v5 v6 v7 v8 v9) := by
  induction n with
  | zero => intro h v0 v1 v2 v5 v6 v7 v8 v9; exact j_none
  | succ n ih => intro h v0 v1 v2 v5 v6 v7 v8 v9; exact jb_X2_search_118 (l_X2_search_118 n) ih h v0 v1 v2 v5 v6 v7 v8 v9
set_option maxRecDepth 20000 in
set_option maxHeartbeats 1000000 in
theorem jb_X2_search_40 {G : q_G} {l : Launch} {k0 z0 : Nat} (k27 : q_H → Nat → Nat → Int32 → Int32 → Int32 → Nat → Nat → Int32 → Option (q_H × Int32)) (k40 : q_H → Nat → Nat → Int32 → Int32 → Int32 → Nat → Nat → Int32 → Int32 → Option (q_H × Int32)) (hk27 : ∀ (h : q_H) (v0 : Nat) (v1 : Nat) (v2 : Int32) (v3 : Int32) (v4 : Int32) (v5 : Nat) (v6 : Nat) (v7 : Int32), q_J G l (RX2, cX2_search, 11, 4, 132, (some .int), "search", []) k0 z0 (q_Z G k0 z0 q_i) 27 [(0, .ref v0), (1, .ref v1), (2, .int v2), (3, .int v3), (4, .int v4), (5, .ref v5), (6, .ref v6), (7, .int v7)] [] h (k27 h v0 v1 v2 v3 v4 v5 v6 v7)) (hk40 : ∀ (h : q_H) (v0 : Nat) (v1 : Nat) (v2 : Int32) (v3 : Int32) (v4 : Int32) (v5 : Nat) (v6 : Nat) (v7 : Int32) (v8 : Int32), q_J G l (RX2, cX2_search, 11, 4, 132, (some .int), "search", []) k0 z0 (q_Z G k0 z0 q_i) 40 [(0, .ref v0), (1, .ref v1), (2, .int v2), (3, .int v3), (4, .int v4), (5, .ref v5), (6, .ref v6), (7, .int v7), (8, .int v8)] [] h (k40 h v0 v1 v2 v3 v4 v5 v6 v7 v8)) (h : q_H) (v0 : Nat) (v1 : Nat) (v2 : Int32) (v3 : Int32) (v4 : Int32) (v5 : Nat) (v6 : Nat) (v7 : Int32) (v8 : Int32) : q_J G l (RX2, cX2_search, 11, 4, 132, (some .int), "search", []) k0 z0 (q_Z G k0 z0 q_i) 40 [(0, .ref v0), (1, .ref v1), (2, .int v2), (3, .int v3), (4, .int v4), (5, .ref v5), (6, .ref v6), (7, .int v7), (8, .int v8)] [] h (b_X2_search_40 k27 k40 h v0 v1 v2 v3 v4 v5 v6 v7 v8) := by
  unfold b_X2_search_40
  refine j_iload (pc := 40) (p := 8) rfl dX2_search_40 ?_
  refine j_aload (pc := 42) (p := 6) rfl dX2_search_42 ?_
  refine j_getI (pc := 44) FI_X5 (k := 1) (by decide) fl_X2_37 dX2_search_44 (fun x12 _ => ?_)
  refine j_ic_gt (pc := 47) (tgt := 86) dX2_search_47 (by decide) (fun _ => ?_) (fun _ => ?_)
  · refine j_inc (pc := 86) (p := 7) (lv' := [(7, .int (v7 + 1)), (0, .ref v0), (1, .ref v1), (2, .int v2), (3, .int v3), (4, .int v4), (5, .ref v5), (6, .ref v6), (8, .int v8)]) rfl ki_1 (by decide) rfl dX2_search_86 ?_
    refine j_goto (pc := 89) (tgt := 27) dX2_search_89 (by decide) ?_
    refine j_sub [1, 2, 3, 4, 5, 6, 7, 0] (lv' := [(0, .ref v0), (1, .ref v1), (2, .int v2), (3, .int v3), (4, .int v4), (5, .ref v5), (6, .ref v6), (7, .int (v7 + 1))]) rfl ?_
    exact hk27 _ _ _ _ _ _ _ _ _
  refine j_aload_n (pc := 50) (p := 0) rfl rfl dX2_search_50 ?_
  refine j_aload_n (pc := 51) (p := 0) rfl rfl dX2_search_51 ?_
  refine j_getR (pc := 52) FI_X2 (k := 0) (by decide) fl_X2_11 dX2_search_52 (fun x13 _ => ?_)
  refine j_iload (pc := 55) (p := 7) rfl dX2_search_55 ?_
  refine j_iload (pc := 57) (p := 8) rfl dX2_search_57 ?_
  refine j_cSi (pc := 59) Y_X3_place ml_X2_41 sm_X3_place ⟨Nat.le_of_ble_eq_true rfl, Nat.le_of_ble_eq_true rfl⟩ dX2_search_59 (As := [.int v7, .int v8]) (rest := [.ref x13, .ref v0]) rfl rfl (Nat.le_of_ble_eq_true rfl) (fun x hq9 => c_X3_place _ _ _ _ hq9) (fun q14 _ => ?_)
  refine j_aald (pc := 62) (t := 6) rfl dX2_search_62 (fun x15 _ => ?_)
  refine j_aload_n (pc := 63) (p := 1) rfl rfl dX2_search_63 ?_
  refine j_getR (pc := 64) FI_X8 (k := 0) (by decide) fl_X2_47 dX2_search_64 (fun x16 _ => ?_)
  refine j_iload_n (pc := 67) (p := 3) rfl rfl dX2_search_67 ?_
  refine j_aald (pc := 68) (t := 4) rfl dX2_search_68 (fun x17 _ => ?_)
  refine j_aload (pc := 69) (p := 5) rfl dX2_search_69 ?_
  refine j_iload (pc := 71) (p := 7) rfl dX2_search_71 ?_
  refine j_aload (pc := 73) (p := 6) rfl dX2_search_73 ?_
  refine j_iload (pc := 75) (p := 8) rfl dX2_search_75 ?_
  refine j_cVu (pc := 77) Y_X2_grow (ci := 1) (b := v0) rfl rfl ml_X2_51 im_X2_grow se_X2_grow ⟨Nat.le_of_ble_eq_true rfl, Nat.le_of_ble_eq_true rfl⟩ dX2_search_77 (As := [.ref x15, .ref x17, .ref v5, .int v7, .ref v6, .int v8]) (rest := []) rfl rfl (Nat.le_of_ble_eq_true rfl) (fun x hq9 => c_X2_grow _ _ _ _ _ _ _ _ _ hq9) (fun q18 _ => ?_)
  refine j_inc (pc := 80) (p := 8) (lv' := [(8, .int (v8 + 1)), (0, .ref v0), (1, .ref v1), (2, .int v2), (3, .int v3), (4, .int v4), (5, .ref v5), (6, .ref v6), (7, .int v7)]) rfl ki_1 (by decide) rfl dX2_search_80 ?_
  refine j_goto (pc := 83) (tgt := 40) dX2_search_83 (by decide) ?_
  refine j_sub [1, 2, 3, 4, 5, 6, 7, 8, 0] (lv' := [(0, .ref v0), (1, .ref v1), (2, .int v2), (3, .int v3), (4, .int v4), (5, .ref v5), (6, .ref v6), (7, .int v7), (8, .int (v8 + 1))]) rfl ?_
  exact hk40 _ _ _ _ _ _ _ _ _ _
set_option maxRecDepth 20000 in
set_option maxHeartbeats 1000000 in
theorem jl_X2_search_40 {G : q_G} {l : Launch} {k0 z0 : Nat} (k27 : q_H → Nat → Nat → Int32 → Int32 → Int32 → Nat → Nat → Int32 → Option (q_H × Int32)) (hk27 : ∀ (h : q_H) (v0 : Nat) (v1 : Nat) (v2 : Int32) (v3 : Int32) (v4 : Int32) (v5 : Nat) (v6 : Nat) (v7 : Int32), q_J G l (RX2, cX2_search, 11, 4, 132, (some .int), "search", []) k0 z0 (q_Z G k0 z0 q_i) 27 [(0, .ref v0), (1, .ref v1), (2, .int v2), (3, .int v3), (4, .int v4), (5, .ref v5), (6, .ref v6), (7, .int v7)] [] h (k27 h v0 v1 v2 v3 v4 v5 v6 v7)) (n : Nat) : ∀ (h : q_H) (v0 : Nat) (v1 : Nat) (v2 : Int32) (v3 : Int32) (v4 : Int32) (v5 : Nat) (v6 : Nat) (v7 : Int32) (v8 : Int32), q_J G l (RX2, cX2_search, 11, 4, 132, (some .int), "search", []) k0 z0 (q_Z G k0 z0 q_i) 40 [(0, .ref v0), (1, .ref v1), (2, .int v2), (3, .int v3), (4, .int v4), (5, .ref v5), (6, .ref v6), (7, .int v7), (8, .int v8)] [] h (l_X2_search_40 k27 n h v0 v1 v2 v3 v4 v5 v6 v7 v8) := by
  induction n with
  | zero => intro h v0 v1 v2 v3 v4 v5 v6 v7 v8; exact j_none
  | succ n ih => intro h v0 v1 v2 v3 v4 v5 v6 v7 v8; exact jb_X2_search_40 k27 (l_X2_search_40 k27 n) hk27 ih h v0 v1 v2 v3 v4 v5 v6 v7 v8
set_option maxRecDepth 20000 in
set_option maxHeartbeats 1000000 in
theorem jb_X2_search_27 {G : q_G} {l : Launch} {k0 z0 : Nat} (k27 : q_H → Nat → Nat → Int32 → Int32 → Int32 → Nat → Nat → Int32 → Option (q_H × Int32)) (hk27 : ∀ (h : q_H) (v0 : Nat) (v1 : Nat) (v2 : Int32) (v3 : Int32) (v4 : Int32) (v5 : Nat) (v6 : Nat) (v7 : Int32), q_J G l (RX2, cX2_search, 11, 4, 132, (some .int), "search", []) k0 z0 (q_Z G k0 z0 q_i) 27 [(0, .ref v0), (1, .ref v1), (2, .int v2), (3, .int v3), (4, .int v4), (5, .ref v5), (6, .ref v6), (7, .int v7)] [] h (k27 h v0 v1 v2 v3 v4 v5 v6 v7)) (h : q_H) (v0 : Nat) (v1 : Nat) (v2 : Int32) (v3 : Int32) (v4 : Int32) (v5 : Nat) (v6 : Nat) (v7 : Int32) : q_J G l (RX2, cX2_search, 11, 4, 132, (some .int), "search", []) k0 z0 (q_Z G k0 z0 q_i) 27 [(0, .ref v0), (1, .ref v1), (2, .int v2), (3, .int v3), (4, .int v4), (5, .ref v5), (6, .ref v6), (7, .int v7)] [] h (b_X2_search_27 k27 h v0 v1 v2 v3 v4 v5 v6 v7) := by
  unfold b_X2_search_27
  refine j_iload (pc := 27) (p := 7) rfl dX2_search_27 ?_
  refine j_aload (pc := 29) (p := 5) rfl dX2_search_29 ?_
  refine j_getI (pc := 31) FI_X5 (k := 1) (by decide) fl_X2_37 dX2_search_31 (fun x19 _ => ?_)
  refine j_ic_gt (pc := 34) (tgt := 92) dX2_search_34 (by decide) (fun _ => ?_) (fun _ => ?_)
  · refine j_aload_n (pc := 92) (p := 0) rfl rfl dX2_search_92 ?_
    refine j_ldc (pc := 93) ct_X2_55 dX2_search_93 ?_
    refine j_put (pc := 95) FI_X2 (k := 3) (by decide) fl_X2_56 rfl rfl rfl dX2_search_95 (fun h20 _ => ?_)
    refine j_aload_n (pc := 98) (p := 1) rfl rfl dX2_search_98 ?_
    refine j_iload_n (pc := 99) (p := 3) rfl rfl dX2_search_99 ?_
    refine j_iload_n (pc := 100) (p := 2) rfl rfl dX2_search_100 ?_
    refine j_cVr (pc := 101) Y_X8_way (ci := 7) (b := v1) rfl rfl ml_X2_31 im_X8_way se_X8_way ⟨Nat.le_of_ble_eq_true rfl, Nat.le_of_ble_eq_true rfl⟩ dX2_search_101 (As := [.int v3, .int v2]) (rest := []) rfl rfl (Nat.le_of_ble_eq_true rfl) (fun x hq9 => c_X8_way _ _ _ _ _ hq9) (fun q21 _ => ?_)
    refine j_astore (pc := 104) (lv' := [(7, .ref q21.2), (0, .ref v0), (1, .ref v1), (2, .int v2), (3, .int v3), (4, .int v4), (5, .ref v5), (6, .ref v6)]) (by decide) rfl dX2_search_104 ?_
    refine j_aload_n (pc := 106) (p := 2) rfl rfl dX2_search_106 ?_
    refine j_iload (pc := 107) (p := 5) rfl dX2_search_107 ?_
    refine j_iload_n (pc := 109) (p := 3) rfl rfl dX2_search_109 ?_
    refine j_cVr (pc := 110) Y_X8_way (ci := 7) (b := v1) rfl rfl ml_X2_31 im_X8_way se_X8_way ⟨Nat.le_of_ble_eq_true rfl, Nat.le_of_ble_eq_true rfl⟩ dX2_search_110 (As := [.int v4, .int v2]) (rest := []) rfl rfl (Nat.le_of_ble_eq_true rfl) (fun x hq9 => c_X8_way _ _ _ _ _ hq9) (fun q22 _ => ?_)
    refine j_astore (pc := 113) (lv' := [(8, .ref q22.2), (7, .ref q21.2), (0, .ref v0), (1, .ref v1), (2, .int v2), (3, .int v3), (4, .int v4), (5, .ref v5), (6, .ref v6)]) (by decide) rfl dX2_search_113 ?_
    refine j_iconst (pc := 115) ki_0 dX2_search_115 ?_
    refine j_istore (pc := 116) (lv' := [(9, .int (0)), (8, .ref q22.2), (7, .ref q21.2), (0, .ref v0), (1, .ref v1), (2, .int v2), (3, .int v3), (4, .int v4), (5, .ref v5), (6, .ref v6)]) (by decide) rfl dX2_search_116 ?_
    refine j_sub [3, 4, 5, 8, 9, 2, 1, 0] (lv' := [(0, .ref v0), (1, .ref v1), (2, .int v2), (5, .ref v5), (6, .ref v6), (7, .ref q21.2), (8, .ref q22.2), (9, .int (0))]) rfl ?_
    exact jl_X2_search_118 q_FU _ _ _ _ _ _ _ _ _
  refine j_iconst (pc := 37) ki_0 dX2_search_37 ?_
  refine j_istore (pc := 38) (lv' := [(8, .int (0)), (0, .ref v0), (1, .ref v1), (2, .int v2), (3, .int v3), (4, .int v4), (5, .ref v5), (6, .ref v6), (7, .int v7)]) (by decide) rfl dX2_search_38 ?_
  refine j_sub [1, 2, 3, 4, 5, 6, 7, 8, 0] (lv' := [(0, .ref v0), (1, .ref v1), (2, .int v2), (3, .int v3), (4, .int v4), (5, .ref v5), (6, .ref v6), (7, .int v7), (8, .int (0))]) rfl ?_
  exact jl_X2_search_40 k27 hk27 q_FU _ _ _ _ _ _ _ _ _ _
set_option maxRecDepth 20000 in
set_option maxHeartbeats 1000000 in
theorem jl_X2_search_27 {G : q_G} {l : Launch} {k0 z0 : Nat} (n : Nat) : ∀ (h : q_H) (v0 : Nat) (v1 : Nat) (v2 : Int32) (v3 : Int32) (v4 : Int32) (v5 : Nat) (v6 : Nat) (v7 : Int32), q_J G l (RX2, cX2_search, 11, 4, 132, (some .int), "search", []) k0 z0 (q_Z G k0 z0 q_i) 27 [(0, .ref v0), (1, .ref v1), (2, .int v2), (3, .int v3), (4, .int v4), (5, .ref v5), (6, .ref v6), (7, .int v7)] [] h (l_X2_search_27 n h v0 v1 v2 v3 v4 v5 v6 v7) := by
  induction n with
  | zero => intro h v0 v1 v2 v3 v4 v5 v6 v7; exact j_none
  | succ n ih => intro h v0 v1 v2 v3 v4 v5 v6 v7; exact jb_X2_search_27 (l_X2_search_27 n) ih h v0 v1 v2 v3 v4 v5 v6 v7
set_option maxRecDepth 20000 in
set_option maxHeartbeats 1000000 in
theorem jb_X2_search_0 {G : q_G} {l : Launch} {k0 z0 : Nat} (h : q_H) (v0 : Nat) (v1 : Nat) (v2 : Int32) (v3 : Int32) : q_J G l (RX2, cX2_search, 11, 4, 132, (some .int), "search", []) k0 z0 (q_Z G k0 z0 q_i) 0 [(0, .ref v0), (1, .ref v1), (2, .int v2), (3, .int v3)] [] h (b_X2_search_0 h v0 v1 v2 v3) := by
  unfold b_X2_search_0
  refine j_iconst (pc := 0) ki_3 dX2_search_0 ?_
  refine j_iload_n (pc := 1) (p := 2) rfl rfl dX2_search_1 ?_
  refine j_isub (pc := 2) dX2_search_2 ?_
  refine j_iload_n (pc := 3) (p := 3) rfl rfl dX2_search_3 ?_
  refine j_isub (pc := 4) dX2_search_4 ?_
  refine j_istore (pc := 5) (lv' := [(4, .int (((3) - v2) - v3)), (0, .ref v0), (1, .ref v1), (2, .int v2), (3, .int v3)]) (by decide) rfl dX2_search_5 ?_
  refine j_aload_n (pc := 7) (p := 2) rfl rfl dX2_search_7 ?_
  refine j_iload_n (pc := 8) (p := 3) rfl rfl dX2_search_8 ?_
  refine j_iload_n (pc := 9) (p := 4) rfl rfl dX2_search_9 ?_
  refine j_cVr (pc := 10) Y_X8_way (ci := 7) (b := v1) rfl rfl ml_X2_31 im_X8_way se_X8_way ⟨Nat.le_of_ble_eq_true rfl, Nat.le_of_ble_eq_true rfl⟩ dX2_search_10 (As := [.int v2, .int v3]) (rest := []) rfl rfl (Nat.le_of_ble_eq_true rfl) (fun x hq9 => c_X8_way _ _ _ _ _ hq9) (fun q23 _ => ?_)
  refine j_astore (pc := 13) (lv' := [(5, .ref q23.2), (4, .int (((3) - v2) - v3)), (0, .ref v0), (1, .ref v1), (2, .int v2), (3, .int v3)]) (by decide) rfl dX2_search_13 ?_
  refine j_aload_n (pc := 15) (p := 3) rfl rfl dX2_search_15 ?_
  refine j_iload (pc := 16) (p := 1) rfl dX2_search_16 ?_
  refine j_iload_n (pc := 18) (p := 5) rfl rfl dX2_search_18 ?_
  refine j_cVr (pc := 19) Y_X8_way (ci := 7) (b := v1) rfl rfl ml_X2_31 im_X8_way se_X8_way ⟨Nat.le_of_ble_eq_true rfl, Nat.le_of_ble_eq_true rfl⟩ dX2_search_19 (As := [.int (((3) - v2) - v3), .int v3]) (rest := []) rfl rfl (Nat.le_of_ble_eq_true rfl) (fun x hq9 => c_X8_way _ _ _ _ _ hq9) (fun q24 _ => ?_)
  refine j_astore (pc := 22) (lv' := [(6, .ref q24.2), (5, .ref q23.2), (4, .int (((3) - v2) - v3)), (0, .ref v0), (1, .ref v1), (2, .int v2), (3, .int v3)]) (by decide) rfl dX2_search_22 ?_
  refine j_iconst (pc := 24) ki_0 dX2_search_24 ?_
  refine j_istore (pc := 25) (lv' := [(7, .int (0)), (6, .ref q24.2), (5, .ref q23.2), (4, .int (((3) - v2) - v3)), (0, .ref v0), (1, .ref v1), (2, .int v2), (3, .int v3)]) (by decide) rfl dX2_search_25 ?_
  refine j_sub [4, 5, 6, 7, 3, 2, 1, 0] (lv' := [(0, .ref v0), (1, .ref v1), (2, .int v2), (3, .int v3), (4, .int (((3) - v2) - v3)), (5, .ref q23.2), (6, .ref q24.2), (7, .int (0))]) rfl ?_
  exact jl_X2_search_27 q_FU _ _ _ _ _ _ _ _ _
set_option maxRecDepth 20000 in
set_option maxHeartbeats 1000000 in
theorem c_X2_search {G : q_G} {l : Launch} : ∀ (h : q_H) (a0 : Nat) (a1 : Nat) (a2 : Int32) (a3 : Int32) (q : q_H × Int32), f_X2_search h a0 a1 a2 a3 = some q → (∃ fs, h.1 a0 = .inr (1, fs)) ∧ q_CT G l yX2_search cX2_search 11 (some .int) 4 132 [.ref a0, .ref a1, .int a2, .int a3] h q.1 (q_i q.2) := by
  intro h a0 a1 a2 a3 q e
  obtain ⟨e1, e2⟩ := q_chk_ok e
  exact ⟨e1, q_ofJ Y_X2_search (Nat.le_of_ble_eq_true rfl) (jb_X2_search_0 h a0 a1 a2 a3) q e2⟩
/-! FarFolders$Orders.<init>()V -/
theorem dX3_init_0 : decode cX3_init 0 = .ok (.aload_n 0, 1) := by decide +kernel
theorem dX3_init_1 : decode cX3_init 1 = .ok (.invokespecial 3, 3) := by decide +kernel
theorem dX3_init_4 : decode cX3_init 4 = .ok (.aload_n 0, 1) := by decide +kernel
theorem dX3_init_5 : decode cX3_init 5 = .ok (.bipush 49, 2) := by decide +kernel
theorem dX3_init_7 : decode cX3_init 7 = .ok (.newarray .int, 2) := by decide +kernel
theorem dX3_init_9 : decode cX3_init 9 = .ok (.putfield 9, 3) := by decide +kernel
theorem dX3_init_12 : decode cX3_init 12 = .ok (.aload_n 0, 1) := by decide +kernel
theorem dX3_init_13 : decode cX3_init 13 = .ok (.bipush 49, 2) := by decide +kernel
theorem dX3_init_15 : decode cX3_init 15 = .ok (.newarray .int, 2) := by decide +kernel
theorem dX3_init_17 : decode cX3_init 17 = .ok (.putfield 15, 3) := by decide +kernel
theorem dX3_init_20 : decode cX3_init 20 = .ok (.return_, 1) := by decide +kernel
def b_X3_init_0 (h : q_H) (v0 : Nat) : Option (q_H × Unit) :=
  Option.bind (q_nI 0 h (49)) (fun q1 => Option.bind (q_p 2 0 q1.1 v0 (.ref q1.2)) (fun h2 => Option.bind (q_nI 0 h2 (49)) (fun q3 => Option.bind (q_p 2 1 q3.1 v0 (.ref q3.2)) (fun h4 => some (h4, ())))))
def f_X3_init (h : q_H) (a0 : Nat) : Option (q_H × Unit) := b_X3_init_0 h a0
set_option maxRecDepth 20000 in
set_option maxHeartbeats 1000000 in
theorem jb_X3_init_0 {G : q_G} {l : Launch} {k0 z0 : Nat} (hx : G.2.2.2.2.2.2.2 = true) (h : q_H) (v0 : Nat) : q_J G l (RX3, cX3_init, 1, 1, 60, none, "<init>", []) k0 z0 (q_Z G k0 z0 q_u) 0 [(0, .ref v0)] [] h (b_X3_init_0 h v0) := by
  unfold b_X3_init_0
  refine j_aload_n (pc := 0) (p := 0) rfl rfl dX3_init_0 ?_
  refine j_oinit (pc := 1) ml_X3_3 im_Oinit co_Oinit ⟨Nat.le_of_ble_eq_true rfl, Nat.le_of_ble_eq_true rfl⟩ dX3_init_1 ?_
  refine j_aload_n (pc := 4) (p := 0) rfl rfl dX3_init_4 ?_
  refine j_bipush (pc := 5) kb_49 dX3_init_5 ?_
  refine j_newi (pc := 7) hx ac_int dX3_init_7 (fun q1 _ => ?_)
  refine j_putF (pc := 9) FI_X3 (k := 0) (by decide) fl_X3_9 rfl rfl rfl rfl rfl dX3_init_9 (fun h2 _ => ?_)
  refine j_aload_n (pc := 12) (p := 0) rfl rfl dX3_init_12 ?_
  refine j_bipush (pc := 13) kb_49 dX3_init_13 ?_
  refine j_newi (pc := 15) hx ac_int dX3_init_15 (fun q3 _ => ?_)
  refine j_putF (pc := 17) FI_X3 (k := 1) (by decide) fl_X3_15 rfl rfl rfl rfl rfl dX3_init_17 (fun h4 _ => ?_)
  exact j_vret (pc := 20) rfl dX3_init_20
set_option maxRecDepth 20000 in
set_option maxHeartbeats 1000000 in
theorem c_X3_init {G : q_G} {l : Launch} (hx : G.2.2.2.2.2.2.2 = true) : ∀ (h : q_H) (a0 : Nat) (q : q_H × Unit), f_X3_init h a0 = some q → q_CT G l yX3_init cX3_init 1 none 1 60 [.ref a0] h q.1 (q_u q.2) := by
  intro h a0 q e
  exact q_ofJ Y_X3_init (Nat.le_of_ble_eq_true rfl) (jb_X3_init_0 hx h a0) q e
/-! FarFolders$Orders.step(III)V -/
theorem dX3_step_0 : decode cX3_step 0 = .ok (.aload_n 0, 1) := by decide +kernel
theorem dX3_step_1 : decode cX3_step 1 = .ok (.getfield 9, 3) := by decide +kernel
theorem dX3_step_4 : decode cX3_step 4 = .ok (.iload_n 2, 1) := by decide +kernel
theorem dX3_step_5 : decode cX3_step 5 = .ok (.aload_n 0, 1) := by decide +kernel
theorem dX3_step_6 : decode cX3_step 6 = .ok (.getfield 9, 3) := by decide +kernel
theorem dX3_step_9 : decode cX3_step 9 = .ok (.iload_n 2, 1) := by decide +kernel
theorem dX3_step_10 : decode cX3_step 10 = .ok (.iaload, 1) := by decide +kernel
theorem dX3_step_11 : decode cX3_step 11 = .ok (.aload_n 0, 1) := by decide +kernel
theorem dX3_step_12 : decode cX3_step 12 = .ok (.getfield 9, 3) := by decide +kernel
theorem dX3_step_15 : decode cX3_step 15 = .ok (.iload_n 1, 1) := by decide +kernel
theorem dX3_step_16 : decode cX3_step 16 = .ok (.iaload, 1) := by decide +kernel
theorem dX3_step_17 : decode cX3_step 17 = .ok (.iload_n 3, 1) := by decide +kernel
theorem dX3_step_18 : decode cX3_step 18 = .ok (.iadd, 1) := by decide +kernel
theorem dX3_step_19 : decode cX3_step 19 = .ok (.invokestatic 18, 3) := by decide +kernel
theorem dX3_step_22 : decode cX3_step 22 = .ok (.iastore, 1) := by decide +kernel
theorem dX3_step_23 : decode cX3_step 23 = .ok (.aload_n 0, 1) := by decide +kernel
theorem dX3_step_24 : decode cX3_step 24 = .ok (.getfield 15, 3) := by decide +kernel
theorem dX3_step_27 : decode cX3_step 27 = .ok (.iload_n 2, 1) := by decide +kernel
theorem dX3_step_28 : decode cX3_step 28 = .ok (.aload_n 0, 1) := by decide +kernel
theorem dX3_step_29 : decode cX3_step 29 = .ok (.getfield 15, 3) := by decide +kernel
theorem dX3_step_32 : decode cX3_step 32 = .ok (.iload_n 2, 1) := by decide +kernel
theorem dX3_step_33 : decode cX3_step 33 = .ok (.iaload, 1) := by decide +kernel
theorem dX3_step_34 : decode cX3_step 34 = .ok (.aload_n 0, 1) := by decide +kernel
theorem dX3_step_35 : decode cX3_step 35 = .ok (.getfield 15, 3) := by decide +kernel
theorem dX3_step_38 : decode cX3_step 38 = .ok (.iload_n 1, 1) := by decide +kernel
theorem dX3_step_39 : decode cX3_step 39 = .ok (.iaload, 1) := by decide +kernel
theorem dX3_step_40 : decode cX3_step 40 = .ok (.iload_n 3, 1) := by decide +kernel
theorem dX3_step_41 : decode cX3_step 41 = .ok (.iadd, 1) := by decide +kernel
theorem dX3_step_42 : decode cX3_step 42 = .ok (.invokestatic 46, 3) := by decide +kernel
theorem dX3_step_45 : decode cX3_step 45 = .ok (.iastore, 1) := by decide +kernel
theorem dX3_step_46 : decode cX3_step 46 = .ok (.return_, 1) := by decide +kernel
def b_X3_step_0 (h : q_H) (v0 : Nat) (v1 : Int32) (v2 : Int32) (v3 : Int32) : Option (q_H × Unit) :=
  Option.bind (q_gR 2 0 h v0) (fun x1 => Option.bind (q_gR 2 0 h v0) (fun x2 => Option.bind (q_lI 0 h x2 v2) (fun x3 => Option.bind (q_gR 2 0 h v0) (fun x4 => Option.bind (q_lI 0 h x4 v1) (fun x5 => Option.bind (q_sI 0 id h x1 v2 (q_min x3 (x5 + v3))) (fun h6 => Option.bind (q_gR 2 1 h6 v0) (fun x7 => Option.bind (q_gR 2 1 h6 v0) (fun x8 => Option.bind (q_lI 0 h6 x8 v2) (fun x9 => Option.bind (q_gR 2 1 h6 v0) (fun x10 => Option.bind (q_lI 0 h6 x10 v1) (fun x11 => Option.bind (q_sI 0 id h6 x7 v2 (q_max x9 (x11 + v3))) (fun h12 => some (h12, ())))))))))))))
def f_X3_step (h : q_H) (a0 : Nat) (a1 : Int32) (a2 : Int32) (a3 : Int32) : Option (q_H × Unit) := q_chk 2 h a0 (b_X3_step_0 h a0 a1 a2 a3)
set_option maxRecDepth 20000 in
set_option maxHeartbeats 1000000 in
theorem jb_X3_step_0 {G : q_G} {l : Launch} {k0 z0 : Nat} (h : q_H) (v0 : Nat) (v1 : Int32) (v2 : Int32) (v3 : Int32) : q_J G l (RX3, cX3_step, 4, 1, 60, none, "step", []) k0 z0 (q_Z G k0 z0 q_u) 0 [(0, .ref v0), (1, .int v1), (2, .int v2), (3, .int v3)] [] h (b_X3_step_0 h v0 v1 v2 v3) := by
  unfold b_X3_step_0
  refine j_aload_n (pc := 0) (p := 0) rfl rfl dX3_step_0 ?_
  refine j_getR (pc := 1) FI_X3 (k := 0) (by decide) fl_X3_9 dX3_step_1 (fun x1 _ => ?_)
  refine j_iload_n (pc := 4) (p := 2) rfl rfl dX3_step_4 ?_
  refine j_aload_n (pc := 5) (p := 0) rfl rfl dX3_step_5 ?_
  refine j_getR (pc := 6) FI_X3 (k := 0) (by decide) fl_X3_9 dX3_step_6 (fun x2 _ => ?_)
  refine j_iload_n (pc := 9) (p := 2) rfl rfl dX3_step_9 ?_
  refine j_iald (pc := 10) dX3_step_10 (fun x3 _ => ?_)
  refine j_aload_n (pc := 11) (p := 0) rfl rfl dX3_step_11 ?_
  refine j_getR (pc := 12) FI_X3 (k := 0) (by decide) fl_X3_9 dX3_step_12 (fun x4 _ => ?_)
  refine j_iload_n (pc := 15) (p := 1) rfl rfl dX3_step_15 ?_
  refine j_iald (pc := 16) dX3_step_16 (fun x5 _ => ?_)
  refine j_iload_n (pc := 17) (p := 3) rfl rfl dX3_step_17 ?_
  refine j_iadd (pc := 18) dX3_step_18 ?_
  refine j_min (pc := 19) ml_X3_18 sm_min ini_Math co_min ⟨Nat.le_of_ble_eq_true rfl, Nat.le_of_ble_eq_true rfl⟩ dX3_step_19 ?_
  refine j_iast (pc := 22) dX3_step_22 (fun h6 _ => ?_)
  refine j_aload_n (pc := 23) (p := 0) rfl rfl dX3_step_23 ?_
  refine j_getR (pc := 24) FI_X3 (k := 1) (by decide) fl_X3_15 dX3_step_24 (fun x7 _ => ?_)
  refine j_iload_n (pc := 27) (p := 2) rfl rfl dX3_step_27 ?_
  refine j_aload_n (pc := 28) (p := 0) rfl rfl dX3_step_28 ?_
  refine j_getR (pc := 29) FI_X3 (k := 1) (by decide) fl_X3_15 dX3_step_29 (fun x8 _ => ?_)
  refine j_iload_n (pc := 32) (p := 2) rfl rfl dX3_step_32 ?_
  refine j_iald (pc := 33) dX3_step_33 (fun x9 _ => ?_)
  refine j_aload_n (pc := 34) (p := 0) rfl rfl dX3_step_34 ?_
  refine j_getR (pc := 35) FI_X3 (k := 1) (by decide) fl_X3_15 dX3_step_35 (fun x10 _ => ?_)
  refine j_iload_n (pc := 38) (p := 1) rfl rfl dX3_step_38 ?_
  refine j_iald (pc := 39) dX3_step_39 (fun x11 _ => ?_)
  refine j_iload_n (pc := 40) (p := 3) rfl rfl dX3_step_40 ?_
  refine j_iadd (pc := 41) dX3_step_41 ?_
  refine j_max (pc := 42) ml_X3_46 sm_max ini_Math co_max ⟨Nat.le_of_ble_eq_true rfl, Nat.le_of_ble_eq_true rfl⟩ dX3_step_42 ?_
  refine j_iast (pc := 45) dX3_step_45 (fun h12 _ => ?_)
  exact j_vret (pc := 46) rfl dX3_step_46
set_option maxRecDepth 20000 in
set_option maxHeartbeats 1000000 in
theorem c_X3_step {G : q_G} {l : Launch} : ∀ (h : q_H) (a0 : Nat) (a1 : Int32) (a2 : Int32) (a3 : Int32) (q : q_H × Unit), f_X3_step h a0 a1 a2 a3 = some q → (∃ fs, h.1 a0 = .inr (2, fs)) ∧ q_CT G l yX3_step cX3_step 4 none 1 60 [.ref a0, .int a1, .int a2, .int a3] h q.1 (q_u q.2) := by
  intro h a0 a1 a2 a3 q e
  obtain ⟨e1, e2⟩ := q_chk_ok e
  exact ⟨e1, q_ofJ Y_X3_step (Nat.le_of_ble_eq_true rfl) (jb_X3_step_0 h a0 a1 a2 a3) q e2⟩
/-! FarFolders$Series.countLater(JI)I -/
theorem dX5_countLater_0 : decode cX5_countLater 0 = .ok (.iconst 0, 1) := by decide +kernel
theorem dX5_countLater_1 : decode cX5_countLater 1 = .ok (.istore 4, 2) := by decide +kernel
theorem dX5_countLater_3 : decode cX5_countLater 3 = .ok (.iconst 0, 1) := by decide +kernel
theorem dX5_countLater_4 : decode cX5_countLater 4 = .ok (.istore 5, 2) := by decide +kernel
theorem dX5_countLater_6 : decode cX5_countLater 6 = .ok (.iload 5, 2) := by decide +kernel
theorem dX5_countLater_8 : decode cX5_countLater 8 = .ok (.iload_n 3, 1) := by decide +kernel
theorem dX5_countLater_9 : decode cX5_countLater 9 = .ok (.if_icmp .ge 44, 3) := by decide +kernel
theorem dX5_countLater_12 : decode cX5_countLater 12 = .ok (.iload 5, 2) := by decide +kernel
theorem dX5_countLater_14 : decode cX5_countLater 14 = .ok (.aload_n 0, 1) := by decide +kernel
theorem dX5_countLater_15 : decode cX5_countLater 15 = .ok (.getfield 21, 3) := by decide +kernel
theorem dX5_countLater_18 : decode cX5_countLater 18 = .ok (.if_icmp .ge 35, 3) := by decide +kernel
theorem dX5_countLater_21 : decode cX5_countLater 21 = .ok (.aload_n 0, 1) := by decide +kernel
theorem dX5_countLater_22 : decode cX5_countLater 22 = .ok (.iload 5, 2) := by decide +kernel
theorem dX5_countLater_24 : decode cX5_countLater 24 = .ok (.invokevirtual 34, 3) := by decide +kernel
theorem dX5_countLater_27 : decode cX5_countLater 27 = .ok (.lload_n 1, 1) := by decide +kernel
theorem dX5_countLater_28 : decode cX5_countLater 28 = .ok (.lcmp, 1) := by decide +kernel
theorem dX5_countLater_29 : decode cX5_countLater 29 = .ok (.ifCond .le 18, 3) := by decide +kernel
theorem dX5_countLater_32 : decode cX5_countLater 32 = .ok (.aload_n 0, 1) := by decide +kernel
theorem dX5_countLater_33 : decode cX5_countLater 33 = .ok (.iload 5, 2) := by decide +kernel
theorem dX5_countLater_35 : decode cX5_countLater 35 = .ok (.invokevirtual 34, 3) := by decide +kernel
theorem dX5_countLater_38 : decode cX5_countLater 38 = .ok (.invokestatic 38, 3) := by decide +kernel
theorem dX5_countLater_41 : decode cX5_countLater 41 = .ok (.ifCond .eq 6, 3) := by decide +kernel
theorem dX5_countLater_44 : decode cX5_countLater 44 = .ok (.iinc 4 1, 3) := by decide +kernel
theorem dX5_countLater_47 : decode cX5_countLater 47 = .ok (.iinc 5 1, 3) := by decide +kernel
theorem dX5_countLater_50 : decode cX5_countLater 50 = .ok (.goto (-44), 3) := by decide +kernel
theorem dX5_countLater_53 : decode cX5_countLater 53 = .ok (.iload 4, 2) := by decide +kernel
theorem dX5_countLater_55 : decode cX5_countLater 55 = .ok (.ireturn, 1) := by decide +kernel
def b_X5_countLater_47 (k6 : q_H → Nat → Int64 → Int32 → Int32 → Int32 → Option (q_H × Int32)) (h : q_H) (v0 : Nat) (v1 : Int64) (v3 : Int32) (v4 : Int32) (v5 : Int32) : Option (q_H × Int32) :=
  k6 h v0 v1 v3 v4 (v5 + 1)
def b_X5_countLater_6 (k6 : q_H → Nat → Int64 → Int32 → Int32 → Int32 → Option (q_H × Int32)) (h : q_H) (v0 : Nat) (v1 : Int64) (v3 : Int32) (v4 : Int32) (v5 : Int32) : Option (q_H × Int32) :=
  if v3 ≤ v5 then some (h, v4) else Option.bind (q_gI 4 1 h v0) (fun x1 => if x1 ≤ v5 then some (h, v4) else Option.bind (f_X5_at h v0 v5) (fun q2 => if (lg_cmp q2.2 v1) ≤ 0 then b_X5_countLater_47 k6 q2.1 v0 v1 v3 v4 v5 else Option.bind (f_X5_at q2.1 v0 v5) (fun q3 => Option.bind (f_X1_hasMove q3.1 q3.2) (fun q4 => if q4.2 = 0 then b_X5_countLater_47 k6 q4.1 v0 v1 v3 v4 v5 else b_X5_countLater_47 k6 q4.1 v0 v1 v3 (v4 + 1) v5))))
def l_X5_countLater_6 : Nat → q_H → Nat → Int64 → Int32 → Int32 → Int32 → Option (q_H × Int32)
  | 0, _, _, _, _, _, _ => none
  | n + 1, h, v0, v1, v3, v4, v5 => b_X5_countLater_6 (l_X5_countLater_6 n) h v0 v1 v3 v4 v5
def b_X5_countLater_0 (h : q_H) (v0 : Nat) (v1 : Int64) (v3 : Int32) : Option (q_H × Int32) :=
  l_X5_countLater_6 q_FU h v0 v1 v3 (0) (0)
def f_X5_countLater (h : q_H) (a0 : Nat) (a1 : Int64) (a2 : Int32) : Option (q_H × Int32) := q_chk 4 h a0 (b_X5_countLater_0 h a0 a1 a2)
set_option maxRecDepth 20000 in
set_option maxHeartbeats 1000000 in
theorem jb_X5_countLater_47 {G : q_G} {l : Launch} {k0 z0 : Nat} (k6 : q_H → Nat → Int64 → Int32 → Int32 → Int32 → Option (q_H × Int32)) (hk6 : ∀ (h : q_H) (v0 : Nat) (v1 : Int64) (v3 : Int32) (v4 : Int32) (v5 : Int32), q_J G l (RX5, cX5_countLater, 6, 2, 42, (some .int), "countLater", []) k0 z0 (q_Z G k0 z0 q_i) 6 [(0, .ref v0), (1, .long v1), (3, .int v3), (4, .int v4), (5, .int v5)] [] h (k6 h v0 v1 v3 v4 v5)) (h : q_H) (v0 : Nat) (v1 : Int64) (v3 : Int32) (v4 : Int32) (v5 : Int32) : q_J G l (RX5, cX5_countLater, 6, 2, 42, (some .int), "countLater", []) k0 z0 (q_Z G k0 z0 q_i) 47 [(0, .ref v0), (1, .long v1), (3, .int v3), (4, .int v4), (5, .int v5)] [] h (b_X5_countLater_47 k6 h v0 v1 v3 v4 v5) := by
  unfold b_X5_countLater_47
  refine j_inc (pc := 47) (p := 4) (lv' := [(5, .int (v5 + 1)), (0, .ref v0), (1, .long v1), (3, .int v3), (4, .int v4)]) rfl ki_1 (by decide) rfl dX5_countLater_47 ?_
  refine j_goto (pc := 50) (tgt := 6) dX5_countLater_50 (by decide) ?_
  refine j_sub [1, 2, 3, 4, 0] (lv' := [(0, .ref v0), (1, .long v1), (3, .int v3), (4, .int v4), (5, .int (v5 + 1))]) rfl ?_
  exact hk6 _ _ _ _ _ _
set_option maxRecDepth 20000 in
set_option maxHeartbeats 1000000 in
theorem jb_X5_countLater_6 {G : q_G} {l : Launch} {k0 z0 : Nat} (k6 : q_H → Nat → Int64 → Int32 → Int32 → Int32 → Option (q_H × Int32)) (hk6 : ∀ (h : q_H) (v0 : Nat) (v1 : Int64) (v3 : Int32) (v4 : Int32) (v5 : Int32), q_J G l (RX5, cX5_countLater, 6, 2, 42, (some .int), "countLater", []) k0 z0 (q_Z G k0 z0 q_i) 6 [(0, .ref v0), (1, .long v1), (3, .int v3), (4, .int v4), (5, .int v5)] [] h (k6 h v0 v1 v3 v4 v5)) (h : q_H) (v0 : Nat) (v1 : Int64) (v3 : Int32) (v4 : Int32) (v5 : Int32) : q_J G l (RX5, cX5_countLater, 6, 2, 42, (some .int), "countLater", []) k0 z0 (q_Z G k0 z0 q_i) 6 [(0, .ref v0), (1, .long v1), (3, .int v3), (4, .int v4), (5, .int v5)] [] h (b_X5_countLater_6 k6 h v0 v1 v3 v4 v5) := by
  unfold b_X5_countLater_6
  refine j_iload (pc := 6) (p := 4) rfl dX5_countLater_6 ?_
  refine j_iload_n (pc := 8) (p := 2) rfl rfl dX5_countLater_8 ?_
  refine j_ic_ge (pc := 9) (tgt := 53) dX5_countLater_9 (by decide) (fun _ => ?_) (fun _ => ?_)
  · refine j_iload (pc := 53) (p := 3) rfl dX5_countLater_53 ?_
    exact j_iret (pc := 55) rfl dX5_countLater_55
  refine j_iload (pc := 12) (p := 4) rfl dX5_countLater_12 ?_
  refine j_aload_n (pc := 14) (p := 0) rfl rfl dX5_countLater_14 ?_
  refine j_getI (pc := 15) FI_X5 (k := 1) (by decide) fl_X5_21 dX5_countLater_15 (fun x1 _ => ?_)
  refine j_ic_ge (pc := 18) (tgt := 53) dX5_countLater_18 (by decide) (fun _ => ?_) (fun _ => ?_)
  · refine j_iload (pc := 53) (p := 3) rfl dX5_countLater_53 ?_
    exact j_iret (pc := 55) rfl dX5_countLater_55
  refine j_aload_n (pc := 21) (p := 0) rfl rfl dX5_countLater_21 ?_
  refine j_iload (pc := 22) (p := 4) rfl dX5_countLater_22 ?_
  refine j_cVl (pc := 24) Y_X5_at (ci := 4) (b := v0) rfl rfl ml_X5_34 im_X5_at se_X5_at ⟨Nat.le_of_ble_eq_true rfl, Nat.le_of_ble_eq_true rfl⟩ dX5_countLater_24 (As := [.int v5]) (rest := []) rfl rfl (Nat.le_of_ble_eq_true rfl) (fun x hq9 => c_X5_at _ _ _ _ hq9) (fun q2 _ => ?_)
  refine j_lload_n (pc := 27) (p := 1) rfl rfl dX5_countLater_27 ?_
  refine j_lcmp (pc := 28) dX5_countLater_28 ?_
  refine j_if_le (pc := 29) (tgt := 47) dX5_countLater_29 (by decide) (fun _ => ?_) (fun _ => ?_)
  · exact jb_X5_countLater_47 k6 hk6 _ _ _ _ _ _
  refine j_aload_n (pc := 32) (p := 0) rfl rfl dX5_countLater_32 ?_
  refine j_iload (pc := 33) (p := 4) rfl dX5_countLater_33 ?_
  refine j_cVl (pc := 35) Y_X5_at (ci := 4) (b := v0) rfl rfl ml_X5_34 im_X5_at se_X5_at ⟨Nat.le_of_ble_eq_true rfl, Nat.le_of_ble_eq_true rfl⟩ dX5_countLater_35 (As := [.int v5]) (rest := []) rfl rfl (Nat.le_of_ble_eq_true rfl) (fun x hq9 => c_X5_at _ _ _ _ hq9) (fun q3 _ => ?_)
  refine j_cSi (pc := 38) Y_X1_hasMove ml_X5_38 sm_X1_hasMove ⟨Nat.le_of_ble_eq_true rfl, Nat.le_of_ble_eq_true rfl⟩ dX5_countLater_38 (As := [.long q3.2]) (rest := []) rfl rfl (Nat.le_of_ble_eq_true rfl) (fun x hq9 => c_X1_hasMove _ _ _ hq9) (fun q4 _ => ?_)
  refine j_if_eq (pc := 41) (tgt := 47) dX5_countLater_41 (by decide) (fun _ => ?_) (fun _ => ?_)
  · exact jb_X5_countLater_47 k6 hk6 _ _ _ _ _ _
  refine j_inc (pc := 44) (p := 3) (lv' := [(4, .int (v4 + 1)), (0, .ref v0), (1, .long v1), (3, .int v3), (5, .int v5)]) rfl ki_1 (by decide) rfl dX5_countLater_44 ?_
  refine j_sub [1, 2, 3, 0, 4] (lv' := [(0, .ref v0), (1, .long v1), (3, .int v3), (4, .int (v4 + 1)), (5, .int v5)]) rfl ?_
  exact jb_X5_countLater_47 k6 hk6 _ _ _ _ _ _
set_option maxRecDepth 20000 in
set_option maxHeartbeats 1000000 in
theorem jl_X5_countLater_6 {G : q_G} {l : Launch} {k0 z0 : Nat} (n : Nat) : ∀ (h : q_H) (v0 : Nat) (v1 : Int64) (v3 : Int32) (v4 : Int32) (v5 : Int32), q_J G l (RX5, cX5_countLater, 6, 2, 42, (some .int), "countLater", []) k0 z0 (q_Z G k0 z0 q_i) 6 [(0, .ref v0), (1, .long v1), (3, .int v3), (4, .int v4), (5, .int v5)] [] h (l_X5_countLater_6 n h v0 v1 v3 v4 v5) := by
  induction n with
  | zero => intro h v0 v1 v3 v4 v5; exact j_none
  | succ n ih => intro h v0 v1 v3 v4 v5; exact jb_X5_countLater_6 (l_X5_countLater_6 n) ih h v0 v1 v3 v4 v5
set_option maxRecDepth 20000 in
set_option maxHeartbeats 1000000 in
theorem jb_X5_countLater_0 {G : q_G} {l : Launch} {k0 z0 : Nat} (h : q_H) (v0 : Nat) (v1 : Int64) (v3 : Int32) : q_J G l (RX5, cX5_countLater, 6, 2, 42, (some .int), "countLater", []) k0 z0 (q_Z G k0 z0 q_i) 0 [(0, .ref v0), (1, .long v1), (3, .int v3)] [] h (b_X5_countLater_0 h v0 v1 v3) := by
  unfold b_X5_countLater_0
  refine j_iconst (pc := 0) ki_0 dX5_countLater_0 ?_
  refine j_istore (pc := 1) (lv' := [(4, .int (0)), (0, .ref v0), (1, .long v1), (3, .int v3)]) (by decide) rfl dX5_countLater_1 ?_
  refine j_iconst (pc := 3) ki_0 dX5_countLater_3 ?_
  refine j_istore (pc := 4) (lv' := [(5, .int (0)), (4, .int (0)), (0, .ref v0), (1, .long v1), (3, .int v3)]) (by decide) rfl dX5_countLater_4 ?_
  refine j_sub [2, 3, 4, 1, 0] (lv' := [(0, .ref v0), (1, .long v1), (3, .int v3), (4, .int (0)), (5, .int (0))]) rfl ?_
  exact jl_X5_countLater_6 q_FU _ _ _ _ _ _
set_option maxRecDepth 20000 in
set_option maxHeartbeats 1000000 in
theorem c_X5_countLater {G : q_G} {l : Launch} : ∀ (h : q_H) (a0 : Nat) (a1 : Int64) (a2 : Int32) (q : q_H × Int32), f_X5_countLater h a0 a1 a2 = some q → (∃ fs, h.1 a0 = .inr (4, fs)) ∧ q_CT G l yX5_countLater cX5_countLater 6 (some .int) 2 42 [.ref a0, .long a1, .int a2] h q.1 (q_i q.2) := by
  intro h a0 a1 a2 q e
  obtain ⟨e1, e2⟩ := q_chk_ok e
  exact ⟨e1, q_ofJ Y_X5_countLater (Nat.le_of_ble_eq_true rfl) (jb_X5_countLater_0 h a0 a1 a2) q e2⟩
/-! FarFolders$Orders.undoneBy(JLFarFolders$Series;LFarFolders$Series;I)I -/
theorem dX3_undoneBy_0 : decode cX3_undoneBy 0 = .ok (.lload_n 0, 1) := by decide +kernel
theorem dX3_undoneBy_1 : decode cX3_undoneBy 1 = .ok (.invokestatic 49, 3) := by decide +kernel
theorem dX3_undoneBy_4 : decode cX3_undoneBy 4 = .ok (.ifCond .eq 23, 3) := by decide +kernel
theorem dX3_undoneBy_7 : decode cX3_undoneBy 7 = .ok (.aload_n 2, 1) := by decide +kernel
theorem dX3_undoneBy_8 : decode cX3_undoneBy 8 = .ok (.lload_n 0, 1) := by decide +kernel
theorem dX3_undoneBy_9 : decode cX3_undoneBy 9 = .ok (.aload_n 2, 1) := by decide +kernel
theorem dX3_undoneBy_10 : decode cX3_undoneBy 10 = .ok (.getfield 24, 3) := by decide +kernel
theorem dX3_undoneBy_13 : decode cX3_undoneBy 13 = .ok (.invokevirtual 55, 3) := by decide +kernel
theorem dX3_undoneBy_16 : decode cX3_undoneBy 16 = .ok (.aload_n 3, 1) := by decide +kernel
theorem dX3_undoneBy_17 : decode cX3_undoneBy 17 = .ok (.lload_n 0, 1) := by decide +kernel
theorem dX3_undoneBy_18 : decode cX3_undoneBy 18 = .ok (.iload 4, 2) := by decide +kernel
theorem dX3_undoneBy_20 : decode cX3_undoneBy 20 = .ok (.invokevirtual 55, 3) := by decide +kernel
theorem dX3_undoneBy_23 : decode cX3_undoneBy 23 = .ok (.iadd, 1) := by decide +kernel
theorem dX3_undoneBy_24 : decode cX3_undoneBy 24 = .ok (.goto 4, 3) := by decide +kernel
theorem dX3_undoneBy_27 : decode cX3_undoneBy 27 = .ok (.iconst 0, 1) := by decide +kernel
theorem dX3_undoneBy_28 : decode cX3_undoneBy 28 = .ok (.ireturn, 1) := by decide +kernel
def b_X3_undoneBy_0 (h : q_H) (v0 : Int64) (v2 : Nat) (v3 : Nat) (v4 : Int32) : Option (q_H × Int32) :=
  Option.bind (f_X1_hasMove h v0) (fun q1 => if q1.2 = 0 then some (q1.1, (0)) else Option.bind (q_gI 4 1 q1.1 v2) (fun x2 => Option.bind (f_X5_countLater q1.1 v2 v0 x2) (fun q3 => Option.bind (f_X5_countLater q3.1 v3 v0 v4) (fun q4 => some (q4.1, (q3.2 + q4.2))))))
def f_X3_undoneBy (h : q_H) (a0 : Int64) (a1 : Nat) (a2 : Nat) (a3 : Int32) : Option (q_H × Int32) := b_X3_undoneBy_0 h a0 a1 a2 a3
set_option maxRecDepth 20000 in
set_option maxHeartbeats 1000000 in
theorem jb_X3_undoneBy_0 {G : q_G} {l : Launch} {k0 z0 : Nat} (h : q_H) (v0 : Int64) (v2 : Nat) (v3 : Nat) (v4 : Int32) : q_J G l (RX3, cX3_undoneBy, 5, 3, 67, (some .int), "undoneBy", []) k0 z0 (q_Z G k0 z0 q_i) 0 [(0, .long v0), (2, .ref v2), (3, .ref v3), (4, .int v4)] [] h (b_X3_undoneBy_0 h v0 v2 v3 v4) := by
  unfold b_X3_undoneBy_0
  refine j_lload_n (pc := 0) (p := 0) rfl rfl dX3_undoneBy_0 ?_
  refine j_cSi (pc := 1) Y_X1_hasMove ml_X3_49 sm_X1_hasMove ⟨Nat.le_of_ble_eq_true rfl, Nat.le_of_ble_eq_true rfl⟩ dX3_undoneBy_1 (As := [.long v0]) (rest := []) rfl rfl (Nat.le_of_ble_eq_true rfl) (fun x hq9 => c_X1_hasMove _ _ _ hq9) (fun q1 _ => ?_)
  refine j_if_eq (pc := 4) (tgt := 27) dX3_undoneBy_4 (by decide) (fun _ => ?_) (fun _ => ?_)
  · refine j_iconst (pc := 27) ki_0 dX3_undoneBy_27 ?_
    exact j_iret (pc := 28) rfl dX3_undoneBy_28
  refine j_aload_n (pc := 7) (p := 1) rfl rfl dX3_undoneBy_7 ?_
  refine j_lload_n (pc := 8) (p := 0) rfl rfl dX3_undoneBy_8 ?_
  refine j_aload_n (pc := 9) (p := 1) rfl rfl dX3_undoneBy_9 ?_
  refine j_getI (pc := 10) FI_X5 (k := 1) (by decide) fl_X3_24 dX3_undoneBy_10 (fun x2 _ => ?_)
  refine j_cVi (pc := 13) Y_X5_countLater (ci := 4) (b := v2) rfl rfl ml_X3_55 im_X5_countLater se_X5_countLater ⟨Nat.le_of_ble_eq_true rfl, Nat.le_of_ble_eq_true rfl⟩ dX3_undoneBy_13 (As := [.long v0, .int x2]) (rest := []) rfl rfl (Nat.le_of_ble_eq_true rfl) (fun x hq9 => c_X5_countLater _ _ _ _ _ hq9) (fun q3 _ => ?_)
  refine j_aload_n (pc := 16) (p := 2) rfl rfl dX3_undoneBy_16 ?_
  refine j_lload_n (pc := 17) (p := 0) rfl rfl dX3_undoneBy_17 ?_
  refine j_iload (pc := 18) (p := 3) rfl dX3_undoneBy_18 ?_
  refine j_cVi (pc := 20) Y_X5_countLater (ci := 4) (b := v3) rfl rfl ml_X3_55 im_X5_countLater se_X5_countLater ⟨Nat.le_of_ble_eq_true rfl, Nat.le_of_ble_eq_true rfl⟩ dX3_undoneBy_20 (As := [.long v0, .int v4]) (rest := [.int q3.2]) rfl rfl (Nat.le_of_ble_eq_true rfl) (fun x hq9 => c_X5_countLater _ _ _ _ _ hq9) (fun q4 _ => ?_)
  refine j_iadd (pc := 23) dX3_undoneBy_23 ?_
  refine j_goto (pc := 24) (tgt := 28) dX3_undoneBy_24 (by decide) ?_
  exact j_iret (pc := 28) rfl dX3_undoneBy_28
set_option maxRecDepth 20000 in
set_option maxHeartbeats 1000000 in
theorem c_X3_undoneBy {G : q_G} {l : Launch} : ∀ (h : q_H) (a0 : Int64) (a1 : Nat) (a2 : Nat) (a3 : Int32) (q : q_H × Int32), f_X3_undoneBy h a0 a1 a2 a3 = some q → q_CT G l yX3_undoneBy cX3_undoneBy 5 (some .int) 3 67 [.long a0, .ref a1, .ref a2, .int a3] h q.1 (q_i q.2) := by
  intro h a0 a1 a2 a3 q e
  exact q_ofJ Y_X3_undoneBy (Nat.le_of_ble_eq_true rfl) (jb_X3_undoneBy_0 h a0 a1 a2 a3) q e
/-! FarFolders$Orders.weighAll(LFarFolders$Series;LFarFolders$Series;LFarFolders$Series;)V -/
theorem dX3_weighAll_0 : decode cX3_weighAll 0 = .ok (.iconst 0, 1) := by decide +kernel
theorem dX3_weighAll_1 : decode cX3_weighAll 1 = .ok (.istore 4, 2) := by decide +kernel
theorem dX3_weighAll_3 : decode cX3_weighAll 3 = .ok (.iload 4, 2) := by decide +kernel
theorem dX3_weighAll_5 : decode cX3_weighAll 5 = .ok (.aload_n 2, 1) := by decide +kernel
theorem dX3_weighAll_6 : decode cX3_weighAll 6 = .ok (.getfield 24, 3) := by decide +kernel
theorem dX3_weighAll_9 : decode cX3_weighAll 9 = .ok (.if_icmp .gt 135, 3) := by decide +kernel
theorem dX3_weighAll_12 : decode cX3_weighAll 12 = .ok (.iconst 0, 1) := by decide +kernel
theorem dX3_weighAll_13 : decode cX3_weighAll 13 = .ok (.istore 5, 2) := by decide +kernel
theorem dX3_weighAll_15 : decode cX3_weighAll 15 = .ok (.iload 5, 2) := by decide +kernel
theorem dX3_weighAll_17 : decode cX3_weighAll 17 = .ok (.aload_n 3, 1) := by decide +kernel
theorem dX3_weighAll_18 : decode cX3_weighAll 18 = .ok (.getfield 24, 3) := by decide +kernel
theorem dX3_weighAll_21 : decode cX3_weighAll 21 = .ok (.if_icmp .gt 117, 3) := by decide +kernel
theorem dX3_weighAll_24 : decode cX3_weighAll 24 = .ok (.iload 4, 2) := by decide +kernel
theorem dX3_weighAll_26 : decode cX3_weighAll 26 = .ok (.iload 5, 2) := by decide +kernel
theorem dX3_weighAll_28 : decode cX3_weighAll 28 = .ok (.invokestatic 30, 3) := by decide +kernel
theorem dX3_weighAll_31 : decode cX3_weighAll 31 = .ok (.istore 6, 2) := by decide +kernel
theorem dX3_weighAll_33 : decode cX3_weighAll 33 = .ok (.aload_n 0, 1) := by decide +kernel
theorem dX3_weighAll_34 : decode cX3_weighAll 34 = .ok (.getfield 9, 3) := by decide +kernel
theorem dX3_weighAll_37 : decode cX3_weighAll 37 = .ok (.iload 6, 2) := by decide +kernel
theorem dX3_weighAll_39 : decode cX3_weighAll 39 = .ok (.iload 4, 2) := by decide +kernel
theorem dX3_weighAll_41 : decode cX3_weighAll 41 = .ok (.iload 5, 2) := by decide +kernel
theorem dX3_weighAll_43 : decode cX3_weighAll 43 = .ok (.iadd, 1) := by decide +kernel
theorem dX3_weighAll_44 : decode cX3_weighAll 44 = .ok (.ifCond .ne 7, 3) := by decide +kernel
theorem dX3_weighAll_47 : decode cX3_weighAll 47 = .ok (.iconst 0, 1) := by decide +kernel
theorem dX3_weighAll_48 : decode cX3_weighAll 48 = .ok (.goto 5, 3) := by decide +kernel
theorem dX3_weighAll_51 : decode cX3_weighAll 51 = .ok (.ldc 33, 2) := by decide +kernel
theorem dX3_weighAll_53 : decode cX3_weighAll 53 = .ok (.iastore, 1) := by decide +kernel
theorem dX3_weighAll_54 : decode cX3_weighAll 54 = .ok (.aload_n 0, 1) := by decide +kernel
theorem dX3_weighAll_55 : decode cX3_weighAll 55 = .ok (.getfield 15, 3) := by decide +kernel
theorem dX3_weighAll_58 : decode cX3_weighAll 58 = .ok (.iload 6, 2) := by decide +kernel
theorem dX3_weighAll_60 : decode cX3_weighAll 60 = .ok (.iconst 0, 1) := by decide +kernel
theorem dX3_weighAll_61 : decode cX3_weighAll 61 = .ok (.iastore, 1) := by decide +kernel
theorem dX3_weighAll_62 : decode cX3_weighAll 62 = .ok (.iload 4, 2) := by decide +kernel
theorem dX3_weighAll_64 : decode cX3_weighAll 64 = .ok (.ifCond .le 33, 3) := by decide +kernel
theorem dX3_weighAll_67 : decode cX3_weighAll 67 = .ok (.aload_n 0, 1) := by decide +kernel
theorem dX3_weighAll_68 : decode cX3_weighAll 68 = .ok (.iload 4, 2) := by decide +kernel
theorem dX3_weighAll_70 : decode cX3_weighAll 70 = .ok (.iconst 1, 1) := by decide +kernel
theorem dX3_weighAll_71 : decode cX3_weighAll 71 = .ok (.isub, 1) := by decide +kernel
theorem dX3_weighAll_72 : decode cX3_weighAll 72 = .ok (.iload 5, 2) := by decide +kernel
theorem dX3_weighAll_74 : decode cX3_weighAll 74 = .ok (.invokestatic 30, 3) := by decide +kernel
theorem dX3_weighAll_77 : decode cX3_weighAll 77 = .ok (.iload 6, 2) := by decide +kernel
theorem dX3_weighAll_79 : decode cX3_weighAll 79 = .ok (.aload_n 2, 1) := by decide +kernel
theorem dX3_weighAll_80 : decode cX3_weighAll 80 = .ok (.iload 4, 2) := by decide +kernel
theorem dX3_weighAll_82 : decode cX3_weighAll 82 = .ok (.iconst 1, 1) := by decide +kernel
theorem dX3_weighAll_83 : decode cX3_weighAll 83 = .ok (.isub, 1) := by decide +kernel
theorem dX3_weighAll_84 : decode cX3_weighAll 84 = .ok (.invokevirtual 34, 3) := by decide +kernel
theorem dX3_weighAll_87 : decode cX3_weighAll 87 = .ok (.aload_n 1, 1) := by decide +kernel
theorem dX3_weighAll_88 : decode cX3_weighAll 88 = .ok (.aload_n 3, 1) := by decide +kernel
theorem dX3_weighAll_89 : decode cX3_weighAll 89 = .ok (.iload 5, 2) := by decide +kernel
theorem dX3_weighAll_91 : decode cX3_weighAll 91 = .ok (.invokestatic 38, 3) := by decide +kernel
theorem dX3_weighAll_94 : decode cX3_weighAll 94 = .ok (.invokevirtual 42, 3) := by decide +kernel
theorem dX3_weighAll_97 : decode cX3_weighAll 97 = .ok (.iload 5, 2) := by decide +kernel
theorem dX3_weighAll_99 : decode cX3_weighAll 99 = .ok (.ifCond .le 33, 3) := by decide +kernel
theorem dX3_weighAll_102 : decode cX3_weighAll 102 = .ok (.aload_n 0, 1) := by decide +kernel
theorem dX3_weighAll_103 : decode cX3_weighAll 103 = .ok (.iload 4, 2) := by decide +kernel
theorem dX3_weighAll_105 : decode cX3_weighAll 105 = .ok (.iload 5, 2) := by decide +kernel
theorem dX3_weighAll_107 : decode cX3_weighAll 107 = .ok (.iconst 1, 1) := by decide +kernel
theorem dX3_weighAll_108 : decode cX3_weighAll 108 = .ok (.isub, 1) := by decide +kernel
theorem dX3_weighAll_109 : decode cX3_weighAll 109 = .ok (.invokestatic 30, 3) := by decide +kernel
theorem dX3_weighAll_112 : decode cX3_weighAll 112 = .ok (.iload 6, 2) := by decide +kernel
theorem dX3_weighAll_114 : decode cX3_weighAll 114 = .ok (.aload_n 3, 1) := by decide +kernel
theorem dX3_weighAll_115 : decode cX3_weighAll 115 = .ok (.iload 5, 2) := by decide +kernel
theorem dX3_weighAll_117 : decode cX3_weighAll 117 = .ok (.iconst 1, 1) := by decide +kernel
theorem dX3_weighAll_118 : decode cX3_weighAll 118 = .ok (.isub, 1) := by decide +kernel
theorem dX3_weighAll_119 : decode cX3_weighAll 119 = .ok (.invokevirtual 34, 3) := by decide +kernel
theorem dX3_weighAll_122 : decode cX3_weighAll 122 = .ok (.aload_n 1, 1) := by decide +kernel
theorem dX3_weighAll_123 : decode cX3_weighAll 123 = .ok (.aload_n 2, 1) := by decide +kernel
theorem dX3_weighAll_124 : decode cX3_weighAll 124 = .ok (.iload 4, 2) := by decide +kernel
theorem dX3_weighAll_126 : decode cX3_weighAll 126 = .ok (.invokestatic 38, 3) := by decide +kernel
theorem dX3_weighAll_129 : decode cX3_weighAll 129 = .ok (.invokevirtual 42, 3) := by decide +kernel
theorem dX3_weighAll_132 : decode cX3_weighAll 132 = .ok (.iinc 5 1, 3) := by decide +kernel
theorem dX3_weighAll_135 : decode cX3_weighAll 135 = .ok (.goto (-120), 3) := by decide +kernel
theorem dX3_weighAll_138 : decode cX3_weighAll 138 = .ok (.iinc 4 1, 3) := by decide +kernel
theorem dX3_weighAll_141 : decode cX3_weighAll 141 = .ok (.goto (-138), 3) := by decide +kernel
theorem dX3_weighAll_144 : decode cX3_weighAll 144 = .ok (.return_, 1) := by decide +kernel
def b_X3_weighAll_132 (k3 : q_H → Nat → Nat → Nat → Nat → Int32 → Option (q_H × Unit)) (k15 : q_H → Nat → Nat → Nat → Nat → Int32 → Int32 → Option (q_H × Unit)) (h : q_H) (v0 : Nat) (v1 : Nat) (v2 : Nat) (v3 : Nat) (v4 : Int32) (v5 : Int32) : Option (q_H × Unit) :=
  k15 h v0 v1 v2 v3 v4 (v5 + 1)
def b_X3_weighAll_97 (k3 : q_H → Nat → Nat → Nat → Nat → Int32 → Option (q_H × Unit)) (k15 : q_H → Nat → Nat → Nat → Nat → Int32 → Int32 → Option (q_H × Unit)) (h : q_H) (v0 : Nat) (v1 : Nat) (v2 : Nat) (v3 : Nat) (v4 : Int32) (v5 : Int32) (v6 : Int32) : Option (q_H × Unit) :=
  if v5 ≤ 0 then b_X3_weighAll_132 k3 k15 h v0 v1 v2 v3 v4 v5 else Option.bind (f_X3_place h v4 (v5 - (1))) (fun q1 => Option.bind (f_X5_at q1.1 v3 (v5 - (1))) (fun q2 => Option.bind (f_X3_undoneBy q2.1 q2.2 v1 v2 v4) (fun q3 => Option.bind (f_X3_step q3.1 v0 q1.2 v6 q3.2) (fun q4 => b_X3_weighAll_132 k3 k15 q4.1 v0 v1 v2 v3 v4 v5))))
def b_X3_weighAll_53 (k3 : q_H → Nat → Nat → Nat → Nat → Int32 → Option (q_H × Unit)) (k15 : q_H → Nat → Nat → Nat → Nat → Int32 → Int32 → Option (q_H × Unit)) (h : q_H) (v0 : Nat) (v1 : Nat) (v2 : Nat) (v3 : Nat) (v4 : Int32) (v5 : Int32) (v6 : Int32) (s0 : Nat) (s1 : Int32) (s2 : Int32) : Option (q_H × Unit) :=
  Option.bind (q_sI 0 id h s0 s1 s2) (fun h5 => Option.bind (q_gR 2 1 h5 v0) (fun x6 => Option.bind (q_sI 0 id h5 x6 v6 (0)) (fun h7 => if v4 ≤ 0 then b_X3_weighAll_97 k3 k15 h7 v0 v1 v2 v3 v4 v5 v6 else Option.bind (f_X3_place h7 (v4 - (1)) v5) (fun q8 => Option.bind (f_X5_at q8.1 v2 (v4 - (1))) (fun q9 => Option.bind (f_X3_undoneBy q9.1 q9.2 v1 v3 v5) (fun q10 => Option.bind (f_X3_step q10.1 v0 q8.2 v6 q10.2) (fun q11 => b_X3_weighAll_97 k3 k15 q11.1 v0 v1 v2 v3 v4 v5 v6)))))))
def b_X3_weighAll_15 (k3 : q_H → Nat → Nat → Nat → Nat → Int32 → Option (q_H × Unit)) (k15 : q_H → Nat → Nat → Nat → Nat → Int32 → Int32 → Option (q_H × Unit)) (h : q_H) (v0 : Nat) (v1 : Nat) (v2 : Nat) (v3 : Nat) (v4 : Int32) (v5 : Int32) : Option (q_H × Unit) :=
  Option.bind (q_gI 4 1 h v3) (fun x12 => if x12 < v5 then k3 h v0 v1 v2 v3 (v4 + 1) else Option.bind (f_X3_place h v4 v5) (fun q13 => Option.bind (q_gR 2 0 q13.1 v0) (fun x14 => if (v4 + v5) = 0 then b_X3_weighAll_53 k3 k15 q13.1 v0 v1 v2 v3 v4 v5 q13.2 x14 q13.2 (0) else b_X3_weighAll_53 k3 k15 q13.1 v0 v1 v2 v3 v4 v5 q13.2 x14 q13.2 (1073741824))))
def l_X3_weighAll_15 (k3 : q_H → Nat → Nat → Nat → Nat → Int32 → Option (q_H × Unit)) : Nat → q_H → Nat → Nat → Nat → Nat → Int32 → Int32 → Option (q_H × Unit)
  | 0, _, _, _, _, _, _, _ => none
  | n + 1, h, v0, v1, v2, v3, v4, v5 => b_X3_weighAll_15 k3 (l_X3_weighAll_15 k3 n) h v0 v1 v2 v3 v4 v5
def b_X3_weighAll_3 (k3 : q_H → Nat → Nat → Nat → Nat → Int32 → Option (q_H × Unit)) (h : q_H) (v0 : Nat) (v1 : Nat) (v2 : Nat) (v3 : Nat) (v4 : Int32) : Option (q_H × Unit) :=
  Option.bind (q_gI 4 1 h v2) (fun x15 => if x15 < v4 then some (h, ()) else l_X3_weighAll_15 k3 q_FU h v0 v1 v2 v3 v4 (0))
def l_X3_weighAll_3 : Nat → q_H → Nat → Nat → Nat → Nat → Int32 → Option (q_H × Unit)
  | 0, _, _, _, _, _, _ => none
  | n + 1, h, v0, v1, v2, v3, v4 => b_X3_weighAll_3 (l_X3_weighAll_3 n) h v0 v1 v2 v3 v4
def b_X3_weighAll_0 (h : q_H) (v0 : Nat) (v1 : Nat) (v2 : Nat) (v3 : Nat) : Option (q_H × Unit) :=
  l_X3_weighAll_3 q_FU h v0 v1 v2 v3 (0)
def f_X3_weighAll (h : q_H) (a0 : Nat) (a1 : Nat) (a2 : Nat) (a3 : Nat) : Option (q_H × Unit) := q_chk 2 h a0 (b_X3_weighAll_0 h a0 a1 a2 a3)
set_option maxRecDepth 20000 in
set_option maxHeartbeats 1000000 in
theorem jb_X3_weighAll_132 {G : q_G} {l : Launch} {k0 z0 : Nat} (k3 : q_H → Nat → Nat → Nat → Nat → Int32 → Option (q_H × Unit)) (k15 : q_H → Nat → Nat → Nat → Nat → Int32 → Int32 → Option (q_H × Unit)) (hk3 : ∀ (h : q_H) (v0 : Nat) (v1 : Nat) (v2 : Nat) (v3 : Nat) (v4 : Int32), q_J G l (RX3, cX3_weighAll, 7, 4, 91, none, "weighAll", []) k0 z0 (q_Z G k0 z0 q_u) 3 [(0, .ref v0), (1, .ref v1), (2, .ref v2), (3, .ref v3), (4, .int v4)] [] h (k3 h v0 v1 v2 v3 v4)) (hk15 : ∀ (h : q_H) (v0 : Nat) (v1 : Nat) (v2 : Nat) (v3 : Nat) (v4 : Int32) (v5 : Int32), q_J G l (RX3, cX3_weighAll, 7, 4, 91, none, "weighAll", []) k0 z0 (q_Z G k0 z0 q_u) 15 [(0, .ref v0), (1, .ref v1), (2, .ref v2), (3, .ref v3), (4, .int v4), (5, .int v5)] [] h (k15 h v0 v1 v2 v3 v4 v5)) (h : q_H) (v0 : Nat) (v1 : Nat) (v2 : Nat) (v3 : Nat) (v4 : Int32) (v5 : Int32) : q_J G l (RX3, cX3_weighAll, 7, 4, 91, none, "weighAll", []) k0 z0 (q_Z G k0 z0 q_u) 132 [(0, .ref v0), (1, .ref v1), (2, .ref v2), (3, .ref v3), (4, .int v4), (5, .int v5)] [] h (b_X3_weighAll_132 k3 k15 h v0 v1 v2 v3 v4 v5) := by
  unfold b_X3_weighAll_132
  refine j_inc (pc := 132) (p := 5) (lv' := [(5, .int (v5 + 1)), (0, .ref v0), (1, .ref v1), (2, .ref v2), (3, .ref v3), (4, .int v4)]) rfl ki_1 (by decide) rfl dX3_weighAll_132 ?_
  refine j_goto (pc := 135) (tgt := 15) dX3_weighAll_135 (by decide) ?_
  refine j_sub [1, 2, 3, 4, 5, 0] (lv' := [(0, .ref v0), (1, .ref v1), (2, .ref v2), (3, .ref v3), (4, .int v4), (5, .int (v5 + 1))]) rfl ?_
  exact hk15 _ _ _ _ _ _ _
set_option maxRecDepth 20000 in
set_option maxHeartbeats 1000000 in
theorem jb_X3_weighAll_97 {G : q_G} {l : Launch} {k0 z0 : Nat} (k3 : q_H → Nat → Nat → Nat → Nat → Int32 → Option (q_H × Unit)) (k15 : q_H → Nat → Nat → Nat → Nat → Int32 → Int32 → Option (q_H × Unit)) (hk3 : ∀ (h : q_H) (v0 : Nat) (v1 : Nat) (v2 : Nat) (v3 : Nat) (v4 : Int32), q_J G l (RX3, cX3_weighAll, 7, 4, 91, none, "weighAll", []) k0 z0 (q_Z G k0 z0 q_u) 3 [(0, .ref v0), (1, .ref v1), (2, .ref v2), (3, .ref v3), (4, .int v4)] [] h (k3 h v0 v1 v2 v3 v4)) (hk15 : ∀ (h : q_H) (v0 : Nat) (v1 : Nat) (v2 : Nat) (v3 : Nat) (v4 : Int32) (v5 : Int32), q_J G l (RX3, cX3_weighAll, 7, 4, 91, none, "weighAll", []) k0 z0 (q_Z G k0 z0 q_u) 15 [(0, .ref v0), (1, .ref v1), (2, .ref v2), (3, .ref v3), (4, .int v4), (5, .int v5)] [] h (k15 h v0 v1 v2 v3 v4 v5)) (h : q_H) (v0 : Nat) (v1 : Nat) (v2 : Nat) (v3 : Nat) (v4 : Int32) (v5 : Int32) (v6 : Int32) : q_J G l (RX3, cX3_weighAll, 7, 4, 91, none, "weighAll", []) k0 z0 (q_Z G k0 z0 q_u) 97 [(0, .ref v0), (1, .ref v1), (2, .ref v2), (3, .ref v3), (4, .int v4), (5, .int v5), (6, .int v6)] [] h (b_X3_weighAll_97 k3 k15 h v0 v1 v2 v3 v4 v5 v6) := by
  unfold b_X3_weighAll_97
  refine j_iload (pc := 97) (p := 5) rfl dX3_weighAll_97 ?_
  refine j_if_le (pc := 99) (tgt := 132) dX3_weighAll_99 (by decide) (fun _ => ?_) (fun _ => ?_)
  · refine j_sub [0, 1, 2, 3, 4, 5] (lv' := [(0, .ref v0), (1, .ref v1), (2, .ref v2), (3, .ref v3), (4, .int v4), (5, .int v5)]) rfl ?_
    exact jb_X3_weighAll_132 k3 k15 hk3 hk15 _ _ _ _ _ _ _
  refine j_aload_n (pc := 102) (p := 0) rfl rfl dX3_weighAll_102 ?_
  refine j_iload (pc := 103) (p := 4) rfl dX3_weighAll_103 ?_
  refine j_iload (pc := 105) (p := 5) rfl dX3_weighAll_105 ?_
  refine j_iconst (pc := 107) ki_1 dX3_weighAll_107 ?_
  refine j_isub (pc := 108) dX3_weighAll_108 ?_
  refine j_cSi (pc := 109) Y_X3_place ml_X3_30 sm_X3_place ⟨Nat.le_of_ble_eq_true rfl, Nat.le_of_ble_eq_true rfl⟩ dX3_weighAll_109 (As := [.int v4, .int (v5 - (1))]) (rest := [.ref v0]) rfl rfl (Nat.le_of_ble_eq_true rfl) (fun x hq9 => c_X3_place _ _ _ _ hq9) (fun q1 _ => ?_)
  refine j_iload (pc := 112) (p := 6) rfl dX3_weighAll_112 ?_
  refine j_aload_n (pc := 114) (p := 3) rfl rfl dX3_weighAll_114 ?_
  refine j_iload (pc := 115) (p := 5) rfl dX3_weighAll_115 ?_
  refine j_iconst (pc := 117) ki_1 dX3_weighAll_117 ?_
  refine j_isub (pc := 118) dX3_weighAll_118 ?_
  refine j_cVl (pc := 119) Y_X5_at (ci := 4) (b := v3) rfl rfl ml_X3_34 im_X5_at se_X5_at ⟨Nat.le_of_ble_eq_true rfl, Nat.le_of_ble_eq_true rfl⟩ dX3_weighAll_119 (As := [.int (v5 - (1))]) (rest := [.int v6, .int q1.2, .ref v0]) rfl rfl (Nat.le_of_ble_eq_true rfl) (fun x hq9 => c_X5_at _ _ _ _ hq9) (fun q2 _ => ?_)
  refine j_aload_n (pc := 122) (p := 1) rfl rfl dX3_weighAll_122 ?_
  refine j_aload_n (pc := 123) (p := 2) rfl rfl dX3_weighAll_123 ?_
  refine j_iload (pc := 124) (p := 4) rfl dX3_weighAll_124 ?_
  refine j_cSi (pc := 126) Y_X3_undoneBy ml_X3_38 sm_X3_undoneBy ⟨Nat.le_of_ble_eq_true rfl, Nat.le_of_ble_eq_true rfl⟩ dX3_weighAll_126 (As := [.long q2.2, .ref v1, .ref v2, .int v4]) (rest := [.int v6, .int q1.2, .ref v0]) rfl rfl (Nat.le_of_ble_eq_true rfl) (fun x hq9 => c_X3_undoneBy _ _ _ _ _ _ hq9) (fun q3 _ => ?_)
  refine j_cVu (pc := 129) Y_X3_step (ci := 2) (b := v0) rfl rfl ml_X3_42 im_X3_step se_X3_step ⟨Nat.le_of_ble_eq_true rfl, Nat.le_of_ble_eq_true rfl⟩ dX3_weighAll_129 (As := [.int q1.2, .int v6, .int q3.2]) (rest := []) rfl rfl (Nat.le_of_ble_eq_true rfl) (fun x hq9 => c_X3_step _ _ _ _ _ _ hq9) (fun q4 _ => ?_)
  refine j_sub [0, 1, 2, 3, 4, 5] (lv' := [(0, .ref v0), (1, .ref v1), (2, .ref v2), (3, .ref v3), (4, .int v4), (5, .int v5)]) rfl ?_
  exact jb_X3_weighAll_132 k3 k15 hk3 hk15 _ _ _ _ _ _ _
set_option maxRecDepth 20000 in
set_option maxHeartbeats 1000000 in
theorem jb_X3_weighAll_53 {G : q_G} {l : Launch} {k0 z0 : Nat} (k3 : q_H → Nat → Nat → Nat → Nat → Int32 → Option (q_H × Unit)) (k15 : q_H → Nat → Nat → Nat → Nat → Int32 → Int32 → Option (q_H × Unit)) (hk3 : ∀ (h : q_H) (v0 : Nat) (v1 : Nat) (v2 : Nat) (v3 : Nat) (v4 : Int32), q_J G l (RX3, cX3_weighAll, 7, 4, 91, none, "weighAll", []) k0 z0 (q_Z G k0 z0 q_u) 3 [(0, .ref v0), (1, .ref v1), (2, .ref v2), (3, .ref v3), (4, .int v4)] [] h (k3 h v0 v1 v2 v3 v4)) (hk15 : ∀ (h : q_H) (v0 : Nat) (v1 : Nat) (v2 : Nat) (v3 : Nat) (v4 : Int32) (v5 : Int32), q_J G l (RX3, cX3_weighAll, 7, 4, 91, none, "weighAll", []) k0 z0 (q_Z G k0 z0 q_u) 15 [(0, .ref v0), (1, .ref v1), (2, .ref v2), (3, .ref v3), (4, .int v4), (5, .int v5)] [] h (k15 h v0 v1 v2 v3 v4 v5)) (h : q_H) (v0 : Nat) (v1 : Nat) (v2 : Nat) (v3 : Nat) (v4 : Int32) (v5 : Int32) (v6 : Int32) (s0 : Nat) (s1 : Int32) (s2 : Int32) : q_J G l (RX3, cX3_weighAll, 7, 4, 91, none, "weighAll", []) k0 z0 (q_Z G k0 z0 q_u) 53 [(0, .ref v0), (1, .ref v1), (2, .ref v2), (3, .ref v3), (4, .int v4), (5, .int v5), (6, .int v6)] [.int s2, .int s1, .ref s0] h (b_X3_weighAll_53 k3 k15 h v0 v1 v2 v3 v4 v5 v6 s0 s1 s2) := by
  unfold b_X3_weighAll_53
  refine j_iast (pc := 53) dX3_weighAll_53 (fun h5 _ => ?_)
  refine j_aload_n (pc := 54) (p := 0) rfl rfl dX3_weighAll_54 ?_
  refine j_getR (pc := 55) FI_X3 (k := 1) (by decide) fl_X3_15 dX3_weighAll_55 (fun x6 _ => ?_)
  refine j_iload (pc := 58) (p := 6) rfl dX3_weighAll_58 ?_
  refine j_iconst (pc := 60) ki_0 dX3_weighAll_60 ?_
  refine j_iast (pc := 61) dX3_weighAll_61 (fun h7 _ => ?_)
  refine j_iload (pc := 62) (p := 4) rfl dX3_weighAll_62 ?_
  refine j_if_le (pc := 64) (tgt := 97) dX3_weighAll_64 (by decide) (fun _ => ?_) (fun _ => ?_)
  · exact jb_X3_weighAll_97 k3 k15 hk3 hk15 _ _ _ _ _ _ _ _
  refine j_aload_n (pc := 67) (p := 0) rfl rfl dX3_weighAll_67 ?_
  refine j_iload (pc := 68) (p := 4) rfl dX3_weighAll_68 ?_
  refine j_iconst (pc := 70) ki_1 dX3_weighAll_70 ?_
  refine j_isub (pc := 71) dX3_weighAll_71 ?_
  refine j_iload (pc := 72) (p := 5) rfl dX3_weighAll_72 ?_
  refine j_cSi (pc := 74) Y_X3_place ml_X3_30 sm_X3_place ⟨Nat.le_of_ble_eq_true rfl, Nat.le_of_ble_eq_true rfl⟩ dX3_weighAll_74 (As := [.int (v4 - (1)), .int v5]) (rest := [.ref v0]) rfl rfl (Nat.le_of_ble_eq_true rfl) (fun x hq9 => c_X3_place _ _ _ _ hq9) (fun q8 _ => ?_)
  refine j_iload (pc := 77) (p := 6) rfl dX3_weighAll_77 ?_
  refine j_aload_n (pc := 79) (p := 2) rfl rfl dX3_weighAll_79 ?_
  refine j_iload (pc := 80) (p := 4) rfl dX3_weighAll_80 ?_
  refine j_iconst (pc := 82) ki_1 dX3_weighAll_82 ?_
  refine j_isub (pc := 83) dX3_weighAll_83 ?_
  refine j_cVl (pc := 84) Y_X5_at (ci := 4) (b := v2) rfl rfl ml_X3_34 im_X5_at se_X5_at ⟨Nat.le_of_ble_eq_true rfl, Nat.le_of_ble_eq_true rfl⟩ dX3_weighAll_84 (As := [.int (v4 - (1))]) (rest := [.int v6, .int q8.2, .ref v0]) rfl rfl (Nat.le_of_ble_eq_true rfl) (fun x hq9 => c_X5_at _ _ _ _ hq9) (fun q9 _ => ?_)
  refine j_aload_n (pc := 87) (p := 1) rfl rfl dX3_weighAll_87 ?_
  refine j_aload_n (pc := 88) (p := 3) rfl rfl dX3_weighAll_88 ?_
  refine j_iload (pc := 89) (p := 5) rfl dX3_weighAll_89 ?_
  refine j_cSi (pc := 91) Y_X3_undoneBy ml_X3_38 sm_X3_undoneBy ⟨Nat.le_of_ble_eq_true rfl, Nat.le_of_ble_eq_true rfl⟩ dX3_weighAll_91 (As := [.long q9.2, .ref v1, .ref v3, .int v5]) (rest := [.int v6, .int q8.2, .ref v0]) rfl rfl (Nat.le_of_ble_eq_true rfl) (fun x hq9 => c_X3_undoneBy _ _ _ _ _ _ hq9) (fun q10 _ => ?_)
  refine j_cVu (pc := 94) Y_X3_step (ci := 2) (b := v0) rfl rfl ml_X3_42 im_X3_step se_X3_step ⟨Nat.le_of_ble_eq_true rfl, Nat.le_of_ble_eq_true rfl⟩ dX3_weighAll_94 (As := [.int q8.2, .int v6, .int q10.2]) (rest := []) rfl rfl (Nat.le_of_ble_eq_true rfl) (fun x hq9 => c_X3_step _ _ _ _ _ _ hq9) (fun q11 _ => ?_)
  exact jb_X3_weighAll_97 k3 k15 hk3 hk15 _ _ _ _ _ _ _ _
set_option maxRecDepth 20000 in
set_option maxHeartbeats 1000000 in
theorem jb_X3_weighAll_15 {G : q_G} {l : Launch} {k0 z0 : Nat} (k3 : q_H → Nat → Nat → Nat → Nat → Int32 → Option (q_H × Unit)) (k15 : q_H → Nat → Nat → Nat → Nat → Int32 → Int32 → Option (q_H × Unit)) (hk3 : ∀ (h : q_H) (v0 : Nat) (v1 : Nat) (v2 : Nat) (v3 : Nat) (v4 : Int32), q_J G l (RX3, cX3_weighAll, 7, 4, 91, none, "weighAll", []) k0 z0 (q_Z G k0 z0 q_u) 3 [(0, .ref v0), (1, .ref v1), (2, .ref v2), (3, .ref v3), (4, .int v4)] [] h (k3 h v0 v1 v2 v3 v4)) (hk15 : ∀ (h : q_H) (v0 : Nat) (v1 : Nat) (v2 : Nat) (v3 : Nat) (v4 : Int32) (v5 : Int32), q_J G l (RX3, cX3_weighAll, 7, 4, 91, none, "weighAll", []) k0 z0 (q_Z G k0 z0 q_u) 15 [(0, .ref v0), (1, .ref v1), (2, .ref v2), (3, .ref v3), (4, .int v4), (5, .int v5)] [] h (k15 h v0 v1 v2 v3 v4 v5)) (h : q_H) (v0 : Nat) (v1 : Nat) (v2 : Nat) (v3 : Nat) (v4 : Int32) (v5 : Int32) : q_J G l (RX3, cX3_weighAll, 7, 4, 91, none, "weighAll", []) k0 z0 (q_Z G k0 z0 q_u) 15 [(0, .ref v0), (1, .ref v1), (2, .ref v2), (3, .ref v3), (4, .int v4), (5, .int v5)] [] h (b_X3_weighAll_15 k3 k15 h v0 v1 v2 v3 v4 v5) := by
  unfold b_X3_weighAll_15
  refine j_iload (pc := 15) (p := 5) rfl dX3_weighAll_15 ?_
  refine j_aload_n (pc := 17) (p := 3) rfl rfl dX3_weighAll_17 ?_
  refine j_getI (pc := 18) FI_X5 (k := 1) (by decide) fl_X3_24 dX3_weighAll_18 (fun x12 _ => ?_)
  refine j_ic_gt (pc := 21) (tgt := 138) dX3_weighAll_21 (by decide) (fun _ => ?_) (fun _ => ?_)
  · refine j_inc (pc := 138) (p := 4) (lv' := [(4, .int (v4 + 1)), (0, .ref v0), (1, .ref v1), (2, .ref v2), (3, .ref v3), (5, .int v5)]) rfl ki_1 (by decide) rfl dX3_weighAll_138 ?_
    refine j_goto (pc := 141) (tgt := 3) dX3_weighAll_141 (by decide) ?_
    refine j_sub [1, 2, 3, 4, 0] (lv' := [(0, .ref v0), (1, .ref v1), (2, .ref v2), (3, .ref v3), (4, .int (v4 + 1))]) rfl ?_
    exact hk3 _ _ _ _ _ _
  refine j_iload (pc := 24) (p := 4) rfl dX3_weighAll_24 ?_
  refine j_iload (pc := 26) (p := 5) rfl dX3_weighAll_26 ?_
  refine j_cSi (pc := 28) Y_X3_place ml_X3_30 sm_X3_place ⟨Nat.le_of_ble_eq_true rfl, Nat.le_of_ble_eq_true rfl⟩ dX3_weighAll_28 (As := [.int v4, .int v5]) (rest := []) rfl rfl (Nat.le_of_ble_eq_true rfl) (fun x hq9 => c_X3_place _ _ _ _ hq9) (fun q13 _ => ?_)
  refine j_istore (pc := 31) (lv' := [(6, .int q13.2), (0, .ref v0), (1, .ref v1), (2, .ref v2), (3, .ref v3), (4, .int v4), (5, .int v5)]) (by decide) rfl dX3_weighAll_31 ?_
  refine j_aload_n (pc := 33) (p := 1) rfl rfl dX3_weighAll_33 ?_
  refine j_getR (pc := 34) FI_X3 (k := 0) (by decide) fl_X3_9 dX3_weighAll_34 (fun x14 _ => ?_)
  refine j_iload (pc := 37) (p := 0) rfl dX3_weighAll_37 ?_
  refine j_iload (pc := 39) (p := 5) rfl dX3_weighAll_39 ?_
  refine j_iload (pc := 41) (p := 6) rfl dX3_weighAll_41 ?_
  refine j_iadd (pc := 43) dX3_weighAll_43 ?_
  refine j_if_ne (pc := 44) (tgt := 51) dX3_weighAll_44 (by decide) (fun _ => ?_) (fun _ => ?_)
  · refine j_iconst (pc := 47) ki_0 dX3_weighAll_47 ?_
    refine j_goto (pc := 48) (tgt := 53) dX3_weighAll_48 (by decide) ?_
    refine j_sub [1, 2, 3, 4, 5, 6, 0] (lv' := [(0, .ref v0), (1, .ref v1), (2, .ref v2), (3, .ref v3), (4, .int v4), (5, .int v5), (6, .int q13.2)]) rfl ?_
    exact jb_X3_weighAll_53 k3 k15 hk3 hk15 _ _ _ _ _ _ _ _ _ _ _
  refine j_ldc (pc := 51) ct_X3_33 dX3_weighAll_51 ?_
  refine j_sub [1, 2, 3, 4, 5, 6, 0] (lv' := [(0, .ref v0), (1, .ref v1), (2, .ref v2), (3, .ref v3), (4, .int v4), (5, .int v5), (6, .int q13.2)]) rfl ?_
  exact jb_X3_weighAll_53 k3 k15 hk3 hk15 _ _ _ _ _ _ _ _ _ _ _
set_option maxRecDepth 20000 in
set_option maxHeartbeats 1000000 in
theorem jl_X3_weighAll_15 {G : q_G} {l : Launch} {k0 z0 : Nat} (k3 : q_H → Nat → Nat → Nat → Nat → Int32 → Option (q_H × Unit)) (hk3 : ∀ (h : q_H) (v0 : Nat) (v1 : Nat) (v2 : Nat) (v3 : Nat) (v4 : Int32), q_J G l (RX3, cX3_weighAll, 7, 4, 91, none, "weighAll", []) k0 z0 (q_Z G k0 z0 q_u) 3 [(0, .ref v0), (1, .ref v1), (2, .ref v2), (3, .ref v3), (4, .int v4)] [] h (k3 h v0 v1 v2 v3 v4)) (n : Nat) : ∀ (h : q_H) (v0 : Nat) (v1 : Nat) (v2 : Nat) (v3 : Nat) (v4 : Int32) (v5 : Int32), q_J G l (RX3, cX3_weighAll, 7, 4, 91, none, "weighAll", []) k0 z0 (q_Z G k0 z0 q_u) 15 [(0, .ref v0), (1, .ref v1), (2, .ref v2), (3, .ref v3), (4, .int v4), (5, .int v5)] [] h (l_X3_weighAll_15 k3 n h v0 v1 v2 v3 v4 v5) := by
  induction n with
  | zero => intro h v0 v1 v2 v3 v4 v5; exact j_none
  | succ n ih => intro h v0 v1 v2 v3 v4 v5; exact jb_X3_weighAll_15 k3 (l_X3_weighAll_15 k3 n) hk3 ih h v0 v1 v2 v3 v4 v5
set_option maxRecDepth 20000 in
set_option maxHeartbeats 1000000 in
theorem jb_X3_weighAll_3 {G : q_G} {l : Launch} {k0 z0 : Nat} (k3 : q_H → Nat → Nat → Nat → Nat → Int32 → Option (q_H × Unit)) (hk3 : ∀ (h : q_H) (v0 : Nat) (v1 : Nat) (v2 : Nat) (v3 : Nat) (v4 : Int32), q_J G l (RX3, cX3_weighAll, 7, 4, 91, none, "weighAll", []) k0 z0 (q_Z G k0 z0 q_u) 3 [(0, .ref v0), (1, .ref v1), (2, .ref v2), (3, .ref v3), (4, .int v4)] [] h (k3 h v0 v1 v2 v3 v4)) (h : q_H) (v0 : Nat) (v1 : Nat) (v2 : Nat) (v3 : Nat) (v4 : Int32) : q_J G l (RX3, cX3_weighAll, 7, 4, 91, none, "weighAll", []) k0 z0 (q_Z G k0 z0 q_u) 3 [(0, .ref v0), (1, .ref v1), (2, .ref v2), (3, .ref v3), (4, .int v4)] [] h (b_X3_weighAll_3 k3 h v0 v1 v2 v3 v4) := by
  unfold b_X3_weighAll_3
  refine j_iload (pc := 3) (p := 4) rfl dX3_weighAll_3 ?_
  refine j_aload_n (pc := 5) (p := 2) rfl rfl dX3_weighAll_5 ?_
  refine j_getI (pc := 6) FI_X5 (k := 1) (by decide) fl_X3_24 dX3_weighAll_6 (fun x15 _ => ?_)
  refine j_ic_gt (pc := 9) (tgt := 144) dX3_weighAll_9 (by decide) (fun _ => ?_) (fun _ => ?_)
  · exact j_vret (pc := 144) rfl dX3_weighAll_144
  refine j_iconst (pc := 12) ki_0 dX3_weighAll_12 ?_
  refine j_istore (pc := 13) (lv' := [(5, .int (0)), (0, .ref v0), (1, .ref v1), (2, .ref v2), (3, .ref v3), (4, .int v4)]) (by decide) rfl dX3_weighAll_13 ?_
  refine j_sub [1, 2, 3, 4, 5, 0] (lv' := [(0, .ref v0), (1, .ref v1), (2, .ref v2), (3, .ref v3), (4, .int v4), (5, .int (0))]) rfl ?_
  exact jl_X3_weighAll_15 k3 hk3 q_FU _ _ _ _ _ _ _
set_option maxRecDepth 20000 in
set_option maxHeartbeats 1000000 in
theorem jl_X3_weighAll_3 {G : q_G} {l : Launch} {k0 z0 : Nat} (n : Nat) : ∀ (h : q_H) (v0 : Nat) (v1 : Nat) (v2 : Nat) (v3 : Nat) (v4 : Int32), q_J G l (RX3, cX3_weighAll, 7, 4, 91, none, "weighAll", []) k0 z0 (q_Z G k0 z0 q_u) 3 [(0, .ref v0), (1, .ref v1), (2, .ref v2), (3, .ref v3), (4, .int v4)] [] h (l_X3_weighAll_3 n h v0 v1 v2 v3 v4) := by
  induction n with
  | zero => intro h v0 v1 v2 v3 v4; exact j_none
  | succ n ih => intro h v0 v1 v2 v3 v4; exact jb_X3_weighAll_3 (l_X3_weighAll_3 n) ih h v0 v1 v2 v3 v4
set_option maxRecDepth 20000 in
set_option maxHeartbeats 1000000 in
theorem jb_X3_weighAll_0 {G : q_G} {l : Launch} {k0 z0 : Nat} (h : q_H) (v0 : Nat) (v1 : Nat) (v2 : Nat) (v3 : Nat) : q_J G l (RX3, cX3_weighAll, 7, 4, 91, none, "weighAll", []) k0 z0 (q_Z G k0 z0 q_u) 0 [(0, .ref v0), (1, .ref v1), (2, .ref v2), (3, .ref v3)] [] h (b_X3_weighAll_0 h v0 v1 v2 v3) := by
  unfold b_X3_weighAll_0
  refine j_iconst (pc := 0) ki_0 dX3_weighAll_0 ?_
  refine j_istore (pc := 1) (lv' := [(4, .int (0)), (0, .ref v0), (1, .ref v1), (2, .ref v2), (3, .ref v3)]) (by decide) rfl dX3_weighAll_1 ?_
  refine j_sub [1, 2, 3, 4, 0] (lv' := [(0, .ref v0), (1, .ref v1), (2, .ref v2), (3, .ref v3), (4, .int (0))]) rfl ?_
  exact jl_X3_weighAll_3 q_FU _ _ _ _ _ _
set_option maxRecDepth 20000 in
set_option maxHeartbeats 1000000 in
theorem c_X3_weighAll {G : q_G} {l : Launch} : ∀ (h : q_H) (a0 : Nat) (a1 : Nat) (a2 : Nat) (a3 : Nat) (q : q_H × Unit), f_X3_weighAll h a0 a1 a2 a3 = some q → (∃ fs, h.1 a0 = .inr (2, fs)) ∧ q_CT G l yX3_weighAll cX3_weighAll 7 none 4 91 [.ref a0, .ref a1, .ref a2, .ref a3] h q.1 (q_u q.2) := by
  intro h a0 a1 a2 a3 q e
  obtain ⟨e1, e2⟩ := q_chk_ok e
  exact ⟨e1, q_ofJ Y_X3_weighAll (Nat.le_of_ble_eq_true rfl) (jb_X3_weighAll_0 h a0 a1 a2 a3) q e2⟩
/-! FarFolders$Row.add(J)V -/
theorem dX4_add_0 : decode cX4_add 0 = .ok (.aload_n 0, 1) := by decide +kernel
theorem dX4_add_1 : decode cX4_add 1 = .ok (.getfield 15, 3) := by decide +kernel
theorem dX4_add_4 : decode cX4_add 4 = .ok (.aload_n 0, 1) := by decide +kernel
theorem dX4_add_5 : decode cX4_add 5 = .ok (.getfield 9, 3) := by decide +kernel
theorem dX4_add_8 : decode cX4_add 8 = .ok (.arraylength, 1) := by decide +kernel
theorem dX4_add_9 : decode cX4_add 9 = .ok (.if_icmp .ge 23, 3) := by decide +kernel
theorem dX4_add_12 : decode cX4_add 12 = .ok (.aload_n 0, 1) := by decide +kernel
theorem dX4_add_13 : decode cX4_add 13 = .ok (.getfield 9, 3) := by decide +kernel
theorem dX4_add_16 : decode cX4_add 16 = .ok (.aload_n 0, 1) := by decide +kernel
theorem dX4_add_17 : decode cX4_add 17 = .ok (.getfield 15, 3) := by decide +kernel
theorem dX4_add_20 : decode cX4_add 20 = .ok (.lload_n 1, 1) := by decide +kernel
theorem dX4_add_21 : decode cX4_add 21 = .ok (.lastore, 1) := by decide +kernel
theorem dX4_add_22 : decode cX4_add 22 = .ok (.aload_n 0, 1) := by decide +kernel
theorem dX4_add_23 : decode cX4_add 23 = .ok (.dup, 1) := by decide +kernel
theorem dX4_add_24 : decode cX4_add 24 = .ok (.getfield 15, 3) := by decide +kernel
theorem dX4_add_27 : decode cX4_add 27 = .ok (.iconst 1, 1) := by decide +kernel
theorem dX4_add_28 : decode cX4_add 28 = .ok (.iadd, 1) := by decide +kernel
theorem dX4_add_29 : decode cX4_add 29 = .ok (.putfield 15, 3) := by decide +kernel
theorem dX4_add_32 : decode cX4_add 32 = .ok (.return_, 1) := by decide +kernel
def b_X4_add_0 (h : q_H) (v0 : Nat) (v1 : Int64) : Option (q_H × Unit) :=
  Option.bind (q_gI 3 1 h v0) (fun x1 => Option.bind (q_gR 3 0 h v0) (fun x2 => Option.bind (q_len h x2) (fun x3 => if x3 ≤ x1 then some (h, ()) else Option.bind (q_gR 3 0 h v0) (fun x4 => Option.bind (q_gI 3 1 h v0) (fun x5 => Option.bind (q_sL h x4 x5 v1) (fun h6 => Option.bind (q_gI 3 1 h6 v0) (fun x7 => Option.bind (q_p 3 1 h6 v0 (.int (x7 + (1)))) (fun h8 => some (h8, ())))))))))
def f_X4_add (h : q_H) (a0 : Nat) (a1 : Int64) : Option (q_H × Unit) := q_chk 3 h a0 (b_X4_add_0 h a0 a1)
set_option maxRecDepth 20000 in
set_option maxHeartbeats 1000000 in
theorem jb_X4_add_0 {G : q_G} {l : Launch} {k0 z0 : Nat} (h : q_H) (v0 : Nat) (v1 : Int64) : q_J G l (RX4, cX4_add, 3, 0, 0, none, "add", []) k0 z0 (q_Z G k0 z0 q_u) 0 [(0, .ref v0), (1, .long v1)] [] h (b_X4_add_0 h v0 v1) := by
  unfold b_X4_add_0
  refine j_aload_n (pc := 0) (p := 0) rfl rfl dX4_add_0 ?_
  refine j_getI (pc := 1) FI_X4 (k := 1) (by decide) fl_X4_15 dX4_add_1 (fun x1 _ => ?_)
  refine j_aload_n (pc := 4) (p := 0) rfl rfl dX4_add_4 ?_
  refine j_getR (pc := 5) FI_X4 (k := 0) (by decide) fl_X4_9 dX4_add_5 (fun x2 _ => ?_)
  refine j_alen (pc := 8) dX4_add_8 (fun x3 _ => ?_)
  refine j_ic_ge (pc := 9) (tgt := 32) dX4_add_9 (by decide) (fun _ => ?_) (fun _ => ?_)
  · exact j_vret (pc := 32) rfl dX4_add_32
  refine j_aload_n (pc := 12) (p := 0) rfl rfl dX4_add_12 ?_
  refine j_getR (pc := 13) FI_X4 (k := 0) (by decide) fl_X4_9 dX4_add_13 (fun x4 _ => ?_)
  refine j_aload_n (pc := 16) (p := 0) rfl rfl dX4_add_16 ?_
  refine j_getI (pc := 17) FI_X4 (k := 1) (by decide) fl_X4_15 dX4_add_17 (fun x5 _ => ?_)
  refine j_lload_n (pc := 20) (p := 1) rfl rfl dX4_add_20 ?_
  refine j_last (pc := 21) dX4_add_21 (fun h6 _ => ?_)
  refine j_aload_n (pc := 22) (p := 0) rfl rfl dX4_add_22 ?_
  refine j_dup (pc := 23) rfl dX4_add_23 ?_
  refine j_getI (pc := 24) FI_X4 (k := 1) (by decide) fl_X4_15 dX4_add_24 (fun x7 _ => ?_)
  refine j_iconst (pc := 27) ki_1 dX4_add_27 ?_
  refine j_iadd (pc := 28) dX4_add_28 ?_
  refine j_put (pc := 29) FI_X4 (k := 1) (by decide) fl_X4_15 rfl rfl rfl dX4_add_29 (fun h8 _ => ?_)
  exact j_vret (pc := 32) rfl dX4_add_32
set_option maxRecDepth 20000 in
set_option maxHeartbeats 1000000 in
theorem c_X4_add {G : q_G} {l : Launch} : ∀ (h : q_H) (a0 : Nat) (a1 : Int64) (q : q_H × Unit), f_X4_add h a0 a1 = some q → (∃ fs, h.1 a0 = .inr (3, fs)) ∧ q_CT G l yX4_add cX4_add 3 none 0 0 [.ref a0, .long a1] h q.1 (q_u q.2) := by
  intro h a0 a1 q e
  obtain ⟨e1, e2⟩ := q_chk_ok e
  exact ⟨e1, q_ofJ Y_X4_add (Nat.le_of_ble_eq_true rfl) (jb_X4_add_0 h a0 a1) q e2⟩
/-! FarFolders$Row.clear()V -/
theorem dX4_clear_0 : decode cX4_clear 0 = .ok (.aload_n 0, 1) := by decide +kernel
theorem dX4_clear_1 : decode cX4_clear 1 = .ok (.iconst 0, 1) := by decide +kernel
theorem dX4_clear_2 : decode cX4_clear 2 = .ok (.putfield 15, 3) := by decide +kernel
theorem dX4_clear_5 : decode cX4_clear 5 = .ok (.return_, 1) := by decide +kernel
def b_X4_clear_0 (h : q_H) (v0 : Nat) : Option (q_H × Unit) :=
  Option.bind (q_p 3 1 h v0 (.int (0))) (fun h1 => some (h1, ()))
def f_X4_clear (h : q_H) (a0 : Nat) : Option (q_H × Unit) := q_chk 3 h a0 (b_X4_clear_0 h a0)
set_option maxRecDepth 20000 in
set_option maxHeartbeats 1000000 in
theorem jb_X4_clear_0 {G : q_G} {l : Launch} {k0 z0 : Nat} (h : q_H) (v0 : Nat) : q_J G l (RX4, cX4_clear, 1, 0, 0, none, "clear", []) k0 z0 (q_Z G k0 z0 q_u) 0 [(0, .ref v0)] [] h (b_X4_clear_0 h v0) := by
  unfold b_X4_clear_0
  refine j_aload_n (pc := 0) (p := 0) rfl rfl dX4_clear_0 ?_
  refine j_iconst (pc := 1) ki_0 dX4_clear_1 ?_
  refine j_put (pc := 2) FI_X4 (k := 1) (by decide) fl_X4_15 rfl rfl rfl dX4_clear_2 (fun h1 _ => ?_)
  exact j_vret (pc := 5) rfl dX4_clear_5
set_option maxRecDepth 20000 in
set_option maxHeartbeats 1000000 in
theorem c_X4_clear {G : q_G} {l : Launch} : ∀ (h : q_H) (a0 : Nat) (q : q_H × Unit), f_X4_clear h a0 = some q → (∃ fs, h.1 a0 = .inr (3, fs)) ∧ q_CT G l yX4_clear cX4_clear 1 none 0 0 [.ref a0] h q.1 (q_u q.2) := by
  intro h a0 q e
  obtain ⟨e1, e2⟩ := q_chk_ok e
  exact ⟨e1, q_ofJ Y_X4_clear (Nat.le_of_ble_eq_true rfl) (jb_X4_clear_0 h a0) q e2⟩
/-! FarFolders$Row.<init>()V -/
theorem dX4_init_0 : decode cX4_init 0 = .ok (.aload_n 0, 1) := by decide +kernel
theorem dX4_init_1 : decode cX4_init 1 = .ok (.invokespecial 3, 3) := by decide +kernel
theorem dX4_init_4 : decode cX4_init 4 = .ok (.aload_n 0, 1) := by decide +kernel
theorem dX4_init_5 : decode cX4_init 5 = .ok (.bipush 80, 2) := by decide +kernel
theorem dX4_init_7 : decode cX4_init 7 = .ok (.newarray .long, 2) := by decide +kernel
theorem dX4_init_9 : decode cX4_init 9 = .ok (.putfield 9, 3) := by decide +kernel
theorem dX4_init_12 : decode cX4_init 12 = .ok (.return_, 1) := by decide +kernel
def b_X4_init_0 (h : q_H) (v0 : Nat) : Option (q_H × Unit) :=
  Option.bind (q_nL h (80)) (fun q1 => Option.bind (q_p 3 0 q1.1 v0 (.ref q1.2)) (fun h2 => some (h2, ())))
def f_X4_init (h : q_H) (a0 : Nat) : Option (q_H × Unit) := b_X4_init_0 h a0
set_option maxRecDepth 20000 in
set_option maxHeartbeats 1000000 in
theorem jb_X4_init_0 {G : q_G} {l : Launch} {k0 z0 : Nat} (hx : G.2.2.2.2.2.2.2 = true) (h : q_H) (v0 : Nat) : q_J G l (RX4, cX4_init, 1, 1, 60, none, "<init>", []) k0 z0 (q_Z G k0 z0 q_u) 0 [(0, .ref v0)] [] h (b_X4_init_0 h v0) := by
  unfold b_X4_init_0
  refine j_aload_n (pc := 0) (p := 0) rfl rfl dX4_init_0 ?_
  refine j_oinit (pc := 1) ml_X4_3 im_Oinit co_Oinit ⟨Nat.le_of_ble_eq_true rfl, Nat.le_of_ble_eq_true rfl⟩ dX4_init_1 ?_
  refine j_aload_n (pc := 4) (p := 0) rfl rfl dX4_init_4 ?_
  refine j_bipush (pc := 5) kb_80 dX4_init_5 ?_
  refine j_newl (pc := 7) hx ac_long dX4_init_7 (fun q1 _ => ?_)
  refine j_putF (pc := 9) FI_X4 (k := 0) (by decide) fl_X4_9 rfl rfl rfl rfl rfl dX4_init_9 (fun h2 _ => ?_)
  exact j_vret (pc := 12) rfl dX4_init_12
set_option maxRecDepth 20000 in
set_option maxHeartbeats 1000000 in
theorem c_X4_init {G : q_G} {l : Launch} (hx : G.2.2.2.2.2.2.2 = true) : ∀ (h : q_H) (a0 : Nat) (q : q_H × Unit), f_X4_init h a0 = some q → q_CT G l yX4_init cX4_init 1 none 1 60 [.ref a0] h q.1 (q_u q.2) := by
  intro h a0 q e
  exact q_ofJ Y_X4_init (Nat.le_of_ble_eq_true rfl) (jb_X4_init_0 hx h a0) q e
/-! FarFolders$Row.tell(J)V -/
theorem dX4_tell_0 : decode cX4_tell 0 = .ok (.aload_n 0, 1) := by decide +kernel
theorem dX4_tell_1 : decode cX4_tell 1 = .ok (.invokevirtual 19, 3) := by decide +kernel
theorem dX4_tell_4 : decode cX4_tell 4 = .ok (.aload_n 0, 1) := by decide +kernel
theorem dX4_tell_5 : decode cX4_tell 5 = .ok (.lload_n 1, 1) := by decide +kernel
theorem dX4_tell_6 : decode cX4_tell 6 = .ok (.invokevirtual 22, 3) := by decide +kernel
theorem dX4_tell_9 : decode cX4_tell 9 = .ok (.return_, 1) := by decide +kernel
def b_X4_tell_0 (h : q_H) (v0 : Nat) (v1 : Int64) : Option (q_H × Unit) :=
  Option.bind (f_X4_clear h v0) (fun q1 => Option.bind (f_X4_add q1.1 v0 v1) (fun q2 => some (q2.1, ())))
def f_X4_tell (h : q_H) (a0 : Nat) (a1 : Int64) : Option (q_H × Unit) := q_chk 3 h a0 (b_X4_tell_0 h a0 a1)
set_option maxRecDepth 20000 in
set_option maxHeartbeats 1000000 in
theorem jb_X4_tell_0 {G : q_G} {l : Launch} {k0 z0 : Nat} (h : q_H) (v0 : Nat) (v1 : Int64) : q_J G l (RX4, cX4_tell, 3, 1, 22, none, "tell", []) k0 z0 (q_Z G k0 z0 q_u) 0 [(0, .ref v0), (1, .long v1)] [] h (b_X4_tell_0 h v0 v1) := by
  unfold b_X4_tell_0
  refine j_aload_n (pc := 0) (p := 0) rfl rfl dX4_tell_0 ?_
  refine j_cVu (pc := 1) Y_X4_clear (ci := 3) (b := v0) rfl rfl ml_X4_19 im_X4_clear se_X4_clear ⟨Nat.le_of_ble_eq_true rfl, Nat.le_of_ble_eq_true rfl⟩ dX4_tell_1 (As := []) (rest := []) rfl rfl (Nat.le_of_ble_eq_true rfl) (fun x hq9 => c_X4_clear _ _ _ hq9) (fun q1 _ => ?_)
  refine j_aload_n (pc := 4) (p := 0) rfl rfl dX4_tell_4 ?_
  refine j_lload_n (pc := 5) (p := 1) rfl rfl dX4_tell_5 ?_
  refine j_cVu (pc := 6) Y_X4_add (ci := 3) (b := v0) rfl rfl ml_X4_22 im_X4_add se_X4_add ⟨Nat.le_of_ble_eq_true rfl, Nat.le_of_ble_eq_true rfl⟩ dX4_tell_6 (As := [.long v1]) (rest := []) rfl rfl (Nat.le_of_ble_eq_true rfl) (fun x hq9 => c_X4_add _ _ _ _ hq9) (fun q2 _ => ?_)
  exact j_vret (pc := 9) rfl dX4_tell_9
set_option maxRecDepth 20000 in
set_option maxHeartbeats 1000000 in
theorem c_X4_tell {G : q_G} {l : Launch} : ∀ (h : q_H) (a0 : Nat) (a1 : Int64) (q : q_H × Unit), f_X4_tell h a0 a1 = some q → (∃ fs, h.1 a0 = .inr (3, fs)) ∧ q_CT G l yX4_tell cX4_tell 3 none 1 22 [.ref a0, .long a1] h q.1 (q_u q.2) := by
  intro h a0 a1 q e
  obtain ⟨e1, e2⟩ := q_chk_ok e
  exact ⟨e1, q_ofJ Y_X4_tell (Nat.le_of_ble_eq_true rfl) (jb_X4_tell_0 h a0 a1) q e2⟩
/-! FarFolders$Series.append(J)V -/
theorem dX5_append_0 : decode cX5_append 0 = .ok (.aload_n 0, 1) := by decide +kernel
theorem dX5_append_1 : decode cX5_append 1 = .ok (.getfield 21, 3) := by decide +kernel
theorem dX5_append_4 : decode cX5_append 4 = .ok (.aload_n 0, 1) := by decide +kernel
theorem dX5_append_5 : decode cX5_append 5 = .ok (.getfield 15, 3) := by decide +kernel
theorem dX5_append_8 : decode cX5_append 8 = .ok (.arraylength, 1) := by decide +kernel
theorem dX5_append_9 : decode cX5_append 9 = .ok (.if_icmp .ge 23, 3) := by decide +kernel
theorem dX5_append_12 : decode cX5_append 12 = .ok (.aload_n 0, 1) := by decide +kernel
theorem dX5_append_13 : decode cX5_append 13 = .ok (.getfield 15, 3) := by decide +kernel
theorem dX5_append_16 : decode cX5_append 16 = .ok (.aload_n 0, 1) := by decide +kernel
theorem dX5_append_17 : decode cX5_append 17 = .ok (.getfield 21, 3) := by decide +kernel
theorem dX5_append_20 : decode cX5_append 20 = .ok (.lload_n 1, 1) := by decide +kernel
theorem dX5_append_21 : decode cX5_append 21 = .ok (.lastore, 1) := by decide +kernel
theorem dX5_append_22 : decode cX5_append 22 = .ok (.aload_n 0, 1) := by decide +kernel
theorem dX5_append_23 : decode cX5_append 23 = .ok (.dup, 1) := by decide +kernel
theorem dX5_append_24 : decode cX5_append 24 = .ok (.getfield 21, 3) := by decide +kernel
theorem dX5_append_27 : decode cX5_append 27 = .ok (.iconst 1, 1) := by decide +kernel
theorem dX5_append_28 : decode cX5_append 28 = .ok (.iadd, 1) := by decide +kernel
theorem dX5_append_29 : decode cX5_append 29 = .ok (.putfield 21, 3) := by decide +kernel
theorem dX5_append_32 : decode cX5_append 32 = .ok (.return_, 1) := by decide +kernel
def b_X5_append_0 (h : q_H) (v0 : Nat) (v1 : Int64) : Option (q_H × Unit) :=
  Option.bind (q_gI 4 1 h v0) (fun x1 => Option.bind (q_gR 4 0 h v0) (fun x2 => Option.bind (q_len h x2) (fun x3 => if x3 ≤ x1 then some (h, ()) else Option.bind (q_gR 4 0 h v0) (fun x4 => Option.bind (q_gI 4 1 h v0) (fun x5 => Option.bind (q_sL h x4 x5 v1) (fun h6 => Option.bind (q_gI 4 1 h6 v0) (fun x7 => Option.bind (q_p 4 1 h6 v0 (.int (x7 + (1)))) (fun h8 => some (h8, ())))))))))
def f_X5_append (h : q_H) (a0 : Nat) (a1 : Int64) : Option (q_H × Unit) := q_chk 4 h a0 (b_X5_append_0 h a0 a1)
set_option maxRecDepth 20000 in
set_option maxHeartbeats 1000000 in
theorem jb_X5_append_0 {G : q_G} {l : Launch} {k0 z0 : Nat} (h : q_H) (v0 : Nat) (v1 : Int64) : q_J G l (RX5, cX5_append, 3, 0, 0, none, "append", []) k0 z0 (q_Z G k0 z0 q_u) 0 [(0, .ref v0), (1, .long v1)] [] h (b_X5_append_0 h v0 v1) := by
  unfold b_X5_append_0
  refine j_aload_n (pc := 0) (p := 0) rfl rfl dX5_append_0 ?_
  refine j_getI (pc := 1) FI_X5 (k := 1) (by decide) fl_X5_21 dX5_append_1 (fun x1 _ => ?_)
  refine j_aload_n (pc := 4) (p := 0) rfl rfl dX5_append_4 ?_
  refine j_getR (pc := 5) FI_X5 (k := 0) (by decide) fl_X5_15 dX5_append_5 (fun x2 _ => ?_)
  refine j_alen (pc := 8) dX5_append_8 (fun x3 _ => ?_)
  refine j_ic_ge (pc := 9) (tgt := 32) dX5_append_9 (by decide) (fun _ => ?_) (fun _ => ?_)
  · exact j_vret (pc := 32) rfl dX5_append_32
  refine j_aload_n (pc := 12) (p := 0) rfl rfl dX5_append_12 ?_
  refine j_getR (pc := 13) FI_X5 (k := 0) (by decide) fl_X5_15 dX5_append_13 (fun x4 _ => ?_)
  refine j_aload_n (pc := 16) (p := 0) rfl rfl dX5_append_16 ?_
  refine j_getI (pc := 17) FI_X5 (k := 1) (by decide) fl_X5_21 dX5_append_17 (fun x5 _ => ?_)
  refine j_lload_n (pc := 20) (p := 1) rfl rfl dX5_append_20 ?_
  refine j_last (pc := 21) dX5_append_21 (fun h6 _ => ?_)
  refine j_aload_n (pc := 22) (p := 0) rfl rfl dX5_append_22 ?_
  refine j_dup (pc := 23) rfl dX5_append_23 ?_
  refine j_getI (pc := 24) FI_X5 (k := 1) (by decide) fl_X5_21 dX5_append_24 (fun x7 _ => ?_)
  refine j_iconst (pc := 27) ki_1 dX5_append_27 ?_
  refine j_iadd (pc := 28) dX5_append_28 ?_
  refine j_put (pc := 29) FI_X5 (k := 1) (by decide) fl_X5_21 rfl rfl rfl dX5_append_29 (fun h8 _ => ?_)
  exact j_vret (pc := 32) rfl dX5_append_32
set_option maxRecDepth 20000 in
set_option maxHeartbeats 1000000 in
theorem c_X5_append {G : q_G} {l : Launch} : ∀ (h : q_H) (a0 : Nat) (a1 : Int64) (q : q_H × Unit), f_X5_append h a0 a1 = some q → (∃ fs, h.1 a0 = .inr (4, fs)) ∧ q_CT G l yX5_append cX5_append 3 none 0 0 [.ref a0, .long a1] h q.1 (q_u q.2) := by
  intro h a0 a1 q e
  obtain ⟨e1, e2⟩ := q_chk_ok e
  exact ⟨e1, q_ofJ Y_X5_append (Nat.le_of_ble_eq_true rfl) (jb_X5_append_0 h a0 a1) q e2⟩
/-! FarFolders$Series.clear()V -/
theorem dX5_clear_0 : decode cX5_clear 0 = .ok (.aload_n 0, 1) := by decide +kernel
theorem dX5_clear_1 : decode cX5_clear 1 = .ok (.iconst 0, 1) := by decide +kernel
theorem dX5_clear_2 : decode cX5_clear 2 = .ok (.putfield 21, 3) := by decide +kernel
theorem dX5_clear_5 : decode cX5_clear 5 = .ok (.return_, 1) := by decide +kernel
def b_X5_clear_0 (h : q_H) (v0 : Nat) : Option (q_H × Unit) :=
  Option.bind (q_p 4 1 h v0 (.int (0))) (fun h1 => some (h1, ()))
def f_X5_clear (h : q_H) (a0 : Nat) : Option (q_H × Unit) := q_chk 4 h a0 (b_X5_clear_0 h a0)
set_option maxRecDepth 20000 in
set_option maxHeartbeats 1000000 in
theorem jb_X5_clear_0 {G : q_G} {l : Launch} {k0 z0 : Nat} (h : q_H) (v0 : Nat) : q_J G l (RX5, cX5_clear, 1, 0, 0, none, "clear", []) k0 z0 (q_Z G k0 z0 q_u) 0 [(0, .ref v0)] [] h (b_X5_clear_0 h v0) := by
  unfold b_X5_clear_0
  refine j_aload_n (pc := 0) (p := 0) rfl rfl dX5_clear_0 ?_
  refine j_iconst (pc := 1) ki_0 dX5_clear_1 ?_
  refine j_put (pc := 2) FI_X5 (k := 1) (by decide) fl_X5_21 rfl rfl rfl dX5_clear_2 (fun h1 _ => ?_)
  exact j_vret (pc := 5) rfl dX5_clear_5
set_option maxRecDepth 20000 in
set_option maxHeartbeats 1000000 in
theorem c_X5_clear {G : q_G} {l : Launch} : ∀ (h : q_H) (a0 : Nat) (q : q_H × Unit), f_X5_clear h a0 = some q → (∃ fs, h.1 a0 = .inr (4, fs)) ∧ q_CT G l yX5_clear cX5_clear 1 none 0 0 [.ref a0] h q.1 (q_u q.2) := by
  intro h a0 q e
  obtain ⟨e1, e2⟩ := q_chk_ok e
  exact ⟨e1, q_ofJ Y_X5_clear (Nat.le_of_ble_eq_true rfl) (jb_X5_clear_0 h a0) q e2⟩
/-! FarFolders$Series.countMoves()I -/
theorem dX5_countMoves_0 : decode cX5_countMoves 0 = .ok (.aload_n 0, 1) := by decide +kernel
theorem dX5_countMoves_1 : decode cX5_countMoves 1 = .ok (.ldc2_w 44, 3) := by decide +kernel
theorem dX5_countMoves_4 : decode cX5_countMoves 4 = .ok (.aload_n 0, 1) := by decide +kernel
theorem dX5_countMoves_5 : decode cX5_countMoves 5 = .ok (.getfield 21, 3) := by decide +kernel
theorem dX5_countMoves_8 : decode cX5_countMoves 8 = .ok (.invokevirtual 46, 3) := by decide +kernel
theorem dX5_countMoves_11 : decode cX5_countMoves 11 = .ok (.ireturn, 1) := by decide +kernel
def b_X5_countMoves_0 (h : q_H) (v0 : Nat) : Option (q_H × Int32) :=
  Option.bind (q_gI 4 1 h v0) (fun x1 => Option.bind (f_X5_countLater h v0 (-1) x1) (fun q2 => some (q2.1, q2.2)))
def f_X5_countMoves (h : q_H) (a0 : Nat) : Option (q_H × Int32) := q_chk 4 h a0 (b_X5_countMoves_0 h a0)
set_option maxRecDepth 20000 in
set_option maxHeartbeats 1000000 in
theorem jb_X5_countMoves_0 {G : q_G} {l : Launch} {k0 z0 : Nat} (h : q_H) (v0 : Nat) : q_J G l (RX5, cX5_countMoves, 1, 3, 67, (some .int), "countMoves", []) k0 z0 (q_Z G k0 z0 q_i) 0 [(0, .ref v0)] [] h (b_X5_countMoves_0 h v0) := by
  unfold b_X5_countMoves_0
  refine j_aload_n (pc := 0) (p := 0) rfl rfl dX5_countMoves_0 ?_
  refine j_ldc2 (pc := 1) cL_X5_44 dX5_countMoves_1 ?_
  refine j_aload_n (pc := 4) (p := 0) rfl rfl dX5_countMoves_4 ?_
  refine j_getI (pc := 5) FI_X5 (k := 1) (by decide) fl_X5_21 dX5_countMoves_5 (fun x1 _ => ?_)
  refine j_cVi (pc := 8) Y_X5_countLater (ci := 4) (b := v0) rfl rfl ml_X5_46 im_X5_countLater se_X5_countLater ⟨Nat.le_of_ble_eq_true rfl, Nat.le_of_ble_eq_true rfl⟩ dX5_countMoves_8 (As := [.long (-1), .int x1]) (rest := []) rfl rfl (Nat.le_of_ble_eq_true rfl) (fun x hq9 => c_X5_countLater _ _ _ _ _ hq9) (fun q2 _ => ?_)
  exact j_iret (pc := 11) rfl dX5_countMoves_11
set_option maxRecDepth 20000 in
set_option maxHeartbeats 1000000 in
theorem c_X5_countMoves {G : q_G} {l : Launch} : ∀ (h : q_H) (a0 : Nat) (q : q_H × Int32), f_X5_countMoves h a0 = some q → (∃ fs, h.1 a0 = .inr (4, fs)) ∧ q_CT G l yX5_countMoves cX5_countMoves 1 (some .int) 3 67 [.ref a0] h q.1 (q_i q.2) := by
  intro h a0 q e
  obtain ⟨e1, e2⟩ := q_chk_ok e
  exact ⟨e1, q_ofJ Y_X5_countMoves (Nat.le_of_ble_eq_true rfl) (jb_X5_countMoves_0 h a0) q e2⟩
/-! FarFolders$Text.addFour(I)Z -/
theorem dX6_addFour_0 : decode cX6_addFour 0 = .ok (.aload_n 0, 1) := by decide +kernel
theorem dX6_addFour_1 : decode cX6_addFour 1 = .ok (.getfield 15, 3) := by decide +kernel
theorem dX6_addFour_4 : decode cX6_addFour 4 = .ok (.ifCond .lt 17, 3) := by decide +kernel
theorem dX6_addFour_7 : decode cX6_addFour 7 = .ok (.aload_n 0, 1) := by decide +kernel
theorem dX6_addFour_8 : decode cX6_addFour 8 = .ok (.getfield 15, 3) := by decide +kernel
theorem dX6_addFour_11 : decode cX6_addFour 11 = .ok (.iconst 4, 1) := by decide +kernel
theorem dX6_addFour_12 : decode cX6_addFour 12 = .ok (.iadd, 1) := by decide +kernel
theorem dX6_addFour_13 : decode cX6_addFour 13 = .ok (.aload_n 0, 1) := by decide +kernel
theorem dX6_addFour_14 : decode cX6_addFour 14 = .ok (.getfield 9, 3) := by decide +kernel
theorem dX6_addFour_17 : decode cX6_addFour 17 = .ok (.arraylength, 1) := by decide +kernel
theorem dX6_addFour_18 : decode cX6_addFour 18 = .ok (.if_icmp .le 5, 3) := by decide +kernel
theorem dX6_addFour_21 : decode cX6_addFour 21 = .ok (.iconst 0, 1) := by decide +kernel
theorem dX6_addFour_22 : decode cX6_addFour 22 = .ok (.ireturn, 1) := by decide +kernel
theorem dX6_addFour_23 : decode cX6_addFour 23 = .ok (.bipush 24, 2) := by decide +kernel
theorem dX6_addFour_25 : decode cX6_addFour 25 = .ok (.istore_n 2, 1) := by decide +kernel
theorem dX6_addFour_26 : decode cX6_addFour 26 = .ok (.iload_n 2, 1) := by decide +kernel
theorem dX6_addFour_27 : decode cX6_addFour 27 = .ok (.ifCond .lt 36, 3) := by decide +kernel
theorem dX6_addFour_30 : decode cX6_addFour 30 = .ok (.aload_n 0, 1) := by decide +kernel
theorem dX6_addFour_31 : decode cX6_addFour 31 = .ok (.getfield 9, 3) := by decide +kernel
theorem dX6_addFour_34 : decode cX6_addFour 34 = .ok (.aload_n 0, 1) := by decide +kernel
theorem dX6_addFour_35 : decode cX6_addFour 35 = .ok (.getfield 15, 3) := by decide +kernel
theorem dX6_addFour_38 : decode cX6_addFour 38 = .ok (.iload_n 1, 1) := by decide +kernel
theorem dX6_addFour_39 : decode cX6_addFour 39 = .ok (.iload_n 2, 1) := by decide +kernel
theorem dX6_addFour_40 : decode cX6_addFour 40 = .ok (.iushr, 1) := by decide +kernel
theorem dX6_addFour_41 : decode cX6_addFour 41 = .ok (.sipush 255, 3) := by decide +kernel
theorem dX6_addFour_44 : decode cX6_addFour 44 = .ok (.iand, 1) := by decide +kernel
theorem dX6_addFour_45 : decode cX6_addFour 45 = .ok (.i2c, 1) := by decide +kernel
theorem dX6_addFour_46 : decode cX6_addFour 46 = .ok (.castore, 1) := by decide +kernel
theorem dX6_addFour_47 : decode cX6_addFour 47 = .ok (.aload_n 0, 1) := by decide +kernel
theorem dX6_addFour_48 : decode cX6_addFour 48 = .ok (.dup, 1) := by decide +kernel
theorem dX6_addFour_49 : decode cX6_addFour 49 = .ok (.getfield 15, 3) := by decide +kernel
theorem dX6_addFour_52 : decode cX6_addFour 52 = .ok (.iconst 1, 1) := by decide +kernel
theorem dX6_addFour_53 : decode cX6_addFour 53 = .ok (.iadd, 1) := by decide +kernel
theorem dX6_addFour_54 : decode cX6_addFour 54 = .ok (.putfield 15, 3) := by decide +kernel
theorem dX6_addFour_57 : decode cX6_addFour 57 = .ok (.iinc 2 (-8), 3) := by decide +kernel
theorem dX6_addFour_60 : decode cX6_addFour 60 = .ok (.goto (-34), 3) := by decide +kernel
theorem dX6_addFour_63 : decode cX6_addFour 63 = .ok (.iconst 1, 1) := by decide +kernel
theorem dX6_addFour_64 : decode cX6_addFour 64 = .ok (.ireturn, 1) := by decide +kernel
def b_X6_addFour_26 (k26 : q_H → Nat → Int32 → Int32 → Option (q_H × Int32)) (h : q_H) (v0 : Nat) (v1 : Int32) (v2 : Int32) : Option (q_H × Int32) :=
  if v2 < 0 then some (h, (1)) else Option.bind (q_gR 5 0 h v0) (fun x1 => Option.bind (q_gI 5 1 h v0) (fun x2 => Option.bind (q_sI 3 (vp_nar .char) h x1 x2 (q_i2c ((q_iushr v1 v2) &&& (255)))) (fun h3 => Option.bind (q_gI 5 1 h3 v0) (fun x4 => Option.bind (q_p 5 1 h3 v0 (.int (x4 + (1)))) (fun h5 => k26 h5 v0 v1 (v2 + (-8)))))))
def l_X6_addFour_26 : Nat → q_H → Nat → Int32 → Int32 → Option (q_H × Int32)
  | 0, _, _, _, _ => none
  | n + 1, h, v0, v1, v2 => b_X6_addFour_26 (l_X6_addFour_26 n) h v0 v1 v2
def b_X6_addFour_0 (h : q_H) (v0 : Nat) (v1 : Int32) : Option (q_H × Int32) :=
  Option.bind (q_gI 5 1 h v0) (fun x6 => if x6 < 0 then some (h, (0)) else Option.bind (q_gI 5 1 h v0) (fun x7 => Option.bind (q_gR 5 0 h v0) (fun x8 => Option.bind (q_len h x8) (fun x9 => if (x7 + (4)) ≤ x9 then l_X6_addFour_26 q_FU h v0 v1 (24) else some (h, (0))))))
def f_X6_addFour (h : q_H) (a0 : Nat) (a1 : Int32) : Option (q_H × Int32) := q_chk 5 h a0 (b_X6_addFour_0 h a0 a1)
set_option maxRecDepth 20000 in
set_option maxHeartbeats 1000000 in
theorem jb_X6_addFour_26 {G : q_G} {l : Launch} {k0 z0 : Nat} (k26 : q_H → Nat → Int32 → Int32 → Option (q_H × Int32)) (hk26 : ∀ (h : q_H) (v0 : Nat) (v1 : Int32) (v2 : Int32), q_J G l (RX6, cX6_addFour, 3, 0, 0, (some .boolean), "addFour", []) k0 z0 (q_Z G k0 z0 q_i) 26 [(0, .ref v0), (1, .int v1), (2, .int v2)] [] h (k26 h v0 v1 v2)) (h : q_H) (v0 : Nat) (v1 : Int32) (v2 : Int32) : q_J G l (RX6, cX6_addFour, 3, 0, 0, (some .boolean), "addFour", []) k0 z0 (q_Z G k0 z0 q_i) 26 [(0, .ref v0), (1, .int v1), (2, .int v2)] [] h (b_X6_addFour_26 k26 h v0 v1 v2) := by
  unfold b_X6_addFour_26
  refine j_iload_n (pc := 26) (p := 2) rfl rfl dX6_addFour_26 ?_
  refine j_if_lt (pc := 27) (tgt := 63) dX6_addFour_27 (by decide) (fun _ => ?_) (fun _ => ?_)
  · refine j_iconst (pc := 63) ki_1 dX6_addFour_63 ?_
    exact j_zret (pc := 64) rfl rfl dX6_addFour_64
  refine j_aload_n (pc := 30) (p := 0) rfl rfl dX6_addFour_30 ?_
  refine j_getR (pc := 31) FI_X6 (k := 0) (by decide) fl_X6_9 dX6_addFour_31 (fun x1 _ => ?_)
  refine j_aload_n (pc := 34) (p := 0) rfl rfl dX6_addFour_34 ?_
  refine j_getI (pc := 35) FI_X6 (k := 1) (by decide) fl_X6_15 dX6_addFour_35 (fun x2 _ => ?_)
  refine j_iload_n (pc := 38) (p := 1) rfl rfl dX6_addFour_38 ?_
  refine j_iload_n (pc := 39) (p := 2) rfl rfl dX6_addFour_39 ?_
  refine j_iushr (pc := 40) dX6_addFour_40 ?_
  refine j_sipush (pc := 41) ks_255 dX6_addFour_41 ?_
  refine j_iand (pc := 44) dX6_addFour_44 ?_
  refine j_i2c (pc := 45) dX6_addFour_45 ?_
  refine j_cast (pc := 46) dX6_addFour_46 (fun h3 _ => ?_)
  refine j_aload_n (pc := 47) (p := 0) rfl rfl dX6_addFour_47 ?_
  refine j_dup (pc := 48) rfl dX6_addFour_48 ?_
  refine j_getI (pc := 49) FI_X6 (k := 1) (by decide) fl_X6_15 dX6_addFour_49 (fun x4 _ => ?_)
  refine j_iconst (pc := 52) ki_1 dX6_addFour_52 ?_
  refine j_iadd (pc := 53) dX6_addFour_53 ?_
  refine j_put (pc := 54) FI_X6 (k := 1) (by decide) fl_X6_15 rfl rfl rfl dX6_addFour_54 (fun h5 _ => ?_)
  refine j_inc (pc := 57) (p := 2) (lv' := [(2, .int (v2 + (-8))), (0, .ref v0), (1, .int v1)]) rfl ki_m8 (by decide) rfl dX6_addFour_57 ?_
  refine j_goto (pc := 60) (tgt := 26) dX6_addFour_60 (by decide) ?_
  refine j_sub [1, 2, 0] (lv' := [(0, .ref v0), (1, .int v1), (2, .int (v2 + (-8)))]) rfl ?_
  exact hk26 _ _ _ _
set_option maxRecDepth 20000 in
set_option maxHeartbeats 1000000 in
theorem jl_X6_addFour_26 {G : q_G} {l : Launch} {k0 z0 : Nat} (n : Nat) : ∀ (h : q_H) (v0 : Nat) (v1 : Int32) (v2 : Int32), q_J G l (RX6, cX6_addFour, 3, 0, 0, (some .boolean), "addFour", []) k0 z0 (q_Z G k0 z0 q_i) 26 [(0, .ref v0), (1, .int v1), (2, .int v2)] [] h (l_X6_addFour_26 n h v0 v1 v2) := by
  induction n with
  | zero => intro h v0 v1 v2; exact j_none
  | succ n ih => intro h v0 v1 v2; exact jb_X6_addFour_26 (l_X6_addFour_26 n) ih h v0 v1 v2
set_option maxRecDepth 20000 in
set_option maxHeartbeats 1000000 in
theorem jb_X6_addFour_0 {G : q_G} {l : Launch} {k0 z0 : Nat} (h : q_H) (v0 : Nat) (v1 : Int32) : q_J G l (RX6, cX6_addFour, 3, 0, 0, (some .boolean), "addFour", []) k0 z0 (q_Z G k0 z0 q_i) 0 [(0, .ref v0), (1, .int v1)] [] h (b_X6_addFour_0 h v0 v1) := by
  unfold b_X6_addFour_0
  refine j_aload_n (pc := 0) (p := 0) rfl rfl dX6_addFour_0 ?_
  refine j_getI (pc := 1) FI_X6 (k := 1) (by decide) fl_X6_15 dX6_addFour_1 (fun x6 _ => ?_)
  refine j_if_lt (pc := 4) (tgt := 21) dX6_addFour_4 (by decide) (fun _ => ?_) (fun _ => ?_)
  · refine j_iconst (pc := 21) ki_0 dX6_addFour_21 ?_
    exact j_zret (pc := 22) rfl rfl dX6_addFour_22
  refine j_aload_n (pc := 7) (p := 0) rfl rfl dX6_addFour_7 ?_
  refine j_getI (pc := 8) FI_X6 (k := 1) (by decide) fl_X6_15 dX6_addFour_8 (fun x7 _ => ?_)
  refine j_iconst (pc := 11) ki_4 dX6_addFour_11 ?_
  refine j_iadd (pc := 12) dX6_addFour_12 ?_
  refine j_aload_n (pc := 13) (p := 0) rfl rfl dX6_addFour_13 ?_
  refine j_getR (pc := 14) FI_X6 (k := 0) (by decide) fl_X6_9 dX6_addFour_14 (fun x8 _ => ?_)
  refine j_alen (pc := 17) dX6_addFour_17 (fun x9 _ => ?_)
  refine j_ic_le (pc := 18) (tgt := 23) dX6_addFour_18 (by decide) (fun _ => ?_) (fun _ => ?_)
  · refine j_bipush (pc := 23) kb_24 dX6_addFour_23 ?_
    refine j_istore_n (pc := 25) (lv' := [(2, .int (24)), (0, .ref v0), (1, .int v1)]) rfl (by decide) rfl dX6_addFour_25 ?_
    refine j_sub [1, 2, 0] (lv' := [(0, .ref v0), (1, .int v1), (2, .int (24))]) rfl ?_
    exact jl_X6_addFour_26 q_FU _ _ _ _
  refine j_iconst (pc := 21) ki_0 dX6_addFour_21 ?_
  exact j_zret (pc := 22) rfl rfl dX6_addFour_22
set_option maxRecDepth 20000 in
set_option maxHeartbeats 1000000 in
theorem c_X6_addFour {G : q_G} {l : Launch} : ∀ (h : q_H) (a0 : Nat) (a1 : Int32) (q : q_H × Int32), f_X6_addFour h a0 a1 = some q → (∃ fs, h.1 a0 = .inr (5, fs)) ∧ q_CT G l yX6_addFour cX6_addFour 3 (some .boolean) 0 0 [.ref a0, .int a1] h q.1 (q_i q.2) := by
  intro h a0 a1 q e
  obtain ⟨e1, e2⟩ := q_chk_ok e
  exact ⟨e1, q_ofJ Y_X6_addFour (Nat.le_of_ble_eq_true rfl) (jb_X6_addFour_0 h a0 a1) q e2⟩
/-! FarFolders$Text.at(I)I -/
theorem dX6_at_0 : decode cX6_at 0 = .ok (.iload_n 1, 1) := by decide +kernel
theorem dX6_at_1 : decode cX6_at 1 = .ok (.ifCond .lt 29, 3) := by decide +kernel
theorem dX6_at_4 : decode cX6_at 4 = .ok (.iload_n 1, 1) := by decide +kernel
theorem dX6_at_5 : decode cX6_at 5 = .ok (.aload_n 0, 1) := by decide +kernel
theorem dX6_at_6 : decode cX6_at 6 = .ok (.getfield 15, 3) := by decide +kernel
theorem dX6_at_9 : decode cX6_at 9 = .ok (.if_icmp .ge 21, 3) := by decide +kernel
theorem dX6_at_12 : decode cX6_at 12 = .ok (.iload_n 1, 1) := by decide +kernel
theorem dX6_at_13 : decode cX6_at 13 = .ok (.aload_n 0, 1) := by decide +kernel
theorem dX6_at_14 : decode cX6_at 14 = .ok (.getfield 9, 3) := by decide +kernel
theorem dX6_at_17 : decode cX6_at 17 = .ok (.arraylength, 1) := by decide +kernel
theorem dX6_at_18 : decode cX6_at 18 = .ok (.if_icmp .ge 12, 3) := by decide +kernel
theorem dX6_at_21 : decode cX6_at 21 = .ok (.aload_n 0, 1) := by decide +kernel
theorem dX6_at_22 : decode cX6_at 22 = .ok (.getfield 9, 3) := by decide +kernel
theorem dX6_at_25 : decode cX6_at 25 = .ok (.iload_n 1, 1) := by decide +kernel
theorem dX6_at_26 : decode cX6_at 26 = .ok (.caload, 1) := by decide +kernel
theorem dX6_at_27 : decode cX6_at 27 = .ok (.goto 4, 3) := by decide +kernel
theorem dX6_at_30 : decode cX6_at 30 = .ok (.iconst (-1), 1) := by decide +kernel
theorem dX6_at_31 : decode cX6_at 31 = .ok (.ireturn, 1) := by decide +kernel
def b_X6_at_0 (h : q_H) (v0 : Nat) (v1 : Int32) : Option (q_H × Int32) :=
  if v1 < 0 then some (h, (-1)) else Option.bind (q_gI 5 1 h v0) (fun x1 => if x1 ≤ v1 then some (h, (-1)) else Option.bind (q_gR 5 0 h v0) (fun x2 => Option.bind (q_len h x2) (fun x3 => if x3 ≤ v1 then some (h, (-1)) else Option.bind (q_gR 5 0 h v0) (fun x4 => Option.bind (q_lI 3 h x4 v1) (fun x5 => some (h, x5))))))
def f_X6_at (h : q_H) (a0 : Nat) (a1 : Int32) : Option (q_H × Int32) := q_chk 5 h a0 (b_X6_at_0 h a0 a1)
set_option maxRecDepth 20000 in
set_option maxHeartbeats 1000000 in
theorem jb_X6_at_0 {G : q_G} {l : Launch} {k0 z0 : Nat} (h : q_H) (v0 : Nat) (v1 : Int32) : q_J G l (RX6, cX6_at, 2, 0, 0, (some .int), "at", []) k0 z0 (q_Z G k0 z0 q_i) 0 [(0, .ref v0), (1, .int v1)] [] h (b_X6_at_0 h v0 v1) := by
  unfold b_X6_at_0
  refine j_iload_n (pc := 0) (p := 1) rfl rfl dX6_at_0 ?_
  refine j_if_lt (pc := 1) (tgt := 30) dX6_at_1 (by decide) (fun _ => ?_) (fun _ => ?_)
  · refine j_iconst (pc := 30) ki_m1 dX6_at_30 ?_
    exact j_iret (pc := 31) rfl dX6_at_31
  refine j_iload_n (pc := 4) (p := 1) rfl rfl dX6_at_4 ?_
  refine j_aload_n (pc := 5) (p := 0) rfl rfl dX6_at_5 ?_
  refine j_getI (pc := 6) FI_X6 (k := 1) (by decide) fl_X6_15 dX6_at_6 (fun x1 _ => ?_)
  refine j_ic_ge (pc := 9) (tgt := 30) dX6_at_9 (by decide) (fun _ => ?_) (fun _ => ?_)
  · refine j_iconst (pc := 30) ki_m1 dX6_at_30 ?_
    exact j_iret (pc := 31) rfl dX6_at_31
  refine j_iload_n (pc := 12) (p := 1) rfl rfl dX6_at_12 ?_
  refine j_aload_n (pc := 13) (p := 0) rfl rfl dX6_at_13 ?_
  refine j_getR (pc := 14) FI_X6 (k := 0) (by decide) fl_X6_9 dX6_at_14 (fun x2 _ => ?_)
  refine j_alen (pc := 17) dX6_at_17 (fun x3 _ => ?_)
  refine j_ic_ge (pc := 18) (tgt := 30) dX6_at_18 (by decide) (fun _ => ?_) (fun _ => ?_)
  · refine j_iconst (pc := 30) ki_m1 dX6_at_30 ?_
    exact j_iret (pc := 31) rfl dX6_at_31
  refine j_aload_n (pc := 21) (p := 0) rfl rfl dX6_at_21 ?_
  refine j_getR (pc := 22) FI_X6 (k := 0) (by decide) fl_X6_9 dX6_at_22 (fun x4 _ => ?_)
  refine j_iload_n (pc := 25) (p := 1) rfl rfl dX6_at_25 ?_
  refine j_cald (pc := 26) dX6_at_26 (fun x5 _ => ?_)
  refine j_goto (pc := 27) (tgt := 31) dX6_at_27 (by decide) ?_
  exact j_iret (pc := 31) rfl dX6_at_31
set_option maxRecDepth 20000 in
set_option maxHeartbeats 1000000 in
theorem c_X6_at {G : q_G} {l : Launch} : ∀ (h : q_H) (a0 : Nat) (a1 : Int32) (q : q_H × Int32), f_X6_at h a0 a1 = some q → (∃ fs, h.1 a0 = .inr (5, fs)) ∧ q_CT G l yX6_at cX6_at 2 (some .int) 0 0 [.ref a0, .int a1] h q.1 (q_i q.2) := by
  intro h a0 a1 q e
  obtain ⟨e1, e2⟩ := q_chk_ok e
  exact ⟨e1, q_ofJ Y_X6_at (Nat.le_of_ble_eq_true rfl) (jb_X6_at_0 h a0 a1) q e2⟩
/-! FarFolders$Text.clear()V -/
theorem dX6_clear_0 : decode cX6_clear 0 = .ok (.aload_n 0, 1) := by decide +kernel
theorem dX6_clear_1 : decode cX6_clear 1 = .ok (.iconst 0, 1) := by decide +kernel
theorem dX6_clear_2 : decode cX6_clear 2 = .ok (.putfield 15, 3) := by decide +kernel
theorem dX6_clear_5 : decode cX6_clear 5 = .ok (.return_, 1) := by decide +kernel
def b_X6_clear_0 (h : q_H) (v0 : Nat) : Option (q_H × Unit) :=
  Option.bind (q_p 5 1 h v0 (.int (0))) (fun h1 => some (h1, ()))
def f_X6_clear (h : q_H) (a0 : Nat) : Option (q_H × Unit) := q_chk 5 h a0 (b_X6_clear_0 h a0)
set_option maxRecDepth 20000 in
set_option maxHeartbeats 1000000 in
theorem jb_X6_clear_0 {G : q_G} {l : Launch} {k0 z0 : Nat} (h : q_H) (v0 : Nat) : q_J G l (RX6, cX6_clear, 1, 0, 0, none, "clear", []) k0 z0 (q_Z G k0 z0 q_u) 0 [(0, .ref v0)] [] h (b_X6_clear_0 h v0) := by
  unfold b_X6_clear_0
  refine j_aload_n (pc := 0) (p := 0) rfl rfl dX6_clear_0 ?_
  refine j_iconst (pc := 1) ki_0 dX6_clear_1 ?_
  refine j_put (pc := 2) FI_X6 (k := 1) (by decide) fl_X6_15 rfl rfl rfl dX6_clear_2 (fun h1 _ => ?_)
  exact j_vret (pc := 5) rfl dX6_clear_5
set_option maxRecDepth 20000 in
set_option maxHeartbeats 1000000 in
theorem c_X6_clear {G : q_G} {l : Launch} : ∀ (h : q_H) (a0 : Nat) (q : q_H × Unit), f_X6_clear h a0 = some q → (∃ fs, h.1 a0 = .inr (5, fs)) ∧ q_CT G l yX6_clear cX6_clear 1 none 0 0 [.ref a0] h q.1 (q_u q.2) := by
  intro h a0 q e
  obtain ⟨e1, e2⟩ := q_chk_ok e
  exact ⟨e1, q_ofJ Y_X6_clear (Nat.le_of_ble_eq_true rfl) (jb_X6_clear_0 h a0) q e2⟩
/-! FarFolders$Text.<init>()V -/
theorem dX6_init_0 : decode cX6_init 0 = .ok (.aload_n 0, 1) := by decide +kernel
theorem dX6_init_1 : decode cX6_init 1 = .ok (.invokespecial 3, 3) := by decide +kernel
theorem dX6_init_4 : decode cX6_init 4 = .ok (.aload_n 0, 1) := by decide +kernel
theorem dX6_init_5 : decode cX6_init 5 = .ok (.bipush 80, 2) := by decide +kernel
theorem dX6_init_7 : decode cX6_init 7 = .ok (.newarray .char, 2) := by decide +kernel
theorem dX6_init_9 : decode cX6_init 9 = .ok (.putfield 9, 3) := by decide +kernel
theorem dX6_init_12 : decode cX6_init 12 = .ok (.return_, 1) := by decide +kernel
def b_X6_init_0 (h : q_H) (v0 : Nat) : Option (q_H × Unit) :=
  Option.bind (q_nI 3 h (80)) (fun q1 => Option.bind (q_p 5 0 q1.1 v0 (.ref q1.2)) (fun h2 => some (h2, ())))
def f_X6_init (h : q_H) (a0 : Nat) : Option (q_H × Unit) := b_X6_init_0 h a0
set_option maxRecDepth 20000 in
set_option maxHeartbeats 1000000 in
theorem jb_X6_init_0 {G : q_G} {l : Launch} {k0 z0 : Nat} (hx : G.2.2.2.2.2.2.2 = true) (h : q_H) (v0 : Nat) : q_J G l (RX6, cX6_init, 1, 1, 60, none, "<init>", []) k0 z0 (q_Z G k0 z0 q_u) 0 [(0, .ref v0)] [] h (b_X6_init_0 h v0) := by
  unfold b_X6_init_0
  refine j_aload_n (pc := 0) (p := 0) rfl rfl dX6_init_0 ?_
  refine j_oinit (pc := 1) ml_X6_3 im_Oinit co_Oinit ⟨Nat.le_of_ble_eq_true rfl, Nat.le_of_ble_eq_true rfl⟩ dX6_init_1 ?_
  refine j_aload_n (pc := 4) (p := 0) rfl rfl dX6_init_4 ?_
  refine j_bipush (pc := 5) kb_80 dX6_init_5 ?_
  refine j_newc (pc := 7) hx ac_char dX6_init_7 (fun q1 _ => ?_)
  refine j_putF (pc := 9) FI_X6 (k := 0) (by decide) fl_X6_9 rfl rfl rfl rfl rfl dX6_init_9 (fun h2 _ => ?_)
  exact j_vret (pc := 12) rfl dX6_init_12
set_option maxRecDepth 20000 in
set_option maxHeartbeats 1000000 in
theorem c_X6_init {G : q_G} {l : Launch} (hx : G.2.2.2.2.2.2.2 = true) : ∀ (h : q_H) (a0 : Nat) (q : q_H × Unit), f_X6_init h a0 = some q → q_CT G l yX6_init cX6_init 1 none 1 60 [.ref a0] h q.1 (q_u q.2) := by
  intro h a0 q e
  exact q_ofJ Y_X6_init (Nat.le_of_ble_eq_true rfl) (jb_X6_init_0 hx h a0) q e
/-! FarFolders$Text.isDigit(I)Z -/
theorem dX6_isDigit_0 : decode cX6_isDigit 0 = .ok (.aload_n 0, 1) := by decide +kernel
theorem dX6_isDigit_1 : decode cX6_isDigit 1 = .ok (.iload_n 1, 1) := by decide +kernel
theorem dX6_isDigit_2 : decode cX6_isDigit 2 = .ok (.invokevirtual 19, 3) := by decide +kernel
theorem dX6_isDigit_5 : decode cX6_isDigit 5 = .ok (.bipush 48, 2) := by decide +kernel
theorem dX6_isDigit_7 : decode cX6_isDigit 7 = .ok (.if_icmp .lt 17, 3) := by decide +kernel
theorem dX6_isDigit_10 : decode cX6_isDigit 10 = .ok (.aload_n 0, 1) := by decide +kernel
theorem dX6_isDigit_11 : decode cX6_isDigit 11 = .ok (.iload_n 1, 1) := by decide +kernel
theorem dX6_isDigit_12 : decode cX6_isDigit 12 = .ok (.invokevirtual 19, 3) := by decide +kernel
theorem dX6_isDigit_15 : decode cX6_isDigit 15 = .ok (.bipush 57, 2) := by decide +kernel
theorem dX6_isDigit_17 : decode cX6_isDigit 17 = .ok (.if_icmp .gt 7, 3) := by decide +kernel
theorem dX6_isDigit_20 : decode cX6_isDigit 20 = .ok (.iconst 1, 1) := by decide +kernel
theorem dX6_isDigit_21 : decode cX6_isDigit 21 = .ok (.goto 4, 3) := by decide +kernel
theorem dX6_isDigit_24 : decode cX6_isDigit 24 = .ok (.iconst 0, 1) := by decide +kernel
theorem dX6_isDigit_25 : decode cX6_isDigit 25 = .ok (.ireturn, 1) := by decide +kernel
def b_X6_isDigit_0 (h : q_H) (v0 : Nat) (v1 : Int32) : Option (q_H × Int32) :=
  Option.bind (f_X6_at h v0 v1) (fun q1 => if q1.2 < (48) then some (q1.1, (0)) else Option.bind (f_X6_at q1.1 v0 v1) (fun q2 => if (57) < q2.2 then some (q2.1, (0)) else some (q2.1, (1))))
def f_X6_isDigit (h : q_H) (a0 : Nat) (a1 : Int32) : Option (q_H × Int32) := q_chk 5 h a0 (b_X6_isDigit_0 h a0 a1)
set_option maxRecDepth 20000 in
set_option maxHeartbeats 1000000 in
theorem jb_X6_isDigit_0 {G : q_G} {l : Launch} {k0 z0 : Nat} (h : q_H) (v0 : Nat) (v1 : Int32) : q_J G l (RX6, cX6_isDigit, 2, 1, 21, (some .boolean), "isDigit", []) k0 z0 (q_Z G k0 z0 q_i) 0 [(0, .ref v0), (1, .int v1)] [] h (b_X6_isDigit_0 h v0 v1) := by
  unfold b_X6_isDigit_0
  refine j_aload_n (pc := 0) (p := 0) rfl rfl dX6_isDigit_0 ?_
  refine j_iload_n (pc := 1) (p := 1) rfl rfl dX6_isDigit_1 ?_
  refine j_cVi (pc := 2) Y_X6_at (ci := 5) (b := v0) rfl rfl ml_X6_19 im_X6_at se_X6_at ⟨Nat.le_of_ble_eq_true rfl, Nat.le_of_ble_eq_true rfl⟩ dX6_isDigit_2 (As := [.int v1]) (rest := []) rfl rfl (Nat.le_of_ble_eq_true rfl) (fun x hq9 => c_X6_at _ _ _ _ hq9) (fun q1 _ => ?_)
  refine j_bipush (pc := 5) kb_48 dX6_isDigit_5 ?_
  refine j_ic_lt (pc := 7) (tgt := 24) dX6_isDigit_7 (by decide) (fun _ => ?_) (fun _ => ?_)
  · refine j_iconst (pc := 24) ki_0 dX6_isDigit_24 ?_
    exact j_zret (pc := 25) rfl rfl dX6_isDigit_25
  refine j_aload_n (pc := 10) (p := 0) rfl rfl dX6_isDigit_10 ?_
  refine j_iload_n (pc := 11) (p := 1) rfl rfl dX6_isDigit_11 ?_
  refine j_cVi (pc := 12) Y_X6_at (ci := 5) (b := v0) rfl rfl ml_X6_19 im_X6_at se_X6_at ⟨Nat.le_of_ble_eq_true rfl, Nat.le_of_ble_eq_true rfl⟩ dX6_isDigit_12 (As := [.int v1]) (rest := []) rfl rfl (Nat.le_of_ble_eq_true rfl) (fun x hq9 => c_X6_at _ _ _ _ hq9) (fun q2 _ => ?_)
  refine j_bipush (pc := 15) kb_57 dX6_isDigit_15 ?_
  refine j_ic_gt (pc := 17) (tgt := 24) dX6_isDigit_17 (by decide) (fun _ => ?_) (fun _ => ?_)
  · refine j_iconst (pc := 24) ki_0 dX6_isDigit_24 ?_
    exact j_zret (pc := 25) rfl rfl dX6_isDigit_25
  refine j_iconst (pc := 20) ki_1 dX6_isDigit_20 ?_
  refine j_goto (pc := 21) (tgt := 25) dX6_isDigit_21 (by decide) ?_
  exact j_zret (pc := 25) rfl rfl dX6_isDigit_25
set_option maxRecDepth 20000 in
set_option maxHeartbeats 1000000 in
theorem c_X6_isDigit {G : q_G} {l : Launch} : ∀ (h : q_H) (a0 : Nat) (a1 : Int32) (q : q_H × Int32), f_X6_isDigit h a0 a1 = some q → (∃ fs, h.1 a0 = .inr (5, fs)) ∧ q_CT G l yX6_isDigit cX6_isDigit 2 (some .boolean) 1 21 [.ref a0, .int a1] h q.1 (q_i q.2) := by
  intro h a0 a1 q e
  obtain ⟨e1, e2⟩ := q_chk_ok e
  exact ⟨e1, q_ofJ Y_X6_isDigit (Nat.le_of_ble_eq_true rfl) (jb_X6_isDigit_0 h a0 a1) q e2⟩
/-! FarFolders$Text.keepFirst(I)Z -/
theorem dX6_keepFirst_0 : decode cX6_keepFirst 0 = .ok (.iload_n 1, 1) := by decide +kernel
theorem dX6_keepFirst_1 : decode cX6_keepFirst 1 = .ok (.ifCond .lt 11, 3) := by decide +kernel
theorem dX6_keepFirst_4 : decode cX6_keepFirst 4 = .ok (.iload_n 1, 1) := by decide +kernel
theorem dX6_keepFirst_5 : decode cX6_keepFirst 5 = .ok (.aload_n 0, 1) := by decide +kernel
theorem dX6_keepFirst_6 : decode cX6_keepFirst 6 = .ok (.getfield 15, 3) := by decide +kernel
theorem dX6_keepFirst_9 : decode cX6_keepFirst 9 = .ok (.if_icmp .le 5, 3) := by decide +kernel
theorem dX6_keepFirst_12 : decode cX6_keepFirst 12 = .ok (.iconst 0, 1) := by decide +kernel
theorem dX6_keepFirst_13 : decode cX6_keepFirst 13 = .ok (.ireturn, 1) := by decide +kernel
theorem dX6_keepFirst_14 : decode cX6_keepFirst 14 = .ok (.aload_n 0, 1) := by decide +kernel
theorem dX6_keepFirst_15 : decode cX6_keepFirst 15 = .ok (.iload_n 1, 1) := by decide +kernel
theorem dX6_keepFirst_16 : decode cX6_keepFirst 16 = .ok (.putfield 15, 3) := by decide +kernel
theorem dX6_keepFirst_19 : decode cX6_keepFirst 19 = .ok (.iconst 1, 1) := by decide +kernel
theorem dX6_keepFirst_20 : decode cX6_keepFirst 20 = .ok (.ireturn, 1) := by decide +kernel
def b_X6_keepFirst_0 (h : q_H) (v0 : Nat) (v1 : Int32) : Option (q_H × Int32) :=
  if v1 < 0 then some (h, (0)) else Option.bind (q_gI 5 1 h v0) (fun x1 => if v1 ≤ x1 then Option.bind (q_p 5 1 h v0 (.int v1)) (fun h2 => some (h2, (1))) else some (h, (0)))
def f_X6_keepFirst (h : q_H) (a0 : Nat) (a1 : Int32) : Option (q_H × Int32) := q_chk 5 h a0 (b_X6_keepFirst_0 h a0 a1)
set_option maxRecDepth 20000 in
set_option maxHeartbeats 1000000 in
theorem jb_X6_keepFirst_0 {G : q_G} {l : Launch} {k0 z0 : Nat} (h : q_H) (v0 : Nat) (v1 : Int32) : q_J G l (RX6, cX6_keepFirst, 2, 0, 0, (some .boolean), "keepFirst", []) k0 z0 (q_Z G k0 z0 q_i) 0 [(0, .ref v0), (1, .int v1)] [] h (b_X6_keepFirst_0 h v0 v1) := by
  unfold b_X6_keepFirst_0
  refine j_iload_n (pc := 0) (p := 1) rfl rfl dX6_keepFirst_0 ?_
  refine j_if_lt (pc := 1) (tgt := 12) dX6_keepFirst_1 (by decide) (fun _ => ?_) (fun _ => ?_)
  · refine j_iconst (pc := 12) ki_0 dX6_keepFirst_12 ?_
    exact j_zret (pc := 13) rfl rfl dX6_keepFirst_13
  refine j_iload_n (pc := 4) (p := 1) rfl rfl dX6_keepFirst_4 ?_
  refine j_aload_n (pc := 5) (p := 0) rfl rfl dX6_keepFirst_5 ?_
  refine j_getI (pc := 6) FI_X6 (k := 1) (by decide) fl_X6_15 dX6_keepFirst_6 (fun x1 _ => ?_)
  refine j_ic_le (pc := 9) (tgt := 14) dX6_keepFirst_9 (by decide) (fun _ => ?_) (fun _ => ?_)
  · refine j_aload_n (pc := 14) (p := 0) rfl rfl dX6_keepFirst_14 ?_
    refine j_iload_n (pc := 15) (p := 1) rfl rfl dX6_keepFirst_15 ?_
    refine j_put (pc := 16) FI_X6 (k := 1) (by decide) fl_X6_15 rfl rfl rfl dX6_keepFirst_16 (fun h2 _ => ?_)
    refine j_iconst (pc := 19) ki_1 dX6_keepFirst_19 ?_
    exact j_zret (pc := 20) rfl rfl dX6_keepFirst_20
  refine j_iconst (pc := 12) ki_0 dX6_keepFirst_12 ?_
  exact j_zret (pc := 13) rfl rfl dX6_keepFirst_13
set_option maxRecDepth 20000 in
set_option maxHeartbeats 1000000 in
theorem c_X6_keepFirst {G : q_G} {l : Launch} : ∀ (h : q_H) (a0 : Nat) (a1 : Int32) (q : q_H × Int32), f_X6_keepFirst h a0 a1 = some q → (∃ fs, h.1 a0 = .inr (5, fs)) ∧ q_CT G l yX6_keepFirst cX6_keepFirst 2 (some .boolean) 0 0 [.ref a0, .int a1] h q.1 (q_i q.2) := by
  intro h a0 a1 q e
  obtain ⟨e1, e2⟩ := q_chk_ok e
  exact ⟨e1, q_ofJ Y_X6_keepFirst (Nat.le_of_ble_eq_true rfl) (jb_X6_keepFirst_0 h a0 a1) q e2⟩
