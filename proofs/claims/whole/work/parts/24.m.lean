/-! FarFoldersModel.frees(II)I -/
theorem dX10_frees_0 : decode cX10_frees 0 = .ok (.aload_n 0, 1) := by decide +kernel
theorem dX10_frees_1 : decode cX10_frees 1 = .ok (.iconst 0, 1) := by decide +kernel
theorem dX10_frees_2 : decode cX10_frees 2 = .ok (.putfield 1, 3) := by decide +kernel
theorem dX10_frees_5 : decode cX10_frees 5 = .ok (.iload_n 1, 1) := by decide +kernel
theorem dX10_frees_6 : decode cX10_frees 6 = .ok (.invokestatic 101, 3) := by decide +kernel
theorem dX10_frees_9 : decode cX10_frees 9 = .ok (.ifCond .eq 25, 3) := by decide +kernel
theorem dX10_frees_12 : decode cX10_frees 12 = .ok (.iload_n 2, 1) := by decide +kernel
theorem dX10_frees_13 : decode cX10_frees 13 = .ok (.i2l, 1) := by decide +kernel
theorem dX10_frees_14 : decode cX10_frees 14 = .ok (.lconst 0, 1) := by decide +kernel
theorem dX10_frees_15 : decode cX10_frees 15 = .ok (.aload_n 0, 1) := by decide +kernel
theorem dX10_frees_16 : decode cX10_frees 16 = .ok (.getfield 47, 3) := by decide +kernel
theorem dX10_frees_19 : decode cX10_frees 19 = .ok (.sipush 180, 3) := by decide +kernel
theorem dX10_frees_22 : decode cX10_frees 22 = .ok (.iload_n 1, 1) := by decide +kernel
theorem dX10_frees_23 : decode cX10_frees 23 = .ok (.iadd, 1) := by decide +kernel
theorem dX10_frees_24 : decode cX10_frees 24 = .ok (.iaload, 1) := by decide +kernel
theorem dX10_frees_25 : decode cX10_frees 25 = .ok (.iconst 1, 1) := by decide +kernel
theorem dX10_frees_26 : decode cX10_frees 26 = .ok (.isub, 1) := by decide +kernel
theorem dX10_frees_27 : decode cX10_frees 27 = .ok (.i2l, 1) := by decide +kernel
theorem dX10_frees_28 : decode cX10_frees 28 = .ok (.invokestatic 21, 3) := by decide +kernel
theorem dX10_frees_31 : decode cX10_frees 31 = .ok (.ifCond .ne 5, 3) := by decide +kernel
theorem dX10_frees_34 : decode cX10_frees 34 = .ok (.iconst (-1), 1) := by decide +kernel
theorem dX10_frees_35 : decode cX10_frees 35 = .ok (.ireturn, 1) := by decide +kernel
theorem dX10_frees_36 : decode cX10_frees 36 = .ok (.aload_n 0, 1) := by decide +kernel
theorem dX10_frees_37 : decode cX10_frees 37 = .ok (.iconst 0, 1) := by decide +kernel
theorem dX10_frees_38 : decode cX10_frees 38 = .ok (.iload_n 1, 1) := by decide +kernel
theorem dX10_frees_39 : decode cX10_frees 39 = .ok (.invokevirtual 164, 3) := by decide +kernel
theorem dX10_frees_42 : decode cX10_frees 42 = .ok (.aload_n 0, 1) := by decide +kernel
theorem dX10_frees_43 : decode cX10_frees 43 = .ok (.getfield 53, 3) := by decide +kernel
theorem dX10_frees_46 : decode cX10_frees 46 = .ok (.iload_n 2, 1) := by decide +kernel
theorem dX10_frees_47 : decode cX10_frees 47 = .ok (.baload, 1) := by decide +kernel
theorem dX10_frees_48 : decode cX10_frees 48 = .ok (.ifCond .ne 6, 3) := by decide +kernel
theorem dX10_frees_51 : decode cX10_frees 51 = .ok (.bipush (-2), 2) := by decide +kernel
theorem dX10_frees_53 : decode cX10_frees 53 = .ok (.ireturn, 1) := by decide +kernel
theorem dX10_frees_54 : decode cX10_frees 54 = .ok (.iconst 0, 1) := by decide +kernel
theorem dX10_frees_55 : decode cX10_frees 55 = .ok (.istore_n 3, 1) := by decide +kernel
theorem dX10_frees_56 : decode cX10_frees 56 = .ok (.iconst 0, 1) := by decide +kernel
theorem dX10_frees_57 : decode cX10_frees 57 = .ok (.istore 4, 2) := by decide +kernel
theorem dX10_frees_59 : decode cX10_frees 59 = .ok (.iload 4, 2) := by decide +kernel
theorem dX10_frees_61 : decode cX10_frees 61 = .ok (.aload_n 0, 1) := by decide +kernel
theorem dX10_frees_62 : decode cX10_frees 62 = .ok (.getfield 105, 3) := by decide +kernel
theorem dX10_frees_65 : decode cX10_frees 65 = .ok (.if_icmp .ge 43, 3) := by decide +kernel
theorem dX10_frees_68 : decode cX10_frees 68 = .ok (.aload_n 0, 1) := by decide +kernel
theorem dX10_frees_69 : decode cX10_frees 69 = .ok (.iconst 0, 1) := by decide +kernel
theorem dX10_frees_70 : decode cX10_frees 70 = .ok (.iload_n 1, 1) := by decide +kernel
theorem dX10_frees_71 : decode cX10_frees 71 = .ok (.iload 4, 2) := by decide +kernel
theorem dX10_frees_73 : decode cX10_frees 73 = .ok (.invokevirtual 148, 3) := by decide +kernel
theorem dX10_frees_76 : decode cX10_frees 76 = .ok (.iload_n 3, 1) := by decide +kernel
theorem dX10_frees_77 : decode cX10_frees 77 = .ok (.iload 4, 2) := by decide +kernel
theorem dX10_frees_79 : decode cX10_frees 79 = .ok (.iload_n 2, 1) := by decide +kernel
theorem dX10_frees_80 : decode cX10_frees 80 = .ok (.if_icmp .eq 19, 3) := by decide +kernel
theorem dX10_frees_83 : decode cX10_frees 83 = .ok (.aload_n 0, 1) := by decide +kernel
theorem dX10_frees_84 : decode cX10_frees 84 = .ok (.getfield 53, 3) := by decide +kernel
theorem dX10_frees_87 : decode cX10_frees 87 = .ok (.iload_n 2, 1) := by decide +kernel
theorem dX10_frees_88 : decode cX10_frees 88 = .ok (.baload, 1) := by decide +kernel
theorem dX10_frees_89 : decode cX10_frees 89 = .ok (.ifCond .ne 10, 3) := by decide +kernel
theorem dX10_frees_92 : decode cX10_frees 92 = .ok (.iconst 1, 1) := by decide +kernel
theorem dX10_frees_93 : decode cX10_frees 93 = .ok (.iload 4, 2) := by decide +kernel
theorem dX10_frees_95 : decode cX10_frees 95 = .ok (.ishl, 1) := by decide +kernel
theorem dX10_frees_96 : decode cX10_frees 96 = .ok (.goto 4, 3) := by decide +kernel
theorem dX10_frees_99 : decode cX10_frees 99 = .ok (.iconst 0, 1) := by decide +kernel
theorem dX10_frees_100 : decode cX10_frees 100 = .ok (.ior, 1) := by decide +kernel
theorem dX10_frees_101 : decode cX10_frees 101 = .ok (.istore_n 3, 1) := by decide +kernel
theorem dX10_frees_102 : decode cX10_frees 102 = .ok (.iinc 4 1, 3) := by decide +kernel
theorem dX10_frees_105 : decode cX10_frees 105 = .ok (.goto (-46), 3) := by decide +kernel
theorem dX10_frees_108 : decode cX10_frees 108 = .ok (.aload_n 0, 1) := by decide +kernel
theorem dX10_frees_109 : decode cX10_frees 109 = .ok (.iconst 0, 1) := by decide +kernel
theorem dX10_frees_110 : decode cX10_frees 110 = .ok (.putfield 11, 3) := by decide +kernel
theorem dX10_frees_113 : decode cX10_frees 113 = .ok (.aload_n 0, 1) := by decide +kernel
theorem dX10_frees_114 : decode cX10_frees 114 = .ok (.iload_n 3, 1) := by decide +kernel
theorem dX10_frees_115 : decode cX10_frees 115 = .ok (.invokestatic 155, 3) := by decide +kernel
theorem dX10_frees_118 : decode cX10_frees 118 = .ok (.i2l, 1) := by decide +kernel
theorem dX10_frees_119 : decode cX10_frees 119 = .ok (.invokevirtual 202, 3) := by decide +kernel
theorem dX10_frees_122 : decode cX10_frees 122 = .ok (.iload_n 3, 1) := by decide +kernel
theorem dX10_frees_123 : decode cX10_frees 123 = .ok (.ireturn, 1) := by decide +kernel
def b_X10_frees_100 (k59 : q_H → Nat → Int32 → Int32 → Int32 → Int32 → Option (q_H × Int32)) (h : q_H) (v0 : Nat) (v1 : Int32) (v2 : Int32) (v4 : Int32) (s0 : Int32) (s1 : Int32) : Option (q_H × Int32) :=
  k59 h v0 v1 v2 (s0 ||| s1) (v4 + 1)
def b_X10_frees_99 (k59 : q_H → Nat → Int32 → Int32 → Int32 → Int32 → Option (q_H × Int32)) (h : q_H) (v0 : Nat) (v1 : Int32) (v2 : Int32) (v4 : Int32) (s0 : Int32) : Option (q_H × Int32) :=
  b_X10_frees_100 k59 h v0 v1 v2 v4 s0 (0)
def b_X10_frees_59 (k59 : q_H → Nat → Int32 → Int32 → Int32 → Int32 → Option (q_H × Int32)) (h : q_H) (v0 : Nat) (v1 : Int32) (v2 : Int32) (v3 : Int32) (v4 : Int32) : Option (q_H × Int32) :=
  Option.bind (q_gI 9 9 h v0) (fun x1 => if x1 ≤ v4 then Option.bind (q_p 9 1 h v0 (.int (0))) (fun h2 => Option.bind (f_X10_bitsOf h2 v3) (fun q3 => Option.bind (f_X10_enters q3.1 v0 (Int32.toInt64 q3.2)) (fun q4 => some (q4.1, v3)))) else Option.bind (f_X10_grows h v0 (0) v1 v4) (fun q5 => if v4 = v2 then b_X10_frees_99 k59 q5.1 v0 v1 v2 v4 v3 else Option.bind (q_gR 9 10 q5.1 v0) (fun x6 => Option.bind (q_lI 2 q5.1 x6 v2) (fun x7 => if x7 = 0 then b_X10_frees_100 k59 q5.1 v0 v1 v2 v4 v3 ((1) <<< (v4 &&& 31)) else b_X10_frees_99 k59 q5.1 v0 v1 v2 v4 v3))))
def l_X10_frees_59 : Nat → q_H → Nat → Int32 → Int32 → Int32 → Int32 → Option (q_H × Int32)
  | 0, _, _, _, _, _, _ => none
  | n + 1, h, v0, v1, v2, v3, v4 => b_X10_frees_59 (l_X10_frees_59 n) h v0 v1 v2 v3 v4
def b_X10_frees_0 (h : q_H) (v0 : Nat) (v1 : Int32) (v2 : Int32) : Option (q_H × Int32) :=
  Option.bind (q_p 9 0 h v0 (.int (0))) (fun h8 => Option.bind (f_X10_isCopy h8 v1) (fun q9 => if q9.2 = 0 then some (q9.1, (-1)) else Option.bind (q_gR 9 7 q9.1 v0) (fun x10 => Option.bind (q_lI 0 q9.1 x10 ((180) + v1)) (fun x11 => Option.bind (f_X10_in q9.1 (Int32.toInt64 v2) (0) (Int32.toInt64 (x11 - (1)))) (fun q12 => if q12.2 = 0 then some (q12.1, (-1)) else Option.bind (f_X10_lays q12.1 v0 (0) v1) (fun q13 => Option.bind (q_gR 9 10 q13.1 v0) (fun x14 => Option.bind (q_lI 2 q13.1 x14 v2) (fun x15 => if x15 = 0 then some (q13.1, (-2)) else l_X10_frees_59 q_FU q13.1 v0 v1 v2 (0) (0)))))))))
def f_X10_frees (h : q_H) (a0 : Nat) (a1 : Int32) (a2 : Int32) : Option (q_H × Int32) := q_chk 9 h a0 (b_X10_frees_0 h a0 a1 a2)
set_option maxRecDepth 20000 in
set_option maxHeartbeats 1000000 in
theorem jb_X10_frees_100 {G : q_G} {l : Launch} {k0 z0 : Nat} (k59 : q_H → Nat → Int32 → Int32 → Int32 → Int32 → Option (q_H × Int32)) (hk59 : ∀ (h : q_H) (v0 : Nat) (v1 : Int32) (v2 : Int32) (v3 : Int32) (v4 : Int32), q_J G l (RX10, cX10_frees, 5, 5, 118, (some .int), "frees", []) k0 z0 (q_Z G k0 z0 q_i) 59 [(0, .ref v0), (1, .int v1), (2, .int v2), (3, .int v3), (4, .int v4)] [] h (k59 h v0 v1 v2 v3 v4)) (h : q_H) (v0 : Nat) (v1 : Int32) (v2 : Int32) (v4 : Int32) (s0 : Int32) (s1 : Int32) : q_J G l (RX10, cX10_frees, 5, 5, 118, (some .int), "frees", []) k0 z0 (q_Z G k0 z0 q_i) 100 [(0, .ref v0), (1, .int v1), (2, .int v2), (4, .int v4)] [.int s1, .int s0] h (b_X10_frees_100 k59 h v0 v1 v2 v4 s0 s1) := by
  unfold b_X10_frees_100
  refine j_ior (pc := 100) dX10_frees_100 ?_
  refine j_istore_n (pc := 101) (lv' := [(3, .int (s0 ||| s1)), (0, .ref v0), (1, .int v1), (2, .int v2), (4, .int v4)]) rfl (by decide) rfl dX10_frees_101 ?_
  refine j_inc (pc := 102) (p := 4) (lv' := [(4, .int (v4 + 1)), (3, .int (s0 ||| s1)), (0, .ref v0), (1, .int v1), (2, .int v2)]) rfl ki_1 (by decide) rfl dX10_frees_102 ?_
  refine j_goto (pc := 105) (tgt := 59) dX10_frees_105 (by decide) ?_
  refine j_sub [2, 3, 4, 1, 0] (lv' := [(0, .ref v0), (1, .int v1), (2, .int v2), (3, .int (s0 ||| s1)), (4, .int (v4 + 1))]) rfl ?_
  exact hk59 _ _ _ _ _ _
set_option maxRecDepth 20000 in
set_option maxHeartbeats 1000000 in
theorem jb_X10_frees_99 {G : q_G} {l : Launch} {k0 z0 : Nat} (k59 : q_H → Nat → Int32 → Int32 → Int32 → Int32 → Option (q_H × Int32)) (hk59 : ∀ (h : q_H) (v0 : Nat) (v1 : Int32) (v2 : Int32) (v3 : Int32) (v4 : Int32), q_J G l (RX10, cX10_frees, 5, 5, 118, (some .int), "frees", []) k0 z0 (q_Z G k0 z0 q_i) 59 [(0, .ref v0), (1, .int v1), (2, .int v2), (3, .int v3), (4, .int v4)] [] h (k59 h v0 v1 v2 v3 v4)) (h : q_H) (v0 : Nat) (v1 : Int32) (v2 : Int32) (v4 : Int32) (s0 : Int32) : q_J G l (RX10, cX10_frees, 5, 5, 118, (some .int), "frees", []) k0 z0 (q_Z G k0 z0 q_i) 99 [(0, .ref v0), (1, .int v1), (2, .int v2), (4, .int v4)] [.int s0] h (b_X10_frees_99 k59 h v0 v1 v2 v4 s0) := by
  unfold b_X10_frees_99
  refine j_iconst (pc := 99) ki_0 dX10_frees_99 ?_
  exact jb_X10_frees_100 k59 hk59 _ _ _ _ _ _ _
set_option maxRecDepth 20000 in
set_option maxHeartbeats 1000000 in
theorem jb_X10_frees_59 {G : q_G} {l : Launch} {k0 z0 : Nat} (k59 : q_H → Nat → Int32 → Int32 → Int32 → Int32 → Option (q_H × Int32)) (hk59 : ∀ (h : q_H) (v0 : Nat) (v1 : Int32) (v2 : Int32) (v3 : Int32) (v4 : Int32), q_J G l (RX10, cX10_frees, 5, 5, 118, (some .int), "frees", []) k0 z0 (q_Z G k0 z0 q_i) 59 [(0, .ref v0), (1, .int v1), (2, .int v2), (3, .int v3), (4, .int v4)] [] h (k59 h v0 v1 v2 v3 v4)) (h : q_H) (v0 : Nat) (v1 : Int32) (v2 : Int32) (v3 : Int32) (v4 : Int32) : q_J G l (RX10, cX10_frees, 5, 5, 118, (some .int), "frees", []) k0 z0 (q_Z G k0 z0 q_i) 59 [(0, .ref v0), (1, .int v1), (2, .int v2), (3, .int v3), (4, .int v4)] [] h (b_X10_frees_59 k59 h v0 v1 v2 v3 v4) := by
  unfold b_X10_frees_59
  refine j_iload (pc := 59) (p := 4) rfl dX10_frees_59 ?_
  refine j_aload_n (pc := 61) (p := 0) rfl rfl dX10_frees_61 ?_
  refine j_getI (pc := 62) FI_X10 (k := 9) (by decide) fl_X10_105 dX10_frees_62 (fun x1 _ => ?_)
  refine j_ic_ge (pc := 65) (tgt := 108) dX10_frees_65 (by decide) (fun _ => ?_) (fun _ => ?_)
  · refine j_aload_n (pc := 108) (p := 0) rfl rfl dX10_frees_108 ?_
    refine j_iconst (pc := 109) ki_0 dX10_frees_109 ?_
    refine j_put (pc := 110) FI_X10 (k := 1) (by decide) fl_X10_11 rfl rfl rfl dX10_frees_110 (fun h2 _ => ?_)
    refine j_aload_n (pc := 113) (p := 0) rfl rfl dX10_frees_113 ?_
    refine j_iload_n (pc := 114) (p := 3) rfl rfl dX10_frees_114 ?_
    refine j_cSi (pc := 115) Y_X10_bitsOf ml_X10_155 sm_X10_bitsOf ⟨Nat.le_of_ble_eq_true rfl, Nat.le_of_ble_eq_true rfl⟩ dX10_frees_115 (As := [.int v3]) (rest := [.ref v0]) rfl rfl (Nat.le_of_ble_eq_true rfl) (fun x hq9 => c_X10_bitsOf _ _ _ hq9) (fun q3 _ => ?_)
    refine j_i2l (pc := 118) dX10_frees_118 ?_
    refine j_cVu (pc := 119) Y_X10_enters (ci := 9) (b := v0) rfl rfl ml_X10_202 im_X10_enters se_X10_enters ⟨Nat.le_of_ble_eq_true rfl, Nat.le_of_ble_eq_true rfl⟩ dX10_frees_119 (As := [.long (Int32.toInt64 q3.2)]) (rest := []) rfl rfl (Nat.le_of_ble_eq_true rfl) (fun x hq9 => c_X10_enters _ _ _ _ hq9) (fun q4 _ => ?_)
    refine j_iload_n (pc := 122) (p := 3) rfl rfl dX10_frees_122 ?_
    exact j_iret (pc := 123) rfl dX10_frees_123
  refine j_aload_n (pc := 68) (p := 0) rfl rfl dX10_frees_68 ?_
  refine j_iconst (pc := 69) ki_0 dX10_frees_69 ?_
  refine j_iload_n (pc := 70) (p := 1) rfl rfl dX10_frees_70 ?_
  refine j_iload (pc := 71) (p := 4) rfl dX10_frees_71 ?_
  refine j_cVu (pc := 73) Y_X10_grows (ci := 9) (b := v0) rfl rfl ml_X10_148 im_X10_grows se_X10_grows ⟨Nat.le_of_ble_eq_true rfl, Nat.le_of_ble_eq_true rfl⟩ dX10_frees_73 (As := [.int (0), .int v1, .int v4]) (rest := []) rfl rfl (Nat.le_of_ble_eq_true rfl) (fun x hq9 => c_X10_grows _ _ _ _ _ _ hq9) (fun q5 _ => ?_)
  refine j_iload_n (pc := 76) (p := 3) rfl rfl dX10_frees_76 ?_
  refine j_iload (pc := 77) (p := 4) rfl dX10_frees_77 ?_
  refine j_iload_n (pc := 79) (p := 2) rfl rfl dX10_frees_79 ?_
  refine j_ic_eq (pc := 80) (tgt := 99) dX10_frees_80 (by decide) (fun _ => ?_) (fun _ => ?_)
  · refine j_sub [0, 1, 2, 4] (lv' := [(0, .ref v0), (1, .int v1), (2, .int v2), (4, .int v4)]) rfl ?_
    exact jb_X10_frees_99 k59 hk59 _ _ _ _ _ _
  refine j_aload_n (pc := 83) (p := 0) rfl rfl dX10_frees_83 ?_
  refine j_getR (pc := 84) FI_X10 (k := 10) (by decide) fl_X10_53 dX10_frees_84 (fun x6 _ => ?_)
  refine j_iload_n (pc := 87) (p := 2) rfl rfl dX10_frees_87 ?_
  refine j_zald (pc := 88) dX10_frees_88 (fun x7 _ => ?_)
  refine j_if_ne (pc := 89) (tgt := 99) dX10_frees_89 (by decide) (fun _ => ?_) (fun _ => ?_)
  · refine j_iconst (pc := 92) ki_1 dX10_frees_92 ?_
    refine j_iload (pc := 93) (p := 4) rfl dX10_frees_93 ?_
    refine j_ishl (pc := 95) dX10_frees_95 ?_
    refine j_goto (pc := 96) (tgt := 100) dX10_frees_96 (by decide) ?_
    refine j_sub [0, 1, 2, 4] (lv' := [(0, .ref v0), (1, .int v1), (2, .int v2), (4, .int v4)]) rfl ?_
    exact jb_X10_frees_100 k59 hk59 _ _ _ _ _ _ _
  refine j_sub [0, 1, 2, 4] (lv' := [(0, .ref v0), (1, .int v1), (2, .int v2), (4, .int v4)]) rfl ?_
  exact jb_X10_frees_99 k59 hk59 _ _ _ _ _ _
set_option maxRecDepth 20000 in
set_option maxHeartbeats 1000000 in
theorem jl_X10_frees_59 {G : q_G} {l : Launch} {k0 z0 : Nat} (n : Nat) : ∀ (h : q_H) (v0 : Nat) (v1 : Int32) (v2 : Int32) (v3 : Int32) (v4 : Int32), q_J G l (RX10, cX10_frees, 5, 5, 118, (some .int), "frees", []) k0 z0 (q_Z G k0 z0 q_i) 59 [(0, .ref v0), (1, .int v1), (2, .int v2), (3, .int v3), (4, .int v4)] [] h (l_X10_frees_59 n h v0 v1 v2 v3 v4) := by
  induction n with
  | zero => intro h v0 v1 v2 v3 v4; exact j_none
  | succ n ih => intro h v0 v1 v2 v3 v4; exact jb_X10_frees_59 (l_X10_frees_59 n) ih h v0 v1 v2 v3 v4
set_option maxRecDepth 20000 in
set_option maxHeartbeats 1000000 in
theorem jb_X10_frees_0 {G : q_G} {l : Launch} {k0 z0 : Nat} (h : q_H) (v0 : Nat) (v1 : Int32) (v2 : Int32) : q_J G l (RX10, cX10_frees, 5, 5, 118, (some .int), "frees", []) k0 z0 (q_Z G k0 z0 q_i) 0 [(0, .ref v0), (1, .int v1), (2, .int v2)] [] h (b_X10_frees_0 h v0 v1 v2) := by
  unfold b_X10_frees_0
  refine j_aload_n (pc := 0) (p := 0) rfl rfl dX10_frees_0 ?_
  refine j_iconst (pc := 1) ki_0 dX10_frees_1 ?_
  refine j_put (pc := 2) FI_X10 (k := 0) (by decide) fl_X10_1 rfl rfl rfl dX10_frees_2 (fun h8 _ => ?_)
  refine j_iload_n (pc := 5) (p := 1) rfl rfl dX10_frees_5 ?_
  refine j_cSi (pc := 6) Y_X10_isCopy ml_X10_101 sm_X10_isCopy ⟨Nat.le_of_ble_eq_true rfl, Nat.le_of_ble_eq_true rfl⟩ dX10_frees_6 (As := [.int v1]) (rest := []) rfl rfl (Nat.le_of_ble_eq_true rfl) (fun x hq9 => c_X10_isCopy _ _ _ hq9) (fun q9 _ => ?_)
  refine j_if_eq (pc := 9) (tgt := 34) dX10_frees_9 (by decide) (fun _ => ?_) (fun _ => ?_)
  · refine j_iconst (pc := 34) ki_m1 dX10_frees_34 ?_
    exact j_iret (pc := 35) rfl dX10_frees_35
  refine j_iload_n (pc := 12) (p := 2) rfl rfl dX10_frees_12 ?_
  refine j_i2l (pc := 13) dX10_frees_13 ?_
  refine j_lconst (pc := 14) kl_0 dX10_frees_14 ?_
  refine j_aload_n (pc := 15) (p := 0) rfl rfl dX10_frees_15 ?_
  refine j_getR (pc := 16) FI_X10 (k := 7) (by decide) fl_X10_47 dX10_frees_16 (fun x10 _ => ?_)
  refine j_sipush (pc := 19) ks_180 dX10_frees_19 ?_
  refine j_iload_n (pc := 22) (p := 1) rfl rfl dX10_frees_22 ?_
  refine j_iadd (pc := 23) dX10_frees_23 ?_
  refine j_iald (pc := 24) dX10_frees_24 (fun x11 _ => ?_)
  refine j_iconst (pc := 25) ki_1 dX10_frees_25 ?_
  refine j_isub (pc := 26) dX10_frees_26 ?_
  refine j_i2l (pc := 27) dX10_frees_27 ?_
  refine j_cSi (pc := 28) Y_X10_in ml_X10_21 sm_X10_in ⟨Nat.le_of_ble_eq_true rfl, Nat.le_of_ble_eq_true rfl⟩ dX10_frees_28 (As := [.long (Int32.toInt64 v2), .long (0), .long (Int32.toInt64 (x11 - (1)))]) (rest := []) rfl rfl (Nat.le_of_ble_eq_true rfl) (fun x hq9 => c_X10_in _ _ _ _ _ hq9) (fun q12 _ => ?_)
  refine j_if_ne (pc := 31) (tgt := 36) dX10_frees_31 (by decide) (fun _ => ?_) (fun _ => ?_)
  · refine j_iconst (pc := 34) ki_m1 dX10_frees_34 ?_
    exact j_iret (pc := 35) rfl dX10_frees_35
  refine j_aload_n (pc := 36) (p := 0) rfl rfl dX10_frees_36 ?_
  refine j_iconst (pc := 37) ki_0 dX10_frees_37 ?_
  refine j_iload_n (pc := 38) (p := 1) rfl rfl dX10_frees_38 ?_
  refine j_cVu (pc := 39) Y_X10_lays (ci := 9) (b := v0) rfl rfl ml_X10_164 im_X10_lays se_X10_lays ⟨Nat.le_of_ble_eq_true rfl, Nat.le_of_ble_eq_true rfl⟩ dX10_frees_39 (As := [.int (0), .int v1]) (rest := []) rfl rfl (Nat.le_of_ble_eq_true rfl) (fun x hq9 => c_X10_lays _ _ _ _ _ hq9) (fun q13 _ => ?_)
  refine j_aload_n (pc := 42) (p := 0) rfl rfl dX10_frees_42 ?_
  refine j_getR (pc := 43) FI_X10 (k := 10) (by decide) fl_X10_53 dX10_frees_43 (fun x14 _ => ?_)
  refine j_iload_n (pc := 46) (p := 2) rfl rfl dX10_frees_46 ?_
  refine j_zald (pc := 47) dX10_frees_47 (fun x15 _ => ?_)
  refine j_if_ne (pc := 48) (tgt := 54) dX10_frees_48 (by decide) (fun _ => ?_) (fun _ => ?_)
  · refine j_bipush (pc := 51) kb_m2 dX10_frees_51 ?_
    exact j_iret (pc := 53) rfl dX10_frees_53
  refine j_iconst (pc := 54) ki_0 dX10_frees_54 ?_
  refine j_istore_n (pc := 55) (lv' := [(3, .int (0)), (0, .ref v0), (1, .int v1), (2, .int v2)]) rfl (by decide) rfl dX10_frees_55 ?_
  refine j_iconst (pc := 56) ki_0 dX10_frees_56 ?_
  refine j_istore (pc := 57) (lv' := [(4, .int (0)), (3, .int (0)), (0, .ref v0), (1, .int v1), (2, .int v2)]) (by decide) rfl dX10_frees_57 ?_
  refine j_sub [2, 3, 4, 1, 0] (lv' := [(0, .ref v0), (1, .int v1), (2, .int v2), (3, .int (0)), (4, .int (0))]) rfl ?_
  exact jl_X10_frees_59 q_FU _ _ _ _ _ _
set_option maxRecDepth 20000 in
set_option maxHeartbeats 1000000 in
theorem c_X10_frees {G : q_G} {l : Launch} : ∀ (h : q_H) (a0 : Nat) (a1 : Int32) (a2 : Int32) (q : q_H × Int32), f_X10_frees h a0 a1 a2 = some q → (∃ fs, h.1 a0 = .inr (9, fs)) ∧ q_CT G l yX10_frees cX10_frees 5 (some .int) 5 118 [.ref a0, .int a1, .int a2] h q.1 (q_i q.2) := by
  intro h a0 a1 a2 q e
  obtain ⟨e1, e2⟩ := q_chk_ok e
  exact ⟨e1, q_ofJ Y_X10_frees (Nat.le_of_ble_eq_true rfl) (jb_X10_frees_0 h a0 a1 a2) q e2⟩
/-! FarFoldersModel.gathers(I)I -/
theorem dX10_gathers_0 : decode cX10_gathers 0 = .ok (.aload_n 0, 1) := by decide +kernel
theorem dX10_gathers_1 : decode cX10_gathers 1 = .ok (.iconst 0, 1) := by decide +kernel
theorem dX10_gathers_2 : decode cX10_gathers 2 = .ok (.putfield 1, 3) := by decide +kernel
theorem dX10_gathers_5 : decode cX10_gathers 5 = .ok (.aload_n 0, 1) := by decide +kernel
theorem dX10_gathers_6 : decode cX10_gathers 6 = .ok (.iload_n 1, 1) := by decide +kernel
theorem dX10_gathers_7 : decode cX10_gathers 7 = .ok (.invokevirtual 247, 3) := by decide +kernel
theorem dX10_gathers_10 : decode cX10_gathers 10 = .ok (.istore_n 2, 1) := by decide +kernel
theorem dX10_gathers_11 : decode cX10_gathers 11 = .ok (.iload_n 2, 1) := by decide +kernel
theorem dX10_gathers_12 : decode cX10_gathers 12 = .ok (.ifCond .lt 26, 3) := by decide +kernel
theorem dX10_gathers_15 : decode cX10_gathers 15 = .ok (.aload_n 0, 1) := by decide +kernel
theorem dX10_gathers_16 : decode cX10_gathers 16 = .ok (.iconst 0, 1) := by decide +kernel
theorem dX10_gathers_17 : decode cX10_gathers 17 = .ok (.putfield 11, 3) := by decide +kernel
theorem dX10_gathers_20 : decode cX10_gathers 20 = .ok (.aload_n 0, 1) := by decide +kernel
theorem dX10_gathers_21 : decode cX10_gathers 21 = .ok (.aload_n 0, 1) := by decide +kernel
theorem dX10_gathers_22 : decode cX10_gathers 22 = .ok (.getfield 214, 3) := by decide +kernel
theorem dX10_gathers_25 : decode cX10_gathers 25 = .ok (.i2l, 1) := by decide +kernel
theorem dX10_gathers_26 : decode cX10_gathers 26 = .ok (.invokevirtual 202, 3) := by decide +kernel
theorem dX10_gathers_29 : decode cX10_gathers 29 = .ok (.aload_n 0, 1) := by decide +kernel
theorem dX10_gathers_30 : decode cX10_gathers 30 = .ok (.aload_n 0, 1) := by decide +kernel
theorem dX10_gathers_31 : decode cX10_gathers 31 = .ok (.getfield 220, 3) := by decide +kernel
theorem dX10_gathers_34 : decode cX10_gathers 34 = .ok (.i2l, 1) := by decide +kernel
theorem dX10_gathers_35 : decode cX10_gathers 35 = .ok (.invokevirtual 202, 3) := by decide +kernel
theorem dX10_gathers_38 : decode cX10_gathers 38 = .ok (.iload_n 2, 1) := by decide +kernel
theorem dX10_gathers_39 : decode cX10_gathers 39 = .ok (.ireturn, 1) := by decide +kernel
def b_X10_gathers_0 (h : q_H) (v0 : Nat) (v1 : Int32) : Option (q_H × Int32) :=
  Option.bind (q_p 9 0 h v0 (.int (0))) (fun h1 => Option.bind (f_X10_gathersOne h1 v0 v1) (fun q2 => if q2.2 < 0 then some (q2.1, q2.2) else Option.bind (q_p 9 1 q2.1 v0 (.int (0))) (fun h3 => Option.bind (q_gI 9 13 h3 v0) (fun x4 => Option.bind (f_X10_enters h3 v0 (Int32.toInt64 x4)) (fun q5 => Option.bind (q_gI 9 14 q5.1 v0) (fun x6 => Option.bind (f_X10_enters q5.1 v0 (Int32.toInt64 x6)) (fun q7 => some (q7.1, q2.2))))))))
def f_X10_gathers (h : q_H) (a0 : Nat) (a1 : Int32) : Option (q_H × Int32) := q_chk 9 h a0 (b_X10_gathers_0 h a0 a1)
set_option maxRecDepth 20000 in
set_option maxHeartbeats 1000000 in
theorem jb_X10_gathers_0 {G : q_G} {l : Launch} {k0 z0 : Nat} (h : q_H) (v0 : Nat) (v1 : Int32) : q_J G l (RX10, cX10_gathers, 3, 6, 142, (some .int), "gathers", []) k0 z0 (q_Z G k0 z0 q_i) 0 [(0, .ref v0), (1, .int v1)] [] h (b_X10_gathers_0 h v0 v1) := by
  unfold b_X10_gathers_0
  refine j_aload_n (pc := 0) (p := 0) rfl rfl dX10_gathers_0 ?_
  refine j_iconst (pc := 1) ki_0 dX10_gathers_1 ?_
  refine j_put (pc := 2) FI_X10 (k := 0) (by decide) fl_X10_1 rfl rfl rfl dX10_gathers_2 (fun h1 _ => ?_)
  refine j_aload_n (pc := 5) (p := 0) rfl rfl dX10_gathers_5 ?_
  refine j_iload_n (pc := 6) (p := 1) rfl rfl dX10_gathers_6 ?_
  refine j_cVi (pc := 7) Y_X10_gathersOne (ci := 9) (b := v0) rfl rfl ml_X10_247 im_X10_gathersOne se_X10_gathersOne ⟨Nat.le_of_ble_eq_true rfl, Nat.le_of_ble_eq_true rfl⟩ dX10_gathers_7 (As := [.int v1]) (rest := []) rfl rfl (Nat.le_of_ble_eq_true rfl) (fun x hq9 => c_X10_gathersOne _ _ _ _ hq9) (fun q2 _ => ?_)
  refine j_istore_n (pc := 10) (lv' := [(2, .int q2.2), (0, .ref v0), (1, .int v1)]) rfl (by decide) rfl dX10_gathers_10 ?_
  refine j_iload_n (pc := 11) (p := 0) rfl rfl dX10_gathers_11 ?_
  refine j_if_lt (pc := 12) (tgt := 38) dX10_gathers_12 (by decide) (fun _ => ?_) (fun _ => ?_)
  · refine j_iload_n (pc := 38) (p := 0) rfl rfl dX10_gathers_38 ?_
    exact j_iret (pc := 39) rfl dX10_gathers_39
  refine j_aload_n (pc := 15) (p := 1) rfl rfl dX10_gathers_15 ?_
  refine j_iconst (pc := 16) ki_0 dX10_gathers_16 ?_
  refine j_put (pc := 17) FI_X10 (k := 1) (by decide) fl_X10_11 rfl rfl rfl dX10_gathers_17 (fun h3 _ => ?_)
  refine j_aload_n (pc := 20) (p := 1) rfl rfl dX10_gathers_20 ?_
  refine j_aload_n (pc := 21) (p := 1) rfl rfl dX10_gathers_21 ?_
  refine j_getI (pc := 22) FI_X10 (k := 13) (by decide) fl_X10_214 dX10_gathers_22 (fun x4 _ => ?_)
  refine j_i2l (pc := 25) dX10_gathers_25 ?_
  refine j_cVu (pc := 26) Y_X10_enters (ci := 9) (b := v0) rfl rfl ml_X10_202 im_X10_enters se_X10_enters ⟨Nat.le_of_ble_eq_true rfl, Nat.le_of_ble_eq_true rfl⟩ dX10_gathers_26 (As := [.long (Int32.toInt64 x4)]) (rest := []) rfl rfl (Nat.le_of_ble_eq_true rfl) (fun x hq9 => c_X10_enters _ _ _ _ hq9) (fun q5 _ => ?_)
  refine j_aload_n (pc := 29) (p := 1) rfl rfl dX10_gathers_29 ?_
  refine j_aload_n (pc := 30) (p := 1) rfl rfl dX10_gathers_30 ?_
  refine j_getI (pc := 31) FI_X10 (k := 14) (by decide) fl_X10_220 dX10_gathers_31 (fun x6 _ => ?_)
  refine j_i2l (pc := 34) dX10_gathers_34 ?_
  refine j_cVu (pc := 35) Y_X10_enters (ci := 9) (b := v0) rfl rfl ml_X10_202 im_X10_enters se_X10_enters ⟨Nat.le_of_ble_eq_true rfl, Nat.le_of_ble_eq_true rfl⟩ dX10_gathers_35 (As := [.long (Int32.toInt64 x6)]) (rest := []) rfl rfl (Nat.le_of_ble_eq_true rfl) (fun x hq9 => c_X10_enters _ _ _ _ hq9) (fun q7 _ => ?_)
  refine j_iload_n (pc := 38) (p := 0) rfl rfl dX10_gathers_38 ?_
  exact j_iret (pc := 39) rfl dX10_gathers_39
set_option maxRecDepth 20000 in
set_option maxHeartbeats 1000000 in
theorem c_X10_gathers {G : q_G} {l : Launch} : ∀ (h : q_H) (a0 : Nat) (a1 : Int32) (q : q_H × Int32), f_X10_gathers h a0 a1 = some q → (∃ fs, h.1 a0 = .inr (9, fs)) ∧ q_CT G l yX10_gathers cX10_gathers 3 (some .int) 6 142 [.ref a0, .int a1] h q.1 (q_i q.2) := by
  intro h a0 a1 q e
  obtain ⟨e1, e2⟩ := q_chk_ok e
  exact ⟨e1, q_ofJ Y_X10_gathers (Nat.le_of_ble_eq_true rfl) (jb_X10_gathers_0 h a0 a1) q e2⟩
/-! FarFoldersModel.has(II)Z -/
theorem dX10_has_0 : decode cX10_has 0 = .ok (.iload_n 0, 1) := by decide +kernel
theorem dX10_has_1 : decode cX10_has 1 = .ok (.iload_n 1, 1) := by decide +kernel
theorem dX10_has_2 : decode cX10_has 2 = .ok (.ishr, 1) := by decide +kernel
theorem dX10_has_3 : decode cX10_has 3 = .ok (.iconst 1, 1) := by decide +kernel
theorem dX10_has_4 : decode cX10_has 4 = .ok (.iand, 1) := by decide +kernel
theorem dX10_has_5 : decode cX10_has 5 = .ok (.iconst 1, 1) := by decide +kernel
theorem dX10_has_6 : decode cX10_has 6 = .ok (.if_icmp .ne 7, 3) := by decide +kernel
theorem dX10_has_9 : decode cX10_has 9 = .ok (.iconst 1, 1) := by decide +kernel
theorem dX10_has_10 : decode cX10_has 10 = .ok (.goto 4, 3) := by decide +kernel
theorem dX10_has_13 : decode cX10_has 13 = .ok (.iconst 0, 1) := by decide +kernel
theorem dX10_has_14 : decode cX10_has 14 = .ok (.ireturn, 1) := by decide +kernel
def b_X10_has_0 (h : q_H) (v0 : Int32) (v1 : Int32) : Option (q_H × Int32) :=
  if ((v0 >>> (v1 &&& 31)) &&& (1)) = (1) then some (h, (1)) else some (h, (0))
def f_X10_has (h : q_H) (a0 : Int32) (a1 : Int32) : Option (q_H × Int32) := b_X10_has_0 h a0 a1
set_option maxRecDepth 20000 in
set_option maxHeartbeats 1000000 in
theorem jb_X10_has_0 {G : q_G} {l : Launch} {k0 z0 : Nat} (h : q_H) (v0 : Int32) (v1 : Int32) : q_J G l (RX10, cX10_has, 2, 0, 0, (some .boolean), "has", []) k0 z0 (q_Z G k0 z0 q_i) 0 [(0, .int v0), (1, .int v1)] [] h (b_X10_has_0 h v0 v1) := by
  unfold b_X10_has_0
  refine j_iload_n (pc := 0) (p := 0) rfl rfl dX10_has_0 ?_
  refine j_iload_n (pc := 1) (p := 1) rfl rfl dX10_has_1 ?_
  refine j_ishr (pc := 2) dX10_has_2 ?_
  refine j_iconst (pc := 3) ki_1 dX10_has_3 ?_
  refine j_iand (pc := 4) dX10_has_4 ?_
  refine j_iconst (pc := 5) ki_1 dX10_has_5 ?_
  refine j_ic_ne (pc := 6) (tgt := 13) dX10_has_6 (by decide) (fun _ => ?_) (fun _ => ?_)
  · refine j_iconst (pc := 9) ki_1 dX10_has_9 ?_
    refine j_goto (pc := 10) (tgt := 14) dX10_has_10 (by decide) ?_
    exact j_zret (pc := 14) rfl rfl dX10_has_14
  refine j_iconst (pc := 13) ki_0 dX10_has_13 ?_
  exact j_zret (pc := 14) rfl rfl dX10_has_14
set_option maxRecDepth 20000 in
set_option maxHeartbeats 1000000 in
theorem c_X10_has {G : q_G} {l : Launch} : ∀ (h : q_H) (a0 : Int32) (a1 : Int32) (q : q_H × Int32), f_X10_has h a0 a1 = some q → q_CT G l yX10_has cX10_has 2 (some .boolean) 0 0 [.int a0, .int a1] h q.1 (q_i q.2) := by
  intro h a0 a1 q e
  exact q_ofJ Y_X10_has (Nat.le_of_ble_eq_true rfl) (jb_X10_has_0 h a0 a1) q e
/-! FarFoldersModel.idle(I)I -/
theorem dX10_idle_0 : decode cX10_idle 0 = .ok (.aload_n 0, 1) := by decide +kernel
theorem dX10_idle_1 : decode cX10_idle 1 = .ok (.iconst 0, 1) := by decide +kernel
theorem dX10_idle_2 : decode cX10_idle 2 = .ok (.putfield 1, 3) := by decide +kernel
theorem dX10_idle_5 : decode cX10_idle 5 = .ok (.iload_n 1, 1) := by decide +kernel
theorem dX10_idle_6 : decode cX10_idle 6 = .ok (.invokestatic 101, 3) := by decide +kernel
theorem dX10_idle_9 : decode cX10_idle 9 = .ok (.ifCond .ne 5, 3) := by decide +kernel
theorem dX10_idle_12 : decode cX10_idle 12 = .ok (.iconst (-1), 1) := by decide +kernel
theorem dX10_idle_13 : decode cX10_idle 13 = .ok (.ireturn, 1) := by decide +kernel
theorem dX10_idle_14 : decode cX10_idle 14 = .ok (.aload_n 0, 1) := by decide +kernel
theorem dX10_idle_15 : decode cX10_idle 15 = .ok (.iconst 0, 1) := by decide +kernel
theorem dX10_idle_16 : decode cX10_idle 16 = .ok (.iload_n 1, 1) := by decide +kernel
theorem dX10_idle_17 : decode cX10_idle 17 = .ok (.invokevirtual 164, 3) := by decide +kernel
theorem dX10_idle_20 : decode cX10_idle 20 = .ok (.iconst 0, 1) := by decide +kernel
theorem dX10_idle_21 : decode cX10_idle 21 = .ok (.istore_n 2, 1) := by decide +kernel
theorem dX10_idle_22 : decode cX10_idle 22 = .ok (.iconst 0, 1) := by decide +kernel
theorem dX10_idle_23 : decode cX10_idle 23 = .ok (.istore_n 3, 1) := by decide +kernel
theorem dX10_idle_24 : decode cX10_idle 24 = .ok (.iload_n 3, 1) := by decide +kernel
theorem dX10_idle_25 : decode cX10_idle 25 = .ok (.aload_n 0, 1) := by decide +kernel
theorem dX10_idle_26 : decode cX10_idle 26 = .ok (.getfield 105, 3) := by decide +kernel
theorem dX10_idle_29 : decode cX10_idle 29 = .ok (.if_icmp .ge 35, 3) := by decide +kernel
theorem dX10_idle_32 : decode cX10_idle 32 = .ok (.aload_n 0, 1) := by decide +kernel
theorem dX10_idle_33 : decode cX10_idle 33 = .ok (.iconst 1, 1) := by decide +kernel
theorem dX10_idle_34 : decode cX10_idle 34 = .ok (.iload_n 1, 1) := by decide +kernel
theorem dX10_idle_35 : decode cX10_idle 35 = .ok (.iload_n 3, 1) := by decide +kernel
theorem dX10_idle_36 : decode cX10_idle 36 = .ok (.invokevirtual 148, 3) := by decide +kernel
theorem dX10_idle_39 : decode cX10_idle 39 = .ok (.iload_n 2, 1) := by decide +kernel
theorem dX10_idle_40 : decode cX10_idle 40 = .ok (.aload_n 0, 1) := by decide +kernel
theorem dX10_idle_41 : decode cX10_idle 41 = .ok (.iconst 0, 1) := by decide +kernel
theorem dX10_idle_42 : decode cX10_idle 42 = .ok (.iconst 1, 1) := by decide +kernel
theorem dX10_idle_43 : decode cX10_idle 43 = .ok (.invokevirtual 343, 3) := by decide +kernel
theorem dX10_idle_46 : decode cX10_idle 46 = .ok (.ifCond .eq 9, 3) := by decide +kernel
theorem dX10_idle_49 : decode cX10_idle 49 = .ok (.iconst 1, 1) := by decide +kernel
theorem dX10_idle_50 : decode cX10_idle 50 = .ok (.iload_n 3, 1) := by decide +kernel
theorem dX10_idle_51 : decode cX10_idle 51 = .ok (.ishl, 1) := by decide +kernel
theorem dX10_idle_52 : decode cX10_idle 52 = .ok (.goto 4, 3) := by decide +kernel
theorem dX10_idle_55 : decode cX10_idle 55 = .ok (.iconst 0, 1) := by decide +kernel
theorem dX10_idle_56 : decode cX10_idle 56 = .ok (.ior, 1) := by decide +kernel
theorem dX10_idle_57 : decode cX10_idle 57 = .ok (.istore_n 2, 1) := by decide +kernel
theorem dX10_idle_58 : decode cX10_idle 58 = .ok (.iinc 3 1, 3) := by decide +kernel
theorem dX10_idle_61 : decode cX10_idle 61 = .ok (.goto (-37), 3) := by decide +kernel
theorem dX10_idle_64 : decode cX10_idle 64 = .ok (.aload_n 0, 1) := by decide +kernel
theorem dX10_idle_65 : decode cX10_idle 65 = .ok (.iconst 0, 1) := by decide +kernel
theorem dX10_idle_66 : decode cX10_idle 66 = .ok (.putfield 11, 3) := by decide +kernel
theorem dX10_idle_69 : decode cX10_idle 69 = .ok (.aload_n 0, 1) := by decide +kernel
theorem dX10_idle_70 : decode cX10_idle 70 = .ok (.iload_n 2, 1) := by decide +kernel
theorem dX10_idle_71 : decode cX10_idle 71 = .ok (.invokestatic 155, 3) := by decide +kernel
theorem dX10_idle_74 : decode cX10_idle 74 = .ok (.i2l, 1) := by decide +kernel
theorem dX10_idle_75 : decode cX10_idle 75 = .ok (.invokevirtual 202, 3) := by decide +kernel
theorem dX10_idle_78 : decode cX10_idle 78 = .ok (.iload_n 2, 1) := by decide +kernel
theorem dX10_idle_79 : decode cX10_idle 79 = .ok (.ireturn, 1) := by decide +kernel
def b_X10_idle_56 (k24 : q_H → Nat → Int32 → Int32 → Int32 → Option (q_H × Int32)) (h : q_H) (v0 : Nat) (v1 : Int32) (v3 : Int32) (s0 : Int32) (s1 : Int32) : Option (q_H × Int32) :=
  k24 h v0 v1 (s0 ||| s1) (v3 + 1)
def b_X10_idle_24 (k24 : q_H → Nat → Int32 → Int32 → Int32 → Option (q_H × Int32)) (h : q_H) (v0 : Nat) (v1 : Int32) (v2 : Int32) (v3 : Int32) : Option (q_H × Int32) :=
  Option.bind (q_gI 9 9 h v0) (fun x1 => if x1 ≤ v3 then Option.bind (q_p 9 1 h v0 (.int (0))) (fun h2 => Option.bind (f_X10_bitsOf h2 v2) (fun q3 => Option.bind (f_X10_enters q3.1 v0 (Int32.toInt64 q3.2)) (fun q4 => some (q4.1, v2)))) else Option.bind (f_X10_grows h v0 (1) v1 v3) (fun q5 => Option.bind (f_X10_areLike q5.1 v0 (0) (1)) (fun q6 => if q6.2 = 0 then b_X10_idle_56 k24 q6.1 v0 v1 v3 v2 (0) else b_X10_idle_56 k24 q6.1 v0 v1 v3 v2 ((1) <<< (v3 &&& 31)))))
def l_X10_idle_24 : Nat → q_H → Nat → Int32 → Int32 → Int32 → Option (q_H × Int32)
  | 0, _, _, _, _, _ => none
  | n + 1, h, v0, v1, v2, v3 => b_X10_idle_24 (l_X10_idle_24 n) h v0 v1 v2 v3
def b_X10_idle_0 (h : q_H) (v0 : Nat) (v1 : Int32) : Option (q_H × Int32) :=
  Option.bind (q_p 9 0 h v0 (.int (0))) (fun h7 => Option.bind (f_X10_isCopy h7 v1) (fun q8 => if q8.2 = 0 then some (q8.1, (-1)) else Option.bind (f_X10_lays q8.1 v0 (0) v1) (fun q9 => l_X10_idle_24 q_FU q9.1 v0 v1 (0) (0))))
def f_X10_idle (h : q_H) (a0 : Nat) (a1 : Int32) : Option (q_H × Int32) := q_chk 9 h a0 (b_X10_idle_0 h a0 a1)
set_option maxRecDepth 20000 in
set_option maxHeartbeats 1000000 in
theorem jb_X10_idle_56 {G : q_G} {l : Launch} {k0 z0 : Nat} (k24 : q_H → Nat → Int32 → Int32 → Int32 → Option (q_H × Int32)) (hk24 : ∀ (h : q_H) (v0 : Nat) (v1 : Int32) (v2 : Int32) (v3 : Int32), q_J G l (RX10, cX10_idle, 4, 5, 118, (some .int), "idle", []) k0 z0 (q_Z G k0 z0 q_i) 24 [(0, .ref v0), (1, .int v1), (2, .int v2), (3, .int v3)] [] h (k24 h v0 v1 v2 v3)) (h : q_H) (v0 : Nat) (v1 : Int32) (v3 : Int32) (s0 : Int32) (s1 : Int32) : q_J G l (RX10, cX10_idle, 4, 5, 118, (some .int), "idle", []) k0 z0 (q_Z G k0 z0 q_i) 56 [(0, .ref v0), (1, .int v1), (3, .int v3)] [.int s1, .int s0] h (b_X10_idle_56 k24 h v0 v1 v3 s0 s1) := by
  unfold b_X10_idle_56
  refine j_ior (pc := 56) dX10_idle_56 ?_
  refine j_istore_n (pc := 57) (lv' := [(2, .int (s0 ||| s1)), (0, .ref v0), (1, .int v1), (3, .int v3)]) rfl (by decide) rfl dX10_idle_57 ?_
  refine j_inc (pc := 58) (p := 3) (lv' := [(3, .int (v3 + 1)), (2, .int (s0 ||| s1)), (0, .ref v0), (1, .int v1)]) rfl ki_1 (by decide) rfl dX10_idle_58 ?_
  refine j_goto (pc := 61) (tgt := 24) dX10_idle_61 (by decide) ?_
  refine j_sub [2, 3, 1, 0] (lv' := [(0, .ref v0), (1, .int v1), (2, .int (s0 ||| s1)), (3, .int (v3 + 1))]) rfl ?_
  exact hk24 _ _ _ _ _
set_option maxRecDepth 20000 in
set_option maxHeartbeats 1000000 in
theorem jb_X10_idle_24 {G : q_G} {l : Launch} {k0 z0 : Nat} (k24 : q_H → Nat → Int32 → Int32 → Int32 → Option (q_H × Int32)) (hk24 : ∀ (h : q_H) (v0 : Nat) (v1 : Int32) (v2 : Int32) (v3 : Int32), q_J G l (RX10, cX10_idle, 4, 5, 118, (some .int), "idle", []) k0 z0 (q_Z G k0 z0 q_i) 24 [(0, .ref v0), (1, .int v1), (2, .int v2), (3, .int v3)] [] h (k24 h v0 v1 v2 v3)) (h : q_H) (v0 : Nat) (v1 : Int32) (v2 : Int32) (v3 : Int32) : q_J G l (RX10, cX10_idle, 4, 5, 118, (some .int), "idle", []) k0 z0 (q_Z G k0 z0 q_i) 24 [(0, .ref v0), (1, .int v1), (2, .int v2), (3, .int v3)] [] h (b_X10_idle_24 k24 h v0 v1 v2 v3) := by
  unfold b_X10_idle_24
  refine j_iload_n (pc := 24) (p := 3) rfl rfl dX10_idle_24 ?_
  refine j_aload_n (pc := 25) (p := 0) rfl rfl dX10_idle_25 ?_
  refine j_getI (pc := 26) FI_X10 (k := 9) (by decide) fl_X10_105 dX10_idle_26 (fun x1 _ => ?_)
  refine j_ic_ge (pc := 29) (tgt := 64) dX10_idle_29 (by decide) (fun _ => ?_) (fun _ => ?_)
  · refine j_aload_n (pc := 64) (p := 0) rfl rfl dX10_idle_64 ?_
    refine j_iconst (pc := 65) ki_0 dX10_idle_65 ?_
    refine j_put (pc := 66) FI_X10 (k := 1) (by decide) fl_X10_11 rfl rfl rfl dX10_idle_66 (fun h2 _ => ?_)
    refine j_aload_n (pc := 69) (p := 0) rfl rfl dX10_idle_69 ?_
    refine j_iload_n (pc := 70) (p := 2) rfl rfl dX10_idle_70 ?_
    refine j_cSi (pc := 71) Y_X10_bitsOf ml_X10_155 sm_X10_bitsOf ⟨Nat.le_of_ble_eq_true rfl, Nat.le_of_ble_eq_true rfl⟩ dX10_idle_71 (As := [.int v2]) (rest := [.ref v0]) rfl rfl (Nat.le_of_ble_eq_true rfl) (fun x hq9 => c_X10_bitsOf _ _ _ hq9) (fun q3 _ => ?_)
    refine j_i2l (pc := 74) dX10_idle_74 ?_
    refine j_cVu (pc := 75) Y_X10_enters (ci := 9) (b := v0) rfl rfl ml_X10_202 im_X10_enters se_X10_enters ⟨Nat.le_of_ble_eq_true rfl, Nat.le_of_ble_eq_true rfl⟩ dX10_idle_75 (As := [.long (Int32.toInt64 q3.2)]) (rest := []) rfl rfl (Nat.le_of_ble_eq_true rfl) (fun x hq9 => c_X10_enters _ _ _ _ hq9) (fun q4 _ => ?_)
    refine j_iload_n (pc := 78) (p := 2) rfl rfl dX10_idle_78 ?_
    exact j_iret (pc := 79) rfl dX10_idle_79
  refine j_aload_n (pc := 32) (p := 0) rfl rfl dX10_idle_32 ?_
  refine j_iconst (pc := 33) ki_1 dX10_idle_33 ?_
  refine j_iload_n (pc := 34) (p := 1) rfl rfl dX10_idle_34 ?_
  refine j_iload_n (pc := 35) (p := 3) rfl rfl dX10_idle_35 ?_
  refine j_cVu (pc := 36) Y_X10_grows (ci := 9) (b := v0) rfl rfl ml_X10_148 im_X10_grows se_X10_grows ⟨Nat.le_of_ble_eq_true rfl, Nat.le_of_ble_eq_true rfl⟩ dX10_idle_36 (As := [.int (1), .int v1, .int v3]) (rest := []) rfl rfl (Nat.le_of_ble_eq_true rfl) (fun x hq9 => c_X10_grows _ _ _ _ _ _ hq9) (fun q5 _ => ?_)
  refine j_iload_n (pc := 39) (p := 2) rfl rfl dX10_idle_39 ?_
  refine j_aload_n (pc := 40) (p := 0) rfl rfl dX10_idle_40 ?_
  refine j_iconst (pc := 41) ki_0 dX10_idle_41 ?_
  refine j_iconst (pc := 42) ki_1 dX10_idle_42 ?_
  refine j_cVi (pc := 43) Y_X10_areLike (ci := 9) (b := v0) rfl rfl ml_X10_343 im_X10_areLike se_X10_areLike ⟨Nat.le_of_ble_eq_true rfl, Nat.le_of_ble_eq_true rfl⟩ dX10_idle_43 (As := [.int (0), .int (1)]) (rest := [.int v2]) rfl rfl (Nat.le_of_ble_eq_true rfl) (fun x hq9 => c_X10_areLike _ _ _ _ _ hq9) (fun q6 _ => ?_)
  refine j_if_eq (pc := 46) (tgt := 55) dX10_idle_46 (by decide) (fun _ => ?_) (fun _ => ?_)
  · refine j_iconst (pc := 55) ki_0 dX10_idle_55 ?_
    refine j_sub [0, 1, 3] (lv' := [(0, .ref v0), (1, .int v1), (3, .int v3)]) rfl ?_
    exact jb_X10_idle_56 k24 hk24 _ _ _ _ _ _
  refine j_iconst (pc := 49) ki_1 dX10_idle_49 ?_
  refine j_iload_n (pc := 50) (p := 3) rfl rfl dX10_idle_50 ?_
  refine j_ishl (pc := 51) dX10_idle_51 ?_
  refine j_goto (pc := 52) (tgt := 56) dX10_idle_52 (by decide) ?_
  refine j_sub [0, 1, 3] (lv' := [(0, .ref v0), (1, .int v1), (3, .int v3)]) rfl ?_
  exact jb_X10_idle_56 k24 hk24 _ _ _ _ _ _
set_option maxRecDepth 20000 in
set_option maxHeartbeats 1000000 in
theorem jl_X10_idle_24 {G : q_G} {l : Launch} {k0 z0 : Nat} (n : Nat) : ∀ (h : q_H) (v0 : Nat) (v1 : Int32) (v2 : Int32) (v3 : Int32), q_J G l (RX10, cX10_idle, 4, 5, 118, (some .int), "idle", []) k0 z0 (q_Z G k0 z0 q_i) 24 [(0, .ref v0), (1, .int v1), (2, .int v2), (3, .int v3)] [] h (l_X10_idle_24 n h v0 v1 v2 v3) := by
  induction n with
  | zero => intro h v0 v1 v2 v3; exact j_none
  | succ n ih => intro h v0 v1 v2 v3; exact jb_X10_idle_24 (l_X10_idle_24 n) ih h v0 v1 v2 v3
set_option maxRecDepth 20000 in
set_option maxHeartbeats 1000000 in
theorem jb_X10_idle_0 {G : q_G} {l : Launch} {k0 z0 : Nat} (h : q_H) (v0 : Nat) (v1 : Int32) : q_J G l (RX10, cX10_idle, 4, 5, 118, (some .int), "idle", []) k0 z0 (q_Z G k0 z0 q_i) 0 [(0, .ref v0), (1, .int v1)] [] h (b_X10_idle_0 h v0 v1) := by
  unfold b_X10_idle_0
  refine j_aload_n (pc := 0) (p := 0) rfl rfl dX10_idle_0 ?_
  refine j_iconst (pc := 1) ki_0 dX10_idle_1 ?_
  refine j_put (pc := 2) FI_X10 (k := 0) (by decide) fl_X10_1 rfl rfl rfl dX10_idle_2 (fun h7 _ => ?_)
  refine j_iload_n (pc := 5) (p := 1) rfl rfl dX10_idle_5 ?_
  refine j_cSi (pc := 6) Y_X10_isCopy ml_X10_101 sm_X10_isCopy ⟨Nat.le_of_ble_eq_true rfl, Nat.le_of_ble_eq_true rfl⟩ dX10_idle_6 (As := [.int v1]) (rest := []) rfl rfl (Nat.le_of_ble_eq_true rfl) (fun x hq9 => c_X10_isCopy _ _ _ hq9) (fun q8 _ => ?_)
  refine j_if_ne (pc := 9) (tgt := 14) dX10_idle_9 (by decide) (fun _ => ?_) (fun _ => ?_)
  · refine j_iconst (pc := 12) ki_m1 dX10_idle_12 ?_
    exact j_iret (pc := 13) rfl dX10_idle_13
  refine j_aload_n (pc := 14) (p := 0) rfl rfl dX10_idle_14 ?_
  refine j_iconst (pc := 15) ki_0 dX10_idle_15 ?_
  refine j_iload_n (pc := 16) (p := 1) rfl rfl dX10_idle_16 ?_
  refine j_cVu (pc := 17) Y_X10_lays (ci := 9) (b := v0) rfl rfl ml_X10_164 im_X10_lays se_X10_lays ⟨Nat.le_of_ble_eq_true rfl, Nat.le_of_ble_eq_true rfl⟩ dX10_idle_17 (As := [.int (0), .int v1]) (rest := []) rfl rfl (Nat.le_of_ble_eq_true rfl) (fun x hq9 => c_X10_lays _ _ _ _ _ hq9) (fun q9 _ => ?_)
  refine j_iconst (pc := 20) ki_0 dX10_idle_20 ?_
  refine j_istore_n (pc := 21) (lv' := [(2, .int (0)), (0, .ref v0), (1, .int v1)]) rfl (by decide) rfl dX10_idle_21 ?_
  refine j_iconst (pc := 22) ki_0 dX10_idle_22 ?_
  refine j_istore_n (pc := 23) (lv' := [(3, .int (0)), (2, .int (0)), (0, .ref v0), (1, .int v1)]) rfl (by decide) rfl dX10_idle_23 ?_
  refine j_sub [2, 3, 1, 0] (lv' := [(0, .ref v0), (1, .int v1), (2, .int (0)), (3, .int (0))]) rfl ?_
  exact jl_X10_idle_24 q_FU _ _ _ _ _
set_option maxRecDepth 20000 in
set_option maxHeartbeats 1000000 in
theorem c_X10_idle {G : q_G} {l : Launch} : ∀ (h : q_H) (a0 : Nat) (a1 : Int32) (q : q_H × Int32), f_X10_idle h a0 a1 = some q → (∃ fs, h.1 a0 = .inr (9, fs)) ∧ q_CT G l yX10_idle cX10_idle 4 (some .int) 5 118 [.ref a0, .int a1] h q.1 (q_i q.2) := by
  intro h a0 a1 q e
  obtain ⟨e1, e2⟩ := q_chk_ok e
  exact ⟨e1, q_ofJ Y_X10_idle (Nat.le_of_ble_eq_true rfl) (jb_X10_idle_0 h a0 a1) q e2⟩
/-! FarFoldersModel.<init>()V -/
theorem dX10_init_0 : decode cX10_init 0 = .ok (.aload_n 0, 1) := by decide +kernel
theorem dX10_init_1 : decode cX10_init 1 = .ok (.invokespecial 41, 3) := by decide +kernel
theorem dX10_init_4 : decode cX10_init 4 = .ok (.aload_n 0, 1) := by decide +kernel
theorem dX10_init_5 : decode cX10_init 5 = .ok (.bipush 96, 2) := by decide +kernel
theorem dX10_init_7 : decode cX10_init 7 = .ok (.newarray .long, 2) := by decide +kernel
theorem dX10_init_9 : decode cX10_init 9 = .ok (.putfield 7, 3) := by decide +kernel
theorem dX10_init_12 : decode cX10_init 12 = .ok (.aload_n 0, 1) := by decide +kernel
theorem dX10_init_13 : decode cX10_init 13 = .ok (.bipush 80, 2) := by decide +kernel
theorem dX10_init_15 : decode cX10_init 15 = .ok (.newarray .int, 2) := by decide +kernel
theorem dX10_init_17 : decode cX10_init 17 = .ok (.putfield 17, 3) := by decide +kernel
theorem dX10_init_20 : decode cX10_init 20 = .ok (.aload_n 0, 1) := by decide +kernel
theorem dX10_init_21 : decode cX10_init 21 = .ok (.sipush 2832, 3) := by decide +kernel
theorem dX10_init_24 : decode cX10_init 24 = .ok (.newarray .int, 2) := by decide +kernel
theorem dX10_init_26 : decode cX10_init 26 = .ok (.putfield 47, 3) := by decide +kernel
theorem dX10_init_29 : decode cX10_init 29 = .ok (.aload_n 0, 1) := by decide +kernel
theorem dX10_init_30 : decode cX10_init 30 = .ok (.sipush 200, 3) := by decide +kernel
theorem dX10_init_33 : decode cX10_init 33 = .ok (.newarray .int, 2) := by decide +kernel
theorem dX10_init_35 : decode cX10_init 35 = .ok (.putfield 50, 3) := by decide +kernel
theorem dX10_init_38 : decode cX10_init 38 = .ok (.aload_n 0, 1) := by decide +kernel
theorem dX10_init_39 : decode cX10_init 39 = .ok (.bipush 40, 2) := by decide +kernel
theorem dX10_init_41 : decode cX10_init 41 = .ok (.newarray .boolean, 2) := by decide +kernel
theorem dX10_init_43 : decode cX10_init 43 = .ok (.putfield 53, 3) := by decide +kernel
theorem dX10_init_46 : decode cX10_init 46 = .ok (.aload_n 0, 1) := by decide +kernel
theorem dX10_init_47 : decode cX10_init 47 = .ok (.sipush 5824, 3) := by decide +kernel
theorem dX10_init_50 : decode cX10_init 50 = .ok (.newarray .int, 2) := by decide +kernel
theorem dX10_init_52 : decode cX10_init 52 = .ok (.putfield 57, 3) := by decide +kernel
theorem dX10_init_55 : decode cX10_init 55 = .ok (.aload_n 0, 1) := by decide +kernel
theorem dX10_init_56 : decode cX10_init 56 = .ok (.bipush 80, 2) := by decide +kernel
theorem dX10_init_58 : decode cX10_init 58 = .ok (.newarray .int, 2) := by decide +kernel
theorem dX10_init_60 : decode cX10_init 60 = .ok (.putfield 60, 3) := by decide +kernel
theorem dX10_init_63 : decode cX10_init 63 = .ok (.aload_n 0, 1) := by decide +kernel
theorem dX10_init_64 : decode cX10_init 64 = .ok (.bipush 80, 2) := by decide +kernel
theorem dX10_init_66 : decode cX10_init 66 = .ok (.newarray .int, 2) := by decide +kernel
theorem dX10_init_68 : decode cX10_init 68 = .ok (.putfield 63, 3) := by decide +kernel
theorem dX10_init_71 : decode cX10_init 71 = .ok (.aload_n 0, 1) := by decide +kernel
theorem dX10_init_72 : decode cX10_init 72 = .ok (.bipush 80, 2) := by decide +kernel
theorem dX10_init_74 : decode cX10_init 74 = .ok (.newarray .int, 2) := by decide +kernel
theorem dX10_init_76 : decode cX10_init 76 = .ok (.putfield 66, 3) := by decide +kernel
theorem dX10_init_79 : decode cX10_init 79 = .ok (.aload_n 0, 1) := by decide +kernel
theorem dX10_init_80 : decode cX10_init 80 = .ok (.bipush 80, 2) := by decide +kernel
theorem dX10_init_82 : decode cX10_init 82 = .ok (.newarray .int, 2) := by decide +kernel
theorem dX10_init_84 : decode cX10_init 84 = .ok (.putfield 69, 3) := by decide +kernel
theorem dX10_init_87 : decode cX10_init 87 = .ok (.aload_n 0, 1) := by decide +kernel
theorem dX10_init_88 : decode cX10_init 88 = .ok (.bipush 80, 2) := by decide +kernel
theorem dX10_init_90 : decode cX10_init 90 = .ok (.newarray .int, 2) := by decide +kernel
theorem dX10_init_92 : decode cX10_init 92 = .ok (.putfield 72, 3) := by decide +kernel
theorem dX10_init_95 : decode cX10_init 95 = .ok (.aload_n 0, 1) := by decide +kernel
theorem dX10_init_96 : decode cX10_init 96 = .ok (.bipush 80, 2) := by decide +kernel
theorem dX10_init_98 : decode cX10_init 98 = .ok (.newarray .int, 2) := by decide +kernel
theorem dX10_init_100 : decode cX10_init 100 = .ok (.putfield 75, 3) := by decide +kernel
theorem dX10_init_103 : decode cX10_init 103 = .ok (.aload_n 0, 1) := by decide +kernel
theorem dX10_init_104 : decode cX10_init 104 = .ok (.bipush 80, 2) := by decide +kernel
theorem dX10_init_106 : decode cX10_init 106 = .ok (.newarray .int, 2) := by decide +kernel
theorem dX10_init_108 : decode cX10_init 108 = .ok (.putfield 78, 3) := by decide +kernel
theorem dX10_init_111 : decode cX10_init 111 = .ok (.aload_n 0, 1) := by decide +kernel
theorem dX10_init_112 : decode cX10_init 112 = .ok (.bipush 49, 2) := by decide +kernel
theorem dX10_init_114 : decode cX10_init 114 = .ok (.newarray .int, 2) := by decide +kernel
theorem dX10_init_116 : decode cX10_init 116 = .ok (.putfield 81, 3) := by decide +kernel
theorem dX10_init_119 : decode cX10_init 119 = .ok (.aload_n 0, 1) := by decide +kernel
theorem dX10_init_120 : decode cX10_init 120 = .ok (.bipush 49, 2) := by decide +kernel
theorem dX10_init_122 : decode cX10_init 122 = .ok (.newarray .int, 2) := by decide +kernel
theorem dX10_init_124 : decode cX10_init 124 = .ok (.putfield 84, 3) := by decide +kernel
theorem dX10_init_127 : decode cX10_init 127 = .ok (.aload_n 0, 1) := by decide +kernel
theorem dX10_init_128 : decode cX10_init 128 = .ok (.iconst 2, 1) := by decide +kernel
theorem dX10_init_129 : decode cX10_init 129 = .ok (.newarray .boolean, 2) := by decide +kernel
theorem dX10_init_131 : decode cX10_init 131 = .ok (.putfield 87, 3) := by decide +kernel
theorem dX10_init_134 : decode cX10_init 134 = .ok (.iconst 0, 1) := by decide +kernel
theorem dX10_init_135 : decode cX10_init 135 = .ok (.istore_n 1, 1) := by decide +kernel
theorem dX10_init_136 : decode cX10_init 136 = .ok (.iload_n 1, 1) := by decide +kernel
theorem dX10_init_137 : decode cX10_init 137 = .ok (.iconst 3, 1) := by decide +kernel
theorem dX10_init_138 : decode cX10_init 138 = .ok (.if_icmp .ge 34, 3) := by decide +kernel
theorem dX10_init_141 : decode cX10_init 141 = .ok (.iconst 0, 1) := by decide +kernel
theorem dX10_init_142 : decode cX10_init 142 = .ok (.istore_n 2, 1) := by decide +kernel
theorem dX10_init_143 : decode cX10_init 143 = .ok (.iload_n 2, 1) := by decide +kernel
theorem dX10_init_144 : decode cX10_init 144 = .ok (.bipush 14, 2) := by decide +kernel
theorem dX10_init_146 : decode cX10_init 146 = .ok (.if_icmp .ge 20, 3) := by decide +kernel
theorem dX10_init_149 : decode cX10_init 149 = .ok (.aload_n 0, 1) := by decide +kernel
theorem dX10_init_150 : decode cX10_init 150 = .ok (.getfield 47, 3) := by decide +kernel
theorem dX10_init_153 : decode cX10_init 153 = .ok (.iload_n 1, 1) := by decide +kernel
theorem dX10_init_154 : decode cX10_init 154 = .ok (.iload_n 2, 1) := by decide +kernel
theorem dX10_init_155 : decode cX10_init 155 = .ok (.invokestatic 90, 3) := by decide +kernel
theorem dX10_init_158 : decode cX10_init 158 = .ok (.iconst (-1), 1) := by decide +kernel
theorem dX10_init_159 : decode cX10_init 159 = .ok (.iastore, 1) := by decide +kernel
theorem dX10_init_160 : decode cX10_init 160 = .ok (.iinc 2 1, 3) := by decide +kernel
theorem dX10_init_163 : decode cX10_init 163 = .ok (.goto (-20), 3) := by decide +kernel
theorem dX10_init_166 : decode cX10_init 166 = .ok (.iinc 1 1, 3) := by decide +kernel
theorem dX10_init_169 : decode cX10_init 169 = .ok (.goto (-33), 3) := by decide +kernel
theorem dX10_init_172 : decode cX10_init 172 = .ok (.return_, 1) := by decide +kernel
def b_X10_init_143 (k136 : q_H → Nat → Int32 → Option (q_H × Unit)) (k143 : q_H → Nat → Int32 → Int32 → Option (q_H × Unit)) (h : q_H) (v0 : Nat) (v1 : Int32) (v2 : Int32) : Option (q_H × Unit) :=
  if (14) ≤ v2 then k136 h v0 (v1 + 1) else Option.bind (q_gR 9 7 h v0) (fun x1 => Option.bind (f_X10_baseOf h v1 v2) (fun q2 => Option.bind (q_sI 0 id q2.1 x1 q2.2 (-1)) (fun h3 => k143 h3 v0 v1 (v2 + 1))))
def l_X10_init_143 (k136 : q_H → Nat → Int32 → Option (q_H × Unit)) : Nat → q_H → Nat → Int32 → Int32 → Option (q_H × Unit)
  | 0, _, _, _, _ => none
  | n + 1, h, v0, v1, v2 => b_X10_init_143 k136 (l_X10_init_143 k136 n) h v0 v1 v2
def b_X10_init_136 (k136 : q_H → Nat → Int32 → Option (q_H × Unit)) (h : q_H) (v0 : Nat) (v1 : Int32) : Option (q_H × Unit) :=
  if (3) ≤ v1 then some (h, ()) else l_X10_init_143 k136 q_FU h v0 v1 (0)
def l_X10_init_136 : Nat → q_H → Nat → Int32 → Option (q_H × Unit)
  | 0, _, _, _ => none
  | n + 1, h, v0, v1 => b_X10_init_136 (l_X10_init_136 n) h v0 v1
def b_X10_init_0 (h : q_H) (v0 : Nat) : Option (q_H × Unit) :=
  Option.bind (q_nL h (96)) (fun q4 => Option.bind (q_p 9 2 q4.1 v0 (.ref q4.2)) (fun h5 => Option.bind (q_nI 0 h5 (80)) (fun q6 => Option.bind (q_p 9 3 q6.1 v0 (.ref q6.2)) (fun h7 => Option.bind (q_nI 0 h7 (2832)) (fun q8 => Option.bind (q_p 9 7 q8.1 v0 (.ref q8.2)) (fun h9 => Option.bind (q_nI 0 h9 (200)) (fun q10 => Option.bind (q_p 9 8 q10.1 v0 (.ref q10.2)) (fun h11 => Option.bind (q_nI 2 h11 (40)) (fun q12 => Option.bind (q_p 9 10 q12.1 v0 (.ref q12.2)) (fun h13 => Option.bind (q_nI 0 h13 (5824)) (fun q14 => Option.bind (q_p 9 11 q14.1 v0 (.ref q14.2)) (fun h15 => Option.bind (q_nI 0 h15 (80)) (fun q16 => Option.bind (q_p 9 15 q16.1 v0 (.ref q16.2)) (fun h17 => Option.bind (q_nI 0 h17 (80)) (fun q18 => Option.bind (q_p 9 16 q18.1 v0 (.ref q18.2)) (fun h19 => Option.bind (q_nI 0 h19 (80)) (fun q20 => Option.bind (q_p 9 17 q20.1 v0 (.ref q20.2)) (fun h21 => Option.bind (q_nI 0 h21 (80)) (fun q22 => Option.bind (q_p 9 18 q22.1 v0 (.ref q22.2)) (fun h23 => Option.bind (q_nI 0 h23 (80)) (fun q24 => Option.bind (q_p 9 19 q24.1 v0 (.ref q24.2)) (fun h25 => Option.bind (q_nI 0 h25 (80)) (fun q26 => Option.bind (q_p 9 20 q26.1 v0 (.ref q26.2)) (fun h27 => Option.bind (q_nI 0 h27 (80)) (fun q28 => Option.bind (q_p 9 21 q28.1 v0 (.ref q28.2)) (fun h29 => Option.bind (q_nI 0 h29 (49)) (fun q30 => Option.bind (q_p 9 22 q30.1 v0 (.ref q30.2)) (fun h31 => Option.bind (q_nI 0 h31 (49)) (fun q32 => Option.bind (q_p 9 23 q32.1 v0 (.ref q32.2)) (fun h33 => Option.bind (q_nI 2 h33 (2)) (fun q34 => Option.bind (q_p 9 25 q34.1 v0 (.ref q34.2)) (fun h35 => l_X10_init_136 q_FU h35 v0 (0)))))))))))))))))))))))))))))))))
def f_X10_init (h : q_H) (a0 : Nat) : Option (q_H × Unit) := b_X10_init_0 h a0
set_option maxRecDepth 20000 in
set_option maxHeartbeats 1000000 in
theorem jb_X10_init_143 {G : q_G} {l : Launch} {k0 z0 : Nat} (hx : G.2.2.2.2.2.2.2 = true) (k136 : q_H → Nat → Int32 → Option (q_H × Unit)) (k143 : q_H → Nat → Int32 → Int32 → Option (q_H × Unit)) (hk136 : ∀ (h : q_H) (v0 : Nat) (v1 : Int32), q_J G l (RX10, cX10_init, 3, 1, 60, none, "<init>", []) k0 z0 (q_Z G k0 z0 q_u) 136 [(0, .ref v0), (1, .int v1)] [] h (k136 h v0 v1)) (hk143 : ∀ (h : q_H) (v0 : Nat) (v1 : Int32) (v2 : Int32), q_J G l (RX10, cX10_init, 3, 1, 60, none, "<init>", []) k0 z0 (q_Z G k0 z0 q_u) 143 [(0, .ref v0), (1, .int v1), (2, .int v2)] [] h (k143 h v0 v1 v2)) (h : q_H) (v0 : Nat) (v1 : Int32) (v2 : Int32) : q_J G l (RX10, cX10_init, 3, 1, 60, none, "<init>", []) k0 z0 (q_Z G k0 z0 q_u) 143 [(0, .ref v0), (1, .int v1), (2, .int v2)] [] h (b_X10_init_143 k136 k143 h v0 v1 v2) := by
  unfold b_X10_init_143
  refine j_iload_n (pc := 143) (p := 2) rfl rfl dX10_init_143 ?_
  refine j_bipush (pc := 144) kb_14 dX10_init_144 ?_
  refine j_ic_ge (pc := 146) (tgt := 166) dX10_init_146 (by decide) (fun _ => ?_) (fun _ => ?_)
  · refine j_inc (pc := 166) (p := 1) (lv' := [(1, .int (v1 + 1)), (0, .ref v0), (2, .int v2)]) rfl ki_1 (by decide) rfl dX10_init_166 ?_
    refine j_goto (pc := 169) (tgt := 136) dX10_init_169 (by decide) ?_
    refine j_sub [1, 0] (lv' := [(0, .ref v0), (1, .int (v1 + 1))]) rfl ?_
    exact hk136 _ _ _
  refine j_aload_n (pc := 149) (p := 0) rfl rfl dX10_init_149 ?_
  refine j_getR (pc := 150) FI_X10 (k := 7) (by decide) fl_X10_47 dX10_init_150 (fun x1 _ => ?_)
  refine j_iload_n (pc := 153) (p := 1) rfl rfl dX10_init_153 ?_
  refine j_iload_n (pc := 154) (p := 2) rfl rfl dX10_init_154 ?_
  refine j_cSi (pc := 155) Y_X10_baseOf ml_X10_90 sm_X10_baseOf ⟨Nat.le_of_ble_eq_true rfl, Nat.le_of_ble_eq_true rfl⟩ dX10_init_155 (As := [.int v1, .int v2]) (rest := [.ref x1]) rfl rfl (Nat.le_of_ble_eq_true rfl) (fun x hq9 => c_X10_baseOf _ _ _ _ hq9) (fun q2 _ => ?_)
  refine j_iconst (pc := 158) ki_m1 dX10_init_158 ?_
  refine j_iast (pc := 159) dX10_init_159 (fun h3 _ => ?_)
  refine j_inc (pc := 160) (p := 2) (lv' := [(2, .int (v2 + 1)), (0, .ref v0), (1, .int v1)]) rfl ki_1 (by decide) rfl dX10_init_160 ?_
  refine j_goto (pc := 163) (tgt := 143) dX10_init_163 (by decide) ?_
  refine j_sub [1, 2, 0] (lv' := [(0, .ref v0), (1, .int v1), (2, .int (v2 + 1))]) rfl ?_
  exact hk143 _ _ _ _
set_option maxRecDepth 20000 in
set_option maxHeartbeats 1000000 in
theorem jl_X10_init_143 {G : q_G} {l : Launch} {k0 z0 : Nat} (hx : G.2.2.2.2.2.2.2 = true) (k136 : q_H → Nat → Int32 → Option (q_H × Unit)) (hk136 : ∀ (h : q_H) (v0 : Nat) (v1 : Int32), q_J G l (RX10, cX10_init, 3, 1, 60, none, "<init>", []) k0 z0 (q_Z G k0 z0 q_u) 136 [(0, .ref v0), (1, .int v1)] [] h (k136 h v0 v1)) (n : Nat) : ∀ (h : q_H) (v0 : Nat) (v1 : Int32) (v2 : Int32), q_J G l (RX10, cX10_init, 3, 1, 60, none, "<init>", []) k0 z0 (q_Z G k0 z0 q_u) 143 [(0, .ref v0), (1, .int v1), (2, .int v2)] [] h (l_X10_init_143 k136 n h v0 v1 v2) := by
  induction n with
  | zero => intro h v0 v1 v2; exact j_none
  | succ n ih => intro h v0 v1 v2; exact jb_X10_init_143 hx k136 (l_X10_init_143 k136 n) hk136 ih h v0 v1 v2
set_option maxRecDepth 20000 in
set_option maxHeartbeats 1000000 in
theorem jb_X10_init_136 {G : q_G} {l : Launch} {k0 z0 : Nat} (hx : G.2.2.2.2.2.2.2 = true) (k136 : q_H → Nat → Int32 → Option (q_H × Unit)) (hk136 : ∀ (h : q_H) (v0 : Nat) (v1 : Int32), q_J G l (RX10, cX10_init, 3, 1, 60, none, "<init>", []) k0 z0 (q_Z G k0 z0 q_u) 136 [(0, .ref v0), (1, .int v1)] [] h (k136 h v0 v1)) (h : q_H) (v0 : Nat) (v1 : Int32) : q_J G l (RX10, cX10_init, 3, 1, 60, none, "<init>", []) k0 z0 (q_Z G k0 z0 q_u) 136 [(0, .ref v0), (1, .int v1)] [] h (b_X10_init_136 k136 h v0 v1) := by
  unfold b_X10_init_136
  refine j_iload_n (pc := 136) (p := 1) rfl rfl dX10_init_136 ?_
  refine j_iconst (pc := 137) ki_3 dX10_init_137 ?_
  refine j_ic_ge (pc := 138) (tgt := 172) dX10_init_138 (by decide) (fun _ => ?_) (fun _ => ?_)
  · exact j_vret (pc := 172) rfl dX10_init_172
  refine j_iconst (pc := 141) ki_0 dX10_init_141 ?_
  refine j_istore_n (pc := 142) (lv' := [(2, .int (0)), (0, .ref v0), (1, .int v1)]) rfl (by decide) rfl dX10_init_142 ?_
  refine j_sub [1, 2, 0] (lv' := [(0, .ref v0), (1, .int v1), (2, .int (0))]) rfl ?_
  exact jl_X10_init_143 hx k136 hk136 q_FU _ _ _ _
set_option maxRecDepth 20000 in
set_option maxHeartbeats 1000000 in
theorem jl_X10_init_136 {G : q_G} {l : Launch} {k0 z0 : Nat} (hx : G.2.2.2.2.2.2.2 = true) (n : Nat) : ∀ (h : q_H) (v0 : Nat) (v1 : Int32), q_J G l (RX10, cX10_init, 3, 1, 60, none, "<init>", []) k0 z0 (q_Z G k0 z0 q_u) 136 [(0, .ref v0), (1, .int v1)] [] h (l_X10_init_136 n h v0 v1) := by
  induction n with
  | zero => intro h v0 v1; exact j_none
  | succ n ih => intro h v0 v1; exact jb_X10_init_136 hx (l_X10_init_136 n) ih h v0 v1
set_option maxRecDepth 20000 in
set_option maxHeartbeats 1000000 in
theorem jb_X10_init_0 {G : q_G} {l : Launch} {k0 z0 : Nat} (hx : G.2.2.2.2.2.2.2 = true) (h : q_H) (v0 : Nat) : q_J G l (RX10, cX10_init, 3, 1, 60, none, "<init>", []) k0 z0 (q_Z G k0 z0 q_u) 0 [(0, .ref v0)] [] h (b_X10_init_0 h v0) := by
  unfold b_X10_init_0
  refine j_aload_n (pc := 0) (p := 0) rfl rfl dX10_init_0 ?_
  refine j_oinit (pc := 1) ml_X10_41 im_Oinit co_Oinit ⟨Nat.le_of_ble_eq_true rfl, Nat.le_of_ble_eq_true rfl⟩ dX10_init_1 ?_
  refine j_aload_n (pc := 4) (p := 0) rfl rfl dX10_init_4 ?_
  refine j_bipush (pc := 5) kb_96 dX10_init_5 ?_
  refine j_newl (pc := 7) hx ac_long dX10_init_7 (fun q4 _ => ?_)
  refine j_putF (pc := 9) FI_X10 (k := 2) (by decide) fl_X10_7 rfl rfl rfl rfl rfl dX10_init_9 (fun h5 _ => ?_)
  refine j_aload_n (pc := 12) (p := 0) rfl rfl dX10_init_12 ?_
  refine j_bipush (pc := 13) kb_80 dX10_init_13 ?_
  refine j_newi (pc := 15) hx ac_int dX10_init_15 (fun q6 _ => ?_)
  refine j_putF (pc := 17) FI_X10 (k := 3) (by decide) fl_X10_17 rfl rfl rfl rfl rfl dX10_init_17 (fun h7 _ => ?_)
  refine j_aload_n (pc := 20) (p := 0) rfl rfl dX10_init_20 ?_
  refine j_sipush (pc := 21) ks_2832 dX10_init_21 ?_
  refine j_newi (pc := 24) hx ac_int dX10_init_24 (fun q8 _ => ?_)
  refine j_putF (pc := 26) FI_X10 (k := 7) (by decide) fl_X10_47 rfl rfl rfl rfl rfl dX10_init_26 (fun h9 _ => ?_)
  refine j_aload_n (pc := 29) (p := 0) rfl rfl dX10_init_29 ?_
  refine j_sipush (pc := 30) ks_200 dX10_init_30 ?_
  refine j_newi (pc := 33) hx ac_int dX10_init_33 (fun q10 _ => ?_)
  refine j_putF (pc := 35) FI_X10 (k := 8) (by decide) fl_X10_50 rfl rfl rfl rfl rfl dX10_init_35 (fun h11 _ => ?_)
  refine j_aload_n (pc := 38) (p := 0) rfl rfl dX10_init_38 ?_
  refine j_bipush (pc := 39) kb_40 dX10_init_39 ?_
  refine j_newz (pc := 41) hx ac_boolean dX10_init_41 (fun q12 _ => ?_)
  refine j_putF (pc := 43) FI_X10 (k := 10) (by decide) fl_X10_53 rfl rfl rfl rfl rfl dX10_init_43 (fun h13 _ => ?_)
  refine j_aload_n (pc := 46) (p := 0) rfl rfl dX10_init_46 ?_
  refine j_sipush (pc := 47) ks_5824 dX10_init_47 ?_
  refine j_newi (pc := 50) hx ac_int dX10_init_50 (fun q14 _ => ?_)
  refine j_putF (pc := 52) FI_X10 (k := 11) (by decide) fl_X10_57 rfl rfl rfl rfl rfl dX10_init_52 (fun h15 _ => ?_)
  refine j_aload_n (pc := 55) (p := 0) rfl rfl dX10_init_55 ?_
  refine j_bipush (pc := 56) kb_80 dX10_init_56 ?_
  refine j_newi (pc := 58) hx ac_int dX10_init_58 (fun q16 _ => ?_)
  refine j_putF (pc := 60) FI_X10 (k := 15) (by decide) fl_X10_60 rfl rfl rfl rfl rfl dX10_init_60 (fun h17 _ => ?_)
  refine j_aload_n (pc := 63) (p := 0) rfl rfl dX10_init_63 ?_
  refine j_bipush (pc := 64) kb_80 dX10_init_64 ?_
  refine j_newi (pc := 66) hx ac_int dX10_init_66 (fun q18 _ => ?_)
  refine j_putF (pc := 68) FI_X10 (k := 16) (by decide) fl_X10_63 rfl rfl rfl rfl rfl dX10_init_68 (fun h19 _ => ?_)
  refine j_aload_n (pc := 71) (p := 0) rfl rfl dX10_init_71 ?_
  refine j_bipush (pc := 72) kb_80 dX10_init_72 ?_
  refine j_newi (pc := 74) hx ac_int dX10_init_74 (fun q20 _ => ?_)
  refine j_putF (pc := 76) FI_X10 (k := 17) (by decide) fl_X10_66 rfl rfl rfl rfl rfl dX10_init_76 (fun h21 _ => ?_)
  refine j_aload_n (pc := 79) (p := 0) rfl rfl dX10_init_79 ?_
  refine j_bipush (pc := 80) kb_80 dX10_init_80 ?_
  refine j_newi (pc := 82) hx ac_int dX10_init_82 (fun q22 _ => ?_)
  refine j_putF (pc := 84) FI_X10 (k := 18) (by decide) fl_X10_69 rfl rfl rfl rfl rfl dX10_init_84 (fun h23 _ => ?_)
  refine j_aload_n (pc := 87) (p := 0) rfl rfl dX10_init_87 ?_
  refine j_bipush (pc := 88) kb_80 dX10_init_88 ?_
  refine j_newi (pc := 90) hx ac_int dX10_init_90 (fun q24 _ => ?_)
  refine j_putF (pc := 92) FI_X10 (k := 19) (by decide) fl_X10_72 rfl rfl rfl rfl rfl dX10_init_92 (fun h25 _ => ?_)
  refine j_aload_n (pc := 95) (p := 0) rfl rfl dX10_init_95 ?_
  refine j_bipush (pc := 96) kb_80 dX10_init_96 ?_
  refine j_newi (pc := 98) hx ac_int dX10_init_98 (fun q26 _ => ?_)
  refine j_putF (pc := 100) FI_X10 (k := 20) (by decide) fl_X10_75 rfl rfl rfl rfl rfl dX10_init_100 (fun h27 _ => ?_)
  refine j_aload_n (pc := 103) (p := 0) rfl rfl dX10_init_103 ?_
  refine j_bipush (pc := 104) kb_80 dX10_init_104 ?_
  refine j_newi (pc := 106) hx ac_int dX10_init_106 (fun q28 _ => ?_)
  refine j_putF (pc := 108) FI_X10 (k := 21) (by decide) fl_X10_78 rfl rfl rfl rfl rfl dX10_init_108 (fun h29 _ => ?_)
  refine j_aload_n (pc := 111) (p := 0) rfl rfl dX10_init_111 ?_
  refine j_bipush (pc := 112) kb_49 dX10_init_112 ?_
  refine j_newi (pc := 114) hx ac_int dX10_init_114 (fun q30 _ => ?_)
  refine j_putF (pc := 116) FI_X10 (k := 22) (by decide) fl_X10_81 rfl rfl rfl rfl rfl dX10_init_116 (fun h31 _ => ?_)
  refine j_aload_n (pc := 119) (p := 0) rfl rfl dX10_init_119 ?_
  refine j_bipush (pc := 120) kb_49 dX10_init_120 ?_
  refine j_newi (pc := 122) hx ac_int dX10_init_122 (fun q32 _ => ?_)
  refine j_putF (pc := 124) FI_X10 (k := 23) (by decide) fl_X10_84 rfl rfl rfl rfl rfl dX10_init_124 (fun h33 _ => ?_)
  refine j_aload_n (pc := 127) (p := 0) rfl rfl dX10_init_127 ?_
  refine j_iconst (pc := 128) ki_2 dX10_init_128 ?_
  refine j_newz (pc := 129) hx ac_boolean dX10_init_129 (fun q34 _ => ?_)
  refine j_putF (pc := 131) FI_X10 (k := 25) (by decide) fl_X10_87 rfl rfl rfl rfl rfl dX10_init_131 (fun h35 _ => ?_)
  refine j_iconst (pc := 134) ki_0 dX10_init_134 ?_
  refine j_istore_n (pc := 135) (lv' := [(1, .int (0)), (0, .ref v0)]) rfl (by decide) rfl dX10_init_135 ?_
  refine j_sub [1, 0] (lv' := [(0, .ref v0), (1, .int (0))]) rfl ?_
  exact jl_X10_init_136 hx q_FU _ _ _
set_option maxRecDepth 20000 in
set_option maxHeartbeats 1000000 in
theorem c_X10_init {G : q_G} {l : Launch} (hx : G.2.2.2.2.2.2.2 = true) : ∀ (h : q_H) (a0 : Nat) (q : q_H × Unit), f_X10_init h a0 = some q → q_CT G l yX10_init cX10_init 3 none 1 60 [.ref a0] h q.1 (q_u q.2) := by
  intro h a0 q e
  exact q_ofJ Y_X10_init (Nat.le_of_ble_eq_true rfl) (jb_X10_init_0 hx h a0) q e
/-! FarFoldersModel.isAhead(III)Z -/
theorem dX10_isAhead_0 : decode cX10_isAhead 0 = .ok (.iload_n 3, 1) := by decide +kernel
theorem dX10_isAhead_1 : decode cX10_isAhead 1 = .ok (.iconst 1, 1) := by decide +kernel
theorem dX10_isAhead_2 : decode cX10_isAhead 2 = .ok (.if_icmp .ne 43, 3) := by decide +kernel
theorem dX10_isAhead_5 : decode cX10_isAhead 5 = .ok (.aload_n 0, 1) := by decide +kernel
theorem dX10_isAhead_6 : decode cX10_isAhead 6 = .ok (.iconst 0, 1) := by decide +kernel
theorem dX10_isAhead_7 : decode cX10_isAhead 7 = .ok (.iload_n 1, 1) := by decide +kernel
theorem dX10_isAhead_8 : decode cX10_isAhead 8 = .ok (.iconst 1, 1) := by decide +kernel
theorem dX10_isAhead_9 : decode cX10_isAhead 9 = .ok (.invokevirtual 129, 3) := by decide +kernel
theorem dX10_isAhead_12 : decode cX10_isAhead 12 = .ok (.aload_n 0, 1) := by decide +kernel
theorem dX10_isAhead_13 : decode cX10_isAhead 13 = .ok (.iconst 0, 1) := by decide +kernel
theorem dX10_isAhead_14 : decode cX10_isAhead 14 = .ok (.iload_n 2, 1) := by decide +kernel
theorem dX10_isAhead_15 : decode cX10_isAhead 15 = .ok (.iconst 1, 1) := by decide +kernel
theorem dX10_isAhead_16 : decode cX10_isAhead 16 = .ok (.invokevirtual 129, 3) := by decide +kernel
theorem dX10_isAhead_19 : decode cX10_isAhead 19 = .ok (.if_icmp .eq 26, 3) := by decide +kernel
theorem dX10_isAhead_22 : decode cX10_isAhead 22 = .ok (.aload_n 0, 1) := by decide +kernel
theorem dX10_isAhead_23 : decode cX10_isAhead 23 = .ok (.iconst 0, 1) := by decide +kernel
theorem dX10_isAhead_24 : decode cX10_isAhead 24 = .ok (.iload_n 1, 1) := by decide +kernel
theorem dX10_isAhead_25 : decode cX10_isAhead 25 = .ok (.iconst 1, 1) := by decide +kernel
theorem dX10_isAhead_26 : decode cX10_isAhead 26 = .ok (.invokevirtual 129, 3) := by decide +kernel
theorem dX10_isAhead_29 : decode cX10_isAhead 29 = .ok (.aload_n 0, 1) := by decide +kernel
theorem dX10_isAhead_30 : decode cX10_isAhead 30 = .ok (.iconst 0, 1) := by decide +kernel
theorem dX10_isAhead_31 : decode cX10_isAhead 31 = .ok (.iload_n 2, 1) := by decide +kernel
theorem dX10_isAhead_32 : decode cX10_isAhead 32 = .ok (.iconst 1, 1) := by decide +kernel
theorem dX10_isAhead_33 : decode cX10_isAhead 33 = .ok (.invokevirtual 129, 3) := by decide +kernel
theorem dX10_isAhead_36 : decode cX10_isAhead 36 = .ok (.if_icmp .ge 7, 3) := by decide +kernel
theorem dX10_isAhead_39 : decode cX10_isAhead 39 = .ok (.iconst 1, 1) := by decide +kernel
theorem dX10_isAhead_40 : decode cX10_isAhead 40 = .ok (.goto 4, 3) := by decide +kernel
theorem dX10_isAhead_43 : decode cX10_isAhead 43 = .ok (.iconst 0, 1) := by decide +kernel
theorem dX10_isAhead_44 : decode cX10_isAhead 44 = .ok (.ireturn, 1) := by decide +kernel
theorem dX10_isAhead_45 : decode cX10_isAhead 45 = .ok (.iload_n 3, 1) := by decide +kernel
theorem dX10_isAhead_46 : decode cX10_isAhead 46 = .ok (.iconst 1, 1) := by decide +kernel
theorem dX10_isAhead_47 : decode cX10_isAhead 47 = .ok (.if_icmp .ne 24, 3) := by decide +kernel
theorem dX10_isAhead_50 : decode cX10_isAhead 50 = .ok (.aload_n 0, 1) := by decide +kernel
theorem dX10_isAhead_51 : decode cX10_isAhead 51 = .ok (.iconst 0, 1) := by decide +kernel
theorem dX10_isAhead_52 : decode cX10_isAhead 52 = .ok (.iload_n 1, 1) := by decide +kernel
theorem dX10_isAhead_53 : decode cX10_isAhead 53 = .ok (.invokevirtual 168, 3) := by decide +kernel
theorem dX10_isAhead_56 : decode cX10_isAhead 56 = .ok (.aload_n 0, 1) := by decide +kernel
theorem dX10_isAhead_57 : decode cX10_isAhead 57 = .ok (.iconst 0, 1) := by decide +kernel
theorem dX10_isAhead_58 : decode cX10_isAhead 58 = .ok (.iload_n 2, 1) := by decide +kernel
theorem dX10_isAhead_59 : decode cX10_isAhead 59 = .ok (.invokevirtual 168, 3) := by decide +kernel
theorem dX10_isAhead_62 : decode cX10_isAhead 62 = .ok (.if_icmp .ge 7, 3) := by decide +kernel
theorem dX10_isAhead_65 : decode cX10_isAhead 65 = .ok (.iconst 1, 1) := by decide +kernel
theorem dX10_isAhead_66 : decode cX10_isAhead 66 = .ok (.goto 4, 3) := by decide +kernel
theorem dX10_isAhead_69 : decode cX10_isAhead 69 = .ok (.iconst 0, 1) := by decide +kernel
theorem dX10_isAhead_70 : decode cX10_isAhead 70 = .ok (.ireturn, 1) := by decide +kernel
theorem dX10_isAhead_71 : decode cX10_isAhead 71 = .ok (.iload_n 3, 1) := by decide +kernel
theorem dX10_isAhead_72 : decode cX10_isAhead 72 = .ok (.iconst 2, 1) := by decide +kernel
theorem dX10_isAhead_73 : decode cX10_isAhead 73 = .ok (.if_icmp .ne 35, 3) := by decide +kernel
theorem dX10_isAhead_76 : decode cX10_isAhead 76 = .ok (.aload_n 0, 1) := by decide +kernel
theorem dX10_isAhead_77 : decode cX10_isAhead 77 = .ok (.iconst 0, 1) := by decide +kernel
theorem dX10_isAhead_78 : decode cX10_isAhead 78 = .ok (.iload_n 2, 1) := by decide +kernel
theorem dX10_isAhead_79 : decode cX10_isAhead 79 = .ok (.iconst 2, 1) := by decide +kernel
theorem dX10_isAhead_80 : decode cX10_isAhead 80 = .ok (.invokevirtual 129, 3) := by decide +kernel
theorem dX10_isAhead_83 : decode cX10_isAhead 83 = .ok (.aload_n 0, 1) := by decide +kernel
theorem dX10_isAhead_84 : decode cX10_isAhead 84 = .ok (.iconst 0, 1) := by decide +kernel
theorem dX10_isAhead_85 : decode cX10_isAhead 85 = .ok (.iload_n 2, 1) := by decide +kernel
theorem dX10_isAhead_86 : decode cX10_isAhead 86 = .ok (.iconst 3, 1) := by decide +kernel
theorem dX10_isAhead_87 : decode cX10_isAhead 87 = .ok (.invokevirtual 129, 3) := by decide +kernel
theorem dX10_isAhead_90 : decode cX10_isAhead 90 = .ok (.aload_n 0, 1) := by decide +kernel
theorem dX10_isAhead_91 : decode cX10_isAhead 91 = .ok (.iconst 0, 1) := by decide +kernel
theorem dX10_isAhead_92 : decode cX10_isAhead 92 = .ok (.iload_n 1, 1) := by decide +kernel
theorem dX10_isAhead_93 : decode cX10_isAhead 93 = .ok (.iconst 2, 1) := by decide +kernel
theorem dX10_isAhead_94 : decode cX10_isAhead 94 = .ok (.invokevirtual 129, 3) := by decide +kernel
theorem dX10_isAhead_97 : decode cX10_isAhead 97 = .ok (.aload_n 0, 1) := by decide +kernel
theorem dX10_isAhead_98 : decode cX10_isAhead 98 = .ok (.iconst 0, 1) := by decide +kernel
theorem dX10_isAhead_99 : decode cX10_isAhead 99 = .ok (.iload_n 1, 1) := by decide +kernel
theorem dX10_isAhead_100 : decode cX10_isAhead 100 = .ok (.iconst 3, 1) := by decide +kernel
theorem dX10_isAhead_101 : decode cX10_isAhead 101 = .ok (.invokevirtual 129, 3) := by decide +kernel
theorem dX10_isAhead_104 : decode cX10_isAhead 104 = .ok (.invokestatic 111, 3) := by decide +kernel
theorem dX10_isAhead_107 : decode cX10_isAhead 107 = .ok (.ireturn, 1) := by decide +kernel
theorem dX10_isAhead_108 : decode cX10_isAhead 108 = .ok (.iload_n 3, 1) := by decide +kernel
theorem dX10_isAhead_109 : decode cX10_isAhead 109 = .ok (.iconst 3, 1) := by decide +kernel
theorem dX10_isAhead_110 : decode cX10_isAhead 110 = .ok (.if_icmp .ne 25, 3) := by decide +kernel
theorem dX10_isAhead_113 : decode cX10_isAhead 113 = .ok (.aload_n 0, 1) := by decide +kernel
theorem dX10_isAhead_114 : decode cX10_isAhead 114 = .ok (.iconst 0, 1) := by decide +kernel
theorem dX10_isAhead_115 : decode cX10_isAhead 115 = .ok (.iload_n 1, 1) := by decide +kernel
theorem dX10_isAhead_116 : decode cX10_isAhead 116 = .ok (.invokevirtual 290, 3) := by decide +kernel
theorem dX10_isAhead_119 : decode cX10_isAhead 119 = .ok (.invokestatic 155, 3) := by decide +kernel
theorem dX10_isAhead_122 : decode cX10_isAhead 122 = .ok (.aload_n 0, 1) := by decide +kernel
theorem dX10_isAhead_123 : decode cX10_isAhead 123 = .ok (.iconst 0, 1) := by decide +kernel
theorem dX10_isAhead_124 : decode cX10_isAhead 124 = .ok (.iload_n 2, 1) := by decide +kernel
theorem dX10_isAhead_125 : decode cX10_isAhead 125 = .ok (.invokevirtual 290, 3) := by decide +kernel
theorem dX10_isAhead_128 : decode cX10_isAhead 128 = .ok (.invokestatic 155, 3) := by decide +kernel
theorem dX10_isAhead_131 : decode cX10_isAhead 131 = .ok (.isub, 1) := by decide +kernel
theorem dX10_isAhead_132 : decode cX10_isAhead 132 = .ok (.goto 4, 3) := by decide +kernel
theorem dX10_isAhead_135 : decode cX10_isAhead 135 = .ok (.iconst 0, 1) := by decide +kernel
theorem dX10_isAhead_136 : decode cX10_isAhead 136 = .ok (.istore 4, 2) := by decide +kernel
theorem dX10_isAhead_138 : decode cX10_isAhead 138 = .ok (.iload 4, 2) := by decide +kernel
theorem dX10_isAhead_140 : decode cX10_isAhead 140 = .ok (.ifCond .eq 16, 3) := by decide +kernel
theorem dX10_isAhead_143 : decode cX10_isAhead 143 = .ok (.iload 4, 2) := by decide +kernel
theorem dX10_isAhead_145 : decode cX10_isAhead 145 = .ok (.ifCond .le 7, 3) := by decide +kernel
theorem dX10_isAhead_148 : decode cX10_isAhead 148 = .ok (.iconst 1, 1) := by decide +kernel
theorem dX10_isAhead_149 : decode cX10_isAhead 149 = .ok (.goto 17, 3) := by decide +kernel
theorem dX10_isAhead_152 : decode cX10_isAhead 152 = .ok (.iconst 0, 1) := by decide +kernel
theorem dX10_isAhead_153 : decode cX10_isAhead 153 = .ok (.goto 13, 3) := by decide +kernel
theorem dX10_isAhead_156 : decode cX10_isAhead 156 = .ok (.iload_n 1, 1) := by decide +kernel
theorem dX10_isAhead_157 : decode cX10_isAhead 157 = .ok (.iload_n 2, 1) := by decide +kernel
theorem dX10_isAhead_158 : decode cX10_isAhead 158 = .ok (.if_icmp .ge 7, 3) := by decide +kernel
theorem dX10_isAhead_161 : decode cX10_isAhead 161 = .ok (.iconst 1, 1) := by decide +kernel
theorem dX10_isAhead_162 : decode cX10_isAhead 162 = .ok (.goto 4, 3) := by decide +kernel
theorem dX10_isAhead_165 : decode cX10_isAhead 165 = .ok (.iconst 0, 1) := by decide +kernel
theorem dX10_isAhead_166 : decode cX10_isAhead 166 = .ok (.ireturn, 1) := by decide +kernel
def b_X10_isAhead_136 (h : q_H) (v1 : Int32) (v2 : Int32) (s0 : Int32) : Option (q_H × Int32) :=
  if s0 = 0 then if v2 ≤ v1 then some (h, (0)) else some (h, (1)) else if s0 ≤ 0 then some (h, (0)) else some (h, (1))
def b_X10_isAhead_45 (h : q_H) (v0 : Nat) (v1 : Int32) (v2 : Int32) (v3 : Int32) : Option (q_H × Int32) :=
  if v3 = (1) then Option.bind (f_X10_rank h v0 (0) v1) (fun q1 => Option.bind (f_X10_rank q1.1 v0 (0) v2) (fun q2 => if q2.2 ≤ q1.2 then some (q2.1, (0)) else some (q2.1, (1)))) else if v3 = (2) then Option.bind (f_X10_its h v0 (0) v2 (2)) (fun q3 => Option.bind (f_X10_its q3.1 v0 (0) v2 (3)) (fun q4 => Option.bind (f_X10_its q4.1 v0 (0) v1 (2)) (fun q5 => Option.bind (f_X10_its q5.1 v0 (0) v1 (3)) (fun q6 => Option.bind (f_X10_isLess q6.1 q3.2 q4.2 q5.2 q6.2) (fun q7 => some (q7.1, vp_nar .boolean q7.2)))))) else if v3 = (3) then Option.bind (f_X10_allBelow h v0 (0) v1) (fun q8 => Option.bind (f_X10_bitsOf q8.1 q8.2) (fun q9 => Option.bind (f_X10_allBelow q9.1 v0 (0) v2) (fun q10 => Option.bind (f_X10_bitsOf q10.1 q10.2) (fun q11 => b_X10_isAhead_136 q11.1 v1 v2 (q9.2 - q11.2))))) else b_X10_isAhead_136 h v1 v2 (0)
def b_X10_isAhead_0 (h : q_H) (v0 : Nat) (v1 : Int32) (v2 : Int32) (v3 : Int32) : Option (q_H × Int32) :=
  if v3 = (1) then Option.bind (f_X10_its h v0 (0) v1 (1)) (fun q12 => Option.bind (f_X10_its q12.1 v0 (0) v2 (1)) (fun q13 => if q12.2 = q13.2 then b_X10_isAhead_45 q13.1 v0 v1 v2 v3 else Option.bind (f_X10_its q13.1 v0 (0) v1 (1)) (fun q14 => Option.bind (f_X10_its q14.1 v0 (0) v2 (1)) (fun q15 => if q15.2 ≤ q14.2 then some (q15.1, (0)) else some (q15.1, (1)))))) else b_X10_isAhead_45 h v0 v1 v2 v3
def f_X10_isAhead (h : q_H) (a0 : Nat) (a1 : Int32) (a2 : Int32) (a3 : Int32) : Option (q_H × Int32) := q_chk 9 h a0 (b_X10_isAhead_0 h a0 a1 a2 a3)
set_option maxRecDepth 20000 in
set_option maxHeartbeats 1000000 in
theorem jb_X10_isAhead_136 {G : q_G} {l : Launch} {k0 z0 : Nat} (h : q_H) (v1 : Int32) (v2 : Int32) (s0 : Int32) : q_J G l (RX10, cX10_isAhead, 5, 3, 71, (some .boolean), "isAhead", []) k0 z0 (q_Z G k0 z0 q_i) 136 [(1, .int v1), (2, .int v2)] [.int s0] h (b_X10_isAhead_136 h v1 v2 s0) := by
  unfold b_X10_isAhead_136
  refine j_istore (pc := 136) (lv' := [(4, .int s0), (1, .int v1), (2, .int v2)]) (by decide) rfl dX10_isAhead_136 ?_
  refine j_iload (pc := 138) (p := 0) rfl dX10_isAhead_138 ?_
  refine j_if_eq (pc := 140) (tgt := 156) dX10_isAhead_140 (by decide) (fun _ => ?_) (fun _ => ?_)
  · refine j_iload_n (pc := 156) (p := 1) rfl rfl dX10_isAhead_156 ?_
    refine j_iload_n (pc := 157) (p := 2) rfl rfl dX10_isAhead_157 ?_
    refine j_ic_ge (pc := 158) (tgt := 165) dX10_isAhead_158 (by decide) (fun _ => ?_) (fun _ => ?_)
    · refine j_iconst (pc := 165) ki_0 dX10_isAhead_165 ?_
      exact j_zret (pc := 166) rfl rfl dX10_isAhead_166
    refine j_iconst (pc := 161) ki_1 dX10_isAhead_161 ?_
    refine j_goto (pc := 162) (tgt := 166) dX10_isAhead_162 (by decide) ?_
    exact j_zret (pc := 166) rfl rfl dX10_isAhead_166
  refine j_iload (pc := 143) (p := 0) rfl dX10_isAhead_143 ?_
  refine j_if_le (pc := 145) (tgt := 152) dX10_isAhead_145 (by decide) (fun _ => ?_) (fun _ => ?_)
  · refine j_iconst (pc := 152) ki_0 dX10_isAhead_152 ?_
    refine j_goto (pc := 153) (tgt := 166) dX10_isAhead_153 (by decide) ?_
    exact j_zret (pc := 166) rfl rfl dX10_isAhead_166
  refine j_iconst (pc := 148) ki_1 dX10_isAhead_148 ?_
  refine j_goto (pc := 149) (tgt := 166) dX10_isAhead_149 (by decide) ?_
  exact j_zret (pc := 166) rfl rfl dX10_isAhead_166
set_option maxRecDepth 20000 in
set_option maxHeartbeats 1000000 in
theorem jb_X10_isAhead_45 {G : q_G} {l : Launch} {k0 z0 : Nat} (h : q_H) (v0 : Nat) (v1 : Int32) (v2 : Int32) (v3 : Int32) : q_J G l (RX10, cX10_isAhead, 5, 3, 71, (some .boolean), "isAhead", []) k0 z0 (q_Z G k0 z0 q_i) 45 [(0, .ref v0), (1, .int v1), (2, .int v2), (3, .int v3)] [] h (b_X10_isAhead_45 h v0 v1 v2 v3) := by
  unfold b_X10_isAhead_45
  refine j_iload_n (pc := 45) (p := 3) rfl rfl dX10_isAhead_45 ?_
  refine j_iconst (pc := 46) ki_1 dX10_isAhead_46 ?_
  refine j_ic_ne (pc := 47) (tgt := 71) dX10_isAhead_47 (by decide) (fun _ => ?_) (fun _ => ?_)
  · refine j_aload_n (pc := 50) (p := 0) rfl rfl dX10_isAhead_50 ?_
    refine j_iconst (pc := 51) ki_0 dX10_isAhead_51 ?_
    refine j_iload_n (pc := 52) (p := 1) rfl rfl dX10_isAhead_52 ?_
    refine j_cVi (pc := 53) Y_X10_rank (ci := 9) (b := v0) rfl rfl ml_X10_168 im_X10_rank se_X10_rank ⟨Nat.le_of_ble_eq_true rfl, Nat.le_of_ble_eq_true rfl⟩ dX10_isAhead_53 (As := [.int (0), .int v1]) (rest := []) rfl rfl (Nat.le_of_ble_eq_true rfl) (fun x hq9 => c_X10_rank _ _ _ _ _ hq9) (fun q1 _ => ?_)
    refine j_aload_n (pc := 56) (p := 0) rfl rfl dX10_isAhead_56 ?_
    refine j_iconst (pc := 57) ki_0 dX10_isAhead_57 ?_
    refine j_iload_n (pc := 58) (p := 2) rfl rfl dX10_isAhead_58 ?_
    refine j_cVi (pc := 59) Y_X10_rank (ci := 9) (b := v0) rfl rfl ml_X10_168 im_X10_rank se_X10_rank ⟨Nat.le_of_ble_eq_true rfl, Nat.le_of_ble_eq_true rfl⟩ dX10_isAhead_59 (As := [.int (0), .int v2]) (rest := [.int q1.2]) rfl rfl (Nat.le_of_ble_eq_true rfl) (fun x hq9 => c_X10_rank _ _ _ _ _ hq9) (fun q2 _ => ?_)
    refine j_ic_ge (pc := 62) (tgt := 69) dX10_isAhead_62 (by decide) (fun _ => ?_) (fun _ => ?_)
    · refine j_iconst (pc := 69) ki_0 dX10_isAhead_69 ?_
      exact j_zret (pc := 70) rfl rfl dX10_isAhead_70
    refine j_iconst (pc := 65) ki_1 dX10_isAhead_65 ?_
    refine j_goto (pc := 66) (tgt := 70) dX10_isAhead_66 (by decide) ?_
    exact j_zret (pc := 70) rfl rfl dX10_isAhead_70
  refine j_iload_n (pc := 71) (p := 3) rfl rfl dX10_isAhead_71 ?_
  refine j_iconst (pc := 72) ki_2 dX10_isAhead_72 ?_
  refine j_ic_ne (pc := 73) (tgt := 108) dX10_isAhead_73 (by decide) (fun _ => ?_) (fun _ => ?_)
  · refine j_aload_n (pc := 76) (p := 0) rfl rfl dX10_isAhead_76 ?_
    refine j_iconst (pc := 77) ki_0 dX10_isAhead_77 ?_
    refine j_iload_n (pc := 78) (p := 2) rfl rfl dX10_isAhead_78 ?_
    refine j_iconst (pc := 79) ki_2 dX10_isAhead_79 ?_
    refine j_cVi (pc := 80) Y_X10_its (ci := 9) (b := v0) rfl rfl ml_X10_129 im_X10_its se_X10_its ⟨Nat.le_of_ble_eq_true rfl, Nat.le_of_ble_eq_true rfl⟩ dX10_isAhead_80 (As := [.int (0), .int v2, .int (2)]) (rest := []) rfl rfl (Nat.le_of_ble_eq_true rfl) (fun x hq9 => c_X10_its _ _ _ _ _ _ hq9) (fun q3 _ => ?_)
    refine j_aload_n (pc := 83) (p := 0) rfl rfl dX10_isAhead_83 ?_
    refine j_iconst (pc := 84) ki_0 dX10_isAhead_84 ?_
    refine j_iload_n (pc := 85) (p := 2) rfl rfl dX10_isAhead_85 ?_
    refine j_iconst (pc := 86) ki_3 dX10_isAhead_86 ?_
    refine j_cVi (pc := 87) Y_X10_its (ci := 9) (b := v0) rfl rfl ml_X10_129 im_X10_its se_X10_its ⟨Nat.le_of_ble_eq_true rfl, Nat.le_of_ble_eq_true rfl⟩ dX10_isAhead_87 (As := [.int (0), .int v2, .int (3)]) (rest := [.int q3.2]) rfl rfl (Nat.le_of_ble_eq_true rfl) (fun x hq9 => c_X10_its _ _ _ _ _ _ hq9) (fun q4 _ => ?_)
    refine j_aload_n (pc := 90) (p := 0) rfl rfl dX10_isAhead_90 ?_
    refine j_iconst (pc := 91) ki_0 dX10_isAhead_91 ?_
    refine j_iload_n (pc := 92) (p := 1) rfl rfl dX10_isAhead_92 ?_
    refine j_iconst (pc := 93) ki_2 dX10_isAhead_93 ?_
    refine j_cVi (pc := 94) Y_X10_its (ci := 9) (b := v0) rfl rfl ml_X10_129 im_X10_its se_X10_its ⟨Nat.le_of_ble_eq_true rfl, Nat.le_of_ble_eq_true rfl⟩ dX10_isAhead_94 (As := [.int (0), .int v1, .int (2)]) (rest := [.int q4.2, .int q3.2]) rfl rfl (Nat.le_of_ble_eq_true rfl) (fun x hq9 => c_X10_its _ _ _ _ _ _ hq9) (fun q5 _ => ?_)
    refine j_aload_n (pc := 97) (p := 0) rfl rfl dX10_isAhead_97 ?_
    refine j_iconst (pc := 98) ki_0 dX10_isAhead_98 ?_
    refine j_iload_n (pc := 99) (p := 1) rfl rfl dX10_isAhead_99 ?_
    refine j_iconst (pc := 100) ki_3 dX10_isAhead_100 ?_
    refine j_cVi (pc := 101) Y_X10_its (ci := 9) (b := v0) rfl rfl ml_X10_129 im_X10_its se_X10_its ⟨Nat.le_of_ble_eq_true rfl, Nat.le_of_ble_eq_true rfl⟩ dX10_isAhead_101 (As := [.int (0), .int v1, .int (3)]) (rest := [.int q5.2, .int q4.2, .int q3.2]) rfl rfl (Nat.le_of_ble_eq_true rfl) (fun x hq9 => c_X10_its _ _ _ _ _ _ hq9) (fun q6 _ => ?_)
    refine j_cSi (pc := 104) Y_X10_isLess ml_X10_111 sm_X10_isLess ⟨Nat.le_of_ble_eq_true rfl, Nat.le_of_ble_eq_true rfl⟩ dX10_isAhead_104 (As := [.int q3.2, .int q4.2, .int q5.2, .int q6.2]) (rest := []) rfl rfl (Nat.le_of_ble_eq_true rfl) (fun x hq9 => c_X10_isLess _ _ _ _ _ _ hq9) (fun q7 _ => ?_)
    exact j_zret (pc := 107) rfl (q_narz _) dX10_isAhead_107
  refine j_iload_n (pc := 108) (p := 3) rfl rfl dX10_isAhead_108 ?_
  refine j_iconst (pc := 109) ki_3 dX10_isAhead_109 ?_
  refine j_ic_ne (pc := 110) (tgt := 135) dX10_isAhead_110 (by decide) (fun _ => ?_) (fun _ => ?_)
  · refine j_aload_n (pc := 113) (p := 0) rfl rfl dX10_isAhead_113 ?_
    refine j_iconst (pc := 114) ki_0 dX10_isAhead_114 ?_
    refine j_iload_n (pc := 115) (p := 1) rfl rfl dX10_isAhead_115 ?_
    refine j_cVi (pc := 116) Y_X10_allBelow (ci := 9) (b := v0) rfl rfl ml_X10_290 im_X10_allBelow se_X10_allBelow ⟨Nat.le_of_ble_eq_true rfl, Nat.le_of_ble_eq_true rfl⟩ dX10_isAhead_116 (As := [.int (0), .int v1]) (rest := []) rfl rfl (Nat.le_of_ble_eq_true rfl) (fun x hq9 => c_X10_allBelow _ _ _ _ _ hq9) (fun q8 _ => ?_)
    refine j_cSi (pc := 119) Y_X10_bitsOf ml_X10_155 sm_X10_bitsOf ⟨Nat.le_of_ble_eq_true rfl, Nat.le_of_ble_eq_true rfl⟩ dX10_isAhead_119 (As := [.int q8.2]) (rest := []) rfl rfl (Nat.le_of_ble_eq_true rfl) (fun x hq9 => c_X10_bitsOf _ _ _ hq9) (fun q9 _ => ?_)
    refine j_aload_n (pc := 122) (p := 0) rfl rfl dX10_isAhead_122 ?_
    refine j_iconst (pc := 123) ki_0 dX10_isAhead_123 ?_
    refine j_iload_n (pc := 124) (p := 2) rfl rfl dX10_isAhead_124 ?_
    refine j_cVi (pc := 125) Y_X10_allBelow (ci := 9) (b := v0) rfl rfl ml_X10_290 im_X10_allBelow se_X10_allBelow ⟨Nat.le_of_ble_eq_true rfl, Nat.le_of_ble_eq_true rfl⟩ dX10_isAhead_125 (As := [.int (0), .int v2]) (rest := [.int q9.2]) rfl rfl (Nat.le_of_ble_eq_true rfl) (fun x hq9 => c_X10_allBelow _ _ _ _ _ hq9) (fun q10 _ => ?_)
    refine j_cSi (pc := 128) Y_X10_bitsOf ml_X10_155 sm_X10_bitsOf ⟨Nat.le_of_ble_eq_true rfl, Nat.le_of_ble_eq_true rfl⟩ dX10_isAhead_128 (As := [.int q10.2]) (rest := [.int q9.2]) rfl rfl (Nat.le_of_ble_eq_true rfl) (fun x hq9 => c_X10_bitsOf _ _ _ hq9) (fun q11 _ => ?_)
    refine j_isub (pc := 131) dX10_isAhead_131 ?_
    refine j_goto (pc := 132) (tgt := 136) dX10_isAhead_132 (by decide) ?_
    refine j_sub [1, 2] (lv' := [(1, .int v1), (2, .int v2)]) rfl ?_
    exact jb_X10_isAhead_136 _ _ _ _
  refine j_iconst (pc := 135) ki_0 dX10_isAhead_135 ?_
  refine j_sub [1, 2] (lv' := [(1, .int v1), (2, .int v2)]) rfl ?_
  exact jb_X10_isAhead_136 _ _ _ _
set_option maxRecDepth 20000 in
set_option maxHeartbeats 1000000 in
theorem jb_X10_isAhead_0 {G : q_G} {l : Launch} {k0 z0 : Nat} (h : q_H) (v0 : Nat) (v1 : Int32) (v2 : Int32) (v3 : Int32) : q_J G l (RX10, cX10_isAhead, 5, 3, 71, (some .boolean), "isAhead", []) k0 z0 (q_Z G k0 z0 q_i) 0 [(0, .ref v0), (1, .int v1), (2, .int v2), (3, .int v3)] [] h (b_X10_isAhead_0 h v0 v1 v2 v3) := by
  unfold b_X10_isAhead_0
  refine j_iload_n (pc := 0) (p := 3) rfl rfl dX10_isAhead_0 ?_
  refine j_iconst (pc := 1) ki_1 dX10_isAhead_1 ?_
  refine j_ic_ne (pc := 2) (tgt := 45) dX10_isAhead_2 (by decide) (fun _ => ?_) (fun _ => ?_)
  · refine j_aload_n (pc := 5) (p := 0) rfl rfl dX10_isAhead_5 ?_
    refine j_iconst (pc := 6) ki_0 dX10_isAhead_6 ?_
    refine j_iload_n (pc := 7) (p := 1) rfl rfl dX10_isAhead_7 ?_
    refine j_iconst (pc := 8) ki_1 dX10_isAhead_8 ?_
    refine j_cVi (pc := 9) Y_X10_its (ci := 9) (b := v0) rfl rfl ml_X10_129 im_X10_its se_X10_its ⟨Nat.le_of_ble_eq_true rfl, Nat.le_of_ble_eq_true rfl⟩ dX10_isAhead_9 (As := [.int (0), .int v1, .int (1)]) (rest := []) rfl rfl (Nat.le_of_ble_eq_true rfl) (fun x hq9 => c_X10_its _ _ _ _ _ _ hq9) (fun q12 _ => ?_)
    refine j_aload_n (pc := 12) (p := 0) rfl rfl dX10_isAhead_12 ?_
    refine j_iconst (pc := 13) ki_0 dX10_isAhead_13 ?_
    refine j_iload_n (pc := 14) (p := 2) rfl rfl dX10_isAhead_14 ?_
    refine j_iconst (pc := 15) ki_1 dX10_isAhead_15 ?_
    refine j_cVi (pc := 16) Y_X10_its (ci := 9) (b := v0) rfl rfl ml_X10_129 im_X10_its se_X10_its ⟨Nat.le_of_ble_eq_true rfl, Nat.le_of_ble_eq_true rfl⟩ dX10_isAhead_16 (As := [.int (0), .int v2, .int (1)]) (rest := [.int q12.2]) rfl rfl (Nat.le_of_ble_eq_true rfl) (fun x hq9 => c_X10_its _ _ _ _ _ _ hq9) (fun q13 _ => ?_)
    refine j_ic_eq (pc := 19) (tgt := 45) dX10_isAhead_19 (by decide) (fun _ => ?_) (fun _ => ?_)
    · exact jb_X10_isAhead_45 _ _ _ _ _
    refine j_aload_n (pc := 22) (p := 0) rfl rfl dX10_isAhead_22 ?_
    refine j_iconst (pc := 23) ki_0 dX10_isAhead_23 ?_
    refine j_iload_n (pc := 24) (p := 1) rfl rfl dX10_isAhead_24 ?_
    refine j_iconst (pc := 25) ki_1 dX10_isAhead_25 ?_
    refine j_cVi (pc := 26) Y_X10_its (ci := 9) (b := v0) rfl rfl ml_X10_129 im_X10_its se_X10_its ⟨Nat.le_of_ble_eq_true rfl, Nat.le_of_ble_eq_true rfl⟩ dX10_isAhead_26 (As := [.int (0), .int v1, .int (1)]) (rest := []) rfl rfl (Nat.le_of_ble_eq_true rfl) (fun x hq9 => c_X10_its _ _ _ _ _ _ hq9) (fun q14 _ => ?_)
    refine j_aload_n (pc := 29) (p := 0) rfl rfl dX10_isAhead_29 ?_
    refine j_iconst (pc := 30) ki_0 dX10_isAhead_30 ?_
    refine j_iload_n (pc := 31) (p := 2) rfl rfl dX10_isAhead_31 ?_
    refine j_iconst (pc := 32) ki_1 dX10_isAhead_32 ?_
    refine j_cVi (pc := 33) Y_X10_its (ci := 9) (b := v0) rfl rfl ml_X10_129 im_X10_its se_X10_its ⟨Nat.le_of_ble_eq_true rfl, Nat.le_of_ble_eq_true rfl⟩ dX10_isAhead_33 (As := [.int (0), .int v2, .int (1)]) (rest := [.int q14.2]) rfl rfl (Nat.le_of_ble_eq_true rfl) (fun x hq9 => c_X10_its _ _ _ _ _ _ hq9) (fun q15 _ => ?_)
    refine j_ic_ge (pc := 36) (tgt := 43) dX10_isAhead_36 (by decide) (fun _ => ?_) (fun _ => ?_)
    · refine j_iconst (pc := 43) ki_0 dX10_isAhead_43 ?_
      exact j_zret (pc := 44) rfl rfl dX10_isAhead_44
    refine j_iconst (pc := 39) ki_1 dX10_isAhead_39 ?_
    refine j_goto (pc := 40) (tgt := 44) dX10_isAhead_40 (by decide) ?_
    exact j_zret (pc := 44) rfl rfl dX10_isAhead_44
  exact jb_X10_isAhead_45 _ _ _ _ _
set_option maxRecDepth 20000 in
set_option maxHeartbeats 1000000 in
theorem c_X10_isAhead {G : q_G} {l : Launch} : ∀ (h : q_H) (a0 : Nat) (a1 : Int32) (a2 : Int32) (a3 : Int32) (q : q_H × Int32), f_X10_isAhead h a0 a1 a2 a3 = some q → (∃ fs, h.1 a0 = .inr (9, fs)) ∧ q_CT G l yX10_isAhead cX10_isAhead 5 (some .boolean) 3 71 [.ref a0, .int a1, .int a2, .int a3] h q.1 (q_i q.2) := by
  intro h a0 a1 a2 a3 q e
  obtain ⟨e1, e2⟩ := q_chk_ok e
  exact ⟨e1, q_ofJ Y_X10_isAhead (Nat.le_of_ble_eq_true rfl) (jb_X10_isAhead_0 h a0 a1 a2 a3) q e2⟩
/-! FarFoldersModel.keep(I)Z -/
theorem dX10_keep_0 : decode cX10_keep 0 = .ok (.aload_n 0, 1) := by decide +kernel
theorem dX10_keep_1 : decode cX10_keep 1 = .ok (.iconst 0, 1) := by decide +kernel
theorem dX10_keep_2 : decode cX10_keep 2 = .ok (.putfield 1, 3) := by decide +kernel
theorem dX10_keep_5 : decode cX10_keep 5 = .ok (.iload_n 1, 1) := by decide +kernel
theorem dX10_keep_6 : decode cX10_keep 6 = .ok (.i2l, 1) := by decide +kernel
theorem dX10_keep_7 : decode cX10_keep 7 = .ok (.lconst 0, 1) := by decide +kernel
theorem dX10_keep_8 : decode cX10_keep 8 = .ok (.lconst 1, 1) := by decide +kernel
theorem dX10_keep_9 : decode cX10_keep 9 = .ok (.invokestatic 21, 3) := by decide +kernel
theorem dX10_keep_12 : decode cX10_keep 12 = .ok (.ifCond .ne 5, 3) := by decide +kernel
theorem dX10_keep_15 : decode cX10_keep 15 = .ok (.iconst 0, 1) := by decide +kernel
theorem dX10_keep_16 : decode cX10_keep 16 = .ok (.ireturn, 1) := by decide +kernel
theorem dX10_keep_17 : decode cX10_keep 17 = .ok (.aload_n 0, 1) := by decide +kernel
theorem dX10_keep_18 : decode cX10_keep 18 = .ok (.getfield 87, 3) := by decide +kernel
theorem dX10_keep_21 : decode cX10_keep 21 = .ok (.iload_n 1, 1) := by decide +kernel
theorem dX10_keep_22 : decode cX10_keep 22 = .ok (.iconst 1, 1) := by decide +kernel
theorem dX10_keep_23 : decode cX10_keep 23 = .ok (.bastore, 1) := by decide +kernel
theorem dX10_keep_24 : decode cX10_keep 24 = .ok (.aload_n 0, 1) := by decide +kernel
theorem dX10_keep_25 : decode cX10_keep 25 = .ok (.iconst 0, 1) := by decide +kernel
theorem dX10_keep_26 : decode cX10_keep 26 = .ok (.iconst 1, 1) := by decide +kernel
theorem dX10_keep_27 : decode cX10_keep 27 = .ok (.iload_n 1, 1) := by decide +kernel
theorem dX10_keep_28 : decode cX10_keep 28 = .ok (.iadd, 1) := by decide +kernel
theorem dX10_keep_29 : decode cX10_keep 29 = .ok (.invokevirtual 359, 3) := by decide +kernel
theorem dX10_keep_32 : decode cX10_keep 32 = .ok (.iconst 1, 1) := by decide +kernel
theorem dX10_keep_33 : decode cX10_keep 33 = .ok (.ireturn, 1) := by decide +kernel
def b_X10_keep_0 (h : q_H) (v0 : Nat) (v1 : Int32) : Option (q_H × Int32) :=
  Option.bind (q_p 9 0 h v0 (.int (0))) (fun h1 => Option.bind (f_X10_in h1 (Int32.toInt64 v1) (0) (1)) (fun q2 => if q2.2 = 0 then some (q2.1, (0)) else Option.bind (q_gR 9 25 q2.1 v0) (fun x3 => Option.bind (q_sI 2 (vp_nar .boolean) q2.1 x3 v1 (1)) (fun h4 => Option.bind (f_X10_copies h4 v0 (0) ((1) + v1)) (fun q5 => some (q5.1, (1)))))))
def f_X10_keep (h : q_H) (a0 : Nat) (a1 : Int32) : Option (q_H × Int32) := q_chk 9 h a0 (b_X10_keep_0 h a0 a1)
set_option maxRecDepth 20000 in
set_option maxHeartbeats 1000000 in
theorem jb_X10_keep_0 {G : q_G} {l : Launch} {k0 z0 : Nat} (h : q_H) (v0 : Nat) (v1 : Int32) : q_J G l (RX10, cX10_keep, 2, 1, 25, (some .boolean), "keep", []) k0 z0 (q_Z G k0 z0 q_i) 0 [(0, .ref v0), (1, .int v1)] [] h (b_X10_keep_0 h v0 v1) := by
  unfold b_X10_keep_0
  refine j_aload_n (pc := 0) (p := 0) rfl rfl dX10_keep_0 ?_
  refine j_iconst (pc := 1) ki_0 dX10_keep_1 ?_
  refine j_put (pc := 2) FI_X10 (k := 0) (by decide) fl_X10_1 rfl rfl rfl dX10_keep_2 (fun h1 _ => ?_)
  refine j_iload_n (pc := 5) (p := 1) rfl rfl dX10_keep_5 ?_
  refine j_i2l (pc := 6) dX10_keep_6 ?_
  refine j_lconst (pc := 7) kl_0 dX10_keep_7 ?_
  refine j_lconst (pc := 8) kl_1 dX10_keep_8 ?_
  refine j_cSi (pc := 9) Y_X10_in ml_X10_21 sm_X10_in ⟨Nat.le_of_ble_eq_true rfl, Nat.le_of_ble_eq_true rfl⟩ dX10_keep_9 (As := [.long (Int32.toInt64 v1), .long (0), .long (1)]) (rest := []) rfl rfl (Nat.le_of_ble_eq_true rfl) (fun x hq9 => c_X10_in _ _ _ _ _ hq9) (fun q2 _ => ?_)
  refine j_if_ne (pc := 12) (tgt := 17) dX10_keep_12 (by decide) (fun _ => ?_) (fun _ => ?_)
  · refine j_iconst (pc := 15) ki_0 dX10_keep_15 ?_
    exact j_zret (pc := 16) rfl rfl dX10_keep_16
  refine j_aload_n (pc := 17) (p := 0) rfl rfl dX10_keep_17 ?_
  refine j_getR (pc := 18) FI_X10 (k := 25) (by decide) fl_X10_87 dX10_keep_18 (fun x3 _ => ?_)
  refine j_iload_n (pc := 21) (p := 1) rfl rfl dX10_keep_21 ?_
  refine j_iconst (pc := 22) ki_1 dX10_keep_22 ?_
  refine j_zast (pc := 23) dX10_keep_23 (fun h4 _ => ?_)
  refine j_aload_n (pc := 24) (p := 0) rfl rfl dX10_keep_24 ?_
  refine j_iconst (pc := 25) ki_0 dX10_keep_25 ?_
  refine j_iconst (pc := 26) ki_1 dX10_keep_26 ?_
  refine j_iload_n (pc := 27) (p := 1) rfl rfl dX10_keep_27 ?_
  refine j_iadd (pc := 28) dX10_keep_28 ?_
  refine j_cVu (pc := 29) Y_X10_copies (ci := 9) (b := v0) rfl rfl ml_X10_359 im_X10_copies se_X10_copies ⟨Nat.le_of_ble_eq_true rfl, Nat.le_of_ble_eq_true rfl⟩ dX10_keep_29 (As := [.int (0), .int ((1) + v1)]) (rest := []) rfl rfl (Nat.le_of_ble_eq_true rfl) (fun x hq9 => c_X10_copies _ _ _ _ _ hq9) (fun q5 _ => ?_)
  refine j_iconst (pc := 32) ki_1 dX10_keep_32 ?_
  exact j_zret (pc := 33) rfl rfl dX10_keep_33
set_option maxRecDepth 20000 in
set_option maxHeartbeats 1000000 in
theorem c_X10_keep {G : q_G} {l : Launch} : ∀ (h : q_H) (a0 : Nat) (a1 : Int32) (q : q_H × Int32), f_X10_keep h a0 a1 = some q → (∃ fs, h.1 a0 = .inr (9, fs)) ∧ q_CT G l yX10_keep cX10_keep 2 (some .boolean) 1 25 [.ref a0, .int a1] h q.1 (q_i q.2) := by
  intro h a0 a1 q e
  obtain ⟨e1, e2⟩ := q_chk_ok e
  exact ⟨e1, q_ofJ Y_X10_keep (Nat.le_of_ble_eq_true rfl) (jb_X10_keep_0 h a0 a1) q e2⟩
/-! FarFoldersModel.late(II)I -/
theorem dX10_late_0 : decode cX10_late 0 = .ok (.aload_n 0, 1) := by decide +kernel
theorem dX10_late_1 : decode cX10_late 1 = .ok (.iconst 0, 1) := by decide +kernel
theorem dX10_late_2 : decode cX10_late 2 = .ok (.putfield 1, 3) := by decide +kernel
theorem dX10_late_5 : decode cX10_late 5 = .ok (.iload_n 1, 1) := by decide +kernel
theorem dX10_late_6 : decode cX10_late 6 = .ok (.iload_n 2, 1) := by decide +kernel
theorem dX10_late_7 : decode cX10_late 7 = .ok (.invokestatic 223, 3) := by decide +kernel
theorem dX10_late_10 : decode cX10_late 10 = .ok (.ifCond .ne 5, 3) := by decide +kernel
theorem dX10_late_13 : decode cX10_late 13 = .ok (.iconst (-1), 1) := by decide +kernel
theorem dX10_late_14 : decode cX10_late 14 = .ok (.ireturn, 1) := by decide +kernel
theorem dX10_late_15 : decode cX10_late 15 = .ok (.aload_n 0, 1) := by decide +kernel
theorem dX10_late_16 : decode cX10_late 16 = .ok (.iload_n 1, 1) := by decide +kernel
theorem dX10_late_17 : decode cX10_late 17 = .ok (.iload_n 2, 1) := by decide +kernel
theorem dX10_late_18 : decode cX10_late 18 = .ok (.invokevirtual 173, 3) := by decide +kernel
theorem dX10_late_21 : decode cX10_late 21 = .ok (.ifCond .ne 6, 3) := by decide +kernel
theorem dX10_late_24 : decode cX10_late 24 = .ok (.bipush (-2), 2) := by decide +kernel
theorem dX10_late_26 : decode cX10_late 26 = .ok (.ireturn, 1) := by decide +kernel
theorem dX10_late_27 : decode cX10_late 27 = .ok (.aload_n 0, 1) := by decide +kernel
theorem dX10_late_28 : decode cX10_late 28 = .ok (.iload_n 1, 1) := by decide +kernel
theorem dX10_late_29 : decode cX10_late 29 = .ok (.iload_n 2, 1) := by decide +kernel
theorem dX10_late_30 : decode cX10_late 30 = .ok (.invokevirtual 226, 3) := by decide +kernel
theorem dX10_late_33 : decode cX10_late 33 = .ok (.aload_n 0, 1) := by decide +kernel
theorem dX10_late_34 : decode cX10_late 34 = .ok (.iconst 0, 1) := by decide +kernel
theorem dX10_late_35 : decode cX10_late 35 = .ok (.putfield 11, 3) := by decide +kernel
theorem dX10_late_38 : decode cX10_late 38 = .ok (.aload_n 0, 1) := by decide +kernel
theorem dX10_late_39 : decode cX10_late 39 = .ok (.aload_n 0, 1) := by decide +kernel
theorem dX10_late_40 : decode cX10_late 40 = .ok (.getfield 220, 3) := by decide +kernel
theorem dX10_late_43 : decode cX10_late 43 = .ok (.i2l, 1) := by decide +kernel
theorem dX10_late_44 : decode cX10_late 44 = .ok (.invokevirtual 202, 3) := by decide +kernel
theorem dX10_late_47 : decode cX10_late 47 = .ok (.aload_n 0, 1) := by decide +kernel
theorem dX10_late_48 : decode cX10_late 48 = .ok (.getfield 214, 3) := by decide +kernel
theorem dX10_late_51 : decode cX10_late 51 = .ok (.ireturn, 1) := by decide +kernel
def b_X10_late_0 (h : q_H) (v0 : Nat) (v1 : Int32) (v2 : Int32) : Option (q_H × Int32) :=
  Option.bind (q_p 9 0 h v0 (.int (0))) (fun h1 => Option.bind (f_X10_areTwo h1 v1 v2) (fun q2 => if q2.2 = 0 then some (q2.1, (-1)) else Option.bind (f_X10_waiting q2.1 v0 v1 v2) (fun q3 => if q3.2 = 0 then some (q3.1, (-2)) else Option.bind (f_X10_tries q3.1 v0 v1 v2) (fun q4 => Option.bind (q_p 9 1 q4.1 v0 (.int (0))) (fun h5 => Option.bind (q_gI 9 14 h5 v0) (fun x6 => Option.bind (f_X10_enters h5 v0 (Int32.toInt64 x6)) (fun q7 => Option.bind (q_gI 9 13 q7.1 v0) (fun x8 => some (q7.1, x8)))))))))
def f_X10_late (h : q_H) (a0 : Nat) (a1 : Int32) (a2 : Int32) : Option (q_H × Int32) := q_chk 9 h a0 (b_X10_late_0 h a0 a1 a2)
set_option maxRecDepth 20000 in
set_option maxHeartbeats 1000000 in
theorem jb_X10_late_0 {G : q_G} {l : Launch} {k0 z0 : Nat} (h : q_H) (v0 : Nat) (v1 : Int32) (v2 : Int32) : q_J G l (RX10, cX10_late, 3, 6, 141, (some .int), "late", []) k0 z0 (q_Z G k0 z0 q_i) 0 [(0, .ref v0), (1, .int v1), (2, .int v2)] [] h (b_X10_late_0 h v0 v1 v2) := by
  unfold b_X10_late_0
  refine j_aload_n (pc := 0) (p := 0) rfl rfl dX10_late_0 ?_
  refine j_iconst (pc := 1) ki_0 dX10_late_1 ?_
  refine j_put (pc := 2) FI_X10 (k := 0) (by decide) fl_X10_1 rfl rfl rfl dX10_late_2 (fun h1 _ => ?_)
  refine j_iload_n (pc := 5) (p := 1) rfl rfl dX10_late_5 ?_
  refine j_iload_n (pc := 6) (p := 2) rfl rfl dX10_late_6 ?_
  refine j_cSi (pc := 7) Y_X10_areTwo ml_X10_223 sm_X10_areTwo ⟨Nat.le_of_ble_eq_true rfl, Nat.le_of_ble_eq_true rfl⟩ dX10_late_7 (As := [.int v1, .int v2]) (rest := []) rfl rfl (Nat.le_of_ble_eq_true rfl) (fun x hq9 => c_X10_areTwo _ _ _ _ hq9) (fun q2 _ => ?_)
  refine j_if_ne (pc := 10) (tgt := 15) dX10_late_10 (by decide) (fun _ => ?_) (fun _ => ?_)
  · refine j_iconst (pc := 13) ki_m1 dX10_late_13 ?_
    exact j_iret (pc := 14) rfl dX10_late_14
  refine j_aload_n (pc := 15) (p := 0) rfl rfl dX10_late_15 ?_
  refine j_iload_n (pc := 16) (p := 1) rfl rfl dX10_late_16 ?_
  refine j_iload_n (pc := 17) (p := 2) rfl rfl dX10_late_17 ?_
  refine j_cVi (pc := 18) Y_X10_waiting (ci := 9) (b := v0) rfl rfl ml_X10_173 im_X10_waiting se_X10_waiting ⟨Nat.le_of_ble_eq_true rfl, Nat.le_of_ble_eq_true rfl⟩ dX10_late_18 (As := [.int v1, .int v2]) (rest := []) rfl rfl (Nat.le_of_ble_eq_true rfl) (fun x hq9 => c_X10_waiting _ _ _ _ _ hq9) (fun q3 _ => ?_)
  refine j_if_ne (pc := 21) (tgt := 27) dX10_late_21 (by decide) (fun _ => ?_) (fun _ => ?_)
  · refine j_bipush (pc := 24) kb_m2 dX10_late_24 ?_
    exact j_iret (pc := 26) rfl dX10_late_26
  refine j_aload_n (pc := 27) (p := 0) rfl rfl dX10_late_27 ?_
  refine j_iload_n (pc := 28) (p := 1) rfl rfl dX10_late_28 ?_
  refine j_iload_n (pc := 29) (p := 2) rfl rfl dX10_late_29 ?_
  refine j_cVu (pc := 30) Y_X10_tries (ci := 9) (b := v0) rfl rfl ml_X10_226 im_X10_tries se_X10_tries ⟨Nat.le_of_ble_eq_true rfl, Nat.le_of_ble_eq_true rfl⟩ dX10_late_30 (As := [.int v1, .int v2]) (rest := []) rfl rfl (Nat.le_of_ble_eq_true rfl) (fun x hq9 => c_X10_tries _ _ _ _ _ hq9) (fun q4 _ => ?_)
  refine j_aload_n (pc := 33) (p := 0) rfl rfl dX10_late_33 ?_
  refine j_iconst (pc := 34) ki_0 dX10_late_34 ?_
  refine j_put (pc := 35) FI_X10 (k := 1) (by decide) fl_X10_11 rfl rfl rfl dX10_late_35 (fun h5 _ => ?_)
  refine j_aload_n (pc := 38) (p := 0) rfl rfl dX10_late_38 ?_
  refine j_aload_n (pc := 39) (p := 0) rfl rfl dX10_late_39 ?_
  refine j_getI (pc := 40) FI_X10 (k := 14) (by decide) fl_X10_220 dX10_late_40 (fun x6 _ => ?_)
  refine j_i2l (pc := 43) dX10_late_43 ?_
  refine j_cVu (pc := 44) Y_X10_enters (ci := 9) (b := v0) rfl rfl ml_X10_202 im_X10_enters se_X10_enters ⟨Nat.le_of_ble_eq_true rfl, Nat.le_of_ble_eq_true rfl⟩ dX10_late_44 (As := [.long (Int32.toInt64 x6)]) (rest := []) rfl rfl (Nat.le_of_ble_eq_true rfl) (fun x hq9 => c_X10_enters _ _ _ _ hq9) (fun q7 _ => ?_)
  refine j_aload_n (pc := 47) (p := 0) rfl rfl dX10_late_47 ?_
  refine j_getI (pc := 48) FI_X10 (k := 13) (by decide) fl_X10_214 dX10_late_48 (fun x8 _ => ?_)
  exact j_iret (pc := 51) rfl dX10_late_51
set_option maxRecDepth 20000 in
set_option maxHeartbeats 1000000 in
theorem c_X10_late {G : q_G} {l : Launch} : ∀ (h : q_H) (a0 : Nat) (a1 : Int32) (a2 : Int32) (q : q_H × Int32), f_X10_late h a0 a1 a2 = some q → (∃ fs, h.1 a0 = .inr (9, fs)) ∧ q_CT G l yX10_late cX10_late 3 (some .int) 6 141 [.ref a0, .int a1, .int a2] h q.1 (q_i q.2) := by
  intro h a0 a1 a2 q e
  obtain ⟨e1, e2⟩ := q_chk_ok e
  exact ⟨e1, q_ofJ Y_X10_late (Nat.le_of_ble_eq_true rfl) (jb_X10_late_0 h a0 a1 a2) q e2⟩
/-! FarFoldersModel.laysBehind(IIIIII)V -/
theorem dX10_laysBehind_0 : decode cX10_laysBehind 0 = .ok (.aload_n 0, 1) := by decide +kernel
theorem dX10_laysBehind_1 : decode cX10_laysBehind 1 = .ok (.iload_n 2, 1) := by decide +kernel
theorem dX10_laysBehind_2 : decode cX10_laysBehind 2 = .ok (.invokevirtual 144, 3) := by decide +kernel
theorem dX10_laysBehind_5 : decode cX10_laysBehind 5 = .ok (.iconst 0, 1) := by decide +kernel
theorem dX10_laysBehind_6 : decode cX10_laysBehind 6 = .ok (.istore 7, 2) := by decide +kernel
theorem dX10_laysBehind_8 : decode cX10_laysBehind 8 = .ok (.iload 7, 2) := by decide +kernel
theorem dX10_laysBehind_10 : decode cX10_laysBehind 10 = .ok (.iload 4, 2) := by decide +kernel
theorem dX10_laysBehind_12 : decode cX10_laysBehind 12 = .ok (.if_icmp .ge 21, 3) := by decide +kernel
theorem dX10_laysBehind_15 : decode cX10_laysBehind 15 = .ok (.aload_n 0, 1) := by decide +kernel
theorem dX10_laysBehind_16 : decode cX10_laysBehind 16 = .ok (.iload_n 3, 1) := by decide +kernel
theorem dX10_laysBehind_17 : decode cX10_laysBehind 17 = .ok (.iload_n 3, 1) := by decide +kernel
theorem dX10_laysBehind_18 : decode cX10_laysBehind 18 = .ok (.iload_n 2, 1) := by decide +kernel
theorem dX10_laysBehind_19 : decode cX10_laysBehind 19 = .ok (.iload 7, 2) := by decide +kernel
theorem dX10_laysBehind_21 : decode cX10_laysBehind 21 = .ok (.invokestatic 176, 3) := by decide +kernel
theorem dX10_laysBehind_24 : decode cX10_laysBehind 24 = .ok (.invokevirtual 217, 3) := by decide +kernel
theorem dX10_laysBehind_27 : decode cX10_laysBehind 27 = .ok (.iinc 7 1, 3) := by decide +kernel
theorem dX10_laysBehind_30 : decode cX10_laysBehind 30 = .ok (.goto (-22), 3) := by decide +kernel
theorem dX10_laysBehind_33 : decode cX10_laysBehind 33 = .ok (.iconst 0, 1) := by decide +kernel
theorem dX10_laysBehind_34 : decode cX10_laysBehind 34 = .ok (.istore 7, 2) := by decide +kernel
theorem dX10_laysBehind_36 : decode cX10_laysBehind 36 = .ok (.iload 7, 2) := by decide +kernel
theorem dX10_laysBehind_38 : decode cX10_laysBehind 38 = .ok (.iload 6, 2) := by decide +kernel
theorem dX10_laysBehind_40 : decode cX10_laysBehind 40 = .ok (.if_icmp .ge 23, 3) := by decide +kernel
theorem dX10_laysBehind_43 : decode cX10_laysBehind 43 = .ok (.aload_n 0, 1) := by decide +kernel
theorem dX10_laysBehind_44 : decode cX10_laysBehind 44 = .ok (.iload 5, 2) := by decide +kernel
theorem dX10_laysBehind_46 : decode cX10_laysBehind 46 = .ok (.iload 5, 2) := by decide +kernel
theorem dX10_laysBehind_48 : decode cX10_laysBehind 48 = .ok (.iload_n 2, 1) := by decide +kernel
theorem dX10_laysBehind_49 : decode cX10_laysBehind 49 = .ok (.iload 7, 2) := by decide +kernel
theorem dX10_laysBehind_51 : decode cX10_laysBehind 51 = .ok (.invokestatic 176, 3) := by decide +kernel
theorem dX10_laysBehind_54 : decode cX10_laysBehind 54 = .ok (.invokevirtual 217, 3) := by decide +kernel
theorem dX10_laysBehind_57 : decode cX10_laysBehind 57 = .ok (.iinc 7 1, 3) := by decide +kernel
theorem dX10_laysBehind_60 : decode cX10_laysBehind 60 = .ok (.goto (-24), 3) := by decide +kernel
theorem dX10_laysBehind_63 : decode cX10_laysBehind 63 = .ok (.aload_n 0, 1) := by decide +kernel
theorem dX10_laysBehind_64 : decode cX10_laysBehind 64 = .ok (.iload_n 1, 1) := by decide +kernel
theorem dX10_laysBehind_65 : decode cX10_laysBehind 65 = .ok (.iload_n 2, 1) := by decide +kernel
theorem dX10_laysBehind_66 : decode cX10_laysBehind 66 = .ok (.iconst (-1), 1) := by decide +kernel
theorem dX10_laysBehind_67 : decode cX10_laysBehind 67 = .ok (.invokevirtual 148, 3) := by decide +kernel
theorem dX10_laysBehind_70 : decode cX10_laysBehind 70 = .ok (.return_, 1) := by decide +kernel
def b_X10_laysBehind_36 (k36 : q_H → Nat → Int32 → Int32 → Int32 → Int32 → Int32 → Option (q_H × Unit)) (h : q_H) (v0 : Nat) (v1 : Int32) (v2 : Int32) (v5 : Int32) (v6 : Int32) (v7 : Int32) : Option (q_H × Unit) :=
  if v6 ≤ v7 then Option.bind (f_X10_grows h v0 v1 v2 (-1)) (fun q1 => some (q1.1, ())) else Option.bind (f_X10_letterOf h v5 v2 v7) (fun q2 => Option.bind (f_X10_putsLetter q2.1 v0 v5 q2.2) (fun q3 => k36 q3.1 v0 v1 v2 v5 v6 (v7 + 1)))
def l_X10_laysBehind_36 : Nat → q_H → Nat → Int32 → Int32 → Int32 → Int32 → Int32 → Option (q_H × Unit)
  | 0, _, _, _, _, _, _, _ => none
  | n + 1, h, v0, v1, v2, v5, v6, v7 => b_X10_laysBehind_36 (l_X10_laysBehind_36 n) h v0 v1 v2 v5 v6 v7
def b_X10_laysBehind_8 (k8 : q_H → Nat → Int32 → Int32 → Int32 → Int32 → Int32 → Int32 → Int32 → Option (q_H × Unit)) (h : q_H) (v0 : Nat) (v1 : Int32) (v2 : Int32) (v3 : Int32) (v4 : Int32) (v5 : Int32) (v6 : Int32) (v7 : Int32) : Option (q_H × Unit) :=
  if v4 ≤ v7 then l_X10_laysBehind_36 q_FU h v0 v1 v2 v5 v6 (0) else Option.bind (f_X10_letterOf h v3 v2 v7) (fun q4 => Option.bind (f_X10_putsLetter q4.1 v0 v3 q4.2) (fun q5 => k8 q5.1 v0 v1 v2 v3 v4 v5 v6 (v7 + 1)))
def l_X10_laysBehind_8 : Nat → q_H → Nat → Int32 → Int32 → Int32 → Int32 → Int32 → Int32 → Int32 → Option (q_H × Unit)
  | 0, _, _, _, _, _, _, _, _, _ => none
  | n + 1, h, v0, v1, v2, v3, v4, v5, v6, v7 => b_X10_laysBehind_8 (l_X10_laysBehind_8 n) h v0 v1 v2 v3 v4 v5 v6 v7
def b_X10_laysBehind_0 (h : q_H) (v0 : Nat) (v1 : Int32) (v2 : Int32) (v3 : Int32) (v4 : Int32) (v5 : Int32) (v6 : Int32) : Option (q_H × Unit) :=
  Option.bind (f_X10_loads h v0 v2) (fun q6 => l_X10_laysBehind_8 q_FU q6.1 v0 v1 v2 v3 v4 v5 v6 (0))
def f_X10_laysBehind (h : q_H) (a0 : Nat) (a1 : Int32) (a2 : Int32) (a3 : Int32) (a4 : Int32) (a5 : Int32) (a6 : Int32) : Option (q_H × Unit) := q_chk 9 h a0 (b_X10_laysBehind_0 h a0 a1 a2 a3 a4 a5 a6)
set_option maxRecDepth 20000 in
set_option maxHeartbeats 1000000 in
theorem jb_X10_laysBehind_36 {G : q_G} {l : Launch} {k0 z0 : Nat} (k36 : q_H → Nat → Int32 → Int32 → Int32 → Int32 → Int32 → Option (q_H × Unit)) (hk36 : ∀ (h : q_H) (v0 : Nat) (v1 : Int32) (v2 : Int32) (v5 : Int32) (v6 : Int32) (v7 : Int32), q_J G l (RX10, cX10_laysBehind, 8, 4, 96, none, "laysBehind", []) k0 z0 (q_Z G k0 z0 q_u) 36 [(0, .ref v0), (1, .int v1), (2, .int v2), (5, .int v5), (6, .int v6), (7, .int v7)] [] h (k36 h v0 v1 v2 v5 v6 v7)) (h : q_H) (v0 : Nat) (v1 : Int32) (v2 : Int32) (v5 : Int32) (v6 : Int32) (v7 : Int32) : q_J G l (RX10, cX10_laysBehind, 8, 4, 96, none, "laysBehind", []) k0 z0 (q_Z G k0 z0 q_u) 36 [(0, .ref v0), (1, .int v1), (2, .int v2), (5, .int v5), (6, .int v6), (7, .int v7)] [] h (b_X10_laysBehind_36 k36 h v0 v1 v2 v5 v6 v7) := by
  unfold b_X10_laysBehind_36
  refine j_iload (pc := 36) (p := 5) rfl dX10_laysBehind_36 ?_
  refine j_iload (pc := 38) (p := 4) rfl dX10_laysBehind_38 ?_
  refine j_ic_ge (pc := 40) (tgt := 63) dX10_laysBehind_40 (by decide) (fun _ => ?_) (fun _ => ?_)
  · refine j_aload_n (pc := 63) (p := 0) rfl rfl dX10_laysBehind_63 ?_
    refine j_iload_n (pc := 64) (p := 1) rfl rfl dX10_laysBehind_64 ?_
    refine j_iload_n (pc := 65) (p := 2) rfl rfl dX10_laysBehind_65 ?_
    refine j_iconst (pc := 66) ki_m1 dX10_laysBehind_66 ?_
    refine j_cVu (pc := 67) Y_X10_grows (ci := 9) (b := v0) rfl rfl ml_X10_148 im_X10_grows se_X10_grows ⟨Nat.le_of_ble_eq_true rfl, Nat.le_of_ble_eq_true rfl⟩ dX10_laysBehind_67 (As := [.int v1, .int v2, .int (-1)]) (rest := []) rfl rfl (Nat.le_of_ble_eq_true rfl) (fun x hq9 => c_X10_grows _ _ _ _ _ _ hq9) (fun q1 _ => ?_)
    exact j_vret (pc := 70) rfl dX10_laysBehind_70
  refine j_aload_n (pc := 43) (p := 0) rfl rfl dX10_laysBehind_43 ?_
  refine j_iload (pc := 44) (p := 3) rfl dX10_laysBehind_44 ?_
  refine j_iload (pc := 46) (p := 3) rfl dX10_laysBehind_46 ?_
  refine j_iload_n (pc := 48) (p := 2) rfl rfl dX10_laysBehind_48 ?_
  refine j_iload (pc := 49) (p := 5) rfl dX10_laysBehind_49 ?_
  refine j_cSi (pc := 51) Y_X10_letterOf ml_X10_176 sm_X10_letterOf ⟨Nat.le_of_ble_eq_true rfl, Nat.le_of_ble_eq_true rfl⟩ dX10_laysBehind_51 (As := [.int v5, .int v2, .int v7]) (rest := [.int v5, .ref v0]) rfl rfl (Nat.le_of_ble_eq_true rfl) (fun x hq9 => c_X10_letterOf _ _ _ _ _ hq9) (fun q2 _ => ?_)
  refine j_cVu (pc := 54) Y_X10_putsLetter (ci := 9) (b := v0) rfl rfl ml_X10_217 im_X10_putsLetter se_X10_putsLetter ⟨Nat.le_of_ble_eq_true rfl, Nat.le_of_ble_eq_true rfl⟩ dX10_laysBehind_54 (As := [.int v5, .int q2.2]) (rest := []) rfl rfl (Nat.le_of_ble_eq_true rfl) (fun x hq9 => c_X10_putsLetter _ _ _ _ _ hq9) (fun q3 _ => ?_)
  refine j_inc (pc := 57) (p := 5) (lv' := [(7, .int (v7 + 1)), (0, .ref v0), (1, .int v1), (2, .int v2), (5, .int v5), (6, .int v6)]) rfl ki_1 (by decide) rfl dX10_laysBehind_57 ?_
  refine j_goto (pc := 60) (tgt := 36) dX10_laysBehind_60 (by decide) ?_
  refine j_sub [1, 2, 3, 4, 5, 0] (lv' := [(0, .ref v0), (1, .int v1), (2, .int v2), (5, .int v5), (6, .int v6), (7, .int (v7 + 1))]) rfl ?_
  exact hk36 _ _ _ _ _ _ _
set_option maxRecDepth 20000 in
set_option maxHeartbeats 1000000 in
theorem jl_X10_laysBehind_36 {G : q_G} {l : Launch} {k0 z0 : Nat} (n : Nat) : ∀ (h : q_H) (v0 : Nat) (v1 : Int32) (v2 : Int32) (v5 : Int32) (v6 : Int32) (v7 : Int32), q_J G l (RX10, cX10_laysBehind, 8, 4, 96, none, "laysBehind", []) k0 z0 (q_Z G k0 z0 q_u) 36 [(0, .ref v0), (1, .int v1), (2, .int v2), (5, .int v5), (6, .int v6), (7, .int v7)] [] h (l_X10_laysBehind_36 n h v0 v1 v2 v5 v6 v7) := by
  induction n with
  | zero => intro h v0 v1 v2 v5 v6 v7; exact j_none
  | succ n ih => intro h v0 v1 v2 v5 v6 v7; exact jb_X10_laysBehind_36 (l_X10_laysBehind_36 n) ih h v0 v1 v2 v5 v6 v7
set_option maxRecDepth 20000 in
set_option maxHeartbeats 1000000 in
theorem jb_X10_laysBehind_8 {G : q_G} {l : Launch} {k0 z0 : Nat} (k8 : q_H → Nat → Int32 → Int32 → Int32 → Int32 → Int32 → Int32 → Int32 → Option (q_H × Unit)) (hk8 : ∀ (h : q_H) (v0 : Nat) (v1 : Int32) (v2 : Int32) (v3 : Int32) (v4 : Int32) (v5 : Int32) (v6 : Int32) (v7 : Int32), q_J G l (RX10, cX10_laysBehind, 8, 4, 96, none, "laysBehind", []) k0 z0 (q_Z G k0 z0 q_u) 8 [(0, .ref v0), (1, .int v1), (2, .int v2), (3, .int v3), (4, .int v4), (5, .int v5), (6, .int v6), (7, .int v7)] [] h (k8 h v0 v1 v2 v3 v4 v5 v6 v7)) (h : q_H) (v0 : Nat) (v1 : Int32) (v2 : Int32) (v3 : Int32) (v4 : Int32) (v5 : Int32) (v6 : Int32) (v7 : Int32) : q_J G l (RX10, cX10_laysBehind, 8, 4, 96, none, "laysBehind", []) k0 z0 (q_Z G k0 z0 q_u) 8 [(0, .ref v0), (1, .int v1), (2, .int v2), (3, .int v3), (4, .int v4), (5, .int v5), (6, .int v6), (7, .int v7)] [] h (b_X10_laysBehind_8 k8 h v0 v1 v2 v3 v4 v5 v6 v7) := by
  unfold b_X10_laysBehind_8
  refine j_iload (pc := 8) (p := 7) rfl dX10_laysBehind_8 ?_
  refine j_iload (pc := 10) (p := 4) rfl dX10_laysBehind_10 ?_
  refine j_ic_ge (pc := 12) (tgt := 33) dX10_laysBehind_12 (by decide) (fun _ => ?_) (fun _ => ?_)
  · refine j_iconst (pc := 33) ki_0 dX10_laysBehind_33 ?_
    refine j_istore (pc := 34) (lv' := [(7, .int (0)), (0, .ref v0), (1, .int v1), (2, .int v2), (3, .int v3), (4, .int v4), (5, .int v5), (6, .int v6)]) (by decide) rfl dX10_laysBehind_34 ?_
    refine j_sub [1, 2, 3, 6, 7, 0] (lv' := [(0, .ref v0), (1, .int v1), (2, .int v2), (5, .int v5), (6, .int v6), (7, .int (0))]) rfl ?_
    exact jl_X10_laysBehind_36 q_FU _ _ _ _ _ _ _
  refine j_aload_n (pc := 15) (p := 0) rfl rfl dX10_laysBehind_15 ?_
  refine j_iload_n (pc := 16) (p := 3) rfl rfl dX10_laysBehind_16 ?_
  refine j_iload_n (pc := 17) (p := 3) rfl rfl dX10_laysBehind_17 ?_
  refine j_iload_n (pc := 18) (p := 2) rfl rfl dX10_laysBehind_18 ?_
  refine j_iload (pc := 19) (p := 7) rfl dX10_laysBehind_19 ?_
  refine j_cSi (pc := 21) Y_X10_letterOf ml_X10_176 sm_X10_letterOf ⟨Nat.le_of_ble_eq_true rfl, Nat.le_of_ble_eq_true rfl⟩ dX10_laysBehind_21 (As := [.int v3, .int v2, .int v7]) (rest := [.int v3, .ref v0]) rfl rfl (Nat.le_of_ble_eq_true rfl) (fun x hq9 => c_X10_letterOf _ _ _ _ _ hq9) (fun q4 _ => ?_)
  refine j_cVu (pc := 24) Y_X10_putsLetter (ci := 9) (b := v0) rfl rfl ml_X10_217 im_X10_putsLetter se_X10_putsLetter ⟨Nat.le_of_ble_eq_true rfl, Nat.le_of_ble_eq_true rfl⟩ dX10_laysBehind_24 (As := [.int v3, .int q4.2]) (rest := []) rfl rfl (Nat.le_of_ble_eq_true rfl) (fun x hq9 => c_X10_putsLetter _ _ _ _ _ hq9) (fun q5 _ => ?_)
  refine j_inc (pc := 27) (p := 7) (lv' := [(7, .int (v7 + 1)), (0, .ref v0), (1, .int v1), (2, .int v2), (3, .int v3), (4, .int v4), (5, .int v5), (6, .int v6)]) rfl ki_1 (by decide) rfl dX10_laysBehind_27 ?_
  refine j_goto (pc := 30) (tgt := 8) dX10_laysBehind_30 (by decide) ?_
  refine j_sub [1, 2, 3, 4, 5, 6, 7, 0] (lv' := [(0, .ref v0), (1, .int v1), (2, .int v2), (3, .int v3), (4, .int v4), (5, .int v5), (6, .int v6), (7, .int (v7 + 1))]) rfl ?_
  exact hk8 _ _ _ _ _ _ _ _ _
set_option maxRecDepth 20000 in
set_option maxHeartbeats 1000000 in
theorem jl_X10_laysBehind_8 {G : q_G} {l : Launch} {k0 z0 : Nat} (n : Nat) : ∀ (h : q_H) (v0 : Nat) (v1 : Int32) (v2 : Int32) (v3 : Int32) (v4 : Int32) (v5 : Int32) (v6 : Int32) (v7 : Int32), q_J G l (RX10, cX10_laysBehind, 8, 4, 96, none, "laysBehind", []) k0 z0 (q_Z G k0 z0 q_u) 8 [(0, .ref v0), (1, .int v1), (2, .int v2), (3, .int v3), (4, .int v4), (5, .int v5), (6, .int v6), (7, .int v7)] [] h (l_X10_laysBehind_8 n h v0 v1 v2 v3 v4 v5 v6 v7) := by
  induction n with
  | zero => intro h v0 v1 v2 v3 v4 v5 v6 v7; exact j_none
  | succ n ih => intro h v0 v1 v2 v3 v4 v5 v6 v7; exact jb_X10_laysBehind_8 (l_X10_laysBehind_8 n) ih h v0 v1 v2 v3 v4 v5 v6 v7
set_option maxRecDepth 20000 in
set_option maxHeartbeats 1000000 in
theorem jb_X10_laysBehind_0 {G : q_G} {l : Launch} {k0 z0 : Nat} (h : q_H) (v0 : Nat) (v1 : Int32) (v2 : Int32) (v3 : Int32) (v4 : Int32) (v5 : Int32) (v6 : Int32) : q_J G l (RX10, cX10_laysBehind, 8, 4, 96, none, "laysBehind", []) k0 z0 (q_Z G k0 z0 q_u) 0 [(0, .ref v0), (1, .int v1), (2, .int v2), (3, .int v3), (4, .int v4), (5, .int v5), (6, .int v6)] [] h (b_X10_laysBehind_0 h v0 v1 v2 v3 v4 v5 v6) := by
  unfold b_X10_laysBehind_0
  refine j_aload_n (pc := 0) (p := 0) rfl rfl dX10_laysBehind_0 ?_
  refine j_iload_n (pc := 1) (p := 2) rfl rfl dX10_laysBehind_1 ?_
  refine j_cVu (pc := 2) Y_X10_loads (ci := 9) (b := v0) rfl rfl ml_X10_144 im_X10_loads se_X10_loads ⟨Nat.le_of_ble_eq_true rfl, Nat.le_of_ble_eq_true rfl⟩ dX10_laysBehind_2 (As := [.int v2]) (rest := []) rfl rfl (Nat.le_of_ble_eq_true rfl) (fun x hq9 => c_X10_loads _ _ _ _ hq9) (fun q6 _ => ?_)
  refine j_iconst (pc := 5) ki_0 dX10_laysBehind_5 ?_
  refine j_istore (pc := 6) (lv' := [(7, .int (0)), (0, .ref v0), (1, .int v1), (2, .int v2), (3, .int v3), (4, .int v4), (5, .int v5), (6, .int v6)]) (by decide) rfl dX10_laysBehind_6 ?_
  refine j_sub [1, 2, 3, 4, 5, 6, 7, 0] (lv' := [(0, .ref v0), (1, .int v1), (2, .int v2), (3, .int v3), (4, .int v4), (5, .int v5), (6, .int v6), (7, .int (0))]) rfl ?_
  exact jl_X10_laysBehind_8 q_FU _ _ _ _ _ _ _ _ _
set_option maxRecDepth 20000 in
set_option maxHeartbeats 1000000 in
theorem c_X10_laysBehind {G : q_G} {l : Launch} : ∀ (h : q_H) (a0 : Nat) (a1 : Int32) (a2 : Int32) (a3 : Int32) (a4 : Int32) (a5 : Int32) (a6 : Int32) (q : q_H × Unit), f_X10_laysBehind h a0 a1 a2 a3 a4 a5 a6 = some q → (∃ fs, h.1 a0 = .inr (9, fs)) ∧ q_CT G l yX10_laysBehind cX10_laysBehind 8 none 4 96 [.ref a0, .int a1, .int a2, .int a3, .int a4, .int a5, .int a6] h q.1 (q_u q.2) := by
  intro h a0 a1 a2 a3 a4 a5 a6 q e
  obtain ⟨e1, e2⟩ := q_chk_ok e
  exact ⟨e1, q_ofJ Y_X10_laysBehind (Nat.le_of_ble_eq_true rfl) (jb_X10_laysBehind_0 h a0 a1 a2 a3 a4 a5 a6) q e2⟩
/-! FarFoldersModel.letters(II)I -/
theorem dX10_letters_0 : decode cX10_letters 0 = .ok (.aload_n 0, 1) := by decide +kernel
theorem dX10_letters_1 : decode cX10_letters 1 = .ok (.iconst 0, 1) := by decide +kernel
theorem dX10_letters_2 : decode cX10_letters 2 = .ok (.putfield 1, 3) := by decide +kernel
theorem dX10_letters_5 : decode cX10_letters 5 = .ok (.iload_n 1, 1) := by decide +kernel
theorem dX10_letters_6 : decode cX10_letters 6 = .ok (.iload_n 2, 1) := by decide +kernel
theorem dX10_letters_7 : decode cX10_letters 7 = .ok (.invokestatic 223, 3) := by decide +kernel
theorem dX10_letters_10 : decode cX10_letters 10 = .ok (.ifCond .ne 5, 3) := by decide +kernel
theorem dX10_letters_13 : decode cX10_letters 13 = .ok (.iconst (-1), 1) := by decide +kernel
theorem dX10_letters_14 : decode cX10_letters 14 = .ok (.ireturn, 1) := by decide +kernel
theorem dX10_letters_15 : decode cX10_letters 15 = .ok (.aload_n 0, 1) := by decide +kernel
theorem dX10_letters_16 : decode cX10_letters 16 = .ok (.iconst 0, 1) := by decide +kernel
theorem dX10_letters_17 : decode cX10_letters 17 = .ok (.putfield 11, 3) := by decide +kernel
theorem dX10_letters_20 : decode cX10_letters 20 = .ok (.iconst 0, 1) := by decide +kernel
theorem dX10_letters_21 : decode cX10_letters 21 = .ok (.istore_n 3, 1) := by decide +kernel
theorem dX10_letters_22 : decode cX10_letters 22 = .ok (.iload_n 3, 1) := by decide +kernel
theorem dX10_letters_23 : decode cX10_letters 23 = .ok (.aload_n 0, 1) := by decide +kernel
theorem dX10_letters_24 : decode cX10_letters 24 = .ok (.iload_n 1, 1) := by decide +kernel
theorem dX10_letters_25 : decode cX10_letters 25 = .ok (.iload_n 2, 1) := by decide +kernel
theorem dX10_letters_26 : decode cX10_letters 26 = .ok (.invokevirtual 173, 3) := by decide +kernel
theorem dX10_letters_29 : decode cX10_letters 29 = .ok (.if_icmp .ge 25, 3) := by decide +kernel
theorem dX10_letters_32 : decode cX10_letters 32 = .ok (.aload_n 0, 1) := by decide +kernel
theorem dX10_letters_33 : decode cX10_letters 33 = .ok (.aload_n 0, 1) := by decide +kernel
theorem dX10_letters_34 : decode cX10_letters 34 = .ok (.getfield 47, 3) := by decide +kernel
theorem dX10_letters_37 : decode cX10_letters 37 = .ok (.iload_n 1, 1) := by decide +kernel
theorem dX10_letters_38 : decode cX10_letters 38 = .ok (.iload_n 2, 1) := by decide +kernel
theorem dX10_letters_39 : decode cX10_letters 39 = .ok (.iload_n 3, 1) := by decide +kernel
theorem dX10_letters_40 : decode cX10_letters 40 = .ok (.invokestatic 176, 3) := by decide +kernel
theorem dX10_letters_43 : decode cX10_letters 43 = .ok (.iaload, 1) := by decide +kernel
theorem dX10_letters_44 : decode cX10_letters 44 = .ok (.i2l, 1) := by decide +kernel
theorem dX10_letters_45 : decode cX10_letters 45 = .ok (.invokevirtual 202, 3) := by decide +kernel
theorem dX10_letters_48 : decode cX10_letters 48 = .ok (.iinc 3 1, 3) := by decide +kernel
theorem dX10_letters_51 : decode cX10_letters 51 = .ok (.goto (-29), 3) := by decide +kernel
theorem dX10_letters_54 : decode cX10_letters 54 = .ok (.aload_n 0, 1) := by decide +kernel
theorem dX10_letters_55 : decode cX10_letters 55 = .ok (.getfield 11, 3) := by decide +kernel
theorem dX10_letters_58 : decode cX10_letters 58 = .ok (.ireturn, 1) := by decide +kernel
def b_X10_letters_22 (k22 : q_H → Nat → Int32 → Int32 → Int32 → Option (q_H × Int32)) (h : q_H) (v0 : Nat) (v1 : Int32) (v2 : Int32) (v3 : Int32) : Option (q_H × Int32) :=
  Option.bind (f_X10_waiting h v0 v1 v2) (fun q1 => if q1.2 ≤ v3 then Option.bind (q_gI 9 1 q1.1 v0) (fun x2 => some (q1.1, x2)) else Option.bind (q_gR 9 7 q1.1 v0) (fun x3 => Option.bind (f_X10_letterOf q1.1 v1 v2 v3) (fun q4 => Option.bind (q_lI 0 q4.1 x3 q4.2) (fun x5 => Option.bind (f_X10_enters q4.1 v0 (Int32.toInt64 x5)) (fun q6 => k22 q6.1 v0 v1 v2 (v3 + 1))))))
def l_X10_letters_22 : Nat → q_H → Nat → Int32 → Int32 → Int32 → Option (q_H × Int32)
  | 0, _, _, _, _, _ => none
  | n + 1, h, v0, v1, v2, v3 => b_X10_letters_22 (l_X10_letters_22 n) h v0 v1 v2 v3
def b_X10_letters_0 (h : q_H) (v0 : Nat) (v1 : Int32) (v2 : Int32) : Option (q_H × Int32) :=
  Option.bind (q_p 9 0 h v0 (.int (0))) (fun h7 => Option.bind (f_X10_areTwo h7 v1 v2) (fun q8 => if q8.2 = 0 then some (q8.1, (-1)) else Option.bind (q_p 9 1 q8.1 v0 (.int (0))) (fun h9 => l_X10_letters_22 q_FU h9 v0 v1 v2 (0))))
def f_X10_letters (h : q_H) (a0 : Nat) (a1 : Int32) (a2 : Int32) : Option (q_H × Int32) := q_chk 9 h a0 (b_X10_letters_0 h a0 a1 a2)
set_option maxRecDepth 20000 in
set_option maxHeartbeats 1000000 in
theorem jb_X10_letters_22 {G : q_G} {l : Launch} {k0 z0 : Nat} (k22 : q_H → Nat → Int32 → Int32 → Int32 → Option (q_H × Int32)) (hk22 : ∀ (h : q_H) (v0 : Nat) (v1 : Int32) (v2 : Int32) (v3 : Int32), q_J G l (RX10, cX10_letters, 4, 3, 66, (some .int), "letters", []) k0 z0 (q_Z G k0 z0 q_i) 22 [(0, .ref v0), (1, .int v1), (2, .int v2), (3, .int v3)] [] h (k22 h v0 v1 v2 v3)) (h : q_H) (v0 : Nat) (v1 : Int32) (v2 : Int32) (v3 : Int32) : q_J G l (RX10, cX10_letters, 4, 3, 66, (some .int), "letters", []) k0 z0 (q_Z G k0 z0 q_i) 22 [(0, .ref v0), (1, .int v1), (2, .int v2), (3, .int v3)] [] h (b_X10_letters_22 k22 h v0 v1 v2 v3) := by
  unfold b_X10_letters_22
  refine j_iload_n (pc := 22) (p := 3) rfl rfl dX10_letters_22 ?_
  refine j_aload_n (pc := 23) (p := 0) rfl rfl dX10_letters_23 ?_
  refine j_iload_n (pc := 24) (p := 1) rfl rfl dX10_letters_24 ?_
  refine j_iload_n (pc := 25) (p := 2) rfl rfl dX10_letters_25 ?_
  refine j_cVi (pc := 26) Y_X10_waiting (ci := 9) (b := v0) rfl rfl ml_X10_173 im_X10_waiting se_X10_waiting ⟨Nat.le_of_ble_eq_true rfl, Nat.le_of_ble_eq_true rfl⟩ dX10_letters_26 (As := [.int v1, .int v2]) (rest := [.int v3]) rfl rfl (Nat.le_of_ble_eq_true rfl) (fun x hq9 => c_X10_waiting _ _ _ _ _ hq9) (fun q1 _ => ?_)
  refine j_ic_ge (pc := 29) (tgt := 54) dX10_letters_29 (by decide) (fun _ => ?_) (fun _ => ?_)
  · refine j_aload_n (pc := 54) (p := 0) rfl rfl dX10_letters_54 ?_
    refine j_getI (pc := 55) FI_X10 (k := 1) (by decide) fl_X10_11 dX10_letters_55 (fun x2 _ => ?_)
    exact j_iret (pc := 58) rfl dX10_letters_58
  refine j_aload_n (pc := 32) (p := 0) rfl rfl dX10_letters_32 ?_
  refine j_aload_n (pc := 33) (p := 0) rfl rfl dX10_letters_33 ?_
  refine j_getR (pc := 34) FI_X10 (k := 7) (by decide) fl_X10_47 dX10_letters_34 (fun x3 _ => ?_)
  refine j_iload_n (pc := 37) (p := 1) rfl rfl dX10_letters_37 ?_
  refine j_iload_n (pc := 38) (p := 2) rfl rfl dX10_letters_38 ?_
  refine j_iload_n (pc := 39) (p := 3) rfl rfl dX10_letters_39 ?_
  refine j_cSi (pc := 40) Y_X10_letterOf ml_X10_176 sm_X10_letterOf ⟨Nat.le_of_ble_eq_true rfl, Nat.le_of_ble_eq_true rfl⟩ dX10_letters_40 (As := [.int v1, .int v2, .int v3]) (rest := [.ref x3, .ref v0]) rfl rfl (Nat.le_of_ble_eq_true rfl) (fun x hq9 => c_X10_letterOf _ _ _ _ _ hq9) (fun q4 _ => ?_)
  refine j_iald (pc := 43) dX10_letters_43 (fun x5 _ => ?_)
  refine j_i2l (pc := 44) dX10_letters_44 ?_
  refine j_cVu (pc := 45) Y_X10_enters (ci := 9) (b := v0) rfl rfl ml_X10_202 im_X10_enters se_X10_enters ⟨Nat.le_of_ble_eq_true rfl, Nat.le_of_ble_eq_true rfl⟩ dX10_letters_45 (As := [.long (Int32.toInt64 x5)]) (rest := []) rfl rfl (Nat.le_of_ble_eq_true rfl) (fun x hq9 => c_X10_enters _ _ _ _ hq9) (fun q6 _ => ?_)
  refine j_inc (pc := 48) (p := 3) (lv' := [(3, .int (v3 + 1)), (0, .ref v0), (1, .int v1), (2, .int v2)]) rfl ki_1 (by decide) rfl dX10_letters_48 ?_
  refine j_goto (pc := 51) (tgt := 22) dX10_letters_51 (by decide) ?_
  refine j_sub [1, 2, 3, 0] (lv' := [(0, .ref v0), (1, .int v1), (2, .int v2), (3, .int (v3 + 1))]) rfl ?_
  exact hk22 _ _ _ _ _
set_option maxRecDepth 20000 in
set_option maxHeartbeats 1000000 in
theorem jl_X10_letters_22 {G : q_G} {l : Launch} {k0 z0 : Nat} (n : Nat) : ∀ (h : q_H) (v0 : Nat) (v1 : Int32) (v2 : Int32) (v3 : Int32), q_J G l (RX10, cX10_letters, 4, 3, 66, (some .int), "letters", []) k0 z0 (q_Z G k0 z0 q_i) 22 [(0, .ref v0), (1, .int v1), (2, .int v2), (3, .int v3)] [] h (l_X10_letters_22 n h v0 v1 v2 v3) := by
  induction n with
  | zero => intro h v0 v1 v2 v3; exact j_none
  | succ n ih => intro h v0 v1 v2 v3; exact jb_X10_letters_22 (l_X10_letters_22 n) ih h v0 v1 v2 v3
set_option maxRecDepth 20000 in
set_option maxHeartbeats 1000000 in
theorem jb_X10_letters_0 {G : q_G} {l : Launch} {k0 z0 : Nat} (h : q_H) (v0 : Nat) (v1 : Int32) (v2 : Int32) : q_J G l (RX10, cX10_letters, 4, 3, 66, (some .int), "letters", []) k0 z0 (q_Z G k0 z0 q_i) 0 [(0, .ref v0), (1, .int v1), (2, .int v2)] [] h (b_X10_letters_0 h v0 v1 v2) := by
  unfold b_X10_letters_0
  refine j_aload_n (pc := 0) (p := 0) rfl rfl dX10_letters_0 ?_
  refine j_iconst (pc := 1) ki_0 dX10_letters_1 ?_
  refine j_put (pc := 2) FI_X10 (k := 0) (by decide) fl_X10_1 rfl rfl rfl dX10_letters_2 (fun h7 _ => ?_)
  refine j_iload_n (pc := 5) (p := 1) rfl rfl dX10_letters_5 ?_
  refine j_iload_n (pc := 6) (p := 2) rfl rfl dX10_letters_6 ?_
  refine j_cSi (pc := 7) Y_X10_areTwo ml_X10_223 sm_X10_areTwo ⟨Nat.le_of_ble_eq_true rfl, Nat.le_of_ble_eq_true rfl⟩ dX10_letters_7 (As := [.int v1, .int v2]) (rest := []) rfl rfl (Nat.le_of_ble_eq_true rfl) (fun x hq9 => c_X10_areTwo _ _ _ _ hq9) (fun q8 _ => ?_)
  refine j_if_ne (pc := 10) (tgt := 15) dX10_letters_10 (by decide) (fun _ => ?_) (fun _ => ?_)
  · refine j_iconst (pc := 13) ki_m1 dX10_letters_13 ?_
    exact j_iret (pc := 14) rfl dX10_letters_14
  refine j_aload_n (pc := 15) (p := 0) rfl rfl dX10_letters_15 ?_
  refine j_iconst (pc := 16) ki_0 dX10_letters_16 ?_
  refine j_put (pc := 17) FI_X10 (k := 1) (by decide) fl_X10_11 rfl rfl rfl dX10_letters_17 (fun h9 _ => ?_)
  refine j_iconst (pc := 20) ki_0 dX10_letters_20 ?_
  refine j_istore_n (pc := 21) (lv' := [(3, .int (0)), (0, .ref v0), (1, .int v1), (2, .int v2)]) rfl (by decide) rfl dX10_letters_21 ?_
  refine j_sub [1, 2, 3, 0] (lv' := [(0, .ref v0), (1, .int v1), (2, .int v2), (3, .int (0))]) rfl ?_
  exact jl_X10_letters_22 q_FU _ _ _ _ _
set_option maxRecDepth 20000 in
set_option maxHeartbeats 1000000 in
theorem c_X10_letters {G : q_G} {l : Launch} : ∀ (h : q_H) (a0 : Nat) (a1 : Int32) (a2 : Int32) (q : q_H × Int32), f_X10_letters h a0 a1 a2 = some q → (∃ fs, h.1 a0 = .inr (9, fs)) ∧ q_CT G l yX10_letters cX10_letters 4 (some .int) 3 66 [.ref a0, .int a1, .int a2] h q.1 (q_i q.2) := by
  intro h a0 a1 a2 q e
  obtain ⟨e1, e2⟩ := q_chk_ok e
  exact ⟨e1, q_ofJ Y_X10_letters (Nat.le_of_ble_eq_true rfl) (jb_X10_letters_0 h a0 a1 a2) q e2⟩
/-! FarFoldersModel.tells(II)V -/
theorem dX10_tells_0 : decode cX10_tells 0 = .ok (.aload_n 0, 1) := by decide +kernel
theorem dX10_tells_1 : decode cX10_tells 1 = .ok (.iconst 0, 1) := by decide +kernel
theorem dX10_tells_2 : decode cX10_tells 2 = .ok (.iload_n 1, 1) := by decide +kernel
theorem dX10_tells_3 : decode cX10_tells 3 = .ok (.invokevirtual 293, 3) := by decide +kernel
theorem dX10_tells_6 : decode cX10_tells 6 = .ok (.istore_n 3, 1) := by decide +kernel
theorem dX10_tells_7 : decode cX10_tells 7 = .ok (.iload_n 3, 1) := by decide +kernel
theorem dX10_tells_8 : decode cX10_tells 8 = .ok (.ifCond .eq 81, 3) := by decide +kernel
theorem dX10_tells_11 : decode cX10_tells 11 = .ok (.iconst (-1), 1) := by decide +kernel
theorem dX10_tells_12 : decode cX10_tells 12 = .ok (.istore 4, 2) := by decide +kernel
theorem dX10_tells_14 : decode cX10_tells 14 = .ok (.iconst 2, 1) := by decide +kernel
theorem dX10_tells_15 : decode cX10_tells 15 = .ok (.istore 5, 2) := by decide +kernel
theorem dX10_tells_17 : decode cX10_tells 17 = .ok (.iload 5, 2) := by decide +kernel
theorem dX10_tells_19 : decode cX10_tells 19 = .ok (.bipush 14, 2) := by decide +kernel
theorem dX10_tells_21 : decode cX10_tells 21 = .ok (.if_icmp .ge 44, 3) := by decide +kernel
theorem dX10_tells_24 : decode cX10_tells 24 = .ok (.iload_n 3, 1) := by decide +kernel
theorem dX10_tells_25 : decode cX10_tells 25 = .ok (.iload 5, 2) := by decide +kernel
theorem dX10_tells_27 : decode cX10_tells 27 = .ok (.invokestatic 302, 3) := by decide +kernel
theorem dX10_tells_30 : decode cX10_tells 30 = .ok (.ifCond .eq 25, 3) := by decide +kernel
theorem dX10_tells_33 : decode cX10_tells 33 = .ok (.iload 4, 2) := by decide +kernel
theorem dX10_tells_35 : decode cX10_tells 35 = .ok (.ifCond .lt 15, 3) := by decide +kernel
theorem dX10_tells_38 : decode cX10_tells 38 = .ok (.aload_n 0, 1) := by decide +kernel
theorem dX10_tells_39 : decode cX10_tells 39 = .ok (.iload 5, 2) := by decide +kernel
theorem dX10_tells_41 : decode cX10_tells 41 = .ok (.iload 4, 2) := by decide +kernel
theorem dX10_tells_43 : decode cX10_tells 43 = .ok (.iload_n 2, 1) := by decide +kernel
theorem dX10_tells_44 : decode cX10_tells 44 = .ok (.invokevirtual 308, 3) := by decide +kernel
theorem dX10_tells_47 : decode cX10_tells 47 = .ok (.ifCond .eq 8, 3) := by decide +kernel
theorem dX10_tells_50 : decode cX10_tells 50 = .ok (.iload 5, 2) := by decide +kernel
theorem dX10_tells_52 : decode cX10_tells 52 = .ok (.goto 5, 3) := by decide +kernel
theorem dX10_tells_55 : decode cX10_tells 55 = .ok (.iload 4, 2) := by decide +kernel
theorem dX10_tells_57 : decode cX10_tells 57 = .ok (.istore 4, 2) := by decide +kernel
theorem dX10_tells_59 : decode cX10_tells 59 = .ok (.iinc 5 1, 3) := by decide +kernel
theorem dX10_tells_62 : decode cX10_tells 62 = .ok (.goto (-45), 3) := by decide +kernel
theorem dX10_tells_65 : decode cX10_tells 65 = .ok (.iload_n 3, 1) := by decide +kernel
theorem dX10_tells_66 : decode cX10_tells 66 = .ok (.iconst 1, 1) := by decide +kernel
theorem dX10_tells_67 : decode cX10_tells 67 = .ok (.iload 4, 2) := by decide +kernel
theorem dX10_tells_69 : decode cX10_tells 69 = .ok (.ishl, 1) := by decide +kernel
theorem dX10_tells_70 : decode cX10_tells 70 = .ok (.isub, 1) := by decide +kernel
theorem dX10_tells_71 : decode cX10_tells 71 = .ok (.istore_n 3, 1) := by decide +kernel
theorem dX10_tells_72 : decode cX10_tells 72 = .ok (.aload_n 0, 1) := by decide +kernel
theorem dX10_tells_73 : decode cX10_tells 73 = .ok (.iload 4, 2) := by decide +kernel
theorem dX10_tells_75 : decode cX10_tells 75 = .ok (.i2l, 1) := by decide +kernel
theorem dX10_tells_76 : decode cX10_tells 76 = .ok (.invokevirtual 202, 3) := by decide +kernel
theorem dX10_tells_79 : decode cX10_tells 79 = .ok (.aload_n 0, 1) := by decide +kernel
theorem dX10_tells_80 : decode cX10_tells 80 = .ok (.iload 4, 2) := by decide +kernel
theorem dX10_tells_82 : decode cX10_tells 82 = .ok (.iload_n 2, 1) := by decide +kernel
theorem dX10_tells_83 : decode cX10_tells 83 = .ok (.invokevirtual 311, 3) := by decide +kernel
theorem dX10_tells_86 : decode cX10_tells 86 = .ok (.goto (-79), 3) := by decide +kernel
theorem dX10_tells_89 : decode cX10_tells 89 = .ok (.return_, 1) := by decide +kernel
def b_X10_tells_57 (self : q_H → Nat → Int32 → Int32 → Option (q_H × Unit)) (k7 : q_H → Nat → Int32 → Int32 → Option (q_H × Unit)) (k17 : q_H → Nat → Int32 → Int32 → Int32 → Int32 → Option (q_H × Unit)) (h : q_H) (v0 : Nat) (v2 : Int32) (v3 : Int32) (v5 : Int32) (s0 : Int32) : Option (q_H × Unit) :=
  k17 h v0 v2 v3 s0 (v5 + 1)
def b_X10_tells_55 (self : q_H → Nat → Int32 → Int32 → Option (q_H × Unit)) (k7 : q_H → Nat → Int32 → Int32 → Option (q_H × Unit)) (k17 : q_H → Nat → Int32 → Int32 → Int32 → Int32 → Option (q_H × Unit)) (h : q_H) (v0 : Nat) (v2 : Int32) (v3 : Int32) (v4 : Int32) (v5 : Int32) : Option (q_H × Unit) :=
  b_X10_tells_57 self k7 k17 h v0 v2 v3 v5 v4
def b_X10_tells_50 (self : q_H → Nat → Int32 → Int32 → Option (q_H × Unit)) (k7 : q_H → Nat → Int32 → Int32 → Option (q_H × Unit)) (k17 : q_H → Nat → Int32 → Int32 → Int32 → Int32 → Option (q_H × Unit)) (h : q_H) (v0 : Nat) (v2 : Int32) (v3 : Int32) (v5 : Int32) : Option (q_H × Unit) :=
  b_X10_tells_57 self k7 k17 h v0 v2 v3 v5 v5
def b_X10_tells_17 (self : q_H → Nat → Int32 → Int32 → Option (q_H × Unit)) (k7 : q_H → Nat → Int32 → Int32 → Option (q_H × Unit)) (k17 : q_H → Nat → Int32 → Int32 → Int32 → Int32 → Option (q_H × Unit)) (h : q_H) (v0 : Nat) (v2 : Int32) (v3 : Int32) (v4 : Int32) (v5 : Int32) : Option (q_H × Unit) :=
  if (14) ≤ v5 then Option.bind (f_X10_enters h v0 (Int32.toInt64 v4)) (fun q1 => Option.bind (self q1.1 v0 v4 v2) (fun q2 => k7 q2.1 v0 v2 (v3 - ((1) <<< (v4 &&& 31))))) else Option.bind (f_X10_has h v3 v5) (fun q3 => if q3.2 = 0 then b_X10_tells_55 self k7 k17 q3.1 v0 v2 v3 v4 v5 else if v4 < 0 then b_X10_tells_50 self k7 k17 q3.1 v0 v2 v3 v5 else Option.bind (f_X10_isAhead q3.1 v0 v5 v4 v2) (fun q4 => if q4.2 = 0 then b_X10_tells_55 self k7 k17 q4.1 v0 v2 v3 v4 v5 else b_X10_tells_50 self k7 k17 q4.1 v0 v2 v3 v5))
def l_X10_tells_17 (self : q_H → Nat → Int32 → Int32 → Option (q_H × Unit)) (k7 : q_H → Nat → Int32 → Int32 → Option (q_H × Unit)) : Nat → q_H → Nat → Int32 → Int32 → Int32 → Int32 → Option (q_H × Unit)
  | 0, _, _, _, _, _, _ => none
  | n + 1, h, v0, v2, v3, v4, v5 => b_X10_tells_17 self k7 (l_X10_tells_17 self k7 n) h v0 v2 v3 v4 v5
def b_X10_tells_7 (self : q_H → Nat → Int32 → Int32 → Option (q_H × Unit)) (k7 : q_H → Nat → Int32 → Int32 → Option (q_H × Unit)) (h : q_H) (v0 : Nat) (v2 : Int32) (v3 : Int32) : Option (q_H × Unit) :=
  if v3 = 0 then some (h, ()) else l_X10_tells_17 self k7 q_FU h v0 v2 v3 (-1) (2)
def l_X10_tells_7 (self : q_H → Nat → Int32 → Int32 → Option (q_H × Unit)) : Nat → q_H → Nat → Int32 → Int32 → Option (q_H × Unit)
  | 0, _, _, _, _ => none
  | n + 1, h, v0, v2, v3 => b_X10_tells_7 self (l_X10_tells_7 self n) h v0 v2 v3
def b_X10_tells_0 (self : q_H → Nat → Int32 → Int32 → Option (q_H × Unit)) (h : q_H) (v0 : Nat) (v1 : Int32) (v2 : Int32) : Option (q_H × Unit) :=
  Option.bind (f_X10_rightBelow h v0 (0) v1) (fun q5 => l_X10_tells_7 self q_FU q5.1 v0 v2 q5.2)
def f_X10_tells : Nat → q_H → Nat → Int32 → Int32 → Option (q_H × Unit)
  | 0, _, _, _, _ => none
  | d + 1, h, a0, a1, a2 => q_chk 9 h a0 (b_X10_tells_0 (f_X10_tells d) h a0 a1 a2)
set_option maxRecDepth 20000 in
set_option maxHeartbeats 1000000 in
theorem jb_X10_tells_57 {G : q_G} {l : Launch} {k0 z0 : Nat} {d : Nat} (self : q_H → Nat → Int32 → Int32 → Option (q_H × Unit)) (hself : ∀ (h : q_H) (a0 : Nat) (a1 : Int32) (a2 : Int32) (q : q_H × Unit), self h a0 a1 a2 = some q → (∃ fs, h.1 a0 = .inr (9, fs)) ∧ q_CT G l yX10_tells cX10_tells 6 none (4 + d) (95 + 25 * d) [.ref a0, .int a1, .int a2] h q.1 (q_u q.2)) (k7 : q_H → Nat → Int32 → Int32 → Option (q_H × Unit)) (k17 : q_H → Nat → Int32 → Int32 → Int32 → Int32 → Option (q_H × Unit)) (hk7 : ∀ (h : q_H) (v0 : Nat) (v2 : Int32) (v3 : Int32), q_J G l (RX10, cX10_tells, 6, 4 + (d + 1), 95 + 25 * (d + 1), none, "tells", []) k0 z0 (q_Z G k0 z0 q_u) 7 [(0, .ref v0), (2, .int v2), (3, .int v3)] [] h (k7 h v0 v2 v3)) (hk17 : ∀ (h : q_H) (v0 : Nat) (v2 : Int32) (v3 : Int32) (v4 : Int32) (v5 : Int32), q_J G l (RX10, cX10_tells, 6, 4 + (d + 1), 95 + 25 * (d + 1), none, "tells", []) k0 z0 (q_Z G k0 z0 q_u) 17 [(0, .ref v0), (2, .int v2), (3, .int v3), (4, .int v4), (5, .int v5)] [] h (k17 h v0 v2 v3 v4 v5)) (h : q_H) (v0 : Nat) (v2 : Int32) (v3 : Int32) (v5 : Int32) (s0 : Int32) : q_J G l (RX10, cX10_tells, 6, 4 + (d + 1), 95 + 25 * (d + 1), none, "tells", []) k0 z0 (q_Z G k0 z0 q_u) 57 [(0, .ref v0), (2, .int v2), (3, .int v3), (5, .int v5)] [.int s0] h (b_X10_tells_57 self k7 k17 h v0 v2 v3 v5 s0) := by
  unfold b_X10_tells_57
  refine j_istore (pc := 57) (lv' := [(4, .int s0), (0, .ref v0), (2, .int v2), (3, .int v3), (5, .int v5)]) (by decide) rfl dX10_tells_57 ?_
  refine j_inc (pc := 59) (p := 4) (lv' := [(5, .int (v5 + 1)), (4, .int s0), (0, .ref v0), (2, .int v2), (3, .int v3)]) rfl ki_1 (by decide) rfl dX10_tells_59 ?_
  refine j_goto (pc := 62) (tgt := 17) dX10_tells_62 (by decide) ?_
  refine j_sub [2, 3, 4, 1, 0] (lv' := [(0, .ref v0), (2, .int v2), (3, .int v3), (4, .int s0), (5, .int (v5 + 1))]) rfl ?_
  exact hk17 _ _ _ _ _ _
set_option maxRecDepth 20000 in
set_option maxHeartbeats 1000000 in
theorem jb_X10_tells_55 {G : q_G} {l : Launch} {k0 z0 : Nat} {d : Nat} (self : q_H → Nat → Int32 → Int32 → Option (q_H × Unit)) (hself : ∀ (h : q_H) (a0 : Nat) (a1 : Int32) (a2 : Int32) (q : q_H × Unit), self h a0 a1 a2 = some q → (∃ fs, h.1 a0 = .inr (9, fs)) ∧ q_CT G l yX10_tells cX10_tells 6 none (4 + d) (95 + 25 * d) [.ref a0, .int a1, .int a2] h q.1 (q_u q.2)) (k7 : q_H → Nat → Int32 → Int32 → Option (q_H × Unit)) (k17 : q_H → Nat → Int32 → Int32 → Int32 → Int32 → Option (q_H × Unit)) (hk7 : ∀ (h : q_H) (v0 : Nat) (v2 : Int32) (v3 : Int32), q_J G l (RX10, cX10_tells, 6, 4 + (d + 1), 95 + 25 * (d + 1), none, "tells", []) k0 z0 (q_Z G k0 z0 q_u) 7 [(0, .ref v0), (2, .int v2), (3, .int v3)] [] h (k7 h v0 v2 v3)) (hk17 : ∀ (h : q_H) (v0 : Nat) (v2 : Int32) (v3 : Int32) (v4 : Int32) (v5 : Int32), q_J G l (RX10, cX10_tells, 6, 4 + (d + 1), 95 + 25 * (d + 1), none, "tells", []) k0 z0 (q_Z G k0 z0 q_u) 17 [(0, .ref v0), (2, .int v2), (3, .int v3), (4, .int v4), (5, .int v5)] [] h (k17 h v0 v2 v3 v4 v5)) (h : q_H) (v0 : Nat) (v2 : Int32) (v3 : Int32) (v4 : Int32) (v5 : Int32) : q_J G l (RX10, cX10_tells, 6, 4 + (d + 1), 95 + 25 * (d + 1), none, "tells", []) k0 z0 (q_Z G k0 z0 q_u) 55 [(0, .ref v0), (2, .int v2), (3, .int v3), (4, .int v4), (5, .int v5)] [] h (b_X10_tells_55 self k7 k17 h v0 v2 v3 v4 v5) := by
  unfold b_X10_tells_55
  refine j_iload (pc := 55) (p := 3) rfl dX10_tells_55 ?_
  refine j_sub [0, 1, 2, 4] (lv' := [(0, .ref v0), (2, .int v2), (3, .int v3), (5, .int v5)]) rfl ?_
  exact jb_X10_tells_57 self hself k7 k17 hk7 hk17 _ _ _ _ _ _
set_option maxRecDepth 20000 in
set_option maxHeartbeats 1000000 in
theorem jb_X10_tells_50 {G : q_G} {l : Launch} {k0 z0 : Nat} {d : Nat} (self : q_H → Nat → Int32 → Int32 → Option (q_H × Unit)) (hself : ∀ (h : q_H) (a0 : Nat) (a1 : Int32) (a2 : Int32) (q : q_H × Unit), self h a0 a1 a2 = some q → (∃ fs, h.1 a0 = .inr (9, fs)) ∧ q_CT G l yX10_tells cX10_tells 6 none (4 + d) (95 + 25 * d) [.ref a0, .int a1, .int a2] h q.1 (q_u q.2)) (k7 : q_H → Nat → Int32 → Int32 → Option (q_H × Unit)) (k17 : q_H → Nat → Int32 → Int32 → Int32 → Int32 → Option (q_H × Unit)) (hk7 : ∀ (h : q_H) (v0 : Nat) (v2 : Int32) (v3 : Int32), q_J G l (RX10, cX10_tells, 6, 4 + (d + 1), 95 + 25 * (d + 1), none, "tells", []) k0 z0 (q_Z G k0 z0 q_u) 7 [(0, .ref v0), (2, .int v2), (3, .int v3)] [] h (k7 h v0 v2 v3)) (hk17 : ∀ (h : q_H) (v0 : Nat) (v2 : Int32) (v3 : Int32) (v4 : Int32) (v5 : Int32), q_J G l (RX10, cX10_tells, 6, 4 + (d + 1), 95 + 25 * (d + 1), none, "tells", []) k0 z0 (q_Z G k0 z0 q_u) 17 [(0, .ref v0), (2, .int v2), (3, .int v3), (4, .int v4), (5, .int v5)] [] h (k17 h v0 v2 v3 v4 v5)) (h : q_H) (v0 : Nat) (v2 : Int32) (v3 : Int32) (v5 : Int32) : q_J G l (RX10, cX10_tells, 6, 4 + (d + 1), 95 + 25 * (d + 1), none, "tells", []) k0 z0 (q_Z G k0 z0 q_u) 50 [(0, .ref v0), (2, .int v2), (3, .int v3), (5, .int v5)] [] h (b_X10_tells_50 self k7 k17 h v0 v2 v3 v5) := by
  unfold b_X10_tells_50
  refine j_iload (pc := 50) (p := 3) rfl dX10_tells_50 ?_
  refine j_goto (pc := 52) (tgt := 57) dX10_tells_52 (by decide) ?_
  exact jb_X10_tells_57 self hself k7 k17 hk7 hk17 _ _ _ _ _ _
set_option maxRecDepth 20000 in
set_option maxHeartbeats 1000000 in
theorem jb_X10_tells_17 {G : q_G} {l : Launch} {k0 z0 : Nat} {d : Nat} (self : q_H → Nat → Int32 → Int32 → Option (q_H × Unit)) (hself : ∀ (h : q_H) (a0 : Nat) (a1 : Int32) (a2 : Int32) (q : q_H × Unit), self h a0 a1 a2 = some q → (∃ fs, h.1 a0 = .inr (9, fs)) ∧ q_CT G l yX10_tells cX10_tells 6 none (4 + d) (95 + 25 * d) [.ref a0, .int a1, .int a2] h q.1 (q_u q.2)) (k7 : q_H → Nat → Int32 → Int32 → Option (q_H × Unit)) (k17 : q_H → Nat → Int32 → Int32 → Int32 → Int32 → Option (q_H × Unit)) (hk7 : ∀ (h : q_H) (v0 : Nat) (v2 : Int32) (v3 : Int32), q_J G l (RX10, cX10_tells, 6, 4 + (d + 1), 95 + 25 * (d + 1), none, "tells", []) k0 z0 (q_Z G k0 z0 q_u) 7 [(0, .ref v0), (2, .int v2), (3, .int v3)] [] h (k7 h v0 v2 v3)) (hk17 : ∀ (h : q_H) (v0 : Nat) (v2 : Int32) (v3 : Int32) (v4 : Int32) (v5 : Int32), q_J G l (RX10, cX10_tells, 6, 4 + (d + 1), 95 + 25 * (d + 1), none, "tells", []) k0 z0 (q_Z G k0 z0 q_u) 17 [(0, .ref v0), (2, .int v2), (3, .int v3), (4, .int v4), (5, .int v5)] [] h (k17 h v0 v2 v3 v4 v5)) (h : q_H) (v0 : Nat) (v2 : Int32) (v3 : Int32) (v4 : Int32) (v5 : Int32) : q_J G l (RX10, cX10_tells, 6, 4 + (d + 1), 95 + 25 * (d + 1), none, "tells", []) k0 z0 (q_Z G k0 z0 q_u) 17 [(0, .ref v0), (2, .int v2), (3, .int v3), (4, .int v4), (5, .int v5)] [] h (b_X10_tells_17 self k7 k17 h v0 v2 v3 v4 v5) := by
  unfold b_X10_tells_17
  refine j_iload (pc := 17) (p := 4) rfl dX10_tells_17 ?_
  refine j_bipush (pc := 19) kb_14 dX10_tells_19 ?_
  refine j_ic_ge (pc := 21) (tgt := 65) dX10_tells_21 (by decide) (fun _ => ?_) (fun _ => ?_)
  · refine j_iload_n (pc := 65) (p := 2) rfl rfl dX10_tells_65 ?_
    refine j_iconst (pc := 66) ki_1 dX10_tells_66 ?_
    refine j_iload (pc := 67) (p := 3) rfl dX10_tells_67 ?_
    refine j_ishl (pc := 69) dX10_tells_69 ?_
    refine j_isub (pc := 70) dX10_tells_70 ?_
    refine j_istore_n (pc := 71) (lv' := [(3, .int (v3 - ((1) <<< (v4 &&& 31)))), (0, .ref v0), (2, .int v2), (4, .int v4), (5, .int v5)]) rfl (by decide) rfl dX10_tells_71 ?_
    refine j_aload_n (pc := 72) (p := 1) rfl rfl dX10_tells_72 ?_
    refine j_iload (pc := 73) (p := 3) rfl dX10_tells_73 ?_
    refine j_i2l (pc := 75) dX10_tells_75 ?_
    refine j_cVu (pc := 76) Y_X10_enters (ci := 9) (b := v0) rfl rfl ml_X10_202 im_X10_enters se_X10_enters ⟨by omega, by omega⟩ dX10_tells_76 (As := [.long (Int32.toInt64 v4)]) (rest := []) rfl rfl (Nat.le_of_ble_eq_true rfl) (fun x hq9 => c_X10_enters _ _ _ _ hq9) (fun q1 _ => ?_)
    refine j_aload_n (pc := 79) (p := 1) rfl rfl dX10_tells_79 ?_
    refine j_iload (pc := 80) (p := 3) rfl dX10_tells_80 ?_
    refine j_iload_n (pc := 82) (p := 2) rfl rfl dX10_tells_82 ?_
    refine j_cVu (pc := 83) Y_X10_tells (ci := 9) (b := v0) rfl rfl ml_X10_311 im_X10_tells se_X10_tells ⟨by omega, by omega⟩ dX10_tells_83 (As := [.int v4, .int v2]) (rest := []) rfl rfl (Nat.le_of_ble_eq_true rfl) (fun x hq9 => hself _ _ _ _ _ hq9) (fun q2 _ => ?_)
    refine j_goto (pc := 86) (tgt := 7) dX10_tells_86 (by decide) ?_
    refine j_sub [1, 2, 0] (lv' := [(0, .ref v0), (2, .int v2), (3, .int (v3 - ((1) <<< (v4 &&& 31))))]) rfl ?_
    exact hk7 _ _ _ _
  refine j_iload_n (pc := 24) (p := 2) rfl rfl dX10_tells_24 ?_
  refine j_iload (pc := 25) (p := 4) rfl dX10_tells_25 ?_
  refine j_cSi (pc := 27) Y_X10_has ml_X10_302 sm_X10_has ⟨by omega, by omega⟩ dX10_tells_27 (As := [.int v3, .int v5]) (rest := []) rfl rfl (Nat.le_of_ble_eq_true rfl) (fun x hq9 => c_X10_has _ _ _ _ hq9) (fun q3 _ => ?_)
  refine j_if_eq (pc := 30) (tgt := 55) dX10_tells_30 (by decide) (fun _ => ?_) (fun _ => ?_)
  · exact jb_X10_tells_55 self hself k7 k17 hk7 hk17 _ _ _ _ _ _
  refine j_iload (pc := 33) (p := 3) rfl dX10_tells_33 ?_
  refine j_if_lt (pc := 35) (tgt := 50) dX10_tells_35 (by decide) (fun _ => ?_) (fun _ => ?_)
  · refine j_sub [0, 1, 2, 4] (lv' := [(0, .ref v0), (2, .int v2), (3, .int v3), (5, .int v5)]) rfl ?_
    exact jb_X10_tells_50 self hself k7 k17 hk7 hk17 _ _ _ _ _
  refine j_aload_n (pc := 38) (p := 0) rfl rfl dX10_tells_38 ?_
  refine j_iload (pc := 39) (p := 4) rfl dX10_tells_39 ?_
  refine j_iload (pc := 41) (p := 3) rfl dX10_tells_41 ?_
  refine j_iload_n (pc := 43) (p := 1) rfl rfl dX10_tells_43 ?_
  refine j_cVi (pc := 44) Y_X10_isAhead (ci := 9) (b := v0) rfl rfl ml_X10_308 im_X10_isAhead se_X10_isAhead ⟨by omega, by omega⟩ dX10_tells_44 (As := [.int v5, .int v4, .int v2]) (rest := []) rfl rfl (Nat.le_of_ble_eq_true rfl) (fun x hq9 => c_X10_isAhead _ _ _ _ _ _ hq9) (fun q4 _ => ?_)
  refine j_if_eq (pc := 47) (tgt := 55) dX10_tells_47 (by decide) (fun _ => ?_) (fun _ => ?_)
  · exact jb_X10_tells_55 self hself k7 k17 hk7 hk17 _ _ _ _ _ _
  refine j_sub [0, 1, 2, 4] (lv' := [(0, .ref v0), (2, .int v2), (3, .int v3), (5, .int v5)]) rfl ?_
  exact jb_X10_tells_50 self hself k7 k17 hk7 hk17 _ _ _ _ _
set_option maxRecDepth 20000 in
set_option maxHeartbeats 1000000 in
theorem jl_X10_tells_17 {G : q_G} {l : Launch} {k0 z0 : Nat} {d : Nat} (self : q_H → Nat → Int32 → Int32 → Option (q_H × Unit)) (hself : ∀ (h : q_H) (a0 : Nat) (a1 : Int32) (a2 : Int32) (q : q_H × Unit), self h a0 a1 a2 = some q → (∃ fs, h.1 a0 = .inr (9, fs)) ∧ q_CT G l yX10_tells cX10_tells 6 none (4 + d) (95 + 25 * d) [.ref a0, .int a1, .int a2] h q.1 (q_u q.2)) (k7 : q_H → Nat → Int32 → Int32 → Option (q_H × Unit)) (hk7 : ∀ (h : q_H) (v0 : Nat) (v2 : Int32) (v3 : Int32), q_J G l (RX10, cX10_tells, 6, 4 + (d + 1), 95 + 25 * (d + 1), none, "tells", []) k0 z0 (q_Z G k0 z0 q_u) 7 [(0, .ref v0), (2, .int v2), (3, .int v3)] [] h (k7 h v0 v2 v3)) (n : Nat) : ∀ (h : q_H) (v0 : Nat) (v2 : Int32) (v3 : Int32) (v4 : Int32) (v5 : Int32), q_J G l (RX10, cX10_tells, 6, 4 + (d + 1), 95 + 25 * (d + 1), none, "tells", []) k0 z0 (q_Z G k0 z0 q_u) 17 [(0, .ref v0), (2, .int v2), (3, .int v3), (4, .int v4), (5, .int v5)] [] h (l_X10_tells_17 self k7 n h v0 v2 v3 v4 v5) := by
  induction n with
  | zero => intro h v0 v2 v3 v4 v5; exact j_none
  | succ n ih => intro h v0 v2 v3 v4 v5; exact jb_X10_tells_17 self hself k7 (l_X10_tells_17 self k7 n) hk7 ih h v0 v2 v3 v4 v5
set_option maxRecDepth 20000 in
set_option maxHeartbeats 1000000 in
theorem jb_X10_tells_7 {G : q_G} {l : Launch} {k0 z0 : Nat} {d : Nat} (self : q_H → Nat → Int32 → Int32 → Option (q_H × Unit)) (hself : ∀ (h : q_H) (a0 : Nat) (a1 : Int32) (a2 : Int32) (q : q_H × Unit), self h a0 a1 a2 = some q → (∃ fs, h.1 a0 = .inr (9, fs)) ∧ q_CT G l yX10_tells cX10_tells 6 none (4 + d) (95 + 25 * d) [.ref a0, .int a1, .int a2] h q.1 (q_u q.2)) (k7 : q_H → Nat → Int32 → Int32 → Option (q_H × Unit)) (hk7 : ∀ (h : q_H) (v0 : Nat) (v2 : Int32) (v3 : Int32), q_J G l (RX10, cX10_tells, 6, 4 + (d + 1), 95 + 25 * (d + 1), none, "tells", []) k0 z0 (q_Z G k0 z0 q_u) 7 [(0, .ref v0), (2, .int v2), (3, .int v3)] [] h (k7 h v0 v2 v3)) (h : q_H) (v0 : Nat) (v2 : Int32) (v3 : Int32) : q_J G l (RX10, cX10_tells, 6, 4 + (d + 1), 95 + 25 * (d + 1), none, "tells", []) k0 z0 (q_Z G k0 z0 q_u) 7 [(0, .ref v0), (2, .int v2), (3, .int v3)] [] h (b_X10_tells_7 self k7 h v0 v2 v3) := by
  unfold b_X10_tells_7
  refine j_iload_n (pc := 7) (p := 2) rfl rfl dX10_tells_7 ?_
  refine j_if_eq (pc := 8) (tgt := 89) dX10_tells_8 (by decide) (fun _ => ?_) (fun _ => ?_)
  · exact j_vret (pc := 89) rfl dX10_tells_89
  refine j_iconst (pc := 11) ki_m1 dX10_tells_11 ?_
  refine j_istore (pc := 12) (lv' := [(4, .int (-1)), (0, .ref v0), (2, .int v2), (3, .int v3)]) (by decide) rfl dX10_tells_12 ?_
  refine j_iconst (pc := 14) ki_2 dX10_tells_14 ?_
  refine j_istore (pc := 15) (lv' := [(5, .int (2)), (4, .int (-1)), (0, .ref v0), (2, .int v2), (3, .int v3)]) (by decide) rfl dX10_tells_15 ?_
  refine j_sub [2, 3, 4, 1, 0] (lv' := [(0, .ref v0), (2, .int v2), (3, .int v3), (4, .int (-1)), (5, .int (2))]) rfl ?_
  exact jl_X10_tells_17 self hself k7 hk7 q_FU _ _ _ _ _ _
set_option maxRecDepth 20000 in
set_option maxHeartbeats 1000000 in
theorem jl_X10_tells_7 {G : q_G} {l : Launch} {k0 z0 : Nat} {d : Nat} (self : q_H → Nat → Int32 → Int32 → Option (q_H × Unit)) (hself : ∀ (h : q_H) (a0 : Nat) (a1 : Int32) (a2 : Int32) (q : q_H × Unit), self h a0 a1 a2 = some q → (∃ fs, h.1 a0 = .inr (9, fs)) ∧ q_CT G l yX10_tells cX10_tells 6 none (4 + d) (95 + 25 * d) [.ref a0, .int a1, .int a2] h q.1 (q_u q.2)) (n : Nat) : ∀ (h : q_H) (v0 : Nat) (v2 : Int32) (v3 : Int32), q_J G l (RX10, cX10_tells, 6, 4 + (d + 1), 95 + 25 * (d + 1), none, "tells", []) k0 z0 (q_Z G k0 z0 q_u) 7 [(0, .ref v0), (2, .int v2), (3, .int v3)] [] h (l_X10_tells_7 self n h v0 v2 v3) := by
  induction n with
  | zero => intro h v0 v2 v3; exact j_none
  | succ n ih => intro h v0 v2 v3; exact jb_X10_tells_7 self hself (l_X10_tells_7 self n) ih h v0 v2 v3
set_option maxRecDepth 20000 in
set_option maxHeartbeats 1000000 in
theorem jb_X10_tells_0 {G : q_G} {l : Launch} {k0 z0 : Nat} {d : Nat} (self : q_H → Nat → Int32 → Int32 → Option (q_H × Unit)) (hself : ∀ (h : q_H) (a0 : Nat) (a1 : Int32) (a2 : Int32) (q : q_H × Unit), self h a0 a1 a2 = some q → (∃ fs, h.1 a0 = .inr (9, fs)) ∧ q_CT G l yX10_tells cX10_tells 6 none (4 + d) (95 + 25 * d) [.ref a0, .int a1, .int a2] h q.1 (q_u q.2)) (h : q_H) (v0 : Nat) (v1 : Int32) (v2 : Int32) : q_J G l (RX10, cX10_tells, 6, 4 + (d + 1), 95 + 25 * (d + 1), none, "tells", []) k0 z0 (q_Z G k0 z0 q_u) 0 [(0, .ref v0), (1, .int v1), (2, .int v2)] [] h (b_X10_tells_0 self h v0 v1 v2) := by
  unfold b_X10_tells_0
  refine j_aload_n (pc := 0) (p := 0) rfl rfl dX10_tells_0 ?_
  refine j_iconst (pc := 1) ki_0 dX10_tells_1 ?_
  refine j_iload_n (pc := 2) (p := 1) rfl rfl dX10_tells_2 ?_
  refine j_cVi (pc := 3) Y_X10_rightBelow (ci := 9) (b := v0) rfl rfl ml_X10_293 im_X10_rightBelow se_X10_rightBelow ⟨by omega, by omega⟩ dX10_tells_3 (As := [.int (0), .int v1]) (rest := []) rfl rfl (Nat.le_of_ble_eq_true rfl) (fun x hq9 => c_X10_rightBelow _ _ _ _ _ hq9) (fun q5 _ => ?_)
  refine j_istore_n (pc := 6) (lv' := [(3, .int q5.2), (0, .ref v0), (1, .int v1), (2, .int v2)]) rfl (by decide) rfl dX10_tells_6 ?_
  refine j_sub [1, 3, 0] (lv' := [(0, .ref v0), (2, .int v2), (3, .int q5.2)]) rfl ?_
  exact jl_X10_tells_7 self hself q_FU _ _ _ _
set_option maxRecDepth 20000 in
set_option maxHeartbeats 1000000 in
theorem c_X10_tells {G : q_G} {l : Launch} (d : Nat) : ∀ (h : q_H) (a0 : Nat) (a1 : Int32) (a2 : Int32) (q : q_H × Unit), f_X10_tells d h a0 a1 a2 = some q → (∃ fs, h.1 a0 = .inr (9, fs)) ∧ q_CT G l yX10_tells cX10_tells 6 none (4 + d) (95 + 25 * d) [.ref a0, .int a1, .int a2] h q.1 (q_u q.2) := by
  induction d with
  | zero => intro h a0 a1 a2 q e; cases e
  | succ d ih =>
    intro h a0 a1 a2 q e
    obtain ⟨e1, e2⟩ := q_chk_ok e
    exact ⟨e1, q_ofJ Y_X10_tells (Nat.le_of_ble_eq_true rfl) (jb_X10_tells_0 (f_X10_tells d) ih h a0 a1 a2) q e2⟩
/-! FarFoldersModel.lists(III)I -/
theorem dX10_lists_0 : decode cX10_lists 0 = .ok (.aload_n 0, 1) := by decide +kernel
theorem dX10_lists_1 : decode cX10_lists 1 = .ok (.iconst 0, 1) := by decide +kernel
theorem dX10_lists_2 : decode cX10_lists 2 = .ok (.putfield 1, 3) := by decide +kernel
theorem dX10_lists_5 : decode cX10_lists 5 = .ok (.iload_n 3, 1) := by decide +kernel
theorem dX10_lists_6 : decode cX10_lists 6 = .ok (.i2l, 1) := by decide +kernel
theorem dX10_lists_7 : decode cX10_lists 7 = .ok (.lconst 0, 1) := by decide +kernel
theorem dX10_lists_8 : decode cX10_lists 8 = .ok (.ldc2_w 314, 3) := by decide +kernel
theorem dX10_lists_11 : decode cX10_lists 11 = .ok (.invokestatic 21, 3) := by decide +kernel
theorem dX10_lists_14 : decode cX10_lists 14 = .ok (.ifCond .ne 5, 3) := by decide +kernel
theorem dX10_lists_17 : decode cX10_lists 17 = .ok (.iconst (-1), 1) := by decide +kernel
theorem dX10_lists_18 : decode cX10_lists 18 = .ok (.ireturn, 1) := by decide +kernel
theorem dX10_lists_19 : decode cX10_lists 19 = .ok (.aload_n 0, 1) := by decide +kernel
theorem dX10_lists_20 : decode cX10_lists 20 = .ok (.iload_n 1, 1) := by decide +kernel
theorem dX10_lists_21 : decode cX10_lists 21 = .ok (.iload_n 2, 1) := by decide +kernel
theorem dX10_lists_22 : decode cX10_lists 22 = .ok (.invokevirtual 287, 3) := by decide +kernel
theorem dX10_lists_25 : decode cX10_lists 25 = .ok (.istore 4, 2) := by decide +kernel
theorem dX10_lists_27 : decode cX10_lists 27 = .ok (.iload 4, 2) := by decide +kernel
theorem dX10_lists_29 : decode cX10_lists 29 = .ok (.ifCond .ge 6, 3) := by decide +kernel
theorem dX10_lists_32 : decode cX10_lists 32 = .ok (.iload 4, 2) := by decide +kernel
theorem dX10_lists_34 : decode cX10_lists 34 = .ok (.ireturn, 1) := by decide +kernel
theorem dX10_lists_35 : decode cX10_lists 35 = .ok (.aload_n 0, 1) := by decide +kernel
theorem dX10_lists_36 : decode cX10_lists 36 = .ok (.iconst 0, 1) := by decide +kernel
theorem dX10_lists_37 : decode cX10_lists 37 = .ok (.putfield 11, 3) := by decide +kernel
theorem dX10_lists_40 : decode cX10_lists 40 = .ok (.aload_n 0, 1) := by decide +kernel
theorem dX10_lists_41 : decode cX10_lists 41 = .ok (.iload_n 2, 1) := by decide +kernel
theorem dX10_lists_42 : decode cX10_lists 42 = .ok (.iload_n 3, 1) := by decide +kernel
theorem dX10_lists_43 : decode cX10_lists 43 = .ok (.invokevirtual 311, 3) := by decide +kernel
theorem dX10_lists_46 : decode cX10_lists 46 = .ok (.aload_n 0, 1) := by decide +kernel
theorem dX10_lists_47 : decode cX10_lists 47 = .ok (.getfield 11, 3) := by decide +kernel
theorem dX10_lists_50 : decode cX10_lists 50 = .ok (.ireturn, 1) := by decide +kernel
def b_X10_lists_0 (h : q_H) (v0 : Nat) (v1 : Int32) (v2 : Int32) (v3 : Int32) : Option (q_H × Int32) :=
  Option.bind (q_p 9 0 h v0 (.int (0))) (fun h1 => Option.bind (f_X10_in h1 (Int32.toInt64 v3) (0) (3)) (fun q2 => if q2.2 = 0 then some (q2.1, (-1)) else Option.bind (f_X10_asked q2.1 v0 v1 v2) (fun q3 => if 0 ≤ q3.2 then Option.bind (q_p 9 1 q3.1 v0 (.int (0))) (fun h4 => Option.bind (f_X10_tells q_RD h4 v0 v2 v3) (fun q5 => Option.bind (q_gI 9 1 q5.1 v0) (fun x6 => some (q5.1, x6)))) else some (q3.1, q3.2))))
def f_X10_lists (h : q_H) (a0 : Nat) (a1 : Int32) (a2 : Int32) (a3 : Int32) : Option (q_H × Int32) := q_chk 9 h a0 (b_X10_lists_0 h a0 a1 a2 a3)
set_option maxRecDepth 20000 in
set_option maxHeartbeats 1000000 in
theorem jb_X10_lists_0 {G : q_G} {l : Launch} {k0 z0 : Nat} (h : q_H) (v0 : Nat) (v1 : Int32) (v2 : Int32) (v3 : Int32) : q_J G l (RX10, cX10_lists, 5, 25, 620, (some .int), "lists", []) k0 z0 (q_Z G k0 z0 q_i) 0 [(0, .ref v0), (1, .int v1), (2, .int v2), (3, .int v3)] [] h (b_X10_lists_0 h v0 v1 v2 v3) := by
  unfold b_X10_lists_0
  refine j_aload_n (pc := 0) (p := 0) rfl rfl dX10_lists_0 ?_
  refine j_iconst (pc := 1) ki_0 dX10_lists_1 ?_
  refine j_put (pc := 2) FI_X10 (k := 0) (by decide) fl_X10_1 rfl rfl rfl dX10_lists_2 (fun h1 _ => ?_)
  refine j_iload_n (pc := 5) (p := 3) rfl rfl dX10_lists_5 ?_
  refine j_i2l (pc := 6) dX10_lists_6 ?_
  refine j_lconst (pc := 7) kl_0 dX10_lists_7 ?_
  refine j_ldc2 (pc := 8) cL_X10_314 dX10_lists_8 ?_
  refine j_cSi (pc := 11) Y_X10_in ml_X10_21 sm_X10_in ⟨Nat.le_of_ble_eq_true rfl, Nat.le_of_ble_eq_true rfl⟩ dX10_lists_11 (As := [.long (Int32.toInt64 v3), .long (0), .long (3)]) (rest := []) rfl rfl (Nat.le_of_ble_eq_true rfl) (fun x hq9 => c_X10_in _ _ _ _ _ hq9) (fun q2 _ => ?_)
  refine j_if_ne (pc := 14) (tgt := 19) dX10_lists_14 (by decide) (fun _ => ?_) (fun _ => ?_)
  · refine j_iconst (pc := 17) ki_m1 dX10_lists_17 ?_
    exact j_iret (pc := 18) rfl dX10_lists_18
  refine j_aload_n (pc := 19) (p := 0) rfl rfl dX10_lists_19 ?_
  refine j_iload_n (pc := 20) (p := 1) rfl rfl dX10_lists_20 ?_
  refine j_iload_n (pc := 21) (p := 2) rfl rfl dX10_lists_21 ?_
  refine j_cVi (pc := 22) Y_X10_asked (ci := 9) (b := v0) rfl rfl ml_X10_287 im_X10_asked se_X10_asked ⟨Nat.le_of_ble_eq_true rfl, Nat.le_of_ble_eq_true rfl⟩ dX10_lists_22 (As := [.int v1, .int v2]) (rest := []) rfl rfl (Nat.le_of_ble_eq_true rfl) (fun x hq9 => c_X10_asked _ _ _ _ _ hq9) (fun q3 _ => ?_)
  refine j_istore (pc := 25) (lv' := [(4, .int q3.2), (0, .ref v0), (1, .int v1), (2, .int v2), (3, .int v3)]) (by decide) rfl dX10_lists_25 ?_
  refine j_iload (pc := 27) (p := 0) rfl dX10_lists_27 ?_
  refine j_if_ge (pc := 29) (tgt := 35) dX10_lists_29 (by decide) (fun _ => ?_) (fun _ => ?_)
  · refine j_aload_n (pc := 35) (p := 1) rfl rfl dX10_lists_35 ?_
    refine j_iconst (pc := 36) ki_0 dX10_lists_36 ?_
    refine j_put (pc := 37) FI_X10 (k := 1) (by decide) fl_X10_11 rfl rfl rfl dX10_lists_37 (fun h4 _ => ?_)
    refine j_aload_n (pc := 40) (p := 1) rfl rfl dX10_lists_40 ?_
    refine j_iload_n (pc := 41) (p := 3) rfl rfl dX10_lists_41 ?_
    refine j_iload_n (pc := 42) (p := 4) rfl rfl dX10_lists_42 ?_
    refine j_cVu (pc := 43) Y_X10_tells (ci := 9) (b := v0) rfl rfl ml_X10_311 im_X10_tells se_X10_tells ⟨Nat.le_of_ble_eq_true rfl, Nat.le_of_ble_eq_true rfl⟩ dX10_lists_43 (As := [.int v2, .int v3]) (rest := []) rfl rfl (Nat.le_of_ble_eq_true rfl) (fun x hq9 => (c_X10_tells q_RD) _ _ _ _ _ hq9) (fun q5 _ => ?_)
    refine j_aload_n (pc := 46) (p := 1) rfl rfl dX10_lists_46 ?_
    refine j_getI (pc := 47) FI_X10 (k := 1) (by decide) fl_X10_11 dX10_lists_47 (fun x6 _ => ?_)
    exact j_iret (pc := 50) rfl dX10_lists_50
  refine j_iload (pc := 32) (p := 0) rfl dX10_lists_32 ?_
  exact j_iret (pc := 34) rfl dX10_lists_34
set_option maxRecDepth 20000 in
set_option maxHeartbeats 1000000 in
theorem c_X10_lists {G : q_G} {l : Launch} : ∀ (h : q_H) (a0 : Nat) (a1 : Int32) (a2 : Int32) (a3 : Int32) (q : q_H × Int32), f_X10_lists h a0 a1 a2 a3 = some q → (∃ fs, h.1 a0 = .inr (9, fs)) ∧ q_CT G l yX10_lists cX10_lists 5 (some .int) 25 620 [.ref a0, .int a1, .int a2, .int a3] h q.1 (q_i q.2) := by
  intro h a0 a1 a2 a3 q e
  obtain ⟨e1, e2⟩ := q_chk_ok e
  exact ⟨e1, q_ofJ Y_X10_lists (Nat.le_of_ble_eq_true rfl) (jb_X10_lists_0 h a0 a1 a2 a3) q e2⟩
/-! FarFoldersModel.makes(IIII)I -/
theorem dX10_makes_0 : decode cX10_makes 0 = .ok (.aload_n 0, 1) := by decide +kernel
theorem dX10_makes_1 : decode cX10_makes 1 = .ok (.iconst 0, 1) := by decide +kernel
theorem dX10_makes_2 : decode cX10_makes 2 = .ok (.putfield 1, 3) := by decide +kernel
theorem dX10_makes_5 : decode cX10_makes 5 = .ok (.aload_n 0, 1) := by decide +kernel
theorem dX10_makes_6 : decode cX10_makes 6 = .ok (.iload_n 1, 1) := by decide +kernel
theorem dX10_makes_7 : decode cX10_makes 7 = .ok (.iload_n 2, 1) := by decide +kernel
theorem dX10_makes_8 : decode cX10_makes 8 = .ok (.iload_n 3, 1) := by decide +kernel
theorem dX10_makes_9 : decode cX10_makes 9 = .ok (.iload 4, 2) := by decide +kernel
theorem dX10_makes_11 : decode cX10_makes 11 = .ok (.invokevirtual 198, 3) := by decide +kernel
theorem dX10_makes_14 : decode cX10_makes 14 = .ok (.istore 5, 2) := by decide +kernel
theorem dX10_makes_16 : decode cX10_makes 16 = .ok (.iload 5, 2) := by decide +kernel
theorem dX10_makes_18 : decode cX10_makes 18 = .ok (.ifCond .lt 20, 3) := by decide +kernel
theorem dX10_makes_21 : decode cX10_makes 21 = .ok (.aload_n 0, 1) := by decide +kernel
theorem dX10_makes_22 : decode cX10_makes 22 = .ok (.iconst 0, 1) := by decide +kernel
theorem dX10_makes_23 : decode cX10_makes 23 = .ok (.putfield 11, 3) := by decide +kernel
theorem dX10_makes_26 : decode cX10_makes 26 = .ok (.aload_n 0, 1) := by decide +kernel
theorem dX10_makes_27 : decode cX10_makes 27 = .ok (.aload_n 0, 1) := by decide +kernel
theorem dX10_makes_28 : decode cX10_makes 28 = .ok (.getfield 190, 3) := by decide +kernel
theorem dX10_makes_31 : decode cX10_makes 31 = .ok (.invokestatic 115, 3) := by decide +kernel
theorem dX10_makes_34 : decode cX10_makes 34 = .ok (.i2l, 1) := by decide +kernel
theorem dX10_makes_35 : decode cX10_makes 35 = .ok (.invokevirtual 202, 3) := by decide +kernel
theorem dX10_makes_38 : decode cX10_makes 38 = .ok (.iload 5, 2) := by decide +kernel
theorem dX10_makes_40 : decode cX10_makes 40 = .ok (.ireturn, 1) := by decide +kernel
def b_X10_makes_0 (h : q_H) (v0 : Nat) (v1 : Int32) (v2 : Int32) (v3 : Int32) (v4 : Int32) : Option (q_H × Int32) :=
  Option.bind (q_p 9 0 h v0 (.int (0))) (fun h1 => Option.bind (f_X10_makesOne h1 v0 v1 v2 v3 v4) (fun q2 => if q2.2 < 0 then some (q2.1, q2.2) else Option.bind (q_p 9 1 q2.1 v0 (.int (0))) (fun h3 => Option.bind (q_gI 9 12 h3 v0) (fun x4 => Option.bind (f_X10_flag h3 x4) (fun q5 => Option.bind (f_X10_enters q5.1 v0 (Int32.toInt64 q5.2)) (fun q6 => some (q6.1, q2.2)))))))
def f_X10_makes (h : q_H) (a0 : Nat) (a1 : Int32) (a2 : Int32) (a3 : Int32) (a4 : Int32) : Option (q_H × Int32) := q_chk 9 h a0 (b_X10_makes_0 h a0 a1 a2 a3 a4)
set_option maxRecDepth 20000 in
set_option maxHeartbeats 1000000 in
theorem jb_X10_makes_0 {G : q_G} {l : Launch} {k0 z0 : Nat} (h : q_H) (v0 : Nat) (v1 : Int32) (v2 : Int32) (v3 : Int32) (v4 : Int32) : q_J G l (RX10, cX10_makes, 6, 5, 120, (some .int), "makes", []) k0 z0 (q_Z G k0 z0 q_i) 0 [(0, .ref v0), (1, .int v1), (2, .int v2), (3, .int v3), (4, .int v4)] [] h (b_X10_makes_0 h v0 v1 v2 v3 v4) := by
  unfold b_X10_makes_0
  refine j_aload_n (pc := 0) (p := 0) rfl rfl dX10_makes_0 ?_
  refine j_iconst (pc := 1) ki_0 dX10_makes_1 ?_
  refine j_put (pc := 2) FI_X10 (k := 0) (by decide) fl_X10_1 rfl rfl rfl dX10_makes_2 (fun h1 _ => ?_)
  refine j_aload_n (pc := 5) (p := 0) rfl rfl dX10_makes_5 ?_
  refine j_iload_n (pc := 6) (p := 1) rfl rfl dX10_makes_6 ?_
  refine j_iload_n (pc := 7) (p := 2) rfl rfl dX10_makes_7 ?_
  refine j_iload_n (pc := 8) (p := 3) rfl rfl dX10_makes_8 ?_
  refine j_iload (pc := 9) (p := 4) rfl dX10_makes_9 ?_
  refine j_cVi (pc := 11) Y_X10_makesOne (ci := 9) (b := v0) rfl rfl ml_X10_198 im_X10_makesOne se_X10_makesOne ⟨Nat.le_of_ble_eq_true rfl, Nat.le_of_ble_eq_true rfl⟩ dX10_makes_11 (As := [.int v1, .int v2, .int v3, .int v4]) (rest := []) rfl rfl (Nat.le_of_ble_eq_true rfl) (fun x hq9 => c_X10_makesOne _ _ _ _ _ _ _ hq9) (fun q2 _ => ?_)
  refine j_istore (pc := 14) (lv' := [(5, .int q2.2), (0, .ref v0), (1, .int v1), (2, .int v2), (3, .int v3), (4, .int v4)]) (by decide) rfl dX10_makes_14 ?_
  refine j_iload (pc := 16) (p := 0) rfl dX10_makes_16 ?_
  refine j_if_lt (pc := 18) (tgt := 38) dX10_makes_18 (by decide) (fun _ => ?_) (fun _ => ?_)
  · refine j_iload (pc := 38) (p := 0) rfl dX10_makes_38 ?_
    exact j_iret (pc := 40) rfl dX10_makes_40
  refine j_aload_n (pc := 21) (p := 1) rfl rfl dX10_makes_21 ?_
  refine j_iconst (pc := 22) ki_0 dX10_makes_22 ?_
  refine j_put (pc := 23) FI_X10 (k := 1) (by decide) fl_X10_11 rfl rfl rfl dX10_makes_23 (fun h3 _ => ?_)
  refine j_aload_n (pc := 26) (p := 1) rfl rfl dX10_makes_26 ?_
  refine j_aload_n (pc := 27) (p := 1) rfl rfl dX10_makes_27 ?_
  refine j_getI (pc := 28) FI_X10 (k := 12) (by decide) fl_X10_190 dX10_makes_28 (fun x4 _ => ?_)
  refine j_cSi (pc := 31) Y_X10_flag ml_X10_115 sm_X10_flag ⟨Nat.le_of_ble_eq_true rfl, Nat.le_of_ble_eq_true rfl⟩ dX10_makes_31 (As := [.int x4]) (rest := [.ref v0]) rfl rfl (Nat.le_of_ble_eq_true rfl) (fun x hq9 => c_X10_flag _ _ _ hq9) (fun q5 _ => ?_)
  refine j_i2l (pc := 34) dX10_makes_34 ?_
  refine j_cVu (pc := 35) Y_X10_enters (ci := 9) (b := v0) rfl rfl ml_X10_202 im_X10_enters se_X10_enters ⟨Nat.le_of_ble_eq_true rfl, Nat.le_of_ble_eq_true rfl⟩ dX10_makes_35 (As := [.long (Int32.toInt64 q5.2)]) (rest := []) rfl rfl (Nat.le_of_ble_eq_true rfl) (fun x hq9 => c_X10_enters _ _ _ _ hq9) (fun q6 _ => ?_)
  refine j_iload (pc := 38) (p := 0) rfl dX10_makes_38 ?_
  exact j_iret (pc := 40) rfl dX10_makes_40
set_option maxRecDepth 20000 in
set_option maxHeartbeats 1000000 in
theorem c_X10_makes {G : q_G} {l : Launch} : ∀ (h : q_H) (a0 : Nat) (a1 : Int32) (a2 : Int32) (a3 : Int32) (a4 : Int32) (q : q_H × Int32), f_X10_makes h a0 a1 a2 a3 a4 = some q → (∃ fs, h.1 a0 = .inr (9, fs)) ∧ q_CT G l yX10_makes cX10_makes 6 (some .int) 5 120 [.ref a0, .int a1, .int a2, .int a3, .int a4] h q.1 (q_i q.2) := by
  intro h a0 a1 a2 a3 a4 q e
  obtain ⟨e1, e2⟩ := q_chk_ok e
  exact ⟨e1, q_ofJ Y_X10_makes (Nat.le_of_ble_eq_true rfl) (jb_X10_makes_0 h a0 a1 a2 a3 a4) q e2⟩
/-! FarFoldersModel.meets(III)I -/
theorem dX10_meets_0 : decode cX10_meets 0 = .ok (.aload_n 0, 1) := by decide +kernel
theorem dX10_meets_1 : decode cX10_meets 1 = .ok (.iconst 0, 1) := by decide +kernel
theorem dX10_meets_2 : decode cX10_meets 2 = .ok (.putfield 1, 3) := by decide +kernel
theorem dX10_meets_5 : decode cX10_meets 5 = .ok (.iload_n 1, 1) := by decide +kernel
theorem dX10_meets_6 : decode cX10_meets 6 = .ok (.invokestatic 101, 3) := by decide +kernel
theorem dX10_meets_9 : decode cX10_meets 9 = .ok (.ifCond .eq 17, 3) := by decide +kernel
theorem dX10_meets_12 : decode cX10_meets 12 = .ok (.iload_n 2, 1) := by decide +kernel
theorem dX10_meets_13 : decode cX10_meets 13 = .ok (.invokestatic 179, 3) := by decide +kernel
theorem dX10_meets_16 : decode cX10_meets 16 = .ok (.ifCond .eq 10, 3) := by decide +kernel
theorem dX10_meets_19 : decode cX10_meets 19 = .ok (.iload_n 3, 1) := by decide +kernel
theorem dX10_meets_20 : decode cX10_meets 20 = .ok (.invokestatic 179, 3) := by decide +kernel
theorem dX10_meets_23 : decode cX10_meets 23 = .ok (.ifCond .ne 5, 3) := by decide +kernel
theorem dX10_meets_26 : decode cX10_meets 26 = .ok (.iconst (-1), 1) := by decide +kernel
theorem dX10_meets_27 : decode cX10_meets 27 = .ok (.ireturn, 1) := by decide +kernel
theorem dX10_meets_28 : decode cX10_meets 28 = .ok (.aload_n 0, 1) := by decide +kernel
theorem dX10_meets_29 : decode cX10_meets 29 = .ok (.iconst 0, 1) := by decide +kernel
theorem dX10_meets_30 : decode cX10_meets 30 = .ok (.iload_n 1, 1) := by decide +kernel
theorem dX10_meets_31 : decode cX10_meets 31 = .ok (.invokevirtual 164, 3) := by decide +kernel
theorem dX10_meets_34 : decode cX10_meets 34 = .ok (.aload_n 0, 1) := by decide +kernel
theorem dX10_meets_35 : decode cX10_meets 35 = .ok (.iconst 0, 1) := by decide +kernel
theorem dX10_meets_36 : decode cX10_meets 36 = .ok (.iload_n 2, 1) := by decide +kernel
theorem dX10_meets_37 : decode cX10_meets 37 = .ok (.invokevirtual 133, 3) := by decide +kernel
theorem dX10_meets_40 : decode cX10_meets 40 = .ok (.ifCond .eq 12, 3) := by decide +kernel
theorem dX10_meets_43 : decode cX10_meets 43 = .ok (.aload_n 0, 1) := by decide +kernel
theorem dX10_meets_44 : decode cX10_meets 44 = .ok (.iconst 0, 1) := by decide +kernel
theorem dX10_meets_45 : decode cX10_meets 45 = .ok (.iload_n 3, 1) := by decide +kernel
theorem dX10_meets_46 : decode cX10_meets 46 = .ok (.invokevirtual 133, 3) := by decide +kernel
theorem dX10_meets_49 : decode cX10_meets 49 = .ok (.ifCond .ne 6, 3) := by decide +kernel
theorem dX10_meets_52 : decode cX10_meets 52 = .ok (.bipush (-2), 2) := by decide +kernel
theorem dX10_meets_54 : decode cX10_meets 54 = .ok (.ireturn, 1) := by decide +kernel
theorem dX10_meets_55 : decode cX10_meets 55 = .ok (.iload_n 2, 1) := by decide +kernel
theorem dX10_meets_56 : decode cX10_meets 56 = .ok (.istore 4, 2) := by decide +kernel
theorem dX10_meets_58 : decode cX10_meets 58 = .ok (.iload 4, 2) := by decide +kernel
theorem dX10_meets_60 : decode cX10_meets 60 = .ok (.iconst 2, 1) := by decide +kernel
theorem dX10_meets_61 : decode cX10_meets 61 = .ok (.if_icmp .lt 27, 3) := by decide +kernel
theorem dX10_meets_64 : decode cX10_meets 64 = .ok (.aload_n 0, 1) := by decide +kernel
theorem dX10_meets_65 : decode cX10_meets 65 = .ok (.iconst 0, 1) := by decide +kernel
theorem dX10_meets_66 : decode cX10_meets 66 = .ok (.iload_n 3, 1) := by decide +kernel
theorem dX10_meets_67 : decode cX10_meets 67 = .ok (.iload 4, 2) := by decide +kernel
theorem dX10_meets_69 : decode cX10_meets 69 = .ok (.invokevirtual 137, 3) := by decide +kernel
theorem dX10_meets_72 : decode cX10_meets 72 = .ok (.ifCond .ne 16, 3) := by decide +kernel
theorem dX10_meets_75 : decode cX10_meets 75 = .ok (.aload_n 0, 1) := by decide +kernel
theorem dX10_meets_76 : decode cX10_meets 76 = .ok (.iconst 0, 1) := by decide +kernel
theorem dX10_meets_77 : decode cX10_meets 77 = .ok (.iload 4, 2) := by decide +kernel
theorem dX10_meets_79 : decode cX10_meets 79 = .ok (.iconst 0, 1) := by decide +kernel
theorem dX10_meets_80 : decode cX10_meets 80 = .ok (.invokevirtual 129, 3) := by decide +kernel
theorem dX10_meets_83 : decode cX10_meets 83 = .ok (.istore 4, 2) := by decide +kernel
theorem dX10_meets_85 : decode cX10_meets 85 = .ok (.goto (-27), 3) := by decide +kernel
theorem dX10_meets_88 : decode cX10_meets 88 = .ok (.aload_n 0, 1) := by decide +kernel
theorem dX10_meets_89 : decode cX10_meets 89 = .ok (.iconst 0, 1) := by decide +kernel
theorem dX10_meets_90 : decode cX10_meets 90 = .ok (.iload_n 3, 1) := by decide +kernel
theorem dX10_meets_91 : decode cX10_meets 91 = .ok (.iload 4, 2) := by decide +kernel
theorem dX10_meets_93 : decode cX10_meets 93 = .ok (.invokevirtual 137, 3) := by decide +kernel
theorem dX10_meets_96 : decode cX10_meets 96 = .ok (.ifCond .eq 8, 3) := by decide +kernel
theorem dX10_meets_99 : decode cX10_meets 99 = .ok (.iload 4, 2) := by decide +kernel
theorem dX10_meets_101 : decode cX10_meets 101 = .ok (.goto 5, 3) := by decide +kernel
theorem dX10_meets_104 : decode cX10_meets 104 = .ok (.bipush (-3), 2) := by decide +kernel
theorem dX10_meets_106 : decode cX10_meets 106 = .ok (.ireturn, 1) := by decide +kernel
def b_X10_meets_88 (h : q_H) (v0 : Nat) (v3 : Int32) (v4 : Int32) : Option (q_H × Int32) :=
  Option.bind (f_X10_isUnder h v0 (0) v3 v4) (fun q1 => if q1.2 = 0 then some (q1.1, (-3)) else some (q1.1, v4))
def b_X10_meets_58 (k58 : q_H → Nat → Int32 → Int32 → Option (q_H × Int32)) (h : q_H) (v0 : Nat) (v3 : Int32) (v4 : Int32) : Option (q_H × Int32) :=
  if v4 < (2) then b_X10_meets_88 h v0 v3 v4 else Option.bind (f_X10_isUnder h v0 (0) v3 v4) (fun q2 => if q2.2 = 0 then Option.bind (f_X10_its q2.1 v0 (0) v4 (0)) (fun q3 => k58 q3.1 v0 v3 q3.2) else b_X10_meets_88 q2.1 v0 v3 v4)
def l_X10_meets_58 : Nat → q_H → Nat → Int32 → Int32 → Option (q_H × Int32)
  | 0, _, _, _, _ => none
  | n + 1, h, v0, v3, v4 => b_X10_meets_58 (l_X10_meets_58 n) h v0 v3 v4
def b_X10_meets_0 (h : q_H) (v0 : Nat) (v1 : Int32) (v2 : Int32) (v3 : Int32) : Option (q_H × Int32) :=
  Option.bind (q_p 9 0 h v0 (.int (0))) (fun h4 => Option.bind (f_X10_isCopy h4 v1) (fun q5 => if q5.2 = 0 then some (q5.1, (-1)) else Option.bind (f_X10_isNode q5.1 v2) (fun q6 => if q6.2 = 0 then some (q6.1, (-1)) else Option.bind (f_X10_isNode q6.1 v3) (fun q7 => if q7.2 = 0 then some (q7.1, (-1)) else Option.bind (f_X10_lays q7.1 v0 (0) v1) (fun q8 => Option.bind (f_X10_isThere q8.1 v0 (0) v2) (fun q9 => if q9.2 = 0 then some (q9.1, (-2)) else Option.bind (f_X10_isThere q9.1 v0 (0) v3) (fun q10 => if q10.2 = 0 then some (q10.1, (-2)) else l_X10_meets_58 q_FU q10.1 v0 v3 v2)))))))
def f_X10_meets (h : q_H) (a0 : Nat) (a1 : Int32) (a2 : Int32) (a3 : Int32) : Option (q_H × Int32) := q_chk 9 h a0 (b_X10_meets_0 h a0 a1 a2 a3)
set_option maxRecDepth 20000 in
set_option maxHeartbeats 1000000 in
theorem jb_X10_meets_88 {G : q_G} {l : Launch} {k0 z0 : Nat} (h : q_H) (v0 : Nat) (v3 : Int32) (v4 : Int32) : q_J G l (RX10, cX10_meets, 5, 5, 118, (some .int), "meets", []) k0 z0 (q_Z G k0 z0 q_i) 88 [(0, .ref v0), (3, .int v3), (4, .int v4)] [] h (b_X10_meets_88 h v0 v3 v4) := by
  unfold b_X10_meets_88
  refine j_aload_n (pc := 88) (p := 0) rfl rfl dX10_meets_88 ?_
  refine j_iconst (pc := 89) ki_0 dX10_meets_89 ?_
  refine j_iload_n (pc := 90) (p := 1) rfl rfl dX10_meets_90 ?_
  refine j_iload (pc := 91) (p := 2) rfl dX10_meets_91 ?_
  refine j_cVi (pc := 93) Y_X10_isUnder (ci := 9) (b := v0) rfl rfl ml_X10_137 im_X10_isUnder se_X10_isUnder ⟨Nat.le_of_ble_eq_true rfl, Nat.le_of_ble_eq_true rfl⟩ dX10_meets_93 (As := [.int (0), .int v3, .int v4]) (rest := []) rfl rfl (Nat.le_of_ble_eq_true rfl) (fun x hq9 => c_X10_isUnder _ _ _ _ _ _ hq9) (fun q1 _ => ?_)
  refine j_if_eq (pc := 96) (tgt := 104) dX10_meets_96 (by decide) (fun _ => ?_) (fun _ => ?_)
  · refine j_bipush (pc := 104) kb_m3 dX10_meets_104 ?_
    exact j_iret (pc := 106) rfl dX10_meets_106
  refine j_iload (pc := 99) (p := 2) rfl dX10_meets_99 ?_
  refine j_goto (pc := 101) (tgt := 106) dX10_meets_101 (by decide) ?_
  exact j_iret (pc := 106) rfl dX10_meets_106
set_option maxRecDepth 20000 in
set_option maxHeartbeats 1000000 in
theorem jb_X10_meets_58 {G : q_G} {l : Launch} {k0 z0 : Nat} (k58 : q_H → Nat → Int32 → Int32 → Option (q_H × Int32)) (hk58 : ∀ (h : q_H) (v0 : Nat) (v3 : Int32) (v4 : Int32), q_J G l (RX10, cX10_meets, 5, 5, 118, (some .int), "meets", []) k0 z0 (q_Z G k0 z0 q_i) 58 [(0, .ref v0), (3, .int v3), (4, .int v4)] [] h (k58 h v0 v3 v4)) (h : q_H) (v0 : Nat) (v3 : Int32) (v4 : Int32) : q_J G l (RX10, cX10_meets, 5, 5, 118, (some .int), "meets", []) k0 z0 (q_Z G k0 z0 q_i) 58 [(0, .ref v0), (3, .int v3), (4, .int v4)] [] h (b_X10_meets_58 k58 h v0 v3 v4) := by
  unfold b_X10_meets_58
  refine j_iload (pc := 58) (p := 2) rfl dX10_meets_58 ?_
  refine j_iconst (pc := 60) ki_2 dX10_meets_60 ?_
  refine j_ic_lt (pc := 61) (tgt := 88) dX10_meets_61 (by decide) (fun _ => ?_) (fun _ => ?_)
  · exact jb_X10_meets_88 _ _ _ _
  refine j_aload_n (pc := 64) (p := 0) rfl rfl dX10_meets_64 ?_
  refine j_iconst (pc := 65) ki_0 dX10_meets_65 ?_
  refine j_iload_n (pc := 66) (p := 1) rfl rfl dX10_meets_66 ?_
  refine j_iload (pc := 67) (p := 2) rfl dX10_meets_67 ?_
  refine j_cVi (pc := 69) Y_X10_isUnder (ci := 9) (b := v0) rfl rfl ml_X10_137 im_X10_isUnder se_X10_isUnder ⟨Nat.le_of_ble_eq_true rfl, Nat.le_of_ble_eq_true rfl⟩ dX10_meets_69 (As := [.int (0), .int v3, .int v4]) (rest := []) rfl rfl (Nat.le_of_ble_eq_true rfl) (fun x hq9 => c_X10_isUnder _ _ _ _ _ _ hq9) (fun q2 _ => ?_)
  refine j_if_ne (pc := 72) (tgt := 88) dX10_meets_72 (by decide) (fun _ => ?_) (fun _ => ?_)
  · refine j_aload_n (pc := 75) (p := 0) rfl rfl dX10_meets_75 ?_
    refine j_iconst (pc := 76) ki_0 dX10_meets_76 ?_
    refine j_iload (pc := 77) (p := 2) rfl dX10_meets_77 ?_
    refine j_iconst (pc := 79) ki_0 dX10_meets_79 ?_
    refine j_cVi (pc := 80) Y_X10_its (ci := 9) (b := v0) rfl rfl ml_X10_129 im_X10_its se_X10_its ⟨Nat.le_of_ble_eq_true rfl, Nat.le_of_ble_eq_true rfl⟩ dX10_meets_80 (As := [.int (0), .int v4, .int (0)]) (rest := []) rfl rfl (Nat.le_of_ble_eq_true rfl) (fun x hq9 => c_X10_its _ _ _ _ _ _ hq9) (fun q3 _ => ?_)
    refine j_istore (pc := 83) (lv' := [(4, .int q3.2), (0, .ref v0), (3, .int v3)]) (by decide) rfl dX10_meets_83 ?_
    refine j_goto (pc := 85) (tgt := 58) dX10_meets_85 (by decide) ?_
    refine j_sub [1, 2, 0] (lv' := [(0, .ref v0), (3, .int v3), (4, .int q3.2)]) rfl ?_
    exact hk58 _ _ _ _
  exact jb_X10_meets_88 _ _ _ _
set_option maxRecDepth 20000 in
set_option maxHeartbeats 1000000 in
theorem jl_X10_meets_58 {G : q_G} {l : Launch} {k0 z0 : Nat} (n : Nat) : ∀ (h : q_H) (v0 : Nat) (v3 : Int32) (v4 : Int32), q_J G l (RX10, cX10_meets, 5, 5, 118, (some .int), "meets", []) k0 z0 (q_Z G k0 z0 q_i) 58 [(0, .ref v0), (3, .int v3), (4, .int v4)] [] h (l_X10_meets_58 n h v0 v3 v4) := by
  induction n with
  | zero => intro h v0 v3 v4; exact j_none
  | succ n ih => intro h v0 v3 v4; exact jb_X10_meets_58 (l_X10_meets_58 n) ih h v0 v3 v4
set_option maxRecDepth 20000 in
set_option maxHeartbeats 1000000 in
theorem jb_X10_meets_0 {G : q_G} {l : Launch} {k0 z0 : Nat} (h : q_H) (v0 : Nat) (v1 : Int32) (v2 : Int32) (v3 : Int32) : q_J G l (RX10, cX10_meets, 5, 5, 118, (some .int), "meets", []) k0 z0 (q_Z G k0 z0 q_i) 0 [(0, .ref v0), (1, .int v1), (2, .int v2), (3, .int v3)] [] h (b_X10_meets_0 h v0 v1 v2 v3) := by
  unfold b_X10_meets_0
  refine j_aload_n (pc := 0) (p := 0) rfl rfl dX10_meets_0 ?_
  refine j_iconst (pc := 1) ki_0 dX10_meets_1 ?_
  refine j_put (pc := 2) FI_X10 (k := 0) (by decide) fl_X10_1 rfl rfl rfl dX10_meets_2 (fun h4 _ => ?_)
  refine j_iload_n (pc := 5) (p := 1) rfl rfl dX10_meets_5 ?_
  refine j_cSi (pc := 6) Y_X10_isCopy ml_X10_101 sm_X10_isCopy ⟨Nat.le_of_ble_eq_true rfl, Nat.le_of_ble_eq_true rfl⟩ dX10_meets_6 (As := [.int v1]) (rest := []) rfl rfl (Nat.le_of_ble_eq_true rfl) (fun x hq9 => c_X10_isCopy _ _ _ hq9) (fun q5 _ => ?_)
  refine j_if_eq (pc := 9) (tgt := 26) dX10_meets_9 (by decide) (fun _ => ?_) (fun _ => ?_)
  · refine j_iconst (pc := 26) ki_m1 dX10_meets_26 ?_
    exact j_iret (pc := 27) rfl dX10_meets_27
  refine j_iload_n (pc := 12) (p := 2) rfl rfl dX10_meets_12 ?_
  refine j_cSi (pc := 13) Y_X10_isNode ml_X10_179 sm_X10_isNode ⟨Nat.le_of_ble_eq_true rfl, Nat.le_of_ble_eq_true rfl⟩ dX10_meets_13 (As := [.int v2]) (rest := []) rfl rfl (Nat.le_of_ble_eq_true rfl) (fun x hq9 => c_X10_isNode _ _ _ hq9) (fun q6 _ => ?_)
  refine j_if_eq (pc := 16) (tgt := 26) dX10_meets_16 (by decide) (fun _ => ?_) (fun _ => ?_)
  · refine j_iconst (pc := 26) ki_m1 dX10_meets_26 ?_
    exact j_iret (pc := 27) rfl dX10_meets_27
  refine j_iload_n (pc := 19) (p := 3) rfl rfl dX10_meets_19 ?_
  refine j_cSi (pc := 20) Y_X10_isNode ml_X10_179 sm_X10_isNode ⟨Nat.le_of_ble_eq_true rfl, Nat.le_of_ble_eq_true rfl⟩ dX10_meets_20 (As := [.int v3]) (rest := []) rfl rfl (Nat.le_of_ble_eq_true rfl) (fun x hq9 => c_X10_isNode _ _ _ hq9) (fun q7 _ => ?_)
  refine j_if_ne (pc := 23) (tgt := 28) dX10_meets_23 (by decide) (fun _ => ?_) (fun _ => ?_)
  · refine j_iconst (pc := 26) ki_m1 dX10_meets_26 ?_
    exact j_iret (pc := 27) rfl dX10_meets_27
  refine j_aload_n (pc := 28) (p := 0) rfl rfl dX10_meets_28 ?_
  refine j_iconst (pc := 29) ki_0 dX10_meets_29 ?_
  refine j_iload_n (pc := 30) (p := 1) rfl rfl dX10_meets_30 ?_
  refine j_cVu (pc := 31) Y_X10_lays (ci := 9) (b := v0) rfl rfl ml_X10_164 im_X10_lays se_X10_lays ⟨Nat.le_of_ble_eq_true rfl, Nat.le_of_ble_eq_true rfl⟩ dX10_meets_31 (As := [.int (0), .int v1]) (rest := []) rfl rfl (Nat.le_of_ble_eq_true rfl) (fun x hq9 => c_X10_lays _ _ _ _ _ hq9) (fun q8 _ => ?_)
  refine j_aload_n (pc := 34) (p := 0) rfl rfl dX10_meets_34 ?_
  refine j_iconst (pc := 35) ki_0 dX10_meets_35 ?_
  refine j_iload_n (pc := 36) (p := 2) rfl rfl dX10_meets_36 ?_
  refine j_cVi (pc := 37) Y_X10_isThere (ci := 9) (b := v0) rfl rfl ml_X10_133 im_X10_isThere se_X10_isThere ⟨Nat.le_of_ble_eq_true rfl, Nat.le_of_ble_eq_true rfl⟩ dX10_meets_37 (As := [.int (0), .int v2]) (rest := []) rfl rfl (Nat.le_of_ble_eq_true rfl) (fun x hq9 => c_X10_isThere _ _ _ _ _ hq9) (fun q9 _ => ?_)
  refine j_if_eq (pc := 40) (tgt := 52) dX10_meets_40 (by decide) (fun _ => ?_) (fun _ => ?_)
  · refine j_bipush (pc := 52) kb_m2 dX10_meets_52 ?_
    exact j_iret (pc := 54) rfl dX10_meets_54
  refine j_aload_n (pc := 43) (p := 0) rfl rfl dX10_meets_43 ?_
  refine j_iconst (pc := 44) ki_0 dX10_meets_44 ?_
  refine j_iload_n (pc := 45) (p := 3) rfl rfl dX10_meets_45 ?_
  refine j_cVi (pc := 46) Y_X10_isThere (ci := 9) (b := v0) rfl rfl ml_X10_133 im_X10_isThere se_X10_isThere ⟨Nat.le_of_ble_eq_true rfl, Nat.le_of_ble_eq_true rfl⟩ dX10_meets_46 (As := [.int (0), .int v3]) (rest := []) rfl rfl (Nat.le_of_ble_eq_true rfl) (fun x hq9 => c_X10_isThere _ _ _ _ _ hq9) (fun q10 _ => ?_)
  refine j_if_ne (pc := 49) (tgt := 55) dX10_meets_49 (by decide) (fun _ => ?_) (fun _ => ?_)
  · refine j_bipush (pc := 52) kb_m2 dX10_meets_52 ?_
    exact j_iret (pc := 54) rfl dX10_meets_54
  refine j_iload_n (pc := 55) (p := 2) rfl rfl dX10_meets_55 ?_
  refine j_istore (pc := 56) (lv' := [(4, .int v2), (0, .ref v0), (1, .int v1), (2, .int v2), (3, .int v3)]) (by decide) rfl dX10_meets_56 ?_
  refine j_sub [1, 4, 0] (lv' := [(0, .ref v0), (3, .int v3), (4, .int v2)]) rfl ?_
  exact jl_X10_meets_58 q_FU _ _ _ _
set_option maxRecDepth 20000 in
set_option maxHeartbeats 1000000 in
theorem c_X10_meets {G : q_G} {l : Launch} : ∀ (h : q_H) (a0 : Nat) (a1 : Int32) (a2 : Int32) (a3 : Int32) (q : q_H × Int32), f_X10_meets h a0 a1 a2 a3 = some q → (∃ fs, h.1 a0 = .inr (9, fs)) ∧ q_CT G l yX10_meets cX10_meets 5 (some .int) 5 118 [.ref a0, .int a1, .int a2, .int a3] h q.1 (q_i q.2) := by
  intro h a0 a1 a2 a3 q e
  obtain ⟨e1, e2⟩ := q_chk_ok e
  exact ⟨e1, q_ofJ Y_X10_meets (Nat.le_of_ble_eq_true rfl) (jb_X10_meets_0 h a0 a1 a2 a3) q e2⟩
