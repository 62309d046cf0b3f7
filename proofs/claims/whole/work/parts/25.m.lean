/-! FarFoldersModel.move(III)I -/
theorem dX10_move_0 : decode cX10_move 0 = .ok (.aload_n 0, 1) := by decide +kernel
theorem dX10_move_1 : decode cX10_move 1 = .ok (.iload_n 1, 1) := by decide +kernel
theorem dX10_move_2 : decode cX10_move 2 = .ok (.invokestatic 101, 3) := by decide +kernel
theorem dX10_move_5 : decode cX10_move 5 = .ok (.ifCond .eq 15, 3) := by decide +kernel
theorem dX10_move_8 : decode cX10_move 8 = .ok (.iload_n 3, 1) := by decide +kernel
theorem dX10_move_9 : decode cX10_move 9 = .ok (.i2l, 1) := by decide +kernel
theorem dX10_move_10 : decode cX10_move 10 = .ok (.lconst 0, 1) := by decide +kernel
theorem dX10_move_11 : decode cX10_move 11 = .ok (.ldc2_w 171, 3) := by decide +kernel
theorem dX10_move_14 : decode cX10_move 14 = .ok (.invokestatic 21, 3) := by decide +kernel
theorem dX10_move_17 : decode cX10_move 17 = .ok (.ifCond .ne 7, 3) := by decide +kernel
theorem dX10_move_20 : decode cX10_move 20 = .ok (.iconst 1, 1) := by decide +kernel
theorem dX10_move_21 : decode cX10_move 21 = .ok (.goto 4, 3) := by decide +kernel
theorem dX10_move_24 : decode cX10_move 24 = .ok (.iconst 0, 1) := by decide +kernel
theorem dX10_move_25 : decode cX10_move 25 = .ok (.invokestatic 115, 3) := by decide +kernel
theorem dX10_move_28 : decode cX10_move 28 = .ok (.putfield 1, 3) := by decide +kernel
theorem dX10_move_31 : decode cX10_move 31 = .ok (.aload_n 0, 1) := by decide +kernel
theorem dX10_move_32 : decode cX10_move 32 = .ok (.getfield 1, 3) := by decide +kernel
theorem dX10_move_35 : decode cX10_move 35 = .ok (.ifCond .ne 37, 3) := by decide +kernel
theorem dX10_move_38 : decode cX10_move 38 = .ok (.aload_n 0, 1) := by decide +kernel
theorem dX10_move_39 : decode cX10_move 39 = .ok (.iload_n 2, 1) := by decide +kernel
theorem dX10_move_40 : decode cX10_move 40 = .ok (.i2l, 1) := by decide +kernel
theorem dX10_move_41 : decode cX10_move 41 = .ok (.lconst 0, 1) := by decide +kernel
theorem dX10_move_42 : decode cX10_move 42 = .ok (.aload_n 0, 1) := by decide +kernel
theorem dX10_move_43 : decode cX10_move 43 = .ok (.getfield 47, 3) := by decide +kernel
theorem dX10_move_46 : decode cX10_move 46 = .ok (.sipush 180, 3) := by decide +kernel
theorem dX10_move_49 : decode cX10_move 49 = .ok (.iload_n 1, 1) := by decide +kernel
theorem dX10_move_50 : decode cX10_move 50 = .ok (.iadd, 1) := by decide +kernel
theorem dX10_move_51 : decode cX10_move 51 = .ok (.iaload, 1) := by decide +kernel
theorem dX10_move_52 : decode cX10_move 52 = .ok (.iconst 1, 1) := by decide +kernel
theorem dX10_move_53 : decode cX10_move 53 = .ok (.isub, 1) := by decide +kernel
theorem dX10_move_54 : decode cX10_move 54 = .ok (.i2l, 1) := by decide +kernel
theorem dX10_move_55 : decode cX10_move 55 = .ok (.invokestatic 21, 3) := by decide +kernel
theorem dX10_move_58 : decode cX10_move 58 = .ok (.ifCond .ne 7, 3) := by decide +kernel
theorem dX10_move_61 : decode cX10_move 61 = .ok (.iconst 1, 1) := by decide +kernel
theorem dX10_move_62 : decode cX10_move 62 = .ok (.goto 4, 3) := by decide +kernel
theorem dX10_move_65 : decode cX10_move 65 = .ok (.iconst 0, 1) := by decide +kernel
theorem dX10_move_66 : decode cX10_move 66 = .ok (.invokestatic 115, 3) := by decide +kernel
theorem dX10_move_69 : decode cX10_move 69 = .ok (.putfield 1, 3) := by decide +kernel
theorem dX10_move_72 : decode cX10_move 72 = .ok (.aload_n 0, 1) := by decide +kernel
theorem dX10_move_73 : decode cX10_move 73 = .ok (.getfield 1, 3) := by decide +kernel
theorem dX10_move_76 : decode cX10_move 76 = .ok (.iconst 1, 1) := by decide +kernel
theorem dX10_move_77 : decode cX10_move 77 = .ok (.if_icmp .ne 5, 3) := by decide +kernel
theorem dX10_move_80 : decode cX10_move 80 = .ok (.iconst 0, 1) := by decide +kernel
theorem dX10_move_81 : decode cX10_move 81 = .ok (.ireturn, 1) := by decide +kernel
theorem dX10_move_82 : decode cX10_move 82 = .ok (.aload_n 0, 1) := by decide +kernel
theorem dX10_move_83 : decode cX10_move 83 = .ok (.iconst 0, 1) := by decide +kernel
theorem dX10_move_84 : decode cX10_move 84 = .ok (.iload_n 1, 1) := by decide +kernel
theorem dX10_move_85 : decode cX10_move 85 = .ok (.invokevirtual 164, 3) := by decide +kernel
theorem dX10_move_88 : decode cX10_move 88 = .ok (.iload_n 3, 1) := by decide +kernel
theorem dX10_move_89 : decode cX10_move 89 = .ok (.iconst 5, 1) := by decide +kernel
theorem dX10_move_90 : decode cX10_move 90 = .ok (.if_icmp .ne 15, 3) := by decide +kernel
theorem dX10_move_93 : decode cX10_move 93 = .ok (.aload_n 0, 1) := by decide +kernel
theorem dX10_move_94 : decode cX10_move 94 = .ok (.getfield 53, 3) := by decide +kernel
theorem dX10_move_97 : decode cX10_move 97 = .ok (.iload_n 2, 1) := by decide +kernel
theorem dX10_move_98 : decode cX10_move 98 = .ok (.baload, 1) := by decide +kernel
theorem dX10_move_99 : decode cX10_move 99 = .ok (.invokestatic 115, 3) := by decide +kernel
theorem dX10_move_102 : decode cX10_move 102 = .ok (.goto 13, 3) := by decide +kernel
theorem dX10_move_105 : decode cX10_move 105 = .ok (.aload_n 0, 1) := by decide +kernel
theorem dX10_move_106 : decode cX10_move 106 = .ok (.getfield 50, 3) := by decide +kernel
theorem dX10_move_109 : decode cX10_move 109 = .ok (.iconst 5, 1) := by decide +kernel
theorem dX10_move_110 : decode cX10_move 110 = .ok (.iload_n 2, 1) := by decide +kernel
theorem dX10_move_111 : decode cX10_move 111 = .ok (.imul, 1) := by decide +kernel
theorem dX10_move_112 : decode cX10_move 112 = .ok (.iload_n 3, 1) := by decide +kernel
theorem dX10_move_113 : decode cX10_move 113 = .ok (.iadd, 1) := by decide +kernel
theorem dX10_move_114 : decode cX10_move 114 = .ok (.iaload, 1) := by decide +kernel
theorem dX10_move_115 : decode cX10_move 115 = .ok (.ireturn, 1) := by decide +kernel
def b_X10_move_72 (h : q_H) (v0 : Nat) (v1 : Int32) (v2 : Int32) (v3 : Int32) : Option (q_H × Int32) :=
  Option.bind (q_gI 9 0 h v0) (fun x1 => if x1 = (1) then some (h, (0)) else Option.bind (f_X10_lays h v0 (0) v1) (fun q2 => if v3 = (5) then Option.bind (q_gR 9 10 q2.1 v0) (fun x3 => Option.bind (q_lI 2 q2.1 x3 v2) (fun x4 => Option.bind (f_X10_flag q2.1 x4) (fun q5 => some (q5.1, q5.2)))) else Option.bind (q_gR 9 8 q2.1 v0) (fun x6 => Option.bind (q_lI 0 q2.1 x6 (((5) * v2) + v3)) (fun x7 => some (q2.1, x7)))))
def b_X10_move_66 (h : q_H) (v0 : Nat) (v1 : Int32) (v2 : Int32) (v3 : Int32) (s0 : Nat) (s1 : Int32) : Option (q_H × Int32) :=
  Option.bind (f_X10_flag h s1) (fun q8 => Option.bind (q_p 9 0 q8.1 s0 (.int q8.2)) (fun h9 => b_X10_move_72 h9 v0 v1 v2 v3))
def b_X10_move_25 (h : q_H) (v0 : Nat) (v1 : Int32) (v2 : Int32) (v3 : Int32) (s0 : Nat) (s1 : Int32) : Option (q_H × Int32) :=
  Option.bind (f_X10_flag h s1) (fun q10 => Option.bind (q_p 9 0 q10.1 s0 (.int q10.2)) (fun h11 => Option.bind (q_gI 9 0 h11 v0) (fun x12 => if x12 = 0 then Option.bind (q_gR 9 7 h11 v0) (fun x13 => Option.bind (q_lI 0 h11 x13 ((180) + v1)) (fun x14 => Option.bind (f_X10_in h11 (Int32.toInt64 v2) (0) (Int32.toInt64 (x14 - (1)))) (fun q15 => if q15.2 = 0 then b_X10_move_66 q15.1 v0 v1 v2 v3 v0 (1) else b_X10_move_66 q15.1 v0 v1 v2 v3 v0 (0)))) else b_X10_move_72 h11 v0 v1 v2 v3)))
def b_X10_move_20 (h : q_H) (v0 : Nat) (v1 : Int32) (v2 : Int32) (v3 : Int32) (s0 : Nat) : Option (q_H × Int32) :=
  b_X10_move_25 h v0 v1 v2 v3 s0 (1)
def b_X10_move_0 (h : q_H) (v0 : Nat) (v1 : Int32) (v2 : Int32) (v3 : Int32) : Option (q_H × Int32) :=
  Option.bind (f_X10_isCopy h v1) (fun q16 => if q16.2 = 0 then b_X10_move_20 q16.1 v0 v1 v2 v3 v0 else Option.bind (f_X10_in q16.1 (Int32.toInt64 v3) (0) (5)) (fun q17 => if q17.2 = 0 then b_X10_move_20 q17.1 v0 v1 v2 v3 v0 else b_X10_move_25 q17.1 v0 v1 v2 v3 v0 (0)))
def f_X10_move (h : q_H) (a0 : Nat) (a1 : Int32) (a2 : Int32) (a3 : Int32) : Option (q_H × Int32) := q_chk 9 h a0 (b_X10_move_0 h a0 a1 a2 a3)
set_option maxRecDepth 20000 in
set_option maxHeartbeats 1000000 in
theorem jb_X10_move_72 {G : q_G} {l : Launch} {k0 z0 : Nat} (h : q_H) (v0 : Nat) (v1 : Int32) (v2 : Int32) (v3 : Int32) : q_J G l (RX10, cX10_move, 4, 5, 118, (some .int), "move", []) k0 z0 (q_Z G k0 z0 q_i) 72 [(0, .ref v0), (1, .int v1), (2, .int v2), (3, .int v3)] [] h (b_X10_move_72 h v0 v1 v2 v3) := by
  unfold b_X10_move_72
  refine j_aload_n (pc := 72) (p := 0) rfl rfl dX10_move_72 ?_
  refine j_getI (pc := 73) FI_X10 (k := 0) (by decide) fl_X10_1 dX10_move_73 (fun x1 _ => ?_)
  refine j_iconst (pc := 76) ki_1 dX10_move_76 ?_
  refine j_ic_ne (pc := 77) (tgt := 82) dX10_move_77 (by decide) (fun _ => ?_) (fun _ => ?_)
  · refine j_iconst (pc := 80) ki_0 dX10_move_80 ?_
    exact j_iret (pc := 81) rfl dX10_move_81
  refine j_aload_n (pc := 82) (p := 0) rfl rfl dX10_move_82 ?_
  refine j_iconst (pc := 83) ki_0 dX10_move_83 ?_
  refine j_iload_n (pc := 84) (p := 1) rfl rfl dX10_move_84 ?_
  refine j_cVu (pc := 85) Y_X10_lays (ci := 9) (b := v0) rfl rfl ml_X10_164 im_X10_lays se_X10_lays ⟨Nat.le_of_ble_eq_true rfl, Nat.le_of_ble_eq_true rfl⟩ dX10_move_85 (As := [.int (0), .int v1]) (rest := []) rfl rfl (Nat.le_of_ble_eq_true rfl) (fun x hq9 => c_X10_lays _ _ _ _ _ hq9) (fun q2 _ => ?_)
  refine j_iload_n (pc := 88) (p := 3) rfl rfl dX10_move_88 ?_
  refine j_iconst (pc := 89) ki_5 dX10_move_89 ?_
  refine j_ic_ne (pc := 90) (tgt := 105) dX10_move_90 (by decide) (fun _ => ?_) (fun _ => ?_)
  · refine j_aload_n (pc := 93) (p := 0) rfl rfl dX10_move_93 ?_
    refine j_getR (pc := 94) FI_X10 (k := 10) (by decide) fl_X10_53 dX10_move_94 (fun x3 _ => ?_)
    refine j_iload_n (pc := 97) (p := 2) rfl rfl dX10_move_97 ?_
    refine j_zald (pc := 98) dX10_move_98 (fun x4 _ => ?_)
    refine j_cSi (pc := 99) Y_X10_flag ml_X10_115 sm_X10_flag ⟨Nat.le_of_ble_eq_true rfl, Nat.le_of_ble_eq_true rfl⟩ dX10_move_99 (As := [.int x4]) (rest := []) rfl rfl (Nat.le_of_ble_eq_true rfl) (fun x hq9 => c_X10_flag _ _ _ hq9) (fun q5 _ => ?_)
    refine j_goto (pc := 102) (tgt := 115) dX10_move_102 (by decide) ?_
    exact j_iret (pc := 115) rfl dX10_move_115
  refine j_aload_n (pc := 105) (p := 0) rfl rfl dX10_move_105 ?_
  refine j_getR (pc := 106) FI_X10 (k := 8) (by decide) fl_X10_50 dX10_move_106 (fun x6 _ => ?_)
  refine j_iconst (pc := 109) ki_5 dX10_move_109 ?_
  refine j_iload_n (pc := 110) (p := 2) rfl rfl dX10_move_110 ?_
  refine j_imul (pc := 111) dX10_move_111 ?_
  refine j_iload_n (pc := 112) (p := 3) rfl rfl dX10_move_112 ?_
  refine j_iadd (pc := 113) dX10_move_113 ?_
  refine j_iald (pc := 114) dX10_move_114 (fun x7 _ => ?_)
  exact j_iret (pc := 115) rfl dX10_move_115
set_option maxRecDepth 20000 in
set_option maxHeartbeats 1000000 in
theorem jb_X10_move_66 {G : q_G} {l : Launch} {k0 z0 : Nat} (h : q_H) (v0 : Nat) (v1 : Int32) (v2 : Int32) (v3 : Int32) (s0 : Nat) (s1 : Int32) : q_J G l (RX10, cX10_move, 4, 5, 118, (some .int), "move", []) k0 z0 (q_Z G k0 z0 q_i) 66 [(0, .ref v0), (1, .int v1), (2, .int v2), (3, .int v3)] [.int s1, .ref s0] h (b_X10_move_66 h v0 v1 v2 v3 s0 s1) := by
  unfold b_X10_move_66
  refine j_cSi (pc := 66) Y_X10_flag ml_X10_115 sm_X10_flag ⟨Nat.le_of_ble_eq_true rfl, Nat.le_of_ble_eq_true rfl⟩ dX10_move_66 (As := [.int s1]) (rest := [.ref s0]) rfl rfl (Nat.le_of_ble_eq_true rfl) (fun x hq9 => c_X10_flag _ _ _ hq9) (fun q8 _ => ?_)
  refine j_put (pc := 69) FI_X10 (k := 0) (by decide) fl_X10_1 rfl rfl rfl dX10_move_69 (fun h9 _ => ?_)
  exact jb_X10_move_72 _ _ _ _ _
set_option maxRecDepth 20000 in
set_option maxHeartbeats 1000000 in
theorem jb_X10_move_25 {G : q_G} {l : Launch} {k0 z0 : Nat} (h : q_H) (v0 : Nat) (v1 : Int32) (v2 : Int32) (v3 : Int32) (s0 : Nat) (s1 : Int32) : q_J G l (RX10, cX10_move, 4, 5, 118, (some .int), "move", []) k0 z0 (q_Z G k0 z0 q_i) 25 [(0, .ref v0), (1, .int v1), (2, .int v2), (3, .int v3)] [.int s1, .ref s0] h (b_X10_move_25 h v0 v1 v2 v3 s0 s1) := by
  unfold b_X10_move_25
  refine j_cSi (pc := 25) Y_X10_flag ml_X10_115 sm_X10_flag ⟨Nat.le_of_ble_eq_true rfl, Nat.le_of_ble_eq_true rfl⟩ dX10_move_25 (As := [.int s1]) (rest := [.ref s0]) rfl rfl (Nat.le_of_ble_eq_true rfl) (fun x hq9 => c_X10_flag _ _ _ hq9) (fun q10 _ => ?_)
  refine j_put (pc := 28) FI_X10 (k := 0) (by decide) fl_X10_1 rfl rfl rfl dX10_move_28 (fun h11 _ => ?_)
  refine j_aload_n (pc := 31) (p := 0) rfl rfl dX10_move_31 ?_
  refine j_getI (pc := 32) FI_X10 (k := 0) (by decide) fl_X10_1 dX10_move_32 (fun x12 _ => ?_)
  refine j_if_ne (pc := 35) (tgt := 72) dX10_move_35 (by decide) (fun _ => ?_) (fun _ => ?_)
  · refine j_aload_n (pc := 38) (p := 0) rfl rfl dX10_move_38 ?_
    refine j_iload_n (pc := 39) (p := 2) rfl rfl dX10_move_39 ?_
    refine j_i2l (pc := 40) dX10_move_40 ?_
    refine j_lconst (pc := 41) kl_0 dX10_move_41 ?_
    refine j_aload_n (pc := 42) (p := 0) rfl rfl dX10_move_42 ?_
    refine j_getR (pc := 43) FI_X10 (k := 7) (by decide) fl_X10_47 dX10_move_43 (fun x13 _ => ?_)
    refine j_sipush (pc := 46) ks_180 dX10_move_46 ?_
    refine j_iload_n (pc := 49) (p := 1) rfl rfl dX10_move_49 ?_
    refine j_iadd (pc := 50) dX10_move_50 ?_
    refine j_iald (pc := 51) dX10_move_51 (fun x14 _ => ?_)
    refine j_iconst (pc := 52) ki_1 dX10_move_52 ?_
    refine j_isub (pc := 53) dX10_move_53 ?_
    refine j_i2l (pc := 54) dX10_move_54 ?_
    refine j_cSi (pc := 55) Y_X10_in ml_X10_21 sm_X10_in ⟨Nat.le_of_ble_eq_true rfl, Nat.le_of_ble_eq_true rfl⟩ dX10_move_55 (As := [.long (Int32.toInt64 v2), .long (0), .long (Int32.toInt64 (x14 - (1)))]) (rest := [.ref v0]) rfl rfl (Nat.le_of_ble_eq_true rfl) (fun x hq9 => c_X10_in _ _ _ _ _ hq9) (fun q15 _ => ?_)
    refine j_if_ne (pc := 58) (tgt := 65) dX10_move_58 (by decide) (fun _ => ?_) (fun _ => ?_)
    · refine j_iconst (pc := 61) ki_1 dX10_move_61 ?_
      refine j_goto (pc := 62) (tgt := 66) dX10_move_62 (by decide) ?_
      exact jb_X10_move_66 _ _ _ _ _ _ _
    refine j_iconst (pc := 65) ki_0 dX10_move_65 ?_
    exact jb_X10_move_66 _ _ _ _ _ _ _
  exact jb_X10_move_72 _ _ _ _ _
set_option maxRecDepth 20000 in
set_option maxHeartbeats 1000000 in
theorem jb_X10_move_20 {G : q_G} {l : Launch} {k0 z0 : Nat} (h : q_H) (v0 : Nat) (v1 : Int32) (v2 : Int32) (v3 : Int32) (s0 : Nat) : q_J G l (RX10, cX10_move, 4, 5, 118, (some .int), "move", []) k0 z0 (q_Z G k0 z0 q_i) 20 [(0, .ref v0), (1, .int v1), (2, .int v2), (3, .int v3)] [.ref s0] h (b_X10_move_20 h v0 v1 v2 v3 s0) := by
  unfold b_X10_move_20
  refine j_iconst (pc := 20) ki_1 dX10_move_20 ?_
  refine j_goto (pc := 21) (tgt := 25) dX10_move_21 (by decide) ?_
  exact jb_X10_move_25 _ _ _ _ _ _ _
set_option maxRecDepth 20000 in
set_option maxHeartbeats 1000000 in
theorem jb_X10_move_0 {G : q_G} {l : Launch} {k0 z0 : Nat} (h : q_H) (v0 : Nat) (v1 : Int32) (v2 : Int32) (v3 : Int32) : q_J G l (RX10, cX10_move, 4, 5, 118, (some .int), "move", []) k0 z0 (q_Z G k0 z0 q_i) 0 [(0, .ref v0), (1, .int v1), (2, .int v2), (3, .int v3)] [] h (b_X10_move_0 h v0 v1 v2 v3) := by
  unfold b_X10_move_0
  refine j_aload_n (pc := 0) (p := 0) rfl rfl dX10_move_0 ?_
  refine j_iload_n (pc := 1) (p := 1) rfl rfl dX10_move_1 ?_
  refine j_cSi (pc := 2) Y_X10_isCopy ml_X10_101 sm_X10_isCopy ⟨Nat.le_of_ble_eq_true rfl, Nat.le_of_ble_eq_true rfl⟩ dX10_move_2 (As := [.int v1]) (rest := [.ref v0]) rfl rfl (Nat.le_of_ble_eq_true rfl) (fun x hq9 => c_X10_isCopy _ _ _ hq9) (fun q16 _ => ?_)
  refine j_if_eq (pc := 5) (tgt := 20) dX10_move_5 (by decide) (fun _ => ?_) (fun _ => ?_)
  · exact jb_X10_move_20 _ _ _ _ _ _
  refine j_iload_n (pc := 8) (p := 3) rfl rfl dX10_move_8 ?_
  refine j_i2l (pc := 9) dX10_move_9 ?_
  refine j_lconst (pc := 10) kl_0 dX10_move_10 ?_
  refine j_ldc2 (pc := 11) cL_X10_171 dX10_move_11 ?_
  refine j_cSi (pc := 14) Y_X10_in ml_X10_21 sm_X10_in ⟨Nat.le_of_ble_eq_true rfl, Nat.le_of_ble_eq_true rfl⟩ dX10_move_14 (As := [.long (Int32.toInt64 v3), .long (0), .long (5)]) (rest := [.ref v0]) rfl rfl (Nat.le_of_ble_eq_true rfl) (fun x hq9 => c_X10_in _ _ _ _ _ hq9) (fun q17 _ => ?_)
  refine j_if_ne (pc := 17) (tgt := 24) dX10_move_17 (by decide) (fun _ => ?_) (fun _ => ?_)
  · exact jb_X10_move_20 _ _ _ _ _ _
  refine j_iconst (pc := 24) ki_0 dX10_move_24 ?_
  exact jb_X10_move_25 _ _ _ _ _ _ _
set_option maxRecDepth 20000 in
set_option maxHeartbeats 1000000 in
theorem c_X10_move {G : q_G} {l : Launch} : ∀ (h : q_H) (a0 : Nat) (a1 : Int32) (a2 : Int32) (a3 : Int32) (q : q_H × Int32), f_X10_move h a0 a1 a2 a3 = some q → (∃ fs, h.1 a0 = .inr (9, fs)) ∧ q_CT G l yX10_move cX10_move 4 (some .int) 5 118 [.ref a0, .int a1, .int a2, .int a3] h q.1 (q_i q.2) := by
  intro h a0 a1 a2 a3 q e
  obtain ⟨e1, e2⟩ := q_chk_ok e
  exact ⟨e1, q_ofJ Y_X10_move (Nat.le_of_ble_eq_true rfl) (jb_X10_move_0 h a0 a1 a2 a3) q e2⟩
/-! FarFoldersModel.third(II)I -/
theorem dX10_third_0 : decode cX10_third 0 = .ok (.iconst 3, 1) := by decide +kernel
theorem dX10_third_1 : decode cX10_third 1 = .ok (.iload_n 0, 1) := by decide +kernel
theorem dX10_third_2 : decode cX10_third 2 = .ok (.isub, 1) := by decide +kernel
theorem dX10_third_3 : decode cX10_third 3 = .ok (.iload_n 1, 1) := by decide +kernel
theorem dX10_third_4 : decode cX10_third 4 = .ok (.isub, 1) := by decide +kernel
theorem dX10_third_5 : decode cX10_third 5 = .ok (.ireturn, 1) := by decide +kernel
def b_X10_third_0 (h : q_H) (v0 : Int32) (v1 : Int32) : Option (q_H × Int32) :=
  some (h, (((3) - v0) - v1))
def f_X10_third (h : q_H) (a0 : Int32) (a1 : Int32) : Option (q_H × Int32) := b_X10_third_0 h a0 a1
set_option maxRecDepth 20000 in
set_option maxHeartbeats 1000000 in
theorem jb_X10_third_0 {G : q_G} {l : Launch} {k0 z0 : Nat} (h : q_H) (v0 : Int32) (v1 : Int32) : q_J G l (RX10, cX10_third, 2, 0, 0, (some .int), "third", []) k0 z0 (q_Z G k0 z0 q_i) 0 [(0, .int v0), (1, .int v1)] [] h (b_X10_third_0 h v0 v1) := by
  unfold b_X10_third_0
  refine j_iconst (pc := 0) ki_3 dX10_third_0 ?_
  refine j_iload_n (pc := 1) (p := 0) rfl rfl dX10_third_1 ?_
  refine j_isub (pc := 2) dX10_third_2 ?_
  refine j_iload_n (pc := 3) (p := 1) rfl rfl dX10_third_3 ?_
  refine j_isub (pc := 4) dX10_third_4 ?_
  exact j_iret (pc := 5) rfl dX10_third_5
set_option maxRecDepth 20000 in
set_option maxHeartbeats 1000000 in
theorem c_X10_third {G : q_G} {l : Launch} : ∀ (h : q_H) (a0 : Int32) (a1 : Int32) (q : q_H × Int32), f_X10_third h a0 a1 = some q → q_CT G l yX10_third cX10_third 2 (some .int) 0 0 [.int a0, .int a1] h q.1 (q_i q.2) := by
  intro h a0 a1 q e
  exact q_ofJ Y_X10_third (Nat.le_of_ble_eq_true rfl) (jb_X10_third_0 h a0 a1) q e
/-! FarFoldersModel.nearest(II)I -/
theorem dX10_nearest_0 : decode cX10_nearest 0 = .ok (.aload_n 0, 1) := by decide +kernel
theorem dX10_nearest_1 : decode cX10_nearest 1 = .ok (.iconst 0, 1) := by decide +kernel
theorem dX10_nearest_2 : decode cX10_nearest 2 = .ok (.putfield 1, 3) := by decide +kernel
theorem dX10_nearest_5 : decode cX10_nearest 5 = .ok (.iload_n 1, 1) := by decide +kernel
theorem dX10_nearest_6 : decode cX10_nearest 6 = .ok (.iload_n 2, 1) := by decide +kernel
theorem dX10_nearest_7 : decode cX10_nearest 7 = .ok (.invokestatic 223, 3) := by decide +kernel
theorem dX10_nearest_10 : decode cX10_nearest 10 = .ok (.ifCond .ne 5, 3) := by decide +kernel
theorem dX10_nearest_13 : decode cX10_nearest 13 = .ok (.iconst (-1), 1) := by decide +kernel
theorem dX10_nearest_14 : decode cX10_nearest 14 = .ok (.ireturn, 1) := by decide +kernel
theorem dX10_nearest_15 : decode cX10_nearest 15 = .ok (.iload_n 1, 1) := by decide +kernel
theorem dX10_nearest_16 : decode cX10_nearest 16 = .ok (.iload_n 2, 1) := by decide +kernel
theorem dX10_nearest_17 : decode cX10_nearest 17 = .ok (.invokestatic 336, 3) := by decide +kernel
theorem dX10_nearest_20 : decode cX10_nearest 20 = .ok (.istore_n 3, 1) := by decide +kernel
theorem dX10_nearest_21 : decode cX10_nearest 21 = .ok (.bipush 7, 2) := by decide +kernel
theorem dX10_nearest_23 : decode cX10_nearest 23 = .ok (.istore 4, 2) := by decide +kernel
theorem dX10_nearest_25 : decode cX10_nearest 25 = .ok (.ldc 250, 2) := by decide +kernel
theorem dX10_nearest_27 : decode cX10_nearest 27 = .ok (.istore 5, 2) := by decide +kernel
theorem dX10_nearest_29 : decode cX10_nearest 29 = .ok (.iconst 0, 1) := by decide +kernel
theorem dX10_nearest_30 : decode cX10_nearest 30 = .ok (.istore 6, 2) := by decide +kernel
theorem dX10_nearest_32 : decode cX10_nearest 32 = .ok (.iconst 0, 1) := by decide +kernel
theorem dX10_nearest_33 : decode cX10_nearest 33 = .ok (.istore 7, 2) := by decide +kernel
theorem dX10_nearest_35 : decode cX10_nearest 35 = .ok (.iload 7, 2) := by decide +kernel
theorem dX10_nearest_37 : decode cX10_nearest 37 = .ok (.aload_n 0, 1) := by decide +kernel
theorem dX10_nearest_38 : decode cX10_nearest 38 = .ok (.iload_n 2, 1) := by decide +kernel
theorem dX10_nearest_39 : decode cX10_nearest 39 = .ok (.iload_n 1, 1) := by decide +kernel
theorem dX10_nearest_40 : decode cX10_nearest 40 = .ok (.invokevirtual 173, 3) := by decide +kernel
theorem dX10_nearest_43 : decode cX10_nearest 43 = .ok (.if_icmp .gt 50, 3) := by decide +kernel
theorem dX10_nearest_46 : decode cX10_nearest 46 = .ok (.iconst 0, 1) := by decide +kernel
theorem dX10_nearest_47 : decode cX10_nearest 47 = .ok (.istore 8, 2) := by decide +kernel
theorem dX10_nearest_49 : decode cX10_nearest 49 = .ok (.iload 8, 2) := by decide +kernel
theorem dX10_nearest_51 : decode cX10_nearest 51 = .ok (.aload_n 0, 1) := by decide +kernel
theorem dX10_nearest_52 : decode cX10_nearest 52 = .ok (.iload_n 3, 1) := by decide +kernel
theorem dX10_nearest_53 : decode cX10_nearest 53 = .ok (.iload_n 1, 1) := by decide +kernel
theorem dX10_nearest_54 : decode cX10_nearest 54 = .ok (.invokevirtual 173, 3) := by decide +kernel
theorem dX10_nearest_57 : decode cX10_nearest 57 = .ok (.if_icmp .gt 30, 3) := by decide +kernel
theorem dX10_nearest_60 : decode cX10_nearest 60 = .ok (.aload_n 0, 1) := by decide +kernel
theorem dX10_nearest_61 : decode cX10_nearest 61 = .ok (.iconst 2, 1) := by decide +kernel
theorem dX10_nearest_62 : decode cX10_nearest 62 = .ok (.iload 4, 2) := by decide +kernel
theorem dX10_nearest_64 : decode cX10_nearest 64 = .ok (.iload 7, 2) := by decide +kernel
theorem dX10_nearest_66 : decode cX10_nearest 66 = .ok (.imul, 1) := by decide +kernel
theorem dX10_nearest_67 : decode cX10_nearest 67 = .ok (.iadd, 1) := by decide +kernel
theorem dX10_nearest_68 : decode cX10_nearest 68 = .ok (.iload 8, 2) := by decide +kernel
theorem dX10_nearest_70 : decode cX10_nearest 70 = .ok (.iadd, 1) := by decide +kernel
theorem dX10_nearest_71 : decode cX10_nearest 71 = .ok (.iload_n 1, 1) := by decide +kernel
theorem dX10_nearest_72 : decode cX10_nearest 72 = .ok (.iload_n 2, 1) := by decide +kernel
theorem dX10_nearest_73 : decode cX10_nearest 73 = .ok (.iload 7, 2) := by decide +kernel
theorem dX10_nearest_75 : decode cX10_nearest 75 = .ok (.iload_n 3, 1) := by decide +kernel
theorem dX10_nearest_76 : decode cX10_nearest 76 = .ok (.iload 8, 2) := by decide +kernel
theorem dX10_nearest_78 : decode cX10_nearest 78 = .ok (.invokevirtual 346, 3) := by decide +kernel
theorem dX10_nearest_81 : decode cX10_nearest 81 = .ok (.iinc 8 1, 3) := by decide +kernel
theorem dX10_nearest_84 : decode cX10_nearest 84 = .ok (.goto (-35), 3) := by decide +kernel
theorem dX10_nearest_87 : decode cX10_nearest 87 = .ok (.iinc 7 1, 3) := by decide +kernel
theorem dX10_nearest_90 : decode cX10_nearest 90 = .ok (.goto (-55), 3) := by decide +kernel
theorem dX10_nearest_93 : decode cX10_nearest 93 = .ok (.iconst 0, 1) := by decide +kernel
theorem dX10_nearest_94 : decode cX10_nearest 94 = .ok (.istore 7, 2) := by decide +kernel
theorem dX10_nearest_96 : decode cX10_nearest 96 = .ok (.iload 7, 2) := by decide +kernel
theorem dX10_nearest_98 : decode cX10_nearest 98 = .ok (.aload_n 0, 1) := by decide +kernel
theorem dX10_nearest_99 : decode cX10_nearest 99 = .ok (.iload_n 1, 1) := by decide +kernel
theorem dX10_nearest_100 : decode cX10_nearest 100 = .ok (.iload_n 2, 1) := by decide +kernel
theorem dX10_nearest_101 : decode cX10_nearest 101 = .ok (.invokevirtual 173, 3) := by decide +kernel
theorem dX10_nearest_104 : decode cX10_nearest 104 = .ok (.if_icmp .gt 56, 3) := by decide +kernel
theorem dX10_nearest_107 : decode cX10_nearest 107 = .ok (.iconst 0, 1) := by decide +kernel
theorem dX10_nearest_108 : decode cX10_nearest 108 = .ok (.istore 8, 2) := by decide +kernel
theorem dX10_nearest_110 : decode cX10_nearest 110 = .ok (.iload 8, 2) := by decide +kernel
theorem dX10_nearest_112 : decode cX10_nearest 112 = .ok (.aload_n 0, 1) := by decide +kernel
theorem dX10_nearest_113 : decode cX10_nearest 113 = .ok (.iload_n 3, 1) := by decide +kernel
theorem dX10_nearest_114 : decode cX10_nearest 114 = .ok (.iload_n 2, 1) := by decide +kernel
theorem dX10_nearest_115 : decode cX10_nearest 115 = .ok (.invokevirtual 173, 3) := by decide +kernel
theorem dX10_nearest_118 : decode cX10_nearest 118 = .ok (.if_icmp .gt 36, 3) := by decide +kernel
theorem dX10_nearest_121 : decode cX10_nearest 121 = .ok (.aload_n 0, 1) := by decide +kernel
theorem dX10_nearest_122 : decode cX10_nearest 122 = .ok (.iconst 2, 1) := by decide +kernel
theorem dX10_nearest_123 : decode cX10_nearest 123 = .ok (.iload 4, 2) := by decide +kernel
theorem dX10_nearest_125 : decode cX10_nearest 125 = .ok (.iload 4, 2) := by decide +kernel
theorem dX10_nearest_127 : decode cX10_nearest 127 = .ok (.imul, 1) := by decide +kernel
theorem dX10_nearest_128 : decode cX10_nearest 128 = .ok (.iadd, 1) := by decide +kernel
theorem dX10_nearest_129 : decode cX10_nearest 129 = .ok (.iload 4, 2) := by decide +kernel
theorem dX10_nearest_131 : decode cX10_nearest 131 = .ok (.iload 7, 2) := by decide +kernel
theorem dX10_nearest_133 : decode cX10_nearest 133 = .ok (.imul, 1) := by decide +kernel
theorem dX10_nearest_134 : decode cX10_nearest 134 = .ok (.iadd, 1) := by decide +kernel
theorem dX10_nearest_135 : decode cX10_nearest 135 = .ok (.iload 8, 2) := by decide +kernel
theorem dX10_nearest_137 : decode cX10_nearest 137 = .ok (.iadd, 1) := by decide +kernel
theorem dX10_nearest_138 : decode cX10_nearest 138 = .ok (.iload_n 2, 1) := by decide +kernel
theorem dX10_nearest_139 : decode cX10_nearest 139 = .ok (.iload_n 1, 1) := by decide +kernel
theorem dX10_nearest_140 : decode cX10_nearest 140 = .ok (.iload 7, 2) := by decide +kernel
theorem dX10_nearest_142 : decode cX10_nearest 142 = .ok (.iload_n 3, 1) := by decide +kernel
theorem dX10_nearest_143 : decode cX10_nearest 143 = .ok (.iload 8, 2) := by decide +kernel
theorem dX10_nearest_145 : decode cX10_nearest 145 = .ok (.invokevirtual 346, 3) := by decide +kernel
theorem dX10_nearest_148 : decode cX10_nearest 148 = .ok (.iinc 8 1, 3) := by decide +kernel
theorem dX10_nearest_151 : decode cX10_nearest 151 = .ok (.goto (-41), 3) := by decide +kernel
theorem dX10_nearest_154 : decode cX10_nearest 154 = .ok (.iinc 7 1, 3) := by decide +kernel
theorem dX10_nearest_157 : decode cX10_nearest 157 = .ok (.goto (-61), 3) := by decide +kernel
theorem dX10_nearest_160 : decode cX10_nearest 160 = .ok (.iconst 0, 1) := by decide +kernel
theorem dX10_nearest_161 : decode cX10_nearest 161 = .ok (.istore 7, 2) := by decide +kernel
theorem dX10_nearest_163 : decode cX10_nearest 163 = .ok (.iload 7, 2) := by decide +kernel
theorem dX10_nearest_165 : decode cX10_nearest 165 = .ok (.iload 4, 2) := by decide +kernel
theorem dX10_nearest_167 : decode cX10_nearest 167 = .ok (.iload 4, 2) := by decide +kernel
theorem dX10_nearest_169 : decode cX10_nearest 169 = .ok (.imul, 1) := by decide +kernel
theorem dX10_nearest_170 : decode cX10_nearest 170 = .ok (.iload 4, 2) := by decide +kernel
theorem dX10_nearest_172 : decode cX10_nearest 172 = .ok (.imul, 1) := by decide +kernel
theorem dX10_nearest_173 : decode cX10_nearest 173 = .ok (.iload 4, 2) := by decide +kernel
theorem dX10_nearest_175 : decode cX10_nearest 175 = .ok (.imul, 1) := by decide +kernel
theorem dX10_nearest_176 : decode cX10_nearest 176 = .ok (.if_icmp .ge 174, 3) := by decide +kernel
theorem dX10_nearest_179 : decode cX10_nearest 179 = .ok (.iload 7, 2) := by decide +kernel
theorem dX10_nearest_181 : decode cX10_nearest 181 = .ok (.iload 4, 2) := by decide +kernel
theorem dX10_nearest_183 : decode cX10_nearest 183 = .ok (.iload 4, 2) := by decide +kernel
theorem dX10_nearest_185 : decode cX10_nearest 185 = .ok (.imul, 1) := by decide +kernel
theorem dX10_nearest_186 : decode cX10_nearest 186 = .ok (.iload 4, 2) := by decide +kernel
theorem dX10_nearest_188 : decode cX10_nearest 188 = .ok (.imul, 1) := by decide +kernel
theorem dX10_nearest_189 : decode cX10_nearest 189 = .ok (.idiv, 1) := by decide +kernel
theorem dX10_nearest_190 : decode cX10_nearest 190 = .ok (.istore 8, 2) := by decide +kernel
theorem dX10_nearest_192 : decode cX10_nearest 192 = .ok (.iload 7, 2) := by decide +kernel
theorem dX10_nearest_194 : decode cX10_nearest 194 = .ok (.iload 4, 2) := by decide +kernel
theorem dX10_nearest_196 : decode cX10_nearest 196 = .ok (.iload 4, 2) := by decide +kernel
theorem dX10_nearest_198 : decode cX10_nearest 198 = .ok (.imul, 1) := by decide +kernel
theorem dX10_nearest_199 : decode cX10_nearest 199 = .ok (.idiv, 1) := by decide +kernel
theorem dX10_nearest_200 : decode cX10_nearest 200 = .ok (.iload 4, 2) := by decide +kernel
theorem dX10_nearest_202 : decode cX10_nearest 202 = .ok (.irem, 1) := by decide +kernel
theorem dX10_nearest_203 : decode cX10_nearest 203 = .ok (.istore 9, 2) := by decide +kernel
theorem dX10_nearest_205 : decode cX10_nearest 205 = .ok (.iload 7, 2) := by decide +kernel
theorem dX10_nearest_207 : decode cX10_nearest 207 = .ok (.iload 4, 2) := by decide +kernel
theorem dX10_nearest_209 : decode cX10_nearest 209 = .ok (.idiv, 1) := by decide +kernel
theorem dX10_nearest_210 : decode cX10_nearest 210 = .ok (.iload 4, 2) := by decide +kernel
theorem dX10_nearest_212 : decode cX10_nearest 212 = .ok (.irem, 1) := by decide +kernel
theorem dX10_nearest_213 : decode cX10_nearest 213 = .ok (.istore 10, 2) := by decide +kernel
theorem dX10_nearest_215 : decode cX10_nearest 215 = .ok (.iload 7, 2) := by decide +kernel
theorem dX10_nearest_217 : decode cX10_nearest 217 = .ok (.iload 4, 2) := by decide +kernel
theorem dX10_nearest_219 : decode cX10_nearest 219 = .ok (.irem, 1) := by decide +kernel
theorem dX10_nearest_220 : decode cX10_nearest 220 = .ok (.istore 11, 2) := by decide +kernel
theorem dX10_nearest_222 : decode cX10_nearest 222 = .ok (.iload 8, 2) := by decide +kernel
theorem dX10_nearest_224 : decode cX10_nearest 224 = .ok (.aload_n 0, 1) := by decide +kernel
theorem dX10_nearest_225 : decode cX10_nearest 225 = .ok (.iload_n 1, 1) := by decide +kernel
theorem dX10_nearest_226 : decode cX10_nearest 226 = .ok (.iload_n 2, 1) := by decide +kernel
theorem dX10_nearest_227 : decode cX10_nearest 227 = .ok (.invokevirtual 173, 3) := by decide +kernel
theorem dX10_nearest_230 : decode cX10_nearest 230 = .ok (.if_icmp .gt 40, 3) := by decide +kernel
theorem dX10_nearest_233 : decode cX10_nearest 233 = .ok (.iload 9, 2) := by decide +kernel
theorem dX10_nearest_235 : decode cX10_nearest 235 = .ok (.aload_n 0, 1) := by decide +kernel
theorem dX10_nearest_236 : decode cX10_nearest 236 = .ok (.iload_n 2, 1) := by decide +kernel
theorem dX10_nearest_237 : decode cX10_nearest 237 = .ok (.iload_n 1, 1) := by decide +kernel
theorem dX10_nearest_238 : decode cX10_nearest 238 = .ok (.invokevirtual 173, 3) := by decide +kernel
theorem dX10_nearest_241 : decode cX10_nearest 241 = .ok (.if_icmp .gt 29, 3) := by decide +kernel
theorem dX10_nearest_244 : decode cX10_nearest 244 = .ok (.iload 10, 2) := by decide +kernel
theorem dX10_nearest_246 : decode cX10_nearest 246 = .ok (.aload_n 0, 1) := by decide +kernel
theorem dX10_nearest_247 : decode cX10_nearest 247 = .ok (.iload_n 3, 1) := by decide +kernel
theorem dX10_nearest_248 : decode cX10_nearest 248 = .ok (.iload_n 1, 1) := by decide +kernel
theorem dX10_nearest_249 : decode cX10_nearest 249 = .ok (.invokevirtual 173, 3) := by decide +kernel
theorem dX10_nearest_252 : decode cX10_nearest 252 = .ok (.if_icmp .gt 18, 3) := by decide +kernel
theorem dX10_nearest_255 : decode cX10_nearest 255 = .ok (.iload 11, 2) := by decide +kernel
theorem dX10_nearest_257 : decode cX10_nearest 257 = .ok (.aload_n 0, 1) := by decide +kernel
theorem dX10_nearest_258 : decode cX10_nearest 258 = .ok (.iload_n 3, 1) := by decide +kernel
theorem dX10_nearest_259 : decode cX10_nearest 259 = .ok (.iload_n 2, 1) := by decide +kernel
theorem dX10_nearest_260 : decode cX10_nearest 260 = .ok (.invokevirtual 173, 3) := by decide +kernel
theorem dX10_nearest_263 : decode cX10_nearest 263 = .ok (.if_icmp .gt 7, 3) := by decide +kernel
theorem dX10_nearest_266 : decode cX10_nearest 266 = .ok (.iconst 1, 1) := by decide +kernel
theorem dX10_nearest_267 : decode cX10_nearest 267 = .ok (.goto 4, 3) := by decide +kernel
theorem dX10_nearest_270 : decode cX10_nearest 270 = .ok (.iconst 0, 1) := by decide +kernel
theorem dX10_nearest_271 : decode cX10_nearest 271 = .ok (.istore 12, 2) := by decide +kernel
theorem dX10_nearest_273 : decode cX10_nearest 273 = .ok (.iload 12, 2) := by decide +kernel
theorem dX10_nearest_275 : decode cX10_nearest 275 = .ok (.ifCond .eq 69, 3) := by decide +kernel
theorem dX10_nearest_278 : decode cX10_nearest 278 = .ok (.iload 8, 2) := by decide +kernel
theorem dX10_nearest_280 : decode cX10_nearest 280 = .ok (.iload 9, 2) := by decide +kernel
theorem dX10_nearest_282 : decode cX10_nearest 282 = .ok (.iadd, 1) := by decide +kernel
theorem dX10_nearest_283 : decode cX10_nearest 283 = .ok (.iload 10, 2) := by decide +kernel
theorem dX10_nearest_285 : decode cX10_nearest 285 = .ok (.iadd, 1) := by decide +kernel
theorem dX10_nearest_286 : decode cX10_nearest 286 = .ok (.iload 11, 2) := by decide +kernel
theorem dX10_nearest_288 : decode cX10_nearest 288 = .ok (.iadd, 1) := by decide +kernel
theorem dX10_nearest_289 : decode cX10_nearest 289 = .ok (.iload 5, 2) := by decide +kernel
theorem dX10_nearest_291 : decode cX10_nearest 291 = .ok (.if_icmp .ge 53, 3) := by decide +kernel
theorem dX10_nearest_294 : decode cX10_nearest 294 = .ok (.aload_n 0, 1) := by decide +kernel
theorem dX10_nearest_295 : decode cX10_nearest 295 = .ok (.iconst 2, 1) := by decide +kernel
theorem dX10_nearest_296 : decode cX10_nearest 296 = .ok (.iload 4, 2) := by decide +kernel
theorem dX10_nearest_298 : decode cX10_nearest 298 = .ok (.iload 9, 2) := by decide +kernel
theorem dX10_nearest_300 : decode cX10_nearest 300 = .ok (.imul, 1) := by decide +kernel
theorem dX10_nearest_301 : decode cX10_nearest 301 = .ok (.iadd, 1) := by decide +kernel
theorem dX10_nearest_302 : decode cX10_nearest 302 = .ok (.iload 10, 2) := by decide +kernel
theorem dX10_nearest_304 : decode cX10_nearest 304 = .ok (.iadd, 1) := by decide +kernel
theorem dX10_nearest_305 : decode cX10_nearest 305 = .ok (.iconst 2, 1) := by decide +kernel
theorem dX10_nearest_306 : decode cX10_nearest 306 = .ok (.iload 4, 2) := by decide +kernel
theorem dX10_nearest_308 : decode cX10_nearest 308 = .ok (.iload 4, 2) := by decide +kernel
theorem dX10_nearest_310 : decode cX10_nearest 310 = .ok (.imul, 1) := by decide +kernel
theorem dX10_nearest_311 : decode cX10_nearest 311 = .ok (.iadd, 1) := by decide +kernel
theorem dX10_nearest_312 : decode cX10_nearest 312 = .ok (.iload 4, 2) := by decide +kernel
theorem dX10_nearest_314 : decode cX10_nearest 314 = .ok (.iload 8, 2) := by decide +kernel
theorem dX10_nearest_316 : decode cX10_nearest 316 = .ok (.imul, 1) := by decide +kernel
theorem dX10_nearest_317 : decode cX10_nearest 317 = .ok (.iadd, 1) := by decide +kernel
theorem dX10_nearest_318 : decode cX10_nearest 318 = .ok (.iload 11, 2) := by decide +kernel
theorem dX10_nearest_320 : decode cX10_nearest 320 = .ok (.iadd, 1) := by decide +kernel
theorem dX10_nearest_321 : decode cX10_nearest 321 = .ok (.invokevirtual 330, 3) := by decide +kernel
theorem dX10_nearest_324 : decode cX10_nearest 324 = .ok (.ifCond .ne 20, 3) := by decide +kernel
theorem dX10_nearest_327 : decode cX10_nearest 327 = .ok (.iload 8, 2) := by decide +kernel
theorem dX10_nearest_329 : decode cX10_nearest 329 = .ok (.iload 9, 2) := by decide +kernel
theorem dX10_nearest_331 : decode cX10_nearest 331 = .ok (.iadd, 1) := by decide +kernel
theorem dX10_nearest_332 : decode cX10_nearest 332 = .ok (.iload 10, 2) := by decide +kernel
theorem dX10_nearest_334 : decode cX10_nearest 334 = .ok (.iadd, 1) := by decide +kernel
theorem dX10_nearest_335 : decode cX10_nearest 335 = .ok (.iload 11, 2) := by decide +kernel
theorem dX10_nearest_337 : decode cX10_nearest 337 = .ok (.iadd, 1) := by decide +kernel
theorem dX10_nearest_338 : decode cX10_nearest 338 = .ok (.istore 5, 2) := by decide +kernel
theorem dX10_nearest_340 : decode cX10_nearest 340 = .ok (.iload 7, 2) := by decide +kernel
theorem dX10_nearest_342 : decode cX10_nearest 342 = .ok (.istore 6, 2) := by decide +kernel
theorem dX10_nearest_344 : decode cX10_nearest 344 = .ok (.iinc 7 1, 3) := by decide +kernel
theorem dX10_nearest_347 : decode cX10_nearest 347 = .ok (.goto (-184), 3) := by decide +kernel
theorem dX10_nearest_350 : decode cX10_nearest 350 = .ok (.iload 5, 2) := by decide +kernel
theorem dX10_nearest_352 : decode cX10_nearest 352 = .ok (.ldc 250, 2) := by decide +kernel
theorem dX10_nearest_354 : decode cX10_nearest 354 = .ok (.if_icmp .ne 6, 3) := by decide +kernel
theorem dX10_nearest_357 : decode cX10_nearest 357 = .ok (.bipush (-2), 2) := by decide +kernel
theorem dX10_nearest_359 : decode cX10_nearest 359 = .ok (.ireturn, 1) := by decide +kernel
theorem dX10_nearest_360 : decode cX10_nearest 360 = .ok (.aload_n 0, 1) := by decide +kernel
theorem dX10_nearest_361 : decode cX10_nearest 361 = .ok (.iconst 0, 1) := by decide +kernel
theorem dX10_nearest_362 : decode cX10_nearest 362 = .ok (.putfield 11, 3) := by decide +kernel
theorem dX10_nearest_365 : decode cX10_nearest 365 = .ok (.aload_n 0, 1) := by decide +kernel
theorem dX10_nearest_366 : decode cX10_nearest 366 = .ok (.iload 6, 2) := by decide +kernel
theorem dX10_nearest_368 : decode cX10_nearest 368 = .ok (.iload 4, 2) := by decide +kernel
theorem dX10_nearest_370 : decode cX10_nearest 370 = .ok (.iload 4, 2) := by decide +kernel
theorem dX10_nearest_372 : decode cX10_nearest 372 = .ok (.imul, 1) := by decide +kernel
theorem dX10_nearest_373 : decode cX10_nearest 373 = .ok (.iload 4, 2) := by decide +kernel
theorem dX10_nearest_375 : decode cX10_nearest 375 = .ok (.imul, 1) := by decide +kernel
theorem dX10_nearest_376 : decode cX10_nearest 376 = .ok (.idiv, 1) := by decide +kernel
theorem dX10_nearest_377 : decode cX10_nearest 377 = .ok (.i2l, 1) := by decide +kernel
theorem dX10_nearest_378 : decode cX10_nearest 378 = .ok (.invokevirtual 202, 3) := by decide +kernel
theorem dX10_nearest_381 : decode cX10_nearest 381 = .ok (.aload_n 0, 1) := by decide +kernel
theorem dX10_nearest_382 : decode cX10_nearest 382 = .ok (.iload 6, 2) := by decide +kernel
theorem dX10_nearest_384 : decode cX10_nearest 384 = .ok (.iload 4, 2) := by decide +kernel
theorem dX10_nearest_386 : decode cX10_nearest 386 = .ok (.iload 4, 2) := by decide +kernel
theorem dX10_nearest_388 : decode cX10_nearest 388 = .ok (.imul, 1) := by decide +kernel
theorem dX10_nearest_389 : decode cX10_nearest 389 = .ok (.idiv, 1) := by decide +kernel
theorem dX10_nearest_390 : decode cX10_nearest 390 = .ok (.iload 4, 2) := by decide +kernel
theorem dX10_nearest_392 : decode cX10_nearest 392 = .ok (.irem, 1) := by decide +kernel
theorem dX10_nearest_393 : decode cX10_nearest 393 = .ok (.i2l, 1) := by decide +kernel
theorem dX10_nearest_394 : decode cX10_nearest 394 = .ok (.invokevirtual 202, 3) := by decide +kernel
theorem dX10_nearest_397 : decode cX10_nearest 397 = .ok (.aload_n 0, 1) := by decide +kernel
theorem dX10_nearest_398 : decode cX10_nearest 398 = .ok (.iload 6, 2) := by decide +kernel
theorem dX10_nearest_400 : decode cX10_nearest 400 = .ok (.iload 4, 2) := by decide +kernel
theorem dX10_nearest_402 : decode cX10_nearest 402 = .ok (.idiv, 1) := by decide +kernel
theorem dX10_nearest_403 : decode cX10_nearest 403 = .ok (.iload 4, 2) := by decide +kernel
theorem dX10_nearest_405 : decode cX10_nearest 405 = .ok (.irem, 1) := by decide +kernel
theorem dX10_nearest_406 : decode cX10_nearest 406 = .ok (.i2l, 1) := by decide +kernel
theorem dX10_nearest_407 : decode cX10_nearest 407 = .ok (.invokevirtual 202, 3) := by decide +kernel
theorem dX10_nearest_410 : decode cX10_nearest 410 = .ok (.aload_n 0, 1) := by decide +kernel
theorem dX10_nearest_411 : decode cX10_nearest 411 = .ok (.iload 6, 2) := by decide +kernel
theorem dX10_nearest_413 : decode cX10_nearest 413 = .ok (.iload 4, 2) := by decide +kernel
theorem dX10_nearest_415 : decode cX10_nearest 415 = .ok (.irem, 1) := by decide +kernel
theorem dX10_nearest_416 : decode cX10_nearest 416 = .ok (.i2l, 1) := by decide +kernel
theorem dX10_nearest_417 : decode cX10_nearest 417 = .ok (.invokevirtual 202, 3) := by decide +kernel
theorem dX10_nearest_420 : decode cX10_nearest 420 = .ok (.iload 5, 2) := by decide +kernel
theorem dX10_nearest_422 : decode cX10_nearest 422 = .ok (.ireturn, 1) := by decide +kernel
def b_X10_nearest_344 (k163 : q_H → Nat → Int32 → Int32 → Int32 → Int32 → Int32 → Int32 → Int32 → Option (q_H × Int32)) (h : q_H) (v0 : Nat) (v1 : Int32) (v2 : Int32) (v3 : Int32) (v4 : Int32) (v5 : Int32) (v6 : Int32) (v7 : Int32) : Option (q_H × Int32) :=
  k163 h v0 v1 v2 v3 v4 v5 v6 (v7 + 1)
def b_X10_nearest_271 (k163 : q_H → Nat → Int32 → Int32 → Int32 → Int32 → Int32 → Int32 → Int32 → Option (q_H × Int32)) (h : q_H) (v0 : Nat) (v1 : Int32) (v2 : Int32) (v3 : Int32) (v4 : Int32) (v5 : Int32) (v6 : Int32) (v7 : Int32) (v8 : Int32) (v9 : Int32) (v10 : Int32) (v11 : Int32) (s0 : Int32) : Option (q_H × Int32) :=
  if s0 = 0 then b_X10_nearest_344 k163 h v0 v1 v2 v3 v4 v5 v6 v7 else if v5 ≤ (((v8 + v9) + v10) + v11) then b_X10_nearest_344 k163 h v0 v1 v2 v3 v4 v5 v6 v7 else Option.bind (f_X10_other h v0 (((2) + (v4 * v9)) + v10) ((((2) + (v4 * v4)) + (v4 * v8)) + v11)) (fun q1 => if q1.2 = 0 then b_X10_nearest_344 k163 q1.1 v0 v1 v2 v3 v4 (((v8 + v9) + v10) + v11) v7 v7 else b_X10_nearest_344 k163 q1.1 v0 v1 v2 v3 v4 v5 v6 v7)
def b_X10_nearest_270 (k163 : q_H → Nat → Int32 → Int32 → Int32 → Int32 → Int32 → Int32 → Int32 → Option (q_H × Int32)) (h : q_H) (v0 : Nat) (v1 : Int32) (v2 : Int32) (v3 : Int32) (v4 : Int32) (v5 : Int32) (v6 : Int32) (v7 : Int32) (v8 : Int32) (v9 : Int32) (v10 : Int32) (v11 : Int32) : Option (q_H × Int32) :=
  b_X10_nearest_271 k163 h v0 v1 v2 v3 v4 v5 v6 v7 v8 v9 v10 v11 (0)
def b_X10_nearest_163 (k163 : q_H → Nat → Int32 → Int32 → Int32 → Int32 → Int32 → Int32 → Int32 → Option (q_H × Int32)) (h : q_H) (v0 : Nat) (v1 : Int32) (v2 : Int32) (v3 : Int32) (v4 : Int32) (v5 : Int32) (v6 : Int32) (v7 : Int32) : Option (q_H × Int32) :=
  if (((v4 * v4) * v4) * v4) ≤ v7 then if v5 = (1000000) then some (h, (-2)) else Option.bind (q_p 9 1 h v0 (.int (0))) (fun h2 => Option.bind (q_div v6 ((v4 * v4) * v4)) (fun x3 => Option.bind (f_X10_enters h2 v0 (Int32.toInt64 x3)) (fun q4 => Option.bind (q_div v6 (v4 * v4)) (fun x5 => Option.bind (q_rem x5 v4) (fun x6 => Option.bind (f_X10_enters q4.1 v0 (Int32.toInt64 x6)) (fun q7 => Option.bind (q_div v6 v4) (fun x8 => Option.bind (q_rem x8 v4) (fun x9 => Option.bind (f_X10_enters q7.1 v0 (Int32.toInt64 x9)) (fun q10 => Option.bind (q_rem v6 v4) (fun x11 => Option.bind (f_X10_enters q10.1 v0 (Int32.toInt64 x11)) (fun q12 => some (q12.1, v5)))))))))))) else Option.bind (q_div v7 ((v4 * v4) * v4)) (fun x13 => Option.bind (q_div v7 (v4 * v4)) (fun x14 => Option.bind (q_rem x14 v4) (fun x15 => Option.bind (q_div v7 v4) (fun x16 => Option.bind (q_rem x16 v4) (fun x17 => Option.bind (q_rem v7 v4) (fun x18 => Option.bind (f_X10_waiting h v0 v1 v2) (fun q19 => if q19.2 < x13 then b_X10_nearest_270 k163 q19.1 v0 v1 v2 v3 v4 v5 v6 v7 x13 x15 x17 x18 else Option.bind (f_X10_waiting q19.1 v0 v2 v1) (fun q20 => if q20.2 < x15 then b_X10_nearest_270 k163 q20.1 v0 v1 v2 v3 v4 v5 v6 v7 x13 x15 x17 x18 else Option.bind (f_X10_waiting q20.1 v0 v3 v1) (fun q21 => if q21.2 < x17 then b_X10_nearest_270 k163 q21.1 v0 v1 v2 v3 v4 v5 v6 v7 x13 x15 x17 x18 else Option.bind (f_X10_waiting q21.1 v0 v3 v2) (fun q22 => if q22.2 < x18 then b_X10_nearest_270 k163 q22.1 v0 v1 v2 v3 v4 v5 v6 v7 x13 x15 x17 x18 else b_X10_nearest_271 k163 q22.1 v0 v1 v2 v3 v4 v5 v6 v7 x13 x15 x17 x18 (1)))))))))))
def l_X10_nearest_163 : Nat → q_H → Nat → Int32 → Int32 → Int32 → Int32 → Int32 → Int32 → Int32 → Option (q_H × Int32)
  | 0, _, _, _, _, _, _, _, _, _ => none
  | n + 1, h, v0, v1, v2, v3, v4, v5, v6, v7 => b_X10_nearest_163 (l_X10_nearest_163 n) h v0 v1 v2 v3 v4 v5 v6 v7
def b_X10_nearest_110 (k96 : q_H → Nat → Int32 → Int32 → Int32 → Int32 → Int32 → Int32 → Int32 → Option (q_H × Int32)) (k110 : q_H → Nat → Int32 → Int32 → Int32 → Int32 → Int32 → Int32 → Int32 → Int32 → Option (q_H × Int32)) (h : q_H) (v0 : Nat) (v1 : Int32) (v2 : Int32) (v3 : Int32) (v4 : Int32) (v5 : Int32) (v6 : Int32) (v7 : Int32) (v8 : Int32) : Option (q_H × Int32) :=
  Option.bind (f_X10_waiting h v0 v3 v2) (fun q23 => if q23.2 < v8 then k96 q23.1 v0 v1 v2 v3 v4 v5 v6 (v7 + 1) else Option.bind (f_X10_laysBehind q23.1 v0 ((((2) + (v4 * v4)) + (v4 * v7)) + v8) v2 v1 v7 v3 v8) (fun q24 => k110 q24.1 v0 v1 v2 v3 v4 v5 v6 v7 (v8 + 1)))
def l_X10_nearest_110 (k96 : q_H → Nat → Int32 → Int32 → Int32 → Int32 → Int32 → Int32 → Int32 → Option (q_H × Int32)) : Nat → q_H → Nat → Int32 → Int32 → Int32 → Int32 → Int32 → Int32 → Int32 → Int32 → Option (q_H × Int32)
  | 0, _, _, _, _, _, _, _, _, _, _ => none
  | n + 1, h, v0, v1, v2, v3, v4, v5, v6, v7, v8 => b_X10_nearest_110 k96 (l_X10_nearest_110 k96 n) h v0 v1 v2 v3 v4 v5 v6 v7 v8
def b_X10_nearest_96 (k96 : q_H → Nat → Int32 → Int32 → Int32 → Int32 → Int32 → Int32 → Int32 → Option (q_H × Int32)) (h : q_H) (v0 : Nat) (v1 : Int32) (v2 : Int32) (v3 : Int32) (v4 : Int32) (v5 : Int32) (v6 : Int32) (v7 : Int32) : Option (q_H × Int32) :=
  Option.bind (f_X10_waiting h v0 v1 v2) (fun q25 => if q25.2 < v7 then l_X10_nearest_163 q_FU q25.1 v0 v1 v2 v3 v4 v5 v6 (0) else l_X10_nearest_110 k96 q_FU q25.1 v0 v1 v2 v3 v4 v5 v6 v7 (0))
def l_X10_nearest_96 : Nat → q_H → Nat → Int32 → Int32 → Int32 → Int32 → Int32 → Int32 → Int32 → Option (q_H × Int32)
  | 0, _, _, _, _, _, _, _, _, _ => none
  | n + 1, h, v0, v1, v2, v3, v4, v5, v6, v7 => b_X10_nearest_96 (l_X10_nearest_96 n) h v0 v1 v2 v3 v4 v5 v6 v7
def b_X10_nearest_49 (k35 : q_H → Nat → Int32 → Int32 → Int32 → Int32 → Int32 → Int32 → Int32 → Option (q_H × Int32)) (k49 : q_H → Nat → Int32 → Int32 → Int32 → Int32 → Int32 → Int32 → Int32 → Int32 → Option (q_H × Int32)) (h : q_H) (v0 : Nat) (v1 : Int32) (v2 : Int32) (v3 : Int32) (v4 : Int32) (v5 : Int32) (v6 : Int32) (v7 : Int32) (v8 : Int32) : Option (q_H × Int32) :=
  Option.bind (f_X10_waiting h v0 v3 v1) (fun q26 => if q26.2 < v8 then k35 q26.1 v0 v1 v2 v3 v4 v5 v6 (v7 + 1) else Option.bind (f_X10_laysBehind q26.1 v0 (((2) + (v4 * v7)) + v8) v1 v2 v7 v3 v8) (fun q27 => k49 q27.1 v0 v1 v2 v3 v4 v5 v6 v7 (v8 + 1)))
def l_X10_nearest_49 (k35 : q_H → Nat → Int32 → Int32 → Int32 → Int32 → Int32 → Int32 → Int32 → Option (q_H × Int32)) : Nat → q_H → Nat → Int32 → Int32 → Int32 → Int32 → Int32 → Int32 → Int32 → Int32 → Option (q_H × Int32)
  | 0, _, _, _, _, _, _, _, _, _, _ => none
  | n + 1, h, v0, v1, v2, v3, v4, v5, v6, v7, v8 => b_X10_nearest_49 k35 (l_X10_nearest_49 k35 n) h v0 v1 v2 v3 v4 v5 v6 v7 v8
def b_X10_nearest_35 (k35 : q_H → Nat → Int32 → Int32 → Int32 → Int32 → Int32 → Int32 → Int32 → Option (q_H × Int32)) (h : q_H) (v0 : Nat) (v1 : Int32) (v2 : Int32) (v3 : Int32) (v4 : Int32) (v5 : Int32) (v6 : Int32) (v7 : Int32) : Option (q_H × Int32) :=
  Option.bind (f_X10_waiting h v0 v2 v1) (fun q28 => if q28.2 < v7 then l_X10_nearest_96 q_FU q28.1 v0 v1 v2 v3 v4 v5 v6 (0) else l_X10_nearest_49 k35 q_FU q28.1 v0 v1 v2 v3 v4 v5 v6 v7 (0))
def l_X10_nearest_35 : Nat → q_H → Nat → Int32 → Int32 → Int32 → Int32 → Int32 → Int32 → Int32 → Option (q_H × Int32)
  | 0, _, _, _, _, _, _, _, _, _ => none
  | n + 1, h, v0, v1, v2, v3, v4, v5, v6, v7 => b_X10_nearest_35 (l_X10_nearest_35 n) h v0 v1 v2 v3 v4 v5 v6 v7
def b_X10_nearest_0 (h : q_H) (v0 : Nat) (v1 : Int32) (v2 : Int32) : Option (q_H × Int32) :=
  Option.bind (q_p 9 0 h v0 (.int (0))) (fun h29 => Option.bind (f_X10_areTwo h29 v1 v2) (fun q30 => if q30.2 = 0 then some (q30.1, (-1)) else Option.bind (f_X10_third q30.1 v1 v2) (fun q31 => l_X10_nearest_35 q_FU q31.1 v0 v1 v2 q31.2 (7) (1000000) (0) (0))))
def f_X10_nearest (h : q_H) (a0 : Nat) (a1 : Int32) (a2 : Int32) : Option (q_H × Int32) := q_chk 9 h a0 (b_X10_nearest_0 h a0 a1 a2)
set_option maxRecDepth 20000 in
set_option maxHeartbeats 1000000 in
theorem jb_X10_nearest_344 {G : q_G} {l : Launch} {k0 z0 : Nat} (k163 : q_H → Nat → Int32 → Int32 → Int32 → Int32 → Int32 → Int32 → Int32 → Option (q_H × Int32)) (hk163 : ∀ (h : q_H) (v0 : Nat) (v1 : Int32) (v2 : Int32) (v3 : Int32) (v4 : Int32) (v5 : Int32) (v6 : Int32) (v7 : Int32), q_J G l (RX10, cX10_nearest, 13, 5, 123, (some .int), "nearest", []) k0 z0 (q_Z G k0 z0 q_i) 163 [(0, .ref v0), (1, .int v1), (2, .int v2), (3, .int v3), (4, .int v4), (5, .int v5), (6, .int v6), (7, .int v7)] [] h (k163 h v0 v1 v2 v3 v4 v5 v6 v7)) (h : q_H) (v0 : Nat) (v1 : Int32) (v2 : Int32) (v3 : Int32) (v4 : Int32) (v5 : Int32) (v6 : Int32) (v7 : Int32) : q_J G l (RX10, cX10_nearest, 13, 5, 123, (some .int), "nearest", []) k0 z0 (q_Z G k0 z0 q_i) 344 [(0, .ref v0), (1, .int v1), (2, .int v2), (3, .int v3), (4, .int v4), (5, .int v5), (6, .int v6), (7, .int v7)] [] h (b_X10_nearest_344 k163 h v0 v1 v2 v3 v4 v5 v6 v7) := by
  unfold b_X10_nearest_344
  refine j_inc (pc := 344) (p := 7) (lv' := [(7, .int (v7 + 1)), (0, .ref v0), (1, .int v1), (2, .int v2), (3, .int v3), (4, .int v4), (5, .int v5), (6, .int v6)]) rfl ki_1 (by decide) rfl dX10_nearest_344 ?_
  refine j_goto (pc := 347) (tgt := 163) dX10_nearest_347 (by decide) ?_
  refine j_sub [1, 2, 3, 4, 5, 6, 7, 0] (lv' := [(0, .ref v0), (1, .int v1), (2, .int v2), (3, .int v3), (4, .int v4), (5, .int v5), (6, .int v6), (7, .int (v7 + 1))]) rfl ?_
  exact hk163 _ _ _ _ _ _ _ _ _
set_option maxRecDepth 20000 in
set_option maxHeartbeats 1000000 in
theorem jb_X10_nearest_271 {G : q_G} {l : Launch} {k0 z0 : Nat} (k163 : q_H → Nat → Int32 → Int32 → Int32 → Int32 → Int32 → Int32 → Int32 → Option (q_H × Int32)) (hk163 : ∀ (h : q_H) (v0 : Nat) (v1 : Int32) (v2 : Int32) (v3 : Int32) (v4 : Int32) (v5 : Int32) (v6 : Int32) (v7 : Int32), q_J G l (RX10, cX10_nearest, 13, 5, 123, (some .int), "nearest", []) k0 z0 (q_Z G k0 z0 q_i) 163 [(0, .ref v0), (1, .int v1), (2, .int v2), (3, .int v3), (4, .int v4), (5, .int v5), (6, .int v6), (7, .int v7)] [] h (k163 h v0 v1 v2 v3 v4 v5 v6 v7)) (h : q_H) (v0 : Nat) (v1 : Int32) (v2 : Int32) (v3 : Int32) (v4 : Int32) (v5 : Int32) (v6 : Int32) (v7 : Int32) (v8 : Int32) (v9 : Int32) (v10 : Int32) (v11 : Int32) (s0 : Int32) : q_J G l (RX10, cX10_nearest, 13, 5, 123, (some .int), "nearest", []) k0 z0 (q_Z G k0 z0 q_i) 271 [(0, .ref v0), (1, .int v1), (2, .int v2), (3, .int v3), (4, .int v4), (5, .int v5), (6, .int v6), (7, .int v7), (8, .int v8), (9, .int v9), (10, .int v10), (11, .int v11)] [.int s0] h (b_X10_nearest_271 k163 h v0 v1 v2 v3 v4 v5 v6 v7 v8 v9 v10 v11 s0) := by
  unfold b_X10_nearest_271
  refine j_istore (pc := 271) (lv' := [(12, .int s0), (0, .ref v0), (1, .int v1), (2, .int v2), (3, .int v3), (4, .int v4), (5, .int v5), (6, .int v6), (7, .int v7), (8, .int v8), (9, .int v9), (10, .int v10), (11, .int v11)]) (by decide) rfl dX10_nearest_271 ?_
  refine j_iload (pc := 273) (p := 0) rfl dX10_nearest_273 ?_
  refine j_if_eq (pc := 275) (tgt := 344) dX10_nearest_275 (by decide) (fun _ => ?_) (fun _ => ?_)
  · refine j_sub [1, 2, 3, 4, 5, 6, 7, 8] (lv' := [(0, .ref v0), (1, .int v1), (2, .int v2), (3, .int v3), (4, .int v4), (5, .int v5), (6, .int v6), (7, .int v7)]) rfl ?_
    exact jb_X10_nearest_344 k163 hk163 _ _ _ _ _ _ _ _ _
  refine j_iload (pc := 278) (p := 9) rfl dX10_nearest_278 ?_
  refine j_iload (pc := 280) (p := 10) rfl dX10_nearest_280 ?_
  refine j_iadd (pc := 282) dX10_nearest_282 ?_
  refine j_iload (pc := 283) (p := 11) rfl dX10_nearest_283 ?_
  refine j_iadd (pc := 285) dX10_nearest_285 ?_
  refine j_iload (pc := 286) (p := 12) rfl dX10_nearest_286 ?_
  refine j_iadd (pc := 288) dX10_nearest_288 ?_
  refine j_iload (pc := 289) (p := 6) rfl dX10_nearest_289 ?_
  refine j_ic_ge (pc := 291) (tgt := 344) dX10_nearest_291 (by decide) (fun _ => ?_) (fun _ => ?_)
  · refine j_sub [1, 2, 3, 4, 5, 6, 7, 8] (lv' := [(0, .ref v0), (1, .int v1), (2, .int v2), (3, .int v3), (4, .int v4), (5, .int v5), (6, .int v6), (7, .int v7)]) rfl ?_
    exact jb_X10_nearest_344 k163 hk163 _ _ _ _ _ _ _ _ _
  refine j_aload_n (pc := 294) (p := 1) rfl rfl dX10_nearest_294 ?_
  refine j_iconst (pc := 295) ki_2 dX10_nearest_295 ?_
  refine j_iload (pc := 296) (p := 5) rfl dX10_nearest_296 ?_
  refine j_iload (pc := 298) (p := 10) rfl dX10_nearest_298 ?_
  refine j_imul (pc := 300) dX10_nearest_300 ?_
  refine j_iadd (pc := 301) dX10_nearest_301 ?_
  refine j_iload (pc := 302) (p := 11) rfl dX10_nearest_302 ?_
  refine j_iadd (pc := 304) dX10_nearest_304 ?_
  refine j_iconst (pc := 305) ki_2 dX10_nearest_305 ?_
  refine j_iload (pc := 306) (p := 5) rfl dX10_nearest_306 ?_
  refine j_iload (pc := 308) (p := 5) rfl dX10_nearest_308 ?_
  refine j_imul (pc := 310) dX10_nearest_310 ?_
  refine j_iadd (pc := 311) dX10_nearest_311 ?_
  refine j_iload (pc := 312) (p := 5) rfl dX10_nearest_312 ?_
  refine j_iload (pc := 314) (p := 9) rfl dX10_nearest_314 ?_
  refine j_imul (pc := 316) dX10_nearest_316 ?_
  refine j_iadd (pc := 317) dX10_nearest_317 ?_
  refine j_iload (pc := 318) (p := 12) rfl dX10_nearest_318 ?_
  refine j_iadd (pc := 320) dX10_nearest_320 ?_
  refine j_cVi (pc := 321) Y_X10_other (ci := 9) (b := v0) rfl rfl ml_X10_330 im_X10_other se_X10_other ⟨Nat.le_of_ble_eq_true rfl, Nat.le_of_ble_eq_true rfl⟩ dX10_nearest_321 (As := [.int (((2) + (v4 * v9)) + v10), .int ((((2) + (v4 * v4)) + (v4 * v8)) + v11)]) (rest := []) rfl rfl (Nat.le_of_ble_eq_true rfl) (fun x hq9 => c_X10_other _ _ _ _ _ hq9) (fun q1 _ => ?_)
  refine j_if_ne (pc := 324) (tgt := 344) dX10_nearest_324 (by decide) (fun _ => ?_) (fun _ => ?_)
  · refine j_iload (pc := 327) (p := 9) rfl dX10_nearest_327 ?_
    refine j_iload (pc := 329) (p := 10) rfl dX10_nearest_329 ?_
    refine j_iadd (pc := 331) dX10_nearest_331 ?_
    refine j_iload (pc := 332) (p := 11) rfl dX10_nearest_332 ?_
    refine j_iadd (pc := 334) dX10_nearest_334 ?_
    refine j_iload (pc := 335) (p := 12) rfl dX10_nearest_335 ?_
    refine j_iadd (pc := 337) dX10_nearest_337 ?_
    refine j_istore (pc := 338) (lv' := [(5, .int (((v8 + v9) + v10) + v11)), (12, .int s0), (0, .ref v0), (1, .int v1), (2, .int v2), (3, .int v3), (4, .int v4), (6, .int v6), (7, .int v7), (8, .int v8), (9, .int v9), (10, .int v10), (11, .int v11)]) (by decide) rfl dX10_nearest_338 ?_
    refine j_iload (pc := 340) (p := 8) rfl dX10_nearest_340 ?_
    refine j_istore (pc := 342) (lv' := [(6, .int v7), (5, .int (((v8 + v9) + v10) + v11)), (12, .int s0), (0, .ref v0), (1, .int v1), (2, .int v2), (3, .int v3), (4, .int v4), (7, .int v7), (8, .int v8), (9, .int v9), (10, .int v10), (11, .int v11)]) (by decide) rfl dX10_nearest_342 ?_
    refine j_sub [3, 4, 5, 6, 7, 1, 0, 8] (lv' := [(0, .ref v0), (1, .int v1), (2, .int v2), (3, .int v3), (4, .int v4), (5, .int (((v8 + v9) + v10) + v11)), (6, .int v7), (7, .int v7)]) rfl ?_
    exact jb_X10_nearest_344 k163 hk163 _ _ _ _ _ _ _ _ _
  refine j_sub [1, 2, 3, 4, 5, 6, 7, 8] (lv' := [(0, .ref v0), (1, .int v1), (2, .int v2), (3, .int v3), (4, .int v4), (5, .int v5), (6, .int v6), (7, .int v7)]) rfl ?_
  exact jb_X10_nearest_344 k163 hk163 _ _ _ _ _ _ _ _ _
set_option maxRecDepth 20000 in
set_option maxHeartbeats 1000000 in
theorem jb_X10_nearest_270 {G : q_G} {l : Launch} {k0 z0 : Nat} (k163 : q_H → Nat → Int32 → Int32 → Int32 → Int32 → Int32 → Int32 → Int32 → Option (q_H × Int32)) (hk163 : ∀ (h : q_H) (v0 : Nat) (v1 : Int32) (v2 : Int32) (v3 : Int32) (v4 : Int32) (v5 : Int32) (v6 : Int32) (v7 : Int32), q_J G l (RX10, cX10_nearest, 13, 5, 123, (some .int), "nearest", []) k0 z0 (q_Z G k0 z0 q_i) 163 [(0, .ref v0), (1, .int v1), (2, .int v2), (3, .int v3), (4, .int v4), (5, .int v5), (6, .int v6), (7, .int v7)] [] h (k163 h v0 v1 v2 v3 v4 v5 v6 v7)) (h : q_H) (v0 : Nat) (v1 : Int32) (v2 : Int32) (v3 : Int32) (v4 : Int32) (v5 : Int32) (v6 : Int32) (v7 : Int32) (v8 : Int32) (v9 : Int32) (v10 : Int32) (v11 : Int32) : q_J G l (RX10, cX10_nearest, 13, 5, 123, (some .int), "nearest", []) k0 z0 (q_Z G k0 z0 q_i) 270 [(0, .ref v0), (1, .int v1), (2, .int v2), (3, .int v3), (4, .int v4), (5, .int v5), (6, .int v6), (7, .int v7), (8, .int v8), (9, .int v9), (10, .int v10), (11, .int v11)] [] h (b_X10_nearest_270 k163 h v0 v1 v2 v3 v4 v5 v6 v7 v8 v9 v10 v11) := by
  unfold b_X10_nearest_270
  refine j_iconst (pc := 270) ki_0 dX10_nearest_270 ?_
  exact jb_X10_nearest_271 k163 hk163 _ _ _ _ _ _ _ _ _ _ _ _ _ _
set_option maxRecDepth 20000 in
set_option maxHeartbeats 1000000 in
theorem jb_X10_nearest_163 {G : q_G} {l : Launch} {k0 z0 : Nat} (k163 : q_H → Nat → Int32 → Int32 → Int32 → Int32 → Int32 → Int32 → Int32 → Option (q_H × Int32)) (hk163 : ∀ (h : q_H) (v0 : Nat) (v1 : Int32) (v2 : Int32) (v3 : Int32) (v4 : Int32) (v5 : Int32) (v6 : Int32) (v7 : Int32), q_J G l (RX10, cX10_nearest, 13, 5, 123, (some .int), "nearest", []) k0 z0 (q_Z G k0 z0 q_i) 163 [(0, .ref v0), (1, .int v1), (2, .int v2), (3, .int v3), (4, .int v4), (5, .int v5), (6, .int v6), (7, .int v7)] [] h (k163 h v0 v1 v2 v3 v4 v5 v6 v7)) (h : q_H) (v0 : Nat) (v1 : Int32) (v2 : Int32) (v3 : Int32) (v4 : Int32) (v5 : Int32) (v6 : Int32) (v7 : Int32) : q_J G l (RX10, cX10_nearest, 13, 5, 123, (some .int), "nearest", []) k0 z0 (q_Z G k0 z0 q_i) 163 [(0, .ref v0), (1, .int v1), (2, .int v2), (3, .int v3), (4, .int v4), (5, .int v5), (6, .int v6), (7, .int v7)] [] h (b_X10_nearest_163 k163 h v0 v1 v2 v3 v4 v5 v6 v7) := by
  unfold b_X10_nearest_163
  refine j_iload (pc := 163) (p := 7) rfl dX10_nearest_163 ?_
  refine j_iload (pc := 165) (p := 4) rfl dX10_nearest_165 ?_
  refine j_iload (pc := 167) (p := 4) rfl dX10_nearest_167 ?_
  refine j_imul (pc := 169) dX10_nearest_169 ?_
  refine j_iload (pc := 170) (p := 4) rfl dX10_nearest_170 ?_
  refine j_imul (pc := 172) dX10_nearest_172 ?_
  refine j_iload (pc := 173) (p := 4) rfl dX10_nearest_173 ?_
  refine j_imul (pc := 175) dX10_nearest_175 ?_
  refine j_ic_ge (pc := 176) (tgt := 350) dX10_nearest_176 (by decide) (fun _ => ?_) (fun _ => ?_)
  · refine j_iload (pc := 350) (p := 5) rfl dX10_nearest_350 ?_
    refine j_ldc (pc := 352) ct_X10_250 dX10_nearest_352 ?_
    refine j_ic_ne (pc := 354) (tgt := 360) dX10_nearest_354 (by decide) (fun _ => ?_) (fun _ => ?_)
    · refine j_bipush (pc := 357) kb_m2 dX10_nearest_357 ?_
      exact j_iret (pc := 359) rfl dX10_nearest_359
    refine j_aload_n (pc := 360) (p := 0) rfl rfl dX10_nearest_360 ?_
    refine j_iconst (pc := 361) ki_0 dX10_nearest_361 ?_
    refine j_put (pc := 362) FI_X10 (k := 1) (by decide) fl_X10_11 rfl rfl rfl dX10_nearest_362 (fun h2 _ => ?_)
    refine j_aload_n (pc := 365) (p := 0) rfl rfl dX10_nearest_365 ?_
    refine j_iload (pc := 366) (p := 6) rfl dX10_nearest_366 ?_
    refine j_iload (pc := 368) (p := 4) rfl dX10_nearest_368 ?_
    refine j_iload (pc := 370) (p := 4) rfl dX10_nearest_370 ?_
    refine j_imul (pc := 372) dX10_nearest_372 ?_
    refine j_iload (pc := 373) (p := 4) rfl dX10_nearest_373 ?_
    refine j_imul (pc := 375) dX10_nearest_375 ?_
    refine j_idiv (pc := 376) dX10_nearest_376 (fun x3 _ => ?_)
    refine j_i2l (pc := 377) dX10_nearest_377 ?_
    refine j_cVu (pc := 378) Y_X10_enters (ci := 9) (b := v0) rfl rfl ml_X10_202 im_X10_enters se_X10_enters ⟨Nat.le_of_ble_eq_true rfl, Nat.le_of_ble_eq_true rfl⟩ dX10_nearest_378 (As := [.long (Int32.toInt64 x3)]) (rest := []) rfl rfl (Nat.le_of_ble_eq_true rfl) (fun x hq9 => c_X10_enters _ _ _ _ hq9) (fun q4 _ => ?_)
    refine j_aload_n (pc := 381) (p := 0) rfl rfl dX10_nearest_381 ?_
    refine j_iload (pc := 382) (p := 6) rfl dX10_nearest_382 ?_
    refine j_iload (pc := 384) (p := 4) rfl dX10_nearest_384 ?_
    refine j_iload (pc := 386) (p := 4) rfl dX10_nearest_386 ?_
    refine j_imul (pc := 388) dX10_nearest_388 ?_
    refine j_idiv (pc := 389) dX10_nearest_389 (fun x5 _ => ?_)
    refine j_iload (pc := 390) (p := 4) rfl dX10_nearest_390 ?_
    refine j_irem (pc := 392) dX10_nearest_392 (fun x6 _ => ?_)
    refine j_i2l (pc := 393) dX10_nearest_393 ?_
    refine j_cVu (pc := 394) Y_X10_enters (ci := 9) (b := v0) rfl rfl ml_X10_202 im_X10_enters se_X10_enters ⟨Nat.le_of_ble_eq_true rfl, Nat.le_of_ble_eq_true rfl⟩ dX10_nearest_394 (As := [.long (Int32.toInt64 x6)]) (rest := []) rfl rfl (Nat.le_of_ble_eq_true rfl) (fun x hq9 => c_X10_enters _ _ _ _ hq9) (fun q7 _ => ?_)
    refine j_aload_n (pc := 397) (p := 0) rfl rfl dX10_nearest_397 ?_
    refine j_iload (pc := 398) (p := 6) rfl dX10_nearest_398 ?_
    refine j_iload (pc := 400) (p := 4) rfl dX10_nearest_400 ?_
    refine j_idiv (pc := 402) dX10_nearest_402 (fun x8 _ => ?_)
    refine j_iload (pc := 403) (p := 4) rfl dX10_nearest_403 ?_
    refine j_irem (pc := 405) dX10_nearest_405 (fun x9 _ => ?_)
    refine j_i2l (pc := 406) dX10_nearest_406 ?_
    refine j_cVu (pc := 407) Y_X10_enters (ci := 9) (b := v0) rfl rfl ml_X10_202 im_X10_enters se_X10_enters ⟨Nat.le_of_ble_eq_true rfl, Nat.le_of_ble_eq_true rfl⟩ dX10_nearest_407 (As := [.long (Int32.toInt64 x9)]) (rest := []) rfl rfl (Nat.le_of_ble_eq_true rfl) (fun x hq9 => c_X10_enters _ _ _ _ hq9) (fun q10 _ => ?_)
    refine j_aload_n (pc := 410) (p := 0) rfl rfl dX10_nearest_410 ?_
    refine j_iload (pc := 411) (p := 6) rfl dX10_nearest_411 ?_
    refine j_iload (pc := 413) (p := 4) rfl dX10_nearest_413 ?_
    refine j_irem (pc := 415) dX10_nearest_415 (fun x11 _ => ?_)
    refine j_i2l (pc := 416) dX10_nearest_416 ?_
    refine j_cVu (pc := 417) Y_X10_enters (ci := 9) (b := v0) rfl rfl ml_X10_202 im_X10_enters se_X10_enters ⟨Nat.le_of_ble_eq_true rfl, Nat.le_of_ble_eq_true rfl⟩ dX10_nearest_417 (As := [.long (Int32.toInt64 x11)]) (rest := []) rfl rfl (Nat.le_of_ble_eq_true rfl) (fun x hq9 => c_X10_enters _ _ _ _ hq9) (fun q12 _ => ?_)
    refine j_iload (pc := 420) (p := 5) rfl dX10_nearest_420 ?_
    exact j_iret (pc := 422) rfl dX10_nearest_422
  refine j_iload (pc := 179) (p := 7) rfl dX10_nearest_179 ?_
  refine j_iload (pc := 181) (p := 4) rfl dX10_nearest_181 ?_
  refine j_iload (pc := 183) (p := 4) rfl dX10_nearest_183 ?_
  refine j_imul (pc := 185) dX10_nearest_185 ?_
  refine j_iload (pc := 186) (p := 4) rfl dX10_nearest_186 ?_
  refine j_imul (pc := 188) dX10_nearest_188 ?_
  refine j_idiv (pc := 189) dX10_nearest_189 (fun x13 _ => ?_)
  refine j_istore (pc := 190) (lv' := [(8, .int x13), (0, .ref v0), (1, .int v1), (2, .int v2), (3, .int v3), (4, .int v4), (5, .int v5), (6, .int v6), (7, .int v7)]) (by decide) rfl dX10_nearest_190 ?_
  refine j_iload (pc := 192) (p := 8) rfl dX10_nearest_192 ?_
  refine j_iload (pc := 194) (p := 5) rfl dX10_nearest_194 ?_
  refine j_iload (pc := 196) (p := 5) rfl dX10_nearest_196 ?_
  refine j_imul (pc := 198) dX10_nearest_198 ?_
  refine j_idiv (pc := 199) dX10_nearest_199 (fun x14 _ => ?_)
  refine j_iload (pc := 200) (p := 5) rfl dX10_nearest_200 ?_
  refine j_irem (pc := 202) dX10_nearest_202 (fun x15 _ => ?_)
  refine j_istore (pc := 203) (lv' := [(9, .int x15), (8, .int x13), (0, .ref v0), (1, .int v1), (2, .int v2), (3, .int v3), (4, .int v4), (5, .int v5), (6, .int v6), (7, .int v7)]) (by decide) rfl dX10_nearest_203 ?_
  refine j_iload (pc := 205) (p := 9) rfl dX10_nearest_205 ?_
  refine j_iload (pc := 207) (p := 6) rfl dX10_nearest_207 ?_
  refine j_idiv (pc := 209) dX10_nearest_209 (fun x16 _ => ?_)
  refine j_iload (pc := 210) (p := 6) rfl dX10_nearest_210 ?_
  refine j_irem (pc := 212) dX10_nearest_212 (fun x17 _ => ?_)
  refine j_istore (pc := 213) (lv' := [(10, .int x17), (9, .int x15), (8, .int x13), (0, .ref v0), (1, .int v1), (2, .int v2), (3, .int v3), (4, .int v4), (5, .int v5), (6, .int v6), (7, .int v7)]) (by decide) rfl dX10_nearest_213 ?_
  refine j_iload (pc := 215) (p := 10) rfl dX10_nearest_215 ?_
  refine j_iload (pc := 217) (p := 7) rfl dX10_nearest_217 ?_
  refine j_irem (pc := 219) dX10_nearest_219 (fun x18 _ => ?_)
  refine j_istore (pc := 220) (lv' := [(11, .int x18), (10, .int x17), (9, .int x15), (8, .int x13), (0, .ref v0), (1, .int v1), (2, .int v2), (3, .int v3), (4, .int v4), (5, .int v5), (6, .int v6), (7, .int v7)]) (by decide) rfl dX10_nearest_220 ?_
  refine j_iload (pc := 222) (p := 3) rfl dX10_nearest_222 ?_
  refine j_aload_n (pc := 224) (p := 4) rfl rfl dX10_nearest_224 ?_
  refine j_iload_n (pc := 225) (p := 5) rfl rfl dX10_nearest_225 ?_
  refine j_iload_n (pc := 226) (p := 6) rfl rfl dX10_nearest_226 ?_
  refine j_cVi (pc := 227) Y_X10_waiting (ci := 9) (b := v0) rfl rfl ml_X10_173 im_X10_waiting se_X10_waiting ⟨Nat.le_of_ble_eq_true rfl, Nat.le_of_ble_eq_true rfl⟩ dX10_nearest_227 (As := [.int v1, .int v2]) (rest := [.int x13]) rfl rfl (Nat.le_of_ble_eq_true rfl) (fun x hq9 => c_X10_waiting _ _ _ _ _ hq9) (fun q19 _ => ?_)
  refine j_ic_gt (pc := 230) (tgt := 270) dX10_nearest_230 (by decide) (fun _ => ?_) (fun _ => ?_)
  · refine j_sub [4, 5, 6, 7, 8, 9, 10, 11, 3, 2, 1, 0] (lv' := [(0, .ref v0), (1, .int v1), (2, .int v2), (3, .int v3), (4, .int v4), (5, .int v5), (6, .int v6), (7, .int v7), (8, .int x13), (9, .int x15), (10, .int x17), (11, .int x18)]) rfl ?_
    exact jb_X10_nearest_270 k163 hk163 _ _ _ _ _ _ _ _ _ _ _ _ _
  refine j_iload (pc := 233) (p := 2) rfl dX10_nearest_233 ?_
  refine j_aload_n (pc := 235) (p := 4) rfl rfl dX10_nearest_235 ?_
  refine j_iload_n (pc := 236) (p := 6) rfl rfl dX10_nearest_236 ?_
  refine j_iload_n (pc := 237) (p := 5) rfl rfl dX10_nearest_237 ?_
  refine j_cVi (pc := 238) Y_X10_waiting (ci := 9) (b := v0) rfl rfl ml_X10_173 im_X10_waiting se_X10_waiting ⟨Nat.le_of_ble_eq_true rfl, Nat.le_of_ble_eq_true rfl⟩ dX10_nearest_238 (As := [.int v2, .int v1]) (rest := [.int x15]) rfl rfl (Nat.le_of_ble_eq_true rfl) (fun x hq9 => c_X10_waiting _ _ _ _ _ hq9) (fun q20 _ => ?_)
  refine j_ic_gt (pc := 241) (tgt := 270) dX10_nearest_241 (by decide) (fun _ => ?_) (fun _ => ?_)
  · refine j_sub [4, 5, 6, 7, 8, 9, 10, 11, 3, 2, 1, 0] (lv' := [(0, .ref v0), (1, .int v1), (2, .int v2), (3, .int v3), (4, .int v4), (5, .int v5), (6, .int v6), (7, .int v7), (8, .int x13), (9, .int x15), (10, .int x17), (11, .int x18)]) rfl ?_
    exact jb_X10_nearest_270 k163 hk163 _ _ _ _ _ _ _ _ _ _ _ _ _
  refine j_iload (pc := 244) (p := 1) rfl dX10_nearest_244 ?_
  refine j_aload_n (pc := 246) (p := 4) rfl rfl dX10_nearest_246 ?_
  refine j_iload_n (pc := 247) (p := 7) rfl rfl dX10_nearest_247 ?_
  refine j_iload_n (pc := 248) (p := 5) rfl rfl dX10_nearest_248 ?_
  refine j_cVi (pc := 249) Y_X10_waiting (ci := 9) (b := v0) rfl rfl ml_X10_173 im_X10_waiting se_X10_waiting ⟨Nat.le_of_ble_eq_true rfl, Nat.le_of_ble_eq_true rfl⟩ dX10_nearest_249 (As := [.int v3, .int v1]) (rest := [.int x17]) rfl rfl (Nat.le_of_ble_eq_true rfl) (fun x hq9 => c_X10_waiting _ _ _ _ _ hq9) (fun q21 _ => ?_)
  refine j_ic_gt (pc := 252) (tgt := 270) dX10_nearest_252 (by decide) (fun _ => ?_) (fun _ => ?_)
  · refine j_sub [4, 5, 6, 7, 8, 9, 10, 11, 3, 2, 1, 0] (lv' := [(0, .ref v0), (1, .int v1), (2, .int v2), (3, .int v3), (4, .int v4), (5, .int v5), (6, .int v6), (7, .int v7), (8, .int x13), (9, .int x15), (10, .int x17), (11, .int x18)]) rfl ?_
    exact jb_X10_nearest_270 k163 hk163 _ _ _ _ _ _ _ _ _ _ _ _ _
  refine j_iload (pc := 255) (p := 0) rfl dX10_nearest_255 ?_
  refine j_aload_n (pc := 257) (p := 4) rfl rfl dX10_nearest_257 ?_
  refine j_iload_n (pc := 258) (p := 7) rfl rfl dX10_nearest_258 ?_
  refine j_iload_n (pc := 259) (p := 6) rfl rfl dX10_nearest_259 ?_
  refine j_cVi (pc := 260) Y_X10_waiting (ci := 9) (b := v0) rfl rfl ml_X10_173 im_X10_waiting se_X10_waiting ⟨Nat.le_of_ble_eq_true rfl, Nat.le_of_ble_eq_true rfl⟩ dX10_nearest_260 (As := [.int v3, .int v2]) (rest := [.int x18]) rfl rfl (Nat.le_of_ble_eq_true rfl) (fun x hq9 => c_X10_waiting _ _ _ _ _ hq9) (fun q22 _ => ?_)
  refine j_ic_gt (pc := 263) (tgt := 270) dX10_nearest_263 (by decide) (fun _ => ?_) (fun _ => ?_)
  · refine j_sub [4, 5, 6, 7, 8, 9, 10, 11, 3, 2, 1, 0] (lv' := [(0, .ref v0), (1, .int v1), (2, .int v2), (3, .int v3), (4, .int v4), (5, .int v5), (6, .int v6), (7, .int v7), (8, .int x13), (9, .int x15), (10, .int x17), (11, .int x18)]) rfl ?_
    exact jb_X10_nearest_270 k163 hk163 _ _ _ _ _ _ _ _ _ _ _ _ _
  refine j_iconst (pc := 266) ki_1 dX10_nearest_266 ?_
  refine j_goto (pc := 267) (tgt := 271) dX10_nearest_267 (by decide) ?_
  refine j_sub [4, 5, 6, 7, 8, 9, 10, 11, 3, 2, 1, 0] (lv' := [(0, .ref v0), (1, .int v1), (2, .int v2), (3, .int v3), (4, .int v4), (5, .int v5), (6, .int v6), (7, .int v7), (8, .int x13), (9, .int x15), (10, .int x17), (11, .int x18)]) rfl ?_
  exact jb_X10_nearest_271 k163 hk163 _ _ _ _ _ _ _ _ _ _ _ _ _ _
set_option maxRecDepth 20000 in
set_option maxHeartbeats 1000000 in
theorem jl_X10_nearest_163 {G : q_G} {l : Launch} {k0 z0 : Nat} (n : Nat) : ∀ (h : q_H) (v0 : Nat) (v1 : Int32) (v2 : Int32) (v3 : Int32) (v4 : Int32) (v5 : Int32) (v6 : Int32) (v7 : Int32), q_J G l (RX10, cX10_nearest, 13, 5, 123, (some .int), "nearest", []) k0 z0 (q_Z G k0 z0 q_i) 163 [(0, .ref v0), (1, .int v1), (2, .int v2), (3, .int v3), (4, .int v4), (5, .int v5), (6, .int v6), (7, .int v7)] [] h (l_X10_nearest_163 n h v0 v1 v2 v3 v4 v5 v6 v7) := by
  induction n with
  | zero => intro h v0 v1 v2 v3 v4 v5 v6 v7; exact j_none
  | succ n ih => intro h v0 v1 v2 v3 v4 v5 v6 v7; exact jb_X10_nearest_163 (l_X10_nearest_163 n) ih h v0 v1 v2 v3 v4 v5 v6 v7
set_option maxRecDepth 20000 in
set_option maxHeartbeats 1000000 in
theorem jb_X10_nearest_110 {G : q_G} {l : Launch} {k0 z0 : Nat} (k96 : q_H → Nat → Int32 → Int32 → Int32 → Int32 → Int32 → Int32 → Int32 → Option (q_H × Int32)) (k110 : q_H → Nat → Int32 → Int32 → Int32 → Int32 → Int32 → Int32 → Int32 → Int32 → Option (q_H × Int32)) (hk96 : ∀ (h : q_H) (v0 : Nat) (v1 : Int32) (v2 : Int32) (v3 : Int32) (v4 : Int32) (v5 : Int32) (v6 : Int32) (v7 : Int32), q_J G l (RX10, cX10_nearest, 13, 5, 123, (some .int), "nearest", []) k0 z0 (q_Z G k0 z0 q_i) 96 [(0, .ref v0), (1, .int v1), (2, .int v2), (3, .int v3), (4, .int v4), (5, .int v5), (6, .int v6), (7, .int v7)] [] h (k96 h v0 v1 v2 v3 v4 v5 v6 v7)) (hk110 : ∀ (h : q_H) (v0 : Nat) (v1 : Int32) (v2 : Int32) (v3 : Int32) (v4 : Int32) (v5 : Int32) (v6 : Int32) (v7 : Int32) (v8 : Int32), q_J G l (RX10, cX10_nearest, 13, 5, 123, (some .int), "nearest", []) k0 z0 (q_Z G k0 z0 q_i) 110 [(0, .ref v0), (1, .int v1), (2, .int v2), (3, .int v3), (4, .int v4), (5, .int v5), (6, .int v6), (7, .int v7), (8, .int v8)] [] h (k110 h v0 v1 v2 v3 v4 v5 v6 v7 v8)) (h : q_H) (v0 : Nat) (v1 : Int32) (v2 : Int32) (v3 : Int32) (v4 : Int32) (v5 : Int32) (v6 : Int32) (v7 : Int32) (v8 : Int32) : q_J G l (RX10, cX10_nearest, 13, 5, 123, (some .int), "nearest", []) k0 z0 (q_Z G k0 z0 q_i) 110 [(0, .ref v0), (1, .int v1), (2, .int v2), (3, .int v3), (4, .int v4), (5, .int v5), (6, .int v6), (7, .int v7), (8, .int v8)] [] h (b_X10_nearest_110 k96 k110 h v0 v1 v2 v3 v4 v5 v6 v7 v8) := by
  unfold b_X10_nearest_110
  refine j_iload (pc := 110) (p := 8) rfl dX10_nearest_110 ?_
  refine j_aload_n (pc := 112) (p := 0) rfl rfl dX10_nearest_112 ?_
  refine j_iload_n (pc := 113) (p := 3) rfl rfl dX10_nearest_113 ?_
  refine j_iload_n (pc := 114) (p := 2) rfl rfl dX10_nearest_114 ?_
  refine j_cVi (pc := 115) Y_X10_waiting (ci := 9) (b := v0) rfl rfl ml_X10_173 im_X10_waiting se_X10_waiting ⟨Nat.le_of_ble_eq_true rfl, Nat.le_of_ble_eq_true rfl⟩ dX10_nearest_115 (As := [.int v3, .int v2]) (rest := [.int v8]) rfl rfl (Nat.le_of_ble_eq_true rfl) (fun x hq9 => c_X10_waiting _ _ _ _ _ hq9) (fun q23 _ => ?_)
  refine j_ic_gt (pc := 118) (tgt := 154) dX10_nearest_118 (by decide) (fun _ => ?_) (fun _ => ?_)
  · refine j_inc (pc := 154) (p := 7) (lv' := [(7, .int (v7 + 1)), (0, .ref v0), (1, .int v1), (2, .int v2), (3, .int v3), (4, .int v4), (5, .int v5), (6, .int v6), (8, .int v8)]) rfl ki_1 (by decide) rfl dX10_nearest_154 ?_
    refine j_goto (pc := 157) (tgt := 96) dX10_nearest_157 (by decide) ?_
    refine j_sub [1, 2, 3, 4, 5, 6, 7, 0] (lv' := [(0, .ref v0), (1, .int v1), (2, .int v2), (3, .int v3), (4, .int v4), (5, .int v5), (6, .int v6), (7, .int (v7 + 1))]) rfl ?_
    exact hk96 _ _ _ _ _ _ _ _ _
  refine j_aload_n (pc := 121) (p := 0) rfl rfl dX10_nearest_121 ?_
  refine j_iconst (pc := 122) ki_2 dX10_nearest_122 ?_
  refine j_iload (pc := 123) (p := 4) rfl dX10_nearest_123 ?_
  refine j_iload (pc := 125) (p := 4) rfl dX10_nearest_125 ?_
  refine j_imul (pc := 127) dX10_nearest_127 ?_
  refine j_iadd (pc := 128) dX10_nearest_128 ?_
  refine j_iload (pc := 129) (p := 4) rfl dX10_nearest_129 ?_
  refine j_iload (pc := 131) (p := 7) rfl dX10_nearest_131 ?_
  refine j_imul (pc := 133) dX10_nearest_133 ?_
  refine j_iadd (pc := 134) dX10_nearest_134 ?_
  refine j_iload (pc := 135) (p := 8) rfl dX10_nearest_135 ?_
  refine j_iadd (pc := 137) dX10_nearest_137 ?_
  refine j_iload_n (pc := 138) (p := 2) rfl rfl dX10_nearest_138 ?_
  refine j_iload_n (pc := 139) (p := 1) rfl rfl dX10_nearest_139 ?_
  refine j_iload (pc := 140) (p := 7) rfl dX10_nearest_140 ?_
  refine j_iload_n (pc := 142) (p := 3) rfl rfl dX10_nearest_142 ?_
  refine j_iload (pc := 143) (p := 8) rfl dX10_nearest_143 ?_
  refine j_cVu (pc := 145) Y_X10_laysBehind (ci := 9) (b := v0) rfl rfl ml_X10_346 im_X10_laysBehind se_X10_laysBehind ⟨Nat.le_of_ble_eq_true rfl, Nat.le_of_ble_eq_true rfl⟩ dX10_nearest_145 (As := [.int ((((2) + (v4 * v4)) + (v4 * v7)) + v8), .int v2, .int v1, .int v7, .int v3, .int v8]) (rest := []) rfl rfl (Nat.le_of_ble_eq_true rfl) (fun x hq9 => c_X10_laysBehind _ _ _ _ _ _ _ _ _ hq9) (fun q24 _ => ?_)
  refine j_inc (pc := 148) (p := 8) (lv' := [(8, .int (v8 + 1)), (0, .ref v0), (1, .int v1), (2, .int v2), (3, .int v3), (4, .int v4), (5, .int v5), (6, .int v6), (7, .int v7)]) rfl ki_1 (by decide) rfl dX10_nearest_148 ?_
  refine j_goto (pc := 151) (tgt := 110) dX10_nearest_151 (by decide) ?_
  refine j_sub [1, 2, 3, 4, 5, 6, 7, 8, 0] (lv' := [(0, .ref v0), (1, .int v1), (2, .int v2), (3, .int v3), (4, .int v4), (5, .int v5), (6, .int v6), (7, .int v7), (8, .int (v8 + 1))]) rfl ?_
  exact hk110 _ _ _ _ _ _ _ _ _ _
set_option maxRecDepth 20000 in
set_option maxHeartbeats 1000000 in
theorem jl_X10_nearest_110 {G : q_G} {l : Launch} {k0 z0 : Nat} (k96 : q_H → Nat → Int32 → Int32 → Int32 → Int32 → Int32 → Int32 → Int32 → Option (q_H × Int32)) (hk96 : ∀ (h : q_H) (v0 : Nat) (v1 : Int32) (v2 : Int32) (v3 : Int32) (v4 : Int32) (v5 : Int32) (v6 : Int32) (v7 : Int32), q_J G l (RX10, cX10_nearest, 13, 5, 123, (some .int), "nearest", []) k0 z0 (q_Z G k0 z0 q_i) 96 [(0, .ref v0), (1, .int v1), (2, .int v2), (3, .int v3), (4, .int v4), (5, .int v5), (6, .int v6), (7, .int v7)] [] h (k96 h v0 v1 v2 v3 v4 v5 v6 v7)) (n : Nat) : ∀ (h : q_H) (v0 : Nat) (v1 : Int32) (v2 : Int32) (v3 : Int32) (v4 : Int32) (v5 : Int32) (v6 : Int32) (v7 : Int32) (v8 : Int32), q_J G l (RX10, cX10_nearest, 13, 5, 123, (some .int), "nearest", []) k0 z0 (q_Z G k0 z0 q_i) 110 [(0, .ref v0), (1, .int v1), (2, .int v2), (3, .int v3), (4, .int v4), (5, .int v5), (6, .int v6), (7, .int v7), (8, .int v8)] [] h (l_X10_nearest_110 k96 n h v0 v1 v2 v3 v4 v5 v6 v7 v8) := by
  induction n with
  | zero => intro h v0 v1 v2 v3 v4 v5 v6 v7 v8; exact j_none
  | succ n ih => intro h v0 v1 v2 v3 v4 v5 v6 v7 v8; exact jb_X10_nearest_110 k96 (l_X10_nearest_110 k96 n) hk96 ih h v0 v1 v2 v3 v4 v5 v6 v7 v8
set_option maxRecDepth 20000 in
set_option maxHeartbeats 1000000 in
theorem jb_X10_nearest_96 {G : q_G} {l : Launch} {k0 z0 : Nat} (k96 : q_H → Nat → Int32 → Int32 → Int32 → Int32 → Int32 → Int32 → Int32 → Option (q_H × Int32)) (hk96 : ∀ (h : q_H) (v0 : Nat) (v1 : Int32) (v2 : Int32) (v3 : Int32) (v4 : Int32) (v5 : Int32) (v6 : Int32) (v7 : Int32), q_J G l (RX10, cX10_nearest, 13, 5, 123, (some .int), "nearest", []) k0 z0 (q_Z G k0 z0 q_i) 96 [(0, .ref v0), (1, .int v1), (2, .int v2), (3, .int v3), (4, .int v4), (5, .int v5), (6, .int v6), (7, .int v7)] [] h (k96 h v0 v1 v2 v3 v4 v5 v6 v7)) (h : q_H) (v0 : Nat) (v1 : Int32) (v2 : Int32) (v3 : Int32) (v4 : Int32) (v5 : Int32) (v6 : Int32) (v7 : Int32) : q_J G l (RX10, cX10_nearest, 13, 5, 123, (some .int), "nearest", []) k0 z0 (q_Z G k0 z0 q_i) 96 [(0, .ref v0), (1, .int v1), (2, .int v2), (3, .int v3), (4, .int v4), (5, .int v5), (6, .int v6), (7, .int v7)] [] h (b_X10_nearest_96 k96 h v0 v1 v2 v3 v4 v5 v6 v7) := by
  unfold b_X10_nearest_96
  refine j_iload (pc := 96) (p := 7) rfl dX10_nearest_96 ?_
  refine j_aload_n (pc := 98) (p := 0) rfl rfl dX10_nearest_98 ?_
  refine j_iload_n (pc := 99) (p := 1) rfl rfl dX10_nearest_99 ?_
  refine j_iload_n (pc := 100) (p := 2) rfl rfl dX10_nearest_100 ?_
  refine j_cVi (pc := 101) Y_X10_waiting (ci := 9) (b := v0) rfl rfl ml_X10_173 im_X10_waiting se_X10_waiting ⟨Nat.le_of_ble_eq_true rfl, Nat.le_of_ble_eq_true rfl⟩ dX10_nearest_101 (As := [.int v1, .int v2]) (rest := [.int v7]) rfl rfl (Nat.le_of_ble_eq_true rfl) (fun x hq9 => c_X10_waiting _ _ _ _ _ hq9) (fun q25 _ => ?_)
  refine j_ic_gt (pc := 104) (tgt := 160) dX10_nearest_104 (by decide) (fun _ => ?_) (fun _ => ?_)
  · refine j_iconst (pc := 160) ki_0 dX10_nearest_160 ?_
    refine j_istore (pc := 161) (lv' := [(7, .int (0)), (0, .ref v0), (1, .int v1), (2, .int v2), (3, .int v3), (4, .int v4), (5, .int v5), (6, .int v6)]) (by decide) rfl dX10_nearest_161 ?_
    refine j_sub [1, 2, 3, 4, 5, 6, 7, 0] (lv' := [(0, .ref v0), (1, .int v1), (2, .int v2), (3, .int v3), (4, .int v4), (5, .int v5), (6, .int v6), (7, .int (0))]) rfl ?_
    exact jl_X10_nearest_163 q_FU _ _ _ _ _ _ _ _ _
  refine j_iconst (pc := 107) ki_0 dX10_nearest_107 ?_
  refine j_istore (pc := 108) (lv' := [(8, .int (0)), (0, .ref v0), (1, .int v1), (2, .int v2), (3, .int v3), (4, .int v4), (5, .int v5), (6, .int v6), (7, .int v7)]) (by decide) rfl dX10_nearest_108 ?_
  refine j_sub [1, 2, 3, 4, 5, 6, 7, 8, 0] (lv' := [(0, .ref v0), (1, .int v1), (2, .int v2), (3, .int v3), (4, .int v4), (5, .int v5), (6, .int v6), (7, .int v7), (8, .int (0))]) rfl ?_
  exact jl_X10_nearest_110 k96 hk96 q_FU _ _ _ _ _ _ _ _ _ _
set_option maxRecDepth 20000 in
set_option maxHeartbeats 1000000 in
theorem jl_X10_nearest_96 {G : q_G} {l : Launch} {k0 z0 : Nat} (n : Nat) : ∀ (h : q_H) (v0 : Nat) (v1 : Int32) (v2 : Int32) (v3 : Int32) (v4 : Int32) (v5 : Int32) (v6 : Int32) (v7 : Int32), q_J G l (RX10, cX10_nearest, 13, 5, 123, (some .int), "nearest", []) k0 z0 (q_Z G k0 z0 q_i) 96 [(0, .ref v0), (1, .int v1), (2, .int v2), (3, .int v3), (4, .int v4), (5, .int v5), (6, .int v6), (7, .int v7)] [] h (l_X10_nearest_96 n h v0 v1 v2 v3 v4 v5 v6 v7) := by
  induction n with
  | zero => intro h v0 v1 v2 v3 v4 v5 v6 v7; exact j_none
  | succ n ih => intro h v0 v1 v2 v3 v4 v5 v6 v7; exact jb_X10_nearest_96 (l_X10_nearest_96 n) ih h v0 v1 v2 v3 v4 v5 v6 v7
set_option maxRecDepth 20000 in
set_option maxHeartbeats 1000000 in
theorem jb_X10_nearest_49 {G : q_G} {l : Launch} {k0 z0 : Nat} (k35 : q_H → Nat → Int32 → Int32 → Int32 → Int32 → Int32 → Int32 → Int32 → Option (q_H × Int32)) (k49 : q_H → Nat → Int32 → Int32 → Int32 → Int32 → Int32 → Int32 → Int32 → Int32 → Option (q_H × Int32)) (hk35 : ∀ (h : q_H) (v0 : Nat) (v1 : Int32) (v2 : Int32) (v3 : Int32) (v4 : Int32) (v5 : Int32) (v6 : Int32) (v7 : Int32), q_J G l (RX10, cX10_nearest, 13, 5, 123, (some .int), "nearest", []) k0 z0 (q_Z G k0 z0 q_i) 35 [(0, .ref v0), (1, .int v1), (2, .int v2), (3, .int v3), (4, .int v4), (5, .int v5), (6, .int v6), (7, .int v7)] [] h (k35 h v0 v1 v2 v3 v4 v5 v6 v7)) (hk49 : ∀ (h : q_H) (v0 : Nat) (v1 : Int32) (v2 : Int32) (v3 : Int32) (v4 : Int32) (v5 : Int32) (v6 : Int32) (v7 : Int32) (v8 : Int32), q_J G l (RX10, cX10_nearest, 13, 5, 123, (some .int), "nearest", []) k0 z0 (q_Z G k0 z0 q_i) 49 [(0, .ref v0), (1, .int v1), (2, .int v2), (3, .int v3), (4, .int v4), (5, .int v5), (6, .int v6), (7, .int v7), (8, .int v8)] [] h (k49 h v0 v1 v2 v3 v4 v5 v6 v7 v8)) (h : q_H) (v0 : Nat) (v1 : Int32) (v2 : Int32) (v3 : Int32) (v4 : Int32) (v5 : Int32) (v6 : Int32) (v7 : Int32) (v8 : Int32) : q_J G l (RX10, cX10_nearest, 13, 5, 123, (some .int), "nearest", []) k0 z0 (q_Z G k0 z0 q_i) 49 [(0, .ref v0), (1, .int v1), (2, .int v2), (3, .int v3), (4, .int v4), (5, .int v5), (6, .int v6), (7, .int v7), (8, .int v8)] [] h (b_X10_nearest_49 k35 k49 h v0 v1 v2 v3 v4 v5 v6 v7 v8) := by
  unfold b_X10_nearest_49
  refine j_iload (pc := 49) (p := 8) rfl dX10_nearest_49 ?_
  refine j_aload_n (pc := 51) (p := 0) rfl rfl dX10_nearest_51 ?_
  refine j_iload_n (pc := 52) (p := 3) rfl rfl dX10_nearest_52 ?_
  refine j_iload_n (pc := 53) (p := 1) rfl rfl dX10_nearest_53 ?_
  refine j_cVi (pc := 54) Y_X10_waiting (ci := 9) (b := v0) rfl rfl ml_X10_173 im_X10_waiting se_X10_waiting ⟨Nat.le_of_ble_eq_true rfl, Nat.le_of_ble_eq_true rfl⟩ dX10_nearest_54 (As := [.int v3, .int v1]) (rest := [.int v8]) rfl rfl (Nat.le_of_ble_eq_true rfl) (fun x hq9 => c_X10_waiting _ _ _ _ _ hq9) (fun q26 _ => ?_)
  refine j_ic_gt (pc := 57) (tgt := 87) dX10_nearest_57 (by decide) (fun _ => ?_) (fun _ => ?_)
  · refine j_inc (pc := 87) (p := 7) (lv' := [(7, .int (v7 + 1)), (0, .ref v0), (1, .int v1), (2, .int v2), (3, .int v3), (4, .int v4), (5, .int v5), (6, .int v6), (8, .int v8)]) rfl ki_1 (by decide) rfl dX10_nearest_87 ?_
    refine j_goto (pc := 90) (tgt := 35) dX10_nearest_90 (by decide) ?_
    refine j_sub [1, 2, 3, 4, 5, 6, 7, 0] (lv' := [(0, .ref v0), (1, .int v1), (2, .int v2), (3, .int v3), (4, .int v4), (5, .int v5), (6, .int v6), (7, .int (v7 + 1))]) rfl ?_
    exact hk35 _ _ _ _ _ _ _ _ _
  refine j_aload_n (pc := 60) (p := 0) rfl rfl dX10_nearest_60 ?_
  refine j_iconst (pc := 61) ki_2 dX10_nearest_61 ?_
  refine j_iload (pc := 62) (p := 4) rfl dX10_nearest_62 ?_
  refine j_iload (pc := 64) (p := 7) rfl dX10_nearest_64 ?_
  refine j_imul (pc := 66) dX10_nearest_66 ?_
  refine j_iadd (pc := 67) dX10_nearest_67 ?_
  refine j_iload (pc := 68) (p := 8) rfl dX10_nearest_68 ?_
  refine j_iadd (pc := 70) dX10_nearest_70 ?_
  refine j_iload_n (pc := 71) (p := 1) rfl rfl dX10_nearest_71 ?_
  refine j_iload_n (pc := 72) (p := 2) rfl rfl dX10_nearest_72 ?_
  refine j_iload (pc := 73) (p := 7) rfl dX10_nearest_73 ?_
  refine j_iload_n (pc := 75) (p := 3) rfl rfl dX10_nearest_75 ?_
  refine j_iload (pc := 76) (p := 8) rfl dX10_nearest_76 ?_
  refine j_cVu (pc := 78) Y_X10_laysBehind (ci := 9) (b := v0) rfl rfl ml_X10_346 im_X10_laysBehind se_X10_laysBehind ⟨Nat.le_of_ble_eq_true rfl, Nat.le_of_ble_eq_true rfl⟩ dX10_nearest_78 (As := [.int (((2) + (v4 * v7)) + v8), .int v1, .int v2, .int v7, .int v3, .int v8]) (rest := []) rfl rfl (Nat.le_of_ble_eq_true rfl) (fun x hq9 => c_X10_laysBehind _ _ _ _ _ _ _ _ _ hq9) (fun q27 _ => ?_)
  refine j_inc (pc := 81) (p := 8) (lv' := [(8, .int (v8 + 1)), (0, .ref v0), (1, .int v1), (2, .int v2), (3, .int v3), (4, .int v4), (5, .int v5), (6, .int v6), (7, .int v7)]) rfl ki_1 (by decide) rfl dX10_nearest_81 ?_
  refine j_goto (pc := 84) (tgt := 49) dX10_nearest_84 (by decide) ?_
  refine j_sub [1, 2, 3, 4, 5, 6, 7, 8, 0] (lv' := [(0, .ref v0), (1, .int v1), (2, .int v2), (3, .int v3), (4, .int v4), (5, .int v5), (6, .int v6), (7, .int v7), (8, .int (v8 + 1))]) rfl ?_
  exact hk49 _ _ _ _ _ _ _ _ _ _
set_option maxRecDepth 20000 in
set_option maxHeartbeats 1000000 in
theorem jl_X10_nearest_49 {G : q_G} {l : Launch} {k0 z0 : Nat} (k35 : q_H → Nat → Int32 → Int32 → Int32 → Int32 → Int32 → Int32 → Int32 → Option (q_H × Int32)) (hk35 : ∀ (h : q_H) (v0 : Nat) (v1 : Int32) (v2 : Int32) (v3 : Int32) (v4 : Int32) (v5 : Int32) (v6 : Int32) (v7 : Int32), q_J G l (RX10, cX10_nearest, 13, 5, 123, (some .int), "nearest", []) k0 z0 (q_Z G k0 z0 q_i) 35 [(0, .ref v0), (1, .int v1), (2, .int v2), (3, .int v3), (4, .int v4), (5, .int v5), (6, .int v6), (7, .int v7)] [] h (k35 h v0 v1 v2 v3 v4 v5 v6 v7)) (n : Nat) : ∀ (h : q_H) (v0 : Nat) (v1 : Int32) (v2 : Int32) (v3 : Int32) (v4 : Int32) (v5 : Int32) (v6 : Int32) (v7 : Int32) (v8 : Int32), q_J G l (RX10, cX10_nearest, 13, 5, 123, (some .int), "nearest", []) k0 z0 (q_Z G k0 z0 q_i) 49 [(0, .ref v0), (1, .int v1), (2, .int v2), (3, .int v3), (4, .int v4), (5, .int v5), (6, .int v6), (7, .int v7), (8, .int v8)] [] h (l_X10_nearest_49 k35 n h v0 v1 v2 v3 v4 v5 v6 v7 v8) := by
  induction n with
  | zero => intro h v0 v1 v2 v3 v4 v5 v6 v7 v8; exact j_none
  | succ n ih => intro h v0 v1 v2 v3 v4 v5 v6 v7 v8; exact jb_X10_nearest_49 k35 (l_X10_nearest_49 k35 n) hk35 ih h v0 v1 v2 v3 v4 v5 v6 v7 v8
set_option maxRecDepth 20000 in
set_option maxHeartbeats 1000000 in
theorem jb_X10_nearest_35 {G : q_G} {l : Launch} {k0 z0 : Nat} (k35 : q_H → Nat → Int32 → Int32 → Int32 → Int32 → Int32 → Int32 → Int32 → Option (q_H × Int32)) (hk35 : ∀ (h : q_H) (v0 : Nat) (v1 : Int32) (v2 : Int32) (v3 : Int32) (v4 : Int32) (v5 : Int32) (v6 : Int32) (v7 : Int32), q_J G l (RX10, cX10_nearest, 13, 5, 123, (some .int), "nearest", []) k0 z0 (q_Z G k0 z0 q_i) 35 [(0, .ref v0), (1, .int v1), (2, .int v2), (3, .int v3), (4, .int v4), (5, .int v5), (6, .int v6), (7, .int v7)] [] h (k35 h v0 v1 v2 v3 v4 v5 v6 v7)) (h : q_H) (v0 : Nat) (v1 : Int32) (v2 : Int32) (v3 : Int32) (v4 : Int32) (v5 : Int32) (v6 : Int32) (v7 : Int32) : q_J G l (RX10, cX10_nearest, 13, 5, 123, (some .int), "nearest", []) k0 z0 (q_Z G k0 z0 q_i) 35 [(0, .ref v0), (1, .int v1), (2, .int v2), (3, .int v3), (4, .int v4), (5, .int v5), (6, .int v6), (7, .int v7)] [] h (b_X10_nearest_35 k35 h v0 v1 v2 v3 v4 v5 v6 v7) := by
  unfold b_X10_nearest_35
  refine j_iload (pc := 35) (p := 7) rfl dX10_nearest_35 ?_
  refine j_aload_n (pc := 37) (p := 0) rfl rfl dX10_nearest_37 ?_
  refine j_iload_n (pc := 38) (p := 2) rfl rfl dX10_nearest_38 ?_
  refine j_iload_n (pc := 39) (p := 1) rfl rfl dX10_nearest_39 ?_
  refine j_cVi (pc := 40) Y_X10_waiting (ci := 9) (b := v0) rfl rfl ml_X10_173 im_X10_waiting se_X10_waiting ⟨Nat.le_of_ble_eq_true rfl, Nat.le_of_ble_eq_true rfl⟩ dX10_nearest_40 (As := [.int v2, .int v1]) (rest := [.int v7]) rfl rfl (Nat.le_of_ble_eq_true rfl) (fun x hq9 => c_X10_waiting _ _ _ _ _ hq9) (fun q28 _ => ?_)
  refine j_ic_gt (pc := 43) (tgt := 93) dX10_nearest_43 (by decide) (fun _ => ?_) (fun _ => ?_)
  · refine j_iconst (pc := 93) ki_0 dX10_nearest_93 ?_
    refine j_istore (pc := 94) (lv' := [(7, .int (0)), (0, .ref v0), (1, .int v1), (2, .int v2), (3, .int v3), (4, .int v4), (5, .int v5), (6, .int v6)]) (by decide) rfl dX10_nearest_94 ?_
    refine j_sub [1, 2, 3, 4, 5, 6, 7, 0] (lv' := [(0, .ref v0), (1, .int v1), (2, .int v2), (3, .int v3), (4, .int v4), (5, .int v5), (6, .int v6), (7, .int (0))]) rfl ?_
    exact jl_X10_nearest_96 q_FU _ _ _ _ _ _ _ _ _
  refine j_iconst (pc := 46) ki_0 dX10_nearest_46 ?_
  refine j_istore (pc := 47) (lv' := [(8, .int (0)), (0, .ref v0), (1, .int v1), (2, .int v2), (3, .int v3), (4, .int v4), (5, .int v5), (6, .int v6), (7, .int v7)]) (by decide) rfl dX10_nearest_47 ?_
  refine j_sub [1, 2, 3, 4, 5, 6, 7, 8, 0] (lv' := [(0, .ref v0), (1, .int v1), (2, .int v2), (3, .int v3), (4, .int v4), (5, .int v5), (6, .int v6), (7, .int v7), (8, .int (0))]) rfl ?_
  exact jl_X10_nearest_49 k35 hk35 q_FU _ _ _ _ _ _ _ _ _ _
set_option maxRecDepth 20000 in
set_option maxHeartbeats 1000000 in
theorem jl_X10_nearest_35 {G : q_G} {l : Launch} {k0 z0 : Nat} (n : Nat) : ∀ (h : q_H) (v0 : Nat) (v1 : Int32) (v2 : Int32) (v3 : Int32) (v4 : Int32) (v5 : Int32) (v6 : Int32) (v7 : Int32), q_J G l (RX10, cX10_nearest, 13, 5, 123, (some .int), "nearest", []) k0 z0 (q_Z G k0 z0 q_i) 35 [(0, .ref v0), (1, .int v1), (2, .int v2), (3, .int v3), (4, .int v4), (5, .int v5), (6, .int v6), (7, .int v7)] [] h (l_X10_nearest_35 n h v0 v1 v2 v3 v4 v5 v6 v7) := by
  induction n with
  | zero => intro h v0 v1 v2 v3 v4 v5 v6 v7; exact j_none
  | succ n ih => intro h v0 v1 v2 v3 v4 v5 v6 v7; exact jb_X10_nearest_35 (l_X10_nearest_35 n) ih h v0 v1 v2 v3 v4 v5 v6 v7
set_option maxRecDepth 20000 in
set_option maxHeartbeats 1000000 in
theorem jb_X10_nearest_0 {G : q_G} {l : Launch} {k0 z0 : Nat} (h : q_H) (v0 : Nat) (v1 : Int32) (v2 : Int32) : q_J G l (RX10, cX10_nearest, 13, 5, 123, (some .int), "nearest", []) k0 z0 (q_Z G k0 z0 q_i) 0 [(0, .ref v0), (1, .int v1), (2, .int v2)] [] h (b_X10_nearest_0 h v0 v1 v2) := by
  unfold b_X10_nearest_0
  refine j_aload_n (pc := 0) (p := 0) rfl rfl dX10_nearest_0 ?_
  refine j_iconst (pc := 1) ki_0 dX10_nearest_1 ?_
  refine j_put (pc := 2) FI_X10 (k := 0) (by decide) fl_X10_1 rfl rfl rfl dX10_nearest_2 (fun h29 _ => ?_)
  refine j_iload_n (pc := 5) (p := 1) rfl rfl dX10_nearest_5 ?_
  refine j_iload_n (pc := 6) (p := 2) rfl rfl dX10_nearest_6 ?_
  refine j_cSi (pc := 7) Y_X10_areTwo ml_X10_223 sm_X10_areTwo ⟨Nat.le_of_ble_eq_true rfl, Nat.le_of_ble_eq_true rfl⟩ dX10_nearest_7 (As := [.int v1, .int v2]) (rest := []) rfl rfl (Nat.le_of_ble_eq_true rfl) (fun x hq9 => c_X10_areTwo _ _ _ _ hq9) (fun q30 _ => ?_)
  refine j_if_ne (pc := 10) (tgt := 15) dX10_nearest_10 (by decide) (fun _ => ?_) (fun _ => ?_)
  · refine j_iconst (pc := 13) ki_m1 dX10_nearest_13 ?_
    exact j_iret (pc := 14) rfl dX10_nearest_14
  refine j_iload_n (pc := 15) (p := 1) rfl rfl dX10_nearest_15 ?_
  refine j_iload_n (pc := 16) (p := 2) rfl rfl dX10_nearest_16 ?_
  refine j_cSi (pc := 17) Y_X10_third ml_X10_336 sm_X10_third ⟨Nat.le_of_ble_eq_true rfl, Nat.le_of_ble_eq_true rfl⟩ dX10_nearest_17 (As := [.int v1, .int v2]) (rest := []) rfl rfl (Nat.le_of_ble_eq_true rfl) (fun x hq9 => c_X10_third _ _ _ _ hq9) (fun q31 _ => ?_)
  refine j_istore_n (pc := 20) (lv' := [(3, .int q31.2), (0, .ref v0), (1, .int v1), (2, .int v2)]) rfl (by decide) rfl dX10_nearest_20 ?_
  refine j_bipush (pc := 21) kb_7 dX10_nearest_21 ?_
  refine j_istore (pc := 23) (lv' := [(4, .int (7)), (3, .int q31.2), (0, .ref v0), (1, .int v1), (2, .int v2)]) (by decide) rfl dX10_nearest_23 ?_
  refine j_ldc (pc := 25) ct_X10_250 dX10_nearest_25 ?_
  refine j_istore (pc := 27) (lv' := [(5, .int (1000000)), (4, .int (7)), (3, .int q31.2), (0, .ref v0), (1, .int v1), (2, .int v2)]) (by decide) rfl dX10_nearest_27 ?_
  refine j_iconst (pc := 29) ki_0 dX10_nearest_29 ?_
  refine j_istore (pc := 30) (lv' := [(6, .int (0)), (5, .int (1000000)), (4, .int (7)), (3, .int q31.2), (0, .ref v0), (1, .int v1), (2, .int v2)]) (by decide) rfl dX10_nearest_30 ?_
  refine j_iconst (pc := 32) ki_0 dX10_nearest_32 ?_
  refine j_istore (pc := 33) (lv' := [(7, .int (0)), (6, .int (0)), (5, .int (1000000)), (4, .int (7)), (3, .int q31.2), (0, .ref v0), (1, .int v1), (2, .int v2)]) (by decide) rfl dX10_nearest_33 ?_
  refine j_sub [5, 6, 7, 4, 3, 2, 1, 0] (lv' := [(0, .ref v0), (1, .int v1), (2, .int v2), (3, .int q31.2), (4, .int (7)), (5, .int (1000000)), (6, .int (0)), (7, .int (0))]) rfl ?_
  exact jl_X10_nearest_35 q_FU _ _ _ _ _ _ _ _ _
set_option maxRecDepth 20000 in
set_option maxHeartbeats 1000000 in
theorem c_X10_nearest {G : q_G} {l : Launch} : ∀ (h : q_H) (a0 : Nat) (a1 : Int32) (a2 : Int32) (q : q_H × Int32), f_X10_nearest h a0 a1 a2 = some q → (∃ fs, h.1 a0 = .inr (9, fs)) ∧ q_CT G l yX10_nearest cX10_nearest 13 (some .int) 5 123 [.ref a0, .int a1, .int a2] h q.1 (q_i q.2) := by
  intro h a0 a1 a2 q e
  obtain ⟨e1, e2⟩ := q_chk_ok e
  exact ⟨e1, q_ofJ Y_X10_nearest (Nat.le_of_ble_eq_true rfl) (jb_X10_nearest_0 h a0 a1 a2) q e2⟩
/-! FarFoldersModel.path(II)I -/
theorem dX10_path_0 : decode cX10_path 0 = .ok (.aload_n 0, 1) := by decide +kernel
theorem dX10_path_1 : decode cX10_path 1 = .ok (.iconst 0, 1) := by decide +kernel
theorem dX10_path_2 : decode cX10_path 2 = .ok (.putfield 1, 3) := by decide +kernel
theorem dX10_path_5 : decode cX10_path 5 = .ok (.aload_n 0, 1) := by decide +kernel
theorem dX10_path_6 : decode cX10_path 6 = .ok (.iload_n 1, 1) := by decide +kernel
theorem dX10_path_7 : decode cX10_path 7 = .ok (.iload_n 2, 1) := by decide +kernel
theorem dX10_path_8 : decode cX10_path 8 = .ok (.invokevirtual 287, 3) := by decide +kernel
theorem dX10_path_11 : decode cX10_path 11 = .ok (.istore_n 3, 1) := by decide +kernel
theorem dX10_path_12 : decode cX10_path 12 = .ok (.iload_n 3, 1) := by decide +kernel
theorem dX10_path_13 : decode cX10_path 13 = .ok (.ifCond .ge 5, 3) := by decide +kernel
theorem dX10_path_16 : decode cX10_path 16 = .ok (.iload_n 3, 1) := by decide +kernel
theorem dX10_path_17 : decode cX10_path 17 = .ok (.ireturn, 1) := by decide +kernel
theorem dX10_path_18 : decode cX10_path 18 = .ok (.aload_n 0, 1) := by decide +kernel
theorem dX10_path_19 : decode cX10_path 19 = .ok (.iconst 0, 1) := by decide +kernel
theorem dX10_path_20 : decode cX10_path 20 = .ok (.putfield 11, 3) := by decide +kernel
theorem dX10_path_23 : decode cX10_path 23 = .ok (.aload_n 0, 1) := by decide +kernel
theorem dX10_path_24 : decode cX10_path 24 = .ok (.iload_n 2, 1) := by decide +kernel
theorem dX10_path_25 : decode cX10_path 25 = .ok (.invokevirtual 323, 3) := by decide +kernel
theorem dX10_path_28 : decode cX10_path 28 = .ok (.aload_n 0, 1) := by decide +kernel
theorem dX10_path_29 : decode cX10_path 29 = .ok (.getfield 11, 3) := by decide +kernel
theorem dX10_path_32 : decode cX10_path 32 = .ok (.ireturn, 1) := by decide +kernel
def b_X10_path_0 (h : q_H) (v0 : Nat) (v1 : Int32) (v2 : Int32) : Option (q_H × Int32) :=
  Option.bind (q_p 9 0 h v0 (.int (0))) (fun h1 => Option.bind (f_X10_asked h1 v0 v1 v2) (fun q2 => if 0 ≤ q2.2 then Option.bind (q_p 9 1 q2.1 v0 (.int (0))) (fun h3 => Option.bind (f_X10_entersPath q_RD h3 v0 v2) (fun q4 => Option.bind (q_gI 9 1 q4.1 v0) (fun x5 => some (q4.1, x5)))) else some (q2.1, q2.2)))
def f_X10_path (h : q_H) (a0 : Nat) (a1 : Int32) (a2 : Int32) : Option (q_H × Int32) := q_chk 9 h a0 (b_X10_path_0 h a0 a1 a2)
set_option maxRecDepth 20000 in
set_option maxHeartbeats 1000000 in
theorem jb_X10_path_0 {G : q_G} {l : Launch} {k0 z0 : Nat} (h : q_H) (v0 : Nat) (v1 : Int32) (v2 : Int32) : q_J G l (RX10, cX10_path, 4, 24, 532, (some .int), "path", []) k0 z0 (q_Z G k0 z0 q_i) 0 [(0, .ref v0), (1, .int v1), (2, .int v2)] [] h (b_X10_path_0 h v0 v1 v2) := by
  unfold b_X10_path_0
  refine j_aload_n (pc := 0) (p := 0) rfl rfl dX10_path_0 ?_
  refine j_iconst (pc := 1) ki_0 dX10_path_1 ?_
  refine j_put (pc := 2) FI_X10 (k := 0) (by decide) fl_X10_1 rfl rfl rfl dX10_path_2 (fun h1 _ => ?_)
  refine j_aload_n (pc := 5) (p := 0) rfl rfl dX10_path_5 ?_
  refine j_iload_n (pc := 6) (p := 1) rfl rfl dX10_path_6 ?_
  refine j_iload_n (pc := 7) (p := 2) rfl rfl dX10_path_7 ?_
  refine j_cVi (pc := 8) Y_X10_asked (ci := 9) (b := v0) rfl rfl ml_X10_287 im_X10_asked se_X10_asked ⟨Nat.le_of_ble_eq_true rfl, Nat.le_of_ble_eq_true rfl⟩ dX10_path_8 (As := [.int v1, .int v2]) (rest := []) rfl rfl (Nat.le_of_ble_eq_true rfl) (fun x hq9 => c_X10_asked _ _ _ _ _ hq9) (fun q2 _ => ?_)
  refine j_istore_n (pc := 11) (lv' := [(3, .int q2.2), (0, .ref v0), (1, .int v1), (2, .int v2)]) rfl (by decide) rfl dX10_path_11 ?_
  refine j_iload_n (pc := 12) (p := 0) rfl rfl dX10_path_12 ?_
  refine j_if_ge (pc := 13) (tgt := 18) dX10_path_13 (by decide) (fun _ => ?_) (fun _ => ?_)
  · refine j_aload_n (pc := 18) (p := 1) rfl rfl dX10_path_18 ?_
    refine j_iconst (pc := 19) ki_0 dX10_path_19 ?_
    refine j_put (pc := 20) FI_X10 (k := 1) (by decide) fl_X10_11 rfl rfl rfl dX10_path_20 (fun h3 _ => ?_)
    refine j_aload_n (pc := 23) (p := 1) rfl rfl dX10_path_23 ?_
    refine j_iload_n (pc := 24) (p := 3) rfl rfl dX10_path_24 ?_
    refine j_cVu (pc := 25) Y_X10_entersPath (ci := 9) (b := v0) rfl rfl ml_X10_323 im_X10_entersPath se_X10_entersPath ⟨Nat.le_of_ble_eq_true rfl, Nat.le_of_ble_eq_true rfl⟩ dX10_path_25 (As := [.int v2]) (rest := []) rfl rfl (Nat.le_of_ble_eq_true rfl) (fun x hq9 => (c_X10_entersPath q_RD) _ _ _ _ hq9) (fun q4 _ => ?_)
    refine j_aload_n (pc := 28) (p := 1) rfl rfl dX10_path_28 ?_
    refine j_getI (pc := 29) FI_X10 (k := 1) (by decide) fl_X10_11 dX10_path_29 (fun x5 _ => ?_)
    exact j_iret (pc := 32) rfl dX10_path_32
  refine j_iload_n (pc := 16) (p := 0) rfl rfl dX10_path_16 ?_
  exact j_iret (pc := 17) rfl dX10_path_17
set_option maxRecDepth 20000 in
set_option maxHeartbeats 1000000 in
theorem c_X10_path {G : q_G} {l : Launch} : ∀ (h : q_H) (a0 : Nat) (a1 : Int32) (a2 : Int32) (q : q_H × Int32), f_X10_path h a0 a1 a2 = some q → (∃ fs, h.1 a0 = .inr (9, fs)) ∧ q_CT G l yX10_path cX10_path 4 (some .int) 24 532 [.ref a0, .int a1, .int a2] h q.1 (q_i q.2) := by
  intro h a0 a1 a2 q e
  obtain ⟨e1, e2⟩ := q_chk_ok e
  exact ⟨e1, q_ofJ Y_X10_path (Nat.le_of_ble_eq_true rfl) (jb_X10_path_0 h a0 a1 a2) q e2⟩
/-! FarFoldersModel.places(II)I -/
theorem dX10_places_0 : decode cX10_places 0 = .ok (.aload_n 0, 1) := by decide +kernel
theorem dX10_places_1 : decode cX10_places 1 = .ok (.iconst 0, 1) := by decide +kernel
theorem dX10_places_2 : decode cX10_places 2 = .ok (.putfield 1, 3) := by decide +kernel
theorem dX10_places_5 : decode cX10_places 5 = .ok (.iload_n 1, 1) := by decide +kernel
theorem dX10_places_6 : decode cX10_places 6 = .ok (.invokestatic 101, 3) := by decide +kernel
theorem dX10_places_9 : decode cX10_places 9 = .ok (.ifCond .eq 10, 3) := by decide +kernel
theorem dX10_places_12 : decode cX10_places 12 = .ok (.iload_n 2, 1) := by decide +kernel
theorem dX10_places_13 : decode cX10_places 13 = .ok (.invokestatic 159, 3) := by decide +kernel
theorem dX10_places_16 : decode cX10_places 16 = .ok (.ifCond .ne 5, 3) := by decide +kernel
theorem dX10_places_19 : decode cX10_places 19 = .ok (.iconst (-1), 1) := by decide +kernel
theorem dX10_places_20 : decode cX10_places 20 = .ok (.ireturn, 1) := by decide +kernel
theorem dX10_places_21 : decode cX10_places 21 = .ok (.aload_n 0, 1) := by decide +kernel
theorem dX10_places_22 : decode cX10_places 22 = .ok (.iconst 0, 1) := by decide +kernel
theorem dX10_places_23 : decode cX10_places 23 = .ok (.iload_n 1, 1) := by decide +kernel
theorem dX10_places_24 : decode cX10_places 24 = .ok (.invokevirtual 164, 3) := by decide +kernel
theorem dX10_places_27 : decode cX10_places 27 = .ok (.iconst 0, 1) := by decide +kernel
theorem dX10_places_28 : decode cX10_places 28 = .ok (.istore_n 3, 1) := by decide +kernel
theorem dX10_places_29 : decode cX10_places 29 = .ok (.iconst 0, 1) := by decide +kernel
theorem dX10_places_30 : decode cX10_places 30 = .ok (.istore 4, 2) := by decide +kernel
theorem dX10_places_32 : decode cX10_places 32 = .ok (.iload 4, 2) := by decide +kernel
theorem dX10_places_34 : decode cX10_places 34 = .ok (.bipush 14, 2) := by decide +kernel
theorem dX10_places_36 : decode cX10_places 36 = .ok (.if_icmp .ge 31, 3) := by decide +kernel
theorem dX10_places_39 : decode cX10_places 39 = .ok (.iload_n 3, 1) := by decide +kernel
theorem dX10_places_40 : decode cX10_places 40 = .ok (.aload_n 0, 1) := by decide +kernel
theorem dX10_places_41 : decode cX10_places 41 = .ok (.iconst 0, 1) := by decide +kernel
theorem dX10_places_42 : decode cX10_places 42 = .ok (.iload_n 2, 1) := by decide +kernel
theorem dX10_places_43 : decode cX10_places 43 = .ok (.iload 4, 2) := by decide +kernel
theorem dX10_places_45 : decode cX10_places 45 = .ok (.invokevirtual 141, 3) := by decide +kernel
theorem dX10_places_48 : decode cX10_places 48 = .ok (.ifCond .eq 10, 3) := by decide +kernel
theorem dX10_places_51 : decode cX10_places 51 = .ok (.iconst 1, 1) := by decide +kernel
theorem dX10_places_52 : decode cX10_places 52 = .ok (.iload 4, 2) := by decide +kernel
theorem dX10_places_54 : decode cX10_places 54 = .ok (.ishl, 1) := by decide +kernel
theorem dX10_places_55 : decode cX10_places 55 = .ok (.goto 4, 3) := by decide +kernel
theorem dX10_places_58 : decode cX10_places 58 = .ok (.iconst 0, 1) := by decide +kernel
theorem dX10_places_59 : decode cX10_places 59 = .ok (.ior, 1) := by decide +kernel
theorem dX10_places_60 : decode cX10_places 60 = .ok (.istore_n 3, 1) := by decide +kernel
theorem dX10_places_61 : decode cX10_places 61 = .ok (.iinc 4 1, 3) := by decide +kernel
theorem dX10_places_64 : decode cX10_places 64 = .ok (.goto (-32), 3) := by decide +kernel
theorem dX10_places_67 : decode cX10_places 67 = .ok (.iload_n 3, 1) := by decide +kernel
theorem dX10_places_68 : decode cX10_places 68 = .ok (.ireturn, 1) := by decide +kernel
def b_X10_places_59 (k32 : q_H → Nat → Int32 → Int32 → Int32 → Option (q_H × Int32)) (h : q_H) (v0 : Nat) (v2 : Int32) (v4 : Int32) (s0 : Int32) (s1 : Int32) : Option (q_H × Int32) :=
  k32 h v0 v2 (s0 ||| s1) (v4 + 1)
def b_X10_places_32 (k32 : q_H → Nat → Int32 → Int32 → Int32 → Option (q_H × Int32)) (h : q_H) (v0 : Nat) (v2 : Int32) (v3 : Int32) (v4 : Int32) : Option (q_H × Int32) :=
  if (14) ≤ v4 then some (h, v3) else Option.bind (f_X10_canGo h v0 (0) v2 v4) (fun q1 => if q1.2 = 0 then b_X10_places_59 k32 q1.1 v0 v2 v4 v3 (0) else b_X10_places_59 k32 q1.1 v0 v2 v4 v3 ((1) <<< (v4 &&& 31)))
def l_X10_places_32 : Nat → q_H → Nat → Int32 → Int32 → Int32 → Option (q_H × Int32)
  | 0, _, _, _, _, _ => none
  | n + 1, h, v0, v2, v3, v4 => b_X10_places_32 (l_X10_places_32 n) h v0 v2 v3 v4
def b_X10_places_0 (h : q_H) (v0 : Nat) (v1 : Int32) (v2 : Int32) : Option (q_H × Int32) :=
  Option.bind (q_p 9 0 h v0 (.int (0))) (fun h2 => Option.bind (f_X10_isCopy h2 v1) (fun q3 => if q3.2 = 0 then some (q3.1, (-1)) else Option.bind (f_X10_isFolder q3.1 v2) (fun q4 => if q4.2 = 0 then some (q4.1, (-1)) else Option.bind (f_X10_lays q4.1 v0 (0) v1) (fun q5 => l_X10_places_32 q_FU q5.1 v0 v2 (0) (0)))))
def f_X10_places (h : q_H) (a0 : Nat) (a1 : Int32) (a2 : Int32) : Option (q_H × Int32) := q_chk 9 h a0 (b_X10_places_0 h a0 a1 a2)
set_option maxRecDepth 20000 in
set_option maxHeartbeats 1000000 in
theorem jb_X10_places_59 {G : q_G} {l : Launch} {k0 z0 : Nat} (k32 : q_H → Nat → Int32 → Int32 → Int32 → Option (q_H × Int32)) (hk32 : ∀ (h : q_H) (v0 : Nat) (v2 : Int32) (v3 : Int32) (v4 : Int32), q_J G l (RX10, cX10_places, 5, 5, 118, (some .int), "places", []) k0 z0 (q_Z G k0 z0 q_i) 32 [(0, .ref v0), (2, .int v2), (3, .int v3), (4, .int v4)] [] h (k32 h v0 v2 v3 v4)) (h : q_H) (v0 : Nat) (v2 : Int32) (v4 : Int32) (s0 : Int32) (s1 : Int32) : q_J G l (RX10, cX10_places, 5, 5, 118, (some .int), "places", []) k0 z0 (q_Z G k0 z0 q_i) 59 [(0, .ref v0), (2, .int v2), (4, .int v4)] [.int s1, .int s0] h (b_X10_places_59 k32 h v0 v2 v4 s0 s1) := by
  unfold b_X10_places_59
  refine j_ior (pc := 59) dX10_places_59 ?_
  refine j_istore_n (pc := 60) (lv' := [(3, .int (s0 ||| s1)), (0, .ref v0), (2, .int v2), (4, .int v4)]) rfl (by decide) rfl dX10_places_60 ?_
  refine j_inc (pc := 61) (p := 3) (lv' := [(4, .int (v4 + 1)), (3, .int (s0 ||| s1)), (0, .ref v0), (2, .int v2)]) rfl ki_1 (by decide) rfl dX10_places_61 ?_
  refine j_goto (pc := 64) (tgt := 32) dX10_places_64 (by decide) ?_
  refine j_sub [2, 3, 1, 0] (lv' := [(0, .ref v0), (2, .int v2), (3, .int (s0 ||| s1)), (4, .int (v4 + 1))]) rfl ?_
  exact hk32 _ _ _ _ _
set_option maxRecDepth 20000 in
set_option maxHeartbeats 1000000 in
theorem jb_X10_places_32 {G : q_G} {l : Launch} {k0 z0 : Nat} (k32 : q_H → Nat → Int32 → Int32 → Int32 → Option (q_H × Int32)) (hk32 : ∀ (h : q_H) (v0 : Nat) (v2 : Int32) (v3 : Int32) (v4 : Int32), q_J G l (RX10, cX10_places, 5, 5, 118, (some .int), "places", []) k0 z0 (q_Z G k0 z0 q_i) 32 [(0, .ref v0), (2, .int v2), (3, .int v3), (4, .int v4)] [] h (k32 h v0 v2 v3 v4)) (h : q_H) (v0 : Nat) (v2 : Int32) (v3 : Int32) (v4 : Int32) : q_J G l (RX10, cX10_places, 5, 5, 118, (some .int), "places", []) k0 z0 (q_Z G k0 z0 q_i) 32 [(0, .ref v0), (2, .int v2), (3, .int v3), (4, .int v4)] [] h (b_X10_places_32 k32 h v0 v2 v3 v4) := by
  unfold b_X10_places_32
  refine j_iload (pc := 32) (p := 3) rfl dX10_places_32 ?_
  refine j_bipush (pc := 34) kb_14 dX10_places_34 ?_
  refine j_ic_ge (pc := 36) (tgt := 67) dX10_places_36 (by decide) (fun _ => ?_) (fun _ => ?_)
  · refine j_iload_n (pc := 67) (p := 2) rfl rfl dX10_places_67 ?_
    exact j_iret (pc := 68) rfl dX10_places_68
  refine j_iload_n (pc := 39) (p := 2) rfl rfl dX10_places_39 ?_
  refine j_aload_n (pc := 40) (p := 0) rfl rfl dX10_places_40 ?_
  refine j_iconst (pc := 41) ki_0 dX10_places_41 ?_
  refine j_iload_n (pc := 42) (p := 1) rfl rfl dX10_places_42 ?_
  refine j_iload (pc := 43) (p := 3) rfl dX10_places_43 ?_
  refine j_cVi (pc := 45) Y_X10_canGo (ci := 9) (b := v0) rfl rfl ml_X10_141 im_X10_canGo se_X10_canGo ⟨Nat.le_of_ble_eq_true rfl, Nat.le_of_ble_eq_true rfl⟩ dX10_places_45 (As := [.int (0), .int v2, .int v4]) (rest := [.int v3]) rfl rfl (Nat.le_of_ble_eq_true rfl) (fun x hq9 => c_X10_canGo _ _ _ _ _ _ hq9) (fun q1 _ => ?_)
  refine j_if_eq (pc := 48) (tgt := 58) dX10_places_48 (by decide) (fun _ => ?_) (fun _ => ?_)
  · refine j_iconst (pc := 58) ki_0 dX10_places_58 ?_
    refine j_sub [0, 1, 3] (lv' := [(0, .ref v0), (2, .int v2), (4, .int v4)]) rfl ?_
    exact jb_X10_places_59 k32 hk32 _ _ _ _ _ _
  refine j_iconst (pc := 51) ki_1 dX10_places_51 ?_
  refine j_iload (pc := 52) (p := 3) rfl dX10_places_52 ?_
  refine j_ishl (pc := 54) dX10_places_54 ?_
  refine j_goto (pc := 55) (tgt := 59) dX10_places_55 (by decide) ?_
  refine j_sub [0, 1, 3] (lv' := [(0, .ref v0), (2, .int v2), (4, .int v4)]) rfl ?_
  exact jb_X10_places_59 k32 hk32 _ _ _ _ _ _
set_option maxRecDepth 20000 in
set_option maxHeartbeats 1000000 in
theorem jl_X10_places_32 {G : q_G} {l : Launch} {k0 z0 : Nat} (n : Nat) : ∀ (h : q_H) (v0 : Nat) (v2 : Int32) (v3 : Int32) (v4 : Int32), q_J G l (RX10, cX10_places, 5, 5, 118, (some .int), "places", []) k0 z0 (q_Z G k0 z0 q_i) 32 [(0, .ref v0), (2, .int v2), (3, .int v3), (4, .int v4)] [] h (l_X10_places_32 n h v0 v2 v3 v4) := by
  induction n with
  | zero => intro h v0 v2 v3 v4; exact j_none
  | succ n ih => intro h v0 v2 v3 v4; exact jb_X10_places_32 (l_X10_places_32 n) ih h v0 v2 v3 v4
set_option maxRecDepth 20000 in
set_option maxHeartbeats 1000000 in
theorem jb_X10_places_0 {G : q_G} {l : Launch} {k0 z0 : Nat} (h : q_H) (v0 : Nat) (v1 : Int32) (v2 : Int32) : q_J G l (RX10, cX10_places, 5, 5, 118, (some .int), "places", []) k0 z0 (q_Z G k0 z0 q_i) 0 [(0, .ref v0), (1, .int v1), (2, .int v2)] [] h (b_X10_places_0 h v0 v1 v2) := by
  unfold b_X10_places_0
  refine j_aload_n (pc := 0) (p := 0) rfl rfl dX10_places_0 ?_
  refine j_iconst (pc := 1) ki_0 dX10_places_1 ?_
  refine j_put (pc := 2) FI_X10 (k := 0) (by decide) fl_X10_1 rfl rfl rfl dX10_places_2 (fun h2 _ => ?_)
  refine j_iload_n (pc := 5) (p := 1) rfl rfl dX10_places_5 ?_
  refine j_cSi (pc := 6) Y_X10_isCopy ml_X10_101 sm_X10_isCopy ⟨Nat.le_of_ble_eq_true rfl, Nat.le_of_ble_eq_true rfl⟩ dX10_places_6 (As := [.int v1]) (rest := []) rfl rfl (Nat.le_of_ble_eq_true rfl) (fun x hq9 => c_X10_isCopy _ _ _ hq9) (fun q3 _ => ?_)
  refine j_if_eq (pc := 9) (tgt := 19) dX10_places_9 (by decide) (fun _ => ?_) (fun _ => ?_)
  · refine j_iconst (pc := 19) ki_m1 dX10_places_19 ?_
    exact j_iret (pc := 20) rfl dX10_places_20
  refine j_iload_n (pc := 12) (p := 2) rfl rfl dX10_places_12 ?_
  refine j_cSi (pc := 13) Y_X10_isFolder ml_X10_159 sm_X10_isFolder ⟨Nat.le_of_ble_eq_true rfl, Nat.le_of_ble_eq_true rfl⟩ dX10_places_13 (As := [.int v2]) (rest := []) rfl rfl (Nat.le_of_ble_eq_true rfl) (fun x hq9 => c_X10_isFolder _ _ _ hq9) (fun q4 _ => ?_)
  refine j_if_ne (pc := 16) (tgt := 21) dX10_places_16 (by decide) (fun _ => ?_) (fun _ => ?_)
  · refine j_iconst (pc := 19) ki_m1 dX10_places_19 ?_
    exact j_iret (pc := 20) rfl dX10_places_20
  refine j_aload_n (pc := 21) (p := 0) rfl rfl dX10_places_21 ?_
  refine j_iconst (pc := 22) ki_0 dX10_places_22 ?_
  refine j_iload_n (pc := 23) (p := 1) rfl rfl dX10_places_23 ?_
  refine j_cVu (pc := 24) Y_X10_lays (ci := 9) (b := v0) rfl rfl ml_X10_164 im_X10_lays se_X10_lays ⟨Nat.le_of_ble_eq_true rfl, Nat.le_of_ble_eq_true rfl⟩ dX10_places_24 (As := [.int (0), .int v1]) (rest := []) rfl rfl (Nat.le_of_ble_eq_true rfl) (fun x hq9 => c_X10_lays _ _ _ _ _ hq9) (fun q5 _ => ?_)
  refine j_iconst (pc := 27) ki_0 dX10_places_27 ?_
  refine j_istore_n (pc := 28) (lv' := [(3, .int (0)), (0, .ref v0), (1, .int v1), (2, .int v2)]) rfl (by decide) rfl dX10_places_28 ?_
  refine j_iconst (pc := 29) ki_0 dX10_places_29 ?_
  refine j_istore (pc := 30) (lv' := [(4, .int (0)), (3, .int (0)), (0, .ref v0), (1, .int v1), (2, .int v2)]) (by decide) rfl dX10_places_30 ?_
  refine j_sub [2, 4, 1, 0] (lv' := [(0, .ref v0), (2, .int v2), (3, .int (0)), (4, .int (0))]) rfl ?_
  exact jl_X10_places_32 q_FU _ _ _ _ _
set_option maxRecDepth 20000 in
set_option maxHeartbeats 1000000 in
theorem c_X10_places {G : q_G} {l : Launch} : ∀ (h : q_H) (a0 : Nat) (a1 : Int32) (a2 : Int32) (q : q_H × Int32), f_X10_places h a0 a1 a2 = some q → (∃ fs, h.1 a0 = .inr (9, fs)) ∧ q_CT G l yX10_places cX10_places 5 (some .int) 5 118 [.ref a0, .int a1, .int a2] h q.1 (q_i q.2) := by
  intro h a0 a1 a2 q e
  obtain ⟨e1, e2⟩ := q_chk_ok e
  exact ⟨e1, q_ofJ Y_X10_places (Nat.le_of_ble_eq_true rfl) (jb_X10_places_0 h a0 a1 a2) q e2⟩
/-! FarFoldersModel.row(I)J -/
theorem dX10_row_0 : decode cX10_row 0 = .ok (.aload_n 0, 1) := by decide +kernel
theorem dX10_row_1 : decode cX10_row 1 = .ok (.iload_n 1, 1) := by decide +kernel
theorem dX10_row_2 : decode cX10_row 2 = .ok (.i2l, 1) := by decide +kernel
theorem dX10_row_3 : decode cX10_row 3 = .ok (.lconst 0, 1) := by decide +kernel
theorem dX10_row_4 : decode cX10_row 4 = .ok (.aload_n 0, 1) := by decide +kernel
theorem dX10_row_5 : decode cX10_row 5 = .ok (.getfield 11, 3) := by decide +kernel
theorem dX10_row_8 : decode cX10_row 8 = .ok (.iconst 1, 1) := by decide +kernel
theorem dX10_row_9 : decode cX10_row 9 = .ok (.isub, 1) := by decide +kernel
theorem dX10_row_10 : decode cX10_row 10 = .ok (.i2l, 1) := by decide +kernel
theorem dX10_row_11 : decode cX10_row 11 = .ok (.invokestatic 21, 3) := by decide +kernel
theorem dX10_row_14 : decode cX10_row 14 = .ok (.ifCond .ne 7, 3) := by decide +kernel
theorem dX10_row_17 : decode cX10_row 17 = .ok (.iconst 1, 1) := by decide +kernel
theorem dX10_row_18 : decode cX10_row 18 = .ok (.goto 4, 3) := by decide +kernel
theorem dX10_row_21 : decode cX10_row 21 = .ok (.iconst 0, 1) := by decide +kernel
theorem dX10_row_22 : decode cX10_row 22 = .ok (.invokestatic 115, 3) := by decide +kernel
theorem dX10_row_25 : decode cX10_row 25 = .ok (.putfield 1, 3) := by decide +kernel
theorem dX10_row_28 : decode cX10_row 28 = .ok (.aload_n 0, 1) := by decide +kernel
theorem dX10_row_29 : decode cX10_row 29 = .ok (.getfield 1, 3) := by decide +kernel
theorem dX10_row_32 : decode cX10_row 32 = .ok (.iconst 1, 1) := by decide +kernel
theorem dX10_row_33 : decode cX10_row 33 = .ok (.if_icmp .ne 7, 3) := by decide +kernel
theorem dX10_row_36 : decode cX10_row 36 = .ok (.lconst 0, 1) := by decide +kernel
theorem dX10_row_37 : decode cX10_row 37 = .ok (.goto 9, 3) := by decide +kernel
theorem dX10_row_40 : decode cX10_row 40 = .ok (.aload_n 0, 1) := by decide +kernel
theorem dX10_row_41 : decode cX10_row 41 = .ok (.getfield 7, 3) := by decide +kernel
theorem dX10_row_44 : decode cX10_row 44 = .ok (.iload_n 1, 1) := by decide +kernel
theorem dX10_row_45 : decode cX10_row 45 = .ok (.laload, 1) := by decide +kernel
theorem dX10_row_46 : decode cX10_row 46 = .ok (.lreturn, 1) := by decide +kernel
def b_X10_row_22 (h : q_H) (v0 : Nat) (v1 : Int32) (s0 : Nat) (s1 : Int32) : Option (q_H × Int64) :=
  Option.bind (f_X10_flag h s1) (fun q1 => Option.bind (q_p 9 0 q1.1 s0 (.int q1.2)) (fun h2 => Option.bind (q_gI 9 0 h2 v0) (fun x3 => if x3 = (1) then some (h2, (0)) else Option.bind (q_gR 9 2 h2 v0) (fun x4 => Option.bind (q_lL h2 x4 v1) (fun x5 => some (h2, x5))))))
def b_X10_row_0 (h : q_H) (v0 : Nat) (v1 : Int32) : Option (q_H × Int64) :=
  Option.bind (q_gI 9 1 h v0) (fun x6 => Option.bind (f_X10_in h (Int32.toInt64 v1) (0) (Int32.toInt64 (x6 - (1)))) (fun q7 => if q7.2 = 0 then b_X10_row_22 q7.1 v0 v1 v0 (1) else b_X10_row_22 q7.1 v0 v1 v0 (0)))
def f_X10_row (h : q_H) (a0 : Nat) (a1 : Int32) : Option (q_H × Int64) := q_chk 9 h a0 (b_X10_row_0 h a0 a1)
set_option maxRecDepth 20000 in
set_option maxHeartbeats 1000000 in
theorem jb_X10_row_22 {G : q_G} {l : Launch} {k0 z0 : Nat} (h : q_H) (v0 : Nat) (v1 : Int32) (s0 : Nat) (s1 : Int32) : q_J G l (RX10, cX10_row, 2, 1, 25, (some .long), "row", []) k0 z0 (q_Z G k0 z0 q_l) 22 [(0, .ref v0), (1, .int v1)] [.int s1, .ref s0] h (b_X10_row_22 h v0 v1 s0 s1) := by
  unfold b_X10_row_22
  refine j_cSi (pc := 22) Y_X10_flag ml_X10_115 sm_X10_flag ⟨Nat.le_of_ble_eq_true rfl, Nat.le_of_ble_eq_true rfl⟩ dX10_row_22 (As := [.int s1]) (rest := [.ref s0]) rfl rfl (Nat.le_of_ble_eq_true rfl) (fun x hq9 => c_X10_flag _ _ _ hq9) (fun q1 _ => ?_)
  refine j_put (pc := 25) FI_X10 (k := 0) (by decide) fl_X10_1 rfl rfl rfl dX10_row_25 (fun h2 _ => ?_)
  refine j_aload_n (pc := 28) (p := 0) rfl rfl dX10_row_28 ?_
  refine j_getI (pc := 29) FI_X10 (k := 0) (by decide) fl_X10_1 dX10_row_29 (fun x3 _ => ?_)
  refine j_iconst (pc := 32) ki_1 dX10_row_32 ?_
  refine j_ic_ne (pc := 33) (tgt := 40) dX10_row_33 (by decide) (fun _ => ?_) (fun _ => ?_)
  · refine j_lconst (pc := 36) kl_0 dX10_row_36 ?_
    refine j_goto (pc := 37) (tgt := 46) dX10_row_37 (by decide) ?_
    exact j_lret (pc := 46) rfl dX10_row_46
  refine j_aload_n (pc := 40) (p := 0) rfl rfl dX10_row_40 ?_
  refine j_getR (pc := 41) FI_X10 (k := 2) (by decide) fl_X10_7 dX10_row_41 (fun x4 _ => ?_)
  refine j_iload_n (pc := 44) (p := 1) rfl rfl dX10_row_44 ?_
  refine j_lald (pc := 45) dX10_row_45 (fun x5 _ => ?_)
  exact j_lret (pc := 46) rfl dX10_row_46
set_option maxRecDepth 20000 in
set_option maxHeartbeats 1000000 in
theorem jb_X10_row_0 {G : q_G} {l : Launch} {k0 z0 : Nat} (h : q_H) (v0 : Nat) (v1 : Int32) : q_J G l (RX10, cX10_row, 2, 1, 25, (some .long), "row", []) k0 z0 (q_Z G k0 z0 q_l) 0 [(0, .ref v0), (1, .int v1)] [] h (b_X10_row_0 h v0 v1) := by
  unfold b_X10_row_0
  refine j_aload_n (pc := 0) (p := 0) rfl rfl dX10_row_0 ?_
  refine j_iload_n (pc := 1) (p := 1) rfl rfl dX10_row_1 ?_
  refine j_i2l (pc := 2) dX10_row_2 ?_
  refine j_lconst (pc := 3) kl_0 dX10_row_3 ?_
  refine j_aload_n (pc := 4) (p := 0) rfl rfl dX10_row_4 ?_
  refine j_getI (pc := 5) FI_X10 (k := 1) (by decide) fl_X10_11 dX10_row_5 (fun x6 _ => ?_)
  refine j_iconst (pc := 8) ki_1 dX10_row_8 ?_
  refine j_isub (pc := 9) dX10_row_9 ?_
  refine j_i2l (pc := 10) dX10_row_10 ?_
  refine j_cSi (pc := 11) Y_X10_in ml_X10_21 sm_X10_in ⟨Nat.le_of_ble_eq_true rfl, Nat.le_of_ble_eq_true rfl⟩ dX10_row_11 (As := [.long (Int32.toInt64 v1), .long (0), .long (Int32.toInt64 (x6 - (1)))]) (rest := [.ref v0]) rfl rfl (Nat.le_of_ble_eq_true rfl) (fun x hq9 => c_X10_in _ _ _ _ _ hq9) (fun q7 _ => ?_)
  refine j_if_ne (pc := 14) (tgt := 21) dX10_row_14 (by decide) (fun _ => ?_) (fun _ => ?_)
  · refine j_iconst (pc := 17) ki_1 dX10_row_17 ?_
    refine j_goto (pc := 18) (tgt := 22) dX10_row_18 (by decide) ?_
    exact jb_X10_row_22 _ _ _ _ _
  refine j_iconst (pc := 21) ki_0 dX10_row_21 ?_
  exact jb_X10_row_22 _ _ _ _ _
set_option maxRecDepth 20000 in
set_option maxHeartbeats 1000000 in
theorem c_X10_row {G : q_G} {l : Launch} : ∀ (h : q_H) (a0 : Nat) (a1 : Int32) (q : q_H × Int64), f_X10_row h a0 a1 = some q → (∃ fs, h.1 a0 = .inr (9, fs)) ∧ q_CT G l yX10_row cX10_row 2 (some .long) 1 25 [.ref a0, .int a1] h q.1 (q_l q.2) := by
  intro h a0 a1 q e
  obtain ⟨e1, e2⟩ := q_chk_ok e
  exact ⟨e1, q_ofJ Y_X10_row (Nat.le_of_ble_eq_true rfl) (jb_X10_row_0 h a0 a1) q e2⟩
/-! FarFoldersModel.sign(I)I -/
theorem dX10_sign_0 : decode cX10_sign 0 = .ok (.aload_n 0, 1) := by decide +kernel
theorem dX10_sign_1 : decode cX10_sign 1 = .ok (.iconst 0, 1) := by decide +kernel
theorem dX10_sign_2 : decode cX10_sign 2 = .ok (.putfield 1, 3) := by decide +kernel
theorem dX10_sign_5 : decode cX10_sign 5 = .ok (.aload_n 0, 1) := by decide +kernel
theorem dX10_sign_6 : decode cX10_sign 6 = .ok (.getfield 14, 3) := by decide +kernel
theorem dX10_sign_9 : decode cX10_sign 9 = .ok (.bipush 76, 2) := by decide +kernel
theorem dX10_sign_11 : decode cX10_sign 11 = .ok (.if_icmp .le 5, 3) := by decide +kernel
theorem dX10_sign_14 : decode cX10_sign 14 = .ok (.iconst (-1), 1) := by decide +kernel
theorem dX10_sign_15 : decode cX10_sign 15 = .ok (.ireturn, 1) := by decide +kernel
theorem dX10_sign_16 : decode cX10_sign 16 = .ok (.iconst 0, 1) := by decide +kernel
theorem dX10_sign_17 : decode cX10_sign 17 = .ok (.istore_n 2, 1) := by decide +kernel
theorem dX10_sign_18 : decode cX10_sign 18 = .ok (.iload_n 2, 1) := by decide +kernel
theorem dX10_sign_19 : decode cX10_sign 19 = .ok (.iconst 4, 1) := by decide +kernel
theorem dX10_sign_20 : decode cX10_sign 20 = .ok (.if_icmp .ge 33, 3) := by decide +kernel
theorem dX10_sign_23 : decode cX10_sign 23 = .ok (.aload_n 0, 1) := by decide +kernel
theorem dX10_sign_24 : decode cX10_sign 24 = .ok (.getfield 17, 3) := by decide +kernel
theorem dX10_sign_27 : decode cX10_sign 27 = .ok (.aload_n 0, 1) := by decide +kernel
theorem dX10_sign_28 : decode cX10_sign 28 = .ok (.getfield 14, 3) := by decide +kernel
theorem dX10_sign_31 : decode cX10_sign 31 = .ok (.iload_n 2, 1) := by decide +kernel
theorem dX10_sign_32 : decode cX10_sign 32 = .ok (.iadd, 1) := by decide +kernel
theorem dX10_sign_33 : decode cX10_sign 33 = .ok (.iload_n 1, 1) := by decide +kernel
theorem dX10_sign_34 : decode cX10_sign 34 = .ok (.bipush 24, 2) := by decide +kernel
theorem dX10_sign_36 : decode cX10_sign 36 = .ok (.bipush 8, 2) := by decide +kernel
theorem dX10_sign_38 : decode cX10_sign 38 = .ok (.iload_n 2, 1) := by decide +kernel
theorem dX10_sign_39 : decode cX10_sign 39 = .ok (.imul, 1) := by decide +kernel
theorem dX10_sign_40 : decode cX10_sign 40 = .ok (.isub, 1) := by decide +kernel
theorem dX10_sign_41 : decode cX10_sign 41 = .ok (.ishr, 1) := by decide +kernel
theorem dX10_sign_42 : decode cX10_sign 42 = .ok (.sipush 255, 3) := by decide +kernel
theorem dX10_sign_45 : decode cX10_sign 45 = .ok (.iand, 1) := by decide +kernel
theorem dX10_sign_46 : decode cX10_sign 46 = .ok (.iastore, 1) := by decide +kernel
theorem dX10_sign_47 : decode cX10_sign 47 = .ok (.iinc 2 1, 3) := by decide +kernel
theorem dX10_sign_50 : decode cX10_sign 50 = .ok (.goto (-32), 3) := by decide +kernel
theorem dX10_sign_53 : decode cX10_sign 53 = .ok (.aload_n 0, 1) := by decide +kernel
theorem dX10_sign_54 : decode cX10_sign 54 = .ok (.dup, 1) := by decide +kernel
theorem dX10_sign_55 : decode cX10_sign 55 = .ok (.getfield 14, 3) := by decide +kernel
theorem dX10_sign_58 : decode cX10_sign 58 = .ok (.iconst 4, 1) := by decide +kernel
theorem dX10_sign_59 : decode cX10_sign 59 = .ok (.iadd, 1) := by decide +kernel
theorem dX10_sign_60 : decode cX10_sign 60 = .ok (.putfield 14, 3) := by decide +kernel
theorem dX10_sign_63 : decode cX10_sign 63 = .ok (.aload_n 0, 1) := by decide +kernel
theorem dX10_sign_64 : decode cX10_sign 64 = .ok (.getfield 14, 3) := by decide +kernel
theorem dX10_sign_67 : decode cX10_sign 67 = .ok (.ireturn, 1) := by decide +kernel
def b_X10_sign_18 (k18 : q_H → Nat → Int32 → Int32 → Option (q_H × Int32)) (h : q_H) (v0 : Nat) (v1 : Int32) (v2 : Int32) : Option (q_H × Int32) :=
  if (4) ≤ v2 then Option.bind (q_gI 9 4 h v0) (fun x1 => Option.bind (q_p 9 4 h v0 (.int (x1 + (4)))) (fun h2 => Option.bind (q_gI 9 4 h2 v0) (fun x3 => some (h2, x3)))) else Option.bind (q_gR 9 3 h v0) (fun x4 => Option.bind (q_gI 9 4 h v0) (fun x5 => Option.bind (q_sI 0 id h x4 (x5 + v2) ((v1 >>> (((24) - ((8) * v2)) &&& 31)) &&& (255))) (fun h6 => k18 h6 v0 v1 (v2 + 1))))
def l_X10_sign_18 : Nat → q_H → Nat → Int32 → Int32 → Option (q_H × Int32)
  | 0, _, _, _, _ => none
  | n + 1, h, v0, v1, v2 => b_X10_sign_18 (l_X10_sign_18 n) h v0 v1 v2
def b_X10_sign_0 (h : q_H) (v0 : Nat) (v1 : Int32) : Option (q_H × Int32) :=
  Option.bind (q_p 9 0 h v0 (.int (0))) (fun h7 => Option.bind (q_gI 9 4 h7 v0) (fun x8 => if x8 ≤ (76) then l_X10_sign_18 q_FU h7 v0 v1 (0) else some (h7, (-1))))
def f_X10_sign (h : q_H) (a0 : Nat) (a1 : Int32) : Option (q_H × Int32) := q_chk 9 h a0 (b_X10_sign_0 h a0 a1)
set_option maxRecDepth 20000 in
set_option maxHeartbeats 1000000 in
theorem jb_X10_sign_18 {G : q_G} {l : Launch} {k0 z0 : Nat} (k18 : q_H → Nat → Int32 → Int32 → Option (q_H × Int32)) (hk18 : ∀ (h : q_H) (v0 : Nat) (v1 : Int32) (v2 : Int32), q_J G l (RX10, cX10_sign, 3, 0, 0, (some .int), "sign", []) k0 z0 (q_Z G k0 z0 q_i) 18 [(0, .ref v0), (1, .int v1), (2, .int v2)] [] h (k18 h v0 v1 v2)) (h : q_H) (v0 : Nat) (v1 : Int32) (v2 : Int32) : q_J G l (RX10, cX10_sign, 3, 0, 0, (some .int), "sign", []) k0 z0 (q_Z G k0 z0 q_i) 18 [(0, .ref v0), (1, .int v1), (2, .int v2)] [] h (b_X10_sign_18 k18 h v0 v1 v2) := by
  unfold b_X10_sign_18
  refine j_iload_n (pc := 18) (p := 2) rfl rfl dX10_sign_18 ?_
  refine j_iconst (pc := 19) ki_4 dX10_sign_19 ?_
  refine j_ic_ge (pc := 20) (tgt := 53) dX10_sign_20 (by decide) (fun _ => ?_) (fun _ => ?_)
  · refine j_aload_n (pc := 53) (p := 0) rfl rfl dX10_sign_53 ?_
    refine j_dup (pc := 54) rfl dX10_sign_54 ?_
    refine j_getI (pc := 55) FI_X10 (k := 4) (by decide) fl_X10_14 dX10_sign_55 (fun x1 _ => ?_)
    refine j_iconst (pc := 58) ki_4 dX10_sign_58 ?_
    refine j_iadd (pc := 59) dX10_sign_59 ?_
    refine j_put (pc := 60) FI_X10 (k := 4) (by decide) fl_X10_14 rfl rfl rfl dX10_sign_60 (fun h2 _ => ?_)
    refine j_aload_n (pc := 63) (p := 0) rfl rfl dX10_sign_63 ?_
    refine j_getI (pc := 64) FI_X10 (k := 4) (by decide) fl_X10_14 dX10_sign_64 (fun x3 _ => ?_)
    exact j_iret (pc := 67) rfl dX10_sign_67
  refine j_aload_n (pc := 23) (p := 0) rfl rfl dX10_sign_23 ?_
  refine j_getR (pc := 24) FI_X10 (k := 3) (by decide) fl_X10_17 dX10_sign_24 (fun x4 _ => ?_)
  refine j_aload_n (pc := 27) (p := 0) rfl rfl dX10_sign_27 ?_
  refine j_getI (pc := 28) FI_X10 (k := 4) (by decide) fl_X10_14 dX10_sign_28 (fun x5 _ => ?_)
  refine j_iload_n (pc := 31) (p := 2) rfl rfl dX10_sign_31 ?_
  refine j_iadd (pc := 32) dX10_sign_32 ?_
  refine j_iload_n (pc := 33) (p := 1) rfl rfl dX10_sign_33 ?_
  refine j_bipush (pc := 34) kb_24 dX10_sign_34 ?_
  refine j_bipush (pc := 36) kb_8 dX10_sign_36 ?_
  refine j_iload_n (pc := 38) (p := 2) rfl rfl dX10_sign_38 ?_
  refine j_imul (pc := 39) dX10_sign_39 ?_
  refine j_isub (pc := 40) dX10_sign_40 ?_
  refine j_ishr (pc := 41) dX10_sign_41 ?_
  refine j_sipush (pc := 42) ks_255 dX10_sign_42 ?_
  refine j_iand (pc := 45) dX10_sign_45 ?_
  refine j_iast (pc := 46) dX10_sign_46 (fun h6 _ => ?_)
  refine j_inc (pc := 47) (p := 2) (lv' := [(2, .int (v2 + 1)), (0, .ref v0), (1, .int v1)]) rfl ki_1 (by decide) rfl dX10_sign_47 ?_
  refine j_goto (pc := 50) (tgt := 18) dX10_sign_50 (by decide) ?_
  refine j_sub [1, 2, 0] (lv' := [(0, .ref v0), (1, .int v1), (2, .int (v2 + 1))]) rfl ?_
  exact hk18 _ _ _ _
set_option maxRecDepth 20000 in
set_option maxHeartbeats 1000000 in
theorem jl_X10_sign_18 {G : q_G} {l : Launch} {k0 z0 : Nat} (n : Nat) : ∀ (h : q_H) (v0 : Nat) (v1 : Int32) (v2 : Int32), q_J G l (RX10, cX10_sign, 3, 0, 0, (some .int), "sign", []) k0 z0 (q_Z G k0 z0 q_i) 18 [(0, .ref v0), (1, .int v1), (2, .int v2)] [] h (l_X10_sign_18 n h v0 v1 v2) := by
  induction n with
  | zero => intro h v0 v1 v2; exact j_none
  | succ n ih => intro h v0 v1 v2; exact jb_X10_sign_18 (l_X10_sign_18 n) ih h v0 v1 v2
set_option maxRecDepth 20000 in
set_option maxHeartbeats 1000000 in
theorem jb_X10_sign_0 {G : q_G} {l : Launch} {k0 z0 : Nat} (h : q_H) (v0 : Nat) (v1 : Int32) : q_J G l (RX10, cX10_sign, 3, 0, 0, (some .int), "sign", []) k0 z0 (q_Z G k0 z0 q_i) 0 [(0, .ref v0), (1, .int v1)] [] h (b_X10_sign_0 h v0 v1) := by
  unfold b_X10_sign_0
  refine j_aload_n (pc := 0) (p := 0) rfl rfl dX10_sign_0 ?_
  refine j_iconst (pc := 1) ki_0 dX10_sign_1 ?_
  refine j_put (pc := 2) FI_X10 (k := 0) (by decide) fl_X10_1 rfl rfl rfl dX10_sign_2 (fun h7 _ => ?_)
  refine j_aload_n (pc := 5) (p := 0) rfl rfl dX10_sign_5 ?_
  refine j_getI (pc := 6) FI_X10 (k := 4) (by decide) fl_X10_14 dX10_sign_6 (fun x8 _ => ?_)
  refine j_bipush (pc := 9) kb_76 dX10_sign_9 ?_
  refine j_ic_le (pc := 11) (tgt := 16) dX10_sign_11 (by decide) (fun _ => ?_) (fun _ => ?_)
  · refine j_iconst (pc := 16) ki_0 dX10_sign_16 ?_
    refine j_istore_n (pc := 17) (lv' := [(2, .int (0)), (0, .ref v0), (1, .int v1)]) rfl (by decide) rfl dX10_sign_17 ?_
    refine j_sub [1, 2, 0] (lv' := [(0, .ref v0), (1, .int v1), (2, .int (0))]) rfl ?_
    exact jl_X10_sign_18 q_FU _ _ _ _
  refine j_iconst (pc := 14) ki_m1 dX10_sign_14 ?_
  exact j_iret (pc := 15) rfl dX10_sign_15
set_option maxRecDepth 20000 in
set_option maxHeartbeats 1000000 in
theorem c_X10_sign {G : q_G} {l : Launch} : ∀ (h : q_H) (a0 : Nat) (a1 : Int32) (q : q_H × Int32), f_X10_sign h a0 a1 = some q → (∃ fs, h.1 a0 = .inr (9, fs)) ∧ q_CT G l yX10_sign cX10_sign 3 (some .int) 0 0 [.ref a0, .int a1] h q.1 (q_i q.2) := by
  intro h a0 a1 q e
  obtain ⟨e1, e2⟩ := q_chk_ok e
  exact ⟨e1, q_ofJ Y_X10_sign (Nat.le_of_ble_eq_true rfl) (jb_X10_sign_0 h a0 a1) q e2⟩
/-! FarFoldersModel.stable(I)I -/
theorem dX10_stable_0 : decode cX10_stable 0 = .ok (.aload_n 0, 1) := by decide +kernel
theorem dX10_stable_1 : decode cX10_stable 1 = .ok (.iconst 0, 1) := by decide +kernel
theorem dX10_stable_2 : decode cX10_stable 2 = .ok (.putfield 1, 3) := by decide +kernel
theorem dX10_stable_5 : decode cX10_stable 5 = .ok (.iload_n 1, 1) := by decide +kernel
theorem dX10_stable_6 : decode cX10_stable 6 = .ok (.invokestatic 101, 3) := by decide +kernel
theorem dX10_stable_9 : decode cX10_stable 9 = .ok (.ifCond .ne 5, 3) := by decide +kernel
theorem dX10_stable_12 : decode cX10_stable 12 = .ok (.iconst (-1), 1) := by decide +kernel
theorem dX10_stable_13 : decode cX10_stable 13 = .ok (.ireturn, 1) := by decide +kernel
theorem dX10_stable_14 : decode cX10_stable 14 = .ok (.aload_n 0, 1) := by decide +kernel
theorem dX10_stable_15 : decode cX10_stable 15 = .ok (.iconst 0, 1) := by decide +kernel
theorem dX10_stable_16 : decode cX10_stable 16 = .ok (.putfield 11, 3) := by decide +kernel
theorem dX10_stable_19 : decode cX10_stable 19 = .ok (.aload_n 0, 1) := by decide +kernel
theorem dX10_stable_20 : decode cX10_stable 20 = .ok (.aload_n 0, 1) := by decide +kernel
theorem dX10_stable_21 : decode cX10_stable 21 = .ok (.getfield 47, 3) := by decide +kernel
theorem dX10_stable_24 : decode cX10_stable 24 = .ok (.iload_n 1, 1) := by decide +kernel
theorem dX10_stable_25 : decode cX10_stable 25 = .ok (.iaload, 1) := by decide +kernel
theorem dX10_stable_26 : decode cX10_stable 26 = .ok (.i2l, 1) := by decide +kernel
theorem dX10_stable_27 : decode cX10_stable 27 = .ok (.invokevirtual 202, 3) := by decide +kernel
theorem dX10_stable_30 : decode cX10_stable 30 = .ok (.aload_n 0, 1) := by decide +kernel
theorem dX10_stable_31 : decode cX10_stable 31 = .ok (.aload_n 0, 1) := by decide +kernel
theorem dX10_stable_32 : decode cX10_stable 32 = .ok (.iload_n 1, 1) := by decide +kernel
theorem dX10_stable_33 : decode cX10_stable 33 = .ok (.invokevirtual 257, 3) := by decide +kernel
theorem dX10_stable_36 : decode cX10_stable 36 = .ok (.i2l, 1) := by decide +kernel
theorem dX10_stable_37 : decode cX10_stable 37 = .ok (.invokevirtual 202, 3) := by decide +kernel
theorem dX10_stable_40 : decode cX10_stable 40 = .ok (.aload_n 0, 1) := by decide +kernel
theorem dX10_stable_41 : decode cX10_stable 41 = .ok (.iload_n 1, 1) := by decide +kernel
theorem dX10_stable_42 : decode cX10_stable 42 = .ok (.invokevirtual 254, 3) := by decide +kernel
theorem dX10_stable_45 : decode cX10_stable 45 = .ok (.ireturn, 1) := by decide +kernel
def b_X10_stable_0 (h : q_H) (v0 : Nat) (v1 : Int32) : Option (q_H × Int32) :=
  Option.bind (q_p 9 0 h v0 (.int (0))) (fun h1 => Option.bind (f_X10_isCopy h1 v1) (fun q2 => if q2.2 = 0 then some (q2.1, (-1)) else Option.bind (q_p 9 1 q2.1 v0 (.int (0))) (fun h3 => Option.bind (q_gR 9 7 h3 v0) (fun x4 => Option.bind (q_lI 0 h3 x4 v1) (fun x5 => Option.bind (f_X10_enters h3 v0 (Int32.toInt64 x5)) (fun q6 => Option.bind (f_X10_cutMany q6.1 v0 v1) (fun q7 => Option.bind (f_X10_enters q7.1 v0 (Int32.toInt64 q7.2)) (fun q8 => Option.bind (f_X10_stableOf q8.1 v0 v1) (fun q9 => some (q9.1, q9.2))))))))))
def f_X10_stable (h : q_H) (a0 : Nat) (a1 : Int32) : Option (q_H × Int32) := q_chk 9 h a0 (b_X10_stable_0 h a0 a1)
set_option maxRecDepth 20000 in
set_option maxHeartbeats 1000000 in
theorem jb_X10_stable_0 {G : q_G} {l : Launch} {k0 z0 : Nat} (h : q_H) (v0 : Nat) (v1 : Int32) : q_J G l (RX10, cX10_stable, 2, 3, 105, (some .int), "stable", []) k0 z0 (q_Z G k0 z0 q_i) 0 [(0, .ref v0), (1, .int v1)] [] h (b_X10_stable_0 h v0 v1) := by
  unfold b_X10_stable_0
  refine j_aload_n (pc := 0) (p := 0) rfl rfl dX10_stable_0 ?_
  refine j_iconst (pc := 1) ki_0 dX10_stable_1 ?_
  refine j_put (pc := 2) FI_X10 (k := 0) (by decide) fl_X10_1 rfl rfl rfl dX10_stable_2 (fun h1 _ => ?_)
  refine j_iload_n (pc := 5) (p := 1) rfl rfl dX10_stable_5 ?_
  refine j_cSi (pc := 6) Y_X10_isCopy ml_X10_101 sm_X10_isCopy ⟨Nat.le_of_ble_eq_true rfl, Nat.le_of_ble_eq_true rfl⟩ dX10_stable_6 (As := [.int v1]) (rest := []) rfl rfl (Nat.le_of_ble_eq_true rfl) (fun x hq9 => c_X10_isCopy _ _ _ hq9) (fun q2 _ => ?_)
  refine j_if_ne (pc := 9) (tgt := 14) dX10_stable_9 (by decide) (fun _ => ?_) (fun _ => ?_)
  · refine j_iconst (pc := 12) ki_m1 dX10_stable_12 ?_
    exact j_iret (pc := 13) rfl dX10_stable_13
  refine j_aload_n (pc := 14) (p := 0) rfl rfl dX10_stable_14 ?_
  refine j_iconst (pc := 15) ki_0 dX10_stable_15 ?_
  refine j_put (pc := 16) FI_X10 (k := 1) (by decide) fl_X10_11 rfl rfl rfl dX10_stable_16 (fun h3 _ => ?_)
  refine j_aload_n (pc := 19) (p := 0) rfl rfl dX10_stable_19 ?_
  refine j_aload_n (pc := 20) (p := 0) rfl rfl dX10_stable_20 ?_
  refine j_getR (pc := 21) FI_X10 (k := 7) (by decide) fl_X10_47 dX10_stable_21 (fun x4 _ => ?_)
  refine j_iload_n (pc := 24) (p := 1) rfl rfl dX10_stable_24 ?_
  refine j_iald (pc := 25) dX10_stable_25 (fun x5 _ => ?_)
  refine j_i2l (pc := 26) dX10_stable_26 ?_
  refine j_cVu (pc := 27) Y_X10_enters (ci := 9) (b := v0) rfl rfl ml_X10_202 im_X10_enters se_X10_enters ⟨Nat.le_of_ble_eq_true rfl, Nat.le_of_ble_eq_true rfl⟩ dX10_stable_27 (As := [.long (Int32.toInt64 x5)]) (rest := []) rfl rfl (Nat.le_of_ble_eq_true rfl) (fun x hq9 => c_X10_enters _ _ _ _ hq9) (fun q6 _ => ?_)
  refine j_aload_n (pc := 30) (p := 0) rfl rfl dX10_stable_30 ?_
  refine j_aload_n (pc := 31) (p := 0) rfl rfl dX10_stable_31 ?_
  refine j_iload_n (pc := 32) (p := 1) rfl rfl dX10_stable_32 ?_
  refine j_cVi (pc := 33) Y_X10_cutMany (ci := 9) (b := v0) rfl rfl ml_X10_257 im_X10_cutMany se_X10_cutMany ⟨Nat.le_of_ble_eq_true rfl, Nat.le_of_ble_eq_true rfl⟩ dX10_stable_33 (As := [.int v1]) (rest := [.ref v0]) rfl rfl (Nat.le_of_ble_eq_true rfl) (fun x hq9 => c_X10_cutMany _ _ _ _ hq9) (fun q7 _ => ?_)
  refine j_i2l (pc := 36) dX10_stable_36 ?_
  refine j_cVu (pc := 37) Y_X10_enters (ci := 9) (b := v0) rfl rfl ml_X10_202 im_X10_enters se_X10_enters ⟨Nat.le_of_ble_eq_true rfl, Nat.le_of_ble_eq_true rfl⟩ dX10_stable_37 (As := [.long (Int32.toInt64 q7.2)]) (rest := []) rfl rfl (Nat.le_of_ble_eq_true rfl) (fun x hq9 => c_X10_enters _ _ _ _ hq9) (fun q8 _ => ?_)
  refine j_aload_n (pc := 40) (p := 0) rfl rfl dX10_stable_40 ?_
  refine j_iload_n (pc := 41) (p := 1) rfl rfl dX10_stable_41 ?_
  refine j_cVi (pc := 42) Y_X10_stableOf (ci := 9) (b := v0) rfl rfl ml_X10_254 im_X10_stableOf se_X10_stableOf ⟨Nat.le_of_ble_eq_true rfl, Nat.le_of_ble_eq_true rfl⟩ dX10_stable_42 (As := [.int v1]) (rest := []) rfl rfl (Nat.le_of_ble_eq_true rfl) (fun x hq9 => c_X10_stableOf _ _ _ _ hq9) (fun q9 _ => ?_)
  exact j_iret (pc := 45) rfl dX10_stable_45
set_option maxRecDepth 20000 in
set_option maxHeartbeats 1000000 in
theorem c_X10_stable {G : q_G} {l : Launch} : ∀ (h : q_H) (a0 : Nat) (a1 : Int32) (q : q_H × Int32), f_X10_stable h a0 a1 = some q → (∃ fs, h.1 a0 = .inr (9, fs)) ∧ q_CT G l yX10_stable cX10_stable 2 (some .int) 3 105 [.ref a0, .int a1] h q.1 (q_i q.2) := by
  intro h a0 a1 q e
  obtain ⟨e1, e2⟩ := q_chk_ok e
  exact ⟨e1, q_ofJ Y_X10_stable (Nat.le_of_ble_eq_true rfl) (jb_X10_stable_0 h a0 a1) q e2⟩
/-! FarFoldersModel.then(I)I -/
theorem dX10_then_0 : decode cX10_then 0 = .ok (.aload_n 0, 1) := by decide +kernel
theorem dX10_then_1 : decode cX10_then 1 = .ok (.iconst 0, 1) := by decide +kernel
theorem dX10_then_2 : decode cX10_then 2 = .ok (.putfield 1, 3) := by decide +kernel
theorem dX10_then_5 : decode cX10_then 5 = .ok (.iload_n 1, 1) := by decide +kernel
theorem dX10_then_6 : decode cX10_then 6 = .ok (.invokestatic 101, 3) := by decide +kernel
theorem dX10_then_9 : decode cX10_then 9 = .ok (.ifCond .ne 5, 3) := by decide +kernel
theorem dX10_then_12 : decode cX10_then 12 = .ok (.iconst (-1), 1) := by decide +kernel
theorem dX10_then_13 : decode cX10_then 13 = .ok (.ireturn, 1) := by decide +kernel
theorem dX10_then_14 : decode cX10_then 14 = .ok (.aload_n 0, 1) := by decide +kernel
theorem dX10_then_15 : decode cX10_then 15 = .ok (.iload_n 1, 1) := by decide +kernel
theorem dX10_then_16 : decode cX10_then 16 = .ok (.invokevirtual 144, 3) := by decide +kernel
theorem dX10_then_19 : decode cX10_then 19 = .ok (.aload_n 0, 1) := by decide +kernel
theorem dX10_then_20 : decode cX10_then 20 = .ok (.iload_n 1, 1) := by decide +kernel
theorem dX10_then_21 : decode cX10_then 21 = .ok (.invokevirtual 244, 3) := by decide +kernel
theorem dX10_then_24 : decode cX10_then 24 = .ok (.aload_n 0, 1) := by decide +kernel
theorem dX10_then_25 : decode cX10_then 25 = .ok (.iconst 0, 1) := by decide +kernel
theorem dX10_then_26 : decode cX10_then 26 = .ok (.iload_n 1, 1) := by decide +kernel
theorem dX10_then_27 : decode cX10_then 27 = .ok (.iconst (-1), 1) := by decide +kernel
theorem dX10_then_28 : decode cX10_then 28 = .ok (.invokevirtual 148, 3) := by decide +kernel
theorem dX10_then_31 : decode cX10_then 31 = .ok (.aload_n 0, 1) := by decide +kernel
theorem dX10_then_32 : decode cX10_then 32 = .ok (.iconst 0, 1) := by decide +kernel
theorem dX10_then_33 : decode cX10_then 33 = .ok (.putfield 11, 3) := by decide +kernel
theorem dX10_then_36 : decode cX10_then 36 = .ok (.iconst 2, 1) := by decide +kernel
theorem dX10_then_37 : decode cX10_then 37 = .ok (.istore_n 2, 1) := by decide +kernel
theorem dX10_then_38 : decode cX10_then 38 = .ok (.iload_n 2, 1) := by decide +kernel
theorem dX10_then_39 : decode cX10_then 39 = .ok (.bipush 14, 2) := by decide +kernel
theorem dX10_then_41 : decode cX10_then 41 = .ok (.if_icmp .ge 21, 3) := by decide +kernel
theorem dX10_then_44 : decode cX10_then 44 = .ok (.aload_n 0, 1) := by decide +kernel
theorem dX10_then_45 : decode cX10_then 45 = .ok (.aload_n 0, 1) := by decide +kernel
theorem dX10_then_46 : decode cX10_then 46 = .ok (.iconst 0, 1) := by decide +kernel
theorem dX10_then_47 : decode cX10_then 47 = .ok (.iload_n 2, 1) := by decide +kernel
theorem dX10_then_48 : decode cX10_then 48 = .ok (.iconst 0, 1) := by decide +kernel
theorem dX10_then_49 : decode cX10_then 49 = .ok (.invokevirtual 129, 3) := by decide +kernel
theorem dX10_then_52 : decode cX10_then 52 = .ok (.i2l, 1) := by decide +kernel
theorem dX10_then_53 : decode cX10_then 53 = .ok (.invokevirtual 202, 3) := by decide +kernel
theorem dX10_then_56 : decode cX10_then 56 = .ok (.iinc 2 1, 3) := by decide +kernel
theorem dX10_then_59 : decode cX10_then 59 = .ok (.goto (-21), 3) := by decide +kernel
theorem dX10_then_62 : decode cX10_then 62 = .ok (.aload_n 0, 1) := by decide +kernel
theorem dX10_then_63 : decode cX10_then 63 = .ok (.iconst 0, 1) := by decide +kernel
theorem dX10_then_64 : decode cX10_then 64 = .ok (.invokevirtual 333, 3) := by decide +kernel
theorem dX10_then_67 : decode cX10_then 67 = .ok (.invokestatic 155, 3) := by decide +kernel
theorem dX10_then_70 : decode cX10_then 70 = .ok (.ireturn, 1) := by decide +kernel
def b_X10_then_38 (k38 : q_H → Nat → Int32 → Option (q_H × Int32)) (h : q_H) (v0 : Nat) (v2 : Int32) : Option (q_H × Int32) :=
  if (14) ≤ v2 then Option.bind (f_X10_folders h v0 (0)) (fun q1 => Option.bind (f_X10_bitsOf q1.1 q1.2) (fun q2 => some (q2.1, q2.2))) else Option.bind (f_X10_its h v0 (0) v2 (0)) (fun q3 => Option.bind (f_X10_enters q3.1 v0 (Int32.toInt64 q3.2)) (fun q4 => k38 q4.1 v0 (v2 + 1)))
def l_X10_then_38 : Nat → q_H → Nat → Int32 → Option (q_H × Int32)
  | 0, _, _, _ => none
  | n + 1, h, v0, v2 => b_X10_then_38 (l_X10_then_38 n) h v0 v2
def b_X10_then_0 (h : q_H) (v0 : Nat) (v1 : Int32) : Option (q_H × Int32) :=
  Option.bind (q_p 9 0 h v0 (.int (0))) (fun h5 => Option.bind (f_X10_isCopy h5 v1) (fun q6 => if q6.2 = 0 then some (q6.1, (-1)) else Option.bind (f_X10_loads q6.1 v0 v1) (fun q7 => Option.bind (f_X10_putsWaiting q7.1 v0 v1) (fun q8 => Option.bind (f_X10_grows q8.1 v0 (0) v1 (-1)) (fun q9 => Option.bind (q_p 9 1 q9.1 v0 (.int (0))) (fun h10 => l_X10_then_38 q_FU h10 v0 (2)))))))
def f_X10_then (h : q_H) (a0 : Nat) (a1 : Int32) : Option (q_H × Int32) := q_chk 9 h a0 (b_X10_then_0 h a0 a1)
set_option maxRecDepth 20000 in
set_option maxHeartbeats 1000000 in
theorem jb_X10_then_38 {G : q_G} {l : Launch} {k0 z0 : Nat} (k38 : q_H → Nat → Int32 → Option (q_H × Int32)) (hk38 : ∀ (h : q_H) (v0 : Nat) (v2 : Int32), q_J G l (RX10, cX10_then, 3, 5, 119, (some .int), "then", []) k0 z0 (q_Z G k0 z0 q_i) 38 [(0, .ref v0), (2, .int v2)] [] h (k38 h v0 v2)) (h : q_H) (v0 : Nat) (v2 : Int32) : q_J G l (RX10, cX10_then, 3, 5, 119, (some .int), "then", []) k0 z0 (q_Z G k0 z0 q_i) 38 [(0, .ref v0), (2, .int v2)] [] h (b_X10_then_38 k38 h v0 v2) := by
  unfold b_X10_then_38
  refine j_iload_n (pc := 38) (p := 1) rfl rfl dX10_then_38 ?_
  refine j_bipush (pc := 39) kb_14 dX10_then_39 ?_
  refine j_ic_ge (pc := 41) (tgt := 62) dX10_then_41 (by decide) (fun _ => ?_) (fun _ => ?_)
  · refine j_aload_n (pc := 62) (p := 0) rfl rfl dX10_then_62 ?_
    refine j_iconst (pc := 63) ki_0 dX10_then_63 ?_
    refine j_cVi (pc := 64) Y_X10_folders (ci := 9) (b := v0) rfl rfl ml_X10_333 im_X10_folders se_X10_folders ⟨Nat.le_of_ble_eq_true rfl, Nat.le_of_ble_eq_true rfl⟩ dX10_then_64 (As := [.int (0)]) (rest := []) rfl rfl (Nat.le_of_ble_eq_true rfl) (fun x hq9 => c_X10_folders _ _ _ _ hq9) (fun q1 _ => ?_)
    refine j_cSi (pc := 67) Y_X10_bitsOf ml_X10_155 sm_X10_bitsOf ⟨Nat.le_of_ble_eq_true rfl, Nat.le_of_ble_eq_true rfl⟩ dX10_then_67 (As := [.int q1.2]) (rest := []) rfl rfl (Nat.le_of_ble_eq_true rfl) (fun x hq9 => c_X10_bitsOf _ _ _ hq9) (fun q2 _ => ?_)
    exact j_iret (pc := 70) rfl dX10_then_70
  refine j_aload_n (pc := 44) (p := 0) rfl rfl dX10_then_44 ?_
  refine j_aload_n (pc := 45) (p := 0) rfl rfl dX10_then_45 ?_
  refine j_iconst (pc := 46) ki_0 dX10_then_46 ?_
  refine j_iload_n (pc := 47) (p := 1) rfl rfl dX10_then_47 ?_
  refine j_iconst (pc := 48) ki_0 dX10_then_48 ?_
  refine j_cVi (pc := 49) Y_X10_its (ci := 9) (b := v0) rfl rfl ml_X10_129 im_X10_its se_X10_its ⟨Nat.le_of_ble_eq_true rfl, Nat.le_of_ble_eq_true rfl⟩ dX10_then_49 (As := [.int (0), .int v2, .int (0)]) (rest := [.ref v0]) rfl rfl (Nat.le_of_ble_eq_true rfl) (fun x hq9 => c_X10_its _ _ _ _ _ _ hq9) (fun q3 _ => ?_)
  refine j_i2l (pc := 52) dX10_then_52 ?_
  refine j_cVu (pc := 53) Y_X10_enters (ci := 9) (b := v0) rfl rfl ml_X10_202 im_X10_enters se_X10_enters ⟨Nat.le_of_ble_eq_true rfl, Nat.le_of_ble_eq_true rfl⟩ dX10_then_53 (As := [.long (Int32.toInt64 q3.2)]) (rest := []) rfl rfl (Nat.le_of_ble_eq_true rfl) (fun x hq9 => c_X10_enters _ _ _ _ hq9) (fun q4 _ => ?_)
  refine j_inc (pc := 56) (p := 1) (lv' := [(2, .int (v2 + 1)), (0, .ref v0)]) rfl ki_1 (by decide) rfl dX10_then_56 ?_
  refine j_goto (pc := 59) (tgt := 38) dX10_then_59 (by decide) ?_
  refine j_sub [1, 0] (lv' := [(0, .ref v0), (2, .int (v2 + 1))]) rfl ?_
  exact hk38 _ _ _
set_option maxRecDepth 20000 in
set_option maxHeartbeats 1000000 in
theorem jl_X10_then_38 {G : q_G} {l : Launch} {k0 z0 : Nat} (n : Nat) : ∀ (h : q_H) (v0 : Nat) (v2 : Int32), q_J G l (RX10, cX10_then, 3, 5, 119, (some .int), "then", []) k0 z0 (q_Z G k0 z0 q_i) 38 [(0, .ref v0), (2, .int v2)] [] h (l_X10_then_38 n h v0 v2) := by
  induction n with
  | zero => intro h v0 v2; exact j_none
  | succ n ih => intro h v0 v2; exact jb_X10_then_38 (l_X10_then_38 n) ih h v0 v2
set_option maxRecDepth 20000 in
set_option maxHeartbeats 1000000 in
theorem jb_X10_then_0 {G : q_G} {l : Launch} {k0 z0 : Nat} (h : q_H) (v0 : Nat) (v1 : Int32) : q_J G l (RX10, cX10_then, 3, 5, 119, (some .int), "then", []) k0 z0 (q_Z G k0 z0 q_i) 0 [(0, .ref v0), (1, .int v1)] [] h (b_X10_then_0 h v0 v1) := by
  unfold b_X10_then_0
  refine j_aload_n (pc := 0) (p := 0) rfl rfl dX10_then_0 ?_
  refine j_iconst (pc := 1) ki_0 dX10_then_1 ?_
  refine j_put (pc := 2) FI_X10 (k := 0) (by decide) fl_X10_1 rfl rfl rfl dX10_then_2 (fun h5 _ => ?_)
  refine j_iload_n (pc := 5) (p := 1) rfl rfl dX10_then_5 ?_
  refine j_cSi (pc := 6) Y_X10_isCopy ml_X10_101 sm_X10_isCopy ⟨Nat.le_of_ble_eq_true rfl, Nat.le_of_ble_eq_true rfl⟩ dX10_then_6 (As := [.int v1]) (rest := []) rfl rfl (Nat.le_of_ble_eq_true rfl) (fun x hq9 => c_X10_isCopy _ _ _ hq9) (fun q6 _ => ?_)
  refine j_if_ne (pc := 9) (tgt := 14) dX10_then_9 (by decide) (fun _ => ?_) (fun _ => ?_)
  · refine j_iconst (pc := 12) ki_m1 dX10_then_12 ?_
    exact j_iret (pc := 13) rfl dX10_then_13
  refine j_aload_n (pc := 14) (p := 0) rfl rfl dX10_then_14 ?_
  refine j_iload_n (pc := 15) (p := 1) rfl rfl dX10_then_15 ?_
  refine j_cVu (pc := 16) Y_X10_loads (ci := 9) (b := v0) rfl rfl ml_X10_144 im_X10_loads se_X10_loads ⟨Nat.le_of_ble_eq_true rfl, Nat.le_of_ble_eq_true rfl⟩ dX10_then_16 (As := [.int v1]) (rest := []) rfl rfl (Nat.le_of_ble_eq_true rfl) (fun x hq9 => c_X10_loads _ _ _ _ hq9) (fun q7 _ => ?_)
  refine j_aload_n (pc := 19) (p := 0) rfl rfl dX10_then_19 ?_
  refine j_iload_n (pc := 20) (p := 1) rfl rfl dX10_then_20 ?_
  refine j_cVu (pc := 21) Y_X10_putsWaiting (ci := 9) (b := v0) rfl rfl ml_X10_244 im_X10_putsWaiting se_X10_putsWaiting ⟨Nat.le_of_ble_eq_true rfl, Nat.le_of_ble_eq_true rfl⟩ dX10_then_21 (As := [.int v1]) (rest := []) rfl rfl (Nat.le_of_ble_eq_true rfl) (fun x hq9 => c_X10_putsWaiting _ _ _ _ hq9) (fun q8 _ => ?_)
  refine j_aload_n (pc := 24) (p := 0) rfl rfl dX10_then_24 ?_
  refine j_iconst (pc := 25) ki_0 dX10_then_25 ?_
  refine j_iload_n (pc := 26) (p := 1) rfl rfl dX10_then_26 ?_
  refine j_iconst (pc := 27) ki_m1 dX10_then_27 ?_
  refine j_cVu (pc := 28) Y_X10_grows (ci := 9) (b := v0) rfl rfl ml_X10_148 im_X10_grows se_X10_grows ⟨Nat.le_of_ble_eq_true rfl, Nat.le_of_ble_eq_true rfl⟩ dX10_then_28 (As := [.int (0), .int v1, .int (-1)]) (rest := []) rfl rfl (Nat.le_of_ble_eq_true rfl) (fun x hq9 => c_X10_grows _ _ _ _ _ _ hq9) (fun q9 _ => ?_)
  refine j_aload_n (pc := 31) (p := 0) rfl rfl dX10_then_31 ?_
  refine j_iconst (pc := 32) ki_0 dX10_then_32 ?_
  refine j_put (pc := 33) FI_X10 (k := 1) (by decide) fl_X10_11 rfl rfl rfl dX10_then_33 (fun h10 _ => ?_)
  refine j_iconst (pc := 36) ki_2 dX10_then_36 ?_
  refine j_istore_n (pc := 37) (lv' := [(2, .int (2)), (0, .ref v0), (1, .int v1)]) rfl (by decide) rfl dX10_then_37 ?_
  refine j_sub [1, 0] (lv' := [(0, .ref v0), (2, .int (2))]) rfl ?_
  exact jl_X10_then_38 q_FU _ _ _
set_option maxRecDepth 20000 in
set_option maxHeartbeats 1000000 in
theorem c_X10_then {G : q_G} {l : Launch} : ∀ (h : q_H) (a0 : Nat) (a1 : Int32) (q : q_H × Int32), f_X10_then h a0 a1 = some q → (∃ fs, h.1 a0 = .inr (9, fs)) ∧ q_CT G l yX10_then cX10_then 3 (some .int) 5 119 [.ref a0, .int a1] h q.1 (q_i q.2) := by
  intro h a0 a1 q e
  obtain ⟨e1, e2⟩ := q_chk_ok e
  exact ⟨e1, q_ofJ Y_X10_then (Nat.le_of_ble_eq_true rfl) (jb_X10_then_0 h a0 a1) q e2⟩
/-! FarFoldersModel.thrown()I -/
theorem dX10_thrown_0 : decode cX10_thrown 0 = .ok (.aload_n 0, 1) := by decide +kernel
theorem dX10_thrown_1 : decode cX10_thrown 1 = .ok (.getfield 1, 3) := by decide +kernel
theorem dX10_thrown_4 : decode cX10_thrown 4 = .ok (.ireturn, 1) := by decide +kernel
def b_X10_thrown_0 (h : q_H) (v0 : Nat) : Option (q_H × Int32) :=
  Option.bind (q_gI 9 0 h v0) (fun x1 => some (h, x1))
def f_X10_thrown (h : q_H) (a0 : Nat) : Option (q_H × Int32) := q_chk 9 h a0 (b_X10_thrown_0 h a0)
set_option maxRecDepth 20000 in
set_option maxHeartbeats 1000000 in
theorem jb_X10_thrown_0 {G : q_G} {l : Launch} {k0 z0 : Nat} (h : q_H) (v0 : Nat) : q_J G l (RX10, cX10_thrown, 1, 0, 0, (some .int), "thrown", []) k0 z0 (q_Z G k0 z0 q_i) 0 [(0, .ref v0)] [] h (b_X10_thrown_0 h v0) := by
  unfold b_X10_thrown_0
  refine j_aload_n (pc := 0) (p := 0) rfl rfl dX10_thrown_0 ?_
  refine j_getI (pc := 1) FI_X10 (k := 0) (by decide) fl_X10_1 dX10_thrown_1 (fun x1 _ => ?_)
  exact j_iret (pc := 4) rfl dX10_thrown_4
set_option maxRecDepth 20000 in
set_option maxHeartbeats 1000000 in
theorem c_X10_thrown {G : q_G} {l : Launch} : ∀ (h : q_H) (a0 : Nat) (q : q_H × Int32), f_X10_thrown h a0 = some q → (∃ fs, h.1 a0 = .inr (9, fs)) ∧ q_CT G l yX10_thrown cX10_thrown 1 (some .int) 0 0 [.ref a0] h q.1 (q_i q.2) := by
  intro h a0 q e
  obtain ⟨e1, e2⟩ := q_chk_ok e
  exact ⟨e1, q_ofJ Y_X10_thrown (Nat.le_of_ble_eq_true rfl) (jb_X10_thrown_0 h a0) q e2⟩
/-! FarFoldersModel.worth(I)I -/
theorem dX10_worth_0 : decode cX10_worth 0 = .ok (.iload_n 1, 1) := by decide +kernel
theorem dX10_worth_1 : decode cX10_worth 1 = .ok (.iconst 2, 1) := by decide +kernel
theorem dX10_worth_2 : decode cX10_worth 2 = .ok (.if_icmp .ge 7, 3) := by decide +kernel
theorem dX10_worth_5 : decode cX10_worth 5 = .ok (.iconst 0, 1) := by decide +kernel
theorem dX10_worth_6 : decode cX10_worth 6 = .ok (.goto 10, 3) := by decide +kernel
theorem dX10_worth_9 : decode cX10_worth 9 = .ok (.aload_n 0, 1) := by decide +kernel
theorem dX10_worth_10 : decode cX10_worth 10 = .ok (.iconst 0, 1) := by decide +kernel
theorem dX10_worth_11 : decode cX10_worth 11 = .ok (.iload_n 1, 1) := by decide +kernel
theorem dX10_worth_12 : decode cX10_worth 12 = .ok (.iconst 1, 1) := by decide +kernel
theorem dX10_worth_13 : decode cX10_worth 13 = .ok (.invokevirtual 129, 3) := by decide +kernel
theorem dX10_worth_16 : decode cX10_worth 16 = .ok (.istore_n 2, 1) := by decide +kernel
theorem dX10_worth_17 : decode cX10_worth 17 = .ok (.aload_n 0, 1) := by decide +kernel
theorem dX10_worth_18 : decode cX10_worth 18 = .ok (.iconst 0, 1) := by decide +kernel
theorem dX10_worth_19 : decode cX10_worth 19 = .ok (.iload_n 1, 1) := by decide +kernel
theorem dX10_worth_20 : decode cX10_worth 20 = .ok (.invokevirtual 293, 3) := by decide +kernel
theorem dX10_worth_23 : decode cX10_worth 23 = .ok (.istore_n 3, 1) := by decide +kernel
theorem dX10_worth_24 : decode cX10_worth 24 = .ok (.iconst 2, 1) := by decide +kernel
theorem dX10_worth_25 : decode cX10_worth 25 = .ok (.istore 4, 2) := by decide +kernel
theorem dX10_worth_27 : decode cX10_worth 27 = .ok (.iload 4, 2) := by decide +kernel
theorem dX10_worth_29 : decode cX10_worth 29 = .ok (.bipush 14, 2) := by decide +kernel
theorem dX10_worth_31 : decode cX10_worth 31 = .ok (.if_icmp .ge 33, 3) := by decide +kernel
theorem dX10_worth_34 : decode cX10_worth 34 = .ok (.iload_n 3, 1) := by decide +kernel
theorem dX10_worth_35 : decode cX10_worth 35 = .ok (.iload 4, 2) := by decide +kernel
theorem dX10_worth_37 : decode cX10_worth 37 = .ok (.invokestatic 302, 3) := by decide +kernel
theorem dX10_worth_40 : decode cX10_worth 40 = .ok (.ifCond .eq 18, 3) := by decide +kernel
theorem dX10_worth_43 : decode cX10_worth 43 = .ok (.aload_n 0, 1) := by decide +kernel
theorem dX10_worth_44 : decode cX10_worth 44 = .ok (.iload 4, 2) := by decide +kernel
theorem dX10_worth_46 : decode cX10_worth 46 = .ok (.invokevirtual 305, 3) := by decide +kernel
theorem dX10_worth_49 : decode cX10_worth 49 = .ok (.istore 5, 2) := by decide +kernel
theorem dX10_worth_51 : decode cX10_worth 51 = .ok (.iconst 3, 1) := by decide +kernel
theorem dX10_worth_52 : decode cX10_worth 52 = .ok (.iload_n 2, 1) := by decide +kernel
theorem dX10_worth_53 : decode cX10_worth 53 = .ok (.imul, 1) := by decide +kernel
theorem dX10_worth_54 : decode cX10_worth 54 = .ok (.iload 5, 2) := by decide +kernel
theorem dX10_worth_56 : decode cX10_worth 56 = .ok (.iadd, 1) := by decide +kernel
theorem dX10_worth_57 : decode cX10_worth 57 = .ok (.istore_n 2, 1) := by decide +kernel
theorem dX10_worth_58 : decode cX10_worth 58 = .ok (.iinc 4 1, 3) := by decide +kernel
theorem dX10_worth_61 : decode cX10_worth 61 = .ok (.goto (-34), 3) := by decide +kernel
theorem dX10_worth_64 : decode cX10_worth 64 = .ok (.iload_n 2, 1) := by decide +kernel
theorem dX10_worth_65 : decode cX10_worth 65 = .ok (.ireturn, 1) := by decide +kernel
def b_X10_worth_58 (self : q_H → Nat → Int32 → Option (q_H × Int32)) (k27 : q_H → Nat → Int32 → Int32 → Int32 → Option (q_H × Int32)) (h : q_H) (v0 : Nat) (v2 : Int32) (v3 : Int32) (v4 : Int32) : Option (q_H × Int32) :=
  k27 h v0 v2 v3 (v4 + 1)
def b_X10_worth_27 (self : q_H → Nat → Int32 → Option (q_H × Int32)) (k27 : q_H → Nat → Int32 → Int32 → Int32 → Option (q_H × Int32)) (h : q_H) (v0 : Nat) (v2 : Int32) (v3 : Int32) (v4 : Int32) : Option (q_H × Int32) :=
  if (14) ≤ v4 then some (h, v2) else Option.bind (f_X10_has h v3 v4) (fun q1 => if q1.2 = 0 then b_X10_worth_58 self k27 q1.1 v0 v2 v3 v4 else Option.bind (self q1.1 v0 v4) (fun q2 => b_X10_worth_58 self k27 q2.1 v0 (((3) * v2) + q2.2) v3 v4))
def l_X10_worth_27 (self : q_H → Nat → Int32 → Option (q_H × Int32)) : Nat → q_H → Nat → Int32 → Int32 → Int32 → Option (q_H × Int32)
  | 0, _, _, _, _, _ => none
  | n + 1, h, v0, v2, v3, v4 => b_X10_worth_27 self (l_X10_worth_27 self n) h v0 v2 v3 v4
def b_X10_worth_16 (self : q_H → Nat → Int32 → Option (q_H × Int32)) (h : q_H) (v0 : Nat) (v1 : Int32) (s0 : Int32) : Option (q_H × Int32) :=
  Option.bind (f_X10_rightBelow h v0 (0) v1) (fun q3 => l_X10_worth_27 self q_FU q3.1 v0 s0 q3.2 (2))
def b_X10_worth_0 (self : q_H → Nat → Int32 → Option (q_H × Int32)) (h : q_H) (v0 : Nat) (v1 : Int32) : Option (q_H × Int32) :=
  if (2) ≤ v1 then Option.bind (f_X10_its h v0 (0) v1 (1)) (fun q4 => b_X10_worth_16 self q4.1 v0 v1 q4.2) else b_X10_worth_16 self h v0 v1 (0)
def f_X10_worth : Nat → q_H → Nat → Int32 → Option (q_H × Int32)
  | 0, _, _, _ => none
  | d + 1, h, a0, a1 => q_chk 9 h a0 (b_X10_worth_0 (f_X10_worth d) h a0 a1)
set_option maxRecDepth 20000 in
set_option maxHeartbeats 1000000 in
theorem jb_X10_worth_58 {G : q_G} {l : Launch} {k0 z0 : Nat} {d : Nat} (self : q_H → Nat → Int32 → Option (q_H × Int32)) (hself : ∀ (h : q_H) (a0 : Nat) (a1 : Int32) (q : q_H × Int32), self h a0 a1 = some q → (∃ fs, h.1 a0 = .inr (9, fs)) ∧ q_CT G l yX10_worth cX10_worth 6 (some .int) (3 + d) (69 + 25 * d) [.ref a0, .int a1] h q.1 (q_i q.2)) (k27 : q_H → Nat → Int32 → Int32 → Int32 → Option (q_H × Int32)) (hk27 : ∀ (h : q_H) (v0 : Nat) (v2 : Int32) (v3 : Int32) (v4 : Int32), q_J G l (RX10, cX10_worth, 6, 3 + (d + 1), 69 + 25 * (d + 1), (some .int), "worth", []) k0 z0 (q_Z G k0 z0 q_i) 27 [(0, .ref v0), (2, .int v2), (3, .int v3), (4, .int v4)] [] h (k27 h v0 v2 v3 v4)) (h : q_H) (v0 : Nat) (v2 : Int32) (v3 : Int32) (v4 : Int32) : q_J G l (RX10, cX10_worth, 6, 3 + (d + 1), 69 + 25 * (d + 1), (some .int), "worth", []) k0 z0 (q_Z G k0 z0 q_i) 58 [(0, .ref v0), (2, .int v2), (3, .int v3), (4, .int v4)] [] h (b_X10_worth_58 self k27 h v0 v2 v3 v4) := by
  unfold b_X10_worth_58
  refine j_inc (pc := 58) (p := 3) (lv' := [(4, .int (v4 + 1)), (0, .ref v0), (2, .int v2), (3, .int v3)]) rfl ki_1 (by decide) rfl dX10_worth_58 ?_
  refine j_goto (pc := 61) (tgt := 27) dX10_worth_61 (by decide) ?_
  refine j_sub [1, 2, 3, 0] (lv' := [(0, .ref v0), (2, .int v2), (3, .int v3), (4, .int (v4 + 1))]) rfl ?_
  exact hk27 _ _ _ _ _
set_option maxRecDepth 20000 in
set_option maxHeartbeats 1000000 in
theorem jb_X10_worth_27 {G : q_G} {l : Launch} {k0 z0 : Nat} {d : Nat} (self : q_H → Nat → Int32 → Option (q_H × Int32)) (hself : ∀ (h : q_H) (a0 : Nat) (a1 : Int32) (q : q_H × Int32), self h a0 a1 = some q → (∃ fs, h.1 a0 = .inr (9, fs)) ∧ q_CT G l yX10_worth cX10_worth 6 (some .int) (3 + d) (69 + 25 * d) [.ref a0, .int a1] h q.1 (q_i q.2)) (k27 : q_H → Nat → Int32 → Int32 → Int32 → Option (q_H × Int32)) (hk27 : ∀ (h : q_H) (v0 : Nat) (v2 : Int32) (v3 : Int32) (v4 : Int32), q_J G l (RX10, cX10_worth, 6, 3 + (d + 1), 69 + 25 * (d + 1), (some .int), "worth", []) k0 z0 (q_Z G k0 z0 q_i) 27 [(0, .ref v0), (2, .int v2), (3, .int v3), (4, .int v4)] [] h (k27 h v0 v2 v3 v4)) (h : q_H) (v0 : Nat) (v2 : Int32) (v3 : Int32) (v4 : Int32) : q_J G l (RX10, cX10_worth, 6, 3 + (d + 1), 69 + 25 * (d + 1), (some .int), "worth", []) k0 z0 (q_Z G k0 z0 q_i) 27 [(0, .ref v0), (2, .int v2), (3, .int v3), (4, .int v4)] [] h (b_X10_worth_27 self k27 h v0 v2 v3 v4) := by
  unfold b_X10_worth_27
  refine j_iload (pc := 27) (p := 3) rfl dX10_worth_27 ?_
  refine j_bipush (pc := 29) kb_14 dX10_worth_29 ?_
  refine j_ic_ge (pc := 31) (tgt := 64) dX10_worth_31 (by decide) (fun _ => ?_) (fun _ => ?_)
  · refine j_iload_n (pc := 64) (p := 1) rfl rfl dX10_worth_64 ?_
    exact j_iret (pc := 65) rfl dX10_worth_65
  refine j_iload_n (pc := 34) (p := 2) rfl rfl dX10_worth_34 ?_
  refine j_iload (pc := 35) (p := 3) rfl dX10_worth_35 ?_
  refine j_cSi (pc := 37) Y_X10_has ml_X10_302 sm_X10_has ⟨by omega, by omega⟩ dX10_worth_37 (As := [.int v3, .int v4]) (rest := []) rfl rfl (Nat.le_of_ble_eq_true rfl) (fun x hq9 => c_X10_has _ _ _ _ hq9) (fun q1 _ => ?_)
  refine j_if_eq (pc := 40) (tgt := 58) dX10_worth_40 (by decide) (fun _ => ?_) (fun _ => ?_)
  · exact jb_X10_worth_58 self hself k27 hk27 _ _ _ _ _
  refine j_aload_n (pc := 43) (p := 0) rfl rfl dX10_worth_43 ?_
  refine j_iload (pc := 44) (p := 3) rfl dX10_worth_44 ?_
  refine j_cVi (pc := 46) Y_X10_worth (ci := 9) (b := v0) rfl rfl ml_X10_305 im_X10_worth se_X10_worth ⟨by omega, by omega⟩ dX10_worth_46 (As := [.int v4]) (rest := []) rfl rfl (Nat.le_of_ble_eq_true rfl) (fun x hq9 => hself _ _ _ _ hq9) (fun q2 _ => ?_)
  refine j_istore (pc := 49) (lv' := [(5, .int q2.2), (0, .ref v0), (2, .int v2), (3, .int v3), (4, .int v4)]) (by decide) rfl dX10_worth_49 ?_
  refine j_iconst (pc := 51) ki_3 dX10_worth_51 ?_
  refine j_iload_n (pc := 52) (p := 2) rfl rfl dX10_worth_52 ?_
  refine j_imul (pc := 53) dX10_worth_53 ?_
  refine j_iload (pc := 54) (p := 0) rfl dX10_worth_54 ?_
  refine j_iadd (pc := 56) dX10_worth_56 ?_
  refine j_istore_n (pc := 57) (lv' := [(2, .int (((3) * v2) + q2.2)), (5, .int q2.2), (0, .ref v0), (3, .int v3), (4, .int v4)]) rfl (by decide) rfl dX10_worth_57 ?_
  refine j_sub [2, 0, 3, 4] (lv' := [(0, .ref v0), (2, .int (((3) * v2) + q2.2)), (3, .int v3), (4, .int v4)]) rfl ?_
  exact jb_X10_worth_58 self hself k27 hk27 _ _ _ _ _
set_option maxRecDepth 20000 in
set_option maxHeartbeats 1000000 in
theorem jl_X10_worth_27 {G : q_G} {l : Launch} {k0 z0 : Nat} {d : Nat} (self : q_H → Nat → Int32 → Option (q_H × Int32)) (hself : ∀ (h : q_H) (a0 : Nat) (a1 : Int32) (q : q_H × Int32), self h a0 a1 = some q → (∃ fs, h.1 a0 = .inr (9, fs)) ∧ q_CT G l yX10_worth cX10_worth 6 (some .int) (3 + d) (69 + 25 * d) [.ref a0, .int a1] h q.1 (q_i q.2)) (n : Nat) : ∀ (h : q_H) (v0 : Nat) (v2 : Int32) (v3 : Int32) (v4 : Int32), q_J G l (RX10, cX10_worth, 6, 3 + (d + 1), 69 + 25 * (d + 1), (some .int), "worth", []) k0 z0 (q_Z G k0 z0 q_i) 27 [(0, .ref v0), (2, .int v2), (3, .int v3), (4, .int v4)] [] h (l_X10_worth_27 self n h v0 v2 v3 v4) := by
  induction n with
  | zero => intro h v0 v2 v3 v4; exact j_none
  | succ n ih => intro h v0 v2 v3 v4; exact jb_X10_worth_27 self hself (l_X10_worth_27 self n) ih h v0 v2 v3 v4
set_option maxRecDepth 20000 in
set_option maxHeartbeats 1000000 in
theorem jb_X10_worth_16 {G : q_G} {l : Launch} {k0 z0 : Nat} {d : Nat} (self : q_H → Nat → Int32 → Option (q_H × Int32)) (hself : ∀ (h : q_H) (a0 : Nat) (a1 : Int32) (q : q_H × Int32), self h a0 a1 = some q → (∃ fs, h.1 a0 = .inr (9, fs)) ∧ q_CT G l yX10_worth cX10_worth 6 (some .int) (3 + d) (69 + 25 * d) [.ref a0, .int a1] h q.1 (q_i q.2)) (h : q_H) (v0 : Nat) (v1 : Int32) (s0 : Int32) : q_J G l (RX10, cX10_worth, 6, 3 + (d + 1), 69 + 25 * (d + 1), (some .int), "worth", []) k0 z0 (q_Z G k0 z0 q_i) 16 [(0, .ref v0), (1, .int v1)] [.int s0] h (b_X10_worth_16 self h v0 v1 s0) := by
  unfold b_X10_worth_16
  refine j_istore_n (pc := 16) (lv' := [(2, .int s0), (0, .ref v0), (1, .int v1)]) rfl (by decide) rfl dX10_worth_16 ?_
  refine j_aload_n (pc := 17) (p := 1) rfl rfl dX10_worth_17 ?_
  refine j_iconst (pc := 18) ki_0 dX10_worth_18 ?_
  refine j_iload_n (pc := 19) (p := 2) rfl rfl dX10_worth_19 ?_
  refine j_cVi (pc := 20) Y_X10_rightBelow (ci := 9) (b := v0) rfl rfl ml_X10_293 im_X10_rightBelow se_X10_rightBelow ⟨by omega, by omega⟩ dX10_worth_20 (As := [.int (0), .int v1]) (rest := []) rfl rfl (Nat.le_of_ble_eq_true rfl) (fun x hq9 => c_X10_rightBelow _ _ _ _ _ hq9) (fun q3 _ => ?_)
  refine j_istore_n (pc := 23) (lv' := [(3, .int q3.2), (2, .int s0), (0, .ref v0), (1, .int v1)]) rfl (by decide) rfl dX10_worth_23 ?_
  refine j_iconst (pc := 24) ki_2 dX10_worth_24 ?_
  refine j_istore (pc := 25) (lv' := [(4, .int (2)), (3, .int q3.2), (2, .int s0), (0, .ref v0), (1, .int v1)]) (by decide) rfl dX10_worth_25 ?_
  refine j_sub [3, 2, 1, 0] (lv' := [(0, .ref v0), (2, .int s0), (3, .int q3.2), (4, .int (2))]) rfl ?_
  exact jl_X10_worth_27 self hself q_FU _ _ _ _ _
set_option maxRecDepth 20000 in
set_option maxHeartbeats 1000000 in
theorem jb_X10_worth_0 {G : q_G} {l : Launch} {k0 z0 : Nat} {d : Nat} (self : q_H → Nat → Int32 → Option (q_H × Int32)) (hself : ∀ (h : q_H) (a0 : Nat) (a1 : Int32) (q : q_H × Int32), self h a0 a1 = some q → (∃ fs, h.1 a0 = .inr (9, fs)) ∧ q_CT G l yX10_worth cX10_worth 6 (some .int) (3 + d) (69 + 25 * d) [.ref a0, .int a1] h q.1 (q_i q.2)) (h : q_H) (v0 : Nat) (v1 : Int32) : q_J G l (RX10, cX10_worth, 6, 3 + (d + 1), 69 + 25 * (d + 1), (some .int), "worth", []) k0 z0 (q_Z G k0 z0 q_i) 0 [(0, .ref v0), (1, .int v1)] [] h (b_X10_worth_0 self h v0 v1) := by
  unfold b_X10_worth_0
  refine j_iload_n (pc := 0) (p := 1) rfl rfl dX10_worth_0 ?_
  refine j_iconst (pc := 1) ki_2 dX10_worth_1 ?_
  refine j_ic_ge (pc := 2) (tgt := 9) dX10_worth_2 (by decide) (fun _ => ?_) (fun _ => ?_)
  · refine j_aload_n (pc := 9) (p := 0) rfl rfl dX10_worth_9 ?_
    refine j_iconst (pc := 10) ki_0 dX10_worth_10 ?_
    refine j_iload_n (pc := 11) (p := 1) rfl rfl dX10_worth_11 ?_
    refine j_iconst (pc := 12) ki_1 dX10_worth_12 ?_
    refine j_cVi (pc := 13) Y_X10_its (ci := 9) (b := v0) rfl rfl ml_X10_129 im_X10_its se_X10_its ⟨by omega, by omega⟩ dX10_worth_13 (As := [.int (0), .int v1, .int (1)]) (rest := []) rfl rfl (Nat.le_of_ble_eq_true rfl) (fun x hq9 => c_X10_its _ _ _ _ _ _ hq9) (fun q4 _ => ?_)
    exact jb_X10_worth_16 self hself _ _ _ _
  refine j_iconst (pc := 5) ki_0 dX10_worth_5 ?_
  refine j_goto (pc := 6) (tgt := 16) dX10_worth_6 (by decide) ?_
  exact jb_X10_worth_16 self hself _ _ _ _
set_option maxRecDepth 20000 in
set_option maxHeartbeats 1000000 in
theorem c_X10_worth {G : q_G} {l : Launch} (d : Nat) : ∀ (h : q_H) (a0 : Nat) (a1 : Int32) (q : q_H × Int32), f_X10_worth d h a0 a1 = some q → (∃ fs, h.1 a0 = .inr (9, fs)) ∧ q_CT G l yX10_worth cX10_worth 6 (some .int) (3 + d) (69 + 25 * d) [.ref a0, .int a1] h q.1 (q_i q.2) := by
  induction d with
  | zero => intro h a0 a1 q e; cases e
  | succ d ih =>
    intro h a0 a1 q e
    obtain ⟨e1, e2⟩ := q_chk_ok e
    exact ⟨e1, q_ofJ Y_X10_worth (Nat.le_of_ble_eq_true rfl) (jb_X10_worth_0 (f_X10_worth d) ih h a0 a1) q e2⟩
/-! FarFoldersModel.total(III)I -/
theorem dX10_total_0 : decode cX10_total 0 = .ok (.aload_n 0, 1) := by decide +kernel
theorem dX10_total_1 : decode cX10_total 1 = .ok (.iconst 0, 1) := by decide +kernel
theorem dX10_total_2 : decode cX10_total 2 = .ok (.putfield 1, 3) := by decide +kernel
theorem dX10_total_5 : decode cX10_total 5 = .ok (.iload_n 3, 1) := by decide +kernel
theorem dX10_total_6 : decode cX10_total 6 = .ok (.i2l, 1) := by decide +kernel
theorem dX10_total_7 : decode cX10_total 7 = .ok (.lconst 0, 1) := by decide +kernel
theorem dX10_total_8 : decode cX10_total 8 = .ok (.ldc2_w 171, 3) := by decide +kernel
theorem dX10_total_11 : decode cX10_total 11 = .ok (.invokestatic 21, 3) := by decide +kernel
theorem dX10_total_14 : decode cX10_total 14 = .ok (.ifCond .ne 5, 3) := by decide +kernel
theorem dX10_total_17 : decode cX10_total 17 = .ok (.iconst (-1), 1) := by decide +kernel
theorem dX10_total_18 : decode cX10_total 18 = .ok (.ireturn, 1) := by decide +kernel
theorem dX10_total_19 : decode cX10_total 19 = .ok (.aload_n 0, 1) := by decide +kernel
theorem dX10_total_20 : decode cX10_total 20 = .ok (.iload_n 1, 1) := by decide +kernel
theorem dX10_total_21 : decode cX10_total 21 = .ok (.iload_n 2, 1) := by decide +kernel
theorem dX10_total_22 : decode cX10_total 22 = .ok (.invokevirtual 287, 3) := by decide +kernel
theorem dX10_total_25 : decode cX10_total 25 = .ok (.istore 4, 2) := by decide +kernel
theorem dX10_total_27 : decode cX10_total 27 = .ok (.iload 4, 2) := by decide +kernel
theorem dX10_total_29 : decode cX10_total 29 = .ok (.ifCond .ge 6, 3) := by decide +kernel
theorem dX10_total_32 : decode cX10_total 32 = .ok (.iload 4, 2) := by decide +kernel
theorem dX10_total_34 : decode cX10_total 34 = .ok (.ireturn, 1) := by decide +kernel
theorem dX10_total_35 : decode cX10_total 35 = .ok (.aload_n 0, 1) := by decide +kernel
theorem dX10_total_36 : decode cX10_total 36 = .ok (.iconst 0, 1) := by decide +kernel
theorem dX10_total_37 : decode cX10_total 37 = .ok (.iload_n 2, 1) := by decide +kernel
theorem dX10_total_38 : decode cX10_total 38 = .ok (.invokevirtual 290, 3) := by decide +kernel
theorem dX10_total_41 : decode cX10_total 41 = .ok (.iconst 1, 1) := by decide +kernel
theorem dX10_total_42 : decode cX10_total 42 = .ok (.iload_n 2, 1) := by decide +kernel
theorem dX10_total_43 : decode cX10_total 43 = .ok (.ishl, 1) := by decide +kernel
theorem dX10_total_44 : decode cX10_total 44 = .ok (.ior, 1) := by decide +kernel
theorem dX10_total_45 : decode cX10_total 45 = .ok (.istore 5, 2) := by decide +kernel
theorem dX10_total_47 : decode cX10_total 47 = .ok (.iconst 0, 1) := by decide +kernel
theorem dX10_total_48 : decode cX10_total 48 = .ok (.istore 6, 2) := by decide +kernel
theorem dX10_total_50 : decode cX10_total 50 = .ok (.iconst 0, 1) := by decide +kernel
theorem dX10_total_51 : decode cX10_total 51 = .ok (.istore 7, 2) := by decide +kernel
theorem dX10_total_53 : decode cX10_total 53 = .ok (.iconst 0, 1) := by decide +kernel
theorem dX10_total_54 : decode cX10_total 54 = .ok (.istore 8, 2) := by decide +kernel
theorem dX10_total_56 : decode cX10_total 56 = .ok (.iconst 0, 1) := by decide +kernel
theorem dX10_total_57 : decode cX10_total 57 = .ok (.istore 9, 2) := by decide +kernel
theorem dX10_total_59 : decode cX10_total 59 = .ok (.iconst 0, 1) := by decide +kernel
theorem dX10_total_60 : decode cX10_total 60 = .ok (.istore 10, 2) := by decide +kernel
theorem dX10_total_62 : decode cX10_total 62 = .ok (.iconst 0, 1) := by decide +kernel
theorem dX10_total_63 : decode cX10_total 63 = .ok (.istore 11, 2) := by decide +kernel
theorem dX10_total_65 : decode cX10_total 65 = .ok (.iload 11, 2) := by decide +kernel
theorem dX10_total_67 : decode cX10_total 67 = .ok (.bipush 14, 2) := by decide +kernel
theorem dX10_total_69 : decode cX10_total 69 = .ok (.if_icmp .ge 117, 3) := by decide +kernel
theorem dX10_total_72 : decode cX10_total 72 = .ok (.iload 5, 2) := by decide +kernel
theorem dX10_total_74 : decode cX10_total 74 = .ok (.iload 11, 2) := by decide +kernel
theorem dX10_total_76 : decode cX10_total 76 = .ok (.invokestatic 302, 3) := by decide +kernel
theorem dX10_total_79 : decode cX10_total 79 = .ok (.ifCond .ne 6, 3) := by decide +kernel
theorem dX10_total_82 : decode cX10_total 82 = .ok (.goto 98, 3) := by decide +kernel
theorem dX10_total_85 : decode cX10_total 85 = .ok (.iinc 6 1, 3) := by decide +kernel
theorem dX10_total_88 : decode cX10_total 88 = .ok (.iload 7, 2) := by decide +kernel
theorem dX10_total_90 : decode cX10_total 90 = .ok (.aload_n 0, 1) := by decide +kernel
theorem dX10_total_91 : decode cX10_total 91 = .ok (.iconst 0, 1) := by decide +kernel
theorem dX10_total_92 : decode cX10_total 92 = .ok (.iload 11, 2) := by decide +kernel
theorem dX10_total_94 : decode cX10_total 94 = .ok (.invokevirtual 293, 3) := by decide +kernel
theorem dX10_total_97 : decode cX10_total 97 = .ok (.ifCond .ne 7, 3) := by decide +kernel
theorem dX10_total_100 : decode cX10_total 100 = .ok (.iconst 1, 1) := by decide +kernel
theorem dX10_total_101 : decode cX10_total 101 = .ok (.goto 4, 3) := by decide +kernel
theorem dX10_total_104 : decode cX10_total 104 = .ok (.iconst 0, 1) := by decide +kernel
theorem dX10_total_105 : decode cX10_total 105 = .ok (.invokestatic 115, 3) := by decide +kernel
theorem dX10_total_108 : decode cX10_total 108 = .ok (.iadd, 1) := by decide +kernel
theorem dX10_total_109 : decode cX10_total 109 = .ok (.istore 7, 2) := by decide +kernel
theorem dX10_total_111 : decode cX10_total 111 = .ok (.iload 8, 2) := by decide +kernel
theorem dX10_total_113 : decode cX10_total 113 = .ok (.aload_n 0, 1) := by decide +kernel
theorem dX10_total_114 : decode cX10_total 114 = .ok (.iload 11, 2) := by decide +kernel
theorem dX10_total_116 : decode cX10_total 116 = .ok (.iload_n 2, 1) := by decide +kernel
theorem dX10_total_117 : decode cX10_total 117 = .ok (.invokevirtual 299, 3) := by decide +kernel
theorem dX10_total_120 : decode cX10_total 120 = .ok (.invokestatic 209, 3) := by decide +kernel
theorem dX10_total_123 : decode cX10_total 123 = .ok (.istore 8, 2) := by decide +kernel
theorem dX10_total_125 : decode cX10_total 125 = .ok (.iload 11, 2) := by decide +kernel
theorem dX10_total_127 : decode cX10_total 127 = .ok (.iconst 2, 1) := by decide +kernel
theorem dX10_total_128 : decode cX10_total 128 = .ok (.if_icmp .ge 8, 3) := by decide +kernel
theorem dX10_total_131 : decode cX10_total 131 = .ok (.iload 9, 2) := by decide +kernel
theorem dX10_total_133 : decode cX10_total 133 = .ok (.goto 16, 3) := by decide +kernel
theorem dX10_total_136 : decode cX10_total 136 = .ok (.iload 9, 2) := by decide +kernel
theorem dX10_total_138 : decode cX10_total 138 = .ok (.aload_n 0, 1) := by decide +kernel
theorem dX10_total_139 : decode cX10_total 139 = .ok (.iconst 0, 1) := by decide +kernel
theorem dX10_total_140 : decode cX10_total 140 = .ok (.iload 11, 2) := by decide +kernel
theorem dX10_total_142 : decode cX10_total 142 = .ok (.iconst 2, 1) := by decide +kernel
theorem dX10_total_143 : decode cX10_total 143 = .ok (.invokevirtual 129, 3) := by decide +kernel
theorem dX10_total_146 : decode cX10_total 146 = .ok (.invokestatic 209, 3) := by decide +kernel
theorem dX10_total_149 : decode cX10_total 149 = .ok (.istore 9, 2) := by decide +kernel
theorem dX10_total_151 : decode cX10_total 151 = .ok (.iload 10, 2) := by decide +kernel
theorem dX10_total_153 : decode cX10_total 153 = .ok (.iload 11, 2) := by decide +kernel
theorem dX10_total_155 : decode cX10_total 155 = .ok (.iconst 2, 1) := by decide +kernel
theorem dX10_total_156 : decode cX10_total 156 = .ok (.if_icmp .lt 17, 3) := by decide +kernel
theorem dX10_total_159 : decode cX10_total 159 = .ok (.aload_n 0, 1) := by decide +kernel
theorem dX10_total_160 : decode cX10_total 160 = .ok (.iconst 0, 1) := by decide +kernel
theorem dX10_total_161 : decode cX10_total 161 = .ok (.iload 11, 2) := by decide +kernel
theorem dX10_total_163 : decode cX10_total 163 = .ok (.invokevirtual 168, 3) := by decide +kernel
theorem dX10_total_166 : decode cX10_total 166 = .ok (.ifCond .le 7, 3) := by decide +kernel
theorem dX10_total_169 : decode cX10_total 169 = .ok (.iconst 1, 1) := by decide +kernel
theorem dX10_total_170 : decode cX10_total 170 = .ok (.goto 4, 3) := by decide +kernel
theorem dX10_total_173 : decode cX10_total 173 = .ok (.iconst 0, 1) := by decide +kernel
theorem dX10_total_174 : decode cX10_total 174 = .ok (.invokestatic 115, 3) := by decide +kernel
theorem dX10_total_177 : decode cX10_total 177 = .ok (.iadd, 1) := by decide +kernel
theorem dX10_total_178 : decode cX10_total 178 = .ok (.istore 10, 2) := by decide +kernel
theorem dX10_total_180 : decode cX10_total 180 = .ok (.iinc 11 1, 3) := by decide +kernel
theorem dX10_total_183 : decode cX10_total 183 = .ok (.goto (-118), 3) := by decide +kernel
theorem dX10_total_186 : decode cX10_total 186 = .ok (.iload_n 3, 1) := by decide +kernel
theorem dX10_total_187 : decode cX10_total 187 = .ok (.tableswitch 48 0 4 #[33, 36, 39, 42, 45], 33) := by decide +kernel
theorem dX10_total_220 : decode cX10_total 220 = .ok (.iload 6, 2) := by decide +kernel
theorem dX10_total_222 : decode cX10_total 222 = .ok (.ireturn, 1) := by decide +kernel
theorem dX10_total_223 : decode cX10_total 223 = .ok (.iload 7, 2) := by decide +kernel
theorem dX10_total_225 : decode cX10_total 225 = .ok (.ireturn, 1) := by decide +kernel
theorem dX10_total_226 : decode cX10_total 226 = .ok (.iload 8, 2) := by decide +kernel
theorem dX10_total_228 : decode cX10_total 228 = .ok (.ireturn, 1) := by decide +kernel
theorem dX10_total_229 : decode cX10_total 229 = .ok (.iload 9, 2) := by decide +kernel
theorem dX10_total_231 : decode cX10_total 231 = .ok (.ireturn, 1) := by decide +kernel
theorem dX10_total_232 : decode cX10_total 232 = .ok (.iload 10, 2) := by decide +kernel
theorem dX10_total_234 : decode cX10_total 234 = .ok (.ireturn, 1) := by decide +kernel
theorem dX10_total_235 : decode cX10_total 235 = .ok (.aload_n 0, 1) := by decide +kernel
theorem dX10_total_236 : decode cX10_total 236 = .ok (.iload_n 2, 1) := by decide +kernel
theorem dX10_total_237 : decode cX10_total 237 = .ok (.invokevirtual 305, 3) := by decide +kernel
theorem dX10_total_240 : decode cX10_total 240 = .ok (.ireturn, 1) := by decide +kernel
def b_X10_total_180 (k65 : q_H → Nat → Int32 → Int32 → Int32 → Int32 → Int32 → Int32 → Int32 → Int32 → Int32 → Option (q_H × Int32)) (h : q_H) (v0 : Nat) (v2 : Int32) (v3 : Int32) (v5 : Int32) (v6 : Int32) (v7 : Int32) (v8 : Int32) (v9 : Int32) (v10 : Int32) (v11 : Int32) : Option (q_H × Int32) :=
  k65 h v0 v2 v3 v5 v6 v7 v8 v9 v10 (v11 + 1)
def b_X10_total_174 (k65 : q_H → Nat → Int32 → Int32 → Int32 → Int32 → Int32 → Int32 → Int32 → Int32 → Int32 → Option (q_H × Int32)) (h : q_H) (v0 : Nat) (v2 : Int32) (v3 : Int32) (v5 : Int32) (v6 : Int32) (v7 : Int32) (v8 : Int32) (v9 : Int32) (v11 : Int32) (s0 : Int32) (s1 : Int32) : Option (q_H × Int32) :=
  Option.bind (f_X10_flag h s1) (fun q1 => b_X10_total_180 k65 q1.1 v0 v2 v3 v5 v6 v7 v8 v9 (s0 + q1.2) v11)
def b_X10_total_173 (k65 : q_H → Nat → Int32 → Int32 → Int32 → Int32 → Int32 → Int32 → Int32 → Int32 → Int32 → Option (q_H × Int32)) (h : q_H) (v0 : Nat) (v2 : Int32) (v3 : Int32) (v5 : Int32) (v6 : Int32) (v7 : Int32) (v8 : Int32) (v9 : Int32) (v11 : Int32) (s0 : Int32) : Option (q_H × Int32) :=
  b_X10_total_174 k65 h v0 v2 v3 v5 v6 v7 v8 v9 v11 s0 (0)
def b_X10_total_149 (k65 : q_H → Nat → Int32 → Int32 → Int32 → Int32 → Int32 → Int32 → Int32 → Int32 → Int32 → Option (q_H × Int32)) (h : q_H) (v0 : Nat) (v2 : Int32) (v3 : Int32) (v5 : Int32) (v6 : Int32) (v7 : Int32) (v8 : Int32) (v10 : Int32) (v11 : Int32) (s0 : Int32) : Option (q_H × Int32) :=
  if v11 < (2) then b_X10_total_173 k65 h v0 v2 v3 v5 v6 v7 v8 s0 v11 v10 else Option.bind (f_X10_rank h v0 (0) v11) (fun q2 => if q2.2 ≤ 0 then b_X10_total_173 k65 q2.1 v0 v2 v3 v5 v6 v7 v8 s0 v11 v10 else b_X10_total_174 k65 q2.1 v0 v2 v3 v5 v6 v7 v8 s0 v11 v10 (1))
def b_X10_total_105 (k65 : q_H → Nat → Int32 → Int32 → Int32 → Int32 → Int32 → Int32 → Int32 → Int32 → Int32 → Option (q_H × Int32)) (h : q_H) (v0 : Nat) (v2 : Int32) (v3 : Int32) (v5 : Int32) (v6 : Int32) (v8 : Int32) (v9 : Int32) (v10 : Int32) (v11 : Int32) (s0 : Int32) (s1 : Int32) : Option (q_H × Int32) :=
  Option.bind (f_X10_flag h s1) (fun q3 => Option.bind (f_X10_stepsUp q3.1 v0 v11 v2) (fun q4 => if (2) ≤ v11 then Option.bind (f_X10_its q4.1 v0 (0) v11 (2)) (fun q5 => b_X10_total_149 k65 q5.1 v0 v2 v3 v5 v6 (s0 + q3.2) (q_max v8 q4.2) v10 v11 (q_max v9 q5.2)) else b_X10_total_149 k65 q4.1 v0 v2 v3 v5 v6 (s0 + q3.2) (q_max v8 q4.2) v10 v11 v9))
def b_X10_total_65 (k65 : q_H → Nat → Int32 → Int32 → Int32 → Int32 → Int32 → Int32 → Int32 → Int32 → Int32 → Option (q_H × Int32)) (h : q_H) (v0 : Nat) (v2 : Int32) (v3 : Int32) (v5 : Int32) (v6 : Int32) (v7 : Int32) (v8 : Int32) (v9 : Int32) (v10 : Int32) (v11 : Int32) : Option (q_H × Int32) :=
  if (14) ≤ v11 then if v3 = (0) then some (h, v6) else if v3 = (1) then some (h, v7) else if v3 = (2) then some (h, v8) else if v3 = (3) then some (h, v9) else if v3 = (4) then some (h, v10) else Option.bind (f_X10_worth q_RD h v0 v2) (fun q11 => some (q11.1, q11.2)) else Option.bind (f_X10_has h v5 v11) (fun q12 => if q12.2 = 0 then b_X10_total_180 k65 q12.1 v0 v2 v3 v5 v6 v7 v8 v9 v10 v11 else Option.bind (f_X10_rightBelow q12.1 v0 (0) v11) (fun q13 => if q13.2 = 0 then b_X10_total_105 k65 q13.1 v0 v2 v3 v5 (v6 + 1) v8 v9 v10 v11 v7 (1) else b_X10_total_105 k65 q13.1 v0 v2 v3 v5 (v6 + 1) v8 v9 v10 v11 v7 (0)))
def l_X10_total_65 : Nat → q_H → Nat → Int32 → Int32 → Int32 → Int32 → Int32 → Int32 → Int32 → Int32 → Int32 → Option (q_H × Int32)
  | 0, _, _, _, _, _, _, _, _, _, _, _ => none
  | n + 1, h, v0, v2, v3, v5, v6, v7, v8, v9, v10, v11 => b_X10_total_65 (l_X10_total_65 n) h v0 v2 v3 v5 v6 v7 v8 v9 v10 v11
def b_X10_total_0 (h : q_H) (v0 : Nat) (v1 : Int32) (v2 : Int32) (v3 : Int32) : Option (q_H × Int32) :=
  Option.bind (q_p 9 0 h v0 (.int (0))) (fun h14 => Option.bind (f_X10_in h14 (Int32.toInt64 v3) (0) (5)) (fun q15 => if q15.2 = 0 then some (q15.1, (-1)) else Option.bind (f_X10_asked q15.1 v0 v1 v2) (fun q16 => if 0 ≤ q16.2 then Option.bind (f_X10_allBelow q16.1 v0 (0) v2) (fun q17 => l_X10_total_65 q_FU q17.1 v0 v2 v3 (q17.2 ||| ((1) <<< (v2 &&& 31))) (0) (0) (0) (0) (0) (0)) else some (q16.1, q16.2))))
def f_X10_total (h : q_H) (a0 : Nat) (a1 : Int32) (a2 : Int32) (a3 : Int32) : Option (q_H × Int32) := q_chk 9 h a0 (b_X10_total_0 h a0 a1 a2 a3)
set_option maxRecDepth 20000 in
set_option maxHeartbeats 1000000 in
theorem jb_X10_total_180 {G : q_G} {l : Launch} {k0 z0 : Nat} (k65 : q_H → Nat → Int32 → Int32 → Int32 → Int32 → Int32 → Int32 → Int32 → Int32 → Int32 → Option (q_H × Int32)) (hk65 : ∀ (h : q_H) (v0 : Nat) (v2 : Int32) (v3 : Int32) (v5 : Int32) (v6 : Int32) (v7 : Int32) (v8 : Int32) (v9 : Int32) (v10 : Int32) (v11 : Int32), q_J G l (RX10, cX10_total, 12, 24, 594, (some .int), "total", []) k0 z0 (q_Z G k0 z0 q_i) 65 [(0, .ref v0), (2, .int v2), (3, .int v3), (5, .int v5), (6, .int v6), (7, .int v7), (8, .int v8), (9, .int v9), (10, .int v10), (11, .int v11)] [] h (k65 h v0 v2 v3 v5 v6 v7 v8 v9 v10 v11)) (h : q_H) (v0 : Nat) (v2 : Int32) (v3 : Int32) (v5 : Int32) (v6 : Int32) (v7 : Int32) (v8 : Int32) (v9 : Int32) (v10 : Int32) (v11 : Int32) : q_J G l (RX10, cX10_total, 12, 24, 594, (some .int), "total", []) k0 z0 (q_Z G k0 z0 q_i) 180 [(0, .ref v0), (2, .int v2), (3, .int v3), (5, .int v5), (6, .int v6), (7, .int v7), (8, .int v8), (9, .int v9), (10, .int v10), (11, .int v11)] [] h (b_X10_total_180 k65 h v0 v2 v3 v5 v6 v7 v8 v9 v10 v11) := by
  unfold b_X10_total_180
  refine j_inc (pc := 180) (p := 9) (lv' := [(11, .int (v11 + 1)), (0, .ref v0), (2, .int v2), (3, .int v3), (5, .int v5), (6, .int v6), (7, .int v7), (8, .int v8), (9, .int v9), (10, .int v10)]) rfl ki_1 (by decide) rfl dX10_total_180 ?_
  refine j_goto (pc := 183) (tgt := 65) dX10_total_183 (by decide) ?_
  refine j_sub [1, 2, 3, 4, 5, 6, 7, 8, 9, 0] (lv' := [(0, .ref v0), (2, .int v2), (3, .int v3), (5, .int v5), (6, .int v6), (7, .int v7), (8, .int v8), (9, .int v9), (10, .int v10), (11, .int (v11 + 1))]) rfl ?_
  exact hk65 _ _ _ _ _ _ _ _ _ _ _
set_option maxRecDepth 20000 in
set_option maxHeartbeats 1000000 in
theorem jb_X10_total_174 {G : q_G} {l : Launch} {k0 z0 : Nat} (k65 : q_H → Nat → Int32 → Int32 → Int32 → Int32 → Int32 → Int32 → Int32 → Int32 → Int32 → Option (q_H × Int32)) (hk65 : ∀ (h : q_H) (v0 : Nat) (v2 : Int32) (v3 : Int32) (v5 : Int32) (v6 : Int32) (v7 : Int32) (v8 : Int32) (v9 : Int32) (v10 : Int32) (v11 : Int32), q_J G l (RX10, cX10_total, 12, 24, 594, (some .int), "total", []) k0 z0 (q_Z G k0 z0 q_i) 65 [(0, .ref v0), (2, .int v2), (3, .int v3), (5, .int v5), (6, .int v6), (7, .int v7), (8, .int v8), (9, .int v9), (10, .int v10), (11, .int v11)] [] h (k65 h v0 v2 v3 v5 v6 v7 v8 v9 v10 v11)) (h : q_H) (v0 : Nat) (v2 : Int32) (v3 : Int32) (v5 : Int32) (v6 : Int32) (v7 : Int32) (v8 : Int32) (v9 : Int32) (v11 : Int32) (s0 : Int32) (s1 : Int32) : q_J G l (RX10, cX10_total, 12, 24, 594, (some .int), "total", []) k0 z0 (q_Z G k0 z0 q_i) 174 [(0, .ref v0), (2, .int v2), (3, .int v3), (5, .int v5), (6, .int v6), (7, .int v7), (8, .int v8), (9, .int v9), (11, .int v11)] [.int s1, .int s0] h (b_X10_total_174 k65 h v0 v2 v3 v5 v6 v7 v8 v9 v11 s0 s1) := by
  unfold b_X10_total_174
  refine j_cSi (pc := 174) Y_X10_flag ml_X10_115 sm_X10_flag ⟨Nat.le_of_ble_eq_true rfl, Nat.le_of_ble_eq_true rfl⟩ dX10_total_174 (As := [.int s1]) (rest := [.int s0]) rfl rfl (Nat.le_of_ble_eq_true rfl) (fun x hq9 => c_X10_flag _ _ _ hq9) (fun q1 _ => ?_)
  refine j_iadd (pc := 177) dX10_total_177 ?_
  refine j_istore (pc := 178) (lv' := [(10, .int (s0 + q1.2)), (0, .ref v0), (2, .int v2), (3, .int v3), (5, .int v5), (6, .int v6), (7, .int v7), (8, .int v8), (9, .int v9), (11, .int v11)]) (by decide) rfl dX10_total_178 ?_
  refine j_sub [1, 2, 3, 4, 5, 6, 7, 8, 0, 9] (lv' := [(0, .ref v0), (2, .int v2), (3, .int v3), (5, .int v5), (6, .int v6), (7, .int v7), (8, .int v8), (9, .int v9), (10, .int (s0 + q1.2)), (11, .int v11)]) rfl ?_
  exact jb_X10_total_180 k65 hk65 _ _ _ _ _ _ _ _ _ _ _
set_option maxRecDepth 20000 in
set_option maxHeartbeats 1000000 in
theorem jb_X10_total_173 {G : q_G} {l : Launch} {k0 z0 : Nat} (k65 : q_H → Nat → Int32 → Int32 → Int32 → Int32 → Int32 → Int32 → Int32 → Int32 → Int32 → Option (q_H × Int32)) (hk65 : ∀ (h : q_H) (v0 : Nat) (v2 : Int32) (v3 : Int32) (v5 : Int32) (v6 : Int32) (v7 : Int32) (v8 : Int32) (v9 : Int32) (v10 : Int32) (v11 : Int32), q_J G l (RX10, cX10_total, 12, 24, 594, (some .int), "total", []) k0 z0 (q_Z G k0 z0 q_i) 65 [(0, .ref v0), (2, .int v2), (3, .int v3), (5, .int v5), (6, .int v6), (7, .int v7), (8, .int v8), (9, .int v9), (10, .int v10), (11, .int v11)] [] h (k65 h v0 v2 v3 v5 v6 v7 v8 v9 v10 v11)) (h : q_H) (v0 : Nat) (v2 : Int32) (v3 : Int32) (v5 : Int32) (v6 : Int32) (v7 : Int32) (v8 : Int32) (v9 : Int32) (v11 : Int32) (s0 : Int32) : q_J G l (RX10, cX10_total, 12, 24, 594, (some .int), "total", []) k0 z0 (q_Z G k0 z0 q_i) 173 [(0, .ref v0), (2, .int v2), (3, .int v3), (5, .int v5), (6, .int v6), (7, .int v7), (8, .int v8), (9, .int v9), (11, .int v11)] [.int s0] h (b_X10_total_173 k65 h v0 v2 v3 v5 v6 v7 v8 v9 v11 s0) := by
  unfold b_X10_total_173
  refine j_iconst (pc := 173) ki_0 dX10_total_173 ?_
  exact jb_X10_total_174 k65 hk65 _ _ _ _ _ _ _ _ _ _ _ _
set_option maxRecDepth 20000 in
set_option maxHeartbeats 1000000 in
theorem jb_X10_total_149 {G : q_G} {l : Launch} {k0 z0 : Nat} (k65 : q_H → Nat → Int32 → Int32 → Int32 → Int32 → Int32 → Int32 → Int32 → Int32 → Int32 → Option (q_H × Int32)) (hk65 : ∀ (h : q_H) (v0 : Nat) (v2 : Int32) (v3 : Int32) (v5 : Int32) (v6 : Int32) (v7 : Int32) (v8 : Int32) (v9 : Int32) (v10 : Int32) (v11 : Int32), q_J G l (RX10, cX10_total, 12, 24, 594, (some .int), "total", []) k0 z0 (q_Z G k0 z0 q_i) 65 [(0, .ref v0), (2, .int v2), (3, .int v3), (5, .int v5), (6, .int v6), (7, .int v7), (8, .int v8), (9, .int v9), (10, .int v10), (11, .int v11)] [] h (k65 h v0 v2 v3 v5 v6 v7 v8 v9 v10 v11)) (h : q_H) (v0 : Nat) (v2 : Int32) (v3 : Int32) (v5 : Int32) (v6 : Int32) (v7 : Int32) (v8 : Int32) (v10 : Int32) (v11 : Int32) (s0 : Int32) : q_J G l (RX10, cX10_total, 12, 24, 594, (some .int), "total", []) k0 z0 (q_Z G k0 z0 q_i) 149 [(0, .ref v0), (2, .int v2), (3, .int v3), (5, .int v5), (6, .int v6), (7, .int v7), (8, .int v8), (10, .int v10), (11, .int v11)] [.int s0] h (b_X10_total_149 k65 h v0 v2 v3 v5 v6 v7 v8 v10 v11 s0) := by
  unfold b_X10_total_149
  refine j_istore (pc := 149) (lv' := [(9, .int s0), (0, .ref v0), (2, .int v2), (3, .int v3), (5, .int v5), (6, .int v6), (7, .int v7), (8, .int v8), (10, .int v10), (11, .int v11)]) (by decide) rfl dX10_total_149 ?_
  refine j_iload (pc := 151) (p := 8) rfl dX10_total_151 ?_
  refine j_iload (pc := 153) (p := 9) rfl dX10_total_153 ?_
  refine j_iconst (pc := 155) ki_2 dX10_total_155 ?_
  refine j_ic_lt (pc := 156) (tgt := 173) dX10_total_156 (by decide) (fun _ => ?_) (fun _ => ?_)
  · refine j_sub [1, 2, 3, 4, 5, 6, 7, 0, 9] (lv' := [(0, .ref v0), (2, .int v2), (3, .int v3), (5, .int v5), (6, .int v6), (7, .int v7), (8, .int v8), (9, .int s0), (11, .int v11)]) rfl ?_
    exact jb_X10_total_173 k65 hk65 _ _ _ _ _ _ _ _ _ _ _
  refine j_aload_n (pc := 159) (p := 1) rfl rfl dX10_total_159 ?_
  refine j_iconst (pc := 160) ki_0 dX10_total_160 ?_
  refine j_iload (pc := 161) (p := 9) rfl dX10_total_161 ?_
  refine j_cVi (pc := 163) Y_X10_rank (ci := 9) (b := v0) rfl rfl ml_X10_168 im_X10_rank se_X10_rank ⟨Nat.le_of_ble_eq_true rfl, Nat.le_of_ble_eq_true rfl⟩ dX10_total_163 (As := [.int (0), .int v11]) (rest := [.int v10]) rfl rfl (Nat.le_of_ble_eq_true rfl) (fun x hq9 => c_X10_rank _ _ _ _ _ hq9) (fun q2 _ => ?_)
  refine j_if_le (pc := 166) (tgt := 173) dX10_total_166 (by decide) (fun _ => ?_) (fun _ => ?_)
  · refine j_sub [1, 2, 3, 4, 5, 6, 7, 0, 9] (lv' := [(0, .ref v0), (2, .int v2), (3, .int v3), (5, .int v5), (6, .int v6), (7, .int v7), (8, .int v8), (9, .int s0), (11, .int v11)]) rfl ?_
    exact jb_X10_total_173 k65 hk65 _ _ _ _ _ _ _ _ _ _ _
  refine j_iconst (pc := 169) ki_1 dX10_total_169 ?_
  refine j_goto (pc := 170) (tgt := 174) dX10_total_170 (by decide) ?_
  refine j_sub [1, 2, 3, 4, 5, 6, 7, 0, 9] (lv' := [(0, .ref v0), (2, .int v2), (3, .int v3), (5, .int v5), (6, .int v6), (7, .int v7), (8, .int v8), (9, .int s0), (11, .int v11)]) rfl ?_
  exact jb_X10_total_174 k65 hk65 _ _ _ _ _ _ _ _ _ _ _ _
set_option maxRecDepth 20000 in
set_option maxHeartbeats 1000000 in
theorem jb_X10_total_105 {G : q_G} {l : Launch} {k0 z0 : Nat} (k65 : q_H → Nat → Int32 → Int32 → Int32 → Int32 → Int32 → Int32 → Int32 → Int32 → Int32 → Option (q_H × Int32)) (hk65 : ∀ (h : q_H) (v0 : Nat) (v2 : Int32) (v3 : Int32) (v5 : Int32) (v6 : Int32) (v7 : Int32) (v8 : Int32) (v9 : Int32) (v10 : Int32) (v11 : Int32), q_J G l (RX10, cX10_total, 12, 24, 594, (some .int), "total", []) k0 z0 (q_Z G k0 z0 q_i) 65 [(0, .ref v0), (2, .int v2), (3, .int v3), (5, .int v5), (6, .int v6), (7, .int v7), (8, .int v8), (9, .int v9), (10, .int v10), (11, .int v11)] [] h (k65 h v0 v2 v3 v5 v6 v7 v8 v9 v10 v11)) (h : q_H) (v0 : Nat) (v2 : Int32) (v3 : Int32) (v5 : Int32) (v6 : Int32) (v8 : Int32) (v9 : Int32) (v10 : Int32) (v11 : Int32) (s0 : Int32) (s1 : Int32) : q_J G l (RX10, cX10_total, 12, 24, 594, (some .int), "total", []) k0 z0 (q_Z G k0 z0 q_i) 105 [(0, .ref v0), (2, .int v2), (3, .int v3), (5, .int v5), (6, .int v6), (8, .int v8), (9, .int v9), (10, .int v10), (11, .int v11)] [.int s1, .int s0] h (b_X10_total_105 k65 h v0 v2 v3 v5 v6 v8 v9 v10 v11 s0 s1) := by
  unfold b_X10_total_105
  refine j_cSi (pc := 105) Y_X10_flag ml_X10_115 sm_X10_flag ⟨Nat.le_of_ble_eq_true rfl, Nat.le_of_ble_eq_true rfl⟩ dX10_total_105 (As := [.int s1]) (rest := [.int s0]) rfl rfl (Nat.le_of_ble_eq_true rfl) (fun x hq9 => c_X10_flag _ _ _ hq9) (fun q3 _ => ?_)
  refine j_iadd (pc := 108) dX10_total_108 ?_
  refine j_istore (pc := 109) (lv' := [(7, .int (s0 + q3.2)), (0, .ref v0), (2, .int v2), (3, .int v3), (5, .int v5), (6, .int v6), (8, .int v8), (9, .int v9), (10, .int v10), (11, .int v11)]) (by decide) rfl dX10_total_109 ?_
  refine j_iload (pc := 111) (p := 6) rfl dX10_total_111 ?_
  refine j_aload_n (pc := 113) (p := 1) rfl rfl dX10_total_113 ?_
  refine j_iload (pc := 114) (p := 9) rfl dX10_total_114 ?_
  refine j_iload_n (pc := 116) (p := 2) rfl rfl dX10_total_116 ?_
  refine j_cVi (pc := 117) Y_X10_stepsUp (ci := 9) (b := v0) rfl rfl ml_X10_299 im_X10_stepsUp se_X10_stepsUp ⟨Nat.le_of_ble_eq_true rfl, Nat.le_of_ble_eq_true rfl⟩ dX10_total_117 (As := [.int v11, .int v2]) (rest := [.int v8]) rfl rfl (Nat.le_of_ble_eq_true rfl) (fun x hq9 => c_X10_stepsUp _ _ _ _ _ hq9) (fun q4 _ => ?_)
  refine j_max (pc := 120) ml_X10_209 sm_max ini_Math co_max ⟨Nat.le_of_ble_eq_true rfl, Nat.le_of_ble_eq_true rfl⟩ dX10_total_120 ?_
  refine j_istore (pc := 123) (lv' := [(8, .int (q_max v8 q4.2)), (7, .int (s0 + q3.2)), (0, .ref v0), (2, .int v2), (3, .int v3), (5, .int v5), (6, .int v6), (9, .int v9), (10, .int v10), (11, .int v11)]) (by decide) rfl dX10_total_123 ?_
  refine j_iload (pc := 125) (p := 9) rfl dX10_total_125 ?_
  refine j_iconst (pc := 127) ki_2 dX10_total_127 ?_
  refine j_ic_ge (pc := 128) (tgt := 136) dX10_total_128 (by decide) (fun _ => ?_) (fun _ => ?_)
  · refine j_iload (pc := 136) (p := 7) rfl dX10_total_136 ?_
    refine j_aload_n (pc := 138) (p := 2) rfl rfl dX10_total_138 ?_
    refine j_iconst (pc := 139) ki_0 dX10_total_139 ?_
    refine j_iload (pc := 140) (p := 9) rfl dX10_total_140 ?_
    refine j_iconst (pc := 142) ki_2 dX10_total_142 ?_
    refine j_cVi (pc := 143) Y_X10_its (ci := 9) (b := v0) rfl rfl ml_X10_129 im_X10_its se_X10_its ⟨Nat.le_of_ble_eq_true rfl, Nat.le_of_ble_eq_true rfl⟩ dX10_total_143 (As := [.int (0), .int v11, .int (2)]) (rest := [.int v9]) rfl rfl (Nat.le_of_ble_eq_true rfl) (fun x hq9 => c_X10_its _ _ _ _ _ _ hq9) (fun q5 _ => ?_)
    refine j_max (pc := 146) ml_X10_209 sm_max ini_Math co_max ⟨Nat.le_of_ble_eq_true rfl, Nat.le_of_ble_eq_true rfl⟩ dX10_total_146 ?_
    refine j_sub [2, 3, 4, 5, 6, 1, 0, 8, 9] (lv' := [(0, .ref v0), (2, .int v2), (3, .int v3), (5, .int v5), (6, .int v6), (7, .int (s0 + q3.2)), (8, .int (q_max v8 q4.2)), (10, .int v10), (11, .int v11)]) rfl ?_
    exact jb_X10_total_149 k65 hk65 _ _ _ _ _ _ _ _ _ _ _
  refine j_iload (pc := 131) (p := 7) rfl dX10_total_131 ?_
  refine j_goto (pc := 133) (tgt := 149) dX10_total_133 (by decide) ?_
  refine j_sub [2, 3, 4, 5, 6, 1, 0, 8, 9] (lv' := [(0, .ref v0), (2, .int v2), (3, .int v3), (5, .int v5), (6, .int v6), (7, .int (s0 + q3.2)), (8, .int (q_max v8 q4.2)), (10, .int v10), (11, .int v11)]) rfl ?_
  exact jb_X10_total_149 k65 hk65 _ _ _ _ _ _ _ _ _ _ _
set_option maxRecDepth 20000 in
set_option maxHeartbeats 1000000 in
theorem jb_X10_total_65 {G : q_G} {l : Launch} {k0 z0 : Nat} (k65 : q_H → Nat → Int32 → Int32 → Int32 → Int32 → Int32 → Int32 → Int32 → Int32 → Int32 → Option (q_H × Int32)) (hk65 : ∀ (h : q_H) (v0 : Nat) (v2 : Int32) (v3 : Int32) (v5 : Int32) (v6 : Int32) (v7 : Int32) (v8 : Int32) (v9 : Int32) (v10 : Int32) (v11 : Int32), q_J G l (RX10, cX10_total, 12, 24, 594, (some .int), "total", []) k0 z0 (q_Z G k0 z0 q_i) 65 [(0, .ref v0), (2, .int v2), (3, .int v3), (5, .int v5), (6, .int v6), (7, .int v7), (8, .int v8), (9, .int v9), (10, .int v10), (11, .int v11)] [] h (k65 h v0 v2 v3 v5 v6 v7 v8 v9 v10 v11)) (h : q_H) (v0 : Nat) (v2 : Int32) (v3 : Int32) (v5 : Int32) (v6 : Int32) (v7 : Int32) (v8 : Int32) (v9 : Int32) (v10 : Int32) (v11 : Int32) : q_J G l (RX10, cX10_total, 12, 24, 594, (some .int), "total", []) k0 z0 (q_Z G k0 z0 q_i) 65 [(0, .ref v0), (2, .int v2), (3, .int v3), (5, .int v5), (6, .int v6), (7, .int v7), (8, .int v8), (9, .int v9), (10, .int v10), (11, .int v11)] [] h (b_X10_total_65 k65 h v0 v2 v3 v5 v6 v7 v8 v9 v10 v11) := by
  unfold b_X10_total_65
  refine j_iload (pc := 65) (p := 9) rfl dX10_total_65 ?_
  refine j_bipush (pc := 67) kb_14 dX10_total_67 ?_
  refine j_ic_ge (pc := 69) (tgt := 186) dX10_total_69 (by decide) (fun _ => ?_) (fun _ => ?_)
  · refine j_iload_n (pc := 186) (p := 2) rfl rfl dX10_total_186 ?_
    refine j_ite (fun c6 => ?_) (fun c6 => ?_)
    · refine j_tsI (pc := 187) (y := 0) (off := 33) (tgt := 220) dX10_total_187 c6 ⟨by decide, by decide, by decide⟩ (by decide) ?_
      refine j_iload (pc := 220) (p := 4) rfl dX10_total_220 ?_
      exact j_iret (pc := 222) rfl dX10_total_222
    refine j_ite (fun c7 => ?_) (fun c7 => ?_)
    · refine j_tsI (pc := 187) (y := 1) (off := 36) (tgt := 223) dX10_total_187 c7 ⟨by decide, by decide, by decide⟩ (by decide) ?_
      refine j_iload (pc := 223) (p := 5) rfl dX10_total_223 ?_
      exact j_iret (pc := 225) rfl dX10_total_225
    refine j_ite (fun c8 => ?_) (fun c8 => ?_)
    · refine j_tsI (pc := 187) (y := 2) (off := 39) (tgt := 226) dX10_total_187 c8 ⟨by decide, by decide, by decide⟩ (by decide) ?_
      refine j_iload (pc := 226) (p := 6) rfl dX10_total_226 ?_
      exact j_iret (pc := 228) rfl dX10_total_228
    refine j_ite (fun c9 => ?_) (fun c9 => ?_)
    · refine j_tsI (pc := 187) (y := 3) (off := 42) (tgt := 229) dX10_total_187 c9 ⟨by decide, by decide, by decide⟩ (by decide) ?_
      refine j_iload (pc := 229) (p := 7) rfl dX10_total_229 ?_
      exact j_iret (pc := 231) rfl dX10_total_231
    refine j_ite (fun c10 => ?_) (fun c10 => ?_)
    · refine j_tsI (pc := 187) (y := 4) (off := 45) (tgt := 232) dX10_total_187 c10 ⟨by decide, by decide, by decide⟩ (by decide) ?_
      refine j_iload (pc := 232) (p := 8) rfl dX10_total_232 ?_
      exact j_iret (pc := 234) rfl dX10_total_234
    refine j_tsO (pc := 187) (tgt := 235) dX10_total_187 (by have a_c6 := lv_neT c6 (show ((0 : Int32)).toInt = 0 by decide); have a_c7 := lv_neT c7 (show ((1 : Int32)).toInt = 1 by decide); have a_c8 := lv_neT c8 (show ((2 : Int32)).toInt = 2 by decide); have a_c9 := lv_neT c9 (show ((3 : Int32)).toInt = 3 by decide); have a_c10 := lv_neT c10 (show ((4 : Int32)).toInt = 4 by decide); omega) (by decide) ?_
    refine j_aload_n (pc := 235) (p := 0) rfl rfl dX10_total_235 ?_
    refine j_iload_n (pc := 236) (p := 1) rfl rfl dX10_total_236 ?_
    refine j_cVi (pc := 237) Y_X10_worth (ci := 9) (b := v0) rfl rfl ml_X10_305 im_X10_worth se_X10_worth ⟨Nat.le_of_ble_eq_true rfl, Nat.le_of_ble_eq_true rfl⟩ dX10_total_237 (As := [.int v2]) (rest := []) rfl rfl (Nat.le_of_ble_eq_true rfl) (fun x hq9 => (c_X10_worth q_RD) _ _ _ _ hq9) (fun q11 _ => ?_)
    exact j_iret (pc := 240) rfl dX10_total_240
  refine j_iload (pc := 72) (p := 3) rfl dX10_total_72 ?_
  refine j_iload (pc := 74) (p := 9) rfl dX10_total_74 ?_
  refine j_cSi (pc := 76) Y_X10_has ml_X10_302 sm_X10_has ⟨Nat.le_of_ble_eq_true rfl, Nat.le_of_ble_eq_true rfl⟩ dX10_total_76 (As := [.int v5, .int v11]) (rest := []) rfl rfl (Nat.le_of_ble_eq_true rfl) (fun x hq9 => c_X10_has _ _ _ _ hq9) (fun q12 _ => ?_)
  refine j_if_ne (pc := 79) (tgt := 85) dX10_total_79 (by decide) (fun _ => ?_) (fun _ => ?_)
  · refine j_goto (pc := 82) (tgt := 180) dX10_total_82 (by decide) ?_
    exact jb_X10_total_180 k65 hk65 _ _ _ _ _ _ _ _ _ _ _
  refine j_inc (pc := 85) (p := 4) (lv' := [(6, .int (v6 + 1)), (0, .ref v0), (2, .int v2), (3, .int v3), (5, .int v5), (7, .int v7), (8, .int v8), (9, .int v9), (10, .int v10), (11, .int v11)]) rfl ki_1 (by decide) rfl dX10_total_85 ?_
  refine j_iload (pc := 88) (p := 5) rfl dX10_total_88 ?_
  refine j_aload_n (pc := 90) (p := 1) rfl rfl dX10_total_90 ?_
  refine j_iconst (pc := 91) ki_0 dX10_total_91 ?_
  refine j_iload (pc := 92) (p := 9) rfl dX10_total_92 ?_
  refine j_cVi (pc := 94) Y_X10_rightBelow (ci := 9) (b := v0) rfl rfl ml_X10_293 im_X10_rightBelow se_X10_rightBelow ⟨Nat.le_of_ble_eq_true rfl, Nat.le_of_ble_eq_true rfl⟩ dX10_total_94 (As := [.int (0), .int v11]) (rest := [.int v7]) rfl rfl (Nat.le_of_ble_eq_true rfl) (fun x hq9 => c_X10_rightBelow _ _ _ _ _ hq9) (fun q13 _ => ?_)
  refine j_if_ne (pc := 97) (tgt := 104) dX10_total_97 (by decide) (fun _ => ?_) (fun _ => ?_)
  · refine j_iconst (pc := 100) ki_1 dX10_total_100 ?_
    refine j_goto (pc := 101) (tgt := 105) dX10_total_101 (by decide) ?_
    refine j_sub [1, 2, 3, 4, 0, 6, 7, 8, 9] (lv' := [(0, .ref v0), (2, .int v2), (3, .int v3), (5, .int v5), (6, .int (v6 + 1)), (8, .int v8), (9, .int v9), (10, .int v10), (11, .int v11)]) rfl ?_
    exact jb_X10_total_105 k65 hk65 _ _ _ _ _ _ _ _ _ _ _ _
  refine j_iconst (pc := 104) ki_0 dX10_total_104 ?_
  refine j_sub [1, 2, 3, 4, 0, 6, 7, 8, 9] (lv' := [(0, .ref v0), (2, .int v2), (3, .int v3), (5, .int v5), (6, .int (v6 + 1)), (8, .int v8), (9, .int v9), (10, .int v10), (11, .int v11)]) rfl ?_
  exact jb_X10_total_105 k65 hk65 _ _ _ _ _ _ _ _ _ _ _ _
set_option maxRecDepth 20000 in
set_option maxHeartbeats 1000000 in
theorem jl_X10_total_65 {G : q_G} {l : Launch} {k0 z0 : Nat} (n : Nat) : ∀ (h : q_H) (v0 : Nat) (v2 : Int32) (v3 : Int32) (v5 : Int32) (v6 : Int32) (v7 : Int32) (v8 : Int32) (v9 : Int32) (v10 : Int32) (v11 : Int32), q_J G l (RX10, cX10_total, 12, 24, 594, (some .int), "total", []) k0 z0 (q_Z G k0 z0 q_i) 65 [(0, .ref v0), (2, .int v2), (3, .int v3), (5, .int v5), (6, .int v6), (7, .int v7), (8, .int v8), (9, .int v9), (10, .int v10), (11, .int v11)] [] h (l_X10_total_65 n h v0 v2 v3 v5 v6 v7 v8 v9 v10 v11) := by
  induction n with
  | zero => intro h v0 v2 v3 v5 v6 v7 v8 v9 v10 v11; exact j_none
  | succ n ih => intro h v0 v2 v3 v5 v6 v7 v8 v9 v10 v11; exact jb_X10_total_65 (l_X10_total_65 n) ih h v0 v2 v3 v5 v6 v7 v8 v9 v10 v11
set_option maxRecDepth 20000 in
set_option maxHeartbeats 1000000 in
theorem jb_X10_total_0 {G : q_G} {l : Launch} {k0 z0 : Nat} (h : q_H) (v0 : Nat) (v1 : Int32) (v2 : Int32) (v3 : Int32) : q_J G l (RX10, cX10_total, 12, 24, 594, (some .int), "total", []) k0 z0 (q_Z G k0 z0 q_i) 0 [(0, .ref v0), (1, .int v1), (2, .int v2), (3, .int v3)] [] h (b_X10_total_0 h v0 v1 v2 v3) := by
  unfold b_X10_total_0
  refine j_aload_n (pc := 0) (p := 0) rfl rfl dX10_total_0 ?_
  refine j_iconst (pc := 1) ki_0 dX10_total_1 ?_
  refine j_put (pc := 2) FI_X10 (k := 0) (by decide) fl_X10_1 rfl rfl rfl dX10_total_2 (fun h14 _ => ?_)
  refine j_iload_n (pc := 5) (p := 3) rfl rfl dX10_total_5 ?_
  refine j_i2l (pc := 6) dX10_total_6 ?_
  refine j_lconst (pc := 7) kl_0 dX10_total_7 ?_
  refine j_ldc2 (pc := 8) cL_X10_171 dX10_total_8 ?_
  refine j_cSi (pc := 11) Y_X10_in ml_X10_21 sm_X10_in ⟨Nat.le_of_ble_eq_true rfl, Nat.le_of_ble_eq_true rfl⟩ dX10_total_11 (As := [.long (Int32.toInt64 v3), .long (0), .long (5)]) (rest := []) rfl rfl (Nat.le_of_ble_eq_true rfl) (fun x hq9 => c_X10_in _ _ _ _ _ hq9) (fun q15 _ => ?_)
  refine j_if_ne (pc := 14) (tgt := 19) dX10_total_14 (by decide) (fun _ => ?_) (fun _ => ?_)
  · refine j_iconst (pc := 17) ki_m1 dX10_total_17 ?_
    exact j_iret (pc := 18) rfl dX10_total_18
  refine j_aload_n (pc := 19) (p := 0) rfl rfl dX10_total_19 ?_
  refine j_iload_n (pc := 20) (p := 1) rfl rfl dX10_total_20 ?_
  refine j_iload_n (pc := 21) (p := 2) rfl rfl dX10_total_21 ?_
  refine j_cVi (pc := 22) Y_X10_asked (ci := 9) (b := v0) rfl rfl ml_X10_287 im_X10_asked se_X10_asked ⟨Nat.le_of_ble_eq_true rfl, Nat.le_of_ble_eq_true rfl⟩ dX10_total_22 (As := [.int v1, .int v2]) (rest := []) rfl rfl (Nat.le_of_ble_eq_true rfl) (fun x hq9 => c_X10_asked _ _ _ _ _ hq9) (fun q16 _ => ?_)
  refine j_istore (pc := 25) (lv' := [(4, .int q16.2), (0, .ref v0), (1, .int v1), (2, .int v2), (3, .int v3)]) (by decide) rfl dX10_total_25 ?_
  refine j_iload (pc := 27) (p := 0) rfl dX10_total_27 ?_
  refine j_if_ge (pc := 29) (tgt := 35) dX10_total_29 (by decide) (fun _ => ?_) (fun _ => ?_)
  · refine j_aload_n (pc := 35) (p := 1) rfl rfl dX10_total_35 ?_
    refine j_iconst (pc := 36) ki_0 dX10_total_36 ?_
    refine j_iload_n (pc := 37) (p := 3) rfl rfl dX10_total_37 ?_
    refine j_cVi (pc := 38) Y_X10_allBelow (ci := 9) (b := v0) rfl rfl ml_X10_290 im_X10_allBelow se_X10_allBelow ⟨Nat.le_of_ble_eq_true rfl, Nat.le_of_ble_eq_true rfl⟩ dX10_total_38 (As := [.int (0), .int v2]) (rest := []) rfl rfl (Nat.le_of_ble_eq_true rfl) (fun x hq9 => c_X10_allBelow _ _ _ _ _ hq9) (fun q17 _ => ?_)
    refine j_iconst (pc := 41) ki_1 dX10_total_41 ?_
    refine j_iload_n (pc := 42) (p := 3) rfl rfl dX10_total_42 ?_
    refine j_ishl (pc := 43) dX10_total_43 ?_
    refine j_ior (pc := 44) dX10_total_44 ?_
    refine j_istore (pc := 45) (lv' := [(5, .int (q17.2 ||| ((1) <<< (v2 &&& 31)))), (4, .int q16.2), (0, .ref v0), (1, .int v1), (2, .int v2), (3, .int v3)]) (by decide) rfl dX10_total_45 ?_
    refine j_iconst (pc := 47) ki_0 dX10_total_47 ?_
    refine j_istore (pc := 48) (lv' := [(6, .int (0)), (5, .int (q17.2 ||| ((1) <<< (v2 &&& 31)))), (4, .int q16.2), (0, .ref v0), (1, .int v1), (2, .int v2), (3, .int v3)]) (by decide) rfl dX10_total_48 ?_
    refine j_iconst (pc := 50) ki_0 dX10_total_50 ?_
    refine j_istore (pc := 51) (lv' := [(7, .int (0)), (6, .int (0)), (5, .int (q17.2 ||| ((1) <<< (v2 &&& 31)))), (4, .int q16.2), (0, .ref v0), (1, .int v1), (2, .int v2), (3, .int v3)]) (by decide) rfl dX10_total_51 ?_
    refine j_iconst (pc := 53) ki_0 dX10_total_53 ?_
    refine j_istore (pc := 54) (lv' := [(8, .int (0)), (7, .int (0)), (6, .int (0)), (5, .int (q17.2 ||| ((1) <<< (v2 &&& 31)))), (4, .int q16.2), (0, .ref v0), (1, .int v1), (2, .int v2), (3, .int v3)]) (by decide) rfl dX10_total_54 ?_
    refine j_iconst (pc := 56) ki_0 dX10_total_56 ?_
    refine j_istore (pc := 57) (lv' := [(9, .int (0)), (8, .int (0)), (7, .int (0)), (6, .int (0)), (5, .int (q17.2 ||| ((1) <<< (v2 &&& 31)))), (4, .int q16.2), (0, .ref v0), (1, .int v1), (2, .int v2), (3, .int v3)]) (by decide) rfl dX10_total_57 ?_
    refine j_iconst (pc := 59) ki_0 dX10_total_59 ?_
    refine j_istore (pc := 60) (lv' := [(10, .int (0)), (9, .int (0)), (8, .int (0)), (7, .int (0)), (6, .int (0)), (5, .int (q17.2 ||| ((1) <<< (v2 &&& 31)))), (4, .int q16.2), (0, .ref v0), (1, .int v1), (2, .int v2), (3, .int v3)]) (by decide) rfl dX10_total_60 ?_
    refine j_iconst (pc := 62) ki_0 dX10_total_62 ?_
    refine j_istore (pc := 63) (lv' := [(11, .int (0)), (10, .int (0)), (9, .int (0)), (8, .int (0)), (7, .int (0)), (6, .int (0)), (5, .int (q17.2 ||| ((1) <<< (v2 &&& 31)))), (4, .int q16.2), (0, .ref v0), (1, .int v1), (2, .int v2), (3, .int v3)]) (by decide) rfl dX10_total_63 ?_
    refine j_sub [8, 10, 11, 6, 5, 4, 3, 2, 1, 0] (lv' := [(0, .ref v0), (2, .int v2), (3, .int v3), (5, .int (q17.2 ||| ((1) <<< (v2 &&& 31)))), (6, .int (0)), (7, .int (0)), (8, .int (0)), (9, .int (0)), (10, .int (0)), (11, .int (0))]) rfl ?_
    exact jl_X10_total_65 q_FU _ _ _ _ _ _ _ _ _ _ _
  refine j_iload (pc := 32) (p := 0) rfl dX10_total_32 ?_
  exact j_iret (pc := 34) rfl dX10_total_34
set_option maxRecDepth 20000 in
set_option maxHeartbeats 1000000 in
theorem c_X10_total {G : q_G} {l : Launch} : ∀ (h : q_H) (a0 : Nat) (a1 : Int32) (a2 : Int32) (a3 : Int32) (q : q_H × Int32), f_X10_total h a0 a1 a2 a3 = some q → (∃ fs, h.1 a0 = .inr (9, fs)) ∧ q_CT G l yX10_total cX10_total 12 (some .int) 24 594 [.ref a0, .int a1, .int a2, .int a3] h q.1 (q_i q.2) := by
  intro h a0 a1 a2 a3 q e
  obtain ⟨e1, e2⟩ := q_chk_ok e
  exact ⟨e1, q_ofJ Y_X10_total (Nat.le_of_ble_eq_true rfl) (jb_X10_total_0 h a0 a1 a2 a3) q e2⟩
