/-! FarFolders.total(III)I -/
theorem dX9_total_0 : decode cX9_total 0 = .ok (.iload_n 3, 1) := by decide +kernel
theorem dX9_total_1 : decode cX9_total 1 = .ok (.ifCond .lt 8, 3) := by decide +kernel
theorem dX9_total_4 : decode cX9_total 4 = .ok (.iload_n 3, 1) := by decide +kernel
theorem dX9_total_5 : decode cX9_total 5 = .ok (.iconst 5, 1) := by decide +kernel
theorem dX9_total_6 : decode cX9_total 6 = .ok (.if_icmp .le 5, 3) := by decide +kernel
theorem dX9_total_9 : decode cX9_total 9 = .ok (.iconst (-1), 1) := by decide +kernel
theorem dX9_total_10 : decode cX9_total 10 = .ok (.ireturn, 1) := by decide +kernel
theorem dX9_total_11 : decode cX9_total 11 = .ok (.aload_n 0, 1) := by decide +kernel
theorem dX9_total_12 : decode cX9_total 12 = .ok (.iload_n 1, 1) := by decide +kernel
theorem dX9_total_13 : decode cX9_total 13 = .ok (.iload_n 2, 1) := by decide +kernel
theorem dX9_total_14 : decode cX9_total 14 = .ok (.invokevirtual 212, 3) := by decide +kernel
theorem dX9_total_17 : decode cX9_total 17 = .ok (.istore 4, 2) := by decide +kernel
theorem dX9_total_19 : decode cX9_total 19 = .ok (.iload 4, 2) := by decide +kernel
theorem dX9_total_21 : decode cX9_total 21 = .ok (.ifCond .ge 6, 3) := by decide +kernel
theorem dX9_total_24 : decode cX9_total 24 = .ok (.iload 4, 2) := by decide +kernel
theorem dX9_total_26 : decode cX9_total 26 = .ok (.ireturn, 1) := by decide +kernel
theorem dX9_total_27 : decode cX9_total 27 = .ok (.aload_n 0, 1) := by decide +kernel
theorem dX9_total_28 : decode cX9_total 28 = .ok (.getfield 12, 3) := by decide +kernel
theorem dX9_total_31 : decode cX9_total 31 = .ok (.getfield 82, 3) := by decide +kernel
theorem dX9_total_34 : decode cX9_total 34 = .ok (.iload_n 1, 1) := by decide +kernel
theorem dX9_total_35 : decode cX9_total 35 = .ok (.aaload, 1) := by decide +kernel
theorem dX9_total_36 : decode cX9_total 36 = .ok (.getfield 86, 3) := by decide +kernel
theorem dX9_total_39 : decode cX9_total 39 = .ok (.astore 5, 2) := by decide +kernel
theorem dX9_total_41 : decode cX9_total 41 = .ok (.iload_n 3, 1) := by decide +kernel
theorem dX9_total_42 : decode cX9_total 42 = .ok (.tableswitch 72 0 4 #[34, 44, 51, 58, 65], 34) := by decide +kernel
theorem dX9_total_76 : decode cX9_total 76 = .ok (.aload 5, 2) := by decide +kernel
theorem dX9_total_78 : decode cX9_total 78 = .ok (.iload_n 2, 1) := by decide +kernel
theorem dX9_total_79 : decode cX9_total 79 = .ok (.invokevirtual 215, 3) := by decide +kernel
theorem dX9_total_82 : decode cX9_total 82 = .ok (.invokestatic 218, 3) := by decide +kernel
theorem dX9_total_85 : decode cX9_total 85 = .ok (.ireturn, 1) := by decide +kernel
theorem dX9_total_86 : decode cX9_total 86 = .ok (.aload 5, 2) := by decide +kernel
theorem dX9_total_88 : decode cX9_total 88 = .ok (.iload_n 2, 1) := by decide +kernel
theorem dX9_total_89 : decode cX9_total 89 = .ok (.invokevirtual 238, 3) := by decide +kernel
theorem dX9_total_92 : decode cX9_total 92 = .ok (.ireturn, 1) := by decide +kernel
theorem dX9_total_93 : decode cX9_total 93 = .ok (.aload 5, 2) := by decide +kernel
theorem dX9_total_95 : decode cX9_total 95 = .ok (.iload_n 2, 1) := by decide +kernel
theorem dX9_total_96 : decode cX9_total 96 = .ok (.invokevirtual 241, 3) := by decide +kernel
theorem dX9_total_99 : decode cX9_total 99 = .ok (.ireturn, 1) := by decide +kernel
theorem dX9_total_100 : decode cX9_total 100 = .ok (.aload 5, 2) := by decide +kernel
theorem dX9_total_102 : decode cX9_total 102 = .ok (.iload_n 2, 1) := by decide +kernel
theorem dX9_total_103 : decode cX9_total 103 = .ok (.invokevirtual 244, 3) := by decide +kernel
theorem dX9_total_106 : decode cX9_total 106 = .ok (.ireturn, 1) := by decide +kernel
theorem dX9_total_107 : decode cX9_total 107 = .ok (.aload 5, 2) := by decide +kernel
theorem dX9_total_109 : decode cX9_total 109 = .ok (.iload_n 2, 1) := by decide +kernel
theorem dX9_total_110 : decode cX9_total 110 = .ok (.invokevirtual 247, 3) := by decide +kernel
theorem dX9_total_113 : decode cX9_total 113 = .ok (.ireturn, 1) := by decide +kernel
theorem dX9_total_114 : decode cX9_total 114 = .ok (.aload 5, 2) := by decide +kernel
theorem dX9_total_116 : decode cX9_total 116 = .ok (.iload_n 2, 1) := by decide +kernel
theorem dX9_total_117 : decode cX9_total 117 = .ok (.iconst 0, 1) := by decide +kernel
theorem dX9_total_118 : decode cX9_total 118 = .ok (.invokestatic 250, 3) := by decide +kernel
theorem dX9_total_121 : decode cX9_total 121 = .ok (.ireturn, 1) := by decide +kernel
def b_X9_total_0 (h : q_H) (v0 : Nat) (v1 : Int32) (v2 : Int32) (v3 : Int32) : Option (q_H × Int32) :=
  if v3 < 0 then some (h, (-1)) else if v3 ≤ (5) then Option.bind (f_X9_refusalOf h v0 v1 v2) (fun q1 => if 0 ≤ q1.2 then Option.bind (q_gR 8 0 q1.1 v0) (fun x2 => Option.bind (q_gR 7 0 q1.1 x2) (fun x3 => Option.bind (q_lR 4 q1.1 x3 v1) (fun x4 => Option.bind (q_gR 0 5 q1.1 x4) (fun x5 => if v3 = (0) then Option.bind (f_X7_allWithin q1.1 x5 v2) (fun q7 => Option.bind (f_J6_bitCount_0f7a4 q7.1 q7.2) (fun q8 => some (q8.1, q8.2))) else if v3 = (1) then Option.bind (f_X7_leavesWithin q1.1 x5 v2) (fun q10 => some (q10.1, q10.2)) else if v3 = (2) then Option.bind (f_X7_stepsDown q1.1 x5 v2) (fun q12 => some (q12.1, q12.2)) else if v3 = (3) then Option.bind (f_X7_latestWithin q1.1 x5 v2) (fun q14 => some (q14.1, q14.2)) else if v3 = (4) then Option.bind (f_X7_rankedWithin q1.1 x5 v2) (fun q16 => some (q16.1, q16.2)) else Option.bind (f_X7_weigh q_RD q1.1 x5 v2 (0)) (fun q17 => some (q17.1, q17.2)))))) else some (q1.1, q1.2)) else some (h, (-1))
def f_X9_total (h : q_H) (a0 : Nat) (a1 : Int32) (a2 : Int32) (a3 : Int32) : Option (q_H × Int32) := q_chk 8 h a0 (b_X9_total_0 h a0 a1 a2 a3)
set_option maxRecDepth 20000 in
set_option maxHeartbeats 1000000 in
theorem jb_X9_total_0 {G : q_G} {l : Launch} {k0 z0 : Nat} (h : q_H) (v0 : Nat) (v1 : Int32) (v2 : Int32) (v3 : Int32) : q_J G l (RX9, cX9_total, 6, 23, 547, (some .int), "total", []) k0 z0 (q_Z G k0 z0 q_i) 0 [(0, .ref v0), (1, .int v1), (2, .int v2), (3, .int v3)] [] h (b_X9_total_0 h v0 v1 v2 v3) := by
  unfold b_X9_total_0
  refine j_iload_n (pc := 0) (p := 3) rfl rfl dX9_total_0 ?_
  refine j_if_lt (pc := 1) (tgt := 9) dX9_total_1 (by decide) (fun _ => ?_) (fun _ => ?_)
  · refine j_iconst (pc := 9) ki_m1 dX9_total_9 ?_
    exact j_iret (pc := 10) rfl dX9_total_10
  refine j_iload_n (pc := 4) (p := 3) rfl rfl dX9_total_4 ?_
  refine j_iconst (pc := 5) ki_5 dX9_total_5 ?_
  refine j_ic_le (pc := 6) (tgt := 11) dX9_total_6 (by decide) (fun _ => ?_) (fun _ => ?_)
  · refine j_aload_n (pc := 11) (p := 0) rfl rfl dX9_total_11 ?_
    refine j_iload_n (pc := 12) (p := 1) rfl rfl dX9_total_12 ?_
    refine j_iload_n (pc := 13) (p := 2) rfl rfl dX9_total_13 ?_
    refine j_cVi (pc := 14) Y_X9_refusalOf (ci := 8) (b := v0) rfl rfl ml_X9_212 im_X9_refusalOf se_X9_refusalOf ⟨Nat.le_of_ble_eq_true rfl, Nat.le_of_ble_eq_true rfl⟩ dX9_total_14 (As := [.int v1, .int v2]) (rest := []) rfl rfl (Nat.le_of_ble_eq_true rfl) (fun x hq9 => c_X9_refusalOf _ _ _ _ _ hq9) (fun q1 _ => ?_)
    refine j_istore (pc := 17) (lv' := [(4, .int q1.2), (0, .ref v0), (1, .int v1), (2, .int v2), (3, .int v3)]) (by decide) rfl dX9_total_17 ?_
    refine j_iload (pc := 19) (p := 0) rfl dX9_total_19 ?_
    refine j_if_ge (pc := 21) (tgt := 27) dX9_total_21 (by decide) (fun _ => ?_) (fun _ => ?_)
    · refine j_aload_n (pc := 27) (p := 1) rfl rfl dX9_total_27 ?_
      refine j_getR (pc := 28) FI_X9 (k := 0) (by decide) fl_X9_12 dX9_total_28 (fun x2 _ => ?_)
      refine j_getR (pc := 31) FI_X8 (k := 0) (by decide) fl_X9_82 dX9_total_31 (fun x3 _ => ?_)
      refine j_iload_n (pc := 34) (p := 2) rfl rfl dX9_total_34 ?_
      refine j_aald (pc := 35) (t := 4) rfl dX9_total_35 (fun x4 _ => ?_)
      refine j_getR (pc := 36) FI_X0 (k := 5) (by decide) fl_X9_86 dX9_total_36 (fun x5 _ => ?_)
      refine j_astore (pc := 39) (lv' := [(5, .ref x5), (4, .int q1.2), (0, .ref v0), (1, .int v1), (2, .int v2), (3, .int v3)]) (by decide) rfl dX9_total_39 ?_
      refine j_iload_n (pc := 41) (p := 5) rfl rfl dX9_total_41 ?_
      refine j_ite (fun c6 => ?_) (fun c6 => ?_)
      · refine j_tsI (pc := 42) (y := 0) (off := 34) (tgt := 76) dX9_total_42 c6 ⟨by decide, by decide, by decide⟩ (by decide) ?_
        refine j_aload (pc := 76) (p := 0) rfl dX9_total_76 ?_
        refine j_iload_n (pc := 78) (p := 4) rfl rfl dX9_total_78 ?_
        refine j_cVi (pc := 79) Y_X7_allWithin (ci := 6) (b := x5) rfl rfl ml_X9_215 im_X7_allWithin se_X7_allWithin ⟨Nat.le_of_ble_eq_true rfl, Nat.le_of_ble_eq_true rfl⟩ dX9_total_79 (As := [.int v2]) (rest := []) rfl rfl (Nat.le_of_ble_eq_true rfl) (fun x hq9 => c_X7_allWithin _ _ _ _ hq9) (fun q7 _ => ?_)
        refine j_cSi (pc := 82) Y_J6_bitCount_0f7a4 ml_X9_218 sm_J6_bitCount_0f7a4 ⟨Nat.le_of_ble_eq_true rfl, Nat.le_of_ble_eq_true rfl⟩ dX9_total_82 (As := [.int q7.2]) (rest := []) rfl rfl (Nat.le_of_ble_eq_true rfl) (fun x hq9 => c_J6_bitCount_0f7a4 _ _ _ hq9) (fun q8 _ => ?_)
        exact j_iret (pc := 85) rfl dX9_total_85
      refine j_ite (fun c9 => ?_) (fun c9 => ?_)
      · refine j_tsI (pc := 42) (y := 1) (off := 44) (tgt := 86) dX9_total_42 c9 ⟨by decide, by decide, by decide⟩ (by decide) ?_
        refine j_aload (pc := 86) (p := 0) rfl dX9_total_86 ?_
        refine j_iload_n (pc := 88) (p := 4) rfl rfl dX9_total_88 ?_
        refine j_cVi (pc := 89) Y_X7_leavesWithin (ci := 6) (b := x5) rfl rfl ml_X9_238 im_X7_leavesWithin se_X7_leavesWithin ⟨Nat.le_of_ble_eq_true rfl, Nat.le_of_ble_eq_true rfl⟩ dX9_total_89 (As := [.int v2]) (rest := []) rfl rfl (Nat.le_of_ble_eq_true rfl) (fun x hq9 => c_X7_leavesWithin _ _ _ _ hq9) (fun q10 _ => ?_)
        exact j_iret (pc := 92) rfl dX9_total_92
      refine j_ite (fun c11 => ?_) (fun c11 => ?_)
      · refine j_tsI (pc := 42) (y := 2) (off := 51) (tgt := 93) dX9_total_42 c11 ⟨by decide, by decide, by decide⟩ (by decide) ?_
        refine j_aload (pc := 93) (p := 0) rfl dX9_total_93 ?_
        refine j_iload_n (pc := 95) (p := 4) rfl rfl dX9_total_95 ?_
        refine j_cVi (pc := 96) Y_X7_stepsDown (ci := 6) (b := x5) rfl rfl ml_X9_241 im_X7_stepsDown se_X7_stepsDown ⟨Nat.le_of_ble_eq_true rfl, Nat.le_of_ble_eq_true rfl⟩ dX9_total_96 (As := [.int v2]) (rest := []) rfl rfl (Nat.le_of_ble_eq_true rfl) (fun x hq9 => c_X7_stepsDown _ _ _ _ hq9) (fun q12 _ => ?_)
        exact j_iret (pc := 99) rfl dX9_total_99
      refine j_ite (fun c13 => ?_) (fun c13 => ?_)
      · refine j_tsI (pc := 42) (y := 3) (off := 58) (tgt := 100) dX9_total_42 c13 ⟨by decide, by decide, by decide⟩ (by decide) ?_
        refine j_aload (pc := 100) (p := 0) rfl dX9_total_100 ?_
        refine j_iload_n (pc := 102) (p := 4) rfl rfl dX9_total_102 ?_
        refine j_cVi (pc := 103) Y_X7_latestWithin (ci := 6) (b := x5) rfl rfl ml_X9_244 im_X7_latestWithin se_X7_latestWithin ⟨Nat.le_of_ble_eq_true rfl, Nat.le_of_ble_eq_true rfl⟩ dX9_total_103 (As := [.int v2]) (rest := []) rfl rfl (Nat.le_of_ble_eq_true rfl) (fun x hq9 => c_X7_latestWithin _ _ _ _ hq9) (fun q14 _ => ?_)
        exact j_iret (pc := 106) rfl dX9_total_106
      refine j_ite (fun c15 => ?_) (fun c15 => ?_)
      · refine j_tsI (pc := 42) (y := 4) (off := 65) (tgt := 107) dX9_total_42 c15 ⟨by decide, by decide, by decide⟩ (by decide) ?_
        refine j_aload (pc := 107) (p := 0) rfl dX9_total_107 ?_
        refine j_iload_n (pc := 109) (p := 4) rfl rfl dX9_total_109 ?_
        refine j_cVi (pc := 110) Y_X7_rankedWithin (ci := 6) (b := x5) rfl rfl ml_X9_247 im_X7_rankedWithin se_X7_rankedWithin ⟨Nat.le_of_ble_eq_true rfl, Nat.le_of_ble_eq_true rfl⟩ dX9_total_110 (As := [.int v2]) (rest := []) rfl rfl (Nat.le_of_ble_eq_true rfl) (fun x hq9 => c_X7_rankedWithin _ _ _ _ hq9) (fun q16 _ => ?_)
        exact j_iret (pc := 113) rfl dX9_total_113
      refine j_tsO (pc := 42) (tgt := 114) dX9_total_42 (by have a_c6 := lv_neT c6 (show ((0 : Int32)).toInt = 0 by decide); have a_c9 := lv_neT c9 (show ((1 : Int32)).toInt = 1 by decide); have a_c11 := lv_neT c11 (show ((2 : Int32)).toInt = 2 by decide); have a_c13 := lv_neT c13 (show ((3 : Int32)).toInt = 3 by decide); have a_c15 := lv_neT c15 (show ((4 : Int32)).toInt = 4 by decide); omega) (by decide) ?_
      refine j_aload (pc := 114) (p := 0) rfl dX9_total_114 ?_
      refine j_iload_n (pc := 116) (p := 4) rfl rfl dX9_total_116 ?_
      refine j_iconst (pc := 117) ki_0 dX9_total_117 ?_
      refine j_cSNi (pc := 118) Y_X7_weigh mn_X9_250 sm_X7_weigh ⟨Nat.le_of_ble_eq_true rfl, Nat.le_of_ble_eq_true rfl⟩ dX9_total_118 (As := [.ref x5, .int v2, .int (0)]) (rest := []) rfl rfl (Nat.le_of_ble_eq_true rfl) (fun x hq9 => (c_X7_weigh q_RD) _ _ _ _ _ hq9) (fun q17 _ => ?_)
      exact j_iret (pc := 121) rfl dX9_total_121
    refine j_iload (pc := 24) (p := 0) rfl dX9_total_24 ?_
    exact j_iret (pc := 26) rfl dX9_total_26
  refine j_iconst (pc := 9) ki_m1 dX9_total_9 ?_
  exact j_iret (pc := 10) rfl dX9_total_10
set_option maxRecDepth 20000 in
set_option maxHeartbeats 1000000 in
theorem c_X9_total {G : q_G} {l : Launch} : ∀ (h : q_H) (a0 : Nat) (a1 : Int32) (a2 : Int32) (a3 : Int32) (q : q_H × Int32), f_X9_total h a0 a1 a2 a3 = some q → (∃ fs, h.1 a0 = .inr (8, fs)) ∧ q_CT G l yX9_total cX9_total 6 (some .int) 23 547 [.ref a0, .int a1, .int a2, .int a3] h q.1 (q_i q.2) := by
  intro h a0 a1 a2 a3 q e
  obtain ⟨e1, e2⟩ := q_chk_ok e
  exact ⟨e1, q_ofJ Y_X9_total (Nat.le_of_ble_eq_true rfl) (jb_X9_total_0 h a0 a1 a2 a3) q e2⟩
/-! FarFolders.voids(I)I -/
theorem dX9_voids_0 : decode cX9_voids 0 = .ok (.iload_n 1, 1) := by decide +kernel
theorem dX9_voids_1 : decode cX9_voids 1 = .ok (.invokestatic 73, 3) := by decide +kernel
theorem dX9_voids_4 : decode cX9_voids 4 = .ok (.ifCond .eq 22, 3) := by decide +kernel
theorem dX9_voids_7 : decode cX9_voids 7 = .ok (.aload_n 0, 1) := by decide +kernel
theorem dX9_voids_8 : decode cX9_voids 8 = .ok (.aload_n 0, 1) := by decide +kernel
theorem dX9_voids_9 : decode cX9_voids 9 = .ok (.getfield 12, 3) := by decide +kernel
theorem dX9_voids_12 : decode cX9_voids 12 = .ok (.getfield 82, 3) := by decide +kernel
theorem dX9_voids_15 : decode cX9_voids 15 = .ok (.iload_n 1, 1) := by decide +kernel
theorem dX9_voids_16 : decode cX9_voids 16 = .ok (.aaload, 1) := by decide +kernel
theorem dX9_voids_17 : decode cX9_voids 17 = .ok (.getfield 133, 3) := by decide +kernel
theorem dX9_voids_20 : decode cX9_voids 20 = .ok (.invokevirtual 209, 3) := by decide +kernel
theorem dX9_voids_23 : decode cX9_voids 23 = .ok (.goto 4, 3) := by decide +kernel
theorem dX9_voids_26 : decode cX9_voids 26 = .ok (.iconst (-1), 1) := by decide +kernel
theorem dX9_voids_27 : decode cX9_voids 27 = .ok (.ireturn, 1) := by decide +kernel
def b_X9_voids_0 (h : q_H) (v0 : Nat) (v1 : Int32) : Option (q_H × Int32) :=
  Option.bind (f_X9_isCopy h v1) (fun q1 => if q1.2 = 0 then some (q1.1, (-1)) else Option.bind (q_gR 8 0 q1.1 v0) (fun x2 => Option.bind (q_gR 7 0 q1.1 x2) (fun x3 => Option.bind (q_lR 4 q1.1 x3 v1) (fun x4 => Option.bind (q_gI 0 6 q1.1 x4) (fun x5 => Option.bind (f_X9_tellSet q1.1 v0 x5) (fun q6 => some (q6.1, q6.2)))))))
def f_X9_voids (h : q_H) (a0 : Nat) (a1 : Int32) : Option (q_H × Int32) := q_chk 8 h a0 (b_X9_voids_0 h a0 a1)
set_option maxRecDepth 20000 in
set_option maxHeartbeats 1000000 in
theorem jb_X9_voids_0 {G : q_G} {l : Launch} {k0 z0 : Nat} (h : q_H) (v0 : Nat) (v1 : Int32) : q_J G l (RX9, cX9_voids, 2, 3, 65, (some .int), "voids", []) k0 z0 (q_Z G k0 z0 q_i) 0 [(0, .ref v0), (1, .int v1)] [] h (b_X9_voids_0 h v0 v1) := by
  unfold b_X9_voids_0
  refine j_iload_n (pc := 0) (p := 1) rfl rfl dX9_voids_0 ?_
  refine j_cSi (pc := 1) Y_X9_isCopy ml_X9_73 sm_X9_isCopy ⟨Nat.le_of_ble_eq_true rfl, Nat.le_of_ble_eq_true rfl⟩ dX9_voids_1 (As := [.int v1]) (rest := []) rfl rfl (Nat.le_of_ble_eq_true rfl) (fun x hq9 => c_X9_isCopy _ _ _ hq9) (fun q1 _ => ?_)
  refine j_if_eq (pc := 4) (tgt := 26) dX9_voids_4 (by decide) (fun _ => ?_) (fun _ => ?_)
  · refine j_iconst (pc := 26) ki_m1 dX9_voids_26 ?_
    exact j_iret (pc := 27) rfl dX9_voids_27
  refine j_aload_n (pc := 7) (p := 0) rfl rfl dX9_voids_7 ?_
  refine j_aload_n (pc := 8) (p := 0) rfl rfl dX9_voids_8 ?_
  refine j_getR (pc := 9) FI_X9 (k := 0) (by decide) fl_X9_12 dX9_voids_9 (fun x2 _ => ?_)
  refine j_getR (pc := 12) FI_X8 (k := 0) (by decide) fl_X9_82 dX9_voids_12 (fun x3 _ => ?_)
  refine j_iload_n (pc := 15) (p := 1) rfl rfl dX9_voids_15 ?_
  refine j_aald (pc := 16) (t := 4) rfl dX9_voids_16 (fun x4 _ => ?_)
  refine j_getI (pc := 17) FI_X0 (k := 6) (by decide) fl_X9_133 dX9_voids_17 (fun x5 _ => ?_)
  refine j_cVi (pc := 20) Y_X9_tellSet (ci := 8) (b := v0) rfl rfl ml_X9_209 im_X9_tellSet se_X9_tellSet ⟨Nat.le_of_ble_eq_true rfl, Nat.le_of_ble_eq_true rfl⟩ dX9_voids_20 (As := [.int x5]) (rest := []) rfl rfl (Nat.le_of_ble_eq_true rfl) (fun x hq9 => c_X9_tellSet _ _ _ _ hq9) (fun q6 _ => ?_)
  refine j_goto (pc := 23) (tgt := 27) dX9_voids_23 (by decide) ?_
  exact j_iret (pc := 27) rfl dX9_voids_27
set_option maxRecDepth 20000 in
set_option maxHeartbeats 1000000 in
theorem c_X9_voids {G : q_G} {l : Launch} : ∀ (h : q_H) (a0 : Nat) (a1 : Int32) (q : q_H × Int32), f_X9_voids h a0 a1 = some q → (∃ fs, h.1 a0 = .inr (8, fs)) ∧ q_CT G l yX9_voids cX9_voids 2 (some .int) 3 65 [.ref a0, .int a1] h q.1 (q_i q.2) := by
  intro h a0 a1 q e
  obtain ⟨e1, e2⟩ := q_chk_ok e
  exact ⟨e1, q_ofJ Y_X9_voids (Nat.le_of_ble_eq_true rfl) (jb_X9_voids_0 h a0 a1) q e2⟩
/-! FarFolders.worst(I)I -/
theorem dX9_worst_0 : decode cX9_worst 0 = .ok (.iload_n 1, 1) := by decide +kernel
theorem dX9_worst_1 : decode cX9_worst 1 = .ok (.invokestatic 73, 3) := by decide +kernel
theorem dX9_worst_4 : decode cX9_worst 4 = .ok (.ifCond .ne 5, 3) := by decide +kernel
theorem dX9_worst_7 : decode cX9_worst 7 = .ok (.iconst (-1), 1) := by decide +kernel
theorem dX9_worst_8 : decode cX9_worst 8 = .ok (.ireturn, 1) := by decide +kernel
theorem dX9_worst_9 : decode cX9_worst 9 = .ok (.aload_n 0, 1) := by decide +kernel
theorem dX9_worst_10 : decode cX9_worst 10 = .ok (.getfield 12, 3) := by decide +kernel
theorem dX9_worst_13 : decode cX9_worst 13 = .ok (.iload_n 1, 1) := by decide +kernel
theorem dX9_worst_14 : decode cX9_worst 14 = .ok (.invokevirtual 286, 3) := by decide +kernel
theorem dX9_worst_17 : decode cX9_worst 17 = .ok (.ifCond .ne 6, 3) := by decide +kernel
theorem dX9_worst_20 : decode cX9_worst 20 = .ok (.bipush (-2), 2) := by decide +kernel
theorem dX9_worst_22 : decode cX9_worst 22 = .ok (.ireturn, 1) := by decide +kernel
theorem dX9_worst_23 : decode cX9_worst 23 = .ok (.aload_n 0, 1) := by decide +kernel
theorem dX9_worst_24 : decode cX9_worst 24 = .ok (.getfield 12, 3) := by decide +kernel
theorem dX9_worst_27 : decode cX9_worst 27 = .ok (.iload_n 1, 1) := by decide +kernel
theorem dX9_worst_28 : decode cX9_worst 28 = .ok (.invokestatic 289, 3) := by decide +kernel
theorem dX9_worst_31 : decode cX9_worst 31 = .ok (.iload_n 1, 1) := by decide +kernel
theorem dX9_worst_32 : decode cX9_worst 32 = .ok (.invokevirtual 196, 3) := by decide +kernel
theorem dX9_worst_35 : decode cX9_worst 35 = .ok (.astore_n 2, 1) := by decide +kernel
theorem dX9_worst_36 : decode cX9_worst 36 = .ok (.aload_n 0, 1) := by decide +kernel
theorem dX9_worst_37 : decode cX9_worst 37 = .ok (.getfield 12, 3) := by decide +kernel
theorem dX9_worst_40 : decode cX9_worst 40 = .ok (.iload_n 1, 1) := by decide +kernel
theorem dX9_worst_41 : decode cX9_worst 41 = .ok (.invokestatic 289, 3) := by decide +kernel
theorem dX9_worst_44 : decode cX9_worst 44 = .ok (.invokestatic 289, 3) := by decide +kernel
theorem dX9_worst_47 : decode cX9_worst 47 = .ok (.iload_n 1, 1) := by decide +kernel
theorem dX9_worst_48 : decode cX9_worst 48 = .ok (.invokevirtual 196, 3) := by decide +kernel
theorem dX9_worst_51 : decode cX9_worst 51 = .ok (.astore_n 3, 1) := by decide +kernel
theorem dX9_worst_52 : decode cX9_worst 52 = .ok (.aload_n 0, 1) := by decide +kernel
theorem dX9_worst_53 : decode cX9_worst 53 = .ok (.getfield 51, 3) := by decide +kernel
theorem dX9_worst_56 : decode cX9_worst 56 = .ok (.aload_n 0, 1) := by decide +kernel
theorem dX9_worst_57 : decode cX9_worst 57 = .ok (.getfield 12, 3) := by decide +kernel
theorem dX9_worst_60 : decode cX9_worst 60 = .ok (.getfield 82, 3) := by decide +kernel
theorem dX9_worst_63 : decode cX9_worst 63 = .ok (.iload_n 1, 1) := by decide +kernel
theorem dX9_worst_64 : decode cX9_worst 64 = .ok (.aaload, 1) := by decide +kernel
theorem dX9_worst_65 : decode cX9_worst 65 = .ok (.getfield 120, 3) := by decide +kernel
theorem dX9_worst_68 : decode cX9_worst 68 = .ok (.aload_n 2, 1) := by decide +kernel
theorem dX9_worst_69 : decode cX9_worst 69 = .ok (.aload_n 3, 1) := by decide +kernel
theorem dX9_worst_70 : decode cX9_worst 70 = .ok (.invokevirtual 292, 3) := by decide +kernel
theorem dX9_worst_73 : decode cX9_worst 73 = .ok (.aload_n 2, 1) := by decide +kernel
theorem dX9_worst_74 : decode cX9_worst 74 = .ok (.getfield 140, 3) := by decide +kernel
theorem dX9_worst_77 : decode cX9_worst 77 = .ok (.aload_n 3, 1) := by decide +kernel
theorem dX9_worst_78 : decode cX9_worst 78 = .ok (.getfield 140, 3) := by decide +kernel
theorem dX9_worst_81 : decode cX9_worst 81 = .ok (.invokestatic 296, 3) := by decide +kernel
theorem dX9_worst_84 : decode cX9_worst 84 = .ok (.istore 4, 2) := by decide +kernel
theorem dX9_worst_86 : decode cX9_worst 86 = .ok (.aload_n 0, 1) := by decide +kernel
theorem dX9_worst_87 : decode cX9_worst 87 = .ok (.getfield 30, 3) := by decide +kernel
theorem dX9_worst_90 : decode cX9_worst 90 = .ok (.aload_n 0, 1) := by decide +kernel
theorem dX9_worst_91 : decode cX9_worst 91 = .ok (.getfield 51, 3) := by decide +kernel
theorem dX9_worst_94 : decode cX9_worst 94 = .ok (.getfield 299, 3) := by decide +kernel
theorem dX9_worst_97 : decode cX9_worst 97 = .ok (.iload 4, 2) := by decide +kernel
theorem dX9_worst_99 : decode cX9_worst 99 = .ok (.iaload, 1) := by decide +kernel
theorem dX9_worst_100 : decode cX9_worst 100 = .ok (.i2l, 1) := by decide +kernel
theorem dX9_worst_101 : decode cX9_worst 101 = .ok (.invokevirtual 141, 3) := by decide +kernel
theorem dX9_worst_104 : decode cX9_worst 104 = .ok (.aload_n 0, 1) := by decide +kernel
theorem dX9_worst_105 : decode cX9_worst 105 = .ok (.getfield 30, 3) := by decide +kernel
theorem dX9_worst_108 : decode cX9_worst 108 = .ok (.aload_n 0, 1) := by decide +kernel
theorem dX9_worst_109 : decode cX9_worst 109 = .ok (.getfield 12, 3) := by decide +kernel
theorem dX9_worst_112 : decode cX9_worst 112 = .ok (.iload_n 1, 1) := by decide +kernel
theorem dX9_worst_113 : decode cX9_worst 113 = .ok (.invokevirtual 164, 3) := by decide +kernel
theorem dX9_worst_116 : decode cX9_worst 116 = .ok (.i2l, 1) := by decide +kernel
theorem dX9_worst_117 : decode cX9_worst 117 = .ok (.invokevirtual 170, 3) := by decide +kernel
theorem dX9_worst_120 : decode cX9_worst 120 = .ok (.aload_n 0, 1) := by decide +kernel
theorem dX9_worst_121 : decode cX9_worst 121 = .ok (.getfield 51, 3) := by decide +kernel
theorem dX9_worst_124 : decode cX9_worst 124 = .ok (.getfield 303, 3) := by decide +kernel
theorem dX9_worst_127 : decode cX9_worst 127 = .ok (.iload 4, 2) := by decide +kernel
theorem dX9_worst_129 : decode cX9_worst 129 = .ok (.iaload, 1) := by decide +kernel
theorem dX9_worst_130 : decode cX9_worst 130 = .ok (.ireturn, 1) := by decide +kernel
def b_X9_worst_0 (h : q_H) (v0 : Nat) (v1 : Int32) : Option (q_H × Int32) :=
  Option.bind (f_X9_isCopy h v1) (fun q1 => if q1.2 = 0 then some (q1.1, (-1)) else Option.bind (q_gR 8 0 q1.1 v0) (fun x2 => Option.bind (f_X8_waitingFor q1.1 x2 v1) (fun q3 => if q3.2 = 0 then some (q3.1, (-2)) else Option.bind (q_gR 8 0 q3.1 v0) (fun x4 => Option.bind (f_X9_nextCopy q3.1 v1) (fun q5 => Option.bind (f_X8_way q5.1 x4 q5.2 v1) (fun q6 => Option.bind (q_gR 8 0 q6.1 v0) (fun x7 => Option.bind (f_X9_nextCopy q6.1 v1) (fun q8 => Option.bind (f_X9_nextCopy q8.1 q8.2) (fun q9 => Option.bind (f_X8_way q9.1 x7 q9.2 v1) (fun q10 => Option.bind (q_gR 8 7 q10.1 v0) (fun x11 => Option.bind (q_gR 8 0 q10.1 v0) (fun x12 => Option.bind (q_gR 7 0 q10.1 x12) (fun x13 => Option.bind (q_lR 4 q10.1 x13 v1) (fun x14 => Option.bind (q_gR 0 3 q10.1 x14) (fun x15 => Option.bind (f_X3_weighAll q10.1 x11 x15 q6.2 q10.2) (fun q16 => Option.bind (q_gI 4 1 q16.1 q6.2) (fun x17 => Option.bind (q_gI 4 1 q16.1 q10.2) (fun x18 => Option.bind (f_X3_place q16.1 x17 x18) (fun q19 => Option.bind (q_gR 8 4 q19.1 v0) (fun x20 => Option.bind (q_gR 8 7 q19.1 v0) (fun x21 => Option.bind (q_gR 2 0 q19.1 x21) (fun x22 => Option.bind (q_lI 0 q19.1 x22 q19.2) (fun x23 => Option.bind (f_X4_tell q19.1 x20 (Int32.toInt64 x23)) (fun q24 => Option.bind (q_gR 8 4 q24.1 v0) (fun x25 => Option.bind (q_gR 8 0 q24.1 v0) (fun x26 => Option.bind (f_X8_undoneAtOnce q24.1 x26 v1) (fun q27 => Option.bind (f_X4_add q27.1 x25 (Int32.toInt64 q27.2)) (fun q28 => Option.bind (q_gR 8 7 q28.1 v0) (fun x29 => Option.bind (q_gR 2 1 q28.1 x29) (fun x30 => Option.bind (q_lI 0 q28.1 x30 q19.2) (fun x31 => some (q28.1, x31))))))))))))))))))))))))))))))))
def f_X9_worst (h : q_H) (a0 : Nat) (a1 : Int32) : Option (q_H × Int32) := q_chk 8 h a0 (b_X9_worst_0 h a0 a1)
set_option maxRecDepth 20000 in
set_option maxHeartbeats 1000000 in
theorem jb_X9_worst_0 {G : q_G} {l : Launch} {k0 z0 : Nat} (h : q_H) (v0 : Nat) (v1 : Int32) : q_J G l (RX9, cX9_worst, 5, 5, 117, (some .int), "worst", []) k0 z0 (q_Z G k0 z0 q_i) 0 [(0, .ref v0), (1, .int v1)] [] h (b_X9_worst_0 h v0 v1) := by
  unfold b_X9_worst_0
  refine j_iload_n (pc := 0) (p := 1) rfl rfl dX9_worst_0 ?_
  refine j_cSi (pc := 1) Y_X9_isCopy ml_X9_73 sm_X9_isCopy ⟨Nat.le_of_ble_eq_true rfl, Nat.le_of_ble_eq_true rfl⟩ dX9_worst_1 (As := [.int v1]) (rest := []) rfl rfl (Nat.le_of_ble_eq_true rfl) (fun x hq9 => c_X9_isCopy _ _ _ hq9) (fun q1 _ => ?_)
  refine j_if_ne (pc := 4) (tgt := 9) dX9_worst_4 (by decide) (fun _ => ?_) (fun _ => ?_)
  · refine j_iconst (pc := 7) ki_m1 dX9_worst_7 ?_
    exact j_iret (pc := 8) rfl dX9_worst_8
  refine j_aload_n (pc := 9) (p := 0) rfl rfl dX9_worst_9 ?_
  refine j_getR (pc := 10) FI_X9 (k := 0) (by decide) fl_X9_12 dX9_worst_10 (fun x2 _ => ?_)
  refine j_iload_n (pc := 13) (p := 1) rfl rfl dX9_worst_13 ?_
  refine j_cVi (pc := 14) Y_X8_waitingFor (ci := 7) (b := x2) rfl rfl ml_X9_286 im_X8_waitingFor se_X8_waitingFor ⟨Nat.le_of_ble_eq_true rfl, Nat.le_of_ble_eq_true rfl⟩ dX9_worst_14 (As := [.int v1]) (rest := []) rfl rfl (Nat.le_of_ble_eq_true rfl) (fun x hq9 => c_X8_waitingFor _ _ _ _ hq9) (fun q3 _ => ?_)
  refine j_if_ne (pc := 17) (tgt := 23) dX9_worst_17 (by decide) (fun _ => ?_) (fun _ => ?_)
  · refine j_bipush (pc := 20) kb_m2 dX9_worst_20 ?_
    exact j_iret (pc := 22) rfl dX9_worst_22
  refine j_aload_n (pc := 23) (p := 0) rfl rfl dX9_worst_23 ?_
  refine j_getR (pc := 24) FI_X9 (k := 0) (by decide) fl_X9_12 dX9_worst_24 (fun x4 _ => ?_)
  refine j_iload_n (pc := 27) (p := 1) rfl rfl dX9_worst_27 ?_
  refine j_cSi (pc := 28) Y_X9_nextCopy ml_X9_289 sm_X9_nextCopy ⟨Nat.le_of_ble_eq_true rfl, Nat.le_of_ble_eq_true rfl⟩ dX9_worst_28 (As := [.int v1]) (rest := [.ref x4]) rfl rfl (Nat.le_of_ble_eq_true rfl) (fun x hq9 => c_X9_nextCopy _ _ _ hq9) (fun q5 _ => ?_)
  refine j_iload_n (pc := 31) (p := 1) rfl rfl dX9_worst_31 ?_
  refine j_cVr (pc := 32) Y_X8_way (ci := 7) (b := x4) rfl rfl ml_X9_196 im_X8_way se_X8_way ⟨Nat.le_of_ble_eq_true rfl, Nat.le_of_ble_eq_true rfl⟩ dX9_worst_32 (As := [.int q5.2, .int v1]) (rest := []) rfl rfl (Nat.le_of_ble_eq_true rfl) (fun x hq9 => c_X8_way _ _ _ _ _ hq9) (fun q6 _ => ?_)
  refine j_astore_n (pc := 35) (lv' := [(2, .ref q6.2), (0, .ref v0), (1, .int v1)]) rfl (by decide) rfl dX9_worst_35 ?_
  refine j_aload_n (pc := 36) (p := 1) rfl rfl dX9_worst_36 ?_
  refine j_getR (pc := 37) FI_X9 (k := 0) (by decide) fl_X9_12 dX9_worst_37 (fun x7 _ => ?_)
  refine j_iload_n (pc := 40) (p := 2) rfl rfl dX9_worst_40 ?_
  refine j_cSi (pc := 41) Y_X9_nextCopy ml_X9_289 sm_X9_nextCopy ⟨Nat.le_of_ble_eq_true rfl, Nat.le_of_ble_eq_true rfl⟩ dX9_worst_41 (As := [.int v1]) (rest := [.ref x7]) rfl rfl (Nat.le_of_ble_eq_true rfl) (fun x hq9 => c_X9_nextCopy _ _ _ hq9) (fun q8 _ => ?_)
  refine j_cSi (pc := 44) Y_X9_nextCopy ml_X9_289 sm_X9_nextCopy ⟨Nat.le_of_ble_eq_true rfl, Nat.le_of_ble_eq_true rfl⟩ dX9_worst_44 (As := [.int q8.2]) (rest := [.ref x7]) rfl rfl (Nat.le_of_ble_eq_true rfl) (fun x hq9 => c_X9_nextCopy _ _ _ hq9) (fun q9 _ => ?_)
  refine j_iload_n (pc := 47) (p := 2) rfl rfl dX9_worst_47 ?_
  refine j_cVr (pc := 48) Y_X8_way (ci := 7) (b := x7) rfl rfl ml_X9_196 im_X8_way se_X8_way ⟨Nat.le_of_ble_eq_true rfl, Nat.le_of_ble_eq_true rfl⟩ dX9_worst_48 (As := [.int q9.2, .int v1]) (rest := []) rfl rfl (Nat.le_of_ble_eq_true rfl) (fun x hq9 => c_X8_way _ _ _ _ _ hq9) (fun q10 _ => ?_)
  refine j_astore_n (pc := 51) (lv' := [(3, .ref q10.2), (2, .ref q6.2), (0, .ref v0), (1, .int v1)]) rfl (by decide) rfl dX9_worst_51 ?_
  refine j_aload_n (pc := 52) (p := 2) rfl rfl dX9_worst_52 ?_
  refine j_getR (pc := 53) FI_X9 (k := 7) (by decide) fl_X9_51 dX9_worst_53 (fun x11 _ => ?_)
  refine j_aload_n (pc := 56) (p := 2) rfl rfl dX9_worst_56 ?_
  refine j_getR (pc := 57) FI_X9 (k := 0) (by decide) fl_X9_12 dX9_worst_57 (fun x12 _ => ?_)
  refine j_getR (pc := 60) FI_X8 (k := 0) (by decide) fl_X9_82 dX9_worst_60 (fun x13 _ => ?_)
  refine j_iload_n (pc := 63) (p := 3) rfl rfl dX9_worst_63 ?_
  refine j_aald (pc := 64) (t := 4) rfl dX9_worst_64 (fun x14 _ => ?_)
  refine j_getR (pc := 65) FI_X0 (k := 3) (by decide) fl_X9_120 dX9_worst_65 (fun x15 _ => ?_)
  refine j_aload_n (pc := 68) (p := 1) rfl rfl dX9_worst_68 ?_
  refine j_aload_n (pc := 69) (p := 0) rfl rfl dX9_worst_69 ?_
  refine j_cVu (pc := 70) Y_X3_weighAll (ci := 2) (b := x11) rfl rfl ml_X9_292 im_X3_weighAll se_X3_weighAll ⟨Nat.le_of_ble_eq_true rfl, Nat.le_of_ble_eq_true rfl⟩ dX9_worst_70 (As := [.ref x15, .ref q6.2, .ref q10.2]) (rest := []) rfl rfl (Nat.le_of_ble_eq_true rfl) (fun x hq9 => c_X3_weighAll _ _ _ _ _ _ hq9) (fun q16 _ => ?_)
  refine j_aload_n (pc := 73) (p := 1) rfl rfl dX9_worst_73 ?_
  refine j_getI (pc := 74) FI_X5 (k := 1) (by decide) fl_X9_140 dX9_worst_74 (fun x17 _ => ?_)
  refine j_aload_n (pc := 77) (p := 0) rfl rfl dX9_worst_77 ?_
  refine j_getI (pc := 78) FI_X5 (k := 1) (by decide) fl_X9_140 dX9_worst_78 (fun x18 _ => ?_)
  refine j_cSi (pc := 81) Y_X3_place ml_X9_296 sm_X3_place ⟨Nat.le_of_ble_eq_true rfl, Nat.le_of_ble_eq_true rfl⟩ dX9_worst_81 (As := [.int x17, .int x18]) (rest := []) rfl rfl (Nat.le_of_ble_eq_true rfl) (fun x hq9 => c_X3_place _ _ _ _ hq9) (fun q19 _ => ?_)
  refine j_istore (pc := 84) (lv' := [(4, .int q19.2), (3, .ref q10.2), (2, .ref q6.2), (0, .ref v0), (1, .int v1)]) (by decide) rfl dX9_worst_84 ?_
  refine j_aload_n (pc := 86) (p := 3) rfl rfl dX9_worst_86 ?_
  refine j_getR (pc := 87) FI_X9 (k := 4) (by decide) fl_X9_30 dX9_worst_87 (fun x20 _ => ?_)
  refine j_aload_n (pc := 90) (p := 3) rfl rfl dX9_worst_90 ?_
  refine j_getR (pc := 91) FI_X9 (k := 7) (by decide) fl_X9_51 dX9_worst_91 (fun x21 _ => ?_)
  refine j_getR (pc := 94) FI_X3 (k := 0) (by decide) fl_X9_299 dX9_worst_94 (fun x22 _ => ?_)
  refine j_iload (pc := 97) (p := 0) rfl dX9_worst_97 ?_
  refine j_iald (pc := 99) dX9_worst_99 (fun x23 _ => ?_)
  refine j_i2l (pc := 100) dX9_worst_100 ?_
  refine j_cVu (pc := 101) Y_X4_tell (ci := 3) (b := x20) rfl rfl ml_X9_141 im_X4_tell se_X4_tell ⟨Nat.le_of_ble_eq_true rfl, Nat.le_of_ble_eq_true rfl⟩ dX9_worst_101 (As := [.long (Int32.toInt64 x23)]) (rest := []) rfl rfl (Nat.le_of_ble_eq_true rfl) (fun x hq9 => c_X4_tell _ _ _ _ hq9) (fun q24 _ => ?_)
  refine j_aload_n (pc := 104) (p := 3) rfl rfl dX9_worst_104 ?_
  refine j_getR (pc := 105) FI_X9 (k := 4) (by decide) fl_X9_30 dX9_worst_105 (fun x25 _ => ?_)
  refine j_aload_n (pc := 108) (p := 3) rfl rfl dX9_worst_108 ?_
  refine j_getR (pc := 109) FI_X9 (k := 0) (by decide) fl_X9_12 dX9_worst_109 (fun x26 _ => ?_)
  refine j_iload_n (pc := 112) (p := 4) rfl rfl dX9_worst_112 ?_
  refine j_cVi (pc := 113) Y_X8_undoneAtOnce (ci := 7) (b := x26) rfl rfl ml_X9_164 im_X8_undoneAtOnce se_X8_undoneAtOnce ⟨Nat.le_of_ble_eq_true rfl, Nat.le_of_ble_eq_true rfl⟩ dX9_worst_113 (As := [.int v1]) (rest := [.ref x25]) rfl rfl (Nat.le_of_ble_eq_true rfl) (fun x hq9 => c_X8_undoneAtOnce _ _ _ _ hq9) (fun q27 _ => ?_)
  refine j_i2l (pc := 116) dX9_worst_116 ?_
  refine j_cVu (pc := 117) Y_X4_add (ci := 3) (b := x25) rfl rfl ml_X9_170 im_X4_add se_X4_add ⟨Nat.le_of_ble_eq_true rfl, Nat.le_of_ble_eq_true rfl⟩ dX9_worst_117 (As := [.long (Int32.toInt64 q27.2)]) (rest := []) rfl rfl (Nat.le_of_ble_eq_true rfl) (fun x hq9 => c_X4_add _ _ _ _ hq9) (fun q28 _ => ?_)
  refine j_aload_n (pc := 120) (p := 3) rfl rfl dX9_worst_120 ?_
  refine j_getR (pc := 121) FI_X9 (k := 7) (by decide) fl_X9_51 dX9_worst_121 (fun x29 _ => ?_)
  refine j_getR (pc := 124) FI_X3 (k := 1) (by decide) fl_X9_303 dX9_worst_124 (fun x30 _ => ?_)
  refine j_iload (pc := 127) (p := 0) rfl dX9_worst_127 ?_
  refine j_iald (pc := 129) dX9_worst_129 (fun x31 _ => ?_)
  exact j_iret (pc := 130) rfl dX9_worst_130
set_option maxRecDepth 20000 in
set_option maxHeartbeats 1000000 in
theorem c_X9_worst {G : q_G} {l : Launch} : ∀ (h : q_H) (a0 : Nat) (a1 : Int32) (q : q_H × Int32), f_X9_worst h a0 a1 = some q → (∃ fs, h.1 a0 = .inr (8, fs)) ∧ q_CT G l yX9_worst cX9_worst 5 (some .int) 5 117 [.ref a0, .int a1] h q.1 (q_i q.2) := by
  intro h a0 a1 q e
  obtain ⟨e1, e2⟩ := q_chk_ok e
  exact ⟨e1, q_ofJ Y_X9_worst (Nat.le_of_ble_eq_true rfl) (jb_X9_worst_0 h a0 a1) q e2⟩
/-! FarFolders.years(II)I -/
theorem dX9_years_0 : decode cX9_years 0 = .ok (.iload_n 2, 1) := by decide +kernel
theorem dX9_years_1 : decode cX9_years 1 = .ok (.iconst 1, 1) := by decide +kernel
theorem dX9_years_2 : decode cX9_years 2 = .ok (.if_icmp .lt 9, 3) := by decide +kernel
theorem dX9_years_5 : decode cX9_years 5 = .ok (.iload_n 2, 1) := by decide +kernel
theorem dX9_years_6 : decode cX9_years 6 = .ok (.bipush 40, 2) := by decide +kernel
theorem dX9_years_8 : decode cX9_years 8 = .ok (.if_icmp .le 5, 3) := by decide +kernel
theorem dX9_years_11 : decode cX9_years 11 = .ok (.iconst (-1), 1) := by decide +kernel
theorem dX9_years_12 : decode cX9_years 12 = .ok (.ireturn, 1) := by decide +kernel
theorem dX9_years_13 : decode cX9_years 13 = .ok (.aload_n 0, 1) := by decide +kernel
theorem dX9_years_14 : decode cX9_years 14 = .ok (.getfield 16, 3) := by decide +kernel
theorem dX9_years_17 : decode cX9_years 17 = .ok (.aload_n 0, 1) := by decide +kernel
theorem dX9_years_18 : decode cX9_years 18 = .ok (.getfield 12, 3) := by decide +kernel
theorem dX9_years_21 : decode cX9_years 21 = .ok (.invokevirtual 271, 3) := by decide +kernel
theorem dX9_years_24 : decode cX9_years 24 = .ok (.aload_n 0, 1) := by decide +kernel
theorem dX9_years_25 : decode cX9_years 25 = .ok (.iload_n 1, 1) := by decide +kernel
theorem dX9_years_26 : decode cX9_years 26 = .ok (.putfield 327, 3) := by decide +kernel
theorem dX9_years_29 : decode cX9_years 29 = .ok (.iconst 0, 1) := by decide +kernel
theorem dX9_years_30 : decode cX9_years 30 = .ok (.istore_n 3, 1) := by decide +kernel
theorem dX9_years_31 : decode cX9_years 31 = .ok (.iload_n 3, 1) := by decide +kernel
theorem dX9_years_32 : decode cX9_years 32 = .ok (.iload_n 2, 1) := by decide +kernel
theorem dX9_years_33 : decode cX9_years 33 = .ok (.if_icmp .ge 13, 3) := by decide +kernel
theorem dX9_years_36 : decode cX9_years 36 = .ok (.aload_n 0, 1) := by decide +kernel
theorem dX9_years_37 : decode cX9_years 37 = .ok (.invokevirtual 330, 3) := by decide +kernel
theorem dX9_years_40 : decode cX9_years 40 = .ok (.iinc 3 1, 3) := by decide +kernel
theorem dX9_years_43 : decode cX9_years 43 = .ok (.goto (-12), 3) := by decide +kernel
theorem dX9_years_46 : decode cX9_years 46 = .ok (.aload_n 0, 1) := by decide +kernel
theorem dX9_years_47 : decode cX9_years 47 = .ok (.getfield 30, 3) := by decide +kernel
theorem dX9_years_50 : decode cX9_years 50 = .ok (.aload_n 0, 1) := by decide +kernel
theorem dX9_years_51 : decode cX9_years 51 = .ok (.getfield 16, 3) := by decide +kernel
theorem dX9_years_54 : decode cX9_years 54 = .ok (.getfield 82, 3) := by decide +kernel
theorem dX9_years_57 : decode cX9_years 57 = .ok (.iconst 0, 1) := by decide +kernel
theorem dX9_years_58 : decode cX9_years 58 = .ok (.aaload, 1) := by decide +kernel
theorem dX9_years_59 : decode cX9_years 59 = .ok (.getfield 86, 3) := by decide +kernel
theorem dX9_years_62 : decode cX9_years 62 = .ok (.aload_n 0, 1) := by decide +kernel
theorem dX9_years_63 : decode cX9_years 63 = .ok (.getfield 16, 3) := by decide +kernel
theorem dX9_years_66 : decode cX9_years 66 = .ok (.getfield 82, 3) := by decide +kernel
theorem dX9_years_69 : decode cX9_years 69 = .ok (.iconst 1, 1) := by decide +kernel
theorem dX9_years_70 : decode cX9_years 70 = .ok (.aaload, 1) := by decide +kernel
theorem dX9_years_71 : decode cX9_years 71 = .ok (.getfield 86, 3) := by decide +kernel
theorem dX9_years_74 : decode cX9_years 74 = .ok (.invokevirtual 160, 3) := by decide +kernel
theorem dX9_years_77 : decode cX9_years 77 = .ok (.i2l, 1) := by decide +kernel
theorem dX9_years_78 : decode cX9_years 78 = .ok (.invokevirtual 141, 3) := by decide +kernel
theorem dX9_years_81 : decode cX9_years 81 = .ok (.aload_n 0, 1) := by decide +kernel
theorem dX9_years_82 : decode cX9_years 82 = .ok (.getfield 30, 3) := by decide +kernel
theorem dX9_years_85 : decode cX9_years 85 = .ok (.aload_n 0, 1) := by decide +kernel
theorem dX9_years_86 : decode cX9_years 86 = .ok (.getfield 16, 3) := by decide +kernel
theorem dX9_years_89 : decode cX9_years 89 = .ok (.getfield 82, 3) := by decide +kernel
theorem dX9_years_92 : decode cX9_years 92 = .ok (.iconst 2, 1) := by decide +kernel
theorem dX9_years_93 : decode cX9_years 93 = .ok (.aaload, 1) := by decide +kernel
theorem dX9_years_94 : decode cX9_years 94 = .ok (.getfield 86, 3) := by decide +kernel
theorem dX9_years_97 : decode cX9_years 97 = .ok (.invokevirtual 283, 3) := by decide +kernel
theorem dX9_years_100 : decode cX9_years 100 = .ok (.i2l, 1) := by decide +kernel
theorem dX9_years_101 : decode cX9_years 101 = .ok (.invokevirtual 170, 3) := by decide +kernel
theorem dX9_years_104 : decode cX9_years 104 = .ok (.aload_n 0, 1) := by decide +kernel
theorem dX9_years_105 : decode cX9_years 105 = .ok (.getfield 30, 3) := by decide +kernel
theorem dX9_years_108 : decode cX9_years 108 = .ok (.aload_n 0, 1) := by decide +kernel
theorem dX9_years_109 : decode cX9_years 109 = .ok (.getfield 16, 3) := by decide +kernel
theorem dX9_years_112 : decode cX9_years 112 = .ok (.getfield 82, 3) := by decide +kernel
theorem dX9_years_115 : decode cX9_years 115 = .ok (.iconst 0, 1) := by decide +kernel
theorem dX9_years_116 : decode cX9_years 116 = .ok (.aaload, 1) := by decide +kernel
theorem dX9_years_117 : decode cX9_years 117 = .ok (.invokevirtual 206, 3) := by decide +kernel
theorem dX9_years_120 : decode cX9_years 120 = .ok (.i2l, 1) := by decide +kernel
theorem dX9_years_121 : decode cX9_years 121 = .ok (.invokevirtual 170, 3) := by decide +kernel
theorem dX9_years_124 : decode cX9_years 124 = .ok (.aload_n 0, 1) := by decide +kernel
theorem dX9_years_125 : decode cX9_years 125 = .ok (.getfield 30, 3) := by decide +kernel
theorem dX9_years_128 : decode cX9_years 128 = .ok (.aload_n 0, 1) := by decide +kernel
theorem dX9_years_129 : decode cX9_years 129 = .ok (.getfield 16, 3) := by decide +kernel
theorem dX9_years_132 : decode cX9_years 132 = .ok (.invokevirtual 333, 3) := by decide +kernel
theorem dX9_years_135 : decode cX9_years 135 = .ok (.i2l, 1) := by decide +kernel
theorem dX9_years_136 : decode cX9_years 136 = .ok (.invokevirtual 170, 3) := by decide +kernel
theorem dX9_years_139 : decode cX9_years 139 = .ok (.aload_n 0, 1) := by decide +kernel
theorem dX9_years_140 : decode cX9_years 140 = .ok (.getfield 16, 3) := by decide +kernel
theorem dX9_years_143 : decode cX9_years 143 = .ok (.getfield 82, 3) := by decide +kernel
theorem dX9_years_146 : decode cX9_years 146 = .ok (.iconst 0, 1) := by decide +kernel
theorem dX9_years_147 : decode cX9_years 147 = .ok (.aaload, 1) := by decide +kernel
theorem dX9_years_148 : decode cX9_years 148 = .ok (.getfield 120, 3) := by decide +kernel
theorem dX9_years_151 : decode cX9_years 151 = .ok (.getfield 140, 3) := by decide +kernel
theorem dX9_years_154 : decode cX9_years 154 = .ok (.aload_n 0, 1) := by decide +kernel
theorem dX9_years_155 : decode cX9_years 155 = .ok (.getfield 16, 3) := by decide +kernel
theorem dX9_years_158 : decode cX9_years 158 = .ok (.getfield 82, 3) := by decide +kernel
theorem dX9_years_161 : decode cX9_years 161 = .ok (.iconst 1, 1) := by decide +kernel
theorem dX9_years_162 : decode cX9_years 162 = .ok (.aaload, 1) := by decide +kernel
theorem dX9_years_163 : decode cX9_years 163 = .ok (.getfield 120, 3) := by decide +kernel
theorem dX9_years_166 : decode cX9_years 166 = .ok (.getfield 140, 3) := by decide +kernel
theorem dX9_years_169 : decode cX9_years 169 = .ok (.iadd, 1) := by decide +kernel
theorem dX9_years_170 : decode cX9_years 170 = .ok (.aload_n 0, 1) := by decide +kernel
theorem dX9_years_171 : decode cX9_years 171 = .ok (.getfield 16, 3) := by decide +kernel
theorem dX9_years_174 : decode cX9_years 174 = .ok (.getfield 82, 3) := by decide +kernel
theorem dX9_years_177 : decode cX9_years 177 = .ok (.iconst 2, 1) := by decide +kernel
theorem dX9_years_178 : decode cX9_years 178 = .ok (.aaload, 1) := by decide +kernel
theorem dX9_years_179 : decode cX9_years 179 = .ok (.getfield 120, 3) := by decide +kernel
theorem dX9_years_182 : decode cX9_years 182 = .ok (.getfield 140, 3) := by decide +kernel
theorem dX9_years_185 : decode cX9_years 185 = .ok (.iadd, 1) := by decide +kernel
theorem dX9_years_186 : decode cX9_years 186 = .ok (.ireturn, 1) := by decide +kernel
def b_X9_years_31 (k31 : q_H → Nat → Int32 → Int32 → Option (q_H × Int32)) (h : q_H) (v0 : Nat) (v2 : Int32) (v3 : Int32) : Option (q_H × Int32) :=
  if v2 ≤ v3 then Option.bind (q_gR 8 4 h v0) (fun x1 => Option.bind (q_gR 8 1 h v0) (fun x2 => Option.bind (q_gR 7 0 h x2) (fun x3 => Option.bind (q_lR 4 h x3 (0)) (fun x4 => Option.bind (q_gR 0 5 h x4) (fun x5 => Option.bind (q_gR 8 1 h v0) (fun x6 => Option.bind (q_gR 7 0 h x6) (fun x7 => Option.bind (q_lR 4 h x7 (1)) (fun x8 => Option.bind (q_gR 0 5 h x8) (fun x9 => Option.bind (f_X7_otherThan h x5 x9) (fun q10 => Option.bind (f_X4_tell q10.1 x1 (Int32.toInt64 q10.2)) (fun q11 => Option.bind (q_gR 8 4 q11.1 v0) (fun x12 => Option.bind (q_gR 8 1 q11.1 v0) (fun x13 => Option.bind (q_gR 7 0 q11.1 x13) (fun x14 => Option.bind (q_lR 4 q11.1 x14 (2)) (fun x15 => Option.bind (q_gR 0 5 q11.1 x15) (fun x16 => Option.bind (f_X7_folders q11.1 x16) (fun q17 => Option.bind (f_X4_add q17.1 x12 (Int32.toInt64 q17.2)) (fun q18 => Option.bind (q_gR 8 4 q18.1 v0) (fun x19 => Option.bind (q_gR 8 1 q18.1 v0) (fun x20 => Option.bind (q_gR 7 0 q18.1 x20) (fun x21 => Option.bind (q_lR 4 q18.1 x21 (0)) (fun x22 => Option.bind (f_X0_stableTime q18.1 x22) (fun q23 => Option.bind (f_X4_add q23.1 x19 (Int32.toInt64 q23.2)) (fun q24 => Option.bind (q_gR 8 4 q24.1 v0) (fun x25 => Option.bind (q_gR 8 1 q24.1 v0) (fun x26 => Option.bind (f_X8_waiting q24.1 x26) (fun q27 => Option.bind (f_X4_add q27.1 x25 (Int32.toInt64 q27.2)) (fun q28 => Option.bind (q_gR 8 1 q28.1 v0) (fun x29 => Option.bind (q_gR 7 0 q28.1 x29) (fun x30 => Option.bind (q_lR 4 q28.1 x30 (0)) (fun x31 => Option.bind (q_gR 0 3 q28.1 x31) (fun x32 => Option.bind (q_gI 4 1 q28.1 x32) (fun x33 => Option.bind (q_gR 8 1 q28.1 v0) (fun x34 => Option.bind (q_gR 7 0 q28.1 x34) (fun x35 => Option.bind (q_lR 4 q28.1 x35 (1)) (fun x36 => Option.bind (q_gR 0 3 q28.1 x36) (fun x37 => Option.bind (q_gI 4 1 q28.1 x37) (fun x38 => Option.bind (q_gR 8 1 q28.1 v0) (fun x39 => Option.bind (q_gR 7 0 q28.1 x39) (fun x40 => Option.bind (q_lR 4 q28.1 x40 (2)) (fun x41 => Option.bind (q_gR 0 3 q28.1 x41) (fun x42 => Option.bind (q_gI 4 1 q28.1 x42) (fun x43 => some (q28.1, ((x33 + x38) + x43))))))))))))))))))))))))))))))))))))))))))))) else Option.bind (f_X9_drawAct h v0) (fun q44 => k31 q44.1 v0 v2 (v3 + 1))
def l_X9_years_31 : Nat → q_H → Nat → Int32 → Int32 → Option (q_H × Int32)
  | 0, _, _, _, _ => none
  | n + 1, h, v0, v2, v3 => b_X9_years_31 (l_X9_years_31 n) h v0 v2 v3
def b_X9_years_0 (h : q_H) (v0 : Nat) (v1 : Int32) (v2 : Int32) : Option (q_H × Int32) :=
  if v2 < (1) then some (h, (-1)) else if v2 ≤ (40) then Option.bind (q_gR 8 1 h v0) (fun x45 => Option.bind (q_gR 8 0 h v0) (fun x46 => Option.bind (f_X8_copyFrom h x45 x46) (fun q47 => Option.bind (q_p 8 9 q47.1 v0 (.int v1)) (fun h48 => l_X9_years_31 q_FU h48 v0 v2 (0))))) else some (h, (-1))
def f_X9_years (h : q_H) (a0 : Nat) (a1 : Int32) (a2 : Int32) : Option (q_H × Int32) := q_chk 8 h a0 (b_X9_years_0 h a0 a1 a2)
set_option maxRecDepth 20000 in
set_option maxHeartbeats 1000000 in
theorem jb_X9_years_31 {G : q_G} {l : Launch} {k0 z0 : Nat} (k31 : q_H → Nat → Int32 → Int32 → Option (q_H × Int32)) (hk31 : ∀ (h : q_H) (v0 : Nat) (v2 : Int32) (v3 : Int32), q_J G l (RX9, cX9_years, 4, 6, 178, (some .int), "years", []) k0 z0 (q_Z G k0 z0 q_i) 31 [(0, .ref v0), (2, .int v2), (3, .int v3)] [] h (k31 h v0 v2 v3)) (h : q_H) (v0 : Nat) (v2 : Int32) (v3 : Int32) : q_J G l (RX9, cX9_years, 4, 6, 178, (some .int), "years", []) k0 z0 (q_Z G k0 z0 q_i) 31 [(0, .ref v0), (2, .int v2), (3, .int v3)] [] h (b_X9_years_31 k31 h v0 v2 v3) := by
  unfold b_X9_years_31
  refine j_iload_n (pc := 31) (p := 2) rfl rfl dX9_years_31 ?_
  refine j_iload_n (pc := 32) (p := 1) rfl rfl dX9_years_32 ?_
  refine j_ic_ge (pc := 33) (tgt := 46) dX9_years_33 (by decide) (fun _ => ?_) (fun _ => ?_)
  · refine j_aload_n (pc := 46) (p := 0) rfl rfl dX9_years_46 ?_
    refine j_getR (pc := 47) FI_X9 (k := 4) (by decide) fl_X9_30 dX9_years_47 (fun x1 _ => ?_)
    refine j_aload_n (pc := 50) (p := 0) rfl rfl dX9_years_50 ?_
    refine j_getR (pc := 51) FI_X9 (k := 1) (by decide) fl_X9_16 dX9_years_51 (fun x2 _ => ?_)
    refine j_getR (pc := 54) FI_X8 (k := 0) (by decide) fl_X9_82 dX9_years_54 (fun x3 _ => ?_)
    refine j_iconst (pc := 57) ki_0 dX9_years_57 ?_
    refine j_aald (pc := 58) (t := 4) rfl dX9_years_58 (fun x4 _ => ?_)
    refine j_getR (pc := 59) FI_X0 (k := 5) (by decide) fl_X9_86 dX9_years_59 (fun x5 _ => ?_)
    refine j_aload_n (pc := 62) (p := 0) rfl rfl dX9_years_62 ?_
    refine j_getR (pc := 63) FI_X9 (k := 1) (by decide) fl_X9_16 dX9_years_63 (fun x6 _ => ?_)
    refine j_getR (pc := 66) FI_X8 (k := 0) (by decide) fl_X9_82 dX9_years_66 (fun x7 _ => ?_)
    refine j_iconst (pc := 69) ki_1 dX9_years_69 ?_
    refine j_aald (pc := 70) (t := 4) rfl dX9_years_70 (fun x8 _ => ?_)
    refine j_getR (pc := 71) FI_X0 (k := 5) (by decide) fl_X9_86 dX9_years_71 (fun x9 _ => ?_)
    refine j_cVi (pc := 74) Y_X7_otherThan (ci := 6) (b := x5) rfl rfl ml_X9_160 im_X7_otherThan se_X7_otherThan ⟨Nat.le_of_ble_eq_true rfl, Nat.le_of_ble_eq_true rfl⟩ dX9_years_74 (As := [.ref x9]) (rest := [.ref x1]) rfl rfl (Nat.le_of_ble_eq_true rfl) (fun x hq9 => c_X7_otherThan _ _ _ _ hq9) (fun q10 _ => ?_)
    refine j_i2l (pc := 77) dX9_years_77 ?_
    refine j_cVu (pc := 78) Y_X4_tell (ci := 3) (b := x1) rfl rfl ml_X9_141 im_X4_tell se_X4_tell ⟨Nat.le_of_ble_eq_true rfl, Nat.le_of_ble_eq_true rfl⟩ dX9_years_78 (As := [.long (Int32.toInt64 q10.2)]) (rest := []) rfl rfl (Nat.le_of_ble_eq_true rfl) (fun x hq9 => c_X4_tell _ _ _ _ hq9) (fun q11 _ => ?_)
    refine j_aload_n (pc := 81) (p := 0) rfl rfl dX9_years_81 ?_
    refine j_getR (pc := 82) FI_X9 (k := 4) (by decide) fl_X9_30 dX9_years_82 (fun x12 _ => ?_)
    refine j_aload_n (pc := 85) (p := 0) rfl rfl dX9_years_85 ?_
    refine j_getR (pc := 86) FI_X9 (k := 1) (by decide) fl_X9_16 dX9_years_86 (fun x13 _ => ?_)
    refine j_getR (pc := 89) FI_X8 (k := 0) (by decide) fl_X9_82 dX9_years_89 (fun x14 _ => ?_)
    refine j_iconst (pc := 92) ki_2 dX9_years_92 ?_
    refine j_aald (pc := 93) (t := 4) rfl dX9_years_93 (fun x15 _ => ?_)
    refine j_getR (pc := 94) FI_X0 (k := 5) (by decide) fl_X9_86 dX9_years_94 (fun x16 _ => ?_)
    refine j_cVi (pc := 97) Y_X7_folders (ci := 6) (b := x16) rfl rfl ml_X9_283 im_X7_folders se_X7_folders ⟨Nat.le_of_ble_eq_true rfl, Nat.le_of_ble_eq_true rfl⟩ dX9_years_97 (As := []) (rest := [.ref x12]) rfl rfl (Nat.le_of_ble_eq_true rfl) (fun x hq9 => c_X7_folders _ _ _ hq9) (fun q17 _ => ?_)
    refine j_i2l (pc := 100) dX9_years_100 ?_
    refine j_cVu (pc := 101) Y_X4_add (ci := 3) (b := x12) rfl rfl ml_X9_170 im_X4_add se_X4_add ⟨Nat.le_of_ble_eq_true rfl, Nat.le_of_ble_eq_true rfl⟩ dX9_years_101 (As := [.long (Int32.toInt64 q17.2)]) (rest := []) rfl rfl (Nat.le_of_ble_eq_true rfl) (fun x hq9 => c_X4_add _ _ _ _ hq9) (fun q18 _ => ?_)
    refine j_aload_n (pc := 104) (p := 0) rfl rfl dX9_years_104 ?_
    refine j_getR (pc := 105) FI_X9 (k := 4) (by decide) fl_X9_30 dX9_years_105 (fun x19 _ => ?_)
    refine j_aload_n (pc := 108) (p := 0) rfl rfl dX9_years_108 ?_
    refine j_getR (pc := 109) FI_X9 (k := 1) (by decide) fl_X9_16 dX9_years_109 (fun x20 _ => ?_)
    refine j_getR (pc := 112) FI_X8 (k := 0) (by decide) fl_X9_82 dX9_years_112 (fun x21 _ => ?_)
    refine j_iconst (pc := 115) ki_0 dX9_years_115 ?_
    refine j_aald (pc := 116) (t := 4) rfl dX9_years_116 (fun x22 _ => ?_)
    refine j_cVi (pc := 117) Y_X0_stableTime (ci := 0) (b := x22) rfl rfl ml_X9_206 im_X0_stableTime se_X0_stableTime ⟨Nat.le_of_ble_eq_true rfl, Nat.le_of_ble_eq_true rfl⟩ dX9_years_117 (As := []) (rest := [.ref x19]) rfl rfl (Nat.le_of_ble_eq_true rfl) (fun x hq9 => c_X0_stableTime _ _ _ hq9) (fun q23 _ => ?_)
    refine j_i2l (pc := 120) dX9_years_120 ?_
    refine j_cVu (pc := 121) Y_X4_add (ci := 3) (b := x19) rfl rfl ml_X9_170 im_X4_add se_X4_add ⟨Nat.le_of_ble_eq_true rfl, Nat.le_of_ble_eq_true rfl⟩ dX9_years_121 (As := [.long (Int32.toInt64 q23.2)]) (rest := []) rfl rfl (Nat.le_of_ble_eq_true rfl) (fun x hq9 => c_X4_add _ _ _ _ hq9) (fun q24 _ => ?_)
    refine j_aload_n (pc := 124) (p := 0) rfl rfl dX9_years_124 ?_
    refine j_getR (pc := 125) FI_X9 (k := 4) (by decide) fl_X9_30 dX9_years_125 (fun x25 _ => ?_)
    refine j_aload_n (pc := 128) (p := 0) rfl rfl dX9_years_128 ?_
    refine j_getR (pc := 129) FI_X9 (k := 1) (by decide) fl_X9_16 dX9_years_129 (fun x26 _ => ?_)
    refine j_cVi (pc := 132) Y_X8_waiting (ci := 7) (b := x26) rfl rfl ml_X9_333 im_X8_waiting se_X8_waiting ⟨Nat.le_of_ble_eq_true rfl, Nat.le_of_ble_eq_true rfl⟩ dX9_years_132 (As := []) (rest := [.ref x25]) rfl rfl (Nat.le_of_ble_eq_true rfl) (fun x hq9 => c_X8_waiting _ _ _ hq9) (fun q27 _ => ?_)
    refine j_i2l (pc := 135) dX9_years_135 ?_
    refine j_cVu (pc := 136) Y_X4_add (ci := 3) (b := x25) rfl rfl ml_X9_170 im_X4_add se_X4_add ⟨Nat.le_of_ble_eq_true rfl, Nat.le_of_ble_eq_true rfl⟩ dX9_years_136 (As := [.long (Int32.toInt64 q27.2)]) (rest := []) rfl rfl (Nat.le_of_ble_eq_true rfl) (fun x hq9 => c_X4_add _ _ _ _ hq9) (fun q28 _ => ?_)
    refine j_aload_n (pc := 139) (p := 0) rfl rfl dX9_years_139 ?_
    refine j_getR (pc := 140) FI_X9 (k := 1) (by decide) fl_X9_16 dX9_years_140 (fun x29 _ => ?_)
    refine j_getR (pc := 143) FI_X8 (k := 0) (by decide) fl_X9_82 dX9_years_143 (fun x30 _ => ?_)
    refine j_iconst (pc := 146) ki_0 dX9_years_146 ?_
    refine j_aald (pc := 147) (t := 4) rfl dX9_years_147 (fun x31 _ => ?_)
    refine j_getR (pc := 148) FI_X0 (k := 3) (by decide) fl_X9_120 dX9_years_148 (fun x32 _ => ?_)
    refine j_getI (pc := 151) FI_X5 (k := 1) (by decide) fl_X9_140 dX9_years_151 (fun x33 _ => ?_)
    refine j_aload_n (pc := 154) (p := 0) rfl rfl dX9_years_154 ?_
    refine j_getR (pc := 155) FI_X9 (k := 1) (by decide) fl_X9_16 dX9_years_155 (fun x34 _ => ?_)
    refine j_getR (pc := 158) FI_X8 (k := 0) (by decide) fl_X9_82 dX9_years_158 (fun x35 _ => ?_)
    refine j_iconst (pc := 161) ki_1 dX9_years_161 ?_
    refine j_aald (pc := 162) (t := 4) rfl dX9_years_162 (fun x36 _ => ?_)
    refine j_getR (pc := 163) FI_X0 (k := 3) (by decide) fl_X9_120 dX9_years_163 (fun x37 _ => ?_)
    refine j_getI (pc := 166) FI_X5 (k := 1) (by decide) fl_X9_140 dX9_years_166 (fun x38 _ => ?_)
    refine j_iadd (pc := 169) dX9_years_169 ?_
    refine j_aload_n (pc := 170) (p := 0) rfl rfl dX9_years_170 ?_
    refine j_getR (pc := 171) FI_X9 (k := 1) (by decide) fl_X9_16 dX9_years_171 (fun x39 _ => ?_)
    refine j_getR (pc := 174) FI_X8 (k := 0) (by decide) fl_X9_82 dX9_years_174 (fun x40 _ => ?_)
    refine j_iconst (pc := 177) ki_2 dX9_years_177 ?_
    refine j_aald (pc := 178) (t := 4) rfl dX9_years_178 (fun x41 _ => ?_)
    refine j_getR (pc := 179) FI_X0 (k := 3) (by decide) fl_X9_120 dX9_years_179 (fun x42 _ => ?_)
    refine j_getI (pc := 182) FI_X5 (k := 1) (by decide) fl_X9_140 dX9_years_182 (fun x43 _ => ?_)
    refine j_iadd (pc := 185) dX9_years_185 ?_
    exact j_iret (pc := 186) rfl dX9_years_186
  refine j_aload_n (pc := 36) (p := 0) rfl rfl dX9_years_36 ?_
  refine j_cVu (pc := 37) Y_X9_drawAct (ci := 8) (b := v0) rfl rfl ml_X9_330 im_X9_drawAct se_X9_drawAct ⟨Nat.le_of_ble_eq_true rfl, Nat.le_of_ble_eq_true rfl⟩ dX9_years_37 (As := []) (rest := []) rfl rfl (Nat.le_of_ble_eq_true rfl) (fun x hq9 => c_X9_drawAct _ _ _ hq9) (fun q44 _ => ?_)
  refine j_inc (pc := 40) (p := 2) (lv' := [(3, .int (v3 + 1)), (0, .ref v0), (2, .int v2)]) rfl ki_1 (by decide) rfl dX9_years_40 ?_
  refine j_goto (pc := 43) (tgt := 31) dX9_years_43 (by decide) ?_
  refine j_sub [1, 2, 0] (lv' := [(0, .ref v0), (2, .int v2), (3, .int (v3 + 1))]) rfl ?_
  exact hk31 _ _ _ _
set_option maxRecDepth 20000 in
set_option maxHeartbeats 1000000 in
theorem jl_X9_years_31 {G : q_G} {l : Launch} {k0 z0 : Nat} (n : Nat) : ∀ (h : q_H) (v0 : Nat) (v2 : Int32) (v3 : Int32), q_J G l (RX9, cX9_years, 4, 6, 178, (some .int), "years", []) k0 z0 (q_Z G k0 z0 q_i) 31 [(0, .ref v0), (2, .int v2), (3, .int v3)] [] h (l_X9_years_31 n h v0 v2 v3) := by
  induction n with
  | zero => intro h v0 v2 v3; exact j_none
  | succ n ih => intro h v0 v2 v3; exact jb_X9_years_31 (l_X9_years_31 n) ih h v0 v2 v3
set_option maxRecDepth 20000 in
set_option maxHeartbeats 1000000 in
theorem jb_X9_years_0 {G : q_G} {l : Launch} {k0 z0 : Nat} (h : q_H) (v0 : Nat) (v1 : Int32) (v2 : Int32) : q_J G l (RX9, cX9_years, 4, 6, 178, (some .int), "years", []) k0 z0 (q_Z G k0 z0 q_i) 0 [(0, .ref v0), (1, .int v1), (2, .int v2)] [] h (b_X9_years_0 h v0 v1 v2) := by
  unfold b_X9_years_0
  refine j_iload_n (pc := 0) (p := 2) rfl rfl dX9_years_0 ?_
  refine j_iconst (pc := 1) ki_1 dX9_years_1 ?_
  refine j_ic_lt (pc := 2) (tgt := 11) dX9_years_2 (by decide) (fun _ => ?_) (fun _ => ?_)
  · refine j_iconst (pc := 11) ki_m1 dX9_years_11 ?_
    exact j_iret (pc := 12) rfl dX9_years_12
  refine j_iload_n (pc := 5) (p := 2) rfl rfl dX9_years_5 ?_
  refine j_bipush (pc := 6) kb_40 dX9_years_6 ?_
  refine j_ic_le (pc := 8) (tgt := 13) dX9_years_8 (by decide) (fun _ => ?_) (fun _ => ?_)
  · refine j_aload_n (pc := 13) (p := 0) rfl rfl dX9_years_13 ?_
    refine j_getR (pc := 14) FI_X9 (k := 1) (by decide) fl_X9_16 dX9_years_14 (fun x45 _ => ?_)
    refine j_aload_n (pc := 17) (p := 0) rfl rfl dX9_years_17 ?_
    refine j_getR (pc := 18) FI_X9 (k := 0) (by decide) fl_X9_12 dX9_years_18 (fun x46 _ => ?_)
    refine j_cVu (pc := 21) Y_X8_copyFrom (ci := 7) (b := x45) rfl rfl ml_X9_271 im_X8_copyFrom se_X8_copyFrom ⟨Nat.le_of_ble_eq_true rfl, Nat.le_of_ble_eq_true rfl⟩ dX9_years_21 (As := [.ref x46]) (rest := []) rfl rfl (Nat.le_of_ble_eq_true rfl) (fun x hq9 => c_X8_copyFrom _ _ _ _ hq9) (fun q47 _ => ?_)
    refine j_aload_n (pc := 24) (p := 0) rfl rfl dX9_years_24 ?_
    refine j_iload_n (pc := 25) (p := 1) rfl rfl dX9_years_25 ?_
    refine j_put (pc := 26) FI_X9 (k := 9) (by decide) fl_X9_327 rfl rfl rfl dX9_years_26 (fun h48 _ => ?_)
    refine j_iconst (pc := 29) ki_0 dX9_years_29 ?_
    refine j_istore_n (pc := 30) (lv' := [(3, .int (0)), (0, .ref v0), (1, .int v1), (2, .int v2)]) rfl (by decide) rfl dX9_years_30 ?_
    refine j_sub [1, 3, 0] (lv' := [(0, .ref v0), (2, .int v2), (3, .int (0))]) rfl ?_
    exact jl_X9_years_31 q_FU _ _ _ _
  refine j_iconst (pc := 11) ki_m1 dX9_years_11 ?_
  exact j_iret (pc := 12) rfl dX9_years_12
set_option maxRecDepth 20000 in
set_option maxHeartbeats 1000000 in
theorem c_X9_years {G : q_G} {l : Launch} : ∀ (h : q_H) (a0 : Nat) (a1 : Int32) (a2 : Int32) (q : q_H × Int32), f_X9_years h a0 a1 a2 = some q → (∃ fs, h.1 a0 = .inr (8, fs)) ∧ q_CT G l yX9_years cX9_years 4 (some .int) 6 178 [.ref a0, .int a1, .int a2] h q.1 (q_i q.2) := by
  intro h a0 a1 a2 q e
  obtain ⟨e1, e2⟩ := q_chk_ok e
  exact ⟨e1, q_ofJ Y_X9_years (Nat.le_of_ble_eq_true rfl) (jb_X9_years_0 h a0 a1 a2) q e2⟩
