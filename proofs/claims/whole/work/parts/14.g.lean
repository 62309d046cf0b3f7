/-! FarFolders.count(I)I -/
theorem dX9_count_0 : decode cX9_count 0 = .ok (.iload_n 1, 1) := by decide +kernel
theorem dX9_count_1 : decode cX9_count 1 = .ok (.ifCond .lt 24, 3) := by decide +kernel
theorem dX9_count_4 : decode cX9_count 4 = .ok (.iload_n 1, 1) := by decide +kernel
theorem dX9_count_5 : decode cX9_count 5 = .ok (.iconst 3, 1) := by decide +kernel
theorem dX9_count_6 : decode cX9_count 6 = .ok (.if_icmp .ge 19, 3) := by decide +kernel
theorem dX9_count_9 : decode cX9_count 9 = .ok (.aload_n 0, 1) := by decide +kernel
theorem dX9_count_10 : decode cX9_count 10 = .ok (.getfield 12, 3) := by decide +kernel
theorem dX9_count_13 : decode cX9_count 13 = .ok (.getfield 82, 3) := by decide +kernel
theorem dX9_count_16 : decode cX9_count 16 = .ok (.iload_n 1, 1) := by decide +kernel
theorem dX9_count_17 : decode cX9_count 17 = .ok (.aaload, 1) := by decide +kernel
theorem dX9_count_18 : decode cX9_count 18 = .ok (.getfield 120, 3) := by decide +kernel
theorem dX9_count_21 : decode cX9_count 21 = .ok (.getfield 140, 3) := by decide +kernel
theorem dX9_count_24 : decode cX9_count 24 = .ok (.ireturn, 1) := by decide +kernel
theorem dX9_count_25 : decode cX9_count 25 = .ok (.iload_n 1, 1) := by decide +kernel
theorem dX9_count_26 : decode cX9_count 26 = .ok (.iconst 3, 1) := by decide +kernel
theorem dX9_count_27 : decode cX9_count 27 = .ok (.if_icmp .lt 27, 3) := by decide +kernel
theorem dX9_count_30 : decode cX9_count 30 = .ok (.iload_n 1, 1) := by decide +kernel
theorem dX9_count_31 : decode cX9_count 31 = .ok (.bipush 6, 2) := by decide +kernel
theorem dX9_count_33 : decode cX9_count 33 = .ok (.if_icmp .ge 21, 3) := by decide +kernel
theorem dX9_count_36 : decode cX9_count 36 = .ok (.aload_n 0, 1) := by decide +kernel
theorem dX9_count_37 : decode cX9_count 37 = .ok (.getfield 12, 3) := by decide +kernel
theorem dX9_count_40 : decode cX9_count 40 = .ok (.getfield 82, 3) := by decide +kernel
theorem dX9_count_43 : decode cX9_count 43 = .ok (.iload_n 1, 1) := by decide +kernel
theorem dX9_count_44 : decode cX9_count 44 = .ok (.iconst 3, 1) := by decide +kernel
theorem dX9_count_45 : decode cX9_count 45 = .ok (.isub, 1) := by decide +kernel
theorem dX9_count_46 : decode cX9_count 46 = .ok (.aaload, 1) := by decide +kernel
theorem dX9_count_47 : decode cX9_count 47 = .ok (.getfield 86, 3) := by decide +kernel
theorem dX9_count_50 : decode cX9_count 50 = .ok (.invokevirtual 283, 3) := by decide +kernel
theorem dX9_count_53 : decode cX9_count 53 = .ok (.ireturn, 1) := by decide +kernel
theorem dX9_count_54 : decode cX9_count 54 = .ok (.iload_n 1, 1) := by decide +kernel
theorem dX9_count_55 : decode cX9_count 55 = .ok (.tableswitch 61 6 9 #[29, 37, 45, 53], 29) := by decide +kernel
theorem dX9_count_84 : decode cX9_count 84 = .ok (.aload_n 0, 1) := by decide +kernel
theorem dX9_count_85 : decode cX9_count 85 = .ok (.getfield 12, 3) := by decide +kernel
theorem dX9_count_88 : decode cX9_count 88 = .ok (.invokevirtual 333, 3) := by decide +kernel
theorem dX9_count_91 : decode cX9_count 91 = .ok (.ireturn, 1) := by decide +kernel
theorem dX9_count_92 : decode cX9_count 92 = .ok (.aload_n 0, 1) := by decide +kernel
theorem dX9_count_93 : decode cX9_count 93 = .ok (.getfield 30, 3) := by decide +kernel
theorem dX9_count_96 : decode cX9_count 96 = .ok (.getfield 258, 3) := by decide +kernel
theorem dX9_count_99 : decode cX9_count 99 = .ok (.ireturn, 1) := by decide +kernel
theorem dX9_count_100 : decode cX9_count 100 = .ok (.aload_n 0, 1) := by decide +kernel
theorem dX9_count_101 : decode cX9_count 101 = .ok (.getfield 37, 3) := by decide +kernel
theorem dX9_count_104 : decode cX9_count 104 = .ok (.getfield 66, 3) := by decide +kernel
theorem dX9_count_107 : decode cX9_count 107 = .ok (.ireturn, 1) := by decide +kernel
theorem dX9_count_108 : decode cX9_count 108 = .ok (.aload_n 0, 1) := by decide +kernel
theorem dX9_count_109 : decode cX9_count 109 = .ok (.getfield 12, 3) := by decide +kernel
theorem dX9_count_112 : decode cX9_count 112 = .ok (.invokevirtual 336, 3) := by decide +kernel
theorem dX9_count_115 : decode cX9_count 115 = .ok (.ireturn, 1) := by decide +kernel
theorem dX9_count_116 : decode cX9_count 116 = .ok (.iconst (-1), 1) := by decide +kernel
theorem dX9_count_117 : decode cX9_count 117 = .ok (.ireturn, 1) := by decide +kernel
def b_X9_count_54 (h : q_H) (v0 : Nat) (v1 : Int32) : Option (q_H × Int32) :=
  if v1 = (6) then Option.bind (q_gR 8 0 h v0) (fun x2 => Option.bind (f_X8_waiting h x2) (fun q3 => some (q3.1, q3.2))) else if v1 = (7) then Option.bind (q_gR 8 4 h v0) (fun x5 => Option.bind (q_gI 3 1 h x5) (fun x6 => some (h, x6))) else if v1 = (8) then Option.bind (q_gR 8 5 h v0) (fun x8 => Option.bind (q_gI 5 1 h x8) (fun x9 => some (h, x9))) else if v1 = (9) then Option.bind (q_gR 8 0 h v0) (fun x11 => Option.bind (f_X8_latestTime h x11) (fun q12 => some (q12.1, q12.2))) else some (h, (-1))
def b_X9_count_25 (h : q_H) (v0 : Nat) (v1 : Int32) : Option (q_H × Int32) :=
  if v1 < (3) then b_X9_count_54 h v0 v1 else if (6) ≤ v1 then b_X9_count_54 h v0 v1 else Option.bind (q_gR 8 0 h v0) (fun x13 => Option.bind (q_gR 7 0 h x13) (fun x14 => Option.bind (q_lR 4 h x14 (v1 - (3))) (fun x15 => Option.bind (q_gR 0 5 h x15) (fun x16 => Option.bind (f_X7_folders h x16) (fun q17 => some (q17.1, q17.2))))))
def b_X9_count_0 (h : q_H) (v0 : Nat) (v1 : Int32) : Option (q_H × Int32) :=
  if v1 < 0 then b_X9_count_25 h v0 v1 else if (3) ≤ v1 then b_X9_count_25 h v0 v1 else Option.bind (q_gR 8 0 h v0) (fun x18 => Option.bind (q_gR 7 0 h x18) (fun x19 => Option.bind (q_lR 4 h x19 v1) (fun x20 => Option.bind (q_gR 0 3 h x20) (fun x21 => Option.bind (q_gI 4 1 h x21) (fun x22 => some (h, x22))))))
def f_X9_count (h : q_H) (a0 : Nat) (a1 : Int32) : Option (q_H × Int32) := q_chk 8 h a0 (b_X9_count_0 h a0 a1)
set_option maxRecDepth 20000 in
set_option maxHeartbeats 1000000 in
theorem jb_X9_count_54 {G : q_G} {l : Launch} {k0 z0 : Nat} (h : q_H) (v0 : Nat) (v1 : Int32) : q_J G l (RX9, cX9_count, 2, 3, 80, (some .int), "count", []) k0 z0 (q_Z G k0 z0 q_i) 54 [(0, .ref v0), (1, .int v1)] [] h (b_X9_count_54 h v0 v1) := by
  unfold b_X9_count_54
  refine j_iload_n (pc := 54) (p := 1) rfl rfl dX9_count_54 ?_
  refine j_ite (fun c1 => ?_) (fun c1 => ?_)
  · refine j_tsI (pc := 55) (y := 6) (off := 29) (tgt := 84) dX9_count_55 c1 ⟨by decide, by decide, by decide⟩ (by decide) ?_
    refine j_aload_n (pc := 84) (p := 0) rfl rfl dX9_count_84 ?_
    refine j_getR (pc := 85) FI_X9 (k := 0) (by decide) fl_X9_12 dX9_count_85 (fun x2 _ => ?_)
    refine j_cVi (pc := 88) Y_X8_waiting (ci := 7) (b := x2) rfl rfl ml_X9_333 im_X8_waiting se_X8_waiting ⟨Nat.le_of_ble_eq_true rfl, Nat.le_of_ble_eq_true rfl⟩ dX9_count_88 (As := []) (rest := []) rfl rfl (Nat.le_of_ble_eq_true rfl) (fun x hq9 => c_X8_waiting _ _ _ hq9) (fun q3 _ => ?_)
    exact j_iret (pc := 91) rfl dX9_count_91
  refine j_ite (fun c4 => ?_) (fun c4 => ?_)
  · refine j_tsI (pc := 55) (y := 7) (off := 37) (tgt := 92) dX9_count_55 c4 ⟨by decide, by decide, by decide⟩ (by decide) ?_
    refine j_aload_n (pc := 92) (p := 0) rfl rfl dX9_count_92 ?_
    refine j_getR (pc := 93) FI_X9 (k := 4) (by decide) fl_X9_30 dX9_count_93 (fun x5 _ => ?_)
    refine j_getI (pc := 96) FI_X4 (k := 1) (by decide) fl_X9_258 dX9_count_96 (fun x6 _ => ?_)
    exact j_iret (pc := 99) rfl dX9_count_99
  refine j_ite (fun c7 => ?_) (fun c7 => ?_)
  · refine j_tsI (pc := 55) (y := 8) (off := 45) (tgt := 100) dX9_count_55 c7 ⟨by decide, by decide, by decide⟩ (by decide) ?_
    refine j_aload_n (pc := 100) (p := 0) rfl rfl dX9_count_100 ?_
    refine j_getR (pc := 101) FI_X9 (k := 5) (by decide) fl_X9_37 dX9_count_101 (fun x8 _ => ?_)
    refine j_getI (pc := 104) FI_X6 (k := 1) (by decide) fl_X9_66 dX9_count_104 (fun x9 _ => ?_)
    exact j_iret (pc := 107) rfl dX9_count_107
  refine j_ite (fun c10 => ?_) (fun c10 => ?_)
  · refine j_tsI (pc := 55) (y := 9) (off := 53) (tgt := 108) dX9_count_55 c10 ⟨by decide, by decide, by decide⟩ (by decide) ?_
    refine j_aload_n (pc := 108) (p := 0) rfl rfl dX9_count_108 ?_
    refine j_getR (pc := 109) FI_X9 (k := 0) (by decide) fl_X9_12 dX9_count_109 (fun x11 _ => ?_)
    refine j_cVi (pc := 112) Y_X8_latestTime (ci := 7) (b := x11) rfl rfl ml_X9_336 im_X8_latestTime se_X8_latestTime ⟨Nat.le_of_ble_eq_true rfl, Nat.le_of_ble_eq_true rfl⟩ dX9_count_112 (As := []) (rest := []) rfl rfl (Nat.le_of_ble_eq_true rfl) (fun x hq9 => c_X8_latestTime _ _ _ hq9) (fun q12 _ => ?_)
    exact j_iret (pc := 115) rfl dX9_count_115
  refine j_tsO (pc := 55) (tgt := 116) dX9_count_55 (by have a_c1 := lv_neT c1 (show ((6 : Int32)).toInt = 6 by decide); have a_c4 := lv_neT c4 (show ((7 : Int32)).toInt = 7 by decide); have a_c7 := lv_neT c7 (show ((8 : Int32)).toInt = 8 by decide); have a_c10 := lv_neT c10 (show ((9 : Int32)).toInt = 9 by decide); omega) (by decide) ?_
  refine j_iconst (pc := 116) ki_m1 dX9_count_116 ?_
  exact j_iret (pc := 117) rfl dX9_count_117
set_option maxRecDepth 20000 in
set_option maxHeartbeats 1000000 in
theorem jb_X9_count_25 {G : q_G} {l : Launch} {k0 z0 : Nat} (h : q_H) (v0 : Nat) (v1 : Int32) : q_J G l (RX9, cX9_count, 2, 3, 80, (some .int), "count", []) k0 z0 (q_Z G k0 z0 q_i) 25 [(0, .ref v0), (1, .int v1)] [] h (b_X9_count_25 h v0 v1) := by
  unfold b_X9_count_25
  refine j_iload_n (pc := 25) (p := 1) rfl rfl dX9_count_25 ?_
  refine j_iconst (pc := 26) ki_3 dX9_count_26 ?_
  refine j_ic_lt (pc := 27) (tgt := 54) dX9_count_27 (by decide) (fun _ => ?_) (fun _ => ?_)
  · exact jb_X9_count_54 _ _ _
  refine j_iload_n (pc := 30) (p := 1) rfl rfl dX9_count_30 ?_
  refine j_bipush (pc := 31) kb_6 dX9_count_31 ?_
  refine j_ic_ge (pc := 33) (tgt := 54) dX9_count_33 (by decide) (fun _ => ?_) (fun _ => ?_)
  · exact jb_X9_count_54 _ _ _
  refine j_aload_n (pc := 36) (p := 0) rfl rfl dX9_count_36 ?_
  refine j_getR (pc := 37) FI_X9 (k := 0) (by decide) fl_X9_12 dX9_count_37 (fun x13 _ => ?_)
  refine j_getR (pc := 40) FI_X8 (k := 0) (by decide) fl_X9_82 dX9_count_40 (fun x14 _ => ?_)
  refine j_iload_n (pc := 43) (p := 1) rfl rfl dX9_count_43 ?_
  refine j_iconst (pc := 44) ki_3 dX9_count_44 ?_
  refine j_isub (pc := 45) dX9_count_45 ?_
  refine j_aald (pc := 46) (t := 4) rfl dX9_count_46 (fun x15 _ => ?_)
  refine j_getR (pc := 47) FI_X0 (k := 5) (by decide) fl_X9_86 dX9_count_47 (fun x16 _ => ?_)
  refine j_cVi (pc := 50) Y_X7_folders (ci := 6) (b := x16) rfl rfl ml_X9_283 im_X7_folders se_X7_folders ⟨Nat.le_of_ble_eq_true rfl, Nat.le_of_ble_eq_true rfl⟩ dX9_count_50 (As := []) (rest := []) rfl rfl (Nat.le_of_ble_eq_true rfl) (fun x hq9 => c_X7_folders _ _ _ hq9) (fun q17 _ => ?_)
  exact j_iret (pc := 53) rfl dX9_count_53
set_option maxRecDepth 20000 in
set_option maxHeartbeats 1000000 in
theorem jb_X9_count_0 {G : q_G} {l : Launch} {k0 z0 : Nat} (h : q_H) (v0 : Nat) (v1 : Int32) : q_J G l (RX9, cX9_count, 2, 3, 80, (some .int), "count", []) k0 z0 (q_Z G k0 z0 q_i) 0 [(0, .ref v0), (1, .int v1)] [] h (b_X9_count_0 h v0 v1) := by
  unfold b_X9_count_0
  refine j_iload_n (pc := 0) (p := 1) rfl rfl dX9_count_0 ?_
  refine j_if_lt (pc := 1) (tgt := 25) dX9_count_1 (by decide) (fun _ => ?_) (fun _ => ?_)
  · exact jb_X9_count_25 _ _ _
  refine j_iload_n (pc := 4) (p := 1) rfl rfl dX9_count_4 ?_
  refine j_iconst (pc := 5) ki_3 dX9_count_5 ?_
  refine j_ic_ge (pc := 6) (tgt := 25) dX9_count_6 (by decide) (fun _ => ?_) (fun _ => ?_)
  · exact jb_X9_count_25 _ _ _
  refine j_aload_n (pc := 9) (p := 0) rfl rfl dX9_count_9 ?_
  refine j_getR (pc := 10) FI_X9 (k := 0) (by decide) fl_X9_12 dX9_count_10 (fun x18 _ => ?_)
  refine j_getR (pc := 13) FI_X8 (k := 0) (by decide) fl_X9_82 dX9_count_13 (fun x19 _ => ?_)
  refine j_iload_n (pc := 16) (p := 1) rfl rfl dX9_count_16 ?_
  refine j_aald (pc := 17) (t := 4) rfl dX9_count_17 (fun x20 _ => ?_)
  refine j_getR (pc := 18) FI_X0 (k := 3) (by decide) fl_X9_120 dX9_count_18 (fun x21 _ => ?_)
  refine j_getI (pc := 21) FI_X5 (k := 1) (by decide) fl_X9_140 dX9_count_21 (fun x22 _ => ?_)
  exact j_iret (pc := 24) rfl dX9_count_24
set_option maxRecDepth 20000 in
set_option maxHeartbeats 1000000 in
theorem c_X9_count {G : q_G} {l : Launch} : ∀ (h : q_H) (a0 : Nat) (a1 : Int32) (q : q_H × Int32), f_X9_count h a0 a1 = some q → (∃ fs, h.1 a0 = .inr (8, fs)) ∧ q_CT G l yX9_count cX9_count 2 (some .int) 3 80 [.ref a0, .int a1] h q.1 (q_i q.2) := by
  intro h a0 a1 q e
  obtain ⟨e1, e2⟩ := q_chk_ok e
  exact ⟨e1, q_ofJ Y_X9_count (Nat.le_of_ble_eq_true rfl) (jb_X9_count_0 h a0 a1) q e2⟩
/-! FarFolders.cuts(I)I -/
theorem dX9_cuts_0 : decode cX9_cuts 0 = .ok (.aload_n 0, 1) := by decide +kernel
theorem dX9_cuts_1 : decode cX9_cuts 1 = .ok (.getfield 12, 3) := by decide +kernel
theorem dX9_cuts_4 : decode cX9_cuts 4 = .ok (.iload_n 1, 1) := by decide +kernel
theorem dX9_cuts_5 : decode cX9_cuts 5 = .ok (.invokevirtual 173, 3) := by decide +kernel
theorem dX9_cuts_8 : decode cX9_cuts 8 = .ok (.ireturn, 1) := by decide +kernel
def b_X9_cuts_0 (h : q_H) (v0 : Nat) (v1 : Int32) : Option (q_H × Int32) :=
  Option.bind (q_gR 8 0 h v0) (fun x1 => Option.bind (f_X8_cut h x1 v1) (fun q2 => some (q2.1, q2.2)))
def f_X9_cuts (h : q_H) (a0 : Nat) (a1 : Int32) : Option (q_H × Int32) := q_chk 8 h a0 (b_X9_cuts_0 h a0 a1)
set_option maxRecDepth 20000 in
set_option maxHeartbeats 1000000 in
theorem jb_X9_cuts_0 {G : q_G} {l : Launch} {k0 z0 : Nat} (h : q_H) (v0 : Nat) (v1 : Int32) : q_J G l (RX9, cX9_cuts, 2, 5, 145, (some .int), "cuts", []) k0 z0 (q_Z G k0 z0 q_i) 0 [(0, .ref v0), (1, .int v1)] [] h (b_X9_cuts_0 h v0 v1) := by
  unfold b_X9_cuts_0
  refine j_aload_n (pc := 0) (p := 0) rfl rfl dX9_cuts_0 ?_
  refine j_getR (pc := 1) FI_X9 (k := 0) (by decide) fl_X9_12 dX9_cuts_1 (fun x1 _ => ?_)
  refine j_iload_n (pc := 4) (p := 1) rfl rfl dX9_cuts_4 ?_
  refine j_cVi (pc := 5) Y_X8_cut (ci := 7) (b := x1) rfl rfl ml_X9_173 im_X8_cut se_X8_cut ⟨Nat.le_of_ble_eq_true rfl, Nat.le_of_ble_eq_true rfl⟩ dX9_cuts_5 (As := [.int v1]) (rest := []) rfl rfl (Nat.le_of_ble_eq_true rfl) (fun x hq9 => c_X8_cut _ _ _ _ hq9) (fun q2 _ => ?_)
  exact j_iret (pc := 8) rfl dX9_cuts_8
set_option maxRecDepth 20000 in
set_option maxHeartbeats 1000000 in
theorem c_X9_cuts {G : q_G} {l : Launch} : ∀ (h : q_H) (a0 : Nat) (a1 : Int32) (q : q_H × Int32), f_X9_cuts h a0 a1 = some q → (∃ fs, h.1 a0 = .inr (8, fs)) ∧ q_CT G l yX9_cuts cX9_cuts 2 (some .int) 5 145 [.ref a0, .int a1] h q.1 (q_i q.2) := by
  intro h a0 a1 q e
  obtain ⟨e1, e2⟩ := q_chk_ok e
  exact ⟨e1, q_ofJ Y_X9_cuts (Nat.le_of_ble_eq_true rfl) (jb_X9_cuts_0 h a0 a1) q e2⟩
/-! FarFolders.signsOfAct(I)I -/
theorem dX9_signsOfAct_0 : decode cX9_signsOfAct 0 = .ok (.iload_n 0, 1) := by decide +kernel
theorem dX9_signsOfAct_1 : decode cX9_signsOfAct 1 = .ok (.lookupswitch 57 #[(98, 55), (99, 53), (103, 55), (109, 51), (120, 55)], 51) := by decide +kernel
theorem dX9_signsOfAct_52 : decode cX9_signsOfAct 52 = .ok (.iconst 5, 1) := by decide +kernel
theorem dX9_signsOfAct_53 : decode cX9_signsOfAct 53 = .ok (.ireturn, 1) := by decide +kernel
theorem dX9_signsOfAct_54 : decode cX9_signsOfAct 54 = .ok (.iconst 3, 1) := by decide +kernel
theorem dX9_signsOfAct_55 : decode cX9_signsOfAct 55 = .ok (.ireturn, 1) := by decide +kernel
theorem dX9_signsOfAct_56 : decode cX9_signsOfAct 56 = .ok (.iconst 2, 1) := by decide +kernel
theorem dX9_signsOfAct_57 : decode cX9_signsOfAct 57 = .ok (.ireturn, 1) := by decide +kernel
theorem dX9_signsOfAct_58 : decode cX9_signsOfAct 58 = .ok (.iconst 0, 1) := by decide +kernel
theorem dX9_signsOfAct_59 : decode cX9_signsOfAct 59 = .ok (.ireturn, 1) := by decide +kernel
def b_X9_signsOfAct_0 (h : q_H) (v0 : Int32) : Option (q_H × Int32) :=
  if v0 = (98) then some (h, (2)) else if v0 = (99) then some (h, (3)) else if v0 = (103) then some (h, (2)) else if v0 = (109) then some (h, (5)) else if v0 = (120) then some (h, (2)) else some (h, (0))
def f_X9_signsOfAct (h : q_H) (a0 : Int32) : Option (q_H × Int32) := b_X9_signsOfAct_0 h a0
set_option maxRecDepth 20000 in
set_option maxHeartbeats 1000000 in
theorem jb_X9_signsOfAct_0 {G : q_G} {l : Launch} {k0 z0 : Nat} (h : q_H) (v0 : Int32) : q_J G l (RX9, cX9_signsOfAct, 1, 0, 0, (some .int), "signsOfAct", []) k0 z0 (q_Z G k0 z0 q_i) 0 [(0, .int v0)] [] h (b_X9_signsOfAct_0 h v0) := by
  unfold b_X9_signsOfAct_0
  refine j_iload_n (pc := 0) (p := 0) rfl rfl dX9_signsOfAct_0 ?_
  refine j_ite (fun c1 => ?_) (fun c1 => ?_)
  · refine j_lsw (pc := 1) (off := 55) (tgt := 56) dX9_signsOfAct_1 (by decide) (by rw [c1]; decide) (by decide) ?_
    refine j_iconst (pc := 56) ki_2 dX9_signsOfAct_56 ?_
    exact j_iret (pc := 57) rfl dX9_signsOfAct_57
  refine j_ite (fun c2 => ?_) (fun c2 => ?_)
  · refine j_lsw (pc := 1) (off := 53) (tgt := 54) dX9_signsOfAct_1 (by decide) (by rw [c2]; decide) (by decide) ?_
    refine j_iconst (pc := 54) ki_3 dX9_signsOfAct_54 ?_
    exact j_iret (pc := 55) rfl dX9_signsOfAct_55
  refine j_ite (fun c3 => ?_) (fun c3 => ?_)
  · refine j_lsw (pc := 1) (off := 55) (tgt := 56) dX9_signsOfAct_1 (by decide) (by rw [c3]; decide) (by decide) ?_
    refine j_iconst (pc := 56) ki_2 dX9_signsOfAct_56 ?_
    exact j_iret (pc := 57) rfl dX9_signsOfAct_57
  refine j_ite (fun c4 => ?_) (fun c4 => ?_)
  · refine j_lsw (pc := 1) (off := 51) (tgt := 52) dX9_signsOfAct_1 (by decide) (by rw [c4]; decide) (by decide) ?_
    refine j_iconst (pc := 52) ki_5 dX9_signsOfAct_52 ?_
    exact j_iret (pc := 53) rfl dX9_signsOfAct_53
  refine j_ite (fun c5 => ?_) (fun c5 => ?_)
  · refine j_lsw (pc := 1) (off := 55) (tgt := 56) dX9_signsOfAct_1 (by decide) (by rw [c5]; decide) (by decide) ?_
    refine j_iconst (pc := 56) ki_2 dX9_signsOfAct_56 ?_
    exact j_iret (pc := 57) rfl dX9_signsOfAct_57
  refine j_lsw (pc := 1) (off := 57) (tgt := 58) dX9_signsOfAct_1 (by decide) (by show Op.lookupswitch.offset [(98, 55), (99, 53), (103, 55), (109, 51), (120, 55)] _ _ = _; rw [lv_osw c1 (by decide), lv_osw c2 (by decide), lv_osw c3 (by decide), lv_osw c4 (by decide), lv_osw c5 (by decide)]; rfl) (by decide) ?_
  refine j_iconst (pc := 58) ki_0 dX9_signsOfAct_58 ?_
  exact j_iret (pc := 59) rfl dX9_signsOfAct_59
set_option maxRecDepth 20000 in
set_option maxHeartbeats 1000000 in
theorem c_X9_signsOfAct {G : q_G} {l : Launch} : ∀ (h : q_H) (a0 : Int32) (q : q_H × Int32), f_X9_signsOfAct h a0 = some q → q_CT G l yX9_signsOfAct cX9_signsOfAct 1 (some .int) 0 0 [.int a0] h q.1 (q_i q.2) := by
  intro h a0 q e
  exact q_ofJ Y_X9_signsOfAct (Nat.le_of_ble_eq_true rfl) (jb_X9_signsOfAct_0 h a0) q e
/-! FarFolders.wrongSignOfDay()I -/
theorem dX9_wrongSignOfDay_0 : decode cX9_wrongSignOfDay 0 = .ok (.iconst 0, 1) := by decide +kernel
theorem dX9_wrongSignOfDay_1 : decode cX9_wrongSignOfDay 1 = .ok (.istore_n 1, 1) := by decide +kernel
theorem dX9_wrongSignOfDay_2 : decode cX9_wrongSignOfDay 2 = .ok (.iload_n 1, 1) := by decide +kernel
theorem dX9_wrongSignOfDay_3 : decode cX9_wrongSignOfDay 3 = .ok (.aload_n 0, 1) := by decide +kernel
theorem dX9_wrongSignOfDay_4 : decode cX9_wrongSignOfDay 4 = .ok (.getfield 37, 3) := by decide +kernel
theorem dX9_wrongSignOfDay_7 : decode cX9_wrongSignOfDay 7 = .ok (.getfield 66, 3) := by decide +kernel
theorem dX9_wrongSignOfDay_10 : decode cX9_wrongSignOfDay 10 = .ok (.if_icmp .ge 84, 3) := by decide +kernel
theorem dX9_wrongSignOfDay_13 : decode cX9_wrongSignOfDay 13 = .ok (.aload_n 0, 1) := by decide +kernel
theorem dX9_wrongSignOfDay_14 : decode cX9_wrongSignOfDay 14 = .ok (.getfield 37, 3) := by decide +kernel
theorem dX9_wrongSignOfDay_17 : decode cX9_wrongSignOfDay 17 = .ok (.iload_n 1, 1) := by decide +kernel
theorem dX9_wrongSignOfDay_18 : decode cX9_wrongSignOfDay 18 = .ok (.invokevirtual 186, 3) := by decide +kernel
theorem dX9_wrongSignOfDay_21 : decode cX9_wrongSignOfDay 21 = .ok (.invokestatic 188, 3) := by decide +kernel
theorem dX9_wrongSignOfDay_24 : decode cX9_wrongSignOfDay 24 = .ok (.istore_n 2, 1) := by decide +kernel
theorem dX9_wrongSignOfDay_25 : decode cX9_wrongSignOfDay 25 = .ok (.iload_n 2, 1) := by decide +kernel
theorem dX9_wrongSignOfDay_26 : decode cX9_wrongSignOfDay 26 = .ok (.ifCond .ne 5, 3) := by decide +kernel
theorem dX9_wrongSignOfDay_29 : decode cX9_wrongSignOfDay 29 = .ok (.iload_n 1, 1) := by decide +kernel
theorem dX9_wrongSignOfDay_30 : decode cX9_wrongSignOfDay 30 = .ok (.ireturn, 1) := by decide +kernel
theorem dX9_wrongSignOfDay_31 : decode cX9_wrongSignOfDay 31 = .ok (.iconst 1, 1) := by decide +kernel
theorem dX9_wrongSignOfDay_32 : decode cX9_wrongSignOfDay 32 = .ok (.istore_n 3, 1) := by decide +kernel
theorem dX9_wrongSignOfDay_33 : decode cX9_wrongSignOfDay 33 = .ok (.iload_n 3, 1) := by decide +kernel
theorem dX9_wrongSignOfDay_34 : decode cX9_wrongSignOfDay 34 = .ok (.iload_n 2, 1) := by decide +kernel
theorem dX9_wrongSignOfDay_35 : decode cX9_wrongSignOfDay 35 = .ok (.if_icmp .ge 38, 3) := by decide +kernel
theorem dX9_wrongSignOfDay_38 : decode cX9_wrongSignOfDay 38 = .ok (.aload_n 0, 1) := by decide +kernel
theorem dX9_wrongSignOfDay_39 : decode cX9_wrongSignOfDay 39 = .ok (.getfield 37, 3) := by decide +kernel
theorem dX9_wrongSignOfDay_42 : decode cX9_wrongSignOfDay 42 = .ok (.iload_n 1, 1) := by decide +kernel
theorem dX9_wrongSignOfDay_43 : decode cX9_wrongSignOfDay 43 = .ok (.invokevirtual 186, 3) := by decide +kernel
theorem dX9_wrongSignOfDay_46 : decode cX9_wrongSignOfDay 46 = .ok (.iload_n 3, 1) := by decide +kernel
theorem dX9_wrongSignOfDay_47 : decode cX9_wrongSignOfDay 47 = .ok (.aload_n 0, 1) := by decide +kernel
theorem dX9_wrongSignOfDay_48 : decode cX9_wrongSignOfDay 48 = .ok (.getfield 37, 3) := by decide +kernel
theorem dX9_wrongSignOfDay_51 : decode cX9_wrongSignOfDay 51 = .ok (.iload_n 1, 1) := by decide +kernel
theorem dX9_wrongSignOfDay_52 : decode cX9_wrongSignOfDay 52 = .ok (.iload_n 3, 1) := by decide +kernel
theorem dX9_wrongSignOfDay_53 : decode cX9_wrongSignOfDay 53 = .ok (.iadd, 1) := by decide +kernel
theorem dX9_wrongSignOfDay_54 : decode cX9_wrongSignOfDay 54 = .ok (.invokevirtual 186, 3) := by decide +kernel
theorem dX9_wrongSignOfDay_57 : decode cX9_wrongSignOfDay 57 = .ok (.invokestatic 345, 3) := by decide +kernel
theorem dX9_wrongSignOfDay_60 : decode cX9_wrongSignOfDay 60 = .ok (.ifCond .ne 7, 3) := by decide +kernel
theorem dX9_wrongSignOfDay_63 : decode cX9_wrongSignOfDay 63 = .ok (.iload_n 1, 1) := by decide +kernel
theorem dX9_wrongSignOfDay_64 : decode cX9_wrongSignOfDay 64 = .ok (.iload_n 3, 1) := by decide +kernel
theorem dX9_wrongSignOfDay_65 : decode cX9_wrongSignOfDay 65 = .ok (.iadd, 1) := by decide +kernel
theorem dX9_wrongSignOfDay_66 : decode cX9_wrongSignOfDay 66 = .ok (.ireturn, 1) := by decide +kernel
theorem dX9_wrongSignOfDay_67 : decode cX9_wrongSignOfDay 67 = .ok (.iinc 3 1, 3) := by decide +kernel
theorem dX9_wrongSignOfDay_70 : decode cX9_wrongSignOfDay 70 = .ok (.goto (-37), 3) := by decide +kernel
theorem dX9_wrongSignOfDay_73 : decode cX9_wrongSignOfDay 73 = .ok (.iload_n 1, 1) := by decide +kernel
theorem dX9_wrongSignOfDay_74 : decode cX9_wrongSignOfDay 74 = .ok (.aload_n 0, 1) := by decide +kernel
theorem dX9_wrongSignOfDay_75 : decode cX9_wrongSignOfDay 75 = .ok (.getfield 37, 3) := by decide +kernel
theorem dX9_wrongSignOfDay_78 : decode cX9_wrongSignOfDay 78 = .ok (.iload_n 1, 1) := by decide +kernel
theorem dX9_wrongSignOfDay_79 : decode cX9_wrongSignOfDay 79 = .ok (.invokevirtual 186, 3) := by decide +kernel
theorem dX9_wrongSignOfDay_82 : decode cX9_wrongSignOfDay 82 = .ok (.invokestatic 188, 3) := by decide +kernel
theorem dX9_wrongSignOfDay_85 : decode cX9_wrongSignOfDay 85 = .ok (.iconst 1, 1) := by decide +kernel
theorem dX9_wrongSignOfDay_86 : decode cX9_wrongSignOfDay 86 = .ok (.invokestatic 191, 3) := by decide +kernel
theorem dX9_wrongSignOfDay_89 : decode cX9_wrongSignOfDay 89 = .ok (.iadd, 1) := by decide +kernel
theorem dX9_wrongSignOfDay_90 : decode cX9_wrongSignOfDay 90 = .ok (.istore_n 1, 1) := by decide +kernel
theorem dX9_wrongSignOfDay_91 : decode cX9_wrongSignOfDay 91 = .ok (.goto (-89), 3) := by decide +kernel
theorem dX9_wrongSignOfDay_94 : decode cX9_wrongSignOfDay 94 = .ok (.iconst (-1), 1) := by decide +kernel
theorem dX9_wrongSignOfDay_95 : decode cX9_wrongSignOfDay 95 = .ok (.ireturn, 1) := by decide +kernel
def b_X9_wrongSignOfDay_33 (k2 : q_H → Nat → Int32 → Option (q_H × Int32)) (k33 : q_H → Nat → Int32 → Int32 → Int32 → Option (q_H × Int32)) (h : q_H) (v0 : Nat) (v1 : Int32) (v2 : Int32) (v3 : Int32) : Option (q_H × Int32) :=
  if v2 ≤ v3 then Option.bind (q_gR 8 5 h v0) (fun x1 => Option.bind (f_X6_at h x1 v1) (fun q2 => Option.bind (f_X9_signsOfAct q2.1 q2.2) (fun q3 => k2 q3.1 v0 (v1 + (q_max q3.2 (1)))))) else Option.bind (q_gR 8 5 h v0) (fun x4 => Option.bind (f_X6_at h x4 v1) (fun q5 => Option.bind (q_gR 8 5 q5.1 v0) (fun x6 => Option.bind (f_X6_at q5.1 x6 (v1 + v3)) (fun q7 => Option.bind (f_X9_canStand q7.1 q5.2 v3 q7.2) (fun q8 => if q8.2 = 0 then some (q8.1, (v1 + v3)) else k33 q8.1 v0 v1 v2 (v3 + 1))))))
def l_X9_wrongSignOfDay_33 (k2 : q_H → Nat → Int32 → Option (q_H × Int32)) : Nat → q_H → Nat → Int32 → Int32 → Int32 → Option (q_H × Int32)
  | 0, _, _, _, _, _ => none
  | n + 1, h, v0, v1, v2, v3 => b_X9_wrongSignOfDay_33 k2 (l_X9_wrongSignOfDay_33 k2 n) h v0 v1 v2 v3
def b_X9_wrongSignOfDay_2 (k2 : q_H → Nat → Int32 → Option (q_H × Int32)) (h : q_H) (v0 : Nat) (v1 : Int32) : Option (q_H × Int32) :=
  Option.bind (q_gR 8 5 h v0) (fun x9 => Option.bind (q_gI 5 1 h x9) (fun x10 => if x10 ≤ v1 then some (h, (-1)) else Option.bind (q_gR 8 5 h v0) (fun x11 => Option.bind (f_X6_at h x11 v1) (fun q12 => Option.bind (f_X9_signsOfAct q12.1 q12.2) (fun q13 => if q13.2 = 0 then some (q13.1, v1) else l_X9_wrongSignOfDay_33 k2 q_FU q13.1 v0 v1 q13.2 (1))))))
def l_X9_wrongSignOfDay_2 : Nat → q_H → Nat → Int32 → Option (q_H × Int32)
  | 0, _, _, _ => none
  | n + 1, h, v0, v1 => b_X9_wrongSignOfDay_2 (l_X9_wrongSignOfDay_2 n) h v0 v1
def b_X9_wrongSignOfDay_0 (h : q_H) (v0 : Nat) : Option (q_H × Int32) :=
  l_X9_wrongSignOfDay_2 q_FU h v0 (0)
def f_X9_wrongSignOfDay (h : q_H) (a0 : Nat) : Option (q_H × Int32) := q_chk 8 h a0 (b_X9_wrongSignOfDay_0 h a0)
set_option maxRecDepth 20000 in
set_option maxHeartbeats 1000000 in
theorem jb_X9_wrongSignOfDay_33 {G : q_G} {l : Launch} {k0 z0 : Nat} (k2 : q_H → Nat → Int32 → Option (q_H × Int32)) (k33 : q_H → Nat → Int32 → Int32 → Int32 → Option (q_H × Int32)) (hk2 : ∀ (h : q_H) (v0 : Nat) (v1 : Int32), q_J G l (RX9, cX9_wrongSignOfDay, 4, 2, 60, (some .int), "wrongSignOfDay", []) k0 z0 (q_Z G k0 z0 q_i) 2 [(0, .ref v0), (1, .int v1)] [] h (k2 h v0 v1)) (hk33 : ∀ (h : q_H) (v0 : Nat) (v1 : Int32) (v2 : Int32) (v3 : Int32), q_J G l (RX9, cX9_wrongSignOfDay, 4, 2, 60, (some .int), "wrongSignOfDay", []) k0 z0 (q_Z G k0 z0 q_i) 33 [(0, .ref v0), (1, .int v1), (2, .int v2), (3, .int v3)] [] h (k33 h v0 v1 v2 v3)) (h : q_H) (v0 : Nat) (v1 : Int32) (v2 : Int32) (v3 : Int32) : q_J G l (RX9, cX9_wrongSignOfDay, 4, 2, 60, (some .int), "wrongSignOfDay", []) k0 z0 (q_Z G k0 z0 q_i) 33 [(0, .ref v0), (1, .int v1), (2, .int v2), (3, .int v3)] [] h (b_X9_wrongSignOfDay_33 k2 k33 h v0 v1 v2 v3) := by
  unfold b_X9_wrongSignOfDay_33
  refine j_iload_n (pc := 33) (p := 3) rfl rfl dX9_wrongSignOfDay_33 ?_
  refine j_iload_n (pc := 34) (p := 2) rfl rfl dX9_wrongSignOfDay_34 ?_
  refine j_ic_ge (pc := 35) (tgt := 73) dX9_wrongSignOfDay_35 (by decide) (fun _ => ?_) (fun _ => ?_)
  · refine j_iload_n (pc := 73) (p := 1) rfl rfl dX9_wrongSignOfDay_73 ?_
    refine j_aload_n (pc := 74) (p := 0) rfl rfl dX9_wrongSignOfDay_74 ?_
    refine j_getR (pc := 75) FI_X9 (k := 5) (by decide) fl_X9_37 dX9_wrongSignOfDay_75 (fun x1 _ => ?_)
    refine j_iload_n (pc := 78) (p := 1) rfl rfl dX9_wrongSignOfDay_78 ?_
    refine j_cVi (pc := 79) Y_X6_at (ci := 5) (b := x1) rfl rfl ml_X9_186 im_X6_at se_X6_at ⟨Nat.le_of_ble_eq_true rfl, Nat.le_of_ble_eq_true rfl⟩ dX9_wrongSignOfDay_79 (As := [.int v1]) (rest := [.int v1]) rfl rfl (Nat.le_of_ble_eq_true rfl) (fun x hq9 => c_X6_at _ _ _ _ hq9) (fun q2 _ => ?_)
    refine j_cSi (pc := 82) Y_X9_signsOfAct ml_X9_188 sm_X9_signsOfAct ⟨Nat.le_of_ble_eq_true rfl, Nat.le_of_ble_eq_true rfl⟩ dX9_wrongSignOfDay_82 (As := [.int q2.2]) (rest := [.int v1]) rfl rfl (Nat.le_of_ble_eq_true rfl) (fun x hq9 => c_X9_signsOfAct _ _ _ hq9) (fun q3 _ => ?_)
    refine j_iconst (pc := 85) ki_1 dX9_wrongSignOfDay_85 ?_
    refine j_max (pc := 86) ml_X9_191 sm_max ini_Math co_max ⟨Nat.le_of_ble_eq_true rfl, Nat.le_of_ble_eq_true rfl⟩ dX9_wrongSignOfDay_86 ?_
    refine j_iadd (pc := 89) dX9_wrongSignOfDay_89 ?_
    refine j_istore_n (pc := 90) (lv' := [(1, .int (v1 + (q_max q3.2 (1)))), (0, .ref v0), (2, .int v2), (3, .int v3)]) rfl (by decide) rfl dX9_wrongSignOfDay_90 ?_
    refine j_goto (pc := 91) (tgt := 2) dX9_wrongSignOfDay_91 (by decide) ?_
    refine j_sub [1, 0] (lv' := [(0, .ref v0), (1, .int (v1 + (q_max q3.2 (1))))]) rfl ?_
    exact hk2 _ _ _
  refine j_aload_n (pc := 38) (p := 0) rfl rfl dX9_wrongSignOfDay_38 ?_
  refine j_getR (pc := 39) FI_X9 (k := 5) (by decide) fl_X9_37 dX9_wrongSignOfDay_39 (fun x4 _ => ?_)
  refine j_iload_n (pc := 42) (p := 1) rfl rfl dX9_wrongSignOfDay_42 ?_
  refine j_cVi (pc := 43) Y_X6_at (ci := 5) (b := x4) rfl rfl ml_X9_186 im_X6_at se_X6_at ⟨Nat.le_of_ble_eq_true rfl, Nat.le_of_ble_eq_true rfl⟩ dX9_wrongSignOfDay_43 (As := [.int v1]) (rest := []) rfl rfl (Nat.le_of_ble_eq_true rfl) (fun x hq9 => c_X6_at _ _ _ _ hq9) (fun q5 _ => ?_)
  refine j_iload_n (pc := 46) (p := 3) rfl rfl dX9_wrongSignOfDay_46 ?_
  refine j_aload_n (pc := 47) (p := 0) rfl rfl dX9_wrongSignOfDay_47 ?_
  refine j_getR (pc := 48) FI_X9 (k := 5) (by decide) fl_X9_37 dX9_wrongSignOfDay_48 (fun x6 _ => ?_)
  refine j_iload_n (pc := 51) (p := 1) rfl rfl dX9_wrongSignOfDay_51 ?_
  refine j_iload_n (pc := 52) (p := 3) rfl rfl dX9_wrongSignOfDay_52 ?_
  refine j_iadd (pc := 53) dX9_wrongSignOfDay_53 ?_
  refine j_cVi (pc := 54) Y_X6_at (ci := 5) (b := x6) rfl rfl ml_X9_186 im_X6_at se_X6_at ⟨Nat.le_of_ble_eq_true rfl, Nat.le_of_ble_eq_true rfl⟩ dX9_wrongSignOfDay_54 (As := [.int (v1 + v3)]) (rest := [.int v3, .int q5.2]) rfl rfl (Nat.le_of_ble_eq_true rfl) (fun x hq9 => c_X6_at _ _ _ _ hq9) (fun q7 _ => ?_)
  refine j_cSi (pc := 57) Y_X9_canStand ml_X9_345 sm_X9_canStand ⟨Nat.le_of_ble_eq_true rfl, Nat.le_of_ble_eq_true rfl⟩ dX9_wrongSignOfDay_57 (As := [.int q5.2, .int v3, .int q7.2]) (rest := []) rfl rfl (Nat.le_of_ble_eq_true rfl) (fun x hq9 => c_X9_canStand _ _ _ _ _ hq9) (fun q8 _ => ?_)
  refine j_if_ne (pc := 60) (tgt := 67) dX9_wrongSignOfDay_60 (by decide) (fun _ => ?_) (fun _ => ?_)
  · refine j_iload_n (pc := 63) (p := 1) rfl rfl dX9_wrongSignOfDay_63 ?_
    refine j_iload_n (pc := 64) (p := 3) rfl rfl dX9_wrongSignOfDay_64 ?_
    refine j_iadd (pc := 65) dX9_wrongSignOfDay_65 ?_
    exact j_iret (pc := 66) rfl dX9_wrongSignOfDay_66
  refine j_inc (pc := 67) (p := 3) (lv' := [(3, .int (v3 + 1)), (0, .ref v0), (1, .int v1), (2, .int v2)]) rfl ki_1 (by decide) rfl dX9_wrongSignOfDay_67 ?_
  refine j_goto (pc := 70) (tgt := 33) dX9_wrongSignOfDay_70 (by decide) ?_
  refine j_sub [1, 2, 3, 0] (lv' := [(0, .ref v0), (1, .int v1), (2, .int v2), (3, .int (v3 + 1))]) rfl ?_
  exact hk33 _ _ _ _ _
set_option maxRecDepth 20000 in
set_option maxHeartbeats 1000000 in
theorem jl_X9_wrongSignOfDay_33 {G : q_G} {l : Launch} {k0 z0 : Nat} (k2 : q_H → Nat → Int32 → Option (q_H × Int32)) (hk2 : ∀ (h : q_H) (v0 : Nat) (v1 : Int32), q_J G l (RX9, cX9_wrongSignOfDay, 4, 2, 60, (some .int), "wrongSignOfDay", []) k0 z0 (q_Z G k0 z0 q_i) 2 [(0, .ref v0), (1, .int v1)] [] h (k2 h v0 v1)) (n : Nat) : ∀ (h : q_H) (v0 : Nat) (v1 : Int32) (v2 : Int32) (v3 : Int32), q_J G l (RX9, cX9_wrongSignOfDay, 4, 2, 60, (some .int), "wrongSignOfDay", []) k0 z0 (q_Z G k0 z0 q_i) 33 [(0, .ref v0), (1, .int v1), (2, .int v2), (3, .int v3)] [] h (l_X9_wrongSignOfDay_33 k2 n h v0 v1 v2 v3) := by
  induction n with
  | zero => intro h v0 v1 v2 v3; exact j_none
  | succ n ih => intro h v0 v1 v2 v3; exact jb_X9_wrongSignOfDay_33 k2 (l_X9_wrongSignOfDay_33 k2 n) hk2 ih h v0 v1 v2 v3
set_option maxRecDepth 20000 in
set_option maxHeartbeats 1000000 in
theorem jb_X9_wrongSignOfDay_2 {G : q_G} {l : Launch} {k0 z0 : Nat} (k2 : q_H → Nat → Int32 → Option (q_H × Int32)) (hk2 : ∀ (h : q_H) (v0 : Nat) (v1 : Int32), q_J G l (RX9, cX9_wrongSignOfDay, 4, 2, 60, (some .int), "wrongSignOfDay", []) k0 z0 (q_Z G k0 z0 q_i) 2 [(0, .ref v0), (1, .int v1)] [] h (k2 h v0 v1)) (h : q_H) (v0 : Nat) (v1 : Int32) : q_J G l (RX9, cX9_wrongSignOfDay, 4, 2, 60, (some .int), "wrongSignOfDay", []) k0 z0 (q_Z G k0 z0 q_i) 2 [(0, .ref v0), (1, .int v1)] [] h (b_X9_wrongSignOfDay_2 k2 h v0 v1) := by
  unfold b_X9_wrongSignOfDay_2
  refine j_iload_n (pc := 2) (p := 1) rfl rfl dX9_wrongSignOfDay_2 ?_
  refine j_aload_n (pc := 3) (p := 0) rfl rfl dX9_wrongSignOfDay_3 ?_
  refine j_getR (pc := 4) FI_X9 (k := 5) (by decide) fl_X9_37 dX9_wrongSignOfDay_4 (fun x9 _ => ?_)
  refine j_getI (pc := 7) FI_X6 (k := 1) (by decide) fl_X9_66 dX9_wrongSignOfDay_7 (fun x10 _ => ?_)
  refine j_ic_ge (pc := 10) (tgt := 94) dX9_wrongSignOfDay_10 (by decide) (fun _ => ?_) (fun _ => ?_)
  · refine j_iconst (pc := 94) ki_m1 dX9_wrongSignOfDay_94 ?_
    exact j_iret (pc := 95) rfl dX9_wrongSignOfDay_95
  refine j_aload_n (pc := 13) (p := 0) rfl rfl dX9_wrongSignOfDay_13 ?_
  refine j_getR (pc := 14) FI_X9 (k := 5) (by decide) fl_X9_37 dX9_wrongSignOfDay_14 (fun x11 _ => ?_)
  refine j_iload_n (pc := 17) (p := 1) rfl rfl dX9_wrongSignOfDay_17 ?_
  refine j_cVi (pc := 18) Y_X6_at (ci := 5) (b := x11) rfl rfl ml_X9_186 im_X6_at se_X6_at ⟨Nat.le_of_ble_eq_true rfl, Nat.le_of_ble_eq_true rfl⟩ dX9_wrongSignOfDay_18 (As := [.int v1]) (rest := []) rfl rfl (Nat.le_of_ble_eq_true rfl) (fun x hq9 => c_X6_at _ _ _ _ hq9) (fun q12 _ => ?_)
  refine j_cSi (pc := 21) Y_X9_signsOfAct ml_X9_188 sm_X9_signsOfAct ⟨Nat.le_of_ble_eq_true rfl, Nat.le_of_ble_eq_true rfl⟩ dX9_wrongSignOfDay_21 (As := [.int q12.2]) (rest := []) rfl rfl (Nat.le_of_ble_eq_true rfl) (fun x hq9 => c_X9_signsOfAct _ _ _ hq9) (fun q13 _ => ?_)
  refine j_istore_n (pc := 24) (lv' := [(2, .int q13.2), (0, .ref v0), (1, .int v1)]) rfl (by decide) rfl dX9_wrongSignOfDay_24 ?_
  refine j_iload_n (pc := 25) (p := 0) rfl rfl dX9_wrongSignOfDay_25 ?_
  refine j_if_ne (pc := 26) (tgt := 31) dX9_wrongSignOfDay_26 (by decide) (fun _ => ?_) (fun _ => ?_)
  · refine j_iload_n (pc := 29) (p := 2) rfl rfl dX9_wrongSignOfDay_29 ?_
    exact j_iret (pc := 30) rfl dX9_wrongSignOfDay_30
  refine j_iconst (pc := 31) ki_1 dX9_wrongSignOfDay_31 ?_
  refine j_istore_n (pc := 32) (lv' := [(3, .int (1)), (2, .int q13.2), (0, .ref v0), (1, .int v1)]) rfl (by decide) rfl dX9_wrongSignOfDay_32 ?_
  refine j_sub [2, 3, 1, 0] (lv' := [(0, .ref v0), (1, .int v1), (2, .int q13.2), (3, .int (1))]) rfl ?_
  exact jl_X9_wrongSignOfDay_33 k2 hk2 q_FU _ _ _ _ _
set_option maxRecDepth 20000 in
set_option maxHeartbeats 1000000 in
theorem jl_X9_wrongSignOfDay_2 {G : q_G} {l : Launch} {k0 z0 : Nat} (n : Nat) : ∀ (h : q_H) (v0 : Nat) (v1 : Int32), q_J G l (RX9, cX9_wrongSignOfDay, 4, 2, 60, (some .int), "wrongSignOfDay", []) k0 z0 (q_Z G k0 z0 q_i) 2 [(0, .ref v0), (1, .int v1)] [] h (l_X9_wrongSignOfDay_2 n h v0 v1) := by
  induction n with
  | zero => intro h v0 v1; exact j_none
  | succ n ih => intro h v0 v1; exact jb_X9_wrongSignOfDay_2 (l_X9_wrongSignOfDay_2 n) ih h v0 v1
set_option maxRecDepth 20000 in
set_option maxHeartbeats 1000000 in
theorem jb_X9_wrongSignOfDay_0 {G : q_G} {l : Launch} {k0 z0 : Nat} (h : q_H) (v0 : Nat) : q_J G l (RX9, cX9_wrongSignOfDay, 4, 2, 60, (some .int), "wrongSignOfDay", []) k0 z0 (q_Z G k0 z0 q_i) 0 [(0, .ref v0)] [] h (b_X9_wrongSignOfDay_0 h v0) := by
  unfold b_X9_wrongSignOfDay_0
  refine j_iconst (pc := 0) ki_0 dX9_wrongSignOfDay_0 ?_
  refine j_istore_n (pc := 1) (lv' := [(1, .int (0)), (0, .ref v0)]) rfl (by decide) rfl dX9_wrongSignOfDay_1 ?_
  refine j_sub [1, 0] (lv' := [(0, .ref v0), (1, .int (0))]) rfl ?_
  exact jl_X9_wrongSignOfDay_2 q_FU _ _ _
set_option maxRecDepth 20000 in
set_option maxHeartbeats 1000000 in
theorem c_X9_wrongSignOfDay {G : q_G} {l : Launch} : ∀ (h : q_H) (a0 : Nat) (q : q_H × Int32), f_X9_wrongSignOfDay h a0 = some q → (∃ fs, h.1 a0 = .inr (8, fs)) ∧ q_CT G l yX9_wrongSignOfDay cX9_wrongSignOfDay 4 (some .int) 2 60 [.ref a0] h q.1 (q_i q.2) := by
  intro h a0 q e
  obtain ⟨e1, e2⟩ := q_chk_ok e
  exact ⟨e1, q_ofJ Y_X9_wrongSignOfDay (Nat.le_of_ble_eq_true rfl) (jb_X9_wrongSignOfDay_0 h a0) q e2⟩
/-! FarFolders.doAct(I)I -/
theorem dX9_doAct_0 : decode cX9_doAct 0 = .ok (.aload_n 0, 1) := by decide +kernel
theorem dX9_doAct_1 : decode cX9_doAct 1 = .ok (.getfield 37, 3) := by decide +kernel
theorem dX9_doAct_4 : decode cX9_doAct 4 = .ok (.iload_n 1, 1) := by decide +kernel
theorem dX9_doAct_5 : decode cX9_doAct 5 = .ok (.iconst 1, 1) := by decide +kernel
theorem dX9_doAct_6 : decode cX9_doAct 6 = .ok (.iadd, 1) := by decide +kernel
theorem dX9_doAct_7 : decode cX9_doAct 7 = .ok (.invokevirtual 186, 3) := by decide +kernel
theorem dX9_doAct_10 : decode cX9_doAct 10 = .ok (.bipush 48, 2) := by decide +kernel
theorem dX9_doAct_12 : decode cX9_doAct 12 = .ok (.isub, 1) := by decide +kernel
theorem dX9_doAct_13 : decode cX9_doAct 13 = .ok (.istore_n 2, 1) := by decide +kernel
theorem dX9_doAct_14 : decode cX9_doAct 14 = .ok (.aload_n 0, 1) := by decide +kernel
theorem dX9_doAct_15 : decode cX9_doAct 15 = .ok (.getfield 37, 3) := by decide +kernel
theorem dX9_doAct_18 : decode cX9_doAct 18 = .ok (.iload_n 1, 1) := by decide +kernel
theorem dX9_doAct_19 : decode cX9_doAct 19 = .ok (.invokevirtual 186, 3) := by decide +kernel
theorem dX9_doAct_22 : decode cX9_doAct 22 = .ok (.lookupswitch 147 #[(98, 98), (99, 107), (103, 129), (109, 50), (120, 138)], 50) := by decide +kernel
theorem dX9_doAct_72 : decode cX9_doAct 72 = .ok (.aload_n 0, 1) := by decide +kernel
theorem dX9_doAct_73 : decode cX9_doAct 73 = .ok (.getfield 12, 3) := by decide +kernel
theorem dX9_doAct_76 : decode cX9_doAct 76 = .ok (.iload_n 2, 1) := by decide +kernel
theorem dX9_doAct_77 : decode cX9_doAct 77 = .ok (.aload_n 0, 1) := by decide +kernel
theorem dX9_doAct_78 : decode cX9_doAct 78 = .ok (.getfield 37, 3) := by decide +kernel
theorem dX9_doAct_81 : decode cX9_doAct 81 = .ok (.iload_n 1, 1) := by decide +kernel
theorem dX9_doAct_82 : decode cX9_doAct 82 = .ok (.iconst 2, 1) := by decide +kernel
theorem dX9_doAct_83 : decode cX9_doAct 83 = .ok (.iadd, 1) := by decide +kernel
theorem dX9_doAct_84 : decode cX9_doAct 84 = .ok (.invokevirtual 186, 3) := by decide +kernel
theorem dX9_doAct_87 : decode cX9_doAct 87 = .ok (.invokestatic 349, 3) := by decide +kernel
theorem dX9_doAct_90 : decode cX9_doAct 90 = .ok (.aload_n 0, 1) := by decide +kernel
theorem dX9_doAct_91 : decode cX9_doAct 91 = .ok (.getfield 37, 3) := by decide +kernel
theorem dX9_doAct_94 : decode cX9_doAct 94 = .ok (.iload_n 1, 1) := by decide +kernel
theorem dX9_doAct_95 : decode cX9_doAct 95 = .ok (.iconst 3, 1) := by decide +kernel
theorem dX9_doAct_96 : decode cX9_doAct 96 = .ok (.iadd, 1) := by decide +kernel
theorem dX9_doAct_97 : decode cX9_doAct 97 = .ok (.invokevirtual 186, 3) := by decide +kernel
theorem dX9_doAct_100 : decode cX9_doAct 100 = .ok (.invokestatic 349, 3) := by decide +kernel
theorem dX9_doAct_103 : decode cX9_doAct 103 = .ok (.aload_n 0, 1) := by decide +kernel
theorem dX9_doAct_104 : decode cX9_doAct 104 = .ok (.getfield 37, 3) := by decide +kernel
theorem dX9_doAct_107 : decode cX9_doAct 107 = .ok (.iload_n 1, 1) := by decide +kernel
theorem dX9_doAct_108 : decode cX9_doAct 108 = .ok (.iconst 4, 1) := by decide +kernel
theorem dX9_doAct_109 : decode cX9_doAct 109 = .ok (.iadd, 1) := by decide +kernel
theorem dX9_doAct_110 : decode cX9_doAct 110 = .ok (.invokevirtual 186, 3) := by decide +kernel
theorem dX9_doAct_113 : decode cX9_doAct 113 = .ok (.bipush 48, 2) := by decide +kernel
theorem dX9_doAct_115 : decode cX9_doAct 115 = .ok (.isub, 1) := by decide +kernel
theorem dX9_doAct_116 : decode cX9_doAct 116 = .ok (.invokevirtual 136, 3) := by decide +kernel
theorem dX9_doAct_119 : decode cX9_doAct 119 = .ok (.ireturn, 1) := by decide +kernel
theorem dX9_doAct_120 : decode cX9_doAct 120 = .ok (.aload_n 0, 1) := by decide +kernel
theorem dX9_doAct_121 : decode cX9_doAct 121 = .ok (.getfield 12, 3) := by decide +kernel
theorem dX9_doAct_124 : decode cX9_doAct 124 = .ok (.iload_n 2, 1) := by decide +kernel
theorem dX9_doAct_125 : decode cX9_doAct 125 = .ok (.invokevirtual 145, 3) := by decide +kernel
theorem dX9_doAct_128 : decode cX9_doAct 128 = .ok (.ireturn, 1) := by decide +kernel
theorem dX9_doAct_129 : decode cX9_doAct 129 = .ok (.aload_n 0, 1) := by decide +kernel
theorem dX9_doAct_130 : decode cX9_doAct 130 = .ok (.getfield 12, 3) := by decide +kernel
theorem dX9_doAct_133 : decode cX9_doAct 133 = .ok (.iload_n 2, 1) := by decide +kernel
theorem dX9_doAct_134 : decode cX9_doAct 134 = .ok (.aload_n 0, 1) := by decide +kernel
theorem dX9_doAct_135 : decode cX9_doAct 135 = .ok (.getfield 37, 3) := by decide +kernel
theorem dX9_doAct_138 : decode cX9_doAct 138 = .ok (.iload_n 1, 1) := by decide +kernel
theorem dX9_doAct_139 : decode cX9_doAct 139 = .ok (.iconst 2, 1) := by decide +kernel
theorem dX9_doAct_140 : decode cX9_doAct 140 = .ok (.iadd, 1) := by decide +kernel
theorem dX9_doAct_141 : decode cX9_doAct 141 = .ok (.invokevirtual 186, 3) := by decide +kernel
theorem dX9_doAct_144 : decode cX9_doAct 144 = .ok (.bipush 48, 2) := by decide +kernel
theorem dX9_doAct_146 : decode cX9_doAct 146 = .ok (.isub, 1) := by decide +kernel
theorem dX9_doAct_147 : decode cX9_doAct 147 = .ok (.invokevirtual 156, 3) := by decide +kernel
theorem dX9_doAct_150 : decode cX9_doAct 150 = .ok (.ireturn, 1) := by decide +kernel
theorem dX9_doAct_151 : decode cX9_doAct 151 = .ok (.aload_n 0, 1) := by decide +kernel
theorem dX9_doAct_152 : decode cX9_doAct 152 = .ok (.getfield 12, 3) := by decide +kernel
theorem dX9_doAct_155 : decode cX9_doAct 155 = .ok (.iload_n 2, 1) := by decide +kernel
theorem dX9_doAct_156 : decode cX9_doAct 156 = .ok (.invokevirtual 167, 3) := by decide +kernel
theorem dX9_doAct_159 : decode cX9_doAct 159 = .ok (.ireturn, 1) := by decide +kernel
theorem dX9_doAct_160 : decode cX9_doAct 160 = .ok (.aload_n 0, 1) := by decide +kernel
theorem dX9_doAct_161 : decode cX9_doAct 161 = .ok (.getfield 12, 3) := by decide +kernel
theorem dX9_doAct_164 : decode cX9_doAct 164 = .ok (.iload_n 2, 1) := by decide +kernel
theorem dX9_doAct_165 : decode cX9_doAct 165 = .ok (.invokevirtual 173, 3) := by decide +kernel
theorem dX9_doAct_168 : decode cX9_doAct 168 = .ok (.ireturn, 1) := by decide +kernel
theorem dX9_doAct_169 : decode cX9_doAct 169 = .ok (.iconst (-1), 1) := by decide +kernel
theorem dX9_doAct_170 : decode cX9_doAct 170 = .ok (.ireturn, 1) := by decide +kernel
def b_X9_doAct_0 (h : q_H) (v0 : Nat) (v1 : Int32) : Option (q_H × Int32) :=
  Option.bind (q_gR 8 5 h v0) (fun x1 => Option.bind (f_X6_at h x1 (v1 + (1))) (fun q2 => Option.bind (q_gR 8 5 q2.1 v0) (fun x3 => Option.bind (f_X6_at q2.1 x3 v1) (fun q4 => if q4.2 = (98) then Option.bind (q_gR 8 0 q4.1 v0) (fun x6 => Option.bind (f_X8_beat q4.1 x6 (q2.2 - (48))) (fun q7 => some (q7.1, q7.2))) else if q4.2 = (99) then Option.bind (q_gR 8 0 q4.1 v0) (fun x9 => Option.bind (q_gR 8 5 q4.1 v0) (fun x10 => Option.bind (f_X6_at q4.1 x10 (v1 + (2))) (fun q11 => Option.bind (f_X8_deliver q11.1 x9 (q2.2 - (48)) (q11.2 - (48))) (fun q12 => some (q12.1, q12.2))))) else if q4.2 = (103) then Option.bind (q_gR 8 0 q4.1 v0) (fun x14 => Option.bind (f_X8_gather q4.1 x14 (q2.2 - (48))) (fun q15 => some (q15.1, q15.2))) else if q4.2 = (109) then Option.bind (q_gR 8 0 q4.1 v0) (fun x17 => Option.bind (q_gR 8 5 q4.1 v0) (fun x18 => Option.bind (f_X6_at q4.1 x18 (v1 + (2))) (fun q19 => Option.bind (f_X9_nodeOfSign q19.1 q19.2) (fun q20 => Option.bind (q_gR 8 5 q20.1 v0) (fun x21 => Option.bind (f_X6_at q20.1 x21 (v1 + (3))) (fun q22 => Option.bind (f_X9_nodeOfSign q22.1 q22.2) (fun q23 => Option.bind (q_gR 8 5 q23.1 v0) (fun x24 => Option.bind (f_X6_at q23.1 x24 (v1 + (4))) (fun q25 => Option.bind (f_X8_make q25.1 x17 (q2.2 - (48)) q20.2 q23.2 (q25.2 - (48))) (fun q26 => some (q26.1, q26.2))))))))))) else if q4.2 = (120) then Option.bind (q_gR 8 0 q4.1 v0) (fun x28 => Option.bind (f_X8_cut q4.1 x28 (q2.2 - (48))) (fun q29 => some (q29.1, q29.2))) else some (q4.1, (-1))))))
def f_X9_doAct (h : q_H) (a0 : Nat) (a1 : Int32) : Option (q_H × Int32) := q_chk 8 h a0 (b_X9_doAct_0 h a0 a1)
set_option maxRecDepth 20000 in
set_option maxHeartbeats 1000000 in
theorem jb_X9_doAct_0 {G : q_G} {l : Launch} {k0 z0 : Nat} (h : q_H) (v0 : Nat) (v1 : Int32) : q_J G l (RX9, cX9_doAct, 3, 5, 156, (some .int), "doAct", []) k0 z0 (q_Z G k0 z0 q_i) 0 [(0, .ref v0), (1, .int v1)] [] h (b_X9_doAct_0 h v0 v1) := by
  unfold b_X9_doAct_0
  refine j_aload_n (pc := 0) (p := 0) rfl rfl dX9_doAct_0 ?_
  refine j_getR (pc := 1) FI_X9 (k := 5) (by decide) fl_X9_37 dX9_doAct_1 (fun x1 _ => ?_)
  refine j_iload_n (pc := 4) (p := 1) rfl rfl dX9_doAct_4 ?_
  refine j_iconst (pc := 5) ki_1 dX9_doAct_5 ?_
  refine j_iadd (pc := 6) dX9_doAct_6 ?_
  refine j_cVi (pc := 7) Y_X6_at (ci := 5) (b := x1) rfl rfl ml_X9_186 im_X6_at se_X6_at ⟨Nat.le_of_ble_eq_true rfl, Nat.le_of_ble_eq_true rfl⟩ dX9_doAct_7 (As := [.int (v1 + (1))]) (rest := []) rfl rfl (Nat.le_of_ble_eq_true rfl) (fun x hq9 => c_X6_at _ _ _ _ hq9) (fun q2 _ => ?_)
  refine j_bipush (pc := 10) kb_48 dX9_doAct_10 ?_
  refine j_isub (pc := 12) dX9_doAct_12 ?_
  refine j_istore_n (pc := 13) (lv' := [(2, .int (q2.2 - (48))), (0, .ref v0), (1, .int v1)]) rfl (by decide) rfl dX9_doAct_13 ?_
  refine j_aload_n (pc := 14) (p := 1) rfl rfl dX9_doAct_14 ?_
  refine j_getR (pc := 15) FI_X9 (k := 5) (by decide) fl_X9_37 dX9_doAct_15 (fun x3 _ => ?_)
  refine j_iload_n (pc := 18) (p := 2) rfl rfl dX9_doAct_18 ?_
  refine j_cVi (pc := 19) Y_X6_at (ci := 5) (b := x3) rfl rfl ml_X9_186 im_X6_at se_X6_at ⟨Nat.le_of_ble_eq_true rfl, Nat.le_of_ble_eq_true rfl⟩ dX9_doAct_19 (As := [.int v1]) (rest := []) rfl rfl (Nat.le_of_ble_eq_true rfl) (fun x hq9 => c_X6_at _ _ _ _ hq9) (fun q4 _ => ?_)
  refine j_ite (fun c5 => ?_) (fun c5 => ?_)
  · refine j_lsw (pc := 22) (off := 98) (tgt := 120) dX9_doAct_22 (by decide) (by rw [c5]; decide) (by decide) ?_
    refine j_aload_n (pc := 120) (p := 1) rfl rfl dX9_doAct_120 ?_
    refine j_getR (pc := 121) FI_X9 (k := 0) (by decide) fl_X9_12 dX9_doAct_121 (fun x6 _ => ?_)
    refine j_iload_n (pc := 124) (p := 0) rfl rfl dX9_doAct_124 ?_
    refine j_cVi (pc := 125) Y_X8_beat (ci := 7) (b := x6) rfl rfl ml_X9_145 im_X8_beat se_X8_beat ⟨Nat.le_of_ble_eq_true rfl, Nat.le_of_ble_eq_true rfl⟩ dX9_doAct_125 (As := [.int (q2.2 - (48))]) (rest := []) rfl rfl (Nat.le_of_ble_eq_true rfl) (fun x hq9 => c_X8_beat _ _ _ _ hq9) (fun q7 _ => ?_)
    exact j_iret (pc := 128) rfl dX9_doAct_128
  refine j_ite (fun c8 => ?_) (fun c8 => ?_)
  · refine j_lsw (pc := 22) (off := 107) (tgt := 129) dX9_doAct_22 (by decide) (by rw [c8]; decide) (by decide) ?_
    refine j_aload_n (pc := 129) (p := 1) rfl rfl dX9_doAct_129 ?_
    refine j_getR (pc := 130) FI_X9 (k := 0) (by decide) fl_X9_12 dX9_doAct_130 (fun x9 _ => ?_)
    refine j_iload_n (pc := 133) (p := 0) rfl rfl dX9_doAct_133 ?_
    refine j_aload_n (pc := 134) (p := 1) rfl rfl dX9_doAct_134 ?_
    refine j_getR (pc := 135) FI_X9 (k := 5) (by decide) fl_X9_37 dX9_doAct_135 (fun x10 _ => ?_)
    refine j_iload_n (pc := 138) (p := 2) rfl rfl dX9_doAct_138 ?_
    refine j_iconst (pc := 139) ki_2 dX9_doAct_139 ?_
    refine j_iadd (pc := 140) dX9_doAct_140 ?_
    refine j_cVi (pc := 141) Y_X6_at (ci := 5) (b := x10) rfl rfl ml_X9_186 im_X6_at se_X6_at ⟨Nat.le_of_ble_eq_true rfl, Nat.le_of_ble_eq_true rfl⟩ dX9_doAct_141 (As := [.int (v1 + (2))]) (rest := [.int (q2.2 - (48)), .ref x9]) rfl rfl (Nat.le_of_ble_eq_true rfl) (fun x hq9 => c_X6_at _ _ _ _ hq9) (fun q11 _ => ?_)
    refine j_bipush (pc := 144) kb_48 dX9_doAct_144 ?_
    refine j_isub (pc := 146) dX9_doAct_146 ?_
    refine j_cVi (pc := 147) Y_X8_deliver (ci := 7) (b := x9) rfl rfl ml_X9_156 im_X8_deliver se_X8_deliver ⟨Nat.le_of_ble_eq_true rfl, Nat.le_of_ble_eq_true rfl⟩ dX9_doAct_147 (As := [.int (q2.2 - (48)), .int (q11.2 - (48))]) (rest := []) rfl rfl (Nat.le_of_ble_eq_true rfl) (fun x hq9 => c_X8_deliver _ _ _ _ _ hq9) (fun q12 _ => ?_)
    exact j_iret (pc := 150) rfl dX9_doAct_150
  refine j_ite (fun c13 => ?_) (fun c13 => ?_)
  · refine j_lsw (pc := 22) (off := 129) (tgt := 151) dX9_doAct_22 (by decide) (by rw [c13]; decide) (by decide) ?_
    refine j_aload_n (pc := 151) (p := 1) rfl rfl dX9_doAct_151 ?_
    refine j_getR (pc := 152) FI_X9 (k := 0) (by decide) fl_X9_12 dX9_doAct_152 (fun x14 _ => ?_)
    refine j_iload_n (pc := 155) (p := 0) rfl rfl dX9_doAct_155 ?_
    refine j_cVi (pc := 156) Y_X8_gather (ci := 7) (b := x14) rfl rfl ml_X9_167 im_X8_gather se_X8_gather ⟨Nat.le_of_ble_eq_true rfl, Nat.le_of_ble_eq_true rfl⟩ dX9_doAct_156 (As := [.int (q2.2 - (48))]) (rest := []) rfl rfl (Nat.le_of_ble_eq_true rfl) (fun x hq9 => c_X8_gather _ _ _ _ hq9) (fun q15 _ => ?_)
    exact j_iret (pc := 159) rfl dX9_doAct_159
  refine j_ite (fun c16 => ?_) (fun c16 => ?_)
  · refine j_lsw (pc := 22) (off := 50) (tgt := 72) dX9_doAct_22 (by decide) (by rw [c16]; decide) (by decide) ?_
    refine j_aload_n (pc := 72) (p := 1) rfl rfl dX9_doAct_72 ?_
    refine j_getR (pc := 73) FI_X9 (k := 0) (by decide) fl_X9_12 dX9_doAct_73 (fun x17 _ => ?_)
    refine j_iload_n (pc := 76) (p := 0) rfl rfl dX9_doAct_76 ?_
    refine j_aload_n (pc := 77) (p := 1) rfl rfl dX9_doAct_77 ?_
    refine j_getR (pc := 78) FI_X9 (k := 5) (by decide) fl_X9_37 dX9_doAct_78 (fun x18 _ => ?_)
    refine j_iload_n (pc := 81) (p := 2) rfl rfl dX9_doAct_81 ?_
    refine j_iconst (pc := 82) ki_2 dX9_doAct_82 ?_
    refine j_iadd (pc := 83) dX9_doAct_83 ?_
    refine j_cVi (pc := 84) Y_X6_at (ci := 5) (b := x18) rfl rfl ml_X9_186 im_X6_at se_X6_at ⟨Nat.le_of_ble_eq_true rfl, Nat.le_of_ble_eq_true rfl⟩ dX9_doAct_84 (As := [.int (v1 + (2))]) (rest := [.int (q2.2 - (48)), .ref x17]) rfl rfl (Nat.le_of_ble_eq_true rfl) (fun x hq9 => c_X6_at _ _ _ _ hq9) (fun q19 _ => ?_)
    refine j_cSi (pc := 87) Y_X9_nodeOfSign ml_X9_349 sm_X9_nodeOfSign ⟨Nat.le_of_ble_eq_true rfl, Nat.le_of_ble_eq_true rfl⟩ dX9_doAct_87 (As := [.int q19.2]) (rest := [.int (q2.2 - (48)), .ref x17]) rfl rfl (Nat.le_of_ble_eq_true rfl) (fun x hq9 => c_X9_nodeOfSign _ _ _ hq9) (fun q20 _ => ?_)
    refine j_aload_n (pc := 90) (p := 1) rfl rfl dX9_doAct_90 ?_
    refine j_getR (pc := 91) FI_X9 (k := 5) (by decide) fl_X9_37 dX9_doAct_91 (fun x21 _ => ?_)
    refine j_iload_n (pc := 94) (p := 2) rfl rfl dX9_doAct_94 ?_
    refine j_iconst (pc := 95) ki_3 dX9_doAct_95 ?_
    refine j_iadd (pc := 96) dX9_doAct_96 ?_
    refine j_cVi (pc := 97) Y_X6_at (ci := 5) (b := x21) rfl rfl ml_X9_186 im_X6_at se_X6_at ⟨Nat.le_of_ble_eq_true rfl, Nat.le_of_ble_eq_true rfl⟩ dX9_doAct_97 (As := [.int (v1 + (3))]) (rest := [.int q20.2, .int (q2.2 - (48)), .ref x17]) rfl rfl (Nat.le_of_ble_eq_true rfl) (fun x hq9 => c_X6_at _ _ _ _ hq9) (fun q22 _ => ?_)
    refine j_cSi (pc := 100) Y_X9_nodeOfSign ml_X9_349 sm_X9_nodeOfSign ⟨Nat.le_of_ble_eq_true rfl, Nat.le_of_ble_eq_true rfl⟩ dX9_doAct_100 (As := [.int q22.2]) (rest := [.int q20.2, .int (q2.2 - (48)), .ref x17]) rfl rfl (Nat.le_of_ble_eq_true rfl) (fun x hq9 => c_X9_nodeOfSign _ _ _ hq9) (fun q23 _ => ?_)
    refine j_aload_n (pc := 103) (p := 1) rfl rfl dX9_doAct_103 ?_
    refine j_getR (pc := 104) FI_X9 (k := 5) (by decide) fl_X9_37 dX9_doAct_104 (fun x24 _ => ?_)
    refine j_iload_n (pc := 107) (p := 2) rfl rfl dX9_doAct_107 ?_
    refine j_iconst (pc := 108) ki_4 dX9_doAct_108 ?_
    refine j_iadd (pc := 109) dX9_doAct_109 ?_
    refine j_cVi (pc := 110) Y_X6_at (ci := 5) (b := x24) rfl rfl ml_X9_186 im_X6_at se_X6_at ⟨Nat.le_of_ble_eq_true rfl, Nat.le_of_ble_eq_true rfl⟩ dX9_doAct_110 (As := [.int (v1 + (4))]) (rest := [.int q23.2, .int q20.2, .int (q2.2 - (48)), .ref x17]) rfl rfl (Nat.le_of_ble_eq_true rfl) (fun x hq9 => c_X6_at _ _ _ _ hq9) (fun q25 _ => ?_)
    refine j_bipush (pc := 113) kb_48 dX9_doAct_113 ?_
    refine j_isub (pc := 115) dX9_doAct_115 ?_
    refine j_cVi (pc := 116) Y_X8_make (ci := 7) (b := x17) rfl rfl ml_X9_136 im_X8_make se_X8_make ⟨Nat.le_of_ble_eq_true rfl, Nat.le_of_ble_eq_true rfl⟩ dX9_doAct_116 (As := [.int (q2.2 - (48)), .int q20.2, .int q23.2, .int (q25.2 - (48))]) (rest := []) rfl rfl (Nat.le_of_ble_eq_true rfl) (fun x hq9 => c_X8_make _ _ _ _ _ _ _ hq9) (fun q26 _ => ?_)
    exact j_iret (pc := 119) rfl dX9_doAct_119
  refine j_ite (fun c27 => ?_) (fun c27 => ?_)
  · refine j_lsw (pc := 22) (off := 138) (tgt := 160) dX9_doAct_22 (by decide) (by rw [c27]; decide) (by decide) ?_
    refine j_aload_n (pc := 160) (p := 1) rfl rfl dX9_doAct_160 ?_
    refine j_getR (pc := 161) FI_X9 (k := 0) (by decide) fl_X9_12 dX9_doAct_161 (fun x28 _ => ?_)
    refine j_iload_n (pc := 164) (p := 0) rfl rfl dX9_doAct_164 ?_
    refine j_cVi (pc := 165) Y_X8_cut (ci := 7) (b := x28) rfl rfl ml_X9_173 im_X8_cut se_X8_cut ⟨Nat.le_of_ble_eq_true rfl, Nat.le_of_ble_eq_true rfl⟩ dX9_doAct_165 (As := [.int (q2.2 - (48))]) (rest := []) rfl rfl (Nat.le_of_ble_eq_true rfl) (fun x hq9 => c_X8_cut _ _ _ _ hq9) (fun q29 _ => ?_)
    exact j_iret (pc := 168) rfl dX9_doAct_168
  refine j_lsw (pc := 22) (off := 147) (tgt := 169) dX9_doAct_22 (by decide) (by show Op.lookupswitch.offset [(98, 98), (99, 107), (103, 129), (109, 50), (120, 138)] _ _ = _; rw [lv_osw c5 (by decide), lv_osw c8 (by decide), lv_osw c13 (by decide), lv_osw c16 (by decide), lv_osw c27 (by decide)]; rfl) (by decide) ?_
  refine j_iconst (pc := 169) ki_m1 dX9_doAct_169 ?_
  exact j_iret (pc := 170) rfl dX9_doAct_170
set_option maxRecDepth 20000 in
set_option maxHeartbeats 1000000 in
theorem c_X9_doAct {G : q_G} {l : Launch} : ∀ (h : q_H) (a0 : Nat) (a1 : Int32) (q : q_H × Int32), f_X9_doAct h a0 a1 = some q → (∃ fs, h.1 a0 = .inr (8, fs)) ∧ q_CT G l yX9_doAct cX9_doAct 3 (some .int) 5 156 [.ref a0, .int a1] h q.1 (q_i q.2) := by
  intro h a0 a1 q e
  obtain ⟨e1, e2⟩ := q_chk_ok e
  exact ⟨e1, q_ofJ Y_X9_doAct (Nat.le_of_ble_eq_true rfl) (jb_X9_doAct_0 h a0 a1) q e2⟩
/-! FarFolders.day()I -/
theorem dX9_day_0 : decode cX9_day 0 = .ok (.aload_n 0, 1) := by decide +kernel
theorem dX9_day_1 : decode cX9_day 1 = .ok (.invokevirtual 176, 3) := by decide +kernel
theorem dX9_day_4 : decode cX9_day 4 = .ok (.istore_n 1, 1) := by decide +kernel
theorem dX9_day_5 : decode cX9_day 5 = .ok (.iload_n 1, 1) := by decide +kernel
theorem dX9_day_6 : decode cX9_day 6 = .ok (.ifCond .lt 14, 3) := by decide +kernel
theorem dX9_day_9 : decode cX9_day 9 = .ok (.aload_n 0, 1) := by decide +kernel
theorem dX9_day_10 : decode cX9_day 10 = .ok (.getfield 37, 3) := by decide +kernel
theorem dX9_day_13 : decode cX9_day 13 = .ok (.invokevirtual 180, 3) := by decide +kernel
theorem dX9_day_16 : decode cX9_day 16 = .ok (.iconst (-1), 1) := by decide +kernel
theorem dX9_day_17 : decode cX9_day 17 = .ok (.iload_n 1, 1) := by decide +kernel
theorem dX9_day_18 : decode cX9_day 18 = .ok (.isub, 1) := by decide +kernel
theorem dX9_day_19 : decode cX9_day 19 = .ok (.ireturn, 1) := by decide +kernel
theorem dX9_day_20 : decode cX9_day 20 = .ok (.iconst 0, 1) := by decide +kernel
theorem dX9_day_21 : decode cX9_day 21 = .ok (.istore_n 2, 1) := by decide +kernel
theorem dX9_day_22 : decode cX9_day 22 = .ok (.iconst 0, 1) := by decide +kernel
theorem dX9_day_23 : decode cX9_day 23 = .ok (.istore_n 3, 1) := by decide +kernel
theorem dX9_day_24 : decode cX9_day 24 = .ok (.iconst 0, 1) := by decide +kernel
theorem dX9_day_25 : decode cX9_day 25 = .ok (.istore 4, 2) := by decide +kernel
theorem dX9_day_27 : decode cX9_day 27 = .ok (.iload 4, 2) := by decide +kernel
theorem dX9_day_29 : decode cX9_day 29 = .ok (.aload_n 0, 1) := by decide +kernel
theorem dX9_day_30 : decode cX9_day 30 = .ok (.getfield 37, 3) := by decide +kernel
theorem dX9_day_33 : decode cX9_day 33 = .ok (.getfield 66, 3) := by decide +kernel
theorem dX9_day_36 : decode cX9_day 36 = .ok (.if_icmp .ge 48, 3) := by decide +kernel
theorem dX9_day_39 : decode cX9_day 39 = .ok (.iload_n 3, 1) := by decide +kernel
theorem dX9_day_40 : decode cX9_day 40 = .ok (.ifCond .ne 44, 3) := by decide +kernel
theorem dX9_day_43 : decode cX9_day 43 = .ok (.aload_n 0, 1) := by decide +kernel
theorem dX9_day_44 : decode cX9_day 44 = .ok (.iload 4, 2) := by decide +kernel
theorem dX9_day_46 : decode cX9_day 46 = .ok (.invokevirtual 183, 3) := by decide +kernel
theorem dX9_day_49 : decode cX9_day 49 = .ok (.ifCond .ge 8, 3) := by decide +kernel
theorem dX9_day_52 : decode cX9_day 52 = .ok (.iconst 1, 1) := by decide +kernel
theorem dX9_day_53 : decode cX9_day 53 = .ok (.istore_n 3, 1) := by decide +kernel
theorem dX9_day_54 : decode cX9_day 54 = .ok (.goto 6, 3) := by decide +kernel
theorem dX9_day_57 : decode cX9_day 57 = .ok (.iinc 2 1, 3) := by decide +kernel
theorem dX9_day_60 : decode cX9_day 60 = .ok (.iload 4, 2) := by decide +kernel
theorem dX9_day_62 : decode cX9_day 62 = .ok (.aload_n 0, 1) := by decide +kernel
theorem dX9_day_63 : decode cX9_day 63 = .ok (.getfield 37, 3) := by decide +kernel
theorem dX9_day_66 : decode cX9_day 66 = .ok (.iload 4, 2) := by decide +kernel
theorem dX9_day_68 : decode cX9_day 68 = .ok (.invokevirtual 186, 3) := by decide +kernel
theorem dX9_day_71 : decode cX9_day 71 = .ok (.invokestatic 188, 3) := by decide +kernel
theorem dX9_day_74 : decode cX9_day 74 = .ok (.iconst 1, 1) := by decide +kernel
theorem dX9_day_75 : decode cX9_day 75 = .ok (.invokestatic 191, 3) := by decide +kernel
theorem dX9_day_78 : decode cX9_day 78 = .ok (.iadd, 1) := by decide +kernel
theorem dX9_day_79 : decode cX9_day 79 = .ok (.istore 4, 2) := by decide +kernel
theorem dX9_day_81 : decode cX9_day 81 = .ok (.goto (-54), 3) := by decide +kernel
theorem dX9_day_84 : decode cX9_day 84 = .ok (.aload_n 0, 1) := by decide +kernel
theorem dX9_day_85 : decode cX9_day 85 = .ok (.getfield 37, 3) := by decide +kernel
theorem dX9_day_88 : decode cX9_day 88 = .ok (.invokevirtual 180, 3) := by decide +kernel
theorem dX9_day_91 : decode cX9_day 91 = .ok (.aload_n 0, 1) := by decide +kernel
theorem dX9_day_92 : decode cX9_day 92 = .ok (.getfield 30, 3) := by decide +kernel
theorem dX9_day_95 : decode cX9_day 95 = .ok (.iload_n 3, 1) := by decide +kernel
theorem dX9_day_96 : decode cX9_day 96 = .ok (.i2l, 1) := by decide +kernel
theorem dX9_day_97 : decode cX9_day 97 = .ok (.invokevirtual 141, 3) := by decide +kernel
theorem dX9_day_100 : decode cX9_day 100 = .ok (.iload_n 2, 1) := by decide +kernel
theorem dX9_day_101 : decode cX9_day 101 = .ok (.ireturn, 1) := by decide +kernel
def b_X9_day_84 (h : q_H) (v0 : Nat) (v2 : Int32) (v3 : Int32) : Option (q_H × Int32) :=
  Option.bind (q_gR 8 5 h v0) (fun x1 => Option.bind (f_X6_clear h x1) (fun q2 => Option.bind (q_gR 8 4 q2.1 v0) (fun x3 => Option.bind (f_X4_tell q2.1 x3 (Int32.toInt64 v3)) (fun q4 => some (q4.1, v2)))))
def b_X9_day_60 (k27 : q_H → Nat → Int32 → Int32 → Int32 → Option (q_H × Int32)) (h : q_H) (v0 : Nat) (v2 : Int32) (v3 : Int32) (v4 : Int32) : Option (q_H × Int32) :=
  Option.bind (q_gR 8 5 h v0) (fun x5 => Option.bind (f_X6_at h x5 v4) (fun q6 => Option.bind (f_X9_signsOfAct q6.1 q6.2) (fun q7 => k27 q7.1 v0 v2 v3 (v4 + (q_max q7.2 (1))))))
def b_X9_day_27 (k27 : q_H → Nat → Int32 → Int32 → Int32 → Option (q_H × Int32)) (h : q_H) (v0 : Nat) (v2 : Int32) (v3 : Int32) (v4 : Int32) : Option (q_H × Int32) :=
  Option.bind (q_gR 8 5 h v0) (fun x8 => Option.bind (q_gI 5 1 h x8) (fun x9 => if x9 ≤ v4 then b_X9_day_84 h v0 v2 v3 else if v3 = 0 then Option.bind (f_X9_doAct h v0 v4) (fun q10 => if 0 ≤ q10.2 then b_X9_day_60 k27 q10.1 v0 (v2 + 1) v3 v4 else b_X9_day_60 k27 q10.1 v0 v2 (1) v4) else b_X9_day_84 h v0 v2 v3))
def l_X9_day_27 : Nat → q_H → Nat → Int32 → Int32 → Int32 → Option (q_H × Int32)
  | 0, _, _, _, _, _ => none
  | n + 1, h, v0, v2, v3, v4 => b_X9_day_27 (l_X9_day_27 n) h v0 v2 v3 v4
def b_X9_day_0 (h : q_H) (v0 : Nat) : Option (q_H × Int32) :=
  Option.bind (f_X9_wrongSignOfDay h v0) (fun q11 => if q11.2 < 0 then l_X9_day_27 q_FU q11.1 v0 (0) (0) (0) else Option.bind (q_gR 8 5 q11.1 v0) (fun x12 => Option.bind (f_X6_clear q11.1 x12) (fun q13 => some (q13.1, ((-1) - q11.2)))))
def f_X9_day (h : q_H) (a0 : Nat) : Option (q_H × Int32) := q_chk 8 h a0 (b_X9_day_0 h a0)
set_option maxRecDepth 20000 in
set_option maxHeartbeats 1000000 in
theorem jb_X9_day_84 {G : q_G} {l : Launch} {k0 z0 : Nat} (h : q_H) (v0 : Nat) (v2 : Int32) (v3 : Int32) : q_J G l (RX9, cX9_day, 5, 6, 178, (some .int), "day", []) k0 z0 (q_Z G k0 z0 q_i) 84 [(0, .ref v0), (2, .int v2), (3, .int v3)] [] h (b_X9_day_84 h v0 v2 v3) := by
  unfold b_X9_day_84
  refine j_aload_n (pc := 84) (p := 0) rfl rfl dX9_day_84 ?_
  refine j_getR (pc := 85) FI_X9 (k := 5) (by decide) fl_X9_37 dX9_day_85 (fun x1 _ => ?_)
  refine j_cVu (pc := 88) Y_X6_clear (ci := 5) (b := x1) rfl rfl ml_X9_180 im_X6_clear se_X6_clear ⟨Nat.le_of_ble_eq_true rfl, Nat.le_of_ble_eq_true rfl⟩ dX9_day_88 (As := []) (rest := []) rfl rfl (Nat.le_of_ble_eq_true rfl) (fun x hq9 => c_X6_clear _ _ _ hq9) (fun q2 _ => ?_)
  refine j_aload_n (pc := 91) (p := 0) rfl rfl dX9_day_91 ?_
  refine j_getR (pc := 92) FI_X9 (k := 4) (by decide) fl_X9_30 dX9_day_92 (fun x3 _ => ?_)
  refine j_iload_n (pc := 95) (p := 2) rfl rfl dX9_day_95 ?_
  refine j_i2l (pc := 96) dX9_day_96 ?_
  refine j_cVu (pc := 97) Y_X4_tell (ci := 3) (b := x3) rfl rfl ml_X9_141 im_X4_tell se_X4_tell ⟨Nat.le_of_ble_eq_true rfl, Nat.le_of_ble_eq_true rfl⟩ dX9_day_97 (As := [.long (Int32.toInt64 v3)]) (rest := []) rfl rfl (Nat.le_of_ble_eq_true rfl) (fun x hq9 => c_X4_tell _ _ _ _ hq9) (fun q4 _ => ?_)
  refine j_iload_n (pc := 100) (p := 1) rfl rfl dX9_day_100 ?_
  exact j_iret (pc := 101) rfl dX9_day_101
set_option maxRecDepth 20000 in
set_option maxHeartbeats 1000000 in
theorem jb_X9_day_60 {G : q_G} {l : Launch} {k0 z0 : Nat} (k27 : q_H → Nat → Int32 → Int32 → Int32 → Option (q_H × Int32)) (hk27 : ∀ (h : q_H) (v0 : Nat) (v2 : Int32) (v3 : Int32) (v4 : Int32), q_J G l (RX9, cX9_day, 5, 6, 178, (some .int), "day", []) k0 z0 (q_Z G k0 z0 q_i) 27 [(0, .ref v0), (2, .int v2), (3, .int v3), (4, .int v4)] [] h (k27 h v0 v2 v3 v4)) (h : q_H) (v0 : Nat) (v2 : Int32) (v3 : Int32) (v4 : Int32) : q_J G l (RX9, cX9_day, 5, 6, 178, (some .int), "day", []) k0 z0 (q_Z G k0 z0 q_i) 60 [(0, .ref v0), (2, .int v2), (3, .int v3), (4, .int v4)] [] h (b_X9_day_60 k27 h v0 v2 v3 v4) := by
  unfold b_X9_day_60
  refine j_iload (pc := 60) (p := 3) rfl dX9_day_60 ?_
  refine j_aload_n (pc := 62) (p := 0) rfl rfl dX9_day_62 ?_
  refine j_getR (pc := 63) FI_X9 (k := 5) (by decide) fl_X9_37 dX9_day_63 (fun x5 _ => ?_)
  refine j_iload (pc := 66) (p := 3) rfl dX9_day_66 ?_
  refine j_cVi (pc := 68) Y_X6_at (ci := 5) (b := x5) rfl rfl ml_X9_186 im_X6_at se_X6_at ⟨Nat.le_of_ble_eq_true rfl, Nat.le_of_ble_eq_true rfl⟩ dX9_day_68 (As := [.int v4]) (rest := [.int v4]) rfl rfl (Nat.le_of_ble_eq_true rfl) (fun x hq9 => c_X6_at _ _ _ _ hq9) (fun q6 _ => ?_)
  refine j_cSi (pc := 71) Y_X9_signsOfAct ml_X9_188 sm_X9_signsOfAct ⟨Nat.le_of_ble_eq_true rfl, Nat.le_of_ble_eq_true rfl⟩ dX9_day_71 (As := [.int q6.2]) (rest := [.int v4]) rfl rfl (Nat.le_of_ble_eq_true rfl) (fun x hq9 => c_X9_signsOfAct _ _ _ hq9) (fun q7 _ => ?_)
  refine j_iconst (pc := 74) ki_1 dX9_day_74 ?_
  refine j_max (pc := 75) ml_X9_191 sm_max ini_Math co_max ⟨Nat.le_of_ble_eq_true rfl, Nat.le_of_ble_eq_true rfl⟩ dX9_day_75 ?_
  refine j_iadd (pc := 78) dX9_day_78 ?_
  refine j_istore (pc := 79) (lv' := [(4, .int (v4 + (q_max q7.2 (1)))), (0, .ref v0), (2, .int v2), (3, .int v3)]) (by decide) rfl dX9_day_79 ?_
  refine j_goto (pc := 81) (tgt := 27) dX9_day_81 (by decide) ?_
  refine j_sub [1, 2, 3, 0] (lv' := [(0, .ref v0), (2, .int v2), (3, .int v3), (4, .int (v4 + (q_max q7.2 (1))))]) rfl ?_
  exact hk27 _ _ _ _ _
set_option maxRecDepth 20000 in
set_option maxHeartbeats 1000000 in
theorem jb_X9_day_27 {G : q_G} {l : Launch} {k0 z0 : Nat} (k27 : q_H → Nat → Int32 → Int32 → Int32 → Option (q_H × Int32)) (hk27 : ∀ (h : q_H) (v0 : Nat) (v2 : Int32) (v3 : Int32) (v4 : Int32), q_J G l (RX9, cX9_day, 5, 6, 178, (some .int), "day", []) k0 z0 (q_Z G k0 z0 q_i) 27 [(0, .ref v0), (2, .int v2), (3, .int v3), (4, .int v4)] [] h (k27 h v0 v2 v3 v4)) (h : q_H) (v0 : Nat) (v2 : Int32) (v3 : Int32) (v4 : Int32) : q_J G l (RX9, cX9_day, 5, 6, 178, (some .int), "day", []) k0 z0 (q_Z G k0 z0 q_i) 27 [(0, .ref v0), (2, .int v2), (3, .int v3), (4, .int v4)] [] h (b_X9_day_27 k27 h v0 v2 v3 v4) := by
  unfold b_X9_day_27
  refine j_iload (pc := 27) (p := 3) rfl dX9_day_27 ?_
  refine j_aload_n (pc := 29) (p := 0) rfl rfl dX9_day_29 ?_
  refine j_getR (pc := 30) FI_X9 (k := 5) (by decide) fl_X9_37 dX9_day_30 (fun x8 _ => ?_)
  refine j_getI (pc := 33) FI_X6 (k := 1) (by decide) fl_X9_66 dX9_day_33 (fun x9 _ => ?_)
  refine j_ic_ge (pc := 36) (tgt := 84) dX9_day_36 (by decide) (fun _ => ?_) (fun _ => ?_)
  · refine j_sub [0, 1, 2] (lv' := [(0, .ref v0), (2, .int v2), (3, .int v3)]) rfl ?_
    exact jb_X9_day_84 _ _ _ _
  refine j_iload_n (pc := 39) (p := 2) rfl rfl dX9_day_39 ?_
  refine j_if_ne (pc := 40) (tgt := 84) dX9_day_40 (by decide) (fun _ => ?_) (fun _ => ?_)
  · refine j_aload_n (pc := 43) (p := 0) rfl rfl dX9_day_43 ?_
    refine j_iload (pc := 44) (p := 3) rfl dX9_day_44 ?_
    refine j_cVi (pc := 46) Y_X9_doAct (ci := 8) (b := v0) rfl rfl ml_X9_183 im_X9_doAct se_X9_doAct ⟨Nat.le_of_ble_eq_true rfl, Nat.le_of_ble_eq_true rfl⟩ dX9_day_46 (As := [.int v4]) (rest := []) rfl rfl (Nat.le_of_ble_eq_true rfl) (fun x hq9 => c_X9_doAct _ _ _ _ hq9) (fun q10 _ => ?_)
    refine j_if_ge (pc := 49) (tgt := 57) dX9_day_49 (by decide) (fun _ => ?_) (fun _ => ?_)
    · refine j_inc (pc := 57) (p := 1) (lv' := [(2, .int (v2 + 1)), (0, .ref v0), (3, .int v3), (4, .int v4)]) rfl ki_1 (by decide) rfl dX9_day_57 ?_
      refine j_sub [1, 0, 2, 3] (lv' := [(0, .ref v0), (2, .int (v2 + 1)), (3, .int v3), (4, .int v4)]) rfl ?_
      exact jb_X9_day_60 k27 hk27 _ _ _ _ _
    refine j_iconst (pc := 52) ki_1 dX9_day_52 ?_
    refine j_istore_n (pc := 53) (lv' := [(3, .int (1)), (0, .ref v0), (2, .int v2), (4, .int v4)]) rfl (by decide) rfl dX9_day_53 ?_
    refine j_goto (pc := 54) (tgt := 60) dX9_day_54 (by decide) ?_
    refine j_sub [1, 2, 0, 3] (lv' := [(0, .ref v0), (2, .int v2), (3, .int (1)), (4, .int v4)]) rfl ?_
    exact jb_X9_day_60 k27 hk27 _ _ _ _ _
  refine j_sub [0, 1, 2] (lv' := [(0, .ref v0), (2, .int v2), (3, .int v3)]) rfl ?_
  exact jb_X9_day_84 _ _ _ _
set_option maxRecDepth 20000 in
set_option maxHeartbeats 1000000 in
theorem jl_X9_day_27 {G : q_G} {l : Launch} {k0 z0 : Nat} (n : Nat) : ∀ (h : q_H) (v0 : Nat) (v2 : Int32) (v3 : Int32) (v4 : Int32), q_J G l (RX9, cX9_day, 5, 6, 178, (some .int), "day", []) k0 z0 (q_Z G k0 z0 q_i) 27 [(0, .ref v0), (2, .int v2), (3, .int v3), (4, .int v4)] [] h (l_X9_day_27 n h v0 v2 v3 v4) := by
  induction n with
  | zero => intro h v0 v2 v3 v4; exact j_none
  | succ n ih => intro h v0 v2 v3 v4; exact jb_X9_day_27 (l_X9_day_27 n) ih h v0 v2 v3 v4
set_option maxRecDepth 20000 in
set_option maxHeartbeats 1000000 in
theorem jb_X9_day_0 {G : q_G} {l : Launch} {k0 z0 : Nat} (h : q_H) (v0 : Nat) : q_J G l (RX9, cX9_day, 5, 6, 178, (some .int), "day", []) k0 z0 (q_Z G k0 z0 q_i) 0 [(0, .ref v0)] [] h (b_X9_day_0 h v0) := by
  unfold b_X9_day_0
  refine j_aload_n (pc := 0) (p := 0) rfl rfl dX9_day_0 ?_
  refine j_cVi (pc := 1) Y_X9_wrongSignOfDay (ci := 8) (b := v0) rfl rfl ml_X9_176 im_X9_wrongSignOfDay se_X9_wrongSignOfDay ⟨Nat.le_of_ble_eq_true rfl, Nat.le_of_ble_eq_true rfl⟩ dX9_day_1 (As := []) (rest := []) rfl rfl (Nat.le_of_ble_eq_true rfl) (fun x hq9 => c_X9_wrongSignOfDay _ _ _ hq9) (fun q11 _ => ?_)
  refine j_istore_n (pc := 4) (lv' := [(1, .int q11.2), (0, .ref v0)]) rfl (by decide) rfl dX9_day_4 ?_
  refine j_iload_n (pc := 5) (p := 0) rfl rfl dX9_day_5 ?_
  refine j_if_lt (pc := 6) (tgt := 20) dX9_day_6 (by decide) (fun _ => ?_) (fun _ => ?_)
  · refine j_iconst (pc := 20) ki_0 dX9_day_20 ?_
    refine j_istore_n (pc := 21) (lv' := [(2, .int (0)), (1, .int q11.2), (0, .ref v0)]) rfl (by decide) rfl dX9_day_21 ?_
    refine j_iconst (pc := 22) ki_0 dX9_day_22 ?_
    refine j_istore_n (pc := 23) (lv' := [(3, .int (0)), (2, .int (0)), (1, .int q11.2), (0, .ref v0)]) rfl (by decide) rfl dX9_day_23 ?_
    refine j_iconst (pc := 24) ki_0 dX9_day_24 ?_
    refine j_istore (pc := 25) (lv' := [(4, .int (0)), (3, .int (0)), (2, .int (0)), (1, .int q11.2), (0, .ref v0)]) (by decide) rfl dX9_day_25 ?_
    refine j_sub [4, 2, 1, 0] (lv' := [(0, .ref v0), (2, .int (0)), (3, .int (0)), (4, .int (0))]) rfl ?_
    exact jl_X9_day_27 q_FU _ _ _ _ _
  refine j_aload_n (pc := 9) (p := 1) rfl rfl dX9_day_9 ?_
  refine j_getR (pc := 10) FI_X9 (k := 5) (by decide) fl_X9_37 dX9_day_10 (fun x12 _ => ?_)
  refine j_cVu (pc := 13) Y_X6_clear (ci := 5) (b := x12) rfl rfl ml_X9_180 im_X6_clear se_X6_clear ⟨Nat.le_of_ble_eq_true rfl, Nat.le_of_ble_eq_true rfl⟩ dX9_day_13 (As := []) (rest := []) rfl rfl (Nat.le_of_ble_eq_true rfl) (fun x hq9 => c_X6_clear _ _ _ hq9) (fun q13 _ => ?_)
  refine j_iconst (pc := 16) ki_m1 dX9_day_16 ?_
  refine j_iload_n (pc := 17) (p := 0) rfl rfl dX9_day_17 ?_
  refine j_isub (pc := 18) dX9_day_18 ?_
  exact j_iret (pc := 19) rfl dX9_day_19
set_option maxRecDepth 20000 in
set_option maxHeartbeats 1000000 in
theorem c_X9_day {G : q_G} {l : Launch} : ∀ (h : q_H) (a0 : Nat) (q : q_H × Int32), f_X9_day h a0 = some q → (∃ fs, h.1 a0 = .inr (8, fs)) ∧ q_CT G l yX9_day cX9_day 5 (some .int) 6 178 [.ref a0] h q.1 (q_i q.2) := by
  intro h a0 q e
  obtain ⟨e1, e2⟩ := q_chk_ok e
  exact ⟨e1, q_ofJ Y_X9_day (Nat.le_of_ble_eq_true rfl) (jb_X9_day_0 h a0) q e2⟩
/-! FarFolders.depth(II)I -/
theorem dX9_depth_0 : decode cX9_depth 0 = .ok (.aload_n 0, 1) := by decide +kernel
theorem dX9_depth_1 : decode cX9_depth 1 = .ok (.iload_n 1, 1) := by decide +kernel
theorem dX9_depth_2 : decode cX9_depth 2 = .ok (.iload_n 2, 1) := by decide +kernel
theorem dX9_depth_3 : decode cX9_depth 3 = .ok (.invokevirtual 212, 3) := by decide +kernel
theorem dX9_depth_6 : decode cX9_depth 6 = .ok (.istore_n 3, 1) := by decide +kernel
theorem dX9_depth_7 : decode cX9_depth 7 = .ok (.iload_n 3, 1) := by decide +kernel
theorem dX9_depth_8 : decode cX9_depth 8 = .ok (.ifCond .ge 5, 3) := by decide +kernel
theorem dX9_depth_11 : decode cX9_depth 11 = .ok (.iload_n 3, 1) := by decide +kernel
theorem dX9_depth_12 : decode cX9_depth 12 = .ok (.ireturn, 1) := by decide +kernel
theorem dX9_depth_13 : decode cX9_depth 13 = .ok (.aload_n 0, 1) := by decide +kernel
theorem dX9_depth_14 : decode cX9_depth 14 = .ok (.getfield 12, 3) := by decide +kernel
theorem dX9_depth_17 : decode cX9_depth 17 = .ok (.getfield 82, 3) := by decide +kernel
theorem dX9_depth_20 : decode cX9_depth 20 = .ok (.iload_n 1, 1) := by decide +kernel
theorem dX9_depth_21 : decode cX9_depth 21 = .ok (.aaload, 1) := by decide +kernel
theorem dX9_depth_22 : decode cX9_depth 22 = .ok (.getfield 86, 3) := by decide +kernel
theorem dX9_depth_25 : decode cX9_depth 25 = .ok (.astore 4, 2) := by decide +kernel
theorem dX9_depth_27 : decode cX9_depth 27 = .ok (.aload 4, 2) := by decide +kernel
theorem dX9_depth_29 : decode cX9_depth 29 = .ok (.iload_n 2, 1) := by decide +kernel
theorem dX9_depth_30 : decode cX9_depth 30 = .ok (.invokevirtual 226, 3) := by decide +kernel
theorem dX9_depth_33 : decode cX9_depth 33 = .ok (.istore 5, 2) := by decide +kernel
theorem dX9_depth_35 : decode cX9_depth 35 = .ok (.aload_n 0, 1) := by decide +kernel
theorem dX9_depth_36 : decode cX9_depth 36 = .ok (.getfield 30, 3) := by decide +kernel
theorem dX9_depth_39 : decode cX9_depth 39 = .ok (.aload 4, 2) := by decide +kernel
theorem dX9_depth_41 : decode cX9_depth 41 = .ok (.iload_n 2, 1) := by decide +kernel
theorem dX9_depth_42 : decode cX9_depth 42 = .ok (.iload 5, 2) := by decide +kernel
theorem dX9_depth_44 : decode cX9_depth 44 = .ok (.invokevirtual 229, 3) := by decide +kernel
theorem dX9_depth_47 : decode cX9_depth 47 = .ok (.i2l, 1) := by decide +kernel
theorem dX9_depth_48 : decode cX9_depth 48 = .ok (.invokevirtual 141, 3) := by decide +kernel
theorem dX9_depth_51 : decode cX9_depth 51 = .ok (.iload 5, 2) := by decide +kernel
theorem dX9_depth_53 : decode cX9_depth 53 = .ok (.ireturn, 1) := by decide +kernel
def b_X9_depth_0 (h : q_H) (v0 : Nat) (v1 : Int32) (v2 : Int32) : Option (q_H × Int32) :=
  Option.bind (f_X9_refusalOf h v0 v1 v2) (fun q1 => if 0 ≤ q1.2 then Option.bind (q_gR 8 0 q1.1 v0) (fun x2 => Option.bind (q_gR 7 0 q1.1 x2) (fun x3 => Option.bind (q_lR 4 q1.1 x3 v1) (fun x4 => Option.bind (q_gR 0 5 q1.1 x4) (fun x5 => Option.bind (f_X7_stepsUp q1.1 x5 v2) (fun q6 => Option.bind (q_gR 8 4 q6.1 v0) (fun x7 => Option.bind (f_X7_up q6.1 x5 v2 q6.2) (fun q8 => Option.bind (f_X4_tell q8.1 x7 (Int32.toInt64 q8.2)) (fun q9 => some (q9.1, q6.2))))))))) else some (q1.1, q1.2))
def f_X9_depth (h : q_H) (a0 : Nat) (a1 : Int32) (a2 : Int32) : Option (q_H × Int32) := q_chk 8 h a0 (b_X9_depth_0 h a0 a1 a2)
set_option maxRecDepth 20000 in
set_option maxHeartbeats 1000000 in
theorem jb_X9_depth_0 {G : q_G} {l : Launch} {k0 z0 : Nat} (h : q_H) (v0 : Nat) (v1 : Int32) (v2 : Int32) : q_J G l (RX9, cX9_depth, 6, 2, 45, (some .int), "depth", []) k0 z0 (q_Z G k0 z0 q_i) 0 [(0, .ref v0), (1, .int v1), (2, .int v2)] [] h (b_X9_depth_0 h v0 v1 v2) := by
  unfold b_X9_depth_0
  refine j_aload_n (pc := 0) (p := 0) rfl rfl dX9_depth_0 ?_
  refine j_iload_n (pc := 1) (p := 1) rfl rfl dX9_depth_1 ?_
  refine j_iload_n (pc := 2) (p := 2) rfl rfl dX9_depth_2 ?_
  refine j_cVi (pc := 3) Y_X9_refusalOf (ci := 8) (b := v0) rfl rfl ml_X9_212 im_X9_refusalOf se_X9_refusalOf ⟨Nat.le_of_ble_eq_true rfl, Nat.le_of_ble_eq_true rfl⟩ dX9_depth_3 (As := [.int v1, .int v2]) (rest := []) rfl rfl (Nat.le_of_ble_eq_true rfl) (fun x hq9 => c_X9_refusalOf _ _ _ _ _ hq9) (fun q1 _ => ?_)
  refine j_istore_n (pc := 6) (lv' := [(3, .int q1.2), (0, .ref v0), (1, .int v1), (2, .int v2)]) rfl (by decide) rfl dX9_depth_6 ?_
  refine j_iload_n (pc := 7) (p := 0) rfl rfl dX9_depth_7 ?_
  refine j_if_ge (pc := 8) (tgt := 13) dX9_depth_8 (by decide) (fun _ => ?_) (fun _ => ?_)
  · refine j_aload_n (pc := 13) (p := 1) rfl rfl dX9_depth_13 ?_
    refine j_getR (pc := 14) FI_X9 (k := 0) (by decide) fl_X9_12 dX9_depth_14 (fun x2 _ => ?_)
    refine j_getR (pc := 17) FI_X8 (k := 0) (by decide) fl_X9_82 dX9_depth_17 (fun x3 _ => ?_)
    refine j_iload_n (pc := 20) (p := 2) rfl rfl dX9_depth_20 ?_
    refine j_aald (pc := 21) (t := 4) rfl dX9_depth_21 (fun x4 _ => ?_)
    refine j_getR (pc := 22) FI_X0 (k := 5) (by decide) fl_X9_86 dX9_depth_22 (fun x5 _ => ?_)
    refine j_astore (pc := 25) (lv' := [(4, .ref x5), (3, .int q1.2), (0, .ref v0), (1, .int v1), (2, .int v2)]) (by decide) rfl dX9_depth_25 ?_
    refine j_aload (pc := 27) (p := 0) rfl dX9_depth_27 ?_
    refine j_iload_n (pc := 29) (p := 4) rfl rfl dX9_depth_29 ?_
    refine j_cVi (pc := 30) Y_X7_stepsUp (ci := 6) (b := x5) rfl rfl ml_X9_226 im_X7_stepsUp se_X7_stepsUp ⟨Nat.le_of_ble_eq_true rfl, Nat.le_of_ble_eq_true rfl⟩ dX9_depth_30 (As := [.int v2]) (rest := []) rfl rfl (Nat.le_of_ble_eq_true rfl) (fun x hq9 => c_X7_stepsUp _ _ _ _ hq9) (fun q6 _ => ?_)
    refine j_istore (pc := 33) (lv' := [(5, .int q6.2), (4, .ref x5), (3, .int q1.2), (0, .ref v0), (1, .int v1), (2, .int v2)]) (by decide) rfl dX9_depth_33 ?_
    refine j_aload_n (pc := 35) (p := 3) rfl rfl dX9_depth_35 ?_
    refine j_getR (pc := 36) FI_X9 (k := 4) (by decide) fl_X9_30 dX9_depth_36 (fun x7 _ => ?_)
    refine j_aload (pc := 39) (p := 1) rfl dX9_depth_39 ?_
    refine j_iload_n (pc := 41) (p := 5) rfl rfl dX9_depth_41 ?_
    refine j_iload (pc := 42) (p := 0) rfl dX9_depth_42 ?_
    refine j_cVi (pc := 44) Y_X7_up (ci := 6) (b := x5) rfl rfl ml_X9_229 im_X7_up se_X7_up ⟨Nat.le_of_ble_eq_true rfl, Nat.le_of_ble_eq_true rfl⟩ dX9_depth_44 (As := [.int v2, .int q6.2]) (rest := [.ref x7]) rfl rfl (Nat.le_of_ble_eq_true rfl) (fun x hq9 => c_X7_up _ _ _ _ _ hq9) (fun q8 _ => ?_)
    refine j_i2l (pc := 47) dX9_depth_47 ?_
    refine j_cVu (pc := 48) Y_X4_tell (ci := 3) (b := x7) rfl rfl ml_X9_141 im_X4_tell se_X4_tell ⟨Nat.le_of_ble_eq_true rfl, Nat.le_of_ble_eq_true rfl⟩ dX9_depth_48 (As := [.long (Int32.toInt64 q8.2)]) (rest := []) rfl rfl (Nat.le_of_ble_eq_true rfl) (fun x hq9 => c_X4_tell _ _ _ _ hq9) (fun q9 _ => ?_)
    refine j_iload (pc := 51) (p := 0) rfl dX9_depth_51 ?_
    exact j_iret (pc := 53) rfl dX9_depth_53
  refine j_iload_n (pc := 11) (p := 0) rfl rfl dX9_depth_11 ?_
  exact j_iret (pc := 12) rfl dX9_depth_12
set_option maxRecDepth 20000 in
set_option maxHeartbeats 1000000 in
theorem c_X9_depth {G : q_G} {l : Launch} : ∀ (h : q_H) (a0 : Nat) (a1 : Int32) (a2 : Int32) (q : q_H × Int32), f_X9_depth h a0 a1 a2 = some q → (∃ fs, h.1 a0 = .inr (8, fs)) ∧ q_CT G l yX9_depth cX9_depth 6 (some .int) 2 45 [.ref a0, .int a1, .int a2] h q.1 (q_i q.2) := by
  intro h a0 a1 a2 q e
  obtain ⟨e1, e2⟩ := q_chk_ok e
  exact ⟨e1, q_ofJ Y_X9_depth (Nat.le_of_ble_eq_true rfl) (jb_X9_depth_0 h a0 a1 a2) q e2⟩
/-! FarFolders.draw(I)I -/
theorem dX9_draw_0 : decode cX9_draw 0 = .ok (.aload_n 0, 1) := by decide +kernel
theorem dX9_draw_1 : decode cX9_draw 1 = .ok (.aload_n 0, 1) := by decide +kernel
theorem dX9_draw_2 : decode cX9_draw 2 = .ok (.getfield 327, 3) := by decide +kernel
theorem dX9_draw_5 : decode cX9_draw 5 = .ok (.ldc_w 382, 3) := by decide +kernel
theorem dX9_draw_8 : decode cX9_draw 8 = .ok (.imul, 1) := by decide +kernel
theorem dX9_draw_9 : decode cX9_draw 9 = .ok (.sipush 12345, 3) := by decide +kernel
theorem dX9_draw_12 : decode cX9_draw 12 = .ok (.iadd, 1) := by decide +kernel
theorem dX9_draw_13 : decode cX9_draw 13 = .ok (.putfield 327, 3) := by decide +kernel
theorem dX9_draw_16 : decode cX9_draw 16 = .ok (.iload_n 1, 1) := by decide +kernel
theorem dX9_draw_17 : decode cX9_draw 17 = .ok (.ifCond .le 15, 3) := by decide +kernel
theorem dX9_draw_20 : decode cX9_draw 20 = .ok (.aload_n 0, 1) := by decide +kernel
theorem dX9_draw_21 : decode cX9_draw 21 = .ok (.getfield 327, 3) := by decide +kernel
theorem dX9_draw_24 : decode cX9_draw 24 = .ok (.bipush 16, 2) := by decide +kernel
theorem dX9_draw_26 : decode cX9_draw 26 = .ok (.iushr, 1) := by decide +kernel
theorem dX9_draw_27 : decode cX9_draw 27 = .ok (.iload_n 1, 1) := by decide +kernel
theorem dX9_draw_28 : decode cX9_draw 28 = .ok (.irem, 1) := by decide +kernel
theorem dX9_draw_29 : decode cX9_draw 29 = .ok (.goto 4, 3) := by decide +kernel
theorem dX9_draw_32 : decode cX9_draw 32 = .ok (.iconst 0, 1) := by decide +kernel
theorem dX9_draw_33 : decode cX9_draw 33 = .ok (.ireturn, 1) := by decide +kernel
def b_X9_draw_0 (h : q_H) (v0 : Nat) (v1 : Int32) : Option (q_H × Int32) :=
  Option.bind (q_gI 8 9 h v0) (fun x1 => Option.bind (q_p 8 9 h v0 (.int ((x1 * (1103515245)) + (12345)))) (fun h2 => if v1 ≤ 0 then some (h2, (0)) else Option.bind (q_gI 8 9 h2 v0) (fun x3 => Option.bind (q_rem (q_iushr x3 (16)) v1) (fun x4 => some (h2, x4)))))
def f_X9_draw (h : q_H) (a0 : Nat) (a1 : Int32) : Option (q_H × Int32) := q_chk 8 h a0 (b_X9_draw_0 h a0 a1)
set_option maxRecDepth 20000 in
set_option maxHeartbeats 1000000 in
theorem jb_X9_draw_0 {G : q_G} {l : Launch} {k0 z0 : Nat} (h : q_H) (v0 : Nat) (v1 : Int32) : q_J G l (RX9, cX9_draw, 2, 0, 0, (some .int), "draw", []) k0 z0 (q_Z G k0 z0 q_i) 0 [(0, .ref v0), (1, .int v1)] [] h (b_X9_draw_0 h v0 v1) := by
  unfold b_X9_draw_0
  refine j_aload_n (pc := 0) (p := 0) rfl rfl dX9_draw_0 ?_
  refine j_aload_n (pc := 1) (p := 0) rfl rfl dX9_draw_1 ?_
  refine j_getI (pc := 2) FI_X9 (k := 9) (by decide) fl_X9_327 dX9_draw_2 (fun x1 _ => ?_)
  refine j_ldcw (pc := 5) ct_X9_382 dX9_draw_5 ?_
  refine j_imul (pc := 8) dX9_draw_8 ?_
  refine j_sipush (pc := 9) ks_12345 dX9_draw_9 ?_
  refine j_iadd (pc := 12) dX9_draw_12 ?_
  refine j_put (pc := 13) FI_X9 (k := 9) (by decide) fl_X9_327 rfl rfl rfl dX9_draw_13 (fun h2 _ => ?_)
  refine j_iload_n (pc := 16) (p := 1) rfl rfl dX9_draw_16 ?_
  refine j_if_le (pc := 17) (tgt := 32) dX9_draw_17 (by decide) (fun _ => ?_) (fun _ => ?_)
  · refine j_iconst (pc := 32) ki_0 dX9_draw_32 ?_
    exact j_iret (pc := 33) rfl dX9_draw_33
  refine j_aload_n (pc := 20) (p := 0) rfl rfl dX9_draw_20 ?_
  refine j_getI (pc := 21) FI_X9 (k := 9) (by decide) fl_X9_327 dX9_draw_21 (fun x3 _ => ?_)
  refine j_bipush (pc := 24) kb_16 dX9_draw_24 ?_
  refine j_iushr (pc := 26) dX9_draw_26 ?_
  refine j_iload_n (pc := 27) (p := 1) rfl rfl dX9_draw_27 ?_
  refine j_irem (pc := 28) dX9_draw_28 (fun x4 _ => ?_)
  refine j_goto (pc := 29) (tgt := 33) dX9_draw_29 (by decide) ?_
  exact j_iret (pc := 33) rfl dX9_draw_33
set_option maxRecDepth 20000 in
set_option maxHeartbeats 1000000 in
theorem c_X9_draw {G : q_G} {l : Launch} : ∀ (h : q_H) (a0 : Nat) (a1 : Int32) (q : q_H × Int32), f_X9_draw h a0 a1 = some q → (∃ fs, h.1 a0 = .inr (8, fs)) ∧ q_CT G l yX9_draw cX9_draw 2 (some .int) 0 0 [.ref a0, .int a1] h q.1 (q_i q.2) := by
  intro h a0 a1 q e
  obtain ⟨e1, e2⟩ := q_chk_ok e
  exact ⟨e1, q_ofJ Y_X9_draw (Nat.le_of_ble_eq_true rfl) (jb_X9_draw_0 h a0 a1) q e2⟩
/-! FarFolders.drawAct()V -/
theorem dX9_drawAct_0 : decode cX9_drawAct 0 = .ok (.aload_n 0, 1) := by decide +kernel
theorem dX9_drawAct_1 : decode cX9_drawAct 1 = .ok (.bipush 8, 2) := by decide +kernel
theorem dX9_drawAct_3 : decode cX9_drawAct 3 = .ok (.invokevirtual 379, 3) := by decide +kernel
theorem dX9_drawAct_6 : decode cX9_drawAct 6 = .ok (.istore_n 1, 1) := by decide +kernel
theorem dX9_drawAct_7 : decode cX9_drawAct 7 = .ok (.aload_n 0, 1) := by decide +kernel
theorem dX9_drawAct_8 : decode cX9_drawAct 8 = .ok (.iconst 3, 1) := by decide +kernel
theorem dX9_drawAct_9 : decode cX9_drawAct 9 = .ok (.invokevirtual 379, 3) := by decide +kernel
theorem dX9_drawAct_12 : decode cX9_drawAct 12 = .ok (.istore_n 2, 1) := by decide +kernel
theorem dX9_drawAct_13 : decode cX9_drawAct 13 = .ok (.iload_n 1, 1) := by decide +kernel
theorem dX9_drawAct_14 : decode cX9_drawAct 14 = .ok (.tableswitch 87 3 7 #[34, 46, 46, 63, 75], 34) := by decide +kernel
theorem dX9_drawAct_48 : decode cX9_drawAct 48 = .ok (.aload_n 0, 1) := by decide +kernel
theorem dX9_drawAct_49 : decode cX9_drawAct 49 = .ok (.getfield 16, 3) := by decide +kernel
theorem dX9_drawAct_52 : decode cX9_drawAct 52 = .ok (.iload_n 2, 1) := by decide +kernel
theorem dX9_drawAct_53 : decode cX9_drawAct 53 = .ok (.invokevirtual 145, 3) := by decide +kernel
theorem dX9_drawAct_56 : decode cX9_drawAct 56 = .ok (.pop, 1) := by decide +kernel
theorem dX9_drawAct_57 : decode cX9_drawAct 57 = .ok (.goto 73, 3) := by decide +kernel
theorem dX9_drawAct_60 : decode cX9_drawAct 60 = .ok (.aload_n 0, 1) := by decide +kernel
theorem dX9_drawAct_61 : decode cX9_drawAct 61 = .ok (.getfield 16, 3) := by decide +kernel
theorem dX9_drawAct_64 : decode cX9_drawAct 64 = .ok (.iload_n 2, 1) := by decide +kernel
theorem dX9_drawAct_65 : decode cX9_drawAct 65 = .ok (.aload_n 0, 1) := by decide +kernel
theorem dX9_drawAct_66 : decode cX9_drawAct 66 = .ok (.iconst 3, 1) := by decide +kernel
theorem dX9_drawAct_67 : decode cX9_drawAct 67 = .ok (.invokevirtual 379, 3) := by decide +kernel
theorem dX9_drawAct_70 : decode cX9_drawAct 70 = .ok (.invokevirtual 156, 3) := by decide +kernel
theorem dX9_drawAct_73 : decode cX9_drawAct 73 = .ok (.pop, 1) := by decide +kernel
theorem dX9_drawAct_74 : decode cX9_drawAct 74 = .ok (.goto 56, 3) := by decide +kernel
theorem dX9_drawAct_77 : decode cX9_drawAct 77 = .ok (.aload_n 0, 1) := by decide +kernel
theorem dX9_drawAct_78 : decode cX9_drawAct 78 = .ok (.getfield 16, 3) := by decide +kernel
theorem dX9_drawAct_81 : decode cX9_drawAct 81 = .ok (.iload_n 2, 1) := by decide +kernel
theorem dX9_drawAct_82 : decode cX9_drawAct 82 = .ok (.invokevirtual 167, 3) := by decide +kernel
theorem dX9_drawAct_85 : decode cX9_drawAct 85 = .ok (.pop, 1) := by decide +kernel
theorem dX9_drawAct_86 : decode cX9_drawAct 86 = .ok (.goto 44, 3) := by decide +kernel
theorem dX9_drawAct_89 : decode cX9_drawAct 89 = .ok (.aload_n 0, 1) := by decide +kernel
theorem dX9_drawAct_90 : decode cX9_drawAct 90 = .ok (.getfield 16, 3) := by decide +kernel
theorem dX9_drawAct_93 : decode cX9_drawAct 93 = .ok (.iload_n 2, 1) := by decide +kernel
theorem dX9_drawAct_94 : decode cX9_drawAct 94 = .ok (.invokevirtual 173, 3) := by decide +kernel
theorem dX9_drawAct_97 : decode cX9_drawAct 97 = .ok (.pop, 1) := by decide +kernel
theorem dX9_drawAct_98 : decode cX9_drawAct 98 = .ok (.goto 32, 3) := by decide +kernel
theorem dX9_drawAct_101 : decode cX9_drawAct 101 = .ok (.aload_n 0, 1) := by decide +kernel
theorem dX9_drawAct_102 : decode cX9_drawAct 102 = .ok (.getfield 16, 3) := by decide +kernel
theorem dX9_drawAct_105 : decode cX9_drawAct 105 = .ok (.iload_n 2, 1) := by decide +kernel
theorem dX9_drawAct_106 : decode cX9_drawAct 106 = .ok (.aload_n 0, 1) := by decide +kernel
theorem dX9_drawAct_107 : decode cX9_drawAct 107 = .ok (.bipush 12, 2) := by decide +kernel
theorem dX9_drawAct_109 : decode cX9_drawAct 109 = .ok (.invokevirtual 379, 3) := by decide +kernel
theorem dX9_drawAct_112 : decode cX9_drawAct 112 = .ok (.iconst 2, 1) := by decide +kernel
theorem dX9_drawAct_113 : decode cX9_drawAct 113 = .ok (.iadd, 1) := by decide +kernel
theorem dX9_drawAct_114 : decode cX9_drawAct 114 = .ok (.aload_n 0, 1) := by decide +kernel
theorem dX9_drawAct_115 : decode cX9_drawAct 115 = .ok (.bipush 14, 2) := by decide +kernel
theorem dX9_drawAct_117 : decode cX9_drawAct 117 = .ok (.invokevirtual 379, 3) := by decide +kernel
theorem dX9_drawAct_120 : decode cX9_drawAct 120 = .ok (.aload_n 0, 1) := by decide +kernel
theorem dX9_drawAct_121 : decode cX9_drawAct 121 = .ok (.bipush 10, 2) := by decide +kernel
theorem dX9_drawAct_123 : decode cX9_drawAct 123 = .ok (.invokevirtual 379, 3) := by decide +kernel
theorem dX9_drawAct_126 : decode cX9_drawAct 126 = .ok (.invokevirtual 136, 3) := by decide +kernel
theorem dX9_drawAct_129 : decode cX9_drawAct 129 = .ok (.pop, 1) := by decide +kernel
theorem dX9_drawAct_130 : decode cX9_drawAct 130 = .ok (.return_, 1) := by decide +kernel
def b_X9_drawAct_60 (h : q_H) (v0 : Nat) (v2 : Int32) : Option (q_H × Unit) :=
  Option.bind (q_gR 8 1 h v0) (fun x1 => Option.bind (f_X9_draw h v0 (3)) (fun q2 => Option.bind (f_X8_deliver q2.1 x1 v2 q2.2) (fun q3 => some (q3.1, ()))))
def b_X9_drawAct_0 (h : q_H) (v0 : Nat) : Option (q_H × Unit) :=
  Option.bind (f_X9_draw h v0 (8)) (fun q4 => Option.bind (f_X9_draw q4.1 v0 (3)) (fun q5 => if q4.2 = (3) then Option.bind (q_gR 8 1 q5.1 v0) (fun x7 => Option.bind (f_X8_beat q5.1 x7 q5.2) (fun q8 => some (q8.1, ()))) else if q4.2 = (4) then b_X9_drawAct_60 q5.1 v0 q5.2 else if q4.2 = (5) then b_X9_drawAct_60 q5.1 v0 q5.2 else if q4.2 = (6) then Option.bind (q_gR 8 1 q5.1 v0) (fun x12 => Option.bind (f_X8_gather q5.1 x12 q5.2) (fun q13 => some (q13.1, ()))) else if q4.2 = (7) then Option.bind (q_gR 8 1 q5.1 v0) (fun x15 => Option.bind (f_X8_cut q5.1 x15 q5.2) (fun q16 => some (q16.1, ()))) else Option.bind (q_gR 8 1 q5.1 v0) (fun x17 => Option.bind (f_X9_draw q5.1 v0 (12)) (fun q18 => Option.bind (f_X9_draw q18.1 v0 (14)) (fun q19 => Option.bind (f_X9_draw q19.1 v0 (10)) (fun q20 => Option.bind (f_X8_make q20.1 x17 q5.2 (q18.2 + (2)) q19.2 q20.2) (fun q21 => some (q21.1, ()))))))))
def f_X9_drawAct (h : q_H) (a0 : Nat) : Option (q_H × Unit) := q_chk 8 h a0 (b_X9_drawAct_0 h a0)
set_option maxRecDepth 20000 in
set_option maxHeartbeats 1000000 in
theorem jb_X9_drawAct_60 {G : q_G} {l : Launch} {k0 z0 : Nat} (h : q_H) (v0 : Nat) (v2 : Int32) : q_J G l (RX9, cX9_drawAct, 3, 5, 156, none, "drawAct", []) k0 z0 (q_Z G k0 z0 q_u) 60 [(0, .ref v0), (2, .int v2)] [] h (b_X9_drawAct_60 h v0 v2) := by
  unfold b_X9_drawAct_60
  refine j_aload_n (pc := 60) (p := 0) rfl rfl dX9_drawAct_60 ?_
  refine j_getR (pc := 61) FI_X9 (k := 1) (by decide) fl_X9_16 dX9_drawAct_61 (fun x1 _ => ?_)
  refine j_iload_n (pc := 64) (p := 1) rfl rfl dX9_drawAct_64 ?_
  refine j_aload_n (pc := 65) (p := 0) rfl rfl dX9_drawAct_65 ?_
  refine j_iconst (pc := 66) ki_3 dX9_drawAct_66 ?_
  refine j_cVi (pc := 67) Y_X9_draw (ci := 8) (b := v0) rfl rfl ml_X9_379 im_X9_draw se_X9_draw ⟨Nat.le_of_ble_eq_true rfl, Nat.le_of_ble_eq_true rfl⟩ dX9_drawAct_67 (As := [.int (3)]) (rest := [.int v2, .ref x1]) rfl rfl (Nat.le_of_ble_eq_true rfl) (fun x hq9 => c_X9_draw _ _ _ _ hq9) (fun q2 _ => ?_)
  refine j_cVi (pc := 70) Y_X8_deliver (ci := 7) (b := x1) rfl rfl ml_X9_156 im_X8_deliver se_X8_deliver ⟨Nat.le_of_ble_eq_true rfl, Nat.le_of_ble_eq_true rfl⟩ dX9_drawAct_70 (As := [.int v2, .int q2.2]) (rest := []) rfl rfl (Nat.le_of_ble_eq_true rfl) (fun x hq9 => c_X8_deliver _ _ _ _ _ hq9) (fun q3 _ => ?_)
  refine j_pop (pc := 73) rfl dX9_drawAct_73 ?_
  refine j_goto (pc := 74) (tgt := 130) dX9_drawAct_74 (by decide) ?_
  exact j_vret (pc := 130) rfl dX9_drawAct_130
set_option maxRecDepth 20000 in
set_option maxHeartbeats 1000000 in
theorem jb_X9_drawAct_0 {G : q_G} {l : Launch} {k0 z0 : Nat} (h : q_H) (v0 : Nat) : q_J G l (RX9, cX9_drawAct, 3, 5, 156, none, "drawAct", []) k0 z0 (q_Z G k0 z0 q_u) 0 [(0, .ref v0)] [] h (b_X9_drawAct_0 h v0) := by
  unfold b_X9_drawAct_0
  refine j_aload_n (pc := 0) (p := 0) rfl rfl dX9_drawAct_0 ?_
  refine j_bipush (pc := 1) kb_8 dX9_drawAct_1 ?_
  refine j_cVi (pc := 3) Y_X9_draw (ci := 8) (b := v0) rfl rfl ml_X9_379 im_X9_draw se_X9_draw ⟨Nat.le_of_ble_eq_true rfl, Nat.le_of_ble_eq_true rfl⟩ dX9_drawAct_3 (As := [.int (8)]) (rest := []) rfl rfl (Nat.le_of_ble_eq_true rfl) (fun x hq9 => c_X9_draw _ _ _ _ hq9) (fun q4 _ => ?_)
  refine j_istore_n (pc := 6) (lv' := [(1, .int q4.2), (0, .ref v0)]) rfl (by decide) rfl dX9_drawAct_6 ?_
  refine j_aload_n (pc := 7) (p := 1) rfl rfl dX9_drawAct_7 ?_
  refine j_iconst (pc := 8) ki_3 dX9_drawAct_8 ?_
  refine j_cVi (pc := 9) Y_X9_draw (ci := 8) (b := v0) rfl rfl ml_X9_379 im_X9_draw se_X9_draw ⟨Nat.le_of_ble_eq_true rfl, Nat.le_of_ble_eq_true rfl⟩ dX9_drawAct_9 (As := [.int (3)]) (rest := []) rfl rfl (Nat.le_of_ble_eq_true rfl) (fun x hq9 => c_X9_draw _ _ _ _ hq9) (fun q5 _ => ?_)
  refine j_istore_n (pc := 12) (lv' := [(2, .int q5.2), (1, .int q4.2), (0, .ref v0)]) rfl (by decide) rfl dX9_drawAct_12 ?_
  refine j_iload_n (pc := 13) (p := 1) rfl rfl dX9_drawAct_13 ?_
  refine j_ite (fun c6 => ?_) (fun c6 => ?_)
  · refine j_tsI (pc := 14) (y := 3) (off := 34) (tgt := 48) dX9_drawAct_14 c6 ⟨by decide, by decide, by decide⟩ (by decide) ?_
    refine j_aload_n (pc := 48) (p := 2) rfl rfl dX9_drawAct_48 ?_
    refine j_getR (pc := 49) FI_X9 (k := 1) (by decide) fl_X9_16 dX9_drawAct_49 (fun x7 _ => ?_)
    refine j_iload_n (pc := 52) (p := 0) rfl rfl dX9_drawAct_52 ?_
    refine j_cVi (pc := 53) Y_X8_beat (ci := 7) (b := x7) rfl rfl ml_X9_145 im_X8_beat se_X8_beat ⟨Nat.le_of_ble_eq_true rfl, Nat.le_of_ble_eq_true rfl⟩ dX9_drawAct_53 (As := [.int q5.2]) (rest := []) rfl rfl (Nat.le_of_ble_eq_true rfl) (fun x hq9 => c_X8_beat _ _ _ _ hq9) (fun q8 _ => ?_)
    refine j_pop (pc := 56) rfl dX9_drawAct_56 ?_
    refine j_goto (pc := 57) (tgt := 130) dX9_drawAct_57 (by decide) ?_
    exact j_vret (pc := 130) rfl dX9_drawAct_130
  refine j_ite (fun c9 => ?_) (fun c9 => ?_)
  · refine j_tsI (pc := 14) (y := 4) (off := 46) (tgt := 60) dX9_drawAct_14 c9 ⟨by decide, by decide, by decide⟩ (by decide) ?_
    refine j_sub [2, 0] (lv' := [(0, .ref v0), (2, .int q5.2)]) rfl ?_
    exact jb_X9_drawAct_60 _ _ _
  refine j_ite (fun c10 => ?_) (fun c10 => ?_)
  · refine j_tsI (pc := 14) (y := 5) (off := 46) (tgt := 60) dX9_drawAct_14 c10 ⟨by decide, by decide, by decide⟩ (by decide) ?_
    refine j_sub [2, 0] (lv' := [(0, .ref v0), (2, .int q5.2)]) rfl ?_
    exact jb_X9_drawAct_60 _ _ _
  refine j_ite (fun c11 => ?_) (fun c11 => ?_)
  · refine j_tsI (pc := 14) (y := 6) (off := 63) (tgt := 77) dX9_drawAct_14 c11 ⟨by decide, by decide, by decide⟩ (by decide) ?_
    refine j_aload_n (pc := 77) (p := 2) rfl rfl dX9_drawAct_77 ?_
    refine j_getR (pc := 78) FI_X9 (k := 1) (by decide) fl_X9_16 dX9_drawAct_78 (fun x12 _ => ?_)
    refine j_iload_n (pc := 81) (p := 0) rfl rfl dX9_drawAct_81 ?_
    refine j_cVi (pc := 82) Y_X8_gather (ci := 7) (b := x12) rfl rfl ml_X9_167 im_X8_gather se_X8_gather ⟨Nat.le_of_ble_eq_true rfl, Nat.le_of_ble_eq_true rfl⟩ dX9_drawAct_82 (As := [.int q5.2]) (rest := []) rfl rfl (Nat.le_of_ble_eq_true rfl) (fun x hq9 => c_X8_gather _ _ _ _ hq9) (fun q13 _ => ?_)
    refine j_pop (pc := 85) rfl dX9_drawAct_85 ?_
    refine j_goto (pc := 86) (tgt := 130) dX9_drawAct_86 (by decide) ?_
    exact j_vret (pc := 130) rfl dX9_drawAct_130
  refine j_ite (fun c14 => ?_) (fun c14 => ?_)
  · refine j_tsI (pc := 14) (y := 7) (off := 75) (tgt := 89) dX9_drawAct_14 c14 ⟨by decide, by decide, by decide⟩ (by decide) ?_
    refine j_aload_n (pc := 89) (p := 2) rfl rfl dX9_drawAct_89 ?_
    refine j_getR (pc := 90) FI_X9 (k := 1) (by decide) fl_X9_16 dX9_drawAct_90 (fun x15 _ => ?_)
    refine j_iload_n (pc := 93) (p := 0) rfl rfl dX9_drawAct_93 ?_
    refine j_cVi (pc := 94) Y_X8_cut (ci := 7) (b := x15) rfl rfl ml_X9_173 im_X8_cut se_X8_cut ⟨Nat.le_of_ble_eq_true rfl, Nat.le_of_ble_eq_true rfl⟩ dX9_drawAct_94 (As := [.int q5.2]) (rest := []) rfl rfl (Nat.le_of_ble_eq_true rfl) (fun x hq9 => c_X8_cut _ _ _ _ hq9) (fun q16 _ => ?_)
    refine j_pop (pc := 97) rfl dX9_drawAct_97 ?_
    refine j_goto (pc := 98) (tgt := 130) dX9_drawAct_98 (by decide) ?_
    exact j_vret (pc := 130) rfl dX9_drawAct_130
  refine j_tsO (pc := 14) (tgt := 101) dX9_drawAct_14 (by have a_c6 := lv_neT c6 (show ((3 : Int32)).toInt = 3 by decide); have a_c9 := lv_neT c9 (show ((4 : Int32)).toInt = 4 by decide); have a_c10 := lv_neT c10 (show ((5 : Int32)).toInt = 5 by decide); have a_c11 := lv_neT c11 (show ((6 : Int32)).toInt = 6 by decide); have a_c14 := lv_neT c14 (show ((7 : Int32)).toInt = 7 by decide); omega) (by decide) ?_
  refine j_aload_n (pc := 101) (p := 2) rfl rfl dX9_drawAct_101 ?_
  refine j_getR (pc := 102) FI_X9 (k := 1) (by decide) fl_X9_16 dX9_drawAct_102 (fun x17 _ => ?_)
  refine j_iload_n (pc := 105) (p := 0) rfl rfl dX9_drawAct_105 ?_
  refine j_aload_n (pc := 106) (p := 2) rfl rfl dX9_drawAct_106 ?_
  refine j_bipush (pc := 107) kb_12 dX9_drawAct_107 ?_
  refine j_cVi (pc := 109) Y_X9_draw (ci := 8) (b := v0) rfl rfl ml_X9_379 im_X9_draw se_X9_draw ⟨Nat.le_of_ble_eq_true rfl, Nat.le_of_ble_eq_true rfl⟩ dX9_drawAct_109 (As := [.int (12)]) (rest := [.int q5.2, .ref x17]) rfl rfl (Nat.le_of_ble_eq_true rfl) (fun x hq9 => c_X9_draw _ _ _ _ hq9) (fun q18 _ => ?_)
  refine j_iconst (pc := 112) ki_2 dX9_drawAct_112 ?_
  refine j_iadd (pc := 113) dX9_drawAct_113 ?_
  refine j_aload_n (pc := 114) (p := 2) rfl rfl dX9_drawAct_114 ?_
  refine j_bipush (pc := 115) kb_14 dX9_drawAct_115 ?_
  refine j_cVi (pc := 117) Y_X9_draw (ci := 8) (b := v0) rfl rfl ml_X9_379 im_X9_draw se_X9_draw ⟨Nat.le_of_ble_eq_true rfl, Nat.le_of_ble_eq_true rfl⟩ dX9_drawAct_117 (As := [.int (14)]) (rest := [.int (q18.2 + (2)), .int q5.2, .ref x17]) rfl rfl (Nat.le_of_ble_eq_true rfl) (fun x hq9 => c_X9_draw _ _ _ _ hq9) (fun q19 _ => ?_)
  refine j_aload_n (pc := 120) (p := 2) rfl rfl dX9_drawAct_120 ?_
  refine j_bipush (pc := 121) kb_10 dX9_drawAct_121 ?_
  refine j_cVi (pc := 123) Y_X9_draw (ci := 8) (b := v0) rfl rfl ml_X9_379 im_X9_draw se_X9_draw ⟨Nat.le_of_ble_eq_true rfl, Nat.le_of_ble_eq_true rfl⟩ dX9_drawAct_123 (As := [.int (10)]) (rest := [.int q19.2, .int (q18.2 + (2)), .int q5.2, .ref x17]) rfl rfl (Nat.le_of_ble_eq_true rfl) (fun x hq9 => c_X9_draw _ _ _ _ hq9) (fun q20 _ => ?_)
  refine j_cVi (pc := 126) Y_X8_make (ci := 7) (b := x17) rfl rfl ml_X9_136 im_X8_make se_X8_make ⟨Nat.le_of_ble_eq_true rfl, Nat.le_of_ble_eq_true rfl⟩ dX9_drawAct_126 (As := [.int q5.2, .int (q18.2 + (2)), .int q19.2, .int q20.2]) (rest := []) rfl rfl (Nat.le_of_ble_eq_true rfl) (fun x hq9 => c_X8_make _ _ _ _ _ _ _ hq9) (fun q21 _ => ?_)
  refine j_pop (pc := 129) rfl dX9_drawAct_129 ?_
  exact j_vret (pc := 130) rfl dX9_drawAct_130
set_option maxRecDepth 20000 in
set_option maxHeartbeats 1000000 in
theorem c_X9_drawAct {G : q_G} {l : Launch} : ∀ (h : q_H) (a0 : Nat) (q : q_H × Unit), f_X9_drawAct h a0 = some q → (∃ fs, h.1 a0 = .inr (8, fs)) ∧ q_CT G l yX9_drawAct cX9_drawAct 3 none 5 156 [.ref a0] h q.1 (q_u q.2) := by
  intro h a0 q e
  obtain ⟨e1, e2⟩ := q_chk_ok e
  exact ⟨e1, q_ofJ Y_X9_drawAct (Nat.le_of_ble_eq_true rfl) (jb_X9_drawAct_0 h a0) q e2⟩
/-! FarFolders.end(I)Z -/
theorem dX9_end_0 : decode cX9_end 0 = .ok (.aload_n 0, 1) := by decide +kernel
theorem dX9_end_1 : decode cX9_end 1 = .ok (.getfield 37, 3) := by decide +kernel
theorem dX9_end_4 : decode cX9_end 4 = .ok (.iload_n 1, 1) := by decide +kernel
theorem dX9_end_5 : decode cX9_end 5 = .ok (.invokevirtual 70, 3) := by decide +kernel
theorem dX9_end_8 : decode cX9_end 8 = .ok (.ireturn, 1) := by decide +kernel
def b_X9_end_0 (h : q_H) (v0 : Nat) (v1 : Int32) : Option (q_H × Int32) :=
  Option.bind (q_gR 8 5 h v0) (fun x1 => Option.bind (f_X6_keepFirst h x1 v1) (fun q2 => some (q2.1, vp_nar .boolean q2.2)))
def f_X9_end (h : q_H) (a0 : Nat) (a1 : Int32) : Option (q_H × Int32) := q_chk 8 h a0 (b_X9_end_0 h a0 a1)
set_option maxRecDepth 20000 in
set_option maxHeartbeats 1000000 in
theorem jb_X9_end_0 {G : q_G} {l : Launch} {k0 z0 : Nat} (h : q_H) (v0 : Nat) (v1 : Int32) : q_J G l (RX9, cX9_end, 2, 1, 21, (some .boolean), "end", []) k0 z0 (q_Z G k0 z0 q_i) 0 [(0, .ref v0), (1, .int v1)] [] h (b_X9_end_0 h v0 v1) := by
  unfold b_X9_end_0
  refine j_aload_n (pc := 0) (p := 0) rfl rfl dX9_end_0 ?_
  refine j_getR (pc := 1) FI_X9 (k := 5) (by decide) fl_X9_37 dX9_end_1 (fun x1 _ => ?_)
  refine j_iload_n (pc := 4) (p := 1) rfl rfl dX9_end_4 ?_
  refine j_cVi (pc := 5) Y_X6_keepFirst (ci := 5) (b := x1) rfl rfl ml_X9_70 im_X6_keepFirst se_X6_keepFirst ⟨Nat.le_of_ble_eq_true rfl, Nat.le_of_ble_eq_true rfl⟩ dX9_end_5 (As := [.int v1]) (rest := []) rfl rfl (Nat.le_of_ble_eq_true rfl) (fun x hq9 => c_X6_keepFirst _ _ _ _ hq9) (fun q2 _ => ?_)
  exact j_zret (pc := 8) rfl (q_narz _) dX9_end_8
set_option maxRecDepth 20000 in
set_option maxHeartbeats 1000000 in
theorem c_X9_end {G : q_G} {l : Launch} : ∀ (h : q_H) (a0 : Nat) (a1 : Int32) (q : q_H × Int32), f_X9_end h a0 a1 = some q → (∃ fs, h.1 a0 = .inr (8, fs)) ∧ q_CT G l yX9_end cX9_end 2 (some .boolean) 1 21 [.ref a0, .int a1] h q.1 (q_i q.2) := by
  intro h a0 a1 q e
  obtain ⟨e1, e2⟩ := q_chk_ok e
  exact ⟨e1, q_ofJ Y_X9_end (Nat.le_of_ble_eq_true rfl) (jb_X9_end_0 h a0 a1) q e2⟩
/-! FarFolders.firstStep()I -/
theorem dX9_firstStep_0 : decode cX9_firstStep 0 = .ok (.aload_n 0, 1) := by decide +kernel
theorem dX9_firstStep_1 : decode cX9_firstStep 1 = .ok (.getfield 37, 3) := by decide +kernel
theorem dX9_firstStep_4 : decode cX9_firstStep 4 = .ok (.iconst 0, 1) := by decide +kernel
theorem dX9_firstStep_5 : decode cX9_firstStep 5 = .ok (.invokevirtual 186, 3) := by decide +kernel
theorem dX9_firstStep_8 : decode cX9_firstStep 8 = .ok (.bipush 126, 2) := by decide +kernel
theorem dX9_firstStep_10 : decode cX9_firstStep 10 = .ok (.if_icmp .ne 7, 3) := by decide +kernel
theorem dX9_firstStep_13 : decode cX9_firstStep 13 = .ok (.iconst 1, 1) := by decide +kernel
theorem dX9_firstStep_14 : decode cX9_firstStep 14 = .ok (.goto 4, 3) := by decide +kernel
theorem dX9_firstStep_17 : decode cX9_firstStep 17 = .ok (.iconst 0, 1) := by decide +kernel
theorem dX9_firstStep_18 : decode cX9_firstStep 18 = .ok (.ireturn, 1) := by decide +kernel
def b_X9_firstStep_0 (h : q_H) (v0 : Nat) : Option (q_H × Int32) :=
  Option.bind (q_gR 8 5 h v0) (fun x1 => Option.bind (f_X6_at h x1 (0)) (fun q2 => if q2.2 = (126) then some (q2.1, (1)) else some (q2.1, (0))))
def f_X9_firstStep (h : q_H) (a0 : Nat) : Option (q_H × Int32) := q_chk 8 h a0 (b_X9_firstStep_0 h a0)
set_option maxRecDepth 20000 in
set_option maxHeartbeats 1000000 in
theorem jb_X9_firstStep_0 {G : q_G} {l : Launch} {k0 z0 : Nat} (h : q_H) (v0 : Nat) : q_J G l (RX9, cX9_firstStep, 1, 1, 21, (some .int), "firstStep", []) k0 z0 (q_Z G k0 z0 q_i) 0 [(0, .ref v0)] [] h (b_X9_firstStep_0 h v0) := by
  unfold b_X9_firstStep_0
  refine j_aload_n (pc := 0) (p := 0) rfl rfl dX9_firstStep_0 ?_
  refine j_getR (pc := 1) FI_X9 (k := 5) (by decide) fl_X9_37 dX9_firstStep_1 (fun x1 _ => ?_)
  refine j_iconst (pc := 4) ki_0 dX9_firstStep_4 ?_
  refine j_cVi (pc := 5) Y_X6_at (ci := 5) (b := x1) rfl rfl ml_X9_186 im_X6_at se_X6_at ⟨Nat.le_of_ble_eq_true rfl, Nat.le_of_ble_eq_true rfl⟩ dX9_firstStep_5 (As := [.int (0)]) (rest := []) rfl rfl (Nat.le_of_ble_eq_true rfl) (fun x hq9 => c_X6_at _ _ _ _ hq9) (fun q2 _ => ?_)
  refine j_bipush (pc := 8) kb_126 dX9_firstStep_8 ?_
  refine j_ic_ne (pc := 10) (tgt := 17) dX9_firstStep_10 (by decide) (fun _ => ?_) (fun _ => ?_)
  · refine j_iconst (pc := 13) ki_1 dX9_firstStep_13 ?_
    refine j_goto (pc := 14) (tgt := 18) dX9_firstStep_14 (by decide) ?_
    exact j_iret (pc := 18) rfl dX9_firstStep_18
  refine j_iconst (pc := 17) ki_0 dX9_firstStep_17 ?_
  exact j_iret (pc := 18) rfl dX9_firstStep_18
set_option maxRecDepth 20000 in
set_option maxHeartbeats 1000000 in
theorem c_X9_firstStep {G : q_G} {l : Launch} : ∀ (h : q_H) (a0 : Nat) (q : q_H × Int32), f_X9_firstStep h a0 = some q → (∃ fs, h.1 a0 = .inr (8, fs)) ∧ q_CT G l yX9_firstStep cX9_firstStep 1 (some .int) 1 21 [.ref a0] h q.1 (q_i q.2) := by
  intro h a0 q e
  obtain ⟨e1, e2⟩ := q_chk_ok e
  exact ⟨e1, q_ofJ Y_X9_firstStep (Nat.le_of_ble_eq_true rfl) (jb_X9_firstStep_0 h a0) q e2⟩
/-! FarFolders.wrongSignOfPath()I -/
theorem dX9_wrongSignOfPath_0 : decode cX9_wrongSignOfPath 0 = .ok (.aload_n 0, 1) := by decide +kernel
theorem dX9_wrongSignOfPath_1 : decode cX9_wrongSignOfPath 1 = .ok (.invokevirtual 352, 3) := by decide +kernel
theorem dX9_wrongSignOfPath_4 : decode cX9_wrongSignOfPath 4 = .ok (.istore_n 1, 1) := by decide +kernel
theorem dX9_wrongSignOfPath_5 : decode cX9_wrongSignOfPath 5 = .ok (.iconst 0, 1) := by decide +kernel
theorem dX9_wrongSignOfPath_6 : decode cX9_wrongSignOfPath 6 = .ok (.istore_n 2, 1) := by decide +kernel
theorem dX9_wrongSignOfPath_7 : decode cX9_wrongSignOfPath 7 = .ok (.iload_n 1, 1) := by decide +kernel
theorem dX9_wrongSignOfPath_8 : decode cX9_wrongSignOfPath 8 = .ok (.aload_n 0, 1) := by decide +kernel
theorem dX9_wrongSignOfPath_9 : decode cX9_wrongSignOfPath 9 = .ok (.getfield 37, 3) := by decide +kernel
theorem dX9_wrongSignOfPath_12 : decode cX9_wrongSignOfPath 12 = .ok (.getfield 66, 3) := by decide +kernel
theorem dX9_wrongSignOfPath_15 : decode cX9_wrongSignOfPath 15 = .ok (.if_icmp .ge 31, 3) := by decide +kernel
theorem dX9_wrongSignOfPath_18 : decode cX9_wrongSignOfPath 18 = .ok (.iload_n 2, 1) := by decide +kernel
theorem dX9_wrongSignOfPath_19 : decode cX9_wrongSignOfPath 19 = .ok (.bipush 80, 2) := by decide +kernel
theorem dX9_wrongSignOfPath_21 : decode cX9_wrongSignOfPath 21 = .ok (.if_icmp .ge 25, 3) := by decide +kernel
theorem dX9_wrongSignOfPath_24 : decode cX9_wrongSignOfPath 24 = .ok (.aload_n 0, 1) := by decide +kernel
theorem dX9_wrongSignOfPath_25 : decode cX9_wrongSignOfPath 25 = .ok (.iload_n 1, 1) := by decide +kernel
theorem dX9_wrongSignOfPath_26 : decode cX9_wrongSignOfPath 26 = .ok (.invokevirtual 355, 3) := by decide +kernel
theorem dX9_wrongSignOfPath_29 : decode cX9_wrongSignOfPath 29 = .ok (.istore_n 3, 1) := by decide +kernel
theorem dX9_wrongSignOfPath_30 : decode cX9_wrongSignOfPath 30 = .ok (.iload_n 3, 1) := by decide +kernel
theorem dX9_wrongSignOfPath_31 : decode cX9_wrongSignOfPath 31 = .ok (.ifCond .ge 7, 3) := by decide +kernel
theorem dX9_wrongSignOfPath_34 : decode cX9_wrongSignOfPath 34 = .ok (.iconst (-1), 1) := by decide +kernel
theorem dX9_wrongSignOfPath_35 : decode cX9_wrongSignOfPath 35 = .ok (.iload_n 3, 1) := by decide +kernel
theorem dX9_wrongSignOfPath_36 : decode cX9_wrongSignOfPath 36 = .ok (.isub, 1) := by decide +kernel
theorem dX9_wrongSignOfPath_37 : decode cX9_wrongSignOfPath 37 = .ok (.ireturn, 1) := by decide +kernel
theorem dX9_wrongSignOfPath_38 : decode cX9_wrongSignOfPath 38 = .ok (.iload_n 3, 1) := by decide +kernel
theorem dX9_wrongSignOfPath_39 : decode cX9_wrongSignOfPath 39 = .ok (.istore_n 1, 1) := by decide +kernel
theorem dX9_wrongSignOfPath_40 : decode cX9_wrongSignOfPath 40 = .ok (.iinc 2 1, 3) := by decide +kernel
theorem dX9_wrongSignOfPath_43 : decode cX9_wrongSignOfPath 43 = .ok (.goto (-36), 3) := by decide +kernel
theorem dX9_wrongSignOfPath_46 : decode cX9_wrongSignOfPath 46 = .ok (.iconst (-1), 1) := by decide +kernel
theorem dX9_wrongSignOfPath_47 : decode cX9_wrongSignOfPath 47 = .ok (.ireturn, 1) := by decide +kernel
def b_X9_wrongSignOfPath_7 (k7 : q_H → Nat → Int32 → Int32 → Option (q_H × Int32)) (h : q_H) (v0 : Nat) (v1 : Int32) (v2 : Int32) : Option (q_H × Int32) :=
  Option.bind (q_gR 8 5 h v0) (fun x1 => Option.bind (q_gI 5 1 h x1) (fun x2 => if x2 ≤ v1 then some (h, (-1)) else if (80) ≤ v2 then some (h, (-1)) else Option.bind (f_X9_behindStep h v0 v1) (fun q3 => if 0 ≤ q3.2 then k7 q3.1 v0 q3.2 (v2 + 1) else some (q3.1, ((-1) - q3.2)))))
def l_X9_wrongSignOfPath_7 : Nat → q_H → Nat → Int32 → Int32 → Option (q_H × Int32)
  | 0, _, _, _, _ => none
  | n + 1, h, v0, v1, v2 => b_X9_wrongSignOfPath_7 (l_X9_wrongSignOfPath_7 n) h v0 v1 v2
def b_X9_wrongSignOfPath_0 (h : q_H) (v0 : Nat) : Option (q_H × Int32) :=
  Option.bind (f_X9_firstStep h v0) (fun q4 => l_X9_wrongSignOfPath_7 q_FU q4.1 v0 q4.2 (0))
def f_X9_wrongSignOfPath (h : q_H) (a0 : Nat) : Option (q_H × Int32) := q_chk 8 h a0 (b_X9_wrongSignOfPath_0 h a0)
set_option maxRecDepth 20000 in
set_option maxHeartbeats 1000000 in
theorem jb_X9_wrongSignOfPath_7 {G : q_G} {l : Launch} {k0 z0 : Nat} (k7 : q_H → Nat → Int32 → Int32 → Option (q_H × Int32)) (hk7 : ∀ (h : q_H) (v0 : Nat) (v1 : Int32) (v2 : Int32), q_J G l (RX9, cX9_wrongSignOfPath, 4, 3, 63, (some .int), "wrongSignOfPath", []) k0 z0 (q_Z G k0 z0 q_i) 7 [(0, .ref v0), (1, .int v1), (2, .int v2)] [] h (k7 h v0 v1 v2)) (h : q_H) (v0 : Nat) (v1 : Int32) (v2 : Int32) : q_J G l (RX9, cX9_wrongSignOfPath, 4, 3, 63, (some .int), "wrongSignOfPath", []) k0 z0 (q_Z G k0 z0 q_i) 7 [(0, .ref v0), (1, .int v1), (2, .int v2)] [] h (b_X9_wrongSignOfPath_7 k7 h v0 v1 v2) := by
  unfold b_X9_wrongSignOfPath_7
  refine j_iload_n (pc := 7) (p := 1) rfl rfl dX9_wrongSignOfPath_7 ?_
  refine j_aload_n (pc := 8) (p := 0) rfl rfl dX9_wrongSignOfPath_8 ?_
  refine j_getR (pc := 9) FI_X9 (k := 5) (by decide) fl_X9_37 dX9_wrongSignOfPath_9 (fun x1 _ => ?_)
  refine j_getI (pc := 12) FI_X6 (k := 1) (by decide) fl_X9_66 dX9_wrongSignOfPath_12 (fun x2 _ => ?_)
  refine j_ic_ge (pc := 15) (tgt := 46) dX9_wrongSignOfPath_15 (by decide) (fun _ => ?_) (fun _ => ?_)
  · refine j_iconst (pc := 46) ki_m1 dX9_wrongSignOfPath_46 ?_
    exact j_iret (pc := 47) rfl dX9_wrongSignOfPath_47
  refine j_iload_n (pc := 18) (p := 2) rfl rfl dX9_wrongSignOfPath_18 ?_
  refine j_bipush (pc := 19) kb_80 dX9_wrongSignOfPath_19 ?_
  refine j_ic_ge (pc := 21) (tgt := 46) dX9_wrongSignOfPath_21 (by decide) (fun _ => ?_) (fun _ => ?_)
  · refine j_iconst (pc := 46) ki_m1 dX9_wrongSignOfPath_46 ?_
    exact j_iret (pc := 47) rfl dX9_wrongSignOfPath_47
  refine j_aload_n (pc := 24) (p := 0) rfl rfl dX9_wrongSignOfPath_24 ?_
  refine j_iload_n (pc := 25) (p := 1) rfl rfl dX9_wrongSignOfPath_25 ?_
  refine j_cVi (pc := 26) Y_X9_behindStep (ci := 8) (b := v0) rfl rfl ml_X9_355 im_X9_behindStep se_X9_behindStep ⟨Nat.le_of_ble_eq_true rfl, Nat.le_of_ble_eq_true rfl⟩ dX9_wrongSignOfPath_26 (As := [.int v1]) (rest := []) rfl rfl (Nat.le_of_ble_eq_true rfl) (fun x hq9 => c_X9_behindStep _ _ _ _ hq9) (fun q3 _ => ?_)
  refine j_istore_n (pc := 29) (lv' := [(3, .int q3.2), (0, .ref v0), (1, .int v1), (2, .int v2)]) rfl (by decide) rfl dX9_wrongSignOfPath_29 ?_
  refine j_iload_n (pc := 30) (p := 0) rfl rfl dX9_wrongSignOfPath_30 ?_
  refine j_if_ge (pc := 31) (tgt := 38) dX9_wrongSignOfPath_31 (by decide) (fun _ => ?_) (fun _ => ?_)
  · refine j_iload_n (pc := 38) (p := 0) rfl rfl dX9_wrongSignOfPath_38 ?_
    refine j_istore_n (pc := 39) (lv' := [(1, .int q3.2), (3, .int q3.2), (0, .ref v0), (2, .int v2)]) rfl (by decide) rfl dX9_wrongSignOfPath_39 ?_
    refine j_inc (pc := 40) (p := 3) (lv' := [(2, .int (v2 + 1)), (1, .int q3.2), (3, .int q3.2), (0, .ref v0)]) rfl ki_1 (by decide) rfl dX9_wrongSignOfPath_40 ?_
    refine j_goto (pc := 43) (tgt := 7) dX9_wrongSignOfPath_43 (by decide) ?_
    refine j_sub [3, 1, 0] (lv' := [(0, .ref v0), (1, .int q3.2), (2, .int (v2 + 1))]) rfl ?_
    exact hk7 _ _ _ _
  refine j_iconst (pc := 34) ki_m1 dX9_wrongSignOfPath_34 ?_
  refine j_iload_n (pc := 35) (p := 0) rfl rfl dX9_wrongSignOfPath_35 ?_
  refine j_isub (pc := 36) dX9_wrongSignOfPath_36 ?_
  exact j_iret (pc := 37) rfl dX9_wrongSignOfPath_37
set_option maxRecDepth 20000 in
set_option maxHeartbeats 1000000 in
theorem jl_X9_wrongSignOfPath_7 {G : q_G} {l : Launch} {k0 z0 : Nat} (n : Nat) : ∀ (h : q_H) (v0 : Nat) (v1 : Int32) (v2 : Int32), q_J G l (RX9, cX9_wrongSignOfPath, 4, 3, 63, (some .int), "wrongSignOfPath", []) k0 z0 (q_Z G k0 z0 q_i) 7 [(0, .ref v0), (1, .int v1), (2, .int v2)] [] h (l_X9_wrongSignOfPath_7 n h v0 v1 v2) := by
  induction n with
  | zero => intro h v0 v1 v2; exact j_none
  | succ n ih => intro h v0 v1 v2; exact jb_X9_wrongSignOfPath_7 (l_X9_wrongSignOfPath_7 n) ih h v0 v1 v2
set_option maxRecDepth 20000 in
set_option maxHeartbeats 1000000 in
theorem jb_X9_wrongSignOfPath_0 {G : q_G} {l : Launch} {k0 z0 : Nat} (h : q_H) (v0 : Nat) : q_J G l (RX9, cX9_wrongSignOfPath, 4, 3, 63, (some .int), "wrongSignOfPath", []) k0 z0 (q_Z G k0 z0 q_i) 0 [(0, .ref v0)] [] h (b_X9_wrongSignOfPath_0 h v0) := by
  unfold b_X9_wrongSignOfPath_0
  refine j_aload_n (pc := 0) (p := 0) rfl rfl dX9_wrongSignOfPath_0 ?_
  refine j_cVi (pc := 1) Y_X9_firstStep (ci := 8) (b := v0) rfl rfl ml_X9_352 im_X9_firstStep se_X9_firstStep ⟨Nat.le_of_ble_eq_true rfl, Nat.le_of_ble_eq_true rfl⟩ dX9_wrongSignOfPath_1 (As := []) (rest := []) rfl rfl (Nat.le_of_ble_eq_true rfl) (fun x hq9 => c_X9_firstStep _ _ _ hq9) (fun q4 _ => ?_)
  refine j_istore_n (pc := 4) (lv' := [(1, .int q4.2), (0, .ref v0)]) rfl (by decide) rfl dX9_wrongSignOfPath_4 ?_
  refine j_iconst (pc := 5) ki_0 dX9_wrongSignOfPath_5 ?_
  refine j_istore_n (pc := 6) (lv' := [(2, .int (0)), (1, .int q4.2), (0, .ref v0)]) rfl (by decide) rfl dX9_wrongSignOfPath_6 ?_
  refine j_sub [2, 1, 0] (lv' := [(0, .ref v0), (1, .int q4.2), (2, .int (0))]) rfl ?_
  exact jl_X9_wrongSignOfPath_7 q_FU _ _ _ _
set_option maxRecDepth 20000 in
set_option maxHeartbeats 1000000 in
theorem c_X9_wrongSignOfPath {G : q_G} {l : Launch} : ∀ (h : q_H) (a0 : Nat) (q : q_H × Int32), f_X9_wrongSignOfPath h a0 = some q → (∃ fs, h.1 a0 = .inr (8, fs)) ∧ q_CT G l yX9_wrongSignOfPath cX9_wrongSignOfPath 4 (some .int) 3 63 [.ref a0] h q.1 (q_i q.2) := by
  intro h a0 q e
  obtain ⟨e1, e2⟩ := q_chk_ok e
  exact ⟨e1, q_ofJ Y_X9_wrongSignOfPath (Nat.le_of_ble_eq_true rfl) (jb_X9_wrongSignOfPath_0 h a0) q e2⟩
/-! FarFolders.nodeAtPath(LFarFolders$Tree;)I -/
theorem dX9_nodeAtPath_0 : decode cX9_nodeAtPath 0 = .ok (.aload_n 0, 1) := by decide +kernel
theorem dX9_nodeAtPath_1 : decode cX9_nodeAtPath 1 = .ok (.getfield 37, 3) := by decide +kernel
theorem dX9_nodeAtPath_4 : decode cX9_nodeAtPath 4 = .ok (.iconst 0, 1) := by decide +kernel
theorem dX9_nodeAtPath_5 : decode cX9_nodeAtPath 5 = .ok (.invokevirtual 186, 3) := by decide +kernel
theorem dX9_nodeAtPath_8 : decode cX9_nodeAtPath 8 = .ok (.bipush 126, 2) := by decide +kernel
theorem dX9_nodeAtPath_10 : decode cX9_nodeAtPath 10 = .ok (.if_icmp .ne 7, 3) := by decide +kernel
theorem dX9_nodeAtPath_13 : decode cX9_nodeAtPath 13 = .ok (.iconst 1, 1) := by decide +kernel
theorem dX9_nodeAtPath_14 : decode cX9_nodeAtPath 14 = .ok (.goto 4, 3) := by decide +kernel
theorem dX9_nodeAtPath_17 : decode cX9_nodeAtPath 17 = .ok (.iconst 0, 1) := by decide +kernel
theorem dX9_nodeAtPath_18 : decode cX9_nodeAtPath 18 = .ok (.istore_n 2, 1) := by decide +kernel
theorem dX9_nodeAtPath_19 : decode cX9_nodeAtPath 19 = .ok (.aload_n 0, 1) := by decide +kernel
theorem dX9_nodeAtPath_20 : decode cX9_nodeAtPath 20 = .ok (.invokevirtual 352, 3) := by decide +kernel
theorem dX9_nodeAtPath_23 : decode cX9_nodeAtPath 23 = .ok (.istore_n 3, 1) := by decide +kernel
theorem dX9_nodeAtPath_24 : decode cX9_nodeAtPath 24 = .ok (.iload_n 3, 1) := by decide +kernel
theorem dX9_nodeAtPath_25 : decode cX9_nodeAtPath 25 = .ok (.aload_n 0, 1) := by decide +kernel
theorem dX9_nodeAtPath_26 : decode cX9_nodeAtPath 26 = .ok (.getfield 37, 3) := by decide +kernel
theorem dX9_nodeAtPath_29 : decode cX9_nodeAtPath 29 = .ok (.getfield 66, 3) := by decide +kernel
theorem dX9_nodeAtPath_32 : decode cX9_nodeAtPath 32 = .ok (.if_icmp .ge 57, 3) := by decide +kernel
theorem dX9_nodeAtPath_35 : decode cX9_nodeAtPath 35 = .ok (.iload_n 2, 1) := by decide +kernel
theorem dX9_nodeAtPath_36 : decode cX9_nodeAtPath 36 = .ok (.ifCond .lt 53, 3) := by decide +kernel
theorem dX9_nodeAtPath_39 : decode cX9_nodeAtPath 39 = .ok (.aload_n 0, 1) := by decide +kernel
theorem dX9_nodeAtPath_40 : decode cX9_nodeAtPath 40 = .ok (.iload_n 3, 1) := by decide +kernel
theorem dX9_nodeAtPath_41 : decode cX9_nodeAtPath 41 = .ok (.invokevirtual 355, 3) := by decide +kernel
theorem dX9_nodeAtPath_44 : decode cX9_nodeAtPath 44 = .ok (.iload_n 3, 1) := by decide +kernel
theorem dX9_nodeAtPath_45 : decode cX9_nodeAtPath 45 = .ok (.iconst 1, 1) := by decide +kernel
theorem dX9_nodeAtPath_46 : decode cX9_nodeAtPath 46 = .ok (.iadd, 1) := by decide +kernel
theorem dX9_nodeAtPath_47 : decode cX9_nodeAtPath 47 = .ok (.invokestatic 191, 3) := by decide +kernel
theorem dX9_nodeAtPath_50 : decode cX9_nodeAtPath 50 = .ok (.istore 4, 2) := by decide +kernel
theorem dX9_nodeAtPath_52 : decode cX9_nodeAtPath 52 = .ok (.aload_n 1, 1) := by decide +kernel
theorem dX9_nodeAtPath_53 : decode cX9_nodeAtPath 53 = .ok (.iload_n 2, 1) := by decide +kernel
theorem dX9_nodeAtPath_54 : decode cX9_nodeAtPath 54 = .ok (.aload_n 0, 1) := by decide +kernel
theorem dX9_nodeAtPath_55 : decode cX9_nodeAtPath 55 = .ok (.getfield 37, 3) := by decide +kernel
theorem dX9_nodeAtPath_58 : decode cX9_nodeAtPath 58 = .ok (.iload_n 3, 1) := by decide +kernel
theorem dX9_nodeAtPath_59 : decode cX9_nodeAtPath 59 = .ok (.iconst 1, 1) := by decide +kernel
theorem dX9_nodeAtPath_60 : decode cX9_nodeAtPath 60 = .ok (.iadd, 1) := by decide +kernel
theorem dX9_nodeAtPath_61 : decode cX9_nodeAtPath 61 = .ok (.invokevirtual 186, 3) := by decide +kernel
theorem dX9_nodeAtPath_64 : decode cX9_nodeAtPath 64 = .ok (.bipush 48, 2) := by decide +kernel
theorem dX9_nodeAtPath_66 : decode cX9_nodeAtPath 66 = .ok (.isub, 1) := by decide +kernel
theorem dX9_nodeAtPath_67 : decode cX9_nodeAtPath 67 = .ok (.aload_n 0, 1) := by decide +kernel
theorem dX9_nodeAtPath_68 : decode cX9_nodeAtPath 68 = .ok (.getfield 37, 3) := by decide +kernel
theorem dX9_nodeAtPath_71 : decode cX9_nodeAtPath 71 = .ok (.iload_n 3, 1) := by decide +kernel
theorem dX9_nodeAtPath_72 : decode cX9_nodeAtPath 72 = .ok (.iconst 3, 1) := by decide +kernel
theorem dX9_nodeAtPath_73 : decode cX9_nodeAtPath 73 = .ok (.iadd, 1) := by decide +kernel
theorem dX9_nodeAtPath_74 : decode cX9_nodeAtPath 74 = .ok (.iload 4, 2) := by decide +kernel
theorem dX9_nodeAtPath_76 : decode cX9_nodeAtPath 76 = .ok (.invokevirtual 361, 3) := by decide +kernel
theorem dX9_nodeAtPath_79 : decode cX9_nodeAtPath 79 = .ok (.invokevirtual 364, 3) := by decide +kernel
theorem dX9_nodeAtPath_82 : decode cX9_nodeAtPath 82 = .ok (.istore_n 2, 1) := by decide +kernel
theorem dX9_nodeAtPath_83 : decode cX9_nodeAtPath 83 = .ok (.iload 4, 2) := by decide +kernel
theorem dX9_nodeAtPath_85 : decode cX9_nodeAtPath 85 = .ok (.istore_n 3, 1) := by decide +kernel
theorem dX9_nodeAtPath_86 : decode cX9_nodeAtPath 86 = .ok (.goto (-62), 3) := by decide +kernel
theorem dX9_nodeAtPath_89 : decode cX9_nodeAtPath 89 = .ok (.iload_n 2, 1) := by decide +kernel
theorem dX9_nodeAtPath_90 : decode cX9_nodeAtPath 90 = .ok (.ifCond .lt 7, 3) := by decide +kernel
theorem dX9_nodeAtPath_93 : decode cX9_nodeAtPath 93 = .ok (.iload_n 2, 1) := by decide +kernel
theorem dX9_nodeAtPath_94 : decode cX9_nodeAtPath 94 = .ok (.goto 5, 3) := by decide +kernel
theorem dX9_nodeAtPath_97 : decode cX9_nodeAtPath 97 = .ok (.bipush (-100), 2) := by decide +kernel
theorem dX9_nodeAtPath_99 : decode cX9_nodeAtPath 99 = .ok (.ireturn, 1) := by decide +kernel
def b_X9_nodeAtPath_89 (h : q_H) (v2 : Int32) : Option (q_H × Int32) :=
  if v2 < 0 then some (h, (-100)) else some (h, v2)
def b_X9_nodeAtPath_24 (k24 : q_H → Nat → Nat → Int32 → Int32 → Option (q_H × Int32)) (h : q_H) (v0 : Nat) (v1 : Nat) (v2 : Int32) (v3 : Int32) : Option (q_H × Int32) :=
  Option.bind (q_gR 8 5 h v0) (fun x1 => Option.bind (q_gI 5 1 h x1) (fun x2 => if x2 ≤ v3 then b_X9_nodeAtPath_89 h v2 else if v2 < 0 then b_X9_nodeAtPath_89 h v2 else Option.bind (f_X9_behindStep h v0 v3) (fun q3 => Option.bind (q_gR 8 5 q3.1 v0) (fun x4 => Option.bind (f_X6_at q3.1 x4 (v3 + (1))) (fun q5 => Option.bind (q_gR 8 5 q5.1 v0) (fun x6 => Option.bind (f_X6_number q5.1 x6 (v3 + (3)) (q_max q3.2 (v3 + (1)))) (fun q7 => Option.bind (f_X7_childWith q7.1 v1 v2 (q5.2 - (48)) q7.2) (fun q8 => k24 q8.1 v0 v1 q8.2 (q_max q3.2 (v3 + (1)))))))))))
def l_X9_nodeAtPath_24 : Nat → q_H → Nat → Nat → Int32 → Int32 → Option (q_H × Int32)
  | 0, _, _, _, _, _ => none
  | n + 1, h, v0, v1, v2, v3 => b_X9_nodeAtPath_24 (l_X9_nodeAtPath_24 n) h v0 v1 v2 v3
def b_X9_nodeAtPath_18 (h : q_H) (v0 : Nat) (v1 : Nat) (s0 : Int32) : Option (q_H × Int32) :=
  Option.bind (f_X9_firstStep h v0) (fun q9 => l_X9_nodeAtPath_24 q_FU q9.1 v0 v1 s0 q9.2)
def b_X9_nodeAtPath_0 (h : q_H) (v0 : Nat) (v1 : Nat) : Option (q_H × Int32) :=
  Option.bind (q_gR 8 5 h v0) (fun x10 => Option.bind (f_X6_at h x10 (0)) (fun q11 => if q11.2 = (126) then b_X9_nodeAtPath_18 q11.1 v0 v1 (1) else b_X9_nodeAtPath_18 q11.1 v0 v1 (0)))
def f_X9_nodeAtPath (h : q_H) (a0 : Nat) (a1 : Nat) : Option (q_H × Int32) := q_chk 8 h a0 (b_X9_nodeAtPath_0 h a0 a1)
set_option maxRecDepth 20000 in
set_option maxHeartbeats 1000000 in
theorem jb_X9_nodeAtPath_89 {G : q_G} {l : Launch} {k0 z0 : Nat} (h : q_H) (v2 : Int32) : q_J G l (RX9, cX9_nodeAtPath, 5, 4, 92, (some .int), "nodeAtPath", []) k0 z0 (q_Z G k0 z0 q_i) 89 [(2, .int v2)] [] h (b_X9_nodeAtPath_89 h v2) := by
  unfold b_X9_nodeAtPath_89
  refine j_iload_n (pc := 89) (p := 0) rfl rfl dX9_nodeAtPath_89 ?_
  refine j_if_lt (pc := 90) (tgt := 97) dX9_nodeAtPath_90 (by decide) (fun _ => ?_) (fun _ => ?_)
  · refine j_bipush (pc := 97) kb_m100 dX9_nodeAtPath_97 ?_
    exact j_iret (pc := 99) rfl dX9_nodeAtPath_99
  refine j_iload_n (pc := 93) (p := 0) rfl rfl dX9_nodeAtPath_93 ?_
  refine j_goto (pc := 94) (tgt := 99) dX9_nodeAtPath_94 (by decide) ?_
  exact j_iret (pc := 99) rfl dX9_nodeAtPath_99
set_option maxRecDepth 20000 in
set_option maxHeartbeats 1000000 in
theorem jb_X9_nodeAtPath_24 {G : q_G} {l : Launch} {k0 z0 : Nat} (k24 : q_H → Nat → Nat → Int32 → Int32 → Option (q_H × Int32)) (hk24 : ∀ (h : q_H) (v0 : Nat) (v1 : Nat) (v2 : Int32) (v3 : Int32), q_J G l (RX9, cX9_nodeAtPath, 5, 4, 92, (some .int), "nodeAtPath", []) k0 z0 (q_Z G k0 z0 q_i) 24 [(0, .ref v0), (1, .ref v1), (2, .int v2), (3, .int v3)] [] h (k24 h v0 v1 v2 v3)) (h : q_H) (v0 : Nat) (v1 : Nat) (v2 : Int32) (v3 : Int32) : q_J G l (RX9, cX9_nodeAtPath, 5, 4, 92, (some .int), "nodeAtPath", []) k0 z0 (q_Z G k0 z0 q_i) 24 [(0, .ref v0), (1, .ref v1), (2, .int v2), (3, .int v3)] [] h (b_X9_nodeAtPath_24 k24 h v0 v1 v2 v3) := by
  unfold b_X9_nodeAtPath_24
  refine j_iload_n (pc := 24) (p := 3) rfl rfl dX9_nodeAtPath_24 ?_
  refine j_aload_n (pc := 25) (p := 0) rfl rfl dX9_nodeAtPath_25 ?_
  refine j_getR (pc := 26) FI_X9 (k := 5) (by decide) fl_X9_37 dX9_nodeAtPath_26 (fun x1 _ => ?_)
  refine j_getI (pc := 29) FI_X6 (k := 1) (by decide) fl_X9_66 dX9_nodeAtPath_29 (fun x2 _ => ?_)
  refine j_ic_ge (pc := 32) (tgt := 89) dX9_nodeAtPath_32 (by decide) (fun _ => ?_) (fun _ => ?_)
  · refine j_sub [2] (lv' := [(2, .int v2)]) rfl ?_
    exact jb_X9_nodeAtPath_89 _ _
  refine j_iload_n (pc := 35) (p := 2) rfl rfl dX9_nodeAtPath_35 ?_
  refine j_if_lt (pc := 36) (tgt := 89) dX9_nodeAtPath_36 (by decide) (fun _ => ?_) (fun _ => ?_)
  · refine j_sub [2] (lv' := [(2, .int v2)]) rfl ?_
    exact jb_X9_nodeAtPath_89 _ _
  refine j_aload_n (pc := 39) (p := 0) rfl rfl dX9_nodeAtPath_39 ?_
  refine j_iload_n (pc := 40) (p := 3) rfl rfl dX9_nodeAtPath_40 ?_
  refine j_cVi (pc := 41) Y_X9_behindStep (ci := 8) (b := v0) rfl rfl ml_X9_355 im_X9_behindStep se_X9_behindStep ⟨Nat.le_of_ble_eq_true rfl, Nat.le_of_ble_eq_true rfl⟩ dX9_nodeAtPath_41 (As := [.int v3]) (rest := []) rfl rfl (Nat.le_of_ble_eq_true rfl) (fun x hq9 => c_X9_behindStep _ _ _ _ hq9) (fun q3 _ => ?_)
  refine j_iload_n (pc := 44) (p := 3) rfl rfl dX9_nodeAtPath_44 ?_
  refine j_iconst (pc := 45) ki_1 dX9_nodeAtPath_45 ?_
  refine j_iadd (pc := 46) dX9_nodeAtPath_46 ?_
  refine j_max (pc := 47) ml_X9_191 sm_max ini_Math co_max ⟨Nat.le_of_ble_eq_true rfl, Nat.le_of_ble_eq_true rfl⟩ dX9_nodeAtPath_47 ?_
  refine j_istore (pc := 50) (lv' := [(4, .int (q_max q3.2 (v3 + (1)))), (0, .ref v0), (1, .ref v1), (2, .int v2), (3, .int v3)]) (by decide) rfl dX9_nodeAtPath_50 ?_
  refine j_aload_n (pc := 52) (p := 2) rfl rfl dX9_nodeAtPath_52 ?_
  refine j_iload_n (pc := 53) (p := 3) rfl rfl dX9_nodeAtPath_53 ?_
  refine j_aload_n (pc := 54) (p := 1) rfl rfl dX9_nodeAtPath_54 ?_
  refine j_getR (pc := 55) FI_X9 (k := 5) (by decide) fl_X9_37 dX9_nodeAtPath_55 (fun x4 _ => ?_)
  refine j_iload_n (pc := 58) (p := 4) rfl rfl dX9_nodeAtPath_58 ?_
  refine j_iconst (pc := 59) ki_1 dX9_nodeAtPath_59 ?_
  refine j_iadd (pc := 60) dX9_nodeAtPath_60 ?_
  refine j_cVi (pc := 61) Y_X6_at (ci := 5) (b := x4) rfl rfl ml_X9_186 im_X6_at se_X6_at ⟨Nat.le_of_ble_eq_true rfl, Nat.le_of_ble_eq_true rfl⟩ dX9_nodeAtPath_61 (As := [.int (v3 + (1))]) (rest := [.int v2, .ref v1]) rfl rfl (Nat.le_of_ble_eq_true rfl) (fun x hq9 => c_X6_at _ _ _ _ hq9) (fun q5 _ => ?_)
  refine j_bipush (pc := 64) kb_48 dX9_nodeAtPath_64 ?_
  refine j_isub (pc := 66) dX9_nodeAtPath_66 ?_
  refine j_aload_n (pc := 67) (p := 1) rfl rfl dX9_nodeAtPath_67 ?_
  refine j_getR (pc := 68) FI_X9 (k := 5) (by decide) fl_X9_37 dX9_nodeAtPath_68 (fun x6 _ => ?_)
  refine j_iload_n (pc := 71) (p := 4) rfl rfl dX9_nodeAtPath_71 ?_
  refine j_iconst (pc := 72) ki_3 dX9_nodeAtPath_72 ?_
  refine j_iadd (pc := 73) dX9_nodeAtPath_73 ?_
  refine j_iload (pc := 74) (p := 0) rfl dX9_nodeAtPath_74 ?_
  refine j_cVi (pc := 76) Y_X6_number (ci := 5) (b := x6) rfl rfl ml_X9_361 im_X6_number se_X6_number ⟨Nat.le_of_ble_eq_true rfl, Nat.le_of_ble_eq_true rfl⟩ dX9_nodeAtPath_76 (As := [.int (v3 + (3)), .int (q_max q3.2 (v3 + (1)))]) (rest := [.int (q5.2 - (48)), .int v2, .ref v1]) rfl rfl (Nat.le_of_ble_eq_true rfl) (fun x hq9 => c_X6_number _ _ _ _ _ hq9) (fun q7 _ => ?_)
  refine j_cVi (pc := 79) Y_X7_childWith (ci := 6) (b := v1) rfl rfl ml_X9_364 im_X7_childWith se_X7_childWith ⟨Nat.le_of_ble_eq_true rfl, Nat.le_of_ble_eq_true rfl⟩ dX9_nodeAtPath_79 (As := [.int v2, .int (q5.2 - (48)), .int q7.2]) (rest := []) rfl rfl (Nat.le_of_ble_eq_true rfl) (fun x hq9 => c_X7_childWith _ _ _ _ _ _ hq9) (fun q8 _ => ?_)
  refine j_istore_n (pc := 82) (lv' := [(2, .int q8.2), (4, .int (q_max q3.2 (v3 + (1)))), (0, .ref v0), (1, .ref v1), (3, .int v3)]) rfl (by decide) rfl dX9_nodeAtPath_82 ?_
  refine j_iload (pc := 83) (p := 1) rfl dX9_nodeAtPath_83 ?_
  refine j_istore_n (pc := 85) (lv' := [(3, .int (q_max q3.2 (v3 + (1)))), (2, .int q8.2), (4, .int (q_max q3.2 (v3 + (1)))), (0, .ref v0), (1, .ref v1)]) rfl (by decide) rfl dX9_nodeAtPath_85 ?_
  refine j_goto (pc := 86) (tgt := 24) dX9_nodeAtPath_86 (by decide) ?_
  refine j_sub [3, 4, 1, 0] (lv' := [(0, .ref v0), (1, .ref v1), (2, .int q8.2), (3, .int (q_max q3.2 (v3 + (1))))]) rfl ?_
  exact hk24 _ _ _ _ _
set_option maxRecDepth 20000 in
set_option maxHeartbeats 1000000 in
theorem jl_X9_nodeAtPath_24 {G : q_G} {l : Launch} {k0 z0 : Nat} (n : Nat) : ∀ (h : q_H) (v0 : Nat) (v1 : Nat) (v2 : Int32) (v3 : Int32), q_J G l (RX9, cX9_nodeAtPath, 5, 4, 92, (some .int), "nodeAtPath", []) k0 z0 (q_Z G k0 z0 q_i) 24 [(0, .ref v0), (1, .ref v1), (2, .int v2), (3, .int v3)] [] h (l_X9_nodeAtPath_24 n h v0 v1 v2 v3) := by
  induction n with
  | zero => intro h v0 v1 v2 v3; exact j_none
  | succ n ih => intro h v0 v1 v2 v3; exact jb_X9_nodeAtPath_24 (l_X9_nodeAtPath_24 n) ih h v0 v1 v2 v3
set_option maxRecDepth 20000 in
set_option maxHeartbeats 1000000 in
theorem jb_X9_nodeAtPath_18 {G : q_G} {l : Launch} {k0 z0 : Nat} (h : q_H) (v0 : Nat) (v1 : Nat) (s0 : Int32) : q_J G l (RX9, cX9_nodeAtPath, 5, 4, 92, (some .int), "nodeAtPath", []) k0 z0 (q_Z G k0 z0 q_i) 18 [(0, .ref v0), (1, .ref v1)] [.int s0] h (b_X9_nodeAtPath_18 h v0 v1 s0) := by
  unfold b_X9_nodeAtPath_18
  refine j_istore_n (pc := 18) (lv' := [(2, .int s0), (0, .ref v0), (1, .ref v1)]) rfl (by decide) rfl dX9_nodeAtPath_18 ?_
  refine j_aload_n (pc := 19) (p := 1) rfl rfl dX9_nodeAtPath_19 ?_
  refine j_cVi (pc := 20) Y_X9_firstStep (ci := 8) (b := v0) rfl rfl ml_X9_352 im_X9_firstStep se_X9_firstStep ⟨Nat.le_of_ble_eq_true rfl, Nat.le_of_ble_eq_true rfl⟩ dX9_nodeAtPath_20 (As := []) (rest := []) rfl rfl (Nat.le_of_ble_eq_true rfl) (fun x hq9 => c_X9_firstStep _ _ _ hq9) (fun q9 _ => ?_)
  refine j_istore_n (pc := 23) (lv' := [(3, .int q9.2), (2, .int s0), (0, .ref v0), (1, .ref v1)]) rfl (by decide) rfl dX9_nodeAtPath_23 ?_
  refine j_sub [2, 3, 1, 0] (lv' := [(0, .ref v0), (1, .ref v1), (2, .int s0), (3, .int q9.2)]) rfl ?_
  exact jl_X9_nodeAtPath_24 q_FU _ _ _ _ _
set_option maxRecDepth 20000 in
set_option maxHeartbeats 1000000 in
theorem jb_X9_nodeAtPath_0 {G : q_G} {l : Launch} {k0 z0 : Nat} (h : q_H) (v0 : Nat) (v1 : Nat) : q_J G l (RX9, cX9_nodeAtPath, 5, 4, 92, (some .int), "nodeAtPath", []) k0 z0 (q_Z G k0 z0 q_i) 0 [(0, .ref v0), (1, .ref v1)] [] h (b_X9_nodeAtPath_0 h v0 v1) := by
  unfold b_X9_nodeAtPath_0
  refine j_aload_n (pc := 0) (p := 0) rfl rfl dX9_nodeAtPath_0 ?_
  refine j_getR (pc := 1) FI_X9 (k := 5) (by decide) fl_X9_37 dX9_nodeAtPath_1 (fun x10 _ => ?_)
  refine j_iconst (pc := 4) ki_0 dX9_nodeAtPath_4 ?_
  refine j_cVi (pc := 5) Y_X6_at (ci := 5) (b := x10) rfl rfl ml_X9_186 im_X6_at se_X6_at ⟨Nat.le_of_ble_eq_true rfl, Nat.le_of_ble_eq_true rfl⟩ dX9_nodeAtPath_5 (As := [.int (0)]) (rest := []) rfl rfl (Nat.le_of_ble_eq_true rfl) (fun x hq9 => c_X6_at _ _ _ _ hq9) (fun q11 _ => ?_)
  refine j_bipush (pc := 8) kb_126 dX9_nodeAtPath_8 ?_
  refine j_ic_ne (pc := 10) (tgt := 17) dX9_nodeAtPath_10 (by decide) (fun _ => ?_) (fun _ => ?_)
  · refine j_iconst (pc := 13) ki_1 dX9_nodeAtPath_13 ?_
    refine j_goto (pc := 14) (tgt := 18) dX9_nodeAtPath_14 (by decide) ?_
    exact jb_X9_nodeAtPath_18 _ _ _ _
  refine j_iconst (pc := 17) ki_0 dX9_nodeAtPath_17 ?_
  exact jb_X9_nodeAtPath_18 _ _ _ _
set_option maxRecDepth 20000 in
set_option maxHeartbeats 1000000 in
theorem c_X9_nodeAtPath {G : q_G} {l : Launch} : ∀ (h : q_H) (a0 : Nat) (a1 : Nat) (q : q_H × Int32), f_X9_nodeAtPath h a0 a1 = some q → (∃ fs, h.1 a0 = .inr (8, fs)) ∧ q_CT G l yX9_nodeAtPath cX9_nodeAtPath 5 (some .int) 4 92 [.ref a0, .ref a1] h q.1 (q_i q.2) := by
  intro h a0 a1 q e
  obtain ⟨e1, e2⟩ := q_chk_ok e
  exact ⟨e1, q_ofJ Y_X9_nodeAtPath (Nat.le_of_ble_eq_true rfl) (jb_X9_nodeAtPath_0 h a0 a1) q e2⟩
/-! FarFolders.finds(I)I -/
theorem dX9_finds_0 : decode cX9_finds 0 = .ok (.aload_n 0, 1) := by decide +kernel
theorem dX9_finds_1 : decode cX9_finds 1 = .ok (.invokevirtual 259, 3) := by decide +kernel
theorem dX9_finds_4 : decode cX9_finds 4 = .ok (.istore_n 2, 1) := by decide +kernel
theorem dX9_finds_5 : decode cX9_finds 5 = .ok (.iload_n 2, 1) := by decide +kernel
theorem dX9_finds_6 : decode cX9_finds 6 = .ok (.ifCond .lt 10, 3) := by decide +kernel
theorem dX9_finds_9 : decode cX9_finds 9 = .ok (.iconst (-1), 1) := by decide +kernel
theorem dX9_finds_10 : decode cX9_finds 10 = .ok (.iload_n 2, 1) := by decide +kernel
theorem dX9_finds_11 : decode cX9_finds 11 = .ok (.isub, 1) := by decide +kernel
theorem dX9_finds_12 : decode cX9_finds 12 = .ok (.istore_n 3, 1) := by decide +kernel
theorem dX9_finds_13 : decode cX9_finds 13 = .ok (.goto 33, 3) := by decide +kernel
theorem dX9_finds_16 : decode cX9_finds 16 = .ok (.iload_n 1, 1) := by decide +kernel
theorem dX9_finds_17 : decode cX9_finds 17 = .ok (.invokestatic 73, 3) := by decide +kernel
theorem dX9_finds_20 : decode cX9_finds 20 = .ok (.ifCond .ne 9, 3) := by decide +kernel
theorem dX9_finds_23 : decode cX9_finds 23 = .ok (.bipush (-101), 2) := by decide +kernel
theorem dX9_finds_25 : decode cX9_finds 25 = .ok (.istore_n 3, 1) := by decide +kernel
theorem dX9_finds_26 : decode cX9_finds 26 = .ok (.goto 20, 3) := by decide +kernel
theorem dX9_finds_29 : decode cX9_finds 29 = .ok (.aload_n 0, 1) := by decide +kernel
theorem dX9_finds_30 : decode cX9_finds 30 = .ok (.aload_n 0, 1) := by decide +kernel
theorem dX9_finds_31 : decode cX9_finds 31 = .ok (.getfield 12, 3) := by decide +kernel
theorem dX9_finds_34 : decode cX9_finds 34 = .ok (.getfield 82, 3) := by decide +kernel
theorem dX9_finds_37 : decode cX9_finds 37 = .ok (.iload_n 1, 1) := by decide +kernel
theorem dX9_finds_38 : decode cX9_finds 38 = .ok (.aaload, 1) := by decide +kernel
theorem dX9_finds_39 : decode cX9_finds 39 = .ok (.getfield 86, 3) := by decide +kernel
theorem dX9_finds_42 : decode cX9_finds 42 = .ok (.invokevirtual 262, 3) := by decide +kernel
theorem dX9_finds_45 : decode cX9_finds 45 = .ok (.istore_n 3, 1) := by decide +kernel
theorem dX9_finds_46 : decode cX9_finds 46 = .ok (.aload_n 0, 1) := by decide +kernel
theorem dX9_finds_47 : decode cX9_finds 47 = .ok (.getfield 37, 3) := by decide +kernel
theorem dX9_finds_50 : decode cX9_finds 50 = .ok (.invokevirtual 180, 3) := by decide +kernel
theorem dX9_finds_53 : decode cX9_finds 53 = .ok (.iload_n 3, 1) := by decide +kernel
theorem dX9_finds_54 : decode cX9_finds 54 = .ok (.ireturn, 1) := by decide +kernel
def b_X9_finds_46 (h : q_H) (v0 : Nat) (v3 : Int32) : Option (q_H × Int32) :=
  Option.bind (q_gR 8 5 h v0) (fun x1 => Option.bind (f_X6_clear h x1) (fun q2 => some (q2.1, v3)))
def b_X9_finds_0 (h : q_H) (v0 : Nat) (v1 : Int32) : Option (q_H × Int32) :=
  Option.bind (f_X9_wrongSignOfPath h v0) (fun q3 => if q3.2 < 0 then Option.bind (f_X9_isCopy q3.1 v1) (fun q4 => if q4.2 = 0 then b_X9_finds_46 q4.1 v0 (-101) else Option.bind (q_gR 8 0 q4.1 v0) (fun x5 => Option.bind (q_gR 7 0 q4.1 x5) (fun x6 => Option.bind (q_lR 4 q4.1 x6 v1) (fun x7 => Option.bind (q_gR 0 5 q4.1 x7) (fun x8 => Option.bind (f_X9_nodeAtPath q4.1 v0 x8) (fun q9 => b_X9_finds_46 q9.1 v0 q9.2)))))) else b_X9_finds_46 q3.1 v0 ((-1) - q3.2))
def f_X9_finds (h : q_H) (a0 : Nat) (a1 : Int32) : Option (q_H × Int32) := q_chk 8 h a0 (b_X9_finds_0 h a0 a1)
set_option maxRecDepth 20000 in
set_option maxHeartbeats 1000000 in
theorem jb_X9_finds_46 {G : q_G} {l : Launch} {k0 z0 : Nat} (h : q_H) (v0 : Nat) (v3 : Int32) : q_J G l (RX9, cX9_finds, 4, 5, 116, (some .int), "finds", []) k0 z0 (q_Z G k0 z0 q_i) 46 [(0, .ref v0), (3, .int v3)] [] h (b_X9_finds_46 h v0 v3) := by
  unfold b_X9_finds_46
  refine j_aload_n (pc := 46) (p := 0) rfl rfl dX9_finds_46 ?_
  refine j_getR (pc := 47) FI_X9 (k := 5) (by decide) fl_X9_37 dX9_finds_47 (fun x1 _ => ?_)
  refine j_cVu (pc := 50) Y_X6_clear (ci := 5) (b := x1) rfl rfl ml_X9_180 im_X6_clear se_X6_clear ⟨Nat.le_of_ble_eq_true rfl, Nat.le_of_ble_eq_true rfl⟩ dX9_finds_50 (As := []) (rest := []) rfl rfl (Nat.le_of_ble_eq_true rfl) (fun x hq9 => c_X6_clear _ _ _ hq9) (fun q2 _ => ?_)
  refine j_iload_n (pc := 53) (p := 1) rfl rfl dX9_finds_53 ?_
  exact j_iret (pc := 54) rfl dX9_finds_54
set_option maxRecDepth 20000 in
set_option maxHeartbeats 1000000 in
theorem jb_X9_finds_0 {G : q_G} {l : Launch} {k0 z0 : Nat} (h : q_H) (v0 : Nat) (v1 : Int32) : q_J G l (RX9, cX9_finds, 4, 5, 116, (some .int), "finds", []) k0 z0 (q_Z G k0 z0 q_i) 0 [(0, .ref v0), (1, .int v1)] [] h (b_X9_finds_0 h v0 v1) := by
  unfold b_X9_finds_0
  refine j_aload_n (pc := 0) (p := 0) rfl rfl dX9_finds_0 ?_
  refine j_cVi (pc := 1) Y_X9_wrongSignOfPath (ci := 8) (b := v0) rfl rfl ml_X9_259 im_X9_wrongSignOfPath se_X9_wrongSignOfPath ⟨Nat.le_of_ble_eq_true rfl, Nat.le_of_ble_eq_true rfl⟩ dX9_finds_1 (As := []) (rest := []) rfl rfl (Nat.le_of_ble_eq_true rfl) (fun x hq9 => c_X9_wrongSignOfPath _ _ _ hq9) (fun q3 _ => ?_)
  refine j_istore_n (pc := 4) (lv' := [(2, .int q3.2), (0, .ref v0), (1, .int v1)]) rfl (by decide) rfl dX9_finds_4 ?_
  refine j_iload_n (pc := 5) (p := 0) rfl rfl dX9_finds_5 ?_
  refine j_if_lt (pc := 6) (tgt := 16) dX9_finds_6 (by decide) (fun _ => ?_) (fun _ => ?_)
  · refine j_iload_n (pc := 16) (p := 2) rfl rfl dX9_finds_16 ?_
    refine j_cSi (pc := 17) Y_X9_isCopy ml_X9_73 sm_X9_isCopy ⟨Nat.le_of_ble_eq_true rfl, Nat.le_of_ble_eq_true rfl⟩ dX9_finds_17 (As := [.int v1]) (rest := []) rfl rfl (Nat.le_of_ble_eq_true rfl) (fun x hq9 => c_X9_isCopy _ _ _ hq9) (fun q4 _ => ?_)
    refine j_if_ne (pc := 20) (tgt := 29) dX9_finds_20 (by decide) (fun _ => ?_) (fun _ => ?_)
    · refine j_bipush (pc := 23) kb_m101 dX9_finds_23 ?_
      refine j_istore_n (pc := 25) (lv' := [(3, .int (-101)), (2, .int q3.2), (0, .ref v0), (1, .int v1)]) rfl (by decide) rfl dX9_finds_25 ?_
      refine j_goto (pc := 26) (tgt := 46) dX9_finds_26 (by decide) ?_
      refine j_sub [2, 0] (lv' := [(0, .ref v0), (3, .int (-101))]) rfl ?_
      exact jb_X9_finds_46 _ _ _
    refine j_aload_n (pc := 29) (p := 1) rfl rfl dX9_finds_29 ?_
    refine j_aload_n (pc := 30) (p := 1) rfl rfl dX9_finds_30 ?_
    refine j_getR (pc := 31) FI_X9 (k := 0) (by decide) fl_X9_12 dX9_finds_31 (fun x5 _ => ?_)
    refine j_getR (pc := 34) FI_X8 (k := 0) (by decide) fl_X9_82 dX9_finds_34 (fun x6 _ => ?_)
    refine j_iload_n (pc := 37) (p := 2) rfl rfl dX9_finds_37 ?_
    refine j_aald (pc := 38) (t := 4) rfl dX9_finds_38 (fun x7 _ => ?_)
    refine j_getR (pc := 39) FI_X0 (k := 5) (by decide) fl_X9_86 dX9_finds_39 (fun x8 _ => ?_)
    refine j_cVi (pc := 42) Y_X9_nodeAtPath (ci := 8) (b := v0) rfl rfl ml_X9_262 im_X9_nodeAtPath se_X9_nodeAtPath ⟨Nat.le_of_ble_eq_true rfl, Nat.le_of_ble_eq_true rfl⟩ dX9_finds_42 (As := [.ref x8]) (rest := []) rfl rfl (Nat.le_of_ble_eq_true rfl) (fun x hq9 => c_X9_nodeAtPath _ _ _ _ hq9) (fun q9 _ => ?_)
    refine j_istore_n (pc := 45) (lv' := [(3, .int q9.2), (2, .int q3.2), (0, .ref v0), (1, .int v1)]) rfl (by decide) rfl dX9_finds_45 ?_
    refine j_sub [2, 0] (lv' := [(0, .ref v0), (3, .int q9.2)]) rfl ?_
    exact jb_X9_finds_46 _ _ _
  refine j_iconst (pc := 9) ki_m1 dX9_finds_9 ?_
  refine j_iload_n (pc := 10) (p := 0) rfl rfl dX9_finds_10 ?_
  refine j_isub (pc := 11) dX9_finds_11 ?_
  refine j_istore_n (pc := 12) (lv' := [(3, .int ((-1) - q3.2)), (2, .int q3.2), (0, .ref v0), (1, .int v1)]) rfl (by decide) rfl dX9_finds_12 ?_
  refine j_goto (pc := 13) (tgt := 46) dX9_finds_13 (by decide) ?_
  refine j_sub [2, 0] (lv' := [(0, .ref v0), (3, .int ((-1) - q3.2))]) rfl ?_
  exact jb_X9_finds_46 _ _ _
set_option maxRecDepth 20000 in
set_option maxHeartbeats 1000000 in
theorem c_X9_finds {G : q_G} {l : Launch} : ∀ (h : q_H) (a0 : Nat) (a1 : Int32) (q : q_H × Int32), f_X9_finds h a0 a1 = some q → (∃ fs, h.1 a0 = .inr (8, fs)) ∧ q_CT G l yX9_finds cX9_finds 4 (some .int) 5 116 [.ref a0, .int a1] h q.1 (q_i q.2) := by
  intro h a0 a1 q e
  obtain ⟨e1, e2⟩ := q_chk_ok e
  exact ⟨e1, q_ofJ Y_X9_finds (Nat.le_of_ble_eq_true rfl) (jb_X9_finds_0 h a0 a1) q e2⟩
/-! FarFolders.standsAhead(LFarFolders$Tree;III)Z -/
theorem dX9_standsAhead_0 : decode cX9_standsAhead 0 = .ok (.aload_n 0, 1) := by decide +kernel
theorem dX9_standsAhead_1 : decode cX9_standsAhead 1 = .ok (.getfield 94, 3) := by decide +kernel
theorem dX9_standsAhead_4 : decode cX9_standsAhead 4 = .ok (.iload_n 1, 1) := by decide +kernel
theorem dX9_standsAhead_5 : decode cX9_standsAhead 5 = .ok (.laload, 1) := by decide +kernel
theorem dX9_standsAhead_6 : decode cX9_standsAhead 6 = .ok (.lstore 4, 2) := by decide +kernel
theorem dX9_standsAhead_8 : decode cX9_standsAhead 8 = .ok (.aload_n 0, 1) := by decide +kernel
theorem dX9_standsAhead_9 : decode cX9_standsAhead 9 = .ok (.getfield 94, 3) := by decide +kernel
theorem dX9_standsAhead_12 : decode cX9_standsAhead 12 = .ok (.iload_n 2, 1) := by decide +kernel
theorem dX9_standsAhead_13 : decode cX9_standsAhead 13 = .ok (.laload, 1) := by decide +kernel
theorem dX9_standsAhead_14 : decode cX9_standsAhead 14 = .ok (.lstore 6, 2) := by decide +kernel
theorem dX9_standsAhead_16 : decode cX9_standsAhead 16 = .ok (.iload_n 3, 1) := by decide +kernel
theorem dX9_standsAhead_17 : decode cX9_standsAhead 17 = .ok (.tableswitch 114 1 3 #[27, 75, 89], 27) := by decide +kernel
theorem dX9_standsAhead_44 : decode cX9_standsAhead 44 = .ok (.lload 4, 2) := by decide +kernel
theorem dX9_standsAhead_46 : decode cX9_standsAhead 46 = .ok (.invokestatic 104, 3) := by decide +kernel
theorem dX9_standsAhead_49 : decode cX9_standsAhead 49 = .ok (.lload 6, 2) := by decide +kernel
theorem dX9_standsAhead_51 : decode cX9_standsAhead 51 = .ok (.invokestatic 104, 3) := by decide +kernel
theorem dX9_standsAhead_54 : decode cX9_standsAhead 54 = .ok (.if_icmp .ne 19, 3) := by decide +kernel
theorem dX9_standsAhead_57 : decode cX9_standsAhead 57 = .ok (.lload 4, 2) := by decide +kernel
theorem dX9_standsAhead_59 : decode cX9_standsAhead 59 = .ok (.lload 6, 2) := by decide +kernel
theorem dX9_standsAhead_61 : decode cX9_standsAhead 61 = .ok (.lcmp, 1) := by decide +kernel
theorem dX9_standsAhead_62 : decode cX9_standsAhead 62 = .ok (.ifCond .ge 7, 3) := by decide +kernel
theorem dX9_standsAhead_65 : decode cX9_standsAhead 65 = .ok (.iconst 1, 1) := by decide +kernel
theorem dX9_standsAhead_66 : decode cX9_standsAhead 66 = .ok (.goto 25, 3) := by decide +kernel
theorem dX9_standsAhead_69 : decode cX9_standsAhead 69 = .ok (.iconst 0, 1) := by decide +kernel
theorem dX9_standsAhead_70 : decode cX9_standsAhead 70 = .ok (.goto 21, 3) := by decide +kernel
theorem dX9_standsAhead_73 : decode cX9_standsAhead 73 = .ok (.lload 4, 2) := by decide +kernel
theorem dX9_standsAhead_75 : decode cX9_standsAhead 75 = .ok (.invokestatic 104, 3) := by decide +kernel
theorem dX9_standsAhead_78 : decode cX9_standsAhead 78 = .ok (.lload 6, 2) := by decide +kernel
theorem dX9_standsAhead_80 : decode cX9_standsAhead 80 = .ok (.invokestatic 104, 3) := by decide +kernel
theorem dX9_standsAhead_83 : decode cX9_standsAhead 83 = .ok (.if_icmp .ge 7, 3) := by decide +kernel
theorem dX9_standsAhead_86 : decode cX9_standsAhead 86 = .ok (.iconst 1, 1) := by decide +kernel
theorem dX9_standsAhead_87 : decode cX9_standsAhead 87 = .ok (.goto 4, 3) := by decide +kernel
theorem dX9_standsAhead_90 : decode cX9_standsAhead 90 = .ok (.iconst 0, 1) := by decide +kernel
theorem dX9_standsAhead_91 : decode cX9_standsAhead 91 = .ok (.ireturn, 1) := by decide +kernel
theorem dX9_standsAhead_92 : decode cX9_standsAhead 92 = .ok (.lload 4, 2) := by decide +kernel
theorem dX9_standsAhead_94 : decode cX9_standsAhead 94 = .ok (.lload 6, 2) := by decide +kernel
theorem dX9_standsAhead_96 : decode cX9_standsAhead 96 = .ok (.lcmp, 1) := by decide +kernel
theorem dX9_standsAhead_97 : decode cX9_standsAhead 97 = .ok (.ifCond .le 7, 3) := by decide +kernel
theorem dX9_standsAhead_100 : decode cX9_standsAhead 100 = .ok (.iconst 1, 1) := by decide +kernel
theorem dX9_standsAhead_101 : decode cX9_standsAhead 101 = .ok (.goto 4, 3) := by decide +kernel
theorem dX9_standsAhead_104 : decode cX9_standsAhead 104 = .ok (.iconst 0, 1) := by decide +kernel
theorem dX9_standsAhead_105 : decode cX9_standsAhead 105 = .ok (.ireturn, 1) := by decide +kernel
theorem dX9_standsAhead_106 : decode cX9_standsAhead 106 = .ok (.aload_n 0, 1) := by decide +kernel
theorem dX9_standsAhead_107 : decode cX9_standsAhead 107 = .ok (.iload_n 1, 1) := by decide +kernel
theorem dX9_standsAhead_108 : decode cX9_standsAhead 108 = .ok (.invokevirtual 215, 3) := by decide +kernel
theorem dX9_standsAhead_111 : decode cX9_standsAhead 111 = .ok (.invokestatic 218, 3) := by decide +kernel
theorem dX9_standsAhead_114 : decode cX9_standsAhead 114 = .ok (.aload_n 0, 1) := by decide +kernel
theorem dX9_standsAhead_115 : decode cX9_standsAhead 115 = .ok (.iload_n 2, 1) := by decide +kernel
theorem dX9_standsAhead_116 : decode cX9_standsAhead 116 = .ok (.invokevirtual 215, 3) := by decide +kernel
theorem dX9_standsAhead_119 : decode cX9_standsAhead 119 = .ok (.invokestatic 218, 3) := by decide +kernel
theorem dX9_standsAhead_122 : decode cX9_standsAhead 122 = .ok (.if_icmp .le 7, 3) := by decide +kernel
theorem dX9_standsAhead_125 : decode cX9_standsAhead 125 = .ok (.iconst 1, 1) := by decide +kernel
theorem dX9_standsAhead_126 : decode cX9_standsAhead 126 = .ok (.goto 4, 3) := by decide +kernel
theorem dX9_standsAhead_129 : decode cX9_standsAhead 129 = .ok (.iconst 0, 1) := by decide +kernel
theorem dX9_standsAhead_130 : decode cX9_standsAhead 130 = .ok (.ireturn, 1) := by decide +kernel
theorem dX9_standsAhead_131 : decode cX9_standsAhead 131 = .ok (.iconst 0, 1) := by decide +kernel
theorem dX9_standsAhead_132 : decode cX9_standsAhead 132 = .ok (.ireturn, 1) := by decide +kernel
def b_X9_standsAhead_0 (h : q_H) (v0 : Nat) (v1 : Int32) (v2 : Int32) (v3 : Int32) : Option (q_H × Int32) :=
  Option.bind (q_gR 6 0 h v0) (fun x1 => Option.bind (q_lL h x1 v1) (fun x2 => Option.bind (q_gR 6 0 h v0) (fun x3 => Option.bind (q_lL h x3 v2) (fun x4 => if v3 = (1) then Option.bind (f_X1_name h x2) (fun q6 => Option.bind (f_X1_name q6.1 x4) (fun q7 => if q6.2 = q7.2 then if 0 ≤ (lg_cmp x2 x4) then some (q7.1, (0)) else some (q7.1, (1)) else Option.bind (f_X1_name q7.1 x2) (fun q8 => Option.bind (f_X1_name q8.1 x4) (fun q9 => if q9.2 ≤ q8.2 then some (q9.1, (0)) else some (q9.1, (1)))))) else if v3 = (2) then if (lg_cmp x2 x4) ≤ 0 then some (h, (0)) else some (h, (1)) else if v3 = (3) then Option.bind (f_X7_allWithin h v0 v1) (fun q12 => Option.bind (f_J6_bitCount_0f7a4 q12.1 q12.2) (fun q13 => Option.bind (f_X7_allWithin q13.1 v0 v2) (fun q14 => Option.bind (f_J6_bitCount_0f7a4 q14.1 q14.2) (fun q15 => if q13.2 ≤ q15.2 then some (q15.1, (0)) else some (q15.1, (1)))))) else some (h, (0))))))
def f_X9_standsAhead (h : q_H) (a0 : Nat) (a1 : Int32) (a2 : Int32) (a3 : Int32) : Option (q_H × Int32) := b_X9_standsAhead_0 h a0 a1 a2 a3
set_option maxRecDepth 20000 in
set_option maxHeartbeats 1000000 in
theorem jb_X9_standsAhead_0 {G : q_G} {l : Launch} {k0 z0 : Nat} (h : q_H) (v0 : Nat) (v1 : Int32) (v2 : Int32) (v3 : Int32) : q_J G l (RX9, cX9_standsAhead, 8, 3, 68, (some .boolean), "standsAhead", []) k0 z0 (q_Z G k0 z0 q_i) 0 [(0, .ref v0), (1, .int v1), (2, .int v2), (3, .int v3)] [] h (b_X9_standsAhead_0 h v0 v1 v2 v3) := by
  unfold b_X9_standsAhead_0
  refine j_aload_n (pc := 0) (p := 0) rfl rfl dX9_standsAhead_0 ?_
  refine j_getR (pc := 1) FI_X7 (k := 0) (by decide) fl_X9_94 dX9_standsAhead_1 (fun x1 _ => ?_)
  refine j_iload_n (pc := 4) (p := 1) rfl rfl dX9_standsAhead_4 ?_
  refine j_lald (pc := 5) dX9_standsAhead_5 (fun x2 _ => ?_)
  refine j_lstore (pc := 6) (lv' := [(4, .long x2), (0, .ref v0), (1, .int v1), (2, .int v2), (3, .int v3)]) (by decide) rfl dX9_standsAhead_6 ?_
  refine j_aload_n (pc := 8) (p := 1) rfl rfl dX9_standsAhead_8 ?_
  refine j_getR (pc := 9) FI_X7 (k := 0) (by decide) fl_X9_94 dX9_standsAhead_9 (fun x3 _ => ?_)
  refine j_iload_n (pc := 12) (p := 3) rfl rfl dX9_standsAhead_12 ?_
  refine j_lald (pc := 13) dX9_standsAhead_13 (fun x4 _ => ?_)
  refine j_lstore (pc := 14) (lv' := [(6, .long x4), (4, .long x2), (0, .ref v0), (1, .int v1), (2, .int v2), (3, .int v3)]) (by decide) rfl dX9_standsAhead_14 ?_
  refine j_iload_n (pc := 16) (p := 5) rfl rfl dX9_standsAhead_16 ?_
  refine j_ite (fun c5 => ?_) (fun c5 => ?_)
  · refine j_tsI (pc := 17) (y := 1) (off := 27) (tgt := 44) dX9_standsAhead_17 c5 ⟨by decide, by decide, by decide⟩ (by decide) ?_
    refine j_lload (pc := 44) (p := 1) rfl dX9_standsAhead_44 ?_
    refine j_cSi (pc := 46) Y_X1_name ml_X9_104 sm_X1_name ⟨Nat.le_of_ble_eq_true rfl, Nat.le_of_ble_eq_true rfl⟩ dX9_standsAhead_46 (As := [.long x2]) (rest := []) rfl rfl (Nat.le_of_ble_eq_true rfl) (fun x hq9 => c_X1_name _ _ _ hq9) (fun q6 _ => ?_)
    refine j_lload (pc := 49) (p := 0) rfl dX9_standsAhead_49 ?_
    refine j_cSi (pc := 51) Y_X1_name ml_X9_104 sm_X1_name ⟨Nat.le_of_ble_eq_true rfl, Nat.le_of_ble_eq_true rfl⟩ dX9_standsAhead_51 (As := [.long x4]) (rest := [.int q6.2]) rfl rfl (Nat.le_of_ble_eq_true rfl) (fun x hq9 => c_X1_name _ _ _ hq9) (fun q7 _ => ?_)
    refine j_ic_ne (pc := 54) (tgt := 73) dX9_standsAhead_54 (by decide) (fun _ => ?_) (fun _ => ?_)
    · refine j_lload (pc := 57) (p := 1) rfl dX9_standsAhead_57 ?_
      refine j_lload (pc := 59) (p := 0) rfl dX9_standsAhead_59 ?_
      refine j_lcmp (pc := 61) dX9_standsAhead_61 ?_
      refine j_if_ge (pc := 62) (tgt := 69) dX9_standsAhead_62 (by decide) (fun _ => ?_) (fun _ => ?_)
      · refine j_iconst (pc := 69) ki_0 dX9_standsAhead_69 ?_
        refine j_goto (pc := 70) (tgt := 91) dX9_standsAhead_70 (by decide) ?_
        exact j_zret (pc := 91) rfl rfl dX9_standsAhead_91
      refine j_iconst (pc := 65) ki_1 dX9_standsAhead_65 ?_
      refine j_goto (pc := 66) (tgt := 91) dX9_standsAhead_66 (by decide) ?_
      exact j_zret (pc := 91) rfl rfl dX9_standsAhead_91
    refine j_lload (pc := 73) (p := 1) rfl dX9_standsAhead_73 ?_
    refine j_cSi (pc := 75) Y_X1_name ml_X9_104 sm_X1_name ⟨Nat.le_of_ble_eq_true rfl, Nat.le_of_ble_eq_true rfl⟩ dX9_standsAhead_75 (As := [.long x2]) (rest := []) rfl rfl (Nat.le_of_ble_eq_true rfl) (fun x hq9 => c_X1_name _ _ _ hq9) (fun q8 _ => ?_)
    refine j_lload (pc := 78) (p := 0) rfl dX9_standsAhead_78 ?_
    refine j_cSi (pc := 80) Y_X1_name ml_X9_104 sm_X1_name ⟨Nat.le_of_ble_eq_true rfl, Nat.le_of_ble_eq_true rfl⟩ dX9_standsAhead_80 (As := [.long x4]) (rest := [.int q8.2]) rfl rfl (Nat.le_of_ble_eq_true rfl) (fun x hq9 => c_X1_name _ _ _ hq9) (fun q9 _ => ?_)
    refine j_ic_ge (pc := 83) (tgt := 90) dX9_standsAhead_83 (by decide) (fun _ => ?_) (fun _ => ?_)
    · refine j_iconst (pc := 90) ki_0 dX9_standsAhead_90 ?_
      exact j_zret (pc := 91) rfl rfl dX9_standsAhead_91
    refine j_iconst (pc := 86) ki_1 dX9_standsAhead_86 ?_
    refine j_goto (pc := 87) (tgt := 91) dX9_standsAhead_87 (by decide) ?_
    exact j_zret (pc := 91) rfl rfl dX9_standsAhead_91
  refine j_ite (fun c10 => ?_) (fun c10 => ?_)
  · refine j_tsI (pc := 17) (y := 2) (off := 75) (tgt := 92) dX9_standsAhead_17 c10 ⟨by decide, by decide, by decide⟩ (by decide) ?_
    refine j_lload (pc := 92) (p := 1) rfl dX9_standsAhead_92 ?_
    refine j_lload (pc := 94) (p := 0) rfl dX9_standsAhead_94 ?_
    refine j_lcmp (pc := 96) dX9_standsAhead_96 ?_
    refine j_if_le (pc := 97) (tgt := 104) dX9_standsAhead_97 (by decide) (fun _ => ?_) (fun _ => ?_)
    · refine j_iconst (pc := 104) ki_0 dX9_standsAhead_104 ?_
      exact j_zret (pc := 105) rfl rfl dX9_standsAhead_105
    refine j_iconst (pc := 100) ki_1 dX9_standsAhead_100 ?_
    refine j_goto (pc := 101) (tgt := 105) dX9_standsAhead_101 (by decide) ?_
    exact j_zret (pc := 105) rfl rfl dX9_standsAhead_105
  refine j_ite (fun c11 => ?_) (fun c11 => ?_)
  · refine j_tsI (pc := 17) (y := 3) (off := 89) (tgt := 106) dX9_standsAhead_17 c11 ⟨by decide, by decide, by decide⟩ (by decide) ?_
    refine j_aload_n (pc := 106) (p := 2) rfl rfl dX9_standsAhead_106 ?_
    refine j_iload_n (pc := 107) (p := 3) rfl rfl dX9_standsAhead_107 ?_
    refine j_cVi (pc := 108) Y_X7_allWithin (ci := 6) (b := v0) rfl rfl ml_X9_215 im_X7_allWithin se_X7_allWithin ⟨Nat.le_of_ble_eq_true rfl, Nat.le_of_ble_eq_true rfl⟩ dX9_standsAhead_108 (As := [.int v1]) (rest := []) rfl rfl (Nat.le_of_ble_eq_true rfl) (fun x hq9 => c_X7_allWithin _ _ _ _ hq9) (fun q12 _ => ?_)
    refine j_cSi (pc := 111) Y_J6_bitCount_0f7a4 ml_X9_218 sm_J6_bitCount_0f7a4 ⟨Nat.le_of_ble_eq_true rfl, Nat.le_of_ble_eq_true rfl⟩ dX9_standsAhead_111 (As := [.int q12.2]) (rest := []) rfl rfl (Nat.le_of_ble_eq_true rfl) (fun x hq9 => c_J6_bitCount_0f7a4 _ _ _ hq9) (fun q13 _ => ?_)
    refine j_aload_n (pc := 114) (p := 2) rfl rfl dX9_standsAhead_114 ?_
    refine j_iload_n (pc := 115) (p := 4) rfl rfl dX9_standsAhead_115 ?_
    refine j_cVi (pc := 116) Y_X7_allWithin (ci := 6) (b := v0) rfl rfl ml_X9_215 im_X7_allWithin se_X7_allWithin ⟨Nat.le_of_ble_eq_true rfl, Nat.le_of_ble_eq_true rfl⟩ dX9_standsAhead_116 (As := [.int v2]) (rest := [.int q13.2]) rfl rfl (Nat.le_of_ble_eq_true rfl) (fun x hq9 => c_X7_allWithin _ _ _ _ hq9) (fun q14 _ => ?_)
    refine j_cSi (pc := 119) Y_J6_bitCount_0f7a4 ml_X9_218 sm_J6_bitCount_0f7a4 ⟨Nat.le_of_ble_eq_true rfl, Nat.le_of_ble_eq_true rfl⟩ dX9_standsAhead_119 (As := [.int q14.2]) (rest := [.int q13.2]) rfl rfl (Nat.le_of_ble_eq_true rfl) (fun x hq9 => c_J6_bitCount_0f7a4 _ _ _ hq9) (fun q15 _ => ?_)
    refine j_ic_le (pc := 122) (tgt := 129) dX9_standsAhead_122 (by decide) (fun _ => ?_) (fun _ => ?_)
    · refine j_iconst (pc := 129) ki_0 dX9_standsAhead_129 ?_
      exact j_zret (pc := 130) rfl rfl dX9_standsAhead_130
    refine j_iconst (pc := 125) ki_1 dX9_standsAhead_125 ?_
    refine j_goto (pc := 126) (tgt := 130) dX9_standsAhead_126 (by decide) ?_
    exact j_zret (pc := 130) rfl rfl dX9_standsAhead_130
  refine j_tsO (pc := 17) (tgt := 131) dX9_standsAhead_17 (by have a_c5 := lv_neT c5 (show ((1 : Int32)).toInt = 1 by decide); have a_c10 := lv_neT c10 (show ((2 : Int32)).toInt = 2 by decide); have a_c11 := lv_neT c11 (show ((3 : Int32)).toInt = 3 by decide); omega) (by decide) ?_
  refine j_iconst (pc := 131) ki_0 dX9_standsAhead_131 ?_
  exact j_zret (pc := 132) rfl rfl dX9_standsAhead_132
set_option maxRecDepth 20000 in
set_option maxHeartbeats 1000000 in
theorem c_X9_standsAhead {G : q_G} {l : Launch} : ∀ (h : q_H) (a0 : Nat) (a1 : Int32) (a2 : Int32) (a3 : Int32) (q : q_H × Int32), f_X9_standsAhead h a0 a1 a2 a3 = some q → q_CT G l yX9_standsAhead cX9_standsAhead 8 (some .boolean) 3 68 [.ref a0, .int a1, .int a2, .int a3] h q.1 (q_i q.2) := by
  intro h a0 a1 a2 a3 q e
  exact q_ofJ Y_X9_standsAhead (Nat.le_of_ble_eq_true rfl) (jb_X9_standsAhead_0 h a0 a1 a2 a3) q e
/-! FarFolders.firstOf(LFarFolders$Tree;II)I -/
theorem dX9_firstOf_0 : decode cX9_firstOf 0 = .ok (.iconst 0, 1) := by decide +kernel
theorem dX9_firstOf_1 : decode cX9_firstOf 1 = .ok (.istore_n 3, 1) := by decide +kernel
theorem dX9_firstOf_2 : decode cX9_firstOf 2 = .ok (.iconst 2, 1) := by decide +kernel
theorem dX9_firstOf_3 : decode cX9_firstOf 3 = .ok (.istore 4, 2) := by decide +kernel
theorem dX9_firstOf_5 : decode cX9_firstOf 5 = .ok (.iload 4, 2) := by decide +kernel
theorem dX9_firstOf_7 : decode cX9_firstOf 7 = .ok (.bipush 14, 2) := by decide +kernel
theorem dX9_firstOf_9 : decode cX9_firstOf 9 = .ok (.if_icmp .ge 37, 3) := by decide +kernel
theorem dX9_firstOf_12 : decode cX9_firstOf 12 = .ok (.iload_n 1, 1) := by decide +kernel
theorem dX9_firstOf_13 : decode cX9_firstOf 13 = .ok (.iload 4, 2) := by decide +kernel
theorem dX9_firstOf_15 : decode cX9_firstOf 15 = .ok (.iushr, 1) := by decide +kernel
theorem dX9_firstOf_16 : decode cX9_firstOf 16 = .ok (.iconst 1, 1) := by decide +kernel
theorem dX9_firstOf_17 : decode cX9_firstOf 17 = .ok (.iand, 1) := by decide +kernel
theorem dX9_firstOf_18 : decode cX9_firstOf 18 = .ok (.iconst 1, 1) := by decide +kernel
theorem dX9_firstOf_19 : decode cX9_firstOf 19 = .ok (.if_icmp .ne 21, 3) := by decide +kernel
theorem dX9_firstOf_22 : decode cX9_firstOf 22 = .ok (.iload_n 3, 1) := by decide +kernel
theorem dX9_firstOf_23 : decode cX9_firstOf 23 = .ok (.ifCond .eq 14, 3) := by decide +kernel
theorem dX9_firstOf_26 : decode cX9_firstOf 26 = .ok (.aload_n 0, 1) := by decide +kernel
theorem dX9_firstOf_27 : decode cX9_firstOf 27 = .ok (.iload 4, 2) := by decide +kernel
theorem dX9_firstOf_29 : decode cX9_firstOf 29 = .ok (.iload_n 3, 1) := by decide +kernel
theorem dX9_firstOf_30 : decode cX9_firstOf 30 = .ok (.iload_n 2, 1) := by decide +kernel
theorem dX9_firstOf_31 : decode cX9_firstOf 31 = .ok (.invokestatic 375, 3) := by decide +kernel
theorem dX9_firstOf_34 : decode cX9_firstOf 34 = .ok (.ifCond .eq 6, 3) := by decide +kernel
theorem dX9_firstOf_37 : decode cX9_firstOf 37 = .ok (.iload 4, 2) := by decide +kernel
theorem dX9_firstOf_39 : decode cX9_firstOf 39 = .ok (.istore_n 3, 1) := by decide +kernel
theorem dX9_firstOf_40 : decode cX9_firstOf 40 = .ok (.iinc 4 1, 3) := by decide +kernel
theorem dX9_firstOf_43 : decode cX9_firstOf 43 = .ok (.goto (-38), 3) := by decide +kernel
theorem dX9_firstOf_46 : decode cX9_firstOf 46 = .ok (.iload_n 3, 1) := by decide +kernel
theorem dX9_firstOf_47 : decode cX9_firstOf 47 = .ok (.ireturn, 1) := by decide +kernel
def b_X9_firstOf_40 (k5 : q_H → Nat → Int32 → Int32 → Int32 → Int32 → Option (q_H × Int32)) (h : q_H) (v0 : Nat) (v1 : Int32) (v2 : Int32) (v3 : Int32) (v4 : Int32) : Option (q_H × Int32) :=
  k5 h v0 v1 v2 v3 (v4 + 1)
def b_X9_firstOf_37 (k5 : q_H → Nat → Int32 → Int32 → Int32 → Int32 → Option (q_H × Int32)) (h : q_H) (v0 : Nat) (v1 : Int32) (v2 : Int32) (v4 : Int32) : Option (q_H × Int32) :=
  b_X9_firstOf_40 k5 h v0 v1 v2 v4 v4
def b_X9_firstOf_5 (k5 : q_H → Nat → Int32 → Int32 → Int32 → Int32 → Option (q_H × Int32)) (h : q_H) (v0 : Nat) (v1 : Int32) (v2 : Int32) (v3 : Int32) (v4 : Int32) : Option (q_H × Int32) :=
  if (14) ≤ v4 then some (h, v3) else if ((q_iushr v1 v4) &&& (1)) = (1) then if v3 = 0 then b_X9_firstOf_37 k5 h v0 v1 v2 v4 else Option.bind (f_X9_standsAhead h v0 v4 v3 v2) (fun q1 => if q1.2 = 0 then b_X9_firstOf_40 k5 q1.1 v0 v1 v2 v3 v4 else b_X9_firstOf_37 k5 q1.1 v0 v1 v2 v4) else b_X9_firstOf_40 k5 h v0 v1 v2 v3 v4
def l_X9_firstOf_5 : Nat → q_H → Nat → Int32 → Int32 → Int32 → Int32 → Option (q_H × Int32)
  | 0, _, _, _, _, _, _ => none
  | n + 1, h, v0, v1, v2, v3, v4 => b_X9_firstOf_5 (l_X9_firstOf_5 n) h v0 v1 v2 v3 v4
def b_X9_firstOf_0 (h : q_H) (v0 : Nat) (v1 : Int32) (v2 : Int32) : Option (q_H × Int32) :=
  l_X9_firstOf_5 q_FU h v0 v1 v2 (0) (2)
def f_X9_firstOf (h : q_H) (a0 : Nat) (a1 : Int32) (a2 : Int32) : Option (q_H × Int32) := b_X9_firstOf_0 h a0 a1 a2
set_option maxRecDepth 20000 in
set_option maxHeartbeats 1000000 in
theorem jb_X9_firstOf_40 {G : q_G} {l : Launch} {k0 z0 : Nat} (k5 : q_H → Nat → Int32 → Int32 → Int32 → Int32 → Option (q_H × Int32)) (hk5 : ∀ (h : q_H) (v0 : Nat) (v1 : Int32) (v2 : Int32) (v3 : Int32) (v4 : Int32), q_J G l (RX9, cX9_firstOf, 5, 4, 95, (some .int), "firstOf", []) k0 z0 (q_Z G k0 z0 q_i) 5 [(0, .ref v0), (1, .int v1), (2, .int v2), (3, .int v3), (4, .int v4)] [] h (k5 h v0 v1 v2 v3 v4)) (h : q_H) (v0 : Nat) (v1 : Int32) (v2 : Int32) (v3 : Int32) (v4 : Int32) : q_J G l (RX9, cX9_firstOf, 5, 4, 95, (some .int), "firstOf", []) k0 z0 (q_Z G k0 z0 q_i) 40 [(0, .ref v0), (1, .int v1), (2, .int v2), (3, .int v3), (4, .int v4)] [] h (b_X9_firstOf_40 k5 h v0 v1 v2 v3 v4) := by
  unfold b_X9_firstOf_40
  refine j_inc (pc := 40) (p := 4) (lv' := [(4, .int (v4 + 1)), (0, .ref v0), (1, .int v1), (2, .int v2), (3, .int v3)]) rfl ki_1 (by decide) rfl dX9_firstOf_40 ?_
  refine j_goto (pc := 43) (tgt := 5) dX9_firstOf_43 (by decide) ?_
  refine j_sub [1, 2, 3, 4, 0] (lv' := [(0, .ref v0), (1, .int v1), (2, .int v2), (3, .int v3), (4, .int (v4 + 1))]) rfl ?_
  exact hk5 _ _ _ _ _ _
set_option maxRecDepth 20000 in
set_option maxHeartbeats 1000000 in
theorem jb_X9_firstOf_37 {G : q_G} {l : Launch} {k0 z0 : Nat} (k5 : q_H → Nat → Int32 → Int32 → Int32 → Int32 → Option (q_H × Int32)) (hk5 : ∀ (h : q_H) (v0 : Nat) (v1 : Int32) (v2 : Int32) (v3 : Int32) (v4 : Int32), q_J G l (RX9, cX9_firstOf, 5, 4, 95, (some .int), "firstOf", []) k0 z0 (q_Z G k0 z0 q_i) 5 [(0, .ref v0), (1, .int v1), (2, .int v2), (3, .int v3), (4, .int v4)] [] h (k5 h v0 v1 v2 v3 v4)) (h : q_H) (v0 : Nat) (v1 : Int32) (v2 : Int32) (v4 : Int32) : q_J G l (RX9, cX9_firstOf, 5, 4, 95, (some .int), "firstOf", []) k0 z0 (q_Z G k0 z0 q_i) 37 [(0, .ref v0), (1, .int v1), (2, .int v2), (4, .int v4)] [] h (b_X9_firstOf_37 k5 h v0 v1 v2 v4) := by
  unfold b_X9_firstOf_37
  refine j_iload (pc := 37) (p := 3) rfl dX9_firstOf_37 ?_
  refine j_istore_n (pc := 39) (lv' := [(3, .int v4), (0, .ref v0), (1, .int v1), (2, .int v2), (4, .int v4)]) rfl (by decide) rfl dX9_firstOf_39 ?_
  refine j_sub [1, 2, 3, 0, 4] (lv' := [(0, .ref v0), (1, .int v1), (2, .int v2), (3, .int v4), (4, .int v4)]) rfl ?_
  exact jb_X9_firstOf_40 k5 hk5 _ _ _ _ _ _
set_option maxRecDepth 20000 in
set_option maxHeartbeats 1000000 in
theorem jb_X9_firstOf_5 {G : q_G} {l : Launch} {k0 z0 : Nat} (k5 : q_H → Nat → Int32 → Int32 → Int32 → Int32 → Option (q_H × Int32)) (hk5 : ∀ (h : q_H) (v0 : Nat) (v1 : Int32) (v2 : Int32) (v3 : Int32) (v4 : Int32), q_J G l (RX9, cX9_firstOf, 5, 4, 95, (some .int), "firstOf", []) k0 z0 (q_Z G k0 z0 q_i) 5 [(0, .ref v0), (1, .int v1), (2, .int v2), (3, .int v3), (4, .int v4)] [] h (k5 h v0 v1 v2 v3 v4)) (h : q_H) (v0 : Nat) (v1 : Int32) (v2 : Int32) (v3 : Int32) (v4 : Int32) : q_J G l (RX9, cX9_firstOf, 5, 4, 95, (some .int), "firstOf", []) k0 z0 (q_Z G k0 z0 q_i) 5 [(0, .ref v0), (1, .int v1), (2, .int v2), (3, .int v3), (4, .int v4)] [] h (b_X9_firstOf_5 k5 h v0 v1 v2 v3 v4) := by
  unfold b_X9_firstOf_5
  refine j_iload (pc := 5) (p := 4) rfl dX9_firstOf_5 ?_
  refine j_bipush (pc := 7) kb_14 dX9_firstOf_7 ?_
  refine j_ic_ge (pc := 9) (tgt := 46) dX9_firstOf_9 (by decide) (fun _ => ?_) (fun _ => ?_)
  · refine j_iload_n (pc := 46) (p := 3) rfl rfl dX9_firstOf_46 ?_
    exact j_iret (pc := 47) rfl dX9_firstOf_47
  refine j_iload_n (pc := 12) (p := 1) rfl rfl dX9_firstOf_12 ?_
  refine j_iload (pc := 13) (p := 4) rfl dX9_firstOf_13 ?_
  refine j_iushr (pc := 15) dX9_firstOf_15 ?_
  refine j_iconst (pc := 16) ki_1 dX9_firstOf_16 ?_
  refine j_iand (pc := 17) dX9_firstOf_17 ?_
  refine j_iconst (pc := 18) ki_1 dX9_firstOf_18 ?_
  refine j_ic_ne (pc := 19) (tgt := 40) dX9_firstOf_19 (by decide) (fun _ => ?_) (fun _ => ?_)
  · refine j_iload_n (pc := 22) (p := 3) rfl rfl dX9_firstOf_22 ?_
    refine j_if_eq (pc := 23) (tgt := 37) dX9_firstOf_23 (by decide) (fun _ => ?_) (fun _ => ?_)
    · refine j_sub [0, 1, 2, 4] (lv' := [(0, .ref v0), (1, .int v1), (2, .int v2), (4, .int v4)]) rfl ?_
      exact jb_X9_firstOf_37 k5 hk5 _ _ _ _ _
    refine j_aload_n (pc := 26) (p := 0) rfl rfl dX9_firstOf_26 ?_
    refine j_iload (pc := 27) (p := 4) rfl dX9_firstOf_27 ?_
    refine j_iload_n (pc := 29) (p := 3) rfl rfl dX9_firstOf_29 ?_
    refine j_iload_n (pc := 30) (p := 2) rfl rfl dX9_firstOf_30 ?_
    refine j_cSi (pc := 31) Y_X9_standsAhead ml_X9_375 sm_X9_standsAhead ⟨Nat.le_of_ble_eq_true rfl, Nat.le_of_ble_eq_true rfl⟩ dX9_firstOf_31 (As := [.ref v0, .int v4, .int v3, .int v2]) (rest := []) rfl rfl (Nat.le_of_ble_eq_true rfl) (fun x hq9 => c_X9_standsAhead _ _ _ _ _ _ hq9) (fun q1 _ => ?_)
    refine j_if_eq (pc := 34) (tgt := 40) dX9_firstOf_34 (by decide) (fun _ => ?_) (fun _ => ?_)
    · exact jb_X9_firstOf_40 k5 hk5 _ _ _ _ _ _
    refine j_sub [0, 1, 2, 4] (lv' := [(0, .ref v0), (1, .int v1), (2, .int v2), (4, .int v4)]) rfl ?_
    exact jb_X9_firstOf_37 k5 hk5 _ _ _ _ _
  exact jb_X9_firstOf_40 k5 hk5 _ _ _ _ _ _
set_option maxRecDepth 20000 in
set_option maxHeartbeats 1000000 in
theorem jl_X9_firstOf_5 {G : q_G} {l : Launch} {k0 z0 : Nat} (n : Nat) : ∀ (h : q_H) (v0 : Nat) (v1 : Int32) (v2 : Int32) (v3 : Int32) (v4 : Int32), q_J G l (RX9, cX9_firstOf, 5, 4, 95, (some .int), "firstOf", []) k0 z0 (q_Z G k0 z0 q_i) 5 [(0, .ref v0), (1, .int v1), (2, .int v2), (3, .int v3), (4, .int v4)] [] h (l_X9_firstOf_5 n h v0 v1 v2 v3 v4) := by
  induction n with
  | zero => intro h v0 v1 v2 v3 v4; exact j_none
  | succ n ih => intro h v0 v1 v2 v3 v4; exact jb_X9_firstOf_5 (l_X9_firstOf_5 n) ih h v0 v1 v2 v3 v4
set_option maxRecDepth 20000 in
set_option maxHeartbeats 1000000 in
theorem jb_X9_firstOf_0 {G : q_G} {l : Launch} {k0 z0 : Nat} (h : q_H) (v0 : Nat) (v1 : Int32) (v2 : Int32) : q_J G l (RX9, cX9_firstOf, 5, 4, 95, (some .int), "firstOf", []) k0 z0 (q_Z G k0 z0 q_i) 0 [(0, .ref v0), (1, .int v1), (2, .int v2)] [] h (b_X9_firstOf_0 h v0 v1 v2) := by
  unfold b_X9_firstOf_0
  refine j_iconst (pc := 0) ki_0 dX9_firstOf_0 ?_
  refine j_istore_n (pc := 1) (lv' := [(3, .int (0)), (0, .ref v0), (1, .int v1), (2, .int v2)]) rfl (by decide) rfl dX9_firstOf_1 ?_
  refine j_iconst (pc := 2) ki_2 dX9_firstOf_2 ?_
  refine j_istore (pc := 3) (lv' := [(4, .int (2)), (3, .int (0)), (0, .ref v0), (1, .int v1), (2, .int v2)]) (by decide) rfl dX9_firstOf_3 ?_
  refine j_sub [2, 3, 4, 1, 0] (lv' := [(0, .ref v0), (1, .int v1), (2, .int v2), (3, .int (0)), (4, .int (2))]) rfl ?_
  exact jl_X9_firstOf_5 q_FU _ _ _ _ _ _
set_option maxRecDepth 20000 in
set_option maxHeartbeats 1000000 in
theorem c_X9_firstOf {G : q_G} {l : Launch} : ∀ (h : q_H) (a0 : Nat) (a1 : Int32) (a2 : Int32) (q : q_H × Int32), f_X9_firstOf h a0 a1 a2 = some q → q_CT G l yX9_firstOf cX9_firstOf 5 (some .int) 4 95 [.ref a0, .int a1, .int a2] h q.1 (q_i q.2) := by
  intro h a0 a1 a2 q e
  exact q_ofJ Y_X9_firstOf (Nat.le_of_ble_eq_true rfl) (jb_X9_firstOf_0 h a0 a1 a2) q e
/-! FarFolders.tellSet(I)I -/
theorem dX9_tellSet_0 : decode cX9_tellSet 0 = .ok (.aload_n 0, 1) := by decide +kernel
theorem dX9_tellSet_1 : decode cX9_tellSet 1 = .ok (.getfield 30, 3) := by decide +kernel
theorem dX9_tellSet_4 : decode cX9_tellSet 4 = .ok (.iload_n 1, 1) := by decide +kernel
theorem dX9_tellSet_5 : decode cX9_tellSet 5 = .ok (.invokestatic 218, 3) := by decide +kernel
theorem dX9_tellSet_8 : decode cX9_tellSet 8 = .ok (.i2l, 1) := by decide +kernel
theorem dX9_tellSet_9 : decode cX9_tellSet 9 = .ok (.invokevirtual 141, 3) := by decide +kernel
theorem dX9_tellSet_12 : decode cX9_tellSet 12 = .ok (.iload_n 1, 1) := by decide +kernel
theorem dX9_tellSet_13 : decode cX9_tellSet 13 = .ok (.ireturn, 1) := by decide +kernel
def b_X9_tellSet_0 (h : q_H) (v0 : Nat) (v1 : Int32) : Option (q_H × Int32) :=
  Option.bind (q_gR 8 4 h v0) (fun x1 => Option.bind (f_J6_bitCount_0f7a4 h v1) (fun q2 => Option.bind (f_X4_tell q2.1 x1 (Int32.toInt64 q2.2)) (fun q3 => some (q3.1, v1))))
def f_X9_tellSet (h : q_H) (a0 : Nat) (a1 : Int32) : Option (q_H × Int32) := q_chk 8 h a0 (b_X9_tellSet_0 h a0 a1)
set_option maxRecDepth 20000 in
set_option maxHeartbeats 1000000 in
theorem jb_X9_tellSet_0 {G : q_G} {l : Launch} {k0 z0 : Nat} (h : q_H) (v0 : Nat) (v1 : Int32) : q_J G l (RX9, cX9_tellSet, 2, 2, 44, (some .int), "tellSet", []) k0 z0 (q_Z G k0 z0 q_i) 0 [(0, .ref v0), (1, .int v1)] [] h (b_X9_tellSet_0 h v0 v1) := by
  unfold b_X9_tellSet_0
  refine j_aload_n (pc := 0) (p := 0) rfl rfl dX9_tellSet_0 ?_
  refine j_getR (pc := 1) FI_X9 (k := 4) (by decide) fl_X9_30 dX9_tellSet_1 (fun x1 _ => ?_)
  refine j_iload_n (pc := 4) (p := 1) rfl rfl dX9_tellSet_4 ?_
  refine j_cSi (pc := 5) Y_J6_bitCount_0f7a4 ml_X9_218 sm_J6_bitCount_0f7a4 ⟨Nat.le_of_ble_eq_true rfl, Nat.le_of_ble_eq_true rfl⟩ dX9_tellSet_5 (As := [.int v1]) (rest := [.ref x1]) rfl rfl (Nat.le_of_ble_eq_true rfl) (fun x hq9 => c_J6_bitCount_0f7a4 _ _ _ hq9) (fun q2 _ => ?_)
  refine j_i2l (pc := 8) dX9_tellSet_8 ?_
  refine j_cVu (pc := 9) Y_X4_tell (ci := 3) (b := x1) rfl rfl ml_X9_141 im_X4_tell se_X4_tell ⟨Nat.le_of_ble_eq_true rfl, Nat.le_of_ble_eq_true rfl⟩ dX9_tellSet_9 (As := [.long (Int32.toInt64 q2.2)]) (rest := []) rfl rfl (Nat.le_of_ble_eq_true rfl) (fun x hq9 => c_X4_tell _ _ _ _ hq9) (fun q3 _ => ?_)
  refine j_iload_n (pc := 12) (p := 1) rfl rfl dX9_tellSet_12 ?_
  exact j_iret (pc := 13) rfl dX9_tellSet_13
set_option maxRecDepth 20000 in
set_option maxHeartbeats 1000000 in
theorem c_X9_tellSet {G : q_G} {l : Launch} : ∀ (h : q_H) (a0 : Nat) (a1 : Int32) (q : q_H × Int32), f_X9_tellSet h a0 a1 = some q → (∃ fs, h.1 a0 = .inr (8, fs)) ∧ q_CT G l yX9_tellSet cX9_tellSet 2 (some .int) 2 44 [.ref a0, .int a1] h q.1 (q_i q.2) := by
  intro h a0 a1 q e
  obtain ⟨e1, e2⟩ := q_chk_ok e
  exact ⟨e1, q_ofJ Y_X9_tellSet (Nat.le_of_ble_eq_true rfl) (jb_X9_tellSet_0 h a0 a1) q e2⟩
/-! FarFolders.frees(II)I -/
theorem dX9_frees_0 : decode cX9_frees 0 = .ok (.iload_n 1, 1) := by decide +kernel
theorem dX9_frees_1 : decode cX9_frees 1 = .ok (.invokestatic 73, 3) := by decide +kernel
theorem dX9_frees_4 : decode cX9_frees 4 = .ok (.ifCond .eq 19, 3) := by decide +kernel
theorem dX9_frees_7 : decode cX9_frees 7 = .ok (.aload_n 0, 1) := by decide +kernel
theorem dX9_frees_8 : decode cX9_frees 8 = .ok (.getfield 12, 3) := by decide +kernel
theorem dX9_frees_11 : decode cX9_frees 11 = .ok (.getfield 82, 3) := by decide +kernel
theorem dX9_frees_14 : decode cX9_frees 14 = .ok (.iload_n 1, 1) := by decide +kernel
theorem dX9_frees_15 : decode cX9_frees 15 = .ok (.aaload, 1) := by decide +kernel
theorem dX9_frees_16 : decode cX9_frees 16 = .ok (.iload_n 2, 1) := by decide +kernel
theorem dX9_frees_17 : decode cX9_frees 17 = .ok (.invokevirtual 117, 3) := by decide +kernel
theorem dX9_frees_20 : decode cX9_frees 20 = .ok (.ifCond .ne 5, 3) := by decide +kernel
theorem dX9_frees_23 : decode cX9_frees 23 = .ok (.iconst (-1), 1) := by decide +kernel
theorem dX9_frees_24 : decode cX9_frees 24 = .ok (.ireturn, 1) := by decide +kernel
theorem dX9_frees_25 : decode cX9_frees 25 = .ok (.aload_n 0, 1) := by decide +kernel
theorem dX9_frees_26 : decode cX9_frees 26 = .ok (.getfield 12, 3) := by decide +kernel
theorem dX9_frees_29 : decode cX9_frees 29 = .ok (.getfield 82, 3) := by decide +kernel
theorem dX9_frees_32 : decode cX9_frees 32 = .ok (.iload_n 1, 1) := by decide +kernel
theorem dX9_frees_33 : decode cX9_frees 33 = .ok (.aaload, 1) := by decide +kernel
theorem dX9_frees_34 : decode cX9_frees 34 = .ok (.astore_n 3, 1) := by decide +kernel
theorem dX9_frees_35 : decode cX9_frees 35 = .ok (.aload_n 3, 1) := by decide +kernel
theorem dX9_frees_36 : decode cX9_frees 36 = .ok (.getfield 133, 3) := by decide +kernel
theorem dX9_frees_39 : decode cX9_frees 39 = .ok (.iload_n 2, 1) := by decide +kernel
theorem dX9_frees_40 : decode cX9_frees 40 = .ok (.iushr, 1) := by decide +kernel
theorem dX9_frees_41 : decode cX9_frees 41 = .ok (.iconst 1, 1) := by decide +kernel
theorem dX9_frees_42 : decode cX9_frees 42 = .ok (.iand, 1) := by decide +kernel
theorem dX9_frees_43 : decode cX9_frees 43 = .ok (.ifCond .ne 6, 3) := by decide +kernel
theorem dX9_frees_46 : decode cX9_frees 46 = .ok (.bipush (-2), 2) := by decide +kernel
theorem dX9_frees_48 : decode cX9_frees 48 = .ok (.ireturn, 1) := by decide +kernel
theorem dX9_frees_49 : decode cX9_frees 49 = .ok (.iconst 0, 1) := by decide +kernel
theorem dX9_frees_50 : decode cX9_frees 50 = .ok (.istore 4, 2) := by decide +kernel
theorem dX9_frees_52 : decode cX9_frees 52 = .ok (.iconst 0, 1) := by decide +kernel
theorem dX9_frees_53 : decode cX9_frees 53 = .ok (.istore 5, 2) := by decide +kernel
theorem dX9_frees_55 : decode cX9_frees 55 = .ok (.iload 5, 2) := by decide +kernel
theorem dX9_frees_57 : decode cX9_frees 57 = .ok (.iload_n 2, 1) := by decide +kernel
theorem dX9_frees_58 : decode cX9_frees 58 = .ok (.if_icmp .ge 42, 3) := by decide +kernel
theorem dX9_frees_61 : decode cX9_frees 61 = .ok (.aload_n 0, 1) := by decide +kernel
theorem dX9_frees_62 : decode cX9_frees 62 = .ok (.getfield 44, 3) := by decide +kernel
theorem dX9_frees_65 : decode cX9_frees 65 = .ok (.aload_n 3, 1) := by decide +kernel
theorem dX9_frees_66 : decode cX9_frees 66 = .ok (.getfield 306, 3) := by decide +kernel
theorem dX9_frees_69 : decode cX9_frees 69 = .ok (.aload_n 3, 1) := by decide +kernel
theorem dX9_frees_70 : decode cX9_frees 70 = .ok (.getfield 120, 3) := by decide +kernel
theorem dX9_frees_73 : decode cX9_frees 73 = .ok (.iload 5, 2) := by decide +kernel
theorem dX9_frees_75 : decode cX9_frees 75 = .ok (.invokevirtual 309, 3) := by decide +kernel
theorem dX9_frees_78 : decode cX9_frees 78 = .ok (.iload_n 2, 1) := by decide +kernel
theorem dX9_frees_79 : decode cX9_frees 79 = .ok (.iushr, 1) := by decide +kernel
theorem dX9_frees_80 : decode cX9_frees 80 = .ok (.iconst 1, 1) := by decide +kernel
theorem dX9_frees_81 : decode cX9_frees 81 = .ok (.iand, 1) := by decide +kernel
theorem dX9_frees_82 : decode cX9_frees 82 = .ok (.ifCond .ne 12, 3) := by decide +kernel
theorem dX9_frees_85 : decode cX9_frees 85 = .ok (.iload 4, 2) := by decide +kernel
theorem dX9_frees_87 : decode cX9_frees 87 = .ok (.iconst 1, 1) := by decide +kernel
theorem dX9_frees_88 : decode cX9_frees 88 = .ok (.iload 5, 2) := by decide +kernel
theorem dX9_frees_90 : decode cX9_frees 90 = .ok (.ishl, 1) := by decide +kernel
theorem dX9_frees_91 : decode cX9_frees 91 = .ok (.ior, 1) := by decide +kernel
theorem dX9_frees_92 : decode cX9_frees 92 = .ok (.istore 4, 2) := by decide +kernel
theorem dX9_frees_94 : decode cX9_frees 94 = .ok (.iinc 5 1, 3) := by decide +kernel
theorem dX9_frees_97 : decode cX9_frees 97 = .ok (.goto (-42), 3) := by decide +kernel
theorem dX9_frees_100 : decode cX9_frees 100 = .ok (.aload_n 0, 1) := by decide +kernel
theorem dX9_frees_101 : decode cX9_frees 101 = .ok (.iload 4, 2) := by decide +kernel
theorem dX9_frees_103 : decode cX9_frees 103 = .ok (.invokevirtual 209, 3) := by decide +kernel
theorem dX9_frees_106 : decode cX9_frees 106 = .ok (.ireturn, 1) := by decide +kernel
def b_X9_frees_94 (k55 : q_H → Nat → Int32 → Nat → Int32 → Int32 → Option (q_H × Int32)) (h : q_H) (v0 : Nat) (v2 : Int32) (v3 : Nat) (v4 : Int32) (v5 : Int32) : Option (q_H × Int32) :=
  k55 h v0 v2 v3 v4 (v5 + 1)
def b_X9_frees_55 (k55 : q_H → Nat → Int32 → Nat → Int32 → Int32 → Option (q_H × Int32)) (h : q_H) (v0 : Nat) (v2 : Int32) (v3 : Nat) (v4 : Int32) (v5 : Int32) : Option (q_H × Int32) :=
  if v2 ≤ v5 then Option.bind (f_X9_tellSet h v0 v4) (fun q1 => some (q1.1, q1.2)) else Option.bind (q_gR 8 6 h v0) (fun x2 => Option.bind (q_gR 0 4 h v3) (fun x3 => Option.bind (q_gR 0 3 h v3) (fun x4 => Option.bind (f_X7_rebuild h x2 x3 x4 v5) (fun q5 => if ((q_iushr q5.2 v2) &&& (1)) = 0 then b_X9_frees_94 k55 q5.1 v0 v2 v3 (v4 ||| ((1) <<< (v5 &&& 31))) v5 else b_X9_frees_94 k55 q5.1 v0 v2 v3 v4 v5))))
def l_X9_frees_55 : Nat → q_H → Nat → Int32 → Nat → Int32 → Int32 → Option (q_H × Int32)
  | 0, _, _, _, _, _, _ => none
  | n + 1, h, v0, v2, v3, v4, v5 => b_X9_frees_55 (l_X9_frees_55 n) h v0 v2 v3 v4 v5
def b_X9_frees_0 (h : q_H) (v0 : Nat) (v1 : Int32) (v2 : Int32) : Option (q_H × Int32) :=
  Option.bind (f_X9_isCopy h v1) (fun q6 => if q6.2 = 0 then some (q6.1, (-1)) else Option.bind (q_gR 8 0 q6.1 v0) (fun x7 => Option.bind (q_gR 7 0 q6.1 x7) (fun x8 => Option.bind (q_lR 4 q6.1 x8 v1) (fun x9 => Option.bind (f_X0_hasMove q6.1 x9 v2) (fun q10 => if q10.2 = 0 then some (q10.1, (-1)) else Option.bind (q_gR 8 0 q10.1 v0) (fun x11 => Option.bind (q_gR 7 0 q10.1 x11) (fun x12 => Option.bind (q_lR 4 q10.1 x12 v1) (fun x13 => Option.bind (q_gI 0 6 q10.1 x13) (fun x14 => if ((q_iushr x14 v2) &&& (1)) = 0 then some (q10.1, (-2)) else l_X9_frees_55 q_FU q10.1 v0 v2 x13 (0) (0))))))))))
def f_X9_frees (h : q_H) (a0 : Nat) (a1 : Int32) (a2 : Int32) : Option (q_H × Int32) := q_chk 8 h a0 (b_X9_frees_0 h a0 a1 a2)
set_option maxRecDepth 20000 in
set_option maxHeartbeats 1000000 in
theorem jb_X9_frees_94 {G : q_G} {l : Launch} {k0 z0 : Nat} (k55 : q_H → Nat → Int32 → Nat → Int32 → Int32 → Option (q_H × Int32)) (hk55 : ∀ (h : q_H) (v0 : Nat) (v2 : Int32) (v3 : Nat) (v4 : Int32) (v5 : Int32), q_J G l (RX9, cX9_frees, 6, 3, 106, (some .int), "frees", []) k0 z0 (q_Z G k0 z0 q_i) 55 [(0, .ref v0), (2, .int v2), (3, .ref v3), (4, .int v4), (5, .int v5)] [] h (k55 h v0 v2 v3 v4 v5)) (h : q_H) (v0 : Nat) (v2 : Int32) (v3 : Nat) (v4 : Int32) (v5 : Int32) : q_J G l (RX9, cX9_frees, 6, 3, 106, (some .int), "frees", []) k0 z0 (q_Z G k0 z0 q_i) 94 [(0, .ref v0), (2, .int v2), (3, .ref v3), (4, .int v4), (5, .int v5)] [] h (b_X9_frees_94 k55 h v0 v2 v3 v4 v5) := by
  unfold b_X9_frees_94
  refine j_inc (pc := 94) (p := 4) (lv' := [(5, .int (v5 + 1)), (0, .ref v0), (2, .int v2), (3, .ref v3), (4, .int v4)]) rfl ki_1 (by decide) rfl dX9_frees_94 ?_
  refine j_goto (pc := 97) (tgt := 55) dX9_frees_97 (by decide) ?_
  refine j_sub [1, 2, 3, 4, 0] (lv' := [(0, .ref v0), (2, .int v2), (3, .ref v3), (4, .int v4), (5, .int (v5 + 1))]) rfl ?_
  exact hk55 _ _ _ _ _ _
set_option maxRecDepth 20000 in
set_option maxHeartbeats 1000000 in
theorem jb_X9_frees_55 {G : q_G} {l : Launch} {k0 z0 : Nat} (k55 : q_H → Nat → Int32 → Nat → Int32 → Int32 → Option (q_H × Int32)) (hk55 : ∀ (h : q_H) (v0 : Nat) (v2 : Int32) (v3 : Nat) (v4 : Int32) (v5 : Int32), q_J G l (RX9, cX9_frees, 6, 3, 106, (some .int), "frees", []) k0 z0 (q_Z G k0 z0 q_i) 55 [(0, .ref v0), (2, .int v2), (3, .ref v3), (4, .int v4), (5, .int v5)] [] h (k55 h v0 v2 v3 v4 v5)) (h : q_H) (v0 : Nat) (v2 : Int32) (v3 : Nat) (v4 : Int32) (v5 : Int32) : q_J G l (RX9, cX9_frees, 6, 3, 106, (some .int), "frees", []) k0 z0 (q_Z G k0 z0 q_i) 55 [(0, .ref v0), (2, .int v2), (3, .ref v3), (4, .int v4), (5, .int v5)] [] h (b_X9_frees_55 k55 h v0 v2 v3 v4 v5) := by
  unfold b_X9_frees_55
  refine j_iload (pc := 55) (p := 4) rfl dX9_frees_55 ?_
  refine j_iload_n (pc := 57) (p := 1) rfl rfl dX9_frees_57 ?_
  refine j_ic_ge (pc := 58) (tgt := 100) dX9_frees_58 (by decide) (fun _ => ?_) (fun _ => ?_)
  · refine j_aload_n (pc := 100) (p := 0) rfl rfl dX9_frees_100 ?_
    refine j_iload (pc := 101) (p := 3) rfl dX9_frees_101 ?_
    refine j_cVi (pc := 103) Y_X9_tellSet (ci := 8) (b := v0) rfl rfl ml_X9_209 im_X9_tellSet se_X9_tellSet ⟨Nat.le_of_ble_eq_true rfl, Nat.le_of_ble_eq_true rfl⟩ dX9_frees_103 (As := [.int v4]) (rest := []) rfl rfl (Nat.le_of_ble_eq_true rfl) (fun x hq9 => c_X9_tellSet _ _ _ _ hq9) (fun q1 _ => ?_)
    exact j_iret (pc := 106) rfl dX9_frees_106
  refine j_aload_n (pc := 61) (p := 0) rfl rfl dX9_frees_61 ?_
  refine j_getR (pc := 62) FI_X9 (k := 6) (by decide) fl_X9_44 dX9_frees_62 (fun x2 _ => ?_)
  refine j_aload_n (pc := 65) (p := 2) rfl rfl dX9_frees_65 ?_
  refine j_getR (pc := 66) FI_X0 (k := 4) (by decide) fl_X9_306 dX9_frees_66 (fun x3 _ => ?_)
  refine j_aload_n (pc := 69) (p := 2) rfl rfl dX9_frees_69 ?_
  refine j_getR (pc := 70) FI_X0 (k := 3) (by decide) fl_X9_120 dX9_frees_70 (fun x4 _ => ?_)
  refine j_iload (pc := 73) (p := 4) rfl dX9_frees_73 ?_
  refine j_cVi (pc := 75) Y_X7_rebuild (ci := 6) (b := x2) rfl rfl ml_X9_309 im_X7_rebuild se_X7_rebuild ⟨Nat.le_of_ble_eq_true rfl, Nat.le_of_ble_eq_true rfl⟩ dX9_frees_75 (As := [.ref x3, .ref x4, .int v5]) (rest := []) rfl rfl (Nat.le_of_ble_eq_true rfl) (fun x hq9 => c_X7_rebuild _ _ _ _ _ _ hq9) (fun q5 _ => ?_)
  refine j_iload_n (pc := 78) (p := 1) rfl rfl dX9_frees_78 ?_
  refine j_iushr (pc := 79) dX9_frees_79 ?_
  refine j_iconst (pc := 80) ki_1 dX9_frees_80 ?_
  refine j_iand (pc := 81) dX9_frees_81 ?_
  refine j_if_ne (pc := 82) (tgt := 94) dX9_frees_82 (by decide) (fun _ => ?_) (fun _ => ?_)
  · refine j_iload (pc := 85) (p := 3) rfl dX9_frees_85 ?_
    refine j_iconst (pc := 87) ki_1 dX9_frees_87 ?_
    refine j_iload (pc := 88) (p := 4) rfl dX9_frees_88 ?_
    refine j_ishl (pc := 90) dX9_frees_90 ?_
    refine j_ior (pc := 91) dX9_frees_91 ?_
    refine j_istore (pc := 92) (lv' := [(4, .int (v4 ||| ((1) <<< (v5 &&& 31)))), (0, .ref v0), (2, .int v2), (3, .ref v3), (5, .int v5)]) (by decide) rfl dX9_frees_92 ?_
    refine j_sub [1, 2, 3, 0, 4] (lv' := [(0, .ref v0), (2, .int v2), (3, .ref v3), (4, .int (v4 ||| ((1) <<< (v5 &&& 31)))), (5, .int v5)]) rfl ?_
    exact jb_X9_frees_94 k55 hk55 _ _ _ _ _ _
  exact jb_X9_frees_94 k55 hk55 _ _ _ _ _ _
set_option maxRecDepth 20000 in
set_option maxHeartbeats 1000000 in
theorem jl_X9_frees_55 {G : q_G} {l : Launch} {k0 z0 : Nat} (n : Nat) : ∀ (h : q_H) (v0 : Nat) (v2 : Int32) (v3 : Nat) (v4 : Int32) (v5 : Int32), q_J G l (RX9, cX9_frees, 6, 3, 106, (some .int), "frees", []) k0 z0 (q_Z G k0 z0 q_i) 55 [(0, .ref v0), (2, .int v2), (3, .ref v3), (4, .int v4), (5, .int v5)] [] h (l_X9_frees_55 n h v0 v2 v3 v4 v5) := by
  induction n with
  | zero => intro h v0 v2 v3 v4 v5; exact j_none
  | succ n ih => intro h v0 v2 v3 v4 v5; exact jb_X9_frees_55 (l_X9_frees_55 n) ih h v0 v2 v3 v4 v5
set_option maxRecDepth 20000 in
set_option maxHeartbeats 1000000 in
theorem jb_X9_frees_0 {G : q_G} {l : Launch} {k0 z0 : Nat} (h : q_H) (v0 : Nat) (v1 : Int32) (v2 : Int32) : q_J G l (RX9, cX9_frees, 6, 3, 106, (some .int), "frees", []) k0 z0 (q_Z G k0 z0 q_i) 0 [(0, .ref v0), (1, .int v1), (2, .int v2)] [] h (b_X9_frees_0 h v0 v1 v2) := by
  unfold b_X9_frees_0
  refine j_iload_n (pc := 0) (p := 1) rfl rfl dX9_frees_0 ?_
  refine j_cSi (pc := 1) Y_X9_isCopy ml_X9_73 sm_X9_isCopy ⟨Nat.le_of_ble_eq_true rfl, Nat.le_of_ble_eq_true rfl⟩ dX9_frees_1 (As := [.int v1]) (rest := []) rfl rfl (Nat.le_of_ble_eq_true rfl) (fun x hq9 => c_X9_isCopy _ _ _ hq9) (fun q6 _ => ?_)
  refine j_if_eq (pc := 4) (tgt := 23) dX9_frees_4 (by decide) (fun _ => ?_) (fun _ => ?_)
  · refine j_iconst (pc := 23) ki_m1 dX9_frees_23 ?_
    exact j_iret (pc := 24) rfl dX9_frees_24
  refine j_aload_n (pc := 7) (p := 0) rfl rfl dX9_frees_7 ?_
  refine j_getR (pc := 8) FI_X9 (k := 0) (by decide) fl_X9_12 dX9_frees_8 (fun x7 _ => ?_)
  refine j_getR (pc := 11) FI_X8 (k := 0) (by decide) fl_X9_82 dX9_frees_11 (fun x8 _ => ?_)
  refine j_iload_n (pc := 14) (p := 1) rfl rfl dX9_frees_14 ?_
  refine j_aald (pc := 15) (t := 4) rfl dX9_frees_15 (fun x9 _ => ?_)
  refine j_iload_n (pc := 16) (p := 2) rfl rfl dX9_frees_16 ?_
  refine j_cVi (pc := 17) Y_X0_hasMove (ci := 0) (b := x9) rfl rfl ml_X9_117 im_X0_hasMove se_X0_hasMove ⟨Nat.le_of_ble_eq_true rfl, Nat.le_of_ble_eq_true rfl⟩ dX9_frees_17 (As := [.int v2]) (rest := []) rfl rfl (Nat.le_of_ble_eq_true rfl) (fun x hq9 => c_X0_hasMove _ _ _ _ hq9) (fun q10 _ => ?_)
  refine j_if_ne (pc := 20) (tgt := 25) dX9_frees_20 (by decide) (fun _ => ?_) (fun _ => ?_)
  · refine j_iconst (pc := 23) ki_m1 dX9_frees_23 ?_
    exact j_iret (pc := 24) rfl dX9_frees_24
  refine j_aload_n (pc := 25) (p := 0) rfl rfl dX9_frees_25 ?_
  refine j_getR (pc := 26) FI_X9 (k := 0) (by decide) fl_X9_12 dX9_frees_26 (fun x11 _ => ?_)
  refine j_getR (pc := 29) FI_X8 (k := 0) (by decide) fl_X9_82 dX9_frees_29 (fun x12 _ => ?_)
  refine j_iload_n (pc := 32) (p := 1) rfl rfl dX9_frees_32 ?_
  refine j_aald (pc := 33) (t := 4) rfl dX9_frees_33 (fun x13 _ => ?_)
  refine j_astore_n (pc := 34) (lv' := [(3, .ref x13), (0, .ref v0), (1, .int v1), (2, .int v2)]) rfl (by decide) rfl dX9_frees_34 ?_
  refine j_aload_n (pc := 35) (p := 0) rfl rfl dX9_frees_35 ?_
  refine j_getI (pc := 36) FI_X0 (k := 6) (by decide) fl_X9_133 dX9_frees_36 (fun x14 _ => ?_)
  refine j_iload_n (pc := 39) (p := 3) rfl rfl dX9_frees_39 ?_
  refine j_iushr (pc := 40) dX9_frees_40 ?_
  refine j_iconst (pc := 41) ki_1 dX9_frees_41 ?_
  refine j_iand (pc := 42) dX9_frees_42 ?_
  refine j_if_ne (pc := 43) (tgt := 49) dX9_frees_43 (by decide) (fun _ => ?_) (fun _ => ?_)
  · refine j_bipush (pc := 46) kb_m2 dX9_frees_46 ?_
    exact j_iret (pc := 48) rfl dX9_frees_48
  refine j_iconst (pc := 49) ki_0 dX9_frees_49 ?_
  refine j_istore (pc := 50) (lv' := [(4, .int (0)), (3, .ref x13), (0, .ref v0), (1, .int v1), (2, .int v2)]) (by decide) rfl dX9_frees_50 ?_
  refine j_iconst (pc := 52) ki_0 dX9_frees_52 ?_
  refine j_istore (pc := 53) (lv' := [(5, .int (0)), (4, .int (0)), (3, .ref x13), (0, .ref v0), (1, .int v1), (2, .int v2)]) (by decide) rfl dX9_frees_53 ?_
  refine j_sub [3, 5, 2, 1, 0] (lv' := [(0, .ref v0), (2, .int v2), (3, .ref x13), (4, .int (0)), (5, .int (0))]) rfl ?_
  exact jl_X9_frees_55 q_FU _ _ _ _ _ _
set_option maxRecDepth 20000 in
set_option maxHeartbeats 1000000 in
theorem c_X9_frees {G : q_G} {l : Launch} : ∀ (h : q_H) (a0 : Nat) (a1 : Int32) (a2 : Int32) (q : q_H × Int32), f_X9_frees h a0 a1 a2 = some q → (∃ fs, h.1 a0 = .inr (8, fs)) ∧ q_CT G l yX9_frees cX9_frees 6 (some .int) 3 106 [.ref a0, .int a1, .int a2] h q.1 (q_i q.2) := by
  intro h a0 a1 a2 q e
  obtain ⟨e1, e2⟩ := q_chk_ok e
  exact ⟨e1, q_ofJ Y_X9_frees (Nat.le_of_ble_eq_true rfl) (jb_X9_frees_0 h a0 a1 a2) q e2⟩
