/-! FarFoldersModel.comesOne(II)I -/
theorem dX10_comesOne_0 : decode cX10_comesOne 0 = .ok (.iload_n 1, 1) := by decide +kernel
theorem dX10_comesOne_1 : decode cX10_comesOne 1 = .ok (.iload_n 2, 1) := by decide +kernel
theorem dX10_comesOne_2 : decode cX10_comesOne 2 = .ok (.invokestatic 223, 3) := by decide +kernel
theorem dX10_comesOne_5 : decode cX10_comesOne 5 = .ok (.ifCond .ne 5, 3) := by decide +kernel
theorem dX10_comesOne_8 : decode cX10_comesOne 8 = .ok (.iconst (-1), 1) := by decide +kernel
theorem dX10_comesOne_9 : decode cX10_comesOne 9 = .ok (.ireturn, 1) := by decide +kernel
theorem dX10_comesOne_10 : decode cX10_comesOne 10 = .ok (.aload_n 0, 1) := by decide +kernel
theorem dX10_comesOne_11 : decode cX10_comesOne 11 = .ok (.iload_n 1, 1) := by decide +kernel
theorem dX10_comesOne_12 : decode cX10_comesOne 12 = .ok (.iload_n 2, 1) := by decide +kernel
theorem dX10_comesOne_13 : decode cX10_comesOne 13 = .ok (.invokevirtual 173, 3) := by decide +kernel
theorem dX10_comesOne_16 : decode cX10_comesOne 16 = .ok (.ifCond .ne 6, 3) := by decide +kernel
theorem dX10_comesOne_19 : decode cX10_comesOne 19 = .ok (.bipush (-2), 2) := by decide +kernel
theorem dX10_comesOne_21 : decode cX10_comesOne 21 = .ok (.ireturn, 1) := by decide +kernel
theorem dX10_comesOne_22 : decode cX10_comesOne 22 = .ok (.aload_n 0, 1) := by decide +kernel
theorem dX10_comesOne_23 : decode cX10_comesOne 23 = .ok (.iload_n 1, 1) := by decide +kernel
theorem dX10_comesOne_24 : decode cX10_comesOne 24 = .ok (.iload_n 2, 1) := by decide +kernel
theorem dX10_comesOne_25 : decode cX10_comesOne 25 = .ok (.iconst 0, 1) := by decide +kernel
theorem dX10_comesOne_26 : decode cX10_comesOne 26 = .ok (.invokestatic 176, 3) := by decide +kernel
theorem dX10_comesOne_29 : decode cX10_comesOne 29 = .ok (.invokevirtual 122, 3) := by decide +kernel
theorem dX10_comesOne_32 : decode cX10_comesOne 32 = .ok (.ifCond .eq 21, 3) := by decide +kernel
theorem dX10_comesOne_35 : decode cX10_comesOne 35 = .ok (.aload_n 0, 1) := by decide +kernel
theorem dX10_comesOne_36 : decode cX10_comesOne 36 = .ok (.getfield 47, 3) := by decide +kernel
theorem dX10_comesOne_39 : decode cX10_comesOne 39 = .ok (.sipush 180, 3) := by decide +kernel
theorem dX10_comesOne_42 : decode cX10_comesOne 42 = .ok (.iload_n 2, 1) := by decide +kernel
theorem dX10_comesOne_43 : decode cX10_comesOne 43 = .ok (.iadd, 1) := by decide +kernel
theorem dX10_comesOne_44 : decode cX10_comesOne 44 = .ok (.iaload, 1) := by decide +kernel
theorem dX10_comesOne_45 : decode cX10_comesOne 45 = .ok (.bipush 20, 2) := by decide +kernel
theorem dX10_comesOne_47 : decode cX10_comesOne 47 = .ok (.if_icmp .ne 6, 3) := by decide +kernel
theorem dX10_comesOne_50 : decode cX10_comesOne 50 = .ok (.bipush (-3), 2) := by decide +kernel
theorem dX10_comesOne_52 : decode cX10_comesOne 52 = .ok (.ireturn, 1) := by decide +kernel
theorem dX10_comesOne_53 : decode cX10_comesOne 53 = .ok (.aload_n 0, 1) := by decide +kernel
theorem dX10_comesOne_54 : decode cX10_comesOne 54 = .ok (.iload_n 1, 1) := by decide +kernel
theorem dX10_comesOne_55 : decode cX10_comesOne 55 = .ok (.iload_n 2, 1) := by decide +kernel
theorem dX10_comesOne_56 : decode cX10_comesOne 56 = .ok (.invokevirtual 226, 3) := by decide +kernel
theorem dX10_comesOne_59 : decode cX10_comesOne 59 = .ok (.aload_n 0, 1) := by decide +kernel
theorem dX10_comesOne_60 : decode cX10_comesOne 60 = .ok (.iload_n 2, 1) := by decide +kernel
theorem dX10_comesOne_61 : decode cX10_comesOne 61 = .ok (.invokevirtual 187, 3) := by decide +kernel
theorem dX10_comesOne_64 : decode cX10_comesOne 64 = .ok (.aload_n 0, 1) := by decide +kernel
theorem dX10_comesOne_65 : decode cX10_comesOne 65 = .ok (.iload_n 1, 1) := by decide +kernel
theorem dX10_comesOne_66 : decode cX10_comesOne 66 = .ok (.iload_n 2, 1) := by decide +kernel
theorem dX10_comesOne_67 : decode cX10_comesOne 67 = .ok (.invokevirtual 229, 3) := by decide +kernel
theorem dX10_comesOne_70 : decode cX10_comesOne 70 = .ok (.aload_n 0, 1) := by decide +kernel
theorem dX10_comesOne_71 : decode cX10_comesOne 71 = .ok (.getfield 214, 3) := by decide +kernel
theorem dX10_comesOne_74 : decode cX10_comesOne 74 = .ok (.ireturn, 1) := by decide +kernel
def b_X10_comesOne_53 (h : q_H) (v0 : Nat) (v1 : Int32) (v2 : Int32) : Option (q_H × Int32) :=
  Option.bind (f_X10_tries h v0 v1 v2) (fun q1 => Option.bind (f_X10_keepsList q1.1 v0 v2) (fun q2 => Option.bind (f_X10_hears q2.1 v0 v1 v2) (fun q3 => Option.bind (q_gI 9 13 q3.1 v0) (fun x4 => some (q3.1, x4)))))
def b_X10_comesOne_0 (h : q_H) (v0 : Nat) (v1 : Int32) (v2 : Int32) : Option (q_H × Int32) :=
  Option.bind (f_X10_areTwo h v1 v2) (fun q5 => if q5.2 = 0 then some (q5.1, (-1)) else Option.bind (f_X10_waiting q5.1 v0 v1 v2) (fun q6 => if q6.2 = 0 then some (q6.1, (-2)) else Option.bind (f_X10_letterOf q6.1 v1 v2 (0)) (fun q7 => Option.bind (f_X10_isMove q7.1 v0 q7.2) (fun q8 => if q8.2 = 0 then b_X10_comesOne_53 q8.1 v0 v1 v2 else Option.bind (q_gR 9 7 q8.1 v0) (fun x9 => Option.bind (q_lI 0 q8.1 x9 ((180) + v2)) (fun x10 => if x10 = (20) then some (q8.1, (-3)) else b_X10_comesOne_53 q8.1 v0 v1 v2))))))
def f_X10_comesOne (h : q_H) (a0 : Nat) (a1 : Int32) (a2 : Int32) : Option (q_H × Int32) := q_chk 9 h a0 (b_X10_comesOne_0 h a0 a1 a2)
set_option maxRecDepth 20000 in
set_option maxHeartbeats 1000000 in
theorem jb_X10_comesOne_53 {G : q_G} {l : Launch} {k0 z0 : Nat} (h : q_H) (v0 : Nat) (v1 : Int32) (v2 : Int32) : q_J G l (RX10, cX10_comesOne, 3, 6, 141, (some .int), "comesOne", []) k0 z0 (q_Z G k0 z0 q_i) 53 [(0, .ref v0), (1, .int v1), (2, .int v2)] [] h (b_X10_comesOne_53 h v0 v1 v2) := by
  unfold b_X10_comesOne_53
  refine j_aload_n (pc := 53) (p := 0) rfl rfl dX10_comesOne_53 ?_
  refine j_iload_n (pc := 54) (p := 1) rfl rfl dX10_comesOne_54 ?_
  refine j_iload_n (pc := 55) (p := 2) rfl rfl dX10_comesOne_55 ?_
  refine j_cVu (pc := 56) Y_X10_tries (ci := 9) (b := v0) rfl rfl ml_X10_226 im_X10_tries se_X10_tries ⟨Nat.le_of_ble_eq_true rfl, Nat.le_of_ble_eq_true rfl⟩ dX10_comesOne_56 (As := [.int v1, .int v2]) (rest := []) rfl rfl (Nat.le_of_ble_eq_true rfl) (fun x hq9 => c_X10_tries _ _ _ _ _ hq9) (fun q1 _ => ?_)
  refine j_aload_n (pc := 59) (p := 0) rfl rfl dX10_comesOne_59 ?_
  refine j_iload_n (pc := 60) (p := 2) rfl rfl dX10_comesOne_60 ?_
  refine j_cVu (pc := 61) Y_X10_keepsList (ci := 9) (b := v0) rfl rfl ml_X10_187 im_X10_keepsList se_X10_keepsList ⟨Nat.le_of_ble_eq_true rfl, Nat.le_of_ble_eq_true rfl⟩ dX10_comesOne_61 (As := [.int v2]) (rest := []) rfl rfl (Nat.le_of_ble_eq_true rfl) (fun x hq9 => c_X10_keepsList _ _ _ _ hq9) (fun q2 _ => ?_)
  refine j_aload_n (pc := 64) (p := 0) rfl rfl dX10_comesOne_64 ?_
  refine j_iload_n (pc := 65) (p := 1) rfl rfl dX10_comesOne_65 ?_
  refine j_iload_n (pc := 66) (p := 2) rfl rfl dX10_comesOne_66 ?_
  refine j_cVu (pc := 67) Y_X10_hears (ci := 9) (b := v0) rfl rfl ml_X10_229 im_X10_hears se_X10_hears ⟨Nat.le_of_ble_eq_true rfl, Nat.le_of_ble_eq_true rfl⟩ dX10_comesOne_67 (As := [.int v1, .int v2]) (rest := []) rfl rfl (Nat.le_of_ble_eq_true rfl) (fun x hq9 => c_X10_hears _ _ _ _ _ hq9) (fun q3 _ => ?_)
  refine j_aload_n (pc := 70) (p := 0) rfl rfl dX10_comesOne_70 ?_
  refine j_getI (pc := 71) FI_X10 (k := 13) (by decide) fl_X10_214 dX10_comesOne_71 (fun x4 _ => ?_)
  exact j_iret (pc := 74) rfl dX10_comesOne_74
set_option maxRecDepth 20000 in
set_option maxHeartbeats 1000000 in
theorem jb_X10_comesOne_0 {G : q_G} {l : Launch} {k0 z0 : Nat} (h : q_H) (v0 : Nat) (v1 : Int32) (v2 : Int32) : q_J G l (RX10, cX10_comesOne, 3, 6, 141, (some .int), "comesOne", []) k0 z0 (q_Z G k0 z0 q_i) 0 [(0, .ref v0), (1, .int v1), (2, .int v2)] [] h (b_X10_comesOne_0 h v0 v1 v2) := by
  unfold b_X10_comesOne_0
  refine j_iload_n (pc := 0) (p := 1) rfl rfl dX10_comesOne_0 ?_
  refine j_iload_n (pc := 1) (p := 2) rfl rfl dX10_comesOne_1 ?_
  refine j_cSi (pc := 2) Y_X10_areTwo ml_X10_223 sm_X10_areTwo ⟨Nat.le_of_ble_eq_true rfl, Nat.le_of_ble_eq_true rfl⟩ dX10_comesOne_2 (As := [.int v1, .int v2]) (rest := []) rfl rfl (Nat.le_of_ble_eq_true rfl) (fun x hq9 => c_X10_areTwo _ _ _ _ hq9) (fun q5 _ => ?_)
  refine j_if_ne (pc := 5) (tgt := 10) dX10_comesOne_5 (by decide) (fun _ => ?_) (fun _ => ?_)
  · refine j_iconst (pc := 8) ki_m1 dX10_comesOne_8 ?_
    exact j_iret (pc := 9) rfl dX10_comesOne_9
  refine j_aload_n (pc := 10) (p := 0) rfl rfl dX10_comesOne_10 ?_
  refine j_iload_n (pc := 11) (p := 1) rfl rfl dX10_comesOne_11 ?_
  refine j_iload_n (pc := 12) (p := 2) rfl rfl dX10_comesOne_12 ?_
  refine j_cVi (pc := 13) Y_X10_waiting (ci := 9) (b := v0) rfl rfl ml_X10_173 im_X10_waiting se_X10_waiting ⟨Nat.le_of_ble_eq_true rfl, Nat.le_of_ble_eq_true rfl⟩ dX10_comesOne_13 (As := [.int v1, .int v2]) (rest := []) rfl rfl (Nat.le_of_ble_eq_true rfl) (fun x hq9 => c_X10_waiting _ _ _ _ _ hq9) (fun q6 _ => ?_)
  refine j_if_ne (pc := 16) (tgt := 22) dX10_comesOne_16 (by decide) (fun _ => ?_) (fun _ => ?_)
  · refine j_bipush (pc := 19) kb_m2 dX10_comesOne_19 ?_
    exact j_iret (pc := 21) rfl dX10_comesOne_21
  refine j_aload_n (pc := 22) (p := 0) rfl rfl dX10_comesOne_22 ?_
  refine j_iload_n (pc := 23) (p := 1) rfl rfl dX10_comesOne_23 ?_
  refine j_iload_n (pc := 24) (p := 2) rfl rfl dX10_comesOne_24 ?_
  refine j_iconst (pc := 25) ki_0 dX10_comesOne_25 ?_
  refine j_cSi (pc := 26) Y_X10_letterOf ml_X10_176 sm_X10_letterOf ⟨Nat.le_of_ble_eq_true rfl, Nat.le_of_ble_eq_true rfl⟩ dX10_comesOne_26 (As := [.int v1, .int v2, .int (0)]) (rest := [.ref v0]) rfl rfl (Nat.le_of_ble_eq_true rfl) (fun x hq9 => c_X10_letterOf _ _ _ _ _ hq9) (fun q7 _ => ?_)
  refine j_cVi (pc := 29) Y_X10_isMove (ci := 9) (b := v0) rfl rfl ml_X10_122 im_X10_isMove se_X10_isMove ⟨Nat.le_of_ble_eq_true rfl, Nat.le_of_ble_eq_true rfl⟩ dX10_comesOne_29 (As := [.int q7.2]) (rest := []) rfl rfl (Nat.le_of_ble_eq_true rfl) (fun x hq9 => c_X10_isMove _ _ _ _ hq9) (fun q8 _ => ?_)
  refine j_if_eq (pc := 32) (tgt := 53) dX10_comesOne_32 (by decide) (fun _ => ?_) (fun _ => ?_)
  · exact jb_X10_comesOne_53 _ _ _ _
  refine j_aload_n (pc := 35) (p := 0) rfl rfl dX10_comesOne_35 ?_
  refine j_getR (pc := 36) FI_X10 (k := 7) (by decide) fl_X10_47 dX10_comesOne_36 (fun x9 _ => ?_)
  refine j_sipush (pc := 39) ks_180 dX10_comesOne_39 ?_
  refine j_iload_n (pc := 42) (p := 2) rfl rfl dX10_comesOne_42 ?_
  refine j_iadd (pc := 43) dX10_comesOne_43 ?_
  refine j_iald (pc := 44) dX10_comesOne_44 (fun x10 _ => ?_)
  refine j_bipush (pc := 45) kb_20 dX10_comesOne_45 ?_
  refine j_ic_ne (pc := 47) (tgt := 53) dX10_comesOne_47 (by decide) (fun _ => ?_) (fun _ => ?_)
  · refine j_bipush (pc := 50) kb_m3 dX10_comesOne_50 ?_
    exact j_iret (pc := 52) rfl dX10_comesOne_52
  exact jb_X10_comesOne_53 _ _ _ _
set_option maxRecDepth 20000 in
set_option maxHeartbeats 1000000 in
theorem c_X10_comesOne {G : q_G} {l : Launch} : ∀ (h : q_H) (a0 : Nat) (a1 : Int32) (a2 : Int32) (q : q_H × Int32), f_X10_comesOne h a0 a1 a2 = some q → (∃ fs, h.1 a0 = .inr (9, fs)) ∧ q_CT G l yX10_comesOne cX10_comesOne 3 (some .int) 6 141 [.ref a0, .int a1, .int a2] h q.1 (q_i q.2) := by
  intro h a0 a1 a2 q e
  obtain ⟨e1, e2⟩ := q_chk_ok e
  exact ⟨e1, q_ofJ Y_X10_comesOne (Nat.le_of_ble_eq_true rfl) (jb_X10_comesOne_0 h a0 a1 a2) q e2⟩
/-! FarFoldersModel.comes(II)I -/
theorem dX10_comes_0 : decode cX10_comes 0 = .ok (.aload_n 0, 1) := by decide +kernel
theorem dX10_comes_1 : decode cX10_comes 1 = .ok (.iconst 0, 1) := by decide +kernel
theorem dX10_comes_2 : decode cX10_comes 2 = .ok (.putfield 1, 3) := by decide +kernel
theorem dX10_comes_5 : decode cX10_comes 5 = .ok (.aload_n 0, 1) := by decide +kernel
theorem dX10_comes_6 : decode cX10_comes 6 = .ok (.iload_n 1, 1) := by decide +kernel
theorem dX10_comes_7 : decode cX10_comes 7 = .ok (.iload_n 2, 1) := by decide +kernel
theorem dX10_comes_8 : decode cX10_comes 8 = .ok (.invokevirtual 232, 3) := by decide +kernel
theorem dX10_comes_11 : decode cX10_comes 11 = .ok (.istore_n 3, 1) := by decide +kernel
theorem dX10_comes_12 : decode cX10_comes 12 = .ok (.iload_n 3, 1) := by decide +kernel
theorem dX10_comes_13 : decode cX10_comes 13 = .ok (.ifCond .lt 17, 3) := by decide +kernel
theorem dX10_comes_16 : decode cX10_comes 16 = .ok (.aload_n 0, 1) := by decide +kernel
theorem dX10_comes_17 : decode cX10_comes 17 = .ok (.iconst 0, 1) := by decide +kernel
theorem dX10_comes_18 : decode cX10_comes 18 = .ok (.putfield 11, 3) := by decide +kernel
theorem dX10_comes_21 : decode cX10_comes 21 = .ok (.aload_n 0, 1) := by decide +kernel
theorem dX10_comes_22 : decode cX10_comes 22 = .ok (.aload_n 0, 1) := by decide +kernel
theorem dX10_comes_23 : decode cX10_comes 23 = .ok (.getfield 220, 3) := by decide +kernel
theorem dX10_comes_26 : decode cX10_comes 26 = .ok (.i2l, 1) := by decide +kernel
theorem dX10_comes_27 : decode cX10_comes 27 = .ok (.invokevirtual 202, 3) := by decide +kernel
theorem dX10_comes_30 : decode cX10_comes 30 = .ok (.iload_n 3, 1) := by decide +kernel
theorem dX10_comes_31 : decode cX10_comes 31 = .ok (.ireturn, 1) := by decide +kernel
def b_X10_comes_0 (h : q_H) (v0 : Nat) (v1 : Int32) (v2 : Int32) : Option (q_H × Int32) :=
  Option.bind (q_p 9 0 h v0 (.int (0))) (fun h1 => Option.bind (f_X10_comesOne h1 v0 v1 v2) (fun q2 => if q2.2 < 0 then some (q2.1, q2.2) else Option.bind (q_p 9 1 q2.1 v0 (.int (0))) (fun h3 => Option.bind (q_gI 9 14 h3 v0) (fun x4 => Option.bind (f_X10_enters h3 v0 (Int32.toInt64 x4)) (fun q5 => some (q5.1, q2.2))))))
def f_X10_comes (h : q_H) (a0 : Nat) (a1 : Int32) (a2 : Int32) : Option (q_H × Int32) := q_chk 9 h a0 (b_X10_comes_0 h a0 a1 a2)
set_option maxRecDepth 20000 in
set_option maxHeartbeats 1000000 in
theorem jb_X10_comes_0 {G : q_G} {l : Launch} {k0 z0 : Nat} (h : q_H) (v0 : Nat) (v1 : Int32) (v2 : Int32) : q_J G l (RX10, cX10_comes, 4, 7, 163, (some .int), "comes", []) k0 z0 (q_Z G k0 z0 q_i) 0 [(0, .ref v0), (1, .int v1), (2, .int v2)] [] h (b_X10_comes_0 h v0 v1 v2) := by
  unfold b_X10_comes_0
  refine j_aload_n (pc := 0) (p := 0) rfl rfl dX10_comes_0 ?_
  refine j_iconst (pc := 1) ki_0 dX10_comes_1 ?_
  refine j_put (pc := 2) FI_X10 (k := 0) (by decide) fl_X10_1 rfl rfl rfl dX10_comes_2 (fun h1 _ => ?_)
  refine j_aload_n (pc := 5) (p := 0) rfl rfl dX10_comes_5 ?_
  refine j_iload_n (pc := 6) (p := 1) rfl rfl dX10_comes_6 ?_
  refine j_iload_n (pc := 7) (p := 2) rfl rfl dX10_comes_7 ?_
  refine j_cVi (pc := 8) Y_X10_comesOne (ci := 9) (b := v0) rfl rfl ml_X10_232 im_X10_comesOne se_X10_comesOne ⟨Nat.le_of_ble_eq_true rfl, Nat.le_of_ble_eq_true rfl⟩ dX10_comes_8 (As := [.int v1, .int v2]) (rest := []) rfl rfl (Nat.le_of_ble_eq_true rfl) (fun x hq9 => c_X10_comesOne _ _ _ _ _ hq9) (fun q2 _ => ?_)
  refine j_istore_n (pc := 11) (lv' := [(3, .int q2.2), (0, .ref v0), (1, .int v1), (2, .int v2)]) rfl (by decide) rfl dX10_comes_11 ?_
  refine j_iload_n (pc := 12) (p := 0) rfl rfl dX10_comes_12 ?_
  refine j_if_lt (pc := 13) (tgt := 30) dX10_comes_13 (by decide) (fun _ => ?_) (fun _ => ?_)
  · refine j_iload_n (pc := 30) (p := 0) rfl rfl dX10_comes_30 ?_
    exact j_iret (pc := 31) rfl dX10_comes_31
  refine j_aload_n (pc := 16) (p := 1) rfl rfl dX10_comes_16 ?_
  refine j_iconst (pc := 17) ki_0 dX10_comes_17 ?_
  refine j_put (pc := 18) FI_X10 (k := 1) (by decide) fl_X10_11 rfl rfl rfl dX10_comes_18 (fun h3 _ => ?_)
  refine j_aload_n (pc := 21) (p := 1) rfl rfl dX10_comes_21 ?_
  refine j_aload_n (pc := 22) (p := 1) rfl rfl dX10_comes_22 ?_
  refine j_getI (pc := 23) FI_X10 (k := 14) (by decide) fl_X10_220 dX10_comes_23 (fun x4 _ => ?_)
  refine j_i2l (pc := 26) dX10_comes_26 ?_
  refine j_cVu (pc := 27) Y_X10_enters (ci := 9) (b := v0) rfl rfl ml_X10_202 im_X10_enters se_X10_enters ⟨Nat.le_of_ble_eq_true rfl, Nat.le_of_ble_eq_true rfl⟩ dX10_comes_27 (As := [.long (Int32.toInt64 x4)]) (rest := []) rfl rfl (Nat.le_of_ble_eq_true rfl) (fun x hq9 => c_X10_enters _ _ _ _ hq9) (fun q5 _ => ?_)
  refine j_iload_n (pc := 30) (p := 0) rfl rfl dX10_comes_30 ?_
  exact j_iret (pc := 31) rfl dX10_comes_31
set_option maxRecDepth 20000 in
set_option maxHeartbeats 1000000 in
theorem c_X10_comes {G : q_G} {l : Launch} : ∀ (h : q_H) (a0 : Nat) (a1 : Int32) (a2 : Int32) (q : q_H × Int32), f_X10_comes h a0 a1 a2 = some q → (∃ fs, h.1 a0 = .inr (9, fs)) ∧ q_CT G l yX10_comes cX10_comes 4 (some .int) 7 163 [.ref a0, .int a1, .int a2] h q.1 (q_i q.2) := by
  intro h a0 a1 a2 q e
  obtain ⟨e1, e2⟩ := q_chk_ok e
  exact ⟨e1, q_ofJ Y_X10_comes (Nat.le_of_ble_eq_true rfl) (jb_X10_comes_0 h a0 a1 a2) q e2⟩
/-! FarFoldersModel.folders(I)I -/
theorem dX10_folders_0 : decode cX10_folders 0 = .ok (.iconst 0, 1) := by decide +kernel
theorem dX10_folders_1 : decode cX10_folders 1 = .ok (.istore_n 2, 1) := by decide +kernel
theorem dX10_folders_2 : decode cX10_folders 2 = .ok (.iconst 2, 1) := by decide +kernel
theorem dX10_folders_3 : decode cX10_folders 3 = .ok (.istore_n 3, 1) := by decide +kernel
theorem dX10_folders_4 : decode cX10_folders 4 = .ok (.iload_n 3, 1) := by decide +kernel
theorem dX10_folders_5 : decode cX10_folders 5 = .ok (.bipush 14, 2) := by decide +kernel
theorem dX10_folders_7 : decode cX10_folders 7 = .ok (.if_icmp .ge 28, 3) := by decide +kernel
theorem dX10_folders_10 : decode cX10_folders 10 = .ok (.iload_n 2, 1) := by decide +kernel
theorem dX10_folders_11 : decode cX10_folders 11 = .ok (.aload_n 0, 1) := by decide +kernel
theorem dX10_folders_12 : decode cX10_folders 12 = .ok (.iload_n 1, 1) := by decide +kernel
theorem dX10_folders_13 : decode cX10_folders 13 = .ok (.iload_n 3, 1) := by decide +kernel
theorem dX10_folders_14 : decode cX10_folders 14 = .ok (.invokevirtual 133, 3) := by decide +kernel
theorem dX10_folders_17 : decode cX10_folders 17 = .ok (.ifCond .eq 9, 3) := by decide +kernel
theorem dX10_folders_20 : decode cX10_folders 20 = .ok (.iconst 1, 1) := by decide +kernel
theorem dX10_folders_21 : decode cX10_folders 21 = .ok (.iload_n 3, 1) := by decide +kernel
theorem dX10_folders_22 : decode cX10_folders 22 = .ok (.ishl, 1) := by decide +kernel
theorem dX10_folders_23 : decode cX10_folders 23 = .ok (.goto 4, 3) := by decide +kernel
theorem dX10_folders_26 : decode cX10_folders 26 = .ok (.iconst 0, 1) := by decide +kernel
theorem dX10_folders_27 : decode cX10_folders 27 = .ok (.ior, 1) := by decide +kernel
theorem dX10_folders_28 : decode cX10_folders 28 = .ok (.istore_n 2, 1) := by decide +kernel
theorem dX10_folders_29 : decode cX10_folders 29 = .ok (.iinc 3 1, 3) := by decide +kernel
theorem dX10_folders_32 : decode cX10_folders 32 = .ok (.goto (-28), 3) := by decide +kernel
theorem dX10_folders_35 : decode cX10_folders 35 = .ok (.iload_n 2, 1) := by decide +kernel
theorem dX10_folders_36 : decode cX10_folders 36 = .ok (.ireturn, 1) := by decide +kernel
def b_X10_folders_27 (k4 : q_H → Nat → Int32 → Int32 → Int32 → Option (q_H × Int32)) (h : q_H) (v0 : Nat) (v1 : Int32) (v3 : Int32) (s0 : Int32) (s1 : Int32) : Option (q_H × Int32) :=
  k4 h v0 v1 (s0 ||| s1) (v3 + 1)
def b_X10_folders_4 (k4 : q_H → Nat → Int32 → Int32 → Int32 → Option (q_H × Int32)) (h : q_H) (v0 : Nat) (v1 : Int32) (v2 : Int32) (v3 : Int32) : Option (q_H × Int32) :=
  if (14) ≤ v3 then some (h, v2) else Option.bind (f_X10_isThere h v0 v1 v3) (fun q1 => if q1.2 = 0 then b_X10_folders_27 k4 q1.1 v0 v1 v3 v2 (0) else b_X10_folders_27 k4 q1.1 v0 v1 v3 v2 ((1) <<< (v3 &&& 31)))
def l_X10_folders_4 : Nat → q_H → Nat → Int32 → Int32 → Int32 → Option (q_H × Int32)
  | 0, _, _, _, _, _ => none
  | n + 1, h, v0, v1, v2, v3 => b_X10_folders_4 (l_X10_folders_4 n) h v0 v1 v2 v3
def b_X10_folders_0 (h : q_H) (v0 : Nat) (v1 : Int32) : Option (q_H × Int32) :=
  l_X10_folders_4 q_FU h v0 v1 (0) (2)
def f_X10_folders (h : q_H) (a0 : Nat) (a1 : Int32) : Option (q_H × Int32) := q_chk 9 h a0 (b_X10_folders_0 h a0 a1)
set_option maxRecDepth 20000 in
set_option maxHeartbeats 1000000 in
theorem jb_X10_folders_27 {G : q_G} {l : Launch} {k0 z0 : Nat} (k4 : q_H → Nat → Int32 → Int32 → Int32 → Option (q_H × Int32)) (hk4 : ∀ (h : q_H) (v0 : Nat) (v1 : Int32) (v2 : Int32) (v3 : Int32), q_J G l (RX10, cX10_folders, 4, 2, 45, (some .int), "folders", []) k0 z0 (q_Z G k0 z0 q_i) 4 [(0, .ref v0), (1, .int v1), (2, .int v2), (3, .int v3)] [] h (k4 h v0 v1 v2 v3)) (h : q_H) (v0 : Nat) (v1 : Int32) (v3 : Int32) (s0 : Int32) (s1 : Int32) : q_J G l (RX10, cX10_folders, 4, 2, 45, (some .int), "folders", []) k0 z0 (q_Z G k0 z0 q_i) 27 [(0, .ref v0), (1, .int v1), (3, .int v3)] [.int s1, .int s0] h (b_X10_folders_27 k4 h v0 v1 v3 s0 s1) := by
  unfold b_X10_folders_27
  refine j_ior (pc := 27) dX10_folders_27 ?_
  refine j_istore_n (pc := 28) (lv' := [(2, .int (s0 ||| s1)), (0, .ref v0), (1, .int v1), (3, .int v3)]) rfl (by decide) rfl dX10_folders_28 ?_
  refine j_inc (pc := 29) (p := 3) (lv' := [(3, .int (v3 + 1)), (2, .int (s0 ||| s1)), (0, .ref v0), (1, .int v1)]) rfl ki_1 (by decide) rfl dX10_folders_29 ?_
  refine j_goto (pc := 32) (tgt := 4) dX10_folders_32 (by decide) ?_
  refine j_sub [2, 3, 1, 0] (lv' := [(0, .ref v0), (1, .int v1), (2, .int (s0 ||| s1)), (3, .int (v3 + 1))]) rfl ?_
  exact hk4 _ _ _ _ _
set_option maxRecDepth 20000 in
set_option maxHeartbeats 1000000 in
theorem jb_X10_folders_4 {G : q_G} {l : Launch} {k0 z0 : Nat} (k4 : q_H → Nat → Int32 → Int32 → Int32 → Option (q_H × Int32)) (hk4 : ∀ (h : q_H) (v0 : Nat) (v1 : Int32) (v2 : Int32) (v3 : Int32), q_J G l (RX10, cX10_folders, 4, 2, 45, (some .int), "folders", []) k0 z0 (q_Z G k0 z0 q_i) 4 [(0, .ref v0), (1, .int v1), (2, .int v2), (3, .int v3)] [] h (k4 h v0 v1 v2 v3)) (h : q_H) (v0 : Nat) (v1 : Int32) (v2 : Int32) (v3 : Int32) : q_J G l (RX10, cX10_folders, 4, 2, 45, (some .int), "folders", []) k0 z0 (q_Z G k0 z0 q_i) 4 [(0, .ref v0), (1, .int v1), (2, .int v2), (3, .int v3)] [] h (b_X10_folders_4 k4 h v0 v1 v2 v3) := by
  unfold b_X10_folders_4
  refine j_iload_n (pc := 4) (p := 3) rfl rfl dX10_folders_4 ?_
  refine j_bipush (pc := 5) kb_14 dX10_folders_5 ?_
  refine j_ic_ge (pc := 7) (tgt := 35) dX10_folders_7 (by decide) (fun _ => ?_) (fun _ => ?_)
  · refine j_iload_n (pc := 35) (p := 2) rfl rfl dX10_folders_35 ?_
    exact j_iret (pc := 36) rfl dX10_folders_36
  refine j_iload_n (pc := 10) (p := 2) rfl rfl dX10_folders_10 ?_
  refine j_aload_n (pc := 11) (p := 0) rfl rfl dX10_folders_11 ?_
  refine j_iload_n (pc := 12) (p := 1) rfl rfl dX10_folders_12 ?_
  refine j_iload_n (pc := 13) (p := 3) rfl rfl dX10_folders_13 ?_
  refine j_cVi (pc := 14) Y_X10_isThere (ci := 9) (b := v0) rfl rfl ml_X10_133 im_X10_isThere se_X10_isThere ⟨Nat.le_of_ble_eq_true rfl, Nat.le_of_ble_eq_true rfl⟩ dX10_folders_14 (As := [.int v1, .int v3]) (rest := [.int v2]) rfl rfl (Nat.le_of_ble_eq_true rfl) (fun x hq9 => c_X10_isThere _ _ _ _ _ hq9) (fun q1 _ => ?_)
  refine j_if_eq (pc := 17) (tgt := 26) dX10_folders_17 (by decide) (fun _ => ?_) (fun _ => ?_)
  · refine j_iconst (pc := 26) ki_0 dX10_folders_26 ?_
    refine j_sub [0, 1, 3] (lv' := [(0, .ref v0), (1, .int v1), (3, .int v3)]) rfl ?_
    exact jb_X10_folders_27 k4 hk4 _ _ _ _ _ _
  refine j_iconst (pc := 20) ki_1 dX10_folders_20 ?_
  refine j_iload_n (pc := 21) (p := 3) rfl rfl dX10_folders_21 ?_
  refine j_ishl (pc := 22) dX10_folders_22 ?_
  refine j_goto (pc := 23) (tgt := 27) dX10_folders_23 (by decide) ?_
  refine j_sub [0, 1, 3] (lv' := [(0, .ref v0), (1, .int v1), (3, .int v3)]) rfl ?_
  exact jb_X10_folders_27 k4 hk4 _ _ _ _ _ _
set_option maxRecDepth 20000 in
set_option maxHeartbeats 1000000 in
theorem jl_X10_folders_4 {G : q_G} {l : Launch} {k0 z0 : Nat} (n : Nat) : ∀ (h : q_H) (v0 : Nat) (v1 : Int32) (v2 : Int32) (v3 : Int32), q_J G l (RX10, cX10_folders, 4, 2, 45, (some .int), "folders", []) k0 z0 (q_Z G k0 z0 q_i) 4 [(0, .ref v0), (1, .int v1), (2, .int v2), (3, .int v3)] [] h (l_X10_folders_4 n h v0 v1 v2 v3) := by
  induction n with
  | zero => intro h v0 v1 v2 v3; exact j_none
  | succ n ih => intro h v0 v1 v2 v3; exact jb_X10_folders_4 (l_X10_folders_4 n) ih h v0 v1 v2 v3
set_option maxRecDepth 20000 in
set_option maxHeartbeats 1000000 in
theorem jb_X10_folders_0 {G : q_G} {l : Launch} {k0 z0 : Nat} (h : q_H) (v0 : Nat) (v1 : Int32) : q_J G l (RX10, cX10_folders, 4, 2, 45, (some .int), "folders", []) k0 z0 (q_Z G k0 z0 q_i) 0 [(0, .ref v0), (1, .int v1)] [] h (b_X10_folders_0 h v0 v1) := by
  unfold b_X10_folders_0
  refine j_iconst (pc := 0) ki_0 dX10_folders_0 ?_
  refine j_istore_n (pc := 1) (lv' := [(2, .int (0)), (0, .ref v0), (1, .int v1)]) rfl (by decide) rfl dX10_folders_1 ?_
  refine j_iconst (pc := 2) ki_2 dX10_folders_2 ?_
  refine j_istore_n (pc := 3) (lv' := [(3, .int (2)), (2, .int (0)), (0, .ref v0), (1, .int v1)]) rfl (by decide) rfl dX10_folders_3 ?_
  refine j_sub [2, 3, 1, 0] (lv' := [(0, .ref v0), (1, .int v1), (2, .int (0)), (3, .int (2))]) rfl ?_
  exact jl_X10_folders_4 q_FU _ _ _ _ _
set_option maxRecDepth 20000 in
set_option maxHeartbeats 1000000 in
theorem c_X10_folders {G : q_G} {l : Launch} : ∀ (h : q_H) (a0 : Nat) (a1 : Int32) (q : q_H × Int32), f_X10_folders h a0 a1 = some q → (∃ fs, h.1 a0 = .inr (9, fs)) ∧ q_CT G l yX10_folders cX10_folders 4 (some .int) 2 45 [.ref a0, .int a1] h q.1 (q_i q.2) := by
  intro h a0 a1 q e
  obtain ⟨e1, e2⟩ := q_chk_ok e
  exact ⟨e1, q_ofJ Y_X10_folders (Nat.le_of_ble_eq_true rfl) (jb_X10_folders_0 h a0 a1) q e2⟩
/-! FarFoldersModel.lettersAll()I -/
theorem dX10_lettersAll_0 : decode cX10_lettersAll 0 = .ok (.iconst 0, 1) := by decide +kernel
theorem dX10_lettersAll_1 : decode cX10_lettersAll 1 = .ok (.istore_n 1, 1) := by decide +kernel
theorem dX10_lettersAll_2 : decode cX10_lettersAll 2 = .ok (.iconst 0, 1) := by decide +kernel
theorem dX10_lettersAll_3 : decode cX10_lettersAll 3 = .ok (.istore_n 2, 1) := by decide +kernel
theorem dX10_lettersAll_4 : decode cX10_lettersAll 4 = .ok (.iload_n 2, 1) := by decide +kernel
theorem dX10_lettersAll_5 : decode cX10_lettersAll 5 = .ok (.bipush 9, 2) := by decide +kernel
theorem dX10_lettersAll_7 : decode cX10_lettersAll 7 = .ok (.if_icmp .ge 22, 3) := by decide +kernel
theorem dX10_lettersAll_10 : decode cX10_lettersAll 10 = .ok (.iload_n 1, 1) := by decide +kernel
theorem dX10_lettersAll_11 : decode cX10_lettersAll 11 = .ok (.aload_n 0, 1) := by decide +kernel
theorem dX10_lettersAll_12 : decode cX10_lettersAll 12 = .ok (.getfield 47, 3) := by decide +kernel
theorem dX10_lettersAll_15 : decode cX10_lettersAll 15 = .ok (.sipush 483, 3) := by decide +kernel
theorem dX10_lettersAll_18 : decode cX10_lettersAll 18 = .ok (.iload_n 2, 1) := by decide +kernel
theorem dX10_lettersAll_19 : decode cX10_lettersAll 19 = .ok (.iadd, 1) := by decide +kernel
theorem dX10_lettersAll_20 : decode cX10_lettersAll 20 = .ok (.iaload, 1) := by decide +kernel
theorem dX10_lettersAll_21 : decode cX10_lettersAll 21 = .ok (.iadd, 1) := by decide +kernel
theorem dX10_lettersAll_22 : decode cX10_lettersAll 22 = .ok (.istore_n 1, 1) := by decide +kernel
theorem dX10_lettersAll_23 : decode cX10_lettersAll 23 = .ok (.iinc 2 1, 3) := by decide +kernel
theorem dX10_lettersAll_26 : decode cX10_lettersAll 26 = .ok (.goto (-22), 3) := by decide +kernel
theorem dX10_lettersAll_29 : decode cX10_lettersAll 29 = .ok (.iload_n 1, 1) := by decide +kernel
theorem dX10_lettersAll_30 : decode cX10_lettersAll 30 = .ok (.ireturn, 1) := by decide +kernel
def b_X10_lettersAll_4 (k4 : q_H → Nat → Int32 → Int32 → Option (q_H × Int32)) (h : q_H) (v0 : Nat) (v1 : Int32) (v2 : Int32) : Option (q_H × Int32) :=
  if (9) ≤ v2 then some (h, v1) else Option.bind (q_gR 9 7 h v0) (fun x1 => Option.bind (q_lI 0 h x1 ((483) + v2)) (fun x2 => k4 h v0 (v1 + x2) (v2 + 1)))
def l_X10_lettersAll_4 : Nat → q_H → Nat → Int32 → Int32 → Option (q_H × Int32)
  | 0, _, _, _, _ => none
  | n + 1, h, v0, v1, v2 => b_X10_lettersAll_4 (l_X10_lettersAll_4 n) h v0 v1 v2
def b_X10_lettersAll_0 (h : q_H) (v0 : Nat) : Option (q_H × Int32) :=
  l_X10_lettersAll_4 q_FU h v0 (0) (0)
def f_X10_lettersAll (h : q_H) (a0 : Nat) : Option (q_H × Int32) := q_chk 9 h a0 (b_X10_lettersAll_0 h a0)
set_option maxRecDepth 20000 in
set_option maxHeartbeats 1000000 in
theorem jb_X10_lettersAll_4 {G : q_G} {l : Launch} {k0 z0 : Nat} (k4 : q_H → Nat → Int32 → Int32 → Option (q_H × Int32)) (hk4 : ∀ (h : q_H) (v0 : Nat) (v1 : Int32) (v2 : Int32), q_J G l (RX10, cX10_lettersAll, 3, 0, 0, (some .int), "lettersAll", []) k0 z0 (q_Z G k0 z0 q_i) 4 [(0, .ref v0), (1, .int v1), (2, .int v2)] [] h (k4 h v0 v1 v2)) (h : q_H) (v0 : Nat) (v1 : Int32) (v2 : Int32) : q_J G l (RX10, cX10_lettersAll, 3, 0, 0, (some .int), "lettersAll", []) k0 z0 (q_Z G k0 z0 q_i) 4 [(0, .ref v0), (1, .int v1), (2, .int v2)] [] h (b_X10_lettersAll_4 k4 h v0 v1 v2) := by
  unfold b_X10_lettersAll_4
  refine j_iload_n (pc := 4) (p := 2) rfl rfl dX10_lettersAll_4 ?_
  refine j_bipush (pc := 5) kb_9 dX10_lettersAll_5 ?_
  refine j_ic_ge (pc := 7) (tgt := 29) dX10_lettersAll_7 (by decide) (fun _ => ?_) (fun _ => ?_)
  · refine j_iload_n (pc := 29) (p := 1) rfl rfl dX10_lettersAll_29 ?_
    exact j_iret (pc := 30) rfl dX10_lettersAll_30
  refine j_iload_n (pc := 10) (p := 1) rfl rfl dX10_lettersAll_10 ?_
  refine j_aload_n (pc := 11) (p := 0) rfl rfl dX10_lettersAll_11 ?_
  refine j_getR (pc := 12) FI_X10 (k := 7) (by decide) fl_X10_47 dX10_lettersAll_12 (fun x1 _ => ?_)
  refine j_sipush (pc := 15) ks_483 dX10_lettersAll_15 ?_
  refine j_iload_n (pc := 18) (p := 2) rfl rfl dX10_lettersAll_18 ?_
  refine j_iadd (pc := 19) dX10_lettersAll_19 ?_
  refine j_iald (pc := 20) dX10_lettersAll_20 (fun x2 _ => ?_)
  refine j_iadd (pc := 21) dX10_lettersAll_21 ?_
  refine j_istore_n (pc := 22) (lv' := [(1, .int (v1 + x2)), (0, .ref v0), (2, .int v2)]) rfl (by decide) rfl dX10_lettersAll_22 ?_
  refine j_inc (pc := 23) (p := 2) (lv' := [(2, .int (v2 + 1)), (1, .int (v1 + x2)), (0, .ref v0)]) rfl ki_1 (by decide) rfl dX10_lettersAll_23 ?_
  refine j_goto (pc := 26) (tgt := 4) dX10_lettersAll_26 (by decide) ?_
  refine j_sub [2, 1, 0] (lv' := [(0, .ref v0), (1, .int (v1 + x2)), (2, .int (v2 + 1))]) rfl ?_
  exact hk4 _ _ _ _
set_option maxRecDepth 20000 in
set_option maxHeartbeats 1000000 in
theorem jl_X10_lettersAll_4 {G : q_G} {l : Launch} {k0 z0 : Nat} (n : Nat) : ∀ (h : q_H) (v0 : Nat) (v1 : Int32) (v2 : Int32), q_J G l (RX10, cX10_lettersAll, 3, 0, 0, (some .int), "lettersAll", []) k0 z0 (q_Z G k0 z0 q_i) 4 [(0, .ref v0), (1, .int v1), (2, .int v2)] [] h (l_X10_lettersAll_4 n h v0 v1 v2) := by
  induction n with
  | zero => intro h v0 v1 v2; exact j_none
  | succ n ih => intro h v0 v1 v2; exact jb_X10_lettersAll_4 (l_X10_lettersAll_4 n) ih h v0 v1 v2
set_option maxRecDepth 20000 in
set_option maxHeartbeats 1000000 in
theorem jb_X10_lettersAll_0 {G : q_G} {l : Launch} {k0 z0 : Nat} (h : q_H) (v0 : Nat) : q_J G l (RX10, cX10_lettersAll, 3, 0, 0, (some .int), "lettersAll", []) k0 z0 (q_Z G k0 z0 q_i) 0 [(0, .ref v0)] [] h (b_X10_lettersAll_0 h v0) := by
  unfold b_X10_lettersAll_0
  refine j_iconst (pc := 0) ki_0 dX10_lettersAll_0 ?_
  refine j_istore_n (pc := 1) (lv' := [(1, .int (0)), (0, .ref v0)]) rfl (by decide) rfl dX10_lettersAll_1 ?_
  refine j_iconst (pc := 2) ki_0 dX10_lettersAll_2 ?_
  refine j_istore_n (pc := 3) (lv' := [(2, .int (0)), (1, .int (0)), (0, .ref v0)]) rfl (by decide) rfl dX10_lettersAll_3 ?_
  refine j_sub [2, 1, 0] (lv' := [(0, .ref v0), (1, .int (0)), (2, .int (0))]) rfl ?_
  exact jl_X10_lettersAll_4 q_FU _ _ _ _
set_option maxRecDepth 20000 in
set_option maxHeartbeats 1000000 in
theorem c_X10_lettersAll {G : q_G} {l : Launch} : ∀ (h : q_H) (a0 : Nat) (q : q_H × Int32), f_X10_lettersAll h a0 = some q → (∃ fs, h.1 a0 = .inr (9, fs)) ∧ q_CT G l yX10_lettersAll cX10_lettersAll 3 (some .int) 0 0 [.ref a0] h q.1 (q_i q.2) := by
  intro h a0 q e
  obtain ⟨e1, e2⟩ := q_chk_ok e
  exact ⟨e1, q_ofJ Y_X10_lettersAll (Nat.le_of_ble_eq_true rfl) (jb_X10_lettersAll_0 h a0) q e2⟩
/-! FarFoldersModel.count(I)I -/
theorem dX10_count_0 : decode cX10_count 0 = .ok (.aload_n 0, 1) := by decide +kernel
theorem dX10_count_1 : decode cX10_count 1 = .ok (.iconst 0, 1) := by decide +kernel
theorem dX10_count_2 : decode cX10_count 2 = .ok (.putfield 1, 3) := by decide +kernel
theorem dX10_count_5 : decode cX10_count 5 = .ok (.iload_n 1, 1) := by decide +kernel
theorem dX10_count_6 : decode cX10_count 6 = .ok (.i2l, 1) := by decide +kernel
theorem dX10_count_7 : decode cX10_count 7 = .ok (.lconst 0, 1) := by decide +kernel
theorem dX10_count_8 : decode cX10_count 8 = .ok (.ldc2_w 97, 3) := by decide +kernel
theorem dX10_count_11 : decode cX10_count 11 = .ok (.invokestatic 21, 3) := by decide +kernel
theorem dX10_count_14 : decode cX10_count 14 = .ok (.ifCond .eq 14, 3) := by decide +kernel
theorem dX10_count_17 : decode cX10_count 17 = .ok (.aload_n 0, 1) := by decide +kernel
theorem dX10_count_18 : decode cX10_count 18 = .ok (.getfield 47, 3) := by decide +kernel
theorem dX10_count_21 : decode cX10_count 21 = .ok (.sipush 180, 3) := by decide +kernel
theorem dX10_count_24 : decode cX10_count 24 = .ok (.iload_n 1, 1) := by decide +kernel
theorem dX10_count_25 : decode cX10_count 25 = .ok (.iadd, 1) := by decide +kernel
theorem dX10_count_26 : decode cX10_count 26 = .ok (.iaload, 1) := by decide +kernel
theorem dX10_count_27 : decode cX10_count 27 = .ok (.ireturn, 1) := by decide +kernel
theorem dX10_count_28 : decode cX10_count 28 = .ok (.iload_n 1, 1) := by decide +kernel
theorem dX10_count_29 : decode cX10_count 29 = .ok (.i2l, 1) := by decide +kernel
theorem dX10_count_30 : decode cX10_count 30 = .ok (.ldc2_w 314, 3) := by decide +kernel
theorem dX10_count_33 : decode cX10_count 33 = .ok (.ldc2_w 171, 3) := by decide +kernel
theorem dX10_count_36 : decode cX10_count 36 = .ok (.invokestatic 21, 3) := by decide +kernel
theorem dX10_count_39 : decode cX10_count 39 = .ok (.ifCond .eq 17, 3) := by decide +kernel
theorem dX10_count_42 : decode cX10_count 42 = .ok (.aload_n 0, 1) := by decide +kernel
theorem dX10_count_43 : decode cX10_count 43 = .ok (.iconst 0, 1) := by decide +kernel
theorem dX10_count_44 : decode cX10_count 44 = .ok (.iload_n 1, 1) := by decide +kernel
theorem dX10_count_45 : decode cX10_count 45 = .ok (.iconst 3, 1) := by decide +kernel
theorem dX10_count_46 : decode cX10_count 46 = .ok (.isub, 1) := by decide +kernel
theorem dX10_count_47 : decode cX10_count 47 = .ok (.invokevirtual 164, 3) := by decide +kernel
theorem dX10_count_50 : decode cX10_count 50 = .ok (.aload_n 0, 1) := by decide +kernel
theorem dX10_count_51 : decode cX10_count 51 = .ok (.iconst 0, 1) := by decide +kernel
theorem dX10_count_52 : decode cX10_count 52 = .ok (.invokevirtual 333, 3) := by decide +kernel
theorem dX10_count_55 : decode cX10_count 55 = .ok (.ireturn, 1) := by decide +kernel
theorem dX10_count_56 : decode cX10_count 56 = .ok (.iload_n 1, 1) := by decide +kernel
theorem dX10_count_57 : decode cX10_count 57 = .ok (.tableswitch 71 6 9 #[31, 36, 41, 46], 31) := by decide +kernel
theorem dX10_count_88 : decode cX10_count 88 = .ok (.aload_n 0, 1) := by decide +kernel
theorem dX10_count_89 : decode cX10_count 89 = .ok (.invokevirtual 365, 3) := by decide +kernel
theorem dX10_count_92 : decode cX10_count 92 = .ok (.ireturn, 1) := by decide +kernel
theorem dX10_count_93 : decode cX10_count 93 = .ok (.aload_n 0, 1) := by decide +kernel
theorem dX10_count_94 : decode cX10_count 94 = .ok (.getfield 11, 3) := by decide +kernel
theorem dX10_count_97 : decode cX10_count 97 = .ok (.ireturn, 1) := by decide +kernel
theorem dX10_count_98 : decode cX10_count 98 = .ok (.aload_n 0, 1) := by decide +kernel
theorem dX10_count_99 : decode cX10_count 99 = .ok (.getfield 14, 3) := by decide +kernel
theorem dX10_count_102 : decode cX10_count 102 = .ok (.ireturn, 1) := by decide +kernel
theorem dX10_count_103 : decode cX10_count 103 = .ok (.aload_n 0, 1) := by decide +kernel
theorem dX10_count_104 : decode cX10_count 104 = .ok (.getfield 47, 3) := by decide +kernel
theorem dX10_count_107 : decode cX10_count 107 = .ok (.iconst 0, 1) := by decide +kernel
theorem dX10_count_108 : decode cX10_count 108 = .ok (.iaload, 1) := by decide +kernel
theorem dX10_count_109 : decode cX10_count 109 = .ok (.aload_n 0, 1) := by decide +kernel
theorem dX10_count_110 : decode cX10_count 110 = .ok (.getfield 47, 3) := by decide +kernel
theorem dX10_count_113 : decode cX10_count 113 = .ok (.iconst 1, 1) := by decide +kernel
theorem dX10_count_114 : decode cX10_count 114 = .ok (.iaload, 1) := by decide +kernel
theorem dX10_count_115 : decode cX10_count 115 = .ok (.aload_n 0, 1) := by decide +kernel
theorem dX10_count_116 : decode cX10_count 116 = .ok (.getfield 47, 3) := by decide +kernel
theorem dX10_count_119 : decode cX10_count 119 = .ok (.iconst 2, 1) := by decide +kernel
theorem dX10_count_120 : decode cX10_count 120 = .ok (.iaload, 1) := by decide +kernel
theorem dX10_count_121 : decode cX10_count 121 = .ok (.invokestatic 209, 3) := by decide +kernel
theorem dX10_count_124 : decode cX10_count 124 = .ok (.invokestatic 209, 3) := by decide +kernel
theorem dX10_count_127 : decode cX10_count 127 = .ok (.ireturn, 1) := by decide +kernel
theorem dX10_count_128 : decode cX10_count 128 = .ok (.iconst (-1), 1) := by decide +kernel
theorem dX10_count_129 : decode cX10_count 129 = .ok (.ireturn, 1) := by decide +kernel
def b_X10_count_0 (h : q_H) (v0 : Nat) (v1 : Int32) : Option (q_H × Int32) :=
  Option.bind (q_p 9 0 h v0 (.int (0))) (fun h1 => Option.bind (f_X10_in h1 (Int32.toInt64 v1) (0) (2)) (fun q2 => if q2.2 = 0 then Option.bind (f_X10_in q2.1 (Int32.toInt64 v1) (3) (5)) (fun q3 => if q3.2 = 0 then if v1 = (6) then Option.bind (f_X10_lettersAll q3.1 v0) (fun q5 => some (q5.1, q5.2)) else if v1 = (7) then Option.bind (q_gI 9 1 q3.1 v0) (fun x7 => some (q3.1, x7)) else if v1 = (8) then Option.bind (q_gI 9 4 q3.1 v0) (fun x9 => some (q3.1, x9)) else if v1 = (9) then Option.bind (q_gR 9 7 q3.1 v0) (fun x11 => Option.bind (q_lI 0 q3.1 x11 (0)) (fun x12 => Option.bind (q_gR 9 7 q3.1 v0) (fun x13 => Option.bind (q_lI 0 q3.1 x13 (1)) (fun x14 => Option.bind (q_gR 9 7 q3.1 v0) (fun x15 => Option.bind (q_lI 0 q3.1 x15 (2)) (fun x16 => some (q3.1, (q_max x12 (q_max x14 x16))))))))) else some (q3.1, (-1)) else Option.bind (f_X10_lays q3.1 v0 (0) (v1 - (3))) (fun q17 => Option.bind (f_X10_folders q17.1 v0 (0)) (fun q18 => some (q18.1, q18.2)))) else Option.bind (q_gR 9 7 q2.1 v0) (fun x19 => Option.bind (q_lI 0 q2.1 x19 ((180) + v1)) (fun x20 => some (q2.1, x20)))))
def f_X10_count (h : q_H) (a0 : Nat) (a1 : Int32) : Option (q_H × Int32) := q_chk 9 h a0 (b_X10_count_0 h a0 a1)
set_option maxRecDepth 20000 in
set_option maxHeartbeats 1000000 in
theorem jb_X10_count_0 {G : q_G} {l : Launch} {k0 z0 : Nat} (h : q_H) (v0 : Nat) (v1 : Int32) : q_J G l (RX10, cX10_count, 2, 5, 118, (some .int), "count", []) k0 z0 (q_Z G k0 z0 q_i) 0 [(0, .ref v0), (1, .int v1)] [] h (b_X10_count_0 h v0 v1) := by
  unfold b_X10_count_0
  refine j_aload_n (pc := 0) (p := 0) rfl rfl dX10_count_0 ?_
  refine j_iconst (pc := 1) ki_0 dX10_count_1 ?_
  refine j_put (pc := 2) FI_X10 (k := 0) (by decide) fl_X10_1 rfl rfl rfl dX10_count_2 (fun h1 _ => ?_)
  refine j_iload_n (pc := 5) (p := 1) rfl rfl dX10_count_5 ?_
  refine j_i2l (pc := 6) dX10_count_6 ?_
  refine j_lconst (pc := 7) kl_0 dX10_count_7 ?_
  refine j_ldc2 (pc := 8) cL_X10_97 dX10_count_8 ?_
  refine j_cSi (pc := 11) Y_X10_in ml_X10_21 sm_X10_in ⟨Nat.le_of_ble_eq_true rfl, Nat.le_of_ble_eq_true rfl⟩ dX10_count_11 (As := [.long (Int32.toInt64 v1), .long (0), .long (2)]) (rest := []) rfl rfl (Nat.le_of_ble_eq_true rfl) (fun x hq9 => c_X10_in _ _ _ _ _ hq9) (fun q2 _ => ?_)
  refine j_if_eq (pc := 14) (tgt := 28) dX10_count_14 (by decide) (fun _ => ?_) (fun _ => ?_)
  · refine j_iload_n (pc := 28) (p := 1) rfl rfl dX10_count_28 ?_
    refine j_i2l (pc := 29) dX10_count_29 ?_
    refine j_ldc2 (pc := 30) cL_X10_314 dX10_count_30 ?_
    refine j_ldc2 (pc := 33) cL_X10_171 dX10_count_33 ?_
    refine j_cSi (pc := 36) Y_X10_in ml_X10_21 sm_X10_in ⟨Nat.le_of_ble_eq_true rfl, Nat.le_of_ble_eq_true rfl⟩ dX10_count_36 (As := [.long (Int32.toInt64 v1), .long (3), .long (5)]) (rest := []) rfl rfl (Nat.le_of_ble_eq_true rfl) (fun x hq9 => c_X10_in _ _ _ _ _ hq9) (fun q3 _ => ?_)
    refine j_if_eq (pc := 39) (tgt := 56) dX10_count_39 (by decide) (fun _ => ?_) (fun _ => ?_)
    · refine j_iload_n (pc := 56) (p := 1) rfl rfl dX10_count_56 ?_
      refine j_ite (fun c4 => ?_) (fun c4 => ?_)
      · refine j_tsI (pc := 57) (y := 6) (off := 31) (tgt := 88) dX10_count_57 c4 ⟨by decide, by decide, by decide⟩ (by decide) ?_
        refine j_aload_n (pc := 88) (p := 0) rfl rfl dX10_count_88 ?_
        refine j_cVi (pc := 89) Y_X10_lettersAll (ci := 9) (b := v0) rfl rfl ml_X10_365 im_X10_lettersAll se_X10_lettersAll ⟨Nat.le_of_ble_eq_true rfl, Nat.le_of_ble_eq_true rfl⟩ dX10_count_89 (As := []) (rest := []) rfl rfl (Nat.le_of_ble_eq_true rfl) (fun x hq9 => c_X10_lettersAll _ _ _ hq9) (fun q5 _ => ?_)
        exact j_iret (pc := 92) rfl dX10_count_92
      refine j_ite (fun c6 => ?_) (fun c6 => ?_)
      · refine j_tsI (pc := 57) (y := 7) (off := 36) (tgt := 93) dX10_count_57 c6 ⟨by decide, by decide, by decide⟩ (by decide) ?_
        refine j_aload_n (pc := 93) (p := 0) rfl rfl dX10_count_93 ?_
        refine j_getI (pc := 94) FI_X10 (k := 1) (by decide) fl_X10_11 dX10_count_94 (fun x7 _ => ?_)
        exact j_iret (pc := 97) rfl dX10_count_97
      refine j_ite (fun c8 => ?_) (fun c8 => ?_)
      · refine j_tsI (pc := 57) (y := 8) (off := 41) (tgt := 98) dX10_count_57 c8 ⟨by decide, by decide, by decide⟩ (by decide) ?_
        refine j_aload_n (pc := 98) (p := 0) rfl rfl dX10_count_98 ?_
        refine j_getI (pc := 99) FI_X10 (k := 4) (by decide) fl_X10_14 dX10_count_99 (fun x9 _ => ?_)
        exact j_iret (pc := 102) rfl dX10_count_102
      refine j_ite (fun c10 => ?_) (fun c10 => ?_)
      · refine j_tsI (pc := 57) (y := 9) (off := 46) (tgt := 103) dX10_count_57 c10 ⟨by decide, by decide, by decide⟩ (by decide) ?_
        refine j_aload_n (pc := 103) (p := 0) rfl rfl dX10_count_103 ?_
        refine j_getR (pc := 104) FI_X10 (k := 7) (by decide) fl_X10_47 dX10_count_104 (fun x11 _ => ?_)
        refine j_iconst (pc := 107) ki_0 dX10_count_107 ?_
        refine j_iald (pc := 108) dX10_count_108 (fun x12 _ => ?_)
        refine j_aload_n (pc := 109) (p := 0) rfl rfl dX10_count_109 ?_
        refine j_getR (pc := 110) FI_X10 (k := 7) (by decide) fl_X10_47 dX10_count_110 (fun x13 _ => ?_)
        refine j_iconst (pc := 113) ki_1 dX10_count_113 ?_
        refine j_iald (pc := 114) dX10_count_114 (fun x14 _ => ?_)
        refine j_aload_n (pc := 115) (p := 0) rfl rfl dX10_count_115 ?_
        refine j_getR (pc := 116) FI_X10 (k := 7) (by decide) fl_X10_47 dX10_count_116 (fun x15 _ => ?_)
        refine j_iconst (pc := 119) ki_2 dX10_count_119 ?_
        refine j_iald (pc := 120) dX10_count_120 (fun x16 _ => ?_)
        refine j_max (pc := 121) ml_X10_209 sm_max ini_Math co_max ⟨Nat.le_of_ble_eq_true rfl, Nat.le_of_ble_eq_true rfl⟩ dX10_count_121 ?_
        refine j_max (pc := 124) ml_X10_209 sm_max ini_Math co_max ⟨Nat.le_of_ble_eq_true rfl, Nat.le_of_ble_eq_true rfl⟩ dX10_count_124 ?_
        exact j_iret (pc := 127) rfl dX10_count_127
      refine j_tsO (pc := 57) (tgt := 128) dX10_count_57 (by have a_c4 := lv_neT c4 (show ((6 : Int32)).toInt = 6 by decide); have a_c6 := lv_neT c6 (show ((7 : Int32)).toInt = 7 by decide); have a_c8 := lv_neT c8 (show ((8 : Int32)).toInt = 8 by decide); have a_c10 := lv_neT c10 (show ((9 : Int32)).toInt = 9 by decide); omega) (by decide) ?_
      refine j_iconst (pc := 128) ki_m1 dX10_count_128 ?_
      exact j_iret (pc := 129) rfl dX10_count_129
    refine j_aload_n (pc := 42) (p := 0) rfl rfl dX10_count_42 ?_
    refine j_iconst (pc := 43) ki_0 dX10_count_43 ?_
    refine j_iload_n (pc := 44) (p := 1) rfl rfl dX10_count_44 ?_
    refine j_iconst (pc := 45) ki_3 dX10_count_45 ?_
    refine j_isub (pc := 46) dX10_count_46 ?_
    refine j_cVu (pc := 47) Y_X10_lays (ci := 9) (b := v0) rfl rfl ml_X10_164 im_X10_lays se_X10_lays ⟨Nat.le_of_ble_eq_true rfl, Nat.le_of_ble_eq_true rfl⟩ dX10_count_47 (As := [.int (0), .int (v1 - (3))]) (rest := []) rfl rfl (Nat.le_of_ble_eq_true rfl) (fun x hq9 => c_X10_lays _ _ _ _ _ hq9) (fun q17 _ => ?_)
    refine j_aload_n (pc := 50) (p := 0) rfl rfl dX10_count_50 ?_
    refine j_iconst (pc := 51) ki_0 dX10_count_51 ?_
    refine j_cVi (pc := 52) Y_X10_folders (ci := 9) (b := v0) rfl rfl ml_X10_333 im_X10_folders se_X10_folders ⟨Nat.le_of_ble_eq_true rfl, Nat.le_of_ble_eq_true rfl⟩ dX10_count_52 (As := [.int (0)]) (rest := []) rfl rfl (Nat.le_of_ble_eq_true rfl) (fun x hq9 => c_X10_folders _ _ _ _ hq9) (fun q18 _ => ?_)
    exact j_iret (pc := 55) rfl dX10_count_55
  refine j_aload_n (pc := 17) (p := 0) rfl rfl dX10_count_17 ?_
  refine j_getR (pc := 18) FI_X10 (k := 7) (by decide) fl_X10_47 dX10_count_18 (fun x19 _ => ?_)
  refine j_sipush (pc := 21) ks_180 dX10_count_21 ?_
  refine j_iload_n (pc := 24) (p := 1) rfl rfl dX10_count_24 ?_
  refine j_iadd (pc := 25) dX10_count_25 ?_
  refine j_iald (pc := 26) dX10_count_26 (fun x20 _ => ?_)
  exact j_iret (pc := 27) rfl dX10_count_27
set_option maxRecDepth 20000 in
set_option maxHeartbeats 1000000 in
theorem c_X10_count {G : q_G} {l : Launch} : ∀ (h : q_H) (a0 : Nat) (a1 : Int32) (q : q_H × Int32), f_X10_count h a0 a1 = some q → (∃ fs, h.1 a0 = .inr (9, fs)) ∧ q_CT G l yX10_count cX10_count 2 (some .int) 5 118 [.ref a0, .int a1] h q.1 (q_i q.2) := by
  intro h a0 a1 q e
  obtain ⟨e1, e2⟩ := q_chk_ok e
  exact ⟨e1, q_ofJ Y_X10_count (Nat.le_of_ble_eq_true rfl) (jb_X10_count_0 h a0 a1) q e2⟩
/-! FarFoldersModel.stableOf(I)I -/
theorem dX10_stableOf_0 : decode cX10_stableOf 0 = .ok (.ldc 250, 2) := by decide +kernel
theorem dX10_stableOf_2 : decode cX10_stableOf 2 = .ok (.istore_n 2, 1) := by decide +kernel
theorem dX10_stableOf_3 : decode cX10_stableOf 3 = .ok (.iconst 0, 1) := by decide +kernel
theorem dX10_stableOf_4 : decode cX10_stableOf 4 = .ok (.istore_n 3, 1) := by decide +kernel
theorem dX10_stableOf_5 : decode cX10_stableOf 5 = .ok (.iload_n 3, 1) := by decide +kernel
theorem dX10_stableOf_6 : decode cX10_stableOf 6 = .ok (.iconst 3, 1) := by decide +kernel
theorem dX10_stableOf_7 : decode cX10_stableOf 7 = .ok (.if_icmp .ge 35, 3) := by decide +kernel
theorem dX10_stableOf_10 : decode cX10_stableOf 10 = .ok (.iload_n 3, 1) := by decide +kernel
theorem dX10_stableOf_11 : decode cX10_stableOf 11 = .ok (.iload_n 1, 1) := by decide +kernel
theorem dX10_stableOf_12 : decode cX10_stableOf 12 = .ok (.if_icmp .ne 7, 3) := by decide +kernel
theorem dX10_stableOf_15 : decode cX10_stableOf 15 = .ok (.iload_n 2, 1) := by decide +kernel
theorem dX10_stableOf_16 : decode cX10_stableOf 16 = .ok (.goto 19, 3) := by decide +kernel
theorem dX10_stableOf_19 : decode cX10_stableOf 19 = .ok (.iload_n 2, 1) := by decide +kernel
theorem dX10_stableOf_20 : decode cX10_stableOf 20 = .ok (.aload_n 0, 1) := by decide +kernel
theorem dX10_stableOf_21 : decode cX10_stableOf 21 = .ok (.getfield 47, 3) := by decide +kernel
theorem dX10_stableOf_24 : decode cX10_stableOf 24 = .ok (.iconst 3, 1) := by decide +kernel
theorem dX10_stableOf_25 : decode cX10_stableOf 25 = .ok (.iload_n 1, 1) := by decide +kernel
theorem dX10_stableOf_26 : decode cX10_stableOf 26 = .ok (.iload_n 3, 1) := by decide +kernel
theorem dX10_stableOf_27 : decode cX10_stableOf 27 = .ok (.invokestatic 94, 3) := by decide +kernel
theorem dX10_stableOf_30 : decode cX10_stableOf 30 = .ok (.iadd, 1) := by decide +kernel
theorem dX10_stableOf_31 : decode cX10_stableOf 31 = .ok (.iaload, 1) := by decide +kernel
theorem dX10_stableOf_32 : decode cX10_stableOf 32 = .ok (.invokestatic 251, 3) := by decide +kernel
theorem dX10_stableOf_35 : decode cX10_stableOf 35 = .ok (.istore_n 2, 1) := by decide +kernel
theorem dX10_stableOf_36 : decode cX10_stableOf 36 = .ok (.iinc 3 1, 3) := by decide +kernel
theorem dX10_stableOf_39 : decode cX10_stableOf 39 = .ok (.goto (-34), 3) := by decide +kernel
theorem dX10_stableOf_42 : decode cX10_stableOf 42 = .ok (.iload_n 2, 1) := by decide +kernel
theorem dX10_stableOf_43 : decode cX10_stableOf 43 = .ok (.ireturn, 1) := by decide +kernel
def b_X10_stableOf_35 (k5 : q_H → Nat → Int32 → Int32 → Int32 → Option (q_H × Int32)) (h : q_H) (v0 : Nat) (v1 : Int32) (v3 : Int32) (s0 : Int32) : Option (q_H × Int32) :=
  k5 h v0 v1 s0 (v3 + 1)
def b_X10_stableOf_5 (k5 : q_H → Nat → Int32 → Int32 → Int32 → Option (q_H × Int32)) (h : q_H) (v0 : Nat) (v1 : Int32) (v2 : Int32) (v3 : Int32) : Option (q_H × Int32) :=
  if (3) ≤ v3 then some (h, v2) else if v3 = v1 then b_X10_stableOf_35 k5 h v0 v1 v3 v2 else Option.bind (q_gR 9 7 h v0) (fun x1 => Option.bind (f_X10_wayOf h v1 v3) (fun q2 => Option.bind (q_lI 0 q2.1 x1 ((3) + q2.2)) (fun x3 => b_X10_stableOf_35 k5 q2.1 v0 v1 v3 (q_min v2 x3))))
def l_X10_stableOf_5 : Nat → q_H → Nat → Int32 → Int32 → Int32 → Option (q_H × Int32)
  | 0, _, _, _, _, _ => none
  | n + 1, h, v0, v1, v2, v3 => b_X10_stableOf_5 (l_X10_stableOf_5 n) h v0 v1 v2 v3
def b_X10_stableOf_0 (h : q_H) (v0 : Nat) (v1 : Int32) : Option (q_H × Int32) :=
  l_X10_stableOf_5 q_FU h v0 v1 (1000000) (0)
def f_X10_stableOf (h : q_H) (a0 : Nat) (a1 : Int32) : Option (q_H × Int32) := q_chk 9 h a0 (b_X10_stableOf_0 h a0 a1)
set_option maxRecDepth 20000 in
set_option maxHeartbeats 1000000 in
theorem jb_X10_stableOf_35 {G : q_G} {l : Launch} {k0 z0 : Nat} (k5 : q_H → Nat → Int32 → Int32 → Int32 → Option (q_H × Int32)) (hk5 : ∀ (h : q_H) (v0 : Nat) (v1 : Int32) (v2 : Int32) (v3 : Int32), q_J G l (RX10, cX10_stableOf, 4, 1, 60, (some .int), "stableOf", []) k0 z0 (q_Z G k0 z0 q_i) 5 [(0, .ref v0), (1, .int v1), (2, .int v2), (3, .int v3)] [] h (k5 h v0 v1 v2 v3)) (h : q_H) (v0 : Nat) (v1 : Int32) (v3 : Int32) (s0 : Int32) : q_J G l (RX10, cX10_stableOf, 4, 1, 60, (some .int), "stableOf", []) k0 z0 (q_Z G k0 z0 q_i) 35 [(0, .ref v0), (1, .int v1), (3, .int v3)] [.int s0] h (b_X10_stableOf_35 k5 h v0 v1 v3 s0) := by
  unfold b_X10_stableOf_35
  refine j_istore_n (pc := 35) (lv' := [(2, .int s0), (0, .ref v0), (1, .int v1), (3, .int v3)]) rfl (by decide) rfl dX10_stableOf_35 ?_
  refine j_inc (pc := 36) (p := 3) (lv' := [(3, .int (v3 + 1)), (2, .int s0), (0, .ref v0), (1, .int v1)]) rfl ki_1 (by decide) rfl dX10_stableOf_36 ?_
  refine j_goto (pc := 39) (tgt := 5) dX10_stableOf_39 (by decide) ?_
  refine j_sub [2, 3, 1, 0] (lv' := [(0, .ref v0), (1, .int v1), (2, .int s0), (3, .int (v3 + 1))]) rfl ?_
  exact hk5 _ _ _ _ _
set_option maxRecDepth 20000 in
set_option maxHeartbeats 1000000 in
theorem jb_X10_stableOf_5 {G : q_G} {l : Launch} {k0 z0 : Nat} (k5 : q_H → Nat → Int32 → Int32 → Int32 → Option (q_H × Int32)) (hk5 : ∀ (h : q_H) (v0 : Nat) (v1 : Int32) (v2 : Int32) (v3 : Int32), q_J G l (RX10, cX10_stableOf, 4, 1, 60, (some .int), "stableOf", []) k0 z0 (q_Z G k0 z0 q_i) 5 [(0, .ref v0), (1, .int v1), (2, .int v2), (3, .int v3)] [] h (k5 h v0 v1 v2 v3)) (h : q_H) (v0 : Nat) (v1 : Int32) (v2 : Int32) (v3 : Int32) : q_J G l (RX10, cX10_stableOf, 4, 1, 60, (some .int), "stableOf", []) k0 z0 (q_Z G k0 z0 q_i) 5 [(0, .ref v0), (1, .int v1), (2, .int v2), (3, .int v3)] [] h (b_X10_stableOf_5 k5 h v0 v1 v2 v3) := by
  unfold b_X10_stableOf_5
  refine j_iload_n (pc := 5) (p := 3) rfl rfl dX10_stableOf_5 ?_
  refine j_iconst (pc := 6) ki_3 dX10_stableOf_6 ?_
  refine j_ic_ge (pc := 7) (tgt := 42) dX10_stableOf_7 (by decide) (fun _ => ?_) (fun _ => ?_)
  · refine j_iload_n (pc := 42) (p := 2) rfl rfl dX10_stableOf_42 ?_
    exact j_iret (pc := 43) rfl dX10_stableOf_43
  refine j_iload_n (pc := 10) (p := 3) rfl rfl dX10_stableOf_10 ?_
  refine j_iload_n (pc := 11) (p := 1) rfl rfl dX10_stableOf_11 ?_
  refine j_ic_ne (pc := 12) (tgt := 19) dX10_stableOf_12 (by decide) (fun _ => ?_) (fun _ => ?_)
  · refine j_iload_n (pc := 15) (p := 2) rfl rfl dX10_stableOf_15 ?_
    refine j_goto (pc := 16) (tgt := 35) dX10_stableOf_16 (by decide) ?_
    refine j_sub [0, 1, 3] (lv' := [(0, .ref v0), (1, .int v1), (3, .int v3)]) rfl ?_
    exact jb_X10_stableOf_35 k5 hk5 _ _ _ _ _
  refine j_iload_n (pc := 19) (p := 2) rfl rfl dX10_stableOf_19 ?_
  refine j_aload_n (pc := 20) (p := 0) rfl rfl dX10_stableOf_20 ?_
  refine j_getR (pc := 21) FI_X10 (k := 7) (by decide) fl_X10_47 dX10_stableOf_21 (fun x1 _ => ?_)
  refine j_iconst (pc := 24) ki_3 dX10_stableOf_24 ?_
  refine j_iload_n (pc := 25) (p := 1) rfl rfl dX10_stableOf_25 ?_
  refine j_iload_n (pc := 26) (p := 3) rfl rfl dX10_stableOf_26 ?_
  refine j_cSi (pc := 27) Y_X10_wayOf ml_X10_94 sm_X10_wayOf ⟨Nat.le_of_ble_eq_true rfl, Nat.le_of_ble_eq_true rfl⟩ dX10_stableOf_27 (As := [.int v1, .int v3]) (rest := [.int (3), .ref x1, .int v2]) rfl rfl (Nat.le_of_ble_eq_true rfl) (fun x hq9 => c_X10_wayOf _ _ _ _ hq9) (fun q2 _ => ?_)
  refine j_iadd (pc := 30) dX10_stableOf_30 ?_
  refine j_iald (pc := 31) dX10_stableOf_31 (fun x3 _ => ?_)
  refine j_min (pc := 32) ml_X10_251 sm_min ini_Math co_min ⟨Nat.le_of_ble_eq_true rfl, Nat.le_of_ble_eq_true rfl⟩ dX10_stableOf_32 ?_
  refine j_sub [0, 1, 3] (lv' := [(0, .ref v0), (1, .int v1), (3, .int v3)]) rfl ?_
  exact jb_X10_stableOf_35 k5 hk5 _ _ _ _ _
set_option maxRecDepth 20000 in
set_option maxHeartbeats 1000000 in
theorem jl_X10_stableOf_5 {G : q_G} {l : Launch} {k0 z0 : Nat} (n : Nat) : ∀ (h : q_H) (v0 : Nat) (v1 : Int32) (v2 : Int32) (v3 : Int32), q_J G l (RX10, cX10_stableOf, 4, 1, 60, (some .int), "stableOf", []) k0 z0 (q_Z G k0 z0 q_i) 5 [(0, .ref v0), (1, .int v1), (2, .int v2), (3, .int v3)] [] h (l_X10_stableOf_5 n h v0 v1 v2 v3) := by
  induction n with
  | zero => intro h v0 v1 v2 v3; exact j_none
  | succ n ih => intro h v0 v1 v2 v3; exact jb_X10_stableOf_5 (l_X10_stableOf_5 n) ih h v0 v1 v2 v3
set_option maxRecDepth 20000 in
set_option maxHeartbeats 1000000 in
theorem jb_X10_stableOf_0 {G : q_G} {l : Launch} {k0 z0 : Nat} (h : q_H) (v0 : Nat) (v1 : Int32) : q_J G l (RX10, cX10_stableOf, 4, 1, 60, (some .int), "stableOf", []) k0 z0 (q_Z G k0 z0 q_i) 0 [(0, .ref v0), (1, .int v1)] [] h (b_X10_stableOf_0 h v0 v1) := by
  unfold b_X10_stableOf_0
  refine j_ldc (pc := 0) ct_X10_250 dX10_stableOf_0 ?_
  refine j_istore_n (pc := 2) (lv' := [(2, .int (1000000)), (0, .ref v0), (1, .int v1)]) rfl (by decide) rfl dX10_stableOf_2 ?_
  refine j_iconst (pc := 3) ki_0 dX10_stableOf_3 ?_
  refine j_istore_n (pc := 4) (lv' := [(3, .int (0)), (2, .int (1000000)), (0, .ref v0), (1, .int v1)]) rfl (by decide) rfl dX10_stableOf_4 ?_
  refine j_sub [2, 3, 1, 0] (lv' := [(0, .ref v0), (1, .int v1), (2, .int (1000000)), (3, .int (0))]) rfl ?_
  exact jl_X10_stableOf_5 q_FU _ _ _ _ _
set_option maxRecDepth 20000 in
set_option maxHeartbeats 1000000 in
theorem c_X10_stableOf {G : q_G} {l : Launch} : ∀ (h : q_H) (a0 : Nat) (a1 : Int32) (q : q_H × Int32), f_X10_stableOf h a0 a1 = some q → (∃ fs, h.1 a0 = .inr (9, fs)) ∧ q_CT G l yX10_stableOf cX10_stableOf 4 (some .int) 1 60 [.ref a0, .int a1] h q.1 (q_i q.2) := by
  intro h a0 a1 q e
  obtain ⟨e1, e2⟩ := q_chk_ok e
  exact ⟨e1, q_ofJ Y_X10_stableOf (Nat.le_of_ble_eq_true rfl) (jb_X10_stableOf_0 h a0 a1) q e2⟩
/-! FarFoldersModel.cutMany(I)I -/
theorem dX10_cutMany_0 : decode cX10_cutMany 0 = .ok (.iconst 0, 1) := by decide +kernel
theorem dX10_cutMany_1 : decode cX10_cutMany 1 = .ok (.istore_n 2, 1) := by decide +kernel
theorem dX10_cutMany_2 : decode cX10_cutMany 2 = .ok (.iload_n 2, 1) := by decide +kernel
theorem dX10_cutMany_3 : decode cX10_cutMany 3 = .ok (.aload_n 0, 1) := by decide +kernel
theorem dX10_cutMany_4 : decode cX10_cutMany 4 = .ok (.getfield 47, 3) := by decide +kernel
theorem dX10_cutMany_7 : decode cX10_cutMany 7 = .ok (.sipush 180, 3) := by decide +kernel
theorem dX10_cutMany_10 : decode cX10_cutMany 10 = .ok (.iload_n 1, 1) := by decide +kernel
theorem dX10_cutMany_11 : decode cX10_cutMany 11 = .ok (.iadd, 1) := by decide +kernel
theorem dX10_cutMany_12 : decode cX10_cutMany 12 = .ok (.iaload, 1) := by decide +kernel
theorem dX10_cutMany_13 : decode cX10_cutMany 13 = .ok (.if_icmp .ge 27, 3) := by decide +kernel
theorem dX10_cutMany_16 : decode cX10_cutMany 16 = .ok (.aload_n 0, 1) := by decide +kernel
theorem dX10_cutMany_17 : decode cX10_cutMany 17 = .ok (.getfield 47, 3) := by decide +kernel
theorem dX10_cutMany_20 : decode cX10_cutMany 20 = .ok (.iload_n 1, 1) := by decide +kernel
theorem dX10_cutMany_21 : decode cX10_cutMany 21 = .ok (.iload_n 2, 1) := by decide +kernel
theorem dX10_cutMany_22 : decode cX10_cutMany 22 = .ok (.invokestatic 108, 3) := by decide +kernel
theorem dX10_cutMany_25 : decode cX10_cutMany 25 = .ok (.iaload, 1) := by decide +kernel
theorem dX10_cutMany_26 : decode cX10_cutMany 26 = .ok (.aload_n 0, 1) := by decide +kernel
theorem dX10_cutMany_27 : decode cX10_cutMany 27 = .ok (.iload_n 1, 1) := by decide +kernel
theorem dX10_cutMany_28 : decode cX10_cutMany 28 = .ok (.invokevirtual 254, 3) := by decide +kernel
theorem dX10_cutMany_31 : decode cX10_cutMany 31 = .ok (.if_icmp .gt 9, 3) := by decide +kernel
theorem dX10_cutMany_34 : decode cX10_cutMany 34 = .ok (.iinc 2 1, 3) := by decide +kernel
theorem dX10_cutMany_37 : decode cX10_cutMany 37 = .ok (.goto (-35), 3) := by decide +kernel
theorem dX10_cutMany_40 : decode cX10_cutMany 40 = .ok (.iload_n 2, 1) := by decide +kernel
theorem dX10_cutMany_41 : decode cX10_cutMany 41 = .ok (.ireturn, 1) := by decide +kernel
def b_X10_cutMany_2 (k2 : q_H → Nat → Int32 → Int32 → Option (q_H × Int32)) (h : q_H) (v0 : Nat) (v1 : Int32) (v2 : Int32) : Option (q_H × Int32) :=
  Option.bind (q_gR 9 7 h v0) (fun x1 => Option.bind (q_lI 0 h x1 ((180) + v1)) (fun x2 => if x2 ≤ v2 then some (h, v2) else Option.bind (q_gR 9 7 h v0) (fun x3 => Option.bind (f_X10_moveOf h v1 v2) (fun q4 => Option.bind (q_lI 0 q4.1 x3 q4.2) (fun x5 => Option.bind (f_X10_stableOf q4.1 v0 v1) (fun q6 => if q6.2 < x5 then some (q6.1, v2) else k2 q6.1 v0 v1 (v2 + 1)))))))
def l_X10_cutMany_2 : Nat → q_H → Nat → Int32 → Int32 → Option (q_H × Int32)
  | 0, _, _, _, _ => none
  | n + 1, h, v0, v1, v2 => b_X10_cutMany_2 (l_X10_cutMany_2 n) h v0 v1 v2
def b_X10_cutMany_0 (h : q_H) (v0 : Nat) (v1 : Int32) : Option (q_H × Int32) :=
  l_X10_cutMany_2 q_FU h v0 v1 (0)
def f_X10_cutMany (h : q_H) (a0 : Nat) (a1 : Int32) : Option (q_H × Int32) := q_chk 9 h a0 (b_X10_cutMany_0 h a0 a1)
set_option maxRecDepth 20000 in
set_option maxHeartbeats 1000000 in
theorem jb_X10_cutMany_2 {G : q_G} {l : Launch} {k0 z0 : Nat} (k2 : q_H → Nat → Int32 → Int32 → Option (q_H × Int32)) (hk2 : ∀ (h : q_H) (v0 : Nat) (v1 : Int32) (v2 : Int32), q_J G l (RX10, cX10_cutMany, 3, 2, 83, (some .int), "cutMany", []) k0 z0 (q_Z G k0 z0 q_i) 2 [(0, .ref v0), (1, .int v1), (2, .int v2)] [] h (k2 h v0 v1 v2)) (h : q_H) (v0 : Nat) (v1 : Int32) (v2 : Int32) : q_J G l (RX10, cX10_cutMany, 3, 2, 83, (some .int), "cutMany", []) k0 z0 (q_Z G k0 z0 q_i) 2 [(0, .ref v0), (1, .int v1), (2, .int v2)] [] h (b_X10_cutMany_2 k2 h v0 v1 v2) := by
  unfold b_X10_cutMany_2
  refine j_iload_n (pc := 2) (p := 2) rfl rfl dX10_cutMany_2 ?_
  refine j_aload_n (pc := 3) (p := 0) rfl rfl dX10_cutMany_3 ?_
  refine j_getR (pc := 4) FI_X10 (k := 7) (by decide) fl_X10_47 dX10_cutMany_4 (fun x1 _ => ?_)
  refine j_sipush (pc := 7) ks_180 dX10_cutMany_7 ?_
  refine j_iload_n (pc := 10) (p := 1) rfl rfl dX10_cutMany_10 ?_
  refine j_iadd (pc := 11) dX10_cutMany_11 ?_
  refine j_iald (pc := 12) dX10_cutMany_12 (fun x2 _ => ?_)
  refine j_ic_ge (pc := 13) (tgt := 40) dX10_cutMany_13 (by decide) (fun _ => ?_) (fun _ => ?_)
  · refine j_iload_n (pc := 40) (p := 2) rfl rfl dX10_cutMany_40 ?_
    exact j_iret (pc := 41) rfl dX10_cutMany_41
  refine j_aload_n (pc := 16) (p := 0) rfl rfl dX10_cutMany_16 ?_
  refine j_getR (pc := 17) FI_X10 (k := 7) (by decide) fl_X10_47 dX10_cutMany_17 (fun x3 _ => ?_)
  refine j_iload_n (pc := 20) (p := 1) rfl rfl dX10_cutMany_20 ?_
  refine j_iload_n (pc := 21) (p := 2) rfl rfl dX10_cutMany_21 ?_
  refine j_cSi (pc := 22) Y_X10_moveOf ml_X10_108 sm_X10_moveOf ⟨Nat.le_of_ble_eq_true rfl, Nat.le_of_ble_eq_true rfl⟩ dX10_cutMany_22 (As := [.int v1, .int v2]) (rest := [.ref x3]) rfl rfl (Nat.le_of_ble_eq_true rfl) (fun x hq9 => c_X10_moveOf _ _ _ _ hq9) (fun q4 _ => ?_)
  refine j_iald (pc := 25) dX10_cutMany_25 (fun x5 _ => ?_)
  refine j_aload_n (pc := 26) (p := 0) rfl rfl dX10_cutMany_26 ?_
  refine j_iload_n (pc := 27) (p := 1) rfl rfl dX10_cutMany_27 ?_
  refine j_cVi (pc := 28) Y_X10_stableOf (ci := 9) (b := v0) rfl rfl ml_X10_254 im_X10_stableOf se_X10_stableOf ⟨Nat.le_of_ble_eq_true rfl, Nat.le_of_ble_eq_true rfl⟩ dX10_cutMany_28 (As := [.int v1]) (rest := [.int x5]) rfl rfl (Nat.le_of_ble_eq_true rfl) (fun x hq9 => c_X10_stableOf _ _ _ _ hq9) (fun q6 _ => ?_)
  refine j_ic_gt (pc := 31) (tgt := 40) dX10_cutMany_31 (by decide) (fun _ => ?_) (fun _ => ?_)
  · refine j_iload_n (pc := 40) (p := 2) rfl rfl dX10_cutMany_40 ?_
    exact j_iret (pc := 41) rfl dX10_cutMany_41
  refine j_inc (pc := 34) (p := 2) (lv' := [(2, .int (v2 + 1)), (0, .ref v0), (1, .int v1)]) rfl ki_1 (by decide) rfl dX10_cutMany_34 ?_
  refine j_goto (pc := 37) (tgt := 2) dX10_cutMany_37 (by decide) ?_
  refine j_sub [1, 2, 0] (lv' := [(0, .ref v0), (1, .int v1), (2, .int (v2 + 1))]) rfl ?_
  exact hk2 _ _ _ _
set_option maxRecDepth 20000 in
set_option maxHeartbeats 1000000 in
theorem jl_X10_cutMany_2 {G : q_G} {l : Launch} {k0 z0 : Nat} (n : Nat) : ∀ (h : q_H) (v0 : Nat) (v1 : Int32) (v2 : Int32), q_J G l (RX10, cX10_cutMany, 3, 2, 83, (some .int), "cutMany", []) k0 z0 (q_Z G k0 z0 q_i) 2 [(0, .ref v0), (1, .int v1), (2, .int v2)] [] h (l_X10_cutMany_2 n h v0 v1 v2) := by
  induction n with
  | zero => intro h v0 v1 v2; exact j_none
  | succ n ih => intro h v0 v1 v2; exact jb_X10_cutMany_2 (l_X10_cutMany_2 n) ih h v0 v1 v2
set_option maxRecDepth 20000 in
set_option maxHeartbeats 1000000 in
theorem jb_X10_cutMany_0 {G : q_G} {l : Launch} {k0 z0 : Nat} (h : q_H) (v0 : Nat) (v1 : Int32) : q_J G l (RX10, cX10_cutMany, 3, 2, 83, (some .int), "cutMany", []) k0 z0 (q_Z G k0 z0 q_i) 0 [(0, .ref v0), (1, .int v1)] [] h (b_X10_cutMany_0 h v0 v1) := by
  unfold b_X10_cutMany_0
  refine j_iconst (pc := 0) ki_0 dX10_cutMany_0 ?_
  refine j_istore_n (pc := 1) (lv' := [(2, .int (0)), (0, .ref v0), (1, .int v1)]) rfl (by decide) rfl dX10_cutMany_1 ?_
  refine j_sub [1, 2, 0] (lv' := [(0, .ref v0), (1, .int v1), (2, .int (0))]) rfl ?_
  exact jl_X10_cutMany_2 q_FU _ _ _ _
set_option maxRecDepth 20000 in
set_option maxHeartbeats 1000000 in
theorem c_X10_cutMany {G : q_G} {l : Launch} : ∀ (h : q_H) (a0 : Nat) (a1 : Int32) (q : q_H × Int32), f_X10_cutMany h a0 a1 = some q → (∃ fs, h.1 a0 = .inr (9, fs)) ∧ q_CT G l yX10_cutMany cX10_cutMany 3 (some .int) 2 83 [.ref a0, .int a1] h q.1 (q_i q.2) := by
  intro h a0 a1 q e
  obtain ⟨e1, e2⟩ := q_chk_ok e
  exact ⟨e1, q_ofJ Y_X10_cutMany (Nat.le_of_ble_eq_true rfl) (jb_X10_cutMany_0 h a0 a1) q e2⟩
/-! FarFoldersModel.cutsOne(I)I -/
theorem dX10_cutsOne_0 : decode cX10_cutsOne 0 = .ok (.iload_n 1, 1) := by decide +kernel
theorem dX10_cutsOne_1 : decode cX10_cutsOne 1 = .ok (.invokestatic 101, 3) := by decide +kernel
theorem dX10_cutsOne_4 : decode cX10_cutsOne 4 = .ok (.ifCond .ne 5, 3) := by decide +kernel
theorem dX10_cutsOne_7 : decode cX10_cutsOne 7 = .ok (.iconst (-1), 1) := by decide +kernel
theorem dX10_cutsOne_8 : decode cX10_cutsOne 8 = .ok (.ireturn, 1) := by decide +kernel
theorem dX10_cutsOne_9 : decode cX10_cutsOne 9 = .ok (.aload_n 0, 1) := by decide +kernel
theorem dX10_cutsOne_10 : decode cX10_cutsOne 10 = .ok (.iload_n 1, 1) := by decide +kernel
theorem dX10_cutsOne_11 : decode cX10_cutsOne 11 = .ok (.invokevirtual 257, 3) := by decide +kernel
theorem dX10_cutsOne_14 : decode cX10_cutsOne 14 = .ok (.istore_n 2, 1) := by decide +kernel
theorem dX10_cutsOne_15 : decode cX10_cutsOne 15 = .ok (.aload_n 0, 1) := by decide +kernel
theorem dX10_cutsOne_16 : decode cX10_cutsOne 16 = .ok (.getfield 47, 3) := by decide +kernel
theorem dX10_cutsOne_19 : decode cX10_cutsOne 19 = .ok (.sipush 180, 3) := by decide +kernel
theorem dX10_cutsOne_22 : decode cX10_cutsOne 22 = .ok (.iload_n 1, 1) := by decide +kernel
theorem dX10_cutsOne_23 : decode cX10_cutsOne 23 = .ok (.iadd, 1) := by decide +kernel
theorem dX10_cutsOne_24 : decode cX10_cutsOne 24 = .ok (.iaload, 1) := by decide +kernel
theorem dX10_cutsOne_25 : decode cX10_cutsOne 25 = .ok (.istore_n 3, 1) := by decide +kernel
theorem dX10_cutsOne_26 : decode cX10_cutsOne 26 = .ok (.aload_n 0, 1) := by decide +kernel
theorem dX10_cutsOne_27 : decode cX10_cutsOne 27 = .ok (.iload_n 1, 1) := by decide +kernel
theorem dX10_cutsOne_28 : decode cX10_cutsOne 28 = .ok (.invokevirtual 144, 3) := by decide +kernel
theorem dX10_cutsOne_31 : decode cX10_cutsOne 31 = .ok (.aload_n 0, 1) := by decide +kernel
theorem dX10_cutsOne_32 : decode cX10_cutsOne 32 = .ok (.iload_n 2, 1) := by decide +kernel
theorem dX10_cutsOne_33 : decode cX10_cutsOne 33 = .ok (.putfield 105, 3) := by decide +kernel
theorem dX10_cutsOne_36 : decode cX10_cutsOne 36 = .ok (.aload_n 0, 1) := by decide +kernel
theorem dX10_cutsOne_37 : decode cX10_cutsOne 37 = .ok (.iconst 0, 1) := by decide +kernel
theorem dX10_cutsOne_38 : decode cX10_cutsOne 38 = .ok (.iload_n 1, 1) := by decide +kernel
theorem dX10_cutsOne_39 : decode cX10_cutsOne 39 = .ok (.iconst (-1), 1) := by decide +kernel
theorem dX10_cutsOne_40 : decode cX10_cutsOne 40 = .ok (.invokevirtual 148, 3) := by decide +kernel
theorem dX10_cutsOne_43 : decode cX10_cutsOne 43 = .ok (.iconst 0, 1) := by decide +kernel
theorem dX10_cutsOne_44 : decode cX10_cutsOne 44 = .ok (.istore 4, 2) := by decide +kernel
theorem dX10_cutsOne_46 : decode cX10_cutsOne 46 = .ok (.iload 4, 2) := by decide +kernel
theorem dX10_cutsOne_48 : decode cX10_cutsOne 48 = .ok (.bipush 56, 2) := by decide +kernel
theorem dX10_cutsOne_50 : decode cX10_cutsOne 50 = .ok (.if_icmp .ge 29, 3) := by decide +kernel
theorem dX10_cutsOne_53 : decode cX10_cutsOne 53 = .ok (.aload_n 0, 1) := by decide +kernel
theorem dX10_cutsOne_54 : decode cX10_cutsOne 54 = .ok (.getfield 47, 3) := by decide +kernel
theorem dX10_cutsOne_57 : decode cX10_cutsOne 57 = .ok (.iload_n 1, 1) := by decide +kernel
theorem dX10_cutsOne_58 : decode cX10_cutsOne 58 = .ok (.iconst 0, 1) := by decide +kernel
theorem dX10_cutsOne_59 : decode cX10_cutsOne 59 = .ok (.invokestatic 90, 3) := by decide +kernel
theorem dX10_cutsOne_62 : decode cX10_cutsOne 62 = .ok (.iload 4, 2) := by decide +kernel
theorem dX10_cutsOne_64 : decode cX10_cutsOne 64 = .ok (.iadd, 1) := by decide +kernel
theorem dX10_cutsOne_65 : decode cX10_cutsOne 65 = .ok (.aload_n 0, 1) := by decide +kernel
theorem dX10_cutsOne_66 : decode cX10_cutsOne 66 = .ok (.getfield 57, 3) := by decide +kernel
theorem dX10_cutsOne_69 : decode cX10_cutsOne 69 = .ok (.iload 4, 2) := by decide +kernel
theorem dX10_cutsOne_71 : decode cX10_cutsOne 71 = .ok (.iaload, 1) := by decide +kernel
theorem dX10_cutsOne_72 : decode cX10_cutsOne 72 = .ok (.iastore, 1) := by decide +kernel
theorem dX10_cutsOne_73 : decode cX10_cutsOne 73 = .ok (.iinc 4 1, 3) := by decide +kernel
theorem dX10_cutsOne_76 : decode cX10_cutsOne 76 = .ok (.goto (-30), 3) := by decide +kernel
theorem dX10_cutsOne_79 : decode cX10_cutsOne 79 = .ok (.iconst 0, 1) := by decide +kernel
theorem dX10_cutsOne_80 : decode cX10_cutsOne 80 = .ok (.istore 4, 2) := by decide +kernel
theorem dX10_cutsOne_82 : decode cX10_cutsOne 82 = .ok (.iload 4, 2) := by decide +kernel
theorem dX10_cutsOne_84 : decode cX10_cutsOne 84 = .ok (.iconst 5, 1) := by decide +kernel
theorem dX10_cutsOne_85 : decode cX10_cutsOne 85 = .ok (.iload_n 3, 1) := by decide +kernel
theorem dX10_cutsOne_86 : decode cX10_cutsOne 86 = .ok (.iload_n 2, 1) := by decide +kernel
theorem dX10_cutsOne_87 : decode cX10_cutsOne 87 = .ok (.isub, 1) := by decide +kernel
theorem dX10_cutsOne_88 : decode cX10_cutsOne 88 = .ok (.imul, 1) := by decide +kernel
theorem dX10_cutsOne_89 : decode cX10_cutsOne 89 = .ok (.if_icmp .ge 35, 3) := by decide +kernel
theorem dX10_cutsOne_92 : decode cX10_cutsOne 92 = .ok (.aload_n 0, 1) := by decide +kernel
theorem dX10_cutsOne_93 : decode cX10_cutsOne 93 = .ok (.getfield 47, 3) := by decide +kernel
theorem dX10_cutsOne_96 : decode cX10_cutsOne 96 = .ok (.iload_n 1, 1) := by decide +kernel
theorem dX10_cutsOne_97 : decode cX10_cutsOne 97 = .ok (.iconst 0, 1) := by decide +kernel
theorem dX10_cutsOne_98 : decode cX10_cutsOne 98 = .ok (.invokestatic 108, 3) := by decide +kernel
theorem dX10_cutsOne_101 : decode cX10_cutsOne 101 = .ok (.iload 4, 2) := by decide +kernel
theorem dX10_cutsOne_103 : decode cX10_cutsOne 103 = .ok (.iadd, 1) := by decide +kernel
theorem dX10_cutsOne_104 : decode cX10_cutsOne 104 = .ok (.aload_n 0, 1) := by decide +kernel
theorem dX10_cutsOne_105 : decode cX10_cutsOne 105 = .ok (.getfield 47, 3) := by decide +kernel
theorem dX10_cutsOne_108 : decode cX10_cutsOne 108 = .ok (.iload_n 1, 1) := by decide +kernel
theorem dX10_cutsOne_109 : decode cX10_cutsOne 109 = .ok (.iload_n 2, 1) := by decide +kernel
theorem dX10_cutsOne_110 : decode cX10_cutsOne 110 = .ok (.invokestatic 108, 3) := by decide +kernel
theorem dX10_cutsOne_113 : decode cX10_cutsOne 113 = .ok (.iload 4, 2) := by decide +kernel
theorem dX10_cutsOne_115 : decode cX10_cutsOne 115 = .ok (.iadd, 1) := by decide +kernel
theorem dX10_cutsOne_116 : decode cX10_cutsOne 116 = .ok (.iaload, 1) := by decide +kernel
theorem dX10_cutsOne_117 : decode cX10_cutsOne 117 = .ok (.iastore, 1) := by decide +kernel
theorem dX10_cutsOne_118 : decode cX10_cutsOne 118 = .ok (.iinc 4 1, 3) := by decide +kernel
theorem dX10_cutsOne_121 : decode cX10_cutsOne 121 = .ok (.goto (-39), 3) := by decide +kernel
theorem dX10_cutsOne_124 : decode cX10_cutsOne 124 = .ok (.aload_n 0, 1) := by decide +kernel
theorem dX10_cutsOne_125 : decode cX10_cutsOne 125 = .ok (.getfield 47, 3) := by decide +kernel
theorem dX10_cutsOne_128 : decode cX10_cutsOne 128 = .ok (.sipush 180, 3) := by decide +kernel
theorem dX10_cutsOne_131 : decode cX10_cutsOne 131 = .ok (.iload_n 1, 1) := by decide +kernel
theorem dX10_cutsOne_132 : decode cX10_cutsOne 132 = .ok (.iadd, 1) := by decide +kernel
theorem dX10_cutsOne_133 : decode cX10_cutsOne 133 = .ok (.iload_n 3, 1) := by decide +kernel
theorem dX10_cutsOne_134 : decode cX10_cutsOne 134 = .ok (.iload_n 2, 1) := by decide +kernel
theorem dX10_cutsOne_135 : decode cX10_cutsOne 135 = .ok (.isub, 1) := by decide +kernel
theorem dX10_cutsOne_136 : decode cX10_cutsOne 136 = .ok (.iastore, 1) := by decide +kernel
theorem dX10_cutsOne_137 : decode cX10_cutsOne 137 = .ok (.iload_n 2, 1) := by decide +kernel
theorem dX10_cutsOne_138 : decode cX10_cutsOne 138 = .ok (.ireturn, 1) := by decide +kernel
def b_X10_cutsOne_82 (k82 : q_H → Nat → Int32 → Int32 → Int32 → Int32 → Option (q_H × Int32)) (h : q_H) (v0 : Nat) (v1 : Int32) (v2 : Int32) (v3 : Int32) (v4 : Int32) : Option (q_H × Int32) :=
  if ((5) * (v3 - v2)) ≤ v4 then Option.bind (q_gR 9 7 h v0) (fun x1 => Option.bind (q_sI 0 id h x1 ((180) + v1) (v3 - v2)) (fun h2 => some (h2, v2))) else Option.bind (q_gR 9 7 h v0) (fun x3 => Option.bind (f_X10_moveOf h v1 (0)) (fun q4 => Option.bind (q_gR 9 7 q4.1 v0) (fun x5 => Option.bind (f_X10_moveOf q4.1 v1 v2) (fun q6 => Option.bind (q_lI 0 q6.1 x5 (q6.2 + v4)) (fun x7 => Option.bind (q_sI 0 id q6.1 x3 (q4.2 + v4) x7) (fun h8 => k82 h8 v0 v1 v2 v3 (v4 + 1)))))))
def l_X10_cutsOne_82 : Nat → q_H → Nat → Int32 → Int32 → Int32 → Int32 → Option (q_H × Int32)
  | 0, _, _, _, _, _, _ => none
  | n + 1, h, v0, v1, v2, v3, v4 => b_X10_cutsOne_82 (l_X10_cutsOne_82 n) h v0 v1 v2 v3 v4
def b_X10_cutsOne_46 (k46 : q_H → Nat → Int32 → Int32 → Int32 → Int32 → Option (q_H × Int32)) (h : q_H) (v0 : Nat) (v1 : Int32) (v2 : Int32) (v3 : Int32) (v4 : Int32) : Option (q_H × Int32) :=
  if (56) ≤ v4 then l_X10_cutsOne_82 q_FU h v0 v1 v2 v3 (0) else Option.bind (q_gR 9 7 h v0) (fun x9 => Option.bind (f_X10_baseOf h v1 (0)) (fun q10 => Option.bind (q_gR 9 11 q10.1 v0) (fun x11 => Option.bind (q_lI 0 q10.1 x11 v4) (fun x12 => Option.bind (q_sI 0 id q10.1 x9 (q10.2 + v4) x12) (fun h13 => k46 h13 v0 v1 v2 v3 (v4 + 1))))))
def l_X10_cutsOne_46 : Nat → q_H → Nat → Int32 → Int32 → Int32 → Int32 → Option (q_H × Int32)
  | 0, _, _, _, _, _, _ => none
  | n + 1, h, v0, v1, v2, v3, v4 => b_X10_cutsOne_46 (l_X10_cutsOne_46 n) h v0 v1 v2 v3 v4
def b_X10_cutsOne_0 (h : q_H) (v0 : Nat) (v1 : Int32) : Option (q_H × Int32) :=
  Option.bind (f_X10_isCopy h v1) (fun q14 => if q14.2 = 0 then some (q14.1, (-1)) else Option.bind (f_X10_cutMany q14.1 v0 v1) (fun q15 => Option.bind (q_gR 9 7 q15.1 v0) (fun x16 => Option.bind (q_lI 0 q15.1 x16 ((180) + v1)) (fun x17 => Option.bind (f_X10_loads q15.1 v0 v1) (fun q18 => Option.bind (q_p 9 9 q18.1 v0 (.int q15.2)) (fun h19 => Option.bind (f_X10_grows h19 v0 (0) v1 (-1)) (fun q20 => l_X10_cutsOne_46 q_FU q20.1 v0 v1 q15.2 x17 (0))))))))
def f_X10_cutsOne (h : q_H) (a0 : Nat) (a1 : Int32) : Option (q_H × Int32) := q_chk 9 h a0 (b_X10_cutsOne_0 h a0 a1)
set_option maxRecDepth 20000 in
set_option maxHeartbeats 1000000 in
theorem jb_X10_cutsOne_82 {G : q_G} {l : Launch} {k0 z0 : Nat} (k82 : q_H → Nat → Int32 → Int32 → Int32 → Int32 → Option (q_H × Int32)) (hk82 : ∀ (h : q_H) (v0 : Nat) (v1 : Int32) (v2 : Int32) (v3 : Int32) (v4 : Int32), q_J G l (RX10, cX10_cutsOne, 5, 4, 105, (some .int), "cutsOne", []) k0 z0 (q_Z G k0 z0 q_i) 82 [(0, .ref v0), (1, .int v1), (2, .int v2), (3, .int v3), (4, .int v4)] [] h (k82 h v0 v1 v2 v3 v4)) (h : q_H) (v0 : Nat) (v1 : Int32) (v2 : Int32) (v3 : Int32) (v4 : Int32) : q_J G l (RX10, cX10_cutsOne, 5, 4, 105, (some .int), "cutsOne", []) k0 z0 (q_Z G k0 z0 q_i) 82 [(0, .ref v0), (1, .int v1), (2, .int v2), (3, .int v3), (4, .int v4)] [] h (b_X10_cutsOne_82 k82 h v0 v1 v2 v3 v4) := by
  unfold b_X10_cutsOne_82
  refine j_iload (pc := 82) (p := 4) rfl dX10_cutsOne_82 ?_
  refine j_iconst (pc := 84) ki_5 dX10_cutsOne_84 ?_
  refine j_iload_n (pc := 85) (p := 3) rfl rfl dX10_cutsOne_85 ?_
  refine j_iload_n (pc := 86) (p := 2) rfl rfl dX10_cutsOne_86 ?_
  refine j_isub (pc := 87) dX10_cutsOne_87 ?_
  refine j_imul (pc := 88) dX10_cutsOne_88 ?_
  refine j_ic_ge (pc := 89) (tgt := 124) dX10_cutsOne_89 (by decide) (fun _ => ?_) (fun _ => ?_)
  · refine j_aload_n (pc := 124) (p := 0) rfl rfl dX10_cutsOne_124 ?_
    refine j_getR (pc := 125) FI_X10 (k := 7) (by decide) fl_X10_47 dX10_cutsOne_125 (fun x1 _ => ?_)
    refine j_sipush (pc := 128) ks_180 dX10_cutsOne_128 ?_
    refine j_iload_n (pc := 131) (p := 1) rfl rfl dX10_cutsOne_131 ?_
    refine j_iadd (pc := 132) dX10_cutsOne_132 ?_
    refine j_iload_n (pc := 133) (p := 3) rfl rfl dX10_cutsOne_133 ?_
    refine j_iload_n (pc := 134) (p := 2) rfl rfl dX10_cutsOne_134 ?_
    refine j_isub (pc := 135) dX10_cutsOne_135 ?_
    refine j_iast (pc := 136) dX10_cutsOne_136 (fun h2 _ => ?_)
    refine j_iload_n (pc := 137) (p := 2) rfl rfl dX10_cutsOne_137 ?_
    exact j_iret (pc := 138) rfl dX10_cutsOne_138
  refine j_aload_n (pc := 92) (p := 0) rfl rfl dX10_cutsOne_92 ?_
  refine j_getR (pc := 93) FI_X10 (k := 7) (by decide) fl_X10_47 dX10_cutsOne_93 (fun x3 _ => ?_)
  refine j_iload_n (pc := 96) (p := 1) rfl rfl dX10_cutsOne_96 ?_
  refine j_iconst (pc := 97) ki_0 dX10_cutsOne_97 ?_
  refine j_cSi (pc := 98) Y_X10_moveOf ml_X10_108 sm_X10_moveOf ⟨Nat.le_of_ble_eq_true rfl, Nat.le_of_ble_eq_true rfl⟩ dX10_cutsOne_98 (As := [.int v1, .int (0)]) (rest := [.ref x3]) rfl rfl (Nat.le_of_ble_eq_true rfl) (fun x hq9 => c_X10_moveOf _ _ _ _ hq9) (fun q4 _ => ?_)
  refine j_iload (pc := 101) (p := 4) rfl dX10_cutsOne_101 ?_
  refine j_iadd (pc := 103) dX10_cutsOne_103 ?_
  refine j_aload_n (pc := 104) (p := 0) rfl rfl dX10_cutsOne_104 ?_
  refine j_getR (pc := 105) FI_X10 (k := 7) (by decide) fl_X10_47 dX10_cutsOne_105 (fun x5 _ => ?_)
  refine j_iload_n (pc := 108) (p := 1) rfl rfl dX10_cutsOne_108 ?_
  refine j_iload_n (pc := 109) (p := 2) rfl rfl dX10_cutsOne_109 ?_
  refine j_cSi (pc := 110) Y_X10_moveOf ml_X10_108 sm_X10_moveOf ⟨Nat.le_of_ble_eq_true rfl, Nat.le_of_ble_eq_true rfl⟩ dX10_cutsOne_110 (As := [.int v1, .int v2]) (rest := [.ref x5, .int (q4.2 + v4), .ref x3]) rfl rfl (Nat.le_of_ble_eq_true rfl) (fun x hq9 => c_X10_moveOf _ _ _ _ hq9) (fun q6 _ => ?_)
  refine j_iload (pc := 113) (p := 4) rfl dX10_cutsOne_113 ?_
  refine j_iadd (pc := 115) dX10_cutsOne_115 ?_
  refine j_iald (pc := 116) dX10_cutsOne_116 (fun x7 _ => ?_)
  refine j_iast (pc := 117) dX10_cutsOne_117 (fun h8 _ => ?_)
  refine j_inc (pc := 118) (p := 4) (lv' := [(4, .int (v4 + 1)), (0, .ref v0), (1, .int v1), (2, .int v2), (3, .int v3)]) rfl ki_1 (by decide) rfl dX10_cutsOne_118 ?_
  refine j_goto (pc := 121) (tgt := 82) dX10_cutsOne_121 (by decide) ?_
  refine j_sub [1, 2, 3, 4, 0] (lv' := [(0, .ref v0), (1, .int v1), (2, .int v2), (3, .int v3), (4, .int (v4 + 1))]) rfl ?_
  exact hk82 _ _ _ _ _ _
set_option maxRecDepth 20000 in
set_option maxHeartbeats 1000000 in
theorem jl_X10_cutsOne_82 {G : q_G} {l : Launch} {k0 z0 : Nat} (n : Nat) : ∀ (h : q_H) (v0 : Nat) (v1 : Int32) (v2 : Int32) (v3 : Int32) (v4 : Int32), q_J G l (RX10, cX10_cutsOne, 5, 4, 105, (some .int), "cutsOne", []) k0 z0 (q_Z G k0 z0 q_i) 82 [(0, .ref v0), (1, .int v1), (2, .int v2), (3, .int v3), (4, .int v4)] [] h (l_X10_cutsOne_82 n h v0 v1 v2 v3 v4) := by
  induction n with
  | zero => intro h v0 v1 v2 v3 v4; exact j_none
  | succ n ih => intro h v0 v1 v2 v3 v4; exact jb_X10_cutsOne_82 (l_X10_cutsOne_82 n) ih h v0 v1 v2 v3 v4
set_option maxRecDepth 20000 in
set_option maxHeartbeats 1000000 in
theorem jb_X10_cutsOne_46 {G : q_G} {l : Launch} {k0 z0 : Nat} (k46 : q_H → Nat → Int32 → Int32 → Int32 → Int32 → Option (q_H × Int32)) (hk46 : ∀ (h : q_H) (v0 : Nat) (v1 : Int32) (v2 : Int32) (v3 : Int32) (v4 : Int32), q_J G l (RX10, cX10_cutsOne, 5, 4, 105, (some .int), "cutsOne", []) k0 z0 (q_Z G k0 z0 q_i) 46 [(0, .ref v0), (1, .int v1), (2, .int v2), (3, .int v3), (4, .int v4)] [] h (k46 h v0 v1 v2 v3 v4)) (h : q_H) (v0 : Nat) (v1 : Int32) (v2 : Int32) (v3 : Int32) (v4 : Int32) : q_J G l (RX10, cX10_cutsOne, 5, 4, 105, (some .int), "cutsOne", []) k0 z0 (q_Z G k0 z0 q_i) 46 [(0, .ref v0), (1, .int v1), (2, .int v2), (3, .int v3), (4, .int v4)] [] h (b_X10_cutsOne_46 k46 h v0 v1 v2 v3 v4) := by
  unfold b_X10_cutsOne_46
  refine j_iload (pc := 46) (p := 4) rfl dX10_cutsOne_46 ?_
  refine j_bipush (pc := 48) kb_56 dX10_cutsOne_48 ?_
  refine j_ic_ge (pc := 50) (tgt := 79) dX10_cutsOne_50 (by decide) (fun _ => ?_) (fun _ => ?_)
  · refine j_iconst (pc := 79) ki_0 dX10_cutsOne_79 ?_
    refine j_istore (pc := 80) (lv' := [(4, .int (0)), (0, .ref v0), (1, .int v1), (2, .int v2), (3, .int v3)]) (by decide) rfl dX10_cutsOne_80 ?_
    refine j_sub [1, 2, 3, 4, 0] (lv' := [(0, .ref v0), (1, .int v1), (2, .int v2), (3, .int v3), (4, .int (0))]) rfl ?_
    exact jl_X10_cutsOne_82 q_FU _ _ _ _ _ _
  refine j_aload_n (pc := 53) (p := 0) rfl rfl dX10_cutsOne_53 ?_
  refine j_getR (pc := 54) FI_X10 (k := 7) (by decide) fl_X10_47 dX10_cutsOne_54 (fun x9 _ => ?_)
  refine j_iload_n (pc := 57) (p := 1) rfl rfl dX10_cutsOne_57 ?_
  refine j_iconst (pc := 58) ki_0 dX10_cutsOne_58 ?_
  refine j_cSi (pc := 59) Y_X10_baseOf ml_X10_90 sm_X10_baseOf ⟨Nat.le_of_ble_eq_true rfl, Nat.le_of_ble_eq_true rfl⟩ dX10_cutsOne_59 (As := [.int v1, .int (0)]) (rest := [.ref x9]) rfl rfl (Nat.le_of_ble_eq_true rfl) (fun x hq9 => c_X10_baseOf _ _ _ _ hq9) (fun q10 _ => ?_)
  refine j_iload (pc := 62) (p := 4) rfl dX10_cutsOne_62 ?_
  refine j_iadd (pc := 64) dX10_cutsOne_64 ?_
  refine j_aload_n (pc := 65) (p := 0) rfl rfl dX10_cutsOne_65 ?_
  refine j_getR (pc := 66) FI_X10 (k := 11) (by decide) fl_X10_57 dX10_cutsOne_66 (fun x11 _ => ?_)
  refine j_iload (pc := 69) (p := 4) rfl dX10_cutsOne_69 ?_
  refine j_iald (pc := 71) dX10_cutsOne_71 (fun x12 _ => ?_)
  refine j_iast (pc := 72) dX10_cutsOne_72 (fun h13 _ => ?_)
  refine j_inc (pc := 73) (p := 4) (lv' := [(4, .int (v4 + 1)), (0, .ref v0), (1, .int v1), (2, .int v2), (3, .int v3)]) rfl ki_1 (by decide) rfl dX10_cutsOne_73 ?_
  refine j_goto (pc := 76) (tgt := 46) dX10_cutsOne_76 (by decide) ?_
  refine j_sub [1, 2, 3, 4, 0] (lv' := [(0, .ref v0), (1, .int v1), (2, .int v2), (3, .int v3), (4, .int (v4 + 1))]) rfl ?_
  exact hk46 _ _ _ _ _ _
set_option maxRecDepth 20000 in
set_option maxHeartbeats 1000000 in
theorem jl_X10_cutsOne_46 {G : q_G} {l : Launch} {k0 z0 : Nat} (n : Nat) : ∀ (h : q_H) (v0 : Nat) (v1 : Int32) (v2 : Int32) (v3 : Int32) (v4 : Int32), q_J G l (RX10, cX10_cutsOne, 5, 4, 105, (some .int), "cutsOne", []) k0 z0 (q_Z G k0 z0 q_i) 46 [(0, .ref v0), (1, .int v1), (2, .int v2), (3, .int v3), (4, .int v4)] [] h (l_X10_cutsOne_46 n h v0 v1 v2 v3 v4) := by
  induction n with
  | zero => intro h v0 v1 v2 v3 v4; exact j_none
  | succ n ih => intro h v0 v1 v2 v3 v4; exact jb_X10_cutsOne_46 (l_X10_cutsOne_46 n) ih h v0 v1 v2 v3 v4
set_option maxRecDepth 20000 in
set_option maxHeartbeats 1000000 in
theorem jb_X10_cutsOne_0 {G : q_G} {l : Launch} {k0 z0 : Nat} (h : q_H) (v0 : Nat) (v1 : Int32) : q_J G l (RX10, cX10_cutsOne, 5, 4, 105, (some .int), "cutsOne", []) k0 z0 (q_Z G k0 z0 q_i) 0 [(0, .ref v0), (1, .int v1)] [] h (b_X10_cutsOne_0 h v0 v1) := by
  unfold b_X10_cutsOne_0
  refine j_iload_n (pc := 0) (p := 1) rfl rfl dX10_cutsOne_0 ?_
  refine j_cSi (pc := 1) Y_X10_isCopy ml_X10_101 sm_X10_isCopy ⟨Nat.le_of_ble_eq_true rfl, Nat.le_of_ble_eq_true rfl⟩ dX10_cutsOne_1 (As := [.int v1]) (rest := []) rfl rfl (Nat.le_of_ble_eq_true rfl) (fun x hq9 => c_X10_isCopy _ _ _ hq9) (fun q14 _ => ?_)
  refine j_if_ne (pc := 4) (tgt := 9) dX10_cutsOne_4 (by decide) (fun _ => ?_) (fun _ => ?_)
  · refine j_iconst (pc := 7) ki_m1 dX10_cutsOne_7 ?_
    exact j_iret (pc := 8) rfl dX10_cutsOne_8
  refine j_aload_n (pc := 9) (p := 0) rfl rfl dX10_cutsOne_9 ?_
  refine j_iload_n (pc := 10) (p := 1) rfl rfl dX10_cutsOne_10 ?_
  refine j_cVi (pc := 11) Y_X10_cutMany (ci := 9) (b := v0) rfl rfl ml_X10_257 im_X10_cutMany se_X10_cutMany ⟨Nat.le_of_ble_eq_true rfl, Nat.le_of_ble_eq_true rfl⟩ dX10_cutsOne_11 (As := [.int v1]) (rest := []) rfl rfl (Nat.le_of_ble_eq_true rfl) (fun x hq9 => c_X10_cutMany _ _ _ _ hq9) (fun q15 _ => ?_)
  refine j_istore_n (pc := 14) (lv' := [(2, .int q15.2), (0, .ref v0), (1, .int v1)]) rfl (by decide) rfl dX10_cutsOne_14 ?_
  refine j_aload_n (pc := 15) (p := 1) rfl rfl dX10_cutsOne_15 ?_
  refine j_getR (pc := 16) FI_X10 (k := 7) (by decide) fl_X10_47 dX10_cutsOne_16 (fun x16 _ => ?_)
  refine j_sipush (pc := 19) ks_180 dX10_cutsOne_19 ?_
  refine j_iload_n (pc := 22) (p := 2) rfl rfl dX10_cutsOne_22 ?_
  refine j_iadd (pc := 23) dX10_cutsOne_23 ?_
  refine j_iald (pc := 24) dX10_cutsOne_24 (fun x17 _ => ?_)
  refine j_istore_n (pc := 25) (lv' := [(3, .int x17), (2, .int q15.2), (0, .ref v0), (1, .int v1)]) rfl (by decide) rfl dX10_cutsOne_25 ?_
  refine j_aload_n (pc := 26) (p := 2) rfl rfl dX10_cutsOne_26 ?_
  refine j_iload_n (pc := 27) (p := 3) rfl rfl dX10_cutsOne_27 ?_
  refine j_cVu (pc := 28) Y_X10_loads (ci := 9) (b := v0) rfl rfl ml_X10_144 im_X10_loads se_X10_loads ⟨Nat.le_of_ble_eq_true rfl, Nat.le_of_ble_eq_true rfl⟩ dX10_cutsOne_28 (As := [.int v1]) (rest := []) rfl rfl (Nat.le_of_ble_eq_true rfl) (fun x hq9 => c_X10_loads _ _ _ _ hq9) (fun q18 _ => ?_)
  refine j_aload_n (pc := 31) (p := 2) rfl rfl dX10_cutsOne_31 ?_
  refine j_iload_n (pc := 32) (p := 1) rfl rfl dX10_cutsOne_32 ?_
  refine j_put (pc := 33) FI_X10 (k := 9) (by decide) fl_X10_105 rfl rfl rfl dX10_cutsOne_33 (fun h19 _ => ?_)
  refine j_aload_n (pc := 36) (p := 2) rfl rfl dX10_cutsOne_36 ?_
  refine j_iconst (pc := 37) ki_0 dX10_cutsOne_37 ?_
  refine j_iload_n (pc := 38) (p := 3) rfl rfl dX10_cutsOne_38 ?_
  refine j_iconst (pc := 39) ki_m1 dX10_cutsOne_39 ?_
  refine j_cVu (pc := 40) Y_X10_grows (ci := 9) (b := v0) rfl rfl ml_X10_148 im_X10_grows se_X10_grows ⟨Nat.le_of_ble_eq_true rfl, Nat.le_of_ble_eq_true rfl⟩ dX10_cutsOne_40 (As := [.int (0), .int v1, .int (-1)]) (rest := []) rfl rfl (Nat.le_of_ble_eq_true rfl) (fun x hq9 => c_X10_grows _ _ _ _ _ _ hq9) (fun q20 _ => ?_)
  refine j_iconst (pc := 43) ki_0 dX10_cutsOne_43 ?_
  refine j_istore (pc := 44) (lv' := [(4, .int (0)), (3, .int x17), (2, .int q15.2), (0, .ref v0), (1, .int v1)]) (by decide) rfl dX10_cutsOne_44 ?_
  refine j_sub [3, 4, 2, 1, 0] (lv' := [(0, .ref v0), (1, .int v1), (2, .int q15.2), (3, .int x17), (4, .int (0))]) rfl ?_
  exact jl_X10_cutsOne_46 q_FU _ _ _ _ _ _
set_option maxRecDepth 20000 in
set_option maxHeartbeats 1000000 in
theorem c_X10_cutsOne {G : q_G} {l : Launch} : ∀ (h : q_H) (a0 : Nat) (a1 : Int32) (q : q_H × Int32), f_X10_cutsOne h a0 a1 = some q → (∃ fs, h.1 a0 = .inr (9, fs)) ∧ q_CT G l yX10_cutsOne cX10_cutsOne 5 (some .int) 4 105 [.ref a0, .int a1] h q.1 (q_i q.2) := by
  intro h a0 a1 q e
  obtain ⟨e1, e2⟩ := q_chk_ok e
  exact ⟨e1, q_ofJ Y_X10_cutsOne (Nat.le_of_ble_eq_true rfl) (jb_X10_cutsOne_0 h a0 a1) q e2⟩
/-! FarFoldersModel.cuts(I)I -/
theorem dX10_cuts_0 : decode cX10_cuts 0 = .ok (.aload_n 0, 1) := by decide +kernel
theorem dX10_cuts_1 : decode cX10_cuts 1 = .ok (.iconst 0, 1) := by decide +kernel
theorem dX10_cuts_2 : decode cX10_cuts 2 = .ok (.putfield 1, 3) := by decide +kernel
theorem dX10_cuts_5 : decode cX10_cuts 5 = .ok (.aload_n 0, 1) := by decide +kernel
theorem dX10_cuts_6 : decode cX10_cuts 6 = .ok (.iload_n 1, 1) := by decide +kernel
theorem dX10_cuts_7 : decode cX10_cuts 7 = .ok (.invokevirtual 260, 3) := by decide +kernel
theorem dX10_cuts_10 : decode cX10_cuts 10 = .ok (.ireturn, 1) := by decide +kernel
def b_X10_cuts_0 (h : q_H) (v0 : Nat) (v1 : Int32) : Option (q_H × Int32) :=
  Option.bind (q_p 9 0 h v0 (.int (0))) (fun h1 => Option.bind (f_X10_cutsOne h1 v0 v1) (fun q2 => some (q2.1, q2.2)))
def f_X10_cuts (h : q_H) (a0 : Nat) (a1 : Int32) : Option (q_H × Int32) := q_chk 9 h a0 (b_X10_cuts_0 h a0 a1)
set_option maxRecDepth 20000 in
set_option maxHeartbeats 1000000 in
theorem jb_X10_cuts_0 {G : q_G} {l : Launch} {k0 z0 : Nat} (h : q_H) (v0 : Nat) (v1 : Int32) : q_J G l (RX10, cX10_cuts, 2, 5, 129, (some .int), "cuts", []) k0 z0 (q_Z G k0 z0 q_i) 0 [(0, .ref v0), (1, .int v1)] [] h (b_X10_cuts_0 h v0 v1) := by
  unfold b_X10_cuts_0
  refine j_aload_n (pc := 0) (p := 0) rfl rfl dX10_cuts_0 ?_
  refine j_iconst (pc := 1) ki_0 dX10_cuts_1 ?_
  refine j_put (pc := 2) FI_X10 (k := 0) (by decide) fl_X10_1 rfl rfl rfl dX10_cuts_2 (fun h1 _ => ?_)
  refine j_aload_n (pc := 5) (p := 0) rfl rfl dX10_cuts_5 ?_
  refine j_iload_n (pc := 6) (p := 1) rfl rfl dX10_cuts_6 ?_
  refine j_cVi (pc := 7) Y_X10_cutsOne (ci := 9) (b := v0) rfl rfl ml_X10_260 im_X10_cutsOne se_X10_cutsOne ⟨Nat.le_of_ble_eq_true rfl, Nat.le_of_ble_eq_true rfl⟩ dX10_cuts_7 (As := [.int v1]) (rest := []) rfl rfl (Nat.le_of_ble_eq_true rfl) (fun x hq9 => c_X10_cutsOne _ _ _ _ hq9) (fun q2 _ => ?_)
  exact j_iret (pc := 10) rfl dX10_cuts_10
set_option maxRecDepth 20000 in
set_option maxHeartbeats 1000000 in
theorem c_X10_cuts {G : q_G} {l : Launch} : ∀ (h : q_H) (a0 : Nat) (a1 : Int32) (q : q_H × Int32), f_X10_cuts h a0 a1 = some q → (∃ fs, h.1 a0 = .inr (9, fs)) ∧ q_CT G l yX10_cuts cX10_cuts 2 (some .int) 5 129 [.ref a0, .int a1] h q.1 (q_i q.2) := by
  intro h a0 a1 q e
  obtain ⟨e1, e2⟩ := q_chk_ok e
  exact ⟨e1, q_ofJ Y_X10_cuts (Nat.le_of_ble_eq_true rfl) (jb_X10_cuts_0 h a0 a1) q e2⟩
/-! FarFoldersModel.reads()V -/
theorem dX10_reads_0 : decode cX10_reads 0 = .ok (.aload_n 0, 1) := by decide +kernel
theorem dX10_reads_1 : decode cX10_reads 1 = .ok (.aload_n 0, 1) := by decide +kernel
theorem dX10_reads_2 : decode cX10_reads 2 = .ok (.getfield 14, 3) := by decide +kernel
theorem dX10_reads_5 : decode cX10_reads 5 = .ok (.putfield 25, 3) := by decide +kernel
theorem dX10_reads_8 : decode cX10_reads 8 = .ok (.aload_n 0, 1) := by decide +kernel
theorem dX10_reads_9 : decode cX10_reads 9 = .ok (.iconst 0, 1) := by decide +kernel
theorem dX10_reads_10 : decode cX10_reads 10 = .ok (.putfield 14, 3) := by decide +kernel
theorem dX10_reads_13 : decode cX10_reads 13 = .ok (.aload_n 0, 1) := by decide +kernel
theorem dX10_reads_14 : decode cX10_reads 14 = .ok (.iconst 0, 1) := by decide +kernel
theorem dX10_reads_15 : decode cX10_reads 15 = .ok (.putfield 28, 3) := by decide +kernel
theorem dX10_reads_18 : decode cX10_reads 18 = .ok (.return_, 1) := by decide +kernel
def b_X10_reads_0 (h : q_H) (v0 : Nat) : Option (q_H × Unit) :=
  Option.bind (q_gI 9 4 h v0) (fun x1 => Option.bind (q_p 9 6 h v0 (.int x1)) (fun h2 => Option.bind (q_p 9 4 h2 v0 (.int (0))) (fun h3 => Option.bind (q_p 9 5 h3 v0 (.int (0))) (fun h4 => some (h4, ())))))
def f_X10_reads (h : q_H) (a0 : Nat) : Option (q_H × Unit) := q_chk 9 h a0 (b_X10_reads_0 h a0)
set_option maxRecDepth 20000 in
set_option maxHeartbeats 1000000 in
theorem jb_X10_reads_0 {G : q_G} {l : Launch} {k0 z0 : Nat} (h : q_H) (v0 : Nat) : q_J G l (RX10, cX10_reads, 1, 0, 0, none, "reads", []) k0 z0 (q_Z G k0 z0 q_u) 0 [(0, .ref v0)] [] h (b_X10_reads_0 h v0) := by
  unfold b_X10_reads_0
  refine j_aload_n (pc := 0) (p := 0) rfl rfl dX10_reads_0 ?_
  refine j_aload_n (pc := 1) (p := 0) rfl rfl dX10_reads_1 ?_
  refine j_getI (pc := 2) FI_X10 (k := 4) (by decide) fl_X10_14 dX10_reads_2 (fun x1 _ => ?_)
  refine j_put (pc := 5) FI_X10 (k := 6) (by decide) fl_X10_25 rfl rfl rfl dX10_reads_5 (fun h2 _ => ?_)
  refine j_aload_n (pc := 8) (p := 0) rfl rfl dX10_reads_8 ?_
  refine j_iconst (pc := 9) ki_0 dX10_reads_9 ?_
  refine j_put (pc := 10) FI_X10 (k := 4) (by decide) fl_X10_14 rfl rfl rfl dX10_reads_10 (fun h3 _ => ?_)
  refine j_aload_n (pc := 13) (p := 0) rfl rfl dX10_reads_13 ?_
  refine j_iconst (pc := 14) ki_0 dX10_reads_14 ?_
  refine j_put (pc := 15) FI_X10 (k := 5) (by decide) fl_X10_28 rfl rfl rfl dX10_reads_15 (fun h4 _ => ?_)
  exact j_vret (pc := 18) rfl dX10_reads_18
set_option maxRecDepth 20000 in
set_option maxHeartbeats 1000000 in
theorem c_X10_reads {G : q_G} {l : Launch} : ∀ (h : q_H) (a0 : Nat) (q : q_H × Unit), f_X10_reads h a0 = some q → (∃ fs, h.1 a0 = .inr (9, fs)) ∧ q_CT G l yX10_reads cX10_reads 1 none 0 0 [.ref a0] h q.1 (q_u q.2) := by
  intro h a0 q e
  obtain ⟨e1, e2⟩ := q_chk_ok e
  exact ⟨e1, q_ofJ Y_X10_reads (Nat.le_of_ble_eq_true rfl) (jb_X10_reads_0 h a0) q e2⟩
/-! FarFoldersModel.takesOf(Ljava/lang/String;)I -/
theorem dX10_takesOf_0 : decode cX10_takesOf 0 = .ok (.iconst 0, 1) := by decide +kernel
theorem dX10_takesOf_1 : decode cX10_takesOf 1 = .ok (.istore_n 2, 1) := by decide +kernel
theorem dX10_takesOf_2 : decode cX10_takesOf 2 = .ok (.iload_n 2, 1) := by decide +kernel
theorem dX10_takesOf_3 : decode cX10_takesOf 3 = .ok (.aload_n 1, 1) := by decide +kernel
theorem dX10_takesOf_4 : decode cX10_takesOf 4 = .ok (.invokevirtual 31, 3) := by decide +kernel
theorem dX10_takesOf_7 : decode cX10_takesOf 7 = .ok (.if_icmp .ge 49, 3) := by decide +kernel
theorem dX10_takesOf_10 : decode cX10_takesOf 10 = .ok (.aload_n 0, 1) := by decide +kernel
theorem dX10_takesOf_11 : decode cX10_takesOf 11 = .ok (.getfield 28, 3) := by decide +kernel
theorem dX10_takesOf_14 : decode cX10_takesOf 14 = .ok (.aload_n 0, 1) := by decide +kernel
theorem dX10_takesOf_15 : decode cX10_takesOf 15 = .ok (.getfield 25, 3) := by decide +kernel
theorem dX10_takesOf_18 : decode cX10_takesOf 18 = .ok (.if_icmp .ge 38, 3) := by decide +kernel
theorem dX10_takesOf_21 : decode cX10_takesOf 21 = .ok (.aload_n 1, 1) := by decide +kernel
theorem dX10_takesOf_22 : decode cX10_takesOf 22 = .ok (.iload_n 2, 1) := by decide +kernel
theorem dX10_takesOf_23 : decode cX10_takesOf 23 = .ok (.invokevirtual 37, 3) := by decide +kernel
theorem dX10_takesOf_26 : decode cX10_takesOf 26 = .ok (.aload_n 0, 1) := by decide +kernel
theorem dX10_takesOf_27 : decode cX10_takesOf 27 = .ok (.getfield 17, 3) := by decide +kernel
theorem dX10_takesOf_30 : decode cX10_takesOf 30 = .ok (.aload_n 0, 1) := by decide +kernel
theorem dX10_takesOf_31 : decode cX10_takesOf 31 = .ok (.getfield 28, 3) := by decide +kernel
theorem dX10_takesOf_34 : decode cX10_takesOf 34 = .ok (.iaload, 1) := by decide +kernel
theorem dX10_takesOf_35 : decode cX10_takesOf 35 = .ok (.if_icmp .ne 15, 3) := by decide +kernel
theorem dX10_takesOf_38 : decode cX10_takesOf 38 = .ok (.aload_n 0, 1) := by decide +kernel
theorem dX10_takesOf_39 : decode cX10_takesOf 39 = .ok (.dup, 1) := by decide +kernel
theorem dX10_takesOf_40 : decode cX10_takesOf 40 = .ok (.getfield 28, 3) := by decide +kernel
theorem dX10_takesOf_43 : decode cX10_takesOf 43 = .ok (.iconst 1, 1) := by decide +kernel
theorem dX10_takesOf_44 : decode cX10_takesOf 44 = .ok (.iadd, 1) := by decide +kernel
theorem dX10_takesOf_45 : decode cX10_takesOf 45 = .ok (.putfield 28, 3) := by decide +kernel
theorem dX10_takesOf_48 : decode cX10_takesOf 48 = .ok (.iload_n 2, 1) := by decide +kernel
theorem dX10_takesOf_49 : decode cX10_takesOf 49 = .ok (.ireturn, 1) := by decide +kernel
theorem dX10_takesOf_50 : decode cX10_takesOf 50 = .ok (.iinc 2 1, 3) := by decide +kernel
theorem dX10_takesOf_53 : decode cX10_takesOf 53 = .ok (.goto (-51), 3) := by decide +kernel
theorem dX10_takesOf_56 : decode cX10_takesOf 56 = .ok (.iconst (-1), 1) := by decide +kernel
theorem dX10_takesOf_57 : decode cX10_takesOf 57 = .ok (.ireturn, 1) := by decide +kernel
def b_X10_takesOf_2 (k2 : q_H → Nat → UInt32 → Int32 → Option (q_H × Int32)) (h : q_H) (v0 : Nat) (v1 : UInt32) (v2 : Int32) : Option (q_H × Int32) :=
  Option.bind (q_slen v1) (fun x1 => if x1 ≤ v2 then some (h, (-1)) else Option.bind (q_gI 9 5 h v0) (fun x2 => Option.bind (q_gI 9 6 h v0) (fun x3 => if x3 ≤ x2 then some (h, (-1)) else Option.bind (q_sch v1 v2) (fun x4 => Option.bind (q_gR 9 3 h v0) (fun x5 => Option.bind (q_gI 9 5 h v0) (fun x6 => Option.bind (q_lI 0 h x5 x6) (fun x7 => if x4 = x7 then Option.bind (q_gI 9 5 h v0) (fun x8 => Option.bind (q_p 9 5 h v0 (.int (x8 + (1)))) (fun h9 => some (h9, v2))) else k2 h v0 v1 (v2 + 1))))))))
def l_X10_takesOf_2 : Nat → q_H → Nat → UInt32 → Int32 → Option (q_H × Int32)
  | 0, _, _, _, _ => none
  | n + 1, h, v0, v1, v2 => b_X10_takesOf_2 (l_X10_takesOf_2 n) h v0 v1 v2
def b_X10_takesOf_0 (h : q_H) (v0 : Nat) (v1 : UInt32) : Option (q_H × Int32) :=
  l_X10_takesOf_2 q_FU h v0 v1 (0)
def f_X10_takesOf (h : q_H) (a0 : Nat) (a1 : UInt32) : Option (q_H × Int32) := q_chk 9 h a0 (b_X10_takesOf_0 h a0 a1)
set_option maxRecDepth 20000 in
set_option maxHeartbeats 1000000 in
theorem jb_X10_takesOf_2 {G : q_G} {l : Launch} {k0 z0 : Nat} (k2 : q_H → Nat → UInt32 → Int32 → Option (q_H × Int32)) (hk2 : ∀ (h : q_H) (v0 : Nat) (v1 : UInt32) (v2 : Int32), q_J G l (RX10, cX10_takesOf, 3, 8, 300, (some .int), "takesOf", []) k0 z0 (q_Z G k0 z0 q_i) 2 [(0, .ref v0), (1, .float v1), (2, .int v2)] [] h (k2 h v0 v1 v2)) (h : q_H) (v0 : Nat) (v1 : UInt32) (v2 : Int32) : q_J G l (RX10, cX10_takesOf, 3, 8, 300, (some .int), "takesOf", []) k0 z0 (q_Z G k0 z0 q_i) 2 [(0, .ref v0), (1, .float v1), (2, .int v2)] [] h (b_X10_takesOf_2 k2 h v0 v1 v2) := by
  unfold b_X10_takesOf_2
  refine j_iload_n (pc := 2) (p := 2) rfl rfl dX10_takesOf_2 ?_
  refine j_sload_n (pc := 3) (p := 1) rfl rfl dX10_takesOf_3 ?_
  refine j_slen (pc := 4) ml_X10_31 ⟨Nat.le_of_ble_eq_true rfl, Nat.le_of_ble_eq_true rfl⟩ (Nat.le_of_ble_eq_true rfl) dX10_takesOf_4 (fun x1 _ => ?_)
  refine j_ic_ge (pc := 7) (tgt := 56) dX10_takesOf_7 (by decide) (fun _ => ?_) (fun _ => ?_)
  · refine j_iconst (pc := 56) ki_m1 dX10_takesOf_56 ?_
    exact j_iret (pc := 57) rfl dX10_takesOf_57
  refine j_aload_n (pc := 10) (p := 0) rfl rfl dX10_takesOf_10 ?_
  refine j_getI (pc := 11) FI_X10 (k := 5) (by decide) fl_X10_28 dX10_takesOf_11 (fun x2 _ => ?_)
  refine j_aload_n (pc := 14) (p := 0) rfl rfl dX10_takesOf_14 ?_
  refine j_getI (pc := 15) FI_X10 (k := 6) (by decide) fl_X10_25 dX10_takesOf_15 (fun x3 _ => ?_)
  refine j_ic_ge (pc := 18) (tgt := 56) dX10_takesOf_18 (by decide) (fun _ => ?_) (fun _ => ?_)
  · refine j_iconst (pc := 56) ki_m1 dX10_takesOf_56 ?_
    exact j_iret (pc := 57) rfl dX10_takesOf_57
  refine j_sload_n (pc := 21) (p := 1) rfl rfl dX10_takesOf_21 ?_
  refine j_iload_n (pc := 22) (p := 2) rfl rfl dX10_takesOf_22 ?_
  refine j_sch (pc := 23) ml_X10_37 ⟨Nat.le_of_ble_eq_true rfl, Nat.le_of_ble_eq_true rfl⟩ (Nat.le_of_ble_eq_true rfl) dX10_takesOf_23 (fun x4 _ => ?_)
  refine j_aload_n (pc := 26) (p := 0) rfl rfl dX10_takesOf_26 ?_
  refine j_getR (pc := 27) FI_X10 (k := 3) (by decide) fl_X10_17 dX10_takesOf_27 (fun x5 _ => ?_)
  refine j_aload_n (pc := 30) (p := 0) rfl rfl dX10_takesOf_30 ?_
  refine j_getI (pc := 31) FI_X10 (k := 5) (by decide) fl_X10_28 dX10_takesOf_31 (fun x6 _ => ?_)
  refine j_iald (pc := 34) dX10_takesOf_34 (fun x7 _ => ?_)
  refine j_ic_ne (pc := 35) (tgt := 50) dX10_takesOf_35 (by decide) (fun _ => ?_) (fun _ => ?_)
  · refine j_aload_n (pc := 38) (p := 0) rfl rfl dX10_takesOf_38 ?_
    refine j_dup (pc := 39) rfl dX10_takesOf_39 ?_
    refine j_getI (pc := 40) FI_X10 (k := 5) (by decide) fl_X10_28 dX10_takesOf_40 (fun x8 _ => ?_)
    refine j_iconst (pc := 43) ki_1 dX10_takesOf_43 ?_
    refine j_iadd (pc := 44) dX10_takesOf_44 ?_
    refine j_put (pc := 45) FI_X10 (k := 5) (by decide) fl_X10_28 rfl rfl rfl dX10_takesOf_45 (fun h9 _ => ?_)
    refine j_iload_n (pc := 48) (p := 2) rfl rfl dX10_takesOf_48 ?_
    exact j_iret (pc := 49) rfl dX10_takesOf_49
  refine j_inc (pc := 50) (p := 2) (lv' := [(2, .int (v2 + 1)), (0, .ref v0), (1, .float v1)]) rfl ki_1 (by decide) rfl dX10_takesOf_50 ?_
  refine j_goto (pc := 53) (tgt := 2) dX10_takesOf_53 (by decide) ?_
  refine j_sub [1, 2, 0] (lv' := [(0, .ref v0), (1, .float v1), (2, .int (v2 + 1))]) rfl ?_
  exact hk2 _ _ _ _
set_option maxRecDepth 20000 in
set_option maxHeartbeats 1000000 in
theorem jl_X10_takesOf_2 {G : q_G} {l : Launch} {k0 z0 : Nat} (n : Nat) : ∀ (h : q_H) (v0 : Nat) (v1 : UInt32) (v2 : Int32), q_J G l (RX10, cX10_takesOf, 3, 8, 300, (some .int), "takesOf", []) k0 z0 (q_Z G k0 z0 q_i) 2 [(0, .ref v0), (1, .float v1), (2, .int v2)] [] h (l_X10_takesOf_2 n h v0 v1 v2) := by
  induction n with
  | zero => intro h v0 v1 v2; exact j_none
  | succ n ih => intro h v0 v1 v2; exact jb_X10_takesOf_2 (l_X10_takesOf_2 n) ih h v0 v1 v2
set_option maxRecDepth 20000 in
set_option maxHeartbeats 1000000 in
theorem jb_X10_takesOf_0 {G : q_G} {l : Launch} {k0 z0 : Nat} (h : q_H) (v0 : Nat) (v1 : UInt32) : q_J G l (RX10, cX10_takesOf, 3, 8, 300, (some .int), "takesOf", []) k0 z0 (q_Z G k0 z0 q_i) 0 [(0, .ref v0), (1, .float v1)] [] h (b_X10_takesOf_0 h v0 v1) := by
  unfold b_X10_takesOf_0
  refine j_iconst (pc := 0) ki_0 dX10_takesOf_0 ?_
  refine j_istore_n (pc := 1) (lv' := [(2, .int (0)), (0, .ref v0), (1, .float v1)]) rfl (by decide) rfl dX10_takesOf_1 ?_
  refine j_sub [1, 2, 0] (lv' := [(0, .ref v0), (1, .float v1), (2, .int (0))]) rfl ?_
  exact jl_X10_takesOf_2 q_FU _ _ _ _
set_option maxRecDepth 20000 in
set_option maxHeartbeats 1000000 in
theorem c_X10_takesOf {G : q_G} {l : Launch} : ∀ (h : q_H) (a0 : Nat) (a1 : UInt32) (q : q_H × Int32), f_X10_takesOf h a0 a1 = some q → (∃ fs, h.1 a0 = .inr (9, fs)) ∧ q_CT G l yX10_takesOf cX10_takesOf 3 (some .int) 8 300 [.ref a0, .float a1] h q.1 (q_i q.2) := by
  intro h a0 a1 q e
  obtain ⟨e1, e2⟩ := q_chk_ok e
  exact ⟨e1, q_ofJ Y_X10_takesOf (Nat.le_of_ble_eq_true rfl) (jb_X10_takesOf_0 h a0 a1) q e2⟩
/-! FarFoldersModel.readsParent()I -/
theorem dX10_readsParent_0 : decode cX10_readsParent 0 = .ok (.aload_n 0, 1) := by decide +kernel
theorem dX10_readsParent_1 : decode cX10_readsParent 1 = .ok (.getfield 28, 3) := by decide +kernel
theorem dX10_readsParent_4 : decode cX10_readsParent 4 = .ok (.aload_n 0, 1) := by decide +kernel
theorem dX10_readsParent_5 : decode cX10_readsParent 5 = .ok (.getfield 25, 3) := by decide +kernel
theorem dX10_readsParent_8 : decode cX10_readsParent 8 = .ok (.if_icmp .ge 29, 3) := by decide +kernel
theorem dX10_readsParent_11 : decode cX10_readsParent 11 = .ok (.aload_n 0, 1) := by decide +kernel
theorem dX10_readsParent_12 : decode cX10_readsParent 12 = .ok (.getfield 17, 3) := by decide +kernel
theorem dX10_readsParent_15 : decode cX10_readsParent 15 = .ok (.aload_n 0, 1) := by decide +kernel
theorem dX10_readsParent_16 : decode cX10_readsParent 16 = .ok (.getfield 28, 3) := by decide +kernel
theorem dX10_readsParent_19 : decode cX10_readsParent 19 = .ok (.iaload, 1) := by decide +kernel
theorem dX10_readsParent_20 : decode cX10_readsParent 20 = .ok (.bipush 47, 2) := by decide +kernel
theorem dX10_readsParent_22 : decode cX10_readsParent 22 = .ok (.if_icmp .ne 15, 3) := by decide +kernel
theorem dX10_readsParent_25 : decode cX10_readsParent 25 = .ok (.aload_n 0, 1) := by decide +kernel
theorem dX10_readsParent_26 : decode cX10_readsParent 26 = .ok (.dup, 1) := by decide +kernel
theorem dX10_readsParent_27 : decode cX10_readsParent 27 = .ok (.getfield 28, 3) := by decide +kernel
theorem dX10_readsParent_30 : decode cX10_readsParent 30 = .ok (.iconst 1, 1) := by decide +kernel
theorem dX10_readsParent_31 : decode cX10_readsParent 31 = .ok (.iadd, 1) := by decide +kernel
theorem dX10_readsParent_32 : decode cX10_readsParent 32 = .ok (.putfield 28, 3) := by decide +kernel
theorem dX10_readsParent_35 : decode cX10_readsParent 35 = .ok (.iconst 0, 1) := by decide +kernel
theorem dX10_readsParent_36 : decode cX10_readsParent 36 = .ok (.ireturn, 1) := by decide +kernel
theorem dX10_readsParent_37 : decode cX10_readsParent 37 = .ok (.aload_n 0, 1) := by decide +kernel
theorem dX10_readsParent_38 : decode cX10_readsParent 38 = .ok (.getfield 28, 3) := by decide +kernel
theorem dX10_readsParent_41 : decode cX10_readsParent 41 = .ok (.aload_n 0, 1) := by decide +kernel
theorem dX10_readsParent_42 : decode cX10_readsParent 42 = .ok (.getfield 25, 3) := by decide +kernel
theorem dX10_readsParent_45 : decode cX10_readsParent 45 = .ok (.if_icmp .ge 29, 3) := by decide +kernel
theorem dX10_readsParent_48 : decode cX10_readsParent 48 = .ok (.aload_n 0, 1) := by decide +kernel
theorem dX10_readsParent_49 : decode cX10_readsParent 49 = .ok (.getfield 17, 3) := by decide +kernel
theorem dX10_readsParent_52 : decode cX10_readsParent 52 = .ok (.aload_n 0, 1) := by decide +kernel
theorem dX10_readsParent_53 : decode cX10_readsParent 53 = .ok (.getfield 28, 3) := by decide +kernel
theorem dX10_readsParent_56 : decode cX10_readsParent 56 = .ok (.iaload, 1) := by decide +kernel
theorem dX10_readsParent_57 : decode cX10_readsParent 57 = .ok (.bipush 126, 2) := by decide +kernel
theorem dX10_readsParent_59 : decode cX10_readsParent 59 = .ok (.if_icmp .ne 15, 3) := by decide +kernel
theorem dX10_readsParent_62 : decode cX10_readsParent 62 = .ok (.aload_n 0, 1) := by decide +kernel
theorem dX10_readsParent_63 : decode cX10_readsParent 63 = .ok (.dup, 1) := by decide +kernel
theorem dX10_readsParent_64 : decode cX10_readsParent 64 = .ok (.getfield 28, 3) := by decide +kernel
theorem dX10_readsParent_67 : decode cX10_readsParent 67 = .ok (.iconst 1, 1) := by decide +kernel
theorem dX10_readsParent_68 : decode cX10_readsParent 68 = .ok (.iadd, 1) := by decide +kernel
theorem dX10_readsParent_69 : decode cX10_readsParent 69 = .ok (.putfield 28, 3) := by decide +kernel
theorem dX10_readsParent_72 : decode cX10_readsParent 72 = .ok (.iconst 1, 1) := by decide +kernel
theorem dX10_readsParent_73 : decode cX10_readsParent 73 = .ok (.ireturn, 1) := by decide +kernel
theorem dX10_readsParent_74 : decode cX10_readsParent 74 = .ok (.aload_n 0, 1) := by decide +kernel
theorem dX10_readsParent_75 : decode cX10_readsParent 75 = .ok (.ldc_w 263, 3) := by decide +kernel
theorem dX10_readsParent_78 : decode cX10_readsParent 78 = .ok (.invokevirtual 265, 3) := by decide +kernel
theorem dX10_readsParent_81 : decode cX10_readsParent 81 = .ok (.istore_n 1, 1) := by decide +kernel
theorem dX10_readsParent_82 : decode cX10_readsParent 82 = .ok (.iload_n 1, 1) := by decide +kernel
theorem dX10_readsParent_83 : decode cX10_readsParent 83 = .ok (.ifCond .ge 7, 3) := by decide +kernel
theorem dX10_readsParent_86 : decode cX10_readsParent 86 = .ok (.iconst (-1), 1) := by decide +kernel
theorem dX10_readsParent_87 : decode cX10_readsParent 87 = .ok (.goto 6, 3) := by decide +kernel
theorem dX10_readsParent_90 : decode cX10_readsParent 90 = .ok (.iconst 2, 1) := by decide +kernel
theorem dX10_readsParent_91 : decode cX10_readsParent 91 = .ok (.iload_n 1, 1) := by decide +kernel
theorem dX10_readsParent_92 : decode cX10_readsParent 92 = .ok (.iadd, 1) := by decide +kernel
theorem dX10_readsParent_93 : decode cX10_readsParent 93 = .ok (.ireturn, 1) := by decide +kernel
def b_X10_readsParent_74 (h : q_H) (v0 : Nat) : Option (q_H × Int32) :=
  Option.bind (f_X10_takesOf h v0 (2)) (fun q1 => if 0 ≤ q1.2 then some (q1.1, ((2) + q1.2)) else some (q1.1, (-1)))
def b_X10_readsParent_37 (h : q_H) (v0 : Nat) : Option (q_H × Int32) :=
  Option.bind (q_gI 9 5 h v0) (fun x2 => Option.bind (q_gI 9 6 h v0) (fun x3 => if x3 ≤ x2 then b_X10_readsParent_74 h v0 else Option.bind (q_gR 9 3 h v0) (fun x4 => Option.bind (q_gI 9 5 h v0) (fun x5 => Option.bind (q_lI 0 h x4 x5) (fun x6 => if x6 = (126) then Option.bind (q_gI 9 5 h v0) (fun x7 => Option.bind (q_p 9 5 h v0 (.int (x7 + (1)))) (fun h8 => some (h8, (1)))) else b_X10_readsParent_74 h v0)))))
def b_X10_readsParent_0 (h : q_H) (v0 : Nat) : Option (q_H × Int32) :=
  Option.bind (q_gI 9 5 h v0) (fun x9 => Option.bind (q_gI 9 6 h v0) (fun x10 => if x10 ≤ x9 then b_X10_readsParent_37 h v0 else Option.bind (q_gR 9 3 h v0) (fun x11 => Option.bind (q_gI 9 5 h v0) (fun x12 => Option.bind (q_lI 0 h x11 x12) (fun x13 => if x13 = (47) then Option.bind (q_gI 9 5 h v0) (fun x14 => Option.bind (q_p 9 5 h v0 (.int (x14 + (1)))) (fun h15 => some (h15, (0)))) else b_X10_readsParent_37 h v0)))))
def f_X10_readsParent (h : q_H) (a0 : Nat) : Option (q_H × Int32) := q_chk 9 h a0 (b_X10_readsParent_0 h a0)
set_option maxRecDepth 20000 in
set_option maxHeartbeats 1000000 in
theorem jb_X10_readsParent_74 {G : q_G} {l : Launch} {k0 z0 : Nat} (h : q_H) (v0 : Nat) : q_J G l (RX10, cX10_readsParent, 2, 9, 322, (some .int), "readsParent", []) k0 z0 (q_Z G k0 z0 q_i) 74 [(0, .ref v0)] [] h (b_X10_readsParent_74 h v0) := by
  unfold b_X10_readsParent_74
  refine j_aload_n (pc := 74) (p := 0) rfl rfl dX10_readsParent_74 ?_
  refine j_ldcs (pc := 75) (k := 2) (u := 2) (by decide) rfl rfl dX10_readsParent_75 ?_
  refine j_cVi (pc := 78) Y_X10_takesOf (ci := 9) (b := v0) rfl rfl ml_X10_265 im_X10_takesOf se_X10_takesOf ⟨Nat.le_of_ble_eq_true rfl, Nat.le_of_ble_eq_true rfl⟩ dX10_readsParent_78 (As := [.float (2)]) (rest := []) rfl rfl (Nat.le_of_ble_eq_true rfl) (fun x hq9 => c_X10_takesOf _ _ _ _ hq9) (fun q1 _ => ?_)
  refine j_istore_n (pc := 81) (lv' := [(1, .int q1.2), (0, .ref v0)]) rfl (by decide) rfl dX10_readsParent_81 ?_
  refine j_iload_n (pc := 82) (p := 0) rfl rfl dX10_readsParent_82 ?_
  refine j_if_ge (pc := 83) (tgt := 90) dX10_readsParent_83 (by decide) (fun _ => ?_) (fun _ => ?_)
  · refine j_iconst (pc := 90) ki_2 dX10_readsParent_90 ?_
    refine j_iload_n (pc := 91) (p := 0) rfl rfl dX10_readsParent_91 ?_
    refine j_iadd (pc := 92) dX10_readsParent_92 ?_
    exact j_iret (pc := 93) rfl dX10_readsParent_93
  refine j_iconst (pc := 86) ki_m1 dX10_readsParent_86 ?_
  refine j_goto (pc := 87) (tgt := 93) dX10_readsParent_87 (by decide) ?_
  exact j_iret (pc := 93) rfl dX10_readsParent_93
set_option maxRecDepth 20000 in
set_option maxHeartbeats 1000000 in
theorem jb_X10_readsParent_37 {G : q_G} {l : Launch} {k0 z0 : Nat} (h : q_H) (v0 : Nat) : q_J G l (RX10, cX10_readsParent, 2, 9, 322, (some .int), "readsParent", []) k0 z0 (q_Z G k0 z0 q_i) 37 [(0, .ref v0)] [] h (b_X10_readsParent_37 h v0) := by
  unfold b_X10_readsParent_37
  refine j_aload_n (pc := 37) (p := 0) rfl rfl dX10_readsParent_37 ?_
  refine j_getI (pc := 38) FI_X10 (k := 5) (by decide) fl_X10_28 dX10_readsParent_38 (fun x2 _ => ?_)
  refine j_aload_n (pc := 41) (p := 0) rfl rfl dX10_readsParent_41 ?_
  refine j_getI (pc := 42) FI_X10 (k := 6) (by decide) fl_X10_25 dX10_readsParent_42 (fun x3 _ => ?_)
  refine j_ic_ge (pc := 45) (tgt := 74) dX10_readsParent_45 (by decide) (fun _ => ?_) (fun _ => ?_)
  · exact jb_X10_readsParent_74 _ _
  refine j_aload_n (pc := 48) (p := 0) rfl rfl dX10_readsParent_48 ?_
  refine j_getR (pc := 49) FI_X10 (k := 3) (by decide) fl_X10_17 dX10_readsParent_49 (fun x4 _ => ?_)
  refine j_aload_n (pc := 52) (p := 0) rfl rfl dX10_readsParent_52 ?_
  refine j_getI (pc := 53) FI_X10 (k := 5) (by decide) fl_X10_28 dX10_readsParent_53 (fun x5 _ => ?_)
  refine j_iald (pc := 56) dX10_readsParent_56 (fun x6 _ => ?_)
  refine j_bipush (pc := 57) kb_126 dX10_readsParent_57 ?_
  refine j_ic_ne (pc := 59) (tgt := 74) dX10_readsParent_59 (by decide) (fun _ => ?_) (fun _ => ?_)
  · refine j_aload_n (pc := 62) (p := 0) rfl rfl dX10_readsParent_62 ?_
    refine j_dup (pc := 63) rfl dX10_readsParent_63 ?_
    refine j_getI (pc := 64) FI_X10 (k := 5) (by decide) fl_X10_28 dX10_readsParent_64 (fun x7 _ => ?_)
    refine j_iconst (pc := 67) ki_1 dX10_readsParent_67 ?_
    refine j_iadd (pc := 68) dX10_readsParent_68 ?_
    refine j_put (pc := 69) FI_X10 (k := 5) (by decide) fl_X10_28 rfl rfl rfl dX10_readsParent_69 (fun h8 _ => ?_)
    refine j_iconst (pc := 72) ki_1 dX10_readsParent_72 ?_
    exact j_iret (pc := 73) rfl dX10_readsParent_73
  exact jb_X10_readsParent_74 _ _
set_option maxRecDepth 20000 in
set_option maxHeartbeats 1000000 in
theorem jb_X10_readsParent_0 {G : q_G} {l : Launch} {k0 z0 : Nat} (h : q_H) (v0 : Nat) : q_J G l (RX10, cX10_readsParent, 2, 9, 322, (some .int), "readsParent", []) k0 z0 (q_Z G k0 z0 q_i) 0 [(0, .ref v0)] [] h (b_X10_readsParent_0 h v0) := by
  unfold b_X10_readsParent_0
  refine j_aload_n (pc := 0) (p := 0) rfl rfl dX10_readsParent_0 ?_
  refine j_getI (pc := 1) FI_X10 (k := 5) (by decide) fl_X10_28 dX10_readsParent_1 (fun x9 _ => ?_)
  refine j_aload_n (pc := 4) (p := 0) rfl rfl dX10_readsParent_4 ?_
  refine j_getI (pc := 5) FI_X10 (k := 6) (by decide) fl_X10_25 dX10_readsParent_5 (fun x10 _ => ?_)
  refine j_ic_ge (pc := 8) (tgt := 37) dX10_readsParent_8 (by decide) (fun _ => ?_) (fun _ => ?_)
  · exact jb_X10_readsParent_37 _ _
  refine j_aload_n (pc := 11) (p := 0) rfl rfl dX10_readsParent_11 ?_
  refine j_getR (pc := 12) FI_X10 (k := 3) (by decide) fl_X10_17 dX10_readsParent_12 (fun x11 _ => ?_)
  refine j_aload_n (pc := 15) (p := 0) rfl rfl dX10_readsParent_15 ?_
  refine j_getI (pc := 16) FI_X10 (k := 5) (by decide) fl_X10_28 dX10_readsParent_16 (fun x12 _ => ?_)
  refine j_iald (pc := 19) dX10_readsParent_19 (fun x13 _ => ?_)
  refine j_bipush (pc := 20) kb_47 dX10_readsParent_20 ?_
  refine j_ic_ne (pc := 22) (tgt := 37) dX10_readsParent_22 (by decide) (fun _ => ?_) (fun _ => ?_)
  · refine j_aload_n (pc := 25) (p := 0) rfl rfl dX10_readsParent_25 ?_
    refine j_dup (pc := 26) rfl dX10_readsParent_26 ?_
    refine j_getI (pc := 27) FI_X10 (k := 5) (by decide) fl_X10_28 dX10_readsParent_27 (fun x14 _ => ?_)
    refine j_iconst (pc := 30) ki_1 dX10_readsParent_30 ?_
    refine j_iadd (pc := 31) dX10_readsParent_31 ?_
    refine j_put (pc := 32) FI_X10 (k := 5) (by decide) fl_X10_28 rfl rfl rfl dX10_readsParent_32 (fun h15 _ => ?_)
    refine j_iconst (pc := 35) ki_0 dX10_readsParent_35 ?_
    exact j_iret (pc := 36) rfl dX10_readsParent_36
  exact jb_X10_readsParent_37 _ _
set_option maxRecDepth 20000 in
set_option maxHeartbeats 1000000 in
theorem c_X10_readsParent {G : q_G} {l : Launch} : ∀ (h : q_H) (a0 : Nat) (q : q_H × Int32), f_X10_readsParent h a0 = some q → (∃ fs, h.1 a0 = .inr (9, fs)) ∧ q_CT G l yX10_readsParent cX10_readsParent 2 (some .int) 9 322 [.ref a0] h q.1 (q_i q.2) := by
  intro h a0 q e
  obtain ⟨e1, e2⟩ := q_chk_ok e
  exact ⟨e1, q_ofJ Y_X10_readsParent (Nat.le_of_ble_eq_true rfl) (jb_X10_readsParent_0 h a0) q e2⟩
/-! FarFoldersModel.readsAct(I)Z -/
theorem dX10_readsAct_0 : decode cX10_readsAct 0 = .ok (.aload_n 0, 1) := by decide +kernel
theorem dX10_readsAct_1 : decode cX10_readsAct 1 = .ok (.getfield 60, 3) := by decide +kernel
theorem dX10_readsAct_4 : decode cX10_readsAct 4 = .ok (.iload_n 1, 1) := by decide +kernel
theorem dX10_readsAct_5 : decode cX10_readsAct 5 = .ok (.aload_n 0, 1) := by decide +kernel
theorem dX10_readsAct_6 : decode cX10_readsAct 6 = .ok (.ldc_w 269, 3) := by decide +kernel
theorem dX10_readsAct_9 : decode cX10_readsAct 9 = .ok (.invokevirtual 265, 3) := by decide +kernel
theorem dX10_readsAct_12 : decode cX10_readsAct 12 = .ok (.iastore, 1) := by decide +kernel
theorem dX10_readsAct_13 : decode cX10_readsAct 13 = .ok (.aload_n 0, 1) := by decide +kernel
theorem dX10_readsAct_14 : decode cX10_readsAct 14 = .ok (.getfield 63, 3) := by decide +kernel
theorem dX10_readsAct_17 : decode cX10_readsAct 17 = .ok (.iload_n 1, 1) := by decide +kernel
theorem dX10_readsAct_18 : decode cX10_readsAct 18 = .ok (.aload_n 0, 1) := by decide +kernel
theorem dX10_readsAct_19 : decode cX10_readsAct 19 = .ok (.getfield 60, 3) := by decide +kernel
theorem dX10_readsAct_22 : decode cX10_readsAct 22 = .ok (.iload_n 1, 1) := by decide +kernel
theorem dX10_readsAct_23 : decode cX10_readsAct 23 = .ok (.iaload, 1) := by decide +kernel
theorem dX10_readsAct_24 : decode cX10_readsAct 24 = .ok (.ifCond .ge 7, 3) := by decide +kernel
theorem dX10_readsAct_27 : decode cX10_readsAct 27 = .ok (.iconst (-1), 1) := by decide +kernel
theorem dX10_readsAct_28 : decode cX10_readsAct 28 = .ok (.goto 10, 3) := by decide +kernel
theorem dX10_readsAct_31 : decode cX10_readsAct 31 = .ok (.aload_n 0, 1) := by decide +kernel
theorem dX10_readsAct_32 : decode cX10_readsAct 32 = .ok (.ldc_w 271, 3) := by decide +kernel
theorem dX10_readsAct_35 : decode cX10_readsAct 35 = .ok (.invokevirtual 265, 3) := by decide +kernel
theorem dX10_readsAct_38 : decode cX10_readsAct 38 = .ok (.iastore, 1) := by decide +kernel
theorem dX10_readsAct_39 : decode cX10_readsAct 39 = .ok (.aload_n 0, 1) := by decide +kernel
theorem dX10_readsAct_40 : decode cX10_readsAct 40 = .ok (.getfield 63, 3) := by decide +kernel
theorem dX10_readsAct_43 : decode cX10_readsAct 43 = .ok (.iload_n 1, 1) := by decide +kernel
theorem dX10_readsAct_44 : decode cX10_readsAct 44 = .ok (.iaload, 1) := by decide +kernel
theorem dX10_readsAct_45 : decode cX10_readsAct 45 = .ok (.ifCond .ge 5, 3) := by decide +kernel
theorem dX10_readsAct_48 : decode cX10_readsAct 48 = .ok (.iconst 0, 1) := by decide +kernel
theorem dX10_readsAct_49 : decode cX10_readsAct 49 = .ok (.ireturn, 1) := by decide +kernel
theorem dX10_readsAct_50 : decode cX10_readsAct 50 = .ok (.aload_n 0, 1) := by decide +kernel
theorem dX10_readsAct_51 : decode cX10_readsAct 51 = .ok (.getfield 60, 3) := by decide +kernel
theorem dX10_readsAct_54 : decode cX10_readsAct 54 = .ok (.iload_n 1, 1) := by decide +kernel
theorem dX10_readsAct_55 : decode cX10_readsAct 55 = .ok (.iaload, 1) := by decide +kernel
theorem dX10_readsAct_56 : decode cX10_readsAct 56 = .ok (.iconst 2, 1) := by decide +kernel
theorem dX10_readsAct_57 : decode cX10_readsAct 57 = .ok (.if_icmp .ne 31, 3) := by decide +kernel
theorem dX10_readsAct_60 : decode cX10_readsAct 60 = .ok (.aload_n 0, 1) := by decide +kernel
theorem dX10_readsAct_61 : decode cX10_readsAct 61 = .ok (.getfield 66, 3) := by decide +kernel
theorem dX10_readsAct_64 : decode cX10_readsAct 64 = .ok (.iload_n 1, 1) := by decide +kernel
theorem dX10_readsAct_65 : decode cX10_readsAct 65 = .ok (.aload_n 0, 1) := by decide +kernel
theorem dX10_readsAct_66 : decode cX10_readsAct 66 = .ok (.ldc_w 271, 3) := by decide +kernel
theorem dX10_readsAct_69 : decode cX10_readsAct 69 = .ok (.invokevirtual 265, 3) := by decide +kernel
theorem dX10_readsAct_72 : decode cX10_readsAct 72 = .ok (.iastore, 1) := by decide +kernel
theorem dX10_readsAct_73 : decode cX10_readsAct 73 = .ok (.aload_n 0, 1) := by decide +kernel
theorem dX10_readsAct_74 : decode cX10_readsAct 74 = .ok (.getfield 66, 3) := by decide +kernel
theorem dX10_readsAct_77 : decode cX10_readsAct 77 = .ok (.iload_n 1, 1) := by decide +kernel
theorem dX10_readsAct_78 : decode cX10_readsAct 78 = .ok (.iaload, 1) := by decide +kernel
theorem dX10_readsAct_79 : decode cX10_readsAct 79 = .ok (.ifCond .lt 7, 3) := by decide +kernel
theorem dX10_readsAct_82 : decode cX10_readsAct 82 = .ok (.iconst 1, 1) := by decide +kernel
theorem dX10_readsAct_83 : decode cX10_readsAct 83 = .ok (.goto 4, 3) := by decide +kernel
theorem dX10_readsAct_86 : decode cX10_readsAct 86 = .ok (.iconst 0, 1) := by decide +kernel
theorem dX10_readsAct_87 : decode cX10_readsAct 87 = .ok (.ireturn, 1) := by decide +kernel
theorem dX10_readsAct_88 : decode cX10_readsAct 88 = .ok (.aload_n 0, 1) := by decide +kernel
theorem dX10_readsAct_89 : decode cX10_readsAct 89 = .ok (.getfield 60, 3) := by decide +kernel
theorem dX10_readsAct_92 : decode cX10_readsAct 92 = .ok (.iload_n 1, 1) := by decide +kernel
theorem dX10_readsAct_93 : decode cX10_readsAct 93 = .ok (.iaload, 1) := by decide +kernel
theorem dX10_readsAct_94 : decode cX10_readsAct 94 = .ok (.ifCond .eq 5, 3) := by decide +kernel
theorem dX10_readsAct_97 : decode cX10_readsAct 97 = .ok (.iconst 1, 1) := by decide +kernel
theorem dX10_readsAct_98 : decode cX10_readsAct 98 = .ok (.ireturn, 1) := by decide +kernel
theorem dX10_readsAct_99 : decode cX10_readsAct 99 = .ok (.aload_n 0, 1) := by decide +kernel
theorem dX10_readsAct_100 : decode cX10_readsAct 100 = .ok (.getfield 66, 3) := by decide +kernel
theorem dX10_readsAct_103 : decode cX10_readsAct 103 = .ok (.iload_n 1, 1) := by decide +kernel
theorem dX10_readsAct_104 : decode cX10_readsAct 104 = .ok (.aload_n 0, 1) := by decide +kernel
theorem dX10_readsAct_105 : decode cX10_readsAct 105 = .ok (.ldc_w 263, 3) := by decide +kernel
theorem dX10_readsAct_108 : decode cX10_readsAct 108 = .ok (.invokevirtual 265, 3) := by decide +kernel
theorem dX10_readsAct_111 : decode cX10_readsAct 111 = .ok (.iastore, 1) := by decide +kernel
theorem dX10_readsAct_112 : decode cX10_readsAct 112 = .ok (.aload_n 0, 1) := by decide +kernel
theorem dX10_readsAct_113 : decode cX10_readsAct 113 = .ok (.getfield 69, 3) := by decide +kernel
theorem dX10_readsAct_116 : decode cX10_readsAct 116 = .ok (.iload_n 1, 1) := by decide +kernel
theorem dX10_readsAct_117 : decode cX10_readsAct 117 = .ok (.aload_n 0, 1) := by decide +kernel
theorem dX10_readsAct_118 : decode cX10_readsAct 118 = .ok (.getfield 66, 3) := by decide +kernel
theorem dX10_readsAct_121 : decode cX10_readsAct 121 = .ok (.iload_n 1, 1) := by decide +kernel
theorem dX10_readsAct_122 : decode cX10_readsAct 122 = .ok (.iaload, 1) := by decide +kernel
theorem dX10_readsAct_123 : decode cX10_readsAct 123 = .ok (.ifCond .ge 7, 3) := by decide +kernel
theorem dX10_readsAct_126 : decode cX10_readsAct 126 = .ok (.iconst (-1), 1) := by decide +kernel
theorem dX10_readsAct_127 : decode cX10_readsAct 127 = .ok (.goto 7, 3) := by decide +kernel
theorem dX10_readsAct_130 : decode cX10_readsAct 130 = .ok (.aload_n 0, 1) := by decide +kernel
theorem dX10_readsAct_131 : decode cX10_readsAct 131 = .ok (.invokevirtual 273, 3) := by decide +kernel
theorem dX10_readsAct_134 : decode cX10_readsAct 134 = .ok (.iastore, 1) := by decide +kernel
theorem dX10_readsAct_135 : decode cX10_readsAct 135 = .ok (.aload_n 0, 1) := by decide +kernel
theorem dX10_readsAct_136 : decode cX10_readsAct 136 = .ok (.getfield 72, 3) := by decide +kernel
theorem dX10_readsAct_139 : decode cX10_readsAct 139 = .ok (.iload_n 1, 1) := by decide +kernel
theorem dX10_readsAct_140 : decode cX10_readsAct 140 = .ok (.aload_n 0, 1) := by decide +kernel
theorem dX10_readsAct_141 : decode cX10_readsAct 141 = .ok (.getfield 69, 3) := by decide +kernel
theorem dX10_readsAct_144 : decode cX10_readsAct 144 = .ok (.iload_n 1, 1) := by decide +kernel
theorem dX10_readsAct_145 : decode cX10_readsAct 145 = .ok (.iaload, 1) := by decide +kernel
theorem dX10_readsAct_146 : decode cX10_readsAct 146 = .ok (.ifCond .ge 7, 3) := by decide +kernel
theorem dX10_readsAct_149 : decode cX10_readsAct 149 = .ok (.iconst (-1), 1) := by decide +kernel
theorem dX10_readsAct_150 : decode cX10_readsAct 150 = .ok (.goto 10, 3) := by decide +kernel
theorem dX10_readsAct_153 : decode cX10_readsAct 153 = .ok (.aload_n 0, 1) := by decide +kernel
theorem dX10_readsAct_154 : decode cX10_readsAct 154 = .ok (.ldc_w 276, 3) := by decide +kernel
theorem dX10_readsAct_157 : decode cX10_readsAct 157 = .ok (.invokevirtual 265, 3) := by decide +kernel
theorem dX10_readsAct_160 : decode cX10_readsAct 160 = .ok (.iastore, 1) := by decide +kernel
theorem dX10_readsAct_161 : decode cX10_readsAct 161 = .ok (.aload_n 0, 1) := by decide +kernel
theorem dX10_readsAct_162 : decode cX10_readsAct 162 = .ok (.getfield 72, 3) := by decide +kernel
theorem dX10_readsAct_165 : decode cX10_readsAct 165 = .ok (.iload_n 1, 1) := by decide +kernel
theorem dX10_readsAct_166 : decode cX10_readsAct 166 = .ok (.iaload, 1) := by decide +kernel
theorem dX10_readsAct_167 : decode cX10_readsAct 167 = .ok (.ifCond .lt 7, 3) := by decide +kernel
theorem dX10_readsAct_170 : decode cX10_readsAct 170 = .ok (.iconst 1, 1) := by decide +kernel
theorem dX10_readsAct_171 : decode cX10_readsAct 171 = .ok (.goto 4, 3) := by decide +kernel
theorem dX10_readsAct_174 : decode cX10_readsAct 174 = .ok (.iconst 0, 1) := by decide +kernel
theorem dX10_readsAct_175 : decode cX10_readsAct 175 = .ok (.ireturn, 1) := by decide +kernel
def b_X10_readsAct_160 (h : q_H) (v0 : Nat) (v1 : Int32) (s0 : Nat) (s1 : Int32) (s2 : Int32) : Option (q_H × Int32) :=
  Option.bind (q_sI 0 id h s0 s1 s2) (fun h1 => Option.bind (q_gR 9 19 h1 v0) (fun x2 => Option.bind (q_lI 0 h1 x2 v1) (fun x3 => if x3 < 0 then some (h1, (0)) else some (h1, (1)))))
def b_X10_readsAct_134 (h : q_H) (v0 : Nat) (v1 : Int32) (s0 : Nat) (s1 : Int32) (s2 : Int32) : Option (q_H × Int32) :=
  Option.bind (q_sI 0 id h s0 s1 s2) (fun h4 => Option.bind (q_gR 9 19 h4 v0) (fun x5 => Option.bind (q_gR 9 18 h4 v0) (fun x6 => Option.bind (q_lI 0 h4 x6 v1) (fun x7 => if 0 ≤ x7 then Option.bind (f_X10_takesOf h4 v0 (3)) (fun q8 => b_X10_readsAct_160 q8.1 v0 v1 x5 v1 q8.2) else b_X10_readsAct_160 h4 v0 v1 x5 v1 (-1)))))
def b_X10_readsAct_38 (h : q_H) (v0 : Nat) (v1 : Int32) (s0 : Nat) (s1 : Int32) (s2 : Int32) : Option (q_H × Int32) :=
  Option.bind (q_sI 0 id h s0 s1 s2) (fun h9 => Option.bind (q_gR 9 16 h9 v0) (fun x10 => Option.bind (q_lI 0 h9 x10 v1) (fun x11 => if 0 ≤ x11 then Option.bind (q_gR 9 15 h9 v0) (fun x12 => Option.bind (q_lI 0 h9 x12 v1) (fun x13 => if x13 = (2) then Option.bind (q_gR 9 17 h9 v0) (fun x14 => Option.bind (f_X10_takesOf h9 v0 (1)) (fun q15 => Option.bind (q_sI 0 id q15.1 x14 v1 q15.2) (fun h16 => Option.bind (q_gR 9 17 h16 v0) (fun x17 => Option.bind (q_lI 0 h16 x17 v1) (fun x18 => if x18 < 0 then some (h16, (0)) else some (h16, (1))))))) else Option.bind (q_gR 9 15 h9 v0) (fun x19 => Option.bind (q_lI 0 h9 x19 v1) (fun x20 => if x20 = 0 then Option.bind (q_gR 9 17 h9 v0) (fun x21 => Option.bind (f_X10_takesOf h9 v0 (2)) (fun q22 => Option.bind (q_sI 0 id q22.1 x21 v1 q22.2) (fun h23 => Option.bind (q_gR 9 18 h23 v0) (fun x24 => Option.bind (q_gR 9 17 h23 v0) (fun x25 => Option.bind (q_lI 0 h23 x25 v1) (fun x26 => if 0 ≤ x26 then Option.bind (f_X10_readsParent h23 v0) (fun q27 => b_X10_readsAct_134 q27.1 v0 v1 x24 v1 q27.2) else b_X10_readsAct_134 h23 v0 v1 x24 v1 (-1))))))) else some (h9, (1)))))) else some (h9, (0)))))
def b_X10_readsAct_0 (h : q_H) (v0 : Nat) (v1 : Int32) : Option (q_H × Int32) :=
  Option.bind (q_gR 9 15 h v0) (fun x28 => Option.bind (f_X10_takesOf h v0 (0)) (fun q29 => Option.bind (q_sI 0 id q29.1 x28 v1 q29.2) (fun h30 => Option.bind (q_gR 9 16 h30 v0) (fun x31 => Option.bind (q_gR 9 15 h30 v0) (fun x32 => Option.bind (q_lI 0 h30 x32 v1) (fun x33 => if 0 ≤ x33 then Option.bind (f_X10_takesOf h30 v0 (1)) (fun q34 => b_X10_readsAct_38 q34.1 v0 v1 x31 v1 q34.2) else b_X10_readsAct_38 h30 v0 v1 x31 v1 (-1)))))))
def f_X10_readsAct (h : q_H) (a0 : Nat) (a1 : Int32) : Option (q_H × Int32) := q_chk 9 h a0 (b_X10_readsAct_0 h a0 a1)
set_option maxRecDepth 20000 in
set_option maxHeartbeats 1000000 in
theorem jb_X10_readsAct_160 {G : q_G} {l : Launch} {k0 z0 : Nat} (h : q_H) (v0 : Nat) (v1 : Int32) (s0 : Nat) (s1 : Int32) (s2 : Int32) : q_J G l (RX10, cX10_readsAct, 2, 10, 343, (some .boolean), "readsAct", []) k0 z0 (q_Z G k0 z0 q_i) 160 [(0, .ref v0), (1, .int v1)] [.int s2, .int s1, .ref s0] h (b_X10_readsAct_160 h v0 v1 s0 s1 s2) := by
  unfold b_X10_readsAct_160
  refine j_iast (pc := 160) dX10_readsAct_160 (fun h1 _ => ?_)
  refine j_aload_n (pc := 161) (p := 0) rfl rfl dX10_readsAct_161 ?_
  refine j_getR (pc := 162) FI_X10 (k := 19) (by decide) fl_X10_72 dX10_readsAct_162 (fun x2 _ => ?_)
  refine j_iload_n (pc := 165) (p := 1) rfl rfl dX10_readsAct_165 ?_
  refine j_iald (pc := 166) dX10_readsAct_166 (fun x3 _ => ?_)
  refine j_if_lt (pc := 167) (tgt := 174) dX10_readsAct_167 (by decide) (fun _ => ?_) (fun _ => ?_)
  · refine j_iconst (pc := 174) ki_0 dX10_readsAct_174 ?_
    exact j_zret (pc := 175) rfl rfl dX10_readsAct_175
  refine j_iconst (pc := 170) ki_1 dX10_readsAct_170 ?_
  refine j_goto (pc := 171) (tgt := 175) dX10_readsAct_171 (by decide) ?_
  exact j_zret (pc := 175) rfl rfl dX10_readsAct_175
set_option maxRecDepth 20000 in
set_option maxHeartbeats 1000000 in
theorem jb_X10_readsAct_134 {G : q_G} {l : Launch} {k0 z0 : Nat} (h : q_H) (v0 : Nat) (v1 : Int32) (s0 : Nat) (s1 : Int32) (s2 : Int32) : q_J G l (RX10, cX10_readsAct, 2, 10, 343, (some .boolean), "readsAct", []) k0 z0 (q_Z G k0 z0 q_i) 134 [(0, .ref v0), (1, .int v1)] [.int s2, .int s1, .ref s0] h (b_X10_readsAct_134 h v0 v1 s0 s1 s2) := by
  unfold b_X10_readsAct_134
  refine j_iast (pc := 134) dX10_readsAct_134 (fun h4 _ => ?_)
  refine j_aload_n (pc := 135) (p := 0) rfl rfl dX10_readsAct_135 ?_
  refine j_getR (pc := 136) FI_X10 (k := 19) (by decide) fl_X10_72 dX10_readsAct_136 (fun x5 _ => ?_)
  refine j_iload_n (pc := 139) (p := 1) rfl rfl dX10_readsAct_139 ?_
  refine j_aload_n (pc := 140) (p := 0) rfl rfl dX10_readsAct_140 ?_
  refine j_getR (pc := 141) FI_X10 (k := 18) (by decide) fl_X10_69 dX10_readsAct_141 (fun x6 _ => ?_)
  refine j_iload_n (pc := 144) (p := 1) rfl rfl dX10_readsAct_144 ?_
  refine j_iald (pc := 145) dX10_readsAct_145 (fun x7 _ => ?_)
  refine j_if_ge (pc := 146) (tgt := 153) dX10_readsAct_146 (by decide) (fun _ => ?_) (fun _ => ?_)
  · refine j_aload_n (pc := 153) (p := 0) rfl rfl dX10_readsAct_153 ?_
    refine j_ldcs (pc := 154) (k := 3) (u := 3) (by decide) rfl rfl dX10_readsAct_154 ?_
    refine j_cVi (pc := 157) Y_X10_takesOf (ci := 9) (b := v0) rfl rfl ml_X10_265 im_X10_takesOf se_X10_takesOf ⟨Nat.le_of_ble_eq_true rfl, Nat.le_of_ble_eq_true rfl⟩ dX10_readsAct_157 (As := [.float (3)]) (rest := [.int v1, .ref x5]) rfl rfl (Nat.le_of_ble_eq_true rfl) (fun x hq9 => c_X10_takesOf _ _ _ _ hq9) (fun q8 _ => ?_)
    exact jb_X10_readsAct_160 _ _ _ _ _ _
  refine j_iconst (pc := 149) ki_m1 dX10_readsAct_149 ?_
  refine j_goto (pc := 150) (tgt := 160) dX10_readsAct_150 (by decide) ?_
  exact jb_X10_readsAct_160 _ _ _ _ _ _
set_option maxRecDepth 20000 in
set_option maxHeartbeats 1000000 in
theorem jb_X10_readsAct_38 {G : q_G} {l : Launch} {k0 z0 : Nat} (h : q_H) (v0 : Nat) (v1 : Int32) (s0 : Nat) (s1 : Int32) (s2 : Int32) : q_J G l (RX10, cX10_readsAct, 2, 10, 343, (some .boolean), "readsAct", []) k0 z0 (q_Z G k0 z0 q_i) 38 [(0, .ref v0), (1, .int v1)] [.int s2, .int s1, .ref s0] h (b_X10_readsAct_38 h v0 v1 s0 s1 s2) := by
  unfold b_X10_readsAct_38
  refine j_iast (pc := 38) dX10_readsAct_38 (fun h9 _ => ?_)
  refine j_aload_n (pc := 39) (p := 0) rfl rfl dX10_readsAct_39 ?_
  refine j_getR (pc := 40) FI_X10 (k := 16) (by decide) fl_X10_63 dX10_readsAct_40 (fun x10 _ => ?_)
  refine j_iload_n (pc := 43) (p := 1) rfl rfl dX10_readsAct_43 ?_
  refine j_iald (pc := 44) dX10_readsAct_44 (fun x11 _ => ?_)
  refine j_if_ge (pc := 45) (tgt := 50) dX10_readsAct_45 (by decide) (fun _ => ?_) (fun _ => ?_)
  · refine j_aload_n (pc := 50) (p := 0) rfl rfl dX10_readsAct_50 ?_
    refine j_getR (pc := 51) FI_X10 (k := 15) (by decide) fl_X10_60 dX10_readsAct_51 (fun x12 _ => ?_)
    refine j_iload_n (pc := 54) (p := 1) rfl rfl dX10_readsAct_54 ?_
    refine j_iald (pc := 55) dX10_readsAct_55 (fun x13 _ => ?_)
    refine j_iconst (pc := 56) ki_2 dX10_readsAct_56 ?_
    refine j_ic_ne (pc := 57) (tgt := 88) dX10_readsAct_57 (by decide) (fun _ => ?_) (fun _ => ?_)
    · refine j_aload_n (pc := 60) (p := 0) rfl rfl dX10_readsAct_60 ?_
      refine j_getR (pc := 61) FI_X10 (k := 17) (by decide) fl_X10_66 dX10_readsAct_61 (fun x14 _ => ?_)
      refine j_iload_n (pc := 64) (p := 1) rfl rfl dX10_readsAct_64 ?_
      refine j_aload_n (pc := 65) (p := 0) rfl rfl dX10_readsAct_65 ?_
      refine j_ldcs (pc := 66) (k := 1) (u := 1) (by decide) rfl rfl dX10_readsAct_66 ?_
      refine j_cVi (pc := 69) Y_X10_takesOf (ci := 9) (b := v0) rfl rfl ml_X10_265 im_X10_takesOf se_X10_takesOf ⟨Nat.le_of_ble_eq_true rfl, Nat.le_of_ble_eq_true rfl⟩ dX10_readsAct_69 (As := [.float (1)]) (rest := [.int v1, .ref x14]) rfl rfl (Nat.le_of_ble_eq_true rfl) (fun x hq9 => c_X10_takesOf _ _ _ _ hq9) (fun q15 _ => ?_)
      refine j_iast (pc := 72) dX10_readsAct_72 (fun h16 _ => ?_)
      refine j_aload_n (pc := 73) (p := 0) rfl rfl dX10_readsAct_73 ?_
      refine j_getR (pc := 74) FI_X10 (k := 17) (by decide) fl_X10_66 dX10_readsAct_74 (fun x17 _ => ?_)
      refine j_iload_n (pc := 77) (p := 1) rfl rfl dX10_readsAct_77 ?_
      refine j_iald (pc := 78) dX10_readsAct_78 (fun x18 _ => ?_)
      refine j_if_lt (pc := 79) (tgt := 86) dX10_readsAct_79 (by decide) (fun _ => ?_) (fun _ => ?_)
      · refine j_iconst (pc := 86) ki_0 dX10_readsAct_86 ?_
        exact j_zret (pc := 87) rfl rfl dX10_readsAct_87
      refine j_iconst (pc := 82) ki_1 dX10_readsAct_82 ?_
      refine j_goto (pc := 83) (tgt := 87) dX10_readsAct_83 (by decide) ?_
      exact j_zret (pc := 87) rfl rfl dX10_readsAct_87
    refine j_aload_n (pc := 88) (p := 0) rfl rfl dX10_readsAct_88 ?_
    refine j_getR (pc := 89) FI_X10 (k := 15) (by decide) fl_X10_60 dX10_readsAct_89 (fun x19 _ => ?_)
    refine j_iload_n (pc := 92) (p := 1) rfl rfl dX10_readsAct_92 ?_
    refine j_iald (pc := 93) dX10_readsAct_93 (fun x20 _ => ?_)
    refine j_if_eq (pc := 94) (tgt := 99) dX10_readsAct_94 (by decide) (fun _ => ?_) (fun _ => ?_)
    · refine j_aload_n (pc := 99) (p := 0) rfl rfl dX10_readsAct_99 ?_
      refine j_getR (pc := 100) FI_X10 (k := 17) (by decide) fl_X10_66 dX10_readsAct_100 (fun x21 _ => ?_)
      refine j_iload_n (pc := 103) (p := 1) rfl rfl dX10_readsAct_103 ?_
      refine j_aload_n (pc := 104) (p := 0) rfl rfl dX10_readsAct_104 ?_
      refine j_ldcs (pc := 105) (k := 2) (u := 2) (by decide) rfl rfl dX10_readsAct_105 ?_
      refine j_cVi (pc := 108) Y_X10_takesOf (ci := 9) (b := v0) rfl rfl ml_X10_265 im_X10_takesOf se_X10_takesOf ⟨Nat.le_of_ble_eq_true rfl, Nat.le_of_ble_eq_true rfl⟩ dX10_readsAct_108 (As := [.float (2)]) (rest := [.int v1, .ref x21]) rfl rfl (Nat.le_of_ble_eq_true rfl) (fun x hq9 => c_X10_takesOf _ _ _ _ hq9) (fun q22 _ => ?_)
      refine j_iast (pc := 111) dX10_readsAct_111 (fun h23 _ => ?_)
      refine j_aload_n (pc := 112) (p := 0) rfl rfl dX10_readsAct_112 ?_
      refine j_getR (pc := 113) FI_X10 (k := 18) (by decide) fl_X10_69 dX10_readsAct_113 (fun x24 _ => ?_)
      refine j_iload_n (pc := 116) (p := 1) rfl rfl dX10_readsAct_116 ?_
      refine j_aload_n (pc := 117) (p := 0) rfl rfl dX10_readsAct_117 ?_
      refine j_getR (pc := 118) FI_X10 (k := 17) (by decide) fl_X10_66 dX10_readsAct_118 (fun x25 _ => ?_)
      refine j_iload_n (pc := 121) (p := 1) rfl rfl dX10_readsAct_121 ?_
      refine j_iald (pc := 122) dX10_readsAct_122 (fun x26 _ => ?_)
      refine j_if_ge (pc := 123) (tgt := 130) dX10_readsAct_123 (by decide) (fun _ => ?_) (fun _ => ?_)
      · refine j_aload_n (pc := 130) (p := 0) rfl rfl dX10_readsAct_130 ?_
        refine j_cVi (pc := 131) Y_X10_readsParent (ci := 9) (b := v0) rfl rfl ml_X10_273 im_X10_readsParent se_X10_readsParent ⟨Nat.le_of_ble_eq_true rfl, Nat.le_of_ble_eq_true rfl⟩ dX10_readsAct_131 (As := []) (rest := [.int v1, .ref x24]) rfl rfl (Nat.le_of_ble_eq_true rfl) (fun x hq9 => c_X10_readsParent _ _ _ hq9) (fun q27 _ => ?_)
        exact jb_X10_readsAct_134 _ _ _ _ _ _
      refine j_iconst (pc := 126) ki_m1 dX10_readsAct_126 ?_
      refine j_goto (pc := 127) (tgt := 134) dX10_readsAct_127 (by decide) ?_
      exact jb_X10_readsAct_134 _ _ _ _ _ _
    refine j_iconst (pc := 97) ki_1 dX10_readsAct_97 ?_
    exact j_zret (pc := 98) rfl rfl dX10_readsAct_98
  refine j_iconst (pc := 48) ki_0 dX10_readsAct_48 ?_
  exact j_zret (pc := 49) rfl rfl dX10_readsAct_49
set_option maxRecDepth 20000 in
set_option maxHeartbeats 1000000 in
theorem jb_X10_readsAct_0 {G : q_G} {l : Launch} {k0 z0 : Nat} (h : q_H) (v0 : Nat) (v1 : Int32) : q_J G l (RX10, cX10_readsAct, 2, 10, 343, (some .boolean), "readsAct", []) k0 z0 (q_Z G k0 z0 q_i) 0 [(0, .ref v0), (1, .int v1)] [] h (b_X10_readsAct_0 h v0 v1) := by
  unfold b_X10_readsAct_0
  refine j_aload_n (pc := 0) (p := 0) rfl rfl dX10_readsAct_0 ?_
  refine j_getR (pc := 1) FI_X10 (k := 15) (by decide) fl_X10_60 dX10_readsAct_1 (fun x28 _ => ?_)
  refine j_iload_n (pc := 4) (p := 1) rfl rfl dX10_readsAct_4 ?_
  refine j_aload_n (pc := 5) (p := 0) rfl rfl dX10_readsAct_5 ?_
  refine j_ldcs (pc := 6) (k := 0) (u := 0) (by decide) rfl rfl dX10_readsAct_6 ?_
  refine j_cVi (pc := 9) Y_X10_takesOf (ci := 9) (b := v0) rfl rfl ml_X10_265 im_X10_takesOf se_X10_takesOf ⟨Nat.le_of_ble_eq_true rfl, Nat.le_of_ble_eq_true rfl⟩ dX10_readsAct_9 (As := [.float (0)]) (rest := [.int v1, .ref x28]) rfl rfl (Nat.le_of_ble_eq_true rfl) (fun x hq9 => c_X10_takesOf _ _ _ _ hq9) (fun q29 _ => ?_)
  refine j_iast (pc := 12) dX10_readsAct_12 (fun h30 _ => ?_)
  refine j_aload_n (pc := 13) (p := 0) rfl rfl dX10_readsAct_13 ?_
  refine j_getR (pc := 14) FI_X10 (k := 16) (by decide) fl_X10_63 dX10_readsAct_14 (fun x31 _ => ?_)
  refine j_iload_n (pc := 17) (p := 1) rfl rfl dX10_readsAct_17 ?_
  refine j_aload_n (pc := 18) (p := 0) rfl rfl dX10_readsAct_18 ?_
  refine j_getR (pc := 19) FI_X10 (k := 15) (by decide) fl_X10_60 dX10_readsAct_19 (fun x32 _ => ?_)
  refine j_iload_n (pc := 22) (p := 1) rfl rfl dX10_readsAct_22 ?_
  refine j_iald (pc := 23) dX10_readsAct_23 (fun x33 _ => ?_)
  refine j_if_ge (pc := 24) (tgt := 31) dX10_readsAct_24 (by decide) (fun _ => ?_) (fun _ => ?_)
  · refine j_aload_n (pc := 31) (p := 0) rfl rfl dX10_readsAct_31 ?_
    refine j_ldcs (pc := 32) (k := 1) (u := 1) (by decide) rfl rfl dX10_readsAct_32 ?_
    refine j_cVi (pc := 35) Y_X10_takesOf (ci := 9) (b := v0) rfl rfl ml_X10_265 im_X10_takesOf se_X10_takesOf ⟨Nat.le_of_ble_eq_true rfl, Nat.le_of_ble_eq_true rfl⟩ dX10_readsAct_35 (As := [.float (1)]) (rest := [.int v1, .ref x31]) rfl rfl (Nat.le_of_ble_eq_true rfl) (fun x hq9 => c_X10_takesOf _ _ _ _ hq9) (fun q34 _ => ?_)
    exact jb_X10_readsAct_38 _ _ _ _ _ _
  refine j_iconst (pc := 27) ki_m1 dX10_readsAct_27 ?_
  refine j_goto (pc := 28) (tgt := 38) dX10_readsAct_28 (by decide) ?_
  exact jb_X10_readsAct_38 _ _ _ _ _ _
set_option maxRecDepth 20000 in
set_option maxHeartbeats 1000000 in
theorem c_X10_readsAct {G : q_G} {l : Launch} : ∀ (h : q_H) (a0 : Nat) (a1 : Int32) (q : q_H × Int32), f_X10_readsAct h a0 a1 = some q → (∃ fs, h.1 a0 = .inr (9, fs)) ∧ q_CT G l yX10_readsAct cX10_readsAct 2 (some .boolean) 10 343 [.ref a0, .int a1] h q.1 (q_i q.2) := by
  intro h a0 a1 q e
  obtain ⟨e1, e2⟩ := q_chk_ok e
  exact ⟨e1, q_ofJ Y_X10_readsAct (Nat.le_of_ble_eq_true rfl) (jb_X10_readsAct_0 h a0 a1) q e2⟩
/-! FarFoldersModel.isFolder(I)Z -/
theorem dX10_isFolder_0 : decode cX10_isFolder 0 = .ok (.iload_n 0, 1) := by decide +kernel
theorem dX10_isFolder_1 : decode cX10_isFolder 1 = .ok (.i2l, 1) := by decide +kernel
theorem dX10_isFolder_2 : decode cX10_isFolder 2 = .ok (.ldc2_w 97, 3) := by decide +kernel
theorem dX10_isFolder_5 : decode cX10_isFolder 5 = .ok (.ldc2_w 99, 3) := by decide +kernel
theorem dX10_isFolder_8 : decode cX10_isFolder 8 = .ok (.invokestatic 21, 3) := by decide +kernel
theorem dX10_isFolder_11 : decode cX10_isFolder 11 = .ok (.ireturn, 1) := by decide +kernel
def b_X10_isFolder_0 (h : q_H) (v0 : Int32) : Option (q_H × Int32) :=
  Option.bind (f_X10_in h (Int32.toInt64 v0) (2) (13)) (fun q1 => some (q1.1, vp_nar .boolean q1.2))
def f_X10_isFolder (h : q_H) (a0 : Int32) : Option (q_H × Int32) := b_X10_isFolder_0 h a0
set_option maxRecDepth 20000 in
set_option maxHeartbeats 1000000 in
theorem jb_X10_isFolder_0 {G : q_G} {l : Launch} {k0 z0 : Nat} (h : q_H) (v0 : Int32) : q_J G l (RX10, cX10_isFolder, 1, 1, 25, (some .boolean), "isFolder", []) k0 z0 (q_Z G k0 z0 q_i) 0 [(0, .int v0)] [] h (b_X10_isFolder_0 h v0) := by
  unfold b_X10_isFolder_0
  refine j_iload_n (pc := 0) (p := 0) rfl rfl dX10_isFolder_0 ?_
  refine j_i2l (pc := 1) dX10_isFolder_1 ?_
  refine j_ldc2 (pc := 2) cL_X10_97 dX10_isFolder_2 ?_
  refine j_ldc2 (pc := 5) cL_X10_99 dX10_isFolder_5 ?_
  refine j_cSi (pc := 8) Y_X10_in ml_X10_21 sm_X10_in ⟨Nat.le_of_ble_eq_true rfl, Nat.le_of_ble_eq_true rfl⟩ dX10_isFolder_8 (As := [.long (Int32.toInt64 v0), .long (2), .long (13)]) (rest := []) rfl rfl (Nat.le_of_ble_eq_true rfl) (fun x hq9 => c_X10_in _ _ _ _ _ hq9) (fun q1 _ => ?_)
  exact j_zret (pc := 11) rfl (q_narz _) dX10_isFolder_11
set_option maxRecDepth 20000 in
set_option maxHeartbeats 1000000 in
theorem c_X10_isFolder {G : q_G} {l : Launch} : ∀ (h : q_H) (a0 : Int32) (q : q_H × Int32), f_X10_isFolder h a0 = some q → q_CT G l yX10_isFolder cX10_isFolder 1 (some .boolean) 1 25 [.int a0] h q.1 (q_i q.2) := by
  intro h a0 q e
  exact q_ofJ Y_X10_isFolder (Nat.le_of_ble_eq_true rfl) (jb_X10_isFolder_0 h a0) q e
/-! FarFoldersModel.makesOne(IIII)I -/
theorem dX10_makesOne_0 : decode cX10_makesOne 0 = .ok (.iload_n 1, 1) := by decide +kernel
theorem dX10_makesOne_1 : decode cX10_makesOne 1 = .ok (.invokestatic 101, 3) := by decide +kernel
theorem dX10_makesOne_4 : decode cX10_makesOne 4 = .ok (.ifCond .eq 30, 3) := by decide +kernel
theorem dX10_makesOne_7 : decode cX10_makesOne 7 = .ok (.iload_n 2, 1) := by decide +kernel
theorem dX10_makesOne_8 : decode cX10_makesOne 8 = .ok (.invokestatic 159, 3) := by decide +kernel
theorem dX10_makesOne_11 : decode cX10_makesOne 11 = .ok (.ifCond .eq 23, 3) := by decide +kernel
theorem dX10_makesOne_14 : decode cX10_makesOne 14 = .ok (.iload_n 3, 1) := by decide +kernel
theorem dX10_makesOne_15 : decode cX10_makesOne 15 = .ok (.invokestatic 179, 3) := by decide +kernel
theorem dX10_makesOne_18 : decode cX10_makesOne 18 = .ok (.ifCond .eq 16, 3) := by decide +kernel
theorem dX10_makesOne_21 : decode cX10_makesOne 21 = .ok (.iload 4, 2) := by decide +kernel
theorem dX10_makesOne_23 : decode cX10_makesOne 23 = .ok (.i2l, 1) := by decide +kernel
theorem dX10_makesOne_24 : decode cX10_makesOne 24 = .ok (.lconst 0, 1) := by decide +kernel
theorem dX10_makesOne_25 : decode cX10_makesOne 25 = .ok (.ldc2_w 182, 3) := by decide +kernel
theorem dX10_makesOne_28 : decode cX10_makesOne 28 = .ok (.invokestatic 21, 3) := by decide +kernel
theorem dX10_makesOne_31 : decode cX10_makesOne 31 = .ok (.ifCond .ne 5, 3) := by decide +kernel
theorem dX10_makesOne_34 : decode cX10_makesOne 34 = .ok (.iconst (-1), 1) := by decide +kernel
theorem dX10_makesOne_35 : decode cX10_makesOne 35 = .ok (.ireturn, 1) := by decide +kernel
theorem dX10_makesOne_36 : decode cX10_makesOne 36 = .ok (.aload_n 0, 1) := by decide +kernel
theorem dX10_makesOne_37 : decode cX10_makesOne 37 = .ok (.getfield 47, 3) := by decide +kernel
theorem dX10_makesOne_40 : decode cX10_makesOne 40 = .ok (.sipush 180, 3) := by decide +kernel
theorem dX10_makesOne_43 : decode cX10_makesOne 43 = .ok (.iload_n 1, 1) := by decide +kernel
theorem dX10_makesOne_44 : decode cX10_makesOne 44 = .ok (.iadd, 1) := by decide +kernel
theorem dX10_makesOne_45 : decode cX10_makesOne 45 = .ok (.iaload, 1) := by decide +kernel
theorem dX10_makesOne_46 : decode cX10_makesOne 46 = .ok (.bipush 20, 2) := by decide +kernel
theorem dX10_makesOne_48 : decode cX10_makesOne 48 = .ok (.if_icmp .ne 6, 3) := by decide +kernel
theorem dX10_makesOne_51 : decode cX10_makesOne 51 = .ok (.bipush (-2), 2) := by decide +kernel
theorem dX10_makesOne_53 : decode cX10_makesOne 53 = .ok (.ireturn, 1) := by decide +kernel
theorem dX10_makesOne_54 : decode cX10_makesOne 54 = .ok (.aload_n 0, 1) := by decide +kernel
theorem dX10_makesOne_55 : decode cX10_makesOne 55 = .ok (.iload_n 1, 1) := by decide +kernel
theorem dX10_makesOne_56 : decode cX10_makesOne 56 = .ok (.invokevirtual 184, 3) := by decide +kernel
theorem dX10_makesOne_59 : decode cX10_makesOne 59 = .ok (.ifCond .eq 6, 3) := by decide +kernel
theorem dX10_makesOne_62 : decode cX10_makesOne 62 = .ok (.bipush (-3), 2) := by decide +kernel
theorem dX10_makesOne_64 : decode cX10_makesOne 64 = .ok (.ireturn, 1) := by decide +kernel
theorem dX10_makesOne_65 : decode cX10_makesOne 65 = .ok (.aload_n 0, 1) := by decide +kernel
theorem dX10_makesOne_66 : decode cX10_makesOne 66 = .ok (.getfield 47, 3) := by decide +kernel
theorem dX10_makesOne_69 : decode cX10_makesOne 69 = .ok (.iload_n 1, 1) := by decide +kernel
theorem dX10_makesOne_70 : decode cX10_makesOne 70 = .ok (.dup2, 1) := by decide +kernel
theorem dX10_makesOne_71 : decode cX10_makesOne 71 = .ok (.iaload, 1) := by decide +kernel
theorem dX10_makesOne_72 : decode cX10_makesOne 72 = .ok (.iconst 1, 1) := by decide +kernel
theorem dX10_makesOne_73 : decode cX10_makesOne 73 = .ok (.iadd, 1) := by decide +kernel
theorem dX10_makesOne_74 : decode cX10_makesOne 74 = .ok (.iastore, 1) := by decide +kernel
theorem dX10_makesOne_75 : decode cX10_makesOne 75 = .ok (.aload_n 0, 1) := by decide +kernel
theorem dX10_makesOne_76 : decode cX10_makesOne 76 = .ok (.iload_n 1, 1) := by decide +kernel
theorem dX10_makesOne_77 : decode cX10_makesOne 77 = .ok (.invokevirtual 144, 3) := by decide +kernel
theorem dX10_makesOne_80 : decode cX10_makesOne 80 = .ok (.aload_n 0, 1) := by decide +kernel
theorem dX10_makesOne_81 : decode cX10_makesOne 81 = .ok (.aload_n 0, 1) := by decide +kernel
theorem dX10_makesOne_82 : decode cX10_makesOne 82 = .ok (.getfield 47, 3) := by decide +kernel
theorem dX10_makesOne_85 : decode cX10_makesOne 85 = .ok (.iload_n 1, 1) := by decide +kernel
theorem dX10_makesOne_86 : decode cX10_makesOne 86 = .ok (.iaload, 1) := by decide +kernel
theorem dX10_makesOne_87 : decode cX10_makesOne 87 = .ok (.iload_n 1, 1) := by decide +kernel
theorem dX10_makesOne_88 : decode cX10_makesOne 88 = .ok (.iload_n 2, 1) := by decide +kernel
theorem dX10_makesOne_89 : decode cX10_makesOne 89 = .ok (.iload_n 3, 1) := by decide +kernel
theorem dX10_makesOne_90 : decode cX10_makesOne 90 = .ok (.iload 4, 2) := by decide +kernel
theorem dX10_makesOne_92 : decode cX10_makesOne 92 = .ok (.invokevirtual 125, 3) := by decide +kernel
theorem dX10_makesOne_95 : decode cX10_makesOne 95 = .ok (.aload_n 0, 1) := by decide +kernel
theorem dX10_makesOne_96 : decode cX10_makesOne 96 = .ok (.iload_n 1, 1) := by decide +kernel
theorem dX10_makesOne_97 : decode cX10_makesOne 97 = .ok (.invokevirtual 187, 3) := by decide +kernel
theorem dX10_makesOne_100 : decode cX10_makesOne 100 = .ok (.aload_n 0, 1) := by decide +kernel
theorem dX10_makesOne_101 : decode cX10_makesOne 101 = .ok (.iconst 0, 1) := by decide +kernel
theorem dX10_makesOne_102 : decode cX10_makesOne 102 = .ok (.iload_n 1, 1) := by decide +kernel
theorem dX10_makesOne_103 : decode cX10_makesOne 103 = .ok (.iconst (-1), 1) := by decide +kernel
theorem dX10_makesOne_104 : decode cX10_makesOne 104 = .ok (.invokevirtual 148, 3) := by decide +kernel
theorem dX10_makesOne_107 : decode cX10_makesOne 107 = .ok (.aload_n 0, 1) := by decide +kernel
theorem dX10_makesOne_108 : decode cX10_makesOne 108 = .ok (.aload_n 0, 1) := by decide +kernel
theorem dX10_makesOne_109 : decode cX10_makesOne 109 = .ok (.getfield 53, 3) := by decide +kernel
theorem dX10_makesOne_112 : decode cX10_makesOne 112 = .ok (.aload_n 0, 1) := by decide +kernel
theorem dX10_makesOne_113 : decode cX10_makesOne 113 = .ok (.getfield 105, 3) := by decide +kernel
theorem dX10_makesOne_116 : decode cX10_makesOne 116 = .ok (.iconst 1, 1) := by decide +kernel
theorem dX10_makesOne_117 : decode cX10_makesOne 117 = .ok (.isub, 1) := by decide +kernel
theorem dX10_makesOne_118 : decode cX10_makesOne 118 = .ok (.baload, 1) := by decide +kernel
theorem dX10_makesOne_119 : decode cX10_makesOne 119 = .ok (.putfield 190, 3) := by decide +kernel
theorem dX10_makesOne_122 : decode cX10_makesOne 122 = .ok (.aload_n 0, 1) := by decide +kernel
theorem dX10_makesOne_123 : decode cX10_makesOne 123 = .ok (.iload_n 1, 1) := by decide +kernel
theorem dX10_makesOne_124 : decode cX10_makesOne 124 = .ok (.iload_n 2, 1) := by decide +kernel
theorem dX10_makesOne_125 : decode cX10_makesOne 125 = .ok (.iload_n 3, 1) := by decide +kernel
theorem dX10_makesOne_126 : decode cX10_makesOne 126 = .ok (.iload 4, 2) := by decide +kernel
theorem dX10_makesOne_128 : decode cX10_makesOne 128 = .ok (.invokevirtual 194, 3) := by decide +kernel
theorem dX10_makesOne_131 : decode cX10_makesOne 131 = .ok (.aload_n 0, 1) := by decide +kernel
theorem dX10_makesOne_132 : decode cX10_makesOne 132 = .ok (.getfield 47, 3) := by decide +kernel
theorem dX10_makesOne_135 : decode cX10_makesOne 135 = .ok (.iload_n 1, 1) := by decide +kernel
theorem dX10_makesOne_136 : decode cX10_makesOne 136 = .ok (.iaload, 1) := by decide +kernel
theorem dX10_makesOne_137 : decode cX10_makesOne 137 = .ok (.ireturn, 1) := by decide +kernel
def b_X10_makesOne_0 (h : q_H) (v0 : Nat) (v1 : Int32) (v2 : Int32) (v3 : Int32) (v4 : Int32) : Option (q_H × Int32) :=
  Option.bind (f_X10_isCopy h v1) (fun q1 => if q1.2 = 0 then some (q1.1, (-1)) else Option.bind (f_X10_isFolder q1.1 v2) (fun q2 => if q2.2 = 0 then some (q2.1, (-1)) else Option.bind (f_X10_isNode q2.1 v3) (fun q3 => if q3.2 = 0 then some (q3.1, (-1)) else Option.bind (f_X10_in q3.1 (Int32.toInt64 v4) (0) (9)) (fun q4 => if q4.2 = 0 then some (q4.1, (-1)) else Option.bind (q_gR 9 7 q4.1 v0) (fun x5 => Option.bind (q_lI 0 q4.1 x5 ((180) + v1)) (fun x6 => if x6 = (20) then some (q4.1, (-2)) else Option.bind (f_X10_areFull q4.1 v0 v1) (fun q7 => if q7.2 = 0 then Option.bind (q_gR 9 7 q7.1 v0) (fun x8 => Option.bind (q_lI 0 q7.1 x8 v1) (fun x9 => Option.bind (q_sI 0 id q7.1 x8 v1 (x9 + (1))) (fun h10 => Option.bind (f_X10_loads h10 v0 v1) (fun q11 => Option.bind (q_gR 9 7 q11.1 v0) (fun x12 => Option.bind (q_lI 0 q11.1 x12 v1) (fun x13 => Option.bind (f_X10_puts q11.1 v0 x13 v1 v2 v3 v4) (fun q14 => Option.bind (f_X10_keepsList q14.1 v0 v1) (fun q15 => Option.bind (f_X10_grows q15.1 v0 (0) v1 (-1)) (fun q16 => Option.bind (q_gR 9 10 q16.1 v0) (fun x17 => Option.bind (q_gI 9 9 q16.1 v0) (fun x18 => Option.bind (q_lI 2 q16.1 x17 (x18 - (1))) (fun x19 => Option.bind (q_pZ 9 12 q16.1 v0 x19) (fun h20 => Option.bind (f_X10_sends h20 v0 v1 v2 v3 v4) (fun q21 => Option.bind (q_gR 9 7 q21.1 v0) (fun x22 => Option.bind (q_lI 0 q21.1 x22 v1) (fun x23 => some (q21.1, x23))))))))))))))))) else some (q7.1, (-3)))))))))
def f_X10_makesOne (h : q_H) (a0 : Nat) (a1 : Int32) (a2 : Int32) (a3 : Int32) (a4 : Int32) : Option (q_H × Int32) := q_chk 9 h a0 (b_X10_makesOne_0 h a0 a1 a2 a3 a4)
set_option maxRecDepth 20000 in
set_option maxHeartbeats 1000000 in
theorem jb_X10_makesOne_0 {G : q_G} {l : Launch} {k0 z0 : Nat} (h : q_H) (v0 : Nat) (v1 : Int32) (v2 : Int32) (v3 : Int32) (v4 : Int32) : q_J G l (RX10, cX10_makesOne, 5, 4, 96, (some .int), "makesOne", []) k0 z0 (q_Z G k0 z0 q_i) 0 [(0, .ref v0), (1, .int v1), (2, .int v2), (3, .int v3), (4, .int v4)] [] h (b_X10_makesOne_0 h v0 v1 v2 v3 v4) := by
  unfold b_X10_makesOne_0
  refine j_iload_n (pc := 0) (p := 1) rfl rfl dX10_makesOne_0 ?_
  refine j_cSi (pc := 1) Y_X10_isCopy ml_X10_101 sm_X10_isCopy ⟨Nat.le_of_ble_eq_true rfl, Nat.le_of_ble_eq_true rfl⟩ dX10_makesOne_1 (As := [.int v1]) (rest := []) rfl rfl (Nat.le_of_ble_eq_true rfl) (fun x hq9 => c_X10_isCopy _ _ _ hq9) (fun q1 _ => ?_)
  refine j_if_eq (pc := 4) (tgt := 34) dX10_makesOne_4 (by decide) (fun _ => ?_) (fun _ => ?_)
  · refine j_iconst (pc := 34) ki_m1 dX10_makesOne_34 ?_
    exact j_iret (pc := 35) rfl dX10_makesOne_35
  refine j_iload_n (pc := 7) (p := 2) rfl rfl dX10_makesOne_7 ?_
  refine j_cSi (pc := 8) Y_X10_isFolder ml_X10_159 sm_X10_isFolder ⟨Nat.le_of_ble_eq_true rfl, Nat.le_of_ble_eq_true rfl⟩ dX10_makesOne_8 (As := [.int v2]) (rest := []) rfl rfl (Nat.le_of_ble_eq_true rfl) (fun x hq9 => c_X10_isFolder _ _ _ hq9) (fun q2 _ => ?_)
  refine j_if_eq (pc := 11) (tgt := 34) dX10_makesOne_11 (by decide) (fun _ => ?_) (fun _ => ?_)
  · refine j_iconst (pc := 34) ki_m1 dX10_makesOne_34 ?_
    exact j_iret (pc := 35) rfl dX10_makesOne_35
  refine j_iload_n (pc := 14) (p := 3) rfl rfl dX10_makesOne_14 ?_
  refine j_cSi (pc := 15) Y_X10_isNode ml_X10_179 sm_X10_isNode ⟨Nat.le_of_ble_eq_true rfl, Nat.le_of_ble_eq_true rfl⟩ dX10_makesOne_15 (As := [.int v3]) (rest := []) rfl rfl (Nat.le_of_ble_eq_true rfl) (fun x hq9 => c_X10_isNode _ _ _ hq9) (fun q3 _ => ?_)
  refine j_if_eq (pc := 18) (tgt := 34) dX10_makesOne_18 (by decide) (fun _ => ?_) (fun _ => ?_)
  · refine j_iconst (pc := 34) ki_m1 dX10_makesOne_34 ?_
    exact j_iret (pc := 35) rfl dX10_makesOne_35
  refine j_iload (pc := 21) (p := 4) rfl dX10_makesOne_21 ?_
  refine j_i2l (pc := 23) dX10_makesOne_23 ?_
  refine j_lconst (pc := 24) kl_0 dX10_makesOne_24 ?_
  refine j_ldc2 (pc := 25) cL_X10_182 dX10_makesOne_25 ?_
  refine j_cSi (pc := 28) Y_X10_in ml_X10_21 sm_X10_in ⟨Nat.le_of_ble_eq_true rfl, Nat.le_of_ble_eq_true rfl⟩ dX10_makesOne_28 (As := [.long (Int32.toInt64 v4), .long (0), .long (9)]) (rest := []) rfl rfl (Nat.le_of_ble_eq_true rfl) (fun x hq9 => c_X10_in _ _ _ _ _ hq9) (fun q4 _ => ?_)
  refine j_if_ne (pc := 31) (tgt := 36) dX10_makesOne_31 (by decide) (fun _ => ?_) (fun _ => ?_)
  · refine j_iconst (pc := 34) ki_m1 dX10_makesOne_34 ?_
    exact j_iret (pc := 35) rfl dX10_makesOne_35
  refine j_aload_n (pc := 36) (p := 0) rfl rfl dX10_makesOne_36 ?_
  refine j_getR (pc := 37) FI_X10 (k := 7) (by decide) fl_X10_47 dX10_makesOne_37 (fun x5 _ => ?_)
  refine j_sipush (pc := 40) ks_180 dX10_makesOne_40 ?_
  refine j_iload_n (pc := 43) (p := 1) rfl rfl dX10_makesOne_43 ?_
  refine j_iadd (pc := 44) dX10_makesOne_44 ?_
  refine j_iald (pc := 45) dX10_makesOne_45 (fun x6 _ => ?_)
  refine j_bipush (pc := 46) kb_20 dX10_makesOne_46 ?_
  refine j_ic_ne (pc := 48) (tgt := 54) dX10_makesOne_48 (by decide) (fun _ => ?_) (fun _ => ?_)
  · refine j_bipush (pc := 51) kb_m2 dX10_makesOne_51 ?_
    exact j_iret (pc := 53) rfl dX10_makesOne_53
  refine j_aload_n (pc := 54) (p := 0) rfl rfl dX10_makesOne_54 ?_
  refine j_iload_n (pc := 55) (p := 1) rfl rfl dX10_makesOne_55 ?_
  refine j_cVi (pc := 56) Y_X10_areFull (ci := 9) (b := v0) rfl rfl ml_X10_184 im_X10_areFull se_X10_areFull ⟨Nat.le_of_ble_eq_true rfl, Nat.le_of_ble_eq_true rfl⟩ dX10_makesOne_56 (As := [.int v1]) (rest := []) rfl rfl (Nat.le_of_ble_eq_true rfl) (fun x hq9 => c_X10_areFull _ _ _ _ hq9) (fun q7 _ => ?_)
  refine j_if_eq (pc := 59) (tgt := 65) dX10_makesOne_59 (by decide) (fun _ => ?_) (fun _ => ?_)
  · refine j_aload_n (pc := 65) (p := 0) rfl rfl dX10_makesOne_65 ?_
    refine j_getR (pc := 66) FI_X10 (k := 7) (by decide) fl_X10_47 dX10_makesOne_66 (fun x8 _ => ?_)
    refine j_iload_n (pc := 69) (p := 1) rfl rfl dX10_makesOne_69 ?_
    refine j_dup2 (pc := 70) rfl rfl dX10_makesOne_70 ?_
    refine j_iald (pc := 71) dX10_makesOne_71 (fun x9 _ => ?_)
    refine j_iconst (pc := 72) ki_1 dX10_makesOne_72 ?_
    refine j_iadd (pc := 73) dX10_makesOne_73 ?_
    refine j_iast (pc := 74) dX10_makesOne_74 (fun h10 _ => ?_)
    refine j_aload_n (pc := 75) (p := 0) rfl rfl dX10_makesOne_75 ?_
    refine j_iload_n (pc := 76) (p := 1) rfl rfl dX10_makesOne_76 ?_
    refine j_cVu (pc := 77) Y_X10_loads (ci := 9) (b := v0) rfl rfl ml_X10_144 im_X10_loads se_X10_loads ⟨Nat.le_of_ble_eq_true rfl, Nat.le_of_ble_eq_true rfl⟩ dX10_makesOne_77 (As := [.int v1]) (rest := []) rfl rfl (Nat.le_of_ble_eq_true rfl) (fun x hq9 => c_X10_loads _ _ _ _ hq9) (fun q11 _ => ?_)
    refine j_aload_n (pc := 80) (p := 0) rfl rfl dX10_makesOne_80 ?_
    refine j_aload_n (pc := 81) (p := 0) rfl rfl dX10_makesOne_81 ?_
    refine j_getR (pc := 82) FI_X10 (k := 7) (by decide) fl_X10_47 dX10_makesOne_82 (fun x12 _ => ?_)
    refine j_iload_n (pc := 85) (p := 1) rfl rfl dX10_makesOne_85 ?_
    refine j_iald (pc := 86) dX10_makesOne_86 (fun x13 _ => ?_)
    refine j_iload_n (pc := 87) (p := 1) rfl rfl dX10_makesOne_87 ?_
    refine j_iload_n (pc := 88) (p := 2) rfl rfl dX10_makesOne_88 ?_
    refine j_iload_n (pc := 89) (p := 3) rfl rfl dX10_makesOne_89 ?_
    refine j_iload (pc := 90) (p := 4) rfl dX10_makesOne_90 ?_
    refine j_cVu (pc := 92) Y_X10_puts (ci := 9) (b := v0) rfl rfl ml_X10_125 im_X10_puts se_X10_puts ⟨Nat.le_of_ble_eq_true rfl, Nat.le_of_ble_eq_true rfl⟩ dX10_makesOne_92 (As := [.int x13, .int v1, .int v2, .int v3, .int v4]) (rest := []) rfl rfl (Nat.le_of_ble_eq_true rfl) (fun x hq9 => c_X10_puts _ _ _ _ _ _ _ _ hq9) (fun q14 _ => ?_)
    refine j_aload_n (pc := 95) (p := 0) rfl rfl dX10_makesOne_95 ?_
    refine j_iload_n (pc := 96) (p := 1) rfl rfl dX10_makesOne_96 ?_
    refine j_cVu (pc := 97) Y_X10_keepsList (ci := 9) (b := v0) rfl rfl ml_X10_187 im_X10_keepsList se_X10_keepsList ⟨Nat.le_of_ble_eq_true rfl, Nat.le_of_ble_eq_true rfl⟩ dX10_makesOne_97 (As := [.int v1]) (rest := []) rfl rfl (Nat.le_of_ble_eq_true rfl) (fun x hq9 => c_X10_keepsList _ _ _ _ hq9) (fun q15 _ => ?_)
    refine j_aload_n (pc := 100) (p := 0) rfl rfl dX10_makesOne_100 ?_
    refine j_iconst (pc := 101) ki_0 dX10_makesOne_101 ?_
    refine j_iload_n (pc := 102) (p := 1) rfl rfl dX10_makesOne_102 ?_
    refine j_iconst (pc := 103) ki_m1 dX10_makesOne_103 ?_
    refine j_cVu (pc := 104) Y_X10_grows (ci := 9) (b := v0) rfl rfl ml_X10_148 im_X10_grows se_X10_grows ⟨Nat.le_of_ble_eq_true rfl, Nat.le_of_ble_eq_true rfl⟩ dX10_makesOne_104 (As := [.int (0), .int v1, .int (-1)]) (rest := []) rfl rfl (Nat.le_of_ble_eq_true rfl) (fun x hq9 => c_X10_grows _ _ _ _ _ _ hq9) (fun q16 _ => ?_)
    refine j_aload_n (pc := 107) (p := 0) rfl rfl dX10_makesOne_107 ?_
    refine j_aload_n (pc := 108) (p := 0) rfl rfl dX10_makesOne_108 ?_
    refine j_getR (pc := 109) FI_X10 (k := 10) (by decide) fl_X10_53 dX10_makesOne_109 (fun x17 _ => ?_)
    refine j_aload_n (pc := 112) (p := 0) rfl rfl dX10_makesOne_112 ?_
    refine j_getI (pc := 113) FI_X10 (k := 9) (by decide) fl_X10_105 dX10_makesOne_113 (fun x18 _ => ?_)
    refine j_iconst (pc := 116) ki_1 dX10_makesOne_116 ?_
    refine j_isub (pc := 117) dX10_makesOne_117 ?_
    refine j_zald (pc := 118) dX10_makesOne_118 (fun x19 _ => ?_)
    refine j_putZ (pc := 119) FI_X10 (k := 12) (by decide) fl_X10_190 rfl rfl dX10_makesOne_119 (fun h20 _ => ?_)
    refine j_aload_n (pc := 122) (p := 0) rfl rfl dX10_makesOne_122 ?_
    refine j_iload_n (pc := 123) (p := 1) rfl rfl dX10_makesOne_123 ?_
    refine j_iload_n (pc := 124) (p := 2) rfl rfl dX10_makesOne_124 ?_
    refine j_iload_n (pc := 125) (p := 3) rfl rfl dX10_makesOne_125 ?_
    refine j_iload (pc := 126) (p := 4) rfl dX10_makesOne_126 ?_
    refine j_cVu (pc := 128) Y_X10_sends (ci := 9) (b := v0) rfl rfl ml_X10_194 im_X10_sends se_X10_sends ⟨Nat.le_of_ble_eq_true rfl, Nat.le_of_ble_eq_true rfl⟩ dX10_makesOne_128 (As := [.int v1, .int v2, .int v3, .int v4]) (rest := []) rfl rfl (Nat.le_of_ble_eq_true rfl) (fun x hq9 => c_X10_sends _ _ _ _ _ _ _ hq9) (fun q21 _ => ?_)
    refine j_aload_n (pc := 131) (p := 0) rfl rfl dX10_makesOne_131 ?_
    refine j_getR (pc := 132) FI_X10 (k := 7) (by decide) fl_X10_47 dX10_makesOne_132 (fun x22 _ => ?_)
    refine j_iload_n (pc := 135) (p := 1) rfl rfl dX10_makesOne_135 ?_
    refine j_iald (pc := 136) dX10_makesOne_136 (fun x23 _ => ?_)
    exact j_iret (pc := 137) rfl dX10_makesOne_137
  refine j_bipush (pc := 62) kb_m3 dX10_makesOne_62 ?_
  exact j_iret (pc := 64) rfl dX10_makesOne_64
set_option maxRecDepth 20000 in
set_option maxHeartbeats 1000000 in
theorem c_X10_makesOne {G : q_G} {l : Launch} : ∀ (h : q_H) (a0 : Nat) (a1 : Int32) (a2 : Int32) (a3 : Int32) (a4 : Int32) (q : q_H × Int32), f_X10_makesOne h a0 a1 a2 a3 a4 = some q → (∃ fs, h.1 a0 = .inr (9, fs)) ∧ q_CT G l yX10_makesOne cX10_makesOne 5 (some .int) 4 96 [.ref a0, .int a1, .int a2, .int a3, .int a4] h q.1 (q_i q.2) := by
  intro h a0 a1 a2 a3 a4 q e
  obtain ⟨e1, e2⟩ := q_chk_ok e
  exact ⟨e1, q_ofJ Y_X10_makesOne (Nat.le_of_ble_eq_true rfl) (jb_X10_makesOne_0 h a0 a1 a2 a3 a4) q e2⟩
/-! FarFoldersModel.waitingAll(I)I -/
theorem dX10_waitingAll_0 : decode cX10_waitingAll 0 = .ok (.iconst 0, 1) := by decide +kernel
theorem dX10_waitingAll_1 : decode cX10_waitingAll 1 = .ok (.istore_n 2, 1) := by decide +kernel
theorem dX10_waitingAll_2 : decode cX10_waitingAll 2 = .ok (.iconst 0, 1) := by decide +kernel
theorem dX10_waitingAll_3 : decode cX10_waitingAll 3 = .ok (.istore_n 3, 1) := by decide +kernel
theorem dX10_waitingAll_4 : decode cX10_waitingAll 4 = .ok (.iload_n 3, 1) := by decide +kernel
theorem dX10_waitingAll_5 : decode cX10_waitingAll 5 = .ok (.iconst 3, 1) := by decide +kernel
theorem dX10_waitingAll_6 : decode cX10_waitingAll 6 = .ok (.if_icmp .ge 27, 3) := by decide +kernel
theorem dX10_waitingAll_9 : decode cX10_waitingAll 9 = .ok (.iload_n 2, 1) := by decide +kernel
theorem dX10_waitingAll_10 : decode cX10_waitingAll 10 = .ok (.iload_n 3, 1) := by decide +kernel
theorem dX10_waitingAll_11 : decode cX10_waitingAll 11 = .ok (.iload_n 1, 1) := by decide +kernel
theorem dX10_waitingAll_12 : decode cX10_waitingAll 12 = .ok (.if_icmp .ne 7, 3) := by decide +kernel
theorem dX10_waitingAll_15 : decode cX10_waitingAll 15 = .ok (.iconst 0, 1) := by decide +kernel
theorem dX10_waitingAll_16 : decode cX10_waitingAll 16 = .ok (.goto 9, 3) := by decide +kernel
theorem dX10_waitingAll_19 : decode cX10_waitingAll 19 = .ok (.aload_n 0, 1) := by decide +kernel
theorem dX10_waitingAll_20 : decode cX10_waitingAll 20 = .ok (.iload_n 3, 1) := by decide +kernel
theorem dX10_waitingAll_21 : decode cX10_waitingAll 21 = .ok (.iload_n 1, 1) := by decide +kernel
theorem dX10_waitingAll_22 : decode cX10_waitingAll 22 = .ok (.invokevirtual 173, 3) := by decide +kernel
theorem dX10_waitingAll_25 : decode cX10_waitingAll 25 = .ok (.iadd, 1) := by decide +kernel
theorem dX10_waitingAll_26 : decode cX10_waitingAll 26 = .ok (.istore_n 2, 1) := by decide +kernel
theorem dX10_waitingAll_27 : decode cX10_waitingAll 27 = .ok (.iinc 3 1, 3) := by decide +kernel
theorem dX10_waitingAll_30 : decode cX10_waitingAll 30 = .ok (.goto (-26), 3) := by decide +kernel
theorem dX10_waitingAll_33 : decode cX10_waitingAll 33 = .ok (.iload_n 2, 1) := by decide +kernel
theorem dX10_waitingAll_34 : decode cX10_waitingAll 34 = .ok (.ireturn, 1) := by decide +kernel
def b_X10_waitingAll_25 (k4 : q_H → Nat → Int32 → Int32 → Int32 → Option (q_H × Int32)) (h : q_H) (v0 : Nat) (v1 : Int32) (v3 : Int32) (s0 : Int32) (s1 : Int32) : Option (q_H × Int32) :=
  k4 h v0 v1 (s0 + s1) (v3 + 1)
def b_X10_waitingAll_4 (k4 : q_H → Nat → Int32 → Int32 → Int32 → Option (q_H × Int32)) (h : q_H) (v0 : Nat) (v1 : Int32) (v2 : Int32) (v3 : Int32) : Option (q_H × Int32) :=
  if (3) ≤ v3 then some (h, v2) else if v3 = v1 then b_X10_waitingAll_25 k4 h v0 v1 v3 v2 (0) else Option.bind (f_X10_waiting h v0 v3 v1) (fun q1 => b_X10_waitingAll_25 k4 q1.1 v0 v1 v3 v2 q1.2)
def l_X10_waitingAll_4 : Nat → q_H → Nat → Int32 → Int32 → Int32 → Option (q_H × Int32)
  | 0, _, _, _, _, _ => none
  | n + 1, h, v0, v1, v2, v3 => b_X10_waitingAll_4 (l_X10_waitingAll_4 n) h v0 v1 v2 v3
def b_X10_waitingAll_0 (h : q_H) (v0 : Nat) (v1 : Int32) : Option (q_H × Int32) :=
  l_X10_waitingAll_4 q_FU h v0 v1 (0) (0)
def f_X10_waitingAll (h : q_H) (a0 : Nat) (a1 : Int32) : Option (q_H × Int32) := q_chk 9 h a0 (b_X10_waitingAll_0 h a0 a1)
set_option maxRecDepth 20000 in
set_option maxHeartbeats 1000000 in
theorem jb_X10_waitingAll_25 {G : q_G} {l : Launch} {k0 z0 : Nat} (k4 : q_H → Nat → Int32 → Int32 → Int32 → Option (q_H × Int32)) (hk4 : ∀ (h : q_H) (v0 : Nat) (v1 : Int32) (v2 : Int32) (v3 : Int32), q_J G l (RX10, cX10_waitingAll, 4, 2, 43, (some .int), "waitingAll", []) k0 z0 (q_Z G k0 z0 q_i) 4 [(0, .ref v0), (1, .int v1), (2, .int v2), (3, .int v3)] [] h (k4 h v0 v1 v2 v3)) (h : q_H) (v0 : Nat) (v1 : Int32) (v3 : Int32) (s0 : Int32) (s1 : Int32) : q_J G l (RX10, cX10_waitingAll, 4, 2, 43, (some .int), "waitingAll", []) k0 z0 (q_Z G k0 z0 q_i) 25 [(0, .ref v0), (1, .int v1), (3, .int v3)] [.int s1, .int s0] h (b_X10_waitingAll_25 k4 h v0 v1 v3 s0 s1) := by
  unfold b_X10_waitingAll_25
  refine j_iadd (pc := 25) dX10_waitingAll_25 ?_
  refine j_istore_n (pc := 26) (lv' := [(2, .int (s0 + s1)), (0, .ref v0), (1, .int v1), (3, .int v3)]) rfl (by decide) rfl dX10_waitingAll_26 ?_
  refine j_inc (pc := 27) (p := 3) (lv' := [(3, .int (v3 + 1)), (2, .int (s0 + s1)), (0, .ref v0), (1, .int v1)]) rfl ki_1 (by decide) rfl dX10_waitingAll_27 ?_
  refine j_goto (pc := 30) (tgt := 4) dX10_waitingAll_30 (by decide) ?_
  refine j_sub [2, 3, 1, 0] (lv' := [(0, .ref v0), (1, .int v1), (2, .int (s0 + s1)), (3, .int (v3 + 1))]) rfl ?_
  exact hk4 _ _ _ _ _
set_option maxRecDepth 20000 in
set_option maxHeartbeats 1000000 in
theorem jb_X10_waitingAll_4 {G : q_G} {l : Launch} {k0 z0 : Nat} (k4 : q_H → Nat → Int32 → Int32 → Int32 → Option (q_H × Int32)) (hk4 : ∀ (h : q_H) (v0 : Nat) (v1 : Int32) (v2 : Int32) (v3 : Int32), q_J G l (RX10, cX10_waitingAll, 4, 2, 43, (some .int), "waitingAll", []) k0 z0 (q_Z G k0 z0 q_i) 4 [(0, .ref v0), (1, .int v1), (2, .int v2), (3, .int v3)] [] h (k4 h v0 v1 v2 v3)) (h : q_H) (v0 : Nat) (v1 : Int32) (v2 : Int32) (v3 : Int32) : q_J G l (RX10, cX10_waitingAll, 4, 2, 43, (some .int), "waitingAll", []) k0 z0 (q_Z G k0 z0 q_i) 4 [(0, .ref v0), (1, .int v1), (2, .int v2), (3, .int v3)] [] h (b_X10_waitingAll_4 k4 h v0 v1 v2 v3) := by
  unfold b_X10_waitingAll_4
  refine j_iload_n (pc := 4) (p := 3) rfl rfl dX10_waitingAll_4 ?_
  refine j_iconst (pc := 5) ki_3 dX10_waitingAll_5 ?_
  refine j_ic_ge (pc := 6) (tgt := 33) dX10_waitingAll_6 (by decide) (fun _ => ?_) (fun _ => ?_)
  · refine j_iload_n (pc := 33) (p := 2) rfl rfl dX10_waitingAll_33 ?_
    exact j_iret (pc := 34) rfl dX10_waitingAll_34
  refine j_iload_n (pc := 9) (p := 2) rfl rfl dX10_waitingAll_9 ?_
  refine j_iload_n (pc := 10) (p := 3) rfl rfl dX10_waitingAll_10 ?_
  refine j_iload_n (pc := 11) (p := 1) rfl rfl dX10_waitingAll_11 ?_
  refine j_ic_ne (pc := 12) (tgt := 19) dX10_waitingAll_12 (by decide) (fun _ => ?_) (fun _ => ?_)
  · refine j_iconst (pc := 15) ki_0 dX10_waitingAll_15 ?_
    refine j_goto (pc := 16) (tgt := 25) dX10_waitingAll_16 (by decide) ?_
    refine j_sub [0, 1, 3] (lv' := [(0, .ref v0), (1, .int v1), (3, .int v3)]) rfl ?_
    exact jb_X10_waitingAll_25 k4 hk4 _ _ _ _ _ _
  refine j_aload_n (pc := 19) (p := 0) rfl rfl dX10_waitingAll_19 ?_
  refine j_iload_n (pc := 20) (p := 3) rfl rfl dX10_waitingAll_20 ?_
  refine j_iload_n (pc := 21) (p := 1) rfl rfl dX10_waitingAll_21 ?_
  refine j_cVi (pc := 22) Y_X10_waiting (ci := 9) (b := v0) rfl rfl ml_X10_173 im_X10_waiting se_X10_waiting ⟨Nat.le_of_ble_eq_true rfl, Nat.le_of_ble_eq_true rfl⟩ dX10_waitingAll_22 (As := [.int v3, .int v1]) (rest := [.int v2]) rfl rfl (Nat.le_of_ble_eq_true rfl) (fun x hq9 => c_X10_waiting _ _ _ _ _ hq9) (fun q1 _ => ?_)
  refine j_sub [0, 1, 3] (lv' := [(0, .ref v0), (1, .int v1), (3, .int v3)]) rfl ?_
  exact jb_X10_waitingAll_25 k4 hk4 _ _ _ _ _ _
set_option maxRecDepth 20000 in
set_option maxHeartbeats 1000000 in
theorem jl_X10_waitingAll_4 {G : q_G} {l : Launch} {k0 z0 : Nat} (n : Nat) : ∀ (h : q_H) (v0 : Nat) (v1 : Int32) (v2 : Int32) (v3 : Int32), q_J G l (RX10, cX10_waitingAll, 4, 2, 43, (some .int), "waitingAll", []) k0 z0 (q_Z G k0 z0 q_i) 4 [(0, .ref v0), (1, .int v1), (2, .int v2), (3, .int v3)] [] h (l_X10_waitingAll_4 n h v0 v1 v2 v3) := by
  induction n with
  | zero => intro h v0 v1 v2 v3; exact j_none
  | succ n ih => intro h v0 v1 v2 v3; exact jb_X10_waitingAll_4 (l_X10_waitingAll_4 n) ih h v0 v1 v2 v3
set_option maxRecDepth 20000 in
set_option maxHeartbeats 1000000 in
theorem jb_X10_waitingAll_0 {G : q_G} {l : Launch} {k0 z0 : Nat} (h : q_H) (v0 : Nat) (v1 : Int32) : q_J G l (RX10, cX10_waitingAll, 4, 2, 43, (some .int), "waitingAll", []) k0 z0 (q_Z G k0 z0 q_i) 0 [(0, .ref v0), (1, .int v1)] [] h (b_X10_waitingAll_0 h v0 v1) := by
  unfold b_X10_waitingAll_0
  refine j_iconst (pc := 0) ki_0 dX10_waitingAll_0 ?_
  refine j_istore_n (pc := 1) (lv' := [(2, .int (0)), (0, .ref v0), (1, .int v1)]) rfl (by decide) rfl dX10_waitingAll_1 ?_
  refine j_iconst (pc := 2) ki_0 dX10_waitingAll_2 ?_
  refine j_istore_n (pc := 3) (lv' := [(3, .int (0)), (2, .int (0)), (0, .ref v0), (1, .int v1)]) rfl (by decide) rfl dX10_waitingAll_3 ?_
  refine j_sub [2, 3, 1, 0] (lv' := [(0, .ref v0), (1, .int v1), (2, .int (0)), (3, .int (0))]) rfl ?_
  exact jl_X10_waitingAll_4 q_FU _ _ _ _ _
set_option maxRecDepth 20000 in
set_option maxHeartbeats 1000000 in
theorem c_X10_waitingAll {G : q_G} {l : Launch} : ∀ (h : q_H) (a0 : Nat) (a1 : Int32) (q : q_H × Int32), f_X10_waitingAll h a0 a1 = some q → (∃ fs, h.1 a0 = .inr (9, fs)) ∧ q_CT G l yX10_waitingAll cX10_waitingAll 4 (some .int) 2 43 [.ref a0, .int a1] h q.1 (q_i q.2) := by
  intro h a0 a1 q e
  obtain ⟨e1, e2⟩ := q_chk_ok e
  exact ⟨e1, q_ofJ Y_X10_waitingAll (Nat.le_of_ble_eq_true rfl) (jb_X10_waitingAll_0 h a0 a1) q e2⟩
