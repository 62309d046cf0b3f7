/-! FarFolders.gathers(I)I -/
theorem dX9_gathers_0 : decode cX9_gathers 0 = .ok (.iload_n 1, 1) := by decide +kernel
theorem dX9_gathers_1 : decode cX9_gathers 1 = .ok (.invokestatic 73, 3) := by decide +kernel
theorem dX9_gathers_4 : decode cX9_gathers 4 = .ok (.ifCond .ne 5, 3) := by decide +kernel
theorem dX9_gathers_7 : decode cX9_gathers 7 = .ok (.iconst (-1), 1) := by decide +kernel
theorem dX9_gathers_8 : decode cX9_gathers 8 = .ok (.ireturn, 1) := by decide +kernel
theorem dX9_gathers_9 : decode cX9_gathers 9 = .ok (.aload_n 0, 1) := by decide +kernel
theorem dX9_gathers_10 : decode cX9_gathers 10 = .ok (.getfield 44, 3) := by decide +kernel
theorem dX9_gathers_13 : decode cX9_gathers 13 = .ok (.aload_n 0, 1) := by decide +kernel
theorem dX9_gathers_14 : decode cX9_gathers 14 = .ok (.getfield 12, 3) := by decide +kernel
theorem dX9_gathers_17 : decode cX9_gathers 17 = .ok (.getfield 82, 3) := by decide +kernel
theorem dX9_gathers_20 : decode cX9_gathers 20 = .ok (.iload_n 1, 1) := by decide +kernel
theorem dX9_gathers_21 : decode cX9_gathers 21 = .ok (.aaload, 1) := by decide +kernel
theorem dX9_gathers_22 : decode cX9_gathers 22 = .ok (.getfield 86, 3) := by decide +kernel
theorem dX9_gathers_25 : decode cX9_gathers 25 = .ok (.invokevirtual 152, 3) := by decide +kernel
theorem dX9_gathers_28 : decode cX9_gathers 28 = .ok (.aload_n 0, 1) := by decide +kernel
theorem dX9_gathers_29 : decode cX9_gathers 29 = .ok (.getfield 12, 3) := by decide +kernel
theorem dX9_gathers_32 : decode cX9_gathers 32 = .ok (.iload_n 1, 1) := by decide +kernel
theorem dX9_gathers_33 : decode cX9_gathers 33 = .ok (.invokevirtual 164, 3) := by decide +kernel
theorem dX9_gathers_36 : decode cX9_gathers 36 = .ok (.istore_n 2, 1) := by decide +kernel
theorem dX9_gathers_37 : decode cX9_gathers 37 = .ok (.aload_n 0, 1) := by decide +kernel
theorem dX9_gathers_38 : decode cX9_gathers 38 = .ok (.getfield 12, 3) := by decide +kernel
theorem dX9_gathers_41 : decode cX9_gathers 41 = .ok (.iload_n 1, 1) := by decide +kernel
theorem dX9_gathers_42 : decode cX9_gathers 42 = .ok (.invokevirtual 167, 3) := by decide +kernel
theorem dX9_gathers_45 : decode cX9_gathers 45 = .ok (.istore_n 3, 1) := by decide +kernel
theorem dX9_gathers_46 : decode cX9_gathers 46 = .ok (.iload_n 3, 1) := by decide +kernel
theorem dX9_gathers_47 : decode cX9_gathers 47 = .ok (.ifCond .lt 39, 3) := by decide +kernel
theorem dX9_gathers_50 : decode cX9_gathers 50 = .ok (.aload_n 0, 1) := by decide +kernel
theorem dX9_gathers_51 : decode cX9_gathers 51 = .ok (.getfield 30, 3) := by decide +kernel
theorem dX9_gathers_54 : decode cX9_gathers 54 = .ok (.iload_n 2, 1) := by decide +kernel
theorem dX9_gathers_55 : decode cX9_gathers 55 = .ok (.i2l, 1) := by decide +kernel
theorem dX9_gathers_56 : decode cX9_gathers 56 = .ok (.invokevirtual 141, 3) := by decide +kernel
theorem dX9_gathers_59 : decode cX9_gathers 59 = .ok (.aload_n 0, 1) := by decide +kernel
theorem dX9_gathers_60 : decode cX9_gathers 60 = .ok (.getfield 30, 3) := by decide +kernel
theorem dX9_gathers_63 : decode cX9_gathers 63 = .ok (.aload_n 0, 1) := by decide +kernel
theorem dX9_gathers_64 : decode cX9_gathers 64 = .ok (.getfield 44, 3) := by decide +kernel
theorem dX9_gathers_67 : decode cX9_gathers 67 = .ok (.aload_n 0, 1) := by decide +kernel
theorem dX9_gathers_68 : decode cX9_gathers 68 = .ok (.getfield 12, 3) := by decide +kernel
theorem dX9_gathers_71 : decode cX9_gathers 71 = .ok (.getfield 82, 3) := by decide +kernel
theorem dX9_gathers_74 : decode cX9_gathers 74 = .ok (.iload_n 1, 1) := by decide +kernel
theorem dX9_gathers_75 : decode cX9_gathers 75 = .ok (.aaload, 1) := by decide +kernel
theorem dX9_gathers_76 : decode cX9_gathers 76 = .ok (.getfield 86, 3) := by decide +kernel
theorem dX9_gathers_79 : decode cX9_gathers 79 = .ok (.invokevirtual 160, 3) := by decide +kernel
theorem dX9_gathers_82 : decode cX9_gathers 82 = .ok (.i2l, 1) := by decide +kernel
theorem dX9_gathers_83 : decode cX9_gathers 83 = .ok (.invokevirtual 170, 3) := by decide +kernel
theorem dX9_gathers_86 : decode cX9_gathers 86 = .ok (.iload_n 3, 1) := by decide +kernel
theorem dX9_gathers_87 : decode cX9_gathers 87 = .ok (.ireturn, 1) := by decide +kernel
def b_X9_gathers_0 (h : q_H) (v0 : Nat) (v1 : Int32) : Option (q_H × Int32) :=
  Option.bind (f_X9_isCopy h v1) (fun q1 => if q1.2 = 0 then some (q1.1, (-1)) else Option.bind (q_gR 8 6 q1.1 v0) (fun x2 => Option.bind (q_gR 8 0 q1.1 v0) (fun x3 => Option.bind (q_gR 7 0 q1.1 x3) (fun x4 => Option.bind (q_lR 4 q1.1 x4 v1) (fun x5 => Option.bind (q_gR 0 5 q1.1 x5) (fun x6 => Option.bind (f_X7_copyFrom q1.1 x2 x6) (fun q7 => Option.bind (q_gR 8 0 q7.1 v0) (fun x8 => Option.bind (f_X8_undoneAtOnce q7.1 x8 v1) (fun q9 => Option.bind (q_gR 8 0 q9.1 v0) (fun x10 => Option.bind (f_X8_gather q9.1 x10 v1) (fun q11 => if q11.2 < 0 then some (q11.1, q11.2) else Option.bind (q_gR 8 4 q11.1 v0) (fun x12 => Option.bind (f_X4_tell q11.1 x12 (Int32.toInt64 q9.2)) (fun q13 => Option.bind (q_gR 8 4 q13.1 v0) (fun x14 => Option.bind (q_gR 8 6 q13.1 v0) (fun x15 => Option.bind (q_gR 8 0 q13.1 v0) (fun x16 => Option.bind (q_gR 7 0 q13.1 x16) (fun x17 => Option.bind (q_lR 4 q13.1 x17 v1) (fun x18 => Option.bind (q_gR 0 5 q13.1 x18) (fun x19 => Option.bind (f_X7_otherThan q13.1 x15 x19) (fun q20 => Option.bind (f_X4_add q20.1 x14 (Int32.toInt64 q20.2)) (fun q21 => some (q21.1, q11.2))))))))))))))))))))))
def f_X9_gathers (h : q_H) (a0 : Nat) (a1 : Int32) : Option (q_H × Int32) := q_chk 8 h a0 (b_X9_gathers_0 h a0 a1)
set_option maxRecDepth 20000 in
set_option maxHeartbeats 1000000 in
theorem jb_X9_gathers_0 {G : q_G} {l : Launch} {k0 z0 : Nat} (h : q_H) (v0 : Nat) (v1 : Int32) : q_J G l (RX9, cX9_gathers, 4, 5, 154, (some .int), "gathers", []) k0 z0 (q_Z G k0 z0 q_i) 0 [(0, .ref v0), (1, .int v1)] [] h (b_X9_gathers_0 h v0 v1) := by
  unfold b_X9_gathers_0
  refine j_iload_n (pc := 0) (p := 1) rfl rfl dX9_gathers_0 ?_
  refine j_cSi (pc := 1) Y_X9_isCopy ml_X9_73 sm_X9_isCopy ⟨Nat.le_of_ble_eq_true rfl, Nat.le_of_ble_eq_true rfl⟩ dX9_gathers_1 (As := [.int v1]) (rest := []) rfl rfl (Nat.le_of_ble_eq_true rfl) (fun x hq9 => c_X9_isCopy _ _ _ hq9) (fun q1 _ => ?_)
  refine j_if_ne (pc := 4) (tgt := 9) dX9_gathers_4 (by decide) (fun _ => ?_) (fun _ => ?_)
  · refine j_iconst (pc := 7) ki_m1 dX9_gathers_7 ?_
    exact j_iret (pc := 8) rfl dX9_gathers_8
  refine j_aload_n (pc := 9) (p := 0) rfl rfl dX9_gathers_9 ?_
  refine j_getR (pc := 10) FI_X9 (k := 6) (by decide) fl_X9_44 dX9_gathers_10 (fun x2 _ => ?_)
  refine j_aload_n (pc := 13) (p := 0) rfl rfl dX9_gathers_13 ?_
  refine j_getR (pc := 14) FI_X9 (k := 0) (by decide) fl_X9_12 dX9_gathers_14 (fun x3 _ => ?_)
  refine j_getR (pc := 17) FI_X8 (k := 0) (by decide) fl_X9_82 dX9_gathers_17 (fun x4 _ => ?_)
  refine j_iload_n (pc := 20) (p := 1) rfl rfl dX9_gathers_20 ?_
  refine j_aald (pc := 21) (t := 4) rfl dX9_gathers_21 (fun x5 _ => ?_)
  refine j_getR (pc := 22) FI_X0 (k := 5) (by decide) fl_X9_86 dX9_gathers_22 (fun x6 _ => ?_)
  refine j_cVu (pc := 25) Y_X7_copyFrom (ci := 6) (b := x2) rfl rfl ml_X9_152 im_X7_copyFrom se_X7_copyFrom ⟨Nat.le_of_ble_eq_true rfl, Nat.le_of_ble_eq_true rfl⟩ dX9_gathers_25 (As := [.ref x6]) (rest := []) rfl rfl (Nat.le_of_ble_eq_true rfl) (fun x hq9 => c_X7_copyFrom _ _ _ _ hq9) (fun q7 _ => ?_)
  refine j_aload_n (pc := 28) (p := 0) rfl rfl dX9_gathers_28 ?_
  refine j_getR (pc := 29) FI_X9 (k := 0) (by decide) fl_X9_12 dX9_gathers_29 (fun x8 _ => ?_)
  refine j_iload_n (pc := 32) (p := 1) rfl rfl dX9_gathers_32 ?_
  refine j_cVi (pc := 33) Y_X8_undoneAtOnce (ci := 7) (b := x8) rfl rfl ml_X9_164 im_X8_undoneAtOnce se_X8_undoneAtOnce ⟨Nat.le_of_ble_eq_true rfl, Nat.le_of_ble_eq_true rfl⟩ dX9_gathers_33 (As := [.int v1]) (rest := []) rfl rfl (Nat.le_of_ble_eq_true rfl) (fun x hq9 => c_X8_undoneAtOnce _ _ _ _ hq9) (fun q9 _ => ?_)
  refine j_istore_n (pc := 36) (lv' := [(2, .int q9.2), (0, .ref v0), (1, .int v1)]) rfl (by decide) rfl dX9_gathers_36 ?_
  refine j_aload_n (pc := 37) (p := 1) rfl rfl dX9_gathers_37 ?_
  refine j_getR (pc := 38) FI_X9 (k := 0) (by decide) fl_X9_12 dX9_gathers_38 (fun x10 _ => ?_)
  refine j_iload_n (pc := 41) (p := 2) rfl rfl dX9_gathers_41 ?_
  refine j_cVi (pc := 42) Y_X8_gather (ci := 7) (b := x10) rfl rfl ml_X9_167 im_X8_gather se_X8_gather ⟨Nat.le_of_ble_eq_true rfl, Nat.le_of_ble_eq_true rfl⟩ dX9_gathers_42 (As := [.int v1]) (rest := []) rfl rfl (Nat.le_of_ble_eq_true rfl) (fun x hq9 => c_X8_gather _ _ _ _ hq9) (fun q11 _ => ?_)
  refine j_istore_n (pc := 45) (lv' := [(3, .int q11.2), (2, .int q9.2), (0, .ref v0), (1, .int v1)]) rfl (by decide) rfl dX9_gathers_45 ?_
  refine j_iload_n (pc := 46) (p := 0) rfl rfl dX9_gathers_46 ?_
  refine j_if_lt (pc := 47) (tgt := 86) dX9_gathers_47 (by decide) (fun _ => ?_) (fun _ => ?_)
  · refine j_iload_n (pc := 86) (p := 0) rfl rfl dX9_gathers_86 ?_
    exact j_iret (pc := 87) rfl dX9_gathers_87
  refine j_aload_n (pc := 50) (p := 2) rfl rfl dX9_gathers_50 ?_
  refine j_getR (pc := 51) FI_X9 (k := 4) (by decide) fl_X9_30 dX9_gathers_51 (fun x12 _ => ?_)
  refine j_iload_n (pc := 54) (p := 1) rfl rfl dX9_gathers_54 ?_
  refine j_i2l (pc := 55) dX9_gathers_55 ?_
  refine j_cVu (pc := 56) Y_X4_tell (ci := 3) (b := x12) rfl rfl ml_X9_141 im_X4_tell se_X4_tell ⟨Nat.le_of_ble_eq_true rfl, Nat.le_of_ble_eq_true rfl⟩ dX9_gathers_56 (As := [.long (Int32.toInt64 q9.2)]) (rest := []) rfl rfl (Nat.le_of_ble_eq_true rfl) (fun x hq9 => c_X4_tell _ _ _ _ hq9) (fun q13 _ => ?_)
  refine j_aload_n (pc := 59) (p := 2) rfl rfl dX9_gathers_59 ?_
  refine j_getR (pc := 60) FI_X9 (k := 4) (by decide) fl_X9_30 dX9_gathers_60 (fun x14 _ => ?_)
  refine j_aload_n (pc := 63) (p := 2) rfl rfl dX9_gathers_63 ?_
  refine j_getR (pc := 64) FI_X9 (k := 6) (by decide) fl_X9_44 dX9_gathers_64 (fun x15 _ => ?_)
  refine j_aload_n (pc := 67) (p := 2) rfl rfl dX9_gathers_67 ?_
  refine j_getR (pc := 68) FI_X9 (k := 0) (by decide) fl_X9_12 dX9_gathers_68 (fun x16 _ => ?_)
  refine j_getR (pc := 71) FI_X8 (k := 0) (by decide) fl_X9_82 dX9_gathers_71 (fun x17 _ => ?_)
  refine j_iload_n (pc := 74) (p := 3) rfl rfl dX9_gathers_74 ?_
  refine j_aald (pc := 75) (t := 4) rfl dX9_gathers_75 (fun x18 _ => ?_)
  refine j_getR (pc := 76) FI_X0 (k := 5) (by decide) fl_X9_86 dX9_gathers_76 (fun x19 _ => ?_)
  refine j_cVi (pc := 79) Y_X7_otherThan (ci := 6) (b := x15) rfl rfl ml_X9_160 im_X7_otherThan se_X7_otherThan ⟨Nat.le_of_ble_eq_true rfl, Nat.le_of_ble_eq_true rfl⟩ dX9_gathers_79 (As := [.ref x19]) (rest := [.ref x14]) rfl rfl (Nat.le_of_ble_eq_true rfl) (fun x hq9 => c_X7_otherThan _ _ _ _ hq9) (fun q20 _ => ?_)
  refine j_i2l (pc := 82) dX9_gathers_82 ?_
  refine j_cVu (pc := 83) Y_X4_add (ci := 3) (b := x14) rfl rfl ml_X9_170 im_X4_add se_X4_add ⟨Nat.le_of_ble_eq_true rfl, Nat.le_of_ble_eq_true rfl⟩ dX9_gathers_83 (As := [.long (Int32.toInt64 q20.2)]) (rest := []) rfl rfl (Nat.le_of_ble_eq_true rfl) (fun x hq9 => c_X4_add _ _ _ _ hq9) (fun q21 _ => ?_)
  refine j_iload_n (pc := 86) (p := 0) rfl rfl dX9_gathers_86 ?_
  exact j_iret (pc := 87) rfl dX9_gathers_87
set_option maxRecDepth 20000 in
set_option maxHeartbeats 1000000 in
theorem c_X9_gathers {G : q_G} {l : Launch} : ∀ (h : q_H) (a0 : Nat) (a1 : Int32) (q : q_H × Int32), f_X9_gathers h a0 a1 = some q → (∃ fs, h.1 a0 = .inr (8, fs)) ∧ q_CT G l yX9_gathers cX9_gathers 4 (some .int) 5 154 [.ref a0, .int a1] h q.1 (q_i q.2) := by
  intro h a0 a1 q e
  obtain ⟨e1, e2⟩ := q_chk_ok e
  exact ⟨e1, q_ofJ Y_X9_gathers (Nat.le_of_ble_eq_true rfl) (jb_X9_gathers_0 h a0 a1) q e2⟩
/-! FarFolders.idle(I)I -/
theorem dX9_idle_0 : decode cX9_idle 0 = .ok (.iload_n 1, 1) := by decide +kernel
theorem dX9_idle_1 : decode cX9_idle 1 = .ok (.invokestatic 73, 3) := by decide +kernel
theorem dX9_idle_4 : decode cX9_idle 4 = .ok (.ifCond .ne 5, 3) := by decide +kernel
theorem dX9_idle_7 : decode cX9_idle 7 = .ok (.iconst (-1), 1) := by decide +kernel
theorem dX9_idle_8 : decode cX9_idle 8 = .ok (.ireturn, 1) := by decide +kernel
theorem dX9_idle_9 : decode cX9_idle 9 = .ok (.aload_n 0, 1) := by decide +kernel
theorem dX9_idle_10 : decode cX9_idle 10 = .ok (.getfield 12, 3) := by decide +kernel
theorem dX9_idle_13 : decode cX9_idle 13 = .ok (.getfield 82, 3) := by decide +kernel
theorem dX9_idle_16 : decode cX9_idle 16 = .ok (.iload_n 1, 1) := by decide +kernel
theorem dX9_idle_17 : decode cX9_idle 17 = .ok (.aaload, 1) := by decide +kernel
theorem dX9_idle_18 : decode cX9_idle 18 = .ok (.astore_n 2, 1) := by decide +kernel
theorem dX9_idle_19 : decode cX9_idle 19 = .ok (.iconst 0, 1) := by decide +kernel
theorem dX9_idle_20 : decode cX9_idle 20 = .ok (.istore_n 3, 1) := by decide +kernel
theorem dX9_idle_21 : decode cX9_idle 21 = .ok (.iconst 0, 1) := by decide +kernel
theorem dX9_idle_22 : decode cX9_idle 22 = .ok (.istore 4, 2) := by decide +kernel
theorem dX9_idle_24 : decode cX9_idle 24 = .ok (.iload 4, 2) := by decide +kernel
theorem dX9_idle_26 : decode cX9_idle 26 = .ok (.aload_n 2, 1) := by decide +kernel
theorem dX9_idle_27 : decode cX9_idle 27 = .ok (.getfield 120, 3) := by decide +kernel
theorem dX9_idle_30 : decode cX9_idle 30 = .ok (.getfield 140, 3) := by decide +kernel
theorem dX9_idle_33 : decode cX9_idle 33 = .ok (.if_icmp .ge 48, 3) := by decide +kernel
theorem dX9_idle_36 : decode cX9_idle 36 = .ok (.aload_n 0, 1) := by decide +kernel
theorem dX9_idle_37 : decode cX9_idle 37 = .ok (.getfield 44, 3) := by decide +kernel
theorem dX9_idle_40 : decode cX9_idle 40 = .ok (.aload_n 2, 1) := by decide +kernel
theorem dX9_idle_41 : decode cX9_idle 41 = .ok (.getfield 306, 3) := by decide +kernel
theorem dX9_idle_44 : decode cX9_idle 44 = .ok (.aload_n 2, 1) := by decide +kernel
theorem dX9_idle_45 : decode cX9_idle 45 = .ok (.getfield 120, 3) := by decide +kernel
theorem dX9_idle_48 : decode cX9_idle 48 = .ok (.iload 4, 2) := by decide +kernel
theorem dX9_idle_50 : decode cX9_idle 50 = .ok (.invokevirtual 309, 3) := by decide +kernel
theorem dX9_idle_53 : decode cX9_idle 53 = .ok (.pop, 1) := by decide +kernel
theorem dX9_idle_54 : decode cX9_idle 54 = .ok (.aload_n 0, 1) := by decide +kernel
theorem dX9_idle_55 : decode cX9_idle 55 = .ok (.getfield 44, 3) := by decide +kernel
theorem dX9_idle_58 : decode cX9_idle 58 = .ok (.aload_n 2, 1) := by decide +kernel
theorem dX9_idle_59 : decode cX9_idle 59 = .ok (.getfield 86, 3) := by decide +kernel
theorem dX9_idle_62 : decode cX9_idle 62 = .ok (.invokevirtual 313, 3) := by decide +kernel
theorem dX9_idle_65 : decode cX9_idle 65 = .ok (.ifCond .eq 10, 3) := by decide +kernel
theorem dX9_idle_68 : decode cX9_idle 68 = .ok (.iload_n 3, 1) := by decide +kernel
theorem dX9_idle_69 : decode cX9_idle 69 = .ok (.iconst 1, 1) := by decide +kernel
theorem dX9_idle_70 : decode cX9_idle 70 = .ok (.iload 4, 2) := by decide +kernel
theorem dX9_idle_72 : decode cX9_idle 72 = .ok (.ishl, 1) := by decide +kernel
theorem dX9_idle_73 : decode cX9_idle 73 = .ok (.ior, 1) := by decide +kernel
theorem dX9_idle_74 : decode cX9_idle 74 = .ok (.istore_n 3, 1) := by decide +kernel
theorem dX9_idle_75 : decode cX9_idle 75 = .ok (.iinc 4 1, 3) := by decide +kernel
theorem dX9_idle_78 : decode cX9_idle 78 = .ok (.goto (-54), 3) := by decide +kernel
theorem dX9_idle_81 : decode cX9_idle 81 = .ok (.aload_n 0, 1) := by decide +kernel
theorem dX9_idle_82 : decode cX9_idle 82 = .ok (.iload_n 3, 1) := by decide +kernel
theorem dX9_idle_83 : decode cX9_idle 83 = .ok (.invokevirtual 209, 3) := by decide +kernel
theorem dX9_idle_86 : decode cX9_idle 86 = .ok (.ireturn, 1) := by decide +kernel
def b_X9_idle_75 (k24 : q_H → Nat → Nat → Int32 → Int32 → Option (q_H × Int32)) (h : q_H) (v0 : Nat) (v2 : Nat) (v3 : Int32) (v4 : Int32) : Option (q_H × Int32) :=
  k24 h v0 v2 v3 (v4 + 1)
def b_X9_idle_24 (k24 : q_H → Nat → Nat → Int32 → Int32 → Option (q_H × Int32)) (h : q_H) (v0 : Nat) (v2 : Nat) (v3 : Int32) (v4 : Int32) : Option (q_H × Int32) :=
  Option.bind (q_gR 0 3 h v2) (fun x1 => Option.bind (q_gI 4 1 h x1) (fun x2 => if x2 ≤ v4 then Option.bind (f_X9_tellSet h v0 v3) (fun q3 => some (q3.1, q3.2)) else Option.bind (q_gR 8 6 h v0) (fun x4 => Option.bind (q_gR 0 4 h v2) (fun x5 => Option.bind (q_gR 0 3 h v2) (fun x6 => Option.bind (f_X7_rebuild h x4 x5 x6 v4) (fun q7 => Option.bind (q_gR 8 6 q7.1 v0) (fun x8 => Option.bind (q_gR 0 5 q7.1 v2) (fun x9 => Option.bind (f_X7_looksAs q7.1 x8 x9) (fun q10 => if q10.2 = 0 then b_X9_idle_75 k24 q10.1 v0 v2 v3 v4 else b_X9_idle_75 k24 q10.1 v0 v2 (v3 ||| ((1) <<< (v4 &&& 31))) v4)))))))))
def l_X9_idle_24 : Nat → q_H → Nat → Nat → Int32 → Int32 → Option (q_H × Int32)
  | 0, _, _, _, _, _ => none
  | n + 1, h, v0, v2, v3, v4 => b_X9_idle_24 (l_X9_idle_24 n) h v0 v2 v3 v4
def b_X9_idle_0 (h : q_H) (v0 : Nat) (v1 : Int32) : Option (q_H × Int32) :=
  Option.bind (f_X9_isCopy h v1) (fun q11 => if q11.2 = 0 then some (q11.1, (-1)) else Option.bind (q_gR 8 0 q11.1 v0) (fun x12 => Option.bind (q_gR 7 0 q11.1 x12) (fun x13 => Option.bind (q_lR 4 q11.1 x13 v1) (fun x14 => l_X9_idle_24 q_FU q11.1 v0 x14 (0) (0)))))
def f_X9_idle (h : q_H) (a0 : Nat) (a1 : Int32) : Option (q_H × Int32) := q_chk 8 h a0 (b_X9_idle_0 h a0 a1)
set_option maxRecDepth 20000 in
set_option maxHeartbeats 1000000 in
theorem jb_X9_idle_75 {G : q_G} {l : Launch} {k0 z0 : Nat} (k24 : q_H → Nat → Nat → Int32 → Int32 → Option (q_H × Int32)) (hk24 : ∀ (h : q_H) (v0 : Nat) (v2 : Nat) (v3 : Int32) (v4 : Int32), q_J G l (RX9, cX9_idle, 5, 3, 106, (some .int), "idle", []) k0 z0 (q_Z G k0 z0 q_i) 24 [(0, .ref v0), (2, .ref v2), (3, .int v3), (4, .int v4)] [] h (k24 h v0 v2 v3 v4)) (h : q_H) (v0 : Nat) (v2 : Nat) (v3 : Int32) (v4 : Int32) : q_J G l (RX9, cX9_idle, 5, 3, 106, (some .int), "idle", []) k0 z0 (q_Z G k0 z0 q_i) 75 [(0, .ref v0), (2, .ref v2), (3, .int v3), (4, .int v4)] [] h (b_X9_idle_75 k24 h v0 v2 v3 v4) := by
  unfold b_X9_idle_75
  refine j_inc (pc := 75) (p := 3) (lv' := [(4, .int (v4 + 1)), (0, .ref v0), (2, .ref v2), (3, .int v3)]) rfl ki_1 (by decide) rfl dX9_idle_75 ?_
  refine j_goto (pc := 78) (tgt := 24) dX9_idle_78 (by decide) ?_
  refine j_sub [1, 2, 3, 0] (lv' := [(0, .ref v0), (2, .ref v2), (3, .int v3), (4, .int (v4 + 1))]) rfl ?_
  exact hk24 _ _ _ _ _
set_option maxRecDepth 20000 in
set_option maxHeartbeats 1000000 in
theorem jb_X9_idle_24 {G : q_G} {l : Launch} {k0 z0 : Nat} (k24 : q_H → Nat → Nat → Int32 → Int32 → Option (q_H × Int32)) (hk24 : ∀ (h : q_H) (v0 : Nat) (v2 : Nat) (v3 : Int32) (v4 : Int32), q_J G l (RX9, cX9_idle, 5, 3, 106, (some .int), "idle", []) k0 z0 (q_Z G k0 z0 q_i) 24 [(0, .ref v0), (2, .ref v2), (3, .int v3), (4, .int v4)] [] h (k24 h v0 v2 v3 v4)) (h : q_H) (v0 : Nat) (v2 : Nat) (v3 : Int32) (v4 : Int32) : q_J G l (RX9, cX9_idle, 5, 3, 106, (some .int), "idle", []) k0 z0 (q_Z G k0 z0 q_i) 24 [(0, .ref v0), (2, .ref v2), (3, .int v3), (4, .int v4)] [] h (b_X9_idle_24 k24 h v0 v2 v3 v4) := by
  unfold b_X9_idle_24
  refine j_iload (pc := 24) (p := 3) rfl dX9_idle_24 ?_
  refine j_aload_n (pc := 26) (p := 1) rfl rfl dX9_idle_26 ?_
  refine j_getR (pc := 27) FI_X0 (k := 3) (by decide) fl_X9_120 dX9_idle_27 (fun x1 _ => ?_)
  refine j_getI (pc := 30) FI_X5 (k := 1) (by decide) fl_X9_140 dX9_idle_30 (fun x2 _ => ?_)
  refine j_ic_ge (pc := 33) (tgt := 81) dX9_idle_33 (by decide) (fun _ => ?_) (fun _ => ?_)
  · refine j_aload_n (pc := 81) (p := 0) rfl rfl dX9_idle_81 ?_
    refine j_iload_n (pc := 82) (p := 2) rfl rfl dX9_idle_82 ?_
    refine j_cVi (pc := 83) Y_X9_tellSet (ci := 8) (b := v0) rfl rfl ml_X9_209 im_X9_tellSet se_X9_tellSet ⟨Nat.le_of_ble_eq_true rfl, Nat.le_of_ble_eq_true rfl⟩ dX9_idle_83 (As := [.int v3]) (rest := []) rfl rfl (Nat.le_of_ble_eq_true rfl) (fun x hq9 => c_X9_tellSet _ _ _ _ hq9) (fun q3 _ => ?_)
    exact j_iret (pc := 86) rfl dX9_idle_86
  refine j_aload_n (pc := 36) (p := 0) rfl rfl dX9_idle_36 ?_
  refine j_getR (pc := 37) FI_X9 (k := 6) (by decide) fl_X9_44 dX9_idle_37 (fun x4 _ => ?_)
  refine j_aload_n (pc := 40) (p := 1) rfl rfl dX9_idle_40 ?_
  refine j_getR (pc := 41) FI_X0 (k := 4) (by decide) fl_X9_306 dX9_idle_41 (fun x5 _ => ?_)
  refine j_aload_n (pc := 44) (p := 1) rfl rfl dX9_idle_44 ?_
  refine j_getR (pc := 45) FI_X0 (k := 3) (by decide) fl_X9_120 dX9_idle_45 (fun x6 _ => ?_)
  refine j_iload (pc := 48) (p := 3) rfl dX9_idle_48 ?_
  refine j_cVi (pc := 50) Y_X7_rebuild (ci := 6) (b := x4) rfl rfl ml_X9_309 im_X7_rebuild se_X7_rebuild ⟨Nat.le_of_ble_eq_true rfl, Nat.le_of_ble_eq_true rfl⟩ dX9_idle_50 (As := [.ref x5, .ref x6, .int v4]) (rest := []) rfl rfl (Nat.le_of_ble_eq_true rfl) (fun x hq9 => c_X7_rebuild _ _ _ _ _ _ hq9) (fun q7 _ => ?_)
  refine j_pop (pc := 53) rfl dX9_idle_53 ?_
  refine j_aload_n (pc := 54) (p := 0) rfl rfl dX9_idle_54 ?_
  refine j_getR (pc := 55) FI_X9 (k := 6) (by decide) fl_X9_44 dX9_idle_55 (fun x8 _ => ?_)
  refine j_aload_n (pc := 58) (p := 1) rfl rfl dX9_idle_58 ?_
  refine j_getR (pc := 59) FI_X0 (k := 5) (by decide) fl_X9_86 dX9_idle_59 (fun x9 _ => ?_)
  refine j_cVi (pc := 62) Y_X7_looksAs (ci := 6) (b := x8) rfl rfl ml_X9_313 im_X7_looksAs se_X7_looksAs ⟨Nat.le_of_ble_eq_true rfl, Nat.le_of_ble_eq_true rfl⟩ dX9_idle_62 (As := [.ref x9]) (rest := []) rfl rfl (Nat.le_of_ble_eq_true rfl) (fun x hq9 => c_X7_looksAs _ _ _ _ hq9) (fun q10 _ => ?_)
  refine j_if_eq (pc := 65) (tgt := 75) dX9_idle_65 (by decide) (fun _ => ?_) (fun _ => ?_)
  · exact jb_X9_idle_75 k24 hk24 _ _ _ _ _
  refine j_iload_n (pc := 68) (p := 2) rfl rfl dX9_idle_68 ?_
  refine j_iconst (pc := 69) ki_1 dX9_idle_69 ?_
  refine j_iload (pc := 70) (p := 3) rfl dX9_idle_70 ?_
  refine j_ishl (pc := 72) dX9_idle_72 ?_
  refine j_ior (pc := 73) dX9_idle_73 ?_
  refine j_istore_n (pc := 74) (lv' := [(3, .int (v3 ||| ((1) <<< (v4 &&& 31)))), (0, .ref v0), (2, .ref v2), (4, .int v4)]) rfl (by decide) rfl dX9_idle_74 ?_
  refine j_sub [1, 2, 0, 3] (lv' := [(0, .ref v0), (2, .ref v2), (3, .int (v3 ||| ((1) <<< (v4 &&& 31)))), (4, .int v4)]) rfl ?_
  exact jb_X9_idle_75 k24 hk24 _ _ _ _ _
set_option maxRecDepth 20000 in
set_option maxHeartbeats 1000000 in
theorem jl_X9_idle_24 {G : q_G} {l : Launch} {k0 z0 : Nat} (n : Nat) : ∀ (h : q_H) (v0 : Nat) (v2 : Nat) (v3 : Int32) (v4 : Int32), q_J G l (RX9, cX9_idle, 5, 3, 106, (some .int), "idle", []) k0 z0 (q_Z G k0 z0 q_i) 24 [(0, .ref v0), (2, .ref v2), (3, .int v3), (4, .int v4)] [] h (l_X9_idle_24 n h v0 v2 v3 v4) := by
  induction n with
  | zero => intro h v0 v2 v3 v4; exact j_none
  | succ n ih => intro h v0 v2 v3 v4; exact jb_X9_idle_24 (l_X9_idle_24 n) ih h v0 v2 v3 v4
set_option maxRecDepth 20000 in
set_option maxHeartbeats 1000000 in
theorem jb_X9_idle_0 {G : q_G} {l : Launch} {k0 z0 : Nat} (h : q_H) (v0 : Nat) (v1 : Int32) : q_J G l (RX9, cX9_idle, 5, 3, 106, (some .int), "idle", []) k0 z0 (q_Z G k0 z0 q_i) 0 [(0, .ref v0), (1, .int v1)] [] h (b_X9_idle_0 h v0 v1) := by
  unfold b_X9_idle_0
  refine j_iload_n (pc := 0) (p := 1) rfl rfl dX9_idle_0 ?_
  refine j_cSi (pc := 1) Y_X9_isCopy ml_X9_73 sm_X9_isCopy ⟨Nat.le_of_ble_eq_true rfl, Nat.le_of_ble_eq_true rfl⟩ dX9_idle_1 (As := [.int v1]) (rest := []) rfl rfl (Nat.le_of_ble_eq_true rfl) (fun x hq9 => c_X9_isCopy _ _ _ hq9) (fun q11 _ => ?_)
  refine j_if_ne (pc := 4) (tgt := 9) dX9_idle_4 (by decide) (fun _ => ?_) (fun _ => ?_)
  · refine j_iconst (pc := 7) ki_m1 dX9_idle_7 ?_
    exact j_iret (pc := 8) rfl dX9_idle_8
  refine j_aload_n (pc := 9) (p := 0) rfl rfl dX9_idle_9 ?_
  refine j_getR (pc := 10) FI_X9 (k := 0) (by decide) fl_X9_12 dX9_idle_10 (fun x12 _ => ?_)
  refine j_getR (pc := 13) FI_X8 (k := 0) (by decide) fl_X9_82 dX9_idle_13 (fun x13 _ => ?_)
  refine j_iload_n (pc := 16) (p := 1) rfl rfl dX9_idle_16 ?_
  refine j_aald (pc := 17) (t := 4) rfl dX9_idle_17 (fun x14 _ => ?_)
  refine j_astore_n (pc := 18) (lv' := [(2, .ref x14), (0, .ref v0), (1, .int v1)]) rfl (by decide) rfl dX9_idle_18 ?_
  refine j_iconst (pc := 19) ki_0 dX9_idle_19 ?_
  refine j_istore_n (pc := 20) (lv' := [(3, .int (0)), (2, .ref x14), (0, .ref v0), (1, .int v1)]) rfl (by decide) rfl dX9_idle_20 ?_
  refine j_iconst (pc := 21) ki_0 dX9_idle_21 ?_
  refine j_istore (pc := 22) (lv' := [(4, .int (0)), (3, .int (0)), (2, .ref x14), (0, .ref v0), (1, .int v1)]) (by decide) rfl dX9_idle_22 ?_
  refine j_sub [3, 2, 1, 0] (lv' := [(0, .ref v0), (2, .ref x14), (3, .int (0)), (4, .int (0))]) rfl ?_
  exact jl_X9_idle_24 q_FU _ _ _ _ _
set_option maxRecDepth 20000 in
set_option maxHeartbeats 1000000 in
theorem c_X9_idle {G : q_G} {l : Launch} : ∀ (h : q_H) (a0 : Nat) (a1 : Int32) (q : q_H × Int32), f_X9_idle h a0 a1 = some q → (∃ fs, h.1 a0 = .inr (8, fs)) ∧ q_CT G l yX9_idle cX9_idle 5 (some .int) 3 106 [.ref a0, .int a1] h q.1 (q_i q.2) := by
  intro h a0 a1 q e
  obtain ⟨e1, e2⟩ := q_chk_ok e
  exact ⟨e1, q_ofJ Y_X9_idle (Nat.le_of_ble_eq_true rfl) (jb_X9_idle_0 h a0 a1) q e2⟩
/-! FarFolders.<init>()V -/
theorem dX9_init_0 : decode cX9_init 0 = .ok (.aload_n 0, 1) := by decide +kernel
theorem dX9_init_1 : decode cX9_init 1 = .ok (.invokespecial 3, 3) := by decide +kernel
theorem dX9_init_4 : decode cX9_init 4 = .ok (.aload_n 0, 1) := by decide +kernel
theorem dX9_init_5 : decode cX9_init 5 = .ok (.new 9, 3) := by decide +kernel
theorem dX9_init_8 : decode cX9_init 8 = .ok (.dup, 1) := by decide +kernel
theorem dX9_init_9 : decode cX9_init 9 = .ok (.invokespecial 11, 3) := by decide +kernel
theorem dX9_init_12 : decode cX9_init 12 = .ok (.putfield 12, 3) := by decide +kernel
theorem dX9_init_15 : decode cX9_init 15 = .ok (.aload_n 0, 1) := by decide +kernel
theorem dX9_init_16 : decode cX9_init 16 = .ok (.new 9, 3) := by decide +kernel
theorem dX9_init_19 : decode cX9_init 19 = .ok (.dup, 1) := by decide +kernel
theorem dX9_init_20 : decode cX9_init 20 = .ok (.invokespecial 11, 3) := by decide +kernel
theorem dX9_init_23 : decode cX9_init 23 = .ok (.putfield 16, 3) := by decide +kernel
theorem dX9_init_26 : decode cX9_init 26 = .ok (.aload_n 0, 1) := by decide +kernel
theorem dX9_init_27 : decode cX9_init 27 = .ok (.iconst 2, 1) := by decide +kernel
theorem dX9_init_28 : decode cX9_init 28 = .ok (.anewarray 9, 3) := by decide +kernel
theorem dX9_init_31 : decode cX9_init 31 = .ok (.putfield 19, 3) := by decide +kernel
theorem dX9_init_34 : decode cX9_init 34 = .ok (.aload_n 0, 1) := by decide +kernel
theorem dX9_init_35 : decode cX9_init 35 = .ok (.iconst 2, 1) := by decide +kernel
theorem dX9_init_36 : decode cX9_init 36 = .ok (.newarray .boolean, 2) := by decide +kernel
theorem dX9_init_38 : decode cX9_init 38 = .ok (.putfield 23, 3) := by decide +kernel
theorem dX9_init_41 : decode cX9_init 41 = .ok (.aload_n 0, 1) := by decide +kernel
theorem dX9_init_42 : decode cX9_init 42 = .ok (.new 27, 3) := by decide +kernel
theorem dX9_init_45 : decode cX9_init 45 = .ok (.dup, 1) := by decide +kernel
theorem dX9_init_46 : decode cX9_init 46 = .ok (.invokespecial 29, 3) := by decide +kernel
theorem dX9_init_49 : decode cX9_init 49 = .ok (.putfield 30, 3) := by decide +kernel
theorem dX9_init_52 : decode cX9_init 52 = .ok (.aload_n 0, 1) := by decide +kernel
theorem dX9_init_53 : decode cX9_init 53 = .ok (.new 34, 3) := by decide +kernel
theorem dX9_init_56 : decode cX9_init 56 = .ok (.dup, 1) := by decide +kernel
theorem dX9_init_57 : decode cX9_init 57 = .ok (.invokespecial 36, 3) := by decide +kernel
theorem dX9_init_60 : decode cX9_init 60 = .ok (.putfield 37, 3) := by decide +kernel
theorem dX9_init_63 : decode cX9_init 63 = .ok (.aload_n 0, 1) := by decide +kernel
theorem dX9_init_64 : decode cX9_init 64 = .ok (.new 41, 3) := by decide +kernel
theorem dX9_init_67 : decode cX9_init 67 = .ok (.dup, 1) := by decide +kernel
theorem dX9_init_68 : decode cX9_init 68 = .ok (.invokespecial 43, 3) := by decide +kernel
theorem dX9_init_71 : decode cX9_init 71 = .ok (.putfield 44, 3) := by decide +kernel
theorem dX9_init_74 : decode cX9_init 74 = .ok (.aload_n 0, 1) := by decide +kernel
theorem dX9_init_75 : decode cX9_init 75 = .ok (.new 48, 3) := by decide +kernel
theorem dX9_init_78 : decode cX9_init 78 = .ok (.dup, 1) := by decide +kernel
theorem dX9_init_79 : decode cX9_init 79 = .ok (.invokespecial 50, 3) := by decide +kernel
theorem dX9_init_82 : decode cX9_init 82 = .ok (.putfield 51, 3) := by decide +kernel
theorem dX9_init_85 : decode cX9_init 85 = .ok (.aload_n 0, 1) := by decide +kernel
theorem dX9_init_86 : decode cX9_init 86 = .ok (.new 55, 3) := by decide +kernel
theorem dX9_init_89 : decode cX9_init 89 = .ok (.dup, 1) := by decide +kernel
theorem dX9_init_90 : decode cX9_init 90 = .ok (.invokespecial 57, 3) := by decide +kernel
theorem dX9_init_93 : decode cX9_init 93 = .ok (.putfield 58, 3) := by decide +kernel
theorem dX9_init_96 : decode cX9_init 96 = .ok (.iconst 0, 1) := by decide +kernel
theorem dX9_init_97 : decode cX9_init 97 = .ok (.istore_n 1, 1) := by decide +kernel
theorem dX9_init_98 : decode cX9_init 98 = .ok (.iload_n 1, 1) := by decide +kernel
theorem dX9_init_99 : decode cX9_init 99 = .ok (.iconst 2, 1) := by decide +kernel
theorem dX9_init_100 : decode cX9_init 100 = .ok (.if_icmp .ge 22, 3) := by decide +kernel
theorem dX9_init_103 : decode cX9_init 103 = .ok (.aload_n 0, 1) := by decide +kernel
theorem dX9_init_104 : decode cX9_init 104 = .ok (.getfield 19, 3) := by decide +kernel
theorem dX9_init_107 : decode cX9_init 107 = .ok (.iload_n 1, 1) := by decide +kernel
theorem dX9_init_108 : decode cX9_init 108 = .ok (.new 9, 3) := by decide +kernel
theorem dX9_init_111 : decode cX9_init 111 = .ok (.dup, 1) := by decide +kernel
theorem dX9_init_112 : decode cX9_init 112 = .ok (.invokespecial 11, 3) := by decide +kernel
theorem dX9_init_115 : decode cX9_init 115 = .ok (.aastore, 1) := by decide +kernel
theorem dX9_init_116 : decode cX9_init 116 = .ok (.iinc 1 1, 3) := by decide +kernel
theorem dX9_init_119 : decode cX9_init 119 = .ok (.goto (-21), 3) := by decide +kernel
theorem dX9_init_122 : decode cX9_init 122 = .ok (.return_, 1) := by decide +kernel
def b_X9_init_98 (k98 : q_H → Nat → Int32 → Option (q_H × Unit)) (h : q_H) (v0 : Nat) (v1 : Int32) : Option (q_H × Unit) :=
  if (2) ≤ v1 then some (h, ()) else Option.bind (q_gR 8 2 h v0) (fun x1 => Option.bind (q_new 7 [.null, .null] h) (fun q2 => Option.bind (f_X8_init q2.1 q2.2) (fun q3 => Option.bind (q_sR 7 7 q3.1 x1 v1 q2.2) (fun h4 => k98 h4 v0 (v1 + 1)))))
def l_X9_init_98 : Nat → q_H → Nat → Int32 → Option (q_H × Unit)
  | 0, _, _, _ => none
  | n + 1, h, v0, v1 => b_X9_init_98 (l_X9_init_98 n) h v0 v1
def b_X9_init_0 (h : q_H) (v0 : Nat) : Option (q_H × Unit) :=
  Option.bind (q_new 7 [.null, .null] h) (fun q5 => Option.bind (f_X8_init q5.1 q5.2) (fun q6 => Option.bind (q_p 8 0 q6.1 v0 (.ref q5.2)) (fun h7 => Option.bind (q_new 7 [.null, .null] h7) (fun q8 => Option.bind (f_X8_init q8.1 q8.2) (fun q9 => Option.bind (q_p 8 1 q9.1 v0 (.ref q8.2)) (fun h10 => Option.bind (q_nR 7 h10 (2)) (fun q11 => Option.bind (q_p 8 2 q11.1 v0 (.ref q11.2)) (fun h12 => Option.bind (q_nI 2 h12 (2)) (fun q13 => Option.bind (q_p 8 3 q13.1 v0 (.ref q13.2)) (fun h14 => Option.bind (q_new 3 [.null, .int 0] h14) (fun q15 => Option.bind (f_X4_init q15.1 q15.2) (fun q16 => Option.bind (q_p 8 4 q16.1 v0 (.ref q15.2)) (fun h17 => Option.bind (q_new 5 [.null, .int 0] h17) (fun q18 => Option.bind (f_X6_init q18.1 q18.2) (fun q19 => Option.bind (q_p 8 5 q19.1 v0 (.ref q18.2)) (fun h20 => Option.bind (q_new 6 [.null] h20) (fun q21 => Option.bind (f_X7_init q21.1 q21.2) (fun q22 => Option.bind (q_p 8 6 q22.1 v0 (.ref q21.2)) (fun h23 => Option.bind (q_new 2 [.null, .null] h23) (fun q24 => Option.bind (f_X3_init q24.1 q24.2) (fun q25 => Option.bind (q_p 8 7 q25.1 v0 (.ref q24.2)) (fun h26 => Option.bind (q_new 1 [.null, .null, .null, .int 0] h26) (fun q27 => Option.bind (f_X2_init q27.1 q27.2) (fun q28 => Option.bind (q_p 8 8 q28.1 v0 (.ref q27.2)) (fun h29 => l_X9_init_98 q_FU h29 v0 (0))))))))))))))))))))))))))
def f_X9_init (h : q_H) (a0 : Nat) : Option (q_H × Unit) := b_X9_init_0 h a0
set_option maxRecDepth 20000 in
set_option maxHeartbeats 1000000 in
theorem jb_X9_init_98 {G : q_G} {l : Launch} {k0 z0 : Nat} (hx : G.2.2.2.2.2.2.2 = true) (k98 : q_H → Nat → Int32 → Option (q_H × Unit)) (hk98 : ∀ (h : q_H) (v0 : Nat) (v1 : Int32), q_J G l (RX9, cX9_init, 2, 4, 123, none, "<init>", []) k0 z0 (q_Z G k0 z0 q_u) 98 [(0, .ref v0), (1, .int v1)] [] h (k98 h v0 v1)) (h : q_H) (v0 : Nat) (v1 : Int32) : q_J G l (RX9, cX9_init, 2, 4, 123, none, "<init>", []) k0 z0 (q_Z G k0 z0 q_u) 98 [(0, .ref v0), (1, .int v1)] [] h (b_X9_init_98 k98 h v0 v1) := by
  unfold b_X9_init_98
  refine j_iload_n (pc := 98) (p := 1) rfl rfl dX9_init_98 ?_
  refine j_iconst (pc := 99) ki_2 dX9_init_99 ?_
  refine j_ic_ge (pc := 100) (tgt := 122) dX9_init_100 (by decide) (fun _ => ?_) (fun _ => ?_)
  · exact j_vret (pc := 122) rfl dX9_init_122
  refine j_aload_n (pc := 103) (p := 0) rfl rfl dX9_init_103 ?_
  refine j_getR (pc := 104) FI_X9 (k := 2) (by decide) fl_X9_19 dX9_init_104 (fun x1 _ => ?_)
  refine j_iload_n (pc := 107) (p := 1) rfl rfl dX9_init_107 ?_
  refine j_new (pc := 108) hx FI_X8 cl_X9_9 ins_X8 ini_X8 rfl (nf_X8 G) dX9_init_108 (fun q2 _ => ?_)
  refine j_dup (pc := 111) rfl dX9_init_111 ?_
  refine j_cIu (pc := 112) Y_X8_init (b := q2.2) rfl ml_X9_11 im_X8_init ⟨Nat.le_of_ble_eq_true rfl, Nat.le_of_ble_eq_true rfl⟩ dX9_init_112 (As := []) (rest := [.ref q2.2, .int v1, .ref x1]) rfl rfl (Nat.le_of_ble_eq_true rfl) (fun x hq9 => (c_X8_init hx) _ _ _ hq9) (fun q3 _ => ?_)
  refine j_aast (pc := 115) (t := 7) (ci := 7) rfl rfl dX9_init_115 (fun h4 _ => ?_)
  refine j_inc (pc := 116) (p := 1) (lv' := [(1, .int (v1 + 1)), (0, .ref v0)]) rfl ki_1 (by decide) rfl dX9_init_116 ?_
  refine j_goto (pc := 119) (tgt := 98) dX9_init_119 (by decide) ?_
  refine j_sub [1, 0] (lv' := [(0, .ref v0), (1, .int (v1 + 1))]) rfl ?_
  exact hk98 _ _ _
set_option maxRecDepth 20000 in
set_option maxHeartbeats 1000000 in
theorem jl_X9_init_98 {G : q_G} {l : Launch} {k0 z0 : Nat} (hx : G.2.2.2.2.2.2.2 = true) (n : Nat) : ∀ (h : q_H) (v0 : Nat) (v1 : Int32), q_J G l (RX9, cX9_init, 2, 4, 123, none, "<init>", []) k0 z0 (q_Z G k0 z0 q_u) 98 [(0, .ref v0), (1, .int v1)] [] h (l_X9_init_98 n h v0 v1) := by
  induction n with
  | zero => intro h v0 v1; exact j_none
  | succ n ih => intro h v0 v1; exact jb_X9_init_98 hx (l_X9_init_98 n) ih h v0 v1
set_option maxRecDepth 20000 in
set_option maxHeartbeats 1000000 in
theorem jb_X9_init_0 {G : q_G} {l : Launch} {k0 z0 : Nat} (hx : G.2.2.2.2.2.2.2 = true) (h : q_H) (v0 : Nat) : q_J G l (RX9, cX9_init, 2, 4, 123, none, "<init>", []) k0 z0 (q_Z G k0 z0 q_u) 0 [(0, .ref v0)] [] h (b_X9_init_0 h v0) := by
  unfold b_X9_init_0
  refine j_aload_n (pc := 0) (p := 0) rfl rfl dX9_init_0 ?_
  refine j_oinit (pc := 1) ml_X9_3 im_Oinit co_Oinit ⟨Nat.le_of_ble_eq_true rfl, Nat.le_of_ble_eq_true rfl⟩ dX9_init_1 ?_
  refine j_aload_n (pc := 4) (p := 0) rfl rfl dX9_init_4 ?_
  refine j_new (pc := 5) hx FI_X8 cl_X9_9 ins_X8 ini_X8 rfl (nf_X8 G) dX9_init_5 (fun q5 _ => ?_)
  refine j_dup (pc := 8) rfl dX9_init_8 ?_
  refine j_cIu (pc := 9) Y_X8_init (b := q5.2) rfl ml_X9_11 im_X8_init ⟨Nat.le_of_ble_eq_true rfl, Nat.le_of_ble_eq_true rfl⟩ dX9_init_9 (As := []) (rest := [.ref q5.2, .ref v0]) rfl rfl (Nat.le_of_ble_eq_true rfl) (fun x hq9 => (c_X8_init hx) _ _ _ hq9) (fun q6 _ => ?_)
  refine j_putF (pc := 12) FI_X9 (k := 0) (by decide) fl_X9_12 rfl rfl rfl rfl rfl dX9_init_12 (fun h7 _ => ?_)
  refine j_aload_n (pc := 15) (p := 0) rfl rfl dX9_init_15 ?_
  refine j_new (pc := 16) hx FI_X8 cl_X9_9 ins_X8 ini_X8 rfl (nf_X8 G) dX9_init_16 (fun q8 _ => ?_)
  refine j_dup (pc := 19) rfl dX9_init_19 ?_
  refine j_cIu (pc := 20) Y_X8_init (b := q8.2) rfl ml_X9_11 im_X8_init ⟨Nat.le_of_ble_eq_true rfl, Nat.le_of_ble_eq_true rfl⟩ dX9_init_20 (As := []) (rest := [.ref q8.2, .ref v0]) rfl rfl (Nat.le_of_ble_eq_true rfl) (fun x hq9 => (c_X8_init hx) _ _ _ hq9) (fun q9 _ => ?_)
  refine j_putF (pc := 23) FI_X9 (k := 1) (by decide) fl_X9_16 rfl rfl rfl rfl rfl dX9_init_23 (fun h10 _ => ?_)
  refine j_aload_n (pc := 26) (p := 0) rfl rfl dX9_init_26 ?_
  refine j_iconst (pc := 27) ki_2 dX9_init_27 ?_
  refine j_newr (pc := 28) (t := 7) hx rfl cl_X9_9 (fun _ U => U.2.2.1.2.2.2) dX9_init_28 (fun q11 _ => ?_)
  refine j_putF (pc := 31) FI_X9 (k := 2) (by decide) fl_X9_19 rfl rfl rfl rfl rfl dX9_init_31 (fun h12 _ => ?_)
  refine j_aload_n (pc := 34) (p := 0) rfl rfl dX9_init_34 ?_
  refine j_iconst (pc := 35) ki_2 dX9_init_35 ?_
  refine j_newz (pc := 36) hx ac_boolean dX9_init_36 (fun q13 _ => ?_)
  refine j_putF (pc := 38) FI_X9 (k := 3) (by decide) fl_X9_23 rfl rfl rfl rfl rfl dX9_init_38 (fun h14 _ => ?_)
  refine j_aload_n (pc := 41) (p := 0) rfl rfl dX9_init_41 ?_
  refine j_new (pc := 42) hx FI_X4 cl_X9_27 ins_X4 ini_X4 rfl (nf_X4 G) dX9_init_42 (fun q15 _ => ?_)
  refine j_dup (pc := 45) rfl dX9_init_45 ?_
  refine j_cINu (pc := 46) Y_X4_init (b := q15.2) rfl mn_X9_29 im_X4_init ⟨Nat.le_of_ble_eq_true rfl, Nat.le_of_ble_eq_true rfl⟩ dX9_init_46 (As := []) (rest := [.ref q15.2, .ref v0]) rfl rfl (Nat.le_of_ble_eq_true rfl) (fun x hq9 => (c_X4_init hx) _ _ _ hq9) (fun q16 _ => ?_)
  refine j_putF (pc := 49) FI_X9 (k := 4) (by decide) fl_X9_30 rfl rfl rfl rfl rfl dX9_init_49 (fun h17 _ => ?_)
  refine j_aload_n (pc := 52) (p := 0) rfl rfl dX9_init_52 ?_
  refine j_new (pc := 53) hx FI_X6 cl_X9_34 ins_X6 ini_X6 rfl (nf_X6 G) dX9_init_53 (fun q18 _ => ?_)
  refine j_dup (pc := 56) rfl dX9_init_56 ?_
  refine j_cINu (pc := 57) Y_X6_init (b := q18.2) rfl mn_X9_36 im_X6_init ⟨Nat.le_of_ble_eq_true rfl, Nat.le_of_ble_eq_true rfl⟩ dX9_init_57 (As := []) (rest := [.ref q18.2, .ref v0]) rfl rfl (Nat.le_of_ble_eq_true rfl) (fun x hq9 => (c_X6_init hx) _ _ _ hq9) (fun q19 _ => ?_)
  refine j_putF (pc := 60) FI_X9 (k := 5) (by decide) fl_X9_37 rfl rfl rfl rfl rfl dX9_init_60 (fun h20 _ => ?_)
  refine j_aload_n (pc := 63) (p := 0) rfl rfl dX9_init_63 ?_
  refine j_new (pc := 64) hx FI_X7 cl_X9_41 ins_X7 ini_X7 rfl (nf_X7 G) dX9_init_64 (fun q21 _ => ?_)
  refine j_dup (pc := 67) rfl dX9_init_67 ?_
  refine j_cINu (pc := 68) Y_X7_init (b := q21.2) rfl mn_X9_43 im_X7_init ⟨Nat.le_of_ble_eq_true rfl, Nat.le_of_ble_eq_true rfl⟩ dX9_init_68 (As := []) (rest := [.ref q21.2, .ref v0]) rfl rfl (Nat.le_of_ble_eq_true rfl) (fun x hq9 => (c_X7_init hx) _ _ _ hq9) (fun q22 _ => ?_)
  refine j_putF (pc := 71) FI_X9 (k := 6) (by decide) fl_X9_44 rfl rfl rfl rfl rfl dX9_init_71 (fun h23 _ => ?_)
  refine j_aload_n (pc := 74) (p := 0) rfl rfl dX9_init_74 ?_
  refine j_new (pc := 75) hx FI_X3 cl_X9_48 ins_X3 ini_X3 rfl (nf_X3 G) dX9_init_75 (fun q24 _ => ?_)
  refine j_dup (pc := 78) rfl dX9_init_78 ?_
  refine j_cINu (pc := 79) Y_X3_init (b := q24.2) rfl mn_X9_50 im_X3_init ⟨Nat.le_of_ble_eq_true rfl, Nat.le_of_ble_eq_true rfl⟩ dX9_init_79 (As := []) (rest := [.ref q24.2, .ref v0]) rfl rfl (Nat.le_of_ble_eq_true rfl) (fun x hq9 => (c_X3_init hx) _ _ _ hq9) (fun q25 _ => ?_)
  refine j_putF (pc := 82) FI_X9 (k := 7) (by decide) fl_X9_51 rfl rfl rfl rfl rfl dX9_init_82 (fun h26 _ => ?_)
  refine j_aload_n (pc := 85) (p := 0) rfl rfl dX9_init_85 ?_
  refine j_new (pc := 86) hx FI_X2 cl_X9_55 ins_X2 ini_X2 rfl (nf_X2 G) dX9_init_86 (fun q27 _ => ?_)
  refine j_dup (pc := 89) rfl dX9_init_89 ?_
  refine j_cIu (pc := 90) Y_X2_init (b := q27.2) rfl ml_X9_57 im_X2_init ⟨Nat.le_of_ble_eq_true rfl, Nat.le_of_ble_eq_true rfl⟩ dX9_init_90 (As := []) (rest := [.ref q27.2, .ref v0]) rfl rfl (Nat.le_of_ble_eq_true rfl) (fun x hq9 => (c_X2_init hx) _ _ _ hq9) (fun q28 _ => ?_)
  refine j_putF (pc := 93) FI_X9 (k := 8) (by decide) fl_X9_58 rfl rfl rfl rfl rfl dX9_init_93 (fun h29 _ => ?_)
  refine j_iconst (pc := 96) ki_0 dX9_init_96 ?_
  refine j_istore_n (pc := 97) (lv' := [(1, .int (0)), (0, .ref v0)]) rfl (by decide) rfl dX9_init_97 ?_
  refine j_sub [1, 0] (lv' := [(0, .ref v0), (1, .int (0))]) rfl ?_
  exact jl_X9_init_98 hx q_FU _ _ _
set_option maxRecDepth 20000 in
set_option maxHeartbeats 1000000 in
theorem c_X9_init {G : q_G} {l : Launch} (hx : G.2.2.2.2.2.2.2 = true) : ∀ (h : q_H) (a0 : Nat) (q : q_H × Unit), f_X9_init h a0 = some q → q_CT G l yX9_init cX9_init 2 none 4 123 [.ref a0] h q.1 (q_u q.2) := by
  intro h a0 q e
  exact q_ofJ Y_X9_init (Nat.le_of_ble_eq_true rfl) (jb_X9_init_0 hx h a0) q e
/-! FarFolders.keep(I)Z -/
theorem dX9_keep_0 : decode cX9_keep 0 = .ok (.iload_n 1, 1) := by decide +kernel
theorem dX9_keep_1 : decode cX9_keep 1 = .ok (.ifCond .lt 8, 3) := by decide +kernel
theorem dX9_keep_4 : decode cX9_keep 4 = .ok (.iload_n 1, 1) := by decide +kernel
theorem dX9_keep_5 : decode cX9_keep 5 = .ok (.iconst 2, 1) := by decide +kernel
theorem dX9_keep_6 : decode cX9_keep 6 = .ok (.if_icmp .lt 5, 3) := by decide +kernel
theorem dX9_keep_9 : decode cX9_keep 9 = .ok (.iconst 0, 1) := by decide +kernel
theorem dX9_keep_10 : decode cX9_keep 10 = .ok (.ireturn, 1) := by decide +kernel
theorem dX9_keep_11 : decode cX9_keep 11 = .ok (.aload_n 0, 1) := by decide +kernel
theorem dX9_keep_12 : decode cX9_keep 12 = .ok (.getfield 19, 3) := by decide +kernel
theorem dX9_keep_15 : decode cX9_keep 15 = .ok (.iload_n 1, 1) := by decide +kernel
theorem dX9_keep_16 : decode cX9_keep 16 = .ok (.aaload, 1) := by decide +kernel
theorem dX9_keep_17 : decode cX9_keep 17 = .ok (.aload_n 0, 1) := by decide +kernel
theorem dX9_keep_18 : decode cX9_keep 18 = .ok (.getfield 12, 3) := by decide +kernel
theorem dX9_keep_21 : decode cX9_keep 21 = .ok (.invokevirtual 271, 3) := by decide +kernel
theorem dX9_keep_24 : decode cX9_keep 24 = .ok (.aload_n 0, 1) := by decide +kernel
theorem dX9_keep_25 : decode cX9_keep 25 = .ok (.getfield 23, 3) := by decide +kernel
theorem dX9_keep_28 : decode cX9_keep 28 = .ok (.iload_n 1, 1) := by decide +kernel
theorem dX9_keep_29 : decode cX9_keep 29 = .ok (.iconst 1, 1) := by decide +kernel
theorem dX9_keep_30 : decode cX9_keep 30 = .ok (.bastore, 1) := by decide +kernel
theorem dX9_keep_31 : decode cX9_keep 31 = .ok (.iconst 1, 1) := by decide +kernel
theorem dX9_keep_32 : decode cX9_keep 32 = .ok (.ireturn, 1) := by decide +kernel
def b_X9_keep_0 (h : q_H) (v0 : Nat) (v1 : Int32) : Option (q_H × Int32) :=
  if v1 < 0 then some (h, (0)) else if v1 < (2) then Option.bind (q_gR 8 2 h v0) (fun x1 => Option.bind (q_lR 7 h x1 v1) (fun x2 => Option.bind (q_gR 8 0 h v0) (fun x3 => Option.bind (f_X8_copyFrom h x2 x3) (fun q4 => Option.bind (q_gR 8 3 q4.1 v0) (fun x5 => Option.bind (q_sI 2 (vp_nar .boolean) q4.1 x5 v1 (1)) (fun h6 => some (h6, (1)))))))) else some (h, (0))
def f_X9_keep (h : q_H) (a0 : Nat) (a1 : Int32) : Option (q_H × Int32) := q_chk 8 h a0 (b_X9_keep_0 h a0 a1)
set_option maxRecDepth 20000 in
set_option maxHeartbeats 1000000 in
theorem jb_X9_keep_0 {G : q_G} {l : Launch} {k0 z0 : Nat} (h : q_H) (v0 : Nat) (v1 : Int32) : q_J G l (RX9, cX9_keep, 2, 4, 124, (some .boolean), "keep", []) k0 z0 (q_Z G k0 z0 q_i) 0 [(0, .ref v0), (1, .int v1)] [] h (b_X9_keep_0 h v0 v1) := by
  unfold b_X9_keep_0
  refine j_iload_n (pc := 0) (p := 1) rfl rfl dX9_keep_0 ?_
  refine j_if_lt (pc := 1) (tgt := 9) dX9_keep_1 (by decide) (fun _ => ?_) (fun _ => ?_)
  · refine j_iconst (pc := 9) ki_0 dX9_keep_9 ?_
    exact j_zret (pc := 10) rfl rfl dX9_keep_10
  refine j_iload_n (pc := 4) (p := 1) rfl rfl dX9_keep_4 ?_
  refine j_iconst (pc := 5) ki_2 dX9_keep_5 ?_
  refine j_ic_lt (pc := 6) (tgt := 11) dX9_keep_6 (by decide) (fun _ => ?_) (fun _ => ?_)
  · refine j_aload_n (pc := 11) (p := 0) rfl rfl dX9_keep_11 ?_
    refine j_getR (pc := 12) FI_X9 (k := 2) (by decide) fl_X9_19 dX9_keep_12 (fun x1 _ => ?_)
    refine j_iload_n (pc := 15) (p := 1) rfl rfl dX9_keep_15 ?_
    refine j_aald (pc := 16) (t := 7) rfl dX9_keep_16 (fun x2 _ => ?_)
    refine j_aload_n (pc := 17) (p := 0) rfl rfl dX9_keep_17 ?_
    refine j_getR (pc := 18) FI_X9 (k := 0) (by decide) fl_X9_12 dX9_keep_18 (fun x3 _ => ?_)
    refine j_cVu (pc := 21) Y_X8_copyFrom (ci := 7) (b := x2) rfl rfl ml_X9_271 im_X8_copyFrom se_X8_copyFrom ⟨Nat.le_of_ble_eq_true rfl, Nat.le_of_ble_eq_true rfl⟩ dX9_keep_21 (As := [.ref x3]) (rest := []) rfl rfl (Nat.le_of_ble_eq_true rfl) (fun x hq9 => c_X8_copyFrom _ _ _ _ hq9) (fun q4 _ => ?_)
    refine j_aload_n (pc := 24) (p := 0) rfl rfl dX9_keep_24 ?_
    refine j_getR (pc := 25) FI_X9 (k := 3) (by decide) fl_X9_23 dX9_keep_25 (fun x5 _ => ?_)
    refine j_iload_n (pc := 28) (p := 1) rfl rfl dX9_keep_28 ?_
    refine j_iconst (pc := 29) ki_1 dX9_keep_29 ?_
    refine j_zast (pc := 30) dX9_keep_30 (fun h6 _ => ?_)
    refine j_iconst (pc := 31) ki_1 dX9_keep_31 ?_
    exact j_zret (pc := 32) rfl rfl dX9_keep_32
  refine j_iconst (pc := 9) ki_0 dX9_keep_9 ?_
  exact j_zret (pc := 10) rfl rfl dX9_keep_10
set_option maxRecDepth 20000 in
set_option maxHeartbeats 1000000 in
theorem c_X9_keep {G : q_G} {l : Launch} : ∀ (h : q_H) (a0 : Nat) (a1 : Int32) (q : q_H × Int32), f_X9_keep h a0 a1 = some q → (∃ fs, h.1 a0 = .inr (8, fs)) ∧ q_CT G l yX9_keep cX9_keep 2 (some .boolean) 4 124 [.ref a0, .int a1] h q.1 (q_i q.2) := by
  intro h a0 a1 q e
  obtain ⟨e1, e2⟩ := q_chk_ok e
  exact ⟨e1, q_ofJ Y_X9_keep (Nat.le_of_ble_eq_true rfl) (jb_X9_keep_0 h a0 a1) q e2⟩
/-! FarFolders.late(II)I -/
theorem dX9_late_0 : decode cX9_late 0 = .ok (.iload_n 1, 1) := by decide +kernel
theorem dX9_late_1 : decode cX9_late 1 = .ok (.iload_n 2, 1) := by decide +kernel
theorem dX9_late_2 : decode cX9_late 2 = .ok (.invokestatic 148, 3) := by decide +kernel
theorem dX9_late_5 : decode cX9_late 5 = .ok (.ifCond .ne 5, 3) := by decide +kernel
theorem dX9_late_8 : decode cX9_late 8 = .ok (.iconst (-1), 1) := by decide +kernel
theorem dX9_late_9 : decode cX9_late 9 = .ok (.ireturn, 1) := by decide +kernel
theorem dX9_late_10 : decode cX9_late 10 = .ok (.aload_n 0, 1) := by decide +kernel
theorem dX9_late_11 : decode cX9_late 11 = .ok (.getfield 12, 3) := by decide +kernel
theorem dX9_late_14 : decode cX9_late 14 = .ok (.iload_n 1, 1) := by decide +kernel
theorem dX9_late_15 : decode cX9_late 15 = .ok (.iload_n 2, 1) := by decide +kernel
theorem dX9_late_16 : decode cX9_late 16 = .ok (.invokevirtual 196, 3) := by decide +kernel
theorem dX9_late_19 : decode cX9_late 19 = .ok (.getfield 140, 3) := by decide +kernel
theorem dX9_late_22 : decode cX9_late 22 = .ok (.ifCond .ne 6, 3) := by decide +kernel
theorem dX9_late_25 : decode cX9_late 25 = .ok (.bipush (-2), 2) := by decide +kernel
theorem dX9_late_27 : decode cX9_late 27 = .ok (.ireturn, 1) := by decide +kernel
theorem dX9_late_28 : decode cX9_late 28 = .ok (.aload_n 0, 1) := by decide +kernel
theorem dX9_late_29 : decode cX9_late 29 = .ok (.getfield 16, 3) := by decide +kernel
theorem dX9_late_32 : decode cX9_late 32 = .ok (.aload_n 0, 1) := by decide +kernel
theorem dX9_late_33 : decode cX9_late 33 = .ok (.getfield 12, 3) := by decide +kernel
theorem dX9_late_36 : decode cX9_late 36 = .ok (.invokevirtual 271, 3) := by decide +kernel
theorem dX9_late_39 : decode cX9_late 39 = .ok (.aload_n 0, 1) := by decide +kernel
theorem dX9_late_40 : decode cX9_late 40 = .ok (.getfield 16, 3) := by decide +kernel
theorem dX9_late_43 : decode cX9_late 43 = .ok (.iload_n 1, 1) := by decide +kernel
theorem dX9_late_44 : decode cX9_late 44 = .ok (.iload_n 2, 1) := by decide +kernel
theorem dX9_late_45 : decode cX9_late 45 = .ok (.invokevirtual 274, 3) := by decide +kernel
theorem dX9_late_48 : decode cX9_late 48 = .ok (.istore_n 3, 1) := by decide +kernel
theorem dX9_late_49 : decode cX9_late 49 = .ok (.aload_n 0, 1) := by decide +kernel
theorem dX9_late_50 : decode cX9_late 50 = .ok (.getfield 30, 3) := by decide +kernel
theorem dX9_late_53 : decode cX9_late 53 = .ok (.aload_n 0, 1) := by decide +kernel
theorem dX9_late_54 : decode cX9_late 54 = .ok (.getfield 12, 3) := by decide +kernel
theorem dX9_late_57 : decode cX9_late 57 = .ok (.getfield 82, 3) := by decide +kernel
theorem dX9_late_60 : decode cX9_late 60 = .ok (.iload_n 2, 1) := by decide +kernel
theorem dX9_late_61 : decode cX9_late 61 = .ok (.aaload, 1) := by decide +kernel
theorem dX9_late_62 : decode cX9_late 62 = .ok (.getfield 86, 3) := by decide +kernel
theorem dX9_late_65 : decode cX9_late 65 = .ok (.aload_n 0, 1) := by decide +kernel
theorem dX9_late_66 : decode cX9_late 66 = .ok (.getfield 16, 3) := by decide +kernel
theorem dX9_late_69 : decode cX9_late 69 = .ok (.getfield 82, 3) := by decide +kernel
theorem dX9_late_72 : decode cX9_late 72 = .ok (.iload_n 2, 1) := by decide +kernel
theorem dX9_late_73 : decode cX9_late 73 = .ok (.aaload, 1) := by decide +kernel
theorem dX9_late_74 : decode cX9_late 74 = .ok (.getfield 86, 3) := by decide +kernel
theorem dX9_late_77 : decode cX9_late 77 = .ok (.invokevirtual 160, 3) := by decide +kernel
theorem dX9_late_80 : decode cX9_late 80 = .ok (.i2l, 1) := by decide +kernel
theorem dX9_late_81 : decode cX9_late 81 = .ok (.invokevirtual 141, 3) := by decide +kernel
theorem dX9_late_84 : decode cX9_late 84 = .ok (.iload_n 3, 1) := by decide +kernel
theorem dX9_late_85 : decode cX9_late 85 = .ok (.ireturn, 1) := by decide +kernel
def b_X9_late_0 (h : q_H) (v0 : Nat) (v1 : Int32) (v2 : Int32) : Option (q_H × Int32) :=
  Option.bind (f_X9_areTwoCopies h v1 v2) (fun q1 => if q1.2 = 0 then some (q1.1, (-1)) else Option.bind (q_gR 8 0 q1.1 v0) (fun x2 => Option.bind (f_X8_way q1.1 x2 v1 v2) (fun q3 => Option.bind (q_gI 4 1 q3.1 q3.2) (fun x4 => if x4 = 0 then some (q3.1, (-2)) else Option.bind (q_gR 8 1 q3.1 v0) (fun x5 => Option.bind (q_gR 8 0 q3.1 v0) (fun x6 => Option.bind (f_X8_copyFrom q3.1 x5 x6) (fun q7 => Option.bind (q_gR 8 1 q7.1 v0) (fun x8 => Option.bind (f_X8_takeNext q7.1 x8 v1 v2) (fun q9 => Option.bind (q_gR 8 4 q9.1 v0) (fun x10 => Option.bind (q_gR 8 0 q9.1 v0) (fun x11 => Option.bind (q_gR 7 0 q9.1 x11) (fun x12 => Option.bind (q_lR 4 q9.1 x12 v2) (fun x13 => Option.bind (q_gR 0 5 q9.1 x13) (fun x14 => Option.bind (q_gR 8 1 q9.1 v0) (fun x15 => Option.bind (q_gR 7 0 q9.1 x15) (fun x16 => Option.bind (q_lR 4 q9.1 x16 v2) (fun x17 => Option.bind (q_gR 0 5 q9.1 x17) (fun x18 => Option.bind (f_X7_otherThan q9.1 x14 x18) (fun q19 => Option.bind (f_X4_tell q19.1 x10 (Int32.toInt64 q19.2)) (fun q20 => some (q20.1, q9.2)))))))))))))))))))))
def f_X9_late (h : q_H) (a0 : Nat) (a1 : Int32) (a2 : Int32) : Option (q_H × Int32) := q_chk 8 h a0 (b_X9_late_0 h a0 a1 a2)
set_option maxRecDepth 20000 in
set_option maxHeartbeats 1000000 in
theorem jb_X9_late_0 {G : q_G} {l : Launch} {k0 z0 : Nat} (h : q_H) (v0 : Nat) (v1 : Int32) (v2 : Int32) : q_J G l (RX9, cX9_late, 4, 4, 133, (some .int), "late", []) k0 z0 (q_Z G k0 z0 q_i) 0 [(0, .ref v0), (1, .int v1), (2, .int v2)] [] h (b_X9_late_0 h v0 v1 v2) := by
  unfold b_X9_late_0
  refine j_iload_n (pc := 0) (p := 1) rfl rfl dX9_late_0 ?_
  refine j_iload_n (pc := 1) (p := 2) rfl rfl dX9_late_1 ?_
  refine j_cSi (pc := 2) Y_X9_areTwoCopies ml_X9_148 sm_X9_areTwoCopies ⟨Nat.le_of_ble_eq_true rfl, Nat.le_of_ble_eq_true rfl⟩ dX9_late_2 (As := [.int v1, .int v2]) (rest := []) rfl rfl (Nat.le_of_ble_eq_true rfl) (fun x hq9 => c_X9_areTwoCopies _ _ _ _ hq9) (fun q1 _ => ?_)
  refine j_if_ne (pc := 5) (tgt := 10) dX9_late_5 (by decide) (fun _ => ?_) (fun _ => ?_)
  · refine j_iconst (pc := 8) ki_m1 dX9_late_8 ?_
    exact j_iret (pc := 9) rfl dX9_late_9
  refine j_aload_n (pc := 10) (p := 0) rfl rfl dX9_late_10 ?_
  refine j_getR (pc := 11) FI_X9 (k := 0) (by decide) fl_X9_12 dX9_late_11 (fun x2 _ => ?_)
  refine j_iload_n (pc := 14) (p := 1) rfl rfl dX9_late_14 ?_
  refine j_iload_n (pc := 15) (p := 2) rfl rfl dX9_late_15 ?_
  refine j_cVr (pc := 16) Y_X8_way (ci := 7) (b := x2) rfl rfl ml_X9_196 im_X8_way se_X8_way ⟨Nat.le_of_ble_eq_true rfl, Nat.le_of_ble_eq_true rfl⟩ dX9_late_16 (As := [.int v1, .int v2]) (rest := []) rfl rfl (Nat.le_of_ble_eq_true rfl) (fun x hq9 => c_X8_way _ _ _ _ _ hq9) (fun q3 _ => ?_)
  refine j_getI (pc := 19) FI_X5 (k := 1) (by decide) fl_X9_140 dX9_late_19 (fun x4 _ => ?_)
  refine j_if_ne (pc := 22) (tgt := 28) dX9_late_22 (by decide) (fun _ => ?_) (fun _ => ?_)
  · refine j_bipush (pc := 25) kb_m2 dX9_late_25 ?_
    exact j_iret (pc := 27) rfl dX9_late_27
  refine j_aload_n (pc := 28) (p := 0) rfl rfl dX9_late_28 ?_
  refine j_getR (pc := 29) FI_X9 (k := 1) (by decide) fl_X9_16 dX9_late_29 (fun x5 _ => ?_)
  refine j_aload_n (pc := 32) (p := 0) rfl rfl dX9_late_32 ?_
  refine j_getR (pc := 33) FI_X9 (k := 0) (by decide) fl_X9_12 dX9_late_33 (fun x6 _ => ?_)
  refine j_cVu (pc := 36) Y_X8_copyFrom (ci := 7) (b := x5) rfl rfl ml_X9_271 im_X8_copyFrom se_X8_copyFrom ⟨Nat.le_of_ble_eq_true rfl, Nat.le_of_ble_eq_true rfl⟩ dX9_late_36 (As := [.ref x6]) (rest := []) rfl rfl (Nat.le_of_ble_eq_true rfl) (fun x hq9 => c_X8_copyFrom _ _ _ _ hq9) (fun q7 _ => ?_)
  refine j_aload_n (pc := 39) (p := 0) rfl rfl dX9_late_39 ?_
  refine j_getR (pc := 40) FI_X9 (k := 1) (by decide) fl_X9_16 dX9_late_40 (fun x8 _ => ?_)
  refine j_iload_n (pc := 43) (p := 1) rfl rfl dX9_late_43 ?_
  refine j_iload_n (pc := 44) (p := 2) rfl rfl dX9_late_44 ?_
  refine j_cVi (pc := 45) Y_X8_takeNext (ci := 7) (b := x8) rfl rfl ml_X9_274 im_X8_takeNext se_X8_takeNext ⟨Nat.le_of_ble_eq_true rfl, Nat.le_of_ble_eq_true rfl⟩ dX9_late_45 (As := [.int v1, .int v2]) (rest := []) rfl rfl (Nat.le_of_ble_eq_true rfl) (fun x hq9 => c_X8_takeNext _ _ _ _ _ hq9) (fun q9 _ => ?_)
  refine j_istore_n (pc := 48) (lv' := [(3, .int q9.2), (0, .ref v0), (1, .int v1), (2, .int v2)]) rfl (by decide) rfl dX9_late_48 ?_
  refine j_aload_n (pc := 49) (p := 1) rfl rfl dX9_late_49 ?_
  refine j_getR (pc := 50) FI_X9 (k := 4) (by decide) fl_X9_30 dX9_late_50 (fun x10 _ => ?_)
  refine j_aload_n (pc := 53) (p := 1) rfl rfl dX9_late_53 ?_
  refine j_getR (pc := 54) FI_X9 (k := 0) (by decide) fl_X9_12 dX9_late_54 (fun x11 _ => ?_)
  refine j_getR (pc := 57) FI_X8 (k := 0) (by decide) fl_X9_82 dX9_late_57 (fun x12 _ => ?_)
  refine j_iload_n (pc := 60) (p := 3) rfl rfl dX9_late_60 ?_
  refine j_aald (pc := 61) (t := 4) rfl dX9_late_61 (fun x13 _ => ?_)
  refine j_getR (pc := 62) FI_X0 (k := 5) (by decide) fl_X9_86 dX9_late_62 (fun x14 _ => ?_)
  refine j_aload_n (pc := 65) (p := 1) rfl rfl dX9_late_65 ?_
  refine j_getR (pc := 66) FI_X9 (k := 1) (by decide) fl_X9_16 dX9_late_66 (fun x15 _ => ?_)
  refine j_getR (pc := 69) FI_X8 (k := 0) (by decide) fl_X9_82 dX9_late_69 (fun x16 _ => ?_)
  refine j_iload_n (pc := 72) (p := 3) rfl rfl dX9_late_72 ?_
  refine j_aald (pc := 73) (t := 4) rfl dX9_late_73 (fun x17 _ => ?_)
  refine j_getR (pc := 74) FI_X0 (k := 5) (by decide) fl_X9_86 dX9_late_74 (fun x18 _ => ?_)
  refine j_cVi (pc := 77) Y_X7_otherThan (ci := 6) (b := x14) rfl rfl ml_X9_160 im_X7_otherThan se_X7_otherThan ⟨Nat.le_of_ble_eq_true rfl, Nat.le_of_ble_eq_true rfl⟩ dX9_late_77 (As := [.ref x18]) (rest := [.ref x10]) rfl rfl (Nat.le_of_ble_eq_true rfl) (fun x hq9 => c_X7_otherThan _ _ _ _ hq9) (fun q19 _ => ?_)
  refine j_i2l (pc := 80) dX9_late_80 ?_
  refine j_cVu (pc := 81) Y_X4_tell (ci := 3) (b := x10) rfl rfl ml_X9_141 im_X4_tell se_X4_tell ⟨Nat.le_of_ble_eq_true rfl, Nat.le_of_ble_eq_true rfl⟩ dX9_late_81 (As := [.long (Int32.toInt64 q19.2)]) (rest := []) rfl rfl (Nat.le_of_ble_eq_true rfl) (fun x hq9 => c_X4_tell _ _ _ _ hq9) (fun q20 _ => ?_)
  refine j_iload_n (pc := 84) (p := 0) rfl rfl dX9_late_84 ?_
  exact j_iret (pc := 85) rfl dX9_late_85
set_option maxRecDepth 20000 in
set_option maxHeartbeats 1000000 in
theorem c_X9_late {G : q_G} {l : Launch} : ∀ (h : q_H) (a0 : Nat) (a1 : Int32) (a2 : Int32) (q : q_H × Int32), f_X9_late h a0 a1 a2 = some q → (∃ fs, h.1 a0 = .inr (8, fs)) ∧ q_CT G l yX9_late cX9_late 4 (some .int) 4 133 [.ref a0, .int a1, .int a2] h q.1 (q_i q.2) := by
  intro h a0 a1 a2 q e
  obtain ⟨e1, e2⟩ := q_chk_ok e
  exact ⟨e1, q_ofJ Y_X9_late (Nat.le_of_ble_eq_true rfl) (jb_X9_late_0 h a0 a1 a2) q e2⟩
/-! FarFolders.letters(II)I -/
theorem dX9_letters_0 : decode cX9_letters 0 = .ok (.iload_n 1, 1) := by decide +kernel
theorem dX9_letters_1 : decode cX9_letters 1 = .ok (.iload_n 2, 1) := by decide +kernel
theorem dX9_letters_2 : decode cX9_letters 2 = .ok (.invokestatic 148, 3) := by decide +kernel
theorem dX9_letters_5 : decode cX9_letters 5 = .ok (.ifCond .ne 5, 3) := by decide +kernel
theorem dX9_letters_8 : decode cX9_letters 8 = .ok (.iconst (-1), 1) := by decide +kernel
theorem dX9_letters_9 : decode cX9_letters 9 = .ok (.ireturn, 1) := by decide +kernel
theorem dX9_letters_10 : decode cX9_letters 10 = .ok (.aload_n 0, 1) := by decide +kernel
theorem dX9_letters_11 : decode cX9_letters 11 = .ok (.getfield 12, 3) := by decide +kernel
theorem dX9_letters_14 : decode cX9_letters 14 = .ok (.iload_n 1, 1) := by decide +kernel
theorem dX9_letters_15 : decode cX9_letters 15 = .ok (.iload_n 2, 1) := by decide +kernel
theorem dX9_letters_16 : decode cX9_letters 16 = .ok (.invokevirtual 196, 3) := by decide +kernel
theorem dX9_letters_19 : decode cX9_letters 19 = .ok (.astore_n 3, 1) := by decide +kernel
theorem dX9_letters_20 : decode cX9_letters 20 = .ok (.aload_n 0, 1) := by decide +kernel
theorem dX9_letters_21 : decode cX9_letters 21 = .ok (.getfield 30, 3) := by decide +kernel
theorem dX9_letters_24 : decode cX9_letters 24 = .ok (.invokevirtual 200, 3) := by decide +kernel
theorem dX9_letters_27 : decode cX9_letters 27 = .ok (.iconst 0, 1) := by decide +kernel
theorem dX9_letters_28 : decode cX9_letters 28 = .ok (.istore 4, 2) := by decide +kernel
theorem dX9_letters_30 : decode cX9_letters 30 = .ok (.iload 4, 2) := by decide +kernel
theorem dX9_letters_32 : decode cX9_letters 32 = .ok (.aload_n 3, 1) := by decide +kernel
theorem dX9_letters_33 : decode cX9_letters 33 = .ok (.getfield 140, 3) := by decide +kernel
theorem dX9_letters_36 : decode cX9_letters 36 = .ok (.if_icmp .ge 26, 3) := by decide +kernel
theorem dX9_letters_39 : decode cX9_letters 39 = .ok (.aload_n 0, 1) := by decide +kernel
theorem dX9_letters_40 : decode cX9_letters 40 = .ok (.getfield 30, 3) := by decide +kernel
theorem dX9_letters_43 : decode cX9_letters 43 = .ok (.aload_n 3, 1) := by decide +kernel
theorem dX9_letters_44 : decode cX9_letters 44 = .ok (.iload 4, 2) := by decide +kernel
theorem dX9_letters_46 : decode cX9_letters 46 = .ok (.invokevirtual 124, 3) := by decide +kernel
theorem dX9_letters_49 : decode cX9_letters 49 = .ok (.invokestatic 111, 3) := by decide +kernel
theorem dX9_letters_52 : decode cX9_letters 52 = .ok (.i2l, 1) := by decide +kernel
theorem dX9_letters_53 : decode cX9_letters 53 = .ok (.invokevirtual 170, 3) := by decide +kernel
theorem dX9_letters_56 : decode cX9_letters 56 = .ok (.iinc 4 1, 3) := by decide +kernel
theorem dX9_letters_59 : decode cX9_letters 59 = .ok (.goto (-29), 3) := by decide +kernel
theorem dX9_letters_62 : decode cX9_letters 62 = .ok (.aload_n 3, 1) := by decide +kernel
theorem dX9_letters_63 : decode cX9_letters 63 = .ok (.getfield 140, 3) := by decide +kernel
theorem dX9_letters_66 : decode cX9_letters 66 = .ok (.ireturn, 1) := by decide +kernel
def b_X9_letters_30 (k30 : q_H → Nat → Nat → Int32 → Option (q_H × Int32)) (h : q_H) (v0 : Nat) (v3 : Nat) (v4 : Int32) : Option (q_H × Int32) :=
  Option.bind (q_gI 4 1 h v3) (fun x1 => if x1 ≤ v4 then Option.bind (q_gI 4 1 h v3) (fun x2 => some (h, x2)) else Option.bind (q_gR 8 4 h v0) (fun x3 => Option.bind (f_X5_at h v3 v4) (fun q4 => Option.bind (f_X1_time q4.1 q4.2) (fun q5 => Option.bind (f_X4_add q5.1 x3 (Int32.toInt64 q5.2)) (fun q6 => k30 q6.1 v0 v3 (v4 + 1))))))
def l_X9_letters_30 : Nat → q_H → Nat → Nat → Int32 → Option (q_H × Int32)
  | 0, _, _, _, _ => none
  | n + 1, h, v0, v3, v4 => b_X9_letters_30 (l_X9_letters_30 n) h v0 v3 v4
def b_X9_letters_0 (h : q_H) (v0 : Nat) (v1 : Int32) (v2 : Int32) : Option (q_H × Int32) :=
  Option.bind (f_X9_areTwoCopies h v1 v2) (fun q7 => if q7.2 = 0 then some (q7.1, (-1)) else Option.bind (q_gR 8 0 q7.1 v0) (fun x8 => Option.bind (f_X8_way q7.1 x8 v1 v2) (fun q9 => Option.bind (q_gR 8 4 q9.1 v0) (fun x10 => Option.bind (f_X4_clear q9.1 x10) (fun q11 => l_X9_letters_30 q_FU q11.1 v0 q9.2 (0))))))
def f_X9_letters (h : q_H) (a0 : Nat) (a1 : Int32) (a2 : Int32) : Option (q_H × Int32) := q_chk 8 h a0 (b_X9_letters_0 h a0 a1 a2)
set_option maxRecDepth 20000 in
set_option maxHeartbeats 1000000 in
theorem jb_X9_letters_30 {G : q_G} {l : Launch} {k0 z0 : Nat} (k30 : q_H → Nat → Nat → Int32 → Option (q_H × Int32)) (hk30 : ∀ (h : q_H) (v0 : Nat) (v3 : Nat) (v4 : Int32), q_J G l (RX9, cX9_letters, 5, 2, 41, (some .int), "letters", []) k0 z0 (q_Z G k0 z0 q_i) 30 [(0, .ref v0), (3, .ref v3), (4, .int v4)] [] h (k30 h v0 v3 v4)) (h : q_H) (v0 : Nat) (v3 : Nat) (v4 : Int32) : q_J G l (RX9, cX9_letters, 5, 2, 41, (some .int), "letters", []) k0 z0 (q_Z G k0 z0 q_i) 30 [(0, .ref v0), (3, .ref v3), (4, .int v4)] [] h (b_X9_letters_30 k30 h v0 v3 v4) := by
  unfold b_X9_letters_30
  refine j_iload (pc := 30) (p := 2) rfl dX9_letters_30 ?_
  refine j_aload_n (pc := 32) (p := 1) rfl rfl dX9_letters_32 ?_
  refine j_getI (pc := 33) FI_X5 (k := 1) (by decide) fl_X9_140 dX9_letters_33 (fun x1 _ => ?_)
  refine j_ic_ge (pc := 36) (tgt := 62) dX9_letters_36 (by decide) (fun _ => ?_) (fun _ => ?_)
  · refine j_aload_n (pc := 62) (p := 1) rfl rfl dX9_letters_62 ?_
    refine j_getI (pc := 63) FI_X5 (k := 1) (by decide) fl_X9_140 dX9_letters_63 (fun x2 _ => ?_)
    exact j_iret (pc := 66) rfl dX9_letters_66
  refine j_aload_n (pc := 39) (p := 0) rfl rfl dX9_letters_39 ?_
  refine j_getR (pc := 40) FI_X9 (k := 4) (by decide) fl_X9_30 dX9_letters_40 (fun x3 _ => ?_)
  refine j_aload_n (pc := 43) (p := 1) rfl rfl dX9_letters_43 ?_
  refine j_iload (pc := 44) (p := 2) rfl dX9_letters_44 ?_
  refine j_cVl (pc := 46) Y_X5_at (ci := 4) (b := v3) rfl rfl ml_X9_124 im_X5_at se_X5_at ⟨Nat.le_of_ble_eq_true rfl, Nat.le_of_ble_eq_true rfl⟩ dX9_letters_46 (As := [.int v4]) (rest := [.ref x3]) rfl rfl (Nat.le_of_ble_eq_true rfl) (fun x hq9 => c_X5_at _ _ _ _ hq9) (fun q4 _ => ?_)
  refine j_cSi (pc := 49) Y_X1_time ml_X9_111 sm_X1_time ⟨Nat.le_of_ble_eq_true rfl, Nat.le_of_ble_eq_true rfl⟩ dX9_letters_49 (As := [.long q4.2]) (rest := [.ref x3]) rfl rfl (Nat.le_of_ble_eq_true rfl) (fun x hq9 => c_X1_time _ _ _ hq9) (fun q5 _ => ?_)
  refine j_i2l (pc := 52) dX9_letters_52 ?_
  refine j_cVu (pc := 53) Y_X4_add (ci := 3) (b := x3) rfl rfl ml_X9_170 im_X4_add se_X4_add ⟨Nat.le_of_ble_eq_true rfl, Nat.le_of_ble_eq_true rfl⟩ dX9_letters_53 (As := [.long (Int32.toInt64 q5.2)]) (rest := []) rfl rfl (Nat.le_of_ble_eq_true rfl) (fun x hq9 => c_X4_add _ _ _ _ hq9) (fun q6 _ => ?_)
  refine j_inc (pc := 56) (p := 2) (lv' := [(4, .int (v4 + 1)), (0, .ref v0), (3, .ref v3)]) rfl ki_1 (by decide) rfl dX9_letters_56 ?_
  refine j_goto (pc := 59) (tgt := 30) dX9_letters_59 (by decide) ?_
  refine j_sub [1, 2, 0] (lv' := [(0, .ref v0), (3, .ref v3), (4, .int (v4 + 1))]) rfl ?_
  exact hk30 _ _ _ _
set_option maxRecDepth 20000 in
set_option maxHeartbeats 1000000 in
theorem jl_X9_letters_30 {G : q_G} {l : Launch} {k0 z0 : Nat} (n : Nat) : ∀ (h : q_H) (v0 : Nat) (v3 : Nat) (v4 : Int32), q_J G l (RX9, cX9_letters, 5, 2, 41, (some .int), "letters", []) k0 z0 (q_Z G k0 z0 q_i) 30 [(0, .ref v0), (3, .ref v3), (4, .int v4)] [] h (l_X9_letters_30 n h v0 v3 v4) := by
  induction n with
  | zero => intro h v0 v3 v4; exact j_none
  | succ n ih => intro h v0 v3 v4; exact jb_X9_letters_30 (l_X9_letters_30 n) ih h v0 v3 v4
set_option maxRecDepth 20000 in
set_option maxHeartbeats 1000000 in
theorem jb_X9_letters_0 {G : q_G} {l : Launch} {k0 z0 : Nat} (h : q_H) (v0 : Nat) (v1 : Int32) (v2 : Int32) : q_J G l (RX9, cX9_letters, 5, 2, 41, (some .int), "letters", []) k0 z0 (q_Z G k0 z0 q_i) 0 [(0, .ref v0), (1, .int v1), (2, .int v2)] [] h (b_X9_letters_0 h v0 v1 v2) := by
  unfold b_X9_letters_0
  refine j_iload_n (pc := 0) (p := 1) rfl rfl dX9_letters_0 ?_
  refine j_iload_n (pc := 1) (p := 2) rfl rfl dX9_letters_1 ?_
  refine j_cSi (pc := 2) Y_X9_areTwoCopies ml_X9_148 sm_X9_areTwoCopies ⟨Nat.le_of_ble_eq_true rfl, Nat.le_of_ble_eq_true rfl⟩ dX9_letters_2 (As := [.int v1, .int v2]) (rest := []) rfl rfl (Nat.le_of_ble_eq_true rfl) (fun x hq9 => c_X9_areTwoCopies _ _ _ _ hq9) (fun q7 _ => ?_)
  refine j_if_ne (pc := 5) (tgt := 10) dX9_letters_5 (by decide) (fun _ => ?_) (fun _ => ?_)
  · refine j_iconst (pc := 8) ki_m1 dX9_letters_8 ?_
    exact j_iret (pc := 9) rfl dX9_letters_9
  refine j_aload_n (pc := 10) (p := 0) rfl rfl dX9_letters_10 ?_
  refine j_getR (pc := 11) FI_X9 (k := 0) (by decide) fl_X9_12 dX9_letters_11 (fun x8 _ => ?_)
  refine j_iload_n (pc := 14) (p := 1) rfl rfl dX9_letters_14 ?_
  refine j_iload_n (pc := 15) (p := 2) rfl rfl dX9_letters_15 ?_
  refine j_cVr (pc := 16) Y_X8_way (ci := 7) (b := x8) rfl rfl ml_X9_196 im_X8_way se_X8_way ⟨Nat.le_of_ble_eq_true rfl, Nat.le_of_ble_eq_true rfl⟩ dX9_letters_16 (As := [.int v1, .int v2]) (rest := []) rfl rfl (Nat.le_of_ble_eq_true rfl) (fun x hq9 => c_X8_way _ _ _ _ _ hq9) (fun q9 _ => ?_)
  refine j_astore_n (pc := 19) (lv' := [(3, .ref q9.2), (0, .ref v0), (1, .int v1), (2, .int v2)]) rfl (by decide) rfl dX9_letters_19 ?_
  refine j_aload_n (pc := 20) (p := 1) rfl rfl dX9_letters_20 ?_
  refine j_getR (pc := 21) FI_X9 (k := 4) (by decide) fl_X9_30 dX9_letters_21 (fun x10 _ => ?_)
  refine j_cVu (pc := 24) Y_X4_clear (ci := 3) (b := x10) rfl rfl ml_X9_200 im_X4_clear se_X4_clear ⟨Nat.le_of_ble_eq_true rfl, Nat.le_of_ble_eq_true rfl⟩ dX9_letters_24 (As := []) (rest := []) rfl rfl (Nat.le_of_ble_eq_true rfl) (fun x hq9 => c_X4_clear _ _ _ hq9) (fun q11 _ => ?_)
  refine j_iconst (pc := 27) ki_0 dX9_letters_27 ?_
  refine j_istore (pc := 28) (lv' := [(4, .int (0)), (3, .ref q9.2), (0, .ref v0), (1, .int v1), (2, .int v2)]) (by decide) rfl dX9_letters_28 ?_
  refine j_sub [2, 1, 0] (lv' := [(0, .ref v0), (3, .ref q9.2), (4, .int (0))]) rfl ?_
  exact jl_X9_letters_30 q_FU _ _ _ _
set_option maxRecDepth 20000 in
set_option maxHeartbeats 1000000 in
theorem c_X9_letters {G : q_G} {l : Launch} : ∀ (h : q_H) (a0 : Nat) (a1 : Int32) (a2 : Int32) (q : q_H × Int32), f_X9_letters h a0 a1 a2 = some q → (∃ fs, h.1 a0 = .inr (8, fs)) ∧ q_CT G l yX9_letters cX9_letters 5 (some .int) 2 41 [.ref a0, .int a1, .int a2] h q.1 (q_i q.2) := by
  intro h a0 a1 a2 q e
  obtain ⟨e1, e2⟩ := q_chk_ok e
  exact ⟨e1, q_ofJ Y_X9_letters (Nat.le_of_ble_eq_true rfl) (jb_X9_letters_0 h a0 a1 a2) q e2⟩
/-! FarFolders.listBelow(LFarFolders$Tree;LFarFolders$Row;III)V -/
theorem dX9_listBelow_0 : decode cX9_listBelow 0 = .ok (.iload 4, 2) := by decide +kernel
theorem dX9_listBelow_2 : decode cX9_listBelow 2 = .ok (.bipush 14, 2) := by decide +kernel
theorem dX9_listBelow_4 : decode cX9_listBelow 4 = .ok (.if_icmp .le 4, 3) := by decide +kernel
theorem dX9_listBelow_7 : decode cX9_listBelow 7 = .ok (.return_, 1) := by decide +kernel
theorem dX9_listBelow_8 : decode cX9_listBelow 8 = .ok (.aload_n 0, 1) := by decide +kernel
theorem dX9_listBelow_9 : decode cX9_listBelow 9 = .ok (.iload_n 2, 1) := by decide +kernel
theorem dX9_listBelow_10 : decode cX9_listBelow 10 = .ok (.invokevirtual 223, 3) := by decide +kernel
theorem dX9_listBelow_13 : decode cX9_listBelow 13 = .ok (.istore 5, 2) := by decide +kernel
theorem dX9_listBelow_15 : decode cX9_listBelow 15 = .ok (.iload 5, 2) := by decide +kernel
theorem dX9_listBelow_17 : decode cX9_listBelow 17 = .ok (.invokestatic 218, 3) := by decide +kernel
theorem dX9_listBelow_20 : decode cX9_listBelow 20 = .ok (.istore 6, 2) := by decide +kernel
theorem dX9_listBelow_22 : decode cX9_listBelow 22 = .ok (.iload 6, 2) := by decide +kernel
theorem dX9_listBelow_24 : decode cX9_listBelow 24 = .ok (.ifCond .le 48, 3) := by decide +kernel
theorem dX9_listBelow_27 : decode cX9_listBelow 27 = .ok (.aload_n 0, 1) := by decide +kernel
theorem dX9_listBelow_28 : decode cX9_listBelow 28 = .ok (.iload 5, 2) := by decide +kernel
theorem dX9_listBelow_30 : decode cX9_listBelow 30 = .ok (.iload_n 3, 1) := by decide +kernel
theorem dX9_listBelow_31 : decode cX9_listBelow 31 = .ok (.invokestatic 372, 3) := by decide +kernel
theorem dX9_listBelow_34 : decode cX9_listBelow 34 = .ok (.istore 7, 2) := by decide +kernel
theorem dX9_listBelow_36 : decode cX9_listBelow 36 = .ok (.iload 5, 2) := by decide +kernel
theorem dX9_listBelow_38 : decode cX9_listBelow 38 = .ok (.iconst 1, 1) := by decide +kernel
theorem dX9_listBelow_39 : decode cX9_listBelow 39 = .ok (.iload 7, 2) := by decide +kernel
theorem dX9_listBelow_41 : decode cX9_listBelow 41 = .ok (.ishl, 1) := by decide +kernel
theorem dX9_listBelow_42 : decode cX9_listBelow 42 = .ok (.iconst (-1), 1) := by decide +kernel
theorem dX9_listBelow_43 : decode cX9_listBelow 43 = .ok (.ixor, 1) := by decide +kernel
theorem dX9_listBelow_44 : decode cX9_listBelow 44 = .ok (.iand, 1) := by decide +kernel
theorem dX9_listBelow_45 : decode cX9_listBelow 45 = .ok (.istore 5, 2) := by decide +kernel
theorem dX9_listBelow_47 : decode cX9_listBelow 47 = .ok (.aload_n 1, 1) := by decide +kernel
theorem dX9_listBelow_48 : decode cX9_listBelow 48 = .ok (.iload 7, 2) := by decide +kernel
theorem dX9_listBelow_50 : decode cX9_listBelow 50 = .ok (.i2l, 1) := by decide +kernel
theorem dX9_listBelow_51 : decode cX9_listBelow 51 = .ok (.invokevirtual 170, 3) := by decide +kernel
theorem dX9_listBelow_54 : decode cX9_listBelow 54 = .ok (.aload_n 0, 1) := by decide +kernel
theorem dX9_listBelow_55 : decode cX9_listBelow 55 = .ok (.aload_n 1, 1) := by decide +kernel
theorem dX9_listBelow_56 : decode cX9_listBelow 56 = .ok (.iload 7, 2) := by decide +kernel
theorem dX9_listBelow_58 : decode cX9_listBelow 58 = .ok (.iload_n 3, 1) := by decide +kernel
theorem dX9_listBelow_59 : decode cX9_listBelow 59 = .ok (.iload 4, 2) := by decide +kernel
theorem dX9_listBelow_61 : decode cX9_listBelow 61 = .ok (.iconst 1, 1) := by decide +kernel
theorem dX9_listBelow_62 : decode cX9_listBelow 62 = .ok (.iadd, 1) := by decide +kernel
theorem dX9_listBelow_63 : decode cX9_listBelow 63 = .ok (.invokestatic 254, 3) := by decide +kernel
theorem dX9_listBelow_66 : decode cX9_listBelow 66 = .ok (.iinc 6 (-1), 3) := by decide +kernel
theorem dX9_listBelow_69 : decode cX9_listBelow 69 = .ok (.goto (-47), 3) := by decide +kernel
theorem dX9_listBelow_72 : decode cX9_listBelow 72 = .ok (.return_, 1) := by decide +kernel
def b_X9_listBelow_22 (self : q_H → Nat → Nat → Int32 → Int32 → Int32 → Option (q_H × Unit)) (k22 : q_H → Nat → Nat → Int32 → Int32 → Int32 → Int32 → Option (q_H × Unit)) (h : q_H) (v0 : Nat) (v1 : Nat) (v3 : Int32) (v4 : Int32) (v5 : Int32) (v6 : Int32) : Option (q_H × Unit) :=
  if v6 ≤ 0 then some (h, ()) else Option.bind (f_X9_firstOf h v0 v5 v3) (fun q1 => Option.bind (f_X4_add q1.1 v1 (Int32.toInt64 q1.2)) (fun q2 => Option.bind (self q2.1 v0 v1 q1.2 v3 (v4 + (1))) (fun q3 => k22 q3.1 v0 v1 v3 v4 (v5 &&& (((1) <<< (q1.2 &&& 31)) ^^^ (-1))) (v6 + (-1)))))
def l_X9_listBelow_22 (self : q_H → Nat → Nat → Int32 → Int32 → Int32 → Option (q_H × Unit)) : Nat → q_H → Nat → Nat → Int32 → Int32 → Int32 → Int32 → Option (q_H × Unit)
  | 0, _, _, _, _, _, _, _ => none
  | n + 1, h, v0, v1, v3, v4, v5, v6 => b_X9_listBelow_22 self (l_X9_listBelow_22 self n) h v0 v1 v3 v4 v5 v6
def b_X9_listBelow_0 (self : q_H → Nat → Nat → Int32 → Int32 → Int32 → Option (q_H × Unit)) (h : q_H) (v0 : Nat) (v1 : Nat) (v2 : Int32) (v3 : Int32) (v4 : Int32) : Option (q_H × Unit) :=
  if v4 ≤ (14) then Option.bind (f_X7_childrenOf h v0 v2) (fun q4 => Option.bind (f_J6_bitCount_0f7a4 q4.1 q4.2) (fun q5 => l_X9_listBelow_22 self q_FU q5.1 v0 v1 v3 v4 q4.2 q5.2)) else some (h, ())
def f_X9_listBelow : Nat → q_H → Nat → Nat → Int32 → Int32 → Int32 → Option (q_H × Unit)
  | 0, _, _, _, _, _, _ => none
  | d + 1, h, a0, a1, a2, a3, a4 => b_X9_listBelow_0 (f_X9_listBelow d) h a0 a1 a2 a3 a4
set_option maxRecDepth 20000 in
set_option maxHeartbeats 1000000 in
theorem jb_X9_listBelow_22 {G : q_G} {l : Launch} {k0 z0 : Nat} {d : Nat} (self : q_H → Nat → Nat → Int32 → Int32 → Int32 → Option (q_H × Unit)) (hself : ∀ (h : q_H) (a0 : Nat) (a1 : Nat) (a2 : Int32) (a3 : Int32) (a4 : Int32) (q : q_H × Unit), self h a0 a1 a2 a3 a4 = some q → q_CT G l yX9_listBelow cX9_listBelow 8 none (5 + d) (119 + 27 * d) [.ref a0, .ref a1, .int a2, .int a3, .int a4] h q.1 (q_u q.2)) (k22 : q_H → Nat → Nat → Int32 → Int32 → Int32 → Int32 → Option (q_H × Unit)) (hk22 : ∀ (h : q_H) (v0 : Nat) (v1 : Nat) (v3 : Int32) (v4 : Int32) (v5 : Int32) (v6 : Int32), q_J G l (RX9, cX9_listBelow, 8, 5 + (d + 1), 119 + 27 * (d + 1), none, "listBelow", []) k0 z0 (q_Z G k0 z0 q_u) 22 [(0, .ref v0), (1, .ref v1), (3, .int v3), (4, .int v4), (5, .int v5), (6, .int v6)] [] h (k22 h v0 v1 v3 v4 v5 v6)) (h : q_H) (v0 : Nat) (v1 : Nat) (v3 : Int32) (v4 : Int32) (v5 : Int32) (v6 : Int32) : q_J G l (RX9, cX9_listBelow, 8, 5 + (d + 1), 119 + 27 * (d + 1), none, "listBelow", []) k0 z0 (q_Z G k0 z0 q_u) 22 [(0, .ref v0), (1, .ref v1), (3, .int v3), (4, .int v4), (5, .int v5), (6, .int v6)] [] h (b_X9_listBelow_22 self k22 h v0 v1 v3 v4 v5 v6) := by
  unfold b_X9_listBelow_22
  refine j_iload (pc := 22) (p := 5) rfl dX9_listBelow_22 ?_
  refine j_if_le (pc := 24) (tgt := 72) dX9_listBelow_24 (by decide) (fun _ => ?_) (fun _ => ?_)
  · exact j_vret (pc := 72) rfl dX9_listBelow_72
  refine j_aload_n (pc := 27) (p := 0) rfl rfl dX9_listBelow_27 ?_
  refine j_iload (pc := 28) (p := 4) rfl dX9_listBelow_28 ?_
  refine j_iload_n (pc := 30) (p := 2) rfl rfl dX9_listBelow_30 ?_
  refine j_cSi (pc := 31) Y_X9_firstOf ml_X9_372 sm_X9_firstOf ⟨by omega, by omega⟩ dX9_listBelow_31 (As := [.ref v0, .int v5, .int v3]) (rest := []) rfl rfl (Nat.le_of_ble_eq_true rfl) (fun x hq9 => c_X9_firstOf _ _ _ _ _ hq9) (fun q1 _ => ?_)
  refine j_istore (pc := 34) (lv' := [(7, .int q1.2), (0, .ref v0), (1, .ref v1), (3, .int v3), (4, .int v4), (5, .int v5), (6, .int v6)]) (by decide) rfl dX9_listBelow_34 ?_
  refine j_iload (pc := 36) (p := 5) rfl dX9_listBelow_36 ?_
  refine j_iconst (pc := 38) ki_1 dX9_listBelow_38 ?_
  refine j_iload (pc := 39) (p := 0) rfl dX9_listBelow_39 ?_
  refine j_ishl (pc := 41) dX9_listBelow_41 ?_
  refine j_iconst (pc := 42) ki_m1 dX9_listBelow_42 ?_
  refine j_ixor (pc := 43) dX9_listBelow_43 ?_
  refine j_iand (pc := 44) dX9_listBelow_44 ?_
  refine j_istore (pc := 45) (lv' := [(5, .int (v5 &&& (((1) <<< (q1.2 &&& 31)) ^^^ (-1)))), (7, .int q1.2), (0, .ref v0), (1, .ref v1), (3, .int v3), (4, .int v4), (6, .int v6)]) (by decide) rfl dX9_listBelow_45 ?_
  refine j_aload_n (pc := 47) (p := 3) rfl rfl dX9_listBelow_47 ?_
  refine j_iload (pc := 48) (p := 1) rfl dX9_listBelow_48 ?_
  refine j_i2l (pc := 50) dX9_listBelow_50 ?_
  refine j_cVu (pc := 51) Y_X4_add (ci := 3) (b := v1) rfl rfl ml_X9_170 im_X4_add se_X4_add ⟨by omega, by omega⟩ dX9_listBelow_51 (As := [.long (Int32.toInt64 q1.2)]) (rest := []) rfl rfl (Nat.le_of_ble_eq_true rfl) (fun x hq9 => c_X4_add _ _ _ _ hq9) (fun q2 _ => ?_)
  refine j_aload_n (pc := 54) (p := 2) rfl rfl dX9_listBelow_54 ?_
  refine j_aload_n (pc := 55) (p := 3) rfl rfl dX9_listBelow_55 ?_
  refine j_iload (pc := 56) (p := 1) rfl dX9_listBelow_56 ?_
  refine j_iload_n (pc := 58) (p := 4) rfl rfl dX9_listBelow_58 ?_
  refine j_iload (pc := 59) (p := 5) rfl dX9_listBelow_59 ?_
  refine j_iconst (pc := 61) ki_1 dX9_listBelow_61 ?_
  refine j_iadd (pc := 62) dX9_listBelow_62 ?_
  refine j_cSu (pc := 63) Y_X9_listBelow ml_X9_254 sm_X9_listBelow ⟨by omega, by omega⟩ dX9_listBelow_63 (As := [.ref v0, .ref v1, .int q1.2, .int v3, .int (v4 + (1))]) (rest := []) rfl rfl (Nat.le_of_ble_eq_true rfl) (fun x hq9 => hself _ _ _ _ _ _ _ hq9) (fun q3 _ => ?_)
  refine j_inc (pc := 66) (p := 6) (lv' := [(6, .int (v6 + (-1))), (5, .int (v5 &&& (((1) <<< (q1.2 &&& 31)) ^^^ (-1)))), (7, .int q1.2), (0, .ref v0), (1, .ref v1), (3, .int v3), (4, .int v4)]) rfl ki_m1 (by decide) rfl dX9_listBelow_66 ?_
  refine j_goto (pc := 69) (tgt := 22) dX9_listBelow_69 (by decide) ?_
  refine j_sub [3, 4, 5, 6, 1, 0] (lv' := [(0, .ref v0), (1, .ref v1), (3, .int v3), (4, .int v4), (5, .int (v5 &&& (((1) <<< (q1.2 &&& 31)) ^^^ (-1)))), (6, .int (v6 + (-1)))]) rfl ?_
  exact hk22 _ _ _ _ _ _ _
set_option maxRecDepth 20000 in
set_option maxHeartbeats 1000000 in
theorem jl_X9_listBelow_22 {G : q_G} {l : Launch} {k0 z0 : Nat} {d : Nat} (self : q_H → Nat → Nat → Int32 → Int32 → Int32 → Option (q_H × Unit)) (hself : ∀ (h : q_H) (a0 : Nat) (a1 : Nat) (a2 : Int32) (a3 : Int32) (a4 : Int32) (q : q_H × Unit), self h a0 a1 a2 a3 a4 = some q → q_CT G l yX9_listBelow cX9_listBelow 8 none (5 + d) (119 + 27 * d) [.ref a0, .ref a1, .int a2, .int a3, .int a4] h q.1 (q_u q.2)) (n : Nat) : ∀ (h : q_H) (v0 : Nat) (v1 : Nat) (v3 : Int32) (v4 : Int32) (v5 : Int32) (v6 : Int32), q_J G l (RX9, cX9_listBelow, 8, 5 + (d + 1), 119 + 27 * (d + 1), none, "listBelow", []) k0 z0 (q_Z G k0 z0 q_u) 22 [(0, .ref v0), (1, .ref v1), (3, .int v3), (4, .int v4), (5, .int v5), (6, .int v6)] [] h (l_X9_listBelow_22 self n h v0 v1 v3 v4 v5 v6) := by
  induction n with
  | zero => intro h v0 v1 v3 v4 v5 v6; exact j_none
  | succ n ih => intro h v0 v1 v3 v4 v5 v6; exact jb_X9_listBelow_22 self hself (l_X9_listBelow_22 self n) ih h v0 v1 v3 v4 v5 v6
set_option maxRecDepth 20000 in
set_option maxHeartbeats 1000000 in
theorem jb_X9_listBelow_0 {G : q_G} {l : Launch} {k0 z0 : Nat} {d : Nat} (self : q_H → Nat → Nat → Int32 → Int32 → Int32 → Option (q_H × Unit)) (hself : ∀ (h : q_H) (a0 : Nat) (a1 : Nat) (a2 : Int32) (a3 : Int32) (a4 : Int32) (q : q_H × Unit), self h a0 a1 a2 a3 a4 = some q → q_CT G l yX9_listBelow cX9_listBelow 8 none (5 + d) (119 + 27 * d) [.ref a0, .ref a1, .int a2, .int a3, .int a4] h q.1 (q_u q.2)) (h : q_H) (v0 : Nat) (v1 : Nat) (v2 : Int32) (v3 : Int32) (v4 : Int32) : q_J G l (RX9, cX9_listBelow, 8, 5 + (d + 1), 119 + 27 * (d + 1), none, "listBelow", []) k0 z0 (q_Z G k0 z0 q_u) 0 [(0, .ref v0), (1, .ref v1), (2, .int v2), (3, .int v3), (4, .int v4)] [] h (b_X9_listBelow_0 self h v0 v1 v2 v3 v4) := by
  unfold b_X9_listBelow_0
  refine j_iload (pc := 0) (p := 4) rfl dX9_listBelow_0 ?_
  refine j_bipush (pc := 2) kb_14 dX9_listBelow_2 ?_
  refine j_ic_le (pc := 4) (tgt := 8) dX9_listBelow_4 (by decide) (fun _ => ?_) (fun _ => ?_)
  · refine j_aload_n (pc := 8) (p := 0) rfl rfl dX9_listBelow_8 ?_
    refine j_iload_n (pc := 9) (p := 2) rfl rfl dX9_listBelow_9 ?_
    refine j_cVi (pc := 10) Y_X7_childrenOf (ci := 6) (b := v0) rfl rfl ml_X9_223 im_X7_childrenOf se_X7_childrenOf ⟨by omega, by omega⟩ dX9_listBelow_10 (As := [.int v2]) (rest := []) rfl rfl (Nat.le_of_ble_eq_true rfl) (fun x hq9 => c_X7_childrenOf _ _ _ _ hq9) (fun q4 _ => ?_)
    refine j_istore (pc := 13) (lv' := [(5, .int q4.2), (0, .ref v0), (1, .ref v1), (2, .int v2), (3, .int v3), (4, .int v4)]) (by decide) rfl dX9_listBelow_13 ?_
    refine j_iload (pc := 15) (p := 0) rfl dX9_listBelow_15 ?_
    refine j_cSi (pc := 17) Y_J6_bitCount_0f7a4 ml_X9_218 sm_J6_bitCount_0f7a4 ⟨by omega, by omega⟩ dX9_listBelow_17 (As := [.int q4.2]) (rest := []) rfl rfl (Nat.le_of_ble_eq_true rfl) (fun x hq9 => c_J6_bitCount_0f7a4 _ _ _ hq9) (fun q5 _ => ?_)
    refine j_istore (pc := 20) (lv' := [(6, .int q5.2), (5, .int q4.2), (0, .ref v0), (1, .ref v1), (2, .int v2), (3, .int v3), (4, .int v4)]) (by decide) rfl dX9_listBelow_20 ?_
    refine j_sub [2, 3, 5, 6, 1, 0] (lv' := [(0, .ref v0), (1, .ref v1), (3, .int v3), (4, .int v4), (5, .int q4.2), (6, .int q5.2)]) rfl ?_
    exact jl_X9_listBelow_22 self hself q_FU _ _ _ _ _ _ _
  exact j_vret (pc := 7) rfl dX9_listBelow_7
set_option maxRecDepth 20000 in
set_option maxHeartbeats 1000000 in
theorem c_X9_listBelow {G : q_G} {l : Launch} (d : Nat) : ∀ (h : q_H) (a0 : Nat) (a1 : Nat) (a2 : Int32) (a3 : Int32) (a4 : Int32) (q : q_H × Unit), f_X9_listBelow d h a0 a1 a2 a3 a4 = some q → q_CT G l yX9_listBelow cX9_listBelow 8 none (5 + d) (119 + 27 * d) [.ref a0, .ref a1, .int a2, .int a3, .int a4] h q.1 (q_u q.2) := by
  induction d with
  | zero => intro h a0 a1 a2 a3 a4 q e; cases e
  | succ d ih =>
    intro h a0 a1 a2 a3 a4 q e
    exact q_ofJ Y_X9_listBelow (Nat.le_of_ble_eq_true rfl) (jb_X9_listBelow_0 (f_X9_listBelow d) ih h a0 a1 a2 a3 a4) q e
/-! FarFolders.lists(III)I -/
theorem dX9_lists_0 : decode cX9_lists 0 = .ok (.iload_n 3, 1) := by decide +kernel
theorem dX9_lists_1 : decode cX9_lists 1 = .ok (.ifCond .lt 8, 3) := by decide +kernel
theorem dX9_lists_4 : decode cX9_lists 4 = .ok (.iload_n 3, 1) := by decide +kernel
theorem dX9_lists_5 : decode cX9_lists 5 = .ok (.iconst 3, 1) := by decide +kernel
theorem dX9_lists_6 : decode cX9_lists 6 = .ok (.if_icmp .le 5, 3) := by decide +kernel
theorem dX9_lists_9 : decode cX9_lists 9 = .ok (.iconst (-1), 1) := by decide +kernel
theorem dX9_lists_10 : decode cX9_lists 10 = .ok (.ireturn, 1) := by decide +kernel
theorem dX9_lists_11 : decode cX9_lists 11 = .ok (.aload_n 0, 1) := by decide +kernel
theorem dX9_lists_12 : decode cX9_lists 12 = .ok (.iload_n 1, 1) := by decide +kernel
theorem dX9_lists_13 : decode cX9_lists 13 = .ok (.iload_n 2, 1) := by decide +kernel
theorem dX9_lists_14 : decode cX9_lists 14 = .ok (.invokevirtual 212, 3) := by decide +kernel
theorem dX9_lists_17 : decode cX9_lists 17 = .ok (.istore 4, 2) := by decide +kernel
theorem dX9_lists_19 : decode cX9_lists 19 = .ok (.iload 4, 2) := by decide +kernel
theorem dX9_lists_21 : decode cX9_lists 21 = .ok (.ifCond .ge 6, 3) := by decide +kernel
theorem dX9_lists_24 : decode cX9_lists 24 = .ok (.iload 4, 2) := by decide +kernel
theorem dX9_lists_26 : decode cX9_lists 26 = .ok (.ireturn, 1) := by decide +kernel
theorem dX9_lists_27 : decode cX9_lists 27 = .ok (.aload_n 0, 1) := by decide +kernel
theorem dX9_lists_28 : decode cX9_lists 28 = .ok (.getfield 30, 3) := by decide +kernel
theorem dX9_lists_31 : decode cX9_lists 31 = .ok (.invokevirtual 200, 3) := by decide +kernel
theorem dX9_lists_34 : decode cX9_lists 34 = .ok (.aload_n 0, 1) := by decide +kernel
theorem dX9_lists_35 : decode cX9_lists 35 = .ok (.getfield 12, 3) := by decide +kernel
theorem dX9_lists_38 : decode cX9_lists 38 = .ok (.getfield 82, 3) := by decide +kernel
theorem dX9_lists_41 : decode cX9_lists 41 = .ok (.iload_n 1, 1) := by decide +kernel
theorem dX9_lists_42 : decode cX9_lists 42 = .ok (.aaload, 1) := by decide +kernel
theorem dX9_lists_43 : decode cX9_lists 43 = .ok (.getfield 86, 3) := by decide +kernel
theorem dX9_lists_46 : decode cX9_lists 46 = .ok (.aload_n 0, 1) := by decide +kernel
theorem dX9_lists_47 : decode cX9_lists 47 = .ok (.getfield 30, 3) := by decide +kernel
theorem dX9_lists_50 : decode cX9_lists 50 = .ok (.iload_n 2, 1) := by decide +kernel
theorem dX9_lists_51 : decode cX9_lists 51 = .ok (.iload_n 3, 1) := by decide +kernel
theorem dX9_lists_52 : decode cX9_lists 52 = .ok (.iconst 0, 1) := by decide +kernel
theorem dX9_lists_53 : decode cX9_lists 53 = .ok (.invokestatic 254, 3) := by decide +kernel
theorem dX9_lists_56 : decode cX9_lists 56 = .ok (.aload_n 0, 1) := by decide +kernel
theorem dX9_lists_57 : decode cX9_lists 57 = .ok (.getfield 30, 3) := by decide +kernel
theorem dX9_lists_60 : decode cX9_lists 60 = .ok (.getfield 258, 3) := by decide +kernel
theorem dX9_lists_63 : decode cX9_lists 63 = .ok (.ireturn, 1) := by decide +kernel
def b_X9_lists_0 (h : q_H) (v0 : Nat) (v1 : Int32) (v2 : Int32) (v3 : Int32) : Option (q_H × Int32) :=
  if v3 < 0 then some (h, (-1)) else if v3 ≤ (3) then Option.bind (f_X9_refusalOf h v0 v1 v2) (fun q1 => if 0 ≤ q1.2 then Option.bind (q_gR 8 4 q1.1 v0) (fun x2 => Option.bind (f_X4_clear q1.1 x2) (fun q3 => Option.bind (q_gR 8 0 q3.1 v0) (fun x4 => Option.bind (q_gR 7 0 q3.1 x4) (fun x5 => Option.bind (q_lR 4 q3.1 x5 v1) (fun x6 => Option.bind (q_gR 0 5 q3.1 x6) (fun x7 => Option.bind (q_gR 8 4 q3.1 v0) (fun x8 => Option.bind (f_X9_listBelow q_RD q3.1 x7 x8 v2 v3 (0)) (fun q9 => Option.bind (q_gR 8 4 q9.1 v0) (fun x10 => Option.bind (q_gI 3 1 q9.1 x10) (fun x11 => some (q9.1, x11))))))))))) else some (q1.1, q1.2)) else some (h, (-1))
def f_X9_lists (h : q_H) (a0 : Nat) (a1 : Int32) (a2 : Int32) (a3 : Int32) : Option (q_H × Int32) := q_chk 8 h a0 (b_X9_lists_0 h a0 a1 a2 a3)
set_option maxRecDepth 20000 in
set_option maxHeartbeats 1000000 in
theorem jb_X9_lists_0 {G : q_G} {l : Launch} {k0 z0 : Nat} (h : q_H) (v0 : Nat) (v1 : Int32) (v2 : Int32) (v3 : Int32) : q_J G l (RX9, cX9_lists, 5, 26, 686, (some .int), "lists", []) k0 z0 (q_Z G k0 z0 q_i) 0 [(0, .ref v0), (1, .int v1), (2, .int v2), (3, .int v3)] [] h (b_X9_lists_0 h v0 v1 v2 v3) := by
  unfold b_X9_lists_0
  refine j_iload_n (pc := 0) (p := 3) rfl rfl dX9_lists_0 ?_
  refine j_if_lt (pc := 1) (tgt := 9) dX9_lists_1 (by decide) (fun _ => ?_) (fun _ => ?_)
  · refine j_iconst (pc := 9) ki_m1 dX9_lists_9 ?_
    exact j_iret (pc := 10) rfl dX9_lists_10
  refine j_iload_n (pc := 4) (p := 3) rfl rfl dX9_lists_4 ?_
  refine j_iconst (pc := 5) ki_3 dX9_lists_5 ?_
  refine j_ic_le (pc := 6) (tgt := 11) dX9_lists_6 (by decide) (fun _ => ?_) (fun _ => ?_)
  · refine j_aload_n (pc := 11) (p := 0) rfl rfl dX9_lists_11 ?_
    refine j_iload_n (pc := 12) (p := 1) rfl rfl dX9_lists_12 ?_
    refine j_iload_n (pc := 13) (p := 2) rfl rfl dX9_lists_13 ?_
    refine j_cVi (pc := 14) Y_X9_refusalOf (ci := 8) (b := v0) rfl rfl ml_X9_212 im_X9_refusalOf se_X9_refusalOf ⟨Nat.le_of_ble_eq_true rfl, Nat.le_of_ble_eq_true rfl⟩ dX9_lists_14 (As := [.int v1, .int v2]) (rest := []) rfl rfl (Nat.le_of_ble_eq_true rfl) (fun x hq9 => c_X9_refusalOf _ _ _ _ _ hq9) (fun q1 _ => ?_)
    refine j_istore (pc := 17) (lv' := [(4, .int q1.2), (0, .ref v0), (1, .int v1), (2, .int v2), (3, .int v3)]) (by decide) rfl dX9_lists_17 ?_
    refine j_iload (pc := 19) (p := 0) rfl dX9_lists_19 ?_
    refine j_if_ge (pc := 21) (tgt := 27) dX9_lists_21 (by decide) (fun _ => ?_) (fun _ => ?_)
    · refine j_aload_n (pc := 27) (p := 1) rfl rfl dX9_lists_27 ?_
      refine j_getR (pc := 28) FI_X9 (k := 4) (by decide) fl_X9_30 dX9_lists_28 (fun x2 _ => ?_)
      refine j_cVu (pc := 31) Y_X4_clear (ci := 3) (b := x2) rfl rfl ml_X9_200 im_X4_clear se_X4_clear ⟨Nat.le_of_ble_eq_true rfl, Nat.le_of_ble_eq_true rfl⟩ dX9_lists_31 (As := []) (rest := []) rfl rfl (Nat.le_of_ble_eq_true rfl) (fun x hq9 => c_X4_clear _ _ _ hq9) (fun q3 _ => ?_)
      refine j_aload_n (pc := 34) (p := 1) rfl rfl dX9_lists_34 ?_
      refine j_getR (pc := 35) FI_X9 (k := 0) (by decide) fl_X9_12 dX9_lists_35 (fun x4 _ => ?_)
      refine j_getR (pc := 38) FI_X8 (k := 0) (by decide) fl_X9_82 dX9_lists_38 (fun x5 _ => ?_)
      refine j_iload_n (pc := 41) (p := 2) rfl rfl dX9_lists_41 ?_
      refine j_aald (pc := 42) (t := 4) rfl dX9_lists_42 (fun x6 _ => ?_)
      refine j_getR (pc := 43) FI_X0 (k := 5) (by decide) fl_X9_86 dX9_lists_43 (fun x7 _ => ?_)
      refine j_aload_n (pc := 46) (p := 1) rfl rfl dX9_lists_46 ?_
      refine j_getR (pc := 47) FI_X9 (k := 4) (by decide) fl_X9_30 dX9_lists_47 (fun x8 _ => ?_)
      refine j_iload_n (pc := 50) (p := 3) rfl rfl dX9_lists_50 ?_
      refine j_iload_n (pc := 51) (p := 4) rfl rfl dX9_lists_51 ?_
      refine j_iconst (pc := 52) ki_0 dX9_lists_52 ?_
      refine j_cSu (pc := 53) Y_X9_listBelow ml_X9_254 sm_X9_listBelow ⟨Nat.le_of_ble_eq_true rfl, Nat.le_of_ble_eq_true rfl⟩ dX9_lists_53 (As := [.ref x7, .ref x8, .int v2, .int v3, .int (0)]) (rest := []) rfl rfl (Nat.le_of_ble_eq_true rfl) (fun x hq9 => (c_X9_listBelow q_RD) _ _ _ _ _ _ _ hq9) (fun q9 _ => ?_)
      refine j_aload_n (pc := 56) (p := 1) rfl rfl dX9_lists_56 ?_
      refine j_getR (pc := 57) FI_X9 (k := 4) (by decide) fl_X9_30 dX9_lists_57 (fun x10 _ => ?_)
      refine j_getI (pc := 60) FI_X4 (k := 1) (by decide) fl_X9_258 dX9_lists_60 (fun x11 _ => ?_)
      exact j_iret (pc := 63) rfl dX9_lists_63
    refine j_iload (pc := 24) (p := 0) rfl dX9_lists_24 ?_
    exact j_iret (pc := 26) rfl dX9_lists_26
  refine j_iconst (pc := 9) ki_m1 dX9_lists_9 ?_
  exact j_iret (pc := 10) rfl dX9_lists_10
set_option maxRecDepth 20000 in
set_option maxHeartbeats 1000000 in
theorem c_X9_lists {G : q_G} {l : Launch} : ∀ (h : q_H) (a0 : Nat) (a1 : Int32) (a2 : Int32) (a3 : Int32) (q : q_H × Int32), f_X9_lists h a0 a1 a2 a3 = some q → (∃ fs, h.1 a0 = .inr (8, fs)) ∧ q_CT G l yX9_lists cX9_lists 5 (some .int) 26 686 [.ref a0, .int a1, .int a2, .int a3] h q.1 (q_i q.2) := by
  intro h a0 a1 a2 a3 q e
  obtain ⟨e1, e2⟩ := q_chk_ok e
  exact ⟨e1, q_ofJ Y_X9_lists (Nat.le_of_ble_eq_true rfl) (jb_X9_lists_0 h a0 a1 a2 a3) q e2⟩
/-! FarFolders.makes(IIII)I -/
theorem dX9_makes_0 : decode cX9_makes 0 = .ok (.iload_n 1, 1) := by decide +kernel
theorem dX9_makes_1 : decode cX9_makes 1 = .ok (.invokestatic 73, 3) := by decide +kernel
theorem dX9_makes_4 : decode cX9_makes 4 = .ok (.ifCond .ne 5, 3) := by decide +kernel
theorem dX9_makes_7 : decode cX9_makes 7 = .ok (.iconst (-1), 1) := by decide +kernel
theorem dX9_makes_8 : decode cX9_makes 8 = .ok (.ireturn, 1) := by decide +kernel
theorem dX9_makes_9 : decode cX9_makes 9 = .ok (.aload_n 0, 1) := by decide +kernel
theorem dX9_makes_10 : decode cX9_makes 10 = .ok (.getfield 12, 3) := by decide +kernel
theorem dX9_makes_13 : decode cX9_makes 13 = .ok (.iload_n 1, 1) := by decide +kernel
theorem dX9_makes_14 : decode cX9_makes 14 = .ok (.iload_n 2, 1) := by decide +kernel
theorem dX9_makes_15 : decode cX9_makes 15 = .ok (.iload_n 3, 1) := by decide +kernel
theorem dX9_makes_16 : decode cX9_makes 16 = .ok (.iload 4, 2) := by decide +kernel
theorem dX9_makes_18 : decode cX9_makes 18 = .ok (.invokevirtual 136, 3) := by decide +kernel
theorem dX9_makes_21 : decode cX9_makes 21 = .ok (.istore 5, 2) := by decide +kernel
theorem dX9_makes_23 : decode cX9_makes 23 = .ok (.iload 5, 2) := by decide +kernel
theorem dX9_makes_25 : decode cX9_makes 25 = .ok (.ifCond .lt 40, 3) := by decide +kernel
theorem dX9_makes_28 : decode cX9_makes 28 = .ok (.aload_n 0, 1) := by decide +kernel
theorem dX9_makes_29 : decode cX9_makes 29 = .ok (.getfield 12, 3) := by decide +kernel
theorem dX9_makes_32 : decode cX9_makes 32 = .ok (.getfield 82, 3) := by decide +kernel
theorem dX9_makes_35 : decode cX9_makes 35 = .ok (.iload_n 1, 1) := by decide +kernel
theorem dX9_makes_36 : decode cX9_makes 36 = .ok (.aaload, 1) := by decide +kernel
theorem dX9_makes_37 : decode cX9_makes 37 = .ok (.astore 6, 2) := by decide +kernel
theorem dX9_makes_39 : decode cX9_makes 39 = .ok (.aload_n 0, 1) := by decide +kernel
theorem dX9_makes_40 : decode cX9_makes 40 = .ok (.getfield 30, 3) := by decide +kernel
theorem dX9_makes_43 : decode cX9_makes 43 = .ok (.aload 6, 2) := by decide +kernel
theorem dX9_makes_45 : decode cX9_makes 45 = .ok (.getfield 133, 3) := by decide +kernel
theorem dX9_makes_48 : decode cX9_makes 48 = .ok (.aload 6, 2) := by decide +kernel
theorem dX9_makes_50 : decode cX9_makes 50 = .ok (.getfield 120, 3) := by decide +kernel
theorem dX9_makes_53 : decode cX9_makes 53 = .ok (.getfield 140, 3) := by decide +kernel
theorem dX9_makes_56 : decode cX9_makes 56 = .ok (.iconst 1, 1) := by decide +kernel
theorem dX9_makes_57 : decode cX9_makes 57 = .ok (.isub, 1) := by decide +kernel
theorem dX9_makes_58 : decode cX9_makes 58 = .ok (.iushr, 1) := by decide +kernel
theorem dX9_makes_59 : decode cX9_makes 59 = .ok (.iconst 1, 1) := by decide +kernel
theorem dX9_makes_60 : decode cX9_makes 60 = .ok (.iand, 1) := by decide +kernel
theorem dX9_makes_61 : decode cX9_makes 61 = .ok (.i2l, 1) := by decide +kernel
theorem dX9_makes_62 : decode cX9_makes 62 = .ok (.invokevirtual 141, 3) := by decide +kernel
theorem dX9_makes_65 : decode cX9_makes 65 = .ok (.iload 5, 2) := by decide +kernel
theorem dX9_makes_67 : decode cX9_makes 67 = .ok (.ireturn, 1) := by decide +kernel
def b_X9_makes_0 (h : q_H) (v0 : Nat) (v1 : Int32) (v2 : Int32) (v3 : Int32) (v4 : Int32) : Option (q_H × Int32) :=
  Option.bind (f_X9_isCopy h v1) (fun q1 => if q1.2 = 0 then some (q1.1, (-1)) else Option.bind (q_gR 8 0 q1.1 v0) (fun x2 => Option.bind (f_X8_make q1.1 x2 v1 v2 v3 v4) (fun q3 => if q3.2 < 0 then some (q3.1, q3.2) else Option.bind (q_gR 8 0 q3.1 v0) (fun x4 => Option.bind (q_gR 7 0 q3.1 x4) (fun x5 => Option.bind (q_lR 4 q3.1 x5 v1) (fun x6 => Option.bind (q_gR 8 4 q3.1 v0) (fun x7 => Option.bind (q_gI 0 6 q3.1 x6) (fun x8 => Option.bind (q_gR 0 3 q3.1 x6) (fun x9 => Option.bind (q_gI 4 1 q3.1 x9) (fun x10 => Option.bind (f_X4_tell q3.1 x7 (Int32.toInt64 ((q_iushr x8 (x10 - (1))) &&& (1)))) (fun q11 => some (q11.1, q3.2))))))))))))
def f_X9_makes (h : q_H) (a0 : Nat) (a1 : Int32) (a2 : Int32) (a3 : Int32) (a4 : Int32) : Option (q_H × Int32) := q_chk 8 h a0 (b_X9_makes_0 h a0 a1 a2 a3 a4)
set_option maxRecDepth 20000 in
set_option maxHeartbeats 1000000 in
theorem jb_X9_makes_0 {G : q_G} {l : Launch} {k0 z0 : Nat} (h : q_H) (v0 : Nat) (v1 : Int32) (v2 : Int32) (v3 : Int32) (v4 : Int32) : q_J G l (RX9, cX9_makes, 7, 3, 73, (some .int), "makes", []) k0 z0 (q_Z G k0 z0 q_i) 0 [(0, .ref v0), (1, .int v1), (2, .int v2), (3, .int v3), (4, .int v4)] [] h (b_X9_makes_0 h v0 v1 v2 v3 v4) := by
  unfold b_X9_makes_0
  refine j_iload_n (pc := 0) (p := 1) rfl rfl dX9_makes_0 ?_
  refine j_cSi (pc := 1) Y_X9_isCopy ml_X9_73 sm_X9_isCopy ⟨Nat.le_of_ble_eq_true rfl, Nat.le_of_ble_eq_true rfl⟩ dX9_makes_1 (As := [.int v1]) (rest := []) rfl rfl (Nat.le_of_ble_eq_true rfl) (fun x hq9 => c_X9_isCopy _ _ _ hq9) (fun q1 _ => ?_)
  refine j_if_ne (pc := 4) (tgt := 9) dX9_makes_4 (by decide) (fun _ => ?_) (fun _ => ?_)
  · refine j_iconst (pc := 7) ki_m1 dX9_makes_7 ?_
    exact j_iret (pc := 8) rfl dX9_makes_8
  refine j_aload_n (pc := 9) (p := 0) rfl rfl dX9_makes_9 ?_
  refine j_getR (pc := 10) FI_X9 (k := 0) (by decide) fl_X9_12 dX9_makes_10 (fun x2 _ => ?_)
  refine j_iload_n (pc := 13) (p := 1) rfl rfl dX9_makes_13 ?_
  refine j_iload_n (pc := 14) (p := 2) rfl rfl dX9_makes_14 ?_
  refine j_iload_n (pc := 15) (p := 3) rfl rfl dX9_makes_15 ?_
  refine j_iload (pc := 16) (p := 4) rfl dX9_makes_16 ?_
  refine j_cVi (pc := 18) Y_X8_make (ci := 7) (b := x2) rfl rfl ml_X9_136 im_X8_make se_X8_make ⟨Nat.le_of_ble_eq_true rfl, Nat.le_of_ble_eq_true rfl⟩ dX9_makes_18 (As := [.int v1, .int v2, .int v3, .int v4]) (rest := []) rfl rfl (Nat.le_of_ble_eq_true rfl) (fun x hq9 => c_X8_make _ _ _ _ _ _ _ hq9) (fun q3 _ => ?_)
  refine j_istore (pc := 21) (lv' := [(5, .int q3.2), (0, .ref v0), (1, .int v1), (2, .int v2), (3, .int v3), (4, .int v4)]) (by decide) rfl dX9_makes_21 ?_
  refine j_iload (pc := 23) (p := 0) rfl dX9_makes_23 ?_
  refine j_if_lt (pc := 25) (tgt := 65) dX9_makes_25 (by decide) (fun _ => ?_) (fun _ => ?_)
  · refine j_iload (pc := 65) (p := 0) rfl dX9_makes_65 ?_
    exact j_iret (pc := 67) rfl dX9_makes_67
  refine j_aload_n (pc := 28) (p := 1) rfl rfl dX9_makes_28 ?_
  refine j_getR (pc := 29) FI_X9 (k := 0) (by decide) fl_X9_12 dX9_makes_29 (fun x4 _ => ?_)
  refine j_getR (pc := 32) FI_X8 (k := 0) (by decide) fl_X9_82 dX9_makes_32 (fun x5 _ => ?_)
  refine j_iload_n (pc := 35) (p := 2) rfl rfl dX9_makes_35 ?_
  refine j_aald (pc := 36) (t := 4) rfl dX9_makes_36 (fun x6 _ => ?_)
  refine j_astore (pc := 37) (lv' := [(6, .ref x6), (5, .int q3.2), (0, .ref v0), (1, .int v1), (2, .int v2), (3, .int v3), (4, .int v4)]) (by decide) rfl dX9_makes_37 ?_
  refine j_aload_n (pc := 39) (p := 2) rfl rfl dX9_makes_39 ?_
  refine j_getR (pc := 40) FI_X9 (k := 4) (by decide) fl_X9_30 dX9_makes_40 (fun x7 _ => ?_)
  refine j_aload (pc := 43) (p := 0) rfl dX9_makes_43 ?_
  refine j_getI (pc := 45) FI_X0 (k := 6) (by decide) fl_X9_133 dX9_makes_45 (fun x8 _ => ?_)
  refine j_aload (pc := 48) (p := 0) rfl dX9_makes_48 ?_
  refine j_getR (pc := 50) FI_X0 (k := 3) (by decide) fl_X9_120 dX9_makes_50 (fun x9 _ => ?_)
  refine j_getI (pc := 53) FI_X5 (k := 1) (by decide) fl_X9_140 dX9_makes_53 (fun x10 _ => ?_)
  refine j_iconst (pc := 56) ki_1 dX9_makes_56 ?_
  refine j_isub (pc := 57) dX9_makes_57 ?_
  refine j_iushr (pc := 58) dX9_makes_58 ?_
  refine j_iconst (pc := 59) ki_1 dX9_makes_59 ?_
  refine j_iand (pc := 60) dX9_makes_60 ?_
  refine j_i2l (pc := 61) dX9_makes_61 ?_
  refine j_cVu (pc := 62) Y_X4_tell (ci := 3) (b := x7) rfl rfl ml_X9_141 im_X4_tell se_X4_tell ⟨Nat.le_of_ble_eq_true rfl, Nat.le_of_ble_eq_true rfl⟩ dX9_makes_62 (As := [.long (Int32.toInt64 ((q_iushr x8 (x10 - (1))) &&& (1)))]) (rest := []) rfl rfl (Nat.le_of_ble_eq_true rfl) (fun x hq9 => c_X4_tell _ _ _ _ hq9) (fun q11 _ => ?_)
  refine j_iload (pc := 65) (p := 1) rfl dX9_makes_65 ?_
  exact j_iret (pc := 67) rfl dX9_makes_67
set_option maxRecDepth 20000 in
set_option maxHeartbeats 1000000 in
theorem c_X9_makes {G : q_G} {l : Launch} : ∀ (h : q_H) (a0 : Nat) (a1 : Int32) (a2 : Int32) (a3 : Int32) (a4 : Int32) (q : q_H × Int32), f_X9_makes h a0 a1 a2 a3 a4 = some q → (∃ fs, h.1 a0 = .inr (8, fs)) ∧ q_CT G l yX9_makes cX9_makes 7 (some .int) 3 73 [.ref a0, .int a1, .int a2, .int a3, .int a4] h q.1 (q_i q.2) := by
  intro h a0 a1 a2 a3 a4 q e
  obtain ⟨e1, e2⟩ := q_chk_ok e
  exact ⟨e1, q_ofJ Y_X9_makes (Nat.le_of_ble_eq_true rfl) (jb_X9_makes_0 h a0 a1 a2 a3 a4) q e2⟩
/-! FarFolders.meets(III)I -/
theorem dX9_meets_0 : decode cX9_meets 0 = .ok (.iload_n 1, 1) := by decide +kernel
theorem dX9_meets_1 : decode cX9_meets 1 = .ok (.invokestatic 73, 3) := by decide +kernel
theorem dX9_meets_4 : decode cX9_meets 4 = .ok (.ifCond .eq 17, 3) := by decide +kernel
theorem dX9_meets_7 : decode cX9_meets 7 = .ok (.iload_n 2, 1) := by decide +kernel
theorem dX9_meets_8 : decode cX9_meets 8 = .ok (.invokestatic 232, 3) := by decide +kernel
theorem dX9_meets_11 : decode cX9_meets 11 = .ok (.ifCond .eq 10, 3) := by decide +kernel
theorem dX9_meets_14 : decode cX9_meets 14 = .ok (.iload_n 3, 1) := by decide +kernel
theorem dX9_meets_15 : decode cX9_meets 15 = .ok (.invokestatic 232, 3) := by decide +kernel
theorem dX9_meets_18 : decode cX9_meets 18 = .ok (.ifCond .ne 5, 3) := by decide +kernel
theorem dX9_meets_21 : decode cX9_meets 21 = .ok (.iconst (-1), 1) := by decide +kernel
theorem dX9_meets_22 : decode cX9_meets 22 = .ok (.ireturn, 1) := by decide +kernel
theorem dX9_meets_23 : decode cX9_meets 23 = .ok (.aload_n 0, 1) := by decide +kernel
theorem dX9_meets_24 : decode cX9_meets 24 = .ok (.getfield 12, 3) := by decide +kernel
theorem dX9_meets_27 : decode cX9_meets 27 = .ok (.getfield 82, 3) := by decide +kernel
theorem dX9_meets_30 : decode cX9_meets 30 = .ok (.iload_n 1, 1) := by decide +kernel
theorem dX9_meets_31 : decode cX9_meets 31 = .ok (.aaload, 1) := by decide +kernel
theorem dX9_meets_32 : decode cX9_meets 32 = .ok (.getfield 86, 3) := by decide +kernel
theorem dX9_meets_35 : decode cX9_meets 35 = .ok (.astore 4, 2) := by decide +kernel
theorem dX9_meets_37 : decode cX9_meets 37 = .ok (.aload 4, 2) := by decide +kernel
theorem dX9_meets_39 : decode cX9_meets 39 = .ok (.iload_n 2, 1) := by decide +kernel
theorem dX9_meets_40 : decode cX9_meets 40 = .ok (.invokevirtual 91, 3) := by decide +kernel
theorem dX9_meets_43 : decode cX9_meets 43 = .ok (.ifCond .eq 12, 3) := by decide +kernel
theorem dX9_meets_46 : decode cX9_meets 46 = .ok (.aload 4, 2) := by decide +kernel
theorem dX9_meets_48 : decode cX9_meets 48 = .ok (.iload_n 3, 1) := by decide +kernel
theorem dX9_meets_49 : decode cX9_meets 49 = .ok (.invokevirtual 91, 3) := by decide +kernel
theorem dX9_meets_52 : decode cX9_meets 52 = .ok (.ifCond .ne 6, 3) := by decide +kernel
theorem dX9_meets_55 : decode cX9_meets 55 = .ok (.bipush (-2), 2) := by decide +kernel
theorem dX9_meets_57 : decode cX9_meets 57 = .ok (.ireturn, 1) := by decide +kernel
theorem dX9_meets_58 : decode cX9_meets 58 = .ok (.aload 4, 2) := by decide +kernel
theorem dX9_meets_60 : decode cX9_meets 60 = .ok (.iload_n 2, 1) := by decide +kernel
theorem dX9_meets_61 : decode cX9_meets 61 = .ok (.invokevirtual 226, 3) := by decide +kernel
theorem dX9_meets_64 : decode cX9_meets 64 = .ok (.istore 5, 2) := by decide +kernel
theorem dX9_meets_66 : decode cX9_meets 66 = .ok (.iconst 0, 1) := by decide +kernel
theorem dX9_meets_67 : decode cX9_meets 67 = .ok (.istore 6, 2) := by decide +kernel
theorem dX9_meets_69 : decode cX9_meets 69 = .ok (.iload 6, 2) := by decide +kernel
theorem dX9_meets_71 : decode cX9_meets 71 = .ok (.iload 5, 2) := by decide +kernel
theorem dX9_meets_73 : decode cX9_meets 73 = .ok (.if_icmp .gt 33, 3) := by decide +kernel
theorem dX9_meets_76 : decode cX9_meets 76 = .ok (.aload 4, 2) := by decide +kernel
theorem dX9_meets_78 : decode cX9_meets 78 = .ok (.iload_n 2, 1) := by decide +kernel
theorem dX9_meets_79 : decode cX9_meets 79 = .ok (.iload 6, 2) := by decide +kernel
theorem dX9_meets_81 : decode cX9_meets 81 = .ok (.invokevirtual 229, 3) := by decide +kernel
theorem dX9_meets_84 : decode cX9_meets 84 = .ok (.istore 7, 2) := by decide +kernel
theorem dX9_meets_86 : decode cX9_meets 86 = .ok (.aload 4, 2) := by decide +kernel
theorem dX9_meets_88 : decode cX9_meets 88 = .ok (.iload_n 3, 1) := by decide +kernel
theorem dX9_meets_89 : decode cX9_meets 89 = .ok (.iload 7, 2) := by decide +kernel
theorem dX9_meets_91 : decode cX9_meets 91 = .ok (.invokevirtual 235, 3) := by decide +kernel
theorem dX9_meets_94 : decode cX9_meets 94 = .ok (.ifCond .eq 6, 3) := by decide +kernel
theorem dX9_meets_97 : decode cX9_meets 97 = .ok (.iload 7, 2) := by decide +kernel
theorem dX9_meets_99 : decode cX9_meets 99 = .ok (.ireturn, 1) := by decide +kernel
theorem dX9_meets_100 : decode cX9_meets 100 = .ok (.iinc 6 1, 3) := by decide +kernel
theorem dX9_meets_103 : decode cX9_meets 103 = .ok (.goto (-34), 3) := by decide +kernel
theorem dX9_meets_106 : decode cX9_meets 106 = .ok (.bipush (-3), 2) := by decide +kernel
theorem dX9_meets_108 : decode cX9_meets 108 = .ok (.ireturn, 1) := by decide +kernel
def b_X9_meets_69 (k69 : q_H → Int32 → Int32 → Nat → Int32 → Int32 → Option (q_H × Int32)) (h : q_H) (v2 : Int32) (v3 : Int32) (v4 : Nat) (v5 : Int32) (v6 : Int32) : Option (q_H × Int32) :=
  if v5 < v6 then some (h, (-3)) else Option.bind (f_X7_up h v4 v2 v6) (fun q1 => Option.bind (f_X7_liesWithin q1.1 v4 v3 q1.2) (fun q2 => if q2.2 = 0 then k69 q2.1 v2 v3 v4 v5 (v6 + 1) else some (q2.1, q1.2)))
def l_X9_meets_69 : Nat → q_H → Int32 → Int32 → Nat → Int32 → Int32 → Option (q_H × Int32)
  | 0, _, _, _, _, _, _ => none
  | n + 1, h, v2, v3, v4, v5, v6 => b_X9_meets_69 (l_X9_meets_69 n) h v2 v3 v4 v5 v6
def b_X9_meets_0 (h : q_H) (v0 : Nat) (v1 : Int32) (v2 : Int32) (v3 : Int32) : Option (q_H × Int32) :=
  Option.bind (f_X9_isCopy h v1) (fun q3 => if q3.2 = 0 then some (q3.1, (-1)) else Option.bind (f_X9_isNode q3.1 v2) (fun q4 => if q4.2 = 0 then some (q4.1, (-1)) else Option.bind (f_X9_isNode q4.1 v3) (fun q5 => if q5.2 = 0 then some (q5.1, (-1)) else Option.bind (q_gR 8 0 q5.1 v0) (fun x6 => Option.bind (q_gR 7 0 q5.1 x6) (fun x7 => Option.bind (q_lR 4 q5.1 x7 v1) (fun x8 => Option.bind (q_gR 0 5 q5.1 x8) (fun x9 => Option.bind (f_X7_isThere q5.1 x9 v2) (fun q10 => if q10.2 = 0 then some (q10.1, (-2)) else Option.bind (f_X7_isThere q10.1 x9 v3) (fun q11 => if q11.2 = 0 then some (q11.1, (-2)) else Option.bind (f_X7_stepsUp q11.1 x9 v2) (fun q12 => l_X9_meets_69 q_FU q12.1 v2 v3 x9 q12.2 (0)))))))))))
def f_X9_meets (h : q_H) (a0 : Nat) (a1 : Int32) (a2 : Int32) (a3 : Int32) : Option (q_H × Int32) := q_chk 8 h a0 (b_X9_meets_0 h a0 a1 a2 a3)
set_option maxRecDepth 20000 in
set_option maxHeartbeats 1000000 in
theorem jb_X9_meets_69 {G : q_G} {l : Launch} {k0 z0 : Nat} (k69 : q_H → Int32 → Int32 → Nat → Int32 → Int32 → Option (q_H × Int32)) (hk69 : ∀ (h : q_H) (v2 : Int32) (v3 : Int32) (v4 : Nat) (v5 : Int32) (v6 : Int32), q_J G l (RX9, cX9_meets, 8, 2, 45, (some .int), "meets", []) k0 z0 (q_Z G k0 z0 q_i) 69 [(2, .int v2), (3, .int v3), (4, .ref v4), (5, .int v5), (6, .int v6)] [] h (k69 h v2 v3 v4 v5 v6)) (h : q_H) (v2 : Int32) (v3 : Int32) (v4 : Nat) (v5 : Int32) (v6 : Int32) : q_J G l (RX9, cX9_meets, 8, 2, 45, (some .int), "meets", []) k0 z0 (q_Z G k0 z0 q_i) 69 [(2, .int v2), (3, .int v3), (4, .ref v4), (5, .int v5), (6, .int v6)] [] h (b_X9_meets_69 k69 h v2 v3 v4 v5 v6) := by
  unfold b_X9_meets_69
  refine j_iload (pc := 69) (p := 4) rfl dX9_meets_69 ?_
  refine j_iload (pc := 71) (p := 3) rfl dX9_meets_71 ?_
  refine j_ic_gt (pc := 73) (tgt := 106) dX9_meets_73 (by decide) (fun _ => ?_) (fun _ => ?_)
  · refine j_bipush (pc := 106) kb_m3 dX9_meets_106 ?_
    exact j_iret (pc := 108) rfl dX9_meets_108
  refine j_aload (pc := 76) (p := 2) rfl dX9_meets_76 ?_
  refine j_iload_n (pc := 78) (p := 0) rfl rfl dX9_meets_78 ?_
  refine j_iload (pc := 79) (p := 4) rfl dX9_meets_79 ?_
  refine j_cVi (pc := 81) Y_X7_up (ci := 6) (b := v4) rfl rfl ml_X9_229 im_X7_up se_X7_up ⟨Nat.le_of_ble_eq_true rfl, Nat.le_of_ble_eq_true rfl⟩ dX9_meets_81 (As := [.int v2, .int v6]) (rest := []) rfl rfl (Nat.le_of_ble_eq_true rfl) (fun x hq9 => c_X7_up _ _ _ _ _ hq9) (fun q1 _ => ?_)
  refine j_istore (pc := 84) (lv' := [(7, .int q1.2), (2, .int v2), (3, .int v3), (4, .ref v4), (5, .int v5), (6, .int v6)]) (by decide) rfl dX9_meets_84 ?_
  refine j_aload (pc := 86) (p := 3) rfl dX9_meets_86 ?_
  refine j_iload_n (pc := 88) (p := 2) rfl rfl dX9_meets_88 ?_
  refine j_iload (pc := 89) (p := 0) rfl dX9_meets_89 ?_
  refine j_cVi (pc := 91) Y_X7_liesWithin (ci := 6) (b := v4) rfl rfl ml_X9_235 im_X7_liesWithin se_X7_liesWithin ⟨Nat.le_of_ble_eq_true rfl, Nat.le_of_ble_eq_true rfl⟩ dX9_meets_91 (As := [.int v3, .int q1.2]) (rest := []) rfl rfl (Nat.le_of_ble_eq_true rfl) (fun x hq9 => c_X7_liesWithin _ _ _ _ _ hq9) (fun q2 _ => ?_)
  refine j_if_eq (pc := 94) (tgt := 100) dX9_meets_94 (by decide) (fun _ => ?_) (fun _ => ?_)
  · refine j_inc (pc := 100) (p := 5) (lv' := [(6, .int (v6 + 1)), (7, .int q1.2), (2, .int v2), (3, .int v3), (4, .ref v4), (5, .int v5)]) rfl ki_1 (by decide) rfl dX9_meets_100 ?_
    refine j_goto (pc := 103) (tgt := 69) dX9_meets_103 (by decide) ?_
    refine j_sub [2, 3, 4, 5, 0] (lv' := [(2, .int v2), (3, .int v3), (4, .ref v4), (5, .int v5), (6, .int (v6 + 1))]) rfl ?_
    exact hk69 _ _ _ _ _ _
  refine j_iload (pc := 97) (p := 0) rfl dX9_meets_97 ?_
  exact j_iret (pc := 99) rfl dX9_meets_99
set_option maxRecDepth 20000 in
set_option maxHeartbeats 1000000 in
theorem jl_X9_meets_69 {G : q_G} {l : Launch} {k0 z0 : Nat} (n : Nat) : ∀ (h : q_H) (v2 : Int32) (v3 : Int32) (v4 : Nat) (v5 : Int32) (v6 : Int32), q_J G l (RX9, cX9_meets, 8, 2, 45, (some .int), "meets", []) k0 z0 (q_Z G k0 z0 q_i) 69 [(2, .int v2), (3, .int v3), (4, .ref v4), (5, .int v5), (6, .int v6)] [] h (l_X9_meets_69 n h v2 v3 v4 v5 v6) := by
  induction n with
  | zero => intro h v2 v3 v4 v5 v6; exact j_none
  | succ n ih => intro h v2 v3 v4 v5 v6; exact jb_X9_meets_69 (l_X9_meets_69 n) ih h v2 v3 v4 v5 v6
set_option maxRecDepth 20000 in
set_option maxHeartbeats 1000000 in
theorem jb_X9_meets_0 {G : q_G} {l : Launch} {k0 z0 : Nat} (h : q_H) (v0 : Nat) (v1 : Int32) (v2 : Int32) (v3 : Int32) : q_J G l (RX9, cX9_meets, 8, 2, 45, (some .int), "meets", []) k0 z0 (q_Z G k0 z0 q_i) 0 [(0, .ref v0), (1, .int v1), (2, .int v2), (3, .int v3)] [] h (b_X9_meets_0 h v0 v1 v2 v3) := by
  unfold b_X9_meets_0
  refine j_iload_n (pc := 0) (p := 1) rfl rfl dX9_meets_0 ?_
  refine j_cSi (pc := 1) Y_X9_isCopy ml_X9_73 sm_X9_isCopy ⟨Nat.le_of_ble_eq_true rfl, Nat.le_of_ble_eq_true rfl⟩ dX9_meets_1 (As := [.int v1]) (rest := []) rfl rfl (Nat.le_of_ble_eq_true rfl) (fun x hq9 => c_X9_isCopy _ _ _ hq9) (fun q3 _ => ?_)
  refine j_if_eq (pc := 4) (tgt := 21) dX9_meets_4 (by decide) (fun _ => ?_) (fun _ => ?_)
  · refine j_iconst (pc := 21) ki_m1 dX9_meets_21 ?_
    exact j_iret (pc := 22) rfl dX9_meets_22
  refine j_iload_n (pc := 7) (p := 2) rfl rfl dX9_meets_7 ?_
  refine j_cSi (pc := 8) Y_X9_isNode ml_X9_232 sm_X9_isNode ⟨Nat.le_of_ble_eq_true rfl, Nat.le_of_ble_eq_true rfl⟩ dX9_meets_8 (As := [.int v2]) (rest := []) rfl rfl (Nat.le_of_ble_eq_true rfl) (fun x hq9 => c_X9_isNode _ _ _ hq9) (fun q4 _ => ?_)
  refine j_if_eq (pc := 11) (tgt := 21) dX9_meets_11 (by decide) (fun _ => ?_) (fun _ => ?_)
  · refine j_iconst (pc := 21) ki_m1 dX9_meets_21 ?_
    exact j_iret (pc := 22) rfl dX9_meets_22
  refine j_iload_n (pc := 14) (p := 3) rfl rfl dX9_meets_14 ?_
  refine j_cSi (pc := 15) Y_X9_isNode ml_X9_232 sm_X9_isNode ⟨Nat.le_of_ble_eq_true rfl, Nat.le_of_ble_eq_true rfl⟩ dX9_meets_15 (As := [.int v3]) (rest := []) rfl rfl (Nat.le_of_ble_eq_true rfl) (fun x hq9 => c_X9_isNode _ _ _ hq9) (fun q5 _ => ?_)
  refine j_if_ne (pc := 18) (tgt := 23) dX9_meets_18 (by decide) (fun _ => ?_) (fun _ => ?_)
  · refine j_iconst (pc := 21) ki_m1 dX9_meets_21 ?_
    exact j_iret (pc := 22) rfl dX9_meets_22
  refine j_aload_n (pc := 23) (p := 0) rfl rfl dX9_meets_23 ?_
  refine j_getR (pc := 24) FI_X9 (k := 0) (by decide) fl_X9_12 dX9_meets_24 (fun x6 _ => ?_)
  refine j_getR (pc := 27) FI_X8 (k := 0) (by decide) fl_X9_82 dX9_meets_27 (fun x7 _ => ?_)
  refine j_iload_n (pc := 30) (p := 1) rfl rfl dX9_meets_30 ?_
  refine j_aald (pc := 31) (t := 4) rfl dX9_meets_31 (fun x8 _ => ?_)
  refine j_getR (pc := 32) FI_X0 (k := 5) (by decide) fl_X9_86 dX9_meets_32 (fun x9 _ => ?_)
  refine j_astore (pc := 35) (lv' := [(4, .ref x9), (0, .ref v0), (1, .int v1), (2, .int v2), (3, .int v3)]) (by decide) rfl dX9_meets_35 ?_
  refine j_aload (pc := 37) (p := 0) rfl dX9_meets_37 ?_
  refine j_iload_n (pc := 39) (p := 3) rfl rfl dX9_meets_39 ?_
  refine j_cVi (pc := 40) Y_X7_isThere (ci := 6) (b := x9) rfl rfl ml_X9_91 im_X7_isThere se_X7_isThere ⟨Nat.le_of_ble_eq_true rfl, Nat.le_of_ble_eq_true rfl⟩ dX9_meets_40 (As := [.int v2]) (rest := []) rfl rfl (Nat.le_of_ble_eq_true rfl) (fun x hq9 => c_X7_isThere _ _ _ _ hq9) (fun q10 _ => ?_)
  refine j_if_eq (pc := 43) (tgt := 55) dX9_meets_43 (by decide) (fun _ => ?_) (fun _ => ?_)
  · refine j_bipush (pc := 55) kb_m2 dX9_meets_55 ?_
    exact j_iret (pc := 57) rfl dX9_meets_57
  refine j_aload (pc := 46) (p := 0) rfl dX9_meets_46 ?_
  refine j_iload_n (pc := 48) (p := 4) rfl rfl dX9_meets_48 ?_
  refine j_cVi (pc := 49) Y_X7_isThere (ci := 6) (b := x9) rfl rfl ml_X9_91 im_X7_isThere se_X7_isThere ⟨Nat.le_of_ble_eq_true rfl, Nat.le_of_ble_eq_true rfl⟩ dX9_meets_49 (As := [.int v3]) (rest := []) rfl rfl (Nat.le_of_ble_eq_true rfl) (fun x hq9 => c_X7_isThere _ _ _ _ hq9) (fun q11 _ => ?_)
  refine j_if_ne (pc := 52) (tgt := 58) dX9_meets_52 (by decide) (fun _ => ?_) (fun _ => ?_)
  · refine j_bipush (pc := 55) kb_m2 dX9_meets_55 ?_
    exact j_iret (pc := 57) rfl dX9_meets_57
  refine j_aload (pc := 58) (p := 0) rfl dX9_meets_58 ?_
  refine j_iload_n (pc := 60) (p := 3) rfl rfl dX9_meets_60 ?_
  refine j_cVi (pc := 61) Y_X7_stepsUp (ci := 6) (b := x9) rfl rfl ml_X9_226 im_X7_stepsUp se_X7_stepsUp ⟨Nat.le_of_ble_eq_true rfl, Nat.le_of_ble_eq_true rfl⟩ dX9_meets_61 (As := [.int v2]) (rest := []) rfl rfl (Nat.le_of_ble_eq_true rfl) (fun x hq9 => c_X7_stepsUp _ _ _ _ hq9) (fun q12 _ => ?_)
  refine j_istore (pc := 64) (lv' := [(5, .int q12.2), (4, .ref x9), (0, .ref v0), (1, .int v1), (2, .int v2), (3, .int v3)]) (by decide) rfl dX9_meets_64 ?_
  refine j_iconst (pc := 66) ki_0 dX9_meets_66 ?_
  refine j_istore (pc := 67) (lv' := [(6, .int (0)), (5, .int q12.2), (4, .ref x9), (0, .ref v0), (1, .int v1), (2, .int v2), (3, .int v3)]) (by decide) rfl dX9_meets_67 ?_
  refine j_sub [5, 6, 2, 1, 0] (lv' := [(2, .int v2), (3, .int v3), (4, .ref x9), (5, .int q12.2), (6, .int (0))]) rfl ?_
  exact jl_X9_meets_69 q_FU _ _ _ _ _ _
set_option maxRecDepth 20000 in
set_option maxHeartbeats 1000000 in
theorem c_X9_meets {G : q_G} {l : Launch} : ∀ (h : q_H) (a0 : Nat) (a1 : Int32) (a2 : Int32) (a3 : Int32) (q : q_H × Int32), f_X9_meets h a0 a1 a2 a3 = some q → (∃ fs, h.1 a0 = .inr (8, fs)) ∧ q_CT G l yX9_meets cX9_meets 8 (some .int) 2 45 [.ref a0, .int a1, .int a2, .int a3] h q.1 (q_i q.2) := by
  intro h a0 a1 a2 a3 q e
  obtain ⟨e1, e2⟩ := q_chk_ok e
  exact ⟨e1, q_ofJ Y_X9_meets (Nat.le_of_ble_eq_true rfl) (jb_X9_meets_0 h a0 a1 a2 a3) q e2⟩
/-! FarFolders.nearest(II)I -/
theorem dX9_nearest_0 : decode cX9_nearest 0 = .ok (.iload_n 1, 1) := by decide +kernel
theorem dX9_nearest_1 : decode cX9_nearest 1 = .ok (.iload_n 2, 1) := by decide +kernel
theorem dX9_nearest_2 : decode cX9_nearest 2 = .ok (.invokestatic 148, 3) := by decide +kernel
theorem dX9_nearest_5 : decode cX9_nearest 5 = .ok (.ifCond .ne 5, 3) := by decide +kernel
theorem dX9_nearest_8 : decode cX9_nearest 8 = .ok (.iconst (-1), 1) := by decide +kernel
theorem dX9_nearest_9 : decode cX9_nearest 9 = .ok (.ireturn, 1) := by decide +kernel
theorem dX9_nearest_10 : decode cX9_nearest 10 = .ok (.aload_n 0, 1) := by decide +kernel
theorem dX9_nearest_11 : decode cX9_nearest 11 = .ok (.getfield 58, 3) := by decide +kernel
theorem dX9_nearest_14 : decode cX9_nearest 14 = .ok (.aload_n 0, 1) := by decide +kernel
theorem dX9_nearest_15 : decode cX9_nearest 15 = .ok (.getfield 12, 3) := by decide +kernel
theorem dX9_nearest_18 : decode cX9_nearest 18 = .ok (.iload_n 1, 1) := by decide +kernel
theorem dX9_nearest_19 : decode cX9_nearest 19 = .ok (.iload_n 2, 1) := by decide +kernel
theorem dX9_nearest_20 : decode cX9_nearest 20 = .ok (.invokevirtual 317, 3) := by decide +kernel
theorem dX9_nearest_23 : decode cX9_nearest 23 = .ok (.istore_n 3, 1) := by decide +kernel
theorem dX9_nearest_24 : decode cX9_nearest 24 = .ok (.iload_n 3, 1) := by decide +kernel
theorem dX9_nearest_25 : decode cX9_nearest 25 = .ok (.ifCond .ge 6, 3) := by decide +kernel
theorem dX9_nearest_28 : decode cX9_nearest 28 = .ok (.bipush (-2), 2) := by decide +kernel
theorem dX9_nearest_30 : decode cX9_nearest 30 = .ok (.ireturn, 1) := by decide +kernel
theorem dX9_nearest_31 : decode cX9_nearest 31 = .ok (.aload_n 0, 1) := by decide +kernel
theorem dX9_nearest_32 : decode cX9_nearest 32 = .ok (.getfield 30, 3) := by decide +kernel
theorem dX9_nearest_35 : decode cX9_nearest 35 = .ok (.invokevirtual 200, 3) := by decide +kernel
theorem dX9_nearest_38 : decode cX9_nearest 38 = .ok (.iconst 0, 1) := by decide +kernel
theorem dX9_nearest_39 : decode cX9_nearest 39 = .ok (.istore 4, 2) := by decide +kernel
theorem dX9_nearest_41 : decode cX9_nearest 41 = .ok (.iload 4, 2) := by decide +kernel
theorem dX9_nearest_43 : decode cX9_nearest 43 = .ok (.iconst 4, 1) := by decide +kernel
theorem dX9_nearest_44 : decode cX9_nearest 44 = .ok (.if_icmp .ge 23, 3) := by decide +kernel
theorem dX9_nearest_47 : decode cX9_nearest 47 = .ok (.aload_n 0, 1) := by decide +kernel
theorem dX9_nearest_48 : decode cX9_nearest 48 = .ok (.getfield 30, 3) := by decide +kernel
theorem dX9_nearest_51 : decode cX9_nearest 51 = .ok (.iload_n 3, 1) := by decide +kernel
theorem dX9_nearest_52 : decode cX9_nearest 52 = .ok (.iload 4, 2) := by decide +kernel
theorem dX9_nearest_54 : decode cX9_nearest 54 = .ok (.invokestatic 321, 3) := by decide +kernel
theorem dX9_nearest_57 : decode cX9_nearest 57 = .ok (.i2l, 1) := by decide +kernel
theorem dX9_nearest_58 : decode cX9_nearest 58 = .ok (.invokevirtual 170, 3) := by decide +kernel
theorem dX9_nearest_61 : decode cX9_nearest 61 = .ok (.iinc 4 1, 3) := by decide +kernel
theorem dX9_nearest_64 : decode cX9_nearest 64 = .ok (.goto (-23), 3) := by decide +kernel
theorem dX9_nearest_67 : decode cX9_nearest 67 = .ok (.iload_n 3, 1) := by decide +kernel
theorem dX9_nearest_68 : decode cX9_nearest 68 = .ok (.invokestatic 324, 3) := by decide +kernel
theorem dX9_nearest_71 : decode cX9_nearest 71 = .ok (.ireturn, 1) := by decide +kernel
def b_X9_nearest_41 (k41 : q_H → Nat → Int32 → Int32 → Option (q_H × Int32)) (h : q_H) (v0 : Nat) (v3 : Int32) (v4 : Int32) : Option (q_H × Int32) :=
  if (4) ≤ v4 then Option.bind (f_X2_allLetters h v3) (fun q1 => some (q1.1, q1.2)) else Option.bind (q_gR 8 4 h v0) (fun x2 => Option.bind (f_X2_lettersOn h v3 v4) (fun q3 => Option.bind (f_X4_add q3.1 x2 (Int32.toInt64 q3.2)) (fun q4 => k41 q4.1 v0 v3 (v4 + 1))))
def l_X9_nearest_41 : Nat → q_H → Nat → Int32 → Int32 → Option (q_H × Int32)
  | 0, _, _, _, _ => none
  | n + 1, h, v0, v3, v4 => b_X9_nearest_41 (l_X9_nearest_41 n) h v0 v3 v4
def b_X9_nearest_0 (h : q_H) (v0 : Nat) (v1 : Int32) (v2 : Int32) : Option (q_H × Int32) :=
  Option.bind (f_X9_areTwoCopies h v1 v2) (fun q5 => if q5.2 = 0 then some (q5.1, (-1)) else Option.bind (q_gR 8 8 q5.1 v0) (fun x6 => Option.bind (q_gR 8 0 q5.1 v0) (fun x7 => Option.bind (f_X2_search q5.1 x6 x7 v1 v2) (fun q8 => if 0 ≤ q8.2 then Option.bind (q_gR 8 4 q8.1 v0) (fun x9 => Option.bind (f_X4_clear q8.1 x9) (fun q10 => l_X9_nearest_41 q_FU q10.1 v0 q8.2 (0))) else some (q8.1, (-2))))))
def f_X9_nearest (h : q_H) (a0 : Nat) (a1 : Int32) (a2 : Int32) : Option (q_H × Int32) := q_chk 8 h a0 (b_X9_nearest_0 h a0 a1 a2)
set_option maxRecDepth 20000 in
set_option maxHeartbeats 1000000 in
theorem jb_X9_nearest_41 {G : q_G} {l : Launch} {k0 z0 : Nat} (k41 : q_H → Nat → Int32 → Int32 → Option (q_H × Int32)) (hk41 : ∀ (h : q_H) (v0 : Nat) (v3 : Int32) (v4 : Int32), q_J G l (RX9, cX9_nearest, 5, 5, 162, (some .int), "nearest", []) k0 z0 (q_Z G k0 z0 q_i) 41 [(0, .ref v0), (3, .int v3), (4, .int v4)] [] h (k41 h v0 v3 v4)) (h : q_H) (v0 : Nat) (v3 : Int32) (v4 : Int32) : q_J G l (RX9, cX9_nearest, 5, 5, 162, (some .int), "nearest", []) k0 z0 (q_Z G k0 z0 q_i) 41 [(0, .ref v0), (3, .int v3), (4, .int v4)] [] h (b_X9_nearest_41 k41 h v0 v3 v4) := by
  unfold b_X9_nearest_41
  refine j_iload (pc := 41) (p := 2) rfl dX9_nearest_41 ?_
  refine j_iconst (pc := 43) ki_4 dX9_nearest_43 ?_
  refine j_ic_ge (pc := 44) (tgt := 67) dX9_nearest_44 (by decide) (fun _ => ?_) (fun _ => ?_)
  · refine j_iload_n (pc := 67) (p := 1) rfl rfl dX9_nearest_67 ?_
    refine j_cSi (pc := 68) Y_X2_allLetters ml_X9_324 sm_X2_allLetters ⟨Nat.le_of_ble_eq_true rfl, Nat.le_of_ble_eq_true rfl⟩ dX9_nearest_68 (As := [.int v3]) (rest := []) rfl rfl (Nat.le_of_ble_eq_true rfl) (fun x hq9 => c_X2_allLetters _ _ _ hq9) (fun q1 _ => ?_)
    exact j_iret (pc := 71) rfl dX9_nearest_71
  refine j_aload_n (pc := 47) (p := 0) rfl rfl dX9_nearest_47 ?_
  refine j_getR (pc := 48) FI_X9 (k := 4) (by decide) fl_X9_30 dX9_nearest_48 (fun x2 _ => ?_)
  refine j_iload_n (pc := 51) (p := 1) rfl rfl dX9_nearest_51 ?_
  refine j_iload (pc := 52) (p := 2) rfl dX9_nearest_52 ?_
  refine j_cSi (pc := 54) Y_X2_lettersOn ml_X9_321 sm_X2_lettersOn ⟨Nat.le_of_ble_eq_true rfl, Nat.le_of_ble_eq_true rfl⟩ dX9_nearest_54 (As := [.int v3, .int v4]) (rest := [.ref x2]) rfl rfl (Nat.le_of_ble_eq_true rfl) (fun x hq9 => c_X2_lettersOn _ _ _ _ hq9) (fun q3 _ => ?_)
  refine j_i2l (pc := 57) dX9_nearest_57 ?_
  refine j_cVu (pc := 58) Y_X4_add (ci := 3) (b := x2) rfl rfl ml_X9_170 im_X4_add se_X4_add ⟨Nat.le_of_ble_eq_true rfl, Nat.le_of_ble_eq_true rfl⟩ dX9_nearest_58 (As := [.long (Int32.toInt64 q3.2)]) (rest := []) rfl rfl (Nat.le_of_ble_eq_true rfl) (fun x hq9 => c_X4_add _ _ _ _ hq9) (fun q4 _ => ?_)
  refine j_inc (pc := 61) (p := 2) (lv' := [(4, .int (v4 + 1)), (0, .ref v0), (3, .int v3)]) rfl ki_1 (by decide) rfl dX9_nearest_61 ?_
  refine j_goto (pc := 64) (tgt := 41) dX9_nearest_64 (by decide) ?_
  refine j_sub [1, 2, 0] (lv' := [(0, .ref v0), (3, .int v3), (4, .int (v4 + 1))]) rfl ?_
  exact hk41 _ _ _ _
set_option maxRecDepth 20000 in
set_option maxHeartbeats 1000000 in
theorem jl_X9_nearest_41 {G : q_G} {l : Launch} {k0 z0 : Nat} (n : Nat) : ∀ (h : q_H) (v0 : Nat) (v3 : Int32) (v4 : Int32), q_J G l (RX9, cX9_nearest, 5, 5, 162, (some .int), "nearest", []) k0 z0 (q_Z G k0 z0 q_i) 41 [(0, .ref v0), (3, .int v3), (4, .int v4)] [] h (l_X9_nearest_41 n h v0 v3 v4) := by
  induction n with
  | zero => intro h v0 v3 v4; exact j_none
  | succ n ih => intro h v0 v3 v4; exact jb_X9_nearest_41 (l_X9_nearest_41 n) ih h v0 v3 v4
set_option maxRecDepth 20000 in
set_option maxHeartbeats 1000000 in
theorem jb_X9_nearest_0 {G : q_G} {l : Launch} {k0 z0 : Nat} (h : q_H) (v0 : Nat) (v1 : Int32) (v2 : Int32) : q_J G l (RX9, cX9_nearest, 5, 5, 162, (some .int), "nearest", []) k0 z0 (q_Z G k0 z0 q_i) 0 [(0, .ref v0), (1, .int v1), (2, .int v2)] [] h (b_X9_nearest_0 h v0 v1 v2) := by
  unfold b_X9_nearest_0
  refine j_iload_n (pc := 0) (p := 1) rfl rfl dX9_nearest_0 ?_
  refine j_iload_n (pc := 1) (p := 2) rfl rfl dX9_nearest_1 ?_
  refine j_cSi (pc := 2) Y_X9_areTwoCopies ml_X9_148 sm_X9_areTwoCopies ⟨Nat.le_of_ble_eq_true rfl, Nat.le_of_ble_eq_true rfl⟩ dX9_nearest_2 (As := [.int v1, .int v2]) (rest := []) rfl rfl (Nat.le_of_ble_eq_true rfl) (fun x hq9 => c_X9_areTwoCopies _ _ _ _ hq9) (fun q5 _ => ?_)
  refine j_if_ne (pc := 5) (tgt := 10) dX9_nearest_5 (by decide) (fun _ => ?_) (fun _ => ?_)
  · refine j_iconst (pc := 8) ki_m1 dX9_nearest_8 ?_
    exact j_iret (pc := 9) rfl dX9_nearest_9
  refine j_aload_n (pc := 10) (p := 0) rfl rfl dX9_nearest_10 ?_
  refine j_getR (pc := 11) FI_X9 (k := 8) (by decide) fl_X9_58 dX9_nearest_11 (fun x6 _ => ?_)
  refine j_aload_n (pc := 14) (p := 0) rfl rfl dX9_nearest_14 ?_
  refine j_getR (pc := 15) FI_X9 (k := 0) (by decide) fl_X9_12 dX9_nearest_15 (fun x7 _ => ?_)
  refine j_iload_n (pc := 18) (p := 1) rfl rfl dX9_nearest_18 ?_
  refine j_iload_n (pc := 19) (p := 2) rfl rfl dX9_nearest_19 ?_
  refine j_cVi (pc := 20) Y_X2_search (ci := 1) (b := x6) rfl rfl ml_X9_317 im_X2_search se_X2_search ⟨Nat.le_of_ble_eq_true rfl, Nat.le_of_ble_eq_true rfl⟩ dX9_nearest_20 (As := [.ref x7, .int v1, .int v2]) (rest := []) rfl rfl (Nat.le_of_ble_eq_true rfl) (fun x hq9 => c_X2_search _ _ _ _ _ _ hq9) (fun q8 _ => ?_)
  refine j_istore_n (pc := 23) (lv' := [(3, .int q8.2), (0, .ref v0), (1, .int v1), (2, .int v2)]) rfl (by decide) rfl dX9_nearest_23 ?_
  refine j_iload_n (pc := 24) (p := 0) rfl rfl dX9_nearest_24 ?_
  refine j_if_ge (pc := 25) (tgt := 31) dX9_nearest_25 (by decide) (fun _ => ?_) (fun _ => ?_)
  · refine j_aload_n (pc := 31) (p := 1) rfl rfl dX9_nearest_31 ?_
    refine j_getR (pc := 32) FI_X9 (k := 4) (by decide) fl_X9_30 dX9_nearest_32 (fun x9 _ => ?_)
    refine j_cVu (pc := 35) Y_X4_clear (ci := 3) (b := x9) rfl rfl ml_X9_200 im_X4_clear se_X4_clear ⟨Nat.le_of_ble_eq_true rfl, Nat.le_of_ble_eq_true rfl⟩ dX9_nearest_35 (As := []) (rest := []) rfl rfl (Nat.le_of_ble_eq_true rfl) (fun x hq9 => c_X4_clear _ _ _ hq9) (fun q10 _ => ?_)
    refine j_iconst (pc := 38) ki_0 dX9_nearest_38 ?_
    refine j_istore (pc := 39) (lv' := [(4, .int (0)), (3, .int q8.2), (0, .ref v0), (1, .int v1), (2, .int v2)]) (by decide) rfl dX9_nearest_39 ?_
    refine j_sub [2, 1, 0] (lv' := [(0, .ref v0), (3, .int q8.2), (4, .int (0))]) rfl ?_
    exact jl_X9_nearest_41 q_FU _ _ _ _
  refine j_bipush (pc := 28) kb_m2 dX9_nearest_28 ?_
  exact j_iret (pc := 30) rfl dX9_nearest_30
set_option maxRecDepth 20000 in
set_option maxHeartbeats 1000000 in
theorem c_X9_nearest {G : q_G} {l : Launch} : ∀ (h : q_H) (a0 : Nat) (a1 : Int32) (a2 : Int32) (q : q_H × Int32), f_X9_nearest h a0 a1 a2 = some q → (∃ fs, h.1 a0 = .inr (8, fs)) ∧ q_CT G l yX9_nearest cX9_nearest 5 (some .int) 5 162 [.ref a0, .int a1, .int a2] h q.1 (q_i q.2) := by
  intro h a0 a1 a2 q e
  obtain ⟨e1, e2⟩ := q_chk_ok e
  exact ⟨e1, q_ofJ Y_X9_nearest (Nat.le_of_ble_eq_true rfl) (jb_X9_nearest_0 h a0 a1 a2) q e2⟩
/-! FarFolders.path(II)I -/
theorem dX9_path_0 : decode cX9_path 0 = .ok (.aload_n 0, 1) := by decide +kernel
theorem dX9_path_1 : decode cX9_path 1 = .ok (.iload_n 1, 1) := by decide +kernel
theorem dX9_path_2 : decode cX9_path 2 = .ok (.iload_n 2, 1) := by decide +kernel
theorem dX9_path_3 : decode cX9_path 3 = .ok (.invokevirtual 212, 3) := by decide +kernel
theorem dX9_path_6 : decode cX9_path 6 = .ok (.istore_n 3, 1) := by decide +kernel
theorem dX9_path_7 : decode cX9_path 7 = .ok (.iload_n 3, 1) := by decide +kernel
theorem dX9_path_8 : decode cX9_path 8 = .ok (.ifCond .ge 5, 3) := by decide +kernel
theorem dX9_path_11 : decode cX9_path 11 = .ok (.iload_n 3, 1) := by decide +kernel
theorem dX9_path_12 : decode cX9_path 12 = .ok (.ireturn, 1) := by decide +kernel
theorem dX9_path_13 : decode cX9_path 13 = .ok (.aload_n 0, 1) := by decide +kernel
theorem dX9_path_14 : decode cX9_path 14 = .ok (.getfield 12, 3) := by decide +kernel
theorem dX9_path_17 : decode cX9_path 17 = .ok (.getfield 82, 3) := by decide +kernel
theorem dX9_path_20 : decode cX9_path 20 = .ok (.iload_n 1, 1) := by decide +kernel
theorem dX9_path_21 : decode cX9_path 21 = .ok (.aaload, 1) := by decide +kernel
theorem dX9_path_22 : decode cX9_path 22 = .ok (.getfield 86, 3) := by decide +kernel
theorem dX9_path_25 : decode cX9_path 25 = .ok (.astore 4, 2) := by decide +kernel
theorem dX9_path_27 : decode cX9_path 27 = .ok (.aload 4, 2) := by decide +kernel
theorem dX9_path_29 : decode cX9_path 29 = .ok (.iload_n 2, 1) := by decide +kernel
theorem dX9_path_30 : decode cX9_path 30 = .ok (.invokevirtual 226, 3) := by decide +kernel
theorem dX9_path_33 : decode cX9_path 33 = .ok (.istore 5, 2) := by decide +kernel
theorem dX9_path_35 : decode cX9_path 35 = .ok (.aload_n 0, 1) := by decide +kernel
theorem dX9_path_36 : decode cX9_path 36 = .ok (.getfield 30, 3) := by decide +kernel
theorem dX9_path_39 : decode cX9_path 39 = .ok (.invokevirtual 200, 3) := by decide +kernel
theorem dX9_path_42 : decode cX9_path 42 = .ok (.aload 4, 2) := by decide +kernel
theorem dX9_path_44 : decode cX9_path 44 = .ok (.iload_n 2, 1) := by decide +kernel
theorem dX9_path_45 : decode cX9_path 45 = .ok (.iload 5, 2) := by decide +kernel
theorem dX9_path_47 : decode cX9_path 47 = .ok (.invokevirtual 229, 3) := by decide +kernel
theorem dX9_path_50 : decode cX9_path 50 = .ok (.iconst 1, 1) := by decide +kernel
theorem dX9_path_51 : decode cX9_path 51 = .ok (.if_icmp .ne 13, 3) := by decide +kernel
theorem dX9_path_54 : decode cX9_path 54 = .ok (.aload_n 0, 1) := by decide +kernel
theorem dX9_path_55 : decode cX9_path 55 = .ok (.getfield 30, 3) := by decide +kernel
theorem dX9_path_58 : decode cX9_path 58 = .ok (.ldc2_w 265, 3) := by decide +kernel
theorem dX9_path_61 : decode cX9_path 61 = .ok (.invokevirtual 170, 3) := by decide +kernel
theorem dX9_path_64 : decode cX9_path 64 = .ok (.iload 5, 2) := by decide +kernel
theorem dX9_path_66 : decode cX9_path 66 = .ok (.iconst 1, 1) := by decide +kernel
theorem dX9_path_67 : decode cX9_path 67 = .ok (.isub, 1) := by decide +kernel
theorem dX9_path_68 : decode cX9_path 68 = .ok (.istore 6, 2) := by decide +kernel
theorem dX9_path_70 : decode cX9_path 70 = .ok (.iload 6, 2) := by decide +kernel
theorem dX9_path_72 : decode cX9_path 72 = .ok (.ifCond .lt 23, 3) := by decide +kernel
theorem dX9_path_75 : decode cX9_path 75 = .ok (.aload_n 0, 1) := by decide +kernel
theorem dX9_path_76 : decode cX9_path 76 = .ok (.aload 4, 2) := by decide +kernel
theorem dX9_path_78 : decode cX9_path 78 = .ok (.aload 4, 2) := by decide +kernel
theorem dX9_path_80 : decode cX9_path 80 = .ok (.iload_n 2, 1) := by decide +kernel
theorem dX9_path_81 : decode cX9_path 81 = .ok (.iload 6, 2) := by decide +kernel
theorem dX9_path_83 : decode cX9_path 83 = .ok (.invokevirtual 229, 3) := by decide +kernel
theorem dX9_path_86 : decode cX9_path 86 = .ok (.invokevirtual 267, 3) := by decide +kernel
theorem dX9_path_89 : decode cX9_path 89 = .ok (.iinc 6 (-1), 3) := by decide +kernel
theorem dX9_path_92 : decode cX9_path 92 = .ok (.goto (-22), 3) := by decide +kernel
theorem dX9_path_95 : decode cX9_path 95 = .ok (.aload_n 0, 1) := by decide +kernel
theorem dX9_path_96 : decode cX9_path 96 = .ok (.getfield 30, 3) := by decide +kernel
theorem dX9_path_99 : decode cX9_path 99 = .ok (.getfield 258, 3) := by decide +kernel
theorem dX9_path_102 : decode cX9_path 102 = .ok (.ireturn, 1) := by decide +kernel
def b_X9_path_70 (k70 : q_H → Nat → Int32 → Nat → Int32 → Option (q_H × Int32)) (h : q_H) (v0 : Nat) (v2 : Int32) (v4 : Nat) (v6 : Int32) : Option (q_H × Int32) :=
  if v6 < 0 then Option.bind (q_gR 8 4 h v0) (fun x1 => Option.bind (q_gI 3 1 h x1) (fun x2 => some (h, x2))) else Option.bind (f_X7_up h v4 v2 v6) (fun q3 => Option.bind (f_X9_addStep q3.1 v0 v4 q3.2) (fun q4 => k70 q4.1 v0 v2 v4 (v6 + (-1))))
def l_X9_path_70 : Nat → q_H → Nat → Int32 → Nat → Int32 → Option (q_H × Int32)
  | 0, _, _, _, _, _ => none
  | n + 1, h, v0, v2, v4, v6 => b_X9_path_70 (l_X9_path_70 n) h v0 v2 v4 v6
def b_X9_path_64 (h : q_H) (v0 : Nat) (v2 : Int32) (v4 : Nat) (v5 : Int32) : Option (q_H × Int32) :=
  l_X9_path_70 q_FU h v0 v2 v4 (v5 - (1))
def b_X9_path_0 (h : q_H) (v0 : Nat) (v1 : Int32) (v2 : Int32) : Option (q_H × Int32) :=
  Option.bind (f_X9_refusalOf h v0 v1 v2) (fun q5 => if 0 ≤ q5.2 then Option.bind (q_gR 8 0 q5.1 v0) (fun x6 => Option.bind (q_gR 7 0 q5.1 x6) (fun x7 => Option.bind (q_lR 4 q5.1 x7 v1) (fun x8 => Option.bind (q_gR 0 5 q5.1 x8) (fun x9 => Option.bind (f_X7_stepsUp q5.1 x9 v2) (fun q10 => Option.bind (q_gR 8 4 q10.1 v0) (fun x11 => Option.bind (f_X4_clear q10.1 x11) (fun q12 => Option.bind (f_X7_up q12.1 x9 v2 q10.2) (fun q13 => if q13.2 = (1) then Option.bind (q_gR 8 4 q13.1 v0) (fun x14 => Option.bind (f_X4_add q13.1 x14 (126)) (fun q15 => b_X9_path_64 q15.1 v0 v2 x9 q10.2)) else b_X9_path_64 q13.1 v0 v2 x9 q10.2)))))))) else some (q5.1, q5.2))
def f_X9_path (h : q_H) (a0 : Nat) (a1 : Int32) (a2 : Int32) : Option (q_H × Int32) := q_chk 8 h a0 (b_X9_path_0 h a0 a1 a2)
set_option maxRecDepth 20000 in
set_option maxHeartbeats 1000000 in
theorem jb_X9_path_70 {G : q_G} {l : Launch} {k0 z0 : Nat} (k70 : q_H → Nat → Int32 → Nat → Int32 → Option (q_H × Int32)) (hk70 : ∀ (h : q_H) (v0 : Nat) (v2 : Int32) (v4 : Nat) (v6 : Int32), q_J G l (RX9, cX9_path, 7, 4, 91, (some .int), "path", []) k0 z0 (q_Z G k0 z0 q_i) 70 [(0, .ref v0), (2, .int v2), (4, .ref v4), (6, .int v6)] [] h (k70 h v0 v2 v4 v6)) (h : q_H) (v0 : Nat) (v2 : Int32) (v4 : Nat) (v6 : Int32) : q_J G l (RX9, cX9_path, 7, 4, 91, (some .int), "path", []) k0 z0 (q_Z G k0 z0 q_i) 70 [(0, .ref v0), (2, .int v2), (4, .ref v4), (6, .int v6)] [] h (b_X9_path_70 k70 h v0 v2 v4 v6) := by
  unfold b_X9_path_70
  refine j_iload (pc := 70) (p := 3) rfl dX9_path_70 ?_
  refine j_if_lt (pc := 72) (tgt := 95) dX9_path_72 (by decide) (fun _ => ?_) (fun _ => ?_)
  · refine j_aload_n (pc := 95) (p := 0) rfl rfl dX9_path_95 ?_
    refine j_getR (pc := 96) FI_X9 (k := 4) (by decide) fl_X9_30 dX9_path_96 (fun x1 _ => ?_)
    refine j_getI (pc := 99) FI_X4 (k := 1) (by decide) fl_X9_258 dX9_path_99 (fun x2 _ => ?_)
    exact j_iret (pc := 102) rfl dX9_path_102
  refine j_aload_n (pc := 75) (p := 0) rfl rfl dX9_path_75 ?_
  refine j_aload (pc := 76) (p := 2) rfl dX9_path_76 ?_
  refine j_aload (pc := 78) (p := 2) rfl dX9_path_78 ?_
  refine j_iload_n (pc := 80) (p := 1) rfl rfl dX9_path_80 ?_
  refine j_iload (pc := 81) (p := 3) rfl dX9_path_81 ?_
  refine j_cVi (pc := 83) Y_X7_up (ci := 6) (b := v4) rfl rfl ml_X9_229 im_X7_up se_X7_up ⟨Nat.le_of_ble_eq_true rfl, Nat.le_of_ble_eq_true rfl⟩ dX9_path_83 (As := [.int v2, .int v6]) (rest := [.ref v4, .ref v0]) rfl rfl (Nat.le_of_ble_eq_true rfl) (fun x hq9 => c_X7_up _ _ _ _ _ hq9) (fun q3 _ => ?_)
  refine j_cVu (pc := 86) Y_X9_addStep (ci := 8) (b := v0) rfl rfl ml_X9_267 im_X9_addStep se_X9_addStep ⟨Nat.le_of_ble_eq_true rfl, Nat.le_of_ble_eq_true rfl⟩ dX9_path_86 (As := [.ref v4, .int q3.2]) (rest := []) rfl rfl (Nat.le_of_ble_eq_true rfl) (fun x hq9 => c_X9_addStep _ _ _ _ _ hq9) (fun q4 _ => ?_)
  refine j_inc (pc := 89) (p := 3) (lv' := [(6, .int (v6 + (-1))), (0, .ref v0), (2, .int v2), (4, .ref v4)]) rfl ki_m1 (by decide) rfl dX9_path_89 ?_
  refine j_goto (pc := 92) (tgt := 70) dX9_path_92 (by decide) ?_
  refine j_sub [1, 2, 3, 0] (lv' := [(0, .ref v0), (2, .int v2), (4, .ref v4), (6, .int (v6 + (-1)))]) rfl ?_
  exact hk70 _ _ _ _ _
set_option maxRecDepth 20000 in
set_option maxHeartbeats 1000000 in
theorem jl_X9_path_70 {G : q_G} {l : Launch} {k0 z0 : Nat} (n : Nat) : ∀ (h : q_H) (v0 : Nat) (v2 : Int32) (v4 : Nat) (v6 : Int32), q_J G l (RX9, cX9_path, 7, 4, 91, (some .int), "path", []) k0 z0 (q_Z G k0 z0 q_i) 70 [(0, .ref v0), (2, .int v2), (4, .ref v4), (6, .int v6)] [] h (l_X9_path_70 n h v0 v2 v4 v6) := by
  induction n with
  | zero => intro h v0 v2 v4 v6; exact j_none
  | succ n ih => intro h v0 v2 v4 v6; exact jb_X9_path_70 (l_X9_path_70 n) ih h v0 v2 v4 v6
set_option maxRecDepth 20000 in
set_option maxHeartbeats 1000000 in
theorem jb_X9_path_64 {G : q_G} {l : Launch} {k0 z0 : Nat} (h : q_H) (v0 : Nat) (v2 : Int32) (v4 : Nat) (v5 : Int32) : q_J G l (RX9, cX9_path, 7, 4, 91, (some .int), "path", []) k0 z0 (q_Z G k0 z0 q_i) 64 [(0, .ref v0), (2, .int v2), (4, .ref v4), (5, .int v5)] [] h (b_X9_path_64 h v0 v2 v4 v5) := by
  unfold b_X9_path_64
  refine j_iload (pc := 64) (p := 3) rfl dX9_path_64 ?_
  refine j_iconst (pc := 66) ki_1 dX9_path_66 ?_
  refine j_isub (pc := 67) dX9_path_67 ?_
  refine j_istore (pc := 68) (lv' := [(6, .int (v5 - (1))), (0, .ref v0), (2, .int v2), (4, .ref v4), (5, .int v5)]) (by decide) rfl dX9_path_68 ?_
  refine j_sub [1, 2, 3, 0] (lv' := [(0, .ref v0), (2, .int v2), (4, .ref v4), (6, .int (v5 - (1)))]) rfl ?_
  exact jl_X9_path_70 q_FU _ _ _ _ _
set_option maxRecDepth 20000 in
set_option maxHeartbeats 1000000 in
theorem jb_X9_path_0 {G : q_G} {l : Launch} {k0 z0 : Nat} (h : q_H) (v0 : Nat) (v1 : Int32) (v2 : Int32) : q_J G l (RX9, cX9_path, 7, 4, 91, (some .int), "path", []) k0 z0 (q_Z G k0 z0 q_i) 0 [(0, .ref v0), (1, .int v1), (2, .int v2)] [] h (b_X9_path_0 h v0 v1 v2) := by
  unfold b_X9_path_0
  refine j_aload_n (pc := 0) (p := 0) rfl rfl dX9_path_0 ?_
  refine j_iload_n (pc := 1) (p := 1) rfl rfl dX9_path_1 ?_
  refine j_iload_n (pc := 2) (p := 2) rfl rfl dX9_path_2 ?_
  refine j_cVi (pc := 3) Y_X9_refusalOf (ci := 8) (b := v0) rfl rfl ml_X9_212 im_X9_refusalOf se_X9_refusalOf ⟨Nat.le_of_ble_eq_true rfl, Nat.le_of_ble_eq_true rfl⟩ dX9_path_3 (As := [.int v1, .int v2]) (rest := []) rfl rfl (Nat.le_of_ble_eq_true rfl) (fun x hq9 => c_X9_refusalOf _ _ _ _ _ hq9) (fun q5 _ => ?_)
  refine j_istore_n (pc := 6) (lv' := [(3, .int q5.2), (0, .ref v0), (1, .int v1), (2, .int v2)]) rfl (by decide) rfl dX9_path_6 ?_
  refine j_iload_n (pc := 7) (p := 0) rfl rfl dX9_path_7 ?_
  refine j_if_ge (pc := 8) (tgt := 13) dX9_path_8 (by decide) (fun _ => ?_) (fun _ => ?_)
  · refine j_aload_n (pc := 13) (p := 1) rfl rfl dX9_path_13 ?_
    refine j_getR (pc := 14) FI_X9 (k := 0) (by decide) fl_X9_12 dX9_path_14 (fun x6 _ => ?_)
    refine j_getR (pc := 17) FI_X8 (k := 0) (by decide) fl_X9_82 dX9_path_17 (fun x7 _ => ?_)
    refine j_iload_n (pc := 20) (p := 2) rfl rfl dX9_path_20 ?_
    refine j_aald (pc := 21) (t := 4) rfl dX9_path_21 (fun x8 _ => ?_)
    refine j_getR (pc := 22) FI_X0 (k := 5) (by decide) fl_X9_86 dX9_path_22 (fun x9 _ => ?_)
    refine j_astore (pc := 25) (lv' := [(4, .ref x9), (3, .int q5.2), (0, .ref v0), (1, .int v1), (2, .int v2)]) (by decide) rfl dX9_path_25 ?_
    refine j_aload (pc := 27) (p := 0) rfl dX9_path_27 ?_
    refine j_iload_n (pc := 29) (p := 4) rfl rfl dX9_path_29 ?_
    refine j_cVi (pc := 30) Y_X7_stepsUp (ci := 6) (b := x9) rfl rfl ml_X9_226 im_X7_stepsUp se_X7_stepsUp ⟨Nat.le_of_ble_eq_true rfl, Nat.le_of_ble_eq_true rfl⟩ dX9_path_30 (As := [.int v2]) (rest := []) rfl rfl (Nat.le_of_ble_eq_true rfl) (fun x hq9 => c_X7_stepsUp _ _ _ _ hq9) (fun q10 _ => ?_)
    refine j_istore (pc := 33) (lv' := [(5, .int q10.2), (4, .ref x9), (3, .int q5.2), (0, .ref v0), (1, .int v1), (2, .int v2)]) (by decide) rfl dX9_path_33 ?_
    refine j_aload_n (pc := 35) (p := 3) rfl rfl dX9_path_35 ?_
    refine j_getR (pc := 36) FI_X9 (k := 4) (by decide) fl_X9_30 dX9_path_36 (fun x11 _ => ?_)
    refine j_cVu (pc := 39) Y_X4_clear (ci := 3) (b := x11) rfl rfl ml_X9_200 im_X4_clear se_X4_clear ⟨Nat.le_of_ble_eq_true rfl, Nat.le_of_ble_eq_true rfl⟩ dX9_path_39 (As := []) (rest := []) rfl rfl (Nat.le_of_ble_eq_true rfl) (fun x hq9 => c_X4_clear _ _ _ hq9) (fun q12 _ => ?_)
    refine j_aload (pc := 42) (p := 1) rfl dX9_path_42 ?_
    refine j_iload_n (pc := 44) (p := 5) rfl rfl dX9_path_44 ?_
    refine j_iload (pc := 45) (p := 0) rfl dX9_path_45 ?_
    refine j_cVi (pc := 47) Y_X7_up (ci := 6) (b := x9) rfl rfl ml_X9_229 im_X7_up se_X7_up ⟨Nat.le_of_ble_eq_true rfl, Nat.le_of_ble_eq_true rfl⟩ dX9_path_47 (As := [.int v2, .int q10.2]) (rest := []) rfl rfl (Nat.le_of_ble_eq_true rfl) (fun x hq9 => c_X7_up _ _ _ _ _ hq9) (fun q13 _ => ?_)
    refine j_iconst (pc := 50) ki_1 dX9_path_50 ?_
    refine j_ic_ne (pc := 51) (tgt := 64) dX9_path_51 (by decide) (fun _ => ?_) (fun _ => ?_)
    · refine j_aload_n (pc := 54) (p := 3) rfl rfl dX9_path_54 ?_
      refine j_getR (pc := 55) FI_X9 (k := 4) (by decide) fl_X9_30 dX9_path_55 (fun x14 _ => ?_)
      refine j_ldc2 (pc := 58) cL_X9_265 dX9_path_58 ?_
      refine j_cVu (pc := 61) Y_X4_add (ci := 3) (b := x14) rfl rfl ml_X9_170 im_X4_add se_X4_add ⟨Nat.le_of_ble_eq_true rfl, Nat.le_of_ble_eq_true rfl⟩ dX9_path_61 (As := [.long (126)]) (rest := []) rfl rfl (Nat.le_of_ble_eq_true rfl) (fun x hq9 => c_X4_add _ _ _ _ hq9) (fun q15 _ => ?_)
      refine j_sub [3, 5, 1, 0] (lv' := [(0, .ref v0), (2, .int v2), (4, .ref x9), (5, .int q10.2)]) rfl ?_
      exact jb_X9_path_64 _ _ _ _ _
    refine j_sub [3, 5, 1, 0] (lv' := [(0, .ref v0), (2, .int v2), (4, .ref x9), (5, .int q10.2)]) rfl ?_
    exact jb_X9_path_64 _ _ _ _ _
  refine j_iload_n (pc := 11) (p := 0) rfl rfl dX9_path_11 ?_
  exact j_iret (pc := 12) rfl dX9_path_12
set_option maxRecDepth 20000 in
set_option maxHeartbeats 1000000 in
theorem c_X9_path {G : q_G} {l : Launch} : ∀ (h : q_H) (a0 : Nat) (a1 : Int32) (a2 : Int32) (q : q_H × Int32), f_X9_path h a0 a1 a2 = some q → (∃ fs, h.1 a0 = .inr (8, fs)) ∧ q_CT G l yX9_path cX9_path 7 (some .int) 4 91 [.ref a0, .int a1, .int a2] h q.1 (q_i q.2) := by
  intro h a0 a1 a2 q e
  obtain ⟨e1, e2⟩ := q_chk_ok e
  exact ⟨e1, q_ofJ Y_X9_path (Nat.le_of_ble_eq_true rfl) (jb_X9_path_0 h a0 a1 a2) q e2⟩
/-! FarFolders.places(II)I -/
theorem dX9_places_0 : decode cX9_places 0 = .ok (.iload_n 1, 1) := by decide +kernel
theorem dX9_places_1 : decode cX9_places 1 = .ok (.invokestatic 73, 3) := by decide +kernel
theorem dX9_places_4 : decode cX9_places 4 = .ok (.ifCond .eq 10, 3) := by decide +kernel
theorem dX9_places_7 : decode cX9_places 7 = .ok (.iload_n 2, 1) := by decide +kernel
theorem dX9_places_8 : decode cX9_places 8 = .ok (.invokestatic 76, 3) := by decide +kernel
theorem dX9_places_11 : decode cX9_places 11 = .ok (.ifCond .ne 5, 3) := by decide +kernel
theorem dX9_places_14 : decode cX9_places 14 = .ok (.iconst (-1), 1) := by decide +kernel
theorem dX9_places_15 : decode cX9_places 15 = .ok (.ireturn, 1) := by decide +kernel
theorem dX9_places_16 : decode cX9_places 16 = .ok (.aload_n 0, 1) := by decide +kernel
theorem dX9_places_17 : decode cX9_places 17 = .ok (.getfield 12, 3) := by decide +kernel
theorem dX9_places_20 : decode cX9_places 20 = .ok (.getfield 82, 3) := by decide +kernel
theorem dX9_places_23 : decode cX9_places 23 = .ok (.iload_n 1, 1) := by decide +kernel
theorem dX9_places_24 : decode cX9_places 24 = .ok (.aaload, 1) := by decide +kernel
theorem dX9_places_25 : decode cX9_places 25 = .ok (.getfield 86, 3) := by decide +kernel
theorem dX9_places_28 : decode cX9_places 28 = .ok (.astore_n 3, 1) := by decide +kernel
theorem dX9_places_29 : decode cX9_places 29 = .ok (.iconst 0, 1) := by decide +kernel
theorem dX9_places_30 : decode cX9_places 30 = .ok (.istore 4, 2) := by decide +kernel
theorem dX9_places_32 : decode cX9_places 32 = .ok (.iconst 0, 1) := by decide +kernel
theorem dX9_places_33 : decode cX9_places 33 = .ok (.istore 5, 2) := by decide +kernel
theorem dX9_places_35 : decode cX9_places 35 = .ok (.iload 5, 2) := by decide +kernel
theorem dX9_places_37 : decode cX9_places 37 = .ok (.bipush 14, 2) := by decide +kernel
theorem dX9_places_39 : decode cX9_places 39 = .ok (.if_icmp .ge 37, 3) := by decide +kernel
theorem dX9_places_42 : decode cX9_places 42 = .ok (.aload_n 3, 1) := by decide +kernel
theorem dX9_places_43 : decode cX9_places 43 = .ok (.iload 5, 2) := by decide +kernel
theorem dX9_places_45 : decode cX9_places 45 = .ok (.invokevirtual 91, 3) := by decide +kernel
theorem dX9_places_48 : decode cX9_places 48 = .ok (.ifCond .eq 22, 3) := by decide +kernel
theorem dX9_places_51 : decode cX9_places 51 = .ok (.aload_n 3, 1) := by decide +kernel
theorem dX9_places_52 : decode cX9_places 52 = .ok (.iload 5, 2) := by decide +kernel
theorem dX9_places_54 : decode cX9_places 54 = .ok (.iload_n 2, 1) := by decide +kernel
theorem dX9_places_55 : decode cX9_places 55 = .ok (.invokevirtual 235, 3) := by decide +kernel
theorem dX9_places_58 : decode cX9_places 58 = .ok (.ifCond .ne 12, 3) := by decide +kernel
theorem dX9_places_61 : decode cX9_places 61 = .ok (.iload 4, 2) := by decide +kernel
theorem dX9_places_63 : decode cX9_places 63 = .ok (.iconst 1, 1) := by decide +kernel
theorem dX9_places_64 : decode cX9_places 64 = .ok (.iload 5, 2) := by decide +kernel
theorem dX9_places_66 : decode cX9_places 66 = .ok (.ishl, 1) := by decide +kernel
theorem dX9_places_67 : decode cX9_places 67 = .ok (.ior, 1) := by decide +kernel
theorem dX9_places_68 : decode cX9_places 68 = .ok (.istore 4, 2) := by decide +kernel
theorem dX9_places_70 : decode cX9_places 70 = .ok (.iinc 5 1, 3) := by decide +kernel
theorem dX9_places_73 : decode cX9_places 73 = .ok (.goto (-38), 3) := by decide +kernel
theorem dX9_places_76 : decode cX9_places 76 = .ok (.iload 4, 2) := by decide +kernel
theorem dX9_places_78 : decode cX9_places 78 = .ok (.ireturn, 1) := by decide +kernel
def b_X9_places_70 (k35 : q_H → Int32 → Nat → Int32 → Int32 → Option (q_H × Int32)) (h : q_H) (v2 : Int32) (v3 : Nat) (v4 : Int32) (v5 : Int32) : Option (q_H × Int32) :=
  k35 h v2 v3 v4 (v5 + 1)
def b_X9_places_35 (k35 : q_H → Int32 → Nat → Int32 → Int32 → Option (q_H × Int32)) (h : q_H) (v2 : Int32) (v3 : Nat) (v4 : Int32) (v5 : Int32) : Option (q_H × Int32) :=
  if (14) ≤ v5 then some (h, v4) else Option.bind (f_X7_isThere h v3 v5) (fun q1 => if q1.2 = 0 then b_X9_places_70 k35 q1.1 v2 v3 v4 v5 else Option.bind (f_X7_liesWithin q1.1 v3 v5 v2) (fun q2 => if q2.2 = 0 then b_X9_places_70 k35 q2.1 v2 v3 (v4 ||| ((1) <<< (v5 &&& 31))) v5 else b_X9_places_70 k35 q2.1 v2 v3 v4 v5))
def l_X9_places_35 : Nat → q_H → Int32 → Nat → Int32 → Int32 → Option (q_H × Int32)
  | 0, _, _, _, _, _ => none
  | n + 1, h, v2, v3, v4, v5 => b_X9_places_35 (l_X9_places_35 n) h v2 v3 v4 v5
def b_X9_places_0 (h : q_H) (v0 : Nat) (v1 : Int32) (v2 : Int32) : Option (q_H × Int32) :=
  Option.bind (f_X9_isCopy h v1) (fun q3 => if q3.2 = 0 then some (q3.1, (-1)) else Option.bind (f_X9_isFolder q3.1 v2) (fun q4 => if q4.2 = 0 then some (q4.1, (-1)) else Option.bind (q_gR 8 0 q4.1 v0) (fun x5 => Option.bind (q_gR 7 0 q4.1 x5) (fun x6 => Option.bind (q_lR 4 q4.1 x6 v1) (fun x7 => Option.bind (q_gR 0 5 q4.1 x7) (fun x8 => l_X9_places_35 q_FU q4.1 v2 x8 (0) (0)))))))
def f_X9_places (h : q_H) (a0 : Nat) (a1 : Int32) (a2 : Int32) : Option (q_H × Int32) := q_chk 8 h a0 (b_X9_places_0 h a0 a1 a2)
set_option maxRecDepth 20000 in
set_option maxHeartbeats 1000000 in
theorem jb_X9_places_70 {G : q_G} {l : Launch} {k0 z0 : Nat} (k35 : q_H → Int32 → Nat → Int32 → Int32 → Option (q_H × Int32)) (hk35 : ∀ (h : q_H) (v2 : Int32) (v3 : Nat) (v4 : Int32) (v5 : Int32), q_J G l (RX9, cX9_places, 6, 2, 45, (some .int), "places", []) k0 z0 (q_Z G k0 z0 q_i) 35 [(2, .int v2), (3, .ref v3), (4, .int v4), (5, .int v5)] [] h (k35 h v2 v3 v4 v5)) (h : q_H) (v2 : Int32) (v3 : Nat) (v4 : Int32) (v5 : Int32) : q_J G l (RX9, cX9_places, 6, 2, 45, (some .int), "places", []) k0 z0 (q_Z G k0 z0 q_i) 70 [(2, .int v2), (3, .ref v3), (4, .int v4), (5, .int v5)] [] h (b_X9_places_70 k35 h v2 v3 v4 v5) := by
  unfold b_X9_places_70
  refine j_inc (pc := 70) (p := 3) (lv' := [(5, .int (v5 + 1)), (2, .int v2), (3, .ref v3), (4, .int v4)]) rfl ki_1 (by decide) rfl dX9_places_70 ?_
  refine j_goto (pc := 73) (tgt := 35) dX9_places_73 (by decide) ?_
  refine j_sub [1, 2, 3, 0] (lv' := [(2, .int v2), (3, .ref v3), (4, .int v4), (5, .int (v5 + 1))]) rfl ?_
  exact hk35 _ _ _ _ _
set_option maxRecDepth 20000 in
set_option maxHeartbeats 1000000 in
theorem jb_X9_places_35 {G : q_G} {l : Launch} {k0 z0 : Nat} (k35 : q_H → Int32 → Nat → Int32 → Int32 → Option (q_H × Int32)) (hk35 : ∀ (h : q_H) (v2 : Int32) (v3 : Nat) (v4 : Int32) (v5 : Int32), q_J G l (RX9, cX9_places, 6, 2, 45, (some .int), "places", []) k0 z0 (q_Z G k0 z0 q_i) 35 [(2, .int v2), (3, .ref v3), (4, .int v4), (5, .int v5)] [] h (k35 h v2 v3 v4 v5)) (h : q_H) (v2 : Int32) (v3 : Nat) (v4 : Int32) (v5 : Int32) : q_J G l (RX9, cX9_places, 6, 2, 45, (some .int), "places", []) k0 z0 (q_Z G k0 z0 q_i) 35 [(2, .int v2), (3, .ref v3), (4, .int v4), (5, .int v5)] [] h (b_X9_places_35 k35 h v2 v3 v4 v5) := by
  unfold b_X9_places_35
  refine j_iload (pc := 35) (p := 3) rfl dX9_places_35 ?_
  refine j_bipush (pc := 37) kb_14 dX9_places_37 ?_
  refine j_ic_ge (pc := 39) (tgt := 76) dX9_places_39 (by decide) (fun _ => ?_) (fun _ => ?_)
  · refine j_iload (pc := 76) (p := 2) rfl dX9_places_76 ?_
    exact j_iret (pc := 78) rfl dX9_places_78
  refine j_aload_n (pc := 42) (p := 1) rfl rfl dX9_places_42 ?_
  refine j_iload (pc := 43) (p := 3) rfl dX9_places_43 ?_
  refine j_cVi (pc := 45) Y_X7_isThere (ci := 6) (b := v3) rfl rfl ml_X9_91 im_X7_isThere se_X7_isThere ⟨Nat.le_of_ble_eq_true rfl, Nat.le_of_ble_eq_true rfl⟩ dX9_places_45 (As := [.int v5]) (rest := []) rfl rfl (Nat.le_of_ble_eq_true rfl) (fun x hq9 => c_X7_isThere _ _ _ _ hq9) (fun q1 _ => ?_)
  refine j_if_eq (pc := 48) (tgt := 70) dX9_places_48 (by decide) (fun _ => ?_) (fun _ => ?_)
  · exact jb_X9_places_70 k35 hk35 _ _ _ _ _
  refine j_aload_n (pc := 51) (p := 1) rfl rfl dX9_places_51 ?_
  refine j_iload (pc := 52) (p := 3) rfl dX9_places_52 ?_
  refine j_iload_n (pc := 54) (p := 0) rfl rfl dX9_places_54 ?_
  refine j_cVi (pc := 55) Y_X7_liesWithin (ci := 6) (b := v3) rfl rfl ml_X9_235 im_X7_liesWithin se_X7_liesWithin ⟨Nat.le_of_ble_eq_true rfl, Nat.le_of_ble_eq_true rfl⟩ dX9_places_55 (As := [.int v5, .int v2]) (rest := []) rfl rfl (Nat.le_of_ble_eq_true rfl) (fun x hq9 => c_X7_liesWithin _ _ _ _ _ hq9) (fun q2 _ => ?_)
  refine j_if_ne (pc := 58) (tgt := 70) dX9_places_58 (by decide) (fun _ => ?_) (fun _ => ?_)
  · refine j_iload (pc := 61) (p := 2) rfl dX9_places_61 ?_
    refine j_iconst (pc := 63) ki_1 dX9_places_63 ?_
    refine j_iload (pc := 64) (p := 3) rfl dX9_places_64 ?_
    refine j_ishl (pc := 66) dX9_places_66 ?_
    refine j_ior (pc := 67) dX9_places_67 ?_
    refine j_istore (pc := 68) (lv' := [(4, .int (v4 ||| ((1) <<< (v5 &&& 31)))), (2, .int v2), (3, .ref v3), (5, .int v5)]) (by decide) rfl dX9_places_68 ?_
    refine j_sub [1, 2, 0, 3] (lv' := [(2, .int v2), (3, .ref v3), (4, .int (v4 ||| ((1) <<< (v5 &&& 31)))), (5, .int v5)]) rfl ?_
    exact jb_X9_places_70 k35 hk35 _ _ _ _ _
  exact jb_X9_places_70 k35 hk35 _ _ _ _ _
set_option maxRecDepth 20000 in
set_option maxHeartbeats 1000000 in
theorem jl_X9_places_35 {G : q_G} {l : Launch} {k0 z0 : Nat} (n : Nat) : ∀ (h : q_H) (v2 : Int32) (v3 : Nat) (v4 : Int32) (v5 : Int32), q_J G l (RX9, cX9_places, 6, 2, 45, (some .int), "places", []) k0 z0 (q_Z G k0 z0 q_i) 35 [(2, .int v2), (3, .ref v3), (4, .int v4), (5, .int v5)] [] h (l_X9_places_35 n h v2 v3 v4 v5) := by
  induction n with
  | zero => intro h v2 v3 v4 v5; exact j_none
  | succ n ih => intro h v2 v3 v4 v5; exact jb_X9_places_35 (l_X9_places_35 n) ih h v2 v3 v4 v5
set_option maxRecDepth 20000 in
set_option maxHeartbeats 1000000 in
theorem jb_X9_places_0 {G : q_G} {l : Launch} {k0 z0 : Nat} (h : q_H) (v0 : Nat) (v1 : Int32) (v2 : Int32) : q_J G l (RX9, cX9_places, 6, 2, 45, (some .int), "places", []) k0 z0 (q_Z G k0 z0 q_i) 0 [(0, .ref v0), (1, .int v1), (2, .int v2)] [] h (b_X9_places_0 h v0 v1 v2) := by
  unfold b_X9_places_0
  refine j_iload_n (pc := 0) (p := 1) rfl rfl dX9_places_0 ?_
  refine j_cSi (pc := 1) Y_X9_isCopy ml_X9_73 sm_X9_isCopy ⟨Nat.le_of_ble_eq_true rfl, Nat.le_of_ble_eq_true rfl⟩ dX9_places_1 (As := [.int v1]) (rest := []) rfl rfl (Nat.le_of_ble_eq_true rfl) (fun x hq9 => c_X9_isCopy _ _ _ hq9) (fun q3 _ => ?_)
  refine j_if_eq (pc := 4) (tgt := 14) dX9_places_4 (by decide) (fun _ => ?_) (fun _ => ?_)
  · refine j_iconst (pc := 14) ki_m1 dX9_places_14 ?_
    exact j_iret (pc := 15) rfl dX9_places_15
  refine j_iload_n (pc := 7) (p := 2) rfl rfl dX9_places_7 ?_
  refine j_cSi (pc := 8) Y_X9_isFolder ml_X9_76 sm_X9_isFolder ⟨Nat.le_of_ble_eq_true rfl, Nat.le_of_ble_eq_true rfl⟩ dX9_places_8 (As := [.int v2]) (rest := []) rfl rfl (Nat.le_of_ble_eq_true rfl) (fun x hq9 => c_X9_isFolder _ _ _ hq9) (fun q4 _ => ?_)
  refine j_if_ne (pc := 11) (tgt := 16) dX9_places_11 (by decide) (fun _ => ?_) (fun _ => ?_)
  · refine j_iconst (pc := 14) ki_m1 dX9_places_14 ?_
    exact j_iret (pc := 15) rfl dX9_places_15
  refine j_aload_n (pc := 16) (p := 0) rfl rfl dX9_places_16 ?_
  refine j_getR (pc := 17) FI_X9 (k := 0) (by decide) fl_X9_12 dX9_places_17 (fun x5 _ => ?_)
  refine j_getR (pc := 20) FI_X8 (k := 0) (by decide) fl_X9_82 dX9_places_20 (fun x6 _ => ?_)
  refine j_iload_n (pc := 23) (p := 1) rfl rfl dX9_places_23 ?_
  refine j_aald (pc := 24) (t := 4) rfl dX9_places_24 (fun x7 _ => ?_)
  refine j_getR (pc := 25) FI_X0 (k := 5) (by decide) fl_X9_86 dX9_places_25 (fun x8 _ => ?_)
  refine j_astore_n (pc := 28) (lv' := [(3, .ref x8), (0, .ref v0), (1, .int v1), (2, .int v2)]) rfl (by decide) rfl dX9_places_28 ?_
  refine j_iconst (pc := 29) ki_0 dX9_places_29 ?_
  refine j_istore (pc := 30) (lv' := [(4, .int (0)), (3, .ref x8), (0, .ref v0), (1, .int v1), (2, .int v2)]) (by decide) rfl dX9_places_30 ?_
  refine j_iconst (pc := 32) ki_0 dX9_places_32 ?_
  refine j_istore (pc := 33) (lv' := [(5, .int (0)), (4, .int (0)), (3, .ref x8), (0, .ref v0), (1, .int v1), (2, .int v2)]) (by decide) rfl dX9_places_33 ?_
  refine j_sub [5, 2, 1, 0] (lv' := [(2, .int v2), (3, .ref x8), (4, .int (0)), (5, .int (0))]) rfl ?_
  exact jl_X9_places_35 q_FU _ _ _ _ _
set_option maxRecDepth 20000 in
set_option maxHeartbeats 1000000 in
theorem c_X9_places {G : q_G} {l : Launch} : ∀ (h : q_H) (a0 : Nat) (a1 : Int32) (a2 : Int32) (q : q_H × Int32), f_X9_places h a0 a1 a2 = some q → (∃ fs, h.1 a0 = .inr (8, fs)) ∧ q_CT G l yX9_places cX9_places 6 (some .int) 2 45 [.ref a0, .int a1, .int a2] h q.1 (q_i q.2) := by
  intro h a0 a1 a2 q e
  obtain ⟨e1, e2⟩ := q_chk_ok e
  exact ⟨e1, q_ofJ Y_X9_places (Nat.le_of_ble_eq_true rfl) (jb_X9_places_0 h a0 a1 a2) q e2⟩
/-! FarFolders.sign(I)I -/
theorem dX9_sign_0 : decode cX9_sign 0 = .ok (.aload_n 0, 1) := by decide +kernel
theorem dX9_sign_1 : decode cX9_sign 1 = .ok (.getfield 37, 3) := by decide +kernel
theorem dX9_sign_4 : decode cX9_sign 4 = .ok (.iload_n 1, 1) := by decide +kernel
theorem dX9_sign_5 : decode cX9_sign 5 = .ok (.invokevirtual 62, 3) := by decide +kernel
theorem dX9_sign_8 : decode cX9_sign 8 = .ok (.ifCond .eq 13, 3) := by decide +kernel
theorem dX9_sign_11 : decode cX9_sign 11 = .ok (.aload_n 0, 1) := by decide +kernel
theorem dX9_sign_12 : decode cX9_sign 12 = .ok (.getfield 37, 3) := by decide +kernel
theorem dX9_sign_15 : decode cX9_sign 15 = .ok (.getfield 66, 3) := by decide +kernel
theorem dX9_sign_18 : decode cX9_sign 18 = .ok (.goto 4, 3) := by decide +kernel
theorem dX9_sign_21 : decode cX9_sign 21 = .ok (.iconst (-1), 1) := by decide +kernel
theorem dX9_sign_22 : decode cX9_sign 22 = .ok (.ireturn, 1) := by decide +kernel
def b_X9_sign_0 (h : q_H) (v0 : Nat) (v1 : Int32) : Option (q_H × Int32) :=
  Option.bind (q_gR 8 5 h v0) (fun x1 => Option.bind (f_X6_addFour h x1 v1) (fun q2 => if q2.2 = 0 then some (q2.1, (-1)) else Option.bind (q_gR 8 5 q2.1 v0) (fun x3 => Option.bind (q_gI 5 1 q2.1 x3) (fun x4 => some (q2.1, x4)))))
def f_X9_sign (h : q_H) (a0 : Nat) (a1 : Int32) : Option (q_H × Int32) := q_chk 8 h a0 (b_X9_sign_0 h a0 a1)
set_option maxRecDepth 20000 in
set_option maxHeartbeats 1000000 in
theorem jb_X9_sign_0 {G : q_G} {l : Launch} {k0 z0 : Nat} (h : q_H) (v0 : Nat) (v1 : Int32) : q_J G l (RX9, cX9_sign, 2, 1, 22, (some .int), "sign", []) k0 z0 (q_Z G k0 z0 q_i) 0 [(0, .ref v0), (1, .int v1)] [] h (b_X9_sign_0 h v0 v1) := by
  unfold b_X9_sign_0
  refine j_aload_n (pc := 0) (p := 0) rfl rfl dX9_sign_0 ?_
  refine j_getR (pc := 1) FI_X9 (k := 5) (by decide) fl_X9_37 dX9_sign_1 (fun x1 _ => ?_)
  refine j_iload_n (pc := 4) (p := 1) rfl rfl dX9_sign_4 ?_
  refine j_cVi (pc := 5) Y_X6_addFour (ci := 5) (b := x1) rfl rfl ml_X9_62 im_X6_addFour se_X6_addFour ⟨Nat.le_of_ble_eq_true rfl, Nat.le_of_ble_eq_true rfl⟩ dX9_sign_5 (As := [.int v1]) (rest := []) rfl rfl (Nat.le_of_ble_eq_true rfl) (fun x hq9 => c_X6_addFour _ _ _ _ hq9) (fun q2 _ => ?_)
  refine j_if_eq (pc := 8) (tgt := 21) dX9_sign_8 (by decide) (fun _ => ?_) (fun _ => ?_)
  · refine j_iconst (pc := 21) ki_m1 dX9_sign_21 ?_
    exact j_iret (pc := 22) rfl dX9_sign_22
  refine j_aload_n (pc := 11) (p := 0) rfl rfl dX9_sign_11 ?_
  refine j_getR (pc := 12) FI_X9 (k := 5) (by decide) fl_X9_37 dX9_sign_12 (fun x3 _ => ?_)
  refine j_getI (pc := 15) FI_X6 (k := 1) (by decide) fl_X9_66 dX9_sign_15 (fun x4 _ => ?_)
  refine j_goto (pc := 18) (tgt := 22) dX9_sign_18 (by decide) ?_
  exact j_iret (pc := 22) rfl dX9_sign_22
set_option maxRecDepth 20000 in
set_option maxHeartbeats 1000000 in
theorem c_X9_sign {G : q_G} {l : Launch} : ∀ (h : q_H) (a0 : Nat) (a1 : Int32) (q : q_H × Int32), f_X9_sign h a0 a1 = some q → (∃ fs, h.1 a0 = .inr (8, fs)) ∧ q_CT G l yX9_sign cX9_sign 2 (some .int) 1 22 [.ref a0, .int a1] h q.1 (q_i q.2) := by
  intro h a0 a1 q e
  obtain ⟨e1, e2⟩ := q_chk_ok e
  exact ⟨e1, q_ofJ Y_X9_sign (Nat.le_of_ble_eq_true rfl) (jb_X9_sign_0 h a0 a1) q e2⟩
/-! FarFolders.stable(I)I -/
theorem dX9_stable_0 : decode cX9_stable 0 = .ok (.iload_n 1, 1) := by decide +kernel
theorem dX9_stable_1 : decode cX9_stable 1 = .ok (.invokestatic 73, 3) := by decide +kernel
theorem dX9_stable_4 : decode cX9_stable 4 = .ok (.ifCond .ne 5, 3) := by decide +kernel
theorem dX9_stable_7 : decode cX9_stable 7 = .ok (.iconst (-1), 1) := by decide +kernel
theorem dX9_stable_8 : decode cX9_stable 8 = .ok (.ireturn, 1) := by decide +kernel
theorem dX9_stable_9 : decode cX9_stable 9 = .ok (.aload_n 0, 1) := by decide +kernel
theorem dX9_stable_10 : decode cX9_stable 10 = .ok (.getfield 12, 3) := by decide +kernel
theorem dX9_stable_13 : decode cX9_stable 13 = .ok (.getfield 82, 3) := by decide +kernel
theorem dX9_stable_16 : decode cX9_stable 16 = .ok (.iload_n 1, 1) := by decide +kernel
theorem dX9_stable_17 : decode cX9_stable 17 = .ok (.aaload, 1) := by decide +kernel
theorem dX9_stable_18 : decode cX9_stable 18 = .ok (.astore_n 2, 1) := by decide +kernel
theorem dX9_stable_19 : decode cX9_stable 19 = .ok (.aload_n 0, 1) := by decide +kernel
theorem dX9_stable_20 : decode cX9_stable 20 = .ok (.getfield 30, 3) := by decide +kernel
theorem dX9_stable_23 : decode cX9_stable 23 = .ok (.aload_n 2, 1) := by decide +kernel
theorem dX9_stable_24 : decode cX9_stable 24 = .ok (.getfield 201, 3) := by decide +kernel
theorem dX9_stable_27 : decode cX9_stable 27 = .ok (.i2l, 1) := by decide +kernel
theorem dX9_stable_28 : decode cX9_stable 28 = .ok (.invokevirtual 141, 3) := by decide +kernel
theorem dX9_stable_31 : decode cX9_stable 31 = .ok (.aload_n 0, 1) := by decide +kernel
theorem dX9_stable_32 : decode cX9_stable 32 = .ok (.getfield 30, 3) := by decide +kernel
theorem dX9_stable_35 : decode cX9_stable 35 = .ok (.aload_n 2, 1) := by decide +kernel
theorem dX9_stable_36 : decode cX9_stable 36 = .ok (.invokevirtual 203, 3) := by decide +kernel
theorem dX9_stable_39 : decode cX9_stable 39 = .ok (.i2l, 1) := by decide +kernel
theorem dX9_stable_40 : decode cX9_stable 40 = .ok (.invokevirtual 170, 3) := by decide +kernel
theorem dX9_stable_43 : decode cX9_stable 43 = .ok (.aload_n 2, 1) := by decide +kernel
theorem dX9_stable_44 : decode cX9_stable 44 = .ok (.invokevirtual 206, 3) := by decide +kernel
theorem dX9_stable_47 : decode cX9_stable 47 = .ok (.ireturn, 1) := by decide +kernel
def b_X9_stable_0 (h : q_H) (v0 : Nat) (v1 : Int32) : Option (q_H × Int32) :=
  Option.bind (f_X9_isCopy h v1) (fun q1 => if q1.2 = 0 then some (q1.1, (-1)) else Option.bind (q_gR 8 0 q1.1 v0) (fun x2 => Option.bind (q_gR 7 0 q1.1 x2) (fun x3 => Option.bind (q_lR 4 q1.1 x3 v1) (fun x4 => Option.bind (q_gR 8 4 q1.1 v0) (fun x5 => Option.bind (q_gI 0 1 q1.1 x4) (fun x6 => Option.bind (f_X4_tell q1.1 x5 (Int32.toInt64 x6)) (fun q7 => Option.bind (q_gR 8 4 q7.1 v0) (fun x8 => Option.bind (f_X0_stableMoves q7.1 x4) (fun q9 => Option.bind (f_X4_add q9.1 x8 (Int32.toInt64 q9.2)) (fun q10 => Option.bind (f_X0_stableTime q10.1 x4) (fun q11 => some (q11.1, q11.2))))))))))))
def f_X9_stable (h : q_H) (a0 : Nat) (a1 : Int32) : Option (q_H × Int32) := q_chk 8 h a0 (b_X9_stable_0 h a0 a1)
set_option maxRecDepth 20000 in
set_option maxHeartbeats 1000000 in
theorem jb_X9_stable_0 {G : q_G} {l : Launch} {k0 z0 : Nat} (h : q_H) (v0 : Nat) (v1 : Int32) : q_J G l (RX9, cX9_stable, 3, 3, 102, (some .int), "stable", []) k0 z0 (q_Z G k0 z0 q_i) 0 [(0, .ref v0), (1, .int v1)] [] h (b_X9_stable_0 h v0 v1) := by
  unfold b_X9_stable_0
  refine j_iload_n (pc := 0) (p := 1) rfl rfl dX9_stable_0 ?_
  refine j_cSi (pc := 1) Y_X9_isCopy ml_X9_73 sm_X9_isCopy ⟨Nat.le_of_ble_eq_true rfl, Nat.le_of_ble_eq_true rfl⟩ dX9_stable_1 (As := [.int v1]) (rest := []) rfl rfl (Nat.le_of_ble_eq_true rfl) (fun x hq9 => c_X9_isCopy _ _ _ hq9) (fun q1 _ => ?_)
  refine j_if_ne (pc := 4) (tgt := 9) dX9_stable_4 (by decide) (fun _ => ?_) (fun _ => ?_)
  · refine j_iconst (pc := 7) ki_m1 dX9_stable_7 ?_
    exact j_iret (pc := 8) rfl dX9_stable_8
  refine j_aload_n (pc := 9) (p := 0) rfl rfl dX9_stable_9 ?_
  refine j_getR (pc := 10) FI_X9 (k := 0) (by decide) fl_X9_12 dX9_stable_10 (fun x2 _ => ?_)
  refine j_getR (pc := 13) FI_X8 (k := 0) (by decide) fl_X9_82 dX9_stable_13 (fun x3 _ => ?_)
  refine j_iload_n (pc := 16) (p := 1) rfl rfl dX9_stable_16 ?_
  refine j_aald (pc := 17) (t := 4) rfl dX9_stable_17 (fun x4 _ => ?_)
  refine j_astore_n (pc := 18) (lv' := [(2, .ref x4), (0, .ref v0), (1, .int v1)]) rfl (by decide) rfl dX9_stable_18 ?_
  refine j_aload_n (pc := 19) (p := 1) rfl rfl dX9_stable_19 ?_
  refine j_getR (pc := 20) FI_X9 (k := 4) (by decide) fl_X9_30 dX9_stable_20 (fun x5 _ => ?_)
  refine j_aload_n (pc := 23) (p := 0) rfl rfl dX9_stable_23 ?_
  refine j_getI (pc := 24) FI_X0 (k := 1) (by decide) fl_X9_201 dX9_stable_24 (fun x6 _ => ?_)
  refine j_i2l (pc := 27) dX9_stable_27 ?_
  refine j_cVu (pc := 28) Y_X4_tell (ci := 3) (b := x5) rfl rfl ml_X9_141 im_X4_tell se_X4_tell ⟨Nat.le_of_ble_eq_true rfl, Nat.le_of_ble_eq_true rfl⟩ dX9_stable_28 (As := [.long (Int32.toInt64 x6)]) (rest := []) rfl rfl (Nat.le_of_ble_eq_true rfl) (fun x hq9 => c_X4_tell _ _ _ _ hq9) (fun q7 _ => ?_)
  refine j_aload_n (pc := 31) (p := 1) rfl rfl dX9_stable_31 ?_
  refine j_getR (pc := 32) FI_X9 (k := 4) (by decide) fl_X9_30 dX9_stable_32 (fun x8 _ => ?_)
  refine j_aload_n (pc := 35) (p := 0) rfl rfl dX9_stable_35 ?_
  refine j_cVi (pc := 36) Y_X0_stableMoves (ci := 0) (b := x4) rfl rfl ml_X9_203 im_X0_stableMoves se_X0_stableMoves ⟨Nat.le_of_ble_eq_true rfl, Nat.le_of_ble_eq_true rfl⟩ dX9_stable_36 (As := []) (rest := [.ref x8]) rfl rfl (Nat.le_of_ble_eq_true rfl) (fun x hq9 => c_X0_stableMoves _ _ _ hq9) (fun q9 _ => ?_)
  refine j_i2l (pc := 39) dX9_stable_39 ?_
  refine j_cVu (pc := 40) Y_X4_add (ci := 3) (b := x8) rfl rfl ml_X9_170 im_X4_add se_X4_add ⟨Nat.le_of_ble_eq_true rfl, Nat.le_of_ble_eq_true rfl⟩ dX9_stable_40 (As := [.long (Int32.toInt64 q9.2)]) (rest := []) rfl rfl (Nat.le_of_ble_eq_true rfl) (fun x hq9 => c_X4_add _ _ _ _ hq9) (fun q10 _ => ?_)
  refine j_aload_n (pc := 43) (p := 0) rfl rfl dX9_stable_43 ?_
  refine j_cVi (pc := 44) Y_X0_stableTime (ci := 0) (b := x4) rfl rfl ml_X9_206 im_X0_stableTime se_X0_stableTime ⟨Nat.le_of_ble_eq_true rfl, Nat.le_of_ble_eq_true rfl⟩ dX9_stable_44 (As := []) (rest := []) rfl rfl (Nat.le_of_ble_eq_true rfl) (fun x hq9 => c_X0_stableTime _ _ _ hq9) (fun q11 _ => ?_)
  exact j_iret (pc := 47) rfl dX9_stable_47
set_option maxRecDepth 20000 in
set_option maxHeartbeats 1000000 in
theorem c_X9_stable {G : q_G} {l : Launch} : ∀ (h : q_H) (a0 : Nat) (a1 : Int32) (q : q_H × Int32), f_X9_stable h a0 a1 = some q → (∃ fs, h.1 a0 = .inr (8, fs)) ∧ q_CT G l yX9_stable cX9_stable 3 (some .int) 3 102 [.ref a0, .int a1] h q.1 (q_i q.2) := by
  intro h a0 a1 q e
  obtain ⟨e1, e2⟩ := q_chk_ok e
  exact ⟨e1, q_ofJ Y_X9_stable (Nat.le_of_ble_eq_true rfl) (jb_X9_stable_0 h a0 a1) q e2⟩
/-! FarFolders.then(I)I -/
theorem dX9_then_0 : decode cX9_then 0 = .ok (.iload_n 1, 1) := by decide +kernel
theorem dX9_then_1 : decode cX9_then 1 = .ok (.invokestatic 73, 3) := by decide +kernel
theorem dX9_then_4 : decode cX9_then 4 = .ok (.ifCond .ne 5, 3) := by decide +kernel
theorem dX9_then_7 : decode cX9_then 7 = .ok (.iconst (-1), 1) := by decide +kernel
theorem dX9_then_8 : decode cX9_then 8 = .ok (.ireturn, 1) := by decide +kernel
theorem dX9_then_9 : decode cX9_then 9 = .ok (.aload_n 0, 1) := by decide +kernel
theorem dX9_then_10 : decode cX9_then 10 = .ok (.getfield 16, 3) := by decide +kernel
theorem dX9_then_13 : decode cX9_then 13 = .ok (.aload_n 0, 1) := by decide +kernel
theorem dX9_then_14 : decode cX9_then 14 = .ok (.getfield 12, 3) := by decide +kernel
theorem dX9_then_17 : decode cX9_then 17 = .ok (.invokevirtual 271, 3) := by decide +kernel
theorem dX9_then_20 : decode cX9_then 20 = .ok (.aload_n 0, 1) := by decide +kernel
theorem dX9_then_21 : decode cX9_then 21 = .ok (.getfield 16, 3) := by decide +kernel
theorem dX9_then_24 : decode cX9_then 24 = .ok (.iload_n 1, 1) := by decide +kernel
theorem dX9_then_25 : decode cX9_then 25 = .ok (.invokevirtual 277, 3) := by decide +kernel
theorem dX9_then_28 : decode cX9_then 28 = .ok (.aload_n 0, 1) := by decide +kernel
theorem dX9_then_29 : decode cX9_then 29 = .ok (.getfield 16, 3) := by decide +kernel
theorem dX9_then_32 : decode cX9_then 32 = .ok (.getfield 82, 3) := by decide +kernel
theorem dX9_then_35 : decode cX9_then 35 = .ok (.iload_n 1, 1) := by decide +kernel
theorem dX9_then_36 : decode cX9_then 36 = .ok (.aaload, 1) := by decide +kernel
theorem dX9_then_37 : decode cX9_then 37 = .ok (.getfield 86, 3) := by decide +kernel
theorem dX9_then_40 : decode cX9_then 40 = .ok (.astore_n 2, 1) := by decide +kernel
theorem dX9_then_41 : decode cX9_then 41 = .ok (.aload_n 0, 1) := by decide +kernel
theorem dX9_then_42 : decode cX9_then 42 = .ok (.getfield 30, 3) := by decide +kernel
theorem dX9_then_45 : decode cX9_then 45 = .ok (.invokevirtual 200, 3) := by decide +kernel
theorem dX9_then_48 : decode cX9_then 48 = .ok (.iconst 2, 1) := by decide +kernel
theorem dX9_then_49 : decode cX9_then 49 = .ok (.istore_n 3, 1) := by decide +kernel
theorem dX9_then_50 : decode cX9_then 50 = .ok (.iload_n 3, 1) := by decide +kernel
theorem dX9_then_51 : decode cX9_then 51 = .ok (.bipush 14, 2) := by decide +kernel
theorem dX9_then_53 : decode cX9_then 53 = .ok (.if_icmp .ge 40, 3) := by decide +kernel
theorem dX9_then_56 : decode cX9_then 56 = .ok (.aload_n 0, 1) := by decide +kernel
theorem dX9_then_57 : decode cX9_then 57 = .ok (.getfield 30, 3) := by decide +kernel
theorem dX9_then_60 : decode cX9_then 60 = .ok (.aload_n 2, 1) := by decide +kernel
theorem dX9_then_61 : decode cX9_then 61 = .ok (.iload_n 3, 1) := by decide +kernel
theorem dX9_then_62 : decode cX9_then 62 = .ok (.invokevirtual 91, 3) := by decide +kernel
theorem dX9_then_65 : decode cX9_then 65 = .ok (.ifCond .eq 16, 3) := by decide +kernel
theorem dX9_then_68 : decode cX9_then 68 = .ok (.aload_n 2, 1) := by decide +kernel
theorem dX9_then_69 : decode cX9_then 69 = .ok (.getfield 94, 3) := by decide +kernel
theorem dX9_then_72 : decode cX9_then 72 = .ok (.iload_n 3, 1) := by decide +kernel
theorem dX9_then_73 : decode cX9_then 73 = .ok (.laload, 1) := by decide +kernel
theorem dX9_then_74 : decode cX9_then 74 = .ok (.invokestatic 98, 3) := by decide +kernel
theorem dX9_then_77 : decode cX9_then 77 = .ok (.i2l, 1) := by decide +kernel
theorem dX9_then_78 : decode cX9_then 78 = .ok (.goto 6, 3) := by decide +kernel
theorem dX9_then_81 : decode cX9_then 81 = .ok (.ldc2_w 281, 3) := by decide +kernel
theorem dX9_then_84 : decode cX9_then 84 = .ok (.invokevirtual 170, 3) := by decide +kernel
theorem dX9_then_87 : decode cX9_then 87 = .ok (.iinc 3 1, 3) := by decide +kernel
theorem dX9_then_90 : decode cX9_then 90 = .ok (.goto (-40), 3) := by decide +kernel
theorem dX9_then_93 : decode cX9_then 93 = .ok (.aload_n 2, 1) := by decide +kernel
theorem dX9_then_94 : decode cX9_then 94 = .ok (.invokevirtual 283, 3) := by decide +kernel
theorem dX9_then_97 : decode cX9_then 97 = .ok (.invokestatic 218, 3) := by decide +kernel
theorem dX9_then_100 : decode cX9_then 100 = .ok (.ireturn, 1) := by decide +kernel
def b_X9_then_84 (k50 : q_H → Nat → Nat → Int32 → Option (q_H × Int32)) (h : q_H) (v0 : Nat) (v2 : Nat) (v3 : Int32) (s0 : Nat) (s1 : Int64) : Option (q_H × Int32) :=
  Option.bind (f_X4_add h s0 s1) (fun q1 => k50 q1.1 v0 v2 (v3 + 1))
def b_X9_then_50 (k50 : q_H → Nat → Nat → Int32 → Option (q_H × Int32)) (h : q_H) (v0 : Nat) (v2 : Nat) (v3 : Int32) : Option (q_H × Int32) :=
  if (14) ≤ v3 then Option.bind (f_X7_folders h v2) (fun q2 => Option.bind (f_J6_bitCount_0f7a4 q2.1 q2.2) (fun q3 => some (q3.1, q3.2))) else Option.bind (q_gR 8 4 h v0) (fun x4 => Option.bind (f_X7_isThere h v2 v3) (fun q5 => if q5.2 = 0 then b_X9_then_84 k50 q5.1 v0 v2 v3 x4 (-1) else Option.bind (q_gR 6 0 q5.1 v2) (fun x6 => Option.bind (q_lL q5.1 x6 v3) (fun x7 => Option.bind (f_X1_parent q5.1 x7) (fun q8 => b_X9_then_84 k50 q8.1 v0 v2 v3 x4 (Int32.toInt64 q8.2))))))
def l_X9_then_50 : Nat → q_H → Nat → Nat → Int32 → Option (q_H × Int32)
  | 0, _, _, _, _ => none
  | n + 1, h, v0, v2, v3 => b_X9_then_50 (l_X9_then_50 n) h v0 v2 v3
def b_X9_then_0 (h : q_H) (v0 : Nat) (v1 : Int32) : Option (q_H × Int32) :=
  Option.bind (f_X9_isCopy h v1) (fun q9 => if q9.2 = 0 then some (q9.1, (-1)) else Option.bind (q_gR 8 1 q9.1 v0) (fun x10 => Option.bind (q_gR 8 0 q9.1 v0) (fun x11 => Option.bind (f_X8_copyFrom q9.1 x10 x11) (fun q12 => Option.bind (q_gR 8 1 q12.1 v0) (fun x13 => Option.bind (f_X8_takeAll q12.1 x13 v1) (fun q14 => Option.bind (q_gR 8 1 q14.1 v0) (fun x15 => Option.bind (q_gR 7 0 q14.1 x15) (fun x16 => Option.bind (q_lR 4 q14.1 x16 v1) (fun x17 => Option.bind (q_gR 0 5 q14.1 x17) (fun x18 => Option.bind (q_gR 8 4 q14.1 v0) (fun x19 => Option.bind (f_X4_clear q14.1 x19) (fun q20 => l_X9_then_50 q_FU q20.1 v0 x18 (2)))))))))))))
def f_X9_then (h : q_H) (a0 : Nat) (a1 : Int32) : Option (q_H × Int32) := q_chk 8 h a0 (b_X9_then_0 h a0 a1)
set_option maxRecDepth 20000 in
set_option maxHeartbeats 1000000 in
theorem jb_X9_then_84 {G : q_G} {l : Launch} {k0 z0 : Nat} (k50 : q_H → Nat → Nat → Int32 → Option (q_H × Int32)) (hk50 : ∀ (h : q_H) (v0 : Nat) (v2 : Nat) (v3 : Int32), q_J G l (RX9, cX9_then, 4, 4, 130, (some .int), "then", []) k0 z0 (q_Z G k0 z0 q_i) 50 [(0, .ref v0), (2, .ref v2), (3, .int v3)] [] h (k50 h v0 v2 v3)) (h : q_H) (v0 : Nat) (v2 : Nat) (v3 : Int32) (s0 : Nat) (s1 : Int64) : q_J G l (RX9, cX9_then, 4, 4, 130, (some .int), "then", []) k0 z0 (q_Z G k0 z0 q_i) 84 [(0, .ref v0), (2, .ref v2), (3, .int v3)] [.long s1, .ref s0] h (b_X9_then_84 k50 h v0 v2 v3 s0 s1) := by
  unfold b_X9_then_84
  refine j_cVu (pc := 84) Y_X4_add (ci := 3) (b := s0) rfl rfl ml_X9_170 im_X4_add se_X4_add ⟨Nat.le_of_ble_eq_true rfl, Nat.le_of_ble_eq_true rfl⟩ dX9_then_84 (As := [.long s1]) (rest := []) rfl rfl (Nat.le_of_ble_eq_true rfl) (fun x hq9 => c_X4_add _ _ _ _ hq9) (fun q1 _ => ?_)
  refine j_inc (pc := 87) (p := 2) (lv' := [(3, .int (v3 + 1)), (0, .ref v0), (2, .ref v2)]) rfl ki_1 (by decide) rfl dX9_then_87 ?_
  refine j_goto (pc := 90) (tgt := 50) dX9_then_90 (by decide) ?_
  refine j_sub [1, 2, 0] (lv' := [(0, .ref v0), (2, .ref v2), (3, .int (v3 + 1))]) rfl ?_
  exact hk50 _ _ _ _
set_option maxRecDepth 20000 in
set_option maxHeartbeats 1000000 in
theorem jb_X9_then_50 {G : q_G} {l : Launch} {k0 z0 : Nat} (k50 : q_H → Nat → Nat → Int32 → Option (q_H × Int32)) (hk50 : ∀ (h : q_H) (v0 : Nat) (v2 : Nat) (v3 : Int32), q_J G l (RX9, cX9_then, 4, 4, 130, (some .int), "then", []) k0 z0 (q_Z G k0 z0 q_i) 50 [(0, .ref v0), (2, .ref v2), (3, .int v3)] [] h (k50 h v0 v2 v3)) (h : q_H) (v0 : Nat) (v2 : Nat) (v3 : Int32) : q_J G l (RX9, cX9_then, 4, 4, 130, (some .int), "then", []) k0 z0 (q_Z G k0 z0 q_i) 50 [(0, .ref v0), (2, .ref v2), (3, .int v3)] [] h (b_X9_then_50 k50 h v0 v2 v3) := by
  unfold b_X9_then_50
  refine j_iload_n (pc := 50) (p := 2) rfl rfl dX9_then_50 ?_
  refine j_bipush (pc := 51) kb_14 dX9_then_51 ?_
  refine j_ic_ge (pc := 53) (tgt := 93) dX9_then_53 (by decide) (fun _ => ?_) (fun _ => ?_)
  · refine j_aload_n (pc := 93) (p := 1) rfl rfl dX9_then_93 ?_
    refine j_cVi (pc := 94) Y_X7_folders (ci := 6) (b := v2) rfl rfl ml_X9_283 im_X7_folders se_X7_folders ⟨Nat.le_of_ble_eq_true rfl, Nat.le_of_ble_eq_true rfl⟩ dX9_then_94 (As := []) (rest := []) rfl rfl (Nat.le_of_ble_eq_true rfl) (fun x hq9 => c_X7_folders _ _ _ hq9) (fun q2 _ => ?_)
    refine j_cSi (pc := 97) Y_J6_bitCount_0f7a4 ml_X9_218 sm_J6_bitCount_0f7a4 ⟨Nat.le_of_ble_eq_true rfl, Nat.le_of_ble_eq_true rfl⟩ dX9_then_97 (As := [.int q2.2]) (rest := []) rfl rfl (Nat.le_of_ble_eq_true rfl) (fun x hq9 => c_J6_bitCount_0f7a4 _ _ _ hq9) (fun q3 _ => ?_)
    exact j_iret (pc := 100) rfl dX9_then_100
  refine j_aload_n (pc := 56) (p := 0) rfl rfl dX9_then_56 ?_
  refine j_getR (pc := 57) FI_X9 (k := 4) (by decide) fl_X9_30 dX9_then_57 (fun x4 _ => ?_)
  refine j_aload_n (pc := 60) (p := 1) rfl rfl dX9_then_60 ?_
  refine j_iload_n (pc := 61) (p := 2) rfl rfl dX9_then_61 ?_
  refine j_cVi (pc := 62) Y_X7_isThere (ci := 6) (b := v2) rfl rfl ml_X9_91 im_X7_isThere se_X7_isThere ⟨Nat.le_of_ble_eq_true rfl, Nat.le_of_ble_eq_true rfl⟩ dX9_then_62 (As := [.int v3]) (rest := [.ref x4]) rfl rfl (Nat.le_of_ble_eq_true rfl) (fun x hq9 => c_X7_isThere _ _ _ _ hq9) (fun q5 _ => ?_)
  refine j_if_eq (pc := 65) (tgt := 81) dX9_then_65 (by decide) (fun _ => ?_) (fun _ => ?_)
  · refine j_ldc2 (pc := 81) cL_X9_281 dX9_then_81 ?_
    exact jb_X9_then_84 k50 hk50 _ _ _ _ _ _
  refine j_aload_n (pc := 68) (p := 1) rfl rfl dX9_then_68 ?_
  refine j_getR (pc := 69) FI_X7 (k := 0) (by decide) fl_X9_94 dX9_then_69 (fun x6 _ => ?_)
  refine j_iload_n (pc := 72) (p := 2) rfl rfl dX9_then_72 ?_
  refine j_lald (pc := 73) dX9_then_73 (fun x7 _ => ?_)
  refine j_cSi (pc := 74) Y_X1_parent ml_X9_98 sm_X1_parent ⟨Nat.le_of_ble_eq_true rfl, Nat.le_of_ble_eq_true rfl⟩ dX9_then_74 (As := [.long x7]) (rest := [.ref x4]) rfl rfl (Nat.le_of_ble_eq_true rfl) (fun x hq9 => c_X1_parent _ _ _ hq9) (fun q8 _ => ?_)
  refine j_i2l (pc := 77) dX9_then_77 ?_
  refine j_goto (pc := 78) (tgt := 84) dX9_then_78 (by decide) ?_
  exact jb_X9_then_84 k50 hk50 _ _ _ _ _ _
set_option maxRecDepth 20000 in
set_option maxHeartbeats 1000000 in
theorem jl_X9_then_50 {G : q_G} {l : Launch} {k0 z0 : Nat} (n : Nat) : ∀ (h : q_H) (v0 : Nat) (v2 : Nat) (v3 : Int32), q_J G l (RX9, cX9_then, 4, 4, 130, (some .int), "then", []) k0 z0 (q_Z G k0 z0 q_i) 50 [(0, .ref v0), (2, .ref v2), (3, .int v3)] [] h (l_X9_then_50 n h v0 v2 v3) := by
  induction n with
  | zero => intro h v0 v2 v3; exact j_none
  | succ n ih => intro h v0 v2 v3; exact jb_X9_then_50 (l_X9_then_50 n) ih h v0 v2 v3
set_option maxRecDepth 20000 in
set_option maxHeartbeats 1000000 in
theorem jb_X9_then_0 {G : q_G} {l : Launch} {k0 z0 : Nat} (h : q_H) (v0 : Nat) (v1 : Int32) : q_J G l (RX9, cX9_then, 4, 4, 130, (some .int), "then", []) k0 z0 (q_Z G k0 z0 q_i) 0 [(0, .ref v0), (1, .int v1)] [] h (b_X9_then_0 h v0 v1) := by
  unfold b_X9_then_0
  refine j_iload_n (pc := 0) (p := 1) rfl rfl dX9_then_0 ?_
  refine j_cSi (pc := 1) Y_X9_isCopy ml_X9_73 sm_X9_isCopy ⟨Nat.le_of_ble_eq_true rfl, Nat.le_of_ble_eq_true rfl⟩ dX9_then_1 (As := [.int v1]) (rest := []) rfl rfl (Nat.le_of_ble_eq_true rfl) (fun x hq9 => c_X9_isCopy _ _ _ hq9) (fun q9 _ => ?_)
  refine j_if_ne (pc := 4) (tgt := 9) dX9_then_4 (by decide) (fun _ => ?_) (fun _ => ?_)
  · refine j_iconst (pc := 7) ki_m1 dX9_then_7 ?_
    exact j_iret (pc := 8) rfl dX9_then_8
  refine j_aload_n (pc := 9) (p := 0) rfl rfl dX9_then_9 ?_
  refine j_getR (pc := 10) FI_X9 (k := 1) (by decide) fl_X9_16 dX9_then_10 (fun x10 _ => ?_)
  refine j_aload_n (pc := 13) (p := 0) rfl rfl dX9_then_13 ?_
  refine j_getR (pc := 14) FI_X9 (k := 0) (by decide) fl_X9_12 dX9_then_14 (fun x11 _ => ?_)
  refine j_cVu (pc := 17) Y_X8_copyFrom (ci := 7) (b := x10) rfl rfl ml_X9_271 im_X8_copyFrom se_X8_copyFrom ⟨Nat.le_of_ble_eq_true rfl, Nat.le_of_ble_eq_true rfl⟩ dX9_then_17 (As := [.ref x11]) (rest := []) rfl rfl (Nat.le_of_ble_eq_true rfl) (fun x hq9 => c_X8_copyFrom _ _ _ _ hq9) (fun q12 _ => ?_)
  refine j_aload_n (pc := 20) (p := 0) rfl rfl dX9_then_20 ?_
  refine j_getR (pc := 21) FI_X9 (k := 1) (by decide) fl_X9_16 dX9_then_21 (fun x13 _ => ?_)
  refine j_iload_n (pc := 24) (p := 1) rfl rfl dX9_then_24 ?_
  refine j_cVu (pc := 25) Y_X8_takeAll (ci := 7) (b := x13) rfl rfl ml_X9_277 im_X8_takeAll se_X8_takeAll ⟨Nat.le_of_ble_eq_true rfl, Nat.le_of_ble_eq_true rfl⟩ dX9_then_25 (As := [.int v1]) (rest := []) rfl rfl (Nat.le_of_ble_eq_true rfl) (fun x hq9 => c_X8_takeAll _ _ _ _ hq9) (fun q14 _ => ?_)
  refine j_aload_n (pc := 28) (p := 0) rfl rfl dX9_then_28 ?_
  refine j_getR (pc := 29) FI_X9 (k := 1) (by decide) fl_X9_16 dX9_then_29 (fun x15 _ => ?_)
  refine j_getR (pc := 32) FI_X8 (k := 0) (by decide) fl_X9_82 dX9_then_32 (fun x16 _ => ?_)
  refine j_iload_n (pc := 35) (p := 1) rfl rfl dX9_then_35 ?_
  refine j_aald (pc := 36) (t := 4) rfl dX9_then_36 (fun x17 _ => ?_)
  refine j_getR (pc := 37) FI_X0 (k := 5) (by decide) fl_X9_86 dX9_then_37 (fun x18 _ => ?_)
  refine j_astore_n (pc := 40) (lv' := [(2, .ref x18), (0, .ref v0), (1, .int v1)]) rfl (by decide) rfl dX9_then_40 ?_
  refine j_aload_n (pc := 41) (p := 1) rfl rfl dX9_then_41 ?_
  refine j_getR (pc := 42) FI_X9 (k := 4) (by decide) fl_X9_30 dX9_then_42 (fun x19 _ => ?_)
  refine j_cVu (pc := 45) Y_X4_clear (ci := 3) (b := x19) rfl rfl ml_X9_200 im_X4_clear se_X4_clear ⟨Nat.le_of_ble_eq_true rfl, Nat.le_of_ble_eq_true rfl⟩ dX9_then_45 (As := []) (rest := []) rfl rfl (Nat.le_of_ble_eq_true rfl) (fun x hq9 => c_X4_clear _ _ _ hq9) (fun q20 _ => ?_)
  refine j_iconst (pc := 48) ki_2 dX9_then_48 ?_
  refine j_istore_n (pc := 49) (lv' := [(3, .int (2)), (2, .ref x18), (0, .ref v0), (1, .int v1)]) rfl (by decide) rfl dX9_then_49 ?_
  refine j_sub [2, 1, 0] (lv' := [(0, .ref v0), (2, .ref x18), (3, .int (2))]) rfl ?_
  exact jl_X9_then_50 q_FU _ _ _ _
set_option maxRecDepth 20000 in
set_option maxHeartbeats 1000000 in
theorem c_X9_then {G : q_G} {l : Launch} : ∀ (h : q_H) (a0 : Nat) (a1 : Int32) (q : q_H × Int32), f_X9_then h a0 a1 = some q → (∃ fs, h.1 a0 = .inr (8, fs)) ∧ q_CT G l yX9_then cX9_then 4 (some .int) 4 130 [.ref a0, .int a1] h q.1 (q_i q.2) := by
  intro h a0 a1 q e
  obtain ⟨e1, e2⟩ := q_chk_ok e
  exact ⟨e1, q_ofJ Y_X9_then (Nat.le_of_ble_eq_true rfl) (jb_X9_then_0 h a0 a1) q e2⟩
