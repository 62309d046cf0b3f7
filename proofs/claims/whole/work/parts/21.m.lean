/-! FarFoldersModel.asked(II)I -/
theorem dX10_asked_0 : decode cX10_asked 0 = .ok (.iload_n 1, 1) := by decide +kernel
theorem dX10_asked_1 : decode cX10_asked 1 = .ok (.invokestatic 101, 3) := by decide +kernel
theorem dX10_asked_4 : decode cX10_asked 4 = .ok (.ifCond .eq 10, 3) := by decide +kernel
theorem dX10_asked_7 : decode cX10_asked 7 = .ok (.iload_n 2, 1) := by decide +kernel
theorem dX10_asked_8 : decode cX10_asked 8 = .ok (.invokestatic 179, 3) := by decide +kernel
theorem dX10_asked_11 : decode cX10_asked 11 = .ok (.ifCond .ne 5, 3) := by decide +kernel
theorem dX10_asked_14 : decode cX10_asked 14 = .ok (.iconst (-1), 1) := by decide +kernel
theorem dX10_asked_15 : decode cX10_asked 15 = .ok (.ireturn, 1) := by decide +kernel
theorem dX10_asked_16 : decode cX10_asked 16 = .ok (.aload_n 0, 1) := by decide +kernel
theorem dX10_asked_17 : decode cX10_asked 17 = .ok (.iconst 0, 1) := by decide +kernel
theorem dX10_asked_18 : decode cX10_asked 18 = .ok (.iload_n 1, 1) := by decide +kernel
theorem dX10_asked_19 : decode cX10_asked 19 = .ok (.invokevirtual 164, 3) := by decide +kernel
theorem dX10_asked_22 : decode cX10_asked 22 = .ok (.aload_n 0, 1) := by decide +kernel
theorem dX10_asked_23 : decode cX10_asked 23 = .ok (.iconst 0, 1) := by decide +kernel
theorem dX10_asked_24 : decode cX10_asked 24 = .ok (.iload_n 2, 1) := by decide +kernel
theorem dX10_asked_25 : decode cX10_asked 25 = .ok (.invokevirtual 133, 3) := by decide +kernel
theorem dX10_asked_28 : decode cX10_asked 28 = .ok (.ifCond .eq 7, 3) := by decide +kernel
theorem dX10_asked_31 : decode cX10_asked 31 = .ok (.iconst 0, 1) := by decide +kernel
theorem dX10_asked_32 : decode cX10_asked 32 = .ok (.goto 5, 3) := by decide +kernel
theorem dX10_asked_35 : decode cX10_asked 35 = .ok (.bipush (-2), 2) := by decide +kernel
theorem dX10_asked_37 : decode cX10_asked 37 = .ok (.ireturn, 1) := by decide +kernel
def b_X10_asked_0 (h : q_H) (v0 : Nat) (v1 : Int32) (v2 : Int32) : Option (q_H × Int32) :=
  Option.bind (f_X10_isCopy h v1) (fun q1 => if q1.2 = 0 then some (q1.1, (-1)) else Option.bind (f_X10_isNode q1.1 v2) (fun q2 => if q2.2 = 0 then some (q2.1, (-1)) else Option.bind (f_X10_lays q2.1 v0 (0) v1) (fun q3 => Option.bind (f_X10_isThere q3.1 v0 (0) v2) (fun q4 => if q4.2 = 0 then some (q4.1, (-2)) else some (q4.1, (0))))))
def f_X10_asked (h : q_H) (a0 : Nat) (a1 : Int32) (a2 : Int32) : Option (q_H × Int32) := q_chk 9 h a0 (b_X10_asked_0 h a0 a1 a2)
set_option maxRecDepth 20000 in
set_option maxHeartbeats 1000000 in
theorem jb_X10_asked_0 {G : q_G} {l : Launch} {k0 z0 : Nat} (h : q_H) (v0 : Nat) (v1 : Int32) (v2 : Int32) : q_J G l (RX10, cX10_asked, 3, 5, 118, (some .int), "asked", []) k0 z0 (q_Z G k0 z0 q_i) 0 [(0, .ref v0), (1, .int v1), (2, .int v2)] [] h (b_X10_asked_0 h v0 v1 v2) := by
  unfold b_X10_asked_0
  refine j_iload_n (pc := 0) (p := 1) rfl rfl dX10_asked_0 ?_
  refine j_cSi (pc := 1) Y_X10_isCopy ml_X10_101 sm_X10_isCopy ⟨Nat.le_of_ble_eq_true rfl, Nat.le_of_ble_eq_true rfl⟩ dX10_asked_1 (As := [.int v1]) (rest := []) rfl rfl (Nat.le_of_ble_eq_true rfl) (fun x hq9 => c_X10_isCopy _ _ _ hq9) (fun q1 _ => ?_)
  refine j_if_eq (pc := 4) (tgt := 14) dX10_asked_4 (by decide) (fun _ => ?_) (fun _ => ?_)
  · refine j_iconst (pc := 14) ki_m1 dX10_asked_14 ?_
    exact j_iret (pc := 15) rfl dX10_asked_15
  refine j_iload_n (pc := 7) (p := 2) rfl rfl dX10_asked_7 ?_
  refine j_cSi (pc := 8) Y_X10_isNode ml_X10_179 sm_X10_isNode ⟨Nat.le_of_ble_eq_true rfl, Nat.le_of_ble_eq_true rfl⟩ dX10_asked_8 (As := [.int v2]) (rest := []) rfl rfl (Nat.le_of_ble_eq_true rfl) (fun x hq9 => c_X10_isNode _ _ _ hq9) (fun q2 _ => ?_)
  refine j_if_ne (pc := 11) (tgt := 16) dX10_asked_11 (by decide) (fun _ => ?_) (fun _ => ?_)
  · refine j_iconst (pc := 14) ki_m1 dX10_asked_14 ?_
    exact j_iret (pc := 15) rfl dX10_asked_15
  refine j_aload_n (pc := 16) (p := 0) rfl rfl dX10_asked_16 ?_
  refine j_iconst (pc := 17) ki_0 dX10_asked_17 ?_
  refine j_iload_n (pc := 18) (p := 1) rfl rfl dX10_asked_18 ?_
  refine j_cVu (pc := 19) Y_X10_lays (ci := 9) (b := v0) rfl rfl ml_X10_164 im_X10_lays se_X10_lays ⟨Nat.le_of_ble_eq_true rfl, Nat.le_of_ble_eq_true rfl⟩ dX10_asked_19 (As := [.int (0), .int v1]) (rest := []) rfl rfl (Nat.le_of_ble_eq_true rfl) (fun x hq9 => c_X10_lays _ _ _ _ _ hq9) (fun q3 _ => ?_)
  refine j_aload_n (pc := 22) (p := 0) rfl rfl dX10_asked_22 ?_
  refine j_iconst (pc := 23) ki_0 dX10_asked_23 ?_
  refine j_iload_n (pc := 24) (p := 2) rfl rfl dX10_asked_24 ?_
  refine j_cVi (pc := 25) Y_X10_isThere (ci := 9) (b := v0) rfl rfl ml_X10_133 im_X10_isThere se_X10_isThere ⟨Nat.le_of_ble_eq_true rfl, Nat.le_of_ble_eq_true rfl⟩ dX10_asked_25 (As := [.int (0), .int v2]) (rest := []) rfl rfl (Nat.le_of_ble_eq_true rfl) (fun x hq9 => c_X10_isThere _ _ _ _ _ hq9) (fun q4 _ => ?_)
  refine j_if_eq (pc := 28) (tgt := 35) dX10_asked_28 (by decide) (fun _ => ?_) (fun _ => ?_)
  · refine j_bipush (pc := 35) kb_m2 dX10_asked_35 ?_
    exact j_iret (pc := 37) rfl dX10_asked_37
  refine j_iconst (pc := 31) ki_0 dX10_asked_31 ?_
  refine j_goto (pc := 32) (tgt := 37) dX10_asked_32 (by decide) ?_
  exact j_iret (pc := 37) rfl dX10_asked_37
set_option maxRecDepth 20000 in
set_option maxHeartbeats 1000000 in
theorem c_X10_asked {G : q_G} {l : Launch} : ∀ (h : q_H) (a0 : Nat) (a1 : Int32) (a2 : Int32) (q : q_H × Int32), f_X10_asked h a0 a1 a2 = some q → (∃ fs, h.1 a0 = .inr (9, fs)) ∧ q_CT G l yX10_asked cX10_asked 3 (some .int) 5 118 [.ref a0, .int a1, .int a2] h q.1 (q_i q.2) := by
  intro h a0 a1 a2 q e
  obtain ⟨e1, e2⟩ := q_chk_ok e
  exact ⟨e1, q_ofJ Y_X10_asked (Nat.le_of_ble_eq_true rfl) (jb_X10_asked_0 h a0 a1 a2) q e2⟩
/-! FarFoldersModel.letterOf(III)I -/
theorem dX10_letterOf_0 : decode cX10_letterOf 0 = .ok (.sipush 492, 3) := by decide +kernel
theorem dX10_letterOf_3 : decode cX10_letterOf 3 = .ok (.iconst 4, 1) := by decide +kernel
theorem dX10_letterOf_4 : decode cX10_letterOf 4 = .ok (.bipush 6, 2) := by decide +kernel
theorem dX10_letterOf_6 : decode cX10_letterOf 6 = .ok (.iload_n 0, 1) := by decide +kernel
theorem dX10_letterOf_7 : decode cX10_letterOf 7 = .ok (.iload_n 1, 1) := by decide +kernel
theorem dX10_letterOf_8 : decode cX10_letterOf 8 = .ok (.invokestatic 94, 3) := by decide +kernel
theorem dX10_letterOf_11 : decode cX10_letterOf 11 = .ok (.imul, 1) := by decide +kernel
theorem dX10_letterOf_12 : decode cX10_letterOf 12 = .ok (.iload_n 2, 1) := by decide +kernel
theorem dX10_letterOf_13 : decode cX10_letterOf 13 = .ok (.iadd, 1) := by decide +kernel
theorem dX10_letterOf_14 : decode cX10_letterOf 14 = .ok (.imul, 1) := by decide +kernel
theorem dX10_letterOf_15 : decode cX10_letterOf 15 = .ok (.iadd, 1) := by decide +kernel
theorem dX10_letterOf_16 : decode cX10_letterOf 16 = .ok (.ireturn, 1) := by decide +kernel
def b_X10_letterOf_0 (h : q_H) (v0 : Int32) (v1 : Int32) (v2 : Int32) : Option (q_H × Int32) :=
  Option.bind (f_X10_wayOf h v0 v1) (fun q1 => some (q1.1, ((492) + ((4) * (((6) * q1.2) + v2)))))
def f_X10_letterOf (h : q_H) (a0 : Int32) (a1 : Int32) (a2 : Int32) : Option (q_H × Int32) := b_X10_letterOf_0 h a0 a1 a2
set_option maxRecDepth 20000 in
set_option maxHeartbeats 1000000 in
theorem jb_X10_letterOf_0 {G : q_G} {l : Launch} {k0 z0 : Nat} (h : q_H) (v0 : Int32) (v1 : Int32) (v2 : Int32) : q_J G l (RX10, cX10_letterOf, 3, 1, 21, (some .int), "letterOf", []) k0 z0 (q_Z G k0 z0 q_i) 0 [(0, .int v0), (1, .int v1), (2, .int v2)] [] h (b_X10_letterOf_0 h v0 v1 v2) := by
  unfold b_X10_letterOf_0
  refine j_sipush (pc := 0) ks_492 dX10_letterOf_0 ?_
  refine j_iconst (pc := 3) ki_4 dX10_letterOf_3 ?_
  refine j_bipush (pc := 4) kb_6 dX10_letterOf_4 ?_
  refine j_iload_n (pc := 6) (p := 0) rfl rfl dX10_letterOf_6 ?_
  refine j_iload_n (pc := 7) (p := 1) rfl rfl dX10_letterOf_7 ?_
  refine j_cSi (pc := 8) Y_X10_wayOf ml_X10_94 sm_X10_wayOf ⟨Nat.le_of_ble_eq_true rfl, Nat.le_of_ble_eq_true rfl⟩ dX10_letterOf_8 (As := [.int v0, .int v1]) (rest := [.int (6), .int (4), .int (492)]) rfl rfl (Nat.le_of_ble_eq_true rfl) (fun x hq9 => c_X10_wayOf _ _ _ _ hq9) (fun q1 _ => ?_)
  refine j_imul (pc := 11) dX10_letterOf_11 ?_
  refine j_iload_n (pc := 12) (p := 2) rfl rfl dX10_letterOf_12 ?_
  refine j_iadd (pc := 13) dX10_letterOf_13 ?_
  refine j_imul (pc := 14) dX10_letterOf_14 ?_
  refine j_iadd (pc := 15) dX10_letterOf_15 ?_
  exact j_iret (pc := 16) rfl dX10_letterOf_16
set_option maxRecDepth 20000 in
set_option maxHeartbeats 1000000 in
theorem c_X10_letterOf {G : q_G} {l : Launch} : ∀ (h : q_H) (a0 : Int32) (a1 : Int32) (a2 : Int32) (q : q_H × Int32), f_X10_letterOf h a0 a1 a2 = some q → q_CT G l yX10_letterOf cX10_letterOf 3 (some .int) 1 21 [.int a0, .int a1, .int a2] h q.1 (q_i q.2) := by
  intro h a0 a1 a2 q e
  exact q_ofJ Y_X10_letterOf (Nat.le_of_ble_eq_true rfl) (jb_X10_letterOf_0 h a0 a1 a2) q e
/-! FarFoldersModel.sends(IIII)V -/
theorem dX10_sends_0 : decode cX10_sends 0 = .ok (.iconst 0, 1) := by decide +kernel
theorem dX10_sends_1 : decode cX10_sends 1 = .ok (.istore 5, 2) := by decide +kernel
theorem dX10_sends_3 : decode cX10_sends 3 = .ok (.iload 5, 2) := by decide +kernel
theorem dX10_sends_5 : decode cX10_sends 5 = .ok (.iconst 3, 1) := by decide +kernel
theorem dX10_sends_6 : decode cX10_sends 6 = .ok (.if_icmp .ge 96, 3) := by decide +kernel
theorem dX10_sends_9 : decode cX10_sends 9 = .ok (.iload 5, 2) := by decide +kernel
theorem dX10_sends_11 : decode cX10_sends 11 = .ok (.iload_n 1, 1) := by decide +kernel
theorem dX10_sends_12 : decode cX10_sends 12 = .ok (.if_icmp .ne 6, 3) := by decide +kernel
theorem dX10_sends_15 : decode cX10_sends 15 = .ok (.goto 81, 3) := by decide +kernel
theorem dX10_sends_18 : decode cX10_sends 18 = .ok (.iload_n 1, 1) := by decide +kernel
theorem dX10_sends_19 : decode cX10_sends 19 = .ok (.iload 5, 2) := by decide +kernel
theorem dX10_sends_21 : decode cX10_sends 21 = .ok (.aload_n 0, 1) := by decide +kernel
theorem dX10_sends_22 : decode cX10_sends 22 = .ok (.iload_n 1, 1) := by decide +kernel
theorem dX10_sends_23 : decode cX10_sends 23 = .ok (.iload 5, 2) := by decide +kernel
theorem dX10_sends_25 : decode cX10_sends 25 = .ok (.invokevirtual 173, 3) := by decide +kernel
theorem dX10_sends_28 : decode cX10_sends 28 = .ok (.invokestatic 176, 3) := by decide +kernel
theorem dX10_sends_31 : decode cX10_sends 31 = .ok (.istore 6, 2) := by decide +kernel
theorem dX10_sends_33 : decode cX10_sends 33 = .ok (.aload_n 0, 1) := by decide +kernel
theorem dX10_sends_34 : decode cX10_sends 34 = .ok (.getfield 47, 3) := by decide +kernel
theorem dX10_sends_37 : decode cX10_sends 37 = .ok (.iload 6, 2) := by decide +kernel
theorem dX10_sends_39 : decode cX10_sends 39 = .ok (.aload_n 0, 1) := by decide +kernel
theorem dX10_sends_40 : decode cX10_sends 40 = .ok (.getfield 47, 3) := by decide +kernel
theorem dX10_sends_43 : decode cX10_sends 43 = .ok (.iload_n 1, 1) := by decide +kernel
theorem dX10_sends_44 : decode cX10_sends 44 = .ok (.iaload, 1) := by decide +kernel
theorem dX10_sends_45 : decode cX10_sends 45 = .ok (.iastore, 1) := by decide +kernel
theorem dX10_sends_46 : decode cX10_sends 46 = .ok (.aload_n 0, 1) := by decide +kernel
theorem dX10_sends_47 : decode cX10_sends 47 = .ok (.getfield 47, 3) := by decide +kernel
theorem dX10_sends_50 : decode cX10_sends 50 = .ok (.iload 6, 2) := by decide +kernel
theorem dX10_sends_52 : decode cX10_sends 52 = .ok (.iconst 1, 1) := by decide +kernel
theorem dX10_sends_53 : decode cX10_sends 53 = .ok (.iadd, 1) := by decide +kernel
theorem dX10_sends_54 : decode cX10_sends 54 = .ok (.iload_n 2, 1) := by decide +kernel
theorem dX10_sends_55 : decode cX10_sends 55 = .ok (.iastore, 1) := by decide +kernel
theorem dX10_sends_56 : decode cX10_sends 56 = .ok (.aload_n 0, 1) := by decide +kernel
theorem dX10_sends_57 : decode cX10_sends 57 = .ok (.getfield 47, 3) := by decide +kernel
theorem dX10_sends_60 : decode cX10_sends 60 = .ok (.iload 6, 2) := by decide +kernel
theorem dX10_sends_62 : decode cX10_sends 62 = .ok (.iconst 2, 1) := by decide +kernel
theorem dX10_sends_63 : decode cX10_sends 63 = .ok (.iadd, 1) := by decide +kernel
theorem dX10_sends_64 : decode cX10_sends 64 = .ok (.iload_n 3, 1) := by decide +kernel
theorem dX10_sends_65 : decode cX10_sends 65 = .ok (.iastore, 1) := by decide +kernel
theorem dX10_sends_66 : decode cX10_sends 66 = .ok (.aload_n 0, 1) := by decide +kernel
theorem dX10_sends_67 : decode cX10_sends 67 = .ok (.getfield 47, 3) := by decide +kernel
theorem dX10_sends_70 : decode cX10_sends 70 = .ok (.iload 6, 2) := by decide +kernel
theorem dX10_sends_72 : decode cX10_sends 72 = .ok (.iconst 3, 1) := by decide +kernel
theorem dX10_sends_73 : decode cX10_sends 73 = .ok (.iadd, 1) := by decide +kernel
theorem dX10_sends_74 : decode cX10_sends 74 = .ok (.iload 4, 2) := by decide +kernel
theorem dX10_sends_76 : decode cX10_sends 76 = .ok (.iastore, 1) := by decide +kernel
theorem dX10_sends_77 : decode cX10_sends 77 = .ok (.aload_n 0, 1) := by decide +kernel
theorem dX10_sends_78 : decode cX10_sends 78 = .ok (.getfield 47, 3) := by decide +kernel
theorem dX10_sends_81 : decode cX10_sends 81 = .ok (.sipush 483, 3) := by decide +kernel
theorem dX10_sends_84 : decode cX10_sends 84 = .ok (.iload_n 1, 1) := by decide +kernel
theorem dX10_sends_85 : decode cX10_sends 85 = .ok (.iload 5, 2) := by decide +kernel
theorem dX10_sends_87 : decode cX10_sends 87 = .ok (.invokestatic 94, 3) := by decide +kernel
theorem dX10_sends_90 : decode cX10_sends 90 = .ok (.iadd, 1) := by decide +kernel
theorem dX10_sends_91 : decode cX10_sends 91 = .ok (.dup2, 1) := by decide +kernel
theorem dX10_sends_92 : decode cX10_sends 92 = .ok (.iaload, 1) := by decide +kernel
theorem dX10_sends_93 : decode cX10_sends 93 = .ok (.iconst 1, 1) := by decide +kernel
theorem dX10_sends_94 : decode cX10_sends 94 = .ok (.iadd, 1) := by decide +kernel
theorem dX10_sends_95 : decode cX10_sends 95 = .ok (.iastore, 1) := by decide +kernel
theorem dX10_sends_96 : decode cX10_sends 96 = .ok (.iinc 5 1, 3) := by decide +kernel
theorem dX10_sends_99 : decode cX10_sends 99 = .ok (.goto (-96), 3) := by decide +kernel
theorem dX10_sends_102 : decode cX10_sends 102 = .ok (.return_, 1) := by decide +kernel
def b_X10_sends_96 (k3 : q_H → Nat → Int32 → Int32 → Int32 → Int32 → Int32 → Option (q_H × Unit)) (h : q_H) (v0 : Nat) (v1 : Int32) (v2 : Int32) (v3 : Int32) (v4 : Int32) (v5 : Int32) : Option (q_H × Unit) :=
  k3 h v0 v1 v2 v3 v4 (v5 + 1)
def b_X10_sends_3 (k3 : q_H → Nat → Int32 → Int32 → Int32 → Int32 → Int32 → Option (q_H × Unit)) (h : q_H) (v0 : Nat) (v1 : Int32) (v2 : Int32) (v3 : Int32) (v4 : Int32) (v5 : Int32) : Option (q_H × Unit) :=
  if (3) ≤ v5 then some (h, ()) else if v5 = v1 then b_X10_sends_96 k3 h v0 v1 v2 v3 v4 v5 else Option.bind (f_X10_waiting h v0 v1 v5) (fun q1 => Option.bind (f_X10_letterOf q1.1 v1 v5 q1.2) (fun q2 => Option.bind (q_gR 9 7 q2.1 v0) (fun x3 => Option.bind (q_gR 9 7 q2.1 v0) (fun x4 => Option.bind (q_lI 0 q2.1 x4 v1) (fun x5 => Option.bind (q_sI 0 id q2.1 x3 q2.2 x5) (fun h6 => Option.bind (q_gR 9 7 h6 v0) (fun x7 => Option.bind (q_sI 0 id h6 x7 (q2.2 + (1)) v2) (fun h8 => Option.bind (q_gR 9 7 h8 v0) (fun x9 => Option.bind (q_sI 0 id h8 x9 (q2.2 + (2)) v3) (fun h10 => Option.bind (q_gR 9 7 h10 v0) (fun x11 => Option.bind (q_sI 0 id h10 x11 (q2.2 + (3)) v4) (fun h12 => Option.bind (q_gR 9 7 h12 v0) (fun x13 => Option.bind (f_X10_wayOf h12 v1 v5) (fun q14 => Option.bind (q_lI 0 q14.1 x13 ((483) + q14.2)) (fun x15 => Option.bind (q_sI 0 id q14.1 x13 ((483) + q14.2) (x15 + (1))) (fun h16 => b_X10_sends_96 k3 h16 v0 v1 v2 v3 v4 v5))))))))))))))))
def l_X10_sends_3 : Nat → q_H → Nat → Int32 → Int32 → Int32 → Int32 → Int32 → Option (q_H × Unit)
  | 0, _, _, _, _, _, _, _ => none
  | n + 1, h, v0, v1, v2, v3, v4, v5 => b_X10_sends_3 (l_X10_sends_3 n) h v0 v1 v2 v3 v4 v5
def b_X10_sends_0 (h : q_H) (v0 : Nat) (v1 : Int32) (v2 : Int32) (v3 : Int32) (v4 : Int32) : Option (q_H × Unit) :=
  l_X10_sends_3 q_FU h v0 v1 v2 v3 v4 (0)
def f_X10_sends (h : q_H) (a0 : Nat) (a1 : Int32) (a2 : Int32) (a3 : Int32) (a4 : Int32) : Option (q_H × Unit) := q_chk 9 h a0 (b_X10_sends_0 h a0 a1 a2 a3 a4)
set_option maxRecDepth 20000 in
set_option maxHeartbeats 1000000 in
theorem jb_X10_sends_96 {G : q_G} {l : Launch} {k0 z0 : Nat} (k3 : q_H → Nat → Int32 → Int32 → Int32 → Int32 → Int32 → Option (q_H × Unit)) (hk3 : ∀ (h : q_H) (v0 : Nat) (v1 : Int32) (v2 : Int32) (v3 : Int32) (v4 : Int32) (v5 : Int32), q_J G l (RX10, cX10_sends, 7, 2, 43, none, "sends", []) k0 z0 (q_Z G k0 z0 q_u) 3 [(0, .ref v0), (1, .int v1), (2, .int v2), (3, .int v3), (4, .int v4), (5, .int v5)] [] h (k3 h v0 v1 v2 v3 v4 v5)) (h : q_H) (v0 : Nat) (v1 : Int32) (v2 : Int32) (v3 : Int32) (v4 : Int32) (v5 : Int32) : q_J G l (RX10, cX10_sends, 7, 2, 43, none, "sends", []) k0 z0 (q_Z G k0 z0 q_u) 96 [(0, .ref v0), (1, .int v1), (2, .int v2), (3, .int v3), (4, .int v4), (5, .int v5)] [] h (b_X10_sends_96 k3 h v0 v1 v2 v3 v4 v5) := by
  unfold b_X10_sends_96
  refine j_inc (pc := 96) (p := 5) (lv' := [(5, .int (v5 + 1)), (0, .ref v0), (1, .int v1), (2, .int v2), (3, .int v3), (4, .int v4)]) rfl ki_1 (by decide) rfl dX10_sends_96 ?_
  refine j_goto (pc := 99) (tgt := 3) dX10_sends_99 (by decide) ?_
  refine j_sub [1, 2, 3, 4, 5, 0] (lv' := [(0, .ref v0), (1, .int v1), (2, .int v2), (3, .int v3), (4, .int v4), (5, .int (v5 + 1))]) rfl ?_
  exact hk3 _ _ _ _ _ _ _
set_option maxRecDepth 20000 in
set_option maxHeartbeats 1000000 in
theorem jb_X10_sends_3 {G : q_G} {l : Launch} {k0 z0 : Nat} (k3 : q_H → Nat → Int32 → Int32 → Int32 → Int32 → Int32 → Option (q_H × Unit)) (hk3 : ∀ (h : q_H) (v0 : Nat) (v1 : Int32) (v2 : Int32) (v3 : Int32) (v4 : Int32) (v5 : Int32), q_J G l (RX10, cX10_sends, 7, 2, 43, none, "sends", []) k0 z0 (q_Z G k0 z0 q_u) 3 [(0, .ref v0), (1, .int v1), (2, .int v2), (3, .int v3), (4, .int v4), (5, .int v5)] [] h (k3 h v0 v1 v2 v3 v4 v5)) (h : q_H) (v0 : Nat) (v1 : Int32) (v2 : Int32) (v3 : Int32) (v4 : Int32) (v5 : Int32) : q_J G l (RX10, cX10_sends, 7, 2, 43, none, "sends", []) k0 z0 (q_Z G k0 z0 q_u) 3 [(0, .ref v0), (1, .int v1), (2, .int v2), (3, .int v3), (4, .int v4), (5, .int v5)] [] h (b_X10_sends_3 k3 h v0 v1 v2 v3 v4 v5) := by
  unfold b_X10_sends_3
  refine j_iload (pc := 3) (p := 5) rfl dX10_sends_3 ?_
  refine j_iconst (pc := 5) ki_3 dX10_sends_5 ?_
  refine j_ic_ge (pc := 6) (tgt := 102) dX10_sends_6 (by decide) (fun _ => ?_) (fun _ => ?_)
  · exact j_vret (pc := 102) rfl dX10_sends_102
  refine j_iload (pc := 9) (p := 5) rfl dX10_sends_9 ?_
  refine j_iload_n (pc := 11) (p := 1) rfl rfl dX10_sends_11 ?_
  refine j_ic_ne (pc := 12) (tgt := 18) dX10_sends_12 (by decide) (fun _ => ?_) (fun _ => ?_)
  · refine j_goto (pc := 15) (tgt := 96) dX10_sends_15 (by decide) ?_
    exact jb_X10_sends_96 k3 hk3 _ _ _ _ _ _ _
  refine j_iload_n (pc := 18) (p := 1) rfl rfl dX10_sends_18 ?_
  refine j_iload (pc := 19) (p := 5) rfl dX10_sends_19 ?_
  refine j_aload_n (pc := 21) (p := 0) rfl rfl dX10_sends_21 ?_
  refine j_iload_n (pc := 22) (p := 1) rfl rfl dX10_sends_22 ?_
  refine j_iload (pc := 23) (p := 5) rfl dX10_sends_23 ?_
  refine j_cVi (pc := 25) Y_X10_waiting (ci := 9) (b := v0) rfl rfl ml_X10_173 im_X10_waiting se_X10_waiting ⟨Nat.le_of_ble_eq_true rfl, Nat.le_of_ble_eq_true rfl⟩ dX10_sends_25 (As := [.int v1, .int v5]) (rest := [.int v5, .int v1]) rfl rfl (Nat.le_of_ble_eq_true rfl) (fun x hq9 => c_X10_waiting _ _ _ _ _ hq9) (fun q1 _ => ?_)
  refine j_cSi (pc := 28) Y_X10_letterOf ml_X10_176 sm_X10_letterOf ⟨Nat.le_of_ble_eq_true rfl, Nat.le_of_ble_eq_true rfl⟩ dX10_sends_28 (As := [.int v1, .int v5, .int q1.2]) (rest := []) rfl rfl (Nat.le_of_ble_eq_true rfl) (fun x hq9 => c_X10_letterOf _ _ _ _ _ hq9) (fun q2 _ => ?_)
  refine j_istore (pc := 31) (lv' := [(6, .int q2.2), (0, .ref v0), (1, .int v1), (2, .int v2), (3, .int v3), (4, .int v4), (5, .int v5)]) (by decide) rfl dX10_sends_31 ?_
  refine j_aload_n (pc := 33) (p := 1) rfl rfl dX10_sends_33 ?_
  refine j_getR (pc := 34) FI_X10 (k := 7) (by decide) fl_X10_47 dX10_sends_34 (fun x3 _ => ?_)
  refine j_iload (pc := 37) (p := 0) rfl dX10_sends_37 ?_
  refine j_aload_n (pc := 39) (p := 1) rfl rfl dX10_sends_39 ?_
  refine j_getR (pc := 40) FI_X10 (k := 7) (by decide) fl_X10_47 dX10_sends_40 (fun x4 _ => ?_)
  refine j_iload_n (pc := 43) (p := 2) rfl rfl dX10_sends_43 ?_
  refine j_iald (pc := 44) dX10_sends_44 (fun x5 _ => ?_)
  refine j_iast (pc := 45) dX10_sends_45 (fun h6 _ => ?_)
  refine j_aload_n (pc := 46) (p := 1) rfl rfl dX10_sends_46 ?_
  refine j_getR (pc := 47) FI_X10 (k := 7) (by decide) fl_X10_47 dX10_sends_47 (fun x7 _ => ?_)
  refine j_iload (pc := 50) (p := 0) rfl dX10_sends_50 ?_
  refine j_iconst (pc := 52) ki_1 dX10_sends_52 ?_
  refine j_iadd (pc := 53) dX10_sends_53 ?_
  refine j_iload_n (pc := 54) (p := 3) rfl rfl dX10_sends_54 ?_
  refine j_iast (pc := 55) dX10_sends_55 (fun h8 _ => ?_)
  refine j_aload_n (pc := 56) (p := 1) rfl rfl dX10_sends_56 ?_
  refine j_getR (pc := 57) FI_X10 (k := 7) (by decide) fl_X10_47 dX10_sends_57 (fun x9 _ => ?_)
  refine j_iload (pc := 60) (p := 0) rfl dX10_sends_60 ?_
  refine j_iconst (pc := 62) ki_2 dX10_sends_62 ?_
  refine j_iadd (pc := 63) dX10_sends_63 ?_
  refine j_iload_n (pc := 64) (p := 4) rfl rfl dX10_sends_64 ?_
  refine j_iast (pc := 65) dX10_sends_65 (fun h10 _ => ?_)
  refine j_aload_n (pc := 66) (p := 1) rfl rfl dX10_sends_66 ?_
  refine j_getR (pc := 67) FI_X10 (k := 7) (by decide) fl_X10_47 dX10_sends_67 (fun x11 _ => ?_)
  refine j_iload (pc := 70) (p := 0) rfl dX10_sends_70 ?_
  refine j_iconst (pc := 72) ki_3 dX10_sends_72 ?_
  refine j_iadd (pc := 73) dX10_sends_73 ?_
  refine j_iload (pc := 74) (p := 5) rfl dX10_sends_74 ?_
  refine j_iast (pc := 76) dX10_sends_76 (fun h12 _ => ?_)
  refine j_aload_n (pc := 77) (p := 1) rfl rfl dX10_sends_77 ?_
  refine j_getR (pc := 78) FI_X10 (k := 7) (by decide) fl_X10_47 dX10_sends_78 (fun x13 _ => ?_)
  refine j_sipush (pc := 81) ks_483 dX10_sends_81 ?_
  refine j_iload_n (pc := 84) (p := 2) rfl rfl dX10_sends_84 ?_
  refine j_iload (pc := 85) (p := 6) rfl dX10_sends_85 ?_
  refine j_cSi (pc := 87) Y_X10_wayOf ml_X10_94 sm_X10_wayOf ⟨Nat.le_of_ble_eq_true rfl, Nat.le_of_ble_eq_true rfl⟩ dX10_sends_87 (As := [.int v1, .int v5]) (rest := [.int (483), .ref x13]) rfl rfl (Nat.le_of_ble_eq_true rfl) (fun x hq9 => c_X10_wayOf _ _ _ _ hq9) (fun q14 _ => ?_)
  refine j_iadd (pc := 90) dX10_sends_90 ?_
  refine j_dup2 (pc := 91) rfl rfl dX10_sends_91 ?_
  refine j_iald (pc := 92) dX10_sends_92 (fun x15 _ => ?_)
  refine j_iconst (pc := 93) ki_1 dX10_sends_93 ?_
  refine j_iadd (pc := 94) dX10_sends_94 ?_
  refine j_iast (pc := 95) dX10_sends_95 (fun h16 _ => ?_)
  refine j_sub [1, 2, 3, 4, 5, 6] (lv' := [(0, .ref v0), (1, .int v1), (2, .int v2), (3, .int v3), (4, .int v4), (5, .int v5)]) rfl ?_
  exact jb_X10_sends_96 k3 hk3 _ _ _ _ _ _ _
set_option maxRecDepth 20000 in
set_option maxHeartbeats 1000000 in
theorem jl_X10_sends_3 {G : q_G} {l : Launch} {k0 z0 : Nat} (n : Nat) : ∀ (h : q_H) (v0 : Nat) (v1 : Int32) (v2 : Int32) (v3 : Int32) (v4 : Int32) (v5 : Int32), q_J G l (RX10, cX10_sends, 7, 2, 43, none, "sends", []) k0 z0 (q_Z G k0 z0 q_u) 3 [(0, .ref v0), (1, .int v1), (2, .int v2), (3, .int v3), (4, .int v4), (5, .int v5)] [] h (l_X10_sends_3 n h v0 v1 v2 v3 v4 v5) := by
  induction n with
  | zero => intro h v0 v1 v2 v3 v4 v5; exact j_none
  | succ n ih => intro h v0 v1 v2 v3 v4 v5; exact jb_X10_sends_3 (l_X10_sends_3 n) ih h v0 v1 v2 v3 v4 v5
set_option maxRecDepth 20000 in
set_option maxHeartbeats 1000000 in
theorem jb_X10_sends_0 {G : q_G} {l : Launch} {k0 z0 : Nat} (h : q_H) (v0 : Nat) (v1 : Int32) (v2 : Int32) (v3 : Int32) (v4 : Int32) : q_J G l (RX10, cX10_sends, 7, 2, 43, none, "sends", []) k0 z0 (q_Z G k0 z0 q_u) 0 [(0, .ref v0), (1, .int v1), (2, .int v2), (3, .int v3), (4, .int v4)] [] h (b_X10_sends_0 h v0 v1 v2 v3 v4) := by
  unfold b_X10_sends_0
  refine j_iconst (pc := 0) ki_0 dX10_sends_0 ?_
  refine j_istore (pc := 1) (lv' := [(5, .int (0)), (0, .ref v0), (1, .int v1), (2, .int v2), (3, .int v3), (4, .int v4)]) (by decide) rfl dX10_sends_1 ?_
  refine j_sub [1, 2, 3, 4, 5, 0] (lv' := [(0, .ref v0), (1, .int v1), (2, .int v2), (3, .int v3), (4, .int v4), (5, .int (0))]) rfl ?_
  exact jl_X10_sends_3 q_FU _ _ _ _ _ _ _
set_option maxRecDepth 20000 in
set_option maxHeartbeats 1000000 in
theorem c_X10_sends {G : q_G} {l : Launch} : ∀ (h : q_H) (a0 : Nat) (a1 : Int32) (a2 : Int32) (a3 : Int32) (a4 : Int32) (q : q_H × Unit), f_X10_sends h a0 a1 a2 a3 a4 = some q → (∃ fs, h.1 a0 = .inr (9, fs)) ∧ q_CT G l yX10_sends cX10_sends 7 none 2 43 [.ref a0, .int a1, .int a2, .int a3, .int a4] h q.1 (q_u q.2) := by
  intro h a0 a1 a2 a3 a4 q e
  obtain ⟨e1, e2⟩ := q_chk_ok e
  exact ⟨e1, q_ofJ Y_X10_sends (Nat.le_of_ble_eq_true rfl) (jb_X10_sends_0 h a0 a1 a2 a3 a4) q e2⟩
/-! FarFoldersModel.beatsOne(I)I -/
theorem dX10_beatsOne_0 : decode cX10_beatsOne 0 = .ok (.iload_n 1, 1) := by decide +kernel
theorem dX10_beatsOne_1 : decode cX10_beatsOne 1 = .ok (.invokestatic 101, 3) := by decide +kernel
theorem dX10_beatsOne_4 : decode cX10_beatsOne 4 = .ok (.ifCond .ne 5, 3) := by decide +kernel
theorem dX10_beatsOne_7 : decode cX10_beatsOne 7 = .ok (.iconst (-1), 1) := by decide +kernel
theorem dX10_beatsOne_8 : decode cX10_beatsOne 8 = .ok (.ireturn, 1) := by decide +kernel
theorem dX10_beatsOne_9 : decode cX10_beatsOne 9 = .ok (.aload_n 0, 1) := by decide +kernel
theorem dX10_beatsOne_10 : decode cX10_beatsOne 10 = .ok (.iload_n 1, 1) := by decide +kernel
theorem dX10_beatsOne_11 : decode cX10_beatsOne 11 = .ok (.invokevirtual 184, 3) := by decide +kernel
theorem dX10_beatsOne_14 : decode cX10_beatsOne 14 = .ok (.ifCond .eq 6, 3) := by decide +kernel
theorem dX10_beatsOne_17 : decode cX10_beatsOne 17 = .ok (.bipush (-3), 2) := by decide +kernel
theorem dX10_beatsOne_19 : decode cX10_beatsOne 19 = .ok (.ireturn, 1) := by decide +kernel
theorem dX10_beatsOne_20 : decode cX10_beatsOne 20 = .ok (.aload_n 0, 1) := by decide +kernel
theorem dX10_beatsOne_21 : decode cX10_beatsOne 21 = .ok (.iload_n 1, 1) := by decide +kernel
theorem dX10_beatsOne_22 : decode cX10_beatsOne 22 = .ok (.iconst (-1), 1) := by decide +kernel
theorem dX10_beatsOne_23 : decode cX10_beatsOne 23 = .ok (.iconst 0, 1) := by decide +kernel
theorem dX10_beatsOne_24 : decode cX10_beatsOne 24 = .ok (.iconst 0, 1) := by decide +kernel
theorem dX10_beatsOne_25 : decode cX10_beatsOne 25 = .ok (.invokevirtual 194, 3) := by decide +kernel
theorem dX10_beatsOne_28 : decode cX10_beatsOne 28 = .ok (.aload_n 0, 1) := by decide +kernel
theorem dX10_beatsOne_29 : decode cX10_beatsOne 29 = .ok (.getfield 47, 3) := by decide +kernel
theorem dX10_beatsOne_32 : decode cX10_beatsOne 32 = .ok (.iload_n 1, 1) := by decide +kernel
theorem dX10_beatsOne_33 : decode cX10_beatsOne 33 = .ok (.iaload, 1) := by decide +kernel
theorem dX10_beatsOne_34 : decode cX10_beatsOne 34 = .ok (.ireturn, 1) := by decide +kernel
def b_X10_beatsOne_0 (h : q_H) (v0 : Nat) (v1 : Int32) : Option (q_H × Int32) :=
  Option.bind (f_X10_isCopy h v1) (fun q1 => if q1.2 = 0 then some (q1.1, (-1)) else Option.bind (f_X10_areFull q1.1 v0 v1) (fun q2 => if q2.2 = 0 then Option.bind (f_X10_sends q2.1 v0 v1 (-1) (0) (0)) (fun q3 => Option.bind (q_gR 9 7 q3.1 v0) (fun x4 => Option.bind (q_lI 0 q3.1 x4 v1) (fun x5 => some (q3.1, x5)))) else some (q2.1, (-3))))
def f_X10_beatsOne (h : q_H) (a0 : Nat) (a1 : Int32) : Option (q_H × Int32) := q_chk 9 h a0 (b_X10_beatsOne_0 h a0 a1)
set_option maxRecDepth 20000 in
set_option maxHeartbeats 1000000 in
theorem jb_X10_beatsOne_0 {G : q_G} {l : Launch} {k0 z0 : Nat} (h : q_H) (v0 : Nat) (v1 : Int32) : q_J G l (RX10, cX10_beatsOne, 2, 3, 69, (some .int), "beatsOne", []) k0 z0 (q_Z G k0 z0 q_i) 0 [(0, .ref v0), (1, .int v1)] [] h (b_X10_beatsOne_0 h v0 v1) := by
  unfold b_X10_beatsOne_0
  refine j_iload_n (pc := 0) (p := 1) rfl rfl dX10_beatsOne_0 ?_
  refine j_cSi (pc := 1) Y_X10_isCopy ml_X10_101 sm_X10_isCopy ⟨Nat.le_of_ble_eq_true rfl, Nat.le_of_ble_eq_true rfl⟩ dX10_beatsOne_1 (As := [.int v1]) (rest := []) rfl rfl (Nat.le_of_ble_eq_true rfl) (fun x hq9 => c_X10_isCopy _ _ _ hq9) (fun q1 _ => ?_)
  refine j_if_ne (pc := 4) (tgt := 9) dX10_beatsOne_4 (by decide) (fun _ => ?_) (fun _ => ?_)
  · refine j_iconst (pc := 7) ki_m1 dX10_beatsOne_7 ?_
    exact j_iret (pc := 8) rfl dX10_beatsOne_8
  refine j_aload_n (pc := 9) (p := 0) rfl rfl dX10_beatsOne_9 ?_
  refine j_iload_n (pc := 10) (p := 1) rfl rfl dX10_beatsOne_10 ?_
  refine j_cVi (pc := 11) Y_X10_areFull (ci := 9) (b := v0) rfl rfl ml_X10_184 im_X10_areFull se_X10_areFull ⟨Nat.le_of_ble_eq_true rfl, Nat.le_of_ble_eq_true rfl⟩ dX10_beatsOne_11 (As := [.int v1]) (rest := []) rfl rfl (Nat.le_of_ble_eq_true rfl) (fun x hq9 => c_X10_areFull _ _ _ _ hq9) (fun q2 _ => ?_)
  refine j_if_eq (pc := 14) (tgt := 20) dX10_beatsOne_14 (by decide) (fun _ => ?_) (fun _ => ?_)
  · refine j_aload_n (pc := 20) (p := 0) rfl rfl dX10_beatsOne_20 ?_
    refine j_iload_n (pc := 21) (p := 1) rfl rfl dX10_beatsOne_21 ?_
    refine j_iconst (pc := 22) ki_m1 dX10_beatsOne_22 ?_
    refine j_iconst (pc := 23) ki_0 dX10_beatsOne_23 ?_
    refine j_iconst (pc := 24) ki_0 dX10_beatsOne_24 ?_
    refine j_cVu (pc := 25) Y_X10_sends (ci := 9) (b := v0) rfl rfl ml_X10_194 im_X10_sends se_X10_sends ⟨Nat.le_of_ble_eq_true rfl, Nat.le_of_ble_eq_true rfl⟩ dX10_beatsOne_25 (As := [.int v1, .int (-1), .int (0), .int (0)]) (rest := []) rfl rfl (Nat.le_of_ble_eq_true rfl) (fun x hq9 => c_X10_sends _ _ _ _ _ _ _ hq9) (fun q3 _ => ?_)
    refine j_aload_n (pc := 28) (p := 0) rfl rfl dX10_beatsOne_28 ?_
    refine j_getR (pc := 29) FI_X10 (k := 7) (by decide) fl_X10_47 dX10_beatsOne_29 (fun x4 _ => ?_)
    refine j_iload_n (pc := 32) (p := 1) rfl rfl dX10_beatsOne_32 ?_
    refine j_iald (pc := 33) dX10_beatsOne_33 (fun x5 _ => ?_)
    exact j_iret (pc := 34) rfl dX10_beatsOne_34
  refine j_bipush (pc := 17) kb_m3 dX10_beatsOne_17 ?_
  exact j_iret (pc := 19) rfl dX10_beatsOne_19
set_option maxRecDepth 20000 in
set_option maxHeartbeats 1000000 in
theorem c_X10_beatsOne {G : q_G} {l : Launch} : ∀ (h : q_H) (a0 : Nat) (a1 : Int32) (q : q_H × Int32), f_X10_beatsOne h a0 a1 = some q → (∃ fs, h.1 a0 = .inr (9, fs)) ∧ q_CT G l yX10_beatsOne cX10_beatsOne 2 (some .int) 3 69 [.ref a0, .int a1] h q.1 (q_i q.2) := by
  intro h a0 a1 q e
  obtain ⟨e1, e2⟩ := q_chk_ok e
  exact ⟨e1, q_ofJ Y_X10_beatsOne (Nat.le_of_ble_eq_true rfl) (jb_X10_beatsOne_0 h a0 a1) q e2⟩
/-! FarFoldersModel.beats(I)I -/
theorem dX10_beats_0 : decode cX10_beats 0 = .ok (.aload_n 0, 1) := by decide +kernel
theorem dX10_beats_1 : decode cX10_beats 1 = .ok (.iconst 0, 1) := by decide +kernel
theorem dX10_beats_2 : decode cX10_beats 2 = .ok (.putfield 1, 3) := by decide +kernel
theorem dX10_beats_5 : decode cX10_beats 5 = .ok (.aload_n 0, 1) := by decide +kernel
theorem dX10_beats_6 : decode cX10_beats 6 = .ok (.iload_n 1, 1) := by decide +kernel
theorem dX10_beats_7 : decode cX10_beats 7 = .ok (.invokevirtual 206, 3) := by decide +kernel
theorem dX10_beats_10 : decode cX10_beats 10 = .ok (.ireturn, 1) := by decide +kernel
def b_X10_beats_0 (h : q_H) (v0 : Nat) (v1 : Int32) : Option (q_H × Int32) :=
  Option.bind (q_p 9 0 h v0 (.int (0))) (fun h1 => Option.bind (f_X10_beatsOne h1 v0 v1) (fun q2 => some (q2.1, q2.2)))
def f_X10_beats (h : q_H) (a0 : Nat) (a1 : Int32) : Option (q_H × Int32) := q_chk 9 h a0 (b_X10_beats_0 h a0 a1)
set_option maxRecDepth 20000 in
set_option maxHeartbeats 1000000 in
theorem jb_X10_beats_0 {G : q_G} {l : Launch} {k0 z0 : Nat} (h : q_H) (v0 : Nat) (v1 : Int32) : q_J G l (RX10, cX10_beats, 2, 4, 90, (some .int), "beats", []) k0 z0 (q_Z G k0 z0 q_i) 0 [(0, .ref v0), (1, .int v1)] [] h (b_X10_beats_0 h v0 v1) := by
  unfold b_X10_beats_0
  refine j_aload_n (pc := 0) (p := 0) rfl rfl dX10_beats_0 ?_
  refine j_iconst (pc := 1) ki_0 dX10_beats_1 ?_
  refine j_put (pc := 2) FI_X10 (k := 0) (by decide) fl_X10_1 rfl rfl rfl dX10_beats_2 (fun h1 _ => ?_)
  refine j_aload_n (pc := 5) (p := 0) rfl rfl dX10_beats_5 ?_
  refine j_iload_n (pc := 6) (p := 1) rfl rfl dX10_beats_6 ?_
  refine j_cVi (pc := 7) Y_X10_beatsOne (ci := 9) (b := v0) rfl rfl ml_X10_206 im_X10_beatsOne se_X10_beatsOne ⟨Nat.le_of_ble_eq_true rfl, Nat.le_of_ble_eq_true rfl⟩ dX10_beats_7 (As := [.int v1]) (rest := []) rfl rfl (Nat.le_of_ble_eq_true rfl) (fun x hq9 => c_X10_beatsOne _ _ _ _ hq9) (fun q2 _ => ?_)
  exact j_iret (pc := 10) rfl dX10_beats_10
set_option maxRecDepth 20000 in
set_option maxHeartbeats 1000000 in
theorem c_X10_beats {G : q_G} {l : Launch} : ∀ (h : q_H) (a0 : Nat) (a1 : Int32) (q : q_H × Int32), f_X10_beats h a0 a1 = some q → (∃ fs, h.1 a0 = .inr (9, fs)) ∧ q_CT G l yX10_beats cX10_beats 2 (some .int) 4 90 [.ref a0, .int a1] h q.1 (q_i q.2) := by
  intro h a0 a1 q e
  obtain ⟨e1, e2⟩ := q_chk_ok e
  exact ⟨e1, q_ofJ Y_X10_beats (Nat.le_of_ble_eq_true rfl) (jb_X10_beats_0 h a0 a1) q e2⟩
/-! FarFoldersModel.rightBelow(II)I -/
theorem dX10_rightBelow_0 : decode cX10_rightBelow 0 = .ok (.iconst 0, 1) := by decide +kernel
theorem dX10_rightBelow_1 : decode cX10_rightBelow 1 = .ok (.istore_n 3, 1) := by decide +kernel
theorem dX10_rightBelow_2 : decode cX10_rightBelow 2 = .ok (.iconst 2, 1) := by decide +kernel
theorem dX10_rightBelow_3 : decode cX10_rightBelow 3 = .ok (.istore 4, 2) := by decide +kernel
theorem dX10_rightBelow_5 : decode cX10_rightBelow 5 = .ok (.iload 4, 2) := by decide +kernel
theorem dX10_rightBelow_7 : decode cX10_rightBelow 7 = .ok (.bipush 14, 2) := by decide +kernel
theorem dX10_rightBelow_9 : decode cX10_rightBelow 9 = .ok (.if_icmp .ge 42, 3) := by decide +kernel
theorem dX10_rightBelow_12 : decode cX10_rightBelow 12 = .ok (.iload_n 3, 1) := by decide +kernel
theorem dX10_rightBelow_13 : decode cX10_rightBelow 13 = .ok (.aload_n 0, 1) := by decide +kernel
theorem dX10_rightBelow_14 : decode cX10_rightBelow 14 = .ok (.iload_n 1, 1) := by decide +kernel
theorem dX10_rightBelow_15 : decode cX10_rightBelow 15 = .ok (.iload 4, 2) := by decide +kernel
theorem dX10_rightBelow_17 : decode cX10_rightBelow 17 = .ok (.invokevirtual 133, 3) := by decide +kernel
theorem dX10_rightBelow_20 : decode cX10_rightBelow 20 = .ok (.ifCond .eq 22, 3) := by decide +kernel
theorem dX10_rightBelow_23 : decode cX10_rightBelow 23 = .ok (.aload_n 0, 1) := by decide +kernel
theorem dX10_rightBelow_24 : decode cX10_rightBelow 24 = .ok (.iload_n 1, 1) := by decide +kernel
theorem dX10_rightBelow_25 : decode cX10_rightBelow 25 = .ok (.iload 4, 2) := by decide +kernel
theorem dX10_rightBelow_27 : decode cX10_rightBelow 27 = .ok (.iconst 0, 1) := by decide +kernel
theorem dX10_rightBelow_28 : decode cX10_rightBelow 28 = .ok (.invokevirtual 129, 3) := by decide +kernel
theorem dX10_rightBelow_31 : decode cX10_rightBelow 31 = .ok (.iload_n 2, 1) := by decide +kernel
theorem dX10_rightBelow_32 : decode cX10_rightBelow 32 = .ok (.if_icmp .ne 10, 3) := by decide +kernel
theorem dX10_rightBelow_35 : decode cX10_rightBelow 35 = .ok (.iconst 1, 1) := by decide +kernel
theorem dX10_rightBelow_36 : decode cX10_rightBelow 36 = .ok (.iload 4, 2) := by decide +kernel
theorem dX10_rightBelow_38 : decode cX10_rightBelow 38 = .ok (.ishl, 1) := by decide +kernel
theorem dX10_rightBelow_39 : decode cX10_rightBelow 39 = .ok (.goto 4, 3) := by decide +kernel
theorem dX10_rightBelow_42 : decode cX10_rightBelow 42 = .ok (.iconst 0, 1) := by decide +kernel
theorem dX10_rightBelow_43 : decode cX10_rightBelow 43 = .ok (.ior, 1) := by decide +kernel
theorem dX10_rightBelow_44 : decode cX10_rightBelow 44 = .ok (.istore_n 3, 1) := by decide +kernel
theorem dX10_rightBelow_45 : decode cX10_rightBelow 45 = .ok (.iinc 4 1, 3) := by decide +kernel
theorem dX10_rightBelow_48 : decode cX10_rightBelow 48 = .ok (.goto (-43), 3) := by decide +kernel
theorem dX10_rightBelow_51 : decode cX10_rightBelow 51 = .ok (.iload_n 3, 1) := by decide +kernel
theorem dX10_rightBelow_52 : decode cX10_rightBelow 52 = .ok (.ireturn, 1) := by decide +kernel
def b_X10_rightBelow_43 (k5 : q_H → Nat → Int32 → Int32 → Int32 → Int32 → Option (q_H × Int32)) (h : q_H) (v0 : Nat) (v1 : Int32) (v2 : Int32) (v4 : Int32) (s0 : Int32) (s1 : Int32) : Option (q_H × Int32) :=
  k5 h v0 v1 v2 (s0 ||| s1) (v4 + 1)
def b_X10_rightBelow_42 (k5 : q_H → Nat → Int32 → Int32 → Int32 → Int32 → Option (q_H × Int32)) (h : q_H) (v0 : Nat) (v1 : Int32) (v2 : Int32) (v4 : Int32) (s0 : Int32) : Option (q_H × Int32) :=
  b_X10_rightBelow_43 k5 h v0 v1 v2 v4 s0 (0)
def b_X10_rightBelow_5 (k5 : q_H → Nat → Int32 → Int32 → Int32 → Int32 → Option (q_H × Int32)) (h : q_H) (v0 : Nat) (v1 : Int32) (v2 : Int32) (v3 : Int32) (v4 : Int32) : Option (q_H × Int32) :=
  if (14) ≤ v4 then some (h, v3) else Option.bind (f_X10_isThere h v0 v1 v4) (fun q1 => if q1.2 = 0 then b_X10_rightBelow_42 k5 q1.1 v0 v1 v2 v4 v3 else Option.bind (f_X10_its q1.1 v0 v1 v4 (0)) (fun q2 => if q2.2 = v2 then b_X10_rightBelow_43 k5 q2.1 v0 v1 v2 v4 v3 ((1) <<< (v4 &&& 31)) else b_X10_rightBelow_42 k5 q2.1 v0 v1 v2 v4 v3))
def l_X10_rightBelow_5 : Nat → q_H → Nat → Int32 → Int32 → Int32 → Int32 → Option (q_H × Int32)
  | 0, _, _, _, _, _, _ => none
  | n + 1, h, v0, v1, v2, v3, v4 => b_X10_rightBelow_5 (l_X10_rightBelow_5 n) h v0 v1 v2 v3 v4
def b_X10_rightBelow_0 (h : q_H) (v0 : Nat) (v1 : Int32) (v2 : Int32) : Option (q_H × Int32) :=
  l_X10_rightBelow_5 q_FU h v0 v1 v2 (0) (2)
def f_X10_rightBelow (h : q_H) (a0 : Nat) (a1 : Int32) (a2 : Int32) : Option (q_H × Int32) := q_chk 9 h a0 (b_X10_rightBelow_0 h a0 a1 a2)
set_option maxRecDepth 20000 in
set_option maxHeartbeats 1000000 in
theorem jb_X10_rightBelow_43 {G : q_G} {l : Launch} {k0 z0 : Nat} (k5 : q_H → Nat → Int32 → Int32 → Int32 → Int32 → Option (q_H × Int32)) (hk5 : ∀ (h : q_H) (v0 : Nat) (v1 : Int32) (v2 : Int32) (v3 : Int32) (v4 : Int32), q_J G l (RX10, cX10_rightBelow, 5, 2, 45, (some .int), "rightBelow", []) k0 z0 (q_Z G k0 z0 q_i) 5 [(0, .ref v0), (1, .int v1), (2, .int v2), (3, .int v3), (4, .int v4)] [] h (k5 h v0 v1 v2 v3 v4)) (h : q_H) (v0 : Nat) (v1 : Int32) (v2 : Int32) (v4 : Int32) (s0 : Int32) (s1 : Int32) : q_J G l (RX10, cX10_rightBelow, 5, 2, 45, (some .int), "rightBelow", []) k0 z0 (q_Z G k0 z0 q_i) 43 [(0, .ref v0), (1, .int v1), (2, .int v2), (4, .int v4)] [.int s1, .int s0] h (b_X10_rightBelow_43 k5 h v0 v1 v2 v4 s0 s1) := by
  unfold b_X10_rightBelow_43
  refine j_ior (pc := 43) dX10_rightBelow_43 ?_
  refine j_istore_n (pc := 44) (lv' := [(3, .int (s0 ||| s1)), (0, .ref v0), (1, .int v1), (2, .int v2), (4, .int v4)]) rfl (by decide) rfl dX10_rightBelow_44 ?_
  refine j_inc (pc := 45) (p := 4) (lv' := [(4, .int (v4 + 1)), (3, .int (s0 ||| s1)), (0, .ref v0), (1, .int v1), (2, .int v2)]) rfl ki_1 (by decide) rfl dX10_rightBelow_45 ?_
  refine j_goto (pc := 48) (tgt := 5) dX10_rightBelow_48 (by decide) ?_
  refine j_sub [2, 3, 4, 1, 0] (lv' := [(0, .ref v0), (1, .int v1), (2, .int v2), (3, .int (s0 ||| s1)), (4, .int (v4 + 1))]) rfl ?_
  exact hk5 _ _ _ _ _ _
set_option maxRecDepth 20000 in
set_option maxHeartbeats 1000000 in
theorem jb_X10_rightBelow_42 {G : q_G} {l : Launch} {k0 z0 : Nat} (k5 : q_H → Nat → Int32 → Int32 → Int32 → Int32 → Option (q_H × Int32)) (hk5 : ∀ (h : q_H) (v0 : Nat) (v1 : Int32) (v2 : Int32) (v3 : Int32) (v4 : Int32), q_J G l (RX10, cX10_rightBelow, 5, 2, 45, (some .int), "rightBelow", []) k0 z0 (q_Z G k0 z0 q_i) 5 [(0, .ref v0), (1, .int v1), (2, .int v2), (3, .int v3), (4, .int v4)] [] h (k5 h v0 v1 v2 v3 v4)) (h : q_H) (v0 : Nat) (v1 : Int32) (v2 : Int32) (v4 : Int32) (s0 : Int32) : q_J G l (RX10, cX10_rightBelow, 5, 2, 45, (some .int), "rightBelow", []) k0 z0 (q_Z G k0 z0 q_i) 42 [(0, .ref v0), (1, .int v1), (2, .int v2), (4, .int v4)] [.int s0] h (b_X10_rightBelow_42 k5 h v0 v1 v2 v4 s0) := by
  unfold b_X10_rightBelow_42
  refine j_iconst (pc := 42) ki_0 dX10_rightBelow_42 ?_
  exact jb_X10_rightBelow_43 k5 hk5 _ _ _ _ _ _ _
set_option maxRecDepth 20000 in
set_option maxHeartbeats 1000000 in
theorem jb_X10_rightBelow_5 {G : q_G} {l : Launch} {k0 z0 : Nat} (k5 : q_H → Nat → Int32 → Int32 → Int32 → Int32 → Option (q_H × Int32)) (hk5 : ∀ (h : q_H) (v0 : Nat) (v1 : Int32) (v2 : Int32) (v3 : Int32) (v4 : Int32), q_J G l (RX10, cX10_rightBelow, 5, 2, 45, (some .int), "rightBelow", []) k0 z0 (q_Z G k0 z0 q_i) 5 [(0, .ref v0), (1, .int v1), (2, .int v2), (3, .int v3), (4, .int v4)] [] h (k5 h v0 v1 v2 v3 v4)) (h : q_H) (v0 : Nat) (v1 : Int32) (v2 : Int32) (v3 : Int32) (v4 : Int32) : q_J G l (RX10, cX10_rightBelow, 5, 2, 45, (some .int), "rightBelow", []) k0 z0 (q_Z G k0 z0 q_i) 5 [(0, .ref v0), (1, .int v1), (2, .int v2), (3, .int v3), (4, .int v4)] [] h (b_X10_rightBelow_5 k5 h v0 v1 v2 v3 v4) := by
  unfold b_X10_rightBelow_5
  refine j_iload (pc := 5) (p := 4) rfl dX10_rightBelow_5 ?_
  refine j_bipush (pc := 7) kb_14 dX10_rightBelow_7 ?_
  refine j_ic_ge (pc := 9) (tgt := 51) dX10_rightBelow_9 (by decide) (fun _ => ?_) (fun _ => ?_)
  · refine j_iload_n (pc := 51) (p := 3) rfl rfl dX10_rightBelow_51 ?_
    exact j_iret (pc := 52) rfl dX10_rightBelow_52
  refine j_iload_n (pc := 12) (p := 3) rfl rfl dX10_rightBelow_12 ?_
  refine j_aload_n (pc := 13) (p := 0) rfl rfl dX10_rightBelow_13 ?_
  refine j_iload_n (pc := 14) (p := 1) rfl rfl dX10_rightBelow_14 ?_
  refine j_iload (pc := 15) (p := 4) rfl dX10_rightBelow_15 ?_
  refine j_cVi (pc := 17) Y_X10_isThere (ci := 9) (b := v0) rfl rfl ml_X10_133 im_X10_isThere se_X10_isThere ⟨Nat.le_of_ble_eq_true rfl, Nat.le_of_ble_eq_true rfl⟩ dX10_rightBelow_17 (As := [.int v1, .int v4]) (rest := [.int v3]) rfl rfl (Nat.le_of_ble_eq_true rfl) (fun x hq9 => c_X10_isThere _ _ _ _ _ hq9) (fun q1 _ => ?_)
  refine j_if_eq (pc := 20) (tgt := 42) dX10_rightBelow_20 (by decide) (fun _ => ?_) (fun _ => ?_)
  · refine j_sub [0, 1, 2, 4] (lv' := [(0, .ref v0), (1, .int v1), (2, .int v2), (4, .int v4)]) rfl ?_
    exact jb_X10_rightBelow_42 k5 hk5 _ _ _ _ _ _
  refine j_aload_n (pc := 23) (p := 0) rfl rfl dX10_rightBelow_23 ?_
  refine j_iload_n (pc := 24) (p := 1) rfl rfl dX10_rightBelow_24 ?_
  refine j_iload (pc := 25) (p := 4) rfl dX10_rightBelow_25 ?_
  refine j_iconst (pc := 27) ki_0 dX10_rightBelow_27 ?_
  refine j_cVi (pc := 28) Y_X10_its (ci := 9) (b := v0) rfl rfl ml_X10_129 im_X10_its se_X10_its ⟨Nat.le_of_ble_eq_true rfl, Nat.le_of_ble_eq_true rfl⟩ dX10_rightBelow_28 (As := [.int v1, .int v4, .int (0)]) (rest := [.int v3]) rfl rfl (Nat.le_of_ble_eq_true rfl) (fun x hq9 => c_X10_its _ _ _ _ _ _ hq9) (fun q2 _ => ?_)
  refine j_iload_n (pc := 31) (p := 2) rfl rfl dX10_rightBelow_31 ?_
  refine j_ic_ne (pc := 32) (tgt := 42) dX10_rightBelow_32 (by decide) (fun _ => ?_) (fun _ => ?_)
  · refine j_iconst (pc := 35) ki_1 dX10_rightBelow_35 ?_
    refine j_iload (pc := 36) (p := 4) rfl dX10_rightBelow_36 ?_
    refine j_ishl (pc := 38) dX10_rightBelow_38 ?_
    refine j_goto (pc := 39) (tgt := 43) dX10_rightBelow_39 (by decide) ?_
    refine j_sub [0, 1, 2, 4] (lv' := [(0, .ref v0), (1, .int v1), (2, .int v2), (4, .int v4)]) rfl ?_
    exact jb_X10_rightBelow_43 k5 hk5 _ _ _ _ _ _ _
  refine j_sub [0, 1, 2, 4] (lv' := [(0, .ref v0), (1, .int v1), (2, .int v2), (4, .int v4)]) rfl ?_
  exact jb_X10_rightBelow_42 k5 hk5 _ _ _ _ _ _
set_option maxRecDepth 20000 in
set_option maxHeartbeats 1000000 in
theorem jl_X10_rightBelow_5 {G : q_G} {l : Launch} {k0 z0 : Nat} (n : Nat) : ∀ (h : q_H) (v0 : Nat) (v1 : Int32) (v2 : Int32) (v3 : Int32) (v4 : Int32), q_J G l (RX10, cX10_rightBelow, 5, 2, 45, (some .int), "rightBelow", []) k0 z0 (q_Z G k0 z0 q_i) 5 [(0, .ref v0), (1, .int v1), (2, .int v2), (3, .int v3), (4, .int v4)] [] h (l_X10_rightBelow_5 n h v0 v1 v2 v3 v4) := by
  induction n with
  | zero => intro h v0 v1 v2 v3 v4; exact j_none
  | succ n ih => intro h v0 v1 v2 v3 v4; exact jb_X10_rightBelow_5 (l_X10_rightBelow_5 n) ih h v0 v1 v2 v3 v4
set_option maxRecDepth 20000 in
set_option maxHeartbeats 1000000 in
theorem jb_X10_rightBelow_0 {G : q_G} {l : Launch} {k0 z0 : Nat} (h : q_H) (v0 : Nat) (v1 : Int32) (v2 : Int32) : q_J G l (RX10, cX10_rightBelow, 5, 2, 45, (some .int), "rightBelow", []) k0 z0 (q_Z G k0 z0 q_i) 0 [(0, .ref v0), (1, .int v1), (2, .int v2)] [] h (b_X10_rightBelow_0 h v0 v1 v2) := by
  unfold b_X10_rightBelow_0
  refine j_iconst (pc := 0) ki_0 dX10_rightBelow_0 ?_
  refine j_istore_n (pc := 1) (lv' := [(3, .int (0)), (0, .ref v0), (1, .int v1), (2, .int v2)]) rfl (by decide) rfl dX10_rightBelow_1 ?_
  refine j_iconst (pc := 2) ki_2 dX10_rightBelow_2 ?_
  refine j_istore (pc := 3) (lv' := [(4, .int (2)), (3, .int (0)), (0, .ref v0), (1, .int v1), (2, .int v2)]) (by decide) rfl dX10_rightBelow_3 ?_
  refine j_sub [2, 3, 4, 1, 0] (lv' := [(0, .ref v0), (1, .int v1), (2, .int v2), (3, .int (0)), (4, .int (2))]) rfl ?_
  exact jl_X10_rightBelow_5 q_FU _ _ _ _ _ _
set_option maxRecDepth 20000 in
set_option maxHeartbeats 1000000 in
theorem c_X10_rightBelow {G : q_G} {l : Launch} : ∀ (h : q_H) (a0 : Nat) (a1 : Int32) (a2 : Int32) (q : q_H × Int32), f_X10_rightBelow h a0 a1 a2 = some q → (∃ fs, h.1 a0 = .inr (9, fs)) ∧ q_CT G l yX10_rightBelow cX10_rightBelow 5 (some .int) 2 45 [.ref a0, .int a1, .int a2] h q.1 (q_i q.2) := by
  intro h a0 a1 a2 q e
  obtain ⟨e1, e2⟩ := q_chk_ok e
  exact ⟨e1, q_ofJ Y_X10_rightBelow (Nat.le_of_ble_eq_true rfl) (jb_X10_rightBelow_0 h a0 a1 a2) q e2⟩
/-! FarFoldersModel.below(II)I -/
theorem dX10_below_0 : decode cX10_below 0 = .ok (.aload_n 0, 1) := by decide +kernel
theorem dX10_below_1 : decode cX10_below 1 = .ok (.iconst 0, 1) := by decide +kernel
theorem dX10_below_2 : decode cX10_below 2 = .ok (.putfield 1, 3) := by decide +kernel
theorem dX10_below_5 : decode cX10_below 5 = .ok (.aload_n 0, 1) := by decide +kernel
theorem dX10_below_6 : decode cX10_below 6 = .ok (.iload_n 1, 1) := by decide +kernel
theorem dX10_below_7 : decode cX10_below 7 = .ok (.iload_n 2, 1) := by decide +kernel
theorem dX10_below_8 : decode cX10_below 8 = .ok (.invokevirtual 287, 3) := by decide +kernel
theorem dX10_below_11 : decode cX10_below 11 = .ok (.istore_n 3, 1) := by decide +kernel
theorem dX10_below_12 : decode cX10_below 12 = .ok (.iload_n 3, 1) := by decide +kernel
theorem dX10_below_13 : decode cX10_below 13 = .ok (.ifCond .ge 5, 3) := by decide +kernel
theorem dX10_below_16 : decode cX10_below 16 = .ok (.iload_n 3, 1) := by decide +kernel
theorem dX10_below_17 : decode cX10_below 17 = .ok (.ireturn, 1) := by decide +kernel
theorem dX10_below_18 : decode cX10_below 18 = .ok (.aload_n 0, 1) := by decide +kernel
theorem dX10_below_19 : decode cX10_below 19 = .ok (.iconst 0, 1) := by decide +kernel
theorem dX10_below_20 : decode cX10_below 20 = .ok (.putfield 11, 3) := by decide +kernel
theorem dX10_below_23 : decode cX10_below 23 = .ok (.aload_n 0, 1) := by decide +kernel
theorem dX10_below_24 : decode cX10_below 24 = .ok (.aload_n 0, 1) := by decide +kernel
theorem dX10_below_25 : decode cX10_below 25 = .ok (.iconst 0, 1) := by decide +kernel
theorem dX10_below_26 : decode cX10_below 26 = .ok (.iload_n 2, 1) := by decide +kernel
theorem dX10_below_27 : decode cX10_below 27 = .ok (.invokevirtual 290, 3) := by decide +kernel
theorem dX10_below_30 : decode cX10_below 30 = .ok (.invokestatic 155, 3) := by decide +kernel
theorem dX10_below_33 : decode cX10_below 33 = .ok (.i2l, 1) := by decide +kernel
theorem dX10_below_34 : decode cX10_below 34 = .ok (.invokevirtual 202, 3) := by decide +kernel
theorem dX10_below_37 : decode cX10_below 37 = .ok (.aload_n 0, 1) := by decide +kernel
theorem dX10_below_38 : decode cX10_below 38 = .ok (.iconst 0, 1) := by decide +kernel
theorem dX10_below_39 : decode cX10_below 39 = .ok (.iload_n 2, 1) := by decide +kernel
theorem dX10_below_40 : decode cX10_below 40 = .ok (.invokevirtual 293, 3) := by decide +kernel
theorem dX10_below_43 : decode cX10_below 43 = .ok (.ireturn, 1) := by decide +kernel
def b_X10_below_0 (h : q_H) (v0 : Nat) (v1 : Int32) (v2 : Int32) : Option (q_H × Int32) :=
  Option.bind (q_p 9 0 h v0 (.int (0))) (fun h1 => Option.bind (f_X10_asked h1 v0 v1 v2) (fun q2 => if 0 ≤ q2.2 then Option.bind (q_p 9 1 q2.1 v0 (.int (0))) (fun h3 => Option.bind (f_X10_allBelow h3 v0 (0) v2) (fun q4 => Option.bind (f_X10_bitsOf q4.1 q4.2) (fun q5 => Option.bind (f_X10_enters q5.1 v0 (Int32.toInt64 q5.2)) (fun q6 => Option.bind (f_X10_rightBelow q6.1 v0 (0) v2) (fun q7 => some (q7.1, q7.2)))))) else some (q2.1, q2.2)))
def f_X10_below (h : q_H) (a0 : Nat) (a1 : Int32) (a2 : Int32) : Option (q_H × Int32) := q_chk 9 h a0 (b_X10_below_0 h a0 a1 a2)
set_option maxRecDepth 20000 in
set_option maxHeartbeats 1000000 in
theorem jb_X10_below_0 {G : q_G} {l : Launch} {k0 z0 : Nat} (h : q_H) (v0 : Nat) (v1 : Int32) (v2 : Int32) : q_J G l (RX10, cX10_below, 4, 6, 140, (some .int), "below", []) k0 z0 (q_Z G k0 z0 q_i) 0 [(0, .ref v0), (1, .int v1), (2, .int v2)] [] h (b_X10_below_0 h v0 v1 v2) := by
  unfold b_X10_below_0
  refine j_aload_n (pc := 0) (p := 0) rfl rfl dX10_below_0 ?_
  refine j_iconst (pc := 1) ki_0 dX10_below_1 ?_
  refine j_put (pc := 2) FI_X10 (k := 0) (by decide) fl_X10_1 rfl rfl rfl dX10_below_2 (fun h1 _ => ?_)
  refine j_aload_n (pc := 5) (p := 0) rfl rfl dX10_below_5 ?_
  refine j_iload_n (pc := 6) (p := 1) rfl rfl dX10_below_6 ?_
  refine j_iload_n (pc := 7) (p := 2) rfl rfl dX10_below_7 ?_
  refine j_cVi (pc := 8) Y_X10_asked (ci := 9) (b := v0) rfl rfl ml_X10_287 im_X10_asked se_X10_asked ⟨Nat.le_of_ble_eq_true rfl, Nat.le_of_ble_eq_true rfl⟩ dX10_below_8 (As := [.int v1, .int v2]) (rest := []) rfl rfl (Nat.le_of_ble_eq_true rfl) (fun x hq9 => c_X10_asked _ _ _ _ _ hq9) (fun q2 _ => ?_)
  refine j_istore_n (pc := 11) (lv' := [(3, .int q2.2), (0, .ref v0), (1, .int v1), (2, .int v2)]) rfl (by decide) rfl dX10_below_11 ?_
  refine j_iload_n (pc := 12) (p := 0) rfl rfl dX10_below_12 ?_
  refine j_if_ge (pc := 13) (tgt := 18) dX10_below_13 (by decide) (fun _ => ?_) (fun _ => ?_)
  · refine j_aload_n (pc := 18) (p := 1) rfl rfl dX10_below_18 ?_
    refine j_iconst (pc := 19) ki_0 dX10_below_19 ?_
    refine j_put (pc := 20) FI_X10 (k := 1) (by decide) fl_X10_11 rfl rfl rfl dX10_below_20 (fun h3 _ => ?_)
    refine j_aload_n (pc := 23) (p := 1) rfl rfl dX10_below_23 ?_
    refine j_aload_n (pc := 24) (p := 1) rfl rfl dX10_below_24 ?_
    refine j_iconst (pc := 25) ki_0 dX10_below_25 ?_
    refine j_iload_n (pc := 26) (p := 3) rfl rfl dX10_below_26 ?_
    refine j_cVi (pc := 27) Y_X10_allBelow (ci := 9) (b := v0) rfl rfl ml_X10_290 im_X10_allBelow se_X10_allBelow ⟨Nat.le_of_ble_eq_true rfl, Nat.le_of_ble_eq_true rfl⟩ dX10_below_27 (As := [.int (0), .int v2]) (rest := [.ref v0]) rfl rfl (Nat.le_of_ble_eq_true rfl) (fun x hq9 => c_X10_allBelow _ _ _ _ _ hq9) (fun q4 _ => ?_)
    refine j_cSi (pc := 30) Y_X10_bitsOf ml_X10_155 sm_X10_bitsOf ⟨Nat.le_of_ble_eq_true rfl, Nat.le_of_ble_eq_true rfl⟩ dX10_below_30 (As := [.int q4.2]) (rest := [.ref v0]) rfl rfl (Nat.le_of_ble_eq_true rfl) (fun x hq9 => c_X10_bitsOf _ _ _ hq9) (fun q5 _ => ?_)
    refine j_i2l (pc := 33) dX10_below_33 ?_
    refine j_cVu (pc := 34) Y_X10_enters (ci := 9) (b := v0) rfl rfl ml_X10_202 im_X10_enters se_X10_enters ⟨Nat.le_of_ble_eq_true rfl, Nat.le_of_ble_eq_true rfl⟩ dX10_below_34 (As := [.long (Int32.toInt64 q5.2)]) (rest := []) rfl rfl (Nat.le_of_ble_eq_true rfl) (fun x hq9 => c_X10_enters _ _ _ _ hq9) (fun q6 _ => ?_)
    refine j_aload_n (pc := 37) (p := 1) rfl rfl dX10_below_37 ?_
    refine j_iconst (pc := 38) ki_0 dX10_below_38 ?_
    refine j_iload_n (pc := 39) (p := 3) rfl rfl dX10_below_39 ?_
    refine j_cVi (pc := 40) Y_X10_rightBelow (ci := 9) (b := v0) rfl rfl ml_X10_293 im_X10_rightBelow se_X10_rightBelow ⟨Nat.le_of_ble_eq_true rfl, Nat.le_of_ble_eq_true rfl⟩ dX10_below_40 (As := [.int (0), .int v2]) (rest := []) rfl rfl (Nat.le_of_ble_eq_true rfl) (fun x hq9 => c_X10_rightBelow _ _ _ _ _ hq9) (fun q7 _ => ?_)
    exact j_iret (pc := 43) rfl dX10_below_43
  refine j_iload_n (pc := 16) (p := 0) rfl rfl dX10_below_16 ?_
  exact j_iret (pc := 17) rfl dX10_below_17
set_option maxRecDepth 20000 in
set_option maxHeartbeats 1000000 in
theorem c_X10_below {G : q_G} {l : Launch} : ∀ (h : q_H) (a0 : Nat) (a1 : Int32) (a2 : Int32) (q : q_H × Int32), f_X10_below h a0 a1 a2 = some q → (∃ fs, h.1 a0 = .inr (9, fs)) ∧ q_CT G l yX10_below cX10_below 4 (some .int) 6 140 [.ref a0, .int a1, .int a2] h q.1 (q_i q.2) := by
  intro h a0 a1 a2 q e
  obtain ⟨e1, e2⟩ := q_chk_ok e
  exact ⟨e1, q_ofJ Y_X10_below (Nat.le_of_ble_eq_true rfl) (jb_X10_below_0 h a0 a1 a2) q e2⟩
/-! FarFoldersModel.isLess(IIII)Z -/
theorem dX10_isLess_0 : decode cX10_isLess 0 = .ok (.iload_n 0, 1) := by decide +kernel
theorem dX10_isLess_1 : decode cX10_isLess 1 = .ok (.iload_n 2, 1) := by decide +kernel
theorem dX10_isLess_2 : decode cX10_isLess 2 = .ok (.if_icmp .lt 13, 3) := by decide +kernel
theorem dX10_isLess_5 : decode cX10_isLess 5 = .ok (.iload_n 0, 1) := by decide +kernel
theorem dX10_isLess_6 : decode cX10_isLess 6 = .ok (.iload_n 2, 1) := by decide +kernel
theorem dX10_isLess_7 : decode cX10_isLess 7 = .ok (.if_icmp .ne 12, 3) := by decide +kernel
theorem dX10_isLess_10 : decode cX10_isLess 10 = .ok (.iload_n 1, 1) := by decide +kernel
theorem dX10_isLess_11 : decode cX10_isLess 11 = .ok (.iload_n 3, 1) := by decide +kernel
theorem dX10_isLess_12 : decode cX10_isLess 12 = .ok (.if_icmp .ge 7, 3) := by decide +kernel
theorem dX10_isLess_15 : decode cX10_isLess 15 = .ok (.iconst 1, 1) := by decide +kernel
theorem dX10_isLess_16 : decode cX10_isLess 16 = .ok (.goto 4, 3) := by decide +kernel
theorem dX10_isLess_19 : decode cX10_isLess 19 = .ok (.iconst 0, 1) := by decide +kernel
theorem dX10_isLess_20 : decode cX10_isLess 20 = .ok (.ireturn, 1) := by decide +kernel
def b_X10_isLess_0 (h : q_H) (v0 : Int32) (v1 : Int32) (v2 : Int32) (v3 : Int32) : Option (q_H × Int32) :=
  if v0 < v2 then some (h, (1)) else if v0 = v2 then if v3 ≤ v1 then some (h, (0)) else some (h, (1)) else some (h, (0))
def f_X10_isLess (h : q_H) (a0 : Int32) (a1 : Int32) (a2 : Int32) (a3 : Int32) : Option (q_H × Int32) := b_X10_isLess_0 h a0 a1 a2 a3
set_option maxRecDepth 20000 in
set_option maxHeartbeats 1000000 in
theorem jb_X10_isLess_0 {G : q_G} {l : Launch} {k0 z0 : Nat} (h : q_H) (v0 : Int32) (v1 : Int32) (v2 : Int32) (v3 : Int32) : q_J G l (RX10, cX10_isLess, 4, 0, 0, (some .boolean), "isLess", []) k0 z0 (q_Z G k0 z0 q_i) 0 [(0, .int v0), (1, .int v1), (2, .int v2), (3, .int v3)] [] h (b_X10_isLess_0 h v0 v1 v2 v3) := by
  unfold b_X10_isLess_0
  refine j_iload_n (pc := 0) (p := 0) rfl rfl dX10_isLess_0 ?_
  refine j_iload_n (pc := 1) (p := 2) rfl rfl dX10_isLess_1 ?_
  refine j_ic_lt (pc := 2) (tgt := 15) dX10_isLess_2 (by decide) (fun _ => ?_) (fun _ => ?_)
  · refine j_iconst (pc := 15) ki_1 dX10_isLess_15 ?_
    refine j_goto (pc := 16) (tgt := 20) dX10_isLess_16 (by decide) ?_
    exact j_zret (pc := 20) rfl rfl dX10_isLess_20
  refine j_iload_n (pc := 5) (p := 0) rfl rfl dX10_isLess_5 ?_
  refine j_iload_n (pc := 6) (p := 2) rfl rfl dX10_isLess_6 ?_
  refine j_ic_ne (pc := 7) (tgt := 19) dX10_isLess_7 (by decide) (fun _ => ?_) (fun _ => ?_)
  · refine j_iload_n (pc := 10) (p := 1) rfl rfl dX10_isLess_10 ?_
    refine j_iload_n (pc := 11) (p := 3) rfl rfl dX10_isLess_11 ?_
    refine j_ic_ge (pc := 12) (tgt := 19) dX10_isLess_12 (by decide) (fun _ => ?_) (fun _ => ?_)
    · refine j_iconst (pc := 19) ki_0 dX10_isLess_19 ?_
      exact j_zret (pc := 20) rfl rfl dX10_isLess_20
    refine j_iconst (pc := 15) ki_1 dX10_isLess_15 ?_
    refine j_goto (pc := 16) (tgt := 20) dX10_isLess_16 (by decide) ?_
    exact j_zret (pc := 20) rfl rfl dX10_isLess_20
  refine j_iconst (pc := 19) ki_0 dX10_isLess_19 ?_
  exact j_zret (pc := 20) rfl rfl dX10_isLess_20
set_option maxRecDepth 20000 in
set_option maxHeartbeats 1000000 in
theorem c_X10_isLess {G : q_G} {l : Launch} : ∀ (h : q_H) (a0 : Int32) (a1 : Int32) (a2 : Int32) (a3 : Int32) (q : q_H × Int32), f_X10_isLess h a0 a1 a2 a3 = some q → q_CT G l yX10_isLess cX10_isLess 4 (some .boolean) 0 0 [.int a0, .int a1, .int a2, .int a3] h q.1 (q_i q.2) := by
  intro h a0 a1 a2 a3 q e
  exact q_ofJ Y_X10_isLess (Nat.le_of_ble_eq_true rfl) (jb_X10_isLess_0 h a0 a1 a2 a3) q e
/-! FarFoldersModel.flag(Z)I -/
theorem dX10_flag_0 : decode cX10_flag 0 = .ok (.iload_n 0, 1) := by decide +kernel
theorem dX10_flag_1 : decode cX10_flag 1 = .ok (.ifCond .eq 7, 3) := by decide +kernel
theorem dX10_flag_4 : decode cX10_flag 4 = .ok (.iconst 1, 1) := by decide +kernel
theorem dX10_flag_5 : decode cX10_flag 5 = .ok (.goto 4, 3) := by decide +kernel
theorem dX10_flag_8 : decode cX10_flag 8 = .ok (.iconst 0, 1) := by decide +kernel
theorem dX10_flag_9 : decode cX10_flag 9 = .ok (.ireturn, 1) := by decide +kernel
def b_X10_flag_0 (h : q_H) (v0 : Int32) : Option (q_H × Int32) :=
  if v0 = 0 then some (h, (0)) else some (h, (1))
def f_X10_flag (h : q_H) (a0 : Int32) : Option (q_H × Int32) := b_X10_flag_0 h a0
set_option maxRecDepth 20000 in
set_option maxHeartbeats 1000000 in
theorem jb_X10_flag_0 {G : q_G} {l : Launch} {k0 z0 : Nat} (h : q_H) (v0 : Int32) : q_J G l (RX10, cX10_flag, 1, 0, 0, (some .int), "flag", []) k0 z0 (q_Z G k0 z0 q_i) 0 [(0, .int v0)] [] h (b_X10_flag_0 h v0) := by
  unfold b_X10_flag_0
  refine j_iload_n (pc := 0) (p := 0) rfl rfl dX10_flag_0 ?_
  refine j_if_eq (pc := 1) (tgt := 8) dX10_flag_1 (by decide) (fun _ => ?_) (fun _ => ?_)
  · refine j_iconst (pc := 8) ki_0 dX10_flag_8 ?_
    exact j_iret (pc := 9) rfl dX10_flag_9
  refine j_iconst (pc := 4) ki_1 dX10_flag_4 ?_
  refine j_goto (pc := 5) (tgt := 9) dX10_flag_5 (by decide) ?_
  exact j_iret (pc := 9) rfl dX10_flag_9
set_option maxRecDepth 20000 in
set_option maxHeartbeats 1000000 in
theorem c_X10_flag {G : q_G} {l : Launch} : ∀ (h : q_H) (a0 : Int32) (q : q_H × Int32), f_X10_flag h a0 = some q → q_CT G l yX10_flag cX10_flag 1 (some .int) 0 0 [.int a0] h q.1 (q_i q.2) := by
  intro h a0 q e
  exact q_ofJ Y_X10_flag (Nat.le_of_ble_eq_true rfl) (jb_X10_flag_0 h a0) q e
/-! FarFoldersModel.rank(II)I -/
theorem dX10_rank_0 : decode cX10_rank 0 = .ok (.iconst 0, 1) := by decide +kernel
theorem dX10_rank_1 : decode cX10_rank 1 = .ok (.istore_n 3, 1) := by decide +kernel
theorem dX10_rank_2 : decode cX10_rank 2 = .ok (.iconst 2, 1) := by decide +kernel
theorem dX10_rank_3 : decode cX10_rank 3 = .ok (.istore 4, 2) := by decide +kernel
theorem dX10_rank_5 : decode cX10_rank 5 = .ok (.iload 4, 2) := by decide +kernel
theorem dX10_rank_7 : decode cX10_rank 7 = .ok (.bipush 14, 2) := by decide +kernel
theorem dX10_rank_9 : decode cX10_rank 9 = .ok (.if_icmp .ge 120, 3) := by decide +kernel
theorem dX10_rank_12 : decode cX10_rank 12 = .ok (.iload 4, 2) := by decide +kernel
theorem dX10_rank_14 : decode cX10_rank 14 = .ok (.iload_n 2, 1) := by decide +kernel
theorem dX10_rank_15 : decode cX10_rank 15 = .ok (.if_icmp .eq 53, 3) := by decide +kernel
theorem dX10_rank_18 : decode cX10_rank 18 = .ok (.aload_n 0, 1) := by decide +kernel
theorem dX10_rank_19 : decode cX10_rank 19 = .ok (.iload_n 1, 1) := by decide +kernel
theorem dX10_rank_20 : decode cX10_rank 20 = .ok (.iload 4, 2) := by decide +kernel
theorem dX10_rank_22 : decode cX10_rank 22 = .ok (.invokevirtual 133, 3) := by decide +kernel
theorem dX10_rank_25 : decode cX10_rank 25 = .ok (.ifCond .eq 43, 3) := by decide +kernel
theorem dX10_rank_28 : decode cX10_rank 28 = .ok (.aload_n 0, 1) := by decide +kernel
theorem dX10_rank_29 : decode cX10_rank 29 = .ok (.iload_n 1, 1) := by decide +kernel
theorem dX10_rank_30 : decode cX10_rank 30 = .ok (.iload 4, 2) := by decide +kernel
theorem dX10_rank_32 : decode cX10_rank 32 = .ok (.iconst 0, 1) := by decide +kernel
theorem dX10_rank_33 : decode cX10_rank 33 = .ok (.invokevirtual 129, 3) := by decide +kernel
theorem dX10_rank_36 : decode cX10_rank 36 = .ok (.aload_n 0, 1) := by decide +kernel
theorem dX10_rank_37 : decode cX10_rank 37 = .ok (.iload_n 1, 1) := by decide +kernel
theorem dX10_rank_38 : decode cX10_rank 38 = .ok (.iload_n 2, 1) := by decide +kernel
theorem dX10_rank_39 : decode cX10_rank 39 = .ok (.iconst 0, 1) := by decide +kernel
theorem dX10_rank_40 : decode cX10_rank 40 = .ok (.invokevirtual 129, 3) := by decide +kernel
theorem dX10_rank_43 : decode cX10_rank 43 = .ok (.if_icmp .ne 25, 3) := by decide +kernel
theorem dX10_rank_46 : decode cX10_rank 46 = .ok (.aload_n 0, 1) := by decide +kernel
theorem dX10_rank_47 : decode cX10_rank 47 = .ok (.iload_n 1, 1) := by decide +kernel
theorem dX10_rank_48 : decode cX10_rank 48 = .ok (.iload 4, 2) := by decide +kernel
theorem dX10_rank_50 : decode cX10_rank 50 = .ok (.iconst 1, 1) := by decide +kernel
theorem dX10_rank_51 : decode cX10_rank 51 = .ok (.invokevirtual 129, 3) := by decide +kernel
theorem dX10_rank_54 : decode cX10_rank 54 = .ok (.aload_n 0, 1) := by decide +kernel
theorem dX10_rank_55 : decode cX10_rank 55 = .ok (.iload_n 1, 1) := by decide +kernel
theorem dX10_rank_56 : decode cX10_rank 56 = .ok (.iload_n 2, 1) := by decide +kernel
theorem dX10_rank_57 : decode cX10_rank 57 = .ok (.iconst 1, 1) := by decide +kernel
theorem dX10_rank_58 : decode cX10_rank 58 = .ok (.invokevirtual 129, 3) := by decide +kernel
theorem dX10_rank_61 : decode cX10_rank 61 = .ok (.if_icmp .ne 7, 3) := by decide +kernel
theorem dX10_rank_64 : decode cX10_rank 64 = .ok (.iconst 1, 1) := by decide +kernel
theorem dX10_rank_65 : decode cX10_rank 65 = .ok (.goto 4, 3) := by decide +kernel
theorem dX10_rank_68 : decode cX10_rank 68 = .ok (.iconst 0, 1) := by decide +kernel
theorem dX10_rank_69 : decode cX10_rank 69 = .ok (.istore 5, 2) := by decide +kernel
theorem dX10_rank_71 : decode cX10_rank 71 = .ok (.iload_n 3, 1) := by decide +kernel
theorem dX10_rank_72 : decode cX10_rank 72 = .ok (.iload 5, 2) := by decide +kernel
theorem dX10_rank_74 : decode cX10_rank 74 = .ok (.ifCond .eq 43, 3) := by decide +kernel
theorem dX10_rank_77 : decode cX10_rank 77 = .ok (.aload_n 0, 1) := by decide +kernel
theorem dX10_rank_78 : decode cX10_rank 78 = .ok (.iload_n 1, 1) := by decide +kernel
theorem dX10_rank_79 : decode cX10_rank 79 = .ok (.iload 4, 2) := by decide +kernel
theorem dX10_rank_81 : decode cX10_rank 81 = .ok (.iconst 2, 1) := by decide +kernel
theorem dX10_rank_82 : decode cX10_rank 82 = .ok (.invokevirtual 129, 3) := by decide +kernel
theorem dX10_rank_85 : decode cX10_rank 85 = .ok (.aload_n 0, 1) := by decide +kernel
theorem dX10_rank_86 : decode cX10_rank 86 = .ok (.iload_n 1, 1) := by decide +kernel
theorem dX10_rank_87 : decode cX10_rank 87 = .ok (.iload 4, 2) := by decide +kernel
theorem dX10_rank_89 : decode cX10_rank 89 = .ok (.iconst 3, 1) := by decide +kernel
theorem dX10_rank_90 : decode cX10_rank 90 = .ok (.invokevirtual 129, 3) := by decide +kernel
theorem dX10_rank_93 : decode cX10_rank 93 = .ok (.aload_n 0, 1) := by decide +kernel
theorem dX10_rank_94 : decode cX10_rank 94 = .ok (.iload_n 1, 1) := by decide +kernel
theorem dX10_rank_95 : decode cX10_rank 95 = .ok (.iload_n 2, 1) := by decide +kernel
theorem dX10_rank_96 : decode cX10_rank 96 = .ok (.iconst 2, 1) := by decide +kernel
theorem dX10_rank_97 : decode cX10_rank 97 = .ok (.invokevirtual 129, 3) := by decide +kernel
theorem dX10_rank_100 : decode cX10_rank 100 = .ok (.aload_n 0, 1) := by decide +kernel
theorem dX10_rank_101 : decode cX10_rank 101 = .ok (.iload_n 1, 1) := by decide +kernel
theorem dX10_rank_102 : decode cX10_rank 102 = .ok (.iload_n 2, 1) := by decide +kernel
theorem dX10_rank_103 : decode cX10_rank 103 = .ok (.iconst 3, 1) := by decide +kernel
theorem dX10_rank_104 : decode cX10_rank 104 = .ok (.invokevirtual 129, 3) := by decide +kernel
theorem dX10_rank_107 : decode cX10_rank 107 = .ok (.invokestatic 111, 3) := by decide +kernel
theorem dX10_rank_110 : decode cX10_rank 110 = .ok (.ifCond .eq 7, 3) := by decide +kernel
theorem dX10_rank_113 : decode cX10_rank 113 = .ok (.iconst 1, 1) := by decide +kernel
theorem dX10_rank_114 : decode cX10_rank 114 = .ok (.goto 4, 3) := by decide +kernel
theorem dX10_rank_117 : decode cX10_rank 117 = .ok (.iconst 0, 1) := by decide +kernel
theorem dX10_rank_118 : decode cX10_rank 118 = .ok (.invokestatic 115, 3) := by decide +kernel
theorem dX10_rank_121 : decode cX10_rank 121 = .ok (.iadd, 1) := by decide +kernel
theorem dX10_rank_122 : decode cX10_rank 122 = .ok (.istore_n 3, 1) := by decide +kernel
theorem dX10_rank_123 : decode cX10_rank 123 = .ok (.iinc 4 1, 3) := by decide +kernel
theorem dX10_rank_126 : decode cX10_rank 126 = .ok (.goto (-121), 3) := by decide +kernel
theorem dX10_rank_129 : decode cX10_rank 129 = .ok (.iload_n 3, 1) := by decide +kernel
theorem dX10_rank_130 : decode cX10_rank 130 = .ok (.ireturn, 1) := by decide +kernel
def b_X10_rank_118 (k5 : q_H → Nat → Int32 → Int32 → Int32 → Int32 → Option (q_H × Int32)) (h : q_H) (v0 : Nat) (v1 : Int32) (v2 : Int32) (v4 : Int32) (s0 : Int32) (s1 : Int32) : Option (q_H × Int32) :=
  Option.bind (f_X10_flag h s1) (fun q1 => k5 q1.1 v0 v1 v2 (s0 + q1.2) (v4 + 1))
def b_X10_rank_117 (k5 : q_H → Nat → Int32 → Int32 → Int32 → Int32 → Option (q_H × Int32)) (h : q_H) (v0 : Nat) (v1 : Int32) (v2 : Int32) (v4 : Int32) (s0 : Int32) : Option (q_H × Int32) :=
  b_X10_rank_118 k5 h v0 v1 v2 v4 s0 (0)
def b_X10_rank_69 (k5 : q_H → Nat → Int32 → Int32 → Int32 → Int32 → Option (q_H × Int32)) (h : q_H) (v0 : Nat) (v1 : Int32) (v2 : Int32) (v3 : Int32) (v4 : Int32) (s0 : Int32) : Option (q_H × Int32) :=
  if s0 = 0 then b_X10_rank_117 k5 h v0 v1 v2 v4 v3 else Option.bind (f_X10_its h v0 v1 v4 (2)) (fun q2 => Option.bind (f_X10_its q2.1 v0 v1 v4 (3)) (fun q3 => Option.bind (f_X10_its q3.1 v0 v1 v2 (2)) (fun q4 => Option.bind (f_X10_its q4.1 v0 v1 v2 (3)) (fun q5 => Option.bind (f_X10_isLess q5.1 q2.2 q3.2 q4.2 q5.2) (fun q6 => if q6.2 = 0 then b_X10_rank_117 k5 q6.1 v0 v1 v2 v4 v3 else b_X10_rank_118 k5 q6.1 v0 v1 v2 v4 v3 (1))))))
def b_X10_rank_68 (k5 : q_H → Nat → Int32 → Int32 → Int32 → Int32 → Option (q_H × Int32)) (h : q_H) (v0 : Nat) (v1 : Int32) (v2 : Int32) (v3 : Int32) (v4 : Int32) : Option (q_H × Int32) :=
  b_X10_rank_69 k5 h v0 v1 v2 v3 v4 (0)
def b_X10_rank_5 (k5 : q_H → Nat → Int32 → Int32 → Int32 → Int32 → Option (q_H × Int32)) (h : q_H) (v0 : Nat) (v1 : Int32) (v2 : Int32) (v3 : Int32) (v4 : Int32) : Option (q_H × Int32) :=
  if (14) ≤ v4 then some (h, v3) else if v4 = v2 then b_X10_rank_68 k5 h v0 v1 v2 v3 v4 else Option.bind (f_X10_isThere h v0 v1 v4) (fun q7 => if q7.2 = 0 then b_X10_rank_68 k5 q7.1 v0 v1 v2 v3 v4 else Option.bind (f_X10_its q7.1 v0 v1 v4 (0)) (fun q8 => Option.bind (f_X10_its q8.1 v0 v1 v2 (0)) (fun q9 => if q8.2 = q9.2 then Option.bind (f_X10_its q9.1 v0 v1 v4 (1)) (fun q10 => Option.bind (f_X10_its q10.1 v0 v1 v2 (1)) (fun q11 => if q10.2 = q11.2 then b_X10_rank_69 k5 q11.1 v0 v1 v2 v3 v4 (1) else b_X10_rank_68 k5 q11.1 v0 v1 v2 v3 v4)) else b_X10_rank_68 k5 q9.1 v0 v1 v2 v3 v4)))
def l_X10_rank_5 : Nat → q_H → Nat → Int32 → Int32 → Int32 → Int32 → Option (q_H × Int32)
  | 0, _, _, _, _, _, _ => none
  | n + 1, h, v0, v1, v2, v3, v4 => b_X10_rank_5 (l_X10_rank_5 n) h v0 v1 v2 v3 v4
def b_X10_rank_0 (h : q_H) (v0 : Nat) (v1 : Int32) (v2 : Int32) : Option (q_H × Int32) :=
  l_X10_rank_5 q_FU h v0 v1 v2 (0) (2)
def f_X10_rank (h : q_H) (a0 : Nat) (a1 : Int32) (a2 : Int32) : Option (q_H × Int32) := q_chk 9 h a0 (b_X10_rank_0 h a0 a1 a2)
set_option maxRecDepth 20000 in
set_option maxHeartbeats 1000000 in
theorem jb_X10_rank_118 {G : q_G} {l : Launch} {k0 z0 : Nat} (k5 : q_H → Nat → Int32 → Int32 → Int32 → Int32 → Option (q_H × Int32)) (hk5 : ∀ (h : q_H) (v0 : Nat) (v1 : Int32) (v2 : Int32) (v3 : Int32) (v4 : Int32), q_J G l (RX10, cX10_rank, 6, 2, 45, (some .int), "rank", []) k0 z0 (q_Z G k0 z0 q_i) 5 [(0, .ref v0), (1, .int v1), (2, .int v2), (3, .int v3), (4, .int v4)] [] h (k5 h v0 v1 v2 v3 v4)) (h : q_H) (v0 : Nat) (v1 : Int32) (v2 : Int32) (v4 : Int32) (s0 : Int32) (s1 : Int32) : q_J G l (RX10, cX10_rank, 6, 2, 45, (some .int), "rank", []) k0 z0 (q_Z G k0 z0 q_i) 118 [(0, .ref v0), (1, .int v1), (2, .int v2), (4, .int v4)] [.int s1, .int s0] h (b_X10_rank_118 k5 h v0 v1 v2 v4 s0 s1) := by
  unfold b_X10_rank_118
  refine j_cSi (pc := 118) Y_X10_flag ml_X10_115 sm_X10_flag ⟨Nat.le_of_ble_eq_true rfl, Nat.le_of_ble_eq_true rfl⟩ dX10_rank_118 (As := [.int s1]) (rest := [.int s0]) rfl rfl (Nat.le_of_ble_eq_true rfl) (fun x hq9 => c_X10_flag _ _ _ hq9) (fun q1 _ => ?_)
  refine j_iadd (pc := 121) dX10_rank_121 ?_
  refine j_istore_n (pc := 122) (lv' := [(3, .int (s0 + q1.2)), (0, .ref v0), (1, .int v1), (2, .int v2), (4, .int v4)]) rfl (by decide) rfl dX10_rank_122 ?_
  refine j_inc (pc := 123) (p := 4) (lv' := [(4, .int (v4 + 1)), (3, .int (s0 + q1.2)), (0, .ref v0), (1, .int v1), (2, .int v2)]) rfl ki_1 (by decide) rfl dX10_rank_123 ?_
  refine j_goto (pc := 126) (tgt := 5) dX10_rank_126 (by decide) ?_
  refine j_sub [2, 3, 4, 1, 0] (lv' := [(0, .ref v0), (1, .int v1), (2, .int v2), (3, .int (s0 + q1.2)), (4, .int (v4 + 1))]) rfl ?_
  exact hk5 _ _ _ _ _ _
set_option maxRecDepth 20000 in
set_option maxHeartbeats 1000000 in
theorem jb_X10_rank_117 {G : q_G} {l : Launch} {k0 z0 : Nat} (k5 : q_H → Nat → Int32 → Int32 → Int32 → Int32 → Option (q_H × Int32)) (hk5 : ∀ (h : q_H) (v0 : Nat) (v1 : Int32) (v2 : Int32) (v3 : Int32) (v4 : Int32), q_J G l (RX10, cX10_rank, 6, 2, 45, (some .int), "rank", []) k0 z0 (q_Z G k0 z0 q_i) 5 [(0, .ref v0), (1, .int v1), (2, .int v2), (3, .int v3), (4, .int v4)] [] h (k5 h v0 v1 v2 v3 v4)) (h : q_H) (v0 : Nat) (v1 : Int32) (v2 : Int32) (v4 : Int32) (s0 : Int32) : q_J G l (RX10, cX10_rank, 6, 2, 45, (some .int), "rank", []) k0 z0 (q_Z G k0 z0 q_i) 117 [(0, .ref v0), (1, .int v1), (2, .int v2), (4, .int v4)] [.int s0] h (b_X10_rank_117 k5 h v0 v1 v2 v4 s0) := by
  unfold b_X10_rank_117
  refine j_iconst (pc := 117) ki_0 dX10_rank_117 ?_
  exact jb_X10_rank_118 k5 hk5 _ _ _ _ _ _ _
set_option maxRecDepth 20000 in
set_option maxHeartbeats 1000000 in
theorem jb_X10_rank_69 {G : q_G} {l : Launch} {k0 z0 : Nat} (k5 : q_H → Nat → Int32 → Int32 → Int32 → Int32 → Option (q_H × Int32)) (hk5 : ∀ (h : q_H) (v0 : Nat) (v1 : Int32) (v2 : Int32) (v3 : Int32) (v4 : Int32), q_J G l (RX10, cX10_rank, 6, 2, 45, (some .int), "rank", []) k0 z0 (q_Z G k0 z0 q_i) 5 [(0, .ref v0), (1, .int v1), (2, .int v2), (3, .int v3), (4, .int v4)] [] h (k5 h v0 v1 v2 v3 v4)) (h : q_H) (v0 : Nat) (v1 : Int32) (v2 : Int32) (v3 : Int32) (v4 : Int32) (s0 : Int32) : q_J G l (RX10, cX10_rank, 6, 2, 45, (some .int), "rank", []) k0 z0 (q_Z G k0 z0 q_i) 69 [(0, .ref v0), (1, .int v1), (2, .int v2), (3, .int v3), (4, .int v4)] [.int s0] h (b_X10_rank_69 k5 h v0 v1 v2 v3 v4 s0) := by
  unfold b_X10_rank_69
  refine j_istore (pc := 69) (lv' := [(5, .int s0), (0, .ref v0), (1, .int v1), (2, .int v2), (3, .int v3), (4, .int v4)]) (by decide) rfl dX10_rank_69 ?_
  refine j_iload_n (pc := 71) (p := 4) rfl rfl dX10_rank_71 ?_
  refine j_iload (pc := 72) (p := 0) rfl dX10_rank_72 ?_
  refine j_if_eq (pc := 74) (tgt := 117) dX10_rank_74 (by decide) (fun _ => ?_) (fun _ => ?_)
  · refine j_sub [1, 2, 3, 5] (lv' := [(0, .ref v0), (1, .int v1), (2, .int v2), (4, .int v4)]) rfl ?_
    exact jb_X10_rank_117 k5 hk5 _ _ _ _ _ _
  refine j_aload_n (pc := 77) (p := 1) rfl rfl dX10_rank_77 ?_
  refine j_iload_n (pc := 78) (p := 2) rfl rfl dX10_rank_78 ?_
  refine j_iload (pc := 79) (p := 5) rfl dX10_rank_79 ?_
  refine j_iconst (pc := 81) ki_2 dX10_rank_81 ?_
  refine j_cVi (pc := 82) Y_X10_its (ci := 9) (b := v0) rfl rfl ml_X10_129 im_X10_its se_X10_its ⟨Nat.le_of_ble_eq_true rfl, Nat.le_of_ble_eq_true rfl⟩ dX10_rank_82 (As := [.int v1, .int v4, .int (2)]) (rest := [.int v3]) rfl rfl (Nat.le_of_ble_eq_true rfl) (fun x hq9 => c_X10_its _ _ _ _ _ _ hq9) (fun q2 _ => ?_)
  refine j_aload_n (pc := 85) (p := 1) rfl rfl dX10_rank_85 ?_
  refine j_iload_n (pc := 86) (p := 2) rfl rfl dX10_rank_86 ?_
  refine j_iload (pc := 87) (p := 5) rfl dX10_rank_87 ?_
  refine j_iconst (pc := 89) ki_3 dX10_rank_89 ?_
  refine j_cVi (pc := 90) Y_X10_its (ci := 9) (b := v0) rfl rfl ml_X10_129 im_X10_its se_X10_its ⟨Nat.le_of_ble_eq_true rfl, Nat.le_of_ble_eq_true rfl⟩ dX10_rank_90 (As := [.int v1, .int v4, .int (3)]) (rest := [.int q2.2, .int v3]) rfl rfl (Nat.le_of_ble_eq_true rfl) (fun x hq9 => c_X10_its _ _ _ _ _ _ hq9) (fun q3 _ => ?_)
  refine j_aload_n (pc := 93) (p := 1) rfl rfl dX10_rank_93 ?_
  refine j_iload_n (pc := 94) (p := 2) rfl rfl dX10_rank_94 ?_
  refine j_iload_n (pc := 95) (p := 3) rfl rfl dX10_rank_95 ?_
  refine j_iconst (pc := 96) ki_2 dX10_rank_96 ?_
  refine j_cVi (pc := 97) Y_X10_its (ci := 9) (b := v0) rfl rfl ml_X10_129 im_X10_its se_X10_its ⟨Nat.le_of_ble_eq_true rfl, Nat.le_of_ble_eq_true rfl⟩ dX10_rank_97 (As := [.int v1, .int v2, .int (2)]) (rest := [.int q3.2, .int q2.2, .int v3]) rfl rfl (Nat.le_of_ble_eq_true rfl) (fun x hq9 => c_X10_its _ _ _ _ _ _ hq9) (fun q4 _ => ?_)
  refine j_aload_n (pc := 100) (p := 1) rfl rfl dX10_rank_100 ?_
  refine j_iload_n (pc := 101) (p := 2) rfl rfl dX10_rank_101 ?_
  refine j_iload_n (pc := 102) (p := 3) rfl rfl dX10_rank_102 ?_
  refine j_iconst (pc := 103) ki_3 dX10_rank_103 ?_
  refine j_cVi (pc := 104) Y_X10_its (ci := 9) (b := v0) rfl rfl ml_X10_129 im_X10_its se_X10_its ⟨Nat.le_of_ble_eq_true rfl, Nat.le_of_ble_eq_true rfl⟩ dX10_rank_104 (As := [.int v1, .int v2, .int (3)]) (rest := [.int q4.2, .int q3.2, .int q2.2, .int v3]) rfl rfl (Nat.le_of_ble_eq_true rfl) (fun x hq9 => c_X10_its _ _ _ _ _ _ hq9) (fun q5 _ => ?_)
  refine j_cSi (pc := 107) Y_X10_isLess ml_X10_111 sm_X10_isLess ⟨Nat.le_of_ble_eq_true rfl, Nat.le_of_ble_eq_true rfl⟩ dX10_rank_107 (As := [.int q2.2, .int q3.2, .int q4.2, .int q5.2]) (rest := [.int v3]) rfl rfl (Nat.le_of_ble_eq_true rfl) (fun x hq9 => c_X10_isLess _ _ _ _ _ _ hq9) (fun q6 _ => ?_)
  refine j_if_eq (pc := 110) (tgt := 117) dX10_rank_110 (by decide) (fun _ => ?_) (fun _ => ?_)
  · refine j_sub [1, 2, 3, 5] (lv' := [(0, .ref v0), (1, .int v1), (2, .int v2), (4, .int v4)]) rfl ?_
    exact jb_X10_rank_117 k5 hk5 _ _ _ _ _ _
  refine j_iconst (pc := 113) ki_1 dX10_rank_113 ?_
  refine j_goto (pc := 114) (tgt := 118) dX10_rank_114 (by decide) ?_
  refine j_sub [1, 2, 3, 5] (lv' := [(0, .ref v0), (1, .int v1), (2, .int v2), (4, .int v4)]) rfl ?_
  exact jb_X10_rank_118 k5 hk5 _ _ _ _ _ _ _
set_option maxRecDepth 20000 in
set_option maxHeartbeats 1000000 in
theorem jb_X10_rank_68 {G : q_G} {l : Launch} {k0 z0 : Nat} (k5 : q_H → Nat → Int32 → Int32 → Int32 → Int32 → Option (q_H × Int32)) (hk5 : ∀ (h : q_H) (v0 : Nat) (v1 : Int32) (v2 : Int32) (v3 : Int32) (v4 : Int32), q_J G l (RX10, cX10_rank, 6, 2, 45, (some .int), "rank", []) k0 z0 (q_Z G k0 z0 q_i) 5 [(0, .ref v0), (1, .int v1), (2, .int v2), (3, .int v3), (4, .int v4)] [] h (k5 h v0 v1 v2 v3 v4)) (h : q_H) (v0 : Nat) (v1 : Int32) (v2 : Int32) (v3 : Int32) (v4 : Int32) : q_J G l (RX10, cX10_rank, 6, 2, 45, (some .int), "rank", []) k0 z0 (q_Z G k0 z0 q_i) 68 [(0, .ref v0), (1, .int v1), (2, .int v2), (3, .int v3), (4, .int v4)] [] h (b_X10_rank_68 k5 h v0 v1 v2 v3 v4) := by
  unfold b_X10_rank_68
  refine j_iconst (pc := 68) ki_0 dX10_rank_68 ?_
  exact jb_X10_rank_69 k5 hk5 _ _ _ _ _ _ _
set_option maxRecDepth 20000 in
set_option maxHeartbeats 1000000 in
theorem jb_X10_rank_5 {G : q_G} {l : Launch} {k0 z0 : Nat} (k5 : q_H → Nat → Int32 → Int32 → Int32 → Int32 → Option (q_H × Int32)) (hk5 : ∀ (h : q_H) (v0 : Nat) (v1 : Int32) (v2 : Int32) (v3 : Int32) (v4 : Int32), q_J G l (RX10, cX10_rank, 6, 2, 45, (some .int), "rank", []) k0 z0 (q_Z G k0 z0 q_i) 5 [(0, .ref v0), (1, .int v1), (2, .int v2), (3, .int v3), (4, .int v4)] [] h (k5 h v0 v1 v2 v3 v4)) (h : q_H) (v0 : Nat) (v1 : Int32) (v2 : Int32) (v3 : Int32) (v4 : Int32) : q_J G l (RX10, cX10_rank, 6, 2, 45, (some .int), "rank", []) k0 z0 (q_Z G k0 z0 q_i) 5 [(0, .ref v0), (1, .int v1), (2, .int v2), (3, .int v3), (4, .int v4)] [] h (b_X10_rank_5 k5 h v0 v1 v2 v3 v4) := by
  unfold b_X10_rank_5
  refine j_iload (pc := 5) (p := 4) rfl dX10_rank_5 ?_
  refine j_bipush (pc := 7) kb_14 dX10_rank_7 ?_
  refine j_ic_ge (pc := 9) (tgt := 129) dX10_rank_9 (by decide) (fun _ => ?_) (fun _ => ?_)
  · refine j_iload_n (pc := 129) (p := 3) rfl rfl dX10_rank_129 ?_
    exact j_iret (pc := 130) rfl dX10_rank_130
  refine j_iload (pc := 12) (p := 4) rfl dX10_rank_12 ?_
  refine j_iload_n (pc := 14) (p := 2) rfl rfl dX10_rank_14 ?_
  refine j_ic_eq (pc := 15) (tgt := 68) dX10_rank_15 (by decide) (fun _ => ?_) (fun _ => ?_)
  · exact jb_X10_rank_68 k5 hk5 _ _ _ _ _ _
  refine j_aload_n (pc := 18) (p := 0) rfl rfl dX10_rank_18 ?_
  refine j_iload_n (pc := 19) (p := 1) rfl rfl dX10_rank_19 ?_
  refine j_iload (pc := 20) (p := 4) rfl dX10_rank_20 ?_
  refine j_cVi (pc := 22) Y_X10_isThere (ci := 9) (b := v0) rfl rfl ml_X10_133 im_X10_isThere se_X10_isThere ⟨Nat.le_of_ble_eq_true rfl, Nat.le_of_ble_eq_true rfl⟩ dX10_rank_22 (As := [.int v1, .int v4]) (rest := []) rfl rfl (Nat.le_of_ble_eq_true rfl) (fun x hq9 => c_X10_isThere _ _ _ _ _ hq9) (fun q7 _ => ?_)
  refine j_if_eq (pc := 25) (tgt := 68) dX10_rank_25 (by decide) (fun _ => ?_) (fun _ => ?_)
  · exact jb_X10_rank_68 k5 hk5 _ _ _ _ _ _
  refine j_aload_n (pc := 28) (p := 0) rfl rfl dX10_rank_28 ?_
  refine j_iload_n (pc := 29) (p := 1) rfl rfl dX10_rank_29 ?_
  refine j_iload (pc := 30) (p := 4) rfl dX10_rank_30 ?_
  refine j_iconst (pc := 32) ki_0 dX10_rank_32 ?_
  refine j_cVi (pc := 33) Y_X10_its (ci := 9) (b := v0) rfl rfl ml_X10_129 im_X10_its se_X10_its ⟨Nat.le_of_ble_eq_true rfl, Nat.le_of_ble_eq_true rfl⟩ dX10_rank_33 (As := [.int v1, .int v4, .int (0)]) (rest := []) rfl rfl (Nat.le_of_ble_eq_true rfl) (fun x hq9 => c_X10_its _ _ _ _ _ _ hq9) (fun q8 _ => ?_)
  refine j_aload_n (pc := 36) (p := 0) rfl rfl dX10_rank_36 ?_
  refine j_iload_n (pc := 37) (p := 1) rfl rfl dX10_rank_37 ?_
  refine j_iload_n (pc := 38) (p := 2) rfl rfl dX10_rank_38 ?_
  refine j_iconst (pc := 39) ki_0 dX10_rank_39 ?_
  refine j_cVi (pc := 40) Y_X10_its (ci := 9) (b := v0) rfl rfl ml_X10_129 im_X10_its se_X10_its ⟨Nat.le_of_ble_eq_true rfl, Nat.le_of_ble_eq_true rfl⟩ dX10_rank_40 (As := [.int v1, .int v2, .int (0)]) (rest := [.int q8.2]) rfl rfl (Nat.le_of_ble_eq_true rfl) (fun x hq9 => c_X10_its _ _ _ _ _ _ hq9) (fun q9 _ => ?_)
  refine j_ic_ne (pc := 43) (tgt := 68) dX10_rank_43 (by decide) (fun _ => ?_) (fun _ => ?_)
  · refine j_aload_n (pc := 46) (p := 0) rfl rfl dX10_rank_46 ?_
    refine j_iload_n (pc := 47) (p := 1) rfl rfl dX10_rank_47 ?_
    refine j_iload (pc := 48) (p := 4) rfl dX10_rank_48 ?_
    refine j_iconst (pc := 50) ki_1 dX10_rank_50 ?_
    refine j_cVi (pc := 51) Y_X10_its (ci := 9) (b := v0) rfl rfl ml_X10_129 im_X10_its se_X10_its ⟨Nat.le_of_ble_eq_true rfl, Nat.le_of_ble_eq_true rfl⟩ dX10_rank_51 (As := [.int v1, .int v4, .int (1)]) (rest := []) rfl rfl (Nat.le_of_ble_eq_true rfl) (fun x hq9 => c_X10_its _ _ _ _ _ _ hq9) (fun q10 _ => ?_)
    refine j_aload_n (pc := 54) (p := 0) rfl rfl dX10_rank_54 ?_
    refine j_iload_n (pc := 55) (p := 1) rfl rfl dX10_rank_55 ?_
    refine j_iload_n (pc := 56) (p := 2) rfl rfl dX10_rank_56 ?_
    refine j_iconst (pc := 57) ki_1 dX10_rank_57 ?_
    refine j_cVi (pc := 58) Y_X10_its (ci := 9) (b := v0) rfl rfl ml_X10_129 im_X10_its se_X10_its ⟨Nat.le_of_ble_eq_true rfl, Nat.le_of_ble_eq_true rfl⟩ dX10_rank_58 (As := [.int v1, .int v2, .int (1)]) (rest := [.int q10.2]) rfl rfl (Nat.le_of_ble_eq_true rfl) (fun x hq9 => c_X10_its _ _ _ _ _ _ hq9) (fun q11 _ => ?_)
    refine j_ic_ne (pc := 61) (tgt := 68) dX10_rank_61 (by decide) (fun _ => ?_) (fun _ => ?_)
    · refine j_iconst (pc := 64) ki_1 dX10_rank_64 ?_
      refine j_goto (pc := 65) (tgt := 69) dX10_rank_65 (by decide) ?_
      exact jb_X10_rank_69 k5 hk5 _ _ _ _ _ _ _
    exact jb_X10_rank_68 k5 hk5 _ _ _ _ _ _
  exact jb_X10_rank_68 k5 hk5 _ _ _ _ _ _
set_option maxRecDepth 20000 in
set_option maxHeartbeats 1000000 in
theorem jl_X10_rank_5 {G : q_G} {l : Launch} {k0 z0 : Nat} (n : Nat) : ∀ (h : q_H) (v0 : Nat) (v1 : Int32) (v2 : Int32) (v3 : Int32) (v4 : Int32), q_J G l (RX10, cX10_rank, 6, 2, 45, (some .int), "rank", []) k0 z0 (q_Z G k0 z0 q_i) 5 [(0, .ref v0), (1, .int v1), (2, .int v2), (3, .int v3), (4, .int v4)] [] h (l_X10_rank_5 n h v0 v1 v2 v3 v4) := by
  induction n with
  | zero => intro h v0 v1 v2 v3 v4; exact j_none
  | succ n ih => intro h v0 v1 v2 v3 v4; exact jb_X10_rank_5 (l_X10_rank_5 n) ih h v0 v1 v2 v3 v4
set_option maxRecDepth 20000 in
set_option maxHeartbeats 1000000 in
theorem jb_X10_rank_0 {G : q_G} {l : Launch} {k0 z0 : Nat} (h : q_H) (v0 : Nat) (v1 : Int32) (v2 : Int32) : q_J G l (RX10, cX10_rank, 6, 2, 45, (some .int), "rank", []) k0 z0 (q_Z G k0 z0 q_i) 0 [(0, .ref v0), (1, .int v1), (2, .int v2)] [] h (b_X10_rank_0 h v0 v1 v2) := by
  unfold b_X10_rank_0
  refine j_iconst (pc := 0) ki_0 dX10_rank_0 ?_
  refine j_istore_n (pc := 1) (lv' := [(3, .int (0)), (0, .ref v0), (1, .int v1), (2, .int v2)]) rfl (by decide) rfl dX10_rank_1 ?_
  refine j_iconst (pc := 2) ki_2 dX10_rank_2 ?_
  refine j_istore (pc := 3) (lv' := [(4, .int (2)), (3, .int (0)), (0, .ref v0), (1, .int v1), (2, .int v2)]) (by decide) rfl dX10_rank_3 ?_
  refine j_sub [2, 3, 4, 1, 0] (lv' := [(0, .ref v0), (1, .int v1), (2, .int v2), (3, .int (0)), (4, .int (2))]) rfl ?_
  exact jl_X10_rank_5 q_FU _ _ _ _ _ _
set_option maxRecDepth 20000 in
set_option maxHeartbeats 1000000 in
theorem c_X10_rank {G : q_G} {l : Launch} : ∀ (h : q_H) (a0 : Nat) (a1 : Int32) (a2 : Int32) (q : q_H × Int32), f_X10_rank h a0 a1 a2 = some q → (∃ fs, h.1 a0 = .inr (9, fs)) ∧ q_CT G l yX10_rank cX10_rank 6 (some .int) 2 45 [.ref a0, .int a1, .int a2] h q.1 (q_i q.2) := by
  intro h a0 a1 a2 q e
  obtain ⟨e1, e2⟩ := q_chk_ok e
  exact ⟨e1, q_ofJ Y_X10_rank (Nat.le_of_ble_eq_true rfl) (jb_X10_rank_0 h a0 a1 a2) q e2⟩
/-! FarFoldersModel.child(III)I -/
theorem dX10_child_0 : decode cX10_child 0 = .ok (.iconst (-1), 1) := by decide +kernel
theorem dX10_child_1 : decode cX10_child 1 = .ok (.istore 4, 2) := by decide +kernel
theorem dX10_child_3 : decode cX10_child 3 = .ok (.iconst 2, 1) := by decide +kernel
theorem dX10_child_4 : decode cX10_child 4 = .ok (.istore 5, 2) := by decide +kernel
theorem dX10_child_6 : decode cX10_child 6 = .ok (.iload 5, 2) := by decide +kernel
theorem dX10_child_8 : decode cX10_child 8 = .ok (.bipush 14, 2) := by decide +kernel
theorem dX10_child_10 : decode cX10_child 10 = .ok (.if_icmp .ge 79, 3) := by decide +kernel
theorem dX10_child_13 : decode cX10_child 13 = .ok (.iload_n 1, 1) := by decide +kernel
theorem dX10_child_14 : decode cX10_child 14 = .ok (.ifCond .lt 75, 3) := by decide +kernel
theorem dX10_child_17 : decode cX10_child 17 = .ok (.aload_n 0, 1) := by decide +kernel
theorem dX10_child_18 : decode cX10_child 18 = .ok (.iconst 0, 1) := by decide +kernel
theorem dX10_child_19 : decode cX10_child 19 = .ok (.iload 5, 2) := by decide +kernel
theorem dX10_child_21 : decode cX10_child 21 = .ok (.invokevirtual 133, 3) := by decide +kernel
theorem dX10_child_24 : decode cX10_child 24 = .ok (.ifCond .eq 31, 3) := by decide +kernel
theorem dX10_child_27 : decode cX10_child 27 = .ok (.aload_n 0, 1) := by decide +kernel
theorem dX10_child_28 : decode cX10_child 28 = .ok (.iconst 0, 1) := by decide +kernel
theorem dX10_child_29 : decode cX10_child 29 = .ok (.iload 5, 2) := by decide +kernel
theorem dX10_child_31 : decode cX10_child 31 = .ok (.iconst 0, 1) := by decide +kernel
theorem dX10_child_32 : decode cX10_child 32 = .ok (.invokevirtual 129, 3) := by decide +kernel
theorem dX10_child_35 : decode cX10_child 35 = .ok (.iload_n 1, 1) := by decide +kernel
theorem dX10_child_36 : decode cX10_child 36 = .ok (.if_icmp .ne 19, 3) := by decide +kernel
theorem dX10_child_39 : decode cX10_child 39 = .ok (.aload_n 0, 1) := by decide +kernel
theorem dX10_child_40 : decode cX10_child 40 = .ok (.iconst 0, 1) := by decide +kernel
theorem dX10_child_41 : decode cX10_child 41 = .ok (.iload 5, 2) := by decide +kernel
theorem dX10_child_43 : decode cX10_child 43 = .ok (.iconst 1, 1) := by decide +kernel
theorem dX10_child_44 : decode cX10_child 44 = .ok (.invokevirtual 129, 3) := by decide +kernel
theorem dX10_child_47 : decode cX10_child 47 = .ok (.iload_n 2, 1) := by decide +kernel
theorem dX10_child_48 : decode cX10_child 48 = .ok (.if_icmp .ne 7, 3) := by decide +kernel
theorem dX10_child_51 : decode cX10_child 51 = .ok (.iconst 1, 1) := by decide +kernel
theorem dX10_child_52 : decode cX10_child 52 = .ok (.goto 4, 3) := by decide +kernel
theorem dX10_child_55 : decode cX10_child 55 = .ok (.iconst 0, 1) := by decide +kernel
theorem dX10_child_56 : decode cX10_child 56 = .ok (.istore 6, 2) := by decide +kernel
theorem dX10_child_58 : decode cX10_child 58 = .ok (.iload 6, 2) := by decide +kernel
theorem dX10_child_60 : decode cX10_child 60 = .ok (.ifCond .eq 19, 3) := by decide +kernel
theorem dX10_child_63 : decode cX10_child 63 = .ok (.aload_n 0, 1) := by decide +kernel
theorem dX10_child_64 : decode cX10_child 64 = .ok (.iconst 0, 1) := by decide +kernel
theorem dX10_child_65 : decode cX10_child 65 = .ok (.iload 5, 2) := by decide +kernel
theorem dX10_child_67 : decode cX10_child 67 = .ok (.invokevirtual 168, 3) := by decide +kernel
theorem dX10_child_70 : decode cX10_child 70 = .ok (.iload_n 3, 1) := by decide +kernel
theorem dX10_child_71 : decode cX10_child 71 = .ok (.if_icmp .ne 8, 3) := by decide +kernel
theorem dX10_child_74 : decode cX10_child 74 = .ok (.iload 5, 2) := by decide +kernel
theorem dX10_child_76 : decode cX10_child 76 = .ok (.goto 5, 3) := by decide +kernel
theorem dX10_child_79 : decode cX10_child 79 = .ok (.iload 4, 2) := by decide +kernel
theorem dX10_child_81 : decode cX10_child 81 = .ok (.istore 4, 2) := by decide +kernel
theorem dX10_child_83 : decode cX10_child 83 = .ok (.iinc 5 1, 3) := by decide +kernel
theorem dX10_child_86 : decode cX10_child 86 = .ok (.goto (-80), 3) := by decide +kernel
theorem dX10_child_89 : decode cX10_child 89 = .ok (.iload 4, 2) := by decide +kernel
theorem dX10_child_91 : decode cX10_child 91 = .ok (.ireturn, 1) := by decide +kernel
def b_X10_child_81 (k6 : q_H → Nat → Int32 → Int32 → Int32 → Int32 → Int32 → Option (q_H × Int32)) (h : q_H) (v0 : Nat) (v1 : Int32) (v2 : Int32) (v3 : Int32) (v5 : Int32) (s0 : Int32) : Option (q_H × Int32) :=
  k6 h v0 v1 v2 v3 s0 (v5 + 1)
def b_X10_child_79 (k6 : q_H → Nat → Int32 → Int32 → Int32 → Int32 → Int32 → Option (q_H × Int32)) (h : q_H) (v0 : Nat) (v1 : Int32) (v2 : Int32) (v3 : Int32) (v4 : Int32) (v5 : Int32) : Option (q_H × Int32) :=
  b_X10_child_81 k6 h v0 v1 v2 v3 v5 v4
def b_X10_child_56 (k6 : q_H → Nat → Int32 → Int32 → Int32 → Int32 → Int32 → Option (q_H × Int32)) (h : q_H) (v0 : Nat) (v1 : Int32) (v2 : Int32) (v3 : Int32) (v4 : Int32) (v5 : Int32) (s0 : Int32) : Option (q_H × Int32) :=
  if s0 = 0 then b_X10_child_79 k6 h v0 v1 v2 v3 v4 v5 else Option.bind (f_X10_rank h v0 (0) v5) (fun q1 => if q1.2 = v3 then b_X10_child_81 k6 q1.1 v0 v1 v2 v3 v5 v5 else b_X10_child_79 k6 q1.1 v0 v1 v2 v3 v4 v5)
def b_X10_child_55 (k6 : q_H → Nat → Int32 → Int32 → Int32 → Int32 → Int32 → Option (q_H × Int32)) (h : q_H) (v0 : Nat) (v1 : Int32) (v2 : Int32) (v3 : Int32) (v4 : Int32) (v5 : Int32) : Option (q_H × Int32) :=
  b_X10_child_56 k6 h v0 v1 v2 v3 v4 v5 (0)
def b_X10_child_6 (k6 : q_H → Nat → Int32 → Int32 → Int32 → Int32 → Int32 → Option (q_H × Int32)) (h : q_H) (v0 : Nat) (v1 : Int32) (v2 : Int32) (v3 : Int32) (v4 : Int32) (v5 : Int32) : Option (q_H × Int32) :=
  if (14) ≤ v5 then some (h, v4) else if v1 < 0 then some (h, v4) else Option.bind (f_X10_isThere h v0 (0) v5) (fun q2 => if q2.2 = 0 then b_X10_child_55 k6 q2.1 v0 v1 v2 v3 v4 v5 else Option.bind (f_X10_its q2.1 v0 (0) v5 (0)) (fun q3 => if q3.2 = v1 then Option.bind (f_X10_its q3.1 v0 (0) v5 (1)) (fun q4 => if q4.2 = v2 then b_X10_child_56 k6 q4.1 v0 v1 v2 v3 v4 v5 (1) else b_X10_child_55 k6 q4.1 v0 v1 v2 v3 v4 v5) else b_X10_child_55 k6 q3.1 v0 v1 v2 v3 v4 v5))
def l_X10_child_6 : Nat → q_H → Nat → Int32 → Int32 → Int32 → Int32 → Int32 → Option (q_H × Int32)
  | 0, _, _, _, _, _, _, _ => none
  | n + 1, h, v0, v1, v2, v3, v4, v5 => b_X10_child_6 (l_X10_child_6 n) h v0 v1 v2 v3 v4 v5
def b_X10_child_0 (h : q_H) (v0 : Nat) (v1 : Int32) (v2 : Int32) (v3 : Int32) : Option (q_H × Int32) :=
  l_X10_child_6 q_FU h v0 v1 v2 v3 (-1) (2)
def f_X10_child (h : q_H) (a0 : Nat) (a1 : Int32) (a2 : Int32) (a3 : Int32) : Option (q_H × Int32) := q_chk 9 h a0 (b_X10_child_0 h a0 a1 a2 a3)
set_option maxRecDepth 20000 in
set_option maxHeartbeats 1000000 in
theorem jb_X10_child_81 {G : q_G} {l : Launch} {k0 z0 : Nat} (k6 : q_H → Nat → Int32 → Int32 → Int32 → Int32 → Int32 → Option (q_H × Int32)) (hk6 : ∀ (h : q_H) (v0 : Nat) (v1 : Int32) (v2 : Int32) (v3 : Int32) (v4 : Int32) (v5 : Int32), q_J G l (RX10, cX10_child, 7, 3, 70, (some .int), "child", []) k0 z0 (q_Z G k0 z0 q_i) 6 [(0, .ref v0), (1, .int v1), (2, .int v2), (3, .int v3), (4, .int v4), (5, .int v5)] [] h (k6 h v0 v1 v2 v3 v4 v5)) (h : q_H) (v0 : Nat) (v1 : Int32) (v2 : Int32) (v3 : Int32) (v5 : Int32) (s0 : Int32) : q_J G l (RX10, cX10_child, 7, 3, 70, (some .int), "child", []) k0 z0 (q_Z G k0 z0 q_i) 81 [(0, .ref v0), (1, .int v1), (2, .int v2), (3, .int v3), (5, .int v5)] [.int s0] h (b_X10_child_81 k6 h v0 v1 v2 v3 v5 s0) := by
  unfold b_X10_child_81
  refine j_istore (pc := 81) (lv' := [(4, .int s0), (0, .ref v0), (1, .int v1), (2, .int v2), (3, .int v3), (5, .int v5)]) (by decide) rfl dX10_child_81 ?_
  refine j_inc (pc := 83) (p := 5) (lv' := [(5, .int (v5 + 1)), (4, .int s0), (0, .ref v0), (1, .int v1), (2, .int v2), (3, .int v3)]) rfl ki_1 (by decide) rfl dX10_child_83 ?_
  refine j_goto (pc := 86) (tgt := 6) dX10_child_86 (by decide) ?_
  refine j_sub [2, 3, 4, 5, 1, 0] (lv' := [(0, .ref v0), (1, .int v1), (2, .int v2), (3, .int v3), (4, .int s0), (5, .int (v5 + 1))]) rfl ?_
  exact hk6 _ _ _ _ _ _ _
set_option maxRecDepth 20000 in
set_option maxHeartbeats 1000000 in
theorem jb_X10_child_79 {G : q_G} {l : Launch} {k0 z0 : Nat} (k6 : q_H → Nat → Int32 → Int32 → Int32 → Int32 → Int32 → Option (q_H × Int32)) (hk6 : ∀ (h : q_H) (v0 : Nat) (v1 : Int32) (v2 : Int32) (v3 : Int32) (v4 : Int32) (v5 : Int32), q_J G l (RX10, cX10_child, 7, 3, 70, (some .int), "child", []) k0 z0 (q_Z G k0 z0 q_i) 6 [(0, .ref v0), (1, .int v1), (2, .int v2), (3, .int v3), (4, .int v4), (5, .int v5)] [] h (k6 h v0 v1 v2 v3 v4 v5)) (h : q_H) (v0 : Nat) (v1 : Int32) (v2 : Int32) (v3 : Int32) (v4 : Int32) (v5 : Int32) : q_J G l (RX10, cX10_child, 7, 3, 70, (some .int), "child", []) k0 z0 (q_Z G k0 z0 q_i) 79 [(0, .ref v0), (1, .int v1), (2, .int v2), (3, .int v3), (4, .int v4), (5, .int v5)] [] h (b_X10_child_79 k6 h v0 v1 v2 v3 v4 v5) := by
  unfold b_X10_child_79
  refine j_iload (pc := 79) (p := 4) rfl dX10_child_79 ?_
  refine j_sub [0, 1, 2, 3, 5] (lv' := [(0, .ref v0), (1, .int v1), (2, .int v2), (3, .int v3), (5, .int v5)]) rfl ?_
  exact jb_X10_child_81 k6 hk6 _ _ _ _ _ _ _
set_option maxRecDepth 20000 in
set_option maxHeartbeats 1000000 in
theorem jb_X10_child_56 {G : q_G} {l : Launch} {k0 z0 : Nat} (k6 : q_H → Nat → Int32 → Int32 → Int32 → Int32 → Int32 → Option (q_H × Int32)) (hk6 : ∀ (h : q_H) (v0 : Nat) (v1 : Int32) (v2 : Int32) (v3 : Int32) (v4 : Int32) (v5 : Int32), q_J G l (RX10, cX10_child, 7, 3, 70, (some .int), "child", []) k0 z0 (q_Z G k0 z0 q_i) 6 [(0, .ref v0), (1, .int v1), (2, .int v2), (3, .int v3), (4, .int v4), (5, .int v5)] [] h (k6 h v0 v1 v2 v3 v4 v5)) (h : q_H) (v0 : Nat) (v1 : Int32) (v2 : Int32) (v3 : Int32) (v4 : Int32) (v5 : Int32) (s0 : Int32) : q_J G l (RX10, cX10_child, 7, 3, 70, (some .int), "child", []) k0 z0 (q_Z G k0 z0 q_i) 56 [(0, .ref v0), (1, .int v1), (2, .int v2), (3, .int v3), (4, .int v4), (5, .int v5)] [.int s0] h (b_X10_child_56 k6 h v0 v1 v2 v3 v4 v5 s0) := by
  unfold b_X10_child_56
  refine j_istore (pc := 56) (lv' := [(6, .int s0), (0, .ref v0), (1, .int v1), (2, .int v2), (3, .int v3), (4, .int v4), (5, .int v5)]) (by decide) rfl dX10_child_56 ?_
  refine j_iload (pc := 58) (p := 0) rfl dX10_child_58 ?_
  refine j_if_eq (pc := 60) (tgt := 79) dX10_child_60 (by decide) (fun _ => ?_) (fun _ => ?_)
  · refine j_sub [1, 2, 3, 4, 5, 6] (lv' := [(0, .ref v0), (1, .int v1), (2, .int v2), (3, .int v3), (4, .int v4), (5, .int v5)]) rfl ?_
    exact jb_X10_child_79 k6 hk6 _ _ _ _ _ _ _
  refine j_aload_n (pc := 63) (p := 1) rfl rfl dX10_child_63 ?_
  refine j_iconst (pc := 64) ki_0 dX10_child_64 ?_
  refine j_iload (pc := 65) (p := 6) rfl dX10_child_65 ?_
  refine j_cVi (pc := 67) Y_X10_rank (ci := 9) (b := v0) rfl rfl ml_X10_168 im_X10_rank se_X10_rank ⟨Nat.le_of_ble_eq_true rfl, Nat.le_of_ble_eq_true rfl⟩ dX10_child_67 (As := [.int (0), .int v5]) (rest := []) rfl rfl (Nat.le_of_ble_eq_true rfl) (fun x hq9 => c_X10_rank _ _ _ _ _ hq9) (fun q1 _ => ?_)
  refine j_iload_n (pc := 70) (p := 4) rfl rfl dX10_child_70 ?_
  refine j_ic_ne (pc := 71) (tgt := 79) dX10_child_71 (by decide) (fun _ => ?_) (fun _ => ?_)
  · refine j_iload (pc := 74) (p := 6) rfl dX10_child_74 ?_
    refine j_goto (pc := 76) (tgt := 81) dX10_child_76 (by decide) ?_
    refine j_sub [1, 2, 3, 4, 6] (lv' := [(0, .ref v0), (1, .int v1), (2, .int v2), (3, .int v3), (5, .int v5)]) rfl ?_
    exact jb_X10_child_81 k6 hk6 _ _ _ _ _ _ _
  refine j_sub [1, 2, 3, 4, 5, 6] (lv' := [(0, .ref v0), (1, .int v1), (2, .int v2), (3, .int v3), (4, .int v4), (5, .int v5)]) rfl ?_
  exact jb_X10_child_79 k6 hk6 _ _ _ _ _ _ _
set_option maxRecDepth 20000 in
set_option maxHeartbeats 1000000 in
theorem jb_X10_child_55 {G : q_G} {l : Launch} {k0 z0 : Nat} (k6 : q_H → Nat → Int32 → Int32 → Int32 → Int32 → Int32 → Option (q_H × Int32)) (hk6 : ∀ (h : q_H) (v0 : Nat) (v1 : Int32) (v2 : Int32) (v3 : Int32) (v4 : Int32) (v5 : Int32), q_J G l (RX10, cX10_child, 7, 3, 70, (some .int), "child", []) k0 z0 (q_Z G k0 z0 q_i) 6 [(0, .ref v0), (1, .int v1), (2, .int v2), (3, .int v3), (4, .int v4), (5, .int v5)] [] h (k6 h v0 v1 v2 v3 v4 v5)) (h : q_H) (v0 : Nat) (v1 : Int32) (v2 : Int32) (v3 : Int32) (v4 : Int32) (v5 : Int32) : q_J G l (RX10, cX10_child, 7, 3, 70, (some .int), "child", []) k0 z0 (q_Z G k0 z0 q_i) 55 [(0, .ref v0), (1, .int v1), (2, .int v2), (3, .int v3), (4, .int v4), (5, .int v5)] [] h (b_X10_child_55 k6 h v0 v1 v2 v3 v4 v5) := by
  unfold b_X10_child_55
  refine j_iconst (pc := 55) ki_0 dX10_child_55 ?_
  exact jb_X10_child_56 k6 hk6 _ _ _ _ _ _ _ _
set_option maxRecDepth 20000 in
set_option maxHeartbeats 1000000 in
theorem jb_X10_child_6 {G : q_G} {l : Launch} {k0 z0 : Nat} (k6 : q_H → Nat → Int32 → Int32 → Int32 → Int32 → Int32 → Option (q_H × Int32)) (hk6 : ∀ (h : q_H) (v0 : Nat) (v1 : Int32) (v2 : Int32) (v3 : Int32) (v4 : Int32) (v5 : Int32), q_J G l (RX10, cX10_child, 7, 3, 70, (some .int), "child", []) k0 z0 (q_Z G k0 z0 q_i) 6 [(0, .ref v0), (1, .int v1), (2, .int v2), (3, .int v3), (4, .int v4), (5, .int v5)] [] h (k6 h v0 v1 v2 v3 v4 v5)) (h : q_H) (v0 : Nat) (v1 : Int32) (v2 : Int32) (v3 : Int32) (v4 : Int32) (v5 : Int32) : q_J G l (RX10, cX10_child, 7, 3, 70, (some .int), "child", []) k0 z0 (q_Z G k0 z0 q_i) 6 [(0, .ref v0), (1, .int v1), (2, .int v2), (3, .int v3), (4, .int v4), (5, .int v5)] [] h (b_X10_child_6 k6 h v0 v1 v2 v3 v4 v5) := by
  unfold b_X10_child_6
  refine j_iload (pc := 6) (p := 5) rfl dX10_child_6 ?_
  refine j_bipush (pc := 8) kb_14 dX10_child_8 ?_
  refine j_ic_ge (pc := 10) (tgt := 89) dX10_child_10 (by decide) (fun _ => ?_) (fun _ => ?_)
  · refine j_iload (pc := 89) (p := 4) rfl dX10_child_89 ?_
    exact j_iret (pc := 91) rfl dX10_child_91
  refine j_iload_n (pc := 13) (p := 1) rfl rfl dX10_child_13 ?_
  refine j_if_lt (pc := 14) (tgt := 89) dX10_child_14 (by decide) (fun _ => ?_) (fun _ => ?_)
  · refine j_iload (pc := 89) (p := 4) rfl dX10_child_89 ?_
    exact j_iret (pc := 91) rfl dX10_child_91
  refine j_aload_n (pc := 17) (p := 0) rfl rfl dX10_child_17 ?_
  refine j_iconst (pc := 18) ki_0 dX10_child_18 ?_
  refine j_iload (pc := 19) (p := 5) rfl dX10_child_19 ?_
  refine j_cVi (pc := 21) Y_X10_isThere (ci := 9) (b := v0) rfl rfl ml_X10_133 im_X10_isThere se_X10_isThere ⟨Nat.le_of_ble_eq_true rfl, Nat.le_of_ble_eq_true rfl⟩ dX10_child_21 (As := [.int (0), .int v5]) (rest := []) rfl rfl (Nat.le_of_ble_eq_true rfl) (fun x hq9 => c_X10_isThere _ _ _ _ _ hq9) (fun q2 _ => ?_)
  refine j_if_eq (pc := 24) (tgt := 55) dX10_child_24 (by decide) (fun _ => ?_) (fun _ => ?_)
  · exact jb_X10_child_55 k6 hk6 _ _ _ _ _ _ _
  refine j_aload_n (pc := 27) (p := 0) rfl rfl dX10_child_27 ?_
  refine j_iconst (pc := 28) ki_0 dX10_child_28 ?_
  refine j_iload (pc := 29) (p := 5) rfl dX10_child_29 ?_
  refine j_iconst (pc := 31) ki_0 dX10_child_31 ?_
  refine j_cVi (pc := 32) Y_X10_its (ci := 9) (b := v0) rfl rfl ml_X10_129 im_X10_its se_X10_its ⟨Nat.le_of_ble_eq_true rfl, Nat.le_of_ble_eq_true rfl⟩ dX10_child_32 (As := [.int (0), .int v5, .int (0)]) (rest := []) rfl rfl (Nat.le_of_ble_eq_true rfl) (fun x hq9 => c_X10_its _ _ _ _ _ _ hq9) (fun q3 _ => ?_)
  refine j_iload_n (pc := 35) (p := 1) rfl rfl dX10_child_35 ?_
  refine j_ic_ne (pc := 36) (tgt := 55) dX10_child_36 (by decide) (fun _ => ?_) (fun _ => ?_)
  · refine j_aload_n (pc := 39) (p := 0) rfl rfl dX10_child_39 ?_
    refine j_iconst (pc := 40) ki_0 dX10_child_40 ?_
    refine j_iload (pc := 41) (p := 5) rfl dX10_child_41 ?_
    refine j_iconst (pc := 43) ki_1 dX10_child_43 ?_
    refine j_cVi (pc := 44) Y_X10_its (ci := 9) (b := v0) rfl rfl ml_X10_129 im_X10_its se_X10_its ⟨Nat.le_of_ble_eq_true rfl, Nat.le_of_ble_eq_true rfl⟩ dX10_child_44 (As := [.int (0), .int v5, .int (1)]) (rest := []) rfl rfl (Nat.le_of_ble_eq_true rfl) (fun x hq9 => c_X10_its _ _ _ _ _ _ hq9) (fun q4 _ => ?_)
    refine j_iload_n (pc := 47) (p := 2) rfl rfl dX10_child_47 ?_
    refine j_ic_ne (pc := 48) (tgt := 55) dX10_child_48 (by decide) (fun _ => ?_) (fun _ => ?_)
    · refine j_iconst (pc := 51) ki_1 dX10_child_51 ?_
      refine j_goto (pc := 52) (tgt := 56) dX10_child_52 (by decide) ?_
      exact jb_X10_child_56 k6 hk6 _ _ _ _ _ _ _ _
    exact jb_X10_child_55 k6 hk6 _ _ _ _ _ _ _
  exact jb_X10_child_55 k6 hk6 _ _ _ _ _ _ _
set_option maxRecDepth 20000 in
set_option maxHeartbeats 1000000 in
theorem jl_X10_child_6 {G : q_G} {l : Launch} {k0 z0 : Nat} (n : Nat) : ∀ (h : q_H) (v0 : Nat) (v1 : Int32) (v2 : Int32) (v3 : Int32) (v4 : Int32) (v5 : Int32), q_J G l (RX10, cX10_child, 7, 3, 70, (some .int), "child", []) k0 z0 (q_Z G k0 z0 q_i) 6 [(0, .ref v0), (1, .int v1), (2, .int v2), (3, .int v3), (4, .int v4), (5, .int v5)] [] h (l_X10_child_6 n h v0 v1 v2 v3 v4 v5) := by
  induction n with
  | zero => intro h v0 v1 v2 v3 v4 v5; exact j_none
  | succ n ih => intro h v0 v1 v2 v3 v4 v5; exact jb_X10_child_6 (l_X10_child_6 n) ih h v0 v1 v2 v3 v4 v5
set_option maxRecDepth 20000 in
set_option maxHeartbeats 1000000 in
theorem jb_X10_child_0 {G : q_G} {l : Launch} {k0 z0 : Nat} (h : q_H) (v0 : Nat) (v1 : Int32) (v2 : Int32) (v3 : Int32) : q_J G l (RX10, cX10_child, 7, 3, 70, (some .int), "child", []) k0 z0 (q_Z G k0 z0 q_i) 0 [(0, .ref v0), (1, .int v1), (2, .int v2), (3, .int v3)] [] h (b_X10_child_0 h v0 v1 v2 v3) := by
  unfold b_X10_child_0
  refine j_iconst (pc := 0) ki_m1 dX10_child_0 ?_
  refine j_istore (pc := 1) (lv' := [(4, .int (-1)), (0, .ref v0), (1, .int v1), (2, .int v2), (3, .int v3)]) (by decide) rfl dX10_child_1 ?_
  refine j_iconst (pc := 3) ki_2 dX10_child_3 ?_
  refine j_istore (pc := 4) (lv' := [(5, .int (2)), (4, .int (-1)), (0, .ref v0), (1, .int v1), (2, .int v2), (3, .int v3)]) (by decide) rfl dX10_child_4 ?_
  refine j_sub [2, 3, 4, 5, 1, 0] (lv' := [(0, .ref v0), (1, .int v1), (2, .int v2), (3, .int v3), (4, .int (-1)), (5, .int (2))]) rfl ?_
  exact jl_X10_child_6 q_FU _ _ _ _ _ _ _
set_option maxRecDepth 20000 in
set_option maxHeartbeats 1000000 in
theorem c_X10_child {G : q_G} {l : Launch} : ∀ (h : q_H) (a0 : Nat) (a1 : Int32) (a2 : Int32) (a3 : Int32) (q : q_H × Int32), f_X10_child h a0 a1 a2 a3 = some q → (∃ fs, h.1 a0 = .inr (9, fs)) ∧ q_CT G l yX10_child cX10_child 7 (some .int) 3 70 [.ref a0, .int a1, .int a2, .int a3] h q.1 (q_i q.2) := by
  intro h a0 a1 a2 a3 q e
  obtain ⟨e1, e2⟩ := q_chk_ok e
  exact ⟨e1, q_ofJ Y_X10_child (Nat.le_of_ble_eq_true rfl) (jb_X10_child_0 h a0 a1 a2 a3) q e2⟩
/-! FarFoldersModel.isMove(I)Z -/
theorem dX10_isMove_0 : decode cX10_isMove 0 = .ok (.aload_n 0, 1) := by decide +kernel
theorem dX10_isMove_1 : decode cX10_isMove 1 = .ok (.getfield 47, 3) := by decide +kernel
theorem dX10_isMove_4 : decode cX10_isMove 4 = .ok (.iload_n 1, 1) := by decide +kernel
theorem dX10_isMove_5 : decode cX10_isMove 5 = .ok (.iconst 1, 1) := by decide +kernel
theorem dX10_isMove_6 : decode cX10_isMove 6 = .ok (.iadd, 1) := by decide +kernel
theorem dX10_isMove_7 : decode cX10_isMove 7 = .ok (.iaload, 1) := by decide +kernel
theorem dX10_isMove_8 : decode cX10_isMove 8 = .ok (.iconst (-1), 1) := by decide +kernel
theorem dX10_isMove_9 : decode cX10_isMove 9 = .ok (.if_icmp .eq 7, 3) := by decide +kernel
theorem dX10_isMove_12 : decode cX10_isMove 12 = .ok (.iconst 1, 1) := by decide +kernel
theorem dX10_isMove_13 : decode cX10_isMove 13 = .ok (.goto 4, 3) := by decide +kernel
theorem dX10_isMove_16 : decode cX10_isMove 16 = .ok (.iconst 0, 1) := by decide +kernel
theorem dX10_isMove_17 : decode cX10_isMove 17 = .ok (.ireturn, 1) := by decide +kernel
def b_X10_isMove_0 (h : q_H) (v0 : Nat) (v1 : Int32) : Option (q_H × Int32) :=
  Option.bind (q_gR 9 7 h v0) (fun x1 => Option.bind (q_lI 0 h x1 (v1 + (1))) (fun x2 => if x2 = (-1) then some (h, (0)) else some (h, (1))))
def f_X10_isMove (h : q_H) (a0 : Nat) (a1 : Int32) : Option (q_H × Int32) := q_chk 9 h a0 (b_X10_isMove_0 h a0 a1)
set_option maxRecDepth 20000 in
set_option maxHeartbeats 1000000 in
theorem jb_X10_isMove_0 {G : q_G} {l : Launch} {k0 z0 : Nat} (h : q_H) (v0 : Nat) (v1 : Int32) : q_J G l (RX10, cX10_isMove, 2, 0, 0, (some .boolean), "isMove", []) k0 z0 (q_Z G k0 z0 q_i) 0 [(0, .ref v0), (1, .int v1)] [] h (b_X10_isMove_0 h v0 v1) := by
  unfold b_X10_isMove_0
  refine j_aload_n (pc := 0) (p := 0) rfl rfl dX10_isMove_0 ?_
  refine j_getR (pc := 1) FI_X10 (k := 7) (by decide) fl_X10_47 dX10_isMove_1 (fun x1 _ => ?_)
  refine j_iload_n (pc := 4) (p := 1) rfl rfl dX10_isMove_4 ?_
  refine j_iconst (pc := 5) ki_1 dX10_isMove_5 ?_
  refine j_iadd (pc := 6) dX10_isMove_6 ?_
  refine j_iald (pc := 7) dX10_isMove_7 (fun x2 _ => ?_)
  refine j_iconst (pc := 8) ki_m1 dX10_isMove_8 ?_
  refine j_ic_eq (pc := 9) (tgt := 16) dX10_isMove_9 (by decide) (fun _ => ?_) (fun _ => ?_)
  · refine j_iconst (pc := 16) ki_0 dX10_isMove_16 ?_
    exact j_zret (pc := 17) rfl rfl dX10_isMove_17
  refine j_iconst (pc := 12) ki_1 dX10_isMove_12 ?_
  refine j_goto (pc := 13) (tgt := 17) dX10_isMove_13 (by decide) ?_
  exact j_zret (pc := 17) rfl rfl dX10_isMove_17
set_option maxRecDepth 20000 in
set_option maxHeartbeats 1000000 in
theorem c_X10_isMove {G : q_G} {l : Launch} : ∀ (h : q_H) (a0 : Nat) (a1 : Int32) (q : q_H × Int32), f_X10_isMove h a0 a1 = some q → (∃ fs, h.1 a0 = .inr (9, fs)) ∧ q_CT G l yX10_isMove cX10_isMove 2 (some .boolean) 0 0 [.ref a0, .int a1] h q.1 (q_i q.2) := by
  intro h a0 a1 q e
  obtain ⟨e1, e2⟩ := q_chk_ok e
  exact ⟨e1, q_ofJ Y_X10_isMove (Nat.le_of_ble_eq_true rfl) (jb_X10_isMove_0 h a0 a1) q e2⟩
/-! FarFoldersModel.greater(II)I -/
theorem dX10_greater_0 : decode cX10_greater 0 = .ok (.iconst 0, 1) := by decide +kernel
theorem dX10_greater_1 : decode cX10_greater 1 = .ok (.istore_n 3, 1) := by decide +kernel
theorem dX10_greater_2 : decode cX10_greater 2 = .ok (.iconst 0, 1) := by decide +kernel
theorem dX10_greater_3 : decode cX10_greater 3 = .ok (.istore 4, 2) := by decide +kernel
theorem dX10_greater_5 : decode cX10_greater 5 = .ok (.iload 4, 2) := by decide +kernel
theorem dX10_greater_7 : decode cX10_greater 7 = .ok (.aload_n 0, 1) := by decide +kernel
theorem dX10_greater_8 : decode cX10_greater 8 = .ok (.getfield 105, 3) := by decide +kernel
theorem dX10_greater_11 : decode cX10_greater 11 = .ok (.if_icmp .ge 40, 3) := by decide +kernel
theorem dX10_greater_14 : decode cX10_greater 14 = .ok (.iload_n 3, 1) := by decide +kernel
theorem dX10_greater_15 : decode cX10_greater 15 = .ok (.iload_n 1, 1) := by decide +kernel
theorem dX10_greater_16 : decode cX10_greater 16 = .ok (.iload_n 2, 1) := by decide +kernel
theorem dX10_greater_17 : decode cX10_greater 17 = .ok (.aload_n 0, 1) := by decide +kernel
theorem dX10_greater_18 : decode cX10_greater 18 = .ok (.getfield 50, 3) := by decide +kernel
theorem dX10_greater_21 : decode cX10_greater 21 = .ok (.iconst 5, 1) := by decide +kernel
theorem dX10_greater_22 : decode cX10_greater 22 = .ok (.iload 4, 2) := by decide +kernel
theorem dX10_greater_24 : decode cX10_greater 24 = .ok (.imul, 1) := by decide +kernel
theorem dX10_greater_25 : decode cX10_greater 25 = .ok (.iaload, 1) := by decide +kernel
theorem dX10_greater_26 : decode cX10_greater 26 = .ok (.aload_n 0, 1) := by decide +kernel
theorem dX10_greater_27 : decode cX10_greater 27 = .ok (.getfield 50, 3) := by decide +kernel
theorem dX10_greater_30 : decode cX10_greater 30 = .ok (.iconst 5, 1) := by decide +kernel
theorem dX10_greater_31 : decode cX10_greater 31 = .ok (.iload 4, 2) := by decide +kernel
theorem dX10_greater_33 : decode cX10_greater 33 = .ok (.imul, 1) := by decide +kernel
theorem dX10_greater_34 : decode cX10_greater 34 = .ok (.iconst 1, 1) := by decide +kernel
theorem dX10_greater_35 : decode cX10_greater 35 = .ok (.iadd, 1) := by decide +kernel
theorem dX10_greater_36 : decode cX10_greater 36 = .ok (.iaload, 1) := by decide +kernel
theorem dX10_greater_37 : decode cX10_greater 37 = .ok (.invokestatic 111, 3) := by decide +kernel
theorem dX10_greater_40 : decode cX10_greater 40 = .ok (.invokestatic 115, 3) := by decide +kernel
theorem dX10_greater_43 : decode cX10_greater 43 = .ok (.iadd, 1) := by decide +kernel
theorem dX10_greater_44 : decode cX10_greater 44 = .ok (.istore_n 3, 1) := by decide +kernel
theorem dX10_greater_45 : decode cX10_greater 45 = .ok (.iinc 4 1, 3) := by decide +kernel
theorem dX10_greater_48 : decode cX10_greater 48 = .ok (.goto (-43), 3) := by decide +kernel
theorem dX10_greater_51 : decode cX10_greater 51 = .ok (.iload_n 3, 1) := by decide +kernel
theorem dX10_greater_52 : decode cX10_greater 52 = .ok (.ireturn, 1) := by decide +kernel
def b_X10_greater_5 (k5 : q_H → Nat → Int32 → Int32 → Int32 → Int32 → Option (q_H × Int32)) (h : q_H) (v0 : Nat) (v1 : Int32) (v2 : Int32) (v3 : Int32) (v4 : Int32) : Option (q_H × Int32) :=
  Option.bind (q_gI 9 9 h v0) (fun x1 => if x1 ≤ v4 then some (h, v3) else Option.bind (q_gR 9 8 h v0) (fun x2 => Option.bind (q_lI 0 h x2 ((5) * v4)) (fun x3 => Option.bind (q_gR 9 8 h v0) (fun x4 => Option.bind (q_lI 0 h x4 (((5) * v4) + (1))) (fun x5 => Option.bind (f_X10_isLess h v1 v2 x3 x5) (fun q6 => Option.bind (f_X10_flag q6.1 q6.2) (fun q7 => k5 q7.1 v0 v1 v2 (v3 + q7.2) (v4 + 1))))))))
def l_X10_greater_5 : Nat → q_H → Nat → Int32 → Int32 → Int32 → Int32 → Option (q_H × Int32)
  | 0, _, _, _, _, _, _ => none
  | n + 1, h, v0, v1, v2, v3, v4 => b_X10_greater_5 (l_X10_greater_5 n) h v0 v1 v2 v3 v4
def b_X10_greater_0 (h : q_H) (v0 : Nat) (v1 : Int32) (v2 : Int32) : Option (q_H × Int32) :=
  l_X10_greater_5 q_FU h v0 v1 v2 (0) (0)
def f_X10_greater (h : q_H) (a0 : Nat) (a1 : Int32) (a2 : Int32) : Option (q_H × Int32) := q_chk 9 h a0 (b_X10_greater_0 h a0 a1 a2)
set_option maxRecDepth 20000 in
set_option maxHeartbeats 1000000 in
theorem jb_X10_greater_5 {G : q_G} {l : Launch} {k0 z0 : Nat} (k5 : q_H → Nat → Int32 → Int32 → Int32 → Int32 → Option (q_H × Int32)) (hk5 : ∀ (h : q_H) (v0 : Nat) (v1 : Int32) (v2 : Int32) (v3 : Int32) (v4 : Int32), q_J G l (RX10, cX10_greater, 5, 1, 23, (some .int), "greater", []) k0 z0 (q_Z G k0 z0 q_i) 5 [(0, .ref v0), (1, .int v1), (2, .int v2), (3, .int v3), (4, .int v4)] [] h (k5 h v0 v1 v2 v3 v4)) (h : q_H) (v0 : Nat) (v1 : Int32) (v2 : Int32) (v3 : Int32) (v4 : Int32) : q_J G l (RX10, cX10_greater, 5, 1, 23, (some .int), "greater", []) k0 z0 (q_Z G k0 z0 q_i) 5 [(0, .ref v0), (1, .int v1), (2, .int v2), (3, .int v3), (4, .int v4)] [] h (b_X10_greater_5 k5 h v0 v1 v2 v3 v4) := by
  unfold b_X10_greater_5
  refine j_iload (pc := 5) (p := 4) rfl dX10_greater_5 ?_
  refine j_aload_n (pc := 7) (p := 0) rfl rfl dX10_greater_7 ?_
  refine j_getI (pc := 8) FI_X10 (k := 9) (by decide) fl_X10_105 dX10_greater_8 (fun x1 _ => ?_)
  refine j_ic_ge (pc := 11) (tgt := 51) dX10_greater_11 (by decide) (fun _ => ?_) (fun _ => ?_)
  · refine j_iload_n (pc := 51) (p := 3) rfl rfl dX10_greater_51 ?_
    exact j_iret (pc := 52) rfl dX10_greater_52
  refine j_iload_n (pc := 14) (p := 3) rfl rfl dX10_greater_14 ?_
  refine j_iload_n (pc := 15) (p := 1) rfl rfl dX10_greater_15 ?_
  refine j_iload_n (pc := 16) (p := 2) rfl rfl dX10_greater_16 ?_
  refine j_aload_n (pc := 17) (p := 0) rfl rfl dX10_greater_17 ?_
  refine j_getR (pc := 18) FI_X10 (k := 8) (by decide) fl_X10_50 dX10_greater_18 (fun x2 _ => ?_)
  refine j_iconst (pc := 21) ki_5 dX10_greater_21 ?_
  refine j_iload (pc := 22) (p := 4) rfl dX10_greater_22 ?_
  refine j_imul (pc := 24) dX10_greater_24 ?_
  refine j_iald (pc := 25) dX10_greater_25 (fun x3 _ => ?_)
  refine j_aload_n (pc := 26) (p := 0) rfl rfl dX10_greater_26 ?_
  refine j_getR (pc := 27) FI_X10 (k := 8) (by decide) fl_X10_50 dX10_greater_27 (fun x4 _ => ?_)
  refine j_iconst (pc := 30) ki_5 dX10_greater_30 ?_
  refine j_iload (pc := 31) (p := 4) rfl dX10_greater_31 ?_
  refine j_imul (pc := 33) dX10_greater_33 ?_
  refine j_iconst (pc := 34) ki_1 dX10_greater_34 ?_
  refine j_iadd (pc := 35) dX10_greater_35 ?_
  refine j_iald (pc := 36) dX10_greater_36 (fun x5 _ => ?_)
  refine j_cSi (pc := 37) Y_X10_isLess ml_X10_111 sm_X10_isLess ⟨Nat.le_of_ble_eq_true rfl, Nat.le_of_ble_eq_true rfl⟩ dX10_greater_37 (As := [.int v1, .int v2, .int x3, .int x5]) (rest := [.int v3]) rfl rfl (Nat.le_of_ble_eq_true rfl) (fun x hq9 => c_X10_isLess _ _ _ _ _ _ hq9) (fun q6 _ => ?_)
  refine j_cSi (pc := 40) Y_X10_flag ml_X10_115 sm_X10_flag ⟨Nat.le_of_ble_eq_true rfl, Nat.le_of_ble_eq_true rfl⟩ dX10_greater_40 (As := [.int q6.2]) (rest := [.int v3]) rfl rfl (Nat.le_of_ble_eq_true rfl) (fun x hq9 => c_X10_flag _ _ _ hq9) (fun q7 _ => ?_)
  refine j_iadd (pc := 43) dX10_greater_43 ?_
  refine j_istore_n (pc := 44) (lv' := [(3, .int (v3 + q7.2)), (0, .ref v0), (1, .int v1), (2, .int v2), (4, .int v4)]) rfl (by decide) rfl dX10_greater_44 ?_
  refine j_inc (pc := 45) (p := 4) (lv' := [(4, .int (v4 + 1)), (3, .int (v3 + q7.2)), (0, .ref v0), (1, .int v1), (2, .int v2)]) rfl ki_1 (by decide) rfl dX10_greater_45 ?_
  refine j_goto (pc := 48) (tgt := 5) dX10_greater_48 (by decide) ?_
  refine j_sub [2, 3, 4, 1, 0] (lv' := [(0, .ref v0), (1, .int v1), (2, .int v2), (3, .int (v3 + q7.2)), (4, .int (v4 + 1))]) rfl ?_
  exact hk5 _ _ _ _ _ _
set_option maxRecDepth 20000 in
set_option maxHeartbeats 1000000 in
theorem jl_X10_greater_5 {G : q_G} {l : Launch} {k0 z0 : Nat} (n : Nat) : ∀ (h : q_H) (v0 : Nat) (v1 : Int32) (v2 : Int32) (v3 : Int32) (v4 : Int32), q_J G l (RX10, cX10_greater, 5, 1, 23, (some .int), "greater", []) k0 z0 (q_Z G k0 z0 q_i) 5 [(0, .ref v0), (1, .int v1), (2, .int v2), (3, .int v3), (4, .int v4)] [] h (l_X10_greater_5 n h v0 v1 v2 v3 v4) := by
  induction n with
  | zero => intro h v0 v1 v2 v3 v4; exact j_none
  | succ n ih => intro h v0 v1 v2 v3 v4; exact jb_X10_greater_5 (l_X10_greater_5 n) ih h v0 v1 v2 v3 v4
set_option maxRecDepth 20000 in
set_option maxHeartbeats 1000000 in
theorem jb_X10_greater_0 {G : q_G} {l : Launch} {k0 z0 : Nat} (h : q_H) (v0 : Nat) (v1 : Int32) (v2 : Int32) : q_J G l (RX10, cX10_greater, 5, 1, 23, (some .int), "greater", []) k0 z0 (q_Z G k0 z0 q_i) 0 [(0, .ref v0), (1, .int v1), (2, .int v2)] [] h (b_X10_greater_0 h v0 v1 v2) := by
  unfold b_X10_greater_0
  refine j_iconst (pc := 0) ki_0 dX10_greater_0 ?_
  refine j_istore_n (pc := 1) (lv' := [(3, .int (0)), (0, .ref v0), (1, .int v1), (2, .int v2)]) rfl (by decide) rfl dX10_greater_1 ?_
  refine j_iconst (pc := 2) ki_0 dX10_greater_2 ?_
  refine j_istore (pc := 3) (lv' := [(4, .int (0)), (3, .int (0)), (0, .ref v0), (1, .int v1), (2, .int v2)]) (by decide) rfl dX10_greater_3 ?_
  refine j_sub [2, 3, 4, 1, 0] (lv' := [(0, .ref v0), (1, .int v1), (2, .int v2), (3, .int (0)), (4, .int (0))]) rfl ?_
  exact jl_X10_greater_5 q_FU _ _ _ _ _ _
set_option maxRecDepth 20000 in
set_option maxHeartbeats 1000000 in
theorem c_X10_greater {G : q_G} {l : Launch} : ∀ (h : q_H) (a0 : Nat) (a1 : Int32) (a2 : Int32) (q : q_H × Int32), f_X10_greater h a0 a1 a2 = some q → (∃ fs, h.1 a0 = .inr (9, fs)) ∧ q_CT G l yX10_greater cX10_greater 5 (some .int) 1 23 [.ref a0, .int a1, .int a2] h q.1 (q_i q.2) := by
  intro h a0 a1 a2 q e
  obtain ⟨e1, e2⟩ := q_chk_ok e
  exact ⟨e1, q_ofJ Y_X10_greater (Nat.le_of_ble_eq_true rfl) (jb_X10_greater_0 h a0 a1 a2) q e2⟩
/-! FarFoldersModel.puts(IIIII)V -/
theorem dX10_puts_0 : decode cX10_puts 0 = .ok (.aload_n 0, 1) := by decide +kernel
theorem dX10_puts_1 : decode cX10_puts 1 = .ok (.getfield 105, 3) := by decide +kernel
theorem dX10_puts_4 : decode cX10_puts 4 = .ok (.aload_n 0, 1) := by decide +kernel
theorem dX10_puts_5 : decode cX10_puts 5 = .ok (.iload_n 1, 1) := by decide +kernel
theorem dX10_puts_6 : decode cX10_puts 6 = .ok (.iload_n 2, 1) := by decide +kernel
theorem dX10_puts_7 : decode cX10_puts 7 = .ok (.invokevirtual 119, 3) := by decide +kernel
theorem dX10_puts_10 : decode cX10_puts 10 = .ok (.isub, 1) := by decide +kernel
theorem dX10_puts_11 : decode cX10_puts 11 = .ok (.istore 6, 2) := by decide +kernel
theorem dX10_puts_13 : decode cX10_puts 13 = .ok (.iconst 5, 1) := by decide +kernel
theorem dX10_puts_14 : decode cX10_puts 14 = .ok (.aload_n 0, 1) := by decide +kernel
theorem dX10_puts_15 : decode cX10_puts 15 = .ok (.getfield 105, 3) := by decide +kernel
theorem dX10_puts_18 : decode cX10_puts 18 = .ok (.imul, 1) := by decide +kernel
theorem dX10_puts_19 : decode cX10_puts 19 = .ok (.iconst 1, 1) := by decide +kernel
theorem dX10_puts_20 : decode cX10_puts 20 = .ok (.isub, 1) := by decide +kernel
theorem dX10_puts_21 : decode cX10_puts 21 = .ok (.istore 7, 2) := by decide +kernel
theorem dX10_puts_23 : decode cX10_puts 23 = .ok (.iload 7, 2) := by decide +kernel
theorem dX10_puts_25 : decode cX10_puts 25 = .ok (.iconst 5, 1) := by decide +kernel
theorem dX10_puts_26 : decode cX10_puts 26 = .ok (.iload 6, 2) := by decide +kernel
theorem dX10_puts_28 : decode cX10_puts 28 = .ok (.imul, 1) := by decide +kernel
theorem dX10_puts_29 : decode cX10_puts 29 = .ok (.if_icmp .lt 25, 3) := by decide +kernel
theorem dX10_puts_32 : decode cX10_puts 32 = .ok (.aload_n 0, 1) := by decide +kernel
theorem dX10_puts_33 : decode cX10_puts 33 = .ok (.getfield 50, 3) := by decide +kernel
theorem dX10_puts_36 : decode cX10_puts 36 = .ok (.iload 7, 2) := by decide +kernel
theorem dX10_puts_38 : decode cX10_puts 38 = .ok (.iconst 5, 1) := by decide +kernel
theorem dX10_puts_39 : decode cX10_puts 39 = .ok (.iadd, 1) := by decide +kernel
theorem dX10_puts_40 : decode cX10_puts 40 = .ok (.aload_n 0, 1) := by decide +kernel
theorem dX10_puts_41 : decode cX10_puts 41 = .ok (.getfield 50, 3) := by decide +kernel
theorem dX10_puts_44 : decode cX10_puts 44 = .ok (.iload 7, 2) := by decide +kernel
theorem dX10_puts_46 : decode cX10_puts 46 = .ok (.iaload, 1) := by decide +kernel
theorem dX10_puts_47 : decode cX10_puts 47 = .ok (.iastore, 1) := by decide +kernel
theorem dX10_puts_48 : decode cX10_puts 48 = .ok (.iinc 7 (-1), 3) := by decide +kernel
theorem dX10_puts_51 : decode cX10_puts 51 = .ok (.goto (-28), 3) := by decide +kernel
theorem dX10_puts_54 : decode cX10_puts 54 = .ok (.aload_n 0, 1) := by decide +kernel
theorem dX10_puts_55 : decode cX10_puts 55 = .ok (.getfield 50, 3) := by decide +kernel
theorem dX10_puts_58 : decode cX10_puts 58 = .ok (.iconst 5, 1) := by decide +kernel
theorem dX10_puts_59 : decode cX10_puts 59 = .ok (.iload 6, 2) := by decide +kernel
theorem dX10_puts_61 : decode cX10_puts 61 = .ok (.imul, 1) := by decide +kernel
theorem dX10_puts_62 : decode cX10_puts 62 = .ok (.iload_n 1, 1) := by decide +kernel
theorem dX10_puts_63 : decode cX10_puts 63 = .ok (.iastore, 1) := by decide +kernel
theorem dX10_puts_64 : decode cX10_puts 64 = .ok (.aload_n 0, 1) := by decide +kernel
theorem dX10_puts_65 : decode cX10_puts 65 = .ok (.getfield 50, 3) := by decide +kernel
theorem dX10_puts_68 : decode cX10_puts 68 = .ok (.iconst 5, 1) := by decide +kernel
theorem dX10_puts_69 : decode cX10_puts 69 = .ok (.iload 6, 2) := by decide +kernel
theorem dX10_puts_71 : decode cX10_puts 71 = .ok (.imul, 1) := by decide +kernel
theorem dX10_puts_72 : decode cX10_puts 72 = .ok (.iconst 1, 1) := by decide +kernel
theorem dX10_puts_73 : decode cX10_puts 73 = .ok (.iadd, 1) := by decide +kernel
theorem dX10_puts_74 : decode cX10_puts 74 = .ok (.iload_n 2, 1) := by decide +kernel
theorem dX10_puts_75 : decode cX10_puts 75 = .ok (.iastore, 1) := by decide +kernel
theorem dX10_puts_76 : decode cX10_puts 76 = .ok (.aload_n 0, 1) := by decide +kernel
theorem dX10_puts_77 : decode cX10_puts 77 = .ok (.getfield 50, 3) := by decide +kernel
theorem dX10_puts_80 : decode cX10_puts 80 = .ok (.iconst 5, 1) := by decide +kernel
theorem dX10_puts_81 : decode cX10_puts 81 = .ok (.iload 6, 2) := by decide +kernel
theorem dX10_puts_83 : decode cX10_puts 83 = .ok (.imul, 1) := by decide +kernel
theorem dX10_puts_84 : decode cX10_puts 84 = .ok (.iconst 2, 1) := by decide +kernel
theorem dX10_puts_85 : decode cX10_puts 85 = .ok (.iadd, 1) := by decide +kernel
theorem dX10_puts_86 : decode cX10_puts 86 = .ok (.iload_n 3, 1) := by decide +kernel
theorem dX10_puts_87 : decode cX10_puts 87 = .ok (.iastore, 1) := by decide +kernel
theorem dX10_puts_88 : decode cX10_puts 88 = .ok (.aload_n 0, 1) := by decide +kernel
theorem dX10_puts_89 : decode cX10_puts 89 = .ok (.getfield 50, 3) := by decide +kernel
theorem dX10_puts_92 : decode cX10_puts 92 = .ok (.iconst 5, 1) := by decide +kernel
theorem dX10_puts_93 : decode cX10_puts 93 = .ok (.iload 6, 2) := by decide +kernel
theorem dX10_puts_95 : decode cX10_puts 95 = .ok (.imul, 1) := by decide +kernel
theorem dX10_puts_96 : decode cX10_puts 96 = .ok (.iconst 3, 1) := by decide +kernel
theorem dX10_puts_97 : decode cX10_puts 97 = .ok (.iadd, 1) := by decide +kernel
theorem dX10_puts_98 : decode cX10_puts 98 = .ok (.iload 4, 2) := by decide +kernel
theorem dX10_puts_100 : decode cX10_puts 100 = .ok (.iastore, 1) := by decide +kernel
theorem dX10_puts_101 : decode cX10_puts 101 = .ok (.aload_n 0, 1) := by decide +kernel
theorem dX10_puts_102 : decode cX10_puts 102 = .ok (.getfield 50, 3) := by decide +kernel
theorem dX10_puts_105 : decode cX10_puts 105 = .ok (.iconst 5, 1) := by decide +kernel
theorem dX10_puts_106 : decode cX10_puts 106 = .ok (.iload 6, 2) := by decide +kernel
theorem dX10_puts_108 : decode cX10_puts 108 = .ok (.imul, 1) := by decide +kernel
theorem dX10_puts_109 : decode cX10_puts 109 = .ok (.iconst 4, 1) := by decide +kernel
theorem dX10_puts_110 : decode cX10_puts 110 = .ok (.iadd, 1) := by decide +kernel
theorem dX10_puts_111 : decode cX10_puts 111 = .ok (.iload 5, 2) := by decide +kernel
theorem dX10_puts_113 : decode cX10_puts 113 = .ok (.iastore, 1) := by decide +kernel
theorem dX10_puts_114 : decode cX10_puts 114 = .ok (.aload_n 0, 1) := by decide +kernel
theorem dX10_puts_115 : decode cX10_puts 115 = .ok (.dup, 1) := by decide +kernel
theorem dX10_puts_116 : decode cX10_puts 116 = .ok (.getfield 105, 3) := by decide +kernel
theorem dX10_puts_119 : decode cX10_puts 119 = .ok (.iconst 1, 1) := by decide +kernel
theorem dX10_puts_120 : decode cX10_puts 120 = .ok (.iadd, 1) := by decide +kernel
theorem dX10_puts_121 : decode cX10_puts 121 = .ok (.putfield 105, 3) := by decide +kernel
theorem dX10_puts_124 : decode cX10_puts 124 = .ok (.return_, 1) := by decide +kernel
def b_X10_puts_23 (k23 : q_H → Nat → Int32 → Int32 → Int32 → Int32 → Int32 → Int32 → Int32 → Option (q_H × Unit)) (h : q_H) (v0 : Nat) (v1 : Int32) (v2 : Int32) (v3 : Int32) (v4 : Int32) (v5 : Int32) (v6 : Int32) (v7 : Int32) : Option (q_H × Unit) :=
  if v7 < ((5) * v6) then Option.bind (q_gR 9 8 h v0) (fun x1 => Option.bind (q_sI 0 id h x1 ((5) * v6) v1) (fun h2 => Option.bind (q_gR 9 8 h2 v0) (fun x3 => Option.bind (q_sI 0 id h2 x3 (((5) * v6) + (1)) v2) (fun h4 => Option.bind (q_gR 9 8 h4 v0) (fun x5 => Option.bind (q_sI 0 id h4 x5 (((5) * v6) + (2)) v3) (fun h6 => Option.bind (q_gR 9 8 h6 v0) (fun x7 => Option.bind (q_sI 0 id h6 x7 (((5) * v6) + (3)) v4) (fun h8 => Option.bind (q_gR 9 8 h8 v0) (fun x9 => Option.bind (q_sI 0 id h8 x9 (((5) * v6) + (4)) v5) (fun h10 => Option.bind (q_gI 9 9 h10 v0) (fun x11 => Option.bind (q_p 9 9 h10 v0 (.int (x11 + (1)))) (fun h12 => some (h12, ()))))))))))))) else Option.bind (q_gR 9 8 h v0) (fun x13 => Option.bind (q_gR 9 8 h v0) (fun x14 => Option.bind (q_lI 0 h x14 v7) (fun x15 => Option.bind (q_sI 0 id h x13 (v7 + (5)) x15) (fun h16 => k23 h16 v0 v1 v2 v3 v4 v5 v6 (v7 + (-1))))))
def l_X10_puts_23 : Nat → q_H → Nat → Int32 → Int32 → Int32 → Int32 → Int32 → Int32 → Int32 → Option (q_H × Unit)
  | 0, _, _, _, _, _, _, _, _, _ => none
  | n + 1, h, v0, v1, v2, v3, v4, v5, v6, v7 => b_X10_puts_23 (l_X10_puts_23 n) h v0 v1 v2 v3 v4 v5 v6 v7
def b_X10_puts_0 (h : q_H) (v0 : Nat) (v1 : Int32) (v2 : Int32) (v3 : Int32) (v4 : Int32) (v5 : Int32) : Option (q_H × Unit) :=
  Option.bind (q_gI 9 9 h v0) (fun x17 => Option.bind (f_X10_greater h v0 v1 v2) (fun q18 => Option.bind (q_gI 9 9 q18.1 v0) (fun x19 => l_X10_puts_23 q_FU q18.1 v0 v1 v2 v3 v4 v5 (x17 - q18.2) (((5) * x19) - (1)))))
def f_X10_puts (h : q_H) (a0 : Nat) (a1 : Int32) (a2 : Int32) (a3 : Int32) (a4 : Int32) (a5 : Int32) : Option (q_H × Unit) := q_chk 9 h a0 (b_X10_puts_0 h a0 a1 a2 a3 a4 a5)
set_option maxRecDepth 20000 in
set_option maxHeartbeats 1000000 in
theorem jb_X10_puts_23 {G : q_G} {l : Launch} {k0 z0 : Nat} (k23 : q_H → Nat → Int32 → Int32 → Int32 → Int32 → Int32 → Int32 → Int32 → Option (q_H × Unit)) (hk23 : ∀ (h : q_H) (v0 : Nat) (v1 : Int32) (v2 : Int32) (v3 : Int32) (v4 : Int32) (v5 : Int32) (v6 : Int32) (v7 : Int32), q_J G l (RX10, cX10_puts, 8, 2, 47, none, "puts", []) k0 z0 (q_Z G k0 z0 q_u) 23 [(0, .ref v0), (1, .int v1), (2, .int v2), (3, .int v3), (4, .int v4), (5, .int v5), (6, .int v6), (7, .int v7)] [] h (k23 h v0 v1 v2 v3 v4 v5 v6 v7)) (h : q_H) (v0 : Nat) (v1 : Int32) (v2 : Int32) (v3 : Int32) (v4 : Int32) (v5 : Int32) (v6 : Int32) (v7 : Int32) : q_J G l (RX10, cX10_puts, 8, 2, 47, none, "puts", []) k0 z0 (q_Z G k0 z0 q_u) 23 [(0, .ref v0), (1, .int v1), (2, .int v2), (3, .int v3), (4, .int v4), (5, .int v5), (6, .int v6), (7, .int v7)] [] h (b_X10_puts_23 k23 h v0 v1 v2 v3 v4 v5 v6 v7) := by
  unfold b_X10_puts_23
  refine j_iload (pc := 23) (p := 7) rfl dX10_puts_23 ?_
  refine j_iconst (pc := 25) ki_5 dX10_puts_25 ?_
  refine j_iload (pc := 26) (p := 6) rfl dX10_puts_26 ?_
  refine j_imul (pc := 28) dX10_puts_28 ?_
  refine j_ic_lt (pc := 29) (tgt := 54) dX10_puts_29 (by decide) (fun _ => ?_) (fun _ => ?_)
  · refine j_aload_n (pc := 54) (p := 0) rfl rfl dX10_puts_54 ?_
    refine j_getR (pc := 55) FI_X10 (k := 8) (by decide) fl_X10_50 dX10_puts_55 (fun x1 _ => ?_)
    refine j_iconst (pc := 58) ki_5 dX10_puts_58 ?_
    refine j_iload (pc := 59) (p := 6) rfl dX10_puts_59 ?_
    refine j_imul (pc := 61) dX10_puts_61 ?_
    refine j_iload_n (pc := 62) (p := 1) rfl rfl dX10_puts_62 ?_
    refine j_iast (pc := 63) dX10_puts_63 (fun h2 _ => ?_)
    refine j_aload_n (pc := 64) (p := 0) rfl rfl dX10_puts_64 ?_
    refine j_getR (pc := 65) FI_X10 (k := 8) (by decide) fl_X10_50 dX10_puts_65 (fun x3 _ => ?_)
    refine j_iconst (pc := 68) ki_5 dX10_puts_68 ?_
    refine j_iload (pc := 69) (p := 6) rfl dX10_puts_69 ?_
    refine j_imul (pc := 71) dX10_puts_71 ?_
    refine j_iconst (pc := 72) ki_1 dX10_puts_72 ?_
    refine j_iadd (pc := 73) dX10_puts_73 ?_
    refine j_iload_n (pc := 74) (p := 2) rfl rfl dX10_puts_74 ?_
    refine j_iast (pc := 75) dX10_puts_75 (fun h4 _ => ?_)
    refine j_aload_n (pc := 76) (p := 0) rfl rfl dX10_puts_76 ?_
    refine j_getR (pc := 77) FI_X10 (k := 8) (by decide) fl_X10_50 dX10_puts_77 (fun x5 _ => ?_)
    refine j_iconst (pc := 80) ki_5 dX10_puts_80 ?_
    refine j_iload (pc := 81) (p := 6) rfl dX10_puts_81 ?_
    refine j_imul (pc := 83) dX10_puts_83 ?_
    refine j_iconst (pc := 84) ki_2 dX10_puts_84 ?_
    refine j_iadd (pc := 85) dX10_puts_85 ?_
    refine j_iload_n (pc := 86) (p := 3) rfl rfl dX10_puts_86 ?_
    refine j_iast (pc := 87) dX10_puts_87 (fun h6 _ => ?_)
    refine j_aload_n (pc := 88) (p := 0) rfl rfl dX10_puts_88 ?_
    refine j_getR (pc := 89) FI_X10 (k := 8) (by decide) fl_X10_50 dX10_puts_89 (fun x7 _ => ?_)
    refine j_iconst (pc := 92) ki_5 dX10_puts_92 ?_
    refine j_iload (pc := 93) (p := 6) rfl dX10_puts_93 ?_
    refine j_imul (pc := 95) dX10_puts_95 ?_
    refine j_iconst (pc := 96) ki_3 dX10_puts_96 ?_
    refine j_iadd (pc := 97) dX10_puts_97 ?_
    refine j_iload (pc := 98) (p := 4) rfl dX10_puts_98 ?_
    refine j_iast (pc := 100) dX10_puts_100 (fun h8 _ => ?_)
    refine j_aload_n (pc := 101) (p := 0) rfl rfl dX10_puts_101 ?_
    refine j_getR (pc := 102) FI_X10 (k := 8) (by decide) fl_X10_50 dX10_puts_102 (fun x9 _ => ?_)
    refine j_iconst (pc := 105) ki_5 dX10_puts_105 ?_
    refine j_iload (pc := 106) (p := 6) rfl dX10_puts_106 ?_
    refine j_imul (pc := 108) dX10_puts_108 ?_
    refine j_iconst (pc := 109) ki_4 dX10_puts_109 ?_
    refine j_iadd (pc := 110) dX10_puts_110 ?_
    refine j_iload (pc := 111) (p := 5) rfl dX10_puts_111 ?_
    refine j_iast (pc := 113) dX10_puts_113 (fun h10 _ => ?_)
    refine j_aload_n (pc := 114) (p := 0) rfl rfl dX10_puts_114 ?_
    refine j_dup (pc := 115) rfl dX10_puts_115 ?_
    refine j_getI (pc := 116) FI_X10 (k := 9) (by decide) fl_X10_105 dX10_puts_116 (fun x11 _ => ?_)
    refine j_iconst (pc := 119) ki_1 dX10_puts_119 ?_
    refine j_iadd (pc := 120) dX10_puts_120 ?_
    refine j_put (pc := 121) FI_X10 (k := 9) (by decide) fl_X10_105 rfl rfl rfl dX10_puts_121 (fun h12 _ => ?_)
    exact j_vret (pc := 124) rfl dX10_puts_124
  refine j_aload_n (pc := 32) (p := 0) rfl rfl dX10_puts_32 ?_
  refine j_getR (pc := 33) FI_X10 (k := 8) (by decide) fl_X10_50 dX10_puts_33 (fun x13 _ => ?_)
  refine j_iload (pc := 36) (p := 7) rfl dX10_puts_36 ?_
  refine j_iconst (pc := 38) ki_5 dX10_puts_38 ?_
  refine j_iadd (pc := 39) dX10_puts_39 ?_
  refine j_aload_n (pc := 40) (p := 0) rfl rfl dX10_puts_40 ?_
  refine j_getR (pc := 41) FI_X10 (k := 8) (by decide) fl_X10_50 dX10_puts_41 (fun x14 _ => ?_)
  refine j_iload (pc := 44) (p := 7) rfl dX10_puts_44 ?_
  refine j_iald (pc := 46) dX10_puts_46 (fun x15 _ => ?_)
  refine j_iast (pc := 47) dX10_puts_47 (fun h16 _ => ?_)
  refine j_inc (pc := 48) (p := 7) (lv' := [(7, .int (v7 + (-1))), (0, .ref v0), (1, .int v1), (2, .int v2), (3, .int v3), (4, .int v4), (5, .int v5), (6, .int v6)]) rfl ki_m1 (by decide) rfl dX10_puts_48 ?_
  refine j_goto (pc := 51) (tgt := 23) dX10_puts_51 (by decide) ?_
  refine j_sub [1, 2, 3, 4, 5, 6, 7, 0] (lv' := [(0, .ref v0), (1, .int v1), (2, .int v2), (3, .int v3), (4, .int v4), (5, .int v5), (6, .int v6), (7, .int (v7 + (-1)))]) rfl ?_
  exact hk23 _ _ _ _ _ _ _ _ _
set_option maxRecDepth 20000 in
set_option maxHeartbeats 1000000 in
theorem jl_X10_puts_23 {G : q_G} {l : Launch} {k0 z0 : Nat} (n : Nat) : ∀ (h : q_H) (v0 : Nat) (v1 : Int32) (v2 : Int32) (v3 : Int32) (v4 : Int32) (v5 : Int32) (v6 : Int32) (v7 : Int32), q_J G l (RX10, cX10_puts, 8, 2, 47, none, "puts", []) k0 z0 (q_Z G k0 z0 q_u) 23 [(0, .ref v0), (1, .int v1), (2, .int v2), (3, .int v3), (4, .int v4), (5, .int v5), (6, .int v6), (7, .int v7)] [] h (l_X10_puts_23 n h v0 v1 v2 v3 v4 v5 v6 v7) := by
  induction n with
  | zero => intro h v0 v1 v2 v3 v4 v5 v6 v7; exact j_none
  | succ n ih => intro h v0 v1 v2 v3 v4 v5 v6 v7; exact jb_X10_puts_23 (l_X10_puts_23 n) ih h v0 v1 v2 v3 v4 v5 v6 v7
set_option maxRecDepth 20000 in
set_option maxHeartbeats 1000000 in
theorem jb_X10_puts_0 {G : q_G} {l : Launch} {k0 z0 : Nat} (h : q_H) (v0 : Nat) (v1 : Int32) (v2 : Int32) (v3 : Int32) (v4 : Int32) (v5 : Int32) : q_J G l (RX10, cX10_puts, 8, 2, 47, none, "puts", []) k0 z0 (q_Z G k0 z0 q_u) 0 [(0, .ref v0), (1, .int v1), (2, .int v2), (3, .int v3), (4, .int v4), (5, .int v5)] [] h (b_X10_puts_0 h v0 v1 v2 v3 v4 v5) := by
  unfold b_X10_puts_0
  refine j_aload_n (pc := 0) (p := 0) rfl rfl dX10_puts_0 ?_
  refine j_getI (pc := 1) FI_X10 (k := 9) (by decide) fl_X10_105 dX10_puts_1 (fun x17 _ => ?_)
  refine j_aload_n (pc := 4) (p := 0) rfl rfl dX10_puts_4 ?_
  refine j_iload_n (pc := 5) (p := 1) rfl rfl dX10_puts_5 ?_
  refine j_iload_n (pc := 6) (p := 2) rfl rfl dX10_puts_6 ?_
  refine j_cVi (pc := 7) Y_X10_greater (ci := 9) (b := v0) rfl rfl ml_X10_119 im_X10_greater se_X10_greater ⟨Nat.le_of_ble_eq_true rfl, Nat.le_of_ble_eq_true rfl⟩ dX10_puts_7 (As := [.int v1, .int v2]) (rest := [.int x17]) rfl rfl (Nat.le_of_ble_eq_true rfl) (fun x hq9 => c_X10_greater _ _ _ _ _ hq9) (fun q18 _ => ?_)
  refine j_isub (pc := 10) dX10_puts_10 ?_
  refine j_istore (pc := 11) (lv' := [(6, .int (x17 - q18.2)), (0, .ref v0), (1, .int v1), (2, .int v2), (3, .int v3), (4, .int v4), (5, .int v5)]) (by decide) rfl dX10_puts_11 ?_
  refine j_iconst (pc := 13) ki_5 dX10_puts_13 ?_
  refine j_aload_n (pc := 14) (p := 1) rfl rfl dX10_puts_14 ?_
  refine j_getI (pc := 15) FI_X10 (k := 9) (by decide) fl_X10_105 dX10_puts_15 (fun x19 _ => ?_)
  refine j_imul (pc := 18) dX10_puts_18 ?_
  refine j_iconst (pc := 19) ki_1 dX10_puts_19 ?_
  refine j_isub (pc := 20) dX10_puts_20 ?_
  refine j_istore (pc := 21) (lv' := [(7, .int (((5) * x19) - (1))), (6, .int (x17 - q18.2)), (0, .ref v0), (1, .int v1), (2, .int v2), (3, .int v3), (4, .int v4), (5, .int v5)]) (by decide) rfl dX10_puts_21 ?_
  refine j_sub [2, 3, 4, 5, 6, 7, 1, 0] (lv' := [(0, .ref v0), (1, .int v1), (2, .int v2), (3, .int v3), (4, .int v4), (5, .int v5), (6, .int (x17 - q18.2)), (7, .int (((5) * x19) - (1)))]) rfl ?_
  exact jl_X10_puts_23 q_FU _ _ _ _ _ _ _ _ _
set_option maxRecDepth 20000 in
set_option maxHeartbeats 1000000 in
theorem c_X10_puts {G : q_G} {l : Launch} : ∀ (h : q_H) (a0 : Nat) (a1 : Int32) (a2 : Int32) (a3 : Int32) (a4 : Int32) (a5 : Int32) (q : q_H × Unit), f_X10_puts h a0 a1 a2 a3 a4 a5 = some q → (∃ fs, h.1 a0 = .inr (9, fs)) ∧ q_CT G l yX10_puts cX10_puts 8 none 2 47 [.ref a0, .int a1, .int a2, .int a3, .int a4, .int a5] h q.1 (q_u q.2) := by
  intro h a0 a1 a2 a3 a4 a5 q e
  obtain ⟨e1, e2⟩ := q_chk_ok e
  exact ⟨e1, q_ofJ Y_X10_puts (Nat.le_of_ble_eq_true rfl) (jb_X10_puts_0 h a0 a1 a2 a3 a4 a5) q e2⟩
/-! FarFoldersModel.putsLetter(II)V -/
theorem dX10_putsLetter_0 : decode cX10_putsLetter 0 = .ok (.aload_n 0, 1) := by decide +kernel
theorem dX10_putsLetter_1 : decode cX10_putsLetter 1 = .ok (.iload_n 2, 1) := by decide +kernel
theorem dX10_putsLetter_2 : decode cX10_putsLetter 2 = .ok (.invokevirtual 122, 3) := by decide +kernel
theorem dX10_putsLetter_5 : decode cX10_putsLetter 5 = .ok (.ifCond .eq 38, 3) := by decide +kernel
theorem dX10_putsLetter_8 : decode cX10_putsLetter 8 = .ok (.aload_n 0, 1) := by decide +kernel
theorem dX10_putsLetter_9 : decode cX10_putsLetter 9 = .ok (.aload_n 0, 1) := by decide +kernel
theorem dX10_putsLetter_10 : decode cX10_putsLetter 10 = .ok (.getfield 47, 3) := by decide +kernel
theorem dX10_putsLetter_13 : decode cX10_putsLetter 13 = .ok (.iload_n 2, 1) := by decide +kernel
theorem dX10_putsLetter_14 : decode cX10_putsLetter 14 = .ok (.iaload, 1) := by decide +kernel
theorem dX10_putsLetter_15 : decode cX10_putsLetter 15 = .ok (.iload_n 1, 1) := by decide +kernel
theorem dX10_putsLetter_16 : decode cX10_putsLetter 16 = .ok (.aload_n 0, 1) := by decide +kernel
theorem dX10_putsLetter_17 : decode cX10_putsLetter 17 = .ok (.getfield 47, 3) := by decide +kernel
theorem dX10_putsLetter_20 : decode cX10_putsLetter 20 = .ok (.iload_n 2, 1) := by decide +kernel
theorem dX10_putsLetter_21 : decode cX10_putsLetter 21 = .ok (.iconst 1, 1) := by decide +kernel
theorem dX10_putsLetter_22 : decode cX10_putsLetter 22 = .ok (.iadd, 1) := by decide +kernel
theorem dX10_putsLetter_23 : decode cX10_putsLetter 23 = .ok (.iaload, 1) := by decide +kernel
theorem dX10_putsLetter_24 : decode cX10_putsLetter 24 = .ok (.aload_n 0, 1) := by decide +kernel
theorem dX10_putsLetter_25 : decode cX10_putsLetter 25 = .ok (.getfield 47, 3) := by decide +kernel
theorem dX10_putsLetter_28 : decode cX10_putsLetter 28 = .ok (.iload_n 2, 1) := by decide +kernel
theorem dX10_putsLetter_29 : decode cX10_putsLetter 29 = .ok (.iconst 2, 1) := by decide +kernel
theorem dX10_putsLetter_30 : decode cX10_putsLetter 30 = .ok (.iadd, 1) := by decide +kernel
theorem dX10_putsLetter_31 : decode cX10_putsLetter 31 = .ok (.iaload, 1) := by decide +kernel
theorem dX10_putsLetter_32 : decode cX10_putsLetter 32 = .ok (.aload_n 0, 1) := by decide +kernel
theorem dX10_putsLetter_33 : decode cX10_putsLetter 33 = .ok (.getfield 47, 3) := by decide +kernel
theorem dX10_putsLetter_36 : decode cX10_putsLetter 36 = .ok (.iload_n 2, 1) := by decide +kernel
theorem dX10_putsLetter_37 : decode cX10_putsLetter 37 = .ok (.iconst 3, 1) := by decide +kernel
theorem dX10_putsLetter_38 : decode cX10_putsLetter 38 = .ok (.iadd, 1) := by decide +kernel
theorem dX10_putsLetter_39 : decode cX10_putsLetter 39 = .ok (.iaload, 1) := by decide +kernel
theorem dX10_putsLetter_40 : decode cX10_putsLetter 40 = .ok (.invokevirtual 125, 3) := by decide +kernel
theorem dX10_putsLetter_43 : decode cX10_putsLetter 43 = .ok (.return_, 1) := by decide +kernel
def b_X10_putsLetter_0 (h : q_H) (v0 : Nat) (v1 : Int32) (v2 : Int32) : Option (q_H × Unit) :=
  Option.bind (f_X10_isMove h v0 v2) (fun q1 => if q1.2 = 0 then some (q1.1, ()) else Option.bind (q_gR 9 7 q1.1 v0) (fun x2 => Option.bind (q_lI 0 q1.1 x2 v2) (fun x3 => Option.bind (q_gR 9 7 q1.1 v0) (fun x4 => Option.bind (q_lI 0 q1.1 x4 (v2 + (1))) (fun x5 => Option.bind (q_gR 9 7 q1.1 v0) (fun x6 => Option.bind (q_lI 0 q1.1 x6 (v2 + (2))) (fun x7 => Option.bind (q_gR 9 7 q1.1 v0) (fun x8 => Option.bind (q_lI 0 q1.1 x8 (v2 + (3))) (fun x9 => Option.bind (f_X10_puts q1.1 v0 x3 v1 x5 x7 x9) (fun q10 => some (q10.1, ())))))))))))
def f_X10_putsLetter (h : q_H) (a0 : Nat) (a1 : Int32) (a2 : Int32) : Option (q_H × Unit) := q_chk 9 h a0 (b_X10_putsLetter_0 h a0 a1 a2)
set_option maxRecDepth 20000 in
set_option maxHeartbeats 1000000 in
theorem jb_X10_putsLetter_0 {G : q_G} {l : Launch} {k0 z0 : Nat} (h : q_H) (v0 : Nat) (v1 : Int32) (v2 : Int32) : q_J G l (RX10, cX10_putsLetter, 3, 3, 74, none, "putsLetter", []) k0 z0 (q_Z G k0 z0 q_u) 0 [(0, .ref v0), (1, .int v1), (2, .int v2)] [] h (b_X10_putsLetter_0 h v0 v1 v2) := by
  unfold b_X10_putsLetter_0
  refine j_aload_n (pc := 0) (p := 0) rfl rfl dX10_putsLetter_0 ?_
  refine j_iload_n (pc := 1) (p := 2) rfl rfl dX10_putsLetter_1 ?_
  refine j_cVi (pc := 2) Y_X10_isMove (ci := 9) (b := v0) rfl rfl ml_X10_122 im_X10_isMove se_X10_isMove ⟨Nat.le_of_ble_eq_true rfl, Nat.le_of_ble_eq_true rfl⟩ dX10_putsLetter_2 (As := [.int v2]) (rest := []) rfl rfl (Nat.le_of_ble_eq_true rfl) (fun x hq9 => c_X10_isMove _ _ _ _ hq9) (fun q1 _ => ?_)
  refine j_if_eq (pc := 5) (tgt := 43) dX10_putsLetter_5 (by decide) (fun _ => ?_) (fun _ => ?_)
  · exact j_vret (pc := 43) rfl dX10_putsLetter_43
  refine j_aload_n (pc := 8) (p := 0) rfl rfl dX10_putsLetter_8 ?_
  refine j_aload_n (pc := 9) (p := 0) rfl rfl dX10_putsLetter_9 ?_
  refine j_getR (pc := 10) FI_X10 (k := 7) (by decide) fl_X10_47 dX10_putsLetter_10 (fun x2 _ => ?_)
  refine j_iload_n (pc := 13) (p := 2) rfl rfl dX10_putsLetter_13 ?_
  refine j_iald (pc := 14) dX10_putsLetter_14 (fun x3 _ => ?_)
  refine j_iload_n (pc := 15) (p := 1) rfl rfl dX10_putsLetter_15 ?_
  refine j_aload_n (pc := 16) (p := 0) rfl rfl dX10_putsLetter_16 ?_
  refine j_getR (pc := 17) FI_X10 (k := 7) (by decide) fl_X10_47 dX10_putsLetter_17 (fun x4 _ => ?_)
  refine j_iload_n (pc := 20) (p := 2) rfl rfl dX10_putsLetter_20 ?_
  refine j_iconst (pc := 21) ki_1 dX10_putsLetter_21 ?_
  refine j_iadd (pc := 22) dX10_putsLetter_22 ?_
  refine j_iald (pc := 23) dX10_putsLetter_23 (fun x5 _ => ?_)
  refine j_aload_n (pc := 24) (p := 0) rfl rfl dX10_putsLetter_24 ?_
  refine j_getR (pc := 25) FI_X10 (k := 7) (by decide) fl_X10_47 dX10_putsLetter_25 (fun x6 _ => ?_)
  refine j_iload_n (pc := 28) (p := 2) rfl rfl dX10_putsLetter_28 ?_
  refine j_iconst (pc := 29) ki_2 dX10_putsLetter_29 ?_
  refine j_iadd (pc := 30) dX10_putsLetter_30 ?_
  refine j_iald (pc := 31) dX10_putsLetter_31 (fun x7 _ => ?_)
  refine j_aload_n (pc := 32) (p := 0) rfl rfl dX10_putsLetter_32 ?_
  refine j_getR (pc := 33) FI_X10 (k := 7) (by decide) fl_X10_47 dX10_putsLetter_33 (fun x8 _ => ?_)
  refine j_iload_n (pc := 36) (p := 2) rfl rfl dX10_putsLetter_36 ?_
  refine j_iconst (pc := 37) ki_3 dX10_putsLetter_37 ?_
  refine j_iadd (pc := 38) dX10_putsLetter_38 ?_
  refine j_iald (pc := 39) dX10_putsLetter_39 (fun x9 _ => ?_)
  refine j_cVu (pc := 40) Y_X10_puts (ci := 9) (b := v0) rfl rfl ml_X10_125 im_X10_puts se_X10_puts ⟨Nat.le_of_ble_eq_true rfl, Nat.le_of_ble_eq_true rfl⟩ dX10_putsLetter_40 (As := [.int x3, .int v1, .int x5, .int x7, .int x9]) (rest := []) rfl rfl (Nat.le_of_ble_eq_true rfl) (fun x hq9 => c_X10_puts _ _ _ _ _ _ _ _ hq9) (fun q10 _ => ?_)
  exact j_vret (pc := 43) rfl dX10_putsLetter_43
set_option maxRecDepth 20000 in
set_option maxHeartbeats 1000000 in
theorem c_X10_putsLetter {G : q_G} {l : Launch} : ∀ (h : q_H) (a0 : Nat) (a1 : Int32) (a2 : Int32) (q : q_H × Unit), f_X10_putsLetter h a0 a1 a2 = some q → (∃ fs, h.1 a0 = .inr (9, fs)) ∧ q_CT G l yX10_putsLetter cX10_putsLetter 3 none 3 74 [.ref a0, .int a1, .int a2] h q.1 (q_u q.2) := by
  intro h a0 a1 a2 q e
  obtain ⟨e1, e2⟩ := q_chk_ok e
  exact ⟨e1, q_ofJ Y_X10_putsLetter (Nat.le_of_ble_eq_true rfl) (jb_X10_putsLetter_0 h a0 a1 a2) q e2⟩
/-! FarFoldersModel.tries(II)V -/
theorem dX10_tries_0 : decode cX10_tries 0 = .ok (.aload_n 0, 1) := by decide +kernel
theorem dX10_tries_1 : decode cX10_tries 1 = .ok (.iconst 0, 1) := by decide +kernel
theorem dX10_tries_2 : decode cX10_tries 2 = .ok (.iload_n 2, 1) := by decide +kernel
theorem dX10_tries_3 : decode cX10_tries 3 = .ok (.invokevirtual 164, 3) := by decide +kernel
theorem dX10_tries_6 : decode cX10_tries 6 = .ok (.iload_n 1, 1) := by decide +kernel
theorem dX10_tries_7 : decode cX10_tries 7 = .ok (.iload_n 2, 1) := by decide +kernel
theorem dX10_tries_8 : decode cX10_tries 8 = .ok (.iconst 0, 1) := by decide +kernel
theorem dX10_tries_9 : decode cX10_tries 9 = .ok (.invokestatic 176, 3) := by decide +kernel
theorem dX10_tries_12 : decode cX10_tries 12 = .ok (.istore_n 3, 1) := by decide +kernel
theorem dX10_tries_13 : decode cX10_tries 13 = .ok (.aload_n 0, 1) := by decide +kernel
theorem dX10_tries_14 : decode cX10_tries 14 = .ok (.aload_n 0, 1) := by decide +kernel
theorem dX10_tries_15 : decode cX10_tries 15 = .ok (.iload_n 3, 1) := by decide +kernel
theorem dX10_tries_16 : decode cX10_tries 16 = .ok (.invokevirtual 122, 3) := by decide +kernel
theorem dX10_tries_19 : decode cX10_tries 19 = .ok (.ifCond .eq 17, 3) := by decide +kernel
theorem dX10_tries_22 : decode cX10_tries 22 = .ok (.aload_n 0, 1) := by decide +kernel
theorem dX10_tries_23 : decode cX10_tries 23 = .ok (.aload_n 0, 1) := by decide +kernel
theorem dX10_tries_24 : decode cX10_tries 24 = .ok (.getfield 47, 3) := by decide +kernel
theorem dX10_tries_27 : decode cX10_tries 27 = .ok (.iload_n 3, 1) := by decide +kernel
theorem dX10_tries_28 : decode cX10_tries 28 = .ok (.iaload, 1) := by decide +kernel
theorem dX10_tries_29 : decode cX10_tries 29 = .ok (.iload_n 1, 1) := by decide +kernel
theorem dX10_tries_30 : decode cX10_tries 30 = .ok (.invokevirtual 119, 3) := by decide +kernel
theorem dX10_tries_33 : decode cX10_tries 33 = .ok (.goto 4, 3) := by decide +kernel
theorem dX10_tries_36 : decode cX10_tries 36 = .ok (.iconst 0, 1) := by decide +kernel
theorem dX10_tries_37 : decode cX10_tries 37 = .ok (.putfield 214, 3) := by decide +kernel
theorem dX10_tries_40 : decode cX10_tries 40 = .ok (.aload_n 0, 1) := by decide +kernel
theorem dX10_tries_41 : decode cX10_tries 41 = .ok (.iload_n 1, 1) := by decide +kernel
theorem dX10_tries_42 : decode cX10_tries 42 = .ok (.iload_n 3, 1) := by decide +kernel
theorem dX10_tries_43 : decode cX10_tries 43 = .ok (.invokevirtual 217, 3) := by decide +kernel
theorem dX10_tries_46 : decode cX10_tries 46 = .ok (.aload_n 0, 1) := by decide +kernel
theorem dX10_tries_47 : decode cX10_tries 47 = .ok (.iconst 1, 1) := by decide +kernel
theorem dX10_tries_48 : decode cX10_tries 48 = .ok (.iload_n 2, 1) := by decide +kernel
theorem dX10_tries_49 : decode cX10_tries 49 = .ok (.iconst (-1), 1) := by decide +kernel
theorem dX10_tries_50 : decode cX10_tries 50 = .ok (.invokevirtual 148, 3) := by decide +kernel
theorem dX10_tries_53 : decode cX10_tries 53 = .ok (.aload_n 0, 1) := by decide +kernel
theorem dX10_tries_54 : decode cX10_tries 54 = .ok (.aload_n 0, 1) := by decide +kernel
theorem dX10_tries_55 : decode cX10_tries 55 = .ok (.iconst 0, 1) := by decide +kernel
theorem dX10_tries_56 : decode cX10_tries 56 = .ok (.iconst 1, 1) := by decide +kernel
theorem dX10_tries_57 : decode cX10_tries 57 = .ok (.invokevirtual 152, 3) := by decide +kernel
theorem dX10_tries_60 : decode cX10_tries 60 = .ok (.putfield 220, 3) := by decide +kernel
theorem dX10_tries_63 : decode cX10_tries 63 = .ok (.return_, 1) := by decide +kernel
def b_X10_tries_37 (h : q_H) (v0 : Nat) (v1 : Int32) (v2 : Int32) (v3 : Int32) (s0 : Nat) (s1 : Int32) : Option (q_H × Unit) :=
  Option.bind (q_p 9 13 h s0 (.int s1)) (fun h1 => Option.bind (f_X10_putsLetter h1 v0 v1 v3) (fun q2 => Option.bind (f_X10_grows q2.1 v0 (1) v2 (-1)) (fun q3 => Option.bind (f_X10_otherSet q3.1 v0 (0) (1)) (fun q4 => Option.bind (q_p 9 14 q4.1 v0 (.int q4.2)) (fun h5 => some (h5, ()))))))
def b_X10_tries_0 (h : q_H) (v0 : Nat) (v1 : Int32) (v2 : Int32) : Option (q_H × Unit) :=
  Option.bind (f_X10_lays h v0 (0) v2) (fun q6 => Option.bind (f_X10_letterOf q6.1 v1 v2 (0)) (fun q7 => Option.bind (f_X10_isMove q7.1 v0 q7.2) (fun q8 => if q8.2 = 0 then b_X10_tries_37 q8.1 v0 v1 v2 q7.2 v0 (0) else Option.bind (q_gR 9 7 q8.1 v0) (fun x9 => Option.bind (q_lI 0 q8.1 x9 q7.2) (fun x10 => Option.bind (f_X10_greater q8.1 v0 x10 v1) (fun q11 => b_X10_tries_37 q11.1 v0 v1 v2 q7.2 v0 q11.2))))))
def f_X10_tries (h : q_H) (a0 : Nat) (a1 : Int32) (a2 : Int32) : Option (q_H × Unit) := q_chk 9 h a0 (b_X10_tries_0 h a0 a1 a2)
set_option maxRecDepth 20000 in
set_option maxHeartbeats 1000000 in
theorem jb_X10_tries_37 {G : q_G} {l : Launch} {k0 z0 : Nat} (h : q_H) (v0 : Nat) (v1 : Int32) (v2 : Int32) (v3 : Int32) (s0 : Nat) (s1 : Int32) : q_J G l (RX10, cX10_tries, 4, 5, 118, none, "tries", []) k0 z0 (q_Z G k0 z0 q_u) 37 [(0, .ref v0), (1, .int v1), (2, .int v2), (3, .int v3)] [.int s1, .ref s0] h (b_X10_tries_37 h v0 v1 v2 v3 s0 s1) := by
  unfold b_X10_tries_37
  refine j_put (pc := 37) FI_X10 (k := 13) (by decide) fl_X10_214 rfl rfl rfl dX10_tries_37 (fun h1 _ => ?_)
  refine j_aload_n (pc := 40) (p := 0) rfl rfl dX10_tries_40 ?_
  refine j_iload_n (pc := 41) (p := 1) rfl rfl dX10_tries_41 ?_
  refine j_iload_n (pc := 42) (p := 3) rfl rfl dX10_tries_42 ?_
  refine j_cVu (pc := 43) Y_X10_putsLetter (ci := 9) (b := v0) rfl rfl ml_X10_217 im_X10_putsLetter se_X10_putsLetter ⟨Nat.le_of_ble_eq_true rfl, Nat.le_of_ble_eq_true rfl⟩ dX10_tries_43 (As := [.int v1, .int v3]) (rest := []) rfl rfl (Nat.le_of_ble_eq_true rfl) (fun x hq9 => c_X10_putsLetter _ _ _ _ _ hq9) (fun q2 _ => ?_)
  refine j_aload_n (pc := 46) (p := 0) rfl rfl dX10_tries_46 ?_
  refine j_iconst (pc := 47) ki_1 dX10_tries_47 ?_
  refine j_iload_n (pc := 48) (p := 2) rfl rfl dX10_tries_48 ?_
  refine j_iconst (pc := 49) ki_m1 dX10_tries_49 ?_
  refine j_cVu (pc := 50) Y_X10_grows (ci := 9) (b := v0) rfl rfl ml_X10_148 im_X10_grows se_X10_grows ⟨Nat.le_of_ble_eq_true rfl, Nat.le_of_ble_eq_true rfl⟩ dX10_tries_50 (As := [.int (1), .int v2, .int (-1)]) (rest := []) rfl rfl (Nat.le_of_ble_eq_true rfl) (fun x hq9 => c_X10_grows _ _ _ _ _ _ hq9) (fun q3 _ => ?_)
  refine j_aload_n (pc := 53) (p := 0) rfl rfl dX10_tries_53 ?_
  refine j_aload_n (pc := 54) (p := 0) rfl rfl dX10_tries_54 ?_
  refine j_iconst (pc := 55) ki_0 dX10_tries_55 ?_
  refine j_iconst (pc := 56) ki_1 dX10_tries_56 ?_
  refine j_cVi (pc := 57) Y_X10_otherSet (ci := 9) (b := v0) rfl rfl ml_X10_152 im_X10_otherSet se_X10_otherSet ⟨Nat.le_of_ble_eq_true rfl, Nat.le_of_ble_eq_true rfl⟩ dX10_tries_57 (As := [.int (0), .int (1)]) (rest := [.ref v0]) rfl rfl (Nat.le_of_ble_eq_true rfl) (fun x hq9 => c_X10_otherSet _ _ _ _ _ hq9) (fun q4 _ => ?_)
  refine j_put (pc := 60) FI_X10 (k := 14) (by decide) fl_X10_220 rfl rfl rfl dX10_tries_60 (fun h5 _ => ?_)
  exact j_vret (pc := 63) rfl dX10_tries_63
set_option maxRecDepth 20000 in
set_option maxHeartbeats 1000000 in
theorem jb_X10_tries_0 {G : q_G} {l : Launch} {k0 z0 : Nat} (h : q_H) (v0 : Nat) (v1 : Int32) (v2 : Int32) : q_J G l (RX10, cX10_tries, 4, 5, 118, none, "tries", []) k0 z0 (q_Z G k0 z0 q_u) 0 [(0, .ref v0), (1, .int v1), (2, .int v2)] [] h (b_X10_tries_0 h v0 v1 v2) := by
  unfold b_X10_tries_0
  refine j_aload_n (pc := 0) (p := 0) rfl rfl dX10_tries_0 ?_
  refine j_iconst (pc := 1) ki_0 dX10_tries_1 ?_
  refine j_iload_n (pc := 2) (p := 2) rfl rfl dX10_tries_2 ?_
  refine j_cVu (pc := 3) Y_X10_lays (ci := 9) (b := v0) rfl rfl ml_X10_164 im_X10_lays se_X10_lays ⟨Nat.le_of_ble_eq_true rfl, Nat.le_of_ble_eq_true rfl⟩ dX10_tries_3 (As := [.int (0), .int v2]) (rest := []) rfl rfl (Nat.le_of_ble_eq_true rfl) (fun x hq9 => c_X10_lays _ _ _ _ _ hq9) (fun q6 _ => ?_)
  refine j_iload_n (pc := 6) (p := 1) rfl rfl dX10_tries_6 ?_
  refine j_iload_n (pc := 7) (p := 2) rfl rfl dX10_tries_7 ?_
  refine j_iconst (pc := 8) ki_0 dX10_tries_8 ?_
  refine j_cSi (pc := 9) Y_X10_letterOf ml_X10_176 sm_X10_letterOf ⟨Nat.le_of_ble_eq_true rfl, Nat.le_of_ble_eq_true rfl⟩ dX10_tries_9 (As := [.int v1, .int v2, .int (0)]) (rest := []) rfl rfl (Nat.le_of_ble_eq_true rfl) (fun x hq9 => c_X10_letterOf _ _ _ _ _ hq9) (fun q7 _ => ?_)
  refine j_istore_n (pc := 12) (lv' := [(3, .int q7.2), (0, .ref v0), (1, .int v1), (2, .int v2)]) rfl (by decide) rfl dX10_tries_12 ?_
  refine j_aload_n (pc := 13) (p := 1) rfl rfl dX10_tries_13 ?_
  refine j_aload_n (pc := 14) (p := 1) rfl rfl dX10_tries_14 ?_
  refine j_iload_n (pc := 15) (p := 0) rfl rfl dX10_tries_15 ?_
  refine j_cVi (pc := 16) Y_X10_isMove (ci := 9) (b := v0) rfl rfl ml_X10_122 im_X10_isMove se_X10_isMove ⟨Nat.le_of_ble_eq_true rfl, Nat.le_of_ble_eq_true rfl⟩ dX10_tries_16 (As := [.int q7.2]) (rest := [.ref v0]) rfl rfl (Nat.le_of_ble_eq_true rfl) (fun x hq9 => c_X10_isMove _ _ _ _ hq9) (fun q8 _ => ?_)
  refine j_if_eq (pc := 19) (tgt := 36) dX10_tries_19 (by decide) (fun _ => ?_) (fun _ => ?_)
  · refine j_iconst (pc := 36) ki_0 dX10_tries_36 ?_
    refine j_sub [1, 2, 3, 0] (lv' := [(0, .ref v0), (1, .int v1), (2, .int v2), (3, .int q7.2)]) rfl ?_
    exact jb_X10_tries_37 _ _ _ _ _ _ _
  refine j_aload_n (pc := 22) (p := 1) rfl rfl dX10_tries_22 ?_
  refine j_aload_n (pc := 23) (p := 1) rfl rfl dX10_tries_23 ?_
  refine j_getR (pc := 24) FI_X10 (k := 7) (by decide) fl_X10_47 dX10_tries_24 (fun x9 _ => ?_)
  refine j_iload_n (pc := 27) (p := 0) rfl rfl dX10_tries_27 ?_
  refine j_iald (pc := 28) dX10_tries_28 (fun x10 _ => ?_)
  refine j_iload_n (pc := 29) (p := 2) rfl rfl dX10_tries_29 ?_
  refine j_cVi (pc := 30) Y_X10_greater (ci := 9) (b := v0) rfl rfl ml_X10_119 im_X10_greater se_X10_greater ⟨Nat.le_of_ble_eq_true rfl, Nat.le_of_ble_eq_true rfl⟩ dX10_tries_30 (As := [.int x10, .int v1]) (rest := [.ref v0]) rfl rfl (Nat.le_of_ble_eq_true rfl) (fun x hq9 => c_X10_greater _ _ _ _ _ hq9) (fun q11 _ => ?_)
  refine j_goto (pc := 33) (tgt := 37) dX10_tries_33 (by decide) ?_
  refine j_sub [1, 2, 3, 0] (lv' := [(0, .ref v0), (1, .int v1), (2, .int v2), (3, .int q7.2)]) rfl ?_
  exact jb_X10_tries_37 _ _ _ _ _ _ _
set_option maxRecDepth 20000 in
set_option maxHeartbeats 1000000 in
theorem c_X10_tries {G : q_G} {l : Launch} : ∀ (h : q_H) (a0 : Nat) (a1 : Int32) (a2 : Int32) (q : q_H × Unit), f_X10_tries h a0 a1 a2 = some q → (∃ fs, h.1 a0 = .inr (9, fs)) ∧ q_CT G l yX10_tries cX10_tries 4 none 5 118 [.ref a0, .int a1, .int a2] h q.1 (q_u q.2) := by
  intro h a0 a1 a2 q e
  obtain ⟨e1, e2⟩ := q_chk_ok e
  exact ⟨e1, q_ofJ Y_X10_tries (Nat.le_of_ble_eq_true rfl) (jb_X10_tries_0 h a0 a1 a2) q e2⟩
/-! FarFoldersModel.keepsList(I)V -/
theorem dX10_keepsList_0 : decode cX10_keepsList 0 = .ok (.aload_n 0, 1) := by decide +kernel
theorem dX10_keepsList_1 : decode cX10_keepsList 1 = .ok (.getfield 47, 3) := by decide +kernel
theorem dX10_keepsList_4 : decode cX10_keepsList 4 = .ok (.sipush 180, 3) := by decide +kernel
theorem dX10_keepsList_7 : decode cX10_keepsList 7 = .ok (.iload_n 1, 1) := by decide +kernel
theorem dX10_keepsList_8 : decode cX10_keepsList 8 = .ok (.iadd, 1) := by decide +kernel
theorem dX10_keepsList_9 : decode cX10_keepsList 9 = .ok (.aload_n 0, 1) := by decide +kernel
theorem dX10_keepsList_10 : decode cX10_keepsList 10 = .ok (.getfield 105, 3) := by decide +kernel
theorem dX10_keepsList_13 : decode cX10_keepsList 13 = .ok (.iastore, 1) := by decide +kernel
theorem dX10_keepsList_14 : decode cX10_keepsList 14 = .ok (.iconst 0, 1) := by decide +kernel
theorem dX10_keepsList_15 : decode cX10_keepsList 15 = .ok (.istore_n 2, 1) := by decide +kernel
theorem dX10_keepsList_16 : decode cX10_keepsList 16 = .ok (.iload_n 2, 1) := by decide +kernel
theorem dX10_keepsList_17 : decode cX10_keepsList 17 = .ok (.iconst 5, 1) := by decide +kernel
theorem dX10_keepsList_18 : decode cX10_keepsList 18 = .ok (.aload_n 0, 1) := by decide +kernel
theorem dX10_keepsList_19 : decode cX10_keepsList 19 = .ok (.getfield 105, 3) := by decide +kernel
theorem dX10_keepsList_22 : decode cX10_keepsList 22 = .ok (.imul, 1) := by decide +kernel
theorem dX10_keepsList_23 : decode cX10_keepsList 23 = .ok (.if_icmp .ge 27, 3) := by decide +kernel
theorem dX10_keepsList_26 : decode cX10_keepsList 26 = .ok (.aload_n 0, 1) := by decide +kernel
theorem dX10_keepsList_27 : decode cX10_keepsList 27 = .ok (.getfield 47, 3) := by decide +kernel
theorem dX10_keepsList_30 : decode cX10_keepsList 30 = .ok (.iload_n 1, 1) := by decide +kernel
theorem dX10_keepsList_31 : decode cX10_keepsList 31 = .ok (.iconst 0, 1) := by decide +kernel
theorem dX10_keepsList_32 : decode cX10_keepsList 32 = .ok (.invokestatic 108, 3) := by decide +kernel
theorem dX10_keepsList_35 : decode cX10_keepsList 35 = .ok (.iload_n 2, 1) := by decide +kernel
theorem dX10_keepsList_36 : decode cX10_keepsList 36 = .ok (.iadd, 1) := by decide +kernel
theorem dX10_keepsList_37 : decode cX10_keepsList 37 = .ok (.aload_n 0, 1) := by decide +kernel
theorem dX10_keepsList_38 : decode cX10_keepsList 38 = .ok (.getfield 50, 3) := by decide +kernel
theorem dX10_keepsList_41 : decode cX10_keepsList 41 = .ok (.iload_n 2, 1) := by decide +kernel
theorem dX10_keepsList_42 : decode cX10_keepsList 42 = .ok (.iaload, 1) := by decide +kernel
theorem dX10_keepsList_43 : decode cX10_keepsList 43 = .ok (.iastore, 1) := by decide +kernel
theorem dX10_keepsList_44 : decode cX10_keepsList 44 = .ok (.iinc 2 1, 3) := by decide +kernel
theorem dX10_keepsList_47 : decode cX10_keepsList 47 = .ok (.goto (-31), 3) := by decide +kernel
theorem dX10_keepsList_50 : decode cX10_keepsList 50 = .ok (.return_, 1) := by decide +kernel
def b_X10_keepsList_16 (k16 : q_H → Nat → Int32 → Int32 → Option (q_H × Unit)) (h : q_H) (v0 : Nat) (v1 : Int32) (v2 : Int32) : Option (q_H × Unit) :=
  Option.bind (q_gI 9 9 h v0) (fun x1 => if ((5) * x1) ≤ v2 then some (h, ()) else Option.bind (q_gR 9 7 h v0) (fun x2 => Option.bind (f_X10_moveOf h v1 (0)) (fun q3 => Option.bind (q_gR 9 8 q3.1 v0) (fun x4 => Option.bind (q_lI 0 q3.1 x4 v2) (fun x5 => Option.bind (q_sI 0 id q3.1 x2 (q3.2 + v2) x5) (fun h6 => k16 h6 v0 v1 (v2 + 1)))))))
def l_X10_keepsList_16 : Nat → q_H → Nat → Int32 → Int32 → Option (q_H × Unit)
  | 0, _, _, _, _ => none
  | n + 1, h, v0, v1, v2 => b_X10_keepsList_16 (l_X10_keepsList_16 n) h v0 v1 v2
def b_X10_keepsList_0 (h : q_H) (v0 : Nat) (v1 : Int32) : Option (q_H × Unit) :=
  Option.bind (q_gR 9 7 h v0) (fun x7 => Option.bind (q_gI 9 9 h v0) (fun x8 => Option.bind (q_sI 0 id h x7 ((180) + v1) x8) (fun h9 => l_X10_keepsList_16 q_FU h9 v0 v1 (0))))
def f_X10_keepsList (h : q_H) (a0 : Nat) (a1 : Int32) : Option (q_H × Unit) := q_chk 9 h a0 (b_X10_keepsList_0 h a0 a1)
set_option maxRecDepth 20000 in
set_option maxHeartbeats 1000000 in
theorem jb_X10_keepsList_16 {G : q_G} {l : Launch} {k0 z0 : Nat} (k16 : q_H → Nat → Int32 → Int32 → Option (q_H × Unit)) (hk16 : ∀ (h : q_H) (v0 : Nat) (v1 : Int32) (v2 : Int32), q_J G l (RX10, cX10_keepsList, 3, 1, 21, none, "keepsList", []) k0 z0 (q_Z G k0 z0 q_u) 16 [(0, .ref v0), (1, .int v1), (2, .int v2)] [] h (k16 h v0 v1 v2)) (h : q_H) (v0 : Nat) (v1 : Int32) (v2 : Int32) : q_J G l (RX10, cX10_keepsList, 3, 1, 21, none, "keepsList", []) k0 z0 (q_Z G k0 z0 q_u) 16 [(0, .ref v0), (1, .int v1), (2, .int v2)] [] h (b_X10_keepsList_16 k16 h v0 v1 v2) := by
  unfold b_X10_keepsList_16
  refine j_iload_n (pc := 16) (p := 2) rfl rfl dX10_keepsList_16 ?_
  refine j_iconst (pc := 17) ki_5 dX10_keepsList_17 ?_
  refine j_aload_n (pc := 18) (p := 0) rfl rfl dX10_keepsList_18 ?_
  refine j_getI (pc := 19) FI_X10 (k := 9) (by decide) fl_X10_105 dX10_keepsList_19 (fun x1 _ => ?_)
  refine j_imul (pc := 22) dX10_keepsList_22 ?_
  refine j_ic_ge (pc := 23) (tgt := 50) dX10_keepsList_23 (by decide) (fun _ => ?_) (fun _ => ?_)
  · exact j_vret (pc := 50) rfl dX10_keepsList_50
  refine j_aload_n (pc := 26) (p := 0) rfl rfl dX10_keepsList_26 ?_
  refine j_getR (pc := 27) FI_X10 (k := 7) (by decide) fl_X10_47 dX10_keepsList_27 (fun x2 _ => ?_)
  refine j_iload_n (pc := 30) (p := 1) rfl rfl dX10_keepsList_30 ?_
  refine j_iconst (pc := 31) ki_0 dX10_keepsList_31 ?_
  refine j_cSi (pc := 32) Y_X10_moveOf ml_X10_108 sm_X10_moveOf ⟨Nat.le_of_ble_eq_true rfl, Nat.le_of_ble_eq_true rfl⟩ dX10_keepsList_32 (As := [.int v1, .int (0)]) (rest := [.ref x2]) rfl rfl (Nat.le_of_ble_eq_true rfl) (fun x hq9 => c_X10_moveOf _ _ _ _ hq9) (fun q3 _ => ?_)
  refine j_iload_n (pc := 35) (p := 2) rfl rfl dX10_keepsList_35 ?_
  refine j_iadd (pc := 36) dX10_keepsList_36 ?_
  refine j_aload_n (pc := 37) (p := 0) rfl rfl dX10_keepsList_37 ?_
  refine j_getR (pc := 38) FI_X10 (k := 8) (by decide) fl_X10_50 dX10_keepsList_38 (fun x4 _ => ?_)
  refine j_iload_n (pc := 41) (p := 2) rfl rfl dX10_keepsList_41 ?_
  refine j_iald (pc := 42) dX10_keepsList_42 (fun x5 _ => ?_)
  refine j_iast (pc := 43) dX10_keepsList_43 (fun h6 _ => ?_)
  refine j_inc (pc := 44) (p := 2) (lv' := [(2, .int (v2 + 1)), (0, .ref v0), (1, .int v1)]) rfl ki_1 (by decide) rfl dX10_keepsList_44 ?_
  refine j_goto (pc := 47) (tgt := 16) dX10_keepsList_47 (by decide) ?_
  refine j_sub [1, 2, 0] (lv' := [(0, .ref v0), (1, .int v1), (2, .int (v2 + 1))]) rfl ?_
  exact hk16 _ _ _ _
set_option maxRecDepth 20000 in
set_option maxHeartbeats 1000000 in
theorem jl_X10_keepsList_16 {G : q_G} {l : Launch} {k0 z0 : Nat} (n : Nat) : ∀ (h : q_H) (v0 : Nat) (v1 : Int32) (v2 : Int32), q_J G l (RX10, cX10_keepsList, 3, 1, 21, none, "keepsList", []) k0 z0 (q_Z G k0 z0 q_u) 16 [(0, .ref v0), (1, .int v1), (2, .int v2)] [] h (l_X10_keepsList_16 n h v0 v1 v2) := by
  induction n with
  | zero => intro h v0 v1 v2; exact j_none
  | succ n ih => intro h v0 v1 v2; exact jb_X10_keepsList_16 (l_X10_keepsList_16 n) ih h v0 v1 v2
set_option maxRecDepth 20000 in
set_option maxHeartbeats 1000000 in
theorem jb_X10_keepsList_0 {G : q_G} {l : Launch} {k0 z0 : Nat} (h : q_H) (v0 : Nat) (v1 : Int32) : q_J G l (RX10, cX10_keepsList, 3, 1, 21, none, "keepsList", []) k0 z0 (q_Z G k0 z0 q_u) 0 [(0, .ref v0), (1, .int v1)] [] h (b_X10_keepsList_0 h v0 v1) := by
  unfold b_X10_keepsList_0
  refine j_aload_n (pc := 0) (p := 0) rfl rfl dX10_keepsList_0 ?_
  refine j_getR (pc := 1) FI_X10 (k := 7) (by decide) fl_X10_47 dX10_keepsList_1 (fun x7 _ => ?_)
  refine j_sipush (pc := 4) ks_180 dX10_keepsList_4 ?_
  refine j_iload_n (pc := 7) (p := 1) rfl rfl dX10_keepsList_7 ?_
  refine j_iadd (pc := 8) dX10_keepsList_8 ?_
  refine j_aload_n (pc := 9) (p := 0) rfl rfl dX10_keepsList_9 ?_
  refine j_getI (pc := 10) FI_X10 (k := 9) (by decide) fl_X10_105 dX10_keepsList_10 (fun x8 _ => ?_)
  refine j_iast (pc := 13) dX10_keepsList_13 (fun h9 _ => ?_)
  refine j_iconst (pc := 14) ki_0 dX10_keepsList_14 ?_
  refine j_istore_n (pc := 15) (lv' := [(2, .int (0)), (0, .ref v0), (1, .int v1)]) rfl (by decide) rfl dX10_keepsList_15 ?_
  refine j_sub [1, 2, 0] (lv' := [(0, .ref v0), (1, .int v1), (2, .int (0))]) rfl ?_
  exact jl_X10_keepsList_16 q_FU _ _ _ _
set_option maxRecDepth 20000 in
set_option maxHeartbeats 1000000 in
theorem c_X10_keepsList {G : q_G} {l : Launch} : ∀ (h : q_H) (a0 : Nat) (a1 : Int32) (q : q_H × Unit), f_X10_keepsList h a0 a1 = some q → (∃ fs, h.1 a0 = .inr (9, fs)) ∧ q_CT G l yX10_keepsList cX10_keepsList 3 none 1 21 [.ref a0, .int a1] h q.1 (q_u q.2) := by
  intro h a0 a1 q e
  obtain ⟨e1, e2⟩ := q_chk_ok e
  exact ⟨e1, q_ofJ Y_X10_keepsList (Nat.le_of_ble_eq_true rfl) (jb_X10_keepsList_0 h a0 a1) q e2⟩
/-! FarFoldersModel.hears(II)V -/
theorem dX10_hears_0 : decode cX10_hears 0 = .ok (.aload_n 0, 1) := by decide +kernel
theorem dX10_hears_1 : decode cX10_hears 1 = .ok (.getfield 47, 3) := by decide +kernel
theorem dX10_hears_4 : decode cX10_hears 4 = .ok (.iload_n 1, 1) := by decide +kernel
theorem dX10_hears_5 : decode cX10_hears 5 = .ok (.iload_n 2, 1) := by decide +kernel
theorem dX10_hears_6 : decode cX10_hears 6 = .ok (.iconst 0, 1) := by decide +kernel
theorem dX10_hears_7 : decode cX10_hears 7 = .ok (.invokestatic 176, 3) := by decide +kernel
theorem dX10_hears_10 : decode cX10_hears 10 = .ok (.iaload, 1) := by decide +kernel
theorem dX10_hears_11 : decode cX10_hears 11 = .ok (.istore_n 3, 1) := by decide +kernel
theorem dX10_hears_12 : decode cX10_hears 12 = .ok (.aload_n 0, 1) := by decide +kernel
theorem dX10_hears_13 : decode cX10_hears 13 = .ok (.getfield 47, 3) := by decide +kernel
theorem dX10_hears_16 : decode cX10_hears 16 = .ok (.iload_n 2, 1) := by decide +kernel
theorem dX10_hears_17 : decode cX10_hears 17 = .ok (.aload_n 0, 1) := by decide +kernel
theorem dX10_hears_18 : decode cX10_hears 18 = .ok (.getfield 47, 3) := by decide +kernel
theorem dX10_hears_21 : decode cX10_hears 21 = .ok (.iload_n 2, 1) := by decide +kernel
theorem dX10_hears_22 : decode cX10_hears 22 = .ok (.iaload, 1) := by decide +kernel
theorem dX10_hears_23 : decode cX10_hears 23 = .ok (.iload_n 3, 1) := by decide +kernel
theorem dX10_hears_24 : decode cX10_hears 24 = .ok (.invokestatic 209, 3) := by decide +kernel
theorem dX10_hears_27 : decode cX10_hears 27 = .ok (.iastore, 1) := by decide +kernel
theorem dX10_hears_28 : decode cX10_hears 28 = .ok (.aload_n 0, 1) := by decide +kernel
theorem dX10_hears_29 : decode cX10_hears 29 = .ok (.getfield 47, 3) := by decide +kernel
theorem dX10_hears_32 : decode cX10_hears 32 = .ok (.iconst 3, 1) := by decide +kernel
theorem dX10_hears_33 : decode cX10_hears 33 = .ok (.iload_n 2, 1) := by decide +kernel
theorem dX10_hears_34 : decode cX10_hears 34 = .ok (.iload_n 1, 1) := by decide +kernel
theorem dX10_hears_35 : decode cX10_hears 35 = .ok (.invokestatic 94, 3) := by decide +kernel
theorem dX10_hears_38 : decode cX10_hears 38 = .ok (.iadd, 1) := by decide +kernel
theorem dX10_hears_39 : decode cX10_hears 39 = .ok (.iload_n 3, 1) := by decide +kernel
theorem dX10_hears_40 : decode cX10_hears 40 = .ok (.iastore, 1) := by decide +kernel
theorem dX10_hears_41 : decode cX10_hears 41 = .ok (.sipush 483, 3) := by decide +kernel
theorem dX10_hears_44 : decode cX10_hears 44 = .ok (.iload_n 1, 1) := by decide +kernel
theorem dX10_hears_45 : decode cX10_hears 45 = .ok (.iload_n 2, 1) := by decide +kernel
theorem dX10_hears_46 : decode cX10_hears 46 = .ok (.invokestatic 94, 3) := by decide +kernel
theorem dX10_hears_49 : decode cX10_hears 49 = .ok (.iadd, 1) := by decide +kernel
theorem dX10_hears_50 : decode cX10_hears 50 = .ok (.istore 4, 2) := by decide +kernel
theorem dX10_hears_52 : decode cX10_hears 52 = .ok (.aload_n 0, 1) := by decide +kernel
theorem dX10_hears_53 : decode cX10_hears 53 = .ok (.getfield 47, 3) := by decide +kernel
theorem dX10_hears_56 : decode cX10_hears 56 = .ok (.iload 4, 2) := by decide +kernel
theorem dX10_hears_58 : decode cX10_hears 58 = .ok (.dup2, 1) := by decide +kernel
theorem dX10_hears_59 : decode cX10_hears 59 = .ok (.iaload, 1) := by decide +kernel
theorem dX10_hears_60 : decode cX10_hears 60 = .ok (.iconst 1, 1) := by decide +kernel
theorem dX10_hears_61 : decode cX10_hears 61 = .ok (.isub, 1) := by decide +kernel
theorem dX10_hears_62 : decode cX10_hears 62 = .ok (.iastore, 1) := by decide +kernel
theorem dX10_hears_63 : decode cX10_hears 63 = .ok (.iconst 0, 1) := by decide +kernel
theorem dX10_hears_64 : decode cX10_hears 64 = .ok (.istore 5, 2) := by decide +kernel
theorem dX10_hears_66 : decode cX10_hears 66 = .ok (.iload 5, 2) := by decide +kernel
theorem dX10_hears_68 : decode cX10_hears 68 = .ok (.iconst 4, 1) := by decide +kernel
theorem dX10_hears_69 : decode cX10_hears 69 = .ok (.aload_n 0, 1) := by decide +kernel
theorem dX10_hears_70 : decode cX10_hears 70 = .ok (.getfield 47, 3) := by decide +kernel
theorem dX10_hears_73 : decode cX10_hears 73 = .ok (.iload 4, 2) := by decide +kernel
theorem dX10_hears_75 : decode cX10_hears 75 = .ok (.iaload, 1) := by decide +kernel
theorem dX10_hears_76 : decode cX10_hears 76 = .ok (.imul, 1) := by decide +kernel
theorem dX10_hears_77 : decode cX10_hears 77 = .ok (.if_icmp .ge 37, 3) := by decide +kernel
theorem dX10_hears_80 : decode cX10_hears 80 = .ok (.aload_n 0, 1) := by decide +kernel
theorem dX10_hears_81 : decode cX10_hears 81 = .ok (.getfield 47, 3) := by decide +kernel
theorem dX10_hears_84 : decode cX10_hears 84 = .ok (.iload_n 1, 1) := by decide +kernel
theorem dX10_hears_85 : decode cX10_hears 85 = .ok (.iload_n 2, 1) := by decide +kernel
theorem dX10_hears_86 : decode cX10_hears 86 = .ok (.iconst 0, 1) := by decide +kernel
theorem dX10_hears_87 : decode cX10_hears 87 = .ok (.invokestatic 176, 3) := by decide +kernel
theorem dX10_hears_90 : decode cX10_hears 90 = .ok (.iload 5, 2) := by decide +kernel
theorem dX10_hears_92 : decode cX10_hears 92 = .ok (.iadd, 1) := by decide +kernel
theorem dX10_hears_93 : decode cX10_hears 93 = .ok (.aload_n 0, 1) := by decide +kernel
theorem dX10_hears_94 : decode cX10_hears 94 = .ok (.getfield 47, 3) := by decide +kernel
theorem dX10_hears_97 : decode cX10_hears 97 = .ok (.iload_n 1, 1) := by decide +kernel
theorem dX10_hears_98 : decode cX10_hears 98 = .ok (.iload_n 2, 1) := by decide +kernel
theorem dX10_hears_99 : decode cX10_hears 99 = .ok (.iconst 1, 1) := by decide +kernel
theorem dX10_hears_100 : decode cX10_hears 100 = .ok (.invokestatic 176, 3) := by decide +kernel
theorem dX10_hears_103 : decode cX10_hears 103 = .ok (.iload 5, 2) := by decide +kernel
theorem dX10_hears_105 : decode cX10_hears 105 = .ok (.iadd, 1) := by decide +kernel
theorem dX10_hears_106 : decode cX10_hears 106 = .ok (.iaload, 1) := by decide +kernel
theorem dX10_hears_107 : decode cX10_hears 107 = .ok (.iastore, 1) := by decide +kernel
theorem dX10_hears_108 : decode cX10_hears 108 = .ok (.iinc 5 1, 3) := by decide +kernel
theorem dX10_hears_111 : decode cX10_hears 111 = .ok (.goto (-45), 3) := by decide +kernel
theorem dX10_hears_114 : decode cX10_hears 114 = .ok (.return_, 1) := by decide +kernel
def b_X10_hears_66 (k66 : q_H → Nat → Int32 → Int32 → Int32 → Int32 → Option (q_H × Unit)) (h : q_H) (v0 : Nat) (v1 : Int32) (v2 : Int32) (v4 : Int32) (v5 : Int32) : Option (q_H × Unit) :=
  Option.bind (q_gR 9 7 h v0) (fun x1 => Option.bind (q_lI 0 h x1 v4) (fun x2 => if ((4) * x2) ≤ v5 then some (h, ()) else Option.bind (q_gR 9 7 h v0) (fun x3 => Option.bind (f_X10_letterOf h v1 v2 (0)) (fun q4 => Option.bind (q_gR 9 7 q4.1 v0) (fun x5 => Option.bind (f_X10_letterOf q4.1 v1 v2 (1)) (fun q6 => Option.bind (q_lI 0 q6.1 x5 (q6.2 + v5)) (fun x7 => Option.bind (q_sI 0 id q6.1 x3 (q4.2 + v5) x7) (fun h8 => k66 h8 v0 v1 v2 v4 (v5 + 1)))))))))
def l_X10_hears_66 : Nat → q_H → Nat → Int32 → Int32 → Int32 → Int32 → Option (q_H × Unit)
  | 0, _, _, _, _, _, _ => none
  | n + 1, h, v0, v1, v2, v4, v5 => b_X10_hears_66 (l_X10_hears_66 n) h v0 v1 v2 v4 v5
def b_X10_hears_0 (h : q_H) (v0 : Nat) (v1 : Int32) (v2 : Int32) : Option (q_H × Unit) :=
  Option.bind (q_gR 9 7 h v0) (fun x9 => Option.bind (f_X10_letterOf h v1 v2 (0)) (fun q10 => Option.bind (q_lI 0 q10.1 x9 q10.2) (fun x11 => Option.bind (q_gR 9 7 q10.1 v0) (fun x12 => Option.bind (q_gR 9 7 q10.1 v0) (fun x13 => Option.bind (q_lI 0 q10.1 x13 v2) (fun x14 => Option.bind (q_sI 0 id q10.1 x12 v2 (q_max x14 x11)) (fun h15 => Option.bind (q_gR 9 7 h15 v0) (fun x16 => Option.bind (f_X10_wayOf h15 v2 v1) (fun q17 => Option.bind (q_sI 0 id q17.1 x16 ((3) + q17.2) x11) (fun h18 => Option.bind (f_X10_wayOf h18 v1 v2) (fun q19 => Option.bind (q_gR 9 7 q19.1 v0) (fun x20 => Option.bind (q_lI 0 q19.1 x20 ((483) + q19.2)) (fun x21 => Option.bind (q_sI 0 id q19.1 x20 ((483) + q19.2) (x21 - (1))) (fun h22 => l_X10_hears_66 q_FU h22 v0 v1 v2 ((483) + q19.2) (0)))))))))))))))
def f_X10_hears (h : q_H) (a0 : Nat) (a1 : Int32) (a2 : Int32) : Option (q_H × Unit) := q_chk 9 h a0 (b_X10_hears_0 h a0 a1 a2)
set_option maxRecDepth 20000 in
set_option maxHeartbeats 1000000 in
theorem jb_X10_hears_66 {G : q_G} {l : Launch} {k0 z0 : Nat} (k66 : q_H → Nat → Int32 → Int32 → Int32 → Int32 → Option (q_H × Unit)) (hk66 : ∀ (h : q_H) (v0 : Nat) (v1 : Int32) (v2 : Int32) (v4 : Int32) (v5 : Int32), q_J G l (RX10, cX10_hears, 6, 2, 60, none, "hears", []) k0 z0 (q_Z G k0 z0 q_u) 66 [(0, .ref v0), (1, .int v1), (2, .int v2), (4, .int v4), (5, .int v5)] [] h (k66 h v0 v1 v2 v4 v5)) (h : q_H) (v0 : Nat) (v1 : Int32) (v2 : Int32) (v4 : Int32) (v5 : Int32) : q_J G l (RX10, cX10_hears, 6, 2, 60, none, "hears", []) k0 z0 (q_Z G k0 z0 q_u) 66 [(0, .ref v0), (1, .int v1), (2, .int v2), (4, .int v4), (5, .int v5)] [] h (b_X10_hears_66 k66 h v0 v1 v2 v4 v5) := by
  unfold b_X10_hears_66
  refine j_iload (pc := 66) (p := 4) rfl dX10_hears_66 ?_
  refine j_iconst (pc := 68) ki_4 dX10_hears_68 ?_
  refine j_aload_n (pc := 69) (p := 0) rfl rfl dX10_hears_69 ?_
  refine j_getR (pc := 70) FI_X10 (k := 7) (by decide) fl_X10_47 dX10_hears_70 (fun x1 _ => ?_)
  refine j_iload (pc := 73) (p := 3) rfl dX10_hears_73 ?_
  refine j_iald (pc := 75) dX10_hears_75 (fun x2 _ => ?_)
  refine j_imul (pc := 76) dX10_hears_76 ?_
  refine j_ic_ge (pc := 77) (tgt := 114) dX10_hears_77 (by decide) (fun _ => ?_) (fun _ => ?_)
  · exact j_vret (pc := 114) rfl dX10_hears_114
  refine j_aload_n (pc := 80) (p := 0) rfl rfl dX10_hears_80 ?_
  refine j_getR (pc := 81) FI_X10 (k := 7) (by decide) fl_X10_47 dX10_hears_81 (fun x3 _ => ?_)
  refine j_iload_n (pc := 84) (p := 1) rfl rfl dX10_hears_84 ?_
  refine j_iload_n (pc := 85) (p := 2) rfl rfl dX10_hears_85 ?_
  refine j_iconst (pc := 86) ki_0 dX10_hears_86 ?_
  refine j_cSi (pc := 87) Y_X10_letterOf ml_X10_176 sm_X10_letterOf ⟨Nat.le_of_ble_eq_true rfl, Nat.le_of_ble_eq_true rfl⟩ dX10_hears_87 (As := [.int v1, .int v2, .int (0)]) (rest := [.ref x3]) rfl rfl (Nat.le_of_ble_eq_true rfl) (fun x hq9 => c_X10_letterOf _ _ _ _ _ hq9) (fun q4 _ => ?_)
  refine j_iload (pc := 90) (p := 4) rfl dX10_hears_90 ?_
  refine j_iadd (pc := 92) dX10_hears_92 ?_
  refine j_aload_n (pc := 93) (p := 0) rfl rfl dX10_hears_93 ?_
  refine j_getR (pc := 94) FI_X10 (k := 7) (by decide) fl_X10_47 dX10_hears_94 (fun x5 _ => ?_)
  refine j_iload_n (pc := 97) (p := 1) rfl rfl dX10_hears_97 ?_
  refine j_iload_n (pc := 98) (p := 2) rfl rfl dX10_hears_98 ?_
  refine j_iconst (pc := 99) ki_1 dX10_hears_99 ?_
  refine j_cSi (pc := 100) Y_X10_letterOf ml_X10_176 sm_X10_letterOf ⟨Nat.le_of_ble_eq_true rfl, Nat.le_of_ble_eq_true rfl⟩ dX10_hears_100 (As := [.int v1, .int v2, .int (1)]) (rest := [.ref x5, .int (q4.2 + v5), .ref x3]) rfl rfl (Nat.le_of_ble_eq_true rfl) (fun x hq9 => c_X10_letterOf _ _ _ _ _ hq9) (fun q6 _ => ?_)
  refine j_iload (pc := 103) (p := 4) rfl dX10_hears_103 ?_
  refine j_iadd (pc := 105) dX10_hears_105 ?_
  refine j_iald (pc := 106) dX10_hears_106 (fun x7 _ => ?_)
  refine j_iast (pc := 107) dX10_hears_107 (fun h8 _ => ?_)
  refine j_inc (pc := 108) (p := 4) (lv' := [(5, .int (v5 + 1)), (0, .ref v0), (1, .int v1), (2, .int v2), (4, .int v4)]) rfl ki_1 (by decide) rfl dX10_hears_108 ?_
  refine j_goto (pc := 111) (tgt := 66) dX10_hears_111 (by decide) ?_
  refine j_sub [1, 2, 3, 4, 0] (lv' := [(0, .ref v0), (1, .int v1), (2, .int v2), (4, .int v4), (5, .int (v5 + 1))]) rfl ?_
  exact hk66 _ _ _ _ _ _
set_option maxRecDepth 20000 in
set_option maxHeartbeats 1000000 in
theorem jl_X10_hears_66 {G : q_G} {l : Launch} {k0 z0 : Nat} (n : Nat) : ∀ (h : q_H) (v0 : Nat) (v1 : Int32) (v2 : Int32) (v4 : Int32) (v5 : Int32), q_J G l (RX10, cX10_hears, 6, 2, 60, none, "hears", []) k0 z0 (q_Z G k0 z0 q_u) 66 [(0, .ref v0), (1, .int v1), (2, .int v2), (4, .int v4), (5, .int v5)] [] h (l_X10_hears_66 n h v0 v1 v2 v4 v5) := by
  induction n with
  | zero => intro h v0 v1 v2 v4 v5; exact j_none
  | succ n ih => intro h v0 v1 v2 v4 v5; exact jb_X10_hears_66 (l_X10_hears_66 n) ih h v0 v1 v2 v4 v5
set_option maxRecDepth 20000 in
set_option maxHeartbeats 1000000 in
theorem jb_X10_hears_0 {G : q_G} {l : Launch} {k0 z0 : Nat} (h : q_H) (v0 : Nat) (v1 : Int32) (v2 : Int32) : q_J G l (RX10, cX10_hears, 6, 2, 60, none, "hears", []) k0 z0 (q_Z G k0 z0 q_u) 0 [(0, .ref v0), (1, .int v1), (2, .int v2)] [] h (b_X10_hears_0 h v0 v1 v2) := by
  unfold b_X10_hears_0
  refine j_aload_n (pc := 0) (p := 0) rfl rfl dX10_hears_0 ?_
  refine j_getR (pc := 1) FI_X10 (k := 7) (by decide) fl_X10_47 dX10_hears_1 (fun x9 _ => ?_)
  refine j_iload_n (pc := 4) (p := 1) rfl rfl dX10_hears_4 ?_
  refine j_iload_n (pc := 5) (p := 2) rfl rfl dX10_hears_5 ?_
  refine j_iconst (pc := 6) ki_0 dX10_hears_6 ?_
  refine j_cSi (pc := 7) Y_X10_letterOf ml_X10_176 sm_X10_letterOf ⟨Nat.le_of_ble_eq_true rfl, Nat.le_of_ble_eq_true rfl⟩ dX10_hears_7 (As := [.int v1, .int v2, .int (0)]) (rest := [.ref x9]) rfl rfl (Nat.le_of_ble_eq_true rfl) (fun x hq9 => c_X10_letterOf _ _ _ _ _ hq9) (fun q10 _ => ?_)
  refine j_iald (pc := 10) dX10_hears_10 (fun x11 _ => ?_)
  refine j_istore_n (pc := 11) (lv' := [(3, .int x11), (0, .ref v0), (1, .int v1), (2, .int v2)]) rfl (by decide) rfl dX10_hears_11 ?_
  refine j_aload_n (pc := 12) (p := 1) rfl rfl dX10_hears_12 ?_
  refine j_getR (pc := 13) FI_X10 (k := 7) (by decide) fl_X10_47 dX10_hears_13 (fun x12 _ => ?_)
  refine j_iload_n (pc := 16) (p := 3) rfl rfl dX10_hears_16 ?_
  refine j_aload_n (pc := 17) (p := 1) rfl rfl dX10_hears_17 ?_
  refine j_getR (pc := 18) FI_X10 (k := 7) (by decide) fl_X10_47 dX10_hears_18 (fun x13 _ => ?_)
  refine j_iload_n (pc := 21) (p := 3) rfl rfl dX10_hears_21 ?_
  refine j_iald (pc := 22) dX10_hears_22 (fun x14 _ => ?_)
  refine j_iload_n (pc := 23) (p := 0) rfl rfl dX10_hears_23 ?_
  refine j_max (pc := 24) ml_X10_209 sm_max ini_Math co_max ⟨Nat.le_of_ble_eq_true rfl, Nat.le_of_ble_eq_true rfl⟩ dX10_hears_24 ?_
  refine j_iast (pc := 27) dX10_hears_27 (fun h15 _ => ?_)
  refine j_aload_n (pc := 28) (p := 1) rfl rfl dX10_hears_28 ?_
  refine j_getR (pc := 29) FI_X10 (k := 7) (by decide) fl_X10_47 dX10_hears_29 (fun x16 _ => ?_)
  refine j_iconst (pc := 32) ki_3 dX10_hears_32 ?_
  refine j_iload_n (pc := 33) (p := 3) rfl rfl dX10_hears_33 ?_
  refine j_iload_n (pc := 34) (p := 2) rfl rfl dX10_hears_34 ?_
  refine j_cSi (pc := 35) Y_X10_wayOf ml_X10_94 sm_X10_wayOf ⟨Nat.le_of_ble_eq_true rfl, Nat.le_of_ble_eq_true rfl⟩ dX10_hears_35 (As := [.int v2, .int v1]) (rest := [.int (3), .ref x16]) rfl rfl (Nat.le_of_ble_eq_true rfl) (fun x hq9 => c_X10_wayOf _ _ _ _ hq9) (fun q17 _ => ?_)
  refine j_iadd (pc := 38) dX10_hears_38 ?_
  refine j_iload_n (pc := 39) (p := 0) rfl rfl dX10_hears_39 ?_
  refine j_iast (pc := 40) dX10_hears_40 (fun h18 _ => ?_)
  refine j_sipush (pc := 41) ks_483 dX10_hears_41 ?_
  refine j_iload_n (pc := 44) (p := 2) rfl rfl dX10_hears_44 ?_
  refine j_iload_n (pc := 45) (p := 3) rfl rfl dX10_hears_45 ?_
  refine j_cSi (pc := 46) Y_X10_wayOf ml_X10_94 sm_X10_wayOf ⟨Nat.le_of_ble_eq_true rfl, Nat.le_of_ble_eq_true rfl⟩ dX10_hears_46 (As := [.int v1, .int v2]) (rest := [.int (483)]) rfl rfl (Nat.le_of_ble_eq_true rfl) (fun x hq9 => c_X10_wayOf _ _ _ _ hq9) (fun q19 _ => ?_)
  refine j_iadd (pc := 49) dX10_hears_49 ?_
  refine j_istore (pc := 50) (lv' := [(4, .int ((483) + q19.2)), (3, .int x11), (0, .ref v0), (1, .int v1), (2, .int v2)]) (by decide) rfl dX10_hears_50 ?_
  refine j_aload_n (pc := 52) (p := 2) rfl rfl dX10_hears_52 ?_
  refine j_getR (pc := 53) FI_X10 (k := 7) (by decide) fl_X10_47 dX10_hears_53 (fun x20 _ => ?_)
  refine j_iload (pc := 56) (p := 0) rfl dX10_hears_56 ?_
  refine j_dup2 (pc := 58) rfl rfl dX10_hears_58 ?_
  refine j_iald (pc := 59) dX10_hears_59 (fun x21 _ => ?_)
  refine j_iconst (pc := 60) ki_1 dX10_hears_60 ?_
  refine j_isub (pc := 61) dX10_hears_61 ?_
  refine j_iast (pc := 62) dX10_hears_62 (fun h22 _ => ?_)
  refine j_iconst (pc := 63) ki_0 dX10_hears_63 ?_
  refine j_istore (pc := 64) (lv' := [(5, .int (0)), (4, .int ((483) + q19.2)), (3, .int x11), (0, .ref v0), (1, .int v1), (2, .int v2)]) (by decide) rfl dX10_hears_64 ?_
  refine j_sub [3, 4, 5, 1, 0] (lv' := [(0, .ref v0), (1, .int v1), (2, .int v2), (4, .int ((483) + q19.2)), (5, .int (0))]) rfl ?_
  exact jl_X10_hears_66 q_FU _ _ _ _ _ _
set_option maxRecDepth 20000 in
set_option maxHeartbeats 1000000 in
theorem c_X10_hears {G : q_G} {l : Launch} : ∀ (h : q_H) (a0 : Nat) (a1 : Int32) (a2 : Int32) (q : q_H × Unit), f_X10_hears h a0 a1 a2 = some q → (∃ fs, h.1 a0 = .inr (9, fs)) ∧ q_CT G l yX10_hears cX10_hears 6 none 2 60 [.ref a0, .int a1, .int a2] h q.1 (q_u q.2) := by
  intro h a0 a1 a2 q e
  obtain ⟨e1, e2⟩ := q_chk_ok e
  exact ⟨e1, q_ofJ Y_X10_hears (Nat.le_of_ble_eq_true rfl) (jb_X10_hears_0 h a0 a1 a2) q e2⟩
