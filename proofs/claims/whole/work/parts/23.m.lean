/-! FarFoldersModel.movesWaiting(I)I -/
theorem dX10_movesWaiting_0 : decode cX10_movesWaiting 0 = .ok (.iconst 0, 1) := by decide +kernel
theorem dX10_movesWaiting_1 : decode cX10_movesWaiting 1 = .ok (.istore_n 2, 1) := by decide +kernel
theorem dX10_movesWaiting_2 : decode cX10_movesWaiting 2 = .ok (.iconst 0, 1) := by decide +kernel
theorem dX10_movesWaiting_3 : decode cX10_movesWaiting 3 = .ok (.istore_n 3, 1) := by decide +kernel
theorem dX10_movesWaiting_4 : decode cX10_movesWaiting 4 = .ok (.iload_n 3, 1) := by decide +kernel
theorem dX10_movesWaiting_5 : decode cX10_movesWaiting 5 = .ok (.iconst 3, 1) := by decide +kernel
theorem dX10_movesWaiting_6 : decode cX10_movesWaiting 6 = .ok (.if_icmp .ge 51, 3) := by decide +kernel
theorem dX10_movesWaiting_9 : decode cX10_movesWaiting 9 = .ok (.iconst 0, 1) := by decide +kernel
theorem dX10_movesWaiting_10 : decode cX10_movesWaiting 10 = .ok (.istore 4, 2) := by decide +kernel
theorem dX10_movesWaiting_12 : decode cX10_movesWaiting 12 = .ok (.iload 4, 2) := by decide +kernel
theorem dX10_movesWaiting_14 : decode cX10_movesWaiting 14 = .ok (.aload_n 0, 1) := by decide +kernel
theorem dX10_movesWaiting_15 : decode cX10_movesWaiting 15 = .ok (.iload_n 3, 1) := by decide +kernel
theorem dX10_movesWaiting_16 : decode cX10_movesWaiting 16 = .ok (.iload_n 1, 1) := by decide +kernel
theorem dX10_movesWaiting_17 : decode cX10_movesWaiting 17 = .ok (.invokevirtual 173, 3) := by decide +kernel
theorem dX10_movesWaiting_20 : decode cX10_movesWaiting 20 = .ok (.if_icmp .ge 31, 3) := by decide +kernel
theorem dX10_movesWaiting_23 : decode cX10_movesWaiting 23 = .ok (.iload_n 3, 1) := by decide +kernel
theorem dX10_movesWaiting_24 : decode cX10_movesWaiting 24 = .ok (.iload_n 1, 1) := by decide +kernel
theorem dX10_movesWaiting_25 : decode cX10_movesWaiting 25 = .ok (.if_icmp .eq 26, 3) := by decide +kernel
theorem dX10_movesWaiting_28 : decode cX10_movesWaiting 28 = .ok (.iload_n 2, 1) := by decide +kernel
theorem dX10_movesWaiting_29 : decode cX10_movesWaiting 29 = .ok (.aload_n 0, 1) := by decide +kernel
theorem dX10_movesWaiting_30 : decode cX10_movesWaiting 30 = .ok (.iload_n 3, 1) := by decide +kernel
theorem dX10_movesWaiting_31 : decode cX10_movesWaiting 31 = .ok (.iload_n 1, 1) := by decide +kernel
theorem dX10_movesWaiting_32 : decode cX10_movesWaiting 32 = .ok (.iload 4, 2) := by decide +kernel
theorem dX10_movesWaiting_34 : decode cX10_movesWaiting 34 = .ok (.invokestatic 176, 3) := by decide +kernel
theorem dX10_movesWaiting_37 : decode cX10_movesWaiting 37 = .ok (.invokevirtual 122, 3) := by decide +kernel
theorem dX10_movesWaiting_40 : decode cX10_movesWaiting 40 = .ok (.invokestatic 115, 3) := by decide +kernel
theorem dX10_movesWaiting_43 : decode cX10_movesWaiting 43 = .ok (.iadd, 1) := by decide +kernel
theorem dX10_movesWaiting_44 : decode cX10_movesWaiting 44 = .ok (.istore_n 2, 1) := by decide +kernel
theorem dX10_movesWaiting_45 : decode cX10_movesWaiting 45 = .ok (.iinc 4 1, 3) := by decide +kernel
theorem dX10_movesWaiting_48 : decode cX10_movesWaiting 48 = .ok (.goto (-36), 3) := by decide +kernel
theorem dX10_movesWaiting_51 : decode cX10_movesWaiting 51 = .ok (.iinc 3 1, 3) := by decide +kernel
theorem dX10_movesWaiting_54 : decode cX10_movesWaiting 54 = .ok (.goto (-50), 3) := by decide +kernel
theorem dX10_movesWaiting_57 : decode cX10_movesWaiting 57 = .ok (.iload_n 2, 1) := by decide +kernel
theorem dX10_movesWaiting_58 : decode cX10_movesWaiting 58 = .ok (.ireturn, 1) := by decide +kernel
def b_X10_movesWaiting_51 (k4 : q_H → Nat → Int32 → Int32 → Int32 → Option (q_H × Int32)) (h : q_H) (v0 : Nat) (v1 : Int32) (v2 : Int32) (v3 : Int32) : Option (q_H × Int32) :=
  k4 h v0 v1 v2 (v3 + 1)
def b_X10_movesWaiting_12 (k4 : q_H → Nat → Int32 → Int32 → Int32 → Option (q_H × Int32)) (k12 : q_H → Nat → Int32 → Int32 → Int32 → Int32 → Option (q_H × Int32)) (h : q_H) (v0 : Nat) (v1 : Int32) (v2 : Int32) (v3 : Int32) (v4 : Int32) : Option (q_H × Int32) :=
  Option.bind (f_X10_waiting h v0 v3 v1) (fun q1 => if q1.2 ≤ v4 then b_X10_movesWaiting_51 k4 q1.1 v0 v1 v2 v3 else if v3 = v1 then b_X10_movesWaiting_51 k4 q1.1 v0 v1 v2 v3 else Option.bind (f_X10_letterOf q1.1 v3 v1 v4) (fun q2 => Option.bind (f_X10_isMove q2.1 v0 q2.2) (fun q3 => Option.bind (f_X10_flag q3.1 q3.2) (fun q4 => k12 q4.1 v0 v1 (v2 + q4.2) v3 (v4 + 1)))))
def l_X10_movesWaiting_12 (k4 : q_H → Nat → Int32 → Int32 → Int32 → Option (q_H × Int32)) : Nat → q_H → Nat → Int32 → Int32 → Int32 → Int32 → Option (q_H × Int32)
  | 0, _, _, _, _, _, _ => none
  | n + 1, h, v0, v1, v2, v3, v4 => b_X10_movesWaiting_12 k4 (l_X10_movesWaiting_12 k4 n) h v0 v1 v2 v3 v4
def b_X10_movesWaiting_4 (k4 : q_H → Nat → Int32 → Int32 → Int32 → Option (q_H × Int32)) (h : q_H) (v0 : Nat) (v1 : Int32) (v2 : Int32) (v3 : Int32) : Option (q_H × Int32) :=
  if (3) ≤ v3 then some (h, v2) else l_X10_movesWaiting_12 k4 q_FU h v0 v1 v2 v3 (0)
def l_X10_movesWaiting_4 : Nat → q_H → Nat → Int32 → Int32 → Int32 → Option (q_H × Int32)
  | 0, _, _, _, _, _ => none
  | n + 1, h, v0, v1, v2, v3 => b_X10_movesWaiting_4 (l_X10_movesWaiting_4 n) h v0 v1 v2 v3
def b_X10_movesWaiting_0 (h : q_H) (v0 : Nat) (v1 : Int32) : Option (q_H × Int32) :=
  l_X10_movesWaiting_4 q_FU h v0 v1 (0) (0)
def f_X10_movesWaiting (h : q_H) (a0 : Nat) (a1 : Int32) : Option (q_H × Int32) := q_chk 9 h a0 (b_X10_movesWaiting_0 h a0 a1)
set_option maxRecDepth 20000 in
set_option maxHeartbeats 1000000 in
theorem jb_X10_movesWaiting_51 {G : q_G} {l : Launch} {k0 z0 : Nat} (k4 : q_H → Nat → Int32 → Int32 → Int32 → Option (q_H × Int32)) (hk4 : ∀ (h : q_H) (v0 : Nat) (v1 : Int32) (v2 : Int32) (v3 : Int32), q_J G l (RX10, cX10_movesWaiting, 5, 2, 43, (some .int), "movesWaiting", []) k0 z0 (q_Z G k0 z0 q_i) 4 [(0, .ref v0), (1, .int v1), (2, .int v2), (3, .int v3)] [] h (k4 h v0 v1 v2 v3)) (h : q_H) (v0 : Nat) (v1 : Int32) (v2 : Int32) (v3 : Int32) : q_J G l (RX10, cX10_movesWaiting, 5, 2, 43, (some .int), "movesWaiting", []) k0 z0 (q_Z G k0 z0 q_i) 51 [(0, .ref v0), (1, .int v1), (2, .int v2), (3, .int v3)] [] h (b_X10_movesWaiting_51 k4 h v0 v1 v2 v3) := by
  unfold b_X10_movesWaiting_51
  refine j_inc (pc := 51) (p := 3) (lv' := [(3, .int (v3 + 1)), (0, .ref v0), (1, .int v1), (2, .int v2)]) rfl ki_1 (by decide) rfl dX10_movesWaiting_51 ?_
  refine j_goto (pc := 54) (tgt := 4) dX10_movesWaiting_54 (by decide) ?_
  refine j_sub [1, 2, 3, 0] (lv' := [(0, .ref v0), (1, .int v1), (2, .int v2), (3, .int (v3 + 1))]) rfl ?_
  exact hk4 _ _ _ _ _
set_option maxRecDepth 20000 in
set_option maxHeartbeats 1000000 in
theorem jb_X10_movesWaiting_12 {G : q_G} {l : Launch} {k0 z0 : Nat} (k4 : q_H → Nat → Int32 → Int32 → Int32 → Option (q_H × Int32)) (k12 : q_H → Nat → Int32 → Int32 → Int32 → Int32 → Option (q_H × Int32)) (hk4 : ∀ (h : q_H) (v0 : Nat) (v1 : Int32) (v2 : Int32) (v3 : Int32), q_J G l (RX10, cX10_movesWaiting, 5, 2, 43, (some .int), "movesWaiting", []) k0 z0 (q_Z G k0 z0 q_i) 4 [(0, .ref v0), (1, .int v1), (2, .int v2), (3, .int v3)] [] h (k4 h v0 v1 v2 v3)) (hk12 : ∀ (h : q_H) (v0 : Nat) (v1 : Int32) (v2 : Int32) (v3 : Int32) (v4 : Int32), q_J G l (RX10, cX10_movesWaiting, 5, 2, 43, (some .int), "movesWaiting", []) k0 z0 (q_Z G k0 z0 q_i) 12 [(0, .ref v0), (1, .int v1), (2, .int v2), (3, .int v3), (4, .int v4)] [] h (k12 h v0 v1 v2 v3 v4)) (h : q_H) (v0 : Nat) (v1 : Int32) (v2 : Int32) (v3 : Int32) (v4 : Int32) : q_J G l (RX10, cX10_movesWaiting, 5, 2, 43, (some .int), "movesWaiting", []) k0 z0 (q_Z G k0 z0 q_i) 12 [(0, .ref v0), (1, .int v1), (2, .int v2), (3, .int v3), (4, .int v4)] [] h (b_X10_movesWaiting_12 k4 k12 h v0 v1 v2 v3 v4) := by
  unfold b_X10_movesWaiting_12
  refine j_iload (pc := 12) (p := 4) rfl dX10_movesWaiting_12 ?_
  refine j_aload_n (pc := 14) (p := 0) rfl rfl dX10_movesWaiting_14 ?_
  refine j_iload_n (pc := 15) (p := 3) rfl rfl dX10_movesWaiting_15 ?_
  refine j_iload_n (pc := 16) (p := 1) rfl rfl dX10_movesWaiting_16 ?_
  refine j_cVi (pc := 17) Y_X10_waiting (ci := 9) (b := v0) rfl rfl ml_X10_173 im_X10_waiting se_X10_waiting ⟨Nat.le_of_ble_eq_true rfl, Nat.le_of_ble_eq_true rfl⟩ dX10_movesWaiting_17 (As := [.int v3, .int v1]) (rest := [.int v4]) rfl rfl (Nat.le_of_ble_eq_true rfl) (fun x hq9 => c_X10_waiting _ _ _ _ _ hq9) (fun q1 _ => ?_)
  refine j_ic_ge (pc := 20) (tgt := 51) dX10_movesWaiting_20 (by decide) (fun _ => ?_) (fun _ => ?_)
  · refine j_sub [0, 1, 2, 3] (lv' := [(0, .ref v0), (1, .int v1), (2, .int v2), (3, .int v3)]) rfl ?_
    exact jb_X10_movesWaiting_51 k4 hk4 _ _ _ _ _
  refine j_iload_n (pc := 23) (p := 3) rfl rfl dX10_movesWaiting_23 ?_
  refine j_iload_n (pc := 24) (p := 1) rfl rfl dX10_movesWaiting_24 ?_
  refine j_ic_eq (pc := 25) (tgt := 51) dX10_movesWaiting_25 (by decide) (fun _ => ?_) (fun _ => ?_)
  · refine j_sub [0, 1, 2, 3] (lv' := [(0, .ref v0), (1, .int v1), (2, .int v2), (3, .int v3)]) rfl ?_
    exact jb_X10_movesWaiting_51 k4 hk4 _ _ _ _ _
  refine j_iload_n (pc := 28) (p := 2) rfl rfl dX10_movesWaiting_28 ?_
  refine j_aload_n (pc := 29) (p := 0) rfl rfl dX10_movesWaiting_29 ?_
  refine j_iload_n (pc := 30) (p := 3) rfl rfl dX10_movesWaiting_30 ?_
  refine j_iload_n (pc := 31) (p := 1) rfl rfl dX10_movesWaiting_31 ?_
  refine j_iload (pc := 32) (p := 4) rfl dX10_movesWaiting_32 ?_
  refine j_cSi (pc := 34) Y_X10_letterOf ml_X10_176 sm_X10_letterOf ⟨Nat.le_of_ble_eq_true rfl, Nat.le_of_ble_eq_true rfl⟩ dX10_movesWaiting_34 (As := [.int v3, .int v1, .int v4]) (rest := [.ref v0, .int v2]) rfl rfl (Nat.le_of_ble_eq_true rfl) (fun x hq9 => c_X10_letterOf _ _ _ _ _ hq9) (fun q2 _ => ?_)
  refine j_cVi (pc := 37) Y_X10_isMove (ci := 9) (b := v0) rfl rfl ml_X10_122 im_X10_isMove se_X10_isMove ⟨Nat.le_of_ble_eq_true rfl, Nat.le_of_ble_eq_true rfl⟩ dX10_movesWaiting_37 (As := [.int q2.2]) (rest := [.int v2]) rfl rfl (Nat.le_of_ble_eq_true rfl) (fun x hq9 => c_X10_isMove _ _ _ _ hq9) (fun q3 _ => ?_)
  refine j_cSi (pc := 40) Y_X10_flag ml_X10_115 sm_X10_flag ⟨Nat.le_of_ble_eq_true rfl, Nat.le_of_ble_eq_true rfl⟩ dX10_movesWaiting_40 (As := [.int q3.2]) (rest := [.int v2]) rfl rfl (Nat.le_of_ble_eq_true rfl) (fun x hq9 => c_X10_flag _ _ _ hq9) (fun q4 _ => ?_)
  refine j_iadd (pc := 43) dX10_movesWaiting_43 ?_
  refine j_istore_n (pc := 44) (lv' := [(2, .int (v2 + q4.2)), (0, .ref v0), (1, .int v1), (3, .int v3), (4, .int v4)]) rfl (by decide) rfl dX10_movesWaiting_44 ?_
  refine j_inc (pc := 45) (p := 4) (lv' := [(4, .int (v4 + 1)), (2, .int (v2 + q4.2)), (0, .ref v0), (1, .int v1), (3, .int v3)]) rfl ki_1 (by decide) rfl dX10_movesWaiting_45 ?_
  refine j_goto (pc := 48) (tgt := 12) dX10_movesWaiting_48 (by decide) ?_
  refine j_sub [2, 3, 1, 4, 0] (lv' := [(0, .ref v0), (1, .int v1), (2, .int (v2 + q4.2)), (3, .int v3), (4, .int (v4 + 1))]) rfl ?_
  exact hk12 _ _ _ _ _ _
set_option maxRecDepth 20000 in
set_option maxHeartbeats 1000000 in
theorem jl_X10_movesWaiting_12 {G : q_G} {l : Launch} {k0 z0 : Nat} (k4 : q_H → Nat → Int32 → Int32 → Int32 → Option (q_H × Int32)) (hk4 : ∀ (h : q_H) (v0 : Nat) (v1 : Int32) (v2 : Int32) (v3 : Int32), q_J G l (RX10, cX10_movesWaiting, 5, 2, 43, (some .int), "movesWaiting", []) k0 z0 (q_Z G k0 z0 q_i) 4 [(0, .ref v0), (1, .int v1), (2, .int v2), (3, .int v3)] [] h (k4 h v0 v1 v2 v3)) (n : Nat) : ∀ (h : q_H) (v0 : Nat) (v1 : Int32) (v2 : Int32) (v3 : Int32) (v4 : Int32), q_J G l (RX10, cX10_movesWaiting, 5, 2, 43, (some .int), "movesWaiting", []) k0 z0 (q_Z G k0 z0 q_i) 12 [(0, .ref v0), (1, .int v1), (2, .int v2), (3, .int v3), (4, .int v4)] [] h (l_X10_movesWaiting_12 k4 n h v0 v1 v2 v3 v4) := by
  induction n with
  | zero => intro h v0 v1 v2 v3 v4; exact j_none
  | succ n ih => intro h v0 v1 v2 v3 v4; exact jb_X10_movesWaiting_12 k4 (l_X10_movesWaiting_12 k4 n) hk4 ih h v0 v1 v2 v3 v4
set_option maxRecDepth 20000 in
set_option maxHeartbeats 1000000 in
theorem jb_X10_movesWaiting_4 {G : q_G} {l : Launch} {k0 z0 : Nat} (k4 : q_H → Nat → Int32 → Int32 → Int32 → Option (q_H × Int32)) (hk4 : ∀ (h : q_H) (v0 : Nat) (v1 : Int32) (v2 : Int32) (v3 : Int32), q_J G l (RX10, cX10_movesWaiting, 5, 2, 43, (some .int), "movesWaiting", []) k0 z0 (q_Z G k0 z0 q_i) 4 [(0, .ref v0), (1, .int v1), (2, .int v2), (3, .int v3)] [] h (k4 h v0 v1 v2 v3)) (h : q_H) (v0 : Nat) (v1 : Int32) (v2 : Int32) (v3 : Int32) : q_J G l (RX10, cX10_movesWaiting, 5, 2, 43, (some .int), "movesWaiting", []) k0 z0 (q_Z G k0 z0 q_i) 4 [(0, .ref v0), (1, .int v1), (2, .int v2), (3, .int v3)] [] h (b_X10_movesWaiting_4 k4 h v0 v1 v2 v3) := by
  unfold b_X10_movesWaiting_4
  refine j_iload_n (pc := 4) (p := 3) rfl rfl dX10_movesWaiting_4 ?_
  refine j_iconst (pc := 5) ki_3 dX10_movesWaiting_5 ?_
  refine j_ic_ge (pc := 6) (tgt := 57) dX10_movesWaiting_6 (by decide) (fun _ => ?_) (fun _ => ?_)
  · refine j_iload_n (pc := 57) (p := 2) rfl rfl dX10_movesWaiting_57 ?_
    exact j_iret (pc := 58) rfl dX10_movesWaiting_58
  refine j_iconst (pc := 9) ki_0 dX10_movesWaiting_9 ?_
  refine j_istore (pc := 10) (lv' := [(4, .int (0)), (0, .ref v0), (1, .int v1), (2, .int v2), (3, .int v3)]) (by decide) rfl dX10_movesWaiting_10 ?_
  refine j_sub [1, 2, 3, 4, 0] (lv' := [(0, .ref v0), (1, .int v1), (2, .int v2), (3, .int v3), (4, .int (0))]) rfl ?_
  exact jl_X10_movesWaiting_12 k4 hk4 q_FU _ _ _ _ _ _
set_option maxRecDepth 20000 in
set_option maxHeartbeats 1000000 in
theorem jl_X10_movesWaiting_4 {G : q_G} {l : Launch} {k0 z0 : Nat} (n : Nat) : ∀ (h : q_H) (v0 : Nat) (v1 : Int32) (v2 : Int32) (v3 : Int32), q_J G l (RX10, cX10_movesWaiting, 5, 2, 43, (some .int), "movesWaiting", []) k0 z0 (q_Z G k0 z0 q_i) 4 [(0, .ref v0), (1, .int v1), (2, .int v2), (3, .int v3)] [] h (l_X10_movesWaiting_4 n h v0 v1 v2 v3) := by
  induction n with
  | zero => intro h v0 v1 v2 v3; exact j_none
  | succ n ih => intro h v0 v1 v2 v3; exact jb_X10_movesWaiting_4 (l_X10_movesWaiting_4 n) ih h v0 v1 v2 v3
set_option maxRecDepth 20000 in
set_option maxHeartbeats 1000000 in
theorem jb_X10_movesWaiting_0 {G : q_G} {l : Launch} {k0 z0 : Nat} (h : q_H) (v0 : Nat) (v1 : Int32) : q_J G l (RX10, cX10_movesWaiting, 5, 2, 43, (some .int), "movesWaiting", []) k0 z0 (q_Z G k0 z0 q_i) 0 [(0, .ref v0), (1, .int v1)] [] h (b_X10_movesWaiting_0 h v0 v1) := by
  unfold b_X10_movesWaiting_0
  refine j_iconst (pc := 0) ki_0 dX10_movesWaiting_0 ?_
  refine j_istore_n (pc := 1) (lv' := [(2, .int (0)), (0, .ref v0), (1, .int v1)]) rfl (by decide) rfl dX10_movesWaiting_1 ?_
  refine j_iconst (pc := 2) ki_0 dX10_movesWaiting_2 ?_
  refine j_istore_n (pc := 3) (lv' := [(3, .int (0)), (2, .int (0)), (0, .ref v0), (1, .int v1)]) rfl (by decide) rfl dX10_movesWaiting_3 ?_
  refine j_sub [2, 3, 1, 0] (lv' := [(0, .ref v0), (1, .int v1), (2, .int (0)), (3, .int (0))]) rfl ?_
  exact jl_X10_movesWaiting_4 q_FU _ _ _ _ _
set_option maxRecDepth 20000 in
set_option maxHeartbeats 1000000 in
theorem c_X10_movesWaiting {G : q_G} {l : Launch} : ∀ (h : q_H) (a0 : Nat) (a1 : Int32) (q : q_H × Int32), f_X10_movesWaiting h a0 a1 = some q → (∃ fs, h.1 a0 = .inr (9, fs)) ∧ q_CT G l yX10_movesWaiting cX10_movesWaiting 5 (some .int) 2 43 [.ref a0, .int a1] h q.1 (q_i q.2) := by
  intro h a0 a1 q e
  obtain ⟨e1, e2⟩ := q_chk_ok e
  exact ⟨e1, q_ofJ Y_X10_movesWaiting (Nat.le_of_ble_eq_true rfl) (jb_X10_movesWaiting_0 h a0 a1) q e2⟩
/-! FarFoldersModel.undoneAtOnce(I)I -/
theorem dX10_undoneAtOnce_0 : decode cX10_undoneAtOnce 0 = .ok (.aload_n 0, 1) := by decide +kernel
theorem dX10_undoneAtOnce_1 : decode cX10_undoneAtOnce 1 = .ok (.iload_n 1, 1) := by decide +kernel
theorem dX10_undoneAtOnce_2 : decode cX10_undoneAtOnce 2 = .ok (.invokevirtual 144, 3) := by decide +kernel
theorem dX10_undoneAtOnce_5 : decode cX10_undoneAtOnce 5 = .ok (.iconst 0, 1) := by decide +kernel
theorem dX10_undoneAtOnce_6 : decode cX10_undoneAtOnce 6 = .ok (.istore_n 2, 1) := by decide +kernel
theorem dX10_undoneAtOnce_7 : decode cX10_undoneAtOnce 7 = .ok (.iconst 0, 1) := by decide +kernel
theorem dX10_undoneAtOnce_8 : decode cX10_undoneAtOnce 8 = .ok (.istore_n 3, 1) := by decide +kernel
theorem dX10_undoneAtOnce_9 : decode cX10_undoneAtOnce 9 = .ok (.iload_n 3, 1) := by decide +kernel
theorem dX10_undoneAtOnce_10 : decode cX10_undoneAtOnce 10 = .ok (.iconst 3, 1) := by decide +kernel
theorem dX10_undoneAtOnce_11 : decode cX10_undoneAtOnce 11 = .ok (.if_icmp .ge 73, 3) := by decide +kernel
theorem dX10_undoneAtOnce_14 : decode cX10_undoneAtOnce 14 = .ok (.iconst 0, 1) := by decide +kernel
theorem dX10_undoneAtOnce_15 : decode cX10_undoneAtOnce 15 = .ok (.istore 4, 2) := by decide +kernel
theorem dX10_undoneAtOnce_17 : decode cX10_undoneAtOnce 17 = .ok (.iload 4, 2) := by decide +kernel
theorem dX10_undoneAtOnce_19 : decode cX10_undoneAtOnce 19 = .ok (.aload_n 0, 1) := by decide +kernel
theorem dX10_undoneAtOnce_20 : decode cX10_undoneAtOnce 20 = .ok (.iload_n 3, 1) := by decide +kernel
theorem dX10_undoneAtOnce_21 : decode cX10_undoneAtOnce 21 = .ok (.iload_n 1, 1) := by decide +kernel
theorem dX10_undoneAtOnce_22 : decode cX10_undoneAtOnce 22 = .ok (.invokevirtual 173, 3) := by decide +kernel
theorem dX10_undoneAtOnce_25 : decode cX10_undoneAtOnce 25 = .ok (.if_icmp .ge 53, 3) := by decide +kernel
theorem dX10_undoneAtOnce_28 : decode cX10_undoneAtOnce 28 = .ok (.iload_n 3, 1) := by decide +kernel
theorem dX10_undoneAtOnce_29 : decode cX10_undoneAtOnce 29 = .ok (.iload_n 1, 1) := by decide +kernel
theorem dX10_undoneAtOnce_30 : decode cX10_undoneAtOnce 30 = .ok (.if_icmp .eq 48, 3) := by decide +kernel
theorem dX10_undoneAtOnce_33 : decode cX10_undoneAtOnce 33 = .ok (.iload_n 3, 1) := by decide +kernel
theorem dX10_undoneAtOnce_34 : decode cX10_undoneAtOnce 34 = .ok (.iload_n 1, 1) := by decide +kernel
theorem dX10_undoneAtOnce_35 : decode cX10_undoneAtOnce 35 = .ok (.iload 4, 2) := by decide +kernel
theorem dX10_undoneAtOnce_37 : decode cX10_undoneAtOnce 37 = .ok (.invokestatic 176, 3) := by decide +kernel
theorem dX10_undoneAtOnce_40 : decode cX10_undoneAtOnce 40 = .ok (.istore 5, 2) := by decide +kernel
theorem dX10_undoneAtOnce_42 : decode cX10_undoneAtOnce 42 = .ok (.aload_n 0, 1) := by decide +kernel
theorem dX10_undoneAtOnce_43 : decode cX10_undoneAtOnce 43 = .ok (.iload 5, 2) := by decide +kernel
theorem dX10_undoneAtOnce_45 : decode cX10_undoneAtOnce 45 = .ok (.invokevirtual 122, 3) := by decide +kernel
theorem dX10_undoneAtOnce_48 : decode cX10_undoneAtOnce 48 = .ok (.ifCond .eq 22, 3) := by decide +kernel
theorem dX10_undoneAtOnce_51 : decode cX10_undoneAtOnce 51 = .ok (.iload_n 2, 1) := by decide +kernel
theorem dX10_undoneAtOnce_52 : decode cX10_undoneAtOnce 52 = .ok (.aload_n 0, 1) := by decide +kernel
theorem dX10_undoneAtOnce_53 : decode cX10_undoneAtOnce 53 = .ok (.aload_n 0, 1) := by decide +kernel
theorem dX10_undoneAtOnce_54 : decode cX10_undoneAtOnce 54 = .ok (.getfield 47, 3) := by decide +kernel
theorem dX10_undoneAtOnce_57 : decode cX10_undoneAtOnce 57 = .ok (.iload 5, 2) := by decide +kernel
theorem dX10_undoneAtOnce_59 : decode cX10_undoneAtOnce 59 = .ok (.iaload, 1) := by decide +kernel
theorem dX10_undoneAtOnce_60 : decode cX10_undoneAtOnce 60 = .ok (.iload_n 3, 1) := by decide +kernel
theorem dX10_undoneAtOnce_61 : decode cX10_undoneAtOnce 61 = .ok (.invokevirtual 119, 3) := by decide +kernel
theorem dX10_undoneAtOnce_64 : decode cX10_undoneAtOnce 64 = .ok (.invokestatic 209, 3) := by decide +kernel
theorem dX10_undoneAtOnce_67 : decode cX10_undoneAtOnce 67 = .ok (.goto 4, 3) := by decide +kernel
theorem dX10_undoneAtOnce_70 : decode cX10_undoneAtOnce 70 = .ok (.iload_n 2, 1) := by decide +kernel
theorem dX10_undoneAtOnce_71 : decode cX10_undoneAtOnce 71 = .ok (.istore_n 2, 1) := by decide +kernel
theorem dX10_undoneAtOnce_72 : decode cX10_undoneAtOnce 72 = .ok (.iinc 4 1, 3) := by decide +kernel
theorem dX10_undoneAtOnce_75 : decode cX10_undoneAtOnce 75 = .ok (.goto (-58), 3) := by decide +kernel
theorem dX10_undoneAtOnce_78 : decode cX10_undoneAtOnce 78 = .ok (.iinc 3 1, 3) := by decide +kernel
theorem dX10_undoneAtOnce_81 : decode cX10_undoneAtOnce 81 = .ok (.goto (-72), 3) := by decide +kernel
theorem dX10_undoneAtOnce_84 : decode cX10_undoneAtOnce 84 = .ok (.iload_n 2, 1) := by decide +kernel
theorem dX10_undoneAtOnce_85 : decode cX10_undoneAtOnce 85 = .ok (.ireturn, 1) := by decide +kernel
def b_X10_undoneAtOnce_78 (k9 : q_H → Nat → Int32 → Int32 → Int32 → Option (q_H × Int32)) (h : q_H) (v0 : Nat) (v1 : Int32) (v2 : Int32) (v3 : Int32) : Option (q_H × Int32) :=
  k9 h v0 v1 v2 (v3 + 1)
def b_X10_undoneAtOnce_71 (k9 : q_H → Nat → Int32 → Int32 → Int32 → Option (q_H × Int32)) (k17 : q_H → Nat → Int32 → Int32 → Int32 → Int32 → Option (q_H × Int32)) (h : q_H) (v0 : Nat) (v1 : Int32) (v3 : Int32) (v4 : Int32) (s0 : Int32) : Option (q_H × Int32) :=
  k17 h v0 v1 s0 v3 (v4 + 1)
def b_X10_undoneAtOnce_17 (k9 : q_H → Nat → Int32 → Int32 → Int32 → Option (q_H × Int32)) (k17 : q_H → Nat → Int32 → Int32 → Int32 → Int32 → Option (q_H × Int32)) (h : q_H) (v0 : Nat) (v1 : Int32) (v2 : Int32) (v3 : Int32) (v4 : Int32) : Option (q_H × Int32) :=
  Option.bind (f_X10_waiting h v0 v3 v1) (fun q1 => if q1.2 ≤ v4 then b_X10_undoneAtOnce_78 k9 q1.1 v0 v1 v2 v3 else if v3 = v1 then b_X10_undoneAtOnce_78 k9 q1.1 v0 v1 v2 v3 else Option.bind (f_X10_letterOf q1.1 v3 v1 v4) (fun q2 => Option.bind (f_X10_isMove q2.1 v0 q2.2) (fun q3 => if q3.2 = 0 then b_X10_undoneAtOnce_71 k9 k17 q3.1 v0 v1 v3 v4 v2 else Option.bind (q_gR 9 7 q3.1 v0) (fun x4 => Option.bind (q_lI 0 q3.1 x4 q2.2) (fun x5 => Option.bind (f_X10_greater q3.1 v0 x5 v3) (fun q6 => b_X10_undoneAtOnce_71 k9 k17 q6.1 v0 v1 v3 v4 (q_max v2 q6.2)))))))
def l_X10_undoneAtOnce_17 (k9 : q_H → Nat → Int32 → Int32 → Int32 → Option (q_H × Int32)) : Nat → q_H → Nat → Int32 → Int32 → Int32 → Int32 → Option (q_H × Int32)
  | 0, _, _, _, _, _, _ => none
  | n + 1, h, v0, v1, v2, v3, v4 => b_X10_undoneAtOnce_17 k9 (l_X10_undoneAtOnce_17 k9 n) h v0 v1 v2 v3 v4
def b_X10_undoneAtOnce_9 (k9 : q_H → Nat → Int32 → Int32 → Int32 → Option (q_H × Int32)) (h : q_H) (v0 : Nat) (v1 : Int32) (v2 : Int32) (v3 : Int32) : Option (q_H × Int32) :=
  if (3) ≤ v3 then some (h, v2) else l_X10_undoneAtOnce_17 k9 q_FU h v0 v1 v2 v3 (0)
def l_X10_undoneAtOnce_9 : Nat → q_H → Nat → Int32 → Int32 → Int32 → Option (q_H × Int32)
  | 0, _, _, _, _, _ => none
  | n + 1, h, v0, v1, v2, v3 => b_X10_undoneAtOnce_9 (l_X10_undoneAtOnce_9 n) h v0 v1 v2 v3
def b_X10_undoneAtOnce_0 (h : q_H) (v0 : Nat) (v1 : Int32) : Option (q_H × Int32) :=
  Option.bind (f_X10_loads h v0 v1) (fun q7 => l_X10_undoneAtOnce_9 q_FU q7.1 v0 v1 (0) (0))
def f_X10_undoneAtOnce (h : q_H) (a0 : Nat) (a1 : Int32) : Option (q_H × Int32) := q_chk 9 h a0 (b_X10_undoneAtOnce_0 h a0 a1)
set_option maxRecDepth 20000 in
set_option maxHeartbeats 1000000 in
theorem jb_X10_undoneAtOnce_78 {G : q_G} {l : Launch} {k0 z0 : Nat} (k9 : q_H → Nat → Int32 → Int32 → Int32 → Option (q_H × Int32)) (hk9 : ∀ (h : q_H) (v0 : Nat) (v1 : Int32) (v2 : Int32) (v3 : Int32), q_J G l (RX10, cX10_undoneAtOnce, 6, 2, 60, (some .int), "undoneAtOnce", []) k0 z0 (q_Z G k0 z0 q_i) 9 [(0, .ref v0), (1, .int v1), (2, .int v2), (3, .int v3)] [] h (k9 h v0 v1 v2 v3)) (h : q_H) (v0 : Nat) (v1 : Int32) (v2 : Int32) (v3 : Int32) : q_J G l (RX10, cX10_undoneAtOnce, 6, 2, 60, (some .int), "undoneAtOnce", []) k0 z0 (q_Z G k0 z0 q_i) 78 [(0, .ref v0), (1, .int v1), (2, .int v2), (3, .int v3)] [] h (b_X10_undoneAtOnce_78 k9 h v0 v1 v2 v3) := by
  unfold b_X10_undoneAtOnce_78
  refine j_inc (pc := 78) (p := 3) (lv' := [(3, .int (v3 + 1)), (0, .ref v0), (1, .int v1), (2, .int v2)]) rfl ki_1 (by decide) rfl dX10_undoneAtOnce_78 ?_
  refine j_goto (pc := 81) (tgt := 9) dX10_undoneAtOnce_81 (by decide) ?_
  refine j_sub [1, 2, 3, 0] (lv' := [(0, .ref v0), (1, .int v1), (2, .int v2), (3, .int (v3 + 1))]) rfl ?_
  exact hk9 _ _ _ _ _
set_option maxRecDepth 20000 in
set_option maxHeartbeats 1000000 in
theorem jb_X10_undoneAtOnce_71 {G : q_G} {l : Launch} {k0 z0 : Nat} (k9 : q_H → Nat → Int32 → Int32 → Int32 → Option (q_H × Int32)) (k17 : q_H → Nat → Int32 → Int32 → Int32 → Int32 → Option (q_H × Int32)) (hk9 : ∀ (h : q_H) (v0 : Nat) (v1 : Int32) (v2 : Int32) (v3 : Int32), q_J G l (RX10, cX10_undoneAtOnce, 6, 2, 60, (some .int), "undoneAtOnce", []) k0 z0 (q_Z G k0 z0 q_i) 9 [(0, .ref v0), (1, .int v1), (2, .int v2), (3, .int v3)] [] h (k9 h v0 v1 v2 v3)) (hk17 : ∀ (h : q_H) (v0 : Nat) (v1 : Int32) (v2 : Int32) (v3 : Int32) (v4 : Int32), q_J G l (RX10, cX10_undoneAtOnce, 6, 2, 60, (some .int), "undoneAtOnce", []) k0 z0 (q_Z G k0 z0 q_i) 17 [(0, .ref v0), (1, .int v1), (2, .int v2), (3, .int v3), (4, .int v4)] [] h (k17 h v0 v1 v2 v3 v4)) (h : q_H) (v0 : Nat) (v1 : Int32) (v3 : Int32) (v4 : Int32) (s0 : Int32) : q_J G l (RX10, cX10_undoneAtOnce, 6, 2, 60, (some .int), "undoneAtOnce", []) k0 z0 (q_Z G k0 z0 q_i) 71 [(0, .ref v0), (1, .int v1), (3, .int v3), (4, .int v4)] [.int s0] h (b_X10_undoneAtOnce_71 k9 k17 h v0 v1 v3 v4 s0) := by
  unfold b_X10_undoneAtOnce_71
  refine j_istore_n (pc := 71) (lv' := [(2, .int s0), (0, .ref v0), (1, .int v1), (3, .int v3), (4, .int v4)]) rfl (by decide) rfl dX10_undoneAtOnce_71 ?_
  refine j_inc (pc := 72) (p := 4) (lv' := [(4, .int (v4 + 1)), (2, .int s0), (0, .ref v0), (1, .int v1), (3, .int v3)]) rfl ki_1 (by decide) rfl dX10_undoneAtOnce_72 ?_
  refine j_goto (pc := 75) (tgt := 17) dX10_undoneAtOnce_75 (by decide) ?_
  refine j_sub [2, 3, 1, 4, 0] (lv' := [(0, .ref v0), (1, .int v1), (2, .int s0), (3, .int v3), (4, .int (v4 + 1))]) rfl ?_
  exact hk17 _ _ _ _ _ _
set_option maxRecDepth 20000 in
set_option maxHeartbeats 1000000 in
theorem jb_X10_undoneAtOnce_17 {G : q_G} {l : Launch} {k0 z0 : Nat} (k9 : q_H → Nat → Int32 → Int32 → Int32 → Option (q_H × Int32)) (k17 : q_H → Nat → Int32 → Int32 → Int32 → Int32 → Option (q_H × Int32)) (hk9 : ∀ (h : q_H) (v0 : Nat) (v1 : Int32) (v2 : Int32) (v3 : Int32), q_J G l (RX10, cX10_undoneAtOnce, 6, 2, 60, (some .int), "undoneAtOnce", []) k0 z0 (q_Z G k0 z0 q_i) 9 [(0, .ref v0), (1, .int v1), (2, .int v2), (3, .int v3)] [] h (k9 h v0 v1 v2 v3)) (hk17 : ∀ (h : q_H) (v0 : Nat) (v1 : Int32) (v2 : Int32) (v3 : Int32) (v4 : Int32), q_J G l (RX10, cX10_undoneAtOnce, 6, 2, 60, (some .int), "undoneAtOnce", []) k0 z0 (q_Z G k0 z0 q_i) 17 [(0, .ref v0), (1, .int v1), (2, .int v2), (3, .int v3), (4, .int v4)] [] h (k17 h v0 v1 v2 v3 v4)) (h : q_H) (v0 : Nat) (v1 : Int32) (v2 : Int32) (v3 : Int32) (v4 : Int32) : q_J G l (RX10, cX10_undoneAtOnce, 6, 2, 60, (some .int), "undoneAtOnce", []) k0 z0 (q_Z G k0 z0 q_i) 17 [(0, .ref v0), (1, .int v1), (2, .int v2), (3, .int v3), (4, .int v4)] [] h (b_X10_undoneAtOnce_17 k9 k17 h v0 v1 v2 v3 v4) := by
  unfold b_X10_undoneAtOnce_17
  refine j_iload (pc := 17) (p := 4) rfl dX10_undoneAtOnce_17 ?_
  refine j_aload_n (pc := 19) (p := 0) rfl rfl dX10_undoneAtOnce_19 ?_
  refine j_iload_n (pc := 20) (p := 3) rfl rfl dX10_undoneAtOnce_20 ?_
  refine j_iload_n (pc := 21) (p := 1) rfl rfl dX10_undoneAtOnce_21 ?_
  refine j_cVi (pc := 22) Y_X10_waiting (ci := 9) (b := v0) rfl rfl ml_X10_173 im_X10_waiting se_X10_waiting ⟨Nat.le_of_ble_eq_true rfl, Nat.le_of_ble_eq_true rfl⟩ dX10_undoneAtOnce_22 (As := [.int v3, .int v1]) (rest := [.int v4]) rfl rfl (Nat.le_of_ble_eq_true rfl) (fun x hq9 => c_X10_waiting _ _ _ _ _ hq9) (fun q1 _ => ?_)
  refine j_ic_ge (pc := 25) (tgt := 78) dX10_undoneAtOnce_25 (by decide) (fun _ => ?_) (fun _ => ?_)
  · refine j_sub [0, 1, 2, 3] (lv' := [(0, .ref v0), (1, .int v1), (2, .int v2), (3, .int v3)]) rfl ?_
    exact jb_X10_undoneAtOnce_78 k9 hk9 _ _ _ _ _
  refine j_iload_n (pc := 28) (p := 3) rfl rfl dX10_undoneAtOnce_28 ?_
  refine j_iload_n (pc := 29) (p := 1) rfl rfl dX10_undoneAtOnce_29 ?_
  refine j_ic_eq (pc := 30) (tgt := 78) dX10_undoneAtOnce_30 (by decide) (fun _ => ?_) (fun _ => ?_)
  · refine j_sub [0, 1, 2, 3] (lv' := [(0, .ref v0), (1, .int v1), (2, .int v2), (3, .int v3)]) rfl ?_
    exact jb_X10_undoneAtOnce_78 k9 hk9 _ _ _ _ _
  refine j_iload_n (pc := 33) (p := 3) rfl rfl dX10_undoneAtOnce_33 ?_
  refine j_iload_n (pc := 34) (p := 1) rfl rfl dX10_undoneAtOnce_34 ?_
  refine j_iload (pc := 35) (p := 4) rfl dX10_undoneAtOnce_35 ?_
  refine j_cSi (pc := 37) Y_X10_letterOf ml_X10_176 sm_X10_letterOf ⟨Nat.le_of_ble_eq_true rfl, Nat.le_of_ble_eq_true rfl⟩ dX10_undoneAtOnce_37 (As := [.int v3, .int v1, .int v4]) (rest := []) rfl rfl (Nat.le_of_ble_eq_true rfl) (fun x hq9 => c_X10_letterOf _ _ _ _ _ hq9) (fun q2 _ => ?_)
  refine j_istore (pc := 40) (lv' := [(5, .int q2.2), (0, .ref v0), (1, .int v1), (2, .int v2), (3, .int v3), (4, .int v4)]) (by decide) rfl dX10_undoneAtOnce_40 ?_
  refine j_aload_n (pc := 42) (p := 1) rfl rfl dX10_undoneAtOnce_42 ?_
  refine j_iload (pc := 43) (p := 0) rfl dX10_undoneAtOnce_43 ?_
  refine j_cVi (pc := 45) Y_X10_isMove (ci := 9) (b := v0) rfl rfl ml_X10_122 im_X10_isMove se_X10_isMove ⟨Nat.le_of_ble_eq_true rfl, Nat.le_of_ble_eq_true rfl⟩ dX10_undoneAtOnce_45 (As := [.int q2.2]) (rest := []) rfl rfl (Nat.le_of_ble_eq_true rfl) (fun x hq9 => c_X10_isMove _ _ _ _ hq9) (fun q3 _ => ?_)
  refine j_if_eq (pc := 48) (tgt := 70) dX10_undoneAtOnce_48 (by decide) (fun _ => ?_) (fun _ => ?_)
  · refine j_iload_n (pc := 70) (p := 3) rfl rfl dX10_undoneAtOnce_70 ?_
    refine j_sub [1, 2, 4, 5] (lv' := [(0, .ref v0), (1, .int v1), (3, .int v3), (4, .int v4)]) rfl ?_
    exact jb_X10_undoneAtOnce_71 k9 k17 hk9 hk17 _ _ _ _ _ _
  refine j_iload_n (pc := 51) (p := 3) rfl rfl dX10_undoneAtOnce_51 ?_
  refine j_aload_n (pc := 52) (p := 1) rfl rfl dX10_undoneAtOnce_52 ?_
  refine j_aload_n (pc := 53) (p := 1) rfl rfl dX10_undoneAtOnce_53 ?_
  refine j_getR (pc := 54) FI_X10 (k := 7) (by decide) fl_X10_47 dX10_undoneAtOnce_54 (fun x4 _ => ?_)
  refine j_iload (pc := 57) (p := 0) rfl dX10_undoneAtOnce_57 ?_
  refine j_iald (pc := 59) dX10_undoneAtOnce_59 (fun x5 _ => ?_)
  refine j_iload_n (pc := 60) (p := 4) rfl rfl dX10_undoneAtOnce_60 ?_
  refine j_cVi (pc := 61) Y_X10_greater (ci := 9) (b := v0) rfl rfl ml_X10_119 im_X10_greater se_X10_greater ⟨Nat.le_of_ble_eq_true rfl, Nat.le_of_ble_eq_true rfl⟩ dX10_undoneAtOnce_61 (As := [.int x5, .int v3]) (rest := [.int v2]) rfl rfl (Nat.le_of_ble_eq_true rfl) (fun x hq9 => c_X10_greater _ _ _ _ _ hq9) (fun q6 _ => ?_)
  refine j_max (pc := 64) ml_X10_209 sm_max ini_Math co_max ⟨Nat.le_of_ble_eq_true rfl, Nat.le_of_ble_eq_true rfl⟩ dX10_undoneAtOnce_64 ?_
  refine j_goto (pc := 67) (tgt := 71) dX10_undoneAtOnce_67 (by decide) ?_
  refine j_sub [1, 2, 4, 5] (lv' := [(0, .ref v0), (1, .int v1), (3, .int v3), (4, .int v4)]) rfl ?_
  exact jb_X10_undoneAtOnce_71 k9 k17 hk9 hk17 _ _ _ _ _ _
set_option maxRecDepth 20000 in
set_option maxHeartbeats 1000000 in
theorem jl_X10_undoneAtOnce_17 {G : q_G} {l : Launch} {k0 z0 : Nat} (k9 : q_H → Nat → Int32 → Int32 → Int32 → Option (q_H × Int32)) (hk9 : ∀ (h : q_H) (v0 : Nat) (v1 : Int32) (v2 : Int32) (v3 : Int32), q_J G l (RX10, cX10_undoneAtOnce, 6, 2, 60, (some .int), "undoneAtOnce", []) k0 z0 (q_Z G k0 z0 q_i) 9 [(0, .ref v0), (1, .int v1), (2, .int v2), (3, .int v3)] [] h (k9 h v0 v1 v2 v3)) (n : Nat) : ∀ (h : q_H) (v0 : Nat) (v1 : Int32) (v2 : Int32) (v3 : Int32) (v4 : Int32), q_J G l (RX10, cX10_undoneAtOnce, 6, 2, 60, (some .int), "undoneAtOnce", []) k0 z0 (q_Z G k0 z0 q_i) 17 [(0, .ref v0), (1, .int v1), (2, .int v2), (3, .int v3), (4, .int v4)] [] h (l_X10_undoneAtOnce_17 k9 n h v0 v1 v2 v3 v4) := by
  induction n with
  | zero => intro h v0 v1 v2 v3 v4; exact j_none
  | succ n ih => intro h v0 v1 v2 v3 v4; exact jb_X10_undoneAtOnce_17 k9 (l_X10_undoneAtOnce_17 k9 n) hk9 ih h v0 v1 v2 v3 v4
set_option maxRecDepth 20000 in
set_option maxHeartbeats 1000000 in
theorem jb_X10_undoneAtOnce_9 {G : q_G} {l : Launch} {k0 z0 : Nat} (k9 : q_H → Nat → Int32 → Int32 → Int32 → Option (q_H × Int32)) (hk9 : ∀ (h : q_H) (v0 : Nat) (v1 : Int32) (v2 : Int32) (v3 : Int32), q_J G l (RX10, cX10_undoneAtOnce, 6, 2, 60, (some .int), "undoneAtOnce", []) k0 z0 (q_Z G k0 z0 q_i) 9 [(0, .ref v0), (1, .int v1), (2, .int v2), (3, .int v3)] [] h (k9 h v0 v1 v2 v3)) (h : q_H) (v0 : Nat) (v1 : Int32) (v2 : Int32) (v3 : Int32) : q_J G l (RX10, cX10_undoneAtOnce, 6, 2, 60, (some .int), "undoneAtOnce", []) k0 z0 (q_Z G k0 z0 q_i) 9 [(0, .ref v0), (1, .int v1), (2, .int v2), (3, .int v3)] [] h (b_X10_undoneAtOnce_9 k9 h v0 v1 v2 v3) := by
  unfold b_X10_undoneAtOnce_9
  refine j_iload_n (pc := 9) (p := 3) rfl rfl dX10_undoneAtOnce_9 ?_
  refine j_iconst (pc := 10) ki_3 dX10_undoneAtOnce_10 ?_
  refine j_ic_ge (pc := 11) (tgt := 84) dX10_undoneAtOnce_11 (by decide) (fun _ => ?_) (fun _ => ?_)
  · refine j_iload_n (pc := 84) (p := 2) rfl rfl dX10_undoneAtOnce_84 ?_
    exact j_iret (pc := 85) rfl dX10_undoneAtOnce_85
  refine j_iconst (pc := 14) ki_0 dX10_undoneAtOnce_14 ?_
  refine j_istore (pc := 15) (lv' := [(4, .int (0)), (0, .ref v0), (1, .int v1), (2, .int v2), (3, .int v3)]) (by decide) rfl dX10_undoneAtOnce_15 ?_
  refine j_sub [1, 2, 3, 4, 0] (lv' := [(0, .ref v0), (1, .int v1), (2, .int v2), (3, .int v3), (4, .int (0))]) rfl ?_
  exact jl_X10_undoneAtOnce_17 k9 hk9 q_FU _ _ _ _ _ _
set_option maxRecDepth 20000 in
set_option maxHeartbeats 1000000 in
theorem jl_X10_undoneAtOnce_9 {G : q_G} {l : Launch} {k0 z0 : Nat} (n : Nat) : ∀ (h : q_H) (v0 : Nat) (v1 : Int32) (v2 : Int32) (v3 : Int32), q_J G l (RX10, cX10_undoneAtOnce, 6, 2, 60, (some .int), "undoneAtOnce", []) k0 z0 (q_Z G k0 z0 q_i) 9 [(0, .ref v0), (1, .int v1), (2, .int v2), (3, .int v3)] [] h (l_X10_undoneAtOnce_9 n h v0 v1 v2 v3) := by
  induction n with
  | zero => intro h v0 v1 v2 v3; exact j_none
  | succ n ih => intro h v0 v1 v2 v3; exact jb_X10_undoneAtOnce_9 (l_X10_undoneAtOnce_9 n) ih h v0 v1 v2 v3
set_option maxRecDepth 20000 in
set_option maxHeartbeats 1000000 in
theorem jb_X10_undoneAtOnce_0 {G : q_G} {l : Launch} {k0 z0 : Nat} (h : q_H) (v0 : Nat) (v1 : Int32) : q_J G l (RX10, cX10_undoneAtOnce, 6, 2, 60, (some .int), "undoneAtOnce", []) k0 z0 (q_Z G k0 z0 q_i) 0 [(0, .ref v0), (1, .int v1)] [] h (b_X10_undoneAtOnce_0 h v0 v1) := by
  unfold b_X10_undoneAtOnce_0
  refine j_aload_n (pc := 0) (p := 0) rfl rfl dX10_undoneAtOnce_0 ?_
  refine j_iload_n (pc := 1) (p := 1) rfl rfl dX10_undoneAtOnce_1 ?_
  refine j_cVu (pc := 2) Y_X10_loads (ci := 9) (b := v0) rfl rfl ml_X10_144 im_X10_loads se_X10_loads ⟨Nat.le_of_ble_eq_true rfl, Nat.le_of_ble_eq_true rfl⟩ dX10_undoneAtOnce_2 (As := [.int v1]) (rest := []) rfl rfl (Nat.le_of_ble_eq_true rfl) (fun x hq9 => c_X10_loads _ _ _ _ hq9) (fun q7 _ => ?_)
  refine j_iconst (pc := 5) ki_0 dX10_undoneAtOnce_5 ?_
  refine j_istore_n (pc := 6) (lv' := [(2, .int (0)), (0, .ref v0), (1, .int v1)]) rfl (by decide) rfl dX10_undoneAtOnce_6 ?_
  refine j_iconst (pc := 7) ki_0 dX10_undoneAtOnce_7 ?_
  refine j_istore_n (pc := 8) (lv' := [(3, .int (0)), (2, .int (0)), (0, .ref v0), (1, .int v1)]) rfl (by decide) rfl dX10_undoneAtOnce_8 ?_
  refine j_sub [2, 3, 1, 0] (lv' := [(0, .ref v0), (1, .int v1), (2, .int (0)), (3, .int (0))]) rfl ?_
  exact jl_X10_undoneAtOnce_9 q_FU _ _ _ _ _
set_option maxRecDepth 20000 in
set_option maxHeartbeats 1000000 in
theorem c_X10_undoneAtOnce {G : q_G} {l : Launch} : ∀ (h : q_H) (a0 : Nat) (a1 : Int32) (q : q_H × Int32), f_X10_undoneAtOnce h a0 a1 = some q → (∃ fs, h.1 a0 = .inr (9, fs)) ∧ q_CT G l yX10_undoneAtOnce cX10_undoneAtOnce 6 (some .int) 2 60 [.ref a0, .int a1] h q.1 (q_i q.2) := by
  intro h a0 a1 q e
  obtain ⟨e1, e2⟩ := q_chk_ok e
  exact ⟨e1, q_ofJ Y_X10_undoneAtOnce (Nat.le_of_ble_eq_true rfl) (jb_X10_undoneAtOnce_0 h a0 a1) q e2⟩
/-! FarFoldersModel.putsWaiting(I)V -/
theorem dX10_putsWaiting_0 : decode cX10_putsWaiting 0 = .ok (.iconst 0, 1) := by decide +kernel
theorem dX10_putsWaiting_1 : decode cX10_putsWaiting 1 = .ok (.istore_n 2, 1) := by decide +kernel
theorem dX10_putsWaiting_2 : decode cX10_putsWaiting 2 = .ok (.iload_n 2, 1) := by decide +kernel
theorem dX10_putsWaiting_3 : decode cX10_putsWaiting 3 = .ok (.iconst 3, 1) := by decide +kernel
theorem dX10_putsWaiting_4 : decode cX10_putsWaiting 4 = .ok (.if_icmp .ge 43, 3) := by decide +kernel
theorem dX10_putsWaiting_7 : decode cX10_putsWaiting 7 = .ok (.iconst 0, 1) := by decide +kernel
theorem dX10_putsWaiting_8 : decode cX10_putsWaiting 8 = .ok (.istore_n 3, 1) := by decide +kernel
theorem dX10_putsWaiting_9 : decode cX10_putsWaiting 9 = .ok (.iload_n 3, 1) := by decide +kernel
theorem dX10_putsWaiting_10 : decode cX10_putsWaiting 10 = .ok (.aload_n 0, 1) := by decide +kernel
theorem dX10_putsWaiting_11 : decode cX10_putsWaiting 11 = .ok (.iload_n 2, 1) := by decide +kernel
theorem dX10_putsWaiting_12 : decode cX10_putsWaiting 12 = .ok (.iload_n 1, 1) := by decide +kernel
theorem dX10_putsWaiting_13 : decode cX10_putsWaiting 13 = .ok (.invokevirtual 173, 3) := by decide +kernel
theorem dX10_putsWaiting_16 : decode cX10_putsWaiting 16 = .ok (.if_icmp .ge 25, 3) := by decide +kernel
theorem dX10_putsWaiting_19 : decode cX10_putsWaiting 19 = .ok (.iload_n 2, 1) := by decide +kernel
theorem dX10_putsWaiting_20 : decode cX10_putsWaiting 20 = .ok (.iload_n 1, 1) := by decide +kernel
theorem dX10_putsWaiting_21 : decode cX10_putsWaiting 21 = .ok (.if_icmp .eq 20, 3) := by decide +kernel
theorem dX10_putsWaiting_24 : decode cX10_putsWaiting 24 = .ok (.aload_n 0, 1) := by decide +kernel
theorem dX10_putsWaiting_25 : decode cX10_putsWaiting 25 = .ok (.iload_n 2, 1) := by decide +kernel
theorem dX10_putsWaiting_26 : decode cX10_putsWaiting 26 = .ok (.iload_n 2, 1) := by decide +kernel
theorem dX10_putsWaiting_27 : decode cX10_putsWaiting 27 = .ok (.iload_n 1, 1) := by decide +kernel
theorem dX10_putsWaiting_28 : decode cX10_putsWaiting 28 = .ok (.iload_n 3, 1) := by decide +kernel
theorem dX10_putsWaiting_29 : decode cX10_putsWaiting 29 = .ok (.invokestatic 176, 3) := by decide +kernel
theorem dX10_putsWaiting_32 : decode cX10_putsWaiting 32 = .ok (.invokevirtual 217, 3) := by decide +kernel
theorem dX10_putsWaiting_35 : decode cX10_putsWaiting 35 = .ok (.iinc 3 1, 3) := by decide +kernel
theorem dX10_putsWaiting_38 : decode cX10_putsWaiting 38 = .ok (.goto (-29), 3) := by decide +kernel
theorem dX10_putsWaiting_41 : decode cX10_putsWaiting 41 = .ok (.iinc 2 1, 3) := by decide +kernel
theorem dX10_putsWaiting_44 : decode cX10_putsWaiting 44 = .ok (.goto (-42), 3) := by decide +kernel
theorem dX10_putsWaiting_47 : decode cX10_putsWaiting 47 = .ok (.return_, 1) := by decide +kernel
def b_X10_putsWaiting_41 (k2 : q_H → Nat → Int32 → Int32 → Option (q_H × Unit)) (h : q_H) (v0 : Nat) (v1 : Int32) (v2 : Int32) : Option (q_H × Unit) :=
  k2 h v0 v1 (v2 + 1)
def b_X10_putsWaiting_9 (k2 : q_H → Nat → Int32 → Int32 → Option (q_H × Unit)) (k9 : q_H → Nat → Int32 → Int32 → Int32 → Option (q_H × Unit)) (h : q_H) (v0 : Nat) (v1 : Int32) (v2 : Int32) (v3 : Int32) : Option (q_H × Unit) :=
  Option.bind (f_X10_waiting h v0 v2 v1) (fun q1 => if q1.2 ≤ v3 then b_X10_putsWaiting_41 k2 q1.1 v0 v1 v2 else if v2 = v1 then b_X10_putsWaiting_41 k2 q1.1 v0 v1 v2 else Option.bind (f_X10_letterOf q1.1 v2 v1 v3) (fun q2 => Option.bind (f_X10_putsLetter q2.1 v0 v2 q2.2) (fun q3 => k9 q3.1 v0 v1 v2 (v3 + 1))))
def l_X10_putsWaiting_9 (k2 : q_H → Nat → Int32 → Int32 → Option (q_H × Unit)) : Nat → q_H → Nat → Int32 → Int32 → Int32 → Option (q_H × Unit)
  | 0, _, _, _, _, _ => none
  | n + 1, h, v0, v1, v2, v3 => b_X10_putsWaiting_9 k2 (l_X10_putsWaiting_9 k2 n) h v0 v1 v2 v3
def b_X10_putsWaiting_2 (k2 : q_H → Nat → Int32 → Int32 → Option (q_H × Unit)) (h : q_H) (v0 : Nat) (v1 : Int32) (v2 : Int32) : Option (q_H × Unit) :=
  if (3) ≤ v2 then some (h, ()) else l_X10_putsWaiting_9 k2 q_FU h v0 v1 v2 (0)
def l_X10_putsWaiting_2 : Nat → q_H → Nat → Int32 → Int32 → Option (q_H × Unit)
  | 0, _, _, _, _ => none
  | n + 1, h, v0, v1, v2 => b_X10_putsWaiting_2 (l_X10_putsWaiting_2 n) h v0 v1 v2
def b_X10_putsWaiting_0 (h : q_H) (v0 : Nat) (v1 : Int32) : Option (q_H × Unit) :=
  l_X10_putsWaiting_2 q_FU h v0 v1 (0)
def f_X10_putsWaiting (h : q_H) (a0 : Nat) (a1 : Int32) : Option (q_H × Unit) := q_chk 9 h a0 (b_X10_putsWaiting_0 h a0 a1)
set_option maxRecDepth 20000 in
set_option maxHeartbeats 1000000 in
theorem jb_X10_putsWaiting_41 {G : q_G} {l : Launch} {k0 z0 : Nat} (k2 : q_H → Nat → Int32 → Int32 → Option (q_H × Unit)) (hk2 : ∀ (h : q_H) (v0 : Nat) (v1 : Int32) (v2 : Int32), q_J G l (RX10, cX10_putsWaiting, 4, 4, 96, none, "putsWaiting", []) k0 z0 (q_Z G k0 z0 q_u) 2 [(0, .ref v0), (1, .int v1), (2, .int v2)] [] h (k2 h v0 v1 v2)) (h : q_H) (v0 : Nat) (v1 : Int32) (v2 : Int32) : q_J G l (RX10, cX10_putsWaiting, 4, 4, 96, none, "putsWaiting", []) k0 z0 (q_Z G k0 z0 q_u) 41 [(0, .ref v0), (1, .int v1), (2, .int v2)] [] h (b_X10_putsWaiting_41 k2 h v0 v1 v2) := by
  unfold b_X10_putsWaiting_41
  refine j_inc (pc := 41) (p := 2) (lv' := [(2, .int (v2 + 1)), (0, .ref v0), (1, .int v1)]) rfl ki_1 (by decide) rfl dX10_putsWaiting_41 ?_
  refine j_goto (pc := 44) (tgt := 2) dX10_putsWaiting_44 (by decide) ?_
  refine j_sub [1, 2, 0] (lv' := [(0, .ref v0), (1, .int v1), (2, .int (v2 + 1))]) rfl ?_
  exact hk2 _ _ _ _
set_option maxRecDepth 20000 in
set_option maxHeartbeats 1000000 in
theorem jb_X10_putsWaiting_9 {G : q_G} {l : Launch} {k0 z0 : Nat} (k2 : q_H → Nat → Int32 → Int32 → Option (q_H × Unit)) (k9 : q_H → Nat → Int32 → Int32 → Int32 → Option (q_H × Unit)) (hk2 : ∀ (h : q_H) (v0 : Nat) (v1 : Int32) (v2 : Int32), q_J G l (RX10, cX10_putsWaiting, 4, 4, 96, none, "putsWaiting", []) k0 z0 (q_Z G k0 z0 q_u) 2 [(0, .ref v0), (1, .int v1), (2, .int v2)] [] h (k2 h v0 v1 v2)) (hk9 : ∀ (h : q_H) (v0 : Nat) (v1 : Int32) (v2 : Int32) (v3 : Int32), q_J G l (RX10, cX10_putsWaiting, 4, 4, 96, none, "putsWaiting", []) k0 z0 (q_Z G k0 z0 q_u) 9 [(0, .ref v0), (1, .int v1), (2, .int v2), (3, .int v3)] [] h (k9 h v0 v1 v2 v3)) (h : q_H) (v0 : Nat) (v1 : Int32) (v2 : Int32) (v3 : Int32) : q_J G l (RX10, cX10_putsWaiting, 4, 4, 96, none, "putsWaiting", []) k0 z0 (q_Z G k0 z0 q_u) 9 [(0, .ref v0), (1, .int v1), (2, .int v2), (3, .int v3)] [] h (b_X10_putsWaiting_9 k2 k9 h v0 v1 v2 v3) := by
  unfold b_X10_putsWaiting_9
  refine j_iload_n (pc := 9) (p := 3) rfl rfl dX10_putsWaiting_9 ?_
  refine j_aload_n (pc := 10) (p := 0) rfl rfl dX10_putsWaiting_10 ?_
  refine j_iload_n (pc := 11) (p := 2) rfl rfl dX10_putsWaiting_11 ?_
  refine j_iload_n (pc := 12) (p := 1) rfl rfl dX10_putsWaiting_12 ?_
  refine j_cVi (pc := 13) Y_X10_waiting (ci := 9) (b := v0) rfl rfl ml_X10_173 im_X10_waiting se_X10_waiting ⟨Nat.le_of_ble_eq_true rfl, Nat.le_of_ble_eq_true rfl⟩ dX10_putsWaiting_13 (As := [.int v2, .int v1]) (rest := [.int v3]) rfl rfl (Nat.le_of_ble_eq_true rfl) (fun x hq9 => c_X10_waiting _ _ _ _ _ hq9) (fun q1 _ => ?_)
  refine j_ic_ge (pc := 16) (tgt := 41) dX10_putsWaiting_16 (by decide) (fun _ => ?_) (fun _ => ?_)
  · refine j_sub [0, 1, 2] (lv' := [(0, .ref v0), (1, .int v1), (2, .int v2)]) rfl ?_
    exact jb_X10_putsWaiting_41 k2 hk2 _ _ _ _
  refine j_iload_n (pc := 19) (p := 2) rfl rfl dX10_putsWaiting_19 ?_
  refine j_iload_n (pc := 20) (p := 1) rfl rfl dX10_putsWaiting_20 ?_
  refine j_ic_eq (pc := 21) (tgt := 41) dX10_putsWaiting_21 (by decide) (fun _ => ?_) (fun _ => ?_)
  · refine j_sub [0, 1, 2] (lv' := [(0, .ref v0), (1, .int v1), (2, .int v2)]) rfl ?_
    exact jb_X10_putsWaiting_41 k2 hk2 _ _ _ _
  refine j_aload_n (pc := 24) (p := 0) rfl rfl dX10_putsWaiting_24 ?_
  refine j_iload_n (pc := 25) (p := 2) rfl rfl dX10_putsWaiting_25 ?_
  refine j_iload_n (pc := 26) (p := 2) rfl rfl dX10_putsWaiting_26 ?_
  refine j_iload_n (pc := 27) (p := 1) rfl rfl dX10_putsWaiting_27 ?_
  refine j_iload_n (pc := 28) (p := 3) rfl rfl dX10_putsWaiting_28 ?_
  refine j_cSi (pc := 29) Y_X10_letterOf ml_X10_176 sm_X10_letterOf ⟨Nat.le_of_ble_eq_true rfl, Nat.le_of_ble_eq_true rfl⟩ dX10_putsWaiting_29 (As := [.int v2, .int v1, .int v3]) (rest := [.int v2, .ref v0]) rfl rfl (Nat.le_of_ble_eq_true rfl) (fun x hq9 => c_X10_letterOf _ _ _ _ _ hq9) (fun q2 _ => ?_)
  refine j_cVu (pc := 32) Y_X10_putsLetter (ci := 9) (b := v0) rfl rfl ml_X10_217 im_X10_putsLetter se_X10_putsLetter ⟨Nat.le_of_ble_eq_true rfl, Nat.le_of_ble_eq_true rfl⟩ dX10_putsWaiting_32 (As := [.int v2, .int q2.2]) (rest := []) rfl rfl (Nat.le_of_ble_eq_true rfl) (fun x hq9 => c_X10_putsLetter _ _ _ _ _ hq9) (fun q3 _ => ?_)
  refine j_inc (pc := 35) (p := 3) (lv' := [(3, .int (v3 + 1)), (0, .ref v0), (1, .int v1), (2, .int v2)]) rfl ki_1 (by decide) rfl dX10_putsWaiting_35 ?_
  refine j_goto (pc := 38) (tgt := 9) dX10_putsWaiting_38 (by decide) ?_
  refine j_sub [1, 2, 3, 0] (lv' := [(0, .ref v0), (1, .int v1), (2, .int v2), (3, .int (v3 + 1))]) rfl ?_
  exact hk9 _ _ _ _ _
set_option maxRecDepth 20000 in
set_option maxHeartbeats 1000000 in
theorem jl_X10_putsWaiting_9 {G : q_G} {l : Launch} {k0 z0 : Nat} (k2 : q_H → Nat → Int32 → Int32 → Option (q_H × Unit)) (hk2 : ∀ (h : q_H) (v0 : Nat) (v1 : Int32) (v2 : Int32), q_J G l (RX10, cX10_putsWaiting, 4, 4, 96, none, "putsWaiting", []) k0 z0 (q_Z G k0 z0 q_u) 2 [(0, .ref v0), (1, .int v1), (2, .int v2)] [] h (k2 h v0 v1 v2)) (n : Nat) : ∀ (h : q_H) (v0 : Nat) (v1 : Int32) (v2 : Int32) (v3 : Int32), q_J G l (RX10, cX10_putsWaiting, 4, 4, 96, none, "putsWaiting", []) k0 z0 (q_Z G k0 z0 q_u) 9 [(0, .ref v0), (1, .int v1), (2, .int v2), (3, .int v3)] [] h (l_X10_putsWaiting_9 k2 n h v0 v1 v2 v3) := by
  induction n with
  | zero => intro h v0 v1 v2 v3; exact j_none
  | succ n ih => intro h v0 v1 v2 v3; exact jb_X10_putsWaiting_9 k2 (l_X10_putsWaiting_9 k2 n) hk2 ih h v0 v1 v2 v3
set_option maxRecDepth 20000 in
set_option maxHeartbeats 1000000 in
theorem jb_X10_putsWaiting_2 {G : q_G} {l : Launch} {k0 z0 : Nat} (k2 : q_H → Nat → Int32 → Int32 → Option (q_H × Unit)) (hk2 : ∀ (h : q_H) (v0 : Nat) (v1 : Int32) (v2 : Int32), q_J G l (RX10, cX10_putsWaiting, 4, 4, 96, none, "putsWaiting", []) k0 z0 (q_Z G k0 z0 q_u) 2 [(0, .ref v0), (1, .int v1), (2, .int v2)] [] h (k2 h v0 v1 v2)) (h : q_H) (v0 : Nat) (v1 : Int32) (v2 : Int32) : q_J G l (RX10, cX10_putsWaiting, 4, 4, 96, none, "putsWaiting", []) k0 z0 (q_Z G k0 z0 q_u) 2 [(0, .ref v0), (1, .int v1), (2, .int v2)] [] h (b_X10_putsWaiting_2 k2 h v0 v1 v2) := by
  unfold b_X10_putsWaiting_2
  refine j_iload_n (pc := 2) (p := 2) rfl rfl dX10_putsWaiting_2 ?_
  refine j_iconst (pc := 3) ki_3 dX10_putsWaiting_3 ?_
  refine j_ic_ge (pc := 4) (tgt := 47) dX10_putsWaiting_4 (by decide) (fun _ => ?_) (fun _ => ?_)
  · exact j_vret (pc := 47) rfl dX10_putsWaiting_47
  refine j_iconst (pc := 7) ki_0 dX10_putsWaiting_7 ?_
  refine j_istore_n (pc := 8) (lv' := [(3, .int (0)), (0, .ref v0), (1, .int v1), (2, .int v2)]) rfl (by decide) rfl dX10_putsWaiting_8 ?_
  refine j_sub [1, 2, 3, 0] (lv' := [(0, .ref v0), (1, .int v1), (2, .int v2), (3, .int (0))]) rfl ?_
  exact jl_X10_putsWaiting_9 k2 hk2 q_FU _ _ _ _ _
set_option maxRecDepth 20000 in
set_option maxHeartbeats 1000000 in
theorem jl_X10_putsWaiting_2 {G : q_G} {l : Launch} {k0 z0 : Nat} (n : Nat) : ∀ (h : q_H) (v0 : Nat) (v1 : Int32) (v2 : Int32), q_J G l (RX10, cX10_putsWaiting, 4, 4, 96, none, "putsWaiting", []) k0 z0 (q_Z G k0 z0 q_u) 2 [(0, .ref v0), (1, .int v1), (2, .int v2)] [] h (l_X10_putsWaiting_2 n h v0 v1 v2) := by
  induction n with
  | zero => intro h v0 v1 v2; exact j_none
  | succ n ih => intro h v0 v1 v2; exact jb_X10_putsWaiting_2 (l_X10_putsWaiting_2 n) ih h v0 v1 v2
set_option maxRecDepth 20000 in
set_option maxHeartbeats 1000000 in
theorem jb_X10_putsWaiting_0 {G : q_G} {l : Launch} {k0 z0 : Nat} (h : q_H) (v0 : Nat) (v1 : Int32) : q_J G l (RX10, cX10_putsWaiting, 4, 4, 96, none, "putsWaiting", []) k0 z0 (q_Z G k0 z0 q_u) 0 [(0, .ref v0), (1, .int v1)] [] h (b_X10_putsWaiting_0 h v0 v1) := by
  unfold b_X10_putsWaiting_0
  refine j_iconst (pc := 0) ki_0 dX10_putsWaiting_0 ?_
  refine j_istore_n (pc := 1) (lv' := [(2, .int (0)), (0, .ref v0), (1, .int v1)]) rfl (by decide) rfl dX10_putsWaiting_1 ?_
  refine j_sub [1, 2, 0] (lv' := [(0, .ref v0), (1, .int v1), (2, .int (0))]) rfl ?_
  exact jl_X10_putsWaiting_2 q_FU _ _ _ _
set_option maxRecDepth 20000 in
set_option maxHeartbeats 1000000 in
theorem c_X10_putsWaiting {G : q_G} {l : Launch} : ∀ (h : q_H) (a0 : Nat) (a1 : Int32) (q : q_H × Unit), f_X10_putsWaiting h a0 a1 = some q → (∃ fs, h.1 a0 = .inr (9, fs)) ∧ q_CT G l yX10_putsWaiting cX10_putsWaiting 4 none 4 96 [.ref a0, .int a1] h q.1 (q_u q.2) := by
  intro h a0 a1 q e
  obtain ⟨e1, e2⟩ := q_chk_ok e
  exact ⟨e1, q_ofJ Y_X10_putsWaiting (Nat.le_of_ble_eq_true rfl) (jb_X10_putsWaiting_0 h a0 a1) q e2⟩
/-! FarFoldersModel.gathersOne(I)I -/
theorem dX10_gathersOne_0 : decode cX10_gathersOne 0 = .ok (.iload_n 1, 1) := by decide +kernel
theorem dX10_gathersOne_1 : decode cX10_gathersOne 1 = .ok (.invokestatic 101, 3) := by decide +kernel
theorem dX10_gathersOne_4 : decode cX10_gathersOne 4 = .ok (.ifCond .ne 5, 3) := by decide +kernel
theorem dX10_gathersOne_7 : decode cX10_gathersOne 7 = .ok (.iconst (-1), 1) := by decide +kernel
theorem dX10_gathersOne_8 : decode cX10_gathersOne 8 = .ok (.ireturn, 1) := by decide +kernel
theorem dX10_gathersOne_9 : decode cX10_gathersOne 9 = .ok (.aload_n 0, 1) := by decide +kernel
theorem dX10_gathersOne_10 : decode cX10_gathersOne 10 = .ok (.iload_n 1, 1) := by decide +kernel
theorem dX10_gathersOne_11 : decode cX10_gathersOne 11 = .ok (.invokevirtual 235, 3) := by decide +kernel
theorem dX10_gathersOne_14 : decode cX10_gathersOne 14 = .ok (.istore_n 2, 1) := by decide +kernel
theorem dX10_gathersOne_15 : decode cX10_gathersOne 15 = .ok (.iload_n 2, 1) := by decide +kernel
theorem dX10_gathersOne_16 : decode cX10_gathersOne 16 = .ok (.ifCond .ne 6, 3) := by decide +kernel
theorem dX10_gathersOne_19 : decode cX10_gathersOne 19 = .ok (.bipush (-2), 2) := by decide +kernel
theorem dX10_gathersOne_21 : decode cX10_gathersOne 21 = .ok (.ireturn, 1) := by decide +kernel
theorem dX10_gathersOne_22 : decode cX10_gathersOne 22 = .ok (.aload_n 0, 1) := by decide +kernel
theorem dX10_gathersOne_23 : decode cX10_gathersOne 23 = .ok (.getfield 47, 3) := by decide +kernel
theorem dX10_gathersOne_26 : decode cX10_gathersOne 26 = .ok (.sipush 180, 3) := by decide +kernel
theorem dX10_gathersOne_29 : decode cX10_gathersOne 29 = .ok (.iload_n 1, 1) := by decide +kernel
theorem dX10_gathersOne_30 : decode cX10_gathersOne 30 = .ok (.iadd, 1) := by decide +kernel
theorem dX10_gathersOne_31 : decode cX10_gathersOne 31 = .ok (.iaload, 1) := by decide +kernel
theorem dX10_gathersOne_32 : decode cX10_gathersOne 32 = .ok (.aload_n 0, 1) := by decide +kernel
theorem dX10_gathersOne_33 : decode cX10_gathersOne 33 = .ok (.iload_n 1, 1) := by decide +kernel
theorem dX10_gathersOne_34 : decode cX10_gathersOne 34 = .ok (.invokevirtual 238, 3) := by decide +kernel
theorem dX10_gathersOne_37 : decode cX10_gathersOne 37 = .ok (.iadd, 1) := by decide +kernel
theorem dX10_gathersOne_38 : decode cX10_gathersOne 38 = .ok (.bipush 20, 2) := by decide +kernel
theorem dX10_gathersOne_40 : decode cX10_gathersOne 40 = .ok (.if_icmp .le 6, 3) := by decide +kernel
theorem dX10_gathersOne_43 : decode cX10_gathersOne 43 = .ok (.bipush (-3), 2) := by decide +kernel
theorem dX10_gathersOne_45 : decode cX10_gathersOne 45 = .ok (.ireturn, 1) := by decide +kernel
theorem dX10_gathersOne_46 : decode cX10_gathersOne 46 = .ok (.aload_n 0, 1) := by decide +kernel
theorem dX10_gathersOne_47 : decode cX10_gathersOne 47 = .ok (.aload_n 0, 1) := by decide +kernel
theorem dX10_gathersOne_48 : decode cX10_gathersOne 48 = .ok (.iload_n 1, 1) := by decide +kernel
theorem dX10_gathersOne_49 : decode cX10_gathersOne 49 = .ok (.invokevirtual 241, 3) := by decide +kernel
theorem dX10_gathersOne_52 : decode cX10_gathersOne 52 = .ok (.putfield 214, 3) := by decide +kernel
theorem dX10_gathersOne_55 : decode cX10_gathersOne 55 = .ok (.aload_n 0, 1) := by decide +kernel
theorem dX10_gathersOne_56 : decode cX10_gathersOne 56 = .ok (.iconst 0, 1) := by decide +kernel
theorem dX10_gathersOne_57 : decode cX10_gathersOne 57 = .ok (.iload_n 1, 1) := by decide +kernel
theorem dX10_gathersOne_58 : decode cX10_gathersOne 58 = .ok (.invokevirtual 164, 3) := by decide +kernel
theorem dX10_gathersOne_61 : decode cX10_gathersOne 61 = .ok (.aload_n 0, 1) := by decide +kernel
theorem dX10_gathersOne_62 : decode cX10_gathersOne 62 = .ok (.iload_n 1, 1) := by decide +kernel
theorem dX10_gathersOne_63 : decode cX10_gathersOne 63 = .ok (.invokevirtual 244, 3) := by decide +kernel
theorem dX10_gathersOne_66 : decode cX10_gathersOne 66 = .ok (.aload_n 0, 1) := by decide +kernel
theorem dX10_gathersOne_67 : decode cX10_gathersOne 67 = .ok (.iconst 1, 1) := by decide +kernel
theorem dX10_gathersOne_68 : decode cX10_gathersOne 68 = .ok (.iload_n 1, 1) := by decide +kernel
theorem dX10_gathersOne_69 : decode cX10_gathersOne 69 = .ok (.iconst (-1), 1) := by decide +kernel
theorem dX10_gathersOne_70 : decode cX10_gathersOne 70 = .ok (.invokevirtual 148, 3) := by decide +kernel
theorem dX10_gathersOne_73 : decode cX10_gathersOne 73 = .ok (.aload_n 0, 1) := by decide +kernel
theorem dX10_gathersOne_74 : decode cX10_gathersOne 74 = .ok (.aload_n 0, 1) := by decide +kernel
theorem dX10_gathersOne_75 : decode cX10_gathersOne 75 = .ok (.iconst 0, 1) := by decide +kernel
theorem dX10_gathersOne_76 : decode cX10_gathersOne 76 = .ok (.iconst 1, 1) := by decide +kernel
theorem dX10_gathersOne_77 : decode cX10_gathersOne 77 = .ok (.invokevirtual 152, 3) := by decide +kernel
theorem dX10_gathersOne_80 : decode cX10_gathersOne 80 = .ok (.putfield 220, 3) := by decide +kernel
theorem dX10_gathersOne_83 : decode cX10_gathersOne 83 = .ok (.aload_n 0, 1) := by decide +kernel
theorem dX10_gathersOne_84 : decode cX10_gathersOne 84 = .ok (.iload_n 1, 1) := by decide +kernel
theorem dX10_gathersOne_85 : decode cX10_gathersOne 85 = .ok (.invokevirtual 187, 3) := by decide +kernel
theorem dX10_gathersOne_88 : decode cX10_gathersOne 88 = .ok (.iconst 0, 1) := by decide +kernel
theorem dX10_gathersOne_89 : decode cX10_gathersOne 89 = .ok (.istore_n 3, 1) := by decide +kernel
theorem dX10_gathersOne_90 : decode cX10_gathersOne 90 = .ok (.iload_n 3, 1) := by decide +kernel
theorem dX10_gathersOne_91 : decode cX10_gathersOne 91 = .ok (.iconst 3, 1) := by decide +kernel
theorem dX10_gathersOne_92 : decode cX10_gathersOne 92 = .ok (.if_icmp .ge 32, 3) := by decide +kernel
theorem dX10_gathersOne_95 : decode cX10_gathersOne 95 = .ok (.iload_n 3, 1) := by decide +kernel
theorem dX10_gathersOne_96 : decode cX10_gathersOne 96 = .ok (.iload_n 1, 1) := by decide +kernel
theorem dX10_gathersOne_97 : decode cX10_gathersOne 97 = .ok (.if_icmp .eq 21, 3) := by decide +kernel
theorem dX10_gathersOne_100 : decode cX10_gathersOne 100 = .ok (.aload_n 0, 1) := by decide +kernel
theorem dX10_gathersOne_101 : decode cX10_gathersOne 101 = .ok (.iload_n 3, 1) := by decide +kernel
theorem dX10_gathersOne_102 : decode cX10_gathersOne 102 = .ok (.iload_n 1, 1) := by decide +kernel
theorem dX10_gathersOne_103 : decode cX10_gathersOne 103 = .ok (.invokevirtual 173, 3) := by decide +kernel
theorem dX10_gathersOne_106 : decode cX10_gathersOne 106 = .ok (.ifCond .le 12, 3) := by decide +kernel
theorem dX10_gathersOne_109 : decode cX10_gathersOne 109 = .ok (.aload_n 0, 1) := by decide +kernel
theorem dX10_gathersOne_110 : decode cX10_gathersOne 110 = .ok (.iload_n 3, 1) := by decide +kernel
theorem dX10_gathersOne_111 : decode cX10_gathersOne 111 = .ok (.iload_n 1, 1) := by decide +kernel
theorem dX10_gathersOne_112 : decode cX10_gathersOne 112 = .ok (.invokevirtual 229, 3) := by decide +kernel
theorem dX10_gathersOne_115 : decode cX10_gathersOne 115 = .ok (.goto (-20), 3) := by decide +kernel
theorem dX10_gathersOne_118 : decode cX10_gathersOne 118 = .ok (.iinc 3 1, 3) := by decide +kernel
theorem dX10_gathersOne_121 : decode cX10_gathersOne 121 = .ok (.goto (-31), 3) := by decide +kernel
theorem dX10_gathersOne_124 : decode cX10_gathersOne 124 = .ok (.iload_n 2, 1) := by decide +kernel
theorem dX10_gathersOne_125 : decode cX10_gathersOne 125 = .ok (.ireturn, 1) := by decide +kernel
def b_X10_gathersOne_118 (k90 : q_H → Nat → Int32 → Int32 → Int32 → Option (q_H × Int32)) (h : q_H) (v0 : Nat) (v1 : Int32) (v2 : Int32) (v3 : Int32) : Option (q_H × Int32) :=
  k90 h v0 v1 v2 (v3 + 1)
def b_X10_gathersOne_95 (k90 : q_H → Nat → Int32 → Int32 → Int32 → Option (q_H × Int32)) (k95 : q_H → Nat → Int32 → Int32 → Int32 → Option (q_H × Int32)) (h : q_H) (v0 : Nat) (v1 : Int32) (v2 : Int32) (v3 : Int32) : Option (q_H × Int32) :=
  if v3 = v1 then b_X10_gathersOne_118 k90 h v0 v1 v2 v3 else Option.bind (f_X10_waiting h v0 v3 v1) (fun q1 => if q1.2 ≤ 0 then b_X10_gathersOne_118 k90 q1.1 v0 v1 v2 v3 else Option.bind (f_X10_hears q1.1 v0 v3 v1) (fun q2 => k95 q2.1 v0 v1 v2 v3))
def l_X10_gathersOne_95 (k90 : q_H → Nat → Int32 → Int32 → Int32 → Option (q_H × Int32)) : Nat → q_H → Nat → Int32 → Int32 → Int32 → Option (q_H × Int32)
  | 0, _, _, _, _, _ => none
  | n + 1, h, v0, v1, v2, v3 => b_X10_gathersOne_95 k90 (l_X10_gathersOne_95 k90 n) h v0 v1 v2 v3
def b_X10_gathersOne_90 (k90 : q_H → Nat → Int32 → Int32 → Int32 → Option (q_H × Int32)) (h : q_H) (v0 : Nat) (v1 : Int32) (v2 : Int32) (v3 : Int32) : Option (q_H × Int32) :=
  if (3) ≤ v3 then some (h, v2) else l_X10_gathersOne_95 k90 q_FU h v0 v1 v2 v3
def l_X10_gathersOne_90 : Nat → q_H → Nat → Int32 → Int32 → Int32 → Option (q_H × Int32)
  | 0, _, _, _, _, _ => none
  | n + 1, h, v0, v1, v2, v3 => b_X10_gathersOne_90 (l_X10_gathersOne_90 n) h v0 v1 v2 v3
def b_X10_gathersOne_0 (h : q_H) (v0 : Nat) (v1 : Int32) : Option (q_H × Int32) :=
  Option.bind (f_X10_isCopy h v1) (fun q3 => if q3.2 = 0 then some (q3.1, (-1)) else Option.bind (f_X10_waitingAll q3.1 v0 v1) (fun q4 => if q4.2 = 0 then some (q4.1, (-2)) else Option.bind (q_gR 9 7 q4.1 v0) (fun x5 => Option.bind (q_lI 0 q4.1 x5 ((180) + v1)) (fun x6 => Option.bind (f_X10_movesWaiting q4.1 v0 v1) (fun q7 => if (x6 + q7.2) ≤ (20) then Option.bind (f_X10_undoneAtOnce q7.1 v0 v1) (fun q8 => Option.bind (q_p 9 13 q8.1 v0 (.int q8.2)) (fun h9 => Option.bind (f_X10_lays h9 v0 (0) v1) (fun q10 => Option.bind (f_X10_putsWaiting q10.1 v0 v1) (fun q11 => Option.bind (f_X10_grows q11.1 v0 (1) v1 (-1)) (fun q12 => Option.bind (f_X10_otherSet q12.1 v0 (0) (1)) (fun q13 => Option.bind (q_p 9 14 q13.1 v0 (.int q13.2)) (fun h14 => Option.bind (f_X10_keepsList h14 v0 v1) (fun q15 => l_X10_gathersOne_90 q_FU q15.1 v0 v1 q4.2 (0))))))))) else some (q7.1, (-3)))))))
def f_X10_gathersOne (h : q_H) (a0 : Nat) (a1 : Int32) : Option (q_H × Int32) := q_chk 9 h a0 (b_X10_gathersOne_0 h a0 a1)
set_option maxRecDepth 20000 in
set_option maxHeartbeats 1000000 in
theorem jb_X10_gathersOne_118 {G : q_G} {l : Launch} {k0 z0 : Nat} (k90 : q_H → Nat → Int32 → Int32 → Int32 → Option (q_H × Int32)) (hk90 : ∀ (h : q_H) (v0 : Nat) (v1 : Int32) (v2 : Int32) (v3 : Int32), q_J G l (RX10, cX10_gathersOne, 4, 5, 119, (some .int), "gathersOne", []) k0 z0 (q_Z G k0 z0 q_i) 90 [(0, .ref v0), (1, .int v1), (2, .int v2), (3, .int v3)] [] h (k90 h v0 v1 v2 v3)) (h : q_H) (v0 : Nat) (v1 : Int32) (v2 : Int32) (v3 : Int32) : q_J G l (RX10, cX10_gathersOne, 4, 5, 119, (some .int), "gathersOne", []) k0 z0 (q_Z G k0 z0 q_i) 118 [(0, .ref v0), (1, .int v1), (2, .int v2), (3, .int v3)] [] h (b_X10_gathersOne_118 k90 h v0 v1 v2 v3) := by
  unfold b_X10_gathersOne_118
  refine j_inc (pc := 118) (p := 3) (lv' := [(3, .int (v3 + 1)), (0, .ref v0), (1, .int v1), (2, .int v2)]) rfl ki_1 (by decide) rfl dX10_gathersOne_118 ?_
  refine j_goto (pc := 121) (tgt := 90) dX10_gathersOne_121 (by decide) ?_
  refine j_sub [1, 2, 3, 0] (lv' := [(0, .ref v0), (1, .int v1), (2, .int v2), (3, .int (v3 + 1))]) rfl ?_
  exact hk90 _ _ _ _ _
set_option maxRecDepth 20000 in
set_option maxHeartbeats 1000000 in
theorem jb_X10_gathersOne_95 {G : q_G} {l : Launch} {k0 z0 : Nat} (k90 : q_H → Nat → Int32 → Int32 → Int32 → Option (q_H × Int32)) (k95 : q_H → Nat → Int32 → Int32 → Int32 → Option (q_H × Int32)) (hk90 : ∀ (h : q_H) (v0 : Nat) (v1 : Int32) (v2 : Int32) (v3 : Int32), q_J G l (RX10, cX10_gathersOne, 4, 5, 119, (some .int), "gathersOne", []) k0 z0 (q_Z G k0 z0 q_i) 90 [(0, .ref v0), (1, .int v1), (2, .int v2), (3, .int v3)] [] h (k90 h v0 v1 v2 v3)) (hk95 : ∀ (h : q_H) (v0 : Nat) (v1 : Int32) (v2 : Int32) (v3 : Int32), q_J G l (RX10, cX10_gathersOne, 4, 5, 119, (some .int), "gathersOne", []) k0 z0 (q_Z G k0 z0 q_i) 95 [(0, .ref v0), (1, .int v1), (2, .int v2), (3, .int v3)] [] h (k95 h v0 v1 v2 v3)) (h : q_H) (v0 : Nat) (v1 : Int32) (v2 : Int32) (v3 : Int32) : q_J G l (RX10, cX10_gathersOne, 4, 5, 119, (some .int), "gathersOne", []) k0 z0 (q_Z G k0 z0 q_i) 95 [(0, .ref v0), (1, .int v1), (2, .int v2), (3, .int v3)] [] h (b_X10_gathersOne_95 k90 k95 h v0 v1 v2 v3) := by
  unfold b_X10_gathersOne_95
  refine j_iload_n (pc := 95) (p := 3) rfl rfl dX10_gathersOne_95 ?_
  refine j_iload_n (pc := 96) (p := 1) rfl rfl dX10_gathersOne_96 ?_
  refine j_ic_eq (pc := 97) (tgt := 118) dX10_gathersOne_97 (by decide) (fun _ => ?_) (fun _ => ?_)
  · exact jb_X10_gathersOne_118 k90 hk90 _ _ _ _ _
  refine j_aload_n (pc := 100) (p := 0) rfl rfl dX10_gathersOne_100 ?_
  refine j_iload_n (pc := 101) (p := 3) rfl rfl dX10_gathersOne_101 ?_
  refine j_iload_n (pc := 102) (p := 1) rfl rfl dX10_gathersOne_102 ?_
  refine j_cVi (pc := 103) Y_X10_waiting (ci := 9) (b := v0) rfl rfl ml_X10_173 im_X10_waiting se_X10_waiting ⟨Nat.le_of_ble_eq_true rfl, Nat.le_of_ble_eq_true rfl⟩ dX10_gathersOne_103 (As := [.int v3, .int v1]) (rest := []) rfl rfl (Nat.le_of_ble_eq_true rfl) (fun x hq9 => c_X10_waiting _ _ _ _ _ hq9) (fun q1 _ => ?_)
  refine j_if_le (pc := 106) (tgt := 118) dX10_gathersOne_106 (by decide) (fun _ => ?_) (fun _ => ?_)
  · exact jb_X10_gathersOne_118 k90 hk90 _ _ _ _ _
  refine j_aload_n (pc := 109) (p := 0) rfl rfl dX10_gathersOne_109 ?_
  refine j_iload_n (pc := 110) (p := 3) rfl rfl dX10_gathersOne_110 ?_
  refine j_iload_n (pc := 111) (p := 1) rfl rfl dX10_gathersOne_111 ?_
  refine j_cVu (pc := 112) Y_X10_hears (ci := 9) (b := v0) rfl rfl ml_X10_229 im_X10_hears se_X10_hears ⟨Nat.le_of_ble_eq_true rfl, Nat.le_of_ble_eq_true rfl⟩ dX10_gathersOne_112 (As := [.int v3, .int v1]) (rest := []) rfl rfl (Nat.le_of_ble_eq_true rfl) (fun x hq9 => c_X10_hears _ _ _ _ _ hq9) (fun q2 _ => ?_)
  refine j_goto (pc := 115) (tgt := 95) dX10_gathersOne_115 (by decide) ?_
  exact hk95 _ _ _ _ _
set_option maxRecDepth 20000 in
set_option maxHeartbeats 1000000 in
theorem jl_X10_gathersOne_95 {G : q_G} {l : Launch} {k0 z0 : Nat} (k90 : q_H → Nat → Int32 → Int32 → Int32 → Option (q_H × Int32)) (hk90 : ∀ (h : q_H) (v0 : Nat) (v1 : Int32) (v2 : Int32) (v3 : Int32), q_J G l (RX10, cX10_gathersOne, 4, 5, 119, (some .int), "gathersOne", []) k0 z0 (q_Z G k0 z0 q_i) 90 [(0, .ref v0), (1, .int v1), (2, .int v2), (3, .int v3)] [] h (k90 h v0 v1 v2 v3)) (n : Nat) : ∀ (h : q_H) (v0 : Nat) (v1 : Int32) (v2 : Int32) (v3 : Int32), q_J G l (RX10, cX10_gathersOne, 4, 5, 119, (some .int), "gathersOne", []) k0 z0 (q_Z G k0 z0 q_i) 95 [(0, .ref v0), (1, .int v1), (2, .int v2), (3, .int v3)] [] h (l_X10_gathersOne_95 k90 n h v0 v1 v2 v3) := by
  induction n with
  | zero => intro h v0 v1 v2 v3; exact j_none
  | succ n ih => intro h v0 v1 v2 v3; exact jb_X10_gathersOne_95 k90 (l_X10_gathersOne_95 k90 n) hk90 ih h v0 v1 v2 v3
set_option maxRecDepth 20000 in
set_option maxHeartbeats 1000000 in
theorem jb_X10_gathersOne_90 {G : q_G} {l : Launch} {k0 z0 : Nat} (k90 : q_H → Nat → Int32 → Int32 → Int32 → Option (q_H × Int32)) (hk90 : ∀ (h : q_H) (v0 : Nat) (v1 : Int32) (v2 : Int32) (v3 : Int32), q_J G l (RX10, cX10_gathersOne, 4, 5, 119, (some .int), "gathersOne", []) k0 z0 (q_Z G k0 z0 q_i) 90 [(0, .ref v0), (1, .int v1), (2, .int v2), (3, .int v3)] [] h (k90 h v0 v1 v2 v3)) (h : q_H) (v0 : Nat) (v1 : Int32) (v2 : Int32) (v3 : Int32) : q_J G l (RX10, cX10_gathersOne, 4, 5, 119, (some .int), "gathersOne", []) k0 z0 (q_Z G k0 z0 q_i) 90 [(0, .ref v0), (1, .int v1), (2, .int v2), (3, .int v3)] [] h (b_X10_gathersOne_90 k90 h v0 v1 v2 v3) := by
  unfold b_X10_gathersOne_90
  refine j_iload_n (pc := 90) (p := 3) rfl rfl dX10_gathersOne_90 ?_
  refine j_iconst (pc := 91) ki_3 dX10_gathersOne_91 ?_
  refine j_ic_ge (pc := 92) (tgt := 124) dX10_gathersOne_92 (by decide) (fun _ => ?_) (fun _ => ?_)
  · refine j_iload_n (pc := 124) (p := 2) rfl rfl dX10_gathersOne_124 ?_
    exact j_iret (pc := 125) rfl dX10_gathersOne_125
  exact jl_X10_gathersOne_95 k90 hk90 q_FU _ _ _ _ _
set_option maxRecDepth 20000 in
set_option maxHeartbeats 1000000 in
theorem jl_X10_gathersOne_90 {G : q_G} {l : Launch} {k0 z0 : Nat} (n : Nat) : ∀ (h : q_H) (v0 : Nat) (v1 : Int32) (v2 : Int32) (v3 : Int32), q_J G l (RX10, cX10_gathersOne, 4, 5, 119, (some .int), "gathersOne", []) k0 z0 (q_Z G k0 z0 q_i) 90 [(0, .ref v0), (1, .int v1), (2, .int v2), (3, .int v3)] [] h (l_X10_gathersOne_90 n h v0 v1 v2 v3) := by
  induction n with
  | zero => intro h v0 v1 v2 v3; exact j_none
  | succ n ih => intro h v0 v1 v2 v3; exact jb_X10_gathersOne_90 (l_X10_gathersOne_90 n) ih h v0 v1 v2 v3
set_option maxRecDepth 20000 in
set_option maxHeartbeats 1000000 in
theorem jb_X10_gathersOne_0 {G : q_G} {l : Launch} {k0 z0 : Nat} (h : q_H) (v0 : Nat) (v1 : Int32) : q_J G l (RX10, cX10_gathersOne, 4, 5, 119, (some .int), "gathersOne", []) k0 z0 (q_Z G k0 z0 q_i) 0 [(0, .ref v0), (1, .int v1)] [] h (b_X10_gathersOne_0 h v0 v1) := by
  unfold b_X10_gathersOne_0
  refine j_iload_n (pc := 0) (p := 1) rfl rfl dX10_gathersOne_0 ?_
  refine j_cSi (pc := 1) Y_X10_isCopy ml_X10_101 sm_X10_isCopy ⟨Nat.le_of_ble_eq_true rfl, Nat.le_of_ble_eq_true rfl⟩ dX10_gathersOne_1 (As := [.int v1]) (rest := []) rfl rfl (Nat.le_of_ble_eq_true rfl) (fun x hq9 => c_X10_isCopy _ _ _ hq9) (fun q3 _ => ?_)
  refine j_if_ne (pc := 4) (tgt := 9) dX10_gathersOne_4 (by decide) (fun _ => ?_) (fun _ => ?_)
  · refine j_iconst (pc := 7) ki_m1 dX10_gathersOne_7 ?_
    exact j_iret (pc := 8) rfl dX10_gathersOne_8
  refine j_aload_n (pc := 9) (p := 0) rfl rfl dX10_gathersOne_9 ?_
  refine j_iload_n (pc := 10) (p := 1) rfl rfl dX10_gathersOne_10 ?_
  refine j_cVi (pc := 11) Y_X10_waitingAll (ci := 9) (b := v0) rfl rfl ml_X10_235 im_X10_waitingAll se_X10_waitingAll ⟨Nat.le_of_ble_eq_true rfl, Nat.le_of_ble_eq_true rfl⟩ dX10_gathersOne_11 (As := [.int v1]) (rest := []) rfl rfl (Nat.le_of_ble_eq_true rfl) (fun x hq9 => c_X10_waitingAll _ _ _ _ hq9) (fun q4 _ => ?_)
  refine j_istore_n (pc := 14) (lv' := [(2, .int q4.2), (0, .ref v0), (1, .int v1)]) rfl (by decide) rfl dX10_gathersOne_14 ?_
  refine j_iload_n (pc := 15) (p := 0) rfl rfl dX10_gathersOne_15 ?_
  refine j_if_ne (pc := 16) (tgt := 22) dX10_gathersOne_16 (by decide) (fun _ => ?_) (fun _ => ?_)
  · refine j_bipush (pc := 19) kb_m2 dX10_gathersOne_19 ?_
    exact j_iret (pc := 21) rfl dX10_gathersOne_21
  refine j_aload_n (pc := 22) (p := 1) rfl rfl dX10_gathersOne_22 ?_
  refine j_getR (pc := 23) FI_X10 (k := 7) (by decide) fl_X10_47 dX10_gathersOne_23 (fun x5 _ => ?_)
  refine j_sipush (pc := 26) ks_180 dX10_gathersOne_26 ?_
  refine j_iload_n (pc := 29) (p := 2) rfl rfl dX10_gathersOne_29 ?_
  refine j_iadd (pc := 30) dX10_gathersOne_30 ?_
  refine j_iald (pc := 31) dX10_gathersOne_31 (fun x6 _ => ?_)
  refine j_aload_n (pc := 32) (p := 1) rfl rfl dX10_gathersOne_32 ?_
  refine j_iload_n (pc := 33) (p := 2) rfl rfl dX10_gathersOne_33 ?_
  refine j_cVi (pc := 34) Y_X10_movesWaiting (ci := 9) (b := v0) rfl rfl ml_X10_238 im_X10_movesWaiting se_X10_movesWaiting ⟨Nat.le_of_ble_eq_true rfl, Nat.le_of_ble_eq_true rfl⟩ dX10_gathersOne_34 (As := [.int v1]) (rest := [.int x6]) rfl rfl (Nat.le_of_ble_eq_true rfl) (fun x hq9 => c_X10_movesWaiting _ _ _ _ hq9) (fun q7 _ => ?_)
  refine j_iadd (pc := 37) dX10_gathersOne_37 ?_
  refine j_bipush (pc := 38) kb_20 dX10_gathersOne_38 ?_
  refine j_ic_le (pc := 40) (tgt := 46) dX10_gathersOne_40 (by decide) (fun _ => ?_) (fun _ => ?_)
  · refine j_aload_n (pc := 46) (p := 1) rfl rfl dX10_gathersOne_46 ?_
    refine j_aload_n (pc := 47) (p := 1) rfl rfl dX10_gathersOne_47 ?_
    refine j_iload_n (pc := 48) (p := 2) rfl rfl dX10_gathersOne_48 ?_
    refine j_cVi (pc := 49) Y_X10_undoneAtOnce (ci := 9) (b := v0) rfl rfl ml_X10_241 im_X10_undoneAtOnce se_X10_undoneAtOnce ⟨Nat.le_of_ble_eq_true rfl, Nat.le_of_ble_eq_true rfl⟩ dX10_gathersOne_49 (As := [.int v1]) (rest := [.ref v0]) rfl rfl (Nat.le_of_ble_eq_true rfl) (fun x hq9 => c_X10_undoneAtOnce _ _ _ _ hq9) (fun q8 _ => ?_)
    refine j_put (pc := 52) FI_X10 (k := 13) (by decide) fl_X10_214 rfl rfl rfl dX10_gathersOne_52 (fun h9 _ => ?_)
    refine j_aload_n (pc := 55) (p := 1) rfl rfl dX10_gathersOne_55 ?_
    refine j_iconst (pc := 56) ki_0 dX10_gathersOne_56 ?_
    refine j_iload_n (pc := 57) (p := 2) rfl rfl dX10_gathersOne_57 ?_
    refine j_cVu (pc := 58) Y_X10_lays (ci := 9) (b := v0) rfl rfl ml_X10_164 im_X10_lays se_X10_lays ⟨Nat.le_of_ble_eq_true rfl, Nat.le_of_ble_eq_true rfl⟩ dX10_gathersOne_58 (As := [.int (0), .int v1]) (rest := []) rfl rfl (Nat.le_of_ble_eq_true rfl) (fun x hq9 => c_X10_lays _ _ _ _ _ hq9) (fun q10 _ => ?_)
    refine j_aload_n (pc := 61) (p := 1) rfl rfl dX10_gathersOne_61 ?_
    refine j_iload_n (pc := 62) (p := 2) rfl rfl dX10_gathersOne_62 ?_
    refine j_cVu (pc := 63) Y_X10_putsWaiting (ci := 9) (b := v0) rfl rfl ml_X10_244 im_X10_putsWaiting se_X10_putsWaiting ⟨Nat.le_of_ble_eq_true rfl, Nat.le_of_ble_eq_true rfl⟩ dX10_gathersOne_63 (As := [.int v1]) (rest := []) rfl rfl (Nat.le_of_ble_eq_true rfl) (fun x hq9 => c_X10_putsWaiting _ _ _ _ hq9) (fun q11 _ => ?_)
    refine j_aload_n (pc := 66) (p := 1) rfl rfl dX10_gathersOne_66 ?_
    refine j_iconst (pc := 67) ki_1 dX10_gathersOne_67 ?_
    refine j_iload_n (pc := 68) (p := 2) rfl rfl dX10_gathersOne_68 ?_
    refine j_iconst (pc := 69) ki_m1 dX10_gathersOne_69 ?_
    refine j_cVu (pc := 70) Y_X10_grows (ci := 9) (b := v0) rfl rfl ml_X10_148 im_X10_grows se_X10_grows ⟨Nat.le_of_ble_eq_true rfl, Nat.le_of_ble_eq_true rfl⟩ dX10_gathersOne_70 (As := [.int (1), .int v1, .int (-1)]) (rest := []) rfl rfl (Nat.le_of_ble_eq_true rfl) (fun x hq9 => c_X10_grows _ _ _ _ _ _ hq9) (fun q12 _ => ?_)
    refine j_aload_n (pc := 73) (p := 1) rfl rfl dX10_gathersOne_73 ?_
    refine j_aload_n (pc := 74) (p := 1) rfl rfl dX10_gathersOne_74 ?_
    refine j_iconst (pc := 75) ki_0 dX10_gathersOne_75 ?_
    refine j_iconst (pc := 76) ki_1 dX10_gathersOne_76 ?_
    refine j_cVi (pc := 77) Y_X10_otherSet (ci := 9) (b := v0) rfl rfl ml_X10_152 im_X10_otherSet se_X10_otherSet ⟨Nat.le_of_ble_eq_true rfl, Nat.le_of_ble_eq_true rfl⟩ dX10_gathersOne_77 (As := [.int (0), .int (1)]) (rest := [.ref v0]) rfl rfl (Nat.le_of_ble_eq_true rfl) (fun x hq9 => c_X10_otherSet _ _ _ _ _ hq9) (fun q13 _ => ?_)
    refine j_put (pc := 80) FI_X10 (k := 14) (by decide) fl_X10_220 rfl rfl rfl dX10_gathersOne_80 (fun h14 _ => ?_)
    refine j_aload_n (pc := 83) (p := 1) rfl rfl dX10_gathersOne_83 ?_
    refine j_iload_n (pc := 84) (p := 2) rfl rfl dX10_gathersOne_84 ?_
    refine j_cVu (pc := 85) Y_X10_keepsList (ci := 9) (b := v0) rfl rfl ml_X10_187 im_X10_keepsList se_X10_keepsList ⟨Nat.le_of_ble_eq_true rfl, Nat.le_of_ble_eq_true rfl⟩ dX10_gathersOne_85 (As := [.int v1]) (rest := []) rfl rfl (Nat.le_of_ble_eq_true rfl) (fun x hq9 => c_X10_keepsList _ _ _ _ hq9) (fun q15 _ => ?_)
    refine j_iconst (pc := 88) ki_0 dX10_gathersOne_88 ?_
    refine j_istore_n (pc := 89) (lv' := [(3, .int (0)), (2, .int q4.2), (0, .ref v0), (1, .int v1)]) rfl (by decide) rfl dX10_gathersOne_89 ?_
    refine j_sub [2, 3, 1, 0] (lv' := [(0, .ref v0), (1, .int v1), (2, .int q4.2), (3, .int (0))]) rfl ?_
    exact jl_X10_gathersOne_90 q_FU _ _ _ _ _
  refine j_bipush (pc := 43) kb_m3 dX10_gathersOne_43 ?_
  exact j_iret (pc := 45) rfl dX10_gathersOne_45
set_option maxRecDepth 20000 in
set_option maxHeartbeats 1000000 in
theorem c_X10_gathersOne {G : q_G} {l : Launch} : ∀ (h : q_H) (a0 : Nat) (a1 : Int32) (q : q_H × Int32), f_X10_gathersOne h a0 a1 = some q → (∃ fs, h.1 a0 = .inr (9, fs)) ∧ q_CT G l yX10_gathersOne cX10_gathersOne 4 (some .int) 5 119 [.ref a0, .int a1] h q.1 (q_i q.2) := by
  intro h a0 a1 q e
  obtain ⟨e1, e2⟩ := q_chk_ok e
  exact ⟨e1, q_ofJ Y_X10_gathersOne (Nat.le_of_ble_eq_true rfl) (jb_X10_gathersOne_0 h a0 a1) q e2⟩
/-! FarFoldersModel.doesAct(I)I -/
theorem dX10_doesAct_0 : decode cX10_doesAct 0 = .ok (.aload_n 0, 1) := by decide +kernel
theorem dX10_doesAct_1 : decode cX10_doesAct 1 = .ok (.getfield 60, 3) := by decide +kernel
theorem dX10_doesAct_4 : decode cX10_doesAct 4 = .ok (.iload_n 1, 1) := by decide +kernel
theorem dX10_doesAct_5 : decode cX10_doesAct 5 = .ok (.iaload, 1) := by decide +kernel
theorem dX10_doesAct_6 : decode cX10_doesAct 6 = .ok (.tableswitch 100 0 3 #[30, 61, 72, 89], 30) := by decide +kernel
theorem dX10_doesAct_36 : decode cX10_doesAct 36 = .ok (.aload_n 0, 1) := by decide +kernel
theorem dX10_doesAct_37 : decode cX10_doesAct 37 = .ok (.aload_n 0, 1) := by decide +kernel
theorem dX10_doesAct_38 : decode cX10_doesAct 38 = .ok (.getfield 63, 3) := by decide +kernel
theorem dX10_doesAct_41 : decode cX10_doesAct 41 = .ok (.iload_n 1, 1) := by decide +kernel
theorem dX10_doesAct_42 : decode cX10_doesAct 42 = .ok (.iaload, 1) := by decide +kernel
theorem dX10_doesAct_43 : decode cX10_doesAct 43 = .ok (.iconst 2, 1) := by decide +kernel
theorem dX10_doesAct_44 : decode cX10_doesAct 44 = .ok (.aload_n 0, 1) := by decide +kernel
theorem dX10_doesAct_45 : decode cX10_doesAct 45 = .ok (.getfield 66, 3) := by decide +kernel
theorem dX10_doesAct_48 : decode cX10_doesAct 48 = .ok (.iload_n 1, 1) := by decide +kernel
theorem dX10_doesAct_49 : decode cX10_doesAct 49 = .ok (.iaload, 1) := by decide +kernel
theorem dX10_doesAct_50 : decode cX10_doesAct 50 = .ok (.iadd, 1) := by decide +kernel
theorem dX10_doesAct_51 : decode cX10_doesAct 51 = .ok (.aload_n 0, 1) := by decide +kernel
theorem dX10_doesAct_52 : decode cX10_doesAct 52 = .ok (.getfield 69, 3) := by decide +kernel
theorem dX10_doesAct_55 : decode cX10_doesAct 55 = .ok (.iload_n 1, 1) := by decide +kernel
theorem dX10_doesAct_56 : decode cX10_doesAct 56 = .ok (.iaload, 1) := by decide +kernel
theorem dX10_doesAct_57 : decode cX10_doesAct 57 = .ok (.aload_n 0, 1) := by decide +kernel
theorem dX10_doesAct_58 : decode cX10_doesAct 58 = .ok (.getfield 72, 3) := by decide +kernel
theorem dX10_doesAct_61 : decode cX10_doesAct 61 = .ok (.iload_n 1, 1) := by decide +kernel
theorem dX10_doesAct_62 : decode cX10_doesAct 62 = .ok (.iaload, 1) := by decide +kernel
theorem dX10_doesAct_63 : decode cX10_doesAct 63 = .ok (.invokevirtual 198, 3) := by decide +kernel
theorem dX10_doesAct_66 : decode cX10_doesAct 66 = .ok (.ireturn, 1) := by decide +kernel
theorem dX10_doesAct_67 : decode cX10_doesAct 67 = .ok (.aload_n 0, 1) := by decide +kernel
theorem dX10_doesAct_68 : decode cX10_doesAct 68 = .ok (.aload_n 0, 1) := by decide +kernel
theorem dX10_doesAct_69 : decode cX10_doesAct 69 = .ok (.getfield 63, 3) := by decide +kernel
theorem dX10_doesAct_72 : decode cX10_doesAct 72 = .ok (.iload_n 1, 1) := by decide +kernel
theorem dX10_doesAct_73 : decode cX10_doesAct 73 = .ok (.iaload, 1) := by decide +kernel
theorem dX10_doesAct_74 : decode cX10_doesAct 74 = .ok (.invokevirtual 206, 3) := by decide +kernel
theorem dX10_doesAct_77 : decode cX10_doesAct 77 = .ok (.ireturn, 1) := by decide +kernel
theorem dX10_doesAct_78 : decode cX10_doesAct 78 = .ok (.aload_n 0, 1) := by decide +kernel
theorem dX10_doesAct_79 : decode cX10_doesAct 79 = .ok (.aload_n 0, 1) := by decide +kernel
theorem dX10_doesAct_80 : decode cX10_doesAct 80 = .ok (.getfield 63, 3) := by decide +kernel
theorem dX10_doesAct_83 : decode cX10_doesAct 83 = .ok (.iload_n 1, 1) := by decide +kernel
theorem dX10_doesAct_84 : decode cX10_doesAct 84 = .ok (.iaload, 1) := by decide +kernel
theorem dX10_doesAct_85 : decode cX10_doesAct 85 = .ok (.aload_n 0, 1) := by decide +kernel
theorem dX10_doesAct_86 : decode cX10_doesAct 86 = .ok (.getfield 66, 3) := by decide +kernel
theorem dX10_doesAct_89 : decode cX10_doesAct 89 = .ok (.iload_n 1, 1) := by decide +kernel
theorem dX10_doesAct_90 : decode cX10_doesAct 90 = .ok (.iaload, 1) := by decide +kernel
theorem dX10_doesAct_91 : decode cX10_doesAct 91 = .ok (.invokevirtual 232, 3) := by decide +kernel
theorem dX10_doesAct_94 : decode cX10_doesAct 94 = .ok (.ireturn, 1) := by decide +kernel
theorem dX10_doesAct_95 : decode cX10_doesAct 95 = .ok (.aload_n 0, 1) := by decide +kernel
theorem dX10_doesAct_96 : decode cX10_doesAct 96 = .ok (.aload_n 0, 1) := by decide +kernel
theorem dX10_doesAct_97 : decode cX10_doesAct 97 = .ok (.getfield 63, 3) := by decide +kernel
theorem dX10_doesAct_100 : decode cX10_doesAct 100 = .ok (.iload_n 1, 1) := by decide +kernel
theorem dX10_doesAct_101 : decode cX10_doesAct 101 = .ok (.iaload, 1) := by decide +kernel
theorem dX10_doesAct_102 : decode cX10_doesAct 102 = .ok (.invokevirtual 247, 3) := by decide +kernel
theorem dX10_doesAct_105 : decode cX10_doesAct 105 = .ok (.ireturn, 1) := by decide +kernel
theorem dX10_doesAct_106 : decode cX10_doesAct 106 = .ok (.aload_n 0, 1) := by decide +kernel
theorem dX10_doesAct_107 : decode cX10_doesAct 107 = .ok (.aload_n 0, 1) := by decide +kernel
theorem dX10_doesAct_108 : decode cX10_doesAct 108 = .ok (.getfield 63, 3) := by decide +kernel
theorem dX10_doesAct_111 : decode cX10_doesAct 111 = .ok (.iload_n 1, 1) := by decide +kernel
theorem dX10_doesAct_112 : decode cX10_doesAct 112 = .ok (.iaload, 1) := by decide +kernel
theorem dX10_doesAct_113 : decode cX10_doesAct 113 = .ok (.invokevirtual 260, 3) := by decide +kernel
theorem dX10_doesAct_116 : decode cX10_doesAct 116 = .ok (.ireturn, 1) := by decide +kernel
def b_X10_doesAct_0 (h : q_H) (v0 : Nat) (v1 : Int32) : Option (q_H × Int32) :=
  Option.bind (q_gR 9 15 h v0) (fun x1 => Option.bind (q_lI 0 h x1 v1) (fun x2 => if x2 = (0) then Option.bind (q_gR 9 16 h v0) (fun x4 => Option.bind (q_lI 0 h x4 v1) (fun x5 => Option.bind (q_gR 9 17 h v0) (fun x6 => Option.bind (q_lI 0 h x6 v1) (fun x7 => Option.bind (q_gR 9 18 h v0) (fun x8 => Option.bind (q_lI 0 h x8 v1) (fun x9 => Option.bind (q_gR 9 19 h v0) (fun x10 => Option.bind (q_lI 0 h x10 v1) (fun x11 => Option.bind (f_X10_makesOne h v0 x5 ((2) + x7) x9 x11) (fun q12 => some (q12.1, q12.2)))))))))) else if x2 = (1) then Option.bind (q_gR 9 16 h v0) (fun x14 => Option.bind (q_lI 0 h x14 v1) (fun x15 => Option.bind (f_X10_beatsOne h v0 x15) (fun q16 => some (q16.1, q16.2)))) else if x2 = (2) then Option.bind (q_gR 9 16 h v0) (fun x18 => Option.bind (q_lI 0 h x18 v1) (fun x19 => Option.bind (q_gR 9 17 h v0) (fun x20 => Option.bind (q_lI 0 h x20 v1) (fun x21 => Option.bind (f_X10_comesOne h v0 x19 x21) (fun q22 => some (q22.1, q22.2)))))) else if x2 = (3) then Option.bind (q_gR 9 16 h v0) (fun x24 => Option.bind (q_lI 0 h x24 v1) (fun x25 => Option.bind (f_X10_gathersOne h v0 x25) (fun q26 => some (q26.1, q26.2)))) else Option.bind (q_gR 9 16 h v0) (fun x27 => Option.bind (q_lI 0 h x27 v1) (fun x28 => Option.bind (f_X10_cutsOne h v0 x28) (fun q29 => some (q29.1, q29.2))))))
def f_X10_doesAct (h : q_H) (a0 : Nat) (a1 : Int32) : Option (q_H × Int32) := q_chk 9 h a0 (b_X10_doesAct_0 h a0 a1)
set_option maxRecDepth 20000 in
set_option maxHeartbeats 1000000 in
theorem jb_X10_doesAct_0 {G : q_G} {l : Launch} {k0 z0 : Nat} (h : q_H) (v0 : Nat) (v1 : Int32) : q_J G l (RX10, cX10_doesAct, 2, 7, 163, (some .int), "doesAct", []) k0 z0 (q_Z G k0 z0 q_i) 0 [(0, .ref v0), (1, .int v1)] [] h (b_X10_doesAct_0 h v0 v1) := by
  unfold b_X10_doesAct_0
  refine j_aload_n (pc := 0) (p := 0) rfl rfl dX10_doesAct_0 ?_
  refine j_getR (pc := 1) FI_X10 (k := 15) (by decide) fl_X10_60 dX10_doesAct_1 (fun x1 _ => ?_)
  refine j_iload_n (pc := 4) (p := 1) rfl rfl dX10_doesAct_4 ?_
  refine j_iald (pc := 5) dX10_doesAct_5 (fun x2 _ => ?_)
  refine j_ite (fun c3 => ?_) (fun c3 => ?_)
  · refine j_tsI (pc := 6) (y := 0) (off := 30) (tgt := 36) dX10_doesAct_6 c3 ⟨by decide, by decide, by decide⟩ (by decide) ?_
    refine j_aload_n (pc := 36) (p := 0) rfl rfl dX10_doesAct_36 ?_
    refine j_aload_n (pc := 37) (p := 0) rfl rfl dX10_doesAct_37 ?_
    refine j_getR (pc := 38) FI_X10 (k := 16) (by decide) fl_X10_63 dX10_doesAct_38 (fun x4 _ => ?_)
    refine j_iload_n (pc := 41) (p := 1) rfl rfl dX10_doesAct_41 ?_
    refine j_iald (pc := 42) dX10_doesAct_42 (fun x5 _ => ?_)
    refine j_iconst (pc := 43) ki_2 dX10_doesAct_43 ?_
    refine j_aload_n (pc := 44) (p := 0) rfl rfl dX10_doesAct_44 ?_
    refine j_getR (pc := 45) FI_X10 (k := 17) (by decide) fl_X10_66 dX10_doesAct_45 (fun x6 _ => ?_)
    refine j_iload_n (pc := 48) (p := 1) rfl rfl dX10_doesAct_48 ?_
    refine j_iald (pc := 49) dX10_doesAct_49 (fun x7 _ => ?_)
    refine j_iadd (pc := 50) dX10_doesAct_50 ?_
    refine j_aload_n (pc := 51) (p := 0) rfl rfl dX10_doesAct_51 ?_
    refine j_getR (pc := 52) FI_X10 (k := 18) (by decide) fl_X10_69 dX10_doesAct_52 (fun x8 _ => ?_)
    refine j_iload_n (pc := 55) (p := 1) rfl rfl dX10_doesAct_55 ?_
    refine j_iald (pc := 56) dX10_doesAct_56 (fun x9 _ => ?_)
    refine j_aload_n (pc := 57) (p := 0) rfl rfl dX10_doesAct_57 ?_
    refine j_getR (pc := 58) FI_X10 (k := 19) (by decide) fl_X10_72 dX10_doesAct_58 (fun x10 _ => ?_)
    refine j_iload_n (pc := 61) (p := 1) rfl rfl dX10_doesAct_61 ?_
    refine j_iald (pc := 62) dX10_doesAct_62 (fun x11 _ => ?_)
    refine j_cVi (pc := 63) Y_X10_makesOne (ci := 9) (b := v0) rfl rfl ml_X10_198 im_X10_makesOne se_X10_makesOne ⟨Nat.le_of_ble_eq_true rfl, Nat.le_of_ble_eq_true rfl⟩ dX10_doesAct_63 (As := [.int x5, .int ((2) + x7), .int x9, .int x11]) (rest := []) rfl rfl (Nat.le_of_ble_eq_true rfl) (fun x hq9 => c_X10_makesOne _ _ _ _ _ _ _ hq9) (fun q12 _ => ?_)
    exact j_iret (pc := 66) rfl dX10_doesAct_66
  refine j_ite (fun c13 => ?_) (fun c13 => ?_)
  · refine j_tsI (pc := 6) (y := 1) (off := 61) (tgt := 67) dX10_doesAct_6 c13 ⟨by decide, by decide, by decide⟩ (by decide) ?_
    refine j_aload_n (pc := 67) (p := 0) rfl rfl dX10_doesAct_67 ?_
    refine j_aload_n (pc := 68) (p := 0) rfl rfl dX10_doesAct_68 ?_
    refine j_getR (pc := 69) FI_X10 (k := 16) (by decide) fl_X10_63 dX10_doesAct_69 (fun x14 _ => ?_)
    refine j_iload_n (pc := 72) (p := 1) rfl rfl dX10_doesAct_72 ?_
    refine j_iald (pc := 73) dX10_doesAct_73 (fun x15 _ => ?_)
    refine j_cVi (pc := 74) Y_X10_beatsOne (ci := 9) (b := v0) rfl rfl ml_X10_206 im_X10_beatsOne se_X10_beatsOne ⟨Nat.le_of_ble_eq_true rfl, Nat.le_of_ble_eq_true rfl⟩ dX10_doesAct_74 (As := [.int x15]) (rest := []) rfl rfl (Nat.le_of_ble_eq_true rfl) (fun x hq9 => c_X10_beatsOne _ _ _ _ hq9) (fun q16 _ => ?_)
    exact j_iret (pc := 77) rfl dX10_doesAct_77
  refine j_ite (fun c17 => ?_) (fun c17 => ?_)
  · refine j_tsI (pc := 6) (y := 2) (off := 72) (tgt := 78) dX10_doesAct_6 c17 ⟨by decide, by decide, by decide⟩ (by decide) ?_
    refine j_aload_n (pc := 78) (p := 0) rfl rfl dX10_doesAct_78 ?_
    refine j_aload_n (pc := 79) (p := 0) rfl rfl dX10_doesAct_79 ?_
    refine j_getR (pc := 80) FI_X10 (k := 16) (by decide) fl_X10_63 dX10_doesAct_80 (fun x18 _ => ?_)
    refine j_iload_n (pc := 83) (p := 1) rfl rfl dX10_doesAct_83 ?_
    refine j_iald (pc := 84) dX10_doesAct_84 (fun x19 _ => ?_)
    refine j_aload_n (pc := 85) (p := 0) rfl rfl dX10_doesAct_85 ?_
    refine j_getR (pc := 86) FI_X10 (k := 17) (by decide) fl_X10_66 dX10_doesAct_86 (fun x20 _ => ?_)
    refine j_iload_n (pc := 89) (p := 1) rfl rfl dX10_doesAct_89 ?_
    refine j_iald (pc := 90) dX10_doesAct_90 (fun x21 _ => ?_)
    refine j_cVi (pc := 91) Y_X10_comesOne (ci := 9) (b := v0) rfl rfl ml_X10_232 im_X10_comesOne se_X10_comesOne ⟨Nat.le_of_ble_eq_true rfl, Nat.le_of_ble_eq_true rfl⟩ dX10_doesAct_91 (As := [.int x19, .int x21]) (rest := []) rfl rfl (Nat.le_of_ble_eq_true rfl) (fun x hq9 => c_X10_comesOne _ _ _ _ _ hq9) (fun q22 _ => ?_)
    exact j_iret (pc := 94) rfl dX10_doesAct_94
  refine j_ite (fun c23 => ?_) (fun c23 => ?_)
  · refine j_tsI (pc := 6) (y := 3) (off := 89) (tgt := 95) dX10_doesAct_6 c23 ⟨by decide, by decide, by decide⟩ (by decide) ?_
    refine j_aload_n (pc := 95) (p := 0) rfl rfl dX10_doesAct_95 ?_
    refine j_aload_n (pc := 96) (p := 0) rfl rfl dX10_doesAct_96 ?_
    refine j_getR (pc := 97) FI_X10 (k := 16) (by decide) fl_X10_63 dX10_doesAct_97 (fun x24 _ => ?_)
    refine j_iload_n (pc := 100) (p := 1) rfl rfl dX10_doesAct_100 ?_
    refine j_iald (pc := 101) dX10_doesAct_101 (fun x25 _ => ?_)
    refine j_cVi (pc := 102) Y_X10_gathersOne (ci := 9) (b := v0) rfl rfl ml_X10_247 im_X10_gathersOne se_X10_gathersOne ⟨Nat.le_of_ble_eq_true rfl, Nat.le_of_ble_eq_true rfl⟩ dX10_doesAct_102 (As := [.int x25]) (rest := []) rfl rfl (Nat.le_of_ble_eq_true rfl) (fun x hq9 => c_X10_gathersOne _ _ _ _ hq9) (fun q26 _ => ?_)
    exact j_iret (pc := 105) rfl dX10_doesAct_105
  refine j_tsO (pc := 6) (tgt := 106) dX10_doesAct_6 (by have a_c3 := lv_neT c3 (show ((0 : Int32)).toInt = 0 by decide); have a_c13 := lv_neT c13 (show ((1 : Int32)).toInt = 1 by decide); have a_c17 := lv_neT c17 (show ((2 : Int32)).toInt = 2 by decide); have a_c23 := lv_neT c23 (show ((3 : Int32)).toInt = 3 by decide); omega) (by decide) ?_
  refine j_aload_n (pc := 106) (p := 0) rfl rfl dX10_doesAct_106 ?_
  refine j_aload_n (pc := 107) (p := 0) rfl rfl dX10_doesAct_107 ?_
  refine j_getR (pc := 108) FI_X10 (k := 16) (by decide) fl_X10_63 dX10_doesAct_108 (fun x27 _ => ?_)
  refine j_iload_n (pc := 111) (p := 1) rfl rfl dX10_doesAct_111 ?_
  refine j_iald (pc := 112) dX10_doesAct_112 (fun x28 _ => ?_)
  refine j_cVi (pc := 113) Y_X10_cutsOne (ci := 9) (b := v0) rfl rfl ml_X10_260 im_X10_cutsOne se_X10_cutsOne ⟨Nat.le_of_ble_eq_true rfl, Nat.le_of_ble_eq_true rfl⟩ dX10_doesAct_113 (As := [.int x28]) (rest := []) rfl rfl (Nat.le_of_ble_eq_true rfl) (fun x hq9 => c_X10_cutsOne _ _ _ _ hq9) (fun q29 _ => ?_)
  exact j_iret (pc := 116) rfl dX10_doesAct_116
set_option maxRecDepth 20000 in
set_option maxHeartbeats 1000000 in
theorem c_X10_doesAct {G : q_G} {l : Launch} : ∀ (h : q_H) (a0 : Nat) (a1 : Int32) (q : q_H × Int32), f_X10_doesAct h a0 a1 = some q → (∃ fs, h.1 a0 = .inr (9, fs)) ∧ q_CT G l yX10_doesAct cX10_doesAct 2 (some .int) 7 163 [.ref a0, .int a1] h q.1 (q_i q.2) := by
  intro h a0 a1 q e
  obtain ⟨e1, e2⟩ := q_chk_ok e
  exact ⟨e1, q_ofJ Y_X10_doesAct (Nat.le_of_ble_eq_true rfl) (jb_X10_doesAct_0 h a0 a1) q e2⟩
/-! FarFoldersModel.day()I -/
theorem dX10_day_0 : decode cX10_day 0 = .ok (.aload_n 0, 1) := by decide +kernel
theorem dX10_day_1 : decode cX10_day 1 = .ok (.iconst 0, 1) := by decide +kernel
theorem dX10_day_2 : decode cX10_day 2 = .ok (.putfield 1, 3) := by decide +kernel
theorem dX10_day_5 : decode cX10_day 5 = .ok (.aload_n 0, 1) := by decide +kernel
theorem dX10_day_6 : decode cX10_day 6 = .ok (.invokevirtual 278, 3) := by decide +kernel
theorem dX10_day_9 : decode cX10_day 9 = .ok (.iconst 0, 1) := by decide +kernel
theorem dX10_day_10 : decode cX10_day 10 = .ok (.istore_n 1, 1) := by decide +kernel
theorem dX10_day_11 : decode cX10_day 11 = .ok (.aload_n 0, 1) := by decide +kernel
theorem dX10_day_12 : decode cX10_day 12 = .ok (.getfield 28, 3) := by decide +kernel
theorem dX10_day_15 : decode cX10_day 15 = .ok (.aload_n 0, 1) := by decide +kernel
theorem dX10_day_16 : decode cX10_day 16 = .ok (.getfield 25, 3) := by decide +kernel
theorem dX10_day_19 : decode cX10_day 19 = .ok (.if_icmp .ge 24, 3) := by decide +kernel
theorem dX10_day_22 : decode cX10_day 22 = .ok (.aload_n 0, 1) := by decide +kernel
theorem dX10_day_23 : decode cX10_day 23 = .ok (.iload_n 1, 1) := by decide +kernel
theorem dX10_day_24 : decode cX10_day 24 = .ok (.invokevirtual 281, 3) := by decide +kernel
theorem dX10_day_27 : decode cX10_day 27 = .ok (.ifCond .ne 10, 3) := by decide +kernel
theorem dX10_day_30 : decode cX10_day 30 = .ok (.iconst (-1), 1) := by decide +kernel
theorem dX10_day_31 : decode cX10_day 31 = .ok (.aload_n 0, 1) := by decide +kernel
theorem dX10_day_32 : decode cX10_day 32 = .ok (.getfield 28, 3) := by decide +kernel
theorem dX10_day_35 : decode cX10_day 35 = .ok (.isub, 1) := by decide +kernel
theorem dX10_day_36 : decode cX10_day 36 = .ok (.ireturn, 1) := by decide +kernel
theorem dX10_day_37 : decode cX10_day 37 = .ok (.iinc 1 1, 3) := by decide +kernel
theorem dX10_day_40 : decode cX10_day 40 = .ok (.goto (-29), 3) := by decide +kernel
theorem dX10_day_43 : decode cX10_day 43 = .ok (.iconst 0, 1) := by decide +kernel
theorem dX10_day_44 : decode cX10_day 44 = .ok (.istore_n 2, 1) := by decide +kernel
theorem dX10_day_45 : decode cX10_day 45 = .ok (.iload_n 2, 1) := by decide +kernel
theorem dX10_day_46 : decode cX10_day 46 = .ok (.iload_n 1, 1) := by decide +kernel
theorem dX10_day_47 : decode cX10_day 47 = .ok (.if_icmp .ge 17, 3) := by decide +kernel
theorem dX10_day_50 : decode cX10_day 50 = .ok (.aload_n 0, 1) := by decide +kernel
theorem dX10_day_51 : decode cX10_day 51 = .ok (.iload_n 2, 1) := by decide +kernel
theorem dX10_day_52 : decode cX10_day 52 = .ok (.invokevirtual 284, 3) := by decide +kernel
theorem dX10_day_55 : decode cX10_day 55 = .ok (.ifCond .lt 9, 3) := by decide +kernel
theorem dX10_day_58 : decode cX10_day 58 = .ok (.iinc 2 1, 3) := by decide +kernel
theorem dX10_day_61 : decode cX10_day 61 = .ok (.goto (-16), 3) := by decide +kernel
theorem dX10_day_64 : decode cX10_day 64 = .ok (.aload_n 0, 1) := by decide +kernel
theorem dX10_day_65 : decode cX10_day 65 = .ok (.iconst 0, 1) := by decide +kernel
theorem dX10_day_66 : decode cX10_day 66 = .ok (.putfield 11, 3) := by decide +kernel
theorem dX10_day_69 : decode cX10_day 69 = .ok (.aload_n 0, 1) := by decide +kernel
theorem dX10_day_70 : decode cX10_day 70 = .ok (.iload_n 2, 1) := by decide +kernel
theorem dX10_day_71 : decode cX10_day 71 = .ok (.iload_n 1, 1) := by decide +kernel
theorem dX10_day_72 : decode cX10_day 72 = .ok (.if_icmp .ge 7, 3) := by decide +kernel
theorem dX10_day_75 : decode cX10_day 75 = .ok (.iconst 1, 1) := by decide +kernel
theorem dX10_day_76 : decode cX10_day 76 = .ok (.goto 4, 3) := by decide +kernel
theorem dX10_day_79 : decode cX10_day 79 = .ok (.iconst 0, 1) := by decide +kernel
theorem dX10_day_80 : decode cX10_day 80 = .ok (.invokestatic 115, 3) := by decide +kernel
theorem dX10_day_83 : decode cX10_day 83 = .ok (.i2l, 1) := by decide +kernel
theorem dX10_day_84 : decode cX10_day 84 = .ok (.invokevirtual 202, 3) := by decide +kernel
theorem dX10_day_87 : decode cX10_day 87 = .ok (.iload_n 2, 1) := by decide +kernel
theorem dX10_day_88 : decode cX10_day 88 = .ok (.ireturn, 1) := by decide +kernel
def b_X10_day_80 (h : q_H) (v2 : Int32) (s0 : Nat) (s1 : Int32) : Option (q_H × Int32) :=
  Option.bind (f_X10_flag h s1) (fun q1 => Option.bind (f_X10_enters q1.1 s0 (Int32.toInt64 q1.2)) (fun q2 => some (q2.1, v2)))
def b_X10_day_64 (h : q_H) (v0 : Nat) (v1 : Int32) (v2 : Int32) : Option (q_H × Int32) :=
  Option.bind (q_p 9 1 h v0 (.int (0))) (fun h3 => if v1 ≤ v2 then b_X10_day_80 h3 v2 v0 (0) else b_X10_day_80 h3 v2 v0 (1))
def b_X10_day_45 (k45 : q_H → Nat → Int32 → Int32 → Option (q_H × Int32)) (h : q_H) (v0 : Nat) (v1 : Int32) (v2 : Int32) : Option (q_H × Int32) :=
  if v1 ≤ v2 then b_X10_day_64 h v0 v1 v2 else Option.bind (f_X10_doesAct h v0 v2) (fun q4 => if q4.2 < 0 then b_X10_day_64 q4.1 v0 v1 v2 else k45 q4.1 v0 v1 (v2 + 1))
def l_X10_day_45 : Nat → q_H → Nat → Int32 → Int32 → Option (q_H × Int32)
  | 0, _, _, _, _ => none
  | n + 1, h, v0, v1, v2 => b_X10_day_45 (l_X10_day_45 n) h v0 v1 v2
def b_X10_day_11 (k11 : q_H → Nat → Int32 → Option (q_H × Int32)) (h : q_H) (v0 : Nat) (v1 : Int32) : Option (q_H × Int32) :=
  Option.bind (q_gI 9 5 h v0) (fun x5 => Option.bind (q_gI 9 6 h v0) (fun x6 => if x6 ≤ x5 then l_X10_day_45 q_FU h v0 v1 (0) else Option.bind (f_X10_readsAct h v0 v1) (fun q7 => if q7.2 = 0 then Option.bind (q_gI 9 5 q7.1 v0) (fun x8 => some (q7.1, ((-1) - x8))) else k11 q7.1 v0 (v1 + 1))))
def l_X10_day_11 : Nat → q_H → Nat → Int32 → Option (q_H × Int32)
  | 0, _, _, _ => none
  | n + 1, h, v0, v1 => b_X10_day_11 (l_X10_day_11 n) h v0 v1
def b_X10_day_0 (h : q_H) (v0 : Nat) : Option (q_H × Int32) :=
  Option.bind (q_p 9 0 h v0 (.int (0))) (fun h9 => Option.bind (f_X10_reads h9 v0) (fun q10 => l_X10_day_11 q_FU q10.1 v0 (0)))
def f_X10_day (h : q_H) (a0 : Nat) : Option (q_H × Int32) := q_chk 9 h a0 (b_X10_day_0 h a0)
set_option maxRecDepth 20000 in
set_option maxHeartbeats 1000000 in
theorem jb_X10_day_80 {G : q_G} {l : Launch} {k0 z0 : Nat} (h : q_H) (v2 : Int32) (s0 : Nat) (s1 : Int32) : q_J G l (RX10, cX10_day, 3, 11, 364, (some .int), "day", []) k0 z0 (q_Z G k0 z0 q_i) 80 [(2, .int v2)] [.int s1, .ref s0] h (b_X10_day_80 h v2 s0 s1) := by
  unfold b_X10_day_80
  refine j_cSi (pc := 80) Y_X10_flag ml_X10_115 sm_X10_flag ⟨Nat.le_of_ble_eq_true rfl, Nat.le_of_ble_eq_true rfl⟩ dX10_day_80 (As := [.int s1]) (rest := [.ref s0]) rfl rfl (Nat.le_of_ble_eq_true rfl) (fun x hq9 => c_X10_flag _ _ _ hq9) (fun q1 _ => ?_)
  refine j_i2l (pc := 83) dX10_day_83 ?_
  refine j_cVu (pc := 84) Y_X10_enters (ci := 9) (b := s0) rfl rfl ml_X10_202 im_X10_enters se_X10_enters ⟨Nat.le_of_ble_eq_true rfl, Nat.le_of_ble_eq_true rfl⟩ dX10_day_84 (As := [.long (Int32.toInt64 q1.2)]) (rest := []) rfl rfl (Nat.le_of_ble_eq_true rfl) (fun x hq9 => c_X10_enters _ _ _ _ hq9) (fun q2 _ => ?_)
  refine j_iload_n (pc := 87) (p := 0) rfl rfl dX10_day_87 ?_
  exact j_iret (pc := 88) rfl dX10_day_88
set_option maxRecDepth 20000 in
set_option maxHeartbeats 1000000 in
theorem jb_X10_day_64 {G : q_G} {l : Launch} {k0 z0 : Nat} (h : q_H) (v0 : Nat) (v1 : Int32) (v2 : Int32) : q_J G l (RX10, cX10_day, 3, 11, 364, (some .int), "day", []) k0 z0 (q_Z G k0 z0 q_i) 64 [(0, .ref v0), (1, .int v1), (2, .int v2)] [] h (b_X10_day_64 h v0 v1 v2) := by
  unfold b_X10_day_64
  refine j_aload_n (pc := 64) (p := 0) rfl rfl dX10_day_64 ?_
  refine j_iconst (pc := 65) ki_0 dX10_day_65 ?_
  refine j_put (pc := 66) FI_X10 (k := 1) (by decide) fl_X10_11 rfl rfl rfl dX10_day_66 (fun h3 _ => ?_)
  refine j_aload_n (pc := 69) (p := 0) rfl rfl dX10_day_69 ?_
  refine j_iload_n (pc := 70) (p := 2) rfl rfl dX10_day_70 ?_
  refine j_iload_n (pc := 71) (p := 1) rfl rfl dX10_day_71 ?_
  refine j_ic_ge (pc := 72) (tgt := 79) dX10_day_72 (by decide) (fun _ => ?_) (fun _ => ?_)
  · refine j_iconst (pc := 79) ki_0 dX10_day_79 ?_
    refine j_sub [2] (lv' := [(2, .int v2)]) rfl ?_
    exact jb_X10_day_80 _ _ _ _
  refine j_iconst (pc := 75) ki_1 dX10_day_75 ?_
  refine j_goto (pc := 76) (tgt := 80) dX10_day_76 (by decide) ?_
  refine j_sub [2] (lv' := [(2, .int v2)]) rfl ?_
  exact jb_X10_day_80 _ _ _ _
set_option maxRecDepth 20000 in
set_option maxHeartbeats 1000000 in
theorem jb_X10_day_45 {G : q_G} {l : Launch} {k0 z0 : Nat} (k45 : q_H → Nat → Int32 → Int32 → Option (q_H × Int32)) (hk45 : ∀ (h : q_H) (v0 : Nat) (v1 : Int32) (v2 : Int32), q_J G l (RX10, cX10_day, 3, 11, 364, (some .int), "day", []) k0 z0 (q_Z G k0 z0 q_i) 45 [(0, .ref v0), (1, .int v1), (2, .int v2)] [] h (k45 h v0 v1 v2)) (h : q_H) (v0 : Nat) (v1 : Int32) (v2 : Int32) : q_J G l (RX10, cX10_day, 3, 11, 364, (some .int), "day", []) k0 z0 (q_Z G k0 z0 q_i) 45 [(0, .ref v0), (1, .int v1), (2, .int v2)] [] h (b_X10_day_45 k45 h v0 v1 v2) := by
  unfold b_X10_day_45
  refine j_iload_n (pc := 45) (p := 2) rfl rfl dX10_day_45 ?_
  refine j_iload_n (pc := 46) (p := 1) rfl rfl dX10_day_46 ?_
  refine j_ic_ge (pc := 47) (tgt := 64) dX10_day_47 (by decide) (fun _ => ?_) (fun _ => ?_)
  · exact jb_X10_day_64 _ _ _ _
  refine j_aload_n (pc := 50) (p := 0) rfl rfl dX10_day_50 ?_
  refine j_iload_n (pc := 51) (p := 2) rfl rfl dX10_day_51 ?_
  refine j_cVi (pc := 52) Y_X10_doesAct (ci := 9) (b := v0) rfl rfl ml_X10_284 im_X10_doesAct se_X10_doesAct ⟨Nat.le_of_ble_eq_true rfl, Nat.le_of_ble_eq_true rfl⟩ dX10_day_52 (As := [.int v2]) (rest := []) rfl rfl (Nat.le_of_ble_eq_true rfl) (fun x hq9 => c_X10_doesAct _ _ _ _ hq9) (fun q4 _ => ?_)
  refine j_if_lt (pc := 55) (tgt := 64) dX10_day_55 (by decide) (fun _ => ?_) (fun _ => ?_)
  · exact jb_X10_day_64 _ _ _ _
  refine j_inc (pc := 58) (p := 2) (lv' := [(2, .int (v2 + 1)), (0, .ref v0), (1, .int v1)]) rfl ki_1 (by decide) rfl dX10_day_58 ?_
  refine j_goto (pc := 61) (tgt := 45) dX10_day_61 (by decide) ?_
  refine j_sub [1, 2, 0] (lv' := [(0, .ref v0), (1, .int v1), (2, .int (v2 + 1))]) rfl ?_
  exact hk45 _ _ _ _
set_option maxRecDepth 20000 in
set_option maxHeartbeats 1000000 in
theorem jl_X10_day_45 {G : q_G} {l : Launch} {k0 z0 : Nat} (n : Nat) : ∀ (h : q_H) (v0 : Nat) (v1 : Int32) (v2 : Int32), q_J G l (RX10, cX10_day, 3, 11, 364, (some .int), "day", []) k0 z0 (q_Z G k0 z0 q_i) 45 [(0, .ref v0), (1, .int v1), (2, .int v2)] [] h (l_X10_day_45 n h v0 v1 v2) := by
  induction n with
  | zero => intro h v0 v1 v2; exact j_none
  | succ n ih => intro h v0 v1 v2; exact jb_X10_day_45 (l_X10_day_45 n) ih h v0 v1 v2
set_option maxRecDepth 20000 in
set_option maxHeartbeats 1000000 in
theorem jb_X10_day_11 {G : q_G} {l : Launch} {k0 z0 : Nat} (k11 : q_H → Nat → Int32 → Option (q_H × Int32)) (hk11 : ∀ (h : q_H) (v0 : Nat) (v1 : Int32), q_J G l (RX10, cX10_day, 3, 11, 364, (some .int), "day", []) k0 z0 (q_Z G k0 z0 q_i) 11 [(0, .ref v0), (1, .int v1)] [] h (k11 h v0 v1)) (h : q_H) (v0 : Nat) (v1 : Int32) : q_J G l (RX10, cX10_day, 3, 11, 364, (some .int), "day", []) k0 z0 (q_Z G k0 z0 q_i) 11 [(0, .ref v0), (1, .int v1)] [] h (b_X10_day_11 k11 h v0 v1) := by
  unfold b_X10_day_11
  refine j_aload_n (pc := 11) (p := 0) rfl rfl dX10_day_11 ?_
  refine j_getI (pc := 12) FI_X10 (k := 5) (by decide) fl_X10_28 dX10_day_12 (fun x5 _ => ?_)
  refine j_aload_n (pc := 15) (p := 0) rfl rfl dX10_day_15 ?_
  refine j_getI (pc := 16) FI_X10 (k := 6) (by decide) fl_X10_25 dX10_day_16 (fun x6 _ => ?_)
  refine j_ic_ge (pc := 19) (tgt := 43) dX10_day_19 (by decide) (fun _ => ?_) (fun _ => ?_)
  · refine j_iconst (pc := 43) ki_0 dX10_day_43 ?_
    refine j_istore_n (pc := 44) (lv' := [(2, .int (0)), (0, .ref v0), (1, .int v1)]) rfl (by decide) rfl dX10_day_44 ?_
    refine j_sub [1, 2, 0] (lv' := [(0, .ref v0), (1, .int v1), (2, .int (0))]) rfl ?_
    exact jl_X10_day_45 q_FU _ _ _ _
  refine j_aload_n (pc := 22) (p := 0) rfl rfl dX10_day_22 ?_
  refine j_iload_n (pc := 23) (p := 1) rfl rfl dX10_day_23 ?_
  refine j_cVi (pc := 24) Y_X10_readsAct (ci := 9) (b := v0) rfl rfl ml_X10_281 im_X10_readsAct se_X10_readsAct ⟨Nat.le_of_ble_eq_true rfl, Nat.le_of_ble_eq_true rfl⟩ dX10_day_24 (As := [.int v1]) (rest := []) rfl rfl (Nat.le_of_ble_eq_true rfl) (fun x hq9 => c_X10_readsAct _ _ _ _ hq9) (fun q7 _ => ?_)
  refine j_if_ne (pc := 27) (tgt := 37) dX10_day_27 (by decide) (fun _ => ?_) (fun _ => ?_)
  · refine j_iconst (pc := 30) ki_m1 dX10_day_30 ?_
    refine j_aload_n (pc := 31) (p := 0) rfl rfl dX10_day_31 ?_
    refine j_getI (pc := 32) FI_X10 (k := 5) (by decide) fl_X10_28 dX10_day_32 (fun x8 _ => ?_)
    refine j_isub (pc := 35) dX10_day_35 ?_
    exact j_iret (pc := 36) rfl dX10_day_36
  refine j_inc (pc := 37) (p := 1) (lv' := [(1, .int (v1 + 1)), (0, .ref v0)]) rfl ki_1 (by decide) rfl dX10_day_37 ?_
  refine j_goto (pc := 40) (tgt := 11) dX10_day_40 (by decide) ?_
  refine j_sub [1, 0] (lv' := [(0, .ref v0), (1, .int (v1 + 1))]) rfl ?_
  exact hk11 _ _ _
set_option maxRecDepth 20000 in
set_option maxHeartbeats 1000000 in
theorem jl_X10_day_11 {G : q_G} {l : Launch} {k0 z0 : Nat} (n : Nat) : ∀ (h : q_H) (v0 : Nat) (v1 : Int32), q_J G l (RX10, cX10_day, 3, 11, 364, (some .int), "day", []) k0 z0 (q_Z G k0 z0 q_i) 11 [(0, .ref v0), (1, .int v1)] [] h (l_X10_day_11 n h v0 v1) := by
  induction n with
  | zero => intro h v0 v1; exact j_none
  | succ n ih => intro h v0 v1; exact jb_X10_day_11 (l_X10_day_11 n) ih h v0 v1
set_option maxRecDepth 20000 in
set_option maxHeartbeats 1000000 in
theorem jb_X10_day_0 {G : q_G} {l : Launch} {k0 z0 : Nat} (h : q_H) (v0 : Nat) : q_J G l (RX10, cX10_day, 3, 11, 364, (some .int), "day", []) k0 z0 (q_Z G k0 z0 q_i) 0 [(0, .ref v0)] [] h (b_X10_day_0 h v0) := by
  unfold b_X10_day_0
  refine j_aload_n (pc := 0) (p := 0) rfl rfl dX10_day_0 ?_
  refine j_iconst (pc := 1) ki_0 dX10_day_1 ?_
  refine j_put (pc := 2) FI_X10 (k := 0) (by decide) fl_X10_1 rfl rfl rfl dX10_day_2 (fun h9 _ => ?_)
  refine j_aload_n (pc := 5) (p := 0) rfl rfl dX10_day_5 ?_
  refine j_cVu (pc := 6) Y_X10_reads (ci := 9) (b := v0) rfl rfl ml_X10_278 im_X10_reads se_X10_reads ⟨Nat.le_of_ble_eq_true rfl, Nat.le_of_ble_eq_true rfl⟩ dX10_day_6 (As := []) (rest := []) rfl rfl (Nat.le_of_ble_eq_true rfl) (fun x hq9 => c_X10_reads _ _ _ hq9) (fun q10 _ => ?_)
  refine j_iconst (pc := 9) ki_0 dX10_day_9 ?_
  refine j_istore_n (pc := 10) (lv' := [(1, .int (0)), (0, .ref v0)]) rfl (by decide) rfl dX10_day_10 ?_
  refine j_sub [1, 0] (lv' := [(0, .ref v0), (1, .int (0))]) rfl ?_
  exact jl_X10_day_11 q_FU _ _ _
set_option maxRecDepth 20000 in
set_option maxHeartbeats 1000000 in
theorem c_X10_day {G : q_G} {l : Launch} : ∀ (h : q_H) (a0 : Nat) (q : q_H × Int32), f_X10_day h a0 = some q → (∃ fs, h.1 a0 = .inr (9, fs)) ∧ q_CT G l yX10_day cX10_day 3 (some .int) 11 364 [.ref a0] h q.1 (q_i q.2) := by
  intro h a0 q e
  obtain ⟨e1, e2⟩ := q_chk_ok e
  exact ⟨e1, q_ofJ Y_X10_day (Nat.le_of_ble_eq_true rfl) (jb_X10_day_0 h a0) q e2⟩
/-! FarFoldersModel.topOf(I)I -/
theorem dX10_topOf_0 : decode cX10_topOf 0 = .ok (.aload_n 0, 1) := by decide +kernel
theorem dX10_topOf_1 : decode cX10_topOf 1 = .ok (.iconst 0, 1) := by decide +kernel
theorem dX10_topOf_2 : decode cX10_topOf 2 = .ok (.iload_n 1, 1) := by decide +kernel
theorem dX10_topOf_3 : decode cX10_topOf 3 = .ok (.iconst 1, 1) := by decide +kernel
theorem dX10_topOf_4 : decode cX10_topOf 4 = .ok (.invokevirtual 137, 3) := by decide +kernel
theorem dX10_topOf_7 : decode cX10_topOf 7 = .ok (.ifCond .eq 7, 3) := by decide +kernel
theorem dX10_topOf_10 : decode cX10_topOf 10 = .ok (.iconst 1, 1) := by decide +kernel
theorem dX10_topOf_11 : decode cX10_topOf 11 = .ok (.goto 4, 3) := by decide +kernel
theorem dX10_topOf_14 : decode cX10_topOf 14 = .ok (.iconst 0, 1) := by decide +kernel
theorem dX10_topOf_15 : decode cX10_topOf 15 = .ok (.ireturn, 1) := by decide +kernel
def b_X10_topOf_0 (h : q_H) (v0 : Nat) (v1 : Int32) : Option (q_H × Int32) :=
  Option.bind (f_X10_isUnder h v0 (0) v1 (1)) (fun q1 => if q1.2 = 0 then some (q1.1, (0)) else some (q1.1, (1)))
def f_X10_topOf (h : q_H) (a0 : Nat) (a1 : Int32) : Option (q_H × Int32) := q_chk 9 h a0 (b_X10_topOf_0 h a0 a1)
set_option maxRecDepth 20000 in
set_option maxHeartbeats 1000000 in
theorem jb_X10_topOf_0 {G : q_G} {l : Launch} {k0 z0 : Nat} (h : q_H) (v0 : Nat) (v1 : Int32) : q_J G l (RX10, cX10_topOf, 2, 2, 47, (some .int), "topOf", []) k0 z0 (q_Z G k0 z0 q_i) 0 [(0, .ref v0), (1, .int v1)] [] h (b_X10_topOf_0 h v0 v1) := by
  unfold b_X10_topOf_0
  refine j_aload_n (pc := 0) (p := 0) rfl rfl dX10_topOf_0 ?_
  refine j_iconst (pc := 1) ki_0 dX10_topOf_1 ?_
  refine j_iload_n (pc := 2) (p := 1) rfl rfl dX10_topOf_2 ?_
  refine j_iconst (pc := 3) ki_1 dX10_topOf_3 ?_
  refine j_cVi (pc := 4) Y_X10_isUnder (ci := 9) (b := v0) rfl rfl ml_X10_137 im_X10_isUnder se_X10_isUnder ⟨Nat.le_of_ble_eq_true rfl, Nat.le_of_ble_eq_true rfl⟩ dX10_topOf_4 (As := [.int (0), .int v1, .int (1)]) (rest := []) rfl rfl (Nat.le_of_ble_eq_true rfl) (fun x hq9 => c_X10_isUnder _ _ _ _ _ _ hq9) (fun q1 _ => ?_)
  refine j_if_eq (pc := 7) (tgt := 14) dX10_topOf_7 (by decide) (fun _ => ?_) (fun _ => ?_)
  · refine j_iconst (pc := 14) ki_0 dX10_topOf_14 ?_
    exact j_iret (pc := 15) rfl dX10_topOf_15
  refine j_iconst (pc := 10) ki_1 dX10_topOf_10 ?_
  refine j_goto (pc := 11) (tgt := 15) dX10_topOf_11 (by decide) ?_
  exact j_iret (pc := 15) rfl dX10_topOf_15
set_option maxRecDepth 20000 in
set_option maxHeartbeats 1000000 in
theorem c_X10_topOf {G : q_G} {l : Launch} : ∀ (h : q_H) (a0 : Nat) (a1 : Int32) (q : q_H × Int32), f_X10_topOf h a0 a1 = some q → (∃ fs, h.1 a0 = .inr (9, fs)) ∧ q_CT G l yX10_topOf cX10_topOf 2 (some .int) 2 47 [.ref a0, .int a1] h q.1 (q_i q.2) := by
  intro h a0 a1 q e
  obtain ⟨e1, e2⟩ := q_chk_ok e
  exact ⟨e1, q_ofJ Y_X10_topOf (Nat.le_of_ble_eq_true rfl) (jb_X10_topOf_0 h a0 a1) q e2⟩
/-! FarFoldersModel.stepsUp(II)I -/
theorem dX10_stepsUp_0 : decode cX10_stepsUp 0 = .ok (.iconst 0, 1) := by decide +kernel
theorem dX10_stepsUp_1 : decode cX10_stepsUp 1 = .ok (.istore_n 3, 1) := by decide +kernel
theorem dX10_stepsUp_2 : decode cX10_stepsUp 2 = .ok (.iload_n 1, 1) := by decide +kernel
theorem dX10_stepsUp_3 : decode cX10_stepsUp 3 = .ok (.istore 4, 2) := by decide +kernel
theorem dX10_stepsUp_5 : decode cX10_stepsUp 5 = .ok (.iload 4, 2) := by decide +kernel
theorem dX10_stepsUp_7 : decode cX10_stepsUp 7 = .ok (.iload_n 2, 1) := by decide +kernel
theorem dX10_stepsUp_8 : decode cX10_stepsUp 8 = .ok (.if_icmp .eq 25, 3) := by decide +kernel
theorem dX10_stepsUp_11 : decode cX10_stepsUp 11 = .ok (.iload 4, 2) := by decide +kernel
theorem dX10_stepsUp_13 : decode cX10_stepsUp 13 = .ok (.iconst 2, 1) := by decide +kernel
theorem dX10_stepsUp_14 : decode cX10_stepsUp 14 = .ok (.if_icmp .lt 19, 3) := by decide +kernel
theorem dX10_stepsUp_17 : decode cX10_stepsUp 17 = .ok (.aload_n 0, 1) := by decide +kernel
theorem dX10_stepsUp_18 : decode cX10_stepsUp 18 = .ok (.iconst 0, 1) := by decide +kernel
theorem dX10_stepsUp_19 : decode cX10_stepsUp 19 = .ok (.iload 4, 2) := by decide +kernel
theorem dX10_stepsUp_21 : decode cX10_stepsUp 21 = .ok (.iconst 0, 1) := by decide +kernel
theorem dX10_stepsUp_22 : decode cX10_stepsUp 22 = .ok (.invokevirtual 129, 3) := by decide +kernel
theorem dX10_stepsUp_25 : decode cX10_stepsUp 25 = .ok (.istore 4, 2) := by decide +kernel
theorem dX10_stepsUp_27 : decode cX10_stepsUp 27 = .ok (.iinc 3 1, 3) := by decide +kernel
theorem dX10_stepsUp_30 : decode cX10_stepsUp 30 = .ok (.goto (-25), 3) := by decide +kernel
theorem dX10_stepsUp_33 : decode cX10_stepsUp 33 = .ok (.iload_n 3, 1) := by decide +kernel
theorem dX10_stepsUp_34 : decode cX10_stepsUp 34 = .ok (.ireturn, 1) := by decide +kernel
def b_X10_stepsUp_5 (k5 : q_H → Nat → Int32 → Int32 → Int32 → Option (q_H × Int32)) (h : q_H) (v0 : Nat) (v2 : Int32) (v3 : Int32) (v4 : Int32) : Option (q_H × Int32) :=
  if v4 = v2 then some (h, v3) else if v4 < (2) then some (h, v3) else Option.bind (f_X10_its h v0 (0) v4 (0)) (fun q1 => k5 q1.1 v0 v2 (v3 + 1) q1.2)
def l_X10_stepsUp_5 : Nat → q_H → Nat → Int32 → Int32 → Int32 → Option (q_H × Int32)
  | 0, _, _, _, _, _ => none
  | n + 1, h, v0, v2, v3, v4 => b_X10_stepsUp_5 (l_X10_stepsUp_5 n) h v0 v2 v3 v4
def b_X10_stepsUp_0 (h : q_H) (v0 : Nat) (v1 : Int32) (v2 : Int32) : Option (q_H × Int32) :=
  l_X10_stepsUp_5 q_FU h v0 v2 (0) v1
def f_X10_stepsUp (h : q_H) (a0 : Nat) (a1 : Int32) (a2 : Int32) : Option (q_H × Int32) := q_chk 9 h a0 (b_X10_stepsUp_0 h a0 a1 a2)
set_option maxRecDepth 20000 in
set_option maxHeartbeats 1000000 in
theorem jb_X10_stepsUp_5 {G : q_G} {l : Launch} {k0 z0 : Nat} (k5 : q_H → Nat → Int32 → Int32 → Int32 → Option (q_H × Int32)) (hk5 : ∀ (h : q_H) (v0 : Nat) (v2 : Int32) (v3 : Int32) (v4 : Int32), q_J G l (RX10, cX10_stepsUp, 5, 1, 23, (some .int), "stepsUp", []) k0 z0 (q_Z G k0 z0 q_i) 5 [(0, .ref v0), (2, .int v2), (3, .int v3), (4, .int v4)] [] h (k5 h v0 v2 v3 v4)) (h : q_H) (v0 : Nat) (v2 : Int32) (v3 : Int32) (v4 : Int32) : q_J G l (RX10, cX10_stepsUp, 5, 1, 23, (some .int), "stepsUp", []) k0 z0 (q_Z G k0 z0 q_i) 5 [(0, .ref v0), (2, .int v2), (3, .int v3), (4, .int v4)] [] h (b_X10_stepsUp_5 k5 h v0 v2 v3 v4) := by
  unfold b_X10_stepsUp_5
  refine j_iload (pc := 5) (p := 3) rfl dX10_stepsUp_5 ?_
  refine j_iload_n (pc := 7) (p := 1) rfl rfl dX10_stepsUp_7 ?_
  refine j_ic_eq (pc := 8) (tgt := 33) dX10_stepsUp_8 (by decide) (fun _ => ?_) (fun _ => ?_)
  · refine j_iload_n (pc := 33) (p := 2) rfl rfl dX10_stepsUp_33 ?_
    exact j_iret (pc := 34) rfl dX10_stepsUp_34
  refine j_iload (pc := 11) (p := 3) rfl dX10_stepsUp_11 ?_
  refine j_iconst (pc := 13) ki_2 dX10_stepsUp_13 ?_
  refine j_ic_lt (pc := 14) (tgt := 33) dX10_stepsUp_14 (by decide) (fun _ => ?_) (fun _ => ?_)
  · refine j_iload_n (pc := 33) (p := 2) rfl rfl dX10_stepsUp_33 ?_
    exact j_iret (pc := 34) rfl dX10_stepsUp_34
  refine j_aload_n (pc := 17) (p := 0) rfl rfl dX10_stepsUp_17 ?_
  refine j_iconst (pc := 18) ki_0 dX10_stepsUp_18 ?_
  refine j_iload (pc := 19) (p := 3) rfl dX10_stepsUp_19 ?_
  refine j_iconst (pc := 21) ki_0 dX10_stepsUp_21 ?_
  refine j_cVi (pc := 22) Y_X10_its (ci := 9) (b := v0) rfl rfl ml_X10_129 im_X10_its se_X10_its ⟨Nat.le_of_ble_eq_true rfl, Nat.le_of_ble_eq_true rfl⟩ dX10_stepsUp_22 (As := [.int (0), .int v4, .int (0)]) (rest := []) rfl rfl (Nat.le_of_ble_eq_true rfl) (fun x hq9 => c_X10_its _ _ _ _ _ _ hq9) (fun q1 _ => ?_)
  refine j_istore (pc := 25) (lv' := [(4, .int q1.2), (0, .ref v0), (2, .int v2), (3, .int v3)]) (by decide) rfl dX10_stepsUp_25 ?_
  refine j_inc (pc := 27) (p := 3) (lv' := [(3, .int (v3 + 1)), (4, .int q1.2), (0, .ref v0), (2, .int v2)]) rfl ki_1 (by decide) rfl dX10_stepsUp_27 ?_
  refine j_goto (pc := 30) (tgt := 5) dX10_stepsUp_30 (by decide) ?_
  refine j_sub [2, 3, 0, 1] (lv' := [(0, .ref v0), (2, .int v2), (3, .int (v3 + 1)), (4, .int q1.2)]) rfl ?_
  exact hk5 _ _ _ _ _
set_option maxRecDepth 20000 in
set_option maxHeartbeats 1000000 in
theorem jl_X10_stepsUp_5 {G : q_G} {l : Launch} {k0 z0 : Nat} (n : Nat) : ∀ (h : q_H) (v0 : Nat) (v2 : Int32) (v3 : Int32) (v4 : Int32), q_J G l (RX10, cX10_stepsUp, 5, 1, 23, (some .int), "stepsUp", []) k0 z0 (q_Z G k0 z0 q_i) 5 [(0, .ref v0), (2, .int v2), (3, .int v3), (4, .int v4)] [] h (l_X10_stepsUp_5 n h v0 v2 v3 v4) := by
  induction n with
  | zero => intro h v0 v2 v3 v4; exact j_none
  | succ n ih => intro h v0 v2 v3 v4; exact jb_X10_stepsUp_5 (l_X10_stepsUp_5 n) ih h v0 v2 v3 v4
set_option maxRecDepth 20000 in
set_option maxHeartbeats 1000000 in
theorem jb_X10_stepsUp_0 {G : q_G} {l : Launch} {k0 z0 : Nat} (h : q_H) (v0 : Nat) (v1 : Int32) (v2 : Int32) : q_J G l (RX10, cX10_stepsUp, 5, 1, 23, (some .int), "stepsUp", []) k0 z0 (q_Z G k0 z0 q_i) 0 [(0, .ref v0), (1, .int v1), (2, .int v2)] [] h (b_X10_stepsUp_0 h v0 v1 v2) := by
  unfold b_X10_stepsUp_0
  refine j_iconst (pc := 0) ki_0 dX10_stepsUp_0 ?_
  refine j_istore_n (pc := 1) (lv' := [(3, .int (0)), (0, .ref v0), (1, .int v1), (2, .int v2)]) rfl (by decide) rfl dX10_stepsUp_1 ?_
  refine j_iload_n (pc := 2) (p := 2) rfl rfl dX10_stepsUp_2 ?_
  refine j_istore (pc := 3) (lv' := [(4, .int v1), (3, .int (0)), (0, .ref v0), (1, .int v1), (2, .int v2)]) (by decide) rfl dX10_stepsUp_3 ?_
  refine j_sub [2, 4, 1, 0] (lv' := [(0, .ref v0), (2, .int v2), (3, .int (0)), (4, .int v1)]) rfl ?_
  exact jl_X10_stepsUp_5 q_FU _ _ _ _ _
set_option maxRecDepth 20000 in
set_option maxHeartbeats 1000000 in
theorem c_X10_stepsUp {G : q_G} {l : Launch} : ∀ (h : q_H) (a0 : Nat) (a1 : Int32) (a2 : Int32) (q : q_H × Int32), f_X10_stepsUp h a0 a1 a2 = some q → (∃ fs, h.1 a0 = .inr (9, fs)) ∧ q_CT G l yX10_stepsUp cX10_stepsUp 5 (some .int) 1 23 [.ref a0, .int a1, .int a2] h q.1 (q_i q.2) := by
  intro h a0 a1 a2 q e
  obtain ⟨e1, e2⟩ := q_chk_ok e
  exact ⟨e1, q_ofJ Y_X10_stepsUp (Nat.le_of_ble_eq_true rfl) (jb_X10_stepsUp_0 h a0 a1 a2) q e2⟩
/-! FarFoldersModel.depth(II)I -/
theorem dX10_depth_0 : decode cX10_depth 0 = .ok (.aload_n 0, 1) := by decide +kernel
theorem dX10_depth_1 : decode cX10_depth 1 = .ok (.iconst 0, 1) := by decide +kernel
theorem dX10_depth_2 : decode cX10_depth 2 = .ok (.putfield 1, 3) := by decide +kernel
theorem dX10_depth_5 : decode cX10_depth 5 = .ok (.aload_n 0, 1) := by decide +kernel
theorem dX10_depth_6 : decode cX10_depth 6 = .ok (.iload_n 1, 1) := by decide +kernel
theorem dX10_depth_7 : decode cX10_depth 7 = .ok (.iload_n 2, 1) := by decide +kernel
theorem dX10_depth_8 : decode cX10_depth 8 = .ok (.invokevirtual 287, 3) := by decide +kernel
theorem dX10_depth_11 : decode cX10_depth 11 = .ok (.istore_n 3, 1) := by decide +kernel
theorem dX10_depth_12 : decode cX10_depth 12 = .ok (.iload_n 3, 1) := by decide +kernel
theorem dX10_depth_13 : decode cX10_depth 13 = .ok (.ifCond .ge 5, 3) := by decide +kernel
theorem dX10_depth_16 : decode cX10_depth 16 = .ok (.iload_n 3, 1) := by decide +kernel
theorem dX10_depth_17 : decode cX10_depth 17 = .ok (.ireturn, 1) := by decide +kernel
theorem dX10_depth_18 : decode cX10_depth 18 = .ok (.aload_n 0, 1) := by decide +kernel
theorem dX10_depth_19 : decode cX10_depth 19 = .ok (.iconst 0, 1) := by decide +kernel
theorem dX10_depth_20 : decode cX10_depth 20 = .ok (.putfield 11, 3) := by decide +kernel
theorem dX10_depth_23 : decode cX10_depth 23 = .ok (.aload_n 0, 1) := by decide +kernel
theorem dX10_depth_24 : decode cX10_depth 24 = .ok (.aload_n 0, 1) := by decide +kernel
theorem dX10_depth_25 : decode cX10_depth 25 = .ok (.iload_n 2, 1) := by decide +kernel
theorem dX10_depth_26 : decode cX10_depth 26 = .ok (.invokevirtual 296, 3) := by decide +kernel
theorem dX10_depth_29 : decode cX10_depth 29 = .ok (.i2l, 1) := by decide +kernel
theorem dX10_depth_30 : decode cX10_depth 30 = .ok (.invokevirtual 202, 3) := by decide +kernel
theorem dX10_depth_33 : decode cX10_depth 33 = .ok (.aload_n 0, 1) := by decide +kernel
theorem dX10_depth_34 : decode cX10_depth 34 = .ok (.iload_n 2, 1) := by decide +kernel
theorem dX10_depth_35 : decode cX10_depth 35 = .ok (.aload_n 0, 1) := by decide +kernel
theorem dX10_depth_36 : decode cX10_depth 36 = .ok (.iload_n 2, 1) := by decide +kernel
theorem dX10_depth_37 : decode cX10_depth 37 = .ok (.invokevirtual 296, 3) := by decide +kernel
theorem dX10_depth_40 : decode cX10_depth 40 = .ok (.invokevirtual 299, 3) := by decide +kernel
theorem dX10_depth_43 : decode cX10_depth 43 = .ok (.ireturn, 1) := by decide +kernel
def b_X10_depth_0 (h : q_H) (v0 : Nat) (v1 : Int32) (v2 : Int32) : Option (q_H × Int32) :=
  Option.bind (q_p 9 0 h v0 (.int (0))) (fun h1 => Option.bind (f_X10_asked h1 v0 v1 v2) (fun q2 => if 0 ≤ q2.2 then Option.bind (q_p 9 1 q2.1 v0 (.int (0))) (fun h3 => Option.bind (f_X10_topOf h3 v0 v2) (fun q4 => Option.bind (f_X10_enters q4.1 v0 (Int32.toInt64 q4.2)) (fun q5 => Option.bind (f_X10_topOf q5.1 v0 v2) (fun q6 => Option.bind (f_X10_stepsUp q6.1 v0 v2 q6.2) (fun q7 => some (q7.1, q7.2)))))) else some (q2.1, q2.2)))
def f_X10_depth (h : q_H) (a0 : Nat) (a1 : Int32) (a2 : Int32) : Option (q_H × Int32) := q_chk 9 h a0 (b_X10_depth_0 h a0 a1 a2)
set_option maxRecDepth 20000 in
set_option maxHeartbeats 1000000 in
theorem jb_X10_depth_0 {G : q_G} {l : Launch} {k0 z0 : Nat} (h : q_H) (v0 : Nat) (v1 : Int32) (v2 : Int32) : q_J G l (RX10, cX10_depth, 4, 6, 140, (some .int), "depth", []) k0 z0 (q_Z G k0 z0 q_i) 0 [(0, .ref v0), (1, .int v1), (2, .int v2)] [] h (b_X10_depth_0 h v0 v1 v2) := by
  unfold b_X10_depth_0
  refine j_aload_n (pc := 0) (p := 0) rfl rfl dX10_depth_0 ?_
  refine j_iconst (pc := 1) ki_0 dX10_depth_1 ?_
  refine j_put (pc := 2) FI_X10 (k := 0) (by decide) fl_X10_1 rfl rfl rfl dX10_depth_2 (fun h1 _ => ?_)
  refine j_aload_n (pc := 5) (p := 0) rfl rfl dX10_depth_5 ?_
  refine j_iload_n (pc := 6) (p := 1) rfl rfl dX10_depth_6 ?_
  refine j_iload_n (pc := 7) (p := 2) rfl rfl dX10_depth_7 ?_
  refine j_cVi (pc := 8) Y_X10_asked (ci := 9) (b := v0) rfl rfl ml_X10_287 im_X10_asked se_X10_asked ⟨Nat.le_of_ble_eq_true rfl, Nat.le_of_ble_eq_true rfl⟩ dX10_depth_8 (As := [.int v1, .int v2]) (rest := []) rfl rfl (Nat.le_of_ble_eq_true rfl) (fun x hq9 => c_X10_asked _ _ _ _ _ hq9) (fun q2 _ => ?_)
  refine j_istore_n (pc := 11) (lv' := [(3, .int q2.2), (0, .ref v0), (1, .int v1), (2, .int v2)]) rfl (by decide) rfl dX10_depth_11 ?_
  refine j_iload_n (pc := 12) (p := 0) rfl rfl dX10_depth_12 ?_
  refine j_if_ge (pc := 13) (tgt := 18) dX10_depth_13 (by decide) (fun _ => ?_) (fun _ => ?_)
  · refine j_aload_n (pc := 18) (p := 1) rfl rfl dX10_depth_18 ?_
    refine j_iconst (pc := 19) ki_0 dX10_depth_19 ?_
    refine j_put (pc := 20) FI_X10 (k := 1) (by decide) fl_X10_11 rfl rfl rfl dX10_depth_20 (fun h3 _ => ?_)
    refine j_aload_n (pc := 23) (p := 1) rfl rfl dX10_depth_23 ?_
    refine j_aload_n (pc := 24) (p := 1) rfl rfl dX10_depth_24 ?_
    refine j_iload_n (pc := 25) (p := 3) rfl rfl dX10_depth_25 ?_
    refine j_cVi (pc := 26) Y_X10_topOf (ci := 9) (b := v0) rfl rfl ml_X10_296 im_X10_topOf se_X10_topOf ⟨Nat.le_of_ble_eq_true rfl, Nat.le_of_ble_eq_true rfl⟩ dX10_depth_26 (As := [.int v2]) (rest := [.ref v0]) rfl rfl (Nat.le_of_ble_eq_true rfl) (fun x hq9 => c_X10_topOf _ _ _ _ hq9) (fun q4 _ => ?_)
    refine j_i2l (pc := 29) dX10_depth_29 ?_
    refine j_cVu (pc := 30) Y_X10_enters (ci := 9) (b := v0) rfl rfl ml_X10_202 im_X10_enters se_X10_enters ⟨Nat.le_of_ble_eq_true rfl, Nat.le_of_ble_eq_true rfl⟩ dX10_depth_30 (As := [.long (Int32.toInt64 q4.2)]) (rest := []) rfl rfl (Nat.le_of_ble_eq_true rfl) (fun x hq9 => c_X10_enters _ _ _ _ hq9) (fun q5 _ => ?_)
    refine j_aload_n (pc := 33) (p := 1) rfl rfl dX10_depth_33 ?_
    refine j_iload_n (pc := 34) (p := 3) rfl rfl dX10_depth_34 ?_
    refine j_aload_n (pc := 35) (p := 1) rfl rfl dX10_depth_35 ?_
    refine j_iload_n (pc := 36) (p := 3) rfl rfl dX10_depth_36 ?_
    refine j_cVi (pc := 37) Y_X10_topOf (ci := 9) (b := v0) rfl rfl ml_X10_296 im_X10_topOf se_X10_topOf ⟨Nat.le_of_ble_eq_true rfl, Nat.le_of_ble_eq_true rfl⟩ dX10_depth_37 (As := [.int v2]) (rest := [.int v2, .ref v0]) rfl rfl (Nat.le_of_ble_eq_true rfl) (fun x hq9 => c_X10_topOf _ _ _ _ hq9) (fun q6 _ => ?_)
    refine j_cVi (pc := 40) Y_X10_stepsUp (ci := 9) (b := v0) rfl rfl ml_X10_299 im_X10_stepsUp se_X10_stepsUp ⟨Nat.le_of_ble_eq_true rfl, Nat.le_of_ble_eq_true rfl⟩ dX10_depth_40 (As := [.int v2, .int q6.2]) (rest := []) rfl rfl (Nat.le_of_ble_eq_true rfl) (fun x hq9 => c_X10_stepsUp _ _ _ _ _ hq9) (fun q7 _ => ?_)
    exact j_iret (pc := 43) rfl dX10_depth_43
  refine j_iload_n (pc := 16) (p := 0) rfl rfl dX10_depth_16 ?_
  exact j_iret (pc := 17) rfl dX10_depth_17
set_option maxRecDepth 20000 in
set_option maxHeartbeats 1000000 in
theorem c_X10_depth {G : q_G} {l : Launch} : ∀ (h : q_H) (a0 : Nat) (a1 : Int32) (a2 : Int32) (q : q_H × Int32), f_X10_depth h a0 a1 a2 = some q → (∃ fs, h.1 a0 = .inr (9, fs)) ∧ q_CT G l yX10_depth cX10_depth 4 (some .int) 6 140 [.ref a0, .int a1, .int a2] h q.1 (q_i q.2) := by
  intro h a0 a1 a2 q e
  obtain ⟨e1, e2⟩ := q_chk_ok e
  exact ⟨e1, q_ofJ Y_X10_depth (Nat.le_of_ble_eq_true rfl) (jb_X10_depth_0 h a0 a1 a2) q e2⟩
/-! FarFoldersModel.draws(I)I -/
theorem dX10_draws_0 : decode cX10_draws 0 = .ok (.aload_n 0, 1) := by decide +kernel
theorem dX10_draws_1 : decode cX10_draws 1 = .ok (.aload_n 0, 1) := by decide +kernel
theorem dX10_draws_2 : decode cX10_draws 2 = .ok (.getfield 350, 3) := by decide +kernel
theorem dX10_draws_5 : decode cX10_draws 5 = .ok (.ldc_w 353, 3) := by decide +kernel
theorem dX10_draws_8 : decode cX10_draws 8 = .ok (.imul, 1) := by decide +kernel
theorem dX10_draws_9 : decode cX10_draws 9 = .ok (.sipush 12345, 3) := by decide +kernel
theorem dX10_draws_12 : decode cX10_draws 12 = .ok (.iadd, 1) := by decide +kernel
theorem dX10_draws_13 : decode cX10_draws 13 = .ok (.putfield 350, 3) := by decide +kernel
theorem dX10_draws_16 : decode cX10_draws 16 = .ok (.aload_n 0, 1) := by decide +kernel
theorem dX10_draws_17 : decode cX10_draws 17 = .ok (.getfield 350, 3) := by decide +kernel
theorem dX10_draws_20 : decode cX10_draws 20 = .ok (.bipush 16, 2) := by decide +kernel
theorem dX10_draws_22 : decode cX10_draws 22 = .ok (.iushr, 1) := by decide +kernel
theorem dX10_draws_23 : decode cX10_draws 23 = .ok (.iload_n 1, 1) := by decide +kernel
theorem dX10_draws_24 : decode cX10_draws 24 = .ok (.irem, 1) := by decide +kernel
theorem dX10_draws_25 : decode cX10_draws 25 = .ok (.ireturn, 1) := by decide +kernel
def b_X10_draws_0 (h : q_H) (v0 : Nat) (v1 : Int32) : Option (q_H × Int32) :=
  Option.bind (q_gI 9 24 h v0) (fun x1 => Option.bind (q_p 9 24 h v0 (.int ((x1 * (1103515245)) + (12345)))) (fun h2 => Option.bind (q_gI 9 24 h2 v0) (fun x3 => Option.bind (q_rem (q_iushr x3 (16)) v1) (fun x4 => some (h2, x4)))))
def f_X10_draws (h : q_H) (a0 : Nat) (a1 : Int32) : Option (q_H × Int32) := q_chk 9 h a0 (b_X10_draws_0 h a0 a1)
set_option maxRecDepth 20000 in
set_option maxHeartbeats 1000000 in
theorem jb_X10_draws_0 {G : q_G} {l : Launch} {k0 z0 : Nat} (h : q_H) (v0 : Nat) (v1 : Int32) : q_J G l (RX10, cX10_draws, 2, 0, 0, (some .int), "draws", []) k0 z0 (q_Z G k0 z0 q_i) 0 [(0, .ref v0), (1, .int v1)] [] h (b_X10_draws_0 h v0 v1) := by
  unfold b_X10_draws_0
  refine j_aload_n (pc := 0) (p := 0) rfl rfl dX10_draws_0 ?_
  refine j_aload_n (pc := 1) (p := 0) rfl rfl dX10_draws_1 ?_
  refine j_getI (pc := 2) FI_X10 (k := 24) (by decide) fl_X10_350 dX10_draws_2 (fun x1 _ => ?_)
  refine j_ldcw (pc := 5) ct_X10_353 dX10_draws_5 ?_
  refine j_imul (pc := 8) dX10_draws_8 ?_
  refine j_sipush (pc := 9) ks_12345 dX10_draws_9 ?_
  refine j_iadd (pc := 12) dX10_draws_12 ?_
  refine j_put (pc := 13) FI_X10 (k := 24) (by decide) fl_X10_350 rfl rfl rfl dX10_draws_13 (fun h2 _ => ?_)
  refine j_aload_n (pc := 16) (p := 0) rfl rfl dX10_draws_16 ?_
  refine j_getI (pc := 17) FI_X10 (k := 24) (by decide) fl_X10_350 dX10_draws_17 (fun x3 _ => ?_)
  refine j_bipush (pc := 20) kb_16 dX10_draws_20 ?_
  refine j_iushr (pc := 22) dX10_draws_22 ?_
  refine j_iload_n (pc := 23) (p := 1) rfl rfl dX10_draws_23 ?_
  refine j_irem (pc := 24) dX10_draws_24 (fun x4 _ => ?_)
  exact j_iret (pc := 25) rfl dX10_draws_25
set_option maxRecDepth 20000 in
set_option maxHeartbeats 1000000 in
theorem c_X10_draws {G : q_G} {l : Launch} : ∀ (h : q_H) (a0 : Nat) (a1 : Int32) (q : q_H × Int32), f_X10_draws h a0 a1 = some q → (∃ fs, h.1 a0 = .inr (9, fs)) ∧ q_CT G l yX10_draws cX10_draws 2 (some .int) 0 0 [.ref a0, .int a1] h q.1 (q_i q.2) := by
  intro h a0 a1 q e
  obtain ⟨e1, e2⟩ := q_chk_ok e
  exact ⟨e1, q_ofJ Y_X10_draws (Nat.le_of_ble_eq_true rfl) (jb_X10_draws_0 h a0 a1) q e2⟩
/-! FarFoldersModel.drawnAct()V -/
theorem dX10_drawnAct_0 : decode cX10_drawnAct 0 = .ok (.aload_n 0, 1) := by decide +kernel
theorem dX10_drawnAct_1 : decode cX10_drawnAct 1 = .ok (.bipush 8, 2) := by decide +kernel
theorem dX10_drawnAct_3 : decode cX10_drawnAct 3 = .ok (.invokevirtual 354, 3) := by decide +kernel
theorem dX10_drawnAct_6 : decode cX10_drawnAct 6 = .ok (.istore_n 1, 1) := by decide +kernel
theorem dX10_drawnAct_7 : decode cX10_drawnAct 7 = .ok (.aload_n 0, 1) := by decide +kernel
theorem dX10_drawnAct_8 : decode cX10_drawnAct 8 = .ok (.iconst 3, 1) := by decide +kernel
theorem dX10_drawnAct_9 : decode cX10_drawnAct 9 = .ok (.invokevirtual 354, 3) := by decide +kernel
theorem dX10_drawnAct_12 : decode cX10_drawnAct 12 = .ok (.istore_n 2, 1) := by decide +kernel
theorem dX10_drawnAct_13 : decode cX10_drawnAct 13 = .ok (.iload_n 1, 1) := by decide +kernel
theorem dX10_drawnAct_14 : decode cX10_drawnAct 14 = .ok (.iconst 3, 1) := by decide +kernel
theorem dX10_drawnAct_15 : decode cX10_drawnAct 15 = .ok (.if_icmp .ge 38, 3) := by decide +kernel
theorem dX10_drawnAct_18 : decode cX10_drawnAct 18 = .ok (.aload_n 0, 1) := by decide +kernel
theorem dX10_drawnAct_19 : decode cX10_drawnAct 19 = .ok (.bipush 12, 2) := by decide +kernel
theorem dX10_drawnAct_21 : decode cX10_drawnAct 21 = .ok (.invokevirtual 354, 3) := by decide +kernel
theorem dX10_drawnAct_24 : decode cX10_drawnAct 24 = .ok (.iconst 2, 1) := by decide +kernel
theorem dX10_drawnAct_25 : decode cX10_drawnAct 25 = .ok (.iadd, 1) := by decide +kernel
theorem dX10_drawnAct_26 : decode cX10_drawnAct 26 = .ok (.istore_n 3, 1) := by decide +kernel
theorem dX10_drawnAct_27 : decode cX10_drawnAct 27 = .ok (.aload_n 0, 1) := by decide +kernel
theorem dX10_drawnAct_28 : decode cX10_drawnAct 28 = .ok (.bipush 14, 2) := by decide +kernel
theorem dX10_drawnAct_30 : decode cX10_drawnAct 30 = .ok (.invokevirtual 354, 3) := by decide +kernel
theorem dX10_drawnAct_33 : decode cX10_drawnAct 33 = .ok (.istore 4, 2) := by decide +kernel
theorem dX10_drawnAct_35 : decode cX10_drawnAct 35 = .ok (.aload_n 0, 1) := by decide +kernel
theorem dX10_drawnAct_36 : decode cX10_drawnAct 36 = .ok (.iload_n 2, 1) := by decide +kernel
theorem dX10_drawnAct_37 : decode cX10_drawnAct 37 = .ok (.iload_n 3, 1) := by decide +kernel
theorem dX10_drawnAct_38 : decode cX10_drawnAct 38 = .ok (.iload 4, 2) := by decide +kernel
theorem dX10_drawnAct_40 : decode cX10_drawnAct 40 = .ok (.aload_n 0, 1) := by decide +kernel
theorem dX10_drawnAct_41 : decode cX10_drawnAct 41 = .ok (.bipush 10, 2) := by decide +kernel
theorem dX10_drawnAct_43 : decode cX10_drawnAct 43 = .ok (.invokevirtual 354, 3) := by decide +kernel
theorem dX10_drawnAct_46 : decode cX10_drawnAct 46 = .ok (.invokevirtual 198, 3) := by decide +kernel
theorem dX10_drawnAct_49 : decode cX10_drawnAct 49 = .ok (.pop, 1) := by decide +kernel
theorem dX10_drawnAct_50 : decode cX10_drawnAct 50 = .ok (.goto 58, 3) := by decide +kernel
theorem dX10_drawnAct_53 : decode cX10_drawnAct 53 = .ok (.iload_n 1, 1) := by decide +kernel
theorem dX10_drawnAct_54 : decode cX10_drawnAct 54 = .ok (.iconst 3, 1) := by decide +kernel
theorem dX10_drawnAct_55 : decode cX10_drawnAct 55 = .ok (.if_icmp .ne 12, 3) := by decide +kernel
theorem dX10_drawnAct_58 : decode cX10_drawnAct 58 = .ok (.aload_n 0, 1) := by decide +kernel
theorem dX10_drawnAct_59 : decode cX10_drawnAct 59 = .ok (.iload_n 2, 1) := by decide +kernel
theorem dX10_drawnAct_60 : decode cX10_drawnAct 60 = .ok (.invokevirtual 206, 3) := by decide +kernel
theorem dX10_drawnAct_63 : decode cX10_drawnAct 63 = .ok (.pop, 1) := by decide +kernel
theorem dX10_drawnAct_64 : decode cX10_drawnAct 64 = .ok (.goto 44, 3) := by decide +kernel
theorem dX10_drawnAct_67 : decode cX10_drawnAct 67 = .ok (.iload_n 1, 1) := by decide +kernel
theorem dX10_drawnAct_68 : decode cX10_drawnAct 68 = .ok (.bipush 6, 2) := by decide +kernel
theorem dX10_drawnAct_70 : decode cX10_drawnAct 70 = .ok (.if_icmp .ge 17, 3) := by decide +kernel
theorem dX10_drawnAct_73 : decode cX10_drawnAct 73 = .ok (.aload_n 0, 1) := by decide +kernel
theorem dX10_drawnAct_74 : decode cX10_drawnAct 74 = .ok (.iload_n 2, 1) := by decide +kernel
theorem dX10_drawnAct_75 : decode cX10_drawnAct 75 = .ok (.aload_n 0, 1) := by decide +kernel
theorem dX10_drawnAct_76 : decode cX10_drawnAct 76 = .ok (.iconst 3, 1) := by decide +kernel
theorem dX10_drawnAct_77 : decode cX10_drawnAct 77 = .ok (.invokevirtual 354, 3) := by decide +kernel
theorem dX10_drawnAct_80 : decode cX10_drawnAct 80 = .ok (.invokevirtual 232, 3) := by decide +kernel
theorem dX10_drawnAct_83 : decode cX10_drawnAct 83 = .ok (.pop, 1) := by decide +kernel
theorem dX10_drawnAct_84 : decode cX10_drawnAct 84 = .ok (.goto 24, 3) := by decide +kernel
theorem dX10_drawnAct_87 : decode cX10_drawnAct 87 = .ok (.iload_n 1, 1) := by decide +kernel
theorem dX10_drawnAct_88 : decode cX10_drawnAct 88 = .ok (.bipush 6, 2) := by decide +kernel
theorem dX10_drawnAct_90 : decode cX10_drawnAct 90 = .ok (.if_icmp .ne 12, 3) := by decide +kernel
theorem dX10_drawnAct_93 : decode cX10_drawnAct 93 = .ok (.aload_n 0, 1) := by decide +kernel
theorem dX10_drawnAct_94 : decode cX10_drawnAct 94 = .ok (.iload_n 2, 1) := by decide +kernel
theorem dX10_drawnAct_95 : decode cX10_drawnAct 95 = .ok (.invokevirtual 247, 3) := by decide +kernel
theorem dX10_drawnAct_98 : decode cX10_drawnAct 98 = .ok (.pop, 1) := by decide +kernel
theorem dX10_drawnAct_99 : decode cX10_drawnAct 99 = .ok (.goto 9, 3) := by decide +kernel
theorem dX10_drawnAct_102 : decode cX10_drawnAct 102 = .ok (.aload_n 0, 1) := by decide +kernel
theorem dX10_drawnAct_103 : decode cX10_drawnAct 103 = .ok (.iload_n 2, 1) := by decide +kernel
theorem dX10_drawnAct_104 : decode cX10_drawnAct 104 = .ok (.invokevirtual 260, 3) := by decide +kernel
theorem dX10_drawnAct_107 : decode cX10_drawnAct 107 = .ok (.pop, 1) := by decide +kernel
theorem dX10_drawnAct_108 : decode cX10_drawnAct 108 = .ok (.return_, 1) := by decide +kernel
def b_X10_drawnAct_0 (h : q_H) (v0 : Nat) : Option (q_H × Unit) :=
  Option.bind (f_X10_draws h v0 (8)) (fun q1 => Option.bind (f_X10_draws q1.1 v0 (3)) (fun q2 => if (3) ≤ q1.2 then if q1.2 = (3) then Option.bind (f_X10_beatsOne q2.1 v0 q2.2) (fun q3 => some (q3.1, ())) else if (6) ≤ q1.2 then if q1.2 = (6) then Option.bind (f_X10_gathersOne q2.1 v0 q2.2) (fun q4 => some (q4.1, ())) else Option.bind (f_X10_cutsOne q2.1 v0 q2.2) (fun q5 => some (q5.1, ())) else Option.bind (f_X10_draws q2.1 v0 (3)) (fun q6 => Option.bind (f_X10_comesOne q6.1 v0 q2.2 q6.2) (fun q7 => some (q7.1, ()))) else Option.bind (f_X10_draws q2.1 v0 (12)) (fun q8 => Option.bind (f_X10_draws q8.1 v0 (14)) (fun q9 => Option.bind (f_X10_draws q9.1 v0 (10)) (fun q10 => Option.bind (f_X10_makesOne q10.1 v0 q2.2 (q8.2 + (2)) q9.2 q10.2) (fun q11 => some (q11.1, ())))))))
def f_X10_drawnAct (h : q_H) (a0 : Nat) : Option (q_H × Unit) := q_chk 9 h a0 (b_X10_drawnAct_0 h a0)
set_option maxRecDepth 20000 in
set_option maxHeartbeats 1000000 in
theorem jb_X10_drawnAct_0 {G : q_G} {l : Launch} {k0 z0 : Nat} (h : q_H) (v0 : Nat) : q_J G l (RX10, cX10_drawnAct, 5, 7, 163, none, "drawnAct", []) k0 z0 (q_Z G k0 z0 q_u) 0 [(0, .ref v0)] [] h (b_X10_drawnAct_0 h v0) := by
  unfold b_X10_drawnAct_0
  refine j_aload_n (pc := 0) (p := 0) rfl rfl dX10_drawnAct_0 ?_
  refine j_bipush (pc := 1) kb_8 dX10_drawnAct_1 ?_
  refine j_cVi (pc := 3) Y_X10_draws (ci := 9) (b := v0) rfl rfl ml_X10_354 im_X10_draws se_X10_draws ⟨Nat.le_of_ble_eq_true rfl, Nat.le_of_ble_eq_true rfl⟩ dX10_drawnAct_3 (As := [.int (8)]) (rest := []) rfl rfl (Nat.le_of_ble_eq_true rfl) (fun x hq9 => c_X10_draws _ _ _ _ hq9) (fun q1 _ => ?_)
  refine j_istore_n (pc := 6) (lv' := [(1, .int q1.2), (0, .ref v0)]) rfl (by decide) rfl dX10_drawnAct_6 ?_
  refine j_aload_n (pc := 7) (p := 1) rfl rfl dX10_drawnAct_7 ?_
  refine j_iconst (pc := 8) ki_3 dX10_drawnAct_8 ?_
  refine j_cVi (pc := 9) Y_X10_draws (ci := 9) (b := v0) rfl rfl ml_X10_354 im_X10_draws se_X10_draws ⟨Nat.le_of_ble_eq_true rfl, Nat.le_of_ble_eq_true rfl⟩ dX10_drawnAct_9 (As := [.int (3)]) (rest := []) rfl rfl (Nat.le_of_ble_eq_true rfl) (fun x hq9 => c_X10_draws _ _ _ _ hq9) (fun q2 _ => ?_)
  refine j_istore_n (pc := 12) (lv' := [(2, .int q2.2), (1, .int q1.2), (0, .ref v0)]) rfl (by decide) rfl dX10_drawnAct_12 ?_
  refine j_iload_n (pc := 13) (p := 1) rfl rfl dX10_drawnAct_13 ?_
  refine j_iconst (pc := 14) ki_3 dX10_drawnAct_14 ?_
  refine j_ic_ge (pc := 15) (tgt := 53) dX10_drawnAct_15 (by decide) (fun _ => ?_) (fun _ => ?_)
  · refine j_iload_n (pc := 53) (p := 1) rfl rfl dX10_drawnAct_53 ?_
    refine j_iconst (pc := 54) ki_3 dX10_drawnAct_54 ?_
    refine j_ic_ne (pc := 55) (tgt := 67) dX10_drawnAct_55 (by decide) (fun _ => ?_) (fun _ => ?_)
    · refine j_aload_n (pc := 58) (p := 2) rfl rfl dX10_drawnAct_58 ?_
      refine j_iload_n (pc := 59) (p := 0) rfl rfl dX10_drawnAct_59 ?_
      refine j_cVi (pc := 60) Y_X10_beatsOne (ci := 9) (b := v0) rfl rfl ml_X10_206 im_X10_beatsOne se_X10_beatsOne ⟨Nat.le_of_ble_eq_true rfl, Nat.le_of_ble_eq_true rfl⟩ dX10_drawnAct_60 (As := [.int q2.2]) (rest := []) rfl rfl (Nat.le_of_ble_eq_true rfl) (fun x hq9 => c_X10_beatsOne _ _ _ _ hq9) (fun q3 _ => ?_)
      refine j_pop (pc := 63) rfl dX10_drawnAct_63 ?_
      refine j_goto (pc := 64) (tgt := 108) dX10_drawnAct_64 (by decide) ?_
      exact j_vret (pc := 108) rfl dX10_drawnAct_108
    refine j_iload_n (pc := 67) (p := 1) rfl rfl dX10_drawnAct_67 ?_
    refine j_bipush (pc := 68) kb_6 dX10_drawnAct_68 ?_
    refine j_ic_ge (pc := 70) (tgt := 87) dX10_drawnAct_70 (by decide) (fun _ => ?_) (fun _ => ?_)
    · refine j_iload_n (pc := 87) (p := 1) rfl rfl dX10_drawnAct_87 ?_
      refine j_bipush (pc := 88) kb_6 dX10_drawnAct_88 ?_
      refine j_ic_ne (pc := 90) (tgt := 102) dX10_drawnAct_90 (by decide) (fun _ => ?_) (fun _ => ?_)
      · refine j_aload_n (pc := 93) (p := 2) rfl rfl dX10_drawnAct_93 ?_
        refine j_iload_n (pc := 94) (p := 0) rfl rfl dX10_drawnAct_94 ?_
        refine j_cVi (pc := 95) Y_X10_gathersOne (ci := 9) (b := v0) rfl rfl ml_X10_247 im_X10_gathersOne se_X10_gathersOne ⟨Nat.le_of_ble_eq_true rfl, Nat.le_of_ble_eq_true rfl⟩ dX10_drawnAct_95 (As := [.int q2.2]) (rest := []) rfl rfl (Nat.le_of_ble_eq_true rfl) (fun x hq9 => c_X10_gathersOne _ _ _ _ hq9) (fun q4 _ => ?_)
        refine j_pop (pc := 98) rfl dX10_drawnAct_98 ?_
        refine j_goto (pc := 99) (tgt := 108) dX10_drawnAct_99 (by decide) ?_
        exact j_vret (pc := 108) rfl dX10_drawnAct_108
      refine j_aload_n (pc := 102) (p := 2) rfl rfl dX10_drawnAct_102 ?_
      refine j_iload_n (pc := 103) (p := 0) rfl rfl dX10_drawnAct_103 ?_
      refine j_cVi (pc := 104) Y_X10_cutsOne (ci := 9) (b := v0) rfl rfl ml_X10_260 im_X10_cutsOne se_X10_cutsOne ⟨Nat.le_of_ble_eq_true rfl, Nat.le_of_ble_eq_true rfl⟩ dX10_drawnAct_104 (As := [.int q2.2]) (rest := []) rfl rfl (Nat.le_of_ble_eq_true rfl) (fun x hq9 => c_X10_cutsOne _ _ _ _ hq9) (fun q5 _ => ?_)
      refine j_pop (pc := 107) rfl dX10_drawnAct_107 ?_
      exact j_vret (pc := 108) rfl dX10_drawnAct_108
    refine j_aload_n (pc := 73) (p := 2) rfl rfl dX10_drawnAct_73 ?_
    refine j_iload_n (pc := 74) (p := 0) rfl rfl dX10_drawnAct_74 ?_
    refine j_aload_n (pc := 75) (p := 2) rfl rfl dX10_drawnAct_75 ?_
    refine j_iconst (pc := 76) ki_3 dX10_drawnAct_76 ?_
    refine j_cVi (pc := 77) Y_X10_draws (ci := 9) (b := v0) rfl rfl ml_X10_354 im_X10_draws se_X10_draws ⟨Nat.le_of_ble_eq_true rfl, Nat.le_of_ble_eq_true rfl⟩ dX10_drawnAct_77 (As := [.int (3)]) (rest := [.int q2.2, .ref v0]) rfl rfl (Nat.le_of_ble_eq_true rfl) (fun x hq9 => c_X10_draws _ _ _ _ hq9) (fun q6 _ => ?_)
    refine j_cVi (pc := 80) Y_X10_comesOne (ci := 9) (b := v0) rfl rfl ml_X10_232 im_X10_comesOne se_X10_comesOne ⟨Nat.le_of_ble_eq_true rfl, Nat.le_of_ble_eq_true rfl⟩ dX10_drawnAct_80 (As := [.int q2.2, .int q6.2]) (rest := []) rfl rfl (Nat.le_of_ble_eq_true rfl) (fun x hq9 => c_X10_comesOne _ _ _ _ _ hq9) (fun q7 _ => ?_)
    refine j_pop (pc := 83) rfl dX10_drawnAct_83 ?_
    refine j_goto (pc := 84) (tgt := 108) dX10_drawnAct_84 (by decide) ?_
    exact j_vret (pc := 108) rfl dX10_drawnAct_108
  refine j_aload_n (pc := 18) (p := 2) rfl rfl dX10_drawnAct_18 ?_
  refine j_bipush (pc := 19) kb_12 dX10_drawnAct_19 ?_
  refine j_cVi (pc := 21) Y_X10_draws (ci := 9) (b := v0) rfl rfl ml_X10_354 im_X10_draws se_X10_draws ⟨Nat.le_of_ble_eq_true rfl, Nat.le_of_ble_eq_true rfl⟩ dX10_drawnAct_21 (As := [.int (12)]) (rest := []) rfl rfl (Nat.le_of_ble_eq_true rfl) (fun x hq9 => c_X10_draws _ _ _ _ hq9) (fun q8 _ => ?_)
  refine j_iconst (pc := 24) ki_2 dX10_drawnAct_24 ?_
  refine j_iadd (pc := 25) dX10_drawnAct_25 ?_
  refine j_istore_n (pc := 26) (lv' := [(3, .int (q8.2 + (2))), (2, .int q2.2), (1, .int q1.2), (0, .ref v0)]) rfl (by decide) rfl dX10_drawnAct_26 ?_
  refine j_aload_n (pc := 27) (p := 3) rfl rfl dX10_drawnAct_27 ?_
  refine j_bipush (pc := 28) kb_14 dX10_drawnAct_28 ?_
  refine j_cVi (pc := 30) Y_X10_draws (ci := 9) (b := v0) rfl rfl ml_X10_354 im_X10_draws se_X10_draws ⟨Nat.le_of_ble_eq_true rfl, Nat.le_of_ble_eq_true rfl⟩ dX10_drawnAct_30 (As := [.int (14)]) (rest := []) rfl rfl (Nat.le_of_ble_eq_true rfl) (fun x hq9 => c_X10_draws _ _ _ _ hq9) (fun q9 _ => ?_)
  refine j_istore (pc := 33) (lv' := [(4, .int q9.2), (3, .int (q8.2 + (2))), (2, .int q2.2), (1, .int q1.2), (0, .ref v0)]) (by decide) rfl dX10_drawnAct_33 ?_
  refine j_aload_n (pc := 35) (p := 4) rfl rfl dX10_drawnAct_35 ?_
  refine j_iload_n (pc := 36) (p := 2) rfl rfl dX10_drawnAct_36 ?_
  refine j_iload_n (pc := 37) (p := 1) rfl rfl dX10_drawnAct_37 ?_
  refine j_iload (pc := 38) (p := 0) rfl dX10_drawnAct_38 ?_
  refine j_aload_n (pc := 40) (p := 4) rfl rfl dX10_drawnAct_40 ?_
  refine j_bipush (pc := 41) kb_10 dX10_drawnAct_41 ?_
  refine j_cVi (pc := 43) Y_X10_draws (ci := 9) (b := v0) rfl rfl ml_X10_354 im_X10_draws se_X10_draws ⟨Nat.le_of_ble_eq_true rfl, Nat.le_of_ble_eq_true rfl⟩ dX10_drawnAct_43 (As := [.int (10)]) (rest := [.int q9.2, .int (q8.2 + (2)), .int q2.2, .ref v0]) rfl rfl (Nat.le_of_ble_eq_true rfl) (fun x hq9 => c_X10_draws _ _ _ _ hq9) (fun q10 _ => ?_)
  refine j_cVi (pc := 46) Y_X10_makesOne (ci := 9) (b := v0) rfl rfl ml_X10_198 im_X10_makesOne se_X10_makesOne ⟨Nat.le_of_ble_eq_true rfl, Nat.le_of_ble_eq_true rfl⟩ dX10_drawnAct_46 (As := [.int q2.2, .int (q8.2 + (2)), .int q9.2, .int q10.2]) (rest := []) rfl rfl (Nat.le_of_ble_eq_true rfl) (fun x hq9 => c_X10_makesOne _ _ _ _ _ _ _ hq9) (fun q11 _ => ?_)
  refine j_pop (pc := 49) rfl dX10_drawnAct_49 ?_
  refine j_goto (pc := 50) (tgt := 108) dX10_drawnAct_50 (by decide) ?_
  exact j_vret (pc := 108) rfl dX10_drawnAct_108
set_option maxRecDepth 20000 in
set_option maxHeartbeats 1000000 in
theorem c_X10_drawnAct {G : q_G} {l : Launch} : ∀ (h : q_H) (a0 : Nat) (q : q_H × Unit), f_X10_drawnAct h a0 = some q → (∃ fs, h.1 a0 = .inr (9, fs)) ∧ q_CT G l yX10_drawnAct cX10_drawnAct 5 none 7 163 [.ref a0] h q.1 (q_u q.2) := by
  intro h a0 q e
  obtain ⟨e1, e2⟩ := q_chk_ok e
  exact ⟨e1, q_ofJ Y_X10_drawnAct (Nat.le_of_ble_eq_true rfl) (jb_X10_drawnAct_0 h a0) q e2⟩
/-! FarFoldersModel.end(I)Z -/
theorem dX10_end_0 : decode cX10_end 0 = .ok (.aload_n 0, 1) := by decide +kernel
theorem dX10_end_1 : decode cX10_end 1 = .ok (.iconst 0, 1) := by decide +kernel
theorem dX10_end_2 : decode cX10_end 2 = .ok (.putfield 1, 3) := by decide +kernel
theorem dX10_end_5 : decode cX10_end 5 = .ok (.iload_n 1, 1) := by decide +kernel
theorem dX10_end_6 : decode cX10_end 6 = .ok (.i2l, 1) := by decide +kernel
theorem dX10_end_7 : decode cX10_end 7 = .ok (.lconst 0, 1) := by decide +kernel
theorem dX10_end_8 : decode cX10_end 8 = .ok (.aload_n 0, 1) := by decide +kernel
theorem dX10_end_9 : decode cX10_end 9 = .ok (.getfield 14, 3) := by decide +kernel
theorem dX10_end_12 : decode cX10_end 12 = .ok (.i2l, 1) := by decide +kernel
theorem dX10_end_13 : decode cX10_end 13 = .ok (.invokestatic 21, 3) := by decide +kernel
theorem dX10_end_16 : decode cX10_end 16 = .ok (.ifCond .ne 5, 3) := by decide +kernel
theorem dX10_end_19 : decode cX10_end 19 = .ok (.iconst 0, 1) := by decide +kernel
theorem dX10_end_20 : decode cX10_end 20 = .ok (.ireturn, 1) := by decide +kernel
theorem dX10_end_21 : decode cX10_end 21 = .ok (.aload_n 0, 1) := by decide +kernel
theorem dX10_end_22 : decode cX10_end 22 = .ok (.iload_n 1, 1) := by decide +kernel
theorem dX10_end_23 : decode cX10_end 23 = .ok (.putfield 14, 3) := by decide +kernel
theorem dX10_end_26 : decode cX10_end 26 = .ok (.iconst 1, 1) := by decide +kernel
theorem dX10_end_27 : decode cX10_end 27 = .ok (.ireturn, 1) := by decide +kernel
def b_X10_end_0 (h : q_H) (v0 : Nat) (v1 : Int32) : Option (q_H × Int32) :=
  Option.bind (q_p 9 0 h v0 (.int (0))) (fun h1 => Option.bind (q_gI 9 4 h1 v0) (fun x2 => Option.bind (f_X10_in h1 (Int32.toInt64 v1) (0) (Int32.toInt64 x2)) (fun q3 => if q3.2 = 0 then some (q3.1, (0)) else Option.bind (q_p 9 4 q3.1 v0 (.int v1)) (fun h4 => some (h4, (1))))))
def f_X10_end (h : q_H) (a0 : Nat) (a1 : Int32) : Option (q_H × Int32) := q_chk 9 h a0 (b_X10_end_0 h a0 a1)
set_option maxRecDepth 20000 in
set_option maxHeartbeats 1000000 in
theorem jb_X10_end_0 {G : q_G} {l : Launch} {k0 z0 : Nat} (h : q_H) (v0 : Nat) (v1 : Int32) : q_J G l (RX10, cX10_end, 2, 1, 25, (some .boolean), "end", []) k0 z0 (q_Z G k0 z0 q_i) 0 [(0, .ref v0), (1, .int v1)] [] h (b_X10_end_0 h v0 v1) := by
  unfold b_X10_end_0
  refine j_aload_n (pc := 0) (p := 0) rfl rfl dX10_end_0 ?_
  refine j_iconst (pc := 1) ki_0 dX10_end_1 ?_
  refine j_put (pc := 2) FI_X10 (k := 0) (by decide) fl_X10_1 rfl rfl rfl dX10_end_2 (fun h1 _ => ?_)
  refine j_iload_n (pc := 5) (p := 1) rfl rfl dX10_end_5 ?_
  refine j_i2l (pc := 6) dX10_end_6 ?_
  refine j_lconst (pc := 7) kl_0 dX10_end_7 ?_
  refine j_aload_n (pc := 8) (p := 0) rfl rfl dX10_end_8 ?_
  refine j_getI (pc := 9) FI_X10 (k := 4) (by decide) fl_X10_14 dX10_end_9 (fun x2 _ => ?_)
  refine j_i2l (pc := 12) dX10_end_12 ?_
  refine j_cSi (pc := 13) Y_X10_in ml_X10_21 sm_X10_in ⟨Nat.le_of_ble_eq_true rfl, Nat.le_of_ble_eq_true rfl⟩ dX10_end_13 (As := [.long (Int32.toInt64 v1), .long (0), .long (Int32.toInt64 x2)]) (rest := []) rfl rfl (Nat.le_of_ble_eq_true rfl) (fun x hq9 => c_X10_in _ _ _ _ _ hq9) (fun q3 _ => ?_)
  refine j_if_ne (pc := 16) (tgt := 21) dX10_end_16 (by decide) (fun _ => ?_) (fun _ => ?_)
  · refine j_iconst (pc := 19) ki_0 dX10_end_19 ?_
    exact j_zret (pc := 20) rfl rfl dX10_end_20
  refine j_aload_n (pc := 21) (p := 0) rfl rfl dX10_end_21 ?_
  refine j_iload_n (pc := 22) (p := 1) rfl rfl dX10_end_22 ?_
  refine j_put (pc := 23) FI_X10 (k := 4) (by decide) fl_X10_14 rfl rfl rfl dX10_end_23 (fun h4 _ => ?_)
  refine j_iconst (pc := 26) ki_1 dX10_end_26 ?_
  exact j_zret (pc := 27) rfl rfl dX10_end_27
set_option maxRecDepth 20000 in
set_option maxHeartbeats 1000000 in
theorem c_X10_end {G : q_G} {l : Launch} : ∀ (h : q_H) (a0 : Nat) (a1 : Int32) (q : q_H × Int32), f_X10_end h a0 a1 = some q → (∃ fs, h.1 a0 = .inr (9, fs)) ∧ q_CT G l yX10_end cX10_end 2 (some .boolean) 1 25 [.ref a0, .int a1] h q.1 (q_i q.2) := by
  intro h a0 a1 q e
  obtain ⟨e1, e2⟩ := q_chk_ok e
  exact ⟨e1, q_ofJ Y_X10_end (Nat.le_of_ble_eq_true rfl) (jb_X10_end_0 h a0 a1) q e2⟩
/-! FarFoldersModel.entersPath(I)V -/
theorem dX10_entersPath_0 : decode cX10_entersPath 0 = .ok (.iload_n 1, 1) := by decide +kernel
theorem dX10_entersPath_1 : decode cX10_entersPath 1 = .ok (.iconst 1, 1) := by decide +kernel
theorem dX10_entersPath_2 : decode cX10_entersPath 2 = .ok (.if_icmp .ne 10, 3) := by decide +kernel
theorem dX10_entersPath_5 : decode cX10_entersPath 5 = .ok (.aload_n 0, 1) := by decide +kernel
theorem dX10_entersPath_6 : decode cX10_entersPath 6 = .ok (.ldc2_w 321, 3) := by decide +kernel
theorem dX10_entersPath_9 : decode cX10_entersPath 9 = .ok (.invokevirtual 202, 3) := by decide +kernel
theorem dX10_entersPath_12 : decode cX10_entersPath 12 = .ok (.iload_n 1, 1) := by decide +kernel
theorem dX10_entersPath_13 : decode cX10_entersPath 13 = .ok (.iconst 2, 1) := by decide +kernel
theorem dX10_entersPath_14 : decode cX10_entersPath 14 = .ok (.if_icmp .ge 4, 3) := by decide +kernel
theorem dX10_entersPath_17 : decode cX10_entersPath 17 = .ok (.return_, 1) := by decide +kernel
theorem dX10_entersPath_18 : decode cX10_entersPath 18 = .ok (.aload_n 0, 1) := by decide +kernel
theorem dX10_entersPath_19 : decode cX10_entersPath 19 = .ok (.aload_n 0, 1) := by decide +kernel
theorem dX10_entersPath_20 : decode cX10_entersPath 20 = .ok (.iconst 0, 1) := by decide +kernel
theorem dX10_entersPath_21 : decode cX10_entersPath 21 = .ok (.iload_n 1, 1) := by decide +kernel
theorem dX10_entersPath_22 : decode cX10_entersPath 22 = .ok (.iconst 0, 1) := by decide +kernel
theorem dX10_entersPath_23 : decode cX10_entersPath 23 = .ok (.invokevirtual 129, 3) := by decide +kernel
theorem dX10_entersPath_26 : decode cX10_entersPath 26 = .ok (.invokevirtual 323, 3) := by decide +kernel
theorem dX10_entersPath_29 : decode cX10_entersPath 29 = .ok (.aload_n 0, 1) := by decide +kernel
theorem dX10_entersPath_30 : decode cX10_entersPath 30 = .ok (.ldc2_w 326, 3) := by decide +kernel
theorem dX10_entersPath_33 : decode cX10_entersPath 33 = .ok (.invokevirtual 202, 3) := by decide +kernel
theorem dX10_entersPath_36 : decode cX10_entersPath 36 = .ok (.aload_n 0, 1) := by decide +kernel
theorem dX10_entersPath_37 : decode cX10_entersPath 37 = .ok (.bipush 48, 2) := by decide +kernel
theorem dX10_entersPath_39 : decode cX10_entersPath 39 = .ok (.aload_n 0, 1) := by decide +kernel
theorem dX10_entersPath_40 : decode cX10_entersPath 40 = .ok (.iconst 0, 1) := by decide +kernel
theorem dX10_entersPath_41 : decode cX10_entersPath 41 = .ok (.iload_n 1, 1) := by decide +kernel
theorem dX10_entersPath_42 : decode cX10_entersPath 42 = .ok (.iconst 1, 1) := by decide +kernel
theorem dX10_entersPath_43 : decode cX10_entersPath 43 = .ok (.invokevirtual 129, 3) := by decide +kernel
theorem dX10_entersPath_46 : decode cX10_entersPath 46 = .ok (.iadd, 1) := by decide +kernel
theorem dX10_entersPath_47 : decode cX10_entersPath 47 = .ok (.i2l, 1) := by decide +kernel
theorem dX10_entersPath_48 : decode cX10_entersPath 48 = .ok (.invokevirtual 202, 3) := by decide +kernel
theorem dX10_entersPath_51 : decode cX10_entersPath 51 = .ok (.aload_n 0, 1) := by decide +kernel
theorem dX10_entersPath_52 : decode cX10_entersPath 52 = .ok (.iconst 0, 1) := by decide +kernel
theorem dX10_entersPath_53 : decode cX10_entersPath 53 = .ok (.iload_n 1, 1) := by decide +kernel
theorem dX10_entersPath_54 : decode cX10_entersPath 54 = .ok (.invokevirtual 168, 3) := by decide +kernel
theorem dX10_entersPath_57 : decode cX10_entersPath 57 = .ok (.istore_n 2, 1) := by decide +kernel
theorem dX10_entersPath_58 : decode cX10_entersPath 58 = .ok (.iload_n 2, 1) := by decide +kernel
theorem dX10_entersPath_59 : decode cX10_entersPath 59 = .ok (.ifCond .le 10, 3) := by decide +kernel
theorem dX10_entersPath_62 : decode cX10_entersPath 62 = .ok (.aload_n 0, 1) := by decide +kernel
theorem dX10_entersPath_63 : decode cX10_entersPath 63 = .ok (.ldc2_w 328, 3) := by decide +kernel
theorem dX10_entersPath_66 : decode cX10_entersPath 66 = .ok (.invokevirtual 202, 3) := by decide +kernel
theorem dX10_entersPath_69 : decode cX10_entersPath 69 = .ok (.iload_n 2, 1) := by decide +kernel
theorem dX10_entersPath_70 : decode cX10_entersPath 70 = .ok (.bipush 9, 2) := by decide +kernel
theorem dX10_entersPath_72 : decode cX10_entersPath 72 = .ok (.if_icmp .le 15, 3) := by decide +kernel
theorem dX10_entersPath_75 : decode cX10_entersPath 75 = .ok (.aload_n 0, 1) := by decide +kernel
theorem dX10_entersPath_76 : decode cX10_entersPath 76 = .ok (.bipush 48, 2) := by decide +kernel
theorem dX10_entersPath_78 : decode cX10_entersPath 78 = .ok (.iload_n 2, 1) := by decide +kernel
theorem dX10_entersPath_79 : decode cX10_entersPath 79 = .ok (.bipush 10, 2) := by decide +kernel
theorem dX10_entersPath_81 : decode cX10_entersPath 81 = .ok (.idiv, 1) := by decide +kernel
theorem dX10_entersPath_82 : decode cX10_entersPath 82 = .ok (.iadd, 1) := by decide +kernel
theorem dX10_entersPath_83 : decode cX10_entersPath 83 = .ok (.i2l, 1) := by decide +kernel
theorem dX10_entersPath_84 : decode cX10_entersPath 84 = .ok (.invokevirtual 202, 3) := by decide +kernel
theorem dX10_entersPath_87 : decode cX10_entersPath 87 = .ok (.iload_n 2, 1) := by decide +kernel
theorem dX10_entersPath_88 : decode cX10_entersPath 88 = .ok (.ifCond .le 15, 3) := by decide +kernel
theorem dX10_entersPath_91 : decode cX10_entersPath 91 = .ok (.aload_n 0, 1) := by decide +kernel
theorem dX10_entersPath_92 : decode cX10_entersPath 92 = .ok (.bipush 48, 2) := by decide +kernel
theorem dX10_entersPath_94 : decode cX10_entersPath 94 = .ok (.iload_n 2, 1) := by decide +kernel
theorem dX10_entersPath_95 : decode cX10_entersPath 95 = .ok (.bipush 10, 2) := by decide +kernel
theorem dX10_entersPath_97 : decode cX10_entersPath 97 = .ok (.irem, 1) := by decide +kernel
theorem dX10_entersPath_98 : decode cX10_entersPath 98 = .ok (.iadd, 1) := by decide +kernel
theorem dX10_entersPath_99 : decode cX10_entersPath 99 = .ok (.i2l, 1) := by decide +kernel
theorem dX10_entersPath_100 : decode cX10_entersPath 100 = .ok (.invokevirtual 202, 3) := by decide +kernel
theorem dX10_entersPath_103 : decode cX10_entersPath 103 = .ok (.return_, 1) := by decide +kernel
def b_X10_entersPath_87 (self : q_H → Nat → Int32 → Option (q_H × Unit)) (h : q_H) (v0 : Nat) (v2 : Int32) : Option (q_H × Unit) :=
  if v2 ≤ 0 then some (h, ()) else Option.bind (q_rem v2 (10)) (fun x1 => Option.bind (f_X10_enters h v0 (Int32.toInt64 ((48) + x1))) (fun q2 => some (q2.1, ())))
def b_X10_entersPath_69 (self : q_H → Nat → Int32 → Option (q_H × Unit)) (h : q_H) (v0 : Nat) (v2 : Int32) : Option (q_H × Unit) :=
  if v2 ≤ (9) then b_X10_entersPath_87 self h v0 v2 else Option.bind (q_div v2 (10)) (fun x3 => Option.bind (f_X10_enters h v0 (Int32.toInt64 ((48) + x3))) (fun q4 => b_X10_entersPath_87 self q4.1 v0 v2))
def b_X10_entersPath_12 (self : q_H → Nat → Int32 → Option (q_H × Unit)) (h : q_H) (v0 : Nat) (v1 : Int32) : Option (q_H × Unit) :=
  if (2) ≤ v1 then Option.bind (f_X10_its h v0 (0) v1 (0)) (fun q5 => Option.bind (self q5.1 v0 q5.2) (fun q6 => Option.bind (f_X10_enters q6.1 v0 (47)) (fun q7 => Option.bind (f_X10_its q7.1 v0 (0) v1 (1)) (fun q8 => Option.bind (f_X10_enters q8.1 v0 (Int32.toInt64 ((48) + q8.2))) (fun q9 => Option.bind (f_X10_rank q9.1 v0 (0) v1) (fun q10 => if q10.2 ≤ 0 then b_X10_entersPath_69 self q10.1 v0 q10.2 else Option.bind (f_X10_enters q10.1 v0 (46)) (fun q11 => b_X10_entersPath_69 self q11.1 v0 q10.2))))))) else some (h, ())
def b_X10_entersPath_0 (self : q_H → Nat → Int32 → Option (q_H × Unit)) (h : q_H) (v0 : Nat) (v1 : Int32) : Option (q_H × Unit) :=
  if v1 = (1) then Option.bind (f_X10_enters h v0 (126)) (fun q12 => b_X10_entersPath_12 self q12.1 v0 v1) else b_X10_entersPath_12 self h v0 v1
def f_X10_entersPath : Nat → q_H → Nat → Int32 → Option (q_H × Unit)
  | 0, _, _, _ => none
  | d + 1, h, a0, a1 => q_chk 9 h a0 (b_X10_entersPath_0 (f_X10_entersPath d) h a0 a1)
set_option maxRecDepth 20000 in
set_option maxHeartbeats 1000000 in
theorem jb_X10_entersPath_87 {G : q_G} {l : Launch} {k0 z0 : Nat} {d : Nat} (self : q_H → Nat → Int32 → Option (q_H × Unit)) (hself : ∀ (h : q_H) (a0 : Nat) (a1 : Int32) (q : q_H × Unit), self h a0 a1 = some q → (∃ fs, h.1 a0 = .inr (9, fs)) ∧ q_CT G l yX10_entersPath cX10_entersPath 3 none (3 + d) (70 + 22 * d) [.ref a0, .int a1] h q.1 (q_u q.2)) (h : q_H) (v0 : Nat) (v2 : Int32) : q_J G l (RX10, cX10_entersPath, 3, 3 + (d + 1), 70 + 22 * (d + 1), none, "entersPath", []) k0 z0 (q_Z G k0 z0 q_u) 87 [(0, .ref v0), (2, .int v2)] [] h (b_X10_entersPath_87 self h v0 v2) := by
  unfold b_X10_entersPath_87
  refine j_iload_n (pc := 87) (p := 1) rfl rfl dX10_entersPath_87 ?_
  refine j_if_le (pc := 88) (tgt := 103) dX10_entersPath_88 (by decide) (fun _ => ?_) (fun _ => ?_)
  · exact j_vret (pc := 103) rfl dX10_entersPath_103
  refine j_aload_n (pc := 91) (p := 0) rfl rfl dX10_entersPath_91 ?_
  refine j_bipush (pc := 92) kb_48 dX10_entersPath_92 ?_
  refine j_iload_n (pc := 94) (p := 1) rfl rfl dX10_entersPath_94 ?_
  refine j_bipush (pc := 95) kb_10 dX10_entersPath_95 ?_
  refine j_irem (pc := 97) dX10_entersPath_97 (fun x1 _ => ?_)
  refine j_iadd (pc := 98) dX10_entersPath_98 ?_
  refine j_i2l (pc := 99) dX10_entersPath_99 ?_
  refine j_cVu (pc := 100) Y_X10_enters (ci := 9) (b := v0) rfl rfl ml_X10_202 im_X10_enters se_X10_enters ⟨by omega, by omega⟩ dX10_entersPath_100 (As := [.long (Int32.toInt64 ((48) + x1))]) (rest := []) rfl rfl (Nat.le_of_ble_eq_true rfl) (fun x hq9 => c_X10_enters _ _ _ _ hq9) (fun q2 _ => ?_)
  exact j_vret (pc := 103) rfl dX10_entersPath_103
set_option maxRecDepth 20000 in
set_option maxHeartbeats 1000000 in
theorem jb_X10_entersPath_69 {G : q_G} {l : Launch} {k0 z0 : Nat} {d : Nat} (self : q_H → Nat → Int32 → Option (q_H × Unit)) (hself : ∀ (h : q_H) (a0 : Nat) (a1 : Int32) (q : q_H × Unit), self h a0 a1 = some q → (∃ fs, h.1 a0 = .inr (9, fs)) ∧ q_CT G l yX10_entersPath cX10_entersPath 3 none (3 + d) (70 + 22 * d) [.ref a0, .int a1] h q.1 (q_u q.2)) (h : q_H) (v0 : Nat) (v2 : Int32) : q_J G l (RX10, cX10_entersPath, 3, 3 + (d + 1), 70 + 22 * (d + 1), none, "entersPath", []) k0 z0 (q_Z G k0 z0 q_u) 69 [(0, .ref v0), (2, .int v2)] [] h (b_X10_entersPath_69 self h v0 v2) := by
  unfold b_X10_entersPath_69
  refine j_iload_n (pc := 69) (p := 1) rfl rfl dX10_entersPath_69 ?_
  refine j_bipush (pc := 70) kb_9 dX10_entersPath_70 ?_
  refine j_ic_le (pc := 72) (tgt := 87) dX10_entersPath_72 (by decide) (fun _ => ?_) (fun _ => ?_)
  · exact jb_X10_entersPath_87 self hself _ _ _
  refine j_aload_n (pc := 75) (p := 0) rfl rfl dX10_entersPath_75 ?_
  refine j_bipush (pc := 76) kb_48 dX10_entersPath_76 ?_
  refine j_iload_n (pc := 78) (p := 1) rfl rfl dX10_entersPath_78 ?_
  refine j_bipush (pc := 79) kb_10 dX10_entersPath_79 ?_
  refine j_idiv (pc := 81) dX10_entersPath_81 (fun x3 _ => ?_)
  refine j_iadd (pc := 82) dX10_entersPath_82 ?_
  refine j_i2l (pc := 83) dX10_entersPath_83 ?_
  refine j_cVu (pc := 84) Y_X10_enters (ci := 9) (b := v0) rfl rfl ml_X10_202 im_X10_enters se_X10_enters ⟨by omega, by omega⟩ dX10_entersPath_84 (As := [.long (Int32.toInt64 ((48) + x3))]) (rest := []) rfl rfl (Nat.le_of_ble_eq_true rfl) (fun x hq9 => c_X10_enters _ _ _ _ hq9) (fun q4 _ => ?_)
  exact jb_X10_entersPath_87 self hself _ _ _
set_option maxRecDepth 20000 in
set_option maxHeartbeats 1000000 in
theorem jb_X10_entersPath_12 {G : q_G} {l : Launch} {k0 z0 : Nat} {d : Nat} (self : q_H → Nat → Int32 → Option (q_H × Unit)) (hself : ∀ (h : q_H) (a0 : Nat) (a1 : Int32) (q : q_H × Unit), self h a0 a1 = some q → (∃ fs, h.1 a0 = .inr (9, fs)) ∧ q_CT G l yX10_entersPath cX10_entersPath 3 none (3 + d) (70 + 22 * d) [.ref a0, .int a1] h q.1 (q_u q.2)) (h : q_H) (v0 : Nat) (v1 : Int32) : q_J G l (RX10, cX10_entersPath, 3, 3 + (d + 1), 70 + 22 * (d + 1), none, "entersPath", []) k0 z0 (q_Z G k0 z0 q_u) 12 [(0, .ref v0), (1, .int v1)] [] h (b_X10_entersPath_12 self h v0 v1) := by
  unfold b_X10_entersPath_12
  refine j_iload_n (pc := 12) (p := 1) rfl rfl dX10_entersPath_12 ?_
  refine j_iconst (pc := 13) ki_2 dX10_entersPath_13 ?_
  refine j_ic_ge (pc := 14) (tgt := 18) dX10_entersPath_14 (by decide) (fun _ => ?_) (fun _ => ?_)
  · refine j_aload_n (pc := 18) (p := 0) rfl rfl dX10_entersPath_18 ?_
    refine j_aload_n (pc := 19) (p := 0) rfl rfl dX10_entersPath_19 ?_
    refine j_iconst (pc := 20) ki_0 dX10_entersPath_20 ?_
    refine j_iload_n (pc := 21) (p := 1) rfl rfl dX10_entersPath_21 ?_
    refine j_iconst (pc := 22) ki_0 dX10_entersPath_22 ?_
    refine j_cVi (pc := 23) Y_X10_its (ci := 9) (b := v0) rfl rfl ml_X10_129 im_X10_its se_X10_its ⟨by omega, by omega⟩ dX10_entersPath_23 (As := [.int (0), .int v1, .int (0)]) (rest := [.ref v0]) rfl rfl (Nat.le_of_ble_eq_true rfl) (fun x hq9 => c_X10_its _ _ _ _ _ _ hq9) (fun q5 _ => ?_)
    refine j_cVu (pc := 26) Y_X10_entersPath (ci := 9) (b := v0) rfl rfl ml_X10_323 im_X10_entersPath se_X10_entersPath ⟨by omega, by omega⟩ dX10_entersPath_26 (As := [.int q5.2]) (rest := []) rfl rfl (Nat.le_of_ble_eq_true rfl) (fun x hq9 => hself _ _ _ _ hq9) (fun q6 _ => ?_)
    refine j_aload_n (pc := 29) (p := 0) rfl rfl dX10_entersPath_29 ?_
    refine j_ldc2 (pc := 30) cL_X10_326 dX10_entersPath_30 ?_
    refine j_cVu (pc := 33) Y_X10_enters (ci := 9) (b := v0) rfl rfl ml_X10_202 im_X10_enters se_X10_enters ⟨by omega, by omega⟩ dX10_entersPath_33 (As := [.long (47)]) (rest := []) rfl rfl (Nat.le_of_ble_eq_true rfl) (fun x hq9 => c_X10_enters _ _ _ _ hq9) (fun q7 _ => ?_)
    refine j_aload_n (pc := 36) (p := 0) rfl rfl dX10_entersPath_36 ?_
    refine j_bipush (pc := 37) kb_48 dX10_entersPath_37 ?_
    refine j_aload_n (pc := 39) (p := 0) rfl rfl dX10_entersPath_39 ?_
    refine j_iconst (pc := 40) ki_0 dX10_entersPath_40 ?_
    refine j_iload_n (pc := 41) (p := 1) rfl rfl dX10_entersPath_41 ?_
    refine j_iconst (pc := 42) ki_1 dX10_entersPath_42 ?_
    refine j_cVi (pc := 43) Y_X10_its (ci := 9) (b := v0) rfl rfl ml_X10_129 im_X10_its se_X10_its ⟨by omega, by omega⟩ dX10_entersPath_43 (As := [.int (0), .int v1, .int (1)]) (rest := [.int (48), .ref v0]) rfl rfl (Nat.le_of_ble_eq_true rfl) (fun x hq9 => c_X10_its _ _ _ _ _ _ hq9) (fun q8 _ => ?_)
    refine j_iadd (pc := 46) dX10_entersPath_46 ?_
    refine j_i2l (pc := 47) dX10_entersPath_47 ?_
    refine j_cVu (pc := 48) Y_X10_enters (ci := 9) (b := v0) rfl rfl ml_X10_202 im_X10_enters se_X10_enters ⟨by omega, by omega⟩ dX10_entersPath_48 (As := [.long (Int32.toInt64 ((48) + q8.2))]) (rest := []) rfl rfl (Nat.le_of_ble_eq_true rfl) (fun x hq9 => c_X10_enters _ _ _ _ hq9) (fun q9 _ => ?_)
    refine j_aload_n (pc := 51) (p := 0) rfl rfl dX10_entersPath_51 ?_
    refine j_iconst (pc := 52) ki_0 dX10_entersPath_52 ?_
    refine j_iload_n (pc := 53) (p := 1) rfl rfl dX10_entersPath_53 ?_
    refine j_cVi (pc := 54) Y_X10_rank (ci := 9) (b := v0) rfl rfl ml_X10_168 im_X10_rank se_X10_rank ⟨by omega, by omega⟩ dX10_entersPath_54 (As := [.int (0), .int v1]) (rest := []) rfl rfl (Nat.le_of_ble_eq_true rfl) (fun x hq9 => c_X10_rank _ _ _ _ _ hq9) (fun q10 _ => ?_)
    refine j_istore_n (pc := 57) (lv' := [(2, .int q10.2), (0, .ref v0), (1, .int v1)]) rfl (by decide) rfl dX10_entersPath_57 ?_
    refine j_iload_n (pc := 58) (p := 0) rfl rfl dX10_entersPath_58 ?_
    refine j_if_le (pc := 59) (tgt := 69) dX10_entersPath_59 (by decide) (fun _ => ?_) (fun _ => ?_)
    · refine j_sub [1, 0] (lv' := [(0, .ref v0), (2, .int q10.2)]) rfl ?_
      exact jb_X10_entersPath_69 self hself _ _ _
    refine j_aload_n (pc := 62) (p := 1) rfl rfl dX10_entersPath_62 ?_
    refine j_ldc2 (pc := 63) cL_X10_328 dX10_entersPath_63 ?_
    refine j_cVu (pc := 66) Y_X10_enters (ci := 9) (b := v0) rfl rfl ml_X10_202 im_X10_enters se_X10_enters ⟨by omega, by omega⟩ dX10_entersPath_66 (As := [.long (46)]) (rest := []) rfl rfl (Nat.le_of_ble_eq_true rfl) (fun x hq9 => c_X10_enters _ _ _ _ hq9) (fun q11 _ => ?_)
    refine j_sub [1, 0] (lv' := [(0, .ref v0), (2, .int q10.2)]) rfl ?_
    exact jb_X10_entersPath_69 self hself _ _ _
  exact j_vret (pc := 17) rfl dX10_entersPath_17
set_option maxRecDepth 20000 in
set_option maxHeartbeats 1000000 in
theorem jb_X10_entersPath_0 {G : q_G} {l : Launch} {k0 z0 : Nat} {d : Nat} (self : q_H → Nat → Int32 → Option (q_H × Unit)) (hself : ∀ (h : q_H) (a0 : Nat) (a1 : Int32) (q : q_H × Unit), self h a0 a1 = some q → (∃ fs, h.1 a0 = .inr (9, fs)) ∧ q_CT G l yX10_entersPath cX10_entersPath 3 none (3 + d) (70 + 22 * d) [.ref a0, .int a1] h q.1 (q_u q.2)) (h : q_H) (v0 : Nat) (v1 : Int32) : q_J G l (RX10, cX10_entersPath, 3, 3 + (d + 1), 70 + 22 * (d + 1), none, "entersPath", []) k0 z0 (q_Z G k0 z0 q_u) 0 [(0, .ref v0), (1, .int v1)] [] h (b_X10_entersPath_0 self h v0 v1) := by
  unfold b_X10_entersPath_0
  refine j_iload_n (pc := 0) (p := 1) rfl rfl dX10_entersPath_0 ?_
  refine j_iconst (pc := 1) ki_1 dX10_entersPath_1 ?_
  refine j_ic_ne (pc := 2) (tgt := 12) dX10_entersPath_2 (by decide) (fun _ => ?_) (fun _ => ?_)
  · refine j_aload_n (pc := 5) (p := 0) rfl rfl dX10_entersPath_5 ?_
    refine j_ldc2 (pc := 6) cL_X10_321 dX10_entersPath_6 ?_
    refine j_cVu (pc := 9) Y_X10_enters (ci := 9) (b := v0) rfl rfl ml_X10_202 im_X10_enters se_X10_enters ⟨by omega, by omega⟩ dX10_entersPath_9 (As := [.long (126)]) (rest := []) rfl rfl (Nat.le_of_ble_eq_true rfl) (fun x hq9 => c_X10_enters _ _ _ _ hq9) (fun q12 _ => ?_)
    exact jb_X10_entersPath_12 self hself _ _ _
  exact jb_X10_entersPath_12 self hself _ _ _
set_option maxRecDepth 20000 in
set_option maxHeartbeats 1000000 in
theorem c_X10_entersPath {G : q_G} {l : Launch} (d : Nat) : ∀ (h : q_H) (a0 : Nat) (a1 : Int32) (q : q_H × Unit), f_X10_entersPath d h a0 a1 = some q → (∃ fs, h.1 a0 = .inr (9, fs)) ∧ q_CT G l yX10_entersPath cX10_entersPath 3 none (3 + d) (70 + 22 * d) [.ref a0, .int a1] h q.1 (q_u q.2) := by
  induction d with
  | zero => intro h a0 a1 q e; cases e
  | succ d ih =>
    intro h a0 a1 q e
    obtain ⟨e1, e2⟩ := q_chk_ok e
    exact ⟨e1, q_ofJ Y_X10_entersPath (Nat.le_of_ble_eq_true rfl) (jb_X10_entersPath_0 (f_X10_entersPath d) ih h a0 a1) q e2⟩
/-! FarFoldersModel.entry(III)I -/
theorem dX10_entry_0 : decode cX10_entry 0 = .ok (.aload_n 0, 1) := by decide +kernel
theorem dX10_entry_1 : decode cX10_entry 1 = .ok (.iload_n 1, 1) := by decide +kernel
theorem dX10_entry_2 : decode cX10_entry 2 = .ok (.invokestatic 101, 3) := by decide +kernel
theorem dX10_entry_5 : decode cX10_entry 5 = .ok (.ifCond .eq 22, 3) := by decide +kernel
theorem dX10_entry_8 : decode cX10_entry 8 = .ok (.iload_n 2, 1) := by decide +kernel
theorem dX10_entry_9 : decode cX10_entry 9 = .ok (.invokestatic 159, 3) := by decide +kernel
theorem dX10_entry_12 : decode cX10_entry 12 = .ok (.ifCond .eq 15, 3) := by decide +kernel
theorem dX10_entry_15 : decode cX10_entry 15 = .ok (.iload_n 3, 1) := by decide +kernel
theorem dX10_entry_16 : decode cX10_entry 16 = .ok (.i2l, 1) := by decide +kernel
theorem dX10_entry_17 : decode cX10_entry 17 = .ok (.lconst 0, 1) := by decide +kernel
theorem dX10_entry_18 : decode cX10_entry 18 = .ok (.ldc2_w 162, 3) := by decide +kernel
theorem dX10_entry_21 : decode cX10_entry 21 = .ok (.invokestatic 21, 3) := by decide +kernel
theorem dX10_entry_24 : decode cX10_entry 24 = .ok (.ifCond .ne 7, 3) := by decide +kernel
theorem dX10_entry_27 : decode cX10_entry 27 = .ok (.iconst 1, 1) := by decide +kernel
theorem dX10_entry_28 : decode cX10_entry 28 = .ok (.goto 4, 3) := by decide +kernel
theorem dX10_entry_31 : decode cX10_entry 31 = .ok (.iconst 0, 1) := by decide +kernel
theorem dX10_entry_32 : decode cX10_entry 32 = .ok (.invokestatic 115, 3) := by decide +kernel
theorem dX10_entry_35 : decode cX10_entry 35 = .ok (.putfield 1, 3) := by decide +kernel
theorem dX10_entry_38 : decode cX10_entry 38 = .ok (.aload_n 0, 1) := by decide +kernel
theorem dX10_entry_39 : decode cX10_entry 39 = .ok (.getfield 1, 3) := by decide +kernel
theorem dX10_entry_42 : decode cX10_entry 42 = .ok (.ifCond .ne 30, 3) := by decide +kernel
theorem dX10_entry_45 : decode cX10_entry 45 = .ok (.aload_n 0, 1) := by decide +kernel
theorem dX10_entry_46 : decode cX10_entry 46 = .ok (.iconst 0, 1) := by decide +kernel
theorem dX10_entry_47 : decode cX10_entry 47 = .ok (.iload_n 1, 1) := by decide +kernel
theorem dX10_entry_48 : decode cX10_entry 48 = .ok (.invokevirtual 164, 3) := by decide +kernel
theorem dX10_entry_51 : decode cX10_entry 51 = .ok (.aload_n 0, 1) := by decide +kernel
theorem dX10_entry_52 : decode cX10_entry 52 = .ok (.aload_n 0, 1) := by decide +kernel
theorem dX10_entry_53 : decode cX10_entry 53 = .ok (.iconst 0, 1) := by decide +kernel
theorem dX10_entry_54 : decode cX10_entry 54 = .ok (.iload_n 2, 1) := by decide +kernel
theorem dX10_entry_55 : decode cX10_entry 55 = .ok (.invokevirtual 133, 3) := by decide +kernel
theorem dX10_entry_58 : decode cX10_entry 58 = .ok (.ifCond .ne 7, 3) := by decide +kernel
theorem dX10_entry_61 : decode cX10_entry 61 = .ok (.iconst 1, 1) := by decide +kernel
theorem dX10_entry_62 : decode cX10_entry 62 = .ok (.goto 4, 3) := by decide +kernel
theorem dX10_entry_65 : decode cX10_entry 65 = .ok (.iconst 0, 1) := by decide +kernel
theorem dX10_entry_66 : decode cX10_entry 66 = .ok (.invokestatic 115, 3) := by decide +kernel
theorem dX10_entry_69 : decode cX10_entry 69 = .ok (.putfield 1, 3) := by decide +kernel
theorem dX10_entry_72 : decode cX10_entry 72 = .ok (.aload_n 0, 1) := by decide +kernel
theorem dX10_entry_73 : decode cX10_entry 73 = .ok (.getfield 1, 3) := by decide +kernel
theorem dX10_entry_76 : decode cX10_entry 76 = .ok (.iconst 1, 1) := by decide +kernel
theorem dX10_entry_77 : decode cX10_entry 77 = .ok (.if_icmp .ne 5, 3) := by decide +kernel
theorem dX10_entry_80 : decode cX10_entry 80 = .ok (.iconst 0, 1) := by decide +kernel
theorem dX10_entry_81 : decode cX10_entry 81 = .ok (.ireturn, 1) := by decide +kernel
theorem dX10_entry_82 : decode cX10_entry 82 = .ok (.iload_n 3, 1) := by decide +kernel
theorem dX10_entry_83 : decode cX10_entry 83 = .ok (.iconst 2, 1) := by decide +kernel
theorem dX10_entry_84 : decode cX10_entry 84 = .ok (.if_icmp .ne 12, 3) := by decide +kernel
theorem dX10_entry_87 : decode cX10_entry 87 = .ok (.aload_n 0, 1) := by decide +kernel
theorem dX10_entry_88 : decode cX10_entry 88 = .ok (.iconst 0, 1) := by decide +kernel
theorem dX10_entry_89 : decode cX10_entry 89 = .ok (.iload_n 2, 1) := by decide +kernel
theorem dX10_entry_90 : decode cX10_entry 90 = .ok (.invokevirtual 168, 3) := by decide +kernel
theorem dX10_entry_93 : decode cX10_entry 93 = .ok (.goto 21, 3) := by decide +kernel
theorem dX10_entry_96 : decode cX10_entry 96 = .ok (.aload_n 0, 1) := by decide +kernel
theorem dX10_entry_97 : decode cX10_entry 97 = .ok (.iconst 0, 1) := by decide +kernel
theorem dX10_entry_98 : decode cX10_entry 98 = .ok (.iload_n 2, 1) := by decide +kernel
theorem dX10_entry_99 : decode cX10_entry 99 = .ok (.iload_n 3, 1) := by decide +kernel
theorem dX10_entry_100 : decode cX10_entry 100 = .ok (.iconst 2, 1) := by decide +kernel
theorem dX10_entry_101 : decode cX10_entry 101 = .ok (.if_icmp .ge 7, 3) := by decide +kernel
theorem dX10_entry_104 : decode cX10_entry 104 = .ok (.iload_n 3, 1) := by decide +kernel
theorem dX10_entry_105 : decode cX10_entry 105 = .ok (.goto 6, 3) := by decide +kernel
theorem dX10_entry_108 : decode cX10_entry 108 = .ok (.iload_n 3, 1) := by decide +kernel
theorem dX10_entry_109 : decode cX10_entry 109 = .ok (.iconst 1, 1) := by decide +kernel
theorem dX10_entry_110 : decode cX10_entry 110 = .ok (.isub, 1) := by decide +kernel
theorem dX10_entry_111 : decode cX10_entry 111 = .ok (.invokevirtual 129, 3) := by decide +kernel
theorem dX10_entry_114 : decode cX10_entry 114 = .ok (.ireturn, 1) := by decide +kernel
def b_X10_entry_111 (h : q_H) (s0 : Nat) (s1 : Int32) (s2 : Int32) (s3 : Int32) : Option (q_H × Int32) :=
  Option.bind (f_X10_its h s0 s1 s2 s3) (fun q1 => some (q1.1, q1.2))
def b_X10_entry_72 (h : q_H) (v0 : Nat) (v2 : Int32) (v3 : Int32) : Option (q_H × Int32) :=
  Option.bind (q_gI 9 0 h v0) (fun x2 => if x2 = (1) then some (h, (0)) else if v3 = (2) then Option.bind (f_X10_rank h v0 (0) v2) (fun q3 => some (q3.1, q3.2)) else if (2) ≤ v3 then b_X10_entry_111 h v0 (0) v2 (v3 - (1)) else b_X10_entry_111 h v0 (0) v2 v3)
def b_X10_entry_66 (h : q_H) (v0 : Nat) (v2 : Int32) (v3 : Int32) (s0 : Nat) (s1 : Int32) : Option (q_H × Int32) :=
  Option.bind (f_X10_flag h s1) (fun q4 => Option.bind (q_p 9 0 q4.1 s0 (.int q4.2)) (fun h5 => b_X10_entry_72 h5 v0 v2 v3))
def b_X10_entry_32 (h : q_H) (v0 : Nat) (v1 : Int32) (v2 : Int32) (v3 : Int32) (s0 : Nat) (s1 : Int32) : Option (q_H × Int32) :=
  Option.bind (f_X10_flag h s1) (fun q6 => Option.bind (q_p 9 0 q6.1 s0 (.int q6.2)) (fun h7 => Option.bind (q_gI 9 0 h7 v0) (fun x8 => if x8 = 0 then Option.bind (f_X10_lays h7 v0 (0) v1) (fun q9 => Option.bind (f_X10_isThere q9.1 v0 (0) v2) (fun q10 => if q10.2 = 0 then b_X10_entry_66 q10.1 v0 v2 v3 v0 (1) else b_X10_entry_66 q10.1 v0 v2 v3 v0 (0))) else b_X10_entry_72 h7 v0 v2 v3)))
def b_X10_entry_27 (h : q_H) (v0 : Nat) (v1 : Int32) (v2 : Int32) (v3 : Int32) (s0 : Nat) : Option (q_H × Int32) :=
  b_X10_entry_32 h v0 v1 v2 v3 s0 (1)
def b_X10_entry_0 (h : q_H) (v0 : Nat) (v1 : Int32) (v2 : Int32) (v3 : Int32) : Option (q_H × Int32) :=
  Option.bind (f_X10_isCopy h v1) (fun q11 => if q11.2 = 0 then b_X10_entry_27 q11.1 v0 v1 v2 v3 v0 else Option.bind (f_X10_isFolder q11.1 v2) (fun q12 => if q12.2 = 0 then b_X10_entry_27 q12.1 v0 v1 v2 v3 v0 else Option.bind (f_X10_in q12.1 (Int32.toInt64 v3) (0) (4)) (fun q13 => if q13.2 = 0 then b_X10_entry_27 q13.1 v0 v1 v2 v3 v0 else b_X10_entry_32 q13.1 v0 v1 v2 v3 v0 (0))))
def f_X10_entry (h : q_H) (a0 : Nat) (a1 : Int32) (a2 : Int32) (a3 : Int32) : Option (q_H × Int32) := q_chk 9 h a0 (b_X10_entry_0 h a0 a1 a2 a3)
set_option maxRecDepth 20000 in
set_option maxHeartbeats 1000000 in
theorem jb_X10_entry_111 {G : q_G} {l : Launch} {k0 z0 : Nat} (h : q_H) (s0 : Nat) (s1 : Int32) (s2 : Int32) (s3 : Int32) : q_J G l (RX10, cX10_entry, 4, 5, 118, (some .int), "entry", []) k0 z0 (q_Z G k0 z0 q_i) 111 [] [.int s3, .int s2, .int s1, .ref s0] h (b_X10_entry_111 h s0 s1 s2 s3) := by
  unfold b_X10_entry_111
  refine j_cVi (pc := 111) Y_X10_its (ci := 9) (b := s0) rfl rfl ml_X10_129 im_X10_its se_X10_its ⟨Nat.le_of_ble_eq_true rfl, Nat.le_of_ble_eq_true rfl⟩ dX10_entry_111 (As := [.int s1, .int s2, .int s3]) (rest := []) rfl rfl (Nat.le_of_ble_eq_true rfl) (fun x hq9 => c_X10_its _ _ _ _ _ _ hq9) (fun q1 _ => ?_)
  exact j_iret (pc := 114) rfl dX10_entry_114
set_option maxRecDepth 20000 in
set_option maxHeartbeats 1000000 in
theorem jb_X10_entry_72 {G : q_G} {l : Launch} {k0 z0 : Nat} (h : q_H) (v0 : Nat) (v2 : Int32) (v3 : Int32) : q_J G l (RX10, cX10_entry, 4, 5, 118, (some .int), "entry", []) k0 z0 (q_Z G k0 z0 q_i) 72 [(0, .ref v0), (2, .int v2), (3, .int v3)] [] h (b_X10_entry_72 h v0 v2 v3) := by
  unfold b_X10_entry_72
  refine j_aload_n (pc := 72) (p := 0) rfl rfl dX10_entry_72 ?_
  refine j_getI (pc := 73) FI_X10 (k := 0) (by decide) fl_X10_1 dX10_entry_73 (fun x2 _ => ?_)
  refine j_iconst (pc := 76) ki_1 dX10_entry_76 ?_
  refine j_ic_ne (pc := 77) (tgt := 82) dX10_entry_77 (by decide) (fun _ => ?_) (fun _ => ?_)
  · refine j_iconst (pc := 80) ki_0 dX10_entry_80 ?_
    exact j_iret (pc := 81) rfl dX10_entry_81
  refine j_iload_n (pc := 82) (p := 2) rfl rfl dX10_entry_82 ?_
  refine j_iconst (pc := 83) ki_2 dX10_entry_83 ?_
  refine j_ic_ne (pc := 84) (tgt := 96) dX10_entry_84 (by decide) (fun _ => ?_) (fun _ => ?_)
  · refine j_aload_n (pc := 87) (p := 0) rfl rfl dX10_entry_87 ?_
    refine j_iconst (pc := 88) ki_0 dX10_entry_88 ?_
    refine j_iload_n (pc := 89) (p := 1) rfl rfl dX10_entry_89 ?_
    refine j_cVi (pc := 90) Y_X10_rank (ci := 9) (b := v0) rfl rfl ml_X10_168 im_X10_rank se_X10_rank ⟨Nat.le_of_ble_eq_true rfl, Nat.le_of_ble_eq_true rfl⟩ dX10_entry_90 (As := [.int (0), .int v2]) (rest := []) rfl rfl (Nat.le_of_ble_eq_true rfl) (fun x hq9 => c_X10_rank _ _ _ _ _ hq9) (fun q3 _ => ?_)
    refine j_goto (pc := 93) (tgt := 114) dX10_entry_93 (by decide) ?_
    exact j_iret (pc := 114) rfl dX10_entry_114
  refine j_aload_n (pc := 96) (p := 0) rfl rfl dX10_entry_96 ?_
  refine j_iconst (pc := 97) ki_0 dX10_entry_97 ?_
  refine j_iload_n (pc := 98) (p := 1) rfl rfl dX10_entry_98 ?_
  refine j_iload_n (pc := 99) (p := 2) rfl rfl dX10_entry_99 ?_
  refine j_iconst (pc := 100) ki_2 dX10_entry_100 ?_
  refine j_ic_ge (pc := 101) (tgt := 108) dX10_entry_101 (by decide) (fun _ => ?_) (fun _ => ?_)
  · refine j_iload_n (pc := 108) (p := 2) rfl rfl dX10_entry_108 ?_
    refine j_iconst (pc := 109) ki_1 dX10_entry_109 ?_
    refine j_isub (pc := 110) dX10_entry_110 ?_
    refine j_sub [] (lv' := []) rfl ?_
    exact jb_X10_entry_111 _ _ _ _ _
  refine j_iload_n (pc := 104) (p := 2) rfl rfl dX10_entry_104 ?_
  refine j_goto (pc := 105) (tgt := 111) dX10_entry_105 (by decide) ?_
  refine j_sub [] (lv' := []) rfl ?_
  exact jb_X10_entry_111 _ _ _ _ _
set_option maxRecDepth 20000 in
set_option maxHeartbeats 1000000 in
theorem jb_X10_entry_66 {G : q_G} {l : Launch} {k0 z0 : Nat} (h : q_H) (v0 : Nat) (v2 : Int32) (v3 : Int32) (s0 : Nat) (s1 : Int32) : q_J G l (RX10, cX10_entry, 4, 5, 118, (some .int), "entry", []) k0 z0 (q_Z G k0 z0 q_i) 66 [(0, .ref v0), (2, .int v2), (3, .int v3)] [.int s1, .ref s0] h (b_X10_entry_66 h v0 v2 v3 s0 s1) := by
  unfold b_X10_entry_66
  refine j_cSi (pc := 66) Y_X10_flag ml_X10_115 sm_X10_flag ⟨Nat.le_of_ble_eq_true rfl, Nat.le_of_ble_eq_true rfl⟩ dX10_entry_66 (As := [.int s1]) (rest := [.ref s0]) rfl rfl (Nat.le_of_ble_eq_true rfl) (fun x hq9 => c_X10_flag _ _ _ hq9) (fun q4 _ => ?_)
  refine j_put (pc := 69) FI_X10 (k := 0) (by decide) fl_X10_1 rfl rfl rfl dX10_entry_69 (fun h5 _ => ?_)
  exact jb_X10_entry_72 _ _ _ _
set_option maxRecDepth 20000 in
set_option maxHeartbeats 1000000 in
theorem jb_X10_entry_32 {G : q_G} {l : Launch} {k0 z0 : Nat} (h : q_H) (v0 : Nat) (v1 : Int32) (v2 : Int32) (v3 : Int32) (s0 : Nat) (s1 : Int32) : q_J G l (RX10, cX10_entry, 4, 5, 118, (some .int), "entry", []) k0 z0 (q_Z G k0 z0 q_i) 32 [(0, .ref v0), (1, .int v1), (2, .int v2), (3, .int v3)] [.int s1, .ref s0] h (b_X10_entry_32 h v0 v1 v2 v3 s0 s1) := by
  unfold b_X10_entry_32
  refine j_cSi (pc := 32) Y_X10_flag ml_X10_115 sm_X10_flag ⟨Nat.le_of_ble_eq_true rfl, Nat.le_of_ble_eq_true rfl⟩ dX10_entry_32 (As := [.int s1]) (rest := [.ref s0]) rfl rfl (Nat.le_of_ble_eq_true rfl) (fun x hq9 => c_X10_flag _ _ _ hq9) (fun q6 _ => ?_)
  refine j_put (pc := 35) FI_X10 (k := 0) (by decide) fl_X10_1 rfl rfl rfl dX10_entry_35 (fun h7 _ => ?_)
  refine j_aload_n (pc := 38) (p := 0) rfl rfl dX10_entry_38 ?_
  refine j_getI (pc := 39) FI_X10 (k := 0) (by decide) fl_X10_1 dX10_entry_39 (fun x8 _ => ?_)
  refine j_if_ne (pc := 42) (tgt := 72) dX10_entry_42 (by decide) (fun _ => ?_) (fun _ => ?_)
  · refine j_aload_n (pc := 45) (p := 0) rfl rfl dX10_entry_45 ?_
    refine j_iconst (pc := 46) ki_0 dX10_entry_46 ?_
    refine j_iload_n (pc := 47) (p := 1) rfl rfl dX10_entry_47 ?_
    refine j_cVu (pc := 48) Y_X10_lays (ci := 9) (b := v0) rfl rfl ml_X10_164 im_X10_lays se_X10_lays ⟨Nat.le_of_ble_eq_true rfl, Nat.le_of_ble_eq_true rfl⟩ dX10_entry_48 (As := [.int (0), .int v1]) (rest := []) rfl rfl (Nat.le_of_ble_eq_true rfl) (fun x hq9 => c_X10_lays _ _ _ _ _ hq9) (fun q9 _ => ?_)
    refine j_aload_n (pc := 51) (p := 0) rfl rfl dX10_entry_51 ?_
    refine j_aload_n (pc := 52) (p := 0) rfl rfl dX10_entry_52 ?_
    refine j_iconst (pc := 53) ki_0 dX10_entry_53 ?_
    refine j_iload_n (pc := 54) (p := 2) rfl rfl dX10_entry_54 ?_
    refine j_cVi (pc := 55) Y_X10_isThere (ci := 9) (b := v0) rfl rfl ml_X10_133 im_X10_isThere se_X10_isThere ⟨Nat.le_of_ble_eq_true rfl, Nat.le_of_ble_eq_true rfl⟩ dX10_entry_55 (As := [.int (0), .int v2]) (rest := [.ref v0]) rfl rfl (Nat.le_of_ble_eq_true rfl) (fun x hq9 => c_X10_isThere _ _ _ _ _ hq9) (fun q10 _ => ?_)
    refine j_if_ne (pc := 58) (tgt := 65) dX10_entry_58 (by decide) (fun _ => ?_) (fun _ => ?_)
    · refine j_iconst (pc := 61) ki_1 dX10_entry_61 ?_
      refine j_goto (pc := 62) (tgt := 66) dX10_entry_62 (by decide) ?_
      refine j_sub [0, 2, 3] (lv' := [(0, .ref v0), (2, .int v2), (3, .int v3)]) rfl ?_
      exact jb_X10_entry_66 _ _ _ _ _ _
    refine j_iconst (pc := 65) ki_0 dX10_entry_65 ?_
    refine j_sub [0, 2, 3] (lv' := [(0, .ref v0), (2, .int v2), (3, .int v3)]) rfl ?_
    exact jb_X10_entry_66 _ _ _ _ _ _
  refine j_sub [0, 2, 3] (lv' := [(0, .ref v0), (2, .int v2), (3, .int v3)]) rfl ?_
  exact jb_X10_entry_72 _ _ _ _
set_option maxRecDepth 20000 in
set_option maxHeartbeats 1000000 in
theorem jb_X10_entry_27 {G : q_G} {l : Launch} {k0 z0 : Nat} (h : q_H) (v0 : Nat) (v1 : Int32) (v2 : Int32) (v3 : Int32) (s0 : Nat) : q_J G l (RX10, cX10_entry, 4, 5, 118, (some .int), "entry", []) k0 z0 (q_Z G k0 z0 q_i) 27 [(0, .ref v0), (1, .int v1), (2, .int v2), (3, .int v3)] [.ref s0] h (b_X10_entry_27 h v0 v1 v2 v3 s0) := by
  unfold b_X10_entry_27
  refine j_iconst (pc := 27) ki_1 dX10_entry_27 ?_
  refine j_goto (pc := 28) (tgt := 32) dX10_entry_28 (by decide) ?_
  exact jb_X10_entry_32 _ _ _ _ _ _ _
set_option maxRecDepth 20000 in
set_option maxHeartbeats 1000000 in
theorem jb_X10_entry_0 {G : q_G} {l : Launch} {k0 z0 : Nat} (h : q_H) (v0 : Nat) (v1 : Int32) (v2 : Int32) (v3 : Int32) : q_J G l (RX10, cX10_entry, 4, 5, 118, (some .int), "entry", []) k0 z0 (q_Z G k0 z0 q_i) 0 [(0, .ref v0), (1, .int v1), (2, .int v2), (3, .int v3)] [] h (b_X10_entry_0 h v0 v1 v2 v3) := by
  unfold b_X10_entry_0
  refine j_aload_n (pc := 0) (p := 0) rfl rfl dX10_entry_0 ?_
  refine j_iload_n (pc := 1) (p := 1) rfl rfl dX10_entry_1 ?_
  refine j_cSi (pc := 2) Y_X10_isCopy ml_X10_101 sm_X10_isCopy ⟨Nat.le_of_ble_eq_true rfl, Nat.le_of_ble_eq_true rfl⟩ dX10_entry_2 (As := [.int v1]) (rest := [.ref v0]) rfl rfl (Nat.le_of_ble_eq_true rfl) (fun x hq9 => c_X10_isCopy _ _ _ hq9) (fun q11 _ => ?_)
  refine j_if_eq (pc := 5) (tgt := 27) dX10_entry_5 (by decide) (fun _ => ?_) (fun _ => ?_)
  · exact jb_X10_entry_27 _ _ _ _ _ _
  refine j_iload_n (pc := 8) (p := 2) rfl rfl dX10_entry_8 ?_
  refine j_cSi (pc := 9) Y_X10_isFolder ml_X10_159 sm_X10_isFolder ⟨Nat.le_of_ble_eq_true rfl, Nat.le_of_ble_eq_true rfl⟩ dX10_entry_9 (As := [.int v2]) (rest := [.ref v0]) rfl rfl (Nat.le_of_ble_eq_true rfl) (fun x hq9 => c_X10_isFolder _ _ _ hq9) (fun q12 _ => ?_)
  refine j_if_eq (pc := 12) (tgt := 27) dX10_entry_12 (by decide) (fun _ => ?_) (fun _ => ?_)
  · exact jb_X10_entry_27 _ _ _ _ _ _
  refine j_iload_n (pc := 15) (p := 3) rfl rfl dX10_entry_15 ?_
  refine j_i2l (pc := 16) dX10_entry_16 ?_
  refine j_lconst (pc := 17) kl_0 dX10_entry_17 ?_
  refine j_ldc2 (pc := 18) cL_X10_162 dX10_entry_18 ?_
  refine j_cSi (pc := 21) Y_X10_in ml_X10_21 sm_X10_in ⟨Nat.le_of_ble_eq_true rfl, Nat.le_of_ble_eq_true rfl⟩ dX10_entry_21 (As := [.long (Int32.toInt64 v3), .long (0), .long (4)]) (rest := [.ref v0]) rfl rfl (Nat.le_of_ble_eq_true rfl) (fun x hq9 => c_X10_in _ _ _ _ _ hq9) (fun q13 _ => ?_)
  refine j_if_ne (pc := 24) (tgt := 31) dX10_entry_24 (by decide) (fun _ => ?_) (fun _ => ?_)
  · exact jb_X10_entry_27 _ _ _ _ _ _
  refine j_iconst (pc := 31) ki_0 dX10_entry_31 ?_
  exact jb_X10_entry_32 _ _ _ _ _ _ _
set_option maxRecDepth 20000 in
set_option maxHeartbeats 1000000 in
theorem c_X10_entry {G : q_G} {l : Launch} : ∀ (h : q_H) (a0 : Nat) (a1 : Int32) (a2 : Int32) (a3 : Int32) (q : q_H × Int32), f_X10_entry h a0 a1 a2 a3 = some q → (∃ fs, h.1 a0 = .inr (9, fs)) ∧ q_CT G l yX10_entry cX10_entry 4 (some .int) 5 118 [.ref a0, .int a1, .int a2, .int a3] h q.1 (q_i q.2) := by
  intro h a0 a1 a2 a3 q e
  obtain ⟨e1, e2⟩ := q_chk_ok e
  exact ⟨e1, q_ofJ Y_X10_entry (Nat.le_of_ble_eq_true rfl) (jb_X10_entry_0 h a0 a1 a2 a3) q e2⟩
/-! FarFoldersModel.finds(I)I -/
theorem dX10_finds_0 : decode cX10_finds 0 = .ok (.aload_n 0, 1) := by decide +kernel
theorem dX10_finds_1 : decode cX10_finds 1 = .ok (.iconst 0, 1) := by decide +kernel
theorem dX10_finds_2 : decode cX10_finds 2 = .ok (.putfield 1, 3) := by decide +kernel
theorem dX10_finds_5 : decode cX10_finds 5 = .ok (.aload_n 0, 1) := by decide +kernel
theorem dX10_finds_6 : decode cX10_finds 6 = .ok (.invokevirtual 278, 3) := by decide +kernel
theorem dX10_finds_9 : decode cX10_finds 9 = .ok (.aload_n 0, 1) := by decide +kernel
theorem dX10_finds_10 : decode cX10_finds 10 = .ok (.getfield 28, 3) := by decide +kernel
theorem dX10_finds_13 : decode cX10_finds 13 = .ok (.aload_n 0, 1) := by decide +kernel
theorem dX10_finds_14 : decode cX10_finds 14 = .ok (.getfield 25, 3) := by decide +kernel
theorem dX10_finds_17 : decode cX10_finds 17 = .ok (.if_icmp .ge 21, 3) := by decide +kernel
theorem dX10_finds_20 : decode cX10_finds 20 = .ok (.aload_n 0, 1) := by decide +kernel
theorem dX10_finds_21 : decode cX10_finds 21 = .ok (.getfield 17, 3) := by decide +kernel
theorem dX10_finds_24 : decode cX10_finds 24 = .ok (.aload_n 0, 1) := by decide +kernel
theorem dX10_finds_25 : decode cX10_finds 25 = .ok (.getfield 28, 3) := by decide +kernel
theorem dX10_finds_28 : decode cX10_finds 28 = .ok (.iaload, 1) := by decide +kernel
theorem dX10_finds_29 : decode cX10_finds 29 = .ok (.bipush 126, 2) := by decide +kernel
theorem dX10_finds_31 : decode cX10_finds 31 = .ok (.if_icmp .ne 7, 3) := by decide +kernel
theorem dX10_finds_34 : decode cX10_finds 34 = .ok (.iconst 1, 1) := by decide +kernel
theorem dX10_finds_35 : decode cX10_finds 35 = .ok (.goto 4, 3) := by decide +kernel
theorem dX10_finds_38 : decode cX10_finds 38 = .ok (.iconst 0, 1) := by decide +kernel
theorem dX10_finds_39 : decode cX10_finds 39 = .ok (.istore_n 2, 1) := by decide +kernel
theorem dX10_finds_40 : decode cX10_finds 40 = .ok (.aload_n 0, 1) := by decide +kernel
theorem dX10_finds_41 : decode cX10_finds 41 = .ok (.dup, 1) := by decide +kernel
theorem dX10_finds_42 : decode cX10_finds 42 = .ok (.getfield 28, 3) := by decide +kernel
theorem dX10_finds_45 : decode cX10_finds 45 = .ok (.iload_n 2, 1) := by decide +kernel
theorem dX10_finds_46 : decode cX10_finds 46 = .ok (.iadd, 1) := by decide +kernel
theorem dX10_finds_47 : decode cX10_finds 47 = .ok (.putfield 28, 3) := by decide +kernel
theorem dX10_finds_50 : decode cX10_finds 50 = .ok (.iconst 0, 1) := by decide +kernel
theorem dX10_finds_51 : decode cX10_finds 51 = .ok (.istore_n 3, 1) := by decide +kernel
theorem dX10_finds_52 : decode cX10_finds 52 = .ok (.aload_n 0, 1) := by decide +kernel
theorem dX10_finds_53 : decode cX10_finds 53 = .ok (.getfield 28, 3) := by decide +kernel
theorem dX10_finds_56 : decode cX10_finds 56 = .ok (.aload_n 0, 1) := by decide +kernel
theorem dX10_finds_57 : decode cX10_finds 57 = .ok (.getfield 25, 3) := by decide +kernel
theorem dX10_finds_60 : decode cX10_finds 60 = .ok (.if_icmp .ge 167, 3) := by decide +kernel
theorem dX10_finds_63 : decode cX10_finds 63 = .ok (.aload_n 0, 1) := by decide +kernel
theorem dX10_finds_64 : decode cX10_finds 64 = .ok (.getfield 17, 3) := by decide +kernel
theorem dX10_finds_67 : decode cX10_finds 67 = .ok (.aload_n 0, 1) := by decide +kernel
theorem dX10_finds_68 : decode cX10_finds 68 = .ok (.getfield 28, 3) := by decide +kernel
theorem dX10_finds_71 : decode cX10_finds 71 = .ok (.iaload, 1) := by decide +kernel
theorem dX10_finds_72 : decode cX10_finds 72 = .ok (.bipush 47, 2) := by decide +kernel
theorem dX10_finds_74 : decode cX10_finds 74 = .ok (.if_icmp .eq 10, 3) := by decide +kernel
theorem dX10_finds_77 : decode cX10_finds 77 = .ok (.iconst (-1), 1) := by decide +kernel
theorem dX10_finds_78 : decode cX10_finds 78 = .ok (.aload_n 0, 1) := by decide +kernel
theorem dX10_finds_79 : decode cX10_finds 79 = .ok (.getfield 28, 3) := by decide +kernel
theorem dX10_finds_82 : decode cX10_finds 82 = .ok (.isub, 1) := by decide +kernel
theorem dX10_finds_83 : decode cX10_finds 83 = .ok (.ireturn, 1) := by decide +kernel
theorem dX10_finds_84 : decode cX10_finds 84 = .ok (.aload_n 0, 1) := by decide +kernel
theorem dX10_finds_85 : decode cX10_finds 85 = .ok (.dup, 1) := by decide +kernel
theorem dX10_finds_86 : decode cX10_finds 86 = .ok (.getfield 28, 3) := by decide +kernel
theorem dX10_finds_89 : decode cX10_finds 89 = .ok (.iconst 1, 1) := by decide +kernel
theorem dX10_finds_90 : decode cX10_finds 90 = .ok (.iadd, 1) := by decide +kernel
theorem dX10_finds_91 : decode cX10_finds 91 = .ok (.putfield 28, 3) := by decide +kernel
theorem dX10_finds_94 : decode cX10_finds 94 = .ok (.aload_n 0, 1) := by decide +kernel
theorem dX10_finds_95 : decode cX10_finds 95 = .ok (.getfield 75, 3) := by decide +kernel
theorem dX10_finds_98 : decode cX10_finds 98 = .ok (.iload_n 3, 1) := by decide +kernel
theorem dX10_finds_99 : decode cX10_finds 99 = .ok (.aload_n 0, 1) := by decide +kernel
theorem dX10_finds_100 : decode cX10_finds 100 = .ok (.ldc_w 276, 3) := by decide +kernel
theorem dX10_finds_103 : decode cX10_finds 103 = .ok (.invokevirtual 265, 3) := by decide +kernel
theorem dX10_finds_106 : decode cX10_finds 106 = .ok (.iastore, 1) := by decide +kernel
theorem dX10_finds_107 : decode cX10_finds 107 = .ok (.aload_n 0, 1) := by decide +kernel
theorem dX10_finds_108 : decode cX10_finds 108 = .ok (.getfield 78, 3) := by decide +kernel
theorem dX10_finds_111 : decode cX10_finds 111 = .ok (.iload_n 3, 1) := by decide +kernel
theorem dX10_finds_112 : decode cX10_finds 112 = .ok (.iconst 0, 1) := by decide +kernel
theorem dX10_finds_113 : decode cX10_finds 113 = .ok (.iastore, 1) := by decide +kernel
theorem dX10_finds_114 : decode cX10_finds 114 = .ok (.aload_n 0, 1) := by decide +kernel
theorem dX10_finds_115 : decode cX10_finds 115 = .ok (.getfield 75, 3) := by decide +kernel
theorem dX10_finds_118 : decode cX10_finds 118 = .ok (.iload_n 3, 1) := by decide +kernel
theorem dX10_finds_119 : decode cX10_finds 119 = .ok (.iaload, 1) := by decide +kernel
theorem dX10_finds_120 : decode cX10_finds 120 = .ok (.ifCond .ge 10, 3) := by decide +kernel
theorem dX10_finds_123 : decode cX10_finds 123 = .ok (.iconst (-1), 1) := by decide +kernel
theorem dX10_finds_124 : decode cX10_finds 124 = .ok (.aload_n 0, 1) := by decide +kernel
theorem dX10_finds_125 : decode cX10_finds 125 = .ok (.getfield 28, 3) := by decide +kernel
theorem dX10_finds_128 : decode cX10_finds 128 = .ok (.isub, 1) := by decide +kernel
theorem dX10_finds_129 : decode cX10_finds 129 = .ok (.ireturn, 1) := by decide +kernel
theorem dX10_finds_130 : decode cX10_finds 130 = .ok (.aload_n 0, 1) := by decide +kernel
theorem dX10_finds_131 : decode cX10_finds 131 = .ok (.getfield 28, 3) := by decide +kernel
theorem dX10_finds_134 : decode cX10_finds 134 = .ok (.aload_n 0, 1) := by decide +kernel
theorem dX10_finds_135 : decode cX10_finds 135 = .ok (.getfield 25, 3) := by decide +kernel
theorem dX10_finds_138 : decode cX10_finds 138 = .ok (.if_icmp .ge 83, 3) := by decide +kernel
theorem dX10_finds_141 : decode cX10_finds 141 = .ok (.aload_n 0, 1) := by decide +kernel
theorem dX10_finds_142 : decode cX10_finds 142 = .ok (.getfield 17, 3) := by decide +kernel
theorem dX10_finds_145 : decode cX10_finds 145 = .ok (.aload_n 0, 1) := by decide +kernel
theorem dX10_finds_146 : decode cX10_finds 146 = .ok (.getfield 28, 3) := by decide +kernel
theorem dX10_finds_149 : decode cX10_finds 149 = .ok (.iaload, 1) := by decide +kernel
theorem dX10_finds_150 : decode cX10_finds 150 = .ok (.bipush 46, 2) := by decide +kernel
theorem dX10_finds_152 : decode cX10_finds 152 = .ok (.if_icmp .ne 69, 3) := by decide +kernel
theorem dX10_finds_155 : decode cX10_finds 155 = .ok (.aload_n 0, 1) := by decide +kernel
theorem dX10_finds_156 : decode cX10_finds 156 = .ok (.dup, 1) := by decide +kernel
theorem dX10_finds_157 : decode cX10_finds 157 = .ok (.getfield 28, 3) := by decide +kernel
theorem dX10_finds_160 : decode cX10_finds 160 = .ok (.iconst 1, 1) := by decide +kernel
theorem dX10_finds_161 : decode cX10_finds 161 = .ok (.iadd, 1) := by decide +kernel
theorem dX10_finds_162 : decode cX10_finds 162 = .ok (.putfield 28, 3) := by decide +kernel
theorem dX10_finds_165 : decode cX10_finds 165 = .ok (.aload_n 0, 1) := by decide +kernel
theorem dX10_finds_166 : decode cX10_finds 166 = .ok (.ldc_w 316, 3) := by decide +kernel
theorem dX10_finds_169 : decode cX10_finds 169 = .ok (.invokevirtual 265, 3) := by decide +kernel
theorem dX10_finds_172 : decode cX10_finds 172 = .ok (.iconst 1, 1) := by decide +kernel
theorem dX10_finds_173 : decode cX10_finds 173 = .ok (.iadd, 1) := by decide +kernel
theorem dX10_finds_174 : decode cX10_finds 174 = .ok (.istore 4, 2) := by decide +kernel
theorem dX10_finds_176 : decode cX10_finds 176 = .ok (.iload 4, 2) := by decide +kernel
theorem dX10_finds_178 : decode cX10_finds 178 = .ok (.ifCond .ne 10, 3) := by decide +kernel
theorem dX10_finds_181 : decode cX10_finds 181 = .ok (.iconst (-1), 1) := by decide +kernel
theorem dX10_finds_182 : decode cX10_finds 182 = .ok (.aload_n 0, 1) := by decide +kernel
theorem dX10_finds_183 : decode cX10_finds 183 = .ok (.getfield 28, 3) := by decide +kernel
theorem dX10_finds_186 : decode cX10_finds 186 = .ok (.isub, 1) := by decide +kernel
theorem dX10_finds_187 : decode cX10_finds 187 = .ok (.ireturn, 1) := by decide +kernel
theorem dX10_finds_188 : decode cX10_finds 188 = .ok (.aload_n 0, 1) := by decide +kernel
theorem dX10_finds_189 : decode cX10_finds 189 = .ok (.ldc_w 276, 3) := by decide +kernel
theorem dX10_finds_192 : decode cX10_finds 192 = .ok (.invokevirtual 265, 3) := by decide +kernel
theorem dX10_finds_195 : decode cX10_finds 195 = .ok (.istore 5, 2) := by decide +kernel
theorem dX10_finds_197 : decode cX10_finds 197 = .ok (.aload_n 0, 1) := by decide +kernel
theorem dX10_finds_198 : decode cX10_finds 198 = .ok (.getfield 78, 3) := by decide +kernel
theorem dX10_finds_201 : decode cX10_finds 201 = .ok (.iload_n 3, 1) := by decide +kernel
theorem dX10_finds_202 : decode cX10_finds 202 = .ok (.iload 5, 2) := by decide +kernel
theorem dX10_finds_204 : decode cX10_finds 204 = .ok (.ifCond .ge 8, 3) := by decide +kernel
theorem dX10_finds_207 : decode cX10_finds 207 = .ok (.iload 4, 2) := by decide +kernel
theorem dX10_finds_209 : decode cX10_finds 209 = .ok (.goto 11, 3) := by decide +kernel
theorem dX10_finds_212 : decode cX10_finds 212 = .ok (.bipush 10, 2) := by decide +kernel
theorem dX10_finds_214 : decode cX10_finds 214 = .ok (.iload 4, 2) := by decide +kernel
theorem dX10_finds_216 : decode cX10_finds 216 = .ok (.imul, 1) := by decide +kernel
theorem dX10_finds_217 : decode cX10_finds 217 = .ok (.iload 5, 2) := by decide +kernel
theorem dX10_finds_219 : decode cX10_finds 219 = .ok (.iadd, 1) := by decide +kernel
theorem dX10_finds_220 : decode cX10_finds 220 = .ok (.iastore, 1) := by decide +kernel
theorem dX10_finds_221 : decode cX10_finds 221 = .ok (.iinc 3 1, 3) := by decide +kernel
theorem dX10_finds_224 : decode cX10_finds 224 = .ok (.goto (-172), 3) := by decide +kernel
theorem dX10_finds_227 : decode cX10_finds 227 = .ok (.iload_n 1, 1) := by decide +kernel
theorem dX10_finds_228 : decode cX10_finds 228 = .ok (.invokestatic 101, 3) := by decide +kernel
theorem dX10_finds_231 : decode cX10_finds 231 = .ok (.ifCond .ne 6, 3) := by decide +kernel
theorem dX10_finds_234 : decode cX10_finds 234 = .ok (.bipush (-101), 2) := by decide +kernel
theorem dX10_finds_236 : decode cX10_finds 236 = .ok (.ireturn, 1) := by decide +kernel
theorem dX10_finds_237 : decode cX10_finds 237 = .ok (.aload_n 0, 1) := by decide +kernel
theorem dX10_finds_238 : decode cX10_finds 238 = .ok (.iconst 0, 1) := by decide +kernel
theorem dX10_finds_239 : decode cX10_finds 239 = .ok (.iload_n 1, 1) := by decide +kernel
theorem dX10_finds_240 : decode cX10_finds 240 = .ok (.invokevirtual 164, 3) := by decide +kernel
theorem dX10_finds_243 : decode cX10_finds 243 = .ok (.iconst 0, 1) := by decide +kernel
theorem dX10_finds_244 : decode cX10_finds 244 = .ok (.istore 4, 2) := by decide +kernel
theorem dX10_finds_246 : decode cX10_finds 246 = .ok (.iload 4, 2) := by decide +kernel
theorem dX10_finds_248 : decode cX10_finds 248 = .ok (.iload_n 3, 1) := by decide +kernel
theorem dX10_finds_249 : decode cX10_finds 249 = .ok (.if_icmp .ge 29, 3) := by decide +kernel
theorem dX10_finds_252 : decode cX10_finds 252 = .ok (.aload_n 0, 1) := by decide +kernel
theorem dX10_finds_253 : decode cX10_finds 253 = .ok (.iload_n 2, 1) := by decide +kernel
theorem dX10_finds_254 : decode cX10_finds 254 = .ok (.aload_n 0, 1) := by decide +kernel
theorem dX10_finds_255 : decode cX10_finds 255 = .ok (.getfield 75, 3) := by decide +kernel
theorem dX10_finds_258 : decode cX10_finds 258 = .ok (.iload 4, 2) := by decide +kernel
theorem dX10_finds_260 : decode cX10_finds 260 = .ok (.iaload, 1) := by decide +kernel
theorem dX10_finds_261 : decode cX10_finds 261 = .ok (.aload_n 0, 1) := by decide +kernel
theorem dX10_finds_262 : decode cX10_finds 262 = .ok (.getfield 78, 3) := by decide +kernel
theorem dX10_finds_265 : decode cX10_finds 265 = .ok (.iload 4, 2) := by decide +kernel
theorem dX10_finds_267 : decode cX10_finds 267 = .ok (.iaload, 1) := by decide +kernel
theorem dX10_finds_268 : decode cX10_finds 268 = .ok (.invokevirtual 318, 3) := by decide +kernel
theorem dX10_finds_271 : decode cX10_finds 271 = .ok (.istore_n 2, 1) := by decide +kernel
theorem dX10_finds_272 : decode cX10_finds 272 = .ok (.iinc 4 1, 3) := by decide +kernel
theorem dX10_finds_275 : decode cX10_finds 275 = .ok (.goto (-29), 3) := by decide +kernel
theorem dX10_finds_278 : decode cX10_finds 278 = .ok (.iload_n 2, 1) := by decide +kernel
theorem dX10_finds_279 : decode cX10_finds 279 = .ok (.ifCond .ge 8, 3) := by decide +kernel
theorem dX10_finds_282 : decode cX10_finds 282 = .ok (.bipush (-100), 2) := by decide +kernel
theorem dX10_finds_284 : decode cX10_finds 284 = .ok (.goto 4, 3) := by decide +kernel
theorem dX10_finds_287 : decode cX10_finds 287 = .ok (.iload_n 2, 1) := by decide +kernel
theorem dX10_finds_288 : decode cX10_finds 288 = .ok (.ireturn, 1) := by decide +kernel
def b_X10_finds_246 (k246 : q_H → Nat → Int32 → Int32 → Int32 → Option (q_H × Int32)) (h : q_H) (v0 : Nat) (v2 : Int32) (v3 : Int32) (v4 : Int32) : Option (q_H × Int32) :=
  if v3 ≤ v4 then if 0 ≤ v2 then some (h, v2) else some (h, (-100)) else Option.bind (q_gR 9 20 h v0) (fun x1 => Option.bind (q_lI 0 h x1 v4) (fun x2 => Option.bind (q_gR 9 21 h v0) (fun x3 => Option.bind (q_lI 0 h x3 v4) (fun x4 => Option.bind (f_X10_child h v0 v2 x2 x4) (fun q5 => k246 q5.1 v0 q5.2 v3 (v4 + 1))))))
def l_X10_finds_246 : Nat → q_H → Nat → Int32 → Int32 → Int32 → Option (q_H × Int32)
  | 0, _, _, _, _, _ => none
  | n + 1, h, v0, v2, v3, v4 => b_X10_finds_246 (l_X10_finds_246 n) h v0 v2 v3 v4
def b_X10_finds_221 (k52 : q_H → Nat → Int32 → Int32 → Int32 → Option (q_H × Int32)) (h : q_H) (v0 : Nat) (v1 : Int32) (v2 : Int32) (v3 : Int32) : Option (q_H × Int32) :=
  k52 h v0 v1 v2 (v3 + 1)
def b_X10_finds_220 (k52 : q_H → Nat → Int32 → Int32 → Int32 → Option (q_H × Int32)) (h : q_H) (v0 : Nat) (v1 : Int32) (v2 : Int32) (v3 : Int32) (s0 : Nat) (s1 : Int32) (s2 : Int32) : Option (q_H × Int32) :=
  Option.bind (q_sI 0 id h s0 s1 s2) (fun h6 => b_X10_finds_221 k52 h6 v0 v1 v2 v3)
def b_X10_finds_52 (k52 : q_H → Nat → Int32 → Int32 → Int32 → Option (q_H × Int32)) (h : q_H) (v0 : Nat) (v1 : Int32) (v2 : Int32) (v3 : Int32) : Option (q_H × Int32) :=
  Option.bind (q_gI 9 5 h v0) (fun x7 => Option.bind (q_gI 9 6 h v0) (fun x8 => if x8 ≤ x7 then Option.bind (f_X10_isCopy h v1) (fun q9 => if q9.2 = 0 then some (q9.1, (-101)) else Option.bind (f_X10_lays q9.1 v0 (0) v1) (fun q10 => l_X10_finds_246 q_FU q10.1 v0 v2 v3 (0))) else Option.bind (q_gR 9 3 h v0) (fun x11 => Option.bind (q_gI 9 5 h v0) (fun x12 => Option.bind (q_lI 0 h x11 x12) (fun x13 => if x13 = (47) then Option.bind (q_gI 9 5 h v0) (fun x14 => Option.bind (q_p 9 5 h v0 (.int (x14 + (1)))) (fun h15 => Option.bind (q_gR 9 20 h15 v0) (fun x16 => Option.bind (f_X10_takesOf h15 v0 (3)) (fun q17 => Option.bind (q_sI 0 id q17.1 x16 v3 q17.2) (fun h18 => Option.bind (q_gR 9 21 h18 v0) (fun x19 => Option.bind (q_sI 0 id h18 x19 v3 (0)) (fun h20 => Option.bind (q_gR 9 20 h20 v0) (fun x21 => Option.bind (q_lI 0 h20 x21 v3) (fun x22 => if 0 ≤ x22 then Option.bind (q_gI 9 5 h20 v0) (fun x23 => Option.bind (q_gI 9 6 h20 v0) (fun x24 => if x24 ≤ x23 then b_X10_finds_221 k52 h20 v0 v1 v2 v3 else Option.bind (q_gR 9 3 h20 v0) (fun x25 => Option.bind (q_gI 9 5 h20 v0) (fun x26 => Option.bind (q_lI 0 h20 x25 x26) (fun x27 => if x27 = (46) then Option.bind (q_gI 9 5 h20 v0) (fun x28 => Option.bind (q_p 9 5 h20 v0 (.int (x28 + (1)))) (fun h29 => Option.bind (f_X10_takesOf h29 v0 (4)) (fun q30 => if (q30.2 + (1)) = 0 then Option.bind (q_gI 9 5 q30.1 v0) (fun x31 => some (q30.1, ((-1) - x31))) else Option.bind (f_X10_takesOf q30.1 v0 (3)) (fun q32 => Option.bind (q_gR 9 21 q32.1 v0) (fun x33 => if 0 ≤ q32.2 then b_X10_finds_220 k52 q32.1 v0 v1 v2 v3 x33 v3 (((10) * (q30.2 + (1))) + q32.2) else b_X10_finds_220 k52 q32.1 v0 v1 v2 v3 x33 v3 (q30.2 + (1))))))) else b_X10_finds_221 k52 h20 v0 v1 v2 v3))))) else Option.bind (q_gI 9 5 h20 v0) (fun x34 => some (h20, ((-1) - x34)))))))))))) else Option.bind (q_gI 9 5 h v0) (fun x35 => some (h, ((-1) - x35))))))))
def l_X10_finds_52 : Nat → q_H → Nat → Int32 → Int32 → Int32 → Option (q_H × Int32)
  | 0, _, _, _, _, _ => none
  | n + 1, h, v0, v1, v2, v3 => b_X10_finds_52 (l_X10_finds_52 n) h v0 v1 v2 v3
def b_X10_finds_39 (h : q_H) (v0 : Nat) (v1 : Int32) (s0 : Int32) : Option (q_H × Int32) :=
  Option.bind (q_gI 9 5 h v0) (fun x36 => Option.bind (q_p 9 5 h v0 (.int (x36 + s0))) (fun h37 => l_X10_finds_52 q_FU h37 v0 v1 s0 (0)))
def b_X10_finds_38 (h : q_H) (v0 : Nat) (v1 : Int32) : Option (q_H × Int32) :=
  b_X10_finds_39 h v0 v1 (0)
def b_X10_finds_0 (h : q_H) (v0 : Nat) (v1 : Int32) : Option (q_H × Int32) :=
  Option.bind (q_p 9 0 h v0 (.int (0))) (fun h38 => Option.bind (f_X10_reads h38 v0) (fun q39 => Option.bind (q_gI 9 5 q39.1 v0) (fun x40 => Option.bind (q_gI 9 6 q39.1 v0) (fun x41 => if x41 ≤ x40 then b_X10_finds_38 q39.1 v0 v1 else Option.bind (q_gR 9 3 q39.1 v0) (fun x42 => Option.bind (q_gI 9 5 q39.1 v0) (fun x43 => Option.bind (q_lI 0 q39.1 x42 x43) (fun x44 => if x44 = (126) then b_X10_finds_39 q39.1 v0 v1 (1) else b_X10_finds_38 q39.1 v0 v1)))))))
def f_X10_finds (h : q_H) (a0 : Nat) (a1 : Int32) : Option (q_H × Int32) := q_chk 9 h a0 (b_X10_finds_0 h a0 a1)
set_option maxRecDepth 20000 in
set_option maxHeartbeats 1000000 in
theorem jb_X10_finds_246 {G : q_G} {l : Launch} {k0 z0 : Nat} (k246 : q_H → Nat → Int32 → Int32 → Int32 → Option (q_H × Int32)) (hk246 : ∀ (h : q_H) (v0 : Nat) (v2 : Int32) (v3 : Int32) (v4 : Int32), q_J G l (RX10, cX10_finds, 6, 9, 322, (some .int), "finds", []) k0 z0 (q_Z G k0 z0 q_i) 246 [(0, .ref v0), (2, .int v2), (3, .int v3), (4, .int v4)] [] h (k246 h v0 v2 v3 v4)) (h : q_H) (v0 : Nat) (v2 : Int32) (v3 : Int32) (v4 : Int32) : q_J G l (RX10, cX10_finds, 6, 9, 322, (some .int), "finds", []) k0 z0 (q_Z G k0 z0 q_i) 246 [(0, .ref v0), (2, .int v2), (3, .int v3), (4, .int v4)] [] h (b_X10_finds_246 k246 h v0 v2 v3 v4) := by
  unfold b_X10_finds_246
  refine j_iload (pc := 246) (p := 3) rfl dX10_finds_246 ?_
  refine j_iload_n (pc := 248) (p := 2) rfl rfl dX10_finds_248 ?_
  refine j_ic_ge (pc := 249) (tgt := 278) dX10_finds_249 (by decide) (fun _ => ?_) (fun _ => ?_)
  · refine j_iload_n (pc := 278) (p := 1) rfl rfl dX10_finds_278 ?_
    refine j_if_ge (pc := 279) (tgt := 287) dX10_finds_279 (by decide) (fun _ => ?_) (fun _ => ?_)
    · refine j_iload_n (pc := 287) (p := 1) rfl rfl dX10_finds_287 ?_
      exact j_iret (pc := 288) rfl dX10_finds_288
    refine j_bipush (pc := 282) kb_m100 dX10_finds_282 ?_
    refine j_goto (pc := 284) (tgt := 288) dX10_finds_284 (by decide) ?_
    exact j_iret (pc := 288) rfl dX10_finds_288
  refine j_aload_n (pc := 252) (p := 0) rfl rfl dX10_finds_252 ?_
  refine j_iload_n (pc := 253) (p := 1) rfl rfl dX10_finds_253 ?_
  refine j_aload_n (pc := 254) (p := 0) rfl rfl dX10_finds_254 ?_
  refine j_getR (pc := 255) FI_X10 (k := 20) (by decide) fl_X10_75 dX10_finds_255 (fun x1 _ => ?_)
  refine j_iload (pc := 258) (p := 3) rfl dX10_finds_258 ?_
  refine j_iald (pc := 260) dX10_finds_260 (fun x2 _ => ?_)
  refine j_aload_n (pc := 261) (p := 0) rfl rfl dX10_finds_261 ?_
  refine j_getR (pc := 262) FI_X10 (k := 21) (by decide) fl_X10_78 dX10_finds_262 (fun x3 _ => ?_)
  refine j_iload (pc := 265) (p := 3) rfl dX10_finds_265 ?_
  refine j_iald (pc := 267) dX10_finds_267 (fun x4 _ => ?_)
  refine j_cVi (pc := 268) Y_X10_child (ci := 9) (b := v0) rfl rfl ml_X10_318 im_X10_child se_X10_child ⟨Nat.le_of_ble_eq_true rfl, Nat.le_of_ble_eq_true rfl⟩ dX10_finds_268 (As := [.int v2, .int x2, .int x4]) (rest := []) rfl rfl (Nat.le_of_ble_eq_true rfl) (fun x hq9 => c_X10_child _ _ _ _ _ _ hq9) (fun q5 _ => ?_)
  refine j_istore_n (pc := 271) (lv' := [(2, .int q5.2), (0, .ref v0), (3, .int v3), (4, .int v4)]) rfl (by decide) rfl dX10_finds_271 ?_
  refine j_inc (pc := 272) (p := 3) (lv' := [(4, .int (v4 + 1)), (2, .int q5.2), (0, .ref v0), (3, .int v3)]) rfl ki_1 (by decide) rfl dX10_finds_272 ?_
  refine j_goto (pc := 275) (tgt := 246) dX10_finds_275 (by decide) ?_
  refine j_sub [2, 1, 3, 0] (lv' := [(0, .ref v0), (2, .int q5.2), (3, .int v3), (4, .int (v4 + 1))]) rfl ?_
  exact hk246 _ _ _ _ _
set_option maxRecDepth 20000 in
set_option maxHeartbeats 1000000 in
theorem jl_X10_finds_246 {G : q_G} {l : Launch} {k0 z0 : Nat} (n : Nat) : ∀ (h : q_H) (v0 : Nat) (v2 : Int32) (v3 : Int32) (v4 : Int32), q_J G l (RX10, cX10_finds, 6, 9, 322, (some .int), "finds", []) k0 z0 (q_Z G k0 z0 q_i) 246 [(0, .ref v0), (2, .int v2), (3, .int v3), (4, .int v4)] [] h (l_X10_finds_246 n h v0 v2 v3 v4) := by
  induction n with
  | zero => intro h v0 v2 v3 v4; exact j_none
  | succ n ih => intro h v0 v2 v3 v4; exact jb_X10_finds_246 (l_X10_finds_246 n) ih h v0 v2 v3 v4
set_option maxRecDepth 20000 in
set_option maxHeartbeats 1000000 in
theorem jb_X10_finds_221 {G : q_G} {l : Launch} {k0 z0 : Nat} (k52 : q_H → Nat → Int32 → Int32 → Int32 → Option (q_H × Int32)) (hk52 : ∀ (h : q_H) (v0 : Nat) (v1 : Int32) (v2 : Int32) (v3 : Int32), q_J G l (RX10, cX10_finds, 6, 9, 322, (some .int), "finds", []) k0 z0 (q_Z G k0 z0 q_i) 52 [(0, .ref v0), (1, .int v1), (2, .int v2), (3, .int v3)] [] h (k52 h v0 v1 v2 v3)) (h : q_H) (v0 : Nat) (v1 : Int32) (v2 : Int32) (v3 : Int32) : q_J G l (RX10, cX10_finds, 6, 9, 322, (some .int), "finds", []) k0 z0 (q_Z G k0 z0 q_i) 221 [(0, .ref v0), (1, .int v1), (2, .int v2), (3, .int v3)] [] h (b_X10_finds_221 k52 h v0 v1 v2 v3) := by
  unfold b_X10_finds_221
  refine j_inc (pc := 221) (p := 3) (lv' := [(3, .int (v3 + 1)), (0, .ref v0), (1, .int v1), (2, .int v2)]) rfl ki_1 (by decide) rfl dX10_finds_221 ?_
  refine j_goto (pc := 224) (tgt := 52) dX10_finds_224 (by decide) ?_
  refine j_sub [1, 2, 3, 0] (lv' := [(0, .ref v0), (1, .int v1), (2, .int v2), (3, .int (v3 + 1))]) rfl ?_
  exact hk52 _ _ _ _ _
set_option maxRecDepth 20000 in
set_option maxHeartbeats 1000000 in
theorem jb_X10_finds_220 {G : q_G} {l : Launch} {k0 z0 : Nat} (k52 : q_H → Nat → Int32 → Int32 → Int32 → Option (q_H × Int32)) (hk52 : ∀ (h : q_H) (v0 : Nat) (v1 : Int32) (v2 : Int32) (v3 : Int32), q_J G l (RX10, cX10_finds, 6, 9, 322, (some .int), "finds", []) k0 z0 (q_Z G k0 z0 q_i) 52 [(0, .ref v0), (1, .int v1), (2, .int v2), (3, .int v3)] [] h (k52 h v0 v1 v2 v3)) (h : q_H) (v0 : Nat) (v1 : Int32) (v2 : Int32) (v3 : Int32) (s0 : Nat) (s1 : Int32) (s2 : Int32) : q_J G l (RX10, cX10_finds, 6, 9, 322, (some .int), "finds", []) k0 z0 (q_Z G k0 z0 q_i) 220 [(0, .ref v0), (1, .int v1), (2, .int v2), (3, .int v3)] [.int s2, .int s1, .ref s0] h (b_X10_finds_220 k52 h v0 v1 v2 v3 s0 s1 s2) := by
  unfold b_X10_finds_220
  refine j_iast (pc := 220) dX10_finds_220 (fun h6 _ => ?_)
  exact jb_X10_finds_221 k52 hk52 _ _ _ _ _
set_option maxRecDepth 20000 in
set_option maxHeartbeats 1000000 in
theorem jb_X10_finds_52 {G : q_G} {l : Launch} {k0 z0 : Nat} (k52 : q_H → Nat → Int32 → Int32 → Int32 → Option (q_H × Int32)) (hk52 : ∀ (h : q_H) (v0 : Nat) (v1 : Int32) (v2 : Int32) (v3 : Int32), q_J G l (RX10, cX10_finds, 6, 9, 322, (some .int), "finds", []) k0 z0 (q_Z G k0 z0 q_i) 52 [(0, .ref v0), (1, .int v1), (2, .int v2), (3, .int v3)] [] h (k52 h v0 v1 v2 v3)) (h : q_H) (v0 : Nat) (v1 : Int32) (v2 : Int32) (v3 : Int32) : q_J G l (RX10, cX10_finds, 6, 9, 322, (some .int), "finds", []) k0 z0 (q_Z G k0 z0 q_i) 52 [(0, .ref v0), (1, .int v1), (2, .int v2), (3, .int v3)] [] h (b_X10_finds_52 k52 h v0 v1 v2 v3) := by
  unfold b_X10_finds_52
  refine j_aload_n (pc := 52) (p := 0) rfl rfl dX10_finds_52 ?_
  refine j_getI (pc := 53) FI_X10 (k := 5) (by decide) fl_X10_28 dX10_finds_53 (fun x7 _ => ?_)
  refine j_aload_n (pc := 56) (p := 0) rfl rfl dX10_finds_56 ?_
  refine j_getI (pc := 57) FI_X10 (k := 6) (by decide) fl_X10_25 dX10_finds_57 (fun x8 _ => ?_)
  refine j_ic_ge (pc := 60) (tgt := 227) dX10_finds_60 (by decide) (fun _ => ?_) (fun _ => ?_)
  · refine j_iload_n (pc := 227) (p := 1) rfl rfl dX10_finds_227 ?_
    refine j_cSi (pc := 228) Y_X10_isCopy ml_X10_101 sm_X10_isCopy ⟨Nat.le_of_ble_eq_true rfl, Nat.le_of_ble_eq_true rfl⟩ dX10_finds_228 (As := [.int v1]) (rest := []) rfl rfl (Nat.le_of_ble_eq_true rfl) (fun x hq9 => c_X10_isCopy _ _ _ hq9) (fun q9 _ => ?_)
    refine j_if_ne (pc := 231) (tgt := 237) dX10_finds_231 (by decide) (fun _ => ?_) (fun _ => ?_)
    · refine j_bipush (pc := 234) kb_m101 dX10_finds_234 ?_
      exact j_iret (pc := 236) rfl dX10_finds_236
    refine j_aload_n (pc := 237) (p := 0) rfl rfl dX10_finds_237 ?_
    refine j_iconst (pc := 238) ki_0 dX10_finds_238 ?_
    refine j_iload_n (pc := 239) (p := 1) rfl rfl dX10_finds_239 ?_
    refine j_cVu (pc := 240) Y_X10_lays (ci := 9) (b := v0) rfl rfl ml_X10_164 im_X10_lays se_X10_lays ⟨Nat.le_of_ble_eq_true rfl, Nat.le_of_ble_eq_true rfl⟩ dX10_finds_240 (As := [.int (0), .int v1]) (rest := []) rfl rfl (Nat.le_of_ble_eq_true rfl) (fun x hq9 => c_X10_lays _ _ _ _ _ hq9) (fun q10 _ => ?_)
    refine j_iconst (pc := 243) ki_0 dX10_finds_243 ?_
    refine j_istore (pc := 244) (lv' := [(4, .int (0)), (0, .ref v0), (1, .int v1), (2, .int v2), (3, .int v3)]) (by decide) rfl dX10_finds_244 ?_
    refine j_sub [1, 3, 4, 0] (lv' := [(0, .ref v0), (2, .int v2), (3, .int v3), (4, .int (0))]) rfl ?_
    exact jl_X10_finds_246 q_FU _ _ _ _ _
  refine j_aload_n (pc := 63) (p := 0) rfl rfl dX10_finds_63 ?_
  refine j_getR (pc := 64) FI_X10 (k := 3) (by decide) fl_X10_17 dX10_finds_64 (fun x11 _ => ?_)
  refine j_aload_n (pc := 67) (p := 0) rfl rfl dX10_finds_67 ?_
  refine j_getI (pc := 68) FI_X10 (k := 5) (by decide) fl_X10_28 dX10_finds_68 (fun x12 _ => ?_)
  refine j_iald (pc := 71) dX10_finds_71 (fun x13 _ => ?_)
  refine j_bipush (pc := 72) kb_47 dX10_finds_72 ?_
  refine j_ic_eq (pc := 74) (tgt := 84) dX10_finds_74 (by decide) (fun _ => ?_) (fun _ => ?_)
  · refine j_aload_n (pc := 84) (p := 0) rfl rfl dX10_finds_84 ?_
    refine j_dup (pc := 85) rfl dX10_finds_85 ?_
    refine j_getI (pc := 86) FI_X10 (k := 5) (by decide) fl_X10_28 dX10_finds_86 (fun x14 _ => ?_)
    refine j_iconst (pc := 89) ki_1 dX10_finds_89 ?_
    refine j_iadd (pc := 90) dX10_finds_90 ?_
    refine j_put (pc := 91) FI_X10 (k := 5) (by decide) fl_X10_28 rfl rfl rfl dX10_finds_91 (fun h15 _ => ?_)
    refine j_aload_n (pc := 94) (p := 0) rfl rfl dX10_finds_94 ?_
    refine j_getR (pc := 95) FI_X10 (k := 20) (by decide) fl_X10_75 dX10_finds_95 (fun x16 _ => ?_)
    refine j_iload_n (pc := 98) (p := 3) rfl rfl dX10_finds_98 ?_
    refine j_aload_n (pc := 99) (p := 0) rfl rfl dX10_finds_99 ?_
    refine j_ldcs (pc := 100) (k := 3) (u := 3) (by decide) rfl rfl dX10_finds_100 ?_
    refine j_cVi (pc := 103) Y_X10_takesOf (ci := 9) (b := v0) rfl rfl ml_X10_265 im_X10_takesOf se_X10_takesOf ⟨Nat.le_of_ble_eq_true rfl, Nat.le_of_ble_eq_true rfl⟩ dX10_finds_103 (As := [.float (3)]) (rest := [.int v3, .ref x16]) rfl rfl (Nat.le_of_ble_eq_true rfl) (fun x hq9 => c_X10_takesOf _ _ _ _ hq9) (fun q17 _ => ?_)
    refine j_iast (pc := 106) dX10_finds_106 (fun h18 _ => ?_)
    refine j_aload_n (pc := 107) (p := 0) rfl rfl dX10_finds_107 ?_
    refine j_getR (pc := 108) FI_X10 (k := 21) (by decide) fl_X10_78 dX10_finds_108 (fun x19 _ => ?_)
    refine j_iload_n (pc := 111) (p := 3) rfl rfl dX10_finds_111 ?_
    refine j_iconst (pc := 112) ki_0 dX10_finds_112 ?_
    refine j_iast (pc := 113) dX10_finds_113 (fun h20 _ => ?_)
    refine j_aload_n (pc := 114) (p := 0) rfl rfl dX10_finds_114 ?_
    refine j_getR (pc := 115) FI_X10 (k := 20) (by decide) fl_X10_75 dX10_finds_115 (fun x21 _ => ?_)
    refine j_iload_n (pc := 118) (p := 3) rfl rfl dX10_finds_118 ?_
    refine j_iald (pc := 119) dX10_finds_119 (fun x22 _ => ?_)
    refine j_if_ge (pc := 120) (tgt := 130) dX10_finds_120 (by decide) (fun _ => ?_) (fun _ => ?_)
    · refine j_aload_n (pc := 130) (p := 0) rfl rfl dX10_finds_130 ?_
      refine j_getI (pc := 131) FI_X10 (k := 5) (by decide) fl_X10_28 dX10_finds_131 (fun x23 _ => ?_)
      refine j_aload_n (pc := 134) (p := 0) rfl rfl dX10_finds_134 ?_
      refine j_getI (pc := 135) FI_X10 (k := 6) (by decide) fl_X10_25 dX10_finds_135 (fun x24 _ => ?_)
      refine j_ic_ge (pc := 138) (tgt := 221) dX10_finds_138 (by decide) (fun _ => ?_) (fun _ => ?_)
      · exact jb_X10_finds_221 k52 hk52 _ _ _ _ _
      refine j_aload_n (pc := 141) (p := 0) rfl rfl dX10_finds_141 ?_
      refine j_getR (pc := 142) FI_X10 (k := 3) (by decide) fl_X10_17 dX10_finds_142 (fun x25 _ => ?_)
      refine j_aload_n (pc := 145) (p := 0) rfl rfl dX10_finds_145 ?_
      refine j_getI (pc := 146) FI_X10 (k := 5) (by decide) fl_X10_28 dX10_finds_146 (fun x26 _ => ?_)
      refine j_iald (pc := 149) dX10_finds_149 (fun x27 _ => ?_)
      refine j_bipush (pc := 150) kb_46 dX10_finds_150 ?_
      refine j_ic_ne (pc := 152) (tgt := 221) dX10_finds_152 (by decide) (fun _ => ?_) (fun _ => ?_)
      · refine j_aload_n (pc := 155) (p := 0) rfl rfl dX10_finds_155 ?_
        refine j_dup (pc := 156) rfl dX10_finds_156 ?_
        refine j_getI (pc := 157) FI_X10 (k := 5) (by decide) fl_X10_28 dX10_finds_157 (fun x28 _ => ?_)
        refine j_iconst (pc := 160) ki_1 dX10_finds_160 ?_
        refine j_iadd (pc := 161) dX10_finds_161 ?_
        refine j_put (pc := 162) FI_X10 (k := 5) (by decide) fl_X10_28 rfl rfl rfl dX10_finds_162 (fun h29 _ => ?_)
        refine j_aload_n (pc := 165) (p := 0) rfl rfl dX10_finds_165 ?_
        refine j_ldcs (pc := 166) (k := 4) (u := 4) (by decide) rfl rfl dX10_finds_166 ?_
        refine j_cVi (pc := 169) Y_X10_takesOf (ci := 9) (b := v0) rfl rfl ml_X10_265 im_X10_takesOf se_X10_takesOf ⟨Nat.le_of_ble_eq_true rfl, Nat.le_of_ble_eq_true rfl⟩ dX10_finds_169 (As := [.float (4)]) (rest := []) rfl rfl (Nat.le_of_ble_eq_true rfl) (fun x hq9 => c_X10_takesOf _ _ _ _ hq9) (fun q30 _ => ?_)
        refine j_iconst (pc := 172) ki_1 dX10_finds_172 ?_
        refine j_iadd (pc := 173) dX10_finds_173 ?_
        refine j_istore (pc := 174) (lv' := [(4, .int (q30.2 + (1))), (0, .ref v0), (1, .int v1), (2, .int v2), (3, .int v3)]) (by decide) rfl dX10_finds_174 ?_
        refine j_iload (pc := 176) (p := 0) rfl dX10_finds_176 ?_
        refine j_if_ne (pc := 178) (tgt := 188) dX10_finds_178 (by decide) (fun _ => ?_) (fun _ => ?_)
        · refine j_iconst (pc := 181) ki_m1 dX10_finds_181 ?_
          refine j_aload_n (pc := 182) (p := 1) rfl rfl dX10_finds_182 ?_
          refine j_getI (pc := 183) FI_X10 (k := 5) (by decide) fl_X10_28 dX10_finds_183 (fun x31 _ => ?_)
          refine j_isub (pc := 186) dX10_finds_186 ?_
          exact j_iret (pc := 187) rfl dX10_finds_187
        refine j_aload_n (pc := 188) (p := 1) rfl rfl dX10_finds_188 ?_
        refine j_ldcs (pc := 189) (k := 3) (u := 3) (by decide) rfl rfl dX10_finds_189 ?_
        refine j_cVi (pc := 192) Y_X10_takesOf (ci := 9) (b := v0) rfl rfl ml_X10_265 im_X10_takesOf se_X10_takesOf ⟨Nat.le_of_ble_eq_true rfl, Nat.le_of_ble_eq_true rfl⟩ dX10_finds_192 (As := [.float (3)]) (rest := []) rfl rfl (Nat.le_of_ble_eq_true rfl) (fun x hq9 => c_X10_takesOf _ _ _ _ hq9) (fun q32 _ => ?_)
        refine j_istore (pc := 195) (lv' := [(5, .int q32.2), (4, .int (q30.2 + (1))), (0, .ref v0), (1, .int v1), (2, .int v2), (3, .int v3)]) (by decide) rfl dX10_finds_195 ?_
        refine j_aload_n (pc := 197) (p := 2) rfl rfl dX10_finds_197 ?_
        refine j_getR (pc := 198) FI_X10 (k := 21) (by decide) fl_X10_78 dX10_finds_198 (fun x33 _ => ?_)
        refine j_iload_n (pc := 201) (p := 5) rfl rfl dX10_finds_201 ?_
        refine j_iload (pc := 202) (p := 0) rfl dX10_finds_202 ?_
        refine j_if_ge (pc := 204) (tgt := 212) dX10_finds_204 (by decide) (fun _ => ?_) (fun _ => ?_)
        · refine j_bipush (pc := 212) kb_10 dX10_finds_212 ?_
          refine j_iload (pc := 214) (p := 1) rfl dX10_finds_214 ?_
          refine j_imul (pc := 216) dX10_finds_216 ?_
          refine j_iload (pc := 217) (p := 0) rfl dX10_finds_217 ?_
          refine j_iadd (pc := 219) dX10_finds_219 ?_
          refine j_sub [2, 3, 4, 5] (lv' := [(0, .ref v0), (1, .int v1), (2, .int v2), (3, .int v3)]) rfl ?_
          exact jb_X10_finds_220 k52 hk52 _ _ _ _ _ _ _ _
        refine j_iload (pc := 207) (p := 1) rfl dX10_finds_207 ?_
        refine j_goto (pc := 209) (tgt := 220) dX10_finds_209 (by decide) ?_
        refine j_sub [2, 3, 4, 5] (lv' := [(0, .ref v0), (1, .int v1), (2, .int v2), (3, .int v3)]) rfl ?_
        exact jb_X10_finds_220 k52 hk52 _ _ _ _ _ _ _ _
      exact jb_X10_finds_221 k52 hk52 _ _ _ _ _
    refine j_iconst (pc := 123) ki_m1 dX10_finds_123 ?_
    refine j_aload_n (pc := 124) (p := 0) rfl rfl dX10_finds_124 ?_
    refine j_getI (pc := 125) FI_X10 (k := 5) (by decide) fl_X10_28 dX10_finds_125 (fun x34 _ => ?_)
    refine j_isub (pc := 128) dX10_finds_128 ?_
    exact j_iret (pc := 129) rfl dX10_finds_129
  refine j_iconst (pc := 77) ki_m1 dX10_finds_77 ?_
  refine j_aload_n (pc := 78) (p := 0) rfl rfl dX10_finds_78 ?_
  refine j_getI (pc := 79) FI_X10 (k := 5) (by decide) fl_X10_28 dX10_finds_79 (fun x35 _ => ?_)
  refine j_isub (pc := 82) dX10_finds_82 ?_
  exact j_iret (pc := 83) rfl dX10_finds_83
set_option maxRecDepth 20000 in
set_option maxHeartbeats 1000000 in
theorem jl_X10_finds_52 {G : q_G} {l : Launch} {k0 z0 : Nat} (n : Nat) : ∀ (h : q_H) (v0 : Nat) (v1 : Int32) (v2 : Int32) (v3 : Int32), q_J G l (RX10, cX10_finds, 6, 9, 322, (some .int), "finds", []) k0 z0 (q_Z G k0 z0 q_i) 52 [(0, .ref v0), (1, .int v1), (2, .int v2), (3, .int v3)] [] h (l_X10_finds_52 n h v0 v1 v2 v3) := by
  induction n with
  | zero => intro h v0 v1 v2 v3; exact j_none
  | succ n ih => intro h v0 v1 v2 v3; exact jb_X10_finds_52 (l_X10_finds_52 n) ih h v0 v1 v2 v3
set_option maxRecDepth 20000 in
set_option maxHeartbeats 1000000 in
theorem jb_X10_finds_39 {G : q_G} {l : Launch} {k0 z0 : Nat} (h : q_H) (v0 : Nat) (v1 : Int32) (s0 : Int32) : q_J G l (RX10, cX10_finds, 6, 9, 322, (some .int), "finds", []) k0 z0 (q_Z G k0 z0 q_i) 39 [(0, .ref v0), (1, .int v1)] [.int s0] h (b_X10_finds_39 h v0 v1 s0) := by
  unfold b_X10_finds_39
  refine j_istore_n (pc := 39) (lv' := [(2, .int s0), (0, .ref v0), (1, .int v1)]) rfl (by decide) rfl dX10_finds_39 ?_
  refine j_aload_n (pc := 40) (p := 1) rfl rfl dX10_finds_40 ?_
  refine j_dup (pc := 41) rfl dX10_finds_41 ?_
  refine j_getI (pc := 42) FI_X10 (k := 5) (by decide) fl_X10_28 dX10_finds_42 (fun x36 _ => ?_)
  refine j_iload_n (pc := 45) (p := 0) rfl rfl dX10_finds_45 ?_
  refine j_iadd (pc := 46) dX10_finds_46 ?_
  refine j_put (pc := 47) FI_X10 (k := 5) (by decide) fl_X10_28 rfl rfl rfl dX10_finds_47 (fun h37 _ => ?_)
  refine j_iconst (pc := 50) ki_0 dX10_finds_50 ?_
  refine j_istore_n (pc := 51) (lv' := [(3, .int (0)), (2, .int s0), (0, .ref v0), (1, .int v1)]) rfl (by decide) rfl dX10_finds_51 ?_
  refine j_sub [2, 3, 1, 0] (lv' := [(0, .ref v0), (1, .int v1), (2, .int s0), (3, .int (0))]) rfl ?_
  exact jl_X10_finds_52 q_FU _ _ _ _ _
set_option maxRecDepth 20000 in
set_option maxHeartbeats 1000000 in
theorem jb_X10_finds_38 {G : q_G} {l : Launch} {k0 z0 : Nat} (h : q_H) (v0 : Nat) (v1 : Int32) : q_J G l (RX10, cX10_finds, 6, 9, 322, (some .int), "finds", []) k0 z0 (q_Z G k0 z0 q_i) 38 [(0, .ref v0), (1, .int v1)] [] h (b_X10_finds_38 h v0 v1) := by
  unfold b_X10_finds_38
  refine j_iconst (pc := 38) ki_0 dX10_finds_38 ?_
  exact jb_X10_finds_39 _ _ _ _
set_option maxRecDepth 20000 in
set_option maxHeartbeats 1000000 in
theorem jb_X10_finds_0 {G : q_G} {l : Launch} {k0 z0 : Nat} (h : q_H) (v0 : Nat) (v1 : Int32) : q_J G l (RX10, cX10_finds, 6, 9, 322, (some .int), "finds", []) k0 z0 (q_Z G k0 z0 q_i) 0 [(0, .ref v0), (1, .int v1)] [] h (b_X10_finds_0 h v0 v1) := by
  unfold b_X10_finds_0
  refine j_aload_n (pc := 0) (p := 0) rfl rfl dX10_finds_0 ?_
  refine j_iconst (pc := 1) ki_0 dX10_finds_1 ?_
  refine j_put (pc := 2) FI_X10 (k := 0) (by decide) fl_X10_1 rfl rfl rfl dX10_finds_2 (fun h38 _ => ?_)
  refine j_aload_n (pc := 5) (p := 0) rfl rfl dX10_finds_5 ?_
  refine j_cVu (pc := 6) Y_X10_reads (ci := 9) (b := v0) rfl rfl ml_X10_278 im_X10_reads se_X10_reads ⟨Nat.le_of_ble_eq_true rfl, Nat.le_of_ble_eq_true rfl⟩ dX10_finds_6 (As := []) (rest := []) rfl rfl (Nat.le_of_ble_eq_true rfl) (fun x hq9 => c_X10_reads _ _ _ hq9) (fun q39 _ => ?_)
  refine j_aload_n (pc := 9) (p := 0) rfl rfl dX10_finds_9 ?_
  refine j_getI (pc := 10) FI_X10 (k := 5) (by decide) fl_X10_28 dX10_finds_10 (fun x40 _ => ?_)
  refine j_aload_n (pc := 13) (p := 0) rfl rfl dX10_finds_13 ?_
  refine j_getI (pc := 14) FI_X10 (k := 6) (by decide) fl_X10_25 dX10_finds_14 (fun x41 _ => ?_)
  refine j_ic_ge (pc := 17) (tgt := 38) dX10_finds_17 (by decide) (fun _ => ?_) (fun _ => ?_)
  · exact jb_X10_finds_38 _ _ _
  refine j_aload_n (pc := 20) (p := 0) rfl rfl dX10_finds_20 ?_
  refine j_getR (pc := 21) FI_X10 (k := 3) (by decide) fl_X10_17 dX10_finds_21 (fun x42 _ => ?_)
  refine j_aload_n (pc := 24) (p := 0) rfl rfl dX10_finds_24 ?_
  refine j_getI (pc := 25) FI_X10 (k := 5) (by decide) fl_X10_28 dX10_finds_25 (fun x43 _ => ?_)
  refine j_iald (pc := 28) dX10_finds_28 (fun x44 _ => ?_)
  refine j_bipush (pc := 29) kb_126 dX10_finds_29 ?_
  refine j_ic_ne (pc := 31) (tgt := 38) dX10_finds_31 (by decide) (fun _ => ?_) (fun _ => ?_)
  · refine j_iconst (pc := 34) ki_1 dX10_finds_34 ?_
    refine j_goto (pc := 35) (tgt := 39) dX10_finds_35 (by decide) ?_
    exact jb_X10_finds_39 _ _ _ _
  exact jb_X10_finds_38 _ _ _
set_option maxRecDepth 20000 in
set_option maxHeartbeats 1000000 in
theorem c_X10_finds {G : q_G} {l : Launch} : ∀ (h : q_H) (a0 : Nat) (a1 : Int32) (q : q_H × Int32), f_X10_finds h a0 a1 = some q → (∃ fs, h.1 a0 = .inr (9, fs)) ∧ q_CT G l yX10_finds cX10_finds 6 (some .int) 9 322 [.ref a0, .int a1] h q.1 (q_i q.2) := by
  intro h a0 a1 q e
  obtain ⟨e1, e2⟩ := q_chk_ok e
  exact ⟨e1, q_ofJ Y_X10_finds (Nat.le_of_ble_eq_true rfl) (jb_X10_finds_0 h a0 a1) q e2⟩
