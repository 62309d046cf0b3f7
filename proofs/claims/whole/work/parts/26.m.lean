/-! FarFoldersModel.undoes(IIIIIII)I -/
theorem dX10_undoes_0 : decode cX10_undoes 0 = .ok (.aload_n 0, 1) := by decide +kernel
theorem dX10_undoes_1 : decode cX10_undoes 1 = .ok (.iload_n 1, 1) := by decide +kernel
theorem dX10_undoes_2 : decode cX10_undoes 2 = .ok (.invokevirtual 144, 3) := by decide +kernel
theorem dX10_undoes_5 : decode cX10_undoes 5 = .ok (.iconst 0, 1) := by decide +kernel
theorem dX10_undoes_6 : decode cX10_undoes 6 = .ok (.istore 8, 2) := by decide +kernel
theorem dX10_undoes_8 : decode cX10_undoes 8 = .ok (.iload 8, 2) := by decide +kernel
theorem dX10_undoes_10 : decode cX10_undoes 10 = .ok (.iload_n 3, 1) := by decide +kernel
theorem dX10_undoes_11 : decode cX10_undoes 11 = .ok (.if_icmp .ge 21, 3) := by decide +kernel
theorem dX10_undoes_14 : decode cX10_undoes 14 = .ok (.aload_n 0, 1) := by decide +kernel
theorem dX10_undoes_15 : decode cX10_undoes 15 = .ok (.iload_n 2, 1) := by decide +kernel
theorem dX10_undoes_16 : decode cX10_undoes 16 = .ok (.iload_n 2, 1) := by decide +kernel
theorem dX10_undoes_17 : decode cX10_undoes 17 = .ok (.iload_n 1, 1) := by decide +kernel
theorem dX10_undoes_18 : decode cX10_undoes 18 = .ok (.iload 8, 2) := by decide +kernel
theorem dX10_undoes_20 : decode cX10_undoes 20 = .ok (.invokestatic 176, 3) := by decide +kernel
theorem dX10_undoes_23 : decode cX10_undoes 23 = .ok (.invokevirtual 217, 3) := by decide +kernel
theorem dX10_undoes_26 : decode cX10_undoes 26 = .ok (.iinc 8 1, 3) := by decide +kernel
theorem dX10_undoes_29 : decode cX10_undoes 29 = .ok (.goto (-21), 3) := by decide +kernel
theorem dX10_undoes_32 : decode cX10_undoes 32 = .ok (.iconst 0, 1) := by decide +kernel
theorem dX10_undoes_33 : decode cX10_undoes 33 = .ok (.istore 8, 2) := by decide +kernel
theorem dX10_undoes_35 : decode cX10_undoes 35 = .ok (.iload 8, 2) := by decide +kernel
theorem dX10_undoes_37 : decode cX10_undoes 37 = .ok (.iload 5, 2) := by decide +kernel
theorem dX10_undoes_39 : decode cX10_undoes 39 = .ok (.if_icmp .ge 23, 3) := by decide +kernel
theorem dX10_undoes_42 : decode cX10_undoes 42 = .ok (.aload_n 0, 1) := by decide +kernel
theorem dX10_undoes_43 : decode cX10_undoes 43 = .ok (.iload 4, 2) := by decide +kernel
theorem dX10_undoes_45 : decode cX10_undoes 45 = .ok (.iload 4, 2) := by decide +kernel
theorem dX10_undoes_47 : decode cX10_undoes 47 = .ok (.iload_n 1, 1) := by decide +kernel
theorem dX10_undoes_48 : decode cX10_undoes 48 = .ok (.iload 8, 2) := by decide +kernel
theorem dX10_undoes_50 : decode cX10_undoes 50 = .ok (.invokestatic 176, 3) := by decide +kernel
theorem dX10_undoes_53 : decode cX10_undoes 53 = .ok (.invokevirtual 217, 3) := by decide +kernel
theorem dX10_undoes_56 : decode cX10_undoes 56 = .ok (.iinc 8 1, 3) := by decide +kernel
theorem dX10_undoes_59 : decode cX10_undoes 59 = .ok (.goto (-24), 3) := by decide +kernel
theorem dX10_undoes_62 : decode cX10_undoes 62 = .ok (.aload_n 0, 1) := by decide +kernel
theorem dX10_undoes_63 : decode cX10_undoes 63 = .ok (.iload 7, 2) := by decide +kernel
theorem dX10_undoes_65 : decode cX10_undoes 65 = .ok (.invokevirtual 122, 3) := by decide +kernel
theorem dX10_undoes_68 : decode cX10_undoes 68 = .ok (.ifCond .eq 19, 3) := by decide +kernel
theorem dX10_undoes_71 : decode cX10_undoes 71 = .ok (.aload_n 0, 1) := by decide +kernel
theorem dX10_undoes_72 : decode cX10_undoes 72 = .ok (.aload_n 0, 1) := by decide +kernel
theorem dX10_undoes_73 : decode cX10_undoes 73 = .ok (.getfield 47, 3) := by decide +kernel
theorem dX10_undoes_76 : decode cX10_undoes 76 = .ok (.iload 7, 2) := by decide +kernel
theorem dX10_undoes_78 : decode cX10_undoes 78 = .ok (.iaload, 1) := by decide +kernel
theorem dX10_undoes_79 : decode cX10_undoes 79 = .ok (.iload 6, 2) := by decide +kernel
theorem dX10_undoes_81 : decode cX10_undoes 81 = .ok (.invokevirtual 119, 3) := by decide +kernel
theorem dX10_undoes_84 : decode cX10_undoes 84 = .ok (.goto 4, 3) := by decide +kernel
theorem dX10_undoes_87 : decode cX10_undoes 87 = .ok (.iconst 0, 1) := by decide +kernel
theorem dX10_undoes_88 : decode cX10_undoes 88 = .ok (.ireturn, 1) := by decide +kernel
def b_X10_undoes_35 (k35 : q_H → Nat → Int32 → Int32 → Int32 → Int32 → Int32 → Int32 → Option (q_H × Int32)) (h : q_H) (v0 : Nat) (v1 : Int32) (v4 : Int32) (v5 : Int32) (v6 : Int32) (v7 : Int32) (v8 : Int32) : Option (q_H × Int32) :=
  if v5 ≤ v8 then Option.bind (f_X10_isMove h v0 v7) (fun q1 => if q1.2 = 0 then some (q1.1, (0)) else Option.bind (q_gR 9 7 q1.1 v0) (fun x2 => Option.bind (q_lI 0 q1.1 x2 v7) (fun x3 => Option.bind (f_X10_greater q1.1 v0 x3 v6) (fun q4 => some (q4.1, q4.2))))) else Option.bind (f_X10_letterOf h v4 v1 v8) (fun q5 => Option.bind (f_X10_putsLetter q5.1 v0 v4 q5.2) (fun q6 => k35 q6.1 v0 v1 v4 v5 v6 v7 (v8 + 1)))
def l_X10_undoes_35 : Nat → q_H → Nat → Int32 → Int32 → Int32 → Int32 → Int32 → Int32 → Option (q_H × Int32)
  | 0, _, _, _, _, _, _, _, _ => none
  | n + 1, h, v0, v1, v4, v5, v6, v7, v8 => b_X10_undoes_35 (l_X10_undoes_35 n) h v0 v1 v4 v5 v6 v7 v8
def b_X10_undoes_8 (k8 : q_H → Nat → Int32 → Int32 → Int32 → Int32 → Int32 → Int32 → Int32 → Int32 → Option (q_H × Int32)) (h : q_H) (v0 : Nat) (v1 : Int32) (v2 : Int32) (v3 : Int32) (v4 : Int32) (v5 : Int32) (v6 : Int32) (v7 : Int32) (v8 : Int32) : Option (q_H × Int32) :=
  if v3 ≤ v8 then l_X10_undoes_35 q_FU h v0 v1 v4 v5 v6 v7 (0) else Option.bind (f_X10_letterOf h v2 v1 v8) (fun q7 => Option.bind (f_X10_putsLetter q7.1 v0 v2 q7.2) (fun q8 => k8 q8.1 v0 v1 v2 v3 v4 v5 v6 v7 (v8 + 1)))
def l_X10_undoes_8 : Nat → q_H → Nat → Int32 → Int32 → Int32 → Int32 → Int32 → Int32 → Int32 → Int32 → Option (q_H × Int32)
  | 0, _, _, _, _, _, _, _, _, _, _ => none
  | n + 1, h, v0, v1, v2, v3, v4, v5, v6, v7, v8 => b_X10_undoes_8 (l_X10_undoes_8 n) h v0 v1 v2 v3 v4 v5 v6 v7 v8
def b_X10_undoes_0 (h : q_H) (v0 : Nat) (v1 : Int32) (v2 : Int32) (v3 : Int32) (v4 : Int32) (v5 : Int32) (v6 : Int32) (v7 : Int32) : Option (q_H × Int32) :=
  Option.bind (f_X10_loads h v0 v1) (fun q9 => l_X10_undoes_8 q_FU q9.1 v0 v1 v2 v3 v4 v5 v6 v7 (0))
def f_X10_undoes (h : q_H) (a0 : Nat) (a1 : Int32) (a2 : Int32) (a3 : Int32) (a4 : Int32) (a5 : Int32) (a6 : Int32) (a7 : Int32) : Option (q_H × Int32) := q_chk 9 h a0 (b_X10_undoes_0 h a0 a1 a2 a3 a4 a5 a6 a7)
set_option maxRecDepth 20000 in
set_option maxHeartbeats 1000000 in
theorem jb_X10_undoes_35 {G : q_G} {l : Launch} {k0 z0 : Nat} (k35 : q_H → Nat → Int32 → Int32 → Int32 → Int32 → Int32 → Int32 → Option (q_H × Int32)) (hk35 : ∀ (h : q_H) (v0 : Nat) (v1 : Int32) (v4 : Int32) (v5 : Int32) (v6 : Int32) (v7 : Int32) (v8 : Int32), q_J G l (RX10, cX10_undoes, 9, 4, 96, (some .int), "undoes", []) k0 z0 (q_Z G k0 z0 q_i) 35 [(0, .ref v0), (1, .int v1), (4, .int v4), (5, .int v5), (6, .int v6), (7, .int v7), (8, .int v8)] [] h (k35 h v0 v1 v4 v5 v6 v7 v8)) (h : q_H) (v0 : Nat) (v1 : Int32) (v4 : Int32) (v5 : Int32) (v6 : Int32) (v7 : Int32) (v8 : Int32) : q_J G l (RX10, cX10_undoes, 9, 4, 96, (some .int), "undoes", []) k0 z0 (q_Z G k0 z0 q_i) 35 [(0, .ref v0), (1, .int v1), (4, .int v4), (5, .int v5), (6, .int v6), (7, .int v7), (8, .int v8)] [] h (b_X10_undoes_35 k35 h v0 v1 v4 v5 v6 v7 v8) := by
  unfold b_X10_undoes_35
  refine j_iload (pc := 35) (p := 6) rfl dX10_undoes_35 ?_
  refine j_iload (pc := 37) (p := 3) rfl dX10_undoes_37 ?_
  refine j_ic_ge (pc := 39) (tgt := 62) dX10_undoes_39 (by decide) (fun _ => ?_) (fun _ => ?_)
  · refine j_aload_n (pc := 62) (p := 0) rfl rfl dX10_undoes_62 ?_
    refine j_iload (pc := 63) (p := 5) rfl dX10_undoes_63 ?_
    refine j_cVi (pc := 65) Y_X10_isMove (ci := 9) (b := v0) rfl rfl ml_X10_122 im_X10_isMove se_X10_isMove ⟨Nat.le_of_ble_eq_true rfl, Nat.le_of_ble_eq_true rfl⟩ dX10_undoes_65 (As := [.int v7]) (rest := []) rfl rfl (Nat.le_of_ble_eq_true rfl) (fun x hq9 => c_X10_isMove _ _ _ _ hq9) (fun q1 _ => ?_)
    refine j_if_eq (pc := 68) (tgt := 87) dX10_undoes_68 (by decide) (fun _ => ?_) (fun _ => ?_)
    · refine j_iconst (pc := 87) ki_0 dX10_undoes_87 ?_
      exact j_iret (pc := 88) rfl dX10_undoes_88
    refine j_aload_n (pc := 71) (p := 0) rfl rfl dX10_undoes_71 ?_
    refine j_aload_n (pc := 72) (p := 0) rfl rfl dX10_undoes_72 ?_
    refine j_getR (pc := 73) FI_X10 (k := 7) (by decide) fl_X10_47 dX10_undoes_73 (fun x2 _ => ?_)
    refine j_iload (pc := 76) (p := 5) rfl dX10_undoes_76 ?_
    refine j_iald (pc := 78) dX10_undoes_78 (fun x3 _ => ?_)
    refine j_iload (pc := 79) (p := 4) rfl dX10_undoes_79 ?_
    refine j_cVi (pc := 81) Y_X10_greater (ci := 9) (b := v0) rfl rfl ml_X10_119 im_X10_greater se_X10_greater ⟨Nat.le_of_ble_eq_true rfl, Nat.le_of_ble_eq_true rfl⟩ dX10_undoes_81 (As := [.int x3, .int v6]) (rest := []) rfl rfl (Nat.le_of_ble_eq_true rfl) (fun x hq9 => c_X10_greater _ _ _ _ _ hq9) (fun q4 _ => ?_)
    refine j_goto (pc := 84) (tgt := 88) dX10_undoes_84 (by decide) ?_
    exact j_iret (pc := 88) rfl dX10_undoes_88
  refine j_aload_n (pc := 42) (p := 0) rfl rfl dX10_undoes_42 ?_
  refine j_iload (pc := 43) (p := 2) rfl dX10_undoes_43 ?_
  refine j_iload (pc := 45) (p := 2) rfl dX10_undoes_45 ?_
  refine j_iload_n (pc := 47) (p := 1) rfl rfl dX10_undoes_47 ?_
  refine j_iload (pc := 48) (p := 6) rfl dX10_undoes_48 ?_
  refine j_cSi (pc := 50) Y_X10_letterOf ml_X10_176 sm_X10_letterOf ⟨Nat.le_of_ble_eq_true rfl, Nat.le_of_ble_eq_true rfl⟩ dX10_undoes_50 (As := [.int v4, .int v1, .int v8]) (rest := [.int v4, .ref v0]) rfl rfl (Nat.le_of_ble_eq_true rfl) (fun x hq9 => c_X10_letterOf _ _ _ _ _ hq9) (fun q5 _ => ?_)
  refine j_cVu (pc := 53) Y_X10_putsLetter (ci := 9) (b := v0) rfl rfl ml_X10_217 im_X10_putsLetter se_X10_putsLetter ⟨Nat.le_of_ble_eq_true rfl, Nat.le_of_ble_eq_true rfl⟩ dX10_undoes_53 (As := [.int v4, .int q5.2]) (rest := []) rfl rfl (Nat.le_of_ble_eq_true rfl) (fun x hq9 => c_X10_putsLetter _ _ _ _ _ hq9) (fun q6 _ => ?_)
  refine j_inc (pc := 56) (p := 6) (lv' := [(8, .int (v8 + 1)), (0, .ref v0), (1, .int v1), (4, .int v4), (5, .int v5), (6, .int v6), (7, .int v7)]) rfl ki_1 (by decide) rfl dX10_undoes_56 ?_
  refine j_goto (pc := 59) (tgt := 35) dX10_undoes_59 (by decide) ?_
  refine j_sub [1, 2, 3, 4, 5, 6, 0] (lv' := [(0, .ref v0), (1, .int v1), (4, .int v4), (5, .int v5), (6, .int v6), (7, .int v7), (8, .int (v8 + 1))]) rfl ?_
  exact hk35 _ _ _ _ _ _ _ _
set_option maxRecDepth 20000 in
set_option maxHeartbeats 1000000 in
theorem jl_X10_undoes_35 {G : q_G} {l : Launch} {k0 z0 : Nat} (n : Nat) : ∀ (h : q_H) (v0 : Nat) (v1 : Int32) (v4 : Int32) (v5 : Int32) (v6 : Int32) (v7 : Int32) (v8 : Int32), q_J G l (RX10, cX10_undoes, 9, 4, 96, (some .int), "undoes", []) k0 z0 (q_Z G k0 z0 q_i) 35 [(0, .ref v0), (1, .int v1), (4, .int v4), (5, .int v5), (6, .int v6), (7, .int v7), (8, .int v8)] [] h (l_X10_undoes_35 n h v0 v1 v4 v5 v6 v7 v8) := by
  induction n with
  | zero => intro h v0 v1 v4 v5 v6 v7 v8; exact j_none
  | succ n ih => intro h v0 v1 v4 v5 v6 v7 v8; exact jb_X10_undoes_35 (l_X10_undoes_35 n) ih h v0 v1 v4 v5 v6 v7 v8
set_option maxRecDepth 20000 in
set_option maxHeartbeats 1000000 in
theorem jb_X10_undoes_8 {G : q_G} {l : Launch} {k0 z0 : Nat} (k8 : q_H → Nat → Int32 → Int32 → Int32 → Int32 → Int32 → Int32 → Int32 → Int32 → Option (q_H × Int32)) (hk8 : ∀ (h : q_H) (v0 : Nat) (v1 : Int32) (v2 : Int32) (v3 : Int32) (v4 : Int32) (v5 : Int32) (v6 : Int32) (v7 : Int32) (v8 : Int32), q_J G l (RX10, cX10_undoes, 9, 4, 96, (some .int), "undoes", []) k0 z0 (q_Z G k0 z0 q_i) 8 [(0, .ref v0), (1, .int v1), (2, .int v2), (3, .int v3), (4, .int v4), (5, .int v5), (6, .int v6), (7, .int v7), (8, .int v8)] [] h (k8 h v0 v1 v2 v3 v4 v5 v6 v7 v8)) (h : q_H) (v0 : Nat) (v1 : Int32) (v2 : Int32) (v3 : Int32) (v4 : Int32) (v5 : Int32) (v6 : Int32) (v7 : Int32) (v8 : Int32) : q_J G l (RX10, cX10_undoes, 9, 4, 96, (some .int), "undoes", []) k0 z0 (q_Z G k0 z0 q_i) 8 [(0, .ref v0), (1, .int v1), (2, .int v2), (3, .int v3), (4, .int v4), (5, .int v5), (6, .int v6), (7, .int v7), (8, .int v8)] [] h (b_X10_undoes_8 k8 h v0 v1 v2 v3 v4 v5 v6 v7 v8) := by
  unfold b_X10_undoes_8
  refine j_iload (pc := 8) (p := 8) rfl dX10_undoes_8 ?_
  refine j_iload_n (pc := 10) (p := 3) rfl rfl dX10_undoes_10 ?_
  refine j_ic_ge (pc := 11) (tgt := 32) dX10_undoes_11 (by decide) (fun _ => ?_) (fun _ => ?_)
  · refine j_iconst (pc := 32) ki_0 dX10_undoes_32 ?_
    refine j_istore (pc := 33) (lv' := [(8, .int (0)), (0, .ref v0), (1, .int v1), (2, .int v2), (3, .int v3), (4, .int v4), (5, .int v5), (6, .int v6), (7, .int v7)]) (by decide) rfl dX10_undoes_33 ?_
    refine j_sub [1, 2, 5, 6, 7, 8, 0] (lv' := [(0, .ref v0), (1, .int v1), (4, .int v4), (5, .int v5), (6, .int v6), (7, .int v7), (8, .int (0))]) rfl ?_
    exact jl_X10_undoes_35 q_FU _ _ _ _ _ _ _ _
  refine j_aload_n (pc := 14) (p := 0) rfl rfl dX10_undoes_14 ?_
  refine j_iload_n (pc := 15) (p := 2) rfl rfl dX10_undoes_15 ?_
  refine j_iload_n (pc := 16) (p := 2) rfl rfl dX10_undoes_16 ?_
  refine j_iload_n (pc := 17) (p := 1) rfl rfl dX10_undoes_17 ?_
  refine j_iload (pc := 18) (p := 8) rfl dX10_undoes_18 ?_
  refine j_cSi (pc := 20) Y_X10_letterOf ml_X10_176 sm_X10_letterOf ⟨Nat.le_of_ble_eq_true rfl, Nat.le_of_ble_eq_true rfl⟩ dX10_undoes_20 (As := [.int v2, .int v1, .int v8]) (rest := [.int v2, .ref v0]) rfl rfl (Nat.le_of_ble_eq_true rfl) (fun x hq9 => c_X10_letterOf _ _ _ _ _ hq9) (fun q7 _ => ?_)
  refine j_cVu (pc := 23) Y_X10_putsLetter (ci := 9) (b := v0) rfl rfl ml_X10_217 im_X10_putsLetter se_X10_putsLetter ⟨Nat.le_of_ble_eq_true rfl, Nat.le_of_ble_eq_true rfl⟩ dX10_undoes_23 (As := [.int v2, .int q7.2]) (rest := []) rfl rfl (Nat.le_of_ble_eq_true rfl) (fun x hq9 => c_X10_putsLetter _ _ _ _ _ hq9) (fun q8 _ => ?_)
  refine j_inc (pc := 26) (p := 8) (lv' := [(8, .int (v8 + 1)), (0, .ref v0), (1, .int v1), (2, .int v2), (3, .int v3), (4, .int v4), (5, .int v5), (6, .int v6), (7, .int v7)]) rfl ki_1 (by decide) rfl dX10_undoes_26 ?_
  refine j_goto (pc := 29) (tgt := 8) dX10_undoes_29 (by decide) ?_
  refine j_sub [1, 2, 3, 4, 5, 6, 7, 8, 0] (lv' := [(0, .ref v0), (1, .int v1), (2, .int v2), (3, .int v3), (4, .int v4), (5, .int v5), (6, .int v6), (7, .int v7), (8, .int (v8 + 1))]) rfl ?_
  exact hk8 _ _ _ _ _ _ _ _ _ _
set_option maxRecDepth 20000 in
set_option maxHeartbeats 1000000 in
theorem jl_X10_undoes_8 {G : q_G} {l : Launch} {k0 z0 : Nat} (n : Nat) : ∀ (h : q_H) (v0 : Nat) (v1 : Int32) (v2 : Int32) (v3 : Int32) (v4 : Int32) (v5 : Int32) (v6 : Int32) (v7 : Int32) (v8 : Int32), q_J G l (RX10, cX10_undoes, 9, 4, 96, (some .int), "undoes", []) k0 z0 (q_Z G k0 z0 q_i) 8 [(0, .ref v0), (1, .int v1), (2, .int v2), (3, .int v3), (4, .int v4), (5, .int v5), (6, .int v6), (7, .int v7), (8, .int v8)] [] h (l_X10_undoes_8 n h v0 v1 v2 v3 v4 v5 v6 v7 v8) := by
  induction n with
  | zero => intro h v0 v1 v2 v3 v4 v5 v6 v7 v8; exact j_none
  | succ n ih => intro h v0 v1 v2 v3 v4 v5 v6 v7 v8; exact jb_X10_undoes_8 (l_X10_undoes_8 n) ih h v0 v1 v2 v3 v4 v5 v6 v7 v8
set_option maxRecDepth 20000 in
set_option maxHeartbeats 1000000 in
theorem jb_X10_undoes_0 {G : q_G} {l : Launch} {k0 z0 : Nat} (h : q_H) (v0 : Nat) (v1 : Int32) (v2 : Int32) (v3 : Int32) (v4 : Int32) (v5 : Int32) (v6 : Int32) (v7 : Int32) : q_J G l (RX10, cX10_undoes, 9, 4, 96, (some .int), "undoes", []) k0 z0 (q_Z G k0 z0 q_i) 0 [(0, .ref v0), (1, .int v1), (2, .int v2), (3, .int v3), (4, .int v4), (5, .int v5), (6, .int v6), (7, .int v7)] [] h (b_X10_undoes_0 h v0 v1 v2 v3 v4 v5 v6 v7) := by
  unfold b_X10_undoes_0
  refine j_aload_n (pc := 0) (p := 0) rfl rfl dX10_undoes_0 ?_
  refine j_iload_n (pc := 1) (p := 1) rfl rfl dX10_undoes_1 ?_
  refine j_cVu (pc := 2) Y_X10_loads (ci := 9) (b := v0) rfl rfl ml_X10_144 im_X10_loads se_X10_loads ⟨Nat.le_of_ble_eq_true rfl, Nat.le_of_ble_eq_true rfl⟩ dX10_undoes_2 (As := [.int v1]) (rest := []) rfl rfl (Nat.le_of_ble_eq_true rfl) (fun x hq9 => c_X10_loads _ _ _ _ hq9) (fun q9 _ => ?_)
  refine j_iconst (pc := 5) ki_0 dX10_undoes_5 ?_
  refine j_istore (pc := 6) (lv' := [(8, .int (0)), (0, .ref v0), (1, .int v1), (2, .int v2), (3, .int v3), (4, .int v4), (5, .int v5), (6, .int v6), (7, .int v7)]) (by decide) rfl dX10_undoes_6 ?_
  refine j_sub [1, 2, 3, 4, 5, 6, 7, 8, 0] (lv' := [(0, .ref v0), (1, .int v1), (2, .int v2), (3, .int v3), (4, .int v4), (5, .int v5), (6, .int v6), (7, .int v7), (8, .int (0))]) rfl ?_
  exact jl_X10_undoes_8 q_FU _ _ _ _ _ _ _ _ _ _
set_option maxRecDepth 20000 in
set_option maxHeartbeats 1000000 in
theorem c_X10_undoes {G : q_G} {l : Launch} : ∀ (h : q_H) (a0 : Nat) (a1 : Int32) (a2 : Int32) (a3 : Int32) (a4 : Int32) (a5 : Int32) (a6 : Int32) (a7 : Int32) (q : q_H × Int32), f_X10_undoes h a0 a1 a2 a3 a4 a5 a6 a7 = some q → (∃ fs, h.1 a0 = .inr (9, fs)) ∧ q_CT G l yX10_undoes cX10_undoes 9 (some .int) 4 96 [.ref a0, .int a1, .int a2, .int a3, .int a4, .int a5, .int a6, .int a7] h q.1 (q_i q.2) := by
  intro h a0 a1 a2 a3 a4 a5 a6 a7 q e
  obtain ⟨e1, e2⟩ := q_chk_ok e
  exact ⟨e1, q_ofJ Y_X10_undoes (Nat.le_of_ble_eq_true rfl) (jb_X10_undoes_0 h a0 a1 a2 a3 a4 a5 a6 a7) q e2⟩
/-! FarFoldersModel.voids(I)I -/
theorem dX10_voids_0 : decode cX10_voids 0 = .ok (.aload_n 0, 1) := by decide +kernel
theorem dX10_voids_1 : decode cX10_voids 1 = .ok (.iconst 0, 1) := by decide +kernel
theorem dX10_voids_2 : decode cX10_voids 2 = .ok (.putfield 1, 3) := by decide +kernel
theorem dX10_voids_5 : decode cX10_voids 5 = .ok (.iload_n 1, 1) := by decide +kernel
theorem dX10_voids_6 : decode cX10_voids 6 = .ok (.invokestatic 101, 3) := by decide +kernel
theorem dX10_voids_9 : decode cX10_voids 9 = .ok (.ifCond .ne 5, 3) := by decide +kernel
theorem dX10_voids_12 : decode cX10_voids 12 = .ok (.iconst (-1), 1) := by decide +kernel
theorem dX10_voids_13 : decode cX10_voids 13 = .ok (.ireturn, 1) := by decide +kernel
theorem dX10_voids_14 : decode cX10_voids 14 = .ok (.aload_n 0, 1) := by decide +kernel
theorem dX10_voids_15 : decode cX10_voids 15 = .ok (.iconst 0, 1) := by decide +kernel
theorem dX10_voids_16 : decode cX10_voids 16 = .ok (.iload_n 1, 1) := by decide +kernel
theorem dX10_voids_17 : decode cX10_voids 17 = .ok (.invokevirtual 164, 3) := by decide +kernel
theorem dX10_voids_20 : decode cX10_voids 20 = .ok (.iconst 0, 1) := by decide +kernel
theorem dX10_voids_21 : decode cX10_voids 21 = .ok (.istore_n 2, 1) := by decide +kernel
theorem dX10_voids_22 : decode cX10_voids 22 = .ok (.iconst 0, 1) := by decide +kernel
theorem dX10_voids_23 : decode cX10_voids 23 = .ok (.istore_n 3, 1) := by decide +kernel
theorem dX10_voids_24 : decode cX10_voids 24 = .ok (.iload_n 3, 1) := by decide +kernel
theorem dX10_voids_25 : decode cX10_voids 25 = .ok (.aload_n 0, 1) := by decide +kernel
theorem dX10_voids_26 : decode cX10_voids 26 = .ok (.getfield 105, 3) := by decide +kernel
theorem dX10_voids_29 : decode cX10_voids 29 = .ok (.if_icmp .ge 28, 3) := by decide +kernel
theorem dX10_voids_32 : decode cX10_voids 32 = .ok (.iload_n 2, 1) := by decide +kernel
theorem dX10_voids_33 : decode cX10_voids 33 = .ok (.aload_n 0, 1) := by decide +kernel
theorem dX10_voids_34 : decode cX10_voids 34 = .ok (.getfield 53, 3) := by decide +kernel
theorem dX10_voids_37 : decode cX10_voids 37 = .ok (.iload_n 3, 1) := by decide +kernel
theorem dX10_voids_38 : decode cX10_voids 38 = .ok (.baload, 1) := by decide +kernel
theorem dX10_voids_39 : decode cX10_voids 39 = .ok (.ifCond .eq 9, 3) := by decide +kernel
theorem dX10_voids_42 : decode cX10_voids 42 = .ok (.iconst 1, 1) := by decide +kernel
theorem dX10_voids_43 : decode cX10_voids 43 = .ok (.iload_n 3, 1) := by decide +kernel
theorem dX10_voids_44 : decode cX10_voids 44 = .ok (.ishl, 1) := by decide +kernel
theorem dX10_voids_45 : decode cX10_voids 45 = .ok (.goto 4, 3) := by decide +kernel
theorem dX10_voids_48 : decode cX10_voids 48 = .ok (.iconst 0, 1) := by decide +kernel
theorem dX10_voids_49 : decode cX10_voids 49 = .ok (.ior, 1) := by decide +kernel
theorem dX10_voids_50 : decode cX10_voids 50 = .ok (.istore_n 2, 1) := by decide +kernel
theorem dX10_voids_51 : decode cX10_voids 51 = .ok (.iinc 3 1, 3) := by decide +kernel
theorem dX10_voids_54 : decode cX10_voids 54 = .ok (.goto (-30), 3) := by decide +kernel
theorem dX10_voids_57 : decode cX10_voids 57 = .ok (.aload_n 0, 1) := by decide +kernel
theorem dX10_voids_58 : decode cX10_voids 58 = .ok (.iconst 0, 1) := by decide +kernel
theorem dX10_voids_59 : decode cX10_voids 59 = .ok (.putfield 11, 3) := by decide +kernel
theorem dX10_voids_62 : decode cX10_voids 62 = .ok (.aload_n 0, 1) := by decide +kernel
theorem dX10_voids_63 : decode cX10_voids 63 = .ok (.iload_n 2, 1) := by decide +kernel
theorem dX10_voids_64 : decode cX10_voids 64 = .ok (.invokestatic 155, 3) := by decide +kernel
theorem dX10_voids_67 : decode cX10_voids 67 = .ok (.i2l, 1) := by decide +kernel
theorem dX10_voids_68 : decode cX10_voids 68 = .ok (.invokevirtual 202, 3) := by decide +kernel
theorem dX10_voids_71 : decode cX10_voids 71 = .ok (.iload_n 2, 1) := by decide +kernel
theorem dX10_voids_72 : decode cX10_voids 72 = .ok (.ireturn, 1) := by decide +kernel
def b_X10_voids_49 (k24 : q_H → Nat → Int32 → Int32 → Option (q_H × Int32)) (h : q_H) (v0 : Nat) (v3 : Int32) (s0 : Int32) (s1 : Int32) : Option (q_H × Int32) :=
  k24 h v0 (s0 ||| s1) (v3 + 1)
def b_X10_voids_24 (k24 : q_H → Nat → Int32 → Int32 → Option (q_H × Int32)) (h : q_H) (v0 : Nat) (v2 : Int32) (v3 : Int32) : Option (q_H × Int32) :=
  Option.bind (q_gI 9 9 h v0) (fun x1 => if x1 ≤ v3 then Option.bind (q_p 9 1 h v0 (.int (0))) (fun h2 => Option.bind (f_X10_bitsOf h2 v2) (fun q3 => Option.bind (f_X10_enters q3.1 v0 (Int32.toInt64 q3.2)) (fun q4 => some (q4.1, v2)))) else Option.bind (q_gR 9 10 h v0) (fun x5 => Option.bind (q_lI 2 h x5 v3) (fun x6 => if x6 = 0 then b_X10_voids_49 k24 h v0 v3 v2 (0) else b_X10_voids_49 k24 h v0 v3 v2 ((1) <<< (v3 &&& 31)))))
def l_X10_voids_24 : Nat → q_H → Nat → Int32 → Int32 → Option (q_H × Int32)
  | 0, _, _, _, _ => none
  | n + 1, h, v0, v2, v3 => b_X10_voids_24 (l_X10_voids_24 n) h v0 v2 v3
def b_X10_voids_0 (h : q_H) (v0 : Nat) (v1 : Int32) : Option (q_H × Int32) :=
  Option.bind (q_p 9 0 h v0 (.int (0))) (fun h7 => Option.bind (f_X10_isCopy h7 v1) (fun q8 => if q8.2 = 0 then some (q8.1, (-1)) else Option.bind (f_X10_lays q8.1 v0 (0) v1) (fun q9 => l_X10_voids_24 q_FU q9.1 v0 (0) (0))))
def f_X10_voids (h : q_H) (a0 : Nat) (a1 : Int32) : Option (q_H × Int32) := q_chk 9 h a0 (b_X10_voids_0 h a0 a1)
set_option maxRecDepth 20000 in
set_option maxHeartbeats 1000000 in
theorem jb_X10_voids_49 {G : q_G} {l : Launch} {k0 z0 : Nat} (k24 : q_H → Nat → Int32 → Int32 → Option (q_H × Int32)) (hk24 : ∀ (h : q_H) (v0 : Nat) (v2 : Int32) (v3 : Int32), q_J G l (RX10, cX10_voids, 4, 5, 118, (some .int), "voids", []) k0 z0 (q_Z G k0 z0 q_i) 24 [(0, .ref v0), (2, .int v2), (3, .int v3)] [] h (k24 h v0 v2 v3)) (h : q_H) (v0 : Nat) (v3 : Int32) (s0 : Int32) (s1 : Int32) : q_J G l (RX10, cX10_voids, 4, 5, 118, (some .int), "voids", []) k0 z0 (q_Z G k0 z0 q_i) 49 [(0, .ref v0), (3, .int v3)] [.int s1, .int s0] h (b_X10_voids_49 k24 h v0 v3 s0 s1) := by
  unfold b_X10_voids_49
  refine j_ior (pc := 49) dX10_voids_49 ?_
  refine j_istore_n (pc := 50) (lv' := [(2, .int (s0 ||| s1)), (0, .ref v0), (3, .int v3)]) rfl (by decide) rfl dX10_voids_50 ?_
  refine j_inc (pc := 51) (p := 2) (lv' := [(3, .int (v3 + 1)), (2, .int (s0 ||| s1)), (0, .ref v0)]) rfl ki_1 (by decide) rfl dX10_voids_51 ?_
  refine j_goto (pc := 54) (tgt := 24) dX10_voids_54 (by decide) ?_
  refine j_sub [2, 1, 0] (lv' := [(0, .ref v0), (2, .int (s0 ||| s1)), (3, .int (v3 + 1))]) rfl ?_
  exact hk24 _ _ _ _
set_option maxRecDepth 20000 in
set_option maxHeartbeats 1000000 in
theorem jb_X10_voids_24 {G : q_G} {l : Launch} {k0 z0 : Nat} (k24 : q_H → Nat → Int32 → Int32 → Option (q_H × Int32)) (hk24 : ∀ (h : q_H) (v0 : Nat) (v2 : Int32) (v3 : Int32), q_J G l (RX10, cX10_voids, 4, 5, 118, (some .int), "voids", []) k0 z0 (q_Z G k0 z0 q_i) 24 [(0, .ref v0), (2, .int v2), (3, .int v3)] [] h (k24 h v0 v2 v3)) (h : q_H) (v0 : Nat) (v2 : Int32) (v3 : Int32) : q_J G l (RX10, cX10_voids, 4, 5, 118, (some .int), "voids", []) k0 z0 (q_Z G k0 z0 q_i) 24 [(0, .ref v0), (2, .int v2), (3, .int v3)] [] h (b_X10_voids_24 k24 h v0 v2 v3) := by
  unfold b_X10_voids_24
  refine j_iload_n (pc := 24) (p := 2) rfl rfl dX10_voids_24 ?_
  refine j_aload_n (pc := 25) (p := 0) rfl rfl dX10_voids_25 ?_
  refine j_getI (pc := 26) FI_X10 (k := 9) (by decide) fl_X10_105 dX10_voids_26 (fun x1 _ => ?_)
  refine j_ic_ge (pc := 29) (tgt := 57) dX10_voids_29 (by decide) (fun _ => ?_) (fun _ => ?_)
  · refine j_aload_n (pc := 57) (p := 0) rfl rfl dX10_voids_57 ?_
    refine j_iconst (pc := 58) ki_0 dX10_voids_58 ?_
    refine j_put (pc := 59) FI_X10 (k := 1) (by decide) fl_X10_11 rfl rfl rfl dX10_voids_59 (fun h2 _ => ?_)
    refine j_aload_n (pc := 62) (p := 0) rfl rfl dX10_voids_62 ?_
    refine j_iload_n (pc := 63) (p := 1) rfl rfl dX10_voids_63 ?_
    refine j_cSi (pc := 64) Y_X10_bitsOf ml_X10_155 sm_X10_bitsOf ⟨Nat.le_of_ble_eq_true rfl, Nat.le_of_ble_eq_true rfl⟩ dX10_voids_64 (As := [.int v2]) (rest := [.ref v0]) rfl rfl (Nat.le_of_ble_eq_true rfl) (fun x hq9 => c_X10_bitsOf _ _ _ hq9) (fun q3 _ => ?_)
    refine j_i2l (pc := 67) dX10_voids_67 ?_
    refine j_cVu (pc := 68) Y_X10_enters (ci := 9) (b := v0) rfl rfl ml_X10_202 im_X10_enters se_X10_enters ⟨Nat.le_of_ble_eq_true rfl, Nat.le_of_ble_eq_true rfl⟩ dX10_voids_68 (As := [.long (Int32.toInt64 q3.2)]) (rest := []) rfl rfl (Nat.le_of_ble_eq_true rfl) (fun x hq9 => c_X10_enters _ _ _ _ hq9) (fun q4 _ => ?_)
    refine j_iload_n (pc := 71) (p := 1) rfl rfl dX10_voids_71 ?_
    exact j_iret (pc := 72) rfl dX10_voids_72
  refine j_iload_n (pc := 32) (p := 1) rfl rfl dX10_voids_32 ?_
  refine j_aload_n (pc := 33) (p := 0) rfl rfl dX10_voids_33 ?_
  refine j_getR (pc := 34) FI_X10 (k := 10) (by decide) fl_X10_53 dX10_voids_34 (fun x5 _ => ?_)
  refine j_iload_n (pc := 37) (p := 2) rfl rfl dX10_voids_37 ?_
  refine j_zald (pc := 38) dX10_voids_38 (fun x6 _ => ?_)
  refine j_if_eq (pc := 39) (tgt := 48) dX10_voids_39 (by decide) (fun _ => ?_) (fun _ => ?_)
  · refine j_iconst (pc := 48) ki_0 dX10_voids_48 ?_
    refine j_sub [0, 2] (lv' := [(0, .ref v0), (3, .int v3)]) rfl ?_
    exact jb_X10_voids_49 k24 hk24 _ _ _ _ _
  refine j_iconst (pc := 42) ki_1 dX10_voids_42 ?_
  refine j_iload_n (pc := 43) (p := 2) rfl rfl dX10_voids_43 ?_
  refine j_ishl (pc := 44) dX10_voids_44 ?_
  refine j_goto (pc := 45) (tgt := 49) dX10_voids_45 (by decide) ?_
  refine j_sub [0, 2] (lv' := [(0, .ref v0), (3, .int v3)]) rfl ?_
  exact jb_X10_voids_49 k24 hk24 _ _ _ _ _
set_option maxRecDepth 20000 in
set_option maxHeartbeats 1000000 in
theorem jl_X10_voids_24 {G : q_G} {l : Launch} {k0 z0 : Nat} (n : Nat) : ∀ (h : q_H) (v0 : Nat) (v2 : Int32) (v3 : Int32), q_J G l (RX10, cX10_voids, 4, 5, 118, (some .int), "voids", []) k0 z0 (q_Z G k0 z0 q_i) 24 [(0, .ref v0), (2, .int v2), (3, .int v3)] [] h (l_X10_voids_24 n h v0 v2 v3) := by
  induction n with
  | zero => intro h v0 v2 v3; exact j_none
  | succ n ih => intro h v0 v2 v3; exact jb_X10_voids_24 (l_X10_voids_24 n) ih h v0 v2 v3
set_option maxRecDepth 20000 in
set_option maxHeartbeats 1000000 in
theorem jb_X10_voids_0 {G : q_G} {l : Launch} {k0 z0 : Nat} (h : q_H) (v0 : Nat) (v1 : Int32) : q_J G l (RX10, cX10_voids, 4, 5, 118, (some .int), "voids", []) k0 z0 (q_Z G k0 z0 q_i) 0 [(0, .ref v0), (1, .int v1)] [] h (b_X10_voids_0 h v0 v1) := by
  unfold b_X10_voids_0
  refine j_aload_n (pc := 0) (p := 0) rfl rfl dX10_voids_0 ?_
  refine j_iconst (pc := 1) ki_0 dX10_voids_1 ?_
  refine j_put (pc := 2) FI_X10 (k := 0) (by decide) fl_X10_1 rfl rfl rfl dX10_voids_2 (fun h7 _ => ?_)
  refine j_iload_n (pc := 5) (p := 1) rfl rfl dX10_voids_5 ?_
  refine j_cSi (pc := 6) Y_X10_isCopy ml_X10_101 sm_X10_isCopy ⟨Nat.le_of_ble_eq_true rfl, Nat.le_of_ble_eq_true rfl⟩ dX10_voids_6 (As := [.int v1]) (rest := []) rfl rfl (Nat.le_of_ble_eq_true rfl) (fun x hq9 => c_X10_isCopy _ _ _ hq9) (fun q8 _ => ?_)
  refine j_if_ne (pc := 9) (tgt := 14) dX10_voids_9 (by decide) (fun _ => ?_) (fun _ => ?_)
  · refine j_iconst (pc := 12) ki_m1 dX10_voids_12 ?_
    exact j_iret (pc := 13) rfl dX10_voids_13
  refine j_aload_n (pc := 14) (p := 0) rfl rfl dX10_voids_14 ?_
  refine j_iconst (pc := 15) ki_0 dX10_voids_15 ?_
  refine j_iload_n (pc := 16) (p := 1) rfl rfl dX10_voids_16 ?_
  refine j_cVu (pc := 17) Y_X10_lays (ci := 9) (b := v0) rfl rfl ml_X10_164 im_X10_lays se_X10_lays ⟨Nat.le_of_ble_eq_true rfl, Nat.le_of_ble_eq_true rfl⟩ dX10_voids_17 (As := [.int (0), .int v1]) (rest := []) rfl rfl (Nat.le_of_ble_eq_true rfl) (fun x hq9 => c_X10_lays _ _ _ _ _ hq9) (fun q9 _ => ?_)
  refine j_iconst (pc := 20) ki_0 dX10_voids_20 ?_
  refine j_istore_n (pc := 21) (lv' := [(2, .int (0)), (0, .ref v0), (1, .int v1)]) rfl (by decide) rfl dX10_voids_21 ?_
  refine j_iconst (pc := 22) ki_0 dX10_voids_22 ?_
  refine j_istore_n (pc := 23) (lv' := [(3, .int (0)), (2, .int (0)), (0, .ref v0), (1, .int v1)]) rfl (by decide) rfl dX10_voids_23 ?_
  refine j_sub [2, 1, 0] (lv' := [(0, .ref v0), (2, .int (0)), (3, .int (0))]) rfl ?_
  exact jl_X10_voids_24 q_FU _ _ _ _
set_option maxRecDepth 20000 in
set_option maxHeartbeats 1000000 in
theorem c_X10_voids {G : q_G} {l : Launch} : ∀ (h : q_H) (a0 : Nat) (a1 : Int32) (q : q_H × Int32), f_X10_voids h a0 a1 = some q → (∃ fs, h.1 a0 = .inr (9, fs)) ∧ q_CT G l yX10_voids cX10_voids 4 (some .int) 5 118 [.ref a0, .int a1] h q.1 (q_i q.2) := by
  intro h a0 a1 q e
  obtain ⟨e1, e2⟩ := q_chk_ok e
  exact ⟨e1, q_ofJ Y_X10_voids (Nat.le_of_ble_eq_true rfl) (jb_X10_voids_0 h a0 a1) q e2⟩
/-! FarFoldersModel.worst(I)I -/
theorem dX10_worst_0 : decode cX10_worst 0 = .ok (.aload_n 0, 1) := by decide +kernel
theorem dX10_worst_1 : decode cX10_worst 1 = .ok (.iconst 0, 1) := by decide +kernel
theorem dX10_worst_2 : decode cX10_worst 2 = .ok (.putfield 1, 3) := by decide +kernel
theorem dX10_worst_5 : decode cX10_worst 5 = .ok (.iload_n 1, 1) := by decide +kernel
theorem dX10_worst_6 : decode cX10_worst 6 = .ok (.invokestatic 101, 3) := by decide +kernel
theorem dX10_worst_9 : decode cX10_worst 9 = .ok (.ifCond .ne 5, 3) := by decide +kernel
theorem dX10_worst_12 : decode cX10_worst 12 = .ok (.iconst (-1), 1) := by decide +kernel
theorem dX10_worst_13 : decode cX10_worst 13 = .ok (.ireturn, 1) := by decide +kernel
theorem dX10_worst_14 : decode cX10_worst 14 = .ok (.aload_n 0, 1) := by decide +kernel
theorem dX10_worst_15 : decode cX10_worst 15 = .ok (.iload_n 1, 1) := by decide +kernel
theorem dX10_worst_16 : decode cX10_worst 16 = .ok (.invokevirtual 235, 3) := by decide +kernel
theorem dX10_worst_19 : decode cX10_worst 19 = .ok (.ifCond .ne 6, 3) := by decide +kernel
theorem dX10_worst_22 : decode cX10_worst 22 = .ok (.bipush (-2), 2) := by decide +kernel
theorem dX10_worst_24 : decode cX10_worst 24 = .ok (.ireturn, 1) := by decide +kernel
theorem dX10_worst_25 : decode cX10_worst 25 = .ok (.iload_n 1, 1) := by decide +kernel
theorem dX10_worst_26 : decode cX10_worst 26 = .ok (.ifCond .ne 7, 3) := by decide +kernel
theorem dX10_worst_29 : decode cX10_worst 29 = .ok (.iconst 1, 1) := by decide +kernel
theorem dX10_worst_30 : decode cX10_worst 30 = .ok (.goto 4, 3) := by decide +kernel
theorem dX10_worst_33 : decode cX10_worst 33 = .ok (.iconst 0, 1) := by decide +kernel
theorem dX10_worst_34 : decode cX10_worst 34 = .ok (.istore_n 2, 1) := by decide +kernel
theorem dX10_worst_35 : decode cX10_worst 35 = .ok (.iload_n 2, 1) := by decide +kernel
theorem dX10_worst_36 : decode cX10_worst 36 = .ok (.iload_n 1, 1) := by decide +kernel
theorem dX10_worst_37 : decode cX10_worst 37 = .ok (.invokestatic 336, 3) := by decide +kernel
theorem dX10_worst_40 : decode cX10_worst 40 = .ok (.istore_n 3, 1) := by decide +kernel
theorem dX10_worst_41 : decode cX10_worst 41 = .ok (.bipush 7, 2) := by decide +kernel
theorem dX10_worst_43 : decode cX10_worst 43 = .ok (.istore 4, 2) := by decide +kernel
theorem dX10_worst_45 : decode cX10_worst 45 = .ok (.iconst 0, 1) := by decide +kernel
theorem dX10_worst_46 : decode cX10_worst 46 = .ok (.istore 5, 2) := by decide +kernel
theorem dX10_worst_48 : decode cX10_worst 48 = .ok (.iload 5, 2) := by decide +kernel
theorem dX10_worst_50 : decode cX10_worst 50 = .ok (.aload_n 0, 1) := by decide +kernel
theorem dX10_worst_51 : decode cX10_worst 51 = .ok (.iload_n 2, 1) := by decide +kernel
theorem dX10_worst_52 : decode cX10_worst 52 = .ok (.iload_n 1, 1) := by decide +kernel
theorem dX10_worst_53 : decode cX10_worst 53 = .ok (.invokevirtual 173, 3) := by decide +kernel
theorem dX10_worst_56 : decode cX10_worst 56 = .ok (.if_icmp .gt 258, 3) := by decide +kernel
theorem dX10_worst_59 : decode cX10_worst 59 = .ok (.iconst 0, 1) := by decide +kernel
theorem dX10_worst_60 : decode cX10_worst 60 = .ok (.istore 6, 2) := by decide +kernel
theorem dX10_worst_62 : decode cX10_worst 62 = .ok (.iload 6, 2) := by decide +kernel
theorem dX10_worst_64 : decode cX10_worst 64 = .ok (.aload_n 0, 1) := by decide +kernel
theorem dX10_worst_65 : decode cX10_worst 65 = .ok (.iload_n 3, 1) := by decide +kernel
theorem dX10_worst_66 : decode cX10_worst 66 = .ok (.iload_n 1, 1) := by decide +kernel
theorem dX10_worst_67 : decode cX10_worst 67 = .ok (.invokevirtual 173, 3) := by decide +kernel
theorem dX10_worst_70 : decode cX10_worst 70 = .ok (.if_icmp .gt 238, 3) := by decide +kernel
theorem dX10_worst_73 : decode cX10_worst 73 = .ok (.iload 4, 2) := by decide +kernel
theorem dX10_worst_75 : decode cX10_worst 75 = .ok (.iload 5, 2) := by decide +kernel
theorem dX10_worst_77 : decode cX10_worst 77 = .ok (.imul, 1) := by decide +kernel
theorem dX10_worst_78 : decode cX10_worst 78 = .ok (.iload 6, 2) := by decide +kernel
theorem dX10_worst_80 : decode cX10_worst 80 = .ok (.iadd, 1) := by decide +kernel
theorem dX10_worst_81 : decode cX10_worst 81 = .ok (.istore 7, 2) := by decide +kernel
theorem dX10_worst_83 : decode cX10_worst 83 = .ok (.aload_n 0, 1) := by decide +kernel
theorem dX10_worst_84 : decode cX10_worst 84 = .ok (.getfield 81, 3) := by decide +kernel
theorem dX10_worst_87 : decode cX10_worst 87 = .ok (.iload 7, 2) := by decide +kernel
theorem dX10_worst_89 : decode cX10_worst 89 = .ok (.iload 5, 2) := by decide +kernel
theorem dX10_worst_91 : decode cX10_worst 91 = .ok (.iload 6, 2) := by decide +kernel
theorem dX10_worst_93 : decode cX10_worst 93 = .ok (.iadd, 1) := by decide +kernel
theorem dX10_worst_94 : decode cX10_worst 94 = .ok (.ifCond .ne 7, 3) := by decide +kernel
theorem dX10_worst_97 : decode cX10_worst 97 = .ok (.iconst 0, 1) := by decide +kernel
theorem dX10_worst_98 : decode cX10_worst 98 = .ok (.goto 4, 3) := by decide +kernel
theorem dX10_worst_101 : decode cX10_worst 101 = .ok (.iconst (-1), 1) := by decide +kernel
theorem dX10_worst_102 : decode cX10_worst 102 = .ok (.iastore, 1) := by decide +kernel
theorem dX10_worst_103 : decode cX10_worst 103 = .ok (.aload_n 0, 1) := by decide +kernel
theorem dX10_worst_104 : decode cX10_worst 104 = .ok (.getfield 84, 3) := by decide +kernel
theorem dX10_worst_107 : decode cX10_worst 107 = .ok (.iload 7, 2) := by decide +kernel
theorem dX10_worst_109 : decode cX10_worst 109 = .ok (.iload 5, 2) := by decide +kernel
theorem dX10_worst_111 : decode cX10_worst 111 = .ok (.iload 6, 2) := by decide +kernel
theorem dX10_worst_113 : decode cX10_worst 113 = .ok (.iadd, 1) := by decide +kernel
theorem dX10_worst_114 : decode cX10_worst 114 = .ok (.ifCond .ne 7, 3) := by decide +kernel
theorem dX10_worst_117 : decode cX10_worst 117 = .ok (.iconst 0, 1) := by decide +kernel
theorem dX10_worst_118 : decode cX10_worst 118 = .ok (.goto 5, 3) := by decide +kernel
theorem dX10_worst_121 : decode cX10_worst 121 = .ok (.ldc 250, 2) := by decide +kernel
theorem dX10_worst_123 : decode cX10_worst 123 = .ok (.iastore, 1) := by decide +kernel
theorem dX10_worst_124 : decode cX10_worst 124 = .ok (.iload 5, 2) := by decide +kernel
theorem dX10_worst_126 : decode cX10_worst 126 = .ok (.ifCond .le 88, 3) := by decide +kernel
theorem dX10_worst_129 : decode cX10_worst 129 = .ok (.aload_n 0, 1) := by decide +kernel
theorem dX10_worst_130 : decode cX10_worst 130 = .ok (.iload_n 1, 1) := by decide +kernel
theorem dX10_worst_131 : decode cX10_worst 131 = .ok (.iload_n 2, 1) := by decide +kernel
theorem dX10_worst_132 : decode cX10_worst 132 = .ok (.iload 5, 2) := by decide +kernel
theorem dX10_worst_134 : decode cX10_worst 134 = .ok (.iconst 1, 1) := by decide +kernel
theorem dX10_worst_135 : decode cX10_worst 135 = .ok (.isub, 1) := by decide +kernel
theorem dX10_worst_136 : decode cX10_worst 136 = .ok (.iload_n 3, 1) := by decide +kernel
theorem dX10_worst_137 : decode cX10_worst 137 = .ok (.iload 6, 2) := by decide +kernel
theorem dX10_worst_139 : decode cX10_worst 139 = .ok (.iload_n 2, 1) := by decide +kernel
theorem dX10_worst_140 : decode cX10_worst 140 = .ok (.iload_n 2, 1) := by decide +kernel
theorem dX10_worst_141 : decode cX10_worst 141 = .ok (.iload_n 1, 1) := by decide +kernel
theorem dX10_worst_142 : decode cX10_worst 142 = .ok (.iload 5, 2) := by decide +kernel
theorem dX10_worst_144 : decode cX10_worst 144 = .ok (.iconst 1, 1) := by decide +kernel
theorem dX10_worst_145 : decode cX10_worst 145 = .ok (.isub, 1) := by decide +kernel
theorem dX10_worst_146 : decode cX10_worst 146 = .ok (.invokestatic 176, 3) := by decide +kernel
theorem dX10_worst_149 : decode cX10_worst 149 = .ok (.invokevirtual 339, 3) := by decide +kernel
theorem dX10_worst_152 : decode cX10_worst 152 = .ok (.istore 8, 2) := by decide +kernel
theorem dX10_worst_154 : decode cX10_worst 154 = .ok (.aload_n 0, 1) := by decide +kernel
theorem dX10_worst_155 : decode cX10_worst 155 = .ok (.getfield 81, 3) := by decide +kernel
theorem dX10_worst_158 : decode cX10_worst 158 = .ok (.iload 7, 2) := by decide +kernel
theorem dX10_worst_160 : decode cX10_worst 160 = .ok (.aload_n 0, 1) := by decide +kernel
theorem dX10_worst_161 : decode cX10_worst 161 = .ok (.getfield 81, 3) := by decide +kernel
theorem dX10_worst_164 : decode cX10_worst 164 = .ok (.iload 7, 2) := by decide +kernel
theorem dX10_worst_166 : decode cX10_worst 166 = .ok (.iaload, 1) := by decide +kernel
theorem dX10_worst_167 : decode cX10_worst 167 = .ok (.aload_n 0, 1) := by decide +kernel
theorem dX10_worst_168 : decode cX10_worst 168 = .ok (.getfield 81, 3) := by decide +kernel
theorem dX10_worst_171 : decode cX10_worst 171 = .ok (.iload 7, 2) := by decide +kernel
theorem dX10_worst_173 : decode cX10_worst 173 = .ok (.iload 4, 2) := by decide +kernel
theorem dX10_worst_175 : decode cX10_worst 175 = .ok (.isub, 1) := by decide +kernel
theorem dX10_worst_176 : decode cX10_worst 176 = .ok (.iaload, 1) := by decide +kernel
theorem dX10_worst_177 : decode cX10_worst 177 = .ok (.iload 8, 2) := by decide +kernel
theorem dX10_worst_179 : decode cX10_worst 179 = .ok (.iadd, 1) := by decide +kernel
theorem dX10_worst_180 : decode cX10_worst 180 = .ok (.invokestatic 209, 3) := by decide +kernel
theorem dX10_worst_183 : decode cX10_worst 183 = .ok (.iastore, 1) := by decide +kernel
theorem dX10_worst_184 : decode cX10_worst 184 = .ok (.aload_n 0, 1) := by decide +kernel
theorem dX10_worst_185 : decode cX10_worst 185 = .ok (.getfield 84, 3) := by decide +kernel
theorem dX10_worst_188 : decode cX10_worst 188 = .ok (.iload 7, 2) := by decide +kernel
theorem dX10_worst_190 : decode cX10_worst 190 = .ok (.aload_n 0, 1) := by decide +kernel
theorem dX10_worst_191 : decode cX10_worst 191 = .ok (.getfield 84, 3) := by decide +kernel
theorem dX10_worst_194 : decode cX10_worst 194 = .ok (.iload 7, 2) := by decide +kernel
theorem dX10_worst_196 : decode cX10_worst 196 = .ok (.iaload, 1) := by decide +kernel
theorem dX10_worst_197 : decode cX10_worst 197 = .ok (.aload_n 0, 1) := by decide +kernel
theorem dX10_worst_198 : decode cX10_worst 198 = .ok (.getfield 84, 3) := by decide +kernel
theorem dX10_worst_201 : decode cX10_worst 201 = .ok (.iload 7, 2) := by decide +kernel
theorem dX10_worst_203 : decode cX10_worst 203 = .ok (.iload 4, 2) := by decide +kernel
theorem dX10_worst_205 : decode cX10_worst 205 = .ok (.isub, 1) := by decide +kernel
theorem dX10_worst_206 : decode cX10_worst 206 = .ok (.iaload, 1) := by decide +kernel
theorem dX10_worst_207 : decode cX10_worst 207 = .ok (.iload 8, 2) := by decide +kernel
theorem dX10_worst_209 : decode cX10_worst 209 = .ok (.iadd, 1) := by decide +kernel
theorem dX10_worst_210 : decode cX10_worst 210 = .ok (.invokestatic 251, 3) := by decide +kernel
theorem dX10_worst_213 : decode cX10_worst 213 = .ok (.iastore, 1) := by decide +kernel
theorem dX10_worst_214 : decode cX10_worst 214 = .ok (.iload 6, 2) := by decide +kernel
theorem dX10_worst_216 : decode cX10_worst 216 = .ok (.ifCond .le 86, 3) := by decide +kernel
theorem dX10_worst_219 : decode cX10_worst 219 = .ok (.aload_n 0, 1) := by decide +kernel
theorem dX10_worst_220 : decode cX10_worst 220 = .ok (.iload_n 1, 1) := by decide +kernel
theorem dX10_worst_221 : decode cX10_worst 221 = .ok (.iload_n 2, 1) := by decide +kernel
theorem dX10_worst_222 : decode cX10_worst 222 = .ok (.iload 5, 2) := by decide +kernel
theorem dX10_worst_224 : decode cX10_worst 224 = .ok (.iload_n 3, 1) := by decide +kernel
theorem dX10_worst_225 : decode cX10_worst 225 = .ok (.iload 6, 2) := by decide +kernel
theorem dX10_worst_227 : decode cX10_worst 227 = .ok (.iconst 1, 1) := by decide +kernel
theorem dX10_worst_228 : decode cX10_worst 228 = .ok (.isub, 1) := by decide +kernel
theorem dX10_worst_229 : decode cX10_worst 229 = .ok (.iload_n 3, 1) := by decide +kernel
theorem dX10_worst_230 : decode cX10_worst 230 = .ok (.iload_n 3, 1) := by decide +kernel
theorem dX10_worst_231 : decode cX10_worst 231 = .ok (.iload_n 1, 1) := by decide +kernel
theorem dX10_worst_232 : decode cX10_worst 232 = .ok (.iload 6, 2) := by decide +kernel
theorem dX10_worst_234 : decode cX10_worst 234 = .ok (.iconst 1, 1) := by decide +kernel
theorem dX10_worst_235 : decode cX10_worst 235 = .ok (.isub, 1) := by decide +kernel
theorem dX10_worst_236 : decode cX10_worst 236 = .ok (.invokestatic 176, 3) := by decide +kernel
theorem dX10_worst_239 : decode cX10_worst 239 = .ok (.invokevirtual 339, 3) := by decide +kernel
theorem dX10_worst_242 : decode cX10_worst 242 = .ok (.istore 8, 2) := by decide +kernel
theorem dX10_worst_244 : decode cX10_worst 244 = .ok (.aload_n 0, 1) := by decide +kernel
theorem dX10_worst_245 : decode cX10_worst 245 = .ok (.getfield 81, 3) := by decide +kernel
theorem dX10_worst_248 : decode cX10_worst 248 = .ok (.iload 7, 2) := by decide +kernel
theorem dX10_worst_250 : decode cX10_worst 250 = .ok (.aload_n 0, 1) := by decide +kernel
theorem dX10_worst_251 : decode cX10_worst 251 = .ok (.getfield 81, 3) := by decide +kernel
theorem dX10_worst_254 : decode cX10_worst 254 = .ok (.iload 7, 2) := by decide +kernel
theorem dX10_worst_256 : decode cX10_worst 256 = .ok (.iaload, 1) := by decide +kernel
theorem dX10_worst_257 : decode cX10_worst 257 = .ok (.aload_n 0, 1) := by decide +kernel
theorem dX10_worst_258 : decode cX10_worst 258 = .ok (.getfield 81, 3) := by decide +kernel
theorem dX10_worst_261 : decode cX10_worst 261 = .ok (.iload 7, 2) := by decide +kernel
theorem dX10_worst_263 : decode cX10_worst 263 = .ok (.iconst 1, 1) := by decide +kernel
theorem dX10_worst_264 : decode cX10_worst 264 = .ok (.isub, 1) := by decide +kernel
theorem dX10_worst_265 : decode cX10_worst 265 = .ok (.iaload, 1) := by decide +kernel
theorem dX10_worst_266 : decode cX10_worst 266 = .ok (.iload 8, 2) := by decide +kernel
theorem dX10_worst_268 : decode cX10_worst 268 = .ok (.iadd, 1) := by decide +kernel
theorem dX10_worst_269 : decode cX10_worst 269 = .ok (.invokestatic 209, 3) := by decide +kernel
theorem dX10_worst_272 : decode cX10_worst 272 = .ok (.iastore, 1) := by decide +kernel
theorem dX10_worst_273 : decode cX10_worst 273 = .ok (.aload_n 0, 1) := by decide +kernel
theorem dX10_worst_274 : decode cX10_worst 274 = .ok (.getfield 84, 3) := by decide +kernel
theorem dX10_worst_277 : decode cX10_worst 277 = .ok (.iload 7, 2) := by decide +kernel
theorem dX10_worst_279 : decode cX10_worst 279 = .ok (.aload_n 0, 1) := by decide +kernel
theorem dX10_worst_280 : decode cX10_worst 280 = .ok (.getfield 84, 3) := by decide +kernel
theorem dX10_worst_283 : decode cX10_worst 283 = .ok (.iload 7, 2) := by decide +kernel
theorem dX10_worst_285 : decode cX10_worst 285 = .ok (.iaload, 1) := by decide +kernel
theorem dX10_worst_286 : decode cX10_worst 286 = .ok (.aload_n 0, 1) := by decide +kernel
theorem dX10_worst_287 : decode cX10_worst 287 = .ok (.getfield 84, 3) := by decide +kernel
theorem dX10_worst_290 : decode cX10_worst 290 = .ok (.iload 7, 2) := by decide +kernel
theorem dX10_worst_292 : decode cX10_worst 292 = .ok (.iconst 1, 1) := by decide +kernel
theorem dX10_worst_293 : decode cX10_worst 293 = .ok (.isub, 1) := by decide +kernel
theorem dX10_worst_294 : decode cX10_worst 294 = .ok (.iaload, 1) := by decide +kernel
theorem dX10_worst_295 : decode cX10_worst 295 = .ok (.iload 8, 2) := by decide +kernel
theorem dX10_worst_297 : decode cX10_worst 297 = .ok (.iadd, 1) := by decide +kernel
theorem dX10_worst_298 : decode cX10_worst 298 = .ok (.invokestatic 251, 3) := by decide +kernel
theorem dX10_worst_301 : decode cX10_worst 301 = .ok (.iastore, 1) := by decide +kernel
theorem dX10_worst_302 : decode cX10_worst 302 = .ok (.iinc 6 1, 3) := by decide +kernel
theorem dX10_worst_305 : decode cX10_worst 305 = .ok (.goto (-243), 3) := by decide +kernel
theorem dX10_worst_308 : decode cX10_worst 308 = .ok (.iinc 5 1, 3) := by decide +kernel
theorem dX10_worst_311 : decode cX10_worst 311 = .ok (.goto (-263), 3) := by decide +kernel
theorem dX10_worst_314 : decode cX10_worst 314 = .ok (.iload 4, 2) := by decide +kernel
theorem dX10_worst_316 : decode cX10_worst 316 = .ok (.aload_n 0, 1) := by decide +kernel
theorem dX10_worst_317 : decode cX10_worst 317 = .ok (.iload_n 2, 1) := by decide +kernel
theorem dX10_worst_318 : decode cX10_worst 318 = .ok (.iload_n 1, 1) := by decide +kernel
theorem dX10_worst_319 : decode cX10_worst 319 = .ok (.invokevirtual 173, 3) := by decide +kernel
theorem dX10_worst_322 : decode cX10_worst 322 = .ok (.imul, 1) := by decide +kernel
theorem dX10_worst_323 : decode cX10_worst 323 = .ok (.aload_n 0, 1) := by decide +kernel
theorem dX10_worst_324 : decode cX10_worst 324 = .ok (.iload_n 3, 1) := by decide +kernel
theorem dX10_worst_325 : decode cX10_worst 325 = .ok (.iload_n 1, 1) := by decide +kernel
theorem dX10_worst_326 : decode cX10_worst 326 = .ok (.invokevirtual 173, 3) := by decide +kernel
theorem dX10_worst_329 : decode cX10_worst 329 = .ok (.iadd, 1) := by decide +kernel
theorem dX10_worst_330 : decode cX10_worst 330 = .ok (.istore 5, 2) := by decide +kernel
theorem dX10_worst_332 : decode cX10_worst 332 = .ok (.aload_n 0, 1) := by decide +kernel
theorem dX10_worst_333 : decode cX10_worst 333 = .ok (.iconst 0, 1) := by decide +kernel
theorem dX10_worst_334 : decode cX10_worst 334 = .ok (.putfield 11, 3) := by decide +kernel
theorem dX10_worst_337 : decode cX10_worst 337 = .ok (.aload_n 0, 1) := by decide +kernel
theorem dX10_worst_338 : decode cX10_worst 338 = .ok (.aload_n 0, 1) := by decide +kernel
theorem dX10_worst_339 : decode cX10_worst 339 = .ok (.getfield 84, 3) := by decide +kernel
theorem dX10_worst_342 : decode cX10_worst 342 = .ok (.iload 5, 2) := by decide +kernel
theorem dX10_worst_344 : decode cX10_worst 344 = .ok (.iaload, 1) := by decide +kernel
theorem dX10_worst_345 : decode cX10_worst 345 = .ok (.i2l, 1) := by decide +kernel
theorem dX10_worst_346 : decode cX10_worst 346 = .ok (.invokevirtual 202, 3) := by decide +kernel
theorem dX10_worst_349 : decode cX10_worst 349 = .ok (.aload_n 0, 1) := by decide +kernel
theorem dX10_worst_350 : decode cX10_worst 350 = .ok (.aload_n 0, 1) := by decide +kernel
theorem dX10_worst_351 : decode cX10_worst 351 = .ok (.iload_n 1, 1) := by decide +kernel
theorem dX10_worst_352 : decode cX10_worst 352 = .ok (.invokevirtual 241, 3) := by decide +kernel
theorem dX10_worst_355 : decode cX10_worst 355 = .ok (.i2l, 1) := by decide +kernel
theorem dX10_worst_356 : decode cX10_worst 356 = .ok (.invokevirtual 202, 3) := by decide +kernel
theorem dX10_worst_359 : decode cX10_worst 359 = .ok (.aload_n 0, 1) := by decide +kernel
theorem dX10_worst_360 : decode cX10_worst 360 = .ok (.getfield 81, 3) := by decide +kernel
theorem dX10_worst_363 : decode cX10_worst 363 = .ok (.iload 5, 2) := by decide +kernel
theorem dX10_worst_365 : decode cX10_worst 365 = .ok (.iaload, 1) := by decide +kernel
theorem dX10_worst_366 : decode cX10_worst 366 = .ok (.ireturn, 1) := by decide +kernel
def b_X10_worst_302 (k48 : q_H → Nat → Int32 → Int32 → Int32 → Int32 → Int32 → Option (q_H × Int32)) (k62 : q_H → Nat → Int32 → Int32 → Int32 → Int32 → Int32 → Int32 → Option (q_H × Int32)) (h : q_H) (v0 : Nat) (v1 : Int32) (v2 : Int32) (v3 : Int32) (v4 : Int32) (v5 : Int32) (v6 : Int32) : Option (q_H × Int32) :=
  k62 h v0 v1 v2 v3 v4 v5 (v6 + 1)
def b_X10_worst_214 (k48 : q_H → Nat → Int32 → Int32 → Int32 → Int32 → Int32 → Option (q_H × Int32)) (k62 : q_H → Nat → Int32 → Int32 → Int32 → Int32 → Int32 → Int32 → Option (q_H × Int32)) (h : q_H) (v0 : Nat) (v1 : Int32) (v2 : Int32) (v3 : Int32) (v4 : Int32) (v5 : Int32) (v6 : Int32) (v7 : Int32) : Option (q_H × Int32) :=
  if v6 ≤ 0 then b_X10_worst_302 k48 k62 h v0 v1 v2 v3 v4 v5 v6 else Option.bind (f_X10_letterOf h v3 v1 (v6 - (1))) (fun q1 => Option.bind (f_X10_undoes q1.1 v0 v1 v2 v5 v3 (v6 - (1)) v3 q1.2) (fun q2 => Option.bind (q_gR 9 22 q2.1 v0) (fun x3 => Option.bind (q_gR 9 22 q2.1 v0) (fun x4 => Option.bind (q_lI 0 q2.1 x4 v7) (fun x5 => Option.bind (q_gR 9 22 q2.1 v0) (fun x6 => Option.bind (q_lI 0 q2.1 x6 (v7 - (1))) (fun x7 => Option.bind (q_sI 0 id q2.1 x3 v7 (q_max x5 (x7 + q2.2))) (fun h8 => Option.bind (q_gR 9 23 h8 v0) (fun x9 => Option.bind (q_gR 9 23 h8 v0) (fun x10 => Option.bind (q_lI 0 h8 x10 v7) (fun x11 => Option.bind (q_gR 9 23 h8 v0) (fun x12 => Option.bind (q_lI 0 h8 x12 (v7 - (1))) (fun x13 => Option.bind (q_sI 0 id h8 x9 v7 (q_min x11 (x13 + q2.2))) (fun h14 => b_X10_worst_302 k48 k62 h14 v0 v1 v2 v3 v4 v5 v6))))))))))))))
def b_X10_worst_123 (k48 : q_H → Nat → Int32 → Int32 → Int32 → Int32 → Int32 → Option (q_H × Int32)) (k62 : q_H → Nat → Int32 → Int32 → Int32 → Int32 → Int32 → Int32 → Option (q_H × Int32)) (h : q_H) (v0 : Nat) (v1 : Int32) (v2 : Int32) (v3 : Int32) (v4 : Int32) (v5 : Int32) (v6 : Int32) (v7 : Int32) (s0 : Nat) (s1 : Int32) (s2 : Int32) : Option (q_H × Int32) :=
  Option.bind (q_sI 0 id h s0 s1 s2) (fun h15 => if v5 ≤ 0 then b_X10_worst_214 k48 k62 h15 v0 v1 v2 v3 v4 v5 v6 v7 else Option.bind (f_X10_letterOf h15 v2 v1 (v5 - (1))) (fun q16 => Option.bind (f_X10_undoes q16.1 v0 v1 v2 (v5 - (1)) v3 v6 v2 q16.2) (fun q17 => Option.bind (q_gR 9 22 q17.1 v0) (fun x18 => Option.bind (q_gR 9 22 q17.1 v0) (fun x19 => Option.bind (q_lI 0 q17.1 x19 v7) (fun x20 => Option.bind (q_gR 9 22 q17.1 v0) (fun x21 => Option.bind (q_lI 0 q17.1 x21 (v7 - v4)) (fun x22 => Option.bind (q_sI 0 id q17.1 x18 v7 (q_max x20 (x22 + q17.2))) (fun h23 => Option.bind (q_gR 9 23 h23 v0) (fun x24 => Option.bind (q_gR 9 23 h23 v0) (fun x25 => Option.bind (q_lI 0 h23 x25 v7) (fun x26 => Option.bind (q_gR 9 23 h23 v0) (fun x27 => Option.bind (q_lI 0 h23 x27 (v7 - v4)) (fun x28 => Option.bind (q_sI 0 id h23 x24 v7 (q_min x26 (x28 + q17.2))) (fun h29 => b_X10_worst_214 k48 k62 h29 v0 v1 v2 v3 v4 v5 v6 v7)))))))))))))))
def b_X10_worst_102 (k48 : q_H → Nat → Int32 → Int32 → Int32 → Int32 → Int32 → Option (q_H × Int32)) (k62 : q_H → Nat → Int32 → Int32 → Int32 → Int32 → Int32 → Int32 → Option (q_H × Int32)) (h : q_H) (v0 : Nat) (v1 : Int32) (v2 : Int32) (v3 : Int32) (v4 : Int32) (v5 : Int32) (v6 : Int32) (v7 : Int32) (s0 : Nat) (s1 : Int32) (s2 : Int32) : Option (q_H × Int32) :=
  Option.bind (q_sI 0 id h s0 s1 s2) (fun h30 => Option.bind (q_gR 9 23 h30 v0) (fun x31 => if (v5 + v6) = 0 then b_X10_worst_123 k48 k62 h30 v0 v1 v2 v3 v4 v5 v6 v7 x31 v7 (0) else b_X10_worst_123 k48 k62 h30 v0 v1 v2 v3 v4 v5 v6 v7 x31 v7 (1000000)))
def b_X10_worst_62 (k48 : q_H → Nat → Int32 → Int32 → Int32 → Int32 → Int32 → Option (q_H × Int32)) (k62 : q_H → Nat → Int32 → Int32 → Int32 → Int32 → Int32 → Int32 → Option (q_H × Int32)) (h : q_H) (v0 : Nat) (v1 : Int32) (v2 : Int32) (v3 : Int32) (v4 : Int32) (v5 : Int32) (v6 : Int32) : Option (q_H × Int32) :=
  Option.bind (f_X10_waiting h v0 v3 v1) (fun q32 => if q32.2 < v6 then k48 q32.1 v0 v1 v2 v3 v4 (v5 + 1) else Option.bind (q_gR 9 22 q32.1 v0) (fun x33 => if (v5 + v6) = 0 then b_X10_worst_102 k48 k62 q32.1 v0 v1 v2 v3 v4 v5 v6 ((v4 * v5) + v6) x33 ((v4 * v5) + v6) (0) else b_X10_worst_102 k48 k62 q32.1 v0 v1 v2 v3 v4 v5 v6 ((v4 * v5) + v6) x33 ((v4 * v5) + v6) (-1)))
def l_X10_worst_62 (k48 : q_H → Nat → Int32 → Int32 → Int32 → Int32 → Int32 → Option (q_H × Int32)) : Nat → q_H → Nat → Int32 → Int32 → Int32 → Int32 → Int32 → Int32 → Option (q_H × Int32)
  | 0, _, _, _, _, _, _, _, _ => none
  | n + 1, h, v0, v1, v2, v3, v4, v5, v6 => b_X10_worst_62 k48 (l_X10_worst_62 k48 n) h v0 v1 v2 v3 v4 v5 v6
def b_X10_worst_48 (k48 : q_H → Nat → Int32 → Int32 → Int32 → Int32 → Int32 → Option (q_H × Int32)) (h : q_H) (v0 : Nat) (v1 : Int32) (v2 : Int32) (v3 : Int32) (v4 : Int32) (v5 : Int32) : Option (q_H × Int32) :=
  Option.bind (f_X10_waiting h v0 v2 v1) (fun q34 => if q34.2 < v5 then Option.bind (f_X10_waiting q34.1 v0 v2 v1) (fun q35 => Option.bind (f_X10_waiting q35.1 v0 v3 v1) (fun q36 => Option.bind (q_p 9 1 q36.1 v0 (.int (0))) (fun h37 => Option.bind (q_gR 9 23 h37 v0) (fun x38 => Option.bind (q_lI 0 h37 x38 ((v4 * q35.2) + q36.2)) (fun x39 => Option.bind (f_X10_enters h37 v0 (Int32.toInt64 x39)) (fun q40 => Option.bind (f_X10_undoneAtOnce q40.1 v0 v1) (fun q41 => Option.bind (f_X10_enters q41.1 v0 (Int32.toInt64 q41.2)) (fun q42 => Option.bind (q_gR 9 22 q42.1 v0) (fun x43 => Option.bind (q_lI 0 q42.1 x43 ((v4 * q35.2) + q36.2)) (fun x44 => some (q42.1, x44))))))))))) else l_X10_worst_62 k48 q_FU q34.1 v0 v1 v2 v3 v4 v5 (0))
def l_X10_worst_48 : Nat → q_H → Nat → Int32 → Int32 → Int32 → Int32 → Int32 → Option (q_H × Int32)
  | 0, _, _, _, _, _, _, _ => none
  | n + 1, h, v0, v1, v2, v3, v4, v5 => b_X10_worst_48 (l_X10_worst_48 n) h v0 v1 v2 v3 v4 v5
def b_X10_worst_34 (h : q_H) (v0 : Nat) (v1 : Int32) (s0 : Int32) : Option (q_H × Int32) :=
  Option.bind (f_X10_third h s0 v1) (fun q45 => l_X10_worst_48 q_FU q45.1 v0 v1 s0 q45.2 (7) (0))
def b_X10_worst_0 (h : q_H) (v0 : Nat) (v1 : Int32) : Option (q_H × Int32) :=
  Option.bind (q_p 9 0 h v0 (.int (0))) (fun h46 => Option.bind (f_X10_isCopy h46 v1) (fun q47 => if q47.2 = 0 then some (q47.1, (-1)) else Option.bind (f_X10_waitingAll q47.1 v0 v1) (fun q48 => if q48.2 = 0 then some (q48.1, (-2)) else if v1 = 0 then b_X10_worst_34 q48.1 v0 v1 (1) else b_X10_worst_34 q48.1 v0 v1 (0))))
def f_X10_worst (h : q_H) (a0 : Nat) (a1 : Int32) : Option (q_H × Int32) := q_chk 9 h a0 (b_X10_worst_0 h a0 a1)
set_option maxRecDepth 20000 in
set_option maxHeartbeats 1000000 in
theorem jb_X10_worst_302 {G : q_G} {l : Launch} {k0 z0 : Nat} (k48 : q_H → Nat → Int32 → Int32 → Int32 → Int32 → Int32 → Option (q_H × Int32)) (k62 : q_H → Nat → Int32 → Int32 → Int32 → Int32 → Int32 → Int32 → Option (q_H × Int32)) (hk48 : ∀ (h : q_H) (v0 : Nat) (v1 : Int32) (v2 : Int32) (v3 : Int32) (v4 : Int32) (v5 : Int32), q_J G l (RX10, cX10_worst, 9, 5, 124, (some .int), "worst", []) k0 z0 (q_Z G k0 z0 q_i) 48 [(0, .ref v0), (1, .int v1), (2, .int v2), (3, .int v3), (4, .int v4), (5, .int v5)] [] h (k48 h v0 v1 v2 v3 v4 v5)) (hk62 : ∀ (h : q_H) (v0 : Nat) (v1 : Int32) (v2 : Int32) (v3 : Int32) (v4 : Int32) (v5 : Int32) (v6 : Int32), q_J G l (RX10, cX10_worst, 9, 5, 124, (some .int), "worst", []) k0 z0 (q_Z G k0 z0 q_i) 62 [(0, .ref v0), (1, .int v1), (2, .int v2), (3, .int v3), (4, .int v4), (5, .int v5), (6, .int v6)] [] h (k62 h v0 v1 v2 v3 v4 v5 v6)) (h : q_H) (v0 : Nat) (v1 : Int32) (v2 : Int32) (v3 : Int32) (v4 : Int32) (v5 : Int32) (v6 : Int32) : q_J G l (RX10, cX10_worst, 9, 5, 124, (some .int), "worst", []) k0 z0 (q_Z G k0 z0 q_i) 302 [(0, .ref v0), (1, .int v1), (2, .int v2), (3, .int v3), (4, .int v4), (5, .int v5), (6, .int v6)] [] h (b_X10_worst_302 k48 k62 h v0 v1 v2 v3 v4 v5 v6) := by
  unfold b_X10_worst_302
  refine j_inc (pc := 302) (p := 6) (lv' := [(6, .int (v6 + 1)), (0, .ref v0), (1, .int v1), (2, .int v2), (3, .int v3), (4, .int v4), (5, .int v5)]) rfl ki_1 (by decide) rfl dX10_worst_302 ?_
  refine j_goto (pc := 305) (tgt := 62) dX10_worst_305 (by decide) ?_
  refine j_sub [1, 2, 3, 4, 5, 6, 0] (lv' := [(0, .ref v0), (1, .int v1), (2, .int v2), (3, .int v3), (4, .int v4), (5, .int v5), (6, .int (v6 + 1))]) rfl ?_
  exact hk62 _ _ _ _ _ _ _ _
set_option maxRecDepth 20000 in
set_option maxHeartbeats 1000000 in
theorem jb_X10_worst_214 {G : q_G} {l : Launch} {k0 z0 : Nat} (k48 : q_H → Nat → Int32 → Int32 → Int32 → Int32 → Int32 → Option (q_H × Int32)) (k62 : q_H → Nat → Int32 → Int32 → Int32 → Int32 → Int32 → Int32 → Option (q_H × Int32)) (hk48 : ∀ (h : q_H) (v0 : Nat) (v1 : Int32) (v2 : Int32) (v3 : Int32) (v4 : Int32) (v5 : Int32), q_J G l (RX10, cX10_worst, 9, 5, 124, (some .int), "worst", []) k0 z0 (q_Z G k0 z0 q_i) 48 [(0, .ref v0), (1, .int v1), (2, .int v2), (3, .int v3), (4, .int v4), (5, .int v5)] [] h (k48 h v0 v1 v2 v3 v4 v5)) (hk62 : ∀ (h : q_H) (v0 : Nat) (v1 : Int32) (v2 : Int32) (v3 : Int32) (v4 : Int32) (v5 : Int32) (v6 : Int32), q_J G l (RX10, cX10_worst, 9, 5, 124, (some .int), "worst", []) k0 z0 (q_Z G k0 z0 q_i) 62 [(0, .ref v0), (1, .int v1), (2, .int v2), (3, .int v3), (4, .int v4), (5, .int v5), (6, .int v6)] [] h (k62 h v0 v1 v2 v3 v4 v5 v6)) (h : q_H) (v0 : Nat) (v1 : Int32) (v2 : Int32) (v3 : Int32) (v4 : Int32) (v5 : Int32) (v6 : Int32) (v7 : Int32) : q_J G l (RX10, cX10_worst, 9, 5, 124, (some .int), "worst", []) k0 z0 (q_Z G k0 z0 q_i) 214 [(0, .ref v0), (1, .int v1), (2, .int v2), (3, .int v3), (4, .int v4), (5, .int v5), (6, .int v6), (7, .int v7)] [] h (b_X10_worst_214 k48 k62 h v0 v1 v2 v3 v4 v5 v6 v7) := by
  unfold b_X10_worst_214
  refine j_iload (pc := 214) (p := 6) rfl dX10_worst_214 ?_
  refine j_if_le (pc := 216) (tgt := 302) dX10_worst_216 (by decide) (fun _ => ?_) (fun _ => ?_)
  · refine j_sub [0, 1, 2, 3, 4, 5, 6] (lv' := [(0, .ref v0), (1, .int v1), (2, .int v2), (3, .int v3), (4, .int v4), (5, .int v5), (6, .int v6)]) rfl ?_
    exact jb_X10_worst_302 k48 k62 hk48 hk62 _ _ _ _ _ _ _ _
  refine j_aload_n (pc := 219) (p := 0) rfl rfl dX10_worst_219 ?_
  refine j_iload_n (pc := 220) (p := 1) rfl rfl dX10_worst_220 ?_
  refine j_iload_n (pc := 221) (p := 2) rfl rfl dX10_worst_221 ?_
  refine j_iload (pc := 222) (p := 5) rfl dX10_worst_222 ?_
  refine j_iload_n (pc := 224) (p := 3) rfl rfl dX10_worst_224 ?_
  refine j_iload (pc := 225) (p := 6) rfl dX10_worst_225 ?_
  refine j_iconst (pc := 227) ki_1 dX10_worst_227 ?_
  refine j_isub (pc := 228) dX10_worst_228 ?_
  refine j_iload_n (pc := 229) (p := 3) rfl rfl dX10_worst_229 ?_
  refine j_iload_n (pc := 230) (p := 3) rfl rfl dX10_worst_230 ?_
  refine j_iload_n (pc := 231) (p := 1) rfl rfl dX10_worst_231 ?_
  refine j_iload (pc := 232) (p := 6) rfl dX10_worst_232 ?_
  refine j_iconst (pc := 234) ki_1 dX10_worst_234 ?_
  refine j_isub (pc := 235) dX10_worst_235 ?_
  refine j_cSi (pc := 236) Y_X10_letterOf ml_X10_176 sm_X10_letterOf ⟨Nat.le_of_ble_eq_true rfl, Nat.le_of_ble_eq_true rfl⟩ dX10_worst_236 (As := [.int v3, .int v1, .int (v6 - (1))]) (rest := [.int v3, .int (v6 - (1)), .int v3, .int v5, .int v2, .int v1, .ref v0]) rfl rfl (Nat.le_of_ble_eq_true rfl) (fun x hq9 => c_X10_letterOf _ _ _ _ _ hq9) (fun q1 _ => ?_)
  refine j_cVi (pc := 239) Y_X10_undoes (ci := 9) (b := v0) rfl rfl ml_X10_339 im_X10_undoes se_X10_undoes ⟨Nat.le_of_ble_eq_true rfl, Nat.le_of_ble_eq_true rfl⟩ dX10_worst_239 (As := [.int v1, .int v2, .int v5, .int v3, .int (v6 - (1)), .int v3, .int q1.2]) (rest := []) rfl rfl (Nat.le_of_ble_eq_true rfl) (fun x hq9 => c_X10_undoes _ _ _ _ _ _ _ _ _ _ hq9) (fun q2 _ => ?_)
  refine j_istore (pc := 242) (lv' := [(8, .int q2.2), (0, .ref v0), (1, .int v1), (2, .int v2), (3, .int v3), (4, .int v4), (5, .int v5), (6, .int v6), (7, .int v7)]) (by decide) rfl dX10_worst_242 ?_
  refine j_aload_n (pc := 244) (p := 1) rfl rfl dX10_worst_244 ?_
  refine j_getR (pc := 245) FI_X10 (k := 22) (by decide) fl_X10_81 dX10_worst_245 (fun x3 _ => ?_)
  refine j_iload (pc := 248) (p := 8) rfl dX10_worst_248 ?_
  refine j_aload_n (pc := 250) (p := 1) rfl rfl dX10_worst_250 ?_
  refine j_getR (pc := 251) FI_X10 (k := 22) (by decide) fl_X10_81 dX10_worst_251 (fun x4 _ => ?_)
  refine j_iload (pc := 254) (p := 8) rfl dX10_worst_254 ?_
  refine j_iald (pc := 256) dX10_worst_256 (fun x5 _ => ?_)
  refine j_aload_n (pc := 257) (p := 1) rfl rfl dX10_worst_257 ?_
  refine j_getR (pc := 258) FI_X10 (k := 22) (by decide) fl_X10_81 dX10_worst_258 (fun x6 _ => ?_)
  refine j_iload (pc := 261) (p := 8) rfl dX10_worst_261 ?_
  refine j_iconst (pc := 263) ki_1 dX10_worst_263 ?_
  refine j_isub (pc := 264) dX10_worst_264 ?_
  refine j_iald (pc := 265) dX10_worst_265 (fun x7 _ => ?_)
  refine j_iload (pc := 266) (p := 0) rfl dX10_worst_266 ?_
  refine j_iadd (pc := 268) dX10_worst_268 ?_
  refine j_max (pc := 269) ml_X10_209 sm_max ini_Math co_max ⟨Nat.le_of_ble_eq_true rfl, Nat.le_of_ble_eq_true rfl⟩ dX10_worst_269 ?_
  refine j_iast (pc := 272) dX10_worst_272 (fun h8 _ => ?_)
  refine j_aload_n (pc := 273) (p := 1) rfl rfl dX10_worst_273 ?_
  refine j_getR (pc := 274) FI_X10 (k := 23) (by decide) fl_X10_84 dX10_worst_274 (fun x9 _ => ?_)
  refine j_iload (pc := 277) (p := 8) rfl dX10_worst_277 ?_
  refine j_aload_n (pc := 279) (p := 1) rfl rfl dX10_worst_279 ?_
  refine j_getR (pc := 280) FI_X10 (k := 23) (by decide) fl_X10_84 dX10_worst_280 (fun x10 _ => ?_)
  refine j_iload (pc := 283) (p := 8) rfl dX10_worst_283 ?_
  refine j_iald (pc := 285) dX10_worst_285 (fun x11 _ => ?_)
  refine j_aload_n (pc := 286) (p := 1) rfl rfl dX10_worst_286 ?_
  refine j_getR (pc := 287) FI_X10 (k := 23) (by decide) fl_X10_84 dX10_worst_287 (fun x12 _ => ?_)
  refine j_iload (pc := 290) (p := 8) rfl dX10_worst_290 ?_
  refine j_iconst (pc := 292) ki_1 dX10_worst_292 ?_
  refine j_isub (pc := 293) dX10_worst_293 ?_
  refine j_iald (pc := 294) dX10_worst_294 (fun x13 _ => ?_)
  refine j_iload (pc := 295) (p := 0) rfl dX10_worst_295 ?_
  refine j_iadd (pc := 297) dX10_worst_297 ?_
  refine j_min (pc := 298) ml_X10_251 sm_min ini_Math co_min ⟨Nat.le_of_ble_eq_true rfl, Nat.le_of_ble_eq_true rfl⟩ dX10_worst_298 ?_
  refine j_iast (pc := 301) dX10_worst_301 (fun h14 _ => ?_)
  refine j_sub [1, 2, 3, 4, 5, 6, 7] (lv' := [(0, .ref v0), (1, .int v1), (2, .int v2), (3, .int v3), (4, .int v4), (5, .int v5), (6, .int v6)]) rfl ?_
  exact jb_X10_worst_302 k48 k62 hk48 hk62 _ _ _ _ _ _ _ _
set_option maxRecDepth 20000 in
set_option maxHeartbeats 1000000 in
theorem jb_X10_worst_123 {G : q_G} {l : Launch} {k0 z0 : Nat} (k48 : q_H → Nat → Int32 → Int32 → Int32 → Int32 → Int32 → Option (q_H × Int32)) (k62 : q_H → Nat → Int32 → Int32 → Int32 → Int32 → Int32 → Int32 → Option (q_H × Int32)) (hk48 : ∀ (h : q_H) (v0 : Nat) (v1 : Int32) (v2 : Int32) (v3 : Int32) (v4 : Int32) (v5 : Int32), q_J G l (RX10, cX10_worst, 9, 5, 124, (some .int), "worst", []) k0 z0 (q_Z G k0 z0 q_i) 48 [(0, .ref v0), (1, .int v1), (2, .int v2), (3, .int v3), (4, .int v4), (5, .int v5)] [] h (k48 h v0 v1 v2 v3 v4 v5)) (hk62 : ∀ (h : q_H) (v0 : Nat) (v1 : Int32) (v2 : Int32) (v3 : Int32) (v4 : Int32) (v5 : Int32) (v6 : Int32), q_J G l (RX10, cX10_worst, 9, 5, 124, (some .int), "worst", []) k0 z0 (q_Z G k0 z0 q_i) 62 [(0, .ref v0), (1, .int v1), (2, .int v2), (3, .int v3), (4, .int v4), (5, .int v5), (6, .int v6)] [] h (k62 h v0 v1 v2 v3 v4 v5 v6)) (h : q_H) (v0 : Nat) (v1 : Int32) (v2 : Int32) (v3 : Int32) (v4 : Int32) (v5 : Int32) (v6 : Int32) (v7 : Int32) (s0 : Nat) (s1 : Int32) (s2 : Int32) : q_J G l (RX10, cX10_worst, 9, 5, 124, (some .int), "worst", []) k0 z0 (q_Z G k0 z0 q_i) 123 [(0, .ref v0), (1, .int v1), (2, .int v2), (3, .int v3), (4, .int v4), (5, .int v5), (6, .int v6), (7, .int v7)] [.int s2, .int s1, .ref s0] h (b_X10_worst_123 k48 k62 h v0 v1 v2 v3 v4 v5 v6 v7 s0 s1 s2) := by
  unfold b_X10_worst_123
  refine j_iast (pc := 123) dX10_worst_123 (fun h15 _ => ?_)
  refine j_iload (pc := 124) (p := 5) rfl dX10_worst_124 ?_
  refine j_if_le (pc := 126) (tgt := 214) dX10_worst_126 (by decide) (fun _ => ?_) (fun _ => ?_)
  · exact jb_X10_worst_214 k48 k62 hk48 hk62 _ _ _ _ _ _ _ _ _
  refine j_aload_n (pc := 129) (p := 0) rfl rfl dX10_worst_129 ?_
  refine j_iload_n (pc := 130) (p := 1) rfl rfl dX10_worst_130 ?_
  refine j_iload_n (pc := 131) (p := 2) rfl rfl dX10_worst_131 ?_
  refine j_iload (pc := 132) (p := 5) rfl dX10_worst_132 ?_
  refine j_iconst (pc := 134) ki_1 dX10_worst_134 ?_
  refine j_isub (pc := 135) dX10_worst_135 ?_
  refine j_iload_n (pc := 136) (p := 3) rfl rfl dX10_worst_136 ?_
  refine j_iload (pc := 137) (p := 6) rfl dX10_worst_137 ?_
  refine j_iload_n (pc := 139) (p := 2) rfl rfl dX10_worst_139 ?_
  refine j_iload_n (pc := 140) (p := 2) rfl rfl dX10_worst_140 ?_
  refine j_iload_n (pc := 141) (p := 1) rfl rfl dX10_worst_141 ?_
  refine j_iload (pc := 142) (p := 5) rfl dX10_worst_142 ?_
  refine j_iconst (pc := 144) ki_1 dX10_worst_144 ?_
  refine j_isub (pc := 145) dX10_worst_145 ?_
  refine j_cSi (pc := 146) Y_X10_letterOf ml_X10_176 sm_X10_letterOf ⟨Nat.le_of_ble_eq_true rfl, Nat.le_of_ble_eq_true rfl⟩ dX10_worst_146 (As := [.int v2, .int v1, .int (v5 - (1))]) (rest := [.int v2, .int v6, .int v3, .int (v5 - (1)), .int v2, .int v1, .ref v0]) rfl rfl (Nat.le_of_ble_eq_true rfl) (fun x hq9 => c_X10_letterOf _ _ _ _ _ hq9) (fun q16 _ => ?_)
  refine j_cVi (pc := 149) Y_X10_undoes (ci := 9) (b := v0) rfl rfl ml_X10_339 im_X10_undoes se_X10_undoes ⟨Nat.le_of_ble_eq_true rfl, Nat.le_of_ble_eq_true rfl⟩ dX10_worst_149 (As := [.int v1, .int v2, .int (v5 - (1)), .int v3, .int v6, .int v2, .int q16.2]) (rest := []) rfl rfl (Nat.le_of_ble_eq_true rfl) (fun x hq9 => c_X10_undoes _ _ _ _ _ _ _ _ _ _ hq9) (fun q17 _ => ?_)
  refine j_istore (pc := 152) (lv' := [(8, .int q17.2), (0, .ref v0), (1, .int v1), (2, .int v2), (3, .int v3), (4, .int v4), (5, .int v5), (6, .int v6), (7, .int v7)]) (by decide) rfl dX10_worst_152 ?_
  refine j_aload_n (pc := 154) (p := 1) rfl rfl dX10_worst_154 ?_
  refine j_getR (pc := 155) FI_X10 (k := 22) (by decide) fl_X10_81 dX10_worst_155 (fun x18 _ => ?_)
  refine j_iload (pc := 158) (p := 8) rfl dX10_worst_158 ?_
  refine j_aload_n (pc := 160) (p := 1) rfl rfl dX10_worst_160 ?_
  refine j_getR (pc := 161) FI_X10 (k := 22) (by decide) fl_X10_81 dX10_worst_161 (fun x19 _ => ?_)
  refine j_iload (pc := 164) (p := 8) rfl dX10_worst_164 ?_
  refine j_iald (pc := 166) dX10_worst_166 (fun x20 _ => ?_)
  refine j_aload_n (pc := 167) (p := 1) rfl rfl dX10_worst_167 ?_
  refine j_getR (pc := 168) FI_X10 (k := 22) (by decide) fl_X10_81 dX10_worst_168 (fun x21 _ => ?_)
  refine j_iload (pc := 171) (p := 8) rfl dX10_worst_171 ?_
  refine j_iload (pc := 173) (p := 5) rfl dX10_worst_173 ?_
  refine j_isub (pc := 175) dX10_worst_175 ?_
  refine j_iald (pc := 176) dX10_worst_176 (fun x22 _ => ?_)
  refine j_iload (pc := 177) (p := 0) rfl dX10_worst_177 ?_
  refine j_iadd (pc := 179) dX10_worst_179 ?_
  refine j_max (pc := 180) ml_X10_209 sm_max ini_Math co_max ⟨Nat.le_of_ble_eq_true rfl, Nat.le_of_ble_eq_true rfl⟩ dX10_worst_180 ?_
  refine j_iast (pc := 183) dX10_worst_183 (fun h23 _ => ?_)
  refine j_aload_n (pc := 184) (p := 1) rfl rfl dX10_worst_184 ?_
  refine j_getR (pc := 185) FI_X10 (k := 23) (by decide) fl_X10_84 dX10_worst_185 (fun x24 _ => ?_)
  refine j_iload (pc := 188) (p := 8) rfl dX10_worst_188 ?_
  refine j_aload_n (pc := 190) (p := 1) rfl rfl dX10_worst_190 ?_
  refine j_getR (pc := 191) FI_X10 (k := 23) (by decide) fl_X10_84 dX10_worst_191 (fun x25 _ => ?_)
  refine j_iload (pc := 194) (p := 8) rfl dX10_worst_194 ?_
  refine j_iald (pc := 196) dX10_worst_196 (fun x26 _ => ?_)
  refine j_aload_n (pc := 197) (p := 1) rfl rfl dX10_worst_197 ?_
  refine j_getR (pc := 198) FI_X10 (k := 23) (by decide) fl_X10_84 dX10_worst_198 (fun x27 _ => ?_)
  refine j_iload (pc := 201) (p := 8) rfl dX10_worst_201 ?_
  refine j_iload (pc := 203) (p := 5) rfl dX10_worst_203 ?_
  refine j_isub (pc := 205) dX10_worst_205 ?_
  refine j_iald (pc := 206) dX10_worst_206 (fun x28 _ => ?_)
  refine j_iload (pc := 207) (p := 0) rfl dX10_worst_207 ?_
  refine j_iadd (pc := 209) dX10_worst_209 ?_
  refine j_min (pc := 210) ml_X10_251 sm_min ini_Math co_min ⟨Nat.le_of_ble_eq_true rfl, Nat.le_of_ble_eq_true rfl⟩ dX10_worst_210 ?_
  refine j_iast (pc := 213) dX10_worst_213 (fun h29 _ => ?_)
  refine j_sub [1, 2, 3, 4, 5, 6, 7, 8] (lv' := [(0, .ref v0), (1, .int v1), (2, .int v2), (3, .int v3), (4, .int v4), (5, .int v5), (6, .int v6), (7, .int v7)]) rfl ?_
  exact jb_X10_worst_214 k48 k62 hk48 hk62 _ _ _ _ _ _ _ _ _
set_option maxRecDepth 20000 in
set_option maxHeartbeats 1000000 in
theorem jb_X10_worst_102 {G : q_G} {l : Launch} {k0 z0 : Nat} (k48 : q_H → Nat → Int32 → Int32 → Int32 → Int32 → Int32 → Option (q_H × Int32)) (k62 : q_H → Nat → Int32 → Int32 → Int32 → Int32 → Int32 → Int32 → Option (q_H × Int32)) (hk48 : ∀ (h : q_H) (v0 : Nat) (v1 : Int32) (v2 : Int32) (v3 : Int32) (v4 : Int32) (v5 : Int32), q_J G l (RX10, cX10_worst, 9, 5, 124, (some .int), "worst", []) k0 z0 (q_Z G k0 z0 q_i) 48 [(0, .ref v0), (1, .int v1), (2, .int v2), (3, .int v3), (4, .int v4), (5, .int v5)] [] h (k48 h v0 v1 v2 v3 v4 v5)) (hk62 : ∀ (h : q_H) (v0 : Nat) (v1 : Int32) (v2 : Int32) (v3 : Int32) (v4 : Int32) (v5 : Int32) (v6 : Int32), q_J G l (RX10, cX10_worst, 9, 5, 124, (some .int), "worst", []) k0 z0 (q_Z G k0 z0 q_i) 62 [(0, .ref v0), (1, .int v1), (2, .int v2), (3, .int v3), (4, .int v4), (5, .int v5), (6, .int v6)] [] h (k62 h v0 v1 v2 v3 v4 v5 v6)) (h : q_H) (v0 : Nat) (v1 : Int32) (v2 : Int32) (v3 : Int32) (v4 : Int32) (v5 : Int32) (v6 : Int32) (v7 : Int32) (s0 : Nat) (s1 : Int32) (s2 : Int32) : q_J G l (RX10, cX10_worst, 9, 5, 124, (some .int), "worst", []) k0 z0 (q_Z G k0 z0 q_i) 102 [(0, .ref v0), (1, .int v1), (2, .int v2), (3, .int v3), (4, .int v4), (5, .int v5), (6, .int v6), (7, .int v7)] [.int s2, .int s1, .ref s0] h (b_X10_worst_102 k48 k62 h v0 v1 v2 v3 v4 v5 v6 v7 s0 s1 s2) := by
  unfold b_X10_worst_102
  refine j_iast (pc := 102) dX10_worst_102 (fun h30 _ => ?_)
  refine j_aload_n (pc := 103) (p := 0) rfl rfl dX10_worst_103 ?_
  refine j_getR (pc := 104) FI_X10 (k := 23) (by decide) fl_X10_84 dX10_worst_104 (fun x31 _ => ?_)
  refine j_iload (pc := 107) (p := 7) rfl dX10_worst_107 ?_
  refine j_iload (pc := 109) (p := 5) rfl dX10_worst_109 ?_
  refine j_iload (pc := 111) (p := 6) rfl dX10_worst_111 ?_
  refine j_iadd (pc := 113) dX10_worst_113 ?_
  refine j_if_ne (pc := 114) (tgt := 121) dX10_worst_114 (by decide) (fun _ => ?_) (fun _ => ?_)
  · refine j_iconst (pc := 117) ki_0 dX10_worst_117 ?_
    refine j_goto (pc := 118) (tgt := 123) dX10_worst_118 (by decide) ?_
    exact jb_X10_worst_123 k48 k62 hk48 hk62 _ _ _ _ _ _ _ _ _ _ _ _
  refine j_ldc (pc := 121) ct_X10_250 dX10_worst_121 ?_
  exact jb_X10_worst_123 k48 k62 hk48 hk62 _ _ _ _ _ _ _ _ _ _ _ _
set_option maxRecDepth 20000 in
set_option maxHeartbeats 1000000 in
theorem jb_X10_worst_62 {G : q_G} {l : Launch} {k0 z0 : Nat} (k48 : q_H → Nat → Int32 → Int32 → Int32 → Int32 → Int32 → Option (q_H × Int32)) (k62 : q_H → Nat → Int32 → Int32 → Int32 → Int32 → Int32 → Int32 → Option (q_H × Int32)) (hk48 : ∀ (h : q_H) (v0 : Nat) (v1 : Int32) (v2 : Int32) (v3 : Int32) (v4 : Int32) (v5 : Int32), q_J G l (RX10, cX10_worst, 9, 5, 124, (some .int), "worst", []) k0 z0 (q_Z G k0 z0 q_i) 48 [(0, .ref v0), (1, .int v1), (2, .int v2), (3, .int v3), (4, .int v4), (5, .int v5)] [] h (k48 h v0 v1 v2 v3 v4 v5)) (hk62 : ∀ (h : q_H) (v0 : Nat) (v1 : Int32) (v2 : Int32) (v3 : Int32) (v4 : Int32) (v5 : Int32) (v6 : Int32), q_J G l (RX10, cX10_worst, 9, 5, 124, (some .int), "worst", []) k0 z0 (q_Z G k0 z0 q_i) 62 [(0, .ref v0), (1, .int v1), (2, .int v2), (3, .int v3), (4, .int v4), (5, .int v5), (6, .int v6)] [] h (k62 h v0 v1 v2 v3 v4 v5 v6)) (h : q_H) (v0 : Nat) (v1 : Int32) (v2 : Int32) (v3 : Int32) (v4 : Int32) (v5 : Int32) (v6 : Int32) : q_J G l (RX10, cX10_worst, 9, 5, 124, (some .int), "worst", []) k0 z0 (q_Z G k0 z0 q_i) 62 [(0, .ref v0), (1, .int v1), (2, .int v2), (3, .int v3), (4, .int v4), (5, .int v5), (6, .int v6)] [] h (b_X10_worst_62 k48 k62 h v0 v1 v2 v3 v4 v5 v6) := by
  unfold b_X10_worst_62
  refine j_iload (pc := 62) (p := 6) rfl dX10_worst_62 ?_
  refine j_aload_n (pc := 64) (p := 0) rfl rfl dX10_worst_64 ?_
  refine j_iload_n (pc := 65) (p := 3) rfl rfl dX10_worst_65 ?_
  refine j_iload_n (pc := 66) (p := 1) rfl rfl dX10_worst_66 ?_
  refine j_cVi (pc := 67) Y_X10_waiting (ci := 9) (b := v0) rfl rfl ml_X10_173 im_X10_waiting se_X10_waiting ⟨Nat.le_of_ble_eq_true rfl, Nat.le_of_ble_eq_true rfl⟩ dX10_worst_67 (As := [.int v3, .int v1]) (rest := [.int v6]) rfl rfl (Nat.le_of_ble_eq_true rfl) (fun x hq9 => c_X10_waiting _ _ _ _ _ hq9) (fun q32 _ => ?_)
  refine j_ic_gt (pc := 70) (tgt := 308) dX10_worst_70 (by decide) (fun _ => ?_) (fun _ => ?_)
  · refine j_inc (pc := 308) (p := 5) (lv' := [(5, .int (v5 + 1)), (0, .ref v0), (1, .int v1), (2, .int v2), (3, .int v3), (4, .int v4), (6, .int v6)]) rfl ki_1 (by decide) rfl dX10_worst_308 ?_
    refine j_goto (pc := 311) (tgt := 48) dX10_worst_311 (by decide) ?_
    refine j_sub [1, 2, 3, 4, 5, 0] (lv' := [(0, .ref v0), (1, .int v1), (2, .int v2), (3, .int v3), (4, .int v4), (5, .int (v5 + 1))]) rfl ?_
    exact hk48 _ _ _ _ _ _ _
  refine j_iload (pc := 73) (p := 4) rfl dX10_worst_73 ?_
  refine j_iload (pc := 75) (p := 5) rfl dX10_worst_75 ?_
  refine j_imul (pc := 77) dX10_worst_77 ?_
  refine j_iload (pc := 78) (p := 6) rfl dX10_worst_78 ?_
  refine j_iadd (pc := 80) dX10_worst_80 ?_
  refine j_istore (pc := 81) (lv' := [(7, .int ((v4 * v5) + v6)), (0, .ref v0), (1, .int v1), (2, .int v2), (3, .int v3), (4, .int v4), (5, .int v5), (6, .int v6)]) (by decide) rfl dX10_worst_81 ?_
  refine j_aload_n (pc := 83) (p := 1) rfl rfl dX10_worst_83 ?_
  refine j_getR (pc := 84) FI_X10 (k := 22) (by decide) fl_X10_81 dX10_worst_84 (fun x33 _ => ?_)
  refine j_iload (pc := 87) (p := 0) rfl dX10_worst_87 ?_
  refine j_iload (pc := 89) (p := 6) rfl dX10_worst_89 ?_
  refine j_iload (pc := 91) (p := 7) rfl dX10_worst_91 ?_
  refine j_iadd (pc := 93) dX10_worst_93 ?_
  refine j_if_ne (pc := 94) (tgt := 101) dX10_worst_94 (by decide) (fun _ => ?_) (fun _ => ?_)
  · refine j_iconst (pc := 97) ki_0 dX10_worst_97 ?_
    refine j_goto (pc := 98) (tgt := 102) dX10_worst_98 (by decide) ?_
    refine j_sub [1, 2, 3, 4, 5, 6, 7, 0] (lv' := [(0, .ref v0), (1, .int v1), (2, .int v2), (3, .int v3), (4, .int v4), (5, .int v5), (6, .int v6), (7, .int ((v4 * v5) + v6))]) rfl ?_
    exact jb_X10_worst_102 k48 k62 hk48 hk62 _ _ _ _ _ _ _ _ _ _ _ _
  refine j_iconst (pc := 101) ki_m1 dX10_worst_101 ?_
  refine j_sub [1, 2, 3, 4, 5, 6, 7, 0] (lv' := [(0, .ref v0), (1, .int v1), (2, .int v2), (3, .int v3), (4, .int v4), (5, .int v5), (6, .int v6), (7, .int ((v4 * v5) + v6))]) rfl ?_
  exact jb_X10_worst_102 k48 k62 hk48 hk62 _ _ _ _ _ _ _ _ _ _ _ _
set_option maxRecDepth 20000 in
set_option maxHeartbeats 1000000 in
theorem jl_X10_worst_62 {G : q_G} {l : Launch} {k0 z0 : Nat} (k48 : q_H → Nat → Int32 → Int32 → Int32 → Int32 → Int32 → Option (q_H × Int32)) (hk48 : ∀ (h : q_H) (v0 : Nat) (v1 : Int32) (v2 : Int32) (v3 : Int32) (v4 : Int32) (v5 : Int32), q_J G l (RX10, cX10_worst, 9, 5, 124, (some .int), "worst", []) k0 z0 (q_Z G k0 z0 q_i) 48 [(0, .ref v0), (1, .int v1), (2, .int v2), (3, .int v3), (4, .int v4), (5, .int v5)] [] h (k48 h v0 v1 v2 v3 v4 v5)) (n : Nat) : ∀ (h : q_H) (v0 : Nat) (v1 : Int32) (v2 : Int32) (v3 : Int32) (v4 : Int32) (v5 : Int32) (v6 : Int32), q_J G l (RX10, cX10_worst, 9, 5, 124, (some .int), "worst", []) k0 z0 (q_Z G k0 z0 q_i) 62 [(0, .ref v0), (1, .int v1), (2, .int v2), (3, .int v3), (4, .int v4), (5, .int v5), (6, .int v6)] [] h (l_X10_worst_62 k48 n h v0 v1 v2 v3 v4 v5 v6) := by
  induction n with
  | zero => intro h v0 v1 v2 v3 v4 v5 v6; exact j_none
  | succ n ih => intro h v0 v1 v2 v3 v4 v5 v6; exact jb_X10_worst_62 k48 (l_X10_worst_62 k48 n) hk48 ih h v0 v1 v2 v3 v4 v5 v6
set_option maxRecDepth 20000 in
set_option maxHeartbeats 1000000 in
theorem jb_X10_worst_48 {G : q_G} {l : Launch} {k0 z0 : Nat} (k48 : q_H → Nat → Int32 → Int32 → Int32 → Int32 → Int32 → Option (q_H × Int32)) (hk48 : ∀ (h : q_H) (v0 : Nat) (v1 : Int32) (v2 : Int32) (v3 : Int32) (v4 : Int32) (v5 : Int32), q_J G l (RX10, cX10_worst, 9, 5, 124, (some .int), "worst", []) k0 z0 (q_Z G k0 z0 q_i) 48 [(0, .ref v0), (1, .int v1), (2, .int v2), (3, .int v3), (4, .int v4), (5, .int v5)] [] h (k48 h v0 v1 v2 v3 v4 v5)) (h : q_H) (v0 : Nat) (v1 : Int32) (v2 : Int32) (v3 : Int32) (v4 : Int32) (v5 : Int32) : q_J G l (RX10, cX10_worst, 9, 5, 124, (some .int), "worst", []) k0 z0 (q_Z G k0 z0 q_i) 48 [(0, .ref v0), (1, .int v1), (2, .int v2), (3, .int v3), (4, .int v4), (5, .int v5)] [] h (b_X10_worst_48 k48 h v0 v1 v2 v3 v4 v5) := by
  unfold b_X10_worst_48
  refine j_iload (pc := 48) (p := 5) rfl dX10_worst_48 ?_
  refine j_aload_n (pc := 50) (p := 0) rfl rfl dX10_worst_50 ?_
  refine j_iload_n (pc := 51) (p := 2) rfl rfl dX10_worst_51 ?_
  refine j_iload_n (pc := 52) (p := 1) rfl rfl dX10_worst_52 ?_
  refine j_cVi (pc := 53) Y_X10_waiting (ci := 9) (b := v0) rfl rfl ml_X10_173 im_X10_waiting se_X10_waiting ⟨Nat.le_of_ble_eq_true rfl, Nat.le_of_ble_eq_true rfl⟩ dX10_worst_53 (As := [.int v2, .int v1]) (rest := [.int v5]) rfl rfl (Nat.le_of_ble_eq_true rfl) (fun x hq9 => c_X10_waiting _ _ _ _ _ hq9) (fun q34 _ => ?_)
  refine j_ic_gt (pc := 56) (tgt := 314) dX10_worst_56 (by decide) (fun _ => ?_) (fun _ => ?_)
  · refine j_iload (pc := 314) (p := 4) rfl dX10_worst_314 ?_
    refine j_aload_n (pc := 316) (p := 0) rfl rfl dX10_worst_316 ?_
    refine j_iload_n (pc := 317) (p := 2) rfl rfl dX10_worst_317 ?_
    refine j_iload_n (pc := 318) (p := 1) rfl rfl dX10_worst_318 ?_
    refine j_cVi (pc := 319) Y_X10_waiting (ci := 9) (b := v0) rfl rfl ml_X10_173 im_X10_waiting se_X10_waiting ⟨Nat.le_of_ble_eq_true rfl, Nat.le_of_ble_eq_true rfl⟩ dX10_worst_319 (As := [.int v2, .int v1]) (rest := [.int v4]) rfl rfl (Nat.le_of_ble_eq_true rfl) (fun x hq9 => c_X10_waiting _ _ _ _ _ hq9) (fun q35 _ => ?_)
    refine j_imul (pc := 322) dX10_worst_322 ?_
    refine j_aload_n (pc := 323) (p := 0) rfl rfl dX10_worst_323 ?_
    refine j_iload_n (pc := 324) (p := 3) rfl rfl dX10_worst_324 ?_
    refine j_iload_n (pc := 325) (p := 1) rfl rfl dX10_worst_325 ?_
    refine j_cVi (pc := 326) Y_X10_waiting (ci := 9) (b := v0) rfl rfl ml_X10_173 im_X10_waiting se_X10_waiting ⟨Nat.le_of_ble_eq_true rfl, Nat.le_of_ble_eq_true rfl⟩ dX10_worst_326 (As := [.int v3, .int v1]) (rest := [.int (v4 * q35.2)]) rfl rfl (Nat.le_of_ble_eq_true rfl) (fun x hq9 => c_X10_waiting _ _ _ _ _ hq9) (fun q36 _ => ?_)
    refine j_iadd (pc := 329) dX10_worst_329 ?_
    refine j_istore (pc := 330) (lv' := [(5, .int ((v4 * q35.2) + q36.2)), (0, .ref v0), (1, .int v1), (2, .int v2), (3, .int v3), (4, .int v4)]) (by decide) rfl dX10_worst_330 ?_
    refine j_aload_n (pc := 332) (p := 1) rfl rfl dX10_worst_332 ?_
    refine j_iconst (pc := 333) ki_0 dX10_worst_333 ?_
    refine j_put (pc := 334) FI_X10 (k := 1) (by decide) fl_X10_11 rfl rfl rfl dX10_worst_334 (fun h37 _ => ?_)
    refine j_aload_n (pc := 337) (p := 1) rfl rfl dX10_worst_337 ?_
    refine j_aload_n (pc := 338) (p := 1) rfl rfl dX10_worst_338 ?_
    refine j_getR (pc := 339) FI_X10 (k := 23) (by decide) fl_X10_84 dX10_worst_339 (fun x38 _ => ?_)
    refine j_iload (pc := 342) (p := 0) rfl dX10_worst_342 ?_
    refine j_iald (pc := 344) dX10_worst_344 (fun x39 _ => ?_)
    refine j_i2l (pc := 345) dX10_worst_345 ?_
    refine j_cVu (pc := 346) Y_X10_enters (ci := 9) (b := v0) rfl rfl ml_X10_202 im_X10_enters se_X10_enters ⟨Nat.le_of_ble_eq_true rfl, Nat.le_of_ble_eq_true rfl⟩ dX10_worst_346 (As := [.long (Int32.toInt64 x39)]) (rest := []) rfl rfl (Nat.le_of_ble_eq_true rfl) (fun x hq9 => c_X10_enters _ _ _ _ hq9) (fun q40 _ => ?_)
    refine j_aload_n (pc := 349) (p := 1) rfl rfl dX10_worst_349 ?_
    refine j_aload_n (pc := 350) (p := 1) rfl rfl dX10_worst_350 ?_
    refine j_iload_n (pc := 351) (p := 2) rfl rfl dX10_worst_351 ?_
    refine j_cVi (pc := 352) Y_X10_undoneAtOnce (ci := 9) (b := v0) rfl rfl ml_X10_241 im_X10_undoneAtOnce se_X10_undoneAtOnce ⟨Nat.le_of_ble_eq_true rfl, Nat.le_of_ble_eq_true rfl⟩ dX10_worst_352 (As := [.int v1]) (rest := [.ref v0]) rfl rfl (Nat.le_of_ble_eq_true rfl) (fun x hq9 => c_X10_undoneAtOnce _ _ _ _ hq9) (fun q41 _ => ?_)
    refine j_i2l (pc := 355) dX10_worst_355 ?_
    refine j_cVu (pc := 356) Y_X10_enters (ci := 9) (b := v0) rfl rfl ml_X10_202 im_X10_enters se_X10_enters ⟨Nat.le_of_ble_eq_true rfl, Nat.le_of_ble_eq_true rfl⟩ dX10_worst_356 (As := [.long (Int32.toInt64 q41.2)]) (rest := []) rfl rfl (Nat.le_of_ble_eq_true rfl) (fun x hq9 => c_X10_enters _ _ _ _ hq9) (fun q42 _ => ?_)
    refine j_aload_n (pc := 359) (p := 1) rfl rfl dX10_worst_359 ?_
    refine j_getR (pc := 360) FI_X10 (k := 22) (by decide) fl_X10_81 dX10_worst_360 (fun x43 _ => ?_)
    refine j_iload (pc := 363) (p := 0) rfl dX10_worst_363 ?_
    refine j_iald (pc := 365) dX10_worst_365 (fun x44 _ => ?_)
    exact j_iret (pc := 366) rfl dX10_worst_366
  refine j_iconst (pc := 59) ki_0 dX10_worst_59 ?_
  refine j_istore (pc := 60) (lv' := [(6, .int (0)), (0, .ref v0), (1, .int v1), (2, .int v2), (3, .int v3), (4, .int v4), (5, .int v5)]) (by decide) rfl dX10_worst_60 ?_
  refine j_sub [1, 2, 3, 4, 5, 6, 0] (lv' := [(0, .ref v0), (1, .int v1), (2, .int v2), (3, .int v3), (4, .int v4), (5, .int v5), (6, .int (0))]) rfl ?_
  exact jl_X10_worst_62 k48 hk48 q_FU _ _ _ _ _ _ _ _
set_option maxRecDepth 20000 in
set_option maxHeartbeats 1000000 in
theorem jl_X10_worst_48 {G : q_G} {l : Launch} {k0 z0 : Nat} (n : Nat) : ∀ (h : q_H) (v0 : Nat) (v1 : Int32) (v2 : Int32) (v3 : Int32) (v4 : Int32) (v5 : Int32), q_J G l (RX10, cX10_worst, 9, 5, 124, (some .int), "worst", []) k0 z0 (q_Z G k0 z0 q_i) 48 [(0, .ref v0), (1, .int v1), (2, .int v2), (3, .int v3), (4, .int v4), (5, .int v5)] [] h (l_X10_worst_48 n h v0 v1 v2 v3 v4 v5) := by
  induction n with
  | zero => intro h v0 v1 v2 v3 v4 v5; exact j_none
  | succ n ih => intro h v0 v1 v2 v3 v4 v5; exact jb_X10_worst_48 (l_X10_worst_48 n) ih h v0 v1 v2 v3 v4 v5
set_option maxRecDepth 20000 in
set_option maxHeartbeats 1000000 in
theorem jb_X10_worst_34 {G : q_G} {l : Launch} {k0 z0 : Nat} (h : q_H) (v0 : Nat) (v1 : Int32) (s0 : Int32) : q_J G l (RX10, cX10_worst, 9, 5, 124, (some .int), "worst", []) k0 z0 (q_Z G k0 z0 q_i) 34 [(0, .ref v0), (1, .int v1)] [.int s0] h (b_X10_worst_34 h v0 v1 s0) := by
  unfold b_X10_worst_34
  refine j_istore_n (pc := 34) (lv' := [(2, .int s0), (0, .ref v0), (1, .int v1)]) rfl (by decide) rfl dX10_worst_34 ?_
  refine j_iload_n (pc := 35) (p := 0) rfl rfl dX10_worst_35 ?_
  refine j_iload_n (pc := 36) (p := 2) rfl rfl dX10_worst_36 ?_
  refine j_cSi (pc := 37) Y_X10_third ml_X10_336 sm_X10_third ⟨Nat.le_of_ble_eq_true rfl, Nat.le_of_ble_eq_true rfl⟩ dX10_worst_37 (As := [.int s0, .int v1]) (rest := []) rfl rfl (Nat.le_of_ble_eq_true rfl) (fun x hq9 => c_X10_third _ _ _ _ hq9) (fun q45 _ => ?_)
  refine j_istore_n (pc := 40) (lv' := [(3, .int q45.2), (2, .int s0), (0, .ref v0), (1, .int v1)]) rfl (by decide) rfl dX10_worst_40 ?_
  refine j_bipush (pc := 41) kb_7 dX10_worst_41 ?_
  refine j_istore (pc := 43) (lv' := [(4, .int (7)), (3, .int q45.2), (2, .int s0), (0, .ref v0), (1, .int v1)]) (by decide) rfl dX10_worst_43 ?_
  refine j_iconst (pc := 45) ki_0 dX10_worst_45 ?_
  refine j_istore (pc := 46) (lv' := [(5, .int (0)), (4, .int (7)), (3, .int q45.2), (2, .int s0), (0, .ref v0), (1, .int v1)]) (by decide) rfl dX10_worst_46 ?_
  refine j_sub [4, 5, 3, 2, 1, 0] (lv' := [(0, .ref v0), (1, .int v1), (2, .int s0), (3, .int q45.2), (4, .int (7)), (5, .int (0))]) rfl ?_
  exact jl_X10_worst_48 q_FU _ _ _ _ _ _ _
set_option maxRecDepth 20000 in
set_option maxHeartbeats 1000000 in
theorem jb_X10_worst_0 {G : q_G} {l : Launch} {k0 z0 : Nat} (h : q_H) (v0 : Nat) (v1 : Int32) : q_J G l (RX10, cX10_worst, 9, 5, 124, (some .int), "worst", []) k0 z0 (q_Z G k0 z0 q_i) 0 [(0, .ref v0), (1, .int v1)] [] h (b_X10_worst_0 h v0 v1) := by
  unfold b_X10_worst_0
  refine j_aload_n (pc := 0) (p := 0) rfl rfl dX10_worst_0 ?_
  refine j_iconst (pc := 1) ki_0 dX10_worst_1 ?_
  refine j_put (pc := 2) FI_X10 (k := 0) (by decide) fl_X10_1 rfl rfl rfl dX10_worst_2 (fun h46 _ => ?_)
  refine j_iload_n (pc := 5) (p := 1) rfl rfl dX10_worst_5 ?_
  refine j_cSi (pc := 6) Y_X10_isCopy ml_X10_101 sm_X10_isCopy ⟨Nat.le_of_ble_eq_true rfl, Nat.le_of_ble_eq_true rfl⟩ dX10_worst_6 (As := [.int v1]) (rest := []) rfl rfl (Nat.le_of_ble_eq_true rfl) (fun x hq9 => c_X10_isCopy _ _ _ hq9) (fun q47 _ => ?_)
  refine j_if_ne (pc := 9) (tgt := 14) dX10_worst_9 (by decide) (fun _ => ?_) (fun _ => ?_)
  · refine j_iconst (pc := 12) ki_m1 dX10_worst_12 ?_
    exact j_iret (pc := 13) rfl dX10_worst_13
  refine j_aload_n (pc := 14) (p := 0) rfl rfl dX10_worst_14 ?_
  refine j_iload_n (pc := 15) (p := 1) rfl rfl dX10_worst_15 ?_
  refine j_cVi (pc := 16) Y_X10_waitingAll (ci := 9) (b := v0) rfl rfl ml_X10_235 im_X10_waitingAll se_X10_waitingAll ⟨Nat.le_of_ble_eq_true rfl, Nat.le_of_ble_eq_true rfl⟩ dX10_worst_16 (As := [.int v1]) (rest := []) rfl rfl (Nat.le_of_ble_eq_true rfl) (fun x hq9 => c_X10_waitingAll _ _ _ _ hq9) (fun q48 _ => ?_)
  refine j_if_ne (pc := 19) (tgt := 25) dX10_worst_19 (by decide) (fun _ => ?_) (fun _ => ?_)
  · refine j_bipush (pc := 22) kb_m2 dX10_worst_22 ?_
    exact j_iret (pc := 24) rfl dX10_worst_24
  refine j_iload_n (pc := 25) (p := 1) rfl rfl dX10_worst_25 ?_
  refine j_if_ne (pc := 26) (tgt := 33) dX10_worst_26 (by decide) (fun _ => ?_) (fun _ => ?_)
  · refine j_iconst (pc := 29) ki_1 dX10_worst_29 ?_
    refine j_goto (pc := 30) (tgt := 34) dX10_worst_30 (by decide) ?_
    exact jb_X10_worst_34 _ _ _ _
  refine j_iconst (pc := 33) ki_0 dX10_worst_33 ?_
  exact jb_X10_worst_34 _ _ _ _
set_option maxRecDepth 20000 in
set_option maxHeartbeats 1000000 in
theorem c_X10_worst {G : q_G} {l : Launch} : ∀ (h : q_H) (a0 : Nat) (a1 : Int32) (q : q_H × Int32), f_X10_worst h a0 a1 = some q → (∃ fs, h.1 a0 = .inr (9, fs)) ∧ q_CT G l yX10_worst cX10_worst 9 (some .int) 5 124 [.ref a0, .int a1] h q.1 (q_i q.2) := by
  intro h a0 a1 q e
  obtain ⟨e1, e2⟩ := q_chk_ok e
  exact ⟨e1, q_ofJ Y_X10_worst (Nat.le_of_ble_eq_true rfl) (jb_X10_worst_0 h a0 a1) q e2⟩
/-! FarFoldersModel.years(II)I -/
theorem dX10_years_0 : decode cX10_years 0 = .ok (.aload_n 0, 1) := by decide +kernel
theorem dX10_years_1 : decode cX10_years 1 = .ok (.iconst 0, 1) := by decide +kernel
theorem dX10_years_2 : decode cX10_years 2 = .ok (.putfield 1, 3) := by decide +kernel
theorem dX10_years_5 : decode cX10_years 5 = .ok (.iload_n 2, 1) := by decide +kernel
theorem dX10_years_6 : decode cX10_years 6 = .ok (.i2l, 1) := by decide +kernel
theorem dX10_years_7 : decode cX10_years 7 = .ok (.lconst 1, 1) := by decide +kernel
theorem dX10_years_8 : decode cX10_years 8 = .ok (.ldc2_w 357, 3) := by decide +kernel
theorem dX10_years_11 : decode cX10_years 11 = .ok (.invokestatic 21, 3) := by decide +kernel
theorem dX10_years_14 : decode cX10_years 14 = .ok (.ifCond .ne 5, 3) := by decide +kernel
theorem dX10_years_17 : decode cX10_years 17 = .ok (.iconst (-1), 1) := by decide +kernel
theorem dX10_years_18 : decode cX10_years 18 = .ok (.ireturn, 1) := by decide +kernel
theorem dX10_years_19 : decode cX10_years 19 = .ok (.aload_n 0, 1) := by decide +kernel
theorem dX10_years_20 : decode cX10_years 20 = .ok (.iload_n 1, 1) := by decide +kernel
theorem dX10_years_21 : decode cX10_years 21 = .ok (.putfield 350, 3) := by decide +kernel
theorem dX10_years_24 : decode cX10_years 24 = .ok (.aload_n 0, 1) := by decide +kernel
theorem dX10_years_25 : decode cX10_years 25 = .ok (.iconst 0, 1) := by decide +kernel
theorem dX10_years_26 : decode cX10_years 26 = .ok (.iconst 3, 1) := by decide +kernel
theorem dX10_years_27 : decode cX10_years 27 = .ok (.invokevirtual 359, 3) := by decide +kernel
theorem dX10_years_30 : decode cX10_years 30 = .ok (.iconst 0, 1) := by decide +kernel
theorem dX10_years_31 : decode cX10_years 31 = .ok (.istore_n 3, 1) := by decide +kernel
theorem dX10_years_32 : decode cX10_years 32 = .ok (.iload_n 3, 1) := by decide +kernel
theorem dX10_years_33 : decode cX10_years 33 = .ok (.iload_n 2, 1) := by decide +kernel
theorem dX10_years_34 : decode cX10_years 34 = .ok (.if_icmp .ge 13, 3) := by decide +kernel
theorem dX10_years_37 : decode cX10_years 37 = .ok (.aload_n 0, 1) := by decide +kernel
theorem dX10_years_38 : decode cX10_years 38 = .ok (.invokevirtual 362, 3) := by decide +kernel
theorem dX10_years_41 : decode cX10_years 41 = .ok (.iinc 3 1, 3) := by decide +kernel
theorem dX10_years_44 : decode cX10_years 44 = .ok (.goto (-12), 3) := by decide +kernel
theorem dX10_years_47 : decode cX10_years 47 = .ok (.iconst 0, 1) := by decide +kernel
theorem dX10_years_48 : decode cX10_years 48 = .ok (.istore_n 3, 1) := by decide +kernel
theorem dX10_years_49 : decode cX10_years 49 = .ok (.iconst 0, 1) := by decide +kernel
theorem dX10_years_50 : decode cX10_years 50 = .ok (.istore 4, 2) := by decide +kernel
theorem dX10_years_52 : decode cX10_years 52 = .ok (.iload 4, 2) := by decide +kernel
theorem dX10_years_54 : decode cX10_years 54 = .ok (.iconst 3, 1) := by decide +kernel
theorem dX10_years_55 : decode cX10_years 55 = .ok (.if_icmp .ge 23, 3) := by decide +kernel
theorem dX10_years_58 : decode cX10_years 58 = .ok (.iload_n 3, 1) := by decide +kernel
theorem dX10_years_59 : decode cX10_years 59 = .ok (.aload_n 0, 1) := by decide +kernel
theorem dX10_years_60 : decode cX10_years 60 = .ok (.getfield 47, 3) := by decide +kernel
theorem dX10_years_63 : decode cX10_years 63 = .ok (.sipush 180, 3) := by decide +kernel
theorem dX10_years_66 : decode cX10_years 66 = .ok (.iload 4, 2) := by decide +kernel
theorem dX10_years_68 : decode cX10_years 68 = .ok (.iadd, 1) := by decide +kernel
theorem dX10_years_69 : decode cX10_years 69 = .ok (.iaload, 1) := by decide +kernel
theorem dX10_years_70 : decode cX10_years 70 = .ok (.iadd, 1) := by decide +kernel
theorem dX10_years_71 : decode cX10_years 71 = .ok (.istore_n 3, 1) := by decide +kernel
theorem dX10_years_72 : decode cX10_years 72 = .ok (.iinc 4 1, 3) := by decide +kernel
theorem dX10_years_75 : decode cX10_years 75 = .ok (.goto (-23), 3) := by decide +kernel
theorem dX10_years_78 : decode cX10_years 78 = .ok (.aload_n 0, 1) := by decide +kernel
theorem dX10_years_79 : decode cX10_years 79 = .ok (.iconst 0, 1) := by decide +kernel
theorem dX10_years_80 : decode cX10_years 80 = .ok (.iconst 0, 1) := by decide +kernel
theorem dX10_years_81 : decode cX10_years 81 = .ok (.invokevirtual 164, 3) := by decide +kernel
theorem dX10_years_84 : decode cX10_years 84 = .ok (.aload_n 0, 1) := by decide +kernel
theorem dX10_years_85 : decode cX10_years 85 = .ok (.iconst 1, 1) := by decide +kernel
theorem dX10_years_86 : decode cX10_years 86 = .ok (.iconst 1, 1) := by decide +kernel
theorem dX10_years_87 : decode cX10_years 87 = .ok (.invokevirtual 164, 3) := by decide +kernel
theorem dX10_years_90 : decode cX10_years 90 = .ok (.aload_n 0, 1) := by decide +kernel
theorem dX10_years_91 : decode cX10_years 91 = .ok (.iconst 0, 1) := by decide +kernel
theorem dX10_years_92 : decode cX10_years 92 = .ok (.putfield 11, 3) := by decide +kernel
theorem dX10_years_95 : decode cX10_years 95 = .ok (.aload_n 0, 1) := by decide +kernel
theorem dX10_years_96 : decode cX10_years 96 = .ok (.aload_n 0, 1) := by decide +kernel
theorem dX10_years_97 : decode cX10_years 97 = .ok (.iconst 0, 1) := by decide +kernel
theorem dX10_years_98 : decode cX10_years 98 = .ok (.iconst 1, 1) := by decide +kernel
theorem dX10_years_99 : decode cX10_years 99 = .ok (.invokevirtual 152, 3) := by decide +kernel
theorem dX10_years_102 : decode cX10_years 102 = .ok (.i2l, 1) := by decide +kernel
theorem dX10_years_103 : decode cX10_years 103 = .ok (.invokevirtual 202, 3) := by decide +kernel
theorem dX10_years_106 : decode cX10_years 106 = .ok (.aload_n 0, 1) := by decide +kernel
theorem dX10_years_107 : decode cX10_years 107 = .ok (.iconst 0, 1) := by decide +kernel
theorem dX10_years_108 : decode cX10_years 108 = .ok (.iconst 2, 1) := by decide +kernel
theorem dX10_years_109 : decode cX10_years 109 = .ok (.invokevirtual 164, 3) := by decide +kernel
theorem dX10_years_112 : decode cX10_years 112 = .ok (.aload_n 0, 1) := by decide +kernel
theorem dX10_years_113 : decode cX10_years 113 = .ok (.aload_n 0, 1) := by decide +kernel
theorem dX10_years_114 : decode cX10_years 114 = .ok (.iconst 0, 1) := by decide +kernel
theorem dX10_years_115 : decode cX10_years 115 = .ok (.invokevirtual 333, 3) := by decide +kernel
theorem dX10_years_118 : decode cX10_years 118 = .ok (.i2l, 1) := by decide +kernel
theorem dX10_years_119 : decode cX10_years 119 = .ok (.invokevirtual 202, 3) := by decide +kernel
theorem dX10_years_122 : decode cX10_years 122 = .ok (.aload_n 0, 1) := by decide +kernel
theorem dX10_years_123 : decode cX10_years 123 = .ok (.aload_n 0, 1) := by decide +kernel
theorem dX10_years_124 : decode cX10_years 124 = .ok (.iconst 0, 1) := by decide +kernel
theorem dX10_years_125 : decode cX10_years 125 = .ok (.invokevirtual 254, 3) := by decide +kernel
theorem dX10_years_128 : decode cX10_years 128 = .ok (.i2l, 1) := by decide +kernel
theorem dX10_years_129 : decode cX10_years 129 = .ok (.invokevirtual 202, 3) := by decide +kernel
theorem dX10_years_132 : decode cX10_years 132 = .ok (.aload_n 0, 1) := by decide +kernel
theorem dX10_years_133 : decode cX10_years 133 = .ok (.aload_n 0, 1) := by decide +kernel
theorem dX10_years_134 : decode cX10_years 134 = .ok (.invokevirtual 365, 3) := by decide +kernel
theorem dX10_years_137 : decode cX10_years 137 = .ok (.i2l, 1) := by decide +kernel
theorem dX10_years_138 : decode cX10_years 138 = .ok (.invokevirtual 202, 3) := by decide +kernel
theorem dX10_years_141 : decode cX10_years 141 = .ok (.aload_n 0, 1) := by decide +kernel
theorem dX10_years_142 : decode cX10_years 142 = .ok (.iconst 3, 1) := by decide +kernel
theorem dX10_years_143 : decode cX10_years 143 = .ok (.iconst 0, 1) := by decide +kernel
theorem dX10_years_144 : decode cX10_years 144 = .ok (.invokevirtual 359, 3) := by decide +kernel
theorem dX10_years_147 : decode cX10_years 147 = .ok (.iload_n 3, 1) := by decide +kernel
theorem dX10_years_148 : decode cX10_years 148 = .ok (.ireturn, 1) := by decide +kernel
def b_X10_years_52 (k52 : q_H → Nat → Int32 → Int32 → Option (q_H × Int32)) (h : q_H) (v0 : Nat) (v3 : Int32) (v4 : Int32) : Option (q_H × Int32) :=
  if (3) ≤ v4 then Option.bind (f_X10_lays h v0 (0) (0)) (fun q1 => Option.bind (f_X10_lays q1.1 v0 (1) (1)) (fun q2 => Option.bind (q_p 9 1 q2.1 v0 (.int (0))) (fun h3 => Option.bind (f_X10_otherSet h3 v0 (0) (1)) (fun q4 => Option.bind (f_X10_enters q4.1 v0 (Int32.toInt64 q4.2)) (fun q5 => Option.bind (f_X10_lays q5.1 v0 (0) (2)) (fun q6 => Option.bind (f_X10_folders q6.1 v0 (0)) (fun q7 => Option.bind (f_X10_enters q7.1 v0 (Int32.toInt64 q7.2)) (fun q8 => Option.bind (f_X10_stableOf q8.1 v0 (0)) (fun q9 => Option.bind (f_X10_enters q9.1 v0 (Int32.toInt64 q9.2)) (fun q10 => Option.bind (f_X10_lettersAll q10.1 v0) (fun q11 => Option.bind (f_X10_enters q11.1 v0 (Int32.toInt64 q11.2)) (fun q12 => Option.bind (f_X10_copies q12.1 v0 (3) (0)) (fun q13 => some (q13.1, v3)))))))))))))) else Option.bind (q_gR 9 7 h v0) (fun x14 => Option.bind (q_lI 0 h x14 ((180) + v4)) (fun x15 => k52 h v0 (v3 + x15) (v4 + 1)))
def l_X10_years_52 : Nat → q_H → Nat → Int32 → Int32 → Option (q_H × Int32)
  | 0, _, _, _, _ => none
  | n + 1, h, v0, v3, v4 => b_X10_years_52 (l_X10_years_52 n) h v0 v3 v4
def b_X10_years_32 (k32 : q_H → Nat → Int32 → Int32 → Option (q_H × Int32)) (h : q_H) (v0 : Nat) (v2 : Int32) (v3 : Int32) : Option (q_H × Int32) :=
  if v2 ≤ v3 then l_X10_years_52 q_FU h v0 (0) (0) else Option.bind (f_X10_drawnAct h v0) (fun q16 => k32 q16.1 v0 v2 (v3 + 1))
def l_X10_years_32 : Nat → q_H → Nat → Int32 → Int32 → Option (q_H × Int32)
  | 0, _, _, _, _ => none
  | n + 1, h, v0, v2, v3 => b_X10_years_32 (l_X10_years_32 n) h v0 v2 v3
def b_X10_years_0 (h : q_H) (v0 : Nat) (v1 : Int32) (v2 : Int32) : Option (q_H × Int32) :=
  Option.bind (q_p 9 0 h v0 (.int (0))) (fun h17 => Option.bind (f_X10_in h17 (Int32.toInt64 v2) (1) (40)) (fun q18 => if q18.2 = 0 then some (q18.1, (-1)) else Option.bind (q_p 9 24 q18.1 v0 (.int v1)) (fun h19 => Option.bind (f_X10_copies h19 v0 (0) (3)) (fun q20 => l_X10_years_32 q_FU q20.1 v0 v2 (0)))))
def f_X10_years (h : q_H) (a0 : Nat) (a1 : Int32) (a2 : Int32) : Option (q_H × Int32) := q_chk 9 h a0 (b_X10_years_0 h a0 a1 a2)
set_option maxRecDepth 20000 in
set_option maxHeartbeats 1000000 in
theorem jb_X10_years_52 {G : q_G} {l : Launch} {k0 z0 : Nat} (k52 : q_H → Nat → Int32 → Int32 → Option (q_H × Int32)) (hk52 : ∀ (h : q_H) (v0 : Nat) (v3 : Int32) (v4 : Int32), q_J G l (RX10, cX10_years, 5, 8, 187, (some .int), "years", []) k0 z0 (q_Z G k0 z0 q_i) 52 [(0, .ref v0), (3, .int v3), (4, .int v4)] [] h (k52 h v0 v3 v4)) (h : q_H) (v0 : Nat) (v3 : Int32) (v4 : Int32) : q_J G l (RX10, cX10_years, 5, 8, 187, (some .int), "years", []) k0 z0 (q_Z G k0 z0 q_i) 52 [(0, .ref v0), (3, .int v3), (4, .int v4)] [] h (b_X10_years_52 k52 h v0 v3 v4) := by
  unfold b_X10_years_52
  refine j_iload (pc := 52) (p := 2) rfl dX10_years_52 ?_
  refine j_iconst (pc := 54) ki_3 dX10_years_54 ?_
  refine j_ic_ge (pc := 55) (tgt := 78) dX10_years_55 (by decide) (fun _ => ?_) (fun _ => ?_)
  · refine j_aload_n (pc := 78) (p := 0) rfl rfl dX10_years_78 ?_
    refine j_iconst (pc := 79) ki_0 dX10_years_79 ?_
    refine j_iconst (pc := 80) ki_0 dX10_years_80 ?_
    refine j_cVu (pc := 81) Y_X10_lays (ci := 9) (b := v0) rfl rfl ml_X10_164 im_X10_lays se_X10_lays ⟨Nat.le_of_ble_eq_true rfl, Nat.le_of_ble_eq_true rfl⟩ dX10_years_81 (As := [.int (0), .int (0)]) (rest := []) rfl rfl (Nat.le_of_ble_eq_true rfl) (fun x hq9 => c_X10_lays _ _ _ _ _ hq9) (fun q1 _ => ?_)
    refine j_aload_n (pc := 84) (p := 0) rfl rfl dX10_years_84 ?_
    refine j_iconst (pc := 85) ki_1 dX10_years_85 ?_
    refine j_iconst (pc := 86) ki_1 dX10_years_86 ?_
    refine j_cVu (pc := 87) Y_X10_lays (ci := 9) (b := v0) rfl rfl ml_X10_164 im_X10_lays se_X10_lays ⟨Nat.le_of_ble_eq_true rfl, Nat.le_of_ble_eq_true rfl⟩ dX10_years_87 (As := [.int (1), .int (1)]) (rest := []) rfl rfl (Nat.le_of_ble_eq_true rfl) (fun x hq9 => c_X10_lays _ _ _ _ _ hq9) (fun q2 _ => ?_)
    refine j_aload_n (pc := 90) (p := 0) rfl rfl dX10_years_90 ?_
    refine j_iconst (pc := 91) ki_0 dX10_years_91 ?_
    refine j_put (pc := 92) FI_X10 (k := 1) (by decide) fl_X10_11 rfl rfl rfl dX10_years_92 (fun h3 _ => ?_)
    refine j_aload_n (pc := 95) (p := 0) rfl rfl dX10_years_95 ?_
    refine j_aload_n (pc := 96) (p := 0) rfl rfl dX10_years_96 ?_
    refine j_iconst (pc := 97) ki_0 dX10_years_97 ?_
    refine j_iconst (pc := 98) ki_1 dX10_years_98 ?_
    refine j_cVi (pc := 99) Y_X10_otherSet (ci := 9) (b := v0) rfl rfl ml_X10_152 im_X10_otherSet se_X10_otherSet ⟨Nat.le_of_ble_eq_true rfl, Nat.le_of_ble_eq_true rfl⟩ dX10_years_99 (As := [.int (0), .int (1)]) (rest := [.ref v0]) rfl rfl (Nat.le_of_ble_eq_true rfl) (fun x hq9 => c_X10_otherSet _ _ _ _ _ hq9) (fun q4 _ => ?_)
    refine j_i2l (pc := 102) dX10_years_102 ?_
    refine j_cVu (pc := 103) Y_X10_enters (ci := 9) (b := v0) rfl rfl ml_X10_202 im_X10_enters se_X10_enters ⟨Nat.le_of_ble_eq_true rfl, Nat.le_of_ble_eq_true rfl⟩ dX10_years_103 (As := [.long (Int32.toInt64 q4.2)]) (rest := []) rfl rfl (Nat.le_of_ble_eq_true rfl) (fun x hq9 => c_X10_enters _ _ _ _ hq9) (fun q5 _ => ?_)
    refine j_aload_n (pc := 106) (p := 0) rfl rfl dX10_years_106 ?_
    refine j_iconst (pc := 107) ki_0 dX10_years_107 ?_
    refine j_iconst (pc := 108) ki_2 dX10_years_108 ?_
    refine j_cVu (pc := 109) Y_X10_lays (ci := 9) (b := v0) rfl rfl ml_X10_164 im_X10_lays se_X10_lays ⟨Nat.le_of_ble_eq_true rfl, Nat.le_of_ble_eq_true rfl⟩ dX10_years_109 (As := [.int (0), .int (2)]) (rest := []) rfl rfl (Nat.le_of_ble_eq_true rfl) (fun x hq9 => c_X10_lays _ _ _ _ _ hq9) (fun q6 _ => ?_)
    refine j_aload_n (pc := 112) (p := 0) rfl rfl dX10_years_112 ?_
    refine j_aload_n (pc := 113) (p := 0) rfl rfl dX10_years_113 ?_
    refine j_iconst (pc := 114) ki_0 dX10_years_114 ?_
    refine j_cVi (pc := 115) Y_X10_folders (ci := 9) (b := v0) rfl rfl ml_X10_333 im_X10_folders se_X10_folders ⟨Nat.le_of_ble_eq_true rfl, Nat.le_of_ble_eq_true rfl⟩ dX10_years_115 (As := [.int (0)]) (rest := [.ref v0]) rfl rfl (Nat.le_of_ble_eq_true rfl) (fun x hq9 => c_X10_folders _ _ _ _ hq9) (fun q7 _ => ?_)
    refine j_i2l (pc := 118) dX10_years_118 ?_
    refine j_cVu (pc := 119) Y_X10_enters (ci := 9) (b := v0) rfl rfl ml_X10_202 im_X10_enters se_X10_enters ⟨Nat.le_of_ble_eq_true rfl, Nat.le_of_ble_eq_true rfl⟩ dX10_years_119 (As := [.long (Int32.toInt64 q7.2)]) (rest := []) rfl rfl (Nat.le_of_ble_eq_true rfl) (fun x hq9 => c_X10_enters _ _ _ _ hq9) (fun q8 _ => ?_)
    refine j_aload_n (pc := 122) (p := 0) rfl rfl dX10_years_122 ?_
    refine j_aload_n (pc := 123) (p := 0) rfl rfl dX10_years_123 ?_
    refine j_iconst (pc := 124) ki_0 dX10_years_124 ?_
    refine j_cVi (pc := 125) Y_X10_stableOf (ci := 9) (b := v0) rfl rfl ml_X10_254 im_X10_stableOf se_X10_stableOf ⟨Nat.le_of_ble_eq_true rfl, Nat.le_of_ble_eq_true rfl⟩ dX10_years_125 (As := [.int (0)]) (rest := [.ref v0]) rfl rfl (Nat.le_of_ble_eq_true rfl) (fun x hq9 => c_X10_stableOf _ _ _ _ hq9) (fun q9 _ => ?_)
    refine j_i2l (pc := 128) dX10_years_128 ?_
    refine j_cVu (pc := 129) Y_X10_enters (ci := 9) (b := v0) rfl rfl ml_X10_202 im_X10_enters se_X10_enters ⟨Nat.le_of_ble_eq_true rfl, Nat.le_of_ble_eq_true rfl⟩ dX10_years_129 (As := [.long (Int32.toInt64 q9.2)]) (rest := []) rfl rfl (Nat.le_of_ble_eq_true rfl) (fun x hq9 => c_X10_enters _ _ _ _ hq9) (fun q10 _ => ?_)
    refine j_aload_n (pc := 132) (p := 0) rfl rfl dX10_years_132 ?_
    refine j_aload_n (pc := 133) (p := 0) rfl rfl dX10_years_133 ?_
    refine j_cVi (pc := 134) Y_X10_lettersAll (ci := 9) (b := v0) rfl rfl ml_X10_365 im_X10_lettersAll se_X10_lettersAll ⟨Nat.le_of_ble_eq_true rfl, Nat.le_of_ble_eq_true rfl⟩ dX10_years_134 (As := []) (rest := [.ref v0]) rfl rfl (Nat.le_of_ble_eq_true rfl) (fun x hq9 => c_X10_lettersAll _ _ _ hq9) (fun q11 _ => ?_)
    refine j_i2l (pc := 137) dX10_years_137 ?_
    refine j_cVu (pc := 138) Y_X10_enters (ci := 9) (b := v0) rfl rfl ml_X10_202 im_X10_enters se_X10_enters ⟨Nat.le_of_ble_eq_true rfl, Nat.le_of_ble_eq_true rfl⟩ dX10_years_138 (As := [.long (Int32.toInt64 q11.2)]) (rest := []) rfl rfl (Nat.le_of_ble_eq_true rfl) (fun x hq9 => c_X10_enters _ _ _ _ hq9) (fun q12 _ => ?_)
    refine j_aload_n (pc := 141) (p := 0) rfl rfl dX10_years_141 ?_
    refine j_iconst (pc := 142) ki_3 dX10_years_142 ?_
    refine j_iconst (pc := 143) ki_0 dX10_years_143 ?_
    refine j_cVu (pc := 144) Y_X10_copies (ci := 9) (b := v0) rfl rfl ml_X10_359 im_X10_copies se_X10_copies ⟨Nat.le_of_ble_eq_true rfl, Nat.le_of_ble_eq_true rfl⟩ dX10_years_144 (As := [.int (3), .int (0)]) (rest := []) rfl rfl (Nat.le_of_ble_eq_true rfl) (fun x hq9 => c_X10_copies _ _ _ _ _ hq9) (fun q13 _ => ?_)
    refine j_iload_n (pc := 147) (p := 1) rfl rfl dX10_years_147 ?_
    exact j_iret (pc := 148) rfl dX10_years_148
  refine j_iload_n (pc := 58) (p := 1) rfl rfl dX10_years_58 ?_
  refine j_aload_n (pc := 59) (p := 0) rfl rfl dX10_years_59 ?_
  refine j_getR (pc := 60) FI_X10 (k := 7) (by decide) fl_X10_47 dX10_years_60 (fun x14 _ => ?_)
  refine j_sipush (pc := 63) ks_180 dX10_years_63 ?_
  refine j_iload (pc := 66) (p := 2) rfl dX10_years_66 ?_
  refine j_iadd (pc := 68) dX10_years_68 ?_
  refine j_iald (pc := 69) dX10_years_69 (fun x15 _ => ?_)
  refine j_iadd (pc := 70) dX10_years_70 ?_
  refine j_istore_n (pc := 71) (lv' := [(3, .int (v3 + x15)), (0, .ref v0), (4, .int v4)]) rfl (by decide) rfl dX10_years_71 ?_
  refine j_inc (pc := 72) (p := 2) (lv' := [(4, .int (v4 + 1)), (3, .int (v3 + x15)), (0, .ref v0)]) rfl ki_1 (by decide) rfl dX10_years_72 ?_
  refine j_goto (pc := 75) (tgt := 52) dX10_years_75 (by decide) ?_
  refine j_sub [2, 1, 0] (lv' := [(0, .ref v0), (3, .int (v3 + x15)), (4, .int (v4 + 1))]) rfl ?_
  exact hk52 _ _ _ _
set_option maxRecDepth 20000 in
set_option maxHeartbeats 1000000 in
theorem jl_X10_years_52 {G : q_G} {l : Launch} {k0 z0 : Nat} (n : Nat) : ∀ (h : q_H) (v0 : Nat) (v3 : Int32) (v4 : Int32), q_J G l (RX10, cX10_years, 5, 8, 187, (some .int), "years", []) k0 z0 (q_Z G k0 z0 q_i) 52 [(0, .ref v0), (3, .int v3), (4, .int v4)] [] h (l_X10_years_52 n h v0 v3 v4) := by
  induction n with
  | zero => intro h v0 v3 v4; exact j_none
  | succ n ih => intro h v0 v3 v4; exact jb_X10_years_52 (l_X10_years_52 n) ih h v0 v3 v4
set_option maxRecDepth 20000 in
set_option maxHeartbeats 1000000 in
theorem jb_X10_years_32 {G : q_G} {l : Launch} {k0 z0 : Nat} (k32 : q_H → Nat → Int32 → Int32 → Option (q_H × Int32)) (hk32 : ∀ (h : q_H) (v0 : Nat) (v2 : Int32) (v3 : Int32), q_J G l (RX10, cX10_years, 5, 8, 187, (some .int), "years", []) k0 z0 (q_Z G k0 z0 q_i) 32 [(0, .ref v0), (2, .int v2), (3, .int v3)] [] h (k32 h v0 v2 v3)) (h : q_H) (v0 : Nat) (v2 : Int32) (v3 : Int32) : q_J G l (RX10, cX10_years, 5, 8, 187, (some .int), "years", []) k0 z0 (q_Z G k0 z0 q_i) 32 [(0, .ref v0), (2, .int v2), (3, .int v3)] [] h (b_X10_years_32 k32 h v0 v2 v3) := by
  unfold b_X10_years_32
  refine j_iload_n (pc := 32) (p := 2) rfl rfl dX10_years_32 ?_
  refine j_iload_n (pc := 33) (p := 1) rfl rfl dX10_years_33 ?_
  refine j_ic_ge (pc := 34) (tgt := 47) dX10_years_34 (by decide) (fun _ => ?_) (fun _ => ?_)
  · refine j_iconst (pc := 47) ki_0 dX10_years_47 ?_
    refine j_istore_n (pc := 48) (lv' := [(3, .int (0)), (0, .ref v0), (2, .int v2)]) rfl (by decide) rfl dX10_years_48 ?_
    refine j_iconst (pc := 49) ki_0 dX10_years_49 ?_
    refine j_istore (pc := 50) (lv' := [(4, .int (0)), (3, .int (0)), (0, .ref v0), (2, .int v2)]) (by decide) rfl dX10_years_50 ?_
    refine j_sub [2, 1, 0] (lv' := [(0, .ref v0), (3, .int (0)), (4, .int (0))]) rfl ?_
    exact jl_X10_years_52 q_FU _ _ _ _
  refine j_aload_n (pc := 37) (p := 0) rfl rfl dX10_years_37 ?_
  refine j_cVu (pc := 38) Y_X10_drawnAct (ci := 9) (b := v0) rfl rfl ml_X10_362 im_X10_drawnAct se_X10_drawnAct ⟨Nat.le_of_ble_eq_true rfl, Nat.le_of_ble_eq_true rfl⟩ dX10_years_38 (As := []) (rest := []) rfl rfl (Nat.le_of_ble_eq_true rfl) (fun x hq9 => c_X10_drawnAct _ _ _ hq9) (fun q16 _ => ?_)
  refine j_inc (pc := 41) (p := 2) (lv' := [(3, .int (v3 + 1)), (0, .ref v0), (2, .int v2)]) rfl ki_1 (by decide) rfl dX10_years_41 ?_
  refine j_goto (pc := 44) (tgt := 32) dX10_years_44 (by decide) ?_
  refine j_sub [1, 2, 0] (lv' := [(0, .ref v0), (2, .int v2), (3, .int (v3 + 1))]) rfl ?_
  exact hk32 _ _ _ _
set_option maxRecDepth 20000 in
set_option maxHeartbeats 1000000 in
theorem jl_X10_years_32 {G : q_G} {l : Launch} {k0 z0 : Nat} (n : Nat) : ∀ (h : q_H) (v0 : Nat) (v2 : Int32) (v3 : Int32), q_J G l (RX10, cX10_years, 5, 8, 187, (some .int), "years", []) k0 z0 (q_Z G k0 z0 q_i) 32 [(0, .ref v0), (2, .int v2), (3, .int v3)] [] h (l_X10_years_32 n h v0 v2 v3) := by
  induction n with
  | zero => intro h v0 v2 v3; exact j_none
  | succ n ih => intro h v0 v2 v3; exact jb_X10_years_32 (l_X10_years_32 n) ih h v0 v2 v3
set_option maxRecDepth 20000 in
set_option maxHeartbeats 1000000 in
theorem jb_X10_years_0 {G : q_G} {l : Launch} {k0 z0 : Nat} (h : q_H) (v0 : Nat) (v1 : Int32) (v2 : Int32) : q_J G l (RX10, cX10_years, 5, 8, 187, (some .int), "years", []) k0 z0 (q_Z G k0 z0 q_i) 0 [(0, .ref v0), (1, .int v1), (2, .int v2)] [] h (b_X10_years_0 h v0 v1 v2) := by
  unfold b_X10_years_0
  refine j_aload_n (pc := 0) (p := 0) rfl rfl dX10_years_0 ?_
  refine j_iconst (pc := 1) ki_0 dX10_years_1 ?_
  refine j_put (pc := 2) FI_X10 (k := 0) (by decide) fl_X10_1 rfl rfl rfl dX10_years_2 (fun h17 _ => ?_)
  refine j_iload_n (pc := 5) (p := 2) rfl rfl dX10_years_5 ?_
  refine j_i2l (pc := 6) dX10_years_6 ?_
  refine j_lconst (pc := 7) kl_1 dX10_years_7 ?_
  refine j_ldc2 (pc := 8) cL_X10_357 dX10_years_8 ?_
  refine j_cSi (pc := 11) Y_X10_in ml_X10_21 sm_X10_in ⟨Nat.le_of_ble_eq_true rfl, Nat.le_of_ble_eq_true rfl⟩ dX10_years_11 (As := [.long (Int32.toInt64 v2), .long (1), .long (40)]) (rest := []) rfl rfl (Nat.le_of_ble_eq_true rfl) (fun x hq9 => c_X10_in _ _ _ _ _ hq9) (fun q18 _ => ?_)
  refine j_if_ne (pc := 14) (tgt := 19) dX10_years_14 (by decide) (fun _ => ?_) (fun _ => ?_)
  · refine j_iconst (pc := 17) ki_m1 dX10_years_17 ?_
    exact j_iret (pc := 18) rfl dX10_years_18
  refine j_aload_n (pc := 19) (p := 0) rfl rfl dX10_years_19 ?_
  refine j_iload_n (pc := 20) (p := 1) rfl rfl dX10_years_20 ?_
  refine j_put (pc := 21) FI_X10 (k := 24) (by decide) fl_X10_350 rfl rfl rfl dX10_years_21 (fun h19 _ => ?_)
  refine j_aload_n (pc := 24) (p := 0) rfl rfl dX10_years_24 ?_
  refine j_iconst (pc := 25) ki_0 dX10_years_25 ?_
  refine j_iconst (pc := 26) ki_3 dX10_years_26 ?_
  refine j_cVu (pc := 27) Y_X10_copies (ci := 9) (b := v0) rfl rfl ml_X10_359 im_X10_copies se_X10_copies ⟨Nat.le_of_ble_eq_true rfl, Nat.le_of_ble_eq_true rfl⟩ dX10_years_27 (As := [.int (0), .int (3)]) (rest := []) rfl rfl (Nat.le_of_ble_eq_true rfl) (fun x hq9 => c_X10_copies _ _ _ _ _ hq9) (fun q20 _ => ?_)
  refine j_iconst (pc := 30) ki_0 dX10_years_30 ?_
  refine j_istore_n (pc := 31) (lv' := [(3, .int (0)), (0, .ref v0), (1, .int v1), (2, .int v2)]) rfl (by decide) rfl dX10_years_31 ?_
  refine j_sub [1, 3, 0] (lv' := [(0, .ref v0), (2, .int v2), (3, .int (0))]) rfl ?_
  exact jl_X10_years_32 q_FU _ _ _ _
set_option maxRecDepth 20000 in
set_option maxHeartbeats 1000000 in
theorem c_X10_years {G : q_G} {l : Launch} : ∀ (h : q_H) (a0 : Nat) (a1 : Int32) (a2 : Int32) (q : q_H × Int32), f_X10_years h a0 a1 a2 = some q → (∃ fs, h.1 a0 = .inr (9, fs)) ∧ q_CT G l yX10_years cX10_years 5 (some .int) 8 187 [.ref a0, .int a1, .int a2] h q.1 (q_i q.2) := by
  intro h a0 a1 a2 q e
  obtain ⟨e1, e2⟩ := q_chk_ok e
  exact ⟨e1, q_ofJ Y_X10_years (Nat.le_of_ble_eq_true rfl) (jb_X10_years_0 h a0 a1 a2) q e2⟩
