/-! FarFolders$Text.number(II)I -/
theorem dX6_number_0 : decode cX6_number 0 = .ok (.iconst 0, 1) := by decide +kernel
theorem dX6_number_1 : decode cX6_number 1 = .ok (.istore_n 3, 1) := by decide +kernel
theorem dX6_number_2 : decode cX6_number 2 = .ok (.iload_n 1, 1) := by decide +kernel
theorem dX6_number_3 : decode cX6_number 3 = .ok (.istore 4, 2) := by decide +kernel
theorem dX6_number_5 : decode cX6_number 5 = .ok (.iload 4, 2) := by decide +kernel
theorem dX6_number_7 : decode cX6_number 7 = .ok (.iload_n 2, 1) := by decide +kernel
theorem dX6_number_8 : decode cX6_number 8 = .ok (.if_icmp .ge 24, 3) := by decide +kernel
theorem dX6_number_11 : decode cX6_number 11 = .ok (.bipush 10, 2) := by decide +kernel
theorem dX6_number_13 : decode cX6_number 13 = .ok (.iload_n 3, 1) := by decide +kernel
theorem dX6_number_14 : decode cX6_number 14 = .ok (.imul, 1) := by decide +kernel
theorem dX6_number_15 : decode cX6_number 15 = .ok (.aload_n 0, 1) := by decide +kernel
theorem dX6_number_16 : decode cX6_number 16 = .ok (.iload 4, 2) := by decide +kernel
theorem dX6_number_18 : decode cX6_number 18 = .ok (.invokevirtual 19, 3) := by decide +kernel
theorem dX6_number_21 : decode cX6_number 21 = .ok (.iadd, 1) := by decide +kernel
theorem dX6_number_22 : decode cX6_number 22 = .ok (.bipush 48, 2) := by decide +kernel
theorem dX6_number_24 : decode cX6_number 24 = .ok (.isub, 1) := by decide +kernel
theorem dX6_number_25 : decode cX6_number 25 = .ok (.istore_n 3, 1) := by decide +kernel
theorem dX6_number_26 : decode cX6_number 26 = .ok (.iinc 4 1, 3) := by decide +kernel
theorem dX6_number_29 : decode cX6_number 29 = .ok (.goto (-24), 3) := by decide +kernel
theorem dX6_number_32 : decode cX6_number 32 = .ok (.iload_n 3, 1) := by decide +kernel
theorem dX6_number_33 : decode cX6_number 33 = .ok (.ireturn, 1) := by decide +kernel
def b_X6_number_5 (k5 : q_H → Nat → Int32 → Int32 → Int32 → Option (q_H × Int32)) (h : q_H) (v0 : Nat) (v2 : Int32) (v3 : Int32) (v4 : Int32) : Option (q_H × Int32) :=
  if v2 ≤ v4 then some (h, v3) else Option.bind (f_X6_at h v0 v4) (fun q1 => k5 q1.1 v0 v2 ((((10) * v3) + q1.2) - (48)) (v4 + 1))
def l_X6_number_5 : Nat → q_H → Nat → Int32 → Int32 → Int32 → Option (q_H × Int32)
  | 0, _, _, _, _, _ => none
  | n + 1, h, v0, v2, v3, v4 => b_X6_number_5 (l_X6_number_5 n) h v0 v2 v3 v4
def b_X6_number_0 (h : q_H) (v0 : Nat) (v1 : Int32) (v2 : Int32) : Option (q_H × Int32) :=
  l_X6_number_5 q_FU h v0 v2 (0) v1
def f_X6_number (h : q_H) (a0 : Nat) (a1 : Int32) (a2 : Int32) : Option (q_H × Int32) := q_chk 5 h a0 (b_X6_number_0 h a0 a1 a2)
set_option maxRecDepth 20000 in
set_option maxHeartbeats 1000000 in
theorem jb_X6_number_5 {G : q_G} {l : Launch} {k0 z0 : Nat} (k5 : q_H → Nat → Int32 → Int32 → Int32 → Option (q_H × Int32)) (hk5 : ∀ (h : q_H) (v0 : Nat) (v2 : Int32) (v3 : Int32) (v4 : Int32), q_J G l (RX6, cX6_number, 5, 1, 21, (some .int), "number", []) k0 z0 (q_Z G k0 z0 q_i) 5 [(0, .ref v0), (2, .int v2), (3, .int v3), (4, .int v4)] [] h (k5 h v0 v2 v3 v4)) (h : q_H) (v0 : Nat) (v2 : Int32) (v3 : Int32) (v4 : Int32) : q_J G l (RX6, cX6_number, 5, 1, 21, (some .int), "number", []) k0 z0 (q_Z G k0 z0 q_i) 5 [(0, .ref v0), (2, .int v2), (3, .int v3), (4, .int v4)] [] h (b_X6_number_5 k5 h v0 v2 v3 v4) := by
  unfold b_X6_number_5
  refine j_iload (pc := 5) (p := 3) rfl dX6_number_5 ?_
  refine j_iload_n (pc := 7) (p := 1) rfl rfl dX6_number_7 ?_
  refine j_ic_ge (pc := 8) (tgt := 32) dX6_number_8 (by decide) (fun _ => ?_) (fun _ => ?_)
  · refine j_iload_n (pc := 32) (p := 2) rfl rfl dX6_number_32 ?_
    exact j_iret (pc := 33) rfl dX6_number_33
  refine j_bipush (pc := 11) kb_10 dX6_number_11 ?_
  refine j_iload_n (pc := 13) (p := 2) rfl rfl dX6_number_13 ?_
  refine j_imul (pc := 14) dX6_number_14 ?_
  refine j_aload_n (pc := 15) (p := 0) rfl rfl dX6_number_15 ?_
  refine j_iload (pc := 16) (p := 3) rfl dX6_number_16 ?_
  refine j_cVi (pc := 18) Y_X6_at (ci := 5) (b := v0) rfl rfl ml_X6_19 im_X6_at se_X6_at ⟨Nat.le_of_ble_eq_true rfl, Nat.le_of_ble_eq_true rfl⟩ dX6_number_18 (As := [.int v4]) (rest := [.int ((10) * v3)]) rfl rfl (Nat.le_of_ble_eq_true rfl) (fun x hq9 => c_X6_at _ _ _ _ hq9) (fun q1 _ => ?_)
  refine j_iadd (pc := 21) dX6_number_21 ?_
  refine j_bipush (pc := 22) kb_48 dX6_number_22 ?_
  refine j_isub (pc := 24) dX6_number_24 ?_
  refine j_istore_n (pc := 25) (lv' := [(3, .int ((((10) * v3) + q1.2) - (48))), (0, .ref v0), (2, .int v2), (4, .int v4)]) rfl (by decide) rfl dX6_number_25 ?_
  refine j_inc (pc := 26) (p := 3) (lv' := [(4, .int (v4 + 1)), (3, .int ((((10) * v3) + q1.2) - (48))), (0, .ref v0), (2, .int v2)]) rfl ki_1 (by decide) rfl dX6_number_26 ?_
  refine j_goto (pc := 29) (tgt := 5) dX6_number_29 (by decide) ?_
  refine j_sub [2, 3, 1, 0] (lv' := [(0, .ref v0), (2, .int v2), (3, .int ((((10) * v3) + q1.2) - (48))), (4, .int (v4 + 1))]) rfl ?_
  exact hk5 _ _ _ _ _
set_option maxRecDepth 20000 in
set_option maxHeartbeats 1000000 in
theorem jl_X6_number_5 {G : q_G} {l : Launch} {k0 z0 : Nat} (n : Nat) : ∀ (h : q_H) (v0 : Nat) (v2 : Int32) (v3 : Int32) (v4 : Int32), q_J G l (RX6, cX6_number, 5, 1, 21, (some .int), "number", []) k0 z0 (q_Z G k0 z0 q_i) 5 [(0, .ref v0), (2, .int v2), (3, .int v3), (4, .int v4)] [] h (l_X6_number_5 n h v0 v2 v3 v4) := by
  induction n with
  | zero => intro h v0 v2 v3 v4; exact j_none
  | succ n ih => intro h v0 v2 v3 v4; exact jb_X6_number_5 (l_X6_number_5 n) ih h v0 v2 v3 v4
set_option maxRecDepth 20000 in
set_option maxHeartbeats 1000000 in
theorem jb_X6_number_0 {G : q_G} {l : Launch} {k0 z0 : Nat} (h : q_H) (v0 : Nat) (v1 : Int32) (v2 : Int32) : q_J G l (RX6, cX6_number, 5, 1, 21, (some .int), "number", []) k0 z0 (q_Z G k0 z0 q_i) 0 [(0, .ref v0), (1, .int v1), (2, .int v2)] [] h (b_X6_number_0 h v0 v1 v2) := by
  unfold b_X6_number_0
  refine j_iconst (pc := 0) ki_0 dX6_number_0 ?_
  refine j_istore_n (pc := 1) (lv' := [(3, .int (0)), (0, .ref v0), (1, .int v1), (2, .int v2)]) rfl (by decide) rfl dX6_number_1 ?_
  refine j_iload_n (pc := 2) (p := 2) rfl rfl dX6_number_2 ?_
  refine j_istore (pc := 3) (lv' := [(4, .int v1), (3, .int (0)), (0, .ref v0), (1, .int v1), (2, .int v2)]) (by decide) rfl dX6_number_3 ?_
  refine j_sub [2, 4, 1, 0] (lv' := [(0, .ref v0), (2, .int v2), (3, .int (0)), (4, .int v1)]) rfl ?_
  exact jl_X6_number_5 q_FU _ _ _ _ _
set_option maxRecDepth 20000 in
set_option maxHeartbeats 1000000 in
theorem c_X6_number {G : q_G} {l : Launch} : ∀ (h : q_H) (a0 : Nat) (a1 : Int32) (a2 : Int32) (q : q_H × Int32), f_X6_number h a0 a1 a2 = some q → (∃ fs, h.1 a0 = .inr (5, fs)) ∧ q_CT G l yX6_number cX6_number 5 (some .int) 1 21 [.ref a0, .int a1, .int a2] h q.1 (q_i q.2) := by
  intro h a0 a1 a2 q e
  obtain ⟨e1, e2⟩ := q_chk_ok e
  exact ⟨e1, q_ofJ Y_X6_number (Nat.le_of_ble_eq_true rfl) (jb_X6_number_0 h a0 a1 a2) q e2⟩
/-! FarFolders$Tree.liesWithin(II)Z -/
theorem dX7_liesWithin_0 : decode cX7_liesWithin 0 = .ok (.iload_n 1, 1) := by decide +kernel
theorem dX7_liesWithin_1 : decode cX7_liesWithin 1 = .ok (.istore_n 3, 1) := by decide +kernel
theorem dX7_liesWithin_2 : decode cX7_liesWithin 2 = .ok (.iconst 0, 1) := by decide +kernel
theorem dX7_liesWithin_3 : decode cX7_liesWithin 3 = .ok (.istore 4, 2) := by decide +kernel
theorem dX7_liesWithin_5 : decode cX7_liesWithin 5 = .ok (.iload 4, 2) := by decide +kernel
theorem dX7_liesWithin_7 : decode cX7_liesWithin 7 = .ok (.bipush 14, 2) := by decide +kernel
theorem dX7_liesWithin_9 : decode cX7_liesWithin 9 = .ok (.if_icmp .ge 32, 3) := by decide +kernel
theorem dX7_liesWithin_12 : decode cX7_liesWithin 12 = .ok (.iload_n 3, 1) := by decide +kernel
theorem dX7_liesWithin_13 : decode cX7_liesWithin 13 = .ok (.iload_n 2, 1) := by decide +kernel
theorem dX7_liesWithin_14 : decode cX7_liesWithin 14 = .ok (.if_icmp .eq 27, 3) := by decide +kernel
theorem dX7_liesWithin_17 : decode cX7_liesWithin 17 = .ok (.iload_n 3, 1) := by decide +kernel
theorem dX7_liesWithin_18 : decode cX7_liesWithin 18 = .ok (.iconst 2, 1) := by decide +kernel
theorem dX7_liesWithin_19 : decode cX7_liesWithin 19 = .ok (.if_icmp .lt 22, 3) := by decide +kernel
theorem dX7_liesWithin_22 : decode cX7_liesWithin 22 = .ok (.aload_n 0, 1) := by decide +kernel
theorem dX7_liesWithin_23 : decode cX7_liesWithin 23 = .ok (.getfield 9, 3) := by decide +kernel
theorem dX7_liesWithin_26 : decode cX7_liesWithin 26 = .ok (.iload_n 3, 1) := by decide +kernel
theorem dX7_liesWithin_27 : decode cX7_liesWithin 27 = .ok (.bipush 15, 2) := by decide +kernel
theorem dX7_liesWithin_29 : decode cX7_liesWithin 29 = .ok (.iand, 1) := by decide +kernel
theorem dX7_liesWithin_30 : decode cX7_liesWithin 30 = .ok (.laload, 1) := by decide +kernel
theorem dX7_liesWithin_31 : decode cX7_liesWithin 31 = .ok (.invokestatic 27, 3) := by decide +kernel
theorem dX7_liesWithin_34 : decode cX7_liesWithin 34 = .ok (.istore_n 3, 1) := by decide +kernel
theorem dX7_liesWithin_35 : decode cX7_liesWithin 35 = .ok (.iinc 4 1, 3) := by decide +kernel
theorem dX7_liesWithin_38 : decode cX7_liesWithin 38 = .ok (.goto (-33), 3) := by decide +kernel
theorem dX7_liesWithin_41 : decode cX7_liesWithin 41 = .ok (.iload_n 3, 1) := by decide +kernel
theorem dX7_liesWithin_42 : decode cX7_liesWithin 42 = .ok (.iload_n 2, 1) := by decide +kernel
theorem dX7_liesWithin_43 : decode cX7_liesWithin 43 = .ok (.if_icmp .ne 7, 3) := by decide +kernel
theorem dX7_liesWithin_46 : decode cX7_liesWithin 46 = .ok (.iconst 1, 1) := by decide +kernel
theorem dX7_liesWithin_47 : decode cX7_liesWithin 47 = .ok (.goto 4, 3) := by decide +kernel
theorem dX7_liesWithin_50 : decode cX7_liesWithin 50 = .ok (.iconst 0, 1) := by decide +kernel
theorem dX7_liesWithin_51 : decode cX7_liesWithin 51 = .ok (.ireturn, 1) := by decide +kernel
def b_X7_liesWithin_41 (h : q_H) (v2 : Int32) (v3 : Int32) : Option (q_H × Int32) :=
  if v3 = v2 then some (h, (1)) else some (h, (0))
def b_X7_liesWithin_5 (k5 : q_H → Nat → Int32 → Int32 → Int32 → Option (q_H × Int32)) (h : q_H) (v0 : Nat) (v2 : Int32) (v3 : Int32) (v4 : Int32) : Option (q_H × Int32) :=
  if (14) ≤ v4 then b_X7_liesWithin_41 h v2 v3 else if v3 = v2 then b_X7_liesWithin_41 h v2 v3 else if v3 < (2) then b_X7_liesWithin_41 h v2 v3 else Option.bind (q_gR 6 0 h v0) (fun x1 => Option.bind (q_lL h x1 (v3 &&& (15))) (fun x2 => Option.bind (f_X1_parent h x2) (fun q3 => k5 q3.1 v0 v2 q3.2 (v4 + 1))))
def l_X7_liesWithin_5 : Nat → q_H → Nat → Int32 → Int32 → Int32 → Option (q_H × Int32)
  | 0, _, _, _, _, _ => none
  | n + 1, h, v0, v2, v3, v4 => b_X7_liesWithin_5 (l_X7_liesWithin_5 n) h v0 v2 v3 v4
def b_X7_liesWithin_0 (h : q_H) (v0 : Nat) (v1 : Int32) (v2 : Int32) : Option (q_H × Int32) :=
  l_X7_liesWithin_5 q_FU h v0 v2 v1 (0)
def f_X7_liesWithin (h : q_H) (a0 : Nat) (a1 : Int32) (a2 : Int32) : Option (q_H × Int32) := q_chk 6 h a0 (b_X7_liesWithin_0 h a0 a1 a2)
set_option maxRecDepth 20000 in
set_option maxHeartbeats 1000000 in
theorem jb_X7_liesWithin_41 {G : q_G} {l : Launch} {k0 z0 : Nat} (h : q_H) (v2 : Int32) (v3 : Int32) : q_J G l (RX7, cX7_liesWithin, 5, 1, 21, (some .boolean), "liesWithin", []) k0 z0 (q_Z G k0 z0 q_i) 41 [(2, .int v2), (3, .int v3)] [] h (b_X7_liesWithin_41 h v2 v3) := by
  unfold b_X7_liesWithin_41
  refine j_iload_n (pc := 41) (p := 1) rfl rfl dX7_liesWithin_41 ?_
  refine j_iload_n (pc := 42) (p := 0) rfl rfl dX7_liesWithin_42 ?_
  refine j_ic_ne (pc := 43) (tgt := 50) dX7_liesWithin_43 (by decide) (fun _ => ?_) (fun _ => ?_)
  · refine j_iconst (pc := 46) ki_1 dX7_liesWithin_46 ?_
    refine j_goto (pc := 47) (tgt := 51) dX7_liesWithin_47 (by decide) ?_
    exact j_zret (pc := 51) rfl rfl dX7_liesWithin_51
  refine j_iconst (pc := 50) ki_0 dX7_liesWithin_50 ?_
  exact j_zret (pc := 51) rfl rfl dX7_liesWithin_51
set_option maxRecDepth 20000 in
set_option maxHeartbeats 1000000 in
theorem jb_X7_liesWithin_5 {G : q_G} {l : Launch} {k0 z0 : Nat} (k5 : q_H → Nat → Int32 → Int32 → Int32 → Option (q_H × Int32)) (hk5 : ∀ (h : q_H) (v0 : Nat) (v2 : Int32) (v3 : Int32) (v4 : Int32), q_J G l (RX7, cX7_liesWithin, 5, 1, 21, (some .boolean), "liesWithin", []) k0 z0 (q_Z G k0 z0 q_i) 5 [(0, .ref v0), (2, .int v2), (3, .int v3), (4, .int v4)] [] h (k5 h v0 v2 v3 v4)) (h : q_H) (v0 : Nat) (v2 : Int32) (v3 : Int32) (v4 : Int32) : q_J G l (RX7, cX7_liesWithin, 5, 1, 21, (some .boolean), "liesWithin", []) k0 z0 (q_Z G k0 z0 q_i) 5 [(0, .ref v0), (2, .int v2), (3, .int v3), (4, .int v4)] [] h (b_X7_liesWithin_5 k5 h v0 v2 v3 v4) := by
  unfold b_X7_liesWithin_5
  refine j_iload (pc := 5) (p := 3) rfl dX7_liesWithin_5 ?_
  refine j_bipush (pc := 7) kb_14 dX7_liesWithin_7 ?_
  refine j_ic_ge (pc := 9) (tgt := 41) dX7_liesWithin_9 (by decide) (fun _ => ?_) (fun _ => ?_)
  · refine j_sub [1, 2] (lv' := [(2, .int v2), (3, .int v3)]) rfl ?_
    exact jb_X7_liesWithin_41 _ _ _
  refine j_iload_n (pc := 12) (p := 2) rfl rfl dX7_liesWithin_12 ?_
  refine j_iload_n (pc := 13) (p := 1) rfl rfl dX7_liesWithin_13 ?_
  refine j_ic_eq (pc := 14) (tgt := 41) dX7_liesWithin_14 (by decide) (fun _ => ?_) (fun _ => ?_)
  · refine j_sub [1, 2] (lv' := [(2, .int v2), (3, .int v3)]) rfl ?_
    exact jb_X7_liesWithin_41 _ _ _
  refine j_iload_n (pc := 17) (p := 2) rfl rfl dX7_liesWithin_17 ?_
  refine j_iconst (pc := 18) ki_2 dX7_liesWithin_18 ?_
  refine j_ic_lt (pc := 19) (tgt := 41) dX7_liesWithin_19 (by decide) (fun _ => ?_) (fun _ => ?_)
  · refine j_sub [1, 2] (lv' := [(2, .int v2), (3, .int v3)]) rfl ?_
    exact jb_X7_liesWithin_41 _ _ _
  refine j_aload_n (pc := 22) (p := 0) rfl rfl dX7_liesWithin_22 ?_
  refine j_getR (pc := 23) FI_X7 (k := 0) (by decide) fl_X7_9 dX7_liesWithin_23 (fun x1 _ => ?_)
  refine j_iload_n (pc := 26) (p := 2) rfl rfl dX7_liesWithin_26 ?_
  refine j_bipush (pc := 27) kb_15 dX7_liesWithin_27 ?_
  refine j_iand (pc := 29) dX7_liesWithin_29 ?_
  refine j_lald (pc := 30) dX7_liesWithin_30 (fun x2 _ => ?_)
  refine j_cSi (pc := 31) Y_X1_parent ml_X7_27 sm_X1_parent ⟨Nat.le_of_ble_eq_true rfl, Nat.le_of_ble_eq_true rfl⟩ dX7_liesWithin_31 (As := [.long x2]) (rest := []) rfl rfl (Nat.le_of_ble_eq_true rfl) (fun x hq9 => c_X1_parent _ _ _ hq9) (fun q3 _ => ?_)
  refine j_istore_n (pc := 34) (lv' := [(3, .int q3.2), (0, .ref v0), (2, .int v2), (4, .int v4)]) rfl (by decide) rfl dX7_liesWithin_34 ?_
  refine j_inc (pc := 35) (p := 3) (lv' := [(4, .int (v4 + 1)), (3, .int q3.2), (0, .ref v0), (2, .int v2)]) rfl ki_1 (by decide) rfl dX7_liesWithin_35 ?_
  refine j_goto (pc := 38) (tgt := 5) dX7_liesWithin_38 (by decide) ?_
  refine j_sub [2, 3, 1, 0] (lv' := [(0, .ref v0), (2, .int v2), (3, .int q3.2), (4, .int (v4 + 1))]) rfl ?_
  exact hk5 _ _ _ _ _
set_option maxRecDepth 20000 in
set_option maxHeartbeats 1000000 in
theorem jl_X7_liesWithin_5 {G : q_G} {l : Launch} {k0 z0 : Nat} (n : Nat) : ∀ (h : q_H) (v0 : Nat) (v2 : Int32) (v3 : Int32) (v4 : Int32), q_J G l (RX7, cX7_liesWithin, 5, 1, 21, (some .boolean), "liesWithin", []) k0 z0 (q_Z G k0 z0 q_i) 5 [(0, .ref v0), (2, .int v2), (3, .int v3), (4, .int v4)] [] h (l_X7_liesWithin_5 n h v0 v2 v3 v4) := by
  induction n with
  | zero => intro h v0 v2 v3 v4; exact j_none
  | succ n ih => intro h v0 v2 v3 v4; exact jb_X7_liesWithin_5 (l_X7_liesWithin_5 n) ih h v0 v2 v3 v4
set_option maxRecDepth 20000 in
set_option maxHeartbeats 1000000 in
theorem jb_X7_liesWithin_0 {G : q_G} {l : Launch} {k0 z0 : Nat} (h : q_H) (v0 : Nat) (v1 : Int32) (v2 : Int32) : q_J G l (RX7, cX7_liesWithin, 5, 1, 21, (some .boolean), "liesWithin", []) k0 z0 (q_Z G k0 z0 q_i) 0 [(0, .ref v0), (1, .int v1), (2, .int v2)] [] h (b_X7_liesWithin_0 h v0 v1 v2) := by
  unfold b_X7_liesWithin_0
  refine j_iload_n (pc := 0) (p := 1) rfl rfl dX7_liesWithin_0 ?_
  refine j_istore_n (pc := 1) (lv' := [(3, .int v1), (0, .ref v0), (1, .int v1), (2, .int v2)]) rfl (by decide) rfl dX7_liesWithin_1 ?_
  refine j_iconst (pc := 2) ki_0 dX7_liesWithin_2 ?_
  refine j_istore (pc := 3) (lv' := [(4, .int (0)), (3, .int v1), (0, .ref v0), (1, .int v1), (2, .int v2)]) (by decide) rfl dX7_liesWithin_3 ?_
  refine j_sub [2, 4, 1, 0] (lv' := [(0, .ref v0), (2, .int v2), (3, .int v1), (4, .int (0))]) rfl ?_
  exact jl_X7_liesWithin_5 q_FU _ _ _ _ _
set_option maxRecDepth 20000 in
set_option maxHeartbeats 1000000 in
theorem c_X7_liesWithin {G : q_G} {l : Launch} : ∀ (h : q_H) (a0 : Nat) (a1 : Int32) (a2 : Int32) (q : q_H × Int32), f_X7_liesWithin h a0 a1 a2 = some q → (∃ fs, h.1 a0 = .inr (6, fs)) ∧ q_CT G l yX7_liesWithin cX7_liesWithin 5 (some .boolean) 1 21 [.ref a0, .int a1, .int a2] h q.1 (q_i q.2) := by
  intro h a0 a1 a2 q e
  obtain ⟨e1, e2⟩ := q_chk_ok e
  exact ⟨e1, q_ofJ Y_X7_liesWithin (Nat.le_of_ble_eq_true rfl) (jb_X7_liesWithin_0 h a0 a1 a2) q e2⟩
/-! FarFolders$Tree.allWithin(I)I -/
theorem dX7_allWithin_0 : decode cX7_allWithin 0 = .ok (.iconst 1, 1) := by decide +kernel
theorem dX7_allWithin_1 : decode cX7_allWithin 1 = .ok (.iload_n 1, 1) := by decide +kernel
theorem dX7_allWithin_2 : decode cX7_allWithin 2 = .ok (.ishl, 1) := by decide +kernel
theorem dX7_allWithin_3 : decode cX7_allWithin 3 = .ok (.istore_n 2, 1) := by decide +kernel
theorem dX7_allWithin_4 : decode cX7_allWithin 4 = .ok (.iconst 2, 1) := by decide +kernel
theorem dX7_allWithin_5 : decode cX7_allWithin 5 = .ok (.istore_n 3, 1) := by decide +kernel
theorem dX7_allWithin_6 : decode cX7_allWithin 6 = .ok (.iload_n 3, 1) := by decide +kernel
theorem dX7_allWithin_7 : decode cX7_allWithin 7 = .ok (.bipush 14, 2) := by decide +kernel
theorem dX7_allWithin_9 : decode cX7_allWithin 9 = .ok (.if_icmp .ge 35, 3) := by decide +kernel
theorem dX7_allWithin_12 : decode cX7_allWithin 12 = .ok (.aload_n 0, 1) := by decide +kernel
theorem dX7_allWithin_13 : decode cX7_allWithin 13 = .ok (.getfield 9, 3) := by decide +kernel
theorem dX7_allWithin_16 : decode cX7_allWithin 16 = .ok (.iload_n 3, 1) := by decide +kernel
theorem dX7_allWithin_17 : decode cX7_allWithin 17 = .ok (.laload, 1) := by decide +kernel
theorem dX7_allWithin_18 : decode cX7_allWithin 18 = .ok (.lconst 0, 1) := by decide +kernel
theorem dX7_allWithin_19 : decode cX7_allWithin 19 = .ok (.lcmp, 1) := by decide +kernel
theorem dX7_allWithin_20 : decode cX7_allWithin 20 = .ok (.ifCond .eq 18, 3) := by decide +kernel
theorem dX7_allWithin_23 : decode cX7_allWithin 23 = .ok (.aload_n 0, 1) := by decide +kernel
theorem dX7_allWithin_24 : decode cX7_allWithin 24 = .ok (.iload_n 3, 1) := by decide +kernel
theorem dX7_allWithin_25 : decode cX7_allWithin 25 = .ok (.iload_n 1, 1) := by decide +kernel
theorem dX7_allWithin_26 : decode cX7_allWithin 26 = .ok (.invokevirtual 58, 3) := by decide +kernel
theorem dX7_allWithin_29 : decode cX7_allWithin 29 = .ok (.ifCond .eq 9, 3) := by decide +kernel
theorem dX7_allWithin_32 : decode cX7_allWithin 32 = .ok (.iload_n 2, 1) := by decide +kernel
theorem dX7_allWithin_33 : decode cX7_allWithin 33 = .ok (.iconst 1, 1) := by decide +kernel
theorem dX7_allWithin_34 : decode cX7_allWithin 34 = .ok (.iload_n 3, 1) := by decide +kernel
theorem dX7_allWithin_35 : decode cX7_allWithin 35 = .ok (.ishl, 1) := by decide +kernel
theorem dX7_allWithin_36 : decode cX7_allWithin 36 = .ok (.ior, 1) := by decide +kernel
theorem dX7_allWithin_37 : decode cX7_allWithin 37 = .ok (.istore_n 2, 1) := by decide +kernel
theorem dX7_allWithin_38 : decode cX7_allWithin 38 = .ok (.iinc 3 1, 3) := by decide +kernel
theorem dX7_allWithin_41 : decode cX7_allWithin 41 = .ok (.goto (-35), 3) := by decide +kernel
theorem dX7_allWithin_44 : decode cX7_allWithin 44 = .ok (.iload_n 2, 1) := by decide +kernel
theorem dX7_allWithin_45 : decode cX7_allWithin 45 = .ok (.ireturn, 1) := by decide +kernel
def b_X7_allWithin_38 (k6 : q_H → Nat → Int32 → Int32 → Int32 → Option (q_H × Int32)) (h : q_H) (v0 : Nat) (v1 : Int32) (v2 : Int32) (v3 : Int32) : Option (q_H × Int32) :=
  k6 h v0 v1 v2 (v3 + 1)
def b_X7_allWithin_6 (k6 : q_H → Nat → Int32 → Int32 → Int32 → Option (q_H × Int32)) (h : q_H) (v0 : Nat) (v1 : Int32) (v2 : Int32) (v3 : Int32) : Option (q_H × Int32) :=
  if (14) ≤ v3 then some (h, v2) else Option.bind (q_gR 6 0 h v0) (fun x1 => Option.bind (q_lL h x1 v3) (fun x2 => if (lg_cmp x2 (0)) = 0 then b_X7_allWithin_38 k6 h v0 v1 v2 v3 else Option.bind (f_X7_liesWithin h v0 v3 v1) (fun q3 => if q3.2 = 0 then b_X7_allWithin_38 k6 q3.1 v0 v1 v2 v3 else b_X7_allWithin_38 k6 q3.1 v0 v1 (v2 ||| ((1) <<< (v3 &&& 31))) v3)))
def l_X7_allWithin_6 : Nat → q_H → Nat → Int32 → Int32 → Int32 → Option (q_H × Int32)
  | 0, _, _, _, _, _ => none
  | n + 1, h, v0, v1, v2, v3 => b_X7_allWithin_6 (l_X7_allWithin_6 n) h v0 v1 v2 v3
def b_X7_allWithin_0 (h : q_H) (v0 : Nat) (v1 : Int32) : Option (q_H × Int32) :=
  l_X7_allWithin_6 q_FU h v0 v1 ((1) <<< (v1 &&& 31)) (2)
def f_X7_allWithin (h : q_H) (a0 : Nat) (a1 : Int32) : Option (q_H × Int32) := q_chk 6 h a0 (b_X7_allWithin_0 h a0 a1)
set_option maxRecDepth 20000 in
set_option maxHeartbeats 1000000 in
theorem jb_X7_allWithin_38 {G : q_G} {l : Launch} {k0 z0 : Nat} (k6 : q_H → Nat → Int32 → Int32 → Int32 → Option (q_H × Int32)) (hk6 : ∀ (h : q_H) (v0 : Nat) (v1 : Int32) (v2 : Int32) (v3 : Int32), q_J G l (RX7, cX7_allWithin, 4, 2, 45, (some .int), "allWithin", []) k0 z0 (q_Z G k0 z0 q_i) 6 [(0, .ref v0), (1, .int v1), (2, .int v2), (3, .int v3)] [] h (k6 h v0 v1 v2 v3)) (h : q_H) (v0 : Nat) (v1 : Int32) (v2 : Int32) (v3 : Int32) : q_J G l (RX7, cX7_allWithin, 4, 2, 45, (some .int), "allWithin", []) k0 z0 (q_Z G k0 z0 q_i) 38 [(0, .ref v0), (1, .int v1), (2, .int v2), (3, .int v3)] [] h (b_X7_allWithin_38 k6 h v0 v1 v2 v3) := by
  unfold b_X7_allWithin_38
  refine j_inc (pc := 38) (p := 3) (lv' := [(3, .int (v3 + 1)), (0, .ref v0), (1, .int v1), (2, .int v2)]) rfl ki_1 (by decide) rfl dX7_allWithin_38 ?_
  refine j_goto (pc := 41) (tgt := 6) dX7_allWithin_41 (by decide) ?_
  refine j_sub [1, 2, 3, 0] (lv' := [(0, .ref v0), (1, .int v1), (2, .int v2), (3, .int (v3 + 1))]) rfl ?_
  exact hk6 _ _ _ _ _
set_option maxRecDepth 20000 in
set_option maxHeartbeats 1000000 in
theorem jb_X7_allWithin_6 {G : q_G} {l : Launch} {k0 z0 : Nat} (k6 : q_H → Nat → Int32 → Int32 → Int32 → Option (q_H × Int32)) (hk6 : ∀ (h : q_H) (v0 : Nat) (v1 : Int32) (v2 : Int32) (v3 : Int32), q_J G l (RX7, cX7_allWithin, 4, 2, 45, (some .int), "allWithin", []) k0 z0 (q_Z G k0 z0 q_i) 6 [(0, .ref v0), (1, .int v1), (2, .int v2), (3, .int v3)] [] h (k6 h v0 v1 v2 v3)) (h : q_H) (v0 : Nat) (v1 : Int32) (v2 : Int32) (v3 : Int32) : q_J G l (RX7, cX7_allWithin, 4, 2, 45, (some .int), "allWithin", []) k0 z0 (q_Z G k0 z0 q_i) 6 [(0, .ref v0), (1, .int v1), (2, .int v2), (3, .int v3)] [] h (b_X7_allWithin_6 k6 h v0 v1 v2 v3) := by
  unfold b_X7_allWithin_6
  refine j_iload_n (pc := 6) (p := 3) rfl rfl dX7_allWithin_6 ?_
  refine j_bipush (pc := 7) kb_14 dX7_allWithin_7 ?_
  refine j_ic_ge (pc := 9) (tgt := 44) dX7_allWithin_9 (by decide) (fun _ => ?_) (fun _ => ?_)
  · refine j_iload_n (pc := 44) (p := 2) rfl rfl dX7_allWithin_44 ?_
    exact j_iret (pc := 45) rfl dX7_allWithin_45
  refine j_aload_n (pc := 12) (p := 0) rfl rfl dX7_allWithin_12 ?_
  refine j_getR (pc := 13) FI_X7 (k := 0) (by decide) fl_X7_9 dX7_allWithin_13 (fun x1 _ => ?_)
  refine j_iload_n (pc := 16) (p := 3) rfl rfl dX7_allWithin_16 ?_
  refine j_lald (pc := 17) dX7_allWithin_17 (fun x2 _ => ?_)
  refine j_lconst (pc := 18) kl_0 dX7_allWithin_18 ?_
  refine j_lcmp (pc := 19) dX7_allWithin_19 ?_
  refine j_if_eq (pc := 20) (tgt := 38) dX7_allWithin_20 (by decide) (fun _ => ?_) (fun _ => ?_)
  · exact jb_X7_allWithin_38 k6 hk6 _ _ _ _ _
  refine j_aload_n (pc := 23) (p := 0) rfl rfl dX7_allWithin_23 ?_
  refine j_iload_n (pc := 24) (p := 3) rfl rfl dX7_allWithin_24 ?_
  refine j_iload_n (pc := 25) (p := 1) rfl rfl dX7_allWithin_25 ?_
  refine j_cVi (pc := 26) Y_X7_liesWithin (ci := 6) (b := v0) rfl rfl ml_X7_58 im_X7_liesWithin se_X7_liesWithin ⟨Nat.le_of_ble_eq_true rfl, Nat.le_of_ble_eq_true rfl⟩ dX7_allWithin_26 (As := [.int v3, .int v1]) (rest := []) rfl rfl (Nat.le_of_ble_eq_true rfl) (fun x hq9 => c_X7_liesWithin _ _ _ _ _ hq9) (fun q3 _ => ?_)
  refine j_if_eq (pc := 29) (tgt := 38) dX7_allWithin_29 (by decide) (fun _ => ?_) (fun _ => ?_)
  · exact jb_X7_allWithin_38 k6 hk6 _ _ _ _ _
  refine j_iload_n (pc := 32) (p := 2) rfl rfl dX7_allWithin_32 ?_
  refine j_iconst (pc := 33) ki_1 dX7_allWithin_33 ?_
  refine j_iload_n (pc := 34) (p := 3) rfl rfl dX7_allWithin_34 ?_
  refine j_ishl (pc := 35) dX7_allWithin_35 ?_
  refine j_ior (pc := 36) dX7_allWithin_36 ?_
  refine j_istore_n (pc := 37) (lv' := [(2, .int (v2 ||| ((1) <<< (v3 &&& 31)))), (0, .ref v0), (1, .int v1), (3, .int v3)]) rfl (by decide) rfl dX7_allWithin_37 ?_
  refine j_sub [1, 2, 0, 3] (lv' := [(0, .ref v0), (1, .int v1), (2, .int (v2 ||| ((1) <<< (v3 &&& 31)))), (3, .int v3)]) rfl ?_
  exact jb_X7_allWithin_38 k6 hk6 _ _ _ _ _
set_option maxRecDepth 20000 in
set_option maxHeartbeats 1000000 in
theorem jl_X7_allWithin_6 {G : q_G} {l : Launch} {k0 z0 : Nat} (n : Nat) : ∀ (h : q_H) (v0 : Nat) (v1 : Int32) (v2 : Int32) (v3 : Int32), q_J G l (RX7, cX7_allWithin, 4, 2, 45, (some .int), "allWithin", []) k0 z0 (q_Z G k0 z0 q_i) 6 [(0, .ref v0), (1, .int v1), (2, .int v2), (3, .int v3)] [] h (l_X7_allWithin_6 n h v0 v1 v2 v3) := by
  induction n with
  | zero => intro h v0 v1 v2 v3; exact j_none
  | succ n ih => intro h v0 v1 v2 v3; exact jb_X7_allWithin_6 (l_X7_allWithin_6 n) ih h v0 v1 v2 v3
set_option maxRecDepth 20000 in
set_option maxHeartbeats 1000000 in
theorem jb_X7_allWithin_0 {G : q_G} {l : Launch} {k0 z0 : Nat} (h : q_H) (v0 : Nat) (v1 : Int32) : q_J G l (RX7, cX7_allWithin, 4, 2, 45, (some .int), "allWithin", []) k0 z0 (q_Z G k0 z0 q_i) 0 [(0, .ref v0), (1, .int v1)] [] h (b_X7_allWithin_0 h v0 v1) := by
  unfold b_X7_allWithin_0
  refine j_iconst (pc := 0) ki_1 dX7_allWithin_0 ?_
  refine j_iload_n (pc := 1) (p := 1) rfl rfl dX7_allWithin_1 ?_
  refine j_ishl (pc := 2) dX7_allWithin_2 ?_
  refine j_istore_n (pc := 3) (lv' := [(2, .int ((1) <<< (v1 &&& 31))), (0, .ref v0), (1, .int v1)]) rfl (by decide) rfl dX7_allWithin_3 ?_
  refine j_iconst (pc := 4) ki_2 dX7_allWithin_4 ?_
  refine j_istore_n (pc := 5) (lv' := [(3, .int (2)), (2, .int ((1) <<< (v1 &&& 31))), (0, .ref v0), (1, .int v1)]) rfl (by decide) rfl dX7_allWithin_5 ?_
  refine j_sub [2, 3, 1, 0] (lv' := [(0, .ref v0), (1, .int v1), (2, .int ((1) <<< (v1 &&& 31))), (3, .int (2))]) rfl ?_
  exact jl_X7_allWithin_6 q_FU _ _ _ _ _
set_option maxRecDepth 20000 in
set_option maxHeartbeats 1000000 in
theorem c_X7_allWithin {G : q_G} {l : Launch} : ∀ (h : q_H) (a0 : Nat) (a1 : Int32) (q : q_H × Int32), f_X7_allWithin h a0 a1 = some q → (∃ fs, h.1 a0 = .inr (6, fs)) ∧ q_CT G l yX7_allWithin cX7_allWithin 4 (some .int) 2 45 [.ref a0, .int a1] h q.1 (q_i q.2) := by
  intro h a0 a1 q e
  obtain ⟨e1, e2⟩ := q_chk_ok e
  exact ⟨e1, q_ofJ Y_X7_allWithin (Nat.le_of_ble_eq_true rfl) (jb_X7_allWithin_0 h a0 a1) q e2⟩
/-! FarFolders$Tree.childWith(III)I -/
theorem dX7_childWith_0 : decode cX7_childWith 0 = .ok (.iconst 2, 1) := by decide +kernel
theorem dX7_childWith_1 : decode cX7_childWith 1 = .ok (.istore 4, 2) := by decide +kernel
theorem dX7_childWith_3 : decode cX7_childWith 3 = .ok (.iload 4, 2) := by decide +kernel
theorem dX7_childWith_5 : decode cX7_childWith 5 = .ok (.bipush 14, 2) := by decide +kernel
theorem dX7_childWith_7 : decode cX7_childWith 7 = .ok (.if_icmp .ge 46, 3) := by decide +kernel
theorem dX7_childWith_10 : decode cX7_childWith 10 = .ok (.aload_n 0, 1) := by decide +kernel
theorem dX7_childWith_11 : decode cX7_childWith 11 = .ok (.iload 4, 2) := by decide +kernel
theorem dX7_childWith_13 : decode cX7_childWith 13 = .ok (.iload_n 1, 1) := by decide +kernel
theorem dX7_childWith_14 : decode cX7_childWith 14 = .ok (.invokevirtual 54, 3) := by decide +kernel
theorem dX7_childWith_17 : decode cX7_childWith 17 = .ok (.ifCond .eq 30, 3) := by decide +kernel
theorem dX7_childWith_20 : decode cX7_childWith 20 = .ok (.aload_n 0, 1) := by decide +kernel
theorem dX7_childWith_21 : decode cX7_childWith 21 = .ok (.getfield 9, 3) := by decide +kernel
theorem dX7_childWith_24 : decode cX7_childWith 24 = .ok (.iload 4, 2) := by decide +kernel
theorem dX7_childWith_26 : decode cX7_childWith 26 = .ok (.laload, 1) := by decide +kernel
theorem dX7_childWith_27 : decode cX7_childWith 27 = .ok (.invokestatic 61, 3) := by decide +kernel
theorem dX7_childWith_30 : decode cX7_childWith 30 = .ok (.iload_n 2, 1) := by decide +kernel
theorem dX7_childWith_31 : decode cX7_childWith 31 = .ok (.if_icmp .ne 16, 3) := by decide +kernel
theorem dX7_childWith_34 : decode cX7_childWith 34 = .ok (.aload_n 0, 1) := by decide +kernel
theorem dX7_childWith_35 : decode cX7_childWith 35 = .ok (.iload 4, 2) := by decide +kernel
theorem dX7_childWith_37 : decode cX7_childWith 37 = .ok (.invokevirtual 64, 3) := by decide +kernel
theorem dX7_childWith_40 : decode cX7_childWith 40 = .ok (.iload_n 3, 1) := by decide +kernel
theorem dX7_childWith_41 : decode cX7_childWith 41 = .ok (.if_icmp .ne 6, 3) := by decide +kernel
theorem dX7_childWith_44 : decode cX7_childWith 44 = .ok (.iload 4, 2) := by decide +kernel
theorem dX7_childWith_46 : decode cX7_childWith 46 = .ok (.ireturn, 1) := by decide +kernel
theorem dX7_childWith_47 : decode cX7_childWith 47 = .ok (.iinc 4 1, 3) := by decide +kernel
theorem dX7_childWith_50 : decode cX7_childWith 50 = .ok (.goto (-47), 3) := by decide +kernel
theorem dX7_childWith_53 : decode cX7_childWith 53 = .ok (.iconst (-1), 1) := by decide +kernel
theorem dX7_childWith_54 : decode cX7_childWith 54 = .ok (.ireturn, 1) := by decide +kernel
def b_X7_childWith_47 (k3 : q_H → Nat → Int32 → Int32 → Int32 → Int32 → Option (q_H × Int32)) (h : q_H) (v0 : Nat) (v1 : Int32) (v2 : Int32) (v3 : Int32) (v4 : Int32) : Option (q_H × Int32) :=
  k3 h v0 v1 v2 v3 (v4 + 1)
def b_X7_childWith_3 (k3 : q_H → Nat → Int32 → Int32 → Int32 → Int32 → Option (q_H × Int32)) (h : q_H) (v0 : Nat) (v1 : Int32) (v2 : Int32) (v3 : Int32) (v4 : Int32) : Option (q_H × Int32) :=
  if (14) ≤ v4 then some (h, (-1)) else Option.bind (f_X7_isRightBelow h v0 v4 v1) (fun q1 => if q1.2 = 0 then b_X7_childWith_47 k3 q1.1 v0 v1 v2 v3 v4 else Option.bind (q_gR 6 0 q1.1 v0) (fun x2 => Option.bind (q_lL q1.1 x2 v4) (fun x3 => Option.bind (f_X1_name q1.1 x3) (fun q4 => if q4.2 = v2 then Option.bind (f_X7_rankOf q4.1 v0 v4) (fun q5 => if q5.2 = v3 then some (q5.1, v4) else b_X7_childWith_47 k3 q5.1 v0 v1 v2 v3 v4) else b_X7_childWith_47 k3 q4.1 v0 v1 v2 v3 v4))))
def l_X7_childWith_3 : Nat → q_H → Nat → Int32 → Int32 → Int32 → Int32 → Option (q_H × Int32)
  | 0, _, _, _, _, _, _ => none
  | n + 1, h, v0, v1, v2, v3, v4 => b_X7_childWith_3 (l_X7_childWith_3 n) h v0 v1 v2 v3 v4
def b_X7_childWith_0 (h : q_H) (v0 : Nat) (v1 : Int32) (v2 : Int32) (v3 : Int32) : Option (q_H × Int32) :=
  l_X7_childWith_3 q_FU h v0 v1 v2 v3 (2)
def f_X7_childWith (h : q_H) (a0 : Nat) (a1 : Int32) (a2 : Int32) (a3 : Int32) : Option (q_H × Int32) := q_chk 6 h a0 (b_X7_childWith_0 h a0 a1 a2 a3)
set_option maxRecDepth 20000 in
set_option maxHeartbeats 1000000 in
theorem jb_X7_childWith_47 {G : q_G} {l : Launch} {k0 z0 : Nat} (k3 : q_H → Nat → Int32 → Int32 → Int32 → Int32 → Option (q_H × Int32)) (hk3 : ∀ (h : q_H) (v0 : Nat) (v1 : Int32) (v2 : Int32) (v3 : Int32) (v4 : Int32), q_J G l (RX7, cX7_childWith, 5, 3, 68, (some .int), "childWith", []) k0 z0 (q_Z G k0 z0 q_i) 3 [(0, .ref v0), (1, .int v1), (2, .int v2), (3, .int v3), (4, .int v4)] [] h (k3 h v0 v1 v2 v3 v4)) (h : q_H) (v0 : Nat) (v1 : Int32) (v2 : Int32) (v3 : Int32) (v4 : Int32) : q_J G l (RX7, cX7_childWith, 5, 3, 68, (some .int), "childWith", []) k0 z0 (q_Z G k0 z0 q_i) 47 [(0, .ref v0), (1, .int v1), (2, .int v2), (3, .int v3), (4, .int v4)] [] h (b_X7_childWith_47 k3 h v0 v1 v2 v3 v4) := by
  unfold b_X7_childWith_47
  refine j_inc (pc := 47) (p := 4) (lv' := [(4, .int (v4 + 1)), (0, .ref v0), (1, .int v1), (2, .int v2), (3, .int v3)]) rfl ki_1 (by decide) rfl dX7_childWith_47 ?_
  refine j_goto (pc := 50) (tgt := 3) dX7_childWith_50 (by decide) ?_
  refine j_sub [1, 2, 3, 4, 0] (lv' := [(0, .ref v0), (1, .int v1), (2, .int v2), (3, .int v3), (4, .int (v4 + 1))]) rfl ?_
  exact hk3 _ _ _ _ _ _
set_option maxRecDepth 20000 in
set_option maxHeartbeats 1000000 in
theorem jb_X7_childWith_3 {G : q_G} {l : Launch} {k0 z0 : Nat} (k3 : q_H → Nat → Int32 → Int32 → Int32 → Int32 → Option (q_H × Int32)) (hk3 : ∀ (h : q_H) (v0 : Nat) (v1 : Int32) (v2 : Int32) (v3 : Int32) (v4 : Int32), q_J G l (RX7, cX7_childWith, 5, 3, 68, (some .int), "childWith", []) k0 z0 (q_Z G k0 z0 q_i) 3 [(0, .ref v0), (1, .int v1), (2, .int v2), (3, .int v3), (4, .int v4)] [] h (k3 h v0 v1 v2 v3 v4)) (h : q_H) (v0 : Nat) (v1 : Int32) (v2 : Int32) (v3 : Int32) (v4 : Int32) : q_J G l (RX7, cX7_childWith, 5, 3, 68, (some .int), "childWith", []) k0 z0 (q_Z G k0 z0 q_i) 3 [(0, .ref v0), (1, .int v1), (2, .int v2), (3, .int v3), (4, .int v4)] [] h (b_X7_childWith_3 k3 h v0 v1 v2 v3 v4) := by
  unfold b_X7_childWith_3
  refine j_iload (pc := 3) (p := 4) rfl dX7_childWith_3 ?_
  refine j_bipush (pc := 5) kb_14 dX7_childWith_5 ?_
  refine j_ic_ge (pc := 7) (tgt := 53) dX7_childWith_7 (by decide) (fun _ => ?_) (fun _ => ?_)
  · refine j_iconst (pc := 53) ki_m1 dX7_childWith_53 ?_
    exact j_iret (pc := 54) rfl dX7_childWith_54
  refine j_aload_n (pc := 10) (p := 0) rfl rfl dX7_childWith_10 ?_
  refine j_iload (pc := 11) (p := 4) rfl dX7_childWith_11 ?_
  refine j_iload_n (pc := 13) (p := 1) rfl rfl dX7_childWith_13 ?_
  refine j_cVi (pc := 14) Y_X7_isRightBelow (ci := 6) (b := v0) rfl rfl ml_X7_54 im_X7_isRightBelow se_X7_isRightBelow ⟨Nat.le_of_ble_eq_true rfl, Nat.le_of_ble_eq_true rfl⟩ dX7_childWith_14 (As := [.int v4, .int v1]) (rest := []) rfl rfl (Nat.le_of_ble_eq_true rfl) (fun x hq9 => c_X7_isRightBelow _ _ _ _ _ hq9) (fun q1 _ => ?_)
  refine j_if_eq (pc := 17) (tgt := 47) dX7_childWith_17 (by decide) (fun _ => ?_) (fun _ => ?_)
  · exact jb_X7_childWith_47 k3 hk3 _ _ _ _ _ _
  refine j_aload_n (pc := 20) (p := 0) rfl rfl dX7_childWith_20 ?_
  refine j_getR (pc := 21) FI_X7 (k := 0) (by decide) fl_X7_9 dX7_childWith_21 (fun x2 _ => ?_)
  refine j_iload (pc := 24) (p := 4) rfl dX7_childWith_24 ?_
  refine j_lald (pc := 26) dX7_childWith_26 (fun x3 _ => ?_)
  refine j_cSi (pc := 27) Y_X1_name ml_X7_61 sm_X1_name ⟨Nat.le_of_ble_eq_true rfl, Nat.le_of_ble_eq_true rfl⟩ dX7_childWith_27 (As := [.long x3]) (rest := []) rfl rfl (Nat.le_of_ble_eq_true rfl) (fun x hq9 => c_X1_name _ _ _ hq9) (fun q4 _ => ?_)
  refine j_iload_n (pc := 30) (p := 2) rfl rfl dX7_childWith_30 ?_
  refine j_ic_ne (pc := 31) (tgt := 47) dX7_childWith_31 (by decide) (fun _ => ?_) (fun _ => ?_)
  · refine j_aload_n (pc := 34) (p := 0) rfl rfl dX7_childWith_34 ?_
    refine j_iload (pc := 35) (p := 4) rfl dX7_childWith_35 ?_
    refine j_cVi (pc := 37) Y_X7_rankOf (ci := 6) (b := v0) rfl rfl ml_X7_64 im_X7_rankOf se_X7_rankOf ⟨Nat.le_of_ble_eq_true rfl, Nat.le_of_ble_eq_true rfl⟩ dX7_childWith_37 (As := [.int v4]) (rest := []) rfl rfl (Nat.le_of_ble_eq_true rfl) (fun x hq9 => c_X7_rankOf _ _ _ _ hq9) (fun q5 _ => ?_)
    refine j_iload_n (pc := 40) (p := 3) rfl rfl dX7_childWith_40 ?_
    refine j_ic_ne (pc := 41) (tgt := 47) dX7_childWith_41 (by decide) (fun _ => ?_) (fun _ => ?_)
    · refine j_iload (pc := 44) (p := 4) rfl dX7_childWith_44 ?_
      exact j_iret (pc := 46) rfl dX7_childWith_46
    exact jb_X7_childWith_47 k3 hk3 _ _ _ _ _ _
  exact jb_X7_childWith_47 k3 hk3 _ _ _ _ _ _
set_option maxRecDepth 20000 in
set_option maxHeartbeats 1000000 in
theorem jl_X7_childWith_3 {G : q_G} {l : Launch} {k0 z0 : Nat} (n : Nat) : ∀ (h : q_H) (v0 : Nat) (v1 : Int32) (v2 : Int32) (v3 : Int32) (v4 : Int32), q_J G l (RX7, cX7_childWith, 5, 3, 68, (some .int), "childWith", []) k0 z0 (q_Z G k0 z0 q_i) 3 [(0, .ref v0), (1, .int v1), (2, .int v2), (3, .int v3), (4, .int v4)] [] h (l_X7_childWith_3 n h v0 v1 v2 v3 v4) := by
  induction n with
  | zero => intro h v0 v1 v2 v3 v4; exact j_none
  | succ n ih => intro h v0 v1 v2 v3 v4; exact jb_X7_childWith_3 (l_X7_childWith_3 n) ih h v0 v1 v2 v3 v4
set_option maxRecDepth 20000 in
set_option maxHeartbeats 1000000 in
theorem jb_X7_childWith_0 {G : q_G} {l : Launch} {k0 z0 : Nat} (h : q_H) (v0 : Nat) (v1 : Int32) (v2 : Int32) (v3 : Int32) : q_J G l (RX7, cX7_childWith, 5, 3, 68, (some .int), "childWith", []) k0 z0 (q_Z G k0 z0 q_i) 0 [(0, .ref v0), (1, .int v1), (2, .int v2), (3, .int v3)] [] h (b_X7_childWith_0 h v0 v1 v2 v3) := by
  unfold b_X7_childWith_0
  refine j_iconst (pc := 0) ki_2 dX7_childWith_0 ?_
  refine j_istore (pc := 1) (lv' := [(4, .int (2)), (0, .ref v0), (1, .int v1), (2, .int v2), (3, .int v3)]) (by decide) rfl dX7_childWith_1 ?_
  refine j_sub [1, 2, 3, 4, 0] (lv' := [(0, .ref v0), (1, .int v1), (2, .int v2), (3, .int v3), (4, .int (2))]) rfl ?_
  exact jl_X7_childWith_3 q_FU _ _ _ _ _ _
set_option maxRecDepth 20000 in
set_option maxHeartbeats 1000000 in
theorem c_X7_childWith {G : q_G} {l : Launch} : ∀ (h : q_H) (a0 : Nat) (a1 : Int32) (a2 : Int32) (a3 : Int32) (q : q_H × Int32), f_X7_childWith h a0 a1 a2 a3 = some q → (∃ fs, h.1 a0 = .inr (6, fs)) ∧ q_CT G l yX7_childWith cX7_childWith 5 (some .int) 3 68 [.ref a0, .int a1, .int a2, .int a3] h q.1 (q_i q.2) := by
  intro h a0 a1 a2 a3 q e
  obtain ⟨e1, e2⟩ := q_chk_ok e
  exact ⟨e1, q_ofJ Y_X7_childWith (Nat.le_of_ble_eq_true rfl) (jb_X7_childWith_0 h a0 a1 a2 a3) q e2⟩
/-! FarFolders$Tree.childrenOf(I)I -/
theorem dX7_childrenOf_0 : decode cX7_childrenOf 0 = .ok (.iconst 0, 1) := by decide +kernel
theorem dX7_childrenOf_1 : decode cX7_childrenOf 1 = .ok (.istore_n 2, 1) := by decide +kernel
theorem dX7_childrenOf_2 : decode cX7_childrenOf 2 = .ok (.iconst 2, 1) := by decide +kernel
theorem dX7_childrenOf_3 : decode cX7_childrenOf 3 = .ok (.istore_n 3, 1) := by decide +kernel
theorem dX7_childrenOf_4 : decode cX7_childrenOf 4 = .ok (.iload_n 3, 1) := by decide +kernel
theorem dX7_childrenOf_5 : decode cX7_childrenOf 5 = .ok (.bipush 14, 2) := by decide +kernel
theorem dX7_childrenOf_7 : decode cX7_childrenOf 7 = .ok (.if_icmp .ge 24, 3) := by decide +kernel
theorem dX7_childrenOf_10 : decode cX7_childrenOf 10 = .ok (.aload_n 0, 1) := by decide +kernel
theorem dX7_childrenOf_11 : decode cX7_childrenOf 11 = .ok (.iload_n 3, 1) := by decide +kernel
theorem dX7_childrenOf_12 : decode cX7_childrenOf 12 = .ok (.iload_n 1, 1) := by decide +kernel
theorem dX7_childrenOf_13 : decode cX7_childrenOf 13 = .ok (.invokevirtual 54, 3) := by decide +kernel
theorem dX7_childrenOf_16 : decode cX7_childrenOf 16 = .ok (.ifCond .eq 9, 3) := by decide +kernel
theorem dX7_childrenOf_19 : decode cX7_childrenOf 19 = .ok (.iload_n 2, 1) := by decide +kernel
theorem dX7_childrenOf_20 : decode cX7_childrenOf 20 = .ok (.iconst 1, 1) := by decide +kernel
theorem dX7_childrenOf_21 : decode cX7_childrenOf 21 = .ok (.iload_n 3, 1) := by decide +kernel
theorem dX7_childrenOf_22 : decode cX7_childrenOf 22 = .ok (.ishl, 1) := by decide +kernel
theorem dX7_childrenOf_23 : decode cX7_childrenOf 23 = .ok (.ior, 1) := by decide +kernel
theorem dX7_childrenOf_24 : decode cX7_childrenOf 24 = .ok (.istore_n 2, 1) := by decide +kernel
theorem dX7_childrenOf_25 : decode cX7_childrenOf 25 = .ok (.iinc 3 1, 3) := by decide +kernel
theorem dX7_childrenOf_28 : decode cX7_childrenOf 28 = .ok (.goto (-24), 3) := by decide +kernel
theorem dX7_childrenOf_31 : decode cX7_childrenOf 31 = .ok (.iload_n 2, 1) := by decide +kernel
theorem dX7_childrenOf_32 : decode cX7_childrenOf 32 = .ok (.ireturn, 1) := by decide +kernel
def b_X7_childrenOf_25 (k4 : q_H → Nat → Int32 → Int32 → Int32 → Option (q_H × Int32)) (h : q_H) (v0 : Nat) (v1 : Int32) (v2 : Int32) (v3 : Int32) : Option (q_H × Int32) :=
  k4 h v0 v1 v2 (v3 + 1)
def b_X7_childrenOf_4 (k4 : q_H → Nat → Int32 → Int32 → Int32 → Option (q_H × Int32)) (h : q_H) (v0 : Nat) (v1 : Int32) (v2 : Int32) (v3 : Int32) : Option (q_H × Int32) :=
  if (14) ≤ v3 then some (h, v2) else Option.bind (f_X7_isRightBelow h v0 v3 v1) (fun q1 => if q1.2 = 0 then b_X7_childrenOf_25 k4 q1.1 v0 v1 v2 v3 else b_X7_childrenOf_25 k4 q1.1 v0 v1 (v2 ||| ((1) <<< (v3 &&& 31))) v3)
def l_X7_childrenOf_4 : Nat → q_H → Nat → Int32 → Int32 → Int32 → Option (q_H × Int32)
  | 0, _, _, _, _, _ => none
  | n + 1, h, v0, v1, v2, v3 => b_X7_childrenOf_4 (l_X7_childrenOf_4 n) h v0 v1 v2 v3
def b_X7_childrenOf_0 (h : q_H) (v0 : Nat) (v1 : Int32) : Option (q_H × Int32) :=
  l_X7_childrenOf_4 q_FU h v0 v1 (0) (2)
def f_X7_childrenOf (h : q_H) (a0 : Nat) (a1 : Int32) : Option (q_H × Int32) := q_chk 6 h a0 (b_X7_childrenOf_0 h a0 a1)
set_option maxRecDepth 20000 in
set_option maxHeartbeats 1000000 in
theorem jb_X7_childrenOf_25 {G : q_G} {l : Launch} {k0 z0 : Nat} (k4 : q_H → Nat → Int32 → Int32 → Int32 → Option (q_H × Int32)) (hk4 : ∀ (h : q_H) (v0 : Nat) (v1 : Int32) (v2 : Int32) (v3 : Int32), q_J G l (RX7, cX7_childrenOf, 4, 2, 43, (some .int), "childrenOf", []) k0 z0 (q_Z G k0 z0 q_i) 4 [(0, .ref v0), (1, .int v1), (2, .int v2), (3, .int v3)] [] h (k4 h v0 v1 v2 v3)) (h : q_H) (v0 : Nat) (v1 : Int32) (v2 : Int32) (v3 : Int32) : q_J G l (RX7, cX7_childrenOf, 4, 2, 43, (some .int), "childrenOf", []) k0 z0 (q_Z G k0 z0 q_i) 25 [(0, .ref v0), (1, .int v1), (2, .int v2), (3, .int v3)] [] h (b_X7_childrenOf_25 k4 h v0 v1 v2 v3) := by
  unfold b_X7_childrenOf_25
  refine j_inc (pc := 25) (p := 3) (lv' := [(3, .int (v3 + 1)), (0, .ref v0), (1, .int v1), (2, .int v2)]) rfl ki_1 (by decide) rfl dX7_childrenOf_25 ?_
  refine j_goto (pc := 28) (tgt := 4) dX7_childrenOf_28 (by decide) ?_
  refine j_sub [1, 2, 3, 0] (lv' := [(0, .ref v0), (1, .int v1), (2, .int v2), (3, .int (v3 + 1))]) rfl ?_
  exact hk4 _ _ _ _ _
set_option maxRecDepth 20000 in
set_option maxHeartbeats 1000000 in
theorem jb_X7_childrenOf_4 {G : q_G} {l : Launch} {k0 z0 : Nat} (k4 : q_H → Nat → Int32 → Int32 → Int32 → Option (q_H × Int32)) (hk4 : ∀ (h : q_H) (v0 : Nat) (v1 : Int32) (v2 : Int32) (v3 : Int32), q_J G l (RX7, cX7_childrenOf, 4, 2, 43, (some .int), "childrenOf", []) k0 z0 (q_Z G k0 z0 q_i) 4 [(0, .ref v0), (1, .int v1), (2, .int v2), (3, .int v3)] [] h (k4 h v0 v1 v2 v3)) (h : q_H) (v0 : Nat) (v1 : Int32) (v2 : Int32) (v3 : Int32) : q_J G l (RX7, cX7_childrenOf, 4, 2, 43, (some .int), "childrenOf", []) k0 z0 (q_Z G k0 z0 q_i) 4 [(0, .ref v0), (1, .int v1), (2, .int v2), (3, .int v3)] [] h (b_X7_childrenOf_4 k4 h v0 v1 v2 v3) := by
  unfold b_X7_childrenOf_4
  refine j_iload_n (pc := 4) (p := 3) rfl rfl dX7_childrenOf_4 ?_
  refine j_bipush (pc := 5) kb_14 dX7_childrenOf_5 ?_
  refine j_ic_ge (pc := 7) (tgt := 31) dX7_childrenOf_7 (by decide) (fun _ => ?_) (fun _ => ?_)
  · refine j_iload_n (pc := 31) (p := 2) rfl rfl dX7_childrenOf_31 ?_
    exact j_iret (pc := 32) rfl dX7_childrenOf_32
  refine j_aload_n (pc := 10) (p := 0) rfl rfl dX7_childrenOf_10 ?_
  refine j_iload_n (pc := 11) (p := 3) rfl rfl dX7_childrenOf_11 ?_
  refine j_iload_n (pc := 12) (p := 1) rfl rfl dX7_childrenOf_12 ?_
  refine j_cVi (pc := 13) Y_X7_isRightBelow (ci := 6) (b := v0) rfl rfl ml_X7_54 im_X7_isRightBelow se_X7_isRightBelow ⟨Nat.le_of_ble_eq_true rfl, Nat.le_of_ble_eq_true rfl⟩ dX7_childrenOf_13 (As := [.int v3, .int v1]) (rest := []) rfl rfl (Nat.le_of_ble_eq_true rfl) (fun x hq9 => c_X7_isRightBelow _ _ _ _ _ hq9) (fun q1 _ => ?_)
  refine j_if_eq (pc := 16) (tgt := 25) dX7_childrenOf_16 (by decide) (fun _ => ?_) (fun _ => ?_)
  · exact jb_X7_childrenOf_25 k4 hk4 _ _ _ _ _
  refine j_iload_n (pc := 19) (p := 2) rfl rfl dX7_childrenOf_19 ?_
  refine j_iconst (pc := 20) ki_1 dX7_childrenOf_20 ?_
  refine j_iload_n (pc := 21) (p := 3) rfl rfl dX7_childrenOf_21 ?_
  refine j_ishl (pc := 22) dX7_childrenOf_22 ?_
  refine j_ior (pc := 23) dX7_childrenOf_23 ?_
  refine j_istore_n (pc := 24) (lv' := [(2, .int (v2 ||| ((1) <<< (v3 &&& 31)))), (0, .ref v0), (1, .int v1), (3, .int v3)]) rfl (by decide) rfl dX7_childrenOf_24 ?_
  refine j_sub [1, 2, 0, 3] (lv' := [(0, .ref v0), (1, .int v1), (2, .int (v2 ||| ((1) <<< (v3 &&& 31)))), (3, .int v3)]) rfl ?_
  exact jb_X7_childrenOf_25 k4 hk4 _ _ _ _ _
set_option maxRecDepth 20000 in
set_option maxHeartbeats 1000000 in
theorem jl_X7_childrenOf_4 {G : q_G} {l : Launch} {k0 z0 : Nat} (n : Nat) : ∀ (h : q_H) (v0 : Nat) (v1 : Int32) (v2 : Int32) (v3 : Int32), q_J G l (RX7, cX7_childrenOf, 4, 2, 43, (some .int), "childrenOf", []) k0 z0 (q_Z G k0 z0 q_i) 4 [(0, .ref v0), (1, .int v1), (2, .int v2), (3, .int v3)] [] h (l_X7_childrenOf_4 n h v0 v1 v2 v3) := by
  induction n with
  | zero => intro h v0 v1 v2 v3; exact j_none
  | succ n ih => intro h v0 v1 v2 v3; exact jb_X7_childrenOf_4 (l_X7_childrenOf_4 n) ih h v0 v1 v2 v3
set_option maxRecDepth 20000 in
set_option maxHeartbeats 1000000 in
theorem jb_X7_childrenOf_0 {G : q_G} {l : Launch} {k0 z0 : Nat} (h : q_H) (v0 : Nat) (v1 : Int32) : q_J G l (RX7, cX7_childrenOf, 4, 2, 43, (some .int), "childrenOf", []) k0 z0 (q_Z G k0 z0 q_i) 0 [(0, .ref v0), (1, .int v1)] [] h (b_X7_childrenOf_0 h v0 v1) := by
  unfold b_X7_childrenOf_0
  refine j_iconst (pc := 0) ki_0 dX7_childrenOf_0 ?_
  refine j_istore_n (pc := 1) (lv' := [(2, .int (0)), (0, .ref v0), (1, .int v1)]) rfl (by decide) rfl dX7_childrenOf_1 ?_
  refine j_iconst (pc := 2) ki_2 dX7_childrenOf_2 ?_
  refine j_istore_n (pc := 3) (lv' := [(3, .int (2)), (2, .int (0)), (0, .ref v0), (1, .int v1)]) rfl (by decide) rfl dX7_childrenOf_3 ?_
  refine j_sub [2, 3, 1, 0] (lv' := [(0, .ref v0), (1, .int v1), (2, .int (0)), (3, .int (2))]) rfl ?_
  exact jl_X7_childrenOf_4 q_FU _ _ _ _ _
set_option maxRecDepth 20000 in
set_option maxHeartbeats 1000000 in
theorem c_X7_childrenOf {G : q_G} {l : Launch} : ∀ (h : q_H) (a0 : Nat) (a1 : Int32) (q : q_H × Int32), f_X7_childrenOf h a0 a1 = some q → (∃ fs, h.1 a0 = .inr (6, fs)) ∧ q_CT G l yX7_childrenOf cX7_childrenOf 4 (some .int) 2 43 [.ref a0, .int a1] h q.1 (q_i q.2) := by
  intro h a0 a1 q e
  obtain ⟨e1, e2⟩ := q_chk_ok e
  exact ⟨e1, q_ofJ Y_X7_childrenOf (Nat.le_of_ble_eq_true rfl) (jb_X7_childrenOf_0 h a0 a1) q e2⟩
/-! FarFolders$Tree.folders()I -/
theorem dX7_folders_0 : decode cX7_folders 0 = .ok (.iconst 0, 1) := by decide +kernel
theorem dX7_folders_1 : decode cX7_folders 1 = .ok (.istore_n 1, 1) := by decide +kernel
theorem dX7_folders_2 : decode cX7_folders 2 = .ok (.iconst 2, 1) := by decide +kernel
theorem dX7_folders_3 : decode cX7_folders 3 = .ok (.istore_n 2, 1) := by decide +kernel
theorem dX7_folders_4 : decode cX7_folders 4 = .ok (.iload_n 2, 1) := by decide +kernel
theorem dX7_folders_5 : decode cX7_folders 5 = .ok (.bipush 14, 2) := by decide +kernel
theorem dX7_folders_7 : decode cX7_folders 7 = .ok (.if_icmp .ge 26, 3) := by decide +kernel
theorem dX7_folders_10 : decode cX7_folders 10 = .ok (.aload_n 0, 1) := by decide +kernel
theorem dX7_folders_11 : decode cX7_folders 11 = .ok (.getfield 9, 3) := by decide +kernel
theorem dX7_folders_14 : decode cX7_folders 14 = .ok (.iload_n 2, 1) := by decide +kernel
theorem dX7_folders_15 : decode cX7_folders 15 = .ok (.laload, 1) := by decide +kernel
theorem dX7_folders_16 : decode cX7_folders 16 = .ok (.lconst 0, 1) := by decide +kernel
theorem dX7_folders_17 : decode cX7_folders 17 = .ok (.lcmp, 1) := by decide +kernel
theorem dX7_folders_18 : decode cX7_folders 18 = .ok (.ifCond .eq 9, 3) := by decide +kernel
theorem dX7_folders_21 : decode cX7_folders 21 = .ok (.iload_n 1, 1) := by decide +kernel
theorem dX7_folders_22 : decode cX7_folders 22 = .ok (.iconst 1, 1) := by decide +kernel
theorem dX7_folders_23 : decode cX7_folders 23 = .ok (.iload_n 2, 1) := by decide +kernel
theorem dX7_folders_24 : decode cX7_folders 24 = .ok (.ishl, 1) := by decide +kernel
theorem dX7_folders_25 : decode cX7_folders 25 = .ok (.ior, 1) := by decide +kernel
theorem dX7_folders_26 : decode cX7_folders 26 = .ok (.istore_n 1, 1) := by decide +kernel
theorem dX7_folders_27 : decode cX7_folders 27 = .ok (.iinc 2 1, 3) := by decide +kernel
theorem dX7_folders_30 : decode cX7_folders 30 = .ok (.goto (-26), 3) := by decide +kernel
theorem dX7_folders_33 : decode cX7_folders 33 = .ok (.iload_n 1, 1) := by decide +kernel
theorem dX7_folders_34 : decode cX7_folders 34 = .ok (.ireturn, 1) := by decide +kernel
def b_X7_folders_27 (k4 : q_H → Nat → Int32 → Int32 → Option (q_H × Int32)) (h : q_H) (v0 : Nat) (v1 : Int32) (v2 : Int32) : Option (q_H × Int32) :=
  k4 h v0 v1 (v2 + 1)
def b_X7_folders_4 (k4 : q_H → Nat → Int32 → Int32 → Option (q_H × Int32)) (h : q_H) (v0 : Nat) (v1 : Int32) (v2 : Int32) : Option (q_H × Int32) :=
  if (14) ≤ v2 then some (h, v1) else Option.bind (q_gR 6 0 h v0) (fun x1 => Option.bind (q_lL h x1 v2) (fun x2 => if (lg_cmp x2 (0)) = 0 then b_X7_folders_27 k4 h v0 v1 v2 else b_X7_folders_27 k4 h v0 (v1 ||| ((1) <<< (v2 &&& 31))) v2))
def l_X7_folders_4 : Nat → q_H → Nat → Int32 → Int32 → Option (q_H × Int32)
  | 0, _, _, _, _ => none
  | n + 1, h, v0, v1, v2 => b_X7_folders_4 (l_X7_folders_4 n) h v0 v1 v2
def b_X7_folders_0 (h : q_H) (v0 : Nat) : Option (q_H × Int32) :=
  l_X7_folders_4 q_FU h v0 (0) (2)
def f_X7_folders (h : q_H) (a0 : Nat) : Option (q_H × Int32) := q_chk 6 h a0 (b_X7_folders_0 h a0)
set_option maxRecDepth 20000 in
set_option maxHeartbeats 1000000 in
theorem jb_X7_folders_27 {G : q_G} {l : Launch} {k0 z0 : Nat} (k4 : q_H → Nat → Int32 → Int32 → Option (q_H × Int32)) (hk4 : ∀ (h : q_H) (v0 : Nat) (v1 : Int32) (v2 : Int32), q_J G l (RX7, cX7_folders, 3, 0, 0, (some .int), "folders", []) k0 z0 (q_Z G k0 z0 q_i) 4 [(0, .ref v0), (1, .int v1), (2, .int v2)] [] h (k4 h v0 v1 v2)) (h : q_H) (v0 : Nat) (v1 : Int32) (v2 : Int32) : q_J G l (RX7, cX7_folders, 3, 0, 0, (some .int), "folders", []) k0 z0 (q_Z G k0 z0 q_i) 27 [(0, .ref v0), (1, .int v1), (2, .int v2)] [] h (b_X7_folders_27 k4 h v0 v1 v2) := by
  unfold b_X7_folders_27
  refine j_inc (pc := 27) (p := 2) (lv' := [(2, .int (v2 + 1)), (0, .ref v0), (1, .int v1)]) rfl ki_1 (by decide) rfl dX7_folders_27 ?_
  refine j_goto (pc := 30) (tgt := 4) dX7_folders_30 (by decide) ?_
  refine j_sub [1, 2, 0] (lv' := [(0, .ref v0), (1, .int v1), (2, .int (v2 + 1))]) rfl ?_
  exact hk4 _ _ _ _
set_option maxRecDepth 20000 in
set_option maxHeartbeats 1000000 in
theorem jb_X7_folders_4 {G : q_G} {l : Launch} {k0 z0 : Nat} (k4 : q_H → Nat → Int32 → Int32 → Option (q_H × Int32)) (hk4 : ∀ (h : q_H) (v0 : Nat) (v1 : Int32) (v2 : Int32), q_J G l (RX7, cX7_folders, 3, 0, 0, (some .int), "folders", []) k0 z0 (q_Z G k0 z0 q_i) 4 [(0, .ref v0), (1, .int v1), (2, .int v2)] [] h (k4 h v0 v1 v2)) (h : q_H) (v0 : Nat) (v1 : Int32) (v2 : Int32) : q_J G l (RX7, cX7_folders, 3, 0, 0, (some .int), "folders", []) k0 z0 (q_Z G k0 z0 q_i) 4 [(0, .ref v0), (1, .int v1), (2, .int v2)] [] h (b_X7_folders_4 k4 h v0 v1 v2) := by
  unfold b_X7_folders_4
  refine j_iload_n (pc := 4) (p := 2) rfl rfl dX7_folders_4 ?_
  refine j_bipush (pc := 5) kb_14 dX7_folders_5 ?_
  refine j_ic_ge (pc := 7) (tgt := 33) dX7_folders_7 (by decide) (fun _ => ?_) (fun _ => ?_)
  · refine j_iload_n (pc := 33) (p := 1) rfl rfl dX7_folders_33 ?_
    exact j_iret (pc := 34) rfl dX7_folders_34
  refine j_aload_n (pc := 10) (p := 0) rfl rfl dX7_folders_10 ?_
  refine j_getR (pc := 11) FI_X7 (k := 0) (by decide) fl_X7_9 dX7_folders_11 (fun x1 _ => ?_)
  refine j_iload_n (pc := 14) (p := 2) rfl rfl dX7_folders_14 ?_
  refine j_lald (pc := 15) dX7_folders_15 (fun x2 _ => ?_)
  refine j_lconst (pc := 16) kl_0 dX7_folders_16 ?_
  refine j_lcmp (pc := 17) dX7_folders_17 ?_
  refine j_if_eq (pc := 18) (tgt := 27) dX7_folders_18 (by decide) (fun _ => ?_) (fun _ => ?_)
  · exact jb_X7_folders_27 k4 hk4 _ _ _ _
  refine j_iload_n (pc := 21) (p := 1) rfl rfl dX7_folders_21 ?_
  refine j_iconst (pc := 22) ki_1 dX7_folders_22 ?_
  refine j_iload_n (pc := 23) (p := 2) rfl rfl dX7_folders_23 ?_
  refine j_ishl (pc := 24) dX7_folders_24 ?_
  refine j_ior (pc := 25) dX7_folders_25 ?_
  refine j_istore_n (pc := 26) (lv' := [(1, .int (v1 ||| ((1) <<< (v2 &&& 31)))), (0, .ref v0), (2, .int v2)]) rfl (by decide) rfl dX7_folders_26 ?_
  refine j_sub [1, 0, 2] (lv' := [(0, .ref v0), (1, .int (v1 ||| ((1) <<< (v2 &&& 31)))), (2, .int v2)]) rfl ?_
  exact jb_X7_folders_27 k4 hk4 _ _ _ _
set_option maxRecDepth 20000 in
set_option maxHeartbeats 1000000 in
theorem jl_X7_folders_4 {G : q_G} {l : Launch} {k0 z0 : Nat} (n : Nat) : ∀ (h : q_H) (v0 : Nat) (v1 : Int32) (v2 : Int32), q_J G l (RX7, cX7_folders, 3, 0, 0, (some .int), "folders", []) k0 z0 (q_Z G k0 z0 q_i) 4 [(0, .ref v0), (1, .int v1), (2, .int v2)] [] h (l_X7_folders_4 n h v0 v1 v2) := by
  induction n with
  | zero => intro h v0 v1 v2; exact j_none
  | succ n ih => intro h v0 v1 v2; exact jb_X7_folders_4 (l_X7_folders_4 n) ih h v0 v1 v2
set_option maxRecDepth 20000 in
set_option maxHeartbeats 1000000 in
theorem jb_X7_folders_0 {G : q_G} {l : Launch} {k0 z0 : Nat} (h : q_H) (v0 : Nat) : q_J G l (RX7, cX7_folders, 3, 0, 0, (some .int), "folders", []) k0 z0 (q_Z G k0 z0 q_i) 0 [(0, .ref v0)] [] h (b_X7_folders_0 h v0) := by
  unfold b_X7_folders_0
  refine j_iconst (pc := 0) ki_0 dX7_folders_0 ?_
  refine j_istore_n (pc := 1) (lv' := [(1, .int (0)), (0, .ref v0)]) rfl (by decide) rfl dX7_folders_1 ?_
  refine j_iconst (pc := 2) ki_2 dX7_folders_2 ?_
  refine j_istore_n (pc := 3) (lv' := [(2, .int (2)), (1, .int (0)), (0, .ref v0)]) rfl (by decide) rfl dX7_folders_3 ?_
  refine j_sub [2, 1, 0] (lv' := [(0, .ref v0), (1, .int (0)), (2, .int (2))]) rfl ?_
  exact jl_X7_folders_4 q_FU _ _ _ _
set_option maxRecDepth 20000 in
set_option maxHeartbeats 1000000 in
theorem c_X7_folders {G : q_G} {l : Launch} : ∀ (h : q_H) (a0 : Nat) (q : q_H × Int32), f_X7_folders h a0 = some q → (∃ fs, h.1 a0 = .inr (6, fs)) ∧ q_CT G l yX7_folders cX7_folders 3 (some .int) 0 0 [.ref a0] h q.1 (q_i q.2) := by
  intro h a0 q e
  obtain ⟨e1, e2⟩ := q_chk_ok e
  exact ⟨e1, q_ofJ Y_X7_folders (Nat.le_of_ble_eq_true rfl) (jb_X7_folders_0 h a0) q e2⟩
/-! FarFolders$Tree.latestWithin(I)I -/
theorem dX7_latestWithin_0 : decode cX7_latestWithin 0 = .ok (.aload_n 0, 1) := by decide +kernel
theorem dX7_latestWithin_1 : decode cX7_latestWithin 1 = .ok (.iload_n 1, 1) := by decide +kernel
theorem dX7_latestWithin_2 : decode cX7_latestWithin 2 = .ok (.invokevirtual 68, 3) := by decide +kernel
theorem dX7_latestWithin_5 : decode cX7_latestWithin 5 = .ok (.istore_n 2, 1) := by decide +kernel
theorem dX7_latestWithin_6 : decode cX7_latestWithin 6 = .ok (.iconst 0, 1) := by decide +kernel
theorem dX7_latestWithin_7 : decode cX7_latestWithin 7 = .ok (.istore_n 3, 1) := by decide +kernel
theorem dX7_latestWithin_8 : decode cX7_latestWithin 8 = .ok (.iconst 2, 1) := by decide +kernel
theorem dX7_latestWithin_9 : decode cX7_latestWithin 9 = .ok (.istore 4, 2) := by decide +kernel
theorem dX7_latestWithin_11 : decode cX7_latestWithin 11 = .ok (.iload 4, 2) := by decide +kernel
theorem dX7_latestWithin_13 : decode cX7_latestWithin 13 = .ok (.bipush 14, 2) := by decide +kernel
theorem dX7_latestWithin_15 : decode cX7_latestWithin 15 = .ok (.if_icmp .ge 34, 3) := by decide +kernel
theorem dX7_latestWithin_18 : decode cX7_latestWithin 18 = .ok (.iload_n 2, 1) := by decide +kernel
theorem dX7_latestWithin_19 : decode cX7_latestWithin 19 = .ok (.iload 4, 2) := by decide +kernel
theorem dX7_latestWithin_21 : decode cX7_latestWithin 21 = .ok (.iushr, 1) := by decide +kernel
theorem dX7_latestWithin_22 : decode cX7_latestWithin 22 = .ok (.iconst 1, 1) := by decide +kernel
theorem dX7_latestWithin_23 : decode cX7_latestWithin 23 = .ok (.iand, 1) := by decide +kernel
theorem dX7_latestWithin_24 : decode cX7_latestWithin 24 = .ok (.iconst 1, 1) := by decide +kernel
theorem dX7_latestWithin_25 : decode cX7_latestWithin 25 = .ok (.if_icmp .ne 18, 3) := by decide +kernel
theorem dX7_latestWithin_28 : decode cX7_latestWithin 28 = .ok (.iload_n 3, 1) := by decide +kernel
theorem dX7_latestWithin_29 : decode cX7_latestWithin 29 = .ok (.aload_n 0, 1) := by decide +kernel
theorem dX7_latestWithin_30 : decode cX7_latestWithin 30 = .ok (.getfield 9, 3) := by decide +kernel
theorem dX7_latestWithin_33 : decode cX7_latestWithin 33 = .ok (.iload 4, 2) := by decide +kernel
theorem dX7_latestWithin_35 : decode cX7_latestWithin 35 = .ok (.laload, 1) := by decide +kernel
theorem dX7_latestWithin_36 : decode cX7_latestWithin 36 = .ok (.invokestatic 83, 3) := by decide +kernel
theorem dX7_latestWithin_39 : decode cX7_latestWithin 39 = .ok (.invokestatic 77, 3) := by decide +kernel
theorem dX7_latestWithin_42 : decode cX7_latestWithin 42 = .ok (.istore_n 3, 1) := by decide +kernel
theorem dX7_latestWithin_43 : decode cX7_latestWithin 43 = .ok (.iinc 4 1, 3) := by decide +kernel
theorem dX7_latestWithin_46 : decode cX7_latestWithin 46 = .ok (.goto (-35), 3) := by decide +kernel
theorem dX7_latestWithin_49 : decode cX7_latestWithin 49 = .ok (.iload_n 3, 1) := by decide +kernel
theorem dX7_latestWithin_50 : decode cX7_latestWithin 50 = .ok (.ireturn, 1) := by decide +kernel
def b_X7_latestWithin_43 (k11 : q_H → Nat → Int32 → Int32 → Int32 → Option (q_H × Int32)) (h : q_H) (v0 : Nat) (v2 : Int32) (v3 : Int32) (v4 : Int32) : Option (q_H × Int32) :=
  k11 h v0 v2 v3 (v4 + 1)
def b_X7_latestWithin_11 (k11 : q_H → Nat → Int32 → Int32 → Int32 → Option (q_H × Int32)) (h : q_H) (v0 : Nat) (v2 : Int32) (v3 : Int32) (v4 : Int32) : Option (q_H × Int32) :=
  if (14) ≤ v4 then some (h, v3) else if ((q_iushr v2 v4) &&& (1)) = (1) then Option.bind (q_gR 6 0 h v0) (fun x1 => Option.bind (q_lL h x1 v4) (fun x2 => Option.bind (f_X1_time h x2) (fun q3 => b_X7_latestWithin_43 k11 q3.1 v0 v2 (q_max v3 q3.2) v4))) else b_X7_latestWithin_43 k11 h v0 v2 v3 v4
def l_X7_latestWithin_11 : Nat → q_H → Nat → Int32 → Int32 → Int32 → Option (q_H × Int32)
  | 0, _, _, _, _, _ => none
  | n + 1, h, v0, v2, v3, v4 => b_X7_latestWithin_11 (l_X7_latestWithin_11 n) h v0 v2 v3 v4
def b_X7_latestWithin_0 (h : q_H) (v0 : Nat) (v1 : Int32) : Option (q_H × Int32) :=
  Option.bind (f_X7_allWithin h v0 v1) (fun q4 => l_X7_latestWithin_11 q_FU q4.1 v0 q4.2 (0) (2))
def f_X7_latestWithin (h : q_H) (a0 : Nat) (a1 : Int32) : Option (q_H × Int32) := q_chk 6 h a0 (b_X7_latestWithin_0 h a0 a1)
set_option maxRecDepth 20000 in
set_option maxHeartbeats 1000000 in
theorem jb_X7_latestWithin_43 {G : q_G} {l : Launch} {k0 z0 : Nat} (k11 : q_H → Nat → Int32 → Int32 → Int32 → Option (q_H × Int32)) (hk11 : ∀ (h : q_H) (v0 : Nat) (v2 : Int32) (v3 : Int32) (v4 : Int32), q_J G l (RX7, cX7_latestWithin, 5, 3, 68, (some .int), "latestWithin", []) k0 z0 (q_Z G k0 z0 q_i) 11 [(0, .ref v0), (2, .int v2), (3, .int v3), (4, .int v4)] [] h (k11 h v0 v2 v3 v4)) (h : q_H) (v0 : Nat) (v2 : Int32) (v3 : Int32) (v4 : Int32) : q_J G l (RX7, cX7_latestWithin, 5, 3, 68, (some .int), "latestWithin", []) k0 z0 (q_Z G k0 z0 q_i) 43 [(0, .ref v0), (2, .int v2), (3, .int v3), (4, .int v4)] [] h (b_X7_latestWithin_43 k11 h v0 v2 v3 v4) := by
  unfold b_X7_latestWithin_43
  refine j_inc (pc := 43) (p := 3) (lv' := [(4, .int (v4 + 1)), (0, .ref v0), (2, .int v2), (3, .int v3)]) rfl ki_1 (by decide) rfl dX7_latestWithin_43 ?_
  refine j_goto (pc := 46) (tgt := 11) dX7_latestWithin_46 (by decide) ?_
  refine j_sub [1, 2, 3, 0] (lv' := [(0, .ref v0), (2, .int v2), (3, .int v3), (4, .int (v4 + 1))]) rfl ?_
  exact hk11 _ _ _ _ _
set_option maxRecDepth 20000 in
set_option maxHeartbeats 1000000 in
theorem jb_X7_latestWithin_11 {G : q_G} {l : Launch} {k0 z0 : Nat} (k11 : q_H → Nat → Int32 → Int32 → Int32 → Option (q_H × Int32)) (hk11 : ∀ (h : q_H) (v0 : Nat) (v2 : Int32) (v3 : Int32) (v4 : Int32), q_J G l (RX7, cX7_latestWithin, 5, 3, 68, (some .int), "latestWithin", []) k0 z0 (q_Z G k0 z0 q_i) 11 [(0, .ref v0), (2, .int v2), (3, .int v3), (4, .int v4)] [] h (k11 h v0 v2 v3 v4)) (h : q_H) (v0 : Nat) (v2 : Int32) (v3 : Int32) (v4 : Int32) : q_J G l (RX7, cX7_latestWithin, 5, 3, 68, (some .int), "latestWithin", []) k0 z0 (q_Z G k0 z0 q_i) 11 [(0, .ref v0), (2, .int v2), (3, .int v3), (4, .int v4)] [] h (b_X7_latestWithin_11 k11 h v0 v2 v3 v4) := by
  unfold b_X7_latestWithin_11
  refine j_iload (pc := 11) (p := 3) rfl dX7_latestWithin_11 ?_
  refine j_bipush (pc := 13) kb_14 dX7_latestWithin_13 ?_
  refine j_ic_ge (pc := 15) (tgt := 49) dX7_latestWithin_15 (by decide) (fun _ => ?_) (fun _ => ?_)
  · refine j_iload_n (pc := 49) (p := 2) rfl rfl dX7_latestWithin_49 ?_
    exact j_iret (pc := 50) rfl dX7_latestWithin_50
  refine j_iload_n (pc := 18) (p := 1) rfl rfl dX7_latestWithin_18 ?_
  refine j_iload (pc := 19) (p := 3) rfl dX7_latestWithin_19 ?_
  refine j_iushr (pc := 21) dX7_latestWithin_21 ?_
  refine j_iconst (pc := 22) ki_1 dX7_latestWithin_22 ?_
  refine j_iand (pc := 23) dX7_latestWithin_23 ?_
  refine j_iconst (pc := 24) ki_1 dX7_latestWithin_24 ?_
  refine j_ic_ne (pc := 25) (tgt := 43) dX7_latestWithin_25 (by decide) (fun _ => ?_) (fun _ => ?_)
  · refine j_iload_n (pc := 28) (p := 2) rfl rfl dX7_latestWithin_28 ?_
    refine j_aload_n (pc := 29) (p := 0) rfl rfl dX7_latestWithin_29 ?_
    refine j_getR (pc := 30) FI_X7 (k := 0) (by decide) fl_X7_9 dX7_latestWithin_30 (fun x1 _ => ?_)
    refine j_iload (pc := 33) (p := 3) rfl dX7_latestWithin_33 ?_
    refine j_lald (pc := 35) dX7_latestWithin_35 (fun x2 _ => ?_)
    refine j_cSi (pc := 36) Y_X1_time ml_X7_83 sm_X1_time ⟨Nat.le_of_ble_eq_true rfl, Nat.le_of_ble_eq_true rfl⟩ dX7_latestWithin_36 (As := [.long x2]) (rest := [.int v3]) rfl rfl (Nat.le_of_ble_eq_true rfl) (fun x hq9 => c_X1_time _ _ _ hq9) (fun q3 _ => ?_)
    refine j_max (pc := 39) ml_X7_77 sm_max ini_Math co_max ⟨Nat.le_of_ble_eq_true rfl, Nat.le_of_ble_eq_true rfl⟩ dX7_latestWithin_39 ?_
    refine j_istore_n (pc := 42) (lv' := [(3, .int (q_max v3 q3.2)), (0, .ref v0), (2, .int v2), (4, .int v4)]) rfl (by decide) rfl dX7_latestWithin_42 ?_
    refine j_sub [1, 2, 0, 3] (lv' := [(0, .ref v0), (2, .int v2), (3, .int (q_max v3 q3.2)), (4, .int v4)]) rfl ?_
    exact jb_X7_latestWithin_43 k11 hk11 _ _ _ _ _
  exact jb_X7_latestWithin_43 k11 hk11 _ _ _ _ _
set_option maxRecDepth 20000 in
set_option maxHeartbeats 1000000 in
theorem jl_X7_latestWithin_11 {G : q_G} {l : Launch} {k0 z0 : Nat} (n : Nat) : ∀ (h : q_H) (v0 : Nat) (v2 : Int32) (v3 : Int32) (v4 : Int32), q_J G l (RX7, cX7_latestWithin, 5, 3, 68, (some .int), "latestWithin", []) k0 z0 (q_Z G k0 z0 q_i) 11 [(0, .ref v0), (2, .int v2), (3, .int v3), (4, .int v4)] [] h (l_X7_latestWithin_11 n h v0 v2 v3 v4) := by
  induction n with
  | zero => intro h v0 v2 v3 v4; exact j_none
  | succ n ih => intro h v0 v2 v3 v4; exact jb_X7_latestWithin_11 (l_X7_latestWithin_11 n) ih h v0 v2 v3 v4
set_option maxRecDepth 20000 in
set_option maxHeartbeats 1000000 in
theorem jb_X7_latestWithin_0 {G : q_G} {l : Launch} {k0 z0 : Nat} (h : q_H) (v0 : Nat) (v1 : Int32) : q_J G l (RX7, cX7_latestWithin, 5, 3, 68, (some .int), "latestWithin", []) k0 z0 (q_Z G k0 z0 q_i) 0 [(0, .ref v0), (1, .int v1)] [] h (b_X7_latestWithin_0 h v0 v1) := by
  unfold b_X7_latestWithin_0
  refine j_aload_n (pc := 0) (p := 0) rfl rfl dX7_latestWithin_0 ?_
  refine j_iload_n (pc := 1) (p := 1) rfl rfl dX7_latestWithin_1 ?_
  refine j_cVi (pc := 2) Y_X7_allWithin (ci := 6) (b := v0) rfl rfl ml_X7_68 im_X7_allWithin se_X7_allWithin ⟨Nat.le_of_ble_eq_true rfl, Nat.le_of_ble_eq_true rfl⟩ dX7_latestWithin_2 (As := [.int v1]) (rest := []) rfl rfl (Nat.le_of_ble_eq_true rfl) (fun x hq9 => c_X7_allWithin _ _ _ _ hq9) (fun q4 _ => ?_)
  refine j_istore_n (pc := 5) (lv' := [(2, .int q4.2), (0, .ref v0), (1, .int v1)]) rfl (by decide) rfl dX7_latestWithin_5 ?_
  refine j_iconst (pc := 6) ki_0 dX7_latestWithin_6 ?_
  refine j_istore_n (pc := 7) (lv' := [(3, .int (0)), (2, .int q4.2), (0, .ref v0), (1, .int v1)]) rfl (by decide) rfl dX7_latestWithin_7 ?_
  refine j_iconst (pc := 8) ki_2 dX7_latestWithin_8 ?_
  refine j_istore (pc := 9) (lv' := [(4, .int (2)), (3, .int (0)), (2, .int q4.2), (0, .ref v0), (1, .int v1)]) (by decide) rfl dX7_latestWithin_9 ?_
  refine j_sub [3, 2, 1, 0] (lv' := [(0, .ref v0), (2, .int q4.2), (3, .int (0)), (4, .int (2))]) rfl ?_
  exact jl_X7_latestWithin_11 q_FU _ _ _ _ _
set_option maxRecDepth 20000 in
set_option maxHeartbeats 1000000 in
theorem c_X7_latestWithin {G : q_G} {l : Launch} : ∀ (h : q_H) (a0 : Nat) (a1 : Int32) (q : q_H × Int32), f_X7_latestWithin h a0 a1 = some q → (∃ fs, h.1 a0 = .inr (6, fs)) ∧ q_CT G l yX7_latestWithin cX7_latestWithin 5 (some .int) 3 68 [.ref a0, .int a1] h q.1 (q_i q.2) := by
  intro h a0 a1 q e
  obtain ⟨e1, e2⟩ := q_chk_ok e
  exact ⟨e1, q_ofJ Y_X7_latestWithin (Nat.le_of_ble_eq_true rfl) (jb_X7_latestWithin_0 h a0 a1) q e2⟩
/-! FarFolders$Tree.leavesWithin(I)I -/
theorem dX7_leavesWithin_0 : decode cX7_leavesWithin 0 = .ok (.aload_n 0, 1) := by decide +kernel
theorem dX7_leavesWithin_1 : decode cX7_leavesWithin 1 = .ok (.iload_n 1, 1) := by decide +kernel
theorem dX7_leavesWithin_2 : decode cX7_leavesWithin 2 = .ok (.invokevirtual 68, 3) := by decide +kernel
theorem dX7_leavesWithin_5 : decode cX7_leavesWithin 5 = .ok (.istore_n 2, 1) := by decide +kernel
theorem dX7_leavesWithin_6 : decode cX7_leavesWithin 6 = .ok (.iconst 0, 1) := by decide +kernel
theorem dX7_leavesWithin_7 : decode cX7_leavesWithin 7 = .ok (.istore_n 3, 1) := by decide +kernel
theorem dX7_leavesWithin_8 : decode cX7_leavesWithin 8 = .ok (.iconst 0, 1) := by decide +kernel
theorem dX7_leavesWithin_9 : decode cX7_leavesWithin 9 = .ok (.istore 4, 2) := by decide +kernel
theorem dX7_leavesWithin_11 : decode cX7_leavesWithin 11 = .ok (.iload 4, 2) := by decide +kernel
theorem dX7_leavesWithin_13 : decode cX7_leavesWithin 13 = .ok (.bipush 14, 2) := by decide +kernel
theorem dX7_leavesWithin_15 : decode cX7_leavesWithin 15 = .ok (.if_icmp .ge 31, 3) := by decide +kernel
theorem dX7_leavesWithin_18 : decode cX7_leavesWithin 18 = .ok (.iload_n 2, 1) := by decide +kernel
theorem dX7_leavesWithin_19 : decode cX7_leavesWithin 19 = .ok (.iload 4, 2) := by decide +kernel
theorem dX7_leavesWithin_21 : decode cX7_leavesWithin 21 = .ok (.iushr, 1) := by decide +kernel
theorem dX7_leavesWithin_22 : decode cX7_leavesWithin 22 = .ok (.iconst 1, 1) := by decide +kernel
theorem dX7_leavesWithin_23 : decode cX7_leavesWithin 23 = .ok (.iand, 1) := by decide +kernel
theorem dX7_leavesWithin_24 : decode cX7_leavesWithin 24 = .ok (.iconst 1, 1) := by decide +kernel
theorem dX7_leavesWithin_25 : decode cX7_leavesWithin 25 = .ok (.if_icmp .ne 15, 3) := by decide +kernel
theorem dX7_leavesWithin_28 : decode cX7_leavesWithin 28 = .ok (.aload_n 0, 1) := by decide +kernel
theorem dX7_leavesWithin_29 : decode cX7_leavesWithin 29 = .ok (.iload 4, 2) := by decide +kernel
theorem dX7_leavesWithin_31 : decode cX7_leavesWithin 31 = .ok (.invokevirtual 71, 3) := by decide +kernel
theorem dX7_leavesWithin_34 : decode cX7_leavesWithin 34 = .ok (.ifCond .ne 6, 3) := by decide +kernel
theorem dX7_leavesWithin_37 : decode cX7_leavesWithin 37 = .ok (.iinc 3 1, 3) := by decide +kernel
theorem dX7_leavesWithin_40 : decode cX7_leavesWithin 40 = .ok (.iinc 4 1, 3) := by decide +kernel
theorem dX7_leavesWithin_43 : decode cX7_leavesWithin 43 = .ok (.goto (-32), 3) := by decide +kernel
theorem dX7_leavesWithin_46 : decode cX7_leavesWithin 46 = .ok (.iload_n 3, 1) := by decide +kernel
theorem dX7_leavesWithin_47 : decode cX7_leavesWithin 47 = .ok (.ireturn, 1) := by decide +kernel
def b_X7_leavesWithin_40 (k11 : q_H → Nat → Int32 → Int32 → Int32 → Option (q_H × Int32)) (h : q_H) (v0 : Nat) (v2 : Int32) (v3 : Int32) (v4 : Int32) : Option (q_H × Int32) :=
  k11 h v0 v2 v3 (v4 + 1)
def b_X7_leavesWithin_11 (k11 : q_H → Nat → Int32 → Int32 → Int32 → Option (q_H × Int32)) (h : q_H) (v0 : Nat) (v2 : Int32) (v3 : Int32) (v4 : Int32) : Option (q_H × Int32) :=
  if (14) ≤ v4 then some (h, v3) else if ((q_iushr v2 v4) &&& (1)) = (1) then Option.bind (f_X7_childrenOf h v0 v4) (fun q1 => if q1.2 = 0 then b_X7_leavesWithin_40 k11 q1.1 v0 v2 (v3 + 1) v4 else b_X7_leavesWithin_40 k11 q1.1 v0 v2 v3 v4) else b_X7_leavesWithin_40 k11 h v0 v2 v3 v4
def l_X7_leavesWithin_11 : Nat → q_H → Nat → Int32 → Int32 → Int32 → Option (q_H × Int32)
  | 0, _, _, _, _, _ => none
  | n + 1, h, v0, v2, v3, v4 => b_X7_leavesWithin_11 (l_X7_leavesWithin_11 n) h v0 v2 v3 v4
def b_X7_leavesWithin_0 (h : q_H) (v0 : Nat) (v1 : Int32) : Option (q_H × Int32) :=
  Option.bind (f_X7_allWithin h v0 v1) (fun q2 => l_X7_leavesWithin_11 q_FU q2.1 v0 q2.2 (0) (0))
def f_X7_leavesWithin (h : q_H) (a0 : Nat) (a1 : Int32) : Option (q_H × Int32) := q_chk 6 h a0 (b_X7_leavesWithin_0 h a0 a1)
set_option maxRecDepth 20000 in
set_option maxHeartbeats 1000000 in
theorem jb_X7_leavesWithin_40 {G : q_G} {l : Launch} {k0 z0 : Nat} (k11 : q_H → Nat → Int32 → Int32 → Int32 → Option (q_H × Int32)) (hk11 : ∀ (h : q_H) (v0 : Nat) (v2 : Int32) (v3 : Int32) (v4 : Int32), q_J G l (RX7, cX7_leavesWithin, 5, 3, 68, (some .int), "leavesWithin", []) k0 z0 (q_Z G k0 z0 q_i) 11 [(0, .ref v0), (2, .int v2), (3, .int v3), (4, .int v4)] [] h (k11 h v0 v2 v3 v4)) (h : q_H) (v0 : Nat) (v2 : Int32) (v3 : Int32) (v4 : Int32) : q_J G l (RX7, cX7_leavesWithin, 5, 3, 68, (some .int), "leavesWithin", []) k0 z0 (q_Z G k0 z0 q_i) 40 [(0, .ref v0), (2, .int v2), (3, .int v3), (4, .int v4)] [] h (b_X7_leavesWithin_40 k11 h v0 v2 v3 v4) := by
  unfold b_X7_leavesWithin_40
  refine j_inc (pc := 40) (p := 3) (lv' := [(4, .int (v4 + 1)), (0, .ref v0), (2, .int v2), (3, .int v3)]) rfl ki_1 (by decide) rfl dX7_leavesWithin_40 ?_
  refine j_goto (pc := 43) (tgt := 11) dX7_leavesWithin_43 (by decide) ?_
  refine j_sub [1, 2, 3, 0] (lv' := [(0, .ref v0), (2, .int v2), (3, .int v3), (4, .int (v4 + 1))]) rfl ?_
  exact hk11 _ _ _ _ _
set_option maxRecDepth 20000 in
set_option maxHeartbeats 1000000 in
theorem jb_X7_leavesWithin_11 {G : q_G} {l : Launch} {k0 z0 : Nat} (k11 : q_H → Nat → Int32 → Int32 → Int32 → Option (q_H × Int32)) (hk11 : ∀ (h : q_H) (v0 : Nat) (v2 : Int32) (v3 : Int32) (v4 : Int32), q_J G l (RX7, cX7_leavesWithin, 5, 3, 68, (some .int), "leavesWithin", []) k0 z0 (q_Z G k0 z0 q_i) 11 [(0, .ref v0), (2, .int v2), (3, .int v3), (4, .int v4)] [] h (k11 h v0 v2 v3 v4)) (h : q_H) (v0 : Nat) (v2 : Int32) (v3 : Int32) (v4 : Int32) : q_J G l (RX7, cX7_leavesWithin, 5, 3, 68, (some .int), "leavesWithin", []) k0 z0 (q_Z G k0 z0 q_i) 11 [(0, .ref v0), (2, .int v2), (3, .int v3), (4, .int v4)] [] h (b_X7_leavesWithin_11 k11 h v0 v2 v3 v4) := by
  unfold b_X7_leavesWithin_11
  refine j_iload (pc := 11) (p := 3) rfl dX7_leavesWithin_11 ?_
  refine j_bipush (pc := 13) kb_14 dX7_leavesWithin_13 ?_
  refine j_ic_ge (pc := 15) (tgt := 46) dX7_leavesWithin_15 (by decide) (fun _ => ?_) (fun _ => ?_)
  · refine j_iload_n (pc := 46) (p := 2) rfl rfl dX7_leavesWithin_46 ?_
    exact j_iret (pc := 47) rfl dX7_leavesWithin_47
  refine j_iload_n (pc := 18) (p := 1) rfl rfl dX7_leavesWithin_18 ?_
  refine j_iload (pc := 19) (p := 3) rfl dX7_leavesWithin_19 ?_
  refine j_iushr (pc := 21) dX7_leavesWithin_21 ?_
  refine j_iconst (pc := 22) ki_1 dX7_leavesWithin_22 ?_
  refine j_iand (pc := 23) dX7_leavesWithin_23 ?_
  refine j_iconst (pc := 24) ki_1 dX7_leavesWithin_24 ?_
  refine j_ic_ne (pc := 25) (tgt := 40) dX7_leavesWithin_25 (by decide) (fun _ => ?_) (fun _ => ?_)
  · refine j_aload_n (pc := 28) (p := 0) rfl rfl dX7_leavesWithin_28 ?_
    refine j_iload (pc := 29) (p := 3) rfl dX7_leavesWithin_29 ?_
    refine j_cVi (pc := 31) Y_X7_childrenOf (ci := 6) (b := v0) rfl rfl ml_X7_71 im_X7_childrenOf se_X7_childrenOf ⟨Nat.le_of_ble_eq_true rfl, Nat.le_of_ble_eq_true rfl⟩ dX7_leavesWithin_31 (As := [.int v4]) (rest := []) rfl rfl (Nat.le_of_ble_eq_true rfl) (fun x hq9 => c_X7_childrenOf _ _ _ _ hq9) (fun q1 _ => ?_)
    refine j_if_ne (pc := 34) (tgt := 40) dX7_leavesWithin_34 (by decide) (fun _ => ?_) (fun _ => ?_)
    · refine j_inc (pc := 37) (p := 2) (lv' := [(3, .int (v3 + 1)), (0, .ref v0), (2, .int v2), (4, .int v4)]) rfl ki_1 (by decide) rfl dX7_leavesWithin_37 ?_
      refine j_sub [1, 2, 0, 3] (lv' := [(0, .ref v0), (2, .int v2), (3, .int (v3 + 1)), (4, .int v4)]) rfl ?_
      exact jb_X7_leavesWithin_40 k11 hk11 _ _ _ _ _
    exact jb_X7_leavesWithin_40 k11 hk11 _ _ _ _ _
  exact jb_X7_leavesWithin_40 k11 hk11 _ _ _ _ _
set_option maxRecDepth 20000 in
set_option maxHeartbeats 1000000 in
theorem jl_X7_leavesWithin_11 {G : q_G} {l : Launch} {k0 z0 : Nat} (n : Nat) : ∀ (h : q_H) (v0 : Nat) (v2 : Int32) (v3 : Int32) (v4 : Int32), q_J G l (RX7, cX7_leavesWithin, 5, 3, 68, (some .int), "leavesWithin", []) k0 z0 (q_Z G k0 z0 q_i) 11 [(0, .ref v0), (2, .int v2), (3, .int v3), (4, .int v4)] [] h (l_X7_leavesWithin_11 n h v0 v2 v3 v4) := by
  induction n with
  | zero => intro h v0 v2 v3 v4; exact j_none
  | succ n ih => intro h v0 v2 v3 v4; exact jb_X7_leavesWithin_11 (l_X7_leavesWithin_11 n) ih h v0 v2 v3 v4
set_option maxRecDepth 20000 in
set_option maxHeartbeats 1000000 in
theorem jb_X7_leavesWithin_0 {G : q_G} {l : Launch} {k0 z0 : Nat} (h : q_H) (v0 : Nat) (v1 : Int32) : q_J G l (RX7, cX7_leavesWithin, 5, 3, 68, (some .int), "leavesWithin", []) k0 z0 (q_Z G k0 z0 q_i) 0 [(0, .ref v0), (1, .int v1)] [] h (b_X7_leavesWithin_0 h v0 v1) := by
  unfold b_X7_leavesWithin_0
  refine j_aload_n (pc := 0) (p := 0) rfl rfl dX7_leavesWithin_0 ?_
  refine j_iload_n (pc := 1) (p := 1) rfl rfl dX7_leavesWithin_1 ?_
  refine j_cVi (pc := 2) Y_X7_allWithin (ci := 6) (b := v0) rfl rfl ml_X7_68 im_X7_allWithin se_X7_allWithin ⟨Nat.le_of_ble_eq_true rfl, Nat.le_of_ble_eq_true rfl⟩ dX7_leavesWithin_2 (As := [.int v1]) (rest := []) rfl rfl (Nat.le_of_ble_eq_true rfl) (fun x hq9 => c_X7_allWithin _ _ _ _ hq9) (fun q2 _ => ?_)
  refine j_istore_n (pc := 5) (lv' := [(2, .int q2.2), (0, .ref v0), (1, .int v1)]) rfl (by decide) rfl dX7_leavesWithin_5 ?_
  refine j_iconst (pc := 6) ki_0 dX7_leavesWithin_6 ?_
  refine j_istore_n (pc := 7) (lv' := [(3, .int (0)), (2, .int q2.2), (0, .ref v0), (1, .int v1)]) rfl (by decide) rfl dX7_leavesWithin_7 ?_
  refine j_iconst (pc := 8) ki_0 dX7_leavesWithin_8 ?_
  refine j_istore (pc := 9) (lv' := [(4, .int (0)), (3, .int (0)), (2, .int q2.2), (0, .ref v0), (1, .int v1)]) (by decide) rfl dX7_leavesWithin_9 ?_
  refine j_sub [3, 2, 1, 0] (lv' := [(0, .ref v0), (2, .int q2.2), (3, .int (0)), (4, .int (0))]) rfl ?_
  exact jl_X7_leavesWithin_11 q_FU _ _ _ _ _
set_option maxRecDepth 20000 in
set_option maxHeartbeats 1000000 in
theorem c_X7_leavesWithin {G : q_G} {l : Launch} : ∀ (h : q_H) (a0 : Nat) (a1 : Int32) (q : q_H × Int32), f_X7_leavesWithin h a0 a1 = some q → (∃ fs, h.1 a0 = .inr (6, fs)) ∧ q_CT G l yX7_leavesWithin cX7_leavesWithin 5 (some .int) 3 68 [.ref a0, .int a1] h q.1 (q_i q.2) := by
  intro h a0 a1 q e
  obtain ⟨e1, e2⟩ := q_chk_ok e
  exact ⟨e1, q_ofJ Y_X7_leavesWithin (Nat.le_of_ble_eq_true rfl) (jb_X7_leavesWithin_0 h a0 a1) q e2⟩
/-! FarFolders$Tree.looksAs(LFarFolders$Tree;)Z -/
theorem dX7_looksAs_0 : decode cX7_looksAs 0 = .ok (.iconst 2, 1) := by decide +kernel
theorem dX7_looksAs_1 : decode cX7_looksAs 1 = .ok (.istore_n 2, 1) := by decide +kernel
theorem dX7_looksAs_2 : decode cX7_looksAs 2 = .ok (.iload_n 2, 1) := by decide +kernel
theorem dX7_looksAs_3 : decode cX7_looksAs 3 = .ok (.bipush 14, 2) := by decide +kernel
theorem dX7_looksAs_5 : decode cX7_looksAs 5 = .ok (.if_icmp .ge 33, 3) := by decide +kernel
theorem dX7_looksAs_8 : decode cX7_looksAs 8 = .ok (.aload_n 0, 1) := by decide +kernel
theorem dX7_looksAs_9 : decode cX7_looksAs 9 = .ok (.getfield 9, 3) := by decide +kernel
theorem dX7_looksAs_12 : decode cX7_looksAs 12 = .ok (.iload_n 2, 1) := by decide +kernel
theorem dX7_looksAs_13 : decode cX7_looksAs 13 = .ok (.laload, 1) := by decide +kernel
theorem dX7_looksAs_14 : decode cX7_looksAs 14 = .ok (.aload_n 1, 1) := by decide +kernel
theorem dX7_looksAs_15 : decode cX7_looksAs 15 = .ok (.getfield 9, 3) := by decide +kernel
theorem dX7_looksAs_18 : decode cX7_looksAs 18 = .ok (.iload_n 2, 1) := by decide +kernel
theorem dX7_looksAs_19 : decode cX7_looksAs 19 = .ok (.laload, 1) := by decide +kernel
theorem dX7_looksAs_20 : decode cX7_looksAs 20 = .ok (.lxor, 1) := by decide +kernel
theorem dX7_looksAs_21 : decode cX7_looksAs 21 = .ok (.ldc2_w 52, 3) := by decide +kernel
theorem dX7_looksAs_24 : decode cX7_looksAs 24 = .ok (.land, 1) := by decide +kernel
theorem dX7_looksAs_25 : decode cX7_looksAs 25 = .ok (.lconst 0, 1) := by decide +kernel
theorem dX7_looksAs_26 : decode cX7_looksAs 26 = .ok (.lcmp, 1) := by decide +kernel
theorem dX7_looksAs_27 : decode cX7_looksAs 27 = .ok (.ifCond .eq 5, 3) := by decide +kernel
theorem dX7_looksAs_30 : decode cX7_looksAs 30 = .ok (.iconst 0, 1) := by decide +kernel
theorem dX7_looksAs_31 : decode cX7_looksAs 31 = .ok (.ireturn, 1) := by decide +kernel
theorem dX7_looksAs_32 : decode cX7_looksAs 32 = .ok (.iinc 2 1, 3) := by decide +kernel
theorem dX7_looksAs_35 : decode cX7_looksAs 35 = .ok (.goto (-33), 3) := by decide +kernel
theorem dX7_looksAs_38 : decode cX7_looksAs 38 = .ok (.iconst 1, 1) := by decide +kernel
theorem dX7_looksAs_39 : decode cX7_looksAs 39 = .ok (.ireturn, 1) := by decide +kernel
def b_X7_looksAs_2 (k2 : q_H → Nat → Nat → Int32 → Option (q_H × Int32)) (h : q_H) (v0 : Nat) (v1 : Nat) (v2 : Int32) : Option (q_H × Int32) :=
  if (14) ≤ v2 then some (h, (1)) else Option.bind (q_gR 6 0 h v0) (fun x1 => Option.bind (q_lL h x1 v2) (fun x2 => Option.bind (q_gR 6 0 h v1) (fun x3 => Option.bind (q_lL h x3 v2) (fun x4 => if (lg_cmp ((x2 ^^^ x4) &&& (4095)) (0)) = 0 then k2 h v0 v1 (v2 + 1) else some (h, (0))))))
def l_X7_looksAs_2 : Nat → q_H → Nat → Nat → Int32 → Option (q_H × Int32)
  | 0, _, _, _, _ => none
  | n + 1, h, v0, v1, v2 => b_X7_looksAs_2 (l_X7_looksAs_2 n) h v0 v1 v2
def b_X7_looksAs_0 (h : q_H) (v0 : Nat) (v1 : Nat) : Option (q_H × Int32) :=
  l_X7_looksAs_2 q_FU h v0 v1 (2)
def f_X7_looksAs (h : q_H) (a0 : Nat) (a1 : Nat) : Option (q_H × Int32) := q_chk 6 h a0 (b_X7_looksAs_0 h a0 a1)
set_option maxRecDepth 20000 in
set_option maxHeartbeats 1000000 in
theorem jb_X7_looksAs_2 {G : q_G} {l : Launch} {k0 z0 : Nat} (k2 : q_H → Nat → Nat → Int32 → Option (q_H × Int32)) (hk2 : ∀ (h : q_H) (v0 : Nat) (v1 : Nat) (v2 : Int32), q_J G l (RX7, cX7_looksAs, 3, 0, 0, (some .boolean), "looksAs", []) k0 z0 (q_Z G k0 z0 q_i) 2 [(0, .ref v0), (1, .ref v1), (2, .int v2)] [] h (k2 h v0 v1 v2)) (h : q_H) (v0 : Nat) (v1 : Nat) (v2 : Int32) : q_J G l (RX7, cX7_looksAs, 3, 0, 0, (some .boolean), "looksAs", []) k0 z0 (q_Z G k0 z0 q_i) 2 [(0, .ref v0), (1, .ref v1), (2, .int v2)] [] h (b_X7_looksAs_2 k2 h v0 v1 v2) := by
  unfold b_X7_looksAs_2
  refine j_iload_n (pc := 2) (p := 2) rfl rfl dX7_looksAs_2 ?_
  refine j_bipush (pc := 3) kb_14 dX7_looksAs_3 ?_
  refine j_ic_ge (pc := 5) (tgt := 38) dX7_looksAs_5 (by decide) (fun _ => ?_) (fun _ => ?_)
  · refine j_iconst (pc := 38) ki_1 dX7_looksAs_38 ?_
    exact j_zret (pc := 39) rfl rfl dX7_looksAs_39
  refine j_aload_n (pc := 8) (p := 0) rfl rfl dX7_looksAs_8 ?_
  refine j_getR (pc := 9) FI_X7 (k := 0) (by decide) fl_X7_9 dX7_looksAs_9 (fun x1 _ => ?_)
  refine j_iload_n (pc := 12) (p := 2) rfl rfl dX7_looksAs_12 ?_
  refine j_lald (pc := 13) dX7_looksAs_13 (fun x2 _ => ?_)
  refine j_aload_n (pc := 14) (p := 1) rfl rfl dX7_looksAs_14 ?_
  refine j_getR (pc := 15) FI_X7 (k := 0) (by decide) fl_X7_9 dX7_looksAs_15 (fun x3 _ => ?_)
  refine j_iload_n (pc := 18) (p := 2) rfl rfl dX7_looksAs_18 ?_
  refine j_lald (pc := 19) dX7_looksAs_19 (fun x4 _ => ?_)
  refine j_lxor (pc := 20) dX7_looksAs_20 ?_
  refine j_ldc2 (pc := 21) cL_X7_52 dX7_looksAs_21 ?_
  refine j_land (pc := 24) dX7_looksAs_24 ?_
  refine j_lconst (pc := 25) kl_0 dX7_looksAs_25 ?_
  refine j_lcmp (pc := 26) dX7_looksAs_26 ?_
  refine j_if_eq (pc := 27) (tgt := 32) dX7_looksAs_27 (by decide) (fun _ => ?_) (fun _ => ?_)
  · refine j_inc (pc := 32) (p := 2) (lv' := [(2, .int (v2 + 1)), (0, .ref v0), (1, .ref v1)]) rfl ki_1 (by decide) rfl dX7_looksAs_32 ?_
    refine j_goto (pc := 35) (tgt := 2) dX7_looksAs_35 (by decide) ?_
    refine j_sub [1, 2, 0] (lv' := [(0, .ref v0), (1, .ref v1), (2, .int (v2 + 1))]) rfl ?_
    exact hk2 _ _ _ _
  refine j_iconst (pc := 30) ki_0 dX7_looksAs_30 ?_
  exact j_zret (pc := 31) rfl rfl dX7_looksAs_31
set_option maxRecDepth 20000 in
set_option maxHeartbeats 1000000 in
theorem jl_X7_looksAs_2 {G : q_G} {l : Launch} {k0 z0 : Nat} (n : Nat) : ∀ (h : q_H) (v0 : Nat) (v1 : Nat) (v2 : Int32), q_J G l (RX7, cX7_looksAs, 3, 0, 0, (some .boolean), "looksAs", []) k0 z0 (q_Z G k0 z0 q_i) 2 [(0, .ref v0), (1, .ref v1), (2, .int v2)] [] h (l_X7_looksAs_2 n h v0 v1 v2) := by
  induction n with
  | zero => intro h v0 v1 v2; exact j_none
  | succ n ih => intro h v0 v1 v2; exact jb_X7_looksAs_2 (l_X7_looksAs_2 n) ih h v0 v1 v2
set_option maxRecDepth 20000 in
set_option maxHeartbeats 1000000 in
theorem jb_X7_looksAs_0 {G : q_G} {l : Launch} {k0 z0 : Nat} (h : q_H) (v0 : Nat) (v1 : Nat) : q_J G l (RX7, cX7_looksAs, 3, 0, 0, (some .boolean), "looksAs", []) k0 z0 (q_Z G k0 z0 q_i) 0 [(0, .ref v0), (1, .ref v1)] [] h (b_X7_looksAs_0 h v0 v1) := by
  unfold b_X7_looksAs_0
  refine j_iconst (pc := 0) ki_2 dX7_looksAs_0 ?_
  refine j_istore_n (pc := 1) (lv' := [(2, .int (2)), (0, .ref v0), (1, .ref v1)]) rfl (by decide) rfl dX7_looksAs_1 ?_
  refine j_sub [1, 2, 0] (lv' := [(0, .ref v0), (1, .ref v1), (2, .int (2))]) rfl ?_
  exact jl_X7_looksAs_2 q_FU _ _ _ _
set_option maxRecDepth 20000 in
set_option maxHeartbeats 1000000 in
theorem c_X7_looksAs {G : q_G} {l : Launch} : ∀ (h : q_H) (a0 : Nat) (a1 : Nat) (q : q_H × Int32), f_X7_looksAs h a0 a1 = some q → (∃ fs, h.1 a0 = .inr (6, fs)) ∧ q_CT G l yX7_looksAs cX7_looksAs 3 (some .boolean) 0 0 [.ref a0, .ref a1] h q.1 (q_i q.2) := by
  intro h a0 a1 q e
  obtain ⟨e1, e2⟩ := q_chk_ok e
  exact ⟨e1, q_ofJ Y_X7_looksAs (Nat.le_of_ble_eq_true rfl) (jb_X7_looksAs_0 h a0 a1) q e2⟩
/-! FarFolders$Tree.otherThan(LFarFolders$Tree;)I -/
theorem dX7_otherThan_0 : decode cX7_otherThan 0 = .ok (.iconst 0, 1) := by decide +kernel
theorem dX7_otherThan_1 : decode cX7_otherThan 1 = .ok (.istore_n 2, 1) := by decide +kernel
theorem dX7_otherThan_2 : decode cX7_otherThan 2 = .ok (.iconst 2, 1) := by decide +kernel
theorem dX7_otherThan_3 : decode cX7_otherThan 3 = .ok (.istore_n 3, 1) := by decide +kernel
theorem dX7_otherThan_4 : decode cX7_otherThan 4 = .ok (.iload_n 3, 1) := by decide +kernel
theorem dX7_otherThan_5 : decode cX7_otherThan 5 = .ok (.bipush 14, 2) := by decide +kernel
theorem dX7_otherThan_7 : decode cX7_otherThan 7 = .ok (.if_icmp .ge 31, 3) := by decide +kernel
theorem dX7_otherThan_10 : decode cX7_otherThan 10 = .ok (.aload_n 0, 1) := by decide +kernel
theorem dX7_otherThan_11 : decode cX7_otherThan 11 = .ok (.getfield 9, 3) := by decide +kernel
theorem dX7_otherThan_14 : decode cX7_otherThan 14 = .ok (.iload_n 3, 1) := by decide +kernel
theorem dX7_otherThan_15 : decode cX7_otherThan 15 = .ok (.laload, 1) := by decide +kernel
theorem dX7_otherThan_16 : decode cX7_otherThan 16 = .ok (.aload_n 1, 1) := by decide +kernel
theorem dX7_otherThan_17 : decode cX7_otherThan 17 = .ok (.getfield 9, 3) := by decide +kernel
theorem dX7_otherThan_20 : decode cX7_otherThan 20 = .ok (.iload_n 3, 1) := by decide +kernel
theorem dX7_otherThan_21 : decode cX7_otherThan 21 = .ok (.laload, 1) := by decide +kernel
theorem dX7_otherThan_22 : decode cX7_otherThan 22 = .ok (.lcmp, 1) := by decide +kernel
theorem dX7_otherThan_23 : decode cX7_otherThan 23 = .ok (.ifCond .eq 9, 3) := by decide +kernel
theorem dX7_otherThan_26 : decode cX7_otherThan 26 = .ok (.iload_n 2, 1) := by decide +kernel
theorem dX7_otherThan_27 : decode cX7_otherThan 27 = .ok (.iconst 1, 1) := by decide +kernel
theorem dX7_otherThan_28 : decode cX7_otherThan 28 = .ok (.iload_n 3, 1) := by decide +kernel
theorem dX7_otherThan_29 : decode cX7_otherThan 29 = .ok (.ishl, 1) := by decide +kernel
theorem dX7_otherThan_30 : decode cX7_otherThan 30 = .ok (.ior, 1) := by decide +kernel
theorem dX7_otherThan_31 : decode cX7_otherThan 31 = .ok (.istore_n 2, 1) := by decide +kernel
theorem dX7_otherThan_32 : decode cX7_otherThan 32 = .ok (.iinc 3 1, 3) := by decide +kernel
theorem dX7_otherThan_35 : decode cX7_otherThan 35 = .ok (.goto (-31), 3) := by decide +kernel
theorem dX7_otherThan_38 : decode cX7_otherThan 38 = .ok (.iload_n 2, 1) := by decide +kernel
theorem dX7_otherThan_39 : decode cX7_otherThan 39 = .ok (.ireturn, 1) := by decide +kernel
def b_X7_otherThan_32 (k4 : q_H → Nat → Nat → Int32 → Int32 → Option (q_H × Int32)) (h : q_H) (v0 : Nat) (v1 : Nat) (v2 : Int32) (v3 : Int32) : Option (q_H × Int32) :=
  k4 h v0 v1 v2 (v3 + 1)
def b_X7_otherThan_4 (k4 : q_H → Nat → Nat → Int32 → Int32 → Option (q_H × Int32)) (h : q_H) (v0 : Nat) (v1 : Nat) (v2 : Int32) (v3 : Int32) : Option (q_H × Int32) :=
  if (14) ≤ v3 then some (h, v2) else Option.bind (q_gR 6 0 h v0) (fun x1 => Option.bind (q_lL h x1 v3) (fun x2 => Option.bind (q_gR 6 0 h v1) (fun x3 => Option.bind (q_lL h x3 v3) (fun x4 => if (lg_cmp x2 x4) = 0 then b_X7_otherThan_32 k4 h v0 v1 v2 v3 else b_X7_otherThan_32 k4 h v0 v1 (v2 ||| ((1) <<< (v3 &&& 31))) v3))))
def l_X7_otherThan_4 : Nat → q_H → Nat → Nat → Int32 → Int32 → Option (q_H × Int32)
  | 0, _, _, _, _, _ => none
  | n + 1, h, v0, v1, v2, v3 => b_X7_otherThan_4 (l_X7_otherThan_4 n) h v0 v1 v2 v3
def b_X7_otherThan_0 (h : q_H) (v0 : Nat) (v1 : Nat) : Option (q_H × Int32) :=
  l_X7_otherThan_4 q_FU h v0 v1 (0) (2)
def f_X7_otherThan (h : q_H) (a0 : Nat) (a1 : Nat) : Option (q_H × Int32) := q_chk 6 h a0 (b_X7_otherThan_0 h a0 a1)
set_option maxRecDepth 20000 in
set_option maxHeartbeats 1000000 in
theorem jb_X7_otherThan_32 {G : q_G} {l : Launch} {k0 z0 : Nat} (k4 : q_H → Nat → Nat → Int32 → Int32 → Option (q_H × Int32)) (hk4 : ∀ (h : q_H) (v0 : Nat) (v1 : Nat) (v2 : Int32) (v3 : Int32), q_J G l (RX7, cX7_otherThan, 4, 0, 0, (some .int), "otherThan", []) k0 z0 (q_Z G k0 z0 q_i) 4 [(0, .ref v0), (1, .ref v1), (2, .int v2), (3, .int v3)] [] h (k4 h v0 v1 v2 v3)) (h : q_H) (v0 : Nat) (v1 : Nat) (v2 : Int32) (v3 : Int32) : q_J G l (RX7, cX7_otherThan, 4, 0, 0, (some .int), "otherThan", []) k0 z0 (q_Z G k0 z0 q_i) 32 [(0, .ref v0), (1, .ref v1), (2, .int v2), (3, .int v3)] [] h (b_X7_otherThan_32 k4 h v0 v1 v2 v3) := by
  unfold b_X7_otherThan_32
  refine j_inc (pc := 32) (p := 3) (lv' := [(3, .int (v3 + 1)), (0, .ref v0), (1, .ref v1), (2, .int v2)]) rfl ki_1 (by decide) rfl dX7_otherThan_32 ?_
  refine j_goto (pc := 35) (tgt := 4) dX7_otherThan_35 (by decide) ?_
  refine j_sub [1, 2, 3, 0] (lv' := [(0, .ref v0), (1, .ref v1), (2, .int v2), (3, .int (v3 + 1))]) rfl ?_
  exact hk4 _ _ _ _ _
set_option maxRecDepth 20000 in
set_option maxHeartbeats 1000000 in
theorem jb_X7_otherThan_4 {G : q_G} {l : Launch} {k0 z0 : Nat} (k4 : q_H → Nat → Nat → Int32 → Int32 → Option (q_H × Int32)) (hk4 : ∀ (h : q_H) (v0 : Nat) (v1 : Nat) (v2 : Int32) (v3 : Int32), q_J G l (RX7, cX7_otherThan, 4, 0, 0, (some .int), "otherThan", []) k0 z0 (q_Z G k0 z0 q_i) 4 [(0, .ref v0), (1, .ref v1), (2, .int v2), (3, .int v3)] [] h (k4 h v0 v1 v2 v3)) (h : q_H) (v0 : Nat) (v1 : Nat) (v2 : Int32) (v3 : Int32) : q_J G l (RX7, cX7_otherThan, 4, 0, 0, (some .int), "otherThan", []) k0 z0 (q_Z G k0 z0 q_i) 4 [(0, .ref v0), (1, .ref v1), (2, .int v2), (3, .int v3)] [] h (b_X7_otherThan_4 k4 h v0 v1 v2 v3) := by
  unfold b_X7_otherThan_4
  refine j_iload_n (pc := 4) (p := 3) rfl rfl dX7_otherThan_4 ?_
  refine j_bipush (pc := 5) kb_14 dX7_otherThan_5 ?_
  refine j_ic_ge (pc := 7) (tgt := 38) dX7_otherThan_7 (by decide) (fun _ => ?_) (fun _ => ?_)
  · refine j_iload_n (pc := 38) (p := 2) rfl rfl dX7_otherThan_38 ?_
    exact j_iret (pc := 39) rfl dX7_otherThan_39
  refine j_aload_n (pc := 10) (p := 0) rfl rfl dX7_otherThan_10 ?_
  refine j_getR (pc := 11) FI_X7 (k := 0) (by decide) fl_X7_9 dX7_otherThan_11 (fun x1 _ => ?_)
  refine j_iload_n (pc := 14) (p := 3) rfl rfl dX7_otherThan_14 ?_
  refine j_lald (pc := 15) dX7_otherThan_15 (fun x2 _ => ?_)
  refine j_aload_n (pc := 16) (p := 1) rfl rfl dX7_otherThan_16 ?_
  refine j_getR (pc := 17) FI_X7 (k := 0) (by decide) fl_X7_9 dX7_otherThan_17 (fun x3 _ => ?_)
  refine j_iload_n (pc := 20) (p := 3) rfl rfl dX7_otherThan_20 ?_
  refine j_lald (pc := 21) dX7_otherThan_21 (fun x4 _ => ?_)
  refine j_lcmp (pc := 22) dX7_otherThan_22 ?_
  refine j_if_eq (pc := 23) (tgt := 32) dX7_otherThan_23 (by decide) (fun _ => ?_) (fun _ => ?_)
  · exact jb_X7_otherThan_32 k4 hk4 _ _ _ _ _
  refine j_iload_n (pc := 26) (p := 2) rfl rfl dX7_otherThan_26 ?_
  refine j_iconst (pc := 27) ki_1 dX7_otherThan_27 ?_
  refine j_iload_n (pc := 28) (p := 3) rfl rfl dX7_otherThan_28 ?_
  refine j_ishl (pc := 29) dX7_otherThan_29 ?_
  refine j_ior (pc := 30) dX7_otherThan_30 ?_
  refine j_istore_n (pc := 31) (lv' := [(2, .int (v2 ||| ((1) <<< (v3 &&& 31)))), (0, .ref v0), (1, .ref v1), (3, .int v3)]) rfl (by decide) rfl dX7_otherThan_31 ?_
  refine j_sub [1, 2, 0, 3] (lv' := [(0, .ref v0), (1, .ref v1), (2, .int (v2 ||| ((1) <<< (v3 &&& 31)))), (3, .int v3)]) rfl ?_
  exact jb_X7_otherThan_32 k4 hk4 _ _ _ _ _
set_option maxRecDepth 20000 in
set_option maxHeartbeats 1000000 in
theorem jl_X7_otherThan_4 {G : q_G} {l : Launch} {k0 z0 : Nat} (n : Nat) : ∀ (h : q_H) (v0 : Nat) (v1 : Nat) (v2 : Int32) (v3 : Int32), q_J G l (RX7, cX7_otherThan, 4, 0, 0, (some .int), "otherThan", []) k0 z0 (q_Z G k0 z0 q_i) 4 [(0, .ref v0), (1, .ref v1), (2, .int v2), (3, .int v3)] [] h (l_X7_otherThan_4 n h v0 v1 v2 v3) := by
  induction n with
  | zero => intro h v0 v1 v2 v3; exact j_none
  | succ n ih => intro h v0 v1 v2 v3; exact jb_X7_otherThan_4 (l_X7_otherThan_4 n) ih h v0 v1 v2 v3
set_option maxRecDepth 20000 in
set_option maxHeartbeats 1000000 in
theorem jb_X7_otherThan_0 {G : q_G} {l : Launch} {k0 z0 : Nat} (h : q_H) (v0 : Nat) (v1 : Nat) : q_J G l (RX7, cX7_otherThan, 4, 0, 0, (some .int), "otherThan", []) k0 z0 (q_Z G k0 z0 q_i) 0 [(0, .ref v0), (1, .ref v1)] [] h (b_X7_otherThan_0 h v0 v1) := by
  unfold b_X7_otherThan_0
  refine j_iconst (pc := 0) ki_0 dX7_otherThan_0 ?_
  refine j_istore_n (pc := 1) (lv' := [(2, .int (0)), (0, .ref v0), (1, .ref v1)]) rfl (by decide) rfl dX7_otherThan_1 ?_
  refine j_iconst (pc := 2) ki_2 dX7_otherThan_2 ?_
  refine j_istore_n (pc := 3) (lv' := [(3, .int (2)), (2, .int (0)), (0, .ref v0), (1, .ref v1)]) rfl (by decide) rfl dX7_otherThan_3 ?_
  refine j_sub [2, 3, 1, 0] (lv' := [(0, .ref v0), (1, .ref v1), (2, .int (0)), (3, .int (2))]) rfl ?_
  exact jl_X7_otherThan_4 q_FU _ _ _ _ _
set_option maxRecDepth 20000 in
set_option maxHeartbeats 1000000 in
theorem c_X7_otherThan {G : q_G} {l : Launch} : ∀ (h : q_H) (a0 : Nat) (a1 : Nat) (q : q_H × Int32), f_X7_otherThan h a0 a1 = some q → (∃ fs, h.1 a0 = .inr (6, fs)) ∧ q_CT G l yX7_otherThan cX7_otherThan 4 (some .int) 0 0 [.ref a0, .ref a1] h q.1 (q_i q.2) := by
  intro h a0 a1 q e
  obtain ⟨e1, e2⟩ := q_chk_ok e
  exact ⟨e1, q_ofJ Y_X7_otherThan (Nat.le_of_ble_eq_true rfl) (jb_X7_otherThan_0 h a0 a1) q e2⟩
/-! FarFolders$Tree.rankedWithin(I)I -/
theorem dX7_rankedWithin_0 : decode cX7_rankedWithin 0 = .ok (.aload_n 0, 1) := by decide +kernel
theorem dX7_rankedWithin_1 : decode cX7_rankedWithin 1 = .ok (.iload_n 1, 1) := by decide +kernel
theorem dX7_rankedWithin_2 : decode cX7_rankedWithin 2 = .ok (.invokevirtual 68, 3) := by decide +kernel
theorem dX7_rankedWithin_5 : decode cX7_rankedWithin 5 = .ok (.istore_n 2, 1) := by decide +kernel
theorem dX7_rankedWithin_6 : decode cX7_rankedWithin 6 = .ok (.iconst 0, 1) := by decide +kernel
theorem dX7_rankedWithin_7 : decode cX7_rankedWithin 7 = .ok (.istore_n 3, 1) := by decide +kernel
theorem dX7_rankedWithin_8 : decode cX7_rankedWithin 8 = .ok (.iconst 2, 1) := by decide +kernel
theorem dX7_rankedWithin_9 : decode cX7_rankedWithin 9 = .ok (.istore 4, 2) := by decide +kernel
theorem dX7_rankedWithin_11 : decode cX7_rankedWithin 11 = .ok (.iload 4, 2) := by decide +kernel
theorem dX7_rankedWithin_13 : decode cX7_rankedWithin 13 = .ok (.bipush 14, 2) := by decide +kernel
theorem dX7_rankedWithin_15 : decode cX7_rankedWithin 15 = .ok (.if_icmp .ge 31, 3) := by decide +kernel
theorem dX7_rankedWithin_18 : decode cX7_rankedWithin 18 = .ok (.iload_n 2, 1) := by decide +kernel
theorem dX7_rankedWithin_19 : decode cX7_rankedWithin 19 = .ok (.iload 4, 2) := by decide +kernel
theorem dX7_rankedWithin_21 : decode cX7_rankedWithin 21 = .ok (.iushr, 1) := by decide +kernel
theorem dX7_rankedWithin_22 : decode cX7_rankedWithin 22 = .ok (.iconst 1, 1) := by decide +kernel
theorem dX7_rankedWithin_23 : decode cX7_rankedWithin 23 = .ok (.iand, 1) := by decide +kernel
theorem dX7_rankedWithin_24 : decode cX7_rankedWithin 24 = .ok (.iconst 1, 1) := by decide +kernel
theorem dX7_rankedWithin_25 : decode cX7_rankedWithin 25 = .ok (.if_icmp .ne 15, 3) := by decide +kernel
theorem dX7_rankedWithin_28 : decode cX7_rankedWithin 28 = .ok (.aload_n 0, 1) := by decide +kernel
theorem dX7_rankedWithin_29 : decode cX7_rankedWithin 29 = .ok (.iload 4, 2) := by decide +kernel
theorem dX7_rankedWithin_31 : decode cX7_rankedWithin 31 = .ok (.invokevirtual 64, 3) := by decide +kernel
theorem dX7_rankedWithin_34 : decode cX7_rankedWithin 34 = .ok (.ifCond .le 6, 3) := by decide +kernel
theorem dX7_rankedWithin_37 : decode cX7_rankedWithin 37 = .ok (.iinc 3 1, 3) := by decide +kernel
theorem dX7_rankedWithin_40 : decode cX7_rankedWithin 40 = .ok (.iinc 4 1, 3) := by decide +kernel
theorem dX7_rankedWithin_43 : decode cX7_rankedWithin 43 = .ok (.goto (-32), 3) := by decide +kernel
theorem dX7_rankedWithin_46 : decode cX7_rankedWithin 46 = .ok (.iload_n 3, 1) := by decide +kernel
theorem dX7_rankedWithin_47 : decode cX7_rankedWithin 47 = .ok (.ireturn, 1) := by decide +kernel
def b_X7_rankedWithin_40 (k11 : q_H → Nat → Int32 → Int32 → Int32 → Option (q_H × Int32)) (h : q_H) (v0 : Nat) (v2 : Int32) (v3 : Int32) (v4 : Int32) : Option (q_H × Int32) :=
  k11 h v0 v2 v3 (v4 + 1)
def b_X7_rankedWithin_11 (k11 : q_H → Nat → Int32 → Int32 → Int32 → Option (q_H × Int32)) (h : q_H) (v0 : Nat) (v2 : Int32) (v3 : Int32) (v4 : Int32) : Option (q_H × Int32) :=
  if (14) ≤ v4 then some (h, v3) else if ((q_iushr v2 v4) &&& (1)) = (1) then Option.bind (f_X7_rankOf h v0 v4) (fun q1 => if q1.2 ≤ 0 then b_X7_rankedWithin_40 k11 q1.1 v0 v2 v3 v4 else b_X7_rankedWithin_40 k11 q1.1 v0 v2 (v3 + 1) v4) else b_X7_rankedWithin_40 k11 h v0 v2 v3 v4
def l_X7_rankedWithin_11 : Nat → q_H → Nat → Int32 → Int32 → Int32 → Option (q_H × Int32)
  | 0, _, _, _, _, _ => none
  | n + 1, h, v0, v2, v3, v4 => b_X7_rankedWithin_11 (l_X7_rankedWithin_11 n) h v0 v2 v3 v4
def b_X7_rankedWithin_0 (h : q_H) (v0 : Nat) (v1 : Int32) : Option (q_H × Int32) :=
  Option.bind (f_X7_allWithin h v0 v1) (fun q2 => l_X7_rankedWithin_11 q_FU q2.1 v0 q2.2 (0) (2))
def f_X7_rankedWithin (h : q_H) (a0 : Nat) (a1 : Int32) : Option (q_H × Int32) := q_chk 6 h a0 (b_X7_rankedWithin_0 h a0 a1)
set_option maxRecDepth 20000 in
set_option maxHeartbeats 1000000 in
theorem jb_X7_rankedWithin_40 {G : q_G} {l : Launch} {k0 z0 : Nat} (k11 : q_H → Nat → Int32 → Int32 → Int32 → Option (q_H × Int32)) (hk11 : ∀ (h : q_H) (v0 : Nat) (v2 : Int32) (v3 : Int32) (v4 : Int32), q_J G l (RX7, cX7_rankedWithin, 5, 3, 68, (some .int), "rankedWithin", []) k0 z0 (q_Z G k0 z0 q_i) 11 [(0, .ref v0), (2, .int v2), (3, .int v3), (4, .int v4)] [] h (k11 h v0 v2 v3 v4)) (h : q_H) (v0 : Nat) (v2 : Int32) (v3 : Int32) (v4 : Int32) : q_J G l (RX7, cX7_rankedWithin, 5, 3, 68, (some .int), "rankedWithin", []) k0 z0 (q_Z G k0 z0 q_i) 40 [(0, .ref v0), (2, .int v2), (3, .int v3), (4, .int v4)] [] h (b_X7_rankedWithin_40 k11 h v0 v2 v3 v4) := by
  unfold b_X7_rankedWithin_40
  refine j_inc (pc := 40) (p := 3) (lv' := [(4, .int (v4 + 1)), (0, .ref v0), (2, .int v2), (3, .int v3)]) rfl ki_1 (by decide) rfl dX7_rankedWithin_40 ?_
  refine j_goto (pc := 43) (tgt := 11) dX7_rankedWithin_43 (by decide) ?_
  refine j_sub [1, 2, 3, 0] (lv' := [(0, .ref v0), (2, .int v2), (3, .int v3), (4, .int (v4 + 1))]) rfl ?_
  exact hk11 _ _ _ _ _
set_option maxRecDepth 20000 in
set_option maxHeartbeats 1000000 in
theorem jb_X7_rankedWithin_11 {G : q_G} {l : Launch} {k0 z0 : Nat} (k11 : q_H → Nat → Int32 → Int32 → Int32 → Option (q_H × Int32)) (hk11 : ∀ (h : q_H) (v0 : Nat) (v2 : Int32) (v3 : Int32) (v4 : Int32), q_J G l (RX7, cX7_rankedWithin, 5, 3, 68, (some .int), "rankedWithin", []) k0 z0 (q_Z G k0 z0 q_i) 11 [(0, .ref v0), (2, .int v2), (3, .int v3), (4, .int v4)] [] h (k11 h v0 v2 v3 v4)) (h : q_H) (v0 : Nat) (v2 : Int32) (v3 : Int32) (v4 : Int32) : q_J G l (RX7, cX7_rankedWithin, 5, 3, 68, (some .int), "rankedWithin", []) k0 z0 (q_Z G k0 z0 q_i) 11 [(0, .ref v0), (2, .int v2), (3, .int v3), (4, .int v4)] [] h (b_X7_rankedWithin_11 k11 h v0 v2 v3 v4) := by
  unfold b_X7_rankedWithin_11
  refine j_iload (pc := 11) (p := 3) rfl dX7_rankedWithin_11 ?_
  refine j_bipush (pc := 13) kb_14 dX7_rankedWithin_13 ?_
  refine j_ic_ge (pc := 15) (tgt := 46) dX7_rankedWithin_15 (by decide) (fun _ => ?_) (fun _ => ?_)
  · refine j_iload_n (pc := 46) (p := 2) rfl rfl dX7_rankedWithin_46 ?_
    exact j_iret (pc := 47) rfl dX7_rankedWithin_47
  refine j_iload_n (pc := 18) (p := 1) rfl rfl dX7_rankedWithin_18 ?_
  refine j_iload (pc := 19) (p := 3) rfl dX7_rankedWithin_19 ?_
  refine j_iushr (pc := 21) dX7_rankedWithin_21 ?_
  refine j_iconst (pc := 22) ki_1 dX7_rankedWithin_22 ?_
  refine j_iand (pc := 23) dX7_rankedWithin_23 ?_
  refine j_iconst (pc := 24) ki_1 dX7_rankedWithin_24 ?_
  refine j_ic_ne (pc := 25) (tgt := 40) dX7_rankedWithin_25 (by decide) (fun _ => ?_) (fun _ => ?_)
  · refine j_aload_n (pc := 28) (p := 0) rfl rfl dX7_rankedWithin_28 ?_
    refine j_iload (pc := 29) (p := 3) rfl dX7_rankedWithin_29 ?_
    refine j_cVi (pc := 31) Y_X7_rankOf (ci := 6) (b := v0) rfl rfl ml_X7_64 im_X7_rankOf se_X7_rankOf ⟨Nat.le_of_ble_eq_true rfl, Nat.le_of_ble_eq_true rfl⟩ dX7_rankedWithin_31 (As := [.int v4]) (rest := []) rfl rfl (Nat.le_of_ble_eq_true rfl) (fun x hq9 => c_X7_rankOf _ _ _ _ hq9) (fun q1 _ => ?_)
    refine j_if_le (pc := 34) (tgt := 40) dX7_rankedWithin_34 (by decide) (fun _ => ?_) (fun _ => ?_)
    · exact jb_X7_rankedWithin_40 k11 hk11 _ _ _ _ _
    refine j_inc (pc := 37) (p := 2) (lv' := [(3, .int (v3 + 1)), (0, .ref v0), (2, .int v2), (4, .int v4)]) rfl ki_1 (by decide) rfl dX7_rankedWithin_37 ?_
    refine j_sub [1, 2, 0, 3] (lv' := [(0, .ref v0), (2, .int v2), (3, .int (v3 + 1)), (4, .int v4)]) rfl ?_
    exact jb_X7_rankedWithin_40 k11 hk11 _ _ _ _ _
  exact jb_X7_rankedWithin_40 k11 hk11 _ _ _ _ _
set_option maxRecDepth 20000 in
set_option maxHeartbeats 1000000 in
theorem jl_X7_rankedWithin_11 {G : q_G} {l : Launch} {k0 z0 : Nat} (n : Nat) : ∀ (h : q_H) (v0 : Nat) (v2 : Int32) (v3 : Int32) (v4 : Int32), q_J G l (RX7, cX7_rankedWithin, 5, 3, 68, (some .int), "rankedWithin", []) k0 z0 (q_Z G k0 z0 q_i) 11 [(0, .ref v0), (2, .int v2), (3, .int v3), (4, .int v4)] [] h (l_X7_rankedWithin_11 n h v0 v2 v3 v4) := by
  induction n with
  | zero => intro h v0 v2 v3 v4; exact j_none
  | succ n ih => intro h v0 v2 v3 v4; exact jb_X7_rankedWithin_11 (l_X7_rankedWithin_11 n) ih h v0 v2 v3 v4
set_option maxRecDepth 20000 in
set_option maxHeartbeats 1000000 in
theorem jb_X7_rankedWithin_0 {G : q_G} {l : Launch} {k0 z0 : Nat} (h : q_H) (v0 : Nat) (v1 : Int32) : q_J G l (RX7, cX7_rankedWithin, 5, 3, 68, (some .int), "rankedWithin", []) k0 z0 (q_Z G k0 z0 q_i) 0 [(0, .ref v0), (1, .int v1)] [] h (b_X7_rankedWithin_0 h v0 v1) := by
  unfold b_X7_rankedWithin_0
  refine j_aload_n (pc := 0) (p := 0) rfl rfl dX7_rankedWithin_0 ?_
  refine j_iload_n (pc := 1) (p := 1) rfl rfl dX7_rankedWithin_1 ?_
  refine j_cVi (pc := 2) Y_X7_allWithin (ci := 6) (b := v0) rfl rfl ml_X7_68 im_X7_allWithin se_X7_allWithin ⟨Nat.le_of_ble_eq_true rfl, Nat.le_of_ble_eq_true rfl⟩ dX7_rankedWithin_2 (As := [.int v1]) (rest := []) rfl rfl (Nat.le_of_ble_eq_true rfl) (fun x hq9 => c_X7_allWithin _ _ _ _ hq9) (fun q2 _ => ?_)
  refine j_istore_n (pc := 5) (lv' := [(2, .int q2.2), (0, .ref v0), (1, .int v1)]) rfl (by decide) rfl dX7_rankedWithin_5 ?_
  refine j_iconst (pc := 6) ki_0 dX7_rankedWithin_6 ?_
  refine j_istore_n (pc := 7) (lv' := [(3, .int (0)), (2, .int q2.2), (0, .ref v0), (1, .int v1)]) rfl (by decide) rfl dX7_rankedWithin_7 ?_
  refine j_iconst (pc := 8) ki_2 dX7_rankedWithin_8 ?_
  refine j_istore (pc := 9) (lv' := [(4, .int (2)), (3, .int (0)), (2, .int q2.2), (0, .ref v0), (1, .int v1)]) (by decide) rfl dX7_rankedWithin_9 ?_
  refine j_sub [3, 2, 1, 0] (lv' := [(0, .ref v0), (2, .int q2.2), (3, .int (0)), (4, .int (2))]) rfl ?_
  exact jl_X7_rankedWithin_11 q_FU _ _ _ _ _
set_option maxRecDepth 20000 in
set_option maxHeartbeats 1000000 in
theorem c_X7_rankedWithin {G : q_G} {l : Launch} : ∀ (h : q_H) (a0 : Nat) (a1 : Int32) (q : q_H × Int32), f_X7_rankedWithin h a0 a1 = some q → (∃ fs, h.1 a0 = .inr (6, fs)) ∧ q_CT G l yX7_rankedWithin cX7_rankedWithin 5 (some .int) 3 68 [.ref a0, .int a1] h q.1 (q_i q.2) := by
  intro h a0 a1 q e
  obtain ⟨e1, e2⟩ := q_chk_ok e
  exact ⟨e1, q_ofJ Y_X7_rankedWithin (Nat.le_of_ble_eq_true rfl) (jb_X7_rankedWithin_0 h a0 a1) q e2⟩
/-! FarFolders$Tree.stepsUp(I)I -/
theorem dX7_stepsUp_0 : decode cX7_stepsUp 0 = .ok (.iconst 0, 1) := by decide +kernel
theorem dX7_stepsUp_1 : decode cX7_stepsUp 1 = .ok (.istore_n 2, 1) := by decide +kernel
theorem dX7_stepsUp_2 : decode cX7_stepsUp 2 = .ok (.iload_n 1, 1) := by decide +kernel
theorem dX7_stepsUp_3 : decode cX7_stepsUp 3 = .ok (.istore_n 3, 1) := by decide +kernel
theorem dX7_stepsUp_4 : decode cX7_stepsUp 4 = .ok (.iload_n 3, 1) := by decide +kernel
theorem dX7_stepsUp_5 : decode cX7_stepsUp 5 = .ok (.iconst 2, 1) := by decide +kernel
theorem dX7_stepsUp_6 : decode cX7_stepsUp 6 = .ok (.if_icmp .lt 28, 3) := by decide +kernel
theorem dX7_stepsUp_9 : decode cX7_stepsUp 9 = .ok (.iload_n 2, 1) := by decide +kernel
theorem dX7_stepsUp_10 : decode cX7_stepsUp 10 = .ok (.bipush 14, 2) := by decide +kernel
theorem dX7_stepsUp_12 : decode cX7_stepsUp 12 = .ok (.if_icmp .ge 22, 3) := by decide +kernel
theorem dX7_stepsUp_15 : decode cX7_stepsUp 15 = .ok (.aload_n 0, 1) := by decide +kernel
theorem dX7_stepsUp_16 : decode cX7_stepsUp 16 = .ok (.getfield 9, 3) := by decide +kernel
theorem dX7_stepsUp_19 : decode cX7_stepsUp 19 = .ok (.iload_n 3, 1) := by decide +kernel
theorem dX7_stepsUp_20 : decode cX7_stepsUp 20 = .ok (.bipush 15, 2) := by decide +kernel
theorem dX7_stepsUp_22 : decode cX7_stepsUp 22 = .ok (.iand, 1) := by decide +kernel
theorem dX7_stepsUp_23 : decode cX7_stepsUp 23 = .ok (.laload, 1) := by decide +kernel
theorem dX7_stepsUp_24 : decode cX7_stepsUp 24 = .ok (.invokestatic 27, 3) := by decide +kernel
theorem dX7_stepsUp_27 : decode cX7_stepsUp 27 = .ok (.istore_n 3, 1) := by decide +kernel
theorem dX7_stepsUp_28 : decode cX7_stepsUp 28 = .ok (.iinc 2 1, 3) := by decide +kernel
theorem dX7_stepsUp_31 : decode cX7_stepsUp 31 = .ok (.goto (-27), 3) := by decide +kernel
theorem dX7_stepsUp_34 : decode cX7_stepsUp 34 = .ok (.iload_n 2, 1) := by decide +kernel
theorem dX7_stepsUp_35 : decode cX7_stepsUp 35 = .ok (.ireturn, 1) := by decide +kernel
def b_X7_stepsUp_4 (k4 : q_H → Nat → Int32 → Int32 → Option (q_H × Int32)) (h : q_H) (v0 : Nat) (v2 : Int32) (v3 : Int32) : Option (q_H × Int32) :=
  if v3 < (2) then some (h, v2) else if (14) ≤ v2 then some (h, v2) else Option.bind (q_gR 6 0 h v0) (fun x1 => Option.bind (q_lL h x1 (v3 &&& (15))) (fun x2 => Option.bind (f_X1_parent h x2) (fun q3 => k4 q3.1 v0 (v2 + 1) q3.2)))
def l_X7_stepsUp_4 : Nat → q_H → Nat → Int32 → Int32 → Option (q_H × Int32)
  | 0, _, _, _, _ => none
  | n + 1, h, v0, v2, v3 => b_X7_stepsUp_4 (l_X7_stepsUp_4 n) h v0 v2 v3
def b_X7_stepsUp_0 (h : q_H) (v0 : Nat) (v1 : Int32) : Option (q_H × Int32) :=
  l_X7_stepsUp_4 q_FU h v0 (0) v1
def f_X7_stepsUp (h : q_H) (a0 : Nat) (a1 : Int32) : Option (q_H × Int32) := q_chk 6 h a0 (b_X7_stepsUp_0 h a0 a1)
set_option maxRecDepth 20000 in
set_option maxHeartbeats 1000000 in
theorem jb_X7_stepsUp_4 {G : q_G} {l : Launch} {k0 z0 : Nat} (k4 : q_H → Nat → Int32 → Int32 → Option (q_H × Int32)) (hk4 : ∀ (h : q_H) (v0 : Nat) (v2 : Int32) (v3 : Int32), q_J G l (RX7, cX7_stepsUp, 4, 1, 21, (some .int), "stepsUp", []) k0 z0 (q_Z G k0 z0 q_i) 4 [(0, .ref v0), (2, .int v2), (3, .int v3)] [] h (k4 h v0 v2 v3)) (h : q_H) (v0 : Nat) (v2 : Int32) (v3 : Int32) : q_J G l (RX7, cX7_stepsUp, 4, 1, 21, (some .int), "stepsUp", []) k0 z0 (q_Z G k0 z0 q_i) 4 [(0, .ref v0), (2, .int v2), (3, .int v3)] [] h (b_X7_stepsUp_4 k4 h v0 v2 v3) := by
  unfold b_X7_stepsUp_4
  refine j_iload_n (pc := 4) (p := 2) rfl rfl dX7_stepsUp_4 ?_
  refine j_iconst (pc := 5) ki_2 dX7_stepsUp_5 ?_
  refine j_ic_lt (pc := 6) (tgt := 34) dX7_stepsUp_6 (by decide) (fun _ => ?_) (fun _ => ?_)
  · refine j_iload_n (pc := 34) (p := 1) rfl rfl dX7_stepsUp_34 ?_
    exact j_iret (pc := 35) rfl dX7_stepsUp_35
  refine j_iload_n (pc := 9) (p := 1) rfl rfl dX7_stepsUp_9 ?_
  refine j_bipush (pc := 10) kb_14 dX7_stepsUp_10 ?_
  refine j_ic_ge (pc := 12) (tgt := 34) dX7_stepsUp_12 (by decide) (fun _ => ?_) (fun _ => ?_)
  · refine j_iload_n (pc := 34) (p := 1) rfl rfl dX7_stepsUp_34 ?_
    exact j_iret (pc := 35) rfl dX7_stepsUp_35
  refine j_aload_n (pc := 15) (p := 0) rfl rfl dX7_stepsUp_15 ?_
  refine j_getR (pc := 16) FI_X7 (k := 0) (by decide) fl_X7_9 dX7_stepsUp_16 (fun x1 _ => ?_)
  refine j_iload_n (pc := 19) (p := 2) rfl rfl dX7_stepsUp_19 ?_
  refine j_bipush (pc := 20) kb_15 dX7_stepsUp_20 ?_
  refine j_iand (pc := 22) dX7_stepsUp_22 ?_
  refine j_lald (pc := 23) dX7_stepsUp_23 (fun x2 _ => ?_)
  refine j_cSi (pc := 24) Y_X1_parent ml_X7_27 sm_X1_parent ⟨Nat.le_of_ble_eq_true rfl, Nat.le_of_ble_eq_true rfl⟩ dX7_stepsUp_24 (As := [.long x2]) (rest := []) rfl rfl (Nat.le_of_ble_eq_true rfl) (fun x hq9 => c_X1_parent _ _ _ hq9) (fun q3 _ => ?_)
  refine j_istore_n (pc := 27) (lv' := [(3, .int q3.2), (0, .ref v0), (2, .int v2)]) rfl (by decide) rfl dX7_stepsUp_27 ?_
  refine j_inc (pc := 28) (p := 2) (lv' := [(2, .int (v2 + 1)), (3, .int q3.2), (0, .ref v0)]) rfl ki_1 (by decide) rfl dX7_stepsUp_28 ?_
  refine j_goto (pc := 31) (tgt := 4) dX7_stepsUp_31 (by decide) ?_
  refine j_sub [2, 0, 1] (lv' := [(0, .ref v0), (2, .int (v2 + 1)), (3, .int q3.2)]) rfl ?_
  exact hk4 _ _ _ _
set_option maxRecDepth 20000 in
set_option maxHeartbeats 1000000 in
theorem jl_X7_stepsUp_4 {G : q_G} {l : Launch} {k0 z0 : Nat} (n : Nat) : ∀ (h : q_H) (v0 : Nat) (v2 : Int32) (v3 : Int32), q_J G l (RX7, cX7_stepsUp, 4, 1, 21, (some .int), "stepsUp", []) k0 z0 (q_Z G k0 z0 q_i) 4 [(0, .ref v0), (2, .int v2), (3, .int v3)] [] h (l_X7_stepsUp_4 n h v0 v2 v3) := by
  induction n with
  | zero => intro h v0 v2 v3; exact j_none
  | succ n ih => intro h v0 v2 v3; exact jb_X7_stepsUp_4 (l_X7_stepsUp_4 n) ih h v0 v2 v3
set_option maxRecDepth 20000 in
set_option maxHeartbeats 1000000 in
theorem jb_X7_stepsUp_0 {G : q_G} {l : Launch} {k0 z0 : Nat} (h : q_H) (v0 : Nat) (v1 : Int32) : q_J G l (RX7, cX7_stepsUp, 4, 1, 21, (some .int), "stepsUp", []) k0 z0 (q_Z G k0 z0 q_i) 0 [(0, .ref v0), (1, .int v1)] [] h (b_X7_stepsUp_0 h v0 v1) := by
  unfold b_X7_stepsUp_0
  refine j_iconst (pc := 0) ki_0 dX7_stepsUp_0 ?_
  refine j_istore_n (pc := 1) (lv' := [(2, .int (0)), (0, .ref v0), (1, .int v1)]) rfl (by decide) rfl dX7_stepsUp_1 ?_
  refine j_iload_n (pc := 2) (p := 2) rfl rfl dX7_stepsUp_2 ?_
  refine j_istore_n (pc := 3) (lv' := [(3, .int v1), (2, .int (0)), (0, .ref v0), (1, .int v1)]) rfl (by decide) rfl dX7_stepsUp_3 ?_
  refine j_sub [2, 1, 0] (lv' := [(0, .ref v0), (2, .int (0)), (3, .int v1)]) rfl ?_
  exact jl_X7_stepsUp_4 q_FU _ _ _ _
set_option maxRecDepth 20000 in
set_option maxHeartbeats 1000000 in
theorem c_X7_stepsUp {G : q_G} {l : Launch} : ∀ (h : q_H) (a0 : Nat) (a1 : Int32) (q : q_H × Int32), f_X7_stepsUp h a0 a1 = some q → (∃ fs, h.1 a0 = .inr (6, fs)) ∧ q_CT G l yX7_stepsUp cX7_stepsUp 4 (some .int) 1 21 [.ref a0, .int a1] h q.1 (q_i q.2) := by
  intro h a0 a1 q e
  obtain ⟨e1, e2⟩ := q_chk_ok e
  exact ⟨e1, q_ofJ Y_X7_stepsUp (Nat.le_of_ble_eq_true rfl) (jb_X7_stepsUp_0 h a0 a1) q e2⟩
/-! FarFolders$Tree.stepsDown(I)I -/
theorem dX7_stepsDown_0 : decode cX7_stepsDown 0 = .ok (.aload_n 0, 1) := by decide +kernel
theorem dX7_stepsDown_1 : decode cX7_stepsDown 1 = .ok (.iload_n 1, 1) := by decide +kernel
theorem dX7_stepsDown_2 : decode cX7_stepsDown 2 = .ok (.invokevirtual 68, 3) := by decide +kernel
theorem dX7_stepsDown_5 : decode cX7_stepsDown 5 = .ok (.istore_n 2, 1) := by decide +kernel
theorem dX7_stepsDown_6 : decode cX7_stepsDown 6 = .ok (.aload_n 0, 1) := by decide +kernel
theorem dX7_stepsDown_7 : decode cX7_stepsDown 7 = .ok (.iload_n 1, 1) := by decide +kernel
theorem dX7_stepsDown_8 : decode cX7_stepsDown 8 = .ok (.invokevirtual 74, 3) := by decide +kernel
theorem dX7_stepsDown_11 : decode cX7_stepsDown 11 = .ok (.istore_n 3, 1) := by decide +kernel
theorem dX7_stepsDown_12 : decode cX7_stepsDown 12 = .ok (.iconst 2, 1) := by decide +kernel
theorem dX7_stepsDown_13 : decode cX7_stepsDown 13 = .ok (.istore 4, 2) := by decide +kernel
theorem dX7_stepsDown_15 : decode cX7_stepsDown 15 = .ok (.iload 4, 2) := by decide +kernel
theorem dX7_stepsDown_17 : decode cX7_stepsDown 17 = .ok (.bipush 14, 2) := by decide +kernel
theorem dX7_stepsDown_19 : decode cX7_stepsDown 19 = .ok (.if_icmp .ge 30, 3) := by decide +kernel
theorem dX7_stepsDown_22 : decode cX7_stepsDown 22 = .ok (.iload_n 2, 1) := by decide +kernel
theorem dX7_stepsDown_23 : decode cX7_stepsDown 23 = .ok (.iload 4, 2) := by decide +kernel
theorem dX7_stepsDown_25 : decode cX7_stepsDown 25 = .ok (.iushr, 1) := by decide +kernel
theorem dX7_stepsDown_26 : decode cX7_stepsDown 26 = .ok (.iconst 1, 1) := by decide +kernel
theorem dX7_stepsDown_27 : decode cX7_stepsDown 27 = .ok (.iand, 1) := by decide +kernel
theorem dX7_stepsDown_28 : decode cX7_stepsDown 28 = .ok (.iconst 1, 1) := by decide +kernel
theorem dX7_stepsDown_29 : decode cX7_stepsDown 29 = .ok (.if_icmp .ne 14, 3) := by decide +kernel
theorem dX7_stepsDown_32 : decode cX7_stepsDown 32 = .ok (.iload_n 3, 1) := by decide +kernel
theorem dX7_stepsDown_33 : decode cX7_stepsDown 33 = .ok (.aload_n 0, 1) := by decide +kernel
theorem dX7_stepsDown_34 : decode cX7_stepsDown 34 = .ok (.iload 4, 2) := by decide +kernel
theorem dX7_stepsDown_36 : decode cX7_stepsDown 36 = .ok (.invokevirtual 74, 3) := by decide +kernel
theorem dX7_stepsDown_39 : decode cX7_stepsDown 39 = .ok (.invokestatic 77, 3) := by decide +kernel
theorem dX7_stepsDown_42 : decode cX7_stepsDown 42 = .ok (.istore_n 3, 1) := by decide +kernel
theorem dX7_stepsDown_43 : decode cX7_stepsDown 43 = .ok (.iinc 4 1, 3) := by decide +kernel
theorem dX7_stepsDown_46 : decode cX7_stepsDown 46 = .ok (.goto (-31), 3) := by decide +kernel
theorem dX7_stepsDown_49 : decode cX7_stepsDown 49 = .ok (.iload_n 3, 1) := by decide +kernel
theorem dX7_stepsDown_50 : decode cX7_stepsDown 50 = .ok (.aload_n 0, 1) := by decide +kernel
theorem dX7_stepsDown_51 : decode cX7_stepsDown 51 = .ok (.iload_n 1, 1) := by decide +kernel
theorem dX7_stepsDown_52 : decode cX7_stepsDown 52 = .ok (.invokevirtual 74, 3) := by decide +kernel
theorem dX7_stepsDown_55 : decode cX7_stepsDown 55 = .ok (.isub, 1) := by decide +kernel
theorem dX7_stepsDown_56 : decode cX7_stepsDown 56 = .ok (.ireturn, 1) := by decide +kernel
def b_X7_stepsDown_43 (k15 : q_H → Nat → Int32 → Int32 → Int32 → Int32 → Option (q_H × Int32)) (h : q_H) (v0 : Nat) (v1 : Int32) (v2 : Int32) (v3 : Int32) (v4 : Int32) : Option (q_H × Int32) :=
  k15 h v0 v1 v2 v3 (v4 + 1)
def b_X7_stepsDown_15 (k15 : q_H → Nat → Int32 → Int32 → Int32 → Int32 → Option (q_H × Int32)) (h : q_H) (v0 : Nat) (v1 : Int32) (v2 : Int32) (v3 : Int32) (v4 : Int32) : Option (q_H × Int32) :=
  if (14) ≤ v4 then Option.bind (f_X7_stepsUp h v0 v1) (fun q1 => some (q1.1, (v3 - q1.2))) else if ((q_iushr v2 v4) &&& (1)) = (1) then Option.bind (f_X7_stepsUp h v0 v4) (fun q2 => b_X7_stepsDown_43 k15 q2.1 v0 v1 v2 (q_max v3 q2.2) v4) else b_X7_stepsDown_43 k15 h v0 v1 v2 v3 v4
def l_X7_stepsDown_15 : Nat → q_H → Nat → Int32 → Int32 → Int32 → Int32 → Option (q_H × Int32)
  | 0, _, _, _, _, _, _ => none
  | n + 1, h, v0, v1, v2, v3, v4 => b_X7_stepsDown_15 (l_X7_stepsDown_15 n) h v0 v1 v2 v3 v4
def b_X7_stepsDown_0 (h : q_H) (v0 : Nat) (v1 : Int32) : Option (q_H × Int32) :=
  Option.bind (f_X7_allWithin h v0 v1) (fun q3 => Option.bind (f_X7_stepsUp q3.1 v0 v1) (fun q4 => l_X7_stepsDown_15 q_FU q4.1 v0 v1 q3.2 q4.2 (2)))
def f_X7_stepsDown (h : q_H) (a0 : Nat) (a1 : Int32) : Option (q_H × Int32) := q_chk 6 h a0 (b_X7_stepsDown_0 h a0 a1)
set_option maxRecDepth 20000 in
set_option maxHeartbeats 1000000 in
theorem jb_X7_stepsDown_43 {G : q_G} {l : Launch} {k0 z0 : Nat} (k15 : q_H → Nat → Int32 → Int32 → Int32 → Int32 → Option (q_H × Int32)) (hk15 : ∀ (h : q_H) (v0 : Nat) (v1 : Int32) (v2 : Int32) (v3 : Int32) (v4 : Int32), q_J G l (RX7, cX7_stepsDown, 5, 3, 68, (some .int), "stepsDown", []) k0 z0 (q_Z G k0 z0 q_i) 15 [(0, .ref v0), (1, .int v1), (2, .int v2), (3, .int v3), (4, .int v4)] [] h (k15 h v0 v1 v2 v3 v4)) (h : q_H) (v0 : Nat) (v1 : Int32) (v2 : Int32) (v3 : Int32) (v4 : Int32) : q_J G l (RX7, cX7_stepsDown, 5, 3, 68, (some .int), "stepsDown", []) k0 z0 (q_Z G k0 z0 q_i) 43 [(0, .ref v0), (1, .int v1), (2, .int v2), (3, .int v3), (4, .int v4)] [] h (b_X7_stepsDown_43 k15 h v0 v1 v2 v3 v4) := by
  unfold b_X7_stepsDown_43
  refine j_inc (pc := 43) (p := 4) (lv' := [(4, .int (v4 + 1)), (0, .ref v0), (1, .int v1), (2, .int v2), (3, .int v3)]) rfl ki_1 (by decide) rfl dX7_stepsDown_43 ?_
  refine j_goto (pc := 46) (tgt := 15) dX7_stepsDown_46 (by decide) ?_
  refine j_sub [1, 2, 3, 4, 0] (lv' := [(0, .ref v0), (1, .int v1), (2, .int v2), (3, .int v3), (4, .int (v4 + 1))]) rfl ?_
  exact hk15 _ _ _ _ _ _
set_option maxRecDepth 20000 in
set_option maxHeartbeats 1000000 in
theorem jb_X7_stepsDown_15 {G : q_G} {l : Launch} {k0 z0 : Nat} (k15 : q_H → Nat → Int32 → Int32 → Int32 → Int32 → Option (q_H × Int32)) (hk15 : ∀ (h : q_H) (v0 : Nat) (v1 : Int32) (v2 : Int32) (v3 : Int32) (v4 : Int32), q_J G l (RX7, cX7_stepsDown, 5, 3, 68, (some .int), "stepsDown", []) k0 z0 (q_Z G k0 z0 q_i) 15 [(0, .ref v0), (1, .int v1), (2, .int v2), (3, .int v3), (4, .int v4)] [] h (k15 h v0 v1 v2 v3 v4)) (h : q_H) (v0 : Nat) (v1 : Int32) (v2 : Int32) (v3 : Int32) (v4 : Int32) : q_J G l (RX7, cX7_stepsDown, 5, 3, 68, (some .int), "stepsDown", []) k0 z0 (q_Z G k0 z0 q_i) 15 [(0, .ref v0), (1, .int v1), (2, .int v2), (3, .int v3), (4, .int v4)] [] h (b_X7_stepsDown_15 k15 h v0 v1 v2 v3 v4) := by
  unfold b_X7_stepsDown_15
  refine j_iload (pc := 15) (p := 4) rfl dX7_stepsDown_15 ?_
  refine j_bipush (pc := 17) kb_14 dX7_stepsDown_17 ?_
  refine j_ic_ge (pc := 19) (tgt := 49) dX7_stepsDown_19 (by decide) (fun _ => ?_) (fun _ => ?_)
  · refine j_iload_n (pc := 49) (p := 3) rfl rfl dX7_stepsDown_49 ?_
    refine j_aload_n (pc := 50) (p := 0) rfl rfl dX7_stepsDown_50 ?_
    refine j_iload_n (pc := 51) (p := 1) rfl rfl dX7_stepsDown_51 ?_
    refine j_cVi (pc := 52) Y_X7_stepsUp (ci := 6) (b := v0) rfl rfl ml_X7_74 im_X7_stepsUp se_X7_stepsUp ⟨Nat.le_of_ble_eq_true rfl, Nat.le_of_ble_eq_true rfl⟩ dX7_stepsDown_52 (As := [.int v1]) (rest := [.int v3]) rfl rfl (Nat.le_of_ble_eq_true rfl) (fun x hq9 => c_X7_stepsUp _ _ _ _ hq9) (fun q1 _ => ?_)
    refine j_isub (pc := 55) dX7_stepsDown_55 ?_
    exact j_iret (pc := 56) rfl dX7_stepsDown_56
  refine j_iload_n (pc := 22) (p := 2) rfl rfl dX7_stepsDown_22 ?_
  refine j_iload (pc := 23) (p := 4) rfl dX7_stepsDown_23 ?_
  refine j_iushr (pc := 25) dX7_stepsDown_25 ?_
  refine j_iconst (pc := 26) ki_1 dX7_stepsDown_26 ?_
  refine j_iand (pc := 27) dX7_stepsDown_27 ?_
  refine j_iconst (pc := 28) ki_1 dX7_stepsDown_28 ?_
  refine j_ic_ne (pc := 29) (tgt := 43) dX7_stepsDown_29 (by decide) (fun _ => ?_) (fun _ => ?_)
  · refine j_iload_n (pc := 32) (p := 3) rfl rfl dX7_stepsDown_32 ?_
    refine j_aload_n (pc := 33) (p := 0) rfl rfl dX7_stepsDown_33 ?_
    refine j_iload (pc := 34) (p := 4) rfl dX7_stepsDown_34 ?_
    refine j_cVi (pc := 36) Y_X7_stepsUp (ci := 6) (b := v0) rfl rfl ml_X7_74 im_X7_stepsUp se_X7_stepsUp ⟨Nat.le_of_ble_eq_true rfl, Nat.le_of_ble_eq_true rfl⟩ dX7_stepsDown_36 (As := [.int v4]) (rest := [.int v3]) rfl rfl (Nat.le_of_ble_eq_true rfl) (fun x hq9 => c_X7_stepsUp _ _ _ _ hq9) (fun q2 _ => ?_)
    refine j_max (pc := 39) ml_X7_77 sm_max ini_Math co_max ⟨Nat.le_of_ble_eq_true rfl, Nat.le_of_ble_eq_true rfl⟩ dX7_stepsDown_39 ?_
    refine j_istore_n (pc := 42) (lv' := [(3, .int (q_max v3 q2.2)), (0, .ref v0), (1, .int v1), (2, .int v2), (4, .int v4)]) rfl (by decide) rfl dX7_stepsDown_42 ?_
    refine j_sub [1, 2, 3, 0, 4] (lv' := [(0, .ref v0), (1, .int v1), (2, .int v2), (3, .int (q_max v3 q2.2)), (4, .int v4)]) rfl ?_
    exact jb_X7_stepsDown_43 k15 hk15 _ _ _ _ _ _
  exact jb_X7_stepsDown_43 k15 hk15 _ _ _ _ _ _
set_option maxRecDepth 20000 in
set_option maxHeartbeats 1000000 in
theorem jl_X7_stepsDown_15 {G : q_G} {l : Launch} {k0 z0 : Nat} (n : Nat) : ∀ (h : q_H) (v0 : Nat) (v1 : Int32) (v2 : Int32) (v3 : Int32) (v4 : Int32), q_J G l (RX7, cX7_stepsDown, 5, 3, 68, (some .int), "stepsDown", []) k0 z0 (q_Z G k0 z0 q_i) 15 [(0, .ref v0), (1, .int v1), (2, .int v2), (3, .int v3), (4, .int v4)] [] h (l_X7_stepsDown_15 n h v0 v1 v2 v3 v4) := by
  induction n with
  | zero => intro h v0 v1 v2 v3 v4; exact j_none
  | succ n ih => intro h v0 v1 v2 v3 v4; exact jb_X7_stepsDown_15 (l_X7_stepsDown_15 n) ih h v0 v1 v2 v3 v4
set_option maxRecDepth 20000 in
set_option maxHeartbeats 1000000 in
theorem jb_X7_stepsDown_0 {G : q_G} {l : Launch} {k0 z0 : Nat} (h : q_H) (v0 : Nat) (v1 : Int32) : q_J G l (RX7, cX7_stepsDown, 5, 3, 68, (some .int), "stepsDown", []) k0 z0 (q_Z G k0 z0 q_i) 0 [(0, .ref v0), (1, .int v1)] [] h (b_X7_stepsDown_0 h v0 v1) := by
  unfold b_X7_stepsDown_0
  refine j_aload_n (pc := 0) (p := 0) rfl rfl dX7_stepsDown_0 ?_
  refine j_iload_n (pc := 1) (p := 1) rfl rfl dX7_stepsDown_1 ?_
  refine j_cVi (pc := 2) Y_X7_allWithin (ci := 6) (b := v0) rfl rfl ml_X7_68 im_X7_allWithin se_X7_allWithin ⟨Nat.le_of_ble_eq_true rfl, Nat.le_of_ble_eq_true rfl⟩ dX7_stepsDown_2 (As := [.int v1]) (rest := []) rfl rfl (Nat.le_of_ble_eq_true rfl) (fun x hq9 => c_X7_allWithin _ _ _ _ hq9) (fun q3 _ => ?_)
  refine j_istore_n (pc := 5) (lv' := [(2, .int q3.2), (0, .ref v0), (1, .int v1)]) rfl (by decide) rfl dX7_stepsDown_5 ?_
  refine j_aload_n (pc := 6) (p := 1) rfl rfl dX7_stepsDown_6 ?_
  refine j_iload_n (pc := 7) (p := 2) rfl rfl dX7_stepsDown_7 ?_
  refine j_cVi (pc := 8) Y_X7_stepsUp (ci := 6) (b := v0) rfl rfl ml_X7_74 im_X7_stepsUp se_X7_stepsUp ⟨Nat.le_of_ble_eq_true rfl, Nat.le_of_ble_eq_true rfl⟩ dX7_stepsDown_8 (As := [.int v1]) (rest := []) rfl rfl (Nat.le_of_ble_eq_true rfl) (fun x hq9 => c_X7_stepsUp _ _ _ _ hq9) (fun q4 _ => ?_)
  refine j_istore_n (pc := 11) (lv' := [(3, .int q4.2), (2, .int q3.2), (0, .ref v0), (1, .int v1)]) rfl (by decide) rfl dX7_stepsDown_11 ?_
  refine j_iconst (pc := 12) ki_2 dX7_stepsDown_12 ?_
  refine j_istore (pc := 13) (lv' := [(4, .int (2)), (3, .int q4.2), (2, .int q3.2), (0, .ref v0), (1, .int v1)]) (by decide) rfl dX7_stepsDown_13 ?_
  refine j_sub [3, 4, 2, 1, 0] (lv' := [(0, .ref v0), (1, .int v1), (2, .int q3.2), (3, .int q4.2), (4, .int (2))]) rfl ?_
  exact jl_X7_stepsDown_15 q_FU _ _ _ _ _ _
set_option maxRecDepth 20000 in
set_option maxHeartbeats 1000000 in
theorem c_X7_stepsDown {G : q_G} {l : Launch} : ∀ (h : q_H) (a0 : Nat) (a1 : Int32) (q : q_H × Int32), f_X7_stepsDown h a0 a1 = some q → (∃ fs, h.1 a0 = .inr (6, fs)) ∧ q_CT G l yX7_stepsDown cX7_stepsDown 5 (some .int) 3 68 [.ref a0, .int a1] h q.1 (q_i q.2) := by
  intro h a0 a1 q e
  obtain ⟨e1, e2⟩ := q_chk_ok e
  exact ⟨e1, q_ofJ Y_X7_stepsDown (Nat.le_of_ble_eq_true rfl) (jb_X7_stepsDown_0 h a0 a1) q e2⟩
/-! FarFolders$Tree.up(II)I -/
theorem dX7_up_0 : decode cX7_up 0 = .ok (.iload_n 1, 1) := by decide +kernel
theorem dX7_up_1 : decode cX7_up 1 = .ok (.istore_n 3, 1) := by decide +kernel
theorem dX7_up_2 : decode cX7_up 2 = .ok (.iconst 0, 1) := by decide +kernel
theorem dX7_up_3 : decode cX7_up 3 = .ok (.istore 4, 2) := by decide +kernel
theorem dX7_up_5 : decode cX7_up 5 = .ok (.iload 4, 2) := by decide +kernel
theorem dX7_up_7 : decode cX7_up 7 = .ok (.iload_n 2, 1) := by decide +kernel
theorem dX7_up_8 : decode cX7_up 8 = .ok (.if_icmp .ge 27, 3) := by decide +kernel
theorem dX7_up_11 : decode cX7_up 11 = .ok (.iload_n 3, 1) := by decide +kernel
theorem dX7_up_12 : decode cX7_up 12 = .ok (.iconst 2, 1) := by decide +kernel
theorem dX7_up_13 : decode cX7_up 13 = .ok (.if_icmp .lt 22, 3) := by decide +kernel
theorem dX7_up_16 : decode cX7_up 16 = .ok (.aload_n 0, 1) := by decide +kernel
theorem dX7_up_17 : decode cX7_up 17 = .ok (.getfield 9, 3) := by decide +kernel
theorem dX7_up_20 : decode cX7_up 20 = .ok (.iload_n 3, 1) := by decide +kernel
theorem dX7_up_21 : decode cX7_up 21 = .ok (.bipush 15, 2) := by decide +kernel
theorem dX7_up_23 : decode cX7_up 23 = .ok (.iand, 1) := by decide +kernel
theorem dX7_up_24 : decode cX7_up 24 = .ok (.laload, 1) := by decide +kernel
theorem dX7_up_25 : decode cX7_up 25 = .ok (.invokestatic 27, 3) := by decide +kernel
theorem dX7_up_28 : decode cX7_up 28 = .ok (.istore_n 3, 1) := by decide +kernel
theorem dX7_up_29 : decode cX7_up 29 = .ok (.iinc 4 1, 3) := by decide +kernel
theorem dX7_up_32 : decode cX7_up 32 = .ok (.goto (-27), 3) := by decide +kernel
theorem dX7_up_35 : decode cX7_up 35 = .ok (.iload_n 3, 1) := by decide +kernel
theorem dX7_up_36 : decode cX7_up 36 = .ok (.ireturn, 1) := by decide +kernel
def b_X7_up_5 (k5 : q_H → Nat → Int32 → Int32 → Int32 → Option (q_H × Int32)) (h : q_H) (v0 : Nat) (v2 : Int32) (v3 : Int32) (v4 : Int32) : Option (q_H × Int32) :=
  if v2 ≤ v4 then some (h, v3) else if v3 < (2) then some (h, v3) else Option.bind (q_gR 6 0 h v0) (fun x1 => Option.bind (q_lL h x1 (v3 &&& (15))) (fun x2 => Option.bind (f_X1_parent h x2) (fun q3 => k5 q3.1 v0 v2 q3.2 (v4 + 1))))
def l_X7_up_5 : Nat → q_H → Nat → Int32 → Int32 → Int32 → Option (q_H × Int32)
  | 0, _, _, _, _, _ => none
  | n + 1, h, v0, v2, v3, v4 => b_X7_up_5 (l_X7_up_5 n) h v0 v2 v3 v4
def b_X7_up_0 (h : q_H) (v0 : Nat) (v1 : Int32) (v2 : Int32) : Option (q_H × Int32) :=
  l_X7_up_5 q_FU h v0 v2 v1 (0)
def f_X7_up (h : q_H) (a0 : Nat) (a1 : Int32) (a2 : Int32) : Option (q_H × Int32) := q_chk 6 h a0 (b_X7_up_0 h a0 a1 a2)
set_option maxRecDepth 20000 in
set_option maxHeartbeats 1000000 in
theorem jb_X7_up_5 {G : q_G} {l : Launch} {k0 z0 : Nat} (k5 : q_H → Nat → Int32 → Int32 → Int32 → Option (q_H × Int32)) (hk5 : ∀ (h : q_H) (v0 : Nat) (v2 : Int32) (v3 : Int32) (v4 : Int32), q_J G l (RX7, cX7_up, 5, 1, 21, (some .int), "up", []) k0 z0 (q_Z G k0 z0 q_i) 5 [(0, .ref v0), (2, .int v2), (3, .int v3), (4, .int v4)] [] h (k5 h v0 v2 v3 v4)) (h : q_H) (v0 : Nat) (v2 : Int32) (v3 : Int32) (v4 : Int32) : q_J G l (RX7, cX7_up, 5, 1, 21, (some .int), "up", []) k0 z0 (q_Z G k0 z0 q_i) 5 [(0, .ref v0), (2, .int v2), (3, .int v3), (4, .int v4)] [] h (b_X7_up_5 k5 h v0 v2 v3 v4) := by
  unfold b_X7_up_5
  refine j_iload (pc := 5) (p := 3) rfl dX7_up_5 ?_
  refine j_iload_n (pc := 7) (p := 1) rfl rfl dX7_up_7 ?_
  refine j_ic_ge (pc := 8) (tgt := 35) dX7_up_8 (by decide) (fun _ => ?_) (fun _ => ?_)
  · refine j_iload_n (pc := 35) (p := 2) rfl rfl dX7_up_35 ?_
    exact j_iret (pc := 36) rfl dX7_up_36
  refine j_iload_n (pc := 11) (p := 2) rfl rfl dX7_up_11 ?_
  refine j_iconst (pc := 12) ki_2 dX7_up_12 ?_
  refine j_ic_lt (pc := 13) (tgt := 35) dX7_up_13 (by decide) (fun _ => ?_) (fun _ => ?_)
  · refine j_iload_n (pc := 35) (p := 2) rfl rfl dX7_up_35 ?_
    exact j_iret (pc := 36) rfl dX7_up_36
  refine j_aload_n (pc := 16) (p := 0) rfl rfl dX7_up_16 ?_
  refine j_getR (pc := 17) FI_X7 (k := 0) (by decide) fl_X7_9 dX7_up_17 (fun x1 _ => ?_)
  refine j_iload_n (pc := 20) (p := 2) rfl rfl dX7_up_20 ?_
  refine j_bipush (pc := 21) kb_15 dX7_up_21 ?_
  refine j_iand (pc := 23) dX7_up_23 ?_
  refine j_lald (pc := 24) dX7_up_24 (fun x2 _ => ?_)
  refine j_cSi (pc := 25) Y_X1_parent ml_X7_27 sm_X1_parent ⟨Nat.le_of_ble_eq_true rfl, Nat.le_of_ble_eq_true rfl⟩ dX7_up_25 (As := [.long x2]) (rest := []) rfl rfl (Nat.le_of_ble_eq_true rfl) (fun x hq9 => c_X1_parent _ _ _ hq9) (fun q3 _ => ?_)
  refine j_istore_n (pc := 28) (lv' := [(3, .int q3.2), (0, .ref v0), (2, .int v2), (4, .int v4)]) rfl (by decide) rfl dX7_up_28 ?_
  refine j_inc (pc := 29) (p := 3) (lv' := [(4, .int (v4 + 1)), (3, .int q3.2), (0, .ref v0), (2, .int v2)]) rfl ki_1 (by decide) rfl dX7_up_29 ?_
  refine j_goto (pc := 32) (tgt := 5) dX7_up_32 (by decide) ?_
  refine j_sub [2, 3, 1, 0] (lv' := [(0, .ref v0), (2, .int v2), (3, .int q3.2), (4, .int (v4 + 1))]) rfl ?_
  exact hk5 _ _ _ _ _
set_option maxRecDepth 20000 in
set_option maxHeartbeats 1000000 in
theorem jl_X7_up_5 {G : q_G} {l : Launch} {k0 z0 : Nat} (n : Nat) : ∀ (h : q_H) (v0 : Nat) (v2 : Int32) (v3 : Int32) (v4 : Int32), q_J G l (RX7, cX7_up, 5, 1, 21, (some .int), "up", []) k0 z0 (q_Z G k0 z0 q_i) 5 [(0, .ref v0), (2, .int v2), (3, .int v3), (4, .int v4)] [] h (l_X7_up_5 n h v0 v2 v3 v4) := by
  induction n with
  | zero => intro h v0 v2 v3 v4; exact j_none
  | succ n ih => intro h v0 v2 v3 v4; exact jb_X7_up_5 (l_X7_up_5 n) ih h v0 v2 v3 v4
set_option maxRecDepth 20000 in
set_option maxHeartbeats 1000000 in
theorem jb_X7_up_0 {G : q_G} {l : Launch} {k0 z0 : Nat} (h : q_H) (v0 : Nat) (v1 : Int32) (v2 : Int32) : q_J G l (RX7, cX7_up, 5, 1, 21, (some .int), "up", []) k0 z0 (q_Z G k0 z0 q_i) 0 [(0, .ref v0), (1, .int v1), (2, .int v2)] [] h (b_X7_up_0 h v0 v1 v2) := by
  unfold b_X7_up_0
  refine j_iload_n (pc := 0) (p := 1) rfl rfl dX7_up_0 ?_
  refine j_istore_n (pc := 1) (lv' := [(3, .int v1), (0, .ref v0), (1, .int v1), (2, .int v2)]) rfl (by decide) rfl dX7_up_1 ?_
  refine j_iconst (pc := 2) ki_0 dX7_up_2 ?_
  refine j_istore (pc := 3) (lv' := [(4, .int (0)), (3, .int v1), (0, .ref v0), (1, .int v1), (2, .int v2)]) (by decide) rfl dX7_up_3 ?_
  refine j_sub [2, 4, 1, 0] (lv' := [(0, .ref v0), (2, .int v2), (3, .int v1), (4, .int (0))]) rfl ?_
  exact jl_X7_up_5 q_FU _ _ _ _ _
set_option maxRecDepth 20000 in
set_option maxHeartbeats 1000000 in
theorem c_X7_up {G : q_G} {l : Launch} : ∀ (h : q_H) (a0 : Nat) (a1 : Int32) (a2 : Int32) (q : q_H × Int32), f_X7_up h a0 a1 a2 = some q → (∃ fs, h.1 a0 = .inr (6, fs)) ∧ q_CT G l yX7_up cX7_up 5 (some .int) 1 21 [.ref a0, .int a1, .int a2] h q.1 (q_i q.2) := by
  intro h a0 a1 a2 q e
  obtain ⟨e1, e2⟩ := q_chk_ok e
  exact ⟨e1, q_ofJ Y_X7_up (Nat.le_of_ble_eq_true rfl) (jb_X7_up_0 h a0 a1 a2) q e2⟩
/-! FarFolders$Tree.weigh(LFarFolders$Tree;II)I -/
theorem dX7_weigh_0 : decode cX7_weigh 0 = .ok (.iload_n 1, 1) := by decide +kernel
theorem dX7_weigh_1 : decode cX7_weigh 1 = .ok (.iconst 2, 1) := by decide +kernel
theorem dX7_weigh_2 : decode cX7_weigh 2 = .ok (.if_icmp .ge 7, 3) := by decide +kernel
theorem dX7_weigh_5 : decode cX7_weigh 5 = .ok (.iconst 0, 1) := by decide +kernel
theorem dX7_weigh_6 : decode cX7_weigh 6 = .ok (.goto 15, 3) := by decide +kernel
theorem dX7_weigh_9 : decode cX7_weigh 9 = .ok (.aload_n 0, 1) := by decide +kernel
theorem dX7_weigh_10 : decode cX7_weigh 10 = .ok (.getfield 9, 3) := by decide +kernel
theorem dX7_weigh_13 : decode cX7_weigh 13 = .ok (.iload_n 1, 1) := by decide +kernel
theorem dX7_weigh_14 : decode cX7_weigh 14 = .ok (.bipush 15, 2) := by decide +kernel
theorem dX7_weigh_16 : decode cX7_weigh 16 = .ok (.iand, 1) := by decide +kernel
theorem dX7_weigh_17 : decode cX7_weigh 17 = .ok (.laload, 1) := by decide +kernel
theorem dX7_weigh_18 : decode cX7_weigh 18 = .ok (.invokestatic 61, 3) := by decide +kernel
theorem dX7_weigh_21 : decode cX7_weigh 21 = .ok (.istore_n 3, 1) := by decide +kernel
theorem dX7_weigh_22 : decode cX7_weigh 22 = .ok (.iload_n 2, 1) := by decide +kernel
theorem dX7_weigh_23 : decode cX7_weigh 23 = .ok (.bipush 14, 2) := by decide +kernel
theorem dX7_weigh_25 : decode cX7_weigh 25 = .ok (.if_icmp .le 5, 3) := by decide +kernel
theorem dX7_weigh_28 : decode cX7_weigh 28 = .ok (.iload_n 3, 1) := by decide +kernel
theorem dX7_weigh_29 : decode cX7_weigh 29 = .ok (.ireturn, 1) := by decide +kernel
theorem dX7_weigh_30 : decode cX7_weigh 30 = .ok (.iconst 2, 1) := by decide +kernel
theorem dX7_weigh_31 : decode cX7_weigh 31 = .ok (.istore 4, 2) := by decide +kernel
theorem dX7_weigh_33 : decode cX7_weigh 33 = .ok (.iload 4, 2) := by decide +kernel
theorem dX7_weigh_35 : decode cX7_weigh 35 = .ok (.bipush 14, 2) := by decide +kernel
theorem dX7_weigh_37 : decode cX7_weigh 37 = .ok (.if_icmp .ge 33, 3) := by decide +kernel
theorem dX7_weigh_40 : decode cX7_weigh 40 = .ok (.aload_n 0, 1) := by decide +kernel
theorem dX7_weigh_41 : decode cX7_weigh 41 = .ok (.iload 4, 2) := by decide +kernel
theorem dX7_weigh_43 : decode cX7_weigh 43 = .ok (.iload_n 1, 1) := by decide +kernel
theorem dX7_weigh_44 : decode cX7_weigh 44 = .ok (.invokevirtual 54, 3) := by decide +kernel
theorem dX7_weigh_47 : decode cX7_weigh 47 = .ok (.ifCond .eq 17, 3) := by decide +kernel
theorem dX7_weigh_50 : decode cX7_weigh 50 = .ok (.iconst 3, 1) := by decide +kernel
theorem dX7_weigh_51 : decode cX7_weigh 51 = .ok (.iload_n 3, 1) := by decide +kernel
theorem dX7_weigh_52 : decode cX7_weigh 52 = .ok (.imul, 1) := by decide +kernel
theorem dX7_weigh_53 : decode cX7_weigh 53 = .ok (.aload_n 0, 1) := by decide +kernel
theorem dX7_weigh_54 : decode cX7_weigh 54 = .ok (.iload 4, 2) := by decide +kernel
theorem dX7_weigh_56 : decode cX7_weigh 56 = .ok (.iload_n 2, 1) := by decide +kernel
theorem dX7_weigh_57 : decode cX7_weigh 57 = .ok (.iconst 1, 1) := by decide +kernel
theorem dX7_weigh_58 : decode cX7_weigh 58 = .ok (.iadd, 1) := by decide +kernel
theorem dX7_weigh_59 : decode cX7_weigh 59 = .ok (.invokestatic 86, 3) := by decide +kernel
theorem dX7_weigh_62 : decode cX7_weigh 62 = .ok (.iadd, 1) := by decide +kernel
theorem dX7_weigh_63 : decode cX7_weigh 63 = .ok (.istore_n 3, 1) := by decide +kernel
theorem dX7_weigh_64 : decode cX7_weigh 64 = .ok (.iinc 4 1, 3) := by decide +kernel
theorem dX7_weigh_67 : decode cX7_weigh 67 = .ok (.goto (-34), 3) := by decide +kernel
theorem dX7_weigh_70 : decode cX7_weigh 70 = .ok (.iload_n 3, 1) := by decide +kernel
theorem dX7_weigh_71 : decode cX7_weigh 71 = .ok (.ireturn, 1) := by decide +kernel
def b_X7_weigh_64 (self : q_H → Nat → Int32 → Int32 → Option (q_H × Int32)) (k33 : q_H → Nat → Int32 → Int32 → Int32 → Int32 → Option (q_H × Int32)) (h : q_H) (v0 : Nat) (v1 : Int32) (v2 : Int32) (v3 : Int32) (v4 : Int32) : Option (q_H × Int32) :=
  k33 h v0 v1 v2 v3 (v4 + 1)
def b_X7_weigh_33 (self : q_H → Nat → Int32 → Int32 → Option (q_H × Int32)) (k33 : q_H → Nat → Int32 → Int32 → Int32 → Int32 → Option (q_H × Int32)) (h : q_H) (v0 : Nat) (v1 : Int32) (v2 : Int32) (v3 : Int32) (v4 : Int32) : Option (q_H × Int32) :=
  if (14) ≤ v4 then some (h, v3) else Option.bind (f_X7_isRightBelow h v0 v4 v1) (fun q1 => if q1.2 = 0 then b_X7_weigh_64 self k33 q1.1 v0 v1 v2 v3 v4 else Option.bind (self q1.1 v0 v4 (v2 + (1))) (fun q2 => b_X7_weigh_64 self k33 q2.1 v0 v1 v2 (((3) * v3) + q2.2) v4))
def l_X7_weigh_33 (self : q_H → Nat → Int32 → Int32 → Option (q_H × Int32)) : Nat → q_H → Nat → Int32 → Int32 → Int32 → Int32 → Option (q_H × Int32)
  | 0, _, _, _, _, _, _ => none
  | n + 1, h, v0, v1, v2, v3, v4 => b_X7_weigh_33 self (l_X7_weigh_33 self n) h v0 v1 v2 v3 v4
def b_X7_weigh_21 (self : q_H → Nat → Int32 → Int32 → Option (q_H × Int32)) (h : q_H) (v0 : Nat) (v1 : Int32) (v2 : Int32) (s0 : Int32) : Option (q_H × Int32) :=
  if v2 ≤ (14) then l_X7_weigh_33 self q_FU h v0 v1 v2 s0 (2) else some (h, s0)
def b_X7_weigh_0 (self : q_H → Nat → Int32 → Int32 → Option (q_H × Int32)) (h : q_H) (v0 : Nat) (v1 : Int32) (v2 : Int32) : Option (q_H × Int32) :=
  if (2) ≤ v1 then Option.bind (q_gR 6 0 h v0) (fun x3 => Option.bind (q_lL h x3 (v1 &&& (15))) (fun x4 => Option.bind (f_X1_name h x4) (fun q5 => b_X7_weigh_21 self q5.1 v0 v1 v2 q5.2))) else b_X7_weigh_21 self h v0 v1 v2 (0)
def f_X7_weigh : Nat → q_H → Nat → Int32 → Int32 → Option (q_H × Int32)
  | 0, _, _, _, _ => none
  | d + 1, h, a0, a1, a2 => b_X7_weigh_0 (f_X7_weigh d) h a0 a1 a2
set_option maxRecDepth 20000 in
set_option maxHeartbeats 1000000 in
theorem jb_X7_weigh_64 {G : q_G} {l : Launch} {k0 z0 : Nat} {d : Nat} (self : q_H → Nat → Int32 → Int32 → Option (q_H × Int32)) (hself : ∀ (h : q_H) (a0 : Nat) (a1 : Int32) (a2 : Int32) (q : q_H × Int32), self h a0 a1 a2 = some q → q_CT G l yX7_weigh cX7_weigh 5 (some .int) (2 + d) (43 + 24 * d) [.ref a0, .int a1, .int a2] h q.1 (q_i q.2)) (k33 : q_H → Nat → Int32 → Int32 → Int32 → Int32 → Option (q_H × Int32)) (hk33 : ∀ (h : q_H) (v0 : Nat) (v1 : Int32) (v2 : Int32) (v3 : Int32) (v4 : Int32), q_J G l (RX7, cX7_weigh, 5, 2 + (d + 1), 43 + 24 * (d + 1), (some .int), "weigh", []) k0 z0 (q_Z G k0 z0 q_i) 33 [(0, .ref v0), (1, .int v1), (2, .int v2), (3, .int v3), (4, .int v4)] [] h (k33 h v0 v1 v2 v3 v4)) (h : q_H) (v0 : Nat) (v1 : Int32) (v2 : Int32) (v3 : Int32) (v4 : Int32) : q_J G l (RX7, cX7_weigh, 5, 2 + (d + 1), 43 + 24 * (d + 1), (some .int), "weigh", []) k0 z0 (q_Z G k0 z0 q_i) 64 [(0, .ref v0), (1, .int v1), (2, .int v2), (3, .int v3), (4, .int v4)] [] h (b_X7_weigh_64 self k33 h v0 v1 v2 v3 v4) := by
  unfold b_X7_weigh_64
  refine j_inc (pc := 64) (p := 4) (lv' := [(4, .int (v4 + 1)), (0, .ref v0), (1, .int v1), (2, .int v2), (3, .int v3)]) rfl ki_1 (by decide) rfl dX7_weigh_64 ?_
  refine j_goto (pc := 67) (tgt := 33) dX7_weigh_67 (by decide) ?_
  refine j_sub [1, 2, 3, 4, 0] (lv' := [(0, .ref v0), (1, .int v1), (2, .int v2), (3, .int v3), (4, .int (v4 + 1))]) rfl ?_
  exact hk33 _ _ _ _ _ _
set_option maxRecDepth 20000 in
set_option maxHeartbeats 1000000 in
theorem jb_X7_weigh_33 {G : q_G} {l : Launch} {k0 z0 : Nat} {d : Nat} (self : q_H → Nat → Int32 → Int32 → Option (q_H × Int32)) (hself : ∀ (h : q_H) (a0 : Nat) (a1 : Int32) (a2 : Int32) (q : q_H × Int32), self h a0 a1 a2 = some q → q_CT G l yX7_weigh cX7_weigh 5 (some .int) (2 + d) (43 + 24 * d) [.ref a0, .int a1, .int a2] h q.1 (q_i q.2)) (k33 : q_H → Nat → Int32 → Int32 → Int32 → Int32 → Option (q_H × Int32)) (hk33 : ∀ (h : q_H) (v0 : Nat) (v1 : Int32) (v2 : Int32) (v3 : Int32) (v4 : Int32), q_J G l (RX7, cX7_weigh, 5, 2 + (d + 1), 43 + 24 * (d + 1), (some .int), "weigh", []) k0 z0 (q_Z G k0 z0 q_i) 33 [(0, .ref v0), (1, .int v1), (2, .int v2), (3, .int v3), (4, .int v4)] [] h (k33 h v0 v1 v2 v3 v4)) (h : q_H) (v0 : Nat) (v1 : Int32) (v2 : Int32) (v3 : Int32) (v4 : Int32) : q_J G l (RX7, cX7_weigh, 5, 2 + (d + 1), 43 + 24 * (d + 1), (some .int), "weigh", []) k0 z0 (q_Z G k0 z0 q_i) 33 [(0, .ref v0), (1, .int v1), (2, .int v2), (3, .int v3), (4, .int v4)] [] h (b_X7_weigh_33 self k33 h v0 v1 v2 v3 v4) := by
  unfold b_X7_weigh_33
  refine j_iload (pc := 33) (p := 4) rfl dX7_weigh_33 ?_
  refine j_bipush (pc := 35) kb_14 dX7_weigh_35 ?_
  refine j_ic_ge (pc := 37) (tgt := 70) dX7_weigh_37 (by decide) (fun _ => ?_) (fun _ => ?_)
  · refine j_iload_n (pc := 70) (p := 3) rfl rfl dX7_weigh_70 ?_
    exact j_iret (pc := 71) rfl dX7_weigh_71
  refine j_aload_n (pc := 40) (p := 0) rfl rfl dX7_weigh_40 ?_
  refine j_iload (pc := 41) (p := 4) rfl dX7_weigh_41 ?_
  refine j_iload_n (pc := 43) (p := 1) rfl rfl dX7_weigh_43 ?_
  refine j_cVi (pc := 44) Y_X7_isRightBelow (ci := 6) (b := v0) rfl rfl ml_X7_54 im_X7_isRightBelow se_X7_isRightBelow ⟨by omega, by omega⟩ dX7_weigh_44 (As := [.int v4, .int v1]) (rest := []) rfl rfl (Nat.le_of_ble_eq_true rfl) (fun x hq9 => c_X7_isRightBelow _ _ _ _ _ hq9) (fun q1 _ => ?_)
  refine j_if_eq (pc := 47) (tgt := 64) dX7_weigh_47 (by decide) (fun _ => ?_) (fun _ => ?_)
  · exact jb_X7_weigh_64 self hself k33 hk33 _ _ _ _ _ _
  refine j_iconst (pc := 50) ki_3 dX7_weigh_50 ?_
  refine j_iload_n (pc := 51) (p := 3) rfl rfl dX7_weigh_51 ?_
  refine j_imul (pc := 52) dX7_weigh_52 ?_
  refine j_aload_n (pc := 53) (p := 0) rfl rfl dX7_weigh_53 ?_
  refine j_iload (pc := 54) (p := 4) rfl dX7_weigh_54 ?_
  refine j_iload_n (pc := 56) (p := 2) rfl rfl dX7_weigh_56 ?_
  refine j_iconst (pc := 57) ki_1 dX7_weigh_57 ?_
  refine j_iadd (pc := 58) dX7_weigh_58 ?_
  refine j_cSi (pc := 59) Y_X7_weigh ml_X7_86 sm_X7_weigh ⟨by omega, by omega⟩ dX7_weigh_59 (As := [.ref v0, .int v4, .int (v2 + (1))]) (rest := [.int ((3) * v3)]) rfl rfl (Nat.le_of_ble_eq_true rfl) (fun x hq9 => hself _ _ _ _ _ hq9) (fun q2 _ => ?_)
  refine j_iadd (pc := 62) dX7_weigh_62 ?_
  refine j_istore_n (pc := 63) (lv' := [(3, .int (((3) * v3) + q2.2)), (0, .ref v0), (1, .int v1), (2, .int v2), (4, .int v4)]) rfl (by decide) rfl dX7_weigh_63 ?_
  refine j_sub [1, 2, 3, 0, 4] (lv' := [(0, .ref v0), (1, .int v1), (2, .int v2), (3, .int (((3) * v3) + q2.2)), (4, .int v4)]) rfl ?_
  exact jb_X7_weigh_64 self hself k33 hk33 _ _ _ _ _ _
set_option maxRecDepth 20000 in
set_option maxHeartbeats 1000000 in
theorem jl_X7_weigh_33 {G : q_G} {l : Launch} {k0 z0 : Nat} {d : Nat} (self : q_H → Nat → Int32 → Int32 → Option (q_H × Int32)) (hself : ∀ (h : q_H) (a0 : Nat) (a1 : Int32) (a2 : Int32) (q : q_H × Int32), self h a0 a1 a2 = some q → q_CT G l yX7_weigh cX7_weigh 5 (some .int) (2 + d) (43 + 24 * d) [.ref a0, .int a1, .int a2] h q.1 (q_i q.2)) (n : Nat) : ∀ (h : q_H) (v0 : Nat) (v1 : Int32) (v2 : Int32) (v3 : Int32) (v4 : Int32), q_J G l (RX7, cX7_weigh, 5, 2 + (d + 1), 43 + 24 * (d + 1), (some .int), "weigh", []) k0 z0 (q_Z G k0 z0 q_i) 33 [(0, .ref v0), (1, .int v1), (2, .int v2), (3, .int v3), (4, .int v4)] [] h (l_X7_weigh_33 self n h v0 v1 v2 v3 v4) := by
  induction n with
  | zero => intro h v0 v1 v2 v3 v4; exact j_none
  | succ n ih => intro h v0 v1 v2 v3 v4; exact jb_X7_weigh_33 self hself (l_X7_weigh_33 self n) ih h v0 v1 v2 v3 v4
set_option maxRecDepth 20000 in
set_option maxHeartbeats 1000000 in
theorem jb_X7_weigh_21 {G : q_G} {l : Launch} {k0 z0 : Nat} {d : Nat} (self : q_H → Nat → Int32 → Int32 → Option (q_H × Int32)) (hself : ∀ (h : q_H) (a0 : Nat) (a1 : Int32) (a2 : Int32) (q : q_H × Int32), self h a0 a1 a2 = some q → q_CT G l yX7_weigh cX7_weigh 5 (some .int) (2 + d) (43 + 24 * d) [.ref a0, .int a1, .int a2] h q.1 (q_i q.2)) (h : q_H) (v0 : Nat) (v1 : Int32) (v2 : Int32) (s0 : Int32) : q_J G l (RX7, cX7_weigh, 5, 2 + (d + 1), 43 + 24 * (d + 1), (some .int), "weigh", []) k0 z0 (q_Z G k0 z0 q_i) 21 [(0, .ref v0), (1, .int v1), (2, .int v2)] [.int s0] h (b_X7_weigh_21 self h v0 v1 v2 s0) := by
  unfold b_X7_weigh_21
  refine j_istore_n (pc := 21) (lv' := [(3, .int s0), (0, .ref v0), (1, .int v1), (2, .int v2)]) rfl (by decide) rfl dX7_weigh_21 ?_
  refine j_iload_n (pc := 22) (p := 3) rfl rfl dX7_weigh_22 ?_
  refine j_bipush (pc := 23) kb_14 dX7_weigh_23 ?_
  refine j_ic_le (pc := 25) (tgt := 30) dX7_weigh_25 (by decide) (fun _ => ?_) (fun _ => ?_)
  · refine j_iconst (pc := 30) ki_2 dX7_weigh_30 ?_
    refine j_istore (pc := 31) (lv' := [(4, .int (2)), (3, .int s0), (0, .ref v0), (1, .int v1), (2, .int v2)]) (by decide) rfl dX7_weigh_31 ?_
    refine j_sub [2, 3, 4, 1, 0] (lv' := [(0, .ref v0), (1, .int v1), (2, .int v2), (3, .int s0), (4, .int (2))]) rfl ?_
    exact jl_X7_weigh_33 self hself q_FU _ _ _ _ _ _
  refine j_iload_n (pc := 28) (p := 0) rfl rfl dX7_weigh_28 ?_
  exact j_iret (pc := 29) rfl dX7_weigh_29
set_option maxRecDepth 20000 in
set_option maxHeartbeats 1000000 in
theorem jb_X7_weigh_0 {G : q_G} {l : Launch} {k0 z0 : Nat} {d : Nat} (self : q_H → Nat → Int32 → Int32 → Option (q_H × Int32)) (hself : ∀ (h : q_H) (a0 : Nat) (a1 : Int32) (a2 : Int32) (q : q_H × Int32), self h a0 a1 a2 = some q → q_CT G l yX7_weigh cX7_weigh 5 (some .int) (2 + d) (43 + 24 * d) [.ref a0, .int a1, .int a2] h q.1 (q_i q.2)) (h : q_H) (v0 : Nat) (v1 : Int32) (v2 : Int32) : q_J G l (RX7, cX7_weigh, 5, 2 + (d + 1), 43 + 24 * (d + 1), (some .int), "weigh", []) k0 z0 (q_Z G k0 z0 q_i) 0 [(0, .ref v0), (1, .int v1), (2, .int v2)] [] h (b_X7_weigh_0 self h v0 v1 v2) := by
  unfold b_X7_weigh_0
  refine j_iload_n (pc := 0) (p := 1) rfl rfl dX7_weigh_0 ?_
  refine j_iconst (pc := 1) ki_2 dX7_weigh_1 ?_
  refine j_ic_ge (pc := 2) (tgt := 9) dX7_weigh_2 (by decide) (fun _ => ?_) (fun _ => ?_)
  · refine j_aload_n (pc := 9) (p := 0) rfl rfl dX7_weigh_9 ?_
    refine j_getR (pc := 10) FI_X7 (k := 0) (by decide) fl_X7_9 dX7_weigh_10 (fun x3 _ => ?_)
    refine j_iload_n (pc := 13) (p := 1) rfl rfl dX7_weigh_13 ?_
    refine j_bipush (pc := 14) kb_15 dX7_weigh_14 ?_
    refine j_iand (pc := 16) dX7_weigh_16 ?_
    refine j_lald (pc := 17) dX7_weigh_17 (fun x4 _ => ?_)
    refine j_cSi (pc := 18) Y_X1_name ml_X7_61 sm_X1_name ⟨by omega, by omega⟩ dX7_weigh_18 (As := [.long x4]) (rest := []) rfl rfl (Nat.le_of_ble_eq_true rfl) (fun x hq9 => c_X1_name _ _ _ hq9) (fun q5 _ => ?_)
    exact jb_X7_weigh_21 self hself _ _ _ _ _
  refine j_iconst (pc := 5) ki_0 dX7_weigh_5 ?_
  refine j_goto (pc := 6) (tgt := 21) dX7_weigh_6 (by decide) ?_
  exact jb_X7_weigh_21 self hself _ _ _ _ _
set_option maxRecDepth 20000 in
set_option maxHeartbeats 1000000 in
theorem c_X7_weigh {G : q_G} {l : Launch} (d : Nat) : ∀ (h : q_H) (a0 : Nat) (a1 : Int32) (a2 : Int32) (q : q_H × Int32), f_X7_weigh d h a0 a1 a2 = some q → q_CT G l yX7_weigh cX7_weigh 5 (some .int) (2 + d) (43 + 24 * d) [.ref a0, .int a1, .int a2] h q.1 (q_i q.2) := by
  induction d with
  | zero => intro h a0 a1 a2 q e; cases e
  | succ d ih =>
    intro h a0 a1 a2 q e
    exact q_ofJ Y_X7_weigh (Nat.le_of_ble_eq_true rfl) (jb_X7_weigh_0 (f_X7_weigh d) ih h a0 a1 a2) q e
/-! FarFolders$World.hasFullWay(I)Z -/
theorem dX8_hasFullWay_0 : decode cX8_hasFullWay 0 = .ok (.aload_n 0, 1) := by decide +kernel
theorem dX8_hasFullWay_1 : decode cX8_hasFullWay 1 = .ok (.iload_n 1, 1) := by decide +kernel
theorem dX8_hasFullWay_2 : decode cX8_hasFullWay 2 = .ok (.iload_n 1, 1) := by decide +kernel
theorem dX8_hasFullWay_3 : decode cX8_hasFullWay 3 = .ok (.invokestatic 99, 3) := by decide +kernel
theorem dX8_hasFullWay_6 : decode cX8_hasFullWay 6 = .ok (.invokevirtual 34, 3) := by decide +kernel
theorem dX8_hasFullWay_9 : decode cX8_hasFullWay 9 = .ok (.getfield 38, 3) := by decide +kernel
theorem dX8_hasFullWay_12 : decode cX8_hasFullWay 12 = .ok (.bipush 6, 2) := by decide +kernel
theorem dX8_hasFullWay_14 : decode cX8_hasFullWay 14 = .ok (.if_icmp .ge 23, 3) := by decide +kernel
theorem dX8_hasFullWay_17 : decode cX8_hasFullWay 17 = .ok (.aload_n 0, 1) := by decide +kernel
theorem dX8_hasFullWay_18 : decode cX8_hasFullWay 18 = .ok (.iload_n 1, 1) := by decide +kernel
theorem dX8_hasFullWay_19 : decode cX8_hasFullWay 19 = .ok (.iload_n 1, 1) := by decide +kernel
theorem dX8_hasFullWay_20 : decode cX8_hasFullWay 20 = .ok (.invokestatic 99, 3) := by decide +kernel
theorem dX8_hasFullWay_23 : decode cX8_hasFullWay 23 = .ok (.invokestatic 99, 3) := by decide +kernel
theorem dX8_hasFullWay_26 : decode cX8_hasFullWay 26 = .ok (.invokevirtual 34, 3) := by decide +kernel
theorem dX8_hasFullWay_29 : decode cX8_hasFullWay 29 = .ok (.getfield 38, 3) := by decide +kernel
theorem dX8_hasFullWay_32 : decode cX8_hasFullWay 32 = .ok (.bipush 6, 2) := by decide +kernel
theorem dX8_hasFullWay_34 : decode cX8_hasFullWay 34 = .ok (.if_icmp .lt 7, 3) := by decide +kernel
theorem dX8_hasFullWay_37 : decode cX8_hasFullWay 37 = .ok (.iconst 1, 1) := by decide +kernel
theorem dX8_hasFullWay_38 : decode cX8_hasFullWay 38 = .ok (.goto 4, 3) := by decide +kernel
theorem dX8_hasFullWay_41 : decode cX8_hasFullWay 41 = .ok (.iconst 0, 1) := by decide +kernel
theorem dX8_hasFullWay_42 : decode cX8_hasFullWay 42 = .ok (.ireturn, 1) := by decide +kernel
def b_X8_hasFullWay_0 (h : q_H) (v0 : Nat) (v1 : Int32) : Option (q_H × Int32) :=
  Option.bind (f_X9_nextCopy h v1) (fun q1 => Option.bind (f_X8_way q1.1 v0 v1 q1.2) (fun q2 => Option.bind (q_gI 4 1 q2.1 q2.2) (fun x3 => if (6) ≤ x3 then some (q2.1, (1)) else Option.bind (f_X9_nextCopy q2.1 v1) (fun q4 => Option.bind (f_X9_nextCopy q4.1 q4.2) (fun q5 => Option.bind (f_X8_way q5.1 v0 v1 q5.2) (fun q6 => Option.bind (q_gI 4 1 q6.1 q6.2) (fun x7 => if x7 < (6) then some (q6.1, (0)) else some (q6.1, (1)))))))))
def f_X8_hasFullWay (h : q_H) (a0 : Nat) (a1 : Int32) : Option (q_H × Int32) := q_chk 7 h a0 (b_X8_hasFullWay_0 h a0 a1)
set_option maxRecDepth 20000 in
set_option maxHeartbeats 1000000 in
theorem jb_X8_hasFullWay_0 {G : q_G} {l : Launch} {k0 z0 : Nat} (h : q_H) (v0 : Nat) (v1 : Int32) : q_J G l (RX8, cX8_hasFullWay, 2, 1, 22, (some .boolean), "hasFullWay", []) k0 z0 (q_Z G k0 z0 q_i) 0 [(0, .ref v0), (1, .int v1)] [] h (b_X8_hasFullWay_0 h v0 v1) := by
  unfold b_X8_hasFullWay_0
  refine j_aload_n (pc := 0) (p := 0) rfl rfl dX8_hasFullWay_0 ?_
  refine j_iload_n (pc := 1) (p := 1) rfl rfl dX8_hasFullWay_1 ?_
  refine j_iload_n (pc := 2) (p := 1) rfl rfl dX8_hasFullWay_2 ?_
  refine j_cSNi (pc := 3) Y_X9_nextCopy mn_X8_99 sm_X9_nextCopy ⟨Nat.le_of_ble_eq_true rfl, Nat.le_of_ble_eq_true rfl⟩ dX8_hasFullWay_3 (As := [.int v1]) (rest := [.int v1, .ref v0]) rfl rfl (Nat.le_of_ble_eq_true rfl) (fun x hq9 => c_X9_nextCopy _ _ _ hq9) (fun q1 _ => ?_)
  refine j_cVr (pc := 6) Y_X8_way (ci := 7) (b := v0) rfl rfl ml_X8_34 im_X8_way se_X8_way ⟨Nat.le_of_ble_eq_true rfl, Nat.le_of_ble_eq_true rfl⟩ dX8_hasFullWay_6 (As := [.int v1, .int q1.2]) (rest := []) rfl rfl (Nat.le_of_ble_eq_true rfl) (fun x hq9 => c_X8_way _ _ _ _ _ hq9) (fun q2 _ => ?_)
  refine j_getI (pc := 9) FI_X5 (k := 1) (by decide) fl_X8_38 dX8_hasFullWay_9 (fun x3 _ => ?_)
  refine j_bipush (pc := 12) kb_6 dX8_hasFullWay_12 ?_
  refine j_ic_ge (pc := 14) (tgt := 37) dX8_hasFullWay_14 (by decide) (fun _ => ?_) (fun _ => ?_)
  · refine j_iconst (pc := 37) ki_1 dX8_hasFullWay_37 ?_
    refine j_goto (pc := 38) (tgt := 42) dX8_hasFullWay_38 (by decide) ?_
    exact j_zret (pc := 42) rfl rfl dX8_hasFullWay_42
  refine j_aload_n (pc := 17) (p := 0) rfl rfl dX8_hasFullWay_17 ?_
  refine j_iload_n (pc := 18) (p := 1) rfl rfl dX8_hasFullWay_18 ?_
  refine j_iload_n (pc := 19) (p := 1) rfl rfl dX8_hasFullWay_19 ?_
  refine j_cSNi (pc := 20) Y_X9_nextCopy mn_X8_99 sm_X9_nextCopy ⟨Nat.le_of_ble_eq_true rfl, Nat.le_of_ble_eq_true rfl⟩ dX8_hasFullWay_20 (As := [.int v1]) (rest := [.int v1, .ref v0]) rfl rfl (Nat.le_of_ble_eq_true rfl) (fun x hq9 => c_X9_nextCopy _ _ _ hq9) (fun q4 _ => ?_)
  refine j_cSNi (pc := 23) Y_X9_nextCopy mn_X8_99 sm_X9_nextCopy ⟨Nat.le_of_ble_eq_true rfl, Nat.le_of_ble_eq_true rfl⟩ dX8_hasFullWay_23 (As := [.int q4.2]) (rest := [.int v1, .ref v0]) rfl rfl (Nat.le_of_ble_eq_true rfl) (fun x hq9 => c_X9_nextCopy _ _ _ hq9) (fun q5 _ => ?_)
  refine j_cVr (pc := 26) Y_X8_way (ci := 7) (b := v0) rfl rfl ml_X8_34 im_X8_way se_X8_way ⟨Nat.le_of_ble_eq_true rfl, Nat.le_of_ble_eq_true rfl⟩ dX8_hasFullWay_26 (As := [.int v1, .int q5.2]) (rest := []) rfl rfl (Nat.le_of_ble_eq_true rfl) (fun x hq9 => c_X8_way _ _ _ _ _ hq9) (fun q6 _ => ?_)
  refine j_getI (pc := 29) FI_X5 (k := 1) (by decide) fl_X8_38 dX8_hasFullWay_29 (fun x7 _ => ?_)
  refine j_bipush (pc := 32) kb_6 dX8_hasFullWay_32 ?_
  refine j_ic_lt (pc := 34) (tgt := 41) dX8_hasFullWay_34 (by decide) (fun _ => ?_) (fun _ => ?_)
  · refine j_iconst (pc := 41) ki_0 dX8_hasFullWay_41 ?_
    exact j_zret (pc := 42) rfl rfl dX8_hasFullWay_42
  refine j_iconst (pc := 37) ki_1 dX8_hasFullWay_37 ?_
  refine j_goto (pc := 38) (tgt := 42) dX8_hasFullWay_38 (by decide) ?_
  exact j_zret (pc := 42) rfl rfl dX8_hasFullWay_42
set_option maxRecDepth 20000 in
set_option maxHeartbeats 1000000 in
theorem c_X8_hasFullWay {G : q_G} {l : Launch} : ∀ (h : q_H) (a0 : Nat) (a1 : Int32) (q : q_H × Int32), f_X8_hasFullWay h a0 a1 = some q → (∃ fs, h.1 a0 = .inr (7, fs)) ∧ q_CT G l yX8_hasFullWay cX8_hasFullWay 2 (some .boolean) 1 22 [.ref a0, .int a1] h q.1 (q_i q.2) := by
  intro h a0 a1 q e
  obtain ⟨e1, e2⟩ := q_chk_ok e
  exact ⟨e1, q_ofJ Y_X8_hasFullWay (Nat.le_of_ble_eq_true rfl) (jb_X8_hasFullWay_0 h a0 a1) q e2⟩
/-! FarFolders$World.send(IJ)V -/
theorem dX8_send_0 : decode cX8_send 0 = .ok (.aload_n 0, 1) := by decide +kernel
theorem dX8_send_1 : decode cX8_send 1 = .ok (.iload_n 1, 1) := by decide +kernel
theorem dX8_send_2 : decode cX8_send 2 = .ok (.iload_n 1, 1) := by decide +kernel
theorem dX8_send_3 : decode cX8_send 3 = .ok (.invokestatic 99, 3) := by decide +kernel
theorem dX8_send_6 : decode cX8_send 6 = .ok (.invokevirtual 34, 3) := by decide +kernel
theorem dX8_send_9 : decode cX8_send 9 = .ok (.lload_n 2, 1) := by decide +kernel
theorem dX8_send_10 : decode cX8_send 10 = .ok (.invokevirtual 91, 3) := by decide +kernel
theorem dX8_send_13 : decode cX8_send 13 = .ok (.aload_n 0, 1) := by decide +kernel
theorem dX8_send_14 : decode cX8_send 14 = .ok (.iload_n 1, 1) := by decide +kernel
theorem dX8_send_15 : decode cX8_send 15 = .ok (.iload_n 1, 1) := by decide +kernel
theorem dX8_send_16 : decode cX8_send 16 = .ok (.invokestatic 99, 3) := by decide +kernel
theorem dX8_send_19 : decode cX8_send 19 = .ok (.invokestatic 99, 3) := by decide +kernel
theorem dX8_send_22 : decode cX8_send 22 = .ok (.invokevirtual 34, 3) := by decide +kernel
theorem dX8_send_25 : decode cX8_send 25 = .ok (.lload_n 2, 1) := by decide +kernel
theorem dX8_send_26 : decode cX8_send 26 = .ok (.invokevirtual 91, 3) := by decide +kernel
theorem dX8_send_29 : decode cX8_send 29 = .ok (.return_, 1) := by decide +kernel
def b_X8_send_0 (h : q_H) (v0 : Nat) (v1 : Int32) (v2 : Int64) : Option (q_H × Unit) :=
  Option.bind (f_X9_nextCopy h v1) (fun q1 => Option.bind (f_X8_way q1.1 v0 v1 q1.2) (fun q2 => Option.bind (f_X5_append q2.1 q2.2 v2) (fun q3 => Option.bind (f_X9_nextCopy q3.1 v1) (fun q4 => Option.bind (f_X9_nextCopy q4.1 q4.2) (fun q5 => Option.bind (f_X8_way q5.1 v0 v1 q5.2) (fun q6 => Option.bind (f_X5_append q6.1 q6.2 v2) (fun q7 => some (q7.1, ()))))))))
def f_X8_send (h : q_H) (a0 : Nat) (a1 : Int32) (a2 : Int64) : Option (q_H × Unit) := q_chk 7 h a0 (b_X8_send_0 h a0 a1 a2)
set_option maxRecDepth 20000 in
set_option maxHeartbeats 1000000 in
theorem jb_X8_send_0 {G : q_G} {l : Launch} {k0 z0 : Nat} (h : q_H) (v0 : Nat) (v1 : Int32) (v2 : Int64) : q_J G l (RX8, cX8_send, 4, 1, 22, none, "send", []) k0 z0 (q_Z G k0 z0 q_u) 0 [(0, .ref v0), (1, .int v1), (2, .long v2)] [] h (b_X8_send_0 h v0 v1 v2) := by
  unfold b_X8_send_0
  refine j_aload_n (pc := 0) (p := 0) rfl rfl dX8_send_0 ?_
  refine j_iload_n (pc := 1) (p := 1) rfl rfl dX8_send_1 ?_
  refine j_iload_n (pc := 2) (p := 1) rfl rfl dX8_send_2 ?_
  refine j_cSNi (pc := 3) Y_X9_nextCopy mn_X8_99 sm_X9_nextCopy ⟨Nat.le_of_ble_eq_true rfl, Nat.le_of_ble_eq_true rfl⟩ dX8_send_3 (As := [.int v1]) (rest := [.int v1, .ref v0]) rfl rfl (Nat.le_of_ble_eq_true rfl) (fun x hq9 => c_X9_nextCopy _ _ _ hq9) (fun q1 _ => ?_)
  refine j_cVr (pc := 6) Y_X8_way (ci := 7) (b := v0) rfl rfl ml_X8_34 im_X8_way se_X8_way ⟨Nat.le_of_ble_eq_true rfl, Nat.le_of_ble_eq_true rfl⟩ dX8_send_6 (As := [.int v1, .int q1.2]) (rest := []) rfl rfl (Nat.le_of_ble_eq_true rfl) (fun x hq9 => c_X8_way _ _ _ _ _ hq9) (fun q2 _ => ?_)
  refine j_lload_n (pc := 9) (p := 2) rfl rfl dX8_send_9 ?_
  refine j_cVu (pc := 10) Y_X5_append (ci := 4) (b := q2.2) rfl rfl ml_X8_91 im_X5_append se_X5_append ⟨Nat.le_of_ble_eq_true rfl, Nat.le_of_ble_eq_true rfl⟩ dX8_send_10 (As := [.long v2]) (rest := []) rfl rfl (Nat.le_of_ble_eq_true rfl) (fun x hq9 => c_X5_append _ _ _ _ hq9) (fun q3 _ => ?_)
  refine j_aload_n (pc := 13) (p := 0) rfl rfl dX8_send_13 ?_
  refine j_iload_n (pc := 14) (p := 1) rfl rfl dX8_send_14 ?_
  refine j_iload_n (pc := 15) (p := 1) rfl rfl dX8_send_15 ?_
  refine j_cSNi (pc := 16) Y_X9_nextCopy mn_X8_99 sm_X9_nextCopy ⟨Nat.le_of_ble_eq_true rfl, Nat.le_of_ble_eq_true rfl⟩ dX8_send_16 (As := [.int v1]) (rest := [.int v1, .ref v0]) rfl rfl (Nat.le_of_ble_eq_true rfl) (fun x hq9 => c_X9_nextCopy _ _ _ hq9) (fun q4 _ => ?_)
  refine j_cSNi (pc := 19) Y_X9_nextCopy mn_X8_99 sm_X9_nextCopy ⟨Nat.le_of_ble_eq_true rfl, Nat.le_of_ble_eq_true rfl⟩ dX8_send_19 (As := [.int q4.2]) (rest := [.int v1, .ref v0]) rfl rfl (Nat.le_of_ble_eq_true rfl) (fun x hq9 => c_X9_nextCopy _ _ _ hq9) (fun q5 _ => ?_)
  refine j_cVr (pc := 22) Y_X8_way (ci := 7) (b := v0) rfl rfl ml_X8_34 im_X8_way se_X8_way ⟨Nat.le_of_ble_eq_true rfl, Nat.le_of_ble_eq_true rfl⟩ dX8_send_22 (As := [.int v1, .int q5.2]) (rest := []) rfl rfl (Nat.le_of_ble_eq_true rfl) (fun x hq9 => c_X8_way _ _ _ _ _ hq9) (fun q6 _ => ?_)
  refine j_lload_n (pc := 25) (p := 2) rfl rfl dX8_send_25 ?_
  refine j_cVu (pc := 26) Y_X5_append (ci := 4) (b := q6.2) rfl rfl ml_X8_91 im_X5_append se_X5_append ⟨Nat.le_of_ble_eq_true rfl, Nat.le_of_ble_eq_true rfl⟩ dX8_send_26 (As := [.long v2]) (rest := []) rfl rfl (Nat.le_of_ble_eq_true rfl) (fun x hq9 => c_X5_append _ _ _ _ hq9) (fun q7 _ => ?_)
  exact j_vret (pc := 29) rfl dX8_send_29
set_option maxRecDepth 20000 in
set_option maxHeartbeats 1000000 in
theorem c_X8_send {G : q_G} {l : Launch} : ∀ (h : q_H) (a0 : Nat) (a1 : Int32) (a2 : Int64) (q : q_H × Unit), f_X8_send h a0 a1 a2 = some q → (∃ fs, h.1 a0 = .inr (7, fs)) ∧ q_CT G l yX8_send cX8_send 4 none 1 22 [.ref a0, .int a1, .long a2] h q.1 (q_u q.2) := by
  intro h a0 a1 a2 q e
  obtain ⟨e1, e2⟩ := q_chk_ok e
  exact ⟨e1, q_ofJ Y_X8_send (Nat.le_of_ble_eq_true rfl) (jb_X8_send_0 h a0 a1 a2) q e2⟩
/-! FarFolders$World.beat(I)I -/
theorem dX8_beat_0 : decode cX8_beat 0 = .ok (.iload_n 1, 1) := by decide +kernel
theorem dX8_beat_1 : decode cX8_beat 1 = .ok (.invokestatic 55, 3) := by decide +kernel
theorem dX8_beat_4 : decode cX8_beat 4 = .ok (.ifCond .ne 5, 3) := by decide +kernel
theorem dX8_beat_7 : decode cX8_beat 7 = .ok (.iconst (-1), 1) := by decide +kernel
theorem dX8_beat_8 : decode cX8_beat 8 = .ok (.ireturn, 1) := by decide +kernel
theorem dX8_beat_9 : decode cX8_beat 9 = .ok (.aload_n 0, 1) := by decide +kernel
theorem dX8_beat_10 : decode cX8_beat 10 = .ok (.iload_n 1, 1) := by decide +kernel
theorem dX8_beat_11 : decode cX8_beat 11 = .ok (.invokevirtual 69, 3) := by decide +kernel
theorem dX8_beat_14 : decode cX8_beat 14 = .ok (.ifCond .eq 6, 3) := by decide +kernel
theorem dX8_beat_17 : decode cX8_beat 17 = .ok (.bipush (-3), 2) := by decide +kernel
theorem dX8_beat_19 : decode cX8_beat 19 = .ok (.ireturn, 1) := by decide +kernel
theorem dX8_beat_20 : decode cX8_beat 20 = .ok (.aload_n 0, 1) := by decide +kernel
theorem dX8_beat_21 : decode cX8_beat 21 = .ok (.iload_n 1, 1) := by decide +kernel
theorem dX8_beat_22 : decode cX8_beat 22 = .ok (.aload_n 0, 1) := by decide +kernel
theorem dX8_beat_23 : decode cX8_beat 23 = .ok (.getfield 11, 3) := by decide +kernel
theorem dX8_beat_26 : decode cX8_beat 26 = .ok (.iload_n 1, 1) := by decide +kernel
theorem dX8_beat_27 : decode cX8_beat 27 = .ok (.aaload, 1) := by decide +kernel
theorem dX8_beat_28 : decode cX8_beat 28 = .ok (.getfield 46, 3) := by decide +kernel
theorem dX8_beat_31 : decode cX8_beat 31 = .ok (.iload_n 1, 1) := by decide +kernel
theorem dX8_beat_32 : decode cX8_beat 32 = .ok (.iconst 0, 1) := by decide +kernel
theorem dX8_beat_33 : decode cX8_beat 33 = .ok (.iconst 0, 1) := by decide +kernel
theorem dX8_beat_34 : decode cX8_beat 34 = .ok (.iconst 0, 1) := by decide +kernel
theorem dX8_beat_35 : decode cX8_beat 35 = .ok (.invokestatic 72, 3) := by decide +kernel
theorem dX8_beat_38 : decode cX8_beat 38 = .ok (.invokevirtual 95, 3) := by decide +kernel
theorem dX8_beat_41 : decode cX8_beat 41 = .ok (.aload_n 0, 1) := by decide +kernel
theorem dX8_beat_42 : decode cX8_beat 42 = .ok (.getfield 11, 3) := by decide +kernel
theorem dX8_beat_45 : decode cX8_beat 45 = .ok (.iload_n 1, 1) := by decide +kernel
theorem dX8_beat_46 : decode cX8_beat 46 = .ok (.aaload, 1) := by decide +kernel
theorem dX8_beat_47 : decode cX8_beat 47 = .ok (.getfield 46, 3) := by decide +kernel
theorem dX8_beat_50 : decode cX8_beat 50 = .ok (.ireturn, 1) := by decide +kernel
def b_X8_beat_0 (h : q_H) (v0 : Nat) (v1 : Int32) : Option (q_H × Int32) :=
  Option.bind (f_X9_isCopy h v1) (fun q1 => if q1.2 = 0 then some (q1.1, (-1)) else Option.bind (f_X8_hasFullWay q1.1 v0 v1) (fun q2 => if q2.2 = 0 then Option.bind (q_gR 7 0 q2.1 v0) (fun x3 => Option.bind (q_lR 4 q2.1 x3 v1) (fun x4 => Option.bind (q_gI 0 1 q2.1 x4) (fun x5 => Option.bind (f_X1_of q2.1 x5 v1 (0) (0) (0)) (fun q6 => Option.bind (f_X8_send q6.1 v0 v1 q6.2) (fun q7 => Option.bind (q_gR 7 0 q7.1 v0) (fun x8 => Option.bind (q_lR 4 q7.1 x8 v1) (fun x9 => Option.bind (q_gI 0 1 q7.1 x9) (fun x10 => some (q7.1, x10))))))))) else some (q2.1, (-3))))
def f_X8_beat (h : q_H) (a0 : Nat) (a1 : Int32) : Option (q_H × Int32) := q_chk 7 h a0 (b_X8_beat_0 h a0 a1)
set_option maxRecDepth 20000 in
set_option maxHeartbeats 1000000 in
theorem jb_X8_beat_0 {G : q_G} {l : Launch} {k0 z0 : Nat} (h : q_H) (v0 : Nat) (v1 : Int32) : q_J G l (RX8, cX8_beat, 2, 2, 45, (some .int), "beat", []) k0 z0 (q_Z G k0 z0 q_i) 0 [(0, .ref v0), (1, .int v1)] [] h (b_X8_beat_0 h v0 v1) := by
  unfold b_X8_beat_0
  refine j_iload_n (pc := 0) (p := 1) rfl rfl dX8_beat_0 ?_
  refine j_cSNi (pc := 1) Y_X9_isCopy mn_X8_55 sm_X9_isCopy ⟨Nat.le_of_ble_eq_true rfl, Nat.le_of_ble_eq_true rfl⟩ dX8_beat_1 (As := [.int v1]) (rest := []) rfl rfl (Nat.le_of_ble_eq_true rfl) (fun x hq9 => c_X9_isCopy _ _ _ hq9) (fun q1 _ => ?_)
  refine j_if_ne (pc := 4) (tgt := 9) dX8_beat_4 (by decide) (fun _ => ?_) (fun _ => ?_)
  · refine j_iconst (pc := 7) ki_m1 dX8_beat_7 ?_
    exact j_iret (pc := 8) rfl dX8_beat_8
  refine j_aload_n (pc := 9) (p := 0) rfl rfl dX8_beat_9 ?_
  refine j_iload_n (pc := 10) (p := 1) rfl rfl dX8_beat_10 ?_
  refine j_cVi (pc := 11) Y_X8_hasFullWay (ci := 7) (b := v0) rfl rfl ml_X8_69 im_X8_hasFullWay se_X8_hasFullWay ⟨Nat.le_of_ble_eq_true rfl, Nat.le_of_ble_eq_true rfl⟩ dX8_beat_11 (As := [.int v1]) (rest := []) rfl rfl (Nat.le_of_ble_eq_true rfl) (fun x hq9 => c_X8_hasFullWay _ _ _ _ hq9) (fun q2 _ => ?_)
  refine j_if_eq (pc := 14) (tgt := 20) dX8_beat_14 (by decide) (fun _ => ?_) (fun _ => ?_)
  · refine j_aload_n (pc := 20) (p := 0) rfl rfl dX8_beat_20 ?_
    refine j_iload_n (pc := 21) (p := 1) rfl rfl dX8_beat_21 ?_
    refine j_aload_n (pc := 22) (p := 0) rfl rfl dX8_beat_22 ?_
    refine j_getR (pc := 23) FI_X8 (k := 0) (by decide) fl_X8_11 dX8_beat_23 (fun x3 _ => ?_)
    refine j_iload_n (pc := 26) (p := 1) rfl rfl dX8_beat_26 ?_
    refine j_aald (pc := 27) (t := 4) rfl dX8_beat_27 (fun x4 _ => ?_)
    refine j_getI (pc := 28) FI_X0 (k := 1) (by decide) fl_X8_46 dX8_beat_28 (fun x5 _ => ?_)
    refine j_iload_n (pc := 31) (p := 1) rfl rfl dX8_beat_31 ?_
    refine j_iconst (pc := 32) ki_0 dX8_beat_32 ?_
    refine j_iconst (pc := 33) ki_0 dX8_beat_33 ?_
    refine j_iconst (pc := 34) ki_0 dX8_beat_34 ?_
    refine j_cSl (pc := 35) Y_X1_of ml_X8_72 sm_X1_of ⟨Nat.le_of_ble_eq_true rfl, Nat.le_of_ble_eq_true rfl⟩ dX8_beat_35 (As := [.int x5, .int v1, .int (0), .int (0), .int (0)]) (rest := [.int v1, .ref v0]) rfl rfl (Nat.le_of_ble_eq_true rfl) (fun x hq9 => c_X1_of _ _ _ _ _ _ _ hq9) (fun q6 _ => ?_)
    refine j_cVu (pc := 38) Y_X8_send (ci := 7) (b := v0) rfl rfl ml_X8_95 im_X8_send se_X8_send ⟨Nat.le_of_ble_eq_true rfl, Nat.le_of_ble_eq_true rfl⟩ dX8_beat_38 (As := [.int v1, .long q6.2]) (rest := []) rfl rfl (Nat.le_of_ble_eq_true rfl) (fun x hq9 => c_X8_send _ _ _ _ _ hq9) (fun q7 _ => ?_)
    refine j_aload_n (pc := 41) (p := 0) rfl rfl dX8_beat_41 ?_
    refine j_getR (pc := 42) FI_X8 (k := 0) (by decide) fl_X8_11 dX8_beat_42 (fun x8 _ => ?_)
    refine j_iload_n (pc := 45) (p := 1) rfl rfl dX8_beat_45 ?_
    refine j_aald (pc := 46) (t := 4) rfl dX8_beat_46 (fun x9 _ => ?_)
    refine j_getI (pc := 47) FI_X0 (k := 1) (by decide) fl_X8_46 dX8_beat_47 (fun x10 _ => ?_)
    exact j_iret (pc := 50) rfl dX8_beat_50
  refine j_bipush (pc := 17) kb_m3 dX8_beat_17 ?_
  exact j_iret (pc := 19) rfl dX8_beat_19
set_option maxRecDepth 20000 in
set_option maxHeartbeats 1000000 in
theorem c_X8_beat {G : q_G} {l : Launch} : ∀ (h : q_H) (a0 : Nat) (a1 : Int32) (q : q_H × Int32), f_X8_beat h a0 a1 = some q → (∃ fs, h.1 a0 = .inr (7, fs)) ∧ q_CT G l yX8_beat cX8_beat 2 (some .int) 2 45 [.ref a0, .int a1] h q.1 (q_i q.2) := by
  intro h a0 a1 q e
  obtain ⟨e1, e2⟩ := q_chk_ok e
  exact ⟨e1, q_ofJ Y_X8_beat (Nat.le_of_ble_eq_true rfl) (jb_X8_beat_0 h a0 a1) q e2⟩
/-! FarFolders$World.copyFrom(LFarFolders$World;)V -/
theorem dX8_copyFrom_0 : decode cX8_copyFrom 0 = .ok (.iconst 0, 1) := by decide +kernel
theorem dX8_copyFrom_1 : decode cX8_copyFrom 1 = .ok (.istore_n 2, 1) := by decide +kernel
theorem dX8_copyFrom_2 : decode cX8_copyFrom 2 = .ok (.iload_n 2, 1) := by decide +kernel
theorem dX8_copyFrom_3 : decode cX8_copyFrom 3 = .ok (.iconst 3, 1) := by decide +kernel
theorem dX8_copyFrom_4 : decode cX8_copyFrom 4 = .ok (.if_icmp .ge 24, 3) := by decide +kernel
theorem dX8_copyFrom_7 : decode cX8_copyFrom 7 = .ok (.aload_n 0, 1) := by decide +kernel
theorem dX8_copyFrom_8 : decode cX8_copyFrom 8 = .ok (.getfield 11, 3) := by decide +kernel
theorem dX8_copyFrom_11 : decode cX8_copyFrom 11 = .ok (.iload_n 2, 1) := by decide +kernel
theorem dX8_copyFrom_12 : decode cX8_copyFrom 12 = .ok (.aaload, 1) := by decide +kernel
theorem dX8_copyFrom_13 : decode cX8_copyFrom 13 = .ok (.aload_n 1, 1) := by decide +kernel
theorem dX8_copyFrom_14 : decode cX8_copyFrom 14 = .ok (.getfield 11, 3) := by decide +kernel
theorem dX8_copyFrom_17 : decode cX8_copyFrom 17 = .ok (.iload_n 2, 1) := by decide +kernel
theorem dX8_copyFrom_18 : decode cX8_copyFrom 18 = .ok (.aaload, 1) := by decide +kernel
theorem dX8_copyFrom_19 : decode cX8_copyFrom 19 = .ok (.invokevirtual 27, 3) := by decide +kernel
theorem dX8_copyFrom_22 : decode cX8_copyFrom 22 = .ok (.iinc 2 1, 3) := by decide +kernel
theorem dX8_copyFrom_25 : decode cX8_copyFrom 25 = .ok (.goto (-23), 3) := by decide +kernel
theorem dX8_copyFrom_28 : decode cX8_copyFrom 28 = .ok (.iconst 0, 1) := by decide +kernel
theorem dX8_copyFrom_29 : decode cX8_copyFrom 29 = .ok (.istore_n 2, 1) := by decide +kernel
theorem dX8_copyFrom_30 : decode cX8_copyFrom 30 = .ok (.iload_n 2, 1) := by decide +kernel
theorem dX8_copyFrom_31 : decode cX8_copyFrom 31 = .ok (.aload_n 0, 1) := by decide +kernel
theorem dX8_copyFrom_32 : decode cX8_copyFrom 32 = .ok (.getfield 19, 3) := by decide +kernel
theorem dX8_copyFrom_35 : decode cX8_copyFrom 35 = .ok (.arraylength, 1) := by decide +kernel
theorem dX8_copyFrom_36 : decode cX8_copyFrom 36 = .ok (.if_icmp .ge 24, 3) := by decide +kernel
theorem dX8_copyFrom_39 : decode cX8_copyFrom 39 = .ok (.aload_n 0, 1) := by decide +kernel
theorem dX8_copyFrom_40 : decode cX8_copyFrom 40 = .ok (.getfield 19, 3) := by decide +kernel
theorem dX8_copyFrom_43 : decode cX8_copyFrom 43 = .ok (.iload_n 2, 1) := by decide +kernel
theorem dX8_copyFrom_44 : decode cX8_copyFrom 44 = .ok (.aaload, 1) := by decide +kernel
theorem dX8_copyFrom_45 : decode cX8_copyFrom 45 = .ok (.aload_n 1, 1) := by decide +kernel
theorem dX8_copyFrom_46 : decode cX8_copyFrom 46 = .ok (.getfield 19, 3) := by decide +kernel
theorem dX8_copyFrom_49 : decode cX8_copyFrom 49 = .ok (.iload_n 2, 1) := by decide +kernel
theorem dX8_copyFrom_50 : decode cX8_copyFrom 50 = .ok (.aaload, 1) := by decide +kernel
theorem dX8_copyFrom_51 : decode cX8_copyFrom 51 = .ok (.invokevirtual 31, 3) := by decide +kernel
theorem dX8_copyFrom_54 : decode cX8_copyFrom 54 = .ok (.iinc 2 1, 3) := by decide +kernel
theorem dX8_copyFrom_57 : decode cX8_copyFrom 57 = .ok (.goto (-27), 3) := by decide +kernel
theorem dX8_copyFrom_60 : decode cX8_copyFrom 60 = .ok (.return_, 1) := by decide +kernel
def b_X8_copyFrom_30 (k30 : q_H → Nat → Nat → Int32 → Option (q_H × Unit)) (h : q_H) (v0 : Nat) (v1 : Nat) (v2 : Int32) : Option (q_H × Unit) :=
  Option.bind (q_gR 7 1 h v0) (fun x1 => Option.bind (q_len h x1) (fun x2 => if x2 ≤ v2 then some (h, ()) else Option.bind (q_gR 7 1 h v0) (fun x3 => Option.bind (q_lR 5 h x3 v2) (fun x4 => Option.bind (q_gR 7 1 h v1) (fun x5 => Option.bind (q_lR 5 h x5 v2) (fun x6 => Option.bind (f_X5_copyFrom h x4 x6) (fun q7 => k30 q7.1 v0 v1 (v2 + 1))))))))
def l_X8_copyFrom_30 : Nat → q_H → Nat → Nat → Int32 → Option (q_H × Unit)
  | 0, _, _, _, _ => none
  | n + 1, h, v0, v1, v2 => b_X8_copyFrom_30 (l_X8_copyFrom_30 n) h v0 v1 v2
def b_X8_copyFrom_2 (k2 : q_H → Nat → Nat → Int32 → Option (q_H × Unit)) (h : q_H) (v0 : Nat) (v1 : Nat) (v2 : Int32) : Option (q_H × Unit) :=
  if (3) ≤ v2 then l_X8_copyFrom_30 q_FU h v0 v1 (0) else Option.bind (q_gR 7 0 h v0) (fun x8 => Option.bind (q_lR 4 h x8 v2) (fun x9 => Option.bind (q_gR 7 0 h v1) (fun x10 => Option.bind (q_lR 4 h x10 v2) (fun x11 => Option.bind (f_X0_copyFrom h x9 x11) (fun q12 => k2 q12.1 v0 v1 (v2 + 1))))))
def l_X8_copyFrom_2 : Nat → q_H → Nat → Nat → Int32 → Option (q_H × Unit)
  | 0, _, _, _, _ => none
  | n + 1, h, v0, v1, v2 => b_X8_copyFrom_2 (l_X8_copyFrom_2 n) h v0 v1 v2
def b_X8_copyFrom_0 (h : q_H) (v0 : Nat) (v1 : Nat) : Option (q_H × Unit) :=
  l_X8_copyFrom_2 q_FU h v0 v1 (0)
def f_X8_copyFrom (h : q_H) (a0 : Nat) (a1 : Nat) : Option (q_H × Unit) := q_chk 7 h a0 (b_X8_copyFrom_0 h a0 a1)
set_option maxRecDepth 20000 in
set_option maxHeartbeats 1000000 in
theorem jb_X8_copyFrom_30 {G : q_G} {l : Launch} {k0 z0 : Nat} (k30 : q_H → Nat → Nat → Int32 → Option (q_H × Unit)) (hk30 : ∀ (h : q_H) (v0 : Nat) (v1 : Nat) (v2 : Int32), q_J G l (RX8, cX8_copyFrom, 3, 3, 102, none, "copyFrom", []) k0 z0 (q_Z G k0 z0 q_u) 30 [(0, .ref v0), (1, .ref v1), (2, .int v2)] [] h (k30 h v0 v1 v2)) (h : q_H) (v0 : Nat) (v1 : Nat) (v2 : Int32) : q_J G l (RX8, cX8_copyFrom, 3, 3, 102, none, "copyFrom", []) k0 z0 (q_Z G k0 z0 q_u) 30 [(0, .ref v0), (1, .ref v1), (2, .int v2)] [] h (b_X8_copyFrom_30 k30 h v0 v1 v2) := by
  unfold b_X8_copyFrom_30
  refine j_iload_n (pc := 30) (p := 2) rfl rfl dX8_copyFrom_30 ?_
  refine j_aload_n (pc := 31) (p := 0) rfl rfl dX8_copyFrom_31 ?_
  refine j_getR (pc := 32) FI_X8 (k := 1) (by decide) fl_X8_19 dX8_copyFrom_32 (fun x1 _ => ?_)
  refine j_alen (pc := 35) dX8_copyFrom_35 (fun x2 _ => ?_)
  refine j_ic_ge (pc := 36) (tgt := 60) dX8_copyFrom_36 (by decide) (fun _ => ?_) (fun _ => ?_)
  · exact j_vret (pc := 60) rfl dX8_copyFrom_60
  refine j_aload_n (pc := 39) (p := 0) rfl rfl dX8_copyFrom_39 ?_
  refine j_getR (pc := 40) FI_X8 (k := 1) (by decide) fl_X8_19 dX8_copyFrom_40 (fun x3 _ => ?_)
  refine j_iload_n (pc := 43) (p := 2) rfl rfl dX8_copyFrom_43 ?_
  refine j_aald (pc := 44) (t := 5) rfl dX8_copyFrom_44 (fun x4 _ => ?_)
  refine j_aload_n (pc := 45) (p := 1) rfl rfl dX8_copyFrom_45 ?_
  refine j_getR (pc := 46) FI_X8 (k := 1) (by decide) fl_X8_19 dX8_copyFrom_46 (fun x5 _ => ?_)
  refine j_iload_n (pc := 49) (p := 2) rfl rfl dX8_copyFrom_49 ?_
  refine j_aald (pc := 50) (t := 5) rfl dX8_copyFrom_50 (fun x6 _ => ?_)
  refine j_cVu (pc := 51) Y_X5_copyFrom (ci := 4) (b := x4) rfl rfl ml_X8_31 im_X5_copyFrom se_X5_copyFrom ⟨Nat.le_of_ble_eq_true rfl, Nat.le_of_ble_eq_true rfl⟩ dX8_copyFrom_51 (As := [.ref x6]) (rest := []) rfl rfl (Nat.le_of_ble_eq_true rfl) (fun x hq9 => c_X5_copyFrom _ _ _ _ hq9) (fun q7 _ => ?_)
  refine j_inc (pc := 54) (p := 2) (lv' := [(2, .int (v2 + 1)), (0, .ref v0), (1, .ref v1)]) rfl ki_1 (by decide) rfl dX8_copyFrom_54 ?_
  refine j_goto (pc := 57) (tgt := 30) dX8_copyFrom_57 (by decide) ?_
  refine j_sub [1, 2, 0] (lv' := [(0, .ref v0), (1, .ref v1), (2, .int (v2 + 1))]) rfl ?_
  exact hk30 _ _ _ _
set_option maxRecDepth 20000 in
set_option maxHeartbeats 1000000 in
theorem jl_X8_copyFrom_30 {G : q_G} {l : Launch} {k0 z0 : Nat} (n : Nat) : ∀ (h : q_H) (v0 : Nat) (v1 : Nat) (v2 : Int32), q_J G l (RX8, cX8_copyFrom, 3, 3, 102, none, "copyFrom", []) k0 z0 (q_Z G k0 z0 q_u) 30 [(0, .ref v0), (1, .ref v1), (2, .int v2)] [] h (l_X8_copyFrom_30 n h v0 v1 v2) := by
  induction n with
  | zero => intro h v0 v1 v2; exact j_none
  | succ n ih => intro h v0 v1 v2; exact jb_X8_copyFrom_30 (l_X8_copyFrom_30 n) ih h v0 v1 v2
set_option maxRecDepth 20000 in
set_option maxHeartbeats 1000000 in
theorem jb_X8_copyFrom_2 {G : q_G} {l : Launch} {k0 z0 : Nat} (k2 : q_H → Nat → Nat → Int32 → Option (q_H × Unit)) (hk2 : ∀ (h : q_H) (v0 : Nat) (v1 : Nat) (v2 : Int32), q_J G l (RX8, cX8_copyFrom, 3, 3, 102, none, "copyFrom", []) k0 z0 (q_Z G k0 z0 q_u) 2 [(0, .ref v0), (1, .ref v1), (2, .int v2)] [] h (k2 h v0 v1 v2)) (h : q_H) (v0 : Nat) (v1 : Nat) (v2 : Int32) : q_J G l (RX8, cX8_copyFrom, 3, 3, 102, none, "copyFrom", []) k0 z0 (q_Z G k0 z0 q_u) 2 [(0, .ref v0), (1, .ref v1), (2, .int v2)] [] h (b_X8_copyFrom_2 k2 h v0 v1 v2) := by
  unfold b_X8_copyFrom_2
  refine j_iload_n (pc := 2) (p := 2) rfl rfl dX8_copyFrom_2 ?_
  refine j_iconst (pc := 3) ki_3 dX8_copyFrom_3 ?_
  refine j_ic_ge (pc := 4) (tgt := 28) dX8_copyFrom_4 (by decide) (fun _ => ?_) (fun _ => ?_)
  · refine j_iconst (pc := 28) ki_0 dX8_copyFrom_28 ?_
    refine j_istore_n (pc := 29) (lv' := [(2, .int (0)), (0, .ref v0), (1, .ref v1)]) rfl (by decide) rfl dX8_copyFrom_29 ?_
    refine j_sub [1, 2, 0] (lv' := [(0, .ref v0), (1, .ref v1), (2, .int (0))]) rfl ?_
    exact jl_X8_copyFrom_30 q_FU _ _ _ _
  refine j_aload_n (pc := 7) (p := 0) rfl rfl dX8_copyFrom_7 ?_
  refine j_getR (pc := 8) FI_X8 (k := 0) (by decide) fl_X8_11 dX8_copyFrom_8 (fun x8 _ => ?_)
  refine j_iload_n (pc := 11) (p := 2) rfl rfl dX8_copyFrom_11 ?_
  refine j_aald (pc := 12) (t := 4) rfl dX8_copyFrom_12 (fun x9 _ => ?_)
  refine j_aload_n (pc := 13) (p := 1) rfl rfl dX8_copyFrom_13 ?_
  refine j_getR (pc := 14) FI_X8 (k := 0) (by decide) fl_X8_11 dX8_copyFrom_14 (fun x10 _ => ?_)
  refine j_iload_n (pc := 17) (p := 2) rfl rfl dX8_copyFrom_17 ?_
  refine j_aald (pc := 18) (t := 4) rfl dX8_copyFrom_18 (fun x11 _ => ?_)
  refine j_cVu (pc := 19) Y_X0_copyFrom (ci := 0) (b := x9) rfl rfl ml_X8_27 im_X0_copyFrom se_X0_copyFrom ⟨Nat.le_of_ble_eq_true rfl, Nat.le_of_ble_eq_true rfl⟩ dX8_copyFrom_19 (As := [.ref x11]) (rest := []) rfl rfl (Nat.le_of_ble_eq_true rfl) (fun x hq9 => c_X0_copyFrom _ _ _ _ hq9) (fun q12 _ => ?_)
  refine j_inc (pc := 22) (p := 2) (lv' := [(2, .int (v2 + 1)), (0, .ref v0), (1, .ref v1)]) rfl ki_1 (by decide) rfl dX8_copyFrom_22 ?_
  refine j_goto (pc := 25) (tgt := 2) dX8_copyFrom_25 (by decide) ?_
  refine j_sub [1, 2, 0] (lv' := [(0, .ref v0), (1, .ref v1), (2, .int (v2 + 1))]) rfl ?_
  exact hk2 _ _ _ _
set_option maxRecDepth 20000 in
set_option maxHeartbeats 1000000 in
theorem jl_X8_copyFrom_2 {G : q_G} {l : Launch} {k0 z0 : Nat} (n : Nat) : ∀ (h : q_H) (v0 : Nat) (v1 : Nat) (v2 : Int32), q_J G l (RX8, cX8_copyFrom, 3, 3, 102, none, "copyFrom", []) k0 z0 (q_Z G k0 z0 q_u) 2 [(0, .ref v0), (1, .ref v1), (2, .int v2)] [] h (l_X8_copyFrom_2 n h v0 v1 v2) := by
  induction n with
  | zero => intro h v0 v1 v2; exact j_none
  | succ n ih => intro h v0 v1 v2; exact jb_X8_copyFrom_2 (l_X8_copyFrom_2 n) ih h v0 v1 v2
set_option maxRecDepth 20000 in
set_option maxHeartbeats 1000000 in
theorem jb_X8_copyFrom_0 {G : q_G} {l : Launch} {k0 z0 : Nat} (h : q_H) (v0 : Nat) (v1 : Nat) : q_J G l (RX8, cX8_copyFrom, 3, 3, 102, none, "copyFrom", []) k0 z0 (q_Z G k0 z0 q_u) 0 [(0, .ref v0), (1, .ref v1)] [] h (b_X8_copyFrom_0 h v0 v1) := by
  unfold b_X8_copyFrom_0
  refine j_iconst (pc := 0) ki_0 dX8_copyFrom_0 ?_
  refine j_istore_n (pc := 1) (lv' := [(2, .int (0)), (0, .ref v0), (1, .ref v1)]) rfl (by decide) rfl dX8_copyFrom_1 ?_
  refine j_sub [1, 2, 0] (lv' := [(0, .ref v0), (1, .ref v1), (2, .int (0))]) rfl ?_
  exact jl_X8_copyFrom_2 q_FU _ _ _ _
set_option maxRecDepth 20000 in
set_option maxHeartbeats 1000000 in
theorem c_X8_copyFrom {G : q_G} {l : Launch} : ∀ (h : q_H) (a0 : Nat) (a1 : Nat) (q : q_H × Unit), f_X8_copyFrom h a0 a1 = some q → (∃ fs, h.1 a0 = .inr (7, fs)) ∧ q_CT G l yX8_copyFrom cX8_copyFrom 3 none 3 102 [.ref a0, .ref a1] h q.1 (q_u q.2) := by
  intro h a0 a1 q e
  obtain ⟨e1, e2⟩ := q_chk_ok e
  exact ⟨e1, q_ofJ Y_X8_copyFrom (Nat.le_of_ble_eq_true rfl) (jb_X8_copyFrom_0 h a0 a1) q e2⟩
/-! FarFolders$World.cut(I)I -/
theorem dX8_cut_0 : decode cX8_cut 0 = .ok (.iload_n 1, 1) := by decide +kernel
theorem dX8_cut_1 : decode cX8_cut 1 = .ok (.invokestatic 55, 3) := by decide +kernel
theorem dX8_cut_4 : decode cX8_cut 4 = .ok (.ifCond .eq 15, 3) := by decide +kernel
theorem dX8_cut_7 : decode cX8_cut 7 = .ok (.aload_n 0, 1) := by decide +kernel
theorem dX8_cut_8 : decode cX8_cut 8 = .ok (.getfield 11, 3) := by decide +kernel
theorem dX8_cut_11 : decode cX8_cut 11 = .ok (.iload_n 1, 1) := by decide +kernel
theorem dX8_cut_12 : decode cX8_cut 12 = .ok (.aaload, 1) := by decide +kernel
theorem dX8_cut_13 : decode cX8_cut 13 = .ok (.invokevirtual 157, 3) := by decide +kernel
theorem dX8_cut_16 : decode cX8_cut 16 = .ok (.goto 4, 3) := by decide +kernel
theorem dX8_cut_19 : decode cX8_cut 19 = .ok (.iconst (-1), 1) := by decide +kernel
theorem dX8_cut_20 : decode cX8_cut 20 = .ok (.ireturn, 1) := by decide +kernel
def b_X8_cut_0 (h : q_H) (v0 : Nat) (v1 : Int32) : Option (q_H × Int32) :=
  Option.bind (f_X9_isCopy h v1) (fun q1 => if q1.2 = 0 then some (q1.1, (-1)) else Option.bind (q_gR 7 0 q1.1 v0) (fun x2 => Option.bind (q_lR 4 q1.1 x2 v1) (fun x3 => Option.bind (f_X0_dropStable q1.1 x3) (fun q4 => some (q4.1, q4.2)))))
def f_X8_cut (h : q_H) (a0 : Nat) (a1 : Int32) : Option (q_H × Int32) := q_chk 7 h a0 (b_X8_cut_0 h a0 a1)
set_option maxRecDepth 20000 in
set_option maxHeartbeats 1000000 in
theorem jb_X8_cut_0 {G : q_G} {l : Launch} {k0 z0 : Nat} (h : q_H) (v0 : Nat) (v1 : Int32) : q_J G l (RX8, cX8_cut, 2, 4, 124, (some .int), "cut", []) k0 z0 (q_Z G k0 z0 q_i) 0 [(0, .ref v0), (1, .int v1)] [] h (b_X8_cut_0 h v0 v1) := by
  unfold b_X8_cut_0
  refine j_iload_n (pc := 0) (p := 1) rfl rfl dX8_cut_0 ?_
  refine j_cSNi (pc := 1) Y_X9_isCopy mn_X8_55 sm_X9_isCopy ⟨Nat.le_of_ble_eq_true rfl, Nat.le_of_ble_eq_true rfl⟩ dX8_cut_1 (As := [.int v1]) (rest := []) rfl rfl (Nat.le_of_ble_eq_true rfl) (fun x hq9 => c_X9_isCopy _ _ _ hq9) (fun q1 _ => ?_)
  refine j_if_eq (pc := 4) (tgt := 19) dX8_cut_4 (by decide) (fun _ => ?_) (fun _ => ?_)
  · refine j_iconst (pc := 19) ki_m1 dX8_cut_19 ?_
    exact j_iret (pc := 20) rfl dX8_cut_20
  refine j_aload_n (pc := 7) (p := 0) rfl rfl dX8_cut_7 ?_
  refine j_getR (pc := 8) FI_X8 (k := 0) (by decide) fl_X8_11 dX8_cut_8 (fun x2 _ => ?_)
  refine j_iload_n (pc := 11) (p := 1) rfl rfl dX8_cut_11 ?_
  refine j_aald (pc := 12) (t := 4) rfl dX8_cut_12 (fun x3 _ => ?_)
  refine j_cVi (pc := 13) Y_X0_dropStable (ci := 0) (b := x3) rfl rfl ml_X8_157 im_X0_dropStable se_X0_dropStable ⟨Nat.le_of_ble_eq_true rfl, Nat.le_of_ble_eq_true rfl⟩ dX8_cut_13 (As := []) (rest := []) rfl rfl (Nat.le_of_ble_eq_true rfl) (fun x hq9 => c_X0_dropStable _ _ _ hq9) (fun q4 _ => ?_)
  refine j_goto (pc := 16) (tgt := 20) dX8_cut_16 (by decide) ?_
  exact j_iret (pc := 20) rfl dX8_cut_20
set_option maxRecDepth 20000 in
set_option maxHeartbeats 1000000 in
theorem c_X8_cut {G : q_G} {l : Launch} : ∀ (h : q_H) (a0 : Nat) (a1 : Int32) (q : q_H × Int32), f_X8_cut h a0 a1 = some q → (∃ fs, h.1 a0 = .inr (7, fs)) ∧ q_CT G l yX8_cut cX8_cut 2 (some .int) 4 124 [.ref a0, .int a1] h q.1 (q_i q.2) := by
  intro h a0 a1 q e
  obtain ⟨e1, e2⟩ := q_chk_ok e
  exact ⟨e1, q_ofJ Y_X8_cut (Nat.le_of_ble_eq_true rfl) (jb_X8_cut_0 h a0 a1) q e2⟩
/-! FarFolders.areTwoCopies(II)Z -/
theorem dX9_areTwoCopies_0 : decode cX9_areTwoCopies 0 = .ok (.iload_n 0, 1) := by decide +kernel
theorem dX9_areTwoCopies_1 : decode cX9_areTwoCopies 1 = .ok (.invokestatic 73, 3) := by decide +kernel
theorem dX9_areTwoCopies_4 : decode cX9_areTwoCopies 4 = .ok (.ifCond .eq 19, 3) := by decide +kernel
theorem dX9_areTwoCopies_7 : decode cX9_areTwoCopies 7 = .ok (.iload_n 1, 1) := by decide +kernel
theorem dX9_areTwoCopies_8 : decode cX9_areTwoCopies 8 = .ok (.invokestatic 73, 3) := by decide +kernel
theorem dX9_areTwoCopies_11 : decode cX9_areTwoCopies 11 = .ok (.ifCond .eq 12, 3) := by decide +kernel
theorem dX9_areTwoCopies_14 : decode cX9_areTwoCopies 14 = .ok (.iload_n 0, 1) := by decide +kernel
theorem dX9_areTwoCopies_15 : decode cX9_areTwoCopies 15 = .ok (.iload_n 1, 1) := by decide +kernel
theorem dX9_areTwoCopies_16 : decode cX9_areTwoCopies 16 = .ok (.if_icmp .eq 7, 3) := by decide +kernel
theorem dX9_areTwoCopies_19 : decode cX9_areTwoCopies 19 = .ok (.iconst 1, 1) := by decide +kernel
theorem dX9_areTwoCopies_20 : decode cX9_areTwoCopies 20 = .ok (.goto 4, 3) := by decide +kernel
theorem dX9_areTwoCopies_23 : decode cX9_areTwoCopies 23 = .ok (.iconst 0, 1) := by decide +kernel
theorem dX9_areTwoCopies_24 : decode cX9_areTwoCopies 24 = .ok (.ireturn, 1) := by decide +kernel
def b_X9_areTwoCopies_0 (h : q_H) (v0 : Int32) (v1 : Int32) : Option (q_H × Int32) :=
  Option.bind (f_X9_isCopy h v0) (fun q1 => if q1.2 = 0 then some (q1.1, (0)) else Option.bind (f_X9_isCopy q1.1 v1) (fun q2 => if q2.2 = 0 then some (q2.1, (0)) else if v0 = v1 then some (q2.1, (0)) else some (q2.1, (1))))
def f_X9_areTwoCopies (h : q_H) (a0 : Int32) (a1 : Int32) : Option (q_H × Int32) := b_X9_areTwoCopies_0 h a0 a1
set_option maxRecDepth 20000 in
set_option maxHeartbeats 1000000 in
theorem jb_X9_areTwoCopies_0 {G : q_G} {l : Launch} {k0 z0 : Nat} (h : q_H) (v0 : Int32) (v1 : Int32) : q_J G l (RX9, cX9_areTwoCopies, 2, 1, 20, (some .boolean), "areTwoCopies", []) k0 z0 (q_Z G k0 z0 q_i) 0 [(0, .int v0), (1, .int v1)] [] h (b_X9_areTwoCopies_0 h v0 v1) := by
  unfold b_X9_areTwoCopies_0
  refine j_iload_n (pc := 0) (p := 0) rfl rfl dX9_areTwoCopies_0 ?_
  refine j_cSi (pc := 1) Y_X9_isCopy ml_X9_73 sm_X9_isCopy ⟨Nat.le_of_ble_eq_true rfl, Nat.le_of_ble_eq_true rfl⟩ dX9_areTwoCopies_1 (As := [.int v0]) (rest := []) rfl rfl (Nat.le_of_ble_eq_true rfl) (fun x hq9 => c_X9_isCopy _ _ _ hq9) (fun q1 _ => ?_)
  refine j_if_eq (pc := 4) (tgt := 23) dX9_areTwoCopies_4 (by decide) (fun _ => ?_) (fun _ => ?_)
  · refine j_iconst (pc := 23) ki_0 dX9_areTwoCopies_23 ?_
    exact j_zret (pc := 24) rfl rfl dX9_areTwoCopies_24
  refine j_iload_n (pc := 7) (p := 1) rfl rfl dX9_areTwoCopies_7 ?_
  refine j_cSi (pc := 8) Y_X9_isCopy ml_X9_73 sm_X9_isCopy ⟨Nat.le_of_ble_eq_true rfl, Nat.le_of_ble_eq_true rfl⟩ dX9_areTwoCopies_8 (As := [.int v1]) (rest := []) rfl rfl (Nat.le_of_ble_eq_true rfl) (fun x hq9 => c_X9_isCopy _ _ _ hq9) (fun q2 _ => ?_)
  refine j_if_eq (pc := 11) (tgt := 23) dX9_areTwoCopies_11 (by decide) (fun _ => ?_) (fun _ => ?_)
  · refine j_iconst (pc := 23) ki_0 dX9_areTwoCopies_23 ?_
    exact j_zret (pc := 24) rfl rfl dX9_areTwoCopies_24
  refine j_iload_n (pc := 14) (p := 0) rfl rfl dX9_areTwoCopies_14 ?_
  refine j_iload_n (pc := 15) (p := 1) rfl rfl dX9_areTwoCopies_15 ?_
  refine j_ic_eq (pc := 16) (tgt := 23) dX9_areTwoCopies_16 (by decide) (fun _ => ?_) (fun _ => ?_)
  · refine j_iconst (pc := 23) ki_0 dX9_areTwoCopies_23 ?_
    exact j_zret (pc := 24) rfl rfl dX9_areTwoCopies_24
  refine j_iconst (pc := 19) ki_1 dX9_areTwoCopies_19 ?_
  refine j_goto (pc := 20) (tgt := 24) dX9_areTwoCopies_20 (by decide) ?_
  exact j_zret (pc := 24) rfl rfl dX9_areTwoCopies_24
set_option maxRecDepth 20000 in
set_option maxHeartbeats 1000000 in
theorem c_X9_areTwoCopies {G : q_G} {l : Launch} : ∀ (h : q_H) (a0 : Int32) (a1 : Int32) (q : q_H × Int32), f_X9_areTwoCopies h a0 a1 = some q → q_CT G l yX9_areTwoCopies cX9_areTwoCopies 2 (some .boolean) 1 20 [.int a0, .int a1] h q.1 (q_i q.2) := by
  intro h a0 a1 q e
  exact q_ofJ Y_X9_areTwoCopies (Nat.le_of_ble_eq_true rfl) (jb_X9_areTwoCopies_0 h a0 a1) q e
/-! FarFolders$World.takeNext(II)I -/
theorem dX8_takeNext_0 : decode cX8_takeNext 0 = .ok (.aload_n 0, 1) := by decide +kernel
theorem dX8_takeNext_1 : decode cX8_takeNext 1 = .ok (.iload_n 1, 1) := by decide +kernel
theorem dX8_takeNext_2 : decode cX8_takeNext 2 = .ok (.iload_n 2, 1) := by decide +kernel
theorem dX8_takeNext_3 : decode cX8_takeNext 3 = .ok (.invokevirtual 34, 3) := by decide +kernel
theorem dX8_takeNext_6 : decode cX8_takeNext 6 = .ok (.astore_n 3, 1) := by decide +kernel
theorem dX8_takeNext_7 : decode cX8_takeNext 7 = .ok (.aload_n 0, 1) := by decide +kernel
theorem dX8_takeNext_8 : decode cX8_takeNext 8 = .ok (.getfield 11, 3) := by decide +kernel
theorem dX8_takeNext_11 : decode cX8_takeNext 11 = .ok (.iload_n 2, 1) := by decide +kernel
theorem dX8_takeNext_12 : decode cX8_takeNext 12 = .ok (.aaload, 1) := by decide +kernel
theorem dX8_takeNext_13 : decode cX8_takeNext 13 = .ok (.astore 4, 2) := by decide +kernel
theorem dX8_takeNext_15 : decode cX8_takeNext 15 = .ok (.aload_n 3, 1) := by decide +kernel
theorem dX8_takeNext_16 : decode cX8_takeNext 16 = .ok (.iconst 0, 1) := by decide +kernel
theorem dX8_takeNext_17 : decode cX8_takeNext 17 = .ok (.invokevirtual 106, 3) := by decide +kernel
theorem dX8_takeNext_20 : decode cX8_takeNext 20 = .ok (.lstore 5, 2) := by decide +kernel
theorem dX8_takeNext_22 : decode cX8_takeNext 22 = .ok (.aload_n 3, 1) := by decide +kernel
theorem dX8_takeNext_23 : decode cX8_takeNext 23 = .ok (.iconst 1, 1) := by decide +kernel
theorem dX8_takeNext_24 : decode cX8_takeNext 24 = .ok (.invokevirtual 116, 3) := by decide +kernel
theorem dX8_takeNext_27 : decode cX8_takeNext 27 = .ok (.aload 4, 2) := by decide +kernel
theorem dX8_takeNext_29 : decode cX8_takeNext 29 = .ok (.iload_n 1, 1) := by decide +kernel
theorem dX8_takeNext_30 : decode cX8_takeNext 30 = .ok (.lload 5, 2) := by decide +kernel
theorem dX8_takeNext_32 : decode cX8_takeNext 32 = .ok (.invokevirtual 119, 3) := by decide +kernel
theorem dX8_takeNext_35 : decode cX8_takeNext 35 = .ok (.lload 5, 2) := by decide +kernel
theorem dX8_takeNext_37 : decode cX8_takeNext 37 = .ok (.invokestatic 110, 3) := by decide +kernel
theorem dX8_takeNext_40 : decode cX8_takeNext 40 = .ok (.ifCond .ne 5, 3) := by decide +kernel
theorem dX8_takeNext_43 : decode cX8_takeNext 43 = .ok (.iconst 0, 1) := by decide +kernel
theorem dX8_takeNext_44 : decode cX8_takeNext 44 = .ok (.ireturn, 1) := by decide +kernel
theorem dX8_takeNext_45 : decode cX8_takeNext 45 = .ok (.aload 4, 2) := by decide +kernel
theorem dX8_takeNext_47 : decode cX8_takeNext 47 = .ok (.getfield 65, 3) := by decide +kernel
theorem dX8_takeNext_50 : decode cX8_takeNext 50 = .ok (.lload 5, 2) := by decide +kernel
theorem dX8_takeNext_52 : decode cX8_takeNext 52 = .ok (.invokevirtual 122, 3) := by decide +kernel
theorem dX8_takeNext_55 : decode cX8_takeNext 55 = .ok (.istore 7, 2) := by decide +kernel
theorem dX8_takeNext_57 : decode cX8_takeNext 57 = .ok (.aload 4, 2) := by decide +kernel
theorem dX8_takeNext_59 : decode cX8_takeNext 59 = .ok (.aload 4, 2) := by decide +kernel
theorem dX8_takeNext_61 : decode cX8_takeNext 61 = .ok (.getfield 78, 3) := by decide +kernel
theorem dX8_takeNext_64 : decode cX8_takeNext 64 = .ok (.aload 4, 2) := by decide +kernel
theorem dX8_takeNext_66 : decode cX8_takeNext 66 = .ok (.getfield 126, 3) := by decide +kernel
theorem dX8_takeNext_69 : decode cX8_takeNext 69 = .ok (.aload 4, 2) := by decide +kernel
theorem dX8_takeNext_71 : decode cX8_takeNext 71 = .ok (.getfield 65, 3) := by decide +kernel
theorem dX8_takeNext_74 : decode cX8_takeNext 74 = .ok (.iconst (-1), 1) := by decide +kernel
theorem dX8_takeNext_75 : decode cX8_takeNext 75 = .ok (.invokevirtual 129, 3) := by decide +kernel
theorem dX8_takeNext_78 : decode cX8_takeNext 78 = .ok (.putfield 88, 3) := by decide +kernel
theorem dX8_takeNext_81 : decode cX8_takeNext 81 = .ok (.iload 7, 2) := by decide +kernel
theorem dX8_takeNext_83 : decode cX8_takeNext 83 = .ok (.ireturn, 1) := by decide +kernel
def b_X8_takeNext_0 (h : q_H) (v0 : Nat) (v1 : Int32) (v2 : Int32) : Option (q_H × Int32) :=
  Option.bind (f_X8_way h v0 v1 v2) (fun q1 => Option.bind (q_gR 7 0 q1.1 v0) (fun x2 => Option.bind (q_lR 4 q1.1 x2 v2) (fun x3 => Option.bind (f_X5_at q1.1 q1.2 (0)) (fun q4 => Option.bind (f_X5_dropFirst q4.1 q1.2 (1)) (fun q5 => Option.bind (f_X0_hear q5.1 x3 v1 q4.2) (fun q6 => Option.bind (f_X1_hasMove q6.1 q4.2) (fun q7 => if q7.2 = 0 then some (q7.1, (0)) else Option.bind (q_gR 0 3 q7.1 x3) (fun x8 => Option.bind (f_X5_insert q7.1 x8 q4.2) (fun q9 => Option.bind (q_gR 0 5 q9.1 x3) (fun x10 => Option.bind (q_gR 0 4 q9.1 x3) (fun x11 => Option.bind (q_gR 0 3 q9.1 x3) (fun x12 => Option.bind (f_X7_rebuild q9.1 x10 x11 x12 (-1)) (fun q13 => Option.bind (q_p 0 6 q13.1 x3 (.int q13.2)) (fun h14 => some (h14, q9.2)))))))))))))))
def f_X8_takeNext (h : q_H) (a0 : Nat) (a1 : Int32) (a2 : Int32) : Option (q_H × Int32) := q_chk 7 h a0 (b_X8_takeNext_0 h a0 a1 a2)
set_option maxRecDepth 20000 in
set_option maxHeartbeats 1000000 in
theorem jb_X8_takeNext_0 {G : q_G} {l : Launch} {k0 z0 : Nat} (h : q_H) (v0 : Nat) (v1 : Int32) (v2 : Int32) : q_J G l (RX8, cX8_takeNext, 8, 3, 106, (some .int), "takeNext", []) k0 z0 (q_Z G k0 z0 q_i) 0 [(0, .ref v0), (1, .int v1), (2, .int v2)] [] h (b_X8_takeNext_0 h v0 v1 v2) := by
  unfold b_X8_takeNext_0
  refine j_aload_n (pc := 0) (p := 0) rfl rfl dX8_takeNext_0 ?_
  refine j_iload_n (pc := 1) (p := 1) rfl rfl dX8_takeNext_1 ?_
  refine j_iload_n (pc := 2) (p := 2) rfl rfl dX8_takeNext_2 ?_
  refine j_cVr (pc := 3) Y_X8_way (ci := 7) (b := v0) rfl rfl ml_X8_34 im_X8_way se_X8_way ⟨Nat.le_of_ble_eq_true rfl, Nat.le_of_ble_eq_true rfl⟩ dX8_takeNext_3 (As := [.int v1, .int v2]) (rest := []) rfl rfl (Nat.le_of_ble_eq_true rfl) (fun x hq9 => c_X8_way _ _ _ _ _ hq9) (fun q1 _ => ?_)
  refine j_astore_n (pc := 6) (lv' := [(3, .ref q1.2), (0, .ref v0), (1, .int v1), (2, .int v2)]) rfl (by decide) rfl dX8_takeNext_6 ?_
  refine j_aload_n (pc := 7) (p := 1) rfl rfl dX8_takeNext_7 ?_
  refine j_getR (pc := 8) FI_X8 (k := 0) (by decide) fl_X8_11 dX8_takeNext_8 (fun x2 _ => ?_)
  refine j_iload_n (pc := 11) (p := 3) rfl rfl dX8_takeNext_11 ?_
  refine j_aald (pc := 12) (t := 4) rfl dX8_takeNext_12 (fun x3 _ => ?_)
  refine j_astore (pc := 13) (lv' := [(4, .ref x3), (3, .ref q1.2), (0, .ref v0), (1, .int v1), (2, .int v2)]) (by decide) rfl dX8_takeNext_13 ?_
  refine j_aload_n (pc := 15) (p := 1) rfl rfl dX8_takeNext_15 ?_
  refine j_iconst (pc := 16) ki_0 dX8_takeNext_16 ?_
  refine j_cVl (pc := 17) Y_X5_at (ci := 4) (b := q1.2) rfl rfl ml_X8_106 im_X5_at se_X5_at ⟨Nat.le_of_ble_eq_true rfl, Nat.le_of_ble_eq_true rfl⟩ dX8_takeNext_17 (As := [.int (0)]) (rest := []) rfl rfl (Nat.le_of_ble_eq_true rfl) (fun x hq9 => c_X5_at _ _ _ _ hq9) (fun q4 _ => ?_)
  refine j_lstore (pc := 20) (lv' := [(5, .long q4.2), (4, .ref x3), (3, .ref q1.2), (0, .ref v0), (1, .int v1), (2, .int v2)]) (by decide) rfl dX8_takeNext_20 ?_
  refine j_aload_n (pc := 22) (p := 2) rfl rfl dX8_takeNext_22 ?_
  refine j_iconst (pc := 23) ki_1 dX8_takeNext_23 ?_
  refine j_cVu (pc := 24) Y_X5_dropFirst (ci := 4) (b := q1.2) rfl rfl ml_X8_116 im_X5_dropFirst se_X5_dropFirst ⟨Nat.le_of_ble_eq_true rfl, Nat.le_of_ble_eq_true rfl⟩ dX8_takeNext_24 (As := [.int (1)]) (rest := []) rfl rfl (Nat.le_of_ble_eq_true rfl) (fun x hq9 => c_X5_dropFirst _ _ _ _ hq9) (fun q5 _ => ?_)
  refine j_aload (pc := 27) (p := 1) rfl dX8_takeNext_27 ?_
  refine j_iload_n (pc := 29) (p := 4) rfl rfl dX8_takeNext_29 ?_
  refine j_lload (pc := 30) (p := 0) rfl dX8_takeNext_30 ?_
  refine j_cVu (pc := 32) Y_X0_hear (ci := 0) (b := x3) rfl rfl ml_X8_119 im_X0_hear se_X0_hear ⟨Nat.le_of_ble_eq_true rfl, Nat.le_of_ble_eq_true rfl⟩ dX8_takeNext_32 (As := [.int v1, .long q4.2]) (rest := []) rfl rfl (Nat.le_of_ble_eq_true rfl) (fun x hq9 => c_X0_hear _ _ _ _ _ hq9) (fun q6 _ => ?_)
  refine j_lload (pc := 35) (p := 0) rfl dX8_takeNext_35 ?_
  refine j_cSi (pc := 37) Y_X1_hasMove ml_X8_110 sm_X1_hasMove ⟨Nat.le_of_ble_eq_true rfl, Nat.le_of_ble_eq_true rfl⟩ dX8_takeNext_37 (As := [.long q4.2]) (rest := []) rfl rfl (Nat.le_of_ble_eq_true rfl) (fun x hq9 => c_X1_hasMove _ _ _ hq9) (fun q7 _ => ?_)
  refine j_if_ne (pc := 40) (tgt := 45) dX8_takeNext_40 (by decide) (fun _ => ?_) (fun _ => ?_)
  · refine j_iconst (pc := 43) ki_0 dX8_takeNext_43 ?_
    exact j_iret (pc := 44) rfl dX8_takeNext_44
  refine j_aload (pc := 45) (p := 1) rfl dX8_takeNext_45 ?_
  refine j_getR (pc := 47) FI_X0 (k := 3) (by decide) fl_X8_65 dX8_takeNext_47 (fun x8 _ => ?_)
  refine j_lload (pc := 50) (p := 0) rfl dX8_takeNext_50 ?_
  refine j_cVi (pc := 52) Y_X5_insert (ci := 4) (b := x8) rfl rfl ml_X8_122 im_X5_insert se_X5_insert ⟨Nat.le_of_ble_eq_true rfl, Nat.le_of_ble_eq_true rfl⟩ dX8_takeNext_52 (As := [.long q4.2]) (rest := []) rfl rfl (Nat.le_of_ble_eq_true rfl) (fun x hq9 => c_X5_insert _ _ _ _ hq9) (fun q9 _ => ?_)
  refine j_istore (pc := 55) (lv' := [(7, .int q9.2), (5, .long q4.2), (4, .ref x3), (3, .ref q1.2), (0, .ref v0), (1, .int v1), (2, .int v2)]) (by decide) rfl dX8_takeNext_55 ?_
  refine j_aload (pc := 57) (p := 2) rfl dX8_takeNext_57 ?_
  refine j_aload (pc := 59) (p := 2) rfl dX8_takeNext_59 ?_
  refine j_getR (pc := 61) FI_X0 (k := 5) (by decide) fl_X8_78 dX8_takeNext_61 (fun x10 _ => ?_)
  refine j_aload (pc := 64) (p := 2) rfl dX8_takeNext_64 ?_
  refine j_getR (pc := 66) FI_X0 (k := 4) (by decide) fl_X8_126 dX8_takeNext_66 (fun x11 _ => ?_)
  refine j_aload (pc := 69) (p := 2) rfl dX8_takeNext_69 ?_
  refine j_getR (pc := 71) FI_X0 (k := 3) (by decide) fl_X8_65 dX8_takeNext_71 (fun x12 _ => ?_)
  refine j_iconst (pc := 74) ki_m1 dX8_takeNext_74 ?_
  refine j_cVi (pc := 75) Y_X7_rebuild (ci := 6) (b := x10) rfl rfl ml_X8_129 im_X7_rebuild se_X7_rebuild ⟨Nat.le_of_ble_eq_true rfl, Nat.le_of_ble_eq_true rfl⟩ dX8_takeNext_75 (As := [.ref x11, .ref x12, .int (-1)]) (rest := [.ref x3]) rfl rfl (Nat.le_of_ble_eq_true rfl) (fun x hq9 => c_X7_rebuild _ _ _ _ _ _ hq9) (fun q13 _ => ?_)
  refine j_put (pc := 78) FI_X0 (k := 6) (by decide) fl_X8_88 rfl rfl rfl dX8_takeNext_78 (fun h14 _ => ?_)
  refine j_iload (pc := 81) (p := 0) rfl dX8_takeNext_81 ?_
  exact j_iret (pc := 83) rfl dX8_takeNext_83
set_option maxRecDepth 20000 in
set_option maxHeartbeats 1000000 in
theorem c_X8_takeNext {G : q_G} {l : Launch} : ∀ (h : q_H) (a0 : Nat) (a1 : Int32) (a2 : Int32) (q : q_H × Int32), f_X8_takeNext h a0 a1 a2 = some q → (∃ fs, h.1 a0 = .inr (7, fs)) ∧ q_CT G l yX8_takeNext cX8_takeNext 8 (some .int) 3 106 [.ref a0, .int a1, .int a2] h q.1 (q_i q.2) := by
  intro h a0 a1 a2 q e
  obtain ⟨e1, e2⟩ := q_chk_ok e
  exact ⟨e1, q_ofJ Y_X8_takeNext (Nat.le_of_ble_eq_true rfl) (jb_X8_takeNext_0 h a0 a1 a2) q e2⟩
/-! FarFolders$World.deliver(II)I -/
theorem dX8_deliver_0 : decode cX8_deliver 0 = .ok (.iload_n 1, 1) := by decide +kernel
theorem dX8_deliver_1 : decode cX8_deliver 1 = .ok (.iload_n 2, 1) := by decide +kernel
theorem dX8_deliver_2 : decode cX8_deliver 2 = .ok (.invokestatic 102, 3) := by decide +kernel
theorem dX8_deliver_5 : decode cX8_deliver 5 = .ok (.ifCond .ne 5, 3) := by decide +kernel
theorem dX8_deliver_8 : decode cX8_deliver 8 = .ok (.iconst (-1), 1) := by decide +kernel
theorem dX8_deliver_9 : decode cX8_deliver 9 = .ok (.ireturn, 1) := by decide +kernel
theorem dX8_deliver_10 : decode cX8_deliver 10 = .ok (.aload_n 0, 1) := by decide +kernel
theorem dX8_deliver_11 : decode cX8_deliver 11 = .ok (.iload_n 1, 1) := by decide +kernel
theorem dX8_deliver_12 : decode cX8_deliver 12 = .ok (.iload_n 2, 1) := by decide +kernel
theorem dX8_deliver_13 : decode cX8_deliver 13 = .ok (.invokevirtual 34, 3) := by decide +kernel
theorem dX8_deliver_16 : decode cX8_deliver 16 = .ok (.astore_n 3, 1) := by decide +kernel
theorem dX8_deliver_17 : decode cX8_deliver 17 = .ok (.aload_n 3, 1) := by decide +kernel
theorem dX8_deliver_18 : decode cX8_deliver 18 = .ok (.getfield 38, 3) := by decide +kernel
theorem dX8_deliver_21 : decode cX8_deliver 21 = .ok (.ifCond .ne 6, 3) := by decide +kernel
theorem dX8_deliver_24 : decode cX8_deliver 24 = .ok (.bipush (-2), 2) := by decide +kernel
theorem dX8_deliver_26 : decode cX8_deliver 26 = .ok (.ireturn, 1) := by decide +kernel
theorem dX8_deliver_27 : decode cX8_deliver 27 = .ok (.aload_n 3, 1) := by decide +kernel
theorem dX8_deliver_28 : decode cX8_deliver 28 = .ok (.iconst 0, 1) := by decide +kernel
theorem dX8_deliver_29 : decode cX8_deliver 29 = .ok (.invokevirtual 106, 3) := by decide +kernel
theorem dX8_deliver_32 : decode cX8_deliver 32 = .ok (.invokestatic 110, 3) := by decide +kernel
theorem dX8_deliver_35 : decode cX8_deliver 35 = .ok (.ifCond .eq 23, 3) := by decide +kernel
theorem dX8_deliver_38 : decode cX8_deliver 38 = .ok (.aload_n 0, 1) := by decide +kernel
theorem dX8_deliver_39 : decode cX8_deliver 39 = .ok (.getfield 11, 3) := by decide +kernel
theorem dX8_deliver_42 : decode cX8_deliver 42 = .ok (.iload_n 2, 1) := by decide +kernel
theorem dX8_deliver_43 : decode cX8_deliver 43 = .ok (.aaload, 1) := by decide +kernel
theorem dX8_deliver_44 : decode cX8_deliver 44 = .ok (.getfield 65, 3) := by decide +kernel
theorem dX8_deliver_47 : decode cX8_deliver 47 = .ok (.getfield 38, 3) := by decide +kernel
theorem dX8_deliver_50 : decode cX8_deliver 50 = .ok (.bipush 20, 2) := by decide +kernel
theorem dX8_deliver_52 : decode cX8_deliver 52 = .ok (.if_icmp .lt 6, 3) := by decide +kernel
theorem dX8_deliver_55 : decode cX8_deliver 55 = .ok (.bipush (-3), 2) := by decide +kernel
theorem dX8_deliver_57 : decode cX8_deliver 57 = .ok (.ireturn, 1) := by decide +kernel
theorem dX8_deliver_58 : decode cX8_deliver 58 = .ok (.aload_n 0, 1) := by decide +kernel
theorem dX8_deliver_59 : decode cX8_deliver 59 = .ok (.iload_n 1, 1) := by decide +kernel
theorem dX8_deliver_60 : decode cX8_deliver 60 = .ok (.iload_n 2, 1) := by decide +kernel
theorem dX8_deliver_61 : decode cX8_deliver 61 = .ok (.invokevirtual 113, 3) := by decide +kernel
theorem dX8_deliver_64 : decode cX8_deliver 64 = .ok (.ireturn, 1) := by decide +kernel
def b_X8_deliver_58 (h : q_H) (v0 : Nat) (v1 : Int32) (v2 : Int32) : Option (q_H × Int32) :=
  Option.bind (f_X8_takeNext h v0 v1 v2) (fun q1 => some (q1.1, q1.2))
def b_X8_deliver_0 (h : q_H) (v0 : Nat) (v1 : Int32) (v2 : Int32) : Option (q_H × Int32) :=
  Option.bind (f_X9_areTwoCopies h v1 v2) (fun q2 => if q2.2 = 0 then some (q2.1, (-1)) else Option.bind (f_X8_way q2.1 v0 v1 v2) (fun q3 => Option.bind (q_gI 4 1 q3.1 q3.2) (fun x4 => if x4 = 0 then some (q3.1, (-2)) else Option.bind (f_X5_at q3.1 q3.2 (0)) (fun q5 => Option.bind (f_X1_hasMove q5.1 q5.2) (fun q6 => if q6.2 = 0 then b_X8_deliver_58 q6.1 v0 v1 v2 else Option.bind (q_gR 7 0 q6.1 v0) (fun x7 => Option.bind (q_lR 4 q6.1 x7 v2) (fun x8 => Option.bind (q_gR 0 3 q6.1 x8) (fun x9 => Option.bind (q_gI 4 1 q6.1 x9) (fun x10 => if x10 < (20) then b_X8_deliver_58 q6.1 v0 v1 v2 else some (q6.1, (-3)))))))))))
def f_X8_deliver (h : q_H) (a0 : Nat) (a1 : Int32) (a2 : Int32) : Option (q_H × Int32) := q_chk 7 h a0 (b_X8_deliver_0 h a0 a1 a2)
set_option maxRecDepth 20000 in
set_option maxHeartbeats 1000000 in
theorem jb_X8_deliver_58 {G : q_G} {l : Launch} {k0 z0 : Nat} (h : q_H) (v0 : Nat) (v1 : Int32) (v2 : Int32) : q_J G l (RX8, cX8_deliver, 4, 4, 133, (some .int), "deliver", []) k0 z0 (q_Z G k0 z0 q_i) 58 [(0, .ref v0), (1, .int v1), (2, .int v2)] [] h (b_X8_deliver_58 h v0 v1 v2) := by
  unfold b_X8_deliver_58
  refine j_aload_n (pc := 58) (p := 0) rfl rfl dX8_deliver_58 ?_
  refine j_iload_n (pc := 59) (p := 1) rfl rfl dX8_deliver_59 ?_
  refine j_iload_n (pc := 60) (p := 2) rfl rfl dX8_deliver_60 ?_
  refine j_cVi (pc := 61) Y_X8_takeNext (ci := 7) (b := v0) rfl rfl ml_X8_113 im_X8_takeNext se_X8_takeNext ⟨Nat.le_of_ble_eq_true rfl, Nat.le_of_ble_eq_true rfl⟩ dX8_deliver_61 (As := [.int v1, .int v2]) (rest := []) rfl rfl (Nat.le_of_ble_eq_true rfl) (fun x hq9 => c_X8_takeNext _ _ _ _ _ hq9) (fun q1 _ => ?_)
  exact j_iret (pc := 64) rfl dX8_deliver_64
set_option maxRecDepth 20000 in
set_option maxHeartbeats 1000000 in
theorem jb_X8_deliver_0 {G : q_G} {l : Launch} {k0 z0 : Nat} (h : q_H) (v0 : Nat) (v1 : Int32) (v2 : Int32) : q_J G l (RX8, cX8_deliver, 4, 4, 133, (some .int), "deliver", []) k0 z0 (q_Z G k0 z0 q_i) 0 [(0, .ref v0), (1, .int v1), (2, .int v2)] [] h (b_X8_deliver_0 h v0 v1 v2) := by
  unfold b_X8_deliver_0
  refine j_iload_n (pc := 0) (p := 1) rfl rfl dX8_deliver_0 ?_
  refine j_iload_n (pc := 1) (p := 2) rfl rfl dX8_deliver_1 ?_
  refine j_cSNi (pc := 2) Y_X9_areTwoCopies mn_X8_102 sm_X9_areTwoCopies ⟨Nat.le_of_ble_eq_true rfl, Nat.le_of_ble_eq_true rfl⟩ dX8_deliver_2 (As := [.int v1, .int v2]) (rest := []) rfl rfl (Nat.le_of_ble_eq_true rfl) (fun x hq9 => c_X9_areTwoCopies _ _ _ _ hq9) (fun q2 _ => ?_)
  refine j_if_ne (pc := 5) (tgt := 10) dX8_deliver_5 (by decide) (fun _ => ?_) (fun _ => ?_)
  · refine j_iconst (pc := 8) ki_m1 dX8_deliver_8 ?_
    exact j_iret (pc := 9) rfl dX8_deliver_9
  refine j_aload_n (pc := 10) (p := 0) rfl rfl dX8_deliver_10 ?_
  refine j_iload_n (pc := 11) (p := 1) rfl rfl dX8_deliver_11 ?_
  refine j_iload_n (pc := 12) (p := 2) rfl rfl dX8_deliver_12 ?_
  refine j_cVr (pc := 13) Y_X8_way (ci := 7) (b := v0) rfl rfl ml_X8_34 im_X8_way se_X8_way ⟨Nat.le_of_ble_eq_true rfl, Nat.le_of_ble_eq_true rfl⟩ dX8_deliver_13 (As := [.int v1, .int v2]) (rest := []) rfl rfl (Nat.le_of_ble_eq_true rfl) (fun x hq9 => c_X8_way _ _ _ _ _ hq9) (fun q3 _ => ?_)
  refine j_astore_n (pc := 16) (lv' := [(3, .ref q3.2), (0, .ref v0), (1, .int v1), (2, .int v2)]) rfl (by decide) rfl dX8_deliver_16 ?_
  refine j_aload_n (pc := 17) (p := 0) rfl rfl dX8_deliver_17 ?_
  refine j_getI (pc := 18) FI_X5 (k := 1) (by decide) fl_X8_38 dX8_deliver_18 (fun x4 _ => ?_)
  refine j_if_ne (pc := 21) (tgt := 27) dX8_deliver_21 (by decide) (fun _ => ?_) (fun _ => ?_)
  · refine j_bipush (pc := 24) kb_m2 dX8_deliver_24 ?_
    exact j_iret (pc := 26) rfl dX8_deliver_26
  refine j_aload_n (pc := 27) (p := 0) rfl rfl dX8_deliver_27 ?_
  refine j_iconst (pc := 28) ki_0 dX8_deliver_28 ?_
  refine j_cVl (pc := 29) Y_X5_at (ci := 4) (b := q3.2) rfl rfl ml_X8_106 im_X5_at se_X5_at ⟨Nat.le_of_ble_eq_true rfl, Nat.le_of_ble_eq_true rfl⟩ dX8_deliver_29 (As := [.int (0)]) (rest := []) rfl rfl (Nat.le_of_ble_eq_true rfl) (fun x hq9 => c_X5_at _ _ _ _ hq9) (fun q5 _ => ?_)
  refine j_cSi (pc := 32) Y_X1_hasMove ml_X8_110 sm_X1_hasMove ⟨Nat.le_of_ble_eq_true rfl, Nat.le_of_ble_eq_true rfl⟩ dX8_deliver_32 (As := [.long q5.2]) (rest := []) rfl rfl (Nat.le_of_ble_eq_true rfl) (fun x hq9 => c_X1_hasMove _ _ _ hq9) (fun q6 _ => ?_)
  refine j_if_eq (pc := 35) (tgt := 58) dX8_deliver_35 (by decide) (fun _ => ?_) (fun _ => ?_)
  · refine j_sub [1, 2, 3] (lv' := [(0, .ref v0), (1, .int v1), (2, .int v2)]) rfl ?_
    exact jb_X8_deliver_58 _ _ _ _
  refine j_aload_n (pc := 38) (p := 1) rfl rfl dX8_deliver_38 ?_
  refine j_getR (pc := 39) FI_X8 (k := 0) (by decide) fl_X8_11 dX8_deliver_39 (fun x7 _ => ?_)
  refine j_iload_n (pc := 42) (p := 3) rfl rfl dX8_deliver_42 ?_
  refine j_aald (pc := 43) (t := 4) rfl dX8_deliver_43 (fun x8 _ => ?_)
  refine j_getR (pc := 44) FI_X0 (k := 3) (by decide) fl_X8_65 dX8_deliver_44 (fun x9 _ => ?_)
  refine j_getI (pc := 47) FI_X5 (k := 1) (by decide) fl_X8_38 dX8_deliver_47 (fun x10 _ => ?_)
  refine j_bipush (pc := 50) kb_20 dX8_deliver_50 ?_
  refine j_ic_lt (pc := 52) (tgt := 58) dX8_deliver_52 (by decide) (fun _ => ?_) (fun _ => ?_)
  · refine j_sub [1, 2, 3] (lv' := [(0, .ref v0), (1, .int v1), (2, .int v2)]) rfl ?_
    exact jb_X8_deliver_58 _ _ _ _
  refine j_bipush (pc := 55) kb_m3 dX8_deliver_55 ?_
  exact j_iret (pc := 57) rfl dX8_deliver_57
set_option maxRecDepth 20000 in
set_option maxHeartbeats 1000000 in
theorem c_X8_deliver {G : q_G} {l : Launch} : ∀ (h : q_H) (a0 : Nat) (a1 : Int32) (a2 : Int32) (q : q_H × Int32), f_X8_deliver h a0 a1 a2 = some q → (∃ fs, h.1 a0 = .inr (7, fs)) ∧ q_CT G l yX8_deliver cX8_deliver 4 (some .int) 4 133 [.ref a0, .int a1, .int a2] h q.1 (q_i q.2) := by
  intro h a0 a1 a2 q e
  obtain ⟨e1, e2⟩ := q_chk_ok e
  exact ⟨e1, q_ofJ Y_X8_deliver (Nat.le_of_ble_eq_true rfl) (jb_X8_deliver_0 h a0 a1 a2) q e2⟩
