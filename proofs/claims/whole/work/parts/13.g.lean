/-! FarFolders$World.waitingFor(I)I -/
theorem dX8_waitingFor_0 : decode cX8_waitingFor 0 = .ok (.iconst 0, 1) := by decide +kernel
theorem dX8_waitingFor_1 : decode cX8_waitingFor 1 = .ok (.istore_n 2, 1) := by decide +kernel
theorem dX8_waitingFor_2 : decode cX8_waitingFor 2 = .ok (.iconst 0, 1) := by decide +kernel
theorem dX8_waitingFor_3 : decode cX8_waitingFor 3 = .ok (.istore_n 3, 1) := by decide +kernel
theorem dX8_waitingFor_4 : decode cX8_waitingFor 4 = .ok (.iload_n 3, 1) := by decide +kernel
theorem dX8_waitingFor_5 : decode cX8_waitingFor 5 = .ok (.iconst 3, 1) := by decide +kernel
theorem dX8_waitingFor_6 : decode cX8_waitingFor 6 = .ok (.if_icmp .ge 21, 3) := by decide +kernel
theorem dX8_waitingFor_9 : decode cX8_waitingFor 9 = .ok (.iload_n 2, 1) := by decide +kernel
theorem dX8_waitingFor_10 : decode cX8_waitingFor 10 = .ok (.aload_n 0, 1) := by decide +kernel
theorem dX8_waitingFor_11 : decode cX8_waitingFor 11 = .ok (.iload_n 3, 1) := by decide +kernel
theorem dX8_waitingFor_12 : decode cX8_waitingFor 12 = .ok (.iload_n 1, 1) := by decide +kernel
theorem dX8_waitingFor_13 : decode cX8_waitingFor 13 = .ok (.invokevirtual 34, 3) := by decide +kernel
theorem dX8_waitingFor_16 : decode cX8_waitingFor 16 = .ok (.getfield 38, 3) := by decide +kernel
theorem dX8_waitingFor_19 : decode cX8_waitingFor 19 = .ok (.iadd, 1) := by decide +kernel
theorem dX8_waitingFor_20 : decode cX8_waitingFor 20 = .ok (.istore_n 2, 1) := by decide +kernel
theorem dX8_waitingFor_21 : decode cX8_waitingFor 21 = .ok (.iinc 3 1, 3) := by decide +kernel
theorem dX8_waitingFor_24 : decode cX8_waitingFor 24 = .ok (.goto (-20), 3) := by decide +kernel
theorem dX8_waitingFor_27 : decode cX8_waitingFor 27 = .ok (.iload_n 2, 1) := by decide +kernel
theorem dX8_waitingFor_28 : decode cX8_waitingFor 28 = .ok (.ireturn, 1) := by decide +kernel
def b_X8_waitingFor_4 (k4 : q_H → Nat → Int32 → Int32 → Int32 → Option (q_H × Int32)) (h : q_H) (v0 : Nat) (v1 : Int32) (v2 : Int32) (v3 : Int32) : Option (q_H × Int32) :=
  if (3) ≤ v3 then some (h, v2) else Option.bind (f_X8_way h v0 v3 v1) (fun q1 => Option.bind (q_gI 4 1 q1.1 q1.2) (fun x2 => k4 q1.1 v0 v1 (v2 + x2) (v3 + 1)))
def l_X8_waitingFor_4 : Nat → q_H → Nat → Int32 → Int32 → Int32 → Option (q_H × Int32)
  | 0, _, _, _, _, _ => none
  | n + 1, h, v0, v1, v2, v3 => b_X8_waitingFor_4 (l_X8_waitingFor_4 n) h v0 v1 v2 v3
def b_X8_waitingFor_0 (h : q_H) (v0 : Nat) (v1 : Int32) : Option (q_H × Int32) :=
  l_X8_waitingFor_4 q_FU h v0 v1 (0) (0)
def f_X8_waitingFor (h : q_H) (a0 : Nat) (a1 : Int32) : Option (q_H × Int32) := q_chk 7 h a0 (b_X8_waitingFor_0 h a0 a1)
set_option maxRecDepth 20000 in
set_option maxHeartbeats 1000000 in
theorem jb_X8_waitingFor_4 {G : q_G} {l : Launch} {k0 z0 : Nat} (k4 : q_H → Nat → Int32 → Int32 → Int32 → Option (q_H × Int32)) (hk4 : ∀ (h : q_H) (v0 : Nat) (v1 : Int32) (v2 : Int32) (v3 : Int32), q_J G l (RX8, cX8_waitingFor, 4, 1, 22, (some .int), "waitingFor", []) k0 z0 (q_Z G k0 z0 q_i) 4 [(0, .ref v0), (1, .int v1), (2, .int v2), (3, .int v3)] [] h (k4 h v0 v1 v2 v3)) (h : q_H) (v0 : Nat) (v1 : Int32) (v2 : Int32) (v3 : Int32) : q_J G l (RX8, cX8_waitingFor, 4, 1, 22, (some .int), "waitingFor", []) k0 z0 (q_Z G k0 z0 q_i) 4 [(0, .ref v0), (1, .int v1), (2, .int v2), (3, .int v3)] [] h (b_X8_waitingFor_4 k4 h v0 v1 v2 v3) := by
  unfold b_X8_waitingFor_4
  refine j_iload_n (pc := 4) (p := 3) rfl rfl dX8_waitingFor_4 ?_
  refine j_iconst (pc := 5) ki_3 dX8_waitingFor_5 ?_
  refine j_ic_ge (pc := 6) (tgt := 27) dX8_waitingFor_6 (by decide) (fun _ => ?_) (fun _ => ?_)
  · refine j_iload_n (pc := 27) (p := 2) rfl rfl dX8_waitingFor_27 ?_
    exact j_iret (pc := 28) rfl dX8_waitingFor_28
  refine j_iload_n (pc := 9) (p := 2) rfl rfl dX8_waitingFor_9 ?_
  refine j_aload_n (pc := 10) (p := 0) rfl rfl dX8_waitingFor_10 ?_
  refine j_iload_n (pc := 11) (p := 3) rfl rfl dX8_waitingFor_11 ?_
  refine j_iload_n (pc := 12) (p := 1) rfl rfl dX8_waitingFor_12 ?_
  refine j_cVr (pc := 13) Y_X8_way (ci := 7) (b := v0) rfl rfl ml_X8_34 im_X8_way se_X8_way ⟨Nat.le_of_ble_eq_true rfl, Nat.le_of_ble_eq_true rfl⟩ dX8_waitingFor_13 (As := [.int v3, .int v1]) (rest := [.int v2]) rfl rfl (Nat.le_of_ble_eq_true rfl) (fun x hq9 => c_X8_way _ _ _ _ _ hq9) (fun q1 _ => ?_)
  refine j_getI (pc := 16) FI_X5 (k := 1) (by decide) fl_X8_38 dX8_waitingFor_16 (fun x2 _ => ?_)
  refine j_iadd (pc := 19) dX8_waitingFor_19 ?_
  refine j_istore_n (pc := 20) (lv' := [(2, .int (v2 + x2)), (0, .ref v0), (1, .int v1), (3, .int v3)]) rfl (by decide) rfl dX8_waitingFor_20 ?_
  refine j_inc (pc := 21) (p := 3) (lv' := [(3, .int (v3 + 1)), (2, .int (v2 + x2)), (0, .ref v0), (1, .int v1)]) rfl ki_1 (by decide) rfl dX8_waitingFor_21 ?_
  refine j_goto (pc := 24) (tgt := 4) dX8_waitingFor_24 (by decide) ?_
  refine j_sub [2, 3, 1, 0] (lv' := [(0, .ref v0), (1, .int v1), (2, .int (v2 + x2)), (3, .int (v3 + 1))]) rfl ?_
  exact hk4 _ _ _ _ _
set_option maxRecDepth 20000 in
set_option maxHeartbeats 1000000 in
theorem jl_X8_waitingFor_4 {G : q_G} {l : Launch} {k0 z0 : Nat} (n : Nat) : ∀ (h : q_H) (v0 : Nat) (v1 : Int32) (v2 : Int32) (v3 : Int32), q_J G l (RX8, cX8_waitingFor, 4, 1, 22, (some .int), "waitingFor", []) k0 z0 (q_Z G k0 z0 q_i) 4 [(0, .ref v0), (1, .int v1), (2, .int v2), (3, .int v3)] [] h (l_X8_waitingFor_4 n h v0 v1 v2 v3) := by
  induction n with
  | zero => intro h v0 v1 v2 v3; exact j_none
  | succ n ih => intro h v0 v1 v2 v3; exact jb_X8_waitingFor_4 (l_X8_waitingFor_4 n) ih h v0 v1 v2 v3
set_option maxRecDepth 20000 in
set_option maxHeartbeats 1000000 in
theorem jb_X8_waitingFor_0 {G : q_G} {l : Launch} {k0 z0 : Nat} (h : q_H) (v0 : Nat) (v1 : Int32) : q_J G l (RX8, cX8_waitingFor, 4, 1, 22, (some .int), "waitingFor", []) k0 z0 (q_Z G k0 z0 q_i) 0 [(0, .ref v0), (1, .int v1)] [] h (b_X8_waitingFor_0 h v0 v1) := by
  unfold b_X8_waitingFor_0
  refine j_iconst (pc := 0) ki_0 dX8_waitingFor_0 ?_
  refine j_istore_n (pc := 1) (lv' := [(2, .int (0)), (0, .ref v0), (1, .int v1)]) rfl (by decide) rfl dX8_waitingFor_1 ?_
  refine j_iconst (pc := 2) ki_0 dX8_waitingFor_2 ?_
  refine j_istore_n (pc := 3) (lv' := [(3, .int (0)), (2, .int (0)), (0, .ref v0), (1, .int v1)]) rfl (by decide) rfl dX8_waitingFor_3 ?_
  refine j_sub [2, 3, 1, 0] (lv' := [(0, .ref v0), (1, .int v1), (2, .int (0)), (3, .int (0))]) rfl ?_
  exact jl_X8_waitingFor_4 q_FU _ _ _ _ _
set_option maxRecDepth 20000 in
set_option maxHeartbeats 1000000 in
theorem c_X8_waitingFor {G : q_G} {l : Launch} : ∀ (h : q_H) (a0 : Nat) (a1 : Int32) (q : q_H × Int32), f_X8_waitingFor h a0 a1 = some q → (∃ fs, h.1 a0 = .inr (7, fs)) ∧ q_CT G l yX8_waitingFor cX8_waitingFor 4 (some .int) 1 22 [.ref a0, .int a1] h q.1 (q_i q.2) := by
  intro h a0 a1 q e
  obtain ⟨e1, e2⟩ := q_chk_ok e
  exact ⟨e1, q_ofJ Y_X8_waitingFor (Nat.le_of_ble_eq_true rfl) (jb_X8_waitingFor_0 h a0 a1) q e2⟩
/-! FarFolders$World.takeAll(I)V -/
theorem dX8_takeAll_0 : decode cX8_takeAll 0 = .ok (.aload_n 0, 1) := by decide +kernel
theorem dX8_takeAll_1 : decode cX8_takeAll 1 = .ok (.getfield 11, 3) := by decide +kernel
theorem dX8_takeAll_4 : decode cX8_takeAll 4 = .ok (.iload_n 1, 1) := by decide +kernel
theorem dX8_takeAll_5 : decode cX8_takeAll 5 = .ok (.aaload, 1) := by decide +kernel
theorem dX8_takeAll_6 : decode cX8_takeAll 6 = .ok (.astore_n 2, 1) := by decide +kernel
theorem dX8_takeAll_7 : decode cX8_takeAll 7 = .ok (.iconst 0, 1) := by decide +kernel
theorem dX8_takeAll_8 : decode cX8_takeAll 8 = .ok (.istore_n 3, 1) := by decide +kernel
theorem dX8_takeAll_9 : decode cX8_takeAll 9 = .ok (.iload_n 3, 1) := by decide +kernel
theorem dX8_takeAll_10 : decode cX8_takeAll 10 = .ok (.iconst 3, 1) := by decide +kernel
theorem dX8_takeAll_11 : decode cX8_takeAll 11 = .ok (.if_icmp .ge 61, 3) := by decide +kernel
theorem dX8_takeAll_14 : decode cX8_takeAll 14 = .ok (.aload_n 0, 1) := by decide +kernel
theorem dX8_takeAll_15 : decode cX8_takeAll 15 = .ok (.iload_n 3, 1) := by decide +kernel
theorem dX8_takeAll_16 : decode cX8_takeAll 16 = .ok (.iload_n 1, 1) := by decide +kernel
theorem dX8_takeAll_17 : decode cX8_takeAll 17 = .ok (.invokevirtual 34, 3) := by decide +kernel
theorem dX8_takeAll_20 : decode cX8_takeAll 20 = .ok (.astore 4, 2) := by decide +kernel
theorem dX8_takeAll_22 : decode cX8_takeAll 22 = .ok (.aload 4, 2) := by decide +kernel
theorem dX8_takeAll_24 : decode cX8_takeAll 24 = .ok (.getfield 38, 3) := by decide +kernel
theorem dX8_takeAll_27 : decode cX8_takeAll 27 = .ok (.ifCond .le 39, 3) := by decide +kernel
theorem dX8_takeAll_30 : decode cX8_takeAll 30 = .ok (.aload_n 2, 1) := by decide +kernel
theorem dX8_takeAll_31 : decode cX8_takeAll 31 = .ok (.iload_n 3, 1) := by decide +kernel
theorem dX8_takeAll_32 : decode cX8_takeAll 32 = .ok (.aload 4, 2) := by decide +kernel
theorem dX8_takeAll_34 : decode cX8_takeAll 34 = .ok (.aload 4, 2) := by decide +kernel
theorem dX8_takeAll_36 : decode cX8_takeAll 36 = .ok (.getfield 38, 3) := by decide +kernel
theorem dX8_takeAll_39 : decode cX8_takeAll 39 = .ok (.iconst 1, 1) := by decide +kernel
theorem dX8_takeAll_40 : decode cX8_takeAll 40 = .ok (.isub, 1) := by decide +kernel
theorem dX8_takeAll_41 : decode cX8_takeAll 41 = .ok (.invokevirtual 106, 3) := by decide +kernel
theorem dX8_takeAll_44 : decode cX8_takeAll 44 = .ok (.invokevirtual 119, 3) := by decide +kernel
theorem dX8_takeAll_47 : decode cX8_takeAll 47 = .ok (.aload_n 2, 1) := by decide +kernel
theorem dX8_takeAll_48 : decode cX8_takeAll 48 = .ok (.getfield 65, 3) := by decide +kernel
theorem dX8_takeAll_51 : decode cX8_takeAll 51 = .ok (.aload 4, 2) := by decide +kernel
theorem dX8_takeAll_53 : decode cX8_takeAll 53 = .ok (.aload 4, 2) := by decide +kernel
theorem dX8_takeAll_55 : decode cX8_takeAll 55 = .ok (.getfield 38, 3) := by decide +kernel
theorem dX8_takeAll_58 : decode cX8_takeAll 58 = .ok (.invokevirtual 140, 3) := by decide +kernel
theorem dX8_takeAll_61 : decode cX8_takeAll 61 = .ok (.aload 4, 2) := by decide +kernel
theorem dX8_takeAll_63 : decode cX8_takeAll 63 = .ok (.invokevirtual 144, 3) := by decide +kernel
theorem dX8_takeAll_66 : decode cX8_takeAll 66 = .ok (.iinc 3 1, 3) := by decide +kernel
theorem dX8_takeAll_69 : decode cX8_takeAll 69 = .ok (.goto (-60), 3) := by decide +kernel
theorem dX8_takeAll_72 : decode cX8_takeAll 72 = .ok (.aload_n 2, 1) := by decide +kernel
theorem dX8_takeAll_73 : decode cX8_takeAll 73 = .ok (.aload_n 2, 1) := by decide +kernel
theorem dX8_takeAll_74 : decode cX8_takeAll 74 = .ok (.getfield 78, 3) := by decide +kernel
theorem dX8_takeAll_77 : decode cX8_takeAll 77 = .ok (.aload_n 2, 1) := by decide +kernel
theorem dX8_takeAll_78 : decode cX8_takeAll 78 = .ok (.getfield 126, 3) := by decide +kernel
theorem dX8_takeAll_81 : decode cX8_takeAll 81 = .ok (.aload_n 2, 1) := by decide +kernel
theorem dX8_takeAll_82 : decode cX8_takeAll 82 = .ok (.getfield 65, 3) := by decide +kernel
theorem dX8_takeAll_85 : decode cX8_takeAll 85 = .ok (.iconst (-1), 1) := by decide +kernel
theorem dX8_takeAll_86 : decode cX8_takeAll 86 = .ok (.invokevirtual 129, 3) := by decide +kernel
theorem dX8_takeAll_89 : decode cX8_takeAll 89 = .ok (.putfield 88, 3) := by decide +kernel
theorem dX8_takeAll_92 : decode cX8_takeAll 92 = .ok (.return_, 1) := by decide +kernel
def b_X8_takeAll_66 (k9 : q_H → Nat → Int32 → Nat → Int32 → Option (q_H × Unit)) (h : q_H) (v0 : Nat) (v1 : Int32) (v2 : Nat) (v3 : Int32) : Option (q_H × Unit) :=
  k9 h v0 v1 v2 (v3 + 1)
def b_X8_takeAll_9 (k9 : q_H → Nat → Int32 → Nat → Int32 → Option (q_H × Unit)) (h : q_H) (v0 : Nat) (v1 : Int32) (v2 : Nat) (v3 : Int32) : Option (q_H × Unit) :=
  if (3) ≤ v3 then Option.bind (q_gR 0 5 h v2) (fun x1 => Option.bind (q_gR 0 4 h v2) (fun x2 => Option.bind (q_gR 0 3 h v2) (fun x3 => Option.bind (f_X7_rebuild h x1 x2 x3 (-1)) (fun q4 => Option.bind (q_p 0 6 q4.1 v2 (.int q4.2)) (fun h5 => some (h5, ())))))) else Option.bind (f_X8_way h v0 v3 v1) (fun q6 => Option.bind (q_gI 4 1 q6.1 q6.2) (fun x7 => if x7 ≤ 0 then b_X8_takeAll_66 k9 q6.1 v0 v1 v2 v3 else Option.bind (q_gI 4 1 q6.1 q6.2) (fun x8 => Option.bind (f_X5_at q6.1 q6.2 (x8 - (1))) (fun q9 => Option.bind (f_X0_hear q9.1 v2 v3 q9.2) (fun q10 => Option.bind (q_gR 0 3 q10.1 v2) (fun x11 => Option.bind (q_gI 4 1 q10.1 q6.2) (fun x12 => Option.bind (f_X5_insertMovesOf q10.1 x11 q6.2 x12) (fun q13 => Option.bind (f_X5_clear q13.1 q6.2) (fun q14 => b_X8_takeAll_66 k9 q14.1 v0 v1 v2 v3)))))))))
def l_X8_takeAll_9 : Nat → q_H → Nat → Int32 → Nat → Int32 → Option (q_H × Unit)
  | 0, _, _, _, _, _ => none
  | n + 1, h, v0, v1, v2, v3 => b_X8_takeAll_9 (l_X8_takeAll_9 n) h v0 v1 v2 v3
def b_X8_takeAll_0 (h : q_H) (v0 : Nat) (v1 : Int32) : Option (q_H × Unit) :=
  Option.bind (q_gR 7 0 h v0) (fun x15 => Option.bind (q_lR 4 h x15 v1) (fun x16 => l_X8_takeAll_9 q_FU h v0 v1 x16 (0)))
def f_X8_takeAll (h : q_H) (a0 : Nat) (a1 : Int32) : Option (q_H × Unit) := q_chk 7 h a0 (b_X8_takeAll_0 h a0 a1)
set_option maxRecDepth 20000 in
set_option maxHeartbeats 1000000 in
theorem jb_X8_takeAll_66 {G : q_G} {l : Launch} {k0 z0 : Nat} (k9 : q_H → Nat → Int32 → Nat → Int32 → Option (q_H × Unit)) (hk9 : ∀ (h : q_H) (v0 : Nat) (v1 : Int32) (v2 : Nat) (v3 : Int32), q_J G l (RX8, cX8_takeAll, 5, 3, 106, none, "takeAll", []) k0 z0 (q_Z G k0 z0 q_u) 9 [(0, .ref v0), (1, .int v1), (2, .ref v2), (3, .int v3)] [] h (k9 h v0 v1 v2 v3)) (h : q_H) (v0 : Nat) (v1 : Int32) (v2 : Nat) (v3 : Int32) : q_J G l (RX8, cX8_takeAll, 5, 3, 106, none, "takeAll", []) k0 z0 (q_Z G k0 z0 q_u) 66 [(0, .ref v0), (1, .int v1), (2, .ref v2), (3, .int v3)] [] h (b_X8_takeAll_66 k9 h v0 v1 v2 v3) := by
  unfold b_X8_takeAll_66
  refine j_inc (pc := 66) (p := 3) (lv' := [(3, .int (v3 + 1)), (0, .ref v0), (1, .int v1), (2, .ref v2)]) rfl ki_1 (by decide) rfl dX8_takeAll_66 ?_
  refine j_goto (pc := 69) (tgt := 9) dX8_takeAll_69 (by decide) ?_
  refine j_sub [1, 2, 3, 0] (lv' := [(0, .ref v0), (1, .int v1), (2, .ref v2), (3, .int (v3 + 1))]) rfl ?_
  exact hk9 _ _ _ _ _
set_option maxRecDepth 20000 in
set_option maxHeartbeats 1000000 in
theorem jb_X8_takeAll_9 {G : q_G} {l : Launch} {k0 z0 : Nat} (k9 : q_H → Nat → Int32 → Nat → Int32 → Option (q_H × Unit)) (hk9 : ∀ (h : q_H) (v0 : Nat) (v1 : Int32) (v2 : Nat) (v3 : Int32), q_J G l (RX8, cX8_takeAll, 5, 3, 106, none, "takeAll", []) k0 z0 (q_Z G k0 z0 q_u) 9 [(0, .ref v0), (1, .int v1), (2, .ref v2), (3, .int v3)] [] h (k9 h v0 v1 v2 v3)) (h : q_H) (v0 : Nat) (v1 : Int32) (v2 : Nat) (v3 : Int32) : q_J G l (RX8, cX8_takeAll, 5, 3, 106, none, "takeAll", []) k0 z0 (q_Z G k0 z0 q_u) 9 [(0, .ref v0), (1, .int v1), (2, .ref v2), (3, .int v3)] [] h (b_X8_takeAll_9 k9 h v0 v1 v2 v3) := by
  unfold b_X8_takeAll_9
  refine j_iload_n (pc := 9) (p := 3) rfl rfl dX8_takeAll_9 ?_
  refine j_iconst (pc := 10) ki_3 dX8_takeAll_10 ?_
  refine j_ic_ge (pc := 11) (tgt := 72) dX8_takeAll_11 (by decide) (fun _ => ?_) (fun _ => ?_)
  · refine j_aload_n (pc := 72) (p := 2) rfl rfl dX8_takeAll_72 ?_
    refine j_aload_n (pc := 73) (p := 2) rfl rfl dX8_takeAll_73 ?_
    refine j_getR (pc := 74) FI_X0 (k := 5) (by decide) fl_X8_78 dX8_takeAll_74 (fun x1 _ => ?_)
    refine j_aload_n (pc := 77) (p := 2) rfl rfl dX8_takeAll_77 ?_
    refine j_getR (pc := 78) FI_X0 (k := 4) (by decide) fl_X8_126 dX8_takeAll_78 (fun x2 _ => ?_)
    refine j_aload_n (pc := 81) (p := 2) rfl rfl dX8_takeAll_81 ?_
    refine j_getR (pc := 82) FI_X0 (k := 3) (by decide) fl_X8_65 dX8_takeAll_82 (fun x3 _ => ?_)
    refine j_iconst (pc := 85) ki_m1 dX8_takeAll_85 ?_
    refine j_cVi (pc := 86) Y_X7_rebuild (ci := 6) (b := x1) rfl rfl ml_X8_129 im_X7_rebuild se_X7_rebuild ⟨Nat.le_of_ble_eq_true rfl, Nat.le_of_ble_eq_true rfl⟩ dX8_takeAll_86 (As := [.ref x2, .ref x3, .int (-1)]) (rest := [.ref v2]) rfl rfl (Nat.le_of_ble_eq_true rfl) (fun x hq9 => c_X7_rebuild _ _ _ _ _ _ hq9) (fun q4 _ => ?_)
    refine j_put (pc := 89) FI_X0 (k := 6) (by decide) fl_X8_88 rfl rfl rfl dX8_takeAll_89 (fun h5 _ => ?_)
    exact j_vret (pc := 92) rfl dX8_takeAll_92
  refine j_aload_n (pc := 14) (p := 0) rfl rfl dX8_takeAll_14 ?_
  refine j_iload_n (pc := 15) (p := 3) rfl rfl dX8_takeAll_15 ?_
  refine j_iload_n (pc := 16) (p := 1) rfl rfl dX8_takeAll_16 ?_
  refine j_cVr (pc := 17) Y_X8_way (ci := 7) (b := v0) rfl rfl ml_X8_34 im_X8_way se_X8_way ⟨Nat.le_of_ble_eq_true rfl, Nat.le_of_ble_eq_true rfl⟩ dX8_takeAll_17 (As := [.int v3, .int v1]) (rest := []) rfl rfl (Nat.le_of_ble_eq_true rfl) (fun x hq9 => c_X8_way _ _ _ _ _ hq9) (fun q6 _ => ?_)
  refine j_astore (pc := 20) (lv' := [(4, .ref q6.2), (0, .ref v0), (1, .int v1), (2, .ref v2), (3, .int v3)]) (by decide) rfl dX8_takeAll_20 ?_
  refine j_aload (pc := 22) (p := 0) rfl dX8_takeAll_22 ?_
  refine j_getI (pc := 24) FI_X5 (k := 1) (by decide) fl_X8_38 dX8_takeAll_24 (fun x7 _ => ?_)
  refine j_if_le (pc := 27) (tgt := 66) dX8_takeAll_27 (by decide) (fun _ => ?_) (fun _ => ?_)
  · refine j_sub [1, 2, 3, 4] (lv' := [(0, .ref v0), (1, .int v1), (2, .ref v2), (3, .int v3)]) rfl ?_
    exact jb_X8_takeAll_66 k9 hk9 _ _ _ _ _
  refine j_aload_n (pc := 30) (p := 3) rfl rfl dX8_takeAll_30 ?_
  refine j_iload_n (pc := 31) (p := 4) rfl rfl dX8_takeAll_31 ?_
  refine j_aload (pc := 32) (p := 0) rfl dX8_takeAll_32 ?_
  refine j_aload (pc := 34) (p := 0) rfl dX8_takeAll_34 ?_
  refine j_getI (pc := 36) FI_X5 (k := 1) (by decide) fl_X8_38 dX8_takeAll_36 (fun x8 _ => ?_)
  refine j_iconst (pc := 39) ki_1 dX8_takeAll_39 ?_
  refine j_isub (pc := 40) dX8_takeAll_40 ?_
  refine j_cVl (pc := 41) Y_X5_at (ci := 4) (b := q6.2) rfl rfl ml_X8_106 im_X5_at se_X5_at ⟨Nat.le_of_ble_eq_true rfl, Nat.le_of_ble_eq_true rfl⟩ dX8_takeAll_41 (As := [.int (x8 - (1))]) (rest := [.int v3, .ref v2]) rfl rfl (Nat.le_of_ble_eq_true rfl) (fun x hq9 => c_X5_at _ _ _ _ hq9) (fun q9 _ => ?_)
  refine j_cVu (pc := 44) Y_X0_hear (ci := 0) (b := v2) rfl rfl ml_X8_119 im_X0_hear se_X0_hear ⟨Nat.le_of_ble_eq_true rfl, Nat.le_of_ble_eq_true rfl⟩ dX8_takeAll_44 (As := [.int v3, .long q9.2]) (rest := []) rfl rfl (Nat.le_of_ble_eq_true rfl) (fun x hq9 => c_X0_hear _ _ _ _ _ hq9) (fun q10 _ => ?_)
  refine j_aload_n (pc := 47) (p := 3) rfl rfl dX8_takeAll_47 ?_
  refine j_getR (pc := 48) FI_X0 (k := 3) (by decide) fl_X8_65 dX8_takeAll_48 (fun x11 _ => ?_)
  refine j_aload (pc := 51) (p := 0) rfl dX8_takeAll_51 ?_
  refine j_aload (pc := 53) (p := 0) rfl dX8_takeAll_53 ?_
  refine j_getI (pc := 55) FI_X5 (k := 1) (by decide) fl_X8_38 dX8_takeAll_55 (fun x12 _ => ?_)
  refine j_cVu (pc := 58) Y_X5_insertMovesOf (ci := 4) (b := x11) rfl rfl ml_X8_140 im_X5_insertMovesOf se_X5_insertMovesOf ⟨Nat.le_of_ble_eq_true rfl, Nat.le_of_ble_eq_true rfl⟩ dX8_takeAll_58 (As := [.ref q6.2, .int x12]) (rest := []) rfl rfl (Nat.le_of_ble_eq_true rfl) (fun x hq9 => c_X5_insertMovesOf _ _ _ _ _ hq9) (fun q13 _ => ?_)
  refine j_aload (pc := 61) (p := 0) rfl dX8_takeAll_61 ?_
  refine j_cVu (pc := 63) Y_X5_clear (ci := 4) (b := q6.2) rfl rfl ml_X8_144 im_X5_clear se_X5_clear ⟨Nat.le_of_ble_eq_true rfl, Nat.le_of_ble_eq_true rfl⟩ dX8_takeAll_63 (As := []) (rest := []) rfl rfl (Nat.le_of_ble_eq_true rfl) (fun x hq9 => c_X5_clear _ _ _ hq9) (fun q14 _ => ?_)
  refine j_sub [1, 2, 3, 4] (lv' := [(0, .ref v0), (1, .int v1), (2, .ref v2), (3, .int v3)]) rfl ?_
  exact jb_X8_takeAll_66 k9 hk9 _ _ _ _ _
set_option maxRecDepth 20000 in
set_option maxHeartbeats 1000000 in
theorem jl_X8_takeAll_9 {G : q_G} {l : Launch} {k0 z0 : Nat} (n : Nat) : ∀ (h : q_H) (v0 : Nat) (v1 : Int32) (v2 : Nat) (v3 : Int32), q_J G l (RX8, cX8_takeAll, 5, 3, 106, none, "takeAll", []) k0 z0 (q_Z G k0 z0 q_u) 9 [(0, .ref v0), (1, .int v1), (2, .ref v2), (3, .int v3)] [] h (l_X8_takeAll_9 n h v0 v1 v2 v3) := by
  induction n with
  | zero => intro h v0 v1 v2 v3; exact j_none
  | succ n ih => intro h v0 v1 v2 v3; exact jb_X8_takeAll_9 (l_X8_takeAll_9 n) ih h v0 v1 v2 v3
set_option maxRecDepth 20000 in
set_option maxHeartbeats 1000000 in
theorem jb_X8_takeAll_0 {G : q_G} {l : Launch} {k0 z0 : Nat} (h : q_H) (v0 : Nat) (v1 : Int32) : q_J G l (RX8, cX8_takeAll, 5, 3, 106, none, "takeAll", []) k0 z0 (q_Z G k0 z0 q_u) 0 [(0, .ref v0), (1, .int v1)] [] h (b_X8_takeAll_0 h v0 v1) := by
  unfold b_X8_takeAll_0
  refine j_aload_n (pc := 0) (p := 0) rfl rfl dX8_takeAll_0 ?_
  refine j_getR (pc := 1) FI_X8 (k := 0) (by decide) fl_X8_11 dX8_takeAll_1 (fun x15 _ => ?_)
  refine j_iload_n (pc := 4) (p := 1) rfl rfl dX8_takeAll_4 ?_
  refine j_aald (pc := 5) (t := 4) rfl dX8_takeAll_5 (fun x16 _ => ?_)
  refine j_astore_n (pc := 6) (lv' := [(2, .ref x16), (0, .ref v0), (1, .int v1)]) rfl (by decide) rfl dX8_takeAll_6 ?_
  refine j_iconst (pc := 7) ki_0 dX8_takeAll_7 ?_
  refine j_istore_n (pc := 8) (lv' := [(3, .int (0)), (2, .ref x16), (0, .ref v0), (1, .int v1)]) rfl (by decide) rfl dX8_takeAll_8 ?_
  refine j_sub [2, 3, 1, 0] (lv' := [(0, .ref v0), (1, .int v1), (2, .ref x16), (3, .int (0))]) rfl ?_
  exact jl_X8_takeAll_9 q_FU _ _ _ _ _
set_option maxRecDepth 20000 in
set_option maxHeartbeats 1000000 in
theorem c_X8_takeAll {G : q_G} {l : Launch} : ∀ (h : q_H) (a0 : Nat) (a1 : Int32) (q : q_H × Unit), f_X8_takeAll h a0 a1 = some q → (∃ fs, h.1 a0 = .inr (7, fs)) ∧ q_CT G l yX8_takeAll cX8_takeAll 5 none 3 106 [.ref a0, .int a1] h q.1 (q_u q.2) := by
  intro h a0 a1 q e
  obtain ⟨e1, e2⟩ := q_chk_ok e
  exact ⟨e1, q_ofJ Y_X8_takeAll (Nat.le_of_ble_eq_true rfl) (jb_X8_takeAll_0 h a0 a1) q e2⟩
/-! FarFolders$World.gather(I)I -/
theorem dX8_gather_0 : decode cX8_gather 0 = .ok (.iload_n 1, 1) := by decide +kernel
theorem dX8_gather_1 : decode cX8_gather 1 = .ok (.invokestatic 55, 3) := by decide +kernel
theorem dX8_gather_4 : decode cX8_gather 4 = .ok (.ifCond .ne 5, 3) := by decide +kernel
theorem dX8_gather_7 : decode cX8_gather 7 = .ok (.iconst (-1), 1) := by decide +kernel
theorem dX8_gather_8 : decode cX8_gather 8 = .ok (.ireturn, 1) := by decide +kernel
theorem dX8_gather_9 : decode cX8_gather 9 = .ok (.aload_n 0, 1) := by decide +kernel
theorem dX8_gather_10 : decode cX8_gather 10 = .ok (.iload_n 1, 1) := by decide +kernel
theorem dX8_gather_11 : decode cX8_gather 11 = .ok (.invokevirtual 42, 3) := by decide +kernel
theorem dX8_gather_14 : decode cX8_gather 14 = .ok (.istore_n 2, 1) := by decide +kernel
theorem dX8_gather_15 : decode cX8_gather 15 = .ok (.iload_n 2, 1) := by decide +kernel
theorem dX8_gather_16 : decode cX8_gather 16 = .ok (.ifCond .ne 6, 3) := by decide +kernel
theorem dX8_gather_19 : decode cX8_gather 19 = .ok (.bipush (-2), 2) := by decide +kernel
theorem dX8_gather_21 : decode cX8_gather 21 = .ok (.ireturn, 1) := by decide +kernel
theorem dX8_gather_22 : decode cX8_gather 22 = .ok (.aload_n 0, 1) := by decide +kernel
theorem dX8_gather_23 : decode cX8_gather 23 = .ok (.getfield 11, 3) := by decide +kernel
theorem dX8_gather_26 : decode cX8_gather 26 = .ok (.iload_n 1, 1) := by decide +kernel
theorem dX8_gather_27 : decode cX8_gather 27 = .ok (.aaload, 1) := by decide +kernel
theorem dX8_gather_28 : decode cX8_gather 28 = .ok (.getfield 65, 3) := by decide +kernel
theorem dX8_gather_31 : decode cX8_gather 31 = .ok (.getfield 38, 3) := by decide +kernel
theorem dX8_gather_34 : decode cX8_gather 34 = .ok (.istore_n 3, 1) := by decide +kernel
theorem dX8_gather_35 : decode cX8_gather 35 = .ok (.iconst 0, 1) := by decide +kernel
theorem dX8_gather_36 : decode cX8_gather 36 = .ok (.istore 4, 2) := by decide +kernel
theorem dX8_gather_38 : decode cX8_gather 38 = .ok (.iload 4, 2) := by decide +kernel
theorem dX8_gather_40 : decode cX8_gather 40 = .ok (.iconst 3, 1) := by decide +kernel
theorem dX8_gather_41 : decode cX8_gather 41 = .ok (.if_icmp .ge 22, 3) := by decide +kernel
theorem dX8_gather_44 : decode cX8_gather 44 = .ok (.iload_n 3, 1) := by decide +kernel
theorem dX8_gather_45 : decode cX8_gather 45 = .ok (.aload_n 0, 1) := by decide +kernel
theorem dX8_gather_46 : decode cX8_gather 46 = .ok (.iload 4, 2) := by decide +kernel
theorem dX8_gather_48 : decode cX8_gather 48 = .ok (.iload_n 1, 1) := by decide +kernel
theorem dX8_gather_49 : decode cX8_gather 49 = .ok (.invokevirtual 34, 3) := by decide +kernel
theorem dX8_gather_52 : decode cX8_gather 52 = .ok (.invokevirtual 133, 3) := by decide +kernel
theorem dX8_gather_55 : decode cX8_gather 55 = .ok (.iadd, 1) := by decide +kernel
theorem dX8_gather_56 : decode cX8_gather 56 = .ok (.istore_n 3, 1) := by decide +kernel
theorem dX8_gather_57 : decode cX8_gather 57 = .ok (.iinc 4 1, 3) := by decide +kernel
theorem dX8_gather_60 : decode cX8_gather 60 = .ok (.goto (-22), 3) := by decide +kernel
theorem dX8_gather_63 : decode cX8_gather 63 = .ok (.iload_n 3, 1) := by decide +kernel
theorem dX8_gather_64 : decode cX8_gather 64 = .ok (.bipush 20, 2) := by decide +kernel
theorem dX8_gather_66 : decode cX8_gather 66 = .ok (.if_icmp .le 6, 3) := by decide +kernel
theorem dX8_gather_69 : decode cX8_gather 69 = .ok (.bipush (-3), 2) := by decide +kernel
theorem dX8_gather_71 : decode cX8_gather 71 = .ok (.ireturn, 1) := by decide +kernel
theorem dX8_gather_72 : decode cX8_gather 72 = .ok (.aload_n 0, 1) := by decide +kernel
theorem dX8_gather_73 : decode cX8_gather 73 = .ok (.iload_n 1, 1) := by decide +kernel
theorem dX8_gather_74 : decode cX8_gather 74 = .ok (.invokevirtual 137, 3) := by decide +kernel
theorem dX8_gather_77 : decode cX8_gather 77 = .ok (.iload_n 2, 1) := by decide +kernel
theorem dX8_gather_78 : decode cX8_gather 78 = .ok (.ireturn, 1) := by decide +kernel
def b_X8_gather_38 (k38 : q_H → Nat → Int32 → Int32 → Int32 → Int32 → Option (q_H × Int32)) (h : q_H) (v0 : Nat) (v1 : Int32) (v2 : Int32) (v3 : Int32) (v4 : Int32) : Option (q_H × Int32) :=
  if (3) ≤ v4 then if v3 ≤ (20) then Option.bind (f_X8_takeAll h v0 v1) (fun q1 => some (q1.1, v2)) else some (h, (-3)) else Option.bind (f_X8_way h v0 v4 v1) (fun q2 => Option.bind (f_X5_countMoves q2.1 q2.2) (fun q3 => k38 q3.1 v0 v1 v2 (v3 + q3.2) (v4 + 1)))
def l_X8_gather_38 : Nat → q_H → Nat → Int32 → Int32 → Int32 → Int32 → Option (q_H × Int32)
  | 0, _, _, _, _, _, _ => none
  | n + 1, h, v0, v1, v2, v3, v4 => b_X8_gather_38 (l_X8_gather_38 n) h v0 v1 v2 v3 v4
def b_X8_gather_0 (h : q_H) (v0 : Nat) (v1 : Int32) : Option (q_H × Int32) :=
  Option.bind (f_X9_isCopy h v1) (fun q4 => if q4.2 = 0 then some (q4.1, (-1)) else Option.bind (f_X8_waitingFor q4.1 v0 v1) (fun q5 => if q5.2 = 0 then some (q5.1, (-2)) else Option.bind (q_gR 7 0 q5.1 v0) (fun x6 => Option.bind (q_lR 4 q5.1 x6 v1) (fun x7 => Option.bind (q_gR 0 3 q5.1 x7) (fun x8 => Option.bind (q_gI 4 1 q5.1 x8) (fun x9 => l_X8_gather_38 q_FU q5.1 v0 v1 q5.2 x9 (0)))))))
def f_X8_gather (h : q_H) (a0 : Nat) (a1 : Int32) : Option (q_H × Int32) := q_chk 7 h a0 (b_X8_gather_0 h a0 a1)
set_option maxRecDepth 20000 in
set_option maxHeartbeats 1000000 in
theorem jb_X8_gather_38 {G : q_G} {l : Launch} {k0 z0 : Nat} (k38 : q_H → Nat → Int32 → Int32 → Int32 → Int32 → Option (q_H × Int32)) (hk38 : ∀ (h : q_H) (v0 : Nat) (v1 : Int32) (v2 : Int32) (v3 : Int32) (v4 : Int32), q_J G l (RX8, cX8_gather, 5, 4, 130, (some .int), "gather", []) k0 z0 (q_Z G k0 z0 q_i) 38 [(0, .ref v0), (1, .int v1), (2, .int v2), (3, .int v3), (4, .int v4)] [] h (k38 h v0 v1 v2 v3 v4)) (h : q_H) (v0 : Nat) (v1 : Int32) (v2 : Int32) (v3 : Int32) (v4 : Int32) : q_J G l (RX8, cX8_gather, 5, 4, 130, (some .int), "gather", []) k0 z0 (q_Z G k0 z0 q_i) 38 [(0, .ref v0), (1, .int v1), (2, .int v2), (3, .int v3), (4, .int v4)] [] h (b_X8_gather_38 k38 h v0 v1 v2 v3 v4) := by
  unfold b_X8_gather_38
  refine j_iload (pc := 38) (p := 4) rfl dX8_gather_38 ?_
  refine j_iconst (pc := 40) ki_3 dX8_gather_40 ?_
  refine j_ic_ge (pc := 41) (tgt := 63) dX8_gather_41 (by decide) (fun _ => ?_) (fun _ => ?_)
  · refine j_iload_n (pc := 63) (p := 3) rfl rfl dX8_gather_63 ?_
    refine j_bipush (pc := 64) kb_20 dX8_gather_64 ?_
    refine j_ic_le (pc := 66) (tgt := 72) dX8_gather_66 (by decide) (fun _ => ?_) (fun _ => ?_)
    · refine j_aload_n (pc := 72) (p := 0) rfl rfl dX8_gather_72 ?_
      refine j_iload_n (pc := 73) (p := 1) rfl rfl dX8_gather_73 ?_
      refine j_cVu (pc := 74) Y_X8_takeAll (ci := 7) (b := v0) rfl rfl ml_X8_137 im_X8_takeAll se_X8_takeAll ⟨Nat.le_of_ble_eq_true rfl, Nat.le_of_ble_eq_true rfl⟩ dX8_gather_74 (As := [.int v1]) (rest := []) rfl rfl (Nat.le_of_ble_eq_true rfl) (fun x hq9 => c_X8_takeAll _ _ _ _ hq9) (fun q1 _ => ?_)
      refine j_iload_n (pc := 77) (p := 2) rfl rfl dX8_gather_77 ?_
      exact j_iret (pc := 78) rfl dX8_gather_78
    refine j_bipush (pc := 69) kb_m3 dX8_gather_69 ?_
    exact j_iret (pc := 71) rfl dX8_gather_71
  refine j_iload_n (pc := 44) (p := 3) rfl rfl dX8_gather_44 ?_
  refine j_aload_n (pc := 45) (p := 0) rfl rfl dX8_gather_45 ?_
  refine j_iload (pc := 46) (p := 4) rfl dX8_gather_46 ?_
  refine j_iload_n (pc := 48) (p := 1) rfl rfl dX8_gather_48 ?_
  refine j_cVr (pc := 49) Y_X8_way (ci := 7) (b := v0) rfl rfl ml_X8_34 im_X8_way se_X8_way ⟨Nat.le_of_ble_eq_true rfl, Nat.le_of_ble_eq_true rfl⟩ dX8_gather_49 (As := [.int v4, .int v1]) (rest := [.int v3]) rfl rfl (Nat.le_of_ble_eq_true rfl) (fun x hq9 => c_X8_way _ _ _ _ _ hq9) (fun q2 _ => ?_)
  refine j_cVi (pc := 52) Y_X5_countMoves (ci := 4) (b := q2.2) rfl rfl ml_X8_133 im_X5_countMoves se_X5_countMoves ⟨Nat.le_of_ble_eq_true rfl, Nat.le_of_ble_eq_true rfl⟩ dX8_gather_52 (As := []) (rest := [.int v3]) rfl rfl (Nat.le_of_ble_eq_true rfl) (fun x hq9 => c_X5_countMoves _ _ _ hq9) (fun q3 _ => ?_)
  refine j_iadd (pc := 55) dX8_gather_55 ?_
  refine j_istore_n (pc := 56) (lv' := [(3, .int (v3 + q3.2)), (0, .ref v0), (1, .int v1), (2, .int v2), (4, .int v4)]) rfl (by decide) rfl dX8_gather_56 ?_
  refine j_inc (pc := 57) (p := 4) (lv' := [(4, .int (v4 + 1)), (3, .int (v3 + q3.2)), (0, .ref v0), (1, .int v1), (2, .int v2)]) rfl ki_1 (by decide) rfl dX8_gather_57 ?_
  refine j_goto (pc := 60) (tgt := 38) dX8_gather_60 (by decide) ?_
  refine j_sub [2, 3, 4, 1, 0] (lv' := [(0, .ref v0), (1, .int v1), (2, .int v2), (3, .int (v3 + q3.2)), (4, .int (v4 + 1))]) rfl ?_
  exact hk38 _ _ _ _ _ _
set_option maxRecDepth 20000 in
set_option maxHeartbeats 1000000 in
theorem jl_X8_gather_38 {G : q_G} {l : Launch} {k0 z0 : Nat} (n : Nat) : ∀ (h : q_H) (v0 : Nat) (v1 : Int32) (v2 : Int32) (v3 : Int32) (v4 : Int32), q_J G l (RX8, cX8_gather, 5, 4, 130, (some .int), "gather", []) k0 z0 (q_Z G k0 z0 q_i) 38 [(0, .ref v0), (1, .int v1), (2, .int v2), (3, .int v3), (4, .int v4)] [] h (l_X8_gather_38 n h v0 v1 v2 v3 v4) := by
  induction n with
  | zero => intro h v0 v1 v2 v3 v4; exact j_none
  | succ n ih => intro h v0 v1 v2 v3 v4; exact jb_X8_gather_38 (l_X8_gather_38 n) ih h v0 v1 v2 v3 v4
set_option maxRecDepth 20000 in
set_option maxHeartbeats 1000000 in
theorem jb_X8_gather_0 {G : q_G} {l : Launch} {k0 z0 : Nat} (h : q_H) (v0 : Nat) (v1 : Int32) : q_J G l (RX8, cX8_gather, 5, 4, 130, (some .int), "gather", []) k0 z0 (q_Z G k0 z0 q_i) 0 [(0, .ref v0), (1, .int v1)] [] h (b_X8_gather_0 h v0 v1) := by
  unfold b_X8_gather_0
  refine j_iload_n (pc := 0) (p := 1) rfl rfl dX8_gather_0 ?_
  refine j_cSNi (pc := 1) Y_X9_isCopy mn_X8_55 sm_X9_isCopy ⟨Nat.le_of_ble_eq_true rfl, Nat.le_of_ble_eq_true rfl⟩ dX8_gather_1 (As := [.int v1]) (rest := []) rfl rfl (Nat.le_of_ble_eq_true rfl) (fun x hq9 => c_X9_isCopy _ _ _ hq9) (fun q4 _ => ?_)
  refine j_if_ne (pc := 4) (tgt := 9) dX8_gather_4 (by decide) (fun _ => ?_) (fun _ => ?_)
  · refine j_iconst (pc := 7) ki_m1 dX8_gather_7 ?_
    exact j_iret (pc := 8) rfl dX8_gather_8
  refine j_aload_n (pc := 9) (p := 0) rfl rfl dX8_gather_9 ?_
  refine j_iload_n (pc := 10) (p := 1) rfl rfl dX8_gather_10 ?_
  refine j_cVi (pc := 11) Y_X8_waitingFor (ci := 7) (b := v0) rfl rfl ml_X8_42 im_X8_waitingFor se_X8_waitingFor ⟨Nat.le_of_ble_eq_true rfl, Nat.le_of_ble_eq_true rfl⟩ dX8_gather_11 (As := [.int v1]) (rest := []) rfl rfl (Nat.le_of_ble_eq_true rfl) (fun x hq9 => c_X8_waitingFor _ _ _ _ hq9) (fun q5 _ => ?_)
  refine j_istore_n (pc := 14) (lv' := [(2, .int q5.2), (0, .ref v0), (1, .int v1)]) rfl (by decide) rfl dX8_gather_14 ?_
  refine j_iload_n (pc := 15) (p := 0) rfl rfl dX8_gather_15 ?_
  refine j_if_ne (pc := 16) (tgt := 22) dX8_gather_16 (by decide) (fun _ => ?_) (fun _ => ?_)
  · refine j_bipush (pc := 19) kb_m2 dX8_gather_19 ?_
    exact j_iret (pc := 21) rfl dX8_gather_21
  refine j_aload_n (pc := 22) (p := 1) rfl rfl dX8_gather_22 ?_
  refine j_getR (pc := 23) FI_X8 (k := 0) (by decide) fl_X8_11 dX8_gather_23 (fun x6 _ => ?_)
  refine j_iload_n (pc := 26) (p := 2) rfl rfl dX8_gather_26 ?_
  refine j_aald (pc := 27) (t := 4) rfl dX8_gather_27 (fun x7 _ => ?_)
  refine j_getR (pc := 28) FI_X0 (k := 3) (by decide) fl_X8_65 dX8_gather_28 (fun x8 _ => ?_)
  refine j_getI (pc := 31) FI_X5 (k := 1) (by decide) fl_X8_38 dX8_gather_31 (fun x9 _ => ?_)
  refine j_istore_n (pc := 34) (lv' := [(3, .int x9), (2, .int q5.2), (0, .ref v0), (1, .int v1)]) rfl (by decide) rfl dX8_gather_34 ?_
  refine j_iconst (pc := 35) ki_0 dX8_gather_35 ?_
  refine j_istore (pc := 36) (lv' := [(4, .int (0)), (3, .int x9), (2, .int q5.2), (0, .ref v0), (1, .int v1)]) (by decide) rfl dX8_gather_36 ?_
  refine j_sub [3, 4, 2, 1, 0] (lv' := [(0, .ref v0), (1, .int v1), (2, .int q5.2), (3, .int x9), (4, .int (0))]) rfl ?_
  exact jl_X8_gather_38 q_FU _ _ _ _ _ _
set_option maxRecDepth 20000 in
set_option maxHeartbeats 1000000 in
theorem c_X8_gather {G : q_G} {l : Launch} : ∀ (h : q_H) (a0 : Nat) (a1 : Int32) (q : q_H × Int32), f_X8_gather h a0 a1 = some q → (∃ fs, h.1 a0 = .inr (7, fs)) ∧ q_CT G l yX8_gather cX8_gather 5 (some .int) 4 130 [.ref a0, .int a1] h q.1 (q_i q.2) := by
  intro h a0 a1 q e
  obtain ⟨e1, e2⟩ := q_chk_ok e
  exact ⟨e1, q_ofJ Y_X8_gather (Nat.le_of_ble_eq_true rfl) (jb_X8_gather_0 h a0 a1) q e2⟩
/-! FarFolders$World.<init>()V -/
theorem dX8_init_0 : decode cX8_init 0 = .ok (.aload_n 0, 1) := by decide +kernel
theorem dX8_init_1 : decode cX8_init 1 = .ok (.invokespecial 3, 3) := by decide +kernel
theorem dX8_init_4 : decode cX8_init 4 = .ok (.aload_n 0, 1) := by decide +kernel
theorem dX8_init_5 : decode cX8_init 5 = .ok (.iconst 3, 1) := by decide +kernel
theorem dX8_init_6 : decode cX8_init 6 = .ok (.anewarray 9, 3) := by decide +kernel
theorem dX8_init_9 : decode cX8_init 9 = .ok (.putfield 11, 3) := by decide +kernel
theorem dX8_init_12 : decode cX8_init 12 = .ok (.aload_n 0, 1) := by decide +kernel
theorem dX8_init_13 : decode cX8_init 13 = .ok (.bipush 9, 2) := by decide +kernel
theorem dX8_init_15 : decode cX8_init 15 = .ok (.anewarray 17, 3) := by decide +kernel
theorem dX8_init_18 : decode cX8_init 18 = .ok (.putfield 19, 3) := by decide +kernel
theorem dX8_init_21 : decode cX8_init 21 = .ok (.iconst 0, 1) := by decide +kernel
theorem dX8_init_22 : decode cX8_init 22 = .ok (.istore_n 1, 1) := by decide +kernel
theorem dX8_init_23 : decode cX8_init 23 = .ok (.iload_n 1, 1) := by decide +kernel
theorem dX8_init_24 : decode cX8_init 24 = .ok (.iconst 3, 1) := by decide +kernel
theorem dX8_init_25 : decode cX8_init 25 = .ok (.if_icmp .ge 23, 3) := by decide +kernel
theorem dX8_init_28 : decode cX8_init 28 = .ok (.aload_n 0, 1) := by decide +kernel
theorem dX8_init_29 : decode cX8_init 29 = .ok (.getfield 11, 3) := by decide +kernel
theorem dX8_init_32 : decode cX8_init 32 = .ok (.iload_n 1, 1) := by decide +kernel
theorem dX8_init_33 : decode cX8_init 33 = .ok (.new 9, 3) := by decide +kernel
theorem dX8_init_36 : decode cX8_init 36 = .ok (.dup, 1) := by decide +kernel
theorem dX8_init_37 : decode cX8_init 37 = .ok (.iload_n 1, 1) := by decide +kernel
theorem dX8_init_38 : decode cX8_init 38 = .ok (.invokespecial 23, 3) := by decide +kernel
theorem dX8_init_41 : decode cX8_init 41 = .ok (.aastore, 1) := by decide +kernel
theorem dX8_init_42 : decode cX8_init 42 = .ok (.iinc 1 1, 3) := by decide +kernel
theorem dX8_init_45 : decode cX8_init 45 = .ok (.goto (-22), 3) := by decide +kernel
theorem dX8_init_48 : decode cX8_init 48 = .ok (.iconst 0, 1) := by decide +kernel
theorem dX8_init_49 : decode cX8_init 49 = .ok (.istore_n 1, 1) := by decide +kernel
theorem dX8_init_50 : decode cX8_init 50 = .ok (.iload_n 1, 1) := by decide +kernel
theorem dX8_init_51 : decode cX8_init 51 = .ok (.aload_n 0, 1) := by decide +kernel
theorem dX8_init_52 : decode cX8_init 52 = .ok (.getfield 19, 3) := by decide +kernel
theorem dX8_init_55 : decode cX8_init 55 = .ok (.arraylength, 1) := by decide +kernel
theorem dX8_init_56 : decode cX8_init 56 = .ok (.if_icmp .ge 24, 3) := by decide +kernel
theorem dX8_init_59 : decode cX8_init 59 = .ok (.aload_n 0, 1) := by decide +kernel
theorem dX8_init_60 : decode cX8_init 60 = .ok (.getfield 19, 3) := by decide +kernel
theorem dX8_init_63 : decode cX8_init 63 = .ok (.iload_n 1, 1) := by decide +kernel
theorem dX8_init_64 : decode cX8_init 64 = .ok (.new 17, 3) := by decide +kernel
theorem dX8_init_67 : decode cX8_init 67 = .ok (.dup, 1) := by decide +kernel
theorem dX8_init_68 : decode cX8_init 68 = .ok (.bipush 6, 2) := by decide +kernel
theorem dX8_init_70 : decode cX8_init 70 = .ok (.invokespecial 26, 3) := by decide +kernel
theorem dX8_init_73 : decode cX8_init 73 = .ok (.aastore, 1) := by decide +kernel
theorem dX8_init_74 : decode cX8_init 74 = .ok (.iinc 1 1, 3) := by decide +kernel
theorem dX8_init_77 : decode cX8_init 77 = .ok (.goto (-27), 3) := by decide +kernel
theorem dX8_init_80 : decode cX8_init 80 = .ok (.return_, 1) := by decide +kernel
def b_X8_init_50 (k50 : q_H → Nat → Int32 → Option (q_H × Unit)) (h : q_H) (v0 : Nat) (v1 : Int32) : Option (q_H × Unit) :=
  Option.bind (q_gR 7 1 h v0) (fun x1 => Option.bind (q_len h x1) (fun x2 => if x2 ≤ v1 then some (h, ()) else Option.bind (q_gR 7 1 h v0) (fun x3 => Option.bind (q_new 4 [.null, .int 0] h) (fun q4 => Option.bind (f_X5_init q4.1 q4.2 (6)) (fun q5 => Option.bind (q_sR 5 4 q5.1 x3 v1 q4.2) (fun h6 => k50 h6 v0 (v1 + 1)))))))
def l_X8_init_50 : Nat → q_H → Nat → Int32 → Option (q_H × Unit)
  | 0, _, _, _ => none
  | n + 1, h, v0, v1 => b_X8_init_50 (l_X8_init_50 n) h v0 v1
def b_X8_init_23 (k23 : q_H → Nat → Int32 → Option (q_H × Unit)) (h : q_H) (v0 : Nat) (v1 : Int32) : Option (q_H × Unit) :=
  if (3) ≤ v1 then l_X8_init_50 q_FU h v0 (0) else Option.bind (q_gR 7 0 h v0) (fun x7 => Option.bind (q_new 0 [.int 0, .int 0, .null, .null, .null, .null, .int 0] h) (fun q8 => Option.bind (f_X0_init q8.1 q8.2 v1) (fun q9 => Option.bind (q_sR 4 0 q9.1 x7 v1 q8.2) (fun h10 => k23 h10 v0 (v1 + 1)))))
def l_X8_init_23 : Nat → q_H → Nat → Int32 → Option (q_H × Unit)
  | 0, _, _, _ => none
  | n + 1, h, v0, v1 => b_X8_init_23 (l_X8_init_23 n) h v0 v1
def b_X8_init_0 (h : q_H) (v0 : Nat) : Option (q_H × Unit) :=
  Option.bind (q_nR 4 h (3)) (fun q11 => Option.bind (q_p 7 0 q11.1 v0 (.ref q11.2)) (fun h12 => Option.bind (q_nR 5 h12 (9)) (fun q13 => Option.bind (q_p 7 1 q13.1 v0 (.ref q13.2)) (fun h14 => l_X8_init_23 q_FU h14 v0 (0)))))
def f_X8_init (h : q_H) (a0 : Nat) : Option (q_H × Unit) := b_X8_init_0 h a0
set_option maxRecDepth 20000 in
set_option maxHeartbeats 1000000 in
theorem jb_X8_init_50 {G : q_G} {l : Launch} {k0 z0 : Nat} (hx : G.2.2.2.2.2.2.2 = true) (k50 : q_H → Nat → Int32 → Option (q_H × Unit)) (hk50 : ∀ (h : q_H) (v0 : Nat) (v1 : Int32), q_J G l (RX8, cX8_init, 2, 3, 102, none, "<init>", []) k0 z0 (q_Z G k0 z0 q_u) 50 [(0, .ref v0), (1, .int v1)] [] h (k50 h v0 v1)) (h : q_H) (v0 : Nat) (v1 : Int32) : q_J G l (RX8, cX8_init, 2, 3, 102, none, "<init>", []) k0 z0 (q_Z G k0 z0 q_u) 50 [(0, .ref v0), (1, .int v1)] [] h (b_X8_init_50 k50 h v0 v1) := by
  unfold b_X8_init_50
  refine j_iload_n (pc := 50) (p := 1) rfl rfl dX8_init_50 ?_
  refine j_aload_n (pc := 51) (p := 0) rfl rfl dX8_init_51 ?_
  refine j_getR (pc := 52) FI_X8 (k := 1) (by decide) fl_X8_19 dX8_init_52 (fun x1 _ => ?_)
  refine j_alen (pc := 55) dX8_init_55 (fun x2 _ => ?_)
  refine j_ic_ge (pc := 56) (tgt := 80) dX8_init_56 (by decide) (fun _ => ?_) (fun _ => ?_)
  · exact j_vret (pc := 80) rfl dX8_init_80
  refine j_aload_n (pc := 59) (p := 0) rfl rfl dX8_init_59 ?_
  refine j_getR (pc := 60) FI_X8 (k := 1) (by decide) fl_X8_19 dX8_init_60 (fun x3 _ => ?_)
  refine j_iload_n (pc := 63) (p := 1) rfl rfl dX8_init_63 ?_
  refine j_new (pc := 64) hx FI_X5 cl_X8_17 ins_X5 ini_X5 rfl (nf_X5 G) dX8_init_64 (fun q4 _ => ?_)
  refine j_dup (pc := 67) rfl dX8_init_67 ?_
  refine j_bipush (pc := 68) kb_6 dX8_init_68 ?_
  refine j_cIu (pc := 70) Y_X5_init (b := q4.2) rfl ml_X8_26 im_X5_init ⟨Nat.le_of_ble_eq_true rfl, Nat.le_of_ble_eq_true rfl⟩ dX8_init_70 (As := [.int (6)]) (rest := [.ref q4.2, .int v1, .ref x3]) rfl rfl (Nat.le_of_ble_eq_true rfl) (fun x hq9 => (c_X5_init hx) _ _ _ _ hq9) (fun q5 _ => ?_)
  refine j_aast (pc := 73) (t := 5) (ci := 4) rfl rfl dX8_init_73 (fun h6 _ => ?_)
  refine j_inc (pc := 74) (p := 1) (lv' := [(1, .int (v1 + 1)), (0, .ref v0)]) rfl ki_1 (by decide) rfl dX8_init_74 ?_
  refine j_goto (pc := 77) (tgt := 50) dX8_init_77 (by decide) ?_
  refine j_sub [1, 0] (lv' := [(0, .ref v0), (1, .int (v1 + 1))]) rfl ?_
  exact hk50 _ _ _
set_option maxRecDepth 20000 in
set_option maxHeartbeats 1000000 in
theorem jl_X8_init_50 {G : q_G} {l : Launch} {k0 z0 : Nat} (hx : G.2.2.2.2.2.2.2 = true) (n : Nat) : ∀ (h : q_H) (v0 : Nat) (v1 : Int32), q_J G l (RX8, cX8_init, 2, 3, 102, none, "<init>", []) k0 z0 (q_Z G k0 z0 q_u) 50 [(0, .ref v0), (1, .int v1)] [] h (l_X8_init_50 n h v0 v1) := by
  induction n with
  | zero => intro h v0 v1; exact j_none
  | succ n ih => intro h v0 v1; exact jb_X8_init_50 hx (l_X8_init_50 n) ih h v0 v1
set_option maxRecDepth 20000 in
set_option maxHeartbeats 1000000 in
theorem jb_X8_init_23 {G : q_G} {l : Launch} {k0 z0 : Nat} (hx : G.2.2.2.2.2.2.2 = true) (k23 : q_H → Nat → Int32 → Option (q_H × Unit)) (hk23 : ∀ (h : q_H) (v0 : Nat) (v1 : Int32), q_J G l (RX8, cX8_init, 2, 3, 102, none, "<init>", []) k0 z0 (q_Z G k0 z0 q_u) 23 [(0, .ref v0), (1, .int v1)] [] h (k23 h v0 v1)) (h : q_H) (v0 : Nat) (v1 : Int32) : q_J G l (RX8, cX8_init, 2, 3, 102, none, "<init>", []) k0 z0 (q_Z G k0 z0 q_u) 23 [(0, .ref v0), (1, .int v1)] [] h (b_X8_init_23 k23 h v0 v1) := by
  unfold b_X8_init_23
  refine j_iload_n (pc := 23) (p := 1) rfl rfl dX8_init_23 ?_
  refine j_iconst (pc := 24) ki_3 dX8_init_24 ?_
  refine j_ic_ge (pc := 25) (tgt := 48) dX8_init_25 (by decide) (fun _ => ?_) (fun _ => ?_)
  · refine j_iconst (pc := 48) ki_0 dX8_init_48 ?_
    refine j_istore_n (pc := 49) (lv' := [(1, .int (0)), (0, .ref v0)]) rfl (by decide) rfl dX8_init_49 ?_
    refine j_sub [1, 0] (lv' := [(0, .ref v0), (1, .int (0))]) rfl ?_
    exact jl_X8_init_50 hx q_FU _ _ _
  refine j_aload_n (pc := 28) (p := 0) rfl rfl dX8_init_28 ?_
  refine j_getR (pc := 29) FI_X8 (k := 0) (by decide) fl_X8_11 dX8_init_29 (fun x7 _ => ?_)
  refine j_iload_n (pc := 32) (p := 1) rfl rfl dX8_init_32 ?_
  refine j_new (pc := 33) hx FI_X0 cl_X8_9 ins_X0 ini_X0 rfl (nf_X0 G) dX8_init_33 (fun q8 _ => ?_)
  refine j_dup (pc := 36) rfl dX8_init_36 ?_
  refine j_iload_n (pc := 37) (p := 1) rfl rfl dX8_init_37 ?_
  refine j_cIu (pc := 38) Y_X0_init (b := q8.2) rfl ml_X8_23 im_X0_init ⟨Nat.le_of_ble_eq_true rfl, Nat.le_of_ble_eq_true rfl⟩ dX8_init_38 (As := [.int v1]) (rest := [.ref q8.2, .int v1, .ref x7]) rfl rfl (Nat.le_of_ble_eq_true rfl) (fun x hq9 => (c_X0_init hx) _ _ _ _ hq9) (fun q9 _ => ?_)
  refine j_aast (pc := 41) (t := 4) (ci := 0) rfl rfl dX8_init_41 (fun h10 _ => ?_)
  refine j_inc (pc := 42) (p := 1) (lv' := [(1, .int (v1 + 1)), (0, .ref v0)]) rfl ki_1 (by decide) rfl dX8_init_42 ?_
  refine j_goto (pc := 45) (tgt := 23) dX8_init_45 (by decide) ?_
  refine j_sub [1, 0] (lv' := [(0, .ref v0), (1, .int (v1 + 1))]) rfl ?_
  exact hk23 _ _ _
set_option maxRecDepth 20000 in
set_option maxHeartbeats 1000000 in
theorem jl_X8_init_23 {G : q_G} {l : Launch} {k0 z0 : Nat} (hx : G.2.2.2.2.2.2.2 = true) (n : Nat) : ∀ (h : q_H) (v0 : Nat) (v1 : Int32), q_J G l (RX8, cX8_init, 2, 3, 102, none, "<init>", []) k0 z0 (q_Z G k0 z0 q_u) 23 [(0, .ref v0), (1, .int v1)] [] h (l_X8_init_23 n h v0 v1) := by
  induction n with
  | zero => intro h v0 v1; exact j_none
  | succ n ih => intro h v0 v1; exact jb_X8_init_23 hx (l_X8_init_23 n) ih h v0 v1
set_option maxRecDepth 20000 in
set_option maxHeartbeats 1000000 in
theorem jb_X8_init_0 {G : q_G} {l : Launch} {k0 z0 : Nat} (hx : G.2.2.2.2.2.2.2 = true) (h : q_H) (v0 : Nat) : q_J G l (RX8, cX8_init, 2, 3, 102, none, "<init>", []) k0 z0 (q_Z G k0 z0 q_u) 0 [(0, .ref v0)] [] h (b_X8_init_0 h v0) := by
  unfold b_X8_init_0
  refine j_aload_n (pc := 0) (p := 0) rfl rfl dX8_init_0 ?_
  refine j_oinit (pc := 1) ml_X8_3 im_Oinit co_Oinit ⟨Nat.le_of_ble_eq_true rfl, Nat.le_of_ble_eq_true rfl⟩ dX8_init_1 ?_
  refine j_aload_n (pc := 4) (p := 0) rfl rfl dX8_init_4 ?_
  refine j_iconst (pc := 5) ki_3 dX8_init_5 ?_
  refine j_newr (pc := 6) (t := 4) hx rfl cl_X8_9 (fun _ U => U.2.2.1.1) dX8_init_6 (fun q11 _ => ?_)
  refine j_putF (pc := 9) FI_X8 (k := 0) (by decide) fl_X8_11 rfl rfl rfl rfl rfl dX8_init_9 (fun h12 _ => ?_)
  refine j_aload_n (pc := 12) (p := 0) rfl rfl dX8_init_12 ?_
  refine j_bipush (pc := 13) kb_9 dX8_init_13 ?_
  refine j_newr (pc := 15) (t := 5) hx rfl cl_X8_17 (fun _ U => U.2.2.1.2.1) dX8_init_15 (fun q13 _ => ?_)
  refine j_putF (pc := 18) FI_X8 (k := 1) (by decide) fl_X8_19 rfl rfl rfl rfl rfl dX8_init_18 (fun h14 _ => ?_)
  refine j_iconst (pc := 21) ki_0 dX8_init_21 ?_
  refine j_istore_n (pc := 22) (lv' := [(1, .int (0)), (0, .ref v0)]) rfl (by decide) rfl dX8_init_22 ?_
  refine j_sub [1, 0] (lv' := [(0, .ref v0), (1, .int (0))]) rfl ?_
  exact jl_X8_init_23 hx q_FU _ _ _
set_option maxRecDepth 20000 in
set_option maxHeartbeats 1000000 in
theorem c_X8_init {G : q_G} {l : Launch} (hx : G.2.2.2.2.2.2.2 = true) : ∀ (h : q_H) (a0 : Nat) (q : q_H × Unit), f_X8_init h a0 = some q → q_CT G l yX8_init cX8_init 2 none 3 102 [.ref a0] h q.1 (q_u q.2) := by
  intro h a0 q e
  exact q_ofJ Y_X8_init (Nat.le_of_ble_eq_true rfl) (jb_X8_init_0 hx h a0) q e
/-! FarFolders$World.latestTime()I -/
theorem dX8_latestTime_0 : decode cX8_latestTime 0 = .ok (.aload_n 0, 1) := by decide +kernel
theorem dX8_latestTime_1 : decode cX8_latestTime 1 = .ok (.getfield 11, 3) := by decide +kernel
theorem dX8_latestTime_4 : decode cX8_latestTime 4 = .ok (.iconst 0, 1) := by decide +kernel
theorem dX8_latestTime_5 : decode cX8_latestTime 5 = .ok (.aaload, 1) := by decide +kernel
theorem dX8_latestTime_6 : decode cX8_latestTime 6 = .ok (.getfield 46, 3) := by decide +kernel
theorem dX8_latestTime_9 : decode cX8_latestTime 9 = .ok (.aload_n 0, 1) := by decide +kernel
theorem dX8_latestTime_10 : decode cX8_latestTime 10 = .ok (.getfield 11, 3) := by decide +kernel
theorem dX8_latestTime_13 : decode cX8_latestTime 13 = .ok (.iconst 1, 1) := by decide +kernel
theorem dX8_latestTime_14 : decode cX8_latestTime 14 = .ok (.aaload, 1) := by decide +kernel
theorem dX8_latestTime_15 : decode cX8_latestTime 15 = .ok (.getfield 46, 3) := by decide +kernel
theorem dX8_latestTime_18 : decode cX8_latestTime 18 = .ok (.aload_n 0, 1) := by decide +kernel
theorem dX8_latestTime_19 : decode cX8_latestTime 19 = .ok (.getfield 11, 3) := by decide +kernel
theorem dX8_latestTime_22 : decode cX8_latestTime 22 = .ok (.iconst 2, 1) := by decide +kernel
theorem dX8_latestTime_23 : decode cX8_latestTime 23 = .ok (.aaload, 1) := by decide +kernel
theorem dX8_latestTime_24 : decode cX8_latestTime 24 = .ok (.getfield 46, 3) := by decide +kernel
theorem dX8_latestTime_27 : decode cX8_latestTime 27 = .ok (.invokestatic 49, 3) := by decide +kernel
theorem dX8_latestTime_30 : decode cX8_latestTime 30 = .ok (.invokestatic 49, 3) := by decide +kernel
theorem dX8_latestTime_33 : decode cX8_latestTime 33 = .ok (.ireturn, 1) := by decide +kernel
def b_X8_latestTime_0 (h : q_H) (v0 : Nat) : Option (q_H × Int32) :=
  Option.bind (q_gR 7 0 h v0) (fun x1 => Option.bind (q_lR 4 h x1 (0)) (fun x2 => Option.bind (q_gI 0 1 h x2) (fun x3 => Option.bind (q_gR 7 0 h v0) (fun x4 => Option.bind (q_lR 4 h x4 (1)) (fun x5 => Option.bind (q_gI 0 1 h x5) (fun x6 => Option.bind (q_gR 7 0 h v0) (fun x7 => Option.bind (q_lR 4 h x7 (2)) (fun x8 => Option.bind (q_gI 0 1 h x8) (fun x9 => some (h, (q_max x3 (q_max x6 x9))))))))))))
def f_X8_latestTime (h : q_H) (a0 : Nat) : Option (q_H × Int32) := q_chk 7 h a0 (b_X8_latestTime_0 h a0)
set_option maxRecDepth 20000 in
set_option maxHeartbeats 1000000 in
theorem jb_X8_latestTime_0 {G : q_G} {l : Launch} {k0 z0 : Nat} (h : q_H) (v0 : Nat) : q_J G l (RX8, cX8_latestTime, 1, 1, 60, (some .int), "latestTime", []) k0 z0 (q_Z G k0 z0 q_i) 0 [(0, .ref v0)] [] h (b_X8_latestTime_0 h v0) := by
  unfold b_X8_latestTime_0
  refine j_aload_n (pc := 0) (p := 0) rfl rfl dX8_latestTime_0 ?_
  refine j_getR (pc := 1) FI_X8 (k := 0) (by decide) fl_X8_11 dX8_latestTime_1 (fun x1 _ => ?_)
  refine j_iconst (pc := 4) ki_0 dX8_latestTime_4 ?_
  refine j_aald (pc := 5) (t := 4) rfl dX8_latestTime_5 (fun x2 _ => ?_)
  refine j_getI (pc := 6) FI_X0 (k := 1) (by decide) fl_X8_46 dX8_latestTime_6 (fun x3 _ => ?_)
  refine j_aload_n (pc := 9) (p := 0) rfl rfl dX8_latestTime_9 ?_
  refine j_getR (pc := 10) FI_X8 (k := 0) (by decide) fl_X8_11 dX8_latestTime_10 (fun x4 _ => ?_)
  refine j_iconst (pc := 13) ki_1 dX8_latestTime_13 ?_
  refine j_aald (pc := 14) (t := 4) rfl dX8_latestTime_14 (fun x5 _ => ?_)
  refine j_getI (pc := 15) FI_X0 (k := 1) (by decide) fl_X8_46 dX8_latestTime_15 (fun x6 _ => ?_)
  refine j_aload_n (pc := 18) (p := 0) rfl rfl dX8_latestTime_18 ?_
  refine j_getR (pc := 19) FI_X8 (k := 0) (by decide) fl_X8_11 dX8_latestTime_19 (fun x7 _ => ?_)
  refine j_iconst (pc := 22) ki_2 dX8_latestTime_22 ?_
  refine j_aald (pc := 23) (t := 4) rfl dX8_latestTime_23 (fun x8 _ => ?_)
  refine j_getI (pc := 24) FI_X0 (k := 1) (by decide) fl_X8_46 dX8_latestTime_24 (fun x9 _ => ?_)
  refine j_max (pc := 27) ml_X8_49 sm_max ini_Math co_max ⟨Nat.le_of_ble_eq_true rfl, Nat.le_of_ble_eq_true rfl⟩ dX8_latestTime_27 ?_
  refine j_max (pc := 30) ml_X8_49 sm_max ini_Math co_max ⟨Nat.le_of_ble_eq_true rfl, Nat.le_of_ble_eq_true rfl⟩ dX8_latestTime_30 ?_
  exact j_iret (pc := 33) rfl dX8_latestTime_33
set_option maxRecDepth 20000 in
set_option maxHeartbeats 1000000 in
theorem c_X8_latestTime {G : q_G} {l : Launch} : ∀ (h : q_H) (a0 : Nat) (q : q_H × Int32), f_X8_latestTime h a0 = some q → (∃ fs, h.1 a0 = .inr (7, fs)) ∧ q_CT G l yX8_latestTime cX8_latestTime 1 (some .int) 1 60 [.ref a0] h q.1 (q_i q.2) := by
  intro h a0 q e
  obtain ⟨e1, e2⟩ := q_chk_ok e
  exact ⟨e1, q_ofJ Y_X8_latestTime (Nat.le_of_ble_eq_true rfl) (jb_X8_latestTime_0 h a0) q e2⟩
/-! FarFolders.isNode(I)Z -/
theorem dX9_isNode_0 : decode cX9_isNode 0 = .ok (.iload_n 0, 1) := by decide +kernel
theorem dX9_isNode_1 : decode cX9_isNode 1 = .ok (.ifCond .lt 13, 3) := by decide +kernel
theorem dX9_isNode_4 : decode cX9_isNode 4 = .ok (.iload_n 0, 1) := by decide +kernel
theorem dX9_isNode_5 : decode cX9_isNode 5 = .ok (.bipush 14, 2) := by decide +kernel
theorem dX9_isNode_7 : decode cX9_isNode 7 = .ok (.if_icmp .ge 7, 3) := by decide +kernel
theorem dX9_isNode_10 : decode cX9_isNode 10 = .ok (.iconst 1, 1) := by decide +kernel
theorem dX9_isNode_11 : decode cX9_isNode 11 = .ok (.goto 4, 3) := by decide +kernel
theorem dX9_isNode_14 : decode cX9_isNode 14 = .ok (.iconst 0, 1) := by decide +kernel
theorem dX9_isNode_15 : decode cX9_isNode 15 = .ok (.ireturn, 1) := by decide +kernel
def b_X9_isNode_0 (h : q_H) (v0 : Int32) : Option (q_H × Int32) :=
  if v0 < 0 then some (h, (0)) else if (14) ≤ v0 then some (h, (0)) else some (h, (1))
def f_X9_isNode (h : q_H) (a0 : Int32) : Option (q_H × Int32) := b_X9_isNode_0 h a0
set_option maxRecDepth 20000 in
set_option maxHeartbeats 1000000 in
theorem jb_X9_isNode_0 {G : q_G} {l : Launch} {k0 z0 : Nat} (h : q_H) (v0 : Int32) : q_J G l (RX9, cX9_isNode, 1, 0, 0, (some .boolean), "isNode", []) k0 z0 (q_Z G k0 z0 q_i) 0 [(0, .int v0)] [] h (b_X9_isNode_0 h v0) := by
  unfold b_X9_isNode_0
  refine j_iload_n (pc := 0) (p := 0) rfl rfl dX9_isNode_0 ?_
  refine j_if_lt (pc := 1) (tgt := 14) dX9_isNode_1 (by decide) (fun _ => ?_) (fun _ => ?_)
  · refine j_iconst (pc := 14) ki_0 dX9_isNode_14 ?_
    exact j_zret (pc := 15) rfl rfl dX9_isNode_15
  refine j_iload_n (pc := 4) (p := 0) rfl rfl dX9_isNode_4 ?_
  refine j_bipush (pc := 5) kb_14 dX9_isNode_5 ?_
  refine j_ic_ge (pc := 7) (tgt := 14) dX9_isNode_7 (by decide) (fun _ => ?_) (fun _ => ?_)
  · refine j_iconst (pc := 14) ki_0 dX9_isNode_14 ?_
    exact j_zret (pc := 15) rfl rfl dX9_isNode_15
  refine j_iconst (pc := 10) ki_1 dX9_isNode_10 ?_
  refine j_goto (pc := 11) (tgt := 15) dX9_isNode_11 (by decide) ?_
  exact j_zret (pc := 15) rfl rfl dX9_isNode_15
set_option maxRecDepth 20000 in
set_option maxHeartbeats 1000000 in
theorem c_X9_isNode {G : q_G} {l : Launch} : ∀ (h : q_H) (a0 : Int32) (q : q_H × Int32), f_X9_isNode h a0 = some q → q_CT G l yX9_isNode cX9_isNode 1 (some .boolean) 0 0 [.int a0] h q.1 (q_i q.2) := by
  intro h a0 q e
  exact q_ofJ Y_X9_isNode (Nat.le_of_ble_eq_true rfl) (jb_X9_isNode_0 h a0) q e
/-! FarFolders$World.make(IIII)I -/
theorem dX8_make_0 : decode cX8_make 0 = .ok (.iload_n 1, 1) := by decide +kernel
theorem dX8_make_1 : decode cX8_make 1 = .ok (.invokestatic 55, 3) := by decide +kernel
theorem dX8_make_4 : decode cX8_make 4 = .ok (.ifCond .eq 29, 3) := by decide +kernel
theorem dX8_make_7 : decode cX8_make 7 = .ok (.iload_n 2, 1) := by decide +kernel
theorem dX8_make_8 : decode cX8_make 8 = .ok (.invokestatic 59, 3) := by decide +kernel
theorem dX8_make_11 : decode cX8_make 11 = .ok (.ifCond .eq 22, 3) := by decide +kernel
theorem dX8_make_14 : decode cX8_make 14 = .ok (.iload_n 3, 1) := by decide +kernel
theorem dX8_make_15 : decode cX8_make 15 = .ok (.invokestatic 62, 3) := by decide +kernel
theorem dX8_make_18 : decode cX8_make 18 = .ok (.ifCond .eq 15, 3) := by decide +kernel
theorem dX8_make_21 : decode cX8_make 21 = .ok (.iload 4, 2) := by decide +kernel
theorem dX8_make_23 : decode cX8_make 23 = .ok (.ifCond .lt 10, 3) := by decide +kernel
theorem dX8_make_26 : decode cX8_make 26 = .ok (.iload 4, 2) := by decide +kernel
theorem dX8_make_28 : decode cX8_make 28 = .ok (.bipush 10, 2) := by decide +kernel
theorem dX8_make_30 : decode cX8_make 30 = .ok (.if_icmp .lt 5, 3) := by decide +kernel
theorem dX8_make_33 : decode cX8_make 33 = .ok (.iconst (-1), 1) := by decide +kernel
theorem dX8_make_34 : decode cX8_make 34 = .ok (.ireturn, 1) := by decide +kernel
theorem dX8_make_35 : decode cX8_make 35 = .ok (.aload_n 0, 1) := by decide +kernel
theorem dX8_make_36 : decode cX8_make 36 = .ok (.getfield 11, 3) := by decide +kernel
theorem dX8_make_39 : decode cX8_make 39 = .ok (.iload_n 1, 1) := by decide +kernel
theorem dX8_make_40 : decode cX8_make 40 = .ok (.aaload, 1) := by decide +kernel
theorem dX8_make_41 : decode cX8_make 41 = .ok (.astore 5, 2) := by decide +kernel
theorem dX8_make_43 : decode cX8_make 43 = .ok (.aload 5, 2) := by decide +kernel
theorem dX8_make_45 : decode cX8_make 45 = .ok (.getfield 65, 3) := by decide +kernel
theorem dX8_make_48 : decode cX8_make 48 = .ok (.getfield 38, 3) := by decide +kernel
theorem dX8_make_51 : decode cX8_make 51 = .ok (.bipush 20, 2) := by decide +kernel
theorem dX8_make_53 : decode cX8_make 53 = .ok (.if_icmp .lt 6, 3) := by decide +kernel
theorem dX8_make_56 : decode cX8_make 56 = .ok (.bipush (-2), 2) := by decide +kernel
theorem dX8_make_58 : decode cX8_make 58 = .ok (.ireturn, 1) := by decide +kernel
theorem dX8_make_59 : decode cX8_make 59 = .ok (.aload_n 0, 1) := by decide +kernel
theorem dX8_make_60 : decode cX8_make 60 = .ok (.iload_n 1, 1) := by decide +kernel
theorem dX8_make_61 : decode cX8_make 61 = .ok (.invokevirtual 69, 3) := by decide +kernel
theorem dX8_make_64 : decode cX8_make 64 = .ok (.ifCond .eq 6, 3) := by decide +kernel
theorem dX8_make_67 : decode cX8_make 67 = .ok (.bipush (-3), 2) := by decide +kernel
theorem dX8_make_69 : decode cX8_make 69 = .ok (.ireturn, 1) := by decide +kernel
theorem dX8_make_70 : decode cX8_make 70 = .ok (.aload 5, 2) := by decide +kernel
theorem dX8_make_72 : decode cX8_make 72 = .ok (.dup, 1) := by decide +kernel
theorem dX8_make_73 : decode cX8_make 73 = .ok (.getfield 46, 3) := by decide +kernel
theorem dX8_make_76 : decode cX8_make 76 = .ok (.iconst 1, 1) := by decide +kernel
theorem dX8_make_77 : decode cX8_make 77 = .ok (.iadd, 1) := by decide +kernel
theorem dX8_make_78 : decode cX8_make 78 = .ok (.putfield 46, 3) := by decide +kernel
theorem dX8_make_81 : decode cX8_make 81 = .ok (.aload 5, 2) := by decide +kernel
theorem dX8_make_83 : decode cX8_make 83 = .ok (.getfield 46, 3) := by decide +kernel
theorem dX8_make_86 : decode cX8_make 86 = .ok (.iload_n 1, 1) := by decide +kernel
theorem dX8_make_87 : decode cX8_make 87 = .ok (.iload_n 2, 1) := by decide +kernel
theorem dX8_make_88 : decode cX8_make 88 = .ok (.iload_n 3, 1) := by decide +kernel
theorem dX8_make_89 : decode cX8_make 89 = .ok (.iload 4, 2) := by decide +kernel
theorem dX8_make_91 : decode cX8_make 91 = .ok (.invokestatic 72, 3) := by decide +kernel
theorem dX8_make_94 : decode cX8_make 94 = .ok (.lstore 6, 2) := by decide +kernel
theorem dX8_make_96 : decode cX8_make 96 = .ok (.aload 5, 2) := by decide +kernel
theorem dX8_make_98 : decode cX8_make 98 = .ok (.getfield 78, 3) := by decide +kernel
theorem dX8_make_101 : decode cX8_make 101 = .ok (.lload 6, 2) := by decide +kernel
theorem dX8_make_103 : decode cX8_make 103 = .ok (.invokevirtual 82, 3) := by decide +kernel
theorem dX8_make_106 : decode cX8_make 106 = .ok (.ifCond .ne 23, 3) := by decide +kernel
theorem dX8_make_109 : decode cX8_make 109 = .ok (.aload 5, 2) := by decide +kernel
theorem dX8_make_111 : decode cX8_make 111 = .ok (.dup, 1) := by decide +kernel
theorem dX8_make_112 : decode cX8_make 112 = .ok (.getfield 88, 3) := by decide +kernel
theorem dX8_make_115 : decode cX8_make 115 = .ok (.iconst 1, 1) := by decide +kernel
theorem dX8_make_116 : decode cX8_make 116 = .ok (.aload 5, 2) := by decide +kernel
theorem dX8_make_118 : decode cX8_make 118 = .ok (.getfield 65, 3) := by decide +kernel
theorem dX8_make_121 : decode cX8_make 121 = .ok (.getfield 38, 3) := by decide +kernel
theorem dX8_make_124 : decode cX8_make 124 = .ok (.ishl, 1) := by decide +kernel
theorem dX8_make_125 : decode cX8_make 125 = .ok (.ior, 1) := by decide +kernel
theorem dX8_make_126 : decode cX8_make 126 = .ok (.putfield 88, 3) := by decide +kernel
theorem dX8_make_129 : decode cX8_make 129 = .ok (.aload 5, 2) := by decide +kernel
theorem dX8_make_131 : decode cX8_make 131 = .ok (.getfield 65, 3) := by decide +kernel
theorem dX8_make_134 : decode cX8_make 134 = .ok (.lload 6, 2) := by decide +kernel
theorem dX8_make_136 : decode cX8_make 136 = .ok (.invokevirtual 91, 3) := by decide +kernel
theorem dX8_make_139 : decode cX8_make 139 = .ok (.aload_n 0, 1) := by decide +kernel
theorem dX8_make_140 : decode cX8_make 140 = .ok (.iload_n 1, 1) := by decide +kernel
theorem dX8_make_141 : decode cX8_make 141 = .ok (.lload 6, 2) := by decide +kernel
theorem dX8_make_143 : decode cX8_make 143 = .ok (.invokevirtual 95, 3) := by decide +kernel
theorem dX8_make_146 : decode cX8_make 146 = .ok (.aload 5, 2) := by decide +kernel
theorem dX8_make_148 : decode cX8_make 148 = .ok (.getfield 46, 3) := by decide +kernel
theorem dX8_make_151 : decode cX8_make 151 = .ok (.ireturn, 1) := by decide +kernel
def b_X8_make_129 (h : q_H) (v0 : Nat) (v1 : Int32) (v5 : Nat) (v6 : Int64) : Option (q_H × Int32) :=
  Option.bind (q_gR 0 3 h v5) (fun x1 => Option.bind (f_X5_append h x1 v6) (fun q2 => Option.bind (f_X8_send q2.1 v0 v1 v6) (fun q3 => Option.bind (q_gI 0 1 q3.1 v5) (fun x4 => some (q3.1, x4)))))
def b_X8_make_0 (h : q_H) (v0 : Nat) (v1 : Int32) (v2 : Int32) (v3 : Int32) (v4 : Int32) : Option (q_H × Int32) :=
  Option.bind (f_X9_isCopy h v1) (fun q5 => if q5.2 = 0 then some (q5.1, (-1)) else Option.bind (f_X9_isFolder q5.1 v2) (fun q6 => if q6.2 = 0 then some (q6.1, (-1)) else Option.bind (f_X9_isNode q6.1 v3) (fun q7 => if q7.2 = 0 then some (q7.1, (-1)) else if v4 < 0 then some (q7.1, (-1)) else if v4 < (10) then Option.bind (q_gR 7 0 q7.1 v0) (fun x8 => Option.bind (q_lR 4 q7.1 x8 v1) (fun x9 => Option.bind (q_gR 0 3 q7.1 x9) (fun x10 => Option.bind (q_gI 4 1 q7.1 x10) (fun x11 => if x11 < (20) then Option.bind (f_X8_hasFullWay q7.1 v0 v1) (fun q12 => if q12.2 = 0 then Option.bind (q_gI 0 1 q12.1 x9) (fun x13 => Option.bind (q_p 0 1 q12.1 x9 (.int (x13 + (1)))) (fun h14 => Option.bind (q_gI 0 1 h14 x9) (fun x15 => Option.bind (f_X1_of h14 x15 v1 v2 v3 v4) (fun q16 => Option.bind (q_gR 0 5 q16.1 x9) (fun x17 => Option.bind (f_X7_doMove q16.1 x17 q16.2) (fun q18 => if q18.2 = 0 then Option.bind (q_gI 0 6 q18.1 x9) (fun x19 => Option.bind (q_gR 0 3 q18.1 x9) (fun x20 => Option.bind (q_gI 4 1 q18.1 x20) (fun x21 => Option.bind (q_p 0 6 q18.1 x9 (.int (x19 ||| ((1) <<< (x21 &&& 31))))) (fun h22 => b_X8_make_129 h22 v0 v1 x9 q16.2)))) else b_X8_make_129 q18.1 v0 v1 x9 q16.2)))))) else some (q12.1, (-3))) else some (q7.1, (-2)))))) else some (q7.1, (-1)))))
def f_X8_make (h : q_H) (a0 : Nat) (a1 : Int32) (a2 : Int32) (a3 : Int32) (a4 : Int32) : Option (q_H × Int32) := q_chk 7 h a0 (b_X8_make_0 h a0 a1 a2 a3 a4)
set_option maxRecDepth 20000 in
set_option maxHeartbeats 1000000 in
theorem jb_X8_make_129 {G : q_G} {l : Launch} {k0 z0 : Nat} (h : q_H) (v0 : Nat) (v1 : Int32) (v5 : Nat) (v6 : Int64) : q_J G l (RX8, cX8_make, 8, 2, 46, (some .int), "make", []) k0 z0 (q_Z G k0 z0 q_i) 129 [(0, .ref v0), (1, .int v1), (5, .ref v5), (6, .long v6)] [] h (b_X8_make_129 h v0 v1 v5 v6) := by
  unfold b_X8_make_129
  refine j_aload (pc := 129) (p := 2) rfl dX8_make_129 ?_
  refine j_getR (pc := 131) FI_X0 (k := 3) (by decide) fl_X8_65 dX8_make_131 (fun x1 _ => ?_)
  refine j_lload (pc := 134) (p := 3) rfl dX8_make_134 ?_
  refine j_cVu (pc := 136) Y_X5_append (ci := 4) (b := x1) rfl rfl ml_X8_91 im_X5_append se_X5_append ⟨Nat.le_of_ble_eq_true rfl, Nat.le_of_ble_eq_true rfl⟩ dX8_make_136 (As := [.long v6]) (rest := []) rfl rfl (Nat.le_of_ble_eq_true rfl) (fun x hq9 => c_X5_append _ _ _ _ hq9) (fun q2 _ => ?_)
  refine j_aload_n (pc := 139) (p := 0) rfl rfl dX8_make_139 ?_
  refine j_iload_n (pc := 140) (p := 1) rfl rfl dX8_make_140 ?_
  refine j_lload (pc := 141) (p := 3) rfl dX8_make_141 ?_
  refine j_cVu (pc := 143) Y_X8_send (ci := 7) (b := v0) rfl rfl ml_X8_95 im_X8_send se_X8_send ⟨Nat.le_of_ble_eq_true rfl, Nat.le_of_ble_eq_true rfl⟩ dX8_make_143 (As := [.int v1, .long v6]) (rest := []) rfl rfl (Nat.le_of_ble_eq_true rfl) (fun x hq9 => c_X8_send _ _ _ _ _ hq9) (fun q3 _ => ?_)
  refine j_aload (pc := 146) (p := 2) rfl dX8_make_146 ?_
  refine j_getI (pc := 148) FI_X0 (k := 1) (by decide) fl_X8_46 dX8_make_148 (fun x4 _ => ?_)
  exact j_iret (pc := 151) rfl dX8_make_151
set_option maxRecDepth 20000 in
set_option maxHeartbeats 1000000 in
theorem jb_X8_make_0 {G : q_G} {l : Launch} {k0 z0 : Nat} (h : q_H) (v0 : Nat) (v1 : Int32) (v2 : Int32) (v3 : Int32) (v4 : Int32) : q_J G l (RX8, cX8_make, 8, 2, 46, (some .int), "make", []) k0 z0 (q_Z G k0 z0 q_i) 0 [(0, .ref v0), (1, .int v1), (2, .int v2), (3, .int v3), (4, .int v4)] [] h (b_X8_make_0 h v0 v1 v2 v3 v4) := by
  unfold b_X8_make_0
  refine j_iload_n (pc := 0) (p := 1) rfl rfl dX8_make_0 ?_
  refine j_cSNi (pc := 1) Y_X9_isCopy mn_X8_55 sm_X9_isCopy ⟨Nat.le_of_ble_eq_true rfl, Nat.le_of_ble_eq_true rfl⟩ dX8_make_1 (As := [.int v1]) (rest := []) rfl rfl (Nat.le_of_ble_eq_true rfl) (fun x hq9 => c_X9_isCopy _ _ _ hq9) (fun q5 _ => ?_)
  refine j_if_eq (pc := 4) (tgt := 33) dX8_make_4 (by decide) (fun _ => ?_) (fun _ => ?_)
  · refine j_iconst (pc := 33) ki_m1 dX8_make_33 ?_
    exact j_iret (pc := 34) rfl dX8_make_34
  refine j_iload_n (pc := 7) (p := 2) rfl rfl dX8_make_7 ?_
  refine j_cSNi (pc := 8) Y_X9_isFolder mn_X8_59 sm_X9_isFolder ⟨Nat.le_of_ble_eq_true rfl, Nat.le_of_ble_eq_true rfl⟩ dX8_make_8 (As := [.int v2]) (rest := []) rfl rfl (Nat.le_of_ble_eq_true rfl) (fun x hq9 => c_X9_isFolder _ _ _ hq9) (fun q6 _ => ?_)
  refine j_if_eq (pc := 11) (tgt := 33) dX8_make_11 (by decide) (fun _ => ?_) (fun _ => ?_)
  · refine j_iconst (pc := 33) ki_m1 dX8_make_33 ?_
    exact j_iret (pc := 34) rfl dX8_make_34
  refine j_iload_n (pc := 14) (p := 3) rfl rfl dX8_make_14 ?_
  refine j_cSNi (pc := 15) Y_X9_isNode mn_X8_62 sm_X9_isNode ⟨Nat.le_of_ble_eq_true rfl, Nat.le_of_ble_eq_true rfl⟩ dX8_make_15 (As := [.int v3]) (rest := []) rfl rfl (Nat.le_of_ble_eq_true rfl) (fun x hq9 => c_X9_isNode _ _ _ hq9) (fun q7 _ => ?_)
  refine j_if_eq (pc := 18) (tgt := 33) dX8_make_18 (by decide) (fun _ => ?_) (fun _ => ?_)
  · refine j_iconst (pc := 33) ki_m1 dX8_make_33 ?_
    exact j_iret (pc := 34) rfl dX8_make_34
  refine j_iload (pc := 21) (p := 4) rfl dX8_make_21 ?_
  refine j_if_lt (pc := 23) (tgt := 33) dX8_make_23 (by decide) (fun _ => ?_) (fun _ => ?_)
  · refine j_iconst (pc := 33) ki_m1 dX8_make_33 ?_
    exact j_iret (pc := 34) rfl dX8_make_34
  refine j_iload (pc := 26) (p := 4) rfl dX8_make_26 ?_
  refine j_bipush (pc := 28) kb_10 dX8_make_28 ?_
  refine j_ic_lt (pc := 30) (tgt := 35) dX8_make_30 (by decide) (fun _ => ?_) (fun _ => ?_)
  · refine j_aload_n (pc := 35) (p := 0) rfl rfl dX8_make_35 ?_
    refine j_getR (pc := 36) FI_X8 (k := 0) (by decide) fl_X8_11 dX8_make_36 (fun x8 _ => ?_)
    refine j_iload_n (pc := 39) (p := 1) rfl rfl dX8_make_39 ?_
    refine j_aald (pc := 40) (t := 4) rfl dX8_make_40 (fun x9 _ => ?_)
    refine j_astore (pc := 41) (lv' := [(5, .ref x9), (0, .ref v0), (1, .int v1), (2, .int v2), (3, .int v3), (4, .int v4)]) (by decide) rfl dX8_make_41 ?_
    refine j_aload (pc := 43) (p := 0) rfl dX8_make_43 ?_
    refine j_getR (pc := 45) FI_X0 (k := 3) (by decide) fl_X8_65 dX8_make_45 (fun x10 _ => ?_)
    refine j_getI (pc := 48) FI_X5 (k := 1) (by decide) fl_X8_38 dX8_make_48 (fun x11 _ => ?_)
    refine j_bipush (pc := 51) kb_20 dX8_make_51 ?_
    refine j_ic_lt (pc := 53) (tgt := 59) dX8_make_53 (by decide) (fun _ => ?_) (fun _ => ?_)
    · refine j_aload_n (pc := 59) (p := 1) rfl rfl dX8_make_59 ?_
      refine j_iload_n (pc := 60) (p := 2) rfl rfl dX8_make_60 ?_
      refine j_cVi (pc := 61) Y_X8_hasFullWay (ci := 7) (b := v0) rfl rfl ml_X8_69 im_X8_hasFullWay se_X8_hasFullWay ⟨Nat.le_of_ble_eq_true rfl, Nat.le_of_ble_eq_true rfl⟩ dX8_make_61 (As := [.int v1]) (rest := []) rfl rfl (Nat.le_of_ble_eq_true rfl) (fun x hq9 => c_X8_hasFullWay _ _ _ _ hq9) (fun q12 _ => ?_)
      refine j_if_eq (pc := 64) (tgt := 70) dX8_make_64 (by decide) (fun _ => ?_) (fun _ => ?_)
      · refine j_aload (pc := 70) (p := 0) rfl dX8_make_70 ?_
        refine j_dup (pc := 72) rfl dX8_make_72 ?_
        refine j_getI (pc := 73) FI_X0 (k := 1) (by decide) fl_X8_46 dX8_make_73 (fun x13 _ => ?_)
        refine j_iconst (pc := 76) ki_1 dX8_make_76 ?_
        refine j_iadd (pc := 77) dX8_make_77 ?_
        refine j_put (pc := 78) FI_X0 (k := 1) (by decide) fl_X8_46 rfl rfl rfl dX8_make_78 (fun h14 _ => ?_)
        refine j_aload (pc := 81) (p := 0) rfl dX8_make_81 ?_
        refine j_getI (pc := 83) FI_X0 (k := 1) (by decide) fl_X8_46 dX8_make_83 (fun x15 _ => ?_)
        refine j_iload_n (pc := 86) (p := 2) rfl rfl dX8_make_86 ?_
        refine j_iload_n (pc := 87) (p := 3) rfl rfl dX8_make_87 ?_
        refine j_iload_n (pc := 88) (p := 4) rfl rfl dX8_make_88 ?_
        refine j_iload (pc := 89) (p := 5) rfl dX8_make_89 ?_
        refine j_cSl (pc := 91) Y_X1_of ml_X8_72 sm_X1_of ⟨Nat.le_of_ble_eq_true rfl, Nat.le_of_ble_eq_true rfl⟩ dX8_make_91 (As := [.int x15, .int v1, .int v2, .int v3, .int v4]) (rest := []) rfl rfl (Nat.le_of_ble_eq_true rfl) (fun x hq9 => c_X1_of _ _ _ _ _ _ _ hq9) (fun q16 _ => ?_)
        refine j_lstore (pc := 94) (lv' := [(6, .long q16.2), (5, .ref x9), (0, .ref v0), (1, .int v1), (2, .int v2), (3, .int v3), (4, .int v4)]) (by decide) rfl dX8_make_94 ?_
        refine j_aload (pc := 96) (p := 1) rfl dX8_make_96 ?_
        refine j_getR (pc := 98) FI_X0 (k := 5) (by decide) fl_X8_78 dX8_make_98 (fun x17 _ => ?_)
        refine j_lload (pc := 101) (p := 0) rfl dX8_make_101 ?_
        refine j_cVi (pc := 103) Y_X7_doMove (ci := 6) (b := x17) rfl rfl ml_X8_82 im_X7_doMove se_X7_doMove ⟨Nat.le_of_ble_eq_true rfl, Nat.le_of_ble_eq_true rfl⟩ dX8_make_103 (As := [.long q16.2]) (rest := []) rfl rfl (Nat.le_of_ble_eq_true rfl) (fun x hq9 => c_X7_doMove _ _ _ _ hq9) (fun q18 _ => ?_)
        refine j_if_ne (pc := 106) (tgt := 129) dX8_make_106 (by decide) (fun _ => ?_) (fun _ => ?_)
        · refine j_aload (pc := 109) (p := 1) rfl dX8_make_109 ?_
          refine j_dup (pc := 111) rfl dX8_make_111 ?_
          refine j_getI (pc := 112) FI_X0 (k := 6) (by decide) fl_X8_88 dX8_make_112 (fun x19 _ => ?_)
          refine j_iconst (pc := 115) ki_1 dX8_make_115 ?_
          refine j_aload (pc := 116) (p := 1) rfl dX8_make_116 ?_
          refine j_getR (pc := 118) FI_X0 (k := 3) (by decide) fl_X8_65 dX8_make_118 (fun x20 _ => ?_)
          refine j_getI (pc := 121) FI_X5 (k := 1) (by decide) fl_X8_38 dX8_make_121 (fun x21 _ => ?_)
          refine j_ishl (pc := 124) dX8_make_124 ?_
          refine j_ior (pc := 125) dX8_make_125 ?_
          refine j_put (pc := 126) FI_X0 (k := 6) (by decide) fl_X8_88 rfl rfl rfl dX8_make_126 (fun h22 _ => ?_)
          refine j_sub [2, 3, 1, 0] (lv' := [(0, .ref v0), (1, .int v1), (5, .ref x9), (6, .long q16.2)]) rfl ?_
          exact jb_X8_make_129 _ _ _ _ _
        refine j_sub [2, 3, 1, 0] (lv' := [(0, .ref v0), (1, .int v1), (5, .ref x9), (6, .long q16.2)]) rfl ?_
        exact jb_X8_make_129 _ _ _ _ _
      refine j_bipush (pc := 67) kb_m3 dX8_make_67 ?_
      exact j_iret (pc := 69) rfl dX8_make_69
    refine j_bipush (pc := 56) kb_m2 dX8_make_56 ?_
    exact j_iret (pc := 58) rfl dX8_make_58
  refine j_iconst (pc := 33) ki_m1 dX8_make_33 ?_
  exact j_iret (pc := 34) rfl dX8_make_34
set_option maxRecDepth 20000 in
set_option maxHeartbeats 1000000 in
theorem c_X8_make {G : q_G} {l : Launch} : ∀ (h : q_H) (a0 : Nat) (a1 : Int32) (a2 : Int32) (a3 : Int32) (a4 : Int32) (q : q_H × Int32), f_X8_make h a0 a1 a2 a3 a4 = some q → (∃ fs, h.1 a0 = .inr (7, fs)) ∧ q_CT G l yX8_make cX8_make 8 (some .int) 2 46 [.ref a0, .int a1, .int a2, .int a3, .int a4] h q.1 (q_i q.2) := by
  intro h a0 a1 a2 a3 a4 q e
  obtain ⟨e1, e2⟩ := q_chk_ok e
  exact ⟨e1, q_ofJ Y_X8_make (Nat.le_of_ble_eq_true rfl) (jb_X8_make_0 h a0 a1 a2 a3 a4) q e2⟩
/-! FarFolders$World.undoneAtOnce(I)I -/
theorem dX8_undoneAtOnce_0 : decode cX8_undoneAtOnce 0 = .ok (.ldc2_w 147, 3) := by decide +kernel
theorem dX8_undoneAtOnce_3 : decode cX8_undoneAtOnce 3 = .ok (.lstore_n 2, 1) := by decide +kernel
theorem dX8_undoneAtOnce_4 : decode cX8_undoneAtOnce 4 = .ok (.iconst 0, 1) := by decide +kernel
theorem dX8_undoneAtOnce_5 : decode cX8_undoneAtOnce 5 = .ok (.istore 4, 2) := by decide +kernel
theorem dX8_undoneAtOnce_7 : decode cX8_undoneAtOnce 7 = .ok (.iload 4, 2) := by decide +kernel
theorem dX8_undoneAtOnce_9 : decode cX8_undoneAtOnce 9 = .ok (.iconst 3, 1) := by decide +kernel
theorem dX8_undoneAtOnce_10 : decode cX8_undoneAtOnce 10 = .ok (.if_icmp .ge 62, 3) := by decide +kernel
theorem dX8_undoneAtOnce_13 : decode cX8_undoneAtOnce 13 = .ok (.aload_n 0, 1) := by decide +kernel
theorem dX8_undoneAtOnce_14 : decode cX8_undoneAtOnce 14 = .ok (.iload 4, 2) := by decide +kernel
theorem dX8_undoneAtOnce_16 : decode cX8_undoneAtOnce 16 = .ok (.iload_n 1, 1) := by decide +kernel
theorem dX8_undoneAtOnce_17 : decode cX8_undoneAtOnce 17 = .ok (.invokevirtual 34, 3) := by decide +kernel
theorem dX8_undoneAtOnce_20 : decode cX8_undoneAtOnce 20 = .ok (.astore 5, 2) := by decide +kernel
theorem dX8_undoneAtOnce_22 : decode cX8_undoneAtOnce 22 = .ok (.iconst 0, 1) := by decide +kernel
theorem dX8_undoneAtOnce_23 : decode cX8_undoneAtOnce 23 = .ok (.istore 6, 2) := by decide +kernel
theorem dX8_undoneAtOnce_25 : decode cX8_undoneAtOnce 25 = .ok (.iload 6, 2) := by decide +kernel
theorem dX8_undoneAtOnce_27 : decode cX8_undoneAtOnce 27 = .ok (.aload 5, 2) := by decide +kernel
theorem dX8_undoneAtOnce_29 : decode cX8_undoneAtOnce 29 = .ok (.getfield 38, 3) := by decide +kernel
theorem dX8_undoneAtOnce_32 : decode cX8_undoneAtOnce 32 = .ok (.if_icmp .ge 34, 3) := by decide +kernel
theorem dX8_undoneAtOnce_35 : decode cX8_undoneAtOnce 35 = .ok (.aload 5, 2) := by decide +kernel
theorem dX8_undoneAtOnce_37 : decode cX8_undoneAtOnce 37 = .ok (.iload 6, 2) := by decide +kernel
theorem dX8_undoneAtOnce_39 : decode cX8_undoneAtOnce 39 = .ok (.invokevirtual 106, 3) := by decide +kernel
theorem dX8_undoneAtOnce_42 : decode cX8_undoneAtOnce 42 = .ok (.invokestatic 110, 3) := by decide +kernel
theorem dX8_undoneAtOnce_45 : decode cX8_undoneAtOnce 45 = .ok (.ifCond .eq 15, 3) := by decide +kernel
theorem dX8_undoneAtOnce_48 : decode cX8_undoneAtOnce 48 = .ok (.lload_n 2, 1) := by decide +kernel
theorem dX8_undoneAtOnce_49 : decode cX8_undoneAtOnce 49 = .ok (.aload 5, 2) := by decide +kernel
theorem dX8_undoneAtOnce_51 : decode cX8_undoneAtOnce 51 = .ok (.iload 6, 2) := by decide +kernel
theorem dX8_undoneAtOnce_53 : decode cX8_undoneAtOnce 53 = .ok (.invokevirtual 106, 3) := by decide +kernel
theorem dX8_undoneAtOnce_56 : decode cX8_undoneAtOnce 56 = .ok (.invokestatic 149, 3) := by decide +kernel
theorem dX8_undoneAtOnce_59 : decode cX8_undoneAtOnce 59 = .ok (.lstore_n 2, 1) := by decide +kernel
theorem dX8_undoneAtOnce_60 : decode cX8_undoneAtOnce 60 = .ok (.iinc 6 1, 3) := by decide +kernel
theorem dX8_undoneAtOnce_63 : decode cX8_undoneAtOnce 63 = .ok (.goto (-38), 3) := by decide +kernel
theorem dX8_undoneAtOnce_66 : decode cX8_undoneAtOnce 66 = .ok (.iinc 4 1, 3) := by decide +kernel
theorem dX8_undoneAtOnce_69 : decode cX8_undoneAtOnce 69 = .ok (.goto (-62), 3) := by decide +kernel
theorem dX8_undoneAtOnce_72 : decode cX8_undoneAtOnce 72 = .ok (.aload_n 0, 1) := by decide +kernel
theorem dX8_undoneAtOnce_73 : decode cX8_undoneAtOnce 73 = .ok (.getfield 11, 3) := by decide +kernel
theorem dX8_undoneAtOnce_76 : decode cX8_undoneAtOnce 76 = .ok (.iload_n 1, 1) := by decide +kernel
theorem dX8_undoneAtOnce_77 : decode cX8_undoneAtOnce 77 = .ok (.aaload, 1) := by decide +kernel
theorem dX8_undoneAtOnce_78 : decode cX8_undoneAtOnce 78 = .ok (.getfield 65, 3) := by decide +kernel
theorem dX8_undoneAtOnce_81 : decode cX8_undoneAtOnce 81 = .ok (.lload_n 2, 1) := by decide +kernel
theorem dX8_undoneAtOnce_82 : decode cX8_undoneAtOnce 82 = .ok (.aload_n 0, 1) := by decide +kernel
theorem dX8_undoneAtOnce_83 : decode cX8_undoneAtOnce 83 = .ok (.getfield 11, 3) := by decide +kernel
theorem dX8_undoneAtOnce_86 : decode cX8_undoneAtOnce 86 = .ok (.iload_n 1, 1) := by decide +kernel
theorem dX8_undoneAtOnce_87 : decode cX8_undoneAtOnce 87 = .ok (.aaload, 1) := by decide +kernel
theorem dX8_undoneAtOnce_88 : decode cX8_undoneAtOnce 88 = .ok (.getfield 65, 3) := by decide +kernel
theorem dX8_undoneAtOnce_91 : decode cX8_undoneAtOnce 91 = .ok (.getfield 38, 3) := by decide +kernel
theorem dX8_undoneAtOnce_94 : decode cX8_undoneAtOnce 94 = .ok (.invokevirtual 153, 3) := by decide +kernel
theorem dX8_undoneAtOnce_97 : decode cX8_undoneAtOnce 97 = .ok (.ireturn, 1) := by decide +kernel
def b_X8_undoneAtOnce_60 (k7 : q_H → Nat → Int32 → Int64 → Int32 → Option (q_H × Int32)) (k25 : q_H → Nat → Int32 → Int64 → Int32 → Nat → Int32 → Option (q_H × Int32)) (h : q_H) (v0 : Nat) (v1 : Int32) (v2 : Int64) (v4 : Int32) (v5 : Nat) (v6 : Int32) : Option (q_H × Int32) :=
  k25 h v0 v1 v2 v4 v5 (v6 + 1)
def b_X8_undoneAtOnce_25 (k7 : q_H → Nat → Int32 → Int64 → Int32 → Option (q_H × Int32)) (k25 : q_H → Nat → Int32 → Int64 → Int32 → Nat → Int32 → Option (q_H × Int32)) (h : q_H) (v0 : Nat) (v1 : Int32) (v2 : Int64) (v4 : Int32) (v5 : Nat) (v6 : Int32) : Option (q_H × Int32) :=
  Option.bind (q_gI 4 1 h v5) (fun x1 => if x1 ≤ v6 then k7 h v0 v1 v2 (v4 + 1) else Option.bind (f_X5_at h v5 v6) (fun q2 => Option.bind (f_X1_hasMove q2.1 q2.2) (fun q3 => if q3.2 = 0 then b_X8_undoneAtOnce_60 k7 k25 q3.1 v0 v1 v2 v4 v5 v6 else Option.bind (f_X5_at q3.1 v5 v6) (fun q4 => b_X8_undoneAtOnce_60 k7 k25 q4.1 v0 v1 (q_minl v2 q4.2) v4 v5 v6))))
def l_X8_undoneAtOnce_25 (k7 : q_H → Nat → Int32 → Int64 → Int32 → Option (q_H × Int32)) : Nat → q_H → Nat → Int32 → Int64 → Int32 → Nat → Int32 → Option (q_H × Int32)
  | 0, _, _, _, _, _, _, _ => none
  | n + 1, h, v0, v1, v2, v4, v5, v6 => b_X8_undoneAtOnce_25 k7 (l_X8_undoneAtOnce_25 k7 n) h v0 v1 v2 v4 v5 v6
def b_X8_undoneAtOnce_7 (k7 : q_H → Nat → Int32 → Int64 → Int32 → Option (q_H × Int32)) (h : q_H) (v0 : Nat) (v1 : Int32) (v2 : Int64) (v4 : Int32) : Option (q_H × Int32) :=
  if (3) ≤ v4 then Option.bind (q_gR 7 0 h v0) (fun x5 => Option.bind (q_lR 4 h x5 v1) (fun x6 => Option.bind (q_gR 0 3 h x6) (fun x7 => Option.bind (q_gR 7 0 h v0) (fun x8 => Option.bind (q_lR 4 h x8 v1) (fun x9 => Option.bind (q_gR 0 3 h x9) (fun x10 => Option.bind (q_gI 4 1 h x10) (fun x11 => Option.bind (f_X5_countLater h x7 v2 x11) (fun q12 => some (q12.1, q12.2))))))))) else Option.bind (f_X8_way h v0 v4 v1) (fun q13 => l_X8_undoneAtOnce_25 k7 q_FU q13.1 v0 v1 v2 v4 q13.2 (0))
def l_X8_undoneAtOnce_7 : Nat → q_H → Nat → Int32 → Int64 → Int32 → Option (q_H × Int32)
  | 0, _, _, _, _, _ => none
  | n + 1, h, v0, v1, v2, v4 => b_X8_undoneAtOnce_7 (l_X8_undoneAtOnce_7 n) h v0 v1 v2 v4
def b_X8_undoneAtOnce_0 (h : q_H) (v0 : Nat) (v1 : Int32) : Option (q_H × Int32) :=
  l_X8_undoneAtOnce_7 q_FU h v0 v1 (4611686018427387904) (0)
def f_X8_undoneAtOnce (h : q_H) (a0 : Nat) (a1 : Int32) : Option (q_H × Int32) := q_chk 7 h a0 (b_X8_undoneAtOnce_0 h a0 a1)
set_option maxRecDepth 20000 in
set_option maxHeartbeats 1000000 in
theorem jb_X8_undoneAtOnce_60 {G : q_G} {l : Launch} {k0 z0 : Nat} (k7 : q_H → Nat → Int32 → Int64 → Int32 → Option (q_H × Int32)) (k25 : q_H → Nat → Int32 → Int64 → Int32 → Nat → Int32 → Option (q_H × Int32)) (hk7 : ∀ (h : q_H) (v0 : Nat) (v1 : Int32) (v2 : Int64) (v4 : Int32), q_J G l (RX8, cX8_undoneAtOnce, 7, 3, 67, (some .int), "undoneAtOnce", []) k0 z0 (q_Z G k0 z0 q_i) 7 [(0, .ref v0), (1, .int v1), (2, .long v2), (4, .int v4)] [] h (k7 h v0 v1 v2 v4)) (hk25 : ∀ (h : q_H) (v0 : Nat) (v1 : Int32) (v2 : Int64) (v4 : Int32) (v5 : Nat) (v6 : Int32), q_J G l (RX8, cX8_undoneAtOnce, 7, 3, 67, (some .int), "undoneAtOnce", []) k0 z0 (q_Z G k0 z0 q_i) 25 [(0, .ref v0), (1, .int v1), (2, .long v2), (4, .int v4), (5, .ref v5), (6, .int v6)] [] h (k25 h v0 v1 v2 v4 v5 v6)) (h : q_H) (v0 : Nat) (v1 : Int32) (v2 : Int64) (v4 : Int32) (v5 : Nat) (v6 : Int32) : q_J G l (RX8, cX8_undoneAtOnce, 7, 3, 67, (some .int), "undoneAtOnce", []) k0 z0 (q_Z G k0 z0 q_i) 60 [(0, .ref v0), (1, .int v1), (2, .long v2), (4, .int v4), (5, .ref v5), (6, .int v6)] [] h (b_X8_undoneAtOnce_60 k7 k25 h v0 v1 v2 v4 v5 v6) := by
  unfold b_X8_undoneAtOnce_60
  refine j_inc (pc := 60) (p := 5) (lv' := [(6, .int (v6 + 1)), (0, .ref v0), (1, .int v1), (2, .long v2), (4, .int v4), (5, .ref v5)]) rfl ki_1 (by decide) rfl dX8_undoneAtOnce_60 ?_
  refine j_goto (pc := 63) (tgt := 25) dX8_undoneAtOnce_63 (by decide) ?_
  refine j_sub [1, 2, 3, 4, 5, 0] (lv' := [(0, .ref v0), (1, .int v1), (2, .long v2), (4, .int v4), (5, .ref v5), (6, .int (v6 + 1))]) rfl ?_
  exact hk25 _ _ _ _ _ _ _
set_option maxRecDepth 20000 in
set_option maxHeartbeats 1000000 in
theorem jb_X8_undoneAtOnce_25 {G : q_G} {l : Launch} {k0 z0 : Nat} (k7 : q_H → Nat → Int32 → Int64 → Int32 → Option (q_H × Int32)) (k25 : q_H → Nat → Int32 → Int64 → Int32 → Nat → Int32 → Option (q_H × Int32)) (hk7 : ∀ (h : q_H) (v0 : Nat) (v1 : Int32) (v2 : Int64) (v4 : Int32), q_J G l (RX8, cX8_undoneAtOnce, 7, 3, 67, (some .int), "undoneAtOnce", []) k0 z0 (q_Z G k0 z0 q_i) 7 [(0, .ref v0), (1, .int v1), (2, .long v2), (4, .int v4)] [] h (k7 h v0 v1 v2 v4)) (hk25 : ∀ (h : q_H) (v0 : Nat) (v1 : Int32) (v2 : Int64) (v4 : Int32) (v5 : Nat) (v6 : Int32), q_J G l (RX8, cX8_undoneAtOnce, 7, 3, 67, (some .int), "undoneAtOnce", []) k0 z0 (q_Z G k0 z0 q_i) 25 [(0, .ref v0), (1, .int v1), (2, .long v2), (4, .int v4), (5, .ref v5), (6, .int v6)] [] h (k25 h v0 v1 v2 v4 v5 v6)) (h : q_H) (v0 : Nat) (v1 : Int32) (v2 : Int64) (v4 : Int32) (v5 : Nat) (v6 : Int32) : q_J G l (RX8, cX8_undoneAtOnce, 7, 3, 67, (some .int), "undoneAtOnce", []) k0 z0 (q_Z G k0 z0 q_i) 25 [(0, .ref v0), (1, .int v1), (2, .long v2), (4, .int v4), (5, .ref v5), (6, .int v6)] [] h (b_X8_undoneAtOnce_25 k7 k25 h v0 v1 v2 v4 v5 v6) := by
  unfold b_X8_undoneAtOnce_25
  refine j_iload (pc := 25) (p := 5) rfl dX8_undoneAtOnce_25 ?_
  refine j_aload (pc := 27) (p := 4) rfl dX8_undoneAtOnce_27 ?_
  refine j_getI (pc := 29) FI_X5 (k := 1) (by decide) fl_X8_38 dX8_undoneAtOnce_29 (fun x1 _ => ?_)
  refine j_ic_ge (pc := 32) (tgt := 66) dX8_undoneAtOnce_32 (by decide) (fun _ => ?_) (fun _ => ?_)
  · refine j_inc (pc := 66) (p := 3) (lv' := [(4, .int (v4 + 1)), (0, .ref v0), (1, .int v1), (2, .long v2), (5, .ref v5), (6, .int v6)]) rfl ki_1 (by decide) rfl dX8_undoneAtOnce_66 ?_
    refine j_goto (pc := 69) (tgt := 7) dX8_undoneAtOnce_69 (by decide) ?_
    refine j_sub [1, 2, 3, 0] (lv' := [(0, .ref v0), (1, .int v1), (2, .long v2), (4, .int (v4 + 1))]) rfl ?_
    exact hk7 _ _ _ _ _
  refine j_aload (pc := 35) (p := 4) rfl dX8_undoneAtOnce_35 ?_
  refine j_iload (pc := 37) (p := 5) rfl dX8_undoneAtOnce_37 ?_
  refine j_cVl (pc := 39) Y_X5_at (ci := 4) (b := v5) rfl rfl ml_X8_106 im_X5_at se_X5_at ⟨Nat.le_of_ble_eq_true rfl, Nat.le_of_ble_eq_true rfl⟩ dX8_undoneAtOnce_39 (As := [.int v6]) (rest := []) rfl rfl (Nat.le_of_ble_eq_true rfl) (fun x hq9 => c_X5_at _ _ _ _ hq9) (fun q2 _ => ?_)
  refine j_cSi (pc := 42) Y_X1_hasMove ml_X8_110 sm_X1_hasMove ⟨Nat.le_of_ble_eq_true rfl, Nat.le_of_ble_eq_true rfl⟩ dX8_undoneAtOnce_42 (As := [.long q2.2]) (rest := []) rfl rfl (Nat.le_of_ble_eq_true rfl) (fun x hq9 => c_X1_hasMove _ _ _ hq9) (fun q3 _ => ?_)
  refine j_if_eq (pc := 45) (tgt := 60) dX8_undoneAtOnce_45 (by decide) (fun _ => ?_) (fun _ => ?_)
  · exact jb_X8_undoneAtOnce_60 k7 k25 hk7 hk25 _ _ _ _ _ _ _
  refine j_lload_n (pc := 48) (p := 2) rfl rfl dX8_undoneAtOnce_48 ?_
  refine j_aload (pc := 49) (p := 4) rfl dX8_undoneAtOnce_49 ?_
  refine j_iload (pc := 51) (p := 5) rfl dX8_undoneAtOnce_51 ?_
  refine j_cVl (pc := 53) Y_X5_at (ci := 4) (b := v5) rfl rfl ml_X8_106 im_X5_at se_X5_at ⟨Nat.le_of_ble_eq_true rfl, Nat.le_of_ble_eq_true rfl⟩ dX8_undoneAtOnce_53 (As := [.int v6]) (rest := [.long v2]) rfl rfl (Nat.le_of_ble_eq_true rfl) (fun x hq9 => c_X5_at _ _ _ _ hq9) (fun q4 _ => ?_)
  refine j_minl (pc := 56) ml_X8_149 sm_minl ini_Math co_minl ⟨Nat.le_of_ble_eq_true rfl, Nat.le_of_ble_eq_true rfl⟩ dX8_undoneAtOnce_56 ?_
  refine j_lstore_n (pc := 59) (lv' := [(2, .long (q_minl v2 q4.2)), (0, .ref v0), (1, .int v1), (4, .int v4), (5, .ref v5), (6, .int v6)]) rfl (by decide) rfl dX8_undoneAtOnce_59 ?_
  refine j_sub [1, 2, 0, 3, 4, 5] (lv' := [(0, .ref v0), (1, .int v1), (2, .long (q_minl v2 q4.2)), (4, .int v4), (5, .ref v5), (6, .int v6)]) rfl ?_
  exact jb_X8_undoneAtOnce_60 k7 k25 hk7 hk25 _ _ _ _ _ _ _
set_option maxRecDepth 20000 in
set_option maxHeartbeats 1000000 in
theorem jl_X8_undoneAtOnce_25 {G : q_G} {l : Launch} {k0 z0 : Nat} (k7 : q_H → Nat → Int32 → Int64 → Int32 → Option (q_H × Int32)) (hk7 : ∀ (h : q_H) (v0 : Nat) (v1 : Int32) (v2 : Int64) (v4 : Int32), q_J G l (RX8, cX8_undoneAtOnce, 7, 3, 67, (some .int), "undoneAtOnce", []) k0 z0 (q_Z G k0 z0 q_i) 7 [(0, .ref v0), (1, .int v1), (2, .long v2), (4, .int v4)] [] h (k7 h v0 v1 v2 v4)) (n : Nat) : ∀ (h : q_H) (v0 : Nat) (v1 : Int32) (v2 : Int64) (v4 : Int32) (v5 : Nat) (v6 : Int32), q_J G l (RX8, cX8_undoneAtOnce, 7, 3, 67, (some .int), "undoneAtOnce", []) k0 z0 (q_Z G k0 z0 q_i) 25 [(0, .ref v0), (1, .int v1), (2, .long v2), (4, .int v4), (5, .ref v5), (6, .int v6)] [] h (l_X8_undoneAtOnce_25 k7 n h v0 v1 v2 v4 v5 v6) := by
  induction n with
  | zero => intro h v0 v1 v2 v4 v5 v6; exact j_none
  | succ n ih => intro h v0 v1 v2 v4 v5 v6; exact jb_X8_undoneAtOnce_25 k7 (l_X8_undoneAtOnce_25 k7 n) hk7 ih h v0 v1 v2 v4 v5 v6
set_option maxRecDepth 20000 in
set_option maxHeartbeats 1000000 in
theorem jb_X8_undoneAtOnce_7 {G : q_G} {l : Launch} {k0 z0 : Nat} (k7 : q_H → Nat → Int32 → Int64 → Int32 → Option (q_H × Int32)) (hk7 : ∀ (h : q_H) (v0 : Nat) (v1 : Int32) (v2 : Int64) (v4 : Int32), q_J G l (RX8, cX8_undoneAtOnce, 7, 3, 67, (some .int), "undoneAtOnce", []) k0 z0 (q_Z G k0 z0 q_i) 7 [(0, .ref v0), (1, .int v1), (2, .long v2), (4, .int v4)] [] h (k7 h v0 v1 v2 v4)) (h : q_H) (v0 : Nat) (v1 : Int32) (v2 : Int64) (v4 : Int32) : q_J G l (RX8, cX8_undoneAtOnce, 7, 3, 67, (some .int), "undoneAtOnce", []) k0 z0 (q_Z G k0 z0 q_i) 7 [(0, .ref v0), (1, .int v1), (2, .long v2), (4, .int v4)] [] h (b_X8_undoneAtOnce_7 k7 h v0 v1 v2 v4) := by
  unfold b_X8_undoneAtOnce_7
  refine j_iload (pc := 7) (p := 3) rfl dX8_undoneAtOnce_7 ?_
  refine j_iconst (pc := 9) ki_3 dX8_undoneAtOnce_9 ?_
  refine j_ic_ge (pc := 10) (tgt := 72) dX8_undoneAtOnce_10 (by decide) (fun _ => ?_) (fun _ => ?_)
  · refine j_aload_n (pc := 72) (p := 0) rfl rfl dX8_undoneAtOnce_72 ?_
    refine j_getR (pc := 73) FI_X8 (k := 0) (by decide) fl_X8_11 dX8_undoneAtOnce_73 (fun x5 _ => ?_)
    refine j_iload_n (pc := 76) (p := 1) rfl rfl dX8_undoneAtOnce_76 ?_
    refine j_aald (pc := 77) (t := 4) rfl dX8_undoneAtOnce_77 (fun x6 _ => ?_)
    refine j_getR (pc := 78) FI_X0 (k := 3) (by decide) fl_X8_65 dX8_undoneAtOnce_78 (fun x7 _ => ?_)
    refine j_lload_n (pc := 81) (p := 2) rfl rfl dX8_undoneAtOnce_81 ?_
    refine j_aload_n (pc := 82) (p := 0) rfl rfl dX8_undoneAtOnce_82 ?_
    refine j_getR (pc := 83) FI_X8 (k := 0) (by decide) fl_X8_11 dX8_undoneAtOnce_83 (fun x8 _ => ?_)
    refine j_iload_n (pc := 86) (p := 1) rfl rfl dX8_undoneAtOnce_86 ?_
    refine j_aald (pc := 87) (t := 4) rfl dX8_undoneAtOnce_87 (fun x9 _ => ?_)
    refine j_getR (pc := 88) FI_X0 (k := 3) (by decide) fl_X8_65 dX8_undoneAtOnce_88 (fun x10 _ => ?_)
    refine j_getI (pc := 91) FI_X5 (k := 1) (by decide) fl_X8_38 dX8_undoneAtOnce_91 (fun x11 _ => ?_)
    refine j_cVi (pc := 94) Y_X5_countLater (ci := 4) (b := x7) rfl rfl ml_X8_153 im_X5_countLater se_X5_countLater ⟨Nat.le_of_ble_eq_true rfl, Nat.le_of_ble_eq_true rfl⟩ dX8_undoneAtOnce_94 (As := [.long v2, .int x11]) (rest := []) rfl rfl (Nat.le_of_ble_eq_true rfl) (fun x hq9 => c_X5_countLater _ _ _ _ _ hq9) (fun q12 _ => ?_)
    exact j_iret (pc := 97) rfl dX8_undoneAtOnce_97
  refine j_aload_n (pc := 13) (p := 0) rfl rfl dX8_undoneAtOnce_13 ?_
  refine j_iload (pc := 14) (p := 3) rfl dX8_undoneAtOnce_14 ?_
  refine j_iload_n (pc := 16) (p := 1) rfl rfl dX8_undoneAtOnce_16 ?_
  refine j_cVr (pc := 17) Y_X8_way (ci := 7) (b := v0) rfl rfl ml_X8_34 im_X8_way se_X8_way ⟨Nat.le_of_ble_eq_true rfl, Nat.le_of_ble_eq_true rfl⟩ dX8_undoneAtOnce_17 (As := [.int v4, .int v1]) (rest := []) rfl rfl (Nat.le_of_ble_eq_true rfl) (fun x hq9 => c_X8_way _ _ _ _ _ hq9) (fun q13 _ => ?_)
  refine j_astore (pc := 20) (lv' := [(5, .ref q13.2), (0, .ref v0), (1, .int v1), (2, .long v2), (4, .int v4)]) (by decide) rfl dX8_undoneAtOnce_20 ?_
  refine j_iconst (pc := 22) ki_0 dX8_undoneAtOnce_22 ?_
  refine j_istore (pc := 23) (lv' := [(6, .int (0)), (5, .ref q13.2), (0, .ref v0), (1, .int v1), (2, .long v2), (4, .int v4)]) (by decide) rfl dX8_undoneAtOnce_23 ?_
  refine j_sub [2, 3, 4, 5, 1, 0] (lv' := [(0, .ref v0), (1, .int v1), (2, .long v2), (4, .int v4), (5, .ref q13.2), (6, .int (0))]) rfl ?_
  exact jl_X8_undoneAtOnce_25 k7 hk7 q_FU _ _ _ _ _ _ _
set_option maxRecDepth 20000 in
set_option maxHeartbeats 1000000 in
theorem jl_X8_undoneAtOnce_7 {G : q_G} {l : Launch} {k0 z0 : Nat} (n : Nat) : ∀ (h : q_H) (v0 : Nat) (v1 : Int32) (v2 : Int64) (v4 : Int32), q_J G l (RX8, cX8_undoneAtOnce, 7, 3, 67, (some .int), "undoneAtOnce", []) k0 z0 (q_Z G k0 z0 q_i) 7 [(0, .ref v0), (1, .int v1), (2, .long v2), (4, .int v4)] [] h (l_X8_undoneAtOnce_7 n h v0 v1 v2 v4) := by
  induction n with
  | zero => intro h v0 v1 v2 v4; exact j_none
  | succ n ih => intro h v0 v1 v2 v4; exact jb_X8_undoneAtOnce_7 (l_X8_undoneAtOnce_7 n) ih h v0 v1 v2 v4
set_option maxRecDepth 20000 in
set_option maxHeartbeats 1000000 in
theorem jb_X8_undoneAtOnce_0 {G : q_G} {l : Launch} {k0 z0 : Nat} (h : q_H) (v0 : Nat) (v1 : Int32) : q_J G l (RX8, cX8_undoneAtOnce, 7, 3, 67, (some .int), "undoneAtOnce", []) k0 z0 (q_Z G k0 z0 q_i) 0 [(0, .ref v0), (1, .int v1)] [] h (b_X8_undoneAtOnce_0 h v0 v1) := by
  unfold b_X8_undoneAtOnce_0
  refine j_ldc2 (pc := 0) cL_X8_147 dX8_undoneAtOnce_0 ?_
  refine j_lstore_n (pc := 3) (lv' := [(2, .long (4611686018427387904)), (0, .ref v0), (1, .int v1)]) rfl (by decide) rfl dX8_undoneAtOnce_3 ?_
  refine j_iconst (pc := 4) ki_0 dX8_undoneAtOnce_4 ?_
  refine j_istore (pc := 5) (lv' := [(4, .int (0)), (2, .long (4611686018427387904)), (0, .ref v0), (1, .int v1)]) (by decide) rfl dX8_undoneAtOnce_5 ?_
  refine j_sub [2, 3, 1, 0] (lv' := [(0, .ref v0), (1, .int v1), (2, .long (4611686018427387904)), (4, .int (0))]) rfl ?_
  exact jl_X8_undoneAtOnce_7 q_FU _ _ _ _ _
set_option maxRecDepth 20000 in
set_option maxHeartbeats 1000000 in
theorem c_X8_undoneAtOnce {G : q_G} {l : Launch} : ∀ (h : q_H) (a0 : Nat) (a1 : Int32) (q : q_H × Int32), f_X8_undoneAtOnce h a0 a1 = some q → (∃ fs, h.1 a0 = .inr (7, fs)) ∧ q_CT G l yX8_undoneAtOnce cX8_undoneAtOnce 7 (some .int) 3 67 [.ref a0, .int a1] h q.1 (q_i q.2) := by
  intro h a0 a1 q e
  obtain ⟨e1, e2⟩ := q_chk_ok e
  exact ⟨e1, q_ofJ Y_X8_undoneAtOnce (Nat.le_of_ble_eq_true rfl) (jb_X8_undoneAtOnce_0 h a0 a1) q e2⟩
/-! FarFolders$World.waiting()I -/
theorem dX8_waiting_0 : decode cX8_waiting 0 = .ok (.aload_n 0, 1) := by decide +kernel
theorem dX8_waiting_1 : decode cX8_waiting 1 = .ok (.iconst 0, 1) := by decide +kernel
theorem dX8_waiting_2 : decode cX8_waiting 2 = .ok (.invokevirtual 42, 3) := by decide +kernel
theorem dX8_waiting_5 : decode cX8_waiting 5 = .ok (.aload_n 0, 1) := by decide +kernel
theorem dX8_waiting_6 : decode cX8_waiting 6 = .ok (.iconst 1, 1) := by decide +kernel
theorem dX8_waiting_7 : decode cX8_waiting 7 = .ok (.invokevirtual 42, 3) := by decide +kernel
theorem dX8_waiting_10 : decode cX8_waiting 10 = .ok (.iadd, 1) := by decide +kernel
theorem dX8_waiting_11 : decode cX8_waiting 11 = .ok (.aload_n 0, 1) := by decide +kernel
theorem dX8_waiting_12 : decode cX8_waiting 12 = .ok (.iconst 2, 1) := by decide +kernel
theorem dX8_waiting_13 : decode cX8_waiting 13 = .ok (.invokevirtual 42, 3) := by decide +kernel
theorem dX8_waiting_16 : decode cX8_waiting 16 = .ok (.iadd, 1) := by decide +kernel
theorem dX8_waiting_17 : decode cX8_waiting 17 = .ok (.ireturn, 1) := by decide +kernel
def b_X8_waiting_0 (h : q_H) (v0 : Nat) : Option (q_H × Int32) :=
  Option.bind (f_X8_waitingFor h v0 (0)) (fun q1 => Option.bind (f_X8_waitingFor q1.1 v0 (1)) (fun q2 => Option.bind (f_X8_waitingFor q2.1 v0 (2)) (fun q3 => some (q3.1, ((q1.2 + q2.2) + q3.2)))))
def f_X8_waiting (h : q_H) (a0 : Nat) : Option (q_H × Int32) := q_chk 7 h a0 (b_X8_waiting_0 h a0)
set_option maxRecDepth 20000 in
set_option maxHeartbeats 1000000 in
theorem jb_X8_waiting_0 {G : q_G} {l : Launch} {k0 z0 : Nat} (h : q_H) (v0 : Nat) : q_J G l (RX8, cX8_waiting, 1, 2, 45, (some .int), "waiting", []) k0 z0 (q_Z G k0 z0 q_i) 0 [(0, .ref v0)] [] h (b_X8_waiting_0 h v0) := by
  unfold b_X8_waiting_0
  refine j_aload_n (pc := 0) (p := 0) rfl rfl dX8_waiting_0 ?_
  refine j_iconst (pc := 1) ki_0 dX8_waiting_1 ?_
  refine j_cVi (pc := 2) Y_X8_waitingFor (ci := 7) (b := v0) rfl rfl ml_X8_42 im_X8_waitingFor se_X8_waitingFor ⟨Nat.le_of_ble_eq_true rfl, Nat.le_of_ble_eq_true rfl⟩ dX8_waiting_2 (As := [.int (0)]) (rest := []) rfl rfl (Nat.le_of_ble_eq_true rfl) (fun x hq9 => c_X8_waitingFor _ _ _ _ hq9) (fun q1 _ => ?_)
  refine j_aload_n (pc := 5) (p := 0) rfl rfl dX8_waiting_5 ?_
  refine j_iconst (pc := 6) ki_1 dX8_waiting_6 ?_
  refine j_cVi (pc := 7) Y_X8_waitingFor (ci := 7) (b := v0) rfl rfl ml_X8_42 im_X8_waitingFor se_X8_waitingFor ⟨Nat.le_of_ble_eq_true rfl, Nat.le_of_ble_eq_true rfl⟩ dX8_waiting_7 (As := [.int (1)]) (rest := [.int q1.2]) rfl rfl (Nat.le_of_ble_eq_true rfl) (fun x hq9 => c_X8_waitingFor _ _ _ _ hq9) (fun q2 _ => ?_)
  refine j_iadd (pc := 10) dX8_waiting_10 ?_
  refine j_aload_n (pc := 11) (p := 0) rfl rfl dX8_waiting_11 ?_
  refine j_iconst (pc := 12) ki_2 dX8_waiting_12 ?_
  refine j_cVi (pc := 13) Y_X8_waitingFor (ci := 7) (b := v0) rfl rfl ml_X8_42 im_X8_waitingFor se_X8_waitingFor ⟨Nat.le_of_ble_eq_true rfl, Nat.le_of_ble_eq_true rfl⟩ dX8_waiting_13 (As := [.int (2)]) (rest := [.int (q1.2 + q2.2)]) rfl rfl (Nat.le_of_ble_eq_true rfl) (fun x hq9 => c_X8_waitingFor _ _ _ _ hq9) (fun q3 _ => ?_)
  refine j_iadd (pc := 16) dX8_waiting_16 ?_
  exact j_iret (pc := 17) rfl dX8_waiting_17
set_option maxRecDepth 20000 in
set_option maxHeartbeats 1000000 in
theorem c_X8_waiting {G : q_G} {l : Launch} : ∀ (h : q_H) (a0 : Nat) (q : q_H × Int32), f_X8_waiting h a0 = some q → (∃ fs, h.1 a0 = .inr (7, fs)) ∧ q_CT G l yX8_waiting cX8_waiting 1 (some .int) 2 45 [.ref a0] h q.1 (q_i q.2) := by
  intro h a0 q e
  obtain ⟨e1, e2⟩ := q_chk_ok e
  exact ⟨e1, q_ofJ Y_X8_waiting (Nat.le_of_ble_eq_true rfl) (jb_X8_waiting_0 h a0) q e2⟩
/-! FarFolders.addStep(LFarFolders$Tree;I)V -/
theorem dX9_addStep_0 : decode cX9_addStep 0 = .ok (.aload_n 0, 1) := by decide +kernel
theorem dX9_addStep_1 : decode cX9_addStep 1 = .ok (.getfield 30, 3) := by decide +kernel
theorem dX9_addStep_4 : decode cX9_addStep 4 = .ok (.ldc2_w 368, 3) := by decide +kernel
theorem dX9_addStep_7 : decode cX9_addStep 7 = .ok (.invokevirtual 170, 3) := by decide +kernel
theorem dX9_addStep_10 : decode cX9_addStep 10 = .ok (.aload_n 0, 1) := by decide +kernel
theorem dX9_addStep_11 : decode cX9_addStep 11 = .ok (.getfield 30, 3) := by decide +kernel
theorem dX9_addStep_14 : decode cX9_addStep 14 = .ok (.bipush 48, 2) := by decide +kernel
theorem dX9_addStep_16 : decode cX9_addStep 16 = .ok (.aload_n 1, 1) := by decide +kernel
theorem dX9_addStep_17 : decode cX9_addStep 17 = .ok (.getfield 94, 3) := by decide +kernel
theorem dX9_addStep_20 : decode cX9_addStep 20 = .ok (.iload_n 2, 1) := by decide +kernel
theorem dX9_addStep_21 : decode cX9_addStep 21 = .ok (.laload, 1) := by decide +kernel
theorem dX9_addStep_22 : decode cX9_addStep 22 = .ok (.invokestatic 104, 3) := by decide +kernel
theorem dX9_addStep_25 : decode cX9_addStep 25 = .ok (.iadd, 1) := by decide +kernel
theorem dX9_addStep_26 : decode cX9_addStep 26 = .ok (.i2l, 1) := by decide +kernel
theorem dX9_addStep_27 : decode cX9_addStep 27 = .ok (.invokevirtual 170, 3) := by decide +kernel
theorem dX9_addStep_30 : decode cX9_addStep 30 = .ok (.aload_n 1, 1) := by decide +kernel
theorem dX9_addStep_31 : decode cX9_addStep 31 = .ok (.iload_n 2, 1) := by decide +kernel
theorem dX9_addStep_32 : decode cX9_addStep 32 = .ok (.invokevirtual 107, 3) := by decide +kernel
theorem dX9_addStep_35 : decode cX9_addStep 35 = .ok (.istore_n 3, 1) := by decide +kernel
theorem dX9_addStep_36 : decode cX9_addStep 36 = .ok (.iload_n 3, 1) := by decide +kernel
theorem dX9_addStep_37 : decode cX9_addStep 37 = .ok (.ifCond .le 13, 3) := by decide +kernel
theorem dX9_addStep_40 : decode cX9_addStep 40 = .ok (.aload_n 0, 1) := by decide +kernel
theorem dX9_addStep_41 : decode cX9_addStep 41 = .ok (.getfield 30, 3) := by decide +kernel
theorem dX9_addStep_44 : decode cX9_addStep 44 = .ok (.ldc2_w 370, 3) := by decide +kernel
theorem dX9_addStep_47 : decode cX9_addStep 47 = .ok (.invokevirtual 170, 3) := by decide +kernel
theorem dX9_addStep_50 : decode cX9_addStep 50 = .ok (.iload_n 3, 1) := by decide +kernel
theorem dX9_addStep_51 : decode cX9_addStep 51 = .ok (.bipush 9, 2) := by decide +kernel
theorem dX9_addStep_53 : decode cX9_addStep 53 = .ok (.if_icmp .le 18, 3) := by decide +kernel
theorem dX9_addStep_56 : decode cX9_addStep 56 = .ok (.aload_n 0, 1) := by decide +kernel
theorem dX9_addStep_57 : decode cX9_addStep 57 = .ok (.getfield 30, 3) := by decide +kernel
theorem dX9_addStep_60 : decode cX9_addStep 60 = .ok (.bipush 48, 2) := by decide +kernel
theorem dX9_addStep_62 : decode cX9_addStep 62 = .ok (.iload_n 3, 1) := by decide +kernel
theorem dX9_addStep_63 : decode cX9_addStep 63 = .ok (.bipush 10, 2) := by decide +kernel
theorem dX9_addStep_65 : decode cX9_addStep 65 = .ok (.idiv, 1) := by decide +kernel
theorem dX9_addStep_66 : decode cX9_addStep 66 = .ok (.iadd, 1) := by decide +kernel
theorem dX9_addStep_67 : decode cX9_addStep 67 = .ok (.i2l, 1) := by decide +kernel
theorem dX9_addStep_68 : decode cX9_addStep 68 = .ok (.invokevirtual 170, 3) := by decide +kernel
theorem dX9_addStep_71 : decode cX9_addStep 71 = .ok (.iload_n 3, 1) := by decide +kernel
theorem dX9_addStep_72 : decode cX9_addStep 72 = .ok (.ifCond .le 18, 3) := by decide +kernel
theorem dX9_addStep_75 : decode cX9_addStep 75 = .ok (.aload_n 0, 1) := by decide +kernel
theorem dX9_addStep_76 : decode cX9_addStep 76 = .ok (.getfield 30, 3) := by decide +kernel
theorem dX9_addStep_79 : decode cX9_addStep 79 = .ok (.bipush 48, 2) := by decide +kernel
theorem dX9_addStep_81 : decode cX9_addStep 81 = .ok (.iload_n 3, 1) := by decide +kernel
theorem dX9_addStep_82 : decode cX9_addStep 82 = .ok (.bipush 10, 2) := by decide +kernel
theorem dX9_addStep_84 : decode cX9_addStep 84 = .ok (.irem, 1) := by decide +kernel
theorem dX9_addStep_85 : decode cX9_addStep 85 = .ok (.iadd, 1) := by decide +kernel
theorem dX9_addStep_86 : decode cX9_addStep 86 = .ok (.i2l, 1) := by decide +kernel
theorem dX9_addStep_87 : decode cX9_addStep 87 = .ok (.invokevirtual 170, 3) := by decide +kernel
theorem dX9_addStep_90 : decode cX9_addStep 90 = .ok (.return_, 1) := by decide +kernel
def b_X9_addStep_71 (h : q_H) (v0 : Nat) (v3 : Int32) : Option (q_H × Unit) :=
  if v3 ≤ 0 then some (h, ()) else Option.bind (q_gR 8 4 h v0) (fun x1 => Option.bind (q_rem v3 (10)) (fun x2 => Option.bind (f_X4_add h x1 (Int32.toInt64 ((48) + x2))) (fun q3 => some (q3.1, ()))))
def b_X9_addStep_50 (h : q_H) (v0 : Nat) (v3 : Int32) : Option (q_H × Unit) :=
  if v3 ≤ (9) then b_X9_addStep_71 h v0 v3 else Option.bind (q_gR 8 4 h v0) (fun x4 => Option.bind (q_div v3 (10)) (fun x5 => Option.bind (f_X4_add h x4 (Int32.toInt64 ((48) + x5))) (fun q6 => b_X9_addStep_71 q6.1 v0 v3)))
def b_X9_addStep_0 (h : q_H) (v0 : Nat) (v1 : Nat) (v2 : Int32) : Option (q_H × Unit) :=
  Option.bind (q_gR 8 4 h v0) (fun x7 => Option.bind (f_X4_add h x7 (47)) (fun q8 => Option.bind (q_gR 8 4 q8.1 v0) (fun x9 => Option.bind (q_gR 6 0 q8.1 v1) (fun x10 => Option.bind (q_lL q8.1 x10 v2) (fun x11 => Option.bind (f_X1_name q8.1 x11) (fun q12 => Option.bind (f_X4_add q12.1 x9 (Int32.toInt64 ((48) + q12.2))) (fun q13 => Option.bind (f_X7_rankOf q13.1 v1 v2) (fun q14 => if q14.2 ≤ 0 then b_X9_addStep_50 q14.1 v0 q14.2 else Option.bind (q_gR 8 4 q14.1 v0) (fun x15 => Option.bind (f_X4_add q14.1 x15 (46)) (fun q16 => b_X9_addStep_50 q16.1 v0 q14.2))))))))))
def f_X9_addStep (h : q_H) (a0 : Nat) (a1 : Nat) (a2 : Int32) : Option (q_H × Unit) := q_chk 8 h a0 (b_X9_addStep_0 h a0 a1 a2)
set_option maxRecDepth 20000 in
set_option maxHeartbeats 1000000 in
theorem jb_X9_addStep_71 {G : q_G} {l : Launch} {k0 z0 : Nat} (h : q_H) (v0 : Nat) (v3 : Int32) : q_J G l (RX9, cX9_addStep, 4, 3, 68, none, "addStep", []) k0 z0 (q_Z G k0 z0 q_u) 71 [(0, .ref v0), (3, .int v3)] [] h (b_X9_addStep_71 h v0 v3) := by
  unfold b_X9_addStep_71
  refine j_iload_n (pc := 71) (p := 1) rfl rfl dX9_addStep_71 ?_
  refine j_if_le (pc := 72) (tgt := 90) dX9_addStep_72 (by decide) (fun _ => ?_) (fun _ => ?_)
  · exact j_vret (pc := 90) rfl dX9_addStep_90
  refine j_aload_n (pc := 75) (p := 0) rfl rfl dX9_addStep_75 ?_
  refine j_getR (pc := 76) FI_X9 (k := 4) (by decide) fl_X9_30 dX9_addStep_76 (fun x1 _ => ?_)
  refine j_bipush (pc := 79) kb_48 dX9_addStep_79 ?_
  refine j_iload_n (pc := 81) (p := 1) rfl rfl dX9_addStep_81 ?_
  refine j_bipush (pc := 82) kb_10 dX9_addStep_82 ?_
  refine j_irem (pc := 84) dX9_addStep_84 (fun x2 _ => ?_)
  refine j_iadd (pc := 85) dX9_addStep_85 ?_
  refine j_i2l (pc := 86) dX9_addStep_86 ?_
  refine j_cVu (pc := 87) Y_X4_add (ci := 3) (b := x1) rfl rfl ml_X9_170 im_X4_add se_X4_add ⟨Nat.le_of_ble_eq_true rfl, Nat.le_of_ble_eq_true rfl⟩ dX9_addStep_87 (As := [.long (Int32.toInt64 ((48) + x2))]) (rest := []) rfl rfl (Nat.le_of_ble_eq_true rfl) (fun x hq9 => c_X4_add _ _ _ _ hq9) (fun q3 _ => ?_)
  exact j_vret (pc := 90) rfl dX9_addStep_90
set_option maxRecDepth 20000 in
set_option maxHeartbeats 1000000 in
theorem jb_X9_addStep_50 {G : q_G} {l : Launch} {k0 z0 : Nat} (h : q_H) (v0 : Nat) (v3 : Int32) : q_J G l (RX9, cX9_addStep, 4, 3, 68, none, "addStep", []) k0 z0 (q_Z G k0 z0 q_u) 50 [(0, .ref v0), (3, .int v3)] [] h (b_X9_addStep_50 h v0 v3) := by
  unfold b_X9_addStep_50
  refine j_iload_n (pc := 50) (p := 1) rfl rfl dX9_addStep_50 ?_
  refine j_bipush (pc := 51) kb_9 dX9_addStep_51 ?_
  refine j_ic_le (pc := 53) (tgt := 71) dX9_addStep_53 (by decide) (fun _ => ?_) (fun _ => ?_)
  · exact jb_X9_addStep_71 _ _ _
  refine j_aload_n (pc := 56) (p := 0) rfl rfl dX9_addStep_56 ?_
  refine j_getR (pc := 57) FI_X9 (k := 4) (by decide) fl_X9_30 dX9_addStep_57 (fun x4 _ => ?_)
  refine j_bipush (pc := 60) kb_48 dX9_addStep_60 ?_
  refine j_iload_n (pc := 62) (p := 1) rfl rfl dX9_addStep_62 ?_
  refine j_bipush (pc := 63) kb_10 dX9_addStep_63 ?_
  refine j_idiv (pc := 65) dX9_addStep_65 (fun x5 _ => ?_)
  refine j_iadd (pc := 66) dX9_addStep_66 ?_
  refine j_i2l (pc := 67) dX9_addStep_67 ?_
  refine j_cVu (pc := 68) Y_X4_add (ci := 3) (b := x4) rfl rfl ml_X9_170 im_X4_add se_X4_add ⟨Nat.le_of_ble_eq_true rfl, Nat.le_of_ble_eq_true rfl⟩ dX9_addStep_68 (As := [.long (Int32.toInt64 ((48) + x5))]) (rest := []) rfl rfl (Nat.le_of_ble_eq_true rfl) (fun x hq9 => c_X4_add _ _ _ _ hq9) (fun q6 _ => ?_)
  exact jb_X9_addStep_71 _ _ _
set_option maxRecDepth 20000 in
set_option maxHeartbeats 1000000 in
theorem jb_X9_addStep_0 {G : q_G} {l : Launch} {k0 z0 : Nat} (h : q_H) (v0 : Nat) (v1 : Nat) (v2 : Int32) : q_J G l (RX9, cX9_addStep, 4, 3, 68, none, "addStep", []) k0 z0 (q_Z G k0 z0 q_u) 0 [(0, .ref v0), (1, .ref v1), (2, .int v2)] [] h (b_X9_addStep_0 h v0 v1 v2) := by
  unfold b_X9_addStep_0
  refine j_aload_n (pc := 0) (p := 0) rfl rfl dX9_addStep_0 ?_
  refine j_getR (pc := 1) FI_X9 (k := 4) (by decide) fl_X9_30 dX9_addStep_1 (fun x7 _ => ?_)
  refine j_ldc2 (pc := 4) cL_X9_368 dX9_addStep_4 ?_
  refine j_cVu (pc := 7) Y_X4_add (ci := 3) (b := x7) rfl rfl ml_X9_170 im_X4_add se_X4_add ⟨Nat.le_of_ble_eq_true rfl, Nat.le_of_ble_eq_true rfl⟩ dX9_addStep_7 (As := [.long (47)]) (rest := []) rfl rfl (Nat.le_of_ble_eq_true rfl) (fun x hq9 => c_X4_add _ _ _ _ hq9) (fun q8 _ => ?_)
  refine j_aload_n (pc := 10) (p := 0) rfl rfl dX9_addStep_10 ?_
  refine j_getR (pc := 11) FI_X9 (k := 4) (by decide) fl_X9_30 dX9_addStep_11 (fun x9 _ => ?_)
  refine j_bipush (pc := 14) kb_48 dX9_addStep_14 ?_
  refine j_aload_n (pc := 16) (p := 1) rfl rfl dX9_addStep_16 ?_
  refine j_getR (pc := 17) FI_X7 (k := 0) (by decide) fl_X9_94 dX9_addStep_17 (fun x10 _ => ?_)
  refine j_iload_n (pc := 20) (p := 2) rfl rfl dX9_addStep_20 ?_
  refine j_lald (pc := 21) dX9_addStep_21 (fun x11 _ => ?_)
  refine j_cSi (pc := 22) Y_X1_name ml_X9_104 sm_X1_name ⟨Nat.le_of_ble_eq_true rfl, Nat.le_of_ble_eq_true rfl⟩ dX9_addStep_22 (As := [.long x11]) (rest := [.int (48), .ref x9]) rfl rfl (Nat.le_of_ble_eq_true rfl) (fun x hq9 => c_X1_name _ _ _ hq9) (fun q12 _ => ?_)
  refine j_iadd (pc := 25) dX9_addStep_25 ?_
  refine j_i2l (pc := 26) dX9_addStep_26 ?_
  refine j_cVu (pc := 27) Y_X4_add (ci := 3) (b := x9) rfl rfl ml_X9_170 im_X4_add se_X4_add ⟨Nat.le_of_ble_eq_true rfl, Nat.le_of_ble_eq_true rfl⟩ dX9_addStep_27 (As := [.long (Int32.toInt64 ((48) + q12.2))]) (rest := []) rfl rfl (Nat.le_of_ble_eq_true rfl) (fun x hq9 => c_X4_add _ _ _ _ hq9) (fun q13 _ => ?_)
  refine j_aload_n (pc := 30) (p := 1) rfl rfl dX9_addStep_30 ?_
  refine j_iload_n (pc := 31) (p := 2) rfl rfl dX9_addStep_31 ?_
  refine j_cVi (pc := 32) Y_X7_rankOf (ci := 6) (b := v1) rfl rfl ml_X9_107 im_X7_rankOf se_X7_rankOf ⟨Nat.le_of_ble_eq_true rfl, Nat.le_of_ble_eq_true rfl⟩ dX9_addStep_32 (As := [.int v2]) (rest := []) rfl rfl (Nat.le_of_ble_eq_true rfl) (fun x hq9 => c_X7_rankOf _ _ _ _ hq9) (fun q14 _ => ?_)
  refine j_istore_n (pc := 35) (lv' := [(3, .int q14.2), (0, .ref v0), (1, .ref v1), (2, .int v2)]) rfl (by decide) rfl dX9_addStep_35 ?_
  refine j_iload_n (pc := 36) (p := 0) rfl rfl dX9_addStep_36 ?_
  refine j_if_le (pc := 37) (tgt := 50) dX9_addStep_37 (by decide) (fun _ => ?_) (fun _ => ?_)
  · refine j_sub [1, 0] (lv' := [(0, .ref v0), (3, .int q14.2)]) rfl ?_
    exact jb_X9_addStep_50 _ _ _
  refine j_aload_n (pc := 40) (p := 1) rfl rfl dX9_addStep_40 ?_
  refine j_getR (pc := 41) FI_X9 (k := 4) (by decide) fl_X9_30 dX9_addStep_41 (fun x15 _ => ?_)
  refine j_ldc2 (pc := 44) cL_X9_370 dX9_addStep_44 ?_
  refine j_cVu (pc := 47) Y_X4_add (ci := 3) (b := x15) rfl rfl ml_X9_170 im_X4_add se_X4_add ⟨Nat.le_of_ble_eq_true rfl, Nat.le_of_ble_eq_true rfl⟩ dX9_addStep_47 (As := [.long (46)]) (rest := []) rfl rfl (Nat.le_of_ble_eq_true rfl) (fun x hq9 => c_X4_add _ _ _ _ hq9) (fun q16 _ => ?_)
  refine j_sub [1, 0] (lv' := [(0, .ref v0), (3, .int q14.2)]) rfl ?_
  exact jb_X9_addStep_50 _ _ _
set_option maxRecDepth 20000 in
set_option maxHeartbeats 1000000 in
theorem c_X9_addStep {G : q_G} {l : Launch} : ∀ (h : q_H) (a0 : Nat) (a1 : Nat) (a2 : Int32) (q : q_H × Unit), f_X9_addStep h a0 a1 a2 = some q → (∃ fs, h.1 a0 = .inr (8, fs)) ∧ q_CT G l yX9_addStep cX9_addStep 4 none 3 68 [.ref a0, .ref a1, .int a2] h q.1 (q_u q.2) := by
  intro h a0 a1 a2 q e
  obtain ⟨e1, e2⟩ := q_chk_ok e
  exact ⟨e1, q_ofJ Y_X9_addStep (Nat.le_of_ble_eq_true rfl) (jb_X9_addStep_0 h a0 a1 a2) q e2⟩
/-! FarFolders.again(I)Z -/
theorem dX9_again_0 : decode cX9_again 0 = .ok (.iload_n 1, 1) := by decide +kernel
theorem dX9_again_1 : decode cX9_again 1 = .ok (.ifCond .lt 17, 3) := by decide +kernel
theorem dX9_again_4 : decode cX9_again 4 = .ok (.iload_n 1, 1) := by decide +kernel
theorem dX9_again_5 : decode cX9_again 5 = .ok (.iconst 2, 1) := by decide +kernel
theorem dX9_again_6 : decode cX9_again 6 = .ok (.if_icmp .ge 12, 3) := by decide +kernel
theorem dX9_again_9 : decode cX9_again 9 = .ok (.aload_n 0, 1) := by decide +kernel
theorem dX9_again_10 : decode cX9_again 10 = .ok (.getfield 23, 3) := by decide +kernel
theorem dX9_again_13 : decode cX9_again 13 = .ok (.iload_n 1, 1) := by decide +kernel
theorem dX9_again_14 : decode cX9_again 14 = .ok (.baload, 1) := by decide +kernel
theorem dX9_again_15 : decode cX9_again 15 = .ok (.ifCond .ne 5, 3) := by decide +kernel
theorem dX9_again_18 : decode cX9_again 18 = .ok (.iconst 0, 1) := by decide +kernel
theorem dX9_again_19 : decode cX9_again 19 = .ok (.ireturn, 1) := by decide +kernel
theorem dX9_again_20 : decode cX9_again 20 = .ok (.aload_n 0, 1) := by decide +kernel
theorem dX9_again_21 : decode cX9_again 21 = .ok (.getfield 12, 3) := by decide +kernel
theorem dX9_again_24 : decode cX9_again 24 = .ok (.aload_n 0, 1) := by decide +kernel
theorem dX9_again_25 : decode cX9_again 25 = .ok (.getfield 19, 3) := by decide +kernel
theorem dX9_again_28 : decode cX9_again 28 = .ok (.iload_n 1, 1) := by decide +kernel
theorem dX9_again_29 : decode cX9_again 29 = .ok (.aaload, 1) := by decide +kernel
theorem dX9_again_30 : decode cX9_again 30 = .ok (.invokevirtual 271, 3) := by decide +kernel
theorem dX9_again_33 : decode cX9_again 33 = .ok (.iconst 1, 1) := by decide +kernel
theorem dX9_again_34 : decode cX9_again 34 = .ok (.ireturn, 1) := by decide +kernel
def b_X9_again_0 (h : q_H) (v0 : Nat) (v1 : Int32) : Option (q_H × Int32) :=
  if v1 < 0 then some (h, (0)) else if (2) ≤ v1 then some (h, (0)) else Option.bind (q_gR 8 3 h v0) (fun x1 => Option.bind (q_lI 2 h x1 v1) (fun x2 => if x2 = 0 then some (h, (0)) else Option.bind (q_gR 8 0 h v0) (fun x3 => Option.bind (q_gR 8 2 h v0) (fun x4 => Option.bind (q_lR 7 h x4 v1) (fun x5 => Option.bind (f_X8_copyFrom h x3 x5) (fun q6 => some (q6.1, (1))))))))
def f_X9_again (h : q_H) (a0 : Nat) (a1 : Int32) : Option (q_H × Int32) := q_chk 8 h a0 (b_X9_again_0 h a0 a1)
set_option maxRecDepth 20000 in
set_option maxHeartbeats 1000000 in
theorem jb_X9_again_0 {G : q_G} {l : Launch} {k0 z0 : Nat} (h : q_H) (v0 : Nat) (v1 : Int32) : q_J G l (RX9, cX9_again, 2, 4, 124, (some .boolean), "again", []) k0 z0 (q_Z G k0 z0 q_i) 0 [(0, .ref v0), (1, .int v1)] [] h (b_X9_again_0 h v0 v1) := by
  unfold b_X9_again_0
  refine j_iload_n (pc := 0) (p := 1) rfl rfl dX9_again_0 ?_
  refine j_if_lt (pc := 1) (tgt := 18) dX9_again_1 (by decide) (fun _ => ?_) (fun _ => ?_)
  · refine j_iconst (pc := 18) ki_0 dX9_again_18 ?_
    exact j_zret (pc := 19) rfl rfl dX9_again_19
  refine j_iload_n (pc := 4) (p := 1) rfl rfl dX9_again_4 ?_
  refine j_iconst (pc := 5) ki_2 dX9_again_5 ?_
  refine j_ic_ge (pc := 6) (tgt := 18) dX9_again_6 (by decide) (fun _ => ?_) (fun _ => ?_)
  · refine j_iconst (pc := 18) ki_0 dX9_again_18 ?_
    exact j_zret (pc := 19) rfl rfl dX9_again_19
  refine j_aload_n (pc := 9) (p := 0) rfl rfl dX9_again_9 ?_
  refine j_getR (pc := 10) FI_X9 (k := 3) (by decide) fl_X9_23 dX9_again_10 (fun x1 _ => ?_)
  refine j_iload_n (pc := 13) (p := 1) rfl rfl dX9_again_13 ?_
  refine j_zald (pc := 14) dX9_again_14 (fun x2 _ => ?_)
  refine j_if_ne (pc := 15) (tgt := 20) dX9_again_15 (by decide) (fun _ => ?_) (fun _ => ?_)
  · refine j_iconst (pc := 18) ki_0 dX9_again_18 ?_
    exact j_zret (pc := 19) rfl rfl dX9_again_19
  refine j_aload_n (pc := 20) (p := 0) rfl rfl dX9_again_20 ?_
  refine j_getR (pc := 21) FI_X9 (k := 0) (by decide) fl_X9_12 dX9_again_21 (fun x3 _ => ?_)
  refine j_aload_n (pc := 24) (p := 0) rfl rfl dX9_again_24 ?_
  refine j_getR (pc := 25) FI_X9 (k := 2) (by decide) fl_X9_19 dX9_again_25 (fun x4 _ => ?_)
  refine j_iload_n (pc := 28) (p := 1) rfl rfl dX9_again_28 ?_
  refine j_aald (pc := 29) (t := 7) rfl dX9_again_29 (fun x5 _ => ?_)
  refine j_cVu (pc := 30) Y_X8_copyFrom (ci := 7) (b := x3) rfl rfl ml_X9_271 im_X8_copyFrom se_X8_copyFrom ⟨Nat.le_of_ble_eq_true rfl, Nat.le_of_ble_eq_true rfl⟩ dX9_again_30 (As := [.ref x5]) (rest := []) rfl rfl (Nat.le_of_ble_eq_true rfl) (fun x hq9 => c_X8_copyFrom _ _ _ _ hq9) (fun q6 _ => ?_)
  refine j_iconst (pc := 33) ki_1 dX9_again_33 ?_
  exact j_zret (pc := 34) rfl rfl dX9_again_34
set_option maxRecDepth 20000 in
set_option maxHeartbeats 1000000 in
theorem c_X9_again {G : q_G} {l : Launch} : ∀ (h : q_H) (a0 : Nat) (a1 : Int32) (q : q_H × Int32), f_X9_again h a0 a1 = some q → (∃ fs, h.1 a0 = .inr (8, fs)) ∧ q_CT G l yX9_again cX9_again 2 (some .boolean) 4 124 [.ref a0, .int a1] h q.1 (q_i q.2) := by
  intro h a0 a1 q e
  obtain ⟨e1, e2⟩ := q_chk_ok e
  exact ⟨e1, q_ofJ Y_X9_again (Nat.le_of_ble_eq_true rfl) (jb_X9_again_0 h a0 a1) q e2⟩
/-! FarFolders.apart(II)I -/
theorem dX9_apart_0 : decode cX9_apart 0 = .ok (.iload_n 1, 1) := by decide +kernel
theorem dX9_apart_1 : decode cX9_apart 1 = .ok (.iload_n 2, 1) := by decide +kernel
theorem dX9_apart_2 : decode cX9_apart 2 = .ok (.invokestatic 148, 3) := by decide +kernel
theorem dX9_apart_5 : decode cX9_apart 5 = .ok (.ifCond .ne 5, 3) := by decide +kernel
theorem dX9_apart_8 : decode cX9_apart 8 = .ok (.iconst (-1), 1) := by decide +kernel
theorem dX9_apart_9 : decode cX9_apart 9 = .ok (.ireturn, 1) := by decide +kernel
theorem dX9_apart_10 : decode cX9_apart 10 = .ok (.aload_n 0, 1) := by decide +kernel
theorem dX9_apart_11 : decode cX9_apart 11 = .ok (.getfield 12, 3) := by decide +kernel
theorem dX9_apart_14 : decode cX9_apart 14 = .ok (.getfield 82, 3) := by decide +kernel
theorem dX9_apart_17 : decode cX9_apart 17 = .ok (.iload_n 1, 1) := by decide +kernel
theorem dX9_apart_18 : decode cX9_apart 18 = .ok (.aaload, 1) := by decide +kernel
theorem dX9_apart_19 : decode cX9_apart 19 = .ok (.getfield 86, 3) := by decide +kernel
theorem dX9_apart_22 : decode cX9_apart 22 = .ok (.aload_n 0, 1) := by decide +kernel
theorem dX9_apart_23 : decode cX9_apart 23 = .ok (.getfield 12, 3) := by decide +kernel
theorem dX9_apart_26 : decode cX9_apart 26 = .ok (.getfield 82, 3) := by decide +kernel
theorem dX9_apart_29 : decode cX9_apart 29 = .ok (.iload_n 2, 1) := by decide +kernel
theorem dX9_apart_30 : decode cX9_apart 30 = .ok (.aaload, 1) := by decide +kernel
theorem dX9_apart_31 : decode cX9_apart 31 = .ok (.getfield 86, 3) := by decide +kernel
theorem dX9_apart_34 : decode cX9_apart 34 = .ok (.invokevirtual 160, 3) := by decide +kernel
theorem dX9_apart_37 : decode cX9_apart 37 = .ok (.istore_n 3, 1) := by decide +kernel
theorem dX9_apart_38 : decode cX9_apart 38 = .ok (.aload_n 0, 1) := by decide +kernel
theorem dX9_apart_39 : decode cX9_apart 39 = .ok (.getfield 30, 3) := by decide +kernel
theorem dX9_apart_42 : decode cX9_apart 42 = .ok (.iload_n 3, 1) := by decide +kernel
theorem dX9_apart_43 : decode cX9_apart 43 = .ok (.i2l, 1) := by decide +kernel
theorem dX9_apart_44 : decode cX9_apart 44 = .ok (.invokevirtual 141, 3) := by decide +kernel
theorem dX9_apart_47 : decode cX9_apart 47 = .ok (.iload_n 3, 1) := by decide +kernel
theorem dX9_apart_48 : decode cX9_apart 48 = .ok (.invokestatic 218, 3) := by decide +kernel
theorem dX9_apart_51 : decode cX9_apart 51 = .ok (.ireturn, 1) := by decide +kernel
def b_X9_apart_0 (h : q_H) (v0 : Nat) (v1 : Int32) (v2 : Int32) : Option (q_H × Int32) :=
  Option.bind (f_X9_areTwoCopies h v1 v2) (fun q1 => if q1.2 = 0 then some (q1.1, (-1)) else Option.bind (q_gR 8 0 q1.1 v0) (fun x2 => Option.bind (q_gR 7 0 q1.1 x2) (fun x3 => Option.bind (q_lR 4 q1.1 x3 v1) (fun x4 => Option.bind (q_gR 0 5 q1.1 x4) (fun x5 => Option.bind (q_gR 8 0 q1.1 v0) (fun x6 => Option.bind (q_gR 7 0 q1.1 x6) (fun x7 => Option.bind (q_lR 4 q1.1 x7 v2) (fun x8 => Option.bind (q_gR 0 5 q1.1 x8) (fun x9 => Option.bind (f_X7_otherThan q1.1 x5 x9) (fun q10 => Option.bind (q_gR 8 4 q10.1 v0) (fun x11 => Option.bind (f_X4_tell q10.1 x11 (Int32.toInt64 q10.2)) (fun q12 => Option.bind (f_J6_bitCount_0f7a4 q12.1 q10.2) (fun q13 => some (q13.1, q13.2))))))))))))))
def f_X9_apart (h : q_H) (a0 : Nat) (a1 : Int32) (a2 : Int32) : Option (q_H × Int32) := q_chk 8 h a0 (b_X9_apart_0 h a0 a1 a2)
set_option maxRecDepth 20000 in
set_option maxHeartbeats 1000000 in
theorem jb_X9_apart_0 {G : q_G} {l : Launch} {k0 z0 : Nat} (h : q_H) (v0 : Nat) (v1 : Int32) (v2 : Int32) : q_J G l (RX9, cX9_apart, 4, 2, 44, (some .int), "apart", []) k0 z0 (q_Z G k0 z0 q_i) 0 [(0, .ref v0), (1, .int v1), (2, .int v2)] [] h (b_X9_apart_0 h v0 v1 v2) := by
  unfold b_X9_apart_0
  refine j_iload_n (pc := 0) (p := 1) rfl rfl dX9_apart_0 ?_
  refine j_iload_n (pc := 1) (p := 2) rfl rfl dX9_apart_1 ?_
  refine j_cSi (pc := 2) Y_X9_areTwoCopies ml_X9_148 sm_X9_areTwoCopies ⟨Nat.le_of_ble_eq_true rfl, Nat.le_of_ble_eq_true rfl⟩ dX9_apart_2 (As := [.int v1, .int v2]) (rest := []) rfl rfl (Nat.le_of_ble_eq_true rfl) (fun x hq9 => c_X9_areTwoCopies _ _ _ _ hq9) (fun q1 _ => ?_)
  refine j_if_ne (pc := 5) (tgt := 10) dX9_apart_5 (by decide) (fun _ => ?_) (fun _ => ?_)
  · refine j_iconst (pc := 8) ki_m1 dX9_apart_8 ?_
    exact j_iret (pc := 9) rfl dX9_apart_9
  refine j_aload_n (pc := 10) (p := 0) rfl rfl dX9_apart_10 ?_
  refine j_getR (pc := 11) FI_X9 (k := 0) (by decide) fl_X9_12 dX9_apart_11 (fun x2 _ => ?_)
  refine j_getR (pc := 14) FI_X8 (k := 0) (by decide) fl_X9_82 dX9_apart_14 (fun x3 _ => ?_)
  refine j_iload_n (pc := 17) (p := 1) rfl rfl dX9_apart_17 ?_
  refine j_aald (pc := 18) (t := 4) rfl dX9_apart_18 (fun x4 _ => ?_)
  refine j_getR (pc := 19) FI_X0 (k := 5) (by decide) fl_X9_86 dX9_apart_19 (fun x5 _ => ?_)
  refine j_aload_n (pc := 22) (p := 0) rfl rfl dX9_apart_22 ?_
  refine j_getR (pc := 23) FI_X9 (k := 0) (by decide) fl_X9_12 dX9_apart_23 (fun x6 _ => ?_)
  refine j_getR (pc := 26) FI_X8 (k := 0) (by decide) fl_X9_82 dX9_apart_26 (fun x7 _ => ?_)
  refine j_iload_n (pc := 29) (p := 2) rfl rfl dX9_apart_29 ?_
  refine j_aald (pc := 30) (t := 4) rfl dX9_apart_30 (fun x8 _ => ?_)
  refine j_getR (pc := 31) FI_X0 (k := 5) (by decide) fl_X9_86 dX9_apart_31 (fun x9 _ => ?_)
  refine j_cVi (pc := 34) Y_X7_otherThan (ci := 6) (b := x5) rfl rfl ml_X9_160 im_X7_otherThan se_X7_otherThan ⟨Nat.le_of_ble_eq_true rfl, Nat.le_of_ble_eq_true rfl⟩ dX9_apart_34 (As := [.ref x9]) (rest := []) rfl rfl (Nat.le_of_ble_eq_true rfl) (fun x hq9 => c_X7_otherThan _ _ _ _ hq9) (fun q10 _ => ?_)
  refine j_istore_n (pc := 37) (lv' := [(3, .int q10.2), (0, .ref v0), (1, .int v1), (2, .int v2)]) rfl (by decide) rfl dX9_apart_37 ?_
  refine j_aload_n (pc := 38) (p := 1) rfl rfl dX9_apart_38 ?_
  refine j_getR (pc := 39) FI_X9 (k := 4) (by decide) fl_X9_30 dX9_apart_39 (fun x11 _ => ?_)
  refine j_iload_n (pc := 42) (p := 0) rfl rfl dX9_apart_42 ?_
  refine j_i2l (pc := 43) dX9_apart_43 ?_
  refine j_cVu (pc := 44) Y_X4_tell (ci := 3) (b := x11) rfl rfl ml_X9_141 im_X4_tell se_X4_tell ⟨Nat.le_of_ble_eq_true rfl, Nat.le_of_ble_eq_true rfl⟩ dX9_apart_44 (As := [.long (Int32.toInt64 q10.2)]) (rest := []) rfl rfl (Nat.le_of_ble_eq_true rfl) (fun x hq9 => c_X4_tell _ _ _ _ hq9) (fun q12 _ => ?_)
  refine j_iload_n (pc := 47) (p := 0) rfl rfl dX9_apart_47 ?_
  refine j_cSi (pc := 48) Y_J6_bitCount_0f7a4 ml_X9_218 sm_J6_bitCount_0f7a4 ⟨Nat.le_of_ble_eq_true rfl, Nat.le_of_ble_eq_true rfl⟩ dX9_apart_48 (As := [.int q10.2]) (rest := []) rfl rfl (Nat.le_of_ble_eq_true rfl) (fun x hq9 => c_J6_bitCount_0f7a4 _ _ _ hq9) (fun q13 _ => ?_)
  exact j_iret (pc := 51) rfl dX9_apart_51
set_option maxRecDepth 20000 in
set_option maxHeartbeats 1000000 in
theorem c_X9_apart {G : q_G} {l : Launch} : ∀ (h : q_H) (a0 : Nat) (a1 : Int32) (a2 : Int32) (q : q_H × Int32), f_X9_apart h a0 a1 a2 = some q → (∃ fs, h.1 a0 = .inr (8, fs)) ∧ q_CT G l yX9_apart cX9_apart 4 (some .int) 2 44 [.ref a0, .int a1, .int a2] h q.1 (q_i q.2) := by
  intro h a0 a1 a2 q e
  obtain ⟨e1, e2⟩ := q_chk_ok e
  exact ⟨e1, q_ofJ Y_X9_apart (Nat.le_of_ble_eq_true rfl) (jb_X9_apart_0 h a0 a1 a2) q e2⟩
/-! FarFolders.beats(I)I -/
theorem dX9_beats_0 : decode cX9_beats 0 = .ok (.aload_n 0, 1) := by decide +kernel
theorem dX9_beats_1 : decode cX9_beats 1 = .ok (.getfield 12, 3) := by decide +kernel
theorem dX9_beats_4 : decode cX9_beats 4 = .ok (.iload_n 1, 1) := by decide +kernel
theorem dX9_beats_5 : decode cX9_beats 5 = .ok (.invokevirtual 145, 3) := by decide +kernel
theorem dX9_beats_8 : decode cX9_beats 8 = .ok (.ireturn, 1) := by decide +kernel
def b_X9_beats_0 (h : q_H) (v0 : Nat) (v1 : Int32) : Option (q_H × Int32) :=
  Option.bind (q_gR 8 0 h v0) (fun x1 => Option.bind (f_X8_beat h x1 v1) (fun q2 => some (q2.1, q2.2)))
def f_X9_beats (h : q_H) (a0 : Nat) (a1 : Int32) : Option (q_H × Int32) := q_chk 8 h a0 (b_X9_beats_0 h a0 a1)
set_option maxRecDepth 20000 in
set_option maxHeartbeats 1000000 in
theorem jb_X9_beats_0 {G : q_G} {l : Launch} {k0 z0 : Nat} (h : q_H) (v0 : Nat) (v1 : Int32) : q_J G l (RX9, cX9_beats, 2, 3, 66, (some .int), "beats", []) k0 z0 (q_Z G k0 z0 q_i) 0 [(0, .ref v0), (1, .int v1)] [] h (b_X9_beats_0 h v0 v1) := by
  unfold b_X9_beats_0
  refine j_aload_n (pc := 0) (p := 0) rfl rfl dX9_beats_0 ?_
  refine j_getR (pc := 1) FI_X9 (k := 0) (by decide) fl_X9_12 dX9_beats_1 (fun x1 _ => ?_)
  refine j_iload_n (pc := 4) (p := 1) rfl rfl dX9_beats_4 ?_
  refine j_cVi (pc := 5) Y_X8_beat (ci := 7) (b := x1) rfl rfl ml_X9_145 im_X8_beat se_X8_beat ⟨Nat.le_of_ble_eq_true rfl, Nat.le_of_ble_eq_true rfl⟩ dX9_beats_5 (As := [.int v1]) (rest := []) rfl rfl (Nat.le_of_ble_eq_true rfl) (fun x hq9 => c_X8_beat _ _ _ _ hq9) (fun q2 _ => ?_)
  exact j_iret (pc := 8) rfl dX9_beats_8
set_option maxRecDepth 20000 in
set_option maxHeartbeats 1000000 in
theorem c_X9_beats {G : q_G} {l : Launch} : ∀ (h : q_H) (a0 : Nat) (a1 : Int32) (q : q_H × Int32), f_X9_beats h a0 a1 = some q → (∃ fs, h.1 a0 = .inr (8, fs)) ∧ q_CT G l yX9_beats cX9_beats 2 (some .int) 3 66 [.ref a0, .int a1] h q.1 (q_i q.2) := by
  intro h a0 a1 q e
  obtain ⟨e1, e2⟩ := q_chk_ok e
  exact ⟨e1, q_ofJ Y_X9_beats (Nat.le_of_ble_eq_true rfl) (jb_X9_beats_0 h a0 a1) q e2⟩
/-! FarFolders.behindStep(I)I -/
theorem dX9_behindStep_0 : decode cX9_behindStep 0 = .ok (.aload_n 0, 1) := by decide +kernel
theorem dX9_behindStep_1 : decode cX9_behindStep 1 = .ok (.getfield 37, 3) := by decide +kernel
theorem dX9_behindStep_4 : decode cX9_behindStep 4 = .ok (.iload_n 1, 1) := by decide +kernel
theorem dX9_behindStep_5 : decode cX9_behindStep 5 = .ok (.invokevirtual 186, 3) := by decide +kernel
theorem dX9_behindStep_8 : decode cX9_behindStep 8 = .ok (.bipush 47, 2) := by decide +kernel
theorem dX9_behindStep_10 : decode cX9_behindStep 10 = .ok (.if_icmp .eq 7, 3) := by decide +kernel
theorem dX9_behindStep_13 : decode cX9_behindStep 13 = .ok (.iconst (-1), 1) := by decide +kernel
theorem dX9_behindStep_14 : decode cX9_behindStep 14 = .ok (.iload_n 1, 1) := by decide +kernel
theorem dX9_behindStep_15 : decode cX9_behindStep 15 = .ok (.isub, 1) := by decide +kernel
theorem dX9_behindStep_16 : decode cX9_behindStep 16 = .ok (.ireturn, 1) := by decide +kernel
theorem dX9_behindStep_17 : decode cX9_behindStep 17 = .ok (.aload_n 0, 1) := by decide +kernel
theorem dX9_behindStep_18 : decode cX9_behindStep 18 = .ok (.getfield 37, 3) := by decide +kernel
theorem dX9_behindStep_21 : decode cX9_behindStep 21 = .ok (.iload_n 1, 1) := by decide +kernel
theorem dX9_behindStep_22 : decode cX9_behindStep 22 = .ok (.iconst 1, 1) := by decide +kernel
theorem dX9_behindStep_23 : decode cX9_behindStep 23 = .ok (.iadd, 1) := by decide +kernel
theorem dX9_behindStep_24 : decode cX9_behindStep 24 = .ok (.invokevirtual 358, 3) := by decide +kernel
theorem dX9_behindStep_27 : decode cX9_behindStep 27 = .ok (.ifCond .ne 8, 3) := by decide +kernel
theorem dX9_behindStep_30 : decode cX9_behindStep 30 = .ok (.bipush (-2), 2) := by decide +kernel
theorem dX9_behindStep_32 : decode cX9_behindStep 32 = .ok (.iload_n 1, 1) := by decide +kernel
theorem dX9_behindStep_33 : decode cX9_behindStep 33 = .ok (.isub, 1) := by decide +kernel
theorem dX9_behindStep_34 : decode cX9_behindStep 34 = .ok (.ireturn, 1) := by decide +kernel
theorem dX9_behindStep_35 : decode cX9_behindStep 35 = .ok (.aload_n 0, 1) := by decide +kernel
theorem dX9_behindStep_36 : decode cX9_behindStep 36 = .ok (.getfield 37, 3) := by decide +kernel
theorem dX9_behindStep_39 : decode cX9_behindStep 39 = .ok (.iload_n 1, 1) := by decide +kernel
theorem dX9_behindStep_40 : decode cX9_behindStep 40 = .ok (.iconst 2, 1) := by decide +kernel
theorem dX9_behindStep_41 : decode cX9_behindStep 41 = .ok (.iadd, 1) := by decide +kernel
theorem dX9_behindStep_42 : decode cX9_behindStep 42 = .ok (.invokevirtual 186, 3) := by decide +kernel
theorem dX9_behindStep_45 : decode cX9_behindStep 45 = .ok (.bipush 46, 2) := by decide +kernel
theorem dX9_behindStep_47 : decode cX9_behindStep 47 = .ok (.if_icmp .eq 7, 3) := by decide +kernel
theorem dX9_behindStep_50 : decode cX9_behindStep 50 = .ok (.iload_n 1, 1) := by decide +kernel
theorem dX9_behindStep_51 : decode cX9_behindStep 51 = .ok (.iconst 2, 1) := by decide +kernel
theorem dX9_behindStep_52 : decode cX9_behindStep 52 = .ok (.iadd, 1) := by decide +kernel
theorem dX9_behindStep_53 : decode cX9_behindStep 53 = .ok (.ireturn, 1) := by decide +kernel
theorem dX9_behindStep_54 : decode cX9_behindStep 54 = .ok (.aload_n 0, 1) := by decide +kernel
theorem dX9_behindStep_55 : decode cX9_behindStep 55 = .ok (.getfield 37, 3) := by decide +kernel
theorem dX9_behindStep_58 : decode cX9_behindStep 58 = .ok (.iload_n 1, 1) := by decide +kernel
theorem dX9_behindStep_59 : decode cX9_behindStep 59 = .ok (.iconst 3, 1) := by decide +kernel
theorem dX9_behindStep_60 : decode cX9_behindStep 60 = .ok (.iadd, 1) := by decide +kernel
theorem dX9_behindStep_61 : decode cX9_behindStep 61 = .ok (.invokevirtual 358, 3) := by decide +kernel
theorem dX9_behindStep_64 : decode cX9_behindStep 64 = .ok (.ifCond .eq 18, 3) := by decide +kernel
theorem dX9_behindStep_67 : decode cX9_behindStep 67 = .ok (.aload_n 0, 1) := by decide +kernel
theorem dX9_behindStep_68 : decode cX9_behindStep 68 = .ok (.getfield 37, 3) := by decide +kernel
theorem dX9_behindStep_71 : decode cX9_behindStep 71 = .ok (.iload_n 1, 1) := by decide +kernel
theorem dX9_behindStep_72 : decode cX9_behindStep 72 = .ok (.iconst 3, 1) := by decide +kernel
theorem dX9_behindStep_73 : decode cX9_behindStep 73 = .ok (.iadd, 1) := by decide +kernel
theorem dX9_behindStep_74 : decode cX9_behindStep 74 = .ok (.invokevirtual 186, 3) := by decide +kernel
theorem dX9_behindStep_77 : decode cX9_behindStep 77 = .ok (.bipush 48, 2) := by decide +kernel
theorem dX9_behindStep_79 : decode cX9_behindStep 79 = .ok (.if_icmp .ne 8, 3) := by decide +kernel
theorem dX9_behindStep_82 : decode cX9_behindStep 82 = .ok (.bipush (-4), 2) := by decide +kernel
theorem dX9_behindStep_84 : decode cX9_behindStep 84 = .ok (.iload_n 1, 1) := by decide +kernel
theorem dX9_behindStep_85 : decode cX9_behindStep 85 = .ok (.isub, 1) := by decide +kernel
theorem dX9_behindStep_86 : decode cX9_behindStep 86 = .ok (.ireturn, 1) := by decide +kernel
theorem dX9_behindStep_87 : decode cX9_behindStep 87 = .ok (.aload_n 0, 1) := by decide +kernel
theorem dX9_behindStep_88 : decode cX9_behindStep 88 = .ok (.getfield 37, 3) := by decide +kernel
theorem dX9_behindStep_91 : decode cX9_behindStep 91 = .ok (.iload_n 1, 1) := by decide +kernel
theorem dX9_behindStep_92 : decode cX9_behindStep 92 = .ok (.iconst 4, 1) := by decide +kernel
theorem dX9_behindStep_93 : decode cX9_behindStep 93 = .ok (.iadd, 1) := by decide +kernel
theorem dX9_behindStep_94 : decode cX9_behindStep 94 = .ok (.invokevirtual 358, 3) := by decide +kernel
theorem dX9_behindStep_97 : decode cX9_behindStep 97 = .ok (.ifCond .eq 9, 3) := by decide +kernel
theorem dX9_behindStep_100 : decode cX9_behindStep 100 = .ok (.iload_n 1, 1) := by decide +kernel
theorem dX9_behindStep_101 : decode cX9_behindStep 101 = .ok (.iconst 5, 1) := by decide +kernel
theorem dX9_behindStep_102 : decode cX9_behindStep 102 = .ok (.iadd, 1) := by decide +kernel
theorem dX9_behindStep_103 : decode cX9_behindStep 103 = .ok (.goto 6, 3) := by decide +kernel
theorem dX9_behindStep_106 : decode cX9_behindStep 106 = .ok (.iload_n 1, 1) := by decide +kernel
theorem dX9_behindStep_107 : decode cX9_behindStep 107 = .ok (.iconst 4, 1) := by decide +kernel
theorem dX9_behindStep_108 : decode cX9_behindStep 108 = .ok (.iadd, 1) := by decide +kernel
theorem dX9_behindStep_109 : decode cX9_behindStep 109 = .ok (.ireturn, 1) := by decide +kernel
def b_X9_behindStep_0 (h : q_H) (v0 : Nat) (v1 : Int32) : Option (q_H × Int32) :=
  Option.bind (q_gR 8 5 h v0) (fun x1 => Option.bind (f_X6_at h x1 v1) (fun q2 => if q2.2 = (47) then Option.bind (q_gR 8 5 q2.1 v0) (fun x3 => Option.bind (f_X6_isDigit q2.1 x3 (v1 + (1))) (fun q4 => if q4.2 = 0 then some (q4.1, ((-2) - v1)) else Option.bind (q_gR 8 5 q4.1 v0) (fun x5 => Option.bind (f_X6_at q4.1 x5 (v1 + (2))) (fun q6 => if q6.2 = (46) then Option.bind (q_gR 8 5 q6.1 v0) (fun x7 => Option.bind (f_X6_isDigit q6.1 x7 (v1 + (3))) (fun q8 => if q8.2 = 0 then some (q8.1, ((-4) - v1)) else Option.bind (q_gR 8 5 q8.1 v0) (fun x9 => Option.bind (f_X6_at q8.1 x9 (v1 + (3))) (fun q10 => if q10.2 = (48) then some (q10.1, ((-4) - v1)) else Option.bind (q_gR 8 5 q10.1 v0) (fun x11 => Option.bind (f_X6_isDigit q10.1 x11 (v1 + (4))) (fun q12 => if q12.2 = 0 then some (q12.1, (v1 + (4))) else some (q12.1, (v1 + (5))))))))) else some (q6.1, (v1 + (2))))))) else some (q2.1, ((-1) - v1))))
def f_X9_behindStep (h : q_H) (a0 : Nat) (a1 : Int32) : Option (q_H × Int32) := q_chk 8 h a0 (b_X9_behindStep_0 h a0 a1)
set_option maxRecDepth 20000 in
set_option maxHeartbeats 1000000 in
theorem jb_X9_behindStep_0 {G : q_G} {l : Launch} {k0 z0 : Nat} (h : q_H) (v0 : Nat) (v1 : Int32) : q_J G l (RX9, cX9_behindStep, 2, 2, 42, (some .int), "behindStep", []) k0 z0 (q_Z G k0 z0 q_i) 0 [(0, .ref v0), (1, .int v1)] [] h (b_X9_behindStep_0 h v0 v1) := by
  unfold b_X9_behindStep_0
  refine j_aload_n (pc := 0) (p := 0) rfl rfl dX9_behindStep_0 ?_
  refine j_getR (pc := 1) FI_X9 (k := 5) (by decide) fl_X9_37 dX9_behindStep_1 (fun x1 _ => ?_)
  refine j_iload_n (pc := 4) (p := 1) rfl rfl dX9_behindStep_4 ?_
  refine j_cVi (pc := 5) Y_X6_at (ci := 5) (b := x1) rfl rfl ml_X9_186 im_X6_at se_X6_at ⟨Nat.le_of_ble_eq_true rfl, Nat.le_of_ble_eq_true rfl⟩ dX9_behindStep_5 (As := [.int v1]) (rest := []) rfl rfl (Nat.le_of_ble_eq_true rfl) (fun x hq9 => c_X6_at _ _ _ _ hq9) (fun q2 _ => ?_)
  refine j_bipush (pc := 8) kb_47 dX9_behindStep_8 ?_
  refine j_ic_eq (pc := 10) (tgt := 17) dX9_behindStep_10 (by decide) (fun _ => ?_) (fun _ => ?_)
  · refine j_aload_n (pc := 17) (p := 0) rfl rfl dX9_behindStep_17 ?_
    refine j_getR (pc := 18) FI_X9 (k := 5) (by decide) fl_X9_37 dX9_behindStep_18 (fun x3 _ => ?_)
    refine j_iload_n (pc := 21) (p := 1) rfl rfl dX9_behindStep_21 ?_
    refine j_iconst (pc := 22) ki_1 dX9_behindStep_22 ?_
    refine j_iadd (pc := 23) dX9_behindStep_23 ?_
    refine j_cVi (pc := 24) Y_X6_isDigit (ci := 5) (b := x3) rfl rfl ml_X9_358 im_X6_isDigit se_X6_isDigit ⟨Nat.le_of_ble_eq_true rfl, Nat.le_of_ble_eq_true rfl⟩ dX9_behindStep_24 (As := [.int (v1 + (1))]) (rest := []) rfl rfl (Nat.le_of_ble_eq_true rfl) (fun x hq9 => c_X6_isDigit _ _ _ _ hq9) (fun q4 _ => ?_)
    refine j_if_ne (pc := 27) (tgt := 35) dX9_behindStep_27 (by decide) (fun _ => ?_) (fun _ => ?_)
    · refine j_bipush (pc := 30) kb_m2 dX9_behindStep_30 ?_
      refine j_iload_n (pc := 32) (p := 1) rfl rfl dX9_behindStep_32 ?_
      refine j_isub (pc := 33) dX9_behindStep_33 ?_
      exact j_iret (pc := 34) rfl dX9_behindStep_34
    refine j_aload_n (pc := 35) (p := 0) rfl rfl dX9_behindStep_35 ?_
    refine j_getR (pc := 36) FI_X9 (k := 5) (by decide) fl_X9_37 dX9_behindStep_36 (fun x5 _ => ?_)
    refine j_iload_n (pc := 39) (p := 1) rfl rfl dX9_behindStep_39 ?_
    refine j_iconst (pc := 40) ki_2 dX9_behindStep_40 ?_
    refine j_iadd (pc := 41) dX9_behindStep_41 ?_
    refine j_cVi (pc := 42) Y_X6_at (ci := 5) (b := x5) rfl rfl ml_X9_186 im_X6_at se_X6_at ⟨Nat.le_of_ble_eq_true rfl, Nat.le_of_ble_eq_true rfl⟩ dX9_behindStep_42 (As := [.int (v1 + (2))]) (rest := []) rfl rfl (Nat.le_of_ble_eq_true rfl) (fun x hq9 => c_X6_at _ _ _ _ hq9) (fun q6 _ => ?_)
    refine j_bipush (pc := 45) kb_46 dX9_behindStep_45 ?_
    refine j_ic_eq (pc := 47) (tgt := 54) dX9_behindStep_47 (by decide) (fun _ => ?_) (fun _ => ?_)
    · refine j_aload_n (pc := 54) (p := 0) rfl rfl dX9_behindStep_54 ?_
      refine j_getR (pc := 55) FI_X9 (k := 5) (by decide) fl_X9_37 dX9_behindStep_55 (fun x7 _ => ?_)
      refine j_iload_n (pc := 58) (p := 1) rfl rfl dX9_behindStep_58 ?_
      refine j_iconst (pc := 59) ki_3 dX9_behindStep_59 ?_
      refine j_iadd (pc := 60) dX9_behindStep_60 ?_
      refine j_cVi (pc := 61) Y_X6_isDigit (ci := 5) (b := x7) rfl rfl ml_X9_358 im_X6_isDigit se_X6_isDigit ⟨Nat.le_of_ble_eq_true rfl, Nat.le_of_ble_eq_true rfl⟩ dX9_behindStep_61 (As := [.int (v1 + (3))]) (rest := []) rfl rfl (Nat.le_of_ble_eq_true rfl) (fun x hq9 => c_X6_isDigit _ _ _ _ hq9) (fun q8 _ => ?_)
      refine j_if_eq (pc := 64) (tgt := 82) dX9_behindStep_64 (by decide) (fun _ => ?_) (fun _ => ?_)
      · refine j_bipush (pc := 82) kb_m4 dX9_behindStep_82 ?_
        refine j_iload_n (pc := 84) (p := 1) rfl rfl dX9_behindStep_84 ?_
        refine j_isub (pc := 85) dX9_behindStep_85 ?_
        exact j_iret (pc := 86) rfl dX9_behindStep_86
      refine j_aload_n (pc := 67) (p := 0) rfl rfl dX9_behindStep_67 ?_
      refine j_getR (pc := 68) FI_X9 (k := 5) (by decide) fl_X9_37 dX9_behindStep_68 (fun x9 _ => ?_)
      refine j_iload_n (pc := 71) (p := 1) rfl rfl dX9_behindStep_71 ?_
      refine j_iconst (pc := 72) ki_3 dX9_behindStep_72 ?_
      refine j_iadd (pc := 73) dX9_behindStep_73 ?_
      refine j_cVi (pc := 74) Y_X6_at (ci := 5) (b := x9) rfl rfl ml_X9_186 im_X6_at se_X6_at ⟨Nat.le_of_ble_eq_true rfl, Nat.le_of_ble_eq_true rfl⟩ dX9_behindStep_74 (As := [.int (v1 + (3))]) (rest := []) rfl rfl (Nat.le_of_ble_eq_true rfl) (fun x hq9 => c_X6_at _ _ _ _ hq9) (fun q10 _ => ?_)
      refine j_bipush (pc := 77) kb_48 dX9_behindStep_77 ?_
      refine j_ic_ne (pc := 79) (tgt := 87) dX9_behindStep_79 (by decide) (fun _ => ?_) (fun _ => ?_)
      · refine j_bipush (pc := 82) kb_m4 dX9_behindStep_82 ?_
        refine j_iload_n (pc := 84) (p := 1) rfl rfl dX9_behindStep_84 ?_
        refine j_isub (pc := 85) dX9_behindStep_85 ?_
        exact j_iret (pc := 86) rfl dX9_behindStep_86
      refine j_aload_n (pc := 87) (p := 0) rfl rfl dX9_behindStep_87 ?_
      refine j_getR (pc := 88) FI_X9 (k := 5) (by decide) fl_X9_37 dX9_behindStep_88 (fun x11 _ => ?_)
      refine j_iload_n (pc := 91) (p := 1) rfl rfl dX9_behindStep_91 ?_
      refine j_iconst (pc := 92) ki_4 dX9_behindStep_92 ?_
      refine j_iadd (pc := 93) dX9_behindStep_93 ?_
      refine j_cVi (pc := 94) Y_X6_isDigit (ci := 5) (b := x11) rfl rfl ml_X9_358 im_X6_isDigit se_X6_isDigit ⟨Nat.le_of_ble_eq_true rfl, Nat.le_of_ble_eq_true rfl⟩ dX9_behindStep_94 (As := [.int (v1 + (4))]) (rest := []) rfl rfl (Nat.le_of_ble_eq_true rfl) (fun x hq9 => c_X6_isDigit _ _ _ _ hq9) (fun q12 _ => ?_)
      refine j_if_eq (pc := 97) (tgt := 106) dX9_behindStep_97 (by decide) (fun _ => ?_) (fun _ => ?_)
      · refine j_iload_n (pc := 106) (p := 1) rfl rfl dX9_behindStep_106 ?_
        refine j_iconst (pc := 107) ki_4 dX9_behindStep_107 ?_
        refine j_iadd (pc := 108) dX9_behindStep_108 ?_
        exact j_iret (pc := 109) rfl dX9_behindStep_109
      refine j_iload_n (pc := 100) (p := 1) rfl rfl dX9_behindStep_100 ?_
      refine j_iconst (pc := 101) ki_5 dX9_behindStep_101 ?_
      refine j_iadd (pc := 102) dX9_behindStep_102 ?_
      refine j_goto (pc := 103) (tgt := 109) dX9_behindStep_103 (by decide) ?_
      exact j_iret (pc := 109) rfl dX9_behindStep_109
    refine j_iload_n (pc := 50) (p := 1) rfl rfl dX9_behindStep_50 ?_
    refine j_iconst (pc := 51) ki_2 dX9_behindStep_51 ?_
    refine j_iadd (pc := 52) dX9_behindStep_52 ?_
    exact j_iret (pc := 53) rfl dX9_behindStep_53
  refine j_iconst (pc := 13) ki_m1 dX9_behindStep_13 ?_
  refine j_iload_n (pc := 14) (p := 1) rfl rfl dX9_behindStep_14 ?_
  refine j_isub (pc := 15) dX9_behindStep_15 ?_
  exact j_iret (pc := 16) rfl dX9_behindStep_16
set_option maxRecDepth 20000 in
set_option maxHeartbeats 1000000 in
theorem c_X9_behindStep {G : q_G} {l : Launch} : ∀ (h : q_H) (a0 : Nat) (a1 : Int32) (q : q_H × Int32), f_X9_behindStep h a0 a1 = some q → (∃ fs, h.1 a0 = .inr (8, fs)) ∧ q_CT G l yX9_behindStep cX9_behindStep 2 (some .int) 2 42 [.ref a0, .int a1] h q.1 (q_i q.2) := by
  intro h a0 a1 q e
  obtain ⟨e1, e2⟩ := q_chk_ok e
  exact ⟨e1, q_ofJ Y_X9_behindStep (Nat.le_of_ble_eq_true rfl) (jb_X9_behindStep_0 h a0 a1) q e2⟩
/-! FarFolders.refusalOf(II)I -/
theorem dX9_refusalOf_0 : decode cX9_refusalOf 0 = .ok (.iload_n 1, 1) := by decide +kernel
theorem dX9_refusalOf_1 : decode cX9_refusalOf 1 = .ok (.invokestatic 73, 3) := by decide +kernel
theorem dX9_refusalOf_4 : decode cX9_refusalOf 4 = .ok (.ifCond .eq 10, 3) := by decide +kernel
theorem dX9_refusalOf_7 : decode cX9_refusalOf 7 = .ok (.iload_n 2, 1) := by decide +kernel
theorem dX9_refusalOf_8 : decode cX9_refusalOf 8 = .ok (.invokestatic 232, 3) := by decide +kernel
theorem dX9_refusalOf_11 : decode cX9_refusalOf 11 = .ok (.ifCond .ne 5, 3) := by decide +kernel
theorem dX9_refusalOf_14 : decode cX9_refusalOf 14 = .ok (.iconst (-1), 1) := by decide +kernel
theorem dX9_refusalOf_15 : decode cX9_refusalOf 15 = .ok (.ireturn, 1) := by decide +kernel
theorem dX9_refusalOf_16 : decode cX9_refusalOf 16 = .ok (.aload_n 0, 1) := by decide +kernel
theorem dX9_refusalOf_17 : decode cX9_refusalOf 17 = .ok (.getfield 12, 3) := by decide +kernel
theorem dX9_refusalOf_20 : decode cX9_refusalOf 20 = .ok (.getfield 82, 3) := by decide +kernel
theorem dX9_refusalOf_23 : decode cX9_refusalOf 23 = .ok (.iload_n 1, 1) := by decide +kernel
theorem dX9_refusalOf_24 : decode cX9_refusalOf 24 = .ok (.aaload, 1) := by decide +kernel
theorem dX9_refusalOf_25 : decode cX9_refusalOf 25 = .ok (.getfield 86, 3) := by decide +kernel
theorem dX9_refusalOf_28 : decode cX9_refusalOf 28 = .ok (.iload_n 2, 1) := by decide +kernel
theorem dX9_refusalOf_29 : decode cX9_refusalOf 29 = .ok (.invokevirtual 91, 3) := by decide +kernel
theorem dX9_refusalOf_32 : decode cX9_refusalOf 32 = .ok (.ifCond .eq 7, 3) := by decide +kernel
theorem dX9_refusalOf_35 : decode cX9_refusalOf 35 = .ok (.iconst 0, 1) := by decide +kernel
theorem dX9_refusalOf_36 : decode cX9_refusalOf 36 = .ok (.goto 5, 3) := by decide +kernel
theorem dX9_refusalOf_39 : decode cX9_refusalOf 39 = .ok (.bipush (-2), 2) := by decide +kernel
theorem dX9_refusalOf_41 : decode cX9_refusalOf 41 = .ok (.ireturn, 1) := by decide +kernel
def b_X9_refusalOf_0 (h : q_H) (v0 : Nat) (v1 : Int32) (v2 : Int32) : Option (q_H × Int32) :=
  Option.bind (f_X9_isCopy h v1) (fun q1 => if q1.2 = 0 then some (q1.1, (-1)) else Option.bind (f_X9_isNode q1.1 v2) (fun q2 => if q2.2 = 0 then some (q2.1, (-1)) else Option.bind (q_gR 8 0 q2.1 v0) (fun x3 => Option.bind (q_gR 7 0 q2.1 x3) (fun x4 => Option.bind (q_lR 4 q2.1 x4 v1) (fun x5 => Option.bind (q_gR 0 5 q2.1 x5) (fun x6 => Option.bind (f_X7_isThere q2.1 x6 v2) (fun q7 => if q7.2 = 0 then some (q7.1, (-2)) else some (q7.1, (0)))))))))
def f_X9_refusalOf (h : q_H) (a0 : Nat) (a1 : Int32) (a2 : Int32) : Option (q_H × Int32) := q_chk 8 h a0 (b_X9_refusalOf_0 h a0 a1 a2)
set_option maxRecDepth 20000 in
set_option maxHeartbeats 1000000 in
theorem jb_X9_refusalOf_0 {G : q_G} {l : Launch} {k0 z0 : Nat} (h : q_H) (v0 : Nat) (v1 : Int32) (v2 : Int32) : q_J G l (RX9, cX9_refusalOf, 3, 1, 21, (some .int), "refusalOf", []) k0 z0 (q_Z G k0 z0 q_i) 0 [(0, .ref v0), (1, .int v1), (2, .int v2)] [] h (b_X9_refusalOf_0 h v0 v1 v2) := by
  unfold b_X9_refusalOf_0
  refine j_iload_n (pc := 0) (p := 1) rfl rfl dX9_refusalOf_0 ?_
  refine j_cSi (pc := 1) Y_X9_isCopy ml_X9_73 sm_X9_isCopy ⟨Nat.le_of_ble_eq_true rfl, Nat.le_of_ble_eq_true rfl⟩ dX9_refusalOf_1 (As := [.int v1]) (rest := []) rfl rfl (Nat.le_of_ble_eq_true rfl) (fun x hq9 => c_X9_isCopy _ _ _ hq9) (fun q1 _ => ?_)
  refine j_if_eq (pc := 4) (tgt := 14) dX9_refusalOf_4 (by decide) (fun _ => ?_) (fun _ => ?_)
  · refine j_iconst (pc := 14) ki_m1 dX9_refusalOf_14 ?_
    exact j_iret (pc := 15) rfl dX9_refusalOf_15
  refine j_iload_n (pc := 7) (p := 2) rfl rfl dX9_refusalOf_7 ?_
  refine j_cSi (pc := 8) Y_X9_isNode ml_X9_232 sm_X9_isNode ⟨Nat.le_of_ble_eq_true rfl, Nat.le_of_ble_eq_true rfl⟩ dX9_refusalOf_8 (As := [.int v2]) (rest := []) rfl rfl (Nat.le_of_ble_eq_true rfl) (fun x hq9 => c_X9_isNode _ _ _ hq9) (fun q2 _ => ?_)
  refine j_if_ne (pc := 11) (tgt := 16) dX9_refusalOf_11 (by decide) (fun _ => ?_) (fun _ => ?_)
  · refine j_iconst (pc := 14) ki_m1 dX9_refusalOf_14 ?_
    exact j_iret (pc := 15) rfl dX9_refusalOf_15
  refine j_aload_n (pc := 16) (p := 0) rfl rfl dX9_refusalOf_16 ?_
  refine j_getR (pc := 17) FI_X9 (k := 0) (by decide) fl_X9_12 dX9_refusalOf_17 (fun x3 _ => ?_)
  refine j_getR (pc := 20) FI_X8 (k := 0) (by decide) fl_X9_82 dX9_refusalOf_20 (fun x4 _ => ?_)
  refine j_iload_n (pc := 23) (p := 1) rfl rfl dX9_refusalOf_23 ?_
  refine j_aald (pc := 24) (t := 4) rfl dX9_refusalOf_24 (fun x5 _ => ?_)
  refine j_getR (pc := 25) FI_X0 (k := 5) (by decide) fl_X9_86 dX9_refusalOf_25 (fun x6 _ => ?_)
  refine j_iload_n (pc := 28) (p := 2) rfl rfl dX9_refusalOf_28 ?_
  refine j_cVi (pc := 29) Y_X7_isThere (ci := 6) (b := x6) rfl rfl ml_X9_91 im_X7_isThere se_X7_isThere ⟨Nat.le_of_ble_eq_true rfl, Nat.le_of_ble_eq_true rfl⟩ dX9_refusalOf_29 (As := [.int v2]) (rest := []) rfl rfl (Nat.le_of_ble_eq_true rfl) (fun x hq9 => c_X7_isThere _ _ _ _ hq9) (fun q7 _ => ?_)
  refine j_if_eq (pc := 32) (tgt := 39) dX9_refusalOf_32 (by decide) (fun _ => ?_) (fun _ => ?_)
  · refine j_bipush (pc := 39) kb_m2 dX9_refusalOf_39 ?_
    exact j_iret (pc := 41) rfl dX9_refusalOf_41
  refine j_iconst (pc := 35) ki_0 dX9_refusalOf_35 ?_
  refine j_goto (pc := 36) (tgt := 41) dX9_refusalOf_36 (by decide) ?_
  exact j_iret (pc := 41) rfl dX9_refusalOf_41
set_option maxRecDepth 20000 in
set_option maxHeartbeats 1000000 in
theorem c_X9_refusalOf {G : q_G} {l : Launch} : ∀ (h : q_H) (a0 : Nat) (a1 : Int32) (a2 : Int32) (q : q_H × Int32), f_X9_refusalOf h a0 a1 a2 = some q → (∃ fs, h.1 a0 = .inr (8, fs)) ∧ q_CT G l yX9_refusalOf cX9_refusalOf 3 (some .int) 1 21 [.ref a0, .int a1, .int a2] h q.1 (q_i q.2) := by
  intro h a0 a1 a2 q e
  obtain ⟨e1, e2⟩ := q_chk_ok e
  exact ⟨e1, q_ofJ Y_X9_refusalOf (Nat.le_of_ble_eq_true rfl) (jb_X9_refusalOf_0 h a0 a1 a2) q e2⟩
/-! FarFolders.below(II)I -/
theorem dX9_below_0 : decode cX9_below 0 = .ok (.aload_n 0, 1) := by decide +kernel
theorem dX9_below_1 : decode cX9_below 1 = .ok (.iload_n 1, 1) := by decide +kernel
theorem dX9_below_2 : decode cX9_below 2 = .ok (.iload_n 2, 1) := by decide +kernel
theorem dX9_below_3 : decode cX9_below 3 = .ok (.invokevirtual 212, 3) := by decide +kernel
theorem dX9_below_6 : decode cX9_below 6 = .ok (.istore_n 3, 1) := by decide +kernel
theorem dX9_below_7 : decode cX9_below 7 = .ok (.iload_n 3, 1) := by decide +kernel
theorem dX9_below_8 : decode cX9_below 8 = .ok (.ifCond .ge 5, 3) := by decide +kernel
theorem dX9_below_11 : decode cX9_below 11 = .ok (.iload_n 3, 1) := by decide +kernel
theorem dX9_below_12 : decode cX9_below 12 = .ok (.ireturn, 1) := by decide +kernel
theorem dX9_below_13 : decode cX9_below 13 = .ok (.aload_n 0, 1) := by decide +kernel
theorem dX9_below_14 : decode cX9_below 14 = .ok (.getfield 12, 3) := by decide +kernel
theorem dX9_below_17 : decode cX9_below 17 = .ok (.getfield 82, 3) := by decide +kernel
theorem dX9_below_20 : decode cX9_below 20 = .ok (.iload_n 1, 1) := by decide +kernel
theorem dX9_below_21 : decode cX9_below 21 = .ok (.aaload, 1) := by decide +kernel
theorem dX9_below_22 : decode cX9_below 22 = .ok (.getfield 86, 3) := by decide +kernel
theorem dX9_below_25 : decode cX9_below 25 = .ok (.astore 4, 2) := by decide +kernel
theorem dX9_below_27 : decode cX9_below 27 = .ok (.aload_n 0, 1) := by decide +kernel
theorem dX9_below_28 : decode cX9_below 28 = .ok (.getfield 30, 3) := by decide +kernel
theorem dX9_below_31 : decode cX9_below 31 = .ok (.aload 4, 2) := by decide +kernel
theorem dX9_below_33 : decode cX9_below 33 = .ok (.iload_n 2, 1) := by decide +kernel
theorem dX9_below_34 : decode cX9_below 34 = .ok (.invokevirtual 215, 3) := by decide +kernel
theorem dX9_below_37 : decode cX9_below 37 = .ok (.invokestatic 218, 3) := by decide +kernel
theorem dX9_below_40 : decode cX9_below 40 = .ok (.iconst 1, 1) := by decide +kernel
theorem dX9_below_41 : decode cX9_below 41 = .ok (.isub, 1) := by decide +kernel
theorem dX9_below_42 : decode cX9_below 42 = .ok (.i2l, 1) := by decide +kernel
theorem dX9_below_43 : decode cX9_below 43 = .ok (.invokevirtual 141, 3) := by decide +kernel
theorem dX9_below_46 : decode cX9_below 46 = .ok (.aload 4, 2) := by decide +kernel
theorem dX9_below_48 : decode cX9_below 48 = .ok (.iload_n 2, 1) := by decide +kernel
theorem dX9_below_49 : decode cX9_below 49 = .ok (.invokevirtual 223, 3) := by decide +kernel
theorem dX9_below_52 : decode cX9_below 52 = .ok (.ireturn, 1) := by decide +kernel
def b_X9_below_0 (h : q_H) (v0 : Nat) (v1 : Int32) (v2 : Int32) : Option (q_H × Int32) :=
  Option.bind (f_X9_refusalOf h v0 v1 v2) (fun q1 => if 0 ≤ q1.2 then Option.bind (q_gR 8 0 q1.1 v0) (fun x2 => Option.bind (q_gR 7 0 q1.1 x2) (fun x3 => Option.bind (q_lR 4 q1.1 x3 v1) (fun x4 => Option.bind (q_gR 0 5 q1.1 x4) (fun x5 => Option.bind (q_gR 8 4 q1.1 v0) (fun x6 => Option.bind (f_X7_allWithin q1.1 x5 v2) (fun q7 => Option.bind (f_J6_bitCount_0f7a4 q7.1 q7.2) (fun q8 => Option.bind (f_X4_tell q8.1 x6 (Int32.toInt64 (q8.2 - (1)))) (fun q9 => Option.bind (f_X7_childrenOf q9.1 x5 v2) (fun q10 => some (q10.1, q10.2)))))))))) else some (q1.1, q1.2))
def f_X9_below (h : q_H) (a0 : Nat) (a1 : Int32) (a2 : Int32) : Option (q_H × Int32) := q_chk 8 h a0 (b_X9_below_0 h a0 a1 a2)
set_option maxRecDepth 20000 in
set_option maxHeartbeats 1000000 in
theorem jb_X9_below_0 {G : q_G} {l : Launch} {k0 z0 : Nat} (h : q_H) (v0 : Nat) (v1 : Int32) (v2 : Int32) : q_J G l (RX9, cX9_below, 5, 3, 68, (some .int), "below", []) k0 z0 (q_Z G k0 z0 q_i) 0 [(0, .ref v0), (1, .int v1), (2, .int v2)] [] h (b_X9_below_0 h v0 v1 v2) := by
  unfold b_X9_below_0
  refine j_aload_n (pc := 0) (p := 0) rfl rfl dX9_below_0 ?_
  refine j_iload_n (pc := 1) (p := 1) rfl rfl dX9_below_1 ?_
  refine j_iload_n (pc := 2) (p := 2) rfl rfl dX9_below_2 ?_
  refine j_cVi (pc := 3) Y_X9_refusalOf (ci := 8) (b := v0) rfl rfl ml_X9_212 im_X9_refusalOf se_X9_refusalOf ⟨Nat.le_of_ble_eq_true rfl, Nat.le_of_ble_eq_true rfl⟩ dX9_below_3 (As := [.int v1, .int v2]) (rest := []) rfl rfl (Nat.le_of_ble_eq_true rfl) (fun x hq9 => c_X9_refusalOf _ _ _ _ _ hq9) (fun q1 _ => ?_)
  refine j_istore_n (pc := 6) (lv' := [(3, .int q1.2), (0, .ref v0), (1, .int v1), (2, .int v2)]) rfl (by decide) rfl dX9_below_6 ?_
  refine j_iload_n (pc := 7) (p := 0) rfl rfl dX9_below_7 ?_
  refine j_if_ge (pc := 8) (tgt := 13) dX9_below_8 (by decide) (fun _ => ?_) (fun _ => ?_)
  · refine j_aload_n (pc := 13) (p := 1) rfl rfl dX9_below_13 ?_
    refine j_getR (pc := 14) FI_X9 (k := 0) (by decide) fl_X9_12 dX9_below_14 (fun x2 _ => ?_)
    refine j_getR (pc := 17) FI_X8 (k := 0) (by decide) fl_X9_82 dX9_below_17 (fun x3 _ => ?_)
    refine j_iload_n (pc := 20) (p := 2) rfl rfl dX9_below_20 ?_
    refine j_aald (pc := 21) (t := 4) rfl dX9_below_21 (fun x4 _ => ?_)
    refine j_getR (pc := 22) FI_X0 (k := 5) (by decide) fl_X9_86 dX9_below_22 (fun x5 _ => ?_)
    refine j_astore (pc := 25) (lv' := [(4, .ref x5), (3, .int q1.2), (0, .ref v0), (1, .int v1), (2, .int v2)]) (by decide) rfl dX9_below_25 ?_
    refine j_aload_n (pc := 27) (p := 2) rfl rfl dX9_below_27 ?_
    refine j_getR (pc := 28) FI_X9 (k := 4) (by decide) fl_X9_30 dX9_below_28 (fun x6 _ => ?_)
    refine j_aload (pc := 31) (p := 0) rfl dX9_below_31 ?_
    refine j_iload_n (pc := 33) (p := 4) rfl rfl dX9_below_33 ?_
    refine j_cVi (pc := 34) Y_X7_allWithin (ci := 6) (b := x5) rfl rfl ml_X9_215 im_X7_allWithin se_X7_allWithin ⟨Nat.le_of_ble_eq_true rfl, Nat.le_of_ble_eq_true rfl⟩ dX9_below_34 (As := [.int v2]) (rest := [.ref x6]) rfl rfl (Nat.le_of_ble_eq_true rfl) (fun x hq9 => c_X7_allWithin _ _ _ _ hq9) (fun q7 _ => ?_)
    refine j_cSi (pc := 37) Y_J6_bitCount_0f7a4 ml_X9_218 sm_J6_bitCount_0f7a4 ⟨Nat.le_of_ble_eq_true rfl, Nat.le_of_ble_eq_true rfl⟩ dX9_below_37 (As := [.int q7.2]) (rest := [.ref x6]) rfl rfl (Nat.le_of_ble_eq_true rfl) (fun x hq9 => c_J6_bitCount_0f7a4 _ _ _ hq9) (fun q8 _ => ?_)
    refine j_iconst (pc := 40) ki_1 dX9_below_40 ?_
    refine j_isub (pc := 41) dX9_below_41 ?_
    refine j_i2l (pc := 42) dX9_below_42 ?_
    refine j_cVu (pc := 43) Y_X4_tell (ci := 3) (b := x6) rfl rfl ml_X9_141 im_X4_tell se_X4_tell ⟨Nat.le_of_ble_eq_true rfl, Nat.le_of_ble_eq_true rfl⟩ dX9_below_43 (As := [.long (Int32.toInt64 (q8.2 - (1)))]) (rest := []) rfl rfl (Nat.le_of_ble_eq_true rfl) (fun x hq9 => c_X4_tell _ _ _ _ hq9) (fun q9 _ => ?_)
    refine j_aload (pc := 46) (p := 0) rfl dX9_below_46 ?_
    refine j_iload_n (pc := 48) (p := 4) rfl rfl dX9_below_48 ?_
    refine j_cVi (pc := 49) Y_X7_childrenOf (ci := 6) (b := x5) rfl rfl ml_X9_223 im_X7_childrenOf se_X7_childrenOf ⟨Nat.le_of_ble_eq_true rfl, Nat.le_of_ble_eq_true rfl⟩ dX9_below_49 (As := [.int v2]) (rest := []) rfl rfl (Nat.le_of_ble_eq_true rfl) (fun x hq9 => c_X7_childrenOf _ _ _ _ hq9) (fun q10 _ => ?_)
    exact j_iret (pc := 52) rfl dX9_below_52
  refine j_iload_n (pc := 11) (p := 0) rfl rfl dX9_below_11 ?_
  exact j_iret (pc := 12) rfl dX9_below_12
set_option maxRecDepth 20000 in
set_option maxHeartbeats 1000000 in
theorem c_X9_below {G : q_G} {l : Launch} : ∀ (h : q_H) (a0 : Nat) (a1 : Int32) (a2 : Int32) (q : q_H × Int32), f_X9_below h a0 a1 a2 = some q → (∃ fs, h.1 a0 = .inr (8, fs)) ∧ q_CT G l yX9_below cX9_below 5 (some .int) 3 68 [.ref a0, .int a1, .int a2] h q.1 (q_i q.2) := by
  intro h a0 a1 a2 q e
  obtain ⟨e1, e2⟩ := q_chk_ok e
  exact ⟨e1, q_ofJ Y_X9_below (Nat.le_of_ble_eq_true rfl) (jb_X9_below_0 h a0 a1 a2) q e2⟩
/-! FarFolders.nodeOfSign(I)I -/
theorem dX9_nodeOfSign_0 : decode cX9_nodeOfSign 0 = .ok (.iload_n 0, 1) := by decide +kernel
theorem dX9_nodeOfSign_1 : decode cX9_nodeOfSign 1 = .ok (.bipush 47, 2) := by decide +kernel
theorem dX9_nodeOfSign_3 : decode cX9_nodeOfSign 3 = .ok (.if_icmp .ne 5, 3) := by decide +kernel
theorem dX9_nodeOfSign_6 : decode cX9_nodeOfSign 6 = .ok (.iconst 0, 1) := by decide +kernel
theorem dX9_nodeOfSign_7 : decode cX9_nodeOfSign 7 = .ok (.ireturn, 1) := by decide +kernel
theorem dX9_nodeOfSign_8 : decode cX9_nodeOfSign 8 = .ok (.iload_n 0, 1) := by decide +kernel
theorem dX9_nodeOfSign_9 : decode cX9_nodeOfSign 9 = .ok (.bipush 126, 2) := by decide +kernel
theorem dX9_nodeOfSign_11 : decode cX9_nodeOfSign 11 = .ok (.if_icmp .ne 5, 3) := by decide +kernel
theorem dX9_nodeOfSign_14 : decode cX9_nodeOfSign 14 = .ok (.iconst 1, 1) := by decide +kernel
theorem dX9_nodeOfSign_15 : decode cX9_nodeOfSign 15 = .ok (.ireturn, 1) := by decide +kernel
theorem dX9_nodeOfSign_16 : decode cX9_nodeOfSign 16 = .ok (.iload_n 0, 1) := by decide +kernel
theorem dX9_nodeOfSign_17 : decode cX9_nodeOfSign 17 = .ok (.bipush 97, 2) := by decide +kernel
theorem dX9_nodeOfSign_19 : decode cX9_nodeOfSign 19 = .ok (.if_icmp .lt 18, 3) := by decide +kernel
theorem dX9_nodeOfSign_22 : decode cX9_nodeOfSign 22 = .ok (.iload_n 0, 1) := by decide +kernel
theorem dX9_nodeOfSign_23 : decode cX9_nodeOfSign 23 = .ok (.bipush 108, 2) := by decide +kernel
theorem dX9_nodeOfSign_25 : decode cX9_nodeOfSign 25 = .ok (.if_icmp .gt 12, 3) := by decide +kernel
theorem dX9_nodeOfSign_28 : decode cX9_nodeOfSign 28 = .ok (.iload_n 0, 1) := by decide +kernel
theorem dX9_nodeOfSign_29 : decode cX9_nodeOfSign 29 = .ok (.bipush 97, 2) := by decide +kernel
theorem dX9_nodeOfSign_31 : decode cX9_nodeOfSign 31 = .ok (.isub, 1) := by decide +kernel
theorem dX9_nodeOfSign_32 : decode cX9_nodeOfSign 32 = .ok (.iconst 2, 1) := by decide +kernel
theorem dX9_nodeOfSign_33 : decode cX9_nodeOfSign 33 = .ok (.iadd, 1) := by decide +kernel
theorem dX9_nodeOfSign_34 : decode cX9_nodeOfSign 34 = .ok (.goto 4, 3) := by decide +kernel
theorem dX9_nodeOfSign_37 : decode cX9_nodeOfSign 37 = .ok (.iconst (-1), 1) := by decide +kernel
theorem dX9_nodeOfSign_38 : decode cX9_nodeOfSign 38 = .ok (.ireturn, 1) := by decide +kernel
def b_X9_nodeOfSign_0 (h : q_H) (v0 : Int32) : Option (q_H × Int32) :=
  if v0 = (47) then some (h, (0)) else if v0 = (126) then some (h, (1)) else if v0 < (97) then some (h, (-1)) else if (108) < v0 then some (h, (-1)) else some (h, ((v0 - (97)) + (2)))
def f_X9_nodeOfSign (h : q_H) (a0 : Int32) : Option (q_H × Int32) := b_X9_nodeOfSign_0 h a0
set_option maxRecDepth 20000 in
set_option maxHeartbeats 1000000 in
theorem jb_X9_nodeOfSign_0 {G : q_G} {l : Launch} {k0 z0 : Nat} (h : q_H) (v0 : Int32) : q_J G l (RX9, cX9_nodeOfSign, 1, 0, 0, (some .int), "nodeOfSign", []) k0 z0 (q_Z G k0 z0 q_i) 0 [(0, .int v0)] [] h (b_X9_nodeOfSign_0 h v0) := by
  unfold b_X9_nodeOfSign_0
  refine j_iload_n (pc := 0) (p := 0) rfl rfl dX9_nodeOfSign_0 ?_
  refine j_bipush (pc := 1) kb_47 dX9_nodeOfSign_1 ?_
  refine j_ic_ne (pc := 3) (tgt := 8) dX9_nodeOfSign_3 (by decide) (fun _ => ?_) (fun _ => ?_)
  · refine j_iconst (pc := 6) ki_0 dX9_nodeOfSign_6 ?_
    exact j_iret (pc := 7) rfl dX9_nodeOfSign_7
  refine j_iload_n (pc := 8) (p := 0) rfl rfl dX9_nodeOfSign_8 ?_
  refine j_bipush (pc := 9) kb_126 dX9_nodeOfSign_9 ?_
  refine j_ic_ne (pc := 11) (tgt := 16) dX9_nodeOfSign_11 (by decide) (fun _ => ?_) (fun _ => ?_)
  · refine j_iconst (pc := 14) ki_1 dX9_nodeOfSign_14 ?_
    exact j_iret (pc := 15) rfl dX9_nodeOfSign_15
  refine j_iload_n (pc := 16) (p := 0) rfl rfl dX9_nodeOfSign_16 ?_
  refine j_bipush (pc := 17) kb_97 dX9_nodeOfSign_17 ?_
  refine j_ic_lt (pc := 19) (tgt := 37) dX9_nodeOfSign_19 (by decide) (fun _ => ?_) (fun _ => ?_)
  · refine j_iconst (pc := 37) ki_m1 dX9_nodeOfSign_37 ?_
    exact j_iret (pc := 38) rfl dX9_nodeOfSign_38
  refine j_iload_n (pc := 22) (p := 0) rfl rfl dX9_nodeOfSign_22 ?_
  refine j_bipush (pc := 23) kb_108 dX9_nodeOfSign_23 ?_
  refine j_ic_gt (pc := 25) (tgt := 37) dX9_nodeOfSign_25 (by decide) (fun _ => ?_) (fun _ => ?_)
  · refine j_iconst (pc := 37) ki_m1 dX9_nodeOfSign_37 ?_
    exact j_iret (pc := 38) rfl dX9_nodeOfSign_38
  refine j_iload_n (pc := 28) (p := 0) rfl rfl dX9_nodeOfSign_28 ?_
  refine j_bipush (pc := 29) kb_97 dX9_nodeOfSign_29 ?_
  refine j_isub (pc := 31) dX9_nodeOfSign_31 ?_
  refine j_iconst (pc := 32) ki_2 dX9_nodeOfSign_32 ?_
  refine j_iadd (pc := 33) dX9_nodeOfSign_33 ?_
  refine j_goto (pc := 34) (tgt := 38) dX9_nodeOfSign_34 (by decide) ?_
  exact j_iret (pc := 38) rfl dX9_nodeOfSign_38
set_option maxRecDepth 20000 in
set_option maxHeartbeats 1000000 in
theorem c_X9_nodeOfSign {G : q_G} {l : Launch} : ∀ (h : q_H) (a0 : Int32) (q : q_H × Int32), f_X9_nodeOfSign h a0 = some q → q_CT G l yX9_nodeOfSign cX9_nodeOfSign 1 (some .int) 0 0 [.int a0] h q.1 (q_i q.2) := by
  intro h a0 q e
  exact q_ofJ Y_X9_nodeOfSign (Nat.le_of_ble_eq_true rfl) (jb_X9_nodeOfSign_0 h a0) q e
/-! FarFolders.canStand(III)Z -/
theorem dX9_canStand_0 : decode cX9_canStand 0 = .ok (.iload_n 0, 1) := by decide +kernel
theorem dX9_canStand_1 : decode cX9_canStand 1 = .ok (.bipush 109, 2) := by decide +kernel
theorem dX9_canStand_3 : decode cX9_canStand 3 = .ok (.if_icmp .ne 8, 3) := by decide +kernel
theorem dX9_canStand_6 : decode cX9_canStand 6 = .ok (.iload_n 1, 1) := by decide +kernel
theorem dX9_canStand_7 : decode cX9_canStand 7 = .ok (.iconst 1, 1) := by decide +kernel
theorem dX9_canStand_8 : decode cX9_canStand 8 = .ok (.if_icmp .ne 21, 3) := by decide +kernel
theorem dX9_canStand_11 : decode cX9_canStand 11 = .ok (.iload_n 2, 1) := by decide +kernel
theorem dX9_canStand_12 : decode cX9_canStand 12 = .ok (.bipush 48, 2) := by decide +kernel
theorem dX9_canStand_14 : decode cX9_canStand 14 = .ok (.if_icmp .lt 13, 3) := by decide +kernel
theorem dX9_canStand_17 : decode cX9_canStand 17 = .ok (.iload_n 2, 1) := by decide +kernel
theorem dX9_canStand_18 : decode cX9_canStand 18 = .ok (.bipush 50, 2) := by decide +kernel
theorem dX9_canStand_20 : decode cX9_canStand 20 = .ok (.if_icmp .gt 7, 3) := by decide +kernel
theorem dX9_canStand_23 : decode cX9_canStand 23 = .ok (.iconst 1, 1) := by decide +kernel
theorem dX9_canStand_24 : decode cX9_canStand 24 = .ok (.goto 4, 3) := by decide +kernel
theorem dX9_canStand_27 : decode cX9_canStand 27 = .ok (.iconst 0, 1) := by decide +kernel
theorem dX9_canStand_28 : decode cX9_canStand 28 = .ok (.ireturn, 1) := by decide +kernel
theorem dX9_canStand_29 : decode cX9_canStand 29 = .ok (.iload_n 1, 1) := by decide +kernel
theorem dX9_canStand_30 : decode cX9_canStand 30 = .ok (.lookupswitch 42 #[(2, 26), (3, 34)], 26) := by decide +kernel
theorem dX9_canStand_56 : decode cX9_canStand 56 = .ok (.iload_n 2, 1) := by decide +kernel
theorem dX9_canStand_57 : decode cX9_canStand 57 = .ok (.invokestatic 349, 3) := by decide +kernel
theorem dX9_canStand_60 : decode cX9_canStand 60 = .ok (.invokestatic 76, 3) := by decide +kernel
theorem dX9_canStand_63 : decode cX9_canStand 63 = .ok (.ireturn, 1) := by decide +kernel
theorem dX9_canStand_64 : decode cX9_canStand 64 = .ok (.iload_n 2, 1) := by decide +kernel
theorem dX9_canStand_65 : decode cX9_canStand 65 = .ok (.invokestatic 349, 3) := by decide +kernel
theorem dX9_canStand_68 : decode cX9_canStand 68 = .ok (.invokestatic 232, 3) := by decide +kernel
theorem dX9_canStand_71 : decode cX9_canStand 71 = .ok (.ireturn, 1) := by decide +kernel
theorem dX9_canStand_72 : decode cX9_canStand 72 = .ok (.iload_n 2, 1) := by decide +kernel
theorem dX9_canStand_73 : decode cX9_canStand 73 = .ok (.bipush 48, 2) := by decide +kernel
theorem dX9_canStand_75 : decode cX9_canStand 75 = .ok (.if_icmp .lt 13, 3) := by decide +kernel
theorem dX9_canStand_78 : decode cX9_canStand 78 = .ok (.iload_n 2, 1) := by decide +kernel
theorem dX9_canStand_79 : decode cX9_canStand 79 = .ok (.bipush 57, 2) := by decide +kernel
theorem dX9_canStand_81 : decode cX9_canStand 81 = .ok (.if_icmp .gt 7, 3) := by decide +kernel
theorem dX9_canStand_84 : decode cX9_canStand 84 = .ok (.iconst 1, 1) := by decide +kernel
theorem dX9_canStand_85 : decode cX9_canStand 85 = .ok (.goto 4, 3) := by decide +kernel
theorem dX9_canStand_88 : decode cX9_canStand 88 = .ok (.iconst 0, 1) := by decide +kernel
theorem dX9_canStand_89 : decode cX9_canStand 89 = .ok (.ireturn, 1) := by decide +kernel
def b_X9_canStand_11 (h : q_H) (v2 : Int32) : Option (q_H × Int32) :=
  if v2 < (48) then some (h, (0)) else if (50) < v2 then some (h, (0)) else some (h, (1))
def b_X9_canStand_0 (h : q_H) (v0 : Int32) (v1 : Int32) (v2 : Int32) : Option (q_H × Int32) :=
  if v0 = (109) then if v1 = (1) then b_X9_canStand_11 h v2 else if v1 = (2) then Option.bind (f_X9_nodeOfSign h v2) (fun q2 => Option.bind (f_X9_isFolder q2.1 q2.2) (fun q3 => some (q3.1, vp_nar .boolean q3.2))) else if v1 = (3) then Option.bind (f_X9_nodeOfSign h v2) (fun q5 => Option.bind (f_X9_isNode q5.1 q5.2) (fun q6 => some (q6.1, vp_nar .boolean q6.2))) else if v2 < (48) then some (h, (0)) else if (57) < v2 then some (h, (0)) else some (h, (1)) else b_X9_canStand_11 h v2
def f_X9_canStand (h : q_H) (a0 : Int32) (a1 : Int32) (a2 : Int32) : Option (q_H × Int32) := b_X9_canStand_0 h a0 a1 a2
set_option maxRecDepth 20000 in
set_option maxHeartbeats 1000000 in
theorem jb_X9_canStand_11 {G : q_G} {l : Launch} {k0 z0 : Nat} (h : q_H) (v2 : Int32) : q_J G l (RX9, cX9_canStand, 3, 1, 20, (some .boolean), "canStand", []) k0 z0 (q_Z G k0 z0 q_i) 11 [(2, .int v2)] [] h (b_X9_canStand_11 h v2) := by
  unfold b_X9_canStand_11
  refine j_iload_n (pc := 11) (p := 0) rfl rfl dX9_canStand_11 ?_
  refine j_bipush (pc := 12) kb_48 dX9_canStand_12 ?_
  refine j_ic_lt (pc := 14) (tgt := 27) dX9_canStand_14 (by decide) (fun _ => ?_) (fun _ => ?_)
  · refine j_iconst (pc := 27) ki_0 dX9_canStand_27 ?_
    exact j_zret (pc := 28) rfl rfl dX9_canStand_28
  refine j_iload_n (pc := 17) (p := 0) rfl rfl dX9_canStand_17 ?_
  refine j_bipush (pc := 18) kb_50 dX9_canStand_18 ?_
  refine j_ic_gt (pc := 20) (tgt := 27) dX9_canStand_20 (by decide) (fun _ => ?_) (fun _ => ?_)
  · refine j_iconst (pc := 27) ki_0 dX9_canStand_27 ?_
    exact j_zret (pc := 28) rfl rfl dX9_canStand_28
  refine j_iconst (pc := 23) ki_1 dX9_canStand_23 ?_
  refine j_goto (pc := 24) (tgt := 28) dX9_canStand_24 (by decide) ?_
  exact j_zret (pc := 28) rfl rfl dX9_canStand_28
set_option maxRecDepth 20000 in
set_option maxHeartbeats 1000000 in
theorem jb_X9_canStand_0 {G : q_G} {l : Launch} {k0 z0 : Nat} (h : q_H) (v0 : Int32) (v1 : Int32) (v2 : Int32) : q_J G l (RX9, cX9_canStand, 3, 1, 20, (some .boolean), "canStand", []) k0 z0 (q_Z G k0 z0 q_i) 0 [(0, .int v0), (1, .int v1), (2, .int v2)] [] h (b_X9_canStand_0 h v0 v1 v2) := by
  unfold b_X9_canStand_0
  refine j_iload_n (pc := 0) (p := 0) rfl rfl dX9_canStand_0 ?_
  refine j_bipush (pc := 1) kb_109 dX9_canStand_1 ?_
  refine j_ic_ne (pc := 3) (tgt := 11) dX9_canStand_3 (by decide) (fun _ => ?_) (fun _ => ?_)
  · refine j_iload_n (pc := 6) (p := 1) rfl rfl dX9_canStand_6 ?_
    refine j_iconst (pc := 7) ki_1 dX9_canStand_7 ?_
    refine j_ic_ne (pc := 8) (tgt := 29) dX9_canStand_8 (by decide) (fun _ => ?_) (fun _ => ?_)
    · refine j_sub [2] (lv' := [(2, .int v2)]) rfl ?_
      exact jb_X9_canStand_11 _ _
    refine j_iload_n (pc := 29) (p := 1) rfl rfl dX9_canStand_29 ?_
    refine j_ite (fun c1 => ?_) (fun c1 => ?_)
    · refine j_lsw (pc := 30) (off := 26) (tgt := 56) dX9_canStand_30 (by decide) (by rw [c1]; decide) (by decide) ?_
      refine j_iload_n (pc := 56) (p := 2) rfl rfl dX9_canStand_56 ?_
      refine j_cSi (pc := 57) Y_X9_nodeOfSign ml_X9_349 sm_X9_nodeOfSign ⟨Nat.le_of_ble_eq_true rfl, Nat.le_of_ble_eq_true rfl⟩ dX9_canStand_57 (As := [.int v2]) (rest := []) rfl rfl (Nat.le_of_ble_eq_true rfl) (fun x hq9 => c_X9_nodeOfSign _ _ _ hq9) (fun q2 _ => ?_)
      refine j_cSi (pc := 60) Y_X9_isFolder ml_X9_76 sm_X9_isFolder ⟨Nat.le_of_ble_eq_true rfl, Nat.le_of_ble_eq_true rfl⟩ dX9_canStand_60 (As := [.int q2.2]) (rest := []) rfl rfl (Nat.le_of_ble_eq_true rfl) (fun x hq9 => c_X9_isFolder _ _ _ hq9) (fun q3 _ => ?_)
      exact j_zret (pc := 63) rfl (q_narz _) dX9_canStand_63
    refine j_ite (fun c4 => ?_) (fun c4 => ?_)
    · refine j_lsw (pc := 30) (off := 34) (tgt := 64) dX9_canStand_30 (by decide) (by rw [c4]; decide) (by decide) ?_
      refine j_iload_n (pc := 64) (p := 2) rfl rfl dX9_canStand_64 ?_
      refine j_cSi (pc := 65) Y_X9_nodeOfSign ml_X9_349 sm_X9_nodeOfSign ⟨Nat.le_of_ble_eq_true rfl, Nat.le_of_ble_eq_true rfl⟩ dX9_canStand_65 (As := [.int v2]) (rest := []) rfl rfl (Nat.le_of_ble_eq_true rfl) (fun x hq9 => c_X9_nodeOfSign _ _ _ hq9) (fun q5 _ => ?_)
      refine j_cSi (pc := 68) Y_X9_isNode ml_X9_232 sm_X9_isNode ⟨Nat.le_of_ble_eq_true rfl, Nat.le_of_ble_eq_true rfl⟩ dX9_canStand_68 (As := [.int q5.2]) (rest := []) rfl rfl (Nat.le_of_ble_eq_true rfl) (fun x hq9 => c_X9_isNode _ _ _ hq9) (fun q6 _ => ?_)
      exact j_zret (pc := 71) rfl (q_narz _) dX9_canStand_71
    refine j_lsw (pc := 30) (off := 42) (tgt := 72) dX9_canStand_30 (by decide) (by show Op.lookupswitch.offset [(2, 26), (3, 34)] _ _ = _; rw [lv_osw c1 (by decide), lv_osw c4 (by decide)]; rfl) (by decide) ?_
    refine j_iload_n (pc := 72) (p := 2) rfl rfl dX9_canStand_72 ?_
    refine j_bipush (pc := 73) kb_48 dX9_canStand_73 ?_
    refine j_ic_lt (pc := 75) (tgt := 88) dX9_canStand_75 (by decide) (fun _ => ?_) (fun _ => ?_)
    · refine j_iconst (pc := 88) ki_0 dX9_canStand_88 ?_
      exact j_zret (pc := 89) rfl rfl dX9_canStand_89
    refine j_iload_n (pc := 78) (p := 2) rfl rfl dX9_canStand_78 ?_
    refine j_bipush (pc := 79) kb_57 dX9_canStand_79 ?_
    refine j_ic_gt (pc := 81) (tgt := 88) dX9_canStand_81 (by decide) (fun _ => ?_) (fun _ => ?_)
    · refine j_iconst (pc := 88) ki_0 dX9_canStand_88 ?_
      exact j_zret (pc := 89) rfl rfl dX9_canStand_89
    refine j_iconst (pc := 84) ki_1 dX9_canStand_84 ?_
    refine j_goto (pc := 85) (tgt := 89) dX9_canStand_85 (by decide) ?_
    exact j_zret (pc := 89) rfl rfl dX9_canStand_89
  refine j_sub [2] (lv' := [(2, .int v2)]) rfl ?_
  exact jb_X9_canStand_11 _ _
set_option maxRecDepth 20000 in
set_option maxHeartbeats 1000000 in
theorem c_X9_canStand {G : q_G} {l : Launch} : ∀ (h : q_H) (a0 : Int32) (a1 : Int32) (a2 : Int32) (q : q_H × Int32), f_X9_canStand h a0 a1 a2 = some q → q_CT G l yX9_canStand cX9_canStand 3 (some .boolean) 1 20 [.int a0, .int a1, .int a2] h q.1 (q_i q.2) := by
  intro h a0 a1 a2 q e
  exact q_ofJ Y_X9_canStand (Nat.le_of_ble_eq_true rfl) (jb_X9_canStand_0 h a0 a1 a2) q e
/-! FarFolders.comes(II)I -/
theorem dX9_comes_0 : decode cX9_comes 0 = .ok (.iload_n 1, 1) := by decide +kernel
theorem dX9_comes_1 : decode cX9_comes 1 = .ok (.iload_n 2, 1) := by decide +kernel
theorem dX9_comes_2 : decode cX9_comes 2 = .ok (.invokestatic 148, 3) := by decide +kernel
theorem dX9_comes_5 : decode cX9_comes 5 = .ok (.ifCond .ne 5, 3) := by decide +kernel
theorem dX9_comes_8 : decode cX9_comes 8 = .ok (.iconst (-1), 1) := by decide +kernel
theorem dX9_comes_9 : decode cX9_comes 9 = .ok (.ireturn, 1) := by decide +kernel
theorem dX9_comes_10 : decode cX9_comes 10 = .ok (.aload_n 0, 1) := by decide +kernel
theorem dX9_comes_11 : decode cX9_comes 11 = .ok (.getfield 44, 3) := by decide +kernel
theorem dX9_comes_14 : decode cX9_comes 14 = .ok (.aload_n 0, 1) := by decide +kernel
theorem dX9_comes_15 : decode cX9_comes 15 = .ok (.getfield 12, 3) := by decide +kernel
theorem dX9_comes_18 : decode cX9_comes 18 = .ok (.getfield 82, 3) := by decide +kernel
theorem dX9_comes_21 : decode cX9_comes 21 = .ok (.iload_n 2, 1) := by decide +kernel
theorem dX9_comes_22 : decode cX9_comes 22 = .ok (.aaload, 1) := by decide +kernel
theorem dX9_comes_23 : decode cX9_comes 23 = .ok (.getfield 86, 3) := by decide +kernel
theorem dX9_comes_26 : decode cX9_comes 26 = .ok (.invokevirtual 152, 3) := by decide +kernel
theorem dX9_comes_29 : decode cX9_comes 29 = .ok (.aload_n 0, 1) := by decide +kernel
theorem dX9_comes_30 : decode cX9_comes 30 = .ok (.getfield 12, 3) := by decide +kernel
theorem dX9_comes_33 : decode cX9_comes 33 = .ok (.iload_n 1, 1) := by decide +kernel
theorem dX9_comes_34 : decode cX9_comes 34 = .ok (.iload_n 2, 1) := by decide +kernel
theorem dX9_comes_35 : decode cX9_comes 35 = .ok (.invokevirtual 156, 3) := by decide +kernel
theorem dX9_comes_38 : decode cX9_comes 38 = .ok (.istore_n 3, 1) := by decide +kernel
theorem dX9_comes_39 : decode cX9_comes 39 = .ok (.iload_n 3, 1) := by decide +kernel
theorem dX9_comes_40 : decode cX9_comes 40 = .ok (.ifCond .lt 30, 3) := by decide +kernel
theorem dX9_comes_43 : decode cX9_comes 43 = .ok (.aload_n 0, 1) := by decide +kernel
theorem dX9_comes_44 : decode cX9_comes 44 = .ok (.getfield 30, 3) := by decide +kernel
theorem dX9_comes_47 : decode cX9_comes 47 = .ok (.aload_n 0, 1) := by decide +kernel
theorem dX9_comes_48 : decode cX9_comes 48 = .ok (.getfield 44, 3) := by decide +kernel
theorem dX9_comes_51 : decode cX9_comes 51 = .ok (.aload_n 0, 1) := by decide +kernel
theorem dX9_comes_52 : decode cX9_comes 52 = .ok (.getfield 12, 3) := by decide +kernel
theorem dX9_comes_55 : decode cX9_comes 55 = .ok (.getfield 82, 3) := by decide +kernel
theorem dX9_comes_58 : decode cX9_comes 58 = .ok (.iload_n 2, 1) := by decide +kernel
theorem dX9_comes_59 : decode cX9_comes 59 = .ok (.aaload, 1) := by decide +kernel
theorem dX9_comes_60 : decode cX9_comes 60 = .ok (.getfield 86, 3) := by decide +kernel
theorem dX9_comes_63 : decode cX9_comes 63 = .ok (.invokevirtual 160, 3) := by decide +kernel
theorem dX9_comes_66 : decode cX9_comes 66 = .ok (.i2l, 1) := by decide +kernel
theorem dX9_comes_67 : decode cX9_comes 67 = .ok (.invokevirtual 141, 3) := by decide +kernel
theorem dX9_comes_70 : decode cX9_comes 70 = .ok (.iload_n 3, 1) := by decide +kernel
theorem dX9_comes_71 : decode cX9_comes 71 = .ok (.ireturn, 1) := by decide +kernel
def b_X9_comes_0 (h : q_H) (v0 : Nat) (v1 : Int32) (v2 : Int32) : Option (q_H × Int32) :=
  Option.bind (f_X9_areTwoCopies h v1 v2) (fun q1 => if q1.2 = 0 then some (q1.1, (-1)) else Option.bind (q_gR 8 6 q1.1 v0) (fun x2 => Option.bind (q_gR 8 0 q1.1 v0) (fun x3 => Option.bind (q_gR 7 0 q1.1 x3) (fun x4 => Option.bind (q_lR 4 q1.1 x4 v2) (fun x5 => Option.bind (q_gR 0 5 q1.1 x5) (fun x6 => Option.bind (f_X7_copyFrom q1.1 x2 x6) (fun q7 => Option.bind (q_gR 8 0 q7.1 v0) (fun x8 => Option.bind (f_X8_deliver q7.1 x8 v1 v2) (fun q9 => if q9.2 < 0 then some (q9.1, q9.2) else Option.bind (q_gR 8 4 q9.1 v0) (fun x10 => Option.bind (q_gR 8 6 q9.1 v0) (fun x11 => Option.bind (q_gR 8 0 q9.1 v0) (fun x12 => Option.bind (q_gR 7 0 q9.1 x12) (fun x13 => Option.bind (q_lR 4 q9.1 x13 v2) (fun x14 => Option.bind (q_gR 0 5 q9.1 x14) (fun x15 => Option.bind (f_X7_otherThan q9.1 x11 x15) (fun q16 => Option.bind (f_X4_tell q16.1 x10 (Int32.toInt64 q16.2)) (fun q17 => some (q17.1, q9.2))))))))))))))))))
def f_X9_comes (h : q_H) (a0 : Nat) (a1 : Int32) (a2 : Int32) : Option (q_H × Int32) := q_chk 8 h a0 (b_X9_comes_0 h a0 a1 a2)
set_option maxRecDepth 20000 in
set_option maxHeartbeats 1000000 in
theorem jb_X9_comes_0 {G : q_G} {l : Launch} {k0 z0 : Nat} (h : q_H) (v0 : Nat) (v1 : Int32) (v2 : Int32) : q_J G l (RX9, cX9_comes, 4, 5, 156, (some .int), "comes", []) k0 z0 (q_Z G k0 z0 q_i) 0 [(0, .ref v0), (1, .int v1), (2, .int v2)] [] h (b_X9_comes_0 h v0 v1 v2) := by
  unfold b_X9_comes_0
  refine j_iload_n (pc := 0) (p := 1) rfl rfl dX9_comes_0 ?_
  refine j_iload_n (pc := 1) (p := 2) rfl rfl dX9_comes_1 ?_
  refine j_cSi (pc := 2) Y_X9_areTwoCopies ml_X9_148 sm_X9_areTwoCopies ⟨Nat.le_of_ble_eq_true rfl, Nat.le_of_ble_eq_true rfl⟩ dX9_comes_2 (As := [.int v1, .int v2]) (rest := []) rfl rfl (Nat.le_of_ble_eq_true rfl) (fun x hq9 => c_X9_areTwoCopies _ _ _ _ hq9) (fun q1 _ => ?_)
  refine j_if_ne (pc := 5) (tgt := 10) dX9_comes_5 (by decide) (fun _ => ?_) (fun _ => ?_)
  · refine j_iconst (pc := 8) ki_m1 dX9_comes_8 ?_
    exact j_iret (pc := 9) rfl dX9_comes_9
  refine j_aload_n (pc := 10) (p := 0) rfl rfl dX9_comes_10 ?_
  refine j_getR (pc := 11) FI_X9 (k := 6) (by decide) fl_X9_44 dX9_comes_11 (fun x2 _ => ?_)
  refine j_aload_n (pc := 14) (p := 0) rfl rfl dX9_comes_14 ?_
  refine j_getR (pc := 15) FI_X9 (k := 0) (by decide) fl_X9_12 dX9_comes_15 (fun x3 _ => ?_)
  refine j_getR (pc := 18) FI_X8 (k := 0) (by decide) fl_X9_82 dX9_comes_18 (fun x4 _ => ?_)
  refine j_iload_n (pc := 21) (p := 2) rfl rfl dX9_comes_21 ?_
  refine j_aald (pc := 22) (t := 4) rfl dX9_comes_22 (fun x5 _ => ?_)
  refine j_getR (pc := 23) FI_X0 (k := 5) (by decide) fl_X9_86 dX9_comes_23 (fun x6 _ => ?_)
  refine j_cVu (pc := 26) Y_X7_copyFrom (ci := 6) (b := x2) rfl rfl ml_X9_152 im_X7_copyFrom se_X7_copyFrom ⟨Nat.le_of_ble_eq_true rfl, Nat.le_of_ble_eq_true rfl⟩ dX9_comes_26 (As := [.ref x6]) (rest := []) rfl rfl (Nat.le_of_ble_eq_true rfl) (fun x hq9 => c_X7_copyFrom _ _ _ _ hq9) (fun q7 _ => ?_)
  refine j_aload_n (pc := 29) (p := 0) rfl rfl dX9_comes_29 ?_
  refine j_getR (pc := 30) FI_X9 (k := 0) (by decide) fl_X9_12 dX9_comes_30 (fun x8 _ => ?_)
  refine j_iload_n (pc := 33) (p := 1) rfl rfl dX9_comes_33 ?_
  refine j_iload_n (pc := 34) (p := 2) rfl rfl dX9_comes_34 ?_
  refine j_cVi (pc := 35) Y_X8_deliver (ci := 7) (b := x8) rfl rfl ml_X9_156 im_X8_deliver se_X8_deliver ⟨Nat.le_of_ble_eq_true rfl, Nat.le_of_ble_eq_true rfl⟩ dX9_comes_35 (As := [.int v1, .int v2]) (rest := []) rfl rfl (Nat.le_of_ble_eq_true rfl) (fun x hq9 => c_X8_deliver _ _ _ _ _ hq9) (fun q9 _ => ?_)
  refine j_istore_n (pc := 38) (lv' := [(3, .int q9.2), (0, .ref v0), (1, .int v1), (2, .int v2)]) rfl (by decide) rfl dX9_comes_38 ?_
  refine j_iload_n (pc := 39) (p := 0) rfl rfl dX9_comes_39 ?_
  refine j_if_lt (pc := 40) (tgt := 70) dX9_comes_40 (by decide) (fun _ => ?_) (fun _ => ?_)
  · refine j_iload_n (pc := 70) (p := 0) rfl rfl dX9_comes_70 ?_
    exact j_iret (pc := 71) rfl dX9_comes_71
  refine j_aload_n (pc := 43) (p := 1) rfl rfl dX9_comes_43 ?_
  refine j_getR (pc := 44) FI_X9 (k := 4) (by decide) fl_X9_30 dX9_comes_44 (fun x10 _ => ?_)
  refine j_aload_n (pc := 47) (p := 1) rfl rfl dX9_comes_47 ?_
  refine j_getR (pc := 48) FI_X9 (k := 6) (by decide) fl_X9_44 dX9_comes_48 (fun x11 _ => ?_)
  refine j_aload_n (pc := 51) (p := 1) rfl rfl dX9_comes_51 ?_
  refine j_getR (pc := 52) FI_X9 (k := 0) (by decide) fl_X9_12 dX9_comes_52 (fun x12 _ => ?_)
  refine j_getR (pc := 55) FI_X8 (k := 0) (by decide) fl_X9_82 dX9_comes_55 (fun x13 _ => ?_)
  refine j_iload_n (pc := 58) (p := 3) rfl rfl dX9_comes_58 ?_
  refine j_aald (pc := 59) (t := 4) rfl dX9_comes_59 (fun x14 _ => ?_)
  refine j_getR (pc := 60) FI_X0 (k := 5) (by decide) fl_X9_86 dX9_comes_60 (fun x15 _ => ?_)
  refine j_cVi (pc := 63) Y_X7_otherThan (ci := 6) (b := x11) rfl rfl ml_X9_160 im_X7_otherThan se_X7_otherThan ⟨Nat.le_of_ble_eq_true rfl, Nat.le_of_ble_eq_true rfl⟩ dX9_comes_63 (As := [.ref x15]) (rest := [.ref x10]) rfl rfl (Nat.le_of_ble_eq_true rfl) (fun x hq9 => c_X7_otherThan _ _ _ _ hq9) (fun q16 _ => ?_)
  refine j_i2l (pc := 66) dX9_comes_66 ?_
  refine j_cVu (pc := 67) Y_X4_tell (ci := 3) (b := x10) rfl rfl ml_X9_141 im_X4_tell se_X4_tell ⟨Nat.le_of_ble_eq_true rfl, Nat.le_of_ble_eq_true rfl⟩ dX9_comes_67 (As := [.long (Int32.toInt64 q16.2)]) (rest := []) rfl rfl (Nat.le_of_ble_eq_true rfl) (fun x hq9 => c_X4_tell _ _ _ _ hq9) (fun q17 _ => ?_)
  refine j_iload_n (pc := 70) (p := 0) rfl rfl dX9_comes_70 ?_
  exact j_iret (pc := 71) rfl dX9_comes_71
set_option maxRecDepth 20000 in
set_option maxHeartbeats 1000000 in
theorem c_X9_comes {G : q_G} {l : Launch} : ∀ (h : q_H) (a0 : Nat) (a1 : Int32) (a2 : Int32) (q : q_H × Int32), f_X9_comes h a0 a1 a2 = some q → (∃ fs, h.1 a0 = .inr (8, fs)) ∧ q_CT G l yX9_comes cX9_comes 4 (some .int) 5 156 [.ref a0, .int a1, .int a2] h q.1 (q_i q.2) := by
  intro h a0 a1 a2 q e
  obtain ⟨e1, e2⟩ := q_chk_ok e
  exact ⟨e1, q_ofJ Y_X9_comes (Nat.le_of_ble_eq_true rfl) (jb_X9_comes_0 h a0 a1 a2) q e2⟩
