/-! FarFoldersModel.in(JJJ)Z -/
theorem dX10_in_0 : decode cX10_in 0 = .ok (.lload_n 0, 1) := by decide +kernel
theorem dX10_in_1 : decode cX10_in 1 = .ok (.lload_n 2, 1) := by decide +kernel
theorem dX10_in_2 : decode cX10_in 2 = .ok (.lcmp, 1) := by decide +kernel
theorem dX10_in_3 : decode cX10_in 3 = .ok (.ifCond .lt 14, 3) := by decide +kernel
theorem dX10_in_6 : decode cX10_in 6 = .ok (.lload_n 0, 1) := by decide +kernel
theorem dX10_in_7 : decode cX10_in 7 = .ok (.lload 4, 2) := by decide +kernel
theorem dX10_in_9 : decode cX10_in 9 = .ok (.lcmp, 1) := by decide +kernel
theorem dX10_in_10 : decode cX10_in 10 = .ok (.ifCond .gt 7, 3) := by decide +kernel
theorem dX10_in_13 : decode cX10_in 13 = .ok (.iconst 1, 1) := by decide +kernel
theorem dX10_in_14 : decode cX10_in 14 = .ok (.goto 4, 3) := by decide +kernel
theorem dX10_in_17 : decode cX10_in 17 = .ok (.iconst 0, 1) := by decide +kernel
theorem dX10_in_18 : decode cX10_in 18 = .ok (.ireturn, 1) := by decide +kernel
def b_X10_in_0 (h : q_H) (v0 : Int64) (v2 : Int64) (v4 : Int64) : Option (q_H × Int32) :=
  if (lg_cmp v0 v2) < 0 then some (h, (0)) else if 0 < (lg_cmp v0 v4) then some (h, (0)) else some (h, (1))
def f_X10_in (h : q_H) (a0 : Int64) (a1 : Int64) (a2 : Int64) : Option (q_H × Int32) := b_X10_in_0 h a0 a1 a2
set_option maxRecDepth 20000 in
set_option maxHeartbeats 1000000 in
theorem jb_X10_in_0 {G : q_G} {l : Launch} {k0 z0 : Nat} (h : q_H) (v0 : Int64) (v2 : Int64) (v4 : Int64) : q_J G l (RX10, cX10_in, 6, 0, 0, (some .boolean), "in", []) k0 z0 (q_Z G k0 z0 q_i) 0 [(0, .long v0), (2, .long v2), (4, .long v4)] [] h (b_X10_in_0 h v0 v2 v4) := by
  unfold b_X10_in_0
  refine j_lload_n (pc := 0) (p := 0) rfl rfl dX10_in_0 ?_
  refine j_lload_n (pc := 1) (p := 1) rfl rfl dX10_in_1 ?_
  refine j_lcmp (pc := 2) dX10_in_2 ?_
  refine j_if_lt (pc := 3) (tgt := 17) dX10_in_3 (by decide) (fun _ => ?_) (fun _ => ?_)
  · refine j_iconst (pc := 17) ki_0 dX10_in_17 ?_
    exact j_zret (pc := 18) rfl rfl dX10_in_18
  refine j_lload_n (pc := 6) (p := 0) rfl rfl dX10_in_6 ?_
  refine j_lload (pc := 7) (p := 2) rfl dX10_in_7 ?_
  refine j_lcmp (pc := 9) dX10_in_9 ?_
  refine j_if_gt (pc := 10) (tgt := 17) dX10_in_10 (by decide) (fun _ => ?_) (fun _ => ?_)
  · refine j_iconst (pc := 17) ki_0 dX10_in_17 ?_
    exact j_zret (pc := 18) rfl rfl dX10_in_18
  refine j_iconst (pc := 13) ki_1 dX10_in_13 ?_
  refine j_goto (pc := 14) (tgt := 18) dX10_in_14 (by decide) ?_
  exact j_zret (pc := 18) rfl rfl dX10_in_18
set_option maxRecDepth 20000 in
set_option maxHeartbeats 1000000 in
theorem c_X10_in {G : q_G} {l : Launch} : ∀ (h : q_H) (a0 : Int64) (a1 : Int64) (a2 : Int64) (q : q_H × Int32), f_X10_in h a0 a1 a2 = some q → q_CT G l yX10_in cX10_in 6 (some .boolean) 0 0 [.long a0, .long a1, .long a2] h q.1 (q_i q.2) := by
  intro h a0 a1 a2 q e
  exact q_ofJ Y_X10_in (Nat.le_of_ble_eq_true rfl) (jb_X10_in_0 h a0 a1 a2) q e
/-! FarFoldersModel.copies(II)V -/
theorem dX10_copies_0 : decode cX10_copies 0 = .ok (.iconst 0, 1) := by decide +kernel
theorem dX10_copies_1 : decode cX10_copies 1 = .ok (.istore_n 3, 1) := by decide +kernel
theorem dX10_copies_2 : decode cX10_copies 2 = .ok (.iload_n 3, 1) := by decide +kernel
theorem dX10_copies_3 : decode cX10_copies 3 = .ok (.sipush 708, 3) := by decide +kernel
theorem dX10_copies_6 : decode cX10_copies 6 = .ok (.if_icmp .ge 33, 3) := by decide +kernel
theorem dX10_copies_9 : decode cX10_copies 9 = .ok (.aload_n 0, 1) := by decide +kernel
theorem dX10_copies_10 : decode cX10_copies 10 = .ok (.getfield 47, 3) := by decide +kernel
theorem dX10_copies_13 : decode cX10_copies 13 = .ok (.iload_n 2, 1) := by decide +kernel
theorem dX10_copies_14 : decode cX10_copies 14 = .ok (.sipush 708, 3) := by decide +kernel
theorem dX10_copies_17 : decode cX10_copies 17 = .ok (.imul, 1) := by decide +kernel
theorem dX10_copies_18 : decode cX10_copies 18 = .ok (.iload_n 3, 1) := by decide +kernel
theorem dX10_copies_19 : decode cX10_copies 19 = .ok (.iadd, 1) := by decide +kernel
theorem dX10_copies_20 : decode cX10_copies 20 = .ok (.aload_n 0, 1) := by decide +kernel
theorem dX10_copies_21 : decode cX10_copies 21 = .ok (.getfield 47, 3) := by decide +kernel
theorem dX10_copies_24 : decode cX10_copies 24 = .ok (.iload_n 1, 1) := by decide +kernel
theorem dX10_copies_25 : decode cX10_copies 25 = .ok (.sipush 708, 3) := by decide +kernel
theorem dX10_copies_28 : decode cX10_copies 28 = .ok (.imul, 1) := by decide +kernel
theorem dX10_copies_29 : decode cX10_copies 29 = .ok (.iload_n 3, 1) := by decide +kernel
theorem dX10_copies_30 : decode cX10_copies 30 = .ok (.iadd, 1) := by decide +kernel
theorem dX10_copies_31 : decode cX10_copies 31 = .ok (.iaload, 1) := by decide +kernel
theorem dX10_copies_32 : decode cX10_copies 32 = .ok (.iastore, 1) := by decide +kernel
theorem dX10_copies_33 : decode cX10_copies 33 = .ok (.iinc 3 1, 3) := by decide +kernel
theorem dX10_copies_36 : decode cX10_copies 36 = .ok (.goto (-34), 3) := by decide +kernel
theorem dX10_copies_39 : decode cX10_copies 39 = .ok (.return_, 1) := by decide +kernel
def b_X10_copies_2 (k2 : q_H → Nat → Int32 → Int32 → Int32 → Option (q_H × Unit)) (h : q_H) (v0 : Nat) (v1 : Int32) (v2 : Int32) (v3 : Int32) : Option (q_H × Unit) :=
  if (708) ≤ v3 then some (h, ()) else Option.bind (q_gR 9 7 h v0) (fun x1 => Option.bind (q_gR 9 7 h v0) (fun x2 => Option.bind (q_lI 0 h x2 ((v1 * (708)) + v3)) (fun x3 => Option.bind (q_sI 0 id h x1 ((v2 * (708)) + v3) x3) (fun h4 => k2 h4 v0 v1 v2 (v3 + 1)))))
def l_X10_copies_2 : Nat → q_H → Nat → Int32 → Int32 → Int32 → Option (q_H × Unit)
  | 0, _, _, _, _, _ => none
  | n + 1, h, v0, v1, v2, v3 => b_X10_copies_2 (l_X10_copies_2 n) h v0 v1 v2 v3
def b_X10_copies_0 (h : q_H) (v0 : Nat) (v1 : Int32) (v2 : Int32) : Option (q_H × Unit) :=
  l_X10_copies_2 q_FU h v0 v1 v2 (0)
def f_X10_copies (h : q_H) (a0 : Nat) (a1 : Int32) (a2 : Int32) : Option (q_H × Unit) := q_chk 9 h a0 (b_X10_copies_0 h a0 a1 a2)
set_option maxRecDepth 20000 in
set_option maxHeartbeats 1000000 in
theorem jb_X10_copies_2 {G : q_G} {l : Launch} {k0 z0 : Nat} (k2 : q_H → Nat → Int32 → Int32 → Int32 → Option (q_H × Unit)) (hk2 : ∀ (h : q_H) (v0 : Nat) (v1 : Int32) (v2 : Int32) (v3 : Int32), q_J G l (RX10, cX10_copies, 4, 0, 0, none, "copies", []) k0 z0 (q_Z G k0 z0 q_u) 2 [(0, .ref v0), (1, .int v1), (2, .int v2), (3, .int v3)] [] h (k2 h v0 v1 v2 v3)) (h : q_H) (v0 : Nat) (v1 : Int32) (v2 : Int32) (v3 : Int32) : q_J G l (RX10, cX10_copies, 4, 0, 0, none, "copies", []) k0 z0 (q_Z G k0 z0 q_u) 2 [(0, .ref v0), (1, .int v1), (2, .int v2), (3, .int v3)] [] h (b_X10_copies_2 k2 h v0 v1 v2 v3) := by
  unfold b_X10_copies_2
  refine j_iload_n (pc := 2) (p := 3) rfl rfl dX10_copies_2 ?_
  refine j_sipush (pc := 3) ks_708 dX10_copies_3 ?_
  refine j_ic_ge (pc := 6) (tgt := 39) dX10_copies_6 (by decide) (fun _ => ?_) (fun _ => ?_)
  · exact j_vret (pc := 39) rfl dX10_copies_39
  refine j_aload_n (pc := 9) (p := 0) rfl rfl dX10_copies_9 ?_
  refine j_getR (pc := 10) FI_X10 (k := 7) (by decide) fl_X10_47 dX10_copies_10 (fun x1 _ => ?_)
  refine j_iload_n (pc := 13) (p := 2) rfl rfl dX10_copies_13 ?_
  refine j_sipush (pc := 14) ks_708 dX10_copies_14 ?_
  refine j_imul (pc := 17) dX10_copies_17 ?_
  refine j_iload_n (pc := 18) (p := 3) rfl rfl dX10_copies_18 ?_
  refine j_iadd (pc := 19) dX10_copies_19 ?_
  refine j_aload_n (pc := 20) (p := 0) rfl rfl dX10_copies_20 ?_
  refine j_getR (pc := 21) FI_X10 (k := 7) (by decide) fl_X10_47 dX10_copies_21 (fun x2 _ => ?_)
  refine j_iload_n (pc := 24) (p := 1) rfl rfl dX10_copies_24 ?_
  refine j_sipush (pc := 25) ks_708 dX10_copies_25 ?_
  refine j_imul (pc := 28) dX10_copies_28 ?_
  refine j_iload_n (pc := 29) (p := 3) rfl rfl dX10_copies_29 ?_
  refine j_iadd (pc := 30) dX10_copies_30 ?_
  refine j_iald (pc := 31) dX10_copies_31 (fun x3 _ => ?_)
  refine j_iast (pc := 32) dX10_copies_32 (fun h4 _ => ?_)
  refine j_inc (pc := 33) (p := 3) (lv' := [(3, .int (v3 + 1)), (0, .ref v0), (1, .int v1), (2, .int v2)]) rfl ki_1 (by decide) rfl dX10_copies_33 ?_
  refine j_goto (pc := 36) (tgt := 2) dX10_copies_36 (by decide) ?_
  refine j_sub [1, 2, 3, 0] (lv' := [(0, .ref v0), (1, .int v1), (2, .int v2), (3, .int (v3 + 1))]) rfl ?_
  exact hk2 _ _ _ _ _
set_option maxRecDepth 20000 in
set_option maxHeartbeats 1000000 in
theorem jl_X10_copies_2 {G : q_G} {l : Launch} {k0 z0 : Nat} (n : Nat) : ∀ (h : q_H) (v0 : Nat) (v1 : Int32) (v2 : Int32) (v3 : Int32), q_J G l (RX10, cX10_copies, 4, 0, 0, none, "copies", []) k0 z0 (q_Z G k0 z0 q_u) 2 [(0, .ref v0), (1, .int v1), (2, .int v2), (3, .int v3)] [] h (l_X10_copies_2 n h v0 v1 v2 v3) := by
  induction n with
  | zero => intro h v0 v1 v2 v3; exact j_none
  | succ n ih => intro h v0 v1 v2 v3; exact jb_X10_copies_2 (l_X10_copies_2 n) ih h v0 v1 v2 v3
set_option maxRecDepth 20000 in
set_option maxHeartbeats 1000000 in
theorem jb_X10_copies_0 {G : q_G} {l : Launch} {k0 z0 : Nat} (h : q_H) (v0 : Nat) (v1 : Int32) (v2 : Int32) : q_J G l (RX10, cX10_copies, 4, 0, 0, none, "copies", []) k0 z0 (q_Z G k0 z0 q_u) 0 [(0, .ref v0), (1, .int v1), (2, .int v2)] [] h (b_X10_copies_0 h v0 v1 v2) := by
  unfold b_X10_copies_0
  refine j_iconst (pc := 0) ki_0 dX10_copies_0 ?_
  refine j_istore_n (pc := 1) (lv' := [(3, .int (0)), (0, .ref v0), (1, .int v1), (2, .int v2)]) rfl (by decide) rfl dX10_copies_1 ?_
  refine j_sub [1, 2, 3, 0] (lv' := [(0, .ref v0), (1, .int v1), (2, .int v2), (3, .int (0))]) rfl ?_
  exact jl_X10_copies_2 q_FU _ _ _ _ _
set_option maxRecDepth 20000 in
set_option maxHeartbeats 1000000 in
theorem c_X10_copies {G : q_G} {l : Launch} : ∀ (h : q_H) (a0 : Nat) (a1 : Int32) (a2 : Int32) (q : q_H × Unit), f_X10_copies h a0 a1 a2 = some q → (∃ fs, h.1 a0 = .inr (9, fs)) ∧ q_CT G l yX10_copies cX10_copies 4 none 0 0 [.ref a0, .int a1, .int a2] h q.1 (q_u q.2) := by
  intro h a0 a1 a2 q e
  obtain ⟨e1, e2⟩ := q_chk_ok e
  exact ⟨e1, q_ofJ Y_X10_copies (Nat.le_of_ble_eq_true rfl) (jb_X10_copies_0 h a0 a1 a2) q e2⟩
/-! FarFoldersModel.again(I)Z -/
theorem dX10_again_0 : decode cX10_again 0 = .ok (.aload_n 0, 1) := by decide +kernel
theorem dX10_again_1 : decode cX10_again 1 = .ok (.iconst 0, 1) := by decide +kernel
theorem dX10_again_2 : decode cX10_again 2 = .ok (.putfield 1, 3) := by decide +kernel
theorem dX10_again_5 : decode cX10_again 5 = .ok (.iload_n 1, 1) := by decide +kernel
theorem dX10_again_6 : decode cX10_again 6 = .ok (.i2l, 1) := by decide +kernel
theorem dX10_again_7 : decode cX10_again 7 = .ok (.lconst 0, 1) := by decide +kernel
theorem dX10_again_8 : decode cX10_again 8 = .ok (.lconst 1, 1) := by decide +kernel
theorem dX10_again_9 : decode cX10_again 9 = .ok (.invokestatic 21, 3) := by decide +kernel
theorem dX10_again_12 : decode cX10_again 12 = .ok (.ifCond .eq 12, 3) := by decide +kernel
theorem dX10_again_15 : decode cX10_again 15 = .ok (.aload_n 0, 1) := by decide +kernel
theorem dX10_again_16 : decode cX10_again 16 = .ok (.getfield 87, 3) := by decide +kernel
theorem dX10_again_19 : decode cX10_again 19 = .ok (.iload_n 1, 1) := by decide +kernel
theorem dX10_again_20 : decode cX10_again 20 = .ok (.baload, 1) := by decide +kernel
theorem dX10_again_21 : decode cX10_again 21 = .ok (.ifCond .ne 5, 3) := by decide +kernel
theorem dX10_again_24 : decode cX10_again 24 = .ok (.iconst 0, 1) := by decide +kernel
theorem dX10_again_25 : decode cX10_again 25 = .ok (.ireturn, 1) := by decide +kernel
theorem dX10_again_26 : decode cX10_again 26 = .ok (.aload_n 0, 1) := by decide +kernel
theorem dX10_again_27 : decode cX10_again 27 = .ok (.iconst 1, 1) := by decide +kernel
theorem dX10_again_28 : decode cX10_again 28 = .ok (.iload_n 1, 1) := by decide +kernel
theorem dX10_again_29 : decode cX10_again 29 = .ok (.iadd, 1) := by decide +kernel
theorem dX10_again_30 : decode cX10_again 30 = .ok (.iconst 0, 1) := by decide +kernel
theorem dX10_again_31 : decode cX10_again 31 = .ok (.invokevirtual 359, 3) := by decide +kernel
theorem dX10_again_34 : decode cX10_again 34 = .ok (.iconst 1, 1) := by decide +kernel
theorem dX10_again_35 : decode cX10_again 35 = .ok (.ireturn, 1) := by decide +kernel
def b_X10_again_0 (h : q_H) (v0 : Nat) (v1 : Int32) : Option (q_H × Int32) :=
  Option.bind (q_p 9 0 h v0 (.int (0))) (fun h1 => Option.bind (f_X10_in h1 (Int32.toInt64 v1) (0) (1)) (fun q2 => if q2.2 = 0 then some (q2.1, (0)) else Option.bind (q_gR 9 25 q2.1 v0) (fun x3 => Option.bind (q_lI 2 q2.1 x3 v1) (fun x4 => if x4 = 0 then some (q2.1, (0)) else Option.bind (f_X10_copies q2.1 v0 ((1) + v1) (0)) (fun q5 => some (q5.1, (1)))))))
def f_X10_again (h : q_H) (a0 : Nat) (a1 : Int32) : Option (q_H × Int32) := q_chk 9 h a0 (b_X10_again_0 h a0 a1)
set_option maxRecDepth 20000 in
set_option maxHeartbeats 1000000 in
theorem jb_X10_again_0 {G : q_G} {l : Launch} {k0 z0 : Nat} (h : q_H) (v0 : Nat) (v1 : Int32) : q_J G l (RX10, cX10_again, 2, 1, 25, (some .boolean), "again", []) k0 z0 (q_Z G k0 z0 q_i) 0 [(0, .ref v0), (1, .int v1)] [] h (b_X10_again_0 h v0 v1) := by
  unfold b_X10_again_0
  refine j_aload_n (pc := 0) (p := 0) rfl rfl dX10_again_0 ?_
  refine j_iconst (pc := 1) ki_0 dX10_again_1 ?_
  refine j_put (pc := 2) FI_X10 (k := 0) (by decide) fl_X10_1 rfl rfl rfl dX10_again_2 (fun h1 _ => ?_)
  refine j_iload_n (pc := 5) (p := 1) rfl rfl dX10_again_5 ?_
  refine j_i2l (pc := 6) dX10_again_6 ?_
  refine j_lconst (pc := 7) kl_0 dX10_again_7 ?_
  refine j_lconst (pc := 8) kl_1 dX10_again_8 ?_
  refine j_cSi (pc := 9) Y_X10_in ml_X10_21 sm_X10_in ⟨Nat.le_of_ble_eq_true rfl, Nat.le_of_ble_eq_true rfl⟩ dX10_again_9 (As := [.long (Int32.toInt64 v1), .long (0), .long (1)]) (rest := []) rfl rfl (Nat.le_of_ble_eq_true rfl) (fun x hq9 => c_X10_in _ _ _ _ _ hq9) (fun q2 _ => ?_)
  refine j_if_eq (pc := 12) (tgt := 24) dX10_again_12 (by decide) (fun _ => ?_) (fun _ => ?_)
  · refine j_iconst (pc := 24) ki_0 dX10_again_24 ?_
    exact j_zret (pc := 25) rfl rfl dX10_again_25
  refine j_aload_n (pc := 15) (p := 0) rfl rfl dX10_again_15 ?_
  refine j_getR (pc := 16) FI_X10 (k := 25) (by decide) fl_X10_87 dX10_again_16 (fun x3 _ => ?_)
  refine j_iload_n (pc := 19) (p := 1) rfl rfl dX10_again_19 ?_
  refine j_zald (pc := 20) dX10_again_20 (fun x4 _ => ?_)
  refine j_if_ne (pc := 21) (tgt := 26) dX10_again_21 (by decide) (fun _ => ?_) (fun _ => ?_)
  · refine j_iconst (pc := 24) ki_0 dX10_again_24 ?_
    exact j_zret (pc := 25) rfl rfl dX10_again_25
  refine j_aload_n (pc := 26) (p := 0) rfl rfl dX10_again_26 ?_
  refine j_iconst (pc := 27) ki_1 dX10_again_27 ?_
  refine j_iload_n (pc := 28) (p := 1) rfl rfl dX10_again_28 ?_
  refine j_iadd (pc := 29) dX10_again_29 ?_
  refine j_iconst (pc := 30) ki_0 dX10_again_30 ?_
  refine j_cVu (pc := 31) Y_X10_copies (ci := 9) (b := v0) rfl rfl ml_X10_359 im_X10_copies se_X10_copies ⟨Nat.le_of_ble_eq_true rfl, Nat.le_of_ble_eq_true rfl⟩ dX10_again_31 (As := [.int ((1) + v1), .int (0)]) (rest := []) rfl rfl (Nat.le_of_ble_eq_true rfl) (fun x hq9 => c_X10_copies _ _ _ _ _ hq9) (fun q5 _ => ?_)
  refine j_iconst (pc := 34) ki_1 dX10_again_34 ?_
  exact j_zret (pc := 35) rfl rfl dX10_again_35
set_option maxRecDepth 20000 in
set_option maxHeartbeats 1000000 in
theorem c_X10_again {G : q_G} {l : Launch} : ∀ (h : q_H) (a0 : Nat) (a1 : Int32) (q : q_H × Int32), f_X10_again h a0 a1 = some q → (∃ fs, h.1 a0 = .inr (9, fs)) ∧ q_CT G l yX10_again cX10_again 2 (some .boolean) 1 25 [.ref a0, .int a1] h q.1 (q_i q.2) := by
  intro h a0 a1 q e
  obtain ⟨e1, e2⟩ := q_chk_ok e
  exact ⟨e1, q_ofJ Y_X10_again (Nat.le_of_ble_eq_true rfl) (jb_X10_again_0 h a0 a1) q e2⟩
/-! FarFoldersModel.its(III)I -/
theorem dX10_its_0 : decode cX10_its 0 = .ok (.aload_n 0, 1) := by decide +kernel
theorem dX10_its_1 : decode cX10_its 1 = .ok (.getfield 57, 3) := by decide +kernel
theorem dX10_its_4 : decode cX10_its 4 = .ok (.iconst 4, 1) := by decide +kernel
theorem dX10_its_5 : decode cX10_its 5 = .ok (.bipush 14, 2) := by decide +kernel
theorem dX10_its_7 : decode cX10_its 7 = .ok (.iload_n 1, 1) := by decide +kernel
theorem dX10_its_8 : decode cX10_its 8 = .ok (.imul, 1) := by decide +kernel
theorem dX10_its_9 : decode cX10_its 9 = .ok (.iload_n 2, 1) := by decide +kernel
theorem dX10_its_10 : decode cX10_its 10 = .ok (.iadd, 1) := by decide +kernel
theorem dX10_its_11 : decode cX10_its 11 = .ok (.imul, 1) := by decide +kernel
theorem dX10_its_12 : decode cX10_its 12 = .ok (.iload_n 3, 1) := by decide +kernel
theorem dX10_its_13 : decode cX10_its 13 = .ok (.iadd, 1) := by decide +kernel
theorem dX10_its_14 : decode cX10_its 14 = .ok (.iaload, 1) := by decide +kernel
theorem dX10_its_15 : decode cX10_its 15 = .ok (.ireturn, 1) := by decide +kernel
def b_X10_its_0 (h : q_H) (v0 : Nat) (v1 : Int32) (v2 : Int32) (v3 : Int32) : Option (q_H × Int32) :=
  Option.bind (q_gR 9 11 h v0) (fun x1 => Option.bind (q_lI 0 h x1 (((4) * (((14) * v1) + v2)) + v3)) (fun x2 => some (h, x2)))
def f_X10_its (h : q_H) (a0 : Nat) (a1 : Int32) (a2 : Int32) (a3 : Int32) : Option (q_H × Int32) := q_chk 9 h a0 (b_X10_its_0 h a0 a1 a2 a3)
set_option maxRecDepth 20000 in
set_option maxHeartbeats 1000000 in
theorem jb_X10_its_0 {G : q_G} {l : Launch} {k0 z0 : Nat} (h : q_H) (v0 : Nat) (v1 : Int32) (v2 : Int32) (v3 : Int32) : q_J G l (RX10, cX10_its, 4, 0, 0, (some .int), "its", []) k0 z0 (q_Z G k0 z0 q_i) 0 [(0, .ref v0), (1, .int v1), (2, .int v2), (3, .int v3)] [] h (b_X10_its_0 h v0 v1 v2 v3) := by
  unfold b_X10_its_0
  refine j_aload_n (pc := 0) (p := 0) rfl rfl dX10_its_0 ?_
  refine j_getR (pc := 1) FI_X10 (k := 11) (by decide) fl_X10_57 dX10_its_1 (fun x1 _ => ?_)
  refine j_iconst (pc := 4) ki_4 dX10_its_4 ?_
  refine j_bipush (pc := 5) kb_14 dX10_its_5 ?_
  refine j_iload_n (pc := 7) (p := 1) rfl rfl dX10_its_7 ?_
  refine j_imul (pc := 8) dX10_its_8 ?_
  refine j_iload_n (pc := 9) (p := 2) rfl rfl dX10_its_9 ?_
  refine j_iadd (pc := 10) dX10_its_10 ?_
  refine j_imul (pc := 11) dX10_its_11 ?_
  refine j_iload_n (pc := 12) (p := 3) rfl rfl dX10_its_12 ?_
  refine j_iadd (pc := 13) dX10_its_13 ?_
  refine j_iald (pc := 14) dX10_its_14 (fun x2 _ => ?_)
  exact j_iret (pc := 15) rfl dX10_its_15
set_option maxRecDepth 20000 in
set_option maxHeartbeats 1000000 in
theorem c_X10_its {G : q_G} {l : Launch} : ∀ (h : q_H) (a0 : Nat) (a1 : Int32) (a2 : Int32) (a3 : Int32) (q : q_H × Int32), f_X10_its h a0 a1 a2 a3 = some q → (∃ fs, h.1 a0 = .inr (9, fs)) ∧ q_CT G l yX10_its cX10_its 4 (some .int) 0 0 [.ref a0, .int a1, .int a2, .int a3] h q.1 (q_i q.2) := by
  intro h a0 a1 a2 a3 q e
  obtain ⟨e1, e2⟩ := q_chk_ok e
  exact ⟨e1, q_ofJ Y_X10_its (Nat.le_of_ble_eq_true rfl) (jb_X10_its_0 h a0 a1 a2 a3) q e2⟩
/-! FarFoldersModel.isThere(II)Z -/
theorem dX10_isThere_0 : decode cX10_isThere 0 = .ok (.iload_n 2, 1) := by decide +kernel
theorem dX10_isThere_1 : decode cX10_isThere 1 = .ok (.iconst 2, 1) := by decide +kernel
theorem dX10_isThere_2 : decode cX10_isThere 2 = .ok (.if_icmp .lt 14, 3) := by decide +kernel
theorem dX10_isThere_5 : decode cX10_isThere 5 = .ok (.aload_n 0, 1) := by decide +kernel
theorem dX10_isThere_6 : decode cX10_isThere 6 = .ok (.iload_n 1, 1) := by decide +kernel
theorem dX10_isThere_7 : decode cX10_isThere 7 = .ok (.iload_n 2, 1) := by decide +kernel
theorem dX10_isThere_8 : decode cX10_isThere 8 = .ok (.iconst 0, 1) := by decide +kernel
theorem dX10_isThere_9 : decode cX10_isThere 9 = .ok (.invokevirtual 129, 3) := by decide +kernel
theorem dX10_isThere_12 : decode cX10_isThere 12 = .ok (.iconst (-1), 1) := by decide +kernel
theorem dX10_isThere_13 : decode cX10_isThere 13 = .ok (.if_icmp .eq 7, 3) := by decide +kernel
theorem dX10_isThere_16 : decode cX10_isThere 16 = .ok (.iconst 1, 1) := by decide +kernel
theorem dX10_isThere_17 : decode cX10_isThere 17 = .ok (.goto 4, 3) := by decide +kernel
theorem dX10_isThere_20 : decode cX10_isThere 20 = .ok (.iconst 0, 1) := by decide +kernel
theorem dX10_isThere_21 : decode cX10_isThere 21 = .ok (.ireturn, 1) := by decide +kernel
def b_X10_isThere_0 (h : q_H) (v0 : Nat) (v1 : Int32) (v2 : Int32) : Option (q_H × Int32) :=
  if v2 < (2) then some (h, (1)) else Option.bind (f_X10_its h v0 v1 v2 (0)) (fun q1 => if q1.2 = (-1) then some (q1.1, (0)) else some (q1.1, (1)))
def f_X10_isThere (h : q_H) (a0 : Nat) (a1 : Int32) (a2 : Int32) : Option (q_H × Int32) := q_chk 9 h a0 (b_X10_isThere_0 h a0 a1 a2)
set_option maxRecDepth 20000 in
set_option maxHeartbeats 1000000 in
theorem jb_X10_isThere_0 {G : q_G} {l : Launch} {k0 z0 : Nat} (h : q_H) (v0 : Nat) (v1 : Int32) (v2 : Int32) : q_J G l (RX10, cX10_isThere, 3, 1, 23, (some .boolean), "isThere", []) k0 z0 (q_Z G k0 z0 q_i) 0 [(0, .ref v0), (1, .int v1), (2, .int v2)] [] h (b_X10_isThere_0 h v0 v1 v2) := by
  unfold b_X10_isThere_0
  refine j_iload_n (pc := 0) (p := 2) rfl rfl dX10_isThere_0 ?_
  refine j_iconst (pc := 1) ki_2 dX10_isThere_1 ?_
  refine j_ic_lt (pc := 2) (tgt := 16) dX10_isThere_2 (by decide) (fun _ => ?_) (fun _ => ?_)
  · refine j_iconst (pc := 16) ki_1 dX10_isThere_16 ?_
    refine j_goto (pc := 17) (tgt := 21) dX10_isThere_17 (by decide) ?_
    exact j_zret (pc := 21) rfl rfl dX10_isThere_21
  refine j_aload_n (pc := 5) (p := 0) rfl rfl dX10_isThere_5 ?_
  refine j_iload_n (pc := 6) (p := 1) rfl rfl dX10_isThere_6 ?_
  refine j_iload_n (pc := 7) (p := 2) rfl rfl dX10_isThere_7 ?_
  refine j_iconst (pc := 8) ki_0 dX10_isThere_8 ?_
  refine j_cVi (pc := 9) Y_X10_its (ci := 9) (b := v0) rfl rfl ml_X10_129 im_X10_its se_X10_its ⟨Nat.le_of_ble_eq_true rfl, Nat.le_of_ble_eq_true rfl⟩ dX10_isThere_9 (As := [.int v1, .int v2, .int (0)]) (rest := []) rfl rfl (Nat.le_of_ble_eq_true rfl) (fun x hq9 => c_X10_its _ _ _ _ _ _ hq9) (fun q1 _ => ?_)
  refine j_iconst (pc := 12) ki_m1 dX10_isThere_12 ?_
  refine j_ic_eq (pc := 13) (tgt := 20) dX10_isThere_13 (by decide) (fun _ => ?_) (fun _ => ?_)
  · refine j_iconst (pc := 20) ki_0 dX10_isThere_20 ?_
    exact j_zret (pc := 21) rfl rfl dX10_isThere_21
  refine j_iconst (pc := 16) ki_1 dX10_isThere_16 ?_
  refine j_goto (pc := 17) (tgt := 21) dX10_isThere_17 (by decide) ?_
  exact j_zret (pc := 21) rfl rfl dX10_isThere_21
set_option maxRecDepth 20000 in
set_option maxHeartbeats 1000000 in
theorem c_X10_isThere {G : q_G} {l : Launch} : ∀ (h : q_H) (a0 : Nat) (a1 : Int32) (a2 : Int32) (q : q_H × Int32), f_X10_isThere h a0 a1 a2 = some q → (∃ fs, h.1 a0 = .inr (9, fs)) ∧ q_CT G l yX10_isThere cX10_isThere 3 (some .boolean) 1 23 [.ref a0, .int a1, .int a2] h q.1 (q_i q.2) := by
  intro h a0 a1 a2 q e
  obtain ⟨e1, e2⟩ := q_chk_ok e
  exact ⟨e1, q_ofJ Y_X10_isThere (Nat.le_of_ble_eq_true rfl) (jb_X10_isThere_0 h a0 a1 a2) q e2⟩
/-! FarFoldersModel.isUnder(III)Z -/
theorem dX10_isUnder_0 : decode cX10_isUnder 0 = .ok (.iload_n 2, 1) := by decide +kernel
theorem dX10_isUnder_1 : decode cX10_isUnder 1 = .ok (.istore 4, 2) := by decide +kernel
theorem dX10_isUnder_3 : decode cX10_isUnder 3 = .ok (.iload 4, 2) := by decide +kernel
theorem dX10_isUnder_5 : decode cX10_isUnder 5 = .ok (.iload_n 3, 1) := by decide +kernel
theorem dX10_isUnder_6 : decode cX10_isUnder 6 = .ok (.if_icmp .eq 22, 3) := by decide +kernel
theorem dX10_isUnder_9 : decode cX10_isUnder 9 = .ok (.iload 4, 2) := by decide +kernel
theorem dX10_isUnder_11 : decode cX10_isUnder 11 = .ok (.iconst 2, 1) := by decide +kernel
theorem dX10_isUnder_12 : decode cX10_isUnder 12 = .ok (.if_icmp .lt 16, 3) := by decide +kernel
theorem dX10_isUnder_15 : decode cX10_isUnder 15 = .ok (.aload_n 0, 1) := by decide +kernel
theorem dX10_isUnder_16 : decode cX10_isUnder 16 = .ok (.iload_n 1, 1) := by decide +kernel
theorem dX10_isUnder_17 : decode cX10_isUnder 17 = .ok (.iload 4, 2) := by decide +kernel
theorem dX10_isUnder_19 : decode cX10_isUnder 19 = .ok (.iconst 0, 1) := by decide +kernel
theorem dX10_isUnder_20 : decode cX10_isUnder 20 = .ok (.invokevirtual 129, 3) := by decide +kernel
theorem dX10_isUnder_23 : decode cX10_isUnder 23 = .ok (.istore 4, 2) := by decide +kernel
theorem dX10_isUnder_25 : decode cX10_isUnder 25 = .ok (.goto (-22), 3) := by decide +kernel
theorem dX10_isUnder_28 : decode cX10_isUnder 28 = .ok (.iload 4, 2) := by decide +kernel
theorem dX10_isUnder_30 : decode cX10_isUnder 30 = .ok (.iload_n 3, 1) := by decide +kernel
theorem dX10_isUnder_31 : decode cX10_isUnder 31 = .ok (.if_icmp .ne 7, 3) := by decide +kernel
theorem dX10_isUnder_34 : decode cX10_isUnder 34 = .ok (.iconst 1, 1) := by decide +kernel
theorem dX10_isUnder_35 : decode cX10_isUnder 35 = .ok (.goto 4, 3) := by decide +kernel
theorem dX10_isUnder_38 : decode cX10_isUnder 38 = .ok (.iconst 0, 1) := by decide +kernel
theorem dX10_isUnder_39 : decode cX10_isUnder 39 = .ok (.ireturn, 1) := by decide +kernel
def b_X10_isUnder_28 (h : q_H) (v3 : Int32) (v4 : Int32) : Option (q_H × Int32) :=
  if v4 = v3 then some (h, (1)) else some (h, (0))
def b_X10_isUnder_3 (k3 : q_H → Nat → Int32 → Int32 → Int32 → Option (q_H × Int32)) (h : q_H) (v0 : Nat) (v1 : Int32) (v3 : Int32) (v4 : Int32) : Option (q_H × Int32) :=
  if v4 = v3 then b_X10_isUnder_28 h v3 v4 else if v4 < (2) then b_X10_isUnder_28 h v3 v4 else Option.bind (f_X10_its h v0 v1 v4 (0)) (fun q1 => k3 q1.1 v0 v1 v3 q1.2)
def l_X10_isUnder_3 : Nat → q_H → Nat → Int32 → Int32 → Int32 → Option (q_H × Int32)
  | 0, _, _, _, _, _ => none
  | n + 1, h, v0, v1, v3, v4 => b_X10_isUnder_3 (l_X10_isUnder_3 n) h v0 v1 v3 v4
def b_X10_isUnder_0 (h : q_H) (v0 : Nat) (v1 : Int32) (v2 : Int32) (v3 : Int32) : Option (q_H × Int32) :=
  l_X10_isUnder_3 q_FU h v0 v1 v3 v2
def f_X10_isUnder (h : q_H) (a0 : Nat) (a1 : Int32) (a2 : Int32) (a3 : Int32) : Option (q_H × Int32) := q_chk 9 h a0 (b_X10_isUnder_0 h a0 a1 a2 a3)
set_option maxRecDepth 20000 in
set_option maxHeartbeats 1000000 in
theorem jb_X10_isUnder_28 {G : q_G} {l : Launch} {k0 z0 : Nat} (h : q_H) (v3 : Int32) (v4 : Int32) : q_J G l (RX10, cX10_isUnder, 5, 1, 23, (some .boolean), "isUnder", []) k0 z0 (q_Z G k0 z0 q_i) 28 [(3, .int v3), (4, .int v4)] [] h (b_X10_isUnder_28 h v3 v4) := by
  unfold b_X10_isUnder_28
  refine j_iload (pc := 28) (p := 1) rfl dX10_isUnder_28 ?_
  refine j_iload_n (pc := 30) (p := 0) rfl rfl dX10_isUnder_30 ?_
  refine j_ic_ne (pc := 31) (tgt := 38) dX10_isUnder_31 (by decide) (fun _ => ?_) (fun _ => ?_)
  · refine j_iconst (pc := 34) ki_1 dX10_isUnder_34 ?_
    refine j_goto (pc := 35) (tgt := 39) dX10_isUnder_35 (by decide) ?_
    exact j_zret (pc := 39) rfl rfl dX10_isUnder_39
  refine j_iconst (pc := 38) ki_0 dX10_isUnder_38 ?_
  exact j_zret (pc := 39) rfl rfl dX10_isUnder_39
set_option maxRecDepth 20000 in
set_option maxHeartbeats 1000000 in
theorem jb_X10_isUnder_3 {G : q_G} {l : Launch} {k0 z0 : Nat} (k3 : q_H → Nat → Int32 → Int32 → Int32 → Option (q_H × Int32)) (hk3 : ∀ (h : q_H) (v0 : Nat) (v1 : Int32) (v3 : Int32) (v4 : Int32), q_J G l (RX10, cX10_isUnder, 5, 1, 23, (some .boolean), "isUnder", []) k0 z0 (q_Z G k0 z0 q_i) 3 [(0, .ref v0), (1, .int v1), (3, .int v3), (4, .int v4)] [] h (k3 h v0 v1 v3 v4)) (h : q_H) (v0 : Nat) (v1 : Int32) (v3 : Int32) (v4 : Int32) : q_J G l (RX10, cX10_isUnder, 5, 1, 23, (some .boolean), "isUnder", []) k0 z0 (q_Z G k0 z0 q_i) 3 [(0, .ref v0), (1, .int v1), (3, .int v3), (4, .int v4)] [] h (b_X10_isUnder_3 k3 h v0 v1 v3 v4) := by
  unfold b_X10_isUnder_3
  refine j_iload (pc := 3) (p := 3) rfl dX10_isUnder_3 ?_
  refine j_iload_n (pc := 5) (p := 2) rfl rfl dX10_isUnder_5 ?_
  refine j_ic_eq (pc := 6) (tgt := 28) dX10_isUnder_6 (by decide) (fun _ => ?_) (fun _ => ?_)
  · refine j_sub [2, 3] (lv' := [(3, .int v3), (4, .int v4)]) rfl ?_
    exact jb_X10_isUnder_28 _ _ _
  refine j_iload (pc := 9) (p := 3) rfl dX10_isUnder_9 ?_
  refine j_iconst (pc := 11) ki_2 dX10_isUnder_11 ?_
  refine j_ic_lt (pc := 12) (tgt := 28) dX10_isUnder_12 (by decide) (fun _ => ?_) (fun _ => ?_)
  · refine j_sub [2, 3] (lv' := [(3, .int v3), (4, .int v4)]) rfl ?_
    exact jb_X10_isUnder_28 _ _ _
  refine j_aload_n (pc := 15) (p := 0) rfl rfl dX10_isUnder_15 ?_
  refine j_iload_n (pc := 16) (p := 1) rfl rfl dX10_isUnder_16 ?_
  refine j_iload (pc := 17) (p := 3) rfl dX10_isUnder_17 ?_
  refine j_iconst (pc := 19) ki_0 dX10_isUnder_19 ?_
  refine j_cVi (pc := 20) Y_X10_its (ci := 9) (b := v0) rfl rfl ml_X10_129 im_X10_its se_X10_its ⟨Nat.le_of_ble_eq_true rfl, Nat.le_of_ble_eq_true rfl⟩ dX10_isUnder_20 (As := [.int v1, .int v4, .int (0)]) (rest := []) rfl rfl (Nat.le_of_ble_eq_true rfl) (fun x hq9 => c_X10_its _ _ _ _ _ _ hq9) (fun q1 _ => ?_)
  refine j_istore (pc := 23) (lv' := [(4, .int q1.2), (0, .ref v0), (1, .int v1), (3, .int v3)]) (by decide) rfl dX10_isUnder_23 ?_
  refine j_goto (pc := 25) (tgt := 3) dX10_isUnder_25 (by decide) ?_
  refine j_sub [1, 2, 3, 0] (lv' := [(0, .ref v0), (1, .int v1), (3, .int v3), (4, .int q1.2)]) rfl ?_
  exact hk3 _ _ _ _ _
set_option maxRecDepth 20000 in
set_option maxHeartbeats 1000000 in
theorem jl_X10_isUnder_3 {G : q_G} {l : Launch} {k0 z0 : Nat} (n : Nat) : ∀ (h : q_H) (v0 : Nat) (v1 : Int32) (v3 : Int32) (v4 : Int32), q_J G l (RX10, cX10_isUnder, 5, 1, 23, (some .boolean), "isUnder", []) k0 z0 (q_Z G k0 z0 q_i) 3 [(0, .ref v0), (1, .int v1), (3, .int v3), (4, .int v4)] [] h (l_X10_isUnder_3 n h v0 v1 v3 v4) := by
  induction n with
  | zero => intro h v0 v1 v3 v4; exact j_none
  | succ n ih => intro h v0 v1 v3 v4; exact jb_X10_isUnder_3 (l_X10_isUnder_3 n) ih h v0 v1 v3 v4
set_option maxRecDepth 20000 in
set_option maxHeartbeats 1000000 in
theorem jb_X10_isUnder_0 {G : q_G} {l : Launch} {k0 z0 : Nat} (h : q_H) (v0 : Nat) (v1 : Int32) (v2 : Int32) (v3 : Int32) : q_J G l (RX10, cX10_isUnder, 5, 1, 23, (some .boolean), "isUnder", []) k0 z0 (q_Z G k0 z0 q_i) 0 [(0, .ref v0), (1, .int v1), (2, .int v2), (3, .int v3)] [] h (b_X10_isUnder_0 h v0 v1 v2 v3) := by
  unfold b_X10_isUnder_0
  refine j_iload_n (pc := 0) (p := 2) rfl rfl dX10_isUnder_0 ?_
  refine j_istore (pc := 1) (lv' := [(4, .int v2), (0, .ref v0), (1, .int v1), (2, .int v2), (3, .int v3)]) (by decide) rfl dX10_isUnder_1 ?_
  refine j_sub [1, 2, 4, 0] (lv' := [(0, .ref v0), (1, .int v1), (3, .int v3), (4, .int v2)]) rfl ?_
  exact jl_X10_isUnder_3 q_FU _ _ _ _ _
set_option maxRecDepth 20000 in
set_option maxHeartbeats 1000000 in
theorem c_X10_isUnder {G : q_G} {l : Launch} : ∀ (h : q_H) (a0 : Nat) (a1 : Int32) (a2 : Int32) (a3 : Int32) (q : q_H × Int32), f_X10_isUnder h a0 a1 a2 a3 = some q → (∃ fs, h.1 a0 = .inr (9, fs)) ∧ q_CT G l yX10_isUnder cX10_isUnder 5 (some .boolean) 1 23 [.ref a0, .int a1, .int a2, .int a3] h q.1 (q_i q.2) := by
  intro h a0 a1 a2 a3 q e
  obtain ⟨e1, e2⟩ := q_chk_ok e
  exact ⟨e1, q_ofJ Y_X10_isUnder (Nat.le_of_ble_eq_true rfl) (jb_X10_isUnder_0 h a0 a1 a2 a3) q e2⟩
/-! FarFoldersModel.allBelow(II)I -/
theorem dX10_allBelow_0 : decode cX10_allBelow 0 = .ok (.iconst 0, 1) := by decide +kernel
theorem dX10_allBelow_1 : decode cX10_allBelow 1 = .ok (.istore_n 3, 1) := by decide +kernel
theorem dX10_allBelow_2 : decode cX10_allBelow 2 = .ok (.iconst 2, 1) := by decide +kernel
theorem dX10_allBelow_3 : decode cX10_allBelow 3 = .ok (.istore 4, 2) := by decide +kernel
theorem dX10_allBelow_5 : decode cX10_allBelow 5 = .ok (.iload 4, 2) := by decide +kernel
theorem dX10_allBelow_7 : decode cX10_allBelow 7 = .ok (.bipush 14, 2) := by decide +kernel
theorem dX10_allBelow_9 : decode cX10_allBelow 9 = .ok (.if_icmp .ge 47, 3) := by decide +kernel
theorem dX10_allBelow_12 : decode cX10_allBelow 12 = .ok (.iload_n 3, 1) := by decide +kernel
theorem dX10_allBelow_13 : decode cX10_allBelow 13 = .ok (.iload 4, 2) := by decide +kernel
theorem dX10_allBelow_15 : decode cX10_allBelow 15 = .ok (.iload_n 2, 1) := by decide +kernel
theorem dX10_allBelow_16 : decode cX10_allBelow 16 = .ok (.if_icmp .eq 31, 3) := by decide +kernel
theorem dX10_allBelow_19 : decode cX10_allBelow 19 = .ok (.aload_n 0, 1) := by decide +kernel
theorem dX10_allBelow_20 : decode cX10_allBelow 20 = .ok (.iload_n 1, 1) := by decide +kernel
theorem dX10_allBelow_21 : decode cX10_allBelow 21 = .ok (.iload 4, 2) := by decide +kernel
theorem dX10_allBelow_23 : decode cX10_allBelow 23 = .ok (.invokevirtual 133, 3) := by decide +kernel
theorem dX10_allBelow_26 : decode cX10_allBelow 26 = .ok (.ifCond .eq 21, 3) := by decide +kernel
theorem dX10_allBelow_29 : decode cX10_allBelow 29 = .ok (.aload_n 0, 1) := by decide +kernel
theorem dX10_allBelow_30 : decode cX10_allBelow 30 = .ok (.iload_n 1, 1) := by decide +kernel
theorem dX10_allBelow_31 : decode cX10_allBelow 31 = .ok (.iload 4, 2) := by decide +kernel
theorem dX10_allBelow_33 : decode cX10_allBelow 33 = .ok (.iload_n 2, 1) := by decide +kernel
theorem dX10_allBelow_34 : decode cX10_allBelow 34 = .ok (.invokevirtual 137, 3) := by decide +kernel
theorem dX10_allBelow_37 : decode cX10_allBelow 37 = .ok (.ifCond .eq 10, 3) := by decide +kernel
theorem dX10_allBelow_40 : decode cX10_allBelow 40 = .ok (.iconst 1, 1) := by decide +kernel
theorem dX10_allBelow_41 : decode cX10_allBelow 41 = .ok (.iload 4, 2) := by decide +kernel
theorem dX10_allBelow_43 : decode cX10_allBelow 43 = .ok (.ishl, 1) := by decide +kernel
theorem dX10_allBelow_44 : decode cX10_allBelow 44 = .ok (.goto 4, 3) := by decide +kernel
theorem dX10_allBelow_47 : decode cX10_allBelow 47 = .ok (.iconst 0, 1) := by decide +kernel
theorem dX10_allBelow_48 : decode cX10_allBelow 48 = .ok (.ior, 1) := by decide +kernel
theorem dX10_allBelow_49 : decode cX10_allBelow 49 = .ok (.istore_n 3, 1) := by decide +kernel
theorem dX10_allBelow_50 : decode cX10_allBelow 50 = .ok (.iinc 4 1, 3) := by decide +kernel
theorem dX10_allBelow_53 : decode cX10_allBelow 53 = .ok (.goto (-48), 3) := by decide +kernel
theorem dX10_allBelow_56 : decode cX10_allBelow 56 = .ok (.iload_n 3, 1) := by decide +kernel
theorem dX10_allBelow_57 : decode cX10_allBelow 57 = .ok (.ireturn, 1) := by decide +kernel
def b_X10_allBelow_48 (k5 : q_H → Nat → Int32 → Int32 → Int32 → Int32 → Option (q_H × Int32)) (h : q_H) (v0 : Nat) (v1 : Int32) (v2 : Int32) (v4 : Int32) (s0 : Int32) (s1 : Int32) : Option (q_H × Int32) :=
  k5 h v0 v1 v2 (s0 ||| s1) (v4 + 1)
def b_X10_allBelow_47 (k5 : q_H → Nat → Int32 → Int32 → Int32 → Int32 → Option (q_H × Int32)) (h : q_H) (v0 : Nat) (v1 : Int32) (v2 : Int32) (v4 : Int32) (s0 : Int32) : Option (q_H × Int32) :=
  b_X10_allBelow_48 k5 h v0 v1 v2 v4 s0 (0)
def b_X10_allBelow_5 (k5 : q_H → Nat → Int32 → Int32 → Int32 → Int32 → Option (q_H × Int32)) (h : q_H) (v0 : Nat) (v1 : Int32) (v2 : Int32) (v3 : Int32) (v4 : Int32) : Option (q_H × Int32) :=
  if (14) ≤ v4 then some (h, v3) else if v4 = v2 then b_X10_allBelow_47 k5 h v0 v1 v2 v4 v3 else Option.bind (f_X10_isThere h v0 v1 v4) (fun q1 => if q1.2 = 0 then b_X10_allBelow_47 k5 q1.1 v0 v1 v2 v4 v3 else Option.bind (f_X10_isUnder q1.1 v0 v1 v4 v2) (fun q2 => if q2.2 = 0 then b_X10_allBelow_47 k5 q2.1 v0 v1 v2 v4 v3 else b_X10_allBelow_48 k5 q2.1 v0 v1 v2 v4 v3 ((1) <<< (v4 &&& 31))))
def l_X10_allBelow_5 : Nat → q_H → Nat → Int32 → Int32 → Int32 → Int32 → Option (q_H × Int32)
  | 0, _, _, _, _, _, _ => none
  | n + 1, h, v0, v1, v2, v3, v4 => b_X10_allBelow_5 (l_X10_allBelow_5 n) h v0 v1 v2 v3 v4
def b_X10_allBelow_0 (h : q_H) (v0 : Nat) (v1 : Int32) (v2 : Int32) : Option (q_H × Int32) :=
  l_X10_allBelow_5 q_FU h v0 v1 v2 (0) (2)
def f_X10_allBelow (h : q_H) (a0 : Nat) (a1 : Int32) (a2 : Int32) : Option (q_H × Int32) := q_chk 9 h a0 (b_X10_allBelow_0 h a0 a1 a2)
set_option maxRecDepth 20000 in
set_option maxHeartbeats 1000000 in
theorem jb_X10_allBelow_48 {G : q_G} {l : Launch} {k0 z0 : Nat} (k5 : q_H → Nat → Int32 → Int32 → Int32 → Int32 → Option (q_H × Int32)) (hk5 : ∀ (h : q_H) (v0 : Nat) (v1 : Int32) (v2 : Int32) (v3 : Int32) (v4 : Int32), q_J G l (RX10, cX10_allBelow, 5, 2, 47, (some .int), "allBelow", []) k0 z0 (q_Z G k0 z0 q_i) 5 [(0, .ref v0), (1, .int v1), (2, .int v2), (3, .int v3), (4, .int v4)] [] h (k5 h v0 v1 v2 v3 v4)) (h : q_H) (v0 : Nat) (v1 : Int32) (v2 : Int32) (v4 : Int32) (s0 : Int32) (s1 : Int32) : q_J G l (RX10, cX10_allBelow, 5, 2, 47, (some .int), "allBelow", []) k0 z0 (q_Z G k0 z0 q_i) 48 [(0, .ref v0), (1, .int v1), (2, .int v2), (4, .int v4)] [.int s1, .int s0] h (b_X10_allBelow_48 k5 h v0 v1 v2 v4 s0 s1) := by
  unfold b_X10_allBelow_48
  refine j_ior (pc := 48) dX10_allBelow_48 ?_
  refine j_istore_n (pc := 49) (lv' := [(3, .int (s0 ||| s1)), (0, .ref v0), (1, .int v1), (2, .int v2), (4, .int v4)]) rfl (by decide) rfl dX10_allBelow_49 ?_
  refine j_inc (pc := 50) (p := 4) (lv' := [(4, .int (v4 + 1)), (3, .int (s0 ||| s1)), (0, .ref v0), (1, .int v1), (2, .int v2)]) rfl ki_1 (by decide) rfl dX10_allBelow_50 ?_
  refine j_goto (pc := 53) (tgt := 5) dX10_allBelow_53 (by decide) ?_
  refine j_sub [2, 3, 4, 1, 0] (lv' := [(0, .ref v0), (1, .int v1), (2, .int v2), (3, .int (s0 ||| s1)), (4, .int (v4 + 1))]) rfl ?_
  exact hk5 _ _ _ _ _ _
set_option maxRecDepth 20000 in
set_option maxHeartbeats 1000000 in
theorem jb_X10_allBelow_47 {G : q_G} {l : Launch} {k0 z0 : Nat} (k5 : q_H → Nat → Int32 → Int32 → Int32 → Int32 → Option (q_H × Int32)) (hk5 : ∀ (h : q_H) (v0 : Nat) (v1 : Int32) (v2 : Int32) (v3 : Int32) (v4 : Int32), q_J G l (RX10, cX10_allBelow, 5, 2, 47, (some .int), "allBelow", []) k0 z0 (q_Z G k0 z0 q_i) 5 [(0, .ref v0), (1, .int v1), (2, .int v2), (3, .int v3), (4, .int v4)] [] h (k5 h v0 v1 v2 v3 v4)) (h : q_H) (v0 : Nat) (v1 : Int32) (v2 : Int32) (v4 : Int32) (s0 : Int32) : q_J G l (RX10, cX10_allBelow, 5, 2, 47, (some .int), "allBelow", []) k0 z0 (q_Z G k0 z0 q_i) 47 [(0, .ref v0), (1, .int v1), (2, .int v2), (4, .int v4)] [.int s0] h (b_X10_allBelow_47 k5 h v0 v1 v2 v4 s0) := by
  unfold b_X10_allBelow_47
  refine j_iconst (pc := 47) ki_0 dX10_allBelow_47 ?_
  exact jb_X10_allBelow_48 k5 hk5 _ _ _ _ _ _ _
set_option maxRecDepth 20000 in
set_option maxHeartbeats 1000000 in
theorem jb_X10_allBelow_5 {G : q_G} {l : Launch} {k0 z0 : Nat} (k5 : q_H → Nat → Int32 → Int32 → Int32 → Int32 → Option (q_H × Int32)) (hk5 : ∀ (h : q_H) (v0 : Nat) (v1 : Int32) (v2 : Int32) (v3 : Int32) (v4 : Int32), q_J G l (RX10, cX10_allBelow, 5, 2, 47, (some .int), "allBelow", []) k0 z0 (q_Z G k0 z0 q_i) 5 [(0, .ref v0), (1, .int v1), (2, .int v2), (3, .int v3), (4, .int v4)] [] h (k5 h v0 v1 v2 v3 v4)) (h : q_H) (v0 : Nat) (v1 : Int32) (v2 : Int32) (v3 : Int32) (v4 : Int32) : q_J G l (RX10, cX10_allBelow, 5, 2, 47, (some .int), "allBelow", []) k0 z0 (q_Z G k0 z0 q_i) 5 [(0, .ref v0), (1, .int v1), (2, .int v2), (3, .int v3), (4, .int v4)] [] h (b_X10_allBelow_5 k5 h v0 v1 v2 v3 v4) := by
  unfold b_X10_allBelow_5
  refine j_iload (pc := 5) (p := 4) rfl dX10_allBelow_5 ?_
  refine j_bipush (pc := 7) kb_14 dX10_allBelow_7 ?_
  refine j_ic_ge (pc := 9) (tgt := 56) dX10_allBelow_9 (by decide) (fun _ => ?_) (fun _ => ?_)
  · refine j_iload_n (pc := 56) (p := 3) rfl rfl dX10_allBelow_56 ?_
    exact j_iret (pc := 57) rfl dX10_allBelow_57
  refine j_iload_n (pc := 12) (p := 3) rfl rfl dX10_allBelow_12 ?_
  refine j_iload (pc := 13) (p := 4) rfl dX10_allBelow_13 ?_
  refine j_iload_n (pc := 15) (p := 2) rfl rfl dX10_allBelow_15 ?_
  refine j_ic_eq (pc := 16) (tgt := 47) dX10_allBelow_16 (by decide) (fun _ => ?_) (fun _ => ?_)
  · refine j_sub [0, 1, 2, 4] (lv' := [(0, .ref v0), (1, .int v1), (2, .int v2), (4, .int v4)]) rfl ?_
    exact jb_X10_allBelow_47 k5 hk5 _ _ _ _ _ _
  refine j_aload_n (pc := 19) (p := 0) rfl rfl dX10_allBelow_19 ?_
  refine j_iload_n (pc := 20) (p := 1) rfl rfl dX10_allBelow_20 ?_
  refine j_iload (pc := 21) (p := 4) rfl dX10_allBelow_21 ?_
  refine j_cVi (pc := 23) Y_X10_isThere (ci := 9) (b := v0) rfl rfl ml_X10_133 im_X10_isThere se_X10_isThere ⟨Nat.le_of_ble_eq_true rfl, Nat.le_of_ble_eq_true rfl⟩ dX10_allBelow_23 (As := [.int v1, .int v4]) (rest := [.int v3]) rfl rfl (Nat.le_of_ble_eq_true rfl) (fun x hq9 => c_X10_isThere _ _ _ _ _ hq9) (fun q1 _ => ?_)
  refine j_if_eq (pc := 26) (tgt := 47) dX10_allBelow_26 (by decide) (fun _ => ?_) (fun _ => ?_)
  · refine j_sub [0, 1, 2, 4] (lv' := [(0, .ref v0), (1, .int v1), (2, .int v2), (4, .int v4)]) rfl ?_
    exact jb_X10_allBelow_47 k5 hk5 _ _ _ _ _ _
  refine j_aload_n (pc := 29) (p := 0) rfl rfl dX10_allBelow_29 ?_
  refine j_iload_n (pc := 30) (p := 1) rfl rfl dX10_allBelow_30 ?_
  refine j_iload (pc := 31) (p := 4) rfl dX10_allBelow_31 ?_
  refine j_iload_n (pc := 33) (p := 2) rfl rfl dX10_allBelow_33 ?_
  refine j_cVi (pc := 34) Y_X10_isUnder (ci := 9) (b := v0) rfl rfl ml_X10_137 im_X10_isUnder se_X10_isUnder ⟨Nat.le_of_ble_eq_true rfl, Nat.le_of_ble_eq_true rfl⟩ dX10_allBelow_34 (As := [.int v1, .int v4, .int v2]) (rest := [.int v3]) rfl rfl (Nat.le_of_ble_eq_true rfl) (fun x hq9 => c_X10_isUnder _ _ _ _ _ _ hq9) (fun q2 _ => ?_)
  refine j_if_eq (pc := 37) (tgt := 47) dX10_allBelow_37 (by decide) (fun _ => ?_) (fun _ => ?_)
  · refine j_sub [0, 1, 2, 4] (lv' := [(0, .ref v0), (1, .int v1), (2, .int v2), (4, .int v4)]) rfl ?_
    exact jb_X10_allBelow_47 k5 hk5 _ _ _ _ _ _
  refine j_iconst (pc := 40) ki_1 dX10_allBelow_40 ?_
  refine j_iload (pc := 41) (p := 4) rfl dX10_allBelow_41 ?_
  refine j_ishl (pc := 43) dX10_allBelow_43 ?_
  refine j_goto (pc := 44) (tgt := 48) dX10_allBelow_44 (by decide) ?_
  refine j_sub [0, 1, 2, 4] (lv' := [(0, .ref v0), (1, .int v1), (2, .int v2), (4, .int v4)]) rfl ?_
  exact jb_X10_allBelow_48 k5 hk5 _ _ _ _ _ _ _
set_option maxRecDepth 20000 in
set_option maxHeartbeats 1000000 in
theorem jl_X10_allBelow_5 {G : q_G} {l : Launch} {k0 z0 : Nat} (n : Nat) : ∀ (h : q_H) (v0 : Nat) (v1 : Int32) (v2 : Int32) (v3 : Int32) (v4 : Int32), q_J G l (RX10, cX10_allBelow, 5, 2, 47, (some .int), "allBelow", []) k0 z0 (q_Z G k0 z0 q_i) 5 [(0, .ref v0), (1, .int v1), (2, .int v2), (3, .int v3), (4, .int v4)] [] h (l_X10_allBelow_5 n h v0 v1 v2 v3 v4) := by
  induction n with
  | zero => intro h v0 v1 v2 v3 v4; exact j_none
  | succ n ih => intro h v0 v1 v2 v3 v4; exact jb_X10_allBelow_5 (l_X10_allBelow_5 n) ih h v0 v1 v2 v3 v4
set_option maxRecDepth 20000 in
set_option maxHeartbeats 1000000 in
theorem jb_X10_allBelow_0 {G : q_G} {l : Launch} {k0 z0 : Nat} (h : q_H) (v0 : Nat) (v1 : Int32) (v2 : Int32) : q_J G l (RX10, cX10_allBelow, 5, 2, 47, (some .int), "allBelow", []) k0 z0 (q_Z G k0 z0 q_i) 0 [(0, .ref v0), (1, .int v1), (2, .int v2)] [] h (b_X10_allBelow_0 h v0 v1 v2) := by
  unfold b_X10_allBelow_0
  refine j_iconst (pc := 0) ki_0 dX10_allBelow_0 ?_
  refine j_istore_n (pc := 1) (lv' := [(3, .int (0)), (0, .ref v0), (1, .int v1), (2, .int v2)]) rfl (by decide) rfl dX10_allBelow_1 ?_
  refine j_iconst (pc := 2) ki_2 dX10_allBelow_2 ?_
  refine j_istore (pc := 3) (lv' := [(4, .int (2)), (3, .int (0)), (0, .ref v0), (1, .int v1), (2, .int v2)]) (by decide) rfl dX10_allBelow_3 ?_
  refine j_sub [2, 3, 4, 1, 0] (lv' := [(0, .ref v0), (1, .int v1), (2, .int v2), (3, .int (0)), (4, .int (2))]) rfl ?_
  exact jl_X10_allBelow_5 q_FU _ _ _ _ _ _
set_option maxRecDepth 20000 in
set_option maxHeartbeats 1000000 in
theorem c_X10_allBelow {G : q_G} {l : Launch} : ∀ (h : q_H) (a0 : Nat) (a1 : Int32) (a2 : Int32) (q : q_H × Int32), f_X10_allBelow h a0 a1 a2 = some q → (∃ fs, h.1 a0 = .inr (9, fs)) ∧ q_CT G l yX10_allBelow cX10_allBelow 5 (some .int) 2 47 [.ref a0, .int a1, .int a2] h q.1 (q_i q.2) := by
  intro h a0 a1 a2 q e
  obtain ⟨e1, e2⟩ := q_chk_ok e
  exact ⟨e1, q_ofJ Y_X10_allBelow (Nat.le_of_ble_eq_true rfl) (jb_X10_allBelow_0 h a0 a1 a2) q e2⟩
/-! FarFoldersModel.isCopy(I)Z -/
theorem dX10_isCopy_0 : decode cX10_isCopy 0 = .ok (.iload_n 0, 1) := by decide +kernel
theorem dX10_isCopy_1 : decode cX10_isCopy 1 = .ok (.i2l, 1) := by decide +kernel
theorem dX10_isCopy_2 : decode cX10_isCopy 2 = .ok (.lconst 0, 1) := by decide +kernel
theorem dX10_isCopy_3 : decode cX10_isCopy 3 = .ok (.ldc2_w 97, 3) := by decide +kernel
theorem dX10_isCopy_6 : decode cX10_isCopy 6 = .ok (.invokestatic 21, 3) := by decide +kernel
theorem dX10_isCopy_9 : decode cX10_isCopy 9 = .ok (.ireturn, 1) := by decide +kernel
def b_X10_isCopy_0 (h : q_H) (v0 : Int32) : Option (q_H × Int32) :=
  Option.bind (f_X10_in h (Int32.toInt64 v0) (0) (2)) (fun q1 => some (q1.1, vp_nar .boolean q1.2))
def f_X10_isCopy (h : q_H) (a0 : Int32) : Option (q_H × Int32) := b_X10_isCopy_0 h a0
set_option maxRecDepth 20000 in
set_option maxHeartbeats 1000000 in
theorem jb_X10_isCopy_0 {G : q_G} {l : Launch} {k0 z0 : Nat} (h : q_H) (v0 : Int32) : q_J G l (RX10, cX10_isCopy, 1, 1, 25, (some .boolean), "isCopy", []) k0 z0 (q_Z G k0 z0 q_i) 0 [(0, .int v0)] [] h (b_X10_isCopy_0 h v0) := by
  unfold b_X10_isCopy_0
  refine j_iload_n (pc := 0) (p := 0) rfl rfl dX10_isCopy_0 ?_
  refine j_i2l (pc := 1) dX10_isCopy_1 ?_
  refine j_lconst (pc := 2) kl_0 dX10_isCopy_2 ?_
  refine j_ldc2 (pc := 3) cL_X10_97 dX10_isCopy_3 ?_
  refine j_cSi (pc := 6) Y_X10_in ml_X10_21 sm_X10_in ⟨Nat.le_of_ble_eq_true rfl, Nat.le_of_ble_eq_true rfl⟩ dX10_isCopy_6 (As := [.long (Int32.toInt64 v0), .long (0), .long (2)]) (rest := []) rfl rfl (Nat.le_of_ble_eq_true rfl) (fun x hq9 => c_X10_in _ _ _ _ _ hq9) (fun q1 _ => ?_)
  exact j_zret (pc := 9) rfl (q_narz _) dX10_isCopy_9
set_option maxRecDepth 20000 in
set_option maxHeartbeats 1000000 in
theorem c_X10_isCopy {G : q_G} {l : Launch} : ∀ (h : q_H) (a0 : Int32) (q : q_H × Int32), f_X10_isCopy h a0 = some q → q_CT G l yX10_isCopy cX10_isCopy 1 (some .boolean) 1 25 [.int a0] h q.1 (q_i q.2) := by
  intro h a0 q e
  exact q_ofJ Y_X10_isCopy (Nat.le_of_ble_eq_true rfl) (jb_X10_isCopy_0 h a0) q e
/-! FarFoldersModel.areTwo(II)Z -/
theorem dX10_areTwo_0 : decode cX10_areTwo 0 = .ok (.iload_n 0, 1) := by decide +kernel
theorem dX10_areTwo_1 : decode cX10_areTwo 1 = .ok (.invokestatic 101, 3) := by decide +kernel
theorem dX10_areTwo_4 : decode cX10_areTwo 4 = .ok (.ifCond .eq 19, 3) := by decide +kernel
theorem dX10_areTwo_7 : decode cX10_areTwo 7 = .ok (.iload_n 1, 1) := by decide +kernel
theorem dX10_areTwo_8 : decode cX10_areTwo 8 = .ok (.invokestatic 101, 3) := by decide +kernel
theorem dX10_areTwo_11 : decode cX10_areTwo 11 = .ok (.ifCond .eq 12, 3) := by decide +kernel
theorem dX10_areTwo_14 : decode cX10_areTwo 14 = .ok (.iload_n 0, 1) := by decide +kernel
theorem dX10_areTwo_15 : decode cX10_areTwo 15 = .ok (.iload_n 1, 1) := by decide +kernel
theorem dX10_areTwo_16 : decode cX10_areTwo 16 = .ok (.if_icmp .eq 7, 3) := by decide +kernel
theorem dX10_areTwo_19 : decode cX10_areTwo 19 = .ok (.iconst 1, 1) := by decide +kernel
theorem dX10_areTwo_20 : decode cX10_areTwo 20 = .ok (.goto 4, 3) := by decide +kernel
theorem dX10_areTwo_23 : decode cX10_areTwo 23 = .ok (.iconst 0, 1) := by decide +kernel
theorem dX10_areTwo_24 : decode cX10_areTwo 24 = .ok (.ireturn, 1) := by decide +kernel
def b_X10_areTwo_0 (h : q_H) (v0 : Int32) (v1 : Int32) : Option (q_H × Int32) :=
  Option.bind (f_X10_isCopy h v0) (fun q1 => if q1.2 = 0 then some (q1.1, (0)) else Option.bind (f_X10_isCopy q1.1 v1) (fun q2 => if q2.2 = 0 then some (q2.1, (0)) else if v0 = v1 then some (q2.1, (0)) else some (q2.1, (1))))
def f_X10_areTwo (h : q_H) (a0 : Int32) (a1 : Int32) : Option (q_H × Int32) := b_X10_areTwo_0 h a0 a1
set_option maxRecDepth 20000 in
set_option maxHeartbeats 1000000 in
theorem jb_X10_areTwo_0 {G : q_G} {l : Launch} {k0 z0 : Nat} (h : q_H) (v0 : Int32) (v1 : Int32) : q_J G l (RX10, cX10_areTwo, 2, 2, 45, (some .boolean), "areTwo", []) k0 z0 (q_Z G k0 z0 q_i) 0 [(0, .int v0), (1, .int v1)] [] h (b_X10_areTwo_0 h v0 v1) := by
  unfold b_X10_areTwo_0
  refine j_iload_n (pc := 0) (p := 0) rfl rfl dX10_areTwo_0 ?_
  refine j_cSi (pc := 1) Y_X10_isCopy ml_X10_101 sm_X10_isCopy ⟨Nat.le_of_ble_eq_true rfl, Nat.le_of_ble_eq_true rfl⟩ dX10_areTwo_1 (As := [.int v0]) (rest := []) rfl rfl (Nat.le_of_ble_eq_true rfl) (fun x hq9 => c_X10_isCopy _ _ _ hq9) (fun q1 _ => ?_)
  refine j_if_eq (pc := 4) (tgt := 23) dX10_areTwo_4 (by decide) (fun _ => ?_) (fun _ => ?_)
  · refine j_iconst (pc := 23) ki_0 dX10_areTwo_23 ?_
    exact j_zret (pc := 24) rfl rfl dX10_areTwo_24
  refine j_iload_n (pc := 7) (p := 1) rfl rfl dX10_areTwo_7 ?_
  refine j_cSi (pc := 8) Y_X10_isCopy ml_X10_101 sm_X10_isCopy ⟨Nat.le_of_ble_eq_true rfl, Nat.le_of_ble_eq_true rfl⟩ dX10_areTwo_8 (As := [.int v1]) (rest := []) rfl rfl (Nat.le_of_ble_eq_true rfl) (fun x hq9 => c_X10_isCopy _ _ _ hq9) (fun q2 _ => ?_)
  refine j_if_eq (pc := 11) (tgt := 23) dX10_areTwo_11 (by decide) (fun _ => ?_) (fun _ => ?_)
  · refine j_iconst (pc := 23) ki_0 dX10_areTwo_23 ?_
    exact j_zret (pc := 24) rfl rfl dX10_areTwo_24
  refine j_iload_n (pc := 14) (p := 0) rfl rfl dX10_areTwo_14 ?_
  refine j_iload_n (pc := 15) (p := 1) rfl rfl dX10_areTwo_15 ?_
  refine j_ic_eq (pc := 16) (tgt := 23) dX10_areTwo_16 (by decide) (fun _ => ?_) (fun _ => ?_)
  · refine j_iconst (pc := 23) ki_0 dX10_areTwo_23 ?_
    exact j_zret (pc := 24) rfl rfl dX10_areTwo_24
  refine j_iconst (pc := 19) ki_1 dX10_areTwo_19 ?_
  refine j_goto (pc := 20) (tgt := 24) dX10_areTwo_20 (by decide) ?_
  exact j_zret (pc := 24) rfl rfl dX10_areTwo_24
set_option maxRecDepth 20000 in
set_option maxHeartbeats 1000000 in
theorem c_X10_areTwo {G : q_G} {l : Launch} : ∀ (h : q_H) (a0 : Int32) (a1 : Int32) (q : q_H × Int32), f_X10_areTwo h a0 a1 = some q → q_CT G l yX10_areTwo cX10_areTwo 2 (some .boolean) 2 45 [.int a0, .int a1] h q.1 (q_i q.2) := by
  intro h a0 a1 q e
  exact q_ofJ Y_X10_areTwo (Nat.le_of_ble_eq_true rfl) (jb_X10_areTwo_0 h a0 a1) q e
/-! FarFoldersModel.moveOf(II)I -/
theorem dX10_moveOf_0 : decode cX10_moveOf 0 = .ok (.sipush 183, 3) := by decide +kernel
theorem dX10_moveOf_3 : decode cX10_moveOf 3 = .ok (.iconst 5, 1) := by decide +kernel
theorem dX10_moveOf_4 : decode cX10_moveOf 4 = .ok (.bipush 20, 2) := by decide +kernel
theorem dX10_moveOf_6 : decode cX10_moveOf 6 = .ok (.iload_n 0, 1) := by decide +kernel
theorem dX10_moveOf_7 : decode cX10_moveOf 7 = .ok (.imul, 1) := by decide +kernel
theorem dX10_moveOf_8 : decode cX10_moveOf 8 = .ok (.iload_n 1, 1) := by decide +kernel
theorem dX10_moveOf_9 : decode cX10_moveOf 9 = .ok (.iadd, 1) := by decide +kernel
theorem dX10_moveOf_10 : decode cX10_moveOf 10 = .ok (.imul, 1) := by decide +kernel
theorem dX10_moveOf_11 : decode cX10_moveOf 11 = .ok (.iadd, 1) := by decide +kernel
theorem dX10_moveOf_12 : decode cX10_moveOf 12 = .ok (.ireturn, 1) := by decide +kernel
def b_X10_moveOf_0 (h : q_H) (v0 : Int32) (v1 : Int32) : Option (q_H × Int32) :=
  some (h, ((183) + ((5) * (((20) * v0) + v1))))
def f_X10_moveOf (h : q_H) (a0 : Int32) (a1 : Int32) : Option (q_H × Int32) := b_X10_moveOf_0 h a0 a1
set_option maxRecDepth 20000 in
set_option maxHeartbeats 1000000 in
theorem jb_X10_moveOf_0 {G : q_G} {l : Launch} {k0 z0 : Nat} (h : q_H) (v0 : Int32) (v1 : Int32) : q_J G l (RX10, cX10_moveOf, 2, 0, 0, (some .int), "moveOf", []) k0 z0 (q_Z G k0 z0 q_i) 0 [(0, .int v0), (1, .int v1)] [] h (b_X10_moveOf_0 h v0 v1) := by
  unfold b_X10_moveOf_0
  refine j_sipush (pc := 0) ks_183 dX10_moveOf_0 ?_
  refine j_iconst (pc := 3) ki_5 dX10_moveOf_3 ?_
  refine j_bipush (pc := 4) kb_20 dX10_moveOf_4 ?_
  refine j_iload_n (pc := 6) (p := 0) rfl rfl dX10_moveOf_6 ?_
  refine j_imul (pc := 7) dX10_moveOf_7 ?_
  refine j_iload_n (pc := 8) (p := 1) rfl rfl dX10_moveOf_8 ?_
  refine j_iadd (pc := 9) dX10_moveOf_9 ?_
  refine j_imul (pc := 10) dX10_moveOf_10 ?_
  refine j_iadd (pc := 11) dX10_moveOf_11 ?_
  exact j_iret (pc := 12) rfl dX10_moveOf_12
set_option maxRecDepth 20000 in
set_option maxHeartbeats 1000000 in
theorem c_X10_moveOf {G : q_G} {l : Launch} : ∀ (h : q_H) (a0 : Int32) (a1 : Int32) (q : q_H × Int32), f_X10_moveOf h a0 a1 = some q → q_CT G l yX10_moveOf cX10_moveOf 2 (some .int) 0 0 [.int a0, .int a1] h q.1 (q_i q.2) := by
  intro h a0 a1 q e
  exact q_ofJ Y_X10_moveOf (Nat.le_of_ble_eq_true rfl) (jb_X10_moveOf_0 h a0 a1) q e
/-! FarFoldersModel.loads(I)V -/
theorem dX10_loads_0 : decode cX10_loads 0 = .ok (.aload_n 0, 1) := by decide +kernel
theorem dX10_loads_1 : decode cX10_loads 1 = .ok (.aload_n 0, 1) := by decide +kernel
theorem dX10_loads_2 : decode cX10_loads 2 = .ok (.getfield 47, 3) := by decide +kernel
theorem dX10_loads_5 : decode cX10_loads 5 = .ok (.sipush 180, 3) := by decide +kernel
theorem dX10_loads_8 : decode cX10_loads 8 = .ok (.iload_n 1, 1) := by decide +kernel
theorem dX10_loads_9 : decode cX10_loads 9 = .ok (.iadd, 1) := by decide +kernel
theorem dX10_loads_10 : decode cX10_loads 10 = .ok (.iaload, 1) := by decide +kernel
theorem dX10_loads_11 : decode cX10_loads 11 = .ok (.putfield 105, 3) := by decide +kernel
theorem dX10_loads_14 : decode cX10_loads 14 = .ok (.iconst 0, 1) := by decide +kernel
theorem dX10_loads_15 : decode cX10_loads 15 = .ok (.istore_n 2, 1) := by decide +kernel
theorem dX10_loads_16 : decode cX10_loads 16 = .ok (.iload_n 2, 1) := by decide +kernel
theorem dX10_loads_17 : decode cX10_loads 17 = .ok (.iconst 5, 1) := by decide +kernel
theorem dX10_loads_18 : decode cX10_loads 18 = .ok (.aload_n 0, 1) := by decide +kernel
theorem dX10_loads_19 : decode cX10_loads 19 = .ok (.getfield 105, 3) := by decide +kernel
theorem dX10_loads_22 : decode cX10_loads 22 = .ok (.imul, 1) := by decide +kernel
theorem dX10_loads_23 : decode cX10_loads 23 = .ok (.if_icmp .ge 27, 3) := by decide +kernel
theorem dX10_loads_26 : decode cX10_loads 26 = .ok (.aload_n 0, 1) := by decide +kernel
theorem dX10_loads_27 : decode cX10_loads 27 = .ok (.getfield 50, 3) := by decide +kernel
theorem dX10_loads_30 : decode cX10_loads 30 = .ok (.iload_n 2, 1) := by decide +kernel
theorem dX10_loads_31 : decode cX10_loads 31 = .ok (.aload_n 0, 1) := by decide +kernel
theorem dX10_loads_32 : decode cX10_loads 32 = .ok (.getfield 47, 3) := by decide +kernel
theorem dX10_loads_35 : decode cX10_loads 35 = .ok (.iload_n 1, 1) := by decide +kernel
theorem dX10_loads_36 : decode cX10_loads 36 = .ok (.iconst 0, 1) := by decide +kernel
theorem dX10_loads_37 : decode cX10_loads 37 = .ok (.invokestatic 108, 3) := by decide +kernel
theorem dX10_loads_40 : decode cX10_loads 40 = .ok (.iload_n 2, 1) := by decide +kernel
theorem dX10_loads_41 : decode cX10_loads 41 = .ok (.iadd, 1) := by decide +kernel
theorem dX10_loads_42 : decode cX10_loads 42 = .ok (.iaload, 1) := by decide +kernel
theorem dX10_loads_43 : decode cX10_loads 43 = .ok (.iastore, 1) := by decide +kernel
theorem dX10_loads_44 : decode cX10_loads 44 = .ok (.iinc 2 1, 3) := by decide +kernel
theorem dX10_loads_47 : decode cX10_loads 47 = .ok (.goto (-31), 3) := by decide +kernel
theorem dX10_loads_50 : decode cX10_loads 50 = .ok (.return_, 1) := by decide +kernel
def b_X10_loads_16 (k16 : q_H → Nat → Int32 → Int32 → Option (q_H × Unit)) (h : q_H) (v0 : Nat) (v1 : Int32) (v2 : Int32) : Option (q_H × Unit) :=
  Option.bind (q_gI 9 9 h v0) (fun x1 => if ((5) * x1) ≤ v2 then some (h, ()) else Option.bind (q_gR 9 8 h v0) (fun x2 => Option.bind (q_gR 9 7 h v0) (fun x3 => Option.bind (f_X10_moveOf h v1 (0)) (fun q4 => Option.bind (q_lI 0 q4.1 x3 (q4.2 + v2)) (fun x5 => Option.bind (q_sI 0 id q4.1 x2 v2 x5) (fun h6 => k16 h6 v0 v1 (v2 + 1)))))))
def l_X10_loads_16 : Nat → q_H → Nat → Int32 → Int32 → Option (q_H × Unit)
  | 0, _, _, _, _ => none
  | n + 1, h, v0, v1, v2 => b_X10_loads_16 (l_X10_loads_16 n) h v0 v1 v2
def b_X10_loads_0 (h : q_H) (v0 : Nat) (v1 : Int32) : Option (q_H × Unit) :=
  Option.bind (q_gR 9 7 h v0) (fun x7 => Option.bind (q_lI 0 h x7 ((180) + v1)) (fun x8 => Option.bind (q_p 9 9 h v0 (.int x8)) (fun h9 => l_X10_loads_16 q_FU h9 v0 v1 (0))))
def f_X10_loads (h : q_H) (a0 : Nat) (a1 : Int32) : Option (q_H × Unit) := q_chk 9 h a0 (b_X10_loads_0 h a0 a1)
set_option maxRecDepth 20000 in
set_option maxHeartbeats 1000000 in
theorem jb_X10_loads_16 {G : q_G} {l : Launch} {k0 z0 : Nat} (k16 : q_H → Nat → Int32 → Int32 → Option (q_H × Unit)) (hk16 : ∀ (h : q_H) (v0 : Nat) (v1 : Int32) (v2 : Int32), q_J G l (RX10, cX10_loads, 3, 1, 21, none, "loads", []) k0 z0 (q_Z G k0 z0 q_u) 16 [(0, .ref v0), (1, .int v1), (2, .int v2)] [] h (k16 h v0 v1 v2)) (h : q_H) (v0 : Nat) (v1 : Int32) (v2 : Int32) : q_J G l (RX10, cX10_loads, 3, 1, 21, none, "loads", []) k0 z0 (q_Z G k0 z0 q_u) 16 [(0, .ref v0), (1, .int v1), (2, .int v2)] [] h (b_X10_loads_16 k16 h v0 v1 v2) := by
  unfold b_X10_loads_16
  refine j_iload_n (pc := 16) (p := 2) rfl rfl dX10_loads_16 ?_
  refine j_iconst (pc := 17) ki_5 dX10_loads_17 ?_
  refine j_aload_n (pc := 18) (p := 0) rfl rfl dX10_loads_18 ?_
  refine j_getI (pc := 19) FI_X10 (k := 9) (by decide) fl_X10_105 dX10_loads_19 (fun x1 _ => ?_)
  refine j_imul (pc := 22) dX10_loads_22 ?_
  refine j_ic_ge (pc := 23) (tgt := 50) dX10_loads_23 (by decide) (fun _ => ?_) (fun _ => ?_)
  · exact j_vret (pc := 50) rfl dX10_loads_50
  refine j_aload_n (pc := 26) (p := 0) rfl rfl dX10_loads_26 ?_
  refine j_getR (pc := 27) FI_X10 (k := 8) (by decide) fl_X10_50 dX10_loads_27 (fun x2 _ => ?_)
  refine j_iload_n (pc := 30) (p := 2) rfl rfl dX10_loads_30 ?_
  refine j_aload_n (pc := 31) (p := 0) rfl rfl dX10_loads_31 ?_
  refine j_getR (pc := 32) FI_X10 (k := 7) (by decide) fl_X10_47 dX10_loads_32 (fun x3 _ => ?_)
  refine j_iload_n (pc := 35) (p := 1) rfl rfl dX10_loads_35 ?_
  refine j_iconst (pc := 36) ki_0 dX10_loads_36 ?_
  refine j_cSi (pc := 37) Y_X10_moveOf ml_X10_108 sm_X10_moveOf ⟨Nat.le_of_ble_eq_true rfl, Nat.le_of_ble_eq_true rfl⟩ dX10_loads_37 (As := [.int v1, .int (0)]) (rest := [.ref x3, .int v2, .ref x2]) rfl rfl (Nat.le_of_ble_eq_true rfl) (fun x hq9 => c_X10_moveOf _ _ _ _ hq9) (fun q4 _ => ?_)
  refine j_iload_n (pc := 40) (p := 2) rfl rfl dX10_loads_40 ?_
  refine j_iadd (pc := 41) dX10_loads_41 ?_
  refine j_iald (pc := 42) dX10_loads_42 (fun x5 _ => ?_)
  refine j_iast (pc := 43) dX10_loads_43 (fun h6 _ => ?_)
  refine j_inc (pc := 44) (p := 2) (lv' := [(2, .int (v2 + 1)), (0, .ref v0), (1, .int v1)]) rfl ki_1 (by decide) rfl dX10_loads_44 ?_
  refine j_goto (pc := 47) (tgt := 16) dX10_loads_47 (by decide) ?_
  refine j_sub [1, 2, 0] (lv' := [(0, .ref v0), (1, .int v1), (2, .int (v2 + 1))]) rfl ?_
  exact hk16 _ _ _ _
set_option maxRecDepth 20000 in
set_option maxHeartbeats 1000000 in
theorem jl_X10_loads_16 {G : q_G} {l : Launch} {k0 z0 : Nat} (n : Nat) : ∀ (h : q_H) (v0 : Nat) (v1 : Int32) (v2 : Int32), q_J G l (RX10, cX10_loads, 3, 1, 21, none, "loads", []) k0 z0 (q_Z G k0 z0 q_u) 16 [(0, .ref v0), (1, .int v1), (2, .int v2)] [] h (l_X10_loads_16 n h v0 v1 v2) := by
  induction n with
  | zero => intro h v0 v1 v2; exact j_none
  | succ n ih => intro h v0 v1 v2; exact jb_X10_loads_16 (l_X10_loads_16 n) ih h v0 v1 v2
set_option maxRecDepth 20000 in
set_option maxHeartbeats 1000000 in
theorem jb_X10_loads_0 {G : q_G} {l : Launch} {k0 z0 : Nat} (h : q_H) (v0 : Nat) (v1 : Int32) : q_J G l (RX10, cX10_loads, 3, 1, 21, none, "loads", []) k0 z0 (q_Z G k0 z0 q_u) 0 [(0, .ref v0), (1, .int v1)] [] h (b_X10_loads_0 h v0 v1) := by
  unfold b_X10_loads_0
  refine j_aload_n (pc := 0) (p := 0) rfl rfl dX10_loads_0 ?_
  refine j_aload_n (pc := 1) (p := 0) rfl rfl dX10_loads_1 ?_
  refine j_getR (pc := 2) FI_X10 (k := 7) (by decide) fl_X10_47 dX10_loads_2 (fun x7 _ => ?_)
  refine j_sipush (pc := 5) ks_180 dX10_loads_5 ?_
  refine j_iload_n (pc := 8) (p := 1) rfl rfl dX10_loads_8 ?_
  refine j_iadd (pc := 9) dX10_loads_9 ?_
  refine j_iald (pc := 10) dX10_loads_10 (fun x8 _ => ?_)
  refine j_put (pc := 11) FI_X10 (k := 9) (by decide) fl_X10_105 rfl rfl rfl dX10_loads_11 (fun h9 _ => ?_)
  refine j_iconst (pc := 14) ki_0 dX10_loads_14 ?_
  refine j_istore_n (pc := 15) (lv' := [(2, .int (0)), (0, .ref v0), (1, .int v1)]) rfl (by decide) rfl dX10_loads_15 ?_
  refine j_sub [1, 2, 0] (lv' := [(0, .ref v0), (1, .int v1), (2, .int (0))]) rfl ?_
  exact jl_X10_loads_16 q_FU _ _ _ _
set_option maxRecDepth 20000 in
set_option maxHeartbeats 1000000 in
theorem c_X10_loads {G : q_G} {l : Launch} : ∀ (h : q_H) (a0 : Nat) (a1 : Int32) (q : q_H × Unit), f_X10_loads h a0 a1 = some q → (∃ fs, h.1 a0 = .inr (9, fs)) ∧ q_CT G l yX10_loads cX10_loads 3 none 1 21 [.ref a0, .int a1] h q.1 (q_u q.2) := by
  intro h a0 a1 q e
  obtain ⟨e1, e2⟩ := q_chk_ok e
  exact ⟨e1, q_ofJ Y_X10_loads (Nat.le_of_ble_eq_true rfl) (jb_X10_loads_0 h a0 a1) q e2⟩
/-! FarFoldersModel.baseOf(II)I -/
theorem dX10_baseOf_0 : decode cX10_baseOf 0 = .ok (.bipush 12, 2) := by decide +kernel
theorem dX10_baseOf_2 : decode cX10_baseOf 2 = .ok (.iconst 4, 1) := by decide +kernel
theorem dX10_baseOf_3 : decode cX10_baseOf 3 = .ok (.bipush 14, 2) := by decide +kernel
theorem dX10_baseOf_5 : decode cX10_baseOf 5 = .ok (.iload_n 0, 1) := by decide +kernel
theorem dX10_baseOf_6 : decode cX10_baseOf 6 = .ok (.imul, 1) := by decide +kernel
theorem dX10_baseOf_7 : decode cX10_baseOf 7 = .ok (.iload_n 1, 1) := by decide +kernel
theorem dX10_baseOf_8 : decode cX10_baseOf 8 = .ok (.iadd, 1) := by decide +kernel
theorem dX10_baseOf_9 : decode cX10_baseOf 9 = .ok (.imul, 1) := by decide +kernel
theorem dX10_baseOf_10 : decode cX10_baseOf 10 = .ok (.iadd, 1) := by decide +kernel
theorem dX10_baseOf_11 : decode cX10_baseOf 11 = .ok (.ireturn, 1) := by decide +kernel
def b_X10_baseOf_0 (h : q_H) (v0 : Int32) (v1 : Int32) : Option (q_H × Int32) :=
  some (h, ((12) + ((4) * (((14) * v0) + v1))))
def f_X10_baseOf (h : q_H) (a0 : Int32) (a1 : Int32) : Option (q_H × Int32) := b_X10_baseOf_0 h a0 a1
set_option maxRecDepth 20000 in
set_option maxHeartbeats 1000000 in
theorem jb_X10_baseOf_0 {G : q_G} {l : Launch} {k0 z0 : Nat} (h : q_H) (v0 : Int32) (v1 : Int32) : q_J G l (RX10, cX10_baseOf, 2, 0, 0, (some .int), "baseOf", []) k0 z0 (q_Z G k0 z0 q_i) 0 [(0, .int v0), (1, .int v1)] [] h (b_X10_baseOf_0 h v0 v1) := by
  unfold b_X10_baseOf_0
  refine j_bipush (pc := 0) kb_12 dX10_baseOf_0 ?_
  refine j_iconst (pc := 2) ki_4 dX10_baseOf_2 ?_
  refine j_bipush (pc := 3) kb_14 dX10_baseOf_3 ?_
  refine j_iload_n (pc := 5) (p := 0) rfl rfl dX10_baseOf_5 ?_
  refine j_imul (pc := 6) dX10_baseOf_6 ?_
  refine j_iload_n (pc := 7) (p := 1) rfl rfl dX10_baseOf_7 ?_
  refine j_iadd (pc := 8) dX10_baseOf_8 ?_
  refine j_imul (pc := 9) dX10_baseOf_9 ?_
  refine j_iadd (pc := 10) dX10_baseOf_10 ?_
  exact j_iret (pc := 11) rfl dX10_baseOf_11
set_option maxRecDepth 20000 in
set_option maxHeartbeats 1000000 in
theorem c_X10_baseOf {G : q_G} {l : Launch} : ∀ (h : q_H) (a0 : Int32) (a1 : Int32) (q : q_H × Int32), f_X10_baseOf h a0 a1 = some q → q_CT G l yX10_baseOf cX10_baseOf 2 (some .int) 0 0 [.int a0, .int a1] h q.1 (q_i q.2) := by
  intro h a0 a1 q e
  exact q_ofJ Y_X10_baseOf (Nat.le_of_ble_eq_true rfl) (jb_X10_baseOf_0 h a0 a1) q e
/-! FarFoldersModel.canGo(III)Z -/
theorem dX10_canGo_0 : decode cX10_canGo 0 = .ok (.aload_n 0, 1) := by decide +kernel
theorem dX10_canGo_1 : decode cX10_canGo 1 = .ok (.iload_n 1, 1) := by decide +kernel
theorem dX10_canGo_2 : decode cX10_canGo 2 = .ok (.iload_n 3, 1) := by decide +kernel
theorem dX10_canGo_3 : decode cX10_canGo 3 = .ok (.invokevirtual 133, 3) := by decide +kernel
theorem dX10_canGo_6 : decode cX10_canGo 6 = .ok (.ifCond .eq 31, 3) := by decide +kernel
theorem dX10_canGo_9 : decode cX10_canGo 9 = .ok (.iload_n 3, 1) := by decide +kernel
theorem dX10_canGo_10 : decode cX10_canGo 10 = .ok (.iload_n 2, 1) := by decide +kernel
theorem dX10_canGo_11 : decode cX10_canGo 11 = .ok (.if_icmp .eq 26, 3) := by decide +kernel
theorem dX10_canGo_14 : decode cX10_canGo 14 = .ok (.aload_n 0, 1) := by decide +kernel
theorem dX10_canGo_15 : decode cX10_canGo 15 = .ok (.iload_n 1, 1) := by decide +kernel
theorem dX10_canGo_16 : decode cX10_canGo 16 = .ok (.iload_n 2, 1) := by decide +kernel
theorem dX10_canGo_17 : decode cX10_canGo 17 = .ok (.invokevirtual 133, 3) := by decide +kernel
theorem dX10_canGo_20 : decode cX10_canGo 20 = .ok (.ifCond .eq 13, 3) := by decide +kernel
theorem dX10_canGo_23 : decode cX10_canGo 23 = .ok (.aload_n 0, 1) := by decide +kernel
theorem dX10_canGo_24 : decode cX10_canGo 24 = .ok (.iload_n 1, 1) := by decide +kernel
theorem dX10_canGo_25 : decode cX10_canGo 25 = .ok (.iload_n 3, 1) := by decide +kernel
theorem dX10_canGo_26 : decode cX10_canGo 26 = .ok (.iload_n 2, 1) := by decide +kernel
theorem dX10_canGo_27 : decode cX10_canGo 27 = .ok (.invokevirtual 137, 3) := by decide +kernel
theorem dX10_canGo_30 : decode cX10_canGo 30 = .ok (.ifCond .ne 7, 3) := by decide +kernel
theorem dX10_canGo_33 : decode cX10_canGo 33 = .ok (.iconst 1, 1) := by decide +kernel
theorem dX10_canGo_34 : decode cX10_canGo 34 = .ok (.goto 4, 3) := by decide +kernel
theorem dX10_canGo_37 : decode cX10_canGo 37 = .ok (.iconst 0, 1) := by decide +kernel
theorem dX10_canGo_38 : decode cX10_canGo 38 = .ok (.ireturn, 1) := by decide +kernel
def b_X10_canGo_0 (h : q_H) (v0 : Nat) (v1 : Int32) (v2 : Int32) (v3 : Int32) : Option (q_H × Int32) :=
  Option.bind (f_X10_isThere h v0 v1 v3) (fun q1 => if q1.2 = 0 then some (q1.1, (0)) else if v3 = v2 then some (q1.1, (0)) else Option.bind (f_X10_isThere q1.1 v0 v1 v2) (fun q2 => if q2.2 = 0 then some (q2.1, (1)) else Option.bind (f_X10_isUnder q2.1 v0 v1 v3 v2) (fun q3 => if q3.2 = 0 then some (q3.1, (1)) else some (q3.1, (0)))))
def f_X10_canGo (h : q_H) (a0 : Nat) (a1 : Int32) (a2 : Int32) (a3 : Int32) : Option (q_H × Int32) := q_chk 9 h a0 (b_X10_canGo_0 h a0 a1 a2 a3)
set_option maxRecDepth 20000 in
set_option maxHeartbeats 1000000 in
theorem jb_X10_canGo_0 {G : q_G} {l : Launch} {k0 z0 : Nat} (h : q_H) (v0 : Nat) (v1 : Int32) (v2 : Int32) (v3 : Int32) : q_J G l (RX10, cX10_canGo, 4, 2, 47, (some .boolean), "canGo", []) k0 z0 (q_Z G k0 z0 q_i) 0 [(0, .ref v0), (1, .int v1), (2, .int v2), (3, .int v3)] [] h (b_X10_canGo_0 h v0 v1 v2 v3) := by
  unfold b_X10_canGo_0
  refine j_aload_n (pc := 0) (p := 0) rfl rfl dX10_canGo_0 ?_
  refine j_iload_n (pc := 1) (p := 1) rfl rfl dX10_canGo_1 ?_
  refine j_iload_n (pc := 2) (p := 3) rfl rfl dX10_canGo_2 ?_
  refine j_cVi (pc := 3) Y_X10_isThere (ci := 9) (b := v0) rfl rfl ml_X10_133 im_X10_isThere se_X10_isThere ⟨Nat.le_of_ble_eq_true rfl, Nat.le_of_ble_eq_true rfl⟩ dX10_canGo_3 (As := [.int v1, .int v3]) (rest := []) rfl rfl (Nat.le_of_ble_eq_true rfl) (fun x hq9 => c_X10_isThere _ _ _ _ _ hq9) (fun q1 _ => ?_)
  refine j_if_eq (pc := 6) (tgt := 37) dX10_canGo_6 (by decide) (fun _ => ?_) (fun _ => ?_)
  · refine j_iconst (pc := 37) ki_0 dX10_canGo_37 ?_
    exact j_zret (pc := 38) rfl rfl dX10_canGo_38
  refine j_iload_n (pc := 9) (p := 3) rfl rfl dX10_canGo_9 ?_
  refine j_iload_n (pc := 10) (p := 2) rfl rfl dX10_canGo_10 ?_
  refine j_ic_eq (pc := 11) (tgt := 37) dX10_canGo_11 (by decide) (fun _ => ?_) (fun _ => ?_)
  · refine j_iconst (pc := 37) ki_0 dX10_canGo_37 ?_
    exact j_zret (pc := 38) rfl rfl dX10_canGo_38
  refine j_aload_n (pc := 14) (p := 0) rfl rfl dX10_canGo_14 ?_
  refine j_iload_n (pc := 15) (p := 1) rfl rfl dX10_canGo_15 ?_
  refine j_iload_n (pc := 16) (p := 2) rfl rfl dX10_canGo_16 ?_
  refine j_cVi (pc := 17) Y_X10_isThere (ci := 9) (b := v0) rfl rfl ml_X10_133 im_X10_isThere se_X10_isThere ⟨Nat.le_of_ble_eq_true rfl, Nat.le_of_ble_eq_true rfl⟩ dX10_canGo_17 (As := [.int v1, .int v2]) (rest := []) rfl rfl (Nat.le_of_ble_eq_true rfl) (fun x hq9 => c_X10_isThere _ _ _ _ _ hq9) (fun q2 _ => ?_)
  refine j_if_eq (pc := 20) (tgt := 33) dX10_canGo_20 (by decide) (fun _ => ?_) (fun _ => ?_)
  · refine j_iconst (pc := 33) ki_1 dX10_canGo_33 ?_
    refine j_goto (pc := 34) (tgt := 38) dX10_canGo_34 (by decide) ?_
    exact j_zret (pc := 38) rfl rfl dX10_canGo_38
  refine j_aload_n (pc := 23) (p := 0) rfl rfl dX10_canGo_23 ?_
  refine j_iload_n (pc := 24) (p := 1) rfl rfl dX10_canGo_24 ?_
  refine j_iload_n (pc := 25) (p := 3) rfl rfl dX10_canGo_25 ?_
  refine j_iload_n (pc := 26) (p := 2) rfl rfl dX10_canGo_26 ?_
  refine j_cVi (pc := 27) Y_X10_isUnder (ci := 9) (b := v0) rfl rfl ml_X10_137 im_X10_isUnder se_X10_isUnder ⟨Nat.le_of_ble_eq_true rfl, Nat.le_of_ble_eq_true rfl⟩ dX10_canGo_27 (As := [.int v1, .int v3, .int v2]) (rest := []) rfl rfl (Nat.le_of_ble_eq_true rfl) (fun x hq9 => c_X10_isUnder _ _ _ _ _ _ hq9) (fun q3 _ => ?_)
  refine j_if_ne (pc := 30) (tgt := 37) dX10_canGo_30 (by decide) (fun _ => ?_) (fun _ => ?_)
  · refine j_iconst (pc := 33) ki_1 dX10_canGo_33 ?_
    refine j_goto (pc := 34) (tgt := 38) dX10_canGo_34 (by decide) ?_
    exact j_zret (pc := 38) rfl rfl dX10_canGo_38
  refine j_iconst (pc := 37) ki_0 dX10_canGo_37 ?_
  exact j_zret (pc := 38) rfl rfl dX10_canGo_38
set_option maxRecDepth 20000 in
set_option maxHeartbeats 1000000 in
theorem c_X10_canGo {G : q_G} {l : Launch} : ∀ (h : q_H) (a0 : Nat) (a1 : Int32) (a2 : Int32) (a3 : Int32) (q : q_H × Int32), f_X10_canGo h a0 a1 a2 a3 = some q → (∃ fs, h.1 a0 = .inr (9, fs)) ∧ q_CT G l yX10_canGo cX10_canGo 4 (some .boolean) 2 47 [.ref a0, .int a1, .int a2, .int a3] h q.1 (q_i q.2) := by
  intro h a0 a1 a2 a3 q e
  obtain ⟨e1, e2⟩ := q_chk_ok e
  exact ⟨e1, q_ofJ Y_X10_canGo (Nat.le_of_ble_eq_true rfl) (jb_X10_canGo_0 h a0 a1 a2 a3) q e2⟩
/-! FarFoldersModel.grows(III)V -/
theorem dX10_grows_0 : decode cX10_grows 0 = .ok (.iconst 0, 1) := by decide +kernel
theorem dX10_grows_1 : decode cX10_grows 1 = .ok (.istore 4, 2) := by decide +kernel
theorem dX10_grows_3 : decode cX10_grows 3 = .ok (.iload 4, 2) := by decide +kernel
theorem dX10_grows_5 : decode cX10_grows 5 = .ok (.bipush 56, 2) := by decide +kernel
theorem dX10_grows_7 : decode cX10_grows 7 = .ok (.if_icmp .ge 34, 3) := by decide +kernel
theorem dX10_grows_10 : decode cX10_grows 10 = .ok (.aload_n 0, 1) := by decide +kernel
theorem dX10_grows_11 : decode cX10_grows 11 = .ok (.getfield 57, 3) := by decide +kernel
theorem dX10_grows_14 : decode cX10_grows 14 = .ok (.bipush 56, 2) := by decide +kernel
theorem dX10_grows_16 : decode cX10_grows 16 = .ok (.iload_n 1, 1) := by decide +kernel
theorem dX10_grows_17 : decode cX10_grows 17 = .ok (.imul, 1) := by decide +kernel
theorem dX10_grows_18 : decode cX10_grows 18 = .ok (.iload 4, 2) := by decide +kernel
theorem dX10_grows_20 : decode cX10_grows 20 = .ok (.iadd, 1) := by decide +kernel
theorem dX10_grows_21 : decode cX10_grows 21 = .ok (.aload_n 0, 1) := by decide +kernel
theorem dX10_grows_22 : decode cX10_grows 22 = .ok (.getfield 47, 3) := by decide +kernel
theorem dX10_grows_25 : decode cX10_grows 25 = .ok (.iload_n 2, 1) := by decide +kernel
theorem dX10_grows_26 : decode cX10_grows 26 = .ok (.iconst 0, 1) := by decide +kernel
theorem dX10_grows_27 : decode cX10_grows 27 = .ok (.invokestatic 90, 3) := by decide +kernel
theorem dX10_grows_30 : decode cX10_grows 30 = .ok (.iload 4, 2) := by decide +kernel
theorem dX10_grows_32 : decode cX10_grows 32 = .ok (.iadd, 1) := by decide +kernel
theorem dX10_grows_33 : decode cX10_grows 33 = .ok (.iaload, 1) := by decide +kernel
theorem dX10_grows_34 : decode cX10_grows 34 = .ok (.iastore, 1) := by decide +kernel
theorem dX10_grows_35 : decode cX10_grows 35 = .ok (.iinc 4 1, 3) := by decide +kernel
theorem dX10_grows_38 : decode cX10_grows 38 = .ok (.goto (-35), 3) := by decide +kernel
theorem dX10_grows_41 : decode cX10_grows 41 = .ok (.iconst 0, 1) := by decide +kernel
theorem dX10_grows_42 : decode cX10_grows 42 = .ok (.istore 4, 2) := by decide +kernel
theorem dX10_grows_44 : decode cX10_grows 44 = .ok (.iload 4, 2) := by decide +kernel
theorem dX10_grows_46 : decode cX10_grows 46 = .ok (.aload_n 0, 1) := by decide +kernel
theorem dX10_grows_47 : decode cX10_grows 47 = .ok (.getfield 105, 3) := by decide +kernel
theorem dX10_grows_50 : decode cX10_grows 50 = .ok (.if_icmp .ge 167, 3) := by decide +kernel
theorem dX10_grows_53 : decode cX10_grows 53 = .ok (.aload_n 0, 1) := by decide +kernel
theorem dX10_grows_54 : decode cX10_grows 54 = .ok (.getfield 50, 3) := by decide +kernel
theorem dX10_grows_57 : decode cX10_grows 57 = .ok (.iconst 5, 1) := by decide +kernel
theorem dX10_grows_58 : decode cX10_grows 58 = .ok (.iload 4, 2) := by decide +kernel
theorem dX10_grows_60 : decode cX10_grows 60 = .ok (.imul, 1) := by decide +kernel
theorem dX10_grows_61 : decode cX10_grows 61 = .ok (.iconst 2, 1) := by decide +kernel
theorem dX10_grows_62 : decode cX10_grows 62 = .ok (.iadd, 1) := by decide +kernel
theorem dX10_grows_63 : decode cX10_grows 63 = .ok (.iaload, 1) := by decide +kernel
theorem dX10_grows_64 : decode cX10_grows 64 = .ok (.istore 5, 2) := by decide +kernel
theorem dX10_grows_66 : decode cX10_grows 66 = .ok (.aload_n 0, 1) := by decide +kernel
theorem dX10_grows_67 : decode cX10_grows 67 = .ok (.getfield 53, 3) := by decide +kernel
theorem dX10_grows_70 : decode cX10_grows 70 = .ok (.iload 4, 2) := by decide +kernel
theorem dX10_grows_72 : decode cX10_grows 72 = .ok (.iload 4, 2) := by decide +kernel
theorem dX10_grows_74 : decode cX10_grows 74 = .ok (.iload_n 3, 1) := by decide +kernel
theorem dX10_grows_75 : decode cX10_grows 75 = .ok (.if_icmp .eq 28, 3) := by decide +kernel
theorem dX10_grows_78 : decode cX10_grows 78 = .ok (.aload_n 0, 1) := by decide +kernel
theorem dX10_grows_79 : decode cX10_grows 79 = .ok (.iload_n 1, 1) := by decide +kernel
theorem dX10_grows_80 : decode cX10_grows 80 = .ok (.iload 5, 2) := by decide +kernel
theorem dX10_grows_82 : decode cX10_grows 82 = .ok (.aload_n 0, 1) := by decide +kernel
theorem dX10_grows_83 : decode cX10_grows 83 = .ok (.getfield 50, 3) := by decide +kernel
theorem dX10_grows_86 : decode cX10_grows 86 = .ok (.iconst 5, 1) := by decide +kernel
theorem dX10_grows_87 : decode cX10_grows 87 = .ok (.iload 4, 2) := by decide +kernel
theorem dX10_grows_89 : decode cX10_grows 89 = .ok (.imul, 1) := by decide +kernel
theorem dX10_grows_90 : decode cX10_grows 90 = .ok (.iconst 3, 1) := by decide +kernel
theorem dX10_grows_91 : decode cX10_grows 91 = .ok (.iadd, 1) := by decide +kernel
theorem dX10_grows_92 : decode cX10_grows 92 = .ok (.iaload, 1) := by decide +kernel
theorem dX10_grows_93 : decode cX10_grows 93 = .ok (.invokevirtual 141, 3) := by decide +kernel
theorem dX10_grows_96 : decode cX10_grows 96 = .ok (.ifCond .ne 7, 3) := by decide +kernel
theorem dX10_grows_99 : decode cX10_grows 99 = .ok (.iconst 1, 1) := by decide +kernel
theorem dX10_grows_100 : decode cX10_grows 100 = .ok (.goto 4, 3) := by decide +kernel
theorem dX10_grows_103 : decode cX10_grows 103 = .ok (.iconst 0, 1) := by decide +kernel
theorem dX10_grows_104 : decode cX10_grows 104 = .ok (.bastore, 1) := by decide +kernel
theorem dX10_grows_105 : decode cX10_grows 105 = .ok (.iload 4, 2) := by decide +kernel
theorem dX10_grows_107 : decode cX10_grows 107 = .ok (.iload_n 3, 1) := by decide +kernel
theorem dX10_grows_108 : decode cX10_grows 108 = .ok (.if_icmp .eq 103, 3) := by decide +kernel
theorem dX10_grows_111 : decode cX10_grows 111 = .ok (.aload_n 0, 1) := by decide +kernel
theorem dX10_grows_112 : decode cX10_grows 112 = .ok (.getfield 53, 3) := by decide +kernel
theorem dX10_grows_115 : decode cX10_grows 115 = .ok (.iload 4, 2) := by decide +kernel
theorem dX10_grows_117 : decode cX10_grows 117 = .ok (.baload, 1) := by decide +kernel
theorem dX10_grows_118 : decode cX10_grows 118 = .ok (.ifCond .eq 6, 3) := by decide +kernel
theorem dX10_grows_121 : decode cX10_grows 121 = .ok (.goto 90, 3) := by decide +kernel
theorem dX10_grows_124 : decode cX10_grows 124 = .ok (.iconst 4, 1) := by decide +kernel
theorem dX10_grows_125 : decode cX10_grows 125 = .ok (.bipush 14, 2) := by decide +kernel
theorem dX10_grows_127 : decode cX10_grows 127 = .ok (.iload_n 1, 1) := by decide +kernel
theorem dX10_grows_128 : decode cX10_grows 128 = .ok (.imul, 1) := by decide +kernel
theorem dX10_grows_129 : decode cX10_grows 129 = .ok (.iload 5, 2) := by decide +kernel
theorem dX10_grows_131 : decode cX10_grows 131 = .ok (.iadd, 1) := by decide +kernel
theorem dX10_grows_132 : decode cX10_grows 132 = .ok (.imul, 1) := by decide +kernel
theorem dX10_grows_133 : decode cX10_grows 133 = .ok (.istore 6, 2) := by decide +kernel
theorem dX10_grows_135 : decode cX10_grows 135 = .ok (.aload_n 0, 1) := by decide +kernel
theorem dX10_grows_136 : decode cX10_grows 136 = .ok (.getfield 57, 3) := by decide +kernel
theorem dX10_grows_139 : decode cX10_grows 139 = .ok (.iload 6, 2) := by decide +kernel
theorem dX10_grows_141 : decode cX10_grows 141 = .ok (.aload_n 0, 1) := by decide +kernel
theorem dX10_grows_142 : decode cX10_grows 142 = .ok (.getfield 50, 3) := by decide +kernel
theorem dX10_grows_145 : decode cX10_grows 145 = .ok (.iconst 5, 1) := by decide +kernel
theorem dX10_grows_146 : decode cX10_grows 146 = .ok (.iload 4, 2) := by decide +kernel
theorem dX10_grows_148 : decode cX10_grows 148 = .ok (.imul, 1) := by decide +kernel
theorem dX10_grows_149 : decode cX10_grows 149 = .ok (.iconst 3, 1) := by decide +kernel
theorem dX10_grows_150 : decode cX10_grows 150 = .ok (.iadd, 1) := by decide +kernel
theorem dX10_grows_151 : decode cX10_grows 151 = .ok (.iaload, 1) := by decide +kernel
theorem dX10_grows_152 : decode cX10_grows 152 = .ok (.iastore, 1) := by decide +kernel
theorem dX10_grows_153 : decode cX10_grows 153 = .ok (.aload_n 0, 1) := by decide +kernel
theorem dX10_grows_154 : decode cX10_grows 154 = .ok (.getfield 57, 3) := by decide +kernel
theorem dX10_grows_157 : decode cX10_grows 157 = .ok (.iload 6, 2) := by decide +kernel
theorem dX10_grows_159 : decode cX10_grows 159 = .ok (.iconst 1, 1) := by decide +kernel
theorem dX10_grows_160 : decode cX10_grows 160 = .ok (.iadd, 1) := by decide +kernel
theorem dX10_grows_161 : decode cX10_grows 161 = .ok (.aload_n 0, 1) := by decide +kernel
theorem dX10_grows_162 : decode cX10_grows 162 = .ok (.getfield 50, 3) := by decide +kernel
theorem dX10_grows_165 : decode cX10_grows 165 = .ok (.iconst 5, 1) := by decide +kernel
theorem dX10_grows_166 : decode cX10_grows 166 = .ok (.iload 4, 2) := by decide +kernel
theorem dX10_grows_168 : decode cX10_grows 168 = .ok (.imul, 1) := by decide +kernel
theorem dX10_grows_169 : decode cX10_grows 169 = .ok (.iconst 4, 1) := by decide +kernel
theorem dX10_grows_170 : decode cX10_grows 170 = .ok (.iadd, 1) := by decide +kernel
theorem dX10_grows_171 : decode cX10_grows 171 = .ok (.iaload, 1) := by decide +kernel
theorem dX10_grows_172 : decode cX10_grows 172 = .ok (.iastore, 1) := by decide +kernel
theorem dX10_grows_173 : decode cX10_grows 173 = .ok (.aload_n 0, 1) := by decide +kernel
theorem dX10_grows_174 : decode cX10_grows 174 = .ok (.getfield 57, 3) := by decide +kernel
theorem dX10_grows_177 : decode cX10_grows 177 = .ok (.iload 6, 2) := by decide +kernel
theorem dX10_grows_179 : decode cX10_grows 179 = .ok (.iconst 2, 1) := by decide +kernel
theorem dX10_grows_180 : decode cX10_grows 180 = .ok (.iadd, 1) := by decide +kernel
theorem dX10_grows_181 : decode cX10_grows 181 = .ok (.aload_n 0, 1) := by decide +kernel
theorem dX10_grows_182 : decode cX10_grows 182 = .ok (.getfield 50, 3) := by decide +kernel
theorem dX10_grows_185 : decode cX10_grows 185 = .ok (.iconst 5, 1) := by decide +kernel
theorem dX10_grows_186 : decode cX10_grows 186 = .ok (.iload 4, 2) := by decide +kernel
theorem dX10_grows_188 : decode cX10_grows 188 = .ok (.imul, 1) := by decide +kernel
theorem dX10_grows_189 : decode cX10_grows 189 = .ok (.iaload, 1) := by decide +kernel
theorem dX10_grows_190 : decode cX10_grows 190 = .ok (.iastore, 1) := by decide +kernel
theorem dX10_grows_191 : decode cX10_grows 191 = .ok (.aload_n 0, 1) := by decide +kernel
theorem dX10_grows_192 : decode cX10_grows 192 = .ok (.getfield 57, 3) := by decide +kernel
theorem dX10_grows_195 : decode cX10_grows 195 = .ok (.iload 6, 2) := by decide +kernel
theorem dX10_grows_197 : decode cX10_grows 197 = .ok (.iconst 3, 1) := by decide +kernel
theorem dX10_grows_198 : decode cX10_grows 198 = .ok (.iadd, 1) := by decide +kernel
theorem dX10_grows_199 : decode cX10_grows 199 = .ok (.aload_n 0, 1) := by decide +kernel
theorem dX10_grows_200 : decode cX10_grows 200 = .ok (.getfield 50, 3) := by decide +kernel
theorem dX10_grows_203 : decode cX10_grows 203 = .ok (.iconst 5, 1) := by decide +kernel
theorem dX10_grows_204 : decode cX10_grows 204 = .ok (.iload 4, 2) := by decide +kernel
theorem dX10_grows_206 : decode cX10_grows 206 = .ok (.imul, 1) := by decide +kernel
theorem dX10_grows_207 : decode cX10_grows 207 = .ok (.iconst 1, 1) := by decide +kernel
theorem dX10_grows_208 : decode cX10_grows 208 = .ok (.iadd, 1) := by decide +kernel
theorem dX10_grows_209 : decode cX10_grows 209 = .ok (.iaload, 1) := by decide +kernel
theorem dX10_grows_210 : decode cX10_grows 210 = .ok (.iastore, 1) := by decide +kernel
theorem dX10_grows_211 : decode cX10_grows 211 = .ok (.iinc 4 1, 3) := by decide +kernel
theorem dX10_grows_214 : decode cX10_grows 214 = .ok (.goto (-170), 3) := by decide +kernel
theorem dX10_grows_217 : decode cX10_grows 217 = .ok (.return_, 1) := by decide +kernel
def b_X10_grows_211 (k44 : q_H → Nat → Int32 → Int32 → Int32 → Option (q_H × Unit)) (h : q_H) (v0 : Nat) (v1 : Int32) (v3 : Int32) (v4 : Int32) : Option (q_H × Unit) :=
  k44 h v0 v1 v3 (v4 + 1)
def b_X10_grows_104 (k44 : q_H → Nat → Int32 → Int32 → Int32 → Option (q_H × Unit)) (h : q_H) (v0 : Nat) (v1 : Int32) (v3 : Int32) (v4 : Int32) (v5 : Int32) (s0 : Nat) (s1 : Int32) (s2 : Int32) : Option (q_H × Unit) :=
  Option.bind (q_sI 2 (vp_nar .boolean) h s0 s1 s2) (fun h1 => if v4 = v3 then b_X10_grows_211 k44 h1 v0 v1 v3 v4 else Option.bind (q_gR 9 10 h1 v0) (fun x2 => Option.bind (q_lI 2 h1 x2 v4) (fun x3 => if x3 = 0 then Option.bind (q_gR 9 11 h1 v0) (fun x4 => Option.bind (q_gR 9 8 h1 v0) (fun x5 => Option.bind (q_lI 0 h1 x5 (((5) * v4) + (3))) (fun x6 => Option.bind (q_sI 0 id h1 x4 ((4) * (((14) * v1) + v5)) x6) (fun h7 => Option.bind (q_gR 9 11 h7 v0) (fun x8 => Option.bind (q_gR 9 8 h7 v0) (fun x9 => Option.bind (q_lI 0 h7 x9 (((5) * v4) + (4))) (fun x10 => Option.bind (q_sI 0 id h7 x8 (((4) * (((14) * v1) + v5)) + (1)) x10) (fun h11 => Option.bind (q_gR 9 11 h11 v0) (fun x12 => Option.bind (q_gR 9 8 h11 v0) (fun x13 => Option.bind (q_lI 0 h11 x13 ((5) * v4)) (fun x14 => Option.bind (q_sI 0 id h11 x12 (((4) * (((14) * v1) + v5)) + (2)) x14) (fun h15 => Option.bind (q_gR 9 11 h15 v0) (fun x16 => Option.bind (q_gR 9 8 h15 v0) (fun x17 => Option.bind (q_lI 0 h15 x17 (((5) * v4) + (1))) (fun x18 => Option.bind (q_sI 0 id h15 x16 (((4) * (((14) * v1) + v5)) + (3)) x18) (fun h19 => b_X10_grows_211 k44 h19 v0 v1 v3 v4)))))))))))))))) else b_X10_grows_211 k44 h1 v0 v1 v3 v4)))
def b_X10_grows_103 (k44 : q_H → Nat → Int32 → Int32 → Int32 → Option (q_H × Unit)) (h : q_H) (v0 : Nat) (v1 : Int32) (v3 : Int32) (v4 : Int32) (v5 : Int32) (s0 : Nat) (s1 : Int32) : Option (q_H × Unit) :=
  b_X10_grows_104 k44 h v0 v1 v3 v4 v5 s0 s1 (0)
def b_X10_grows_44 (k44 : q_H → Nat → Int32 → Int32 → Int32 → Option (q_H × Unit)) (h : q_H) (v0 : Nat) (v1 : Int32) (v3 : Int32) (v4 : Int32) : Option (q_H × Unit) :=
  Option.bind (q_gI 9 9 h v0) (fun x20 => if x20 ≤ v4 then some (h, ()) else Option.bind (q_gR 9 8 h v0) (fun x21 => Option.bind (q_lI 0 h x21 (((5) * v4) + (2))) (fun x22 => Option.bind (q_gR 9 10 h v0) (fun x23 => if v4 = v3 then b_X10_grows_103 k44 h v0 v1 v3 v4 x22 x23 v4 else Option.bind (q_gR 9 8 h v0) (fun x24 => Option.bind (q_lI 0 h x24 (((5) * v4) + (3))) (fun x25 => Option.bind (f_X10_canGo h v0 v1 x22 x25) (fun q26 => if q26.2 = 0 then b_X10_grows_104 k44 q26.1 v0 v1 v3 v4 x22 x23 v4 (1) else b_X10_grows_103 k44 q26.1 v0 v1 v3 v4 x22 x23 v4)))))))
def l_X10_grows_44 : Nat → q_H → Nat → Int32 → Int32 → Int32 → Option (q_H × Unit)
  | 0, _, _, _, _, _ => none
  | n + 1, h, v0, v1, v3, v4 => b_X10_grows_44 (l_X10_grows_44 n) h v0 v1 v3 v4
def b_X10_grows_3 (k3 : q_H → Nat → Int32 → Int32 → Int32 → Int32 → Option (q_H × Unit)) (h : q_H) (v0 : Nat) (v1 : Int32) (v2 : Int32) (v3 : Int32) (v4 : Int32) : Option (q_H × Unit) :=
  if (56) ≤ v4 then l_X10_grows_44 q_FU h v0 v1 v3 (0) else Option.bind (q_gR 9 11 h v0) (fun x27 => Option.bind (q_gR 9 7 h v0) (fun x28 => Option.bind (f_X10_baseOf h v2 (0)) (fun q29 => Option.bind (q_lI 0 q29.1 x28 (q29.2 + v4)) (fun x30 => Option.bind (q_sI 0 id q29.1 x27 (((56) * v1) + v4) x30) (fun h31 => k3 h31 v0 v1 v2 v3 (v4 + 1))))))
def l_X10_grows_3 : Nat → q_H → Nat → Int32 → Int32 → Int32 → Int32 → Option (q_H × Unit)
  | 0, _, _, _, _, _, _ => none
  | n + 1, h, v0, v1, v2, v3, v4 => b_X10_grows_3 (l_X10_grows_3 n) h v0 v1 v2 v3 v4
def b_X10_grows_0 (h : q_H) (v0 : Nat) (v1 : Int32) (v2 : Int32) (v3 : Int32) : Option (q_H × Unit) :=
  l_X10_grows_3 q_FU h v0 v1 v2 v3 (0)
def f_X10_grows (h : q_H) (a0 : Nat) (a1 : Int32) (a2 : Int32) (a3 : Int32) : Option (q_H × Unit) := q_chk 9 h a0 (b_X10_grows_0 h a0 a1 a2 a3)
set_option maxRecDepth 20000 in
set_option maxHeartbeats 1000000 in
theorem jb_X10_grows_211 {G : q_G} {l : Launch} {k0 z0 : Nat} (k44 : q_H → Nat → Int32 → Int32 → Int32 → Option (q_H × Unit)) (hk44 : ∀ (h : q_H) (v0 : Nat) (v1 : Int32) (v3 : Int32) (v4 : Int32), q_J G l (RX10, cX10_grows, 7, 3, 70, none, "grows", []) k0 z0 (q_Z G k0 z0 q_u) 44 [(0, .ref v0), (1, .int v1), (3, .int v3), (4, .int v4)] [] h (k44 h v0 v1 v3 v4)) (h : q_H) (v0 : Nat) (v1 : Int32) (v3 : Int32) (v4 : Int32) : q_J G l (RX10, cX10_grows, 7, 3, 70, none, "grows", []) k0 z0 (q_Z G k0 z0 q_u) 211 [(0, .ref v0), (1, .int v1), (3, .int v3), (4, .int v4)] [] h (b_X10_grows_211 k44 h v0 v1 v3 v4) := by
  unfold b_X10_grows_211
  refine j_inc (pc := 211) (p := 3) (lv' := [(4, .int (v4 + 1)), (0, .ref v0), (1, .int v1), (3, .int v3)]) rfl ki_1 (by decide) rfl dX10_grows_211 ?_
  refine j_goto (pc := 214) (tgt := 44) dX10_grows_214 (by decide) ?_
  refine j_sub [1, 2, 3, 0] (lv' := [(0, .ref v0), (1, .int v1), (3, .int v3), (4, .int (v4 + 1))]) rfl ?_
  exact hk44 _ _ _ _ _
set_option maxRecDepth 20000 in
set_option maxHeartbeats 1000000 in
theorem jb_X10_grows_104 {G : q_G} {l : Launch} {k0 z0 : Nat} (k44 : q_H → Nat → Int32 → Int32 → Int32 → Option (q_H × Unit)) (hk44 : ∀ (h : q_H) (v0 : Nat) (v1 : Int32) (v3 : Int32) (v4 : Int32), q_J G l (RX10, cX10_grows, 7, 3, 70, none, "grows", []) k0 z0 (q_Z G k0 z0 q_u) 44 [(0, .ref v0), (1, .int v1), (3, .int v3), (4, .int v4)] [] h (k44 h v0 v1 v3 v4)) (h : q_H) (v0 : Nat) (v1 : Int32) (v3 : Int32) (v4 : Int32) (v5 : Int32) (s0 : Nat) (s1 : Int32) (s2 : Int32) : q_J G l (RX10, cX10_grows, 7, 3, 70, none, "grows", []) k0 z0 (q_Z G k0 z0 q_u) 104 [(0, .ref v0), (1, .int v1), (3, .int v3), (4, .int v4), (5, .int v5)] [.int s2, .int s1, .ref s0] h (b_X10_grows_104 k44 h v0 v1 v3 v4 v5 s0 s1 s2) := by
  unfold b_X10_grows_104
  refine j_zast (pc := 104) dX10_grows_104 (fun h1 _ => ?_)
  refine j_iload (pc := 105) (p := 3) rfl dX10_grows_105 ?_
  refine j_iload_n (pc := 107) (p := 2) rfl rfl dX10_grows_107 ?_
  refine j_ic_eq (pc := 108) (tgt := 211) dX10_grows_108 (by decide) (fun _ => ?_) (fun _ => ?_)
  · refine j_sub [0, 1, 2, 3] (lv' := [(0, .ref v0), (1, .int v1), (3, .int v3), (4, .int v4)]) rfl ?_
    exact jb_X10_grows_211 k44 hk44 _ _ _ _ _
  refine j_aload_n (pc := 111) (p := 0) rfl rfl dX10_grows_111 ?_
  refine j_getR (pc := 112) FI_X10 (k := 10) (by decide) fl_X10_53 dX10_grows_112 (fun x2 _ => ?_)
  refine j_iload (pc := 115) (p := 3) rfl dX10_grows_115 ?_
  refine j_zald (pc := 117) dX10_grows_117 (fun x3 _ => ?_)
  refine j_if_eq (pc := 118) (tgt := 124) dX10_grows_118 (by decide) (fun _ => ?_) (fun _ => ?_)
  · refine j_iconst (pc := 124) ki_4 dX10_grows_124 ?_
    refine j_bipush (pc := 125) kb_14 dX10_grows_125 ?_
    refine j_iload_n (pc := 127) (p := 1) rfl rfl dX10_grows_127 ?_
    refine j_imul (pc := 128) dX10_grows_128 ?_
    refine j_iload (pc := 129) (p := 4) rfl dX10_grows_129 ?_
    refine j_iadd (pc := 131) dX10_grows_131 ?_
    refine j_imul (pc := 132) dX10_grows_132 ?_
    refine j_istore (pc := 133) (lv' := [(6, .int ((4) * (((14) * v1) + v5))), (0, .ref v0), (1, .int v1), (3, .int v3), (4, .int v4), (5, .int v5)]) (by decide) rfl dX10_grows_133 ?_
    refine j_aload_n (pc := 135) (p := 1) rfl rfl dX10_grows_135 ?_
    refine j_getR (pc := 136) FI_X10 (k := 11) (by decide) fl_X10_57 dX10_grows_136 (fun x4 _ => ?_)
    refine j_iload (pc := 139) (p := 0) rfl dX10_grows_139 ?_
    refine j_aload_n (pc := 141) (p := 1) rfl rfl dX10_grows_141 ?_
    refine j_getR (pc := 142) FI_X10 (k := 8) (by decide) fl_X10_50 dX10_grows_142 (fun x5 _ => ?_)
    refine j_iconst (pc := 145) ki_5 dX10_grows_145 ?_
    refine j_iload (pc := 146) (p := 4) rfl dX10_grows_146 ?_
    refine j_imul (pc := 148) dX10_grows_148 ?_
    refine j_iconst (pc := 149) ki_3 dX10_grows_149 ?_
    refine j_iadd (pc := 150) dX10_grows_150 ?_
    refine j_iald (pc := 151) dX10_grows_151 (fun x6 _ => ?_)
    refine j_iast (pc := 152) dX10_grows_152 (fun h7 _ => ?_)
    refine j_aload_n (pc := 153) (p := 1) rfl rfl dX10_grows_153 ?_
    refine j_getR (pc := 154) FI_X10 (k := 11) (by decide) fl_X10_57 dX10_grows_154 (fun x8 _ => ?_)
    refine j_iload (pc := 157) (p := 0) rfl dX10_grows_157 ?_
    refine j_iconst (pc := 159) ki_1 dX10_grows_159 ?_
    refine j_iadd (pc := 160) dX10_grows_160 ?_
    refine j_aload_n (pc := 161) (p := 1) rfl rfl dX10_grows_161 ?_
    refine j_getR (pc := 162) FI_X10 (k := 8) (by decide) fl_X10_50 dX10_grows_162 (fun x9 _ => ?_)
    refine j_iconst (pc := 165) ki_5 dX10_grows_165 ?_
    refine j_iload (pc := 166) (p := 4) rfl dX10_grows_166 ?_
    refine j_imul (pc := 168) dX10_grows_168 ?_
    refine j_iconst (pc := 169) ki_4 dX10_grows_169 ?_
    refine j_iadd (pc := 170) dX10_grows_170 ?_
    refine j_iald (pc := 171) dX10_grows_171 (fun x10 _ => ?_)
    refine j_iast (pc := 172) dX10_grows_172 (fun h11 _ => ?_)
    refine j_aload_n (pc := 173) (p := 1) rfl rfl dX10_grows_173 ?_
    refine j_getR (pc := 174) FI_X10 (k := 11) (by decide) fl_X10_57 dX10_grows_174 (fun x12 _ => ?_)
    refine j_iload (pc := 177) (p := 0) rfl dX10_grows_177 ?_
    refine j_iconst (pc := 179) ki_2 dX10_grows_179 ?_
    refine j_iadd (pc := 180) dX10_grows_180 ?_
    refine j_aload_n (pc := 181) (p := 1) rfl rfl dX10_grows_181 ?_
    refine j_getR (pc := 182) FI_X10 (k := 8) (by decide) fl_X10_50 dX10_grows_182 (fun x13 _ => ?_)
    refine j_iconst (pc := 185) ki_5 dX10_grows_185 ?_
    refine j_iload (pc := 186) (p := 4) rfl dX10_grows_186 ?_
    refine j_imul (pc := 188) dX10_grows_188 ?_
    refine j_iald (pc := 189) dX10_grows_189 (fun x14 _ => ?_)
    refine j_iast (pc := 190) dX10_grows_190 (fun h15 _ => ?_)
    refine j_aload_n (pc := 191) (p := 1) rfl rfl dX10_grows_191 ?_
    refine j_getR (pc := 192) FI_X10 (k := 11) (by decide) fl_X10_57 dX10_grows_192 (fun x16 _ => ?_)
    refine j_iload (pc := 195) (p := 0) rfl dX10_grows_195 ?_
    refine j_iconst (pc := 197) ki_3 dX10_grows_197 ?_
    refine j_iadd (pc := 198) dX10_grows_198 ?_
    refine j_aload_n (pc := 199) (p := 1) rfl rfl dX10_grows_199 ?_
    refine j_getR (pc := 200) FI_X10 (k := 8) (by decide) fl_X10_50 dX10_grows_200 (fun x17 _ => ?_)
    refine j_iconst (pc := 203) ki_5 dX10_grows_203 ?_
    refine j_iload (pc := 204) (p := 4) rfl dX10_grows_204 ?_
    refine j_imul (pc := 206) dX10_grows_206 ?_
    refine j_iconst (pc := 207) ki_1 dX10_grows_207 ?_
    refine j_iadd (pc := 208) dX10_grows_208 ?_
    refine j_iald (pc := 209) dX10_grows_209 (fun x18 _ => ?_)
    refine j_iast (pc := 210) dX10_grows_210 (fun h19 _ => ?_)
    refine j_sub [1, 2, 3, 4] (lv' := [(0, .ref v0), (1, .int v1), (3, .int v3), (4, .int v4)]) rfl ?_
    exact jb_X10_grows_211 k44 hk44 _ _ _ _ _
  refine j_goto (pc := 121) (tgt := 211) dX10_grows_121 (by decide) ?_
  refine j_sub [0, 1, 2, 3] (lv' := [(0, .ref v0), (1, .int v1), (3, .int v3), (4, .int v4)]) rfl ?_
  exact jb_X10_grows_211 k44 hk44 _ _ _ _ _
set_option maxRecDepth 20000 in
set_option maxHeartbeats 1000000 in
theorem jb_X10_grows_103 {G : q_G} {l : Launch} {k0 z0 : Nat} (k44 : q_H → Nat → Int32 → Int32 → Int32 → Option (q_H × Unit)) (hk44 : ∀ (h : q_H) (v0 : Nat) (v1 : Int32) (v3 : Int32) (v4 : Int32), q_J G l (RX10, cX10_grows, 7, 3, 70, none, "grows", []) k0 z0 (q_Z G k0 z0 q_u) 44 [(0, .ref v0), (1, .int v1), (3, .int v3), (4, .int v4)] [] h (k44 h v0 v1 v3 v4)) (h : q_H) (v0 : Nat) (v1 : Int32) (v3 : Int32) (v4 : Int32) (v5 : Int32) (s0 : Nat) (s1 : Int32) : q_J G l (RX10, cX10_grows, 7, 3, 70, none, "grows", []) k0 z0 (q_Z G k0 z0 q_u) 103 [(0, .ref v0), (1, .int v1), (3, .int v3), (4, .int v4), (5, .int v5)] [.int s1, .ref s0] h (b_X10_grows_103 k44 h v0 v1 v3 v4 v5 s0 s1) := by
  unfold b_X10_grows_103
  refine j_iconst (pc := 103) ki_0 dX10_grows_103 ?_
  exact jb_X10_grows_104 k44 hk44 _ _ _ _ _ _ _ _ _
set_option maxRecDepth 20000 in
set_option maxHeartbeats 1000000 in
theorem jb_X10_grows_44 {G : q_G} {l : Launch} {k0 z0 : Nat} (k44 : q_H → Nat → Int32 → Int32 → Int32 → Option (q_H × Unit)) (hk44 : ∀ (h : q_H) (v0 : Nat) (v1 : Int32) (v3 : Int32) (v4 : Int32), q_J G l (RX10, cX10_grows, 7, 3, 70, none, "grows", []) k0 z0 (q_Z G k0 z0 q_u) 44 [(0, .ref v0), (1, .int v1), (3, .int v3), (4, .int v4)] [] h (k44 h v0 v1 v3 v4)) (h : q_H) (v0 : Nat) (v1 : Int32) (v3 : Int32) (v4 : Int32) : q_J G l (RX10, cX10_grows, 7, 3, 70, none, "grows", []) k0 z0 (q_Z G k0 z0 q_u) 44 [(0, .ref v0), (1, .int v1), (3, .int v3), (4, .int v4)] [] h (b_X10_grows_44 k44 h v0 v1 v3 v4) := by
  unfold b_X10_grows_44
  refine j_iload (pc := 44) (p := 3) rfl dX10_grows_44 ?_
  refine j_aload_n (pc := 46) (p := 0) rfl rfl dX10_grows_46 ?_
  refine j_getI (pc := 47) FI_X10 (k := 9) (by decide) fl_X10_105 dX10_grows_47 (fun x20 _ => ?_)
  refine j_ic_ge (pc := 50) (tgt := 217) dX10_grows_50 (by decide) (fun _ => ?_) (fun _ => ?_)
  · exact j_vret (pc := 217) rfl dX10_grows_217
  refine j_aload_n (pc := 53) (p := 0) rfl rfl dX10_grows_53 ?_
  refine j_getR (pc := 54) FI_X10 (k := 8) (by decide) fl_X10_50 dX10_grows_54 (fun x21 _ => ?_)
  refine j_iconst (pc := 57) ki_5 dX10_grows_57 ?_
  refine j_iload (pc := 58) (p := 3) rfl dX10_grows_58 ?_
  refine j_imul (pc := 60) dX10_grows_60 ?_
  refine j_iconst (pc := 61) ki_2 dX10_grows_61 ?_
  refine j_iadd (pc := 62) dX10_grows_62 ?_
  refine j_iald (pc := 63) dX10_grows_63 (fun x22 _ => ?_)
  refine j_istore (pc := 64) (lv' := [(5, .int x22), (0, .ref v0), (1, .int v1), (3, .int v3), (4, .int v4)]) (by decide) rfl dX10_grows_64 ?_
  refine j_aload_n (pc := 66) (p := 1) rfl rfl dX10_grows_66 ?_
  refine j_getR (pc := 67) FI_X10 (k := 10) (by decide) fl_X10_53 dX10_grows_67 (fun x23 _ => ?_)
  refine j_iload (pc := 70) (p := 4) rfl dX10_grows_70 ?_
  refine j_iload (pc := 72) (p := 4) rfl dX10_grows_72 ?_
  refine j_iload_n (pc := 74) (p := 3) rfl rfl dX10_grows_74 ?_
  refine j_ic_eq (pc := 75) (tgt := 103) dX10_grows_75 (by decide) (fun _ => ?_) (fun _ => ?_)
  · refine j_sub [1, 2, 3, 4, 0] (lv' := [(0, .ref v0), (1, .int v1), (3, .int v3), (4, .int v4), (5, .int x22)]) rfl ?_
    exact jb_X10_grows_103 k44 hk44 _ _ _ _ _ _ _ _
  refine j_aload_n (pc := 78) (p := 1) rfl rfl dX10_grows_78 ?_
  refine j_iload_n (pc := 79) (p := 2) rfl rfl dX10_grows_79 ?_
  refine j_iload (pc := 80) (p := 0) rfl dX10_grows_80 ?_
  refine j_aload_n (pc := 82) (p := 1) rfl rfl dX10_grows_82 ?_
  refine j_getR (pc := 83) FI_X10 (k := 8) (by decide) fl_X10_50 dX10_grows_83 (fun x24 _ => ?_)
  refine j_iconst (pc := 86) ki_5 dX10_grows_86 ?_
  refine j_iload (pc := 87) (p := 4) rfl dX10_grows_87 ?_
  refine j_imul (pc := 89) dX10_grows_89 ?_
  refine j_iconst (pc := 90) ki_3 dX10_grows_90 ?_
  refine j_iadd (pc := 91) dX10_grows_91 ?_
  refine j_iald (pc := 92) dX10_grows_92 (fun x25 _ => ?_)
  refine j_cVi (pc := 93) Y_X10_canGo (ci := 9) (b := v0) rfl rfl ml_X10_141 im_X10_canGo se_X10_canGo ⟨Nat.le_of_ble_eq_true rfl, Nat.le_of_ble_eq_true rfl⟩ dX10_grows_93 (As := [.int v1, .int x22, .int x25]) (rest := [.int v4, .ref x23]) rfl rfl (Nat.le_of_ble_eq_true rfl) (fun x hq9 => c_X10_canGo _ _ _ _ _ _ hq9) (fun q26 _ => ?_)
  refine j_if_ne (pc := 96) (tgt := 103) dX10_grows_96 (by decide) (fun _ => ?_) (fun _ => ?_)
  · refine j_iconst (pc := 99) ki_1 dX10_grows_99 ?_
    refine j_goto (pc := 100) (tgt := 104) dX10_grows_100 (by decide) ?_
    refine j_sub [1, 2, 3, 4, 0] (lv' := [(0, .ref v0), (1, .int v1), (3, .int v3), (4, .int v4), (5, .int x22)]) rfl ?_
    exact jb_X10_grows_104 k44 hk44 _ _ _ _ _ _ _ _ _
  refine j_sub [1, 2, 3, 4, 0] (lv' := [(0, .ref v0), (1, .int v1), (3, .int v3), (4, .int v4), (5, .int x22)]) rfl ?_
  exact jb_X10_grows_103 k44 hk44 _ _ _ _ _ _ _ _
set_option maxRecDepth 20000 in
set_option maxHeartbeats 1000000 in
theorem jl_X10_grows_44 {G : q_G} {l : Launch} {k0 z0 : Nat} (n : Nat) : ∀ (h : q_H) (v0 : Nat) (v1 : Int32) (v3 : Int32) (v4 : Int32), q_J G l (RX10, cX10_grows, 7, 3, 70, none, "grows", []) k0 z0 (q_Z G k0 z0 q_u) 44 [(0, .ref v0), (1, .int v1), (3, .int v3), (4, .int v4)] [] h (l_X10_grows_44 n h v0 v1 v3 v4) := by
  induction n with
  | zero => intro h v0 v1 v3 v4; exact j_none
  | succ n ih => intro h v0 v1 v3 v4; exact jb_X10_grows_44 (l_X10_grows_44 n) ih h v0 v1 v3 v4
set_option maxRecDepth 20000 in
set_option maxHeartbeats 1000000 in
theorem jb_X10_grows_3 {G : q_G} {l : Launch} {k0 z0 : Nat} (k3 : q_H → Nat → Int32 → Int32 → Int32 → Int32 → Option (q_H × Unit)) (hk3 : ∀ (h : q_H) (v0 : Nat) (v1 : Int32) (v2 : Int32) (v3 : Int32) (v4 : Int32), q_J G l (RX10, cX10_grows, 7, 3, 70, none, "grows", []) k0 z0 (q_Z G k0 z0 q_u) 3 [(0, .ref v0), (1, .int v1), (2, .int v2), (3, .int v3), (4, .int v4)] [] h (k3 h v0 v1 v2 v3 v4)) (h : q_H) (v0 : Nat) (v1 : Int32) (v2 : Int32) (v3 : Int32) (v4 : Int32) : q_J G l (RX10, cX10_grows, 7, 3, 70, none, "grows", []) k0 z0 (q_Z G k0 z0 q_u) 3 [(0, .ref v0), (1, .int v1), (2, .int v2), (3, .int v3), (4, .int v4)] [] h (b_X10_grows_3 k3 h v0 v1 v2 v3 v4) := by
  unfold b_X10_grows_3
  refine j_iload (pc := 3) (p := 4) rfl dX10_grows_3 ?_
  refine j_bipush (pc := 5) kb_56 dX10_grows_5 ?_
  refine j_ic_ge (pc := 7) (tgt := 41) dX10_grows_7 (by decide) (fun _ => ?_) (fun _ => ?_)
  · refine j_iconst (pc := 41) ki_0 dX10_grows_41 ?_
    refine j_istore (pc := 42) (lv' := [(4, .int (0)), (0, .ref v0), (1, .int v1), (2, .int v2), (3, .int v3)]) (by decide) rfl dX10_grows_42 ?_
    refine j_sub [1, 2, 4, 0] (lv' := [(0, .ref v0), (1, .int v1), (3, .int v3), (4, .int (0))]) rfl ?_
    exact jl_X10_grows_44 q_FU _ _ _ _ _
  refine j_aload_n (pc := 10) (p := 0) rfl rfl dX10_grows_10 ?_
  refine j_getR (pc := 11) FI_X10 (k := 11) (by decide) fl_X10_57 dX10_grows_11 (fun x27 _ => ?_)
  refine j_bipush (pc := 14) kb_56 dX10_grows_14 ?_
  refine j_iload_n (pc := 16) (p := 1) rfl rfl dX10_grows_16 ?_
  refine j_imul (pc := 17) dX10_grows_17 ?_
  refine j_iload (pc := 18) (p := 4) rfl dX10_grows_18 ?_
  refine j_iadd (pc := 20) dX10_grows_20 ?_
  refine j_aload_n (pc := 21) (p := 0) rfl rfl dX10_grows_21 ?_
  refine j_getR (pc := 22) FI_X10 (k := 7) (by decide) fl_X10_47 dX10_grows_22 (fun x28 _ => ?_)
  refine j_iload_n (pc := 25) (p := 2) rfl rfl dX10_grows_25 ?_
  refine j_iconst (pc := 26) ki_0 dX10_grows_26 ?_
  refine j_cSi (pc := 27) Y_X10_baseOf ml_X10_90 sm_X10_baseOf ⟨Nat.le_of_ble_eq_true rfl, Nat.le_of_ble_eq_true rfl⟩ dX10_grows_27 (As := [.int v2, .int (0)]) (rest := [.ref x28, .int (((56) * v1) + v4), .ref x27]) rfl rfl (Nat.le_of_ble_eq_true rfl) (fun x hq9 => c_X10_baseOf _ _ _ _ hq9) (fun q29 _ => ?_)
  refine j_iload (pc := 30) (p := 4) rfl dX10_grows_30 ?_
  refine j_iadd (pc := 32) dX10_grows_32 ?_
  refine j_iald (pc := 33) dX10_grows_33 (fun x30 _ => ?_)
  refine j_iast (pc := 34) dX10_grows_34 (fun h31 _ => ?_)
  refine j_inc (pc := 35) (p := 4) (lv' := [(4, .int (v4 + 1)), (0, .ref v0), (1, .int v1), (2, .int v2), (3, .int v3)]) rfl ki_1 (by decide) rfl dX10_grows_35 ?_
  refine j_goto (pc := 38) (tgt := 3) dX10_grows_38 (by decide) ?_
  refine j_sub [1, 2, 3, 4, 0] (lv' := [(0, .ref v0), (1, .int v1), (2, .int v2), (3, .int v3), (4, .int (v4 + 1))]) rfl ?_
  exact hk3 _ _ _ _ _ _
set_option maxRecDepth 20000 in
set_option maxHeartbeats 1000000 in
theorem jl_X10_grows_3 {G : q_G} {l : Launch} {k0 z0 : Nat} (n : Nat) : ∀ (h : q_H) (v0 : Nat) (v1 : Int32) (v2 : Int32) (v3 : Int32) (v4 : Int32), q_J G l (RX10, cX10_grows, 7, 3, 70, none, "grows", []) k0 z0 (q_Z G k0 z0 q_u) 3 [(0, .ref v0), (1, .int v1), (2, .int v2), (3, .int v3), (4, .int v4)] [] h (l_X10_grows_3 n h v0 v1 v2 v3 v4) := by
  induction n with
  | zero => intro h v0 v1 v2 v3 v4; exact j_none
  | succ n ih => intro h v0 v1 v2 v3 v4; exact jb_X10_grows_3 (l_X10_grows_3 n) ih h v0 v1 v2 v3 v4
set_option maxRecDepth 20000 in
set_option maxHeartbeats 1000000 in
theorem jb_X10_grows_0 {G : q_G} {l : Launch} {k0 z0 : Nat} (h : q_H) (v0 : Nat) (v1 : Int32) (v2 : Int32) (v3 : Int32) : q_J G l (RX10, cX10_grows, 7, 3, 70, none, "grows", []) k0 z0 (q_Z G k0 z0 q_u) 0 [(0, .ref v0), (1, .int v1), (2, .int v2), (3, .int v3)] [] h (b_X10_grows_0 h v0 v1 v2 v3) := by
  unfold b_X10_grows_0
  refine j_iconst (pc := 0) ki_0 dX10_grows_0 ?_
  refine j_istore (pc := 1) (lv' := [(4, .int (0)), (0, .ref v0), (1, .int v1), (2, .int v2), (3, .int v3)]) (by decide) rfl dX10_grows_1 ?_
  refine j_sub [1, 2, 3, 4, 0] (lv' := [(0, .ref v0), (1, .int v1), (2, .int v2), (3, .int v3), (4, .int (0))]) rfl ?_
  exact jl_X10_grows_3 q_FU _ _ _ _ _ _
set_option maxRecDepth 20000 in
set_option maxHeartbeats 1000000 in
theorem c_X10_grows {G : q_G} {l : Launch} : ∀ (h : q_H) (a0 : Nat) (a1 : Int32) (a2 : Int32) (a3 : Int32) (q : q_H × Unit), f_X10_grows h a0 a1 a2 a3 = some q → (∃ fs, h.1 a0 = .inr (9, fs)) ∧ q_CT G l yX10_grows cX10_grows 7 none 3 70 [.ref a0, .int a1, .int a2, .int a3] h q.1 (q_u q.2) := by
  intro h a0 a1 a2 a3 q e
  obtain ⟨e1, e2⟩ := q_chk_ok e
  exact ⟨e1, q_ofJ Y_X10_grows (Nat.le_of_ble_eq_true rfl) (jb_X10_grows_0 h a0 a1 a2 a3) q e2⟩
/-! FarFoldersModel.lays(II)V -/
theorem dX10_lays_0 : decode cX10_lays 0 = .ok (.aload_n 0, 1) := by decide +kernel
theorem dX10_lays_1 : decode cX10_lays 1 = .ok (.iload_n 2, 1) := by decide +kernel
theorem dX10_lays_2 : decode cX10_lays 2 = .ok (.invokevirtual 144, 3) := by decide +kernel
theorem dX10_lays_5 : decode cX10_lays 5 = .ok (.aload_n 0, 1) := by decide +kernel
theorem dX10_lays_6 : decode cX10_lays 6 = .ok (.iload_n 1, 1) := by decide +kernel
theorem dX10_lays_7 : decode cX10_lays 7 = .ok (.iload_n 2, 1) := by decide +kernel
theorem dX10_lays_8 : decode cX10_lays 8 = .ok (.iconst (-1), 1) := by decide +kernel
theorem dX10_lays_9 : decode cX10_lays 9 = .ok (.invokevirtual 148, 3) := by decide +kernel
theorem dX10_lays_12 : decode cX10_lays 12 = .ok (.return_, 1) := by decide +kernel
def b_X10_lays_0 (h : q_H) (v0 : Nat) (v1 : Int32) (v2 : Int32) : Option (q_H × Unit) :=
  Option.bind (f_X10_loads h v0 v2) (fun q1 => Option.bind (f_X10_grows q1.1 v0 v1 v2 (-1)) (fun q2 => some (q2.1, ())))
def f_X10_lays (h : q_H) (a0 : Nat) (a1 : Int32) (a2 : Int32) : Option (q_H × Unit) := q_chk 9 h a0 (b_X10_lays_0 h a0 a1 a2)
set_option maxRecDepth 20000 in
set_option maxHeartbeats 1000000 in
theorem jb_X10_lays_0 {G : q_G} {l : Launch} {k0 z0 : Nat} (h : q_H) (v0 : Nat) (v1 : Int32) (v2 : Int32) : q_J G l (RX10, cX10_lays, 3, 4, 96, none, "lays", []) k0 z0 (q_Z G k0 z0 q_u) 0 [(0, .ref v0), (1, .int v1), (2, .int v2)] [] h (b_X10_lays_0 h v0 v1 v2) := by
  unfold b_X10_lays_0
  refine j_aload_n (pc := 0) (p := 0) rfl rfl dX10_lays_0 ?_
  refine j_iload_n (pc := 1) (p := 2) rfl rfl dX10_lays_1 ?_
  refine j_cVu (pc := 2) Y_X10_loads (ci := 9) (b := v0) rfl rfl ml_X10_144 im_X10_loads se_X10_loads ⟨Nat.le_of_ble_eq_true rfl, Nat.le_of_ble_eq_true rfl⟩ dX10_lays_2 (As := [.int v2]) (rest := []) rfl rfl (Nat.le_of_ble_eq_true rfl) (fun x hq9 => c_X10_loads _ _ _ _ hq9) (fun q1 _ => ?_)
  refine j_aload_n (pc := 5) (p := 0) rfl rfl dX10_lays_5 ?_
  refine j_iload_n (pc := 6) (p := 1) rfl rfl dX10_lays_6 ?_
  refine j_iload_n (pc := 7) (p := 2) rfl rfl dX10_lays_7 ?_
  refine j_iconst (pc := 8) ki_m1 dX10_lays_8 ?_
  refine j_cVu (pc := 9) Y_X10_grows (ci := 9) (b := v0) rfl rfl ml_X10_148 im_X10_grows se_X10_grows ⟨Nat.le_of_ble_eq_true rfl, Nat.le_of_ble_eq_true rfl⟩ dX10_lays_9 (As := [.int v1, .int v2, .int (-1)]) (rest := []) rfl rfl (Nat.le_of_ble_eq_true rfl) (fun x hq9 => c_X10_grows _ _ _ _ _ _ hq9) (fun q2 _ => ?_)
  exact j_vret (pc := 12) rfl dX10_lays_12
set_option maxRecDepth 20000 in
set_option maxHeartbeats 1000000 in
theorem c_X10_lays {G : q_G} {l : Launch} : ∀ (h : q_H) (a0 : Nat) (a1 : Int32) (a2 : Int32) (q : q_H × Unit), f_X10_lays h a0 a1 a2 = some q → (∃ fs, h.1 a0 = .inr (9, fs)) ∧ q_CT G l yX10_lays cX10_lays 3 none 4 96 [.ref a0, .int a1, .int a2] h q.1 (q_u q.2) := by
  intro h a0 a1 a2 q e
  obtain ⟨e1, e2⟩ := q_chk_ok e
  exact ⟨e1, q_ofJ Y_X10_lays (Nat.le_of_ble_eq_true rfl) (jb_X10_lays_0 h a0 a1 a2) q e2⟩
/-! FarFoldersModel.otherSet(II)I -/
theorem dX10_otherSet_0 : decode cX10_otherSet 0 = .ok (.iconst 0, 1) := by decide +kernel
theorem dX10_otherSet_1 : decode cX10_otherSet 1 = .ok (.istore_n 3, 1) := by decide +kernel
theorem dX10_otherSet_2 : decode cX10_otherSet 2 = .ok (.iconst 2, 1) := by decide +kernel
theorem dX10_otherSet_3 : decode cX10_otherSet 3 = .ok (.istore 4, 2) := by decide +kernel
theorem dX10_otherSet_5 : decode cX10_otherSet 5 = .ok (.iload 4, 2) := by decide +kernel
theorem dX10_otherSet_7 : decode cX10_otherSet 7 = .ok (.bipush 14, 2) := by decide +kernel
theorem dX10_otherSet_9 : decode cX10_otherSet 9 = .ok (.if_icmp .ge 107, 3) := by decide +kernel
theorem dX10_otherSet_12 : decode cX10_otherSet 12 = .ok (.aload_n 0, 1) := by decide +kernel
theorem dX10_otherSet_13 : decode cX10_otherSet 13 = .ok (.iload_n 1, 1) := by decide +kernel
theorem dX10_otherSet_14 : decode cX10_otherSet 14 = .ok (.iload 4, 2) := by decide +kernel
theorem dX10_otherSet_16 : decode cX10_otherSet 16 = .ok (.invokevirtual 133, 3) := by decide +kernel
theorem dX10_otherSet_19 : decode cX10_otherSet 19 = .ok (.aload_n 0, 1) := by decide +kernel
theorem dX10_otherSet_20 : decode cX10_otherSet 20 = .ok (.iload_n 2, 1) := by decide +kernel
theorem dX10_otherSet_21 : decode cX10_otherSet 21 = .ok (.iload 4, 2) := by decide +kernel
theorem dX10_otherSet_23 : decode cX10_otherSet 23 = .ok (.invokevirtual 133, 3) := by decide +kernel
theorem dX10_otherSet_26 : decode cX10_otherSet 26 = .ok (.if_icmp .eq 7, 3) := by decide +kernel
theorem dX10_otherSet_29 : decode cX10_otherSet 29 = .ok (.iconst 1, 1) := by decide +kernel
theorem dX10_otherSet_30 : decode cX10_otherSet 30 = .ok (.goto 4, 3) := by decide +kernel
theorem dX10_otherSet_33 : decode cX10_otherSet 33 = .ok (.iconst 0, 1) := by decide +kernel
theorem dX10_otherSet_34 : decode cX10_otherSet 34 = .ok (.istore 5, 2) := by decide +kernel
theorem dX10_otherSet_36 : decode cX10_otherSet 36 = .ok (.iconst 0, 1) := by decide +kernel
theorem dX10_otherSet_37 : decode cX10_otherSet 37 = .ok (.istore 6, 2) := by decide +kernel
theorem dX10_otherSet_39 : decode cX10_otherSet 39 = .ok (.iload 6, 2) := by decide +kernel
theorem dX10_otherSet_41 : decode cX10_otherSet 41 = .ok (.iconst 4, 1) := by decide +kernel
theorem dX10_otherSet_42 : decode cX10_otherSet 42 = .ok (.if_icmp .ge 52, 3) := by decide +kernel
theorem dX10_otherSet_45 : decode cX10_otherSet 45 = .ok (.aload_n 0, 1) := by decide +kernel
theorem dX10_otherSet_46 : decode cX10_otherSet 46 = .ok (.iload_n 1, 1) := by decide +kernel
theorem dX10_otherSet_47 : decode cX10_otherSet 47 = .ok (.iload 4, 2) := by decide +kernel
theorem dX10_otherSet_49 : decode cX10_otherSet 49 = .ok (.invokevirtual 133, 3) := by decide +kernel
theorem dX10_otherSet_52 : decode cX10_otherSet 52 = .ok (.ifCond .eq 42, 3) := by decide +kernel
theorem dX10_otherSet_55 : decode cX10_otherSet 55 = .ok (.iload 5, 2) := by decide +kernel
theorem dX10_otherSet_57 : decode cX10_otherSet 57 = .ok (.ifCond .ne 37, 3) := by decide +kernel
theorem dX10_otherSet_60 : decode cX10_otherSet 60 = .ok (.aload_n 0, 1) := by decide +kernel
theorem dX10_otherSet_61 : decode cX10_otherSet 61 = .ok (.iload_n 1, 1) := by decide +kernel
theorem dX10_otherSet_62 : decode cX10_otherSet 62 = .ok (.iload 4, 2) := by decide +kernel
theorem dX10_otherSet_64 : decode cX10_otherSet 64 = .ok (.iload 6, 2) := by decide +kernel
theorem dX10_otherSet_66 : decode cX10_otherSet 66 = .ok (.invokevirtual 129, 3) := by decide +kernel
theorem dX10_otherSet_69 : decode cX10_otherSet 69 = .ok (.aload_n 0, 1) := by decide +kernel
theorem dX10_otherSet_70 : decode cX10_otherSet 70 = .ok (.iload_n 2, 1) := by decide +kernel
theorem dX10_otherSet_71 : decode cX10_otherSet 71 = .ok (.iload 4, 2) := by decide +kernel
theorem dX10_otherSet_73 : decode cX10_otherSet 73 = .ok (.iload 6, 2) := by decide +kernel
theorem dX10_otherSet_75 : decode cX10_otherSet 75 = .ok (.invokevirtual 129, 3) := by decide +kernel
theorem dX10_otherSet_78 : decode cX10_otherSet 78 = .ok (.if_icmp .eq 7, 3) := by decide +kernel
theorem dX10_otherSet_81 : decode cX10_otherSet 81 = .ok (.iconst 1, 1) := by decide +kernel
theorem dX10_otherSet_82 : decode cX10_otherSet 82 = .ok (.goto 4, 3) := by decide +kernel
theorem dX10_otherSet_85 : decode cX10_otherSet 85 = .ok (.iconst 0, 1) := by decide +kernel
theorem dX10_otherSet_86 : decode cX10_otherSet 86 = .ok (.istore 5, 2) := by decide +kernel
theorem dX10_otherSet_88 : decode cX10_otherSet 88 = .ok (.iinc 6 1, 3) := by decide +kernel
theorem dX10_otherSet_91 : decode cX10_otherSet 91 = .ok (.goto (-52), 3) := by decide +kernel
theorem dX10_otherSet_94 : decode cX10_otherSet 94 = .ok (.iload_n 3, 1) := by decide +kernel
theorem dX10_otherSet_95 : decode cX10_otherSet 95 = .ok (.iload 5, 2) := by decide +kernel
theorem dX10_otherSet_97 : decode cX10_otherSet 97 = .ok (.ifCond .eq 10, 3) := by decide +kernel
theorem dX10_otherSet_100 : decode cX10_otherSet 100 = .ok (.iconst 1, 1) := by decide +kernel
theorem dX10_otherSet_101 : decode cX10_otherSet 101 = .ok (.iload 4, 2) := by decide +kernel
theorem dX10_otherSet_103 : decode cX10_otherSet 103 = .ok (.ishl, 1) := by decide +kernel
theorem dX10_otherSet_104 : decode cX10_otherSet 104 = .ok (.goto 4, 3) := by decide +kernel
theorem dX10_otherSet_107 : decode cX10_otherSet 107 = .ok (.iconst 0, 1) := by decide +kernel
theorem dX10_otherSet_108 : decode cX10_otherSet 108 = .ok (.ior, 1) := by decide +kernel
theorem dX10_otherSet_109 : decode cX10_otherSet 109 = .ok (.istore_n 3, 1) := by decide +kernel
theorem dX10_otherSet_110 : decode cX10_otherSet 110 = .ok (.iinc 4 1, 3) := by decide +kernel
theorem dX10_otherSet_113 : decode cX10_otherSet 113 = .ok (.goto (-108), 3) := by decide +kernel
theorem dX10_otherSet_116 : decode cX10_otherSet 116 = .ok (.iload_n 3, 1) := by decide +kernel
theorem dX10_otherSet_117 : decode cX10_otherSet 117 = .ok (.ireturn, 1) := by decide +kernel
def b_X10_otherSet_108 (k5 : q_H → Nat → Int32 → Int32 → Int32 → Int32 → Option (q_H × Int32)) (h : q_H) (v0 : Nat) (v1 : Int32) (v2 : Int32) (v4 : Int32) (s0 : Int32) (s1 : Int32) : Option (q_H × Int32) :=
  k5 h v0 v1 v2 (s0 ||| s1) (v4 + 1)
def b_X10_otherSet_94 (k5 : q_H → Nat → Int32 → Int32 → Int32 → Int32 → Option (q_H × Int32)) (h : q_H) (v0 : Nat) (v1 : Int32) (v2 : Int32) (v3 : Int32) (v4 : Int32) (v5 : Int32) : Option (q_H × Int32) :=
  if v5 = 0 then b_X10_otherSet_108 k5 h v0 v1 v2 v4 v3 (0) else b_X10_otherSet_108 k5 h v0 v1 v2 v4 v3 ((1) <<< (v4 &&& 31))
def b_X10_otherSet_86 (k5 : q_H → Nat → Int32 → Int32 → Int32 → Int32 → Option (q_H × Int32)) (k39 : q_H → Nat → Int32 → Int32 → Int32 → Int32 → Int32 → Int32 → Option (q_H × Int32)) (h : q_H) (v0 : Nat) (v1 : Int32) (v2 : Int32) (v3 : Int32) (v4 : Int32) (v6 : Int32) (s0 : Int32) : Option (q_H × Int32) :=
  k39 h v0 v1 v2 v3 v4 s0 (v6 + 1)
def b_X10_otherSet_39 (k5 : q_H → Nat → Int32 → Int32 → Int32 → Int32 → Option (q_H × Int32)) (k39 : q_H → Nat → Int32 → Int32 → Int32 → Int32 → Int32 → Int32 → Option (q_H × Int32)) (h : q_H) (v0 : Nat) (v1 : Int32) (v2 : Int32) (v3 : Int32) (v4 : Int32) (v5 : Int32) (v6 : Int32) : Option (q_H × Int32) :=
  if (4) ≤ v6 then b_X10_otherSet_94 k5 h v0 v1 v2 v3 v4 v5 else Option.bind (f_X10_isThere h v0 v1 v4) (fun q1 => if q1.2 = 0 then b_X10_otherSet_94 k5 q1.1 v0 v1 v2 v3 v4 v5 else if v5 = 0 then Option.bind (f_X10_its q1.1 v0 v1 v4 v6) (fun q2 => Option.bind (f_X10_its q2.1 v0 v2 v4 v6) (fun q3 => if q2.2 = q3.2 then b_X10_otherSet_86 k5 k39 q3.1 v0 v1 v2 v3 v4 v6 (0) else b_X10_otherSet_86 k5 k39 q3.1 v0 v1 v2 v3 v4 v6 (1))) else b_X10_otherSet_94 k5 q1.1 v0 v1 v2 v3 v4 v5)
def l_X10_otherSet_39 (k5 : q_H → Nat → Int32 → Int32 → Int32 → Int32 → Option (q_H × Int32)) : Nat → q_H → Nat → Int32 → Int32 → Int32 → Int32 → Int32 → Int32 → Option (q_H × Int32)
  | 0, _, _, _, _, _, _, _, _ => none
  | n + 1, h, v0, v1, v2, v3, v4, v5, v6 => b_X10_otherSet_39 k5 (l_X10_otherSet_39 k5 n) h v0 v1 v2 v3 v4 v5 v6
def b_X10_otherSet_34 (k5 : q_H → Nat → Int32 → Int32 → Int32 → Int32 → Option (q_H × Int32)) (h : q_H) (v0 : Nat) (v1 : Int32) (v2 : Int32) (v3 : Int32) (v4 : Int32) (s0 : Int32) : Option (q_H × Int32) :=
  l_X10_otherSet_39 k5 q_FU h v0 v1 v2 v3 v4 s0 (0)
def b_X10_otherSet_5 (k5 : q_H → Nat → Int32 → Int32 → Int32 → Int32 → Option (q_H × Int32)) (h : q_H) (v0 : Nat) (v1 : Int32) (v2 : Int32) (v3 : Int32) (v4 : Int32) : Option (q_H × Int32) :=
  if (14) ≤ v4 then some (h, v3) else Option.bind (f_X10_isThere h v0 v1 v4) (fun q4 => Option.bind (f_X10_isThere q4.1 v0 v2 v4) (fun q5 => if q4.2 = q5.2 then b_X10_otherSet_34 k5 q5.1 v0 v1 v2 v3 v4 (0) else b_X10_otherSet_34 k5 q5.1 v0 v1 v2 v3 v4 (1)))
def l_X10_otherSet_5 : Nat → q_H → Nat → Int32 → Int32 → Int32 → Int32 → Option (q_H × Int32)
  | 0, _, _, _, _, _, _ => none
  | n + 1, h, v0, v1, v2, v3, v4 => b_X10_otherSet_5 (l_X10_otherSet_5 n) h v0 v1 v2 v3 v4
def b_X10_otherSet_0 (h : q_H) (v0 : Nat) (v1 : Int32) (v2 : Int32) : Option (q_H × Int32) :=
  l_X10_otherSet_5 q_FU h v0 v1 v2 (0) (2)
def f_X10_otherSet (h : q_H) (a0 : Nat) (a1 : Int32) (a2 : Int32) : Option (q_H × Int32) := q_chk 9 h a0 (b_X10_otherSet_0 h a0 a1 a2)
set_option maxRecDepth 20000 in
set_option maxHeartbeats 1000000 in
theorem jb_X10_otherSet_108 {G : q_G} {l : Launch} {k0 z0 : Nat} (k5 : q_H → Nat → Int32 → Int32 → Int32 → Int32 → Option (q_H × Int32)) (hk5 : ∀ (h : q_H) (v0 : Nat) (v1 : Int32) (v2 : Int32) (v3 : Int32) (v4 : Int32), q_J G l (RX10, cX10_otherSet, 7, 2, 45, (some .int), "otherSet", []) k0 z0 (q_Z G k0 z0 q_i) 5 [(0, .ref v0), (1, .int v1), (2, .int v2), (3, .int v3), (4, .int v4)] [] h (k5 h v0 v1 v2 v3 v4)) (h : q_H) (v0 : Nat) (v1 : Int32) (v2 : Int32) (v4 : Int32) (s0 : Int32) (s1 : Int32) : q_J G l (RX10, cX10_otherSet, 7, 2, 45, (some .int), "otherSet", []) k0 z0 (q_Z G k0 z0 q_i) 108 [(0, .ref v0), (1, .int v1), (2, .int v2), (4, .int v4)] [.int s1, .int s0] h (b_X10_otherSet_108 k5 h v0 v1 v2 v4 s0 s1) := by
  unfold b_X10_otherSet_108
  refine j_ior (pc := 108) dX10_otherSet_108 ?_
  refine j_istore_n (pc := 109) (lv' := [(3, .int (s0 ||| s1)), (0, .ref v0), (1, .int v1), (2, .int v2), (4, .int v4)]) rfl (by decide) rfl dX10_otherSet_109 ?_
  refine j_inc (pc := 110) (p := 4) (lv' := [(4, .int (v4 + 1)), (3, .int (s0 ||| s1)), (0, .ref v0), (1, .int v1), (2, .int v2)]) rfl ki_1 (by decide) rfl dX10_otherSet_110 ?_
  refine j_goto (pc := 113) (tgt := 5) dX10_otherSet_113 (by decide) ?_
  refine j_sub [2, 3, 4, 1, 0] (lv' := [(0, .ref v0), (1, .int v1), (2, .int v2), (3, .int (s0 ||| s1)), (4, .int (v4 + 1))]) rfl ?_
  exact hk5 _ _ _ _ _ _
set_option maxRecDepth 20000 in
set_option maxHeartbeats 1000000 in
theorem jb_X10_otherSet_94 {G : q_G} {l : Launch} {k0 z0 : Nat} (k5 : q_H → Nat → Int32 → Int32 → Int32 → Int32 → Option (q_H × Int32)) (hk5 : ∀ (h : q_H) (v0 : Nat) (v1 : Int32) (v2 : Int32) (v3 : Int32) (v4 : Int32), q_J G l (RX10, cX10_otherSet, 7, 2, 45, (some .int), "otherSet", []) k0 z0 (q_Z G k0 z0 q_i) 5 [(0, .ref v0), (1, .int v1), (2, .int v2), (3, .int v3), (4, .int v4)] [] h (k5 h v0 v1 v2 v3 v4)) (h : q_H) (v0 : Nat) (v1 : Int32) (v2 : Int32) (v3 : Int32) (v4 : Int32) (v5 : Int32) : q_J G l (RX10, cX10_otherSet, 7, 2, 45, (some .int), "otherSet", []) k0 z0 (q_Z G k0 z0 q_i) 94 [(0, .ref v0), (1, .int v1), (2, .int v2), (3, .int v3), (4, .int v4), (5, .int v5)] [] h (b_X10_otherSet_94 k5 h v0 v1 v2 v3 v4 v5) := by
  unfold b_X10_otherSet_94
  refine j_iload_n (pc := 94) (p := 3) rfl rfl dX10_otherSet_94 ?_
  refine j_iload (pc := 95) (p := 5) rfl dX10_otherSet_95 ?_
  refine j_if_eq (pc := 97) (tgt := 107) dX10_otherSet_97 (by decide) (fun _ => ?_) (fun _ => ?_)
  · refine j_iconst (pc := 107) ki_0 dX10_otherSet_107 ?_
    refine j_sub [0, 1, 2, 4] (lv' := [(0, .ref v0), (1, .int v1), (2, .int v2), (4, .int v4)]) rfl ?_
    exact jb_X10_otherSet_108 k5 hk5 _ _ _ _ _ _ _
  refine j_iconst (pc := 100) ki_1 dX10_otherSet_100 ?_
  refine j_iload (pc := 101) (p := 4) rfl dX10_otherSet_101 ?_
  refine j_ishl (pc := 103) dX10_otherSet_103 ?_
  refine j_goto (pc := 104) (tgt := 108) dX10_otherSet_104 (by decide) ?_
  refine j_sub [0, 1, 2, 4] (lv' := [(0, .ref v0), (1, .int v1), (2, .int v2), (4, .int v4)]) rfl ?_
  exact jb_X10_otherSet_108 k5 hk5 _ _ _ _ _ _ _
set_option maxRecDepth 20000 in
set_option maxHeartbeats 1000000 in
theorem jb_X10_otherSet_86 {G : q_G} {l : Launch} {k0 z0 : Nat} (k5 : q_H → Nat → Int32 → Int32 → Int32 → Int32 → Option (q_H × Int32)) (k39 : q_H → Nat → Int32 → Int32 → Int32 → Int32 → Int32 → Int32 → Option (q_H × Int32)) (hk5 : ∀ (h : q_H) (v0 : Nat) (v1 : Int32) (v2 : Int32) (v3 : Int32) (v4 : Int32), q_J G l (RX10, cX10_otherSet, 7, 2, 45, (some .int), "otherSet", []) k0 z0 (q_Z G k0 z0 q_i) 5 [(0, .ref v0), (1, .int v1), (2, .int v2), (3, .int v3), (4, .int v4)] [] h (k5 h v0 v1 v2 v3 v4)) (hk39 : ∀ (h : q_H) (v0 : Nat) (v1 : Int32) (v2 : Int32) (v3 : Int32) (v4 : Int32) (v5 : Int32) (v6 : Int32), q_J G l (RX10, cX10_otherSet, 7, 2, 45, (some .int), "otherSet", []) k0 z0 (q_Z G k0 z0 q_i) 39 [(0, .ref v0), (1, .int v1), (2, .int v2), (3, .int v3), (4, .int v4), (5, .int v5), (6, .int v6)] [] h (k39 h v0 v1 v2 v3 v4 v5 v6)) (h : q_H) (v0 : Nat) (v1 : Int32) (v2 : Int32) (v3 : Int32) (v4 : Int32) (v6 : Int32) (s0 : Int32) : q_J G l (RX10, cX10_otherSet, 7, 2, 45, (some .int), "otherSet", []) k0 z0 (q_Z G k0 z0 q_i) 86 [(0, .ref v0), (1, .int v1), (2, .int v2), (3, .int v3), (4, .int v4), (6, .int v6)] [.int s0] h (b_X10_otherSet_86 k5 k39 h v0 v1 v2 v3 v4 v6 s0) := by
  unfold b_X10_otherSet_86
  refine j_istore (pc := 86) (lv' := [(5, .int s0), (0, .ref v0), (1, .int v1), (2, .int v2), (3, .int v3), (4, .int v4), (6, .int v6)]) (by decide) rfl dX10_otherSet_86 ?_
  refine j_inc (pc := 88) (p := 6) (lv' := [(6, .int (v6 + 1)), (5, .int s0), (0, .ref v0), (1, .int v1), (2, .int v2), (3, .int v3), (4, .int v4)]) rfl ki_1 (by decide) rfl dX10_otherSet_88 ?_
  refine j_goto (pc := 91) (tgt := 39) dX10_otherSet_91 (by decide) ?_
  refine j_sub [2, 3, 4, 5, 6, 1, 0] (lv' := [(0, .ref v0), (1, .int v1), (2, .int v2), (3, .int v3), (4, .int v4), (5, .int s0), (6, .int (v6 + 1))]) rfl ?_
  exact hk39 _ _ _ _ _ _ _ _
set_option maxRecDepth 20000 in
set_option maxHeartbeats 1000000 in
theorem jb_X10_otherSet_39 {G : q_G} {l : Launch} {k0 z0 : Nat} (k5 : q_H → Nat → Int32 → Int32 → Int32 → Int32 → Option (q_H × Int32)) (k39 : q_H → Nat → Int32 → Int32 → Int32 → Int32 → Int32 → Int32 → Option (q_H × Int32)) (hk5 : ∀ (h : q_H) (v0 : Nat) (v1 : Int32) (v2 : Int32) (v3 : Int32) (v4 : Int32), q_J G l (RX10, cX10_otherSet, 7, 2, 45, (some .int), "otherSet", []) k0 z0 (q_Z G k0 z0 q_i) 5 [(0, .ref v0), (1, .int v1), (2, .int v2), (3, .int v3), (4, .int v4)] [] h (k5 h v0 v1 v2 v3 v4)) (hk39 : ∀ (h : q_H) (v0 : Nat) (v1 : Int32) (v2 : Int32) (v3 : Int32) (v4 : Int32) (v5 : Int32) (v6 : Int32), q_J G l (RX10, cX10_otherSet, 7, 2, 45, (some .int), "otherSet", []) k0 z0 (q_Z G k0 z0 q_i) 39 [(0, .ref v0), (1, .int v1), (2, .int v2), (3, .int v3), (4, .int v4), (5, .int v5), (6, .int v6)] [] h (k39 h v0 v1 v2 v3 v4 v5 v6)) (h : q_H) (v0 : Nat) (v1 : Int32) (v2 : Int32) (v3 : Int32) (v4 : Int32) (v5 : Int32) (v6 : Int32) : q_J G l (RX10, cX10_otherSet, 7, 2, 45, (some .int), "otherSet", []) k0 z0 (q_Z G k0 z0 q_i) 39 [(0, .ref v0), (1, .int v1), (2, .int v2), (3, .int v3), (4, .int v4), (5, .int v5), (6, .int v6)] [] h (b_X10_otherSet_39 k5 k39 h v0 v1 v2 v3 v4 v5 v6) := by
  unfold b_X10_otherSet_39
  refine j_iload (pc := 39) (p := 6) rfl dX10_otherSet_39 ?_
  refine j_iconst (pc := 41) ki_4 dX10_otherSet_41 ?_
  refine j_ic_ge (pc := 42) (tgt := 94) dX10_otherSet_42 (by decide) (fun _ => ?_) (fun _ => ?_)
  · refine j_sub [0, 1, 2, 3, 4, 5] (lv' := [(0, .ref v0), (1, .int v1), (2, .int v2), (3, .int v3), (4, .int v4), (5, .int v5)]) rfl ?_
    exact jb_X10_otherSet_94 k5 hk5 _ _ _ _ _ _ _
  refine j_aload_n (pc := 45) (p := 0) rfl rfl dX10_otherSet_45 ?_
  refine j_iload_n (pc := 46) (p := 1) rfl rfl dX10_otherSet_46 ?_
  refine j_iload (pc := 47) (p := 4) rfl dX10_otherSet_47 ?_
  refine j_cVi (pc := 49) Y_X10_isThere (ci := 9) (b := v0) rfl rfl ml_X10_133 im_X10_isThere se_X10_isThere ⟨Nat.le_of_ble_eq_true rfl, Nat.le_of_ble_eq_true rfl⟩ dX10_otherSet_49 (As := [.int v1, .int v4]) (rest := []) rfl rfl (Nat.le_of_ble_eq_true rfl) (fun x hq9 => c_X10_isThere _ _ _ _ _ hq9) (fun q1 _ => ?_)
  refine j_if_eq (pc := 52) (tgt := 94) dX10_otherSet_52 (by decide) (fun _ => ?_) (fun _ => ?_)
  · refine j_sub [0, 1, 2, 3, 4, 5] (lv' := [(0, .ref v0), (1, .int v1), (2, .int v2), (3, .int v3), (4, .int v4), (5, .int v5)]) rfl ?_
    exact jb_X10_otherSet_94 k5 hk5 _ _ _ _ _ _ _
  refine j_iload (pc := 55) (p := 5) rfl dX10_otherSet_55 ?_
  refine j_if_ne (pc := 57) (tgt := 94) dX10_otherSet_57 (by decide) (fun _ => ?_) (fun _ => ?_)
  · refine j_aload_n (pc := 60) (p := 0) rfl rfl dX10_otherSet_60 ?_
    refine j_iload_n (pc := 61) (p := 1) rfl rfl dX10_otherSet_61 ?_
    refine j_iload (pc := 62) (p := 4) rfl dX10_otherSet_62 ?_
    refine j_iload (pc := 64) (p := 6) rfl dX10_otherSet_64 ?_
    refine j_cVi (pc := 66) Y_X10_its (ci := 9) (b := v0) rfl rfl ml_X10_129 im_X10_its se_X10_its ⟨Nat.le_of_ble_eq_true rfl, Nat.le_of_ble_eq_true rfl⟩ dX10_otherSet_66 (As := [.int v1, .int v4, .int v6]) (rest := []) rfl rfl (Nat.le_of_ble_eq_true rfl) (fun x hq9 => c_X10_its _ _ _ _ _ _ hq9) (fun q2 _ => ?_)
    refine j_aload_n (pc := 69) (p := 0) rfl rfl dX10_otherSet_69 ?_
    refine j_iload_n (pc := 70) (p := 2) rfl rfl dX10_otherSet_70 ?_
    refine j_iload (pc := 71) (p := 4) rfl dX10_otherSet_71 ?_
    refine j_iload (pc := 73) (p := 6) rfl dX10_otherSet_73 ?_
    refine j_cVi (pc := 75) Y_X10_its (ci := 9) (b := v0) rfl rfl ml_X10_129 im_X10_its se_X10_its ⟨Nat.le_of_ble_eq_true rfl, Nat.le_of_ble_eq_true rfl⟩ dX10_otherSet_75 (As := [.int v2, .int v4, .int v6]) (rest := [.int q2.2]) rfl rfl (Nat.le_of_ble_eq_true rfl) (fun x hq9 => c_X10_its _ _ _ _ _ _ hq9) (fun q3 _ => ?_)
    refine j_ic_eq (pc := 78) (tgt := 85) dX10_otherSet_78 (by decide) (fun _ => ?_) (fun _ => ?_)
    · refine j_iconst (pc := 85) ki_0 dX10_otherSet_85 ?_
      refine j_sub [0, 1, 2, 3, 4, 6] (lv' := [(0, .ref v0), (1, .int v1), (2, .int v2), (3, .int v3), (4, .int v4), (6, .int v6)]) rfl ?_
      exact jb_X10_otherSet_86 k5 k39 hk5 hk39 _ _ _ _ _ _ _ _
    refine j_iconst (pc := 81) ki_1 dX10_otherSet_81 ?_
    refine j_goto (pc := 82) (tgt := 86) dX10_otherSet_82 (by decide) ?_
    refine j_sub [0, 1, 2, 3, 4, 6] (lv' := [(0, .ref v0), (1, .int v1), (2, .int v2), (3, .int v3), (4, .int v4), (6, .int v6)]) rfl ?_
    exact jb_X10_otherSet_86 k5 k39 hk5 hk39 _ _ _ _ _ _ _ _
  refine j_sub [0, 1, 2, 3, 4, 5] (lv' := [(0, .ref v0), (1, .int v1), (2, .int v2), (3, .int v3), (4, .int v4), (5, .int v5)]) rfl ?_
  exact jb_X10_otherSet_94 k5 hk5 _ _ _ _ _ _ _
set_option maxRecDepth 20000 in
set_option maxHeartbeats 1000000 in
theorem jl_X10_otherSet_39 {G : q_G} {l : Launch} {k0 z0 : Nat} (k5 : q_H → Nat → Int32 → Int32 → Int32 → Int32 → Option (q_H × Int32)) (hk5 : ∀ (h : q_H) (v0 : Nat) (v1 : Int32) (v2 : Int32) (v3 : Int32) (v4 : Int32), q_J G l (RX10, cX10_otherSet, 7, 2, 45, (some .int), "otherSet", []) k0 z0 (q_Z G k0 z0 q_i) 5 [(0, .ref v0), (1, .int v1), (2, .int v2), (3, .int v3), (4, .int v4)] [] h (k5 h v0 v1 v2 v3 v4)) (n : Nat) : ∀ (h : q_H) (v0 : Nat) (v1 : Int32) (v2 : Int32) (v3 : Int32) (v4 : Int32) (v5 : Int32) (v6 : Int32), q_J G l (RX10, cX10_otherSet, 7, 2, 45, (some .int), "otherSet", []) k0 z0 (q_Z G k0 z0 q_i) 39 [(0, .ref v0), (1, .int v1), (2, .int v2), (3, .int v3), (4, .int v4), (5, .int v5), (6, .int v6)] [] h (l_X10_otherSet_39 k5 n h v0 v1 v2 v3 v4 v5 v6) := by
  induction n with
  | zero => intro h v0 v1 v2 v3 v4 v5 v6; exact j_none
  | succ n ih => intro h v0 v1 v2 v3 v4 v5 v6; exact jb_X10_otherSet_39 k5 (l_X10_otherSet_39 k5 n) hk5 ih h v0 v1 v2 v3 v4 v5 v6
set_option maxRecDepth 20000 in
set_option maxHeartbeats 1000000 in
theorem jb_X10_otherSet_34 {G : q_G} {l : Launch} {k0 z0 : Nat} (k5 : q_H → Nat → Int32 → Int32 → Int32 → Int32 → Option (q_H × Int32)) (hk5 : ∀ (h : q_H) (v0 : Nat) (v1 : Int32) (v2 : Int32) (v3 : Int32) (v4 : Int32), q_J G l (RX10, cX10_otherSet, 7, 2, 45, (some .int), "otherSet", []) k0 z0 (q_Z G k0 z0 q_i) 5 [(0, .ref v0), (1, .int v1), (2, .int v2), (3, .int v3), (4, .int v4)] [] h (k5 h v0 v1 v2 v3 v4)) (h : q_H) (v0 : Nat) (v1 : Int32) (v2 : Int32) (v3 : Int32) (v4 : Int32) (s0 : Int32) : q_J G l (RX10, cX10_otherSet, 7, 2, 45, (some .int), "otherSet", []) k0 z0 (q_Z G k0 z0 q_i) 34 [(0, .ref v0), (1, .int v1), (2, .int v2), (3, .int v3), (4, .int v4)] [.int s0] h (b_X10_otherSet_34 k5 h v0 v1 v2 v3 v4 s0) := by
  unfold b_X10_otherSet_34
  refine j_istore (pc := 34) (lv' := [(5, .int s0), (0, .ref v0), (1, .int v1), (2, .int v2), (3, .int v3), (4, .int v4)]) (by decide) rfl dX10_otherSet_34 ?_
  refine j_iconst (pc := 36) ki_0 dX10_otherSet_36 ?_
  refine j_istore (pc := 37) (lv' := [(6, .int (0)), (5, .int s0), (0, .ref v0), (1, .int v1), (2, .int v2), (3, .int v3), (4, .int v4)]) (by decide) rfl dX10_otherSet_37 ?_
  refine j_sub [2, 3, 4, 5, 6, 1, 0] (lv' := [(0, .ref v0), (1, .int v1), (2, .int v2), (3, .int v3), (4, .int v4), (5, .int s0), (6, .int (0))]) rfl ?_
  exact jl_X10_otherSet_39 k5 hk5 q_FU _ _ _ _ _ _ _ _
set_option maxRecDepth 20000 in
set_option maxHeartbeats 1000000 in
theorem jb_X10_otherSet_5 {G : q_G} {l : Launch} {k0 z0 : Nat} (k5 : q_H → Nat → Int32 → Int32 → Int32 → Int32 → Option (q_H × Int32)) (hk5 : ∀ (h : q_H) (v0 : Nat) (v1 : Int32) (v2 : Int32) (v3 : Int32) (v4 : Int32), q_J G l (RX10, cX10_otherSet, 7, 2, 45, (some .int), "otherSet", []) k0 z0 (q_Z G k0 z0 q_i) 5 [(0, .ref v0), (1, .int v1), (2, .int v2), (3, .int v3), (4, .int v4)] [] h (k5 h v0 v1 v2 v3 v4)) (h : q_H) (v0 : Nat) (v1 : Int32) (v2 : Int32) (v3 : Int32) (v4 : Int32) : q_J G l (RX10, cX10_otherSet, 7, 2, 45, (some .int), "otherSet", []) k0 z0 (q_Z G k0 z0 q_i) 5 [(0, .ref v0), (1, .int v1), (2, .int v2), (3, .int v3), (4, .int v4)] [] h (b_X10_otherSet_5 k5 h v0 v1 v2 v3 v4) := by
  unfold b_X10_otherSet_5
  refine j_iload (pc := 5) (p := 4) rfl dX10_otherSet_5 ?_
  refine j_bipush (pc := 7) kb_14 dX10_otherSet_7 ?_
  refine j_ic_ge (pc := 9) (tgt := 116) dX10_otherSet_9 (by decide) (fun _ => ?_) (fun _ => ?_)
  · refine j_iload_n (pc := 116) (p := 3) rfl rfl dX10_otherSet_116 ?_
    exact j_iret (pc := 117) rfl dX10_otherSet_117
  refine j_aload_n (pc := 12) (p := 0) rfl rfl dX10_otherSet_12 ?_
  refine j_iload_n (pc := 13) (p := 1) rfl rfl dX10_otherSet_13 ?_
  refine j_iload (pc := 14) (p := 4) rfl dX10_otherSet_14 ?_
  refine j_cVi (pc := 16) Y_X10_isThere (ci := 9) (b := v0) rfl rfl ml_X10_133 im_X10_isThere se_X10_isThere ⟨Nat.le_of_ble_eq_true rfl, Nat.le_of_ble_eq_true rfl⟩ dX10_otherSet_16 (As := [.int v1, .int v4]) (rest := []) rfl rfl (Nat.le_of_ble_eq_true rfl) (fun x hq9 => c_X10_isThere _ _ _ _ _ hq9) (fun q4 _ => ?_)
  refine j_aload_n (pc := 19) (p := 0) rfl rfl dX10_otherSet_19 ?_
  refine j_iload_n (pc := 20) (p := 2) rfl rfl dX10_otherSet_20 ?_
  refine j_iload (pc := 21) (p := 4) rfl dX10_otherSet_21 ?_
  refine j_cVi (pc := 23) Y_X10_isThere (ci := 9) (b := v0) rfl rfl ml_X10_133 im_X10_isThere se_X10_isThere ⟨Nat.le_of_ble_eq_true rfl, Nat.le_of_ble_eq_true rfl⟩ dX10_otherSet_23 (As := [.int v2, .int v4]) (rest := [.int q4.2]) rfl rfl (Nat.le_of_ble_eq_true rfl) (fun x hq9 => c_X10_isThere _ _ _ _ _ hq9) (fun q5 _ => ?_)
  refine j_ic_eq (pc := 26) (tgt := 33) dX10_otherSet_26 (by decide) (fun _ => ?_) (fun _ => ?_)
  · refine j_iconst (pc := 33) ki_0 dX10_otherSet_33 ?_
    exact jb_X10_otherSet_34 k5 hk5 _ _ _ _ _ _ _
  refine j_iconst (pc := 29) ki_1 dX10_otherSet_29 ?_
  refine j_goto (pc := 30) (tgt := 34) dX10_otherSet_30 (by decide) ?_
  exact jb_X10_otherSet_34 k5 hk5 _ _ _ _ _ _ _
set_option maxRecDepth 20000 in
set_option maxHeartbeats 1000000 in
theorem jl_X10_otherSet_5 {G : q_G} {l : Launch} {k0 z0 : Nat} (n : Nat) : ∀ (h : q_H) (v0 : Nat) (v1 : Int32) (v2 : Int32) (v3 : Int32) (v4 : Int32), q_J G l (RX10, cX10_otherSet, 7, 2, 45, (some .int), "otherSet", []) k0 z0 (q_Z G k0 z0 q_i) 5 [(0, .ref v0), (1, .int v1), (2, .int v2), (3, .int v3), (4, .int v4)] [] h (l_X10_otherSet_5 n h v0 v1 v2 v3 v4) := by
  induction n with
  | zero => intro h v0 v1 v2 v3 v4; exact j_none
  | succ n ih => intro h v0 v1 v2 v3 v4; exact jb_X10_otherSet_5 (l_X10_otherSet_5 n) ih h v0 v1 v2 v3 v4
set_option maxRecDepth 20000 in
set_option maxHeartbeats 1000000 in
theorem jb_X10_otherSet_0 {G : q_G} {l : Launch} {k0 z0 : Nat} (h : q_H) (v0 : Nat) (v1 : Int32) (v2 : Int32) : q_J G l (RX10, cX10_otherSet, 7, 2, 45, (some .int), "otherSet", []) k0 z0 (q_Z G k0 z0 q_i) 0 [(0, .ref v0), (1, .int v1), (2, .int v2)] [] h (b_X10_otherSet_0 h v0 v1 v2) := by
  unfold b_X10_otherSet_0
  refine j_iconst (pc := 0) ki_0 dX10_otherSet_0 ?_
  refine j_istore_n (pc := 1) (lv' := [(3, .int (0)), (0, .ref v0), (1, .int v1), (2, .int v2)]) rfl (by decide) rfl dX10_otherSet_1 ?_
  refine j_iconst (pc := 2) ki_2 dX10_otherSet_2 ?_
  refine j_istore (pc := 3) (lv' := [(4, .int (2)), (3, .int (0)), (0, .ref v0), (1, .int v1), (2, .int v2)]) (by decide) rfl dX10_otherSet_3 ?_
  refine j_sub [2, 3, 4, 1, 0] (lv' := [(0, .ref v0), (1, .int v1), (2, .int v2), (3, .int (0)), (4, .int (2))]) rfl ?_
  exact jl_X10_otherSet_5 q_FU _ _ _ _ _ _
set_option maxRecDepth 20000 in
set_option maxHeartbeats 1000000 in
theorem c_X10_otherSet {G : q_G} {l : Launch} : ∀ (h : q_H) (a0 : Nat) (a1 : Int32) (a2 : Int32) (q : q_H × Int32), f_X10_otherSet h a0 a1 a2 = some q → (∃ fs, h.1 a0 = .inr (9, fs)) ∧ q_CT G l yX10_otherSet cX10_otherSet 7 (some .int) 2 45 [.ref a0, .int a1, .int a2] h q.1 (q_i q.2) := by
  intro h a0 a1 a2 q e
  obtain ⟨e1, e2⟩ := q_chk_ok e
  exact ⟨e1, q_ofJ Y_X10_otherSet (Nat.le_of_ble_eq_true rfl) (jb_X10_otherSet_0 h a0 a1 a2) q e2⟩
/-! FarFoldersModel.enters(J)V -/
theorem dX10_enters_0 : decode cX10_enters 0 = .ok (.aload_n 0, 1) := by decide +kernel
theorem dX10_enters_1 : decode cX10_enters 1 = .ok (.getfield 7, 3) := by decide +kernel
theorem dX10_enters_4 : decode cX10_enters 4 = .ok (.aload_n 0, 1) := by decide +kernel
theorem dX10_enters_5 : decode cX10_enters 5 = .ok (.getfield 11, 3) := by decide +kernel
theorem dX10_enters_8 : decode cX10_enters 8 = .ok (.lload_n 1, 1) := by decide +kernel
theorem dX10_enters_9 : decode cX10_enters 9 = .ok (.lastore, 1) := by decide +kernel
theorem dX10_enters_10 : decode cX10_enters 10 = .ok (.aload_n 0, 1) := by decide +kernel
theorem dX10_enters_11 : decode cX10_enters 11 = .ok (.dup, 1) := by decide +kernel
theorem dX10_enters_12 : decode cX10_enters 12 = .ok (.getfield 11, 3) := by decide +kernel
theorem dX10_enters_15 : decode cX10_enters 15 = .ok (.iconst 1, 1) := by decide +kernel
theorem dX10_enters_16 : decode cX10_enters 16 = .ok (.iadd, 1) := by decide +kernel
theorem dX10_enters_17 : decode cX10_enters 17 = .ok (.putfield 11, 3) := by decide +kernel
theorem dX10_enters_20 : decode cX10_enters 20 = .ok (.return_, 1) := by decide +kernel
def b_X10_enters_0 (h : q_H) (v0 : Nat) (v1 : Int64) : Option (q_H × Unit) :=
  Option.bind (q_gR 9 2 h v0) (fun x1 => Option.bind (q_gI 9 1 h v0) (fun x2 => Option.bind (q_sL h x1 x2 v1) (fun h3 => Option.bind (q_gI 9 1 h3 v0) (fun x4 => Option.bind (q_p 9 1 h3 v0 (.int (x4 + (1)))) (fun h5 => some (h5, ()))))))
def f_X10_enters (h : q_H) (a0 : Nat) (a1 : Int64) : Option (q_H × Unit) := q_chk 9 h a0 (b_X10_enters_0 h a0 a1)
set_option maxRecDepth 20000 in
set_option maxHeartbeats 1000000 in
theorem jb_X10_enters_0 {G : q_G} {l : Launch} {k0 z0 : Nat} (h : q_H) (v0 : Nat) (v1 : Int64) : q_J G l (RX10, cX10_enters, 3, 0, 0, none, "enters", []) k0 z0 (q_Z G k0 z0 q_u) 0 [(0, .ref v0), (1, .long v1)] [] h (b_X10_enters_0 h v0 v1) := by
  unfold b_X10_enters_0
  refine j_aload_n (pc := 0) (p := 0) rfl rfl dX10_enters_0 ?_
  refine j_getR (pc := 1) FI_X10 (k := 2) (by decide) fl_X10_7 dX10_enters_1 (fun x1 _ => ?_)
  refine j_aload_n (pc := 4) (p := 0) rfl rfl dX10_enters_4 ?_
  refine j_getI (pc := 5) FI_X10 (k := 1) (by decide) fl_X10_11 dX10_enters_5 (fun x2 _ => ?_)
  refine j_lload_n (pc := 8) (p := 1) rfl rfl dX10_enters_8 ?_
  refine j_last (pc := 9) dX10_enters_9 (fun h3 _ => ?_)
  refine j_aload_n (pc := 10) (p := 0) rfl rfl dX10_enters_10 ?_
  refine j_dup (pc := 11) rfl dX10_enters_11 ?_
  refine j_getI (pc := 12) FI_X10 (k := 1) (by decide) fl_X10_11 dX10_enters_12 (fun x4 _ => ?_)
  refine j_iconst (pc := 15) ki_1 dX10_enters_15 ?_
  refine j_iadd (pc := 16) dX10_enters_16 ?_
  refine j_put (pc := 17) FI_X10 (k := 1) (by decide) fl_X10_11 rfl rfl rfl dX10_enters_17 (fun h5 _ => ?_)
  exact j_vret (pc := 20) rfl dX10_enters_20
set_option maxRecDepth 20000 in
set_option maxHeartbeats 1000000 in
theorem c_X10_enters {G : q_G} {l : Launch} : ∀ (h : q_H) (a0 : Nat) (a1 : Int64) (q : q_H × Unit), f_X10_enters h a0 a1 = some q → (∃ fs, h.1 a0 = .inr (9, fs)) ∧ q_CT G l yX10_enters cX10_enters 3 none 0 0 [.ref a0, .long a1] h q.1 (q_u q.2) := by
  intro h a0 a1 q e
  obtain ⟨e1, e2⟩ := q_chk_ok e
  exact ⟨e1, q_ofJ Y_X10_enters (Nat.le_of_ble_eq_true rfl) (jb_X10_enters_0 h a0 a1) q e2⟩
/-! FarFoldersModel.bitsOf(I)I -/
theorem dX10_bitsOf_0 : decode cX10_bitsOf 0 = .ok (.iconst 0, 1) := by decide +kernel
theorem dX10_bitsOf_1 : decode cX10_bitsOf 1 = .ok (.istore_n 1, 1) := by decide +kernel
theorem dX10_bitsOf_2 : decode cX10_bitsOf 2 = .ok (.iconst 0, 1) := by decide +kernel
theorem dX10_bitsOf_3 : decode cX10_bitsOf 3 = .ok (.istore_n 2, 1) := by decide +kernel
theorem dX10_bitsOf_4 : decode cX10_bitsOf 4 = .ok (.iload_n 2, 1) := by decide +kernel
theorem dX10_bitsOf_5 : decode cX10_bitsOf 5 = .ok (.bipush 31, 2) := by decide +kernel
theorem dX10_bitsOf_7 : decode cX10_bitsOf 7 = .ok (.if_icmp .ge 17, 3) := by decide +kernel
theorem dX10_bitsOf_10 : decode cX10_bitsOf 10 = .ok (.iload_n 1, 1) := by decide +kernel
theorem dX10_bitsOf_11 : decode cX10_bitsOf 11 = .ok (.iload_n 0, 1) := by decide +kernel
theorem dX10_bitsOf_12 : decode cX10_bitsOf 12 = .ok (.iload_n 2, 1) := by decide +kernel
theorem dX10_bitsOf_13 : decode cX10_bitsOf 13 = .ok (.ishr, 1) := by decide +kernel
theorem dX10_bitsOf_14 : decode cX10_bitsOf 14 = .ok (.iconst 1, 1) := by decide +kernel
theorem dX10_bitsOf_15 : decode cX10_bitsOf 15 = .ok (.iand, 1) := by decide +kernel
theorem dX10_bitsOf_16 : decode cX10_bitsOf 16 = .ok (.iadd, 1) := by decide +kernel
theorem dX10_bitsOf_17 : decode cX10_bitsOf 17 = .ok (.istore_n 1, 1) := by decide +kernel
theorem dX10_bitsOf_18 : decode cX10_bitsOf 18 = .ok (.iinc 2 1, 3) := by decide +kernel
theorem dX10_bitsOf_21 : decode cX10_bitsOf 21 = .ok (.goto (-17), 3) := by decide +kernel
theorem dX10_bitsOf_24 : decode cX10_bitsOf 24 = .ok (.iload_n 1, 1) := by decide +kernel
theorem dX10_bitsOf_25 : decode cX10_bitsOf 25 = .ok (.ireturn, 1) := by decide +kernel
def b_X10_bitsOf_4 (k4 : q_H → Int32 → Int32 → Int32 → Option (q_H × Int32)) (h : q_H) (v0 : Int32) (v1 : Int32) (v2 : Int32) : Option (q_H × Int32) :=
  if (31) ≤ v2 then some (h, v1) else k4 h v0 (v1 + ((v0 >>> (v2 &&& 31)) &&& (1))) (v2 + 1)
def l_X10_bitsOf_4 : Nat → q_H → Int32 → Int32 → Int32 → Option (q_H × Int32)
  | 0, _, _, _, _ => none
  | n + 1, h, v0, v1, v2 => b_X10_bitsOf_4 (l_X10_bitsOf_4 n) h v0 v1 v2
def b_X10_bitsOf_0 (h : q_H) (v0 : Int32) : Option (q_H × Int32) :=
  l_X10_bitsOf_4 q_FU h v0 (0) (0)
def f_X10_bitsOf (h : q_H) (a0 : Int32) : Option (q_H × Int32) := b_X10_bitsOf_0 h a0
set_option maxRecDepth 20000 in
set_option maxHeartbeats 1000000 in
theorem jb_X10_bitsOf_4 {G : q_G} {l : Launch} {k0 z0 : Nat} (k4 : q_H → Int32 → Int32 → Int32 → Option (q_H × Int32)) (hk4 : ∀ (h : q_H) (v0 : Int32) (v1 : Int32) (v2 : Int32), q_J G l (RX10, cX10_bitsOf, 3, 0, 0, (some .int), "bitsOf", []) k0 z0 (q_Z G k0 z0 q_i) 4 [(0, .int v0), (1, .int v1), (2, .int v2)] [] h (k4 h v0 v1 v2)) (h : q_H) (v0 : Int32) (v1 : Int32) (v2 : Int32) : q_J G l (RX10, cX10_bitsOf, 3, 0, 0, (some .int), "bitsOf", []) k0 z0 (q_Z G k0 z0 q_i) 4 [(0, .int v0), (1, .int v1), (2, .int v2)] [] h (b_X10_bitsOf_4 k4 h v0 v1 v2) := by
  unfold b_X10_bitsOf_4
  refine j_iload_n (pc := 4) (p := 2) rfl rfl dX10_bitsOf_4 ?_
  refine j_bipush (pc := 5) kb_31 dX10_bitsOf_5 ?_
  refine j_ic_ge (pc := 7) (tgt := 24) dX10_bitsOf_7 (by decide) (fun _ => ?_) (fun _ => ?_)
  · refine j_iload_n (pc := 24) (p := 1) rfl rfl dX10_bitsOf_24 ?_
    exact j_iret (pc := 25) rfl dX10_bitsOf_25
  refine j_iload_n (pc := 10) (p := 1) rfl rfl dX10_bitsOf_10 ?_
  refine j_iload_n (pc := 11) (p := 0) rfl rfl dX10_bitsOf_11 ?_
  refine j_iload_n (pc := 12) (p := 2) rfl rfl dX10_bitsOf_12 ?_
  refine j_ishr (pc := 13) dX10_bitsOf_13 ?_
  refine j_iconst (pc := 14) ki_1 dX10_bitsOf_14 ?_
  refine j_iand (pc := 15) dX10_bitsOf_15 ?_
  refine j_iadd (pc := 16) dX10_bitsOf_16 ?_
  refine j_istore_n (pc := 17) (lv' := [(1, .int (v1 + ((v0 >>> (v2 &&& 31)) &&& (1)))), (0, .int v0), (2, .int v2)]) rfl (by decide) rfl dX10_bitsOf_17 ?_
  refine j_inc (pc := 18) (p := 2) (lv' := [(2, .int (v2 + 1)), (1, .int (v1 + ((v0 >>> (v2 &&& 31)) &&& (1)))), (0, .int v0)]) rfl ki_1 (by decide) rfl dX10_bitsOf_18 ?_
  refine j_goto (pc := 21) (tgt := 4) dX10_bitsOf_21 (by decide) ?_
  refine j_sub [2, 1, 0] (lv' := [(0, .int v0), (1, .int (v1 + ((v0 >>> (v2 &&& 31)) &&& (1)))), (2, .int (v2 + 1))]) rfl ?_
  exact hk4 _ _ _ _
set_option maxRecDepth 20000 in
set_option maxHeartbeats 1000000 in
theorem jl_X10_bitsOf_4 {G : q_G} {l : Launch} {k0 z0 : Nat} (n : Nat) : ∀ (h : q_H) (v0 : Int32) (v1 : Int32) (v2 : Int32), q_J G l (RX10, cX10_bitsOf, 3, 0, 0, (some .int), "bitsOf", []) k0 z0 (q_Z G k0 z0 q_i) 4 [(0, .int v0), (1, .int v1), (2, .int v2)] [] h (l_X10_bitsOf_4 n h v0 v1 v2) := by
  induction n with
  | zero => intro h v0 v1 v2; exact j_none
  | succ n ih => intro h v0 v1 v2; exact jb_X10_bitsOf_4 (l_X10_bitsOf_4 n) ih h v0 v1 v2
set_option maxRecDepth 20000 in
set_option maxHeartbeats 1000000 in
theorem jb_X10_bitsOf_0 {G : q_G} {l : Launch} {k0 z0 : Nat} (h : q_H) (v0 : Int32) : q_J G l (RX10, cX10_bitsOf, 3, 0, 0, (some .int), "bitsOf", []) k0 z0 (q_Z G k0 z0 q_i) 0 [(0, .int v0)] [] h (b_X10_bitsOf_0 h v0) := by
  unfold b_X10_bitsOf_0
  refine j_iconst (pc := 0) ki_0 dX10_bitsOf_0 ?_
  refine j_istore_n (pc := 1) (lv' := [(1, .int (0)), (0, .int v0)]) rfl (by decide) rfl dX10_bitsOf_1 ?_
  refine j_iconst (pc := 2) ki_0 dX10_bitsOf_2 ?_
  refine j_istore_n (pc := 3) (lv' := [(2, .int (0)), (1, .int (0)), (0, .int v0)]) rfl (by decide) rfl dX10_bitsOf_3 ?_
  refine j_sub [2, 1, 0] (lv' := [(0, .int v0), (1, .int (0)), (2, .int (0))]) rfl ?_
  exact jl_X10_bitsOf_4 q_FU _ _ _ _
set_option maxRecDepth 20000 in
set_option maxHeartbeats 1000000 in
theorem c_X10_bitsOf {G : q_G} {l : Launch} : ∀ (h : q_H) (a0 : Int32) (q : q_H × Int32), f_X10_bitsOf h a0 = some q → q_CT G l yX10_bitsOf cX10_bitsOf 3 (some .int) 0 0 [.int a0] h q.1 (q_i q.2) := by
  intro h a0 q e
  exact q_ofJ Y_X10_bitsOf (Nat.le_of_ble_eq_true rfl) (jb_X10_bitsOf_0 h a0) q e
/-! FarFoldersModel.other(II)I -/
theorem dX10_other_0 : decode cX10_other 0 = .ok (.aload_n 0, 1) := by decide +kernel
theorem dX10_other_1 : decode cX10_other 1 = .ok (.iload_n 1, 1) := by decide +kernel
theorem dX10_other_2 : decode cX10_other 2 = .ok (.iload_n 2, 1) := by decide +kernel
theorem dX10_other_3 : decode cX10_other 3 = .ok (.invokevirtual 152, 3) := by decide +kernel
theorem dX10_other_6 : decode cX10_other 6 = .ok (.invokestatic 155, 3) := by decide +kernel
theorem dX10_other_9 : decode cX10_other 9 = .ok (.ireturn, 1) := by decide +kernel
def b_X10_other_0 (h : q_H) (v0 : Nat) (v1 : Int32) (v2 : Int32) : Option (q_H × Int32) :=
  Option.bind (f_X10_otherSet h v0 v1 v2) (fun q1 => Option.bind (f_X10_bitsOf q1.1 q1.2) (fun q2 => some (q2.1, q2.2)))
def f_X10_other (h : q_H) (a0 : Nat) (a1 : Int32) (a2 : Int32) : Option (q_H × Int32) := q_chk 9 h a0 (b_X10_other_0 h a0 a1 a2)
set_option maxRecDepth 20000 in
set_option maxHeartbeats 1000000 in
theorem jb_X10_other_0 {G : q_G} {l : Launch} {k0 z0 : Nat} (h : q_H) (v0 : Nat) (v1 : Int32) (v2 : Int32) : q_J G l (RX10, cX10_other, 3, 3, 71, (some .int), "other", []) k0 z0 (q_Z G k0 z0 q_i) 0 [(0, .ref v0), (1, .int v1), (2, .int v2)] [] h (b_X10_other_0 h v0 v1 v2) := by
  unfold b_X10_other_0
  refine j_aload_n (pc := 0) (p := 0) rfl rfl dX10_other_0 ?_
  refine j_iload_n (pc := 1) (p := 1) rfl rfl dX10_other_1 ?_
  refine j_iload_n (pc := 2) (p := 2) rfl rfl dX10_other_2 ?_
  refine j_cVi (pc := 3) Y_X10_otherSet (ci := 9) (b := v0) rfl rfl ml_X10_152 im_X10_otherSet se_X10_otherSet ⟨Nat.le_of_ble_eq_true rfl, Nat.le_of_ble_eq_true rfl⟩ dX10_other_3 (As := [.int v1, .int v2]) (rest := []) rfl rfl (Nat.le_of_ble_eq_true rfl) (fun x hq9 => c_X10_otherSet _ _ _ _ _ hq9) (fun q1 _ => ?_)
  refine j_cSi (pc := 6) Y_X10_bitsOf ml_X10_155 sm_X10_bitsOf ⟨Nat.le_of_ble_eq_true rfl, Nat.le_of_ble_eq_true rfl⟩ dX10_other_6 (As := [.int q1.2]) (rest := []) rfl rfl (Nat.le_of_ble_eq_true rfl) (fun x hq9 => c_X10_bitsOf _ _ _ hq9) (fun q2 _ => ?_)
  exact j_iret (pc := 9) rfl dX10_other_9
set_option maxRecDepth 20000 in
set_option maxHeartbeats 1000000 in
theorem c_X10_other {G : q_G} {l : Launch} : ∀ (h : q_H) (a0 : Nat) (a1 : Int32) (a2 : Int32) (q : q_H × Int32), f_X10_other h a0 a1 a2 = some q → (∃ fs, h.1 a0 = .inr (9, fs)) ∧ q_CT G l yX10_other cX10_other 3 (some .int) 3 71 [.ref a0, .int a1, .int a2] h q.1 (q_i q.2) := by
  intro h a0 a1 a2 q e
  obtain ⟨e1, e2⟩ := q_chk_ok e
  exact ⟨e1, q_ofJ Y_X10_other (Nat.le_of_ble_eq_true rfl) (jb_X10_other_0 h a0 a1 a2) q e2⟩
/-! FarFoldersModel.apart(II)I -/
theorem dX10_apart_0 : decode cX10_apart 0 = .ok (.aload_n 0, 1) := by decide +kernel
theorem dX10_apart_1 : decode cX10_apart 1 = .ok (.iconst 0, 1) := by decide +kernel
theorem dX10_apart_2 : decode cX10_apart 2 = .ok (.putfield 1, 3) := by decide +kernel
theorem dX10_apart_5 : decode cX10_apart 5 = .ok (.iload_n 1, 1) := by decide +kernel
theorem dX10_apart_6 : decode cX10_apart 6 = .ok (.iload_n 2, 1) := by decide +kernel
theorem dX10_apart_7 : decode cX10_apart 7 = .ok (.invokestatic 223, 3) := by decide +kernel
theorem dX10_apart_10 : decode cX10_apart 10 = .ok (.ifCond .ne 5, 3) := by decide +kernel
theorem dX10_apart_13 : decode cX10_apart 13 = .ok (.iconst (-1), 1) := by decide +kernel
theorem dX10_apart_14 : decode cX10_apart 14 = .ok (.ireturn, 1) := by decide +kernel
theorem dX10_apart_15 : decode cX10_apart 15 = .ok (.aload_n 0, 1) := by decide +kernel
theorem dX10_apart_16 : decode cX10_apart 16 = .ok (.iconst 0, 1) := by decide +kernel
theorem dX10_apart_17 : decode cX10_apart 17 = .ok (.iload_n 1, 1) := by decide +kernel
theorem dX10_apart_18 : decode cX10_apart 18 = .ok (.invokevirtual 164, 3) := by decide +kernel
theorem dX10_apart_21 : decode cX10_apart 21 = .ok (.aload_n 0, 1) := by decide +kernel
theorem dX10_apart_22 : decode cX10_apart 22 = .ok (.iconst 1, 1) := by decide +kernel
theorem dX10_apart_23 : decode cX10_apart 23 = .ok (.iload_n 2, 1) := by decide +kernel
theorem dX10_apart_24 : decode cX10_apart 24 = .ok (.invokevirtual 164, 3) := by decide +kernel
theorem dX10_apart_27 : decode cX10_apart 27 = .ok (.aload_n 0, 1) := by decide +kernel
theorem dX10_apart_28 : decode cX10_apart 28 = .ok (.iconst 0, 1) := by decide +kernel
theorem dX10_apart_29 : decode cX10_apart 29 = .ok (.putfield 11, 3) := by decide +kernel
theorem dX10_apart_32 : decode cX10_apart 32 = .ok (.aload_n 0, 1) := by decide +kernel
theorem dX10_apart_33 : decode cX10_apart 33 = .ok (.aload_n 0, 1) := by decide +kernel
theorem dX10_apart_34 : decode cX10_apart 34 = .ok (.iconst 0, 1) := by decide +kernel
theorem dX10_apart_35 : decode cX10_apart 35 = .ok (.iconst 1, 1) := by decide +kernel
theorem dX10_apart_36 : decode cX10_apart 36 = .ok (.invokevirtual 152, 3) := by decide +kernel
theorem dX10_apart_39 : decode cX10_apart 39 = .ok (.i2l, 1) := by decide +kernel
theorem dX10_apart_40 : decode cX10_apart 40 = .ok (.invokevirtual 202, 3) := by decide +kernel
theorem dX10_apart_43 : decode cX10_apart 43 = .ok (.aload_n 0, 1) := by decide +kernel
theorem dX10_apart_44 : decode cX10_apart 44 = .ok (.iconst 0, 1) := by decide +kernel
theorem dX10_apart_45 : decode cX10_apart 45 = .ok (.iconst 1, 1) := by decide +kernel
theorem dX10_apart_46 : decode cX10_apart 46 = .ok (.invokevirtual 330, 3) := by decide +kernel
theorem dX10_apart_49 : decode cX10_apart 49 = .ok (.ireturn, 1) := by decide +kernel
def b_X10_apart_0 (h : q_H) (v0 : Nat) (v1 : Int32) (v2 : Int32) : Option (q_H × Int32) :=
  Option.bind (q_p 9 0 h v0 (.int (0))) (fun h1 => Option.bind (f_X10_areTwo h1 v1 v2) (fun q2 => if q2.2 = 0 then some (q2.1, (-1)) else Option.bind (f_X10_lays q2.1 v0 (0) v1) (fun q3 => Option.bind (f_X10_lays q3.1 v0 (1) v2) (fun q4 => Option.bind (q_p 9 1 q4.1 v0 (.int (0))) (fun h5 => Option.bind (f_X10_otherSet h5 v0 (0) (1)) (fun q6 => Option.bind (f_X10_enters q6.1 v0 (Int32.toInt64 q6.2)) (fun q7 => Option.bind (f_X10_other q7.1 v0 (0) (1)) (fun q8 => some (q8.1, q8.2)))))))))
def f_X10_apart (h : q_H) (a0 : Nat) (a1 : Int32) (a2 : Int32) : Option (q_H × Int32) := q_chk 9 h a0 (b_X10_apart_0 h a0 a1 a2)
set_option maxRecDepth 20000 in
set_option maxHeartbeats 1000000 in
theorem jb_X10_apart_0 {G : q_G} {l : Launch} {k0 z0 : Nat} (h : q_H) (v0 : Nat) (v1 : Int32) (v2 : Int32) : q_J G l (RX10, cX10_apart, 3, 5, 118, (some .int), "apart", []) k0 z0 (q_Z G k0 z0 q_i) 0 [(0, .ref v0), (1, .int v1), (2, .int v2)] [] h (b_X10_apart_0 h v0 v1 v2) := by
  unfold b_X10_apart_0
  refine j_aload_n (pc := 0) (p := 0) rfl rfl dX10_apart_0 ?_
  refine j_iconst (pc := 1) ki_0 dX10_apart_1 ?_
  refine j_put (pc := 2) FI_X10 (k := 0) (by decide) fl_X10_1 rfl rfl rfl dX10_apart_2 (fun h1 _ => ?_)
  refine j_iload_n (pc := 5) (p := 1) rfl rfl dX10_apart_5 ?_
  refine j_iload_n (pc := 6) (p := 2) rfl rfl dX10_apart_6 ?_
  refine j_cSi (pc := 7) Y_X10_areTwo ml_X10_223 sm_X10_areTwo ⟨Nat.le_of_ble_eq_true rfl, Nat.le_of_ble_eq_true rfl⟩ dX10_apart_7 (As := [.int v1, .int v2]) (rest := []) rfl rfl (Nat.le_of_ble_eq_true rfl) (fun x hq9 => c_X10_areTwo _ _ _ _ hq9) (fun q2 _ => ?_)
  refine j_if_ne (pc := 10) (tgt := 15) dX10_apart_10 (by decide) (fun _ => ?_) (fun _ => ?_)
  · refine j_iconst (pc := 13) ki_m1 dX10_apart_13 ?_
    exact j_iret (pc := 14) rfl dX10_apart_14
  refine j_aload_n (pc := 15) (p := 0) rfl rfl dX10_apart_15 ?_
  refine j_iconst (pc := 16) ki_0 dX10_apart_16 ?_
  refine j_iload_n (pc := 17) (p := 1) rfl rfl dX10_apart_17 ?_
  refine j_cVu (pc := 18) Y_X10_lays (ci := 9) (b := v0) rfl rfl ml_X10_164 im_X10_lays se_X10_lays ⟨Nat.le_of_ble_eq_true rfl, Nat.le_of_ble_eq_true rfl⟩ dX10_apart_18 (As := [.int (0), .int v1]) (rest := []) rfl rfl (Nat.le_of_ble_eq_true rfl) (fun x hq9 => c_X10_lays _ _ _ _ _ hq9) (fun q3 _ => ?_)
  refine j_aload_n (pc := 21) (p := 0) rfl rfl dX10_apart_21 ?_
  refine j_iconst (pc := 22) ki_1 dX10_apart_22 ?_
  refine j_iload_n (pc := 23) (p := 2) rfl rfl dX10_apart_23 ?_
  refine j_cVu (pc := 24) Y_X10_lays (ci := 9) (b := v0) rfl rfl ml_X10_164 im_X10_lays se_X10_lays ⟨Nat.le_of_ble_eq_true rfl, Nat.le_of_ble_eq_true rfl⟩ dX10_apart_24 (As := [.int (1), .int v2]) (rest := []) rfl rfl (Nat.le_of_ble_eq_true rfl) (fun x hq9 => c_X10_lays _ _ _ _ _ hq9) (fun q4 _ => ?_)
  refine j_aload_n (pc := 27) (p := 0) rfl rfl dX10_apart_27 ?_
  refine j_iconst (pc := 28) ki_0 dX10_apart_28 ?_
  refine j_put (pc := 29) FI_X10 (k := 1) (by decide) fl_X10_11 rfl rfl rfl dX10_apart_29 (fun h5 _ => ?_)
  refine j_aload_n (pc := 32) (p := 0) rfl rfl dX10_apart_32 ?_
  refine j_aload_n (pc := 33) (p := 0) rfl rfl dX10_apart_33 ?_
  refine j_iconst (pc := 34) ki_0 dX10_apart_34 ?_
  refine j_iconst (pc := 35) ki_1 dX10_apart_35 ?_
  refine j_cVi (pc := 36) Y_X10_otherSet (ci := 9) (b := v0) rfl rfl ml_X10_152 im_X10_otherSet se_X10_otherSet ⟨Nat.le_of_ble_eq_true rfl, Nat.le_of_ble_eq_true rfl⟩ dX10_apart_36 (As := [.int (0), .int (1)]) (rest := [.ref v0]) rfl rfl (Nat.le_of_ble_eq_true rfl) (fun x hq9 => c_X10_otherSet _ _ _ _ _ hq9) (fun q6 _ => ?_)
  refine j_i2l (pc := 39) dX10_apart_39 ?_
  refine j_cVu (pc := 40) Y_X10_enters (ci := 9) (b := v0) rfl rfl ml_X10_202 im_X10_enters se_X10_enters ⟨Nat.le_of_ble_eq_true rfl, Nat.le_of_ble_eq_true rfl⟩ dX10_apart_40 (As := [.long (Int32.toInt64 q6.2)]) (rest := []) rfl rfl (Nat.le_of_ble_eq_true rfl) (fun x hq9 => c_X10_enters _ _ _ _ hq9) (fun q7 _ => ?_)
  refine j_aload_n (pc := 43) (p := 0) rfl rfl dX10_apart_43 ?_
  refine j_iconst (pc := 44) ki_0 dX10_apart_44 ?_
  refine j_iconst (pc := 45) ki_1 dX10_apart_45 ?_
  refine j_cVi (pc := 46) Y_X10_other (ci := 9) (b := v0) rfl rfl ml_X10_330 im_X10_other se_X10_other ⟨Nat.le_of_ble_eq_true rfl, Nat.le_of_ble_eq_true rfl⟩ dX10_apart_46 (As := [.int (0), .int (1)]) (rest := []) rfl rfl (Nat.le_of_ble_eq_true rfl) (fun x hq9 => c_X10_other _ _ _ _ _ hq9) (fun q8 _ => ?_)
  exact j_iret (pc := 49) rfl dX10_apart_49
set_option maxRecDepth 20000 in
set_option maxHeartbeats 1000000 in
theorem c_X10_apart {G : q_G} {l : Launch} : ∀ (h : q_H) (a0 : Nat) (a1 : Int32) (a2 : Int32) (q : q_H × Int32), f_X10_apart h a0 a1 a2 = some q → (∃ fs, h.1 a0 = .inr (9, fs)) ∧ q_CT G l yX10_apart cX10_apart 3 (some .int) 5 118 [.ref a0, .int a1, .int a2] h q.1 (q_i q.2) := by
  intro h a0 a1 a2 q e
  obtain ⟨e1, e2⟩ := q_chk_ok e
  exact ⟨e1, q_ofJ Y_X10_apart (Nat.le_of_ble_eq_true rfl) (jb_X10_apart_0 h a0 a1 a2) q e2⟩
/-! FarFoldersModel.wayOf(II)I -/
theorem dX10_wayOf_0 : decode cX10_wayOf 0 = .ok (.iconst 3, 1) := by decide +kernel
theorem dX10_wayOf_1 : decode cX10_wayOf 1 = .ok (.iload_n 0, 1) := by decide +kernel
theorem dX10_wayOf_2 : decode cX10_wayOf 2 = .ok (.imul, 1) := by decide +kernel
theorem dX10_wayOf_3 : decode cX10_wayOf 3 = .ok (.iload_n 1, 1) := by decide +kernel
theorem dX10_wayOf_4 : decode cX10_wayOf 4 = .ok (.iadd, 1) := by decide +kernel
theorem dX10_wayOf_5 : decode cX10_wayOf 5 = .ok (.ireturn, 1) := by decide +kernel
def b_X10_wayOf_0 (h : q_H) (v0 : Int32) (v1 : Int32) : Option (q_H × Int32) :=
  some (h, (((3) * v0) + v1))
def f_X10_wayOf (h : q_H) (a0 : Int32) (a1 : Int32) : Option (q_H × Int32) := b_X10_wayOf_0 h a0 a1
set_option maxRecDepth 20000 in
set_option maxHeartbeats 1000000 in
theorem jb_X10_wayOf_0 {G : q_G} {l : Launch} {k0 z0 : Nat} (h : q_H) (v0 : Int32) (v1 : Int32) : q_J G l (RX10, cX10_wayOf, 2, 0, 0, (some .int), "wayOf", []) k0 z0 (q_Z G k0 z0 q_i) 0 [(0, .int v0), (1, .int v1)] [] h (b_X10_wayOf_0 h v0 v1) := by
  unfold b_X10_wayOf_0
  refine j_iconst (pc := 0) ki_3 dX10_wayOf_0 ?_
  refine j_iload_n (pc := 1) (p := 0) rfl rfl dX10_wayOf_1 ?_
  refine j_imul (pc := 2) dX10_wayOf_2 ?_
  refine j_iload_n (pc := 3) (p := 1) rfl rfl dX10_wayOf_3 ?_
  refine j_iadd (pc := 4) dX10_wayOf_4 ?_
  exact j_iret (pc := 5) rfl dX10_wayOf_5
set_option maxRecDepth 20000 in
set_option maxHeartbeats 1000000 in
theorem c_X10_wayOf {G : q_G} {l : Launch} : ∀ (h : q_H) (a0 : Int32) (a1 : Int32) (q : q_H × Int32), f_X10_wayOf h a0 a1 = some q → q_CT G l yX10_wayOf cX10_wayOf 2 (some .int) 0 0 [.int a0, .int a1] h q.1 (q_i q.2) := by
  intro h a0 a1 q e
  exact q_ofJ Y_X10_wayOf (Nat.le_of_ble_eq_true rfl) (jb_X10_wayOf_0 h a0 a1) q e
/-! FarFoldersModel.waiting(II)I -/
theorem dX10_waiting_0 : decode cX10_waiting 0 = .ok (.aload_n 0, 1) := by decide +kernel
theorem dX10_waiting_1 : decode cX10_waiting 1 = .ok (.getfield 47, 3) := by decide +kernel
theorem dX10_waiting_4 : decode cX10_waiting 4 = .ok (.sipush 483, 3) := by decide +kernel
theorem dX10_waiting_7 : decode cX10_waiting 7 = .ok (.iload_n 1, 1) := by decide +kernel
theorem dX10_waiting_8 : decode cX10_waiting 8 = .ok (.iload_n 2, 1) := by decide +kernel
theorem dX10_waiting_9 : decode cX10_waiting 9 = .ok (.invokestatic 94, 3) := by decide +kernel
theorem dX10_waiting_12 : decode cX10_waiting 12 = .ok (.iadd, 1) := by decide +kernel
theorem dX10_waiting_13 : decode cX10_waiting 13 = .ok (.iaload, 1) := by decide +kernel
theorem dX10_waiting_14 : decode cX10_waiting 14 = .ok (.ireturn, 1) := by decide +kernel
def b_X10_waiting_0 (h : q_H) (v0 : Nat) (v1 : Int32) (v2 : Int32) : Option (q_H × Int32) :=
  Option.bind (q_gR 9 7 h v0) (fun x1 => Option.bind (f_X10_wayOf h v1 v2) (fun q2 => Option.bind (q_lI 0 q2.1 x1 ((483) + q2.2)) (fun x3 => some (q2.1, x3))))
def f_X10_waiting (h : q_H) (a0 : Nat) (a1 : Int32) (a2 : Int32) : Option (q_H × Int32) := q_chk 9 h a0 (b_X10_waiting_0 h a0 a1 a2)
set_option maxRecDepth 20000 in
set_option maxHeartbeats 1000000 in
theorem jb_X10_waiting_0 {G : q_G} {l : Launch} {k0 z0 : Nat} (h : q_H) (v0 : Nat) (v1 : Int32) (v2 : Int32) : q_J G l (RX10, cX10_waiting, 3, 1, 21, (some .int), "waiting", []) k0 z0 (q_Z G k0 z0 q_i) 0 [(0, .ref v0), (1, .int v1), (2, .int v2)] [] h (b_X10_waiting_0 h v0 v1 v2) := by
  unfold b_X10_waiting_0
  refine j_aload_n (pc := 0) (p := 0) rfl rfl dX10_waiting_0 ?_
  refine j_getR (pc := 1) FI_X10 (k := 7) (by decide) fl_X10_47 dX10_waiting_1 (fun x1 _ => ?_)
  refine j_sipush (pc := 4) ks_483 dX10_waiting_4 ?_
  refine j_iload_n (pc := 7) (p := 1) rfl rfl dX10_waiting_7 ?_
  refine j_iload_n (pc := 8) (p := 2) rfl rfl dX10_waiting_8 ?_
  refine j_cSi (pc := 9) Y_X10_wayOf ml_X10_94 sm_X10_wayOf ⟨Nat.le_of_ble_eq_true rfl, Nat.le_of_ble_eq_true rfl⟩ dX10_waiting_9 (As := [.int v1, .int v2]) (rest := [.int (483), .ref x1]) rfl rfl (Nat.le_of_ble_eq_true rfl) (fun x hq9 => c_X10_wayOf _ _ _ _ hq9) (fun q2 _ => ?_)
  refine j_iadd (pc := 12) dX10_waiting_12 ?_
  refine j_iald (pc := 13) dX10_waiting_13 (fun x3 _ => ?_)
  exact j_iret (pc := 14) rfl dX10_waiting_14
set_option maxRecDepth 20000 in
set_option maxHeartbeats 1000000 in
theorem c_X10_waiting {G : q_G} {l : Launch} : ∀ (h : q_H) (a0 : Nat) (a1 : Int32) (a2 : Int32) (q : q_H × Int32), f_X10_waiting h a0 a1 a2 = some q → (∃ fs, h.1 a0 = .inr (9, fs)) ∧ q_CT G l yX10_waiting cX10_waiting 3 (some .int) 1 21 [.ref a0, .int a1, .int a2] h q.1 (q_i q.2) := by
  intro h a0 a1 a2 q e
  obtain ⟨e1, e2⟩ := q_chk_ok e
  exact ⟨e1, q_ofJ Y_X10_waiting (Nat.le_of_ble_eq_true rfl) (jb_X10_waiting_0 h a0 a1 a2) q e2⟩
/-! FarFoldersModel.areFull(I)Z -/
theorem dX10_areFull_0 : decode cX10_areFull 0 = .ok (.iconst 0, 1) := by decide +kernel
theorem dX10_areFull_1 : decode cX10_areFull 1 = .ok (.istore_n 2, 1) := by decide +kernel
theorem dX10_areFull_2 : decode cX10_areFull 2 = .ok (.iconst 0, 1) := by decide +kernel
theorem dX10_areFull_3 : decode cX10_areFull 3 = .ok (.istore_n 3, 1) := by decide +kernel
theorem dX10_areFull_4 : decode cX10_areFull 4 = .ok (.iload_n 3, 1) := by decide +kernel
theorem dX10_areFull_5 : decode cX10_areFull 5 = .ok (.iconst 3, 1) := by decide +kernel
theorem dX10_areFull_6 : decode cX10_areFull 6 = .ok (.if_icmp .ge 35, 3) := by decide +kernel
theorem dX10_areFull_9 : decode cX10_areFull 9 = .ok (.iload_n 2, 1) := by decide +kernel
theorem dX10_areFull_10 : decode cX10_areFull 10 = .ok (.ifCond .ne 19, 3) := by decide +kernel
theorem dX10_areFull_13 : decode cX10_areFull 13 = .ok (.iload_n 3, 1) := by decide +kernel
theorem dX10_areFull_14 : decode cX10_areFull 14 = .ok (.iload_n 1, 1) := by decide +kernel
theorem dX10_areFull_15 : decode cX10_areFull 15 = .ok (.if_icmp .eq 18, 3) := by decide +kernel
theorem dX10_areFull_18 : decode cX10_areFull 18 = .ok (.aload_n 0, 1) := by decide +kernel
theorem dX10_areFull_19 : decode cX10_areFull 19 = .ok (.iload_n 1, 1) := by decide +kernel
theorem dX10_areFull_20 : decode cX10_areFull 20 = .ok (.iload_n 3, 1) := by decide +kernel
theorem dX10_areFull_21 : decode cX10_areFull 21 = .ok (.invokevirtual 173, 3) := by decide +kernel
theorem dX10_areFull_24 : decode cX10_areFull 24 = .ok (.bipush 6, 2) := by decide +kernel
theorem dX10_areFull_26 : decode cX10_areFull 26 = .ok (.if_icmp .ne 7, 3) := by decide +kernel
theorem dX10_areFull_29 : decode cX10_areFull 29 = .ok (.iconst 1, 1) := by decide +kernel
theorem dX10_areFull_30 : decode cX10_areFull 30 = .ok (.goto 4, 3) := by decide +kernel
theorem dX10_areFull_33 : decode cX10_areFull 33 = .ok (.iconst 0, 1) := by decide +kernel
theorem dX10_areFull_34 : decode cX10_areFull 34 = .ok (.istore_n 2, 1) := by decide +kernel
theorem dX10_areFull_35 : decode cX10_areFull 35 = .ok (.iinc 3 1, 3) := by decide +kernel
theorem dX10_areFull_38 : decode cX10_areFull 38 = .ok (.goto (-34), 3) := by decide +kernel
theorem dX10_areFull_41 : decode cX10_areFull 41 = .ok (.iload_n 2, 1) := by decide +kernel
theorem dX10_areFull_42 : decode cX10_areFull 42 = .ok (.ireturn, 1) := by decide +kernel
def b_X10_areFull_34 (k4 : q_H → Nat → Int32 → Int32 → Int32 → Option (q_H × Int32)) (h : q_H) (v0 : Nat) (v1 : Int32) (v3 : Int32) (s0 : Int32) : Option (q_H × Int32) :=
  k4 h v0 v1 s0 (v3 + 1)
def b_X10_areFull_33 (k4 : q_H → Nat → Int32 → Int32 → Int32 → Option (q_H × Int32)) (h : q_H) (v0 : Nat) (v1 : Int32) (v3 : Int32) : Option (q_H × Int32) :=
  b_X10_areFull_34 k4 h v0 v1 v3 (0)
def b_X10_areFull_29 (k4 : q_H → Nat → Int32 → Int32 → Int32 → Option (q_H × Int32)) (h : q_H) (v0 : Nat) (v1 : Int32) (v3 : Int32) : Option (q_H × Int32) :=
  b_X10_areFull_34 k4 h v0 v1 v3 (1)
def b_X10_areFull_4 (k4 : q_H → Nat → Int32 → Int32 → Int32 → Option (q_H × Int32)) (h : q_H) (v0 : Nat) (v1 : Int32) (v2 : Int32) (v3 : Int32) : Option (q_H × Int32) :=
  if (3) ≤ v3 then some (h, vp_nar .boolean v2) else if v2 = 0 then if v3 = v1 then b_X10_areFull_33 k4 h v0 v1 v3 else Option.bind (f_X10_waiting h v0 v1 v3) (fun q1 => if q1.2 = (6) then b_X10_areFull_29 k4 q1.1 v0 v1 v3 else b_X10_areFull_33 k4 q1.1 v0 v1 v3) else b_X10_areFull_29 k4 h v0 v1 v3
def l_X10_areFull_4 : Nat → q_H → Nat → Int32 → Int32 → Int32 → Option (q_H × Int32)
  | 0, _, _, _, _, _ => none
  | n + 1, h, v0, v1, v2, v3 => b_X10_areFull_4 (l_X10_areFull_4 n) h v0 v1 v2 v3
def b_X10_areFull_0 (h : q_H) (v0 : Nat) (v1 : Int32) : Option (q_H × Int32) :=
  l_X10_areFull_4 q_FU h v0 v1 (0) (0)
def f_X10_areFull (h : q_H) (a0 : Nat) (a1 : Int32) : Option (q_H × Int32) := q_chk 9 h a0 (b_X10_areFull_0 h a0 a1)
set_option maxRecDepth 20000 in
set_option maxHeartbeats 1000000 in
theorem jb_X10_areFull_34 {G : q_G} {l : Launch} {k0 z0 : Nat} (k4 : q_H → Nat → Int32 → Int32 → Int32 → Option (q_H × Int32)) (hk4 : ∀ (h : q_H) (v0 : Nat) (v1 : Int32) (v2 : Int32) (v3 : Int32), q_J G l (RX10, cX10_areFull, 4, 2, 43, (some .boolean), "areFull", []) k0 z0 (q_Z G k0 z0 q_i) 4 [(0, .ref v0), (1, .int v1), (2, .int v2), (3, .int v3)] [] h (k4 h v0 v1 v2 v3)) (h : q_H) (v0 : Nat) (v1 : Int32) (v3 : Int32) (s0 : Int32) : q_J G l (RX10, cX10_areFull, 4, 2, 43, (some .boolean), "areFull", []) k0 z0 (q_Z G k0 z0 q_i) 34 [(0, .ref v0), (1, .int v1), (3, .int v3)] [.int s0] h (b_X10_areFull_34 k4 h v0 v1 v3 s0) := by
  unfold b_X10_areFull_34
  refine j_istore_n (pc := 34) (lv' := [(2, .int s0), (0, .ref v0), (1, .int v1), (3, .int v3)]) rfl (by decide) rfl dX10_areFull_34 ?_
  refine j_inc (pc := 35) (p := 3) (lv' := [(3, .int (v3 + 1)), (2, .int s0), (0, .ref v0), (1, .int v1)]) rfl ki_1 (by decide) rfl dX10_areFull_35 ?_
  refine j_goto (pc := 38) (tgt := 4) dX10_areFull_38 (by decide) ?_
  refine j_sub [2, 3, 1, 0] (lv' := [(0, .ref v0), (1, .int v1), (2, .int s0), (3, .int (v3 + 1))]) rfl ?_
  exact hk4 _ _ _ _ _
set_option maxRecDepth 20000 in
set_option maxHeartbeats 1000000 in
theorem jb_X10_areFull_33 {G : q_G} {l : Launch} {k0 z0 : Nat} (k4 : q_H → Nat → Int32 → Int32 → Int32 → Option (q_H × Int32)) (hk4 : ∀ (h : q_H) (v0 : Nat) (v1 : Int32) (v2 : Int32) (v3 : Int32), q_J G l (RX10, cX10_areFull, 4, 2, 43, (some .boolean), "areFull", []) k0 z0 (q_Z G k0 z0 q_i) 4 [(0, .ref v0), (1, .int v1), (2, .int v2), (3, .int v3)] [] h (k4 h v0 v1 v2 v3)) (h : q_H) (v0 : Nat) (v1 : Int32) (v3 : Int32) : q_J G l (RX10, cX10_areFull, 4, 2, 43, (some .boolean), "areFull", []) k0 z0 (q_Z G k0 z0 q_i) 33 [(0, .ref v0), (1, .int v1), (3, .int v3)] [] h (b_X10_areFull_33 k4 h v0 v1 v3) := by
  unfold b_X10_areFull_33
  refine j_iconst (pc := 33) ki_0 dX10_areFull_33 ?_
  exact jb_X10_areFull_34 k4 hk4 _ _ _ _ _
set_option maxRecDepth 20000 in
set_option maxHeartbeats 1000000 in
theorem jb_X10_areFull_29 {G : q_G} {l : Launch} {k0 z0 : Nat} (k4 : q_H → Nat → Int32 → Int32 → Int32 → Option (q_H × Int32)) (hk4 : ∀ (h : q_H) (v0 : Nat) (v1 : Int32) (v2 : Int32) (v3 : Int32), q_J G l (RX10, cX10_areFull, 4, 2, 43, (some .boolean), "areFull", []) k0 z0 (q_Z G k0 z0 q_i) 4 [(0, .ref v0), (1, .int v1), (2, .int v2), (3, .int v3)] [] h (k4 h v0 v1 v2 v3)) (h : q_H) (v0 : Nat) (v1 : Int32) (v3 : Int32) : q_J G l (RX10, cX10_areFull, 4, 2, 43, (some .boolean), "areFull", []) k0 z0 (q_Z G k0 z0 q_i) 29 [(0, .ref v0), (1, .int v1), (3, .int v3)] [] h (b_X10_areFull_29 k4 h v0 v1 v3) := by
  unfold b_X10_areFull_29
  refine j_iconst (pc := 29) ki_1 dX10_areFull_29 ?_
  refine j_goto (pc := 30) (tgt := 34) dX10_areFull_30 (by decide) ?_
  exact jb_X10_areFull_34 k4 hk4 _ _ _ _ _
set_option maxRecDepth 20000 in
set_option maxHeartbeats 1000000 in
theorem jb_X10_areFull_4 {G : q_G} {l : Launch} {k0 z0 : Nat} (k4 : q_H → Nat → Int32 → Int32 → Int32 → Option (q_H × Int32)) (hk4 : ∀ (h : q_H) (v0 : Nat) (v1 : Int32) (v2 : Int32) (v3 : Int32), q_J G l (RX10, cX10_areFull, 4, 2, 43, (some .boolean), "areFull", []) k0 z0 (q_Z G k0 z0 q_i) 4 [(0, .ref v0), (1, .int v1), (2, .int v2), (3, .int v3)] [] h (k4 h v0 v1 v2 v3)) (h : q_H) (v0 : Nat) (v1 : Int32) (v2 : Int32) (v3 : Int32) : q_J G l (RX10, cX10_areFull, 4, 2, 43, (some .boolean), "areFull", []) k0 z0 (q_Z G k0 z0 q_i) 4 [(0, .ref v0), (1, .int v1), (2, .int v2), (3, .int v3)] [] h (b_X10_areFull_4 k4 h v0 v1 v2 v3) := by
  unfold b_X10_areFull_4
  refine j_iload_n (pc := 4) (p := 3) rfl rfl dX10_areFull_4 ?_
  refine j_iconst (pc := 5) ki_3 dX10_areFull_5 ?_
  refine j_ic_ge (pc := 6) (tgt := 41) dX10_areFull_6 (by decide) (fun _ => ?_) (fun _ => ?_)
  · refine j_iload_n (pc := 41) (p := 2) rfl rfl dX10_areFull_41 ?_
    exact j_zret (pc := 42) rfl (q_narz _) dX10_areFull_42
  refine j_iload_n (pc := 9) (p := 2) rfl rfl dX10_areFull_9 ?_
  refine j_if_ne (pc := 10) (tgt := 29) dX10_areFull_10 (by decide) (fun _ => ?_) (fun _ => ?_)
  · refine j_iload_n (pc := 13) (p := 3) rfl rfl dX10_areFull_13 ?_
    refine j_iload_n (pc := 14) (p := 1) rfl rfl dX10_areFull_14 ?_
    refine j_ic_eq (pc := 15) (tgt := 33) dX10_areFull_15 (by decide) (fun _ => ?_) (fun _ => ?_)
    · refine j_sub [0, 1, 3] (lv' := [(0, .ref v0), (1, .int v1), (3, .int v3)]) rfl ?_
      exact jb_X10_areFull_33 k4 hk4 _ _ _ _
    refine j_aload_n (pc := 18) (p := 0) rfl rfl dX10_areFull_18 ?_
    refine j_iload_n (pc := 19) (p := 1) rfl rfl dX10_areFull_19 ?_
    refine j_iload_n (pc := 20) (p := 3) rfl rfl dX10_areFull_20 ?_
    refine j_cVi (pc := 21) Y_X10_waiting (ci := 9) (b := v0) rfl rfl ml_X10_173 im_X10_waiting se_X10_waiting ⟨Nat.le_of_ble_eq_true rfl, Nat.le_of_ble_eq_true rfl⟩ dX10_areFull_21 (As := [.int v1, .int v3]) (rest := []) rfl rfl (Nat.le_of_ble_eq_true rfl) (fun x hq9 => c_X10_waiting _ _ _ _ _ hq9) (fun q1 _ => ?_)
    refine j_bipush (pc := 24) kb_6 dX10_areFull_24 ?_
    refine j_ic_ne (pc := 26) (tgt := 33) dX10_areFull_26 (by decide) (fun _ => ?_) (fun _ => ?_)
    · refine j_sub [0, 1, 3] (lv' := [(0, .ref v0), (1, .int v1), (3, .int v3)]) rfl ?_
      exact jb_X10_areFull_29 k4 hk4 _ _ _ _
    refine j_sub [0, 1, 3] (lv' := [(0, .ref v0), (1, .int v1), (3, .int v3)]) rfl ?_
    exact jb_X10_areFull_33 k4 hk4 _ _ _ _
  refine j_sub [0, 1, 3] (lv' := [(0, .ref v0), (1, .int v1), (3, .int v3)]) rfl ?_
  exact jb_X10_areFull_29 k4 hk4 _ _ _ _
set_option maxRecDepth 20000 in
set_option maxHeartbeats 1000000 in
theorem jl_X10_areFull_4 {G : q_G} {l : Launch} {k0 z0 : Nat} (n : Nat) : ∀ (h : q_H) (v0 : Nat) (v1 : Int32) (v2 : Int32) (v3 : Int32), q_J G l (RX10, cX10_areFull, 4, 2, 43, (some .boolean), "areFull", []) k0 z0 (q_Z G k0 z0 q_i) 4 [(0, .ref v0), (1, .int v1), (2, .int v2), (3, .int v3)] [] h (l_X10_areFull_4 n h v0 v1 v2 v3) := by
  induction n with
  | zero => intro h v0 v1 v2 v3; exact j_none
  | succ n ih => intro h v0 v1 v2 v3; exact jb_X10_areFull_4 (l_X10_areFull_4 n) ih h v0 v1 v2 v3
set_option maxRecDepth 20000 in
set_option maxHeartbeats 1000000 in
theorem jb_X10_areFull_0 {G : q_G} {l : Launch} {k0 z0 : Nat} (h : q_H) (v0 : Nat) (v1 : Int32) : q_J G l (RX10, cX10_areFull, 4, 2, 43, (some .boolean), "areFull", []) k0 z0 (q_Z G k0 z0 q_i) 0 [(0, .ref v0), (1, .int v1)] [] h (b_X10_areFull_0 h v0 v1) := by
  unfold b_X10_areFull_0
  refine j_iconst (pc := 0) ki_0 dX10_areFull_0 ?_
  refine j_istore_n (pc := 1) (lv' := [(2, .int (0)), (0, .ref v0), (1, .int v1)]) rfl (by decide) rfl dX10_areFull_1 ?_
  refine j_iconst (pc := 2) ki_0 dX10_areFull_2 ?_
  refine j_istore_n (pc := 3) (lv' := [(3, .int (0)), (2, .int (0)), (0, .ref v0), (1, .int v1)]) rfl (by decide) rfl dX10_areFull_3 ?_
  refine j_sub [2, 3, 1, 0] (lv' := [(0, .ref v0), (1, .int v1), (2, .int (0)), (3, .int (0))]) rfl ?_
  exact jl_X10_areFull_4 q_FU _ _ _ _ _
set_option maxRecDepth 20000 in
set_option maxHeartbeats 1000000 in
theorem c_X10_areFull {G : q_G} {l : Launch} : ∀ (h : q_H) (a0 : Nat) (a1 : Int32) (q : q_H × Int32), f_X10_areFull h a0 a1 = some q → (∃ fs, h.1 a0 = .inr (9, fs)) ∧ q_CT G l yX10_areFull cX10_areFull 4 (some .boolean) 2 43 [.ref a0, .int a1] h q.1 (q_i q.2) := by
  intro h a0 a1 q e
  obtain ⟨e1, e2⟩ := q_chk_ok e
  exact ⟨e1, q_ofJ Y_X10_areFull (Nat.le_of_ble_eq_true rfl) (jb_X10_areFull_0 h a0 a1) q e2⟩
/-! FarFoldersModel.areLike(II)Z -/
theorem dX10_areLike_0 : decode cX10_areLike 0 = .ok (.iconst 2, 1) := by decide +kernel
theorem dX10_areLike_1 : decode cX10_areLike 1 = .ok (.istore_n 3, 1) := by decide +kernel
theorem dX10_areLike_2 : decode cX10_areLike 2 = .ok (.iload_n 3, 1) := by decide +kernel
theorem dX10_areLike_3 : decode cX10_areLike 3 = .ok (.bipush 14, 2) := by decide +kernel
theorem dX10_areLike_5 : decode cX10_areLike 5 = .ok (.if_icmp .ge 66, 3) := by decide +kernel
theorem dX10_areLike_8 : decode cX10_areLike 8 = .ok (.aload_n 0, 1) := by decide +kernel
theorem dX10_areLike_9 : decode cX10_areLike 9 = .ok (.iload_n 1, 1) := by decide +kernel
theorem dX10_areLike_10 : decode cX10_areLike 10 = .ok (.iload_n 3, 1) := by decide +kernel
theorem dX10_areLike_11 : decode cX10_areLike 11 = .ok (.iconst 0, 1) := by decide +kernel
theorem dX10_areLike_12 : decode cX10_areLike 12 = .ok (.invokevirtual 129, 3) := by decide +kernel
theorem dX10_areLike_15 : decode cX10_areLike 15 = .ok (.aload_n 0, 1) := by decide +kernel
theorem dX10_areLike_16 : decode cX10_areLike 16 = .ok (.iload_n 2, 1) := by decide +kernel
theorem dX10_areLike_17 : decode cX10_areLike 17 = .ok (.iload_n 3, 1) := by decide +kernel
theorem dX10_areLike_18 : decode cX10_areLike 18 = .ok (.iconst 0, 1) := by decide +kernel
theorem dX10_areLike_19 : decode cX10_areLike 19 = .ok (.invokevirtual 129, 3) := by decide +kernel
theorem dX10_areLike_22 : decode cX10_areLike 22 = .ok (.if_icmp .ne 33, 3) := by decide +kernel
theorem dX10_areLike_25 : decode cX10_areLike 25 = .ok (.aload_n 0, 1) := by decide +kernel
theorem dX10_areLike_26 : decode cX10_areLike 26 = .ok (.iload_n 1, 1) := by decide +kernel
theorem dX10_areLike_27 : decode cX10_areLike 27 = .ok (.iload_n 3, 1) := by decide +kernel
theorem dX10_areLike_28 : decode cX10_areLike 28 = .ok (.invokevirtual 133, 3) := by decide +kernel
theorem dX10_areLike_31 : decode cX10_areLike 31 = .ok (.ifCond .eq 20, 3) := by decide +kernel
theorem dX10_areLike_34 : decode cX10_areLike 34 = .ok (.aload_n 0, 1) := by decide +kernel
theorem dX10_areLike_35 : decode cX10_areLike 35 = .ok (.iload_n 1, 1) := by decide +kernel
theorem dX10_areLike_36 : decode cX10_areLike 36 = .ok (.iload_n 3, 1) := by decide +kernel
theorem dX10_areLike_37 : decode cX10_areLike 37 = .ok (.iconst 1, 1) := by decide +kernel
theorem dX10_areLike_38 : decode cX10_areLike 38 = .ok (.invokevirtual 129, 3) := by decide +kernel
theorem dX10_areLike_41 : decode cX10_areLike 41 = .ok (.aload_n 0, 1) := by decide +kernel
theorem dX10_areLike_42 : decode cX10_areLike 42 = .ok (.iload_n 2, 1) := by decide +kernel
theorem dX10_areLike_43 : decode cX10_areLike 43 = .ok (.iload_n 3, 1) := by decide +kernel
theorem dX10_areLike_44 : decode cX10_areLike 44 = .ok (.iconst 1, 1) := by decide +kernel
theorem dX10_areLike_45 : decode cX10_areLike 45 = .ok (.invokevirtual 129, 3) := by decide +kernel
theorem dX10_areLike_48 : decode cX10_areLike 48 = .ok (.if_icmp .ne 7, 3) := by decide +kernel
theorem dX10_areLike_51 : decode cX10_areLike 51 = .ok (.iconst 1, 1) := by decide +kernel
theorem dX10_areLike_52 : decode cX10_areLike 52 = .ok (.goto 4, 3) := by decide +kernel
theorem dX10_areLike_55 : decode cX10_areLike 55 = .ok (.iconst 0, 1) := by decide +kernel
theorem dX10_areLike_56 : decode cX10_areLike 56 = .ok (.istore 4, 2) := by decide +kernel
theorem dX10_areLike_58 : decode cX10_areLike 58 = .ok (.iload 4, 2) := by decide +kernel
theorem dX10_areLike_60 : decode cX10_areLike 60 = .ok (.ifCond .ne 5, 3) := by decide +kernel
theorem dX10_areLike_63 : decode cX10_areLike 63 = .ok (.iconst 0, 1) := by decide +kernel
theorem dX10_areLike_64 : decode cX10_areLike 64 = .ok (.ireturn, 1) := by decide +kernel
theorem dX10_areLike_65 : decode cX10_areLike 65 = .ok (.iinc 3 1, 3) := by decide +kernel
theorem dX10_areLike_68 : decode cX10_areLike 68 = .ok (.goto (-66), 3) := by decide +kernel
theorem dX10_areLike_71 : decode cX10_areLike 71 = .ok (.iconst 1, 1) := by decide +kernel
theorem dX10_areLike_72 : decode cX10_areLike 72 = .ok (.ireturn, 1) := by decide +kernel
def b_X10_areLike_56 (k2 : q_H → Nat → Int32 → Int32 → Int32 → Option (q_H × Int32)) (h : q_H) (v0 : Nat) (v1 : Int32) (v2 : Int32) (v3 : Int32) (s0 : Int32) : Option (q_H × Int32) :=
  if s0 = 0 then some (h, (0)) else k2 h v0 v1 v2 (v3 + 1)
def b_X10_areLike_55 (k2 : q_H → Nat → Int32 → Int32 → Int32 → Option (q_H × Int32)) (h : q_H) (v0 : Nat) (v1 : Int32) (v2 : Int32) (v3 : Int32) : Option (q_H × Int32) :=
  b_X10_areLike_56 k2 h v0 v1 v2 v3 (0)
def b_X10_areLike_51 (k2 : q_H → Nat → Int32 → Int32 → Int32 → Option (q_H × Int32)) (h : q_H) (v0 : Nat) (v1 : Int32) (v2 : Int32) (v3 : Int32) : Option (q_H × Int32) :=
  b_X10_areLike_56 k2 h v0 v1 v2 v3 (1)
def b_X10_areLike_2 (k2 : q_H → Nat → Int32 → Int32 → Int32 → Option (q_H × Int32)) (h : q_H) (v0 : Nat) (v1 : Int32) (v2 : Int32) (v3 : Int32) : Option (q_H × Int32) :=
  if (14) ≤ v3 then some (h, (1)) else Option.bind (f_X10_its h v0 v1 v3 (0)) (fun q1 => Option.bind (f_X10_its q1.1 v0 v2 v3 (0)) (fun q2 => if q1.2 = q2.2 then Option.bind (f_X10_isThere q2.1 v0 v1 v3) (fun q3 => if q3.2 = 0 then b_X10_areLike_51 k2 q3.1 v0 v1 v2 v3 else Option.bind (f_X10_its q3.1 v0 v1 v3 (1)) (fun q4 => Option.bind (f_X10_its q4.1 v0 v2 v3 (1)) (fun q5 => if q4.2 = q5.2 then b_X10_areLike_51 k2 q5.1 v0 v1 v2 v3 else b_X10_areLike_55 k2 q5.1 v0 v1 v2 v3))) else b_X10_areLike_55 k2 q2.1 v0 v1 v2 v3))
def l_X10_areLike_2 : Nat → q_H → Nat → Int32 → Int32 → Int32 → Option (q_H × Int32)
  | 0, _, _, _, _, _ => none
  | n + 1, h, v0, v1, v2, v3 => b_X10_areLike_2 (l_X10_areLike_2 n) h v0 v1 v2 v3
def b_X10_areLike_0 (h : q_H) (v0 : Nat) (v1 : Int32) (v2 : Int32) : Option (q_H × Int32) :=
  l_X10_areLike_2 q_FU h v0 v1 v2 (2)
def f_X10_areLike (h : q_H) (a0 : Nat) (a1 : Int32) (a2 : Int32) : Option (q_H × Int32) := q_chk 9 h a0 (b_X10_areLike_0 h a0 a1 a2)
set_option maxRecDepth 20000 in
set_option maxHeartbeats 1000000 in
theorem jb_X10_areLike_56 {G : q_G} {l : Launch} {k0 z0 : Nat} (k2 : q_H → Nat → Int32 → Int32 → Int32 → Option (q_H × Int32)) (hk2 : ∀ (h : q_H) (v0 : Nat) (v1 : Int32) (v2 : Int32) (v3 : Int32), q_J G l (RX10, cX10_areLike, 5, 2, 45, (some .boolean), "areLike", []) k0 z0 (q_Z G k0 z0 q_i) 2 [(0, .ref v0), (1, .int v1), (2, .int v2), (3, .int v3)] [] h (k2 h v0 v1 v2 v3)) (h : q_H) (v0 : Nat) (v1 : Int32) (v2 : Int32) (v3 : Int32) (s0 : Int32) : q_J G l (RX10, cX10_areLike, 5, 2, 45, (some .boolean), "areLike", []) k0 z0 (q_Z G k0 z0 q_i) 56 [(0, .ref v0), (1, .int v1), (2, .int v2), (3, .int v3)] [.int s0] h (b_X10_areLike_56 k2 h v0 v1 v2 v3 s0) := by
  unfold b_X10_areLike_56
  refine j_istore (pc := 56) (lv' := [(4, .int s0), (0, .ref v0), (1, .int v1), (2, .int v2), (3, .int v3)]) (by decide) rfl dX10_areLike_56 ?_
  refine j_iload (pc := 58) (p := 0) rfl dX10_areLike_58 ?_
  refine j_if_ne (pc := 60) (tgt := 65) dX10_areLike_60 (by decide) (fun _ => ?_) (fun _ => ?_)
  · refine j_iconst (pc := 63) ki_0 dX10_areLike_63 ?_
    exact j_zret (pc := 64) rfl rfl dX10_areLike_64
  refine j_inc (pc := 65) (p := 4) (lv' := [(3, .int (v3 + 1)), (4, .int s0), (0, .ref v0), (1, .int v1), (2, .int v2)]) rfl ki_1 (by decide) rfl dX10_areLike_65 ?_
  refine j_goto (pc := 68) (tgt := 2) dX10_areLike_68 (by decide) ?_
  refine j_sub [2, 3, 4, 0] (lv' := [(0, .ref v0), (1, .int v1), (2, .int v2), (3, .int (v3 + 1))]) rfl ?_
  exact hk2 _ _ _ _ _
set_option maxRecDepth 20000 in
set_option maxHeartbeats 1000000 in
theorem jb_X10_areLike_55 {G : q_G} {l : Launch} {k0 z0 : Nat} (k2 : q_H → Nat → Int32 → Int32 → Int32 → Option (q_H × Int32)) (hk2 : ∀ (h : q_H) (v0 : Nat) (v1 : Int32) (v2 : Int32) (v3 : Int32), q_J G l (RX10, cX10_areLike, 5, 2, 45, (some .boolean), "areLike", []) k0 z0 (q_Z G k0 z0 q_i) 2 [(0, .ref v0), (1, .int v1), (2, .int v2), (3, .int v3)] [] h (k2 h v0 v1 v2 v3)) (h : q_H) (v0 : Nat) (v1 : Int32) (v2 : Int32) (v3 : Int32) : q_J G l (RX10, cX10_areLike, 5, 2, 45, (some .boolean), "areLike", []) k0 z0 (q_Z G k0 z0 q_i) 55 [(0, .ref v0), (1, .int v1), (2, .int v2), (3, .int v3)] [] h (b_X10_areLike_55 k2 h v0 v1 v2 v3) := by
  unfold b_X10_areLike_55
  refine j_iconst (pc := 55) ki_0 dX10_areLike_55 ?_
  exact jb_X10_areLike_56 k2 hk2 _ _ _ _ _ _
set_option maxRecDepth 20000 in
set_option maxHeartbeats 1000000 in
theorem jb_X10_areLike_51 {G : q_G} {l : Launch} {k0 z0 : Nat} (k2 : q_H → Nat → Int32 → Int32 → Int32 → Option (q_H × Int32)) (hk2 : ∀ (h : q_H) (v0 : Nat) (v1 : Int32) (v2 : Int32) (v3 : Int32), q_J G l (RX10, cX10_areLike, 5, 2, 45, (some .boolean), "areLike", []) k0 z0 (q_Z G k0 z0 q_i) 2 [(0, .ref v0), (1, .int v1), (2, .int v2), (3, .int v3)] [] h (k2 h v0 v1 v2 v3)) (h : q_H) (v0 : Nat) (v1 : Int32) (v2 : Int32) (v3 : Int32) : q_J G l (RX10, cX10_areLike, 5, 2, 45, (some .boolean), "areLike", []) k0 z0 (q_Z G k0 z0 q_i) 51 [(0, .ref v0), (1, .int v1), (2, .int v2), (3, .int v3)] [] h (b_X10_areLike_51 k2 h v0 v1 v2 v3) := by
  unfold b_X10_areLike_51
  refine j_iconst (pc := 51) ki_1 dX10_areLike_51 ?_
  refine j_goto (pc := 52) (tgt := 56) dX10_areLike_52 (by decide) ?_
  exact jb_X10_areLike_56 k2 hk2 _ _ _ _ _ _
set_option maxRecDepth 20000 in
set_option maxHeartbeats 1000000 in
theorem jb_X10_areLike_2 {G : q_G} {l : Launch} {k0 z0 : Nat} (k2 : q_H → Nat → Int32 → Int32 → Int32 → Option (q_H × Int32)) (hk2 : ∀ (h : q_H) (v0 : Nat) (v1 : Int32) (v2 : Int32) (v3 : Int32), q_J G l (RX10, cX10_areLike, 5, 2, 45, (some .boolean), "areLike", []) k0 z0 (q_Z G k0 z0 q_i) 2 [(0, .ref v0), (1, .int v1), (2, .int v2), (3, .int v3)] [] h (k2 h v0 v1 v2 v3)) (h : q_H) (v0 : Nat) (v1 : Int32) (v2 : Int32) (v3 : Int32) : q_J G l (RX10, cX10_areLike, 5, 2, 45, (some .boolean), "areLike", []) k0 z0 (q_Z G k0 z0 q_i) 2 [(0, .ref v0), (1, .int v1), (2, .int v2), (3, .int v3)] [] h (b_X10_areLike_2 k2 h v0 v1 v2 v3) := by
  unfold b_X10_areLike_2
  refine j_iload_n (pc := 2) (p := 3) rfl rfl dX10_areLike_2 ?_
  refine j_bipush (pc := 3) kb_14 dX10_areLike_3 ?_
  refine j_ic_ge (pc := 5) (tgt := 71) dX10_areLike_5 (by decide) (fun _ => ?_) (fun _ => ?_)
  · refine j_iconst (pc := 71) ki_1 dX10_areLike_71 ?_
    exact j_zret (pc := 72) rfl rfl dX10_areLike_72
  refine j_aload_n (pc := 8) (p := 0) rfl rfl dX10_areLike_8 ?_
  refine j_iload_n (pc := 9) (p := 1) rfl rfl dX10_areLike_9 ?_
  refine j_iload_n (pc := 10) (p := 3) rfl rfl dX10_areLike_10 ?_
  refine j_iconst (pc := 11) ki_0 dX10_areLike_11 ?_
  refine j_cVi (pc := 12) Y_X10_its (ci := 9) (b := v0) rfl rfl ml_X10_129 im_X10_its se_X10_its ⟨Nat.le_of_ble_eq_true rfl, Nat.le_of_ble_eq_true rfl⟩ dX10_areLike_12 (As := [.int v1, .int v3, .int (0)]) (rest := []) rfl rfl (Nat.le_of_ble_eq_true rfl) (fun x hq9 => c_X10_its _ _ _ _ _ _ hq9) (fun q1 _ => ?_)
  refine j_aload_n (pc := 15) (p := 0) rfl rfl dX10_areLike_15 ?_
  refine j_iload_n (pc := 16) (p := 2) rfl rfl dX10_areLike_16 ?_
  refine j_iload_n (pc := 17) (p := 3) rfl rfl dX10_areLike_17 ?_
  refine j_iconst (pc := 18) ki_0 dX10_areLike_18 ?_
  refine j_cVi (pc := 19) Y_X10_its (ci := 9) (b := v0) rfl rfl ml_X10_129 im_X10_its se_X10_its ⟨Nat.le_of_ble_eq_true rfl, Nat.le_of_ble_eq_true rfl⟩ dX10_areLike_19 (As := [.int v2, .int v3, .int (0)]) (rest := [.int q1.2]) rfl rfl (Nat.le_of_ble_eq_true rfl) (fun x hq9 => c_X10_its _ _ _ _ _ _ hq9) (fun q2 _ => ?_)
  refine j_ic_ne (pc := 22) (tgt := 55) dX10_areLike_22 (by decide) (fun _ => ?_) (fun _ => ?_)
  · refine j_aload_n (pc := 25) (p := 0) rfl rfl dX10_areLike_25 ?_
    refine j_iload_n (pc := 26) (p := 1) rfl rfl dX10_areLike_26 ?_
    refine j_iload_n (pc := 27) (p := 3) rfl rfl dX10_areLike_27 ?_
    refine j_cVi (pc := 28) Y_X10_isThere (ci := 9) (b := v0) rfl rfl ml_X10_133 im_X10_isThere se_X10_isThere ⟨Nat.le_of_ble_eq_true rfl, Nat.le_of_ble_eq_true rfl⟩ dX10_areLike_28 (As := [.int v1, .int v3]) (rest := []) rfl rfl (Nat.le_of_ble_eq_true rfl) (fun x hq9 => c_X10_isThere _ _ _ _ _ hq9) (fun q3 _ => ?_)
    refine j_if_eq (pc := 31) (tgt := 51) dX10_areLike_31 (by decide) (fun _ => ?_) (fun _ => ?_)
    · exact jb_X10_areLike_51 k2 hk2 _ _ _ _ _
    refine j_aload_n (pc := 34) (p := 0) rfl rfl dX10_areLike_34 ?_
    refine j_iload_n (pc := 35) (p := 1) rfl rfl dX10_areLike_35 ?_
    refine j_iload_n (pc := 36) (p := 3) rfl rfl dX10_areLike_36 ?_
    refine j_iconst (pc := 37) ki_1 dX10_areLike_37 ?_
    refine j_cVi (pc := 38) Y_X10_its (ci := 9) (b := v0) rfl rfl ml_X10_129 im_X10_its se_X10_its ⟨Nat.le_of_ble_eq_true rfl, Nat.le_of_ble_eq_true rfl⟩ dX10_areLike_38 (As := [.int v1, .int v3, .int (1)]) (rest := []) rfl rfl (Nat.le_of_ble_eq_true rfl) (fun x hq9 => c_X10_its _ _ _ _ _ _ hq9) (fun q4 _ => ?_)
    refine j_aload_n (pc := 41) (p := 0) rfl rfl dX10_areLike_41 ?_
    refine j_iload_n (pc := 42) (p := 2) rfl rfl dX10_areLike_42 ?_
    refine j_iload_n (pc := 43) (p := 3) rfl rfl dX10_areLike_43 ?_
    refine j_iconst (pc := 44) ki_1 dX10_areLike_44 ?_
    refine j_cVi (pc := 45) Y_X10_its (ci := 9) (b := v0) rfl rfl ml_X10_129 im_X10_its se_X10_its ⟨Nat.le_of_ble_eq_true rfl, Nat.le_of_ble_eq_true rfl⟩ dX10_areLike_45 (As := [.int v2, .int v3, .int (1)]) (rest := [.int q4.2]) rfl rfl (Nat.le_of_ble_eq_true rfl) (fun x hq9 => c_X10_its _ _ _ _ _ _ hq9) (fun q5 _ => ?_)
    refine j_ic_ne (pc := 48) (tgt := 55) dX10_areLike_48 (by decide) (fun _ => ?_) (fun _ => ?_)
    · exact jb_X10_areLike_51 k2 hk2 _ _ _ _ _
    exact jb_X10_areLike_55 k2 hk2 _ _ _ _ _
  exact jb_X10_areLike_55 k2 hk2 _ _ _ _ _
set_option maxRecDepth 20000 in
set_option maxHeartbeats 1000000 in
theorem jl_X10_areLike_2 {G : q_G} {l : Launch} {k0 z0 : Nat} (n : Nat) : ∀ (h : q_H) (v0 : Nat) (v1 : Int32) (v2 : Int32) (v3 : Int32), q_J G l (RX10, cX10_areLike, 5, 2, 45, (some .boolean), "areLike", []) k0 z0 (q_Z G k0 z0 q_i) 2 [(0, .ref v0), (1, .int v1), (2, .int v2), (3, .int v3)] [] h (l_X10_areLike_2 n h v0 v1 v2 v3) := by
  induction n with
  | zero => intro h v0 v1 v2 v3; exact j_none
  | succ n ih => intro h v0 v1 v2 v3; exact jb_X10_areLike_2 (l_X10_areLike_2 n) ih h v0 v1 v2 v3
set_option maxRecDepth 20000 in
set_option maxHeartbeats 1000000 in
theorem jb_X10_areLike_0 {G : q_G} {l : Launch} {k0 z0 : Nat} (h : q_H) (v0 : Nat) (v1 : Int32) (v2 : Int32) : q_J G l (RX10, cX10_areLike, 5, 2, 45, (some .boolean), "areLike", []) k0 z0 (q_Z G k0 z0 q_i) 0 [(0, .ref v0), (1, .int v1), (2, .int v2)] [] h (b_X10_areLike_0 h v0 v1 v2) := by
  unfold b_X10_areLike_0
  refine j_iconst (pc := 0) ki_2 dX10_areLike_0 ?_
  refine j_istore_n (pc := 1) (lv' := [(3, .int (2)), (0, .ref v0), (1, .int v1), (2, .int v2)]) rfl (by decide) rfl dX10_areLike_1 ?_
  refine j_sub [1, 2, 3, 0] (lv' := [(0, .ref v0), (1, .int v1), (2, .int v2), (3, .int (2))]) rfl ?_
  exact jl_X10_areLike_2 q_FU _ _ _ _ _
set_option maxRecDepth 20000 in
set_option maxHeartbeats 1000000 in
theorem c_X10_areLike {G : q_G} {l : Launch} : ∀ (h : q_H) (a0 : Nat) (a1 : Int32) (a2 : Int32) (q : q_H × Int32), f_X10_areLike h a0 a1 a2 = some q → (∃ fs, h.1 a0 = .inr (9, fs)) ∧ q_CT G l yX10_areLike cX10_areLike 5 (some .boolean) 2 45 [.ref a0, .int a1, .int a2] h q.1 (q_i q.2) := by
  intro h a0 a1 a2 q e
  obtain ⟨e1, e2⟩ := q_chk_ok e
  exact ⟨e1, q_ofJ Y_X10_areLike (Nat.le_of_ble_eq_true rfl) (jb_X10_areLike_0 h a0 a1 a2) q e2⟩
/-! FarFoldersModel.isNode(I)Z -/
theorem dX10_isNode_0 : decode cX10_isNode 0 = .ok (.iload_n 0, 1) := by decide +kernel
theorem dX10_isNode_1 : decode cX10_isNode 1 = .ok (.i2l, 1) := by decide +kernel
theorem dX10_isNode_2 : decode cX10_isNode 2 = .ok (.lconst 0, 1) := by decide +kernel
theorem dX10_isNode_3 : decode cX10_isNode 3 = .ok (.ldc2_w 99, 3) := by decide +kernel
theorem dX10_isNode_6 : decode cX10_isNode 6 = .ok (.invokestatic 21, 3) := by decide +kernel
theorem dX10_isNode_9 : decode cX10_isNode 9 = .ok (.ireturn, 1) := by decide +kernel
def b_X10_isNode_0 (h : q_H) (v0 : Int32) : Option (q_H × Int32) :=
  Option.bind (f_X10_in h (Int32.toInt64 v0) (0) (13)) (fun q1 => some (q1.1, vp_nar .boolean q1.2))
def f_X10_isNode (h : q_H) (a0 : Int32) : Option (q_H × Int32) := b_X10_isNode_0 h a0
set_option maxRecDepth 20000 in
set_option maxHeartbeats 1000000 in
theorem jb_X10_isNode_0 {G : q_G} {l : Launch} {k0 z0 : Nat} (h : q_H) (v0 : Int32) : q_J G l (RX10, cX10_isNode, 1, 1, 25, (some .boolean), "isNode", []) k0 z0 (q_Z G k0 z0 q_i) 0 [(0, .int v0)] [] h (b_X10_isNode_0 h v0) := by
  unfold b_X10_isNode_0
  refine j_iload_n (pc := 0) (p := 0) rfl rfl dX10_isNode_0 ?_
  refine j_i2l (pc := 1) dX10_isNode_1 ?_
  refine j_lconst (pc := 2) kl_0 dX10_isNode_2 ?_
  refine j_ldc2 (pc := 3) cL_X10_99 dX10_isNode_3 ?_
  refine j_cSi (pc := 6) Y_X10_in ml_X10_21 sm_X10_in ⟨Nat.le_of_ble_eq_true rfl, Nat.le_of_ble_eq_true rfl⟩ dX10_isNode_6 (As := [.long (Int32.toInt64 v0), .long (0), .long (13)]) (rest := []) rfl rfl (Nat.le_of_ble_eq_true rfl) (fun x hq9 => c_X10_in _ _ _ _ _ hq9) (fun q1 _ => ?_)
  exact j_zret (pc := 9) rfl (q_narz _) dX10_isNode_9
set_option maxRecDepth 20000 in
set_option maxHeartbeats 1000000 in
theorem c_X10_isNode {G : q_G} {l : Launch} : ∀ (h : q_H) (a0 : Int32) (q : q_H × Int32), f_X10_isNode h a0 = some q → q_CT G l yX10_isNode cX10_isNode 1 (some .boolean) 1 25 [.int a0] h q.1 (q_i q.2) := by
  intro h a0 q e
  exact q_ofJ Y_X10_isNode (Nat.le_of_ble_eq_true rfl) (jb_X10_isNode_0 h a0) q e
