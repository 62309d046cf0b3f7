/-! FarFolders.entry(III)I -/
theorem dX9_entry_0 : decode cX9_entry 0 = .ok (.iload_n 1, 1) := by decide +kernel
theorem dX9_entry_1 : decode cX9_entry 1 = .ok (.invokestatic 73, 3) := by decide +kernel
theorem dX9_entry_4 : decode cX9_entry 4 = .ok (.ifCond .eq 10, 3) := by decide +kernel
theorem dX9_entry_7 : decode cX9_entry 7 = .ok (.iload_n 2, 1) := by decide +kernel
theorem dX9_entry_8 : decode cX9_entry 8 = .ok (.invokestatic 76, 3) := by decide +kernel
theorem dX9_entry_11 : decode cX9_entry 11 = .ok (.ifCond .ne 11, 3) := by decide +kernel
theorem dX9_entry_14 : decode cX9_entry 14 = .ok (.new 79, 3) := by decide +kernel
theorem dX9_entry_17 : decode cX9_entry 17 = .ok (.dup, 1) := by decide +kernel
theorem dX9_entry_18 : decode cX9_entry 18 = .ok (.invokespecial 81, 3) := by decide +kernel
theorem dX9_entry_21 : decode cX9_entry 21 = .ok (.athrow, 1) := by decide +kernel
theorem dX9_entry_22 : decode cX9_entry 22 = .ok (.aload_n 0, 1) := by decide +kernel
theorem dX9_entry_23 : decode cX9_entry 23 = .ok (.getfield 12, 3) := by decide +kernel
theorem dX9_entry_26 : decode cX9_entry 26 = .ok (.getfield 82, 3) := by decide +kernel
theorem dX9_entry_29 : decode cX9_entry 29 = .ok (.iload_n 1, 1) := by decide +kernel
theorem dX9_entry_30 : decode cX9_entry 30 = .ok (.aaload, 1) := by decide +kernel
theorem dX9_entry_31 : decode cX9_entry 31 = .ok (.getfield 86, 3) := by decide +kernel
theorem dX9_entry_34 : decode cX9_entry 34 = .ok (.astore 4, 2) := by decide +kernel
theorem dX9_entry_36 : decode cX9_entry 36 = .ok (.aload 4, 2) := by decide +kernel
theorem dX9_entry_38 : decode cX9_entry 38 = .ok (.iload_n 2, 1) := by decide +kernel
theorem dX9_entry_39 : decode cX9_entry 39 = .ok (.invokevirtual 91, 3) := by decide +kernel
theorem dX9_entry_42 : decode cX9_entry 42 = .ok (.ifCond .ne 11, 3) := by decide +kernel
theorem dX9_entry_45 : decode cX9_entry 45 = .ok (.new 79, 3) := by decide +kernel
theorem dX9_entry_48 : decode cX9_entry 48 = .ok (.dup, 1) := by decide +kernel
theorem dX9_entry_49 : decode cX9_entry 49 = .ok (.invokespecial 81, 3) := by decide +kernel
theorem dX9_entry_52 : decode cX9_entry 52 = .ok (.athrow, 1) := by decide +kernel
theorem dX9_entry_53 : decode cX9_entry 53 = .ok (.aload 4, 2) := by decide +kernel
theorem dX9_entry_55 : decode cX9_entry 55 = .ok (.getfield 94, 3) := by decide +kernel
theorem dX9_entry_58 : decode cX9_entry 58 = .ok (.iload_n 2, 1) := by decide +kernel
theorem dX9_entry_59 : decode cX9_entry 59 = .ok (.laload, 1) := by decide +kernel
theorem dX9_entry_60 : decode cX9_entry 60 = .ok (.lstore 5, 2) := by decide +kernel
theorem dX9_entry_62 : decode cX9_entry 62 = .ok (.iload_n 3, 1) := by decide +kernel
theorem dX9_entry_63 : decode cX9_entry 63 = .ok (.tableswitch 64 0 4 #[33, 39, 45, 52, 58], 33) := by decide +kernel
theorem dX9_entry_96 : decode cX9_entry 96 = .ok (.lload 5, 2) := by decide +kernel
theorem dX9_entry_98 : decode cX9_entry 98 = .ok (.invokestatic 98, 3) := by decide +kernel
theorem dX9_entry_101 : decode cX9_entry 101 = .ok (.ireturn, 1) := by decide +kernel
theorem dX9_entry_102 : decode cX9_entry 102 = .ok (.lload 5, 2) := by decide +kernel
theorem dX9_entry_104 : decode cX9_entry 104 = .ok (.invokestatic 104, 3) := by decide +kernel
theorem dX9_entry_107 : decode cX9_entry 107 = .ok (.ireturn, 1) := by decide +kernel
theorem dX9_entry_108 : decode cX9_entry 108 = .ok (.aload 4, 2) := by decide +kernel
theorem dX9_entry_110 : decode cX9_entry 110 = .ok (.iload_n 2, 1) := by decide +kernel
theorem dX9_entry_111 : decode cX9_entry 111 = .ok (.invokevirtual 107, 3) := by decide +kernel
theorem dX9_entry_114 : decode cX9_entry 114 = .ok (.ireturn, 1) := by decide +kernel
theorem dX9_entry_115 : decode cX9_entry 115 = .ok (.lload 5, 2) := by decide +kernel
theorem dX9_entry_117 : decode cX9_entry 117 = .ok (.invokestatic 111, 3) := by decide +kernel
theorem dX9_entry_120 : decode cX9_entry 120 = .ok (.ireturn, 1) := by decide +kernel
theorem dX9_entry_121 : decode cX9_entry 121 = .ok (.lload 5, 2) := by decide +kernel
theorem dX9_entry_123 : decode cX9_entry 123 = .ok (.invokestatic 114, 3) := by decide +kernel
theorem dX9_entry_126 : decode cX9_entry 126 = .ok (.ireturn, 1) := by decide +kernel
theorem dX9_entry_127 : decode cX9_entry 127 = .ok (.new 79, 3) := by decide +kernel
theorem dX9_entry_130 : decode cX9_entry 130 = .ok (.dup, 1) := by decide +kernel
theorem dX9_entry_131 : decode cX9_entry 131 = .ok (.invokespecial 81, 3) := by decide +kernel
theorem dX9_entry_134 : decode cX9_entry 134 = .ok (.athrow, 1) := by decide +kernel
def b_X9_entry_14 (h : q_H) : Option (q_H × Int32) :=
  none
def b_X9_entry_0 (h : q_H) (v0 : Nat) (v1 : Int32) (v2 : Int32) (v3 : Int32) : Option (q_H × Int32) :=
  Option.bind (f_X9_isCopy h v1) (fun q1 => if q1.2 = 0 then b_X9_entry_14 q1.1 else Option.bind (f_X9_isFolder q1.1 v2) (fun q2 => if q2.2 = 0 then b_X9_entry_14 q2.1 else Option.bind (q_gR 8 0 q2.1 v0) (fun x3 => Option.bind (q_gR 7 0 q2.1 x3) (fun x4 => Option.bind (q_lR 4 q2.1 x4 v1) (fun x5 => Option.bind (q_gR 0 5 q2.1 x5) (fun x6 => Option.bind (f_X7_isThere q2.1 x6 v2) (fun q7 => if q7.2 = 0 then none else Option.bind (q_gR 6 0 q7.1 x6) (fun x8 => Option.bind (q_lL q7.1 x8 v2) (fun x9 => if v3 = (0) then Option.bind (f_X1_parent q7.1 x9) (fun q11 => some (q11.1, q11.2)) else if v3 = (1) then Option.bind (f_X1_name q7.1 x9) (fun q13 => some (q13.1, q13.2)) else if v3 = (2) then Option.bind (f_X7_rankOf q7.1 x6 v2) (fun q15 => some (q15.1, q15.2)) else if v3 = (3) then Option.bind (f_X1_time q7.1 x9) (fun q17 => some (q17.1, q17.2)) else if v3 = (4) then Option.bind (f_X1_sender q7.1 x9) (fun q19 => some (q19.1, q19.2)) else none)))))))))
def f_X9_entry (h : q_H) (a0 : Nat) (a1 : Int32) (a2 : Int32) (a3 : Int32) : Option (q_H × Int32) := q_chk 8 h a0 (b_X9_entry_0 h a0 a1 a2 a3)
set_option maxRecDepth 20000 in
set_option maxHeartbeats 1000000 in
theorem jb_X9_entry_14 {G : q_G} {l : Launch} {k0 z0 : Nat} (h : q_H) : q_J G l (RX9, cX9_entry, 7, 6, 100, (some .int), "entry", []) k0 z0 (q_Z G k0 z0 q_i) 14 [] [] h (b_X9_entry_14 h) := by
  unfold b_X9_entry_14
  exact j_none
set_option maxRecDepth 20000 in
set_option maxHeartbeats 1000000 in
theorem jb_X9_entry_0 {G : q_G} {l : Launch} {k0 z0 : Nat} (h : q_H) (v0 : Nat) (v1 : Int32) (v2 : Int32) (v3 : Int32) : q_J G l (RX9, cX9_entry, 7, 6, 100, (some .int), "entry", []) k0 z0 (q_Z G k0 z0 q_i) 0 [(0, .ref v0), (1, .int v1), (2, .int v2), (3, .int v3)] [] h (b_X9_entry_0 h v0 v1 v2 v3) := by
  unfold b_X9_entry_0
  refine j_iload_n (pc := 0) (p := 1) rfl rfl dX9_entry_0 ?_
  refine j_cSi (pc := 1) Y_X9_isCopy ml_X9_73 sm_X9_isCopy ⟨Nat.le_of_ble_eq_true rfl, Nat.le_of_ble_eq_true rfl⟩ dX9_entry_1 (As := [.int v1]) (rest := []) rfl rfl (Nat.le_of_ble_eq_true rfl) (fun x hq9 => c_X9_isCopy _ _ _ hq9) (fun q1 _ => ?_)
  refine j_if_eq (pc := 4) (tgt := 14) dX9_entry_4 (by decide) (fun _ => ?_) (fun _ => ?_)
  · refine j_sub [] (lv' := []) rfl ?_
    exact jb_X9_entry_14 _
  refine j_iload_n (pc := 7) (p := 2) rfl rfl dX9_entry_7 ?_
  refine j_cSi (pc := 8) Y_X9_isFolder ml_X9_76 sm_X9_isFolder ⟨Nat.le_of_ble_eq_true rfl, Nat.le_of_ble_eq_true rfl⟩ dX9_entry_8 (As := [.int v2]) (rest := []) rfl rfl (Nat.le_of_ble_eq_true rfl) (fun x hq9 => c_X9_isFolder _ _ _ hq9) (fun q2 _ => ?_)
  refine j_if_ne (pc := 11) (tgt := 22) dX9_entry_11 (by decide) (fun _ => ?_) (fun _ => ?_)
  · refine j_sub [] (lv' := []) rfl ?_
    exact jb_X9_entry_14 _
  refine j_aload_n (pc := 22) (p := 0) rfl rfl dX9_entry_22 ?_
  refine j_getR (pc := 23) FI_X9 (k := 0) (by decide) fl_X9_12 dX9_entry_23 (fun x3 _ => ?_)
  refine j_getR (pc := 26) FI_X8 (k := 0) (by decide) fl_X9_82 dX9_entry_26 (fun x4 _ => ?_)
  refine j_iload_n (pc := 29) (p := 1) rfl rfl dX9_entry_29 ?_
  refine j_aald (pc := 30) (t := 4) rfl dX9_entry_30 (fun x5 _ => ?_)
  refine j_getR (pc := 31) FI_X0 (k := 5) (by decide) fl_X9_86 dX9_entry_31 (fun x6 _ => ?_)
  refine j_astore (pc := 34) (lv' := [(4, .ref x6), (0, .ref v0), (1, .int v1), (2, .int v2), (3, .int v3)]) (by decide) rfl dX9_entry_34 ?_
  refine j_aload (pc := 36) (p := 0) rfl dX9_entry_36 ?_
  refine j_iload_n (pc := 38) (p := 3) rfl rfl dX9_entry_38 ?_
  refine j_cVi (pc := 39) Y_X7_isThere (ci := 6) (b := x6) rfl rfl ml_X9_91 im_X7_isThere se_X7_isThere ⟨Nat.le_of_ble_eq_true rfl, Nat.le_of_ble_eq_true rfl⟩ dX9_entry_39 (As := [.int v2]) (rest := []) rfl rfl (Nat.le_of_ble_eq_true rfl) (fun x hq9 => c_X7_isThere _ _ _ _ hq9) (fun q7 _ => ?_)
  refine j_if_ne (pc := 42) (tgt := 53) dX9_entry_42 (by decide) (fun _ => ?_) (fun _ => ?_)
  · exact j_none
  refine j_aload (pc := 53) (p := 0) rfl dX9_entry_53 ?_
  refine j_getR (pc := 55) FI_X7 (k := 0) (by decide) fl_X9_94 dX9_entry_55 (fun x8 _ => ?_)
  refine j_iload_n (pc := 58) (p := 3) rfl rfl dX9_entry_58 ?_
  refine j_lald (pc := 59) dX9_entry_59 (fun x9 _ => ?_)
  refine j_lstore (pc := 60) (lv' := [(5, .long x9), (4, .ref x6), (0, .ref v0), (1, .int v1), (2, .int v2), (3, .int v3)]) (by decide) rfl dX9_entry_60 ?_
  refine j_iload_n (pc := 62) (p := 5) rfl rfl dX9_entry_62 ?_
  refine j_ite (fun c10 => ?_) (fun c10 => ?_)
  · refine j_tsI (pc := 63) (y := 0) (off := 33) (tgt := 96) dX9_entry_63 c10 ⟨by decide, by decide, by decide⟩ (by decide) ?_
    refine j_lload (pc := 96) (p := 0) rfl dX9_entry_96 ?_
    refine j_cSi (pc := 98) Y_X1_parent ml_X9_98 sm_X1_parent ⟨Nat.le_of_ble_eq_true rfl, Nat.le_of_ble_eq_true rfl⟩ dX9_entry_98 (As := [.long x9]) (rest := []) rfl rfl (Nat.le_of_ble_eq_true rfl) (fun x hq9 => c_X1_parent _ _ _ hq9) (fun q11 _ => ?_)
    exact j_iret (pc := 101) rfl dX9_entry_101
  refine j_ite (fun c12 => ?_) (fun c12 => ?_)
  · refine j_tsI (pc := 63) (y := 1) (off := 39) (tgt := 102) dX9_entry_63 c12 ⟨by decide, by decide, by decide⟩ (by decide) ?_
    refine j_lload (pc := 102) (p := 0) rfl dX9_entry_102 ?_
    refine j_cSi (pc := 104) Y_X1_name ml_X9_104 sm_X1_name ⟨Nat.le_of_ble_eq_true rfl, Nat.le_of_ble_eq_true rfl⟩ dX9_entry_104 (As := [.long x9]) (rest := []) rfl rfl (Nat.le_of_ble_eq_true rfl) (fun x hq9 => c_X1_name _ _ _ hq9) (fun q13 _ => ?_)
    exact j_iret (pc := 107) rfl dX9_entry_107
  refine j_ite (fun c14 => ?_) (fun c14 => ?_)
  · refine j_tsI (pc := 63) (y := 2) (off := 45) (tgt := 108) dX9_entry_63 c14 ⟨by decide, by decide, by decide⟩ (by decide) ?_
    refine j_aload (pc := 108) (p := 1) rfl dX9_entry_108 ?_
    refine j_iload_n (pc := 110) (p := 4) rfl rfl dX9_entry_110 ?_
    refine j_cVi (pc := 111) Y_X7_rankOf (ci := 6) (b := x6) rfl rfl ml_X9_107 im_X7_rankOf se_X7_rankOf ⟨Nat.le_of_ble_eq_true rfl, Nat.le_of_ble_eq_true rfl⟩ dX9_entry_111 (As := [.int v2]) (rest := []) rfl rfl (Nat.le_of_ble_eq_true rfl) (fun x hq9 => c_X7_rankOf _ _ _ _ hq9) (fun q15 _ => ?_)
    exact j_iret (pc := 114) rfl dX9_entry_114
  refine j_ite (fun c16 => ?_) (fun c16 => ?_)
  · refine j_tsI (pc := 63) (y := 3) (off := 52) (tgt := 115) dX9_entry_63 c16 ⟨by decide, by decide, by decide⟩ (by decide) ?_
    refine j_lload (pc := 115) (p := 0) rfl dX9_entry_115 ?_
    refine j_cSi (pc := 117) Y_X1_time ml_X9_111 sm_X1_time ⟨Nat.le_of_ble_eq_true rfl, Nat.le_of_ble_eq_true rfl⟩ dX9_entry_117 (As := [.long x9]) (rest := []) rfl rfl (Nat.le_of_ble_eq_true rfl) (fun x hq9 => c_X1_time _ _ _ hq9) (fun q17 _ => ?_)
    exact j_iret (pc := 120) rfl dX9_entry_120
  refine j_ite (fun c18 => ?_) (fun c18 => ?_)
  · refine j_tsI (pc := 63) (y := 4) (off := 58) (tgt := 121) dX9_entry_63 c18 ⟨by decide, by decide, by decide⟩ (by decide) ?_
    refine j_lload (pc := 121) (p := 0) rfl dX9_entry_121 ?_
    refine j_cSi (pc := 123) Y_X1_sender ml_X9_114 sm_X1_sender ⟨Nat.le_of_ble_eq_true rfl, Nat.le_of_ble_eq_true rfl⟩ dX9_entry_123 (As := [.long x9]) (rest := []) rfl rfl (Nat.le_of_ble_eq_true rfl) (fun x hq9 => c_X1_sender _ _ _ hq9) (fun q19 _ => ?_)
    exact j_iret (pc := 126) rfl dX9_entry_126
  refine j_tsO (pc := 63) (tgt := 127) dX9_entry_63 (by have a_c10 := lv_neT c10 (show ((0 : Int32)).toInt = 0 by decide); have a_c12 := lv_neT c12 (show ((1 : Int32)).toInt = 1 by decide); have a_c14 := lv_neT c14 (show ((2 : Int32)).toInt = 2 by decide); have a_c16 := lv_neT c16 (show ((3 : Int32)).toInt = 3 by decide); have a_c18 := lv_neT c18 (show ((4 : Int32)).toInt = 4 by decide); omega) (by decide) ?_
  exact j_none
set_option maxRecDepth 20000 in
set_option maxHeartbeats 1000000 in
theorem c_X9_entry {G : q_G} {l : Launch} : ∀ (h : q_H) (a0 : Nat) (a1 : Int32) (a2 : Int32) (a3 : Int32) (q : q_H × Int32), f_X9_entry h a0 a1 a2 a3 = some q → (∃ fs, h.1 a0 = .inr (8, fs)) ∧ q_CT G l yX9_entry cX9_entry 7 (some .int) 6 100 [.ref a0, .int a1, .int a2, .int a3] h q.1 (q_i q.2) := by
  intro h a0 a1 a2 a3 q e
  obtain ⟨e1, e2⟩ := q_chk_ok e
  exact ⟨e1, q_ofJ Y_X9_entry (Nat.le_of_ble_eq_true rfl) (jb_X9_entry_0 h a0 a1 a2 a3) q e2⟩
set_option maxRecDepth 20000 in
set_option maxHeartbeats 1000000 in
def bt_X9_entry_14 (h : q_H) : Option (q_H × Unit) :=
  some (q_th h, ())
set_option maxRecDepth 20000 in
set_option maxHeartbeats 1000000 in
def bt_X9_entry_0 (h : q_H) (v0 : Nat) (v1 : Int32) (v2 : Int32) (v3 : Int32) : Option (q_H × Unit) :=
  Option.bind (f_X9_isCopy h v1) (fun q1 => if q1.2 = 0 then bt_X9_entry_14 q1.1 else Option.bind (f_X9_isFolder q1.1 v2) (fun q2 => if q2.2 = 0 then bt_X9_entry_14 q2.1 else Option.bind (q_gR 8 0 q2.1 v0) (fun x3 => Option.bind (q_gR 7 0 q2.1 x3) (fun x4 => Option.bind (q_lR 4 q2.1 x4 v1) (fun x5 => Option.bind (q_gR 0 5 q2.1 x5) (fun x6 => Option.bind (f_X7_isThere q2.1 x6 v2) (fun q7 => if q7.2 = 0 then some (q_th q7.1, ()) else Option.bind (q_gR 6 0 q7.1 x6) (fun x8 => Option.bind (q_lL q7.1 x8 v2) (fun x9 => if v3 = (0) then Option.bind (f_X1_parent q7.1 x9) (fun q11 => none) else if v3 = (1) then Option.bind (f_X1_name q7.1 x9) (fun q13 => none) else if v3 = (2) then Option.bind (f_X7_rankOf q7.1 x6 v2) (fun q15 => none) else if v3 = (3) then Option.bind (f_X1_time q7.1 x9) (fun q17 => none) else if v3 = (4) then Option.bind (f_X1_sender q7.1 x9) (fun q19 => none) else some (q_th q7.1, ()))))))))))
set_option maxRecDepth 20000 in
set_option maxHeartbeats 1000000 in
def t_X9_entry (h : q_H) (a0 : Nat) (a1 : Int32) (a2 : Int32) (a3 : Int32) : Option (q_H × Unit) := q_chk 8 h a0 (bt_X9_entry_0 h a0 a1 a2 a3)
set_option maxRecDepth 20000 in
set_option maxHeartbeats 1000000 in
theorem jbt_X9_entry_14 {G : q_G} {l : Launch} {k0 z0 : Nat} (hx : G.2.2.2.2.2.2.2 = false) (hl : l.stackTraces = false) (h : q_H) : q_J G l (RX9, cX9_entry, 7, 6, 100, (some .int), "entry", []) k0 z0 (q_ZX G k0 z0) 14 [] [] h (bt_X9_entry_14 h) := by
  unfold bt_X9_entry_14
  exact j_throw (pc := 14) hx hl rfl rfl ⟨Nat.le_of_ble_eq_true rfl, Nat.le_of_ble_eq_true rfl⟩ dX9_entry_14 dX9_entry_17 dX9_entry_18 dX9_entry_21
set_option maxRecDepth 20000 in
set_option maxHeartbeats 1000000 in
theorem jbt_X9_entry_0 {G : q_G} {l : Launch} {k0 z0 : Nat} (hx : G.2.2.2.2.2.2.2 = false) (hl : l.stackTraces = false) (h : q_H) (v0 : Nat) (v1 : Int32) (v2 : Int32) (v3 : Int32) : q_J G l (RX9, cX9_entry, 7, 6, 100, (some .int), "entry", []) k0 z0 (q_ZX G k0 z0) 0 [(0, .ref v0), (1, .int v1), (2, .int v2), (3, .int v3)] [] h (bt_X9_entry_0 h v0 v1 v2 v3) := by
  unfold bt_X9_entry_0
  refine j_iload_n (pc := 0) (p := 1) rfl rfl dX9_entry_0 ?_
  refine j_cSi (pc := 1) Y_X9_isCopy ml_X9_73 sm_X9_isCopy ⟨Nat.le_of_ble_eq_true rfl, Nat.le_of_ble_eq_true rfl⟩ dX9_entry_1 (As := [.int v1]) (rest := []) rfl rfl (Nat.le_of_ble_eq_true rfl) (fun x hq9 => c_X9_isCopy _ _ _ hq9) (fun q1 _ => ?_)
  refine j_if_eq (pc := 4) (tgt := 14) dX9_entry_4 (by decide) (fun _ => ?_) (fun _ => ?_)
  · refine j_sub [] (lv' := []) rfl ?_
    exact jbt_X9_entry_14 hx hl _
  refine j_iload_n (pc := 7) (p := 2) rfl rfl dX9_entry_7 ?_
  refine j_cSi (pc := 8) Y_X9_isFolder ml_X9_76 sm_X9_isFolder ⟨Nat.le_of_ble_eq_true rfl, Nat.le_of_ble_eq_true rfl⟩ dX9_entry_8 (As := [.int v2]) (rest := []) rfl rfl (Nat.le_of_ble_eq_true rfl) (fun x hq9 => c_X9_isFolder _ _ _ hq9) (fun q2 _ => ?_)
  refine j_if_ne (pc := 11) (tgt := 22) dX9_entry_11 (by decide) (fun _ => ?_) (fun _ => ?_)
  · refine j_sub [] (lv' := []) rfl ?_
    exact jbt_X9_entry_14 hx hl _
  refine j_aload_n (pc := 22) (p := 0) rfl rfl dX9_entry_22 ?_
  refine j_getR (pc := 23) FI_X9 (k := 0) (by decide) fl_X9_12 dX9_entry_23 (fun x3 _ => ?_)
  refine j_getR (pc := 26) FI_X8 (k := 0) (by decide) fl_X9_82 dX9_entry_26 (fun x4 _ => ?_)
  refine j_iload_n (pc := 29) (p := 1) rfl rfl dX9_entry_29 ?_
  refine j_aald (pc := 30) (t := 4) rfl dX9_entry_30 (fun x5 _ => ?_)
  refine j_getR (pc := 31) FI_X0 (k := 5) (by decide) fl_X9_86 dX9_entry_31 (fun x6 _ => ?_)
  refine j_astore (pc := 34) (lv' := [(4, .ref x6), (0, .ref v0), (1, .int v1), (2, .int v2), (3, .int v3)]) (by decide) rfl dX9_entry_34 ?_
  refine j_aload (pc := 36) (p := 0) rfl dX9_entry_36 ?_
  refine j_iload_n (pc := 38) (p := 3) rfl rfl dX9_entry_38 ?_
  refine j_cVi (pc := 39) Y_X7_isThere (ci := 6) (b := x6) rfl rfl ml_X9_91 im_X7_isThere se_X7_isThere ⟨Nat.le_of_ble_eq_true rfl, Nat.le_of_ble_eq_true rfl⟩ dX9_entry_39 (As := [.int v2]) (rest := []) rfl rfl (Nat.le_of_ble_eq_true rfl) (fun x hq9 => c_X7_isThere _ _ _ _ hq9) (fun q7 _ => ?_)
  refine j_if_ne (pc := 42) (tgt := 53) dX9_entry_42 (by decide) (fun _ => ?_) (fun _ => ?_)
  · exact j_throw (pc := 45) hx hl rfl rfl ⟨Nat.le_of_ble_eq_true rfl, Nat.le_of_ble_eq_true rfl⟩ dX9_entry_45 dX9_entry_48 dX9_entry_49 dX9_entry_52
  refine j_aload (pc := 53) (p := 0) rfl dX9_entry_53 ?_
  refine j_getR (pc := 55) FI_X7 (k := 0) (by decide) fl_X9_94 dX9_entry_55 (fun x8 _ => ?_)
  refine j_iload_n (pc := 58) (p := 3) rfl rfl dX9_entry_58 ?_
  refine j_lald (pc := 59) dX9_entry_59 (fun x9 _ => ?_)
  refine j_lstore (pc := 60) (lv' := [(5, .long x9), (4, .ref x6), (0, .ref v0), (1, .int v1), (2, .int v2), (3, .int v3)]) (by decide) rfl dX9_entry_60 ?_
  refine j_iload_n (pc := 62) (p := 5) rfl rfl dX9_entry_62 ?_
  refine j_ite (fun c10 => ?_) (fun c10 => ?_)
  · refine j_tsI (pc := 63) (y := 0) (off := 33) (tgt := 96) dX9_entry_63 c10 ⟨by decide, by decide, by decide⟩ (by decide) ?_
    refine j_lload (pc := 96) (p := 0) rfl dX9_entry_96 ?_
    refine j_cSi (pc := 98) Y_X1_parent ml_X9_98 sm_X1_parent ⟨Nat.le_of_ble_eq_true rfl, Nat.le_of_ble_eq_true rfl⟩ dX9_entry_98 (As := [.long x9]) (rest := []) rfl rfl (Nat.le_of_ble_eq_true rfl) (fun x hq9 => c_X1_parent _ _ _ hq9) (fun q11 _ => ?_)
    exact j_none
  refine j_ite (fun c12 => ?_) (fun c12 => ?_)
  · refine j_tsI (pc := 63) (y := 1) (off := 39) (tgt := 102) dX9_entry_63 c12 ⟨by decide, by decide, by decide⟩ (by decide) ?_
    refine j_lload (pc := 102) (p := 0) rfl dX9_entry_102 ?_
    refine j_cSi (pc := 104) Y_X1_name ml_X9_104 sm_X1_name ⟨Nat.le_of_ble_eq_true rfl, Nat.le_of_ble_eq_true rfl⟩ dX9_entry_104 (As := [.long x9]) (rest := []) rfl rfl (Nat.le_of_ble_eq_true rfl) (fun x hq9 => c_X1_name _ _ _ hq9) (fun q13 _ => ?_)
    exact j_none
  refine j_ite (fun c14 => ?_) (fun c14 => ?_)
  · refine j_tsI (pc := 63) (y := 2) (off := 45) (tgt := 108) dX9_entry_63 c14 ⟨by decide, by decide, by decide⟩ (by decide) ?_
    refine j_aload (pc := 108) (p := 1) rfl dX9_entry_108 ?_
    refine j_iload_n (pc := 110) (p := 4) rfl rfl dX9_entry_110 ?_
    refine j_cVi (pc := 111) Y_X7_rankOf (ci := 6) (b := x6) rfl rfl ml_X9_107 im_X7_rankOf se_X7_rankOf ⟨Nat.le_of_ble_eq_true rfl, Nat.le_of_ble_eq_true rfl⟩ dX9_entry_111 (As := [.int v2]) (rest := []) rfl rfl (Nat.le_of_ble_eq_true rfl) (fun x hq9 => c_X7_rankOf _ _ _ _ hq9) (fun q15 _ => ?_)
    exact j_none
  refine j_ite (fun c16 => ?_) (fun c16 => ?_)
  · refine j_tsI (pc := 63) (y := 3) (off := 52) (tgt := 115) dX9_entry_63 c16 ⟨by decide, by decide, by decide⟩ (by decide) ?_
    refine j_lload (pc := 115) (p := 0) rfl dX9_entry_115 ?_
    refine j_cSi (pc := 117) Y_X1_time ml_X9_111 sm_X1_time ⟨Nat.le_of_ble_eq_true rfl, Nat.le_of_ble_eq_true rfl⟩ dX9_entry_117 (As := [.long x9]) (rest := []) rfl rfl (Nat.le_of_ble_eq_true rfl) (fun x hq9 => c_X1_time _ _ _ hq9) (fun q17 _ => ?_)
    exact j_none
  refine j_ite (fun c18 => ?_) (fun c18 => ?_)
  · refine j_tsI (pc := 63) (y := 4) (off := 58) (tgt := 121) dX9_entry_63 c18 ⟨by decide, by decide, by decide⟩ (by decide) ?_
    refine j_lload (pc := 121) (p := 0) rfl dX9_entry_121 ?_
    refine j_cSi (pc := 123) Y_X1_sender ml_X9_114 sm_X1_sender ⟨Nat.le_of_ble_eq_true rfl, Nat.le_of_ble_eq_true rfl⟩ dX9_entry_123 (As := [.long x9]) (rest := []) rfl rfl (Nat.le_of_ble_eq_true rfl) (fun x hq9 => c_X1_sender _ _ _ hq9) (fun q19 _ => ?_)
    exact j_none
  refine j_tsO (pc := 63) (tgt := 127) dX9_entry_63 (by have a_c10 := lv_neT c10 (show ((0 : Int32)).toInt = 0 by decide); have a_c12 := lv_neT c12 (show ((1 : Int32)).toInt = 1 by decide); have a_c14 := lv_neT c14 (show ((2 : Int32)).toInt = 2 by decide); have a_c16 := lv_neT c16 (show ((3 : Int32)).toInt = 3 by decide); have a_c18 := lv_neT c18 (show ((4 : Int32)).toInt = 4 by decide); omega) (by decide) ?_
  exact j_throw (pc := 127) hx hl rfl rfl ⟨Nat.le_of_ble_eq_true rfl, Nat.le_of_ble_eq_true rfl⟩ dX9_entry_127 dX9_entry_130 dX9_entry_131 dX9_entry_134
set_option maxRecDepth 20000 in
set_option maxHeartbeats 1000000 in
theorem ct_X9_entry {G : q_G} {l : Launch} (hx : G.2.2.2.2.2.2.2 = false) (hl : l.stackTraces = false) : ∀ (h : q_H) (a0 : Nat) (a1 : Int32) (a2 : Int32) (a3 : Int32) (q : q_H × Unit), t_X9_entry h a0 a1 a2 a3 = some q → (∃ fs, h.1 a0 = .inr (8, fs)) ∧ q_CX G l yX9_entry cX9_entry 7 (some .int) 6 100 [.ref a0, .int a1, .int a2, .int a3] h q.1 := by
  intro h a0 a1 a2 a3 q e
  obtain ⟨e1, e2⟩ := q_chk_ok e
  exact ⟨e1, q_ofJX Y_X9_entry (Nat.le_of_ble_eq_true rfl) (jbt_X9_entry_0 hx hl h a0 a1 a2 a3) q e2⟩
/-! FarFoldersLaw.entry(LFarFolders;III[J)I -/
theorem dL_entry_0 : decode cL_entry 0 = .ok (.aload 4, 2) := by decide +kernel
theorem dL_entry_2 : decode cL_entry 2 = .ok (.iconst 0, 1) := by decide +kernel
theorem dL_entry_3 : decode cL_entry 3 = .ok (.aload_n 0, 1) := by decide +kernel
theorem dL_entry_4 : decode cL_entry 4 = .ok (.iload_n 1, 1) := by decide +kernel
theorem dL_entry_5 : decode cL_entry 5 = .ok (.iload_n 2, 1) := by decide +kernel
theorem dL_entry_6 : decode cL_entry 6 = .ok (.iload_n 3, 1) := by decide +kernel
theorem dL_entry_7 : decode cL_entry 7 = .ok (.invokevirtual 7, 3) := by decide +kernel
theorem dL_entry_10 : decode cL_entry 10 = .ok (.i2l, 1) := by decide +kernel
theorem dL_entry_11 : decode cL_entry 11 = .ok (.lastore, 1) := by decide +kernel
theorem dL_entry_12 : decode cL_entry 12 = .ok (.goto 7, 3) := by decide +kernel
theorem dL_entry_15 : decode cL_entry 15 = .ok (.astore 5, 2) := by decide +kernel
theorem dL_entry_17 : decode cL_entry 17 = .ok (.iconst 1, 1) := by decide +kernel
theorem dL_entry_18 : decode cL_entry 18 = .ok (.ireturn, 1) := by decide +kernel
theorem dL_entry_19 : decode cL_entry 19 = .ok (.iconst 0, 1) := by decide +kernel
theorem dL_entry_20 : decode cL_entry 20 = .ok (.ireturn, 1) := by decide +kernel
def b_L_entry_0 (h : q_H) (v0 : Nat) (v1 : Int32) (v2 : Int32) (v3 : Int32) (v4 : Nat) : Option (q_H × Int32) :=
  Option.bind (f_X9_entry h v0 v1 v2 v3) (fun q1 => Option.bind (q_sL q1.1 v4 (0) (Int32.toInt64 q1.2)) (fun h2 => some (h2, (0))))
def f_L_entry (h : q_H) (a0 : Nat) (a1 : Int32) (a2 : Int32) (a3 : Int32) (a4 : Nat) : Option (q_H × Int32) := b_L_entry_0 h a0 a1 a2 a3 a4
set_option maxRecDepth 20000 in
set_option maxHeartbeats 1000000 in
theorem jb_L_entry_0 {G : q_G} {l : Launch} {k0 z0 : Nat} (h : q_H) (v0 : Nat) (v1 : Int32) (v2 : Int32) (v3 : Int32) (v4 : Nat) : q_J G l (RL, cL_entry, 6, 7, 126, (some .int), "entry", tableOf hh_L_entry) k0 z0 (q_Z G k0 z0 q_i) 0 [(0, .ref v0), (1, .int v1), (2, .int v2), (3, .int v3), (4, .ref v4)] [] h (b_L_entry_0 h v0 v1 v2 v3 v4) := by
  unfold b_L_entry_0
  refine j_aload (pc := 0) (p := 4) rfl dL_entry_0 ?_
  refine j_iconst (pc := 2) ki_0 dL_entry_2 ?_
  refine j_aload_n (pc := 3) (p := 0) rfl rfl dL_entry_3 ?_
  refine j_iload_n (pc := 4) (p := 1) rfl rfl dL_entry_4 ?_
  refine j_iload_n (pc := 5) (p := 2) rfl rfl dL_entry_5 ?_
  refine j_iload_n (pc := 6) (p := 3) rfl rfl dL_entry_6 ?_
  refine j_cVi (pc := 7) Y_X9_entry (ci := 8) (b := v0) rfl rfl ml_L_7 im_X9_entry se_X9_entry ⟨Nat.le_of_ble_eq_true rfl, Nat.le_of_ble_eq_true rfl⟩ dL_entry_7 (As := [.int v1, .int v2, .int v3]) (rest := [.int (0), .ref v4]) rfl rfl (Nat.le_of_ble_eq_true rfl) (fun x hq9 => c_X9_entry _ _ _ _ _ _ hq9) (fun q1 _ => ?_)
  refine j_i2l (pc := 10) dL_entry_10 ?_
  refine j_last (pc := 11) dL_entry_11 (fun h2 _ => ?_)
  refine j_goto (pc := 12) (tgt := 19) dL_entry_12 (by decide) ?_
  refine j_iconst (pc := 19) ki_0 dL_entry_19 ?_
  exact j_iret (pc := 20) rfl dL_entry_20
set_option maxRecDepth 20000 in
set_option maxHeartbeats 1000000 in
theorem c_L_entry {G : q_G} {l : Launch} : ∀ (h : q_H) (a0 : Nat) (a1 : Int32) (a2 : Int32) (a3 : Int32) (a4 : Nat) (q : q_H × Int32), f_L_entry h a0 a1 a2 a3 a4 = some q → q_CW G l yL_entry cL_entry 6 (some .int) hh_L_entry 7 126 [.ref a0, .int a1, .int a2, .int a3, .ref a4] h q.1 (q_i q.2) := by
  intro h a0 a1 a2 a3 a4 q e
  exact q_ofJW Y_L_entry.2.2.2.2.2 (Nat.le_of_ble_eq_true rfl) (jb_L_entry_0 h a0 a1 a2 a3 a4) q e
set_option maxRecDepth 20000 in
set_option maxHeartbeats 1000000 in
def bt_L_entry_0 (h : q_H) (v0 : Nat) (v1 : Int32) (v2 : Int32) (v3 : Int32) (v4 : Nat) : Option (q_H × Int32) :=
  Option.bind (t_X9_entry h v0 v1 v2 v3) (fun q => some (q.1, (1 : Int32)))
set_option maxRecDepth 20000 in
set_option maxHeartbeats 1000000 in
def t_L_entry (h : q_H) (a0 : Nat) (a1 : Int32) (a2 : Int32) (a3 : Int32) (a4 : Nat) : Option (q_H × Int32) := bt_L_entry_0 h a0 a1 a2 a3 a4
set_option maxRecDepth 20000 in
set_option maxHeartbeats 1000000 in
theorem jbt_L_entry_0 {G : q_G} {l : Launch} {k0 z0 : Nat} (hx : G.2.2.2.2.2.2.2 = false) (hl : l.stackTraces = false) (h : q_H) (v0 : Nat) (v1 : Int32) (v2 : Int32) (v3 : Int32) (v4 : Nat) : q_J G l (RL, cL_entry, 6, 7, 126, (some .int), "entry", tableOf hh_L_entry) k0 z0 (q_Z G k0 z0 q_i) 0 [(0, .ref v0), (1, .int v1), (2, .int v2), (3, .int v3), (4, .ref v4)] [] h (bt_L_entry_0 h v0 v1 v2 v3 v4) := by
  unfold bt_L_entry_0
  refine j_aload (pc := 0) (p := 4) rfl dL_entry_0 ?_
  refine j_iconst (pc := 2) ki_0 dL_entry_2 ?_
  refine j_aload_n (pc := 3) (p := 0) rfl rfl dL_entry_3 ?_
  refine j_iload_n (pc := 4) (p := 1) rfl rfl dL_entry_4 ?_
  refine j_iload_n (pc := 5) (p := 2) rfl rfl dL_entry_5 ?_
  refine j_iload_n (pc := 6) (p := 3) rfl rfl dL_entry_6 ?_
  exact j_cVx (pc := 7) (hh := (0, 12, 15, 13)) (i := 5) Y_X9_entry (ci := 8) (b := v0) rfl rfl ml_L_7 im_X9_entry se_X9_entry ⟨Nat.le_of_ble_eq_true rfl, Nat.le_of_ble_eq_true rfl⟩ dL_entry_7 (As := [.int v1, .int v2, .int v3]) (rest := [.int (0), .ref v4]) rfl rfl (Nat.le_of_ble_eq_true rfl) (fun x hq9 => ct_X9_entry hx hl _ _ _ _ _ _ hq9) rfl (by decide) rfl rfl rfl (Or.inl ⟨dL_entry_15, dL_entry_17, dL_entry_18⟩) (by decide)
set_option maxRecDepth 20000 in
set_option maxHeartbeats 1000000 in
theorem ct_L_entry {G : q_G} {l : Launch} (hx : G.2.2.2.2.2.2.2 = false) (hl : l.stackTraces = false) : ∀ (h : q_H) (a0 : Nat) (a1 : Int32) (a2 : Int32) (a3 : Int32) (a4 : Nat) (q : q_H × Int32), t_L_entry h a0 a1 a2 a3 a4 = some q → q_CW G l yL_entry cL_entry 6 (some .int) hh_L_entry 7 126 [.ref a0, .int a1, .int a2, .int a3, .ref a4] h q.1 (q_i q.2) := by
  intro h a0 a1 a2 a3 a4 q e
  exact q_ofJW Y_L_entry.2.2.2.2.2 (Nat.le_of_ble_eq_true rfl) (jbt_L_entry_0 hx hl h a0 a1 a2 a3 a4) q e
/-! FarFolders.move(III)I -/
theorem dX9_move_0 : decode cX9_move 0 = .ok (.iload_n 1, 1) := by decide +kernel
theorem dX9_move_1 : decode cX9_move 1 = .ok (.invokestatic 73, 3) := by decide +kernel
theorem dX9_move_4 : decode cX9_move 4 = .ok (.ifCond .eq 19, 3) := by decide +kernel
theorem dX9_move_7 : decode cX9_move 7 = .ok (.aload_n 0, 1) := by decide +kernel
theorem dX9_move_8 : decode cX9_move 8 = .ok (.getfield 12, 3) := by decide +kernel
theorem dX9_move_11 : decode cX9_move 11 = .ok (.getfield 82, 3) := by decide +kernel
theorem dX9_move_14 : decode cX9_move 14 = .ok (.iload_n 1, 1) := by decide +kernel
theorem dX9_move_15 : decode cX9_move 15 = .ok (.aaload, 1) := by decide +kernel
theorem dX9_move_16 : decode cX9_move 16 = .ok (.iload_n 2, 1) := by decide +kernel
theorem dX9_move_17 : decode cX9_move 17 = .ok (.invokevirtual 117, 3) := by decide +kernel
theorem dX9_move_20 : decode cX9_move 20 = .ok (.ifCond .ne 11, 3) := by decide +kernel
theorem dX9_move_23 : decode cX9_move 23 = .ok (.new 79, 3) := by decide +kernel
theorem dX9_move_26 : decode cX9_move 26 = .ok (.dup, 1) := by decide +kernel
theorem dX9_move_27 : decode cX9_move 27 = .ok (.invokespecial 81, 3) := by decide +kernel
theorem dX9_move_30 : decode cX9_move 30 = .ok (.athrow, 1) := by decide +kernel
theorem dX9_move_31 : decode cX9_move 31 = .ok (.aload_n 0, 1) := by decide +kernel
theorem dX9_move_32 : decode cX9_move 32 = .ok (.getfield 12, 3) := by decide +kernel
theorem dX9_move_35 : decode cX9_move 35 = .ok (.getfield 82, 3) := by decide +kernel
theorem dX9_move_38 : decode cX9_move 38 = .ok (.iload_n 1, 1) := by decide +kernel
theorem dX9_move_39 : decode cX9_move 39 = .ok (.aaload, 1) := by decide +kernel
theorem dX9_move_40 : decode cX9_move 40 = .ok (.getfield 120, 3) := by decide +kernel
theorem dX9_move_43 : decode cX9_move 43 = .ok (.iload_n 2, 1) := by decide +kernel
theorem dX9_move_44 : decode cX9_move 44 = .ok (.invokevirtual 124, 3) := by decide +kernel
theorem dX9_move_47 : decode cX9_move 47 = .ok (.lstore 4, 2) := by decide +kernel
theorem dX9_move_49 : decode cX9_move 49 = .ok (.iload_n 3, 1) := by decide +kernel
theorem dX9_move_50 : decode cX9_move 50 = .ok (.tableswitch 85 0 5 #[38, 44, 50, 56, 62, 68], 38) := by decide +kernel
theorem dX9_move_88 : decode cX9_move 88 = .ok (.lload 4, 2) := by decide +kernel
theorem dX9_move_90 : decode cX9_move 90 = .ok (.invokestatic 111, 3) := by decide +kernel
theorem dX9_move_93 : decode cX9_move 93 = .ok (.ireturn, 1) := by decide +kernel
theorem dX9_move_94 : decode cX9_move 94 = .ok (.lload 4, 2) := by decide +kernel
theorem dX9_move_96 : decode cX9_move 96 = .ok (.invokestatic 114, 3) := by decide +kernel
theorem dX9_move_99 : decode cX9_move 99 = .ok (.ireturn, 1) := by decide +kernel
theorem dX9_move_100 : decode cX9_move 100 = .ok (.lload 4, 2) := by decide +kernel
theorem dX9_move_102 : decode cX9_move 102 = .ok (.invokestatic 130, 3) := by decide +kernel
theorem dX9_move_105 : decode cX9_move 105 = .ok (.ireturn, 1) := by decide +kernel
theorem dX9_move_106 : decode cX9_move 106 = .ok (.lload 4, 2) := by decide +kernel
theorem dX9_move_108 : decode cX9_move 108 = .ok (.invokestatic 98, 3) := by decide +kernel
theorem dX9_move_111 : decode cX9_move 111 = .ok (.ireturn, 1) := by decide +kernel
theorem dX9_move_112 : decode cX9_move 112 = .ok (.lload 4, 2) := by decide +kernel
theorem dX9_move_114 : decode cX9_move 114 = .ok (.invokestatic 104, 3) := by decide +kernel
theorem dX9_move_117 : decode cX9_move 117 = .ok (.ireturn, 1) := by decide +kernel
theorem dX9_move_118 : decode cX9_move 118 = .ok (.aload_n 0, 1) := by decide +kernel
theorem dX9_move_119 : decode cX9_move 119 = .ok (.getfield 12, 3) := by decide +kernel
theorem dX9_move_122 : decode cX9_move 122 = .ok (.getfield 82, 3) := by decide +kernel
theorem dX9_move_125 : decode cX9_move 125 = .ok (.iload_n 1, 1) := by decide +kernel
theorem dX9_move_126 : decode cX9_move 126 = .ok (.aaload, 1) := by decide +kernel
theorem dX9_move_127 : decode cX9_move 127 = .ok (.getfield 133, 3) := by decide +kernel
theorem dX9_move_130 : decode cX9_move 130 = .ok (.iload_n 2, 1) := by decide +kernel
theorem dX9_move_131 : decode cX9_move 131 = .ok (.iushr, 1) := by decide +kernel
theorem dX9_move_132 : decode cX9_move 132 = .ok (.iconst 1, 1) := by decide +kernel
theorem dX9_move_133 : decode cX9_move 133 = .ok (.iand, 1) := by decide +kernel
theorem dX9_move_134 : decode cX9_move 134 = .ok (.ireturn, 1) := by decide +kernel
theorem dX9_move_135 : decode cX9_move 135 = .ok (.new 79, 3) := by decide +kernel
theorem dX9_move_138 : decode cX9_move 138 = .ok (.dup, 1) := by decide +kernel
theorem dX9_move_139 : decode cX9_move 139 = .ok (.invokespecial 81, 3) := by decide +kernel
theorem dX9_move_142 : decode cX9_move 142 = .ok (.athrow, 1) := by decide +kernel
def b_X9_move_23 (h : q_H) : Option (q_H × Int32) :=
  none
def b_X9_move_0 (h : q_H) (v0 : Nat) (v1 : Int32) (v2 : Int32) (v3 : Int32) : Option (q_H × Int32) :=
  Option.bind (f_X9_isCopy h v1) (fun q1 => if q1.2 = 0 then b_X9_move_23 q1.1 else Option.bind (q_gR 8 0 q1.1 v0) (fun x2 => Option.bind (q_gR 7 0 q1.1 x2) (fun x3 => Option.bind (q_lR 4 q1.1 x3 v1) (fun x4 => Option.bind (f_X0_hasMove q1.1 x4 v2) (fun q5 => if q5.2 = 0 then b_X9_move_23 q5.1 else Option.bind (q_gR 8 0 q5.1 v0) (fun x6 => Option.bind (q_gR 7 0 q5.1 x6) (fun x7 => Option.bind (q_lR 4 q5.1 x7 v1) (fun x8 => Option.bind (q_gR 0 3 q5.1 x8) (fun x9 => Option.bind (f_X5_at q5.1 x9 v2) (fun q10 => if v3 = (0) then Option.bind (f_X1_time q10.1 q10.2) (fun q12 => some (q12.1, q12.2)) else if v3 = (1) then Option.bind (f_X1_sender q10.1 q10.2) (fun q14 => some (q14.1, q14.2)) else if v3 = (2) then Option.bind (f_X1_folder q10.1 q10.2) (fun q16 => some (q16.1, q16.2)) else if v3 = (3) then Option.bind (f_X1_parent q10.1 q10.2) (fun q18 => some (q18.1, q18.2)) else if v3 = (4) then Option.bind (f_X1_name q10.1 q10.2) (fun q20 => some (q20.1, q20.2)) else if v3 = (5) then Option.bind (q_gR 8 0 q10.1 v0) (fun x22 => Option.bind (q_gR 7 0 q10.1 x22) (fun x23 => Option.bind (q_lR 4 q10.1 x23 v1) (fun x24 => Option.bind (q_gI 0 6 q10.1 x24) (fun x25 => some (q10.1, ((q_iushr x25 v2) &&& (1))))))) else none))))))))))
def f_X9_move (h : q_H) (a0 : Nat) (a1 : Int32) (a2 : Int32) (a3 : Int32) : Option (q_H × Int32) := q_chk 8 h a0 (b_X9_move_0 h a0 a1 a2 a3)
set_option maxRecDepth 20000 in
set_option maxHeartbeats 1000000 in
theorem jb_X9_move_23 {G : q_G} {l : Launch} {k0 z0 : Nat} (h : q_H) : q_J G l (RX9, cX9_move, 6, 6, 100, (some .int), "move", []) k0 z0 (q_Z G k0 z0 q_i) 23 [] [] h (b_X9_move_23 h) := by
  unfold b_X9_move_23
  exact j_none
set_option maxRecDepth 20000 in
set_option maxHeartbeats 1000000 in
theorem jb_X9_move_0 {G : q_G} {l : Launch} {k0 z0 : Nat} (h : q_H) (v0 : Nat) (v1 : Int32) (v2 : Int32) (v3 : Int32) : q_J G l (RX9, cX9_move, 6, 6, 100, (some .int), "move", []) k0 z0 (q_Z G k0 z0 q_i) 0 [(0, .ref v0), (1, .int v1), (2, .int v2), (3, .int v3)] [] h (b_X9_move_0 h v0 v1 v2 v3) := by
  unfold b_X9_move_0
  refine j_iload_n (pc := 0) (p := 1) rfl rfl dX9_move_0 ?_
  refine j_cSi (pc := 1) Y_X9_isCopy ml_X9_73 sm_X9_isCopy ⟨Nat.le_of_ble_eq_true rfl, Nat.le_of_ble_eq_true rfl⟩ dX9_move_1 (As := [.int v1]) (rest := []) rfl rfl (Nat.le_of_ble_eq_true rfl) (fun x hq9 => c_X9_isCopy _ _ _ hq9) (fun q1 _ => ?_)
  refine j_if_eq (pc := 4) (tgt := 23) dX9_move_4 (by decide) (fun _ => ?_) (fun _ => ?_)
  · refine j_sub [] (lv' := []) rfl ?_
    exact jb_X9_move_23 _
  refine j_aload_n (pc := 7) (p := 0) rfl rfl dX9_move_7 ?_
  refine j_getR (pc := 8) FI_X9 (k := 0) (by decide) fl_X9_12 dX9_move_8 (fun x2 _ => ?_)
  refine j_getR (pc := 11) FI_X8 (k := 0) (by decide) fl_X9_82 dX9_move_11 (fun x3 _ => ?_)
  refine j_iload_n (pc := 14) (p := 1) rfl rfl dX9_move_14 ?_
  refine j_aald (pc := 15) (t := 4) rfl dX9_move_15 (fun x4 _ => ?_)
  refine j_iload_n (pc := 16) (p := 2) rfl rfl dX9_move_16 ?_
  refine j_cVi (pc := 17) Y_X0_hasMove (ci := 0) (b := x4) rfl rfl ml_X9_117 im_X0_hasMove se_X0_hasMove ⟨Nat.le_of_ble_eq_true rfl, Nat.le_of_ble_eq_true rfl⟩ dX9_move_17 (As := [.int v2]) (rest := []) rfl rfl (Nat.le_of_ble_eq_true rfl) (fun x hq9 => c_X0_hasMove _ _ _ _ hq9) (fun q5 _ => ?_)
  refine j_if_ne (pc := 20) (tgt := 31) dX9_move_20 (by decide) (fun _ => ?_) (fun _ => ?_)
  · refine j_sub [] (lv' := []) rfl ?_
    exact jb_X9_move_23 _
  refine j_aload_n (pc := 31) (p := 0) rfl rfl dX9_move_31 ?_
  refine j_getR (pc := 32) FI_X9 (k := 0) (by decide) fl_X9_12 dX9_move_32 (fun x6 _ => ?_)
  refine j_getR (pc := 35) FI_X8 (k := 0) (by decide) fl_X9_82 dX9_move_35 (fun x7 _ => ?_)
  refine j_iload_n (pc := 38) (p := 1) rfl rfl dX9_move_38 ?_
  refine j_aald (pc := 39) (t := 4) rfl dX9_move_39 (fun x8 _ => ?_)
  refine j_getR (pc := 40) FI_X0 (k := 3) (by decide) fl_X9_120 dX9_move_40 (fun x9 _ => ?_)
  refine j_iload_n (pc := 43) (p := 2) rfl rfl dX9_move_43 ?_
  refine j_cVl (pc := 44) Y_X5_at (ci := 4) (b := x9) rfl rfl ml_X9_124 im_X5_at se_X5_at ⟨Nat.le_of_ble_eq_true rfl, Nat.le_of_ble_eq_true rfl⟩ dX9_move_44 (As := [.int v2]) (rest := []) rfl rfl (Nat.le_of_ble_eq_true rfl) (fun x hq9 => c_X5_at _ _ _ _ hq9) (fun q10 _ => ?_)
  refine j_lstore (pc := 47) (lv' := [(4, .long q10.2), (0, .ref v0), (1, .int v1), (2, .int v2), (3, .int v3)]) (by decide) rfl dX9_move_47 ?_
  refine j_iload_n (pc := 49) (p := 4) rfl rfl dX9_move_49 ?_
  refine j_ite (fun c11 => ?_) (fun c11 => ?_)
  · refine j_tsI (pc := 50) (y := 0) (off := 38) (tgt := 88) dX9_move_50 c11 ⟨by decide, by decide, by decide⟩ (by decide) ?_
    refine j_lload (pc := 88) (p := 0) rfl dX9_move_88 ?_
    refine j_cSi (pc := 90) Y_X1_time ml_X9_111 sm_X1_time ⟨Nat.le_of_ble_eq_true rfl, Nat.le_of_ble_eq_true rfl⟩ dX9_move_90 (As := [.long q10.2]) (rest := []) rfl rfl (Nat.le_of_ble_eq_true rfl) (fun x hq9 => c_X1_time _ _ _ hq9) (fun q12 _ => ?_)
    exact j_iret (pc := 93) rfl dX9_move_93
  refine j_ite (fun c13 => ?_) (fun c13 => ?_)
  · refine j_tsI (pc := 50) (y := 1) (off := 44) (tgt := 94) dX9_move_50 c13 ⟨by decide, by decide, by decide⟩ (by decide) ?_
    refine j_lload (pc := 94) (p := 0) rfl dX9_move_94 ?_
    refine j_cSi (pc := 96) Y_X1_sender ml_X9_114 sm_X1_sender ⟨Nat.le_of_ble_eq_true rfl, Nat.le_of_ble_eq_true rfl⟩ dX9_move_96 (As := [.long q10.2]) (rest := []) rfl rfl (Nat.le_of_ble_eq_true rfl) (fun x hq9 => c_X1_sender _ _ _ hq9) (fun q14 _ => ?_)
    exact j_iret (pc := 99) rfl dX9_move_99
  refine j_ite (fun c15 => ?_) (fun c15 => ?_)
  · refine j_tsI (pc := 50) (y := 2) (off := 50) (tgt := 100) dX9_move_50 c15 ⟨by decide, by decide, by decide⟩ (by decide) ?_
    refine j_lload (pc := 100) (p := 0) rfl dX9_move_100 ?_
    refine j_cSi (pc := 102) Y_X1_folder ml_X9_130 sm_X1_folder ⟨Nat.le_of_ble_eq_true rfl, Nat.le_of_ble_eq_true rfl⟩ dX9_move_102 (As := [.long q10.2]) (rest := []) rfl rfl (Nat.le_of_ble_eq_true rfl) (fun x hq9 => c_X1_folder _ _ _ hq9) (fun q16 _ => ?_)
    exact j_iret (pc := 105) rfl dX9_move_105
  refine j_ite (fun c17 => ?_) (fun c17 => ?_)
  · refine j_tsI (pc := 50) (y := 3) (off := 56) (tgt := 106) dX9_move_50 c17 ⟨by decide, by decide, by decide⟩ (by decide) ?_
    refine j_lload (pc := 106) (p := 0) rfl dX9_move_106 ?_
    refine j_cSi (pc := 108) Y_X1_parent ml_X9_98 sm_X1_parent ⟨Nat.le_of_ble_eq_true rfl, Nat.le_of_ble_eq_true rfl⟩ dX9_move_108 (As := [.long q10.2]) (rest := []) rfl rfl (Nat.le_of_ble_eq_true rfl) (fun x hq9 => c_X1_parent _ _ _ hq9) (fun q18 _ => ?_)
    exact j_iret (pc := 111) rfl dX9_move_111
  refine j_ite (fun c19 => ?_) (fun c19 => ?_)
  · refine j_tsI (pc := 50) (y := 4) (off := 62) (tgt := 112) dX9_move_50 c19 ⟨by decide, by decide, by decide⟩ (by decide) ?_
    refine j_lload (pc := 112) (p := 0) rfl dX9_move_112 ?_
    refine j_cSi (pc := 114) Y_X1_name ml_X9_104 sm_X1_name ⟨Nat.le_of_ble_eq_true rfl, Nat.le_of_ble_eq_true rfl⟩ dX9_move_114 (As := [.long q10.2]) (rest := []) rfl rfl (Nat.le_of_ble_eq_true rfl) (fun x hq9 => c_X1_name _ _ _ hq9) (fun q20 _ => ?_)
    exact j_iret (pc := 117) rfl dX9_move_117
  refine j_ite (fun c21 => ?_) (fun c21 => ?_)
  · refine j_tsI (pc := 50) (y := 5) (off := 68) (tgt := 118) dX9_move_50 c21 ⟨by decide, by decide, by decide⟩ (by decide) ?_
    refine j_aload_n (pc := 118) (p := 1) rfl rfl dX9_move_118 ?_
    refine j_getR (pc := 119) FI_X9 (k := 0) (by decide) fl_X9_12 dX9_move_119 (fun x22 _ => ?_)
    refine j_getR (pc := 122) FI_X8 (k := 0) (by decide) fl_X9_82 dX9_move_122 (fun x23 _ => ?_)
    refine j_iload_n (pc := 125) (p := 2) rfl rfl dX9_move_125 ?_
    refine j_aald (pc := 126) (t := 4) rfl dX9_move_126 (fun x24 _ => ?_)
    refine j_getI (pc := 127) FI_X0 (k := 6) (by decide) fl_X9_133 dX9_move_127 (fun x25 _ => ?_)
    refine j_iload_n (pc := 130) (p := 3) rfl rfl dX9_move_130 ?_
    refine j_iushr (pc := 131) dX9_move_131 ?_
    refine j_iconst (pc := 132) ki_1 dX9_move_132 ?_
    refine j_iand (pc := 133) dX9_move_133 ?_
    exact j_iret (pc := 134) rfl dX9_move_134
  refine j_tsO (pc := 50) (tgt := 135) dX9_move_50 (by have a_c11 := lv_neT c11 (show ((0 : Int32)).toInt = 0 by decide); have a_c13 := lv_neT c13 (show ((1 : Int32)).toInt = 1 by decide); have a_c15 := lv_neT c15 (show ((2 : Int32)).toInt = 2 by decide); have a_c17 := lv_neT c17 (show ((3 : Int32)).toInt = 3 by decide); have a_c19 := lv_neT c19 (show ((4 : Int32)).toInt = 4 by decide); have a_c21 := lv_neT c21 (show ((5 : Int32)).toInt = 5 by decide); omega) (by decide) ?_
  exact j_none
set_option maxRecDepth 20000 in
set_option maxHeartbeats 1000000 in
theorem c_X9_move {G : q_G} {l : Launch} : ∀ (h : q_H) (a0 : Nat) (a1 : Int32) (a2 : Int32) (a3 : Int32) (q : q_H × Int32), f_X9_move h a0 a1 a2 a3 = some q → (∃ fs, h.1 a0 = .inr (8, fs)) ∧ q_CT G l yX9_move cX9_move 6 (some .int) 6 100 [.ref a0, .int a1, .int a2, .int a3] h q.1 (q_i q.2) := by
  intro h a0 a1 a2 a3 q e
  obtain ⟨e1, e2⟩ := q_chk_ok e
  exact ⟨e1, q_ofJ Y_X9_move (Nat.le_of_ble_eq_true rfl) (jb_X9_move_0 h a0 a1 a2 a3) q e2⟩
set_option maxRecDepth 20000 in
set_option maxHeartbeats 1000000 in
def bt_X9_move_23 (h : q_H) : Option (q_H × Unit) :=
  some (q_th h, ())
set_option maxRecDepth 20000 in
set_option maxHeartbeats 1000000 in
def bt_X9_move_0 (h : q_H) (v0 : Nat) (v1 : Int32) (v2 : Int32) (v3 : Int32) : Option (q_H × Unit) :=
  Option.bind (f_X9_isCopy h v1) (fun q1 => if q1.2 = 0 then bt_X9_move_23 q1.1 else Option.bind (q_gR 8 0 q1.1 v0) (fun x2 => Option.bind (q_gR 7 0 q1.1 x2) (fun x3 => Option.bind (q_lR 4 q1.1 x3 v1) (fun x4 => Option.bind (f_X0_hasMove q1.1 x4 v2) (fun q5 => if q5.2 = 0 then bt_X9_move_23 q5.1 else Option.bind (q_gR 8 0 q5.1 v0) (fun x6 => Option.bind (q_gR 7 0 q5.1 x6) (fun x7 => Option.bind (q_lR 4 q5.1 x7 v1) (fun x8 => Option.bind (q_gR 0 3 q5.1 x8) (fun x9 => Option.bind (f_X5_at q5.1 x9 v2) (fun q10 => if v3 = (0) then Option.bind (f_X1_time q10.1 q10.2) (fun q12 => none) else if v3 = (1) then Option.bind (f_X1_sender q10.1 q10.2) (fun q14 => none) else if v3 = (2) then Option.bind (f_X1_folder q10.1 q10.2) (fun q16 => none) else if v3 = (3) then Option.bind (f_X1_parent q10.1 q10.2) (fun q18 => none) else if v3 = (4) then Option.bind (f_X1_name q10.1 q10.2) (fun q20 => none) else if v3 = (5) then Option.bind (q_gR 8 0 q10.1 v0) (fun x22 => Option.bind (q_gR 7 0 q10.1 x22) (fun x23 => Option.bind (q_lR 4 q10.1 x23 v1) (fun x24 => Option.bind (q_gI 0 6 q10.1 x24) (fun x25 => none)))) else some (q_th q10.1, ())))))))))))
set_option maxRecDepth 20000 in
set_option maxHeartbeats 1000000 in
def t_X9_move (h : q_H) (a0 : Nat) (a1 : Int32) (a2 : Int32) (a3 : Int32) : Option (q_H × Unit) := q_chk 8 h a0 (bt_X9_move_0 h a0 a1 a2 a3)
set_option maxRecDepth 20000 in
set_option maxHeartbeats 1000000 in
theorem jbt_X9_move_23 {G : q_G} {l : Launch} {k0 z0 : Nat} (hx : G.2.2.2.2.2.2.2 = false) (hl : l.stackTraces = false) (h : q_H) : q_J G l (RX9, cX9_move, 6, 6, 100, (some .int), "move", []) k0 z0 (q_ZX G k0 z0) 23 [] [] h (bt_X9_move_23 h) := by
  unfold bt_X9_move_23
  exact j_throw (pc := 23) hx hl rfl rfl ⟨Nat.le_of_ble_eq_true rfl, Nat.le_of_ble_eq_true rfl⟩ dX9_move_23 dX9_move_26 dX9_move_27 dX9_move_30
set_option maxRecDepth 20000 in
set_option maxHeartbeats 1000000 in
theorem jbt_X9_move_0 {G : q_G} {l : Launch} {k0 z0 : Nat} (hx : G.2.2.2.2.2.2.2 = false) (hl : l.stackTraces = false) (h : q_H) (v0 : Nat) (v1 : Int32) (v2 : Int32) (v3 : Int32) : q_J G l (RX9, cX9_move, 6, 6, 100, (some .int), "move", []) k0 z0 (q_ZX G k0 z0) 0 [(0, .ref v0), (1, .int v1), (2, .int v2), (3, .int v3)] [] h (bt_X9_move_0 h v0 v1 v2 v3) := by
  unfold bt_X9_move_0
  refine j_iload_n (pc := 0) (p := 1) rfl rfl dX9_move_0 ?_
  refine j_cSi (pc := 1) Y_X9_isCopy ml_X9_73 sm_X9_isCopy ⟨Nat.le_of_ble_eq_true rfl, Nat.le_of_ble_eq_true rfl⟩ dX9_move_1 (As := [.int v1]) (rest := []) rfl rfl (Nat.le_of_ble_eq_true rfl) (fun x hq9 => c_X9_isCopy _ _ _ hq9) (fun q1 _ => ?_)
  refine j_if_eq (pc := 4) (tgt := 23) dX9_move_4 (by decide) (fun _ => ?_) (fun _ => ?_)
  · refine j_sub [] (lv' := []) rfl ?_
    exact jbt_X9_move_23 hx hl _
  refine j_aload_n (pc := 7) (p := 0) rfl rfl dX9_move_7 ?_
  refine j_getR (pc := 8) FI_X9 (k := 0) (by decide) fl_X9_12 dX9_move_8 (fun x2 _ => ?_)
  refine j_getR (pc := 11) FI_X8 (k := 0) (by decide) fl_X9_82 dX9_move_11 (fun x3 _ => ?_)
  refine j_iload_n (pc := 14) (p := 1) rfl rfl dX9_move_14 ?_
  refine j_aald (pc := 15) (t := 4) rfl dX9_move_15 (fun x4 _ => ?_)
  refine j_iload_n (pc := 16) (p := 2) rfl rfl dX9_move_16 ?_
  refine j_cVi (pc := 17) Y_X0_hasMove (ci := 0) (b := x4) rfl rfl ml_X9_117 im_X0_hasMove se_X0_hasMove ⟨Nat.le_of_ble_eq_true rfl, Nat.le_of_ble_eq_true rfl⟩ dX9_move_17 (As := [.int v2]) (rest := []) rfl rfl (Nat.le_of_ble_eq_true rfl) (fun x hq9 => c_X0_hasMove _ _ _ _ hq9) (fun q5 _ => ?_)
  refine j_if_ne (pc := 20) (tgt := 31) dX9_move_20 (by decide) (fun _ => ?_) (fun _ => ?_)
  · refine j_sub [] (lv' := []) rfl ?_
    exact jbt_X9_move_23 hx hl _
  refine j_aload_n (pc := 31) (p := 0) rfl rfl dX9_move_31 ?_
  refine j_getR (pc := 32) FI_X9 (k := 0) (by decide) fl_X9_12 dX9_move_32 (fun x6 _ => ?_)
  refine j_getR (pc := 35) FI_X8 (k := 0) (by decide) fl_X9_82 dX9_move_35 (fun x7 _ => ?_)
  refine j_iload_n (pc := 38) (p := 1) rfl rfl dX9_move_38 ?_
  refine j_aald (pc := 39) (t := 4) rfl dX9_move_39 (fun x8 _ => ?_)
  refine j_getR (pc := 40) FI_X0 (k := 3) (by decide) fl_X9_120 dX9_move_40 (fun x9 _ => ?_)
  refine j_iload_n (pc := 43) (p := 2) rfl rfl dX9_move_43 ?_
  refine j_cVl (pc := 44) Y_X5_at (ci := 4) (b := x9) rfl rfl ml_X9_124 im_X5_at se_X5_at ⟨Nat.le_of_ble_eq_true rfl, Nat.le_of_ble_eq_true rfl⟩ dX9_move_44 (As := [.int v2]) (rest := []) rfl rfl (Nat.le_of_ble_eq_true rfl) (fun x hq9 => c_X5_at _ _ _ _ hq9) (fun q10 _ => ?_)
  refine j_lstore (pc := 47) (lv' := [(4, .long q10.2), (0, .ref v0), (1, .int v1), (2, .int v2), (3, .int v3)]) (by decide) rfl dX9_move_47 ?_
  refine j_iload_n (pc := 49) (p := 4) rfl rfl dX9_move_49 ?_
  refine j_ite (fun c11 => ?_) (fun c11 => ?_)
  · refine j_tsI (pc := 50) (y := 0) (off := 38) (tgt := 88) dX9_move_50 c11 ⟨by decide, by decide, by decide⟩ (by decide) ?_
    refine j_lload (pc := 88) (p := 0) rfl dX9_move_88 ?_
    refine j_cSi (pc := 90) Y_X1_time ml_X9_111 sm_X1_time ⟨Nat.le_of_ble_eq_true rfl, Nat.le_of_ble_eq_true rfl⟩ dX9_move_90 (As := [.long q10.2]) (rest := []) rfl rfl (Nat.le_of_ble_eq_true rfl) (fun x hq9 => c_X1_time _ _ _ hq9) (fun q12 _ => ?_)
    exact j_none
  refine j_ite (fun c13 => ?_) (fun c13 => ?_)
  · refine j_tsI (pc := 50) (y := 1) (off := 44) (tgt := 94) dX9_move_50 c13 ⟨by decide, by decide, by decide⟩ (by decide) ?_
    refine j_lload (pc := 94) (p := 0) rfl dX9_move_94 ?_
    refine j_cSi (pc := 96) Y_X1_sender ml_X9_114 sm_X1_sender ⟨Nat.le_of_ble_eq_true rfl, Nat.le_of_ble_eq_true rfl⟩ dX9_move_96 (As := [.long q10.2]) (rest := []) rfl rfl (Nat.le_of_ble_eq_true rfl) (fun x hq9 => c_X1_sender _ _ _ hq9) (fun q14 _ => ?_)
    exact j_none
  refine j_ite (fun c15 => ?_) (fun c15 => ?_)
  · refine j_tsI (pc := 50) (y := 2) (off := 50) (tgt := 100) dX9_move_50 c15 ⟨by decide, by decide, by decide⟩ (by decide) ?_
    refine j_lload (pc := 100) (p := 0) rfl dX9_move_100 ?_
    refine j_cSi (pc := 102) Y_X1_folder ml_X9_130 sm_X1_folder ⟨Nat.le_of_ble_eq_true rfl, Nat.le_of_ble_eq_true rfl⟩ dX9_move_102 (As := [.long q10.2]) (rest := []) rfl rfl (Nat.le_of_ble_eq_true rfl) (fun x hq9 => c_X1_folder _ _ _ hq9) (fun q16 _ => ?_)
    exact j_none
  refine j_ite (fun c17 => ?_) (fun c17 => ?_)
  · refine j_tsI (pc := 50) (y := 3) (off := 56) (tgt := 106) dX9_move_50 c17 ⟨by decide, by decide, by decide⟩ (by decide) ?_
    refine j_lload (pc := 106) (p := 0) rfl dX9_move_106 ?_
    refine j_cSi (pc := 108) Y_X1_parent ml_X9_98 sm_X1_parent ⟨Nat.le_of_ble_eq_true rfl, Nat.le_of_ble_eq_true rfl⟩ dX9_move_108 (As := [.long q10.2]) (rest := []) rfl rfl (Nat.le_of_ble_eq_true rfl) (fun x hq9 => c_X1_parent _ _ _ hq9) (fun q18 _ => ?_)
    exact j_none
  refine j_ite (fun c19 => ?_) (fun c19 => ?_)
  · refine j_tsI (pc := 50) (y := 4) (off := 62) (tgt := 112) dX9_move_50 c19 ⟨by decide, by decide, by decide⟩ (by decide) ?_
    refine j_lload (pc := 112) (p := 0) rfl dX9_move_112 ?_
    refine j_cSi (pc := 114) Y_X1_name ml_X9_104 sm_X1_name ⟨Nat.le_of_ble_eq_true rfl, Nat.le_of_ble_eq_true rfl⟩ dX9_move_114 (As := [.long q10.2]) (rest := []) rfl rfl (Nat.le_of_ble_eq_true rfl) (fun x hq9 => c_X1_name _ _ _ hq9) (fun q20 _ => ?_)
    exact j_none
  refine j_ite (fun c21 => ?_) (fun c21 => ?_)
  · refine j_tsI (pc := 50) (y := 5) (off := 68) (tgt := 118) dX9_move_50 c21 ⟨by decide, by decide, by decide⟩ (by decide) ?_
    refine j_aload_n (pc := 118) (p := 1) rfl rfl dX9_move_118 ?_
    refine j_getR (pc := 119) FI_X9 (k := 0) (by decide) fl_X9_12 dX9_move_119 (fun x22 _ => ?_)
    refine j_getR (pc := 122) FI_X8 (k := 0) (by decide) fl_X9_82 dX9_move_122 (fun x23 _ => ?_)
    refine j_iload_n (pc := 125) (p := 2) rfl rfl dX9_move_125 ?_
    refine j_aald (pc := 126) (t := 4) rfl dX9_move_126 (fun x24 _ => ?_)
    refine j_getI (pc := 127) FI_X0 (k := 6) (by decide) fl_X9_133 dX9_move_127 (fun x25 _ => ?_)
    refine j_iload_n (pc := 130) (p := 3) rfl rfl dX9_move_130 ?_
    refine j_iushr (pc := 131) dX9_move_131 ?_
    refine j_iconst (pc := 132) ki_1 dX9_move_132 ?_
    refine j_iand (pc := 133) dX9_move_133 ?_
    exact j_none
  refine j_tsO (pc := 50) (tgt := 135) dX9_move_50 (by have a_c11 := lv_neT c11 (show ((0 : Int32)).toInt = 0 by decide); have a_c13 := lv_neT c13 (show ((1 : Int32)).toInt = 1 by decide); have a_c15 := lv_neT c15 (show ((2 : Int32)).toInt = 2 by decide); have a_c17 := lv_neT c17 (show ((3 : Int32)).toInt = 3 by decide); have a_c19 := lv_neT c19 (show ((4 : Int32)).toInt = 4 by decide); have a_c21 := lv_neT c21 (show ((5 : Int32)).toInt = 5 by decide); omega) (by decide) ?_
  exact j_throw (pc := 135) hx hl rfl rfl ⟨Nat.le_of_ble_eq_true rfl, Nat.le_of_ble_eq_true rfl⟩ dX9_move_135 dX9_move_138 dX9_move_139 dX9_move_142
set_option maxRecDepth 20000 in
set_option maxHeartbeats 1000000 in
theorem ct_X9_move {G : q_G} {l : Launch} (hx : G.2.2.2.2.2.2.2 = false) (hl : l.stackTraces = false) : ∀ (h : q_H) (a0 : Nat) (a1 : Int32) (a2 : Int32) (a3 : Int32) (q : q_H × Unit), t_X9_move h a0 a1 a2 a3 = some q → (∃ fs, h.1 a0 = .inr (8, fs)) ∧ q_CX G l yX9_move cX9_move 6 (some .int) 6 100 [.ref a0, .int a1, .int a2, .int a3] h q.1 := by
  intro h a0 a1 a2 a3 q e
  obtain ⟨e1, e2⟩ := q_chk_ok e
  exact ⟨e1, q_ofJX Y_X9_move (Nat.le_of_ble_eq_true rfl) (jbt_X9_move_0 hx hl h a0 a1 a2 a3) q e2⟩
/-! FarFoldersLaw.move(LFarFolders;III[J)I -/
theorem dL_move_0 : decode cL_move 0 = .ok (.aload 4, 2) := by decide +kernel
theorem dL_move_2 : decode cL_move 2 = .ok (.iconst 0, 1) := by decide +kernel
theorem dL_move_3 : decode cL_move 3 = .ok (.aload_n 0, 1) := by decide +kernel
theorem dL_move_4 : decode cL_move 4 = .ok (.iload_n 1, 1) := by decide +kernel
theorem dL_move_5 : decode cL_move 5 = .ok (.iload_n 2, 1) := by decide +kernel
theorem dL_move_6 : decode cL_move 6 = .ok (.iload_n 3, 1) := by decide +kernel
theorem dL_move_7 : decode cL_move 7 = .ok (.invokevirtual 15, 3) := by decide +kernel
theorem dL_move_10 : decode cL_move 10 = .ok (.i2l, 1) := by decide +kernel
theorem dL_move_11 : decode cL_move 11 = .ok (.lastore, 1) := by decide +kernel
theorem dL_move_12 : decode cL_move 12 = .ok (.goto 7, 3) := by decide +kernel
theorem dL_move_15 : decode cL_move 15 = .ok (.astore 5, 2) := by decide +kernel
theorem dL_move_17 : decode cL_move 17 = .ok (.iconst 1, 1) := by decide +kernel
theorem dL_move_18 : decode cL_move 18 = .ok (.ireturn, 1) := by decide +kernel
theorem dL_move_19 : decode cL_move 19 = .ok (.iconst 0, 1) := by decide +kernel
theorem dL_move_20 : decode cL_move 20 = .ok (.ireturn, 1) := by decide +kernel
def b_L_move_0 (h : q_H) (v0 : Nat) (v1 : Int32) (v2 : Int32) (v3 : Int32) (v4 : Nat) : Option (q_H × Int32) :=
  Option.bind (f_X9_move h v0 v1 v2 v3) (fun q1 => Option.bind (q_sL q1.1 v4 (0) (Int32.toInt64 q1.2)) (fun h2 => some (h2, (0))))
def f_L_move (h : q_H) (a0 : Nat) (a1 : Int32) (a2 : Int32) (a3 : Int32) (a4 : Nat) : Option (q_H × Int32) := b_L_move_0 h a0 a1 a2 a3 a4
set_option maxRecDepth 20000 in
set_option maxHeartbeats 1000000 in
theorem jb_L_move_0 {G : q_G} {l : Launch} {k0 z0 : Nat} (h : q_H) (v0 : Nat) (v1 : Int32) (v2 : Int32) (v3 : Int32) (v4 : Nat) : q_J G l (RL, cL_move, 6, 7, 125, (some .int), "move", tableOf hh_L_move) k0 z0 (q_Z G k0 z0 q_i) 0 [(0, .ref v0), (1, .int v1), (2, .int v2), (3, .int v3), (4, .ref v4)] [] h (b_L_move_0 h v0 v1 v2 v3 v4) := by
  unfold b_L_move_0
  refine j_aload (pc := 0) (p := 4) rfl dL_move_0 ?_
  refine j_iconst (pc := 2) ki_0 dL_move_2 ?_
  refine j_aload_n (pc := 3) (p := 0) rfl rfl dL_move_3 ?_
  refine j_iload_n (pc := 4) (p := 1) rfl rfl dL_move_4 ?_
  refine j_iload_n (pc := 5) (p := 2) rfl rfl dL_move_5 ?_
  refine j_iload_n (pc := 6) (p := 3) rfl rfl dL_move_6 ?_
  refine j_cVi (pc := 7) Y_X9_move (ci := 8) (b := v0) rfl rfl ml_L_15 im_X9_move se_X9_move ⟨Nat.le_of_ble_eq_true rfl, Nat.le_of_ble_eq_true rfl⟩ dL_move_7 (As := [.int v1, .int v2, .int v3]) (rest := [.int (0), .ref v4]) rfl rfl (Nat.le_of_ble_eq_true rfl) (fun x hq9 => c_X9_move _ _ _ _ _ _ hq9) (fun q1 _ => ?_)
  refine j_i2l (pc := 10) dL_move_10 ?_
  refine j_last (pc := 11) dL_move_11 (fun h2 _ => ?_)
  refine j_goto (pc := 12) (tgt := 19) dL_move_12 (by decide) ?_
  refine j_iconst (pc := 19) ki_0 dL_move_19 ?_
  exact j_iret (pc := 20) rfl dL_move_20
set_option maxRecDepth 20000 in
set_option maxHeartbeats 1000000 in
theorem c_L_move {G : q_G} {l : Launch} : ∀ (h : q_H) (a0 : Nat) (a1 : Int32) (a2 : Int32) (a3 : Int32) (a4 : Nat) (q : q_H × Int32), f_L_move h a0 a1 a2 a3 a4 = some q → q_CW G l yL_move cL_move 6 (some .int) hh_L_move 7 125 [.ref a0, .int a1, .int a2, .int a3, .ref a4] h q.1 (q_i q.2) := by
  intro h a0 a1 a2 a3 a4 q e
  exact q_ofJW Y_L_move.2.2.2.2.2 (Nat.le_of_ble_eq_true rfl) (jb_L_move_0 h a0 a1 a2 a3 a4) q e
set_option maxRecDepth 20000 in
set_option maxHeartbeats 1000000 in
def bt_L_move_0 (h : q_H) (v0 : Nat) (v1 : Int32) (v2 : Int32) (v3 : Int32) (v4 : Nat) : Option (q_H × Int32) :=
  Option.bind (t_X9_move h v0 v1 v2 v3) (fun q => some (q.1, (1 : Int32)))
set_option maxRecDepth 20000 in
set_option maxHeartbeats 1000000 in
def t_L_move (h : q_H) (a0 : Nat) (a1 : Int32) (a2 : Int32) (a3 : Int32) (a4 : Nat) : Option (q_H × Int32) := bt_L_move_0 h a0 a1 a2 a3 a4
set_option maxRecDepth 20000 in
set_option maxHeartbeats 1000000 in
theorem jbt_L_move_0 {G : q_G} {l : Launch} {k0 z0 : Nat} (hx : G.2.2.2.2.2.2.2 = false) (hl : l.stackTraces = false) (h : q_H) (v0 : Nat) (v1 : Int32) (v2 : Int32) (v3 : Int32) (v4 : Nat) : q_J G l (RL, cL_move, 6, 7, 125, (some .int), "move", tableOf hh_L_move) k0 z0 (q_Z G k0 z0 q_i) 0 [(0, .ref v0), (1, .int v1), (2, .int v2), (3, .int v3), (4, .ref v4)] [] h (bt_L_move_0 h v0 v1 v2 v3 v4) := by
  unfold bt_L_move_0
  refine j_aload (pc := 0) (p := 4) rfl dL_move_0 ?_
  refine j_iconst (pc := 2) ki_0 dL_move_2 ?_
  refine j_aload_n (pc := 3) (p := 0) rfl rfl dL_move_3 ?_
  refine j_iload_n (pc := 4) (p := 1) rfl rfl dL_move_4 ?_
  refine j_iload_n (pc := 5) (p := 2) rfl rfl dL_move_5 ?_
  refine j_iload_n (pc := 6) (p := 3) rfl rfl dL_move_6 ?_
  exact j_cVx (pc := 7) (hh := (0, 12, 15, 13)) (i := 5) Y_X9_move (ci := 8) (b := v0) rfl rfl ml_L_15 im_X9_move se_X9_move ⟨Nat.le_of_ble_eq_true rfl, Nat.le_of_ble_eq_true rfl⟩ dL_move_7 (As := [.int v1, .int v2, .int v3]) (rest := [.int (0), .ref v4]) rfl rfl (Nat.le_of_ble_eq_true rfl) (fun x hq9 => ct_X9_move hx hl _ _ _ _ _ _ hq9) rfl (by decide) rfl rfl rfl (Or.inl ⟨dL_move_15, dL_move_17, dL_move_18⟩) (by decide)
set_option maxRecDepth 20000 in
set_option maxHeartbeats 1000000 in
theorem ct_L_move {G : q_G} {l : Launch} (hx : G.2.2.2.2.2.2.2 = false) (hl : l.stackTraces = false) : ∀ (h : q_H) (a0 : Nat) (a1 : Int32) (a2 : Int32) (a3 : Int32) (a4 : Nat) (q : q_H × Int32), t_L_move h a0 a1 a2 a3 a4 = some q → q_CW G l yL_move cL_move 6 (some .int) hh_L_move 7 125 [.ref a0, .int a1, .int a2, .int a3, .ref a4] h q.1 (q_i q.2) := by
  intro h a0 a1 a2 a3 a4 q e
  exact q_ofJW Y_L_move.2.2.2.2.2 (Nat.le_of_ble_eq_true rfl) (jbt_L_move_0 hx hl h a0 a1 a2 a3 a4) q e
/-! FarFolders.row(I)J -/
theorem dX9_row_0 : decode cX9_row 0 = .ok (.aload_n 0, 1) := by decide +kernel
theorem dX9_row_1 : decode cX9_row 1 = .ok (.getfield 30, 3) := by decide +kernel
theorem dX9_row_4 : decode cX9_row 4 = .ok (.iload_n 1, 1) := by decide +kernel
theorem dX9_row_5 : decode cX9_row 5 = .ok (.invokevirtual 339, 3) := by decide +kernel
theorem dX9_row_8 : decode cX9_row 8 = .ok (.ifCond .ne 11, 3) := by decide +kernel
theorem dX9_row_11 : decode cX9_row 11 = .ok (.new 79, 3) := by decide +kernel
theorem dX9_row_14 : decode cX9_row 14 = .ok (.dup, 1) := by decide +kernel
theorem dX9_row_15 : decode cX9_row 15 = .ok (.invokespecial 81, 3) := by decide +kernel
theorem dX9_row_18 : decode cX9_row 18 = .ok (.athrow, 1) := by decide +kernel
theorem dX9_row_19 : decode cX9_row 19 = .ok (.aload_n 0, 1) := by decide +kernel
theorem dX9_row_20 : decode cX9_row 20 = .ok (.getfield 30, 3) := by decide +kernel
theorem dX9_row_23 : decode cX9_row 23 = .ok (.getfield 342, 3) := by decide +kernel
theorem dX9_row_26 : decode cX9_row 26 = .ok (.iload_n 1, 1) := by decide +kernel
theorem dX9_row_27 : decode cX9_row 27 = .ok (.laload, 1) := by decide +kernel
theorem dX9_row_28 : decode cX9_row 28 = .ok (.lreturn, 1) := by decide +kernel
def b_X9_row_0 (h : q_H) (v0 : Nat) (v1 : Int32) : Option (q_H × Int64) :=
  Option.bind (q_gR 8 4 h v0) (fun x1 => Option.bind (f_X4_has h x1 v1) (fun q2 => if q2.2 = 0 then none else Option.bind (q_gR 8 4 q2.1 v0) (fun x3 => Option.bind (q_gR 3 0 q2.1 x3) (fun x4 => Option.bind (q_lL q2.1 x4 v1) (fun x5 => some (q2.1, x5))))))
def f_X9_row (h : q_H) (a0 : Nat) (a1 : Int32) : Option (q_H × Int64) := q_chk 8 h a0 (b_X9_row_0 h a0 a1)
set_option maxRecDepth 20000 in
set_option maxHeartbeats 1000000 in
theorem jb_X9_row_0 {G : q_G} {l : Launch} {k0 z0 : Nat} (h : q_H) (v0 : Nat) (v1 : Int32) : q_J G l (RX9, cX9_row, 2, 6, 100, (some .long), "row", []) k0 z0 (q_Z G k0 z0 q_l) 0 [(0, .ref v0), (1, .int v1)] [] h (b_X9_row_0 h v0 v1) := by
  unfold b_X9_row_0
  refine j_aload_n (pc := 0) (p := 0) rfl rfl dX9_row_0 ?_
  refine j_getR (pc := 1) FI_X9 (k := 4) (by decide) fl_X9_30 dX9_row_1 (fun x1 _ => ?_)
  refine j_iload_n (pc := 4) (p := 1) rfl rfl dX9_row_4 ?_
  refine j_cVi (pc := 5) Y_X4_has (ci := 3) (b := x1) rfl rfl ml_X9_339 im_X4_has se_X4_has ⟨Nat.le_of_ble_eq_true rfl, Nat.le_of_ble_eq_true rfl⟩ dX9_row_5 (As := [.int v1]) (rest := []) rfl rfl (Nat.le_of_ble_eq_true rfl) (fun x hq9 => c_X4_has _ _ _ _ hq9) (fun q2 _ => ?_)
  refine j_if_ne (pc := 8) (tgt := 19) dX9_row_8 (by decide) (fun _ => ?_) (fun _ => ?_)
  · exact j_none
  refine j_aload_n (pc := 19) (p := 0) rfl rfl dX9_row_19 ?_
  refine j_getR (pc := 20) FI_X9 (k := 4) (by decide) fl_X9_30 dX9_row_20 (fun x3 _ => ?_)
  refine j_getR (pc := 23) FI_X4 (k := 0) (by decide) fl_X9_342 dX9_row_23 (fun x4 _ => ?_)
  refine j_iload_n (pc := 26) (p := 1) rfl rfl dX9_row_26 ?_
  refine j_lald (pc := 27) dX9_row_27 (fun x5 _ => ?_)
  exact j_lret (pc := 28) rfl dX9_row_28
set_option maxRecDepth 20000 in
set_option maxHeartbeats 1000000 in
theorem c_X9_row {G : q_G} {l : Launch} : ∀ (h : q_H) (a0 : Nat) (a1 : Int32) (q : q_H × Int64), f_X9_row h a0 a1 = some q → (∃ fs, h.1 a0 = .inr (8, fs)) ∧ q_CT G l yX9_row cX9_row 2 (some .long) 6 100 [.ref a0, .int a1] h q.1 (q_l q.2) := by
  intro h a0 a1 q e
  obtain ⟨e1, e2⟩ := q_chk_ok e
  exact ⟨e1, q_ofJ Y_X9_row (Nat.le_of_ble_eq_true rfl) (jb_X9_row_0 h a0 a1) q e2⟩
set_option maxRecDepth 20000 in
set_option maxHeartbeats 1000000 in
def bt_X9_row_0 (h : q_H) (v0 : Nat) (v1 : Int32) : Option (q_H × Unit) :=
  Option.bind (q_gR 8 4 h v0) (fun x1 => Option.bind (f_X4_has h x1 v1) (fun q2 => if q2.2 = 0 then some (q_th q2.1, ()) else Option.bind (q_gR 8 4 q2.1 v0) (fun x3 => Option.bind (q_gR 3 0 q2.1 x3) (fun x4 => Option.bind (q_lL q2.1 x4 v1) (fun x5 => none)))))
set_option maxRecDepth 20000 in
set_option maxHeartbeats 1000000 in
def t_X9_row (h : q_H) (a0 : Nat) (a1 : Int32) : Option (q_H × Unit) := q_chk 8 h a0 (bt_X9_row_0 h a0 a1)
set_option maxRecDepth 20000 in
set_option maxHeartbeats 1000000 in
theorem jbt_X9_row_0 {G : q_G} {l : Launch} {k0 z0 : Nat} (hx : G.2.2.2.2.2.2.2 = false) (hl : l.stackTraces = false) (h : q_H) (v0 : Nat) (v1 : Int32) : q_J G l (RX9, cX9_row, 2, 6, 100, (some .long), "row", []) k0 z0 (q_ZX G k0 z0) 0 [(0, .ref v0), (1, .int v1)] [] h (bt_X9_row_0 h v0 v1) := by
  unfold bt_X9_row_0
  refine j_aload_n (pc := 0) (p := 0) rfl rfl dX9_row_0 ?_
  refine j_getR (pc := 1) FI_X9 (k := 4) (by decide) fl_X9_30 dX9_row_1 (fun x1 _ => ?_)
  refine j_iload_n (pc := 4) (p := 1) rfl rfl dX9_row_4 ?_
  refine j_cVi (pc := 5) Y_X4_has (ci := 3) (b := x1) rfl rfl ml_X9_339 im_X4_has se_X4_has ⟨Nat.le_of_ble_eq_true rfl, Nat.le_of_ble_eq_true rfl⟩ dX9_row_5 (As := [.int v1]) (rest := []) rfl rfl (Nat.le_of_ble_eq_true rfl) (fun x hq9 => c_X4_has _ _ _ _ hq9) (fun q2 _ => ?_)
  refine j_if_ne (pc := 8) (tgt := 19) dX9_row_8 (by decide) (fun _ => ?_) (fun _ => ?_)
  · exact j_throw (pc := 11) hx hl rfl rfl ⟨Nat.le_of_ble_eq_true rfl, Nat.le_of_ble_eq_true rfl⟩ dX9_row_11 dX9_row_14 dX9_row_15 dX9_row_18
  refine j_aload_n (pc := 19) (p := 0) rfl rfl dX9_row_19 ?_
  refine j_getR (pc := 20) FI_X9 (k := 4) (by decide) fl_X9_30 dX9_row_20 (fun x3 _ => ?_)
  refine j_getR (pc := 23) FI_X4 (k := 0) (by decide) fl_X9_342 dX9_row_23 (fun x4 _ => ?_)
  refine j_iload_n (pc := 26) (p := 1) rfl rfl dX9_row_26 ?_
  refine j_lald (pc := 27) dX9_row_27 (fun x5 _ => ?_)
  exact j_none
set_option maxRecDepth 20000 in
set_option maxHeartbeats 1000000 in
theorem ct_X9_row {G : q_G} {l : Launch} (hx : G.2.2.2.2.2.2.2 = false) (hl : l.stackTraces = false) : ∀ (h : q_H) (a0 : Nat) (a1 : Int32) (q : q_H × Unit), t_X9_row h a0 a1 = some q → (∃ fs, h.1 a0 = .inr (8, fs)) ∧ q_CX G l yX9_row cX9_row 2 (some .long) 6 100 [.ref a0, .int a1] h q.1 := by
  intro h a0 a1 q e
  obtain ⟨e1, e2⟩ := q_chk_ok e
  exact ⟨e1, q_ofJX Y_X9_row (Nat.le_of_ble_eq_true rfl) (jbt_X9_row_0 hx hl h a0 a1) q e2⟩
/-! FarFoldersLaw.row(LFarFolders;I[J)I -/
theorem dL_row_0 : decode cL_row 0 = .ok (.aload_n 2, 1) := by decide +kernel
theorem dL_row_1 : decode cL_row 1 = .ok (.iconst 0, 1) := by decide +kernel
theorem dL_row_2 : decode cL_row 2 = .ok (.aload_n 0, 1) := by decide +kernel
theorem dL_row_3 : decode cL_row 3 = .ok (.iload_n 1, 1) := by decide +kernel
theorem dL_row_4 : decode cL_row 4 = .ok (.invokevirtual 18, 3) := by decide +kernel
theorem dL_row_7 : decode cL_row 7 = .ok (.lastore, 1) := by decide +kernel
theorem dL_row_8 : decode cL_row 8 = .ok (.goto 6, 3) := by decide +kernel
theorem dL_row_11 : decode cL_row 11 = .ok (.astore_n 3, 1) := by decide +kernel
theorem dL_row_12 : decode cL_row 12 = .ok (.iconst 1, 1) := by decide +kernel
theorem dL_row_13 : decode cL_row 13 = .ok (.ireturn, 1) := by decide +kernel
theorem dL_row_14 : decode cL_row 14 = .ok (.iconst 0, 1) := by decide +kernel
theorem dL_row_15 : decode cL_row 15 = .ok (.ireturn, 1) := by decide +kernel
def b_L_row_0 (h : q_H) (v0 : Nat) (v1 : Int32) (v2 : Nat) : Option (q_H × Int32) :=
  Option.bind (f_X9_row h v0 v1) (fun q1 => Option.bind (q_sL q1.1 v2 (0) q1.2) (fun h2 => some (h2, (0))))
def f_L_row (h : q_H) (a0 : Nat) (a1 : Int32) (a2 : Nat) : Option (q_H × Int32) := b_L_row_0 h a0 a1 a2
set_option maxRecDepth 20000 in
set_option maxHeartbeats 1000000 in
theorem jb_L_row_0 {G : q_G} {l : Launch} {k0 z0 : Nat} (h : q_H) (v0 : Nat) (v1 : Int32) (v2 : Nat) : q_J G l (RL, cL_row, 4, 7, 121, (some .int), "row", tableOf hh_L_row) k0 z0 (q_Z G k0 z0 q_i) 0 [(0, .ref v0), (1, .int v1), (2, .ref v2)] [] h (b_L_row_0 h v0 v1 v2) := by
  unfold b_L_row_0
  refine j_aload_n (pc := 0) (p := 2) rfl rfl dL_row_0 ?_
  refine j_iconst (pc := 1) ki_0 dL_row_1 ?_
  refine j_aload_n (pc := 2) (p := 0) rfl rfl dL_row_2 ?_
  refine j_iload_n (pc := 3) (p := 1) rfl rfl dL_row_3 ?_
  refine j_cVl (pc := 4) Y_X9_row (ci := 8) (b := v0) rfl rfl ml_L_18 im_X9_row se_X9_row ⟨Nat.le_of_ble_eq_true rfl, Nat.le_of_ble_eq_true rfl⟩ dL_row_4 (As := [.int v1]) (rest := [.int (0), .ref v2]) rfl rfl (Nat.le_of_ble_eq_true rfl) (fun x hq9 => c_X9_row _ _ _ _ hq9) (fun q1 _ => ?_)
  refine j_last (pc := 7) dL_row_7 (fun h2 _ => ?_)
  refine j_goto (pc := 8) (tgt := 14) dL_row_8 (by decide) ?_
  refine j_iconst (pc := 14) ki_0 dL_row_14 ?_
  exact j_iret (pc := 15) rfl dL_row_15
set_option maxRecDepth 20000 in
set_option maxHeartbeats 1000000 in
theorem c_L_row {G : q_G} {l : Launch} : ∀ (h : q_H) (a0 : Nat) (a1 : Int32) (a2 : Nat) (q : q_H × Int32), f_L_row h a0 a1 a2 = some q → q_CW G l yL_row cL_row 4 (some .int) hh_L_row 7 121 [.ref a0, .int a1, .ref a2] h q.1 (q_i q.2) := by
  intro h a0 a1 a2 q e
  exact q_ofJW Y_L_row.2.2.2.2.2 (Nat.le_of_ble_eq_true rfl) (jb_L_row_0 h a0 a1 a2) q e
set_option maxRecDepth 20000 in
set_option maxHeartbeats 1000000 in
def bt_L_row_0 (h : q_H) (v0 : Nat) (v1 : Int32) (v2 : Nat) : Option (q_H × Int32) :=
  Option.bind (t_X9_row h v0 v1) (fun q => some (q.1, (1 : Int32)))
set_option maxRecDepth 20000 in
set_option maxHeartbeats 1000000 in
def t_L_row (h : q_H) (a0 : Nat) (a1 : Int32) (a2 : Nat) : Option (q_H × Int32) := bt_L_row_0 h a0 a1 a2
set_option maxRecDepth 20000 in
set_option maxHeartbeats 1000000 in
theorem jbt_L_row_0 {G : q_G} {l : Launch} {k0 z0 : Nat} (hx : G.2.2.2.2.2.2.2 = false) (hl : l.stackTraces = false) (h : q_H) (v0 : Nat) (v1 : Int32) (v2 : Nat) : q_J G l (RL, cL_row, 4, 7, 121, (some .int), "row", tableOf hh_L_row) k0 z0 (q_Z G k0 z0 q_i) 0 [(0, .ref v0), (1, .int v1), (2, .ref v2)] [] h (bt_L_row_0 h v0 v1 v2) := by
  unfold bt_L_row_0
  refine j_aload_n (pc := 0) (p := 2) rfl rfl dL_row_0 ?_
  refine j_iconst (pc := 1) ki_0 dL_row_1 ?_
  refine j_aload_n (pc := 2) (p := 0) rfl rfl dL_row_2 ?_
  refine j_iload_n (pc := 3) (p := 1) rfl rfl dL_row_3 ?_
  exact j_cVx (pc := 4) (hh := (0, 8, 11, 13)) (i := 3) Y_X9_row (ci := 8) (b := v0) rfl rfl ml_L_18 im_X9_row se_X9_row ⟨Nat.le_of_ble_eq_true rfl, Nat.le_of_ble_eq_true rfl⟩ dL_row_4 (As := [.int v1]) (rest := [.int (0), .ref v2]) rfl rfl (Nat.le_of_ble_eq_true rfl) (fun x hq9 => ct_X9_row hx hl _ _ _ _ hq9) rfl (by decide) rfl rfl rfl (Or.inr ⟨⟨3, rfl, dL_row_11⟩, dL_row_12, dL_row_13⟩) (by decide)
set_option maxRecDepth 20000 in
set_option maxHeartbeats 1000000 in
theorem ct_L_row {G : q_G} {l : Launch} (hx : G.2.2.2.2.2.2.2 = false) (hl : l.stackTraces = false) : ∀ (h : q_H) (a0 : Nat) (a1 : Int32) (a2 : Nat) (q : q_H × Int32), t_L_row h a0 a1 a2 = some q → q_CW G l yL_row cL_row 4 (some .int) hh_L_row 7 121 [.ref a0, .int a1, .ref a2] h q.1 (q_i q.2) := by
  intro h a0 a1 a2 q e
  exact q_ofJW Y_L_row.2.2.2.2.2 (Nat.le_of_ble_eq_true rfl) (jbt_L_row_0 hx hl h a0 a1 a2) q e
