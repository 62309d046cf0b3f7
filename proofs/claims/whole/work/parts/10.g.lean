/-! java/lang/Integer.bitCount(I)I -/
theorem dJ6_bitCount_0f7a4_0 : decode cJ6_bitCount_0f7a4 0 = .ok (.iload_n 0, 1) := by decide +kernel
theorem dJ6_bitCount_0f7a4_1 : decode cJ6_bitCount_0f7a4 1 = .ok (.iload_n 0, 1) := by decide +kernel
theorem dJ6_bitCount_0f7a4_2 : decode cJ6_bitCount_0f7a4 2 = .ok (.iconst 1, 1) := by decide +kernel
theorem dJ6_bitCount_0f7a4_3 : decode cJ6_bitCount_0f7a4 3 = .ok (.iushr, 1) := by decide +kernel
theorem dJ6_bitCount_0f7a4_4 : decode cJ6_bitCount_0f7a4 4 = .ok (.ldc_w 265, 3) := by decide +kernel
theorem dJ6_bitCount_0f7a4_7 : decode cJ6_bitCount_0f7a4 7 = .ok (.iand, 1) := by decide +kernel
theorem dJ6_bitCount_0f7a4_8 : decode cJ6_bitCount_0f7a4 8 = .ok (.isub, 1) := by decide +kernel
theorem dJ6_bitCount_0f7a4_9 : decode cJ6_bitCount_0f7a4 9 = .ok (.istore_n 0, 1) := by decide +kernel
theorem dJ6_bitCount_0f7a4_10 : decode cJ6_bitCount_0f7a4 10 = .ok (.iload_n 0, 1) := by decide +kernel
theorem dJ6_bitCount_0f7a4_11 : decode cJ6_bitCount_0f7a4 11 = .ok (.ldc_w 266, 3) := by decide +kernel
theorem dJ6_bitCount_0f7a4_14 : decode cJ6_bitCount_0f7a4 14 = .ok (.iand, 1) := by decide +kernel
theorem dJ6_bitCount_0f7a4_15 : decode cJ6_bitCount_0f7a4 15 = .ok (.iload_n 0, 1) := by decide +kernel
theorem dJ6_bitCount_0f7a4_16 : decode cJ6_bitCount_0f7a4 16 = .ok (.iconst 2, 1) := by decide +kernel
theorem dJ6_bitCount_0f7a4_17 : decode cJ6_bitCount_0f7a4 17 = .ok (.iushr, 1) := by decide +kernel
theorem dJ6_bitCount_0f7a4_18 : decode cJ6_bitCount_0f7a4 18 = .ok (.ldc_w 266, 3) := by decide +kernel
theorem dJ6_bitCount_0f7a4_21 : decode cJ6_bitCount_0f7a4 21 = .ok (.iand, 1) := by decide +kernel
theorem dJ6_bitCount_0f7a4_22 : decode cJ6_bitCount_0f7a4 22 = .ok (.iadd, 1) := by decide +kernel
theorem dJ6_bitCount_0f7a4_23 : decode cJ6_bitCount_0f7a4 23 = .ok (.istore_n 0, 1) := by decide +kernel
theorem dJ6_bitCount_0f7a4_24 : decode cJ6_bitCount_0f7a4 24 = .ok (.iload_n 0, 1) := by decide +kernel
theorem dJ6_bitCount_0f7a4_25 : decode cJ6_bitCount_0f7a4 25 = .ok (.iload_n 0, 1) := by decide +kernel
theorem dJ6_bitCount_0f7a4_26 : decode cJ6_bitCount_0f7a4 26 = .ok (.iconst 4, 1) := by decide +kernel
theorem dJ6_bitCount_0f7a4_27 : decode cJ6_bitCount_0f7a4 27 = .ok (.iushr, 1) := by decide +kernel
theorem dJ6_bitCount_0f7a4_28 : decode cJ6_bitCount_0f7a4 28 = .ok (.iadd, 1) := by decide +kernel
theorem dJ6_bitCount_0f7a4_29 : decode cJ6_bitCount_0f7a4 29 = .ok (.ldc_w 267, 3) := by decide +kernel
theorem dJ6_bitCount_0f7a4_32 : decode cJ6_bitCount_0f7a4 32 = .ok (.iand, 1) := by decide +kernel
theorem dJ6_bitCount_0f7a4_33 : decode cJ6_bitCount_0f7a4 33 = .ok (.istore_n 0, 1) := by decide +kernel
theorem dJ6_bitCount_0f7a4_34 : decode cJ6_bitCount_0f7a4 34 = .ok (.iload_n 0, 1) := by decide +kernel
theorem dJ6_bitCount_0f7a4_35 : decode cJ6_bitCount_0f7a4 35 = .ok (.iload_n 0, 1) := by decide +kernel
theorem dJ6_bitCount_0f7a4_36 : decode cJ6_bitCount_0f7a4 36 = .ok (.bipush 8, 2) := by decide +kernel
theorem dJ6_bitCount_0f7a4_38 : decode cJ6_bitCount_0f7a4 38 = .ok (.iushr, 1) := by decide +kernel
theorem dJ6_bitCount_0f7a4_39 : decode cJ6_bitCount_0f7a4 39 = .ok (.iadd, 1) := by decide +kernel
theorem dJ6_bitCount_0f7a4_40 : decode cJ6_bitCount_0f7a4 40 = .ok (.istore_n 0, 1) := by decide +kernel
theorem dJ6_bitCount_0f7a4_41 : decode cJ6_bitCount_0f7a4 41 = .ok (.iload_n 0, 1) := by decide +kernel
theorem dJ6_bitCount_0f7a4_42 : decode cJ6_bitCount_0f7a4 42 = .ok (.iload_n 0, 1) := by decide +kernel
theorem dJ6_bitCount_0f7a4_43 : decode cJ6_bitCount_0f7a4 43 = .ok (.bipush 16, 2) := by decide +kernel
theorem dJ6_bitCount_0f7a4_45 : decode cJ6_bitCount_0f7a4 45 = .ok (.iushr, 1) := by decide +kernel
theorem dJ6_bitCount_0f7a4_46 : decode cJ6_bitCount_0f7a4 46 = .ok (.iadd, 1) := by decide +kernel
theorem dJ6_bitCount_0f7a4_47 : decode cJ6_bitCount_0f7a4 47 = .ok (.istore_n 0, 1) := by decide +kernel
theorem dJ6_bitCount_0f7a4_48 : decode cJ6_bitCount_0f7a4 48 = .ok (.iload_n 0, 1) := by decide +kernel
theorem dJ6_bitCount_0f7a4_49 : decode cJ6_bitCount_0f7a4 49 = .ok (.bipush 63, 2) := by decide +kernel
theorem dJ6_bitCount_0f7a4_51 : decode cJ6_bitCount_0f7a4 51 = .ok (.iand, 1) := by decide +kernel
theorem dJ6_bitCount_0f7a4_52 : decode cJ6_bitCount_0f7a4 52 = .ok (.ireturn, 1) := by decide +kernel
def b_J6_bitCount_0f7a4_0 (h : q_H) (v0 : Int32) : Option (q_H × Int32) :=
  some (h, ((((((((v0 - ((q_iushr v0 (1)) &&& (1431655765))) &&& (858993459)) + ((q_iushr (v0 - ((q_iushr v0 (1)) &&& (1431655765))) (2)) &&& (858993459))) + (q_iushr (((v0 - ((q_iushr v0 (1)) &&& (1431655765))) &&& (858993459)) + ((q_iushr (v0 - ((q_iushr v0 (1)) &&& (1431655765))) (2)) &&& (858993459))) (4))) &&& (252645135)) + (q_iushr (((((v0 - ((q_iushr v0 (1)) &&& (1431655765))) &&& (858993459)) + ((q_iushr (v0 - ((q_iushr v0 (1)) &&& (1431655765))) (2)) &&& (858993459))) + (q_iushr (((v0 - ((q_iushr v0 (1)) &&& (1431655765))) &&& (858993459)) + ((q_iushr (v0 - ((q_iushr v0 (1)) &&& (1431655765))) (2)) &&& (858993459))) (4))) &&& (252645135)) (8))) + (q_iushr ((((((v0 - ((q_iushr v0 (1)) &&& (1431655765))) &&& (858993459)) + ((q_iushr (v0 - ((q_iushr v0 (1)) &&& (1431655765))) (2)) &&& (858993459))) + (q_iushr (((v0 - ((q_iushr v0 (1)) &&& (1431655765))) &&& (858993459)) + ((q_iushr (v0 - ((q_iushr v0 (1)) &&& (1431655765))) (2)) &&& (858993459))) (4))) &&& (252645135)) + (q_iushr (((((v0 - ((q_iushr v0 (1)) &&& (1431655765))) &&& (858993459)) + ((q_iushr (v0 - ((q_iushr v0 (1)) &&& (1431655765))) (2)) &&& (858993459))) + (q_iushr (((v0 - ((q_iushr v0 (1)) &&& (1431655765))) &&& (858993459)) + ((q_iushr (v0 - ((q_iushr v0 (1)) &&& (1431655765))) (2)) &&& (858993459))) (4))) &&& (252645135)) (8))) (16))) &&& (63)))
def f_J6_bitCount_0f7a4 (h : q_H) (a0 : Int32) : Option (q_H × Int32) := b_J6_bitCount_0f7a4_0 h a0
set_option maxRecDepth 20000 in
set_option maxHeartbeats 1000000 in
theorem jb_J6_bitCount_0f7a4_0 {G : q_G} {l : Launch} {k0 z0 : Nat} (h : q_H) (v0 : Int32) : q_J G l (RJ6, cJ6_bitCount_0f7a4, 1, 0, 0, (some .int), "bitCount", []) k0 z0 (q_Z G k0 z0 q_i) 0 [(0, .int v0)] [] h (b_J6_bitCount_0f7a4_0 h v0) := by
  unfold b_J6_bitCount_0f7a4_0
  refine j_iload_n (pc := 0) (p := 0) rfl rfl dJ6_bitCount_0f7a4_0 ?_
  refine j_iload_n (pc := 1) (p := 0) rfl rfl dJ6_bitCount_0f7a4_1 ?_
  refine j_iconst (pc := 2) ki_1 dJ6_bitCount_0f7a4_2 ?_
  refine j_iushr (pc := 3) dJ6_bitCount_0f7a4_3 ?_
  refine j_ldcw (pc := 4) ct_J6_265 dJ6_bitCount_0f7a4_4 ?_
  refine j_iand (pc := 7) dJ6_bitCount_0f7a4_7 ?_
  refine j_isub (pc := 8) dJ6_bitCount_0f7a4_8 ?_
  refine j_istore_n (pc := 9) (lv' := [(0, .int (v0 - ((q_iushr v0 (1)) &&& (1431655765))))]) rfl (by decide) rfl dJ6_bitCount_0f7a4_9 ?_
  refine j_iload_n (pc := 10) (p := 0) rfl rfl dJ6_bitCount_0f7a4_10 ?_
  refine j_ldcw (pc := 11) ct_J6_266 dJ6_bitCount_0f7a4_11 ?_
  refine j_iand (pc := 14) dJ6_bitCount_0f7a4_14 ?_
  refine j_iload_n (pc := 15) (p := 0) rfl rfl dJ6_bitCount_0f7a4_15 ?_
  refine j_iconst (pc := 16) ki_2 dJ6_bitCount_0f7a4_16 ?_
  refine j_iushr (pc := 17) dJ6_bitCount_0f7a4_17 ?_
  refine j_ldcw (pc := 18) ct_J6_266 dJ6_bitCount_0f7a4_18 ?_
  refine j_iand (pc := 21) dJ6_bitCount_0f7a4_21 ?_
  refine j_iadd (pc := 22) dJ6_bitCount_0f7a4_22 ?_
  refine j_istore_n (pc := 23) (lv' := [(0, .int (((v0 - ((q_iushr v0 (1)) &&& (1431655765))) &&& (858993459)) + ((q_iushr (v0 - ((q_iushr v0 (1)) &&& (1431655765))) (2)) &&& (858993459))))]) rfl (by decide) rfl dJ6_bitCount_0f7a4_23 ?_
  refine j_iload_n (pc := 24) (p := 0) rfl rfl dJ6_bitCount_0f7a4_24 ?_
  refine j_iload_n (pc := 25) (p := 0) rfl rfl dJ6_bitCount_0f7a4_25 ?_
  refine j_iconst (pc := 26) ki_4 dJ6_bitCount_0f7a4_26 ?_
  refine j_iushr (pc := 27) dJ6_bitCount_0f7a4_27 ?_
  refine j_iadd (pc := 28) dJ6_bitCount_0f7a4_28 ?_
  refine j_ldcw (pc := 29) ct_J6_267 dJ6_bitCount_0f7a4_29 ?_
  refine j_iand (pc := 32) dJ6_bitCount_0f7a4_32 ?_
  refine j_istore_n (pc := 33) (lv' := [(0, .int (((((v0 - ((q_iushr v0 (1)) &&& (1431655765))) &&& (858993459)) + ((q_iushr (v0 - ((q_iushr v0 (1)) &&& (1431655765))) (2)) &&& (858993459))) + (q_iushr (((v0 - ((q_iushr v0 (1)) &&& (1431655765))) &&& (858993459)) + ((q_iushr (v0 - ((q_iushr v0 (1)) &&& (1431655765))) (2)) &&& (858993459))) (4))) &&& (252645135)))]) rfl (by decide) rfl dJ6_bitCount_0f7a4_33 ?_
  refine j_iload_n (pc := 34) (p := 0) rfl rfl dJ6_bitCount_0f7a4_34 ?_
  refine j_iload_n (pc := 35) (p := 0) rfl rfl dJ6_bitCount_0f7a4_35 ?_
  refine j_bipush (pc := 36) kb_8 dJ6_bitCount_0f7a4_36 ?_
  refine j_iushr (pc := 38) dJ6_bitCount_0f7a4_38 ?_
  refine j_iadd (pc := 39) dJ6_bitCount_0f7a4_39 ?_
  refine j_istore_n (pc := 40) (lv' := [(0, .int ((((((v0 - ((q_iushr v0 (1)) &&& (1431655765))) &&& (858993459)) + ((q_iushr (v0 - ((q_iushr v0 (1)) &&& (1431655765))) (2)) &&& (858993459))) + (q_iushr (((v0 - ((q_iushr v0 (1)) &&& (1431655765))) &&& (858993459)) + ((q_iushr (v0 - ((q_iushr v0 (1)) &&& (1431655765))) (2)) &&& (858993459))) (4))) &&& (252645135)) + (q_iushr (((((v0 - ((q_iushr v0 (1)) &&& (1431655765))) &&& (858993459)) + ((q_iushr (v0 - ((q_iushr v0 (1)) &&& (1431655765))) (2)) &&& (858993459))) + (q_iushr (((v0 - ((q_iushr v0 (1)) &&& (1431655765))) &&& (858993459)) + ((q_iushr (v0 - ((q_iushr v0 (1)) &&& (1431655765))) (2)) &&& (858993459))) (4))) &&& (252645135)) (8))))]) rfl (by decide) rfl dJ6_bitCount_0f7a4_40 ?_
  refine j_iload_n (pc := 41) (p := 0) rfl rfl dJ6_bitCount_0f7a4_41 ?_
  refine j_iload_n (pc := 42) (p := 0) rfl rfl dJ6_bitCount_0f7a4_42 ?_
  refine j_bipush (pc := 43) kb_16 dJ6_bitCount_0f7a4_43 ?_
  refine j_iushr (pc := 45) dJ6_bitCount_0f7a4_45 ?_
  refine j_iadd (pc := 46) dJ6_bitCount_0f7a4_46 ?_
  refine j_istore_n (pc := 47) (lv' := [(0, .int (((((((v0 - ((q_iushr v0 (1)) &&& (1431655765))) &&& (858993459)) + ((q_iushr (v0 - ((q_iushr v0 (1)) &&& (1431655765))) (2)) &&& (858993459))) + (q_iushr (((v0 - ((q_iushr v0 (1)) &&& (1431655765))) &&& (858993459)) + ((q_iushr (v0 - ((q_iushr v0 (1)) &&& (1431655765))) (2)) &&& (858993459))) (4))) &&& (252645135)) + (q_iushr (((((v0 - ((q_iushr v0 (1)) &&& (1431655765))) &&& (858993459)) + ((q_iushr (v0 - ((q_iushr v0 (1)) &&& (1431655765))) (2)) &&& (858993459))) + (q_iushr (((v0 - ((q_iushr v0 (1)) &&& (1431655765))) &&& (858993459)) + ((q_iushr (v0 - ((q_iushr v0 (1)) &&& (1431655765))) (2)) &&& (858993459))) (4))) &&& (252645135)) (8))) + (q_iushr ((((((v0 - ((q_iushr v0 (1)) &&& (1431655765))) &&& (858993459)) + ((q_iushr (v0 - ((q_iushr v0 (1)) &&& (1431655765))) (2)) &&& (858993459))) + (q_iushr (((v0 - ((q_iushr v0 (1)) &&& (1431655765))) &&& (858993459)) + ((q_iushr (v0 - ((q_iushr v0 (1)) &&& (1431655765))) (2)) &&& (858993459))) (4))) &&& (252645135)) + (q_iushr (((((v0 - ((q_iushr v0 (1)) &&& (1431655765))) &&& (858993459)) + ((q_iushr (v0 - ((q_iushr v0 (1)) &&& (1431655765))) (2)) &&& (858993459))) + (q_iushr (((v0 - ((q_iushr v0 (1)) &&& (1431655765))) &&& (858993459)) + ((q_iushr (v0 - ((q_iushr v0 (1)) &&& (1431655765))) (2)) &&& (858993459))) (4))) &&& (252645135)) (8))) (16))))]) rfl (by decide) rfl dJ6_bitCount_0f7a4_47 ?_
  refine j_iload_n (pc := 48) (p := 0) rfl rfl dJ6_bitCount_0f7a4_48 ?_
  refine j_bipush (pc := 49) kb_63 dJ6_bitCount_0f7a4_49 ?_
  refine j_iand (pc := 51) dJ6_bitCount_0f7a4_51 ?_
  exact j_iret (pc := 52) rfl dJ6_bitCount_0f7a4_52
set_option maxRecDepth 20000 in
set_option maxHeartbeats 1000000 in
theorem c_J6_bitCount_0f7a4 {G : q_G} {l : Launch} : ∀ (h : q_H) (a0 : Int32) (q : q_H × Int32), f_J6_bitCount_0f7a4 h a0 = some q → q_CT G l yJ6_bitCount_0f7a4 cJ6_bitCount_0f7a4 1 (some .int) 0 0 [.int a0] h q.1 (q_i q.2) := by
  intro h a0 q e
  exact q_ofJ Y_J6_bitCount_0f7a4 (Nat.le_of_ble_eq_true rfl) (jb_J6_bitCount_0f7a4_0 h a0) q e
/-! FarFolders.isCopy(I)Z -/
theorem dX9_isCopy_0 : decode cX9_isCopy 0 = .ok (.iload_n 0, 1) := by decide +kernel
theorem dX9_isCopy_1 : decode cX9_isCopy 1 = .ok (.ifCond .lt 12, 3) := by decide +kernel
theorem dX9_isCopy_4 : decode cX9_isCopy 4 = .ok (.iload_n 0, 1) := by decide +kernel
theorem dX9_isCopy_5 : decode cX9_isCopy 5 = .ok (.iconst 3, 1) := by decide +kernel
theorem dX9_isCopy_6 : decode cX9_isCopy 6 = .ok (.if_icmp .ge 7, 3) := by decide +kernel
theorem dX9_isCopy_9 : decode cX9_isCopy 9 = .ok (.iconst 1, 1) := by decide +kernel
theorem dX9_isCopy_10 : decode cX9_isCopy 10 = .ok (.goto 4, 3) := by decide +kernel
theorem dX9_isCopy_13 : decode cX9_isCopy 13 = .ok (.iconst 0, 1) := by decide +kernel
theorem dX9_isCopy_14 : decode cX9_isCopy 14 = .ok (.ireturn, 1) := by decide +kernel
def b_X9_isCopy_0 (h : q_H) (v0 : Int32) : Option (q_H × Int32) :=
  if v0 < 0 then some (h, (0)) else if (3) ≤ v0 then some (h, (0)) else some (h, (1))
def f_X9_isCopy (h : q_H) (a0 : Int32) : Option (q_H × Int32) := b_X9_isCopy_0 h a0
set_option maxRecDepth 20000 in
set_option maxHeartbeats 1000000 in
theorem jb_X9_isCopy_0 {G : q_G} {l : Launch} {k0 z0 : Nat} (h : q_H) (v0 : Int32) : q_J G l (RX9, cX9_isCopy, 1, 0, 0, (some .boolean), "isCopy", []) k0 z0 (q_Z G k0 z0 q_i) 0 [(0, .int v0)] [] h (b_X9_isCopy_0 h v0) := by
  unfold b_X9_isCopy_0
  refine j_iload_n (pc := 0) (p := 0) rfl rfl dX9_isCopy_0 ?_
  refine j_if_lt (pc := 1) (tgt := 13) dX9_isCopy_1 (by decide) (fun _ => ?_) (fun _ => ?_)
  · refine j_iconst (pc := 13) ki_0 dX9_isCopy_13 ?_
    exact j_zret (pc := 14) rfl rfl dX9_isCopy_14
  refine j_iload_n (pc := 4) (p := 0) rfl rfl dX9_isCopy_4 ?_
  refine j_iconst (pc := 5) ki_3 dX9_isCopy_5 ?_
  refine j_ic_ge (pc := 6) (tgt := 13) dX9_isCopy_6 (by decide) (fun _ => ?_) (fun _ => ?_)
  · refine j_iconst (pc := 13) ki_0 dX9_isCopy_13 ?_
    exact j_zret (pc := 14) rfl rfl dX9_isCopy_14
  refine j_iconst (pc := 9) ki_1 dX9_isCopy_9 ?_
  refine j_goto (pc := 10) (tgt := 14) dX9_isCopy_10 (by decide) ?_
  exact j_zret (pc := 14) rfl rfl dX9_isCopy_14
set_option maxRecDepth 20000 in
set_option maxHeartbeats 1000000 in
theorem c_X9_isCopy {G : q_G} {l : Launch} : ∀ (h : q_H) (a0 : Int32) (q : q_H × Int32), f_X9_isCopy h a0 = some q → q_CT G l yX9_isCopy cX9_isCopy 1 (some .boolean) 0 0 [.int a0] h q.1 (q_i q.2) := by
  intro h a0 q e
  exact q_ofJ Y_X9_isCopy (Nat.le_of_ble_eq_true rfl) (jb_X9_isCopy_0 h a0) q e
/-! FarFolders.isFolder(I)Z -/
theorem dX9_isFolder_0 : decode cX9_isFolder 0 = .ok (.iload_n 0, 1) := by decide +kernel
theorem dX9_isFolder_1 : decode cX9_isFolder 1 = .ok (.iconst 2, 1) := by decide +kernel
theorem dX9_isFolder_2 : decode cX9_isFolder 2 = .ok (.if_icmp .lt 13, 3) := by decide +kernel
theorem dX9_isFolder_5 : decode cX9_isFolder 5 = .ok (.iload_n 0, 1) := by decide +kernel
theorem dX9_isFolder_6 : decode cX9_isFolder 6 = .ok (.bipush 14, 2) := by decide +kernel
theorem dX9_isFolder_8 : decode cX9_isFolder 8 = .ok (.if_icmp .ge 7, 3) := by decide +kernel
theorem dX9_isFolder_11 : decode cX9_isFolder 11 = .ok (.iconst 1, 1) := by decide +kernel
theorem dX9_isFolder_12 : decode cX9_isFolder 12 = .ok (.goto 4, 3) := by decide +kernel
theorem dX9_isFolder_15 : decode cX9_isFolder 15 = .ok (.iconst 0, 1) := by decide +kernel
theorem dX9_isFolder_16 : decode cX9_isFolder 16 = .ok (.ireturn, 1) := by decide +kernel
def b_X9_isFolder_0 (h : q_H) (v0 : Int32) : Option (q_H × Int32) :=
  if v0 < (2) then some (h, (0)) else if (14) ≤ v0 then some (h, (0)) else some (h, (1))
def f_X9_isFolder (h : q_H) (a0 : Int32) : Option (q_H × Int32) := b_X9_isFolder_0 h a0
set_option maxRecDepth 20000 in
set_option maxHeartbeats 1000000 in
theorem jb_X9_isFolder_0 {G : q_G} {l : Launch} {k0 z0 : Nat} (h : q_H) (v0 : Int32) : q_J G l (RX9, cX9_isFolder, 1, 0, 0, (some .boolean), "isFolder", []) k0 z0 (q_Z G k0 z0 q_i) 0 [(0, .int v0)] [] h (b_X9_isFolder_0 h v0) := by
  unfold b_X9_isFolder_0
  refine j_iload_n (pc := 0) (p := 0) rfl rfl dX9_isFolder_0 ?_
  refine j_iconst (pc := 1) ki_2 dX9_isFolder_1 ?_
  refine j_ic_lt (pc := 2) (tgt := 15) dX9_isFolder_2 (by decide) (fun _ => ?_) (fun _ => ?_)
  · refine j_iconst (pc := 15) ki_0 dX9_isFolder_15 ?_
    exact j_zret (pc := 16) rfl rfl dX9_isFolder_16
  refine j_iload_n (pc := 5) (p := 0) rfl rfl dX9_isFolder_5 ?_
  refine j_bipush (pc := 6) kb_14 dX9_isFolder_6 ?_
  refine j_ic_ge (pc := 8) (tgt := 15) dX9_isFolder_8 (by decide) (fun _ => ?_) (fun _ => ?_)
  · refine j_iconst (pc := 15) ki_0 dX9_isFolder_15 ?_
    exact j_zret (pc := 16) rfl rfl dX9_isFolder_16
  refine j_iconst (pc := 11) ki_1 dX9_isFolder_11 ?_
  refine j_goto (pc := 12) (tgt := 16) dX9_isFolder_12 (by decide) ?_
  exact j_zret (pc := 16) rfl rfl dX9_isFolder_16
set_option maxRecDepth 20000 in
set_option maxHeartbeats 1000000 in
theorem c_X9_isFolder {G : q_G} {l : Launch} : ∀ (h : q_H) (a0 : Int32) (q : q_H × Int32), f_X9_isFolder h a0 = some q → q_CT G l yX9_isFolder cX9_isFolder 1 (some .boolean) 0 0 [.int a0] h q.1 (q_i q.2) := by
  intro h a0 q e
  exact q_ofJ Y_X9_isFolder (Nat.le_of_ble_eq_true rfl) (jb_X9_isFolder_0 h a0) q e
/-! FarFolders$Tree.isThere(I)Z -/
theorem dX7_isThere_0 : decode cX7_isThere 0 = .ok (.iload_n 1, 1) := by decide +kernel
theorem dX7_isThere_1 : decode cX7_isThere 1 = .ok (.iconst 2, 1) := by decide +kernel
theorem dX7_isThere_2 : decode cX7_isThere 2 = .ok (.if_icmp .lt 17, 3) := by decide +kernel
theorem dX7_isThere_5 : decode cX7_isThere 5 = .ok (.aload_n 0, 1) := by decide +kernel
theorem dX7_isThere_6 : decode cX7_isThere 6 = .ok (.getfield 9, 3) := by decide +kernel
theorem dX7_isThere_9 : decode cX7_isThere 9 = .ok (.iload_n 1, 1) := by decide +kernel
theorem dX7_isThere_10 : decode cX7_isThere 10 = .ok (.bipush 15, 2) := by decide +kernel
theorem dX7_isThere_12 : decode cX7_isThere 12 = .ok (.iand, 1) := by decide +kernel
theorem dX7_isThere_13 : decode cX7_isThere 13 = .ok (.laload, 1) := by decide +kernel
theorem dX7_isThere_14 : decode cX7_isThere 14 = .ok (.lconst 0, 1) := by decide +kernel
theorem dX7_isThere_15 : decode cX7_isThere 15 = .ok (.lcmp, 1) := by decide +kernel
theorem dX7_isThere_16 : decode cX7_isThere 16 = .ok (.ifCond .eq 7, 3) := by decide +kernel
theorem dX7_isThere_19 : decode cX7_isThere 19 = .ok (.iconst 1, 1) := by decide +kernel
theorem dX7_isThere_20 : decode cX7_isThere 20 = .ok (.goto 4, 3) := by decide +kernel
theorem dX7_isThere_23 : decode cX7_isThere 23 = .ok (.iconst 0, 1) := by decide +kernel
theorem dX7_isThere_24 : decode cX7_isThere 24 = .ok (.ireturn, 1) := by decide +kernel
def b_X7_isThere_0 (h : q_H) (v0 : Nat) (v1 : Int32) : Option (q_H × Int32) :=
  if v1 < (2) then some (h, (1)) else Option.bind (q_gR 6 0 h v0) (fun x1 => Option.bind (q_lL h x1 (v1 &&& (15))) (fun x2 => if (lg_cmp x2 (0)) = 0 then some (h, (0)) else some (h, (1))))
def f_X7_isThere (h : q_H) (a0 : Nat) (a1 : Int32) : Option (q_H × Int32) := q_chk 6 h a0 (b_X7_isThere_0 h a0 a1)
set_option maxRecDepth 20000 in
set_option maxHeartbeats 1000000 in
theorem jb_X7_isThere_0 {G : q_G} {l : Launch} {k0 z0 : Nat} (h : q_H) (v0 : Nat) (v1 : Int32) : q_J G l (RX7, cX7_isThere, 2, 0, 0, (some .boolean), "isThere", []) k0 z0 (q_Z G k0 z0 q_i) 0 [(0, .ref v0), (1, .int v1)] [] h (b_X7_isThere_0 h v0 v1) := by
  unfold b_X7_isThere_0
  refine j_iload_n (pc := 0) (p := 1) rfl rfl dX7_isThere_0 ?_
  refine j_iconst (pc := 1) ki_2 dX7_isThere_1 ?_
  refine j_ic_lt (pc := 2) (tgt := 19) dX7_isThere_2 (by decide) (fun _ => ?_) (fun _ => ?_)
  · refine j_iconst (pc := 19) ki_1 dX7_isThere_19 ?_
    refine j_goto (pc := 20) (tgt := 24) dX7_isThere_20 (by decide) ?_
    exact j_zret (pc := 24) rfl rfl dX7_isThere_24
  refine j_aload_n (pc := 5) (p := 0) rfl rfl dX7_isThere_5 ?_
  refine j_getR (pc := 6) FI_X7 (k := 0) (by decide) fl_X7_9 dX7_isThere_6 (fun x1 _ => ?_)
  refine j_iload_n (pc := 9) (p := 1) rfl rfl dX7_isThere_9 ?_
  refine j_bipush (pc := 10) kb_15 dX7_isThere_10 ?_
  refine j_iand (pc := 12) dX7_isThere_12 ?_
  refine j_lald (pc := 13) dX7_isThere_13 (fun x2 _ => ?_)
  refine j_lconst (pc := 14) kl_0 dX7_isThere_14 ?_
  refine j_lcmp (pc := 15) dX7_isThere_15 ?_
  refine j_if_eq (pc := 16) (tgt := 23) dX7_isThere_16 (by decide) (fun _ => ?_) (fun _ => ?_)
  · refine j_iconst (pc := 23) ki_0 dX7_isThere_23 ?_
    exact j_zret (pc := 24) rfl rfl dX7_isThere_24
  refine j_iconst (pc := 19) ki_1 dX7_isThere_19 ?_
  refine j_goto (pc := 20) (tgt := 24) dX7_isThere_20 (by decide) ?_
  exact j_zret (pc := 24) rfl rfl dX7_isThere_24
set_option maxRecDepth 20000 in
set_option maxHeartbeats 1000000 in
theorem c_X7_isThere {G : q_G} {l : Launch} : ∀ (h : q_H) (a0 : Nat) (a1 : Int32) (q : q_H × Int32), f_X7_isThere h a0 a1 = some q → (∃ fs, h.1 a0 = .inr (6, fs)) ∧ q_CT G l yX7_isThere cX7_isThere 2 (some .boolean) 0 0 [.ref a0, .int a1] h q.1 (q_i q.2) := by
  intro h a0 a1 q e
  obtain ⟨e1, e2⟩ := q_chk_ok e
  exact ⟨e1, q_ofJ Y_X7_isThere (Nat.le_of_ble_eq_true rfl) (jb_X7_isThere_0 h a0 a1) q e2⟩
/-! FarFolders$Letter.parent(J)I -/
theorem dX1_parent_0 : decode cX1_parent 0 = .ok (.lload_n 0, 1) := by decide +kernel
theorem dX1_parent_1 : decode cX1_parent 1 = .ok (.iconst 4, 1) := by decide +kernel
theorem dX1_parent_2 : decode cX1_parent 2 = .ok (.lushr, 1) := by decide +kernel
theorem dX1_parent_3 : decode cX1_parent 3 = .ok (.l2i, 1) := by decide +kernel
theorem dX1_parent_4 : decode cX1_parent 4 = .ok (.bipush 15, 2) := by decide +kernel
theorem dX1_parent_6 : decode cX1_parent 6 = .ok (.iand, 1) := by decide +kernel
theorem dX1_parent_7 : decode cX1_parent 7 = .ok (.ireturn, 1) := by decide +kernel
def b_X1_parent_0 (h : q_H) (v0 : Int64) : Option (q_H × Int32) :=
  some (h, ((Int64.toInt32 (q_lushr v0 (4))) &&& (15)))
def f_X1_parent (h : q_H) (a0 : Int64) : Option (q_H × Int32) := b_X1_parent_0 h a0
set_option maxRecDepth 20000 in
set_option maxHeartbeats 1000000 in
theorem jb_X1_parent_0 {G : q_G} {l : Launch} {k0 z0 : Nat} (h : q_H) (v0 : Int64) : q_J G l (RX1, cX1_parent, 2, 0, 0, (some .int), "parent", []) k0 z0 (q_Z G k0 z0 q_i) 0 [(0, .long v0)] [] h (b_X1_parent_0 h v0) := by
  unfold b_X1_parent_0
  refine j_lload_n (pc := 0) (p := 0) rfl rfl dX1_parent_0 ?_
  refine j_iconst (pc := 1) ki_4 dX1_parent_1 ?_
  refine j_lushr (pc := 2) dX1_parent_2 ?_
  refine j_l2i (pc := 3) dX1_parent_3 ?_
  refine j_bipush (pc := 4) kb_15 dX1_parent_4 ?_
  refine j_iand (pc := 6) dX1_parent_6 ?_
  exact j_iret (pc := 7) rfl dX1_parent_7
set_option maxRecDepth 20000 in
set_option maxHeartbeats 1000000 in
theorem c_X1_parent {G : q_G} {l : Launch} : ∀ (h : q_H) (a0 : Int64) (q : q_H × Int32), f_X1_parent h a0 = some q → q_CT G l yX1_parent cX1_parent 2 (some .int) 0 0 [.long a0] h q.1 (q_i q.2) := by
  intro h a0 q e
  exact q_ofJ Y_X1_parent (Nat.le_of_ble_eq_true rfl) (jb_X1_parent_0 h a0) q e
/-! FarFolders$Letter.name(J)I -/
theorem dX1_name_0 : decode cX1_name 0 = .ok (.lload_n 0, 1) := by decide +kernel
theorem dX1_name_1 : decode cX1_name 1 = .ok (.l2i, 1) := by decide +kernel
theorem dX1_name_2 : decode cX1_name 2 = .ok (.bipush 15, 2) := by decide +kernel
theorem dX1_name_4 : decode cX1_name 4 = .ok (.iand, 1) := by decide +kernel
theorem dX1_name_5 : decode cX1_name 5 = .ok (.ireturn, 1) := by decide +kernel
def b_X1_name_0 (h : q_H) (v0 : Int64) : Option (q_H × Int32) :=
  some (h, ((Int64.toInt32 v0) &&& (15)))
def f_X1_name (h : q_H) (a0 : Int64) : Option (q_H × Int32) := b_X1_name_0 h a0
set_option maxRecDepth 20000 in
set_option maxHeartbeats 1000000 in
theorem jb_X1_name_0 {G : q_G} {l : Launch} {k0 z0 : Nat} (h : q_H) (v0 : Int64) : q_J G l (RX1, cX1_name, 2, 0, 0, (some .int), "name", []) k0 z0 (q_Z G k0 z0 q_i) 0 [(0, .long v0)] [] h (b_X1_name_0 h v0) := by
  unfold b_X1_name_0
  refine j_lload_n (pc := 0) (p := 0) rfl rfl dX1_name_0 ?_
  refine j_l2i (pc := 1) dX1_name_1 ?_
  refine j_bipush (pc := 2) kb_15 dX1_name_2 ?_
  refine j_iand (pc := 4) dX1_name_4 ?_
  exact j_iret (pc := 5) rfl dX1_name_5
set_option maxRecDepth 20000 in
set_option maxHeartbeats 1000000 in
theorem c_X1_name {G : q_G} {l : Launch} : ∀ (h : q_H) (a0 : Int64) (q : q_H × Int32), f_X1_name h a0 = some q → q_CT G l yX1_name cX1_name 2 (some .int) 0 0 [.long a0] h q.1 (q_i q.2) := by
  intro h a0 q e
  exact q_ofJ Y_X1_name (Nat.le_of_ble_eq_true rfl) (jb_X1_name_0 h a0) q e
/-! FarFolders$Tree.isRightBelow(II)Z -/
theorem dX7_isRightBelow_0 : decode cX7_isRightBelow 0 = .ok (.aload_n 0, 1) := by decide +kernel
theorem dX7_isRightBelow_1 : decode cX7_isRightBelow 1 = .ok (.getfield 9, 3) := by decide +kernel
theorem dX7_isRightBelow_4 : decode cX7_isRightBelow 4 = .ok (.iload_n 1, 1) := by decide +kernel
theorem dX7_isRightBelow_5 : decode cX7_isRightBelow 5 = .ok (.bipush 15, 2) := by decide +kernel
theorem dX7_isRightBelow_7 : decode cX7_isRightBelow 7 = .ok (.iand, 1) := by decide +kernel
theorem dX7_isRightBelow_8 : decode cX7_isRightBelow 8 = .ok (.laload, 1) := by decide +kernel
theorem dX7_isRightBelow_9 : decode cX7_isRightBelow 9 = .ok (.lconst 0, 1) := by decide +kernel
theorem dX7_isRightBelow_10 : decode cX7_isRightBelow 10 = .ok (.lcmp, 1) := by decide +kernel
theorem dX7_isRightBelow_11 : decode cX7_isRightBelow 11 = .ok (.ifCond .eq 23, 3) := by decide +kernel
theorem dX7_isRightBelow_14 : decode cX7_isRightBelow 14 = .ok (.aload_n 0, 1) := by decide +kernel
theorem dX7_isRightBelow_15 : decode cX7_isRightBelow 15 = .ok (.getfield 9, 3) := by decide +kernel
theorem dX7_isRightBelow_18 : decode cX7_isRightBelow 18 = .ok (.iload_n 1, 1) := by decide +kernel
theorem dX7_isRightBelow_19 : decode cX7_isRightBelow 19 = .ok (.bipush 15, 2) := by decide +kernel
theorem dX7_isRightBelow_21 : decode cX7_isRightBelow 21 = .ok (.iand, 1) := by decide +kernel
theorem dX7_isRightBelow_22 : decode cX7_isRightBelow 22 = .ok (.laload, 1) := by decide +kernel
theorem dX7_isRightBelow_23 : decode cX7_isRightBelow 23 = .ok (.invokestatic 27, 3) := by decide +kernel
theorem dX7_isRightBelow_26 : decode cX7_isRightBelow 26 = .ok (.iload_n 2, 1) := by decide +kernel
theorem dX7_isRightBelow_27 : decode cX7_isRightBelow 27 = .ok (.if_icmp .ne 7, 3) := by decide +kernel
theorem dX7_isRightBelow_30 : decode cX7_isRightBelow 30 = .ok (.iconst 1, 1) := by decide +kernel
theorem dX7_isRightBelow_31 : decode cX7_isRightBelow 31 = .ok (.goto 4, 3) := by decide +kernel
theorem dX7_isRightBelow_34 : decode cX7_isRightBelow 34 = .ok (.iconst 0, 1) := by decide +kernel
theorem dX7_isRightBelow_35 : decode cX7_isRightBelow 35 = .ok (.ireturn, 1) := by decide +kernel
def b_X7_isRightBelow_0 (h : q_H) (v0 : Nat) (v1 : Int32) (v2 : Int32) : Option (q_H × Int32) :=
  Option.bind (q_gR 6 0 h v0) (fun x1 => Option.bind (q_lL h x1 (v1 &&& (15))) (fun x2 => if (lg_cmp x2 (0)) = 0 then some (h, (0)) else Option.bind (q_gR 6 0 h v0) (fun x3 => Option.bind (q_lL h x3 (v1 &&& (15))) (fun x4 => Option.bind (f_X1_parent h x4) (fun q5 => if q5.2 = v2 then some (q5.1, (1)) else some (q5.1, (0)))))))
def f_X7_isRightBelow (h : q_H) (a0 : Nat) (a1 : Int32) (a2 : Int32) : Option (q_H × Int32) := q_chk 6 h a0 (b_X7_isRightBelow_0 h a0 a1 a2)
set_option maxRecDepth 20000 in
set_option maxHeartbeats 1000000 in
theorem jb_X7_isRightBelow_0 {G : q_G} {l : Launch} {k0 z0 : Nat} (h : q_H) (v0 : Nat) (v1 : Int32) (v2 : Int32) : q_J G l (RX7, cX7_isRightBelow, 3, 1, 21, (some .boolean), "isRightBelow", []) k0 z0 (q_Z G k0 z0 q_i) 0 [(0, .ref v0), (1, .int v1), (2, .int v2)] [] h (b_X7_isRightBelow_0 h v0 v1 v2) := by
  unfold b_X7_isRightBelow_0
  refine j_aload_n (pc := 0) (p := 0) rfl rfl dX7_isRightBelow_0 ?_
  refine j_getR (pc := 1) FI_X7 (k := 0) (by decide) fl_X7_9 dX7_isRightBelow_1 (fun x1 _ => ?_)
  refine j_iload_n (pc := 4) (p := 1) rfl rfl dX7_isRightBelow_4 ?_
  refine j_bipush (pc := 5) kb_15 dX7_isRightBelow_5 ?_
  refine j_iand (pc := 7) dX7_isRightBelow_7 ?_
  refine j_lald (pc := 8) dX7_isRightBelow_8 (fun x2 _ => ?_)
  refine j_lconst (pc := 9) kl_0 dX7_isRightBelow_9 ?_
  refine j_lcmp (pc := 10) dX7_isRightBelow_10 ?_
  refine j_if_eq (pc := 11) (tgt := 34) dX7_isRightBelow_11 (by decide) (fun _ => ?_) (fun _ => ?_)
  · refine j_iconst (pc := 34) ki_0 dX7_isRightBelow_34 ?_
    exact j_zret (pc := 35) rfl rfl dX7_isRightBelow_35
  refine j_aload_n (pc := 14) (p := 0) rfl rfl dX7_isRightBelow_14 ?_
  refine j_getR (pc := 15) FI_X7 (k := 0) (by decide) fl_X7_9 dX7_isRightBelow_15 (fun x3 _ => ?_)
  refine j_iload_n (pc := 18) (p := 1) rfl rfl dX7_isRightBelow_18 ?_
  refine j_bipush (pc := 19) kb_15 dX7_isRightBelow_19 ?_
  refine j_iand (pc := 21) dX7_isRightBelow_21 ?_
  refine j_lald (pc := 22) dX7_isRightBelow_22 (fun x4 _ => ?_)
  refine j_cSi (pc := 23) Y_X1_parent ml_X7_27 sm_X1_parent ⟨Nat.le_of_ble_eq_true rfl, Nat.le_of_ble_eq_true rfl⟩ dX7_isRightBelow_23 (As := [.long x4]) (rest := []) rfl rfl (Nat.le_of_ble_eq_true rfl) (fun x hq9 => c_X1_parent _ _ _ hq9) (fun q5 _ => ?_)
  refine j_iload_n (pc := 26) (p := 2) rfl rfl dX7_isRightBelow_26 ?_
  refine j_ic_ne (pc := 27) (tgt := 34) dX7_isRightBelow_27 (by decide) (fun _ => ?_) (fun _ => ?_)
  · refine j_iconst (pc := 30) ki_1 dX7_isRightBelow_30 ?_
    refine j_goto (pc := 31) (tgt := 35) dX7_isRightBelow_31 (by decide) ?_
    exact j_zret (pc := 35) rfl rfl dX7_isRightBelow_35
  refine j_iconst (pc := 34) ki_0 dX7_isRightBelow_34 ?_
  exact j_zret (pc := 35) rfl rfl dX7_isRightBelow_35
set_option maxRecDepth 20000 in
set_option maxHeartbeats 1000000 in
theorem c_X7_isRightBelow {G : q_G} {l : Launch} : ∀ (h : q_H) (a0 : Nat) (a1 : Int32) (a2 : Int32) (q : q_H × Int32), f_X7_isRightBelow h a0 a1 a2 = some q → (∃ fs, h.1 a0 = .inr (6, fs)) ∧ q_CT G l yX7_isRightBelow cX7_isRightBelow 3 (some .boolean) 1 21 [.ref a0, .int a1, .int a2] h q.1 (q_i q.2) := by
  intro h a0 a1 a2 q e
  obtain ⟨e1, e2⟩ := q_chk_ok e
  exact ⟨e1, q_ofJ Y_X7_isRightBelow (Nat.le_of_ble_eq_true rfl) (jb_X7_isRightBelow_0 h a0 a1 a2) q e2⟩
/-! FarFolders$Tree.rankOf(I)I -/
theorem dX7_rankOf_0 : decode cX7_rankOf 0 = .ok (.aload_n 0, 1) := by decide +kernel
theorem dX7_rankOf_1 : decode cX7_rankOf 1 = .ok (.getfield 9, 3) := by decide +kernel
theorem dX7_rankOf_4 : decode cX7_rankOf 4 = .ok (.iload_n 1, 1) := by decide +kernel
theorem dX7_rankOf_5 : decode cX7_rankOf 5 = .ok (.bipush 15, 2) := by decide +kernel
theorem dX7_rankOf_7 : decode cX7_rankOf 7 = .ok (.iand, 1) := by decide +kernel
theorem dX7_rankOf_8 : decode cX7_rankOf 8 = .ok (.laload, 1) := by decide +kernel
theorem dX7_rankOf_9 : decode cX7_rankOf 9 = .ok (.lstore_n 2, 1) := by decide +kernel
theorem dX7_rankOf_10 : decode cX7_rankOf 10 = .ok (.iconst 0, 1) := by decide +kernel
theorem dX7_rankOf_11 : decode cX7_rankOf 11 = .ok (.istore 4, 2) := by decide +kernel
theorem dX7_rankOf_13 : decode cX7_rankOf 13 = .ok (.iconst 2, 1) := by decide +kernel
theorem dX7_rankOf_14 : decode cX7_rankOf 14 = .ok (.istore 5, 2) := by decide +kernel
theorem dX7_rankOf_16 : decode cX7_rankOf 16 = .ok (.iload 5, 2) := by decide +kernel
theorem dX7_rankOf_18 : decode cX7_rankOf 18 = .ok (.bipush 14, 2) := by decide +kernel
theorem dX7_rankOf_20 : decode cX7_rankOf 20 = .ok (.if_icmp .ge 54, 3) := by decide +kernel
theorem dX7_rankOf_23 : decode cX7_rankOf 23 = .ok (.aload_n 0, 1) := by decide +kernel
theorem dX7_rankOf_24 : decode cX7_rankOf 24 = .ok (.iload 5, 2) := by decide +kernel
theorem dX7_rankOf_26 : decode cX7_rankOf 26 = .ok (.lload_n 2, 1) := by decide +kernel
theorem dX7_rankOf_27 : decode cX7_rankOf 27 = .ok (.invokestatic 27, 3) := by decide +kernel
theorem dX7_rankOf_30 : decode cX7_rankOf 30 = .ok (.invokevirtual 54, 3) := by decide +kernel
theorem dX7_rankOf_33 : decode cX7_rankOf 33 = .ok (.ifCond .eq 35, 3) := by decide +kernel
theorem dX7_rankOf_36 : decode cX7_rankOf 36 = .ok (.aload_n 0, 1) := by decide +kernel
theorem dX7_rankOf_37 : decode cX7_rankOf 37 = .ok (.getfield 9, 3) := by decide +kernel
theorem dX7_rankOf_40 : decode cX7_rankOf 40 = .ok (.iload 5, 2) := by decide +kernel
theorem dX7_rankOf_42 : decode cX7_rankOf 42 = .ok (.laload, 1) := by decide +kernel
theorem dX7_rankOf_43 : decode cX7_rankOf 43 = .ok (.invokestatic 61, 3) := by decide +kernel
theorem dX7_rankOf_46 : decode cX7_rankOf 46 = .ok (.lload_n 2, 1) := by decide +kernel
theorem dX7_rankOf_47 : decode cX7_rankOf 47 = .ok (.invokestatic 61, 3) := by decide +kernel
theorem dX7_rankOf_50 : decode cX7_rankOf 50 = .ok (.if_icmp .ne 18, 3) := by decide +kernel
theorem dX7_rankOf_53 : decode cX7_rankOf 53 = .ok (.aload_n 0, 1) := by decide +kernel
theorem dX7_rankOf_54 : decode cX7_rankOf 54 = .ok (.getfield 9, 3) := by decide +kernel
theorem dX7_rankOf_57 : decode cX7_rankOf 57 = .ok (.iload 5, 2) := by decide +kernel
theorem dX7_rankOf_59 : decode cX7_rankOf 59 = .ok (.laload, 1) := by decide +kernel
theorem dX7_rankOf_60 : decode cX7_rankOf 60 = .ok (.lload_n 2, 1) := by decide +kernel
theorem dX7_rankOf_61 : decode cX7_rankOf 61 = .ok (.lcmp, 1) := by decide +kernel
theorem dX7_rankOf_62 : decode cX7_rankOf 62 = .ok (.ifCond .ge 6, 3) := by decide +kernel
theorem dX7_rankOf_65 : decode cX7_rankOf 65 = .ok (.iinc 4 1, 3) := by decide +kernel
theorem dX7_rankOf_68 : decode cX7_rankOf 68 = .ok (.iinc 5 1, 3) := by decide +kernel
theorem dX7_rankOf_71 : decode cX7_rankOf 71 = .ok (.goto (-55), 3) := by decide +kernel
theorem dX7_rankOf_74 : decode cX7_rankOf 74 = .ok (.iload 4, 2) := by decide +kernel
theorem dX7_rankOf_76 : decode cX7_rankOf 76 = .ok (.ireturn, 1) := by decide +kernel
def b_X7_rankOf_68 (k16 : q_H → Nat → Int64 → Int32 → Int32 → Option (q_H × Int32)) (h : q_H) (v0 : Nat) (v2 : Int64) (v4 : Int32) (v5 : Int32) : Option (q_H × Int32) :=
  k16 h v0 v2 v4 (v5 + 1)
def b_X7_rankOf_16 (k16 : q_H → Nat → Int64 → Int32 → Int32 → Option (q_H × Int32)) (h : q_H) (v0 : Nat) (v2 : Int64) (v4 : Int32) (v5 : Int32) : Option (q_H × Int32) :=
  if (14) ≤ v5 then some (h, v4) else Option.bind (f_X1_parent h v2) (fun q1 => Option.bind (f_X7_isRightBelow q1.1 v0 v5 q1.2) (fun q2 => if q2.2 = 0 then b_X7_rankOf_68 k16 q2.1 v0 v2 v4 v5 else Option.bind (q_gR 6 0 q2.1 v0) (fun x3 => Option.bind (q_lL q2.1 x3 v5) (fun x4 => Option.bind (f_X1_name q2.1 x4) (fun q5 => Option.bind (f_X1_name q5.1 v2) (fun q6 => if q5.2 = q6.2 then Option.bind (q_gR 6 0 q6.1 v0) (fun x7 => Option.bind (q_lL q6.1 x7 v5) (fun x8 => if 0 ≤ (lg_cmp x8 v2) then b_X7_rankOf_68 k16 q6.1 v0 v2 v4 v5 else b_X7_rankOf_68 k16 q6.1 v0 v2 (v4 + 1) v5)) else b_X7_rankOf_68 k16 q6.1 v0 v2 v4 v5))))))
def l_X7_rankOf_16 : Nat → q_H → Nat → Int64 → Int32 → Int32 → Option (q_H × Int32)
  | 0, _, _, _, _, _ => none
  | n + 1, h, v0, v2, v4, v5 => b_X7_rankOf_16 (l_X7_rankOf_16 n) h v0 v2 v4 v5
def b_X7_rankOf_0 (h : q_H) (v0 : Nat) (v1 : Int32) : Option (q_H × Int32) :=
  Option.bind (q_gR 6 0 h v0) (fun x9 => Option.bind (q_lL h x9 (v1 &&& (15))) (fun x10 => l_X7_rankOf_16 q_FU h v0 x10 (0) (2)))
def f_X7_rankOf (h : q_H) (a0 : Nat) (a1 : Int32) : Option (q_H × Int32) := q_chk 6 h a0 (b_X7_rankOf_0 h a0 a1)
set_option maxRecDepth 20000 in
set_option maxHeartbeats 1000000 in
theorem jb_X7_rankOf_68 {G : q_G} {l : Launch} {k0 z0 : Nat} (k16 : q_H → Nat → Int64 → Int32 → Int32 → Option (q_H × Int32)) (hk16 : ∀ (h : q_H) (v0 : Nat) (v2 : Int64) (v4 : Int32) (v5 : Int32), q_J G l (RX7, cX7_rankOf, 6, 2, 43, (some .int), "rankOf", []) k0 z0 (q_Z G k0 z0 q_i) 16 [(0, .ref v0), (2, .long v2), (4, .int v4), (5, .int v5)] [] h (k16 h v0 v2 v4 v5)) (h : q_H) (v0 : Nat) (v2 : Int64) (v4 : Int32) (v5 : Int32) : q_J G l (RX7, cX7_rankOf, 6, 2, 43, (some .int), "rankOf", []) k0 z0 (q_Z G k0 z0 q_i) 68 [(0, .ref v0), (2, .long v2), (4, .int v4), (5, .int v5)] [] h (b_X7_rankOf_68 k16 h v0 v2 v4 v5) := by
  unfold b_X7_rankOf_68
  refine j_inc (pc := 68) (p := 3) (lv' := [(5, .int (v5 + 1)), (0, .ref v0), (2, .long v2), (4, .int v4)]) rfl ki_1 (by decide) rfl dX7_rankOf_68 ?_
  refine j_goto (pc := 71) (tgt := 16) dX7_rankOf_71 (by decide) ?_
  refine j_sub [1, 2, 3, 0] (lv' := [(0, .ref v0), (2, .long v2), (4, .int v4), (5, .int (v5 + 1))]) rfl ?_
  exact hk16 _ _ _ _ _
set_option maxRecDepth 20000 in
set_option maxHeartbeats 1000000 in
theorem jb_X7_rankOf_16 {G : q_G} {l : Launch} {k0 z0 : Nat} (k16 : q_H → Nat → Int64 → Int32 → Int32 → Option (q_H × Int32)) (hk16 : ∀ (h : q_H) (v0 : Nat) (v2 : Int64) (v4 : Int32) (v5 : Int32), q_J G l (RX7, cX7_rankOf, 6, 2, 43, (some .int), "rankOf", []) k0 z0 (q_Z G k0 z0 q_i) 16 [(0, .ref v0), (2, .long v2), (4, .int v4), (5, .int v5)] [] h (k16 h v0 v2 v4 v5)) (h : q_H) (v0 : Nat) (v2 : Int64) (v4 : Int32) (v5 : Int32) : q_J G l (RX7, cX7_rankOf, 6, 2, 43, (some .int), "rankOf", []) k0 z0 (q_Z G k0 z0 q_i) 16 [(0, .ref v0), (2, .long v2), (4, .int v4), (5, .int v5)] [] h (b_X7_rankOf_16 k16 h v0 v2 v4 v5) := by
  unfold b_X7_rankOf_16
  refine j_iload (pc := 16) (p := 3) rfl dX7_rankOf_16 ?_
  refine j_bipush (pc := 18) kb_14 dX7_rankOf_18 ?_
  refine j_ic_ge (pc := 20) (tgt := 74) dX7_rankOf_20 (by decide) (fun _ => ?_) (fun _ => ?_)
  · refine j_iload (pc := 74) (p := 2) rfl dX7_rankOf_74 ?_
    exact j_iret (pc := 76) rfl dX7_rankOf_76
  refine j_aload_n (pc := 23) (p := 0) rfl rfl dX7_rankOf_23 ?_
  refine j_iload (pc := 24) (p := 3) rfl dX7_rankOf_24 ?_
  refine j_lload_n (pc := 26) (p := 1) rfl rfl dX7_rankOf_26 ?_
  refine j_cSi (pc := 27) Y_X1_parent ml_X7_27 sm_X1_parent ⟨Nat.le_of_ble_eq_true rfl, Nat.le_of_ble_eq_true rfl⟩ dX7_rankOf_27 (As := [.long v2]) (rest := [.int v5, .ref v0]) rfl rfl (Nat.le_of_ble_eq_true rfl) (fun x hq9 => c_X1_parent _ _ _ hq9) (fun q1 _ => ?_)
  refine j_cVi (pc := 30) Y_X7_isRightBelow (ci := 6) (b := v0) rfl rfl ml_X7_54 im_X7_isRightBelow se_X7_isRightBelow ⟨Nat.le_of_ble_eq_true rfl, Nat.le_of_ble_eq_true rfl⟩ dX7_rankOf_30 (As := [.int v5, .int q1.2]) (rest := []) rfl rfl (Nat.le_of_ble_eq_true rfl) (fun x hq9 => c_X7_isRightBelow _ _ _ _ _ hq9) (fun q2 _ => ?_)
  refine j_if_eq (pc := 33) (tgt := 68) dX7_rankOf_33 (by decide) (fun _ => ?_) (fun _ => ?_)
  · exact jb_X7_rankOf_68 k16 hk16 _ _ _ _ _
  refine j_aload_n (pc := 36) (p := 0) rfl rfl dX7_rankOf_36 ?_
  refine j_getR (pc := 37) FI_X7 (k := 0) (by decide) fl_X7_9 dX7_rankOf_37 (fun x3 _ => ?_)
  refine j_iload (pc := 40) (p := 3) rfl dX7_rankOf_40 ?_
  refine j_lald (pc := 42) dX7_rankOf_42 (fun x4 _ => ?_)
  refine j_cSi (pc := 43) Y_X1_name ml_X7_61 sm_X1_name ⟨Nat.le_of_ble_eq_true rfl, Nat.le_of_ble_eq_true rfl⟩ dX7_rankOf_43 (As := [.long x4]) (rest := []) rfl rfl (Nat.le_of_ble_eq_true rfl) (fun x hq9 => c_X1_name _ _ _ hq9) (fun q5 _ => ?_)
  refine j_lload_n (pc := 46) (p := 1) rfl rfl dX7_rankOf_46 ?_
  refine j_cSi (pc := 47) Y_X1_name ml_X7_61 sm_X1_name ⟨Nat.le_of_ble_eq_true rfl, Nat.le_of_ble_eq_true rfl⟩ dX7_rankOf_47 (As := [.long v2]) (rest := [.int q5.2]) rfl rfl (Nat.le_of_ble_eq_true rfl) (fun x hq9 => c_X1_name _ _ _ hq9) (fun q6 _ => ?_)
  refine j_ic_ne (pc := 50) (tgt := 68) dX7_rankOf_50 (by decide) (fun _ => ?_) (fun _ => ?_)
  · refine j_aload_n (pc := 53) (p := 0) rfl rfl dX7_rankOf_53 ?_
    refine j_getR (pc := 54) FI_X7 (k := 0) (by decide) fl_X7_9 dX7_rankOf_54 (fun x7 _ => ?_)
    refine j_iload (pc := 57) (p := 3) rfl dX7_rankOf_57 ?_
    refine j_lald (pc := 59) dX7_rankOf_59 (fun x8 _ => ?_)
    refine j_lload_n (pc := 60) (p := 1) rfl rfl dX7_rankOf_60 ?_
    refine j_lcmp (pc := 61) dX7_rankOf_61 ?_
    refine j_if_ge (pc := 62) (tgt := 68) dX7_rankOf_62 (by decide) (fun _ => ?_) (fun _ => ?_)
    · exact jb_X7_rankOf_68 k16 hk16 _ _ _ _ _
    refine j_inc (pc := 65) (p := 2) (lv' := [(4, .int (v4 + 1)), (0, .ref v0), (2, .long v2), (5, .int v5)]) rfl ki_1 (by decide) rfl dX7_rankOf_65 ?_
    refine j_sub [1, 2, 0, 3] (lv' := [(0, .ref v0), (2, .long v2), (4, .int (v4 + 1)), (5, .int v5)]) rfl ?_
    exact jb_X7_rankOf_68 k16 hk16 _ _ _ _ _
  exact jb_X7_rankOf_68 k16 hk16 _ _ _ _ _
set_option maxRecDepth 20000 in
set_option maxHeartbeats 1000000 in
theorem jl_X7_rankOf_16 {G : q_G} {l : Launch} {k0 z0 : Nat} (n : Nat) : ∀ (h : q_H) (v0 : Nat) (v2 : Int64) (v4 : Int32) (v5 : Int32), q_J G l (RX7, cX7_rankOf, 6, 2, 43, (some .int), "rankOf", []) k0 z0 (q_Z G k0 z0 q_i) 16 [(0, .ref v0), (2, .long v2), (4, .int v4), (5, .int v5)] [] h (l_X7_rankOf_16 n h v0 v2 v4 v5) := by
  induction n with
  | zero => intro h v0 v2 v4 v5; exact j_none
  | succ n ih => intro h v0 v2 v4 v5; exact jb_X7_rankOf_16 (l_X7_rankOf_16 n) ih h v0 v2 v4 v5
set_option maxRecDepth 20000 in
set_option maxHeartbeats 1000000 in
theorem jb_X7_rankOf_0 {G : q_G} {l : Launch} {k0 z0 : Nat} (h : q_H) (v0 : Nat) (v1 : Int32) : q_J G l (RX7, cX7_rankOf, 6, 2, 43, (some .int), "rankOf", []) k0 z0 (q_Z G k0 z0 q_i) 0 [(0, .ref v0), (1, .int v1)] [] h (b_X7_rankOf_0 h v0 v1) := by
  unfold b_X7_rankOf_0
  refine j_aload_n (pc := 0) (p := 0) rfl rfl dX7_rankOf_0 ?_
  refine j_getR (pc := 1) FI_X7 (k := 0) (by decide) fl_X7_9 dX7_rankOf_1 (fun x9 _ => ?_)
  refine j_iload_n (pc := 4) (p := 1) rfl rfl dX7_rankOf_4 ?_
  refine j_bipush (pc := 5) kb_15 dX7_rankOf_5 ?_
  refine j_iand (pc := 7) dX7_rankOf_7 ?_
  refine j_lald (pc := 8) dX7_rankOf_8 (fun x10 _ => ?_)
  refine j_lstore_n (pc := 9) (lv' := [(2, .long x10), (0, .ref v0), (1, .int v1)]) rfl (by decide) rfl dX7_rankOf_9 ?_
  refine j_iconst (pc := 10) ki_0 dX7_rankOf_10 ?_
  refine j_istore (pc := 11) (lv' := [(4, .int (0)), (2, .long x10), (0, .ref v0), (1, .int v1)]) (by decide) rfl dX7_rankOf_11 ?_
  refine j_iconst (pc := 13) ki_2 dX7_rankOf_13 ?_
  refine j_istore (pc := 14) (lv' := [(5, .int (2)), (4, .int (0)), (2, .long x10), (0, .ref v0), (1, .int v1)]) (by decide) rfl dX7_rankOf_14 ?_
  refine j_sub [3, 2, 1, 0] (lv' := [(0, .ref v0), (2, .long x10), (4, .int (0)), (5, .int (2))]) rfl ?_
  exact jl_X7_rankOf_16 q_FU _ _ _ _ _
set_option maxRecDepth 20000 in
set_option maxHeartbeats 1000000 in
theorem c_X7_rankOf {G : q_G} {l : Launch} : ∀ (h : q_H) (a0 : Nat) (a1 : Int32) (q : q_H × Int32), f_X7_rankOf h a0 a1 = some q → (∃ fs, h.1 a0 = .inr (6, fs)) ∧ q_CT G l yX7_rankOf cX7_rankOf 6 (some .int) 2 43 [.ref a0, .int a1] h q.1 (q_i q.2) := by
  intro h a0 a1 q e
  obtain ⟨e1, e2⟩ := q_chk_ok e
  exact ⟨e1, q_ofJ Y_X7_rankOf (Nat.le_of_ble_eq_true rfl) (jb_X7_rankOf_0 h a0 a1) q e2⟩
/-! FarFolders$Letter.time(J)I -/
theorem dX1_time_0 : decode cX1_time 0 = .ok (.lload_n 0, 1) := by decide +kernel
theorem dX1_time_1 : decode cX1_time 1 = .ok (.bipush 14, 2) := by decide +kernel
theorem dX1_time_3 : decode cX1_time 3 = .ok (.lushr, 1) := by decide +kernel
theorem dX1_time_4 : decode cX1_time 4 = .ok (.l2i, 1) := by decide +kernel
theorem dX1_time_5 : decode cX1_time 5 = .ok (.ireturn, 1) := by decide +kernel
def b_X1_time_0 (h : q_H) (v0 : Int64) : Option (q_H × Int32) :=
  some (h, (Int64.toInt32 (q_lushr v0 (14))))
def f_X1_time (h : q_H) (a0 : Int64) : Option (q_H × Int32) := b_X1_time_0 h a0
set_option maxRecDepth 20000 in
set_option maxHeartbeats 1000000 in
theorem jb_X1_time_0 {G : q_G} {l : Launch} {k0 z0 : Nat} (h : q_H) (v0 : Int64) : q_J G l (RX1, cX1_time, 2, 0, 0, (some .int), "time", []) k0 z0 (q_Z G k0 z0 q_i) 0 [(0, .long v0)] [] h (b_X1_time_0 h v0) := by
  unfold b_X1_time_0
  refine j_lload_n (pc := 0) (p := 0) rfl rfl dX1_time_0 ?_
  refine j_bipush (pc := 1) kb_14 dX1_time_1 ?_
  refine j_lushr (pc := 3) dX1_time_3 ?_
  refine j_l2i (pc := 4) dX1_time_4 ?_
  exact j_iret (pc := 5) rfl dX1_time_5
set_option maxRecDepth 20000 in
set_option maxHeartbeats 1000000 in
theorem c_X1_time {G : q_G} {l : Launch} : ∀ (h : q_H) (a0 : Int64) (q : q_H × Int32), f_X1_time h a0 = some q → q_CT G l yX1_time cX1_time 2 (some .int) 0 0 [.long a0] h q.1 (q_i q.2) := by
  intro h a0 q e
  exact q_ofJ Y_X1_time (Nat.le_of_ble_eq_true rfl) (jb_X1_time_0 h a0) q e
/-! FarFolders$Letter.sender(J)I -/
theorem dX1_sender_0 : decode cX1_sender 0 = .ok (.lload_n 0, 1) := by decide +kernel
theorem dX1_sender_1 : decode cX1_sender 1 = .ok (.bipush 12, 2) := by decide +kernel
theorem dX1_sender_3 : decode cX1_sender 3 = .ok (.lushr, 1) := by decide +kernel
theorem dX1_sender_4 : decode cX1_sender 4 = .ok (.l2i, 1) := by decide +kernel
theorem dX1_sender_5 : decode cX1_sender 5 = .ok (.iconst 3, 1) := by decide +kernel
theorem dX1_sender_6 : decode cX1_sender 6 = .ok (.iand, 1) := by decide +kernel
theorem dX1_sender_7 : decode cX1_sender 7 = .ok (.ireturn, 1) := by decide +kernel
def b_X1_sender_0 (h : q_H) (v0 : Int64) : Option (q_H × Int32) :=
  some (h, ((Int64.toInt32 (q_lushr v0 (12))) &&& (3)))
def f_X1_sender (h : q_H) (a0 : Int64) : Option (q_H × Int32) := b_X1_sender_0 h a0
set_option maxRecDepth 20000 in
set_option maxHeartbeats 1000000 in
theorem jb_X1_sender_0 {G : q_G} {l : Launch} {k0 z0 : Nat} (h : q_H) (v0 : Int64) : q_J G l (RX1, cX1_sender, 2, 0, 0, (some .int), "sender", []) k0 z0 (q_Z G k0 z0 q_i) 0 [(0, .long v0)] [] h (b_X1_sender_0 h v0) := by
  unfold b_X1_sender_0
  refine j_lload_n (pc := 0) (p := 0) rfl rfl dX1_sender_0 ?_
  refine j_bipush (pc := 1) kb_12 dX1_sender_1 ?_
  refine j_lushr (pc := 3) dX1_sender_3 ?_
  refine j_l2i (pc := 4) dX1_sender_4 ?_
  refine j_iconst (pc := 5) ki_3 dX1_sender_5 ?_
  refine j_iand (pc := 6) dX1_sender_6 ?_
  exact j_iret (pc := 7) rfl dX1_sender_7
set_option maxRecDepth 20000 in
set_option maxHeartbeats 1000000 in
theorem c_X1_sender {G : q_G} {l : Launch} : ∀ (h : q_H) (a0 : Int64) (q : q_H × Int32), f_X1_sender h a0 = some q → q_CT G l yX1_sender cX1_sender 2 (some .int) 0 0 [.long a0] h q.1 (q_i q.2) := by
  intro h a0 q e
  exact q_ofJ Y_X1_sender (Nat.le_of_ble_eq_true rfl) (jb_X1_sender_0 h a0) q e
/-! FarFolders$Copy.hasMove(I)Z -/
theorem dX0_hasMove_0 : decode cX0_hasMove 0 = .ok (.iload_n 1, 1) := by decide +kernel
theorem dX0_hasMove_1 : decode cX0_hasMove 1 = .ok (.ifCond .lt 18, 3) := by decide +kernel
theorem dX0_hasMove_4 : decode cX0_hasMove 4 = .ok (.iload_n 1, 1) := by decide +kernel
theorem dX0_hasMove_5 : decode cX0_hasMove 5 = .ok (.aload_n 0, 1) := by decide +kernel
theorem dX0_hasMove_6 : decode cX0_hasMove 6 = .ok (.getfield 20, 3) := by decide +kernel
theorem dX0_hasMove_9 : decode cX0_hasMove 9 = .ok (.getfield 57, 3) := by decide +kernel
theorem dX0_hasMove_12 : decode cX0_hasMove 12 = .ok (.if_icmp .ge 7, 3) := by decide +kernel
theorem dX0_hasMove_15 : decode cX0_hasMove 15 = .ok (.iconst 1, 1) := by decide +kernel
theorem dX0_hasMove_16 : decode cX0_hasMove 16 = .ok (.goto 4, 3) := by decide +kernel
theorem dX0_hasMove_19 : decode cX0_hasMove 19 = .ok (.iconst 0, 1) := by decide +kernel
theorem dX0_hasMove_20 : decode cX0_hasMove 20 = .ok (.ireturn, 1) := by decide +kernel
def b_X0_hasMove_0 (h : q_H) (v0 : Nat) (v1 : Int32) : Option (q_H × Int32) :=
  if v1 < 0 then some (h, (0)) else Option.bind (q_gR 0 3 h v0) (fun x1 => Option.bind (q_gI 4 1 h x1) (fun x2 => if x2 ≤ v1 then some (h, (0)) else some (h, (1))))
def f_X0_hasMove (h : q_H) (a0 : Nat) (a1 : Int32) : Option (q_H × Int32) := q_chk 0 h a0 (b_X0_hasMove_0 h a0 a1)
set_option maxRecDepth 20000 in
set_option maxHeartbeats 1000000 in
theorem jb_X0_hasMove_0 {G : q_G} {l : Launch} {k0 z0 : Nat} (h : q_H) (v0 : Nat) (v1 : Int32) : q_J G l (RX0, cX0_hasMove, 2, 0, 0, (some .boolean), "hasMove", []) k0 z0 (q_Z G k0 z0 q_i) 0 [(0, .ref v0), (1, .int v1)] [] h (b_X0_hasMove_0 h v0 v1) := by
  unfold b_X0_hasMove_0
  refine j_iload_n (pc := 0) (p := 1) rfl rfl dX0_hasMove_0 ?_
  refine j_if_lt (pc := 1) (tgt := 19) dX0_hasMove_1 (by decide) (fun _ => ?_) (fun _ => ?_)
  · refine j_iconst (pc := 19) ki_0 dX0_hasMove_19 ?_
    exact j_zret (pc := 20) rfl rfl dX0_hasMove_20
  refine j_iload_n (pc := 4) (p := 1) rfl rfl dX0_hasMove_4 ?_
  refine j_aload_n (pc := 5) (p := 0) rfl rfl dX0_hasMove_5 ?_
  refine j_getR (pc := 6) FI_X0 (k := 3) (by decide) fl_X0_20 dX0_hasMove_6 (fun x1 _ => ?_)
  refine j_getI (pc := 9) FI_X5 (k := 1) (by decide) fl_X0_57 dX0_hasMove_9 (fun x2 _ => ?_)
  refine j_ic_ge (pc := 12) (tgt := 19) dX0_hasMove_12 (by decide) (fun _ => ?_) (fun _ => ?_)
  · refine j_iconst (pc := 19) ki_0 dX0_hasMove_19 ?_
    exact j_zret (pc := 20) rfl rfl dX0_hasMove_20
  refine j_iconst (pc := 15) ki_1 dX0_hasMove_15 ?_
  refine j_goto (pc := 16) (tgt := 20) dX0_hasMove_16 (by decide) ?_
  exact j_zret (pc := 20) rfl rfl dX0_hasMove_20
set_option maxRecDepth 20000 in
set_option maxHeartbeats 1000000 in
theorem c_X0_hasMove {G : q_G} {l : Launch} : ∀ (h : q_H) (a0 : Nat) (a1 : Int32) (q : q_H × Int32), f_X0_hasMove h a0 a1 = some q → (∃ fs, h.1 a0 = .inr (0, fs)) ∧ q_CT G l yX0_hasMove cX0_hasMove 2 (some .boolean) 0 0 [.ref a0, .int a1] h q.1 (q_i q.2) := by
  intro h a0 a1 q e
  obtain ⟨e1, e2⟩ := q_chk_ok e
  exact ⟨e1, q_ofJ Y_X0_hasMove (Nat.le_of_ble_eq_true rfl) (jb_X0_hasMove_0 h a0 a1) q e2⟩
/-! FarFolders$Series.at(I)J -/
theorem dX5_at_0 : decode cX5_at 0 = .ok (.iload_n 1, 1) := by decide +kernel
theorem dX5_at_1 : decode cX5_at 1 = .ok (.ifCond .lt 29, 3) := by decide +kernel
theorem dX5_at_4 : decode cX5_at 4 = .ok (.iload_n 1, 1) := by decide +kernel
theorem dX5_at_5 : decode cX5_at 5 = .ok (.aload_n 0, 1) := by decide +kernel
theorem dX5_at_6 : decode cX5_at 6 = .ok (.getfield 21, 3) := by decide +kernel
theorem dX5_at_9 : decode cX5_at 9 = .ok (.if_icmp .ge 21, 3) := by decide +kernel
theorem dX5_at_12 : decode cX5_at 12 = .ok (.iload_n 1, 1) := by decide +kernel
theorem dX5_at_13 : decode cX5_at 13 = .ok (.aload_n 0, 1) := by decide +kernel
theorem dX5_at_14 : decode cX5_at 14 = .ok (.getfield 15, 3) := by decide +kernel
theorem dX5_at_17 : decode cX5_at 17 = .ok (.arraylength, 1) := by decide +kernel
theorem dX5_at_18 : decode cX5_at 18 = .ok (.if_icmp .ge 12, 3) := by decide +kernel
theorem dX5_at_21 : decode cX5_at 21 = .ok (.aload_n 0, 1) := by decide +kernel
theorem dX5_at_22 : decode cX5_at 22 = .ok (.getfield 15, 3) := by decide +kernel
theorem dX5_at_25 : decode cX5_at 25 = .ok (.iload_n 1, 1) := by decide +kernel
theorem dX5_at_26 : decode cX5_at 26 = .ok (.laload, 1) := by decide +kernel
theorem dX5_at_27 : decode cX5_at 27 = .ok (.goto 4, 3) := by decide +kernel
theorem dX5_at_30 : decode cX5_at 30 = .ok (.lconst 0, 1) := by decide +kernel
theorem dX5_at_31 : decode cX5_at 31 = .ok (.lreturn, 1) := by decide +kernel
def b_X5_at_30 (h : q_H) : Option (q_H × Int64) :=
  some (h, (0))
def b_X5_at_0 (h : q_H) (v0 : Nat) (v1 : Int32) : Option (q_H × Int64) :=
  if v1 < 0 then b_X5_at_30 h else Option.bind (q_gI 4 1 h v0) (fun x1 => if x1 ≤ v1 then b_X5_at_30 h else Option.bind (q_gR 4 0 h v0) (fun x2 => Option.bind (q_len h x2) (fun x3 => if x3 ≤ v1 then b_X5_at_30 h else Option.bind (q_gR 4 0 h v0) (fun x4 => Option.bind (q_lL h x4 v1) (fun x5 => some (h, x5))))))
def f_X5_at (h : q_H) (a0 : Nat) (a1 : Int32) : Option (q_H × Int64) := q_chk 4 h a0 (b_X5_at_0 h a0 a1)
set_option maxRecDepth 20000 in
set_option maxHeartbeats 1000000 in
theorem jb_X5_at_30 {G : q_G} {l : Launch} {k0 z0 : Nat} (h : q_H) : q_J G l (RX5, cX5_at, 2, 0, 0, (some .long), "at", []) k0 z0 (q_Z G k0 z0 q_l) 30 [] [] h (b_X5_at_30 h) := by
  unfold b_X5_at_30
  refine j_lconst (pc := 30) kl_0 dX5_at_30 ?_
  exact j_lret (pc := 31) rfl dX5_at_31
set_option maxRecDepth 20000 in
set_option maxHeartbeats 1000000 in
theorem jb_X5_at_0 {G : q_G} {l : Launch} {k0 z0 : Nat} (h : q_H) (v0 : Nat) (v1 : Int32) : q_J G l (RX5, cX5_at, 2, 0, 0, (some .long), "at", []) k0 z0 (q_Z G k0 z0 q_l) 0 [(0, .ref v0), (1, .int v1)] [] h (b_X5_at_0 h v0 v1) := by
  unfold b_X5_at_0
  refine j_iload_n (pc := 0) (p := 1) rfl rfl dX5_at_0 ?_
  refine j_if_lt (pc := 1) (tgt := 30) dX5_at_1 (by decide) (fun _ => ?_) (fun _ => ?_)
  · refine j_sub [] (lv' := []) rfl ?_
    exact jb_X5_at_30 _
  refine j_iload_n (pc := 4) (p := 1) rfl rfl dX5_at_4 ?_
  refine j_aload_n (pc := 5) (p := 0) rfl rfl dX5_at_5 ?_
  refine j_getI (pc := 6) FI_X5 (k := 1) (by decide) fl_X5_21 dX5_at_6 (fun x1 _ => ?_)
  refine j_ic_ge (pc := 9) (tgt := 30) dX5_at_9 (by decide) (fun _ => ?_) (fun _ => ?_)
  · refine j_sub [] (lv' := []) rfl ?_
    exact jb_X5_at_30 _
  refine j_iload_n (pc := 12) (p := 1) rfl rfl dX5_at_12 ?_
  refine j_aload_n (pc := 13) (p := 0) rfl rfl dX5_at_13 ?_
  refine j_getR (pc := 14) FI_X5 (k := 0) (by decide) fl_X5_15 dX5_at_14 (fun x2 _ => ?_)
  refine j_alen (pc := 17) dX5_at_17 (fun x3 _ => ?_)
  refine j_ic_ge (pc := 18) (tgt := 30) dX5_at_18 (by decide) (fun _ => ?_) (fun _ => ?_)
  · refine j_sub [] (lv' := []) rfl ?_
    exact jb_X5_at_30 _
  refine j_aload_n (pc := 21) (p := 0) rfl rfl dX5_at_21 ?_
  refine j_getR (pc := 22) FI_X5 (k := 0) (by decide) fl_X5_15 dX5_at_22 (fun x4 _ => ?_)
  refine j_iload_n (pc := 25) (p := 1) rfl rfl dX5_at_25 ?_
  refine j_lald (pc := 26) dX5_at_26 (fun x5 _ => ?_)
  refine j_goto (pc := 27) (tgt := 31) dX5_at_27 (by decide) ?_
  exact j_lret (pc := 31) rfl dX5_at_31
set_option maxRecDepth 20000 in
set_option maxHeartbeats 1000000 in
theorem c_X5_at {G : q_G} {l : Launch} : ∀ (h : q_H) (a0 : Nat) (a1 : Int32) (q : q_H × Int64), f_X5_at h a0 a1 = some q → (∃ fs, h.1 a0 = .inr (4, fs)) ∧ q_CT G l yX5_at cX5_at 2 (some .long) 0 0 [.ref a0, .int a1] h q.1 (q_l q.2) := by
  intro h a0 a1 q e
  obtain ⟨e1, e2⟩ := q_chk_ok e
  exact ⟨e1, q_ofJ Y_X5_at (Nat.le_of_ble_eq_true rfl) (jb_X5_at_0 h a0 a1) q e2⟩
/-! FarFolders$Letter.folder(J)I -/
theorem dX1_folder_0 : decode cX1_folder 0 = .ok (.lload_n 0, 1) := by decide +kernel
theorem dX1_folder_1 : decode cX1_folder 1 = .ok (.bipush 8, 2) := by decide +kernel
theorem dX1_folder_3 : decode cX1_folder 3 = .ok (.lushr, 1) := by decide +kernel
theorem dX1_folder_4 : decode cX1_folder 4 = .ok (.l2i, 1) := by decide +kernel
theorem dX1_folder_5 : decode cX1_folder 5 = .ok (.bipush 15, 2) := by decide +kernel
theorem dX1_folder_7 : decode cX1_folder 7 = .ok (.iand, 1) := by decide +kernel
theorem dX1_folder_8 : decode cX1_folder 8 = .ok (.ireturn, 1) := by decide +kernel
def b_X1_folder_0 (h : q_H) (v0 : Int64) : Option (q_H × Int32) :=
  some (h, ((Int64.toInt32 (q_lushr v0 (8))) &&& (15)))
def f_X1_folder (h : q_H) (a0 : Int64) : Option (q_H × Int32) := b_X1_folder_0 h a0
set_option maxRecDepth 20000 in
set_option maxHeartbeats 1000000 in
theorem jb_X1_folder_0 {G : q_G} {l : Launch} {k0 z0 : Nat} (h : q_H) (v0 : Int64) : q_J G l (RX1, cX1_folder, 2, 0, 0, (some .int), "folder", []) k0 z0 (q_Z G k0 z0 q_i) 0 [(0, .long v0)] [] h (b_X1_folder_0 h v0) := by
  unfold b_X1_folder_0
  refine j_lload_n (pc := 0) (p := 0) rfl rfl dX1_folder_0 ?_
  refine j_bipush (pc := 1) kb_8 dX1_folder_1 ?_
  refine j_lushr (pc := 3) dX1_folder_3 ?_
  refine j_l2i (pc := 4) dX1_folder_4 ?_
  refine j_bipush (pc := 5) kb_15 dX1_folder_5 ?_
  refine j_iand (pc := 7) dX1_folder_7 ?_
  exact j_iret (pc := 8) rfl dX1_folder_8
set_option maxRecDepth 20000 in
set_option maxHeartbeats 1000000 in
theorem c_X1_folder {G : q_G} {l : Launch} : ∀ (h : q_H) (a0 : Int64) (q : q_H × Int32), f_X1_folder h a0 = some q → q_CT G l yX1_folder cX1_folder 2 (some .int) 0 0 [.long a0] h q.1 (q_i q.2) := by
  intro h a0 q e
  exact q_ofJ Y_X1_folder (Nat.le_of_ble_eq_true rfl) (jb_X1_folder_0 h a0) q e
/-! FarFolders$Row.has(I)Z -/
theorem dX4_has_0 : decode cX4_has 0 = .ok (.iload_n 1, 1) := by decide +kernel
theorem dX4_has_1 : decode cX4_has 1 = .ok (.ifCond .lt 24, 3) := by decide +kernel
theorem dX4_has_4 : decode cX4_has 4 = .ok (.iload_n 1, 1) := by decide +kernel
theorem dX4_has_5 : decode cX4_has 5 = .ok (.aload_n 0, 1) := by decide +kernel
theorem dX4_has_6 : decode cX4_has 6 = .ok (.getfield 15, 3) := by decide +kernel
theorem dX4_has_9 : decode cX4_has 9 = .ok (.if_icmp .ge 16, 3) := by decide +kernel
theorem dX4_has_12 : decode cX4_has 12 = .ok (.iload_n 1, 1) := by decide +kernel
theorem dX4_has_13 : decode cX4_has 13 = .ok (.aload_n 0, 1) := by decide +kernel
theorem dX4_has_14 : decode cX4_has 14 = .ok (.getfield 9, 3) := by decide +kernel
theorem dX4_has_17 : decode cX4_has 17 = .ok (.arraylength, 1) := by decide +kernel
theorem dX4_has_18 : decode cX4_has 18 = .ok (.if_icmp .ge 7, 3) := by decide +kernel
theorem dX4_has_21 : decode cX4_has 21 = .ok (.iconst 1, 1) := by decide +kernel
theorem dX4_has_22 : decode cX4_has 22 = .ok (.goto 4, 3) := by decide +kernel
theorem dX4_has_25 : decode cX4_has 25 = .ok (.iconst 0, 1) := by decide +kernel
theorem dX4_has_26 : decode cX4_has 26 = .ok (.ireturn, 1) := by decide +kernel
def b_X4_has_0 (h : q_H) (v0 : Nat) (v1 : Int32) : Option (q_H × Int32) :=
  if v1 < 0 then some (h, (0)) else Option.bind (q_gI 3 1 h v0) (fun x1 => if x1 ≤ v1 then some (h, (0)) else Option.bind (q_gR 3 0 h v0) (fun x2 => Option.bind (q_len h x2) (fun x3 => if x3 ≤ v1 then some (h, (0)) else some (h, (1)))))
def f_X4_has (h : q_H) (a0 : Nat) (a1 : Int32) : Option (q_H × Int32) := q_chk 3 h a0 (b_X4_has_0 h a0 a1)
set_option maxRecDepth 20000 in
set_option maxHeartbeats 1000000 in
theorem jb_X4_has_0 {G : q_G} {l : Launch} {k0 z0 : Nat} (h : q_H) (v0 : Nat) (v1 : Int32) : q_J G l (RX4, cX4_has, 2, 0, 0, (some .boolean), "has", []) k0 z0 (q_Z G k0 z0 q_i) 0 [(0, .ref v0), (1, .int v1)] [] h (b_X4_has_0 h v0 v1) := by
  unfold b_X4_has_0
  refine j_iload_n (pc := 0) (p := 1) rfl rfl dX4_has_0 ?_
  refine j_if_lt (pc := 1) (tgt := 25) dX4_has_1 (by decide) (fun _ => ?_) (fun _ => ?_)
  · refine j_iconst (pc := 25) ki_0 dX4_has_25 ?_
    exact j_zret (pc := 26) rfl rfl dX4_has_26
  refine j_iload_n (pc := 4) (p := 1) rfl rfl dX4_has_4 ?_
  refine j_aload_n (pc := 5) (p := 0) rfl rfl dX4_has_5 ?_
  refine j_getI (pc := 6) FI_X4 (k := 1) (by decide) fl_X4_15 dX4_has_6 (fun x1 _ => ?_)
  refine j_ic_ge (pc := 9) (tgt := 25) dX4_has_9 (by decide) (fun _ => ?_) (fun _ => ?_)
  · refine j_iconst (pc := 25) ki_0 dX4_has_25 ?_
    exact j_zret (pc := 26) rfl rfl dX4_has_26
  refine j_iload_n (pc := 12) (p := 1) rfl rfl dX4_has_12 ?_
  refine j_aload_n (pc := 13) (p := 0) rfl rfl dX4_has_13 ?_
  refine j_getR (pc := 14) FI_X4 (k := 0) (by decide) fl_X4_9 dX4_has_14 (fun x2 _ => ?_)
  refine j_alen (pc := 17) dX4_has_17 (fun x3 _ => ?_)
  refine j_ic_ge (pc := 18) (tgt := 25) dX4_has_18 (by decide) (fun _ => ?_) (fun _ => ?_)
  · refine j_iconst (pc := 25) ki_0 dX4_has_25 ?_
    exact j_zret (pc := 26) rfl rfl dX4_has_26
  refine j_iconst (pc := 21) ki_1 dX4_has_21 ?_
  refine j_goto (pc := 22) (tgt := 26) dX4_has_22 (by decide) ?_
  exact j_zret (pc := 26) rfl rfl dX4_has_26
set_option maxRecDepth 20000 in
set_option maxHeartbeats 1000000 in
theorem c_X4_has {G : q_G} {l : Launch} : ∀ (h : q_H) (a0 : Nat) (a1 : Int32) (q : q_H × Int32), f_X4_has h a0 a1 = some q → (∃ fs, h.1 a0 = .inr (3, fs)) ∧ q_CT G l yX4_has cX4_has 2 (some .boolean) 0 0 [.ref a0, .int a1] h q.1 (q_i q.2) := by
  intro h a0 a1 q e
  obtain ⟨e1, e2⟩ := q_chk_ok e
  exact ⟨e1, q_ofJ Y_X4_has (Nat.le_of_ble_eq_true rfl) (jb_X4_has_0 h a0 a1) q e2⟩
/-! FarFolders$Series.copyFrom(LFarFolders$Series;)V -/
theorem dX5_copyFrom_0 : decode cX5_copyFrom 0 = .ok (.aload_n 0, 1) := by decide +kernel
theorem dX5_copyFrom_1 : decode cX5_copyFrom 1 = .ok (.aload_n 1, 1) := by decide +kernel
theorem dX5_copyFrom_2 : decode cX5_copyFrom 2 = .ok (.getfield 21, 3) := by decide +kernel
theorem dX5_copyFrom_5 : decode cX5_copyFrom 5 = .ok (.aload_n 0, 1) := by decide +kernel
theorem dX5_copyFrom_6 : decode cX5_copyFrom 6 = .ok (.getfield 15, 3) := by decide +kernel
theorem dX5_copyFrom_9 : decode cX5_copyFrom 9 = .ok (.arraylength, 1) := by decide +kernel
theorem dX5_copyFrom_10 : decode cX5_copyFrom 10 = .ok (.invokestatic 25, 3) := by decide +kernel
theorem dX5_copyFrom_13 : decode cX5_copyFrom 13 = .ok (.putfield 21, 3) := by decide +kernel
theorem dX5_copyFrom_16 : decode cX5_copyFrom 16 = .ok (.aload_n 1, 1) := by decide +kernel
theorem dX5_copyFrom_17 : decode cX5_copyFrom 17 = .ok (.getfield 15, 3) := by decide +kernel
theorem dX5_copyFrom_20 : decode cX5_copyFrom 20 = .ok (.iconst 0, 1) := by decide +kernel
theorem dX5_copyFrom_21 : decode cX5_copyFrom 21 = .ok (.aload_n 0, 1) := by decide +kernel
theorem dX5_copyFrom_22 : decode cX5_copyFrom 22 = .ok (.getfield 15, 3) := by decide +kernel
theorem dX5_copyFrom_25 : decode cX5_copyFrom 25 = .ok (.iconst 0, 1) := by decide +kernel
theorem dX5_copyFrom_26 : decode cX5_copyFrom 26 = .ok (.aload_n 0, 1) := by decide +kernel
theorem dX5_copyFrom_27 : decode cX5_copyFrom 27 = .ok (.getfield 21, 3) := by decide +kernel
theorem dX5_copyFrom_30 : decode cX5_copyFrom 30 = .ok (.invokestatic 28, 3) := by decide +kernel
theorem dX5_copyFrom_33 : decode cX5_copyFrom 33 = .ok (.return_, 1) := by decide +kernel
def b_X5_copyFrom_0 (h : q_H) (v0 : Nat) (v1 : Nat) : Option (q_H × Unit) :=
  Option.bind (q_gI 4 1 h v1) (fun x1 => Option.bind (q_gR 4 0 h v0) (fun x2 => Option.bind (q_len h x2) (fun x3 => Option.bind (q_p 4 1 h v0 (.int (q_min x1 x3))) (fun h4 => Option.bind (q_gR 4 0 h4 v1) (fun x5 => Option.bind (q_gR 4 0 h4 v0) (fun x6 => Option.bind (q_gI 4 1 h4 v0) (fun x7 => Option.bind (q_cpL h4 x5 (0) x6 (0) x7) (fun h8 => some (h8, ())))))))))
def f_X5_copyFrom (h : q_H) (a0 : Nat) (a1 : Nat) : Option (q_H × Unit) := q_chk 4 h a0 (b_X5_copyFrom_0 h a0 a1)
set_option maxRecDepth 20000 in
set_option maxHeartbeats 1000000 in
theorem jb_X5_copyFrom_0 {G : q_G} {l : Launch} {k0 z0 : Nat} (h : q_H) (v0 : Nat) (v1 : Nat) : q_J G l (RX5, cX5_copyFrom, 2, 1, 60, none, "copyFrom", []) k0 z0 (q_Z G k0 z0 q_u) 0 [(0, .ref v0), (1, .ref v1)] [] h (b_X5_copyFrom_0 h v0 v1) := by
  unfold b_X5_copyFrom_0
  refine j_aload_n (pc := 0) (p := 0) rfl rfl dX5_copyFrom_0 ?_
  refine j_aload_n (pc := 1) (p := 1) rfl rfl dX5_copyFrom_1 ?_
  refine j_getI (pc := 2) FI_X5 (k := 1) (by decide) fl_X5_21 dX5_copyFrom_2 (fun x1 _ => ?_)
  refine j_aload_n (pc := 5) (p := 0) rfl rfl dX5_copyFrom_5 ?_
  refine j_getR (pc := 6) FI_X5 (k := 0) (by decide) fl_X5_15 dX5_copyFrom_6 (fun x2 _ => ?_)
  refine j_alen (pc := 9) dX5_copyFrom_9 (fun x3 _ => ?_)
  refine j_min (pc := 10) ml_X5_25 sm_min ini_Math co_min ⟨Nat.le_of_ble_eq_true rfl, Nat.le_of_ble_eq_true rfl⟩ dX5_copyFrom_10 ?_
  refine j_put (pc := 13) FI_X5 (k := 1) (by decide) fl_X5_21 rfl rfl rfl dX5_copyFrom_13 (fun h4 _ => ?_)
  refine j_aload_n (pc := 16) (p := 1) rfl rfl dX5_copyFrom_16 ?_
  refine j_getR (pc := 17) FI_X5 (k := 0) (by decide) fl_X5_15 dX5_copyFrom_17 (fun x5 _ => ?_)
  refine j_iconst (pc := 20) ki_0 dX5_copyFrom_20 ?_
  refine j_aload_n (pc := 21) (p := 0) rfl rfl dX5_copyFrom_21 ?_
  refine j_getR (pc := 22) FI_X5 (k := 0) (by decide) fl_X5_15 dX5_copyFrom_22 (fun x6 _ => ?_)
  refine j_iconst (pc := 25) ki_0 dX5_copyFrom_25 ?_
  refine j_aload_n (pc := 26) (p := 0) rfl rfl dX5_copyFrom_26 ?_
  refine j_getI (pc := 27) FI_X5 (k := 1) (by decide) fl_X5_21 dX5_copyFrom_27 (fun x7 _ => ?_)
  refine j_cpL (pc := 30) ml_X5_28 na_acopy sm_acopy ini_System ⟨Nat.le_of_ble_eq_true rfl, Nat.le_of_ble_eq_true rfl⟩ dX5_copyFrom_30 (fun h8 _ => ?_)
  exact j_vret (pc := 33) rfl dX5_copyFrom_33
set_option maxRecDepth 20000 in
set_option maxHeartbeats 1000000 in
theorem c_X5_copyFrom {G : q_G} {l : Launch} : ∀ (h : q_H) (a0 : Nat) (a1 : Nat) (q : q_H × Unit), f_X5_copyFrom h a0 a1 = some q → (∃ fs, h.1 a0 = .inr (4, fs)) ∧ q_CT G l yX5_copyFrom cX5_copyFrom 2 none 1 60 [.ref a0, .ref a1] h q.1 (q_u q.2) := by
  intro h a0 a1 q e
  obtain ⟨e1, e2⟩ := q_chk_ok e
  exact ⟨e1, q_ofJ Y_X5_copyFrom (Nat.le_of_ble_eq_true rfl) (jb_X5_copyFrom_0 h a0 a1) q e2⟩
/-! FarFolders$Tree.copyFrom(LFarFolders$Tree;)V -/
theorem dX7_copyFrom_0 : decode cX7_copyFrom 0 = .ok (.aload_n 1, 1) := by decide +kernel
theorem dX7_copyFrom_1 : decode cX7_copyFrom 1 = .ok (.getfield 9, 3) := by decide +kernel
theorem dX7_copyFrom_4 : decode cX7_copyFrom 4 = .ok (.iconst 0, 1) := by decide +kernel
theorem dX7_copyFrom_5 : decode cX7_copyFrom 5 = .ok (.aload_n 0, 1) := by decide +kernel
theorem dX7_copyFrom_6 : decode cX7_copyFrom 6 = .ok (.getfield 9, 3) := by decide +kernel
theorem dX7_copyFrom_9 : decode cX7_copyFrom 9 = .ok (.iconst 0, 1) := by decide +kernel
theorem dX7_copyFrom_10 : decode cX7_copyFrom 10 = .ok (.aload_n 0, 1) := by decide +kernel
theorem dX7_copyFrom_11 : decode cX7_copyFrom 11 = .ok (.getfield 9, 3) := by decide +kernel
theorem dX7_copyFrom_14 : decode cX7_copyFrom 14 = .ok (.arraylength, 1) := by decide +kernel
theorem dX7_copyFrom_15 : decode cX7_copyFrom 15 = .ok (.invokestatic 15, 3) := by decide +kernel
theorem dX7_copyFrom_18 : decode cX7_copyFrom 18 = .ok (.return_, 1) := by decide +kernel
def b_X7_copyFrom_0 (h : q_H) (v0 : Nat) (v1 : Nat) : Option (q_H × Unit) :=
  Option.bind (q_gR 6 0 h v1) (fun x1 => Option.bind (q_gR 6 0 h v0) (fun x2 => Option.bind (q_gR 6 0 h v0) (fun x3 => Option.bind (q_len h x3) (fun x4 => Option.bind (q_cpL h x1 (0) x2 (0) x4) (fun h5 => some (h5, ()))))))
def f_X7_copyFrom (h : q_H) (a0 : Nat) (a1 : Nat) : Option (q_H × Unit) := q_chk 6 h a0 (b_X7_copyFrom_0 h a0 a1)
set_option maxRecDepth 20000 in
set_option maxHeartbeats 1000000 in
theorem jb_X7_copyFrom_0 {G : q_G} {l : Launch} {k0 z0 : Nat} (h : q_H) (v0 : Nat) (v1 : Nat) : q_J G l (RX7, cX7_copyFrom, 2, 1, 60, none, "copyFrom", []) k0 z0 (q_Z G k0 z0 q_u) 0 [(0, .ref v0), (1, .ref v1)] [] h (b_X7_copyFrom_0 h v0 v1) := by
  unfold b_X7_copyFrom_0
  refine j_aload_n (pc := 0) (p := 1) rfl rfl dX7_copyFrom_0 ?_
  refine j_getR (pc := 1) FI_X7 (k := 0) (by decide) fl_X7_9 dX7_copyFrom_1 (fun x1 _ => ?_)
  refine j_iconst (pc := 4) ki_0 dX7_copyFrom_4 ?_
  refine j_aload_n (pc := 5) (p := 0) rfl rfl dX7_copyFrom_5 ?_
  refine j_getR (pc := 6) FI_X7 (k := 0) (by decide) fl_X7_9 dX7_copyFrom_6 (fun x2 _ => ?_)
  refine j_iconst (pc := 9) ki_0 dX7_copyFrom_9 ?_
  refine j_aload_n (pc := 10) (p := 0) rfl rfl dX7_copyFrom_10 ?_
  refine j_getR (pc := 11) FI_X7 (k := 0) (by decide) fl_X7_9 dX7_copyFrom_11 (fun x3 _ => ?_)
  refine j_alen (pc := 14) dX7_copyFrom_14 (fun x4 _ => ?_)
  refine j_cpL (pc := 15) ml_X7_15 na_acopy sm_acopy ini_System ⟨Nat.le_of_ble_eq_true rfl, Nat.le_of_ble_eq_true rfl⟩ dX7_copyFrom_15 (fun h5 _ => ?_)
  exact j_vret (pc := 18) rfl dX7_copyFrom_18
set_option maxRecDepth 20000 in
set_option maxHeartbeats 1000000 in
theorem c_X7_copyFrom {G : q_G} {l : Launch} : ∀ (h : q_H) (a0 : Nat) (a1 : Nat) (q : q_H × Unit), f_X7_copyFrom h a0 a1 = some q → (∃ fs, h.1 a0 = .inr (6, fs)) ∧ q_CT G l yX7_copyFrom cX7_copyFrom 2 none 1 60 [.ref a0, .ref a1] h q.1 (q_u q.2) := by
  intro h a0 a1 q e
  obtain ⟨e1, e2⟩ := q_chk_ok e
  exact ⟨e1, q_ofJ Y_X7_copyFrom (Nat.le_of_ble_eq_true rfl) (jb_X7_copyFrom_0 h a0 a1) q e2⟩
/-! FarFolders$Copy.copyFrom(LFarFolders$Copy;)V -/
theorem dX0_copyFrom_0 : decode cX0_copyFrom 0 = .ok (.aload_n 0, 1) := by decide +kernel
theorem dX0_copyFrom_1 : decode cX0_copyFrom 1 = .ok (.aload_n 1, 1) := by decide +kernel
theorem dX0_copyFrom_2 : decode cX0_copyFrom 2 = .ok (.getfield 38, 3) := by decide +kernel
theorem dX0_copyFrom_5 : decode cX0_copyFrom 5 = .ok (.putfield 38, 3) := by decide +kernel
theorem dX0_copyFrom_8 : decode cX0_copyFrom 8 = .ok (.aload_n 1, 1) := by decide +kernel
theorem dX0_copyFrom_9 : decode cX0_copyFrom 9 = .ok (.getfield 9, 3) := by decide +kernel
theorem dX0_copyFrom_12 : decode cX0_copyFrom 12 = .ok (.iconst 0, 1) := by decide +kernel
theorem dX0_copyFrom_13 : decode cX0_copyFrom 13 = .ok (.aload_n 0, 1) := by decide +kernel
theorem dX0_copyFrom_14 : decode cX0_copyFrom 14 = .ok (.getfield 9, 3) := by decide +kernel
theorem dX0_copyFrom_17 : decode cX0_copyFrom 17 = .ok (.iconst 0, 1) := by decide +kernel
theorem dX0_copyFrom_18 : decode cX0_copyFrom 18 = .ok (.aload_n 0, 1) := by decide +kernel
theorem dX0_copyFrom_19 : decode cX0_copyFrom 19 = .ok (.getfield 9, 3) := by decide +kernel
theorem dX0_copyFrom_22 : decode cX0_copyFrom 22 = .ok (.arraylength, 1) := by decide +kernel
theorem dX0_copyFrom_23 : decode cX0_copyFrom 23 = .ok (.invokestatic 41, 3) := by decide +kernel
theorem dX0_copyFrom_26 : decode cX0_copyFrom 26 = .ok (.aload_n 0, 1) := by decide +kernel
theorem dX0_copyFrom_27 : decode cX0_copyFrom 27 = .ok (.getfield 20, 3) := by decide +kernel
theorem dX0_copyFrom_30 : decode cX0_copyFrom 30 = .ok (.aload_n 1, 1) := by decide +kernel
theorem dX0_copyFrom_31 : decode cX0_copyFrom 31 = .ok (.getfield 20, 3) := by decide +kernel
theorem dX0_copyFrom_34 : decode cX0_copyFrom 34 = .ok (.invokevirtual 47, 3) := by decide +kernel
theorem dX0_copyFrom_37 : decode cX0_copyFrom 37 = .ok (.aload_n 0, 1) := by decide +kernel
theorem dX0_copyFrom_38 : decode cX0_copyFrom 38 = .ok (.getfield 27, 3) := by decide +kernel
theorem dX0_copyFrom_41 : decode cX0_copyFrom 41 = .ok (.aload_n 1, 1) := by decide +kernel
theorem dX0_copyFrom_42 : decode cX0_copyFrom 42 = .ok (.getfield 27, 3) := by decide +kernel
theorem dX0_copyFrom_45 : decode cX0_copyFrom 45 = .ok (.invokevirtual 51, 3) := by decide +kernel
theorem dX0_copyFrom_48 : decode cX0_copyFrom 48 = .ok (.aload_n 0, 1) := by decide +kernel
theorem dX0_copyFrom_49 : decode cX0_copyFrom 49 = .ok (.getfield 31, 3) := by decide +kernel
theorem dX0_copyFrom_52 : decode cX0_copyFrom 52 = .ok (.aload_n 1, 1) := by decide +kernel
theorem dX0_copyFrom_53 : decode cX0_copyFrom 53 = .ok (.getfield 31, 3) := by decide +kernel
theorem dX0_copyFrom_56 : decode cX0_copyFrom 56 = .ok (.invokevirtual 51, 3) := by decide +kernel
theorem dX0_copyFrom_59 : decode cX0_copyFrom 59 = .ok (.aload_n 0, 1) := by decide +kernel
theorem dX0_copyFrom_60 : decode cX0_copyFrom 60 = .ok (.aload_n 1, 1) := by decide +kernel
theorem dX0_copyFrom_61 : decode cX0_copyFrom 61 = .ok (.getfield 54, 3) := by decide +kernel
theorem dX0_copyFrom_64 : decode cX0_copyFrom 64 = .ok (.putfield 54, 3) := by decide +kernel
theorem dX0_copyFrom_67 : decode cX0_copyFrom 67 = .ok (.return_, 1) := by decide +kernel
def b_X0_copyFrom_0 (h : q_H) (v0 : Nat) (v1 : Nat) : Option (q_H × Unit) :=
  Option.bind (q_gI 0 1 h v1) (fun x1 => Option.bind (q_p 0 1 h v0 (.int x1)) (fun h2 => Option.bind (q_gR 0 2 h2 v1) (fun x3 => Option.bind (q_gR 0 2 h2 v0) (fun x4 => Option.bind (q_gR 0 2 h2 v0) (fun x5 => Option.bind (q_len h2 x5) (fun x6 => Option.bind (q_cpI h2 x3 (0) x4 (0) x6) (fun h7 => Option.bind (q_gR 0 3 h7 v0) (fun x8 => Option.bind (q_gR 0 3 h7 v1) (fun x9 => Option.bind (f_X5_copyFrom h7 x8 x9) (fun q10 => Option.bind (q_gR 0 4 q10.1 v0) (fun x11 => Option.bind (q_gR 0 4 q10.1 v1) (fun x12 => Option.bind (f_X7_copyFrom q10.1 x11 x12) (fun q13 => Option.bind (q_gR 0 5 q13.1 v0) (fun x14 => Option.bind (q_gR 0 5 q13.1 v1) (fun x15 => Option.bind (f_X7_copyFrom q13.1 x14 x15) (fun q16 => Option.bind (q_gI 0 6 q16.1 v1) (fun x17 => Option.bind (q_p 0 6 q16.1 v0 (.int x17)) (fun h18 => some (h18, ())))))))))))))))))))
def f_X0_copyFrom (h : q_H) (a0 : Nat) (a1 : Nat) : Option (q_H × Unit) := q_chk 0 h a0 (b_X0_copyFrom_0 h a0 a1)
set_option maxRecDepth 20000 in
set_option maxHeartbeats 1000000 in
theorem jb_X0_copyFrom_0 {G : q_G} {l : Launch} {k0 z0 : Nat} (h : q_H) (v0 : Nat) (v1 : Nat) : q_J G l (RX0, cX0_copyFrom, 2, 2, 81, none, "copyFrom", []) k0 z0 (q_Z G k0 z0 q_u) 0 [(0, .ref v0), (1, .ref v1)] [] h (b_X0_copyFrom_0 h v0 v1) := by
  unfold b_X0_copyFrom_0
  refine j_aload_n (pc := 0) (p := 0) rfl rfl dX0_copyFrom_0 ?_
  refine j_aload_n (pc := 1) (p := 1) rfl rfl dX0_copyFrom_1 ?_
  refine j_getI (pc := 2) FI_X0 (k := 1) (by decide) fl_X0_38 dX0_copyFrom_2 (fun x1 _ => ?_)
  refine j_put (pc := 5) FI_X0 (k := 1) (by decide) fl_X0_38 rfl rfl rfl dX0_copyFrom_5 (fun h2 _ => ?_)
  refine j_aload_n (pc := 8) (p := 1) rfl rfl dX0_copyFrom_8 ?_
  refine j_getR (pc := 9) FI_X0 (k := 2) (by decide) fl_X0_9 dX0_copyFrom_9 (fun x3 _ => ?_)
  refine j_iconst (pc := 12) ki_0 dX0_copyFrom_12 ?_
  refine j_aload_n (pc := 13) (p := 0) rfl rfl dX0_copyFrom_13 ?_
  refine j_getR (pc := 14) FI_X0 (k := 2) (by decide) fl_X0_9 dX0_copyFrom_14 (fun x4 _ => ?_)
  refine j_iconst (pc := 17) ki_0 dX0_copyFrom_17 ?_
  refine j_aload_n (pc := 18) (p := 0) rfl rfl dX0_copyFrom_18 ?_
  refine j_getR (pc := 19) FI_X0 (k := 2) (by decide) fl_X0_9 dX0_copyFrom_19 (fun x5 _ => ?_)
  refine j_alen (pc := 22) dX0_copyFrom_22 (fun x6 _ => ?_)
  refine j_cpI (pc := 23) ml_X0_41 na_acopy sm_acopy ini_System ⟨Nat.le_of_ble_eq_true rfl, Nat.le_of_ble_eq_true rfl⟩ dX0_copyFrom_23 (fun h7 _ => ?_)
  refine j_aload_n (pc := 26) (p := 0) rfl rfl dX0_copyFrom_26 ?_
  refine j_getR (pc := 27) FI_X0 (k := 3) (by decide) fl_X0_20 dX0_copyFrom_27 (fun x8 _ => ?_)
  refine j_aload_n (pc := 30) (p := 1) rfl rfl dX0_copyFrom_30 ?_
  refine j_getR (pc := 31) FI_X0 (k := 3) (by decide) fl_X0_20 dX0_copyFrom_31 (fun x9 _ => ?_)
  refine j_cVu (pc := 34) Y_X5_copyFrom (ci := 4) (b := x8) rfl rfl ml_X0_47 im_X5_copyFrom se_X5_copyFrom ⟨Nat.le_of_ble_eq_true rfl, Nat.le_of_ble_eq_true rfl⟩ dX0_copyFrom_34 (As := [.ref x9]) (rest := []) rfl rfl (Nat.le_of_ble_eq_true rfl) (fun x hq9 => c_X5_copyFrom _ _ _ _ hq9) (fun q10 _ => ?_)
  refine j_aload_n (pc := 37) (p := 0) rfl rfl dX0_copyFrom_37 ?_
  refine j_getR (pc := 38) FI_X0 (k := 4) (by decide) fl_X0_27 dX0_copyFrom_38 (fun x11 _ => ?_)
  refine j_aload_n (pc := 41) (p := 1) rfl rfl dX0_copyFrom_41 ?_
  refine j_getR (pc := 42) FI_X0 (k := 4) (by decide) fl_X0_27 dX0_copyFrom_42 (fun x12 _ => ?_)
  refine j_cVu (pc := 45) Y_X7_copyFrom (ci := 6) (b := x11) rfl rfl ml_X0_51 im_X7_copyFrom se_X7_copyFrom ⟨Nat.le_of_ble_eq_true rfl, Nat.le_of_ble_eq_true rfl⟩ dX0_copyFrom_45 (As := [.ref x12]) (rest := []) rfl rfl (Nat.le_of_ble_eq_true rfl) (fun x hq9 => c_X7_copyFrom _ _ _ _ hq9) (fun q13 _ => ?_)
  refine j_aload_n (pc := 48) (p := 0) rfl rfl dX0_copyFrom_48 ?_
  refine j_getR (pc := 49) FI_X0 (k := 5) (by decide) fl_X0_31 dX0_copyFrom_49 (fun x14 _ => ?_)
  refine j_aload_n (pc := 52) (p := 1) rfl rfl dX0_copyFrom_52 ?_
  refine j_getR (pc := 53) FI_X0 (k := 5) (by decide) fl_X0_31 dX0_copyFrom_53 (fun x15 _ => ?_)
  refine j_cVu (pc := 56) Y_X7_copyFrom (ci := 6) (b := x14) rfl rfl ml_X0_51 im_X7_copyFrom se_X7_copyFrom ⟨Nat.le_of_ble_eq_true rfl, Nat.le_of_ble_eq_true rfl⟩ dX0_copyFrom_56 (As := [.ref x15]) (rest := []) rfl rfl (Nat.le_of_ble_eq_true rfl) (fun x hq9 => c_X7_copyFrom _ _ _ _ hq9) (fun q16 _ => ?_)
  refine j_aload_n (pc := 59) (p := 0) rfl rfl dX0_copyFrom_59 ?_
  refine j_aload_n (pc := 60) (p := 1) rfl rfl dX0_copyFrom_60 ?_
  refine j_getI (pc := 61) FI_X0 (k := 6) (by decide) fl_X0_54 dX0_copyFrom_61 (fun x17 _ => ?_)
  refine j_put (pc := 64) FI_X0 (k := 6) (by decide) fl_X0_54 rfl rfl rfl dX0_copyFrom_64 (fun h18 _ => ?_)
  exact j_vret (pc := 67) rfl dX0_copyFrom_67
set_option maxRecDepth 20000 in
set_option maxHeartbeats 1000000 in
theorem c_X0_copyFrom {G : q_G} {l : Launch} : ∀ (h : q_H) (a0 : Nat) (a1 : Nat) (q : q_H × Unit), f_X0_copyFrom h a0 a1 = some q → (∃ fs, h.1 a0 = .inr (0, fs)) ∧ q_CT G l yX0_copyFrom cX0_copyFrom 2 none 2 81 [.ref a0, .ref a1] h q.1 (q_u q.2) := by
  intro h a0 a1 q e
  obtain ⟨e1, e2⟩ := q_chk_ok e
  exact ⟨e1, q_ofJ Y_X0_copyFrom (Nat.le_of_ble_eq_true rfl) (jb_X0_copyFrom_0 h a0 a1) q e2⟩
/-! FarFolders.nextCopy(I)I -/
theorem dX9_nextCopy_0 : decode cX9_nextCopy 0 = .ok (.iload_n 0, 1) := by decide +kernel
theorem dX9_nextCopy_1 : decode cX9_nextCopy 1 = .ok (.iconst 2, 1) := by decide +kernel
theorem dX9_nextCopy_2 : decode cX9_nextCopy 2 = .ok (.if_icmp .ne 7, 3) := by decide +kernel
theorem dX9_nextCopy_5 : decode cX9_nextCopy 5 = .ok (.iconst 0, 1) := by decide +kernel
theorem dX9_nextCopy_6 : decode cX9_nextCopy 6 = .ok (.goto 6, 3) := by decide +kernel
theorem dX9_nextCopy_9 : decode cX9_nextCopy 9 = .ok (.iload_n 0, 1) := by decide +kernel
theorem dX9_nextCopy_10 : decode cX9_nextCopy 10 = .ok (.iconst 1, 1) := by decide +kernel
theorem dX9_nextCopy_11 : decode cX9_nextCopy 11 = .ok (.iadd, 1) := by decide +kernel
theorem dX9_nextCopy_12 : decode cX9_nextCopy 12 = .ok (.ireturn, 1) := by decide +kernel
def b_X9_nextCopy_0 (h : q_H) (v0 : Int32) : Option (q_H × Int32) :=
  if v0 = (2) then some (h, (0)) else some (h, (v0 + (1)))
def f_X9_nextCopy (h : q_H) (a0 : Int32) : Option (q_H × Int32) := b_X9_nextCopy_0 h a0
set_option maxRecDepth 20000 in
set_option maxHeartbeats 1000000 in
theorem jb_X9_nextCopy_0 {G : q_G} {l : Launch} {k0 z0 : Nat} (h : q_H) (v0 : Int32) : q_J G l (RX9, cX9_nextCopy, 1, 0, 0, (some .int), "nextCopy", []) k0 z0 (q_Z G k0 z0 q_i) 0 [(0, .int v0)] [] h (b_X9_nextCopy_0 h v0) := by
  unfold b_X9_nextCopy_0
  refine j_iload_n (pc := 0) (p := 0) rfl rfl dX9_nextCopy_0 ?_
  refine j_iconst (pc := 1) ki_2 dX9_nextCopy_1 ?_
  refine j_ic_ne (pc := 2) (tgt := 9) dX9_nextCopy_2 (by decide) (fun _ => ?_) (fun _ => ?_)
  · refine j_iconst (pc := 5) ki_0 dX9_nextCopy_5 ?_
    refine j_goto (pc := 6) (tgt := 12) dX9_nextCopy_6 (by decide) ?_
    exact j_iret (pc := 12) rfl dX9_nextCopy_12
  refine j_iload_n (pc := 9) (p := 0) rfl rfl dX9_nextCopy_9 ?_
  refine j_iconst (pc := 10) ki_1 dX9_nextCopy_10 ?_
  refine j_iadd (pc := 11) dX9_nextCopy_11 ?_
  exact j_iret (pc := 12) rfl dX9_nextCopy_12
set_option maxRecDepth 20000 in
set_option maxHeartbeats 1000000 in
theorem c_X9_nextCopy {G : q_G} {l : Launch} : ∀ (h : q_H) (a0 : Int32) (q : q_H × Int32), f_X9_nextCopy h a0 = some q → q_CT G l yX9_nextCopy cX9_nextCopy 1 (some .int) 0 0 [.int a0] h q.1 (q_i q.2) := by
  intro h a0 q e
  exact q_ofJ Y_X9_nextCopy (Nat.le_of_ble_eq_true rfl) (jb_X9_nextCopy_0 h a0) q e
/-! FarFolders$Copy.stableTime()I -/
theorem dX0_stableTime_0 : decode cX0_stableTime 0 = .ok (.aload_n 0, 1) := by decide +kernel
theorem dX0_stableTime_1 : decode cX0_stableTime 1 = .ok (.getfield 9, 3) := by decide +kernel
theorem dX0_stableTime_4 : decode cX0_stableTime 4 = .ok (.aload_n 0, 1) := by decide +kernel
theorem dX0_stableTime_5 : decode cX0_stableTime 5 = .ok (.getfield 34, 3) := by decide +kernel
theorem dX0_stableTime_8 : decode cX0_stableTime 8 = .ok (.invokestatic 60, 3) := by decide +kernel
theorem dX0_stableTime_11 : decode cX0_stableTime 11 = .ok (.iaload, 1) := by decide +kernel
theorem dX0_stableTime_12 : decode cX0_stableTime 12 = .ok (.aload_n 0, 1) := by decide +kernel
theorem dX0_stableTime_13 : decode cX0_stableTime 13 = .ok (.getfield 9, 3) := by decide +kernel
theorem dX0_stableTime_16 : decode cX0_stableTime 16 = .ok (.aload_n 0, 1) := by decide +kernel
theorem dX0_stableTime_17 : decode cX0_stableTime 17 = .ok (.getfield 34, 3) := by decide +kernel
theorem dX0_stableTime_20 : decode cX0_stableTime 20 = .ok (.invokestatic 60, 3) := by decide +kernel
theorem dX0_stableTime_23 : decode cX0_stableTime 23 = .ok (.invokestatic 60, 3) := by decide +kernel
theorem dX0_stableTime_26 : decode cX0_stableTime 26 = .ok (.iaload, 1) := by decide +kernel
theorem dX0_stableTime_27 : decode cX0_stableTime 27 = .ok (.invokestatic 64, 3) := by decide +kernel
theorem dX0_stableTime_30 : decode cX0_stableTime 30 = .ok (.ireturn, 1) := by decide +kernel
def b_X0_stableTime_0 (h : q_H) (v0 : Nat) : Option (q_H × Int32) :=
  Option.bind (q_gR 0 2 h v0) (fun x1 => Option.bind (q_gI 0 0 h v0) (fun x2 => Option.bind (f_X9_nextCopy h x2) (fun q3 => Option.bind (q_lI 0 q3.1 x1 q3.2) (fun x4 => Option.bind (q_gR 0 2 q3.1 v0) (fun x5 => Option.bind (q_gI 0 0 q3.1 v0) (fun x6 => Option.bind (f_X9_nextCopy q3.1 x6) (fun q7 => Option.bind (f_X9_nextCopy q7.1 q7.2) (fun q8 => Option.bind (q_lI 0 q8.1 x5 q8.2) (fun x9 => some (q8.1, (q_min x4 x9)))))))))))
def f_X0_stableTime (h : q_H) (a0 : Nat) : Option (q_H × Int32) := q_chk 0 h a0 (b_X0_stableTime_0 h a0)
set_option maxRecDepth 20000 in
set_option maxHeartbeats 1000000 in
theorem jb_X0_stableTime_0 {G : q_G} {l : Launch} {k0 z0 : Nat} (h : q_H) (v0 : Nat) : q_J G l (RX0, cX0_stableTime, 1, 1, 60, (some .int), "stableTime", []) k0 z0 (q_Z G k0 z0 q_i) 0 [(0, .ref v0)] [] h (b_X0_stableTime_0 h v0) := by
  unfold b_X0_stableTime_0
  refine j_aload_n (pc := 0) (p := 0) rfl rfl dX0_stableTime_0 ?_
  refine j_getR (pc := 1) FI_X0 (k := 2) (by decide) fl_X0_9 dX0_stableTime_1 (fun x1 _ => ?_)
  refine j_aload_n (pc := 4) (p := 0) rfl rfl dX0_stableTime_4 ?_
  refine j_getI (pc := 5) FI_X0 (k := 0) (by decide) fl_X0_34 dX0_stableTime_5 (fun x2 _ => ?_)
  refine j_cSNi (pc := 8) Y_X9_nextCopy mn_X0_60 sm_X9_nextCopy ⟨Nat.le_of_ble_eq_true rfl, Nat.le_of_ble_eq_true rfl⟩ dX0_stableTime_8 (As := [.int x2]) (rest := [.ref x1]) rfl rfl (Nat.le_of_ble_eq_true rfl) (fun x hq9 => c_X9_nextCopy _ _ _ hq9) (fun q3 _ => ?_)
  refine j_iald (pc := 11) dX0_stableTime_11 (fun x4 _ => ?_)
  refine j_aload_n (pc := 12) (p := 0) rfl rfl dX0_stableTime_12 ?_
  refine j_getR (pc := 13) FI_X0 (k := 2) (by decide) fl_X0_9 dX0_stableTime_13 (fun x5 _ => ?_)
  refine j_aload_n (pc := 16) (p := 0) rfl rfl dX0_stableTime_16 ?_
  refine j_getI (pc := 17) FI_X0 (k := 0) (by decide) fl_X0_34 dX0_stableTime_17 (fun x6 _ => ?_)
  refine j_cSNi (pc := 20) Y_X9_nextCopy mn_X0_60 sm_X9_nextCopy ⟨Nat.le_of_ble_eq_true rfl, Nat.le_of_ble_eq_true rfl⟩ dX0_stableTime_20 (As := [.int x6]) (rest := [.ref x5, .int x4]) rfl rfl (Nat.le_of_ble_eq_true rfl) (fun x hq9 => c_X9_nextCopy _ _ _ hq9) (fun q7 _ => ?_)
  refine j_cSNi (pc := 23) Y_X9_nextCopy mn_X0_60 sm_X9_nextCopy ⟨Nat.le_of_ble_eq_true rfl, Nat.le_of_ble_eq_true rfl⟩ dX0_stableTime_23 (As := [.int q7.2]) (rest := [.ref x5, .int x4]) rfl rfl (Nat.le_of_ble_eq_true rfl) (fun x hq9 => c_X9_nextCopy _ _ _ hq9) (fun q8 _ => ?_)
  refine j_iald (pc := 26) dX0_stableTime_26 (fun x9 _ => ?_)
  refine j_min (pc := 27) ml_X0_64 sm_min ini_Math co_min ⟨Nat.le_of_ble_eq_true rfl, Nat.le_of_ble_eq_true rfl⟩ dX0_stableTime_27 ?_
  exact j_iret (pc := 30) rfl dX0_stableTime_30
set_option maxRecDepth 20000 in
set_option maxHeartbeats 1000000 in
theorem c_X0_stableTime {G : q_G} {l : Launch} : ∀ (h : q_H) (a0 : Nat) (q : q_H × Int32), f_X0_stableTime h a0 = some q → (∃ fs, h.1 a0 = .inr (0, fs)) ∧ q_CT G l yX0_stableTime cX0_stableTime 1 (some .int) 1 60 [.ref a0] h q.1 (q_i q.2) := by
  intro h a0 q e
  obtain ⟨e1, e2⟩ := q_chk_ok e
  exact ⟨e1, q_ofJ Y_X0_stableTime (Nat.le_of_ble_eq_true rfl) (jb_X0_stableTime_0 h a0) q e2⟩
/-! FarFolders$Copy.stableMoves()I -/
theorem dX0_stableMoves_0 : decode cX0_stableMoves 0 = .ok (.aload_n 0, 1) := by decide +kernel
theorem dX0_stableMoves_1 : decode cX0_stableMoves 1 = .ok (.invokevirtual 70, 3) := by decide +kernel
theorem dX0_stableMoves_4 : decode cX0_stableMoves 4 = .ok (.istore_n 1, 1) := by decide +kernel
theorem dX0_stableMoves_5 : decode cX0_stableMoves 5 = .ok (.iconst 0, 1) := by decide +kernel
theorem dX0_stableMoves_6 : decode cX0_stableMoves 6 = .ok (.istore_n 2, 1) := by decide +kernel
theorem dX0_stableMoves_7 : decode cX0_stableMoves 7 = .ok (.iload_n 2, 1) := by decide +kernel
theorem dX0_stableMoves_8 : decode cX0_stableMoves 8 = .ok (.aload_n 0, 1) := by decide +kernel
theorem dX0_stableMoves_9 : decode cX0_stableMoves 9 = .ok (.getfield 20, 3) := by decide +kernel
theorem dX0_stableMoves_12 : decode cX0_stableMoves 12 = .ok (.getfield 57, 3) := by decide +kernel
theorem dX0_stableMoves_15 : decode cX0_stableMoves 15 = .ok (.if_icmp .ge 24, 3) := by decide +kernel
theorem dX0_stableMoves_18 : decode cX0_stableMoves 18 = .ok (.aload_n 0, 1) := by decide +kernel
theorem dX0_stableMoves_19 : decode cX0_stableMoves 19 = .ok (.getfield 20, 3) := by decide +kernel
theorem dX0_stableMoves_22 : decode cX0_stableMoves 22 = .ok (.iload_n 2, 1) := by decide +kernel
theorem dX0_stableMoves_23 : decode cX0_stableMoves 23 = .ok (.invokevirtual 74, 3) := by decide +kernel
theorem dX0_stableMoves_26 : decode cX0_stableMoves 26 = .ok (.invokestatic 78, 3) := by decide +kernel
theorem dX0_stableMoves_29 : decode cX0_stableMoves 29 = .ok (.iload_n 1, 1) := by decide +kernel
theorem dX0_stableMoves_30 : decode cX0_stableMoves 30 = .ok (.if_icmp .gt 9, 3) := by decide +kernel
theorem dX0_stableMoves_33 : decode cX0_stableMoves 33 = .ok (.iinc 2 1, 3) := by decide +kernel
theorem dX0_stableMoves_36 : decode cX0_stableMoves 36 = .ok (.goto (-29), 3) := by decide +kernel
theorem dX0_stableMoves_39 : decode cX0_stableMoves 39 = .ok (.iload_n 2, 1) := by decide +kernel
theorem dX0_stableMoves_40 : decode cX0_stableMoves 40 = .ok (.ireturn, 1) := by decide +kernel
def b_X0_stableMoves_7 (k7 : q_H → Nat → Int32 → Int32 → Option (q_H × Int32)) (h : q_H) (v0 : Nat) (v1 : Int32) (v2 : Int32) : Option (q_H × Int32) :=
  Option.bind (q_gR 0 3 h v0) (fun x1 => Option.bind (q_gI 4 1 h x1) (fun x2 => if x2 ≤ v2 then some (h, v2) else Option.bind (q_gR 0 3 h v0) (fun x3 => Option.bind (f_X5_at h x3 v2) (fun q4 => Option.bind (f_X1_time q4.1 q4.2) (fun q5 => if v1 < q5.2 then some (q5.1, v2) else k7 q5.1 v0 v1 (v2 + 1))))))
def l_X0_stableMoves_7 : Nat → q_H → Nat → Int32 → Int32 → Option (q_H × Int32)
  | 0, _, _, _, _ => none
  | n + 1, h, v0, v1, v2 => b_X0_stableMoves_7 (l_X0_stableMoves_7 n) h v0 v1 v2
def b_X0_stableMoves_0 (h : q_H) (v0 : Nat) : Option (q_H × Int32) :=
  Option.bind (f_X0_stableTime h v0) (fun q6 => l_X0_stableMoves_7 q_FU q6.1 v0 q6.2 (0))
def f_X0_stableMoves (h : q_H) (a0 : Nat) : Option (q_H × Int32) := q_chk 0 h a0 (b_X0_stableMoves_0 h a0)
set_option maxRecDepth 20000 in
set_option maxHeartbeats 1000000 in
theorem jb_X0_stableMoves_7 {G : q_G} {l : Launch} {k0 z0 : Nat} (k7 : q_H → Nat → Int32 → Int32 → Option (q_H × Int32)) (hk7 : ∀ (h : q_H) (v0 : Nat) (v1 : Int32) (v2 : Int32), q_J G l (RX0, cX0_stableMoves, 3, 2, 80, (some .int), "stableMoves", []) k0 z0 (q_Z G k0 z0 q_i) 7 [(0, .ref v0), (1, .int v1), (2, .int v2)] [] h (k7 h v0 v1 v2)) (h : q_H) (v0 : Nat) (v1 : Int32) (v2 : Int32) : q_J G l (RX0, cX0_stableMoves, 3, 2, 80, (some .int), "stableMoves", []) k0 z0 (q_Z G k0 z0 q_i) 7 [(0, .ref v0), (1, .int v1), (2, .int v2)] [] h (b_X0_stableMoves_7 k7 h v0 v1 v2) := by
  unfold b_X0_stableMoves_7
  refine j_iload_n (pc := 7) (p := 2) rfl rfl dX0_stableMoves_7 ?_
  refine j_aload_n (pc := 8) (p := 0) rfl rfl dX0_stableMoves_8 ?_
  refine j_getR (pc := 9) FI_X0 (k := 3) (by decide) fl_X0_20 dX0_stableMoves_9 (fun x1 _ => ?_)
  refine j_getI (pc := 12) FI_X5 (k := 1) (by decide) fl_X0_57 dX0_stableMoves_12 (fun x2 _ => ?_)
  refine j_ic_ge (pc := 15) (tgt := 39) dX0_stableMoves_15 (by decide) (fun _ => ?_) (fun _ => ?_)
  · refine j_iload_n (pc := 39) (p := 2) rfl rfl dX0_stableMoves_39 ?_
    exact j_iret (pc := 40) rfl dX0_stableMoves_40
  refine j_aload_n (pc := 18) (p := 0) rfl rfl dX0_stableMoves_18 ?_
  refine j_getR (pc := 19) FI_X0 (k := 3) (by decide) fl_X0_20 dX0_stableMoves_19 (fun x3 _ => ?_)
  refine j_iload_n (pc := 22) (p := 2) rfl rfl dX0_stableMoves_22 ?_
  refine j_cVl (pc := 23) Y_X5_at (ci := 4) (b := x3) rfl rfl ml_X0_74 im_X5_at se_X5_at ⟨Nat.le_of_ble_eq_true rfl, Nat.le_of_ble_eq_true rfl⟩ dX0_stableMoves_23 (As := [.int v2]) (rest := []) rfl rfl (Nat.le_of_ble_eq_true rfl) (fun x hq9 => c_X5_at _ _ _ _ hq9) (fun q4 _ => ?_)
  refine j_cSi (pc := 26) Y_X1_time ml_X0_78 sm_X1_time ⟨Nat.le_of_ble_eq_true rfl, Nat.le_of_ble_eq_true rfl⟩ dX0_stableMoves_26 (As := [.long q4.2]) (rest := []) rfl rfl (Nat.le_of_ble_eq_true rfl) (fun x hq9 => c_X1_time _ _ _ hq9) (fun q5 _ => ?_)
  refine j_iload_n (pc := 29) (p := 1) rfl rfl dX0_stableMoves_29 ?_
  refine j_ic_gt (pc := 30) (tgt := 39) dX0_stableMoves_30 (by decide) (fun _ => ?_) (fun _ => ?_)
  · refine j_iload_n (pc := 39) (p := 2) rfl rfl dX0_stableMoves_39 ?_
    exact j_iret (pc := 40) rfl dX0_stableMoves_40
  refine j_inc (pc := 33) (p := 2) (lv' := [(2, .int (v2 + 1)), (0, .ref v0), (1, .int v1)]) rfl ki_1 (by decide) rfl dX0_stableMoves_33 ?_
  refine j_goto (pc := 36) (tgt := 7) dX0_stableMoves_36 (by decide) ?_
  refine j_sub [1, 2, 0] (lv' := [(0, .ref v0), (1, .int v1), (2, .int (v2 + 1))]) rfl ?_
  exact hk7 _ _ _ _
set_option maxRecDepth 20000 in
set_option maxHeartbeats 1000000 in
theorem jl_X0_stableMoves_7 {G : q_G} {l : Launch} {k0 z0 : Nat} (n : Nat) : ∀ (h : q_H) (v0 : Nat) (v1 : Int32) (v2 : Int32), q_J G l (RX0, cX0_stableMoves, 3, 2, 80, (some .int), "stableMoves", []) k0 z0 (q_Z G k0 z0 q_i) 7 [(0, .ref v0), (1, .int v1), (2, .int v2)] [] h (l_X0_stableMoves_7 n h v0 v1 v2) := by
  induction n with
  | zero => intro h v0 v1 v2; exact j_none
  | succ n ih => intro h v0 v1 v2; exact jb_X0_stableMoves_7 (l_X0_stableMoves_7 n) ih h v0 v1 v2
set_option maxRecDepth 20000 in
set_option maxHeartbeats 1000000 in
theorem jb_X0_stableMoves_0 {G : q_G} {l : Launch} {k0 z0 : Nat} (h : q_H) (v0 : Nat) : q_J G l (RX0, cX0_stableMoves, 3, 2, 80, (some .int), "stableMoves", []) k0 z0 (q_Z G k0 z0 q_i) 0 [(0, .ref v0)] [] h (b_X0_stableMoves_0 h v0) := by
  unfold b_X0_stableMoves_0
  refine j_aload_n (pc := 0) (p := 0) rfl rfl dX0_stableMoves_0 ?_
  refine j_cVi (pc := 1) Y_X0_stableTime (ci := 0) (b := v0) rfl rfl ml_X0_70 im_X0_stableTime se_X0_stableTime ⟨Nat.le_of_ble_eq_true rfl, Nat.le_of_ble_eq_true rfl⟩ dX0_stableMoves_1 (As := []) (rest := []) rfl rfl (Nat.le_of_ble_eq_true rfl) (fun x hq9 => c_X0_stableTime _ _ _ hq9) (fun q6 _ => ?_)
  refine j_istore_n (pc := 4) (lv' := [(1, .int q6.2), (0, .ref v0)]) rfl (by decide) rfl dX0_stableMoves_4 ?_
  refine j_iconst (pc := 5) ki_0 dX0_stableMoves_5 ?_
  refine j_istore_n (pc := 6) (lv' := [(2, .int (0)), (1, .int q6.2), (0, .ref v0)]) rfl (by decide) rfl dX0_stableMoves_6 ?_
  refine j_sub [2, 1, 0] (lv' := [(0, .ref v0), (1, .int q6.2), (2, .int (0))]) rfl ?_
  exact jl_X0_stableMoves_7 q_FU _ _ _ _
set_option maxRecDepth 20000 in
set_option maxHeartbeats 1000000 in
theorem c_X0_stableMoves {G : q_G} {l : Launch} : ∀ (h : q_H) (a0 : Nat) (q : q_H × Int32), f_X0_stableMoves h a0 = some q → (∃ fs, h.1 a0 = .inr (0, fs)) ∧ q_CT G l yX0_stableMoves cX0_stableMoves 3 (some .int) 2 80 [.ref a0] h q.1 (q_i q.2) := by
  intro h a0 q e
  obtain ⟨e1, e2⟩ := q_chk_ok e
  exact ⟨e1, q_ofJ Y_X0_stableMoves (Nat.le_of_ble_eq_true rfl) (jb_X0_stableMoves_0 h a0) q e2⟩
/-! FarFolders$Tree.doMove(J)Z -/
theorem dX7_doMove_0 : decode cX7_doMove 0 = .ok (.lload_n 1, 1) := by decide +kernel
theorem dX7_doMove_1 : decode cX7_doMove 1 = .ok (.invokestatic 21, 3) := by decide +kernel
theorem dX7_doMove_4 : decode cX7_doMove 4 = .ok (.istore_n 3, 1) := by decide +kernel
theorem dX7_doMove_5 : decode cX7_doMove 5 = .ok (.lload_n 1, 1) := by decide +kernel
theorem dX7_doMove_6 : decode cX7_doMove 6 = .ok (.invokestatic 27, 3) := by decide +kernel
theorem dX7_doMove_9 : decode cX7_doMove 9 = .ok (.istore 4, 2) := by decide +kernel
theorem dX7_doMove_11 : decode cX7_doMove 11 = .ok (.iconst 0, 1) := by decide +kernel
theorem dX7_doMove_12 : decode cX7_doMove 12 = .ok (.istore 5, 2) := by decide +kernel
theorem dX7_doMove_14 : decode cX7_doMove 14 = .ok (.iload 5, 2) := by decide +kernel
theorem dX7_doMove_16 : decode cX7_doMove 16 = .ok (.bipush 14, 2) := by decide +kernel
theorem dX7_doMove_18 : decode cX7_doMove 18 = .ok (.if_icmp .ge 53, 3) := by decide +kernel
theorem dX7_doMove_21 : decode cX7_doMove 21 = .ok (.iload 4, 2) := by decide +kernel
theorem dX7_doMove_23 : decode cX7_doMove 23 = .ok (.iload_n 3, 1) := by decide +kernel
theorem dX7_doMove_24 : decode cX7_doMove 24 = .ok (.if_icmp .eq 12, 3) := by decide +kernel
theorem dX7_doMove_27 : decode cX7_doMove 27 = .ok (.aload_n 0, 1) := by decide +kernel
theorem dX7_doMove_28 : decode cX7_doMove 28 = .ok (.iload 4, 2) := by decide +kernel
theorem dX7_doMove_30 : decode cX7_doMove 30 = .ok (.invokevirtual 30, 3) := by decide +kernel
theorem dX7_doMove_33 : decode cX7_doMove 33 = .ok (.ifCond .ne 5, 3) := by decide +kernel
theorem dX7_doMove_36 : decode cX7_doMove 36 = .ok (.iconst 0, 1) := by decide +kernel
theorem dX7_doMove_37 : decode cX7_doMove 37 = .ok (.ireturn, 1) := by decide +kernel
theorem dX7_doMove_38 : decode cX7_doMove 38 = .ok (.iload 4, 2) := by decide +kernel
theorem dX7_doMove_40 : decode cX7_doMove 40 = .ok (.iconst 2, 1) := by decide +kernel
theorem dX7_doMove_41 : decode cX7_doMove 41 = .ok (.if_icmp .ge 12, 3) := by decide +kernel
theorem dX7_doMove_44 : decode cX7_doMove 44 = .ok (.aload_n 0, 1) := by decide +kernel
theorem dX7_doMove_45 : decode cX7_doMove 45 = .ok (.getfield 9, 3) := by decide +kernel
theorem dX7_doMove_48 : decode cX7_doMove 48 = .ok (.iload_n 3, 1) := by decide +kernel
theorem dX7_doMove_49 : decode cX7_doMove 49 = .ok (.lload_n 1, 1) := by decide +kernel
theorem dX7_doMove_50 : decode cX7_doMove 50 = .ok (.lastore, 1) := by decide +kernel
theorem dX7_doMove_51 : decode cX7_doMove 51 = .ok (.iconst 1, 1) := by decide +kernel
theorem dX7_doMove_52 : decode cX7_doMove 52 = .ok (.ireturn, 1) := by decide +kernel
theorem dX7_doMove_53 : decode cX7_doMove 53 = .ok (.aload_n 0, 1) := by decide +kernel
theorem dX7_doMove_54 : decode cX7_doMove 54 = .ok (.getfield 9, 3) := by decide +kernel
theorem dX7_doMove_57 : decode cX7_doMove 57 = .ok (.iload 4, 2) := by decide +kernel
theorem dX7_doMove_59 : decode cX7_doMove 59 = .ok (.laload, 1) := by decide +kernel
theorem dX7_doMove_60 : decode cX7_doMove 60 = .ok (.invokestatic 27, 3) := by decide +kernel
theorem dX7_doMove_63 : decode cX7_doMove 63 = .ok (.istore 4, 2) := by decide +kernel
theorem dX7_doMove_65 : decode cX7_doMove 65 = .ok (.iinc 5 1, 3) := by decide +kernel
theorem dX7_doMove_68 : decode cX7_doMove 68 = .ok (.goto (-54), 3) := by decide +kernel
theorem dX7_doMove_71 : decode cX7_doMove 71 = .ok (.iconst 0, 1) := by decide +kernel
theorem dX7_doMove_72 : decode cX7_doMove 72 = .ok (.ireturn, 1) := by decide +kernel
def b_X7_doMove_14 (k14 : q_H → Nat → Int64 → Int32 → Int32 → Int32 → Option (q_H × Int32)) (h : q_H) (v0 : Nat) (v1 : Int64) (v3 : Int32) (v4 : Int32) (v5 : Int32) : Option (q_H × Int32) :=
  if (14) ≤ v5 then some (h, (0)) else if v4 = v3 then some (h, (0)) else Option.bind (f_X7_isThere h v0 v4) (fun q1 => if q1.2 = 0 then some (q1.1, (0)) else if (2) ≤ v4 then Option.bind (q_gR 6 0 q1.1 v0) (fun x2 => Option.bind (q_lL q1.1 x2 v4) (fun x3 => Option.bind (f_X1_parent q1.1 x3) (fun q4 => k14 q4.1 v0 v1 v3 q4.2 (v5 + 1)))) else Option.bind (q_gR 6 0 q1.1 v0) (fun x5 => Option.bind (q_sL q1.1 x5 v3 v1) (fun h6 => some (h6, (1)))))
def l_X7_doMove_14 : Nat → q_H → Nat → Int64 → Int32 → Int32 → Int32 → Option (q_H × Int32)
  | 0, _, _, _, _, _, _ => none
  | n + 1, h, v0, v1, v3, v4, v5 => b_X7_doMove_14 (l_X7_doMove_14 n) h v0 v1 v3 v4 v5
def b_X7_doMove_0 (h : q_H) (v0 : Nat) (v1 : Int64) : Option (q_H × Int32) :=
  Option.bind (f_X1_folder h v1) (fun q7 => Option.bind (f_X1_parent q7.1 v1) (fun q8 => l_X7_doMove_14 q_FU q8.1 v0 v1 q7.2 q8.2 (0)))
def f_X7_doMove (h : q_H) (a0 : Nat) (a1 : Int64) : Option (q_H × Int32) := q_chk 6 h a0 (b_X7_doMove_0 h a0 a1)
set_option maxRecDepth 20000 in
set_option maxHeartbeats 1000000 in
theorem jb_X7_doMove_14 {G : q_G} {l : Launch} {k0 z0 : Nat} (k14 : q_H → Nat → Int64 → Int32 → Int32 → Int32 → Option (q_H × Int32)) (hk14 : ∀ (h : q_H) (v0 : Nat) (v1 : Int64) (v3 : Int32) (v4 : Int32) (v5 : Int32), q_J G l (RX7, cX7_doMove, 6, 1, 21, (some .boolean), "doMove", []) k0 z0 (q_Z G k0 z0 q_i) 14 [(0, .ref v0), (1, .long v1), (3, .int v3), (4, .int v4), (5, .int v5)] [] h (k14 h v0 v1 v3 v4 v5)) (h : q_H) (v0 : Nat) (v1 : Int64) (v3 : Int32) (v4 : Int32) (v5 : Int32) : q_J G l (RX7, cX7_doMove, 6, 1, 21, (some .boolean), "doMove", []) k0 z0 (q_Z G k0 z0 q_i) 14 [(0, .ref v0), (1, .long v1), (3, .int v3), (4, .int v4), (5, .int v5)] [] h (b_X7_doMove_14 k14 h v0 v1 v3 v4 v5) := by
  unfold b_X7_doMove_14
  refine j_iload (pc := 14) (p := 4) rfl dX7_doMove_14 ?_
  refine j_bipush (pc := 16) kb_14 dX7_doMove_16 ?_
  refine j_ic_ge (pc := 18) (tgt := 71) dX7_doMove_18 (by decide) (fun _ => ?_) (fun _ => ?_)
  · refine j_iconst (pc := 71) ki_0 dX7_doMove_71 ?_
    exact j_zret (pc := 72) rfl rfl dX7_doMove_72
  refine j_iload (pc := 21) (p := 3) rfl dX7_doMove_21 ?_
  refine j_iload_n (pc := 23) (p := 2) rfl rfl dX7_doMove_23 ?_
  refine j_ic_eq (pc := 24) (tgt := 36) dX7_doMove_24 (by decide) (fun _ => ?_) (fun _ => ?_)
  · refine j_iconst (pc := 36) ki_0 dX7_doMove_36 ?_
    exact j_zret (pc := 37) rfl rfl dX7_doMove_37
  refine j_aload_n (pc := 27) (p := 0) rfl rfl dX7_doMove_27 ?_
  refine j_iload (pc := 28) (p := 3) rfl dX7_doMove_28 ?_
  refine j_cVi (pc := 30) Y_X7_isThere (ci := 6) (b := v0) rfl rfl ml_X7_30 im_X7_isThere se_X7_isThere ⟨Nat.le_of_ble_eq_true rfl, Nat.le_of_ble_eq_true rfl⟩ dX7_doMove_30 (As := [.int v4]) (rest := []) rfl rfl (Nat.le_of_ble_eq_true rfl) (fun x hq9 => c_X7_isThere _ _ _ _ hq9) (fun q1 _ => ?_)
  refine j_if_ne (pc := 33) (tgt := 38) dX7_doMove_33 (by decide) (fun _ => ?_) (fun _ => ?_)
  · refine j_iconst (pc := 36) ki_0 dX7_doMove_36 ?_
    exact j_zret (pc := 37) rfl rfl dX7_doMove_37
  refine j_iload (pc := 38) (p := 3) rfl dX7_doMove_38 ?_
  refine j_iconst (pc := 40) ki_2 dX7_doMove_40 ?_
  refine j_ic_ge (pc := 41) (tgt := 53) dX7_doMove_41 (by decide) (fun _ => ?_) (fun _ => ?_)
  · refine j_aload_n (pc := 53) (p := 0) rfl rfl dX7_doMove_53 ?_
    refine j_getR (pc := 54) FI_X7 (k := 0) (by decide) fl_X7_9 dX7_doMove_54 (fun x2 _ => ?_)
    refine j_iload (pc := 57) (p := 3) rfl dX7_doMove_57 ?_
    refine j_lald (pc := 59) dX7_doMove_59 (fun x3 _ => ?_)
    refine j_cSi (pc := 60) Y_X1_parent ml_X7_27 sm_X1_parent ⟨Nat.le_of_ble_eq_true rfl, Nat.le_of_ble_eq_true rfl⟩ dX7_doMove_60 (As := [.long x3]) (rest := []) rfl rfl (Nat.le_of_ble_eq_true rfl) (fun x hq9 => c_X1_parent _ _ _ hq9) (fun q4 _ => ?_)
    refine j_istore (pc := 63) (lv' := [(4, .int q4.2), (0, .ref v0), (1, .long v1), (3, .int v3), (5, .int v5)]) (by decide) rfl dX7_doMove_63 ?_
    refine j_inc (pc := 65) (p := 4) (lv' := [(5, .int (v5 + 1)), (4, .int q4.2), (0, .ref v0), (1, .long v1), (3, .int v3)]) rfl ki_1 (by decide) rfl dX7_doMove_65 ?_
    refine j_goto (pc := 68) (tgt := 14) dX7_doMove_68 (by decide) ?_
    refine j_sub [2, 3, 4, 1, 0] (lv' := [(0, .ref v0), (1, .long v1), (3, .int v3), (4, .int q4.2), (5, .int (v5 + 1))]) rfl ?_
    exact hk14 _ _ _ _ _ _
  refine j_aload_n (pc := 44) (p := 0) rfl rfl dX7_doMove_44 ?_
  refine j_getR (pc := 45) FI_X7 (k := 0) (by decide) fl_X7_9 dX7_doMove_45 (fun x5 _ => ?_)
  refine j_iload_n (pc := 48) (p := 2) rfl rfl dX7_doMove_48 ?_
  refine j_lload_n (pc := 49) (p := 1) rfl rfl dX7_doMove_49 ?_
  refine j_last (pc := 50) dX7_doMove_50 (fun h6 _ => ?_)
  refine j_iconst (pc := 51) ki_1 dX7_doMove_51 ?_
  exact j_zret (pc := 52) rfl rfl dX7_doMove_52
set_option maxRecDepth 20000 in
set_option maxHeartbeats 1000000 in
theorem jl_X7_doMove_14 {G : q_G} {l : Launch} {k0 z0 : Nat} (n : Nat) : ∀ (h : q_H) (v0 : Nat) (v1 : Int64) (v3 : Int32) (v4 : Int32) (v5 : Int32), q_J G l (RX7, cX7_doMove, 6, 1, 21, (some .boolean), "doMove", []) k0 z0 (q_Z G k0 z0 q_i) 14 [(0, .ref v0), (1, .long v1), (3, .int v3), (4, .int v4), (5, .int v5)] [] h (l_X7_doMove_14 n h v0 v1 v3 v4 v5) := by
  induction n with
  | zero => intro h v0 v1 v3 v4 v5; exact j_none
  | succ n ih => intro h v0 v1 v3 v4 v5; exact jb_X7_doMove_14 (l_X7_doMove_14 n) ih h v0 v1 v3 v4 v5
set_option maxRecDepth 20000 in
set_option maxHeartbeats 1000000 in
theorem jb_X7_doMove_0 {G : q_G} {l : Launch} {k0 z0 : Nat} (h : q_H) (v0 : Nat) (v1 : Int64) : q_J G l (RX7, cX7_doMove, 6, 1, 21, (some .boolean), "doMove", []) k0 z0 (q_Z G k0 z0 q_i) 0 [(0, .ref v0), (1, .long v1)] [] h (b_X7_doMove_0 h v0 v1) := by
  unfold b_X7_doMove_0
  refine j_lload_n (pc := 0) (p := 1) rfl rfl dX7_doMove_0 ?_
  refine j_cSi (pc := 1) Y_X1_folder ml_X7_21 sm_X1_folder ⟨Nat.le_of_ble_eq_true rfl, Nat.le_of_ble_eq_true rfl⟩ dX7_doMove_1 (As := [.long v1]) (rest := []) rfl rfl (Nat.le_of_ble_eq_true rfl) (fun x hq9 => c_X1_folder _ _ _ hq9) (fun q7 _ => ?_)
  refine j_istore_n (pc := 4) (lv' := [(3, .int q7.2), (0, .ref v0), (1, .long v1)]) rfl (by decide) rfl dX7_doMove_4 ?_
  refine j_lload_n (pc := 5) (p := 2) rfl rfl dX7_doMove_5 ?_
  refine j_cSi (pc := 6) Y_X1_parent ml_X7_27 sm_X1_parent ⟨Nat.le_of_ble_eq_true rfl, Nat.le_of_ble_eq_true rfl⟩ dX7_doMove_6 (As := [.long v1]) (rest := []) rfl rfl (Nat.le_of_ble_eq_true rfl) (fun x hq9 => c_X1_parent _ _ _ hq9) (fun q8 _ => ?_)
  refine j_istore (pc := 9) (lv' := [(4, .int q8.2), (3, .int q7.2), (0, .ref v0), (1, .long v1)]) (by decide) rfl dX7_doMove_9 ?_
  refine j_iconst (pc := 11) ki_0 dX7_doMove_11 ?_
  refine j_istore (pc := 12) (lv' := [(5, .int (0)), (4, .int q8.2), (3, .int q7.2), (0, .ref v0), (1, .long v1)]) (by decide) rfl dX7_doMove_12 ?_
  refine j_sub [3, 4, 2, 1, 0] (lv' := [(0, .ref v0), (1, .long v1), (3, .int q7.2), (4, .int q8.2), (5, .int (0))]) rfl ?_
  exact jl_X7_doMove_14 q_FU _ _ _ _ _ _
set_option maxRecDepth 20000 in
set_option maxHeartbeats 1000000 in
theorem c_X7_doMove {G : q_G} {l : Launch} : ∀ (h : q_H) (a0 : Nat) (a1 : Int64) (q : q_H × Int32), f_X7_doMove h a0 a1 = some q → (∃ fs, h.1 a0 = .inr (6, fs)) ∧ q_CT G l yX7_doMove cX7_doMove 6 (some .boolean) 1 21 [.ref a0, .long a1] h q.1 (q_i q.2) := by
  intro h a0 a1 q e
  obtain ⟨e1, e2⟩ := q_chk_ok e
  exact ⟨e1, q_ofJ Y_X7_doMove (Nat.le_of_ble_eq_true rfl) (jb_X7_doMove_0 h a0 a1) q e2⟩
/-! FarFolders$Series.dropFirst(I)V -/
theorem dX5_dropFirst_0 : decode cX5_dropFirst 0 = .ok (.iload_n 1, 1) := by decide +kernel
theorem dX5_dropFirst_1 : decode cX5_dropFirst 1 = .ok (.ifCond .le 38, 3) := by decide +kernel
theorem dX5_dropFirst_4 : decode cX5_dropFirst 4 = .ok (.iload_n 1, 1) := by decide +kernel
theorem dX5_dropFirst_5 : decode cX5_dropFirst 5 = .ok (.aload_n 0, 1) := by decide +kernel
theorem dX5_dropFirst_6 : decode cX5_dropFirst 6 = .ok (.getfield 21, 3) := by decide +kernel
theorem dX5_dropFirst_9 : decode cX5_dropFirst 9 = .ok (.if_icmp .gt 30, 3) := by decide +kernel
theorem dX5_dropFirst_12 : decode cX5_dropFirst 12 = .ok (.aload_n 0, 1) := by decide +kernel
theorem dX5_dropFirst_13 : decode cX5_dropFirst 13 = .ok (.dup, 1) := by decide +kernel
theorem dX5_dropFirst_14 : decode cX5_dropFirst 14 = .ok (.getfield 21, 3) := by decide +kernel
theorem dX5_dropFirst_17 : decode cX5_dropFirst 17 = .ok (.iload_n 1, 1) := by decide +kernel
theorem dX5_dropFirst_18 : decode cX5_dropFirst 18 = .ok (.isub, 1) := by decide +kernel
theorem dX5_dropFirst_19 : decode cX5_dropFirst 19 = .ok (.putfield 21, 3) := by decide +kernel
theorem dX5_dropFirst_22 : decode cX5_dropFirst 22 = .ok (.aload_n 0, 1) := by decide +kernel
theorem dX5_dropFirst_23 : decode cX5_dropFirst 23 = .ok (.getfield 15, 3) := by decide +kernel
theorem dX5_dropFirst_26 : decode cX5_dropFirst 26 = .ok (.iload_n 1, 1) := by decide +kernel
theorem dX5_dropFirst_27 : decode cX5_dropFirst 27 = .ok (.aload_n 0, 1) := by decide +kernel
theorem dX5_dropFirst_28 : decode cX5_dropFirst 28 = .ok (.getfield 15, 3) := by decide +kernel
theorem dX5_dropFirst_31 : decode cX5_dropFirst 31 = .ok (.iconst 0, 1) := by decide +kernel
theorem dX5_dropFirst_32 : decode cX5_dropFirst 32 = .ok (.aload_n 0, 1) := by decide +kernel
theorem dX5_dropFirst_33 : decode cX5_dropFirst 33 = .ok (.getfield 21, 3) := by decide +kernel
theorem dX5_dropFirst_36 : decode cX5_dropFirst 36 = .ok (.invokestatic 28, 3) := by decide +kernel
theorem dX5_dropFirst_39 : decode cX5_dropFirst 39 = .ok (.return_, 1) := by decide +kernel
def b_X5_dropFirst_0 (h : q_H) (v0 : Nat) (v1 : Int32) : Option (q_H × Unit) :=
  if v1 ≤ 0 then some (h, ()) else Option.bind (q_gI 4 1 h v0) (fun x1 => if x1 < v1 then some (h, ()) else Option.bind (q_gI 4 1 h v0) (fun x2 => Option.bind (q_p 4 1 h v0 (.int (x2 - v1))) (fun h3 => Option.bind (q_gR 4 0 h3 v0) (fun x4 => Option.bind (q_gR 4 0 h3 v0) (fun x5 => Option.bind (q_gI 4 1 h3 v0) (fun x6 => Option.bind (q_cpL h3 x4 v1 x5 (0) x6) (fun h7 => some (h7, ()))))))))
def f_X5_dropFirst (h : q_H) (a0 : Nat) (a1 : Int32) : Option (q_H × Unit) := q_chk 4 h a0 (b_X5_dropFirst_0 h a0 a1)
set_option maxRecDepth 20000 in
set_option maxHeartbeats 1000000 in
theorem jb_X5_dropFirst_0 {G : q_G} {l : Launch} {k0 z0 : Nat} (h : q_H) (v0 : Nat) (v1 : Int32) : q_J G l (RX5, cX5_dropFirst, 2, 1, 60, none, "dropFirst", []) k0 z0 (q_Z G k0 z0 q_u) 0 [(0, .ref v0), (1, .int v1)] [] h (b_X5_dropFirst_0 h v0 v1) := by
  unfold b_X5_dropFirst_0
  refine j_iload_n (pc := 0) (p := 1) rfl rfl dX5_dropFirst_0 ?_
  refine j_if_le (pc := 1) (tgt := 39) dX5_dropFirst_1 (by decide) (fun _ => ?_) (fun _ => ?_)
  · exact j_vret (pc := 39) rfl dX5_dropFirst_39
  refine j_iload_n (pc := 4) (p := 1) rfl rfl dX5_dropFirst_4 ?_
  refine j_aload_n (pc := 5) (p := 0) rfl rfl dX5_dropFirst_5 ?_
  refine j_getI (pc := 6) FI_X5 (k := 1) (by decide) fl_X5_21 dX5_dropFirst_6 (fun x1 _ => ?_)
  refine j_ic_gt (pc := 9) (tgt := 39) dX5_dropFirst_9 (by decide) (fun _ => ?_) (fun _ => ?_)
  · exact j_vret (pc := 39) rfl dX5_dropFirst_39
  refine j_aload_n (pc := 12) (p := 0) rfl rfl dX5_dropFirst_12 ?_
  refine j_dup (pc := 13) rfl dX5_dropFirst_13 ?_
  refine j_getI (pc := 14) FI_X5 (k := 1) (by decide) fl_X5_21 dX5_dropFirst_14 (fun x2 _ => ?_)
  refine j_iload_n (pc := 17) (p := 1) rfl rfl dX5_dropFirst_17 ?_
  refine j_isub (pc := 18) dX5_dropFirst_18 ?_
  refine j_put (pc := 19) FI_X5 (k := 1) (by decide) fl_X5_21 rfl rfl rfl dX5_dropFirst_19 (fun h3 _ => ?_)
  refine j_aload_n (pc := 22) (p := 0) rfl rfl dX5_dropFirst_22 ?_
  refine j_getR (pc := 23) FI_X5 (k := 0) (by decide) fl_X5_15 dX5_dropFirst_23 (fun x4 _ => ?_)
  refine j_iload_n (pc := 26) (p := 1) rfl rfl dX5_dropFirst_26 ?_
  refine j_aload_n (pc := 27) (p := 0) rfl rfl dX5_dropFirst_27 ?_
  refine j_getR (pc := 28) FI_X5 (k := 0) (by decide) fl_X5_15 dX5_dropFirst_28 (fun x5 _ => ?_)
  refine j_iconst (pc := 31) ki_0 dX5_dropFirst_31 ?_
  refine j_aload_n (pc := 32) (p := 0) rfl rfl dX5_dropFirst_32 ?_
  refine j_getI (pc := 33) FI_X5 (k := 1) (by decide) fl_X5_21 dX5_dropFirst_33 (fun x6 _ => ?_)
  refine j_cpL (pc := 36) ml_X5_28 na_acopy sm_acopy ini_System ⟨Nat.le_of_ble_eq_true rfl, Nat.le_of_ble_eq_true rfl⟩ dX5_dropFirst_36 (fun h7 _ => ?_)
  exact j_vret (pc := 39) rfl dX5_dropFirst_39
set_option maxRecDepth 20000 in
set_option maxHeartbeats 1000000 in
theorem c_X5_dropFirst {G : q_G} {l : Launch} : ∀ (h : q_H) (a0 : Nat) (a1 : Int32) (q : q_H × Unit), f_X5_dropFirst h a0 a1 = some q → (∃ fs, h.1 a0 = .inr (4, fs)) ∧ q_CT G l yX5_dropFirst cX5_dropFirst 2 none 1 60 [.ref a0, .int a1] h q.1 (q_u q.2) := by
  intro h a0 a1 q e
  obtain ⟨e1, e2⟩ := q_chk_ok e
  exact ⟨e1, q_ofJ Y_X5_dropFirst (Nat.le_of_ble_eq_true rfl) (jb_X5_dropFirst_0 h a0 a1) q e2⟩
/-! FarFolders$Copy.dropStable()I -/
theorem dX0_dropStable_0 : decode cX0_dropStable 0 = .ok (.aload_n 0, 1) := by decide +kernel
theorem dX0_dropStable_1 : decode cX0_dropStable 1 = .ok (.invokevirtual 86, 3) := by decide +kernel
theorem dX0_dropStable_4 : decode cX0_dropStable 4 = .ok (.istore_n 1, 1) := by decide +kernel
theorem dX0_dropStable_5 : decode cX0_dropStable 5 = .ok (.iconst 0, 1) := by decide +kernel
theorem dX0_dropStable_6 : decode cX0_dropStable 6 = .ok (.istore_n 2, 1) := by decide +kernel
theorem dX0_dropStable_7 : decode cX0_dropStable 7 = .ok (.iload_n 2, 1) := by decide +kernel
theorem dX0_dropStable_8 : decode cX0_dropStable 8 = .ok (.iload_n 1, 1) := by decide +kernel
theorem dX0_dropStable_9 : decode cX0_dropStable 9 = .ok (.if_icmp .ge 25, 3) := by decide +kernel
theorem dX0_dropStable_12 : decode cX0_dropStable 12 = .ok (.aload_n 0, 1) := by decide +kernel
theorem dX0_dropStable_13 : decode cX0_dropStable 13 = .ok (.getfield 27, 3) := by decide +kernel
theorem dX0_dropStable_16 : decode cX0_dropStable 16 = .ok (.aload_n 0, 1) := by decide +kernel
theorem dX0_dropStable_17 : decode cX0_dropStable 17 = .ok (.getfield 20, 3) := by decide +kernel
theorem dX0_dropStable_20 : decode cX0_dropStable 20 = .ok (.iload_n 2, 1) := by decide +kernel
theorem dX0_dropStable_21 : decode cX0_dropStable 21 = .ok (.invokevirtual 74, 3) := by decide +kernel
theorem dX0_dropStable_24 : decode cX0_dropStable 24 = .ok (.invokevirtual 89, 3) := by decide +kernel
theorem dX0_dropStable_27 : decode cX0_dropStable 27 = .ok (.pop, 1) := by decide +kernel
theorem dX0_dropStable_28 : decode cX0_dropStable 28 = .ok (.iinc 2 1, 3) := by decide +kernel
theorem dX0_dropStable_31 : decode cX0_dropStable 31 = .ok (.goto (-24), 3) := by decide +kernel
theorem dX0_dropStable_34 : decode cX0_dropStable 34 = .ok (.aload_n 0, 1) := by decide +kernel
theorem dX0_dropStable_35 : decode cX0_dropStable 35 = .ok (.getfield 20, 3) := by decide +kernel
theorem dX0_dropStable_38 : decode cX0_dropStable 38 = .ok (.iload_n 1, 1) := by decide +kernel
theorem dX0_dropStable_39 : decode cX0_dropStable 39 = .ok (.invokevirtual 93, 3) := by decide +kernel
theorem dX0_dropStable_42 : decode cX0_dropStable 42 = .ok (.aload_n 0, 1) := by decide +kernel
theorem dX0_dropStable_43 : decode cX0_dropStable 43 = .ok (.dup, 1) := by decide +kernel
theorem dX0_dropStable_44 : decode cX0_dropStable 44 = .ok (.getfield 54, 3) := by decide +kernel
theorem dX0_dropStable_47 : decode cX0_dropStable 47 = .ok (.iload_n 1, 1) := by decide +kernel
theorem dX0_dropStable_48 : decode cX0_dropStable 48 = .ok (.iushr, 1) := by decide +kernel
theorem dX0_dropStable_49 : decode cX0_dropStable 49 = .ok (.putfield 54, 3) := by decide +kernel
theorem dX0_dropStable_52 : decode cX0_dropStable 52 = .ok (.iload_n 1, 1) := by decide +kernel
theorem dX0_dropStable_53 : decode cX0_dropStable 53 = .ok (.ireturn, 1) := by decide +kernel
def b_X0_dropStable_7 (k7 : q_H → Nat → Int32 → Int32 → Option (q_H × Int32)) (h : q_H) (v0 : Nat) (v1 : Int32) (v2 : Int32) : Option (q_H × Int32) :=
  if v1 ≤ v2 then Option.bind (q_gR 0 3 h v0) (fun x1 => Option.bind (f_X5_dropFirst h x1 v1) (fun q2 => Option.bind (q_gI 0 6 q2.1 v0) (fun x3 => Option.bind (q_p 0 6 q2.1 v0 (.int (q_iushr x3 v1))) (fun h4 => some (h4, v1))))) else Option.bind (q_gR 0 4 h v0) (fun x5 => Option.bind (q_gR 0 3 h v0) (fun x6 => Option.bind (f_X5_at h x6 v2) (fun q7 => Option.bind (f_X7_doMove q7.1 x5 q7.2) (fun q8 => k7 q8.1 v0 v1 (v2 + 1)))))
def l_X0_dropStable_7 : Nat → q_H → Nat → Int32 → Int32 → Option (q_H × Int32)
  | 0, _, _, _, _ => none
  | n + 1, h, v0, v1, v2 => b_X0_dropStable_7 (l_X0_dropStable_7 n) h v0 v1 v2
def b_X0_dropStable_0 (h : q_H) (v0 : Nat) : Option (q_H × Int32) :=
  Option.bind (f_X0_stableMoves h v0) (fun q9 => l_X0_dropStable_7 q_FU q9.1 v0 q9.2 (0))
def f_X0_dropStable (h : q_H) (a0 : Nat) : Option (q_H × Int32) := q_chk 0 h a0 (b_X0_dropStable_0 h a0)
set_option maxRecDepth 20000 in
set_option maxHeartbeats 1000000 in
theorem jb_X0_dropStable_7 {G : q_G} {l : Launch} {k0 z0 : Nat} (k7 : q_H → Nat → Int32 → Int32 → Option (q_H × Int32)) (hk7 : ∀ (h : q_H) (v0 : Nat) (v1 : Int32) (v2 : Int32), q_J G l (RX0, cX0_dropStable, 3, 3, 102, (some .int), "dropStable", []) k0 z0 (q_Z G k0 z0 q_i) 7 [(0, .ref v0), (1, .int v1), (2, .int v2)] [] h (k7 h v0 v1 v2)) (h : q_H) (v0 : Nat) (v1 : Int32) (v2 : Int32) : q_J G l (RX0, cX0_dropStable, 3, 3, 102, (some .int), "dropStable", []) k0 z0 (q_Z G k0 z0 q_i) 7 [(0, .ref v0), (1, .int v1), (2, .int v2)] [] h (b_X0_dropStable_7 k7 h v0 v1 v2) := by
  unfold b_X0_dropStable_7
  refine j_iload_n (pc := 7) (p := 2) rfl rfl dX0_dropStable_7 ?_
  refine j_iload_n (pc := 8) (p := 1) rfl rfl dX0_dropStable_8 ?_
  refine j_ic_ge (pc := 9) (tgt := 34) dX0_dropStable_9 (by decide) (fun _ => ?_) (fun _ => ?_)
  · refine j_aload_n (pc := 34) (p := 0) rfl rfl dX0_dropStable_34 ?_
    refine j_getR (pc := 35) FI_X0 (k := 3) (by decide) fl_X0_20 dX0_dropStable_35 (fun x1 _ => ?_)
    refine j_iload_n (pc := 38) (p := 1) rfl rfl dX0_dropStable_38 ?_
    refine j_cVu (pc := 39) Y_X5_dropFirst (ci := 4) (b := x1) rfl rfl ml_X0_93 im_X5_dropFirst se_X5_dropFirst ⟨Nat.le_of_ble_eq_true rfl, Nat.le_of_ble_eq_true rfl⟩ dX0_dropStable_39 (As := [.int v1]) (rest := []) rfl rfl (Nat.le_of_ble_eq_true rfl) (fun x hq9 => c_X5_dropFirst _ _ _ _ hq9) (fun q2 _ => ?_)
    refine j_aload_n (pc := 42) (p := 0) rfl rfl dX0_dropStable_42 ?_
    refine j_dup (pc := 43) rfl dX0_dropStable_43 ?_
    refine j_getI (pc := 44) FI_X0 (k := 6) (by decide) fl_X0_54 dX0_dropStable_44 (fun x3 _ => ?_)
    refine j_iload_n (pc := 47) (p := 1) rfl rfl dX0_dropStable_47 ?_
    refine j_iushr (pc := 48) dX0_dropStable_48 ?_
    refine j_put (pc := 49) FI_X0 (k := 6) (by decide) fl_X0_54 rfl rfl rfl dX0_dropStable_49 (fun h4 _ => ?_)
    refine j_iload_n (pc := 52) (p := 1) rfl rfl dX0_dropStable_52 ?_
    exact j_iret (pc := 53) rfl dX0_dropStable_53
  refine j_aload_n (pc := 12) (p := 0) rfl rfl dX0_dropStable_12 ?_
  refine j_getR (pc := 13) FI_X0 (k := 4) (by decide) fl_X0_27 dX0_dropStable_13 (fun x5 _ => ?_)
  refine j_aload_n (pc := 16) (p := 0) rfl rfl dX0_dropStable_16 ?_
  refine j_getR (pc := 17) FI_X0 (k := 3) (by decide) fl_X0_20 dX0_dropStable_17 (fun x6 _ => ?_)
  refine j_iload_n (pc := 20) (p := 2) rfl rfl dX0_dropStable_20 ?_
  refine j_cVl (pc := 21) Y_X5_at (ci := 4) (b := x6) rfl rfl ml_X0_74 im_X5_at se_X5_at ⟨Nat.le_of_ble_eq_true rfl, Nat.le_of_ble_eq_true rfl⟩ dX0_dropStable_21 (As := [.int v2]) (rest := [.ref x5]) rfl rfl (Nat.le_of_ble_eq_true rfl) (fun x hq9 => c_X5_at _ _ _ _ hq9) (fun q7 _ => ?_)
  refine j_cVi (pc := 24) Y_X7_doMove (ci := 6) (b := x5) rfl rfl ml_X0_89 im_X7_doMove se_X7_doMove ⟨Nat.le_of_ble_eq_true rfl, Nat.le_of_ble_eq_true rfl⟩ dX0_dropStable_24 (As := [.long q7.2]) (rest := []) rfl rfl (Nat.le_of_ble_eq_true rfl) (fun x hq9 => c_X7_doMove _ _ _ _ hq9) (fun q8 _ => ?_)
  refine j_pop (pc := 27) rfl dX0_dropStable_27 ?_
  refine j_inc (pc := 28) (p := 2) (lv' := [(2, .int (v2 + 1)), (0, .ref v0), (1, .int v1)]) rfl ki_1 (by decide) rfl dX0_dropStable_28 ?_
  refine j_goto (pc := 31) (tgt := 7) dX0_dropStable_31 (by decide) ?_
  refine j_sub [1, 2, 0] (lv' := [(0, .ref v0), (1, .int v1), (2, .int (v2 + 1))]) rfl ?_
  exact hk7 _ _ _ _
set_option maxRecDepth 20000 in
set_option maxHeartbeats 1000000 in
theorem jl_X0_dropStable_7 {G : q_G} {l : Launch} {k0 z0 : Nat} (n : Nat) : ∀ (h : q_H) (v0 : Nat) (v1 : Int32) (v2 : Int32), q_J G l (RX0, cX0_dropStable, 3, 3, 102, (some .int), "dropStable", []) k0 z0 (q_Z G k0 z0 q_i) 7 [(0, .ref v0), (1, .int v1), (2, .int v2)] [] h (l_X0_dropStable_7 n h v0 v1 v2) := by
  induction n with
  | zero => intro h v0 v1 v2; exact j_none
  | succ n ih => intro h v0 v1 v2; exact jb_X0_dropStable_7 (l_X0_dropStable_7 n) ih h v0 v1 v2
set_option maxRecDepth 20000 in
set_option maxHeartbeats 1000000 in
theorem jb_X0_dropStable_0 {G : q_G} {l : Launch} {k0 z0 : Nat} (h : q_H) (v0 : Nat) : q_J G l (RX0, cX0_dropStable, 3, 3, 102, (some .int), "dropStable", []) k0 z0 (q_Z G k0 z0 q_i) 0 [(0, .ref v0)] [] h (b_X0_dropStable_0 h v0) := by
  unfold b_X0_dropStable_0
  refine j_aload_n (pc := 0) (p := 0) rfl rfl dX0_dropStable_0 ?_
  refine j_cVi (pc := 1) Y_X0_stableMoves (ci := 0) (b := v0) rfl rfl ml_X0_86 im_X0_stableMoves se_X0_stableMoves ⟨Nat.le_of_ble_eq_true rfl, Nat.le_of_ble_eq_true rfl⟩ dX0_dropStable_1 (As := []) (rest := []) rfl rfl (Nat.le_of_ble_eq_true rfl) (fun x hq9 => c_X0_stableMoves _ _ _ hq9) (fun q9 _ => ?_)
  refine j_istore_n (pc := 4) (lv' := [(1, .int q9.2), (0, .ref v0)]) rfl (by decide) rfl dX0_dropStable_4 ?_
  refine j_iconst (pc := 5) ki_0 dX0_dropStable_5 ?_
  refine j_istore_n (pc := 6) (lv' := [(2, .int (0)), (1, .int q9.2), (0, .ref v0)]) rfl (by decide) rfl dX0_dropStable_6 ?_
  refine j_sub [2, 1, 0] (lv' := [(0, .ref v0), (1, .int q9.2), (2, .int (0))]) rfl ?_
  exact jl_X0_dropStable_7 q_FU _ _ _ _
set_option maxRecDepth 20000 in
set_option maxHeartbeats 1000000 in
theorem c_X0_dropStable {G : q_G} {l : Launch} : ∀ (h : q_H) (a0 : Nat) (q : q_H × Int32), f_X0_dropStable h a0 = some q → (∃ fs, h.1 a0 = .inr (0, fs)) ∧ q_CT G l yX0_dropStable cX0_dropStable 3 (some .int) 3 102 [.ref a0] h q.1 (q_i q.2) := by
  intro h a0 q e
  obtain ⟨e1, e2⟩ := q_chk_ok e
  exact ⟨e1, q_ofJ Y_X0_dropStable (Nat.le_of_ble_eq_true rfl) (jb_X0_dropStable_0 h a0) q e2⟩
/-! FarFolders$Copy.hear(IJ)V -/
theorem dX0_hear_0 : decode cX0_hear 0 = .ok (.iload_n 1, 1) := by decide +kernel
theorem dX0_hear_1 : decode cX0_hear 1 = .ok (.ifCond .lt 22, 3) := by decide +kernel
theorem dX0_hear_4 : decode cX0_hear 4 = .ok (.iload_n 1, 1) := by decide +kernel
theorem dX0_hear_5 : decode cX0_hear 5 = .ok (.aload_n 0, 1) := by decide +kernel
theorem dX0_hear_6 : decode cX0_hear 6 = .ok (.getfield 9, 3) := by decide +kernel
theorem dX0_hear_9 : decode cX0_hear 9 = .ok (.arraylength, 1) := by decide +kernel
theorem dX0_hear_10 : decode cX0_hear 10 = .ok (.if_icmp .ge 13, 3) := by decide +kernel
theorem dX0_hear_13 : decode cX0_hear 13 = .ok (.aload_n 0, 1) := by decide +kernel
theorem dX0_hear_14 : decode cX0_hear 14 = .ok (.getfield 9, 3) := by decide +kernel
theorem dX0_hear_17 : decode cX0_hear 17 = .ok (.iload_n 1, 1) := by decide +kernel
theorem dX0_hear_18 : decode cX0_hear 18 = .ok (.lload_n 2, 1) := by decide +kernel
theorem dX0_hear_19 : decode cX0_hear 19 = .ok (.invokestatic 78, 3) := by decide +kernel
theorem dX0_hear_22 : decode cX0_hear 22 = .ok (.iastore, 1) := by decide +kernel
theorem dX0_hear_23 : decode cX0_hear 23 = .ok (.aload_n 0, 1) := by decide +kernel
theorem dX0_hear_24 : decode cX0_hear 24 = .ok (.aload_n 0, 1) := by decide +kernel
theorem dX0_hear_25 : decode cX0_hear 25 = .ok (.getfield 38, 3) := by decide +kernel
theorem dX0_hear_28 : decode cX0_hear 28 = .ok (.lload_n 2, 1) := by decide +kernel
theorem dX0_hear_29 : decode cX0_hear 29 = .ok (.invokestatic 78, 3) := by decide +kernel
theorem dX0_hear_32 : decode cX0_hear 32 = .ok (.invokestatic 83, 3) := by decide +kernel
theorem dX0_hear_35 : decode cX0_hear 35 = .ok (.putfield 38, 3) := by decide +kernel
theorem dX0_hear_38 : decode cX0_hear 38 = .ok (.return_, 1) := by decide +kernel
def b_X0_hear_23 (h : q_H) (v0 : Nat) (v2 : Int64) : Option (q_H × Unit) :=
  Option.bind (q_gI 0 1 h v0) (fun x1 => Option.bind (f_X1_time h v2) (fun q2 => Option.bind (q_p 0 1 q2.1 v0 (.int (q_max x1 q2.2))) (fun h3 => some (h3, ()))))
def b_X0_hear_0 (h : q_H) (v0 : Nat) (v1 : Int32) (v2 : Int64) : Option (q_H × Unit) :=
  if v1 < 0 then b_X0_hear_23 h v0 v2 else Option.bind (q_gR 0 2 h v0) (fun x4 => Option.bind (q_len h x4) (fun x5 => if x5 ≤ v1 then b_X0_hear_23 h v0 v2 else Option.bind (q_gR 0 2 h v0) (fun x6 => Option.bind (f_X1_time h v2) (fun q7 => Option.bind (q_sI 0 id q7.1 x6 v1 q7.2) (fun h8 => b_X0_hear_23 h8 v0 v2)))))
def f_X0_hear (h : q_H) (a0 : Nat) (a1 : Int32) (a2 : Int64) : Option (q_H × Unit) := q_chk 0 h a0 (b_X0_hear_0 h a0 a1 a2)
set_option maxRecDepth 20000 in
set_option maxHeartbeats 1000000 in
theorem jb_X0_hear_23 {G : q_G} {l : Launch} {k0 z0 : Nat} (h : q_H) (v0 : Nat) (v2 : Int64) : q_J G l (RX0, cX0_hear, 4, 1, 60, none, "hear", []) k0 z0 (q_Z G k0 z0 q_u) 23 [(0, .ref v0), (2, .long v2)] [] h (b_X0_hear_23 h v0 v2) := by
  unfold b_X0_hear_23
  refine j_aload_n (pc := 23) (p := 0) rfl rfl dX0_hear_23 ?_
  refine j_aload_n (pc := 24) (p := 0) rfl rfl dX0_hear_24 ?_
  refine j_getI (pc := 25) FI_X0 (k := 1) (by decide) fl_X0_38 dX0_hear_25 (fun x1 _ => ?_)
  refine j_lload_n (pc := 28) (p := 1) rfl rfl dX0_hear_28 ?_
  refine j_cSi (pc := 29) Y_X1_time ml_X0_78 sm_X1_time ⟨Nat.le_of_ble_eq_true rfl, Nat.le_of_ble_eq_true rfl⟩ dX0_hear_29 (As := [.long v2]) (rest := [.int x1, .ref v0]) rfl rfl (Nat.le_of_ble_eq_true rfl) (fun x hq9 => c_X1_time _ _ _ hq9) (fun q2 _ => ?_)
  refine j_max (pc := 32) ml_X0_83 sm_max ini_Math co_max ⟨Nat.le_of_ble_eq_true rfl, Nat.le_of_ble_eq_true rfl⟩ dX0_hear_32 ?_
  refine j_put (pc := 35) FI_X0 (k := 1) (by decide) fl_X0_38 rfl rfl rfl dX0_hear_35 (fun h3 _ => ?_)
  exact j_vret (pc := 38) rfl dX0_hear_38
set_option maxRecDepth 20000 in
set_option maxHeartbeats 1000000 in
theorem jb_X0_hear_0 {G : q_G} {l : Launch} {k0 z0 : Nat} (h : q_H) (v0 : Nat) (v1 : Int32) (v2 : Int64) : q_J G l (RX0, cX0_hear, 4, 1, 60, none, "hear", []) k0 z0 (q_Z G k0 z0 q_u) 0 [(0, .ref v0), (1, .int v1), (2, .long v2)] [] h (b_X0_hear_0 h v0 v1 v2) := by
  unfold b_X0_hear_0
  refine j_iload_n (pc := 0) (p := 1) rfl rfl dX0_hear_0 ?_
  refine j_if_lt (pc := 1) (tgt := 23) dX0_hear_1 (by decide) (fun _ => ?_) (fun _ => ?_)
  · refine j_sub [0, 2] (lv' := [(0, .ref v0), (2, .long v2)]) rfl ?_
    exact jb_X0_hear_23 _ _ _
  refine j_iload_n (pc := 4) (p := 1) rfl rfl dX0_hear_4 ?_
  refine j_aload_n (pc := 5) (p := 0) rfl rfl dX0_hear_5 ?_
  refine j_getR (pc := 6) FI_X0 (k := 2) (by decide) fl_X0_9 dX0_hear_6 (fun x4 _ => ?_)
  refine j_alen (pc := 9) dX0_hear_9 (fun x5 _ => ?_)
  refine j_ic_ge (pc := 10) (tgt := 23) dX0_hear_10 (by decide) (fun _ => ?_) (fun _ => ?_)
  · refine j_sub [0, 2] (lv' := [(0, .ref v0), (2, .long v2)]) rfl ?_
    exact jb_X0_hear_23 _ _ _
  refine j_aload_n (pc := 13) (p := 0) rfl rfl dX0_hear_13 ?_
  refine j_getR (pc := 14) FI_X0 (k := 2) (by decide) fl_X0_9 dX0_hear_14 (fun x6 _ => ?_)
  refine j_iload_n (pc := 17) (p := 1) rfl rfl dX0_hear_17 ?_
  refine j_lload_n (pc := 18) (p := 2) rfl rfl dX0_hear_18 ?_
  refine j_cSi (pc := 19) Y_X1_time ml_X0_78 sm_X1_time ⟨Nat.le_of_ble_eq_true rfl, Nat.le_of_ble_eq_true rfl⟩ dX0_hear_19 (As := [.long v2]) (rest := [.int v1, .ref x6]) rfl rfl (Nat.le_of_ble_eq_true rfl) (fun x hq9 => c_X1_time _ _ _ hq9) (fun q7 _ => ?_)
  refine j_iast (pc := 22) dX0_hear_22 (fun h8 _ => ?_)
  refine j_sub [0, 2] (lv' := [(0, .ref v0), (2, .long v2)]) rfl ?_
  exact jb_X0_hear_23 _ _ _
set_option maxRecDepth 20000 in
set_option maxHeartbeats 1000000 in
theorem c_X0_hear {G : q_G} {l : Launch} : ∀ (h : q_H) (a0 : Nat) (a1 : Int32) (a2 : Int64) (q : q_H × Unit), f_X0_hear h a0 a1 a2 = some q → (∃ fs, h.1 a0 = .inr (0, fs)) ∧ q_CT G l yX0_hear cX0_hear 4 none 1 60 [.ref a0, .int a1, .long a2] h q.1 (q_u q.2) := by
  intro h a0 a1 a2 q e
  obtain ⟨e1, e2⟩ := q_chk_ok e
  exact ⟨e1, q_ofJ Y_X0_hear (Nat.le_of_ble_eq_true rfl) (jb_X0_hear_0 h a0 a1 a2) q e2⟩
/-! FarFolders$Series.<init>(I)V -/
theorem dX5_init_0 : decode cX5_init 0 = .ok (.aload_n 0, 1) := by decide +kernel
theorem dX5_init_1 : decode cX5_init 1 = .ok (.invokespecial 3, 3) := by decide +kernel
theorem dX5_init_4 : decode cX5_init 4 = .ok (.aload_n 0, 1) := by decide +kernel
theorem dX5_init_5 : decode cX5_init 5 = .ok (.iload_n 1, 1) := by decide +kernel
theorem dX5_init_6 : decode cX5_init 6 = .ok (.iconst 0, 1) := by decide +kernel
theorem dX5_init_7 : decode cX5_init 7 = .ok (.invokestatic 9, 3) := by decide +kernel
theorem dX5_init_10 : decode cX5_init 10 = .ok (.newarray .long, 2) := by decide +kernel
theorem dX5_init_12 : decode cX5_init 12 = .ok (.putfield 15, 3) := by decide +kernel
theorem dX5_init_15 : decode cX5_init 15 = .ok (.return_, 1) := by decide +kernel
def b_X5_init_0 (h : q_H) (v0 : Nat) (v1 : Int32) : Option (q_H × Unit) :=
  Option.bind (q_nL h (q_max v1 (0))) (fun q1 => Option.bind (q_p 4 0 q1.1 v0 (.ref q1.2)) (fun h2 => some (h2, ())))
def f_X5_init (h : q_H) (a0 : Nat) (a1 : Int32) : Option (q_H × Unit) := b_X5_init_0 h a0 a1
set_option maxRecDepth 20000 in
set_option maxHeartbeats 1000000 in
theorem jb_X5_init_0 {G : q_G} {l : Launch} {k0 z0 : Nat} (hx : G.2.2.2.2.2.2.2 = true) (h : q_H) (v0 : Nat) (v1 : Int32) : q_J G l (RX5, cX5_init, 2, 1, 60, none, "<init>", []) k0 z0 (q_Z G k0 z0 q_u) 0 [(0, .ref v0), (1, .int v1)] [] h (b_X5_init_0 h v0 v1) := by
  unfold b_X5_init_0
  refine j_aload_n (pc := 0) (p := 0) rfl rfl dX5_init_0 ?_
  refine j_oinit (pc := 1) ml_X5_3 im_Oinit co_Oinit ⟨Nat.le_of_ble_eq_true rfl, Nat.le_of_ble_eq_true rfl⟩ dX5_init_1 ?_
  refine j_aload_n (pc := 4) (p := 0) rfl rfl dX5_init_4 ?_
  refine j_iload_n (pc := 5) (p := 1) rfl rfl dX5_init_5 ?_
  refine j_iconst (pc := 6) ki_0 dX5_init_6 ?_
  refine j_max (pc := 7) ml_X5_9 sm_max ini_Math co_max ⟨Nat.le_of_ble_eq_true rfl, Nat.le_of_ble_eq_true rfl⟩ dX5_init_7 ?_
  refine j_newl (pc := 10) hx ac_long dX5_init_10 (fun q1 _ => ?_)
  refine j_putF (pc := 12) FI_X5 (k := 0) (by decide) fl_X5_15 rfl rfl rfl rfl rfl dX5_init_12 (fun h2 _ => ?_)
  exact j_vret (pc := 15) rfl dX5_init_15
set_option maxRecDepth 20000 in
set_option maxHeartbeats 1000000 in
theorem c_X5_init {G : q_G} {l : Launch} (hx : G.2.2.2.2.2.2.2 = true) : ∀ (h : q_H) (a0 : Nat) (a1 : Int32) (q : q_H × Unit), f_X5_init h a0 a1 = some q → q_CT G l yX5_init cX5_init 2 none 1 60 [.ref a0, .int a1] h q.1 (q_u q.2) := by
  intro h a0 a1 q e
  exact q_ofJ Y_X5_init (Nat.le_of_ble_eq_true rfl) (jb_X5_init_0 hx h a0 a1) q e
/-! FarFolders$Tree.<init>()V -/
theorem dX7_init_0 : decode cX7_init 0 = .ok (.aload_n 0, 1) := by decide +kernel
theorem dX7_init_1 : decode cX7_init 1 = .ok (.invokespecial 3, 3) := by decide +kernel
theorem dX7_init_4 : decode cX7_init 4 = .ok (.aload_n 0, 1) := by decide +kernel
theorem dX7_init_5 : decode cX7_init 5 = .ok (.bipush 16, 2) := by decide +kernel
theorem dX7_init_7 : decode cX7_init 7 = .ok (.newarray .long, 2) := by decide +kernel
theorem dX7_init_9 : decode cX7_init 9 = .ok (.putfield 9, 3) := by decide +kernel
theorem dX7_init_12 : decode cX7_init 12 = .ok (.return_, 1) := by decide +kernel
def b_X7_init_0 (h : q_H) (v0 : Nat) : Option (q_H × Unit) :=
  Option.bind (q_nL h (16)) (fun q1 => Option.bind (q_p 6 0 q1.1 v0 (.ref q1.2)) (fun h2 => some (h2, ())))
def f_X7_init (h : q_H) (a0 : Nat) : Option (q_H × Unit) := b_X7_init_0 h a0
set_option maxRecDepth 20000 in
set_option maxHeartbeats 1000000 in
theorem jb_X7_init_0 {G : q_G} {l : Launch} {k0 z0 : Nat} (hx : G.2.2.2.2.2.2.2 = true) (h : q_H) (v0 : Nat) : q_J G l (RX7, cX7_init, 1, 1, 60, none, "<init>", []) k0 z0 (q_Z G k0 z0 q_u) 0 [(0, .ref v0)] [] h (b_X7_init_0 h v0) := by
  unfold b_X7_init_0
  refine j_aload_n (pc := 0) (p := 0) rfl rfl dX7_init_0 ?_
  refine j_oinit (pc := 1) ml_X7_3 im_Oinit co_Oinit ⟨Nat.le_of_ble_eq_true rfl, Nat.le_of_ble_eq_true rfl⟩ dX7_init_1 ?_
  refine j_aload_n (pc := 4) (p := 0) rfl rfl dX7_init_4 ?_
  refine j_bipush (pc := 5) kb_16 dX7_init_5 ?_
  refine j_newl (pc := 7) hx ac_long dX7_init_7 (fun q1 _ => ?_)
  refine j_putF (pc := 9) FI_X7 (k := 0) (by decide) fl_X7_9 rfl rfl rfl rfl rfl dX7_init_9 (fun h2 _ => ?_)
  exact j_vret (pc := 12) rfl dX7_init_12
set_option maxRecDepth 20000 in
set_option maxHeartbeats 1000000 in
theorem c_X7_init {G : q_G} {l : Launch} (hx : G.2.2.2.2.2.2.2 = true) : ∀ (h : q_H) (a0 : Nat) (q : q_H × Unit), f_X7_init h a0 = some q → q_CT G l yX7_init cX7_init 1 none 1 60 [.ref a0] h q.1 (q_u q.2) := by
  intro h a0 q e
  exact q_ofJ Y_X7_init (Nat.le_of_ble_eq_true rfl) (jb_X7_init_0 hx h a0) q e
/-! FarFolders$Copy.<init>(I)V -/
theorem dX0_init_0 : decode cX0_init 0 = .ok (.aload_n 0, 1) := by decide +kernel
theorem dX0_init_1 : decode cX0_init 1 = .ok (.invokespecial 3, 3) := by decide +kernel
theorem dX0_init_4 : decode cX0_init 4 = .ok (.aload_n 0, 1) := by decide +kernel
theorem dX0_init_5 : decode cX0_init 5 = .ok (.iconst 3, 1) := by decide +kernel
theorem dX0_init_6 : decode cX0_init 6 = .ok (.newarray .int, 2) := by decide +kernel
theorem dX0_init_8 : decode cX0_init 8 = .ok (.putfield 9, 3) := by decide +kernel
theorem dX0_init_11 : decode cX0_init 11 = .ok (.aload_n 0, 1) := by decide +kernel
theorem dX0_init_12 : decode cX0_init 12 = .ok (.new 15, 3) := by decide +kernel
theorem dX0_init_15 : decode cX0_init 15 = .ok (.dup, 1) := by decide +kernel
theorem dX0_init_16 : decode cX0_init 16 = .ok (.bipush 32, 2) := by decide +kernel
theorem dX0_init_18 : decode cX0_init 18 = .ok (.invokespecial 17, 3) := by decide +kernel
theorem dX0_init_21 : decode cX0_init 21 = .ok (.putfield 20, 3) := by decide +kernel
theorem dX0_init_24 : decode cX0_init 24 = .ok (.aload_n 0, 1) := by decide +kernel
theorem dX0_init_25 : decode cX0_init 25 = .ok (.new 24, 3) := by decide +kernel
theorem dX0_init_28 : decode cX0_init 28 = .ok (.dup, 1) := by decide +kernel
theorem dX0_init_29 : decode cX0_init 29 = .ok (.invokespecial 26, 3) := by decide +kernel
theorem dX0_init_32 : decode cX0_init 32 = .ok (.putfield 27, 3) := by decide +kernel
theorem dX0_init_35 : decode cX0_init 35 = .ok (.aload_n 0, 1) := by decide +kernel
theorem dX0_init_36 : decode cX0_init 36 = .ok (.new 24, 3) := by decide +kernel
theorem dX0_init_39 : decode cX0_init 39 = .ok (.dup, 1) := by decide +kernel
theorem dX0_init_40 : decode cX0_init 40 = .ok (.invokespecial 26, 3) := by decide +kernel
theorem dX0_init_43 : decode cX0_init 43 = .ok (.putfield 31, 3) := by decide +kernel
theorem dX0_init_46 : decode cX0_init 46 = .ok (.aload_n 0, 1) := by decide +kernel
theorem dX0_init_47 : decode cX0_init 47 = .ok (.iload_n 1, 1) := by decide +kernel
theorem dX0_init_48 : decode cX0_init 48 = .ok (.putfield 34, 3) := by decide +kernel
theorem dX0_init_51 : decode cX0_init 51 = .ok (.return_, 1) := by decide +kernel
def b_X0_init_0 (h : q_H) (v0 : Nat) (v1 : Int32) : Option (q_H × Unit) :=
  Option.bind (q_nI 0 h (3)) (fun q1 => Option.bind (q_p 0 2 q1.1 v0 (.ref q1.2)) (fun h2 => Option.bind (q_new 4 [.null, .int 0] h2) (fun q3 => Option.bind (f_X5_init q3.1 q3.2 (32)) (fun q4 => Option.bind (q_p 0 3 q4.1 v0 (.ref q3.2)) (fun h5 => Option.bind (q_new 6 [.null] h5) (fun q6 => Option.bind (f_X7_init q6.1 q6.2) (fun q7 => Option.bind (q_p 0 4 q7.1 v0 (.ref q6.2)) (fun h8 => Option.bind (q_new 6 [.null] h8) (fun q9 => Option.bind (f_X7_init q9.1 q9.2) (fun q10 => Option.bind (q_p 0 5 q10.1 v0 (.ref q9.2)) (fun h11 => Option.bind (q_p 0 0 h11 v0 (.int v1)) (fun h12 => some (h12, ())))))))))))))
def f_X0_init (h : q_H) (a0 : Nat) (a1 : Int32) : Option (q_H × Unit) := b_X0_init_0 h a0 a1
set_option maxRecDepth 20000 in
set_option maxHeartbeats 1000000 in
theorem jb_X0_init_0 {G : q_G} {l : Launch} {k0 z0 : Nat} (hx : G.2.2.2.2.2.2.2 = true) (h : q_H) (v0 : Nat) (v1 : Int32) : q_J G l (RX0, cX0_init, 2, 2, 81, none, "<init>", []) k0 z0 (q_Z G k0 z0 q_u) 0 [(0, .ref v0), (1, .int v1)] [] h (b_X0_init_0 h v0 v1) := by
  unfold b_X0_init_0
  refine j_aload_n (pc := 0) (p := 0) rfl rfl dX0_init_0 ?_
  refine j_oinit (pc := 1) ml_X0_3 im_Oinit co_Oinit ⟨Nat.le_of_ble_eq_true rfl, Nat.le_of_ble_eq_true rfl⟩ dX0_init_1 ?_
  refine j_aload_n (pc := 4) (p := 0) rfl rfl dX0_init_4 ?_
  refine j_iconst (pc := 5) ki_3 dX0_init_5 ?_
  refine j_newi (pc := 6) hx ac_int dX0_init_6 (fun q1 _ => ?_)
  refine j_putF (pc := 8) FI_X0 (k := 2) (by decide) fl_X0_9 rfl rfl rfl rfl rfl dX0_init_8 (fun h2 _ => ?_)
  refine j_aload_n (pc := 11) (p := 0) rfl rfl dX0_init_11 ?_
  refine j_new (pc := 12) hx FI_X5 cl_X0_15 ins_X5 ini_X5 rfl (nf_X5 G) dX0_init_12 (fun q3 _ => ?_)
  refine j_dup (pc := 15) rfl dX0_init_15 ?_
  refine j_bipush (pc := 16) kb_32 dX0_init_16 ?_
  refine j_cIu (pc := 18) Y_X5_init (b := q3.2) rfl ml_X0_17 im_X5_init ⟨Nat.le_of_ble_eq_true rfl, Nat.le_of_ble_eq_true rfl⟩ dX0_init_18 (As := [.int (32)]) (rest := [.ref q3.2, .ref v0]) rfl rfl (Nat.le_of_ble_eq_true rfl) (fun x hq9 => (c_X5_init hx) _ _ _ _ hq9) (fun q4 _ => ?_)
  refine j_putF (pc := 21) FI_X0 (k := 3) (by decide) fl_X0_20 rfl rfl rfl rfl rfl dX0_init_21 (fun h5 _ => ?_)
  refine j_aload_n (pc := 24) (p := 0) rfl rfl dX0_init_24 ?_
  refine j_new (pc := 25) hx FI_X7 cl_X0_24 ins_X7 ini_X7 rfl (nf_X7 G) dX0_init_25 (fun q6 _ => ?_)
  refine j_dup (pc := 28) rfl dX0_init_28 ?_
  refine j_cINu (pc := 29) Y_X7_init (b := q6.2) rfl mn_X0_26 im_X7_init ⟨Nat.le_of_ble_eq_true rfl, Nat.le_of_ble_eq_true rfl⟩ dX0_init_29 (As := []) (rest := [.ref q6.2, .ref v0]) rfl rfl (Nat.le_of_ble_eq_true rfl) (fun x hq9 => (c_X7_init hx) _ _ _ hq9) (fun q7 _ => ?_)
  refine j_putF (pc := 32) FI_X0 (k := 4) (by decide) fl_X0_27 rfl rfl rfl rfl rfl dX0_init_32 (fun h8 _ => ?_)
  refine j_aload_n (pc := 35) (p := 0) rfl rfl dX0_init_35 ?_
  refine j_new (pc := 36) hx FI_X7 cl_X0_24 ins_X7 ini_X7 rfl (nf_X7 G) dX0_init_36 (fun q9 _ => ?_)
  refine j_dup (pc := 39) rfl dX0_init_39 ?_
  refine j_cINu (pc := 40) Y_X7_init (b := q9.2) rfl mn_X0_26 im_X7_init ⟨Nat.le_of_ble_eq_true rfl, Nat.le_of_ble_eq_true rfl⟩ dX0_init_40 (As := []) (rest := [.ref q9.2, .ref v0]) rfl rfl (Nat.le_of_ble_eq_true rfl) (fun x hq9 => (c_X7_init hx) _ _ _ hq9) (fun q10 _ => ?_)
  refine j_putF (pc := 43) FI_X0 (k := 5) (by decide) fl_X0_31 rfl rfl rfl rfl rfl dX0_init_43 (fun h11 _ => ?_)
  refine j_aload_n (pc := 46) (p := 0) rfl rfl dX0_init_46 ?_
  refine j_iload_n (pc := 47) (p := 1) rfl rfl dX0_init_47 ?_
  refine j_putF (pc := 48) FI_X0 (k := 0) (by decide) fl_X0_34 rfl rfl rfl rfl rfl dX0_init_48 (fun h12 _ => ?_)
  exact j_vret (pc := 51) rfl dX0_init_51
set_option maxRecDepth 20000 in
set_option maxHeartbeats 1000000 in
theorem c_X0_init {G : q_G} {l : Launch} (hx : G.2.2.2.2.2.2.2 = true) : ∀ (h : q_H) (a0 : Nat) (a1 : Int32) (q : q_H × Unit), f_X0_init h a0 a1 = some q → q_CT G l yX0_init cX0_init 2 none 2 81 [.ref a0, .int a1] h q.1 (q_u q.2) := by
  intro h a0 a1 q e
  exact q_ofJ Y_X0_init (Nat.le_of_ble_eq_true rfl) (jb_X0_init_0 hx h a0 a1) q e
/-! FarFolders$Letter.hasMove(J)Z -/
theorem dX1_hasMove_0 : decode cX1_hasMove 0 = .ok (.lload_n 0, 1) := by decide +kernel
theorem dX1_hasMove_1 : decode cX1_hasMove 1 = .ok (.invokestatic 7, 3) := by decide +kernel
theorem dX1_hasMove_4 : decode cX1_hasMove 4 = .ok (.ifCond .eq 7, 3) := by decide +kernel
theorem dX1_hasMove_7 : decode cX1_hasMove 7 = .ok (.iconst 1, 1) := by decide +kernel
theorem dX1_hasMove_8 : decode cX1_hasMove 8 = .ok (.goto 4, 3) := by decide +kernel
theorem dX1_hasMove_11 : decode cX1_hasMove 11 = .ok (.iconst 0, 1) := by decide +kernel
theorem dX1_hasMove_12 : decode cX1_hasMove 12 = .ok (.ireturn, 1) := by decide +kernel
def b_X1_hasMove_0 (h : q_H) (v0 : Int64) : Option (q_H × Int32) :=
  Option.bind (f_X1_folder h v0) (fun q1 => if q1.2 = 0 then some (q1.1, (0)) else some (q1.1, (1)))
def f_X1_hasMove (h : q_H) (a0 : Int64) : Option (q_H × Int32) := b_X1_hasMove_0 h a0
set_option maxRecDepth 20000 in
set_option maxHeartbeats 1000000 in
theorem jb_X1_hasMove_0 {G : q_G} {l : Launch} {k0 z0 : Nat} (h : q_H) (v0 : Int64) : q_J G l (RX1, cX1_hasMove, 2, 1, 21, (some .boolean), "hasMove", []) k0 z0 (q_Z G k0 z0 q_i) 0 [(0, .long v0)] [] h (b_X1_hasMove_0 h v0) := by
  unfold b_X1_hasMove_0
  refine j_lload_n (pc := 0) (p := 0) rfl rfl dX1_hasMove_0 ?_
  refine j_cSi (pc := 1) Y_X1_folder ml_X1_7 sm_X1_folder ⟨Nat.le_of_ble_eq_true rfl, Nat.le_of_ble_eq_true rfl⟩ dX1_hasMove_1 (As := [.long v0]) (rest := []) rfl rfl (Nat.le_of_ble_eq_true rfl) (fun x hq9 => c_X1_folder _ _ _ hq9) (fun q1 _ => ?_)
  refine j_if_eq (pc := 4) (tgt := 11) dX1_hasMove_4 (by decide) (fun _ => ?_) (fun _ => ?_)
  · refine j_iconst (pc := 11) ki_0 dX1_hasMove_11 ?_
    exact j_zret (pc := 12) rfl rfl dX1_hasMove_12
  refine j_iconst (pc := 7) ki_1 dX1_hasMove_7 ?_
  refine j_goto (pc := 8) (tgt := 12) dX1_hasMove_8 (by decide) ?_
  exact j_zret (pc := 12) rfl rfl dX1_hasMove_12
set_option maxRecDepth 20000 in
set_option maxHeartbeats 1000000 in
theorem c_X1_hasMove {G : q_G} {l : Launch} : ∀ (h : q_H) (a0 : Int64) (q : q_H × Int32), f_X1_hasMove h a0 = some q → q_CT G l yX1_hasMove cX1_hasMove 2 (some .boolean) 1 21 [.long a0] h q.1 (q_i q.2) := by
  intro h a0 q e
  exact q_ofJ Y_X1_hasMove (Nat.le_of_ble_eq_true rfl) (jb_X1_hasMove_0 h a0) q e
/-! FarFolders$Letter.of(IIIII)J -/
theorem dX1_of_0 : decode cX1_of 0 = .ok (.iload_n 0, 1) := by decide +kernel
theorem dX1_of_1 : decode cX1_of 1 = .ok (.i2l, 1) := by decide +kernel
theorem dX1_of_2 : decode cX1_of 2 = .ok (.bipush 14, 2) := by decide +kernel
theorem dX1_of_4 : decode cX1_of 4 = .ok (.lshl, 1) := by decide +kernel
theorem dX1_of_5 : decode cX1_of 5 = .ok (.iload_n 1, 1) := by decide +kernel
theorem dX1_of_6 : decode cX1_of 6 = .ok (.bipush 12, 2) := by decide +kernel
theorem dX1_of_8 : decode cX1_of 8 = .ok (.ishl, 1) := by decide +kernel
theorem dX1_of_9 : decode cX1_of 9 = .ok (.iload_n 2, 1) := by decide +kernel
theorem dX1_of_10 : decode cX1_of 10 = .ok (.bipush 8, 2) := by decide +kernel
theorem dX1_of_12 : decode cX1_of 12 = .ok (.ishl, 1) := by decide +kernel
theorem dX1_of_13 : decode cX1_of 13 = .ok (.ior, 1) := by decide +kernel
theorem dX1_of_14 : decode cX1_of 14 = .ok (.iload_n 3, 1) := by decide +kernel
theorem dX1_of_15 : decode cX1_of 15 = .ok (.iconst 4, 1) := by decide +kernel
theorem dX1_of_16 : decode cX1_of 16 = .ok (.ishl, 1) := by decide +kernel
theorem dX1_of_17 : decode cX1_of 17 = .ok (.ior, 1) := by decide +kernel
theorem dX1_of_18 : decode cX1_of 18 = .ok (.iload 4, 2) := by decide +kernel
theorem dX1_of_20 : decode cX1_of 20 = .ok (.ior, 1) := by decide +kernel
theorem dX1_of_21 : decode cX1_of 21 = .ok (.i2l, 1) := by decide +kernel
theorem dX1_of_22 : decode cX1_of 22 = .ok (.lor, 1) := by decide +kernel
theorem dX1_of_23 : decode cX1_of 23 = .ok (.lreturn, 1) := by decide +kernel
def b_X1_of_0 (h : q_H) (v0 : Int32) (v1 : Int32) (v2 : Int32) (v3 : Int32) (v4 : Int32) : Option (q_H × Int64) :=
  some (h, ((q_lshl (Int32.toInt64 v0) (14)) ||| (Int32.toInt64 ((((v1 <<< ((12) &&& 31)) ||| (v2 <<< ((8) &&& 31))) ||| (v3 <<< ((4) &&& 31))) ||| v4))))
def f_X1_of (h : q_H) (a0 : Int32) (a1 : Int32) (a2 : Int32) (a3 : Int32) (a4 : Int32) : Option (q_H × Int64) := b_X1_of_0 h a0 a1 a2 a3 a4
set_option maxRecDepth 20000 in
set_option maxHeartbeats 1000000 in
theorem jb_X1_of_0 {G : q_G} {l : Launch} {k0 z0 : Nat} (h : q_H) (v0 : Int32) (v1 : Int32) (v2 : Int32) (v3 : Int32) (v4 : Int32) : q_J G l (RX1, cX1_of, 5, 0, 0, (some .long), "of", []) k0 z0 (q_Z G k0 z0 q_l) 0 [(0, .int v0), (1, .int v1), (2, .int v2), (3, .int v3), (4, .int v4)] [] h (b_X1_of_0 h v0 v1 v2 v3 v4) := by
  unfold b_X1_of_0
  refine j_iload_n (pc := 0) (p := 0) rfl rfl dX1_of_0 ?_
  refine j_i2l (pc := 1) dX1_of_1 ?_
  refine j_bipush (pc := 2) kb_14 dX1_of_2 ?_
  refine j_lshl (pc := 4) dX1_of_4 ?_
  refine j_iload_n (pc := 5) (p := 1) rfl rfl dX1_of_5 ?_
  refine j_bipush (pc := 6) kb_12 dX1_of_6 ?_
  refine j_ishl (pc := 8) dX1_of_8 ?_
  refine j_iload_n (pc := 9) (p := 2) rfl rfl dX1_of_9 ?_
  refine j_bipush (pc := 10) kb_8 dX1_of_10 ?_
  refine j_ishl (pc := 12) dX1_of_12 ?_
  refine j_ior (pc := 13) dX1_of_13 ?_
  refine j_iload_n (pc := 14) (p := 3) rfl rfl dX1_of_14 ?_
  refine j_iconst (pc := 15) ki_4 dX1_of_15 ?_
  refine j_ishl (pc := 16) dX1_of_16 ?_
  refine j_ior (pc := 17) dX1_of_17 ?_
  refine j_iload (pc := 18) (p := 4) rfl dX1_of_18 ?_
  refine j_ior (pc := 20) dX1_of_20 ?_
  refine j_i2l (pc := 21) dX1_of_21 ?_
  refine j_lor (pc := 22) dX1_of_22 ?_
  exact j_lret (pc := 23) rfl dX1_of_23
set_option maxRecDepth 20000 in
set_option maxHeartbeats 1000000 in
theorem c_X1_of {G : q_G} {l : Launch} : ∀ (h : q_H) (a0 : Int32) (a1 : Int32) (a2 : Int32) (a3 : Int32) (a4 : Int32) (q : q_H × Int64), f_X1_of h a0 a1 a2 a3 a4 = some q → q_CT G l yX1_of cX1_of 5 (some .long) 0 0 [.int a0, .int a1, .int a2, .int a3, .int a4] h q.1 (q_l q.2) := by
  intro h a0 a1 a2 a3 a4 q e
  exact q_ofJ Y_X1_of (Nat.le_of_ble_eq_true rfl) (jb_X1_of_0 h a0 a1 a2 a3 a4) q e
/-! FarFolders$Meeting.allLetters(I)I -/
theorem dX2_allLetters_0 : decode cX2_allLetters 0 = .ok (.iload_n 0, 1) := by decide +kernel
theorem dX2_allLetters_1 : decode cX2_allLetters 1 = .ok (.sipush 2401, 3) := by decide +kernel
theorem dX2_allLetters_4 : decode cX2_allLetters 4 = .ok (.idiv, 1) := by decide +kernel
theorem dX2_allLetters_5 : decode cX2_allLetters 5 = .ok (.ireturn, 1) := by decide +kernel
def b_X2_allLetters_0 (h : q_H) (v0 : Int32) : Option (q_H × Int32) :=
  Option.bind (q_div v0 (2401)) (fun x1 => some (h, x1))
def f_X2_allLetters (h : q_H) (a0 : Int32) : Option (q_H × Int32) := b_X2_allLetters_0 h a0
set_option maxRecDepth 20000 in
set_option maxHeartbeats 1000000 in
theorem jb_X2_allLetters_0 {G : q_G} {l : Launch} {k0 z0 : Nat} (h : q_H) (v0 : Int32) : q_J G l (RX2, cX2_allLetters, 1, 0, 0, (some .int), "allLetters", []) k0 z0 (q_Z G k0 z0 q_i) 0 [(0, .int v0)] [] h (b_X2_allLetters_0 h v0) := by
  unfold b_X2_allLetters_0
  refine j_iload_n (pc := 0) (p := 0) rfl rfl dX2_allLetters_0 ?_
  refine j_sipush (pc := 1) ks_2401 dX2_allLetters_1 ?_
  refine j_idiv (pc := 4) dX2_allLetters_4 (fun x1 _ => ?_)
  exact j_iret (pc := 5) rfl dX2_allLetters_5
set_option maxRecDepth 20000 in
set_option maxHeartbeats 1000000 in
theorem c_X2_allLetters {G : q_G} {l : Launch} : ∀ (h : q_H) (a0 : Int32) (q : q_H × Int32), f_X2_allLetters h a0 = some q → q_CT G l yX2_allLetters cX2_allLetters 1 (some .int) 0 0 [.int a0] h q.1 (q_i q.2) := by
  intro h a0 q e
  exact q_ofJ Y_X2_allLetters (Nat.le_of_ble_eq_true rfl) (jb_X2_allLetters_0 h a0) q e
/-! FarFolders$Meeting.key(IIII)I -/
theorem dX2_key_0 : decode cX2_key 0 = .ok (.iload_n 0, 1) := by decide +kernel
theorem dX2_key_1 : decode cX2_key 1 = .ok (.iload_n 1, 1) := by decide +kernel
theorem dX2_key_2 : decode cX2_key 2 = .ok (.iadd, 1) := by decide +kernel
theorem dX2_key_3 : decode cX2_key 3 = .ok (.iload_n 2, 1) := by decide +kernel
theorem dX2_key_4 : decode cX2_key 4 = .ok (.iadd, 1) := by decide +kernel
theorem dX2_key_5 : decode cX2_key 5 = .ok (.iload_n 3, 1) := by decide +kernel
theorem dX2_key_6 : decode cX2_key 6 = .ok (.iadd, 1) := by decide +kernel
theorem dX2_key_7 : decode cX2_key 7 = .ok (.bipush 7, 2) := by decide +kernel
theorem dX2_key_9 : decode cX2_key 9 = .ok (.imul, 1) := by decide +kernel
theorem dX2_key_10 : decode cX2_key 10 = .ok (.iload_n 0, 1) := by decide +kernel
theorem dX2_key_11 : decode cX2_key 11 = .ok (.iadd, 1) := by decide +kernel
theorem dX2_key_12 : decode cX2_key 12 = .ok (.bipush 7, 2) := by decide +kernel
theorem dX2_key_14 : decode cX2_key 14 = .ok (.imul, 1) := by decide +kernel
theorem dX2_key_15 : decode cX2_key 15 = .ok (.iload_n 1, 1) := by decide +kernel
theorem dX2_key_16 : decode cX2_key 16 = .ok (.iadd, 1) := by decide +kernel
theorem dX2_key_17 : decode cX2_key 17 = .ok (.bipush 7, 2) := by decide +kernel
theorem dX2_key_19 : decode cX2_key 19 = .ok (.imul, 1) := by decide +kernel
theorem dX2_key_20 : decode cX2_key 20 = .ok (.iload_n 2, 1) := by decide +kernel
theorem dX2_key_21 : decode cX2_key 21 = .ok (.iadd, 1) := by decide +kernel
theorem dX2_key_22 : decode cX2_key 22 = .ok (.bipush 7, 2) := by decide +kernel
theorem dX2_key_24 : decode cX2_key 24 = .ok (.imul, 1) := by decide +kernel
theorem dX2_key_25 : decode cX2_key 25 = .ok (.iload_n 3, 1) := by decide +kernel
theorem dX2_key_26 : decode cX2_key 26 = .ok (.iadd, 1) := by decide +kernel
theorem dX2_key_27 : decode cX2_key 27 = .ok (.ireturn, 1) := by decide +kernel
def b_X2_key_0 (h : q_H) (v0 : Int32) (v1 : Int32) (v2 : Int32) (v3 : Int32) : Option (q_H × Int32) :=
  some (h, (((((((((((v0 + v1) + v2) + v3) * (7)) + v0) * (7)) + v1) * (7)) + v2) * (7)) + v3))
def f_X2_key (h : q_H) (a0 : Int32) (a1 : Int32) (a2 : Int32) (a3 : Int32) : Option (q_H × Int32) := b_X2_key_0 h a0 a1 a2 a3
set_option maxRecDepth 20000 in
set_option maxHeartbeats 1000000 in
theorem jb_X2_key_0 {G : q_G} {l : Launch} {k0 z0 : Nat} (h : q_H) (v0 : Int32) (v1 : Int32) (v2 : Int32) (v3 : Int32) : q_J G l (RX2, cX2_key, 4, 0, 0, (some .int), "key", []) k0 z0 (q_Z G k0 z0 q_i) 0 [(0, .int v0), (1, .int v1), (2, .int v2), (3, .int v3)] [] h (b_X2_key_0 h v0 v1 v2 v3) := by
  unfold b_X2_key_0
  refine j_iload_n (pc := 0) (p := 0) rfl rfl dX2_key_0 ?_
  refine j_iload_n (pc := 1) (p := 1) rfl rfl dX2_key_1 ?_
  refine j_iadd (pc := 2) dX2_key_2 ?_
  refine j_iload_n (pc := 3) (p := 2) rfl rfl dX2_key_3 ?_
  refine j_iadd (pc := 4) dX2_key_4 ?_
  refine j_iload_n (pc := 5) (p := 3) rfl rfl dX2_key_5 ?_
  refine j_iadd (pc := 6) dX2_key_6 ?_
  refine j_bipush (pc := 7) kb_7 dX2_key_7 ?_
  refine j_imul (pc := 9) dX2_key_9 ?_
  refine j_iload_n (pc := 10) (p := 0) rfl rfl dX2_key_10 ?_
  refine j_iadd (pc := 11) dX2_key_11 ?_
  refine j_bipush (pc := 12) kb_7 dX2_key_12 ?_
  refine j_imul (pc := 14) dX2_key_14 ?_
  refine j_iload_n (pc := 15) (p := 1) rfl rfl dX2_key_15 ?_
  refine j_iadd (pc := 16) dX2_key_16 ?_
  refine j_bipush (pc := 17) kb_7 dX2_key_17 ?_
  refine j_imul (pc := 19) dX2_key_19 ?_
  refine j_iload_n (pc := 20) (p := 2) rfl rfl dX2_key_20 ?_
  refine j_iadd (pc := 21) dX2_key_21 ?_
  refine j_bipush (pc := 22) kb_7 dX2_key_22 ?_
  refine j_imul (pc := 24) dX2_key_24 ?_
  refine j_iload_n (pc := 25) (p := 3) rfl rfl dX2_key_25 ?_
  refine j_iadd (pc := 26) dX2_key_26 ?_
  exact j_iret (pc := 27) rfl dX2_key_27
set_option maxRecDepth 20000 in
set_option maxHeartbeats 1000000 in
theorem c_X2_key {G : q_G} {l : Launch} : ∀ (h : q_H) (a0 : Int32) (a1 : Int32) (a2 : Int32) (a3 : Int32) (q : q_H × Int32), f_X2_key h a0 a1 a2 a3 = some q → q_CT G l yX2_key cX2_key 4 (some .int) 0 0 [.int a0, .int a1, .int a2, .int a3] h q.1 (q_i q.2) := by
  intro h a0 a1 a2 a3 q e
  exact q_ofJ Y_X2_key (Nat.le_of_ble_eq_true rfl) (jb_X2_key_0 h a0 a1 a2 a3) q e
/-! FarFolders$Orders.place(II)I -/
theorem dX3_place_0 : decode cX3_place 0 = .ok (.iload_n 0, 1) := by decide +kernel
theorem dX3_place_1 : decode cX3_place 1 = .ok (.bipush 6, 2) := by decide +kernel
theorem dX3_place_3 : decode cX3_place 3 = .ok (.invokestatic 18, 3) := by decide +kernel
theorem dX3_place_6 : decode cX3_place 6 = .ok (.bipush 7, 2) := by decide +kernel
theorem dX3_place_8 : decode cX3_place 8 = .ok (.imul, 1) := by decide +kernel
theorem dX3_place_9 : decode cX3_place 9 = .ok (.iload_n 1, 1) := by decide +kernel
theorem dX3_place_10 : decode cX3_place 10 = .ok (.bipush 6, 2) := by decide +kernel
theorem dX3_place_12 : decode cX3_place 12 = .ok (.invokestatic 18, 3) := by decide +kernel
theorem dX3_place_15 : decode cX3_place 15 = .ok (.iadd, 1) := by decide +kernel
theorem dX3_place_16 : decode cX3_place 16 = .ok (.ireturn, 1) := by decide +kernel
def b_X3_place_0 (h : q_H) (v0 : Int32) (v1 : Int32) : Option (q_H × Int32) :=
  some (h, (((q_min v0 (6)) * (7)) + (q_min v1 (6))))
def f_X3_place (h : q_H) (a0 : Int32) (a1 : Int32) : Option (q_H × Int32) := b_X3_place_0 h a0 a1
set_option maxRecDepth 20000 in
set_option maxHeartbeats 1000000 in
theorem jb_X3_place_0 {G : q_G} {l : Launch} {k0 z0 : Nat} (h : q_H) (v0 : Int32) (v1 : Int32) : q_J G l (RX3, cX3_place, 2, 1, 60, (some .int), "place", []) k0 z0 (q_Z G k0 z0 q_i) 0 [(0, .int v0), (1, .int v1)] [] h (b_X3_place_0 h v0 v1) := by
  unfold b_X3_place_0
  refine j_iload_n (pc := 0) (p := 0) rfl rfl dX3_place_0 ?_
  refine j_bipush (pc := 1) kb_6 dX3_place_1 ?_
  refine j_min (pc := 3) ml_X3_18 sm_min ini_Math co_min ⟨Nat.le_of_ble_eq_true rfl, Nat.le_of_ble_eq_true rfl⟩ dX3_place_3 ?_
  refine j_bipush (pc := 6) kb_7 dX3_place_6 ?_
  refine j_imul (pc := 8) dX3_place_8 ?_
  refine j_iload_n (pc := 9) (p := 1) rfl rfl dX3_place_9 ?_
  refine j_bipush (pc := 10) kb_6 dX3_place_10 ?_
  refine j_min (pc := 12) ml_X3_18 sm_min ini_Math co_min ⟨Nat.le_of_ble_eq_true rfl, Nat.le_of_ble_eq_true rfl⟩ dX3_place_12 ?_
  refine j_iadd (pc := 15) dX3_place_15 ?_
  exact j_iret (pc := 16) rfl dX3_place_16
set_option maxRecDepth 20000 in
set_option maxHeartbeats 1000000 in
theorem c_X3_place {G : q_G} {l : Launch} : ∀ (h : q_H) (a0 : Int32) (a1 : Int32) (q : q_H × Int32), f_X3_place h a0 a1 = some q → q_CT G l yX3_place cX3_place 2 (some .int) 1 60 [.int a0, .int a1] h q.1 (q_i q.2) := by
  intro h a0 a1 q e
  exact q_ofJ Y_X3_place (Nat.le_of_ble_eq_true rfl) (jb_X3_place_0 h a0 a1) q e
/-! FarFolders$Tree.isAs(LFarFolders$Tree;)Z -/
theorem dX7_isAs_0 : decode cX7_isAs 0 = .ok (.iconst 2, 1) := by decide +kernel
theorem dX7_isAs_1 : decode cX7_isAs 1 = .ok (.istore_n 2, 1) := by decide +kernel
theorem dX7_isAs_2 : decode cX7_isAs 2 = .ok (.iload_n 2, 1) := by decide +kernel
theorem dX7_isAs_3 : decode cX7_isAs 3 = .ok (.bipush 14, 2) := by decide +kernel
theorem dX7_isAs_5 : decode cX7_isAs 5 = .ok (.if_icmp .ge 27, 3) := by decide +kernel
theorem dX7_isAs_8 : decode cX7_isAs 8 = .ok (.aload_n 0, 1) := by decide +kernel
theorem dX7_isAs_9 : decode cX7_isAs 9 = .ok (.getfield 9, 3) := by decide +kernel
theorem dX7_isAs_12 : decode cX7_isAs 12 = .ok (.iload_n 2, 1) := by decide +kernel
theorem dX7_isAs_13 : decode cX7_isAs 13 = .ok (.laload, 1) := by decide +kernel
theorem dX7_isAs_14 : decode cX7_isAs 14 = .ok (.aload_n 1, 1) := by decide +kernel
theorem dX7_isAs_15 : decode cX7_isAs 15 = .ok (.getfield 9, 3) := by decide +kernel
theorem dX7_isAs_18 : decode cX7_isAs 18 = .ok (.iload_n 2, 1) := by decide +kernel
theorem dX7_isAs_19 : decode cX7_isAs 19 = .ok (.laload, 1) := by decide +kernel
theorem dX7_isAs_20 : decode cX7_isAs 20 = .ok (.lcmp, 1) := by decide +kernel
theorem dX7_isAs_21 : decode cX7_isAs 21 = .ok (.ifCond .eq 5, 3) := by decide +kernel
theorem dX7_isAs_24 : decode cX7_isAs 24 = .ok (.iconst 0, 1) := by decide +kernel
theorem dX7_isAs_25 : decode cX7_isAs 25 = .ok (.ireturn, 1) := by decide +kernel
theorem dX7_isAs_26 : decode cX7_isAs 26 = .ok (.iinc 2 1, 3) := by decide +kernel
theorem dX7_isAs_29 : decode cX7_isAs 29 = .ok (.goto (-27), 3) := by decide +kernel
theorem dX7_isAs_32 : decode cX7_isAs 32 = .ok (.iconst 1, 1) := by decide +kernel
theorem dX7_isAs_33 : decode cX7_isAs 33 = .ok (.ireturn, 1) := by decide +kernel
def b_X7_isAs_2 (k2 : q_H → Nat → Nat → Int32 → Option (q_H × Int32)) (h : q_H) (v0 : Nat) (v1 : Nat) (v2 : Int32) : Option (q_H × Int32) :=
  if (14) ≤ v2 then some (h, (1)) else Option.bind (q_gR 6 0 h v0) (fun x1 => Option.bind (q_lL h x1 v2) (fun x2 => Option.bind (q_gR 6 0 h v1) (fun x3 => Option.bind (q_lL h x3 v2) (fun x4 => if (lg_cmp x2 x4) = 0 then k2 h v0 v1 (v2 + 1) else some (h, (0))))))
def l_X7_isAs_2 : Nat → q_H → Nat → Nat → Int32 → Option (q_H × Int32)
  | 0, _, _, _, _ => none
  | n + 1, h, v0, v1, v2 => b_X7_isAs_2 (l_X7_isAs_2 n) h v0 v1 v2
def b_X7_isAs_0 (h : q_H) (v0 : Nat) (v1 : Nat) : Option (q_H × Int32) :=
  l_X7_isAs_2 q_FU h v0 v1 (2)
def f_X7_isAs (h : q_H) (a0 : Nat) (a1 : Nat) : Option (q_H × Int32) := q_chk 6 h a0 (b_X7_isAs_0 h a0 a1)
set_option maxRecDepth 20000 in
set_option maxHeartbeats 1000000 in
theorem jb_X7_isAs_2 {G : q_G} {l : Launch} {k0 z0 : Nat} (k2 : q_H → Nat → Nat → Int32 → Option (q_H × Int32)) (hk2 : ∀ (h : q_H) (v0 : Nat) (v1 : Nat) (v2 : Int32), q_J G l (RX7, cX7_isAs, 3, 0, 0, (some .boolean), "isAs", []) k0 z0 (q_Z G k0 z0 q_i) 2 [(0, .ref v0), (1, .ref v1), (2, .int v2)] [] h (k2 h v0 v1 v2)) (h : q_H) (v0 : Nat) (v1 : Nat) (v2 : Int32) : q_J G l (RX7, cX7_isAs, 3, 0, 0, (some .boolean), "isAs", []) k0 z0 (q_Z G k0 z0 q_i) 2 [(0, .ref v0), (1, .ref v1), (2, .int v2)] [] h (b_X7_isAs_2 k2 h v0 v1 v2) := by
  unfold b_X7_isAs_2
  refine j_iload_n (pc := 2) (p := 2) rfl rfl dX7_isAs_2 ?_
  refine j_bipush (pc := 3) kb_14 dX7_isAs_3 ?_
  refine j_ic_ge (pc := 5) (tgt := 32) dX7_isAs_5 (by decide) (fun _ => ?_) (fun _ => ?_)
  · refine j_iconst (pc := 32) ki_1 dX7_isAs_32 ?_
    exact j_zret (pc := 33) rfl rfl dX7_isAs_33
  refine j_aload_n (pc := 8) (p := 0) rfl rfl dX7_isAs_8 ?_
  refine j_getR (pc := 9) FI_X7 (k := 0) (by decide) fl_X7_9 dX7_isAs_9 (fun x1 _ => ?_)
  refine j_iload_n (pc := 12) (p := 2) rfl rfl dX7_isAs_12 ?_
  refine j_lald (pc := 13) dX7_isAs_13 (fun x2 _ => ?_)
  refine j_aload_n (pc := 14) (p := 1) rfl rfl dX7_isAs_14 ?_
  refine j_getR (pc := 15) FI_X7 (k := 0) (by decide) fl_X7_9 dX7_isAs_15 (fun x3 _ => ?_)
  refine j_iload_n (pc := 18) (p := 2) rfl rfl dX7_isAs_18 ?_
  refine j_lald (pc := 19) dX7_isAs_19 (fun x4 _ => ?_)
  refine j_lcmp (pc := 20) dX7_isAs_20 ?_
  refine j_if_eq (pc := 21) (tgt := 26) dX7_isAs_21 (by decide) (fun _ => ?_) (fun _ => ?_)
  · refine j_inc (pc := 26) (p := 2) (lv' := [(2, .int (v2 + 1)), (0, .ref v0), (1, .ref v1)]) rfl ki_1 (by decide) rfl dX7_isAs_26 ?_
    refine j_goto (pc := 29) (tgt := 2) dX7_isAs_29 (by decide) ?_
    refine j_sub [1, 2, 0] (lv' := [(0, .ref v0), (1, .ref v1), (2, .int (v2 + 1))]) rfl ?_
    exact hk2 _ _ _ _
  refine j_iconst (pc := 24) ki_0 dX7_isAs_24 ?_
  exact j_zret (pc := 25) rfl rfl dX7_isAs_25
set_option maxRecDepth 20000 in
set_option maxHeartbeats 1000000 in
theorem jl_X7_isAs_2 {G : q_G} {l : Launch} {k0 z0 : Nat} (n : Nat) : ∀ (h : q_H) (v0 : Nat) (v1 : Nat) (v2 : Int32), q_J G l (RX7, cX7_isAs, 3, 0, 0, (some .boolean), "isAs", []) k0 z0 (q_Z G k0 z0 q_i) 2 [(0, .ref v0), (1, .ref v1), (2, .int v2)] [] h (l_X7_isAs_2 n h v0 v1 v2) := by
  induction n with
  | zero => intro h v0 v1 v2; exact j_none
  | succ n ih => intro h v0 v1 v2; exact jb_X7_isAs_2 (l_X7_isAs_2 n) ih h v0 v1 v2
set_option maxRecDepth 20000 in
set_option maxHeartbeats 1000000 in
theorem jb_X7_isAs_0 {G : q_G} {l : Launch} {k0 z0 : Nat} (h : q_H) (v0 : Nat) (v1 : Nat) : q_J G l (RX7, cX7_isAs, 3, 0, 0, (some .boolean), "isAs", []) k0 z0 (q_Z G k0 z0 q_i) 0 [(0, .ref v0), (1, .ref v1)] [] h (b_X7_isAs_0 h v0 v1) := by
  unfold b_X7_isAs_0
  refine j_iconst (pc := 0) ki_2 dX7_isAs_0 ?_
  refine j_istore_n (pc := 1) (lv' := [(2, .int (2)), (0, .ref v0), (1, .ref v1)]) rfl (by decide) rfl dX7_isAs_1 ?_
  refine j_sub [1, 2, 0] (lv' := [(0, .ref v0), (1, .ref v1), (2, .int (2))]) rfl ?_
  exact jl_X7_isAs_2 q_FU _ _ _ _
set_option maxRecDepth 20000 in
set_option maxHeartbeats 1000000 in
theorem c_X7_isAs {G : q_G} {l : Launch} : ∀ (h : q_H) (a0 : Nat) (a1 : Nat) (q : q_H × Int32), f_X7_isAs h a0 a1 = some q → (∃ fs, h.1 a0 = .inr (6, fs)) ∧ q_CT G l yX7_isAs cX7_isAs 3 (some .boolean) 0 0 [.ref a0, .ref a1] h q.1 (q_i q.2) := by
  intro h a0 a1 q e
  obtain ⟨e1, e2⟩ := q_chk_ok e
  exact ⟨e1, q_ofJ Y_X7_isAs (Nat.le_of_ble_eq_true rfl) (jb_X7_isAs_0 h a0 a1) q e2⟩
/-! FarFolders$Meeting.compare(IIII)V -/
theorem dX2_compare_0 : decode cX2_compare 0 = .ok (.iconst 0, 1) := by decide +kernel
theorem dX2_compare_1 : decode cX2_compare 1 = .ok (.istore 5, 2) := by decide +kernel
theorem dX2_compare_3 : decode cX2_compare 3 = .ok (.iload 5, 2) := by decide +kernel
theorem dX2_compare_5 : decode cX2_compare 5 = .ok (.iload_n 3, 1) := by decide +kernel
theorem dX2_compare_6 : decode cX2_compare 6 = .ok (.if_icmp .gt 73, 3) := by decide +kernel
theorem dX2_compare_9 : decode cX2_compare 9 = .ok (.iconst 0, 1) := by decide +kernel
theorem dX2_compare_10 : decode cX2_compare 10 = .ok (.istore 6, 2) := by decide +kernel
theorem dX2_compare_12 : decode cX2_compare 12 = .ok (.iload 6, 2) := by decide +kernel
theorem dX2_compare_14 : decode cX2_compare 14 = .ok (.iload 4, 2) := by decide +kernel
theorem dX2_compare_16 : decode cX2_compare 16 = .ok (.if_icmp .gt 57, 3) := by decide +kernel
theorem dX2_compare_19 : decode cX2_compare 19 = .ok (.iload 5, 2) := by decide +kernel
theorem dX2_compare_21 : decode cX2_compare 21 = .ok (.iload_n 1, 1) := by decide +kernel
theorem dX2_compare_22 : decode cX2_compare 22 = .ok (.iload_n 2, 1) := by decide +kernel
theorem dX2_compare_23 : decode cX2_compare 23 = .ok (.iload 6, 2) := by decide +kernel
theorem dX2_compare_25 : decode cX2_compare 25 = .ok (.invokestatic 83, 3) := by decide +kernel
theorem dX2_compare_28 : decode cX2_compare 28 = .ok (.istore 7, 2) := by decide +kernel
theorem dX2_compare_30 : decode cX2_compare 30 = .ok (.iload 7, 2) := by decide +kernel
theorem dX2_compare_32 : decode cX2_compare 32 = .ok (.aload_n 0, 1) := by decide +kernel
theorem dX2_compare_33 : decode cX2_compare 33 = .ok (.getfield 56, 3) := by decide +kernel
theorem dX2_compare_36 : decode cX2_compare 36 = .ok (.if_icmp .ge 31, 3) := by decide +kernel
theorem dX2_compare_39 : decode cX2_compare 39 = .ok (.aload_n 0, 1) := by decide +kernel
theorem dX2_compare_40 : decode cX2_compare 40 = .ok (.getfield 18, 3) := by decide +kernel
theorem dX2_compare_43 : decode cX2_compare 43 = .ok (.aload_n 0, 1) := by decide +kernel
theorem dX2_compare_44 : decode cX2_compare 44 = .ok (.getfield 11, 3) := by decide +kernel
theorem dX2_compare_47 : decode cX2_compare 47 = .ok (.iload 5, 2) := by decide +kernel
theorem dX2_compare_49 : decode cX2_compare 49 = .ok (.iload 6, 2) := by decide +kernel
theorem dX2_compare_51 : decode cX2_compare 51 = .ok (.invokestatic 41, 3) := by decide +kernel
theorem dX2_compare_54 : decode cX2_compare 54 = .ok (.aaload, 1) := by decide +kernel
theorem dX2_compare_55 : decode cX2_compare 55 = .ok (.invokevirtual 87, 3) := by decide +kernel
theorem dX2_compare_58 : decode cX2_compare 58 = .ok (.ifCond .eq 9, 3) := by decide +kernel
theorem dX2_compare_61 : decode cX2_compare 61 = .ok (.aload_n 0, 1) := by decide +kernel
theorem dX2_compare_62 : decode cX2_compare 62 = .ok (.iload 7, 2) := by decide +kernel
theorem dX2_compare_64 : decode cX2_compare 64 = .ok (.putfield 56, 3) := by decide +kernel
theorem dX2_compare_67 : decode cX2_compare 67 = .ok (.iinc 6 1, 3) := by decide +kernel
theorem dX2_compare_70 : decode cX2_compare 70 = .ok (.goto (-58), 3) := by decide +kernel
theorem dX2_compare_73 : decode cX2_compare 73 = .ok (.iinc 5 1, 3) := by decide +kernel
theorem dX2_compare_76 : decode cX2_compare 76 = .ok (.goto (-73), 3) := by decide +kernel
theorem dX2_compare_79 : decode cX2_compare 79 = .ok (.return_, 1) := by decide +kernel
def b_X2_compare_67 (k3 : q_H → Nat → Int32 → Int32 → Int32 → Int32 → Int32 → Option (q_H × Unit)) (k12 : q_H → Nat → Int32 → Int32 → Int32 → Int32 → Int32 → Int32 → Option (q_H × Unit)) (h : q_H) (v0 : Nat) (v1 : Int32) (v2 : Int32) (v3 : Int32) (v4 : Int32) (v5 : Int32) (v6 : Int32) : Option (q_H × Unit) :=
  k12 h v0 v1 v2 v3 v4 v5 (v6 + 1)
def b_X2_compare_12 (k3 : q_H → Nat → Int32 → Int32 → Int32 → Int32 → Int32 → Option (q_H × Unit)) (k12 : q_H → Nat → Int32 → Int32 → Int32 → Int32 → Int32 → Int32 → Option (q_H × Unit)) (h : q_H) (v0 : Nat) (v1 : Int32) (v2 : Int32) (v3 : Int32) (v4 : Int32) (v5 : Int32) (v6 : Int32) : Option (q_H × Unit) :=
  if v4 < v6 then k3 h v0 v1 v2 v3 v4 (v5 + 1) else Option.bind (f_X2_key h v5 v1 v2 v6) (fun q1 => Option.bind (q_gI 1 3 q1.1 v0) (fun x2 => if x2 ≤ q1.2 then b_X2_compare_67 k3 k12 q1.1 v0 v1 v2 v3 v4 v5 v6 else Option.bind (q_gR 1 1 q1.1 v0) (fun x3 => Option.bind (q_gR 1 0 q1.1 v0) (fun x4 => Option.bind (f_X3_place q1.1 v5 v6) (fun q5 => Option.bind (q_lR 6 q5.1 x4 q5.2) (fun x6 => Option.bind (f_X7_isAs q5.1 x3 x6) (fun q7 => if q7.2 = 0 then b_X2_compare_67 k3 k12 q7.1 v0 v1 v2 v3 v4 v5 v6 else Option.bind (q_p 1 3 q7.1 v0 (.int q1.2)) (fun h8 => b_X2_compare_67 k3 k12 h8 v0 v1 v2 v3 v4 v5 v6))))))))
def l_X2_compare_12 (k3 : q_H → Nat → Int32 → Int32 → Int32 → Int32 → Int32 → Option (q_H × Unit)) : Nat → q_H → Nat → Int32 → Int32 → Int32 → Int32 → Int32 → Int32 → Option (q_H × Unit)
  | 0, _, _, _, _, _, _, _, _ => none
  | n + 1, h, v0, v1, v2, v3, v4, v5, v6 => b_X2_compare_12 k3 (l_X2_compare_12 k3 n) h v0 v1 v2 v3 v4 v5 v6
def b_X2_compare_3 (k3 : q_H → Nat → Int32 → Int32 → Int32 → Int32 → Int32 → Option (q_H × Unit)) (h : q_H) (v0 : Nat) (v1 : Int32) (v2 : Int32) (v3 : Int32) (v4 : Int32) (v5 : Int32) : Option (q_H × Unit) :=
  if v3 < v5 then some (h, ()) else l_X2_compare_12 k3 q_FU h v0 v1 v2 v3 v4 v5 (0)
def l_X2_compare_3 : Nat → q_H → Nat → Int32 → Int32 → Int32 → Int32 → Int32 → Option (q_H × Unit)
  | 0, _, _, _, _, _, _, _ => none
  | n + 1, h, v0, v1, v2, v3, v4, v5 => b_X2_compare_3 (l_X2_compare_3 n) h v0 v1 v2 v3 v4 v5
def b_X2_compare_0 (h : q_H) (v0 : Nat) (v1 : Int32) (v2 : Int32) (v3 : Int32) (v4 : Int32) : Option (q_H × Unit) :=
  l_X2_compare_3 q_FU h v0 v1 v2 v3 v4 (0)
def f_X2_compare (h : q_H) (a0 : Nat) (a1 : Int32) (a2 : Int32) (a3 : Int32) (a4 : Int32) : Option (q_H × Unit) := q_chk 1 h a0 (b_X2_compare_0 h a0 a1 a2 a3 a4)
set_option maxRecDepth 20000 in
set_option maxHeartbeats 1000000 in
theorem jb_X2_compare_67 {G : q_G} {l : Launch} {k0 z0 : Nat} (k3 : q_H → Nat → Int32 → Int32 → Int32 → Int32 → Int32 → Option (q_H × Unit)) (k12 : q_H → Nat → Int32 → Int32 → Int32 → Int32 → Int32 → Int32 → Option (q_H × Unit)) (hk3 : ∀ (h : q_H) (v0 : Nat) (v1 : Int32) (v2 : Int32) (v3 : Int32) (v4 : Int32) (v5 : Int32), q_J G l (RX2, cX2_compare, 8, 2, 81, none, "compare", []) k0 z0 (q_Z G k0 z0 q_u) 3 [(0, .ref v0), (1, .int v1), (2, .int v2), (3, .int v3), (4, .int v4), (5, .int v5)] [] h (k3 h v0 v1 v2 v3 v4 v5)) (hk12 : ∀ (h : q_H) (v0 : Nat) (v1 : Int32) (v2 : Int32) (v3 : Int32) (v4 : Int32) (v5 : Int32) (v6 : Int32), q_J G l (RX2, cX2_compare, 8, 2, 81, none, "compare", []) k0 z0 (q_Z G k0 z0 q_u) 12 [(0, .ref v0), (1, .int v1), (2, .int v2), (3, .int v3), (4, .int v4), (5, .int v5), (6, .int v6)] [] h (k12 h v0 v1 v2 v3 v4 v5 v6)) (h : q_H) (v0 : Nat) (v1 : Int32) (v2 : Int32) (v3 : Int32) (v4 : Int32) (v5 : Int32) (v6 : Int32) : q_J G l (RX2, cX2_compare, 8, 2, 81, none, "compare", []) k0 z0 (q_Z G k0 z0 q_u) 67 [(0, .ref v0), (1, .int v1), (2, .int v2), (3, .int v3), (4, .int v4), (5, .int v5), (6, .int v6)] [] h (b_X2_compare_67 k3 k12 h v0 v1 v2 v3 v4 v5 v6) := by
  unfold b_X2_compare_67
  refine j_inc (pc := 67) (p := 6) (lv' := [(6, .int (v6 + 1)), (0, .ref v0), (1, .int v1), (2, .int v2), (3, .int v3), (4, .int v4), (5, .int v5)]) rfl ki_1 (by decide) rfl dX2_compare_67 ?_
  refine j_goto (pc := 70) (tgt := 12) dX2_compare_70 (by decide) ?_
  refine j_sub [1, 2, 3, 4, 5, 6, 0] (lv' := [(0, .ref v0), (1, .int v1), (2, .int v2), (3, .int v3), (4, .int v4), (5, .int v5), (6, .int (v6 + 1))]) rfl ?_
  exact hk12 _ _ _ _ _ _ _ _
set_option maxRecDepth 20000 in
set_option maxHeartbeats 1000000 in
theorem jb_X2_compare_12 {G : q_G} {l : Launch} {k0 z0 : Nat} (k3 : q_H → Nat → Int32 → Int32 → Int32 → Int32 → Int32 → Option (q_H × Unit)) (k12 : q_H → Nat → Int32 → Int32 → Int32 → Int32 → Int32 → Int32 → Option (q_H × Unit)) (hk3 : ∀ (h : q_H) (v0 : Nat) (v1 : Int32) (v2 : Int32) (v3 : Int32) (v4 : Int32) (v5 : Int32), q_J G l (RX2, cX2_compare, 8, 2, 81, none, "compare", []) k0 z0 (q_Z G k0 z0 q_u) 3 [(0, .ref v0), (1, .int v1), (2, .int v2), (3, .int v3), (4, .int v4), (5, .int v5)] [] h (k3 h v0 v1 v2 v3 v4 v5)) (hk12 : ∀ (h : q_H) (v0 : Nat) (v1 : Int32) (v2 : Int32) (v3 : Int32) (v4 : Int32) (v5 : Int32) (v6 : Int32), q_J G l (RX2, cX2_compare, 8, 2, 81, none, "compare", []) k0 z0 (q_Z G k0 z0 q_u) 12 [(0, .ref v0), (1, .int v1), (2, .int v2), (3, .int v3), (4, .int v4), (5, .int v5), (6, .int v6)] [] h (k12 h v0 v1 v2 v3 v4 v5 v6)) (h : q_H) (v0 : Nat) (v1 : Int32) (v2 : Int32) (v3 : Int32) (v4 : Int32) (v5 : Int32) (v6 : Int32) : q_J G l (RX2, cX2_compare, 8, 2, 81, none, "compare", []) k0 z0 (q_Z G k0 z0 q_u) 12 [(0, .ref v0), (1, .int v1), (2, .int v2), (3, .int v3), (4, .int v4), (5, .int v5), (6, .int v6)] [] h (b_X2_compare_12 k3 k12 h v0 v1 v2 v3 v4 v5 v6) := by
  unfold b_X2_compare_12
  refine j_iload (pc := 12) (p := 6) rfl dX2_compare_12 ?_
  refine j_iload (pc := 14) (p := 4) rfl dX2_compare_14 ?_
  refine j_ic_gt (pc := 16) (tgt := 73) dX2_compare_16 (by decide) (fun _ => ?_) (fun _ => ?_)
  · refine j_inc (pc := 73) (p := 5) (lv' := [(5, .int (v5 + 1)), (0, .ref v0), (1, .int v1), (2, .int v2), (3, .int v3), (4, .int v4), (6, .int v6)]) rfl ki_1 (by decide) rfl dX2_compare_73 ?_
    refine j_goto (pc := 76) (tgt := 3) dX2_compare_76 (by decide) ?_
    refine j_sub [1, 2, 3, 4, 5, 0] (lv' := [(0, .ref v0), (1, .int v1), (2, .int v2), (3, .int v3), (4, .int v4), (5, .int (v5 + 1))]) rfl ?_
    exact hk3 _ _ _ _ _ _ _
  refine j_iload (pc := 19) (p := 5) rfl dX2_compare_19 ?_
  refine j_iload_n (pc := 21) (p := 1) rfl rfl dX2_compare_21 ?_
  refine j_iload_n (pc := 22) (p := 2) rfl rfl dX2_compare_22 ?_
  refine j_iload (pc := 23) (p := 6) rfl dX2_compare_23 ?_
  refine j_cSi (pc := 25) Y_X2_key ml_X2_83 sm_X2_key ⟨Nat.le_of_ble_eq_true rfl, Nat.le_of_ble_eq_true rfl⟩ dX2_compare_25 (As := [.int v5, .int v1, .int v2, .int v6]) (rest := []) rfl rfl (Nat.le_of_ble_eq_true rfl) (fun x hq9 => c_X2_key _ _ _ _ _ _ hq9) (fun q1 _ => ?_)
  refine j_istore (pc := 28) (lv' := [(7, .int q1.2), (0, .ref v0), (1, .int v1), (2, .int v2), (3, .int v3), (4, .int v4), (5, .int v5), (6, .int v6)]) (by decide) rfl dX2_compare_28 ?_
  refine j_iload (pc := 30) (p := 0) rfl dX2_compare_30 ?_
  refine j_aload_n (pc := 32) (p := 1) rfl rfl dX2_compare_32 ?_
  refine j_getI (pc := 33) FI_X2 (k := 3) (by decide) fl_X2_56 dX2_compare_33 (fun x2 _ => ?_)
  refine j_ic_ge (pc := 36) (tgt := 67) dX2_compare_36 (by decide) (fun _ => ?_) (fun _ => ?_)
  · refine j_sub [1, 2, 3, 4, 5, 6, 7] (lv' := [(0, .ref v0), (1, .int v1), (2, .int v2), (3, .int v3), (4, .int v4), (5, .int v5), (6, .int v6)]) rfl ?_
    exact jb_X2_compare_67 k3 k12 hk3 hk12 _ _ _ _ _ _ _ _
  refine j_aload_n (pc := 39) (p := 1) rfl rfl dX2_compare_39 ?_
  refine j_getR (pc := 40) FI_X2 (k := 1) (by decide) fl_X2_18 dX2_compare_40 (fun x3 _ => ?_)
  refine j_aload_n (pc := 43) (p := 1) rfl rfl dX2_compare_43 ?_
  refine j_getR (pc := 44) FI_X2 (k := 0) (by decide) fl_X2_11 dX2_compare_44 (fun x4 _ => ?_)
  refine j_iload (pc := 47) (p := 6) rfl dX2_compare_47 ?_
  refine j_iload (pc := 49) (p := 7) rfl dX2_compare_49 ?_
  refine j_cSi (pc := 51) Y_X3_place ml_X2_41 sm_X3_place ⟨Nat.le_of_ble_eq_true rfl, Nat.le_of_ble_eq_true rfl⟩ dX2_compare_51 (As := [.int v5, .int v6]) (rest := [.ref x4, .ref x3]) rfl rfl (Nat.le_of_ble_eq_true rfl) (fun x hq9 => c_X3_place _ _ _ _ hq9) (fun q5 _ => ?_)
  refine j_aald (pc := 54) (t := 6) rfl dX2_compare_54 (fun x6 _ => ?_)
  refine j_cVi (pc := 55) Y_X7_isAs (ci := 6) (b := x3) rfl rfl ml_X2_87 im_X7_isAs se_X7_isAs ⟨Nat.le_of_ble_eq_true rfl, Nat.le_of_ble_eq_true rfl⟩ dX2_compare_55 (As := [.ref x6]) (rest := []) rfl rfl (Nat.le_of_ble_eq_true rfl) (fun x hq9 => c_X7_isAs _ _ _ _ hq9) (fun q7 _ => ?_)
  refine j_if_eq (pc := 58) (tgt := 67) dX2_compare_58 (by decide) (fun _ => ?_) (fun _ => ?_)
  · refine j_sub [1, 2, 3, 4, 5, 6, 7] (lv' := [(0, .ref v0), (1, .int v1), (2, .int v2), (3, .int v3), (4, .int v4), (5, .int v5), (6, .int v6)]) rfl ?_
    exact jb_X2_compare_67 k3 k12 hk3 hk12 _ _ _ _ _ _ _ _
  refine j_aload_n (pc := 61) (p := 1) rfl rfl dX2_compare_61 ?_
  refine j_iload (pc := 62) (p := 0) rfl dX2_compare_62 ?_
  refine j_put (pc := 64) FI_X2 (k := 3) (by decide) fl_X2_56 rfl rfl rfl dX2_compare_64 (fun h8 _ => ?_)
  refine j_sub [1, 2, 3, 4, 5, 6, 7] (lv' := [(0, .ref v0), (1, .int v1), (2, .int v2), (3, .int v3), (4, .int v4), (5, .int v5), (6, .int v6)]) rfl ?_
  exact jb_X2_compare_67 k3 k12 hk3 hk12 _ _ _ _ _ _ _ _
set_option maxRecDepth 20000 in
set_option maxHeartbeats 1000000 in
theorem jl_X2_compare_12 {G : q_G} {l : Launch} {k0 z0 : Nat} (k3 : q_H → Nat → Int32 → Int32 → Int32 → Int32 → Int32 → Option (q_H × Unit)) (hk3 : ∀ (h : q_H) (v0 : Nat) (v1 : Int32) (v2 : Int32) (v3 : Int32) (v4 : Int32) (v5 : Int32), q_J G l (RX2, cX2_compare, 8, 2, 81, none, "compare", []) k0 z0 (q_Z G k0 z0 q_u) 3 [(0, .ref v0), (1, .int v1), (2, .int v2), (3, .int v3), (4, .int v4), (5, .int v5)] [] h (k3 h v0 v1 v2 v3 v4 v5)) (n : Nat) : ∀ (h : q_H) (v0 : Nat) (v1 : Int32) (v2 : Int32) (v3 : Int32) (v4 : Int32) (v5 : Int32) (v6 : Int32), q_J G l (RX2, cX2_compare, 8, 2, 81, none, "compare", []) k0 z0 (q_Z G k0 z0 q_u) 12 [(0, .ref v0), (1, .int v1), (2, .int v2), (3, .int v3), (4, .int v4), (5, .int v5), (6, .int v6)] [] h (l_X2_compare_12 k3 n h v0 v1 v2 v3 v4 v5 v6) := by
  induction n with
  | zero => intro h v0 v1 v2 v3 v4 v5 v6; exact j_none
  | succ n ih => intro h v0 v1 v2 v3 v4 v5 v6; exact jb_X2_compare_12 k3 (l_X2_compare_12 k3 n) hk3 ih h v0 v1 v2 v3 v4 v5 v6
set_option maxRecDepth 20000 in
set_option maxHeartbeats 1000000 in
theorem jb_X2_compare_3 {G : q_G} {l : Launch} {k0 z0 : Nat} (k3 : q_H → Nat → Int32 → Int32 → Int32 → Int32 → Int32 → Option (q_H × Unit)) (hk3 : ∀ (h : q_H) (v0 : Nat) (v1 : Int32) (v2 : Int32) (v3 : Int32) (v4 : Int32) (v5 : Int32), q_J G l (RX2, cX2_compare, 8, 2, 81, none, "compare", []) k0 z0 (q_Z G k0 z0 q_u) 3 [(0, .ref v0), (1, .int v1), (2, .int v2), (3, .int v3), (4, .int v4), (5, .int v5)] [] h (k3 h v0 v1 v2 v3 v4 v5)) (h : q_H) (v0 : Nat) (v1 : Int32) (v2 : Int32) (v3 : Int32) (v4 : Int32) (v5 : Int32) : q_J G l (RX2, cX2_compare, 8, 2, 81, none, "compare", []) k0 z0 (q_Z G k0 z0 q_u) 3 [(0, .ref v0), (1, .int v1), (2, .int v2), (3, .int v3), (4, .int v4), (5, .int v5)] [] h (b_X2_compare_3 k3 h v0 v1 v2 v3 v4 v5) := by
  unfold b_X2_compare_3
  refine j_iload (pc := 3) (p := 5) rfl dX2_compare_3 ?_
  refine j_iload_n (pc := 5) (p := 3) rfl rfl dX2_compare_5 ?_
  refine j_ic_gt (pc := 6) (tgt := 79) dX2_compare_6 (by decide) (fun _ => ?_) (fun _ => ?_)
  · exact j_vret (pc := 79) rfl dX2_compare_79
  refine j_iconst (pc := 9) ki_0 dX2_compare_9 ?_
  refine j_istore (pc := 10) (lv' := [(6, .int (0)), (0, .ref v0), (1, .int v1), (2, .int v2), (3, .int v3), (4, .int v4), (5, .int v5)]) (by decide) rfl dX2_compare_10 ?_
  refine j_sub [1, 2, 3, 4, 5, 6, 0] (lv' := [(0, .ref v0), (1, .int v1), (2, .int v2), (3, .int v3), (4, .int v4), (5, .int v5), (6, .int (0))]) rfl ?_
  exact jl_X2_compare_12 k3 hk3 q_FU _ _ _ _ _ _ _ _
set_option maxRecDepth 20000 in
set_option maxHeartbeats 1000000 in
theorem jl_X2_compare_3 {G : q_G} {l : Launch} {k0 z0 : Nat} (n : Nat) : ∀ (h : q_H) (v0 : Nat) (v1 : Int32) (v2 : Int32) (v3 : Int32) (v4 : Int32) (v5 : Int32), q_J G l (RX2, cX2_compare, 8, 2, 81, none, "compare", []) k0 z0 (q_Z G k0 z0 q_u) 3 [(0, .ref v0), (1, .int v1), (2, .int v2), (3, .int v3), (4, .int v4), (5, .int v5)] [] h (l_X2_compare_3 n h v0 v1 v2 v3 v4 v5) := by
  induction n with
  | zero => intro h v0 v1 v2 v3 v4 v5; exact j_none
  | succ n ih => intro h v0 v1 v2 v3 v4 v5; exact jb_X2_compare_3 (l_X2_compare_3 n) ih h v0 v1 v2 v3 v4 v5
set_option maxRecDepth 20000 in
set_option maxHeartbeats 1000000 in
theorem jb_X2_compare_0 {G : q_G} {l : Launch} {k0 z0 : Nat} (h : q_H) (v0 : Nat) (v1 : Int32) (v2 : Int32) (v3 : Int32) (v4 : Int32) : q_J G l (RX2, cX2_compare, 8, 2, 81, none, "compare", []) k0 z0 (q_Z G k0 z0 q_u) 0 [(0, .ref v0), (1, .int v1), (2, .int v2), (3, .int v3), (4, .int v4)] [] h (b_X2_compare_0 h v0 v1 v2 v3 v4) := by
  unfold b_X2_compare_0
  refine j_iconst (pc := 0) ki_0 dX2_compare_0 ?_
  refine j_istore (pc := 1) (lv' := [(5, .int (0)), (0, .ref v0), (1, .int v1), (2, .int v2), (3, .int v3), (4, .int v4)]) (by decide) rfl dX2_compare_1 ?_
  refine j_sub [1, 2, 3, 4, 5, 0] (lv' := [(0, .ref v0), (1, .int v1), (2, .int v2), (3, .int v3), (4, .int v4), (5, .int (0))]) rfl ?_
  exact jl_X2_compare_3 q_FU _ _ _ _ _ _ _
set_option maxRecDepth 20000 in
set_option maxHeartbeats 1000000 in
theorem c_X2_compare {G : q_G} {l : Launch} : ∀ (h : q_H) (a0 : Nat) (a1 : Int32) (a2 : Int32) (a3 : Int32) (a4 : Int32) (q : q_H × Unit), f_X2_compare h a0 a1 a2 a3 a4 = some q → (∃ fs, h.1 a0 = .inr (1, fs)) ∧ q_CT G l yX2_compare cX2_compare 8 none 2 81 [.ref a0, .int a1, .int a2, .int a3, .int a4] h q.1 (q_u q.2) := by
  intro h a0 a1 a2 a3 a4 q e
  obtain ⟨e1, e2⟩ := q_chk_ok e
  exact ⟨e1, q_ofJ Y_X2_compare (Nat.le_of_ble_eq_true rfl) (jb_X2_compare_0 h a0 a1 a2 a3 a4) q e2⟩
