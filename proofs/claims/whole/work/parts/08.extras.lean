/-! numbers, and what new cells hold -/
theorem ki_m8 : Int32.ofInt (-8) = (-8) := by decide
theorem ki_m1 : Int32.ofInt (-1) = (-1) := by decide
theorem ki_0 : Int32.ofInt (0) = (0) := by decide
theorem ki_1 : Int32.ofInt (1) = (1) := by decide
theorem ki_2 : Int32.ofInt (2) = (2) := by decide
theorem ki_3 : Int32.ofInt (3) = (3) := by decide
theorem ki_4 : Int32.ofInt (4) = (4) := by decide
theorem ki_5 : Int32.ofInt (5) = (5) := by decide
theorem kb_m101 : (Int8.ofInt (-101)).toInt32 = (-101) := by decide
theorem kb_m100 : (Int8.ofInt (-100)).toInt32 = (-100) := by decide
theorem kb_m4 : (Int8.ofInt (-4)).toInt32 = (-4) := by decide
theorem kb_m3 : (Int8.ofInt (-3)).toInt32 = (-3) := by decide
theorem kb_m2 : (Int8.ofInt (-2)).toInt32 = (-2) := by decide
theorem kb_6 : (Int8.ofInt (6)).toInt32 = (6) := by decide
theorem kb_7 : (Int8.ofInt (7)).toInt32 = (7) := by decide
theorem kb_8 : (Int8.ofInt (8)).toInt32 = (8) := by decide
theorem kb_9 : (Int8.ofInt (9)).toInt32 = (9) := by decide
theorem kb_10 : (Int8.ofInt (10)).toInt32 = (10) := by decide
theorem kb_12 : (Int8.ofInt (12)).toInt32 = (12) := by decide
theorem kb_14 : (Int8.ofInt (14)).toInt32 = (14) := by decide
theorem kb_15 : (Int8.ofInt (15)).toInt32 = (15) := by decide
theorem kb_16 : (Int8.ofInt (16)).toInt32 = (16) := by decide
theorem kb_20 : (Int8.ofInt (20)).toInt32 = (20) := by decide
theorem kb_24 : (Int8.ofInt (24)).toInt32 = (24) := by decide
theorem kb_31 : (Int8.ofInt (31)).toInt32 = (31) := by decide
theorem kb_32 : (Int8.ofInt (32)).toInt32 = (32) := by decide
theorem kb_40 : (Int8.ofInt (40)).toInt32 = (40) := by decide
theorem kb_46 : (Int8.ofInt (46)).toInt32 = (46) := by decide
theorem kb_47 : (Int8.ofInt (47)).toInt32 = (47) := by decide
theorem kb_48 : (Int8.ofInt (48)).toInt32 = (48) := by decide
theorem kb_49 : (Int8.ofInt (49)).toInt32 = (49) := by decide
theorem kb_50 : (Int8.ofInt (50)).toInt32 = (50) := by decide
theorem kb_56 : (Int8.ofInt (56)).toInt32 = (56) := by decide
theorem kb_57 : (Int8.ofInt (57)).toInt32 = (57) := by decide
theorem kb_63 : (Int8.ofInt (63)).toInt32 = (63) := by decide
theorem kb_76 : (Int8.ofInt (76)).toInt32 = (76) := by decide
theorem kb_80 : (Int8.ofInt (80)).toInt32 = (80) := by decide
theorem kb_96 : (Int8.ofInt (96)).toInt32 = (96) := by decide
theorem kb_97 : (Int8.ofInt (97)).toInt32 = (97) := by decide
theorem kb_108 : (Int8.ofInt (108)).toInt32 = (108) := by decide
theorem kb_109 : (Int8.ofInt (109)).toInt32 = (109) := by decide
theorem kb_126 : (Int8.ofInt (126)).toInt32 = (126) := by decide
theorem ks_180 : (Int16.ofInt (180)).toInt32 = (180) := by decide
theorem ks_183 : (Int16.ofInt (183)).toInt32 = (183) := by decide
theorem ks_200 : (Int16.ofInt (200)).toInt32 = (200) := by decide
theorem ks_255 : (Int16.ofInt (255)).toInt32 = (255) := by decide
theorem ks_483 : (Int16.ofInt (483)).toInt32 = (483) := by decide
theorem ks_492 : (Int16.ofInt (492)).toInt32 = (492) := by decide
theorem ks_708 : (Int16.ofInt (708)).toInt32 = (708) := by decide
theorem ks_2401 : (Int16.ofInt (2401)).toInt32 = (2401) := by decide
theorem ks_2832 : (Int16.ofInt (2832)).toInt32 = (2832) := by decide
theorem ks_5824 : (Int16.ofInt (5824)).toInt32 = (5824) := by decide
theorem ks_12345 : (Int16.ofInt (12345)).toInt32 = (12345) := by decide
theorem kl_0 : Int64.ofNat (((0 : Fin 2)) : Nat) = (0) := by decide
theorem kl_1 : Int64.ofNat (((1 : Fin 2)) : Nat) = (1) := by decide
theorem nf_X0 (G : q_G) : ∀ j, j < 7 → defaultValue (tyX0 j) = vp_V (([.int 0, .int 0, .null, .null, .null, .null, .int 0] : List Value).map (q_v G)) j := by
  intro j hj
  match j, hj with
  | 0, _ => rfl
  | 1, _ => rfl
  | 2, _ => rfl
  | 3, _ => rfl
  | 4, _ => rfl
  | 5, _ => rfl
  | 6, _ => rfl
  | n + 7, hj => omega
theorem nf_X2 (G : q_G) : ∀ j, j < 4 → defaultValue (tyX2 j) = vp_V (([.null, .null, .null, .int 0] : List Value).map (q_v G)) j := by
  intro j hj
  match j, hj with
  | 0, _ => rfl
  | 1, _ => rfl
  | 2, _ => rfl
  | 3, _ => rfl
  | n + 4, hj => omega
theorem nf_X3 (G : q_G) : ∀ j, j < 2 → defaultValue (tyX3 j) = vp_V (([.null, .null] : List Value).map (q_v G)) j := by
  intro j hj
  match j, hj with
  | 0, _ => rfl
  | 1, _ => rfl
  | n + 2, hj => omega
theorem nf_X4 (G : q_G) : ∀ j, j < 2 → defaultValue (tyX4 j) = vp_V (([.null, .int 0] : List Value).map (q_v G)) j := by
  intro j hj
  match j, hj with
  | 0, _ => rfl
  | 1, _ => rfl
  | n + 2, hj => omega
theorem nf_X5 (G : q_G) : ∀ j, j < 2 → defaultValue (tyX5 j) = vp_V (([.null, .int 0] : List Value).map (q_v G)) j := by
  intro j hj
  match j, hj with
  | 0, _ => rfl
  | 1, _ => rfl
  | n + 2, hj => omega
theorem nf_X6 (G : q_G) : ∀ j, j < 2 → defaultValue (tyX6 j) = vp_V (([.null, .int 0] : List Value).map (q_v G)) j := by
  intro j hj
  match j, hj with
  | 0, _ => rfl
  | 1, _ => rfl
  | n + 2, hj => omega
theorem nf_X7 (G : q_G) : ∀ j, j < 1 → defaultValue (tyX7 j) = vp_V (([.null] : List Value).map (q_v G)) j := by
  intro j hj
  match j, hj with
  | 0, _ => rfl
  | n + 1, hj => omega
theorem nf_X8 (G : q_G) : ∀ j, j < 2 → defaultValue (tyX8 j) = vp_V (([.null, .null] : List Value).map (q_v G)) j := by
  intro j hj
  match j, hj with
  | 0, _ => rfl
  | 1, _ => rfl
  | n + 2, hj => omega
theorem nf_X9 (G : q_G) : ∀ j, j < 10 → defaultValue (tyX9 j) = vp_V (([.null, .null, .null, .null, .null, .null, .null, .null, .null, .int 0] : List Value).map (q_v G)) j := by
  intro j hj
  match j, hj with
  | 0, _ => rfl
  | 1, _ => rfl
  | 2, _ => rfl
  | 3, _ => rfl
  | 4, _ => rfl
  | 5, _ => rfl
  | 6, _ => rfl
  | 7, _ => rfl
  | 8, _ => rfl
  | 9, _ => rfl
  | n + 10, hj => omega
theorem nf_X10 (G : q_G) : ∀ j, j < 26 → defaultValue (tyX10 j) = vp_V (([.int 0, .int 0, .null, .null, .int 0, .int 0, .int 0, .null, .null, .int 0, .null, .null, .int 0, .int 0, .int 0, .null, .null, .null, .null, .null, .null, .null, .null, .null, .int 0, .null] : List Value).map (q_v G)) j := by
  intro j hj
  match j, hj with
  | 0, _ => rfl
  | 1, _ => rfl
  | 2, _ => rfl
  | 3, _ => rfl
  | 4, _ => rfl
  | 5, _ => rfl
  | 6, _ => rfl
  | 7, _ => rfl
  | 8, _ => rfl
  | 9, _ => rfl
  | 10, _ => rfl
  | 11, _ => rfl
  | 12, _ => rfl
  | 13, _ => rfl
  | 14, _ => rfl
  | 15, _ => rfl
  | 16, _ => rfl
  | 17, _ => rfl
  | 18, _ => rfl
  | 19, _ => rfl
  | 20, _ => rfl
  | 21, _ => rfl
  | 22, _ => rfl
  | 23, _ => rfl
  | 24, _ => rfl
  | 25, _ => rfl
  | n + 26, hj => omega
