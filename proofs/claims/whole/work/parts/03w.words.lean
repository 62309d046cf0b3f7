/-! WORDS: rows of the tables, by their places -/
theorem q_inT {w : Cond} {i : Nat} (h : tables_1[i]? = some w) (g : goodWord w = true) : w ∈ q_tb := List.mem_filter.mpr ⟨List.mem_append_right _ (List.mem_of_getElem? h), g⟩
theorem q_inP {w : Cond} {i : Nat} (h : (k2_sels lw_privs)[i]? = some w) (g : goodWord w = true) : w ∈ q_tb := List.mem_filter.mpr ⟨List.mem_append_left _ (List.mem_of_getElem? h), g⟩

theorem q_inT1 {w : Cond} {i : Nat} (h : tables_1_1[i]? = some w) (g : goodWord w = true) : w ∈ q_tb := List.mem_filter.mpr ⟨List.mem_append_right _ (show w ∈ tables_1 from List.mem_append_left _ (List.mem_of_getElem? h)), g⟩
theorem q_inN1 {w : Cond} {i : Nat} (h : tables_1_1[i]? = some w) (g : q_isN w = true) : w ∈ q_nw := List.mem_filter.mpr ⟨List.mem_append_right _ (show w ∈ tables_1 from List.mem_append_left _ (List.mem_of_getElem? h)), g⟩
theorem q_inT2 {w : Cond} {i : Nat} (h : tables_1_2[i]? = some w) (g : goodWord w = true) : w ∈ q_tb := List.mem_filter.mpr ⟨List.mem_append_right _ (show w ∈ tables_1 from List.mem_append_right _ (List.mem_append_left _ (List.mem_of_getElem? h))), g⟩
theorem q_inN2 {w : Cond} {i : Nat} (h : tables_1_2[i]? = some w) (g : q_isN w = true) : w ∈ q_nw := List.mem_filter.mpr ⟨List.mem_append_right _ (show w ∈ tables_1 from List.mem_append_right _ (List.mem_append_left _ (List.mem_of_getElem? h))), g⟩
theorem q_inT3 {w : Cond} {i : Nat} (h : tables_1_3[i]? = some w) (g : goodWord w = true) : w ∈ q_tb := List.mem_filter.mpr ⟨List.mem_append_right _ (show w ∈ tables_1 from List.mem_append_right _ (List.mem_append_right _ (List.mem_append_left _ (List.mem_of_getElem? h)))), g⟩
theorem q_inN3 {w : Cond} {i : Nat} (h : tables_1_3[i]? = some w) (g : q_isN w = true) : w ∈ q_nw := List.mem_filter.mpr ⟨List.mem_append_right _ (show w ∈ tables_1 from List.mem_append_right _ (List.mem_append_right _ (List.mem_append_left _ (List.mem_of_getElem? h)))), g⟩
theorem q_inT4 {w : Cond} {i : Nat} (h : tables_1_4[i]? = some w) (g : goodWord w = true) : w ∈ q_tb := List.mem_filter.mpr ⟨List.mem_append_right _ (show w ∈ tables_1 from List.mem_append_right _ (List.mem_append_right _ (List.mem_append_right _ (List.mem_append_left _ (List.mem_of_getElem? h))))), g⟩
theorem q_inN4 {w : Cond} {i : Nat} (h : tables_1_4[i]? = some w) (g : q_isN w = true) : w ∈ q_nw := List.mem_filter.mpr ⟨List.mem_append_right _ (show w ∈ tables_1 from List.mem_append_right _ (List.mem_append_right _ (List.mem_append_right _ (List.mem_append_left _ (List.mem_of_getElem? h))))), g⟩
theorem q_inT5 {w : Cond} {i : Nat} (h : tables_1_5[i]? = some w) (g : goodWord w = true) : w ∈ q_tb := List.mem_filter.mpr ⟨List.mem_append_right _ (show w ∈ tables_1 from List.mem_append_right _ (List.mem_append_right _ (List.mem_append_right _ (List.mem_append_right _ (List.mem_append_left _ (List.mem_of_getElem? h)))))), g⟩
theorem q_inN5 {w : Cond} {i : Nat} (h : tables_1_5[i]? = some w) (g : q_isN w = true) : w ∈ q_nw := List.mem_filter.mpr ⟨List.mem_append_right _ (show w ∈ tables_1 from List.mem_append_right _ (List.mem_append_right _ (List.mem_append_right _ (List.mem_append_right _ (List.mem_append_left _ (List.mem_of_getElem? h)))))), g⟩
theorem q_inT6 {w : Cond} {i : Nat} (h : tables_1_6[i]? = some w) (g : goodWord w = true) : w ∈ q_tb := List.mem_filter.mpr ⟨List.mem_append_right _ (show w ∈ tables_1 from List.mem_append_right _ (List.mem_append_right _ (List.mem_append_right _ (List.mem_append_right _ (List.mem_append_right _ (List.mem_append_left _ (List.mem_of_getElem? h))))))), g⟩
theorem q_inN6 {w : Cond} {i : Nat} (h : tables_1_6[i]? = some w) (g : q_isN w = true) : w ∈ q_nw := List.mem_filter.mpr ⟨List.mem_append_right _ (show w ∈ tables_1 from List.mem_append_right _ (List.mem_append_right _ (List.mem_append_right _ (List.mem_append_right _ (List.mem_append_right _ (List.mem_append_left _ (List.mem_of_getElem? h))))))), g⟩
theorem q_inT7 {w : Cond} {i : Nat} (h : tables_1_7[i]? = some w) (g : goodWord w = true) : w ∈ q_tb := List.mem_filter.mpr ⟨List.mem_append_right _ (show w ∈ tables_1 from List.mem_append_right _ (List.mem_append_right _ (List.mem_append_right _ (List.mem_append_right _ (List.mem_append_right _ (List.mem_append_right _ (List.mem_of_getElem? h))))))), g⟩
theorem q_inN7 {w : Cond} {i : Nat} (h : tables_1_7[i]? = some w) (g : q_isN w = true) : w ∈ q_nw := List.mem_filter.mpr ⟨List.mem_append_right _ (show w ∈ tables_1 from List.mem_append_right _ (List.mem_append_right _ (List.mem_append_right _ (List.mem_append_right _ (List.mem_append_right _ (List.mem_append_right _ (List.mem_of_getElem? h))))))), g⟩
theorem q_inN {w : Cond} {i : Nat} (h : tables_1[i]? = some w) (g : q_isN w = true) : w ∈ q_nw := List.mem_filter.mpr ⟨List.mem_append_right _ (List.mem_of_getElem? h), g⟩
theorem ini_L : Cond.initialized RL ∈ q_tb := q_inT1 (i := 0) (by decide +kernel) rfl
theorem ini_X9 : Cond.initialized RX9 ∈ q_tb := q_inT1 (i := 1) (by decide +kernel) rfl
theorem ini_X8 : Cond.initialized RX8 ∈ q_tb := q_inT1 (i := 2) (by decide +kernel) rfl
theorem ini_X0 : Cond.initialized RX0 ∈ q_tb := q_inT1 (i := 3) (by decide +kernel) rfl
theorem ini_X5 : Cond.initialized RX5 ∈ q_tb := q_inT1 (i := 4) (by decide +kernel) rfl
theorem ini_J9 : Cond.initialized RJ9 ∈ q_tb := q_inT1 (i := 5) (by decide +kernel) rfl
theorem ini_X7 : Cond.initialized RX7 ∈ q_tb := q_inT1 (i := 6) (by decide +kernel) rfl
theorem ini_X4 : Cond.initialized RX4 ∈ q_tb := q_inT1 (i := 7) (by decide +kernel) rfl
theorem ini_X6 : Cond.initialized RX6 ∈ q_tb := q_inT1 (i := 8) (by decide +kernel) rfl
theorem ini_X3 : Cond.initialized RX3 ∈ q_tb := q_inT1 (i := 9) (by decide +kernel) rfl
theorem ini_X2 : Cond.initialized RX2 ∈ q_tb := q_inT1 (i := 10) (by decide +kernel) rfl
theorem ini_X10 : Cond.initialized RX10 ∈ q_tb := q_inT1 (i := 11) (by decide +kernel) rfl
theorem ini_X1 : Cond.initialized RX1 ∈ q_tb := q_inT1 (i := 16) (by decide +kernel) rfl
theorem ini_J10 : Cond.initialized RJ10 ∈ q_tb := q_inT1 (i := 17) (by decide +kernel) rfl
theorem ini_J0 : Cond.initialized RJ0 ∈ q_tb := q_inT1 (i := 18) (by decide +kernel) rfl
theorem ini_J1 : Cond.initialized RJ1 ∈ q_tb := q_inT1 (i := 19) (by decide +kernel) rfl
theorem ini_J3 : Cond.initialized RJ3 ∈ q_tb := q_inT1 (i := 20) (by decide +kernel) rfl
theorem ini_J2 : Cond.initialized RJ2 ∈ q_tb := q_inT1 (i := 21) (by decide +kernel) rfl
theorem ini_J6 : Cond.initialized RJ6 ∈ q_tb := q_inT1 (i := 22) (by decide +kernel) rfl
theorem cl_L_8 : Cond.classLink RL 8 RX9 ∈ q_tb := q_inT1 (i := 23) (by decide +kernel) rfl
theorem ins_X9 : Cond.instantiable RX9 10 ∈ q_tb := q_inT1 (i := 24) (by decide +kernel) rfl
theorem ml_L_22 : Cond.methodLink RL 22 yX9_init ∈ q_tb := q_inT1 (i := 25) (by decide +kernel) rfl
theorem im_X9_init : Cond.instanceMethod yX9_init ∈ q_tb := q_inT1 (i := 26) (by decide +kernel) rfl
theorem ml_X9_3 : Cond.methodLink RX9 3 Lib.objectInit ∈ q_tb := q_inT1 (i := 28) (by decide +kernel) rfl
theorem im_Oinit : Cond.instanceMethod Lib.objectInit ∈ q_tb := q_inT1 (i := 29) (by decide +kernel) rfl
theorem co_Oinit : Cond.code Lib.objectInit ⟨#[0xb1]⟩ 1 none ∈ q_tb := q_inT1 (i := 30) (by decide +kernel) rfl
theorem cl_X9_9 : Cond.classLink RX9 9 RX8 ∈ q_tb := q_inT1 (i := 31) (by decide +kernel) rfl
theorem ins_X8 : Cond.instantiable RX8 2 ∈ q_tb := q_inT1 (i := 32) (by decide +kernel) rfl
theorem ml_X9_11 : Cond.methodLink RX9 11 yX8_init ∈ q_tb := q_inT1 (i := 33) (by decide +kernel) rfl
theorem im_X8_init : Cond.instanceMethod yX8_init ∈ q_tb := q_inT1 (i := 34) (by decide +kernel) rfl
theorem ml_X8_3 : Cond.methodLink RX8 3 Lib.objectInit ∈ q_tb := q_inT1 (i := 36) (by decide +kernel) rfl
theorem cl_X8_9 : Cond.classLink RX8 9 RX0 ∈ q_tb := q_inT1 (i := 37) (by decide +kernel) rfl
theorem cl_X8_17 : Cond.classLink RX8 17 RX5 ∈ q_tb := q_inT1 (i := 39) (by decide +kernel) rfl
theorem ins_X0 : Cond.instantiable RX0 7 ∈ q_tb := q_inT1 (i := 41) (by decide +kernel) rfl
theorem ml_X8_23 : Cond.methodLink RX8 23 yX0_init ∈ q_tb := q_inT1 (i := 42) (by decide +kernel) rfl
theorem im_X0_init : Cond.instanceMethod yX0_init ∈ q_tb := q_inT1 (i := 43) (by decide +kernel) rfl
theorem ml_X0_3 : Cond.methodLink RX0 3 Lib.objectInit ∈ q_tb := q_inT1 (i := 45) (by decide +kernel) rfl
theorem cl_X0_15 : Cond.classLink RX0 15 RX5 ∈ q_tb := q_inT1 (i := 46) (by decide +kernel) rfl
theorem ins_X5 : Cond.instantiable RX5 2 ∈ q_tb := q_inT1 (i := 47) (by decide +kernel) rfl
theorem ml_X0_17 : Cond.methodLink RX0 17 yX5_init ∈ q_tb := q_inT1 (i := 48) (by decide +kernel) rfl
theorem im_X5_init : Cond.instanceMethod yX5_init ∈ q_tb := q_inT1 (i := 49) (by decide +kernel) rfl
theorem ml_X5_3 : Cond.methodLink RX5 3 Lib.objectInit ∈ q_tb := q_inT1 (i := 51) (by decide +kernel) rfl
theorem ml_X5_9 : Cond.methodLink RX5 9 Lib.Math.max.name ∈ q_tb := q_inT1 (i := 52) (by decide +kernel) rfl
theorem sm_max : Cond.static Lib.Math.max.name ∈ q_tb := q_inT1 (i := 53) (by decide +kernel) rfl
theorem co_max : Cond.code Lib.Math.max.name Lib.Math.max.code 2 (some .int) ∈ q_tb := q_inT1 (i := 54) (by decide +kernel) rfl
theorem fl_X5_15 : Cond.fieldLink RX5 15 (TX5 0).1 (TX5 0).2.1 (TX5 0).2.2.1 ∈ q_tb := q_inT1 (i := 55) (by decide +kernel) rfl
theorem fl_X5_21 : Cond.fieldLink RX5 21 (TX5 1).1 (TX5 1).2.1 (TX5 1).2.2.1 ∈ q_tb := q_inT1 (i := 56) (by decide +kernel) rfl
theorem fl_X3_24 : Cond.fieldLink RX3 24 (TX5 1).1 (TX5 1).2.1 (TX5 1).2.2.1 ∈ q_tb := q_inT1 (i := 57) (by decide +kernel) rfl
theorem fl_X0_57 : Cond.fieldLink RX0 57 (TX5 1).1 (TX5 1).2.1 (TX5 1).2.2.1 ∈ q_tb := q_inT1 (i := 58) (by decide +kernel) rfl
theorem fl_X8_38 : Cond.fieldLink RX8 38 (TX5 1).1 (TX5 1).2.1 (TX5 1).2.2.1 ∈ q_tb := q_inT1 (i := 59) (by decide +kernel) rfl
theorem fl_X7_38 : Cond.fieldLink RX7 38 (TX5 1).1 (TX5 1).2.1 (TX5 1).2.2.1 ∈ q_tb := q_inT1 (i := 60) (by decide +kernel) rfl
theorem fl_X2_37 : Cond.fieldLink RX2 37 (TX5 1).1 (TX5 1).2.1 (TX5 1).2.2.1 ∈ q_tb := q_inT1 (i := 61) (by decide +kernel) rfl
theorem fl_X9_140 : Cond.fieldLink RX9 140 (TX5 1).1 (TX5 1).2.1 (TX5 1).2.2.1 ∈ q_tb := q_inT1 (i := 62) (by decide +kernel) rfl
theorem ac_int : Cond.arrayClass .int ∈ q_tb := q_inT1 (i := 68) (by decide +kernel) rfl
theorem ac_long : Cond.arrayClass .long ∈ q_tb := q_inT1 (i := 69) (by decide +kernel) rfl
theorem cl_X0_24 : Cond.classLink RX0 24 RX7 ∈ q_tb := q_inT1 (i := 70) (by decide +kernel) rfl
theorem ins_X7 : Cond.instantiable RX7 1 ∈ q_tb := q_inT1 (i := 71) (by decide +kernel) rfl
theorem mn_X0_26 : Cond.methodLinkNest RX0 26 yX7_init "FarFolders" ∈ q_nw := q_inN1 (i := 72) (by decide +kernel) rfl
theorem im_X7_init : Cond.instanceMethod yX7_init ∈ q_tb := q_inT1 (i := 73) (by decide +kernel) rfl
theorem ml_X7_3 : Cond.methodLink RX7 3 Lib.objectInit ∈ q_tb := q_inT1 (i := 75) (by decide +kernel) rfl
theorem fl_X7_9 : Cond.fieldLink RX7 9 (TX7 0).1 (TX7 0).2.1 (TX7 0).2.2.1 ∈ q_tb := q_inT1 (i := 76) (by decide +kernel) rfl
theorem fl_X9_94 : Cond.fieldLink RX9 94 (TX7 0).1 (TX7 0).2.1 (TX7 0).2.2.1 ∈ q_tb := q_inT1 (i := 77) (by decide +kernel) rfl
theorem fl_X0_34 : Cond.fieldLink RX0 34 (TX0 0).1 (TX0 0).2.1 (TX0 0).2.2.1 ∈ q_tb := q_inT1 (i := 81) (by decide +kernel) rfl
theorem fl_X0_38 : Cond.fieldLink RX0 38 (TX0 1).1 (TX0 1).2.1 (TX0 1).2.2.1 ∈ q_tb := q_inT1 (i := 82) (by decide +kernel) rfl
theorem fl_X8_46 : Cond.fieldLink RX8 46 (TX0 1).1 (TX0 1).2.1 (TX0 1).2.2.1 ∈ q_tb := q_inT1 (i := 83) (by decide +kernel) rfl
theorem fl_X9_201 : Cond.fieldLink RX9 201 (TX0 1).1 (TX0 1).2.1 (TX0 1).2.2.1 ∈ q_tb := q_inT1 (i := 84) (by decide +kernel) rfl
theorem fl_X0_9 : Cond.fieldLink RX0 9 (TX0 2).1 (TX0 2).2.1 (TX0 2).2.2.1 ∈ q_tb := q_inT1 (i := 85) (by decide +kernel) rfl
theorem fl_X0_20 : Cond.fieldLink RX0 20 (TX0 3).1 (TX0 3).2.1 (TX0 3).2.2.1 ∈ q_tb := q_inT1 (i := 86) (by decide +kernel) rfl
theorem fl_X9_120 : Cond.fieldLink RX9 120 (TX0 3).1 (TX0 3).2.1 (TX0 3).2.2.1 ∈ q_tb := q_inT1 (i := 87) (by decide +kernel) rfl
theorem fl_X2_63 : Cond.fieldLink RX2 63 (TX0 3).1 (TX0 3).2.1 (TX0 3).2.2.1 ∈ q_tb := q_inT1 (i := 88) (by decide +kernel) rfl
theorem fl_X8_65 : Cond.fieldLink RX8 65 (TX0 3).1 (TX0 3).2.1 (TX0 3).2.2.1 ∈ q_tb := q_inT1 (i := 89) (by decide +kernel) rfl
theorem fl_X0_27 : Cond.fieldLink RX0 27 (TX0 4).1 (TX0 4).2.1 (TX0 4).2.2.1 ∈ q_tb := q_inT1 (i := 90) (by decide +kernel) rfl
theorem fl_X2_76 : Cond.fieldLink RX2 76 (TX0 4).1 (TX0 4).2.1 (TX0 4).2.2.1 ∈ q_tb := q_inT1 (i := 91) (by decide +kernel) rfl
theorem fl_X8_126 : Cond.fieldLink RX8 126 (TX0 4).1 (TX0 4).2.1 (TX0 4).2.2.1 ∈ q_tb := q_inT1 (i := 92) (by decide +kernel) rfl
theorem fl_X9_306 : Cond.fieldLink RX9 306 (TX0 4).1 (TX0 4).2.1 (TX0 4).2.2.1 ∈ q_tb := q_inT1 (i := 93) (by decide +kernel) rfl
theorem fl_X0_31 : Cond.fieldLink RX0 31 (TX0 5).1 (TX0 5).2.1 (TX0 5).2.2.1 ∈ q_tb := q_inT1 (i := 94) (by decide +kernel) rfl
theorem fl_X9_86 : Cond.fieldLink RX9 86 (TX0 5).1 (TX0 5).2.1 (TX0 5).2.2.1 ∈ q_tb := q_inT1 (i := 95) (by decide +kernel) rfl
theorem fl_X8_78 : Cond.fieldLink RX8 78 (TX0 5).1 (TX0 5).2.1 (TX0 5).2.2.1 ∈ q_tb := q_inT1 (i := 96) (by decide +kernel) rfl
theorem fl_X0_54 : Cond.fieldLink RX0 54 (TX0 6).1 (TX0 6).2.1 (TX0 6).2.2.1 ∈ q_tb := q_inT1 (i := 97) (by decide +kernel) rfl
theorem fl_X9_133 : Cond.fieldLink RX9 133 (TX0 6).1 (TX0 6).2.1 (TX0 6).2.2.1 ∈ q_tb := q_inT1 (i := 98) (by decide +kernel) rfl
theorem fl_X8_88 : Cond.fieldLink RX8 88 (TX0 6).1 (TX0 6).2.1 (TX0 6).2.2.1 ∈ q_tb := q_inT1 (i := 99) (by decide +kernel) rfl
theorem ml_X8_26 : Cond.methodLink RX8 26 yX5_init ∈ q_tb := q_inT1 (i := 115) (by decide +kernel) rfl
theorem fl_X8_11 : Cond.fieldLink RX8 11 (TX8 0).1 (TX8 0).2.1 (TX8 0).2.2.1 ∈ q_tb := q_inT1 (i := 116) (by decide +kernel) rfl
theorem fl_X9_82 : Cond.fieldLink RX9 82 (TX8 0).1 (TX8 0).2.1 (TX8 0).2.2.1 ∈ q_tb := q_inT1 (i := 117) (by decide +kernel) rfl
theorem fl_X2_47 : Cond.fieldLink RX2 47 (TX8 0).1 (TX8 0).2.1 (TX8 0).2.2.1 ∈ q_tb := q_inT1 (i := 118) (by decide +kernel) rfl
theorem fl_X8_19 : Cond.fieldLink RX8 19 (TX8 1).1 (TX8 1).2.1 (TX8 1).2.2.1 ∈ q_tb := q_inT1 (i := 119) (by decide +kernel) rfl
theorem cl_X9_27 : Cond.classLink RX9 27 RX4 ∈ q_tb := q_inT1 (i := 126) (by decide +kernel) rfl
theorem ins_X4 : Cond.instantiable RX4 2 ∈ q_tb := q_inT1 (i := 127) (by decide +kernel) rfl
theorem mn_X9_29 : Cond.methodLinkNest RX9 29 yX4_init "FarFolders" ∈ q_nw := q_inN1 (i := 128) (by decide +kernel) rfl
theorem im_X4_init : Cond.instanceMethod yX4_init ∈ q_tb := q_inT1 (i := 129) (by decide +kernel) rfl
theorem ml_X4_3 : Cond.methodLink RX4 3 Lib.objectInit ∈ q_tb := q_inT1 (i := 131) (by decide +kernel) rfl
theorem fl_X4_9 : Cond.fieldLink RX4 9 (TX4 0).1 (TX4 0).2.1 (TX4 0).2.2.1 ∈ q_tb := q_inT1 (i := 132) (by decide +kernel) rfl
theorem fl_X9_342 : Cond.fieldLink RX9 342 (TX4 0).1 (TX4 0).2.1 (TX4 0).2.2.1 ∈ q_tb := q_inT1 (i := 133) (by decide +kernel) rfl
theorem fl_X4_15 : Cond.fieldLink RX4 15 (TX4 1).1 (TX4 1).2.1 (TX4 1).2.2.1 ∈ q_tb := q_inT1 (i := 134) (by decide +kernel) rfl
theorem fl_X9_258 : Cond.fieldLink RX9 258 (TX4 1).1 (TX4 1).2.1 (TX4 1).2.2.1 ∈ q_tb := q_inT1 (i := 135) (by decide +kernel) rfl
theorem ac_boolean : Cond.arrayClass .boolean ∈ q_tb := q_inT1 (i := 141) (by decide +kernel) rfl
theorem cl_X9_34 : Cond.classLink RX9 34 RX6 ∈ q_tb := q_inT1 (i := 142) (by decide +kernel) rfl
theorem ins_X6 : Cond.instantiable RX6 2 ∈ q_tb := q_inT1 (i := 143) (by decide +kernel) rfl
theorem mn_X9_36 : Cond.methodLinkNest RX9 36 yX6_init "FarFolders" ∈ q_nw := q_inN1 (i := 144) (by decide +kernel) rfl
theorem im_X6_init : Cond.instanceMethod yX6_init ∈ q_tb := q_inT1 (i := 145) (by decide +kernel) rfl
theorem ml_X6_3 : Cond.methodLink RX6 3 Lib.objectInit ∈ q_tb := q_inT1 (i := 147) (by decide +kernel) rfl
theorem fl_X6_9 : Cond.fieldLink RX6 9 (TX6 0).1 (TX6 0).2.1 (TX6 0).2.2.1 ∈ q_tb := q_inT1 (i := 148) (by decide +kernel) rfl
theorem fl_X6_15 : Cond.fieldLink RX6 15 (TX6 1).1 (TX6 1).2.1 (TX6 1).2.2.1 ∈ q_tb := q_inT1 (i := 149) (by decide +kernel) rfl
theorem fl_X9_66 : Cond.fieldLink RX9 66 (TX6 1).1 (TX6 1).2.1 (TX6 1).2.2.1 ∈ q_tb := q_inT1 (i := 150) (by decide +kernel) rfl
theorem ac_char : Cond.arrayClass .char ∈ q_tb := q_inT1 (i := 156) (by decide +kernel) rfl
theorem cl_X9_41 : Cond.classLink RX9 41 RX7 ∈ q_tb := q_inT1 (i := 157) (by decide +kernel) rfl
theorem mn_X9_43 : Cond.methodLinkNest RX9 43 yX7_init "FarFolders" ∈ q_nw := q_inN1 (i := 158) (by decide +kernel) rfl
theorem cl_X9_48 : Cond.classLink RX9 48 RX3 ∈ q_tb := q_inT1 (i := 159) (by decide +kernel) rfl
theorem ins_X3 : Cond.instantiable RX3 2 ∈ q_tb := q_inT1 (i := 160) (by decide +kernel) rfl
theorem mn_X9_50 : Cond.methodLinkNest RX9 50 yX3_init "FarFolders" ∈ q_nw := q_inN1 (i := 161) (by decide +kernel) rfl
theorem im_X3_init : Cond.instanceMethod yX3_init ∈ q_tb := q_inT1 (i := 162) (by decide +kernel) rfl
theorem ml_X3_3 : Cond.methodLink RX3 3 Lib.objectInit ∈ q_tb := q_inT1 (i := 164) (by decide +kernel) rfl
theorem fl_X3_9 : Cond.fieldLink RX3 9 (TX3 0).1 (TX3 0).2.1 (TX3 0).2.2.1 ∈ q_tb := q_inT1 (i := 165) (by decide +kernel) rfl
theorem fl_X9_299 : Cond.fieldLink RX9 299 (TX3 0).1 (TX3 0).2.1 (TX3 0).2.2.1 ∈ q_tb := q_inT1 (i := 166) (by decide +kernel) rfl
theorem fl_X3_15 : Cond.fieldLink RX3 15 (TX3 1).1 (TX3 1).2.1 (TX3 1).2.2.1 ∈ q_tb := q_inT1 (i := 167) (by decide +kernel) rfl
theorem fl_X9_303 : Cond.fieldLink RX9 303 (TX3 1).1 (TX3 1).2.1 (TX3 1).2.2.1 ∈ q_tb := q_inT1 (i := 168) (by decide +kernel) rfl
theorem cl_X9_55 : Cond.classLink RX9 55 RX2 ∈ q_tb := q_inT1 (i := 174) (by decide +kernel) rfl
theorem ins_X2 : Cond.instantiable RX2 4 ∈ q_tb := q_inT1 (i := 175) (by decide +kernel) rfl
theorem ml_X9_57 : Cond.methodLink RX9 57 yX2_init ∈ q_tb := q_inT1 (i := 176) (by decide +kernel) rfl
theorem im_X2_init : Cond.instanceMethod yX2_init ∈ q_tb := q_inT1 (i := 177) (by decide +kernel) rfl
theorem ml_X2_3 : Cond.methodLink RX2 3 Lib.objectInit ∈ q_tb := q_inT1 (i := 179) (by decide +kernel) rfl
theorem cl_X2_9 : Cond.classLink RX2 9 RX7 ∈ q_tb := q_inT1 (i := 180) (by decide +kernel) rfl
theorem mn_X2_17 : Cond.methodLinkNest RX2 17 yX7_init "FarFolders" ∈ q_nw := q_inN1 (i := 182) (by decide +kernel) rfl
theorem cl_X2_22 : Cond.classLink RX2 22 RX5 ∈ q_tb := q_inT1 (i := 183) (by decide +kernel) rfl
theorem ml_X2_24 : Cond.methodLink RX2 24 yX5_init ∈ q_tb := q_inT1 (i := 184) (by decide +kernel) rfl
theorem fl_X2_11 : Cond.fieldLink RX2 11 (TX2 0).1 (TX2 0).2.1 (TX2 0).2.2.1 ∈ q_tb := q_inT1 (i := 185) (by decide +kernel) rfl
theorem fl_X2_18 : Cond.fieldLink RX2 18 (TX2 1).1 (TX2 1).2.1 (TX2 1).2.2.1 ∈ q_tb := q_inT1 (i := 186) (by decide +kernel) rfl
theorem fl_X2_27 : Cond.fieldLink RX2 27 (TX2 2).1 (TX2 2).2.1 (TX2 2).2.2.1 ∈ q_tb := q_inT1 (i := 187) (by decide +kernel) rfl
theorem fl_X2_56 : Cond.fieldLink RX2 56 (TX2 3).1 (TX2 3).2.1 (TX2 3).2.2.1 ∈ q_tb := q_inT1 (i := 188) (by decide +kernel) rfl
theorem fl_X9_12 : Cond.fieldLink RX9 12 (TX9 0).1 (TX9 0).2.1 (TX9 0).2.2.1 ∈ q_tb := q_inT1 (i := 198) (by decide +kernel) rfl
theorem fl_X9_16 : Cond.fieldLink RX9 16 (TX9 1).1 (TX9 1).2.1 (TX9 1).2.2.1 ∈ q_tb := q_inT1 (i := 199) (by decide +kernel) rfl
theorem fl_X9_19 : Cond.fieldLink RX9 19 (TX9 2).1 (TX9 2).2.1 (TX9 2).2.2.1 ∈ q_tb := q_inT1 (i := 200) (by decide +kernel) rfl
theorem fl_X9_23 : Cond.fieldLink RX9 23 (TX9 3).1 (TX9 3).2.1 (TX9 3).2.2.1 ∈ q_tb := q_inT1 (i := 201) (by decide +kernel) rfl
theorem fl_X9_30 : Cond.fieldLink RX9 30 (TX9 4).1 (TX9 4).2.1 (TX9 4).2.2.1 ∈ q_tb := q_inT1 (i := 202) (by decide +kernel) rfl
theorem fl_X9_37 : Cond.fieldLink RX9 37 (TX9 5).1 (TX9 5).2.1 (TX9 5).2.2.1 ∈ q_tb := q_inT1 (i := 203) (by decide +kernel) rfl
theorem fl_X9_44 : Cond.fieldLink RX9 44 (TX9 6).1 (TX9 6).2.1 (TX9 6).2.2.1 ∈ q_tb := q_inT1 (i := 204) (by decide +kernel) rfl
theorem fl_X9_51 : Cond.fieldLink RX9 51 (TX9 7).1 (TX9 7).2.1 (TX9 7).2.2.1 ∈ q_tb := q_inT1 (i := 205) (by decide +kernel) rfl
theorem fl_X9_58 : Cond.fieldLink RX9 58 (TX9 8).1 (TX9 8).2.1 (TX9 8).2.2.1 ∈ q_tb := q_inT1 (i := 206) (by decide +kernel) rfl
theorem fl_X9_327 : Cond.fieldLink RX9 327 (TX9 9).1 (TX9 9).2.1 (TX9 9).2.2.1 ∈ q_tb := q_inT1 (i := 207) (by decide +kernel) rfl
theorem ml_L_26 : Cond.methodLink RL 26 yX9_sign ∈ q_tb := q_inT1 (i := 229) (by decide +kernel) rfl
theorem im_X9_sign : Cond.instanceMethod yX9_sign ∈ q_tb := q_inT1 (i := 230) (by decide +kernel) rfl
theorem se_X9_sign : Cond.selects yX9_sign.cls yX9_sign yX9_sign ∈ q_tb := q_inT1 (i := 231) (by decide +kernel) rfl
theorem ml_X9_62 : Cond.methodLink RX9 62 yX6_addFour ∈ q_tb := q_inT1 (i := 233) (by decide +kernel) rfl
theorem im_X6_addFour : Cond.instanceMethod yX6_addFour ∈ q_tb := q_inT1 (i := 234) (by decide +kernel) rfl
theorem se_X6_addFour : Cond.selects yX6_addFour.cls yX6_addFour yX6_addFour ∈ q_tb := q_inT1 (i := 235) (by decide +kernel) rfl
theorem ml_L_31 : Cond.methodLink RL 31 yX9_end ∈ q_tb := q_inT1 (i := 237) (by decide +kernel) rfl
theorem im_X9_end : Cond.instanceMethod yX9_end ∈ q_tb := q_inT1 (i := 238) (by decide +kernel) rfl
theorem se_X9_end : Cond.selects yX9_end.cls yX9_end yX9_end ∈ q_tb := q_inT1 (i := 239) (by decide +kernel) rfl
theorem ml_X9_70 : Cond.methodLink RX9 70 yX6_keepFirst ∈ q_tb := q_inT2 (i := 1) (by decide +kernel) rfl
theorem im_X6_keepFirst : Cond.instanceMethod yX6_keepFirst ∈ q_tb := q_inT2 (i := 2) (by decide +kernel) rfl
theorem se_X6_keepFirst : Cond.selects yX6_keepFirst.cls yX6_keepFirst yX6_keepFirst ∈ q_tb := q_inT2 (i := 3) (by decide +kernel) rfl
theorem ml_L_49 : Cond.methodLink RL 49 yX9_makes ∈ q_tb := q_inT2 (i := 5) (by decide +kernel) rfl
theorem im_X9_makes : Cond.instanceMethod yX9_makes ∈ q_tb := q_inT2 (i := 6) (by decide +kernel) rfl
theorem se_X9_makes : Cond.selects yX9_makes.cls yX9_makes yX9_makes ∈ q_tb := q_inT2 (i := 7) (by decide +kernel) rfl
theorem ml_X9_73 : Cond.methodLink RX9 73 yX9_isCopy ∈ q_tb := q_inT2 (i := 9) (by decide +kernel) rfl
theorem sm_X9_isCopy : Cond.static yX9_isCopy ∈ q_tb := q_inT2 (i := 10) (by decide +kernel) rfl
theorem ml_X9_136 : Cond.methodLink RX9 136 yX8_make ∈ q_tb := q_inT2 (i := 12) (by decide +kernel) rfl
theorem im_X8_make : Cond.instanceMethod yX8_make ∈ q_tb := q_inT2 (i := 13) (by decide +kernel) rfl
theorem se_X8_make : Cond.selects yX8_make.cls yX8_make yX8_make ∈ q_tb := q_inT2 (i := 14) (by decide +kernel) rfl
theorem mn_X8_55 : Cond.methodLinkNest RX8 55 yX9_isCopy "FarFolders" ∈ q_nw := q_inN2 (i := 16) (by decide +kernel) rfl
theorem mn_X8_59 : Cond.methodLinkNest RX8 59 yX9_isFolder "FarFolders" ∈ q_nw := q_inN2 (i := 17) (by decide +kernel) rfl
theorem sm_X9_isFolder : Cond.static yX9_isFolder ∈ q_tb := q_inT2 (i := 18) (by decide +kernel) rfl
theorem mn_X8_62 : Cond.methodLinkNest RX8 62 yX9_isNode "FarFolders" ∈ q_nw := q_inN2 (i := 20) (by decide +kernel) rfl
theorem sm_X9_isNode : Cond.static yX9_isNode ∈ q_tb := q_inT2 (i := 21) (by decide +kernel) rfl
theorem ml_X8_69 : Cond.methodLink RX8 69 yX8_hasFullWay ∈ q_tb := q_inT2 (i := 23) (by decide +kernel) rfl
theorem im_X8_hasFullWay : Cond.instanceMethod yX8_hasFullWay ∈ q_tb := q_inT2 (i := 25) (by decide +kernel) rfl
theorem mn_X8_99 : Cond.methodLinkNest RX8 99 yX9_nextCopy "FarFolders" ∈ q_nw := q_inN2 (i := 27) (by decide +kernel) rfl
theorem sm_X9_nextCopy : Cond.static yX9_nextCopy ∈ q_tb := q_inT2 (i := 28) (by decide +kernel) rfl
theorem ml_X8_34 : Cond.methodLink RX8 34 yX8_way ∈ q_tb := q_inT2 (i := 30) (by decide +kernel) rfl
theorem im_X8_way : Cond.instanceMethod yX8_way ∈ q_tb := q_inT2 (i := 31) (by decide +kernel) rfl
theorem se_X8_way : Cond.selects yX8_way.cls yX8_way yX8_way ∈ q_tb := q_inT2 (i := 32) (by decide +kernel) rfl
theorem ml_X8_72 : Cond.methodLink RX8 72 yX1_of ∈ q_tb := q_inT2 (i := 34) (by decide +kernel) rfl
theorem sm_X1_of : Cond.static yX1_of ∈ q_tb := q_inT2 (i := 35) (by decide +kernel) rfl
theorem ml_X8_82 : Cond.methodLink RX8 82 yX7_doMove ∈ q_tb := q_inT2 (i := 37) (by decide +kernel) rfl
theorem im_X7_doMove : Cond.instanceMethod yX7_doMove ∈ q_tb := q_inT2 (i := 38) (by decide +kernel) rfl
theorem se_X7_doMove : Cond.selects yX7_doMove.cls yX7_doMove yX7_doMove ∈ q_tb := q_inT2 (i := 39) (by decide +kernel) rfl
theorem ml_X7_21 : Cond.methodLink RX7 21 yX1_folder ∈ q_tb := q_inT2 (i := 41) (by decide +kernel) rfl
theorem sm_X1_folder : Cond.static yX1_folder ∈ q_tb := q_inT2 (i := 42) (by decide +kernel) rfl
theorem ml_X7_27 : Cond.methodLink RX7 27 yX1_parent ∈ q_tb := q_inT2 (i := 44) (by decide +kernel) rfl
theorem sm_X1_parent : Cond.static yX1_parent ∈ q_tb := q_inT2 (i := 45) (by decide +kernel) rfl
theorem ml_X7_30 : Cond.methodLink RX7 30 yX7_isThere ∈ q_tb := q_inT2 (i := 47) (by decide +kernel) rfl
theorem im_X7_isThere : Cond.instanceMethod yX7_isThere ∈ q_tb := q_inT2 (i := 48) (by decide +kernel) rfl
theorem se_X7_isThere : Cond.selects yX7_isThere.cls yX7_isThere yX7_isThere ∈ q_tb := q_inT2 (i := 49) (by decide +kernel) rfl
theorem ml_X8_91 : Cond.methodLink RX8 91 yX5_append ∈ q_tb := q_inT2 (i := 51) (by decide +kernel) rfl
theorem im_X5_append : Cond.instanceMethod yX5_append ∈ q_tb := q_inT2 (i := 52) (by decide +kernel) rfl
theorem se_X5_append : Cond.selects yX5_append.cls yX5_append yX5_append ∈ q_tb := q_inT2 (i := 53) (by decide +kernel) rfl
theorem ml_X8_95 : Cond.methodLink RX8 95 yX8_send ∈ q_tb := q_inT2 (i := 55) (by decide +kernel) rfl
theorem im_X8_send : Cond.instanceMethod yX8_send ∈ q_tb := q_inT2 (i := 57) (by decide +kernel) rfl
theorem ml_X9_141 : Cond.methodLink RX9 141 yX4_tell ∈ q_tb := q_inT2 (i := 59) (by decide +kernel) rfl
theorem im_X4_tell : Cond.instanceMethod yX4_tell ∈ q_tb := q_inT2 (i := 60) (by decide +kernel) rfl
theorem se_X4_tell : Cond.selects yX4_tell.cls yX4_tell yX4_tell ∈ q_tb := q_inT2 (i := 61) (by decide +kernel) rfl
theorem ml_X4_19 : Cond.methodLink RX4 19 yX4_clear ∈ q_tb := q_inT2 (i := 63) (by decide +kernel) rfl
theorem im_X4_clear : Cond.instanceMethod yX4_clear ∈ q_tb := q_inT2 (i := 64) (by decide +kernel) rfl
theorem se_X4_clear : Cond.selects yX4_clear.cls yX4_clear yX4_clear ∈ q_tb := q_inT2 (i := 65) (by decide +kernel) rfl
theorem ml_X4_22 : Cond.methodLink RX4 22 yX4_add ∈ q_tb := q_inT2 (i := 67) (by decide +kernel) rfl
theorem im_X4_add : Cond.instanceMethod yX4_add ∈ q_tb := q_inT2 (i := 68) (by decide +kernel) rfl
theorem se_X4_add : Cond.selects yX4_add.cls yX4_add yX4_add ∈ q_tb := q_inT2 (i := 69) (by decide +kernel) rfl
theorem ml_L_54 : Cond.methodLink RL 54 yX9_beats ∈ q_tb := q_inT2 (i := 71) (by decide +kernel) rfl
theorem im_X9_beats : Cond.instanceMethod yX9_beats ∈ q_tb := q_inT2 (i := 72) (by decide +kernel) rfl
theorem se_X9_beats : Cond.selects yX9_beats.cls yX9_beats yX9_beats ∈ q_tb := q_inT2 (i := 73) (by decide +kernel) rfl
theorem ml_X9_145 : Cond.methodLink RX9 145 yX8_beat ∈ q_tb := q_inT2 (i := 75) (by decide +kernel) rfl
theorem im_X8_beat : Cond.instanceMethod yX8_beat ∈ q_tb := q_inT2 (i := 76) (by decide +kernel) rfl
theorem se_X8_beat : Cond.selects yX8_beat.cls yX8_beat yX8_beat ∈ q_tb := q_inT2 (i := 77) (by decide +kernel) rfl
theorem ml_L_58 : Cond.methodLink RL 58 yX9_comes ∈ q_tb := q_inT2 (i := 79) (by decide +kernel) rfl
theorem im_X9_comes : Cond.instanceMethod yX9_comes ∈ q_tb := q_inT2 (i := 80) (by decide +kernel) rfl
theorem se_X9_comes : Cond.selects yX9_comes.cls yX9_comes yX9_comes ∈ q_tb := q_inT2 (i := 81) (by decide +kernel) rfl
theorem ml_X9_148 : Cond.methodLink RX9 148 yX9_areTwoCopies ∈ q_tb := q_inT2 (i := 83) (by decide +kernel) rfl
theorem sm_X9_areTwoCopies : Cond.static yX9_areTwoCopies ∈ q_tb := q_inT2 (i := 84) (by decide +kernel) rfl
theorem ml_X9_152 : Cond.methodLink RX9 152 yX7_copyFrom ∈ q_tb := q_inT2 (i := 86) (by decide +kernel) rfl
theorem im_X7_copyFrom : Cond.instanceMethod yX7_copyFrom ∈ q_tb := q_inT2 (i := 87) (by decide +kernel) rfl
theorem se_X7_copyFrom : Cond.selects yX7_copyFrom.cls yX7_copyFrom yX7_copyFrom ∈ q_tb := q_inT2 (i := 88) (by decide +kernel) rfl
theorem ml_X7_15 : Cond.methodLink RX7 15 arraycopyName ∈ q_tb := q_inT2 (i := 90) (by decide +kernel) rfl
theorem sm_acopy : Cond.static arraycopyName ∈ q_tb := q_inT2 (i := 91) (by decide +kernel) rfl
theorem na_acopy : Cond.native arraycopyName ∈ q_tb := q_inT2 (i := 92) (by decide +kernel) rfl
theorem ml_X9_156 : Cond.methodLink RX9 156 yX8_deliver ∈ q_tb := q_inT2 (i := 93) (by decide +kernel) rfl
theorem im_X8_deliver : Cond.instanceMethod yX8_deliver ∈ q_tb := q_inT2 (i := 94) (by decide +kernel) rfl
theorem se_X8_deliver : Cond.selects yX8_deliver.cls yX8_deliver yX8_deliver ∈ q_tb := q_inT2 (i := 95) (by decide +kernel) rfl
theorem mn_X8_102 : Cond.methodLinkNest RX8 102 yX9_areTwoCopies "FarFolders" ∈ q_nw := q_inN2 (i := 97) (by decide +kernel) rfl
theorem ml_X8_106 : Cond.methodLink RX8 106 yX5_at ∈ q_tb := q_inT2 (i := 98) (by decide +kernel) rfl
theorem im_X5_at : Cond.instanceMethod yX5_at ∈ q_tb := q_inT2 (i := 99) (by decide +kernel) rfl
theorem se_X5_at : Cond.selects yX5_at.cls yX5_at yX5_at ∈ q_tb := q_inT2 (i := 100) (by decide +kernel) rfl
theorem ml_X8_110 : Cond.methodLink RX8 110 yX1_hasMove ∈ q_tb := q_inT2 (i := 102) (by decide +kernel) rfl
theorem sm_X1_hasMove : Cond.static yX1_hasMove ∈ q_tb := q_inT2 (i := 103) (by decide +kernel) rfl
theorem ml_X1_7 : Cond.methodLink RX1 7 yX1_folder ∈ q_tb := q_inT2 (i := 105) (by decide +kernel) rfl
theorem ml_X8_113 : Cond.methodLink RX8 113 yX8_takeNext ∈ q_tb := q_inT2 (i := 106) (by decide +kernel) rfl
theorem im_X8_takeNext : Cond.instanceMethod yX8_takeNext ∈ q_tb := q_inT2 (i := 107) (by decide +kernel) rfl
theorem se_X8_takeNext : Cond.selects yX8_takeNext.cls yX8_takeNext yX8_takeNext ∈ q_tb := q_inT2 (i := 108) (by decide +kernel) rfl
theorem ml_X8_116 : Cond.methodLink RX8 116 yX5_dropFirst ∈ q_tb := q_inT2 (i := 110) (by decide +kernel) rfl
theorem im_X5_dropFirst : Cond.instanceMethod yX5_dropFirst ∈ q_tb := q_inT2 (i := 111) (by decide +kernel) rfl
theorem se_X5_dropFirst : Cond.selects yX5_dropFirst.cls yX5_dropFirst yX5_dropFirst ∈ q_tb := q_inT2 (i := 112) (by decide +kernel) rfl
theorem ml_X5_28 : Cond.methodLink RX5 28 arraycopyName ∈ q_tb := q_inT2 (i := 114) (by decide +kernel) rfl
theorem ml_X8_119 : Cond.methodLink RX8 119 yX0_hear ∈ q_tb := q_inT2 (i := 115) (by decide +kernel) rfl
theorem im_X0_hear : Cond.instanceMethod yX0_hear ∈ q_tb := q_inT2 (i := 116) (by decide +kernel) rfl
theorem se_X0_hear : Cond.selects yX0_hear.cls yX0_hear yX0_hear ∈ q_tb := q_inT2 (i := 117) (by decide +kernel) rfl
theorem ml_X0_78 : Cond.methodLink RX0 78 yX1_time ∈ q_tb := q_inT2 (i := 119) (by decide +kernel) rfl
theorem sm_X1_time : Cond.static yX1_time ∈ q_tb := q_inT2 (i := 120) (by decide +kernel) rfl
theorem ml_X0_83 : Cond.methodLink RX0 83 Lib.Math.max.name ∈ q_tb := q_inT2 (i := 122) (by decide +kernel) rfl
theorem ml_X8_122 : Cond.methodLink RX8 122 yX5_insert ∈ q_tb := q_inT2 (i := 123) (by decide +kernel) rfl
theorem im_X5_insert : Cond.instanceMethod yX5_insert ∈ q_tb := q_inT2 (i := 124) (by decide +kernel) rfl
theorem se_X5_insert : Cond.selects yX5_insert.cls yX5_insert yX5_insert ∈ q_tb := q_inT2 (i := 125) (by decide +kernel) rfl
theorem ml_X8_129 : Cond.methodLink RX8 129 yX7_rebuild ∈ q_tb := q_inT2 (i := 127) (by decide +kernel) rfl
theorem im_X7_rebuild : Cond.instanceMethod yX7_rebuild ∈ q_tb := q_inT2 (i := 128) (by decide +kernel) rfl
theorem se_X7_rebuild : Cond.selects yX7_rebuild.cls yX7_rebuild yX7_rebuild ∈ q_tb := q_inT2 (i := 129) (by decide +kernel) rfl
theorem ml_X7_34 : Cond.methodLink RX7 34 yX7_copyFrom ∈ q_tb := q_inT2 (i := 131) (by decide +kernel) rfl
theorem ml_X7_44 : Cond.methodLink RX7 44 yX5_at ∈ q_tb := q_inT2 (i := 132) (by decide +kernel) rfl
theorem ml_X7_48 : Cond.methodLink RX7 48 yX7_doMove ∈ q_tb := q_inT2 (i := 133) (by decide +kernel) rfl
theorem ml_X9_160 : Cond.methodLink RX9 160 yX7_otherThan ∈ q_tb := q_inT2 (i := 134) (by decide +kernel) rfl
theorem im_X7_otherThan : Cond.instanceMethod yX7_otherThan ∈ q_tb := q_inT2 (i := 135) (by decide +kernel) rfl
theorem se_X7_otherThan : Cond.selects yX7_otherThan.cls yX7_otherThan yX7_otherThan ∈ q_tb := q_inT2 (i := 136) (by decide +kernel) rfl
theorem ml_L_63 : Cond.methodLink RL 63 yX9_gathers ∈ q_tb := q_inT2 (i := 138) (by decide +kernel) rfl
theorem im_X9_gathers : Cond.instanceMethod yX9_gathers ∈ q_tb := q_inT2 (i := 139) (by decide +kernel) rfl
theorem se_X9_gathers : Cond.selects yX9_gathers.cls yX9_gathers yX9_gathers ∈ q_tb := q_inT2 (i := 140) (by decide +kernel) rfl
theorem ml_X9_164 : Cond.methodLink RX9 164 yX8_undoneAtOnce ∈ q_tb := q_inT2 (i := 142) (by decide +kernel) rfl
theorem im_X8_undoneAtOnce : Cond.instanceMethod yX8_undoneAtOnce ∈ q_tb := q_inT2 (i := 143) (by decide +kernel) rfl
theorem se_X8_undoneAtOnce : Cond.selects yX8_undoneAtOnce.cls yX8_undoneAtOnce yX8_undoneAtOnce ∈ q_tb := q_inT2 (i := 144) (by decide +kernel) rfl
theorem cL_X8_147 : Cond.constantLong RX8 147 (4611686018427387904) ∈ q_tb := q_inT2 (i := 146) (by decide +kernel) rfl
theorem ml_X8_149 : Cond.methodLink RX8 149 Lib.MathLoose.min_long.x ∈ q_tb := q_inT2 (i := 147) (by decide +kernel) rfl
theorem sm_minl : Cond.static Lib.MathLoose.min_long.x ∈ q_tb := q_inT2 (i := 148) (by decide +kernel) rfl
theorem co_minl : Cond.code Lib.MathLoose.min_long.x Lib.MathLoose.min_long.code 4 (some .long) ∈ q_tb := q_inT2 (i := 149) (by decide +kernel) rfl
theorem ml_X8_153 : Cond.methodLink RX8 153 yX5_countLater ∈ q_tb := q_inT2 (i := 150) (by decide +kernel) rfl
theorem im_X5_countLater : Cond.instanceMethod yX5_countLater ∈ q_tb := q_inT2 (i := 151) (by decide +kernel) rfl
theorem se_X5_countLater : Cond.selects yX5_countLater.cls yX5_countLater yX5_countLater ∈ q_tb := q_inT2 (i := 152) (by decide +kernel) rfl
theorem ml_X5_34 : Cond.methodLink RX5 34 yX5_at ∈ q_tb := q_inT2 (i := 154) (by decide +kernel) rfl
theorem ml_X5_38 : Cond.methodLink RX5 38 yX1_hasMove ∈ q_tb := q_inT2 (i := 155) (by decide +kernel) rfl
theorem ml_X9_167 : Cond.methodLink RX9 167 yX8_gather ∈ q_tb := q_inT2 (i := 156) (by decide +kernel) rfl
theorem im_X8_gather : Cond.instanceMethod yX8_gather ∈ q_tb := q_inT2 (i := 157) (by decide +kernel) rfl
theorem se_X8_gather : Cond.selects yX8_gather.cls yX8_gather yX8_gather ∈ q_tb := q_inT2 (i := 158) (by decide +kernel) rfl
theorem ml_X8_42 : Cond.methodLink RX8 42 yX8_waitingFor ∈ q_tb := q_inT2 (i := 160) (by decide +kernel) rfl
theorem im_X8_waitingFor : Cond.instanceMethod yX8_waitingFor ∈ q_tb := q_inT2 (i := 161) (by decide +kernel) rfl
theorem se_X8_waitingFor : Cond.selects yX8_waitingFor.cls yX8_waitingFor yX8_waitingFor ∈ q_tb := q_inT2 (i := 162) (by decide +kernel) rfl
theorem ml_X8_133 : Cond.methodLink RX8 133 yX5_countMoves ∈ q_tb := q_inT2 (i := 164) (by decide +kernel) rfl
theorem im_X5_countMoves : Cond.instanceMethod yX5_countMoves ∈ q_tb := q_inT2 (i := 165) (by decide +kernel) rfl
theorem se_X5_countMoves : Cond.selects yX5_countMoves.cls yX5_countMoves yX5_countMoves ∈ q_tb := q_inT2 (i := 166) (by decide +kernel) rfl
theorem cL_X5_44 : Cond.constantLong RX5 44 (-1) ∈ q_tb := q_inT2 (i := 168) (by decide +kernel) rfl
theorem ml_X5_46 : Cond.methodLink RX5 46 yX5_countLater ∈ q_tb := q_inT2 (i := 169) (by decide +kernel) rfl
theorem ml_X8_137 : Cond.methodLink RX8 137 yX8_takeAll ∈ q_tb := q_inT2 (i := 170) (by decide +kernel) rfl
theorem im_X8_takeAll : Cond.instanceMethod yX8_takeAll ∈ q_tb := q_inT2 (i := 171) (by decide +kernel) rfl
theorem se_X8_takeAll : Cond.selects yX8_takeAll.cls yX8_takeAll yX8_takeAll ∈ q_tb := q_inT2 (i := 172) (by decide +kernel) rfl
theorem ml_X8_140 : Cond.methodLink RX8 140 yX5_insertMovesOf ∈ q_tb := q_inT2 (i := 174) (by decide +kernel) rfl
theorem im_X5_insertMovesOf : Cond.instanceMethod yX5_insertMovesOf ∈ q_tb := q_inT2 (i := 175) (by decide +kernel) rfl
theorem se_X5_insertMovesOf : Cond.selects yX5_insertMovesOf.cls yX5_insertMovesOf yX5_insertMovesOf ∈ q_tb := q_inT2 (i := 176) (by decide +kernel) rfl
theorem ml_X5_50 : Cond.methodLink RX5 50 yX5_insert ∈ q_tb := q_inT2 (i := 178) (by decide +kernel) rfl
theorem ml_X8_144 : Cond.methodLink RX8 144 yX5_clear ∈ q_tb := q_inT2 (i := 179) (by decide +kernel) rfl
theorem im_X5_clear : Cond.instanceMethod yX5_clear ∈ q_tb := q_inT2 (i := 180) (by decide +kernel) rfl
theorem se_X5_clear : Cond.selects yX5_clear.cls yX5_clear yX5_clear ∈ q_tb := q_inT2 (i := 181) (by decide +kernel) rfl
theorem ml_X9_170 : Cond.methodLink RX9 170 yX4_add ∈ q_tb := q_inT2 (i := 183) (by decide +kernel) rfl
theorem ml_L_67 : Cond.methodLink RL 67 yX9_cuts ∈ q_tb := q_inT2 (i := 184) (by decide +kernel) rfl
theorem im_X9_cuts : Cond.instanceMethod yX9_cuts ∈ q_tb := q_inT2 (i := 185) (by decide +kernel) rfl
theorem se_X9_cuts : Cond.selects yX9_cuts.cls yX9_cuts yX9_cuts ∈ q_tb := q_inT2 (i := 186) (by decide +kernel) rfl
theorem ml_X9_173 : Cond.methodLink RX9 173 yX8_cut ∈ q_tb := q_inT2 (i := 188) (by decide +kernel) rfl
theorem im_X8_cut : Cond.instanceMethod yX8_cut ∈ q_tb := q_inT2 (i := 189) (by decide +kernel) rfl
theorem se_X8_cut : Cond.selects yX8_cut.cls yX8_cut yX8_cut ∈ q_tb := q_inT2 (i := 190) (by decide +kernel) rfl
theorem ml_X8_157 : Cond.methodLink RX8 157 yX0_dropStable ∈ q_tb := q_inT2 (i := 192) (by decide +kernel) rfl
theorem im_X0_dropStable : Cond.instanceMethod yX0_dropStable ∈ q_tb := q_inT2 (i := 193) (by decide +kernel) rfl
theorem se_X0_dropStable : Cond.selects yX0_dropStable.cls yX0_dropStable yX0_dropStable ∈ q_tb := q_inT2 (i := 194) (by decide +kernel) rfl
theorem ml_X0_86 : Cond.methodLink RX0 86 yX0_stableMoves ∈ q_tb := q_inT2 (i := 196) (by decide +kernel) rfl
theorem im_X0_stableMoves : Cond.instanceMethod yX0_stableMoves ∈ q_tb := q_inT2 (i := 197) (by decide +kernel) rfl
theorem se_X0_stableMoves : Cond.selects yX0_stableMoves.cls yX0_stableMoves yX0_stableMoves ∈ q_tb := q_inT2 (i := 198) (by decide +kernel) rfl
theorem ml_X0_70 : Cond.methodLink RX0 70 yX0_stableTime ∈ q_tb := q_inT2 (i := 200) (by decide +kernel) rfl
theorem im_X0_stableTime : Cond.instanceMethod yX0_stableTime ∈ q_tb := q_inT2 (i := 201) (by decide +kernel) rfl
theorem se_X0_stableTime : Cond.selects yX0_stableTime.cls yX0_stableTime yX0_stableTime ∈ q_tb := q_inT2 (i := 202) (by decide +kernel) rfl
theorem mn_X0_60 : Cond.methodLinkNest RX0 60 yX9_nextCopy "FarFolders" ∈ q_nw := q_inN2 (i := 204) (by decide +kernel) rfl
theorem ml_X0_64 : Cond.methodLink RX0 64 Lib.Math.min.name ∈ q_tb := q_inT2 (i := 205) (by decide +kernel) rfl
theorem sm_min : Cond.static Lib.Math.min.name ∈ q_tb := q_inT2 (i := 206) (by decide +kernel) rfl
theorem co_min : Cond.code Lib.Math.min.name Lib.Math.min.code 2 (some .int) ∈ q_tb := q_inT2 (i := 207) (by decide +kernel) rfl
theorem ml_X0_74 : Cond.methodLink RX0 74 yX5_at ∈ q_tb := q_inT2 (i := 208) (by decide +kernel) rfl
theorem ml_X0_89 : Cond.methodLink RX0 89 yX7_doMove ∈ q_tb := q_inT2 (i := 209) (by decide +kernel) rfl
theorem ml_X0_93 : Cond.methodLink RX0 93 yX5_dropFirst ∈ q_tb := q_inT2 (i := 210) (by decide +kernel) rfl
theorem ml_L_71 : Cond.methodLink RL 71 yX9_day ∈ q_tb := q_inT2 (i := 211) (by decide +kernel) rfl
theorem im_X9_day : Cond.instanceMethod yX9_day ∈ q_tb := q_inT2 (i := 212) (by decide +kernel) rfl
theorem se_X9_day : Cond.selects yX9_day.cls yX9_day yX9_day ∈ q_tb := q_inT2 (i := 213) (by decide +kernel) rfl
theorem ml_X9_176 : Cond.methodLink RX9 176 yX9_wrongSignOfDay ∈ q_tb := q_inT2 (i := 215) (by decide +kernel) rfl
theorem im_X9_wrongSignOfDay : Cond.instanceMethod yX9_wrongSignOfDay ∈ q_tb := q_inT2 (i := 217) (by decide +kernel) rfl
theorem ml_X9_186 : Cond.methodLink RX9 186 yX6_at ∈ q_tb := q_inT2 (i := 219) (by decide +kernel) rfl
theorem im_X6_at : Cond.instanceMethod yX6_at ∈ q_tb := q_inT2 (i := 220) (by decide +kernel) rfl
theorem se_X6_at : Cond.selects yX6_at.cls yX6_at yX6_at ∈ q_tb := q_inT2 (i := 221) (by decide +kernel) rfl
theorem ml_X9_188 : Cond.methodLink RX9 188 yX9_signsOfAct ∈ q_tb := q_inT2 (i := 223) (by decide +kernel) rfl
theorem sm_X9_signsOfAct : Cond.static yX9_signsOfAct ∈ q_tb := q_inT2 (i := 224) (by decide +kernel) rfl
theorem ml_X9_345 : Cond.methodLink RX9 345 yX9_canStand ∈ q_tb := q_inT2 (i := 226) (by decide +kernel) rfl
theorem sm_X9_canStand : Cond.static yX9_canStand ∈ q_tb := q_inT2 (i := 227) (by decide +kernel) rfl
theorem ml_X9_349 : Cond.methodLink RX9 349 yX9_nodeOfSign ∈ q_tb := q_inT2 (i := 229) (by decide +kernel) rfl
theorem sm_X9_nodeOfSign : Cond.static yX9_nodeOfSign ∈ q_tb := q_inT2 (i := 230) (by decide +kernel) rfl
theorem ml_X9_76 : Cond.methodLink RX9 76 yX9_isFolder ∈ q_tb := q_inT2 (i := 232) (by decide +kernel) rfl
theorem ml_X9_232 : Cond.methodLink RX9 232 yX9_isNode ∈ q_tb := q_inT2 (i := 233) (by decide +kernel) rfl
theorem ml_X9_191 : Cond.methodLink RX9 191 Lib.Math.max.name ∈ q_tb := q_inT2 (i := 234) (by decide +kernel) rfl
theorem ml_X9_180 : Cond.methodLink RX9 180 yX6_clear ∈ q_tb := q_inT2 (i := 235) (by decide +kernel) rfl
theorem im_X6_clear : Cond.instanceMethod yX6_clear ∈ q_tb := q_inT2 (i := 236) (by decide +kernel) rfl
theorem se_X6_clear : Cond.selects yX6_clear.cls yX6_clear yX6_clear ∈ q_tb := q_inT2 (i := 237) (by decide +kernel) rfl
theorem ml_X9_183 : Cond.methodLink RX9 183 yX9_doAct ∈ q_tb := q_inT2 (i := 239) (by decide +kernel) rfl
theorem im_X9_doAct : Cond.instanceMethod yX9_doAct ∈ q_tb := q_inT3 (i := 1) (by decide +kernel) rfl
theorem ml_L_75 : Cond.methodLink RL 75 yX9_letters ∈ q_tb := q_inT3 (i := 3) (by decide +kernel) rfl
theorem im_X9_letters : Cond.instanceMethod yX9_letters ∈ q_tb := q_inT3 (i := 4) (by decide +kernel) rfl
theorem se_X9_letters : Cond.selects yX9_letters.cls yX9_letters yX9_letters ∈ q_tb := q_inT3 (i := 5) (by decide +kernel) rfl
theorem ml_X9_196 : Cond.methodLink RX9 196 yX8_way ∈ q_tb := q_inT3 (i := 7) (by decide +kernel) rfl
theorem ml_X9_200 : Cond.methodLink RX9 200 yX4_clear ∈ q_tb := q_inT3 (i := 8) (by decide +kernel) rfl
theorem ml_X9_124 : Cond.methodLink RX9 124 yX5_at ∈ q_tb := q_inT3 (i := 9) (by decide +kernel) rfl
theorem ml_X9_111 : Cond.methodLink RX9 111 yX1_time ∈ q_tb := q_inT3 (i := 10) (by decide +kernel) rfl
theorem ml_L_79 : Cond.methodLink RL 79 yX9_stable ∈ q_tb := q_inT3 (i := 11) (by decide +kernel) rfl
theorem im_X9_stable : Cond.instanceMethod yX9_stable ∈ q_tb := q_inT3 (i := 12) (by decide +kernel) rfl
theorem se_X9_stable : Cond.selects yX9_stable.cls yX9_stable yX9_stable ∈ q_tb := q_inT3 (i := 13) (by decide +kernel) rfl
theorem ml_X9_203 : Cond.methodLink RX9 203 yX0_stableMoves ∈ q_tb := q_inT3 (i := 15) (by decide +kernel) rfl
theorem ml_X9_206 : Cond.methodLink RX9 206 yX0_stableTime ∈ q_tb := q_inT3 (i := 16) (by decide +kernel) rfl
theorem ml_L_83 : Cond.methodLink RL 83 yX9_voids ∈ q_tb := q_inT3 (i := 17) (by decide +kernel) rfl
theorem im_X9_voids : Cond.instanceMethod yX9_voids ∈ q_tb := q_inT3 (i := 18) (by decide +kernel) rfl
theorem se_X9_voids : Cond.selects yX9_voids.cls yX9_voids yX9_voids ∈ q_tb := q_inT3 (i := 19) (by decide +kernel) rfl
theorem ml_X9_209 : Cond.methodLink RX9 209 yX9_tellSet ∈ q_tb := q_inT3 (i := 21) (by decide +kernel) rfl
theorem im_X9_tellSet : Cond.instanceMethod yX9_tellSet ∈ q_tb := q_inT3 (i := 23) (by decide +kernel) rfl
theorem ml_X9_218 : Cond.methodLink RX9 218 yJ6_bitCount_0f7a4 ∈ q_tb := q_inT3 (i := 25) (by decide +kernel) rfl
theorem sm_J6_bitCount_0f7a4 : Cond.static yJ6_bitCount_0f7a4 ∈ q_tb := q_inT3 (i := 26) (by decide +kernel) rfl
theorem ct_J6_265 : Cond.constant RJ6 265 (1431655765) ∈ q_tb := q_inT3 (i := 28) (by decide +kernel) rfl
theorem ct_J6_266 : Cond.constant RJ6 266 (858993459) ∈ q_tb := q_inT3 (i := 29) (by decide +kernel) rfl
theorem ct_J6_267 : Cond.constant RJ6 267 (252645135) ∈ q_tb := q_inT3 (i := 30) (by decide +kernel) rfl
theorem ml_L_87 : Cond.methodLink RL 87 yX9_below ∈ q_tb := q_inT3 (i := 31) (by decide +kernel) rfl
theorem im_X9_below : Cond.instanceMethod yX9_below ∈ q_tb := q_inT3 (i := 32) (by decide +kernel) rfl
theorem se_X9_below : Cond.selects yX9_below.cls yX9_below yX9_below ∈ q_tb := q_inT3 (i := 33) (by decide +kernel) rfl
theorem ml_X9_212 : Cond.methodLink RX9 212 yX9_refusalOf ∈ q_tb := q_inT3 (i := 35) (by decide +kernel) rfl
theorem im_X9_refusalOf : Cond.instanceMethod yX9_refusalOf ∈ q_tb := q_inT3 (i := 37) (by decide +kernel) rfl
theorem ml_X9_91 : Cond.methodLink RX9 91 yX7_isThere ∈ q_tb := q_inT3 (i := 39) (by decide +kernel) rfl
theorem ml_X9_215 : Cond.methodLink RX9 215 yX7_allWithin ∈ q_tb := q_inT3 (i := 40) (by decide +kernel) rfl
theorem im_X7_allWithin : Cond.instanceMethod yX7_allWithin ∈ q_tb := q_inT3 (i := 41) (by decide +kernel) rfl
theorem se_X7_allWithin : Cond.selects yX7_allWithin.cls yX7_allWithin yX7_allWithin ∈ q_tb := q_inT3 (i := 42) (by decide +kernel) rfl
theorem ml_X7_58 : Cond.methodLink RX7 58 yX7_liesWithin ∈ q_tb := q_inT3 (i := 44) (by decide +kernel) rfl
theorem im_X7_liesWithin : Cond.instanceMethod yX7_liesWithin ∈ q_tb := q_inT3 (i := 45) (by decide +kernel) rfl
theorem se_X7_liesWithin : Cond.selects yX7_liesWithin.cls yX7_liesWithin yX7_liesWithin ∈ q_tb := q_inT3 (i := 46) (by decide +kernel) rfl
theorem ml_X9_223 : Cond.methodLink RX9 223 yX7_childrenOf ∈ q_tb := q_inT3 (i := 48) (by decide +kernel) rfl
theorem im_X7_childrenOf : Cond.instanceMethod yX7_childrenOf ∈ q_tb := q_inT3 (i := 49) (by decide +kernel) rfl
theorem se_X7_childrenOf : Cond.selects yX7_childrenOf.cls yX7_childrenOf yX7_childrenOf ∈ q_tb := q_inT3 (i := 50) (by decide +kernel) rfl
theorem ml_X7_54 : Cond.methodLink RX7 54 yX7_isRightBelow ∈ q_tb := q_inT3 (i := 52) (by decide +kernel) rfl
theorem im_X7_isRightBelow : Cond.instanceMethod yX7_isRightBelow ∈ q_tb := q_inT3 (i := 53) (by decide +kernel) rfl
theorem se_X7_isRightBelow : Cond.selects yX7_isRightBelow.cls yX7_isRightBelow yX7_isRightBelow ∈ q_tb := q_inT3 (i := 54) (by decide +kernel) rfl
theorem ml_L_91 : Cond.methodLink RL 91 yX9_depth ∈ q_tb := q_inT3 (i := 56) (by decide +kernel) rfl
theorem im_X9_depth : Cond.instanceMethod yX9_depth ∈ q_tb := q_inT3 (i := 57) (by decide +kernel) rfl
theorem se_X9_depth : Cond.selects yX9_depth.cls yX9_depth yX9_depth ∈ q_tb := q_inT3 (i := 58) (by decide +kernel) rfl
theorem ml_X9_226 : Cond.methodLink RX9 226 yX7_stepsUp ∈ q_tb := q_inT3 (i := 60) (by decide +kernel) rfl
theorem im_X7_stepsUp : Cond.instanceMethod yX7_stepsUp ∈ q_tb := q_inT3 (i := 61) (by decide +kernel) rfl
theorem se_X7_stepsUp : Cond.selects yX7_stepsUp.cls yX7_stepsUp yX7_stepsUp ∈ q_tb := q_inT3 (i := 62) (by decide +kernel) rfl
theorem ml_X9_229 : Cond.methodLink RX9 229 yX7_up ∈ q_tb := q_inT3 (i := 64) (by decide +kernel) rfl
theorem im_X7_up : Cond.instanceMethod yX7_up ∈ q_tb := q_inT3 (i := 65) (by decide +kernel) rfl
theorem se_X7_up : Cond.selects yX7_up.cls yX7_up yX7_up ∈ q_tb := q_inT3 (i := 66) (by decide +kernel) rfl
theorem ml_L_95 : Cond.methodLink RL 95 yX9_meets ∈ q_tb := q_inT3 (i := 68) (by decide +kernel) rfl
theorem im_X9_meets : Cond.instanceMethod yX9_meets ∈ q_tb := q_inT3 (i := 69) (by decide +kernel) rfl
theorem se_X9_meets : Cond.selects yX9_meets.cls yX9_meets yX9_meets ∈ q_tb := q_inT3 (i := 70) (by decide +kernel) rfl
theorem ml_X9_235 : Cond.methodLink RX9 235 yX7_liesWithin ∈ q_tb := q_inT3 (i := 72) (by decide +kernel) rfl
theorem ml_L_99 : Cond.methodLink RL 99 yX9_places ∈ q_tb := q_inT3 (i := 73) (by decide +kernel) rfl
theorem im_X9_places : Cond.instanceMethod yX9_places ∈ q_tb := q_inT3 (i := 74) (by decide +kernel) rfl
theorem se_X9_places : Cond.selects yX9_places.cls yX9_places yX9_places ∈ q_tb := q_inT3 (i := 75) (by decide +kernel) rfl
theorem ml_L_103 : Cond.methodLink RL 103 yX9_total ∈ q_tb := q_inT3 (i := 77) (by decide +kernel) rfl
theorem im_X9_total : Cond.instanceMethod yX9_total ∈ q_tb := q_inT3 (i := 78) (by decide +kernel) rfl
theorem se_X9_total : Cond.selects yX9_total.cls yX9_total yX9_total ∈ q_tb := q_inT3 (i := 79) (by decide +kernel) rfl
theorem ml_X9_238 : Cond.methodLink RX9 238 yX7_leavesWithin ∈ q_tb := q_inT3 (i := 81) (by decide +kernel) rfl
theorem im_X7_leavesWithin : Cond.instanceMethod yX7_leavesWithin ∈ q_tb := q_inT3 (i := 82) (by decide +kernel) rfl
theorem se_X7_leavesWithin : Cond.selects yX7_leavesWithin.cls yX7_leavesWithin yX7_leavesWithin ∈ q_tb := q_inT3 (i := 83) (by decide +kernel) rfl
theorem ml_X7_68 : Cond.methodLink RX7 68 yX7_allWithin ∈ q_tb := q_inT3 (i := 85) (by decide +kernel) rfl
theorem ml_X7_71 : Cond.methodLink RX7 71 yX7_childrenOf ∈ q_tb := q_inT3 (i := 86) (by decide +kernel) rfl
theorem ml_X9_241 : Cond.methodLink RX9 241 yX7_stepsDown ∈ q_tb := q_inT3 (i := 87) (by decide +kernel) rfl
theorem im_X7_stepsDown : Cond.instanceMethod yX7_stepsDown ∈ q_tb := q_inT3 (i := 88) (by decide +kernel) rfl
theorem se_X7_stepsDown : Cond.selects yX7_stepsDown.cls yX7_stepsDown yX7_stepsDown ∈ q_tb := q_inT3 (i := 89) (by decide +kernel) rfl
theorem ml_X7_74 : Cond.methodLink RX7 74 yX7_stepsUp ∈ q_tb := q_inT3 (i := 91) (by decide +kernel) rfl
theorem ml_X7_77 : Cond.methodLink RX7 77 Lib.Math.max.name ∈ q_tb := q_inT3 (i := 92) (by decide +kernel) rfl
theorem ml_X9_244 : Cond.methodLink RX9 244 yX7_latestWithin ∈ q_tb := q_inT3 (i := 93) (by decide +kernel) rfl
theorem im_X7_latestWithin : Cond.instanceMethod yX7_latestWithin ∈ q_tb := q_inT3 (i := 94) (by decide +kernel) rfl
theorem se_X7_latestWithin : Cond.selects yX7_latestWithin.cls yX7_latestWithin yX7_latestWithin ∈ q_tb := q_inT3 (i := 95) (by decide +kernel) rfl
theorem ml_X7_83 : Cond.methodLink RX7 83 yX1_time ∈ q_tb := q_inT3 (i := 97) (by decide +kernel) rfl
theorem ml_X9_247 : Cond.methodLink RX9 247 yX7_rankedWithin ∈ q_tb := q_inT3 (i := 98) (by decide +kernel) rfl
theorem im_X7_rankedWithin : Cond.instanceMethod yX7_rankedWithin ∈ q_tb := q_inT3 (i := 99) (by decide +kernel) rfl
theorem se_X7_rankedWithin : Cond.selects yX7_rankedWithin.cls yX7_rankedWithin yX7_rankedWithin ∈ q_tb := q_inT3 (i := 100) (by decide +kernel) rfl
theorem ml_X7_64 : Cond.methodLink RX7 64 yX7_rankOf ∈ q_tb := q_inT3 (i := 102) (by decide +kernel) rfl
theorem im_X7_rankOf : Cond.instanceMethod yX7_rankOf ∈ q_tb := q_inT3 (i := 103) (by decide +kernel) rfl
theorem se_X7_rankOf : Cond.selects yX7_rankOf.cls yX7_rankOf yX7_rankOf ∈ q_tb := q_inT3 (i := 104) (by decide +kernel) rfl
theorem ml_X7_61 : Cond.methodLink RX7 61 yX1_name ∈ q_tb := q_inT3 (i := 106) (by decide +kernel) rfl
theorem sm_X1_name : Cond.static yX1_name ∈ q_tb := q_inT3 (i := 107) (by decide +kernel) rfl
theorem mn_X9_250 : Cond.methodLinkNest RX9 250 yX7_weigh "FarFolders" ∈ q_nw := q_inN3 (i := 109) (by decide +kernel) rfl
theorem sm_X7_weigh : Cond.static yX7_weigh ∈ q_tb := q_inT3 (i := 110) (by decide +kernel) rfl
theorem ml_X7_86 : Cond.methodLink RX7 86 yX7_weigh ∈ q_tb := q_inT3 (i := 112) (by decide +kernel) rfl
theorem ml_L_107 : Cond.methodLink RL 107 yX9_lists ∈ q_tb := q_inT3 (i := 113) (by decide +kernel) rfl
theorem im_X9_lists : Cond.instanceMethod yX9_lists ∈ q_tb := q_inT3 (i := 114) (by decide +kernel) rfl
theorem se_X9_lists : Cond.selects yX9_lists.cls yX9_lists yX9_lists ∈ q_tb := q_inT3 (i := 115) (by decide +kernel) rfl
theorem ml_X9_254 : Cond.methodLink RX9 254 yX9_listBelow ∈ q_tb := q_inT3 (i := 117) (by decide +kernel) rfl
theorem sm_X9_listBelow : Cond.static yX9_listBelow ∈ q_tb := q_inT3 (i := 118) (by decide +kernel) rfl
theorem ml_X9_372 : Cond.methodLink RX9 372 yX9_firstOf ∈ q_tb := q_inT3 (i := 120) (by decide +kernel) rfl
theorem sm_X9_firstOf : Cond.static yX9_firstOf ∈ q_tb := q_inT3 (i := 121) (by decide +kernel) rfl
theorem ml_X9_375 : Cond.methodLink RX9 375 yX9_standsAhead ∈ q_tb := q_inT3 (i := 123) (by decide +kernel) rfl
theorem sm_X9_standsAhead : Cond.static yX9_standsAhead ∈ q_tb := q_inT3 (i := 124) (by decide +kernel) rfl
theorem ml_X9_104 : Cond.methodLink RX9 104 yX1_name ∈ q_tb := q_inT3 (i := 126) (by decide +kernel) rfl
theorem ml_L_111 : Cond.methodLink RL 111 yX9_finds ∈ q_tb := q_inT3 (i := 127) (by decide +kernel) rfl
theorem im_X9_finds : Cond.instanceMethod yX9_finds ∈ q_tb := q_inT3 (i := 128) (by decide +kernel) rfl
theorem se_X9_finds : Cond.selects yX9_finds.cls yX9_finds yX9_finds ∈ q_tb := q_inT3 (i := 129) (by decide +kernel) rfl
theorem ml_X9_259 : Cond.methodLink RX9 259 yX9_wrongSignOfPath ∈ q_tb := q_inT3 (i := 131) (by decide +kernel) rfl
theorem im_X9_wrongSignOfPath : Cond.instanceMethod yX9_wrongSignOfPath ∈ q_tb := q_inT3 (i := 133) (by decide +kernel) rfl
theorem ml_X9_352 : Cond.methodLink RX9 352 yX9_firstStep ∈ q_tb := q_inT3 (i := 135) (by decide +kernel) rfl
theorem im_X9_firstStep : Cond.instanceMethod yX9_firstStep ∈ q_tb := q_inT3 (i := 137) (by decide +kernel) rfl
theorem ml_X9_355 : Cond.methodLink RX9 355 yX9_behindStep ∈ q_tb := q_inT3 (i := 139) (by decide +kernel) rfl
theorem im_X9_behindStep : Cond.instanceMethod yX9_behindStep ∈ q_tb := q_inT3 (i := 141) (by decide +kernel) rfl
theorem ml_X9_358 : Cond.methodLink RX9 358 yX6_isDigit ∈ q_tb := q_inT3 (i := 143) (by decide +kernel) rfl
theorem im_X6_isDigit : Cond.instanceMethod yX6_isDigit ∈ q_tb := q_inT3 (i := 144) (by decide +kernel) rfl
theorem se_X6_isDigit : Cond.selects yX6_isDigit.cls yX6_isDigit yX6_isDigit ∈ q_tb := q_inT3 (i := 145) (by decide +kernel) rfl
theorem ml_X6_19 : Cond.methodLink RX6 19 yX6_at ∈ q_tb := q_inT3 (i := 147) (by decide +kernel) rfl
theorem ml_X9_262 : Cond.methodLink RX9 262 yX9_nodeAtPath ∈ q_tb := q_inT3 (i := 148) (by decide +kernel) rfl
theorem im_X9_nodeAtPath : Cond.instanceMethod yX9_nodeAtPath ∈ q_tb := q_inT3 (i := 150) (by decide +kernel) rfl
theorem ml_X9_361 : Cond.methodLink RX9 361 yX6_number ∈ q_tb := q_inT3 (i := 152) (by decide +kernel) rfl
theorem im_X6_number : Cond.instanceMethod yX6_number ∈ q_tb := q_inT3 (i := 153) (by decide +kernel) rfl
theorem se_X6_number : Cond.selects yX6_number.cls yX6_number yX6_number ∈ q_tb := q_inT3 (i := 154) (by decide +kernel) rfl
theorem ml_X9_364 : Cond.methodLink RX9 364 yX7_childWith ∈ q_tb := q_inT3 (i := 156) (by decide +kernel) rfl
theorem im_X7_childWith : Cond.instanceMethod yX7_childWith ∈ q_tb := q_inT3 (i := 157) (by decide +kernel) rfl
theorem se_X7_childWith : Cond.selects yX7_childWith.cls yX7_childWith yX7_childWith ∈ q_tb := q_inT3 (i := 158) (by decide +kernel) rfl
theorem ml_L_115 : Cond.methodLink RL 115 yX9_path ∈ q_tb := q_inT3 (i := 160) (by decide +kernel) rfl
theorem im_X9_path : Cond.instanceMethod yX9_path ∈ q_tb := q_inT3 (i := 161) (by decide +kernel) rfl
theorem se_X9_path : Cond.selects yX9_path.cls yX9_path yX9_path ∈ q_tb := q_inT3 (i := 162) (by decide +kernel) rfl
theorem cL_X9_265 : Cond.constantLong RX9 265 (126) ∈ q_tb := q_inT3 (i := 164) (by decide +kernel) rfl
theorem ml_X9_267 : Cond.methodLink RX9 267 yX9_addStep ∈ q_tb := q_inT3 (i := 165) (by decide +kernel) rfl
theorem im_X9_addStep : Cond.instanceMethod yX9_addStep ∈ q_tb := q_inT3 (i := 167) (by decide +kernel) rfl
theorem cL_X9_368 : Cond.constantLong RX9 368 (47) ∈ q_tb := q_inT3 (i := 169) (by decide +kernel) rfl
theorem ml_X9_107 : Cond.methodLink RX9 107 yX7_rankOf ∈ q_tb := q_inT3 (i := 170) (by decide +kernel) rfl
theorem cL_X9_370 : Cond.constantLong RX9 370 (46) ∈ q_tb := q_inT3 (i := 171) (by decide +kernel) rfl
theorem ml_L_119 : Cond.methodLink RL 119 yX9_apart ∈ q_tb := q_inT3 (i := 172) (by decide +kernel) rfl
theorem im_X9_apart : Cond.instanceMethod yX9_apart ∈ q_tb := q_inT3 (i := 173) (by decide +kernel) rfl
theorem se_X9_apart : Cond.selects yX9_apart.cls yX9_apart yX9_apart ∈ q_tb := q_inT3 (i := 174) (by decide +kernel) rfl
theorem ml_L_123 : Cond.methodLink RL 123 yX9_late ∈ q_tb := q_inT3 (i := 176) (by decide +kernel) rfl
theorem im_X9_late : Cond.instanceMethod yX9_late ∈ q_tb := q_inT3 (i := 177) (by decide +kernel) rfl
theorem se_X9_late : Cond.selects yX9_late.cls yX9_late yX9_late ∈ q_tb := q_inT3 (i := 178) (by decide +kernel) rfl
theorem ml_X9_271 : Cond.methodLink RX9 271 yX8_copyFrom ∈ q_tb := q_inT3 (i := 180) (by decide +kernel) rfl
theorem im_X8_copyFrom : Cond.instanceMethod yX8_copyFrom ∈ q_tb := q_inT3 (i := 181) (by decide +kernel) rfl
theorem se_X8_copyFrom : Cond.selects yX8_copyFrom.cls yX8_copyFrom yX8_copyFrom ∈ q_tb := q_inT3 (i := 182) (by decide +kernel) rfl
theorem ml_X8_27 : Cond.methodLink RX8 27 yX0_copyFrom ∈ q_tb := q_inT3 (i := 184) (by decide +kernel) rfl
theorem im_X0_copyFrom : Cond.instanceMethod yX0_copyFrom ∈ q_tb := q_inT3 (i := 185) (by decide +kernel) rfl
theorem se_X0_copyFrom : Cond.selects yX0_copyFrom.cls yX0_copyFrom yX0_copyFrom ∈ q_tb := q_inT3 (i := 186) (by decide +kernel) rfl
theorem ml_X0_41 : Cond.methodLink RX0 41 arraycopyName ∈ q_tb := q_inT3 (i := 188) (by decide +kernel) rfl
theorem ml_X0_47 : Cond.methodLink RX0 47 yX5_copyFrom ∈ q_tb := q_inT3 (i := 189) (by decide +kernel) rfl
theorem im_X5_copyFrom : Cond.instanceMethod yX5_copyFrom ∈ q_tb := q_inT3 (i := 190) (by decide +kernel) rfl
theorem se_X5_copyFrom : Cond.selects yX5_copyFrom.cls yX5_copyFrom yX5_copyFrom ∈ q_tb := q_inT3 (i := 191) (by decide +kernel) rfl
theorem ml_X5_25 : Cond.methodLink RX5 25 Lib.Math.min.name ∈ q_tb := q_inT3 (i := 193) (by decide +kernel) rfl
theorem ml_X0_51 : Cond.methodLink RX0 51 yX7_copyFrom ∈ q_tb := q_inT3 (i := 194) (by decide +kernel) rfl
theorem ml_X8_31 : Cond.methodLink RX8 31 yX5_copyFrom ∈ q_tb := q_inT3 (i := 195) (by decide +kernel) rfl
theorem ml_X9_274 : Cond.methodLink RX9 274 yX8_takeNext ∈ q_tb := q_inT3 (i := 196) (by decide +kernel) rfl
theorem ml_L_127 : Cond.methodLink RL 127 yX9_then ∈ q_tb := q_inT3 (i := 197) (by decide +kernel) rfl
theorem im_X9_then : Cond.instanceMethod yX9_then ∈ q_tb := q_inT3 (i := 198) (by decide +kernel) rfl
theorem se_X9_then : Cond.selects yX9_then.cls yX9_then yX9_then ∈ q_tb := q_inT3 (i := 199) (by decide +kernel) rfl
theorem ml_X9_277 : Cond.methodLink RX9 277 yX8_takeAll ∈ q_tb := q_inT3 (i := 201) (by decide +kernel) rfl
theorem ml_X9_98 : Cond.methodLink RX9 98 yX1_parent ∈ q_tb := q_inT3 (i := 202) (by decide +kernel) rfl
theorem cL_X9_281 : Cond.constantLong RX9 281 (-1) ∈ q_tb := q_inT3 (i := 203) (by decide +kernel) rfl
theorem ml_X9_283 : Cond.methodLink RX9 283 yX7_folders ∈ q_tb := q_inT3 (i := 204) (by decide +kernel) rfl
theorem im_X7_folders : Cond.instanceMethod yX7_folders ∈ q_tb := q_inT3 (i := 205) (by decide +kernel) rfl
theorem se_X7_folders : Cond.selects yX7_folders.cls yX7_folders yX7_folders ∈ q_tb := q_inT3 (i := 206) (by decide +kernel) rfl
theorem ml_L_131 : Cond.methodLink RL 131 yX9_worst ∈ q_tb := q_inT3 (i := 208) (by decide +kernel) rfl
theorem im_X9_worst : Cond.instanceMethod yX9_worst ∈ q_tb := q_inT3 (i := 209) (by decide +kernel) rfl
theorem se_X9_worst : Cond.selects yX9_worst.cls yX9_worst yX9_worst ∈ q_tb := q_inT3 (i := 210) (by decide +kernel) rfl
theorem ml_X9_286 : Cond.methodLink RX9 286 yX8_waitingFor ∈ q_tb := q_inT3 (i := 212) (by decide +kernel) rfl
theorem ml_X9_289 : Cond.methodLink RX9 289 yX9_nextCopy ∈ q_tb := q_inT3 (i := 213) (by decide +kernel) rfl
theorem ml_X9_292 : Cond.methodLink RX9 292 yX3_weighAll ∈ q_tb := q_inT3 (i := 214) (by decide +kernel) rfl
theorem im_X3_weighAll : Cond.instanceMethod yX3_weighAll ∈ q_tb := q_inT3 (i := 215) (by decide +kernel) rfl
theorem se_X3_weighAll : Cond.selects yX3_weighAll.cls yX3_weighAll yX3_weighAll ∈ q_tb := q_inT3 (i := 216) (by decide +kernel) rfl
theorem ml_X3_30 : Cond.methodLink RX3 30 yX3_place ∈ q_tb := q_inT3 (i := 218) (by decide +kernel) rfl
theorem sm_X3_place : Cond.static yX3_place ∈ q_tb := q_inT3 (i := 219) (by decide +kernel) rfl
theorem ml_X3_18 : Cond.methodLink RX3 18 Lib.Math.min.name ∈ q_tb := q_inT3 (i := 221) (by decide +kernel) rfl
theorem ct_X3_33 : Cond.constant RX3 33 (1073741824) ∈ q_tb := q_inT3 (i := 222) (by decide +kernel) rfl
theorem ml_X3_34 : Cond.methodLink RX3 34 yX5_at ∈ q_tb := q_inT3 (i := 223) (by decide +kernel) rfl
theorem ml_X3_38 : Cond.methodLink RX3 38 yX3_undoneBy ∈ q_tb := q_inT3 (i := 224) (by decide +kernel) rfl
theorem sm_X3_undoneBy : Cond.static yX3_undoneBy ∈ q_tb := q_inT3 (i := 225) (by decide +kernel) rfl
theorem ml_X3_49 : Cond.methodLink RX3 49 yX1_hasMove ∈ q_tb := q_inT3 (i := 227) (by decide +kernel) rfl
theorem ml_X3_55 : Cond.methodLink RX3 55 yX5_countLater ∈ q_tb := q_inT3 (i := 228) (by decide +kernel) rfl
theorem ml_X3_42 : Cond.methodLink RX3 42 yX3_step ∈ q_tb := q_inT3 (i := 229) (by decide +kernel) rfl
theorem im_X3_step : Cond.instanceMethod yX3_step ∈ q_tb := q_inT3 (i := 231) (by decide +kernel) rfl
theorem ml_X3_46 : Cond.methodLink RX3 46 Lib.Math.max.name ∈ q_tb := q_inT3 (i := 233) (by decide +kernel) rfl
theorem ml_X9_296 : Cond.methodLink RX9 296 yX3_place ∈ q_tb := q_inT3 (i := 234) (by decide +kernel) rfl
theorem ml_L_135 : Cond.methodLink RL 135 yX9_frees ∈ q_tb := q_inT3 (i := 235) (by decide +kernel) rfl
theorem im_X9_frees : Cond.instanceMethod yX9_frees ∈ q_tb := q_inT3 (i := 236) (by decide +kernel) rfl
theorem se_X9_frees : Cond.selects yX9_frees.cls yX9_frees yX9_frees ∈ q_tb := q_inT3 (i := 237) (by decide +kernel) rfl
theorem ml_X9_117 : Cond.methodLink RX9 117 yX0_hasMove ∈ q_tb := q_inT3 (i := 239) (by decide +kernel) rfl
theorem im_X0_hasMove : Cond.instanceMethod yX0_hasMove ∈ q_tb := q_inT4 (i := 0) (by decide +kernel) rfl
theorem se_X0_hasMove : Cond.selects yX0_hasMove.cls yX0_hasMove yX0_hasMove ∈ q_tb := q_inT4 (i := 1) (by decide +kernel) rfl
theorem ml_X9_309 : Cond.methodLink RX9 309 yX7_rebuild ∈ q_tb := q_inT4 (i := 3) (by decide +kernel) rfl
theorem ml_L_139 : Cond.methodLink RL 139 yX9_idle ∈ q_tb := q_inT4 (i := 4) (by decide +kernel) rfl
theorem im_X9_idle : Cond.instanceMethod yX9_idle ∈ q_tb := q_inT4 (i := 5) (by decide +kernel) rfl
theorem se_X9_idle : Cond.selects yX9_idle.cls yX9_idle yX9_idle ∈ q_tb := q_inT4 (i := 6) (by decide +kernel) rfl
theorem ml_X9_313 : Cond.methodLink RX9 313 yX7_looksAs ∈ q_tb := q_inT4 (i := 8) (by decide +kernel) rfl
theorem im_X7_looksAs : Cond.instanceMethod yX7_looksAs ∈ q_tb := q_inT4 (i := 9) (by decide +kernel) rfl
theorem se_X7_looksAs : Cond.selects yX7_looksAs.cls yX7_looksAs yX7_looksAs ∈ q_tb := q_inT4 (i := 10) (by decide +kernel) rfl
theorem cL_X7_52 : Cond.constantLong RX7 52 (4095) ∈ q_tb := q_inT4 (i := 12) (by decide +kernel) rfl
theorem ml_L_143 : Cond.methodLink RL 143 yX9_nearest ∈ q_tb := q_inT4 (i := 13) (by decide +kernel) rfl
theorem im_X9_nearest : Cond.instanceMethod yX9_nearest ∈ q_tb := q_inT4 (i := 14) (by decide +kernel) rfl
theorem se_X9_nearest : Cond.selects yX9_nearest.cls yX9_nearest yX9_nearest ∈ q_tb := q_inT4 (i := 15) (by decide +kernel) rfl
theorem ml_X9_317 : Cond.methodLink RX9 317 yX2_search ∈ q_tb := q_inT4 (i := 17) (by decide +kernel) rfl
theorem im_X2_search : Cond.instanceMethod yX2_search ∈ q_tb := q_inT4 (i := 18) (by decide +kernel) rfl
theorem se_X2_search : Cond.selects yX2_search.cls yX2_search yX2_search ∈ q_tb := q_inT4 (i := 19) (by decide +kernel) rfl
theorem ml_X2_31 : Cond.methodLink RX2 31 yX8_way ∈ q_tb := q_inT4 (i := 21) (by decide +kernel) rfl
theorem ml_X2_41 : Cond.methodLink RX2 41 yX3_place ∈ q_tb := q_inT4 (i := 22) (by decide +kernel) rfl
theorem ml_X2_51 : Cond.methodLink RX2 51 yX2_grow ∈ q_tb := q_inT4 (i := 23) (by decide +kernel) rfl
theorem im_X2_grow : Cond.instanceMethod yX2_grow ∈ q_tb := q_inT4 (i := 25) (by decide +kernel) rfl
theorem ml_X2_68 : Cond.methodLink RX2 68 yX5_copyFrom ∈ q_tb := q_inT4 (i := 27) (by decide +kernel) rfl
theorem ml_X2_72 : Cond.methodLink RX2 72 yX5_insertMovesOf ∈ q_tb := q_inT4 (i := 28) (by decide +kernel) rfl
theorem ml_X2_79 : Cond.methodLink RX2 79 yX7_rebuild ∈ q_tb := q_inT4 (i := 29) (by decide +kernel) rfl
theorem ct_X2_55 : Cond.constant RX2 55 (1073741824) ∈ q_tb := q_inT4 (i := 30) (by decide +kernel) rfl
theorem ml_X2_59 : Cond.methodLink RX2 59 yX2_compare ∈ q_tb := q_inT4 (i := 31) (by decide +kernel) rfl
theorem im_X2_compare : Cond.instanceMethod yX2_compare ∈ q_tb := q_inT4 (i := 33) (by decide +kernel) rfl
theorem ml_X2_83 : Cond.methodLink RX2 83 yX2_key ∈ q_tb := q_inT4 (i := 35) (by decide +kernel) rfl
theorem sm_X2_key : Cond.static yX2_key ∈ q_tb := q_inT4 (i := 36) (by decide +kernel) rfl
theorem ml_X2_87 : Cond.methodLink RX2 87 yX7_isAs ∈ q_tb := q_inT4 (i := 38) (by decide +kernel) rfl
theorem im_X7_isAs : Cond.instanceMethod yX7_isAs ∈ q_tb := q_inT4 (i := 39) (by decide +kernel) rfl
theorem se_X7_isAs : Cond.selects yX7_isAs.cls yX7_isAs yX7_isAs ∈ q_tb := q_inT4 (i := 40) (by decide +kernel) rfl
theorem ml_X9_321 : Cond.methodLink RX9 321 yX2_lettersOn ∈ q_tb := q_inT4 (i := 42) (by decide +kernel) rfl
theorem sm_X2_lettersOn : Cond.static yX2_lettersOn ∈ q_tb := q_inT4 (i := 43) (by decide +kernel) rfl
theorem ml_X9_324 : Cond.methodLink RX9 324 yX2_allLetters ∈ q_tb := q_inT4 (i := 45) (by decide +kernel) rfl
theorem sm_X2_allLetters : Cond.static yX2_allLetters ∈ q_tb := q_inT4 (i := 46) (by decide +kernel) rfl
theorem ml_L_147 : Cond.methodLink RL 147 yX9_years ∈ q_tb := q_inT4 (i := 48) (by decide +kernel) rfl
theorem im_X9_years : Cond.instanceMethod yX9_years ∈ q_tb := q_inT4 (i := 49) (by decide +kernel) rfl
theorem se_X9_years : Cond.selects yX9_years.cls yX9_years yX9_years ∈ q_tb := q_inT4 (i := 50) (by decide +kernel) rfl
theorem ml_X9_330 : Cond.methodLink RX9 330 yX9_drawAct ∈ q_tb := q_inT4 (i := 52) (by decide +kernel) rfl
theorem im_X9_drawAct : Cond.instanceMethod yX9_drawAct ∈ q_tb := q_inT4 (i := 54) (by decide +kernel) rfl
theorem ml_X9_379 : Cond.methodLink RX9 379 yX9_draw ∈ q_tb := q_inT4 (i := 56) (by decide +kernel) rfl
theorem im_X9_draw : Cond.instanceMethod yX9_draw ∈ q_tb := q_inT4 (i := 58) (by decide +kernel) rfl
theorem ct_X9_382 : Cond.constant RX9 382 (1103515245) ∈ q_tb := q_inT4 (i := 60) (by decide +kernel) rfl
theorem ml_X9_333 : Cond.methodLink RX9 333 yX8_waiting ∈ q_tb := q_inT4 (i := 61) (by decide +kernel) rfl
theorem im_X8_waiting : Cond.instanceMethod yX8_waiting ∈ q_tb := q_inT4 (i := 62) (by decide +kernel) rfl
theorem se_X8_waiting : Cond.selects yX8_waiting.cls yX8_waiting yX8_waiting ∈ q_tb := q_inT4 (i := 63) (by decide +kernel) rfl
theorem ml_L_151 : Cond.methodLink RL 151 yX9_keep ∈ q_tb := q_inT4 (i := 65) (by decide +kernel) rfl
theorem im_X9_keep : Cond.instanceMethod yX9_keep ∈ q_tb := q_inT4 (i := 66) (by decide +kernel) rfl
theorem se_X9_keep : Cond.selects yX9_keep.cls yX9_keep yX9_keep ∈ q_tb := q_inT4 (i := 67) (by decide +kernel) rfl
theorem ml_L_155 : Cond.methodLink RL 155 yX9_again ∈ q_tb := q_inT4 (i := 69) (by decide +kernel) rfl
theorem im_X9_again : Cond.instanceMethod yX9_again ∈ q_tb := q_inT4 (i := 70) (by decide +kernel) rfl
theorem se_X9_again : Cond.selects yX9_again.cls yX9_again yX9_again ∈ q_tb := q_inT4 (i := 71) (by decide +kernel) rfl
theorem ml_L_159 : Cond.methodLink RL 159 yX9_count ∈ q_tb := q_inT4 (i := 73) (by decide +kernel) rfl
theorem im_X9_count : Cond.instanceMethod yX9_count ∈ q_tb := q_inT4 (i := 74) (by decide +kernel) rfl
theorem se_X9_count : Cond.selects yX9_count.cls yX9_count yX9_count ∈ q_tb := q_inT4 (i := 75) (by decide +kernel) rfl
theorem ml_X9_336 : Cond.methodLink RX9 336 yX8_latestTime ∈ q_tb := q_inT4 (i := 77) (by decide +kernel) rfl
theorem im_X8_latestTime : Cond.instanceMethod yX8_latestTime ∈ q_tb := q_inT4 (i := 78) (by decide +kernel) rfl
theorem se_X8_latestTime : Cond.selects yX8_latestTime.cls yX8_latestTime yX8_latestTime ∈ q_tb := q_inT4 (i := 79) (by decide +kernel) rfl
theorem ml_X8_49 : Cond.methodLink RX8 49 Lib.Math.max.name ∈ q_tb := q_inT4 (i := 81) (by decide +kernel) rfl
theorem ml_L_36 : Cond.methodLink RL 36 yL_entry ∈ q_tb := q_inT4 (i := 82) (by decide +kernel) rfl
theorem sm_L_entry : Cond.static yL_entry ∈ q_tb := q_inT4 (i := 83) (by decide +kernel) rfl
theorem ml_L_7 : Cond.methodLink RL 7 yX9_entry ∈ q_tb := q_inT4 (i := 86) (by decide +kernel) rfl
theorem im_X9_entry : Cond.instanceMethod yX9_entry ∈ q_tb := q_inT4 (i := 87) (by decide +kernel) rfl
theorem se_X9_entry : Cond.selects yX9_entry.cls yX9_entry yX9_entry ∈ q_tb := q_inT4 (i := 88) (by decide +kernel) rfl
theorem ml_X9_114 : Cond.methodLink RX9 114 yX1_sender ∈ q_tb := q_inT4 (i := 151) (by decide +kernel) rfl
theorem sm_X1_sender : Cond.static yX1_sender ∈ q_tb := q_inT4 (i := 152) (by decide +kernel) rfl
theorem ml_L_46 : Cond.methodLink RL 46 yL_move ∈ q_tb := q_inT4 (i := 154) (by decide +kernel) rfl
theorem sm_L_move : Cond.static yL_move ∈ q_tb := q_inT4 (i := 155) (by decide +kernel) rfl
theorem ml_L_15 : Cond.methodLink RL 15 yX9_move ∈ q_tb := q_inT4 (i := 157) (by decide +kernel) rfl
theorem im_X9_move : Cond.instanceMethod yX9_move ∈ q_tb := q_inT4 (i := 158) (by decide +kernel) rfl
theorem se_X9_move : Cond.selects yX9_move.cls yX9_move yX9_move ∈ q_tb := q_inT4 (i := 159) (by decide +kernel) rfl
theorem ml_X9_130 : Cond.methodLink RX9 130 yX1_folder ∈ q_tb := q_inT4 (i := 161) (by decide +kernel) rfl
theorem ml_L_163 : Cond.methodLink RL 163 yL_row ∈ q_tb := q_inT4 (i := 162) (by decide +kernel) rfl
theorem sm_L_row : Cond.static yL_row ∈ q_tb := q_inT4 (i := 163) (by decide +kernel) rfl
theorem ml_L_18 : Cond.methodLink RL 18 yX9_row ∈ q_tb := q_inT4 (i := 165) (by decide +kernel) rfl
theorem im_X9_row : Cond.instanceMethod yX9_row ∈ q_tb := q_inT4 (i := 166) (by decide +kernel) rfl
theorem se_X9_row : Cond.selects yX9_row.cls yX9_row yX9_row ∈ q_tb := q_inT4 (i := 167) (by decide +kernel) rfl
theorem ml_X9_339 : Cond.methodLink RX9 339 yX4_has ∈ q_tb := q_inT4 (i := 169) (by decide +kernel) rfl
theorem im_X4_has : Cond.instanceMethod yX4_has ∈ q_tb := q_inT4 (i := 170) (by decide +kernel) rfl
theorem se_X4_has : Cond.selects yX4_has.cls yX4_has yX4_has ∈ q_tb := q_inT4 (i := 171) (by decide +kernel) rfl
theorem ml_L_42 : Cond.methodLink RL 42 yX10_thrown ∈ q_tb := q_inT4 (i := 173) (by decide +kernel) rfl
theorem im_X10_thrown : Cond.instanceMethod yX10_thrown ∈ q_tb := q_inT4 (i := 174) (by decide +kernel) rfl
theorem se_X10_thrown : Cond.selects yX10_thrown.cls yX10_thrown yX10_thrown ∈ q_tb := q_inT4 (i := 175) (by decide +kernel) rfl
theorem ml_L_30 : Cond.methodLink RL 30 yX10_sign ∈ q_tb := q_inT4 (i := 177) (by decide +kernel) rfl
theorem im_X10_sign : Cond.instanceMethod yX10_sign ∈ q_tb := q_inT4 (i := 178) (by decide +kernel) rfl
theorem se_X10_sign : Cond.selects yX10_sign.cls yX10_sign yX10_sign ∈ q_tb := q_inT4 (i := 179) (by decide +kernel) rfl
theorem ml_L_35 : Cond.methodLink RL 35 yX10_end ∈ q_tb := q_inT4 (i := 181) (by decide +kernel) rfl
theorem im_X10_end : Cond.instanceMethod yX10_end ∈ q_tb := q_inT4 (i := 182) (by decide +kernel) rfl
theorem se_X10_end : Cond.selects yX10_end.cls yX10_end yX10_end ∈ q_tb := q_inT4 (i := 183) (by decide +kernel) rfl
theorem ml_X10_21 : Cond.methodLink RX10 21 yX10_in ∈ q_tb := q_inT4 (i := 185) (by decide +kernel) rfl
theorem sm_X10_in : Cond.static yX10_in ∈ q_tb := q_inT4 (i := 186) (by decide +kernel) rfl
theorem cl_L_23 : Cond.classLink RL 23 RX10 ∈ q_tb := q_inT4 (i := 188) (by decide +kernel) rfl
theorem ins_X10 : Cond.instantiable RX10 26 ∈ q_tb := q_inT4 (i := 189) (by decide +kernel) rfl
theorem ml_L_25 : Cond.methodLink RL 25 yX10_init ∈ q_tb := q_inT4 (i := 190) (by decide +kernel) rfl
theorem im_X10_init : Cond.instanceMethod yX10_init ∈ q_tb := q_inT4 (i := 191) (by decide +kernel) rfl
theorem ml_X10_41 : Cond.methodLink RX10 41 Lib.objectInit ∈ q_tb := q_inT4 (i := 193) (by decide +kernel) rfl
theorem ml_X10_90 : Cond.methodLink RX10 90 yX10_baseOf ∈ q_tb := q_inT4 (i := 194) (by decide +kernel) rfl
theorem sm_X10_baseOf : Cond.static yX10_baseOf ∈ q_tb := q_inT4 (i := 195) (by decide +kernel) rfl
theorem fl_X10_1 : Cond.fieldLink RX10 1 (TX10 0).1 (TX10 0).2.1 (TX10 0).2.2.1 ∈ q_tb := q_inT4 (i := 197) (by decide +kernel) rfl
theorem fl_X10_11 : Cond.fieldLink RX10 11 (TX10 1).1 (TX10 1).2.1 (TX10 1).2.2.1 ∈ q_tb := q_inT4 (i := 198) (by decide +kernel) rfl
theorem fl_X10_7 : Cond.fieldLink RX10 7 (TX10 2).1 (TX10 2).2.1 (TX10 2).2.2.1 ∈ q_tb := q_inT4 (i := 199) (by decide +kernel) rfl
theorem fl_X10_17 : Cond.fieldLink RX10 17 (TX10 3).1 (TX10 3).2.1 (TX10 3).2.2.1 ∈ q_tb := q_inT4 (i := 200) (by decide +kernel) rfl
theorem fl_X10_14 : Cond.fieldLink RX10 14 (TX10 4).1 (TX10 4).2.1 (TX10 4).2.2.1 ∈ q_tb := q_inT4 (i := 201) (by decide +kernel) rfl
theorem fl_X10_28 : Cond.fieldLink RX10 28 (TX10 5).1 (TX10 5).2.1 (TX10 5).2.2.1 ∈ q_tb := q_inT4 (i := 202) (by decide +kernel) rfl
theorem fl_X10_25 : Cond.fieldLink RX10 25 (TX10 6).1 (TX10 6).2.1 (TX10 6).2.2.1 ∈ q_tb := q_inT4 (i := 203) (by decide +kernel) rfl
theorem fl_X10_47 : Cond.fieldLink RX10 47 (TX10 7).1 (TX10 7).2.1 (TX10 7).2.2.1 ∈ q_tb := q_inT4 (i := 204) (by decide +kernel) rfl
theorem fl_X10_50 : Cond.fieldLink RX10 50 (TX10 8).1 (TX10 8).2.1 (TX10 8).2.2.1 ∈ q_tb := q_inT4 (i := 205) (by decide +kernel) rfl
theorem fl_X10_105 : Cond.fieldLink RX10 105 (TX10 9).1 (TX10 9).2.1 (TX10 9).2.2.1 ∈ q_tb := q_inT4 (i := 206) (by decide +kernel) rfl
theorem fl_X10_53 : Cond.fieldLink RX10 53 (TX10 10).1 (TX10 10).2.1 (TX10 10).2.2.1 ∈ q_tb := q_inT4 (i := 207) (by decide +kernel) rfl
theorem fl_X10_57 : Cond.fieldLink RX10 57 (TX10 11).1 (TX10 11).2.1 (TX10 11).2.2.1 ∈ q_tb := q_inT4 (i := 208) (by decide +kernel) rfl
theorem fl_X10_190 : Cond.fieldLink RX10 190 (TX10 12).1 (TX10 12).2.1 (TX10 12).2.2.1 ∈ q_tb := q_inT4 (i := 209) (by decide +kernel) rfl
theorem fl_X10_214 : Cond.fieldLink RX10 214 (TX10 13).1 (TX10 13).2.1 (TX10 13).2.2.1 ∈ q_tb := q_inT4 (i := 210) (by decide +kernel) rfl
theorem fl_X10_220 : Cond.fieldLink RX10 220 (TX10 14).1 (TX10 14).2.1 (TX10 14).2.2.1 ∈ q_tb := q_inT4 (i := 211) (by decide +kernel) rfl
theorem fl_X10_60 : Cond.fieldLink RX10 60 (TX10 15).1 (TX10 15).2.1 (TX10 15).2.2.1 ∈ q_tb := q_inT4 (i := 212) (by decide +kernel) rfl
theorem fl_X10_63 : Cond.fieldLink RX10 63 (TX10 16).1 (TX10 16).2.1 (TX10 16).2.2.1 ∈ q_tb := q_inT4 (i := 213) (by decide +kernel) rfl
theorem fl_X10_66 : Cond.fieldLink RX10 66 (TX10 17).1 (TX10 17).2.1 (TX10 17).2.2.1 ∈ q_tb := q_inT4 (i := 214) (by decide +kernel) rfl
theorem fl_X10_69 : Cond.fieldLink RX10 69 (TX10 18).1 (TX10 18).2.1 (TX10 18).2.2.1 ∈ q_tb := q_inT4 (i := 215) (by decide +kernel) rfl
theorem fl_X10_72 : Cond.fieldLink RX10 72 (TX10 19).1 (TX10 19).2.1 (TX10 19).2.2.1 ∈ q_tb := q_inT4 (i := 216) (by decide +kernel) rfl
theorem fl_X10_75 : Cond.fieldLink RX10 75 (TX10 20).1 (TX10 20).2.1 (TX10 20).2.2.1 ∈ q_tb := q_inT4 (i := 217) (by decide +kernel) rfl
theorem fl_X10_78 : Cond.fieldLink RX10 78 (TX10 21).1 (TX10 21).2.1 (TX10 21).2.2.1 ∈ q_tb := q_inT4 (i := 218) (by decide +kernel) rfl
theorem fl_X10_81 : Cond.fieldLink RX10 81 (TX10 22).1 (TX10 22).2.1 (TX10 22).2.2.1 ∈ q_tb := q_inT4 (i := 219) (by decide +kernel) rfl
theorem fl_X10_84 : Cond.fieldLink RX10 84 (TX10 23).1 (TX10 23).2.1 (TX10 23).2.2.1 ∈ q_tb := q_inT4 (i := 220) (by decide +kernel) rfl
theorem fl_X10_350 : Cond.fieldLink RX10 350 (TX10 24).1 (TX10 24).2.1 (TX10 24).2.2.1 ∈ q_tb := q_inT4 (i := 221) (by decide +kernel) rfl
theorem fl_X10_87 : Cond.fieldLink RX10 87 (TX10 25).1 (TX10 25).2.1 (TX10 25).2.2.1 ∈ q_tb := q_inT4 (i := 222) (by decide +kernel) rfl
theorem ml_L_41 : Cond.methodLink RL 41 yX10_entry ∈ q_tb := q_inT5 (i := 36) (by decide +kernel) rfl
theorem im_X10_entry : Cond.instanceMethod yX10_entry ∈ q_tb := q_inT5 (i := 37) (by decide +kernel) rfl
theorem se_X10_entry : Cond.selects yX10_entry.cls yX10_entry yX10_entry ∈ q_tb := q_inT5 (i := 38) (by decide +kernel) rfl
theorem ml_X10_101 : Cond.methodLink RX10 101 yX10_isCopy ∈ q_tb := q_inT5 (i := 40) (by decide +kernel) rfl
theorem sm_X10_isCopy : Cond.static yX10_isCopy ∈ q_tb := q_inT5 (i := 41) (by decide +kernel) rfl
theorem cL_X10_97 : Cond.constantLong RX10 97 (2) ∈ q_tb := q_inT5 (i := 43) (by decide +kernel) rfl
theorem ml_X10_159 : Cond.methodLink RX10 159 yX10_isFolder ∈ q_tb := q_inT5 (i := 44) (by decide +kernel) rfl
theorem sm_X10_isFolder : Cond.static yX10_isFolder ∈ q_tb := q_inT5 (i := 45) (by decide +kernel) rfl
theorem cL_X10_99 : Cond.constantLong RX10 99 (13) ∈ q_tb := q_inT5 (i := 47) (by decide +kernel) rfl
theorem cL_X10_162 : Cond.constantLong RX10 162 (4) ∈ q_tb := q_inT5 (i := 48) (by decide +kernel) rfl
theorem ml_X10_115 : Cond.methodLink RX10 115 yX10_flag ∈ q_tb := q_inT5 (i := 49) (by decide +kernel) rfl
theorem sm_X10_flag : Cond.static yX10_flag ∈ q_tb := q_inT5 (i := 50) (by decide +kernel) rfl
theorem ml_X10_164 : Cond.methodLink RX10 164 yX10_lays ∈ q_tb := q_inT5 (i := 52) (by decide +kernel) rfl
theorem im_X10_lays : Cond.instanceMethod yX10_lays ∈ q_tb := q_inT5 (i := 54) (by decide +kernel) rfl
theorem ml_X10_144 : Cond.methodLink RX10 144 yX10_loads ∈ q_tb := q_inT5 (i := 56) (by decide +kernel) rfl
theorem im_X10_loads : Cond.instanceMethod yX10_loads ∈ q_tb := q_inT5 (i := 58) (by decide +kernel) rfl
theorem ml_X10_108 : Cond.methodLink RX10 108 yX10_moveOf ∈ q_tb := q_inT5 (i := 60) (by decide +kernel) rfl
theorem sm_X10_moveOf : Cond.static yX10_moveOf ∈ q_tb := q_inT5 (i := 61) (by decide +kernel) rfl
theorem ml_X10_148 : Cond.methodLink RX10 148 yX10_grows ∈ q_tb := q_inT5 (i := 63) (by decide +kernel) rfl
theorem im_X10_grows : Cond.instanceMethod yX10_grows ∈ q_tb := q_inT5 (i := 65) (by decide +kernel) rfl
theorem ml_X10_141 : Cond.methodLink RX10 141 yX10_canGo ∈ q_tb := q_inT5 (i := 67) (by decide +kernel) rfl
theorem im_X10_canGo : Cond.instanceMethod yX10_canGo ∈ q_tb := q_inT5 (i := 69) (by decide +kernel) rfl
theorem ml_X10_133 : Cond.methodLink RX10 133 yX10_isThere ∈ q_tb := q_inT5 (i := 71) (by decide +kernel) rfl
theorem im_X10_isThere : Cond.instanceMethod yX10_isThere ∈ q_tb := q_inT5 (i := 73) (by decide +kernel) rfl
theorem ml_X10_129 : Cond.methodLink RX10 129 yX10_its ∈ q_tb := q_inT5 (i := 75) (by decide +kernel) rfl
theorem im_X10_its : Cond.instanceMethod yX10_its ∈ q_tb := q_inT5 (i := 77) (by decide +kernel) rfl
theorem ml_X10_137 : Cond.methodLink RX10 137 yX10_isUnder ∈ q_tb := q_inT5 (i := 79) (by decide +kernel) rfl
theorem im_X10_isUnder : Cond.instanceMethod yX10_isUnder ∈ q_tb := q_inT5 (i := 81) (by decide +kernel) rfl
theorem ml_X10_168 : Cond.methodLink RX10 168 yX10_rank ∈ q_tb := q_inT5 (i := 83) (by decide +kernel) rfl
theorem im_X10_rank : Cond.instanceMethod yX10_rank ∈ q_tb := q_inT5 (i := 85) (by decide +kernel) rfl
theorem ml_X10_111 : Cond.methodLink RX10 111 yX10_isLess ∈ q_tb := q_inT5 (i := 87) (by decide +kernel) rfl
theorem sm_X10_isLess : Cond.static yX10_isLess ∈ q_tb := q_inT5 (i := 88) (by decide +kernel) rfl
theorem ml_L_48 : Cond.methodLink RL 48 yX10_move ∈ q_tb := q_inT5 (i := 90) (by decide +kernel) rfl
theorem im_X10_move : Cond.instanceMethod yX10_move ∈ q_tb := q_inT5 (i := 91) (by decide +kernel) rfl
theorem se_X10_move : Cond.selects yX10_move.cls yX10_move yX10_move ∈ q_tb := q_inT5 (i := 92) (by decide +kernel) rfl
theorem cL_X10_171 : Cond.constantLong RX10 171 (5) ∈ q_tb := q_inT5 (i := 94) (by decide +kernel) rfl
theorem ml_L_53 : Cond.methodLink RL 53 yX10_makes ∈ q_tb := q_inT5 (i := 95) (by decide +kernel) rfl
theorem im_X10_makes : Cond.instanceMethod yX10_makes ∈ q_tb := q_inT5 (i := 96) (by decide +kernel) rfl
theorem se_X10_makes : Cond.selects yX10_makes.cls yX10_makes yX10_makes ∈ q_tb := q_inT5 (i := 97) (by decide +kernel) rfl
theorem ml_X10_198 : Cond.methodLink RX10 198 yX10_makesOne ∈ q_tb := q_inT5 (i := 99) (by decide +kernel) rfl
theorem im_X10_makesOne : Cond.instanceMethod yX10_makesOne ∈ q_tb := q_inT5 (i := 101) (by decide +kernel) rfl
theorem ml_X10_179 : Cond.methodLink RX10 179 yX10_isNode ∈ q_tb := q_inT5 (i := 103) (by decide +kernel) rfl
theorem sm_X10_isNode : Cond.static yX10_isNode ∈ q_tb := q_inT5 (i := 104) (by decide +kernel) rfl
theorem cL_X10_182 : Cond.constantLong RX10 182 (9) ∈ q_tb := q_inT5 (i := 106) (by decide +kernel) rfl
theorem ml_X10_184 : Cond.methodLink RX10 184 yX10_areFull ∈ q_tb := q_inT5 (i := 107) (by decide +kernel) rfl
theorem im_X10_areFull : Cond.instanceMethod yX10_areFull ∈ q_tb := q_inT5 (i := 109) (by decide +kernel) rfl
theorem ml_X10_173 : Cond.methodLink RX10 173 yX10_waiting ∈ q_tb := q_inT5 (i := 111) (by decide +kernel) rfl
theorem im_X10_waiting : Cond.instanceMethod yX10_waiting ∈ q_tb := q_inT5 (i := 113) (by decide +kernel) rfl
theorem ml_X10_94 : Cond.methodLink RX10 94 yX10_wayOf ∈ q_tb := q_inT5 (i := 115) (by decide +kernel) rfl
theorem sm_X10_wayOf : Cond.static yX10_wayOf ∈ q_tb := q_inT5 (i := 116) (by decide +kernel) rfl
theorem ml_X10_125 : Cond.methodLink RX10 125 yX10_puts ∈ q_tb := q_inT5 (i := 118) (by decide +kernel) rfl
theorem im_X10_puts : Cond.instanceMethod yX10_puts ∈ q_tb := q_inT5 (i := 120) (by decide +kernel) rfl
theorem ml_X10_119 : Cond.methodLink RX10 119 yX10_greater ∈ q_tb := q_inT5 (i := 122) (by decide +kernel) rfl
theorem im_X10_greater : Cond.instanceMethod yX10_greater ∈ q_tb := q_inT5 (i := 124) (by decide +kernel) rfl
theorem ml_X10_187 : Cond.methodLink RX10 187 yX10_keepsList ∈ q_tb := q_inT5 (i := 126) (by decide +kernel) rfl
theorem im_X10_keepsList : Cond.instanceMethod yX10_keepsList ∈ q_tb := q_inT5 (i := 128) (by decide +kernel) rfl
theorem ml_X10_194 : Cond.methodLink RX10 194 yX10_sends ∈ q_tb := q_inT5 (i := 130) (by decide +kernel) rfl
theorem im_X10_sends : Cond.instanceMethod yX10_sends ∈ q_tb := q_inT5 (i := 132) (by decide +kernel) rfl
theorem ml_X10_176 : Cond.methodLink RX10 176 yX10_letterOf ∈ q_tb := q_inT5 (i := 134) (by decide +kernel) rfl
theorem sm_X10_letterOf : Cond.static yX10_letterOf ∈ q_tb := q_inT5 (i := 135) (by decide +kernel) rfl
theorem ml_X10_202 : Cond.methodLink RX10 202 yX10_enters ∈ q_tb := q_inT5 (i := 137) (by decide +kernel) rfl
theorem im_X10_enters : Cond.instanceMethod yX10_enters ∈ q_tb := q_inT5 (i := 139) (by decide +kernel) rfl
theorem ml_L_57 : Cond.methodLink RL 57 yX10_beats ∈ q_tb := q_inT5 (i := 141) (by decide +kernel) rfl
theorem im_X10_beats : Cond.instanceMethod yX10_beats ∈ q_tb := q_inT5 (i := 142) (by decide +kernel) rfl
theorem se_X10_beats : Cond.selects yX10_beats.cls yX10_beats yX10_beats ∈ q_tb := q_inT5 (i := 143) (by decide +kernel) rfl
theorem ml_X10_206 : Cond.methodLink RX10 206 yX10_beatsOne ∈ q_tb := q_inT5 (i := 145) (by decide +kernel) rfl
theorem im_X10_beatsOne : Cond.instanceMethod yX10_beatsOne ∈ q_tb := q_inT5 (i := 147) (by decide +kernel) rfl
theorem ml_L_62 : Cond.methodLink RL 62 yX10_comes ∈ q_tb := q_inT5 (i := 149) (by decide +kernel) rfl
theorem im_X10_comes : Cond.instanceMethod yX10_comes ∈ q_tb := q_inT5 (i := 150) (by decide +kernel) rfl
theorem se_X10_comes : Cond.selects yX10_comes.cls yX10_comes yX10_comes ∈ q_tb := q_inT5 (i := 151) (by decide +kernel) rfl
theorem ml_X10_232 : Cond.methodLink RX10 232 yX10_comesOne ∈ q_tb := q_inT5 (i := 153) (by decide +kernel) rfl
theorem im_X10_comesOne : Cond.instanceMethod yX10_comesOne ∈ q_tb := q_inT5 (i := 155) (by decide +kernel) rfl
theorem ml_X10_223 : Cond.methodLink RX10 223 yX10_areTwo ∈ q_tb := q_inT5 (i := 157) (by decide +kernel) rfl
theorem sm_X10_areTwo : Cond.static yX10_areTwo ∈ q_tb := q_inT5 (i := 158) (by decide +kernel) rfl
theorem ml_X10_122 : Cond.methodLink RX10 122 yX10_isMove ∈ q_tb := q_inT5 (i := 160) (by decide +kernel) rfl
theorem im_X10_isMove : Cond.instanceMethod yX10_isMove ∈ q_tb := q_inT5 (i := 162) (by decide +kernel) rfl
theorem ml_X10_226 : Cond.methodLink RX10 226 yX10_tries ∈ q_tb := q_inT5 (i := 164) (by decide +kernel) rfl
theorem im_X10_tries : Cond.instanceMethod yX10_tries ∈ q_tb := q_inT5 (i := 166) (by decide +kernel) rfl
theorem ml_X10_217 : Cond.methodLink RX10 217 yX10_putsLetter ∈ q_tb := q_inT5 (i := 168) (by decide +kernel) rfl
theorem im_X10_putsLetter : Cond.instanceMethod yX10_putsLetter ∈ q_tb := q_inT5 (i := 170) (by decide +kernel) rfl
theorem ml_X10_152 : Cond.methodLink RX10 152 yX10_otherSet ∈ q_tb := q_inT5 (i := 172) (by decide +kernel) rfl
theorem im_X10_otherSet : Cond.instanceMethod yX10_otherSet ∈ q_tb := q_inT5 (i := 174) (by decide +kernel) rfl
theorem ml_X10_229 : Cond.methodLink RX10 229 yX10_hears ∈ q_tb := q_inT5 (i := 176) (by decide +kernel) rfl
theorem im_X10_hears : Cond.instanceMethod yX10_hears ∈ q_tb := q_inT5 (i := 178) (by decide +kernel) rfl
theorem ml_X10_209 : Cond.methodLink RX10 209 Lib.Math.max.name ∈ q_tb := q_inT5 (i := 180) (by decide +kernel) rfl
theorem ml_L_126 : Cond.methodLink RL 126 yX10_late ∈ q_tb := q_inT5 (i := 181) (by decide +kernel) rfl
theorem im_X10_late : Cond.instanceMethod yX10_late ∈ q_tb := q_inT5 (i := 182) (by decide +kernel) rfl
theorem se_X10_late : Cond.selects yX10_late.cls yX10_late yX10_late ∈ q_tb := q_inT5 (i := 183) (by decide +kernel) rfl
theorem ml_L_66 : Cond.methodLink RL 66 yX10_gathers ∈ q_tb := q_inT5 (i := 185) (by decide +kernel) rfl
theorem im_X10_gathers : Cond.instanceMethod yX10_gathers ∈ q_tb := q_inT5 (i := 186) (by decide +kernel) rfl
theorem se_X10_gathers : Cond.selects yX10_gathers.cls yX10_gathers yX10_gathers ∈ q_tb := q_inT5 (i := 187) (by decide +kernel) rfl
theorem ml_X10_247 : Cond.methodLink RX10 247 yX10_gathersOne ∈ q_tb := q_inT5 (i := 189) (by decide +kernel) rfl
theorem im_X10_gathersOne : Cond.instanceMethod yX10_gathersOne ∈ q_tb := q_inT5 (i := 191) (by decide +kernel) rfl
theorem ml_X10_235 : Cond.methodLink RX10 235 yX10_waitingAll ∈ q_tb := q_inT5 (i := 193) (by decide +kernel) rfl
theorem im_X10_waitingAll : Cond.instanceMethod yX10_waitingAll ∈ q_tb := q_inT5 (i := 195) (by decide +kernel) rfl
theorem ml_X10_238 : Cond.methodLink RX10 238 yX10_movesWaiting ∈ q_tb := q_inT5 (i := 197) (by decide +kernel) rfl
theorem im_X10_movesWaiting : Cond.instanceMethod yX10_movesWaiting ∈ q_tb := q_inT5 (i := 199) (by decide +kernel) rfl
theorem ml_X10_241 : Cond.methodLink RX10 241 yX10_undoneAtOnce ∈ q_tb := q_inT5 (i := 201) (by decide +kernel) rfl
theorem im_X10_undoneAtOnce : Cond.instanceMethod yX10_undoneAtOnce ∈ q_tb := q_inT5 (i := 203) (by decide +kernel) rfl
theorem ml_X10_244 : Cond.methodLink RX10 244 yX10_putsWaiting ∈ q_tb := q_inT5 (i := 205) (by decide +kernel) rfl
theorem im_X10_putsWaiting : Cond.instanceMethod yX10_putsWaiting ∈ q_tb := q_inT5 (i := 207) (by decide +kernel) rfl
theorem ml_L_70 : Cond.methodLink RL 70 yX10_cuts ∈ q_tb := q_inT5 (i := 209) (by decide +kernel) rfl
theorem im_X10_cuts : Cond.instanceMethod yX10_cuts ∈ q_tb := q_inT5 (i := 210) (by decide +kernel) rfl
theorem se_X10_cuts : Cond.selects yX10_cuts.cls yX10_cuts yX10_cuts ∈ q_tb := q_inT5 (i := 211) (by decide +kernel) rfl
theorem ml_X10_260 : Cond.methodLink RX10 260 yX10_cutsOne ∈ q_tb := q_inT5 (i := 213) (by decide +kernel) rfl
theorem im_X10_cutsOne : Cond.instanceMethod yX10_cutsOne ∈ q_tb := q_inT5 (i := 215) (by decide +kernel) rfl
theorem ml_X10_257 : Cond.methodLink RX10 257 yX10_cutMany ∈ q_tb := q_inT5 (i := 217) (by decide +kernel) rfl
theorem im_X10_cutMany : Cond.instanceMethod yX10_cutMany ∈ q_tb := q_inT5 (i := 219) (by decide +kernel) rfl
theorem ml_X10_254 : Cond.methodLink RX10 254 yX10_stableOf ∈ q_tb := q_inT5 (i := 221) (by decide +kernel) rfl
theorem im_X10_stableOf : Cond.instanceMethod yX10_stableOf ∈ q_tb := q_inT5 (i := 223) (by decide +kernel) rfl
theorem ct_X10_250 : Cond.constant RX10 250 (1000000) ∈ q_tb := q_inT5 (i := 225) (by decide +kernel) rfl
theorem ml_X10_251 : Cond.methodLink RX10 251 Lib.Math.min.name ∈ q_tb := q_inT5 (i := 226) (by decide +kernel) rfl
theorem ml_L_74 : Cond.methodLink RL 74 yX10_day ∈ q_tb := q_inT5 (i := 227) (by decide +kernel) rfl
theorem im_X10_day : Cond.instanceMethod yX10_day ∈ q_tb := q_inT5 (i := 228) (by decide +kernel) rfl
theorem se_X10_day : Cond.selects yX10_day.cls yX10_day yX10_day ∈ q_tb := q_inT5 (i := 229) (by decide +kernel) rfl
theorem ml_X10_278 : Cond.methodLink RX10 278 yX10_reads ∈ q_tb := q_inT5 (i := 231) (by decide +kernel) rfl
theorem im_X10_reads : Cond.instanceMethod yX10_reads ∈ q_tb := q_inT5 (i := 233) (by decide +kernel) rfl
theorem ml_X10_281 : Cond.methodLink RX10 281 yX10_readsAct ∈ q_tb := q_inT5 (i := 235) (by decide +kernel) rfl
theorem im_X10_readsAct : Cond.instanceMethod yX10_readsAct ∈ q_tb := q_inT5 (i := 237) (by decide +kernel) rfl
theorem ml_X10_265 : Cond.methodLink RX10 265 yX10_takesOf ∈ q_tb := q_inT6 (i := 0) (by decide +kernel) rfl
theorem im_X10_takesOf : Cond.instanceMethod yX10_takesOf ∈ q_tb := q_inT6 (i := 2) (by decide +kernel) rfl
theorem ml_X10_31 : Cond.methodLink RX10 31 yJ0_length_8abf5 ∈ q_tb := q_inT6 (i := 4) (by decide +kernel) rfl
theorem im_J0_length_8abf5 : Cond.instanceMethod yJ0_length_8abf5 ∈ q_tb := q_inT6 (i := 5) (by decide +kernel) rfl
theorem se_J0_length_8abf5 : Cond.selects yJ0_length_8abf5.cls yJ0_length_8abf5 yJ0_length_8abf5 ∈ q_tb := q_inT6 (i := 6) (by decide +kernel) rfl
theorem ml_J0_335 : Cond.methodLink RJ0 335 yJ0_coder_7d493 ∈ q_tb := q_inT6 (i := 8) (by decide +kernel) rfl
theorem im_J0_coder_7d493 : Cond.instanceMethod yJ0_coder_7d493 ∈ q_tb := q_inT6 (i := 9) (by decide +kernel) rfl
theorem se_J0_coder_7d493 : Cond.selects yJ0_coder_7d493.cls yJ0_coder_7d493 yJ0_coder_7d493 ∈ q_tb := q_inT6 (i := 10) (by decide +kernel) rfl
theorem ml_X10_37 : Cond.methodLink RX10 37 yJ0_charAt_5068e ∈ q_tb := q_inT6 (i := 14) (by decide +kernel) rfl
theorem im_J0_charAt_5068e : Cond.instanceMethod yJ0_charAt_5068e ∈ q_tb := q_inT6 (i := 15) (by decide +kernel) rfl
theorem se_J0_charAt_5068e : Cond.selects yJ0_charAt_5068e.cls yJ0_charAt_5068e yJ0_charAt_5068e ∈ q_tb := q_inT6 (i := 16) (by decide +kernel) rfl
theorem ml_J0_492 : Cond.methodLink RJ0 492 yJ0_isLatin1_aae02 ∈ q_tb := q_inT6 (i := 18) (by decide +kernel) rfl
theorem im_J0_isLatin1_aae02 : Cond.instanceMethod yJ0_isLatin1_aae02 ∈ q_tb := q_inT6 (i := 19) (by decide +kernel) rfl
theorem se_J0_isLatin1_aae02 : Cond.selects yJ0_isLatin1_aae02.cls yJ0_isLatin1_aae02 yJ0_isLatin1_aae02 ∈ q_tb := q_inT6 (i := 20) (by decide +kernel) rfl
theorem ml_J0_495 : Cond.methodLink RJ0 495 yJ1_charAt_3b067 ∈ q_tb := q_inT6 (i := 22) (by decide +kernel) rfl
theorem sm_J1_charAt_3b067 : Cond.static yJ1_charAt_3b067 ∈ q_tb := q_inT6 (i := 23) (by decide +kernel) rfl
theorem ml_J1_9 : Cond.methodLink RJ1 9 yJ0_checkIndex_df160 ∈ q_tb := q_inT6 (i := 25) (by decide +kernel) rfl
theorem sm_J0_checkIndex_df160 : Cond.static yJ0_checkIndex_df160 ∈ q_tb := q_inT6 (i := 26) (by decide +kernel) rfl
theorem ml_J0_1059 : Cond.methodLink RJ0 1059 yJ3_checkIndex_8e157 ∈ q_tb := q_inT6 (i := 30) (by decide +kernel) rfl
theorem sm_J3_checkIndex_8e157 : Cond.static yJ3_checkIndex_8e157 ∈ q_tb := q_inT6 (i := 31) (by decide +kernel) rfl
theorem ml_J0_498 : Cond.methodLink RJ0 498 yJ2_charAt_3b067 ∈ q_tb := q_inT6 (i := 33) (by decide +kernel) rfl
theorem sm_J2_charAt_3b067 : Cond.static yJ2_charAt_3b067 ∈ q_tb := q_inT6 (i := 34) (by decide +kernel) rfl
theorem ml_J2_67 : Cond.methodLink RJ2 67 yJ2_checkIndex_2214a ∈ q_tb := q_inT6 (i := 36) (by decide +kernel) rfl
theorem sm_J2_checkIndex_2214a : Cond.static yJ2_checkIndex_2214a ∈ q_tb := q_inT6 (i := 37) (by decide +kernel) rfl
theorem ml_J2_48 : Cond.methodLink RJ2 48 yJ2_length_9d52b ∈ q_tb := q_inT6 (i := 39) (by decide +kernel) rfl
theorem sm_J2_length_9d52b : Cond.static yJ2_length_9d52b ∈ q_tb := q_inT6 (i := 40) (by decide +kernel) rfl
theorem ml_J2_414 : Cond.methodLink RJ2 414 yJ0_checkIndex_df160 ∈ q_tb := q_inT6 (i := 42) (by decide +kernel) rfl
theorem ml_J2_71 : Cond.methodLink RJ2 71 yJ2_getChar_3b067 ∈ q_tb := q_inT6 (i := 43) (by decide +kernel) rfl
theorem sm_J2_getChar_3b067 : Cond.static yJ2_getChar_3b067 ∈ q_tb := q_inT6 (i := 44) (by decide +kernel) rfl
theorem ml_X10_273 : Cond.methodLink RX10 273 yX10_readsParent ∈ q_tb := q_inT6 (i := 54) (by decide +kernel) rfl
theorem im_X10_readsParent : Cond.instanceMethod yX10_readsParent ∈ q_tb := q_inT6 (i := 56) (by decide +kernel) rfl
theorem ml_X10_284 : Cond.methodLink RX10 284 yX10_doesAct ∈ q_tb := q_inT6 (i := 59) (by decide +kernel) rfl
theorem im_X10_doesAct : Cond.instanceMethod yX10_doesAct ∈ q_tb := q_inT6 (i := 61) (by decide +kernel) rfl
theorem ac_byte : Cond.arrayClass .byte ∈ q_tb := q_inT6 (i := 63) (by decide +kernel) rfl
theorem ml_L_78 : Cond.methodLink RL 78 yX10_letters ∈ q_tb := q_inT6 (i := 64) (by decide +kernel) rfl
theorem im_X10_letters : Cond.instanceMethod yX10_letters ∈ q_tb := q_inT6 (i := 65) (by decide +kernel) rfl
theorem se_X10_letters : Cond.selects yX10_letters.cls yX10_letters yX10_letters ∈ q_tb := q_inT6 (i := 66) (by decide +kernel) rfl
theorem ml_L_82 : Cond.methodLink RL 82 yX10_stable ∈ q_tb := q_inT6 (i := 68) (by decide +kernel) rfl
theorem im_X10_stable : Cond.instanceMethod yX10_stable ∈ q_tb := q_inT6 (i := 69) (by decide +kernel) rfl
theorem se_X10_stable : Cond.selects yX10_stable.cls yX10_stable yX10_stable ∈ q_tb := q_inT6 (i := 70) (by decide +kernel) rfl
theorem ml_L_86 : Cond.methodLink RL 86 yX10_voids ∈ q_tb := q_inT6 (i := 72) (by decide +kernel) rfl
theorem im_X10_voids : Cond.instanceMethod yX10_voids ∈ q_tb := q_inT6 (i := 73) (by decide +kernel) rfl
theorem se_X10_voids : Cond.selects yX10_voids.cls yX10_voids yX10_voids ∈ q_tb := q_inT6 (i := 74) (by decide +kernel) rfl
theorem ml_X10_155 : Cond.methodLink RX10 155 yX10_bitsOf ∈ q_tb := q_inT6 (i := 76) (by decide +kernel) rfl
theorem sm_X10_bitsOf : Cond.static yX10_bitsOf ∈ q_tb := q_inT6 (i := 77) (by decide +kernel) rfl
theorem ml_L_90 : Cond.methodLink RL 90 yX10_below ∈ q_tb := q_inT6 (i := 79) (by decide +kernel) rfl
theorem im_X10_below : Cond.instanceMethod yX10_below ∈ q_tb := q_inT6 (i := 80) (by decide +kernel) rfl
theorem se_X10_below : Cond.selects yX10_below.cls yX10_below yX10_below ∈ q_tb := q_inT6 (i := 81) (by decide +kernel) rfl
theorem ml_X10_287 : Cond.methodLink RX10 287 yX10_asked ∈ q_tb := q_inT6 (i := 83) (by decide +kernel) rfl
theorem im_X10_asked : Cond.instanceMethod yX10_asked ∈ q_tb := q_inT6 (i := 85) (by decide +kernel) rfl
theorem ml_X10_290 : Cond.methodLink RX10 290 yX10_allBelow ∈ q_tb := q_inT6 (i := 87) (by decide +kernel) rfl
theorem im_X10_allBelow : Cond.instanceMethod yX10_allBelow ∈ q_tb := q_inT6 (i := 89) (by decide +kernel) rfl
theorem ml_X10_293 : Cond.methodLink RX10 293 yX10_rightBelow ∈ q_tb := q_inT6 (i := 91) (by decide +kernel) rfl
theorem im_X10_rightBelow : Cond.instanceMethod yX10_rightBelow ∈ q_tb := q_inT6 (i := 93) (by decide +kernel) rfl
theorem ml_L_94 : Cond.methodLink RL 94 yX10_depth ∈ q_tb := q_inT6 (i := 95) (by decide +kernel) rfl
theorem im_X10_depth : Cond.instanceMethod yX10_depth ∈ q_tb := q_inT6 (i := 96) (by decide +kernel) rfl
theorem se_X10_depth : Cond.selects yX10_depth.cls yX10_depth yX10_depth ∈ q_tb := q_inT6 (i := 97) (by decide +kernel) rfl
theorem ml_X10_296 : Cond.methodLink RX10 296 yX10_topOf ∈ q_tb := q_inT6 (i := 99) (by decide +kernel) rfl
theorem im_X10_topOf : Cond.instanceMethod yX10_topOf ∈ q_tb := q_inT6 (i := 101) (by decide +kernel) rfl
theorem ml_X10_299 : Cond.methodLink RX10 299 yX10_stepsUp ∈ q_tb := q_inT6 (i := 103) (by decide +kernel) rfl
theorem im_X10_stepsUp : Cond.instanceMethod yX10_stepsUp ∈ q_tb := q_inT6 (i := 105) (by decide +kernel) rfl
theorem ml_L_98 : Cond.methodLink RL 98 yX10_meets ∈ q_tb := q_inT6 (i := 107) (by decide +kernel) rfl
theorem im_X10_meets : Cond.instanceMethod yX10_meets ∈ q_tb := q_inT6 (i := 108) (by decide +kernel) rfl
theorem se_X10_meets : Cond.selects yX10_meets.cls yX10_meets yX10_meets ∈ q_tb := q_inT6 (i := 109) (by decide +kernel) rfl
theorem ml_L_102 : Cond.methodLink RL 102 yX10_places ∈ q_tb := q_inT6 (i := 111) (by decide +kernel) rfl
theorem im_X10_places : Cond.instanceMethod yX10_places ∈ q_tb := q_inT6 (i := 112) (by decide +kernel) rfl
theorem se_X10_places : Cond.selects yX10_places.cls yX10_places yX10_places ∈ q_tb := q_inT6 (i := 113) (by decide +kernel) rfl
theorem ml_L_106 : Cond.methodLink RL 106 yX10_total ∈ q_tb := q_inT6 (i := 115) (by decide +kernel) rfl
theorem im_X10_total : Cond.instanceMethod yX10_total ∈ q_tb := q_inT6 (i := 116) (by decide +kernel) rfl
theorem se_X10_total : Cond.selects yX10_total.cls yX10_total yX10_total ∈ q_tb := q_inT6 (i := 117) (by decide +kernel) rfl
theorem ml_X10_302 : Cond.methodLink RX10 302 yX10_has ∈ q_tb := q_inT6 (i := 119) (by decide +kernel) rfl
theorem sm_X10_has : Cond.static yX10_has ∈ q_tb := q_inT6 (i := 120) (by decide +kernel) rfl
theorem ml_X10_305 : Cond.methodLink RX10 305 yX10_worth ∈ q_tb := q_inT6 (i := 122) (by decide +kernel) rfl
theorem im_X10_worth : Cond.instanceMethod yX10_worth ∈ q_tb := q_inT6 (i := 124) (by decide +kernel) rfl
theorem ml_L_110 : Cond.methodLink RL 110 yX10_lists ∈ q_tb := q_inT6 (i := 126) (by decide +kernel) rfl
theorem im_X10_lists : Cond.instanceMethod yX10_lists ∈ q_tb := q_inT6 (i := 127) (by decide +kernel) rfl
theorem se_X10_lists : Cond.selects yX10_lists.cls yX10_lists yX10_lists ∈ q_tb := q_inT6 (i := 128) (by decide +kernel) rfl
theorem cL_X10_314 : Cond.constantLong RX10 314 (3) ∈ q_tb := q_inT6 (i := 130) (by decide +kernel) rfl
theorem ml_X10_311 : Cond.methodLink RX10 311 yX10_tells ∈ q_tb := q_inT6 (i := 131) (by decide +kernel) rfl
theorem im_X10_tells : Cond.instanceMethod yX10_tells ∈ q_tb := q_inT6 (i := 133) (by decide +kernel) rfl
theorem ml_X10_308 : Cond.methodLink RX10 308 yX10_isAhead ∈ q_tb := q_inT6 (i := 135) (by decide +kernel) rfl
theorem im_X10_isAhead : Cond.instanceMethod yX10_isAhead ∈ q_tb := q_inT6 (i := 137) (by decide +kernel) rfl
theorem ml_L_114 : Cond.methodLink RL 114 yX10_finds ∈ q_tb := q_inT6 (i := 139) (by decide +kernel) rfl
theorem im_X10_finds : Cond.instanceMethod yX10_finds ∈ q_tb := q_inT6 (i := 140) (by decide +kernel) rfl
theorem se_X10_finds : Cond.selects yX10_finds.cls yX10_finds yX10_finds ∈ q_tb := q_inT6 (i := 141) (by decide +kernel) rfl
theorem ml_X10_318 : Cond.methodLink RX10 318 yX10_child ∈ q_tb := q_inT6 (i := 144) (by decide +kernel) rfl
theorem im_X10_child : Cond.instanceMethod yX10_child ∈ q_tb := q_inT6 (i := 146) (by decide +kernel) rfl
theorem ml_L_118 : Cond.methodLink RL 118 yX10_path ∈ q_tb := q_inT6 (i := 148) (by decide +kernel) rfl
theorem im_X10_path : Cond.instanceMethod yX10_path ∈ q_tb := q_inT6 (i := 149) (by decide +kernel) rfl
theorem se_X10_path : Cond.selects yX10_path.cls yX10_path yX10_path ∈ q_tb := q_inT6 (i := 150) (by decide +kernel) rfl
theorem ml_X10_323 : Cond.methodLink RX10 323 yX10_entersPath ∈ q_tb := q_inT6 (i := 152) (by decide +kernel) rfl
theorem im_X10_entersPath : Cond.instanceMethod yX10_entersPath ∈ q_tb := q_inT6 (i := 154) (by decide +kernel) rfl
theorem cL_X10_321 : Cond.constantLong RX10 321 (126) ∈ q_tb := q_inT6 (i := 156) (by decide +kernel) rfl
theorem cL_X10_326 : Cond.constantLong RX10 326 (47) ∈ q_tb := q_inT6 (i := 157) (by decide +kernel) rfl
theorem cL_X10_328 : Cond.constantLong RX10 328 (46) ∈ q_tb := q_inT6 (i := 158) (by decide +kernel) rfl
theorem ml_L_122 : Cond.methodLink RL 122 yX10_apart ∈ q_tb := q_inT6 (i := 159) (by decide +kernel) rfl
theorem im_X10_apart : Cond.instanceMethod yX10_apart ∈ q_tb := q_inT6 (i := 160) (by decide +kernel) rfl
theorem se_X10_apart : Cond.selects yX10_apart.cls yX10_apart yX10_apart ∈ q_tb := q_inT6 (i := 161) (by decide +kernel) rfl
theorem ml_X10_330 : Cond.methodLink RX10 330 yX10_other ∈ q_tb := q_inT6 (i := 163) (by decide +kernel) rfl
theorem im_X10_other : Cond.instanceMethod yX10_other ∈ q_tb := q_inT6 (i := 165) (by decide +kernel) rfl
theorem ml_L_130 : Cond.methodLink RL 130 yX10_then ∈ q_tb := q_inT6 (i := 167) (by decide +kernel) rfl
theorem im_X10_then : Cond.instanceMethod yX10_then ∈ q_tb := q_inT6 (i := 168) (by decide +kernel) rfl
theorem se_X10_then : Cond.selects yX10_then.cls yX10_then yX10_then ∈ q_tb := q_inT6 (i := 169) (by decide +kernel) rfl
theorem ml_X10_333 : Cond.methodLink RX10 333 yX10_folders ∈ q_tb := q_inT6 (i := 171) (by decide +kernel) rfl
theorem im_X10_folders : Cond.instanceMethod yX10_folders ∈ q_tb := q_inT6 (i := 173) (by decide +kernel) rfl
theorem ml_L_134 : Cond.methodLink RL 134 yX10_worst ∈ q_tb := q_inT6 (i := 175) (by decide +kernel) rfl
theorem im_X10_worst : Cond.instanceMethod yX10_worst ∈ q_tb := q_inT6 (i := 176) (by decide +kernel) rfl
theorem se_X10_worst : Cond.selects yX10_worst.cls yX10_worst yX10_worst ∈ q_tb := q_inT6 (i := 177) (by decide +kernel) rfl
theorem ml_X10_336 : Cond.methodLink RX10 336 yX10_third ∈ q_tb := q_inT6 (i := 179) (by decide +kernel) rfl
theorem sm_X10_third : Cond.static yX10_third ∈ q_tb := q_inT6 (i := 180) (by decide +kernel) rfl
theorem ml_X10_339 : Cond.methodLink RX10 339 yX10_undoes ∈ q_tb := q_inT6 (i := 182) (by decide +kernel) rfl
theorem im_X10_undoes : Cond.instanceMethod yX10_undoes ∈ q_tb := q_inT6 (i := 184) (by decide +kernel) rfl
theorem ml_L_138 : Cond.methodLink RL 138 yX10_frees ∈ q_tb := q_inT6 (i := 186) (by decide +kernel) rfl
theorem im_X10_frees : Cond.instanceMethod yX10_frees ∈ q_tb := q_inT6 (i := 187) (by decide +kernel) rfl
theorem se_X10_frees : Cond.selects yX10_frees.cls yX10_frees yX10_frees ∈ q_tb := q_inT6 (i := 188) (by decide +kernel) rfl
theorem ml_L_142 : Cond.methodLink RL 142 yX10_idle ∈ q_tb := q_inT6 (i := 190) (by decide +kernel) rfl
theorem im_X10_idle : Cond.instanceMethod yX10_idle ∈ q_tb := q_inT6 (i := 191) (by decide +kernel) rfl
theorem se_X10_idle : Cond.selects yX10_idle.cls yX10_idle yX10_idle ∈ q_tb := q_inT6 (i := 192) (by decide +kernel) rfl
theorem ml_X10_343 : Cond.methodLink RX10 343 yX10_areLike ∈ q_tb := q_inT6 (i := 194) (by decide +kernel) rfl
theorem im_X10_areLike : Cond.instanceMethod yX10_areLike ∈ q_tb := q_inT6 (i := 196) (by decide +kernel) rfl
theorem ml_L_146 : Cond.methodLink RL 146 yX10_nearest ∈ q_tb := q_inT6 (i := 198) (by decide +kernel) rfl
theorem im_X10_nearest : Cond.instanceMethod yX10_nearest ∈ q_tb := q_inT6 (i := 199) (by decide +kernel) rfl
theorem se_X10_nearest : Cond.selects yX10_nearest.cls yX10_nearest yX10_nearest ∈ q_tb := q_inT6 (i := 200) (by decide +kernel) rfl
theorem ml_X10_346 : Cond.methodLink RX10 346 yX10_laysBehind ∈ q_tb := q_inT6 (i := 202) (by decide +kernel) rfl
theorem im_X10_laysBehind : Cond.instanceMethod yX10_laysBehind ∈ q_tb := q_inT6 (i := 204) (by decide +kernel) rfl
theorem ml_L_150 : Cond.methodLink RL 150 yX10_years ∈ q_tb := q_inT6 (i := 206) (by decide +kernel) rfl
theorem im_X10_years : Cond.instanceMethod yX10_years ∈ q_tb := q_inT6 (i := 207) (by decide +kernel) rfl
theorem se_X10_years : Cond.selects yX10_years.cls yX10_years yX10_years ∈ q_tb := q_inT6 (i := 208) (by decide +kernel) rfl
theorem cL_X10_357 : Cond.constantLong RX10 357 (40) ∈ q_tb := q_inT6 (i := 210) (by decide +kernel) rfl
theorem ml_X10_359 : Cond.methodLink RX10 359 yX10_copies ∈ q_tb := q_inT6 (i := 211) (by decide +kernel) rfl
theorem im_X10_copies : Cond.instanceMethod yX10_copies ∈ q_tb := q_inT6 (i := 213) (by decide +kernel) rfl
theorem ml_X10_362 : Cond.methodLink RX10 362 yX10_drawnAct ∈ q_tb := q_inT6 (i := 215) (by decide +kernel) rfl
theorem im_X10_drawnAct : Cond.instanceMethod yX10_drawnAct ∈ q_tb := q_inT6 (i := 217) (by decide +kernel) rfl
theorem ml_X10_354 : Cond.methodLink RX10 354 yX10_draws ∈ q_tb := q_inT6 (i := 219) (by decide +kernel) rfl
theorem im_X10_draws : Cond.instanceMethod yX10_draws ∈ q_tb := q_inT6 (i := 221) (by decide +kernel) rfl
theorem ct_X10_353 : Cond.constant RX10 353 (1103515245) ∈ q_tb := q_inT6 (i := 223) (by decide +kernel) rfl
theorem ml_X10_365 : Cond.methodLink RX10 365 yX10_lettersAll ∈ q_tb := q_inT6 (i := 224) (by decide +kernel) rfl
theorem im_X10_lettersAll : Cond.instanceMethod yX10_lettersAll ∈ q_tb := q_inT6 (i := 226) (by decide +kernel) rfl
theorem ml_L_154 : Cond.methodLink RL 154 yX10_keep ∈ q_tb := q_inT6 (i := 228) (by decide +kernel) rfl
theorem im_X10_keep : Cond.instanceMethod yX10_keep ∈ q_tb := q_inT6 (i := 229) (by decide +kernel) rfl
theorem se_X10_keep : Cond.selects yX10_keep.cls yX10_keep yX10_keep ∈ q_tb := q_inT6 (i := 230) (by decide +kernel) rfl
theorem ml_L_158 : Cond.methodLink RL 158 yX10_again ∈ q_tb := q_inT6 (i := 232) (by decide +kernel) rfl
theorem im_X10_again : Cond.instanceMethod yX10_again ∈ q_tb := q_inT6 (i := 233) (by decide +kernel) rfl
theorem se_X10_again : Cond.selects yX10_again.cls yX10_again yX10_again ∈ q_tb := q_inT6 (i := 234) (by decide +kernel) rfl
theorem ml_L_162 : Cond.methodLink RL 162 yX10_count ∈ q_tb := q_inT6 (i := 236) (by decide +kernel) rfl
theorem im_X10_count : Cond.instanceMethod yX10_count ∈ q_tb := q_inT6 (i := 237) (by decide +kernel) rfl
theorem se_X10_count : Cond.selects yX10_count.cls yX10_count yX10_count ∈ q_tb := q_inT6 (i := 238) (by decide +kernel) rfl
theorem ml_L_166 : Cond.methodLink RL 166 yX10_row ∈ q_tb := q_inT7 (i := 0) (by decide +kernel) rfl
theorem im_X10_row : Cond.instanceMethod yX10_row ∈ q_tb := q_inT7 (i := 1) (by decide +kernel) rfl
theorem se_X10_row : Cond.selects yX10_row.cls yX10_row yX10_row ∈ q_tb := q_inT7 (i := 2) (by decide +kernel) rfl
theorem se_X8_hasFullWay : Cond.selects yX8_hasFullWay.cls yX8_hasFullWay yX8_hasFullWay ∈ q_tb := q_inP (i := 0) (by decide +kernel) rfl
theorem se_X8_send : Cond.selects yX8_send.cls yX8_send yX8_send ∈ q_tb := q_inP (i := 1) (by decide +kernel) rfl
theorem se_X9_wrongSignOfDay : Cond.selects yX9_wrongSignOfDay.cls yX9_wrongSignOfDay yX9_wrongSignOfDay ∈ q_tb := q_inP (i := 2) (by decide +kernel) rfl
theorem se_X9_doAct : Cond.selects yX9_doAct.cls yX9_doAct yX9_doAct ∈ q_tb := q_inP (i := 3) (by decide +kernel) rfl
theorem se_X9_tellSet : Cond.selects yX9_tellSet.cls yX9_tellSet yX9_tellSet ∈ q_tb := q_inP (i := 4) (by decide +kernel) rfl
theorem se_X9_refusalOf : Cond.selects yX9_refusalOf.cls yX9_refusalOf yX9_refusalOf ∈ q_tb := q_inP (i := 5) (by decide +kernel) rfl
theorem se_X9_wrongSignOfPath : Cond.selects yX9_wrongSignOfPath.cls yX9_wrongSignOfPath yX9_wrongSignOfPath ∈ q_tb := q_inP (i := 6) (by decide +kernel) rfl
theorem se_X9_firstStep : Cond.selects yX9_firstStep.cls yX9_firstStep yX9_firstStep ∈ q_tb := q_inP (i := 7) (by decide +kernel) rfl
theorem se_X9_behindStep : Cond.selects yX9_behindStep.cls yX9_behindStep yX9_behindStep ∈ q_tb := q_inP (i := 8) (by decide +kernel) rfl
theorem se_X9_nodeAtPath : Cond.selects yX9_nodeAtPath.cls yX9_nodeAtPath yX9_nodeAtPath ∈ q_tb := q_inP (i := 9) (by decide +kernel) rfl
theorem se_X9_addStep : Cond.selects yX9_addStep.cls yX9_addStep yX9_addStep ∈ q_tb := q_inP (i := 10) (by decide +kernel) rfl
theorem se_X3_step : Cond.selects yX3_step.cls yX3_step yX3_step ∈ q_tb := q_inP (i := 11) (by decide +kernel) rfl
theorem se_X2_grow : Cond.selects yX2_grow.cls yX2_grow yX2_grow ∈ q_tb := q_inP (i := 12) (by decide +kernel) rfl
theorem se_X2_compare : Cond.selects yX2_compare.cls yX2_compare yX2_compare ∈ q_tb := q_inP (i := 13) (by decide +kernel) rfl
theorem se_X9_drawAct : Cond.selects yX9_drawAct.cls yX9_drawAct yX9_drawAct ∈ q_tb := q_inP (i := 14) (by decide +kernel) rfl
theorem se_X9_draw : Cond.selects yX9_draw.cls yX9_draw yX9_draw ∈ q_tb := q_inP (i := 15) (by decide +kernel) rfl
theorem se_X10_lays : Cond.selects yX10_lays.cls yX10_lays yX10_lays ∈ q_tb := q_inP (i := 17) (by decide +kernel) rfl
theorem se_X10_loads : Cond.selects yX10_loads.cls yX10_loads yX10_loads ∈ q_tb := q_inP (i := 18) (by decide +kernel) rfl
theorem se_X10_grows : Cond.selects yX10_grows.cls yX10_grows yX10_grows ∈ q_tb := q_inP (i := 19) (by decide +kernel) rfl
theorem se_X10_canGo : Cond.selects yX10_canGo.cls yX10_canGo yX10_canGo ∈ q_tb := q_inP (i := 20) (by decide +kernel) rfl
theorem se_X10_isThere : Cond.selects yX10_isThere.cls yX10_isThere yX10_isThere ∈ q_tb := q_inP (i := 21) (by decide +kernel) rfl
theorem se_X10_its : Cond.selects yX10_its.cls yX10_its yX10_its ∈ q_tb := q_inP (i := 22) (by decide +kernel) rfl
theorem se_X10_isUnder : Cond.selects yX10_isUnder.cls yX10_isUnder yX10_isUnder ∈ q_tb := q_inP (i := 23) (by decide +kernel) rfl
theorem se_X10_rank : Cond.selects yX10_rank.cls yX10_rank yX10_rank ∈ q_tb := q_inP (i := 24) (by decide +kernel) rfl
theorem se_X10_makesOne : Cond.selects yX10_makesOne.cls yX10_makesOne yX10_makesOne ∈ q_tb := q_inP (i := 25) (by decide +kernel) rfl
theorem se_X10_areFull : Cond.selects yX10_areFull.cls yX10_areFull yX10_areFull ∈ q_tb := q_inP (i := 26) (by decide +kernel) rfl
theorem se_X10_waiting : Cond.selects yX10_waiting.cls yX10_waiting yX10_waiting ∈ q_tb := q_inP (i := 27) (by decide +kernel) rfl
theorem se_X10_puts : Cond.selects yX10_puts.cls yX10_puts yX10_puts ∈ q_tb := q_inP (i := 28) (by decide +kernel) rfl
theorem se_X10_greater : Cond.selects yX10_greater.cls yX10_greater yX10_greater ∈ q_tb := q_inP (i := 29) (by decide +kernel) rfl
theorem se_X10_keepsList : Cond.selects yX10_keepsList.cls yX10_keepsList yX10_keepsList ∈ q_tb := q_inP (i := 30) (by decide +kernel) rfl
theorem se_X10_sends : Cond.selects yX10_sends.cls yX10_sends yX10_sends ∈ q_tb := q_inP (i := 31) (by decide +kernel) rfl
theorem se_X10_enters : Cond.selects yX10_enters.cls yX10_enters yX10_enters ∈ q_tb := q_inP (i := 32) (by decide +kernel) rfl
theorem se_X10_beatsOne : Cond.selects yX10_beatsOne.cls yX10_beatsOne yX10_beatsOne ∈ q_tb := q_inP (i := 33) (by decide +kernel) rfl
theorem se_X10_comesOne : Cond.selects yX10_comesOne.cls yX10_comesOne yX10_comesOne ∈ q_tb := q_inP (i := 34) (by decide +kernel) rfl
theorem se_X10_isMove : Cond.selects yX10_isMove.cls yX10_isMove yX10_isMove ∈ q_tb := q_inP (i := 35) (by decide +kernel) rfl
theorem se_X10_tries : Cond.selects yX10_tries.cls yX10_tries yX10_tries ∈ q_tb := q_inP (i := 36) (by decide +kernel) rfl
theorem se_X10_putsLetter : Cond.selects yX10_putsLetter.cls yX10_putsLetter yX10_putsLetter ∈ q_tb := q_inP (i := 37) (by decide +kernel) rfl
theorem se_X10_otherSet : Cond.selects yX10_otherSet.cls yX10_otherSet yX10_otherSet ∈ q_tb := q_inP (i := 38) (by decide +kernel) rfl
theorem se_X10_hears : Cond.selects yX10_hears.cls yX10_hears yX10_hears ∈ q_tb := q_inP (i := 39) (by decide +kernel) rfl
theorem se_X10_gathersOne : Cond.selects yX10_gathersOne.cls yX10_gathersOne yX10_gathersOne ∈ q_tb := q_inP (i := 40) (by decide +kernel) rfl
theorem se_X10_waitingAll : Cond.selects yX10_waitingAll.cls yX10_waitingAll yX10_waitingAll ∈ q_tb := q_inP (i := 41) (by decide +kernel) rfl
theorem se_X10_movesWaiting : Cond.selects yX10_movesWaiting.cls yX10_movesWaiting yX10_movesWaiting ∈ q_tb := q_inP (i := 42) (by decide +kernel) rfl
theorem se_X10_undoneAtOnce : Cond.selects yX10_undoneAtOnce.cls yX10_undoneAtOnce yX10_undoneAtOnce ∈ q_tb := q_inP (i := 43) (by decide +kernel) rfl
theorem se_X10_putsWaiting : Cond.selects yX10_putsWaiting.cls yX10_putsWaiting yX10_putsWaiting ∈ q_tb := q_inP (i := 44) (by decide +kernel) rfl
theorem se_X10_cutsOne : Cond.selects yX10_cutsOne.cls yX10_cutsOne yX10_cutsOne ∈ q_tb := q_inP (i := 45) (by decide +kernel) rfl
theorem se_X10_cutMany : Cond.selects yX10_cutMany.cls yX10_cutMany yX10_cutMany ∈ q_tb := q_inP (i := 46) (by decide +kernel) rfl
theorem se_X10_stableOf : Cond.selects yX10_stableOf.cls yX10_stableOf yX10_stableOf ∈ q_tb := q_inP (i := 47) (by decide +kernel) rfl
theorem se_X10_reads : Cond.selects yX10_reads.cls yX10_reads yX10_reads ∈ q_tb := q_inP (i := 48) (by decide +kernel) rfl
theorem se_X10_readsAct : Cond.selects yX10_readsAct.cls yX10_readsAct yX10_readsAct ∈ q_tb := q_inP (i := 49) (by decide +kernel) rfl
theorem se_X10_takesOf : Cond.selects yX10_takesOf.cls yX10_takesOf yX10_takesOf ∈ q_tb := q_inP (i := 50) (by decide +kernel) rfl
theorem se_X10_readsParent : Cond.selects yX10_readsParent.cls yX10_readsParent yX10_readsParent ∈ q_tb := q_inP (i := 51) (by decide +kernel) rfl
theorem se_X10_doesAct : Cond.selects yX10_doesAct.cls yX10_doesAct yX10_doesAct ∈ q_tb := q_inP (i := 52) (by decide +kernel) rfl
theorem se_X10_asked : Cond.selects yX10_asked.cls yX10_asked yX10_asked ∈ q_tb := q_inP (i := 53) (by decide +kernel) rfl
theorem se_X10_allBelow : Cond.selects yX10_allBelow.cls yX10_allBelow yX10_allBelow ∈ q_tb := q_inP (i := 54) (by decide +kernel) rfl
theorem se_X10_rightBelow : Cond.selects yX10_rightBelow.cls yX10_rightBelow yX10_rightBelow ∈ q_tb := q_inP (i := 55) (by decide +kernel) rfl
theorem se_X10_topOf : Cond.selects yX10_topOf.cls yX10_topOf yX10_topOf ∈ q_tb := q_inP (i := 56) (by decide +kernel) rfl
theorem se_X10_stepsUp : Cond.selects yX10_stepsUp.cls yX10_stepsUp yX10_stepsUp ∈ q_tb := q_inP (i := 57) (by decide +kernel) rfl
theorem se_X10_worth : Cond.selects yX10_worth.cls yX10_worth yX10_worth ∈ q_tb := q_inP (i := 58) (by decide +kernel) rfl
theorem se_X10_tells : Cond.selects yX10_tells.cls yX10_tells yX10_tells ∈ q_tb := q_inP (i := 59) (by decide +kernel) rfl
theorem se_X10_isAhead : Cond.selects yX10_isAhead.cls yX10_isAhead yX10_isAhead ∈ q_tb := q_inP (i := 60) (by decide +kernel) rfl
theorem se_X10_child : Cond.selects yX10_child.cls yX10_child yX10_child ∈ q_tb := q_inP (i := 61) (by decide +kernel) rfl
theorem se_X10_entersPath : Cond.selects yX10_entersPath.cls yX10_entersPath yX10_entersPath ∈ q_tb := q_inP (i := 62) (by decide +kernel) rfl
theorem se_X10_other : Cond.selects yX10_other.cls yX10_other yX10_other ∈ q_tb := q_inP (i := 63) (by decide +kernel) rfl
theorem se_X10_folders : Cond.selects yX10_folders.cls yX10_folders yX10_folders ∈ q_tb := q_inP (i := 64) (by decide +kernel) rfl
theorem se_X10_undoes : Cond.selects yX10_undoes.cls yX10_undoes yX10_undoes ∈ q_tb := q_inP (i := 65) (by decide +kernel) rfl
theorem se_X10_areLike : Cond.selects yX10_areLike.cls yX10_areLike yX10_areLike ∈ q_tb := q_inP (i := 66) (by decide +kernel) rfl
theorem se_X10_laysBehind : Cond.selects yX10_laysBehind.cls yX10_laysBehind yX10_laysBehind ∈ q_tb := q_inP (i := 67) (by decide +kernel) rfl
theorem se_X10_copies : Cond.selects yX10_copies.cls yX10_copies yX10_copies ∈ q_tb := q_inP (i := 68) (by decide +kernel) rfl
theorem se_X10_drawnAct : Cond.selects yX10_drawnAct.cls yX10_drawnAct yX10_drawnAct ∈ q_tb := q_inP (i := 69) (by decide +kernel) rfl
theorem se_X10_draws : Cond.selects yX10_draws.cls yX10_draws yX10_draws ∈ q_tb := q_inP (i := 70) (by decide +kernel) rfl
theorem se_X10_lettersAll : Cond.selects yX10_lettersAll.cls yX10_lettersAll yX10_lettersAll ∈ q_tb := q_inP (i := 71) (by decide +kernel) rfl
theorem ini_Math : Cond.initialized "java/lang/Math" ∈ q_tb := q_inT1 (i := 5) (by decide +kernel) rfl
theorem ini_System : Cond.initialized "java/lang/System" ∈ q_tb := q_inT1 (i := 17) (by decide +kernel) rfl
theorem Y_X0_init : q_Y yX0_init cX0_init 2 none 1 := ⟨q_inT1 (i := 44) (by decide +kernel) rfl, ini_X0, by decide, by decide, by decide +kernel, by decide⟩
theorem Y_X0_copyFrom : q_Y yX0_copyFrom cX0_copyFrom 2 none 1 := ⟨q_inT3 (i := 187) (by decide +kernel) rfl, ini_X0, by decide, by decide, by decide +kernel, by decide⟩
theorem Y_X0_hasMove : q_Y yX0_hasMove cX0_hasMove 2 (some .boolean) 1 := ⟨q_inT4 (i := 2) (by decide +kernel) rfl, ini_X0, by decide, by decide, by decide +kernel, by decide⟩
theorem Y_X0_stableTime : q_Y yX0_stableTime cX0_stableTime 1 (some .int) 0 := ⟨q_inT2 (i := 203) (by decide +kernel) rfl, ini_X0, by decide, by decide, by decide +kernel, by decide⟩
theorem Y_X0_stableMoves : q_Y yX0_stableMoves cX0_stableMoves 3 (some .int) 0 := ⟨q_inT2 (i := 199) (by decide +kernel) rfl, ini_X0, by decide, by decide, by decide +kernel, by decide⟩
theorem Y_X0_hear : q_Y yX0_hear cX0_hear 4 none 2 := ⟨q_inT2 (i := 118) (by decide +kernel) rfl, ini_X0, by decide, by decide, by decide +kernel, by decide⟩
theorem Y_X0_dropStable : q_Y yX0_dropStable cX0_dropStable 3 (some .int) 0 := ⟨q_inT2 (i := 195) (by decide +kernel) rfl, ini_X0, by decide, by decide, by decide +kernel, by decide⟩
theorem Y_X1_of : q_Y yX1_of cX1_of 5 (some .long) 5 := ⟨q_inT2 (i := 36) (by decide +kernel) rfl, ini_X1, by decide, by decide, by decide +kernel, by decide⟩
theorem Y_X1_time : q_Y yX1_time cX1_time 2 (some .int) 1 := ⟨q_inT2 (i := 121) (by decide +kernel) rfl, ini_X1, by decide, by decide, by decide +kernel, by decide⟩
theorem Y_X1_sender : q_Y yX1_sender cX1_sender 2 (some .int) 1 := ⟨q_inT4 (i := 153) (by decide +kernel) rfl, ini_X1, by decide, by decide, by decide +kernel, by decide⟩
theorem Y_X1_folder : q_Y yX1_folder cX1_folder 2 (some .int) 1 := ⟨q_inT2 (i := 43) (by decide +kernel) rfl, ini_X1, by decide, by decide, by decide +kernel, by decide⟩
theorem Y_X1_parent : q_Y yX1_parent cX1_parent 2 (some .int) 1 := ⟨q_inT2 (i := 46) (by decide +kernel) rfl, ini_X1, by decide, by decide, by decide +kernel, by decide⟩
theorem Y_X1_name : q_Y yX1_name cX1_name 2 (some .int) 1 := ⟨q_inT3 (i := 108) (by decide +kernel) rfl, ini_X1, by decide, by decide, by decide +kernel, by decide⟩
theorem Y_X1_hasMove : q_Y yX1_hasMove cX1_hasMove 2 (some .boolean) 1 := ⟨q_inT2 (i := 104) (by decide +kernel) rfl, ini_X1, by decide, by decide, by decide +kernel, by decide⟩
theorem Y_X2_init : q_Y yX2_init cX2_init 2 none 0 := ⟨q_inT1 (i := 178) (by decide +kernel) rfl, ini_X2, by decide, by decide, by decide +kernel, by decide⟩
theorem Y_X2_key : q_Y yX2_key cX2_key 4 (some .int) 4 := ⟨q_inT4 (i := 37) (by decide +kernel) rfl, ini_X2, by decide, by decide, by decide +kernel, by decide⟩
theorem Y_X2_allLetters : q_Y yX2_allLetters cX2_allLetters 1 (some .int) 1 := ⟨q_inT4 (i := 47) (by decide +kernel) rfl, ini_X2, by decide, by decide, by decide +kernel, by decide⟩
theorem Y_X2_lettersOn : q_Y yX2_lettersOn cX2_lettersOn 4 (some .int) 2 := ⟨q_inT4 (i := 44) (by decide +kernel) rfl, ini_X2, by decide, by decide, by decide +kernel, by decide⟩
theorem Y_X2_search : q_Y yX2_search cX2_search 11 (some .int) 3 := ⟨q_inT4 (i := 20) (by decide +kernel) rfl, ini_X2, by decide, by decide, by decide +kernel, by decide⟩
theorem Y_X2_grow : q_Y yX2_grow cX2_grow 7 none 6 := ⟨q_inT4 (i := 26) (by decide +kernel) rfl, ini_X2, by decide, by decide, by decide +kernel, by decide⟩
theorem Y_X2_compare : q_Y yX2_compare cX2_compare 8 none 4 := ⟨q_inT4 (i := 34) (by decide +kernel) rfl, ini_X2, by decide, by decide, by decide +kernel, by decide⟩
theorem Y_X3_init : q_Y yX3_init cX3_init 1 none 0 := ⟨q_inT1 (i := 163) (by decide +kernel) rfl, ini_X3, by decide, by decide, by decide +kernel, by decide⟩
theorem Y_X3_place : q_Y yX3_place cX3_place 2 (some .int) 2 := ⟨q_inT3 (i := 220) (by decide +kernel) rfl, ini_X3, by decide, by decide, by decide +kernel, by decide⟩
theorem Y_X3_weighAll : q_Y yX3_weighAll cX3_weighAll 7 none 3 := ⟨q_inT3 (i := 217) (by decide +kernel) rfl, ini_X3, by decide, by decide, by decide +kernel, by decide⟩
theorem Y_X3_step : q_Y yX3_step cX3_step 4 none 3 := ⟨q_inT3 (i := 232) (by decide +kernel) rfl, ini_X3, by decide, by decide, by decide +kernel, by decide⟩
theorem Y_X3_undoneBy : q_Y yX3_undoneBy cX3_undoneBy 5 (some .int) 4 := ⟨q_inT3 (i := 226) (by decide +kernel) rfl, ini_X3, by decide, by decide, by decide +kernel, by decide⟩
theorem Y_X4_init : q_Y yX4_init cX4_init 1 none 0 := ⟨q_inT1 (i := 130) (by decide +kernel) rfl, ini_X4, by decide, by decide, by decide +kernel, by decide⟩
theorem Y_X4_has : q_Y yX4_has cX4_has 2 (some .boolean) 1 := ⟨q_inT4 (i := 172) (by decide +kernel) rfl, ini_X4, by decide, by decide, by decide +kernel, by decide⟩
theorem Y_X4_clear : q_Y yX4_clear cX4_clear 1 none 0 := ⟨q_inT2 (i := 66) (by decide +kernel) rfl, ini_X4, by decide, by decide, by decide +kernel, by decide⟩
theorem Y_X4_add : q_Y yX4_add cX4_add 3 none 1 := ⟨q_inT2 (i := 70) (by decide +kernel) rfl, ini_X4, by decide, by decide, by decide +kernel, by decide⟩
theorem Y_X4_tell : q_Y yX4_tell cX4_tell 3 none 1 := ⟨q_inT2 (i := 62) (by decide +kernel) rfl, ini_X4, by decide, by decide, by decide +kernel, by decide⟩
theorem Y_X5_init : q_Y yX5_init cX5_init 2 none 1 := ⟨q_inT1 (i := 50) (by decide +kernel) rfl, ini_X5, by decide, by decide, by decide +kernel, by decide⟩
theorem Y_X5_at : q_Y yX5_at cX5_at 2 (some .long) 1 := ⟨q_inT2 (i := 101) (by decide +kernel) rfl, ini_X5, by decide, by decide, by decide +kernel, by decide⟩
theorem Y_X5_copyFrom : q_Y yX5_copyFrom cX5_copyFrom 2 none 1 := ⟨q_inT3 (i := 192) (by decide +kernel) rfl, ini_X5, by decide, by decide, by decide +kernel, by decide⟩
theorem Y_X5_clear : q_Y yX5_clear cX5_clear 1 none 0 := ⟨q_inT2 (i := 182) (by decide +kernel) rfl, ini_X5, by decide, by decide, by decide +kernel, by decide⟩
theorem Y_X5_append : q_Y yX5_append cX5_append 3 none 1 := ⟨q_inT2 (i := 54) (by decide +kernel) rfl, ini_X5, by decide, by decide, by decide +kernel, by decide⟩
theorem Y_X5_insert : q_Y yX5_insert cX5_insert 4 (some .int) 1 := ⟨q_inT2 (i := 126) (by decide +kernel) rfl, ini_X5, by decide, by decide, by decide +kernel, by decide⟩
theorem Y_X5_countLater : q_Y yX5_countLater cX5_countLater 6 (some .int) 2 := ⟨q_inT2 (i := 153) (by decide +kernel) rfl, ini_X5, by decide, by decide, by decide +kernel, by decide⟩
theorem Y_X5_countMoves : q_Y yX5_countMoves cX5_countMoves 1 (some .int) 0 := ⟨q_inT2 (i := 167) (by decide +kernel) rfl, ini_X5, by decide, by decide, by decide +kernel, by decide⟩
theorem Y_X5_insertMovesOf : q_Y yX5_insertMovesOf cX5_insertMovesOf 4 none 2 := ⟨q_inT2 (i := 177) (by decide +kernel) rfl, ini_X5, by decide, by decide, by decide +kernel, by decide⟩
theorem Y_X5_dropFirst : q_Y yX5_dropFirst cX5_dropFirst 2 none 1 := ⟨q_inT2 (i := 113) (by decide +kernel) rfl, ini_X5, by decide, by decide, by decide +kernel, by decide⟩
theorem Y_X6_init : q_Y yX6_init cX6_init 1 none 0 := ⟨q_inT1 (i := 146) (by decide +kernel) rfl, ini_X6, by decide, by decide, by decide +kernel, by decide⟩
theorem Y_X6_clear : q_Y yX6_clear cX6_clear 1 none 0 := ⟨q_inT2 (i := 238) (by decide +kernel) rfl, ini_X6, by decide, by decide, by decide +kernel, by decide⟩
theorem Y_X6_keepFirst : q_Y yX6_keepFirst cX6_keepFirst 2 (some .boolean) 1 := ⟨q_inT2 (i := 4) (by decide +kernel) rfl, ini_X6, by decide, by decide, by decide +kernel, by decide⟩
theorem Y_X6_addFour : q_Y yX6_addFour cX6_addFour 3 (some .boolean) 1 := ⟨q_inT1 (i := 236) (by decide +kernel) rfl, ini_X6, by decide, by decide, by decide +kernel, by decide⟩
theorem Y_X6_at : q_Y yX6_at cX6_at 2 (some .int) 1 := ⟨q_inT2 (i := 222) (by decide +kernel) rfl, ini_X6, by decide, by decide, by decide +kernel, by decide⟩
theorem Y_X6_isDigit : q_Y yX6_isDigit cX6_isDigit 2 (some .boolean) 1 := ⟨q_inT3 (i := 146) (by decide +kernel) rfl, ini_X6, by decide, by decide, by decide +kernel, by decide⟩
theorem Y_X6_number : q_Y yX6_number cX6_number 5 (some .int) 2 := ⟨q_inT3 (i := 155) (by decide +kernel) rfl, ini_X6, by decide, by decide, by decide +kernel, by decide⟩
theorem Y_X7_init : q_Y yX7_init cX7_init 1 none 0 := ⟨q_inT1 (i := 74) (by decide +kernel) rfl, ini_X7, by decide, by decide, by decide +kernel, by decide⟩
theorem Y_X7_copyFrom : q_Y yX7_copyFrom cX7_copyFrom 2 none 1 := ⟨q_inT2 (i := 89) (by decide +kernel) rfl, ini_X7, by decide, by decide, by decide +kernel, by decide⟩
theorem Y_X7_isThere : q_Y yX7_isThere cX7_isThere 2 (some .boolean) 1 := ⟨q_inT2 (i := 50) (by decide +kernel) rfl, ini_X7, by decide, by decide, by decide +kernel, by decide⟩
theorem Y_X7_doMove : q_Y yX7_doMove cX7_doMove 6 (some .boolean) 1 := ⟨q_inT2 (i := 40) (by decide +kernel) rfl, ini_X7, by decide, by decide, by decide +kernel, by decide⟩
theorem Y_X7_rebuild : q_Y yX7_rebuild cX7_rebuild 6 (some .int) 3 := ⟨q_inT2 (i := 130) (by decide +kernel) rfl, ini_X7, by decide, by decide, by decide +kernel, by decide⟩
theorem Y_X7_otherThan : q_Y yX7_otherThan cX7_otherThan 4 (some .int) 1 := ⟨q_inT2 (i := 137) (by decide +kernel) rfl, ini_X7, by decide, by decide, by decide +kernel, by decide⟩
theorem Y_X7_isAs : q_Y yX7_isAs cX7_isAs 3 (some .boolean) 1 := ⟨q_inT4 (i := 41) (by decide +kernel) rfl, ini_X7, by decide, by decide, by decide +kernel, by decide⟩
theorem Y_X7_looksAs : q_Y yX7_looksAs cX7_looksAs 3 (some .boolean) 1 := ⟨q_inT4 (i := 11) (by decide +kernel) rfl, ini_X7, by decide, by decide, by decide +kernel, by decide⟩
theorem Y_X7_folders : q_Y yX7_folders cX7_folders 3 (some .int) 0 := ⟨q_inT3 (i := 207) (by decide +kernel) rfl, ini_X7, by decide, by decide, by decide +kernel, by decide⟩
theorem Y_X7_isRightBelow : q_Y yX7_isRightBelow cX7_isRightBelow 3 (some .boolean) 2 := ⟨q_inT3 (i := 55) (by decide +kernel) rfl, ini_X7, by decide, by decide, by decide +kernel, by decide⟩
theorem Y_X7_childrenOf : q_Y yX7_childrenOf cX7_childrenOf 4 (some .int) 1 := ⟨q_inT3 (i := 51) (by decide +kernel) rfl, ini_X7, by decide, by decide, by decide +kernel, by decide⟩
theorem Y_X7_up : q_Y yX7_up cX7_up 5 (some .int) 2 := ⟨q_inT3 (i := 67) (by decide +kernel) rfl, ini_X7, by decide, by decide, by decide +kernel, by decide⟩
theorem Y_X7_stepsUp : q_Y yX7_stepsUp cX7_stepsUp 4 (some .int) 1 := ⟨q_inT3 (i := 63) (by decide +kernel) rfl, ini_X7, by decide, by decide, by decide +kernel, by decide⟩
theorem Y_X7_liesWithin : q_Y yX7_liesWithin cX7_liesWithin 5 (some .boolean) 2 := ⟨q_inT3 (i := 47) (by decide +kernel) rfl, ini_X7, by decide, by decide, by decide +kernel, by decide⟩
theorem Y_X7_allWithin : q_Y yX7_allWithin cX7_allWithin 4 (some .int) 1 := ⟨q_inT3 (i := 43) (by decide +kernel) rfl, ini_X7, by decide, by decide, by decide +kernel, by decide⟩
theorem Y_X7_rankOf : q_Y yX7_rankOf cX7_rankOf 6 (some .int) 1 := ⟨q_inT3 (i := 105) (by decide +kernel) rfl, ini_X7, by decide, by decide, by decide +kernel, by decide⟩
theorem Y_X7_childWith : q_Y yX7_childWith cX7_childWith 5 (some .int) 3 := ⟨q_inT3 (i := 159) (by decide +kernel) rfl, ini_X7, by decide, by decide, by decide +kernel, by decide⟩
theorem Y_X7_leavesWithin : q_Y yX7_leavesWithin cX7_leavesWithin 5 (some .int) 1 := ⟨q_inT3 (i := 84) (by decide +kernel) rfl, ini_X7, by decide, by decide, by decide +kernel, by decide⟩
theorem Y_X7_stepsDown : q_Y yX7_stepsDown cX7_stepsDown 5 (some .int) 1 := ⟨q_inT3 (i := 90) (by decide +kernel) rfl, ini_X7, by decide, by decide, by decide +kernel, by decide⟩
theorem Y_X7_latestWithin : q_Y yX7_latestWithin cX7_latestWithin 5 (some .int) 1 := ⟨q_inT3 (i := 96) (by decide +kernel) rfl, ini_X7, by decide, by decide, by decide +kernel, by decide⟩
theorem Y_X7_rankedWithin : q_Y yX7_rankedWithin cX7_rankedWithin 5 (some .int) 1 := ⟨q_inT3 (i := 101) (by decide +kernel) rfl, ini_X7, by decide, by decide, by decide +kernel, by decide⟩
theorem Y_X7_weigh : q_Y yX7_weigh cX7_weigh 5 (some .int) 3 := ⟨q_inT3 (i := 111) (by decide +kernel) rfl, ini_X7, by decide, by decide, by decide +kernel, by decide⟩
theorem Y_X8_init : q_Y yX8_init cX8_init 2 none 0 := ⟨q_inT1 (i := 35) (by decide +kernel) rfl, ini_X8, by decide, by decide, by decide +kernel, by decide⟩
theorem Y_X8_copyFrom : q_Y yX8_copyFrom cX8_copyFrom 3 none 1 := ⟨q_inT3 (i := 183) (by decide +kernel) rfl, ini_X8, by decide, by decide, by decide +kernel, by decide⟩
theorem Y_X8_way : q_Y yX8_way cX8_way 3 (some (.object "FarFolders$Series")) 2 := ⟨q_inT2 (i := 33) (by decide +kernel) rfl, ini_X8, by decide, by decide, by decide +kernel, by decide⟩
theorem Y_X8_waitingFor : q_Y yX8_waitingFor cX8_waitingFor 4 (some .int) 1 := ⟨q_inT2 (i := 163) (by decide +kernel) rfl, ini_X8, by decide, by decide, by decide +kernel, by decide⟩
theorem Y_X8_waiting : q_Y yX8_waiting cX8_waiting 1 (some .int) 0 := ⟨q_inT4 (i := 64) (by decide +kernel) rfl, ini_X8, by decide, by decide, by decide +kernel, by decide⟩
theorem Y_X8_latestTime : q_Y yX8_latestTime cX8_latestTime 1 (some .int) 0 := ⟨q_inT4 (i := 80) (by decide +kernel) rfl, ini_X8, by decide, by decide, by decide +kernel, by decide⟩
theorem Y_X8_make : q_Y yX8_make cX8_make 8 (some .int) 4 := ⟨q_inT2 (i := 15) (by decide +kernel) rfl, ini_X8, by decide, by decide, by decide +kernel, by decide⟩
theorem Y_X8_beat : q_Y yX8_beat cX8_beat 2 (some .int) 1 := ⟨q_inT2 (i := 78) (by decide +kernel) rfl, ini_X8, by decide, by decide, by decide +kernel, by decide⟩
theorem Y_X8_hasFullWay : q_Y yX8_hasFullWay cX8_hasFullWay 2 (some .boolean) 1 := ⟨q_inT2 (i := 26) (by decide +kernel) rfl, ini_X8, by decide, by decide, by decide +kernel, by decide⟩
theorem Y_X8_send : q_Y yX8_send cX8_send 4 none 2 := ⟨q_inT2 (i := 58) (by decide +kernel) rfl, ini_X8, by decide, by decide, by decide +kernel, by decide⟩
theorem Y_X8_deliver : q_Y yX8_deliver cX8_deliver 4 (some .int) 2 := ⟨q_inT2 (i := 96) (by decide +kernel) rfl, ini_X8, by decide, by decide, by decide +kernel, by decide⟩
theorem Y_X8_takeNext : q_Y yX8_takeNext cX8_takeNext 8 (some .int) 2 := ⟨q_inT2 (i := 109) (by decide +kernel) rfl, ini_X8, by decide, by decide, by decide +kernel, by decide⟩
theorem Y_X8_gather : q_Y yX8_gather cX8_gather 5 (some .int) 1 := ⟨q_inT2 (i := 159) (by decide +kernel) rfl, ini_X8, by decide, by decide, by decide +kernel, by decide⟩
theorem Y_X8_takeAll : q_Y yX8_takeAll cX8_takeAll 5 none 1 := ⟨q_inT2 (i := 173) (by decide +kernel) rfl, ini_X8, by decide, by decide, by decide +kernel, by decide⟩
theorem Y_X8_undoneAtOnce : q_Y yX8_undoneAtOnce cX8_undoneAtOnce 7 (some .int) 1 := ⟨q_inT2 (i := 145) (by decide +kernel) rfl, ini_X8, by decide, by decide, by decide +kernel, by decide⟩
theorem Y_X8_cut : q_Y yX8_cut cX8_cut 2 (some .int) 1 := ⟨q_inT2 (i := 191) (by decide +kernel) rfl, ini_X8, by decide, by decide, by decide +kernel, by decide⟩
theorem Y_X9_init : q_Y yX9_init cX9_init 2 none 0 := ⟨q_inT1 (i := 27) (by decide +kernel) rfl, ini_X9, by decide, by decide, by decide +kernel, by decide⟩
theorem Y_X9_sign : q_Y yX9_sign cX9_sign 2 (some .int) 1 := ⟨q_inT1 (i := 232) (by decide +kernel) rfl, ini_X9, by decide, by decide, by decide +kernel, by decide⟩
theorem Y_X9_end : q_Y yX9_end cX9_end 2 (some .boolean) 1 := ⟨q_inT2 (i := 0) (by decide +kernel) rfl, ini_X9, by decide, by decide, by decide +kernel, by decide⟩
theorem Y_X9_entry : q_Y yX9_entry cX9_entry 7 (some .int) 3 := ⟨q_inT4 (i := 89) (by decide +kernel) rfl, ini_X9, by decide, by decide, by decide +kernel, by decide⟩
theorem Y_X9_move : q_Y yX9_move cX9_move 6 (some .int) 3 := ⟨q_inT4 (i := 160) (by decide +kernel) rfl, ini_X9, by decide, by decide, by decide +kernel, by decide⟩
theorem Y_X9_makes : q_Y yX9_makes cX9_makes 7 (some .int) 4 := ⟨q_inT2 (i := 8) (by decide +kernel) rfl, ini_X9, by decide, by decide, by decide +kernel, by decide⟩
theorem Y_X9_beats : q_Y yX9_beats cX9_beats 2 (some .int) 1 := ⟨q_inT2 (i := 74) (by decide +kernel) rfl, ini_X9, by decide, by decide, by decide +kernel, by decide⟩
theorem Y_X9_comes : q_Y yX9_comes cX9_comes 4 (some .int) 2 := ⟨q_inT2 (i := 82) (by decide +kernel) rfl, ini_X9, by decide, by decide, by decide +kernel, by decide⟩
theorem Y_X9_gathers : q_Y yX9_gathers cX9_gathers 4 (some .int) 1 := ⟨q_inT2 (i := 141) (by decide +kernel) rfl, ini_X9, by decide, by decide, by decide +kernel, by decide⟩
theorem Y_X9_cuts : q_Y yX9_cuts cX9_cuts 2 (some .int) 1 := ⟨q_inT2 (i := 187) (by decide +kernel) rfl, ini_X9, by decide, by decide, by decide +kernel, by decide⟩
theorem Y_X9_day : q_Y yX9_day cX9_day 5 (some .int) 0 := ⟨q_inT2 (i := 214) (by decide +kernel) rfl, ini_X9, by decide, by decide, by decide +kernel, by decide⟩
theorem Y_X9_letters : q_Y yX9_letters cX9_letters 5 (some .int) 2 := ⟨q_inT3 (i := 6) (by decide +kernel) rfl, ini_X9, by decide, by decide, by decide +kernel, by decide⟩
theorem Y_X9_stable : q_Y yX9_stable cX9_stable 3 (some .int) 1 := ⟨q_inT3 (i := 14) (by decide +kernel) rfl, ini_X9, by decide, by decide, by decide +kernel, by decide⟩
theorem Y_X9_voids : q_Y yX9_voids cX9_voids 2 (some .int) 1 := ⟨q_inT3 (i := 20) (by decide +kernel) rfl, ini_X9, by decide, by decide, by decide +kernel, by decide⟩
theorem Y_X9_below : q_Y yX9_below cX9_below 5 (some .int) 2 := ⟨q_inT3 (i := 34) (by decide +kernel) rfl, ini_X9, by decide, by decide, by decide +kernel, by decide⟩
theorem Y_X9_depth : q_Y yX9_depth cX9_depth 6 (some .int) 2 := ⟨q_inT3 (i := 59) (by decide +kernel) rfl, ini_X9, by decide, by decide, by decide +kernel, by decide⟩
theorem Y_X9_meets : q_Y yX9_meets cX9_meets 8 (some .int) 3 := ⟨q_inT3 (i := 71) (by decide +kernel) rfl, ini_X9, by decide, by decide, by decide +kernel, by decide⟩
theorem Y_X9_places : q_Y yX9_places cX9_places 6 (some .int) 2 := ⟨q_inT3 (i := 76) (by decide +kernel) rfl, ini_X9, by decide, by decide, by decide +kernel, by decide⟩
theorem Y_X9_total : q_Y yX9_total cX9_total 6 (some .int) 3 := ⟨q_inT3 (i := 80) (by decide +kernel) rfl, ini_X9, by decide, by decide, by decide +kernel, by decide⟩
theorem Y_X9_lists : q_Y yX9_lists cX9_lists 5 (some .int) 3 := ⟨q_inT3 (i := 116) (by decide +kernel) rfl, ini_X9, by decide, by decide, by decide +kernel, by decide⟩
theorem Y_X9_finds : q_Y yX9_finds cX9_finds 4 (some .int) 1 := ⟨q_inT3 (i := 130) (by decide +kernel) rfl, ini_X9, by decide, by decide, by decide +kernel, by decide⟩
theorem Y_X9_path : q_Y yX9_path cX9_path 7 (some .int) 2 := ⟨q_inT3 (i := 163) (by decide +kernel) rfl, ini_X9, by decide, by decide, by decide +kernel, by decide⟩
theorem Y_X9_apart : q_Y yX9_apart cX9_apart 4 (some .int) 2 := ⟨q_inT3 (i := 175) (by decide +kernel) rfl, ini_X9, by decide, by decide, by decide +kernel, by decide⟩
theorem Y_X9_late : q_Y yX9_late cX9_late 4 (some .int) 2 := ⟨q_inT3 (i := 179) (by decide +kernel) rfl, ini_X9, by decide, by decide, by decide +kernel, by decide⟩
theorem Y_X9_then : q_Y yX9_then cX9_then 4 (some .int) 1 := ⟨q_inT3 (i := 200) (by decide +kernel) rfl, ini_X9, by decide, by decide, by decide +kernel, by decide⟩
theorem Y_X9_worst : q_Y yX9_worst cX9_worst 5 (some .int) 1 := ⟨q_inT3 (i := 211) (by decide +kernel) rfl, ini_X9, by decide, by decide, by decide +kernel, by decide⟩
theorem Y_X9_frees : q_Y yX9_frees cX9_frees 6 (some .int) 2 := ⟨q_inT3 (i := 238) (by decide +kernel) rfl, ini_X9, by decide, by decide, by decide +kernel, by decide⟩
theorem Y_X9_idle : q_Y yX9_idle cX9_idle 5 (some .int) 1 := ⟨q_inT4 (i := 7) (by decide +kernel) rfl, ini_X9, by decide, by decide, by decide +kernel, by decide⟩
theorem Y_X9_nearest : q_Y yX9_nearest cX9_nearest 5 (some .int) 2 := ⟨q_inT4 (i := 16) (by decide +kernel) rfl, ini_X9, by decide, by decide, by decide +kernel, by decide⟩
theorem Y_X9_years : q_Y yX9_years cX9_years 4 (some .int) 2 := ⟨q_inT4 (i := 51) (by decide +kernel) rfl, ini_X9, by decide, by decide, by decide +kernel, by decide⟩
theorem Y_X9_keep : q_Y yX9_keep cX9_keep 2 (some .boolean) 1 := ⟨q_inT4 (i := 68) (by decide +kernel) rfl, ini_X9, by decide, by decide, by decide +kernel, by decide⟩
theorem Y_X9_again : q_Y yX9_again cX9_again 2 (some .boolean) 1 := ⟨q_inT4 (i := 72) (by decide +kernel) rfl, ini_X9, by decide, by decide, by decide +kernel, by decide⟩
theorem Y_X9_count : q_Y yX9_count cX9_count 2 (some .int) 1 := ⟨q_inT4 (i := 76) (by decide +kernel) rfl, ini_X9, by decide, by decide, by decide +kernel, by decide⟩
theorem Y_X9_row : q_Y yX9_row cX9_row 2 (some .long) 1 := ⟨q_inT4 (i := 168) (by decide +kernel) rfl, ini_X9, by decide, by decide, by decide +kernel, by decide⟩
theorem Y_X9_isCopy : q_Y yX9_isCopy cX9_isCopy 1 (some .boolean) 1 := ⟨q_inT2 (i := 11) (by decide +kernel) rfl, ini_X9, by decide, by decide, by decide +kernel, by decide⟩
theorem Y_X9_isNode : q_Y yX9_isNode cX9_isNode 1 (some .boolean) 1 := ⟨q_inT2 (i := 22) (by decide +kernel) rfl, ini_X9, by decide, by decide, by decide +kernel, by decide⟩
theorem Y_X9_isFolder : q_Y yX9_isFolder cX9_isFolder 1 (some .boolean) 1 := ⟨q_inT2 (i := 19) (by decide +kernel) rfl, ini_X9, by decide, by decide, by decide +kernel, by decide⟩
theorem Y_X9_areTwoCopies : q_Y yX9_areTwoCopies cX9_areTwoCopies 2 (some .boolean) 2 := ⟨q_inT2 (i := 85) (by decide +kernel) rfl, ini_X9, by decide, by decide, by decide +kernel, by decide⟩
theorem Y_X9_nextCopy : q_Y yX9_nextCopy cX9_nextCopy 1 (some .int) 1 := ⟨q_inT2 (i := 29) (by decide +kernel) rfl, ini_X9, by decide, by decide, by decide +kernel, by decide⟩
theorem Y_X9_refusalOf : q_Y yX9_refusalOf cX9_refusalOf 3 (some .int) 2 := ⟨q_inT3 (i := 38) (by decide +kernel) rfl, ini_X9, by decide, by decide, by decide +kernel, by decide⟩
theorem Y_X9_tellSet : q_Y yX9_tellSet cX9_tellSet 2 (some .int) 1 := ⟨q_inT3 (i := 24) (by decide +kernel) rfl, ini_X9, by decide, by decide, by decide +kernel, by decide⟩
theorem Y_X9_wrongSignOfDay : q_Y yX9_wrongSignOfDay cX9_wrongSignOfDay 4 (some .int) 0 := ⟨q_inT2 (i := 218) (by decide +kernel) rfl, ini_X9, by decide, by decide, by decide +kernel, by decide⟩
theorem Y_X9_signsOfAct : q_Y yX9_signsOfAct cX9_signsOfAct 1 (some .int) 1 := ⟨q_inT2 (i := 225) (by decide +kernel) rfl, ini_X9, by decide, by decide, by decide +kernel, by decide⟩
theorem Y_X9_canStand : q_Y yX9_canStand cX9_canStand 3 (some .boolean) 3 := ⟨q_inT2 (i := 228) (by decide +kernel) rfl, ini_X9, by decide, by decide, by decide +kernel, by decide⟩
theorem Y_X9_nodeOfSign : q_Y yX9_nodeOfSign cX9_nodeOfSign 1 (some .int) 1 := ⟨q_inT2 (i := 231) (by decide +kernel) rfl, ini_X9, by decide, by decide, by decide +kernel, by decide⟩
theorem Y_X9_doAct : q_Y yX9_doAct cX9_doAct 3 (some .int) 1 := ⟨q_inT3 (i := 2) (by decide +kernel) rfl, ini_X9, by decide, by decide, by decide +kernel, by decide⟩
theorem Y_X9_wrongSignOfPath : q_Y yX9_wrongSignOfPath cX9_wrongSignOfPath 4 (some .int) 0 := ⟨q_inT3 (i := 134) (by decide +kernel) rfl, ini_X9, by decide, by decide, by decide +kernel, by decide⟩
theorem Y_X9_firstStep : q_Y yX9_firstStep cX9_firstStep 1 (some .int) 0 := ⟨q_inT3 (i := 138) (by decide +kernel) rfl, ini_X9, by decide, by decide, by decide +kernel, by decide⟩
theorem Y_X9_behindStep : q_Y yX9_behindStep cX9_behindStep 2 (some .int) 1 := ⟨q_inT3 (i := 142) (by decide +kernel) rfl, ini_X9, by decide, by decide, by decide +kernel, by decide⟩
theorem Y_X9_nodeAtPath : q_Y yX9_nodeAtPath cX9_nodeAtPath 5 (some .int) 1 := ⟨q_inT3 (i := 151) (by decide +kernel) rfl, ini_X9, by decide, by decide, by decide +kernel, by decide⟩
theorem Y_X9_addStep : q_Y yX9_addStep cX9_addStep 4 none 2 := ⟨q_inT3 (i := 168) (by decide +kernel) rfl, ini_X9, by decide, by decide, by decide +kernel, by decide⟩
theorem Y_X9_listBelow : q_Y yX9_listBelow cX9_listBelow 8 none 5 := ⟨q_inT3 (i := 119) (by decide +kernel) rfl, ini_X9, by decide, by decide, by decide +kernel, by decide⟩
theorem Y_X9_firstOf : q_Y yX9_firstOf cX9_firstOf 5 (some .int) 3 := ⟨q_inT3 (i := 122) (by decide +kernel) rfl, ini_X9, by decide, by decide, by decide +kernel, by decide⟩
theorem Y_X9_standsAhead : q_Y yX9_standsAhead cX9_standsAhead 8 (some .boolean) 4 := ⟨q_inT3 (i := 125) (by decide +kernel) rfl, ini_X9, by decide, by decide, by decide +kernel, by decide⟩
theorem Y_X9_drawAct : q_Y yX9_drawAct cX9_drawAct 3 none 0 := ⟨q_inT4 (i := 55) (by decide +kernel) rfl, ini_X9, by decide, by decide, by decide +kernel, by decide⟩
theorem Y_X9_draw : q_Y yX9_draw cX9_draw 2 (some .int) 1 := ⟨q_inT4 (i := 59) (by decide +kernel) rfl, ini_X9, by decide, by decide, by decide +kernel, by decide⟩
theorem Y_X10_thrown : q_Y yX10_thrown cX10_thrown 1 (some .int) 0 := ⟨q_inT4 (i := 176) (by decide +kernel) rfl, ini_X10, by decide, by decide, by decide +kernel, by decide⟩
theorem Y_X10_in : q_Y yX10_in cX10_in 6 (some .boolean) 3 := ⟨q_inT4 (i := 187) (by decide +kernel) rfl, ini_X10, by decide, by decide, by decide +kernel, by decide⟩
theorem Y_X10_has : q_Y yX10_has cX10_has 2 (some .boolean) 2 := ⟨q_inT6 (i := 121) (by decide +kernel) rfl, ini_X10, by decide, by decide, by decide +kernel, by decide⟩
theorem Y_X10_flag : q_Y yX10_flag cX10_flag 1 (some .int) 1 := ⟨q_inT5 (i := 51) (by decide +kernel) rfl, ini_X10, by decide, by decide, by decide +kernel, by decide⟩
theorem Y_X10_bitsOf : q_Y yX10_bitsOf cX10_bitsOf 3 (some .int) 1 := ⟨q_inT6 (i := 78) (by decide +kernel) rfl, ini_X10, by decide, by decide, by decide +kernel, by decide⟩
theorem Y_X10_enters : q_Y yX10_enters cX10_enters 3 none 1 := ⟨q_inT5 (i := 140) (by decide +kernel) rfl, ini_X10, by decide, by decide, by decide +kernel, by decide⟩
theorem Y_X10_sign : q_Y yX10_sign cX10_sign 3 (some .int) 1 := ⟨q_inT4 (i := 180) (by decide +kernel) rfl, ini_X10, by decide, by decide, by decide +kernel, by decide⟩
theorem Y_X10_end : q_Y yX10_end cX10_end 2 (some .boolean) 1 := ⟨q_inT4 (i := 184) (by decide +kernel) rfl, ini_X10, by decide, by decide, by decide +kernel, by decide⟩
theorem Y_X10_reads : q_Y yX10_reads cX10_reads 1 none 0 := ⟨q_inT5 (i := 234) (by decide +kernel) rfl, ini_X10, by decide, by decide, by decide +kernel, by decide⟩
theorem Y_X10_takesOf : q_Y yX10_takesOf cX10_takesOf 3 (some .int) 1 := ⟨q_inT6 (i := 3) (by decide +kernel) rfl, ini_X10, by decide, by decide, by decide +kernel, by decide⟩
theorem Y_X10_init : q_Y yX10_init cX10_init 3 none 0 := ⟨q_inT4 (i := 192) (by decide +kernel) rfl, ini_X10, by decide, by decide, by decide +kernel, by decide⟩
theorem Y_X10_copies : q_Y yX10_copies cX10_copies 4 none 2 := ⟨q_inT6 (i := 214) (by decide +kernel) rfl, ini_X10, by decide, by decide, by decide +kernel, by decide⟩
theorem Y_X10_baseOf : q_Y yX10_baseOf cX10_baseOf 2 (some .int) 2 := ⟨q_inT4 (i := 196) (by decide +kernel) rfl, ini_X10, by decide, by decide, by decide +kernel, by decide⟩
theorem Y_X10_moveOf : q_Y yX10_moveOf cX10_moveOf 2 (some .int) 2 := ⟨q_inT5 (i := 62) (by decide +kernel) rfl, ini_X10, by decide, by decide, by decide +kernel, by decide⟩
theorem Y_X10_wayOf : q_Y yX10_wayOf cX10_wayOf 2 (some .int) 2 := ⟨q_inT5 (i := 117) (by decide +kernel) rfl, ini_X10, by decide, by decide, by decide +kernel, by decide⟩
theorem Y_X10_letterOf : q_Y yX10_letterOf cX10_letterOf 3 (some .int) 3 := ⟨q_inT5 (i := 136) (by decide +kernel) rfl, ini_X10, by decide, by decide, by decide +kernel, by decide⟩
theorem Y_X10_waiting : q_Y yX10_waiting cX10_waiting 3 (some .int) 2 := ⟨q_inT5 (i := 114) (by decide +kernel) rfl, ini_X10, by decide, by decide, by decide +kernel, by decide⟩
theorem Y_X10_isCopy : q_Y yX10_isCopy cX10_isCopy 1 (some .boolean) 1 := ⟨q_inT5 (i := 42) (by decide +kernel) rfl, ini_X10, by decide, by decide, by decide +kernel, by decide⟩
theorem Y_X10_isFolder : q_Y yX10_isFolder cX10_isFolder 1 (some .boolean) 1 := ⟨q_inT5 (i := 46) (by decide +kernel) rfl, ini_X10, by decide, by decide, by decide +kernel, by decide⟩
theorem Y_X10_isNode : q_Y yX10_isNode cX10_isNode 1 (some .boolean) 1 := ⟨q_inT5 (i := 105) (by decide +kernel) rfl, ini_X10, by decide, by decide, by decide +kernel, by decide⟩
theorem Y_X10_areTwo : q_Y yX10_areTwo cX10_areTwo 2 (some .boolean) 2 := ⟨q_inT5 (i := 159) (by decide +kernel) rfl, ini_X10, by decide, by decide, by decide +kernel, by decide⟩
theorem Y_X10_isLess : q_Y yX10_isLess cX10_isLess 4 (some .boolean) 4 := ⟨q_inT5 (i := 89) (by decide +kernel) rfl, ini_X10, by decide, by decide, by decide +kernel, by decide⟩
theorem Y_X10_loads : q_Y yX10_loads cX10_loads 3 none 1 := ⟨q_inT5 (i := 59) (by decide +kernel) rfl, ini_X10, by decide, by decide, by decide +kernel, by decide⟩
theorem Y_X10_greater : q_Y yX10_greater cX10_greater 5 (some .int) 2 := ⟨q_inT5 (i := 125) (by decide +kernel) rfl, ini_X10, by decide, by decide, by decide +kernel, by decide⟩
theorem Y_X10_puts : q_Y yX10_puts cX10_puts 8 none 5 := ⟨q_inT5 (i := 121) (by decide +kernel) rfl, ini_X10, by decide, by decide, by decide +kernel, by decide⟩
theorem Y_X10_isMove : q_Y yX10_isMove cX10_isMove 2 (some .boolean) 1 := ⟨q_inT5 (i := 163) (by decide +kernel) rfl, ini_X10, by decide, by decide, by decide +kernel, by decide⟩
theorem Y_X10_putsLetter : q_Y yX10_putsLetter cX10_putsLetter 3 none 2 := ⟨q_inT5 (i := 171) (by decide +kernel) rfl, ini_X10, by decide, by decide, by decide +kernel, by decide⟩
theorem Y_X10_keepsList : q_Y yX10_keepsList cX10_keepsList 3 none 1 := ⟨q_inT5 (i := 129) (by decide +kernel) rfl, ini_X10, by decide, by decide, by decide +kernel, by decide⟩
theorem Y_X10_its : q_Y yX10_its cX10_its 4 (some .int) 3 := ⟨q_inT5 (i := 78) (by decide +kernel) rfl, ini_X10, by decide, by decide, by decide +kernel, by decide⟩
theorem Y_X10_isThere : q_Y yX10_isThere cX10_isThere 3 (some .boolean) 2 := ⟨q_inT5 (i := 74) (by decide +kernel) rfl, ini_X10, by decide, by decide, by decide +kernel, by decide⟩
theorem Y_X10_isUnder : q_Y yX10_isUnder cX10_isUnder 5 (some .boolean) 3 := ⟨q_inT5 (i := 82) (by decide +kernel) rfl, ini_X10, by decide, by decide, by decide +kernel, by decide⟩
theorem Y_X10_canGo : q_Y yX10_canGo cX10_canGo 4 (some .boolean) 3 := ⟨q_inT5 (i := 70) (by decide +kernel) rfl, ini_X10, by decide, by decide, by decide +kernel, by decide⟩
theorem Y_X10_grows : q_Y yX10_grows cX10_grows 7 none 3 := ⟨q_inT5 (i := 66) (by decide +kernel) rfl, ini_X10, by decide, by decide, by decide +kernel, by decide⟩
theorem Y_X10_lays : q_Y yX10_lays cX10_lays 3 none 2 := ⟨q_inT5 (i := 55) (by decide +kernel) rfl, ini_X10, by decide, by decide, by decide +kernel, by decide⟩
theorem Y_X10_folders : q_Y yX10_folders cX10_folders 4 (some .int) 1 := ⟨q_inT6 (i := 174) (by decide +kernel) rfl, ini_X10, by decide, by decide, by decide +kernel, by decide⟩
theorem Y_X10_otherSet : q_Y yX10_otherSet cX10_otherSet 7 (some .int) 2 := ⟨q_inT5 (i := 175) (by decide +kernel) rfl, ini_X10, by decide, by decide, by decide +kernel, by decide⟩
theorem Y_X10_other : q_Y yX10_other cX10_other 3 (some .int) 2 := ⟨q_inT6 (i := 166) (by decide +kernel) rfl, ini_X10, by decide, by decide, by decide +kernel, by decide⟩
theorem Y_X10_rank : q_Y yX10_rank cX10_rank 6 (some .int) 2 := ⟨q_inT5 (i := 86) (by decide +kernel) rfl, ini_X10, by decide, by decide, by decide +kernel, by decide⟩
theorem Y_X10_entry : q_Y yX10_entry cX10_entry 4 (some .int) 3 := ⟨q_inT5 (i := 39) (by decide +kernel) rfl, ini_X10, by decide, by decide, by decide +kernel, by decide⟩
theorem Y_X10_move : q_Y yX10_move cX10_move 4 (some .int) 3 := ⟨q_inT5 (i := 93) (by decide +kernel) rfl, ini_X10, by decide, by decide, by decide +kernel, by decide⟩
theorem Y_X10_areFull : q_Y yX10_areFull cX10_areFull 4 (some .boolean) 1 := ⟨q_inT5 (i := 110) (by decide +kernel) rfl, ini_X10, by decide, by decide, by decide +kernel, by decide⟩
theorem Y_X10_sends : q_Y yX10_sends cX10_sends 7 none 4 := ⟨q_inT5 (i := 133) (by decide +kernel) rfl, ini_X10, by decide, by decide, by decide +kernel, by decide⟩
theorem Y_X10_makesOne : q_Y yX10_makesOne cX10_makesOne 5 (some .int) 4 := ⟨q_inT5 (i := 102) (by decide +kernel) rfl, ini_X10, by decide, by decide, by decide +kernel, by decide⟩
theorem Y_X10_makes : q_Y yX10_makes cX10_makes 6 (some .int) 4 := ⟨q_inT5 (i := 98) (by decide +kernel) rfl, ini_X10, by decide, by decide, by decide +kernel, by decide⟩
theorem Y_X10_beatsOne : q_Y yX10_beatsOne cX10_beatsOne 2 (some .int) 1 := ⟨q_inT5 (i := 148) (by decide +kernel) rfl, ini_X10, by decide, by decide, by decide +kernel, by decide⟩
theorem Y_X10_beats : q_Y yX10_beats cX10_beats 2 (some .int) 1 := ⟨q_inT5 (i := 144) (by decide +kernel) rfl, ini_X10, by decide, by decide, by decide +kernel, by decide⟩
theorem Y_X10_hears : q_Y yX10_hears cX10_hears 6 none 2 := ⟨q_inT5 (i := 179) (by decide +kernel) rfl, ini_X10, by decide, by decide, by decide +kernel, by decide⟩
theorem Y_X10_tries : q_Y yX10_tries cX10_tries 4 none 2 := ⟨q_inT5 (i := 167) (by decide +kernel) rfl, ini_X10, by decide, by decide, by decide +kernel, by decide⟩
theorem Y_X10_comesOne : q_Y yX10_comesOne cX10_comesOne 3 (some .int) 2 := ⟨q_inT5 (i := 156) (by decide +kernel) rfl, ini_X10, by decide, by decide, by decide +kernel, by decide⟩
theorem Y_X10_comes : q_Y yX10_comes cX10_comes 4 (some .int) 2 := ⟨q_inT5 (i := 152) (by decide +kernel) rfl, ini_X10, by decide, by decide, by decide +kernel, by decide⟩
theorem Y_X10_late : q_Y yX10_late cX10_late 3 (some .int) 2 := ⟨q_inT5 (i := 184) (by decide +kernel) rfl, ini_X10, by decide, by decide, by decide +kernel, by decide⟩
theorem Y_X10_waitingAll : q_Y yX10_waitingAll cX10_waitingAll 4 (some .int) 1 := ⟨q_inT5 (i := 196) (by decide +kernel) rfl, ini_X10, by decide, by decide, by decide +kernel, by decide⟩
theorem Y_X10_movesWaiting : q_Y yX10_movesWaiting cX10_movesWaiting 5 (some .int) 1 := ⟨q_inT5 (i := 200) (by decide +kernel) rfl, ini_X10, by decide, by decide, by decide +kernel, by decide⟩
theorem Y_X10_undoneAtOnce : q_Y yX10_undoneAtOnce cX10_undoneAtOnce 6 (some .int) 1 := ⟨q_inT5 (i := 204) (by decide +kernel) rfl, ini_X10, by decide, by decide, by decide +kernel, by decide⟩
theorem Y_X10_putsWaiting : q_Y yX10_putsWaiting cX10_putsWaiting 4 none 1 := ⟨q_inT5 (i := 208) (by decide +kernel) rfl, ini_X10, by decide, by decide, by decide +kernel, by decide⟩
theorem Y_X10_gathersOne : q_Y yX10_gathersOne cX10_gathersOne 4 (some .int) 1 := ⟨q_inT5 (i := 192) (by decide +kernel) rfl, ini_X10, by decide, by decide, by decide +kernel, by decide⟩
theorem Y_X10_gathers : q_Y yX10_gathers cX10_gathers 3 (some .int) 1 := ⟨q_inT5 (i := 188) (by decide +kernel) rfl, ini_X10, by decide, by decide, by decide +kernel, by decide⟩
theorem Y_X10_stableOf : q_Y yX10_stableOf cX10_stableOf 4 (some .int) 1 := ⟨q_inT5 (i := 224) (by decide +kernel) rfl, ini_X10, by decide, by decide, by decide +kernel, by decide⟩
theorem Y_X10_cutMany : q_Y yX10_cutMany cX10_cutMany 3 (some .int) 1 := ⟨q_inT5 (i := 220) (by decide +kernel) rfl, ini_X10, by decide, by decide, by decide +kernel, by decide⟩
theorem Y_X10_cutsOne : q_Y yX10_cutsOne cX10_cutsOne 5 (some .int) 1 := ⟨q_inT5 (i := 216) (by decide +kernel) rfl, ini_X10, by decide, by decide, by decide +kernel, by decide⟩
theorem Y_X10_cuts : q_Y yX10_cuts cX10_cuts 2 (some .int) 1 := ⟨q_inT5 (i := 212) (by decide +kernel) rfl, ini_X10, by decide, by decide, by decide +kernel, by decide⟩
theorem Y_X10_readsParent : q_Y yX10_readsParent cX10_readsParent 2 (some .int) 0 := ⟨q_inT6 (i := 57) (by decide +kernel) rfl, ini_X10, by decide, by decide, by decide +kernel, by decide⟩
theorem Y_X10_readsAct : q_Y yX10_readsAct cX10_readsAct 2 (some .boolean) 1 := ⟨q_inT5 (i := 238) (by decide +kernel) rfl, ini_X10, by decide, by decide, by decide +kernel, by decide⟩
theorem Y_X10_doesAct : q_Y yX10_doesAct cX10_doesAct 2 (some .int) 1 := ⟨q_inT6 (i := 62) (by decide +kernel) rfl, ini_X10, by decide, by decide, by decide +kernel, by decide⟩
theorem Y_X10_day : q_Y yX10_day cX10_day 3 (some .int) 0 := ⟨q_inT5 (i := 230) (by decide +kernel) rfl, ini_X10, by decide, by decide, by decide +kernel, by decide⟩
theorem Y_X10_letters : q_Y yX10_letters cX10_letters 4 (some .int) 2 := ⟨q_inT6 (i := 67) (by decide +kernel) rfl, ini_X10, by decide, by decide, by decide +kernel, by decide⟩
theorem Y_X10_stable : q_Y yX10_stable cX10_stable 2 (some .int) 1 := ⟨q_inT6 (i := 71) (by decide +kernel) rfl, ini_X10, by decide, by decide, by decide +kernel, by decide⟩
theorem Y_X10_voids : q_Y yX10_voids cX10_voids 4 (some .int) 1 := ⟨q_inT6 (i := 75) (by decide +kernel) rfl, ini_X10, by decide, by decide, by decide +kernel, by decide⟩
theorem Y_X10_allBelow : q_Y yX10_allBelow cX10_allBelow 5 (some .int) 2 := ⟨q_inT6 (i := 90) (by decide +kernel) rfl, ini_X10, by decide, by decide, by decide +kernel, by decide⟩
theorem Y_X10_rightBelow : q_Y yX10_rightBelow cX10_rightBelow 5 (some .int) 2 := ⟨q_inT6 (i := 94) (by decide +kernel) rfl, ini_X10, by decide, by decide, by decide +kernel, by decide⟩
theorem Y_X10_asked : q_Y yX10_asked cX10_asked 3 (some .int) 2 := ⟨q_inT6 (i := 86) (by decide +kernel) rfl, ini_X10, by decide, by decide, by decide +kernel, by decide⟩
theorem Y_X10_below : q_Y yX10_below cX10_below 4 (some .int) 2 := ⟨q_inT6 (i := 82) (by decide +kernel) rfl, ini_X10, by decide, by decide, by decide +kernel, by decide⟩
theorem Y_X10_stepsUp : q_Y yX10_stepsUp cX10_stepsUp 5 (some .int) 2 := ⟨q_inT6 (i := 106) (by decide +kernel) rfl, ini_X10, by decide, by decide, by decide +kernel, by decide⟩
theorem Y_X10_topOf : q_Y yX10_topOf cX10_topOf 2 (some .int) 1 := ⟨q_inT6 (i := 102) (by decide +kernel) rfl, ini_X10, by decide, by decide, by decide +kernel, by decide⟩
theorem Y_X10_depth : q_Y yX10_depth cX10_depth 4 (some .int) 2 := ⟨q_inT6 (i := 98) (by decide +kernel) rfl, ini_X10, by decide, by decide, by decide +kernel, by decide⟩
theorem Y_X10_meets : q_Y yX10_meets cX10_meets 5 (some .int) 3 := ⟨q_inT6 (i := 110) (by decide +kernel) rfl, ini_X10, by decide, by decide, by decide +kernel, by decide⟩
theorem Y_X10_places : q_Y yX10_places cX10_places 5 (some .int) 2 := ⟨q_inT6 (i := 114) (by decide +kernel) rfl, ini_X10, by decide, by decide, by decide +kernel, by decide⟩
theorem Y_X10_worth : q_Y yX10_worth cX10_worth 6 (some .int) 1 := ⟨q_inT6 (i := 125) (by decide +kernel) rfl, ini_X10, by decide, by decide, by decide +kernel, by decide⟩
theorem Y_X10_total : q_Y yX10_total cX10_total 12 (some .int) 3 := ⟨q_inT6 (i := 118) (by decide +kernel) rfl, ini_X10, by decide, by decide, by decide +kernel, by decide⟩
theorem Y_X10_isAhead : q_Y yX10_isAhead cX10_isAhead 5 (some .boolean) 3 := ⟨q_inT6 (i := 138) (by decide +kernel) rfl, ini_X10, by decide, by decide, by decide +kernel, by decide⟩
theorem Y_X10_tells : q_Y yX10_tells cX10_tells 6 none 2 := ⟨q_inT6 (i := 134) (by decide +kernel) rfl, ini_X10, by decide, by decide, by decide +kernel, by decide⟩
theorem Y_X10_lists : q_Y yX10_lists cX10_lists 5 (some .int) 3 := ⟨q_inT6 (i := 129) (by decide +kernel) rfl, ini_X10, by decide, by decide, by decide +kernel, by decide⟩
theorem Y_X10_child : q_Y yX10_child cX10_child 7 (some .int) 3 := ⟨q_inT6 (i := 147) (by decide +kernel) rfl, ini_X10, by decide, by decide, by decide +kernel, by decide⟩
theorem Y_X10_finds : q_Y yX10_finds cX10_finds 6 (some .int) 1 := ⟨q_inT6 (i := 142) (by decide +kernel) rfl, ini_X10, by decide, by decide, by decide +kernel, by decide⟩
theorem Y_X10_entersPath : q_Y yX10_entersPath cX10_entersPath 3 none 1 := ⟨q_inT6 (i := 155) (by decide +kernel) rfl, ini_X10, by decide, by decide, by decide +kernel, by decide⟩
theorem Y_X10_path : q_Y yX10_path cX10_path 4 (some .int) 2 := ⟨q_inT6 (i := 151) (by decide +kernel) rfl, ini_X10, by decide, by decide, by decide +kernel, by decide⟩
theorem Y_X10_apart : q_Y yX10_apart cX10_apart 3 (some .int) 2 := ⟨q_inT6 (i := 162) (by decide +kernel) rfl, ini_X10, by decide, by decide, by decide +kernel, by decide⟩
theorem Y_X10_then : q_Y yX10_then cX10_then 3 (some .int) 1 := ⟨q_inT6 (i := 170) (by decide +kernel) rfl, ini_X10, by decide, by decide, by decide +kernel, by decide⟩
theorem Y_X10_third : q_Y yX10_third cX10_third 2 (some .int) 2 := ⟨q_inT6 (i := 181) (by decide +kernel) rfl, ini_X10, by decide, by decide, by decide +kernel, by decide⟩
theorem Y_X10_undoes : q_Y yX10_undoes cX10_undoes 9 (some .int) 7 := ⟨q_inT6 (i := 185) (by decide +kernel) rfl, ini_X10, by decide, by decide, by decide +kernel, by decide⟩
theorem Y_X10_worst : q_Y yX10_worst cX10_worst 9 (some .int) 1 := ⟨q_inT6 (i := 178) (by decide +kernel) rfl, ini_X10, by decide, by decide, by decide +kernel, by decide⟩
theorem Y_X10_frees : q_Y yX10_frees cX10_frees 5 (some .int) 2 := ⟨q_inT6 (i := 189) (by decide +kernel) rfl, ini_X10, by decide, by decide, by decide +kernel, by decide⟩
theorem Y_X10_areLike : q_Y yX10_areLike cX10_areLike 5 (some .boolean) 2 := ⟨q_inT6 (i := 197) (by decide +kernel) rfl, ini_X10, by decide, by decide, by decide +kernel, by decide⟩
theorem Y_X10_idle : q_Y yX10_idle cX10_idle 4 (some .int) 1 := ⟨q_inT6 (i := 193) (by decide +kernel) rfl, ini_X10, by decide, by decide, by decide +kernel, by decide⟩
theorem Y_X10_laysBehind : q_Y yX10_laysBehind cX10_laysBehind 8 none 6 := ⟨q_inT6 (i := 205) (by decide +kernel) rfl, ini_X10, by decide, by decide, by decide +kernel, by decide⟩
theorem Y_X10_nearest : q_Y yX10_nearest cX10_nearest 13 (some .int) 2 := ⟨q_inT6 (i := 201) (by decide +kernel) rfl, ini_X10, by decide, by decide, by decide +kernel, by decide⟩
theorem Y_X10_draws : q_Y yX10_draws cX10_draws 2 (some .int) 1 := ⟨q_inT6 (i := 222) (by decide +kernel) rfl, ini_X10, by decide, by decide, by decide +kernel, by decide⟩
theorem Y_X10_drawnAct : q_Y yX10_drawnAct cX10_drawnAct 5 none 0 := ⟨q_inT6 (i := 218) (by decide +kernel) rfl, ini_X10, by decide, by decide, by decide +kernel, by decide⟩
theorem Y_X10_lettersAll : q_Y yX10_lettersAll cX10_lettersAll 3 (some .int) 0 := ⟨q_inT6 (i := 227) (by decide +kernel) rfl, ini_X10, by decide, by decide, by decide +kernel, by decide⟩
theorem Y_X10_years : q_Y yX10_years cX10_years 5 (some .int) 2 := ⟨q_inT6 (i := 209) (by decide +kernel) rfl, ini_X10, by decide, by decide, by decide +kernel, by decide⟩
theorem Y_X10_keep : q_Y yX10_keep cX10_keep 2 (some .boolean) 1 := ⟨q_inT6 (i := 231) (by decide +kernel) rfl, ini_X10, by decide, by decide, by decide +kernel, by decide⟩
theorem Y_X10_again : q_Y yX10_again cX10_again 2 (some .boolean) 1 := ⟨q_inT6 (i := 235) (by decide +kernel) rfl, ini_X10, by decide, by decide, by decide +kernel, by decide⟩
theorem Y_X10_count : q_Y yX10_count cX10_count 2 (some .int) 1 := ⟨q_inT6 (i := 239) (by decide +kernel) rfl, ini_X10, by decide, by decide, by decide +kernel, by decide⟩
theorem Y_X10_row : q_Y yX10_row cX10_row 2 (some .long) 1 := ⟨q_inT7 (i := 3) (by decide +kernel) rfl, ini_X10, by decide, by decide, by decide +kernel, by decide⟩
theorem Y_J6_bitCount_0f7a4 : q_Y yJ6_bitCount_0f7a4 cJ6_bitCount_0f7a4 1 (some .int) 1 := ⟨q_inT3 (i := 27) (by decide +kernel) rfl, ini_J6, by decide, by decide, by decide +kernel, by decide⟩
theorem FI_X0 : q_FI 0 RX0 TX0 7 tyX0 := ⟨fun w hw => List.mem_filter.mpr ⟨by revert w; decide +kernel, by revert w; decide +kernel⟩, rfl, tyX0_ok, nmX0⟩
theorem FI_X2 : q_FI 1 RX2 TX2 4 tyX2 := ⟨fun w hw => List.mem_filter.mpr ⟨by revert w; decide +kernel, by revert w; decide +kernel⟩, rfl, tyX2_ok, nmX2⟩
theorem FI_X3 : q_FI 2 RX3 TX3 2 tyX3 := ⟨fun w hw => List.mem_filter.mpr ⟨by revert w; decide +kernel, by revert w; decide +kernel⟩, rfl, tyX3_ok, nmX3⟩
theorem FI_X4 : q_FI 3 RX4 TX4 2 tyX4 := ⟨fun w hw => List.mem_filter.mpr ⟨by revert w; decide +kernel, by revert w; decide +kernel⟩, rfl, tyX4_ok, nmX4⟩
theorem FI_X5 : q_FI 4 RX5 TX5 2 tyX5 := ⟨fun w hw => List.mem_filter.mpr ⟨by revert w; decide +kernel, by revert w; decide +kernel⟩, rfl, tyX5_ok, nmX5⟩
theorem FI_X6 : q_FI 5 RX6 TX6 2 tyX6 := ⟨fun w hw => List.mem_filter.mpr ⟨by revert w; decide +kernel, by revert w; decide +kernel⟩, rfl, tyX6_ok, nmX6⟩
theorem FI_X7 : q_FI 6 RX7 TX7 1 tyX7 := ⟨fun w hw => List.mem_filter.mpr ⟨by revert w; decide +kernel, by revert w; decide +kernel⟩, rfl, tyX7_ok, nmX7⟩
theorem FI_X8 : q_FI 7 RX8 TX8 2 tyX8 := ⟨fun w hw => List.mem_filter.mpr ⟨by revert w; decide +kernel, by revert w; decide +kernel⟩, rfl, tyX8_ok, nmX8⟩
theorem FI_X9 : q_FI 8 RX9 TX9 10 tyX9 := ⟨fun w hw => List.mem_filter.mpr ⟨by revert w; decide +kernel, by revert w; decide +kernel⟩, rfl, tyX9_ok, nmX9⟩
theorem FI_X10 : q_FI 9 RX10 TX10 26 tyX10 := ⟨fun w hw => List.mem_filter.mpr ⟨by revert w; decide +kernel, by revert w; decide +kernel⟩, rfl, tyX10_ok, nmX10⟩
