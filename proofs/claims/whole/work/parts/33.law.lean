def b_L_law_1377 (xs : Nat → Int32) (L : Nat) (k23 : q_H → UInt32 → Nat → Nat → Nat → Int32 → Option (q_H × Int32)) (h : q_H) (v0 : UInt32) (v1 : Nat) (v2 : Nat) (v3 : Nat) (v4 : Int32) : Option (q_H × Int32) :=
  k23 h v0 v1 v2 v3 (v4 + 5)
def b_L_law_1374 (xs : Nat → Int32) (L : Nat) (k23 : q_H → UInt32 → Nat → Nat → Nat → Int32 → Option (q_H × Int32)) (h : q_H) (v0 : UInt32) (v1 : Nat) (v2 : Nat) (v3 : Nat) (v4 : Int32) : Option (q_H × Int32) :=
  b_L_law_1377 xs L k23 h v0 v1 v2 v3 v4
def b_L_law_391 (xs : Nat → Int32) (L : Nat) (k23 : q_H → UInt32 → Nat → Nat → Nat → Int32 → Option (q_H × Int32)) (h : q_H) (v0 : UInt32) (v1 : Nat) (v2 : Nat) (v3 : Nat) (v4 : Int32) : Option (q_H × Int32) :=
  b_L_law_1377 xs L k23 h v0 v1 v2 v3 v4
def b_L_law_311 (xs : Nat → Int32) (L : Nat) (k23 : q_H → UInt32 → Nat → Nat → Nat → Int32 → Option (q_H × Int32)) (h : q_H) (v0 : UInt32) (v1 : Nat) (v2 : Nat) (v3 : Nat) (v4 : Int32) : Option (q_H × Int32) :=
  b_L_law_1377 xs L k23 h v0 v1 v2 v3 v4
def b_L_law_23 (xs : Nat → Int32) (L : Nat) (k23 : q_H → UInt32 → Nat → Nat → Nat → Int32 → Option (q_H × Int32)) (h : q_H) (v0 : UInt32) (v1 : Nat) (v2 : Nat) (v3 : Nat) (v4 : Int32) : Option (q_H × Int32) :=
  Option.bind (q_scl L v0) (fun x1 => if (x1 - (5)) < v4 then some (h, (1)) else Option.bind (q_scr xs L v0 v4) (fun x2 => if (x2 &&& (63)) = (0) then Option.bind (q_scr xs L v0 (v4 + (1))) (fun x4 => Option.bind (f_X9_sign h v1 x4) (fun q5 => Option.bind (q_scr xs L v0 (v4 + (1))) (fun x6 => Option.bind (f_X10_sign q5.1 v2 x6) (fun q7 => if q5.2 = q7.2 then b_L_law_1377 xs L k23 q7.1 v0 v1 v2 v3 v4 else none)))) else if (x2 &&& (63)) = (1) then Option.bind (q_scr xs L v0 (v4 + (1))) (fun x9 => Option.bind (f_X9_end h v1 x9) (fun q10 => Option.bind (q_scr xs L v0 (v4 + (1))) (fun x11 => Option.bind (f_X10_end q10.1 v2 x11) (fun q12 => if q10.2 = q12.2 then b_L_law_1377 xs L k23 q12.1 v0 v1 v2 v3 v4 else none)))) else if (x2 &&& (63)) = (2) then Option.bind (q_scr xs L v0 (v4 + (1))) (fun x14 => Option.bind (q_scr xs L v0 (v4 + (2))) (fun x15 => Option.bind (q_scr xs L v0 (v4 + (3))) (fun x16 => Option.bind (q_or (f_L_entry h v1 x14 x15 x16 v3) (t_L_entry h v1 x14 x15 x16 v3)) (fun q17 => Option.bind (q_scr xs L v0 (v4 + (1))) (fun x18 => Option.bind (q_scr xs L v0 (v4 + (2))) (fun x19 => Option.bind (q_scr xs L v0 (v4 + (3))) (fun x20 => Option.bind (f_X10_entry q17.1 v2 x18 x19 x20) (fun q21 => Option.bind (f_X10_thrown q21.1 v2) (fun q22 => if q22.2 = q17.2 then if q17.2 = 0 then Option.bind (q_lL q22.1 v3 (0)) (fun x23 => if (lg_cmp x23 (Int32.toInt64 q21.2)) = 0 then b_L_law_311 xs L k23 q22.1 v0 v1 v2 v3 v4 else none) else b_L_law_311 xs L k23 q22.1 v0 v1 v2 v3 v4 else none))))))))) else if (x2 &&& (63)) = (3) then Option.bind (q_scr xs L v0 (v4 + (1))) (fun x25 => Option.bind (q_scr xs L v0 (v4 + (2))) (fun x26 => Option.bind (q_scr xs L v0 (v4 + (3))) (fun x27 => Option.bind (q_or (f_L_move h v1 x25 x26 x27 v3) (t_L_move h v1 x25 x26 x27 v3)) (fun q28 => Option.bind (q_scr xs L v0 (v4 + (1))) (fun x29 => Option.bind (q_scr xs L v0 (v4 + (2))) (fun x30 => Option.bind (q_scr xs L v0 (v4 + (3))) (fun x31 => Option.bind (f_X10_move q28.1 v2 x29 x30 x31) (fun q32 => Option.bind (f_X10_thrown q32.1 v2) (fun q33 => if q33.2 = q28.2 then if q28.2 = 0 then Option.bind (q_lL q33.1 v3 (0)) (fun x34 => if (lg_cmp x34 (Int32.toInt64 q32.2)) = 0 then b_L_law_391 xs L k23 q33.1 v0 v1 v2 v3 v4 else none) else b_L_law_391 xs L k23 q33.1 v0 v1 v2 v3 v4 else none))))))))) else if (x2 &&& (63)) = (4) then Option.bind (q_scr xs L v0 (v4 + (1))) (fun x36 => Option.bind (q_scr xs L v0 (v4 + (2))) (fun x37 => Option.bind (q_scr xs L v0 (v4 + (3))) (fun x38 => Option.bind (q_scr xs L v0 (v4 + (4))) (fun x39 => Option.bind (f_X9_makes h v1 x36 x37 x38 x39) (fun q40 => Option.bind (q_scr xs L v0 (v4 + (1))) (fun x41 => Option.bind (q_scr xs L v0 (v4 + (2))) (fun x42 => Option.bind (q_scr xs L v0 (v4 + (3))) (fun x43 => Option.bind (q_scr xs L v0 (v4 + (4))) (fun x44 => Option.bind (f_X10_makes q40.1 v2 x41 x42 x43 x44) (fun q45 => if q40.2 = q45.2 then b_L_law_1377 xs L k23 q45.1 v0 v1 v2 v3 v4 else none)))))))))) else if (x2 &&& (63)) = (5) then Option.bind (q_scr xs L v0 (v4 + (1))) (fun x47 => Option.bind (f_X9_beats h v1 x47) (fun q48 => Option.bind (q_scr xs L v0 (v4 + (1))) (fun x49 => Option.bind (f_X10_beats q48.1 v2 x49) (fun q50 => if q48.2 = q50.2 then b_L_law_1377 xs L k23 q50.1 v0 v1 v2 v3 v4 else none)))) else if (x2 &&& (63)) = (6) then Option.bind (q_scr xs L v0 (v4 + (1))) (fun x52 => Option.bind (q_scr xs L v0 (v4 + (2))) (fun x53 => Option.bind (f_X9_comes h v1 x52 x53) (fun q54 => Option.bind (q_scr xs L v0 (v4 + (1))) (fun x55 => Option.bind (q_scr xs L v0 (v4 + (2))) (fun x56 => Option.bind (f_X10_comes q54.1 v2 x55 x56) (fun q57 => if q54.2 = q57.2 then b_L_law_1377 xs L k23 q57.1 v0 v1 v2 v3 v4 else none)))))) else if (x2 &&& (63)) = (7) then Option.bind (q_scr xs L v0 (v4 + (1))) (fun x59 => Option.bind (f_X9_gathers h v1 x59) (fun q60 => Option.bind (q_scr xs L v0 (v4 + (1))) (fun x61 => Option.bind (f_X10_gathers q60.1 v2 x61) (fun q62 => if q60.2 = q62.2 then b_L_law_1377 xs L k23 q62.1 v0 v1 v2 v3 v4 else none)))) else if (x2 &&& (63)) = (8) then Option.bind (q_scr xs L v0 (v4 + (1))) (fun x64 => Option.bind (f_X9_cuts h v1 x64) (fun q65 => Option.bind (q_scr xs L v0 (v4 + (1))) (fun x66 => Option.bind (f_X10_cuts q65.1 v2 x66) (fun q67 => if q65.2 = q67.2 then b_L_law_1377 xs L k23 q67.1 v0 v1 v2 v3 v4 else none)))) else if (x2 &&& (63)) = (9) then Option.bind (f_X9_day h v1) (fun q69 => Option.bind (f_X10_day q69.1 v2) (fun q70 => if q69.2 = q70.2 then b_L_law_1377 xs L k23 q70.1 v0 v1 v2 v3 v4 else none)) else if (x2 &&& (63)) = (10) then Option.bind (q_scr xs L v0 (v4 + (1))) (fun x72 => Option.bind (q_scr xs L v0 (v4 + (2))) (fun x73 => Option.bind (f_X9_letters h v1 x72 x73) (fun q74 => Option.bind (q_scr xs L v0 (v4 + (1))) (fun x75 => Option.bind (q_scr xs L v0 (v4 + (2))) (fun x76 => Option.bind (f_X10_letters q74.1 v2 x75 x76) (fun q77 => if q74.2 = q77.2 then b_L_law_1377 xs L k23 q77.1 v0 v1 v2 v3 v4 else none)))))) else if (x2 &&& (63)) = (11) then Option.bind (q_scr xs L v0 (v4 + (1))) (fun x79 => Option.bind (f_X9_stable h v1 x79) (fun q80 => Option.bind (q_scr xs L v0 (v4 + (1))) (fun x81 => Option.bind (f_X10_stable q80.1 v2 x81) (fun q82 => if q80.2 = q82.2 then b_L_law_1377 xs L k23 q82.1 v0 v1 v2 v3 v4 else none)))) else if (x2 &&& (63)) = (12) then Option.bind (q_scr xs L v0 (v4 + (1))) (fun x84 => Option.bind (f_X9_voids h v1 x84) (fun q85 => Option.bind (q_scr xs L v0 (v4 + (1))) (fun x86 => Option.bind (f_X10_voids q85.1 v2 x86) (fun q87 => if q85.2 = q87.2 then b_L_law_1377 xs L k23 q87.1 v0 v1 v2 v3 v4 else none)))) else if (x2 &&& (63)) = (13) then Option.bind (q_scr xs L v0 (v4 + (1))) (fun x89 => Option.bind (q_scr xs L v0 (v4 + (2))) (fun x90 => Option.bind (f_X9_below h v1 x89 x90) (fun q91 => Option.bind (q_scr xs L v0 (v4 + (1))) (fun x92 => Option.bind (q_scr xs L v0 (v4 + (2))) (fun x93 => Option.bind (f_X10_below q91.1 v2 x92 x93) (fun q94 => if q91.2 = q94.2 then b_L_law_1377 xs L k23 q94.1 v0 v1 v2 v3 v4 else none)))))) else if (x2 &&& (63)) = (14) then Option.bind (q_scr xs L v0 (v4 + (1))) (fun x96 => Option.bind (q_scr xs L v0 (v4 + (2))) (fun x97 => Option.bind (f_X9_depth h v1 x96 x97) (fun q98 => Option.bind (q_scr xs L v0 (v4 + (1))) (fun x99 => Option.bind (q_scr xs L v0 (v4 + (2))) (fun x100 => Option.bind (f_X10_depth q98.1 v2 x99 x100) (fun q101 => if q98.2 = q101.2 then b_L_law_1377 xs L k23 q101.1 v0 v1 v2 v3 v4 else none)))))) else if (x2 &&& (63)) = (15) then Option.bind (q_scr xs L v0 (v4 + (1))) (fun x103 => Option.bind (q_scr xs L v0 (v4 + (2))) (fun x104 => Option.bind (q_scr xs L v0 (v4 + (3))) (fun x105 => Option.bind (f_X9_meets h v1 x103 x104 x105) (fun q106 => Option.bind (q_scr xs L v0 (v4 + (1))) (fun x107 => Option.bind (q_scr xs L v0 (v4 + (2))) (fun x108 => Option.bind (q_scr xs L v0 (v4 + (3))) (fun x109 => Option.bind (f_X10_meets q106.1 v2 x107 x108 x109) (fun q110 => if q106.2 = q110.2 then b_L_law_1377 xs L k23 q110.1 v0 v1 v2 v3 v4 else none)))))))) else if (x2 &&& (63)) = (16) then Option.bind (q_scr xs L v0 (v4 + (1))) (fun x112 => Option.bind (q_scr xs L v0 (v4 + (2))) (fun x113 => Option.bind (f_X9_places h v1 x112 x113) (fun q114 => Option.bind (q_scr xs L v0 (v4 + (1))) (fun x115 => Option.bind (q_scr xs L v0 (v4 + (2))) (fun x116 => Option.bind (f_X10_places q114.1 v2 x115 x116) (fun q117 => if q114.2 = q117.2 then b_L_law_1377 xs L k23 q117.1 v0 v1 v2 v3 v4 else none)))))) else if (x2 &&& (63)) = (17) then Option.bind (q_scr xs L v0 (v4 + (1))) (fun x119 => Option.bind (q_scr xs L v0 (v4 + (2))) (fun x120 => Option.bind (q_scr xs L v0 (v4 + (3))) (fun x121 => Option.bind (f_X9_total h v1 x119 x120 x121) (fun q122 => Option.bind (q_scr xs L v0 (v4 + (1))) (fun x123 => Option.bind (q_scr xs L v0 (v4 + (2))) (fun x124 => Option.bind (q_scr xs L v0 (v4 + (3))) (fun x125 => Option.bind (f_X10_total q122.1 v2 x123 x124 x125) (fun q126 => if q122.2 = q126.2 then b_L_law_1377 xs L k23 q126.1 v0 v1 v2 v3 v4 else none)))))))) else if (x2 &&& (63)) = (18) then Option.bind (q_scr xs L v0 (v4 + (1))) (fun x128 => Option.bind (q_scr xs L v0 (v4 + (2))) (fun x129 => Option.bind (q_scr xs L v0 (v4 + (3))) (fun x130 => Option.bind (f_X9_lists h v1 x128 x129 x130) (fun q131 => Option.bind (q_scr xs L v0 (v4 + (1))) (fun x132 => Option.bind (q_scr xs L v0 (v4 + (2))) (fun x133 => Option.bind (q_scr xs L v0 (v4 + (3))) (fun x134 => Option.bind (f_X10_lists q131.1 v2 x132 x133 x134) (fun q135 => if q131.2 = q135.2 then b_L_law_1377 xs L k23 q135.1 v0 v1 v2 v3 v4 else none)))))))) else if (x2 &&& (63)) = (19) then Option.bind (q_scr xs L v0 (v4 + (1))) (fun x137 => Option.bind (f_X9_finds h v1 x137) (fun q138 => Option.bind (q_scr xs L v0 (v4 + (1))) (fun x139 => Option.bind (f_X10_finds q138.1 v2 x139) (fun q140 => if q138.2 = q140.2 then b_L_law_1377 xs L k23 q140.1 v0 v1 v2 v3 v4 else none)))) else if (x2 &&& (63)) = (20) then Option.bind (q_scr xs L v0 (v4 + (1))) (fun x142 => Option.bind (q_scr xs L v0 (v4 + (2))) (fun x143 => Option.bind (f_X9_path h v1 x142 x143) (fun q144 => Option.bind (q_scr xs L v0 (v4 + (1))) (fun x145 => Option.bind (q_scr xs L v0 (v4 + (2))) (fun x146 => Option.bind (f_X10_path q144.1 v2 x145 x146) (fun q147 => if q144.2 = q147.2 then b_L_law_1377 xs L k23 q147.1 v0 v1 v2 v3 v4 else none)))))) else if (x2 &&& (63)) = (21) then Option.bind (q_scr xs L v0 (v4 + (1))) (fun x149 => Option.bind (q_scr xs L v0 (v4 + (2))) (fun x150 => Option.bind (f_X9_apart h v1 x149 x150) (fun q151 => Option.bind (q_scr xs L v0 (v4 + (1))) (fun x152 => Option.bind (q_scr xs L v0 (v4 + (2))) (fun x153 => Option.bind (f_X10_apart q151.1 v2 x152 x153) (fun q154 => if q151.2 = q154.2 then b_L_law_1377 xs L k23 q154.1 v0 v1 v2 v3 v4 else none)))))) else if (x2 &&& (63)) = (22) then Option.bind (q_scr xs L v0 (v4 + (1))) (fun x156 => Option.bind (q_scr xs L v0 (v4 + (2))) (fun x157 => Option.bind (f_X9_late h v1 x156 x157) (fun q158 => Option.bind (q_scr xs L v0 (v4 + (1))) (fun x159 => Option.bind (q_scr xs L v0 (v4 + (2))) (fun x160 => Option.bind (f_X10_late q158.1 v2 x159 x160) (fun q161 => if q158.2 = q161.2 then b_L_law_1377 xs L k23 q161.1 v0 v1 v2 v3 v4 else none)))))) else if (x2 &&& (63)) = (23) then Option.bind (q_scr xs L v0 (v4 + (1))) (fun x163 => Option.bind (f_X9_then h v1 x163) (fun q164 => Option.bind (q_scr xs L v0 (v4 + (1))) (fun x165 => Option.bind (f_X10_then q164.1 v2 x165) (fun q166 => if q164.2 = q166.2 then b_L_law_1377 xs L k23 q166.1 v0 v1 v2 v3 v4 else none)))) else if (x2 &&& (63)) = (24) then Option.bind (q_scr xs L v0 (v4 + (1))) (fun x168 => Option.bind (f_X9_worst h v1 x168) (fun q169 => Option.bind (q_scr xs L v0 (v4 + (1))) (fun x170 => Option.bind (f_X10_worst q169.1 v2 x170) (fun q171 => if q169.2 = q171.2 then b_L_law_1377 xs L k23 q171.1 v0 v1 v2 v3 v4 else none)))) else if (x2 &&& (63)) = (25) then Option.bind (q_scr xs L v0 (v4 + (1))) (fun x173 => Option.bind (q_scr xs L v0 (v4 + (2))) (fun x174 => Option.bind (f_X9_frees h v1 x173 x174) (fun q175 => Option.bind (q_scr xs L v0 (v4 + (1))) (fun x176 => Option.bind (q_scr xs L v0 (v4 + (2))) (fun x177 => Option.bind (f_X10_frees q175.1 v2 x176 x177) (fun q178 => if q175.2 = q178.2 then b_L_law_1377 xs L k23 q178.1 v0 v1 v2 v3 v4 else none)))))) else if (x2 &&& (63)) = (26) then Option.bind (q_scr xs L v0 (v4 + (1))) (fun x180 => Option.bind (f_X9_idle h v1 x180) (fun q181 => Option.bind (q_scr xs L v0 (v4 + (1))) (fun x182 => Option.bind (f_X10_idle q181.1 v2 x182) (fun q183 => if q181.2 = q183.2 then b_L_law_1377 xs L k23 q183.1 v0 v1 v2 v3 v4 else none)))) else if (x2 &&& (63)) = (27) then Option.bind (q_scr xs L v0 (v4 + (1))) (fun x185 => Option.bind (q_scr xs L v0 (v4 + (2))) (fun x186 => Option.bind (f_X9_nearest h v1 x185 x186) (fun q187 => Option.bind (q_scr xs L v0 (v4 + (1))) (fun x188 => Option.bind (q_scr xs L v0 (v4 + (2))) (fun x189 => Option.bind (f_X10_nearest q187.1 v2 x188 x189) (fun q190 => if q187.2 = q190.2 then b_L_law_1377 xs L k23 q190.1 v0 v1 v2 v3 v4 else none)))))) else if (x2 &&& (63)) = (28) then Option.bind (q_scr xs L v0 (v4 + (1))) (fun x192 => Option.bind (q_scr xs L v0 (v4 + (2))) (fun x193 => Option.bind (f_X9_years h v1 x192 x193) (fun q194 => Option.bind (q_scr xs L v0 (v4 + (1))) (fun x195 => Option.bind (q_scr xs L v0 (v4 + (2))) (fun x196 => Option.bind (f_X10_years q194.1 v2 x195 x196) (fun q197 => if q194.2 = q197.2 then b_L_law_1377 xs L k23 q197.1 v0 v1 v2 v3 v4 else none)))))) else if (x2 &&& (63)) = (29) then Option.bind (q_scr xs L v0 (v4 + (1))) (fun x199 => Option.bind (f_X9_keep h v1 x199) (fun q200 => Option.bind (q_scr xs L v0 (v4 + (1))) (fun x201 => Option.bind (f_X10_keep q200.1 v2 x201) (fun q202 => if q200.2 = q202.2 then b_L_law_1377 xs L k23 q202.1 v0 v1 v2 v3 v4 else none)))) else if (x2 &&& (63)) = (30) then Option.bind (q_scr xs L v0 (v4 + (1))) (fun x204 => Option.bind (f_X9_again h v1 x204) (fun q205 => Option.bind (q_scr xs L v0 (v4 + (1))) (fun x206 => Option.bind (f_X10_again q205.1 v2 x206) (fun q207 => if q205.2 = q207.2 then b_L_law_1377 xs L k23 q207.1 v0 v1 v2 v3 v4 else none)))) else if (x2 &&& (63)) = (31) then Option.bind (q_scr xs L v0 (v4 + (1))) (fun x209 => Option.bind (f_X9_count h v1 x209) (fun q210 => Option.bind (q_scr xs L v0 (v4 + (1))) (fun x211 => Option.bind (f_X10_count q210.1 v2 x211) (fun q212 => if q210.2 = q212.2 then b_L_law_1377 xs L k23 q212.1 v0 v1 v2 v3 v4 else none)))) else if (x2 &&& (63)) = (32) then Option.bind (q_scr xs L v0 (v4 + (1))) (fun x214 => Option.bind (q_or (f_L_row h v1 x214 v3) (t_L_row h v1 x214 v3)) (fun q215 => Option.bind (q_scr xs L v0 (v4 + (1))) (fun x216 => Option.bind (f_X10_row q215.1 v2 x216) (fun q217 => Option.bind (f_X10_thrown q217.1 v2) (fun q218 => if q218.2 = q215.2 then if q215.2 = 0 then Option.bind (q_lL q218.1 v3 (0)) (fun x219 => if (lg_cmp x219 q217.2) = 0 then b_L_law_1374 xs L k23 q218.1 v0 v1 v2 v3 v4 else none) else b_L_law_1374 xs L k23 q218.1 v0 v1 v2 v3 v4 else none))))) else b_L_law_1377 xs L k23 h v0 v1 v2 v3 v4))
def l_L_law_23 (xs : Nat → Int32) (L : Nat) : Nat → q_H → UInt32 → Nat → Nat → Nat → Int32 → Option (q_H × Int32)
  | 0, _, _, _, _, _, _ => none
  | n + 1, h, v0, v1, v2, v3, v4 => b_L_law_23 xs L (l_L_law_23 xs L n) h v0 v1 v2 v3 v4
def b_L_law_0 (xs : Nat → Int32) (L : Nat) (h : q_H) (v0 : UInt32) : Option (q_H × Int32) :=
  Option.bind (q_new 8 [.null, .null, .null, .null, .null, .null, .null, .null, .null, .int 0] h) (fun q220 => Option.bind (f_X9_init q220.1 q220.2) (fun q221 => Option.bind (q_new 9 [.int 0, .int 0, .null, .null, .int 0, .int 0, .int 0, .null, .null, .int 0, .null, .null, .int 0, .int 0, .int 0, .null, .null, .null, .null, .null, .null, .null, .null, .null, .int 0, .null] q221.1) (fun q222 => Option.bind (f_X10_init q222.1 q222.2) (fun q223 => Option.bind (q_nL q223.1 (1)) (fun q224 => l_L_law_23 xs L q_FU q224.1 v0 q220.2 q222.2 q224.2 (0))))))
set_option maxRecDepth 20000 in
set_option maxHeartbeats 4000000 in
theorem jb_L_law_1377 {G : q_G} {l : Launch} {k0 z0 B b : Nat} {nm : String} {tab : List ExceptionTableEntry} {xs : Nat → Int32} {L : Nat} (hx : G.2.2.2.2.2.2.2 = false) (hl : l.stackTraces = false) (hB : G.1 = B) (hxs : G.2.2.2.2.1 = xs) (hL : G.2.2.2.2.2.1 = L) (k23 : q_H → UInt32 → Nat → Nat → Nat → Int32 → Option (q_H × Int32)) (hk23 : ∀ (h : q_H) (v0 : UInt32) (v1 : Nat) (v2 : Nat) (v3 : Nat) (v4 : Int32), q_J G l (RL, cL_law, 8, 2048, 84000, some .boolean, nm, tab) k0 z0 (q_ZL B b) 23 [(0, .float v0), (1, .ref v1), (2, .ref v2), (3, .ref v3), (4, .int v4)] [] h (k23 h v0 v1 v2 v3 v4)) (h : q_H) (v0 : UInt32) (v1 : Nat) (v2 : Nat) (v3 : Nat) (v4 : Int32) : q_J G l (RL, cL_law, 8, 2048, 84000, some .boolean, nm, tab) k0 z0 (q_ZL B b) 1377 [(0, .float v0), (1, .ref v1), (2, .ref v2), (3, .ref v3), (4, .int v4)] [] h (b_L_law_1377 xs L k23 h v0 v1 v2 v3 v4) := by
  unfold b_L_law_1377
  refine j_inc (pc := 1377) (p := 4) (lv' := [(4, .int (v4 + 5)), (0, .float v0), (1, .ref v1), (2, .ref v2), (3, .ref v3)]) rfl ki_5 (by decide) rfl dL_law_1377 ?_
  refine j_goto (pc := 1380) (tgt := 23) dL_law_1380 (by decide) ?_
  refine j_sub [1, 2, 3, 4, 0] (lv' := [(0, .float v0), (1, .ref v1), (2, .ref v2), (3, .ref v3), (4, .int (v4 + 5))]) rfl ?_
  exact hk23 _ _ _ _ _ _
set_option maxRecDepth 20000 in
set_option maxHeartbeats 4000000 in
theorem jb_L_law_1374 {G : q_G} {l : Launch} {k0 z0 B b : Nat} {nm : String} {tab : List ExceptionTableEntry} {xs : Nat → Int32} {L : Nat} (hx : G.2.2.2.2.2.2.2 = false) (hl : l.stackTraces = false) (hB : G.1 = B) (hxs : G.2.2.2.2.1 = xs) (hL : G.2.2.2.2.2.1 = L) (k23 : q_H → UInt32 → Nat → Nat → Nat → Int32 → Option (q_H × Int32)) (hk23 : ∀ (h : q_H) (v0 : UInt32) (v1 : Nat) (v2 : Nat) (v3 : Nat) (v4 : Int32), q_J G l (RL, cL_law, 8, 2048, 84000, some .boolean, nm, tab) k0 z0 (q_ZL B b) 23 [(0, .float v0), (1, .ref v1), (2, .ref v2), (3, .ref v3), (4, .int v4)] [] h (k23 h v0 v1 v2 v3 v4)) (h : q_H) (v0 : UInt32) (v1 : Nat) (v2 : Nat) (v3 : Nat) (v4 : Int32) : q_J G l (RL, cL_law, 8, 2048, 84000, some .boolean, nm, tab) k0 z0 (q_ZL B b) 1374 [(0, .float v0), (1, .ref v1), (2, .ref v2), (3, .ref v3), (4, .int v4)] [] h (b_L_law_1374 xs L k23 h v0 v1 v2 v3 v4) := by
  unfold b_L_law_1374
  refine j_goto (pc := 1374) (tgt := 1377) dL_law_1374 (by decide) ?_
  exact jb_L_law_1377 hx hl hB hxs hL k23 hk23 _ _ _ _ _ _
set_option maxRecDepth 20000 in
set_option maxHeartbeats 4000000 in
theorem jb_L_law_391 {G : q_G} {l : Launch} {k0 z0 B b : Nat} {nm : String} {tab : List ExceptionTableEntry} {xs : Nat → Int32} {L : Nat} (hx : G.2.2.2.2.2.2.2 = false) (hl : l.stackTraces = false) (hB : G.1 = B) (hxs : G.2.2.2.2.1 = xs) (hL : G.2.2.2.2.2.1 = L) (k23 : q_H → UInt32 → Nat → Nat → Nat → Int32 → Option (q_H × Int32)) (hk23 : ∀ (h : q_H) (v0 : UInt32) (v1 : Nat) (v2 : Nat) (v3 : Nat) (v4 : Int32), q_J G l (RL, cL_law, 8, 2048, 84000, some .boolean, nm, tab) k0 z0 (q_ZL B b) 23 [(0, .float v0), (1, .ref v1), (2, .ref v2), (3, .ref v3), (4, .int v4)] [] h (k23 h v0 v1 v2 v3 v4)) (h : q_H) (v0 : UInt32) (v1 : Nat) (v2 : Nat) (v3 : Nat) (v4 : Int32) : q_J G l (RL, cL_law, 8, 2048, 84000, some .boolean, nm, tab) k0 z0 (q_ZL B b) 391 [(0, .float v0), (1, .ref v1), (2, .ref v2), (3, .ref v3), (4, .int v4)] [] h (b_L_law_391 xs L k23 h v0 v1 v2 v3 v4) := by
  unfold b_L_law_391
  refine j_goto (pc := 391) (tgt := 1377) dL_law_391 (by decide) ?_
  exact jb_L_law_1377 hx hl hB hxs hL k23 hk23 _ _ _ _ _ _
set_option maxRecDepth 20000 in
set_option maxHeartbeats 4000000 in
theorem jb_L_law_311 {G : q_G} {l : Launch} {k0 z0 B b : Nat} {nm : String} {tab : List ExceptionTableEntry} {xs : Nat → Int32} {L : Nat} (hx : G.2.2.2.2.2.2.2 = false) (hl : l.stackTraces = false) (hB : G.1 = B) (hxs : G.2.2.2.2.1 = xs) (hL : G.2.2.2.2.2.1 = L) (k23 : q_H → UInt32 → Nat → Nat → Nat → Int32 → Option (q_H × Int32)) (hk23 : ∀ (h : q_H) (v0 : UInt32) (v1 : Nat) (v2 : Nat) (v3 : Nat) (v4 : Int32), q_J G l (RL, cL_law, 8, 2048, 84000, some .boolean, nm, tab) k0 z0 (q_ZL B b) 23 [(0, .float v0), (1, .ref v1), (2, .ref v2), (3, .ref v3), (4, .int v4)] [] h (k23 h v0 v1 v2 v3 v4)) (h : q_H) (v0 : UInt32) (v1 : Nat) (v2 : Nat) (v3 : Nat) (v4 : Int32) : q_J G l (RL, cL_law, 8, 2048, 84000, some .boolean, nm, tab) k0 z0 (q_ZL B b) 311 [(0, .float v0), (1, .ref v1), (2, .ref v2), (3, .ref v3), (4, .int v4)] [] h (b_L_law_311 xs L k23 h v0 v1 v2 v3 v4) := by
  unfold b_L_law_311
  refine j_goto (pc := 311) (tgt := 1377) dL_law_311 (by decide) ?_
  exact jb_L_law_1377 hx hl hB hxs hL k23 hk23 _ _ _ _ _ _
set_option maxRecDepth 20000 in
set_option maxHeartbeats 4000000 in
theorem jb_L_law_23 {G : q_G} {l : Launch} {k0 z0 B b : Nat} {nm : String} {tab : List ExceptionTableEntry} {xs : Nat → Int32} {L : Nat} (hx : G.2.2.2.2.2.2.2 = false) (hl : l.stackTraces = false) (hB : G.1 = B) (hxs : G.2.2.2.2.1 = xs) (hL : G.2.2.2.2.2.1 = L) (k23 : q_H → UInt32 → Nat → Nat → Nat → Int32 → Option (q_H × Int32)) (hk23 : ∀ (h : q_H) (v0 : UInt32) (v1 : Nat) (v2 : Nat) (v3 : Nat) (v4 : Int32), q_J G l (RL, cL_law, 8, 2048, 84000, some .boolean, nm, tab) k0 z0 (q_ZL B b) 23 [(0, .float v0), (1, .ref v1), (2, .ref v2), (3, .ref v3), (4, .int v4)] [] h (k23 h v0 v1 v2 v3 v4)) (h : q_H) (v0 : UInt32) (v1 : Nat) (v2 : Nat) (v3 : Nat) (v4 : Int32) : q_J G l (RL, cL_law, 8, 2048, 84000, some .boolean, nm, tab) k0 z0 (q_ZL B b) 23 [(0, .float v0), (1, .ref v1), (2, .ref v2), (3, .ref v3), (4, .int v4)] [] h (b_L_law_23 xs L k23 h v0 v1 v2 v3 v4) := by
  unfold b_L_law_23
  refine j_iload (pc := 23) (p := 4) rfl dL_law_23 ?_
  refine j_sload_n (pc := 25) (p := 0) rfl rfl dL_law_25 ?_
  refine j_scl (pc := 26) hL dL_law_26 (fun x1 _ => ?_)
  refine j_iconst (pc := 27) ki_5 dL_law_27 ?_
  refine j_isub (pc := 28) dL_law_28 ?_
  refine j_ic_gt (pc := 29) (tgt := 1383) dL_law_29 (by decide) (fun _ => ?_) (fun _ => ?_)
  · refine j_iconst (pc := 1383) ki_1 dL_law_1383 ?_
    exact j_law1 (pc := 1384) hB rfl rfl dL_law_1384
  refine j_sload_n (pc := 32) (p := 0) rfl rfl dL_law_32 ?_
  refine j_iload (pc := 33) (p := 4) rfl dL_law_33 ?_
  refine j_scr (pc := 35) hxs hL dL_law_35 (fun x2 _ => ?_)
  refine j_bipush (pc := 36) kb_63 dL_law_36 ?_
  refine j_iand (pc := 38) dL_law_38 ?_
  refine j_ite (fun c3 => ?_) (fun c3 => ?_)
  · refine j_tsI (pc := 39) (y := 0) (off := 145) (tgt := 184) dL_law_39 c3 ⟨by decide, by decide, by decide⟩ (by decide) ?_
    refine j_aload_n (pc := 184) (p := 1) rfl rfl dL_law_184 ?_
    refine j_sload_n (pc := 185) (p := 0) rfl rfl dL_law_185 ?_
    refine j_iload (pc := 186) (p := 4) rfl dL_law_186 ?_
    refine j_iconst (pc := 188) ki_1 dL_law_188 ?_
    refine j_iadd (pc := 189) dL_law_189 ?_
    refine j_scr (pc := 190) hxs hL dL_law_190 (fun x4 _ => ?_)
    refine j_cVi (pc := 191) Y_X9_sign (ci := 8) (b := v1) rfl rfl ml_L_26 im_X9_sign se_X9_sign ⟨Nat.le_of_ble_eq_true rfl, Nat.le_of_ble_eq_true rfl⟩ dL_law_191 (As := [.int x4]) (rest := []) rfl rfl (Nat.le_of_ble_eq_true rfl) (fun x hq9 => c_X9_sign _ _ _ _ hq9) (fun q5 _ => ?_)
    refine j_aload_n (pc := 194) (p := 2) rfl rfl dL_law_194 ?_
    refine j_sload_n (pc := 195) (p := 0) rfl rfl dL_law_195 ?_
    refine j_iload (pc := 196) (p := 4) rfl dL_law_196 ?_
    refine j_iconst (pc := 198) ki_1 dL_law_198 ?_
    refine j_iadd (pc := 199) dL_law_199 ?_
    refine j_scr (pc := 200) hxs hL dL_law_200 (fun x6 _ => ?_)
    refine j_cVi (pc := 201) Y_X10_sign (ci := 9) (b := v2) rfl rfl ml_L_30 im_X10_sign se_X10_sign ⟨Nat.le_of_ble_eq_true rfl, Nat.le_of_ble_eq_true rfl⟩ dL_law_201 (As := [.int x6]) (rest := [.int q5.2]) rfl rfl (Nat.le_of_ble_eq_true rfl) (fun x hq9 => c_X10_sign _ _ _ _ hq9) (fun q7 _ => ?_)
    refine j_ic_eq (pc := 204) (tgt := 1377) dL_law_204 (by decide) (fun _ => ?_) (fun _ => ?_)
    · exact jb_L_law_1377 hx hl hB hxs hL k23 hk23 _ _ _ _ _ _
    refine j_iconst (pc := 207) ki_0 dL_law_207 ?_
    exact j_none
  refine j_ite (fun c8 => ?_) (fun c8 => ?_)
  · refine j_tsI (pc := 39) (y := 1) (off := 170) (tgt := 209) dL_law_39 c8 ⟨by decide, by decide, by decide⟩ (by decide) ?_
    refine j_aload_n (pc := 209) (p := 1) rfl rfl dL_law_209 ?_
    refine j_sload_n (pc := 210) (p := 0) rfl rfl dL_law_210 ?_
    refine j_iload (pc := 211) (p := 4) rfl dL_law_211 ?_
    refine j_iconst (pc := 213) ki_1 dL_law_213 ?_
    refine j_iadd (pc := 214) dL_law_214 ?_
    refine j_scr (pc := 215) hxs hL dL_law_215 (fun x9 _ => ?_)
    refine j_cVi (pc := 216) Y_X9_end (ci := 8) (b := v1) rfl rfl ml_L_31 im_X9_end se_X9_end ⟨Nat.le_of_ble_eq_true rfl, Nat.le_of_ble_eq_true rfl⟩ dL_law_216 (As := [.int x9]) (rest := []) rfl rfl (Nat.le_of_ble_eq_true rfl) (fun x hq9 => c_X9_end _ _ _ _ hq9) (fun q10 _ => ?_)
    refine j_aload_n (pc := 219) (p := 2) rfl rfl dL_law_219 ?_
    refine j_sload_n (pc := 220) (p := 0) rfl rfl dL_law_220 ?_
    refine j_iload (pc := 221) (p := 4) rfl dL_law_221 ?_
    refine j_iconst (pc := 223) ki_1 dL_law_223 ?_
    refine j_iadd (pc := 224) dL_law_224 ?_
    refine j_scr (pc := 225) hxs hL dL_law_225 (fun x11 _ => ?_)
    refine j_cVi (pc := 226) Y_X10_end (ci := 9) (b := v2) rfl rfl ml_L_35 im_X10_end se_X10_end ⟨Nat.le_of_ble_eq_true rfl, Nat.le_of_ble_eq_true rfl⟩ dL_law_226 (As := [.int x11]) (rest := [.int q10.2]) rfl rfl (Nat.le_of_ble_eq_true rfl) (fun x hq9 => c_X10_end _ _ _ _ hq9) (fun q12 _ => ?_)
    refine j_ic_eq (pc := 229) (tgt := 1377) dL_law_229 (by decide) (fun _ => ?_) (fun _ => ?_)
    · exact jb_L_law_1377 hx hl hB hxs hL k23 hk23 _ _ _ _ _ _
    refine j_iconst (pc := 232) ki_0 dL_law_232 ?_
    exact j_none
  refine j_ite (fun c13 => ?_) (fun c13 => ?_)
  · refine j_tsI (pc := 39) (y := 2) (off := 195) (tgt := 234) dL_law_39 c13 ⟨by decide, by decide, by decide⟩ (by decide) ?_
    refine j_aload_n (pc := 234) (p := 1) rfl rfl dL_law_234 ?_
    refine j_sload_n (pc := 235) (p := 0) rfl rfl dL_law_235 ?_
    refine j_iload (pc := 236) (p := 4) rfl dL_law_236 ?_
    refine j_iconst (pc := 238) ki_1 dL_law_238 ?_
    refine j_iadd (pc := 239) dL_law_239 ?_
    refine j_scr (pc := 240) hxs hL dL_law_240 (fun x14 _ => ?_)
    refine j_sload_n (pc := 241) (p := 0) rfl rfl dL_law_241 ?_
    refine j_iload (pc := 242) (p := 4) rfl dL_law_242 ?_
    refine j_iconst (pc := 244) ki_2 dL_law_244 ?_
    refine j_iadd (pc := 245) dL_law_245 ?_
    refine j_scr (pc := 246) hxs hL dL_law_246 (fun x15 _ => ?_)
    refine j_sload_n (pc := 247) (p := 0) rfl rfl dL_law_247 ?_
    refine j_iload (pc := 248) (p := 4) rfl dL_law_248 ?_
    refine j_iconst (pc := 250) ki_3 dL_law_250 ?_
    refine j_iadd (pc := 251) dL_law_251 ?_
    refine j_scr (pc := 252) hxs hL dL_law_252 (fun x16 _ => ?_)
    refine j_aload_n (pc := 253) (p := 3) rfl rfl dL_law_253 ?_
    refine j_cSW (pc := 254) Y_L_entry ml_L_36 sm_L_entry ⟨Nat.le_of_ble_eq_true rfl, Nat.le_of_ble_eq_true rfl⟩ dL_law_254 (As := [.ref v1, .int x14, .int x15, .int x16, .ref v3]) (rest := []) rfl rfl (Nat.le_of_ble_eq_true rfl) (fun x hq9 => (q_or_ok hq9).elim (fun e9 => c_L_entry _ _ _ _ _ _ _ e9) (fun e9 => ct_L_entry hx hl _ _ _ _ _ _ _ e9)) (fun q17 _ => ?_)
    refine j_istore (pc := 257) (lv' := [(5, .int q17.2), (0, .float v0), (1, .ref v1), (2, .ref v2), (3, .ref v3), (4, .int v4)]) (by decide) rfl dL_law_257 ?_
    refine j_aload_n (pc := 259) (p := 3) rfl rfl dL_law_259 ?_
    refine j_sload_n (pc := 260) (p := 1) rfl rfl dL_law_260 ?_
    refine j_iload (pc := 261) (p := 5) rfl dL_law_261 ?_
    refine j_iconst (pc := 263) ki_1 dL_law_263 ?_
    refine j_iadd (pc := 264) dL_law_264 ?_
    refine j_scr (pc := 265) hxs hL dL_law_265 (fun x18 _ => ?_)
    refine j_sload_n (pc := 266) (p := 1) rfl rfl dL_law_266 ?_
    refine j_iload (pc := 267) (p := 5) rfl dL_law_267 ?_
    refine j_iconst (pc := 269) ki_2 dL_law_269 ?_
    refine j_iadd (pc := 270) dL_law_270 ?_
    refine j_scr (pc := 271) hxs hL dL_law_271 (fun x19 _ => ?_)
    refine j_sload_n (pc := 272) (p := 1) rfl rfl dL_law_272 ?_
    refine j_iload (pc := 273) (p := 5) rfl dL_law_273 ?_
    refine j_iconst (pc := 275) ki_3 dL_law_275 ?_
    refine j_iadd (pc := 276) dL_law_276 ?_
    refine j_scr (pc := 277) hxs hL dL_law_277 (fun x20 _ => ?_)
    refine j_cVi (pc := 278) Y_X10_entry (ci := 9) (b := v2) rfl rfl ml_L_41 im_X10_entry se_X10_entry ⟨Nat.le_of_ble_eq_true rfl, Nat.le_of_ble_eq_true rfl⟩ dL_law_278 (As := [.int x18, .int x19, .int x20]) (rest := []) rfl rfl (Nat.le_of_ble_eq_true rfl) (fun x hq9 => c_X10_entry _ _ _ _ _ _ hq9) (fun q21 _ => ?_)
    refine j_istore (pc := 281) (lv' := [(6, .int q21.2), (5, .int q17.2), (0, .float v0), (1, .ref v1), (2, .ref v2), (3, .ref v3), (4, .int v4)]) (by decide) rfl dL_law_281 ?_
    refine j_aload_n (pc := 283) (p := 4) rfl rfl dL_law_283 ?_
    refine j_cVi (pc := 284) Y_X10_thrown (ci := 9) (b := v2) rfl rfl ml_L_42 im_X10_thrown se_X10_thrown ⟨Nat.le_of_ble_eq_true rfl, Nat.le_of_ble_eq_true rfl⟩ dL_law_284 (As := []) (rest := []) rfl rfl (Nat.le_of_ble_eq_true rfl) (fun x hq9 => c_X10_thrown _ _ _ hq9) (fun q22 _ => ?_)
    refine j_iload (pc := 287) (p := 1) rfl dL_law_287 ?_
    refine j_ic_eq (pc := 289) (tgt := 294) dL_law_289 (by decide) (fun _ => ?_) (fun _ => ?_)
    · refine j_iload (pc := 294) (p := 1) rfl dL_law_294 ?_
      refine j_if_ne (pc := 296) (tgt := 311) dL_law_296 (by decide) (fun _ => ?_) (fun _ => ?_)
      · refine j_aload_n (pc := 299) (p := 5) rfl rfl dL_law_299 ?_
        refine j_iconst (pc := 300) ki_0 dL_law_300 ?_
        refine j_lald (pc := 301) dL_law_301 (fun x23 _ => ?_)
        refine j_iload (pc := 302) (p := 0) rfl dL_law_302 ?_
        refine j_i2l (pc := 304) dL_law_304 ?_
        refine j_lcmp (pc := 305) dL_law_305 ?_
        refine j_if_eq (pc := 306) (tgt := 311) dL_law_306 (by decide) (fun _ => ?_) (fun _ => ?_)
        · refine j_sub [2, 3, 4, 5, 6] (lv' := [(0, .float v0), (1, .ref v1), (2, .ref v2), (3, .ref v3), (4, .int v4)]) rfl ?_
          exact jb_L_law_311 hx hl hB hxs hL k23 hk23 _ _ _ _ _ _
        refine j_iconst (pc := 309) ki_0 dL_law_309 ?_
        exact j_none
      refine j_sub [2, 3, 4, 5, 6] (lv' := [(0, .float v0), (1, .ref v1), (2, .ref v2), (3, .ref v3), (4, .int v4)]) rfl ?_
      exact jb_L_law_311 hx hl hB hxs hL k23 hk23 _ _ _ _ _ _
    refine j_iconst (pc := 292) ki_0 dL_law_292 ?_
    exact j_none
  refine j_ite (fun c24 => ?_) (fun c24 => ?_)
  · refine j_tsI (pc := 39) (y := 3) (off := 275) (tgt := 314) dL_law_39 c24 ⟨by decide, by decide, by decide⟩ (by decide) ?_
    refine j_aload_n (pc := 314) (p := 1) rfl rfl dL_law_314 ?_
    refine j_sload_n (pc := 315) (p := 0) rfl rfl dL_law_315 ?_
    refine j_iload (pc := 316) (p := 4) rfl dL_law_316 ?_
    refine j_iconst (pc := 318) ki_1 dL_law_318 ?_
    refine j_iadd (pc := 319) dL_law_319 ?_
    refine j_scr (pc := 320) hxs hL dL_law_320 (fun x25 _ => ?_)
    refine j_sload_n (pc := 321) (p := 0) rfl rfl dL_law_321 ?_
    refine j_iload (pc := 322) (p := 4) rfl dL_law_322 ?_
    refine j_iconst (pc := 324) ki_2 dL_law_324 ?_
    refine j_iadd (pc := 325) dL_law_325 ?_
    refine j_scr (pc := 326) hxs hL dL_law_326 (fun x26 _ => ?_)
    refine j_sload_n (pc := 327) (p := 0) rfl rfl dL_law_327 ?_
    refine j_iload (pc := 328) (p := 4) rfl dL_law_328 ?_
    refine j_iconst (pc := 330) ki_3 dL_law_330 ?_
    refine j_iadd (pc := 331) dL_law_331 ?_
    refine j_scr (pc := 332) hxs hL dL_law_332 (fun x27 _ => ?_)
    refine j_aload_n (pc := 333) (p := 3) rfl rfl dL_law_333 ?_
    refine j_cSW (pc := 334) Y_L_move ml_L_46 sm_L_move ⟨Nat.le_of_ble_eq_true rfl, Nat.le_of_ble_eq_true rfl⟩ dL_law_334 (As := [.ref v1, .int x25, .int x26, .int x27, .ref v3]) (rest := []) rfl rfl (Nat.le_of_ble_eq_true rfl) (fun x hq9 => (q_or_ok hq9).elim (fun e9 => c_L_move _ _ _ _ _ _ _ e9) (fun e9 => ct_L_move hx hl _ _ _ _ _ _ _ e9)) (fun q28 _ => ?_)
    refine j_istore (pc := 337) (lv' := [(5, .int q28.2), (0, .float v0), (1, .ref v1), (2, .ref v2), (3, .ref v3), (4, .int v4)]) (by decide) rfl dL_law_337 ?_
    refine j_aload_n (pc := 339) (p := 3) rfl rfl dL_law_339 ?_
    refine j_sload_n (pc := 340) (p := 1) rfl rfl dL_law_340 ?_
    refine j_iload (pc := 341) (p := 5) rfl dL_law_341 ?_
    refine j_iconst (pc := 343) ki_1 dL_law_343 ?_
    refine j_iadd (pc := 344) dL_law_344 ?_
    refine j_scr (pc := 345) hxs hL dL_law_345 (fun x29 _ => ?_)
    refine j_sload_n (pc := 346) (p := 1) rfl rfl dL_law_346 ?_
    refine j_iload (pc := 347) (p := 5) rfl dL_law_347 ?_
    refine j_iconst (pc := 349) ki_2 dL_law_349 ?_
    refine j_iadd (pc := 350) dL_law_350 ?_
    refine j_scr (pc := 351) hxs hL dL_law_351 (fun x30 _ => ?_)
    refine j_sload_n (pc := 352) (p := 1) rfl rfl dL_law_352 ?_
    refine j_iload (pc := 353) (p := 5) rfl dL_law_353 ?_
    refine j_iconst (pc := 355) ki_3 dL_law_355 ?_
    refine j_iadd (pc := 356) dL_law_356 ?_
    refine j_scr (pc := 357) hxs hL dL_law_357 (fun x31 _ => ?_)
    refine j_cVi (pc := 358) Y_X10_move (ci := 9) (b := v2) rfl rfl ml_L_48 im_X10_move se_X10_move ⟨Nat.le_of_ble_eq_true rfl, Nat.le_of_ble_eq_true rfl⟩ dL_law_358 (As := [.int x29, .int x30, .int x31]) (rest := []) rfl rfl (Nat.le_of_ble_eq_true rfl) (fun x hq9 => c_X10_move _ _ _ _ _ _ hq9) (fun q32 _ => ?_)
    refine j_istore (pc := 361) (lv' := [(6, .int q32.2), (5, .int q28.2), (0, .float v0), (1, .ref v1), (2, .ref v2), (3, .ref v3), (4, .int v4)]) (by decide) rfl dL_law_361 ?_
    refine j_aload_n (pc := 363) (p := 4) rfl rfl dL_law_363 ?_
    refine j_cVi (pc := 364) Y_X10_thrown (ci := 9) (b := v2) rfl rfl ml_L_42 im_X10_thrown se_X10_thrown ⟨Nat.le_of_ble_eq_true rfl, Nat.le_of_ble_eq_true rfl⟩ dL_law_364 (As := []) (rest := []) rfl rfl (Nat.le_of_ble_eq_true rfl) (fun x hq9 => c_X10_thrown _ _ _ hq9) (fun q33 _ => ?_)
    refine j_iload (pc := 367) (p := 1) rfl dL_law_367 ?_
    refine j_ic_eq (pc := 369) (tgt := 374) dL_law_369 (by decide) (fun _ => ?_) (fun _ => ?_)
    · refine j_iload (pc := 374) (p := 1) rfl dL_law_374 ?_
      refine j_if_ne (pc := 376) (tgt := 391) dL_law_376 (by decide) (fun _ => ?_) (fun _ => ?_)
      · refine j_aload_n (pc := 379) (p := 5) rfl rfl dL_law_379 ?_
        refine j_iconst (pc := 380) ki_0 dL_law_380 ?_
        refine j_lald (pc := 381) dL_law_381 (fun x34 _ => ?_)
        refine j_iload (pc := 382) (p := 0) rfl dL_law_382 ?_
        refine j_i2l (pc := 384) dL_law_384 ?_
        refine j_lcmp (pc := 385) dL_law_385 ?_
        refine j_if_eq (pc := 386) (tgt := 391) dL_law_386 (by decide) (fun _ => ?_) (fun _ => ?_)
        · refine j_sub [2, 3, 4, 5, 6] (lv' := [(0, .float v0), (1, .ref v1), (2, .ref v2), (3, .ref v3), (4, .int v4)]) rfl ?_
          exact jb_L_law_391 hx hl hB hxs hL k23 hk23 _ _ _ _ _ _
        refine j_iconst (pc := 389) ki_0 dL_law_389 ?_
        exact j_none
      refine j_sub [2, 3, 4, 5, 6] (lv' := [(0, .float v0), (1, .ref v1), (2, .ref v2), (3, .ref v3), (4, .int v4)]) rfl ?_
      exact jb_L_law_391 hx hl hB hxs hL k23 hk23 _ _ _ _ _ _
    refine j_iconst (pc := 372) ki_0 dL_law_372 ?_
    exact j_none
  refine j_ite (fun c35 => ?_) (fun c35 => ?_)
  · refine j_tsI (pc := 39) (y := 4) (off := 355) (tgt := 394) dL_law_39 c35 ⟨by decide, by decide, by decide⟩ (by decide) ?_
    refine j_aload_n (pc := 394) (p := 1) rfl rfl dL_law_394 ?_
    refine j_sload_n (pc := 395) (p := 0) rfl rfl dL_law_395 ?_
    refine j_iload (pc := 396) (p := 4) rfl dL_law_396 ?_
    refine j_iconst (pc := 398) ki_1 dL_law_398 ?_
    refine j_iadd (pc := 399) dL_law_399 ?_
    refine j_scr (pc := 400) hxs hL dL_law_400 (fun x36 _ => ?_)
    refine j_sload_n (pc := 401) (p := 0) rfl rfl dL_law_401 ?_
    refine j_iload (pc := 402) (p := 4) rfl dL_law_402 ?_
    refine j_iconst (pc := 404) ki_2 dL_law_404 ?_
    refine j_iadd (pc := 405) dL_law_405 ?_
    refine j_scr (pc := 406) hxs hL dL_law_406 (fun x37 _ => ?_)
    refine j_sload_n (pc := 407) (p := 0) rfl rfl dL_law_407 ?_
    refine j_iload (pc := 408) (p := 4) rfl dL_law_408 ?_
    refine j_iconst (pc := 410) ki_3 dL_law_410 ?_
    refine j_iadd (pc := 411) dL_law_411 ?_
    refine j_scr (pc := 412) hxs hL dL_law_412 (fun x38 _ => ?_)
    refine j_sload_n (pc := 413) (p := 0) rfl rfl dL_law_413 ?_
    refine j_iload (pc := 414) (p := 4) rfl dL_law_414 ?_
    refine j_iconst (pc := 416) ki_4 dL_law_416 ?_
    refine j_iadd (pc := 417) dL_law_417 ?_
    refine j_scr (pc := 418) hxs hL dL_law_418 (fun x39 _ => ?_)
    refine j_cVi (pc := 419) Y_X9_makes (ci := 8) (b := v1) rfl rfl ml_L_49 im_X9_makes se_X9_makes ⟨Nat.le_of_ble_eq_true rfl, Nat.le_of_ble_eq_true rfl⟩ dL_law_419 (As := [.int x36, .int x37, .int x38, .int x39]) (rest := []) rfl rfl (Nat.le_of_ble_eq_true rfl) (fun x hq9 => c_X9_makes _ _ _ _ _ _ _ hq9) (fun q40 _ => ?_)
    refine j_aload_n (pc := 422) (p := 2) rfl rfl dL_law_422 ?_
    refine j_sload_n (pc := 423) (p := 0) rfl rfl dL_law_423 ?_
    refine j_iload (pc := 424) (p := 4) rfl dL_law_424 ?_
    refine j_iconst (pc := 426) ki_1 dL_law_426 ?_
    refine j_iadd (pc := 427) dL_law_427 ?_
    refine j_scr (pc := 428) hxs hL dL_law_428 (fun x41 _ => ?_)
    refine j_sload_n (pc := 429) (p := 0) rfl rfl dL_law_429 ?_
    refine j_iload (pc := 430) (p := 4) rfl dL_law_430 ?_
    refine j_iconst (pc := 432) ki_2 dL_law_432 ?_
    refine j_iadd (pc := 433) dL_law_433 ?_
    refine j_scr (pc := 434) hxs hL dL_law_434 (fun x42 _ => ?_)
    refine j_sload_n (pc := 435) (p := 0) rfl rfl dL_law_435 ?_
    refine j_iload (pc := 436) (p := 4) rfl dL_law_436 ?_
    refine j_iconst (pc := 438) ki_3 dL_law_438 ?_
    refine j_iadd (pc := 439) dL_law_439 ?_
    refine j_scr (pc := 440) hxs hL dL_law_440 (fun x43 _ => ?_)
    refine j_sload_n (pc := 441) (p := 0) rfl rfl dL_law_441 ?_
    refine j_iload (pc := 442) (p := 4) rfl dL_law_442 ?_
    refine j_iconst (pc := 444) ki_4 dL_law_444 ?_
    refine j_iadd (pc := 445) dL_law_445 ?_
    refine j_scr (pc := 446) hxs hL dL_law_446 (fun x44 _ => ?_)
    refine j_cVi (pc := 447) Y_X10_makes (ci := 9) (b := v2) rfl rfl ml_L_53 im_X10_makes se_X10_makes ⟨Nat.le_of_ble_eq_true rfl, Nat.le_of_ble_eq_true rfl⟩ dL_law_447 (As := [.int x41, .int x42, .int x43, .int x44]) (rest := [.int q40.2]) rfl rfl (Nat.le_of_ble_eq_true rfl) (fun x hq9 => c_X10_makes _ _ _ _ _ _ _ hq9) (fun q45 _ => ?_)
    refine j_ic_eq (pc := 450) (tgt := 1377) dL_law_450 (by decide) (fun _ => ?_) (fun _ => ?_)
    · exact jb_L_law_1377 hx hl hB hxs hL k23 hk23 _ _ _ _ _ _
    refine j_iconst (pc := 453) ki_0 dL_law_453 ?_
    exact j_none
  refine j_ite (fun c46 => ?_) (fun c46 => ?_)
  · refine j_tsI (pc := 39) (y := 5) (off := 416) (tgt := 455) dL_law_39 c46 ⟨by decide, by decide, by decide⟩ (by decide) ?_
    refine j_aload_n (pc := 455) (p := 1) rfl rfl dL_law_455 ?_
    refine j_sload_n (pc := 456) (p := 0) rfl rfl dL_law_456 ?_
    refine j_iload (pc := 457) (p := 4) rfl dL_law_457 ?_
    refine j_iconst (pc := 459) ki_1 dL_law_459 ?_
    refine j_iadd (pc := 460) dL_law_460 ?_
    refine j_scr (pc := 461) hxs hL dL_law_461 (fun x47 _ => ?_)
    refine j_cVi (pc := 462) Y_X9_beats (ci := 8) (b := v1) rfl rfl ml_L_54 im_X9_beats se_X9_beats ⟨Nat.le_of_ble_eq_true rfl, Nat.le_of_ble_eq_true rfl⟩ dL_law_462 (As := [.int x47]) (rest := []) rfl rfl (Nat.le_of_ble_eq_true rfl) (fun x hq9 => c_X9_beats _ _ _ _ hq9) (fun q48 _ => ?_)
    refine j_aload_n (pc := 465) (p := 2) rfl rfl dL_law_465 ?_
    refine j_sload_n (pc := 466) (p := 0) rfl rfl dL_law_466 ?_
    refine j_iload (pc := 467) (p := 4) rfl dL_law_467 ?_
    refine j_iconst (pc := 469) ki_1 dL_law_469 ?_
    refine j_iadd (pc := 470) dL_law_470 ?_
    refine j_scr (pc := 471) hxs hL dL_law_471 (fun x49 _ => ?_)
    refine j_cVi (pc := 472) Y_X10_beats (ci := 9) (b := v2) rfl rfl ml_L_57 im_X10_beats se_X10_beats ⟨Nat.le_of_ble_eq_true rfl, Nat.le_of_ble_eq_true rfl⟩ dL_law_472 (As := [.int x49]) (rest := [.int q48.2]) rfl rfl (Nat.le_of_ble_eq_true rfl) (fun x hq9 => c_X10_beats _ _ _ _ hq9) (fun q50 _ => ?_)
    refine j_ic_eq (pc := 475) (tgt := 1377) dL_law_475 (by decide) (fun _ => ?_) (fun _ => ?_)
    · exact jb_L_law_1377 hx hl hB hxs hL k23 hk23 _ _ _ _ _ _
    refine j_iconst (pc := 478) ki_0 dL_law_478 ?_
    exact j_none
  refine j_ite (fun c51 => ?_) (fun c51 => ?_)
  · refine j_tsI (pc := 39) (y := 6) (off := 441) (tgt := 480) dL_law_39 c51 ⟨by decide, by decide, by decide⟩ (by decide) ?_
    refine j_aload_n (pc := 480) (p := 1) rfl rfl dL_law_480 ?_
    refine j_sload_n (pc := 481) (p := 0) rfl rfl dL_law_481 ?_
    refine j_iload (pc := 482) (p := 4) rfl dL_law_482 ?_
    refine j_iconst (pc := 484) ki_1 dL_law_484 ?_
    refine j_iadd (pc := 485) dL_law_485 ?_
    refine j_scr (pc := 486) hxs hL dL_law_486 (fun x52 _ => ?_)
    refine j_sload_n (pc := 487) (p := 0) rfl rfl dL_law_487 ?_
    refine j_iload (pc := 488) (p := 4) rfl dL_law_488 ?_
    refine j_iconst (pc := 490) ki_2 dL_law_490 ?_
    refine j_iadd (pc := 491) dL_law_491 ?_
    refine j_scr (pc := 492) hxs hL dL_law_492 (fun x53 _ => ?_)
    refine j_cVi (pc := 493) Y_X9_comes (ci := 8) (b := v1) rfl rfl ml_L_58 im_X9_comes se_X9_comes ⟨Nat.le_of_ble_eq_true rfl, Nat.le_of_ble_eq_true rfl⟩ dL_law_493 (As := [.int x52, .int x53]) (rest := []) rfl rfl (Nat.le_of_ble_eq_true rfl) (fun x hq9 => c_X9_comes _ _ _ _ _ hq9) (fun q54 _ => ?_)
    refine j_aload_n (pc := 496) (p := 2) rfl rfl dL_law_496 ?_
    refine j_sload_n (pc := 497) (p := 0) rfl rfl dL_law_497 ?_
    refine j_iload (pc := 498) (p := 4) rfl dL_law_498 ?_
    refine j_iconst (pc := 500) ki_1 dL_law_500 ?_
    refine j_iadd (pc := 501) dL_law_501 ?_
    refine j_scr (pc := 502) hxs hL dL_law_502 (fun x55 _ => ?_)
    refine j_sload_n (pc := 503) (p := 0) rfl rfl dL_law_503 ?_
    refine j_iload (pc := 504) (p := 4) rfl dL_law_504 ?_
    refine j_iconst (pc := 506) ki_2 dL_law_506 ?_
    refine j_iadd (pc := 507) dL_law_507 ?_
    refine j_scr (pc := 508) hxs hL dL_law_508 (fun x56 _ => ?_)
    refine j_cVi (pc := 509) Y_X10_comes (ci := 9) (b := v2) rfl rfl ml_L_62 im_X10_comes se_X10_comes ⟨Nat.le_of_ble_eq_true rfl, Nat.le_of_ble_eq_true rfl⟩ dL_law_509 (As := [.int x55, .int x56]) (rest := [.int q54.2]) rfl rfl (Nat.le_of_ble_eq_true rfl) (fun x hq9 => c_X10_comes _ _ _ _ _ hq9) (fun q57 _ => ?_)
    refine j_ic_eq (pc := 512) (tgt := 1377) dL_law_512 (by decide) (fun _ => ?_) (fun _ => ?_)
    · exact jb_L_law_1377 hx hl hB hxs hL k23 hk23 _ _ _ _ _ _
    refine j_iconst (pc := 515) ki_0 dL_law_515 ?_
    exact j_none
  refine j_ite (fun c58 => ?_) (fun c58 => ?_)
  · refine j_tsI (pc := 39) (y := 7) (off := 478) (tgt := 517) dL_law_39 c58 ⟨by decide, by decide, by decide⟩ (by decide) ?_
    refine j_aload_n (pc := 517) (p := 1) rfl rfl dL_law_517 ?_
    refine j_sload_n (pc := 518) (p := 0) rfl rfl dL_law_518 ?_
    refine j_iload (pc := 519) (p := 4) rfl dL_law_519 ?_
    refine j_iconst (pc := 521) ki_1 dL_law_521 ?_
    refine j_iadd (pc := 522) dL_law_522 ?_
    refine j_scr (pc := 523) hxs hL dL_law_523 (fun x59 _ => ?_)
    refine j_cVi (pc := 524) Y_X9_gathers (ci := 8) (b := v1) rfl rfl ml_L_63 im_X9_gathers se_X9_gathers ⟨Nat.le_of_ble_eq_true rfl, Nat.le_of_ble_eq_true rfl⟩ dL_law_524 (As := [.int x59]) (rest := []) rfl rfl (Nat.le_of_ble_eq_true rfl) (fun x hq9 => c_X9_gathers _ _ _ _ hq9) (fun q60 _ => ?_)
    refine j_aload_n (pc := 527) (p := 2) rfl rfl dL_law_527 ?_
    refine j_sload_n (pc := 528) (p := 0) rfl rfl dL_law_528 ?_
    refine j_iload (pc := 529) (p := 4) rfl dL_law_529 ?_
    refine j_iconst (pc := 531) ki_1 dL_law_531 ?_
    refine j_iadd (pc := 532) dL_law_532 ?_
    refine j_scr (pc := 533) hxs hL dL_law_533 (fun x61 _ => ?_)
    refine j_cVi (pc := 534) Y_X10_gathers (ci := 9) (b := v2) rfl rfl ml_L_66 im_X10_gathers se_X10_gathers ⟨Nat.le_of_ble_eq_true rfl, Nat.le_of_ble_eq_true rfl⟩ dL_law_534 (As := [.int x61]) (rest := [.int q60.2]) rfl rfl (Nat.le_of_ble_eq_true rfl) (fun x hq9 => c_X10_gathers _ _ _ _ hq9) (fun q62 _ => ?_)
    refine j_ic_eq (pc := 537) (tgt := 1377) dL_law_537 (by decide) (fun _ => ?_) (fun _ => ?_)
    · exact jb_L_law_1377 hx hl hB hxs hL k23 hk23 _ _ _ _ _ _
    refine j_iconst (pc := 540) ki_0 dL_law_540 ?_
    exact j_none
  refine j_ite (fun c63 => ?_) (fun c63 => ?_)
  · refine j_tsI (pc := 39) (y := 8) (off := 503) (tgt := 542) dL_law_39 c63 ⟨by decide, by decide, by decide⟩ (by decide) ?_
    refine j_aload_n (pc := 542) (p := 1) rfl rfl dL_law_542 ?_
    refine j_sload_n (pc := 543) (p := 0) rfl rfl dL_law_543 ?_
    refine j_iload (pc := 544) (p := 4) rfl dL_law_544 ?_
    refine j_iconst (pc := 546) ki_1 dL_law_546 ?_
    refine j_iadd (pc := 547) dL_law_547 ?_
    refine j_scr (pc := 548) hxs hL dL_law_548 (fun x64 _ => ?_)
    refine j_cVi (pc := 549) Y_X9_cuts (ci := 8) (b := v1) rfl rfl ml_L_67 im_X9_cuts se_X9_cuts ⟨Nat.le_of_ble_eq_true rfl, Nat.le_of_ble_eq_true rfl⟩ dL_law_549 (As := [.int x64]) (rest := []) rfl rfl (Nat.le_of_ble_eq_true rfl) (fun x hq9 => c_X9_cuts _ _ _ _ hq9) (fun q65 _ => ?_)
    refine j_aload_n (pc := 552) (p := 2) rfl rfl dL_law_552 ?_
    refine j_sload_n (pc := 553) (p := 0) rfl rfl dL_law_553 ?_
    refine j_iload (pc := 554) (p := 4) rfl dL_law_554 ?_
    refine j_iconst (pc := 556) ki_1 dL_law_556 ?_
    refine j_iadd (pc := 557) dL_law_557 ?_
    refine j_scr (pc := 558) hxs hL dL_law_558 (fun x66 _ => ?_)
    refine j_cVi (pc := 559) Y_X10_cuts (ci := 9) (b := v2) rfl rfl ml_L_70 im_X10_cuts se_X10_cuts ⟨Nat.le_of_ble_eq_true rfl, Nat.le_of_ble_eq_true rfl⟩ dL_law_559 (As := [.int x66]) (rest := [.int q65.2]) rfl rfl (Nat.le_of_ble_eq_true rfl) (fun x hq9 => c_X10_cuts _ _ _ _ hq9) (fun q67 _ => ?_)
    refine j_ic_eq (pc := 562) (tgt := 1377) dL_law_562 (by decide) (fun _ => ?_) (fun _ => ?_)
    · exact jb_L_law_1377 hx hl hB hxs hL k23 hk23 _ _ _ _ _ _
    refine j_iconst (pc := 565) ki_0 dL_law_565 ?_
    exact j_none
  refine j_ite (fun c68 => ?_) (fun c68 => ?_)
  · refine j_tsI (pc := 39) (y := 9) (off := 528) (tgt := 567) dL_law_39 c68 ⟨by decide, by decide, by decide⟩ (by decide) ?_
    refine j_aload_n (pc := 567) (p := 1) rfl rfl dL_law_567 ?_
    refine j_cVi (pc := 568) Y_X9_day (ci := 8) (b := v1) rfl rfl ml_L_71 im_X9_day se_X9_day ⟨Nat.le_of_ble_eq_true rfl, Nat.le_of_ble_eq_true rfl⟩ dL_law_568 (As := []) (rest := []) rfl rfl (Nat.le_of_ble_eq_true rfl) (fun x hq9 => c_X9_day _ _ _ hq9) (fun q69 _ => ?_)
    refine j_aload_n (pc := 571) (p := 2) rfl rfl dL_law_571 ?_
    refine j_cVi (pc := 572) Y_X10_day (ci := 9) (b := v2) rfl rfl ml_L_74 im_X10_day se_X10_day ⟨Nat.le_of_ble_eq_true rfl, Nat.le_of_ble_eq_true rfl⟩ dL_law_572 (As := []) (rest := [.int q69.2]) rfl rfl (Nat.le_of_ble_eq_true rfl) (fun x hq9 => c_X10_day _ _ _ hq9) (fun q70 _ => ?_)
    refine j_ic_eq (pc := 575) (tgt := 1377) dL_law_575 (by decide) (fun _ => ?_) (fun _ => ?_)
    · exact jb_L_law_1377 hx hl hB hxs hL k23 hk23 _ _ _ _ _ _
    refine j_iconst (pc := 578) ki_0 dL_law_578 ?_
    exact j_none
  refine j_ite (fun c71 => ?_) (fun c71 => ?_)
  · refine j_tsI (pc := 39) (y := 10) (off := 541) (tgt := 580) dL_law_39 c71 ⟨by decide, by decide, by decide⟩ (by decide) ?_
    refine j_aload_n (pc := 580) (p := 1) rfl rfl dL_law_580 ?_
    refine j_sload_n (pc := 581) (p := 0) rfl rfl dL_law_581 ?_
    refine j_iload (pc := 582) (p := 4) rfl dL_law_582 ?_
    refine j_iconst (pc := 584) ki_1 dL_law_584 ?_
    refine j_iadd (pc := 585) dL_law_585 ?_
    refine j_scr (pc := 586) hxs hL dL_law_586 (fun x72 _ => ?_)
    refine j_sload_n (pc := 587) (p := 0) rfl rfl dL_law_587 ?_
    refine j_iload (pc := 588) (p := 4) rfl dL_law_588 ?_
    refine j_iconst (pc := 590) ki_2 dL_law_590 ?_
    refine j_iadd (pc := 591) dL_law_591 ?_
    refine j_scr (pc := 592) hxs hL dL_law_592 (fun x73 _ => ?_)
    refine j_cVi (pc := 593) Y_X9_letters (ci := 8) (b := v1) rfl rfl ml_L_75 im_X9_letters se_X9_letters ⟨Nat.le_of_ble_eq_true rfl, Nat.le_of_ble_eq_true rfl⟩ dL_law_593 (As := [.int x72, .int x73]) (rest := []) rfl rfl (Nat.le_of_ble_eq_true rfl) (fun x hq9 => c_X9_letters _ _ _ _ _ hq9) (fun q74 _ => ?_)
    refine j_aload_n (pc := 596) (p := 2) rfl rfl dL_law_596 ?_
    refine j_sload_n (pc := 597) (p := 0) rfl rfl dL_law_597 ?_
    refine j_iload (pc := 598) (p := 4) rfl dL_law_598 ?_
    refine j_iconst (pc := 600) ki_1 dL_law_600 ?_
    refine j_iadd (pc := 601) dL_law_601 ?_
    refine j_scr (pc := 602) hxs hL dL_law_602 (fun x75 _ => ?_)
    refine j_sload_n (pc := 603) (p := 0) rfl rfl dL_law_603 ?_
    refine j_iload (pc := 604) (p := 4) rfl dL_law_604 ?_
    refine j_iconst (pc := 606) ki_2 dL_law_606 ?_
    refine j_iadd (pc := 607) dL_law_607 ?_
    refine j_scr (pc := 608) hxs hL dL_law_608 (fun x76 _ => ?_)
    refine j_cVi (pc := 609) Y_X10_letters (ci := 9) (b := v2) rfl rfl ml_L_78 im_X10_letters se_X10_letters ⟨Nat.le_of_ble_eq_true rfl, Nat.le_of_ble_eq_true rfl⟩ dL_law_609 (As := [.int x75, .int x76]) (rest := [.int q74.2]) rfl rfl (Nat.le_of_ble_eq_true rfl) (fun x hq9 => c_X10_letters _ _ _ _ _ hq9) (fun q77 _ => ?_)
    refine j_ic_eq (pc := 612) (tgt := 1377) dL_law_612 (by decide) (fun _ => ?_) (fun _ => ?_)
    · exact jb_L_law_1377 hx hl hB hxs hL k23 hk23 _ _ _ _ _ _
    refine j_iconst (pc := 615) ki_0 dL_law_615 ?_
    exact j_none
  refine j_ite (fun c78 => ?_) (fun c78 => ?_)
  · refine j_tsI (pc := 39) (y := 11) (off := 578) (tgt := 617) dL_law_39 c78 ⟨by decide, by decide, by decide⟩ (by decide) ?_
    refine j_aload_n (pc := 617) (p := 1) rfl rfl dL_law_617 ?_
    refine j_sload_n (pc := 618) (p := 0) rfl rfl dL_law_618 ?_
    refine j_iload (pc := 619) (p := 4) rfl dL_law_619 ?_
    refine j_iconst (pc := 621) ki_1 dL_law_621 ?_
    refine j_iadd (pc := 622) dL_law_622 ?_
    refine j_scr (pc := 623) hxs hL dL_law_623 (fun x79 _ => ?_)
    refine j_cVi (pc := 624) Y_X9_stable (ci := 8) (b := v1) rfl rfl ml_L_79 im_X9_stable se_X9_stable ⟨Nat.le_of_ble_eq_true rfl, Nat.le_of_ble_eq_true rfl⟩ dL_law_624 (As := [.int x79]) (rest := []) rfl rfl (Nat.le_of_ble_eq_true rfl) (fun x hq9 => c_X9_stable _ _ _ _ hq9) (fun q80 _ => ?_)
    refine j_aload_n (pc := 627) (p := 2) rfl rfl dL_law_627 ?_
    refine j_sload_n (pc := 628) (p := 0) rfl rfl dL_law_628 ?_
    refine j_iload (pc := 629) (p := 4) rfl dL_law_629 ?_
    refine j_iconst (pc := 631) ki_1 dL_law_631 ?_
    refine j_iadd (pc := 632) dL_law_632 ?_
    refine j_scr (pc := 633) hxs hL dL_law_633 (fun x81 _ => ?_)
    refine j_cVi (pc := 634) Y_X10_stable (ci := 9) (b := v2) rfl rfl ml_L_82 im_X10_stable se_X10_stable ⟨Nat.le_of_ble_eq_true rfl, Nat.le_of_ble_eq_true rfl⟩ dL_law_634 (As := [.int x81]) (rest := [.int q80.2]) rfl rfl (Nat.le_of_ble_eq_true rfl) (fun x hq9 => c_X10_stable _ _ _ _ hq9) (fun q82 _ => ?_)
    refine j_ic_eq (pc := 637) (tgt := 1377) dL_law_637 (by decide) (fun _ => ?_) (fun _ => ?_)
    · exact jb_L_law_1377 hx hl hB hxs hL k23 hk23 _ _ _ _ _ _
    refine j_iconst (pc := 640) ki_0 dL_law_640 ?_
    exact j_none
  refine j_ite (fun c83 => ?_) (fun c83 => ?_)
  · refine j_tsI (pc := 39) (y := 12) (off := 603) (tgt := 642) dL_law_39 c83 ⟨by decide, by decide, by decide⟩ (by decide) ?_
    refine j_aload_n (pc := 642) (p := 1) rfl rfl dL_law_642 ?_
    refine j_sload_n (pc := 643) (p := 0) rfl rfl dL_law_643 ?_
    refine j_iload (pc := 644) (p := 4) rfl dL_law_644 ?_
    refine j_iconst (pc := 646) ki_1 dL_law_646 ?_
    refine j_iadd (pc := 647) dL_law_647 ?_
    refine j_scr (pc := 648) hxs hL dL_law_648 (fun x84 _ => ?_)
    refine j_cVi (pc := 649) Y_X9_voids (ci := 8) (b := v1) rfl rfl ml_L_83 im_X9_voids se_X9_voids ⟨Nat.le_of_ble_eq_true rfl, Nat.le_of_ble_eq_true rfl⟩ dL_law_649 (As := [.int x84]) (rest := []) rfl rfl (Nat.le_of_ble_eq_true rfl) (fun x hq9 => c_X9_voids _ _ _ _ hq9) (fun q85 _ => ?_)
    refine j_aload_n (pc := 652) (p := 2) rfl rfl dL_law_652 ?_
    refine j_sload_n (pc := 653) (p := 0) rfl rfl dL_law_653 ?_
    refine j_iload (pc := 654) (p := 4) rfl dL_law_654 ?_
    refine j_iconst (pc := 656) ki_1 dL_law_656 ?_
    refine j_iadd (pc := 657) dL_law_657 ?_
    refine j_scr (pc := 658) hxs hL dL_law_658 (fun x86 _ => ?_)
    refine j_cVi (pc := 659) Y_X10_voids (ci := 9) (b := v2) rfl rfl ml_L_86 im_X10_voids se_X10_voids ⟨Nat.le_of_ble_eq_true rfl, Nat.le_of_ble_eq_true rfl⟩ dL_law_659 (As := [.int x86]) (rest := [.int q85.2]) rfl rfl (Nat.le_of_ble_eq_true rfl) (fun x hq9 => c_X10_voids _ _ _ _ hq9) (fun q87 _ => ?_)
    refine j_ic_eq (pc := 662) (tgt := 1377) dL_law_662 (by decide) (fun _ => ?_) (fun _ => ?_)
    · exact jb_L_law_1377 hx hl hB hxs hL k23 hk23 _ _ _ _ _ _
    refine j_iconst (pc := 665) ki_0 dL_law_665 ?_
    exact j_none
  refine j_ite (fun c88 => ?_) (fun c88 => ?_)
  · refine j_tsI (pc := 39) (y := 13) (off := 628) (tgt := 667) dL_law_39 c88 ⟨by decide, by decide, by decide⟩ (by decide) ?_
    refine j_aload_n (pc := 667) (p := 1) rfl rfl dL_law_667 ?_
    refine j_sload_n (pc := 668) (p := 0) rfl rfl dL_law_668 ?_
    refine j_iload (pc := 669) (p := 4) rfl dL_law_669 ?_
    refine j_iconst (pc := 671) ki_1 dL_law_671 ?_
    refine j_iadd (pc := 672) dL_law_672 ?_
    refine j_scr (pc := 673) hxs hL dL_law_673 (fun x89 _ => ?_)
    refine j_sload_n (pc := 674) (p := 0) rfl rfl dL_law_674 ?_
    refine j_iload (pc := 675) (p := 4) rfl dL_law_675 ?_
    refine j_iconst (pc := 677) ki_2 dL_law_677 ?_
    refine j_iadd (pc := 678) dL_law_678 ?_
    refine j_scr (pc := 679) hxs hL dL_law_679 (fun x90 _ => ?_)
    refine j_cVi (pc := 680) Y_X9_below (ci := 8) (b := v1) rfl rfl ml_L_87 im_X9_below se_X9_below ⟨Nat.le_of_ble_eq_true rfl, Nat.le_of_ble_eq_true rfl⟩ dL_law_680 (As := [.int x89, .int x90]) (rest := []) rfl rfl (Nat.le_of_ble_eq_true rfl) (fun x hq9 => c_X9_below _ _ _ _ _ hq9) (fun q91 _ => ?_)
    refine j_aload_n (pc := 683) (p := 2) rfl rfl dL_law_683 ?_
    refine j_sload_n (pc := 684) (p := 0) rfl rfl dL_law_684 ?_
    refine j_iload (pc := 685) (p := 4) rfl dL_law_685 ?_
    refine j_iconst (pc := 687) ki_1 dL_law_687 ?_
    refine j_iadd (pc := 688) dL_law_688 ?_
    refine j_scr (pc := 689) hxs hL dL_law_689 (fun x92 _ => ?_)
    refine j_sload_n (pc := 690) (p := 0) rfl rfl dL_law_690 ?_
    refine j_iload (pc := 691) (p := 4) rfl dL_law_691 ?_
    refine j_iconst (pc := 693) ki_2 dL_law_693 ?_
    refine j_iadd (pc := 694) dL_law_694 ?_
    refine j_scr (pc := 695) hxs hL dL_law_695 (fun x93 _ => ?_)
    refine j_cVi (pc := 696) Y_X10_below (ci := 9) (b := v2) rfl rfl ml_L_90 im_X10_below se_X10_below ⟨Nat.le_of_ble_eq_true rfl, Nat.le_of_ble_eq_true rfl⟩ dL_law_696 (As := [.int x92, .int x93]) (rest := [.int q91.2]) rfl rfl (Nat.le_of_ble_eq_true rfl) (fun x hq9 => c_X10_below _ _ _ _ _ hq9) (fun q94 _ => ?_)
    refine j_ic_eq (pc := 699) (tgt := 1377) dL_law_699 (by decide) (fun _ => ?_) (fun _ => ?_)
    · exact jb_L_law_1377 hx hl hB hxs hL k23 hk23 _ _ _ _ _ _
    refine j_iconst (pc := 702) ki_0 dL_law_702 ?_
    exact j_none
  refine j_ite (fun c95 => ?_) (fun c95 => ?_)
  · refine j_tsI (pc := 39) (y := 14) (off := 665) (tgt := 704) dL_law_39 c95 ⟨by decide, by decide, by decide⟩ (by decide) ?_
    refine j_aload_n (pc := 704) (p := 1) rfl rfl dL_law_704 ?_
    refine j_sload_n (pc := 705) (p := 0) rfl rfl dL_law_705 ?_
    refine j_iload (pc := 706) (p := 4) rfl dL_law_706 ?_
    refine j_iconst (pc := 708) ki_1 dL_law_708 ?_
    refine j_iadd (pc := 709) dL_law_709 ?_
    refine j_scr (pc := 710) hxs hL dL_law_710 (fun x96 _ => ?_)
    refine j_sload_n (pc := 711) (p := 0) rfl rfl dL_law_711 ?_
    refine j_iload (pc := 712) (p := 4) rfl dL_law_712 ?_
    refine j_iconst (pc := 714) ki_2 dL_law_714 ?_
    refine j_iadd (pc := 715) dL_law_715 ?_
    refine j_scr (pc := 716) hxs hL dL_law_716 (fun x97 _ => ?_)
    refine j_cVi (pc := 717) Y_X9_depth (ci := 8) (b := v1) rfl rfl ml_L_91 im_X9_depth se_X9_depth ⟨Nat.le_of_ble_eq_true rfl, Nat.le_of_ble_eq_true rfl⟩ dL_law_717 (As := [.int x96, .int x97]) (rest := []) rfl rfl (Nat.le_of_ble_eq_true rfl) (fun x hq9 => c_X9_depth _ _ _ _ _ hq9) (fun q98 _ => ?_)
    refine j_aload_n (pc := 720) (p := 2) rfl rfl dL_law_720 ?_
    refine j_sload_n (pc := 721) (p := 0) rfl rfl dL_law_721 ?_
    refine j_iload (pc := 722) (p := 4) rfl dL_law_722 ?_
    refine j_iconst (pc := 724) ki_1 dL_law_724 ?_
    refine j_iadd (pc := 725) dL_law_725 ?_
    refine j_scr (pc := 726) hxs hL dL_law_726 (fun x99 _ => ?_)
    refine j_sload_n (pc := 727) (p := 0) rfl rfl dL_law_727 ?_
    refine j_iload (pc := 728) (p := 4) rfl dL_law_728 ?_
    refine j_iconst (pc := 730) ki_2 dL_law_730 ?_
    refine j_iadd (pc := 731) dL_law_731 ?_
    refine j_scr (pc := 732) hxs hL dL_law_732 (fun x100 _ => ?_)
    refine j_cVi (pc := 733) Y_X10_depth (ci := 9) (b := v2) rfl rfl ml_L_94 im_X10_depth se_X10_depth ⟨Nat.le_of_ble_eq_true rfl, Nat.le_of_ble_eq_true rfl⟩ dL_law_733 (As := [.int x99, .int x100]) (rest := [.int q98.2]) rfl rfl (Nat.le_of_ble_eq_true rfl) (fun x hq9 => c_X10_depth _ _ _ _ _ hq9) (fun q101 _ => ?_)
    refine j_ic_eq (pc := 736) (tgt := 1377) dL_law_736 (by decide) (fun _ => ?_) (fun _ => ?_)
    · exact jb_L_law_1377 hx hl hB hxs hL k23 hk23 _ _ _ _ _ _
    refine j_iconst (pc := 739) ki_0 dL_law_739 ?_
    exact j_none
  refine j_ite (fun c102 => ?_) (fun c102 => ?_)
  · refine j_tsI (pc := 39) (y := 15) (off := 702) (tgt := 741) dL_law_39 c102 ⟨by decide, by decide, by decide⟩ (by decide) ?_
    refine j_aload_n (pc := 741) (p := 1) rfl rfl dL_law_741 ?_
    refine j_sload_n (pc := 742) (p := 0) rfl rfl dL_law_742 ?_
    refine j_iload (pc := 743) (p := 4) rfl dL_law_743 ?_
    refine j_iconst (pc := 745) ki_1 dL_law_745 ?_
    refine j_iadd (pc := 746) dL_law_746 ?_
    refine j_scr (pc := 747) hxs hL dL_law_747 (fun x103 _ => ?_)
    refine j_sload_n (pc := 748) (p := 0) rfl rfl dL_law_748 ?_
    refine j_iload (pc := 749) (p := 4) rfl dL_law_749 ?_
    refine j_iconst (pc := 751) ki_2 dL_law_751 ?_
    refine j_iadd (pc := 752) dL_law_752 ?_
    refine j_scr (pc := 753) hxs hL dL_law_753 (fun x104 _ => ?_)
    refine j_sload_n (pc := 754) (p := 0) rfl rfl dL_law_754 ?_
    refine j_iload (pc := 755) (p := 4) rfl dL_law_755 ?_
    refine j_iconst (pc := 757) ki_3 dL_law_757 ?_
    refine j_iadd (pc := 758) dL_law_758 ?_
    refine j_scr (pc := 759) hxs hL dL_law_759 (fun x105 _ => ?_)
    refine j_cVi (pc := 760) Y_X9_meets (ci := 8) (b := v1) rfl rfl ml_L_95 im_X9_meets se_X9_meets ⟨Nat.le_of_ble_eq_true rfl, Nat.le_of_ble_eq_true rfl⟩ dL_law_760 (As := [.int x103, .int x104, .int x105]) (rest := []) rfl rfl (Nat.le_of_ble_eq_true rfl) (fun x hq9 => c_X9_meets _ _ _ _ _ _ hq9) (fun q106 _ => ?_)
    refine j_aload_n (pc := 763) (p := 2) rfl rfl dL_law_763 ?_
    refine j_sload_n (pc := 764) (p := 0) rfl rfl dL_law_764 ?_
    refine j_iload (pc := 765) (p := 4) rfl dL_law_765 ?_
    refine j_iconst (pc := 767) ki_1 dL_law_767 ?_
    refine j_iadd (pc := 768) dL_law_768 ?_
    refine j_scr (pc := 769) hxs hL dL_law_769 (fun x107 _ => ?_)
    refine j_sload_n (pc := 770) (p := 0) rfl rfl dL_law_770 ?_
    refine j_iload (pc := 771) (p := 4) rfl dL_law_771 ?_
    refine j_iconst (pc := 773) ki_2 dL_law_773 ?_
    refine j_iadd (pc := 774) dL_law_774 ?_
    refine j_scr (pc := 775) hxs hL dL_law_775 (fun x108 _ => ?_)
    refine j_sload_n (pc := 776) (p := 0) rfl rfl dL_law_776 ?_
    refine j_iload (pc := 777) (p := 4) rfl dL_law_777 ?_
    refine j_iconst (pc := 779) ki_3 dL_law_779 ?_
    refine j_iadd (pc := 780) dL_law_780 ?_
    refine j_scr (pc := 781) hxs hL dL_law_781 (fun x109 _ => ?_)
    refine j_cVi (pc := 782) Y_X10_meets (ci := 9) (b := v2) rfl rfl ml_L_98 im_X10_meets se_X10_meets ⟨Nat.le_of_ble_eq_true rfl, Nat.le_of_ble_eq_true rfl⟩ dL_law_782 (As := [.int x107, .int x108, .int x109]) (rest := [.int q106.2]) rfl rfl (Nat.le_of_ble_eq_true rfl) (fun x hq9 => c_X10_meets _ _ _ _ _ _ hq9) (fun q110 _ => ?_)
    refine j_ic_eq (pc := 785) (tgt := 1377) dL_law_785 (by decide) (fun _ => ?_) (fun _ => ?_)
    · exact jb_L_law_1377 hx hl hB hxs hL k23 hk23 _ _ _ _ _ _
    refine j_iconst (pc := 788) ki_0 dL_law_788 ?_
    exact j_none
  refine j_ite (fun c111 => ?_) (fun c111 => ?_)
  · refine j_tsI (pc := 39) (y := 16) (off := 751) (tgt := 790) dL_law_39 c111 ⟨by decide, by decide, by decide⟩ (by decide) ?_
    refine j_aload_n (pc := 790) (p := 1) rfl rfl dL_law_790 ?_
    refine j_sload_n (pc := 791) (p := 0) rfl rfl dL_law_791 ?_
    refine j_iload (pc := 792) (p := 4) rfl dL_law_792 ?_
    refine j_iconst (pc := 794) ki_1 dL_law_794 ?_
    refine j_iadd (pc := 795) dL_law_795 ?_
    refine j_scr (pc := 796) hxs hL dL_law_796 (fun x112 _ => ?_)
    refine j_sload_n (pc := 797) (p := 0) rfl rfl dL_law_797 ?_
    refine j_iload (pc := 798) (p := 4) rfl dL_law_798 ?_
    refine j_iconst (pc := 800) ki_2 dL_law_800 ?_
    refine j_iadd (pc := 801) dL_law_801 ?_
    refine j_scr (pc := 802) hxs hL dL_law_802 (fun x113 _ => ?_)
    refine j_cVi (pc := 803) Y_X9_places (ci := 8) (b := v1) rfl rfl ml_L_99 im_X9_places se_X9_places ⟨Nat.le_of_ble_eq_true rfl, Nat.le_of_ble_eq_true rfl⟩ dL_law_803 (As := [.int x112, .int x113]) (rest := []) rfl rfl (Nat.le_of_ble_eq_true rfl) (fun x hq9 => c_X9_places _ _ _ _ _ hq9) (fun q114 _ => ?_)
    refine j_aload_n (pc := 806) (p := 2) rfl rfl dL_law_806 ?_
    refine j_sload_n (pc := 807) (p := 0) rfl rfl dL_law_807 ?_
    refine j_iload (pc := 808) (p := 4) rfl dL_law_808 ?_
    refine j_iconst (pc := 810) ki_1 dL_law_810 ?_
    refine j_iadd (pc := 811) dL_law_811 ?_
    refine j_scr (pc := 812) hxs hL dL_law_812 (fun x115 _ => ?_)
    refine j_sload_n (pc := 813) (p := 0) rfl rfl dL_law_813 ?_
    refine j_iload (pc := 814) (p := 4) rfl dL_law_814 ?_
    refine j_iconst (pc := 816) ki_2 dL_law_816 ?_
    refine j_iadd (pc := 817) dL_law_817 ?_
    refine j_scr (pc := 818) hxs hL dL_law_818 (fun x116 _ => ?_)
    refine j_cVi (pc := 819) Y_X10_places (ci := 9) (b := v2) rfl rfl ml_L_102 im_X10_places se_X10_places ⟨Nat.le_of_ble_eq_true rfl, Nat.le_of_ble_eq_true rfl⟩ dL_law_819 (As := [.int x115, .int x116]) (rest := [.int q114.2]) rfl rfl (Nat.le_of_ble_eq_true rfl) (fun x hq9 => c_X10_places _ _ _ _ _ hq9) (fun q117 _ => ?_)
    refine j_ic_eq (pc := 822) (tgt := 1377) dL_law_822 (by decide) (fun _ => ?_) (fun _ => ?_)
    · exact jb_L_law_1377 hx hl hB hxs hL k23 hk23 _ _ _ _ _ _
    refine j_iconst (pc := 825) ki_0 dL_law_825 ?_
    exact j_none
  refine j_ite (fun c118 => ?_) (fun c118 => ?_)
  · refine j_tsI (pc := 39) (y := 17) (off := 788) (tgt := 827) dL_law_39 c118 ⟨by decide, by decide, by decide⟩ (by decide) ?_
    refine j_aload_n (pc := 827) (p := 1) rfl rfl dL_law_827 ?_
    refine j_sload_n (pc := 828) (p := 0) rfl rfl dL_law_828 ?_
    refine j_iload (pc := 829) (p := 4) rfl dL_law_829 ?_
    refine j_iconst (pc := 831) ki_1 dL_law_831 ?_
    refine j_iadd (pc := 832) dL_law_832 ?_
    refine j_scr (pc := 833) hxs hL dL_law_833 (fun x119 _ => ?_)
    refine j_sload_n (pc := 834) (p := 0) rfl rfl dL_law_834 ?_
    refine j_iload (pc := 835) (p := 4) rfl dL_law_835 ?_
    refine j_iconst (pc := 837) ki_2 dL_law_837 ?_
    refine j_iadd (pc := 838) dL_law_838 ?_
    refine j_scr (pc := 839) hxs hL dL_law_839 (fun x120 _ => ?_)
    refine j_sload_n (pc := 840) (p := 0) rfl rfl dL_law_840 ?_
    refine j_iload (pc := 841) (p := 4) rfl dL_law_841 ?_
    refine j_iconst (pc := 843) ki_3 dL_law_843 ?_
    refine j_iadd (pc := 844) dL_law_844 ?_
    refine j_scr (pc := 845) hxs hL dL_law_845 (fun x121 _ => ?_)
    refine j_cVi (pc := 846) Y_X9_total (ci := 8) (b := v1) rfl rfl ml_L_103 im_X9_total se_X9_total ⟨Nat.le_of_ble_eq_true rfl, Nat.le_of_ble_eq_true rfl⟩ dL_law_846 (As := [.int x119, .int x120, .int x121]) (rest := []) rfl rfl (Nat.le_of_ble_eq_true rfl) (fun x hq9 => c_X9_total _ _ _ _ _ _ hq9) (fun q122 _ => ?_)
    refine j_aload_n (pc := 849) (p := 2) rfl rfl dL_law_849 ?_
    refine j_sload_n (pc := 850) (p := 0) rfl rfl dL_law_850 ?_
    refine j_iload (pc := 851) (p := 4) rfl dL_law_851 ?_
    refine j_iconst (pc := 853) ki_1 dL_law_853 ?_
    refine j_iadd (pc := 854) dL_law_854 ?_
    refine j_scr (pc := 855) hxs hL dL_law_855 (fun x123 _ => ?_)
    refine j_sload_n (pc := 856) (p := 0) rfl rfl dL_law_856 ?_
    refine j_iload (pc := 857) (p := 4) rfl dL_law_857 ?_
    refine j_iconst (pc := 859) ki_2 dL_law_859 ?_
    refine j_iadd (pc := 860) dL_law_860 ?_
    refine j_scr (pc := 861) hxs hL dL_law_861 (fun x124 _ => ?_)
    refine j_sload_n (pc := 862) (p := 0) rfl rfl dL_law_862 ?_
    refine j_iload (pc := 863) (p := 4) rfl dL_law_863 ?_
    refine j_iconst (pc := 865) ki_3 dL_law_865 ?_
    refine j_iadd (pc := 866) dL_law_866 ?_
    refine j_scr (pc := 867) hxs hL dL_law_867 (fun x125 _ => ?_)
    refine j_cVi (pc := 868) Y_X10_total (ci := 9) (b := v2) rfl rfl ml_L_106 im_X10_total se_X10_total ⟨Nat.le_of_ble_eq_true rfl, Nat.le_of_ble_eq_true rfl⟩ dL_law_868 (As := [.int x123, .int x124, .int x125]) (rest := [.int q122.2]) rfl rfl (Nat.le_of_ble_eq_true rfl) (fun x hq9 => c_X10_total _ _ _ _ _ _ hq9) (fun q126 _ => ?_)
    refine j_ic_eq (pc := 871) (tgt := 1377) dL_law_871 (by decide) (fun _ => ?_) (fun _ => ?_)
    · exact jb_L_law_1377 hx hl hB hxs hL k23 hk23 _ _ _ _ _ _
    refine j_iconst (pc := 874) ki_0 dL_law_874 ?_
    exact j_none
  refine j_ite (fun c127 => ?_) (fun c127 => ?_)
  · refine j_tsI (pc := 39) (y := 18) (off := 837) (tgt := 876) dL_law_39 c127 ⟨by decide, by decide, by decide⟩ (by decide) ?_
    refine j_aload_n (pc := 876) (p := 1) rfl rfl dL_law_876 ?_
    refine j_sload_n (pc := 877) (p := 0) rfl rfl dL_law_877 ?_
    refine j_iload (pc := 878) (p := 4) rfl dL_law_878 ?_
    refine j_iconst (pc := 880) ki_1 dL_law_880 ?_
    refine j_iadd (pc := 881) dL_law_881 ?_
    refine j_scr (pc := 882) hxs hL dL_law_882 (fun x128 _ => ?_)
    refine j_sload_n (pc := 883) (p := 0) rfl rfl dL_law_883 ?_
    refine j_iload (pc := 884) (p := 4) rfl dL_law_884 ?_
    refine j_iconst (pc := 886) ki_2 dL_law_886 ?_
    refine j_iadd (pc := 887) dL_law_887 ?_
    refine j_scr (pc := 888) hxs hL dL_law_888 (fun x129 _ => ?_)
    refine j_sload_n (pc := 889) (p := 0) rfl rfl dL_law_889 ?_
    refine j_iload (pc := 890) (p := 4) rfl dL_law_890 ?_
    refine j_iconst (pc := 892) ki_3 dL_law_892 ?_
    refine j_iadd (pc := 893) dL_law_893 ?_
    refine j_scr (pc := 894) hxs hL dL_law_894 (fun x130 _ => ?_)
    refine j_cVi (pc := 895) Y_X9_lists (ci := 8) (b := v1) rfl rfl ml_L_107 im_X9_lists se_X9_lists ⟨Nat.le_of_ble_eq_true rfl, Nat.le_of_ble_eq_true rfl⟩ dL_law_895 (As := [.int x128, .int x129, .int x130]) (rest := []) rfl rfl (Nat.le_of_ble_eq_true rfl) (fun x hq9 => c_X9_lists _ _ _ _ _ _ hq9) (fun q131 _ => ?_)
    refine j_aload_n (pc := 898) (p := 2) rfl rfl dL_law_898 ?_
    refine j_sload_n (pc := 899) (p := 0) rfl rfl dL_law_899 ?_
    refine j_iload (pc := 900) (p := 4) rfl dL_law_900 ?_
    refine j_iconst (pc := 902) ki_1 dL_law_902 ?_
    refine j_iadd (pc := 903) dL_law_903 ?_
    refine j_scr (pc := 904) hxs hL dL_law_904 (fun x132 _ => ?_)
    refine j_sload_n (pc := 905) (p := 0) rfl rfl dL_law_905 ?_
    refine j_iload (pc := 906) (p := 4) rfl dL_law_906 ?_
    refine j_iconst (pc := 908) ki_2 dL_law_908 ?_
    refine j_iadd (pc := 909) dL_law_909 ?_
    refine j_scr (pc := 910) hxs hL dL_law_910 (fun x133 _ => ?_)
    refine j_sload_n (pc := 911) (p := 0) rfl rfl dL_law_911 ?_
    refine j_iload (pc := 912) (p := 4) rfl dL_law_912 ?_
    refine j_iconst (pc := 914) ki_3 dL_law_914 ?_
    refine j_iadd (pc := 915) dL_law_915 ?_
    refine j_scr (pc := 916) hxs hL dL_law_916 (fun x134 _ => ?_)
    refine j_cVi (pc := 917) Y_X10_lists (ci := 9) (b := v2) rfl rfl ml_L_110 im_X10_lists se_X10_lists ⟨Nat.le_of_ble_eq_true rfl, Nat.le_of_ble_eq_true rfl⟩ dL_law_917 (As := [.int x132, .int x133, .int x134]) (rest := [.int q131.2]) rfl rfl (Nat.le_of_ble_eq_true rfl) (fun x hq9 => c_X10_lists _ _ _ _ _ _ hq9) (fun q135 _ => ?_)
    refine j_ic_eq (pc := 920) (tgt := 1377) dL_law_920 (by decide) (fun _ => ?_) (fun _ => ?_)
    · exact jb_L_law_1377 hx hl hB hxs hL k23 hk23 _ _ _ _ _ _
    refine j_iconst (pc := 923) ki_0 dL_law_923 ?_
    exact j_none
  refine j_ite (fun c136 => ?_) (fun c136 => ?_)
  · refine j_tsI (pc := 39) (y := 19) (off := 886) (tgt := 925) dL_law_39 c136 ⟨by decide, by decide, by decide⟩ (by decide) ?_
    refine j_aload_n (pc := 925) (p := 1) rfl rfl dL_law_925 ?_
    refine j_sload_n (pc := 926) (p := 0) rfl rfl dL_law_926 ?_
    refine j_iload (pc := 927) (p := 4) rfl dL_law_927 ?_
    refine j_iconst (pc := 929) ki_1 dL_law_929 ?_
    refine j_iadd (pc := 930) dL_law_930 ?_
    refine j_scr (pc := 931) hxs hL dL_law_931 (fun x137 _ => ?_)
    refine j_cVi (pc := 932) Y_X9_finds (ci := 8) (b := v1) rfl rfl ml_L_111 im_X9_finds se_X9_finds ⟨Nat.le_of_ble_eq_true rfl, Nat.le_of_ble_eq_true rfl⟩ dL_law_932 (As := [.int x137]) (rest := []) rfl rfl (Nat.le_of_ble_eq_true rfl) (fun x hq9 => c_X9_finds _ _ _ _ hq9) (fun q138 _ => ?_)
    refine j_aload_n (pc := 935) (p := 2) rfl rfl dL_law_935 ?_
    refine j_sload_n (pc := 936) (p := 0) rfl rfl dL_law_936 ?_
    refine j_iload (pc := 937) (p := 4) rfl dL_law_937 ?_
    refine j_iconst (pc := 939) ki_1 dL_law_939 ?_
    refine j_iadd (pc := 940) dL_law_940 ?_
    refine j_scr (pc := 941) hxs hL dL_law_941 (fun x139 _ => ?_)
    refine j_cVi (pc := 942) Y_X10_finds (ci := 9) (b := v2) rfl rfl ml_L_114 im_X10_finds se_X10_finds ⟨Nat.le_of_ble_eq_true rfl, Nat.le_of_ble_eq_true rfl⟩ dL_law_942 (As := [.int x139]) (rest := [.int q138.2]) rfl rfl (Nat.le_of_ble_eq_true rfl) (fun x hq9 => c_X10_finds _ _ _ _ hq9) (fun q140 _ => ?_)
    refine j_ic_eq (pc := 945) (tgt := 1377) dL_law_945 (by decide) (fun _ => ?_) (fun _ => ?_)
    · exact jb_L_law_1377 hx hl hB hxs hL k23 hk23 _ _ _ _ _ _
    refine j_iconst (pc := 948) ki_0 dL_law_948 ?_
    exact j_none
  refine j_ite (fun c141 => ?_) (fun c141 => ?_)
  · refine j_tsI (pc := 39) (y := 20) (off := 911) (tgt := 950) dL_law_39 c141 ⟨by decide, by decide, by decide⟩ (by decide) ?_
    refine j_aload_n (pc := 950) (p := 1) rfl rfl dL_law_950 ?_
    refine j_sload_n (pc := 951) (p := 0) rfl rfl dL_law_951 ?_
    refine j_iload (pc := 952) (p := 4) rfl dL_law_952 ?_
    refine j_iconst (pc := 954) ki_1 dL_law_954 ?_
    refine j_iadd (pc := 955) dL_law_955 ?_
    refine j_scr (pc := 956) hxs hL dL_law_956 (fun x142 _ => ?_)
    refine j_sload_n (pc := 957) (p := 0) rfl rfl dL_law_957 ?_
    refine j_iload (pc := 958) (p := 4) rfl dL_law_958 ?_
    refine j_iconst (pc := 960) ki_2 dL_law_960 ?_
    refine j_iadd (pc := 961) dL_law_961 ?_
    refine j_scr (pc := 962) hxs hL dL_law_962 (fun x143 _ => ?_)
    refine j_cVi (pc := 963) Y_X9_path (ci := 8) (b := v1) rfl rfl ml_L_115 im_X9_path se_X9_path ⟨Nat.le_of_ble_eq_true rfl, Nat.le_of_ble_eq_true rfl⟩ dL_law_963 (As := [.int x142, .int x143]) (rest := []) rfl rfl (Nat.le_of_ble_eq_true rfl) (fun x hq9 => c_X9_path _ _ _ _ _ hq9) (fun q144 _ => ?_)
    refine j_aload_n (pc := 966) (p := 2) rfl rfl dL_law_966 ?_
    refine j_sload_n (pc := 967) (p := 0) rfl rfl dL_law_967 ?_
    refine j_iload (pc := 968) (p := 4) rfl dL_law_968 ?_
    refine j_iconst (pc := 970) ki_1 dL_law_970 ?_
    refine j_iadd (pc := 971) dL_law_971 ?_
    refine j_scr (pc := 972) hxs hL dL_law_972 (fun x145 _ => ?_)
    refine j_sload_n (pc := 973) (p := 0) rfl rfl dL_law_973 ?_
    refine j_iload (pc := 974) (p := 4) rfl dL_law_974 ?_
    refine j_iconst (pc := 976) ki_2 dL_law_976 ?_
    refine j_iadd (pc := 977) dL_law_977 ?_
    refine j_scr (pc := 978) hxs hL dL_law_978 (fun x146 _ => ?_)
    refine j_cVi (pc := 979) Y_X10_path (ci := 9) (b := v2) rfl rfl ml_L_118 im_X10_path se_X10_path ⟨Nat.le_of_ble_eq_true rfl, Nat.le_of_ble_eq_true rfl⟩ dL_law_979 (As := [.int x145, .int x146]) (rest := [.int q144.2]) rfl rfl (Nat.le_of_ble_eq_true rfl) (fun x hq9 => c_X10_path _ _ _ _ _ hq9) (fun q147 _ => ?_)
    refine j_ic_eq (pc := 982) (tgt := 1377) dL_law_982 (by decide) (fun _ => ?_) (fun _ => ?_)
    · exact jb_L_law_1377 hx hl hB hxs hL k23 hk23 _ _ _ _ _ _
    refine j_iconst (pc := 985) ki_0 dL_law_985 ?_
    exact j_none
  refine j_ite (fun c148 => ?_) (fun c148 => ?_)
  · refine j_tsI (pc := 39) (y := 21) (off := 948) (tgt := 987) dL_law_39 c148 ⟨by decide, by decide, by decide⟩ (by decide) ?_
    refine j_aload_n (pc := 987) (p := 1) rfl rfl dL_law_987 ?_
    refine j_sload_n (pc := 988) (p := 0) rfl rfl dL_law_988 ?_
    refine j_iload (pc := 989) (p := 4) rfl dL_law_989 ?_
    refine j_iconst (pc := 991) ki_1 dL_law_991 ?_
    refine j_iadd (pc := 992) dL_law_992 ?_
    refine j_scr (pc := 993) hxs hL dL_law_993 (fun x149 _ => ?_)
    refine j_sload_n (pc := 994) (p := 0) rfl rfl dL_law_994 ?_
    refine j_iload (pc := 995) (p := 4) rfl dL_law_995 ?_
    refine j_iconst (pc := 997) ki_2 dL_law_997 ?_
    refine j_iadd (pc := 998) dL_law_998 ?_
    refine j_scr (pc := 999) hxs hL dL_law_999 (fun x150 _ => ?_)
    refine j_cVi (pc := 1000) Y_X9_apart (ci := 8) (b := v1) rfl rfl ml_L_119 im_X9_apart se_X9_apart ⟨Nat.le_of_ble_eq_true rfl, Nat.le_of_ble_eq_true rfl⟩ dL_law_1000 (As := [.int x149, .int x150]) (rest := []) rfl rfl (Nat.le_of_ble_eq_true rfl) (fun x hq9 => c_X9_apart _ _ _ _ _ hq9) (fun q151 _ => ?_)
    refine j_aload_n (pc := 1003) (p := 2) rfl rfl dL_law_1003 ?_
    refine j_sload_n (pc := 1004) (p := 0) rfl rfl dL_law_1004 ?_
    refine j_iload (pc := 1005) (p := 4) rfl dL_law_1005 ?_
    refine j_iconst (pc := 1007) ki_1 dL_law_1007 ?_
    refine j_iadd (pc := 1008) dL_law_1008 ?_
    refine j_scr (pc := 1009) hxs hL dL_law_1009 (fun x152 _ => ?_)
    refine j_sload_n (pc := 1010) (p := 0) rfl rfl dL_law_1010 ?_
    refine j_iload (pc := 1011) (p := 4) rfl dL_law_1011 ?_
    refine j_iconst (pc := 1013) ki_2 dL_law_1013 ?_
    refine j_iadd (pc := 1014) dL_law_1014 ?_
    refine j_scr (pc := 1015) hxs hL dL_law_1015 (fun x153 _ => ?_)
    refine j_cVi (pc := 1016) Y_X10_apart (ci := 9) (b := v2) rfl rfl ml_L_122 im_X10_apart se_X10_apart ⟨Nat.le_of_ble_eq_true rfl, Nat.le_of_ble_eq_true rfl⟩ dL_law_1016 (As := [.int x152, .int x153]) (rest := [.int q151.2]) rfl rfl (Nat.le_of_ble_eq_true rfl) (fun x hq9 => c_X10_apart _ _ _ _ _ hq9) (fun q154 _ => ?_)
    refine j_ic_eq (pc := 1019) (tgt := 1377) dL_law_1019 (by decide) (fun _ => ?_) (fun _ => ?_)
    · exact jb_L_law_1377 hx hl hB hxs hL k23 hk23 _ _ _ _ _ _
    refine j_iconst (pc := 1022) ki_0 dL_law_1022 ?_
    exact j_none
  refine j_ite (fun c155 => ?_) (fun c155 => ?_)
  · refine j_tsI (pc := 39) (y := 22) (off := 985) (tgt := 1024) dL_law_39 c155 ⟨by decide, by decide, by decide⟩ (by decide) ?_
    refine j_aload_n (pc := 1024) (p := 1) rfl rfl dL_law_1024 ?_
    refine j_sload_n (pc := 1025) (p := 0) rfl rfl dL_law_1025 ?_
    refine j_iload (pc := 1026) (p := 4) rfl dL_law_1026 ?_
    refine j_iconst (pc := 1028) ki_1 dL_law_1028 ?_
    refine j_iadd (pc := 1029) dL_law_1029 ?_
    refine j_scr (pc := 1030) hxs hL dL_law_1030 (fun x156 _ => ?_)
    refine j_sload_n (pc := 1031) (p := 0) rfl rfl dL_law_1031 ?_
    refine j_iload (pc := 1032) (p := 4) rfl dL_law_1032 ?_
    refine j_iconst (pc := 1034) ki_2 dL_law_1034 ?_
    refine j_iadd (pc := 1035) dL_law_1035 ?_
    refine j_scr (pc := 1036) hxs hL dL_law_1036 (fun x157 _ => ?_)
    refine j_cVi (pc := 1037) Y_X9_late (ci := 8) (b := v1) rfl rfl ml_L_123 im_X9_late se_X9_late ⟨Nat.le_of_ble_eq_true rfl, Nat.le_of_ble_eq_true rfl⟩ dL_law_1037 (As := [.int x156, .int x157]) (rest := []) rfl rfl (Nat.le_of_ble_eq_true rfl) (fun x hq9 => c_X9_late _ _ _ _ _ hq9) (fun q158 _ => ?_)
    refine j_aload_n (pc := 1040) (p := 2) rfl rfl dL_law_1040 ?_
    refine j_sload_n (pc := 1041) (p := 0) rfl rfl dL_law_1041 ?_
    refine j_iload (pc := 1042) (p := 4) rfl dL_law_1042 ?_
    refine j_iconst (pc := 1044) ki_1 dL_law_1044 ?_
    refine j_iadd (pc := 1045) dL_law_1045 ?_
    refine j_scr (pc := 1046) hxs hL dL_law_1046 (fun x159 _ => ?_)
    refine j_sload_n (pc := 1047) (p := 0) rfl rfl dL_law_1047 ?_
    refine j_iload (pc := 1048) (p := 4) rfl dL_law_1048 ?_
    refine j_iconst (pc := 1050) ki_2 dL_law_1050 ?_
    refine j_iadd (pc := 1051) dL_law_1051 ?_
    refine j_scr (pc := 1052) hxs hL dL_law_1052 (fun x160 _ => ?_)
    refine j_cVi (pc := 1053) Y_X10_late (ci := 9) (b := v2) rfl rfl ml_L_126 im_X10_late se_X10_late ⟨Nat.le_of_ble_eq_true rfl, Nat.le_of_ble_eq_true rfl⟩ dL_law_1053 (As := [.int x159, .int x160]) (rest := [.int q158.2]) rfl rfl (Nat.le_of_ble_eq_true rfl) (fun x hq9 => c_X10_late _ _ _ _ _ hq9) (fun q161 _ => ?_)
    refine j_ic_eq (pc := 1056) (tgt := 1377) dL_law_1056 (by decide) (fun _ => ?_) (fun _ => ?_)
    · exact jb_L_law_1377 hx hl hB hxs hL k23 hk23 _ _ _ _ _ _
    refine j_iconst (pc := 1059) ki_0 dL_law_1059 ?_
    exact j_none
  refine j_ite (fun c162 => ?_) (fun c162 => ?_)
  · refine j_tsI (pc := 39) (y := 23) (off := 1022) (tgt := 1061) dL_law_39 c162 ⟨by decide, by decide, by decide⟩ (by decide) ?_
    refine j_aload_n (pc := 1061) (p := 1) rfl rfl dL_law_1061 ?_
    refine j_sload_n (pc := 1062) (p := 0) rfl rfl dL_law_1062 ?_
    refine j_iload (pc := 1063) (p := 4) rfl dL_law_1063 ?_
    refine j_iconst (pc := 1065) ki_1 dL_law_1065 ?_
    refine j_iadd (pc := 1066) dL_law_1066 ?_
    refine j_scr (pc := 1067) hxs hL dL_law_1067 (fun x163 _ => ?_)
    refine j_cVi (pc := 1068) Y_X9_then (ci := 8) (b := v1) rfl rfl ml_L_127 im_X9_then se_X9_then ⟨Nat.le_of_ble_eq_true rfl, Nat.le_of_ble_eq_true rfl⟩ dL_law_1068 (As := [.int x163]) (rest := []) rfl rfl (Nat.le_of_ble_eq_true rfl) (fun x hq9 => c_X9_then _ _ _ _ hq9) (fun q164 _ => ?_)
    refine j_aload_n (pc := 1071) (p := 2) rfl rfl dL_law_1071 ?_
    refine j_sload_n (pc := 1072) (p := 0) rfl rfl dL_law_1072 ?_
    refine j_iload (pc := 1073) (p := 4) rfl dL_law_1073 ?_
    refine j_iconst (pc := 1075) ki_1 dL_law_1075 ?_
    refine j_iadd (pc := 1076) dL_law_1076 ?_
    refine j_scr (pc := 1077) hxs hL dL_law_1077 (fun x165 _ => ?_)
    refine j_cVi (pc := 1078) Y_X10_then (ci := 9) (b := v2) rfl rfl ml_L_130 im_X10_then se_X10_then ⟨Nat.le_of_ble_eq_true rfl, Nat.le_of_ble_eq_true rfl⟩ dL_law_1078 (As := [.int x165]) (rest := [.int q164.2]) rfl rfl (Nat.le_of_ble_eq_true rfl) (fun x hq9 => c_X10_then _ _ _ _ hq9) (fun q166 _ => ?_)
    refine j_ic_eq (pc := 1081) (tgt := 1377) dL_law_1081 (by decide) (fun _ => ?_) (fun _ => ?_)
    · exact jb_L_law_1377 hx hl hB hxs hL k23 hk23 _ _ _ _ _ _
    refine j_iconst (pc := 1084) ki_0 dL_law_1084 ?_
    exact j_none
  refine j_ite (fun c167 => ?_) (fun c167 => ?_)
  · refine j_tsI (pc := 39) (y := 24) (off := 1047) (tgt := 1086) dL_law_39 c167 ⟨by decide, by decide, by decide⟩ (by decide) ?_
    refine j_aload_n (pc := 1086) (p := 1) rfl rfl dL_law_1086 ?_
    refine j_sload_n (pc := 1087) (p := 0) rfl rfl dL_law_1087 ?_
    refine j_iload (pc := 1088) (p := 4) rfl dL_law_1088 ?_
    refine j_iconst (pc := 1090) ki_1 dL_law_1090 ?_
    refine j_iadd (pc := 1091) dL_law_1091 ?_
    refine j_scr (pc := 1092) hxs hL dL_law_1092 (fun x168 _ => ?_)
    refine j_cVi (pc := 1093) Y_X9_worst (ci := 8) (b := v1) rfl rfl ml_L_131 im_X9_worst se_X9_worst ⟨Nat.le_of_ble_eq_true rfl, Nat.le_of_ble_eq_true rfl⟩ dL_law_1093 (As := [.int x168]) (rest := []) rfl rfl (Nat.le_of_ble_eq_true rfl) (fun x hq9 => c_X9_worst _ _ _ _ hq9) (fun q169 _ => ?_)
    refine j_aload_n (pc := 1096) (p := 2) rfl rfl dL_law_1096 ?_
    refine j_sload_n (pc := 1097) (p := 0) rfl rfl dL_law_1097 ?_
    refine j_iload (pc := 1098) (p := 4) rfl dL_law_1098 ?_
    refine j_iconst (pc := 1100) ki_1 dL_law_1100 ?_
    refine j_iadd (pc := 1101) dL_law_1101 ?_
    refine j_scr (pc := 1102) hxs hL dL_law_1102 (fun x170 _ => ?_)
    refine j_cVi (pc := 1103) Y_X10_worst (ci := 9) (b := v2) rfl rfl ml_L_134 im_X10_worst se_X10_worst ⟨Nat.le_of_ble_eq_true rfl, Nat.le_of_ble_eq_true rfl⟩ dL_law_1103 (As := [.int x170]) (rest := [.int q169.2]) rfl rfl (Nat.le_of_ble_eq_true rfl) (fun x hq9 => c_X10_worst _ _ _ _ hq9) (fun q171 _ => ?_)
    refine j_ic_eq (pc := 1106) (tgt := 1377) dL_law_1106 (by decide) (fun _ => ?_) (fun _ => ?_)
    · exact jb_L_law_1377 hx hl hB hxs hL k23 hk23 _ _ _ _ _ _
    refine j_iconst (pc := 1109) ki_0 dL_law_1109 ?_
    exact j_none
  refine j_ite (fun c172 => ?_) (fun c172 => ?_)
  · refine j_tsI (pc := 39) (y := 25) (off := 1072) (tgt := 1111) dL_law_39 c172 ⟨by decide, by decide, by decide⟩ (by decide) ?_
    refine j_aload_n (pc := 1111) (p := 1) rfl rfl dL_law_1111 ?_
    refine j_sload_n (pc := 1112) (p := 0) rfl rfl dL_law_1112 ?_
    refine j_iload (pc := 1113) (p := 4) rfl dL_law_1113 ?_
    refine j_iconst (pc := 1115) ki_1 dL_law_1115 ?_
    refine j_iadd (pc := 1116) dL_law_1116 ?_
    refine j_scr (pc := 1117) hxs hL dL_law_1117 (fun x173 _ => ?_)
    refine j_sload_n (pc := 1118) (p := 0) rfl rfl dL_law_1118 ?_
    refine j_iload (pc := 1119) (p := 4) rfl dL_law_1119 ?_
    refine j_iconst (pc := 1121) ki_2 dL_law_1121 ?_
    refine j_iadd (pc := 1122) dL_law_1122 ?_
    refine j_scr (pc := 1123) hxs hL dL_law_1123 (fun x174 _ => ?_)
    refine j_cVi (pc := 1124) Y_X9_frees (ci := 8) (b := v1) rfl rfl ml_L_135 im_X9_frees se_X9_frees ⟨Nat.le_of_ble_eq_true rfl, Nat.le_of_ble_eq_true rfl⟩ dL_law_1124 (As := [.int x173, .int x174]) (rest := []) rfl rfl (Nat.le_of_ble_eq_true rfl) (fun x hq9 => c_X9_frees _ _ _ _ _ hq9) (fun q175 _ => ?_)
    refine j_aload_n (pc := 1127) (p := 2) rfl rfl dL_law_1127 ?_
    refine j_sload_n (pc := 1128) (p := 0) rfl rfl dL_law_1128 ?_
    refine j_iload (pc := 1129) (p := 4) rfl dL_law_1129 ?_
    refine j_iconst (pc := 1131) ki_1 dL_law_1131 ?_
    refine j_iadd (pc := 1132) dL_law_1132 ?_
    refine j_scr (pc := 1133) hxs hL dL_law_1133 (fun x176 _ => ?_)
    refine j_sload_n (pc := 1134) (p := 0) rfl rfl dL_law_1134 ?_
    refine j_iload (pc := 1135) (p := 4) rfl dL_law_1135 ?_
    refine j_iconst (pc := 1137) ki_2 dL_law_1137 ?_
    refine j_iadd (pc := 1138) dL_law_1138 ?_
    refine j_scr (pc := 1139) hxs hL dL_law_1139 (fun x177 _ => ?_)
    refine j_cVi (pc := 1140) Y_X10_frees (ci := 9) (b := v2) rfl rfl ml_L_138 im_X10_frees se_X10_frees ⟨Nat.le_of_ble_eq_true rfl, Nat.le_of_ble_eq_true rfl⟩ dL_law_1140 (As := [.int x176, .int x177]) (rest := [.int q175.2]) rfl rfl (Nat.le_of_ble_eq_true rfl) (fun x hq9 => c_X10_frees _ _ _ _ _ hq9) (fun q178 _ => ?_)
    refine j_ic_eq (pc := 1143) (tgt := 1377) dL_law_1143 (by decide) (fun _ => ?_) (fun _ => ?_)
    · exact jb_L_law_1377 hx hl hB hxs hL k23 hk23 _ _ _ _ _ _
    refine j_iconst (pc := 1146) ki_0 dL_law_1146 ?_
    exact j_none
  refine j_ite (fun c179 => ?_) (fun c179 => ?_)
  · refine j_tsI (pc := 39) (y := 26) (off := 1109) (tgt := 1148) dL_law_39 c179 ⟨by decide, by decide, by decide⟩ (by decide) ?_
    refine j_aload_n (pc := 1148) (p := 1) rfl rfl dL_law_1148 ?_
    refine j_sload_n (pc := 1149) (p := 0) rfl rfl dL_law_1149 ?_
    refine j_iload (pc := 1150) (p := 4) rfl dL_law_1150 ?_
    refine j_iconst (pc := 1152) ki_1 dL_law_1152 ?_
    refine j_iadd (pc := 1153) dL_law_1153 ?_
    refine j_scr (pc := 1154) hxs hL dL_law_1154 (fun x180 _ => ?_)
    refine j_cVi (pc := 1155) Y_X9_idle (ci := 8) (b := v1) rfl rfl ml_L_139 im_X9_idle se_X9_idle ⟨Nat.le_of_ble_eq_true rfl, Nat.le_of_ble_eq_true rfl⟩ dL_law_1155 (As := [.int x180]) (rest := []) rfl rfl (Nat.le_of_ble_eq_true rfl) (fun x hq9 => c_X9_idle _ _ _ _ hq9) (fun q181 _ => ?_)
    refine j_aload_n (pc := 1158) (p := 2) rfl rfl dL_law_1158 ?_
    refine j_sload_n (pc := 1159) (p := 0) rfl rfl dL_law_1159 ?_
    refine j_iload (pc := 1160) (p := 4) rfl dL_law_1160 ?_
    refine j_iconst (pc := 1162) ki_1 dL_law_1162 ?_
    refine j_iadd (pc := 1163) dL_law_1163 ?_
    refine j_scr (pc := 1164) hxs hL dL_law_1164 (fun x182 _ => ?_)
    refine j_cVi (pc := 1165) Y_X10_idle (ci := 9) (b := v2) rfl rfl ml_L_142 im_X10_idle se_X10_idle ⟨Nat.le_of_ble_eq_true rfl, Nat.le_of_ble_eq_true rfl⟩ dL_law_1165 (As := [.int x182]) (rest := [.int q181.2]) rfl rfl (Nat.le_of_ble_eq_true rfl) (fun x hq9 => c_X10_idle _ _ _ _ hq9) (fun q183 _ => ?_)
    refine j_ic_eq (pc := 1168) (tgt := 1377) dL_law_1168 (by decide) (fun _ => ?_) (fun _ => ?_)
    · exact jb_L_law_1377 hx hl hB hxs hL k23 hk23 _ _ _ _ _ _
    refine j_iconst (pc := 1171) ki_0 dL_law_1171 ?_
    exact j_none
  refine j_ite (fun c184 => ?_) (fun c184 => ?_)
  · refine j_tsI (pc := 39) (y := 27) (off := 1134) (tgt := 1173) dL_law_39 c184 ⟨by decide, by decide, by decide⟩ (by decide) ?_
    refine j_aload_n (pc := 1173) (p := 1) rfl rfl dL_law_1173 ?_
    refine j_sload_n (pc := 1174) (p := 0) rfl rfl dL_law_1174 ?_
    refine j_iload (pc := 1175) (p := 4) rfl dL_law_1175 ?_
    refine j_iconst (pc := 1177) ki_1 dL_law_1177 ?_
    refine j_iadd (pc := 1178) dL_law_1178 ?_
    refine j_scr (pc := 1179) hxs hL dL_law_1179 (fun x185 _ => ?_)
    refine j_sload_n (pc := 1180) (p := 0) rfl rfl dL_law_1180 ?_
    refine j_iload (pc := 1181) (p := 4) rfl dL_law_1181 ?_
    refine j_iconst (pc := 1183) ki_2 dL_law_1183 ?_
    refine j_iadd (pc := 1184) dL_law_1184 ?_
    refine j_scr (pc := 1185) hxs hL dL_law_1185 (fun x186 _ => ?_)
    refine j_cVi (pc := 1186) Y_X9_nearest (ci := 8) (b := v1) rfl rfl ml_L_143 im_X9_nearest se_X9_nearest ⟨Nat.le_of_ble_eq_true rfl, Nat.le_of_ble_eq_true rfl⟩ dL_law_1186 (As := [.int x185, .int x186]) (rest := []) rfl rfl (Nat.le_of_ble_eq_true rfl) (fun x hq9 => c_X9_nearest _ _ _ _ _ hq9) (fun q187 _ => ?_)
    refine j_aload_n (pc := 1189) (p := 2) rfl rfl dL_law_1189 ?_
    refine j_sload_n (pc := 1190) (p := 0) rfl rfl dL_law_1190 ?_
    refine j_iload (pc := 1191) (p := 4) rfl dL_law_1191 ?_
    refine j_iconst (pc := 1193) ki_1 dL_law_1193 ?_
    refine j_iadd (pc := 1194) dL_law_1194 ?_
    refine j_scr (pc := 1195) hxs hL dL_law_1195 (fun x188 _ => ?_)
    refine j_sload_n (pc := 1196) (p := 0) rfl rfl dL_law_1196 ?_
    refine j_iload (pc := 1197) (p := 4) rfl dL_law_1197 ?_
    refine j_iconst (pc := 1199) ki_2 dL_law_1199 ?_
    refine j_iadd (pc := 1200) dL_law_1200 ?_
    refine j_scr (pc := 1201) hxs hL dL_law_1201 (fun x189 _ => ?_)
    refine j_cVi (pc := 1202) Y_X10_nearest (ci := 9) (b := v2) rfl rfl ml_L_146 im_X10_nearest se_X10_nearest ⟨Nat.le_of_ble_eq_true rfl, Nat.le_of_ble_eq_true rfl⟩ dL_law_1202 (As := [.int x188, .int x189]) (rest := [.int q187.2]) rfl rfl (Nat.le_of_ble_eq_true rfl) (fun x hq9 => c_X10_nearest _ _ _ _ _ hq9) (fun q190 _ => ?_)
    refine j_ic_eq (pc := 1205) (tgt := 1377) dL_law_1205 (by decide) (fun _ => ?_) (fun _ => ?_)
    · exact jb_L_law_1377 hx hl hB hxs hL k23 hk23 _ _ _ _ _ _
    refine j_iconst (pc := 1208) ki_0 dL_law_1208 ?_
    exact j_none
  refine j_ite (fun c191 => ?_) (fun c191 => ?_)
  · refine j_tsI (pc := 39) (y := 28) (off := 1171) (tgt := 1210) dL_law_39 c191 ⟨by decide, by decide, by decide⟩ (by decide) ?_
    refine j_aload_n (pc := 1210) (p := 1) rfl rfl dL_law_1210 ?_
    refine j_sload_n (pc := 1211) (p := 0) rfl rfl dL_law_1211 ?_
    refine j_iload (pc := 1212) (p := 4) rfl dL_law_1212 ?_
    refine j_iconst (pc := 1214) ki_1 dL_law_1214 ?_
    refine j_iadd (pc := 1215) dL_law_1215 ?_
    refine j_scr (pc := 1216) hxs hL dL_law_1216 (fun x192 _ => ?_)
    refine j_sload_n (pc := 1217) (p := 0) rfl rfl dL_law_1217 ?_
    refine j_iload (pc := 1218) (p := 4) rfl dL_law_1218 ?_
    refine j_iconst (pc := 1220) ki_2 dL_law_1220 ?_
    refine j_iadd (pc := 1221) dL_law_1221 ?_
    refine j_scr (pc := 1222) hxs hL dL_law_1222 (fun x193 _ => ?_)
    refine j_cVi (pc := 1223) Y_X9_years (ci := 8) (b := v1) rfl rfl ml_L_147 im_X9_years se_X9_years ⟨Nat.le_of_ble_eq_true rfl, Nat.le_of_ble_eq_true rfl⟩ dL_law_1223 (As := [.int x192, .int x193]) (rest := []) rfl rfl (Nat.le_of_ble_eq_true rfl) (fun x hq9 => c_X9_years _ _ _ _ _ hq9) (fun q194 _ => ?_)
    refine j_aload_n (pc := 1226) (p := 2) rfl rfl dL_law_1226 ?_
    refine j_sload_n (pc := 1227) (p := 0) rfl rfl dL_law_1227 ?_
    refine j_iload (pc := 1228) (p := 4) rfl dL_law_1228 ?_
    refine j_iconst (pc := 1230) ki_1 dL_law_1230 ?_
    refine j_iadd (pc := 1231) dL_law_1231 ?_
    refine j_scr (pc := 1232) hxs hL dL_law_1232 (fun x195 _ => ?_)
    refine j_sload_n (pc := 1233) (p := 0) rfl rfl dL_law_1233 ?_
    refine j_iload (pc := 1234) (p := 4) rfl dL_law_1234 ?_
    refine j_iconst (pc := 1236) ki_2 dL_law_1236 ?_
    refine j_iadd (pc := 1237) dL_law_1237 ?_
    refine j_scr (pc := 1238) hxs hL dL_law_1238 (fun x196 _ => ?_)
    refine j_cVi (pc := 1239) Y_X10_years (ci := 9) (b := v2) rfl rfl ml_L_150 im_X10_years se_X10_years ⟨Nat.le_of_ble_eq_true rfl, Nat.le_of_ble_eq_true rfl⟩ dL_law_1239 (As := [.int x195, .int x196]) (rest := [.int q194.2]) rfl rfl (Nat.le_of_ble_eq_true rfl) (fun x hq9 => c_X10_years _ _ _ _ _ hq9) (fun q197 _ => ?_)
    refine j_ic_eq (pc := 1242) (tgt := 1377) dL_law_1242 (by decide) (fun _ => ?_) (fun _ => ?_)
    · exact jb_L_law_1377 hx hl hB hxs hL k23 hk23 _ _ _ _ _ _
    refine j_iconst (pc := 1245) ki_0 dL_law_1245 ?_
    exact j_none
  refine j_ite (fun c198 => ?_) (fun c198 => ?_)
  · refine j_tsI (pc := 39) (y := 29) (off := 1208) (tgt := 1247) dL_law_39 c198 ⟨by decide, by decide, by decide⟩ (by decide) ?_
    refine j_aload_n (pc := 1247) (p := 1) rfl rfl dL_law_1247 ?_
    refine j_sload_n (pc := 1248) (p := 0) rfl rfl dL_law_1248 ?_
    refine j_iload (pc := 1249) (p := 4) rfl dL_law_1249 ?_
    refine j_iconst (pc := 1251) ki_1 dL_law_1251 ?_
    refine j_iadd (pc := 1252) dL_law_1252 ?_
    refine j_scr (pc := 1253) hxs hL dL_law_1253 (fun x199 _ => ?_)
    refine j_cVi (pc := 1254) Y_X9_keep (ci := 8) (b := v1) rfl rfl ml_L_151 im_X9_keep se_X9_keep ⟨Nat.le_of_ble_eq_true rfl, Nat.le_of_ble_eq_true rfl⟩ dL_law_1254 (As := [.int x199]) (rest := []) rfl rfl (Nat.le_of_ble_eq_true rfl) (fun x hq9 => c_X9_keep _ _ _ _ hq9) (fun q200 _ => ?_)
    refine j_aload_n (pc := 1257) (p := 2) rfl rfl dL_law_1257 ?_
    refine j_sload_n (pc := 1258) (p := 0) rfl rfl dL_law_1258 ?_
    refine j_iload (pc := 1259) (p := 4) rfl dL_law_1259 ?_
    refine j_iconst (pc := 1261) ki_1 dL_law_1261 ?_
    refine j_iadd (pc := 1262) dL_law_1262 ?_
    refine j_scr (pc := 1263) hxs hL dL_law_1263 (fun x201 _ => ?_)
    refine j_cVi (pc := 1264) Y_X10_keep (ci := 9) (b := v2) rfl rfl ml_L_154 im_X10_keep se_X10_keep ⟨Nat.le_of_ble_eq_true rfl, Nat.le_of_ble_eq_true rfl⟩ dL_law_1264 (As := [.int x201]) (rest := [.int q200.2]) rfl rfl (Nat.le_of_ble_eq_true rfl) (fun x hq9 => c_X10_keep _ _ _ _ hq9) (fun q202 _ => ?_)
    refine j_ic_eq (pc := 1267) (tgt := 1377) dL_law_1267 (by decide) (fun _ => ?_) (fun _ => ?_)
    · exact jb_L_law_1377 hx hl hB hxs hL k23 hk23 _ _ _ _ _ _
    refine j_iconst (pc := 1270) ki_0 dL_law_1270 ?_
    exact j_none
  refine j_ite (fun c203 => ?_) (fun c203 => ?_)
  · refine j_tsI (pc := 39) (y := 30) (off := 1233) (tgt := 1272) dL_law_39 c203 ⟨by decide, by decide, by decide⟩ (by decide) ?_
    refine j_aload_n (pc := 1272) (p := 1) rfl rfl dL_law_1272 ?_
    refine j_sload_n (pc := 1273) (p := 0) rfl rfl dL_law_1273 ?_
    refine j_iload (pc := 1274) (p := 4) rfl dL_law_1274 ?_
    refine j_iconst (pc := 1276) ki_1 dL_law_1276 ?_
    refine j_iadd (pc := 1277) dL_law_1277 ?_
    refine j_scr (pc := 1278) hxs hL dL_law_1278 (fun x204 _ => ?_)
    refine j_cVi (pc := 1279) Y_X9_again (ci := 8) (b := v1) rfl rfl ml_L_155 im_X9_again se_X9_again ⟨Nat.le_of_ble_eq_true rfl, Nat.le_of_ble_eq_true rfl⟩ dL_law_1279 (As := [.int x204]) (rest := []) rfl rfl (Nat.le_of_ble_eq_true rfl) (fun x hq9 => c_X9_again _ _ _ _ hq9) (fun q205 _ => ?_)
    refine j_aload_n (pc := 1282) (p := 2) rfl rfl dL_law_1282 ?_
    refine j_sload_n (pc := 1283) (p := 0) rfl rfl dL_law_1283 ?_
    refine j_iload (pc := 1284) (p := 4) rfl dL_law_1284 ?_
    refine j_iconst (pc := 1286) ki_1 dL_law_1286 ?_
    refine j_iadd (pc := 1287) dL_law_1287 ?_
    refine j_scr (pc := 1288) hxs hL dL_law_1288 (fun x206 _ => ?_)
    refine j_cVi (pc := 1289) Y_X10_again (ci := 9) (b := v2) rfl rfl ml_L_158 im_X10_again se_X10_again ⟨Nat.le_of_ble_eq_true rfl, Nat.le_of_ble_eq_true rfl⟩ dL_law_1289 (As := [.int x206]) (rest := [.int q205.2]) rfl rfl (Nat.le_of_ble_eq_true rfl) (fun x hq9 => c_X10_again _ _ _ _ hq9) (fun q207 _ => ?_)
    refine j_ic_eq (pc := 1292) (tgt := 1377) dL_law_1292 (by decide) (fun _ => ?_) (fun _ => ?_)
    · exact jb_L_law_1377 hx hl hB hxs hL k23 hk23 _ _ _ _ _ _
    refine j_iconst (pc := 1295) ki_0 dL_law_1295 ?_
    exact j_none
  refine j_ite (fun c208 => ?_) (fun c208 => ?_)
  · refine j_tsI (pc := 39) (y := 31) (off := 1258) (tgt := 1297) dL_law_39 c208 ⟨by decide, by decide, by decide⟩ (by decide) ?_
    refine j_aload_n (pc := 1297) (p := 1) rfl rfl dL_law_1297 ?_
    refine j_sload_n (pc := 1298) (p := 0) rfl rfl dL_law_1298 ?_
    refine j_iload (pc := 1299) (p := 4) rfl dL_law_1299 ?_
    refine j_iconst (pc := 1301) ki_1 dL_law_1301 ?_
    refine j_iadd (pc := 1302) dL_law_1302 ?_
    refine j_scr (pc := 1303) hxs hL dL_law_1303 (fun x209 _ => ?_)
    refine j_cVi (pc := 1304) Y_X9_count (ci := 8) (b := v1) rfl rfl ml_L_159 im_X9_count se_X9_count ⟨Nat.le_of_ble_eq_true rfl, Nat.le_of_ble_eq_true rfl⟩ dL_law_1304 (As := [.int x209]) (rest := []) rfl rfl (Nat.le_of_ble_eq_true rfl) (fun x hq9 => c_X9_count _ _ _ _ hq9) (fun q210 _ => ?_)
    refine j_aload_n (pc := 1307) (p := 2) rfl rfl dL_law_1307 ?_
    refine j_sload_n (pc := 1308) (p := 0) rfl rfl dL_law_1308 ?_
    refine j_iload (pc := 1309) (p := 4) rfl dL_law_1309 ?_
    refine j_iconst (pc := 1311) ki_1 dL_law_1311 ?_
    refine j_iadd (pc := 1312) dL_law_1312 ?_
    refine j_scr (pc := 1313) hxs hL dL_law_1313 (fun x211 _ => ?_)
    refine j_cVi (pc := 1314) Y_X10_count (ci := 9) (b := v2) rfl rfl ml_L_162 im_X10_count se_X10_count ⟨Nat.le_of_ble_eq_true rfl, Nat.le_of_ble_eq_true rfl⟩ dL_law_1314 (As := [.int x211]) (rest := [.int q210.2]) rfl rfl (Nat.le_of_ble_eq_true rfl) (fun x hq9 => c_X10_count _ _ _ _ hq9) (fun q212 _ => ?_)
    refine j_ic_eq (pc := 1317) (tgt := 1377) dL_law_1317 (by decide) (fun _ => ?_) (fun _ => ?_)
    · exact jb_L_law_1377 hx hl hB hxs hL k23 hk23 _ _ _ _ _ _
    refine j_iconst (pc := 1320) ki_0 dL_law_1320 ?_
    exact j_none
  refine j_ite (fun c213 => ?_) (fun c213 => ?_)
  · refine j_tsI (pc := 39) (y := 32) (off := 1283) (tgt := 1322) dL_law_39 c213 ⟨by decide, by decide, by decide⟩ (by decide) ?_
    refine j_aload_n (pc := 1322) (p := 1) rfl rfl dL_law_1322 ?_
    refine j_sload_n (pc := 1323) (p := 0) rfl rfl dL_law_1323 ?_
    refine j_iload (pc := 1324) (p := 4) rfl dL_law_1324 ?_
    refine j_iconst (pc := 1326) ki_1 dL_law_1326 ?_
    refine j_iadd (pc := 1327) dL_law_1327 ?_
    refine j_scr (pc := 1328) hxs hL dL_law_1328 (fun x214 _ => ?_)
    refine j_aload_n (pc := 1329) (p := 3) rfl rfl dL_law_1329 ?_
    refine j_cSW (pc := 1330) Y_L_row ml_L_163 sm_L_row ⟨Nat.le_of_ble_eq_true rfl, Nat.le_of_ble_eq_true rfl⟩ dL_law_1330 (As := [.ref v1, .int x214, .ref v3]) (rest := []) rfl rfl (Nat.le_of_ble_eq_true rfl) (fun x hq9 => (q_or_ok hq9).elim (fun e9 => c_L_row _ _ _ _ _ e9) (fun e9 => ct_L_row hx hl _ _ _ _ _ e9)) (fun q215 _ => ?_)
    refine j_istore (pc := 1333) (lv' := [(5, .int q215.2), (0, .float v0), (1, .ref v1), (2, .ref v2), (3, .ref v3), (4, .int v4)]) (by decide) rfl dL_law_1333 ?_
    refine j_aload_n (pc := 1335) (p := 3) rfl rfl dL_law_1335 ?_
    refine j_sload_n (pc := 1336) (p := 1) rfl rfl dL_law_1336 ?_
    refine j_iload (pc := 1337) (p := 5) rfl dL_law_1337 ?_
    refine j_iconst (pc := 1339) ki_1 dL_law_1339 ?_
    refine j_iadd (pc := 1340) dL_law_1340 ?_
    refine j_scr (pc := 1341) hxs hL dL_law_1341 (fun x216 _ => ?_)
    refine j_cVl (pc := 1342) Y_X10_row (ci := 9) (b := v2) rfl rfl ml_L_166 im_X10_row se_X10_row ⟨Nat.le_of_ble_eq_true rfl, Nat.le_of_ble_eq_true rfl⟩ dL_law_1342 (As := [.int x216]) (rest := []) rfl rfl (Nat.le_of_ble_eq_true rfl) (fun x hq9 => c_X10_row _ _ _ _ hq9) (fun q217 _ => ?_)
    refine j_lstore (pc := 1345) (lv' := [(6, .long q217.2), (5, .int q215.2), (0, .float v0), (1, .ref v1), (2, .ref v2), (3, .ref v3), (4, .int v4)]) (by decide) rfl dL_law_1345 ?_
    refine j_aload_n (pc := 1347) (p := 4) rfl rfl dL_law_1347 ?_
    refine j_cVi (pc := 1348) Y_X10_thrown (ci := 9) (b := v2) rfl rfl ml_L_42 im_X10_thrown se_X10_thrown ⟨Nat.le_of_ble_eq_true rfl, Nat.le_of_ble_eq_true rfl⟩ dL_law_1348 (As := []) (rest := []) rfl rfl (Nat.le_of_ble_eq_true rfl) (fun x hq9 => c_X10_thrown _ _ _ hq9) (fun q218 _ => ?_)
    refine j_iload (pc := 1351) (p := 1) rfl dL_law_1351 ?_
    refine j_ic_eq (pc := 1353) (tgt := 1358) dL_law_1353 (by decide) (fun _ => ?_) (fun _ => ?_)
    · refine j_iload (pc := 1358) (p := 1) rfl dL_law_1358 ?_
      refine j_if_ne (pc := 1360) (tgt := 1374) dL_law_1360 (by decide) (fun _ => ?_) (fun _ => ?_)
      · refine j_aload_n (pc := 1363) (p := 5) rfl rfl dL_law_1363 ?_
        refine j_iconst (pc := 1364) ki_0 dL_law_1364 ?_
        refine j_lald (pc := 1365) dL_law_1365 (fun x219 _ => ?_)
        refine j_lload (pc := 1366) (p := 0) rfl dL_law_1366 ?_
        refine j_lcmp (pc := 1368) dL_law_1368 ?_
        refine j_if_eq (pc := 1369) (tgt := 1374) dL_law_1369 (by decide) (fun _ => ?_) (fun _ => ?_)
        · refine j_sub [2, 3, 4, 5, 6] (lv' := [(0, .float v0), (1, .ref v1), (2, .ref v2), (3, .ref v3), (4, .int v4)]) rfl ?_
          exact jb_L_law_1374 hx hl hB hxs hL k23 hk23 _ _ _ _ _ _
        refine j_iconst (pc := 1372) ki_0 dL_law_1372 ?_
        exact j_none
      refine j_sub [2, 3, 4, 5, 6] (lv' := [(0, .float v0), (1, .ref v1), (2, .ref v2), (3, .ref v3), (4, .int v4)]) rfl ?_
      exact jb_L_law_1374 hx hl hB hxs hL k23 hk23 _ _ _ _ _ _
    refine j_iconst (pc := 1356) ki_0 dL_law_1356 ?_
    exact j_none
  refine j_tsO (pc := 39) (tgt := 1377) dL_law_39 (by have a_c3 := lv_neT c3 (show ((0 : Int32)).toInt = 0 by decide); have a_c8 := lv_neT c8 (show ((1 : Int32)).toInt = 1 by decide); have a_c13 := lv_neT c13 (show ((2 : Int32)).toInt = 2 by decide); have a_c24 := lv_neT c24 (show ((3 : Int32)).toInt = 3 by decide); have a_c35 := lv_neT c35 (show ((4 : Int32)).toInt = 4 by decide); have a_c46 := lv_neT c46 (show ((5 : Int32)).toInt = 5 by decide); have a_c51 := lv_neT c51 (show ((6 : Int32)).toInt = 6 by decide); have a_c58 := lv_neT c58 (show ((7 : Int32)).toInt = 7 by decide); have a_c63 := lv_neT c63 (show ((8 : Int32)).toInt = 8 by decide); have a_c68 := lv_neT c68 (show ((9 : Int32)).toInt = 9 by decide); have a_c71 := lv_neT c71 (show ((10 : Int32)).toInt = 10 by decide); have a_c78 := lv_neT c78 (show ((11 : Int32)).toInt = 11 by decide); have a_c83 := lv_neT c83 (show ((12 : Int32)).toInt = 12 by decide); have a_c88 := lv_neT c88 (show ((13 : Int32)).toInt = 13 by decide); have a_c95 := lv_neT c95 (show ((14 : Int32)).toInt = 14 by decide); have a_c102 := lv_neT c102 (show ((15 : Int32)).toInt = 15 by decide); have a_c111 := lv_neT c111 (show ((16 : Int32)).toInt = 16 by decide); have a_c118 := lv_neT c118 (show ((17 : Int32)).toInt = 17 by decide); have a_c127 := lv_neT c127 (show ((18 : Int32)).toInt = 18 by decide); have a_c136 := lv_neT c136 (show ((19 : Int32)).toInt = 19 by decide); have a_c141 := lv_neT c141 (show ((20 : Int32)).toInt = 20 by decide); have a_c148 := lv_neT c148 (show ((21 : Int32)).toInt = 21 by decide); have a_c155 := lv_neT c155 (show ((22 : Int32)).toInt = 22 by decide); have a_c162 := lv_neT c162 (show ((23 : Int32)).toInt = 23 by decide); have a_c167 := lv_neT c167 (show ((24 : Int32)).toInt = 24 by decide); have a_c172 := lv_neT c172 (show ((25 : Int32)).toInt = 25 by decide); have a_c179 := lv_neT c179 (show ((26 : Int32)).toInt = 26 by decide); have a_c184 := lv_neT c184 (show ((27 : Int32)).toInt = 27 by decide); have a_c191 := lv_neT c191 (show ((28 : Int32)).toInt = 28 by decide); have a_c198 := lv_neT c198 (show ((29 : Int32)).toInt = 29 by decide); have a_c203 := lv_neT c203 (show ((30 : Int32)).toInt = 30 by decide); have a_c208 := lv_neT c208 (show ((31 : Int32)).toInt = 31 by decide); have a_c213 := lv_neT c213 (show ((32 : Int32)).toInt = 32 by decide); omega) (by decide) ?_
  exact jb_L_law_1377 hx hl hB hxs hL k23 hk23 _ _ _ _ _ _
set_option maxRecDepth 20000 in
set_option maxHeartbeats 4000000 in
theorem jl_L_law_23 {G : q_G} {l : Launch} {k0 z0 B b : Nat} {nm : String} {tab : List ExceptionTableEntry} {xs : Nat → Int32} {L : Nat} (hx : G.2.2.2.2.2.2.2 = false) (hl : l.stackTraces = false) (hB : G.1 = B) (hxs : G.2.2.2.2.1 = xs) (hL : G.2.2.2.2.2.1 = L) (n : Nat) : ∀ (h : q_H) (v0 : UInt32) (v1 : Nat) (v2 : Nat) (v3 : Nat) (v4 : Int32), q_J G l (RL, cL_law, 8, 2048, 84000, some .boolean, nm, tab) k0 z0 (q_ZL B b) 23 [(0, .float v0), (1, .ref v1), (2, .ref v2), (3, .ref v3), (4, .int v4)] [] h (l_L_law_23 xs L n h v0 v1 v2 v3 v4) := by
  induction n with
  | zero => intro h v0 v1 v2 v3 v4; exact j_none
  | succ n ih => intro h v0 v1 v2 v3 v4; exact jb_L_law_23 hx hl hB hxs hL (l_L_law_23 xs L n) ih h v0 v1 v2 v3 v4
set_option maxRecDepth 20000 in
set_option maxHeartbeats 4000000 in
theorem jb_L_law_0 {G : q_G} {l : Launch} {k0 z0 B b : Nat} {nm : String} {tab : List ExceptionTableEntry} {xs : Nat → Int32} {L : Nat} (hx : G.2.2.2.2.2.2.2 = true) (hl : l.stackTraces = false) (hB : G.1 = B) (hxs : G.2.2.2.2.1 = xs) (hL : G.2.2.2.2.2.1 = L) (h : q_H) (v0 : UInt32) : q_J G l (RL, cL_law, 8, 2048, 84000, some .boolean, nm, tab) k0 z0 (q_ZL B b) 0 [(0, .float v0)] [] h (b_L_law_0 xs L h v0) := by
  unfold b_L_law_0
  refine j_new (pc := 0) hx FI_X9 cl_L_8 ins_X9 ini_X9 rfl (nf_X9 G) dL_law_0 (fun q220 _ => ?_)
  refine j_dup (pc := 3) rfl dL_law_3 ?_
  refine j_cIu (pc := 4) Y_X9_init (b := q220.2) rfl ml_L_22 im_X9_init ⟨Nat.le_of_ble_eq_true rfl, Nat.le_of_ble_eq_true rfl⟩ dL_law_4 (As := []) (rest := [.ref q220.2]) rfl rfl (Nat.le_of_ble_eq_true rfl) (fun x hq9 => (c_X9_init hx) _ _ _ hq9) (fun q221 _ => ?_)
  refine j_astore_n (pc := 7) (lv' := [(1, .ref q220.2), (0, .float v0)]) rfl (by decide) rfl dL_law_7 ?_
  refine j_new (pc := 8) hx FI_X10 cl_L_23 ins_X10 ini_X10 rfl (nf_X10 G) dL_law_8 (fun q222 _ => ?_)
  refine j_dup (pc := 11) rfl dL_law_11 ?_
  refine j_cIu (pc := 12) Y_X10_init (b := q222.2) rfl ml_L_25 im_X10_init ⟨Nat.le_of_ble_eq_true rfl, Nat.le_of_ble_eq_true rfl⟩ dL_law_12 (As := []) (rest := [.ref q222.2]) rfl rfl (Nat.le_of_ble_eq_true rfl) (fun x hq9 => (c_X10_init hx) _ _ _ hq9) (fun q223 _ => ?_)
  refine j_astore_n (pc := 15) (lv' := [(2, .ref q222.2), (1, .ref q220.2), (0, .float v0)]) rfl (by decide) rfl dL_law_15 ?_
  refine j_iconst (pc := 16) ki_1 dL_law_16 ?_
  refine j_newl (pc := 17) hx ac_long dL_law_17 (fun q224 _ => ?_)
  refine j_astore_n (pc := 19) (lv' := [(3, .ref q224.2), (2, .ref q222.2), (1, .ref q220.2), (0, .float v0)]) rfl (by decide) rfl dL_law_19 ?_
  refine j_iconst (pc := 20) ki_0 dL_law_20 ?_
  refine j_istore (pc := 21) (lv' := [(4, .int (0)), (3, .ref q224.2), (2, .ref q222.2), (1, .ref q220.2), (0, .float v0)]) (by decide) rfl dL_law_21 ?_
  refine j_sub [4, 3, 2, 1, 0] (lv' := [(0, .float v0), (1, .ref q220.2), (2, .ref q222.2), (3, .ref q224.2), (4, .int (0))]) rfl ?_
  refine j_ne ?_
  exact jl_L_law_23 (G := q_ne G) rfl hl hB hxs hL q_FU _ _ _ _ _ _
