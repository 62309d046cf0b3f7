/-! STRING CONSTANTS: length() and charAt() on the literals of the reference, by the JDK's own code -/
theorem q_R.kp {G : q_G} {h : q_H} {H : Heap} (hR : q_R G h H) : ∀ a : Nat, a < G.2.2.2.2.2.2.1.size → ¬ q_fr G a → H[a]? = G.2.2.2.2.2.2.1[a]? := fun a _ hn => hR.2.2 a (Nat.not_le.mp hn)
theorem fl_J0_38 : Cond.fieldLink RJ0 38 "java/lang/String" "COMPACT_STRINGS" "Z" ∈ q_tb := q_inT6 (i := 12) (by decide +kernel) rfl
theorem fl_J0_1053 : Cond.fieldLink RJ0 1053 "jdk/internal/util/Preconditions" "SIOOBE_FORMATTER" "Ljava/util/function/BiFunction;" ∈ q_tb := q_inT6 (i := 28) (by decide +kernel) rfl
theorem fl_J0_9 : Cond.fieldLink RJ0 9 "java/lang/String" "value" "[B" ∈ q_tb := q_inT7 (i := 18) (by decide +kernel) rfl
theorem fl_J0_15 : Cond.fieldLink RJ0 15 "java/lang/String" "coder" "B" ∈ q_tb := q_inT7 (i := 19) (by decide +kernel) rfl
theorem Y_J0_length_8abf5 : q_Y yJ0_length_8abf5 cJ0_length_8abf5 1 (some .int) 0 := ⟨q_inT6 (i := 7) (by decide +kernel) rfl, ini_J0, by decide, by decide, by decide +kernel, by decide⟩
theorem dJ0_length_8abf5_0 : decode cJ0_length_8abf5 0 = .ok (.aload_n 0, 1) := by decide +kernel
theorem dJ0_length_8abf5_1 : decode cJ0_length_8abf5 1 = .ok (.getfield 9, 3) := by decide +kernel
theorem dJ0_length_8abf5_4 : decode cJ0_length_8abf5 4 = .ok (.arraylength, 1) := by decide +kernel
theorem dJ0_length_8abf5_5 : decode cJ0_length_8abf5 5 = .ok (.aload_n 0, 1) := by decide +kernel
theorem dJ0_length_8abf5_6 : decode cJ0_length_8abf5 6 = .ok (.invokevirtual 335, 3) := by decide +kernel
theorem dJ0_length_8abf5_9 : decode cJ0_length_8abf5 9 = .ok (.ishr, 1) := by decide +kernel
theorem dJ0_length_8abf5_10 : decode cJ0_length_8abf5 10 = .ok (.ireturn, 1) := by decide +kernel
theorem Y_J0_charAt_5068e : q_Y yJ0_charAt_5068e cJ0_charAt_5068e 2 (some .char) 1 := ⟨q_inT6 (i := 17) (by decide +kernel) rfl, ini_J0, by decide, by decide, by decide +kernel, by decide⟩
theorem dJ0_charAt_5068e_0 : decode cJ0_charAt_5068e 0 = .ok (.aload_n 0, 1) := by decide +kernel
theorem dJ0_charAt_5068e_1 : decode cJ0_charAt_5068e 1 = .ok (.invokevirtual 492, 3) := by decide +kernel
theorem dJ0_charAt_5068e_4 : decode cJ0_charAt_5068e 4 = .ok (.ifCond .eq 12, 3) := by decide +kernel
theorem dJ0_charAt_5068e_7 : decode cJ0_charAt_5068e 7 = .ok (.aload_n 0, 1) := by decide +kernel
theorem dJ0_charAt_5068e_8 : decode cJ0_charAt_5068e 8 = .ok (.getfield 9, 3) := by decide +kernel
theorem dJ0_charAt_5068e_11 : decode cJ0_charAt_5068e 11 = .ok (.iload_n 1, 1) := by decide +kernel
theorem dJ0_charAt_5068e_12 : decode cJ0_charAt_5068e 12 = .ok (.invokestatic 495, 3) := by decide +kernel
theorem dJ0_charAt_5068e_15 : decode cJ0_charAt_5068e 15 = .ok (.ireturn, 1) := by decide +kernel
theorem dJ0_charAt_5068e_16 : decode cJ0_charAt_5068e 16 = .ok (.aload_n 0, 1) := by decide +kernel
theorem dJ0_charAt_5068e_17 : decode cJ0_charAt_5068e 17 = .ok (.getfield 9, 3) := by decide +kernel
theorem dJ0_charAt_5068e_20 : decode cJ0_charAt_5068e 20 = .ok (.iload_n 1, 1) := by decide +kernel
theorem dJ0_charAt_5068e_21 : decode cJ0_charAt_5068e 21 = .ok (.invokestatic 498, 3) := by decide +kernel
theorem dJ0_charAt_5068e_24 : decode cJ0_charAt_5068e 24 = .ok (.ireturn, 1) := by decide +kernel
theorem Y_J0_coder_7d493 : q_Y yJ0_coder_7d493 cJ0_coder_7d493 1 (some .byte) 0 := ⟨q_inT6 (i := 11) (by decide +kernel) rfl, ini_J0, by decide, by decide, by decide +kernel, by decide⟩
theorem dJ0_coder_7d493_0 : decode cJ0_coder_7d493 0 = .ok (.getstatic 38, 3) := by decide +kernel
theorem dJ0_coder_7d493_3 : decode cJ0_coder_7d493 3 = .ok (.ifCond .eq 10, 3) := by decide +kernel
theorem dJ0_coder_7d493_6 : decode cJ0_coder_7d493 6 = .ok (.aload_n 0, 1) := by decide +kernel
theorem dJ0_coder_7d493_7 : decode cJ0_coder_7d493 7 = .ok (.getfield 15, 3) := by decide +kernel
theorem dJ0_coder_7d493_10 : decode cJ0_coder_7d493 10 = .ok (.goto 4, 3) := by decide +kernel
theorem dJ0_coder_7d493_13 : decode cJ0_coder_7d493 13 = .ok (.iconst 1, 1) := by decide +kernel
theorem dJ0_coder_7d493_14 : decode cJ0_coder_7d493 14 = .ok (.ireturn, 1) := by decide +kernel
theorem Y_J0_isLatin1_aae02 : q_Y yJ0_isLatin1_aae02 cJ0_isLatin1_aae02 1 (some .boolean) 0 := ⟨q_inT6 (i := 21) (by decide +kernel) rfl, ini_J0, by decide, by decide, by decide +kernel, by decide⟩
theorem dJ0_isLatin1_aae02_0 : decode cJ0_isLatin1_aae02 0 = .ok (.getstatic 38, 3) := by decide +kernel
theorem dJ0_isLatin1_aae02_3 : decode cJ0_isLatin1_aae02 3 = .ok (.ifCond .eq 14, 3) := by decide +kernel
theorem dJ0_isLatin1_aae02_6 : decode cJ0_isLatin1_aae02 6 = .ok (.aload_n 0, 1) := by decide +kernel
theorem dJ0_isLatin1_aae02_7 : decode cJ0_isLatin1_aae02 7 = .ok (.getfield 15, 3) := by decide +kernel
theorem dJ0_isLatin1_aae02_10 : decode cJ0_isLatin1_aae02 10 = .ok (.ifCond .ne 7, 3) := by decide +kernel
theorem dJ0_isLatin1_aae02_13 : decode cJ0_isLatin1_aae02 13 = .ok (.iconst 1, 1) := by decide +kernel
theorem dJ0_isLatin1_aae02_14 : decode cJ0_isLatin1_aae02 14 = .ok (.goto 4, 3) := by decide +kernel
theorem dJ0_isLatin1_aae02_17 : decode cJ0_isLatin1_aae02 17 = .ok (.iconst 0, 1) := by decide +kernel
theorem dJ0_isLatin1_aae02_18 : decode cJ0_isLatin1_aae02 18 = .ok (.ireturn, 1) := by decide +kernel
theorem Y_J0_checkIndex_df160 : q_Y yJ0_checkIndex_df160 cJ0_checkIndex_df160 2 none 2 := ⟨q_inT6 (i := 27) (by decide +kernel) rfl, ini_J0, by decide, by decide, by decide +kernel, by decide⟩
theorem dJ0_checkIndex_df160_0 : decode cJ0_checkIndex_df160 0 = .ok (.iload_n 0, 1) := by decide +kernel
theorem dJ0_checkIndex_df160_1 : decode cJ0_checkIndex_df160 1 = .ok (.iload_n 1, 1) := by decide +kernel
theorem dJ0_checkIndex_df160_2 : decode cJ0_checkIndex_df160 2 = .ok (.getstatic 1053, 3) := by decide +kernel
theorem dJ0_checkIndex_df160_5 : decode cJ0_checkIndex_df160 5 = .ok (.invokestatic 1059, 3) := by decide +kernel
theorem dJ0_checkIndex_df160_8 : decode cJ0_checkIndex_df160 8 = .ok (.pop, 1) := by decide +kernel
theorem dJ0_checkIndex_df160_9 : decode cJ0_checkIndex_df160 9 = .ok (.return_, 1) := by decide +kernel
theorem Y_J1_charAt_3b067 : q_Y yJ1_charAt_3b067 cJ1_charAt_3b067 2 (some .char) 2 := ⟨q_inT6 (i := 24) (by decide +kernel) rfl, ini_J1, by decide, by decide, by decide +kernel, by decide⟩
theorem dJ1_charAt_3b067_0 : decode cJ1_charAt_3b067 0 = .ok (.iload_n 1, 1) := by decide +kernel
theorem dJ1_charAt_3b067_1 : decode cJ1_charAt_3b067 1 = .ok (.aload_n 0, 1) := by decide +kernel
theorem dJ1_charAt_3b067_2 : decode cJ1_charAt_3b067 2 = .ok (.arraylength, 1) := by decide +kernel
theorem dJ1_charAt_3b067_3 : decode cJ1_charAt_3b067 3 = .ok (.invokestatic 9, 3) := by decide +kernel
theorem dJ1_charAt_3b067_6 : decode cJ1_charAt_3b067 6 = .ok (.aload_n 0, 1) := by decide +kernel
theorem dJ1_charAt_3b067_7 : decode cJ1_charAt_3b067 7 = .ok (.iload_n 1, 1) := by decide +kernel
theorem dJ1_charAt_3b067_8 : decode cJ1_charAt_3b067 8 = .ok (.baload, 1) := by decide +kernel
theorem dJ1_charAt_3b067_9 : decode cJ1_charAt_3b067 9 = .ok (.sipush 255, 3) := by decide +kernel
theorem dJ1_charAt_3b067_12 : decode cJ1_charAt_3b067 12 = .ok (.iand, 1) := by decide +kernel
theorem dJ1_charAt_3b067_13 : decode cJ1_charAt_3b067 13 = .ok (.i2c, 1) := by decide +kernel
theorem dJ1_charAt_3b067_14 : decode cJ1_charAt_3b067 14 = .ok (.ireturn, 1) := by decide +kernel
theorem Y_J3_checkIndex_8e157 : q_Y yJ3_checkIndex_8e157 cJ3_checkIndex_8e157 3 (some .int) 3 := ⟨q_inT6 (i := 32) (by decide +kernel) rfl, ini_J3, by decide, by decide, by decide +kernel, by decide⟩
theorem dJ3_checkIndex_8e157_0 : decode cJ3_checkIndex_8e157 0 = .ok (.iload_n 0, 1) := by decide +kernel
theorem dJ3_checkIndex_8e157_1 : decode cJ3_checkIndex_8e157 1 = .ok (.ifCond .lt 8, 3) := by decide +kernel
theorem dJ3_checkIndex_8e157_4 : decode cJ3_checkIndex_8e157 4 = .ok (.iload_n 0, 1) := by decide +kernel
theorem dJ3_checkIndex_8e157_5 : decode cJ3_checkIndex_8e157 5 = .ok (.iload_n 1, 1) := by decide +kernel
theorem dJ3_checkIndex_8e157_6 : decode cJ3_checkIndex_8e157 6 = .ok (.if_icmp .lt 10, 3) := by decide +kernel
theorem dJ3_checkIndex_8e157_9 : decode cJ3_checkIndex_8e157 9 = .ok (.aload_n 2, 1) := by decide +kernel
theorem dJ3_checkIndex_8e157_10 : decode cJ3_checkIndex_8e157 10 = .ok (.iload_n 0, 1) := by decide +kernel
theorem dJ3_checkIndex_8e157_11 : decode cJ3_checkIndex_8e157 11 = .ok (.iload_n 1, 1) := by decide +kernel
theorem dJ3_checkIndex_8e157_12 : decode cJ3_checkIndex_8e157 12 = .ok (.invokestatic 95, 3) := by decide +kernel
theorem dJ3_checkIndex_8e157_15 : decode cJ3_checkIndex_8e157 15 = .ok (.athrow, 1) := by decide +kernel
theorem dJ3_checkIndex_8e157_16 : decode cJ3_checkIndex_8e157 16 = .ok (.iload_n 0, 1) := by decide +kernel
theorem dJ3_checkIndex_8e157_17 : decode cJ3_checkIndex_8e157 17 = .ok (.ireturn, 1) := by decide +kernel
section QS
variable {G : q_G} {l : Launch} {own nm : String} {cc : ByteArray} {nL k0 z0 fr lo : Nat} {ret : Option FieldType} {tab : List ExceptionTableEntry} {α : Type} {Z : q_M → q_H × α → State → Prop} {pc : Nat} {lv lv' : List (Nat × Value)} {st : List Value} {h : q_H} {f : Option (q_H × α)}
/-- a step that reads cells but has one answer -/
theorem j_sr {pc' : Nat} {st' : List Value} (hs : ∀ M : q_M, M.2.1 = l → q_C G M (own, cc, nL, fr, lo, ret, nm, tab) → ∀ (H : Heap) (locs : List Loc) (cells slots : Nat) (ls : Array Slot) (Q : State → Prop), q_R G h H → q_W M H locs cells slots Q pc' ls (st'.map (q_v G)) → q_W M H locs cells slots Q pc ls (st.map (q_v G)))
    (k : q_J G l (own, cc, nL, fr, lo, ret, nm, tab) k0 z0 Z pc' lv st' h f) : q_J G l (own, cc, nL, fr, lo, ret, nm, tab) k0 z0 Z pc lv st h f := fun q hq =>
  ⟨(k q hq).1, fun M hM C a1 a2 a3 a4 H locs ls b1 b2 b3 => hs M hM C H locs _ _ ls _ b1 ((k q hq).2 M hM C a1 a2 a3 a4 H locs ls b1 b2 b3)⟩
theorem q_ldcs {p : Program} {l : Launch} {e : Env} {R : Room} {s : State} {m : MethodId} {args : Array Value} {below : List Frame} {meth : Method} {c : Code} {T : State} {locs : List Loc} {cells slots : Nat} (X : Stand p l e R s m args below meth c T locs cells slots) (hexec : p.tables.exec = Jvm.exec) {own text : String} {index : Nat} {a : Addr} (hown : s.vm.findClass own = some m.cls)
    (hconst : (Cond.stringRef own index text).before #[] s = true) (hev : (Term.string own index).eval #[] s none [] s = some (.ref a)) {g : JFrame} (hg : g.method = m) (hdg : decode c.code g.pc = .ok (.ldc_w index, 3)) :
    ∀ target, Steps p.tables e below (T.setTop { g with pc := g.pc + 3, stack := .ref a :: g.stack }) target → Steps p.tables e below (T.setTop g) target := by
  obtain ⟨k, cf, i, a', hk, hcf, hcp, -, hr, hev'⟩ := Cond.stringRef_spec hown hconst
  cases hev.symm.trans hev'
  obtain ⟨k', hk', he⟩ := X.warmed.alike.2.2 _ _ hk
  have hr' : k'.resolved[index]? = some (some (.string a)) := by
    rcases X.warmed.entry hk hk' index with h | ⟨h, -⟩
    · rw [h]; exact hr
    · rw [hr] at h; cases h
  intro target hrest
  subst hg
  jvm_step X.here [hexec, hdg, ldc_w.wp_string (e := e) (s := T) (f := g) X.here.top hk' (by rw [he]; exact hcf) hcp hr']
  exact hrest
theorem j_ldcs {k : Nat} {u : UInt32} {x : Nat × String × List Int32} (hu : u.toNat = k) (hx : q_sx[k]? = some x) (ho : own = RX10) (d : decode cc pc = .ok (.ldc_w x.1, 3)) (kk : q_J G l (own, cc, nL, fr, lo, ret, nm, tab) k0 z0 Z (pc + 3) lv (.float u :: st) h f) : q_J G l (own, cc, nL, fr, lo, ret, nm, tab) k0 z0 Z pc lv st h f :=
  j_st (pc' := pc + 3) (st' := .float u :: st) (fun M hM C H locs cells slots ls Q hl w => by
    subst ho
    have hV := C.2.2.2.2.2.1.2.2.2.1 k x hx
    intro T hT X
    obtain ⟨t, a, b⟩ := w T hT X
    refine ⟨t, q_ldcs X C.1 C.2.2.2.1 hV.1 hV.2 (g := F0 M.2.2.2.2.2.1 pc ls (st.map (q_v G))) rfl (by rw [C.2.1]; exact d) t ?_, b⟩
    rw [← hu]
    exact a) kk
theorem j_gst {C' n dd : String} {v : Value} {idx : Nat} (hZ : ∀ U, q_K G U → va_Z C' n dd (q_v G v) (q_fr G) U G.2.2.2.2.2.2.1) (lk : Cond.fieldLink own idx C' n dd ∈ q_tb) (d : decode cc pc = .ok (.getstatic idx, 3)) (kk : q_J G l (own, cc, nL, fr, lo, ret, nm, tab) k0 z0 Z (pc + 3) lv (v :: st) h f) : q_J G l (own, cc, nL, fr, lo, ret, nm, tab) k0 z0 Z pc lv st h f :=
  j_sr (pc' := pc + 3) (st' := v :: st) (fun M hM C H locs cells slots ls Q hR w => by
    obtain ⟨cf, kf, fi, f, a, cell, h1, h2, h3, h4, h5, h6, h7, h8⟩ := (hZ _ C.2.2.2.2.2.1).kept hR.kp
    exact W.gets C.1 C.2.1 C.2.2.2.1 (C.2.2.2.2.1 _ lk) h1 h2 h3 h4 h5 (fun e => by rw [e] at h6; cases h6) h7 rfl d w) kk
theorem j_gof {n dd o' : String} {v : Value} {idx : Nat} {u : UInt32} (hZ : ∀ U, q_K G U → va_OF o' n dd (q_v G v) (G.2.2.2.1 u.toNat) (q_fr G) U G.2.2.2.2.2.2.1) (lk : Cond.fieldLink own idx o' n dd ∈ q_tb) (d : decode cc pc = .ok (.getfield idx, 3)) (kk : q_J G l (own, cc, nL, fr, lo, ret, nm, tab) k0 z0 Z (pc + 3) lv (v :: st) h f) : q_J G l (own, cc, nL, fr, lo, ret, nm, tab) k0 z0 Z pc lv (.float u :: st) h f :=
  j_sr (pc' := pc + 3) (st' := v :: st) (fun M hM C H locs cells slots ls Q hR w => by
    obtain ⟨cf, k, fi, f, cell, h1, h2, h3, h4, h5, h6⟩ := (hZ _ C.2.2.2.2.2.1).kept hR.kp
    exact W.getf C.1 C.2.1 C.2.2.2.1 (C.2.2.2.2.1 _ lk) h1 h2 h3 h4 (v := q_v G v) h5 rfl rfl d w) kk
theorem j_tlen {ty : FieldType} {N : Nat} {fv : Nat → Value} {u : UInt32} (hZ : ∀ U, q_K G U → va_T ty (G.2.2.2.1 u.toNat) N fv (q_fr G) U G.2.2.2.2.2.2.1) (d : decode cc pc = .ok (.arraylength, 1)) (kk : q_J G l (own, cc, nL, fr, lo, ret, nm, tab) k0 z0 Z (pc + 1) lv (.int (Int32.ofNat N) :: st) h f) : q_J G l (own, cc, nL, fr, lo, ret, nm, tab) k0 z0 Z pc lv (.float u :: st) h f :=
  j_sr (pc' := pc + 1) (st' := .int (Int32.ofNat N) :: st) (fun M hM C H locs cells slots ls Q hR w => by
    obtain ⟨cell, h1, h2, h3, h4, h5, h6, h7⟩ := (hZ _ C.2.2.2.2.2.1).kept hR.kp
    exact W.alen C.1 C.2.1 h1 h2 h5 rfl rfl d w) kk
theorem j_tb {N : Nat} {fv : Nat → Value} {u : UInt32} {i x : Int32} (hZ : ∀ U, q_K G U → va_T .byte (G.2.2.2.1 u.toNat) N fv (q_fr G) U G.2.2.2.2.2.2.1) (hin : vp_in i N) (hv : fv i.toNatClampNeg = .int x) (d : decode cc pc = .ok (.baload, 1)) (kk : q_J G l (own, cc, nL, fr, lo, ret, nm, tab) k0 z0 Z (pc + 1) lv (.int x :: st) h f) : q_J G l (own, cc, nL, fr, lo, ret, nm, tab) k0 z0 Z pc lv (.int i :: .float u :: st) h f :=
  j_sr (pc' := pc + 1) (st' := .int x :: st) (fun M hM C H locs cells slots ls Q hR w => by
    obtain ⟨cell, h1, h2, h3, h4, h5, h6, h7⟩ := (hZ _ C.2.2.2.2.2.1).kept hR.kp
    have hlt : i.toNatClampNeg < N := Nat.not_le.mp fun q => hin (Or.inr q)
    have hin' : ¬ (i < 0 ∨ cell.slots.size ≤ i.toNatClampNeg) := by
      intro q
      rcases q with q | q
      · exact hin (Or.inl q)
      · omega
    exact W.bald (v := .int x) C.1 C.2.1 h1 h2 h3 hin' (by rw [h6 _ hlt, hv]) rfl rfl d w) kk
theorem j_nret {v v' : Int32} {ty : FieldType} (hr : ret = some ty) (hn : narrow ty (.int v) = .int v') (d : decode cc pc = .ok (.ireturn, 1)) : q_J G l (own, cc, nL, fr, lo, ret, nm, tab) k0 z0 (q_Z G k0 z0 q_i) pc lv [.int v] h (some (h, v')) := fun q hq => by
  cases hq
  exact ⟨q_le.rf, fun M hM C a1 a2 a3 a4 H locs ls b1 b2 b3 => q_zret C.1 C.2.1 (C.2.2.2.2.2.2.2.2.2.1.trans hr) hn (fun t ht hW => ⟨rfl, by rw [ht]; exact b1⟩) b2 d C.2.2.2.2.2.2.1⟩
/-- invokevirtual on a String constant -/
theorem j_cVs {op : Option (q_H × Int32)} {g : q_H × Int32 → Option (q_H × α)} {y : MethodName} {bytes : ByteArray} {mL fr' lo' n idx : Nat} {ret' : Option FieldType} {As rest : List Value} {u : UInt32} (Y : q_Y y bytes mL ret' n) (hu : u.toNat < 5) (hyc : y.cls = "java/lang/String") (hl : Cond.methodLink own idx y ∈ q_tb) (hi : Cond.instanceMethod y ∈ q_tb) (hse : Cond.selects y.cls y y ∈ q_tb) (hR : fr' + 1 ≤ fr ∧ 8 + (mL + 11) + lo' ≤ lo) (d : decode cc pc = .ok (.invokevirtual idx, 3)) (hn : As.length = n) (hst : st = As.reverse ++ .float u :: rest) (hrm : ((rest.map (q_v G)).map fun v => v.category).sum ≤ 8)
    (hc : ∀ x, op = some x → q_CT G l y bytes mL ret' fr' lo' (.float u :: As) h x.1 (q_i x.2))
    (k : ∀ x, op = some x → q_J G l (own, cc, nL, fr, lo, ret, nm, tab) k0 z0 Z (pc + 3) lv (.int x.2 :: rest) x.1 (g x)) : q_J G l (own, cc, nL, fr, lo, ret, nm, tab) k0 z0 Z pc lv st h (Option.bind op g) :=
  j_call (en := q_i) (rest := rest) hc (fun x hx M hM C H locs cells slots ls hRp hlv hce hsl => by
    obtain ⟨hle, hMt⟩ := hc x hx
    rw [← hM] at hMt
    have hO := ((C.2.2.2.2.2.1.2.2.2.2.1).1 u.toNat hu).1.kept hRp.kp
    obtain ⟨cell, o1, o2, o3, -⟩ := hO
    refine va_runV (C := y.cls) (As := As.map (q_v G)) (rest := rest.map (q_v G)) (b := G.2.2.2.1 u.toNat) ⟨C.1, C.2.1, C.2.2.1, C.2.2.2.1, C.2.2.2.2.1⟩ hMt
      ⟨callB_of n C.2.2.2.2.1 (q_goodTB Y.1) rfl rfl rfl (C.2.2.2.2.1 _ Y.2.1) (C.2.2.2.2.1 _ hl) ⟨Y.2.2.1, Y.2.2.2.1, Y.2.2.2.2.1⟩ ⟨by rw [C.2.2.2.2.2.2.2.1]; exact hR.1, by rw [C.2.2.2.2.2.2.2.2.1]; exact hR.2⟩, C.2.2.2.2.1 _ hi, C.2.2.2.2.1 _ hse⟩
      ⟨q_blind _ _ _, by rw [hyc]; exact ⟨cell, o1, o2, o3⟩, fun U hU hW => ⟨rfl, by rw [hU]; exact hRp, q_K.warm hW C.2.2.2.2.2.1⟩⟩ rfl (by rw [List.length_map]; exact hn) hlv.1 (by rw [hst]; show _ = _; rw [List.map_append, List.map_reverse]; rfl) (lv_room hrm) d ⟨hce, hsl⟩) k
end QS
theorem q_Zc {G : q_G} (U : State) (hK : q_K G U) : va_Z "java/lang/String" "COMPACT_STRINGS" "Z" (q_v G (.int 1)) (q_fr G) U G.2.2.2.2.2.2.1 := hK.2.2.2.2.2.1
theorem q_Oc {G : q_G} {u : UInt32} (hu : u.toNat < 5) (U : State) (hK : q_K G U) : va_OF "java/lang/String" "coder" "B" (q_v G (.int 0)) (G.2.2.2.1 u.toNat) (q_fr G) U G.2.2.2.2.2.2.1 := (hK.2.2.2.2.1.1 u.toNat hu).2.1
theorem q_u100 {u : UInt32} (hu : u.toNat < 5) : (100 + u).toNat = 100 + u.toNat := by
  have : (100 + u).toNat = (100 + u.toNat) % 2 ^ 32 := by rw [UInt32.toNat_add]; rfl
  rw [this, Nat.mod_eq_of_lt (by omega)]
theorem q_Ov {G : q_G} {u : UInt32} (hu : u.toNat < 5) (U : State) (hK : q_K G U) : va_OF "java/lang/String" "value" "[B" (q_v G (.float (100 + u))) (G.2.2.2.1 u.toNat) (q_fr G) U G.2.2.2.2.2.2.1 := by
  have := (hK.2.2.2.2.1.1 u.toNat hu).2.2.1
  show va_OF "java/lang/String" "value" "[B" (.ref (G.2.2.2.1 (100 + u).toNat)) _ _ _ _
  rw [q_u100 hu]
  exact this
theorem q_Tv {G : q_G} {u : UInt32} (hu : u.toNat < 5) (U : State) (hK : q_K G U) : va_T .byte (G.2.2.2.1 (100 + u).toNat) (q_sl.getD u.toNat 0) (fun j => .int ((q_sb.getD u.toNat []).getD j 0)) (q_fr G) U G.2.2.2.2.2.2.1 := by
  rw [q_u100 hu]
  exact (hK.2.2.2.2.1.1 u.toNat hu).2.2.2

theorem jq_coder {G : q_G} {l : Launch} {k0 z0 fr lo : Nat} {h : q_H} {u : UInt32} (hu : u.toNat < 5) : q_J G l (RJ0, cJ0_coder_7d493, 1, fr, lo, (some .byte), "coder", []) k0 z0 (q_Z G k0 z0 q_i) 0 [(0, .float u)] [] h (some (h, 0)) := by
  refine j_gst (pc := 0) (v := .int 1) q_Zc fl_J0_38 dJ0_coder_7d493_0 ?_
  rw [show (some (h, (0 : Int32)) : Option (q_H × Int32)) = if (1 : Int32) = 0 then none else some (h, 0) from (if_neg (by decide)).symm]
  refine j_if_eq (pc := 3) (tgt := 13) dJ0_coder_7d493_3 (by decide) (fun e => absurd e (by decide)) (fun _ => ?_)
  refine j_sload_n (pc := 6) (p := 0) rfl rfl dJ0_coder_7d493_6 ?_
  refine j_gof (pc := 7) (v := .int 0) (q_Oc hu) fl_J0_15 dJ0_coder_7d493_7 ?_
  refine j_goto (pc := 10) (tgt := 14) dJ0_coder_7d493_10 (by decide) ?_
  exact j_nret (pc := 14) rfl rfl dJ0_coder_7d493_14
theorem cq_coder {G : q_G} {l : Launch} {h : q_H} {u : UInt32} (hu : u.toNat < 5) : ∀ q, (some (h, (0 : Int32)) : Option (q_H × Int32)) = some q → q_CT G l yJ0_coder_7d493 cJ0_coder_7d493 1 (some .byte) 0 0 [.float u] h q.1 (q_i q.2) :=
  q_ofJ Y_J0_coder_7d493 (Nat.le_of_ble_eq_true rfl) (jq_coder hu)
/-- length() -/
def q_slen (u : UInt32) : Option Int32 := if u.toNat < 5 then some (nI (q_sl.getD u.toNat 0)) else none
theorem q_shr0 : ∀ i, i < 5 → nI (q_sl.getD i 0) >>> ((0 : Int32) &&& 31) = nI (q_sl.getD i 0) := by decide +kernel
theorem jq_length {G : q_G} {l : Launch} {k0 z0 fr lo : Nat} (hfr : 1 ≤ fr ∧ 20 ≤ lo) {h : q_H} {u : UInt32} (hu : u.toNat < 5) : q_J G l (RJ0, cJ0_length_8abf5, 1, fr, lo, (some .int), "length", []) k0 z0 (q_Z G k0 z0 q_i) 0 [(0, .float u)] [] h (some (h, nI (q_sl.getD u.toNat 0))) := by
  refine j_sload_n (pc := 0) (p := 0) rfl rfl dJ0_length_8abf5_0 ?_
  refine j_gof (pc := 1) (v := .float (100 + u)) (q_Ov hu) fl_J0_9 dJ0_length_8abf5_1 ?_
  refine j_tlen (pc := 4) (q_Tv hu) dJ0_length_8abf5_4 ?_
  refine j_sload_n (pc := 5) (p := 0) rfl rfl dJ0_length_8abf5_5 ?_
  rw [show (some (h, nI (q_sl.getD u.toNat 0)) : Option (q_H × Int32)) = Option.bind (some (h, (0 : Int32))) (fun q => some (q.1, nI (q_sl.getD u.toNat 0) >>> (q.2 &&& 31))) from by rw [Option.bind_some, q_shr0 _ hu]]
  refine j_cVs (pc := 6) Y_J0_coder_7d493 hu rfl ml_J0_335 im_J0_coder_7d493 se_J0_coder_7d493 ⟨hfr.1, hfr.2⟩ dJ0_length_8abf5_6 (As := []) (rest := [.int (Int32.ofNat (q_sl.getD u.toNat 0))]) rfl rfl (Nat.le_of_ble_eq_true rfl) (cq_coder hu) (fun q hq => ?_)
  refine j_ishr (pc := 9) dJ0_length_8abf5_9 ?_
  exact j_iret (pc := 10) rfl dJ0_length_8abf5_10
theorem cq_length {G : q_G} {l : Launch} {h : q_H} {u : UInt32} (hu : u.toNat < 5) : ∀ q, (some (h, nI (q_sl.getD u.toNat 0)) : Option (q_H × Int32)) = some q → q_CT G l yJ0_length_8abf5 cJ0_length_8abf5 1 (some .int) 1 20 [.float u] h q.1 (q_i q.2) :=
  q_ofJ Y_J0_length_8abf5 (Nat.le_of_ble_eq_true rfl) (jq_length ⟨Nat.le_refl _, Nat.le_refl _⟩ hu)
theorem jq_isLatin1 {G : q_G} {l : Launch} {k0 z0 fr lo : Nat} {h : q_H} {u : UInt32} (hu : u.toNat < 5) : q_J G l (RJ0, cJ0_isLatin1_aae02, 1, fr, lo, (some .boolean), "isLatin1", []) k0 z0 (q_Z G k0 z0 q_i) 0 [(0, .float u)] [] h (some (h, 1)) := by
  refine j_gst (pc := 0) (v := .int 1) q_Zc fl_J0_38 dJ0_isLatin1_aae02_0 ?_
  rw [show (some (h, (1 : Int32)) : Option (q_H × Int32)) = if (1 : Int32) = 0 then none else some (h, 1) from (if_neg (by decide)).symm]
  refine j_if_eq (pc := 3) (tgt := 17) dJ0_isLatin1_aae02_3 (by decide) (fun e => absurd e (by decide)) (fun _ => ?_)
  refine j_sload_n (pc := 6) (p := 0) rfl rfl dJ0_isLatin1_aae02_6 ?_
  refine j_gof (pc := 7) (v := .int 0) (q_Oc hu) fl_J0_15 dJ0_isLatin1_aae02_7 ?_
  rw [show (some (h, (1 : Int32)) : Option (q_H × Int32)) = if (0 : Int32) = 0 then some (h, 1) else none from (if_pos rfl).symm]
  refine j_if_ne (pc := 10) (tgt := 17) dJ0_isLatin1_aae02_10 (by decide) (fun _ => ?_) (fun e => absurd rfl e)
  refine j_iconst (pc := 13) ki_1 dJ0_isLatin1_aae02_13 ?_
  refine j_goto (pc := 14) (tgt := 18) dJ0_isLatin1_aae02_14 (by decide) ?_
  exact j_nret (pc := 18) rfl rfl dJ0_isLatin1_aae02_18
theorem cq_isLatin1 {G : q_G} {l : Launch} {h : q_H} {u : UInt32} (hu : u.toNat < 5) : ∀ q, (some (h, (1 : Int32)) : Option (q_H × Int32)) = some q → q_CT G l yJ0_isLatin1_aae02 cJ0_isLatin1_aae02 1 (some .boolean) 0 0 [.float u] h q.1 (q_i q.2) :=
  q_ofJ Y_J0_isLatin1_aae02 (Nat.le_of_ble_eq_true rfl) (jq_isLatin1 hu)
theorem jq_pre {G : q_G} {l : Launch} {k0 z0 fr lo : Nat} {h : q_H} {i n : Int32} {v9 : Value} (h1 : ¬ i < 0) (h2 : i < n) : q_J G l (RJ3, cJ3_checkIndex_8e157, 3, fr, lo, (some .int), "checkIndex", []) k0 z0 (q_Z G k0 z0 q_i) 0 [(0, .int i), (1, .int n), (2, v9)] [] h (some (h, i)) := by
  refine j_iload_n (pc := 0) (p := 0) rfl rfl dJ3_checkIndex_8e157_0 ?_
  rw [show (some (h, i) : Option (q_H × Int32)) = if i < 0 then none else (if i < n then some (h, i) else none) from by rw [if_neg h1, if_pos h2]]
  refine j_if_lt (pc := 1) (tgt := 9) dJ3_checkIndex_8e157_1 (by decide) (fun e => absurd e h1) (fun _ => ?_)
  refine j_iload_n (pc := 4) (p := 0) rfl rfl dJ3_checkIndex_8e157_4 ?_
  refine j_iload_n (pc := 5) (p := 1) rfl rfl dJ3_checkIndex_8e157_5 ?_
  refine j_ic_lt (pc := 6) (tgt := 16) dJ3_checkIndex_8e157_6 (by decide) (fun _ => ?_) (fun e => absurd h2 e)
  refine j_iload_n (pc := 16) (p := 0) rfl rfl dJ3_checkIndex_8e157_16 ?_
  exact j_iret (pc := 17) rfl dJ3_checkIndex_8e157_17
theorem cq_pre {G : q_G} {l : Launch} {h : q_H} {i n : Int32} {v9 : Value} (hv : v9 = .null ∨ v9 = .float 200) (h1 : ¬ i < 0) (h2 : i < n) : ∀ q, (some (h, i) : Option (q_H × Int32)) = some q → q_CT G l yJ3_checkIndex_8e157 cJ3_checkIndex_8e157 3 (some .int) 0 0 [.int i, .int n, v9] h q.1 (q_i q.2) := by
  rcases hv with rfl | rfl
  · exact q_ofJ Y_J3_checkIndex_8e157 (Nat.le_of_ble_eq_true rfl) (jq_pre h1 h2)
  · exact q_ofJ Y_J3_checkIndex_8e157 (Nat.le_of_ble_eq_true rfl) (jq_pre h1 h2)

