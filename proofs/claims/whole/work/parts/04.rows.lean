/-! ROWS: an instruction, a row -/
theorem q_cat (G : q_G) (v : Value) : (q_v G v).category = v.category := by cases v <;> rfl
theorem q_at {G : q_G} {lv : List (Nat × Value)} {p i : Nat} {v : Value} (h : lv[p]? = some (i, v)) : (lv.map (q_lv G))[p]? = some (i, q_v G v) := by
  rw [List.getElem?_map, h]; rfl
def q_f1 (i : Nat) (q : Nat × Value) : Bool := !(q.1 == i) && !(q.1 + 1 == i && q.2.category == 2)
def q_f2 (i : Nat) (q : Nat × Value) : Bool := !(q.1 == i) && (!(q.1 == i + 1) && !(q.1 + 1 == i && q.2.category == 2))
theorem q_flt1 (G : q_G) (i : Nat) (v : Value) {lv lv' : List (Nat × Value)} (h : (i, v) :: lv.filter (q_f1 i) = lv') : (i, q_v G v) :: (lv.map (q_lv G)).filter (fun q => !(q.1 == i) && !(q.1 + 1 == i && q.2.category == 2)) = lv'.map (q_lv G) := by
  subst h
  rw [List.map_cons, List.filter_map]
  refine congrArg (List.cons (i, q_v G v)) (congrArg (List.map (q_lv G)) (List.filter_congr fun x _ => ?_))
  simp only [Function.comp, q_lv, q_f1, q_cat]
theorem q_flt2 (G : q_G) (i : Nat) (v : Value) {lv lv' : List (Nat × Value)} (h : (i, v) :: lv.filter (q_f2 i) = lv') : (i, q_v G v) :: (lv.map (q_lv G)).filter (fun q => !(q.1 == i) && (!(q.1 == i + 1) && !(q.1 + 1 == i && q.2.category == 2))) = lv'.map (q_lv G) := by
  subst h
  rw [List.map_cons, List.filter_map]
  refine congrArg (List.cons (i, q_v G v)) (congrArg (List.map (q_lv G)) (List.filter_congr fun x _ => ?_))
  simp only [Function.comp, q_lv, q_f2, q_cat]
def q_iushr (x y : Int32) : Int32 := (x.toUInt32 >>> (y.toUInt32 &&& Int32.toUInt32 31)).toInt32
def q_lushr (x : Int64) (y : Int32) : Int64 := (x.toUInt64 >>> (y.toInt64.toUInt64 &&& Int64.toUInt64 63)).toInt64
def q_lshl (x : Int64) (y : Int32) : Int64 := x <<< (y.toInt64 &&& 63)
def q_i2c (x : Int32) : Int32 := (x.toUInt32 % 65536).toInt32
section QR
variable {G : q_G} {l : Launch} {own nm : String} {cc : ByteArray} {nL k0 z0 fr lo : Nat} {ret : Option FieldType} {tab : List ExceptionTableEntry} {α : Type} {Z : q_M → q_H × α → State → Prop} {pc : Nat} {lv lv' : List (Nat × Value)} {st : List Value} {h : q_H} {f : Option (q_H × α)}

theorem j_iconst  {n : Int} {v : Int32} (hv : Int32.ofInt n = v) (d : decode cc pc = .ok (.iconst n, 1)) (k : q_J G l (own, cc, nL, fr, lo, ret, nm, tab) k0 z0 Z (pc + 1) lv (.int v :: st) h f) : q_J G l (own, cc, nL, fr, lo, ret, nm, tab) k0 z0 Z pc lv (st) h f :=
  j_st (pc' := pc + 1) (st' := .int v :: st) (fun M hM C H locs cells slots ls Q hl w => lv_iconst C.1 C.2.1 d hv w) k
theorem j_bipush  {n : Int} {v : Int32} (hv : (Int8.ofInt n).toInt32 = v) (d : decode cc pc = .ok (.bipush n, 2)) (k : q_J G l (own, cc, nL, fr, lo, ret, nm, tab) k0 z0 Z (pc + 2) lv (.int v :: st) h f) : q_J G l (own, cc, nL, fr, lo, ret, nm, tab) k0 z0 Z pc lv (st) h f :=
  j_st (pc' := pc + 2) (st' := .int v :: st) (fun M hM C H locs cells slots ls Q hl w => lv_bipush C.1 C.2.1 d hv w) k
theorem j_sipush  {n : Int} {v : Int32} (hv : (Int16.ofInt n).toInt32 = v) (d : decode cc pc = .ok (.sipush n, 3)) (k : q_J G l (own, cc, nL, fr, lo, ret, nm, tab) k0 z0 Z (pc + 3) lv (.int v :: st) h f) : q_J G l (own, cc, nL, fr, lo, ret, nm, tab) k0 z0 Z pc lv (st) h f :=
  j_st (pc' := pc + 3) (st' := .int v :: st) (fun M hM C H locs cells slots ls Q hl w => lv_sipush C.1 C.2.1 d hv w) k
theorem j_lconst  {n : Fin 2} {v : Int64} (hv : Int64.ofNat (n : Nat) = v) (d : decode cc pc = .ok (.lconst n, 1)) (k : q_J G l (own, cc, nL, fr, lo, ret, nm, tab) k0 z0 Z (pc + 1) lv (.long v :: st) h f) : q_J G l (own, cc, nL, fr, lo, ret, nm, tab) k0 z0 Z pc lv (st) h f :=
  j_st (pc' := pc + 1) (st' := .long v :: st) (fun M hM C H locs cells slots ls Q hl w => lv_lconst C.1 C.2.1 d hv w) k
theorem j_ldc  {index : Nat} {v : Int32} (hc : Cond.constant own index v ∈ q_tb) (d : decode cc pc = .ok (.ldc index, 2)) (k : q_J G l (own, cc, nL, fr, lo, ret, nm, tab) k0 z0 Z (pc + 2) lv (.int v :: st) h f) : q_J G l (own, cc, nL, fr, lo, ret, nm, tab) k0 z0 Z pc lv (st) h f :=
  j_st (pc' := pc + 2) (st' := .int v :: st) (fun M hM C H locs cells slots ls Q hl w => lv_ldc C.1 C.2.1 C.2.2.2.1 (C.2.2.2.2.1 _ hc) d w) k
theorem j_ldcw  {index : Nat} {v : Int32} (hc : Cond.constant own index v ∈ q_tb) (d : decode cc pc = .ok (.ldc_w index, 3)) (k : q_J G l (own, cc, nL, fr, lo, ret, nm, tab) k0 z0 Z (pc + 3) lv (.int v :: st) h f) : q_J G l (own, cc, nL, fr, lo, ret, nm, tab) k0 z0 Z pc lv (st) h f :=
  j_st (pc' := pc + 3) (st' := .int v :: st) (fun M hM C H locs cells slots ls Q hl w => lv_ldcw C.1 C.2.1 C.2.2.2.1 (C.2.2.2.2.1 _ hc) d w) k
theorem j_ldc2  {index : Nat} {v : Int64} (hc : Cond.constantLong own index v ∈ q_tb) (d : decode cc pc = .ok (.ldc2_w index, 3)) (k : q_J G l (own, cc, nL, fr, lo, ret, nm, tab) k0 z0 Z (pc + 3) lv (.long v :: st) h f) : q_J G l (own, cc, nL, fr, lo, ret, nm, tab) k0 z0 Z pc lv (st) h f :=
  j_st (pc' := pc + 3) (st' := .long v :: st) (fun M hM C H locs cells slots ls Q hl w => lv_ldc2 C.1 C.2.1 C.2.2.2.1 (C.2.2.2.2.1 _ hc) d w) k
theorem j_iload_n  {kk : Fin 4} {i p : Nat} {x : Int32} (hi : (kk : Nat) = i) (hp : lv[p]? = some (i, .int x)) (d : decode cc pc = .ok (.iload_n kk, 1)) (k : q_J G l (own, cc, nL, fr, lo, ret, nm, tab) k0 z0 Z (pc + 1) lv (.int x :: st) h f) : q_J G l (own, cc, nL, fr, lo, ret, nm, tab) k0 z0 Z pc lv (st) h f :=
  j_st (pc' := pc + 1) (st' := .int x :: st) (fun M hM C H locs cells slots ls Q hl w => lv_iload_n C.1 C.2.1 d hi (lv_at hl p (q_at hp)) w) k
theorem j_iload  {i p : Nat} {x : Int32} (hp : lv[p]? = some (i, .int x)) (d : decode cc pc = .ok (.iload i, 2)) (k : q_J G l (own, cc, nL, fr, lo, ret, nm, tab) k0 z0 Z (pc + 2) lv (.int x :: st) h f) : q_J G l (own, cc, nL, fr, lo, ret, nm, tab) k0 z0 Z pc lv (st) h f :=
  j_st (pc' := pc + 2) (st' := .int x :: st) (fun M hM C H locs cells slots ls Q hl w => lv_iload C.1 C.2.1 d (lv_at hl p (q_at hp)) w) k
theorem j_lload_n  {kk : Fin 4} {i p : Nat} {x : Int64} (hi : (kk : Nat) = i) (hp : lv[p]? = some (i, .long x)) (d : decode cc pc = .ok (.lload_n kk, 1)) (k : q_J G l (own, cc, nL, fr, lo, ret, nm, tab) k0 z0 Z (pc + 1) lv (.long x :: st) h f) : q_J G l (own, cc, nL, fr, lo, ret, nm, tab) k0 z0 Z pc lv (st) h f :=
  j_st (pc' := pc + 1) (st' := .long x :: st) (fun M hM C H locs cells slots ls Q hl w => lv_lload_n C.1 C.2.1 d hi (lv_at hl p (q_at hp)) w) k
theorem j_lload  {i p : Nat} {x : Int64} (hp : lv[p]? = some (i, .long x)) (d : decode cc pc = .ok (.lload i, 2)) (k : q_J G l (own, cc, nL, fr, lo, ret, nm, tab) k0 z0 Z (pc + 2) lv (.long x :: st) h f) : q_J G l (own, cc, nL, fr, lo, ret, nm, tab) k0 z0 Z pc lv (st) h f :=
  j_st (pc' := pc + 2) (st' := .long x :: st) (fun M hM C H locs cells slots ls Q hl w => lv_lload C.1 C.2.1 d (lv_at hl p (q_at hp)) w) k
theorem j_aload_n  {kk : Fin 4} {i p : Nat} {x : Nat} (hi : (kk : Nat) = i) (hp : lv[p]? = some (i, .ref x)) (d : decode cc pc = .ok (.aload_n kk, 1)) (k : q_J G l (own, cc, nL, fr, lo, ret, nm, tab) k0 z0 Z (pc + 1) lv (.ref x :: st) h f) : q_J G l (own, cc, nL, fr, lo, ret, nm, tab) k0 z0 Z pc lv (st) h f :=
  j_st (pc' := pc + 1) (st' := .ref x :: st) (fun M hM C H locs cells slots ls Q hl w => lv_aload_n C.1 C.2.1 d hi (lv_at hl p (q_at hp)) w) k
theorem j_aload  {i p : Nat} {x : Nat} (hp : lv[p]? = some (i, .ref x)) (d : decode cc pc = .ok (.aload i, 2)) (k : q_J G l (own, cc, nL, fr, lo, ret, nm, tab) k0 z0 Z (pc + 2) lv (.ref x :: st) h f) : q_J G l (own, cc, nL, fr, lo, ret, nm, tab) k0 z0 Z pc lv (st) h f :=
  j_st (pc' := pc + 2) (st' := .ref x :: st) (fun M hM C H locs cells slots ls Q hl w => lv_aload C.1 C.2.1 d (lv_at hl p (q_at hp)) w) k
theorem j_sload_n  {kk : Fin 4} {i p : Nat} {x : UInt32} (hi : (kk : Nat) = i) (hp : lv[p]? = some (i, .float x)) (d : decode cc pc = .ok (.aload_n kk, 1)) (k : q_J G l (own, cc, nL, fr, lo, ret, nm, tab) k0 z0 Z (pc + 1) lv (.float x :: st) h f) : q_J G l (own, cc, nL, fr, lo, ret, nm, tab) k0 z0 Z pc lv (st) h f :=
  j_st (pc' := pc + 1) (st' := .float x :: st) (fun M hM C H locs cells slots ls Q hl w => lv_aload_n C.1 C.2.1 d hi (lv_at hl p (q_at hp)) w) k
theorem j_sload  {i p : Nat} {x : UInt32} (hp : lv[p]? = some (i, .float x)) (d : decode cc pc = .ok (.aload i, 2)) (k : q_J G l (own, cc, nL, fr, lo, ret, nm, tab) k0 z0 Z (pc + 2) lv (.float x :: st) h f) : q_J G l (own, cc, nL, fr, lo, ret, nm, tab) k0 z0 Z pc lv (st) h f :=
  j_st (pc' := pc + 2) (st' := .float x :: st) (fun M hM C H locs cells slots ls Q hl w => lv_aload C.1 C.2.1 d (lv_at hl p (q_at hp)) w) k
theorem j_istore_n  {kk : Fin 4} {i : Nat} {x : Int32} (hi : (kk : Nat) = i) (hn : i < nL) (hf : (i, Value.int x) :: lv.filter (q_f1 i) = lv') (d : decode cc pc = .ok (.istore_n kk, 1)) (k : q_J G l (own, cc, nL, fr, lo, ret, nm, tab) k0 z0 Z (pc + 1) lv' (st) h f) : q_J G l (own, cc, nL, fr, lo, ret, nm, tab) k0 z0 Z pc lv (Value.int x :: st) h f :=
  j_lo (pc' := pc + 1) (st' := st) (lv' := lv') (fun M hM C H locs cells slots ls Q hl w => lv_istore_n C.1 C.2.1 d hi hl hn (q_flt1 G i (Value.int x) hf) w) k
theorem j_istore  {i : Nat} {x : Int32} (hn : i < nL) (hf : (i, Value.int x) :: lv.filter (q_f1 i) = lv') (d : decode cc pc = .ok (.istore i, 2)) (k : q_J G l (own, cc, nL, fr, lo, ret, nm, tab) k0 z0 Z (pc + 2) lv' (st) h f) : q_J G l (own, cc, nL, fr, lo, ret, nm, tab) k0 z0 Z pc lv (Value.int x :: st) h f :=
  j_lo (pc' := pc + 2) (st' := st) (lv' := lv') (fun M hM C H locs cells slots ls Q hl w => lv_istore C.1 C.2.1 d hl hn (q_flt1 G i (Value.int x) hf) w) k
theorem j_lstore_n  {kk : Fin 4} {i : Nat} {x : Int64} (hi : (kk : Nat) = i) (hn : i + 1 < nL) (hf : (i, Value.long x) :: lv.filter (q_f2 i) = lv') (d : decode cc pc = .ok (.lstore_n kk, 1)) (k : q_J G l (own, cc, nL, fr, lo, ret, nm, tab) k0 z0 Z (pc + 1) lv' (st) h f) : q_J G l (own, cc, nL, fr, lo, ret, nm, tab) k0 z0 Z pc lv (Value.long x :: st) h f :=
  j_lo (pc' := pc + 1) (st' := st) (lv' := lv') (fun M hM C H locs cells slots ls Q hl w => lv_lstore_n C.1 C.2.1 d hi hl hn (q_flt2 G i (Value.long x) hf) w) k
theorem j_lstore  {i : Nat} {x : Int64} (hn : i + 1 < nL) (hf : (i, Value.long x) :: lv.filter (q_f2 i) = lv') (d : decode cc pc = .ok (.lstore i, 2)) (k : q_J G l (own, cc, nL, fr, lo, ret, nm, tab) k0 z0 Z (pc + 2) lv' (st) h f) : q_J G l (own, cc, nL, fr, lo, ret, nm, tab) k0 z0 Z pc lv (Value.long x :: st) h f :=
  j_lo (pc' := pc + 2) (st' := st) (lv' := lv') (fun M hM C H locs cells slots ls Q hl w => lv_lstore C.1 C.2.1 d hl hn (q_flt2 G i (Value.long x) hf) w) k
theorem j_astore_n  {kk : Fin 4} {i : Nat} {x : Nat} (hi : (kk : Nat) = i) (hn : i < nL) (hf : (i, Value.ref x) :: lv.filter (q_f1 i) = lv') (d : decode cc pc = .ok (.astore_n kk, 1)) (k : q_J G l (own, cc, nL, fr, lo, ret, nm, tab) k0 z0 Z (pc + 1) lv' (st) h f) : q_J G l (own, cc, nL, fr, lo, ret, nm, tab) k0 z0 Z pc lv (Value.ref x :: st) h f :=
  j_lo (pc' := pc + 1) (st' := st) (lv' := lv') (fun M hM C H locs cells slots ls Q hl w => lv_astore_n C.1 C.2.1 d hi hl hn (q_flt1 G i (Value.ref x) hf) w) k
theorem j_astore  {i : Nat} {x : Nat} (hn : i < nL) (hf : (i, Value.ref x) :: lv.filter (q_f1 i) = lv') (d : decode cc pc = .ok (.astore i, 2)) (k : q_J G l (own, cc, nL, fr, lo, ret, nm, tab) k0 z0 Z (pc + 2) lv' (st) h f) : q_J G l (own, cc, nL, fr, lo, ret, nm, tab) k0 z0 Z pc lv (Value.ref x :: st) h f :=
  j_lo (pc' := pc + 2) (st' := st) (lv' := lv') (fun M hM C H locs cells slots ls Q hl w => lv_astore C.1 C.2.1 d hl hn (q_flt1 G i (Value.ref x) hf) w) k
theorem j_iinc  {i p : Nat} {n : Int} {x v : Int32} (hp : lv[p]? = some (i, .int x)) (hv : x + Int32.ofInt n = v) (hn : i < nL) (hf : (i, Value.int v) :: lv.filter (q_f1 i) = lv') (d : decode cc pc = .ok (.iinc i n, 3)) (k : q_J G l (own, cc, nL, fr, lo, ret, nm, tab) k0 z0 Z (pc + 3) lv' (st) h f) : q_J G l (own, cc, nL, fr, lo, ret, nm, tab) k0 z0 Z pc lv (st) h f :=
  j_lo (pc' := pc + 3) (st' := st) (lv' := lv') (fun M hM C H locs cells slots ls Q hl w => lv_iinc C.1 C.2.1 d hl (q_at hp) hv hn (q_flt1 G i (.int v) hf) w) k
theorem j_iadd  {x y : Int32} (d : decode cc pc = .ok (.iadd, 1)) (k : q_J G l (own, cc, nL, fr, lo, ret, nm, tab) k0 z0 Z (pc + 1) lv (.int (x + y) :: st) h f) : q_J G l (own, cc, nL, fr, lo, ret, nm, tab) k0 z0 Z pc lv (.int y :: .int x :: st) h f :=
  j_st (pc' := pc + 1) (st' := .int (x + y) :: st) (fun M hM C H locs cells slots ls Q hl w => lv_iadd C.1 C.2.1 d w) k
theorem j_isub  {x y : Int32} (d : decode cc pc = .ok (.isub, 1)) (k : q_J G l (own, cc, nL, fr, lo, ret, nm, tab) k0 z0 Z (pc + 1) lv (.int (x - y) :: st) h f) : q_J G l (own, cc, nL, fr, lo, ret, nm, tab) k0 z0 Z pc lv (.int y :: .int x :: st) h f :=
  j_st (pc' := pc + 1) (st' := .int (x - y) :: st) (fun M hM C H locs cells slots ls Q hl w => lv_isub C.1 C.2.1 d w) k
theorem j_imul  {x y : Int32} (d : decode cc pc = .ok (.imul, 1)) (k : q_J G l (own, cc, nL, fr, lo, ret, nm, tab) k0 z0 Z (pc + 1) lv (.int (x * y) :: st) h f) : q_J G l (own, cc, nL, fr, lo, ret, nm, tab) k0 z0 Z pc lv (.int y :: .int x :: st) h f :=
  j_st (pc' := pc + 1) (st' := .int (x * y) :: st) (fun M hM C H locs cells slots ls Q hl w => lv_imul C.1 C.2.1 d w) k
theorem j_iand  {x y : Int32} (d : decode cc pc = .ok (.iand, 1)) (k : q_J G l (own, cc, nL, fr, lo, ret, nm, tab) k0 z0 Z (pc + 1) lv (.int (x &&& y) :: st) h f) : q_J G l (own, cc, nL, fr, lo, ret, nm, tab) k0 z0 Z pc lv (.int y :: .int x :: st) h f :=
  j_st (pc' := pc + 1) (st' := .int (x &&& y) :: st) (fun M hM C H locs cells slots ls Q hl w => lv_iand C.1 C.2.1 d w) k
theorem j_ior  {x y : Int32} (d : decode cc pc = .ok (.ior, 1)) (k : q_J G l (own, cc, nL, fr, lo, ret, nm, tab) k0 z0 Z (pc + 1) lv (.int (x ||| y) :: st) h f) : q_J G l (own, cc, nL, fr, lo, ret, nm, tab) k0 z0 Z pc lv (.int y :: .int x :: st) h f :=
  j_st (pc' := pc + 1) (st' := .int (x ||| y) :: st) (fun M hM C H locs cells slots ls Q hl w => lv_ior C.1 C.2.1 d w) k
theorem j_ixor  {x y : Int32} (d : decode cc pc = .ok (.ixor, 1)) (k : q_J G l (own, cc, nL, fr, lo, ret, nm, tab) k0 z0 Z (pc + 1) lv (.int (x ^^^ y) :: st) h f) : q_J G l (own, cc, nL, fr, lo, ret, nm, tab) k0 z0 Z pc lv (.int y :: .int x :: st) h f :=
  j_st (pc' := pc + 1) (st' := .int (x ^^^ y) :: st) (fun M hM C H locs cells slots ls Q hl w => lv_ixor C.1 C.2.1 d w) k
theorem j_ishl  {x y : Int32} (d : decode cc pc = .ok (.ishl, 1)) (k : q_J G l (own, cc, nL, fr, lo, ret, nm, tab) k0 z0 Z (pc + 1) lv (.int (x <<< (y &&& 31)) :: st) h f) : q_J G l (own, cc, nL, fr, lo, ret, nm, tab) k0 z0 Z pc lv (.int y :: .int x :: st) h f :=
  j_st (pc' := pc + 1) (st' := .int (x <<< (y &&& 31)) :: st) (fun M hM C H locs cells slots ls Q hl w => lv_ishl C.1 C.2.1 d w) k
theorem j_ishr  {x y : Int32} (d : decode cc pc = .ok (.ishr, 1)) (k : q_J G l (own, cc, nL, fr, lo, ret, nm, tab) k0 z0 Z (pc + 1) lv (.int (x >>> (y &&& 31)) :: st) h f) : q_J G l (own, cc, nL, fr, lo, ret, nm, tab) k0 z0 Z pc lv (.int y :: .int x :: st) h f :=
  j_st (pc' := pc + 1) (st' := .int (x >>> (y &&& 31)) :: st) (fun M hM C H locs cells slots ls Q hl w => lv_ishr C.1 C.2.1 d w) k
theorem j_ladd  {x y : Int64} (d : decode cc pc = .ok (.ladd, 1)) (k : q_J G l (own, cc, nL, fr, lo, ret, nm, tab) k0 z0 Z (pc + 1) lv (.long (x + y) :: st) h f) : q_J G l (own, cc, nL, fr, lo, ret, nm, tab) k0 z0 Z pc lv (.long y :: .long x :: st) h f :=
  j_st (pc' := pc + 1) (st' := .long (x + y) :: st) (fun M hM C H locs cells slots ls Q hl w => lv_ladd C.1 C.2.1 d w) k
theorem j_lsub  {x y : Int64} (d : decode cc pc = .ok (.lsub, 1)) (k : q_J G l (own, cc, nL, fr, lo, ret, nm, tab) k0 z0 Z (pc + 1) lv (.long (x - y) :: st) h f) : q_J G l (own, cc, nL, fr, lo, ret, nm, tab) k0 z0 Z pc lv (.long y :: .long x :: st) h f :=
  j_st (pc' := pc + 1) (st' := .long (x - y) :: st) (fun M hM C H locs cells slots ls Q hl w => lv_lsub C.1 C.2.1 d w) k
theorem j_lmul  {x y : Int64} (d : decode cc pc = .ok (.lmul, 1)) (k : q_J G l (own, cc, nL, fr, lo, ret, nm, tab) k0 z0 Z (pc + 1) lv (.long (x * y) :: st) h f) : q_J G l (own, cc, nL, fr, lo, ret, nm, tab) k0 z0 Z pc lv (.long y :: .long x :: st) h f :=
  j_st (pc' := pc + 1) (st' := .long (x * y) :: st) (fun M hM C H locs cells slots ls Q hl w => lv_lmul C.1 C.2.1 d w) k
theorem j_land  {x y : Int64} (d : decode cc pc = .ok (.land, 1)) (k : q_J G l (own, cc, nL, fr, lo, ret, nm, tab) k0 z0 Z (pc + 1) lv (.long (x &&& y) :: st) h f) : q_J G l (own, cc, nL, fr, lo, ret, nm, tab) k0 z0 Z pc lv (.long y :: .long x :: st) h f :=
  j_st (pc' := pc + 1) (st' := .long (x &&& y) :: st) (fun M hM C H locs cells slots ls Q hl w => lv_land C.1 C.2.1 d w) k
theorem j_lor  {x y : Int64} (d : decode cc pc = .ok (.lor, 1)) (k : q_J G l (own, cc, nL, fr, lo, ret, nm, tab) k0 z0 Z (pc + 1) lv (.long (x ||| y) :: st) h f) : q_J G l (own, cc, nL, fr, lo, ret, nm, tab) k0 z0 Z pc lv (.long y :: .long x :: st) h f :=
  j_st (pc' := pc + 1) (st' := .long (x ||| y) :: st) (fun M hM C H locs cells slots ls Q hl w => lv_lor C.1 C.2.1 d w) k
theorem j_lxor  {x y : Int64} (d : decode cc pc = .ok (.lxor, 1)) (k : q_J G l (own, cc, nL, fr, lo, ret, nm, tab) k0 z0 Z (pc + 1) lv (.long (x ^^^ y) :: st) h f) : q_J G l (own, cc, nL, fr, lo, ret, nm, tab) k0 z0 Z pc lv (.long y :: .long x :: st) h f :=
  j_st (pc' := pc + 1) (st' := .long (x ^^^ y) :: st) (fun M hM C H locs cells slots ls Q hl w => lv_lxor C.1 C.2.1 d w) k
theorem j_ineg  {x : Int32} (d : decode cc pc = .ok (.ineg, 1)) (k : q_J G l (own, cc, nL, fr, lo, ret, nm, tab) k0 z0 Z (pc + 1) lv (.int (-x) :: st) h f) : q_J G l (own, cc, nL, fr, lo, ret, nm, tab) k0 z0 Z pc lv (.int x :: st) h f :=
  j_st (pc' := pc + 1) (st' := .int (-x) :: st) (fun M hM C H locs cells slots ls Q hl w => lv_ineg C.1 C.2.1 d w) k
theorem j_iushr  {x y : Int32} (d : decode cc pc = .ok (.iushr, 1)) (k : q_J G l (own, cc, nL, fr, lo, ret, nm, tab) k0 z0 Z (pc + 1) lv (.int (q_iushr x y) :: st) h f) : q_J G l (own, cc, nL, fr, lo, ret, nm, tab) k0 z0 Z pc lv (.int y :: .int x :: st) h f :=
  j_st (pc' := pc + 1) (st' := .int (q_iushr x y) :: st) (fun M hM C H locs cells slots ls Q hl w => lv_iushr C.1 C.2.1 d rfl w) k
theorem j_lushr  {x : Int64} {y : Int32} (d : decode cc pc = .ok (.lushr, 1)) (k : q_J G l (own, cc, nL, fr, lo, ret, nm, tab) k0 z0 Z (pc + 1) lv (.long (q_lushr x y) :: st) h f) : q_J G l (own, cc, nL, fr, lo, ret, nm, tab) k0 z0 Z pc lv (.int y :: .long x :: st) h f :=
  j_st (pc' := pc + 1) (st' := .long (q_lushr x y) :: st) (fun M hM C H locs cells slots ls Q hl w => lv_lushr C.1 C.2.1 d rfl w) k
theorem j_lshl  {x : Int64} {y : Int32} (d : decode cc pc = .ok (.lshl, 1)) (k : q_J G l (own, cc, nL, fr, lo, ret, nm, tab) k0 z0 Z (pc + 1) lv (.long (q_lshl x y) :: st) h f) : q_J G l (own, cc, nL, fr, lo, ret, nm, tab) k0 z0 Z pc lv (.int y :: .long x :: st) h f :=
  j_st (pc' := pc + 1) (st' := .long (q_lshl x y) :: st) (fun M hM C H locs cells slots ls Q hl w => lv_lshl C.1 C.2.1 d rfl w) k
theorem j_i2l  {x : Int32} (d : decode cc pc = .ok (.i2l, 1)) (k : q_J G l (own, cc, nL, fr, lo, ret, nm, tab) k0 z0 Z (pc + 1) lv (.long x.toInt64 :: st) h f) : q_J G l (own, cc, nL, fr, lo, ret, nm, tab) k0 z0 Z pc lv (.int x :: st) h f :=
  j_st (pc' := pc + 1) (st' := .long x.toInt64 :: st) (fun M hM C H locs cells slots ls Q hl w => lv_i2l C.1 C.2.1 d rfl w) k
theorem j_l2i  {x : Int64} (d : decode cc pc = .ok (.l2i, 1)) (k : q_J G l (own, cc, nL, fr, lo, ret, nm, tab) k0 z0 Z (pc + 1) lv (.int x.toInt32 :: st) h f) : q_J G l (own, cc, nL, fr, lo, ret, nm, tab) k0 z0 Z pc lv (.long x :: st) h f :=
  j_st (pc' := pc + 1) (st' := .int x.toInt32 :: st) (fun M hM C H locs cells slots ls Q hl w => lv_l2i C.1 C.2.1 d rfl w) k
theorem j_i2c  {x : Int32} (d : decode cc pc = .ok (.i2c, 1)) (k : q_J G l (own, cc, nL, fr, lo, ret, nm, tab) k0 z0 Z (pc + 1) lv (.int (q_i2c x) :: st) h f) : q_J G l (own, cc, nL, fr, lo, ret, nm, tab) k0 z0 Z pc lv (.int x :: st) h f :=
  j_st (pc' := pc + 1) (st' := .int (q_i2c x) :: st) (fun M hM C H locs cells slots ls Q hl w => lv_i2c C.1 C.2.1 d rfl w) k
theorem j_lcmp  {x y : Int64} (d : decode cc pc = .ok (.lcmp, 1)) (k : q_J G l (own, cc, nL, fr, lo, ret, nm, tab) k0 z0 Z (pc + 1) lv (.int (lg_cmp x y) :: st) h f) : q_J G l (own, cc, nL, fr, lo, ret, nm, tab) k0 z0 Z pc lv (.long y :: .long x :: st) h f :=
  j_st (pc' := pc + 1) (st' := .int (lg_cmp x y) :: st) (fun M hM C H locs cells slots ls Q hl w => W.lcmp C.1 C.2.1 d w) k
theorem j_dup  {v : Value} (hv : v.category = 1) (d : decode cc pc = .ok (.dup, 1)) (k : q_J G l (own, cc, nL, fr, lo, ret, nm, tab) k0 z0 Z (pc + 1) lv (v :: v :: st) h f) : q_J G l (own, cc, nL, fr, lo, ret, nm, tab) k0 z0 Z pc lv (v :: st) h f :=
  j_st (pc' := pc + 1) (st' := v :: v :: st) (fun M hM C H locs cells slots ls Q hl w => lv_dup C.1 C.2.1 d ((q_cat G v).trans hv) w) k
theorem j_pop  {v : Value} (hv : v.category = 1) (d : decode cc pc = .ok (.pop, 1)) (k : q_J G l (own, cc, nL, fr, lo, ret, nm, tab) k0 z0 Z (pc + 1) lv (st) h f) : q_J G l (own, cc, nL, fr, lo, ret, nm, tab) k0 z0 Z pc lv (v :: st) h f :=
  j_st (pc' := pc + 1) (st' := st) (fun M hM C H locs cells slots ls Q hl w => lv_pop C.1 C.2.1 d ((q_cat G v).trans hv) w) k
theorem j_dup2  {v u : Value} (hv : v.category = 1) (hu : u.category = 1) (d : decode cc pc = .ok (.dup2, 1)) (k : q_J G l (own, cc, nL, fr, lo, ret, nm, tab) k0 z0 Z (pc + 1) lv (v :: u :: v :: u :: st) h f) : q_J G l (own, cc, nL, fr, lo, ret, nm, tab) k0 z0 Z pc lv (v :: u :: st) h f :=
  j_st (pc' := pc + 1) (st' := v :: u :: v :: u :: st) (fun M hM C H locs cells slots ls Q hl w => lv_dup2_11 C.1 C.2.1 d ((q_cat G v).trans hv) ((q_cat G u).trans hu) w) k
theorem j_if_ne  {x : Int32} {off : Int} {tgt : Nat} [Decidable (x = 0)] {g : Option (q_H × α)} (d : decode cc pc = .ok (.ifCond .ne off, 3)) (ht : (pc : Int) + off = (tgt : Int)) (kt : x = 0 → q_J G l (own, cc, nL, fr, lo, ret, nm, tab) k0 z0 Z (pc + 3) lv st h f) (kf : ¬ (x = 0) → q_J G l (own, cc, nL, fr, lo, ret, nm, tab) k0 z0 Z tgt lv st h g) : q_J G l (own, cc, nL, fr, lo, ret, nm, tab) k0 z0 Z pc lv (.int x :: st) h (if x = 0 then f else g) :=
  j_br (pt := pc + 3) (pn := tgt) (st' := st) (fun M hM C H locs cells slots ls Q a b => lv_if_ne C.1 C.2.1 d ht b a) kt kf
theorem j_ic_ne  {x y : Int32} {off : Int} {tgt : Nat} [Decidable (x = y)] {g : Option (q_H × α)} (d : decode cc pc = .ok (.if_icmp .ne off, 3)) (ht : (pc : Int) + off = (tgt : Int)) (kt : x = y → q_J G l (own, cc, nL, fr, lo, ret, nm, tab) k0 z0 Z (pc + 3) lv st h f) (kf : ¬ (x = y) → q_J G l (own, cc, nL, fr, lo, ret, nm, tab) k0 z0 Z tgt lv st h g) : q_J G l (own, cc, nL, fr, lo, ret, nm, tab) k0 z0 Z pc lv (.int y :: .int x :: st) h (if x = y then f else g) :=
  j_br (pt := pc + 3) (pn := tgt) (st' := st) (fun M hM C H locs cells slots ls Q a b => lv_icmp_ne C.1 C.2.1 d ht b a) kt kf
theorem j_goto  {off : Int} {tgt : Nat} (d : decode cc pc = .ok (.goto off, 3)) (ht : (pc : Int) + off = (tgt : Int)) (k : q_J G l (own, cc, nL, fr, lo, ret, nm, tab) k0 z0 Z tgt lv st h f) : q_J G l (own, cc, nL, fr, lo, ret, nm, tab) k0 z0 Z pc lv st h f :=
  j_st (pc' := tgt) (st' := st) (fun M hM C H locs cells slots ls Q hl w => lv_goto C.1 C.2.1 d ht w) k
theorem j_if_eq  {x : Int32} {off : Int} {tgt : Nat} [Decidable (x = 0)] {g : Option (q_H × α)} (d : decode cc pc = .ok (.ifCond .eq off, 3)) (ht : (pc : Int) + off = (tgt : Int)) (kt : x = 0 → q_J G l (own, cc, nL, fr, lo, ret, nm, tab) k0 z0 Z tgt lv st h f) (kf : ¬ (x = 0) → q_J G l (own, cc, nL, fr, lo, ret, nm, tab) k0 z0 Z (pc + 3) lv st h g) : q_J G l (own, cc, nL, fr, lo, ret, nm, tab) k0 z0 Z pc lv (.int x :: st) h (if x = 0 then f else g) :=
  j_br (pt := tgt) (pn := pc + 3) (st' := st) (fun M hM C H locs cells slots ls Q a b => lv_if_eq C.1 C.2.1 d ht a b) kt kf
theorem j_if_lt  {x : Int32} {off : Int} {tgt : Nat} [Decidable (x < 0)] {g : Option (q_H × α)} (d : decode cc pc = .ok (.ifCond .lt off, 3)) (ht : (pc : Int) + off = (tgt : Int)) (kt : x < 0 → q_J G l (own, cc, nL, fr, lo, ret, nm, tab) k0 z0 Z tgt lv st h f) (kf : ¬ (x < 0) → q_J G l (own, cc, nL, fr, lo, ret, nm, tab) k0 z0 Z (pc + 3) lv st h g) : q_J G l (own, cc, nL, fr, lo, ret, nm, tab) k0 z0 Z pc lv (.int x :: st) h (if x < 0 then f else g) :=
  j_br (pt := tgt) (pn := pc + 3) (st' := st) (fun M hM C H locs cells slots ls Q a b => lv_if_lt C.1 C.2.1 d ht a b) kt kf
theorem j_if_ge  {x : Int32} {off : Int} {tgt : Nat} [Decidable (0 ≤ x)] {g : Option (q_H × α)} (d : decode cc pc = .ok (.ifCond .ge off, 3)) (ht : (pc : Int) + off = (tgt : Int)) (kt : 0 ≤ x → q_J G l (own, cc, nL, fr, lo, ret, nm, tab) k0 z0 Z tgt lv st h f) (kf : ¬ (0 ≤ x) → q_J G l (own, cc, nL, fr, lo, ret, nm, tab) k0 z0 Z (pc + 3) lv st h g) : q_J G l (own, cc, nL, fr, lo, ret, nm, tab) k0 z0 Z pc lv (.int x :: st) h (if 0 ≤ x then f else g) :=
  j_br (pt := tgt) (pn := pc + 3) (st' := st) (fun M hM C H locs cells slots ls Q a b => lv_if_ge C.1 C.2.1 d ht a b) kt kf
theorem j_if_gt  {x : Int32} {off : Int} {tgt : Nat} [Decidable (0 < x)] {g : Option (q_H × α)} (d : decode cc pc = .ok (.ifCond .gt off, 3)) (ht : (pc : Int) + off = (tgt : Int)) (kt : 0 < x → q_J G l (own, cc, nL, fr, lo, ret, nm, tab) k0 z0 Z tgt lv st h f) (kf : ¬ (0 < x) → q_J G l (own, cc, nL, fr, lo, ret, nm, tab) k0 z0 Z (pc + 3) lv st h g) : q_J G l (own, cc, nL, fr, lo, ret, nm, tab) k0 z0 Z pc lv (.int x :: st) h (if 0 < x then f else g) :=
  j_br (pt := tgt) (pn := pc + 3) (st' := st) (fun M hM C H locs cells slots ls Q a b => lv_if_gt C.1 C.2.1 d ht a b) kt kf
theorem j_if_le  {x : Int32} {off : Int} {tgt : Nat} [Decidable (x ≤ 0)] {g : Option (q_H × α)} (d : decode cc pc = .ok (.ifCond .le off, 3)) (ht : (pc : Int) + off = (tgt : Int)) (kt : x ≤ 0 → q_J G l (own, cc, nL, fr, lo, ret, nm, tab) k0 z0 Z tgt lv st h f) (kf : ¬ (x ≤ 0) → q_J G l (own, cc, nL, fr, lo, ret, nm, tab) k0 z0 Z (pc + 3) lv st h g) : q_J G l (own, cc, nL, fr, lo, ret, nm, tab) k0 z0 Z pc lv (.int x :: st) h (if x ≤ 0 then f else g) :=
  j_br (pt := tgt) (pn := pc + 3) (st' := st) (fun M hM C H locs cells slots ls Q a b => lv_if_le C.1 C.2.1 d ht a b) kt kf
theorem j_ic_eq  {x y : Int32} {off : Int} {tgt : Nat} [Decidable (x = y)] {g : Option (q_H × α)} (d : decode cc pc = .ok (.if_icmp .eq off, 3)) (ht : (pc : Int) + off = (tgt : Int)) (kt : x = y → q_J G l (own, cc, nL, fr, lo, ret, nm, tab) k0 z0 Z tgt lv st h f) (kf : ¬ (x = y) → q_J G l (own, cc, nL, fr, lo, ret, nm, tab) k0 z0 Z (pc + 3) lv st h g) : q_J G l (own, cc, nL, fr, lo, ret, nm, tab) k0 z0 Z pc lv (.int y :: .int x :: st) h (if x = y then f else g) :=
  j_br (pt := tgt) (pn := pc + 3) (st' := st) (fun M hM C H locs cells slots ls Q a b => lv_icmp_eq C.1 C.2.1 d ht a b) kt kf
theorem j_ic_lt  {x y : Int32} {off : Int} {tgt : Nat} [Decidable (x < y)] {g : Option (q_H × α)} (d : decode cc pc = .ok (.if_icmp .lt off, 3)) (ht : (pc : Int) + off = (tgt : Int)) (kt : x < y → q_J G l (own, cc, nL, fr, lo, ret, nm, tab) k0 z0 Z tgt lv st h f) (kf : ¬ (x < y) → q_J G l (own, cc, nL, fr, lo, ret, nm, tab) k0 z0 Z (pc + 3) lv st h g) : q_J G l (own, cc, nL, fr, lo, ret, nm, tab) k0 z0 Z pc lv (.int y :: .int x :: st) h (if x < y then f else g) :=
  j_br (pt := tgt) (pn := pc + 3) (st' := st) (fun M hM C H locs cells slots ls Q a b => lv_icmp_lt C.1 C.2.1 d ht a b) kt kf
theorem j_ic_ge  {x y : Int32} {off : Int} {tgt : Nat} [Decidable (y ≤ x)] {g : Option (q_H × α)} (d : decode cc pc = .ok (.if_icmp .ge off, 3)) (ht : (pc : Int) + off = (tgt : Int)) (kt : y ≤ x → q_J G l (own, cc, nL, fr, lo, ret, nm, tab) k0 z0 Z tgt lv st h f) (kf : ¬ (y ≤ x) → q_J G l (own, cc, nL, fr, lo, ret, nm, tab) k0 z0 Z (pc + 3) lv st h g) : q_J G l (own, cc, nL, fr, lo, ret, nm, tab) k0 z0 Z pc lv (.int y :: .int x :: st) h (if y ≤ x then f else g) :=
  j_br (pt := tgt) (pn := pc + 3) (st' := st) (fun M hM C H locs cells slots ls Q a b => lv_icmp_ge C.1 C.2.1 d ht a b) kt kf
theorem j_ic_gt  {x y : Int32} {off : Int} {tgt : Nat} [Decidable (y < x)] {g : Option (q_H × α)} (d : decode cc pc = .ok (.if_icmp .gt off, 3)) (ht : (pc : Int) + off = (tgt : Int)) (kt : y < x → q_J G l (own, cc, nL, fr, lo, ret, nm, tab) k0 z0 Z tgt lv st h f) (kf : ¬ (y < x) → q_J G l (own, cc, nL, fr, lo, ret, nm, tab) k0 z0 Z (pc + 3) lv st h g) : q_J G l (own, cc, nL, fr, lo, ret, nm, tab) k0 z0 Z pc lv (.int y :: .int x :: st) h (if y < x then f else g) :=
  j_br (pt := tgt) (pn := pc + 3) (st' := st) (fun M hM C H locs cells slots ls Q a b => lv_icmp_gt C.1 C.2.1 d ht a b) kt kf
theorem j_ic_le  {x y : Int32} {off : Int} {tgt : Nat} [Decidable (x ≤ y)] {g : Option (q_H × α)} (d : decode cc pc = .ok (.if_icmp .le off, 3)) (ht : (pc : Int) + off = (tgt : Int)) (kt : x ≤ y → q_J G l (own, cc, nL, fr, lo, ret, nm, tab) k0 z0 Z tgt lv st h f) (kf : ¬ (x ≤ y) → q_J G l (own, cc, nL, fr, lo, ret, nm, tab) k0 z0 Z (pc + 3) lv st h g) : q_J G l (own, cc, nL, fr, lo, ret, nm, tab) k0 z0 Z pc lv (.int y :: .int x :: st) h (if x ≤ y then f else g) :=
  j_br (pt := tgt) (pn := pc + 3) (st' := st) (fun M hM C H locs cells slots ls Q a b => lv_icmp_le C.1 C.2.1 d ht a b) kt kf
theorem j_ite {c : Prop} [Decidable c] {g : Option (q_H × α)} (kt : c → q_J G l (own, cc, nL, fr, lo, ret, nm, tab) k0 z0 Z pc lv st h f) (kf : ¬ c → q_J G l (own, cc, nL, fr, lo, ret, nm, tab) k0 z0 Z pc lv st h g) : q_J G l (own, cc, nL, fr, lo, ret, nm, tab) k0 z0 Z pc lv st h (if c then f else g) := by
  by_cases hc : c
  · rw [if_pos hc]; exact kt hc
  · rw [if_neg hc]; exact kf hc
theorem j_tsO  {dflt a b : Int} {offs : Array Int} {len : Nat} {x : Int32} {tgt : Nat} (d : decode cc pc = .ok (.tableswitch dflt a b offs, len)) (hx : x.toInt < a ∨ b < x.toInt) (ht : (pc : Int) + dflt = (tgt : Int)) (k : q_J G l (own, cc, nL, fr, lo, ret, nm, tab) k0 z0 Z tgt lv st h f) : q_J G l (own, cc, nL, fr, lo, ret, nm, tab) k0 z0 Z pc lv (.int x :: st) h f :=
  j_st (pc' := tgt) (st' := st) (fun M hM C H locs cells slots ls Q hl w => lv_tableOut C.1 C.2.1 d hx ht w) k
theorem j_tsI  {dflt a b : Int} {offs : Array Int} {len : Nat} {x y : Int32} {off : Int} {tgt : Nat} (d : decode cc pc = .ok (.tableswitch dflt a b offs, len)) (hx : x = y) (h1 : ¬ y.toInt < a ∧ ¬ b < y.toInt ∧ offs[(y.toInt - a).toNat]? = some off) (ht : (pc : Int) + off = (tgt : Int)) (k : q_J G l (own, cc, nL, fr, lo, ret, nm, tab) k0 z0 Z tgt lv st h f) : q_J G l (own, cc, nL, fr, lo, ret, nm, tab) k0 z0 Z pc lv (.int x :: st) h f := by
  subst hx
  exact j_st (pc' := tgt) (st' := st) (fun M hM C H locs cells slots ls Q hl w => lv_tableIn C.1 C.2.1 d h1.1 h1.2.1 h1.2.2 ht w) k
theorem j_lsw  {dflt : Int} {ps : Array (Int × Int)} {len : Nat} {x : Int32} {off : Int} {tgt : Nat} (d : decode cc pc = .ok (.lookupswitch dflt ps, len)) (hp : (ps.toList.zip (ps.toList.drop 1)).all (fun (a, next) => a.1 < next.1) = true) (ho : Op.lookupswitch.offset ps.toList dflt x.toInt = off) (ht : (pc : Int) + off = (tgt : Int)) (k : q_J G l (own, cc, nL, fr, lo, ret, nm, tab) k0 z0 Z tgt lv st h f) : q_J G l (own, cc, nL, fr, lo, ret, nm, tab) k0 z0 Z pc lv (.int x :: st) h f :=
  j_st (pc' := tgt) (st' := st) (fun M hM C H locs cells slots ls Q hl w => lv_lookup C.1 C.2.1 d hp ho ht w) k
theorem j_idiv  {x y : Int32} {g : Int32 → Option (q_H × α)} (d : decode cc pc = .ok (.idiv, 1)) (k : ∀ r, q_div x y = some r → q_J G l (own, cc, nL, fr, lo, ret, nm, tab) k0 z0 Z (pc + 1) lv (.int r :: st) h (g r)) : q_J G l (own, cc, nL, fr, lo, ret, nm, tab) k0 z0 Z pc lv (.int y :: .int x :: st) h (Option.bind (q_div x y) g) :=
  j_rd (pc' := pc + 1) (st' := fun r => .int r :: st) (fun r hr M hM C H locs cells slots ls Q _ w => by
    unfold q_div at hr
    by_cases hy : y = 0
    · rw [if_pos hy] at hr; cases hr
    · rw [if_neg hy] at hr; cases hr
      exact lv_idiv C.1 C.2.1 d hy w) k
theorem j_irem  {x y : Int32} {g : Int32 → Option (q_H × α)} (d : decode cc pc = .ok (.irem, 1)) (k : ∀ r, q_rem x y = some r → q_J G l (own, cc, nL, fr, lo, ret, nm, tab) k0 z0 Z (pc + 1) lv (.int r :: st) h (g r)) : q_J G l (own, cc, nL, fr, lo, ret, nm, tab) k0 z0 Z pc lv (.int y :: .int x :: st) h (Option.bind (q_rem x y) g) :=
  j_rd (pc' := pc + 1) (st' := fun r => .int r :: st) (fun r hr M hM C H locs cells slots ls Q _ w => by
    unfold q_rem at hr
    by_cases hy : y = 0
    · rw [if_pos hy] at hr; cases hr
    · rw [if_neg hy] at hr; cases hr
      exact lv_irem C.1 C.2.1 d hy w) k
theorem q_gI_ok {ci k : Nat} {a : Nat} {x : Int32} (e : q_gI ci k h a = some x) : ∃ fs, h.1 a = .inr (ci, fs) ∧ fs[k]? = some (.int x) := by
  unfold q_gI q_fld at e
  split at e
  · rename_i x' e1
    split at e1
    · rename_i c fs e2
      by_cases hc : c = ci
      · subst hc
        rw [if_pos rfl] at e1
        cases e
        exact ⟨fs, e2, e1⟩
      · rw [if_neg hc] at e1; cases e1
    · cases e1
  · cases e
theorem q_gR_ok {ci k : Nat} {a : Nat} {x : Nat} (e : q_gR ci k h a = some x) : ∃ fs, h.1 a = .inr (ci, fs) ∧ fs[k]? = some (.ref x) := by
  unfold q_gR q_fld at e
  split at e
  · rename_i x' e1
    split at e1
    · rename_i c fs e2
      by_cases hc : c = ci
      · subst hc
        rw [if_pos rfl] at e1
        cases e
        exact ⟨fs, e2, e1⟩
      · rw [if_neg hc] at e1; cases e1
    · cases e1
  · cases e
theorem q_nj {ci : Nat} {fs : List Value} (hc : ci < 20) : (Sum.inr (ci, fs) : va_E) ≠ q_junk := by
  intro e
  unfold q_junk at e
  cases e
  omega
theorem q_njl {x : ClassId × vp_A} : (Sum.inl x : va_E) ≠ q_junk := by
  intro e
  unfold q_junk at e
  cases e
theorem q_cl {ci : Nat} {x : vw_C} (hc : vwCl[ci]? = some x) : ci < 20 := by
  have := (List.getElem?_eq_some_iff.mp hc).1
  have h10 : vwCl.length = 10 := rfl
  omega

theorem j_getI  {C' : String} {T : u_T} {N ci k a idx : Nat} {ty : Nat → FieldType} {g : Int32 → Option (q_H × α)} (F : q_FI ci C' T N ty) (hk : k < N) (lk : Cond.fieldLink own idx (T k).1 (T k).2.1 (T k).2.2.1 ∈ q_tb) (d : decode cc pc = .ok (.getfield idx, 3)) (kk : ∀ x, q_gI ci k h a = some x → q_J G l (own, cc, nL, fr, lo, ret, nm, tab) k0 z0 Z (pc + 3) lv (.int x :: st) h (g x)) : q_J G l (own, cc, nL, fr, lo, ret, nm, tab) k0 z0 Z pc lv (.ref a :: st) h (Option.bind (q_gI ci k h a) g) :=
  j_rd (pc' := pc + 3) (st' := fun x => .int x :: st) (fun x hx M hM C H locs cells slots ls Q hR w => by
    obtain ⟨fs, e1, e2⟩ := q_gI_ok hx
    have hv : (fs.map (q_v G))[k]? = some (q_v G (.int x)) := by rw [List.getElem?_map, e2]; rfl
    exact va_get (D := G.2.1) (cl := vwCl) (tys := q_T G) (ws := [(G.1 + a, .inr (ci, fs.map (q_v G)))]) (ci := ci) C.1 C.2.1 C.2.2.2.2.1 F.1 C.2.2.2.1 C.2.2.2.2.2.1.1 (q_one (hR.at e1 (q_nj (q_cl F.2.1)))) 0 rfl F.2.1 k hk (C.2.2.2.2.1 _ lk) (fun _ h9 => h9) hv d w) kk
theorem j_getR  {C' : String} {T : u_T} {N ci k a idx : Nat} {ty : Nat → FieldType} {g : Nat → Option (q_H × α)} (F : q_FI ci C' T N ty) (hk : k < N) (lk : Cond.fieldLink own idx (T k).1 (T k).2.1 (T k).2.2.1 ∈ q_tb) (d : decode cc pc = .ok (.getfield idx, 3)) (kk : ∀ x, q_gR ci k h a = some x → q_J G l (own, cc, nL, fr, lo, ret, nm, tab) k0 z0 Z (pc + 3) lv (.ref x :: st) h (g x)) : q_J G l (own, cc, nL, fr, lo, ret, nm, tab) k0 z0 Z pc lv (.ref a :: st) h (Option.bind (q_gR ci k h a) g) :=
  j_rd (pc' := pc + 3) (st' := fun x => .ref x :: st) (fun x hx M hM C H locs cells slots ls Q hR w => by
    obtain ⟨fs, e1, e2⟩ := q_gR_ok hx
    have hv : (fs.map (q_v G))[k]? = some (q_v G (.ref x)) := by rw [List.getElem?_map, e2]; rfl
    exact va_get (D := G.2.1) (cl := vwCl) (tys := q_T G) (ws := [(G.1 + a, .inr (ci, fs.map (q_v G)))]) (ci := ci) C.1 C.2.1 C.2.2.2.2.1 F.1 C.2.2.2.1 C.2.2.2.2.2.1.1 (q_one (hR.at e1 (q_nj (q_cl F.2.1)))) 0 rfl F.2.1 k hk (C.2.2.2.2.1 _ lk) (fun _ h9 => h9) hv d w) kk
theorem q_p_ok {ci k a : Nat} {v : Value} {x : q_H} (e : q_p ci k h a v = some x) : ∃ fs, h.1 a = .inr (ci, fs) ∧ k < fs.length ∧ x = q_s h a (.inr (ci, fs.set k v)) := by
  unfold q_p at e
  split at e
  · rename_i c fs e2
    by_cases hc : c = ci ∧ k < fs.length
    · rw [if_pos hc] at e
      cases e
      obtain ⟨rfl, hl⟩ := hc
      exact ⟨fs, e2, hl, rfl⟩
    · rw [if_neg hc] at e; cases e
  · cases e
theorem q_map_set (G : q_G) (fs : List Value) (k : Nat) (v : Value) : (fs.set k v).map (q_v G) = (fs.map (q_v G)).set k (q_v G v) := by rw [List.map_set]
theorem j_put  {C' : String} {T : u_T} {N ci k a idx : Nat} {ty : Nat → FieldType} {v : Value} {g : q_H → Option (q_H × α)} (F : q_FI ci C' T N ty) (hk : k < N) (lk : Cond.fieldLink own idx (T k).1 (T k).2.1 (T k).2.2.1 ∈ q_tb) (hfin : (T k).2.2.2 = false) (hn : narrow (ty k) (q_v G v) = q_v G v) (hfit : fits (ty k) (q_v G v) = true) (d : decode cc pc = .ok (.putfield idx, 3)) (kk : ∀ x, q_p ci k h a v = some x → q_J G l (own, cc, nL, fr, lo, ret, nm, tab) k0 z0 Z (pc + 3) lv st x (g x)) : q_J G l (own, cc, nL, fr, lo, ret, nm, tab) k0 z0 Z pc lv (v :: .ref a :: st) h (Option.bind (q_p ci k h a v) g) :=
  j_wr (pc' := pc + 3) (st' := st) (fun x hx => by
    obtain ⟨fs, e1, hl, rfl⟩ := q_p_ok hx
    refine ⟨rfl, fun M hM C H locs cells slots ls Q hR hlo hlv w => ?_⟩
    have hlt : a < h.2.1 := (hR.2.1 a (by rw [e1]; exact q_nj (q_cl F.2.1))).1
    have hts := C.2.2.2.2.1
    have hK := C.2.2.2.2.2.1.1
    have hap := va_apart (own := own) hts F.1 ty F.2.2.1 F.2.2.2 hK F.2.1
    obtain ⟨r, h1, cell, q1, q2, q3, q4⟩ := hR.at e1 (q_nj (q_cl F.2.1))
    have hr : r = (C', T, N) := Option.some.inj (h1.symm.trans F.2.1)
    subst hr
    obtain ⟨hS, hfc, kC, hkC, hkind⟩ := hK.1 ci _ F.2.1
    obtain ⟨cf, kf, fi, f, hi, hsl⟩ := hS k hk
    have hlay := hts _ (F.1 _ (u_in_lay hk))
    unfold u_lay at hlay
    rw [if_neg (by rw [hfin]; decide)] at hlay
    have hst := (u_facts hfc hkC (u_lays hts F.1 hk) hi).1
    have h6 := u_store hfc hkC hkind hlay hi (F.2.2.1 k hk) hn hfit
    refine W.putK C.1 C.2.1 (f := f) ⟨C.2.2.2.1, hts _ lk, ⟨_, _, _, hi⟩, hst⟩ (by rw [q2]; exact h6) q1 q3 (by rw [hsl]; exact k2_hasslot (q4 k hk)) rfl rfl d fun H' e1' e2' e3' => ?_
    rw [hsl] at e1' ⊢
    refine w H' _ (hR.set hlt ?_ e2' e3') (fun y hy => ?_)
    · show va_at G.2.1 vwCl (G.1 + a, .inr (ci, (fs.set k v).map (q_v G))) H'
      rw [q_map_set]
      exact ⟨_, F.2.1, t_OB.to (V := updV (vp_V (fs.map (q_v G))) k (q_v G v)) ⟨_, e1', q2, q3, t_set q4 hap hk (q_v G v)⟩ (fun j _ => vp_updV_set (by rw [List.length_map]; exact hl) (q_v G v) j)⟩
    · rcases List.mem_append.mp hy with h7 | h7
      · exact hlo y h7
      · rw [List.mem_singleton.mp h7]; exact Nat.le_add_right _ _) kk
theorem j_putF  {C' : String} {T : u_T} {N ci k a idx : Nat} {ty : Nat → FieldType} {v : Value} {g : q_H → Option (q_H × α)} (F : q_FI ci C' T N ty) (hk : k < N) (lk : Cond.fieldLink own idx (T k).1 (T k).2.1 (T k).2.2.1 ∈ q_tb) (hfin : (T k).2.2.2 = true) (hin2 : nm = "<init>") (hdecl : (T k).1 = own) (hn : narrow (ty k) (q_v G v) = q_v G v) (hfit : fits (ty k) (q_v G v) = true) (d : decode cc pc = .ok (.putfield idx, 3)) (kk : ∀ x, q_p ci k h a v = some x → q_J G l (own, cc, nL, fr, lo, ret, nm, tab) k0 z0 Z (pc + 3) lv st x (g x)) : q_J G l (own, cc, nL, fr, lo, ret, nm, tab) k0 z0 Z pc lv (v :: .ref a :: st) h (Option.bind (q_p ci k h a v) g) :=
  j_wr (pc' := pc + 3) (st' := st) (fun x hx => by
    obtain ⟨fs, e1, hl, rfl⟩ := q_p_ok hx
    refine ⟨rfl, fun M hM C H locs cells slots ls Q hR hlo hlv w => ?_⟩
    have hlt : a < h.2.1 := (hR.2.1 a (by rw [e1]; exact q_nj (q_cl F.2.1))).1
    have hts := C.2.2.2.2.1
    have hK := C.2.2.2.2.2.1.1
    have hap := va_apart (own := own) hts F.1 ty F.2.2.1 F.2.2.2 hK F.2.1
    obtain ⟨r, h1, cell, q1, q2, q3, q4⟩ := hR.at e1 (q_nj (q_cl F.2.1))
    have hr : r = (C', T, N) := Option.some.inj (h1.symm.trans F.2.1)
    subst hr
    obtain ⟨hS, hfc, kC, hkC, hkind⟩ := hK.1 ci _ F.2.1
    obtain ⟨cf, kf, fi, f, hi, hsl⟩ := hS k hk
    have hlay := hts _ (F.1 _ (u_in_lay hk))
    unfold u_lay at hlay
    rw [if_pos hfin] at hlay
    have hst := (u_facts hfc hkC (u_lays hts F.1 hk) hi).1
    have hcf : M.2.2.2.2.2.1.cls = cf := by
      obtain ⟨_, _, c', _, _, _, -, -, hf', -, -, -, hown2, -⟩ := Cond.laysFinal_spec hlay
      have e1 : c' = cf := by have := hi.symm.trans hf'; simp at this; exact this.1.symm
      rw [hdecl] at hown2
      rw [← e1]; exact Option.some.inj (C.2.2.2.1.symm.trans hown2)
    have h6 := u_fits hfc hkC hkind (Or.inr hlay) hi (F.2.2.1 k hk) hn hfit
    refine W.putFinK C.1 C.2.1 C.2.2.2.1 (hts _ lk) hi hst hcf (C.2.2.2.2.2.2.2.2.2.2.1.trans hin2) (by rw [q2]; exact h6) q1 q3 (by rw [hsl]; exact k2_hasslot (q4 k hk)) rfl rfl d fun H' e1' e2' e3' => ?_
    rw [hsl] at e1' ⊢
    refine w H' _ (hR.set hlt ?_ e2' e3') (fun y hy => ?_)
    · show va_at G.2.1 vwCl (G.1 + a, .inr (ci, (fs.set k v).map (q_v G))) H'
      rw [q_map_set]
      exact ⟨_, F.2.1, t_OB.to (V := updV (vp_V (fs.map (q_v G))) k (q_v G v)) ⟨_, e1', q2, q3, t_set q4 hap hk (q_v G v)⟩ (fun j _ => vp_updV_set (by rw [List.length_map]; exact hl) (q_v G v) j)⟩
    · rcases List.mem_append.mp hy with h7 | h7
      · exact hlo y h7
      · rw [List.mem_singleton.mp h7]; exact Nat.le_add_right _ _) kk
theorem q_lI_ok {t a : Nat} {i x : Int32} (e : q_lI t h a i = some x) : ∃ n f, h.1 a = .inl (t, n, .inl f) ∧ vp_in i n ∧ x = f i.toNatClampNeg := by
  unfold q_lI at e
  split at e
  · rename_i t' n f e2
    by_cases hc : t' = t ∧ q_in i n = true
    · rw [if_pos hc] at e
      cases e
      obtain ⟨rfl, hl⟩ := hc
      exact ⟨n, f, e2, q_in_ok hl, rfl⟩
    · rw [if_neg hc] at e; cases e
  · cases e
theorem q_lL_ok {a : Nat} {i : Int32} {x : Int64} (e : q_lL h a i = some x) : ∃ n f, h.1 a = .inl (1, n, .inr (.inl f)) ∧ vp_in i n ∧ x = f i.toNatClampNeg := by
  unfold q_lL at e
  split at e
  · rename_i t' n f e2
    by_cases hc : t' = 1 ∧ q_in i n = true
    · rw [if_pos hc] at e
      cases e
      obtain ⟨rfl, hl⟩ := hc
      exact ⟨n, f, e2, q_in_ok hl, rfl⟩
    · rw [if_neg hc] at e; cases e
  · cases e
theorem q_lR_ok {t a : Nat} {i : Int32} {x : Nat} (e : q_lR t h a i = some x) : ∃ n f, h.1 a = .inl (t, n, .inr (.inr (.inr (.inr f)))) ∧ vp_in i n ∧ f i.toNatClampNeg = some x := by
  unfold q_lR at e
  split at e
  · rename_i t' n f e2
    by_cases hc : t' = t ∧ q_in i n = true
    · rw [if_pos hc] at e
      obtain ⟨rfl, hl⟩ := hc
      exact ⟨n, f, e2, q_in_ok hl, e⟩
    · rw [if_neg hc] at e; cases e
  · cases e

theorem j_iald  {a : Nat} {i : Int32} {g : Int32 → Option (q_H × α)} (d : decode cc pc = .ok (.iaload, 1)) (kk : ∀ x, q_lI 0 h a i = some x → q_J G l (own, cc, nL, fr, lo, ret, nm, tab) k0 z0 Z (pc + 1) lv (.int x :: st) h (g x)) : q_J G l (own, cc, nL, fr, lo, ret, nm, tab) k0 z0 Z pc lv (.int i :: .ref a :: st) h (Option.bind (q_lI 0 h a i) g) :=
  j_rd (pc' := pc + 1) (st' := fun x => .int x :: st) (fun x hx M hM C H locs cells slots ls Q hR w => by
    obtain ⟨n, f, e1, hin, rfl⟩ := q_lI_ok hx
    exact va_iald (D := G.2.1) (cl := vwCl) (tys := q_T G) (ws := [(G.1 + a, .inl (G.2.2.1 0, n, .inl f))]) C.1 C.2.1 C.2.2.2.2.2.1.1 (q_one (hR.at e1 q_njl)) 0 0 rfl rfl hin d w) kk
theorem j_zald  {a : Nat} {i : Int32} {g : Int32 → Option (q_H × α)} (d : decode cc pc = .ok (.baload, 1)) (kk : ∀ x, q_lI 2 h a i = some x → q_J G l (own, cc, nL, fr, lo, ret, nm, tab) k0 z0 Z (pc + 1) lv (.int x :: st) h (g x)) : q_J G l (own, cc, nL, fr, lo, ret, nm, tab) k0 z0 Z pc lv (.int i :: .ref a :: st) h (Option.bind (q_lI 2 h a i) g) :=
  j_rd (pc' := pc + 1) (st' := fun x => .int x :: st) (fun x hx M hM C H locs cells slots ls Q hR w => by
    obtain ⟨n, f, e1, hin, rfl⟩ := q_lI_ok hx
    exact va_zald (D := G.2.1) (cl := vwCl) (tys := q_T G) (ws := [(G.1 + a, .inl (G.2.2.1 2, n, .inl f))]) C.1 C.2.1 C.2.2.2.2.2.1.1 (q_one (hR.at e1 q_njl)) 0 2 rfl rfl hin d w) kk
theorem j_cald  {a : Nat} {i : Int32} {g : Int32 → Option (q_H × α)} (d : decode cc pc = .ok (.caload, 1)) (kk : ∀ x, q_lI 3 h a i = some x → q_J G l (own, cc, nL, fr, lo, ret, nm, tab) k0 z0 Z (pc + 1) lv (.int x :: st) h (g x)) : q_J G l (own, cc, nL, fr, lo, ret, nm, tab) k0 z0 Z pc lv (.int i :: .ref a :: st) h (Option.bind (q_lI 3 h a i) g) :=
  j_rd (pc' := pc + 1) (st' := fun x => .int x :: st) (fun x hx M hM C H locs cells slots ls Q hR w => by
    obtain ⟨n, f, e1, hin, rfl⟩ := q_lI_ok hx
    exact va_cald (D := G.2.1) (cl := vwCl) (tys := q_T G) (ws := [(G.1 + a, .inl (G.2.2.1 3, n, .inl f))]) C.1 C.2.1 C.2.2.2.2.2.1.1 (q_one (hR.at e1 q_njl)) 0 3 rfl rfl hin d w) kk
theorem j_lald  {a : Nat} {i : Int32} {g : Int64 → Option (q_H × α)} (d : decode cc pc = .ok (.laload, 1)) (kk : ∀ x, q_lL h a i = some x → q_J G l (own, cc, nL, fr, lo, ret, nm, tab) k0 z0 Z (pc + 1) lv (.long x :: st) h (g x)) : q_J G l (own, cc, nL, fr, lo, ret, nm, tab) k0 z0 Z pc lv (.int i :: .ref a :: st) h (Option.bind (q_lL h a i) g) :=
  j_rd (pc' := pc + 1) (st' := fun x => .long x :: st) (fun x hx M hM C H locs cells slots ls Q hR w => by
    obtain ⟨n, f, e1, hin, rfl⟩ := q_lL_ok hx
    exact va_lald (D := G.2.1) (cl := vwCl) (tys := q_T G) (ws := [(G.1 + a, .inl (G.2.2.1 1, n, .inr (.inl f)))]) C.1 C.2.1 C.2.2.2.2.2.1.1 (q_one (hR.at e1 q_njl)) 0 1 rfl rfl hin d w) kk
theorem j_aald  {a t : Nat} {i : Int32} {C' : String} {g : Nat → Option (q_H × α)} (hT : (q_T G)[t]? = some (G.2.2.1 t, .object C')) (d : decode cc pc = .ok (.aaload, 1)) (kk : ∀ x, q_lR t h a i = some x → q_J G l (own, cc, nL, fr, lo, ret, nm, tab) k0 z0 Z (pc + 1) lv (.ref x :: st) h (g x)) : q_J G l (own, cc, nL, fr, lo, ret, nm, tab) k0 z0 Z pc lv (.int i :: .ref a :: st) h (Option.bind (q_lR t h a i) g) :=
  j_rd (pc' := pc + 1) (st' := fun x => .ref x :: st) (fun x hx M hM C H locs cells slots ls Q hR w => by
    obtain ⟨n, f, e1, hin, e2⟩ := q_lR_ok hx
    refine va_aldq (D := G.2.1) (cl := vwCl) (tys := q_T G) (ws := [(G.1 + a, .inl (G.2.2.1 t, n, .inr (.inr (.inr (.inr (fun j => (f j).map (fun x => G.1 + x)))))))]) C.1 C.2.1 C.2.2.2.2.2.1.1 (q_one (hR.at e1 q_njl)) 0 t rfl hT hin d ?_
    show q_W M H locs cells slots Q (pc + 1) ls (va_rf ((f i.toNatClampNeg).map (fun x => G.1 + x)) :: st.map (q_v G))
    rw [e2]
    exact w) kk
theorem q_len_ok {a : Nat} {x : Int32} (e : q_len h a = some x) : ∃ t n c, h.1 a = .inl (t, n, c) ∧ t < 8 ∧ Int32.ofNat n = x := by
  unfold q_len at e
  split at e
  · rename_i t n c e2
    by_cases hc : t < 8
    · rw [if_pos hc] at e
      cases e
      exact ⟨t, n, c, e2, hc, rfl⟩
    · rw [if_neg hc] at e; cases e
  · cases e
theorem q_T_at (G : q_G) {t : Nat} (h : t < 8) : ∃ ty, (q_T G)[t]? = some (G.2.2.1 t, ty) := by
  match t, h with
  | 0, _ => exact ⟨_, rfl⟩
  | 1, _ => exact ⟨_, rfl⟩
  | 2, _ => exact ⟨_, rfl⟩
  | 3, _ => exact ⟨_, rfl⟩
  | 4, _ => exact ⟨_, rfl⟩
  | 5, _ => exact ⟨_, rfl⟩
  | 6, _ => exact ⟨_, rfl⟩
  | 7, _ => exact ⟨_, rfl⟩
  | n + 8, h => omega
theorem q_e_l (G : q_G) (t n : Nat) (c : (Nat → Int32) ⊕ (Nat → Int64) ⊕ (Nat → UInt32) ⊕ (Nat → UInt64) ⊕ (Nat → Option Nat)) : ∃ c', q_e G (.inl (t, n, c)) = .inl (G.2.2.1 t, n, c') := by
  obtain f | f | f | f | f := c <;> exact ⟨_, rfl⟩
theorem j_alen  {a : Nat} {g : Int32 → Option (q_H × α)} (d : decode cc pc = .ok (.arraylength, 1)) (kk : ∀ x, q_len h a = some x → q_J G l (own, cc, nL, fr, lo, ret, nm, tab) k0 z0 Z (pc + 1) lv (.int x :: st) h (g x)) : q_J G l (own, cc, nL, fr, lo, ret, nm, tab) k0 z0 Z pc lv (.ref a :: st) h (Option.bind (q_len h a) g) :=
  j_rd (pc' := pc + 1) (st' := fun x => .int x :: st) (fun x hx M hM C H locs cells slots ls Q hR w => by
    obtain ⟨t, n, c, e1, ht, hn⟩ := q_len_ok hx
    obtain ⟨ty, hty⟩ := q_T_at G ht
    have hA := hR.at e1 q_njl
    obtain ⟨c', hc'⟩ := q_e_l G t n c
    rw [hc'] at hA
    exact va_alen (D := G.2.1) (cl := vwCl) (tys := q_T G) (ws := [(G.1 + a, .inl (G.2.2.1 t, n, c'))]) C.1 C.2.1 C.2.2.2.2.2.1.1 (q_one hA) 0 t rfl hty hn d w) kk

theorem q_sI_ok {t a : Nat} {nar : Int32 → Int32} {i x : Int32} {y : q_H} (e : q_sI t nar h a i x = some y) : ∃ n f, h.1 a = .inl (t, n, .inl f) ∧ vp_in i n ∧ y = q_s h a (.inl (t, n, .inl (upd f i.toNatClampNeg (nar x)))) := by
  unfold q_sI at e
  split at e
  · rename_i t' n f e2
    by_cases hc : t' = t ∧ q_in i n = true
    · rw [if_pos hc] at e
      cases e
      obtain ⟨rfl, hl⟩ := hc
      exact ⟨n, f, e2, q_in_ok hl, rfl⟩
    · rw [if_neg hc] at e; cases e
  · cases e
theorem q_sL_ok {a : Nat} {i : Int32} {x : Int64} {y : q_H} (e : q_sL h a i x = some y) : ∃ n f, h.1 a = .inl (1, n, .inr (.inl f)) ∧ vp_in i n ∧ y = q_s h a (.inl (1, n, .inr (.inl (vp_updL f i.toNatClampNeg x)))) := by
  unfold q_sL at e
  split at e
  · rename_i t' n f e2
    by_cases hc : t' = 1 ∧ q_in i n = true
    · rw [if_pos hc] at e
      cases e
      obtain ⟨rfl, hl⟩ := hc
      exact ⟨n, f, e2, q_in_ok hl, rfl⟩
    · rw [if_neg hc] at e; cases e
  · cases e
theorem q_chk_ok {ci a : Nat} {β : Type} {r : Option β} {y : β} (e : q_chk ci h a r = some y) : (∃ fs, h.1 a = .inr (ci, fs)) ∧ r = some y := by
  unfold q_chk at e
  split at e
  · rename_i c fs e2
    by_cases hc : c = ci
    · subst hc
      rw [if_pos rfl] at e
      exact ⟨⟨fs, e2⟩, e⟩
    · rw [if_neg hc] at e; cases e
  · cases e
theorem q_sR_ok {t ci a v : Nat} {i : Int32} {y : q_H} (e : q_sR t ci h a i v = some y) : ∃ n f fs, h.1 a = .inl (t, n, .inr (.inr (.inr (.inr f)))) ∧ vp_in i n ∧ h.1 v = .inr (ci, fs) ∧ y = q_s h a (.inl (t, n, .inr (.inr (.inr (.inr (va_up f i.toNatClampNeg (some v))))))) := by
  unfold q_sR at e
  split at e
  · rename_i t' n f e2
    by_cases hc : t' = t ∧ q_in i n = true
    · rw [if_pos hc] at e
      obtain ⟨rfl, hl⟩ := hc
      obtain ⟨⟨fs, h1⟩, h2⟩ := q_chk_ok e
      cases h2
      exact ⟨n, f, fs, e2, q_in_ok hl, h1, rfl⟩
    · rw [if_neg hc] at e; cases e
  · cases e
theorem q_wl {locs : List Loc} {a i : Nat} (hlo : ∀ y ∈ locs, G.1 ≤ y.base) : ∀ y ∈ locs ++ [(⟨G.1 + a, i⟩ : Loc)], G.1 ≤ y.base := by
  intro y hy
  rcases List.mem_append.mp hy with h7 | h7
  · exact hlo y h7
  · rw [List.mem_singleton.mp h7]; exact Nat.le_add_right _ _

theorem j_iast  {a : Nat} {i : Int32} {x : Int32} {g : q_H → Option (q_H × α)} (d : decode cc pc = .ok (.iastore, 1)) (kk : ∀ y, q_sI 0 id h a i x = some y → q_J G l (own, cc, nL, fr, lo, ret, nm, tab) k0 z0 Z (pc + 1) lv st y (g y)) : q_J G l (own, cc, nL, fr, lo, ret, nm, tab) k0 z0 Z pc lv (.int x :: .int i :: .ref a :: st) h (Option.bind (q_sI 0 id h a i x) g) :=
  j_wr (pc' := pc + 1) (st' := st) (fun y hy => by
    obtain ⟨n, f, e1, hin, rfl⟩ := q_sI_ok hy
    refine ⟨rfl, fun M hM C H locs cells slots ls Q hR hlo hlv w => ?_⟩
    have hlt : a < h.2.1 := (hR.2.1 a (by rw [e1]; exact q_njl)).1
    have hc : H[G.1 + a]? = some (vp_cell (G.2.2.1 0) (n, .inl f)) := hR.at e1 q_njl
    refine W.iast C.1 C.2.1 hc ((C.2.2.2.2.2.1.1.2 0 _ rfl).1 n (fun j => .int (f j))) (fun q => by cases q) (by show ¬ (i < 0 ∨ (arrV _ _ _).slots.size ≤ _); rw [arrV_size]; exact hin) rfl rfl d fun H1 e z oq => w H1 _ (hR.set hlt ?_ z oq) (q_wl hlo)
    show H1[G.1 + a]? = some (vp_cell (G.2.2.1 0) (n, .inl (upd f i.toNatClampNeg (id x))))
    rw [e]
    rw [vp_cell_i, vp_cell_i, arrV_store]
    congr 2
    funext q
    by_cases hq : q = i.toNatClampNeg
    · subst hq
      simp [updV, upd]
      try rfl
    · simp [updV, upd, vp_updL, hq]) kk
theorem j_zast  {a : Nat} {i : Int32} {x : Int32} {g : q_H → Option (q_H × α)} (d : decode cc pc = .ok (.bastore, 1)) (kk : ∀ y, q_sI 2 (vp_nar .boolean) h a i x = some y → q_J G l (own, cc, nL, fr, lo, ret, nm, tab) k0 z0 Z (pc + 1) lv st y (g y)) : q_J G l (own, cc, nL, fr, lo, ret, nm, tab) k0 z0 Z pc lv (.int x :: .int i :: .ref a :: st) h (Option.bind (q_sI 2 (vp_nar .boolean) h a i x) g) :=
  j_wr (pc' := pc + 1) (st' := st) (fun y hy => by
    obtain ⟨n, f, e1, hin, rfl⟩ := q_sI_ok hy
    refine ⟨rfl, fun M hM C H locs cells slots ls Q hR hlo hlv w => ?_⟩
    have hlt : a < h.2.1 := (hR.2.1 a (by rw [e1]; exact q_njl)).1
    have hc : H[G.1 + a]? = some (vp_cell (G.2.2.1 2) (n, .inl f)) := hR.at e1 q_njl
    refine W.zast C.1 C.2.1 hc ((C.2.2.2.2.2.1.1.2 2 _ rfl).1 n (fun j => .int (f j))) (fun q => by cases q) (by show ¬ (i < 0 ∨ (arrV _ _ _).slots.size ≤ _); rw [arrV_size]; exact hin) rfl rfl d fun H1 e z oq => w H1 _ (hR.set hlt ?_ z oq) (q_wl hlo)
    show H1[G.1 + a]? = some (vp_cell (G.2.2.1 2) (n, .inl (upd f i.toNatClampNeg (vp_nar .boolean x))))
    rw [e]
    rw [vp_cell_i, vp_cell_i, arrV_store]
    congr 2
    funext q
    by_cases hq : q = i.toNatClampNeg
    · subst hq
      simp [updV, upd, vp_nar]
      try rfl
    · simp [updV, upd, vp_updL, hq]) kk
theorem j_cast  {a : Nat} {i : Int32} {x : Int32} {g : q_H → Option (q_H × α)} (d : decode cc pc = .ok (.castore, 1)) (kk : ∀ y, q_sI 3 (vp_nar .char) h a i x = some y → q_J G l (own, cc, nL, fr, lo, ret, nm, tab) k0 z0 Z (pc + 1) lv st y (g y)) : q_J G l (own, cc, nL, fr, lo, ret, nm, tab) k0 z0 Z pc lv (.int x :: .int i :: .ref a :: st) h (Option.bind (q_sI 3 (vp_nar .char) h a i x) g) :=
  j_wr (pc' := pc + 1) (st' := st) (fun y hy => by
    obtain ⟨n, f, e1, hin, rfl⟩ := q_sI_ok hy
    refine ⟨rfl, fun M hM C H locs cells slots ls Q hR hlo hlv w => ?_⟩
    have hlt : a < h.2.1 := (hR.2.1 a (by rw [e1]; exact q_njl)).1
    have hc : H[G.1 + a]? = some (vp_cell (G.2.2.1 3) (n, .inl f)) := hR.at e1 q_njl
    refine W.cast C.1 C.2.1 hc ((C.2.2.2.2.2.1.1.2 3 _ rfl).1 n (fun j => .int (f j))) (fun q => by cases q) (by show ¬ (i < 0 ∨ (arrV _ _ _).slots.size ≤ _); rw [arrV_size]; exact hin) rfl rfl d fun H1 e z oq => w H1 _ (hR.set hlt ?_ z oq) (q_wl hlo)
    show H1[G.1 + a]? = some (vp_cell (G.2.2.1 3) (n, .inl (upd f i.toNatClampNeg (vp_nar .char x))))
    rw [e]
    rw [vp_cell_i, vp_cell_i, arrV_store]
    congr 2
    funext q
    by_cases hq : q = i.toNatClampNeg
    · subst hq
      simp [updV, upd, vp_nar]
      try rfl
    · simp [updV, upd, vp_updL, hq]) kk
theorem j_last  {a : Nat} {i : Int32} {x : Int64} {g : q_H → Option (q_H × α)} (d : decode cc pc = .ok (.lastore, 1)) (kk : ∀ y, q_sL h a i x = some y → q_J G l (own, cc, nL, fr, lo, ret, nm, tab) k0 z0 Z (pc + 1) lv st y (g y)) : q_J G l (own, cc, nL, fr, lo, ret, nm, tab) k0 z0 Z pc lv (.long x :: .int i :: .ref a :: st) h (Option.bind (q_sL h a i x) g) :=
  j_wr (pc' := pc + 1) (st' := st) (fun y hy => by
    obtain ⟨n, f, e1, hin, rfl⟩ := q_sL_ok hy
    refine ⟨rfl, fun M hM C H locs cells slots ls Q hR hlo hlv w => ?_⟩
    have hlt : a < h.2.1 := (hR.2.1 a (by rw [e1]; exact q_njl)).1
    have hc : H[G.1 + a]? = some (vp_cell (G.2.2.1 1) (n, .inr (.inl f))) := hR.at e1 q_njl
    refine W.last C.1 C.2.1 hc ((C.2.2.2.2.2.1.1.2 1 _ rfl).1 n (fun j => .long (f j))) (fun q => by cases q) (by show ¬ (i < 0 ∨ (arrV _ _ _).slots.size ≤ _); rw [arrV_size]; exact hin) rfl rfl d fun H1 e z oq => w H1 _ (hR.set hlt ?_ z oq) (q_wl hlo)
    show H1[G.1 + a]? = some (vp_cell (G.2.2.1 1) (n, .inr (.inl (vp_updL f i.toNatClampNeg x))))
    rw [e]
    rw [vp_cell_l, vp_cell_l, arrV_store]
    congr 2
    funext q
    by_cases hq : q = i.toNatClampNeg
    · subst hq
      simp [updV, vp_updL]
      try rfl
    · simp [updV, upd, vp_updL, hq]) kk
theorem j_aast  {a t ci v : Nat} {i : Int32} {r : vw_C} {g : q_H → Option (q_H × α)} (hT : (q_T G)[t]? = some (G.2.2.1 t, .object r.1)) (hc : vwCl[ci]? = some r) (d : decode cc pc = .ok (.aastore, 1)) (kk : ∀ y, q_sR t ci h a i v = some y → q_J G l (own, cc, nL, fr, lo, ret, nm, tab) k0 z0 Z (pc + 1) lv st y (g y)) : q_J G l (own, cc, nL, fr, lo, ret, nm, tab) k0 z0 Z pc lv (.ref v :: .int i :: .ref a :: st) h (Option.bind (q_sR t ci h a i v) g) :=
  j_wr (pc' := pc + 1) (st' := st) (fun y hy => by
    obtain ⟨n, f, fs, e1, hin, e2, rfl⟩ := q_sR_ok hy
    refine ⟨rfl, fun M hM C H locs cells slots ls Q hR hlo hlv w => ?_⟩
    have hlt : a < h.2.1 := (hR.2.1 a (by rw [e1]; exact q_njl)).1
    have hcA : H[G.1 + a]? = some (vp_cell (G.2.2.1 t) (n, .inr (.inr (.inr (.inr (fun j => (f j).map (fun x => G.1 + x))))))) := hR.at e1 q_njl
    have hl2 : i.toNatClampNeg < n := Nat.not_le.mp fun q => hin (Or.inr q)
    have h0 : ¬ i < 0 := fun q => hin (Or.inl q)
    obtain ⟨r', hr', cellV, g1, g2, g3, -⟩ := hR.at e2 (q_nj (q_cl hc))
    have hK := C.2.2.2.2.2.1.1
    have hcls := (hK.1 ci r hc).2
    obtain ⟨kA, comp, k1, k2, k3, -⟩ := (hK.2 t _ hT).2
    have hcomp : comp = G.2.1.1 ci := Option.some.inj (k3.symm.trans hcls.1)
    subst hcomp
    obtain ⟨kC, hkC, -⟩ := hcls.2
    refine W.aast C.1 C.2.1 hcA (fun q h => by cases h) (fun h => by cases h) k1 k2 rfl hkC ⟨h0, by show _ < (arrV _ _ _).slots.size; rw [arrV_size]; exact hl2⟩ g1 (fun q h => by rw [g3] at h; cases h) (by rw [g2]; exact hkC) (by rw [g2]; exact va_assign hcls) rfl rfl d fun H1 e z oq => w H1 _ (hR.set hlt ?_ z oq) (q_wl hlo)
    show H1[G.1 + a]? = some (vp_cell (G.2.2.1 t) (n, .inr (.inr (.inr (.inr (fun j => ((va_up f i.toNatClampNeg (some v)) j).map (fun x => G.1 + x)))))))
    rw [e]
    rw [vp_cell_q, vp_cell_q, arrV_store]
    congr 2
    funext q
    by_cases hq : q = i.toNatClampNeg
    · subst hq
      simp [updV, va_up, va_rf, q_v]
    · simp [updV, va_up, hq]) kk
end QR
