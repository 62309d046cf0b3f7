/-! THE CONSTRUCTORS 2: worlds, the other trees -/
def rfL (b s i : Nat) : Nat → Option Nat := fun j => if j < i then some (b + s * j) else none
theorem up_rf (b s i : Nat) : va_up (rfL b s i) i (some (b + s * i)) = rfL b s (i + 1) := by
  funext j
  unfold va_up rfL
  by_cases e : j = i
  · subst e; rw [if_pos rfl, if_pos (by omega)]
  · rw [if_neg e]
    by_cases h : j < i
    · rw [if_pos h, if_pos (by omega)]
    · rw [if_neg h, if_neg (by omega)]
theorem rf_0 (b s : Nat) : rfL b s 0 = fun _ => none := by
  funext j
  exact if_neg (by omega)
def copL (b : Nat) : Nat → List va_E
  | 0 => []
  | c + 1 => copL b c ++ cCopy (b + 8 * c) (nI c)
def serL (b : Nat) : Nat → List va_E
  | 0 => []
  | c + 1 => serL b c ++ cSer (b + 2 * c) 6
def treL (b : Nat) : Nat → List va_E
  | 0 => []
  | c + 1 => treL b c ++ cTree (b + 2 * c)
theorem copL_len (b : Nat) : ∀ c, (copL b c).length = 8 * c := by
  intro c
  induction c with
  | zero => rfl
  | succ c ih => show (copL b c ++ cCopy (b + 8 * c) (nI c)).length = _; rw [List.length_append, ih]; show 8 * c + 8 = _; omega
theorem serL_len (b : Nat) : ∀ c, (serL b c).length = 2 * c := by
  intro c
  induction c with
  | zero => rfl
  | succ c ih => show (serL b c ++ cSer (b + 2 * c) 6).length = _; rw [List.length_append, ih]; show 2 * c + 2 = _; omega
theorem treL_len (b : Nat) : ∀ c, (treL b c).length = 2 * c := by
  intro c
  induction c with
  | zero => rfl
  | succ c ih => show (treL b c ++ cTree (b + 2 * c)).length = _; rw [List.length_append, ih]; show 2 * c + 2 = _; omega
theorem get_a1 {α : Type} (p : List α) (x y : α) (r : List α) : (p ++ x :: y :: r)[p.length + 1]? = some y := by simp
theorem get_a2 {α : Type} (p : List α) (x y z : α) (r : List α) : (p ++ x :: y :: z :: r)[p.length + 2]? = some z := by simp
theorem set_a1 {α : Type} (p : List α) (x y v : α) (r : List α) : (p ++ x :: y :: r).set (p.length + 1) v = p ++ x :: v :: r := by simp
theorem set_a2 {α : Type} (p : List α) (x y z v : α) (r : List α) : (p ++ x :: y :: z :: r).set (p.length + 2) v = p ++ x :: y :: v :: r := by simp
theorem len_a3 {α : Type} (p : List α) (x y z : α) (r : List α) : (p ++ x :: y :: z :: r).length = p.length + 3 + r.length := by simp; omega
theorem len_a2 {α : Type} (p : List α) (x y : α) (r : List α) : (p ++ x :: y :: r).length = p.length + 2 + r.length := by simp; omega
def cW0 (w : Nat) : va_E := .inr (7, [.ref (w + 1), .ref (w + 2)])
theorem w_g0 (p r : List va_E) (n : Nat × Nat) : q_gR 7 0 (hL (p ++ cW0 p.length :: r) n) p.length = some (p.length + 1) := hL_gR (ci := 7) (k := 0) (fs := [.ref (p.length + 1), .ref (p.length + 2)]) (get_at _ _ _) rfl
theorem w_g1 (p r : List va_E) (n : Nat × Nat) : q_gR 7 1 (hL (p ++ cW0 p.length :: r) n) p.length = some (p.length + 2) := hL_gR (ci := 7) (k := 1) (fs := [.ref (p.length + 1), .ref (p.length + 2)]) (get_at _ _ _) rfl
theorem o_g0 (p r : List va_E) (n : Nat × Nat) (o : List Value) : q_gR 1 0 (hL (p ++ .inr (1, .ref (p.length + 1) :: o) :: r) n) p.length = some (p.length + 1) := hL_gR (ci := 1) (k := 0) (fs := .ref (p.length + 1) :: o) (get_at _ _ _) rfl
theorem w_l2 (p r : List va_E) (n : Nat × Nat) (x y : va_E) (f : Nat → Option Nat) : q_len (hL (p ++ x :: y :: o_N 5 9 f :: r) n) (p.length + 2) = some (nI 9) := hL_len (t := 5) (m := 9) (r := .inr (.inr (.inr (.inr f)))) (get_a2 _ _ _ _ _) (by omega)
theorem w_l1 (p r : List va_E) (n : Nat × Nat) (x : va_E) (f : Nat → Option Nat) : q_len (hL (p ++ x :: o_N 6 49 f :: r) n) (p.length + 1) = some (nI 49) := hL_len (t := 6) (m := 49) (r := .inr (.inr (.inr (.inr f)))) (get_a1 _ _ _ _) (by omega)
theorem k_w23 (p r : List va_E) (n : Nat × Nat) (RN : va_E) (f : Nat → Option Nat) {c : Nat} (hc : c < 3) (k23 : q_H → Nat → Int32 → Option (q_H × Unit)) : b_X8_init_23 k23 (hL (p ++ cW0 p.length :: o_N 4 3 f :: RN :: r) n) p.length (nI c) = k23 (hL (p ++ cW0 p.length :: o_N 4 3 (va_up f c (some (p.length + 3 + r.length))) :: RN :: (r ++ cCopy (p.length + 3 + r.length) (nI c))) (n.1 + 8, n.2 + 78)) p.length (nI (c + 1)) := by
  unfold b_X8_init_23
  rw [if_neg (by rw [show (3 : Int32) = nI 3 from rfl, i_le (by omega) (by omega)]; omega), w_g0, bS, hL_new, bS]
  dsimp only
  rw [k_copy, bS]
  dsimp only
  rw [len_a3, asc, List.cons_append, List.cons_append]
  have hv : (p ++ cW0 p.length :: o_N 4 3 f :: RN :: (r ++ cCopy (p.length + 3 + r.length) (nI c)))[p.length + 3 + r.length]? = some (.inr (0, [.int (nI c), .int 0, .ref (p.length + 3 + r.length + 1), .ref (p.length + 3 + r.length + 2), .ref (p.length + 3 + r.length + 4), .ref (p.length + 3 + r.length + 6), .int 0])) := by
    have e := get_at (p ++ cW0 p.length :: o_N 4 3 f :: RN :: r) (.inr (0, [.int (nI c), .int 0, .ref (p.length + 3 + r.length + 1), .ref (p.length + 3 + r.length + 2), .ref (p.length + 3 + r.length + 4), .ref (p.length + 3 + r.length + 6), .int 0])) (([o_I 0 3 (fun _ => 0)] ++ cSer (p.length + 3 + r.length + 2) 32 ++ cTree (p.length + 3 + r.length + 4) ++ cTree (p.length + 3 + r.length + 6)))
    rw [len_a3, asc, List.cons_append, List.cons_append] at e
    exact e
  rw [hL_sR (get_a1 _ _ _ _) hc (by omega) hv, bS, nI_1, set_a1]
  rfl
theorem k_w50 (p r : List va_E) (n : Nat × Nat) (RC : va_E) (f : Nat → Option Nat) {i : Nat} (hi : i < 9) (k50 : q_H → Nat → Int32 → Option (q_H × Unit)) : b_X8_init_50 k50 (hL (p ++ cW0 p.length :: RC :: o_N 5 9 f :: r) n) p.length (nI i) = k50 (hL (p ++ cW0 p.length :: RC :: o_N 5 9 (va_up f i (some (p.length + 3 + r.length))) :: (r ++ cSer (p.length + 3 + r.length) 6)) (n.1 + 2, n.2 + 8)) p.length (nI (i + 1)) := by
  unfold b_X8_init_50
  rw [w_g1, bS, w_l2, bS, if_neg (by rw [i_le (by omega) (by omega)]; omega), bS, hL_new, bS]
  dsimp only
  rw [k_ser _ _ (show (6 : Int32) = nI 6 from rfl) (by omega), bS]
  dsimp only
  rw [len_a3, asc, List.cons_append, List.cons_append]
  have hv : (p ++ cW0 p.length :: RC :: o_N 5 9 f :: (r ++ cSer (p.length + 3 + r.length) 6))[p.length + 3 + r.length]? = some (.inr (4, [.ref (p.length + 3 + r.length + 1), .int 0])) := by
    have e := get_at (p ++ cW0 p.length :: RC :: o_N 5 9 f :: r) (.inr (4, [.ref (p.length + 3 + r.length + 1), .int 0])) [o_L 6 (fun _ => 0)]
    rw [len_a3, asc, List.cons_append, List.cons_append] at e
    exact e
  rw [hL_sR (get_a2 _ _ _ _ _) hi (by omega) hv, bS, nI_1, set_a2]
  rfl
theorem k_w50L (p cs : List va_E) (RC : va_E) (hcs : cs.length = 24) : ∀ d i fuel (n : Nat × Nat), i + d = 9 → d < fuel → l_X8_init_50 fuel (hL (p ++ cW0 p.length :: RC :: o_N 5 9 (rfL (p.length + 27) 2 i) :: (cs ++ serL (p.length + 27) i)) n) p.length (nI i) = some (hL (p ++ cW0 p.length :: RC :: o_N 5 9 (rfL (p.length + 27) 2 9) :: (cs ++ serL (p.length + 27) 9)) (n.1 + 2 * d, n.2 + 8 * d), ()) := by
  intro d
  induction d with
  | zero =>
    intro i fuel n hi hf
    obtain ⟨f, rfl⟩ : ∃ f, fuel = f + 1 := ⟨fuel - 1, by omega⟩
    obtain rfl : i = 9 := by omega
    show b_X8_init_50 _ _ _ _ = _
    unfold b_X8_init_50
    rw [w_g1, bS, w_l2, bS, if_pos (by rw [i_le (by omega) (by omega)]; omega)]
    rfl
  | succ d ih =>
    intro i fuel n hi hf
    obtain ⟨f, rfl⟩ : ∃ f, fuel = f + 1 := ⟨fuel - 1, by omega⟩
    show b_X8_init_50 _ _ _ _ = _
    have el : p.length + 3 + (cs ++ serL (p.length + 27) i).length = p.length + 27 + 2 * i := by rw [List.length_append, hcs, serL_len]; omega
    rw [k_w50 _ _ _ _ _ (by omega), el, up_rf, List.append_assoc]
    have := ih (i + 1) f (n.1 + 2, n.2 + 8) (by omega) (by omega)
    refine this.trans ?_
    dsimp only
    rw [show n.1 + 2 + 2 * d = n.1 + 2 * (d + 1) by omega, show n.2 + 8 + 8 * d = n.2 + 8 * (d + 1) by omega]
theorem k_w23L (p : List va_E) : ∀ d c fuel (n : Nat × Nat), c + d = 3 → d < fuel → l_X8_init_23 fuel (hL (p ++ cW0 p.length :: o_N 4 3 (rfL (p.length + 3) 8 c) :: o_N 5 9 (fun _ => none) :: copL (p.length + 3) c) n) p.length (nI c) = some (hL (p ++ cW0 p.length :: o_N 4 3 (rfL (p.length + 3) 8 3) :: o_N 5 9 (rfL (p.length + 27) 2 9) :: (copL (p.length + 3) 3 ++ serL (p.length + 27) 9)) (n.1 + 8 * d + 18, n.2 + 78 * d + 72), ()) := by
  intro d
  induction d with
  | zero =>
    intro c fuel n hc hf
    obtain ⟨f, rfl⟩ : ∃ f, fuel = f + 1 := ⟨fuel - 1, by omega⟩
    obtain rfl : c = 3 := by omega
    show b_X8_init_23 _ _ _ _ = _
    unfold b_X8_init_23
    rw [if_pos (by rw [show (3 : Int32) = nI 3 from rfl, i_le (by omega) (by omega)]; omega)]
    have := k_w50L p (copL (p.length + 3) 3) (o_N 4 3 (rfL (p.length + 3) 8 3)) (copL_len _ _) 9 0 q_FU n (by omega) (q_FU_lt (by omega))
    rw [rf_0, show copL (p.length + 3) 3 ++ serL (p.length + 27) 0 = copL (p.length + 3) 3 from List.append_nil _] at this
    exact this
  | succ d ih =>
    intro c fuel n hc hf
    obtain ⟨f, rfl⟩ : ∃ f, fuel = f + 1 := ⟨fuel - 1, by omega⟩
    show b_X8_init_23 _ _ _ _ = _
    have el : p.length + 3 + (copL (p.length + 3) c).length = p.length + 3 + 8 * c := by rw [copL_len]
    rw [k_w23 _ _ _ _ _ (by omega), el, up_rf]
    have := ih (c + 1) f (n.1 + 8, n.2 + 78) (by omega) (by omega)
    refine this.trans ?_
    dsimp only
    rw [show n.1 + 8 + 8 * d + 18 = n.1 + 8 * (d + 1) + 18 by omega, show n.2 + 78 + 78 * d + 72 = n.2 + 78 * (d + 1) + 72 by omega]
def cWorld (w : Nat) : List va_E := cW0 w :: o_N 4 3 (rfL (w + 3) 8 3) :: o_N 5 9 (rfL (w + 27) 2 9) :: (copL (w + 3) 3 ++ serL (w + 27) 9)
theorem k_world (p : List va_E) (n : Nat × Nat) : f_X8_init (hL (p ++ [.inr (7, [.null, .null])]) n) p.length = some (hL (p ++ cWorld p.length) (n.1 + 44, n.2 + 318), ()) := by
  unfold f_X8_init b_X8_init_0
  rw [hL_nR _ _ _ (show (3 : Int32) = nI 3 from rfl) (by omega), bS]
  dsimp only
  rw [asc, hL_pp (by show 0 < 2; omega), bS, hL_nR _ _ _ (show (9 : Int32) = nI 9 from rfl) (by omega), bS]
  dsimp only
  rw [asc, hL_pp (by simp), bS]
  have := k_w23L p 3 0 q_FU (n.1 + 2, n.2 + 12) (by omega) (q_FU_lt (by omega))
  rw [rf_0] at this
  simp only [List.length_append, List.length_cons, List.length_nil]
  exact this
/-! the other trees -/
theorem k_o39 (p r : List va_E) (n : Nat × Nat) (o : List Value) (f : Nat → Option Nat) {i : Nat} (hi : i < 49) (k39 : q_H → Nat → Int32 → Option (q_H × Unit)) : b_X2_init_39 k39 (hL (p ++ .inr (1, .ref (p.length + 1) :: o) :: o_N 6 49 f :: r) n) p.length (nI i) = k39 (hL (p ++ .inr (1, .ref (p.length + 1) :: o) :: o_N 6 49 (va_up f i (some (p.length + 2 + r.length))) :: (r ++ cTree (p.length + 2 + r.length))) (n.1 + 2, n.2 + 17)) p.length (nI (i + 1)) := by
  unfold b_X2_init_39
  rw [o_g0, bS, w_l1, bS, if_neg (by rw [i_le (by omega) (by omega)]; omega), bS, hL_new, bS]
  dsimp only
  rw [k_tree, bS]
  dsimp only
  rw [len_a2, asc, List.cons_append]
  have hv : (p ++ .inr (1, .ref (p.length + 1) :: o) :: o_N 6 49 f :: (r ++ cTree (p.length + 2 + r.length)))[p.length + 2 + r.length]? = some (.inr (6, [.ref (p.length + 2 + r.length + 1)])) := by
    have e := get_at (p ++ .inr (1, .ref (p.length + 1) :: o) :: o_N 6 49 f :: r) (.inr (6, [.ref (p.length + 2 + r.length + 1)])) [o_L 16 (fun _ => 0)]
    rw [len_a2, asc, List.cons_append] at e
    exact e
  rw [hL_sR (get_a1 _ _ _ _) hi (by omega) hv, bS, nI_1, set_a1]
  rfl
theorem k_o39L (p cs : List va_E) (o : List Value) (hcs : cs.length = 4) : ∀ d i fuel (n : Nat × Nat), i + d = 49 → d < fuel → l_X2_init_39 fuel (hL (p ++ .inr (1, .ref (p.length + 1) :: o) :: o_N 6 49 (rfL (p.length + 6) 2 i) :: (cs ++ treL (p.length + 6) i)) n) p.length (nI i) = some (hL (p ++ .inr (1, .ref (p.length + 1) :: o) :: o_N 6 49 (rfL (p.length + 6) 2 49) :: (cs ++ treL (p.length + 6) 49)) (n.1 + 2 * d, n.2 + 17 * d), ()) := by
  intro d
  induction d with
  | zero =>
    intro i fuel n hi hf
    obtain ⟨f, rfl⟩ : ∃ f, fuel = f + 1 := ⟨fuel - 1, by omega⟩
    obtain rfl : i = 49 := by omega
    show b_X2_init_39 _ _ _ _ = _
    unfold b_X2_init_39
    rw [o_g0, bS, w_l1, bS, if_pos (by rw [i_le (by omega) (by omega)]; omega)]
    rfl
  | succ d ih =>
    intro i fuel n hi hf
    obtain ⟨f, rfl⟩ : ∃ f, fuel = f + 1 := ⟨fuel - 1, by omega⟩
    show b_X2_init_39 _ _ _ _ = _
    have el : p.length + 2 + (cs ++ treL (p.length + 6) i).length = p.length + 6 + 2 * i := by rw [List.length_append, hcs, treL_len]; omega
    rw [k_o39 _ _ _ _ _ (by omega), el, up_rf, List.append_assoc]
    have := ih (i + 1) f (n.1 + 2, n.2 + 17) (by omega) (by omega)
    refine this.trans ?_
    dsimp only
    rw [show n.1 + 2 + 2 * d = n.1 + 2 * (d + 1) by omega, show n.2 + 17 + 17 * d = n.2 + 17 * (d + 1) by omega]
def cOth (a : Nat) : List va_E := .inr (1, [.ref (a + 1), .ref (a + 2), .ref (a + 4), .int 0]) :: o_N 6 49 (rfL (a + 6) 2 49) :: ((cTree (a + 2) ++ cSer (a + 4) 32) ++ treL (a + 6) 49)
theorem k_oth (p : List va_E) (n : Nat × Nat) : f_X2_init (hL (p ++ [.inr (1, [.null, .null, .null, .int 0])]) n) p.length = some (hL (p ++ cOth p.length) (n.1 + 103, n.2 + 933), ()) := by
  unfold f_X2_init b_X2_init_0
  rw [hL_nR _ _ _ (show (49 : Int32) = nI 49 from rfl) (by omega), bS]
  dsimp only
  rw [asc, hL_pp (by show 0 < 4; omega), bS, hL_new, bS]
  dsimp only
  rw [k_tree, bS]
  dsimp only
  rw [asc, hL_pp (by simp), bS, hL_new, bS]
  dsimp only
  rw [k_ser _ _ (show (32 : Int32) = nI 32 from rfl) (by omega), bS]
  dsimp only
  rw [asc, hL_pp (by simp), bS]
  have := k_o39L p (cTree (p.length + 2) ++ cSer (p.length + 4) 32) [.ref (p.length + 2), .ref (p.length + 4), .int 0] rfl 49 0 q_FU (n.1 + 5, n.2 + 100) (by omega) (q_FU_lt (by omega))
  rw [rf_0] at this
  simp only [List.length_append, List.length_cons, List.length_nil, cTree, cSer]
  exact this
