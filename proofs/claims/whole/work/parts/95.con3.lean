/-! THE CONSTRUCTORS 3: both -/
theorem k_row (p : List va_E) (n : Nat × Nat) : f_X4_init (hL (p ++ [.inr (3, [.null, .int 0])]) n) p.length = some (hL (p ++ [.inr (3, [.ref (p.length + 1), .int 0]), o_L 80 (fun _ => 0)]) (n.1 + 1, n.2 + 80), ()) := by
  unfold f_X4_init b_X4_init_0
  rw [hL_nL _ _ (show (80 : Int32) = nI 80 from rfl) (by omega), bS]
  dsimp only
  rw [asc, hL_pp (by show 0 < 2; omega), bS]
  simp only [List.length_append, List.length_cons, List.length_nil]
  rfl
theorem k_txt (p : List va_E) (n : Nat × Nat) : f_X6_init (hL (p ++ [.inr (5, [.null, .int 0])]) n) p.length = some (hL (p ++ [.inr (5, [.ref (p.length + 1), .int 0]), o_I 3 80 (fun _ => 0)]) (n.1 + 1, n.2 + 80), ()) := by
  unfold f_X6_init b_X6_init_0
  rw [hL_nI _ _ _ (show (80 : Int32) = nI 80 from rfl) (by omega), bS]
  dsimp only
  rw [asc, hL_pp (by show 0 < 2; omega), bS]
  simp only [List.length_append, List.length_cons, List.length_nil]
  rfl
theorem k_two (p : List va_E) (n : Nat × Nat) : f_X3_init (hL (p ++ [.inr (2, [.null, .null])]) n) p.length = some (hL (p ++ [.inr (2, [.ref (p.length + 1), .ref (p.length + 2)]), o_I 0 49 (fun _ => 0), o_I 0 49 (fun _ => 0)]) (n.1 + 2, n.2 + 98), ()) := by
  unfold f_X3_init b_X3_init_0
  rw [hL_nI _ _ _ (show (49 : Int32) = nI 49 from rfl) (by omega), bS]
  dsimp only
  rw [asc, hL_pp (by show 0 < 2; omega), bS, hL_nI _ _ _ (show (49 : Int32) = nI 49 from rfl) (by omega), bS]
  dsimp only
  rw [asc, hL_pp (by simp), bS]
  simp only [List.length_append, List.length_cons, List.length_nil]
  rfl
theorem hL_p0 {r : List va_E} {n : Nat × Nat} {ci k : Nat} {fs : List Value} (hk : k < fs.length) (v : Value) : q_p ci k (hL (.inr (ci, fs) :: r) n) 0 v = some (hL (.inr (ci, fs.set k v) :: r) n) := hL_pp (p := []) hk v
theorem cWorld_len (w : Nat) : (cWorld w).length = 45 := by
  show ((copL (w + 3) 3 ++ serL (w + 27) 9).length + 1 + 1) + 1 = 45
  rw [List.length_append, copL_len, serL_len]
theorem cOth_len (w : Nat) : (cOth w).length = 104 := by
  show (((cTree (w + 2) ++ cSer (w + 4) 32) ++ treL (w + 6) 49).length + 1) + 1 = 104
  rw [List.length_append, treL_len]
  rfl
theorem k_98 {p r : List va_E} (n : Nat × Nat) {fs : List Value} (f : Nat → Option Nat) (hp : p.length = 91) (h0 : p[0]? = some (.inr (8, fs))) (h2 : fs[2]? = some (.ref 91)) {i : Nat} (hi : i < 2) (k98 : q_H → Nat → Int32 → Option (q_H × Unit)) : b_X9_init_98 k98 (hL (p ++ o_N 7 2 f :: r) n) 0 (nI i) = k98 (hL (p ++ o_N 7 2 (va_up f i (some (92 + r.length))) :: (r ++ cWorld (92 + r.length))) (n.1 + 45, n.2 + 320)) 0 (nI (i + 1)) := by
  have h0' : (p ++ o_N 7 2 f :: r)[0]? = some (.inr (8, fs)) := by rw [List.getElem?_append_left (by omega)]; exact h0
  have el : (p ++ o_N 7 2 f :: r).length = 92 + r.length := by simp; omega
  unfold b_X9_init_98
  rw [if_neg (by rw [show (2 : Int32) = nI 2 from rfl, i_le (by omega) (by omega)]; omega), hL_gR h0' h2, bS, hL_new, bS]
  dsimp only
  rw [k_world, bS]
  dsimp only
  rw [el, asc]
  have hv : (p ++ o_N 7 2 f :: (r ++ cWorld (92 + r.length)))[92 + r.length]? = some (cW0 (92 + r.length)) := by
    have e := get_at (p ++ o_N 7 2 f :: r) (cW0 (92 + r.length)) (o_N 4 3 (rfL (92 + r.length + 3) 8 3) :: o_N 5 9 (rfL (92 + r.length + 27) 2 9) :: (copL (92 + r.length + 3) 3 ++ serL (92 + r.length + 27) 9))
    rw [el, asc] at e
    exact e
  have hg : (p ++ o_N 7 2 f :: (r ++ cWorld (92 + r.length)))[91]? = some (o_N 7 2 f) := by
    have e := get_at p (o_N 7 2 f) (r ++ cWorld (92 + r.length))
    rw [hp] at e
    exact e
  have hs := set_at p (o_N 7 2 f) (o_N 7 2 (va_up f i (some (92 + r.length)))) (r ++ cWorld (92 + r.length))
  rw [hp] at hs
  rw [hL_sR (ci := 7) (fs := [.ref (92 + r.length + 1), .ref (92 + r.length + 2)]) hg hi (by omega) hv, bS, nI_1, hs]
  rfl
def cFar : va_E := .inr (8, [.ref 1, .ref 46, .ref 91, .ref 92, .ref 93, .ref 95, .ref 97, .ref 99, .ref 102, .int 0])
def cMid : List va_E := [o_I 2 2 (fun _ => 0)] ++ [.inr (3, [.ref 94, .int 0]), o_L 80 (fun _ => 0)] ++ [.inr (5, [.ref 96, .int 0]), o_I 3 80 (fun _ => 0)] ++ cTree 97 ++ [.inr (2, [.ref 100, .ref 101]), o_I 0 49 (fun _ => 0), o_I 0 49 (fun _ => 0)] ++ cOth 102
theorem cMid_len : cMid.length = 114 := by
  show (_ ++ cOth 102).length = 114
  rw [List.length_append, cOth_len]
  rfl
def cAll : List va_E := (cFar :: (cWorld 1 ++ cWorld 46)) ++ o_N 7 2 (rfL 206 45 2) :: (cMid ++ cWorld 206 ++ cWorld 251)
theorem cAll_len : cAll.length = 296 := by
  unfold cAll
  simp only [List.length_append, List.length_cons, cWorld_len, cMid_len]
theorem k_98fin {l : List va_E} {n : Nat × Nat} (hl : l = (cFar :: (cWorld 1 ++ cWorld 46)) ++ o_N 7 2 (rfL 206 45 0) :: cMid) : l_X9_init_98 q_FU (hL l n) 0 0 = some (hL cAll (n.1 + 90, n.2 + 640), ()) := by
  have hp : (cFar :: (cWorld 1 ++ cWorld 46)).length = 91 := by simp only [List.length_append, List.length_cons, cWorld_len]
  obtain ⟨f, hf⟩ := q_FUe
  rw [hf, hl]
  have s1 := k_98 (p := cFar :: (cWorld 1 ++ cWorld 46)) (r := cMid) (fs := [.ref 1, .ref 46, .ref 91, .ref 92, .ref 93, .ref 95, .ref 97, .ref 99, .ref 102, .int 0]) n (rfL 206 45 0) hp rfl rfl (i := 0) (by omega) (l_X9_init_98 (f + 99))
  have s2 := k_98 (p := cFar :: (cWorld 1 ++ cWorld 46)) (r := cMid ++ cWorld 206) (fs := [.ref 1, .ref 46, .ref 91, .ref 92, .ref 93, .ref 95, .ref 97, .ref 99, .ref 102, .int 0]) (n.1 + 45, n.2 + 320) (rfL 206 45 1) hp rfl rfl (i := 1) (by omega) (l_X9_init_98 (f + 98))
  have u1 := up_rf 206 45 0
  have u2 := up_rf 206 45 1
  rw [cMid_len, show 92 + 114 = 206 + 45 * 0 from rfl, u1] at s1
  rw [List.length_append, cMid_len, cWorld_len, show 92 + (114 + 45) = 206 + 45 * 1 from rfl, u2] at s2
  show b_X9_init_98 (l_X9_init_98 (f + 99)) (hL ((cFar :: (cWorld 1 ++ cWorld 46)) ++ o_N 7 2 (rfL 206 45 0) :: cMid) n) 0 (nI 0) = _
  rw [s1]
  show b_X9_init_98 (l_X9_init_98 (f + 98)) (hL ((cFar :: (cWorld 1 ++ cWorld 46)) ++ o_N 7 2 (rfL 206 45 1) :: (cMid ++ cWorld 206)) (n.1 + 45, n.2 + 320)) 0 (nI 1) = _
  rw [s2]
  show b_X9_init_98 (l_X9_init_98 (f + 97)) _ 0 (nI 2) = _
  unfold b_X9_init_98
  rw [if_pos (by decide)]
  rfl
theorem k_far : ∃ n', f_X9_init (hL [.inr (8, [.null, .null, .null, .null, .null, .null, .null, .null, .null, .int 0])] (1, 10)) 0 = some (hL cAll n', ()) ∧ n'.1 ≤ 1000 ∧ n'.2 ≤ 10000 := by
  unfold f_X9_init b_X9_init_0
  rw [hL_new, bS]
  dsimp only
  rw [k_world, bS]
  dsimp only
  rw [List.cons_append, hL_p0 (by show 0 < 10; omega), bS, hL_new, bS]
  dsimp only
  rw [k_world, bS]
  dsimp only
  rw [List.cons_append, hL_p0 (by simp), bS, hL_nR _ _ _ (show (2 : Int32) = nI 2 from rfl) (by omega), bS]
  dsimp only
  rw [List.cons_append, hL_p0 (by simp), bS, hL_nI _ _ _ (show (2 : Int32) = nI 2 from rfl) (by omega), bS]
  dsimp only
  rw [List.cons_append, hL_p0 (by simp), bS, hL_new, bS]
  dsimp only
  rw [k_row, bS]
  dsimp only
  rw [List.cons_append, hL_p0 (by simp), bS, hL_new, bS]
  dsimp only
  rw [k_txt, bS]
  dsimp only
  rw [List.cons_append, hL_p0 (by simp), bS, hL_new, bS]
  dsimp only
  rw [k_tree, bS]
  dsimp only
  rw [List.cons_append, hL_p0 (by simp), bS, hL_new, bS]
  dsimp only
  rw [k_two, bS]
  dsimp only
  rw [List.cons_append, hL_p0 (by simp), bS, hL_new, bS]
  dsimp only
  rw [k_oth, bS]
  dsimp only
  rw [List.cons_append, hL_p0 (by simp), bS]
  simp only [List.length_append, List.length_cons, List.length_nil, cWorld_len, cTree, List.nil_append]
  rw [k_98fin (by
    rw [rf_0]
    simp only [List.append_assoc, List.cons_append, List.nil_append, cMid, cTree]
    rfl)]
  exact ⟨_, rfl, Nat.le_of_ble_eq_true rfl, Nat.le_of_ble_eq_true rfl⟩
