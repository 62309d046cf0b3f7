/-! THE CONSTRUCTORS -/
def hL (l : List va_E) (n : Nat × Nat) : q_H := ((fun a => l.getD a q_junk), l.length, n.1, n.2)
theorem hL_al (l : List va_E) (n : Nat × Nat) (e : va_E) (m : Nat) : q_al (hL l n) e m = hL (l ++ [e]) (n.1 + 1, n.2 + m) := by
  unfold q_al hL
  refine Prod.ext ?_ (Prod.ext ?_ rfl)
  · funext a
    show va_up (fun a => l.getD a q_junk) l.length e a = _
    unfold va_up
    simp only [List.getD_eq_getElem?_getD]
    by_cases h : a = l.length
    · subst h; simp
    · rw [if_neg h]
      by_cases h2 : a < l.length
      · rw [List.getElem?_append_left h2]
      · rw [List.getElem?_eq_none (by omega), List.getElem?_eq_none (by simp; omega)]
  · show l.length + 1 = (l ++ [e]).length
    simp
theorem hL_s {l : List va_E} {n : Nat × Nat} {a : Nat} (e : va_E) (ha : a < l.length) : q_s (hL l n) a e = hL (l.set a e) n := by
  unfold q_s hL
  refine Prod.ext ?_ (Prod.ext ?_ rfl)
  · funext b
    show va_up (fun a => l.getD a q_junk) a e b = _
    unfold va_up
    simp only [List.getD_eq_getElem?_getD, List.getElem?_set]
    by_cases h : b = a
    · subst h; simp [ha]
    · rw [if_neg h, if_neg (fun q => h q.symm)]
  · show l.length = (l.set a e).length
    simp
theorem hL_at {l : List va_E} {n : Nat × Nat} {a : Nat} {e : va_E} (h : l[a]? = some e) : (hL l n).1 a = e := by
  show l.getD a q_junk = e
  rw [List.getD_eq_getElem?_getD, h]
  rfl
theorem hL_new (l : List va_E) (n : Nat × Nat) (ci : Nat) (fs : List Value) : q_new ci fs (hL l n) = some (hL (l ++ [.inr (ci, fs)]) (n.1 + 1, n.2 + fs.length), l.length) := by
  unfold q_new
  rw [hL_al]
  rfl
theorem hL_nL (l : List va_E) (n : Nat × Nat) {x : Int32} {m : Nat} (hx : x = nI m) (hm : m ≤ 100000) : q_nL (hL l n) x = some (hL (l ++ [o_L m (fun _ => 0)]) (n.1 + 1, n.2 + m), l.length) := by
  subst hx
  unfold q_nL
  rw [nI_clamp (by omega), if_neg (by
    intro q
    rcases q with q | q
    · exact nI_pos (by omega) q
    · omega), hL_al]
  rfl
theorem hL_nI (l : List va_E) (n : Nat × Nat) (t : Nat) {x : Int32} {m : Nat} (hx : x = nI m) (hm : m ≤ 100000) : q_nI t (hL l n) x = some (hL (l ++ [o_I t m (fun _ => 0)]) (n.1 + 1, n.2 + m), l.length) := by
  subst hx
  unfold q_nI
  rw [nI_clamp (by omega), if_neg (by
    intro q
    rcases q with q | q
    · exact nI_pos (by omega) q
    · omega), hL_al]
  rfl
def o_N (t m : Nat) (f : Nat → Option Nat) : va_E := .inl (t, m, .inr (.inr (.inr (.inr f))))
theorem hL_nR (l : List va_E) (n : Nat × Nat) (t : Nat) {x : Int32} {m : Nat} (hx : x = nI m) (hm : m ≤ 100000) : q_nR t (hL l n) x = some (hL (l ++ [o_N t m (fun _ => none)]) (n.1 + 1, n.2 + m), l.length) := by
  subst hx
  unfold q_nR
  rw [nI_clamp (by omega), if_neg (by
    intro q
    rcases q with q | q
    · exact nI_pos (by omega) q
    · omega), hL_al]
  rfl
theorem hL_p {l : List va_E} {n : Nat × Nat} {a ci k : Nat} {fs : List Value} (h : l[a]? = some (.inr (ci, fs))) (hk : k < fs.length) (v : Value) : q_p ci k (hL l n) a v = some (hL (l.set a (.inr (ci, fs.set k v))) n) := by
  have ha : a < l.length := (List.getElem?_eq_some_iff.mp h).1
  unfold q_p
  rw [hL_at h]
  simp only
  rw [if_pos ⟨trivial, hk⟩, hL_s _ ha]
theorem hL_gR {l : List va_E} {n : Nat × Nat} {a ci k x : Nat} {fs : List Value} (h : l[a]? = some (.inr (ci, fs))) (hk : fs[k]? = some (.ref x)) : q_gR ci k (hL l n) a = some x := by
  unfold q_gR q_fld
  rw [hL_at h]
  simp only
  rw [if_pos trivial, hk]
theorem hL_len {l : List va_E} {n : Nat × Nat} {a t m : Nat} {r} (h : l[a]? = some (.inl (t, m, r))) (ht : t < 8) : q_len (hL l n) a = some (nI m) := by
  unfold q_len
  rw [hL_at h]
  simp only
  rw [if_pos ht]
  rfl
theorem hL_sR {l : List va_E} {n : Nat × Nat} {a t ci m i v : Nat} {f : Nat → Option Nat} {fs : List Value} (h : l[a]? = some (o_N t m f)) (hi : i < m) (hm : m < 2 ^ 31) (hv : l[v]? = some (.inr (ci, fs))) : q_sR t ci (hL l n) a (nI i) v = some (hL (l.set a (o_N t m (va_up f i (some v)))) n) := by
  have ha : a < l.length := (List.getElem?_eq_some_iff.mp h).1
  unfold q_sR
  rw [hL_at h]
  show (if t = t ∧ q_in (nI i) m = true then q_chk ci (hL l n) v _ else none) = _
  rw [if_pos ⟨rfl, q_in_nI hi (by omega)⟩]
  unfold q_chk
  rw [hL_at hv]
  simp only
  rw [if_pos trivial, hL_s _ ha, nI_clamp (by omega)]
  rfl
theorem set_at {α : Type} (p : List α) (x y : α) (r : List α) : (p ++ x :: r).set p.length y = p ++ y :: r := by simp
theorem get_at {α : Type} (p : List α) (x : α) (r : List α) : (p ++ x :: r)[p.length]? = some x := by simp
/-! trees, series, copies -/
def cTree (a : Nat) : List va_E := [.inr (6, [.ref (a + 1)]), o_L 16 (fun _ => 0)]
def cSer (a m : Nat) : List va_E := [.inr (4, [.ref (a + 1), .int 0]), o_L m (fun _ => 0)]
theorem k_tree (p : List va_E) (n : Nat × Nat) : f_X7_init (hL (p ++ [.inr (6, [.null])]) n) p.length = some (hL (p ++ cTree p.length) (n.1 + 1, n.2 + 16), ()) := by
  unfold f_X7_init b_X7_init_0
  rw [hL_nL _ _ (show (16 : Int32) = nI 16 from rfl) (by omega), bS, List.append_assoc]
  show Option.bind (q_p 6 0 (hL (p ++ .inr (6, [.null]) :: [o_L 16 (fun _ => 0)]) _) p.length (.ref (p ++ [_]).length)) _ = _
  rw [hL_p (get_at _ _ _) (by show 0 < 1; omega), bS, set_at]
  simp only [List.length_append, List.length_cons, List.length_nil]
  rfl
theorem k_ser (p : List va_E) (n : Nat × Nat) {x : Int32} {m : Nat} (hx : x = nI m) (hm : m ≤ 1000) : f_X5_init (hL (p ++ [.inr (4, [.null, .int 0])]) n) p.length x = some (hL (p ++ cSer p.length m) (n.1 + 1, n.2 + m), ()) := by
  have e : q_max x 0 = nI m := by
    rw [hx, show (0 : Int32) = nI 0 from rfl, i_max (by omega) (by omega), Nat.max_eq_left (by omega)]
  unfold f_X5_init b_X5_init_0
  rw [e, hL_nL _ _ rfl (by omega), bS, List.append_assoc]
  show Option.bind (q_p 4 0 (hL (p ++ .inr (4, [.null, .int 0]) :: [o_L m (fun _ => 0)]) _) p.length (.ref (p ++ [_]).length)) _ = _
  rw [hL_p (get_at _ _ _) (by show 0 < 2; omega), bS, set_at]
  simp only [List.length_append, List.length_cons, List.length_nil]
  rfl
theorem asc {α : Type} (p : List α) (c : α) (r s : List α) : (p ++ c :: r) ++ s = p ++ c :: (r ++ s) := by simp
theorem hL_pp {p r : List va_E} {n : Nat × Nat} {ci k : Nat} {fs : List Value} (hk : k < fs.length) (v : Value) : q_p ci k (hL (p ++ .inr (ci, fs) :: r) n) p.length v = some (hL (p ++ .inr (ci, fs.set k v) :: r) n) := by
  rw [hL_p (get_at _ _ _) hk, set_at]
def cCopy (a : Nat) (v : Int32) : List va_E := .inr (0, [.int v, .int 0, .ref (a + 1), .ref (a + 2), .ref (a + 4), .ref (a + 6), .int 0]) :: ([o_I 0 3 (fun _ => 0)] ++ cSer (a + 2) 32 ++ cTree (a + 4) ++ cTree (a + 6))
theorem k_copy (p : List va_E) (n : Nat × Nat) (v : Int32) : f_X0_init (hL (p ++ [.inr (0, [.int 0, .int 0, .null, .null, .null, .null, .int 0])]) n) p.length v = some (hL (p ++ cCopy p.length v) (n.1 + 7, n.2 + 71), ()) := by
  unfold f_X0_init b_X0_init_0
  rw [hL_nI _ _ _ (show (3 : Int32) = nI 3 from rfl) (by omega), bS]
  dsimp only
  rw [asc, hL_pp (by show 2 < 7; omega), bS, hL_new, bS]
  dsimp only
  rw [k_ser _ _ (show (32 : Int32) = nI 32 from rfl) (by omega), bS]
  dsimp only
  rw [asc, hL_pp (by simp), bS, hL_new, bS]
  dsimp only
  rw [k_tree, bS]
  dsimp only
  rw [asc, hL_pp (by simp), bS, hL_new, bS]
  dsimp only
  rw [k_tree, bS]
  dsimp only
  rw [asc, hL_pp (by simp), bS, hL_pp (by simp), bS]
  simp only [List.length_append, List.length_cons, List.length_nil, cSer, cTree]
  rfl
