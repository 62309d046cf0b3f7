/-! THE CONSTRUCTORS 4: the reference -/
theorem hL_sI {l : List va_E} {n : Nat × Nat} {a t m i : Nat} {I : Nat → Int32} (h : l[a]? = some (o_I t m I)) (hi : i < m) (hm : m < 2 ^ 31) (x : Int32) : q_sI t id (hL l n) a (nI i) x = some (hL (l.set a (o_I t m (upd I i x))) n) := by
  have ha : a < l.length := (List.getElem?_eq_some_iff.mp h).1
  unfold q_sI
  rw [hL_at h]
  show (if t = t ∧ q_in (nI i) m = true then _ else none) = _
  rw [if_pos ⟨rfl, q_in_nI hi (by omega)⟩, hL_s _ ha, nI_clamp (by omega), idS]
  rfl
def I0 (k : Nat) : Nat → Int32 := fun i => if 12 ≤ i ∧ i < 12 + 4 * k ∧ (i - 12) % 4 = 0 then -1 else 0
theorem up_I0 (k : Nat) : upd (I0 k) (12 + 4 * k) (-1) = I0 (k + 1) := by
  funext i
  by_cases e : i = 12 + 4 * k
  · subst e
    rw [pk_us]
    unfold I0
    rw [if_pos (by omega)]
  · rw [pk_un e]
    unfold I0
    by_cases h : 12 ≤ i ∧ i < 12 + 4 * k ∧ (i - 12) % 4 = 0
    · rw [if_pos h, if_pos (by omega)]
    · rw [if_neg h, if_neg (by omega)]
theorem I0_0 : I0 0 = fun _ => 0 := by
  funext i
  exact if_neg (by omega)
theorem get_a3 {α : Type} (p : List α) (x y z u : α) (r : List α) : (p ++ x :: y :: z :: u :: r)[p.length + 3]? = some u := by simp
theorem set_a3 {α : Type} (p : List α) (x y z u v : α) (r : List α) : (p ++ x :: y :: z :: u :: r).set (p.length + 3) v = p ++ x :: y :: z :: v :: r := by simp
def cR0 (a : Nat) : List Value := [.int 0, .int 0, .ref (a + 1), .ref (a + 2), .int 0, .int 0, .int 0, .ref (a + 3), .ref (a + 4), .int 0, .ref (a + 5), .ref (a + 6), .int 0, .int 0, .int 0, .ref (a + 7), .ref (a + 8), .ref (a + 9), .ref (a + 10), .ref (a + 11), .ref (a + 12), .ref (a + 13), .ref (a + 14), .ref (a + 15), .int 0, .ref (a + 16)]
def cRr : List va_E := [o_I 0 200 (fun _ => 0), o_I 2 40 (fun _ => 0), o_I 0 5824 (fun _ => 0), o_I 0 80 (fun _ => 0), o_I 0 80 (fun _ => 0), o_I 0 80 (fun _ => 0), o_I 0 80 (fun _ => 0), o_I 0 80 (fun _ => 0), o_I 0 80 (fun _ => 0), o_I 0 80 (fun _ => 0), o_I 0 49 (fun _ => 0), o_I 0 49 (fun _ => 0), o_I 2 2 (fun _ => 0)]
def cRef (a k : Nat) : List va_E := .inr (9, cR0 a) :: o_L 96 (fun _ => 0) :: o_I 0 80 (fun _ => 0) :: o_I 0 2832 (I0 k) :: cRr
theorem k_143 (p : List va_E) (n : Nat × Nat) (k136 : q_H → Nat → Int32 → Option (q_H × Unit)) {c : Nat} (hc : c < 3) : ∀ d j fuel, j + d = 14 → d < fuel → l_X10_init_143 k136 fuel (hL (p ++ cRef p.length (14 * c + j)) n) p.length (nI c) (nI j) = k136 (hL (p ++ cRef p.length (14 * (c + 1))) n) p.length (nI (c + 1)) := by
  intro d
  induction d with
  | zero =>
    intro j fuel hj hf
    obtain ⟨f, rfl⟩ : ∃ f, fuel = f + 1 := ⟨fuel - 1, by omega⟩
    obtain rfl : j = 14 := by omega
    show b_X10_init_143 _ _ _ _ _ _ = _
    unfold b_X10_init_143
    rw [if_pos (by rw [show (14 : Int32) = nI 14 from rfl, i_le (by omega) (by omega)]; omega), nI_1]
    rfl
  | succ d ih =>
    intro j fuel hj hf
    obtain ⟨f, rfl⟩ : ∃ f, fuel = f + 1 := ⟨fuel - 1, by omega⟩
    have := ih (j + 1) f (by omega) (by omega)
    show b_X10_init_143 _ _ _ _ _ _ = _
    unfold b_X10_init_143
    have g7 : q_gR 9 7 (hL (p ++ cRef p.length (14 * c + j)) n) p.length = some (p.length + 3) := hL_gR (ci := 9) (k := 7) (fs := cR0 p.length) (get_at _ _ _) rfl
    have hs : q_sI 0 id (hL (p ++ cRef p.length (14 * c + j)) n) (p.length + 3) (nI (12 + 4 * (14 * c + j))) (-1) = some (hL (p ++ cRef p.length (14 * c + (j + 1))) n) := by
      unfold cRef
      rw [hL_sI (get_a3 _ _ _ _ _ _) (by omega) (by omega), set_a3, up_I0]
      rfl
    rw [if_neg (by rw [show (14 : Int32) = nI 14 from rfl, i_le (by omega) (by omega)]; omega), g7, bS, r_baseOf, bS]
    dsimp only
    rw [hs, bS, nI_1]
    exact this
theorem k_136 (p : List va_E) (n : Nat × Nat) : ∀ d c fuel, c + d = 3 → d < fuel → l_X10_init_136 fuel (hL (p ++ cRef p.length (14 * c)) n) p.length (nI c) = some (hL (p ++ cRef p.length 42) n, ()) := by
  intro d
  induction d with
  | zero =>
    intro c fuel hc hf
    obtain ⟨f, rfl⟩ : ∃ f, fuel = f + 1 := ⟨fuel - 1, by omega⟩
    obtain rfl : c = 3 := by omega
    show b_X10_init_136 _ _ _ _ = _
    unfold b_X10_init_136
    rw [if_pos (by rw [show (3 : Int32) = nI 3 from rfl, i_le (by omega) (by omega)]; omega)]
  | succ d ih =>
    intro c fuel hc hf
    obtain ⟨f, rfl⟩ : ∃ f, fuel = f + 1 := ⟨fuel - 1, by omega⟩
    show b_X10_init_136 _ _ _ _ = _
    unfold b_X10_init_136
    rw [if_neg (by rw [show (3 : Int32) = nI 3 from rfl, i_le (by omega) (by omega)]; omega)]
    have := k_143 p n (l_X10_init_136 f) (show c < 3 by omega) 14 0 q_FU (by omega) (q_FU_lt (by omega))
    refine Eq.trans this ?_
    exact ih (c + 1) f (by omega) (by omega)
theorem k_136z (p : List va_E) (n : Nat × Nat) : l_X10_init_136 q_FU (hL (p ++ .inr (9, cR0 p.length) :: o_L 96 (fun _ => 0) :: o_I 0 80 (fun _ => 0) :: o_I 0 2832 (fun _ => 0) :: cRr) n) p.length 0 = some (hL (p ++ cRef p.length 42) n, ()) := by
  have := k_136 p n 3 0 q_FU (by omega) (q_FU_lt (by omega))
  rw [show 14 * 0 = 0 from rfl, show cRef p.length 0 = .inr (9, cR0 p.length) :: o_L 96 (fun _ => 0) :: o_I 0 80 (fun _ => 0) :: o_I 0 2832 (I0 0) :: cRr from rfl, I0_0] at this
  exact this
theorem k_ref (p : List va_E) (n : Nat × Nat) : ∃ n', f_X10_init (hL (p ++ [.inr (9, [.int 0, .int 0, .null, .null, .int 0, .int 0, .int 0, .null, .null, .int 0, .null, .null, .int 0, .int 0, .int 0, .null, .null, .null, .null, .null, .null, .null, .null, .null, .int 0, .null])]) n) p.length = some (hL (p ++ cRef p.length 42) n', ()) ∧ n'.1 ≤ n.1 + 16 ∧ n'.2 ≤ n.2 + 9732 := by
  unfold f_X10_init b_X10_init_0
  rw [hL_nL _ _ (show (96 : Int32) = nI 96 from rfl) (by omega), bS]
  dsimp only
  rw [asc, hL_pp (by show 2 < 26; omega), bS, hL_nI _ _ _ (show (80 : Int32) = nI 80 from rfl) (by omega), bS]
  dsimp only
  rw [asc, hL_pp (by simp), bS, hL_nI _ _ _ (show (2832 : Int32) = nI 2832 from rfl) (by omega), bS]
  dsimp only
  rw [asc, hL_pp (by simp), bS, hL_nI _ _ _ (show (200 : Int32) = nI 200 from rfl) (by omega), bS]
  dsimp only
  rw [asc, hL_pp (by simp), bS, hL_nI _ _ _ (show (40 : Int32) = nI 40 from rfl) (by omega), bS]
  dsimp only
  rw [asc, hL_pp (by simp), bS, hL_nI _ _ _ (show (5824 : Int32) = nI 5824 from rfl) (by omega), bS]
  dsimp only
  rw [asc, hL_pp (by simp), bS, hL_nI _ _ _ (show (80 : Int32) = nI 80 from rfl) (by omega), bS]
  dsimp only
  rw [asc, hL_pp (by simp), bS, hL_nI _ _ _ (show (80 : Int32) = nI 80 from rfl) (by omega), bS]
  dsimp only
  rw [asc, hL_pp (by simp), bS, hL_nI _ _ _ (show (80 : Int32) = nI 80 from rfl) (by omega), bS]
  dsimp only
  rw [asc, hL_pp (by simp), bS, hL_nI _ _ _ (show (80 : Int32) = nI 80 from rfl) (by omega), bS]
  dsimp only
  rw [asc, hL_pp (by simp), bS, hL_nI _ _ _ (show (80 : Int32) = nI 80 from rfl) (by omega), bS]
  dsimp only
  rw [asc, hL_pp (by simp), bS, hL_nI _ _ _ (show (80 : Int32) = nI 80 from rfl) (by omega), bS]
  dsimp only
  rw [asc, hL_pp (by simp), bS, hL_nI _ _ _ (show (80 : Int32) = nI 80 from rfl) (by omega), bS]
  dsimp only
  rw [asc, hL_pp (by simp), bS, hL_nI _ _ _ (show (49 : Int32) = nI 49 from rfl) (by omega), bS]
  dsimp only
  rw [asc, hL_pp (by simp), bS, hL_nI _ _ _ (show (49 : Int32) = nI 49 from rfl) (by omega), bS]
  dsimp only
  rw [asc, hL_pp (by simp), bS, hL_nI _ _ _ (show (2 : Int32) = nI 2 from rfl) (by omega), bS]
  dsimp only
  rw [asc, hL_pp (by simp), bS]
  simp only [List.length_append, List.length_cons, List.length_nil]
  refine ⟨_, k_136z p _, ?_, ?_⟩
  · dsimp only
    omega
  · dsimp only
    omega
