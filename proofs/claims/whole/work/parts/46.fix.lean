/-! numbers once more, and the fixed addresses of the class and of the reference -/
theorem j2 : (2 : Int32) = nI 2 := Eq.trans rfl rfl
theorem j3 : (3 : Int32) = nI 3 := Eq.trans rfl rfl
theorem j4 : (4 : Int32) = nI 4 := Eq.trans rfl rfl
theorem j5 : (5 : Int32) = nI 5 := Eq.trans rfl rfl
theorem j6 : (6 : Int32) = nI 6 := Eq.trans rfl rfl
theorem j7 : (7 : Int32) = nI 7 := Eq.trans rfl rfl
theorem j8 : (8 : Int32) = nI 8 := Eq.trans rfl rfl
theorem j9 : (9 : Int32) = nI 9 := Eq.trans rfl rfl
theorem j10 : (10 : Int32) = nI 10 := Eq.trans rfl rfl
theorem j12 : (12 : Int32) = nI 12 := Eq.trans rfl rfl
theorem j14 : (14 : Int32) = nI 14 := Eq.trans rfl rfl
theorem j20 : (20 : Int32) = nI 20 := Eq.trans rfl rfl
theorem j40 : (40 : Int32) = nI 40 := Eq.trans rfl rfl
theorem j48 : (48 : Int32) = nI 48 := Eq.trans rfl rfl
theorem j49 : (49 : Int32) = nI 49 := Eq.trans rfl rfl
theorem j56 : (56 : Int32) = nI 56 := Eq.trans rfl rfl
theorem j80 : (80 : Int32) = nI 80 := Eq.trans rfl rfl
theorem j96 : (96 : Int32) = nI 96 := Eq.trans rfl rfl
theorem j180 : (180 : Int32) = nI 180 := Eq.trans rfl rfl
theorem j183 : (183 : Int32) = nI 183 := Eq.trans rfl rfl
theorem j483 : (483 : Int32) = nI 483 := Eq.trans rfl rfl
theorem j492 : (492 : Int32) = nI 492 := Eq.trans rfl rfl
theorem j708 : (708 : Int32) = nI 708 := Eq.trans rfl rfl
theorem j2401 : (2401 : Int32) = nI 2401 := Eq.trans rfl rfl
theorem j1000000 : (1000000 : Int32) = nI 1000000 := Eq.trans rfl rfl
theorem i_lt0 {a : Nat} (ha : a < 2 ^ 31) : (nI a < 0) = False := eq_false (nI_pos ha)
theorem i_0le {a : Nat} (ha : a < 2 ^ 31) : (0 ≤ nI a) = True := eq_true (nI_pos' ha)
theorem i_le0 {a : Nat} (ha : a < 2 ^ 31) : (nI a ≤ 0) = (a = 0) := by
  have e := i_le ha (show 0 < 2 ^ 31 by decide)
  exact e.trans (propext ⟨fun h => by omega, fun h => by omega⟩)
theorem i_eq0 {a : Nat} (ha : a < 2 ^ 31) : (nI a = 0) = (a = 0) := i_eq ha (show 0 < 2 ^ 31 by decide)
theorem i_0lt {a : Nat} (ha : a < 2 ^ 31) : (0 < nI a) = (0 < a) := i_lt (show 0 < 2 ^ 31 by decide) ha
theorem i_eq1 {a : Nat} (ha : a < 2 ^ 31) : (nI a = 1) = (a = 1) := i_eq ha (show 1 < 2 ^ 31 by decide)
theorem i_eqm1 {a : Nat} (ha : a < 2 ^ 31) : (nI a = -1) = False := eq_false (fun e => by
  have := nI_toInt ha
  rw [e] at this
  have h1 : (-1 : Int32).toInt = -1 := by decide
  omega)
theorem i_sub1 {a : Nat} (h : 1 ≤ a) : nI a - 1 = nI (a - 1) := pk_sub (b := 1) h
theorem i_addm1 {a : Nat} (h : 1 ≤ a) : nI a + (-1) = nI (a - 1) := by
  obtain ⟨b, rfl⟩ : ∃ b, a = b + 1 := ⟨a - 1, by omega⟩
  rw [pk_m1, Nat.add_sub_cancel]
theorem i_add0 (a : Nat) : nI a + 0 = nI a := nI_add a 0
theorem b2i_1 (b : Bool) : (b2i b = 1) = (b = true) := propext (by cases b <;> decide)
theorem i_or0 (a : Nat) : nI a ||| 0 = nI a := by
  apply Int32.toBitVec_inj.mp
  rw [Int32.toBitVec_or]
  exact BitVec.or_zero
/-- a place is another -/
def fset {α : Type} (f : Nat → α) (c : Nat) (v : α) : Nat → α := fun x => if x = c then v else f x
theorem fset_s {α : Type} (f : Nat → α) (c : Nat) (v : α) : fset f c v c = v := if_pos rfl
theorem fset_n {α : Type} (f : Nat → α) {c x : Nat} (v : α) (h : x ≠ c) : fset f c v x = f x := if_neg h
theorem i_copy {x : Int32} (h0 : 0 ≤ x) {m : Nat} (hm : m < 2 ^ 31) (h : x < nI m) : ∃ c, c < m ∧ x = nI c := by
  obtain ⟨j, hj, rfl⟩ := nI_of (Int32.not_lt.mpr h0)
  rw [i_lt hj hm] at h
  exact ⟨j, h, rfl⟩
/-! contents -/
theorem s_I (S : o_S) (a b : Nat) (I : Nat → Int32) : (o_sI S a I).2.1 b = if b = a then I else S.2.1 b := Eq.trans rfl rfl
theorem s_I1 (S : o_S) (a : Nat) (I : Nat → Int32) : (o_sI S a I).1 = S.1 := Eq.trans rfl rfl
theorem s_I2 (S : o_S) (a : Nat) (I : Nat → Int32) : (o_sI S a I).2.2 = S.2.2 := Eq.trans rfl rfl
theorem s_F (S : o_S) (a k b : Nat) (v : Int32) : (o_sf S a k v).1 b = if b = a then upd (S.1 a) k v else S.1 b := Eq.trans rfl rfl
theorem s_F2 (S : o_S) (a k : Nat) (v : Int32) : (o_sf S a k v).2 = S.2 := Eq.trans rfl rfl
theorem s_L (S : o_S) (a b : Nat) (L : Nat → Int64) : (o_sL S a L).2.2 b = if b = a then L else S.2.2 b := Eq.trans rfl rfl
theorem s_L1 (S : o_S) (a : Nat) (L : Nat → Int64) : (o_sL S a L).1 = S.1 := Eq.trans rfl rfl
theorem s_L2 (S : o_S) (a : Nat) (L : Nat → Int64) : (o_sL S a L).2.1 = S.2.1 := Eq.trans rfl rfl
theorem s_same (S : o_S) (a : Nat) (I : Nat → Int32) (h : ∀ j, I j = S.2.1 a j) : o_sI S a I = S := by
  have : I = S.2.1 a := funext h
  subst this
  refine Prod.ext rfl (Prod.ext (funext fun b => ?_) rfl)
  show (if b = a then S.2.1 a else S.2.1 b) = S.2.1 b
  split
  · rename_i e; rw [e]
  · rfl
theorem s_twice (S : o_S) (a : Nat) (I J : Nat → Int32) : o_sI (o_sI S a I) a J = o_sI S a J := by
  refine Prod.ext rfl (Prod.ext (funext fun b => ?_) rfl)
  show (if b = a then J else if b = a then I else S.2.1 b) = if b = a then J else S.2.1 b
  split <;> rfl
theorem bS {α β : Type} (a : α) (f : α → Option β) : Option.bind (some a) f = f a := Eq.trans rfl rfl
theorem idS {α : Type} (a : α) : id a = a := Eq.trans rfl rfl
section RF
variable {S : o_S} {n : Nat × Nat × Nat}
theorem r_chk {β : Type} {r : Option β} : q_chk 9 (ov S n) 296 r = r := Eq.trans rfl rfl
theorem x_chk {β : Type} {r : Option β} : q_chk 8 (ov S n) 0 r = r := Eq.trans rfl rfl
theorem rR2 : q_gR 9 2 (ov S n) 296 = some 297 := Eq.trans rfl rfl
theorem rR3 : q_gR 9 3 (ov S n) 296 = some 298 := Eq.trans rfl rfl
theorem rR7 : q_gR 9 7 (ov S n) 296 = some 299 := Eq.trans rfl rfl
theorem rR8 : q_gR 9 8 (ov S n) 296 = some 300 := Eq.trans rfl rfl
theorem rR10 : q_gR 9 10 (ov S n) 296 = some 301 := Eq.trans rfl rfl
theorem rR11 : q_gR 9 11 (ov S n) 296 = some 302 := Eq.trans rfl rfl
theorem rR15 : q_gR 9 15 (ov S n) 296 = some 303 := Eq.trans rfl rfl
theorem rR16 : q_gR 9 16 (ov S n) 296 = some 304 := Eq.trans rfl rfl
theorem rR17 : q_gR 9 17 (ov S n) 296 = some 305 := Eq.trans rfl rfl
theorem rR18 : q_gR 9 18 (ov S n) 296 = some 306 := Eq.trans rfl rfl
theorem rR19 : q_gR 9 19 (ov S n) 296 = some 307 := Eq.trans rfl rfl
theorem rR20 : q_gR 9 20 (ov S n) 296 = some 308 := Eq.trans rfl rfl
theorem rR21 : q_gR 9 21 (ov S n) 296 = some 309 := Eq.trans rfl rfl
theorem rR22 : q_gR 9 22 (ov S n) 296 = some 310 := Eq.trans rfl rfl
theorem rR23 : q_gR 9 23 (ov S n) 296 = some 311 := Eq.trans rfl rfl
theorem rR25 : q_gR 9 25 (ov S n) 296 = some 312 := Eq.trans rfl rfl
theorem rI0 : q_gI 9 0 (ov S n) 296 = some (S.1 296 0) := Eq.trans rfl rfl
theorem rI1 : q_gI 9 1 (ov S n) 296 = some (S.1 296 1) := Eq.trans rfl rfl
theorem rI4 : q_gI 9 4 (ov S n) 296 = some (S.1 296 4) := Eq.trans rfl rfl
theorem rI5 : q_gI 9 5 (ov S n) 296 = some (S.1 296 5) := Eq.trans rfl rfl
theorem rI6 : q_gI 9 6 (ov S n) 296 = some (S.1 296 6) := Eq.trans rfl rfl
theorem rI9 : q_gI 9 9 (ov S n) 296 = some (S.1 296 9) := Eq.trans rfl rfl
theorem rI12 : q_gI 9 12 (ov S n) 296 = some (S.1 296 12) := Eq.trans rfl rfl
theorem rI13 : q_gI 9 13 (ov S n) 296 = some (S.1 296 13) := Eq.trans rfl rfl
theorem rI14 : q_gI 9 14 (ov S n) 296 = some (S.1 296 14) := Eq.trans rfl rfl
theorem rI24 : q_gI 9 24 (ov S n) 296 = some (S.1 296 24) := Eq.trans rfl rfl
def r_fs : (Nat → Int32) → List Value := fun (f : Nat → Int32) => [.int (f 0), .int (f 1), .ref 297, .ref 298, .int (f 4), .int (f 5), .int (f 6), .ref 299, .ref 300, .int (f 9), .ref 301, .ref 302, .int (f 12), .int (f 13), .int (f 14), .ref 303, .ref 304, .ref 305, .ref 306, .ref 307, .ref 308, .ref 309, .ref 310, .ref 311, .int (f 24), .ref 312]
theorem r_at : ∀ f I L, o_t 296 f I L = .inr (9, r_fs f) := fun _ _ _ => rfl
theorem rP0 (v : Int32) : q_p 9 0 (ov S n) 296 (.int v) = some (ov (o_sf S 296 0 v) n) := o_pI r_at (by show 0 < 26; omega) rfl
theorem rP1 (v : Int32) : q_p 9 1 (ov S n) 296 (.int v) = some (ov (o_sf S 296 1 v) n) := o_pI r_at (by show 1 < 26; omega) rfl
theorem rP4 (v : Int32) : q_p 9 4 (ov S n) 296 (.int v) = some (ov (o_sf S 296 4 v) n) := o_pI r_at (by show 4 < 26; omega) rfl
theorem rP5 (v : Int32) : q_p 9 5 (ov S n) 296 (.int v) = some (ov (o_sf S 296 5 v) n) := o_pI r_at (by show 5 < 26; omega) rfl
theorem rP6 (v : Int32) : q_p 9 6 (ov S n) 296 (.int v) = some (ov (o_sf S 296 6 v) n) := o_pI r_at (by show 6 < 26; omega) rfl
theorem rP9 (v : Int32) : q_p 9 9 (ov S n) 296 (.int v) = some (ov (o_sf S 296 9 v) n) := o_pI r_at (by show 9 < 26; omega) rfl
theorem rP12 (v : Int32) : q_p 9 12 (ov S n) 296 (.int v) = some (ov (o_sf S 296 12 v) n) := o_pI r_at (by show 12 < 26; omega) rfl
theorem rP13 (v : Int32) : q_p 9 13 (ov S n) 296 (.int v) = some (ov (o_sf S 296 13 v) n) := o_pI r_at (by show 13 < 26; omega) rfl
theorem rP14 (v : Int32) : q_p 9 14 (ov S n) 296 (.int v) = some (ov (o_sf S 296 14 v) n) := o_pI r_at (by show 14 < 26; omega) rfl
theorem rP24 (v : Int32) : q_p 9 24 (ov S n) 296 (.int v) = some (ov (o_sf S 296 24 v) n) := o_pI r_at (by show 24 < 26; omega) rfl
theorem xR0 : q_gR 8 0 (ov S n) 0 = some 1 := Eq.trans rfl rfl
theorem xR1 : q_gR 8 1 (ov S n) 0 = some 46 := Eq.trans rfl rfl
theorem xR2 : q_gR 8 2 (ov S n) 0 = some 91 := Eq.trans rfl rfl
theorem xR3 : q_gR 8 3 (ov S n) 0 = some 92 := Eq.trans rfl rfl
theorem xR4 : q_gR 8 4 (ov S n) 0 = some 93 := Eq.trans rfl rfl
theorem xR5 : q_gR 8 5 (ov S n) 0 = some 95 := Eq.trans rfl rfl
theorem xR6 : q_gR 8 6 (ov S n) 0 = some 97 := Eq.trans rfl rfl
theorem xR7 : q_gR 8 7 (ov S n) 0 = some 99 := Eq.trans rfl rfl
theorem xR8 : q_gR 8 8 (ov S n) 0 = some 102 := Eq.trans rfl rfl
theorem r_mem {j : Nat} (h : j < 2832) : q_lI 0 (ov S n) 299 (nI j) = some (S.2.1 299 j) := by
  rw [o_lI (t := 0) (m := 2832) (fun _ _ _ => rfl), if_pos (q_in_nI h (by omega)), nI_clamp (by omega)]
theorem r_memS {j : Nat} (h : j < 2832) (x : Int32) : q_sI 0 id (ov S n) 299 (nI j) x = some (ov (o_sI S 299 (upd (S.2.1 299) j (id x))) n) := by
  rw [o_stI (t := 0) (m := 2832) (fun _ _ _ => rfl), if_pos (q_in_nI h (by omega)), nI_clamp (by omega)]
theorem r_lst {j : Nat} (h : j < 200) : q_lI 0 (ov S n) 300 (nI j) = some (S.2.1 300 j) := by
  rw [o_lI (t := 0) (m := 200) (fun _ _ _ => rfl), if_pos (q_in_nI h (by omega)), nI_clamp (by omega)]
theorem r_lstS {j : Nat} (h : j < 200) (x : Int32) : q_sI 0 id (ov S n) 300 (nI j) x = some (ov (o_sI S 300 (upd (S.2.1 300) j (id x))) n) := by
  rw [o_stI (t := 0) (m := 200) (fun _ _ _ => rfl), if_pos (q_in_nI h (by omega)), nI_clamp (by omega)]
theorem r_tre {j : Nat} (h : j < 5824) : q_lI 0 (ov S n) 302 (nI j) = some (S.2.1 302 j) := by
  rw [o_lI (t := 0) (m := 5824) (fun _ _ _ => rfl), if_pos (q_in_nI h (by omega)), nI_clamp (by omega)]
theorem r_treS {j : Nat} (h : j < 5824) (x : Int32) : q_sI 0 id (ov S n) 302 (nI j) x = some (ov (o_sI S 302 (upd (S.2.1 302) j (id x))) n) := by
  rw [o_stI (t := 0) (m := 5824) (fun _ _ _ => rfl), if_pos (q_in_nI h (by omega)), nI_clamp (by omega)]
theorem r_voi {j : Nat} (h : j < 40) : q_lI 2 (ov S n) 301 (nI j) = some (S.2.1 301 j) := by
  rw [o_lI (t := 2) (m := 40) (fun _ _ _ => rfl), if_pos (q_in_nI h (by omega)), nI_clamp (by omega)]
theorem r_voiS {j : Nat} (h : j < 40) (x : Int32) : q_sI 2 (vp_nar .boolean) (ov S n) 301 (nI j) x = some (ov (o_sI S 301 (upd (S.2.1 301) j ((vp_nar .boolean) x))) n) := by
  rw [o_stI (t := 2) (m := 40) (fun _ _ _ => rfl), if_pos (q_in_nI h (by omega)), nI_clamp (by omega)]
theorem nar_b (b : Bool) : vp_nar .boolean (b2i b) = b2i b := by cases b <;> decide
theorem nar_1 : vp_nar .boolean 1 = 1 := by decide
theorem nar_0 : vp_nar .boolean 0 = 0 := by decide
end RF
/-- a loop that copies within int arrays -/
theorem cp_fw (sa da s d : Nat) : ∀ (N : Nat) (S : o_S) (j : Nat), (sa ≠ da ∨ d ≤ s ∨ s + (j + N) ≤ d) → fw (fun k S => o_sI S da (upd (S.2.1 da) (d + k) (S.2.1 sa (s + k)))) S j N = o_sI S da (va_cpy (S.2.1 sa) (S.2.1 da) (s + j) (d + j) N) := by
  intro N
  induction N with
  | zero =>
    intro S j _
    refine (s_same S da _ (fun i => ?_)).symm
    exact pk_cpy_out (by omega)
  | succ N ih =>
    intro S j h
    show fw _ (o_sI S da (upd (S.2.1 da) (d + j) (S.2.1 sa (s + j)))) (j + 1) N = _
    rw [ih _ (j + 1) (by omega), s_twice]
    congr 1
    funext i
    by_cases h1 : i = d + j
    · subst h1
      rw [pk_cpy_out (by omega), pk_cpy_in (by omega) (by omega), s_I, if_pos rfl, pk_us, show s + j + (d + j - (d + j)) = s + j by omega]
    · by_cases h2 : d + j ≤ i ∧ i < d + j + (N + 1)
      · rw [pk_cpy_in (by omega) (by omega), pk_cpy_in h2.1 h2.2, s_I]
        by_cases hs : sa = da
        · rw [if_pos hs, pk_un (by omega), ← hs, show s + (j + 1) + (i - (d + (j + 1))) = s + j + (i - (d + j)) by omega]
        · rw [if_neg hs, show s + (j + 1) + (i - (d + (j + 1))) = s + j + (i - (d + j)) by omega]
      · rw [pk_cpy_out (by omega), pk_cpy_out (by omega), s_I, if_pos rfl, pk_un h1]
