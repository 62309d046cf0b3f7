/-! THE WORST AND THE BEST ORDER OF LETTERS -/
def r0 (w : Nat → Nat → Nat) : Nat → Nat
  | 0 => 0
  | j + 1 => r0 w j + w j 0
def rS (f : Nat → Nat → Nat) (u w : Nat → Nat → Nat) (prev : Nat → Nat) (i : Nat) : Nat → Nat
  | 0 => prev 0 + u i 0
  | j + 1 => f (prev (j + 1) + u i (j + 1)) (rS f u w prev i j + w j (i + 1))
def dp (f : Nat → Nat → Nat) (u w : Nat → Nat → Nat) : Nat → Nat → Nat
  | 0 => r0 w
  | i + 1 => rS f u w (dp f u w i) i
theorem dp_sym {f : Nat → Nat → Nat} (hf : ∀ a b, f a b = f b a) (u w : Nat → Nat → Nat) : ∀ i j, dp f u w i j = dp f w u j i := by
  intro i
  induction i with
  | zero =>
    intro j
    induction j with
    | zero => rfl
    | succ j ih =>
      show dp f u w 0 j + w j 0 = dp f w u j 0 + w j 0
      rw [ih]
  | succ i ih =>
    intro j
    induction j with
    | zero =>
      show dp f u w i 0 + u i 0 = dp f w u 0 i + u i 0
      rw [ih]
    | succ j ihj =>
      show f (dp f u w i (j + 1) + u i (j + 1)) (dp f u w (i + 1) j + w j (i + 1)) = f (dp f w u j (i + 1) + w j (i + 1)) (dp f w u (j + 1) i + u i (j + 1))
      rw [ih (j + 1), ihj, hf]
theorem dp_le {f : Nat → Nat → Nat} (hf : ∀ a b, f a b ≤ max a b) {u w : Nat → Nat → Nat} (hu : ∀ i j, u i j ≤ 32) (hw : ∀ i j, w i j ≤ 32) : ∀ i j, dp f u w i j ≤ 32 * (i + j) := by
  intro i
  induction i with
  | zero =>
    intro j
    induction j with
    | zero => exact Nat.le_refl _
    | succ j ih =>
      have h1 := hw j 0
      show dp f u w 0 j + w j 0 ≤ _
      omega
  | succ i ih =>
    intro j
    induction j with
    | zero =>
      have h1 := hu i 0
      have h2 := ih 0
      show dp f u w i 0 + u i 0 ≤ _
      omega
    | succ j ihj =>
      have h1 := hu i (j + 1)
      have h2 := ih (j + 1)
      have h3 := hw j (i + 1)
      have h4 := hf (dp f u w i (j + 1) + u i (j + 1)) (dp f u w (i + 1) j + w j (i + 1))
      show f (dp f u w i (j + 1) + u i (j + 1)) (dp f u w (i + 1) j + w j (i + 1)) ≤ _
      omega
theorem min_le' (a b : Nat) : min a b ≤ max a b := by omega
theorem max_le' (a b : Nat) : max a b ≤ max a b := Nat.le_refl _
/-- what a letter undoes in a log behind the first j of another way -/
def uf (l : List Nat) (x : Nat) (Y : List Nat) (j : Nat) : Nat := if mHm x then l.countP (mLs x) + (Y.take j).countP (fun k => mLs x k && mHm k) else 0
theorem uf_le {l : List Nat} (hl : l.length ≤ 20) (x : Nat) {Y : List Nat} (hY : Y.length ≤ 6) (j : Nat) : uf l x Y j ≤ 32 := by
  unfold uf
  split
  · have h1 := List.countP_le_length (p := mLs x) (l := l)
    have h2 := List.countP_le_length (p := fun k => mLs x k && mHm k) (l := Y.take j)
    rw [List.length_take] at h2
    omega
  · omega
theorem at_cnt (P : Nat → Bool) (k i : Nat) (l : List Nat) : (mAt k i l).countP P = l.countP P + (if P k then 1 else 0) := by
  unfold mAt
  have h : l.countP P = (l.take i).countP P + (l.drop i).countP P := by
    rw [← List.countP_append, List.take_append_drop]
  rw [List.countP_append, List.countP_cons, h]
  omega
theorem put_cnt (P : Nat → Bool) (k : Nat) (l : List Nat) : (mPut k l).countP P = l.countP P + (if P k && mHm k then 1 else 0) := by
  unfold mPut
  cases e : mHm k
  · simp
  · rw [if_pos rfl, at_cnt]; simp
theorem putA_cnt (P : Nat → Bool) : ∀ (ys l : List Nat), (mPutA ys l).countP P = l.countP P + ys.countP (fun k => P k && mHm k) := by
  intro ys
  induction ys with
  | nil => intro l; rfl
  | cons k ys ih =>
    intro l
    show (mPutA ys (mPut k l)).countP P = _
    rw [ih, put_cnt, List.countP_cons]
    omega
section DP
variable {T : Nat} {W : aW}
/-- of letters of one way an earlier one has no greater stamp -/
theorem V.own (hV : V T W) {f t : Nat} (hf : f < 3) (ht : t < 3) {i k : Nat} (hk : (wY W (3 * f + t))[i]? = some k) : ((wY W (3 * f + t)).take i).countP (fun y => mLs k y && mHm y) = 0 := by
  obtain ⟨-, -, h3, h4⟩ := hV.2.2.2.2.1 f t hf ht
  have hi : i < (wY W (3 * f + t)).length := (List.getElem?_eq_some_iff.mp hk).1
  have hke : (wY W (3 * f + t))[i] = k := (List.getElem?_eq_some_iff.mp hk).2
  apply List.countP_eq_zero.mpr
  intro y hy
  obtain ⟨m, hm, rfl⟩ := List.getElem_of_mem hy
  rw [List.length_take] at hm
  rw [List.getElem_take]
  have hle := List.pairwise_iff_getElem.mp h3 m i (by omega) hi (by omega)
  rw [hke] at hle
  have c1 := (h4 _ (List.getElem_mem (show m < (wY W (3 * f + t)).length by omega))).1.2.1
  have c2 := (h4 k (by rw [← hke]; exact List.getElem_mem hi)).1.2.1
  have : mLs k (wY W (3 * f + t))[m] = false := by
    unfold mLs
    apply decide_eq_false
    intro q
    have := (mLs_e k (wY W (3 * f + t))[m]).mpr q
    omega
  rw [this]
  simp
theorem V.cmpY (hV : V T W) {f t f' t' : Nat} (hf : f < 3) (ht : t < 3) (hf' : f' < 3) (ht' : t' < 3) {k : Nat} (hk : k ∈ wY W (3 * f + t)) (hm : mHm k = true) : ∀ y ∈ wY W (3 * f' + t'), mHm y = true → mLs k y = decide (k < y) := by
  obtain ⟨M, hM1, hM2⟩ := hV.sm
  intro y hy hmy
  have h1 := (hM2 f t hf ht k hk hm).1
  have h2 := (hM2 f' t' hf' ht' y hy hmy).1
  exact ls_of h1 (fun e => by rw [e]; exact h2)
section DPX
variable {S : o_S} {n : Nat × Nat × Nat} {A : aS}
theorem x_undoneBy (h : OKA T A) (H : CR S A) {c f f' : Nat} (hc : c < 3) (hf : f < 3) (hf' : f' < 3) {x j : Nat} (hx : x ∈ wY (sW A) (3 * f + c)) (hj : j < 100) : f_X3_undoneBy (ov S n) (lN x) (4 + 8 * c + 2) (28 + 2 * (3 * f' + c)) (nI j) = some (ov S n, nI (uf (wL (sW A) c) x (wY (sW A) (3 * f' + c)) j)) := by
  have hxb := (h.1.yb hc hf hx).1
  have hl := (h.1.2.2.1 c hc).1
  unfold f_X3_undoneBy b_X3_undoneBy_0 uf
  rw [c_hasM _ hxb, bS]
  simp only [b2i_eq0]
  cases e : mHm x
  · rw [if_pos rfl]; rfl
  · rw [if_neg (by decide), s_gI (H.lg hc), bS, s_countLaterK (H.lg hc) hxb (by omega), bS, s_countLaterK (H.wy (i := 3 * f' + c) (by omega)) hxb (by omega), bS, nI_add, List.take_length, if_pos rfl]
    congr 3
    · congr 1
      · apply List.countP_congr
        intro y hy
        have h1 := h.1.lsY hc hf hc hx e y hy
        have h2 := ok_hm ((h.1.2.2.1 c hc).2.2 y hy).1
        rw [h1, h2]
        simp
      · apply List.countP_congr
        intro y hy
        cases q : mHm y
        · simp
        · rw [h.1.cmpY hf hc hf' hc hx e y (List.mem_of_mem_take hy) q]
end DPX
end DP
