/-! LOOPS AS FOLDS, and the class's Tree in codes -/
def fw {α : Type} (s : Nat → α → α) (a : α) (j : Nat) : Nat → α
  | 0 => a
  | d + 1 => fw s (s j a) (j + 1) d
theorem fw_loop {α ρ : Type} (l : Nat → α → Nat → Option ρ) (s : Nat → α → α) (res : α → ρ) (I : α → Prop) (lo N : Nat) (h0 : ∀ fuel a, I a → l (fuel + 1) a N = some (res a)) (h1 : ∀ fuel a j, I a → lo ≤ j → j < N → I (s j a) ∧ l (fuel + 1) a j = l fuel (s j a) (j + 1)) :
    ∀ d j fuel a, I a → lo ≤ j → j + d = N → d < fuel → l fuel a j = some (res (fw s a j d)) := by
  intro d
  induction d with
  | zero =>
    intro j fuel a hI _ hj hf
    obtain ⟨f, rfl⟩ : ∃ f, fuel = f + 1 := ⟨fuel - 1, by omega⟩
    rw [show j = N by omega]
    exact h0 f a hI
  | succ d ih =>
    intro j fuel a hI hl hj hf
    obtain ⟨f, rfl⟩ : ∃ f, fuel = f + 1 := ⟨fuel - 1, by omega⟩
    obtain ⟨g1, g2⟩ := h1 f a j hI hl (by omega)
    rw [g2]
    exact ih (j + 1) f (s j a) g1 (by omega) (by omega) (by omega)
theorem fw_congr {α : Type} {s s' : Nat → α → α} : ∀ (d j : Nat) (a : α), (∀ i b, j ≤ i → i < j + d → s i b = s' i b) → fw s a j d = fw s' a j d := by
  intro d
  induction d with
  | zero => intro j a _; rfl
  | succ d ih =>
    intro j a h
    show fw s (s j a) (j + 1) d = fw s' (s' j a) (j + 1) d
    rw [h j a (Nat.le_refl _) (by omega)]
    exact ih (j + 1) _ (fun i b h1 h2 => h i b (by omega) (by omega))
/-! numbers -/
theorem i_le {a b : Nat} (ha : a < 2 ^ 31) (hb : b < 2 ^ 31) : (nI a ≤ nI b) = (a ≤ b) := propext (nI_leI ha hb)
theorem i_lt {a b : Nat} (ha : a < 2 ^ 31) (hb : b < 2 ^ 31) : (nI a < nI b) = (a < b) := propext (nI_ltI ha hb)
theorem i_eq {a b : Nat} (ha : a < 2 ^ 31) (hb : b < 2 ^ 31) : (nI a = nI b) = (a = b) := propext (nI_eq ha hb)
theorem i_or (a b : Nat) (ha : a < 2 ^ 32) (hb : b < 2 ^ 32) : nI a ||| nI b = nI (a ||| b) := by
  apply Int32.toBitVec_inj.mp
  apply BitVec.eq_of_toNat_eq
  rw [Int32.toBitVec_or, BitVec.toNat_or, pk_tn ha, pk_tn hb, pk_tn (Nat.or_lt_two_pow ha hb)]
theorem i_bit {j : Nat} (hj : j < 32) : (1 : Int32) <<< (nI j &&& 31) = nI (2 ^ j) := by
  have : ∀ j, j < 32 → (1 : Int32) <<< (nI j &&& 31) = nI (2 ^ j) := by decide +kernel
  exact this j hj
theorem l_cmp {a b : Nat} (ha : a < 2 ^ 31) (hb : b < 2 ^ 31) : (lg_cmp (lN a) (lN b) = 0) = (a = b) := by
  unfold lg_cmp
  have h2 := lN_lt hb ha
  have h3 := lN_eq ha hb
  apply propext
  by_cases e2 : b < a
  · rw [if_pos (h2.mpr e2)]
    exact ⟨fun h => absurd h (by decide), fun h => by omega⟩
  · rw [if_neg (fun q => e2 (h2.mp q))]
    by_cases e : a = b
    · rw [if_pos (h3.mpr e)]
      exact ⟨fun _ => e, fun _ => rfl⟩
    · rw [if_neg (fun q => e (h3.mp q))]
      exact ⟨fun h => absurd h (by decide), fun h => absurd h e⟩
theorem l_cmp_ge {a b : Nat} (ha : a < 2 ^ 31) (hb : b < 2 ^ 31) : (0 ≤ lg_cmp (lN a) (lN b)) = (b ≤ a) := by
  unfold lg_cmp
  have h2 := lN_lt hb ha
  have h3 := lN_eq ha hb
  apply propext
  by_cases e2 : b < a
  · rw [if_pos (h2.mpr e2)]
    exact ⟨fun _ => by omega, fun _ => by decide⟩
  · rw [if_neg (fun q => e2 (h2.mp q))]
    by_cases e : a = b
    · rw [if_pos (h3.mpr e)]
      exact ⟨fun _ => by omega, fun _ => by decide⟩
    · rw [if_neg (fun q => e (h3.mp q))]
      exact ⟨fun h => absurd h (by decide), fun h => by omega⟩
theorem l_cmp0 {a : Nat} (ha : a < 2 ^ 31) : (lg_cmp (lN a) 0 = 0) = (a = 0) := l_cmp ha (show 0 < 2 ^ 31 by decide)
theorem i_and15 {j : Nat} (hj : j < 16) : nI j &&& 15 = nI j := by
  rw [pk_andN (by omega) 4 (by decide), Nat.mod_eq_of_lt hj]
theorem q_FUe : ∃ f, q_FU = f + 100 := ⟨3900, rfl⟩
theorem q_FU_lt {d : Nat} (h : d < 4000) : d < q_FU := h
/-! a tree in codes -/
def TE (S : o_S) (t : Nat) (E : Nat → Nat) : Prop := kTree t ∧ ∀ j, j < 16 → S.2.2 (t + 1) j = lN (E j) ∧ E j < 2 ^ 31
section TR
variable {S : o_S} {n : Nat × Nat × Nat} {t : Nat} {E : Nat → Nat}
theorem t_chk (h : TE S t E) {β : Type} {r : Option β} : q_chk 6 (ov S n) t r = r := o_chk h.1.1
theorem t_get (h : TE S t E) : q_gR 6 0 (ov S n) t = some (t + 1) := o_gR h.1.1 rfl
theorem t_ld (h : TE S t E) {j : Nat} (hj : j < 16) : q_lL (ov S n) (t + 1) (nI j) = some (lN (E j)) := by
  rw [o_lL h.1.2, if_pos (q_in_nI hj (by omega)), nI_clamp (by omega), (h.2 j hj).1]
theorem t_ldm (h : TE S t E) {j : Nat} (hj : j < 16) : q_lL (ov S n) (t + 1) (nI j &&& 15) = some (lN (E j)) := by rw [i_and15 hj, t_ld h hj]
/-- is a node there -/
def mTh (E : Nat → Nat) (j : Nat) : Bool := decide (j < 2) || decide (E j ≠ 0)
theorem t_isThere (h : TE S t E) {j : Nat} (hj : j < 16) : f_X7_isThere (ov S n) t (nI j) = some (ov S n, b2i (mTh E j)) := by
  have hb := (h.2 j hj).2
  unfold f_X7_isThere b_X7_isThere_0
  rw [t_chk h]
  simp only [t_get h, Option.bind_some, t_ldm h hj, show (2 : Int32) = nI 2 from rfl, i_lt (show j < 2 ^ 31 by omega) (show 2 < 2 ^ 31 by omega), l_cmp0 hb]
  by_cases h1 : j < 2
  · simp [h1, mTh, b2i]
  · by_cases h2 : E j = 0 <;> simp [h1, h2, mTh, b2i]
/-- lies right below -/
def mRb (E : Nat → Nat) (p j : Nat) : Bool := decide (E j ≠ 0) && decide (cP (E j) = p)
theorem t_isRightBelow (h : TE S t E) {j p : Nat} (hj : j < 16) (hp : p < 2 ^ 31) : f_X7_isRightBelow (ov S n) t (nI j) (nI p) = some (ov S n, b2i (mRb E p j)) := by
  have hb := (h.2 j hj).2
  have hcp := cP_lt (E j)
  unfold f_X7_isRightBelow b_X7_isRightBelow_0
  rw [t_chk h]
  simp only [t_get h, Option.bind_some, t_ldm h hj, c_parent _ hb, l_cmp0 hb, i_eq (show cP (E j) < 2 ^ 31 by omega) hp]
  by_cases h2 : E j = 0
  · simp [h2, mRb, b2i]
  · by_cases h3 : cP (E j) = p <;> simp [h2, h3, mRb, b2i]
/-- a set by a test: bits -/
def mSt (P : Nat → Bool) (j a : Nat) : Nat := if P j then a ||| 2 ^ j else a
theorem mSt_lt {P : Nat → Bool} {j a : Nat} (hj : j < 32) (ha : a < 2 ^ 32) : mSt P j a < 2 ^ 32 := by
  unfold mSt
  split
  · exact Nat.or_lt_two_pow ha (Nat.pow_lt_pow_right (by omega) hj)
  · exact ha
theorem t_folders (h : TE S t E) : f_X7_folders (ov S n) t = some (ov S n, nI (fw (mSt (fun j => decide (E j ≠ 0))) 0 2 12)) := by
  unfold f_X7_folders b_X7_folders_0
  rw [t_chk h]
  refine fw_loop (fun fuel a j => l_X7_folders_4 fuel (ov S n) t (nI a) (nI j)) (mSt (fun j => decide (E j ≠ 0))) (fun a => (ov S n, nI a)) (fun a => a < 2 ^ 32) 2 14 (fun fuel a _ => rfl) (fun fuel a j ha h1 h2 => ⟨mSt_lt (by omega) ha, ?_⟩) 12 2 q_FU 0 (by omega) (by omega) (by omega) (q_FU_lt (by omega))
  have hb := (h.2 j (by omega)).2
  show b_X7_folders_4 _ _ _ _ _ = _
  unfold b_X7_folders_4 b_X7_folders_27
  simp only [t_get h, Option.bind_some, t_ld h (show j < 16 by omega), l_cmp0 hb, show (14 : Int32) = nI 14 from rfl, i_le (show 14 < 2 ^ 31 by omega) (show j < 2 ^ 31 by omega), show ¬ 14 ≤ j by omega, if_false, nI_1, i_bit (show j < 32 by omega), i_or a (2 ^ j) ha (Nat.pow_lt_pow_right (by omega) (by omega)), mSt]
  by_cases e : E j = 0 <;> simp [e]
end TR
