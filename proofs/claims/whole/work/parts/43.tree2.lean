/-! more of the class's Tree, in codes: walks up, sets, ranks -/
def mUp (E : Nat → Nat) : Nat → Nat → Nat
  | 0, a => a
  | k + 1, a => if a < 2 then a else mUp E k (cP (E a))
def mSu (E : Nat → Nat) : Nat → Nat → Nat
  | 0, _ => 0
  | k + 1, a => if a < 2 then 0 else mSu E k (cP (E a)) + 1
def mWi (E : Nat → Nat) (t : Nat) : Nat → Nat → Bool
  | 0, a => decide (a = t)
  | k + 1, a => if a = t then true else if a < 2 then false else mWi E t k (cP (E a))
def mGo (E : Nat → Nat) (f : Nat) : Nat → Nat → Bool
  | 0, _ => false
  | k + 1, a => if a = f then false else if mTh E a = false then false else if a < 2 then true else mGo E f k (cP (E a))
def mAll (P : Nat → Bool) (j : Nat) : Nat → Bool
  | 0 => true
  | d + 1 => P j && mAll P (j + 1) d
def mFind (P : Nat → Bool) (j : Nat) : Nat → Option Nat
  | 0 => none
  | d + 1 => if P j then some j else mFind P (j + 1) d
/-- rank -/
def mLess (E : Nat → Nat) (f j : Nat) : Bool := mRb E (cP (E f)) j && decide (cN (E j) = cN (E f)) && decide (E j < E f)
def mCnt (P : Nat → Bool) (j r : Nat) : Nat := if P j then r + 1 else r
def mRk (E : Nat → Nat) (f : Nat) : Nat := fw (mCnt (mLess E f)) 0 2 12
def mCh (E : Nat → Nat) (p : Nat) : Nat := fw (mSt (mRb E p)) 0 2 12
def mOt (E D : Nat → Nat) : Nat := fw (mSt (fun j => decide (E j ≠ D j))) 0 2 12
def mAw (E : Nat → Nat) (t : Nat) : Nat := fw (mSt (fun j => decide (E j ≠ 0) && mWi E t 14 j)) (2 ^ t) 2 12
theorem fw_lt {s : Nat → Nat → Nat} {B : Nat} : ∀ (d j a : Nat), (∀ i b, j ≤ i → i < j + d → b < B → s i b < B) → a < B → fw s a j d < B := by
  intro d
  induction d with
  | zero => intro j a _ h; exact h
  | succ d ih => intro j a h ha; exact ih (j + 1) _ (fun i b h1 h2 => h i b (by omega) (by omega)) (h j a (Nat.le_refl _) (by omega) ha)
theorem mSt_lt' {P : Nat → Bool} {j a N : Nat} (hj : j < N) (ha : a < 2 ^ N) : mSt P j a < 2 ^ N := by
  unfold mSt
  split
  · exact Nat.or_lt_two_pow ha (Nat.pow_lt_pow_right (by omega) hj)
  · exact ha
theorem mSet_lt (P : Nat → Bool) {a : Nat} (ha : a < 2 ^ 14) : fw (mSt P) a 2 12 < 2 ^ 14 := fw_lt 12 2 a (fun i b _ h2 hb => mSt_lt' (by omega) hb) ha
theorem mCnt_le {P : Nat → Bool} : ∀ (d j r : Nat), fw (mCnt P) r j d ≤ r + d := by
  intro d
  induction d with
  | zero => intro j r; exact Nat.le_refl _
  | succ d ih =>
    intro j r
    refine Nat.le_trans (ih (j + 1) _) ?_
    unfold mCnt
    split <;> omega
theorem mRk_lt (E : Nat → Nat) (f : Nat) : mRk E f ≤ 12 := by have := mCnt_le (P := mLess E f) 12 2 0; unfold mRk; omega
theorem b2i_eq0 (b : Bool) : (b2i b = 0) = (b = false) := propext b2i_0
section TR2
variable {S : o_S} {n : Nat × Nat × Nat} {t : Nat} {E : Nat → Nat}
theorem t_up (h : TE S t E) : ∀ d fuel i a s, i + d = s → d < fuel → a < 16 → s < 2 ^ 31 → l_X7_up_5 fuel (ov S n) t (nI s) (nI a) (nI i) = some (ov S n, nI (mUp E d a)) := by
  intro d
  induction d with
  | zero =>
    intro fuel i a s hi hf ha hs
    obtain ⟨f, rfl⟩ : ∃ f, fuel = f + 1 := ⟨fuel - 1, by omega⟩
    show b_X7_up_5 _ _ _ _ _ _ = _
    unfold b_X7_up_5
    simp only [i_le hs (show i < 2 ^ 31 by omega), show s ≤ i by omega, if_true, mUp]
  | succ d ih =>
    intro fuel i a s hi hf ha hs
    obtain ⟨f, rfl⟩ : ∃ f, fuel = f + 1 := ⟨fuel - 1, by omega⟩
    have hb := (h.2 a ha).2
    show b_X7_up_5 _ _ _ _ _ _ = _
    unfold b_X7_up_5
    simp only [i_le hs (show i < 2 ^ 31 by omega), show ¬ s ≤ i by omega, if_false, show (2 : Int32) = nI 2 from rfl, i_lt (show a < 2 ^ 31 by omega) (show 2 < 2 ^ 31 by omega), t_get h, Option.bind_some, t_ldm h ha, c_parent _ hb, nI_1, mUp]
    by_cases h2 : a < 2
    · simp [h2]
    · simp only [h2, if_false]
      exact ih f (i + 1) (cP (E a)) s (by omega) (by omega) (cP_lt _) hs
theorem t_upF (h : TE S t E) {a s : Nat} (ha : a < 16) (hs : s < 3000) : f_X7_up (ov S n) t (nI a) (nI s) = some (ov S n, nI (mUp E s a)) := by
  unfold f_X7_up b_X7_up_0
  rw [t_chk h]
  exact t_up h s q_FU 0 a s (by omega) (q_FU_lt (by omega)) ha (by omega)
theorem t_su (h : TE S t E) : ∀ d fuel i a, i + d = 14 → d < fuel → a < 16 → l_X7_stepsUp_4 fuel (ov S n) t (nI i) (nI a) = some (ov S n, nI (i + mSu E d a)) := by
  intro d
  induction d with
  | zero =>
    intro fuel i a hi hf ha
    obtain ⟨f, rfl⟩ : ∃ f, fuel = f + 1 := ⟨fuel - 1, by omega⟩
    show b_X7_stepsUp_4 _ _ _ _ _ = _
    unfold b_X7_stepsUp_4
    simp only [show (14 : Int32) = nI 14 from rfl, i_le (show 14 < 2 ^ 31 by omega) (show i < 2 ^ 31 by omega), show 14 ≤ i by omega, if_true, mSu]
    split <;> rfl
  | succ d ih =>
    intro fuel i a hi hf ha
    obtain ⟨f, rfl⟩ : ∃ f, fuel = f + 1 := ⟨fuel - 1, by omega⟩
    have hb := (h.2 a ha).2
    show b_X7_stepsUp_4 _ _ _ _ _ = _
    unfold b_X7_stepsUp_4
    simp only [show (14 : Int32) = nI 14 from rfl, i_le (show 14 < 2 ^ 31 by omega) (show i < 2 ^ 31 by omega), show ¬ 14 ≤ i by omega, if_false, show (2 : Int32) = nI 2 from rfl, i_lt (show a < 2 ^ 31 by omega) (show 2 < 2 ^ 31 by omega), t_get h, Option.bind_some, t_ldm h ha, c_parent _ hb, nI_1, mSu]
    by_cases h2 : a < 2
    · simp [h2]
    · simp only [h2, if_false]
      rw [ih f (i + 1) (cP (E a)) (by omega) (by omega) (cP_lt _), show i + 1 + mSu E d (cP (E a)) = i + (mSu E d (cP (E a)) + 1) by omega]
theorem t_stepsUp (h : TE S t E) {a : Nat} (ha : a < 16) : f_X7_stepsUp (ov S n) t (nI a) = some (ov S n, nI (mSu E 14 a)) := by
  unfold f_X7_stepsUp b_X7_stepsUp_0
  rw [t_chk h]
  have := t_su (n := n) h 14 q_FU 0 a (by omega) (q_FU_lt (by omega)) ha
  rw [Nat.zero_add] at this
  exact this
theorem t_wi (h : TE S t E) {top : Nat} (ht : top < 2 ^ 31) : ∀ d fuel i a, i + d = 14 → d < fuel → a < 16 → l_X7_liesWithin_5 fuel (ov S n) t (nI top) (nI a) (nI i) = some (ov S n, b2i (mWi E top d a)) := by
  intro d
  induction d with
  | zero =>
    intro fuel i a hi hf ha
    obtain ⟨f, rfl⟩ : ∃ f, fuel = f + 1 := ⟨fuel - 1, by omega⟩
    show b_X7_liesWithin_5 _ _ _ _ _ _ = _
    unfold b_X7_liesWithin_5 b_X7_liesWithin_41
    simp only [show (14 : Int32) = nI 14 from rfl, i_le (show 14 < 2 ^ 31 by omega) (show i < 2 ^ 31 by omega), show 14 ≤ i by omega, if_true, mWi, i_eq (show a < 2 ^ 31 by omega) ht]
    by_cases e : a = top <;> simp [e, b2i]
  | succ d ih =>
    intro fuel i a hi hf ha
    obtain ⟨f, rfl⟩ : ∃ f, fuel = f + 1 := ⟨fuel - 1, by omega⟩
    have hb := (h.2 a ha).2
    show b_X7_liesWithin_5 _ _ _ _ _ _ = _
    unfold b_X7_liesWithin_5 b_X7_liesWithin_41
    simp only [show (14 : Int32) = nI 14 from rfl, i_le (show 14 < 2 ^ 31 by omega) (show i < 2 ^ 31 by omega), show ¬ 14 ≤ i by omega, if_false, show (2 : Int32) = nI 2 from rfl, i_lt (show a < 2 ^ 31 by omega) (show 2 < 2 ^ 31 by omega), i_eq (show a < 2 ^ 31 by omega) ht, t_get h, Option.bind_some, t_ldm h ha, c_parent _ hb, nI_1, mWi]
    by_cases e : a = top
    · simp [e, b2i]
    · by_cases h2 : a < 2
      · simp [e, h2, b2i]
      · simp only [e, h2, if_false]
        exact ih f (i + 1) (cP (E a)) (by omega) (by omega) (cP_lt _)
theorem t_liesWithin (h : TE S t E) {a top : Nat} (ha : a < 16) (ht : top < 2 ^ 31) : f_X7_liesWithin (ov S n) t (nI a) (nI top) = some (ov S n, b2i (mWi E top 14 a)) := by
  unfold f_X7_liesWithin b_X7_liesWithin_0
  rw [t_chk h]
  exact t_wi h ht 14 q_FU 0 a (by omega) (q_FU_lt (by omega)) ha
theorem t_childrenOf (h : TE S t E) {p : Nat} (hp : p < 2 ^ 31) : f_X7_childrenOf (ov S n) t (nI p) = some (ov S n, nI (mCh E p)) := by
  unfold f_X7_childrenOf b_X7_childrenOf_0
  rw [t_chk h]
  refine fw_loop (fun fuel a j => l_X7_childrenOf_4 fuel (ov S n) t (nI p) (nI a) (nI j)) (mSt (mRb E p)) (fun a => (ov S n, nI a)) (fun a => a < 2 ^ 32) 2 14 (fun fuel a _ => rfl) (fun fuel a j ha h1 h2 => ⟨mSt_lt (by omega) ha, ?_⟩) 12 2 q_FU 0 (by omega) (by omega) (by omega) (q_FU_lt (by omega))
  show b_X7_childrenOf_4 _ _ _ _ _ _ = _
  unfold b_X7_childrenOf_4 b_X7_childrenOf_25
  simp only [t_isRightBelow h (show j < 16 by omega) hp, Option.bind_some, b2i_eq0, show (14 : Int32) = nI 14 from rfl, i_le (show 14 < 2 ^ 31 by omega) (show j < 2 ^ 31 by omega), show ¬ 14 ≤ j by omega, if_false, nI_1, i_bit (show j < 32 by omega), i_or a (2 ^ j) ha (Nat.pow_lt_pow_right (by omega) (by omega)), mSt]
  by_cases e : mRb E p j = true <;> simp [e]
theorem t_allWithin (h : TE S t E) {p : Nat} (hp : p < 16) : f_X7_allWithin (ov S n) t (nI p) = some (ov S n, nI (mAw E p)) := by
  unfold f_X7_allWithin b_X7_allWithin_0
  rw [t_chk h, i_bit (show p < 32 by omega)]
  refine fw_loop (fun fuel a j => l_X7_allWithin_6 fuel (ov S n) t (nI p) (nI a) (nI j)) (mSt (fun j => decide (E j ≠ 0) && mWi E p 14 j)) (fun a => (ov S n, nI a)) (fun a => a < 2 ^ 32) 2 14 (fun fuel a _ => rfl) (fun fuel a j ha h1 h2 => ⟨mSt_lt (by omega) ha, ?_⟩) 12 2 q_FU (2 ^ p) (Nat.pow_lt_pow_right (by omega) (by omega)) (by omega) (by omega) (q_FU_lt (by omega))
  have hb := (h.2 j (by omega)).2
  show b_X7_allWithin_6 _ _ _ _ _ _ = _
  unfold b_X7_allWithin_6 b_X7_allWithin_38
  simp only [t_get h, Option.bind_some, t_ld h (show j < 16 by omega), l_cmp0 hb, t_liesWithin h (show j < 16 by omega) (show p < 2 ^ 31 by omega), b2i_eq0, show (14 : Int32) = nI 14 from rfl, i_le (show 14 < 2 ^ 31 by omega) (show j < 2 ^ 31 by omega), show ¬ 14 ≤ j by omega, if_false, nI_1, i_bit (show j < 32 by omega), i_or a (2 ^ j) ha (Nat.pow_lt_pow_right (by omega) (by omega)), mSt]
  by_cases e : E j = 0
  · simp [e]
  · by_cases e2 : mWi E p 14 j = true <;> simp [e, e2]
theorem t_rankOf (h : TE S t E) {f : Nat} (hf : f < 16) : f_X7_rankOf (ov S n) t (nI f) = some (ov S n, nI (mRk E f)) := by
  have hbf := (h.2 f hf).2
  unfold f_X7_rankOf b_X7_rankOf_0
  rw [t_chk h, t_get h, Option.bind_some, t_ldm h hf, Option.bind_some]
  refine fw_loop (fun fuel a j => l_X7_rankOf_16 fuel (ov S n) t (lN (E f)) (nI a) (nI j)) (mCnt (mLess E f)) (fun a => (ov S n, nI a)) (fun _ => True) 2 14 (fun fuel a _ => rfl) (fun fuel a j _ h1 h2 => ⟨trivial, ?_⟩) 12 2 q_FU 0 trivial (by omega) (by omega) (q_FU_lt (by omega))
  have hb := (h.2 j (by omega)).2
  have hn1 := cN_lt (E j)
  have hn2 := cN_lt (E f)
  have hp2 := cP_lt (E f)
  show b_X7_rankOf_16 _ _ _ _ _ _ = _
  unfold b_X7_rankOf_16 b_X7_rankOf_68
  simp only [c_parent _ hbf, Option.bind_some, t_isRightBelow h (show j < 16 by omega) (show cP (E f) < 2 ^ 31 by omega), b2i_eq0, t_get h, t_ld h (show j < 16 by omega), c_name _ hb, c_name _ hbf, i_eq (show cN (E j) < 2 ^ 31 by omega) (show cN (E f) < 2 ^ 31 by omega), l_cmp_ge hb hbf, show (14 : Int32) = nI 14 from rfl, i_le (show 14 < 2 ^ 31 by omega) (show j < 2 ^ 31 by omega), show ¬ 14 ≤ j by omega, if_false, nI_1, mCnt, mLess]
  by_cases e1 : mRb E (cP (E f)) j = true
  · by_cases e2 : cN (E j) = cN (E f)
    · by_cases e3 : E f ≤ E j
      · simp [e1, e2, e3, Nat.not_lt.mpr e3]
      · simp [e1, e2, e3, Nat.lt_of_not_le e3]
    · simp [e1, e2]
  · simp [e1]
theorem t_otherThan (h : TE S t E) {t' : Nat} {D : Nat → Nat} (h' : TE S t' D) : f_X7_otherThan (ov S n) t t' = some (ov S n, nI (mOt E D)) := by
  unfold f_X7_otherThan b_X7_otherThan_0
  rw [t_chk h]
  refine fw_loop (fun fuel a j => l_X7_otherThan_4 fuel (ov S n) t t' (nI a) (nI j)) (mSt (fun j => decide (E j ≠ D j))) (fun a => (ov S n, nI a)) (fun a => a < 2 ^ 32) 2 14 (fun fuel a _ => rfl) (fun fuel a j ha h1 h2 => ⟨mSt_lt (by omega) ha, ?_⟩) 12 2 q_FU 0 (by omega) (by omega) (by omega) (q_FU_lt (by omega))
  have hb := (h.2 j (by omega)).2
  have hb' := (h'.2 j (by omega)).2
  show b_X7_otherThan_4 _ _ _ _ _ _ = _
  unfold b_X7_otherThan_4 b_X7_otherThan_32
  simp only [t_get h, t_get h', Option.bind_some, t_ld h (show j < 16 by omega), t_ld h' (show j < 16 by omega), l_cmp hb hb', show (14 : Int32) = nI 14 from rfl, i_le (show 14 < 2 ^ 31 by omega) (show j < 2 ^ 31 by omega), show ¬ 14 ≤ j by omega, if_false, nI_1, i_bit (show j < 32 by omega), i_or a (2 ^ j) ha (Nat.pow_lt_pow_right (by omega) (by omega)), mSt]
  by_cases e : E j = D j <;> simp [e]
/-- a loop that ends at the first failure -/
theorem all_loop (l : Nat → Nat → Option (q_H × Int32)) (P : Nat → Bool) (hh : q_H) (lo N : Nat) (h0 : ∀ fuel, l (fuel + 1) N = some (hh, 1)) (h1 : ∀ fuel j, lo ≤ j → j < N → l (fuel + 1) j = if P j then l fuel (j + 1) else some (hh, 0)) :
    ∀ d j fuel, lo ≤ j → j + d = N → d < fuel → l fuel j = some (hh, b2i (mAll P j d)) := by
  intro d
  induction d with
  | zero =>
    intro j fuel _ hj hf
    obtain ⟨f, rfl⟩ : ∃ f, fuel = f + 1 := ⟨fuel - 1, by omega⟩
    rw [show j = N by omega, h0 f]
    rfl
  | succ d ih =>
    intro j fuel hl hj hf
    obtain ⟨f, rfl⟩ : ∃ f, fuel = f + 1 := ⟨fuel - 1, by omega⟩
    rw [h1 f j hl (by omega)]
    show _ = some (hh, b2i (P j && mAll P (j + 1) d))
    by_cases e : P j = true
    · rw [if_pos e, ih (j + 1) f (by omega) (by omega) (by omega), e]; rfl
    · rw [if_neg e, Bool.not_eq_true _ |>.mp e]; rfl
theorem t_isAs (h : TE S t E) {t' : Nat} {D : Nat → Nat} (h' : TE S t' D) : f_X7_isAs (ov S n) t t' = some (ov S n, b2i (mAll (fun j => decide (E j = D j)) 2 12)) := by
  unfold f_X7_isAs b_X7_isAs_0
  rw [t_chk h]
  refine all_loop (fun fuel j => l_X7_isAs_2 fuel (ov S n) t t' (nI j)) (fun j => decide (E j = D j)) (ov S n) 2 14 (fun fuel => rfl) (fun fuel j h1 h2 => ?_) 12 2 q_FU (by omega) (by omega) (q_FU_lt (by omega))
  have hb := (h.2 j (by omega)).2
  have hb' := (h'.2 j (by omega)).2
  show b_X7_isAs_2 _ _ _ _ _ = _
  unfold b_X7_isAs_2
  simp only [t_get h, t_get h', Option.bind_some, t_ld h (show j < 16 by omega), t_ld h' (show j < 16 by omega), l_cmp hb hb', show (14 : Int32) = nI 14 from rfl, i_le (show 14 < 2 ^ 31 by omega) (show j < 2 ^ 31 by omega), show ¬ 14 ≤ j by omega, if_false, nI_1]
  by_cases e : E j = D j <;> simp [e]
end TR2
