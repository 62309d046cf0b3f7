/-! LETTERS AS NUMBERS: TIME, COPY, FOLDER, PARENT, NAME -/
def cT (k : Nat) : Nat := k / 16384
def cC (k : Nat) : Nat := k / 4096 % 4
def cF (k : Nat) : Nat := k / 256 % 16
def cP (k : Nat) : Nat := k / 16 % 16
def cN (k : Nat) : Nat := k % 16
def cMk (t c f p n : Nat) : Nat := t * 16384 + (c * 4096 + f * 256 + p * 16 + n)
theorem cMk_T {t c f p n : Nat} (hc : c < 4) (hf : f < 16) (hp : p < 16) (hn : n < 16) : cT (cMk t c f p n) = t := by unfold cT cMk; omega
theorem cMk_C {t c f p n : Nat} (hc : c < 4) (hf : f < 16) (hp : p < 16) (hn : n < 16) : cC (cMk t c f p n) = c := by unfold cC cMk; omega
theorem cMk_F {t c f p n : Nat} (hc : c < 4) (hf : f < 16) (hp : p < 16) (hn : n < 16) : cF (cMk t c f p n) = f := by unfold cF cMk; omega
theorem cMk_P {t c f p n : Nat} (hc : c < 4) (hf : f < 16) (hp : p < 16) (hn : n < 16) : cP (cMk t c f p n) = p := by unfold cP cMk; omega
theorem cMk_N {t c f p n : Nat} (hc : c < 4) (hf : f < 16) (hp : p < 16) (hn : n < 16) : cN (cMk t c f p n) = n := by unfold cN cMk; omega
theorem cMk_all (k : Nat) : cMk (cT k) (cC k) (cF k) (cP k) (cN k) = k := by unfold cMk cT cC cF cP cN; omega
theorem cF_lt (k : Nat) : cF k < 16 := Nat.mod_lt _ (by omega)
theorem cP_lt (k : Nat) : cP k < 16 := Nat.mod_lt _ (by omega)
theorem cN_lt (k : Nat) : cN k < 16 := Nat.mod_lt _ (by omega)
theorem cC_lt (k : Nat) : cC k < 4 := Nat.mod_lt _ (by omega)
theorem lN_tn {n : Nat} (h : n < 2 ^ 64) : (lN n).toBitVec.toNat = n := by
  show (BitVec.ofNat 64 n).toNat = n
  rw [BitVec.toNat_ofNat, Nat.mod_eq_of_lt h]
theorem c_ushr {n : Nat} (hn : n < 2 ^ 63) (s : Int32) (k : Nat) (hs : ((s.toInt64.toUInt64 &&& Int64.toUInt64 63).toBitVec % 64).toNat = k) : q_lushr (lN n) s = lN (n / 2 ^ k) := by
  unfold q_lushr
  apply Int64.toBitVec_inj.mp
  apply BitVec.eq_of_toNat_eq
  have e : ((lN n).toUInt64 >>> (s.toInt64.toUInt64 &&& Int64.toUInt64 63)).toInt64.toBitVec = (lN n).toBitVec >>> k := by
    rw [← hs]
    exact UInt64.toBitVec_shiftRight _ _
  rw [e, BitVec.toNat_ushiftRight, Nat.shiftRight_eq_div_pow, lN_tn (by omega), lN_tn (Nat.lt_of_le_of_lt (Nat.div_le_self _ _) (by omega))]
theorem c_time (h : q_H) {k : Nat} (hk : k < 2 ^ 31) : f_X1_time h (lN k) = some (h, nI (cT k)) := by
  unfold f_X1_time b_X1_time_0
  rw [c_ushr (by omega) _ 14 (by decide), lN_i]
  rfl
theorem c_sender (h : q_H) {k : Nat} (hk : k < 2 ^ 31) : f_X1_sender h (lN k) = some (h, nI (cC k)) := by
  unfold f_X1_sender b_X1_sender_0
  rw [c_ushr (by omega) _ 12 (by decide), lN_i, pk_andN (Nat.lt_of_le_of_lt (Nat.div_le_self _ _) (by omega)) 2 (by decide)]
  rfl
theorem c_folder (h : q_H) {k : Nat} (hk : k < 2 ^ 31) : f_X1_folder h (lN k) = some (h, nI (cF k)) := by
  unfold f_X1_folder b_X1_folder_0
  rw [c_ushr (by omega) _ 8 (by decide), lN_i, pk_andN (Nat.lt_of_le_of_lt (Nat.div_le_self _ _) (by omega)) 4 (by decide)]
  rfl
theorem c_parent (h : q_H) {k : Nat} (hk : k < 2 ^ 31) : f_X1_parent h (lN k) = some (h, nI (cP k)) := by
  unfold f_X1_parent b_X1_parent_0
  rw [c_ushr (by omega) _ 4 (by decide), lN_i, pk_andN (Nat.lt_of_le_of_lt (Nat.div_le_self _ _) (by omega)) 4 (by decide)]
  rfl
theorem c_name (h : q_H) {k : Nat} (hk : k < 2 ^ 31) : f_X1_name h (lN k) = some (h, nI (cN k)) := by
  unfold f_X1_name b_X1_name_0
  rw [lN_i, pk_andN (by omega) 4 (by decide)]
  rfl
/-- 1 for true -/
def b2i (b : Bool) : Int32 := if b then 1 else 0
theorem b2i_0 {b : Bool} : b2i b = 0 ↔ b = false := by cases b <;> decide
theorem c_hasMove (h : q_H) {k : Nat} (hk : k < 2 ^ 31) : f_X1_hasMove h (lN k) = some (h, b2i (decide (cF k ≠ 0))) := by
  unfold f_X1_hasMove b_X1_hasMove_0
  rw [c_folder h hk, Option.bind_some]
  have hf := cF_lt k
  by_cases e : cF k = 0
  · rw [if_pos (by rw [e]; rfl)]
    simp [e, b2i]
  · rw [if_neg (show ¬ nI (cF k) = 0 from nI_ne0 (by omega) (by omega))]
    simp [e, b2i]
theorem c_in : ∀ c, c < 4 → ∀ f, f < 16 → ∀ p, p < 16 → ∀ n, n < 16 → ((((nI c <<< ((12 : Int32) &&& 31)) ||| (nI f <<< ((8 : Int32) &&& 31))) ||| (nI p <<< ((4 : Int32) &&& 31))) ||| nI n) = nI (c * 4096 + f * 256 + p * 16 + n) := by decide +kernel
theorem c_lor {t s : Nat} (hs : s < 16384) (ht : t < 2 ^ 31) : lN (t * 16384) ||| lN s = lN (t * 16384 + s) := by
  apply Int64.toBitVec_inj.mp
  apply BitVec.eq_of_toNat_eq
  rw [Int64.toBitVec_or, BitVec.toNat_or, lN_tn (by omega), lN_tn (by omega), lN_tn (by omega)]
  have := Nat.shiftLeft_add_eq_or_of_lt (b := s) (i := 14) (by omega) t
  rw [Nat.shiftLeft_eq] at this
  exact this.symm
theorem c_shl {t : Nat} (ht : t < 2 ^ 31) : q_lshl (lN t) 14 = lN (t * 16384) := by
  unfold q_lshl
  apply Int64.toBitVec_inj.mp
  apply BitVec.eq_of_toNat_eq
  have e : (lN t <<< ((14 : Int32).toInt64 &&& 63)).toBitVec = (lN t).toBitVec <<< 14 := by
    have : ((14 : Int32).toInt64 &&& 63) = (14 : Int64) := by decide
    rw [this, Int64.toBitVec_shiftLeft]
    rfl
  rw [e, BitVec.toNat_shiftLeft, lN_tn (by omega), lN_tn (by omega), Nat.shiftLeft_eq, Nat.mod_eq_of_lt (by omega)]
theorem c_of (h : q_H) {t c f p n : Nat} (ht : t < 2 ^ 31) (hc : c < 4) (hf : f < 16) (hp : p < 16) (hn : n < 16) : f_X1_of h (nI t) (nI c) (nI f) (nI p) (nI n) = some (h, lN (cMk t c f p n)) := by
  unfold f_X1_of b_X1_of_0
  rw [c_in c hc f hf p hp n hn, nI_l ht, nI_l (by omega), c_shl ht, c_lor (by omega) ht]
  rfl
