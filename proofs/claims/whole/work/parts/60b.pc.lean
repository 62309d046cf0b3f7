/-! HOW MANY BITS 2 -/
theorem cbit_st : ∀ (N v : Nat), v < 2 ^ N → cbit (N + 1) v = cbit N v := by
  intro N
  induction N with
  | zero =>
    intro v h
    have : v = 0 := by omega
    subst this
    rfl
  | succ N ih =>
    intro v h
    show v % 2 + cbit (N + 1) (v / 2) = v % 2 + cbit N (v / 2)
    rw [ih (v / 2) (by rw [Nat.pow_succ] at h; omega)]
theorem pck_ok : ∀ (d v c : Nat), pck d v c = true → v * 2 ^ d < 2 ^ 20 → c = cbit 20 v → ∀ w, w < 2 ^ d → 2 ^ d * v + w < 2 ^ 20 → pcN (2 ^ d * v + w) = cbit 20 (2 ^ d * v + w) := by
  intro d
  induction d with
  | zero =>
    intro v c h _ hc w hw _
    have : w = 0 := by omega
    subst this
    have h1 : pcN v = c := Nat.eq_of_beq_eq_true h
    rw [Nat.pow_zero, Nat.one_mul, Nat.add_zero, h1, hc]
  | succ d ih =>
    intro v c h hv hc w hw hb
    have h2 : (pck d (2 * v) c && pck d (2 * v + 1) (c + 1)) = true := h
    rw [Bool.and_eq_true] at h2
    have hp : 2 ^ (d + 1) = 2 * 2 ^ d := by rw [Nat.pow_succ, Nat.mul_comm]
    have h1 : 1 ≤ 2 ^ d := Nat.one_le_two_pow
    have hv19 : v < 2 ^ 19 := by
      have h3 : v * 2 ≤ v * 2 ^ (d + 1) := Nat.mul_le_mul_left v (by omega)
      omega
    have e1 : v * 2 ^ (d + 1) = 2 * v * 2 ^ d := by rw [hp, Nat.mul_comm 2 v, Nat.mul_assoc]
    have e2 : 2 ^ (d + 1) * v = 2 ^ d * (2 * v) := by rw [hp, Nat.mul_comm 2 (2 ^ d), Nat.mul_assoc]
    have hc0 : cbit 20 v = cbit 19 v := cbit_st 19 v hv19
    by_cases hlt : w < 2 ^ d
    · have := ih (2 * v) c h2.1 (by omega) (by
        show c = (2 * v) % 2 + cbit 19 (2 * v / 2)
        rw [Nat.mul_mod_right, Nat.mul_div_cancel_left v (by omega), hc, hc0, Nat.zero_add]) w hlt (by omega)
      rw [e2]
      exact this
    · have e3 : 2 ^ d * (2 * v + 1) = 2 ^ d * (2 * v) + 2 ^ d := by rw [Nat.mul_add, Nat.mul_one]
      have := ih (2 * v + 1) (c + 1) h2.2 (by rw [Nat.mul_comm]; omega) (by
        show c + 1 = (2 * v + 1) % 2 + cbit 19 ((2 * v + 1) / 2)
        rw [show (2 * v + 1) % 2 = 1 by omega, show (2 * v + 1) / 2 = v by omega, hc, hc0, Nat.add_comm]) (w - 2 ^ d) (by omega) (by omega)
      rw [e2, show 2 ^ d * (2 * v) + w = 2 ^ d * (2 * v + 1) + (w - 2 ^ d) by omega]
      exact this
theorem pck_all : ∀ h, h < 16 → pck 16 h (cbit 20 h) = true := by
  intro h hh
  match h, hh with
  | 0, _ => exact pck_0
  | 1, _ => exact pck_1
  | 2, _ => exact pck_2
  | 3, _ => exact pck_3
  | 4, _ => exact pck_4
  | 5, _ => exact pck_5
  | 6, _ => exact pck_6
  | 7, _ => exact pck_7
  | 8, _ => exact pck_8
  | 9, _ => exact pck_9
  | 10, _ => exact pck_10
  | 11, _ => exact pck_11
  | 12, _ => exact pck_12
  | 13, _ => exact pck_13
  | 14, _ => exact pck_14
  | 15, _ => exact pck_15
  | n + 16, hh => omega
theorem pcN_eq {v : Nat} (hv : v < 2 ^ 20) : pcN v = cbit 20 v := by
  have := pck_ok 16 (v / 2 ^ 16) _ (pck_all (v / 2 ^ 16) (by omega)) (by omega) rfl (v % 2 ^ 16) (by omega) (by omega)
  rw [Nat.div_add_mod] at this
  exact this
theorem i_and {a b : Nat} (ha : a < 2 ^ 32) (hb : b < 2 ^ 32) : nI a &&& nI b = nI (a &&& b) := by
  apply Int32.toBitVec_inj.mp
  apply BitVec.eq_of_toNat_eq
  rw [Int32.toBitVec_and, BitVec.toNat_and, pk_tn ha, pk_tn hb, pk_tn (Nat.lt_of_le_of_lt Nat.and_le_left ha)]
theorem i_ushrK {v m : Nat} {s : Int32} (hs : s = nI m) (hv : v < 2 ^ 32) (hm : m < 32) : q_iushr (nI v) s = nI (v / 2 ^ m) := by rw [hs]; exact i_ushr hv hm
theorem pc1_i {v : Nat} (hv : v < 2 ^ 31) : nI v - (q_iushr (nI v) 1 &&& 1431655765) = nI (pc1 v) := by
  have h1 : v / 2 ^ 1 < 2 ^ 32 := Nat.lt_of_le_of_lt (Nat.div_le_self _ _) (by omega)
  rw [i_ushrK (s := 1) (m := 1) rfl (by omega) (by omega), show (1431655765 : Int32) = nI 1431655765 from rfl, i_and h1 (by omega), pk_sub (Nat.le_trans Nat.and_le_left (Nat.div_le_self _ _))]
  rfl
theorem pc2_i {x : Nat} (hx : x < 2 ^ 31) : (nI x &&& 858993459) + (q_iushr (nI x) 2 &&& 858993459) = nI (pc2 x) := by
  have h1 : x / 2 ^ 2 < 2 ^ 32 := Nat.lt_of_le_of_lt (Nat.div_le_self _ _) (by omega)
  rw [i_ushrK (s := 2) (m := 2) rfl (by omega) (by omega), show (858993459 : Int32) = nI 858993459 from rfl, i_and h1 (by omega), i_and (by omega) (by omega), nI_add]
  rfl
theorem pc3_i {y : Nat} (hy : y < 2 ^ 30) : (nI y + q_iushr (nI y) 4) &&& 252645135 = nI (pc3 y) := by
  have h1 : y / 2 ^ 4 ≤ y := Nat.div_le_self _ _
  rw [i_ushrK (s := 4) (m := 4) rfl (by omega) (by omega), show (252645135 : Int32) = nI 252645135 from rfl, nI_add, i_and (by omega) (by omega)]
  rfl
theorem pc4_i {y : Nat} (hy : y < 2 ^ 30) : (nI y + q_iushr (nI y) 8) = nI (pc4 y) := by
  rw [i_ushrK (s := 8) (m := 8) rfl (by omega) (by omega), nI_add]
  rfl
theorem pc5_i {y : Nat} (hy : y < 2 ^ 30) : (nI y + q_iushr (nI y) 16) &&& 63 = nI (pc5 y) := by
  have h1 : y / 2 ^ 16 ≤ y := Nat.div_le_self _ _
  rw [i_ushrK (s := 16) (m := 16) rfl (by omega) (by omega), show (63 : Int32) = nI 63 from rfl, nI_add, i_and (by omega) (by omega)]
  rfl
theorem x_bitCount (h : q_H) {v : Nat} (hv : v < 2 ^ 20) : f_J6_bitCount_0f7a4 h (nI v) = some (h, nI (cbit 20 v)) := by
  have b1 : pc1 v ≤ v := Nat.sub_le _ _
  have b2 : pc2 (pc1 v) ≤ 2 * pc1 v := by
    unfold pc2
    have := Nat.and_le_left (n := pc1 v) (m := 858993459)
    have := Nat.and_le_left (n := pc1 v / 4) (m := 858993459)
    omega
  have b3 : pc3 (pc2 (pc1 v)) ≤ 2 * pc2 (pc1 v) := by
    unfold pc3
    have := Nat.and_le_left (n := pc2 (pc1 v) + pc2 (pc1 v) / 16) (m := 252645135)
    omega
  have b4 : pc4 (pc3 (pc2 (pc1 v))) ≤ 2 * pc3 (pc2 (pc1 v)) := by
    unfold pc4
    omega
  unfold f_J6_bitCount_0f7a4 b_J6_bitCount_0f7a4_0
  rw [pc1_i (by omega), pc2_i (by omega), pc3_i (by omega), pc4_i (by omega), pc5_i (by omega), ← pcN_eq hv]
  rfl
/-! counting -/
def cn (P : Nat → Bool) (j d : Nat) : Nat := fw (mCnt P) 0 j d
theorem cn_add (P : Nat → Bool) : ∀ d j r, fw (mCnt P) r j d = r + cn P j d := by
  intro d
  induction d with
  | zero => intro j r; rfl
  | succ d ih =>
    intro j r
    show fw (mCnt P) (mCnt P j r) (j + 1) d = r + fw (mCnt P) (mCnt P j 0) (j + 1) d
    rw [ih, ih (j + 1) (mCnt P j 0)]
    unfold mCnt
    split <;> omega
theorem cn_s (P : Nat → Bool) (j d : Nat) : cn P j (d + 1) = (if P j then 1 else 0) + cn P (j + 1) d := by
  show fw (mCnt P) (mCnt P j 0) (j + 1) d = _
  rw [cn_add]
  rfl
theorem cn_cg {P Q : Nat → Bool} : ∀ {d j : Nat}, (∀ i, j ≤ i → i < j + d → P i = Q i) → cn P j d = cn Q j d := by
  intro d
  induction d with
  | zero => intro j _; rfl
  | succ d ih =>
    intro j h
    rw [cn_s, cn_s, ih (fun i h1 h2 => h i (by omega) (by omega)), h j (Nat.le_refl _) (by omega)]
theorem cn_ap (P : Nat → Bool) : ∀ (d e j : Nat), cn P j (d + e) = cn P j d + cn P (j + d) e := by
  intro d
  induction d with
  | zero => intro e j; rw [Nat.zero_add, Nat.add_zero]; show _ = 0 + _; rw [Nat.zero_add]
  | succ d ih =>
    intro e j
    rw [show d + 1 + e = (d + e) + 1 by omega, cn_s, cn_s, ih, show j + 1 + d = j + (d + 1) by omega, Nat.add_assoc]
theorem cn_0 {P : Nat → Bool} : ∀ {d j : Nat}, (∀ i, j ≤ i → i < j + d → P i = false) → cn P j d = 0 := by
  intro d
  induction d with
  | zero => intro j _; rfl
  | succ d ih =>
    intro j h
    rw [cn_s, ih (fun i h1 h2 => h i (by omega) (by omega)), h j (Nat.le_refl _) (by omega)]
    rfl
theorem cn_le (P : Nat → Bool) (j d : Nat) : cn P j d ≤ d := by have := mCnt_le (P := P) d j 0; unfold cn; omega
theorem cbit_cn (v : Nat) : ∀ d j, cbit d (v / 2 ^ j) = cn (fun i => v.testBit i) j d := by
  intro d
  induction d with
  | zero => intro j; rfl
  | succ d ih =>
    intro j
    rw [cn_s, ← ih (j + 1)]
    show (v / 2 ^ j) % 2 + cbit d (v / 2 ^ j / 2) = _
    rw [Nat.div_div_eq_div_mul, ← Nat.pow_succ, Nat.testBit_eq_decide_div_mod_eq]
    rcases Nat.mod_two_eq_zero_or_one (v / 2 ^ j) with e | e <;> simp [e]
theorem cbit_c0 (v d : Nat) : cbit d v = cn (fun i => v.testBit i) 0 d := by
  have := cbit_cn v d 0
  rw [Nat.pow_zero, Nat.div_one] at this
  exact this
theorem st_bit (P : Nat → Bool) : ∀ (d j a i : Nat), (fw (mSt P) a j d).testBit i = (a.testBit i || (decide (j ≤ i ∧ i < j + d) && P i)) := by
  intro d
  induction d with
  | zero =>
    intro j a i
    show a.testBit i = _
    rw [decide_eq_false (by omega), Bool.false_and, Bool.or_false]
  | succ d ih =>
    intro j a i
    show (fw (mSt P) (mSt P j a) (j + 1) d).testBit i = _
    rw [ih]
    by_cases e : i = j
    · subst e
      rw [decide_eq_false (show ¬ (i + 1 ≤ i ∧ i < i + 1 + d) by omega), decide_eq_true (show i ≤ i ∧ i < i + (d + 1) by omega), Bool.false_and, Bool.or_false, Bool.true_and]
      unfold mSt
      split
      · rename_i h; rw [Nat.testBit_or, Nat.testBit_two_pow_self, h]
      · rename_i h; simp [h]
    · have h1 : (mSt P j a).testBit i = a.testBit i := by
        unfold mSt
        split
        · rw [Nat.testBit_or, Nat.testBit_two_pow_of_ne (fun q => e q.symm), Bool.or_false]
        · rfl
      rw [h1]
      congr 2
      apply decide_eq_decide.mpr
      omega
theorem st_bit0 (P : Nat → Bool) (d j i : Nat) : (fw (mSt P) 0 j d).testBit i = (decide (j ≤ i ∧ i < j + d) && P i) := by
  rw [st_bit, Nat.zero_testBit, Bool.false_or]
/-- how many bits a set of few has, counted over any room that holds it -/
theorem cbit_w {v : Nat} : ∀ {a b : Nat}, v < 2 ^ a → a ≤ b → cbit b v = cbit a v := by
  intro a b h hab
  obtain ⟨e, rfl⟩ : ∃ e, b = a + e := ⟨b - a, by omega⟩
  rw [cbit_c0, cbit_c0, cn_ap, cn_0 (j := 0 + a) (d := e)]
  · rfl
  · intro i h1 _
    exact Nat.testBit_lt_two_pow (Nat.lt_of_lt_of_le h (Nat.pow_le_pow_right (by omega) (by omega)))
theorem i_sar {v k : Nat} (hv : v < 2 ^ 31) (hk : k < 32) : nI v >>> (nI k &&& 31) = nI (v / 2 ^ k) := by
  have h : ∀ k, k < 32 → ((nI k &&& 31).toBitVec.smod 32).toNat = k := by decide +kernel
  exact pk_shrN hv _ k (h k hk)
theorem i_sar1 {v k : Nat} (hv : v < 2 ^ 31) (hk : k < 32) : (nI v >>> (nI k &&& 31)) &&& 1 = nI (v / 2 ^ k % 2) := by
  rw [i_sar hv hk, pk_andN (Nat.lt_of_le_of_lt (Nat.div_le_self _ _) (by omega)) 1 (by decide)]
theorem i_sarb {v k : Nat} (hv : v < 2 ^ 31) (hk : k < 32) : (nI v >>> (nI k &&& 31)) &&& 1 = b2i (v.testBit k) := by
  rw [i_sar1 hv hk, Nat.testBit_eq_decide_div_mod_eq]
  rcases Nat.mod_two_eq_zero_or_one (v / 2 ^ k) with e | e <;> rw [e] <;> rfl
theorem r_has (h : q_H) {v k : Nat} (hv : v < 2 ^ 31) (hk : k < 32) : f_X10_has h (nI v) (nI k) = some (h, b2i (v.testBit k)) := by
  unfold f_X10_has b_X10_has_0
  rw [i_sarb hv hk]
  cases v.testBit k <;> rfl
theorem r_bitsOf (h : q_H) {v : Nat} (hv : v < 2 ^ 20) : f_X10_bitsOf h (nI v) = some (h, nI (cbit 20 v)) := by
  unfold f_X10_bitsOf b_X10_bitsOf_0
  have := fw_loop (fun fuel a j => l_X10_bitsOf_4 fuel h (nI v) (nI a) (nI j)) (mCnt (fun i => v.testBit i)) (fun a => (h, nI a)) (fun _ => True) 0 31 (fun fuel a _ => rfl) (fun fuel a j _ h1 h2 => ⟨trivial, by
    show b_X10_bitsOf_4 _ _ _ _ _ = _
    unfold b_X10_bitsOf_4
    rw [i_sarb (by omega) (by omega), b2i_add, nI_1, show (31 : Int32) = nI 31 from rfl, if_neg (by rw [i_le (by omega) (by omega)]; omega)]
    rfl⟩) 31 0 q_FU 0 trivial (by omega) (by omega) (q_FU_lt (by omega))
  rw [cbit_c0, ← cbit_c0, ← cbit_w (b := 31) hv (by omega), cbit_c0]
  exact this
