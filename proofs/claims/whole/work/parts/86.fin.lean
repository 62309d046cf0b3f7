/-! PATHS THAT ARE READ -/
def er (e : Nat) : Int32 := -1 - nI e
theorem ms_toInt {c : Int32} {m p : Nat} (hc : c.toInt = -(m : Int)) (hm : m ≤ 10) (hp : p < 2 ^ 30) : (c - nI p).toInt = -(m : Int) - p := by
  rw [Int32.toInt_sub, hc, nI_toInt (by omega)]
  exact Int.bmod_eq_of_le (by omega) (by omega)
theorem er_toInt {e : Nat} (h : e < 2 ^ 30) : (er e).toInt = -1 - (e : Int) := ms_toInt (m := 1) (by decide) (by omega) h
theorem er_neg {e : Nat} (h : e < 2 ^ 30) : er e < 0 := by
  rw [Int32.lt_iff_toInt_lt, er_toInt h, show (0 : Int32).toInt = 0 from by decide]
  omega
theorem er_back {e : Nat} (h : e < 2 ^ 30) : -1 - er e = nI e := by
  apply Int32.toInt_inj.mp
  rw [Int32.toInt_sub, er_toInt h, nI_toInt (by omega), show (-1 : Int32).toInt = -1 from by decide]
  rw [show (-1 : Int) - (-1 - (e : Int)) = e by omega]
  exact Int.bmod_eq_of_le (by omega) (by omega)
theorem er_2 {p : Nat} (h : p < 2 ^ 29) : (-2 : Int32) - nI p = er (p + 1) := by
  apply Int32.toInt_inj.mp
  rw [ms_toInt (m := 2) (by decide) (by omega) (by omega), er_toInt (by omega)]
  omega
theorem er_4 {p : Nat} (h : p < 2 ^ 29) : (-4 : Int32) - nI p = er (p + 3) := by
  apply Int32.toInt_inj.mp
  rw [ms_toInt (m := 4) (by decide) (by omega) (by omega), er_toInt (by omega)]
  omega
def stp (X : List Nat) (p : Nat) : Nat ⊕ (Nat × Nat × Nat) :=
  if X[p]? = some 47 then
    (if dgX X (p + 1) then
      (if X[p + 2]? = some 46 then
        (if dgX X (p + 3) && !decide (X[p + 3]? = some 48) then
          (if dgX X (p + 4) then .inr (p + 5, X.getD (p + 1) 0 - 48, 10 * (X.getD (p + 3) 0 - 48) + (X.getD (p + 4) 0 - 48)) else .inr (p + 4, X.getD (p + 1) 0 - 48, X.getD (p + 3) 0 - 48))
        else .inl (p + 3))
      else .inr (p + 2, X.getD (p + 1) 0 - 48, 0))
    else .inl (p + 1))
  else .inl p
def pP (X : List Nat) : Nat → Nat → Nat ⊕ List (Nat × Nat)
  | 0, _ => .inr []
  | f + 1, p => if X.length ≤ p then .inr [] else match stp X p with
    | .inl e => .inl e
    | .inr (q, nm, rk) => match pP X f q with
      | .inl e => .inl e
      | .inr l => .inr ((nm, rk) :: l)
theorem dg_t {X : List Nat} {p : Nat} (h : dgX X p = true) : p < X.length ∧ ∃ c, X[p]? = some c ∧ X.getD p 0 = c ∧ 48 ≤ c ∧ c ≤ 57 := by
  unfold dgX at h
  cases e : X[p]? with
  | none => rw [e] at h; cases h
  | some c =>
    rw [e] at h
    have h : dgC c = true := h
    have := of_decide_eq_true h
    exact ⟨(List.getElem?_eq_some_iff.mp e).1, c, rfl, by rw [List.getD_eq_getElem?_getD, e]; rfl, this.1, this.2⟩
theorem stp_q {X : List Nat} {p q nm rk : Nat} (h : stp X p = .inr (q, nm, rk)) : p + 2 ≤ q ∧ q ≤ p + 5 ∧ nm < 10 ∧ rk < 100 := by
  unfold stp at h
  split at h
  · split at h
    · rename_i d1
      obtain ⟨-, c1, -, e1, e2, e3⟩ := dg_t d1
      split at h
      · split at h
        · rename_i d3
          rw [Bool.and_eq_true] at d3
          obtain ⟨-, c3, -, f1, f2, f3⟩ := dg_t d3.1
          split at h
          · rename_i d4
            obtain ⟨-, c4, -, g1, g2, g3⟩ := dg_t d4
            cases h
            omega
          · cases h
            omega
        · cases h
      · cases h
        omega
    · cases h
  · cases h
theorem stp_e {X : List Nat} {p e : Nat} (h : stp X p = .inl e) : e ≤ p + 3 := by
  unfold stp at h
  split at h
  · split at h
    · split at h
      · split at h
        · split at h <;> cases h
        · cases h; omega
      · cases h
    · cases h; omega
  · cases h; omega
theorem pP_e {X : List Nat} : ∀ f p e, pP X f p = .inl e → e < X.length + 4 := by
  intro f
  induction f with
  | zero => intro p e h; cases h
  | succ f ih =>
    intro p e h
    unfold pP at h
    split at h
    · cases h
    · rename_i hp
      split at h
      · rename_i e' he
        cases h
        have := stp_e he
        omega
      · rename_i q nm rk he
        split at h
        · rename_i e' he'
          cases h
          exact ih q _ he'
        · cases h
def chd (E : Nat → Nat) (m nm rk : Nat) : Option Nat := mFind (fun j => mRb E m j && (decide (cN (E j) = nm) && decide (mRk E j = rk))) 2 12
def ndF (E : Nat → Nat) : Option Nat → List (Nat × Nat) → Option Nat
  | o, [] => o
  | none, _ :: l => ndF E none l
  | some m, (nm, rk) :: l => ndF E (chd E m nm rk) l
theorem ndF_n (E : Nat → Nat) : ∀ l, ndF E none l = none := by
  intro l
  induction l with
  | nil => rfl
  | cons x l ih => exact ih
def oI (o : Option Nat) : Int32 := match o with
  | some m => nI m
  | none => -1
theorem find_in {P : Nat → Bool} : ∀ d j m, mFind P j d = some m → P m = true ∧ j ≤ m ∧ m < j + d := by
  intro d
  induction d with
  | zero => intro j m h; cases h
  | succ d ih =>
    intro j m h
    unfold mFind at h
    split at h
    · rename_i q; cases h; exact ⟨q, Nat.le_refl _, by omega⟩
    · obtain ⟨h1, h2, h3⟩ := ih (j + 1) m h
      exact ⟨h1, by omega, by omega⟩
section FN
variable {S : o_S} {n : Nat × Nat × Nat} {A : aS} {T t : Nat} {E : Nat → Nat}
theorem x_behind (H : CR S A) {p : Nat} (hp : p < 1000) : f_X9_behindStep (ov S n) 0 (nI p) = some (ov S n, match stp (sX A) p with
    | .inl e => er e
    | .inr r => nI r.1) := by
  have hx := H.x256
  have a0 := x_atT (n := n) H (p := p) (by omega)
  have a2 := x_atT (n := n) H (p := p + 2) (by omega)
  have a3 := x_atT (n := n) H (p := p + 3) (by omega)
  have b1 := x_dig (n := n) H (p := p + 1) (by omega)
  have b3 := x_dig (n := n) H (p := p + 3) (by omega)
  have b4 := x_dig (n := n) H (p := p + 4) (by omega)
  have e1 : nI p + 1 = nI (p + 1) := nI_add p 1
  have e2 : nI p + 2 = nI (p + 2) := nI_add p 2
  have e3 : nI p + 3 = nI (p + 3) := nI_add p 3
  have e4 : nI p + 4 = nI (p + 4) := nI_add p 4
  have e5 : nI p + 5 = nI (p + 5) := nI_add p 5
  have q0 : (tc (sX A) p = 47) = ((sX A)[p]? = some 47) := tc_eq hx (k := 47) (by omega)
  have q2 : (tc (sX A) (p + 2) = 46) = ((sX A)[p + 2]? = some 46) := tc_eq hx (k := 46) (by omega)
  have q3 : (tc (sX A) (p + 3) = 48) = ((sX A)[p + 3]? = some 48) := tc_eq hx (k := 48) (by omega)
  unfold f_X9_behindStep b_X9_behindStep_0 stp
  simp only [x_chk, xR5, bS, a0, q0, e1, e2, e3, e4, e5, b1, a2, q2, b3, a3, q3, b4, b2i_eq0, er_2 (show p < 2 ^ 29 by omega), er_4 (show p < 2 ^ 29 by omega)]
  by_cases c0 : (sX A)[p]? = some 47
  · rw [if_pos c0, if_pos c0]
    cases c1 : dgX (sX A) (p + 1)
    · rw [if_pos rfl, if_neg (by decide)]
    · rw [if_neg (by decide), if_pos rfl]
      by_cases c2 : (sX A)[p + 2]? = some 46
      · rw [if_pos c2, if_pos c2]
        cases c3 : dgX (sX A) (p + 3)
        · simp
        · by_cases c4 : (sX A)[p + 3]? = some 48
          · simp [c4]
          · cases c5 : dgX (sX A) (p + 4) <;> simp [c4]
      · rw [if_neg c2, if_neg c2]
  · rw [if_neg c0, if_neg c0]
    rfl
theorem x_wpL (H : CR S A) : ∀ f p k fuel, (sX A).length - p < f → f ≤ fuel → k + ((sX A).length - p) ≤ 80 → p < 1000 → l_X9_wrongSignOfPath_7 fuel (ov S n) 0 (nI p) (nI k) = some (ov S n, match pP (sX A) f p with
    | .inl e => nI e
    | .inr _ => -1) := by
  have h80 := H.2.2.2.2.1
  intro f
  induction f with
  | zero => intro p k fuel h1; omega
  | succ f ih =>
    intro p k fuel h1 h2 h3 hp
    obtain ⟨fu, rfl⟩ : ∃ f, fuel = f + 1 := ⟨fuel - 1, by omega⟩
    show b_X9_wrongSignOfPath_7 _ _ _ _ _ = _
    unfold b_X9_wrongSignOfPath_7 pP
    rw [xR5, bS, H.xl, bS]
    by_cases e : (sX A).length ≤ p
    · rw [if_pos (by rw [i_le (by omega) (by omega)]; exact e), if_pos e]
    · rw [if_neg (by rw [i_le (by omega) (by omega)]; exact e), if_neg e, if_neg (by rw [show (80 : Int32) = nI 80 from rfl, i_le (by omega) (by omega)]; omega), x_behind H hp, bS]
      cases hst : stp (sX A) p with
      | inl e' =>
        have := stp_e hst
        simp only
        rw [if_neg (fun q => Int32.not_lt.mpr q (er_neg (by omega))), er_back (by omega)]
      | inr r =>
        obtain ⟨q, nm, rk⟩ := r
        have hq := stp_q hst
        simp only
        rw [if_pos (nI_pos' (by omega)), nI_1, ih q (k + 1) fu (by omega) (by omega) (by omega) (by omega)]
        cases pP (sX A) f q with
        | inl e => rfl
        | inr l => rfl
theorem x_first' (H : CR S A) : f_X9_firstStep (ov S n) 0 = some (ov S n, nI (if (sX A)[0]? = some 126 then 1 else 0)) := by
  have a0 : f_X6_at (ov S n) 95 0 = some (ov S n, tc (sX A) 0) := x_atT (n := n) H (p := 0) (by omega)
  have q0 : (tc (sX A) 0 = 126) = ((sX A)[0]? = some 126) := tc_eq H.x256 (k := 126) (by omega)
  unfold f_X9_firstStep b_X9_firstStep_0
  simp only [x_chk, xR5, bS, a0, q0]
  by_cases c : (sX A)[0]? = some 126
  · rw [if_pos c, if_pos c]; rfl
  · rw [if_neg c, if_neg c]; rfl
theorem x_number (H : CR S A) {p q nm rk : Nat} (hp : p < 1000) (h : stp (sX A) p = .inr (q, nm, rk)) : f_X6_number (ov S n) 95 (nI (p + 3)) (nI q) = some (ov S n, nI rk) ∧ tc (sX A) (p + 1) - 48 = nI nm := by
  have step : ∀ (k5 : q_H → Nat → Int32 → Int32 → Int32 → Option (q_H × Int32)) (a m : Nat), a < 2000 → dgX (sX A) a = true → m < 1000 → a < q → b_X6_number_5 k5 (ov S n) 95 (nI q) (nI m) (nI a) = k5 (ov S n) 95 (nI q) (nI (10 * m + ((sX A).getD a 0 - 48))) (nI (a + 1)) := by
    intro k5 a m ha hd hm haq
    obtain ⟨-, c, e1, e2, e3, e4⟩ := dg_t hd
    have hq := stp_q h
    have htc : tc (sX A) a = nI c := by unfold tc; rw [e1]
    unfold b_X6_number_5
    rw [if_neg (by rw [i_le (by omega) (by omega)]; omega), x_atT H (by omega), bS, htc, e2, show (10 : Int32) = nI 10 from rfl, show (48 : Int32) = nI 48 from rfl, pk_mul, nI_add, pk_sub (by omega), nI_1, show 10 * m + c - 48 = 10 * m + (c - 48) by omega]
  have done : ∀ (k5 : q_H → Nat → Int32 → Int32 → Int32 → Option (q_H × Int32)) (a m : Nat), q ≤ a → a < 2000 → b_X6_number_5 k5 (ov S n) 95 (nI q) (nI m) (nI a) = some (ov S n, nI m) := by
    intro k5 a m haq ha
    unfold b_X6_number_5
    rw [if_pos (by rw [i_le (by omega) (by omega)]; omega)]
  obtain ⟨f, hf⟩ := q_FUe
  have num : f_X6_number (ov S n) 95 (nI (p + 3)) (nI q) = b_X6_number_5 (l_X6_number_5 (f + 99)) (ov S n) 95 (nI q) (nI 0) (nI (p + 3)) := by
    unfold f_X6_number b_X6_number_0
    rw [zC, hf]
    rfl
  have nm1 : dgX (sX A) (p + 1) = true → tc (sX A) (p + 1) - 48 = nI ((sX A).getD (p + 1) 0 - 48) := by
    intro hd
    obtain ⟨-, c, e1, e2, e3, e4⟩ := dg_t hd
    have htc : tc (sX A) (p + 1) = nI c := by unfold tc; rw [e1]
    rw [htc, e2, show (48 : Int32) = nI 48 from rfl, pk_sub e3]
  have h' := h
  unfold stp at h
  split at h
  · split at h
    · rename_i d1
      split at h
      · split at h
        · rename_i d3
          rw [Bool.and_eq_true] at d3
          obtain ⟨-, c3, -, f1, f2, f3⟩ := dg_t d3.1
          split at h
          · rename_i d4
            cases h
            refine ⟨?_, nm1 d1⟩
            rw [num, step _ (p + 3) 0 (by omega) d3.1 (by omega) (by omega)]
            show b_X6_number_5 (l_X6_number_5 (f + 98)) _ _ _ _ _ = _
            rw [step _ (p + 3 + 1) _ (by omega) d4 (by omega) (by omega)]
            show b_X6_number_5 (l_X6_number_5 (f + 97)) _ _ _ _ _ = _
            rw [done _ _ _ (by omega) (by omega), Nat.mul_zero, Nat.zero_add]
          · cases h
            refine ⟨?_, nm1 d1⟩
            rw [num, step _ (p + 3) 0 (by omega) d3.1 (by omega) (by omega)]
            show b_X6_number_5 (l_X6_number_5 (f + 98)) _ _ _ _ _ = _
            rw [done _ _ _ (by omega) (by omega), Nat.mul_zero, Nat.zero_add]
        · cases h
      · cases h
        refine ⟨?_, nm1 d1⟩
        rw [num, done _ _ _ (by omega) (by omega)]
    · cases h
  · cases h
theorem x_child (h : TE S t E) {m nm rk : Nat} (hm : m < 2 ^ 31) (hn : nm < 2 ^ 31) (hr : rk < 2 ^ 31) : f_X7_childWith (ov S n) t (nI m) (nI nm) (nI rk) = some (ov S n, oI (chd E m nm rk)) := by
  have loop : ∀ d j fuel, j + d = 14 → 2 ≤ j → d < fuel → l_X7_childWith_3 fuel (ov S n) t (nI m) (nI nm) (nI rk) (nI j) = some (ov S n, oI (mFind (fun j => mRb E m j && (decide (cN (E j) = nm) && decide (mRk E j = rk))) j d)) := by
    intro d
    induction d with
    | zero =>
      intro j fuel hj h2 hf
      obtain ⟨f, rfl⟩ : ∃ f, fuel = f + 1 := ⟨fuel - 1, by omega⟩
      show b_X7_childWith_3 _ _ _ _ _ _ _ = _
      unfold b_X7_childWith_3
      rw [if_pos (by rw [show (14 : Int32) = nI 14 from rfl, i_le (by omega) (by omega)]; omega)]
      rfl
    | succ d ih =>
      intro j fuel hj h2 hf
      obtain ⟨f, rfl⟩ : ∃ f, fuel = f + 1 := ⟨fuel - 1, by omega⟩
      have := ih (j + 1) f (by omega) (by omega) (by omega)
      have hb := (h.2 j (by omega)).2
      have n1 := cN_lt (E j)
      have r1 := mRk_lt E j
      show b_X7_childWith_3 _ _ _ _ _ _ _ = _
      unfold b_X7_childWith_3 b_X7_childWith_47
      simp only [t_isRightBelow h (show j < 16 by omega) hm, bS, b2i_eq0, t_get h, t_ld h (show j < 16 by omega), c_name _ hb, i_eq (show cN (E j) < 2 ^ 31 by omega) hn, t_rankOf h (show j < 16 by omega), i_eq (show mRk E j < 2 ^ 31 by omega) hr, show (14 : Int32) = nI 14 from rfl, i_le (show 14 < 2 ^ 31 by omega) (show j < 2 ^ 31 by omega), show ¬ 14 ≤ j by omega, if_false, nI_1, this]
      show _ = some (ov S n, oI (if (mRb E m j && (decide (cN (E j) = nm) && decide (mRk E j = rk))) then some j else mFind (fun j => mRb E m j && (decide (cN (E j) = nm) && decide (mRk E j = rk))) (j + 1) d))
      cases c1 : mRb E m j
      · simp
      · by_cases c2 : cN (E j) = nm
        · by_cases c3 : mRk E j = rk
          · simp [c2, c3]; rfl
          · simp [c2, c3]
        · simp [c2]
  unfold f_X7_childWith b_X7_childWith_0
  rw [t_chk h]
  exact loop 12 2 q_FU (by omega) (by omega) (q_FU_lt (by omega))
theorem chd_lt {m nm rk j : Nat} (h : chd E m nm rk = some j) : j < 14 ∧ 2 ≤ j ∧ mRb E m j = true ∧ cN (E j) = nm ∧ mRk E j = rk := by
  obtain ⟨h1, h2, h3⟩ := find_in 12 2 j h
  simp only [Bool.and_eq_true, decide_eq_true_eq] at h1
  exact ⟨by omega, h2, h1.1, h1.2.1, h1.2.2⟩
theorem x_naL (H : CR S A) (h : TE S t E) : ∀ f p fuel (o : Option Nat) l, (sX A).length - p < f → f ≤ fuel → p < 1000 → (∀ m, o = some m → m < 14) → pP (sX A) f p = .inr l → l_X9_nodeAtPath_24 fuel (ov S n) 0 t (oI o) (nI p) = some (ov S n, match ndF E o l with
    | some m => nI m
    | none => -100) := by
  have h80 := H.2.2.2.2.1
  intro f
  induction f with
  | zero => intro p fuel o l h1; omega
  | succ f ih =>
    intro p fuel o l h1 h2 hp ho hP
    obtain ⟨fu, rfl⟩ : ∃ f, fuel = f + 1 := ⟨fuel - 1, by omega⟩
    show b_X9_nodeAtPath_24 _ _ _ _ _ _ = _
    unfold b_X9_nodeAtPath_24 b_X9_nodeAtPath_89
    unfold pP at hP
    rw [xR5, bS, H.xl, bS]
    by_cases e : (sX A).length ≤ p
    · rw [if_pos e] at hP
      cases hP
      rw [if_pos (by rw [i_le (by omega) (by omega)]; exact e)]
      cases o with
      | none => show (if (-1 : Int32) < 0 then _ else _) = _; rw [if_pos (by decide)]; rfl
      | some m =>
        have := ho m rfl
        show (if nI m < 0 then _ else _) = _
        rw [if_neg (nI_pos (by omega))]
        rfl
    · rw [if_neg e] at hP
      rw [if_neg (by rw [i_le (by omega) (by omega)]; exact e)]
      cases o with
      | none =>
        show (if (-1 : Int32) < 0 then (if (-1 : Int32) < 0 then _ else _) else _) = _
        rw [if_pos (by decide), if_pos (by decide), ndF_n]
      | some m =>
        have hm := ho m rfl
        show (if nI m < 0 then _ else _) = _
        rw [if_neg (nI_pos (by omega))]
        cases hst : stp (sX A) p with
        | inl e' => rw [hst] at hP; cases hP
        | inr r =>
          obtain ⟨q, nm, rk⟩ := r
          rw [hst] at hP
          simp only at hP
          have hq := stp_q hst
          have hbe := x_behind (n := n) H hp
          rw [hst] at hbe
          have hbe : f_X9_behindStep (ov S n) 0 (nI p) = some (ov S n, nI q) := hbe
          obtain ⟨hnum, hnm⟩ := x_number (n := n) H hp hst
          have hmx : q_max (nI q) (nI (p + 1)) = nI q := by
            rw [i_max (by omega) (by omega), Nat.max_eq_left (by omega)]
          have e1 : nI p + 1 = nI (p + 1) := nI_add p 1
          have e3 : nI p + 3 = nI (p + 3) := nI_add p 3
          cases hP2 : pP (sX A) f q with
          | inl e' => rw [hP2] at hP; cases hP
          | inr l2 =>
            rw [hP2] at hP
            cases hP
            have := ih q fu (chd E m nm rk) l2 (by omega) (by omega) (by omega) (fun j hj => (chd_lt hj).1) hP2
            have hch : f_X7_childWith (ov S n) t (oI (some m)) (nI nm) (nI rk) = some (ov S n, oI (chd E m nm rk)) := x_child h (by omega) (by omega) (by omega)
            simp only [hbe, bS, xR5, e1, e3, hmx, x_atT H (show p + 1 < 2 ^ 31 by omega), hnum, hnm, hch]
            exact this
end FN
