/-! THE FEWEST LETTERS 3: the reference -/
theorem ky_e (a b c d : Nat) : ky a b c d = (a + b + c + d) * 2401 + (343 * a + 49 * b + 7 * c + d) := by unfold ky; omega
def rIv (Q : Nat → Nat → Nat → Nat → Bool) (nA nB nC nD be fo C : Nat) : Prop := (∀ a b c d, a ≤ nA → b ≤ nB → c ≤ nC → d ≤ nD → Q a b c d = true → 343 * a + 49 * b + 7 * c + d < C → be * 2401 + fo ≤ ky a b c d) ∧ ((be = 1000000 ∧ fo = 0) ∨ (fo < C ∧ be ≤ 24 ∧ fo < 2401 ∧ ∃ a b c d, a ≤ nA ∧ b ≤ nB ∧ c ≤ nC ∧ d ≤ nD ∧ Q a b c d = true ∧ be * 2401 + fo = ky a b c d))
theorem rIv.bd {Q : Nat → Nat → Nat → Nat → Bool} {nA nB nC nD be fo C : Nat} (h : rIv Q nA nB nC nD be fo C) : be ≤ 1000000 ∧ fo < 2401 := by
  rcases h.2 with ⟨h1, h2⟩ | ⟨h1, h2, h3, -⟩ <;> omega
theorem k2401 {x y z w : Nat} (g1 : x < y) (g2 : z < 2401) : x * 2401 + z ≤ y * 2401 + w := by omega
theorem rIv.step {Q : Nat → Nat → Nat → Nat → Bool} {nA nB nC nD be fo C a0 b0 c0 d0 : Nat} (h : rIv Q nA nB nC nD be fo C) (hA : nA ≤ 6) (hB : nB ≤ 6) (hC : nC ≤ 6) (hD : nD ≤ 6) (hc : C < 2401) (e1 : a0 = C / 343) (e2 : b0 = C / 49 % 7) (e3 : c0 = C / 7 % 7) (e4 : d0 = C % 7) (P : Prop) [Decidable P] (hP : P ↔ (a0 ≤ nA ∧ b0 ≤ nB ∧ c0 ≤ nC ∧ d0 ≤ nD ∧ a0 + b0 + c0 + d0 < be ∧ Q a0 b0 c0 d0 = true)) : rIv Q nA nB nC nD (if P then a0 + b0 + c0 + d0 else be) (if P then C else fo) (C + 1) := by
  have hcode : 343 * a0 + 49 * b0 + 7 * c0 + d0 = C := by omega
  obtain ⟨h1, h2⟩ := h
  by_cases e : P
  · rw [if_pos e, if_pos e]
    obtain ⟨p1, p2, p3, p4, p5, p6⟩ := hP.mp e
    refine ⟨fun a b c d q1 q2 q3 q4 q5 q6 => ?_, Or.inr ⟨by omega, by omega, hc, a0, b0, c0, d0, p1, p2, p3, p4, p6, by rw [ky_e]; omega⟩⟩
    by_cases eq : 343 * a + 49 * b + 7 * c + d = C
    · have : a = a0 ∧ b = b0 ∧ c = c0 ∧ d = d0 := by omega
      obtain ⟨rfl, rfl, rfl, rfl⟩ := this
      rw [ky_e]; omega
    · have := h1 a b c d q1 q2 q3 q4 q5 (by omega)
      exact Nat.le_trans (k2401 p5 hc) this
  · rw [if_neg e, if_neg e]
    refine ⟨fun a b c d q1 q2 q3 q4 q5 q6 => ?_, h2.imp id (fun q => ⟨by omega, q.2⟩)⟩
    by_cases eq : 343 * a + 49 * b + 7 * c + d = C
    · have : a = a0 ∧ b = b0 ∧ c = c0 ∧ d = d0 := by omega
      obtain ⟨rfl, rfl, rfl, rfl⟩ := this
      have hs : ¬ a + b + c + d < be := fun q => e (hP.mpr ⟨q1, q2, q3, q4, q, q5⟩)
      rw [ky_e]
      rcases h2 with ⟨h3, h4⟩ | ⟨h3, h4, h5, -⟩ <;> omega
    · exact h1 a b c d q1 q2 q3 q4 q5 (by omega)
section NR
variable {S : o_S} {n : Nat × Nat × Nat} {A : aS} {T o s t : Nat}
def sl1 (S : o_S) (A : aS) (o s t i j : Nat) : Prop := ∀ i' j', i' ≤ (wY (sW A) (3 * s + o)).length → j' ≤ (wY (sW A) (3 * t + o)).length → (i' < i ∨ (i' = i ∧ j' < j)) → TT S (2 + 7 * i' + j') (tG (sW A) o s t i' j')
def sl2 (S : o_S) (A : aS) (o s t i j : Nat) : Prop := ∀ i' j', i' ≤ (wY (sW A) (3 * o + s)).length → j' ≤ (wY (sW A) (3 * t + s)).length → (i' < i ∨ (i' = i ∧ j' < j)) → TT S (51 + 7 * i' + j') (tG (sW A) s o t i' j')
theorem i_s1 (i j : Nat) : ((2 : Int32) + (7 : Int32) * nI i) + nI j = nI (2 + 7 * i + j) := by
  rw [show (2 : Int32) = nI 2 from rfl, show (7 : Int32) = nI 7 from rfl, pk_mul, nI_add, nI_add]
theorem i_s2 (i j : Nat) : (((2 : Int32) + (7 : Int32) * (7 : Int32)) + (7 : Int32) * nI i) + nI j = nI (51 + 7 * i + j) := by
  rw [show ((2 : Int32) + (7 : Int32) * (7 : Int32)) = nI 51 from by decide, show (7 : Int32) = nI 7 from rfl, pk_mul, nI_add, nI_add]
theorem r_n49 (h : OKA T A) (ho : o < 3) (hs : s < 3) (ht : t < 3) (be fo : Int32) (k35 : q_H → Nat → Int32 → Int32 → Int32 → Int32 → Int32 → Int32 → Int32 → Option (q_H × Int32)) {i : Nat} (hi : i ≤ (wY (sW A) (3 * s + o)).length) : ∀ d j fuel (S : o_S), j + d = (wY (sW A) (3 * t + o)).length + 1 → d < fuel → RR S A → sl1 S A o s t i j → ∃ S', l_X10_nearest_49 k35 fuel (ov S n) 296 (nI o) (nI s) (nI t) 7 be fo (nI i) (nI j) = k35 (ov S' n) 296 (nI o) (nI s) (nI t) 7 be fo (nI (i + 1)) ∧ sl1 S' A o s t (i + 1) 0 ∧ wZ S S' := by
  have hl1 := (h.1.2.2.2.2.1 s o hs ho).1
  have hl2 := (h.1.2.2.2.2.1 t o ht ho).1
  intro d
  induction d with
  | zero =>
    intro j fuel S hj hfu H hD
    obtain ⟨fu, rfl⟩ : ∃ f, fuel = f + 1 := ⟨fuel - 1, by omega⟩
    have : j = (wY (sW A) (3 * t + o)).length + 1 := by omega
    subst this
    refine ⟨S, ?_, fun i' j' h1 h2 h3 => hD i' j' h1 h2 (by omega), wZ.rf⟩
    show b_X10_nearest_49 _ _ _ _ _ _ _ _ _ _ _ _ = _
    unfold b_X10_nearest_49
    rw [r_waiting H.1.2.2.2.2 ht ho, bS, if_pos (nI_lt (by omega) (by omega)), nI_1]
  | succ d ih =>
    intro j fuel S hj hfu H hD
    obtain ⟨fu, rfl⟩ : ∃ f, fuel = f + 1 := ⟨fuel - 1, by omega⟩
    obtain ⟨S1, g1, g2, g3, g4⟩ := r_lb (n := n) h H ho hs ht (s := 2 + 7 * i + j) (by omega) hi (show j ≤ (wY (sW A) (3 * t + o)).length by omega)
    have hD1 : sl1 S1 A o s t i (j + 1) := by
      intro i' j' h1 h2 h3
      by_cases e : i' = i ∧ j' = j
      · obtain ⟨rfl, rfl⟩ := e
        exact g2
      · exact g4 _ _ (by omega) (hD i' j' h1 h2 (by omega))
    obtain ⟨S2, k1, k2, k3⟩ := ih (j + 1) fu S1 (by omega) (by omega) (g3.rr H) hD1
    refine ⟨S2, ?_, k2, g3.tr k3⟩
    show b_X10_nearest_49 _ _ _ _ _ _ _ _ _ _ _ _ = _
    unfold b_X10_nearest_49
    rw [r_waiting H.1.2.2.2.2 ht ho, bS, if_neg (by rw [i_lt (by omega) (by omega)]; omega), i_s1, g1, bS, nI_1]
    exact k1
theorem r_n35 (h : OKA T A) (ho : o < 3) (hs : s < 3) (ht : t < 3) (be fo : Int32) : ∀ d i fuel (S : o_S), i + d = (wY (sW A) (3 * s + o)).length + 1 → d < fuel → RR S A → sl1 S A o s t i 0 → ∃ S', l_X10_nearest_35 fuel (ov S n) 296 (nI o) (nI s) (nI t) 7 be fo (nI i) = l_X10_nearest_96 q_FU (ov S' n) 296 (nI o) (nI s) (nI t) 7 be fo 0 ∧ sl1 S' A o s t ((wY (sW A) (3 * s + o)).length + 1) 0 ∧ wZ S S' := by
  have hl1 := (h.1.2.2.2.2.1 s o hs ho).1
  have hl2 := (h.1.2.2.2.2.1 t o ht ho).1
  intro d
  induction d with
  | zero =>
    intro i fuel S hi hfu H hD
    obtain ⟨fu, rfl⟩ : ∃ f, fuel = f + 1 := ⟨fuel - 1, by omega⟩
    have : i = (wY (sW A) (3 * s + o)).length + 1 := by omega
    subst this
    refine ⟨S, ?_, hD, wZ.rf⟩
    show b_X10_nearest_35 _ _ _ _ _ _ _ _ _ _ = _
    unfold b_X10_nearest_35
    rw [r_waiting H.1.2.2.2.2 hs ho, bS, if_pos (nI_lt (by omega) (by omega))]
  | succ d ih =>
    intro i fuel S hi hfu H hD
    obtain ⟨fu, rfl⟩ : ∃ f, fuel = f + 1 := ⟨fuel - 1, by omega⟩
    obtain ⟨S1, g1, g2, g3⟩ := r_n49 (n := n) h ho hs ht be fo (l_X10_nearest_35 fu) (i := i) (by omega) ((wY (sW A) (3 * t + o)).length + 1) 0 q_FU S (by omega) (q_FU_lt (by omega)) H hD
    obtain ⟨S2, k1, k2, k3⟩ := ih (i + 1) fu S1 (by omega) (by omega) (g3.rr H) g2
    refine ⟨S2, ?_, k2, g3.tr k3⟩
    show b_X10_nearest_35 _ _ _ _ _ _ _ _ _ _ = _
    unfold b_X10_nearest_35
    rw [r_waiting H.1.2.2.2.2 hs ho, bS, if_neg (by rw [i_lt (by omega) (by omega)]; omega)]
    exact g1.trans k1
theorem r_n110 (h : OKA T A) (ho : o < 3) (hs : s < 3) (ht : t < 3) (be fo : Int32) (k96 : q_H → Nat → Int32 → Int32 → Int32 → Int32 → Int32 → Int32 → Int32 → Option (q_H × Int32)) {i : Nat} (hi : i ≤ (wY (sW A) (3 * o + s)).length) : ∀ d j fuel (S : o_S), j + d = (wY (sW A) (3 * t + s)).length + 1 → d < fuel → RR S A → sl1 S A o s t ((wY (sW A) (3 * s + o)).length + 1) 0 → sl2 S A o s t i j → ∃ S', l_X10_nearest_110 k96 fuel (ov S n) 296 (nI o) (nI s) (nI t) 7 be fo (nI i) (nI j) = k96 (ov S' n) 296 (nI o) (nI s) (nI t) 7 be fo (nI (i + 1)) ∧ sl1 S' A o s t ((wY (sW A) (3 * s + o)).length + 1) 0 ∧ sl2 S' A o s t (i + 1) 0 ∧ wZ S S' := by
  have hl1 := (h.1.2.2.2.2.1 o s ho hs).1
  have hl2 := (h.1.2.2.2.2.1 t s ht hs).1
  have hl3 := (h.1.2.2.2.2.1 s o hs ho).1
  have hl4 := (h.1.2.2.2.2.1 t o ht ho).1
  intro d
  induction d with
  | zero =>
    intro j fuel S hj hfu H hD1 hD
    obtain ⟨fu, rfl⟩ : ∃ f, fuel = f + 1 := ⟨fuel - 1, by omega⟩
    have : j = (wY (sW A) (3 * t + s)).length + 1 := by omega
    subst this
    refine ⟨S, ?_, hD1, fun i' j' h1 h2 h3 => hD i' j' h1 h2 (by omega), wZ.rf⟩
    show b_X10_nearest_110 _ _ _ _ _ _ _ _ _ _ _ _ = _
    unfold b_X10_nearest_110
    rw [r_waiting H.1.2.2.2.2 ht hs, bS, if_pos (nI_lt (by omega) (by omega)), nI_1]
  | succ d ih =>
    intro j fuel S hj hfu H hD1 hD
    obtain ⟨fu, rfl⟩ : ∃ f, fuel = f + 1 := ⟨fuel - 1, by omega⟩
    obtain ⟨S1, g1, g2, g3, g4⟩ := r_lb (n := n) h H hs ho ht (s := 51 + 7 * i + j) (by omega) hi (show j ≤ (wY (sW A) (3 * t + s)).length by omega)
    have hD2 : sl2 S1 A o s t i (j + 1) := by
      intro i' j' h1 h2 h3
      by_cases e : i' = i ∧ j' = j
      · obtain ⟨rfl, rfl⟩ := e
        exact g2
      · exact g4 _ _ (by omega) (hD i' j' h1 h2 (by omega))
    have hD3 : sl1 S1 A o s t ((wY (sW A) (3 * s + o)).length + 1) 0 := fun i' j' h1 h2 h3 => g4 _ _ (by omega) (hD1 i' j' h1 h2 h3)
    obtain ⟨S2, k1, k2, k3, k4⟩ := ih (j + 1) fu S1 (by omega) (by omega) (g3.rr H) hD3 hD2
    refine ⟨S2, ?_, k2, k3, g3.tr k4⟩
    show b_X10_nearest_110 _ _ _ _ _ _ _ _ _ _ _ _ = _
    unfold b_X10_nearest_110
    rw [r_waiting H.1.2.2.2.2 ht hs, bS, if_neg (by rw [i_lt (by omega) (by omega)]; omega), i_s2, g1, bS, nI_1]
    exact k1
theorem r_n96 (h : OKA T A) (ho : o < 3) (hs : s < 3) (ht : t < 3) (be fo : Int32) : ∀ d i fuel (S : o_S), i + d = (wY (sW A) (3 * o + s)).length + 1 → d < fuel → RR S A → sl1 S A o s t ((wY (sW A) (3 * s + o)).length + 1) 0 → sl2 S A o s t i 0 → ∃ S', l_X10_nearest_96 fuel (ov S n) 296 (nI o) (nI s) (nI t) 7 be fo (nI i) = l_X10_nearest_163 q_FU (ov S' n) 296 (nI o) (nI s) (nI t) 7 be fo 0 ∧ sl1 S' A o s t ((wY (sW A) (3 * s + o)).length + 1) 0 ∧ sl2 S' A o s t ((wY (sW A) (3 * o + s)).length + 1) 0 ∧ wZ S S' := by
  have hl1 := (h.1.2.2.2.2.1 o s ho hs).1
  have hl2 := (h.1.2.2.2.2.1 t s ht hs).1
  intro d
  induction d with
  | zero =>
    intro i fuel S hi hfu H hD1 hD
    obtain ⟨fu, rfl⟩ : ∃ f, fuel = f + 1 := ⟨fuel - 1, by omega⟩
    have : i = (wY (sW A) (3 * o + s)).length + 1 := by omega
    subst this
    refine ⟨S, ?_, hD1, hD, wZ.rf⟩
    show b_X10_nearest_96 _ _ _ _ _ _ _ _ _ _ = _
    unfold b_X10_nearest_96
    rw [r_waiting H.1.2.2.2.2 ho hs, bS, if_pos (nI_lt (by omega) (by omega))]
  | succ d ih =>
    intro i fuel S hi hfu H hD1 hD
    obtain ⟨fu, rfl⟩ : ∃ f, fuel = f + 1 := ⟨fuel - 1, by omega⟩
    obtain ⟨S1, g1, g2, g3, g4⟩ := r_n110 (n := n) h ho hs ht be fo (l_X10_nearest_96 fu) (i := i) (by omega) ((wY (sW A) (3 * t + s)).length + 1) 0 q_FU S (by omega) (q_FU_lt (by omega)) H hD1 hD
    obtain ⟨S2, k1, k2, k3, k4⟩ := ih (i + 1) fu S1 (by omega) (by omega) (g4.rr H) g2 g3
    refine ⟨S2, ?_, k2, k3, g4.tr k4⟩
    show b_X10_nearest_96 _ _ _ _ _ _ _ _ _ _ = _
    unfold b_X10_nearest_96
    rw [r_waiting H.1.2.2.2.2 ho hs, bS, if_neg (by rw [i_lt (by omega) (by omega)]; omega)]
    exact g1.trans k1
theorem q_divk {a k : Nat} (ha : a < 2 ^ 31) (h0 : 0 < k) (hk : k < 2 ^ 31) : q_div (nI a) (nI k) = some (nI (a / k)) := by
  unfold q_div
  rw [if_neg (nI_ne0 h0 hk), pk_div ha h0 hk]
def nR (A : aS) (o s t be fo C : Nat) : Prop := rIv (nQ A o s t) (wY (sW A) (3 * o + s)).length (wY (sW A) (3 * s + o)).length (wY (sW A) (3 * t + o)).length (wY (sW A) (3 * t + s)).length be fo C
theorem r_oth (h : OKA T A) (ho : o < 3) (hs : s < 3) (ht : t < 3) {a b c d : Nat} (ha : a ≤ (wY (sW A) (3 * o + s)).length) (hb : b ≤ (wY (sW A) (3 * s + o)).length) (hc : c ≤ (wY (sW A) (3 * t + o)).length) (hd : d ≤ (wY (sW A) (3 * t + s)).length) (h1 : sl1 S A o s t ((wY (sW A) (3 * s + o)).length + 1) 0) (h2 : sl2 S A o s t ((wY (sW A) (3 * o + s)).length + 1) 0) : ∃ v, v < 2 ^ 31 ∧ f_X10_other (ov S n) 296 (nI (2 + 7 * b + c)) (nI (51 + 7 * a + d)) = some (ov S n, nI v) ∧ (v = 0 ↔ nQ A o s t a b c d = true) := by
  have e1 := r_otherSet (n := n) (h1 b c hb hc (Or.inl (by omega))) (h.1.tgi ho hs ht b c) (h2 a d ha hd (Or.inl (by omega))) (h.1.tgi hs ho ht a d)
  have hlt := ot_lt (tG (sW A) o s t b c) (tG (sW A) s o t a d)
  have hcb := cb_lt (mOt (tG (sW A) o s t b c) (tG (sW A) s o t a d))
  refine ⟨cbit 20 (mOt (tG (sW A) o s t b c) (tG (sW A) s o t a d)), by omega, ?_, ?_⟩
  · unfold f_X10_other b_X10_other_0
    rw [r_chk, e1, bS, r_bitsOf _ (by omega), bS]
  · rw [cbit_z (by omega), ot_0]
    exact Iff.rfl
theorem r_n163 (h : OKA T A) (ho : o < 3) (hs : s < 3) (ht : t < 3) (H : RR S A) (h1 : sl1 S A o s t ((wY (sW A) (3 * s + o)).length + 1) 0) (h2 : sl2 S A o s t ((wY (sW A) (3 * o + s)).length + 1) 0) : ∀ e C fuel be fo, C + e = 2401 → e < fuel → nR A o s t be fo C → ∃ be' fo' f', nR A o s t be' fo' 2401 ∧ l_X10_nearest_163 fuel (ov S n) 296 (nI o) (nI s) (nI t) 7 (nI be) (nI fo) (nI C) = b_X10_nearest_163 (l_X10_nearest_163 f') (ov S n) 296 (nI o) (nI s) (nI t) 7 (nI be') (nI fo') (nI 2401) := by
  have hl1 := (h.1.2.2.2.2.1 o s ho hs).1
  have hl2 := (h.1.2.2.2.2.1 t s ht hs).1
  have hl3 := (h.1.2.2.2.2.1 s o hs ho).1
  have hl4 := (h.1.2.2.2.2.1 t o ht ho).1
  intro e
  induction e with
  | zero =>
    intro C fuel be fo hC hfu hn
    obtain ⟨fu, rfl⟩ : ∃ f, fuel = f + 1 := ⟨fuel - 1, by omega⟩
    have : C = 2401 := by omega
    subst this
    exact ⟨be, fo, fu, hn, rfl⟩
  | succ e ih =>
    intro C fuel be fo hC hfu hn
    obtain ⟨fu, rfl⟩ : ∃ f, fuel = f + 1 := ⟨fuel - 1, by omega⟩
    obtain ⟨hbe, hfo⟩ := hn.bd
    have go : ∀ (P : Prop) [Decidable P], (P ↔ (C / 343 ≤ (wY (sW A) (3 * o + s)).length ∧ C / 49 % 7 ≤ (wY (sW A) (3 * s + o)).length ∧ C / 7 % 7 ≤ (wY (sW A) (3 * t + o)).length ∧ C % 7 ≤ (wY (sW A) (3 * t + s)).length ∧ C / 343 + C / 49 % 7 + C / 7 % 7 + C % 7 < be ∧ nQ A o s t (C / 343) (C / 49 % 7) (C / 7 % 7) (C % 7) = true)) → b_X10_nearest_163 (l_X10_nearest_163 fu) (ov S n) 296 (nI o) (nI s) (nI t) 7 (nI be) (nI fo) (nI C) = l_X10_nearest_163 fu (ov S n) 296 (nI o) (nI s) (nI t) 7 (nI (if P then C / 343 + C / 49 % 7 + C / 7 % 7 + C % 7 else be)) (nI (if P then C else fo)) (nI (C + 1)) → ∃ be' fo' f', nR A o s t be' fo' 2401 ∧ l_X10_nearest_163 (fu + 1) (ov S n) 296 (nI o) (nI s) (nI t) 7 (nI be) (nI fo) (nI C) = b_X10_nearest_163 (l_X10_nearest_163 f') (ov S n) 296 (nI o) (nI s) (nI t) 7 (nI be') (nI fo') (nI 2401) := by
      intro P hdP hP heq
      have hst := rIv.step hn hl1 hl3 hl4 hl2 (show C < 2401 by omega) rfl rfl rfl rfl P hP
      obtain ⟨be', fo', f', k1, k2⟩ := ih (C + 1) fu _ _ (by omega) (by omega) hst
      exact ⟨be', fo', f', k1, heq.trans k2⟩
    have w1 := r_waiting (n := n) H.1.2.2.2.2 ho hs
    have w2 := r_waiting (n := n) H.1.2.2.2.2 hs ho
    have w3 := r_waiting (n := n) H.1.2.2.2.2 ht ho
    have w4 := r_waiting (n := n) H.1.2.2.2.2 ht hs
    have d1 : q_div (nI C) (((7 : Int32) * 7) * 7) = some (nI (C / 343)) := by rw [show ((7 : Int32) * 7) * 7 = nI 343 from by decide]; exact q_divk (by omega) (by omega) (by omega)
    have d2 : q_div (nI C) ((7 : Int32) * 7) = some (nI (C / 49)) := by rw [show (7 : Int32) * 7 = nI 49 from by decide]; exact q_divk (by omega) (by omega) (by omega)
    have d3 : q_rem (nI (C / 49)) 7 = some (nI (C / 49 % 7)) := q_remk (k := 7) (by omega) (by omega) (by omega)
    have d4 : q_div (nI C) 7 = some (nI (C / 7)) := q_divk (k := 7) (by omega) (by omega) (by omega)
    have d5 : q_rem (nI (C / 7)) 7 = some (nI (C / 7 % 7)) := q_remk (k := 7) (by omega) (by omega) (by omega)
    have d6 : q_rem (nI C) 7 = some (nI (C % 7)) := q_remk (k := 7) (by omega) (by omega) (by omega)
    have nf : ¬ ((((7 : Int32) * 7) * 7) * 7) ≤ nI C := by rw [show (((7 : Int32) * 7) * 7) * 7 = nI 2401 from by decide, i_le (by omega) (by omega)]; omega
    have heq : b_X10_nearest_163 (l_X10_nearest_163 fu) (ov S n) 296 (nI o) (nI s) (nI t) 7 (nI be) (nI fo) (nI C) = if (wY (sW A) (3 * o + s)).length < C / 343 then l_X10_nearest_163 fu (ov S n) 296 (nI o) (nI s) (nI t) 7 (nI be) (nI fo) (nI (C + 1)) else if (wY (sW A) (3 * s + o)).length < C / 49 % 7 then l_X10_nearest_163 fu (ov S n) 296 (nI o) (nI s) (nI t) 7 (nI be) (nI fo) (nI (C + 1)) else if (wY (sW A) (3 * t + o)).length < C / 7 % 7 then l_X10_nearest_163 fu (ov S n) 296 (nI o) (nI s) (nI t) 7 (nI be) (nI fo) (nI (C + 1)) else if (wY (sW A) (3 * t + s)).length < C % 7 then l_X10_nearest_163 fu (ov S n) 296 (nI o) (nI s) (nI t) 7 (nI be) (nI fo) (nI (C + 1)) else if be ≤ C / 343 + C / 49 % 7 + C / 7 % 7 + C % 7 then l_X10_nearest_163 fu (ov S n) 296 (nI o) (nI s) (nI t) 7 (nI be) (nI fo) (nI (C + 1)) else Option.bind (f_X10_other (ov S n) 296 (nI (2 + 7 * (C / 49 % 7) + C / 7 % 7)) (nI (51 + 7 * (C / 343) + C % 7))) (fun q1 => if q1.2 = 0 then l_X10_nearest_163 fu q1.1 296 (nI o) (nI s) (nI t) 7 (nI (C / 343 + C / 49 % 7 + C / 7 % 7 + C % 7)) (nI C) (nI (C + 1)) else l_X10_nearest_163 fu q1.1 296 (nI o) (nI s) (nI t) 7 (nI be) (nI fo) (nI (C + 1))) := by
      unfold b_X10_nearest_163 b_X10_nearest_270 b_X10_nearest_271 b_X10_nearest_344
      rw [if_neg nf, d1, bS, d2, bS, d3, bS, d4, bS, d5, bS, d6, bS]
      simp only [w1, w2, w3, w4, bS, i_s1, i_s2, nI_1, nI_add, if_true, show ¬ (1 : Int32) = 0 by decide, if_false, i_lt (show (wY (sW A) (3 * o + s)).length < 2 ^ 31 by omega) (show C / 343 < 2 ^ 31 by omega), i_lt (show (wY (sW A) (3 * s + o)).length < 2 ^ 31 by omega) (show C / 49 % 7 < 2 ^ 31 by omega), i_lt (show (wY (sW A) (3 * t + o)).length < 2 ^ 31 by omega) (show C / 7 % 7 < 2 ^ 31 by omega), i_lt (show (wY (sW A) (3 * t + s)).length < 2 ^ 31 by omega) (show C % 7 < 2 ^ 31 by omega), i_le (show be < 2 ^ 31 by omega) (show C / 343 + C / 49 % 7 + C / 7 % 7 + C % 7 < 2 ^ 31 by omega)]
    rw [heq] at go
    by_cases c1 : (wY (sW A) (3 * o + s)).length < C / 343
    · rw [if_pos c1] at go
      exact go False ⟨False.elim, fun q => by omega⟩ (by rw [if_neg id, if_neg id])
    rw [if_neg c1] at go
    by_cases c2 : (wY (sW A) (3 * s + o)).length < C / 49 % 7
    · rw [if_pos c2] at go
      exact go False ⟨False.elim, fun q => by omega⟩ (by rw [if_neg id, if_neg id])
    rw [if_neg c2] at go
    by_cases c3 : (wY (sW A) (3 * t + o)).length < C / 7 % 7
    · rw [if_pos c3] at go
      exact go False ⟨False.elim, fun q => by omega⟩ (by rw [if_neg id, if_neg id])
    rw [if_neg c3] at go
    by_cases c4 : (wY (sW A) (3 * t + s)).length < C % 7
    · rw [if_pos c4] at go
      exact go False ⟨False.elim, fun q => by omega⟩ (by rw [if_neg id, if_neg id])
    rw [if_neg c4] at go
    by_cases c5 : be ≤ C / 343 + C / 49 % 7 + C / 7 % 7 + C % 7
    · rw [if_pos c5] at go
      exact go False ⟨False.elim, fun q => by omega⟩ (by rw [if_neg id, if_neg id])
    rw [if_neg c5] at go
    obtain ⟨v, hv, ev, hvq⟩ := r_oth (n := n) h ho hs ht (a := C / 343) (b := C / 49 % 7) (c := C / 7 % 7) (d := C % 7) (by omega) (by omega) (by omega) (by omega) h1 h2
    rw [ev, bS] at go
    refine go (v = 0) ?_ ?_
    · rw [hvq]
      exact ⟨fun q => ⟨by omega, by omega, by omega, by omega, by omega, q⟩, fun q => q.2.2.2.2.2⟩
    · by_cases c6 : v = 0
      · rw [if_pos c6, if_pos c6, if_pos (show nI v = 0 by rw [c6]; rfl)]
      · rw [if_neg c6, if_neg c6, if_neg (show ¬ nI v = 0 by rw [i_eq0 hv]; exact c6)]
end NR
