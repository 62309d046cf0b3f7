/-! THE FEWEST LETTERS 4 -/
section NA
variable {S : o_S} {n : Nat × Nat × Nat} {A : aS} {T o s t : Nat}
theorem nIv.uq {Q : Nat → Nat → Nat → Nat → Bool} {nA nB nC nD v v' : Nat} (h : nIv Q nA nB nC nD v (nB + 1) 0 0 0) (h' : nIv Q nA nB nC nD v' (nB + 1) 0 0 0) (hA : nA ≤ 6) (hB : nB ≤ 6) (hC : nC ≤ 6) (hD : nD ≤ 6) : v = v' := by
  obtain ⟨a1, a2, a3⟩ := h
  obtain ⟨b1, b2, b3⟩ := h'
  rcases a3 with a3 | ⟨a, b, c, d, q1, q2, q3, q4, q5, q6⟩
  · rcases b3 with b3 | ⟨a, b, c, d, q1, q2, q3, q4, q5, q6⟩
    · rw [a3, b3]
    · have := a2 a b c d q1 q2 q3 q4 (Or.inl (by omega)) q5
      have := ky_lt (a := a) (b := b) (c := c) (d := d) (by omega) (by omega) (by omega) (by omega)
      omega
  · have h1 := b2 a b c d q1 q2 q3 q4 (Or.inl (by omega)) q5
    have := ky_lt (a := a) (b := b) (c := c) (d := d) (by omega) (by omega) (by omega) (by omega)
    rcases b3 with b3 | ⟨a', b', c', d', r1, r2, r3, r4, r5, r6⟩
    · omega
    · have h2 := a2 a' b' c' d' r1 r2 r3 r4 (Or.inl (by omega)) r5
      omega
theorem code_lt {a b c d : Nat} (ha : a ≤ 6) (hb : b ≤ 6) (hc : c ≤ 6) (hd : d ≤ 6) : 343 * a + 49 * b + 7 * c + d < 2401 := by omega
/-- the reference's pair as a key -/
theorem rIv.nv {Q : Nat → Nat → Nat → Nat → Bool} {nA nB nC nD be fo : Nat} (h : rIv Q nA nB nC nD be fo 2401) (hA : nA ≤ 6) (hB : nB ≤ 6) (hC : nC ≤ 6) (hD : nD ≤ 6) : nIv Q nA nB nC nD (if be = 1000000 then 2 ^ 30 else be * 2401 + fo) (nB + 1) 0 0 0 := by
  obtain ⟨h1, h2⟩ := h
  rcases h2 with ⟨e1, e2⟩ | ⟨e1, e2, e3, a, b, c, d, q1, q2, q3, q4, q5, q6⟩
  · rw [if_pos e1]
    refine ⟨Nat.le_refl _, fun a b c d q1 q2 q3 q4 _ q5 => ?_, Or.inl rfl⟩
    have := h1 a b c d q1 q2 q3 q4 q5 (code_lt (by omega) (by omega) (by omega) (by omega))
    omega
  · rw [if_neg (by omega)]
    exact ⟨by omega, fun a b c d q1 q2 q3 q4 _ q5 => h1 a b c d q1 q2 q3 q4 q5 (code_lt (by omega) (by omega) (by omega) (by omega)), Or.inr ⟨a, b, c, d, q1, q2, q3, q4, q5, q6⟩⟩
def nRow (v : Nat) : List Int64 := [] ++ [Int32.toInt64 (nI (v / 343 % 7))] ++ [Int32.toInt64 (nI (v / 49 % 7))] ++ [Int32.toInt64 (nI (v / 7 % 7))] ++ [Int32.toInt64 (nI (v % 7))]
theorem x_lOn (h : q_H) {v w : Nat} (hv : v < 2 ^ 31) (hw : w ≤ 3) : f_X2_lettersOn h (nI v) (nI w) = some (h, nI (v / 7 ^ (3 - w) % 7)) := by
  obtain ⟨f, hf⟩ := q_FUe
  have st : ∀ (k4 : q_H → Int32 → Int32 → Int32 → Option (q_H × Int32)) (x m : Nat), x < 2 ^ 31 → m ≤ 3 → b_X2_lettersOn_4 k4 h (nI w) (nI x) (nI m) = if m ≤ w then some (h, nI (x % 7)) else k4 h (nI w) (nI (x / 7)) (nI m + -1) := by
    intro k4 x m hx hm
    unfold b_X2_lettersOn_4
    by_cases e : m ≤ w
    · rw [if_pos e, if_pos (by rw [i_le (by omega) (by omega)]; exact e), show (7 : Int32) = nI 7 from rfl, q_remk hx (by omega) (by omega), bS]
    · rw [if_neg e, if_neg (by rw [i_le (by omega) (by omega)]; exact e), show (7 : Int32) = nI 7 from rfl, q_divk hx (by omega) (by omega), bS]
  have h1 : v / 7 < 2 ^ 31 := by omega
  have h2 : v / 7 / 7 < 2 ^ 31 := by omega
  have h3 : v / 7 / 7 / 7 < 2 ^ 31 := by omega
  unfold f_X2_lettersOn b_X2_lettersOn_0
  rw [hf]
  show b_X2_lettersOn_4 (l_X2_lettersOn_4 (f + 99)) h (nI w) (nI v) (nI 3) = _
  rw [st _ v 3 hv (by omega)]
  by_cases c3 : 3 ≤ w
  · have : w = 3 := by omega
    subst this
    rw [if_pos c3, Nat.sub_self, Nat.pow_zero, Nat.div_one]
  rw [if_neg c3]
  show b_X2_lettersOn_4 (l_X2_lettersOn_4 (f + 98)) h (nI w) (nI (v / 7)) (nI 2) = _
  rw [st _ (v / 7) 2 h1 (by omega)]
  by_cases c2 : 2 ≤ w
  · have : w = 2 := by omega
    subst this
    rw [if_pos c2]
  rw [if_neg c2]
  show b_X2_lettersOn_4 (l_X2_lettersOn_4 (f + 97)) h (nI w) (nI (v / 7 / 7)) (nI 1) = _
  rw [st _ (v / 7 / 7) 1 h2 (by omega)]
  by_cases c1 : 1 ≤ w
  · have : w = 1 := by omega
    subst this
    rw [if_pos c1, Nat.div_div_eq_div_mul]
  rw [if_neg c1]
  have : w = 0 := by omega
  subst this
  show b_X2_lettersOn_4 (l_X2_lettersOn_4 (f + 96)) h (nI 0) (nI (v / 7 / 7 / 7)) (nI 0) = _
  rw [st _ (v / 7 / 7 / 7) 0 h3 (by omega), if_pos (Nat.le_refl _), Nat.div_div_eq_div_mul, Nat.div_div_eq_div_mul]
theorem x_neaR (H : CR S A) {v : Nat} (hv : v < 2 ^ 31) : ∃ S', l_X9_nearest_41 q_FU (ov (o_sf S 93 1 0) n) 0 (nI v) 0 = some (ov S' n, nI (v / 2401)) ∧ CR S' (sRow A (nRow v)) ∧ AG (fun b => b = 93 ∨ b = 94) S S' := by
  obtain ⟨f, hf⟩ := q_FUe
  have st : ∀ (k42 : q_H → Nat → Int32 → Int32 → Option (q_H × Int32)) (S : o_S) (A : aS) (w : Nat), CR S A → (sR A).length < 80 → w ≤ 3 → ∃ S', b_X9_nearest_41 k42 (ov S n) 0 (nI v) (nI w) = k42 (ov S' n) 0 (nI v) (nI (w + 1)) ∧ CR S' (sRow A (sR A ++ [Int32.toInt64 (nI (v / 7 ^ (3 - w) % 7))])) ∧ AG (fun b => b = 93 ∨ b = 94) S S' := by
    intro k42 S A w H hl hw
    obtain ⟨S1, k1, k2, k3⟩ := x_add (n := n) H hl (Int32.toInt64 (nI (v / 7 ^ (3 - w) % 7)))
    refine ⟨S1, ?_, k2, k3⟩
    unfold b_X9_nearest_41
    rw [if_neg (by rw [show (4 : Int32) = nI 4 from rfl, i_le (by omega) (by omega)]; omega), xR4, bS, x_lOn _ hv hw, bS, k1, bS, nI_1]
  obtain ⟨S1, a1, a2, a3⟩ := st (l_X9_nearest_41 (f + 99)) (o_sf S 93 1 0) (sRow A []) 0 (x_row0 H) (show (0 : Nat) < 80 by omega) (by omega)
  obtain ⟨S2, b1, b2, b3⟩ := st (l_X9_nearest_41 (f + 98)) S1 _ 1 a2 (show (1 : Nat) < 80 by omega) (by omega)
  obtain ⟨S3, c1, c2, c3⟩ := st (l_X9_nearest_41 (f + 97)) S2 _ 2 b2 (show (2 : Nat) < 80 by omega) (by omega)
  obtain ⟨S4, d1, d2, d3⟩ := st (l_X9_nearest_41 (f + 96)) S3 _ 3 c2 (show (3 : Nat) < 80 by omega) (by omega)
  refine ⟨S4, ?_, ?_, ((((AG_sf S 93 1 0).tr a3 (C := fun b => b = 93 ∨ b = 94) (fun b q => Or.inl q) (fun _ q => q)).tr b3 (C := fun b => b = 93 ∨ b = 94) (fun _ q => q) (fun _ q => q)).tr c3 (C := fun b => b = 93 ∨ b = 94) (fun _ q => q) (fun _ q => q)).tr d3 (fun _ q => q) (fun _ q => q)⟩
  · rw [hf]
    show b_X9_nearest_41 (l_X9_nearest_41 (f + 99)) _ 0 (nI v) (nI 0) = _
    rw [a1]
    show b_X9_nearest_41 (l_X9_nearest_41 (f + 98)) _ 0 (nI v) (nI 1) = _
    rw [b1]
    show b_X9_nearest_41 (l_X9_nearest_41 (f + 97)) _ 0 (nI v) (nI 2) = _
    rw [c1]
    show b_X9_nearest_41 (l_X9_nearest_41 (f + 96)) _ 0 (nI v) (nI 3) = _
    rw [d1]
    show b_X9_nearest_41 (l_X9_nearest_41 (f + 95)) _ 0 (nI v) (nI 4) = _
    unfold b_X9_nearest_41 f_X2_allLetters b_X2_allLetters_0
    rw [if_pos (by decide), show (2401 : Int32) = nI 2401 from rfl, q_divk hv (by omega) (by omega), bS, bS]
  · have e : v / 7 ^ (3 - 3) % 7 = v % 7 := by rw [Nat.sub_self, Nat.pow_zero, Nat.div_one]
    rw [e] at d2
    exact d2
theorem nr_dig {be fo : Nat} (hfo : fo < 2401) : (be * 2401 + fo) / 343 % 7 = fo / 343 ∧ (be * 2401 + fo) / 49 % 7 = fo / 49 % 7 ∧ (be * 2401 + fo) / 7 % 7 = fo / 7 % 7 ∧ (be * 2401 + fo) % 7 = fo % 7 ∧ (be * 2401 + fo) / 2401 = be := by omega
theorem r_neaR (H : RR S A) {be fo : Nat} (hbe : be ≤ 24) (hfo : fo < 2401) (k : q_H → Nat → Int32 → Int32 → Int32 → Int32 → Int32 → Int32 → Int32 → Option (q_H × Int32)) (v1 v2 v3 : Int32) : ∃ S', b_X10_nearest_163 k (ov S n) 296 v1 v2 v3 7 (nI be) (nI fo) (nI 2401) = some (ov S' n, nI be) ∧ RR S' (sRow A (nRow (be * 2401 + fo))) ∧ RE S S' := by
  obtain ⟨e1, e2, e3, e4, -⟩ := nr_dig (be := be) hfo
  obtain ⟨S1, a1, a2, a3⟩ := r_enters (n := n) (r_row0 H) (show (0 : Nat) < 80 by omega) (Int32.toInt64 (nI (fo / 343)))
  obtain ⟨S2, b1, b2, b3⟩ := r_enters (n := n) a2 (show (1 : Nat) < 80 by omega) (Int32.toInt64 (nI (fo / 49 % 7)))
  obtain ⟨S3, c1, c2, c3⟩ := r_enters (n := n) b2 (show (2 : Nat) < 80 by omega) (Int32.toInt64 (nI (fo / 7 % 7)))
  obtain ⟨S4, d1, d2, d3⟩ := r_enters (n := n) c2 (show (3 : Nat) < 80 by omega) (Int32.toInt64 (nI (fo % 7)))
  have p1 : q_div (nI fo) (((7 : Int32) * 7) * 7) = some (nI (fo / 343)) := by rw [show ((7 : Int32) * 7) * 7 = nI 343 from by decide]; exact q_divk (by omega) (by omega) (by omega)
  have p2 : q_div (nI fo) ((7 : Int32) * 7) = some (nI (fo / 49)) := by rw [show (7 : Int32) * 7 = nI 49 from by decide]; exact q_divk (by omega) (by omega) (by omega)
  have p3 : q_rem (nI (fo / 49)) 7 = some (nI (fo / 49 % 7)) := q_remk (k := 7) (by omega) (by omega) (by omega)
  have p4 : q_div (nI fo) 7 = some (nI (fo / 7)) := q_divk (k := 7) (by omega) (by omega) (by omega)
  have p5 : q_rem (nI (fo / 7)) 7 = some (nI (fo / 7 % 7)) := q_remk (k := 7) (by omega) (by omega) (by omega)
  have p6 : q_rem (nI fo) 7 = some (nI (fo % 7)) := q_remk (k := 7) (by omega) (by omega) (by omega)
  refine ⟨S4, ?_, ?_, (((re_row0.tr a3).tr b3).tr c3).tr d3⟩
  · unfold b_X10_nearest_163
    rw [if_pos (by decide), if_neg (by rw [show (1000000 : Int32) = nI 1000000 from rfl, i_eq (by omega) (by omega)]; omega), rP1, bS, p1, bS, a1, bS, p2, bS, p3, bS, b1, bS, p4, bS, p5, bS, c1, bS, p6, bS, d1, bS]
  · unfold nRow
    rw [e1, e2, e3, e4]
    exact d2
theorem ag_nearest (h : OKA T A) (x y : Int32) : AGR T A (fun h => f_X9_nearest h 0 x y) (fun h => f_X10_nearest h 296 x y) := by
  by_cases e : two x y = true
  · obtain ⟨o, s, ho, hs, hos, rfl, rfl⟩ := two_t e
    obtain ⟨t, htt⟩ : ∃ t, t = 3 - o - s := ⟨_, rfl⟩
    have ht : t < 3 := by omega
    have hl1 := (h.1.2.2.2.2.1 o s ho hs).1
    have hl2 := (h.1.2.2.2.2.1 t s ht hs).1
    have hl3 := (h.1.2.2.2.2.1 s o hs ho).1
    have hl4 := (h.1.2.2.2.2.1 t o ht ho).1
    have rs : ∀ (S : o_S) (n : Nat × Nat × Nat), RR S A → ∃ S1 be fo f', nR A o s t be fo 2401 ∧ f_X10_nearest (ov S n) 296 (nI o) (nI s) = b_X10_nearest_163 (l_X10_nearest_163 f') (ov S1 n) 296 (nI o) (nI s) (nI t) 7 (nI be) (nI fo) (nI 2401) ∧ RR S1 A ∧ AG (fun b => 296 ≤ b ∧ b < 313) S S1 := by
      intro S n H
      have H0 : RR (o_sf S 296 0 0) A := H.fld 0 (by omega) (by omega)
      obtain ⟨S1, g1, g2, g3⟩ := r_n35 (n := n) h ho hs ht (nI 1000000) (nI 0) ((wY (sW A) (3 * s + o)).length + 1) 0 q_FU (o_sf S 296 0 0) (by omega) (q_FU_lt (by omega)) H0 (fun i' j' _ _ q => by omega)
      have H1 := g3.rr H0
      obtain ⟨S2, k1, k2, k3, k4⟩ := r_n96 (n := n) h ho hs ht (nI 1000000) (nI 0) ((wY (sW A) (3 * o + s)).length + 1) 0 q_FU S1 (by omega) (q_FU_lt (by omega)) H1 g2 (fun i' j' _ _ q => by omega)
      have H2 := k4.rr H1
      obtain ⟨be, fo, f', p1, p2⟩ := r_n163 (n := n) h ho hs ht H2 k2 k3 2401 0 q_FU 1000000 0 (by omega) (q_FU_lt (by omega)) ⟨fun a b c d _ _ _ _ _ q => by omega, Or.inl ⟨rfl, rfl⟩⟩
      refine ⟨S2, be, fo, f', p1, ?_, H2, (((RZ.fld 0 (by omega) (by omega)).tr g3.1).tr k4.1).ag⟩
      have e3 : ((3 : Int32) - nI o) - nI s = nI t := by
        rw [show (3 : Int32) = nI 3 from rfl, pk_sub (by omega), pk_sub (by omega), htt]
      rw [← p2]
      show f_X10_nearest (ov S n) 296 (nI o) (nI s) = l_X10_nearest_163 q_FU (ov S2 n) 296 (nI o) (nI s) (nI t) 7 1000000 0 0
      have k1 : l_X10_nearest_96 q_FU (ov S1 n) 296 (nI o) (nI s) (nI t) 7 1000000 0 0 = l_X10_nearest_163 q_FU (ov S2 n) 296 (nI o) (nI s) (nI t) 7 1000000 0 0 := k1
      have g1 : l_X10_nearest_35 q_FU (ov (o_sf S 296 0 0) n) 296 (nI o) (nI s) (nI t) 7 1000000 0 0 = l_X10_nearest_96 q_FU (ov S1 n) 296 (nI o) (nI s) (nI t) 7 1000000 0 0 := g1
      unfold f_X10_nearest b_X10_nearest_0 f_X10_third b_X10_third_0
      rw [r_chk, rP0, bS, r_areTwo, bS, e, e3, bS]
      simp only [b2i_eq0, Bool.true_eq_false, if_false]
      rw [g1, k1]
    by_cases hex : ∃ v, nV A o s t v ((wY (sW A) (3 * s + o)).length + 1) 0 0 0
    · obtain ⟨v, hv⟩ := hex
      have hv30 := hv.1
      have uq : ∀ v', nV A o s t v' ((wY (sW A) (3 * s + o)).length + 1) 0 0 0 → v' = v := fun v' h' => nIv.uq h' hv hl1 hl3 hl4 hl2
      by_cases ev : v = 2 ^ 30
      · refine ⟨-2, A, fun S n H => ?_, fun S n H => ?_, h.mono (by omega)⟩
        · obtain ⟨S1, v', g1, g2, g3, g4⟩ := x_search (n := n) h ho hs hos htt H
          have := uq v' g3
          subst this
          rw [if_pos ev] at g1
          refine ⟨S1, ?_, g2, g4⟩
          unfold f_X9_nearest b_X9_nearest_0
          simp only [x_chk, x_areTwo, e, b2i_eq0, Bool.true_eq_false, if_false, bS, xR8, xR0, g1, show ¬ (0 : Int32) ≤ -1 by decide]
        · obtain ⟨S1, be, fo, f', p1, p2, p3, p4⟩ := rs S n H
          have hk := uq _ (rIv.nv p1 hl1 hl3 hl4 hl2)
          have hbe : be = 1000000 := by
            by_cases q : be = 1000000
            · exact q
            · rw [if_neg q] at hk
              rcases p1.2 with ⟨q1, -⟩ | ⟨-, q2, q3, -⟩
              · exact q1
              · omega
          refine ⟨S1, ?_, p3, p4⟩
          show f_X10_nearest (ov S n) 296 (nI o) (nI s) = _
          rw [p2, hbe]
          unfold b_X10_nearest_163
          rw [if_pos (by decide), if_pos (show nI 1000000 = 1000000 from rfl)]
      · refine ⟨nI (v / 2401), sRow A (nRow v), fun S n H => ?_, fun S n H => ?_, h.row (by omega) _⟩
        · obtain ⟨S1, v', g1, g2, g3, g4⟩ := x_search (n := n) h ho hs hos htt H
          have := uq v' g3
          subst this
          rw [if_neg ev] at g1
          obtain ⟨S2, k1, k2, k3⟩ := x_neaR (n := n) g2 (show v' < 2 ^ 31 by omega)
          refine ⟨S2, ?_, k2, g4.tr k3 (fun _ q => q) (fun b q => by omega)⟩
          unfold f_X9_nearest b_X9_nearest_0
          simp only [x_chk, x_areTwo, e, b2i_eq0, Bool.true_eq_false, if_false, bS, xR8, xR0, g1, i_0le (show v' < 2 ^ 31 by omega), if_true, xR4, yCl, k1]
        · obtain ⟨S1, be, fo, f', p1, p2, p3, p4⟩ := rs S n H
          have hk := uq _ (rIv.nv p1 hl1 hl3 hl4 hl2)
          have hbe : ¬ be = 1000000 := fun q => by rw [if_pos q] at hk; exact ev hk.symm
          rw [if_neg hbe] at hk
          have hb24 : be ≤ 24 ∧ fo < 2401 := by
            rcases p1.2 with ⟨q1, -⟩ | ⟨-, q2, q3, -⟩
            · exact absurd q1 hbe
            · exact ⟨q2, q3⟩
          obtain ⟨S2, k1, k2, k3⟩ := r_neaR (n := n) p3 hb24.1 hb24.2 (l_X10_nearest_163 f') (nI o) (nI s) (nI t)
          rw [hk] at k2
          refine ⟨S2, ?_, k2, p4.tr k3.ag (fun _ q => q) (fun _ q => q)⟩
          show f_X10_nearest (ov S n) 296 (nI o) (nI s) = _
          rw [p2, k1, ← hk, (nr_dig (be := be) hb24.2).2.2.2.2]
    · refine ⟨0, A, fun S n H => ?_, fun S n H => ?_, h.mono (by omega)⟩
      · obtain ⟨S1, v', g1, g2, g3, g4⟩ := x_search (n := n) h ho hs hos htt H
        exact absurd ⟨v', g3⟩ hex
      · obtain ⟨S1, be, fo, f', p1, p2, p3, p4⟩ := rs S n H
        exact absurd ⟨_, rIv.nv p1 hl1 hl3 hl4 hl2⟩ hex
  · have e' : two x y = false := by simpa using e
    refine ⟨-1, A, fun S n H => ⟨S, ?_, H, AG.rf⟩, fun S n H => ⟨_, ?_, H.fld (k := 0) 0 (by omega) (by omega), (RZ.fld 0 (by omega) (by omega)).ag⟩, h.mono (by omega)⟩
    · unfold f_X9_nearest b_X9_nearest_0
      simp only [x_chk, x_areTwo, e', b2i_eq0, if_true, bS]
    · unfold f_X10_nearest b_X10_nearest_0
      simp only [r_chk, rP0, bS, r_areTwo, e', b2i_eq0, if_true]
end NA
