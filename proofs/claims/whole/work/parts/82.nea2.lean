/-! THE FEWEST LETTERS 2: the class's search -/
def ky (a b c d : Nat) : Nat := ((((a + b + c + d) * 7 + a) * 7 + b) * 7 + c) * 7 + d
theorem ky_lt {a b c d : Nat} (ha : a ≤ 6) (hb : b ≤ 6) (hc : c ≤ 6) (hd : d ≤ 6) : ky a b c d < 2 ^ 30 := by unfold ky; omega
/-- the least key of those that were looked at -/
def nIv (Q : Nat → Nat → Nat → Nat → Bool) (nA nB nC nD v b0 c0 a0 d0 : Nat) : Prop := v ≤ 2 ^ 30 ∧ (∀ a b c d, a ≤ nA → b ≤ nB → c ≤ nC → d ≤ nD → (b < b0 ∨ (b = b0 ∧ (c < c0 ∨ (c = c0 ∧ (a < a0 ∨ (a = a0 ∧ d < d0)))))) → Q a b c d = true → v ≤ ky a b c d) ∧ (v = 2 ^ 30 ∨ ∃ a b c d, a ≤ nA ∧ b ≤ nB ∧ c ≤ nC ∧ d ≤ nD ∧ Q a b c d = true ∧ v = ky a b c d)
theorem nIv.nx {Q : Nat → Nat → Nat → Nat → Bool} {nA nB nC nD v b0 c0 a0 d0 b1 c1 a1 d1 : Nat} (h : nIv Q nA nB nC nD v b0 c0 a0 d0) (hl : ∀ a b c d, a ≤ nA → b ≤ nB → c ≤ nC → d ≤ nD → (b < b1 ∨ (b = b1 ∧ (c < c1 ∨ (c = c1 ∧ (a < a1 ∨ (a = a1 ∧ d < d1)))))) → (b < b0 ∨ (b = b0 ∧ (c < c0 ∨ (c = c0 ∧ (a < a0 ∨ (a = a0 ∧ d < d0))))))) : nIv Q nA nB nC nD v b1 c1 a1 d1 := ⟨h.1, fun a b c d h1 h2 h3 h4 h5 => h.2.1 a b c d h1 h2 h3 h4 (hl a b c d h1 h2 h3 h4 h5), h.2.2⟩
theorem nIv.step {Q : Nat → Nat → Nat → Nat → Bool} {nA nB nC nD v b0 c0 a0 d0 : Nat} (h : nIv Q nA nB nC nD v b0 c0 a0 d0) (hA : nA ≤ 6) (hB : nB ≤ 6) (hC : nC ≤ 6) (hD : nD ≤ 6) (ha : a0 ≤ nA) (hb : b0 ≤ nB) (hc : c0 ≤ nC) (hd : d0 ≤ nD) : nIv Q nA nB nC nD (if ky a0 b0 c0 d0 < v ∧ Q a0 b0 c0 d0 = true then ky a0 b0 c0 d0 else v) b0 c0 a0 (d0 + 1) := by
  have hk := ky_lt (a := a0) (b := b0) (c := c0) (d := d0) (by omega) (by omega) (by omega) (by omega)
  obtain ⟨h1, h2, h3⟩ := h
  by_cases e : ky a0 b0 c0 d0 < v ∧ Q a0 b0 c0 d0 = true
  · rw [if_pos e]
    refine ⟨by omega, fun a b c d q1 q2 q3 q4 q5 q6 => ?_, Or.inr ⟨a0, b0, c0, d0, ha, hb, hc, hd, e.2, rfl⟩⟩
    by_cases eq : b = b0 ∧ c = c0 ∧ a = a0 ∧ d = d0
    · obtain ⟨rfl, rfl, rfl, rfl⟩ := eq
      exact Nat.le_refl _
    · have := h2 a b c d q1 q2 q3 q4 (by omega) q6
      omega
  · rw [if_neg e]
    refine ⟨h1, fun a b c d q1 q2 q3 q4 q5 q6 => ?_, h3⟩
    by_cases eq : b = b0 ∧ c = c0 ∧ a = a0 ∧ d = d0
    · obtain ⟨rfl, rfl, rfl, rfl⟩ := eq
      exact Nat.not_lt.mp (fun q => e ⟨q, q6⟩)
    · exact h2 a b c d q1 q2 q3 q4 (by omega) q6
section NS
variable {S : o_S} {n : Nat × Nat × Nat} {A : aS} {T o s t : Nat}
theorem x_key (h : q_H) (a b c d : Nat) : f_X2_key h (nI a) (nI b) (nI c) (nI d) = some (h, nI (ky a b c d)) := by
  unfold f_X2_key b_X2_key_0 ky
  rw [show (7 : Int32) = nI 7 from rfl]
  simp only [nI_add, pk_mul]
/-- trees behind the letters to the second copy -/
def trs (S : o_S) (A : aS) (o s t i j : Nat) : Prop := ∀ i' j', i' ≤ (wY (sW A) (3 * o + s)).length → j' ≤ (wY (sW A) (3 * t + s)).length → (i' < i ∨ (i' = i ∧ j' < j)) → TE S (108 + 2 * (7 * i' + j')) (tG (sW A) s o t i' j')
theorem trs.ag {P : Nat → Prop} {S S' : o_S} {i j : Nat} (h : trs S A o s t i j) (g : AG P S S') (hP : ∀ b, P b → b < 109 ∨ 206 ≤ b) (hl : (wY (sW A) (3 * o + s)).length ≤ 6 ∧ (wY (sW A) (3 * t + s)).length ≤ 6) : trs S' A o s t i j := fun i' j' h1 h2 h3 => (h i' j' h1 h2 h3).ag g (fun q => by have := hP _ q; omega)
theorem x_s40 (h : OKA T A) (ho : o < 3) (hs : s < 3) (ht : t < 3) (k27 : q_H → Nat → Nat → Int32 → Int32 → Int32 → Nat → Nat → Int32 → Option (q_H × Int32)) {i : Nat} (hi : i ≤ (wY (sW A) (3 * o + s)).length) : ∀ d j fuel (S : o_S), j + d = (wY (sW A) (3 * t + s)).length + 1 → d < fuel → CR S A → trs S A o s t i j → ∃ S', l_X2_search_40 k27 fuel (ov S n) 102 1 (nI o) (nI s) (nI t) (28 + 2 * (3 * o + s)) (28 + 2 * (3 * t + s)) (nI i) (nI j) = k27 (ov S' n) 102 1 (nI o) (nI s) (nI t) (28 + 2 * (3 * o + s)) (28 + 2 * (3 * t + s)) (nI (i + 1)) ∧ CR S' A ∧ trs S' A o s t (i + 1) 0 ∧ AG (fun b => b < 296) S S' := by
  have hl1 := (h.1.2.2.2.2.1 o s ho hs).1
  have hl2 := (h.1.2.2.2.2.1 t s ht hs).1
  intro d
  induction d with
  | zero =>
    intro j fuel S hj hfu H hD
    obtain ⟨fu, rfl⟩ : ∃ f, fuel = f + 1 := ⟨fuel - 1, by omega⟩
    have : j = (wY (sW A) (3 * t + s)).length + 1 := by omega
    subst this
    refine ⟨S, ?_, H, fun i' j' h1 h2 h3 => hD i' j' h1 h2 (by omega), AG.rf⟩
    have hw : q_gI 4 1 (ov S n) (28 + 2 * (3 * t + s)) = some (nI (wY (sW A) (3 * t + s)).length) := s_gI (H.wy (i := 3 * t + s) (by omega))
    show b_X2_search_40 _ _ _ _ _ _ _ _ _ _ _ _ = _
    unfold b_X2_search_40
    rw [hw, bS, if_pos (nI_lt (by omega) (by omega)), nI_1]
  | succ d ih =>
    intro j fuel S hj hfu H hD
    obtain ⟨fu, rfl⟩ : ∃ f, fuel = f + 1 := ⟨fuel - 1, by omega⟩
    obtain ⟨S1, g1, g2, g3, g4⟩ := x_grow (n := n) h H hs ho ht hi (show j ≤ (wY (sW A) (3 * t + s)).length by omega) (k108 (k := 7 * i + j) (by omega)) (by omega)
    have hD1 : trs S1 A o s t i (j + 1) := by
      intro i' j' h1 h2 h3
      by_cases e : i' = i ∧ j' = j
      · obtain ⟨rfl, rfl⟩ := e
        exact g3
      · exact (hD i' j' h1 h2 (by omega)).ag g4 (by omega)
    obtain ⟨S2, k1, k2, k3, k4⟩ := ih (j + 1) fu S1 (by omega) (by omega) g2 hD1
    refine ⟨S2, ?_, k2, k3, g4.tr k4 (fun b q => by omega) (fun b q => q)⟩
    have hw : q_gI 4 1 (ov S n) (28 + 2 * (3 * t + s)) = some (nI (wY (sW A) (3 * t + s)).length) := s_gI (H.wy (i := 3 * t + s) (by omega))
    show b_X2_search_40 _ _ _ _ _ _ _ _ _ _ _ _ = _
    unfold b_X2_search_40
    rw [hw, bS, if_neg (by rw [i_lt (by omega) (by omega)]; omega), mR0, bS, x_place _ (show i ≤ 6 by omega) (show j ≤ 6 by omega), bS, mLR (by omega), bS, u_R0, bS, u_cp hs, bS, g1, bS, nI_1]
    exact k1
theorem x_s27 (h : OKA T A) (ho : o < 3) (hs : s < 3) (ht : t < 3) : ∀ d i fuel (S : o_S), i + d = (wY (sW A) (3 * o + s)).length + 1 → d < fuel → CR S A → trs S A o s t i 0 → ∃ S' f', l_X2_search_27 fuel (ov S n) 102 1 (nI o) (nI s) (nI t) (28 + 2 * (3 * o + s)) (28 + 2 * (3 * t + s)) (nI i) = b_X2_search_27 (l_X2_search_27 f') (ov S' n) 102 1 (nI o) (nI s) (nI t) (28 + 2 * (3 * o + s)) (28 + 2 * (3 * t + s)) (nI ((wY (sW A) (3 * o + s)).length + 1)) ∧ CR S' A ∧ trs S' A o s t ((wY (sW A) (3 * o + s)).length + 1) 0 ∧ AG (fun b => b < 296) S S' := by
  have hl1 := (h.1.2.2.2.2.1 o s ho hs).1
  have hl2 := (h.1.2.2.2.2.1 t s ht hs).1
  intro d
  induction d with
  | zero =>
    intro i fuel S hi hfu H hD
    obtain ⟨fu, rfl⟩ : ∃ f, fuel = f + 1 := ⟨fuel - 1, by omega⟩
    have : i = (wY (sW A) (3 * o + s)).length + 1 := by omega
    subst this
    exact ⟨S, fu, rfl, H, hD, AG.rf⟩
  | succ d ih =>
    intro i fuel S hi hfu H hD
    obtain ⟨fu, rfl⟩ : ∃ f, fuel = f + 1 := ⟨fuel - 1, by omega⟩
    obtain ⟨S1, g1, g2, g3, g4⟩ := x_s40 (n := n) h ho hs ht (l_X2_search_27 fu) (i := i) (by omega) ((wY (sW A) (3 * t + s)).length + 1) 0 q_FU S (by omega) (q_FU_lt (by omega)) H hD
    obtain ⟨S2, f2, k1, k2, k3, k4⟩ := ih (i + 1) fu S1 (by omega) (by omega) g2 g3
    refine ⟨S2, f2, ?_, k2, k3, g4.tr k4 (fun b q => q) (fun b q => q)⟩
    rw [← k1]
    have hw : q_gI 4 1 (ov S n) (28 + 2 * (3 * o + s)) = some (nI (wY (sW A) (3 * o + s)).length) := s_gI (H.wy (i := 3 * o + s) (by omega))
    show b_X2_search_27 _ _ _ _ _ _ _ _ _ _ = _
    conv => lhs; unfold b_X2_search_27
    rw [hw, bS, if_neg (by rw [i_lt (by omega) (by omega)]; omega)]
    exact g1
/-- whether the trees are as one -/
def nQ (A : aS) (o s t a b c d : Nat) : Bool := tQ (tG (sW A) o s t b c) (tG (sW A) s o t a d)
def nV (A : aS) (o s t v b0 c0 a0 d0 : Nat) : Prop := nIv (nQ A o s t) (wY (sW A) (3 * o + s)).length (wY (sW A) (3 * s + o)).length (wY (sW A) (3 * t + o)).length (wY (sW A) (3 * t + s)).length v b0 c0 a0 d0
def cmpS (S : o_S) (A : aS) (o s t b c : Nat) : Prop := CR S A ∧ TE S 104 (tG (sW A) o s t b c) ∧ trs S A o s t ((wY (sW A) (3 * o + s)).length + 1) 0
theorem cmpS.ag {S S' : o_S} {b c : Nat} (h : cmpS S A o s t b c) (g : AG (fun b => b = 102) S S') (hl : (wY (sW A) (3 * o + s)).length ≤ 6 ∧ (wY (sW A) (3 * t + s)).length ≤ 6) : cmpS S' A o s t b c := ⟨h.1.ag g (fun b q => by unfold xsc; omega), h.2.1.ag g (by omega), h.2.2.ag g (fun b q => by omega) hl⟩
theorem x_c12 (h : OKA T A) (ho : o < 3) (hs : s < 3) (ht : t < 3) (k3 : q_H → Nat → Int32 → Int32 → Int32 → Int32 → Int32 → Option (q_H × Unit)) {a b c : Nat} (ha : a ≤ (wY (sW A) (3 * o + s)).length) (hb : b ≤ (wY (sW A) (3 * s + o)).length) (hc : c ≤ (wY (sW A) (3 * t + o)).length) : ∀ e d fuel (S : o_S) (v : Nat), d + e = (wY (sW A) (3 * t + s)).length + 1 → e < fuel → cmpS S A o s t b c → S.1 102 3 = nI v → nV A o s t v b c a d → ∃ S' v', l_X2_compare_12 k3 fuel (ov S n) 102 (nI b) (nI c) (nI (wY (sW A) (3 * o + s)).length) (nI (wY (sW A) (3 * t + s)).length) (nI a) (nI d) = k3 (ov S' n) 102 (nI b) (nI c) (nI (wY (sW A) (3 * o + s)).length) (nI (wY (sW A) (3 * t + s)).length) (nI (a + 1)) ∧ S'.1 102 3 = nI v' ∧ nV A o s t v' b c (a + 1) 0 ∧ AG (fun b => b = 102) S S' := by
  have hl1 := (h.1.2.2.2.2.1 o s ho hs).1
  have hl2 := (h.1.2.2.2.2.1 t s ht hs).1
  have hl3 := (h.1.2.2.2.2.1 s o hs ho).1
  have hl4 := (h.1.2.2.2.2.1 t o ht ho).1
  intro e
  induction e with
  | zero =>
    intro d fuel S v hd hfu H hv hn
    obtain ⟨fu, rfl⟩ : ∃ f, fuel = f + 1 := ⟨fuel - 1, by omega⟩
    refine ⟨S, v, ?_, hv, hn.nx (fun a b c d q1 q2 q3 q4 q5 => by omega), AG.rf⟩
    show b_X2_compare_12 _ _ _ _ _ _ _ _ _ _ = _
    unfold b_X2_compare_12
    rw [if_pos (nI_lt (by omega) (by omega)), nI_1]
  | succ e ih =>
    intro d fuel S v hd hfu H hv hn
    obtain ⟨fu, rfl⟩ : ∃ f, fuel = f + 1 := ⟨fuel - 1, by omega⟩
    have hst := nIv.step hn hl1 hl3 hl4 hl2 ha hb hc (show d ≤ (wY (sW A) (3 * t + s)).length by omega)
    have hk := ky_lt (a := a) (b := b) (c := c) (d := d) (by omega) (by omega) (by omega) (by omega)
    have hv30 := hn.1
    have his := t_isAs (n := n) H.2.1 (H.2.2 a d ha (by omega) (Or.inl (by omega)))
    have his : f_X7_isAs (ov S n) 104 (108 + 2 * (7 * a + d)) = some (ov S n, b2i (nQ A o s t a b c d)) := his
    show ∃ S' v', b_X2_compare_12 _ _ _ _ _ _ _ _ _ _ = _ ∧ _
    unfold b_X2_compare_12 b_X2_compare_67
    rw [if_neg (by rw [i_lt (by omega) (by omega)]; omega), x_key, bS, mI3, bS, hv]
    by_cases e1 : v ≤ ky a b c d
    · have ev : (if ky a b c d < v ∧ nQ A o s t a b c d = true then ky a b c d else v) = v := if_neg (fun q => by omega)
      rw [ev] at hst
      obtain ⟨S2, v2, k1, k2, k3', k4⟩ := ih (d + 1) fu S v (by omega) (by omega) H hv hst
      refine ⟨S2, v2, ?_, k2, k3', k4⟩
      rw [if_pos (by rw [i_le (by omega) (by omega)]; exact e1), nI_1]
      exact k1
    · rw [if_neg (by rw [i_le (by omega) (by omega)]; exact e1), mR1, bS, mR0, bS, x_place _ (show a ≤ 6 by omega) (show d ≤ 6 by omega), bS, mLR (by omega), bS, his, bS]
      simp only [b2i_eq0]
      cases e2 : nQ A o s t a b c d
      · have ev : (if ky a b c d < v ∧ nQ A o s t a b c d = true then ky a b c d else v) = v := if_neg (fun q => by rw [e2] at q; exact absurd q.2 (by decide))
        rw [ev] at hst
        obtain ⟨S2, v2, k1, k2, k3', k4⟩ := ih (d + 1) fu S v (by omega) (by omega) H hv hst
        refine ⟨S2, v2, ?_, k2, k3', k4⟩
        rw [if_pos rfl, nI_1]
        exact k1
      · have ev : (if ky a b c d < v ∧ nQ A o s t a b c d = true then ky a b c d else v) = ky a b c d := if_pos ⟨by omega, e2⟩
        rw [ev] at hst
        obtain ⟨S2, v2, k1, k2, k3', k4⟩ := ih (d + 1) fu (o_sf S 102 3 (nI (ky a b c d))) (ky a b c d) (by omega) (by omega) (H.ag (AG_sf S 102 3 _) ⟨hl1, hl2⟩) (by rw [sf_f, pk_us]) hst
        refine ⟨S2, v2, ?_, k2, k3', (AG_sf S 102 3 (nI (ky a b c d))).tr k4 (fun _ q => q) (fun _ q => q)⟩
        rw [if_neg (by decide), mP3, bS, nI_1]
        exact k1
theorem x_c3 (h : OKA T A) (ho : o < 3) (hs : s < 3) (ht : t < 3) {b c : Nat} (hb : b ≤ (wY (sW A) (3 * s + o)).length) (hc : c ≤ (wY (sW A) (3 * t + o)).length) : ∀ e a fuel (S : o_S) (v : Nat), a + e = (wY (sW A) (3 * o + s)).length + 1 → e < fuel → cmpS S A o s t b c → S.1 102 3 = nI v → nV A o s t v b c a 0 → ∃ S' v', l_X2_compare_3 fuel (ov S n) 102 (nI b) (nI c) (nI (wY (sW A) (3 * o + s)).length) (nI (wY (sW A) (3 * t + s)).length) (nI a) = some (ov S' n, ()) ∧ S'.1 102 3 = nI v' ∧ nV A o s t v' b (c + 1) 0 0 ∧ AG (fun b => b = 102) S S' := by
  have hl1 := (h.1.2.2.2.2.1 o s ho hs).1
  have hl2 := (h.1.2.2.2.2.1 t s ht hs).1
  intro e
  induction e with
  | zero =>
    intro a fuel S v hd hfu H hv hn
    obtain ⟨fu, rfl⟩ : ∃ f, fuel = f + 1 := ⟨fuel - 1, by omega⟩
    refine ⟨S, v, ?_, hv, hn.nx (fun a b c d q1 q2 q3 q4 q5 => by omega), AG.rf⟩
    show b_X2_compare_3 _ _ _ _ _ _ _ _ = _
    unfold b_X2_compare_3
    rw [if_pos (nI_lt (by omega) (by omega))]
  | succ e ih =>
    intro a fuel S v hd hfu H hv hn
    obtain ⟨fu, rfl⟩ : ∃ f, fuel = f + 1 := ⟨fuel - 1, by omega⟩
    obtain ⟨S1, v1, g1, g2, g3, g4⟩ := x_c12 (n := n) h ho hs ht (l_X2_compare_3 fu) (a := a) (by omega) hb hc ((wY (sW A) (3 * t + s)).length + 1) 0 q_FU S v (by omega) (q_FU_lt (by omega)) H hv hn
    obtain ⟨S2, v2, k1, k2, k3, k4⟩ := ih (a + 1) fu S1 v1 (by omega) (by omega) (H.ag g4 ⟨hl1, hl2⟩) g2 g3
    refine ⟨S2, v2, ?_, k2, k3, g4.tr k4 (fun _ q => q) (fun _ q => q)⟩
    show b_X2_compare_3 _ _ _ _ _ _ _ _ = _
    unfold b_X2_compare_3
    rw [if_neg (by rw [i_lt (by omega) (by omega)]; omega)]
    exact g1.trans k1
theorem x_s131 (h : OKA T A) (ho : o < 3) (hs : s < 3) (ht : t < 3) (k118 : q_H → Nat → Nat → Int32 → Nat → Nat → Nat → Nat → Int32 → Option (q_H × Int32)) {b : Nat} (hb : b ≤ (wY (sW A) (3 * s + o)).length) : ∀ e c fuel (S : o_S) (v : Nat), c + e = (wY (sW A) (3 * t + o)).length + 1 → e < fuel → CR S A → trs S A o s t ((wY (sW A) (3 * o + s)).length + 1) 0 → S.1 102 3 = nI v → nV A o s t v b c 0 0 → ∃ S' v', l_X2_search_131 k118 fuel (ov S n) 102 1 (nI o) (28 + 2 * (3 * o + s)) (28 + 2 * (3 * t + s)) (28 + 2 * (3 * s + o)) (28 + 2 * (3 * t + o)) (nI b) (nI c) = k118 (ov S' n) 102 1 (nI o) (28 + 2 * (3 * o + s)) (28 + 2 * (3 * t + s)) (28 + 2 * (3 * s + o)) (28 + 2 * (3 * t + o)) (nI (b + 1)) ∧ CR S' A ∧ trs S' A o s t ((wY (sW A) (3 * o + s)).length + 1) 0 ∧ S'.1 102 3 = nI v' ∧ nV A o s t v' (b + 1) 0 0 0 ∧ AG (fun b => b < 296) S S' := by
  have hl1 := (h.1.2.2.2.2.1 o s ho hs).1
  have hl2 := (h.1.2.2.2.2.1 t s ht hs).1
  have hl3 := (h.1.2.2.2.2.1 s o hs ho).1
  have hl4 := (h.1.2.2.2.2.1 t o ht ho).1
  intro e
  induction e with
  | zero =>
    intro c fuel S v hd hfu H hD hv hn
    obtain ⟨fu, rfl⟩ : ∃ f, fuel = f + 1 := ⟨fuel - 1, by omega⟩
    have : c = (wY (sW A) (3 * t + o)).length + 1 := by omega
    subst this
    refine ⟨S, v, ?_, H, hD, hv, hn.nx (fun a b c d q1 q2 q3 q4 q5 => by omega), AG.rf⟩
    have hw : q_gI 4 1 (ov S n) (28 + 2 * (3 * t + o)) = some (nI (wY (sW A) (3 * t + o)).length) := s_gI (H.wy (i := 3 * t + o) (by omega))
    show b_X2_search_131 _ _ _ _ _ _ _ _ _ _ _ _ = _
    unfold b_X2_search_131
    rw [hw, bS, if_pos (nI_lt (by omega) (by omega)), nI_1]
  | succ e ih =>
    intro c fuel S v hd hfu H hD hv hn
    obtain ⟨fu, rfl⟩ : ∃ f, fuel = f + 1 := ⟨fuel - 1, by omega⟩
    obtain ⟨S1, g1, g2, g3, g4⟩ := x_grow (n := n) h H ho hs ht hb (show c ≤ (wY (sW A) (3 * t + o)).length by omega) k104 (by omega)
    have hD1 := hD.ag g4 (fun b q => by omega) ⟨hl1, hl2⟩
    obtain ⟨S2, v2, p1, p2, p3, p4⟩ := x_c3 (n := n) h ho hs ht hb (show c ≤ (wY (sW A) (3 * t + o)).length by omega) ((wY (sW A) (3 * o + s)).length + 1) 0 q_FU S1 v (by omega) (q_FU_lt (by omega)) ⟨g2, g3, hD1⟩ (by rw [g4.f (by omega)]; exact hv) hn
    have H2 : CR S2 A := g2.ag p4 (fun b q => by unfold xsc; omega)
    obtain ⟨S3, v3, k1, k2, k3, k4, k5, k6⟩ := ih (c + 1) fu S2 v2 (by omega) (by omega) H2 (hD1.ag p4 (fun b q => by omega) ⟨hl1, hl2⟩) p2 p3
    refine ⟨S3, v3, ?_, k2, k3, k4, k5, (g4.tr p4 (C := fun b => b < 296) (fun b q => by omega) (fun b q => by omega)).tr k6 (fun _ q => q) (fun _ q => q)⟩
    have hw : q_gI 4 1 (ov S n) (28 + 2 * (3 * t + o)) = some (nI (wY (sW A) (3 * t + o)).length) := s_gI (H.wy (i := 3 * t + o) (by omega))
    have w1 : q_gI 4 1 (ov S1 n) (28 + 2 * (3 * o + s)) = some (nI (wY (sW A) (3 * o + s)).length) := s_gI (g2.wy (i := 3 * o + s) (by omega))
    have w2 : q_gI 4 1 (ov S1 n) (28 + 2 * (3 * t + s)) = some (nI (wY (sW A) (3 * t + s)).length) := s_gI (g2.wy (i := 3 * t + s) (by omega))
    have hcm : f_X2_compare (ov S1 n) 102 (nI b) (nI c) (nI (wY (sW A) (3 * o + s)).length) (nI (wY (sW A) (3 * t + s)).length) = some (ov S2 n, ()) := by
      unfold f_X2_compare b_X2_compare_0
      rw [mC]
      exact p1
    show b_X2_search_131 _ _ _ _ _ _ _ _ _ _ _ _ = _
    unfold b_X2_search_131
    rw [hw, bS, if_neg (by rw [i_lt (by omega) (by omega)]; omega), mR1, bS, u_R0, bS, u_cp ho, bS, g1, bS, w1, bS, w2, bS, hcm, bS, nI_1]
    exact k1
theorem x_s118 (h : OKA T A) (ho : o < 3) (hs : s < 3) (ht : t < 3) : ∀ e b fuel (S : o_S) (v : Nat), b + e = (wY (sW A) (3 * s + o)).length + 1 → e < fuel → CR S A → trs S A o s t ((wY (sW A) (3 * o + s)).length + 1) 0 → S.1 102 3 = nI v → nV A o s t v b 0 0 0 → ∃ S' v', l_X2_search_118 fuel (ov S n) 102 1 (nI o) (28 + 2 * (3 * o + s)) (28 + 2 * (3 * t + s)) (28 + 2 * (3 * s + o)) (28 + 2 * (3 * t + o)) (nI b) = some (ov S' n, if v' = 2 ^ 30 then -1 else nI v') ∧ CR S' A ∧ nV A o s t v' ((wY (sW A) (3 * s + o)).length + 1) 0 0 0 ∧ AG (fun b => b < 296) S S' := by
  have hl3 := (h.1.2.2.2.2.1 s o hs ho).1
  intro e
  induction e with
  | zero =>
    intro b fuel S v hd hfu H hD hv hn
    obtain ⟨fu, rfl⟩ : ∃ f, fuel = f + 1 := ⟨fuel - 1, by omega⟩
    have : b = (wY (sW A) (3 * s + o)).length + 1 := by omega
    subst this
    have hv30 := hn.1
    refine ⟨S, v, ?_, H, hn, AG.rf⟩
    have hw : q_gI 4 1 (ov S n) (28 + 2 * (3 * s + o)) = some (nI (wY (sW A) (3 * s + o)).length) := s_gI (H.wy (i := 3 * s + o) (by omega))
    show b_X2_search_118 _ _ _ _ _ _ _ _ _ _ = _
    unfold b_X2_search_118
    rw [hw, bS, if_pos (nI_lt (by omega) (by omega)), mI3, bS, bS, hv]
    by_cases e : v = 2 ^ 30
    · rw [if_pos e, if_pos (by rw [e]; rfl)]
    · rw [if_neg e, if_neg (by rw [show (1073741824 : Int32) = nI 1073741824 from rfl, i_eq (by omega) (by omega)]; exact e)]
  | succ e ih =>
    intro b fuel S v hd hfu H hD hv hn
    obtain ⟨fu, rfl⟩ : ∃ f, fuel = f + 1 := ⟨fuel - 1, by omega⟩
    have hl4 := (h.1.2.2.2.2.1 t o ht ho).1
    obtain ⟨S1, v1, g1, g2, g3, g4, g5, g6⟩ := x_s131 (n := n) h ho hs ht (l_X2_search_118 fu) (b := b) (by omega) ((wY (sW A) (3 * t + o)).length + 1) 0 q_FU S v (by omega) (q_FU_lt (by omega)) H hD hv hn
    obtain ⟨S2, v2, k1, k2, k3, k4⟩ := ih (b + 1) fu S1 v1 (by omega) (by omega) g2 g3 g4 g5
    refine ⟨S2, v2, ?_, k2, k3, g6.tr k4 (fun _ q => q) (fun _ q => q)⟩
    have hw : q_gI 4 1 (ov S n) (28 + 2 * (3 * s + o)) = some (nI (wY (sW A) (3 * s + o)).length) := s_gI (H.wy (i := 3 * s + o) (by omega))
    show b_X2_search_118 _ _ _ _ _ _ _ _ _ _ = _
    unfold b_X2_search_118
    rw [hw, bS, if_neg (by rw [i_lt (by omega) (by omega)]; omega)]
    exact g1.trans k1
theorem x_search (h : OKA T A) (ho : o < 3) (hs : s < 3) (hos : o ≠ s) (htt : t = 3 - o - s) (H : CR S A) : ∃ S' v, f_X2_search (ov S n) 102 1 (nI o) (nI s) = some (ov S' n, if v = 2 ^ 30 then -1 else nI v) ∧ CR S' A ∧ nV A o s t v ((wY (sW A) (3 * s + o)).length + 1) 0 0 0 ∧ AG (fun b => b < 296) S S' := by
  have ht : t < 3 := by omega
  have hl1 := (h.1.2.2.2.2.1 o s ho hs).1
  have hl2 := (h.1.2.2.2.2.1 t s ht hs).1
  have hl3 := (h.1.2.2.2.2.1 s o hs ho).1
  obtain ⟨S1, f1, g1, g2, g3, g4⟩ := x_s27 (n := n) h ho hs ht ((wY (sW A) (3 * o + s)).length + 1) 0 q_FU S (by omega) (q_FU_lt (by omega)) H (fun i' j' _ _ q => by omega)
  have H2 : CR (o_sf S1 102 3 (nI (2 ^ 30))) A := g2.ag (AG_sf S1 102 3 _) (fun b q => by unfold xsc; omega)
  obtain ⟨S2, v2, k1, k2, k3, k4⟩ := x_s118 (n := n) h ho hs ht ((wY (sW A) (3 * s + o)).length + 1) 0 q_FU (o_sf S1 102 3 (nI (2 ^ 30))) (2 ^ 30) (by omega) (q_FU_lt (by omega)) H2 (g3.ag (AG_sf S1 102 3 _) (fun b q => by omega) ⟨hl1, hl2⟩) (by rw [sf_f, pk_us]) ⟨Nat.le_refl _, fun a b c d _ _ _ _ q => by omega, Or.inl rfl⟩
  refine ⟨S2, v2, ?_, k2, k3, (g4.tr (AG_sf S1 102 3 (nI (2 ^ 30))) (C := fun b => b < 296) (fun _ q => q) (fun b q => by omega)).tr k4 (fun _ q => q) (fun _ q => q)⟩
  have e3 : ((3 : Int32) - nI o) - nI s = nI t := by
    rw [show (3 : Int32) = nI 3 from rfl, pk_sub (by omega), pk_sub (by omega), htt]
  have hw : q_gI 4 1 (ov S1 n) (28 + 2 * (3 * o + s)) = some (nI (wY (sW A) (3 * o + s)).length) := s_gI (g2.wy (i := 3 * o + s) (by omega))
  have g1 : l_X2_search_27 q_FU (ov S n) 102 1 (nI o) (nI s) (nI t) (28 + 2 * (3 * o + s)) (28 + 2 * (3 * t + s)) 0 = _ := g1
  unfold f_X2_search b_X2_search_0
  rw [mC, e3, u_way ho hs, bS, u_way ht hs, bS, g1]
  unfold b_X2_search_27
  rw [hw, bS, if_pos (nI_lt (by omega) (by omega))]
  show Option.bind (q_p 1 3 (ov S1 n) 102 (.int (nI (2 ^ 30)))) _ = _
  rw [mP3, bS, u_way hs ho, bS, u_way ht ho, bS]
  exact k1
end NS
