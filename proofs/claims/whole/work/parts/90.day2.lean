/-! A DAY 2: what is done -/
def eA (W : aW) (a : aA) : Int32 × aW := if a.1 = 0 then eMk W (nI a.2.1) (nI (2 + a.2.2.1)) (nI a.2.2.2.1) (nI a.2.2.2.2) else if a.1 = 1 then eBt W (nI a.2.1) else if a.1 = 2 then eCm W (nI a.2.1) (nI a.2.2.1) else if a.1 = 3 then eGa W (nI a.2.1) else eCt W (nI a.2.1)
def rA : aW → List aA → Nat → Nat × Bool × aW
  | W, [], i => (i, false, W)
  | W, x :: l, i => if (eA W x).1 < 0 then (i, true, (eA W x).2) else rA (eA W x).2 l (i + 1)
def cM : List aA → Nat
  | [] => 0
  | x :: l => (if x.1 = 0 then 1 else 0) + cM l
/-- bounds of what is read -/
def okA (a : aA) : Prop := a.1 < 5 ∧ a.2.1 < 3 ∧ a.2.2.1 < 12 ∧ a.2.2.2.1 < 14 ∧ a.2.2.2.2 < 10
section DB
variable {S : o_S} {n : Nat × Nat × Nat} {A : aS} {T : Nat} {X : List Nat}
/-- how an act was read -/
theorem pA_i {p q : Nat} {a : aA} (h : pA X p = .inr (q, a)) : okA a ∧ gt (fI sA1) X (p + 1) = some a.2.1 ∧ (a.1 = 2 → gt (fI sA1) X (p + 2) = some a.2.2.1) ∧ (a.1 = 0 → gt (fI sA2) X (p + 2) = some a.2.2.1 ∧ gt rdC X (p + 3) = some a.2.2.2.1 ∧ gt (fI sA3) X (p + 4) = some a.2.2.2.2) := by
  have l1 : ∀ j k, gt (fI sA1) X j = some k → k < 3 := fun j k hk => by obtain ⟨c, -, e⟩ := gt_c hk; exact fI_lt e
  have l0 : ∀ j k, gt (fI sA0) X j = some k → k < 5 := fun j k hk => by obtain ⟨c, -, e⟩ := gt_c hk; exact fI_lt e
  have l2 : ∀ j k, gt (fI sA2) X j = some k → k < 12 := fun j k hk => by obtain ⟨c, -, e⟩ := gt_c hk; exact fI_lt e
  have l3 : ∀ j k, gt (fI sA3) X j = some k → k < 10 := fun j k hk => by obtain ⟨c, -, e⟩ := gt_c hk; exact fI_lt e
  have lr : ∀ j k, gt rdC X j = some k → k < 14 := fun j k hk => by obtain ⟨c, -, e⟩ := gt_c hk; exact rdC_lt e
  unfold pA at h
  cases c0 : gt (fI sA0) X p with
  | none => rw [c0] at h; cases h
  | some k =>
    rw [c0] at h
    cases c1 : gt (fI sA1) X (p + 1) with
    | none => rw [c1] at h; cases h
    | some a1 =>
      rw [c1] at h
      simp only at h
      have b0 := l0 _ _ c0
      have b1 := l1 _ _ c1
      split at h
      · rename_i e2
        cases c2 : gt (fI sA1) X (p + 2) with
        | none => rw [c2] at h; cases h
        | some b =>
          rw [c2] at h
          cases h
          have b2 := l1 _ _ c2
          exact ⟨⟨b0, b1, by show b < 12; omega, by show 0 < 14; omega, by show 0 < 10; omega⟩, rfl, fun _ => rfl, fun q => by have q : k = 0 := q; omega⟩
      · rename_i e2
        split at h
        · rename_i e0
          cases c2 : gt (fI sA2) X (p + 2) with
          | none => rw [c2] at h; cases h
          | some f =>
            rw [c2] at h
            cases c3 : gt rdC X (p + 3) with
            | none => rw [c3] at h; cases h
            | some g =>
              rw [c3] at h
              cases c4 : gt (fI sA3) X (p + 4) with
              | none => rw [c4] at h; cases h
              | some m =>
                rw [c4] at h
                cases h
                exact ⟨⟨b0, b1, l2 _ _ c2, lr _ _ c3, l3 _ _ c4⟩, rfl, fun q => absurd q e2, fun _ => ⟨rfl, rfl, rfl⟩⟩
        · rename_i e0
          cases h
          exact ⟨⟨b0, b1, by show 0 < 12; omega, by show 0 < 14; omega, by show 0 < 10; omega⟩, rfl, fun q => absurd q e2, fun q => absurd q e0⟩
theorem d1_t (hX : ∀ k ∈ X, k < 256) {a d : Nat} (h : gt (fI sA1) X a = some d) : tc X a - 48 = nI d := by
  obtain ⟨c, e, hc⟩ := gt_c h
  rw [tc_s e]
  exact d1_c c (hX c (List.mem_of_getElem? e)) d (fI_lt hc) hc
theorem d3_t (hX : ∀ k ∈ X, k < 256) {a d : Nat} (h : gt (fI sA3) X a = some d) : tc X a - 48 = nI d := by
  obtain ⟨c, e, hc⟩ := gt_c h
  rw [tc_s e]
  exact d3_c c (hX c (List.mem_of_getElem? e)) d (fI_lt hc) hc
theorem nr_t (hX : ∀ k ∈ X, k < 256) {a d : Nat} (h : gt rdC X a = some d) : noX (tc X a) = nI d := by
  rw [noX_t hX, h]
theorem nf_t (hX : ∀ k ∈ X, k < 256) {a d : Nat} (h : gt (fI sA2) X a = some d) : noX (tc X a) = nI (2 + d) := by
  obtain ⟨c, e, hc⟩ := gt_c h
  have := a2_c c (hX c (List.mem_of_getElem? e)) d (fI_lt hc) hc
  rw [noX_t hX, g_s e, this]
theorem V.eAct {W : aW} (hV : V T W) (hT : T ≤ 100000) (a : aA) : V (T + (if a.1 = 0 then 1 else 0)) (eA W a).2 := by
  unfold eA
  split
  · exact hV.mkG hT _ _ _ _
  · split
    · exact hV.btG hT _
    · split
      · exact hV.cmG _ _
      · split
        · exact hV.gaG _
        · exact hV.ctG _
theorem x_doAct (H : CR S A) (hV : V T (sW A)) (hT : T ≤ 100000) {p q : Nat} (hp : p < 1000) {a : aA} (h : pA (sX A) p = .inr (q, a)) : ∃ S', f_X9_doAct (ov S n) 0 (nI p) = some (ov S' n, (eA (sW A) a).1) ∧ CR S' (sWld A (eA (sW A) a).2) ∧ AG (fun b => b < 296) S S' := by
  have hX := H.x256
  obtain ⟨hk, -⟩ := pA_q h
  obtain ⟨ok, c1, c2, c3⟩ := pA_i h
  obtain ⟨k0, k1, k2, k3, k4, k5⟩ := kind_t hX hk
  obtain ⟨k, a1, a2, a3, a4⟩ := a
  simp only at ok c1 c2 c3 hk k0 k1 k2 k3 k4 k5
  have t0 := x_atT (n := n) H (p := p) (by omega)
  have t1 := x_atT (n := n) H (p := p + 1) (by omega)
  have t2 := x_atT (n := n) H (p := p + 2) (by omega)
  have t3 := x_atT (n := n) H (p := p + 3) (by omega)
  have t4 := x_atT (n := n) H (p := p + 4) (by omega)
  have e1 : nI p + 1 = nI (p + 1) := nI_add p 1
  have e2 : nI p + 2 = nI (p + 2) := nI_add p 2
  have e3 : nI p + 3 = nI (p + 3) := nI_add p 3
  have e4 : nI p + 4 = nI (p + 4) := nI_add p 4
  have d1 := d1_t hX c1
  have fin : ∀ {S' : o_S} {W' : aW}, CW S' 1 W' → AG (fun b => 1 ≤ b ∧ b < 1 + 45) S S' → CR S' (sWld A W') ∧ AG (fun b => b < 296) S S' := fun hW hA => ⟨H.wld hA (fun b q => Or.inl (by omega)) hW, hA.mono (fun b q => by omega)⟩
  unfold f_X9_doAct b_X9_doAct_0
  simp only [x_chk, xR5, xR0, bS, e1, e2, e3, e4, t0, t1, t2, t3, t4, d1, x_no]
  by_cases q1 : k = 1
  · subst q1
    obtain ⟨S1, g1, g2, g3⟩ := x_beatG (n := n) H.1 hV hT (nI a1)
    refine ⟨S1, ?_, fin g2 g3⟩
    rw [if_pos (k1.mpr rfl), g1, bS]
    rfl
  · rw [if_neg (fun r => q1 (k1.mp r))]
    by_cases q2 : k = 2
    · subst q2
      obtain ⟨S1, g1, g2, g3⟩ := x_comeG (n := n) H.1 hV hT (nI a1) (nI a2)
      refine ⟨S1, ?_, fin g2 g3⟩
      rw [if_pos (k2.mpr rfl), d1_t hX (c2 rfl), g1, bS]
      rfl
    · rw [if_neg (fun r => q2 (k2.mp r))]
      by_cases q3 : k = 3
      · subst q3
        obtain ⟨S1, g1, g2, g3⟩ := x_gatherG (n := n) H.1 hV hT (nI a1)
        refine ⟨S1, ?_, fin g2 g3⟩
        rw [if_pos (k3.mpr rfl), g1, bS]
        rfl
      · rw [if_neg (fun r => q3 (k3.mp r))]
        by_cases q0 : k = 0
        · subst q0
          obtain ⟨f1, f2, f3⟩ := c3 rfl
          obtain ⟨S1, g1, g2, g3⟩ := x_makeG (n := n) H.1 hV hT (nI a1) (nI (2 + a2)) (nI a3) (nI a4)
          refine ⟨S1, ?_, fin g2 g3⟩
          rw [if_pos (k0.mpr rfl), nf_t hX f1, nr_t hX f2, d3_t hX f3, g1, bS]
          rfl
        · have q4 : k = 4 := by omega
          subst q4
          obtain ⟨S1, g1, g2, g3⟩ := x_cutG (n := n) H.1 hV hT (nI a1)
          refine ⟨S1, ?_, fin g2 g3⟩
          rw [if_neg (fun r => q0 (k0.mp r)), if_pos (k4.mpr rfl), g1, bS]
          rfl
/-- what the day leaves -/
theorem x_da72 (H : CR S A) (r f : Int32) : ∃ S', b_X9_day_84 (ov S n) 0 r f = some (ov S' n, r) ∧ CR S' (sRow (sTxt A []) [Int32.toInt64 f]) ∧ AG (fun b => b < 296) S S' := by
  obtain ⟨S1, g1, g2, g3⟩ := x_tell (n := n) (x_tx0 H) (Int32.toInt64 f)
  refine ⟨S1, ?_, g2, (AG_sf S 95 1 0).tr g3 (fun b q => by omega) (fun b q => by omega)⟩
  unfold b_X9_day_84
  rw [xR5, bS, zCl, bS, xR4, bS, g1, bS]
theorem x_daL : ∀ f p fuel (S : o_S) (A : aS) l i T, (sX A).length - p < f → f + 1 ≤ fuel → p < 500 → pD (sX A) f p = .inr l → CR S A → V T (sW A) → T + cM l ≤ 100000 → ∃ S', l_X9_day_27 fuel (ov S n) 0 (nI i) 0 (nI p) = some (ov S' n, nI (rA (sW A) l i).1) ∧ CR S' (sRow (sTxt (sWld A (rA (sW A) l i).2.2) []) [Int32.toInt64 (b2i (rA (sW A) l i).2.1)]) ∧ AG (fun b => b < 296) S S' := by
  intro f
  induction f with
  | zero => intro p fuel S A l i T h1; omega
  | succ f ih =>
    intro p fuel S A l i T h1 h2 hp hP H hV hT
    have h80 := H.2.2.2.2.1
    have hX := H.x256
    obtain ⟨fu, rfl⟩ : ∃ f, fuel = f + 1 := ⟨fuel - 1, by omega⟩
    unfold pD at hP
    by_cases e : (sX A).length ≤ p
    · rw [if_pos e] at hP
      cases hP
      obtain ⟨S1, g1, g2, g3⟩ := x_da72 (n := n) H (nI i) 0
      refine ⟨S1, ?_, g2, g3⟩
      show b_X9_day_27 _ _ _ _ _ _ = _
      unfold b_X9_day_27
      rw [xR5, bS, H.xl, bS, if_pos (by rw [i_le (by omega) (by omega)]; exact e), g1]
      rfl
    · rw [if_neg e] at hP
      cases hA : pA (sX A) p with
      | inl e' => rw [hA] at hP; cases hP
      | inr r =>
        obtain ⟨q, a⟩ := r
        rw [hA] at hP
        simp only at hP
        obtain ⟨hk, hq⟩ := pA_q hA
        have hb := sgK_b a.1
        cases hP2 : pD (sX A) f q with
        | inl e' => rw [hP2] at hP; cases hP
        | inr l2 =>
          rw [hP2] at hP
          cases hP
          have hT : T + ((if a.1 = 0 then 1 else 0) + cM l2) ≤ 100000 := hT
          obtain ⟨S1, g1, g2, g3⟩ := x_doAct (n := n) H hV (by omega) (show p < 1000 by omega) hA
          have hV1 := hV.eAct (by omega) a
          have hsg := sgX_t hX p
          rw [hk] at hsg
          have hsg : sgX (tc (sX A) p) = nI (sgK a.1) := hsg
          have h61 : ∀ (k28 : q_H → Nat → Int32 → Int32 → Int32 → Option (q_H × Int32)) (v2 v3 : Int32), b_X9_day_60 k28 (ov S1 n) 0 v2 v3 (nI p) = k28 (ov S1 n) 0 v2 v3 (nI q) := by
            intro k28 v2 v3
            unfold b_X9_day_60
            rw [x_ba (n := n) (fun h x => k28 h 0 v2 v3 x) g2 (by omega) hk, hq]
          show ∃ S', b_X9_day_27 _ _ _ _ _ _ = _ ∧ _
          unfold b_X9_day_27
          rw [xR5, bS, H.xl, bS, if_neg (by rw [i_le (by omega) (by omega)]; exact e), if_pos rfl, g1, bS]
          by_cases c : (eA (sW A) a).1 < 0
          · have er : rA (sW A) (a :: l2) i = (i, true, (eA (sW A) a).2) := by
              show (if (eA (sW A) a).1 < 0 then _ else _) = _
              rw [if_pos c]
            rw [er, if_neg (neg_nle c), h61]
            obtain ⟨S2, k1, k2, k3⟩ := x_da72 (n := n) g2 (nI i) 1
            refine ⟨S2, ?_, k2, g3.tr k3 (fun b q => q) (fun b q => q)⟩
            obtain ⟨fv, rfl⟩ : ∃ f, fu = f + 1 := ⟨fu - 1, by omega⟩
            have hl : q_gI 5 1 (ov S1 n) 95 = some (nI (sX A).length) := g2.xl
            show b_X9_day_27 _ _ _ _ _ _ = _
            unfold b_X9_day_27
            rw [xR5, bS, hl, bS, if_neg (show ¬ (1 : Int32) = 0 by decide), k1]
            exact ite_self _
          · have er : rA (sW A) (a :: l2) i = rA (eA (sW A) a).2 l2 (i + 1) := by
              show (if (eA (sW A) a).1 < 0 then _ else _) = _
              rw [if_neg c]
            rw [er, if_pos (Int32.not_lt.mp c), h61, nI_1]
            obtain ⟨S2, k1, k2, k3⟩ := ih q fu S1 (sWld A (eA (sW A) a).2) l2 (i + 1) _ (by show (sX A).length - q < f; omega) (by omega) (by omega) hP2 g2 hV1 (by omega)
            exact ⟨S2, k1, k2, g3.tr k3 (fun b q => q) (fun b q => q)⟩
end DB
