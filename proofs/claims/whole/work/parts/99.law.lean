/-! THE LAW'S LOOP -/
theorem cmp_self (x : Int64) : lg_cmp x x = 0 := by unfold lg_cmp; simp
section LW
variable {S : o_S} {n : Nat × Nat × Nat} {A : aS} {T : Nat}
theorem lwS (x : Int64) : q_sL (ov S n) 313 0 x = some (ov (o_sL S 313 (vp_updL (S.2.2 313) 0 x)) n) := by
  have := o_stL (S := S) (n := n) (m := 1) (a := 313) (fun _ _ _ => rfl) (nI 0) x
  rw [if_pos (q_in_nI (show 0 < 1 by omega) (by omega)), nI_clamp (by omega)] at this
  exact this
theorem lwL : q_lL (ov S n) 313 0 = some (S.2.2 313 0) := by
  have := o_lL (S := S) (n := n) (m := 1) (a := 313) (fun _ _ _ => rfl) (nI 0)
  rw [if_pos (q_in_nI (show 0 < 1 by omega) (by omega)), nI_clamp (by omega)] at this
  exact this
theorem r_thrown : f_X10_thrown (ov S n) 296 = some (ov S n, S.1 296 0) := by
  unfold f_X10_thrown b_X10_thrown_0
  rw [r_chk, rI0, bS]
theorem thr {α : Type} {f : q_H → Option (q_H × α)} {t : q_H → Option (q_H × Unit)} {g : q_H → Option (q_H × α)} (cv : α → Int64) (h : AGT A f t g) (H1 : CR S A) (H2 : RR S A) (k : q_H → Option (q_H × Int32)) : ∃ (S2 : o_S) (n2 : Nat × Nat × Nat), Option.bind (q_or (Option.bind (f (ov S n)) (fun q1 => Option.bind (q_sL q1.1 313 0 (cv q1.2)) (fun h2 => some (h2, (0 : Int32))))) (Option.bind (t (ov S n)) (fun q => some (q.1, (1 : Int32))))) (fun q17 => Option.bind (g q17.1) (fun q21 => Option.bind (f_X10_thrown q21.1 296) (fun q22 => if q22.2 = q17.2 then (if q17.2 = 0 then Option.bind (q_lL q22.1 313 0) (fun x23 => if (lg_cmp x23 (cv q21.2)) = 0 then k q22.1 else none) else k q22.1) else none))) = k (ov S2 n2) ∧ CR S2 A ∧ RR S2 A ∧ n2.2.1 ≤ n.2.1 + 1 ∧ n2.2.2 ≤ n.2.2 + 6 := by
  rcases h with ⟨v, h1, h2⟩ | ⟨h1, h2⟩
  · have hag : AG (fun b => b = 313) S (o_sL S 313 (vp_updL (S.2.2 313) 0 (cv v))) := AG_sL _ _ _
    have H1' := H1.ag hag (fun b q => Or.inr (Or.inr (by omega)))
    have H2' := H2.agl hag (fun b q => Or.inr (by omega))
    obtain ⟨S2, g1, g2, g3, g4⟩ := h2 _ n H2'
    refine ⟨S2, n, ?_, H1'.ag g3 (fun b q => Or.inr (Or.inr q.1)), g2, by omega, by omega⟩
    have hL : S2.2.2 313 0 = cv v := by rw [g3.L (by omega), sL_L, pk_uLs]
    rw [h1 S n H1, bS, lwS, bS]
    show Option.bind (g (ov (o_sL S 313 (vp_updL (S.2.2 313) 0 (cv v))) n)) _ = _
    rw [g1, bS]
    dsimp only
    rw [r_thrown, bS]
    dsimp only
    rw [g4, if_pos rfl, if_pos rfl, lwL, bS, hL, cmp_self, if_pos rfl]
  · obtain ⟨a1, a2⟩ := h1 S n H1
    obtain ⟨S2, v, g1, g2, g3, g4⟩ := h2 S (n.1, n.2.1 + 1, n.2.2 + 6) H2
    refine ⟨S2, (n.1, n.2.1 + 1, n.2.2 + 6), ?_, H1.ag g3 (fun b q => Or.inr (Or.inr q.1)), g2, by dsimp only; omega, by dsimp only; omega⟩
    rw [a1, a2, bS]
    show Option.bind (g (ov S (n.1, n.2.1 + 1, n.2.2 + 6))) _ = _
    rw [g1, bS]
    dsimp only
    rw [r_thrown, bS]
    dsimp only
    rw [g4, if_pos rfl, if_neg (by decide)]
def LG (k : q_H → Option (q_H × Int32)) (T : Nat) (n : Nat × Nat × Nat) (e : Option (q_H × Int32)) : Prop := ∃ (S' : o_S) (A' : aS) (n' : Nat × Nat × Nat), e = k (ov S' n') ∧ CR S' A' ∧ RR S' A' ∧ OKA (T + 20) A' ∧ n'.2.1 ≤ n.2.1 + 1 ∧ n'.2.2 ≤ n.2.2 + 6
theorem LG.ag {k : q_H → Option (q_H × Int32)} {f g : q_H → Option (q_H × Int32)} (h : AGR T A f g) (H1 : CR S A) (H2 : RR S A) : LG k T n (Option.bind (f (ov S n)) (fun q5 => Option.bind (g q5.1) (fun q7 => if q5.2 = q7.2 then k q7.1 else none))) := by
  obtain ⟨S1, S2, r, A', g1, g2, g3, g4, g5⟩ := h.step (n := n) H1 H2
  refine ⟨S2, A', n, ?_, g3, g4, g5, by omega, by omega⟩
  rw [g1, bS]
  dsimp only
  rw [g2, bS]
  exact if_pos rfl
theorem sc_r {xs : Nat → Int32} {L j : Nat} (hj : j < L) (hL : L ≤ 2560) : q_scr xs L 300 (nI j) = some (xs j) := by
  unfold q_scr
  rw [if_pos ⟨rfl, q_in_nI hj (by omega)⟩, nI_clamp (by omega)]
theorem sc_l (L : Nat) : q_scl L 300 = some (nI L) := if_pos rfl
theorem L5_toInt {L : Nat} (hL : L ≤ 2560) : (nI L - 5).toInt = (L : Int) - 5 := by
  rw [Int32.toInt_sub, nI_toInt (by omega), show (5 : Int32).toInt = 5 from by decide]
  exact Int.bmod_eq_of_le (by omega) (by omega)
theorem L5_lt {L i : Nat} (hL : L ≤ 2560) (hi : i < 10000) : (nI L - 5 < nI i) = (L < i + 5) := by
  rw [Int32.lt_iff_toInt_lt, L5_toInt hL, nI_toInt (by omega)]
  exact propext ⟨fun q => by omega, fun q => by omega⟩
set_option maxRecDepth 20000 in
set_option maxHeartbeats 4000000 in
theorem law_step {xs : Nat → Int32} {L i : Nat} (hL : L ≤ 2560) (hi : i + 5 ≤ L) (k23 : q_H → UInt32 → Nat → Nat → Nat → Int32 → Option (q_H × Int32)) (H1 : CR S A) (H2 : RR S A) (h : OKA T A) (hT : T ≤ 80000) : LG (fun h => k23 h 300 0 296 313 (nI i + 5)) T n (b_L_law_23 xs L k23 (ov S n) 300 0 296 313 (nI i)) := by
  have s0 := sc_r (xs := xs) (L := L) (j := i) (by omega) hL
  have s1 : q_scr xs L 300 (nI i + 1) = some (xs (i + 1)) := by rw [show nI i + 1 = nI (i + 1) from nI_add i 1]; exact sc_r (by omega) hL
  have s2 : q_scr xs L 300 (nI i + 2) = some (xs (i + 2)) := by rw [show nI i + 2 = nI (i + 2) from nI_add i 2]; exact sc_r (by omega) hL
  have s3 : q_scr xs L 300 (nI i + 3) = some (xs (i + 3)) := by rw [show nI i + 3 = nI (i + 3) from nI_add i 3]; exact sc_r (by omega) hL
  have s4 : q_scr xs L 300 (nI i + 4) = some (xs (i + 4)) := by rw [show nI i + 4 = nI (i + 4) from nI_add i 4]; exact sc_r (by omega) hL
  have tk : ∀ {e : Option (q_H × Int32)}, (∃ (S2 : o_S) (n2 : Nat × Nat × Nat), e = k23 (ov S2 n2) 300 0 296 313 (nI i + 5) ∧ CR S2 A ∧ RR S2 A ∧ n2.2.1 ≤ n.2.1 + 1 ∧ n2.2.2 ≤ n.2.2 + 6) → LG (fun h => k23 h 300 0 296 313 (nI i + 5)) T n e := fun ⟨S2, n2, a1, a2, a3, a4, a5⟩ => ⟨S2, A, n2, a1, a2, a3, h.mono (by omega), a4, a5⟩
  unfold b_L_law_23
  rw [sc_l, bS, if_neg (by rw [L5_lt hL (by omega)]; omega), s0, bS]
  by_cases c0 : xs i &&& 63 = 0
  · rw [if_pos c0, s1, bS]
    exact LG.ag (ag_sign h (xs (i + 1))) H1 H2
  rw [if_neg c0]
  by_cases c1 : xs i &&& 63 = 1
  · rw [if_pos c1, s1, bS]
    exact LG.ag (ag_end h (xs (i + 1))) H1 H2
  rw [if_neg c1]
  by_cases c2 : xs i &&& 63 = 2
  · rw [if_pos c2, s1, bS, s2, bS, s3, bS]
    refine tk ?_
    have := thr (n := n) Int32.toInt64 (ag_entry h (xs (i + 1)) (xs (i + 2)) (xs (i + 3))) H1 H2 (fun h => k23 h 300 0 296 313 (nI i + 5))
    exact this
  rw [if_neg c2]
  by_cases c3 : xs i &&& 63 = 3
  · rw [if_pos c3, s1, bS, s2, bS, s3, bS]
    refine tk ?_
    have := thr (n := n) Int32.toInt64 (ag_move h (xs (i + 1)) (xs (i + 2)) (xs (i + 3))) H1 H2 (fun h => k23 h 300 0 296 313 (nI i + 5))
    exact this
  rw [if_neg c3]
  by_cases c4 : xs i &&& 63 = 4
  · rw [if_pos c4, s1, bS, s2, bS, s3, bS, s4, bS]
    exact LG.ag (ag_makes h (by omega) (xs (i + 1)) (xs (i + 2)) (xs (i + 3)) (xs (i + 4))) H1 H2
  rw [if_neg c4]
  by_cases c5 : xs i &&& 63 = 5
  · rw [if_pos c5, s1, bS]
    exact LG.ag (ag_beats h (by omega) (xs (i + 1))) H1 H2
  rw [if_neg c5]
  by_cases c6 : xs i &&& 63 = 6
  · rw [if_pos c6, s1, bS, s2, bS]
    exact LG.ag (ag_comes h (by omega) (xs (i + 1)) (xs (i + 2))) H1 H2
  rw [if_neg c6]
  by_cases c7 : xs i &&& 63 = 7
  · rw [if_pos c7, s1, bS]
    exact LG.ag (ag_gathers h (by omega) (xs (i + 1))) H1 H2
  rw [if_neg c7]
  by_cases c8 : xs i &&& 63 = 8
  · rw [if_pos c8, s1, bS]
    exact LG.ag (ag_cuts h (by omega) (xs (i + 1))) H1 H2
  rw [if_neg c8]
  by_cases c9 : xs i &&& 63 = 9
  · rw [if_pos c9]
    exact LG.ag (ag_day h (by omega) ) H1 H2
  rw [if_neg c9]
  by_cases c10 : xs i &&& 63 = 10
  · rw [if_pos c10, s1, bS, s2, bS]
    exact LG.ag (ag_letters h (xs (i + 1)) (xs (i + 2))) H1 H2
  rw [if_neg c10]
  by_cases c11 : xs i &&& 63 = 11
  · rw [if_pos c11, s1, bS]
    exact LG.ag (ag_stable h (by omega) (xs (i + 1))) H1 H2
  rw [if_neg c11]
  by_cases c12 : xs i &&& 63 = 12
  · rw [if_pos c12, s1, bS]
    exact LG.ag (ag_voids h (xs (i + 1))) H1 H2
  rw [if_neg c12]
  by_cases c13 : xs i &&& 63 = 13
  · rw [if_pos c13, s1, bS, s2, bS]
    exact LG.ag (ag_below h (xs (i + 1)) (xs (i + 2))) H1 H2
  rw [if_neg c13]
  by_cases c14 : xs i &&& 63 = 14
  · rw [if_pos c14, s1, bS, s2, bS]
    exact LG.ag (ag_depth h (xs (i + 1)) (xs (i + 2))) H1 H2
  rw [if_neg c14]
  by_cases c15 : xs i &&& 63 = 15
  · rw [if_pos c15, s1, bS, s2, bS, s3, bS]
    exact LG.ag (ag_meets h (xs (i + 1)) (xs (i + 2)) (xs (i + 3))) H1 H2
  rw [if_neg c15]
  by_cases c16 : xs i &&& 63 = 16
  · rw [if_pos c16, s1, bS, s2, bS]
    exact LG.ag (ag_places h (xs (i + 1)) (xs (i + 2))) H1 H2
  rw [if_neg c16]
  by_cases c17 : xs i &&& 63 = 17
  · rw [if_pos c17, s1, bS, s2, bS, s3, bS]
    exact LG.ag (ag_total h (xs (i + 1)) (xs (i + 2)) (xs (i + 3))) H1 H2
  rw [if_neg c17]
  by_cases c18 : xs i &&& 63 = 18
  · rw [if_pos c18, s1, bS, s2, bS, s3, bS]
    exact LG.ag (ag_lists h (xs (i + 1)) (xs (i + 2)) (xs (i + 3))) H1 H2
  rw [if_neg c18]
  by_cases c19 : xs i &&& 63 = 19
  · rw [if_pos c19, s1, bS]
    exact LG.ag (ag_finds h (xs (i + 1))) H1 H2
  rw [if_neg c19]
  by_cases c20 : xs i &&& 63 = 20
  · rw [if_pos c20, s1, bS, s2, bS]
    exact LG.ag (ag_path h (xs (i + 1)) (xs (i + 2))) H1 H2
  rw [if_neg c20]
  by_cases c21 : xs i &&& 63 = 21
  · rw [if_pos c21, s1, bS, s2, bS]
    exact LG.ag (ag_apart h (xs (i + 1)) (xs (i + 2))) H1 H2
  rw [if_neg c21]
  by_cases c22 : xs i &&& 63 = 22
  · rw [if_pos c22, s1, bS, s2, bS]
    exact LG.ag (ag_late h (by omega) (xs (i + 1)) (xs (i + 2))) H1 H2
  rw [if_neg c22]
  by_cases c23 : xs i &&& 63 = 23
  · rw [if_pos c23, s1, bS]
    exact LG.ag (ag_then h (by omega) (xs (i + 1))) H1 H2
  rw [if_neg c23]
  by_cases c24 : xs i &&& 63 = 24
  · rw [if_pos c24, s1, bS]
    exact LG.ag (ag_worst h (xs (i + 1))) H1 H2
  rw [if_neg c24]
  by_cases c25 : xs i &&& 63 = 25
  · rw [if_pos c25, s1, bS, s2, bS]
    exact LG.ag (ag_frees h (xs (i + 1)) (xs (i + 2))) H1 H2
  rw [if_neg c25]
  by_cases c26 : xs i &&& 63 = 26
  · rw [if_pos c26, s1, bS]
    exact LG.ag (ag_idle h (xs (i + 1))) H1 H2
  rw [if_neg c26]
  by_cases c27 : xs i &&& 63 = 27
  · rw [if_pos c27, s1, bS, s2, bS]
    exact LG.ag (ag_nearest h (xs (i + 1)) (xs (i + 2))) H1 H2
  rw [if_neg c27]
  by_cases c28 : xs i &&& 63 = 28
  · rw [if_pos c28, s1, bS, s2, bS]
    exact LG.ag (ag_years h (by omega) (xs (i + 1)) (xs (i + 2))) H1 H2
  rw [if_neg c28]
  by_cases c29 : xs i &&& 63 = 29
  · rw [if_pos c29, s1, bS]
    exact LG.ag (ag_keep h (xs (i + 1))) H1 H2
  rw [if_neg c29]
  by_cases c30 : xs i &&& 63 = 30
  · rw [if_pos c30, s1, bS]
    exact LG.ag (ag_again h (xs (i + 1))) H1 H2
  rw [if_neg c30]
  by_cases c31 : xs i &&& 63 = 31
  · rw [if_pos c31, s1, bS]
    exact LG.ag (ag_count h (by omega) (xs (i + 1))) H1 H2
  rw [if_neg c31]
  by_cases c32 : xs i &&& 63 = 32
  · rw [if_pos c32, s1, bS]
    refine tk ?_
    have := thr (n := n) id (ag_row (xs (i + 1))) H1 H2 (fun h => k23 h 300 0 296 313 (nI i + 5))
    exact this
  rw [if_neg c32]
  exact ⟨S, A, n, rfl, H1, H2, h.mono (by omega), by omega, by omega⟩
theorem law_L {xs : Nat → Int32} {L : Nat} (hL : L ≤ 2560) : ∀ d i fuel (S : o_S) (A : aS) (n : Nat × Nat × Nat) T, L ≤ i + 5 * d → i < 5000 → d < fuel → CR S A → RR S A → OKA T A → T + 20 * d ≤ 80000 → ∃ q, l_L_law_23 xs L fuel (ov S n) 300 0 296 313 (nI i) = some q ∧ q.1.2.2.1 ≤ n.2.1 + d ∧ q.1.2.2.2 ≤ n.2.2 + 6 * d := by
  have ret : ∀ (k23 : q_H → UInt32 → Nat → Nat → Nat → Int32 → Option (q_H × Int32)) (h : q_H) (i : Nat), i < 10000 → L < i + 5 → b_L_law_23 xs L k23 h 300 0 296 313 (nI i) = some (h, 1) := by
    intro k23 h i hi hlt
    unfold b_L_law_23
    rw [sc_l, bS, if_pos (by rw [L5_lt hL hi]; exact hlt)]
  intro d
  induction d with
  | zero =>
    intro i fuel S A n T h1 hi hf H1 H2 h hT
    obtain ⟨f, rfl⟩ : ∃ f, fuel = f + 1 := ⟨fuel - 1, by omega⟩
    exact ⟨_, ret _ _ _ (by omega) (by omega), Nat.le_refl _, Nat.le_refl _⟩
  | succ d ih =>
    intro i fuel S A n T h1 hi hf H1 H2 h hT
    obtain ⟨f, rfl⟩ : ∃ f, fuel = f + 1 := ⟨fuel - 1, by omega⟩
    by_cases e : L < i + 5
    · exact ⟨_, ret _ _ _ (by omega) e, Nat.le_add_right _ _, Nat.le_add_right _ _⟩
    · obtain ⟨S', A', n', g1, g2, g3, g4, g5, g6⟩ := law_step (xs := xs) (n := n) hL (show i + 5 ≤ L by omega) (l_L_law_23 xs L f) H1 H2 h (by omega)
      obtain ⟨q, k1, k2, k3⟩ := ih (i + 5) f S' A' n' (T + 20) (by omega) (by omega) (by omega) g2 g3 g4 (by omega)
      refine ⟨q, ?_, by omega, by omega⟩
      refine Eq.trans g1 ?_
      rw [show nI i + 5 = nI (i + 5) from nI_add i 5]
      exact k1
theorem q_pure_proof : q_pure := by
  intro xs L hL
  obtain ⟨n0, a1, a2, a3⟩ := law_0 xs L
  obtain ⟨q, k1, k2, k3⟩ := law_L (xs := xs) hL 512 0 q_FU S0 A0 (314, n0.1, n0.2) 0 (by omega) (by omega) (q_FU_lt (by omega)) CR_0 RR_0 OKA_0 (by omega)
  refine ⟨q, a1.trans k1, ?_, ?_⟩
  · dsimp only at k2
    omega
  · dsimp only at k3
    omega
end LW
