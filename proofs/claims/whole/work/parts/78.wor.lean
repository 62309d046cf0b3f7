/-! THE WORST AND THE BEST ORDER OF LETTERS 2: the class -/
def at2 (a1 a2 : Nat) (S S' : o_S) (h : Nat) (v1 v2 : Int32) : Prop := (∀ p, S'.2.1 a1 p = if p = h then v1 else S.2.1 a1 p) ∧ ∀ p, S'.2.1 a2 p = if p = h then v2 else S.2.1 a2 p
theorem at2.tr {a1 a2 h : Nat} {S S1 S2 : o_S} {v1 v2 w1 w2 : Int32} (q : at2 a1 a2 S S1 h v1 v2) (r : at2 a1 a2 S1 S2 h w1 w2) : at2 a1 a2 S S2 h w1 w2 := ⟨fun p => by
    rw [r.1 p]
    by_cases e : p = h
    · rw [if_pos e, if_pos e]
    · rw [if_neg e, if_neg e, q.1 p, if_neg e], fun p => by
    rw [r.2 p]
    by_cases e : p = h
    · rw [if_pos e, if_pos e]
    · rw [if_neg e, if_neg e, q.2 p, if_neg e]⟩
theorem at2.cg {a1 a2 h : Nat} {S S1 S2 : o_S} {v1 v2 : Int32} (q : at2 a1 a2 S S1 h v1 v2) (e1 : S2.2.1 a1 = S1.2.1 a1) (e2 : S2.2.1 a2 = S1.2.1 a2) : at2 a1 a2 S S2 h v1 v2 := ⟨fun p => by rw [e1]; exact q.1 p, fun p => by rw [e2]; exact q.2 p⟩
theorem at2_w {a1 a2 h : Nat} (S : o_S) (v1 v2 : Int32) (hne : a1 ≠ a2) : at2 a1 a2 S (o_sI (o_sI S a1 (upd (S.2.1 a1) h v1)) a2 (upd ((o_sI S a1 (upd (S.2.1 a1) h v1)).2.1 a2) h v2)) h v1 v2 := ⟨fun p => by
    rw [s_I, if_neg hne, s_I, if_pos rfl]
    rfl, fun p => by
    rw [s_I, if_pos rfl, s_I, if_neg (Ne.symm hne)]
    rfl⟩
def dpA (S : o_S) (aL aM : Nat) (u w : Nat → Nat → Nat) (q i j : Nat) : Prop := ∀ i' j', j' ≤ q → (i' < i ∨ (i' = i ∧ j' < j)) → S.2.1 aL (7 * i' + j') = nI (dp min u w i' j') ∧ S.2.1 aM (7 * i' + j') = nI (dp max u w i' j')
theorem dpA.nx {S S' : o_S} {aL aM : Nat} {u w : Nat → Nat → Nat} {q i j : Nat} (h : dpA S aL aM u w q i j) (hq : q ≤ 6) (hj : j ≤ q) (h1 : ∀ p, S'.2.1 aL p = if p = 7 * i + j then nI (dp min u w i j) else S.2.1 aL p) (h2 : ∀ p, S'.2.1 aM p = if p = 7 * i + j then nI (dp max u w i j) else S.2.1 aM p) : dpA S' aL aM u w q i (j + 1) := by
  intro i' j' hj' hlt
  rw [h1, h2]
  by_cases e : i' = i ∧ j' = j
  · obtain ⟨rfl, rfl⟩ := e
    rw [if_pos rfl, if_pos rfl]
    exact ⟨rfl, rfl⟩
  · rw [if_neg (by omega), if_neg (by omega)]
    exact h i' j' hj' (by omega)
theorem dpA.row {S : o_S} {aL aM : Nat} {u w : Nat → Nat → Nat} {q i : Nat} (h : dpA S aL aM u w q i (q + 1)) : dpA S aL aM u w q (i + 1) 0 := fun i' j' hj' hlt => h i' j' hj' (by omega)
section WO
variable {S : o_S} {n : Nat × Nat × Nat} {A : aS} {T : Nat}
theorem oC {β : Type} {r : Option β} : q_chk 2 (ov S n) 99 r = r := Eq.trans rfl rfl
theorem oR0 : q_gR 2 0 (ov S n) 99 = some 100 := Eq.trans rfl rfl
theorem oR1 : q_gR 2 1 (ov S n) 99 = some 101 := Eq.trans rfl rfl
theorem oL {j : Nat} (h : j < 49) : q_lI 0 (ov S n) 100 (nI j) = some (S.2.1 100 j) := by
  rw [o_lI (t := 0) (m := 49) (fun _ _ _ => rfl), if_pos (q_in_nI h (by omega)), nI_clamp (by omega)]
theorem oM {j : Nat} (h : j < 49) : q_lI 0 (ov S n) 101 (nI j) = some (S.2.1 101 j) := by
  rw [o_lI (t := 0) (m := 49) (fun _ _ _ => rfl), if_pos (q_in_nI h (by omega)), nI_clamp (by omega)]
theorem oLS {j : Nat} (h : j < 49) (x : Int32) : q_sI 0 id (ov S n) 100 (nI j) x = some (ov (o_sI S 100 (upd (S.2.1 100) j (id x))) n) := by
  rw [o_stI (t := 0) (m := 49) (fun _ _ _ => rfl), if_pos (q_in_nI h (by omega)), nI_clamp (by omega)]
theorem oMS {j : Nat} (h : j < 49) (x : Int32) : q_sI 0 id (ov S n) 101 (nI j) x = some (ov (o_sI S 101 (upd (S.2.1 101) j (id x))) n) := by
  rw [o_stI (t := 0) (m := 49) (fun _ _ _ => rfl), if_pos (q_in_nI h (by omega)), nI_clamp (by omega)]
theorem x_place (h : q_H) {i j : Nat} (hi : i ≤ 6) (hj : j ≤ 6) : f_X3_place h (nI i) (nI j) = some (h, nI (7 * i + j)) := by
  have m1 : q_min (nI i) 6 = nI i := (i_min (a := i) (b := 6) (by omega) (by omega)).trans (by rw [Nat.min_eq_left hi])
  have m2 : q_min (nI j) 6 = nI j := (i_min (a := j) (b := 6) (by omega) (by omega)).trans (by rw [Nat.min_eq_left hj])
  unfold f_X3_place b_X3_place_0
  rw [m1, m2, show (7 : Int32) = nI 7 from rfl, pk_mul, nI_add, Nat.mul_comm]
theorem x_stepA {fr to a b a' b' und : Nat} (hf : fr < 49) (ht : to < 49) (h1 : S.2.1 100 to = nI a) (h2 : S.2.1 100 fr = nI b) (h3 : S.2.1 101 to = nI a') (h4 : S.2.1 101 fr = nI b') (ha : a < 2 ^ 31) (hb : b + und < 2 ^ 31) (ha' : a' < 2 ^ 31) (hb' : b' + und < 2 ^ 31) : ∃ S', f_X3_step (ov S n) 99 (nI fr) (nI to) (nI und) = some (ov S' n, ()) ∧ at2 100 101 S S' to (nI (min a (b + und))) (nI (max a' (b' + und))) ∧ AG (fun b => b = 100 ∨ b = 101) S S' := by
  refine ⟨_, ?_, at2_w (a1 := 100) (a2 := 101) (h := to) S (nI (min a (b + und))) (nI (max a' (b' + und))) (by omega), (AG_sI _ _ _).tr (AG_sI _ _ _) (fun b q => Or.inl q) (fun b q => Or.inr q)⟩
  have e1 : ∀ I, (o_sI S 100 I).2.1 101 = S.2.1 101 := fun I => by rw [s_I, if_neg (by omega)]
  unfold f_X3_step b_X3_step_0
  simp only [oC, oR0, oR1, bS, oL hf, oL ht, h1, h2, nI_add, i_min ha hb, oLS ht, oM hf, oM ht, oMS ht, e1, h3, h4, i_max ha' hb', idS]
section CELL
variable {c f f' : Nat} (h : OKA T A) (hc : c < 3) (hf : f < 3) (hf' : f' < 3)
/-- the two ways' sums -/
def uA (A : aS) (c f f' : Nat) (i j : Nat) : Nat := uf (wL (sW A) c) ((wY (sW A) (3 * f + c)).getD i 0) (wY (sW A) (3 * f' + c)) j
theorem uA_le (h : OKA T A) (hc : c < 3) (hf' : f' < 3) (i j : Nat) : uA A c f f' i j ≤ 32 := uf_le (h.1.2.2.1 c hc).1 _ (h.1.2.2.2.2.1 f' c hf' hc).1 j
theorem dpm_le (h : OKA T A) (hc : c < 3) (hf : f < 3) (hf' : f' < 3) (i j : Nat) : dp min (uA A c f f') (uA A c f' f) i j ≤ 32 * (i + j) := dp_le min_le' (fun i j => uA_le h hc hf' i j) (fun i j => uA_le h hc hf i j) i j
theorem dpx_le (h : OKA T A) (hc : c < 3) (hf : f < 3) (hf' : f' < 3) (i j : Nat) : dp max (uA A c f f') (uA A c f' f) i j ≤ 32 * (i + j) := dp_le max_le' (fun i j => uA_le h hc hf' i j) (fun i j => uA_le h hc hf i j) i j
theorem dp_0s (g : Nat → Nat → Nat) (u w : Nat → Nat → Nat) (j : Nat) : dp g u w 0 (j + 1) = dp g u w 0 j + w j 0 := rfl
theorem dp_s0 (g : Nat → Nat → Nat) (u w : Nat → Nat → Nat) (i : Nat) : dp g u w (i + 1) 0 = dp g u w i 0 + u i 0 := rfl
theorem dp_ss (g : Nat → Nat → Nat) (u w : Nat → Nat → Nat) (i j : Nat) : dp g u w (i + 1) (j + 1) = g (dp g u w i (j + 1) + u i (j + 1)) (dp g u w (i + 1) j + w j (i + 1)) := rfl
/-- what stands at a place behind its first and its second step -/
theorem x_c97 (h : OKA T A) (hc : c < 3) (hf : f < 3) (hf' : f' < 3) (k3 : q_H → Nat → Nat → Nat → Nat → Int32 → Option (q_H × Unit)) (k15 : q_H → Nat → Nat → Nat → Nat → Int32 → Int32 → Option (q_H × Unit)) {i j a a' : Nat} (H : CR S A) (hi : i ≤ (wY (sW A) (3 * f + c)).length) (hj : j ≤ (wY (sW A) (3 * f' + c)).length) (h1 : S.2.1 100 (7 * i + j) = nI a) (h2 : S.2.1 101 (7 * i + j) = nI a') (ha : a < 2 ^ 31) (ha' : a' < 2 ^ 31) (hp : 0 < j → S.2.1 100 (7 * i + (j - 1)) = nI (dp min (uA A c f f') (uA A c f' f) i (j - 1)) ∧ S.2.1 101 (7 * i + (j - 1)) = nI (dp max (uA A c f f') (uA A c f' f) i (j - 1))) : ∃ S', b_X3_weighAll_97 k3 k15 (ov S n) 99 (4 + 8 * c + 2) (28 + 2 * (3 * f + c)) (28 + 2 * (3 * f' + c)) (nI i) (nI j) (nI (7 * i + j)) = k15 (ov S' n) 99 (4 + 8 * c + 2) (28 + 2 * (3 * f + c)) (28 + 2 * (3 * f' + c)) (nI i) (nI (j + 1)) ∧ at2 100 101 S S' (7 * i + j) (nI (if j = 0 then a else min a (dp min (uA A c f f') (uA A c f' f) i (j - 1) + uA A c f' f (j - 1) i))) (nI (if j = 0 then a' else max a' (dp max (uA A c f f') (uA A c f' f) i (j - 1) + uA A c f' f (j - 1) i))) ∧ AG (fun b => b = 100 ∨ b = 101) S S' := by
  have hl1 := (h.1.2.2.2.2.1 f c hf hc).1
  have hl2 := (h.1.2.2.2.2.1 f' c hf' hc).1
  unfold b_X3_weighAll_97 b_X3_weighAll_132
  cases j with
  | zero =>
    refine ⟨S, ?_, ⟨fun p => ?_, fun p => ?_⟩, AG.rf⟩
    · rw [if_pos (by decide), nI_1]
    · rw [if_pos rfl]
      by_cases e : p = 7 * i + 0
      · rw [if_pos e, e, h1]
      · rw [if_neg e]
    · rw [if_pos rfl]
      by_cases e : p = 7 * i + 0
      · rw [if_pos e, e, h2]
      · rw [if_neg e]
  | succ j =>
    obtain ⟨p1, p2⟩ := hp (by omega)
    rw [Nat.add_sub_cancel] at p1 p2
    have b1 := dpm_le h hc hf hf' i j
    have b2 := dpx_le h hc hf hf' i j
    have b3 := uA_le (f := f') h hc hf j i
    have hx : (wY (sW A) (3 * f' + c))[j]? = some (wY (sW A) (3 * f' + c))[j] := List.getElem?_eq_getElem (by omega)
    have hat : f_X5_at (ov S n) (28 + 2 * (3 * f' + c)) (nI j) = some (ov S n, lN (wY (sW A) (3 * f' + c))[j]) := by
      rw [s_at (H.wy (i := 3 * f' + c) (by omega)) (by omega), List.getD_eq_getElem?_getD, hx]; rfl
    have hub := x_undoneBy (n := n) h H hc hf' hf (List.getElem_mem (show j < (wY (sW A) (3 * f' + c)).length by omega)) (show i < 100 by omega)
    have eu : uf (wL (sW A) c) (wY (sW A) (3 * f' + c))[j] (wY (sW A) (3 * f + c)) i = uA A c f' f j i := by
      unfold uA
      rw [List.getD_eq_getElem?_getD, hx]
      rfl
    rw [eu] at hub
    obtain ⟨S1, k1, k2, k3'⟩ := x_stepA (n := n) (fr := 7 * i + j) (to := 7 * i + (j + 1)) (und := uA A c f' f j i) (by omega) (by omega) h1 p1 h2 p2 ha (by omega) ha' (by omega)
    refine ⟨S1, ?_, ?_, k3'⟩
    · rw [if_neg (nI_nle (by omega) (by omega)), nI_pred, x_place _ (show i ≤ 6 by omega) (show j ≤ 6 by omega), bS, hat, bS, hub, bS, k1, bS, nI_1]
    · rw [if_neg (by omega), if_neg (by omega), Nat.add_sub_cancel]
      exact k2
theorem x_cell (h : OKA T A) (hc : c < 3) (hf : f < 3) (hf' : f' < 3) (k3 : q_H → Nat → Nat → Nat → Nat → Int32 → Option (q_H × Unit)) (k15 : q_H → Nat → Nat → Nat → Nat → Int32 → Int32 → Option (q_H × Unit)) {i j : Nat} (H : CR S A) (hi : i ≤ (wY (sW A) (3 * f + c)).length) (hj : j ≤ (wY (sW A) (3 * f' + c)).length) (hD : dpA S 100 101 (uA A c f f') (uA A c f' f) (wY (sW A) (3 * f' + c)).length i j) : ∃ S', b_X3_weighAll_15 k3 k15 (ov S n) 99 (4 + 8 * c + 2) (28 + 2 * (3 * f + c)) (28 + 2 * (3 * f' + c)) (nI i) (nI j) = k15 (ov S' n) 99 (4 + 8 * c + 2) (28 + 2 * (3 * f + c)) (28 + 2 * (3 * f' + c)) (nI i) (nI (j + 1)) ∧ CR S' A ∧ dpA S' 100 101 (uA A c f f') (uA A c f' f) (wY (sW A) (3 * f' + c)).length i (j + 1) ∧ AG (fun b => b = 100 ∨ b = 101) S S' := by
  have hl1 := (h.1.2.2.2.2.1 f c hf hc).1
  have hl2 := (h.1.2.2.2.2.1 f' c hf' hc).1
  have hsc : ∀ {S1 S2 : o_S}, AG (fun b => b = 100 ∨ b = 101) S1 S2 → CR S1 A → CR S2 A := fun g H => H.ag g (fun b q => by unfold xsc; omega)
  obtain ⟨a0, ha0⟩ : ∃ a0, a0 = (if i + j = 0 then 0 else 1073741824) := ⟨_, rfl⟩
  have ha0b : a0 < 2 ^ 31 := by rw [ha0]; split <;> omega
  obtain ⟨S2, hS2⟩ : ∃ S2, S2 = o_sI (o_sI S 100 (upd (S.2.1 100) (7 * i + j) (nI a0))) 101 (upd ((o_sI S 100 (upd (S.2.1 100) (7 * i + j) (nI a0))).2.1 101) (7 * i + j) (nI 0)) := ⟨_, rfl⟩
  have g2 : at2 100 101 S S2 (7 * i + j) (nI a0) (nI 0) := by rw [hS2]; exact at2_w S _ _ (by omega)
  have ag2 : AG (fun b => b = 100 ∨ b = 101) S S2 := by rw [hS2]; exact (AG_sI _ _ _).tr (AG_sI _ _ _) (fun b q => Or.inl q) (fun b q => Or.inr q)
  have H2 := hsc ag2 H
  have hbody : b_X3_weighAll_15 k3 k15 (ov S n) 99 (4 + 8 * c + 2) (28 + 2 * (3 * f + c)) (28 + 2 * (3 * f' + c)) (nI i) (nI j) = if nI i ≤ 0 then b_X3_weighAll_97 k3 k15 (ov S2 n) 99 (4 + 8 * c + 2) (28 + 2 * (3 * f + c)) (28 + 2 * (3 * f' + c)) (nI i) (nI j) (nI (7 * i + j)) else Option.bind (f_X3_place (ov S2 n) (nI i - 1) (nI j)) (fun q8 => Option.bind (f_X5_at q8.1 (28 + 2 * (3 * f + c)) (nI i - 1)) (fun q9 => Option.bind (f_X3_undoneBy q9.1 q9.2 (4 + 8 * c + 2) (28 + 2 * (3 * f' + c)) (nI j)) (fun q10 => Option.bind (f_X3_step q10.1 99 q8.2 (nI (7 * i + j)) q10.2) (fun q11 => b_X3_weighAll_97 k3 k15 q11.1 99 (4 + 8 * c + 2) (28 + 2 * (3 * f + c)) (28 + 2 * (3 * f' + c)) (nI i) (nI j) (nI (7 * i + j)))))) := by
    have hw : q_gI 4 1 (ov S n) (28 + 2 * (3 * f' + c)) = some (nI (wY (sW A) (3 * f' + c)).length) := s_gI (H.wy (i := 3 * f' + c) (by omega))
    unfold b_X3_weighAll_15 b_X3_weighAll_53
    rw [hw, bS, if_neg (by rw [i_lt (by omega) (by omega)]; omega), x_place _ (show i ≤ 6 by omega) (show j ≤ 6 by omega), bS, oR0, bS, nI_add]
    by_cases e : i + j = 0
    · have ea : a0 = 0 := by rw [ha0, if_pos e]
      rw [if_pos (by rw [i_eq0 (by omega)]; exact e), oLS (by omega), bS, oR1, bS, oMS (by omega), bS]
      rw [hS2, ea]
      rfl
    · have ea : a0 = 1073741824 := by rw [ha0, if_neg e]
      rw [if_neg (by rw [i_eq0 (by omega)]; exact e), oLS (by omega), bS, oR1, bS, oMS (by omega), bS]
      rw [hS2, ea]
      rfl
  have p0 : ∀ S1, at2 100 101 S S1 (7 * i + j) (S1.2.1 100 (7 * i + j)) (S1.2.1 101 (7 * i + j)) → 0 < j → S1.2.1 100 (7 * i + (j - 1)) = nI (dp min (uA A c f f') (uA A c f' f) i (j - 1)) ∧ S1.2.1 101 (7 * i + (j - 1)) = nI (dp max (uA A c f f') (uA A c f' f) i (j - 1)) := by
    intro S1 g hj0
    rw [g.1, g.2, if_neg (by omega), if_neg (by omega)]
    exact hD i (j - 1) (by omega) (Or.inr ⟨rfl, by omega⟩)
  have fin : ∀ {S1 S' : o_S} {m M : Nat}, at2 100 101 S S1 (7 * i + j) (nI m) (nI M) → AG (fun b => b = 100 ∨ b = 101) S S1 → m < 2 ^ 31 → M < 2 ^ 31 → (if j = 0 then m else min m (dp min (uA A c f f') (uA A c f' f) i (j - 1) + uA A c f' f (j - 1) i)) = dp min (uA A c f f') (uA A c f' f) i j → (if j = 0 then M else max M (dp max (uA A c f f') (uA A c f' f) i (j - 1) + uA A c f' f (j - 1) i)) = dp max (uA A c f f') (uA A c f' f) i j → ∃ S', b_X3_weighAll_97 k3 k15 (ov S1 n) 99 (4 + 8 * c + 2) (28 + 2 * (3 * f + c)) (28 + 2 * (3 * f' + c)) (nI i) (nI j) (nI (7 * i + j)) = k15 (ov S' n) 99 (4 + 8 * c + 2) (28 + 2 * (3 * f + c)) (28 + 2 * (3 * f' + c)) (nI i) (nI (j + 1)) ∧ CR S' A ∧ dpA S' 100 101 (uA A c f f') (uA A c f' f) (wY (sW A) (3 * f' + c)).length i (j + 1) ∧ AG (fun b => b = 100 ∨ b = 101) S S' := by
    intro S1 _ m M g gag hm hM e1 e2
    have v1 : S1.2.1 100 (7 * i + j) = nI m := by rw [g.1, if_pos rfl]
    have v2 : S1.2.1 101 (7 * i + j) = nI M := by rw [g.2, if_pos rfl]
    obtain ⟨S', k1, k2, k3'⟩ := x_c97 (n := n) h hc hf hf' k3 k15 (hsc gag H) hi hj v1 v2 hm hM (p0 S1 (by rw [v1, v2]; exact g))
    rw [e1, e2] at k2
    have k2' := g.tr k2
    exact ⟨S', k1, hsc k3' (hsc gag H), hD.nx hl2 hj k2'.1 k2'.2, gag.tr k3' (fun _ q => q) (fun _ q => q)⟩
  rw [hbody]
  cases i with
  | zero =>
    rw [if_pos (by decide)]
    refine fin (S' := S2) g2 ag2 ha0b (by omega) ?_ ?_
    · cases j with
      | zero => rw [if_pos rfl, ha0, if_pos rfl]; rfl
      | succ j =>
        have b1 := dpm_le h hc hf hf' 0 j
        have b3 := uA_le (f := f') h hc hf j 0
        rw [if_neg (by omega), ha0, if_neg (by omega), dp_0s, Nat.add_sub_cancel]
        omega
    · cases j with
      | zero => rw [if_pos rfl]; rfl
      | succ j => rw [if_neg (by omega), dp_0s, Nat.add_sub_cancel]; omega
  | succ i =>
    have b1 := dpm_le h hc hf hf' i j
    have b2 := dpx_le h hc hf hf' i j
    have b3 := uA_le (f := f) h hc hf' i j
    have hx : (wY (sW A) (3 * f + c))[i]? = some (wY (sW A) (3 * f + c))[i] := List.getElem?_eq_getElem (by omega)
    have hat : f_X5_at (ov S2 n) (28 + 2 * (3 * f + c)) (nI i) = some (ov S2 n, lN (wY (sW A) (3 * f + c))[i]) := by
      rw [s_at (H2.wy (i := 3 * f + c) (by omega)) (by omega), List.getD_eq_getElem?_getD, hx]; rfl
    have hub := x_undoneBy (n := n) h H2 hc hf hf' (List.getElem_mem (show i < (wY (sW A) (3 * f + c)).length by omega)) (show j < 100 by omega)
    have eu : uf (wL (sW A) c) (wY (sW A) (3 * f + c))[i] (wY (sW A) (3 * f' + c)) j = uA A c f f' i j := by
      unfold uA
      rw [List.getD_eq_getElem?_getD, hx]
      rfl
    rw [eu] at hub
    have q1 := hD i j (by omega) (Or.inl (by omega))
    obtain ⟨S1, k1, k2, k3'⟩ := x_stepA (S := S2) (n := n) (fr := 7 * i + j) (to := 7 * (i + 1) + j) (a := a0) (b := dp min (uA A c f f') (uA A c f' f) i j) (a' := 0) (b' := dp max (uA A c f f') (uA A c f' f) i j) (und := uA A c f f' i j) (by omega) (by omega) (by rw [g2.1, if_pos rfl]) (by rw [g2.1, if_neg (by omega)]; exact q1.1) (by rw [g2.2, if_pos rfl]) (by rw [g2.2, if_neg (by omega)]; exact q1.2) ha0b (by omega) (by omega) (by omega)
    have ea : a0 = 1073741824 := by rw [ha0, if_neg (by omega)]
    rw [if_neg (nI_nle (by omega) (by omega)), nI_pred, x_place _ (show i ≤ 6 by omega) (show j ≤ 6 by omega), bS, hat, bS, hub, bS, k1, bS]
    refine fin (S' := S2) (g2.tr k2) (ag2.tr k3' (fun _ q => q) (fun _ q => q)) (by omega) (by omega) ?_ ?_
    · cases j with
      | zero => rw [if_pos rfl, dp_s0]; omega
      | succ j =>
        have b4 := dpm_le h hc hf hf' (i + 1) j
        have b5 := uA_le (f := f') h hc hf j (i + 1)
        rw [if_neg (by omega), dp_ss, Nat.add_sub_cancel]
        omega
    · cases j with
      | zero => rw [if_pos rfl, dp_s0]; omega
      | succ j => rw [if_neg (by omega), dp_ss, Nat.add_sub_cancel]; omega
theorem x_wgI (h : OKA T A) (hc : c < 3) (hf : f < 3) (hf' : f' < 3) (k3 : q_H → Nat → Nat → Nat → Nat → Int32 → Option (q_H × Unit)) {i : Nat} (hi : i ≤ (wY (sW A) (3 * f + c)).length) : ∀ d j fuel (S : o_S), j + d = (wY (sW A) (3 * f' + c)).length + 1 → d < fuel → CR S A → dpA S 100 101 (uA A c f f') (uA A c f' f) (wY (sW A) (3 * f' + c)).length i j → ∃ S', l_X3_weighAll_15 k3 fuel (ov S n) 99 (4 + 8 * c + 2) (28 + 2 * (3 * f + c)) (28 + 2 * (3 * f' + c)) (nI i) (nI j) = k3 (ov S' n) 99 (4 + 8 * c + 2) (28 + 2 * (3 * f + c)) (28 + 2 * (3 * f' + c)) (nI (i + 1)) ∧ CR S' A ∧ dpA S' 100 101 (uA A c f f') (uA A c f' f) (wY (sW A) (3 * f' + c)).length (i + 1) 0 ∧ AG (fun b => b = 100 ∨ b = 101) S S' := by
  have hl2 := (h.1.2.2.2.2.1 f' c hf' hc).1
  intro d
  induction d with
  | zero =>
    intro j fuel S hj hfu H hD
    obtain ⟨fu, rfl⟩ : ∃ f, fuel = f + 1 := ⟨fuel - 1, by omega⟩
    have : j = (wY (sW A) (3 * f' + c)).length + 1 := by omega
    subst this
    refine ⟨S, ?_, H, hD.row, AG.rf⟩
    have hw : q_gI 4 1 (ov S n) (28 + 2 * (3 * f' + c)) = some (nI (wY (sW A) (3 * f' + c)).length) := s_gI (H.wy (i := 3 * f' + c) (by omega))
    show b_X3_weighAll_15 _ _ _ _ _ _ _ _ _ = _
    unfold b_X3_weighAll_15
    rw [hw, bS, if_pos (nI_lt (by omega) (by omega)), nI_1]
  | succ d ih =>
    intro j fuel S hj hfu H hD
    obtain ⟨fu, rfl⟩ : ∃ f, fuel = f + 1 := ⟨fuel - 1, by omega⟩
    obtain ⟨S1, g1, g2, g3, g4⟩ := x_cell (n := n) h hc hf hf' k3 (l_X3_weighAll_15 k3 fu) H hi (by omega) hD
    obtain ⟨S2, k1, k2, k3', k4⟩ := ih (j + 1) fu S1 (by omega) (by omega) g2 g3
    exact ⟨S2, g1.trans k1, k2, k3', g4.tr k4 (fun _ q => q) (fun _ q => q)⟩
theorem x_wgO (h : OKA T A) (hc : c < 3) (hf : f < 3) (hf' : f' < 3) : ∀ d i fuel (S : o_S), i + d = (wY (sW A) (3 * f + c)).length + 1 → d < fuel → CR S A → dpA S 100 101 (uA A c f f') (uA A c f' f) (wY (sW A) (3 * f' + c)).length i 0 → ∃ S', l_X3_weighAll_3 fuel (ov S n) 99 (4 + 8 * c + 2) (28 + 2 * (3 * f + c)) (28 + 2 * (3 * f' + c)) (nI i) = some (ov S' n, ()) ∧ CR S' A ∧ dpA S' 100 101 (uA A c f f') (uA A c f' f) (wY (sW A) (3 * f' + c)).length ((wY (sW A) (3 * f + c)).length + 1) 0 ∧ AG (fun b => b = 100 ∨ b = 101) S S' := by
  have hl1 := (h.1.2.2.2.2.1 f c hf hc).1
  have hl2 := (h.1.2.2.2.2.1 f' c hf' hc).1
  intro d
  induction d with
  | zero =>
    intro i fuel S hi hfu H hD
    obtain ⟨fu, rfl⟩ : ∃ f, fuel = f + 1 := ⟨fuel - 1, by omega⟩
    have : i = (wY (sW A) (3 * f + c)).length + 1 := by omega
    subst this
    refine ⟨S, ?_, H, hD, AG.rf⟩
    have hw : q_gI 4 1 (ov S n) (28 + 2 * (3 * f + c)) = some (nI (wY (sW A) (3 * f + c)).length) := s_gI (H.wy (i := 3 * f + c) (by omega))
    show b_X3_weighAll_3 _ _ _ _ _ _ _ = _
    unfold b_X3_weighAll_3
    rw [hw, bS, if_pos (nI_lt (by omega) (by omega))]
  | succ d ih =>
    intro i fuel S hi hfu H hD
    obtain ⟨fu, rfl⟩ : ∃ f, fuel = f + 1 := ⟨fuel - 1, by omega⟩
    obtain ⟨S1, g1, g2, g3, g4⟩ := x_wgI (n := n) h hc hf hf' (l_X3_weighAll_3 fu) (i := i) (by omega) ((wY (sW A) (3 * f' + c)).length + 1) 0 q_FU S (by omega) (q_FU_lt (by omega)) H hD
    obtain ⟨S2, k1, k2, k3', k4⟩ := ih (i + 1) fu S1 (by omega) (by omega) g2 g3
    refine ⟨S2, ?_, k2, k3', g4.tr k4 (fun _ q => q) (fun _ q => q)⟩
    have hw : q_gI 4 1 (ov S n) (28 + 2 * (3 * f + c)) = some (nI (wY (sW A) (3 * f + c)).length) := s_gI (H.wy (i := 3 * f + c) (by omega))
    show b_X3_weighAll_3 _ _ _ _ _ _ _ = _
    unfold b_X3_weighAll_3
    rw [hw, bS, if_neg (by rw [i_lt (by omega) (by omega)]; omega)]
    exact g1.trans k1
theorem x_weighAll (h : OKA T A) (hc : c < 3) (hf : f < 3) (hf' : f' < 3) (H : CR S A) : ∃ S', f_X3_weighAll (ov S n) 99 (4 + 8 * c + 2) (28 + 2 * (3 * f + c)) (28 + 2 * (3 * f' + c)) = some (ov S' n, ()) ∧ CR S' A ∧ S'.2.1 100 (7 * (wY (sW A) (3 * f + c)).length + (wY (sW A) (3 * f' + c)).length) = nI (dp min (uA A c f f') (uA A c f' f) (wY (sW A) (3 * f + c)).length (wY (sW A) (3 * f' + c)).length) ∧ S'.2.1 101 (7 * (wY (sW A) (3 * f + c)).length + (wY (sW A) (3 * f' + c)).length) = nI (dp max (uA A c f f') (uA A c f' f) (wY (sW A) (3 * f + c)).length (wY (sW A) (3 * f' + c)).length) ∧ AG (fun b => b = 100 ∨ b = 101) S S' := by
  have hl1 := (h.1.2.2.2.2.1 f c hf hc).1
  obtain ⟨S1, g1, g2, g3, g4⟩ := x_wgO (n := n) h hc hf hf' ((wY (sW A) (3 * f + c)).length + 1) 0 q_FU S (by omega) (q_FU_lt (by omega)) H (fun i' j' _ q => by omega)
  have := g3 (wY (sW A) (3 * f + c)).length (wY (sW A) (3 * f' + c)).length (Nat.le_refl _) (Or.inl (by omega))
  refine ⟨S1, ?_, g2, this.1, this.2, g4⟩
  unfold f_X3_weighAll b_X3_weighAll_0
  rw [oC]
  exact g1
end CELL
end WO
