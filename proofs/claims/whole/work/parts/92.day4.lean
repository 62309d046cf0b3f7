/-! A DAY 4: both -/
section DD
variable {S : o_S} {n : Nat × Nat × Nat} {A : aS} {T : Nat} {X : List Nat}
theorem r_doA {i : Nat} (hi : i < 80) (H : RR S A) (hV : V T (sW A)) (hT : T ≤ 100000) {a : aA} (ok : okA a) (h : arK S i a) : ∃ S', f_X10_doesAct (ov S n) 296 (nI i) = some (ov S' n, (eA (sW A) a).1) ∧ RR S' (sWld A (eA (sW A) a).2) ∧ RX S S' := by
  obtain ⟨k, a1, a2, a3, a4⟩ := a
  obtain ⟨h1, h2, h3, h4⟩ := h
  obtain ⟨o1, o2, o3, o4, o5⟩ := ok
  simp only at h1 h2 h3 h4 o1 o2 o3 o4 o5
  have fin : ∀ {S' : o_S} {W' : aW}, RW (S'.2.1 299) 0 W' → RX S S' → RR S' (sWld A W') ∧ RX S S' := fun hW hA => ⟨H.z hA.z hW, hA⟩
  unfold f_X10_doesAct b_X10_doesAct_0
  rw [r_chk, rR15, bS, ra3 hi, bS, h1]
  by_cases q0 : k = 0
  · subst q0
    obtain ⟨S1, g1, g2, -, g3⟩ := r_makeG (n := n) H.1 hV hT (nI a1) (nI (2 + a2)) (nI a3) (nI a4)
    refine ⟨S1, ?_, fin g2 g3⟩
    rw [if_pos (show nI 0 = 0 from rfl), rR16, bS, ra4 hi, bS, rR17, bS, ra5 hi, bS, rR18, bS, ra6 hi, bS, rR19, bS, ra7 hi, bS, h2, h3 (Or.inl rfl), (h4 rfl).1, (h4 rfl).2, show (2 : Int32) = nI 2 from rfl, nI_add, g1, bS]
    rfl
  · rw [if_neg (show ¬ nI k = 0 by rw [i_eq0 (by omega)]; exact q0)]
    by_cases q1 : k = 1
    · subst q1
      obtain ⟨S1, g1, g2, g3⟩ := r_beatG (n := n) H.1 hV hT (nI a1)
      refine ⟨S1, ?_, fin g2 g3⟩
      rw [if_pos (show nI 1 = 1 from rfl), rR16, bS, ra4 hi, bS, h2, g1, bS]
      rfl
    · rw [if_neg (show ¬ nI k = 1 by rw [i_eq1 (by omega)]; exact q1)]
      by_cases q2 : k = 2
      · subst q2
        obtain ⟨S1, g1, g2, -, g3⟩ := r_comeG (n := n) H.1 hV hT (nI a1) (nI a2)
        refine ⟨S1, ?_, fin g2 g3⟩
        rw [if_pos (show nI 2 = 2 from rfl), rR16, bS, ra4 hi, bS, rR17, bS, ra5 hi, bS, h2, h3 (Or.inr rfl), g1, bS]
        rfl
      · rw [if_neg (show ¬ nI k = 2 by rw [show (2 : Int32) = nI 2 from rfl, i_eq (by omega) (by omega)]; exact q2)]
        by_cases q3 : k = 3
        · subst q3
          obtain ⟨S1, g1, g2, -, g3⟩ := r_gatherG (n := n) H.1 hV hT (nI a1)
          refine ⟨S1, ?_, fin g2 g3⟩
          rw [if_pos (show nI 3 = 3 from rfl), rR16, bS, ra4 hi, bS, h2, g1, bS]
          rfl
        · have q4 : k = 4 := by omega
          subst q4
          obtain ⟨S1, g1, g2, g3⟩ := r_cutG (n := n) H.1 hV hT (nI a1)
          refine ⟨S1, ?_, fin g2 g3⟩
          rw [if_neg (show ¬ nI 4 = 3 by decide), rR16, bS, ra4 hi, bS, h2, g1, bS]
          rfl
theorem r_da64 (H : RR S A) {L i : Nat} (hL : L < 1000) (hi : i < 1000) : ∃ S', b_X10_day_64 (ov S n) 296 (nI L) (nI i) = some (ov S' n, nI i) ∧ RR S' (sRow A [Int32.toInt64 (b2i (decide (i < L)))]) ∧ RE S S' := by
  obtain ⟨S1, g1, g2, g3⟩ := r_tell (n := n) H (Int32.toInt64 (b2i (decide (i < L))))
  refine ⟨S1, ?_, g2, g3⟩
  unfold b_X10_day_64 b_X10_day_80 f_X10_flag b_X10_flag_0
  rw [rP1, bS]
  by_cases e : L ≤ i
  · rw [decide_eq_false (show ¬ i < L by omega)] at g1
    have g1 : f_X10_enters (ov (o_sf S 296 1 0) n) 296 (Int32.toInt64 0) = some (ov S1 n, ()) := g1
    rw [if_pos (show nI L ≤ nI i by rw [i_le (by omega) (by omega)]; exact e), if_pos rfl, bS, g1, bS]
  · rw [decide_eq_true (show i < L by omega)] at g1
    have g1 : f_X10_enters (ov (o_sf S 296 1 0) n) 296 (Int32.toInt64 1) = some (ov S1 n, ()) := g1
    rw [if_neg (show ¬ nI L ≤ nI i by rw [i_le (by omega) (by omega)]; exact e), if_neg (show ¬ (1 : Int32) = 0 by decide), bS, g1, bS]
theorem r_da45 {l : List aA} (hl : l.length ≤ 80) (hok : ∀ a ∈ l, okA a) : ∀ (rest pre : List aA) fuel (S : o_S) (A : aS) T, pre ++ rest = l → rest.length < fuel → RR S A → V T (sW A) → T + cM rest ≤ 100000 → arA S l → ∃ S', l_X10_day_45 fuel (ov S n) 296 (nI l.length) (nI pre.length) = some (ov S' n, nI (rA (sW A) rest pre.length).1) ∧ RR S' (sRow (sWld A (rA (sW A) rest pre.length).2.2) [Int32.toInt64 (b2i (rA (sW A) rest pre.length).2.1)]) ∧ AG (fun b => 296 ≤ b ∧ b < 313) S S' := by
  intro rest
  induction rest with
  | nil =>
    intro pre fuel S A T hp hf H hV hT ha
    obtain ⟨f, rfl⟩ : ∃ f, fuel = f + 1 := ⟨fuel - 1, by omega⟩
    rw [List.append_nil] at hp
    subst hp
    obtain ⟨S1, g1, g2, g3⟩ := r_da64 (n := n) H (L := pre.length) (i := pre.length) (by omega) (by omega)
    rw [decide_eq_false (show ¬ pre.length < pre.length by omega)] at g2
    refine ⟨S1, ?_, g2, g3.ag⟩
    show b_X10_day_45 _ _ _ _ _ = _
    unfold b_X10_day_45
    rw [if_pos (show nI pre.length ≤ nI pre.length by rw [i_le (by omega) (by omega)]; omega), g1]
    rfl
  | cons a rest ih =>
    intro pre fuel S A T hp hf H hV hT ha
    obtain ⟨f, rfl⟩ : ∃ f, fuel = f + 1 := ⟨fuel - 1, by omega⟩
    have hlen : pre.length + (rest.length + 1) = l.length := by rw [← hp]; simp
    have hx : l[pre.length]? = some a := by rw [← hp]; simp
    simp only [List.length_cons] at hf
    have hT : T + ((if a.1 = 0 then 1 else 0) + cM rest) ≤ 100000 := hT
    obtain ⟨S1, g1, g2, g3⟩ := r_doA (n := n) (i := pre.length) (by omega) H hV (by omega) (hok a (List.mem_of_getElem? hx)) (ha _ _ hx)
    have hV1 := hV.eAct (by omega) a
    have ha1 : arA S1 l := fun i b hb => by
      obtain ⟨x1, x2, x3, x4⟩ := ha i b hb
      refine ⟨by rw [g3.1.I (by omega)]; exact x1, by rw [g3.1.I (by omega)]; exact x2, fun q => by rw [g3.1.I (by omega)]; exact x3 q, fun q => ⟨by rw [g3.1.I (by omega)]; exact (x4 q).1, by rw [g3.1.I (by omega)]; exact (x4 q).2⟩⟩
    show ∃ S', b_X10_day_45 _ _ _ _ _ = _ ∧ _
    unfold b_X10_day_45
    rw [if_neg (show ¬ nI l.length ≤ nI pre.length by rw [i_le (by omega) (by omega)]; omega), g1, bS]
    by_cases c : (eA (sW A) a).1 < 0
    · have er : rA (sW A) (a :: rest) pre.length = (pre.length, true, (eA (sW A) a).2) := by
        show (if (eA (sW A) a).1 < 0 then _ else _) = _
        rw [if_pos c]
      obtain ⟨S2, k1, k2, k3⟩ := r_da64 (n := n) g2 (L := l.length) (i := pre.length) (by omega) (by omega)
      rw [decide_eq_true (show pre.length < l.length by omega)] at k2
      rw [er, if_pos c]
      exact ⟨S2, k1, k2, g3.z.ag.tr k3.ag (fun _ q => q) (fun _ q => q)⟩
    · have er : rA (sW A) (a :: rest) pre.length = rA (eA (sW A) a).2 rest (pre.length + 1) := by
        show (if (eA (sW A) a).1 < 0 then _ else _) = _
        rw [if_neg c]
      obtain ⟨S2, k1, k2, k3⟩ := ih (pre ++ [a]) f S1 (sWld A (eA (sW A) a).2) _ (by rw [List.append_assoc]; exact hp) (by omega) g2 hV1 (by omega) ha1
      have el : (pre ++ [a]).length = pre.length + 1 := by simp
      rw [el] at k1 k2
      rw [er, if_neg c, nI_1]
      exact ⟨S2, k1, k2, g3.z.ag.tr k3 (fun _ q => q) (fun _ q => q)⟩
theorem r_da11 : ∀ f p fuel (S : o_S) (d : List aA), X.length - p < f → f ≤ fuel → d.length + (X.length - p) ≤ 80 → p < 500 → RT S X p → arA S d → (∀ e, pD X f p = .inl e → ∃ S', l_X10_day_11 fuel (ov S n) 296 (nI d.length) = some (ov S' n, er e) ∧ wZ S S') ∧ (∀ l, pD X f p = .inr l → ∃ S', l_X10_day_11 fuel (ov S n) 296 (nI d.length) = l_X10_day_45 q_FU (ov S' n) 296 (nI (d ++ l).length) 0 ∧ wZ S S' ∧ arA S' (d ++ l)) := by
  intro f
  induction f with
  | zero => intro p fuel S d h1; omega
  | succ f ih =>
    intro p fuel S d h1 h2 h3 hp hT hd
    have h80 := hT.1
    obtain ⟨fu, rfl⟩ : ∃ f, fuel = f + 1 := ⟨fuel - 1, by omega⟩
    show (∀ e, pD X (f + 1) p = .inl e → ∃ S', b_X10_day_11 (l_X10_day_11 fu) (ov S n) 296 (nI d.length) = _ ∧ _) ∧ (∀ l, pD X (f + 1) p = .inr l → ∃ S', b_X10_day_11 (l_X10_day_11 fu) (ov S n) 296 (nI d.length) = _ ∧ _)
    unfold b_X10_day_11
    rw [rI5, bS, rI6, bS, hT.2.2.1, hT.2.1]
    by_cases e : X.length ≤ p
    · have hP : pD X (f + 1) p = .inr [] := by unfold pD; rw [if_pos e]
      rw [hP]
      refine ⟨fun e he => (by cases he), fun l he => ?_⟩
      cases he
      refine ⟨S, ?_, wZ.rf, by rw [List.append_nil]; exact hd⟩
      rw [List.append_nil, if_pos (show nI X.length ≤ nI p by rw [i_le (by omega) (by omega)]; exact e)]
    · rw [if_neg (show ¬ nI X.length ≤ nI p by rw [i_le (by omega) (by omega)]; exact e)]
      obtain ⟨s1, s2⟩ := r_rdA (n := n) (k := d.length) hT hp (by omega)
      cases hst : pA X p with
      | inl e' =>
        have hP : pD X (f + 1) p = .inl e' := by unfold pD; rw [if_neg e, hst]
        obtain ⟨S1, g1, g2, g3⟩ := s1 e' hst
        rw [hP]
        refine ⟨fun e he => ?_, fun l he => (by cases he)⟩
        cases he
        refine ⟨S1, ?_, g2⟩
        rw [g1, bS, if_pos rfl, rI5, bS, g3.2.2.1]
        rfl
      | inr r =>
        obtain ⟨q, a⟩ := r
        obtain ⟨hk, hq⟩ := pA_q hst
        have hb := sgK_b a.1
        obtain ⟨S1, g1, g2, g3, g4⟩ := s2 q a hst
        have hd1 : arA S1 (d ++ [a]) := by
          intro i x hx
          by_cases ei : i = d.length
          · subst ei
            have : a = x := by simpa using hx
            subst this
            exact g4
          · have hi : i < (d ++ [a]).length := (List.getElem?_eq_some_iff.mp hx).1
            simp at hi
            rw [List.getElem?_append_left (by omega)] at hx
            obtain ⟨x1, x2, x3, x4⟩ := hd i x hx
            have key : ∀ b, S1.2.1 b i = S.2.1 b i := fun b => g2.2 b i (Or.inr (Or.inr ei))
            exact ⟨by rw [key]; exact x1, by rw [key]; exact x2, fun q => by rw [key]; exact x3 q, fun q => ⟨by rw [key]; exact (x4 q).1, by rw [key]; exact (x4 q).2⟩⟩
        obtain ⟨i1, i2⟩ := ih q fu S1 (d ++ [a]) (by omega) (by omega) (by simp; omega) (by omega) g3 hd1
        have el : (d ++ [a]).length = d.length + 1 := by simp
        rw [el] at i1 i2
        rw [g1, bS, if_neg (show ¬ (1 : Int32) = 0 by decide), nI_1]
        cases hP2 : pD X f q with
        | inl e' =>
          have hP : pD X (f + 1) p = .inl e' := by unfold pD; rw [if_neg e, hst]; simp only; rw [hP2]
          rw [hP]
          refine ⟨fun e he => ?_, fun l he => (by cases he)⟩
          cases he
          obtain ⟨S2, k1, k2⟩ := i1 e' hP2
          exact ⟨S2, k1, g2.1.tr k2⟩
        | inr l2 =>
          have hP : pD X (f + 1) p = .inr (a :: l2) := by unfold pD; rw [if_neg e, hst]; simp only; rw [hP2]
          rw [hP]
          refine ⟨fun e he => (by cases he), fun l he => ?_⟩
          cases he
          obtain ⟨S2, k1, k2, k3⟩ := i2 l2 hP2
          rw [List.append_assoc] at k1 k3
          exact ⟨S2, k1, g2.1.tr k2, k3⟩
theorem pD_e : ∀ f p e, pD X f p = .inl e → e < X.length + 5 := by
  intro f
  induction f with
  | zero => intro p e h; cases h
  | succ f ih =>
    intro p e h
    unfold pD at h
    split at h
    · cases h
    · rename_i hp
      split at h
      · rename_i e' he
        cases h
        cases hk : gt (fI sA0) X p with
        | none => rw [pA_n hk] at he; cases he; omega
        | some k =>
          have := pA_s hk
          have hb := sgK_b k
          split at this
          · rename_i j hj
            rw [he] at this
            cases this
            have := find_in _ _ _ hj
            omega
          · obtain ⟨a, ha⟩ := this
            rw [he] at ha
            cases ha
      · rename_i q a he
        split at h
        · rename_i e' he'
          cases h
          exact ih q _ he'
        · cases h
theorem pD_b : ∀ f p l, pD X f p = .inr l → (∀ a ∈ l, okA a) ∧ l.length ≤ X.length - p ∧ 5 * cM l ≤ X.length - p := by
  intro f
  induction f with
  | zero => intro p l h; cases h; exact ⟨fun x hx => (by cases hx), Nat.zero_le _, Nat.zero_le _⟩
  | succ f ih =>
    intro p l h
    unfold pD at h
    split at h
    · cases h; exact ⟨fun x hx => (by cases hx), Nat.zero_le _, Nat.zero_le _⟩
    · rename_i hp
      split at h
      · cases h
      · rename_i q a he
        split at h
        · cases h
        · rename_i l' he'
          cases h
          obtain ⟨i1, i2, i3⟩ := ih q l' he'
          obtain ⟨hk, hq⟩ := pA_q he
          obtain ⟨ok, c1, c2, c3⟩ := pA_i he
          have hb := sgK_b a.1
          refine ⟨fun x hx => ?_, by simp only [List.length_cons]; omega, ?_⟩
          · rcases List.mem_cons.mp hx with e | e
            · subst e; exact ok
            · exact i1 x e
          · show 5 * ((if a.1 = 0 then 1 else 0) + cM l') ≤ _
            by_cases e0 : a.1 = 0
            · obtain ⟨c, hc, -⟩ := gt_c (c3 e0).2.2
              have hl4 : p + 4 < X.length := (List.getElem?_eq_some_iff.mp hc).1
              have hs : sgK a.1 = 5 := by rw [e0]; rfl
              rw [if_pos e0]
              omega
            · rw [if_neg e0]
              omega
theorem V.rAct : ∀ (l : List aA) (W : aW) i T, V T W → T + cM l ≤ 100000 → V (T + cM l) (rA W l i).2.2 := by
  intro l
  induction l with
  | nil => intro W i T h _; exact h
  | cons a l ih =>
    intro W i T h hT
    have hT : T + ((if a.1 = 0 then 1 else 0) + cM l) ≤ 100000 := hT
    have h1 := h.eAct (by omega) a
    show V (T + ((if a.1 = 0 then 1 else 0) + cM l)) (if (eA W a).1 < 0 then (i, true, (eA W a).2) else rA (eA W a).2 l (i + 1)).2.2
    by_cases c : (eA W a).1 < 0
    · rw [if_pos c]
      exact V.mono h1 (T' := T + ((if a.1 = 0 then 1 else 0) + cM l)) (by omega)
    · rw [if_neg c]
      have := ih (eA W a).2 (i + 1) _ h1 (by omega)
      rw [Nat.add_assoc] at this
      exact this
theorem ag_day (h : OKA T A) (hT : T ≤ 90000) : AGR T A (fun h => f_X9_day h 0) (fun h => f_X10_day h 296) := by
  have hf : 101 ≤ q_FU := Nat.le_of_lt (q_FU_lt (by omega))
  have agX : ∀ S : o_S, AG (fun b => b < 296) S (o_sf S 95 1 0) := fun S => (AG_sf S 95 1 0).mono (fun b q => by omega)
  have ag5 : ∀ {S S1 S2 : o_S}, AG (fun b => b = 296) S S1 → wZ S1 S2 → AG (fun b => 296 ≤ b ∧ b < 313) S S2 := fun a b => a.tr b.1.ag (fun b q => by omega) (fun b q => q)
  have r0 : ∀ (S : o_S) n, RR S A → ∃ S1, f_X10_day (ov S n) 296 = l_X10_day_11 q_FU (ov S1 n) 296 0 ∧ RR S1 (sTxt A []) ∧ RT S1 (sX A) 0 ∧ AG (fun b => b = 296) S S1 := by
    intro S n H
    obtain ⟨S1, g1, g2, g3, g4⟩ := r_reads (n := n) (H.fld (k := 0) 0 (by omega) (by omega))
    refine ⟨S1, ?_, g2, g3, (AG_sf S 296 0 0).tr g4 (fun _ q => q) (fun _ q => q)⟩
    unfold f_X10_day b_X10_day_0
    rw [r_chk, rP0, bS, g1, bS]
  have x0 : ∀ (S : o_S) n, CR S A → f_X9_wrongSignOfDay (ov S n) 0 = some (ov S n, match pD (sX A) 100 0 with
      | .inl e => nI e
      | .inr _ => -1) := by
    intro S n H
    have h80 := H.2.2.2.2.1
    unfold f_X9_wrongSignOfDay b_X9_wrongSignOfDay_0
    rw [x_chk]
    exact x_wdL (n := n) H 100 0 q_FU (by omega) (by omega) (by omega)
  cases hP : pD (sX A) 100 0 with
  | inl e =>
    have he := pD_e _ _ _ hP
    refine ⟨er e, sTxt A [], fun S n H => ⟨o_sf S 95 1 0, ?_, x_tx0 H, agX S⟩, fun S n H => ?_, h.txt (by omega) _⟩
    · have h80 := H.2.2.2.2.1
      have := x0 S n H
      rw [hP] at this
      have : f_X9_wrongSignOfDay (ov S n) 0 = some (ov S n, nI e) := this
      show f_X9_day _ _ = _
      unfold f_X9_day b_X9_day_0
      rw [x_chk, this, bS, if_neg (show ¬ nI e < 0 from nI_pos (by omega)), xR5, bS, zCl, bS]
      rfl
    · obtain ⟨S1, g1, g2, g3, g4⟩ := r0 S n H
      have h80 := g3.1
      obtain ⟨k1, -⟩ := r_da11 (n := n) (X := sX A) 100 0 q_FU S1 [] (by omega) (by omega) (by simp; omega) (by omega) g3 (fun _ _ q => nomatch q)
      obtain ⟨S2, l1, l2⟩ := k1 e hP
      exact ⟨S2, g1.trans l1, l2.rr g2, ag5 g4 l2⟩
  | inr l =>
    obtain ⟨b1, b2, b3⟩ := pD_b _ _ _ hP
    have hV' : (sX A).length ≤ 80 → V (T + 20) (rA (sW A) l 0).2.2 := fun h80 => (V.rAct l (sW A) 0 T h.1 (by omega)).mono (by omega)
    by_cases h80 : (sX A).length ≤ 80
    · refine ⟨nI (rA (sW A) l 0).1, sRow (sTxt (sWld A (rA (sW A) l 0).2.2) []) [Int32.toInt64 (b2i (rA (sW A) l 0).2.1)], fun S n H => ?_, fun S n H => ?_, h.wld (by omega) (hV' h80)⟩
      · have := x0 S n H
        rw [hP] at this
        have : f_X9_wrongSignOfDay (ov S n) 0 = some (ov S n, -1) := this
        obtain ⟨S1, g1, g2, g3⟩ := x_daL (n := n) 100 0 q_FU S A l 0 T (by omega) hf (by omega) hP H h.1 (by omega)
        refine ⟨S1, ?_, g2, g3⟩
        show f_X9_day _ _ = _
        unfold f_X9_day b_X9_day_0
        rw [x_chk, this, bS, if_pos (show (-1 : Int32) < 0 by decide)]
        exact g1
      · obtain ⟨S1, g1, g2, g3, g4⟩ := r0 S n H
        obtain ⟨-, k1⟩ := r_da11 (n := n) (X := sX A) 100 0 q_FU S1 [] (by omega) (by omega) (by simp; omega) (by omega) g3 (fun _ _ q => nomatch q)
        obtain ⟨S2, l1, l2, l3⟩ := k1 l hP
        rw [List.nil_append] at l1 l3
        obtain ⟨S3, m1, m2, m3⟩ := r_da45 (n := n) (l := l) (by omega) b1 l [] q_FU S2 (sTxt A []) T rfl (q_FU_lt (by omega)) (l2.rr g2) h.1 (by omega) l3
        refine ⟨S3, ?_, m2, (ag5 g4 l2).tr m3 (fun _ q => q) (fun _ q => q)⟩
        show f_X10_day _ _ = _
        rw [g1]
        refine l1.trans ?_
        exact m1
    · refine ⟨0, A, fun S n H => absurd H.2.2.2.2.1 h80, fun S n H => absurd H.2.2.2.1 h80, h.mono (by omega)⟩
end DD
