/-! A DAY 3: the reference -/
theorem a2n_c : ∀ c, c < 256 → c ≠ 47 → c ≠ 126 → rdC c = (fI sA2 c).map (fun f => 2 + f) := by decide +kernel
/-- the five rows at k alone change -/
def kp (k : Nat) (S S' : o_S) : Prop := wZ S S' ∧ ∀ a i, (a < 303 ∨ 307 < a ∨ i ≠ k) → S'.2.1 a i = S.2.1 a i
theorem kp.tr {k : Nat} {S S1 S2 : o_S} (h : kp k S S1) (g : kp k S1 S2) : kp k S S2 := ⟨h.1.tr g.1, fun a i q => (g.2 a i q).trans (h.2 a i q)⟩
theorem kp.rf {k : Nat} {S : o_S} : kp k S S := ⟨wZ.rf, fun _ _ _ => rfl⟩
theorem kp.fld5 {k : Nat} {S : o_S} (v : Int32) : kp k S (o_sf S 296 5 v) := ⟨wZ.fld v (by omega) (by omega), fun _ _ _ => rfl⟩
abbrev sA (S : o_S) (a k : Nat) (x : Int32) : o_S := o_sI S a (upd (S.2.1 a) k x)
theorem kp.sA {k a : Nat} {S : o_S} (x : Int32) (h1 : 303 ≤ a) (h2 : a ≤ 307) : kp k S (sA S a k x) := ⟨wZ.sI _ (by omega) (by omega), fun b i q => by
  rw [s_I]
  by_cases e : b = a
  · subst e
    rw [if_pos rfl, pk_un (by omega)]
  · rw [if_neg e]⟩
theorem sA_s (S : o_S) (a k : Nat) (x : Int32) : (sA S a k x).2.1 a k = x := by rw [s_I, if_pos rfl, pk_us]
theorem sA_n (S : o_S) {a b : Nat} (k : Nat) (x : Int32) (h : b ≠ a) : (sA S a k x).2.1 b k = S.2.1 b k := by rw [s_I, if_neg h]
theorem sA_T {S : o_S} {X : List Nat} {p a k : Nat} (x : Int32) (h : RT S X p) (ha : a ≠ 298) : RT (sA S a k x) X p := h.cg rfl (by rw [s_I, if_neg (Ne.symm ha)])
def mv1 (o : Option Nat) : Nat := if o.isSome then 1 else 0
def arK (S : o_S) (k : Nat) (a : aA) : Prop := S.2.1 303 k = nI a.1 ∧ S.2.1 304 k = nI a.2.1 ∧ (a.1 = 0 ∨ a.1 = 2 → S.2.1 305 k = nI a.2.2.1) ∧ (a.1 = 0 → S.2.1 306 k = nI a.2.2.2.1 ∧ S.2.1 307 k = nI a.2.2.2.2)
def arA (S : o_S) (l : List aA) : Prop := ∀ i a, l[i]? = some a → arK S i a
theorem oI_pos {o : Option Nat} (h : ∀ m, o = some m → m < 2 ^ 31) : (0 ≤ oI o) ↔ o.isSome = true := by
  cases o with
  | none => exact ⟨fun q => absurd q (by decide), fun q => nomatch q⟩
  | some m => exact ⟨fun _ => rfl, fun _ => nI_pos' (h m rfl)⟩
section DC
variable {S : o_S} {n : Nat × Nat × Nat} {A : aS} {T : Nat} {X : List Nat}
theorem ra3 {j : Nat} (h : j < 80) : q_lI 0 (ov S n) 303 (nI j) = some (S.2.1 303 j) := by
  rw [o_lI (t := 0) (m := 80) (fun _ _ _ => rfl), if_pos (q_in_nI h (by omega)), nI_clamp (by omega)]
theorem ra4 {j : Nat} (h : j < 80) : q_lI 0 (ov S n) 304 (nI j) = some (S.2.1 304 j) := by
  rw [o_lI (t := 0) (m := 80) (fun _ _ _ => rfl), if_pos (q_in_nI h (by omega)), nI_clamp (by omega)]
theorem ra5 {j : Nat} (h : j < 80) : q_lI 0 (ov S n) 305 (nI j) = some (S.2.1 305 j) := by
  rw [o_lI (t := 0) (m := 80) (fun _ _ _ => rfl), if_pos (q_in_nI h (by omega)), nI_clamp (by omega)]
theorem ra6 {j : Nat} (h : j < 80) : q_lI 0 (ov S n) 306 (nI j) = some (S.2.1 306 j) := by
  rw [o_lI (t := 0) (m := 80) (fun _ _ _ => rfl), if_pos (q_in_nI h (by omega)), nI_clamp (by omega)]
theorem ra7 {j : Nat} (h : j < 80) : q_lI 0 (ov S n) 307 (nI j) = some (S.2.1 307 j) := by
  rw [o_lI (t := 0) (m := 80) (fun _ _ _ => rfl), if_pos (q_in_nI h (by omega)), nI_clamp (by omega)]
theorem rb3 {j : Nat} (h : j < 80) (x : Int32) : q_sI 0 id (ov S n) 303 (nI j) x = some (ov (sA S 303 j x) n) := by
  rw [o_stI (t := 0) (m := 80) (fun _ _ _ => rfl), if_pos (q_in_nI h (by omega)), nI_clamp (by omega), idS]
theorem rb4 {j : Nat} (h : j < 80) (x : Int32) : q_sI 0 id (ov S n) 304 (nI j) x = some (ov (sA S 304 j x) n) := by
  rw [o_stI (t := 0) (m := 80) (fun _ _ _ => rfl), if_pos (q_in_nI h (by omega)), nI_clamp (by omega), idS]
theorem rb5 {j : Nat} (h : j < 80) (x : Int32) : q_sI 0 id (ov S n) 305 (nI j) x = some (ov (sA S 305 j x) n) := by
  rw [o_stI (t := 0) (m := 80) (fun _ _ _ => rfl), if_pos (q_in_nI h (by omega)), nI_clamp (by omega), idS]
theorem rb6 {j : Nat} (h : j < 80) (x : Int32) : q_sI 0 id (ov S n) 306 (nI j) x = some (ov (sA S 306 j x) n) := by
  rw [o_stI (t := 0) (m := 80) (fun _ _ _ => rfl), if_pos (q_in_nI h (by omega)), nI_clamp (by omega), idS]
theorem rb7 {j : Nat} (h : j < 80) (x : Int32) : q_sI 0 id (ov S n) 307 (nI j) x = some (ov (sA S 307 j x) n) := by
  rw [o_stI (t := 0) (m := 80) (fun _ _ _ => rfl), if_pos (q_in_nI h (by omega)), nI_clamp (by omega), idS]
theorem r_tk {a : Nat} (h : RT S X a) (ha : a < 2 ^ 31) {u : UInt32} {l : List Nat} (hu : isS u l) (k : Nat) : ∃ S', f_X10_takesOf (ov S n) 296 u = some (ov S' n, oI (gt (fI l) X a)) ∧ RT S' X (a + mv1 (gt (fI l) X a)) ∧ kp k S S' ∧ S'.2 = S.2 := by
  have := r_takes (n := n) h ha hu
  have e : tkO l X a = gt (fI l) X a := rfl
  rw [e] at this
  cases c : gt (fI l) X a with
  | none =>
    rw [c] at this
    exact ⟨S, this, h, kp.rf, rfl⟩
  | some m =>
    rw [c] at this
    exact ⟨_, this, h.mv, kp.fld5 _, rfl⟩
theorem r_rp {a : Nat} (h : RT S X a) (ha : a < 1000) (k : Nat) : ∃ S', f_X10_readsParent (ov S n) 296 = some (ov S' n, oI (gt rdC X a)) ∧ RT S' X (a + mv1 (gt rdC X a)) ∧ kp k S S' ∧ S'.2 = S.2 := by
  have h80 := h.1
  have hX := h.x256
  obtain ⟨S1, g1, g2, g3, g4⟩ := r_tk (n := n) h (by omega) is2 k
  have h74 : b_X10_readsParent_74 (ov S n) 296 = some (ov S1 n, oI ((gt (fI sA2) X a).map (fun f => 2 + f))) := by
    unfold b_X10_readsParent_74
    rw [g1, bS]
    cases c : gt (fI sA2) X a with
    | none => exact if_neg (show ¬ 0 ≤ oI none by decide)
    | some f =>
      obtain ⟨ch, -, hc⟩ := gt_c c
      have : f < 12 := fI_lt hc
      refine (if_pos (show 0 ≤ oI (some f) from nI_pos' (by omega))).trans ?_
      show some (ov S1 n, (2 : Int32) + nI f) = some (ov S1 n, nI (2 + f))
      rw [show (2 : Int32) = nI 2 from rfl, nI_add]
  unfold f_X10_readsParent b_X10_readsParent_0 b_X10_readsParent_37
  rw [r_chk]
  simp only [rI5, rI6, h.2.1, h.2.2.1, bS, rR3]
  by_cases e : X.length ≤ a
  · have hx : X[a]? = none := List.getElem?_eq_none e
    have e2 : gt rdC X a = none := g_n hx
    have e3 : gt (fI sA2) X a = none := g_n hx
    rw [e3] at g2 h74
    refine ⟨S1, ?_, by rw [e2]; exact g2, g3, g4⟩
    rw [if_pos (show nI X.length ≤ nI a by rw [i_le (by omega) (by omega)]; exact e), if_pos (show nI X.length ≤ nI a by rw [i_le (by omega) (by omega)]; exact e), h74, e2]
    rfl
  · have hx : X[a]? = some X[a] := List.getElem?_eq_getElem (by omega)
    obtain ⟨v1, v2⟩ := h.2.2.2 a _ hx
    have e2 : gt rdC X a = rdC X[a] := g_s hx
    have e3 : gt (fI sA2) X a = fI sA2 X[a] := g_s hx
    rw [if_neg (show ¬ nI X.length ≤ nI a by rw [i_le (by omega) (by omega)]; exact e), if_neg (show ¬ nI X.length ≤ nI a by rw [i_le (by omega) (by omega)]; exact e), rtL (by omega), bS, v1, bS]
    by_cases c1 : X[a] = 47
    · have e4 : gt rdC X a = some 0 := by rw [e2, c1]; rfl
      refine ⟨_, ?_, by rw [e4]; exact h.mv, kp.fld5 _, rfl⟩
      rw [if_pos (show nI X[a] = 47 by rw [c1]; rfl), nI_1, rP5, bS, e4]
      rfl
    · rw [if_neg (show ¬ nI X[a] = 47 by rw [show (47 : Int32) = nI 47 from rfl, i_eq (by omega) (by omega)]; exact c1)]
      by_cases c2 : X[a] = 126
      · have e4 : gt rdC X a = some 1 := by rw [e2, c2]; rfl
        refine ⟨_, ?_, by rw [e4]; exact h.mv, kp.fld5 _, rfl⟩
        rw [if_pos (show nI X[a] = 126 by rw [c2]; rfl), nI_1, rP5, bS, e4]
        rfl
      · have e4 : gt rdC X a = (gt (fI sA2) X a).map (fun f => 2 + f) := by rw [e2, e3]; exact a2n_c _ v2 c1 c2
        refine ⟨S1, ?_, ?_, g3, g4⟩
        · rw [if_neg (show ¬ nI X[a] = 126 by rw [show (126 : Int32) = nI 126 from rfl, i_eq (by omega) (by omega)]; exact c2), h74, e4]
        · rw [e4]
          have : mv1 ((gt (fI sA2) X a).map (fun f => 2 + f)) = mv1 (gt (fI sA2) X a) := by cases gt (fI sA2) X a <;> rfl
          rw [this]
          exact g2
theorem r_rdA {p k : Nat} (h : RT S X p) (hp : p < 500) (hk : k < 80) : (∀ e, pA X p = .inl e → ∃ S', f_X10_readsAct (ov S n) 296 (nI k) = some (ov S' n, 0) ∧ wZ S S' ∧ RT S' X e) ∧ (∀ q a, pA X p = .inr (q, a) → ∃ S', f_X10_readsAct (ov S n) 296 (nI k) = some (ov S' n, 1) ∧ kp k S S' ∧ RT S' X q ∧ arK S' k a) := by
  obtain ⟨S1, a1, a2, a3, a4⟩ := r_tk (n := n) h (by omega) is0 k
  unfold f_X10_readsAct b_X10_readsAct_0
  rw [r_chk, rR15, bS, a1, bS, rb3 hk, bS, rR16, bS, rR15, bS, ra3 hk, bS, sA_s]
  unfold pA
  have a2' := sA_T (k := k) (oI (gt (fI sA0) X p)) a2 (a := 303) (by omega)
  have z2 := a3.tr (kp.sA (S := S1) (a := 303) (oI (gt (fI sA0) X p)) (by omega) (by omega))
  have s2 := sA_s S1 303 k (oI (gt (fI sA0) X p))
  obtain ⟨S2, hS2⟩ : ∃ S2, S2 = sA S1 303 k (oI (gt (fI sA0) X p)) := ⟨_, rfl⟩
  rw [← hS2] at a2' z2 s2 ⊢
  cases c0 : gt (fI sA0) X p with
  | none =>
    rw [c0] at a2' s2
    refine ⟨fun e he => ?_, fun q a he => by cases he⟩
    cases he
    have z3 := z2.tr (kp.sA (S := S2) (a := 304) (-1) (by omega) (by omega))
    refine ⟨sA S2 304 k (-1), ?_, z3.1, sA_T _ a2' (by omega)⟩
    rw [if_neg (show ¬ 0 ≤ oI none by decide)]
    unfold b_X10_readsAct_38
    rw [rb4 hk, bS, rR16, bS, ra4 hk, bS, sA_s, if_neg (by decide)]
  | some kk =>
    rw [c0] at a2' s2
    have hk5 : kk < 5 := by obtain ⟨c, -, hc⟩ := gt_c c0; exact fI_lt hc
    have a2' : RT S2 X (p + 1) := a2'
    have s2 : S2.2.1 303 k = nI kk := s2
    obtain ⟨S3, b1, b2, b3, b4⟩ := r_tk (n := n) a2' (by omega) is1 k
    rw [if_pos (show 0 ≤ oI (some kk) from nI_pos' (by omega)), b1, bS]
    unfold b_X10_readsAct_38
    rw [rb4 hk, bS, rR16, bS, ra4 hk, bS, sA_s]
    have b2' := sA_T (k := k) (oI (gt (fI sA1) X (p + 1))) b2 (a := 304) (by omega)
    have z4 := (z2.tr b3).tr (kp.sA (S := S3) (a := 304) (oI (gt (fI sA1) X (p + 1))) (by omega) (by omega))
    have s4 := sA_s S3 304 k (oI (gt (fI sA1) X (p + 1)))
    have s4' : (sA S3 304 k (oI (gt (fI sA1) X (p + 1)))).2.1 303 k = nI kk := by rw [sA_n _ _ _ (by omega), b4]; exact s2
    obtain ⟨S4, hS4⟩ : ∃ S4, S4 = sA S3 304 k (oI (gt (fI sA1) X (p + 1))) := ⟨_, rfl⟩
    rw [← hS4] at b2' z4 s4 s4' ⊢
    cases c1 : gt (fI sA1) X (p + 1) with
    | none =>
      rw [c1] at b2'
      refine ⟨fun e he => ?_, fun q a he => by cases he⟩
      cases he
      refine ⟨S4, ?_, z4.1, b2'⟩
      rw [if_neg (show ¬ 0 ≤ oI none by decide)]
    | some o1 =>
      rw [c1] at b2' s4
      have h1 : o1 < 3 := by obtain ⟨c, -, hc⟩ := gt_c c1; exact fI_lt hc
      have b2' : RT S4 X (p + 2) := b2'
      have s4 : S4.2.1 304 k = nI o1 := s4
      rw [if_pos (show 0 ≤ oI (some o1) from nI_pos' (by omega))]
      simp only
      rw [rR15, bS, ra3 hk, bS, s4']
      by_cases e2 : kk = 2
      · subst e2
        rw [if_pos rfl, if_pos (show nI 2 = 2 from rfl)]
        obtain ⟨S5, d1, d2, d3, d4⟩ := r_tk (n := n) b2' (by omega) is1 k
        rw [rR17, bS, d1, bS, rb5 hk, bS, rR17, bS, ra5 hk, bS, sA_s]
        have z6 := (z4.tr d3).tr (kp.sA (S := S5) (a := 305) (oI (gt (fI sA1) X (p + 2))) (by omega) (by omega))
        have t6 := sA_T (k := k) (oI (gt (fI sA1) X (p + 2))) d2 (a := 305) (by omega)
        cases c2 : gt (fI sA1) X (p + 2) with
        | none =>
          rw [c2] at z6 t6
          refine ⟨fun e he => ?_, fun q a he => by cases he⟩
          cases he
          refine ⟨_, ?_, z6.1, t6⟩
          rw [if_pos (show oI none < 0 by decide)]
        | some o2 =>
          rw [c2] at z6 t6
          have h2 : o2 < 3 := by obtain ⟨c, -, hc⟩ := gt_c c2; exact fI_lt hc
          refine ⟨fun e he => (by cases he), fun q a he => ?_⟩
          cases he
          refine ⟨_, ?_, z6, t6, ?_⟩
          · rw [if_neg (show ¬ oI (some o2) < 0 from nI_pos (by omega))]
          · refine ⟨?_, ?_, fun _ => sA_s _ _ _ _, fun q => by cases q⟩
            · rw [sA_n _ _ _ (by omega), d4]; exact s4'
            · rw [sA_n _ _ _ (by omega), d4]; exact s4
      · rw [if_neg e2, if_neg (show ¬ nI kk = 2 by rw [show (2 : Int32) = nI 2 from rfl, i_eq (by omega) (by omega)]; exact e2), bS, ra3 hk, bS, s4']
        by_cases e0 : kk = 0
        · subst e0
          rw [if_pos rfl, if_pos (show nI 0 = 0 from rfl)]
          obtain ⟨S5, d1, d2, d3, d4⟩ := r_tk (n := n) b2' (by omega) is2 k
          rw [rR17, bS, d1, bS, rb5 hk, bS, rR18, bS, rR17, bS, ra5 hk, bS, sA_s]
          have z6 := (z4.tr d3).tr (kp.sA (S := S5) (a := 305) (oI (gt (fI sA2) X (p + 2))) (by omega) (by omega))
          have t6 := sA_T (k := k) (oI (gt (fI sA2) X (p + 2))) d2 (a := 305) (by omega)
          have s6 := sA_s S5 305 k (oI (gt (fI sA2) X (p + 2)))
          have s6a : (sA S5 305 k (oI (gt (fI sA2) X (p + 2)))).2.1 303 k = nI 0 := by rw [sA_n _ _ _ (by omega), d4]; exact s4'
          have s6b : (sA S5 305 k (oI (gt (fI sA2) X (p + 2)))).2.1 304 k = nI o1 := by rw [sA_n _ _ _ (by omega), d4]; exact s4
          obtain ⟨S6, hS6⟩ : ∃ S6, S6 = sA S5 305 k (oI (gt (fI sA2) X (p + 2))) := ⟨_, rfl⟩
          rw [← hS6] at z6 t6 s6 s6a s6b ⊢
          cases c2 : gt (fI sA2) X (p + 2) with
          | none =>
            rw [c2] at t6
            refine ⟨fun e he => ?_, fun q a he => by cases he⟩
            cases he
            have z8 := (z6.tr (kp.sA (S := S6) (a := 306) (-1) (by omega) (by omega))).tr (kp.sA (S := sA S6 306 k (-1)) (a := 307) (-1) (by omega) (by omega))
            refine ⟨_, ?_, z8.1, sA_T _ (sA_T _ t6 (by omega)) (by omega)⟩
            rw [if_neg (show ¬ 0 ≤ oI none by decide)]
            unfold b_X10_readsAct_134 b_X10_readsAct_160
            rw [rb6 hk, bS, rR19, bS, rR18, bS, ra6 hk, bS, sA_s, if_neg (by decide), rb7 hk, bS, rR19, bS, ra7 hk, bS, sA_s, if_pos (by decide)]
          | some o2 =>
            rw [c2] at t6 s6
            have h2 : o2 < 12 := by obtain ⟨c, -, hc⟩ := gt_c c2; exact fI_lt hc
            have t6 : RT S6 X (p + 3) := t6
            have s6 : S6.2.1 305 k = nI o2 := s6
            obtain ⟨S7, f1, f2, f3, f4⟩ := r_rp (n := n) t6 (by omega) k
            rw [if_pos (show 0 ≤ oI (some o2) from nI_pos' (by omega)), f1, bS]
            unfold b_X10_readsAct_134
            rw [rb6 hk, bS, rR19, bS, rR18, bS, ra6 hk, bS, sA_s]
            have z8 := (z6.tr f3).tr (kp.sA (S := S7) (a := 306) (oI (gt rdC X (p + 3))) (by omega) (by omega))
            have t8 := sA_T (k := k) (oI (gt rdC X (p + 3))) f2 (a := 306) (by omega)
            have s8 := sA_s S7 306 k (oI (gt rdC X (p + 3)))
            have s8a : (sA S7 306 k (oI (gt rdC X (p + 3)))).2.1 303 k = nI 0 := by rw [sA_n _ _ _ (by omega), f4]; exact s6a
            have s8b : (sA S7 306 k (oI (gt rdC X (p + 3)))).2.1 304 k = nI o1 := by rw [sA_n _ _ _ (by omega), f4]; exact s6b
            have s8c : (sA S7 306 k (oI (gt rdC X (p + 3)))).2.1 305 k = nI o2 := by rw [sA_n _ _ _ (by omega), f4]; exact s6
            obtain ⟨S8, hS8⟩ : ∃ S8, S8 = sA S7 306 k (oI (gt rdC X (p + 3))) := ⟨_, rfl⟩
            rw [← hS8] at z8 t8 s8 s8a s8b s8c ⊢
            cases c3 : gt rdC X (p + 3) with
            | none =>
              rw [c3] at t8
              refine ⟨fun e he => ?_, fun q a he => by cases he⟩
              cases he
              refine ⟨_, ?_, (z8.tr (kp.sA (S := S8) (a := 307) (-1) (by omega) (by omega))).1, sA_T _ t8 (by omega)⟩
              rw [if_neg (show ¬ 0 ≤ oI none by decide)]
              unfold b_X10_readsAct_160
              rw [rb7 hk, bS, rR19, bS, ra7 hk, bS, sA_s, if_pos (by decide)]
            | some o3 =>
              rw [c3] at t8 s8
              have h3 : o3 < 14 := by obtain ⟨c, -, hc⟩ := gt_c c3; exact rdC_lt hc
              have t8 : RT S8 X (p + 4) := t8
              have s8 : S8.2.1 306 k = nI o3 := s8
              obtain ⟨S9, j1, j2, j3, j4⟩ := r_tk (n := n) t8 (by omega) is3 k
              rw [if_pos (show 0 ≤ oI (some o3) from nI_pos' (by omega)), j1, bS]
              unfold b_X10_readsAct_160
              rw [rb7 hk, bS, rR19, bS, ra7 hk, bS, sA_s]
              have z10 := (z8.tr j3).tr (kp.sA (S := S9) (a := 307) (oI (gt (fI sA3) X (p + 4))) (by omega) (by omega))
              have t10 := sA_T (k := k) (oI (gt (fI sA3) X (p + 4))) j2 (a := 307) (by omega)
              cases c4 : gt (fI sA3) X (p + 4) with
              | none =>
                rw [c4] at z10 t10
                refine ⟨fun e he => ?_, fun q a he => by cases he⟩
                cases he
                refine ⟨_, ?_, z10.1, t10⟩
                rw [if_pos (show oI none < 0 by decide)]
              | some o4 =>
                rw [c4] at z10 t10
                have h4 : o4 < 10 := by obtain ⟨c, -, hc⟩ := gt_c c4; exact fI_lt hc
                refine ⟨fun e he => (by cases he), fun q a he => ?_⟩
                cases he
                refine ⟨_, ?_, z10, t10, ?_, ?_, fun _ => ?_, fun _ => ⟨?_, sA_s _ _ _ _⟩⟩
                · rw [if_neg (show ¬ oI (some o4) < 0 from nI_pos (by omega))]
                · rw [sA_n _ _ _ (by omega), j4]; exact s8a
                · rw [sA_n _ _ _ (by omega), j4]; exact s8b
                · rw [sA_n _ _ _ (by omega), j4]; exact s8c
                · rw [sA_n _ _ _ (by omega), j4]; exact s8
        · rw [if_neg e0, if_neg (show ¬ nI kk = 0 by rw [i_eq0 (by omega)]; exact e0)]
          refine ⟨fun e he => (by cases he), fun q a he => ?_⟩
          cases he
          exact ⟨S4, rfl, z4, b2', s4', s4, fun q => absurd q (by simp only; omega), fun q => absurd q e0⟩
end DC
