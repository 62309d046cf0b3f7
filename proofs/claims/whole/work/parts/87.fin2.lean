/-! PATHS THAT ARE READ 2: the reference -/
section FR
variable {S : o_S} {n : Nat × Nat × Nat} {A : aS} {T : Nat} {E : Nat → Nat}
theorem tk3 {X : List Nat} (hX : ∀ k ∈ X, k < 256) (a : Nat) : tkO sA3 X a = if dgX X a then some (X.getD a 0 - 48) else none := by
  unfold tkO dgX
  cases e : X[a]? with
  | none => rfl
  | some c =>
    have := hX c (List.mem_of_getElem? e)
    simp only [f_3 c this, List.getD_eq_getElem?_getD, e, Option.getD_some, dgC]
    by_cases q : 48 ≤ c ∧ c ≤ 57 <;> simp [q]
theorem tk4 {X : List Nat} (hX : ∀ k ∈ X, k < 256) (a : Nat) : tkO sA4 X a = if dgX X a && !decide (X[a]? = some 48) then some (X.getD a 0 - 49) else none := by
  unfold tkO dgX
  cases e : X[a]? with
  | none => rfl
  | some c =>
    have := hX c (List.mem_of_getElem? e)
    simp only [f_4 c this, List.getD_eq_getElem?_getD, e, Option.getD_some, dgC, Option.some.injEq]
    by_cases q : 49 ≤ c ∧ c ≤ 57
    · have q1 : 48 ≤ c ∧ c ≤ 57 := by omega
      have q2 : ¬ c = 48 := by omega
      simp [q, q1, q2]
    · rw [if_neg q]
      by_cases q2 : c = 48
      · simp [q2]
      · have q1 : ¬ (48 ≤ c ∧ c ≤ 57) := by omega
        simp [q1]
theorem rnL {j : Nat} (h : j < 80) : q_lI 0 (ov S n) 308 (nI j) = some (S.2.1 308 j) := by
  rw [o_lI (t := 0) (m := 80) (fun _ _ _ => rfl), if_pos (q_in_nI h (by omega)), nI_clamp (by omega)]
theorem rkL' {j : Nat} (h : j < 80) : q_lI 0 (ov S n) 309 (nI j) = some (S.2.1 309 j) := by
  rw [o_lI (t := 0) (m := 80) (fun _ _ _ => rfl), if_pos (q_in_nI h (by omega)), nI_clamp (by omega)]
theorem rnS {j : Nat} (h : j < 80) (x : Int32) : q_sI 0 id (ov S n) 308 (nI j) x = some (ov (o_sI S 308 (upd (S.2.1 308) j (id x))) n) := by
  rw [o_stI (t := 0) (m := 80) (fun _ _ _ => rfl), if_pos (q_in_nI h (by omega)), nI_clamp (by omega)]
theorem rkS' {j : Nat} (h : j < 80) (x : Int32) : q_sI 0 id (ov S n) 309 (nI j) x = some (ov (o_sI S 309 (upd (S.2.1 309) j (id x))) n) := by
  rw [o_stI (t := 0) (m := 80) (fun _ _ _ => rfl), if_pos (q_in_nI h (by omega)), nI_clamp (by omega)]
/-- the steps that were read stand in two rows -/
def arS (S : o_S) (d : List (Nat × Nat)) : Prop := ∀ i x, d[i]? = some x → S.2.1 308 i = nI x.1 ∧ S.2.1 309 i = nI x.2
/-- what a step writes -/
def stW (S S' : o_S) (k : Nat) (B : aS) : Prop := wZ S S' ∧ S'.2.1 298 = S.2.1 298 ∧ S'.1 296 6 = S.1 296 6 ∧ (∀ i, i ≠ k → S'.2.1 308 i = S.2.1 308 i ∧ S'.2.1 309 i = S.2.1 309 i)
theorem wZ.fld {S : o_S} {k : Nat} (v : Int32) (h1 : k ≠ 1) (h4 : k ≠ 4) : wZ S (o_sf S 296 k v) := ⟨RZ.fld v h1 h4, rfl⟩
theorem r_stp {X : List Nat} {p k : Nat} (h : RT S X p) (hp : p < X.length) (hk : k < 80) (k52 : q_H → Nat → Int32 → Int32 → Int32 → Option (q_H × Int32)) (v1 v2 : Int32) : (∀ e, stp X p = .inl e → ∃ S', b_X10_finds_52 k52 (ov S n) 296 v1 v2 (nI k) = some (ov S' n, er e) ∧ wZ S S') ∧ (∀ q nm rk, stp X p = .inr (q, nm, rk) → ∃ S', b_X10_finds_52 k52 (ov S n) 296 v1 v2 (nI k) = k52 (ov S' n) 296 v1 v2 (nI (k + 1)) ∧ wZ S S' ∧ RT S' X q ∧ (∀ i, i ≠ k → S'.2.1 308 i = S.2.1 308 i ∧ S'.2.1 309 i = S.2.1 309 i) ∧ S'.2.1 308 k = nI nm ∧ S'.2.1 309 k = nI rk) := by
  have h80 := h.1
  have hX := h.x256
  have hx : X[p]? = some X[p] := List.getElem?_eq_getElem hp
  obtain ⟨x1, x2⟩ := h.2.2.2 p _ hx
  have t1 := r_takes (n := n) (S := o_sf S 296 5 (nI (p + 1))) (h.mv (b := p + 1)) (by omega) is3
  rw [tk3 hX] at t1
  have hb : b_X10_finds_52 k52 (ov S n) 296 v1 v2 (nI k) = if X[p] = 47 then Option.bind (f_X10_takesOf (ov (o_sf S 296 5 (nI (p + 1))) n) 296 3) (fun q17 => Option.bind (q_sI 0 id q17.1 308 (nI k) q17.2) (fun h18 => Option.bind (q_gR 9 21 h18 296) (fun x19 => Option.bind (q_sI 0 id h18 x19 (nI k) (0)) (fun h20 => Option.bind (q_gR 9 20 h20 296) (fun x21 => Option.bind (q_lI 0 h20 x21 (nI k)) (fun x22 => if 0 ≤ x22 then Option.bind (q_gI 9 5 h20 296) (fun x23 => Option.bind (q_gI 9 6 h20 296) (fun x24 => if x24 ≤ x23 then b_X10_finds_221 k52 h20 296 v1 v2 (nI k) else Option.bind (q_gR 9 3 h20 296) (fun x25 => Option.bind (q_gI 9 5 h20 296) (fun x26 => Option.bind (q_lI 0 h20 x25 x26) (fun x27 => if x27 = (46) then Option.bind (q_gI 9 5 h20 296) (fun x28 => Option.bind (q_p 9 5 h20 296 (.int (x28 + (1)))) (fun h29 => Option.bind (f_X10_takesOf h29 296 (4)) (fun q30 => if (q30.2 + (1)) = 0 then Option.bind (q_gI 9 5 q30.1 296) (fun x31 => some (q30.1, ((-1) - x31))) else Option.bind (f_X10_takesOf q30.1 296 (3)) (fun q32 => Option.bind (q_gR 9 21 q32.1 296) (fun x33 => if 0 ≤ q32.2 then b_X10_finds_220 k52 q32.1 296 v1 v2 (nI k) x33 (nI k) (((10) * (q30.2 + (1))) + q32.2) else b_X10_finds_220 k52 q32.1 296 v1 v2 (nI k) x33 (nI k) (q30.2 + (1))))))) else b_X10_finds_221 k52 h20 296 v1 v2 (nI k)))))) else Option.bind (q_gI 9 5 h20 296) (fun x34 => some (h20, ((-1) - x34))))))))) else some (ov S n, er p) := by
    unfold b_X10_finds_52
    rw [rI5, bS, rI6, bS, h.2.2.1, h.2.1, if_neg (by rw [i_le (by omega) (by omega)]; omega), rR3, bS, bS, rtL (by omega), bS, x1]
    by_cases e : X[p] = 47
    · rw [if_pos e, if_pos (by rw [e]; rfl), bS, nI_1, rP5, bS, rR20, bS]
    · rw [if_neg e, if_neg (by rw [show (47 : Int32) = nI 47 from rfl, i_eq (by omega) (by omega)]; exact e), bS]
      rfl
  rw [hb]
  by_cases c0 : X[p] = 47
  · have c0' : X[p]? = some 47 := by rw [hx, c0]
    rw [if_pos c0]
    cases c1 : dgX X (p + 1)
    · rw [c1] at t1
      have hs : stp X p = .inl (p + 1) := by unfold stp; rw [if_pos c0', c1]; rfl
      have t1 : f_X10_takesOf (ov (o_sf S 296 5 (nI (p + 1))) n) 296 3 = some (ov (o_sf S 296 5 (nI (p + 1))) n, -1) := t1
      rw [hs]
      refine ⟨fun e he => ?_, fun q nm rk he => by cases he⟩
      cases he
      obtain ⟨Sb, hSb⟩ : ∃ Sb, Sb = o_sI (o_sI (o_sf S 296 5 (nI (p + 1))) 308 (upd ((o_sf S 296 5 (nI (p + 1))).2.1 308) k (-1))) 309 (upd ((o_sI (o_sf S 296 5 (nI (p + 1))) 308 (upd ((o_sf S 296 5 (nI (p + 1))).2.1 308) k (-1))).2.1 309) k 0) := ⟨_, rfl⟩
      have hT : RT Sb X (p + 1) := by rw [hSb]; exact (h.mv (b := p + 1)).cg rfl rfl
      have e308 : Sb.2.1 308 k = -1 := by rw [hSb, s_I, if_neg (by omega), s_I, if_pos rfl, pk_us]
      refine ⟨Sb, ?_, by rw [hSb]; exact ((wZ.fld _ (by omega) (by omega)).tr (wZ.sI _ (by omega) (by omega))).tr (wZ.sI _ (by omega) (by omega))⟩
      rw [t1]
      simp only [bS, rnS hk, rR21, rkS' hk, idS]
      rw [← hSb]
      rw [rR20, bS, rnL hk, bS, e308, if_neg (by decide), rI5, bS, hT.2.2.1]
      rfl
    · rw [c1] at t1
      obtain ⟨hp1, cc, g1, g2, g3, g4⟩ := dg_t c1
      rw [if_pos rfl] at t1
      obtain ⟨Sa, hSa⟩ : ∃ Sa, Sa = o_sf (o_sf S 296 5 (nI (p + 1))) 296 5 (nI (p + 1 + 1)) := ⟨_, rfl⟩
      have ra : RT Sa X (p + 2) := by rw [hSa]; exact (h.mv (b := p + 1)).mv
      have za : wZ S Sa := by rw [hSa]; exact (wZ.fld _ (by omega) (by omega)).tr (wZ.fld _ (by omega) (by omega))
      have aa : Sa.2 = S.2 := by rw [hSa]; rfl
      have t1 : f_X10_takesOf (ov (o_sf S 296 5 (nI (p + 1))) n) 296 3 = some (ov Sa n, nI (X.getD (p + 1) 0 - 48)) := by rw [hSa]; exact t1
      obtain ⟨Sb, hSb⟩ : ∃ Sb, Sb = o_sI (o_sI Sa 308 (upd (Sa.2.1 308) k (nI (X.getD (p + 1) 0 - 48)))) 309 (upd ((o_sI Sa 308 (upd (Sa.2.1 308) k (nI (X.getD (p + 1) 0 - 48)))).2.1 309) k 0) := ⟨_, rfl⟩
      have rb : RT Sb X (p + 2) := by rw [hSb]; exact ra.cg rfl rfl
      have zb : wZ S Sb := by rw [hSb]; exact (za.tr (wZ.sI _ (by omega) (by omega))).tr (wZ.sI _ (by omega) (by omega))
      have b308 : Sb.2.1 308 k = nI (X.getD (p + 1) 0 - 48) := by rw [hSb, s_I, if_neg (by omega), s_I, if_pos rfl, pk_us]
      have b309 : Sb.2.1 309 k = nI 0 := by rw [hSb, s_I, if_pos rfl, pk_us]; rfl
      have bo : ∀ i, i ≠ k → Sb.2.1 308 i = S.2.1 308 i ∧ Sb.2.1 309 i = S.2.1 309 i := fun i hi => by
        rw [hSb]
        refine ⟨?_, ?_⟩
        · rw [s_I, if_neg (by omega), s_I, if_pos rfl, pk_un hi, aa]
        · rw [s_I, if_pos rfl, pk_un hi, s_I, if_neg (by omega), aa]
      rw [t1]
      simp only [bS, rnS hk, rR21, rkS' hk, idS]
      rw [← hSb]
      rw [rR20, bS, rnL hk, bS, b308, if_pos (nI_pos' (by rw [g2]; omega)), rI5, bS, rI6, bS, rb.2.2.1, rb.2.1]
      have fin220 : ∀ (Sx : o_S) (a rk : Nat), wZ S Sx → RT Sx X a → (∀ i, i ≠ k → Sx.2.1 308 i = S.2.1 308 i ∧ Sx.2.1 309 i = S.2.1 309 i) → Sx.2.1 308 k = nI (X.getD (p + 1) 0 - 48) → ∃ S', b_X10_finds_220 k52 (ov Sx n) 296 v1 v2 (nI k) 309 (nI k) (nI rk) = k52 (ov S' n) 296 v1 v2 (nI (k + 1)) ∧ wZ S S' ∧ RT S' X a ∧ (∀ i, i ≠ k → S'.2.1 308 i = S.2.1 308 i ∧ S'.2.1 309 i = S.2.1 309 i) ∧ S'.2.1 308 k = nI (X.getD (p + 1) 0 - 48) ∧ S'.2.1 309 k = nI rk := by
        intro Sx a rk z r o3 v3
        refine ⟨o_sI Sx 309 (upd (Sx.2.1 309) k (nI rk)), ?_, z.tr (wZ.sI _ (by omega) (by omega)), r.cg rfl rfl, fun i hi => ⟨by rw [s_I, if_neg (by omega)]; exact (o3 i hi).1, by rw [s_I, if_pos rfl, pk_un hi]; exact (o3 i hi).2⟩, by rw [s_I, if_neg (by omega)]; exact v3, by rw [s_I, if_pos rfl, pk_us]⟩
        unfold b_X10_finds_220 b_X10_finds_221
        rw [rkS' hk, bS, nI_1]
        rfl
      by_cases c2 : X.length ≤ p + 2
      · have hx2 : ¬ X[p + 2]? = some 46 := by rw [List.getElem?_eq_none c2]; exact fun q => nomatch q
        have hs : stp X p = .inr (p + 2, X.getD (p + 1) 0 - 48, 0) := by unfold stp; rw [if_pos c0', c1, if_pos rfl, if_neg hx2]
        rw [hs]
        refine ⟨fun e he => (by cases he), fun q nm rk he => ?_⟩
        cases he
        refine ⟨Sb, ?_, zb, rb, bo, b308, b309⟩
        rw [if_pos (show nI X.length ≤ nI (p + 2) by rw [i_le (by omega) (by omega)]; exact c2)]
        unfold b_X10_finds_221
        rw [nI_1]
      · have hx2 : X[p + 2]? = some X[p + 2] := List.getElem?_eq_getElem (by omega)
        obtain ⟨y1, y2⟩ := rb.2.2.2 (p + 2) _ hx2
        rw [if_neg (show ¬ nI X.length ≤ nI (p + 2) by rw [i_le (by omega) (by omega)]; exact c2), rR3, bS, bS, rtL (by omega), bS, y1]
        by_cases c3 : X[p + 2] = 46
        · have c3' : X[p + 2]? = some 46 := by rw [hx2, c3]
          rw [if_pos (show nI X[p + 2] = 46 by rw [c3]; rfl), bS, nI_1, rP5, bS]
          have t4 := r_takes (n := n) (S := o_sf Sb 296 5 (nI (p + 2 + 1))) (rb.mv (b := p + 2 + 1)) (by omega) is4
          rw [tk4 hX] at t4
          have e3 : p + 2 + 1 = p + 3 := rfl
          rw [e3] at t4 ⊢
          cases c4 : (dgX X (p + 3) && !decide (X[p + 3]? = some 48))
          · rw [c4] at t4
            have hs : stp X p = .inl (p + 3) := by unfold stp; rw [if_pos c0', c1, if_pos rfl, if_pos c3', c4]; rfl
            rw [hs]
            refine ⟨fun e he => ?_, fun q nm rk he => by cases he⟩
            cases he
            refine ⟨o_sf Sb 296 5 (nI (p + 3)), ?_, zb.tr (wZ.fld _ (by omega) (by omega))⟩
            have t4 : f_X10_takesOf (ov (o_sf Sb 296 5 (nI (p + 3))) n) 296 4 = some (ov (o_sf Sb 296 5 (nI (p + 3))) n, -1) := t4
            rw [t4, bS, if_pos (show (-1 : Int32) + 1 = 0 by decide), rI5, bS, (rb.mv (b := p + 3)).2.2.1]
            rfl
          · rw [c4, if_pos rfl] at t4
            have c4' := c4
            rw [Bool.and_eq_true] at c4
            obtain ⟨hp3, c3c, m1, m2, m3, m4⟩ := dg_t c4.1
            have m5 : c3c ≠ 48 := fun q => by rw [m1, q] at c4; simp at c4
            obtain ⟨Sd, hSd⟩ : ∃ Sd, Sd = o_sf (o_sf Sb 296 5 (nI (p + 3))) 296 5 (nI (p + 3 + 1)) := ⟨_, rfl⟩
            have rd : RT Sd X (p + 4) := by rw [hSd]; exact (rb.mv (b := p + 3)).mv
            have zd : wZ S Sd := by rw [hSd]; exact (zb.tr (wZ.fld _ (by omega) (by omega))).tr (wZ.fld _ (by omega) (by omega))
            have ad : Sd.2 = Sb.2 := by rw [hSd]; rfl
            have t4 : f_X10_takesOf (ov (o_sf Sb 296 5 (nI (p + 3))) n) 296 4 = some (ov Sd n, nI (X.getD (p + 3) 0 - 49)) := by rw [hSd]; exact t4
            have e1 : nI (X.getD (p + 3) 0 - 49) + 1 = nI (X.getD (p + 3) 0 - 48) := by rw [nI_1, m2, show c3c - 49 + 1 = c3c - 48 by omega]
            have t5 := r_takes (n := n) rd (by omega) is3
            rw [tk3 hX] at t5
            rw [t4, bS]
            simp only [e1]
            rw [if_neg (nI_ne0 (by rw [m2]; omega) (by rw [m2]; omega))]
            cases c5 : dgX X (p + 4)
            · rw [c5] at t5
              have t5 : f_X10_takesOf (ov Sd n) 296 3 = some (ov Sd n, -1) := t5
              have hs : stp X p = .inr (p + 4, X.getD (p + 1) 0 - 48, X.getD (p + 3) 0 - 48) := by unfold stp; rw [if_pos c0', c1, if_pos rfl, if_pos c3', c4', if_pos rfl, c5]; rfl
              rw [hs, t5, bS, rR21, bS, if_neg (show ¬ (0 : Int32) ≤ -1 by decide)]
              refine ⟨fun e he => (by cases he), fun q nm rk he => ?_⟩
              cases he
              exact fin220 Sd (p + 4) _ zd rd (fun i hi => by rw [ad]; exact bo i hi) (by rw [ad]; exact b308)
            · rw [c5, if_pos rfl] at t5
              obtain ⟨hp4, c4c, k1, k2, k3, k4⟩ := dg_t c5
              obtain ⟨Se, hSe⟩ : ∃ Se, Se = o_sf Sd 296 5 (nI (p + 4 + 1)) := ⟨_, rfl⟩
              have re : RT Se X (p + 5) := by rw [hSe]; exact rd.mv
              have ze : wZ S Se := by rw [hSe]; exact zd.tr (wZ.fld _ (by omega) (by omega))
              have ae : Se.2 = Sb.2 := by rw [hSe]; exact ad
              have t5 : f_X10_takesOf (ov Sd n) 296 3 = some (ov Se n, nI (X.getD (p + 4) 0 - 48)) := by rw [hSe]; exact t5
              have hs : stp X p = .inr (p + 5, X.getD (p + 1) 0 - 48, 10 * (X.getD (p + 3) 0 - 48) + (X.getD (p + 4) 0 - 48)) := by unfold stp; rw [if_pos c0', c1, if_pos rfl, if_pos c3', c4', if_pos rfl, c5]; rfl
              rw [hs, t5, bS, rR21, bS, if_pos (nI_pos' (by rw [k2]; omega)), show (10 : Int32) = nI 10 from rfl, pk_mul, nI_add]
              refine ⟨fun e he => (by cases he), fun q nm rk he => ?_⟩
              cases he
              exact fin220 Se (p + 5) _ ze re (fun i hi => by rw [ae]; exact bo i hi) (by rw [ae]; exact b308)
        · have c3' : ¬ X[p + 2]? = some 46 := by rw [hx2]; exact fun q => c3 (Option.some.inj q)
          have hs : stp X p = .inr (p + 2, X.getD (p + 1) 0 - 48, 0) := by unfold stp; rw [if_pos c0', c1, if_pos rfl, if_neg c3']
          rw [hs, if_neg (show ¬ nI X[p + 2] = 46 by rw [show (46 : Int32) = nI 46 from rfl, i_eq (by omega) (by omega)]; exact c3)]
          refine ⟨fun e he => (by cases he), fun q nm rk he => ?_⟩
          cases he
          refine ⟨Sb, ?_, zb, rb, bo, b308, b309⟩
          unfold b_X10_finds_221
          rw [nI_1]
  · have c0' : ¬ X[p]? = some 47 := by rw [hx]; exact fun q => c0 (Option.some.inj q)
    have hs : stp X p = .inl p := by unfold stp; rw [if_neg c0']
    rw [if_neg c0, hs]
    refine ⟨fun e he => ?_, fun q nm rk he => by cases he⟩
    cases he
    exact ⟨S, rfl, wZ.rf⟩
theorem arS.ap {S S' : o_S} {d : List (Nat × Nat)} {nm rk : Nat} (h : arS S d) (ho : ∀ i, i ≠ d.length → S'.2.1 308 i = S.2.1 308 i ∧ S'.2.1 309 i = S.2.1 309 i) (h1 : S'.2.1 308 d.length = nI nm) (h2 : S'.2.1 309 d.length = nI rk) : arS S' (d ++ [(nm, rk)]) := by
  intro i x hx
  by_cases e : i = d.length
  · subst e
    have : (nm, rk) = x := by simpa using hx
    subst this
    exact ⟨h1, h2⟩
  · have hi : i < (d ++ [(nm, rk)]).length := (List.getElem?_eq_some_iff.mp hx).1
    simp at hi
    rw [List.getElem?_append_left (by omega)] at hx
    rw [(ho i e).1, (ho i e).2]
    exact h i x hx
theorem r_fi52 {X : List Nat} (v1 v2 : Int32) : ∀ f p fuel (S : o_S) (d : List (Nat × Nat)), X.length - p < f → f ≤ fuel → d.length + (X.length - p) ≤ 80 → p < 1000 → RT S X p → arS S d → (∀ e, pP X f p = .inl e → ∃ S', l_X10_finds_52 fuel (ov S n) 296 v1 v2 (nI d.length) = some (ov S' n, er e) ∧ wZ S S') ∧ (∀ l, pP X f p = .inr l → ∃ S', l_X10_finds_52 fuel (ov S n) 296 v1 v2 (nI d.length) = Option.bind (f_X10_isCopy (ov S' n) v1) (fun q9 => if q9.2 = 0 then some (q9.1, (-101)) else Option.bind (f_X10_lays q9.1 296 (0) v1) (fun q10 => l_X10_finds_246 q_FU q10.1 296 v2 (nI (d ++ l).length) (0))) ∧ wZ S S' ∧ arS S' (d ++ l)) := by
  intro f
  induction f with
  | zero => intro p fuel S d h1; omega
  | succ f ih =>
    intro p fuel S d h1 h2 h3 hp hT hd
    have h80 := hT.1
    obtain ⟨fu, rfl⟩ : ∃ f, fuel = f + 1 := ⟨fuel - 1, by omega⟩
    show (∀ e, pP X (f + 1) p = .inl e → ∃ S', b_X10_finds_52 (l_X10_finds_52 fu) (ov S n) 296 v1 v2 (nI d.length) = _ ∧ _) ∧ (∀ l, pP X (f + 1) p = .inr l → ∃ S', b_X10_finds_52 (l_X10_finds_52 fu) (ov S n) 296 v1 v2 (nI d.length) = _ ∧ _)
    by_cases e : X.length ≤ p
    · have hP : pP X (f + 1) p = .inr [] := by unfold pP; rw [if_pos e]
      rw [hP]
      refine ⟨fun e he => (by cases he), fun l he => ?_⟩
      cases he
      refine ⟨S, ?_, wZ.rf, by rw [List.append_nil]; exact hd⟩
      rw [List.append_nil]
      unfold b_X10_finds_52
      rw [rI5, bS, rI6, bS, hT.2.2.1, hT.2.1, if_pos (by rw [i_le (by omega) (by omega)]; exact e)]
    · obtain ⟨s1, s2⟩ := r_stp (n := n) hT (by omega) (show d.length < 80 by omega) (l_X10_finds_52 fu) v1 v2
      cases hst : stp X p with
      | inl e' =>
        have hP : pP X (f + 1) p = .inl e' := by unfold pP; rw [if_neg e, hst]
        rw [hP]
        refine ⟨fun e he => ?_, fun l he => by cases he⟩
        cases he
        exact s1 e' hst
      | inr r =>
        obtain ⟨q, nm, rk⟩ := r
        have hq := stp_q hst
        obtain ⟨S1, g1, g2, g3, g4, g5, g6⟩ := s2 q nm rk hst
        have hd1 := hd.ap g4 g5 g6
        obtain ⟨i1, i2⟩ := ih q fu S1 (d ++ [(nm, rk)]) (by omega) (by omega) (by simp; omega) (by omega) g3 hd1
        have el : (d ++ [(nm, rk)]).length = d.length + 1 := by simp
        rw [el] at i1 i2
        cases hP2 : pP X f q with
        | inl e' =>
          have hP : pP X (f + 1) p = .inl e' := by unfold pP; rw [if_neg e, hst]; simp only; rw [hP2]
          rw [hP]
          refine ⟨fun e he => ?_, fun l he => by cases he⟩
          cases he
          obtain ⟨S2, k1, k2⟩ := i1 e' hP2
          exact ⟨S2, g1.trans k1, g2.tr k2⟩
        | inr l2 =>
          have hP : pP X (f + 1) p = .inr ((nm, rk) :: l2) := by unfold pP; rw [if_neg e, hst]; simp only; rw [hP2]
          rw [hP]
          refine ⟨fun e he => (by cases he), fun l he => ?_⟩
          cases he
          obtain ⟨S2, k1, k2, k3⟩ := i2 l2 hP2
          rw [List.append_assoc] at k1 k3
          exact ⟨S2, g1.trans k1, g2.tr k2, k3⟩
end FR
