/-! THE PUBLIC METHODS 2: acts with a row, letters, stable, voids -/
section P2
variable {S : o_S} {n : Nat × Nat × Nat} {A : aS} {T : Nat}
theorem r_flagB (h : q_H) (b : Bool) : f_X10_flag h (b2i b) = some (h, b2i b) := r_flag h b
theorem ag_makes (h : OKA T A) (hT : T ≤ 100000) (x y z u : Int32) : AGR T A (fun h => f_X9_makes h 0 x y z u) (fun h => f_X10_makes h 296 x y z u) := by
  have hV := h.1.mkG hT x y z u
  by_cases e : inR 0 3 x = true
  · obtain ⟨c, -, hc, rfl⟩ := inR_t e (by omega)
    obtain ⟨r, hr⟩ : ∃ r, r = (eMk (sW A) (nI c) y z u).1 := ⟨_, rfl⟩
    obtain ⟨W', hW'⟩ : ∃ W', W' = (eMk (sW A) (nI c) y z u).2 := ⟨_, rfl⟩
    rw [← hW'] at hV
    by_cases hneg : r < 0
    · refine ⟨r, sWld A W', fun S n H => ?_, fun S n H => ?_, h.wld (by omega) (hV.mono (by omega))⟩
      · obtain ⟨S', g1, g2, g3⟩ := x_makeG (n := n) H.1 h.1 hT (nI c) y z u
        rw [← hr] at g1
        rw [← hW'] at g2
        refine ⟨S', ?_, H.wld g3 (fun b q => by omega) g2, g3.mono (fun b q => by omega)⟩
        unfold f_X9_makes b_X9_makes_0
        simp only [x_chk, x_isCopy, e, b2i_eq0, Bool.true_eq_false, if_false, xR0, bS, g1, hneg, if_true]
      · have H0 : RR (o_sf S 296 0 0) A := H.fld 0 (by omega) (by omega)
        obtain ⟨S', g1, g2, -, g3⟩ := r_makeG (n := n) H0.1 h.1 hT (nI c) y z u
        rw [← hr] at g1
        rw [← hW'] at g2
        refine ⟨S', ?_, H0.z g3.z g2, ((RZ.fld 0 (by omega) (by omega)).tr g3.z).ag⟩
        unfold f_X10_makes b_X10_makes_0
        simp only [r_chk, rP0, bS, g1, hneg, if_true]
    · have hl := (hV.2.2.1 c hc).1
      refine ⟨r, sRow (sWld A W') [Int32.toInt64 (b2i ((mVds 1000 (wL W' c) 0 (wB W' c) 0).testBit ((wL W' c).length - 1)))], fun S n H => ?_, fun S n H => ?_, (h.wld (by omega) (hV.mono (by omega))).row (Nat.le_refl _) _⟩
      · obtain ⟨S', g1, g2, g3⟩ := x_makeG (n := n) H.1 h.1 hT (nI c) y z u
        rw [← hr] at g1
        rw [← hW'] at g2
        have H1 : CR S' (sWld A W') := H.wld g3 (fun b q => by omega) g2
        obtain ⟨S2, k1, k2, k3⟩ := x_tell (n := n) H1 (Int32.toInt64 (b2i ((mVds 1000 (wL W' c) 0 (wB W' c) 0).testBit ((wL W' c).length - 1))))
        refine ⟨S2, ?_, k2, (g3.tr k3 (C := fun b => b < 296) (fun b q => by omega) (fun b q => by omega))⟩
        have hne : 1 ≤ (wL W' c).length := by
          rw [hW']
          have hne1 : (inR 0 3 (nI c) && (inR 2 14 y && (inR 0 14 z && inR 0 10 u))) = true := by
            cases q : (inR 0 3 (nI c) && (inR 2 14 y && (inR 0 14 z && inR 0 10 u)))
            · exfalso
              apply hneg
              rw [hr]
              unfold eMk
              rw [q]
              exact (by decide : (-1 : Int32) < 0)
            · rfl
          obtain ⟨c', f, p, m, hc', hf2, hf, hp, hm, e1, rfl, rfl, rfl⟩ := mk_args hne1
          have : c = c' := (nI_eq (by omega) (by omega)).mp e1
          subst this
          rw [eMk_t _ hc hf2 hf hp hm] at hr ⊢
          unfold dMk at hr ⊢
          split
          · rename_i q
            rw [if_pos q] at hr
            exact absurd (by rw [hr]; exact (by decide : (-2 : Int32) < 0)) hneg
          · rename_i q
            rw [if_neg q] at hr
            split
            · rename_i q2
              rw [if_pos q2] at hr
              exact absurd (by rw [hr]; exact (by decide : (-3 : Int32) < 0)) hneg
            · show 1 ≤ (fset _ c (wL (sW A) c ++ [_]) c).length
              rw [fset_s]
              simp
        have hv := vds_lt 1000 (wL W' c) (wB W' c) (N := 20) hl
        have hvd := H1.vd (n := n) hc
        have hlen := s_gI (n := n) (H1.lg hc)
        have etb : q_iushr (nI (mVds 1000 (wL W' c) 0 (wB W' c) 0)) (nI (wL W' c).length - 1) &&& 1 = b2i ((mVds 1000 (wL W' c) 0 (wB W' c) 0).testBit ((wL W' c).length - 1)) := by
          rw [i_sub1 hne, i_tb (by omega) (by omega)]
        unfold f_X9_makes b_X9_makes_0
        simp only [x_chk, x_isCopy, e, b2i_eq0, Bool.true_eq_false, if_false, xR0, bS, g1, hneg, u_R0, u_cp hc, xR4, hvd, u_R3 hc, hlen, etb, k1]
      · have H0 : RR (o_sf S 296 0 0) A := H.fld 0 (by omega) (by omega)
        obtain ⟨S', g1, g2, g4, g3⟩ := r_makeG (n := n) H0.1 h.1 hT (nI c) y z u
        have g4 := g4 c rfl hc (by rw [← hr]; exact hneg)
        rw [← hr] at g1
        rw [← hW'] at g2 g4
        have H1 : RR S' (sWld A W') := H0.z g3.z g2
        obtain ⟨S2, k1, k2, k3⟩ := r_tell (n := n) H1 (Int32.toInt64 (b2i ((mVds 1000 (wL W' c) 0 (wB W' c) 0).testBit ((wL W' c).length - 1))))
        refine ⟨S2, ?_, k2, ((RZ.fld 0 (by omega) (by omega)).tr g3.z).ag.tr k3.ag (fun _ q => q) (fun _ q => q)⟩
        have e12 : (o_sf S' 296 1 0).1 296 12 = b2i ((mVds 1000 (wL W' c) 0 (wB W' c) 0).testBit ((wL W' c).length - 1)) := by rw [s_F, if_pos rfl, pk_un (by omega), g4]
        unfold f_X10_makes b_X10_makes_0
        simp only [r_chk, rP0, bS, g1, hneg, if_false, rP1, rI12, e12, r_flag, k1]
  · have e' : inR 0 3 x = false := by simpa using e
    have hm : ∀ W, eMk W x y z u = (-1, W) := fun W => by unfold eMk; rw [e']; rfl
    refine ⟨-1, A, fun S n H => ⟨S, ?_, H, AG.rf⟩, fun S n H => ?_, h.mono (by omega)⟩
    · unfold f_X9_makes b_X9_makes_0
      simp only [x_chk, x_isCopy, e', b2i_eq0, if_true, bS]
    · have H0 : RR (o_sf S 296 0 0) A := H.fld 0 (by omega) (by omega)
      obtain ⟨S', g1, g2, -, g3⟩ := r_makeG (n := n) H0.1 h.1 hT x y z u
      rw [hm] at g1 g2
      refine ⟨S', ?_, H0.z g3.z g2, ((RZ.fld 0 (by omega) (by omega)).tr g3.z).ag⟩
      unfold f_X10_makes b_X10_makes_0
      simp only [r_chk, rP0, bS, g1, show (-1 : Int32) < 0 by decide, if_true]
theorem ag_comes (h : OKA T A) (hT : T ≤ 100000) (x y : Int32) : AGR T A (fun h => f_X9_comes h 0 x y) (fun h => f_X10_comes h 296 x y) := by
  have hV := h.1.cmG x y
  by_cases e : two x y = true
  · obtain ⟨a, t, ha, ht, hab, rfl, rfl⟩ := two_t e
    obtain ⟨r, hr⟩ : ∃ r, r = (eCm (sW A) (nI a) (nI t)).1 := ⟨_, rfl⟩
    obtain ⟨W', hW'⟩ : ∃ W', W' = (eCm (sW A) (nI a) (nI t)).2 := ⟨_, rfl⟩
    rw [← hW'] at hV
    have xside : ∀ (S : o_S) (n : Nat × Nat × Nat), CR S A → ∃ S1 S2, f_X7_copyFrom (ov S n) 97 (4 + 8 * t + 6) = some (ov S1 n, ()) ∧ f_X8_deliver (ov S1 n) 1 (nI a) (nI t) = some (ov S2 n, r) ∧ CR S2 (sWld A W') ∧ TE S2 97 (tr (sW A) t) ∧ AG (fun b => b < 296) S S2 := by
      intro S n H
      have k97 : kTree 97 := ⟨fun _ _ _ => rfl, fun _ _ _ => rfl⟩
      obtain ⟨S1, a1, a2, a3⟩ := t_copyFrom (n := n) k97 (H.te ht)
      have H1 : CR S1 A := H.ag a3 (fun b q => by unfold xsc; omega)
      obtain ⟨S2, g1, g2, g3⟩ := x_comeG (n := n) H1.1 h.1 hT (nI a) (nI t)
      rw [← hr] at g1
      rw [← hW'] at g2
      exact ⟨S1, S2, a1, g1, H1.wld g3 (fun b q => by omega) g2, a2.ag g3 (by omega), a3.tr g3 (fun b q => by omega) (fun b q => by omega)⟩
    by_cases hneg : r < 0
    · refine ⟨r, sWld A W', fun S n H => ?_, fun S n H => ?_, h.wld (by omega) (hV.mono (by omega))⟩
      · obtain ⟨S1, S2, a1, g1, H2, -, hag⟩ := xside S n H
        refine ⟨S2, ?_, H2, hag⟩
        unfold f_X9_comes b_X9_comes_0
        simp only [x_chk, x_areTwo, e, b2i_eq0, Bool.true_eq_false, if_false, xR6, xR0, u_R0, u_cp ht, u_R5 ht, bS, a1, g1, hneg, if_true]
      · have H0 : RR (o_sf S 296 0 0) A := H.fld 0 (by omega) (by omega)
        obtain ⟨S', g1, g2, -, g3⟩ := r_comeG (n := n) H0.1 h.1 hT (nI a) (nI t)
        rw [← hr] at g1
        rw [← hW'] at g2
        refine ⟨S', ?_, H0.z g3.z g2, ((RZ.fld 0 (by omega) (by omega)).tr g3.z).ag⟩
        unfold f_X10_comes b_X10_comes_0
        simp only [r_chk, rP0, bS, g1, hneg, if_true]
    · refine ⟨r, sRow (sWld A W') [Int32.toInt64 (nI (mOt (tr (sW A) t) (tr W' t)))], fun S n H => ?_, fun S n H => ?_, (h.wld (by omega) (hV.mono (by omega))).row (Nat.le_refl _) _⟩
      · obtain ⟨S1, S2, a1, g1, H2, hte, hag⟩ := xside S n H
        have ho := t_otherThan (n := n) hte (H2.te ht)
        obtain ⟨S3, k1, k2, k3⟩ := x_tell (n := n) H2 (Int32.toInt64 (nI (mOt (tr (sW A) t) (tr W' t))))
        refine ⟨S3, ?_, k2, hag.tr k3 (fun b q => q) (fun b q => by omega)⟩
        unfold f_X9_comes b_X9_comes_0
        simp only [x_chk, x_areTwo, e, b2i_eq0, Bool.true_eq_false, if_false, xR6, xR0, u_R0, u_cp ht, u_R5 ht, bS, a1, g1, hneg, xR4, ho, k1]
      · have H0 : RR (o_sf S 296 0 0) A := H.fld 0 (by omega) (by omega)
        obtain ⟨S', g1, g2, g4, g3⟩ := r_comeG (n := n) H0.1 h.1 hT (nI a) (nI t)
        have g4 := g4 t rfl ht (by rw [← hr]; exact hneg)
        rw [← hr] at g1
        rw [← hW'] at g2 g4
        have H1 : RR S' (sWld A W') := H0.z g3.z g2
        obtain ⟨S2, k1, k2, k3⟩ := r_tell (n := n) H1 (Int32.toInt64 (nI (mOt (tr (sW A) t) (tr W' t))))
        refine ⟨S2, ?_, k2, ((RZ.fld 0 (by omega) (by omega)).tr g3.z).ag.tr k3.ag (fun _ q => q) (fun _ q => q)⟩
        have e14 : (o_sf S' 296 1 0).1 296 14 = nI (mOt (tr (sW A) t) (tr W' t)) := by rw [s_F, if_pos rfl, pk_un (by omega), g4]
        unfold f_X10_comes b_X10_comes_0
        simp only [r_chk, rP0, bS, g1, hneg, if_false, rP1, rI14, e14, k1]
  · have e' : two x y = false := by simpa using e
    have hm : ∀ W, eCm W x y = (-1, W) := fun W => by unfold eCm; rw [e']; rfl
    refine ⟨-1, A, fun S n H => ⟨S, ?_, H, AG.rf⟩, fun S n H => ?_, h.mono (by omega)⟩
    · unfold f_X9_comes b_X9_comes_0
      simp only [x_chk, x_areTwo, e', b2i_eq0, if_true, bS]
    · have H0 : RR (o_sf S 296 0 0) A := H.fld 0 (by omega) (by omega)
      obtain ⟨S', g1, g2, -, g3⟩ := r_comeG (n := n) H0.1 h.1 hT x y
      rw [hm] at g1 g2
      refine ⟨S', ?_, H0.z g3.z g2, ((RZ.fld 0 (by omega) (by omega)).tr g3.z).ag⟩
      unfold f_X10_comes b_X10_comes_0
      simp only [r_chk, rP0, bS, g1, show (-1 : Int32) < 0 by decide, if_true]
theorem ag_gathers (h : OKA T A) (hT : T ≤ 100000) (x : Int32) : AGR T A (fun h => f_X9_gathers h 0 x) (fun h => f_X10_gathers h 296 x) := by
  have hV := h.1.gaG x
  by_cases e : inR 0 3 x = true
  · obtain ⟨t, -, ht, rfl⟩ := inR_t e (by omega)
    obtain ⟨r, hr⟩ : ∃ r, r = (eGa (sW A) (nI t)).1 := ⟨_, rfl⟩
    obtain ⟨W', hW'⟩ : ∃ W', W' = (eGa (sW A) (nI t)).2 := ⟨_, rfl⟩
    rw [← hW'] at hV
    have xside : ∀ (S : o_S) (n : Nat × Nat × Nat), CR S A → ∃ S1 S2, f_X7_copyFrom (ov S n) 97 (4 + 8 * t + 6) = some (ov S1 n, ()) ∧ f_X8_undoneAtOnce (ov S1 n) 1 (nI t) = some (ov S1 n, nI (dUn (sW A) t)) ∧ f_X8_gather (ov S1 n) 1 (nI t) = some (ov S2 n, r) ∧ CR S2 (sWld A W') ∧ TE S2 97 (tr (sW A) t) ∧ AG (fun b => b < 296) S S2 := by
      intro S n H
      have k97 : kTree 97 := ⟨fun _ _ _ => rfl, fun _ _ _ => rfl⟩
      obtain ⟨S1, a1, a2, a3⟩ := t_copyFrom (n := n) k97 (H.te ht)
      have H1 : CR S1 A := H.ag a3 (fun b q => by unfold xsc; omega)
      obtain ⟨S2, g1, g2, g3⟩ := x_gatherG (n := n) H1.1 h.1 hT (nI t)
      rw [← hr] at g1
      rw [← hW'] at g2
      exact ⟨S1, S2, a1, x_undone H1.1 h.1 ht, g1, H1.wld g3 (fun b q => by omega) g2, a2.ag g3 (by omega), a3.tr g3 (fun b q => by omega) (fun b q => by omega)⟩
    by_cases hneg : r < 0
    · refine ⟨r, sWld A W', fun S n H => ?_, fun S n H => ?_, h.wld (by omega) (hV.mono (by omega))⟩
      · obtain ⟨S1, S2, a1, a2, g1, H2, -, hag⟩ := xside S n H
        refine ⟨S2, ?_, H2, hag⟩
        unfold f_X9_gathers b_X9_gathers_0
        simp only [x_chk, x_isCopy, e, b2i_eq0, Bool.true_eq_false, if_false, xR6, xR0, u_R0, u_cp ht, u_R5 ht, bS, a1, a2, g1, hneg, if_true]
      · have H0 : RR (o_sf S 296 0 0) A := H.fld 0 (by omega) (by omega)
        obtain ⟨S', g1, g2, -, g3⟩ := r_gatherG (n := n) H0.1 h.1 hT (nI t)
        rw [← hr] at g1
        rw [← hW'] at g2
        refine ⟨S', ?_, H0.z g3.z g2, ((RZ.fld 0 (by omega) (by omega)).tr g3.z).ag⟩
        unfold f_X10_gathers b_X10_gathers_0
        simp only [r_chk, rP0, bS, g1, hneg, if_true]
    · refine ⟨r, sRow (sWld A W') ([Int32.toInt64 (nI (dUn (sW A) t))] ++ [Int32.toInt64 (nI (mOt (tr (sW A) t) (tr W' t)))]), fun S n H => ?_, fun S n H => ?_, (h.wld (by omega) (hV.mono (by omega))).row (Nat.le_refl _) _⟩
      · obtain ⟨S1, S2, a1, a2, g1, H2, hte, hag⟩ := xside S n H
        obtain ⟨S3, k1, k2, k3⟩ := x_tell (n := n) H2 (Int32.toInt64 (nI (dUn (sW A) t)))
        have ho := t_otherThan (n := n) (hte.ag k3 (by omega)) (k2.te ht)
        obtain ⟨S4, l1, l2, l3⟩ := x_add (n := n) k2 (show (1 : Nat) < 80 by omega) (Int32.toInt64 (nI (mOt (tr (sW A) t) (tr W' t))))
        refine ⟨S4, ?_, l2, (hag.tr k3 (C := fun b => b < 296) (fun b q => q) (fun b q => by omega)).tr l3 (fun b q => q) (fun b q => by omega)⟩
        unfold f_X9_gathers b_X9_gathers_0
        simp only [x_chk, x_isCopy, e, b2i_eq0, Bool.true_eq_false, if_false, xR6, xR0, u_R0, u_cp ht, u_R5 ht, bS, a1, a2, g1, hneg, xR4, k1, ho, l1]
      · have H0 : RR (o_sf S 296 0 0) A := H.fld 0 (by omega) (by omega)
        obtain ⟨S', g1, g2, g4, g3⟩ := r_gatherG (n := n) H0.1 h.1 hT (nI t)
        have g4 := g4 t rfl ht (by rw [← hr]; exact hneg)
        rw [← hr] at g1
        rw [← hW'] at g2 g4
        have H1 : RR S' (sWld A W') := H0.z g3.z g2
        obtain ⟨S2, k1, k2, k3⟩ := r_tell (n := n) H1 (Int32.toInt64 (nI (dUn (sW A) t)))
        obtain ⟨S3, l1, l2, l3⟩ := r_enters (n := n) k2 (show (1 : Nat) < 80 by omega) (Int32.toInt64 (nI (mOt (tr (sW A) t) (tr W' t))))
        refine ⟨S3, ?_, l2, (((RZ.fld 0 (by omega) (by omega)).tr g3.z).ag.tr k3.ag (fun _ q => q) (fun _ q => q)).tr l3.ag (fun _ q => q) (fun _ q => q)⟩
        have e13 : (o_sf S' 296 1 0).1 296 13 = nI (dUn (sW A) t) := by rw [s_F, if_pos rfl, pk_un (by omega), g4.1]
        have e14 : S2.1 296 14 = nI (mOt (tr (sW A) t) (tr W' t)) := by rw [k3.2 14 (by omega), g4.2]
        unfold f_X10_gathers b_X10_gathers_0
        simp only [r_chk, rP0, bS, g1, hneg, if_false, rP1, rI13, e13, k1, rI14, e14, l1]
  · have e' : inR 0 3 x = false := by simpa using e
    have hm : ∀ W, eGa W x = (-1, W) := fun W => by unfold eGa; rw [e']; rfl
    refine ⟨-1, A, fun S n H => ⟨S, ?_, H, AG.rf⟩, fun S n H => ?_, h.mono (by omega)⟩
    · unfold f_X9_gathers b_X9_gathers_0
      simp only [x_chk, x_isCopy, e', b2i_eq0, if_true, bS]
    · have H0 : RR (o_sf S 296 0 0) A := H.fld 0 (by omega) (by omega)
      obtain ⟨S', g1, g2, -, g3⟩ := r_gatherG (n := n) H0.1 h.1 hT x
      rw [hm] at g1 g2
      refine ⟨S', ?_, H0.z g3.z g2, ((RZ.fld 0 (by omega) (by omega)).tr g3.z).ag⟩
      unfold f_X10_gathers b_X10_gathers_0
      simp only [r_chk, rP0, bS, g1, show (-1 : Int32) < 0 by decide, if_true]
/-! letters, stable -/
def gT (k : Nat) : Int64 := Int32.toInt64 (nI (cT k))
theorem x_letL {a b : Nat} (ha : a < 3) (hb : b < 3) {y : List Nat} (hy : y.length ≤ 6) : ∀ d i fuel (S : o_S) (A : aS), wY (sW A) (3 * a + b) = y → i + d = y.length → d < fuel → CR S A → sR A = (y.take i).map gT → ∃ S', l_X9_letters_30 fuel (ov S n) 0 (28 + 2 * (3 * a + b)) (nI i) = some (ov S' n, nI y.length) ∧ CR S' (sRow A (y.map gT)) ∧ AG (fun b => b = 93 ∨ b = 94) S S' := by
  intro d
  induction d with
  | zero =>
    intro i fuel S A hyA hi hf H hr
    obtain ⟨f, rfl⟩ : ∃ f, fuel = f + 1 := ⟨fuel - 1, by omega⟩
    have hS := H.wy (i := 3 * a + b) (by omega)
    rw [hyA] at hS
    refine ⟨S, ?_, ?_, AG.rf⟩
    · show b_X9_letters_30 _ _ _ _ _ = _
      unfold b_X9_letters_30
      simp only [s_gI hS, bS, i_le (show y.length < 2 ^ 31 by omega) (show i < 2 ^ 31 by omega), show y.length ≤ i by omega, if_true]
    · rw [List.take_of_length_le (by omega)] at hr
      rw [← hr]
      exact H
  | succ d ih =>
    intro i fuel S A hyA hi hf H hr
    obtain ⟨f, rfl⟩ : ∃ f, fuel = f + 1 := ⟨fuel - 1, by omega⟩
    have hS := H.wy (i := 3 * a + b) (by omega)
    rw [hyA] at hS
    have hx : y[i]? = some y[i] := List.getElem?_eq_getElem (by omega)
    have hxb : y[i] < 2 ^ 31 := hS.mem (List.mem_of_getElem? hx)
    have hat : f_X5_at (ov S n) (28 + 2 * (3 * a + b)) (nI i) = some (ov S n, lN y[i]) := by
      rw [s_at hS (by omega), List.getD_eq_getElem?_getD, hx]; rfl
    obtain ⟨S1, k1, k2, k3⟩ := x_add (n := n) H (by rw [hr]; simp; omega) (Int32.toInt64 (nI (cT y[i])))
    obtain ⟨S2, g1, g2, g3⟩ := ih (i + 1) f S1 (sRow A (sR A ++ [Int32.toInt64 (nI (cT y[i]))])) hyA (by omega) (by omega) k2 (by
      show sR A ++ [_] = _
      rw [hr, List.take_succ, hx, List.map_append]
      rfl)
    refine ⟨S2, ?_, g2, k3.tr g3 (fun _ q => q) (fun _ q => q)⟩
    show b_X9_letters_30 _ _ _ _ _ = _
    unfold b_X9_letters_30
    simp only [s_gI hS, bS, i_le (show y.length < 2 ^ 31 by omega) (show i < 2 ^ 31 by omega), show ¬ y.length ≤ i by omega, if_false, xR4, hat, c_time _ hxb, k1, nI_1, g1]
theorem r_letL {a b : Nat} (ha : a < 3) (hb : b < 3) {y : List Nat} (hy : y.length ≤ 6) : ∀ d i fuel (S : o_S) (A : aS), wY (sW A) (3 * a + b) = y → i + d = y.length → d < fuel → RR S A → sR A = (y.take i).map gT → ∃ S', l_X10_letters_22 fuel (ov S n) 296 (nI a) (nI b) (nI i) = some (ov S' n, nI y.length) ∧ RR S' (sRow A (y.map gT)) ∧ RE S S' := by
  intro d
  induction d with
  | zero =>
    intro i fuel S A hyA hi hf H hr
    obtain ⟨f, rfl⟩ : ∃ f, fuel = f + 1 := ⟨fuel - 1, by omega⟩
    have hw := r_waiting (n := n) H.1.2.2.2.2 ha hb
    rw [hyA] at hw
    rw [List.take_of_length_le (by omega)] at hr
    refine ⟨S, ?_, ?_, RE.rf⟩
    · have hl := H.rl (n := n)
      rw [hr, List.length_map] at hl
      show b_X10_letters_22 _ _ _ _ _ _ = _
      unfold b_X10_letters_22
      simp only [hw, bS, i_le (show y.length < 2 ^ 31 by omega) (show i < 2 ^ 31 by omega), show y.length ≤ i by omega, if_true, hl]
    · rw [← hr]
      exact H
  | succ d ih =>
    intro i fuel S A hyA hi hf H hr
    obtain ⟨f, rfl⟩ : ∃ f, fuel = f + 1 := ⟨fuel - 1, by omega⟩
    have hw := r_waiting (n := n) H.1.2.2.2.2 ha hb
    rw [hyA] at hw
    have hx : y[i]? = some y[i] := List.getElem?_eq_getElem (by omega)
    have hv := H.1.yl0 (w := 3 * a + b) (j := i) (k := y[i]) (by omega) (by rw [hyA]; exact hx)
    obtain ⟨S1, k1, k2, k3⟩ := r_enters (n := n) H (by rw [hr]; simp; omega) (Int32.toInt64 (nI (cT y[i])))
    obtain ⟨S2, g1, g2, g3⟩ := ih (i + 1) f S1 (sRow A (sR A ++ [Int32.toInt64 (nI (cT y[i]))])) hyA (by omega) (by omega) k2 (by
      show sR A ++ [_] = _
      rw [hr, List.take_succ, hx, List.map_append]
      rfl)
    refine ⟨S2, ?_, g2, k3.tr g3⟩
    show b_X10_letters_22 _ _ _ _ _ _ = _
    unfold b_X10_letters_22
    simp only [hw, bS, i_le (show y.length < 2 ^ 31 by omega) (show i < 2 ^ 31 by omega), show ¬ y.length ≤ i by omega, if_false, rR7, r_letterOf, r_mem (show 492 + 4 * (6 * (3 * a + b) + i) < 2832 by omega), hv, k1, nI_1, g1]
theorem ag_letters (h : OKA T A) (x y : Int32) : AGR T A (fun h => f_X9_letters h 0 x y) (fun h => f_X10_letters h 296 x y) := by
  by_cases e : two x y = true
  · obtain ⟨a, b, ha, hb, hab, rfl, rfl⟩ := two_t e
    have hy6 := (h.1.2.2.2.2.1 a b ha hb).1
    refine ⟨nI (wY (sW A) (3 * a + b)).length, sRow A ((wY (sW A) (3 * a + b)).map gT), fun S n H => ?_, fun S n H => ?_, h.row (by omega) _⟩
    · obtain ⟨S', g1, g2, g3⟩ := x_letL (n := n) ha hb hy6 (wY (sW A) (3 * a + b)).length 0 q_FU (o_sf S 93 1 0) (sRow A []) rfl (by omega) (q_FU_lt (by omega)) (x_row0 H) (by simp)
      refine ⟨S', ?_, g2, (AG_sf S 93 1 0).tr g3 (fun b q => by omega) (fun b q => by omega)⟩
      unfold f_X9_letters b_X9_letters_0
      simp only [x_chk, x_areTwo, e, b2i_eq0, Bool.true_eq_false, if_false, xR0, u_way ha hb, bS, xR4, yCl]
      exact g1
    · have H0 : RR (o_sf S 296 0 0) A := H.fld 0 (by omega) (by omega)
      obtain ⟨S', g1, g2, g3⟩ := r_letL (n := n) ha hb hy6 (wY (sW A) (3 * a + b)).length 0 q_FU (o_sf (o_sf S 296 0 0) 296 1 0) (sRow A []) rfl (by omega) (q_FU_lt (by omega)) (r_row0 H0) (by simp)
      refine ⟨S', ?_, g2, (RZ.fld 0 (by omega) (by omega)).ag.tr (re_row0.tr g3).ag (fun _ q => q) (fun _ q => q)⟩
      unfold f_X10_letters b_X10_letters_0
      simp only [r_chk, rP0, bS, r_areTwo, e, b2i_eq0, Bool.true_eq_false, if_false, rP1]
      exact g1
  · have e' : two x y = false := by simpa using e
    refine ⟨-1, A, fun S n H => ⟨S, ?_, H, AG.rf⟩, fun S n H => ⟨_, ?_, H.fld (k := 0) 0 (by omega) (by omega), (RZ.fld 0 (by omega) (by omega)).ag⟩, h.mono (by omega)⟩
    · unfold f_X9_letters b_X9_letters_0
      simp only [x_chk, x_areTwo, e', b2i_eq0, if_true, bS]
    · unfold f_X10_letters b_X10_letters_0
      simp only [r_chk, rP0, bS, r_areTwo, e', b2i_eq0, if_true]
theorem ag_stable (h : OKA T A) (hT : T ≤ 100000) (x : Int32) : AGR T A (fun h => f_X9_stable h 0 x) (fun h => f_X10_stable h 296 x) := by
  by_cases e : inR 0 3 x = true
  · obtain ⟨c, -, hc, rfl⟩ := inR_t e (by omega)
    have hh : ∀ d, d < 3 → wH (sW A) c d < 2 ^ 31 := fun d hd => by have := h.1.2.1 c d hc hd; omega
    refine ⟨nI (mSt2 (wH (sW A) c) c), sRow A ([Int32.toInt64 (nI (wT (sW A) c))] ++ [Int32.toInt64 (nI (mCm (mSt2 (wH (sW A) c) c) (wL (sW A) c)))]), fun S n H => ?_, fun S n H => ?_, h.row (by omega) _⟩
    · obtain ⟨S1, k1, k2, k3⟩ := x_tell (n := n) H (Int32.toInt64 (nI (wT (sW A) c)))
      have hm := x_stableMoves (n := n) (u_k hc) (k2.cc hc).1 hc hh
      obtain ⟨S2, l1, l2, l3⟩ := x_add (n := n) k2 (show (1 : Nat) < 80 by omega) (Int32.toInt64 (nI (mCm (mSt2 (wH (sW A) c) c) (wL (sW A) c))))
      have ht := x_stableTime (n := n) (u_k hc) (l2.cc hc).1 hc hh
      refine ⟨S2, ?_, l2, k3.tr l3 (fun b q => by omega) (fun b q => by omega)⟩
      unfold f_X9_stable b_X9_stable_0
      simp only [x_chk, x_isCopy, e, b2i_eq0, Bool.true_eq_false, if_false, xR0, u_R0, u_cp hc, bS, xR4, H.tm hc, k1, hm, l1, ht]
    · have H0 : RR (o_sf S 296 0 0) A := H.fld 0 (by omega) (by omega)
      have et := (r_row0 H0).1.tm hc
      obtain ⟨S1, k1, k2, k3⟩ := r_tell (n := n) H0 (Int32.toInt64 (nI (wT (sW A) c)))
      have hm := r_cutMany (n := n) k2.1 h.1 hT hc
      obtain ⟨S2, l1, l2, l3⟩ := r_enters (n := n) k2 (show (1 : Nat) < 80 by omega) (Int32.toInt64 (nI (mCm (mSt2 (wH (sW A) c) c) (wL (sW A) c))))
      have ht := r_stableOf (n := n) l2.1 h.1 hT hc
      refine ⟨S2, ?_, l2, ((RZ.fld 0 (by omega) (by omega)).ag.tr k3.ag (fun _ q => q) (fun _ q => q)).tr l3.ag (fun _ q => q) (fun _ q => q)⟩
      unfold f_X10_stable b_X10_stable_0
      simp only [r_chk, rP0, bS, r_isCopy, e, b2i_eq0, Bool.true_eq_false, if_false, rP1, rR7, r_mem (show c < 2832 by omega), et, k1, hm, l1, ht]
  · have e' : inR 0 3 x = false := by simpa using e
    refine ⟨-1, A, fun S n H => ⟨S, ?_, H, AG.rf⟩, fun S n H => ⟨_, ?_, H.fld (k := 0) 0 (by omega) (by omega), (RZ.fld 0 (by omega) (by omega)).ag⟩, h.mono (by omega)⟩
    · unfold f_X9_stable b_X9_stable_0
      simp only [x_chk, x_isCopy, e', b2i_eq0, if_true, bS]
    · unfold f_X10_stable b_X10_stable_0
      simp only [r_chk, rP0, bS, r_isCopy, e', b2i_eq0, if_true]
end P2
