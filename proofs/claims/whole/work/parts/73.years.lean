/-! DRAWN DAYS -/
def dR (R : Int32) : Int32 := R * 1103515245 + 12345
def dV (R : Int32) (k : Nat) : Nat := R.toBitVec.toNat / 65536 % k
/-- one drawn act, by the way numbers are drawn -/
def dA (g : Int32 → Int32) (u : Int32 → Nat → Nat) (R : Int32) (W : aW) : Int32 × aW :=
  if u (g R) 8 = 3 then (g (g R), (eBt W (nI (u (g (g R)) 3))).2)
  else if u (g R) 8 = 4 ∨ u (g R) 8 = 5 then (g (g (g R)), (eCm W (nI (u (g (g R)) 3)) (nI (u (g (g (g R))) 3))).2)
  else if u (g R) 8 = 6 then (g (g R), (eGa W (nI (u (g (g R)) 3))).2)
  else if u (g R) 8 = 7 then (g (g R), (eCt W (nI (u (g (g R)) 3))).2)
  else (g (g (g (g (g R)))), (eMk W (nI (u (g (g R)) 3)) (nI (u (g (g (g R))) 12 + 2)) (nI (u (g (g (g (g R)))) 14)) (nI (u (g (g (g (g (g R))))) 10))).2)
def dI (g : Int32 → Int32) (u : Int32 → Nat → Nat) : Nat → Int32 → aW → Int32 × aW
  | 0, R, W => (R, W)
  | d + 1, R, W => dI g u d (dA g u R W).1 (dA g u R W).2
theorem V.dAc {g : Int32 → Int32} {u : Int32 → Nat → Nat} {T : Nat} {W : aW} (h : V T W) (hT : T ≤ 100000) (R : Int32) : V (T + 1) (dA g u R W).2 := by
  unfold dA
  split
  · exact (h.btG hT _).mono (by omega)
  · split
    · exact (h.cmG _ _).mono (by omega)
    · split
      · exact (h.gaG _).mono (by omega)
      · split
        · exact (h.ctG _).mono (by omega)
        · exact h.mkG hT _ _ _ _
theorem V.dIc {g : Int32 → Int32} {u : Int32 → Nat → Nat} : ∀ (d T : Nat) (R : Int32) (W : aW), V T W → T + d ≤ 100000 → V (T + d) (dI g u d R W).2 := by
  intro d
  induction d with
  | zero => intro T R W h _; exact h
  | succ d ih =>
    intro T R W h hT
    have := ih (T + 1) (dA g u R W).1 (dA g u R W).2 (h.dAc (by omega) R) (by omega)
    rw [show T + (d + 1) = T + 1 + d by omega]
    exact this
theorem q_remk {a k : Nat} (ha : a < 2 ^ 31) (h0 : 0 < k) (hk : k < 2 ^ 31) : q_rem (nI a) (nI k) = some (nI (a % k)) := by
  unfold q_rem
  rw [if_neg (nI_ne0 h0 hk), pk_rem ha h0 hk]
theorem dv_i (R : Int32) {k : Nat} (h0 : 0 < k) (hk : k < 100) : q_rem (q_iushr R 16) (nI k) = some (nI (dV R k)) := by
  have h1 : R.toBitVec.toNat < 2 ^ 32 := R.toBitVec.isLt
  have e : q_iushr R 16 = nI (R.toBitVec.toNat / 2 ^ 16) := by
    have := i_ushrK (v := R.toBitVec.toNat) (m := 16) (s := 16) rfl h1 (by omega)
    rw [← x_eq R] at this
    exact this
  rw [e, q_remk (by omega) h0 (by omega)]
  rfl
section YE
variable {S : o_S} {n : Nat × Nat × Nat} {A : aS} {T : Nat} {W : aW}
theorem xI9 : q_gI 8 9 (ov S n) 0 = some (S.1 0 9) := Eq.trans rfl rfl
def x_fs : (Nat → Int32) → List Value := fun (f : Nat → Int32) => [.ref 1, .ref 46, .ref 91, .ref 92, .ref 93, .ref 95, .ref 97, .ref 99, .ref 102, .int (f 9)]
theorem x_at : ∀ f I L, o_t 0 f I L = .inr (8, x_fs f) := fun _ _ _ => rfl
theorem xP9 (v : Int32) : q_p 8 9 (ov S n) 0 (.int v) = some (ov (o_sf S 0 9 v) n) := o_pI x_at (by show 9 < 10; omega) rfl
theorem x_draw {R : Int32} (hR : S.1 0 9 = R) {k : Nat} (h0 : 0 < k) (hk : k < 100) : f_X9_draw (ov S n) 0 (nI k) = some (ov (o_sf S 0 9 (dR R)) n, nI (dV (dR R) k)) := by
  have e : (o_sf S 0 9 (dR R)).1 0 9 = dR R := by rw [sf_f, pk_us]
  have e1 : q_p 8 9 (ov S n) 0 (.int ((R * 1103515245) + 12345)) = some (ov (o_sf S 0 9 (dR R)) n) := xP9 _
  unfold f_X9_draw b_X9_draw_0
  rw [x_chk, xI9, bS, hR, e1, bS, if_neg (by rw [i_le0 (by omega)]; omega), xI9, bS, e, dv_i (dR R) h0 hk, bS]
theorem r_draws {R : Int32} (hR : S.1 296 24 = R) {k : Nat} (h0 : 0 < k) (hk : k < 100) : f_X10_draws (ov S n) 296 (nI k) = some (ov (o_sf S 296 24 (dR R)) n, nI (dV (dR R) k)) := by
  have e : (o_sf S 296 24 (dR R)).1 296 24 = dR R := by rw [sf_f, pk_us]
  have e1 : q_p 9 24 (ov S n) 296 (.int ((R * 1103515245) + 12345)) = some (ov (o_sf S 296 24 (dR R)) n) := rP24 _
  unfold f_X10_draws b_X10_draws_0
  rw [r_chk, rI24, bS, hR, e1, bS, rI24, bS, e, dv_i (dR R) h0 hk, bS]
theorem ye_k (m : Nat) (hm : m < 8) : m = 3 ∨ m = 4 ∨ m = 5 ∨ m = 6 ∨ m = 7 ∨ m < 3 := by omega
def yA (b : Nat) : Prop := b = 0 ∨ (46 ≤ b ∧ b < 91)
theorem sf0 (v w : Int32) : o_sf (o_sf S 0 9 v) 0 9 w = o_sf S 0 9 w := by
  refine Prod.ext (funext fun b => ?_) rfl
  show (if b = 0 then upd (if (0 : Nat) = 0 then upd (S.1 0) 9 v else S.1 0) 9 w else if b = 0 then upd (S.1 0) 9 v else S.1 b) = (if b = 0 then upd (S.1 0) 9 w else S.1 b)
  by_cases e : b = 0
  · rw [if_pos e, if_pos e, if_pos rfl]
    funext j
    by_cases ej : j = 9
    · subst ej; rw [pk_us, pk_us]
    · rw [pk_un ej, pk_un ej, pk_un ej]
  · rw [if_neg e, if_neg e, if_neg e]
def xDr (n : Nat × Nat × Nat) (g : Int32 → Int32) (u : Int32 → Nat → Nat) : Prop := ∀ (S : o_S) (R : Int32) (k : Nat), S.1 0 9 = R → 0 < k → k < 100 → f_X9_draw (ov S n) 0 (nI k) = some (ov (o_sf S 0 9 (g R)) n, nI (u (g R) k))
def rDr (n : Nat × Nat × Nat) (g : Int32 → Int32) (u : Int32 → Nat → Nat) : Prop := ∀ (S : o_S) (R : Int32) (k : Nat), S.1 296 24 = R → 0 < k → k < 100 → f_X10_draws (ov S n) 296 (nI k) = some (ov (o_sf S 296 24 (g R)) n, nI (u (g R) k))
theorem x_drawAct {g : Int32 → Int32} {u : Int32 → Nat → Nat} (hg : xDr n g u) (hu : ∀ R k, 0 < k → u R k < k) {R : Int32} (hR : S.1 0 9 = R) (H : CW S 46 W) (hV : V T W) (hT : T ≤ 100000) : ∃ S', f_X9_drawAct (ov S n) 0 = some (ov S' n, ()) ∧ CW S' 46 (dA g u R W).2 ∧ S'.1 0 9 = (dA g u R W).1 ∧ AG yA S S' := by
  have cwf : ∀ v, CW (o_sf S 0 9 v) 46 W := fun v => H.ag (AG_sf S 0 9 v) (fun b h1 h2 q => by omega)
  have fe : ∀ v, (o_sf S 0 9 v).1 0 9 = v := fun v => by rw [sf_f, pk_us]
  have ag0 : ∀ v, AG yA S (o_sf S 0 9 v) := fun v => (AG_sf S 0 9 v).mono (fun b q => Or.inl q)
  have agw : ∀ {S1 S2 : o_S}, AG yA S S1 → AG (fun b => 46 ≤ b ∧ b < 46 + 45) S1 S2 → AG yA S S2 := fun h1 h2 => h1.tr h2 (fun _ q => q) (fun b q => Or.inr (by omega))
  have d1 : f_X9_draw (ov S n) 0 8 = _ := hg _ _ 8 hR (by omega) (by omega)
  have d2 : f_X9_draw (ov (o_sf S 0 9 (g R)) n) 0 3 = _ := hg _ _ 3 (fe _) (by omega) (by omega)
  rw [sf0] at d2
  have hm : u (g R) 8 < 8 := hu _ _ (by omega)
  unfold f_X9_drawAct b_X9_drawAct_0 b_X9_drawAct_60
  simp only [x_chk, d1, d2, bS, xR1]
  unfold dA
  generalize u (g R) 8 = m at hm
  rcases ye_k m hm with rfl | rfl | rfl | rfl | rfl | h3
  · obtain ⟨S1, g1, g2, g3⟩ := x_beatG (n := n) (cwf (g (g R))) hV hT (nI (u (g (g R)) 3))
    rw [if_pos (show nI 3 = 3 from rfl), g1, if_pos rfl]
    exact ⟨S1, rfl, g2, by rw [g3.f (by omega), fe], agw (ag0 _) g3⟩
  · have d3 : f_X9_draw (ov (o_sf S 0 9 (g (g R))) n) 0 3 = _ := hg _ _ 3 (fe _) (by omega) (by omega)
    rw [sf0] at d3
    obtain ⟨S1, g1, g2, g3⟩ := x_comeG (n := n) (cwf (g (g (g R)))) hV hT (nI (u (g (g R)) 3)) (nI (u (g (g (g R))) 3))
    rw [if_neg (show ¬ nI 4 = 3 by decide), if_pos (show nI 4 = 4 from rfl), d3, bS, g1, if_neg (by omega), if_pos (by omega)]
    exact ⟨S1, rfl, g2, by rw [g3.f (by omega), fe], agw (ag0 _) g3⟩
  · have d3 : f_X9_draw (ov (o_sf S 0 9 (g (g R))) n) 0 3 = _ := hg _ _ 3 (fe _) (by omega) (by omega)
    rw [sf0] at d3
    obtain ⟨S1, g1, g2, g3⟩ := x_comeG (n := n) (cwf (g (g (g R)))) hV hT (nI (u (g (g R)) 3)) (nI (u (g (g (g R))) 3))
    rw [if_neg (show ¬ nI 5 = 3 by decide), if_neg (show ¬ nI 5 = 4 by decide), if_pos (show nI 5 = 5 from rfl), d3, bS, g1, if_neg (by omega), if_pos (by omega)]
    exact ⟨S1, rfl, g2, by rw [g3.f (by omega), fe], agw (ag0 _) g3⟩
  · obtain ⟨S1, g1, g2, g3⟩ := x_gatherG (n := n) (cwf (g (g R))) hV hT (nI (u (g (g R)) 3))
    rw [if_neg (show ¬ nI 6 = 3 by decide), if_neg (show ¬ nI 6 = 4 by decide), if_neg (show ¬ nI 6 = 5 by decide), if_pos (show nI 6 = 6 from rfl), g1, if_neg (by omega), if_neg (by omega), if_pos rfl]
    exact ⟨S1, rfl, g2, by rw [g3.f (by omega), fe], agw (ag0 _) g3⟩
  · obtain ⟨S1, g1, g2, g3⟩ := x_cutG (n := n) (cwf (g (g R))) hV hT (nI (u (g (g R)) 3))
    rw [if_neg (show ¬ nI 7 = 3 by decide), if_neg (show ¬ nI 7 = 4 by decide), if_neg (show ¬ nI 7 = 5 by decide), if_neg (show ¬ nI 7 = 6 by decide), if_pos (show nI 7 = 7 from rfl), g1, if_neg (by omega), if_neg (by omega), if_neg (by omega), if_pos rfl]
    exact ⟨S1, rfl, g2, by rw [g3.f (by omega), fe], agw (ag0 _) g3⟩
  · have d3 : f_X9_draw (ov (o_sf S 0 9 (g (g R))) n) 0 12 = _ := hg _ _ 12 (fe _) (by omega) (by omega)
    have d4 : f_X9_draw (ov (o_sf S 0 9 (g (g (g R)))) n) 0 14 = _ := hg _ _ 14 (fe _) (by omega) (by omega)
    have d5 : f_X9_draw (ov (o_sf S 0 9 (g (g (g (g R))))) n) 0 10 = _ := hg _ _ 10 (fe _) (by omega) (by omega)
    rw [sf0] at d3 d4 d5
    have e2 : nI (u (g (g (g R))) 12) + 2 = nI (u (g (g (g R))) 12 + 2) := nI_add _ 2
    obtain ⟨S1, g1, g2, g3⟩ := x_makeG (n := n) (cwf (g (g (g (g (g R)))))) hV hT (nI (u (g (g R)) 3)) (nI (u (g (g (g R))) 12 + 2)) (nI (u (g (g (g (g R)))) 14)) (nI (u (g (g (g (g (g R))))) 10))
    have n3 : ¬ nI m = 3 := by rw [show (3 : Int32) = nI 3 from rfl, i_eq (by omega) (by omega)]; omega
    have n4 : ¬ nI m = 4 := by rw [show (4 : Int32) = nI 4 from rfl, i_eq (by omega) (by omega)]; omega
    have n5 : ¬ nI m = 5 := by rw [show (5 : Int32) = nI 5 from rfl, i_eq (by omega) (by omega)]; omega
    have n6 : ¬ nI m = 6 := by rw [show (6 : Int32) = nI 6 from rfl, i_eq (by omega) (by omega)]; omega
    have n7 : ¬ nI m = 7 := by rw [show (7 : Int32) = nI 7 from rfl, i_eq (by omega) (by omega)]; omega
    rw [if_neg n3, if_neg n4, if_neg n5, if_neg n6, if_neg n7, d3, bS, d4, bS, d5, bS, e2, g1, if_neg (by omega), if_neg (by omega), if_neg (by omega), if_neg (by omega)]
    exact ⟨S1, rfl, g2, by rw [g3.f (by omega), fe], agw (ag0 _) g3⟩
/-- fields that drawn acts may change -/
def RD' (S S' : o_S) : Prop := AG (fun b => b = 296 ∨ (299 ≤ b ∧ b ≤ 302)) S S' ∧ (∀ k, k ≠ 9 → k ≠ 12 → k ≠ 13 → k ≠ 14 → k ≠ 24 → S'.1 296 k = S.1 296 k) ∧ ∀ j, 708 ≤ j → S'.2.1 299 j = S.2.1 299 j
theorem RD'.tr {S S1 S2 : o_S} (h : RD' S S1) (k : RD' S1 S2) : RD' S S2 := ⟨h.1.tr k.1 (fun _ q => q) (fun _ q => q), fun j h1 h2 h3 h4 h5 => (k.2.1 j h1 h2 h3 h4 h5).trans (h.2.1 j h1 h2 h3 h4 h5), fun j hj => (k.2.2 j hj).trans (h.2.2 j hj)⟩
theorem RD'.rf {S : o_S} : RD' S S := ⟨AG.rf, fun _ _ _ _ _ _ => rfl, fun _ _ => rfl⟩
theorem RX.d {S S' : o_S} (h : RX S S') : RD' S S' := ⟨h.1, fun k h1 h2 h3 h4 _ => h.2.1 k h1 h2 h3 h4, h.2.2⟩
theorem RD'.f24 {S : o_S} (v : Int32) : RD' S (o_sf S 296 24 v) := ⟨(AG_sf _ _ _ _).mono (fun b q => Or.inl q), fun k _ _ _ _ h => by rw [s_F, if_pos rfl, pk_un h], fun _ _ => rfl⟩
theorem RD'.z {S S' : o_S} (h : RD' S S') : RZ S S' := ⟨h.1.mono (fun b q => by omega), h.2.1 1 (by omega) (by omega) (by omega) (by omega) (by omega), h.2.1 4 (by omega) (by omega) (by omega) (by omega) (by omega), fun j h1 _ => h.2.2 j h1⟩
theorem sf24 (v w : Int32) : o_sf (o_sf S 296 24 v) 296 24 w = o_sf S 296 24 w := by
  refine Prod.ext (funext fun b => ?_) rfl
  show (if b = 296 then upd (if (296 : Nat) = 296 then upd (S.1 296) 24 v else S.1 296) 24 w else if b = 296 then upd (S.1 296) 24 v else S.1 b) = (if b = 296 then upd (S.1 296) 24 w else S.1 b)
  by_cases e : b = 296
  · rw [if_pos e, if_pos e, if_pos rfl]
    funext j
    by_cases ej : j = 24
    · subst ej; rw [pk_us, pk_us]
    · rw [pk_un ej, pk_un ej, pk_un ej]
  · rw [if_neg e, if_neg e, if_neg e]
theorem r_drawnAct {g : Int32 → Int32} {u : Int32 → Nat → Nat} (hg : rDr n g u) (hu : ∀ R k, 0 < k → u R k < k) {R : Int32} (hR : S.1 296 24 = R) (H : RW (S.2.1 299) 0 W) (hV : V T W) (hT : T ≤ 100000) : ∃ S', f_X10_drawnAct (ov S n) 296 = some (ov S' n, ()) ∧ RW (S'.2.1 299) 0 (dA g u R W).2 ∧ S'.1 296 24 = (dA g u R W).1 ∧ RD' S S' := by
  have fe : ∀ v, (o_sf S 296 24 v).1 296 24 = v := fun v => by rw [sf_f, pk_us]
  have gx : ∀ {v : Int32} {S2 : o_S}, RX (o_sf S 296 24 v) S2 → S2.1 296 24 = v := fun {v} {S2} h => by rw [h.2.1 24 (by omega) (by omega) (by omega) (by omega), fe]
  have d1 : f_X10_draws (ov S n) 296 8 = _ := hg _ _ 8 hR (by omega) (by omega)
  have d2 : f_X10_draws (ov (o_sf S 296 24 (g R)) n) 296 3 = _ := hg _ _ 3 (fe _) (by omega) (by omega)
  rw [sf24] at d2
  have hm : u (g R) 8 < 8 := hu _ _ (by omega)
  unfold f_X10_drawnAct b_X10_drawnAct_0
  simp only [r_chk, d1, d2, bS]
  unfold dA
  generalize u (g R) 8 = m at hm
  rcases ye_k m hm with rfl | rfl | rfl | rfl | rfl | h3
  · obtain ⟨S1, g1, g2, g3⟩ := r_beatG (S := o_sf S 296 24 (g (g R))) (n := n) H hV hT (nI (u (g (g R)) 3))
    rw [if_pos (show (3 : Int32) ≤ nI 3 by decide), if_pos (show nI 3 = 3 from rfl), g1, if_pos rfl]
    exact ⟨S1, rfl, g2, gx g3, (RD'.f24 _).tr g3.d⟩
  · have d3 : f_X10_draws (ov (o_sf S 296 24 (g (g R))) n) 296 3 = _ := hg _ _ 3 (fe _) (by omega) (by omega)
    rw [sf24] at d3
    obtain ⟨S1, g1, g2, -, g3⟩ := r_comeG (S := o_sf S 296 24 (g (g (g R)))) (n := n) H hV hT (nI (u (g (g R)) 3)) (nI (u (g (g (g R))) 3))
    rw [if_pos (show (3 : Int32) ≤ nI 4 by decide), if_neg (show ¬ nI 4 = 3 by decide), if_neg (show ¬ (6 : Int32) ≤ nI 4 by decide), d3, bS, g1, if_neg (by omega), if_pos (by omega)]
    exact ⟨S1, rfl, g2, gx g3, (RD'.f24 _).tr g3.d⟩
  · have d3 : f_X10_draws (ov (o_sf S 296 24 (g (g R))) n) 296 3 = _ := hg _ _ 3 (fe _) (by omega) (by omega)
    rw [sf24] at d3
    obtain ⟨S1, g1, g2, -, g3⟩ := r_comeG (S := o_sf S 296 24 (g (g (g R)))) (n := n) H hV hT (nI (u (g (g R)) 3)) (nI (u (g (g (g R))) 3))
    rw [if_pos (show (3 : Int32) ≤ nI 5 by decide), if_neg (show ¬ nI 5 = 3 by decide), if_neg (show ¬ (6 : Int32) ≤ nI 5 by decide), d3, bS, g1, if_neg (by omega), if_pos (by omega)]
    exact ⟨S1, rfl, g2, gx g3, (RD'.f24 _).tr g3.d⟩
  · obtain ⟨S1, g1, g2, -, g3⟩ := r_gatherG (S := o_sf S 296 24 (g (g R))) (n := n) H hV hT (nI (u (g (g R)) 3))
    rw [if_pos (show (3 : Int32) ≤ nI 6 by decide), if_neg (show ¬ nI 6 = 3 by decide), if_pos (show (6 : Int32) ≤ nI 6 by decide), if_pos (show nI 6 = 6 from rfl), g1, if_neg (by omega), if_neg (by omega), if_pos rfl]
    exact ⟨S1, rfl, g2, gx g3, (RD'.f24 _).tr g3.d⟩
  · obtain ⟨S1, g1, g2, g3⟩ := r_cutG (S := o_sf S 296 24 (g (g R))) (n := n) H hV hT (nI (u (g (g R)) 3))
    rw [if_pos (show (3 : Int32) ≤ nI 7 by decide), if_neg (show ¬ nI 7 = 3 by decide), if_pos (show (6 : Int32) ≤ nI 7 by decide), if_neg (show ¬ nI 7 = 6 by decide), g1, if_neg (by omega), if_neg (by omega), if_neg (by omega), if_pos rfl]
    exact ⟨S1, rfl, g2, gx g3, (RD'.f24 _).tr g3.d⟩
  · have d3 : f_X10_draws (ov (o_sf S 296 24 (g (g R))) n) 296 12 = _ := hg _ _ 12 (fe _) (by omega) (by omega)
    have d4 : f_X10_draws (ov (o_sf S 296 24 (g (g (g R)))) n) 296 14 = _ := hg _ _ 14 (fe _) (by omega) (by omega)
    have d5 : f_X10_draws (ov (o_sf S 296 24 (g (g (g (g R))))) n) 296 10 = _ := hg _ _ 10 (fe _) (by omega) (by omega)
    rw [sf24] at d3 d4 d5
    have e2 : nI (u (g (g (g R))) 12) + 2 = nI (u (g (g (g R))) 12 + 2) := nI_add _ 2
    obtain ⟨S1, g1, g2, -, g3⟩ := r_makeG (S := o_sf S 296 24 (g (g (g (g (g R)))))) (n := n) H hV hT (nI (u (g (g R)) 3)) (nI (u (g (g (g R))) 12 + 2)) (nI (u (g (g (g (g R)))) 14)) (nI (u (g (g (g (g (g R))))) 10))
    have n3 : ¬ (3 : Int32) ≤ nI m := by rw [show (3 : Int32) = nI 3 from rfl, i_le (by omega) (by omega)]; omega
    rw [if_neg n3, d3, bS, d4, bS, d5, bS, e2, g1, if_neg (by omega), if_neg (by omega), if_neg (by omega), if_neg (by omega)]
    exact ⟨S1, rfl, g2, gx g3, (RD'.f24 _).tr g3.d⟩
end YE
