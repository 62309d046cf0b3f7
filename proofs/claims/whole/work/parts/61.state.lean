/-! THE STATES OF BOTH: world, what is kept, row, text -/
abbrev aS : Type := aW × (Nat → Option aW) × List Int64 × List Nat
abbrev sW (A : aS) : aW := A.1
abbrev sK (A : aS) : Nat → Option aW := A.2.1
abbrev sR (A : aS) : List Int64 := A.2.2.1
abbrev sX (A : aS) : List Nat := A.2.2.2
abbrev sRow (A : aS) (r : List Int64) : aS := (A.1, A.2.1, r, A.2.2.2)
abbrev sTxt (A : aS) (x : List Nat) : aS := (A.1, A.2.1, A.2.2.1, x)
abbrev sWld (A : aS) (W : aW) : aS := (W, A.2)
def OKA (T : Nat) (A : aS) : Prop := V T (sW A) ∧ ∀ i W, sK A i = some W → V T W
theorem OKA.mono {T T' : Nat} {A : aS} (h : OKA T A) (hT : T ≤ T') : OKA T' A := ⟨h.1.mono hT, fun i W hW => (h.2 i W hW).mono hT⟩
theorem OKA.row {T T' : Nat} {A : aS} (h : OKA T A) (hT : T ≤ T') (r : List Int64) : OKA T' (sRow A r) := h.mono hT
theorem OKA.txt {T T' : Nat} {A : aS} (h : OKA T A) (hT : T ≤ T') (r : List Nat) : OKA T' (sTxt A r) := h.mono hT
theorem OKA.wld {T T' : Nat} {A : aS} (h : OKA T A) (hT : T ≤ T') {W : aW} (hW : V T' W) : OKA T' (sWld A W) := ⟨hW, (h.mono hT).2⟩
/-! the class's side -/
def xTr (S : o_S) (w : Nat) : Prop := ∀ c, c < 3 → S.1 (w + 3 + 8 * c) 0 = nI c
def xKp (S : o_S) (K : Nat → Option aW) : Prop := ∀ i, i < 2 → xTr S (206 + 45 * i) ∧ S.2.1 92 i = b2i (K i).isSome ∧ ∀ W, K i = some W → CW S (206 + 45 * i) W
def xRo (S : o_S) (r : List Int64) : Prop := r.length ≤ 80 ∧ S.1 93 1 = nI r.length ∧ ∀ j v, r[j]? = some v → S.2.2 94 j = v
def xTx (S : o_S) (x : List Nat) : Prop := x.length ≤ 80 ∧ S.1 95 1 = nI x.length ∧ ∀ j k, x[j]? = some k → S.2.1 96 j = nI k ∧ k < 256
def CR (S : o_S) (A : aS) : Prop := CW S 1 (sW A) ∧ xTr S 46 ∧ xKp S (sK A) ∧ xRo S (sR A) ∧ xTx S (sX A)
theorem CW.xtr {S : o_S} {w : Nat} {W : aW} (H : CW S w W) : xTr S w := fun c hc => (H.2.1 c hc).1.1.1
theorem xTr.ag {P : Nat → Prop} {S S' : o_S} {w : Nat} (h : xTr S w) (hA : AG P S S') (hn : ∀ b, P b → b < w ∨ w + 45 ≤ b) : xTr S' w := fun c hc => by
  rw [hA.f (fun q => by have := hn _ q; omega)]
  exact h c hc
theorem xKp.ag {P : Nat → Prop} {S S' : o_S} {K : Nat → Option aW} (h : xKp S K) (hA : AG P S S') (hn : ∀ b, P b → b ≠ 92 ∧ (b < 206 ∨ 296 ≤ b)) : xKp S' K := fun i hi => by
  obtain ⟨h1, h2, h3⟩ := h i hi
  refine ⟨h1.ag hA (fun b q => by have := hn b q; omega), by rw [hA.I (fun q => by have := hn _ q; omega)]; exact h2, fun W hW => (h3 W hW).ag hA (fun b q1 q2 q => by have := hn b q; omega)⟩
theorem xRo.ag {P : Nat → Prop} {S S' : o_S} {r : List Int64} (h : xRo S r) (hA : AG P S S') (hn : ∀ b, P b → b ≠ 93 ∧ b ≠ 94) : xRo S' r := by
  refine ⟨h.1, by rw [hA.f (fun q => (hn _ q).1 rfl)]; exact h.2.1, fun j v hv => by rw [hA.L (fun q => (hn _ q).2 rfl)]; exact h.2.2 j v hv⟩
theorem xTx.ag {P : Nat → Prop} {S S' : o_S} {r : List Nat} (h : xTx S r) (hA : AG P S S') (hn : ∀ b, P b → b ≠ 95 ∧ b ≠ 96) : xTx S' r := by
  refine ⟨h.1, by rw [hA.f (fun q => (hn _ q).1 rfl)]; exact h.2.1, fun j v hv => by rw [hA.I (fun q => (hn _ q).2 rfl)]; exact h.2.2 j v hv⟩
/-- scratch, and the reference's side, may change -/
def xsc (b : Nat) : Prop := b = 0 ∨ (97 ≤ b ∧ b < 206) ∨ 296 ≤ b
theorem CR.up {P : Nat → Prop} {S S' : o_S} {A : aS} {W' : aW} (H : CR S A) (hA : AG P S S') (hn : ∀ b, P b → b < 91 ∨ xsc b) (hW : CW S' 1 W') (hT : xTr S' 46) : CR S' (sWld A W') :=
  ⟨hW, hT, H.2.2.1.ag hA (fun b q => by have := hn b q; unfold xsc at this; omega), H.2.2.2.1.ag hA (fun b q => by have := hn b q; unfold xsc at this; omega), H.2.2.2.2.ag hA (fun b q => by have := hn b q; unfold xsc at this; omega)⟩
theorem CR.wld {P : Nat → Prop} {S S' : o_S} {A : aS} {W' : aW} (H : CR S A) (hA : AG P S S') (hn : ∀ b, P b → b < 46 ∨ xsc b) (hW : CW S' 1 W') : CR S' (sWld A W') :=
  H.up hA (fun b q => (hn b q).elim (fun q => Or.inl (by omega)) Or.inr) hW (H.2.1.ag hA (fun b q => by have := hn b q; unfold xsc at this; omega))
theorem CR.ag {P : Nat → Prop} {S S' : o_S} {A : aS} (H : CR S A) (hA : AG P S S') (hn : ∀ b, P b → xsc b) : CR S' A :=
  H.wld hA (fun b q => Or.inr (hn b q)) (H.1.ag hA (fun b q1 q2 q => by have := hn b q; unfold xsc at this; omega))
theorem CR.tri {P : Nat → Prop} {S S' : o_S} {A : aS} (H : CR S A) (hA : AG P S S') (hn : ∀ b, P b → (46 ≤ b ∧ b < 91) ∨ xsc b) (hT : xTr S' 46) : CR S' A :=
  H.up hA (fun b q => (hn b q).elim (fun q => Or.inl (by omega)) Or.inr) (H.1.ag hA (fun b q1 q2 q => by have := hn b q; unfold xsc at this; omega)) hT
section XS
variable {S : o_S} {n : Nat × Nat × Nat} {A : aS}
theorem yC {β : Type} {r : Option β} : q_chk 3 (ov S n) 93 r = r := Eq.trans rfl rfl
theorem yR0 : q_gR 3 0 (ov S n) 93 = some 94 := Eq.trans rfl rfl
theorem yI1 : q_gI 3 1 (ov S n) 93 = some (S.1 93 1) := Eq.trans rfl rfl
theorem yP1 (v : Int32) : q_p 3 1 (ov S n) 93 (.int v) = some (ov (o_sf S 93 1 v) n) := o_pI (fs := fun f => [.ref 94, .int (f 1)]) (fun _ _ _ => rfl) (by show 1 < 2; omega) rfl
theorem yCl : f_X4_clear (ov S n) 93 = some (ov (o_sf S 93 1 0) n, ()) := by
  unfold f_X4_clear b_X4_clear_0
  rw [yC, yP1, bS]
theorem yLn : q_len (ov S n) 94 = some (nI 80) := o_lenL (fun _ _ _ => rfl)
theorem yLd {j : Nat} (h : j < 80) : q_lL (ov S n) 94 (nI j) = some (S.2.2 94 j) := by
  rw [o_lL (m := 80) (fun _ _ _ => rfl), if_pos (q_in_nI h (by omega)), nI_clamp (by omega)]
theorem ySt {j : Nat} (h : j < 80) (x : Int64) : q_sL (ov S n) 94 (nI j) x = some (ov (o_sL S 94 (vp_updL (S.2.2 94) j x)) n) := by
  rw [o_stL (m := 80) (fun _ _ _ => rfl), if_pos (q_in_nI h (by omega)), nI_clamp (by omega)]
theorem zC {β : Type} {r : Option β} : q_chk 5 (ov S n) 95 r = r := Eq.trans rfl rfl
theorem zR0 : q_gR 5 0 (ov S n) 95 = some 96 := Eq.trans rfl rfl
theorem zI1 : q_gI 5 1 (ov S n) 95 = some (S.1 95 1) := Eq.trans rfl rfl
theorem zP1 (v : Int32) : q_p 5 1 (ov S n) 95 (.int v) = some (ov (o_sf S 95 1 v) n) := o_pI (fs := fun f => [.ref 96, .int (f 1)]) (fun _ _ _ => rfl) (by show 1 < 2; omega) rfl
theorem zCl : f_X6_clear (ov S n) 95 = some (ov (o_sf S 95 1 0) n, ()) := by
  unfold f_X6_clear b_X6_clear_0
  rw [zC, zP1, bS]
theorem zLn : q_len (ov S n) 96 = some (nI 80) := o_lenI (t := 3) (fun _ _ _ => rfl) (by omega)
theorem zLd {j : Nat} (h : j < 80) : q_lI 3 (ov S n) 96 (nI j) = some (S.2.1 96 j) := by
  rw [o_lI (t := 3) (m := 80) (fun _ _ _ => rfl), if_pos (q_in_nI h (by omega)), nI_clamp (by omega)]
theorem zSt {j : Nat} (h : j < 80) (x : Int32) : q_sI 3 (vp_nar .char) (ov S n) 96 (nI j) x = some (ov (o_sI S 96 (upd (S.2.1 96) j (vp_nar .char x))) n) := by
  rw [o_stI (t := 3) (m := 80) (fun _ _ _ => rfl), if_pos (q_in_nI h (by omega)), nI_clamp (by omega)]
theorem kLd {j : Nat} (h : j < 2) : q_lI 2 (ov S n) 92 (nI j) = some (S.2.1 92 j) := by
  rw [o_lI (t := 2) (m := 2) (fun _ _ _ => rfl), if_pos (q_in_nI h (by omega)), nI_clamp (by omega)]
theorem kSt {j : Nat} (h : j < 2) (x : Int32) : q_sI 2 (vp_nar .boolean) (ov S n) 92 (nI j) x = some (ov (o_sI S 92 (upd (S.2.1 92) j (vp_nar .boolean x))) n) := by
  rw [o_stI (t := 2) (m := 2) (fun _ _ _ => rfl), if_pos (q_in_nI h (by omega)), nI_clamp (by omega)]
theorem kW {j : Nat} (h : j < 2) : q_lR 7 (ov S n) 91 (nI j) = some (206 + 45 * j) := by
  rw [o_lR (t := 7) (m := 2) (g := fun j => 206 + 45 * j) (fun _ _ _ => rfl), if_pos (q_in_nI h (by omega)), nI_clamp (by omega)]
theorem u_R0 : q_gR 7 0 (ov S n) 1 = some 2 := Eq.trans rfl rfl
theorem u_cp {c : Nat} (hc : c < 3) : q_lR 4 (ov S n) 2 (nI c) = some (4 + 8 * c) := w_cp (kWorld_at 1 (by omega)) hc
theorem v_R0 : q_gR 7 0 (ov S n) 46 = some 47 := Eq.trans rfl rfl
theorem v_cp {c : Nat} (hc : c < 3) : q_lR 4 (ov S n) 47 (nI c) = some (49 + 8 * c) := w_cp (kWorld_at 46 (by omega)) hc
theorem u_k {c : Nat} (hc : c < 3) : kCopy (4 + 8 * c) := (kWorld_at 1 (by omega)).2.2.2.1 c hc
theorem v_k {c : Nat} (hc : c < 3) : kCopy (49 + 8 * c) := (kWorld_at 46 (by omega)).2.2.2.1 c hc
theorem u_R5 {c : Nat} (hc : c < 3) : q_gR 0 5 (ov S n) (4 + 8 * c) = some (4 + 8 * c + 6) := cp_R5 (u_k hc)
theorem v_R5 {c : Nat} (hc : c < 3) : q_gR 0 5 (ov S n) (49 + 8 * c) = some (49 + 8 * c + 6) := cp_R5 (v_k hc)
theorem u_R3 {c : Nat} (hc : c < 3) : q_gR 0 3 (ov S n) (4 + 8 * c) = some (4 + 8 * c + 2) := cp_R3 (u_k hc)
theorem v_R3 {c : Nat} (hc : c < 3) : q_gR 0 3 (ov S n) (49 + 8 * c) = some (49 + 8 * c + 2) := cp_R3 (v_k hc)
theorem u_R4 {c : Nat} (hc : c < 3) : q_gR 0 4 (ov S n) (4 + 8 * c) = some (4 + 8 * c + 4) := cp_R4 (u_k hc)
theorem CR.cc (H : CR S A) {c : Nat} (hc : c < 3) : CC S (4 + 8 * c) c (wT (sW A) c) (wH (sW A) c) (wL (sW A) c) (wB (sW A) c) := H.1.2.1 c hc
theorem CW.cc1 {W : aW} (H : CW S 1 W) {c : Nat} (hc : c < 3) : CC S (4 + 8 * c) c (wT W c) (wH W c) (wL W c) (wB W c) := H.2.1 c hc
theorem CW.cc46 {W : aW} (H : CW S 46 W) {c : Nat} (hc : c < 3) : CC S (49 + 8 * c) c (wT W c) (wH W c) (wL W c) (wB W c) := H.2.1 c hc
theorem CW.te1 {W : aW} (H : CW S 1 W) {c : Nat} (hc : c < 3) : TE S (4 + 8 * c + 6) (tr W c) := (H.2.1 c hc).2.2
theorem CW.te46 {W : aW} (H : CW S 46 W) {c : Nat} (hc : c < 3) : TE S (49 + 8 * c + 6) (tr W c) := (H.2.1 c hc).2.2
theorem CR.te (H : CR S A) {c : Nat} (hc : c < 3) : TE S (4 + 8 * c + 6) (tr (sW A) c) := (H.1.2.1 c hc).2.2
theorem CR.vd (H : CR S A) {c : Nat} (hc : c < 3) : q_gI 0 6 (ov S n) (4 + 8 * c) = some (nI (mVds 1000 (wL (sW A) c) 0 (wB (sW A) c) 0)) := by rw [cp_I6 (u_k hc), (H.cc hc).2.1]
theorem CR.tm (H : CR S A) {c : Nat} (hc : c < 3) : q_gI 0 1 (ov S n) (4 + 8 * c) = some (nI (wT (sW A) c)) := by rw [cp_I1 (u_k hc), (H.cc hc).1.1.2]
theorem CR.lg (H : CR S A) {c : Nat} (hc : c < 3) : SE S (4 + 8 * c + 2) 32 (wL (sW A) c) := (H.cc hc).1.2.2.1
theorem CR.wy (H : CR S A) {i : Nat} (hi : i < 9) : SE S (28 + 2 * i) 6 (wY (sW A) i) := H.1.2.2 i hi
theorem u_way {a b : Nat} (ha : a < 3) (hb : b < 3) : f_X8_way (ov S n) 1 (nI a) (nI b) = some (ov S n, 28 + 2 * (3 * a + b)) := w_way (kWorld_at 1 (by omega)) ha hb
/-! the class's row -/
theorem x_add (H : CR S A) (hl : (sR A).length < 80) (v : Int64) : ∃ S', f_X4_add (ov S n) 93 v = some (ov S' n, ()) ∧ CR S' (sRow A (sR A ++ [v])) ∧ AG (fun b => b = 93 ∨ b = 94) S S' := by
  have hR := H.2.2.2.1
  have hag : AG (fun b => b = 93 ∨ b = 94) S (o_sf (o_sL S 94 (vp_updL (S.2.2 94) (sR A).length v)) 93 1 (nI ((sR A).length + 1))) := (AG_sL _ _ _).tr (AG_sf _ _ _ _) (fun b hb => Or.inr hb) (fun b hb => Or.inl hb)
  refine ⟨o_sf (o_sL S 94 (vp_updL (S.2.2 94) (sR A).length v)) 93 1 (nI ((sR A).length + 1)), ?_, ⟨H.1.ag hag (fun b h1 h2 q => by omega), H.2.1.ag hag (fun b q => by omega), H.2.2.1.ag hag (fun b q => by omega), ?_, H.2.2.2.2.ag hag (fun b q => by omega)⟩, hag⟩
  · unfold f_X4_add b_X4_add_0
    have e : (o_sL S 94 (vp_updL (S.2.2 94) (sR A).length v)).1 93 1 = nI (sR A).length := hR.2.1
    simp only [yC, yR0, yI1, yLn, bS, hR.2.1, i_le (show 80 < 2 ^ 31 by omega) (show (sR A).length < 2 ^ 31 by omega), show ¬ 80 ≤ (sR A).length by omega, if_false, ySt hl, e, nI_1, yP1]
  · refine ⟨by show (sR A ++ [v]).length ≤ 80; simp; omega, ?_, fun j x hx => ?_⟩
    · show _ = nI (sR A ++ [v]).length
      rw [sf_f, pk_us, List.length_append]; rfl
    · have hx : (sR A ++ [v])[j]? = some x := hx
      rw [sf_L, sL_L]
      by_cases e : j = (sR A).length
      · subst e
        rw [pk_uLs]
        simpa using hx
      · rw [pk_uLn e]
        have hj : j < (sR A ++ [v]).length := (List.getElem?_eq_some_iff.mp hx).1
        rw [List.length_append] at hj
        simp only [List.length_cons, List.length_nil] at hj
        rw [List.getElem?_append_left (by omega)] at hx
        exact hR.2.2 j x hx
theorem x_row0 (H : CR S A) : CR (o_sf S 93 1 0) (sRow A []) := by
  have hag : AG (fun b => b = 93) S (o_sf S 93 1 0) := AG_sf _ _ _ _
  refine ⟨H.1.ag hag (fun b h1 h2 q => by omega), H.2.1.ag hag (fun b q => by omega), H.2.2.1.ag hag (fun b q => by omega), ⟨Nat.zero_le _, ?_, fun j x hx => nomatch hx⟩, H.2.2.2.2.ag hag (fun b q => by omega)⟩
  rw [sf_f, pk_us]
  rfl
theorem x_tell (H : CR S A) (v : Int64) : ∃ S', f_X4_tell (ov S n) 93 v = some (ov S' n, ()) ∧ CR S' (sRow A [v]) ∧ AG (fun b => b = 93 ∨ b = 94) S S' := by
  obtain ⟨S', g1, g2, g3⟩ := x_add (n := n) (x_row0 H) (show (0 : Nat) < 80 by omega) v
  refine ⟨S', ?_, g2, (AG_sf S 93 1 0).tr g3 (fun b q => Or.inl q) (fun b q => q)⟩
  unfold f_X4_tell b_X4_tell_0
  simp only [yC, yCl, bS, g1]
theorem CR.rl (H : CR S A) : q_gI 3 1 (ov S n) 93 = some (nI (sR A).length) := by rw [yI1, H.2.2.2.1.2.1]
theorem CR.xl (H : CR S A) : q_gI 5 1 (ov S n) 95 = some (nI (sX A).length) := by rw [zI1, H.2.2.2.2.2.1]
theorem x_txt (H : CR S A) {m : Nat} (hm : m ≤ (sX A).length) : CR (o_sf S 95 1 (nI m)) (sTxt A ((sX A).take m)) := by
  have hX := H.2.2.2.2
  have hag : AG (fun b => b = 95) S (o_sf S 95 1 (nI m)) := AG_sf _ _ _ _
  refine ⟨H.1.ag hag (fun b h1 h2 q => by omega), H.2.1.ag hag (fun b q => by omega), H.2.2.1.ag hag (fun b q => by omega), H.2.2.2.1.ag hag (fun b q => by omega), ⟨by rw [List.length_take]; have := hX.1; omega, ?_, fun j x hx => ?_⟩⟩
  · rw [sf_f, pk_us, List.length_take, Nat.min_eq_left hm]
  · have hj : j < ((sX A).take m).length := (List.getElem?_eq_some_iff.mp hx).1
    rw [List.length_take] at hj
    rw [List.getElem?_take_of_lt (by omega)] at hx
    exact hX.2.2 j x hx
end XS
/-! the reference's side -/
def rKp (S : o_S) (K : Nat → Option aW) : Prop := ∀ i, i < 2 → S.2.1 312 i = b2i (K i).isSome ∧ ∀ W, K i = some W → RW (S.2.1 299) (708 * (1 + i)) W
def rRo (S : o_S) (r : List Int64) : Prop := r.length ≤ 80 ∧ S.1 296 1 = nI r.length ∧ ∀ j v, r[j]? = some v → S.2.2 297 j = v
def rTx (S : o_S) (x : List Nat) : Prop := x.length ≤ 80 ∧ S.1 296 4 = nI x.length ∧ ∀ j k, x[j]? = some k → S.2.1 298 j = nI k ∧ k < 256
def RR (S : o_S) (A : aS) : Prop := RW (S.2.1 299) 0 (sW A) ∧ rKp S (sK A) ∧ rRo S (sR A) ∧ rTx S (sX A)
/-- what may change while the reference answers, but for row, text and what is kept -/
def RZ (S S' : o_S) : Prop := AG (fun b => b = 296 ∨ (299 ≤ b ∧ b ≤ 311)) S S' ∧ S'.1 296 1 = S.1 296 1 ∧ S'.1 296 4 = S.1 296 4 ∧ ∀ j, 708 ≤ j → j < 2124 → S'.2.1 299 j = S.2.1 299 j
theorem RZ.rf {S : o_S} : RZ S S := ⟨AG.rf, rfl, rfl, fun _ _ _ => rfl⟩
theorem RZ.tr {S S1 S2 : o_S} (h : RZ S S1) (k : RZ S1 S2) : RZ S S2 := ⟨h.1.tr k.1 (fun _ q => q) (fun _ q => q), k.2.1.trans h.2.1, k.2.2.1.trans h.2.2.1, fun j h1 h2 => (k.2.2.2 j h1 h2).trans (h.2.2.2 j h1 h2)⟩
theorem RX.z {S S' : o_S} (h : RX S S') : RZ S S' := ⟨h.1.mono (fun b q => by omega), h.2.1 1 (by omega) (by omega) (by omega) (by omega), h.2.1 4 (by omega) (by omega) (by omega) (by omega), fun j h1 _ => h.2.2 j h1⟩
theorem RZ.fld {S : o_S} {k : Nat} (v : Int32) (h1 : k ≠ 1) (h4 : k ≠ 4) : RZ S (o_sf S 296 k v) := ⟨(AG_sf _ _ _ _).mono (fun b q => Or.inl q), by rw [s_F, if_pos rfl, pk_un (Ne.symm h1)], by rw [s_F, if_pos rfl, pk_un (Ne.symm h4)], fun _ _ _ => rfl⟩
theorem RZ.sI {S : o_S} {a : Nat} (I : Nat → Int32) (h1 : 300 ≤ a) (h2 : a ≤ 311) : RZ S (o_sI S a I) := ⟨(AG_sI _ _ _).mono (fun b q => by omega), rfl, rfl, fun _ _ _ => by rw [s_I, if_neg (by omega)]⟩
theorem RZ.ag {S S' : o_S} (h : RZ S S') : AG (fun b => 296 ≤ b ∧ b < 313) S S' := h.1.mono (fun b q => by omega)
theorem RR.z {S S' : o_S} {A : aS} {W' : aW} (H : RR S A) (h : RZ S S') (hW : RW (S'.2.1 299) 0 W') : RR S' (sWld A W') :=
  ⟨hW, fun i hi => ⟨by rw [h.1.I (by omega)]; exact (H.2.1 i hi).1, fun W hK => ((H.2.1 i hi).2 W hK).cg (fun j hj => h.2.2.2 _ (by omega) (by omega))⟩,
    ⟨H.2.2.1.1, by rw [h.2.1]; exact H.2.2.1.2.1, by rw [h.1.L (by omega)]; exact H.2.2.1.2.2⟩, ⟨H.2.2.2.1, by rw [h.2.2.1]; exact H.2.2.2.2.1, by rw [h.1.I (by omega)]; exact H.2.2.2.2.2⟩⟩
theorem RR.zs {S S' : o_S} {A : aS} (H : RR S A) (h : RZ S S') (e : S'.2.1 299 = S.2.1 299) : RR S' A := H.z (W' := sW A) h (by rw [e]; exact H.1)
theorem RR.fld {S : o_S} {A : aS} (H : RR S A) {k : Nat} (v : Int32) (h1 : k ≠ 1) (h4 : k ≠ 4) : RR (o_sf S 296 k v) A := H.zs (RZ.fld v h1 h4) rfl
theorem RR.agl {P : Nat → Prop} {S S' : o_S} {A : aS} (H : RR S A) (h : AG P S S') (hn : ∀ b, P b → b < 296 ∨ 313 ≤ b) : RR S' A :=
  have e1 : S'.2.1 299 = S.2.1 299 := h.I (fun q => by have := hn _ q; omega)
  have e2 : S'.2.1 312 = S.2.1 312 := h.I (fun q => by have := hn _ q; omega)
  have e3 : S'.2.1 298 = S.2.1 298 := h.I (fun q => by have := hn _ q; omega)
  have e4 : S'.2.2 297 = S.2.2 297 := h.L (fun q => by have := hn _ q; omega)
  have e5 : S'.1 296 = S.1 296 := h.f (fun q => by have := hn _ q; omega)
  ⟨by rw [e1]; exact H.1, fun i hi => ⟨by rw [e2]; exact (H.2.1 i hi).1, fun W hK => by rw [e1]; exact (H.2.1 i hi).2 W hK⟩, ⟨H.2.2.1.1, by rw [e5]; exact H.2.2.1.2.1, by rw [e4]; exact H.2.2.1.2.2⟩, ⟨H.2.2.2.1, by rw [e5]; exact H.2.2.2.2.1, by rw [e3]; exact H.2.2.2.2.2⟩⟩
/-- the row alone changes -/
def RE (S S' : o_S) : Prop := AG (fun b => b = 296 ∨ b = 297) S S' ∧ ∀ k, k ≠ 1 → S'.1 296 k = S.1 296 k
theorem RE.rf {S : o_S} : RE S S := ⟨AG.rf, fun _ _ => rfl⟩
theorem RE.tr {S S1 S2 : o_S} (h : RE S S1) (k : RE S1 S2) : RE S S2 := ⟨h.1.tr k.1 (fun _ q => q) (fun _ q => q), fun j hj => (k.2 j hj).trans (h.2 j hj)⟩
theorem RE.m {S S' : o_S} (h : RE S S') {a : Nat} (ha : 298 ≤ a) : S'.2.1 a = S.2.1 a := h.1.I (by omega)
theorem RE.ag {S S' : o_S} (h : RE S S') : AG (fun b => 296 ≤ b ∧ b < 313) S S' := h.1.mono (fun b q => by omega)
theorem TT.re {S S' : o_S} {s : Nat} {E : Nat → Nat} (h : TT S s E) (k : RE S S') : TT S' s E := ⟨h.1, by rw [k.m (by omega)]; exact h.2⟩
theorem LL.re {S S' : o_S} {l : List Nat} (h : LL S l) (k : RE S S') : LL S' l := ⟨by rw [k.2 9 (by omega)]; exact h.1, h.2.1, by rw [k.m (by omega)]; exact h.2.2⟩
theorem RR.row {S S' : o_S} {A : aS} (H : RR S A) (k : RE S S') {r : List Int64} (hr : rRo S' r) : RR S' (sRow A r) :=
  ⟨by rw [k.m (by omega)]; exact H.1, fun i hi => by rw [k.m (show 298 ≤ 312 by omega), k.m (show 298 ≤ 299 by omega)]; exact H.2.1 i hi, hr, ⟨H.2.2.2.1, by rw [k.2 4 (by omega)]; exact H.2.2.2.2.1, by rw [k.m (by omega)]; exact H.2.2.2.2.2⟩⟩
section RS
variable {S : o_S} {n : Nat × Nat × Nat} {A : aS}
theorem rwS {j : Nat} (h : j < 96) (x : Int64) : q_sL (ov S n) 297 (nI j) x = some (ov (o_sL S 297 (vp_updL (S.2.2 297) j x)) n) := by
  rw [o_stL (m := 96) (fun _ _ _ => rfl), if_pos (q_in_nI h (by omega)), nI_clamp (by omega)]
theorem rwL {j : Nat} (h : j < 96) : q_lL (ov S n) 297 (nI j) = some (S.2.2 297 j) := by
  rw [o_lL (m := 96) (fun _ _ _ => rfl), if_pos (q_in_nI h (by omega)), nI_clamp (by omega)]
theorem rtS {j : Nat} (h : j < 80) (x : Int32) : q_sI 0 id (ov S n) 298 (nI j) x = some (ov (o_sI S 298 (upd (S.2.1 298) j (id x))) n) := by
  rw [o_stI (t := 0) (m := 80) (fun _ _ _ => rfl), if_pos (q_in_nI h (by omega)), nI_clamp (by omega)]
theorem rtL {j : Nat} (h : j < 80) : q_lI 0 (ov S n) 298 (nI j) = some (S.2.1 298 j) := by
  rw [o_lI (t := 0) (m := 80) (fun _ _ _ => rfl), if_pos (q_in_nI h (by omega)), nI_clamp (by omega)]
theorem rkS {j : Nat} (h : j < 2) (x : Int32) : q_sI 2 (vp_nar .boolean) (ov S n) 312 (nI j) x = some (ov (o_sI S 312 (upd (S.2.1 312) j (vp_nar .boolean x))) n) := by
  rw [o_stI (t := 2) (m := 2) (fun _ _ _ => rfl), if_pos (q_in_nI h (by omega)), nI_clamp (by omega)]
theorem rkL {j : Nat} (h : j < 2) : q_lI 2 (ov S n) 312 (nI j) = some (S.2.1 312 j) := by
  rw [o_lI (t := 2) (m := 2) (fun _ _ _ => rfl), if_pos (q_in_nI h (by omega)), nI_clamp (by omega)]
theorem r_enters (H : RR S A) (hl : (sR A).length < 80) (v : Int64) : ∃ S', f_X10_enters (ov S n) 296 v = some (ov S' n, ()) ∧ RR S' (sRow A (sR A ++ [v])) ∧ RE S S' := by
  have hR := H.2.2.1
  have hre : RE S (o_sf (o_sL S 297 (vp_updL (S.2.2 297) (sR A).length v)) 296 1 (nI ((sR A).length + 1))) := ⟨(AG_sL _ _ _).tr (AG_sf _ _ _ _) (fun b hb => Or.inr hb) (fun b hb => Or.inl hb), fun k hk => by rw [s_F, if_pos rfl, pk_un hk]; rfl⟩
  refine ⟨_, ?_, H.row hre (r := sR A ++ [v]) ⟨by simp; omega, ?_, fun j x hx => ?_⟩, hre⟩
  · unfold f_X10_enters b_X10_enters_0
    have e : (o_sL S 297 (vp_updL (S.2.2 297) (sR A).length v)).1 296 1 = nI (sR A).length := hR.2.1
    simp only [r_chk, rR2, rI1, bS, hR.2.1, rwS (show (sR A).length < 96 by omega), e, nI_1, rP1]
  · rw [sf_f, pk_us, List.length_append]; rfl
  · rw [sf_L, sL_L]
    by_cases e : j = (sR A).length
    · subst e
      rw [pk_uLs]
      simpa using hx
    · rw [pk_uLn e]
      have hj : j < (sR A ++ [v]).length := (List.getElem?_eq_some_iff.mp hx).1
      rw [List.length_append] at hj
      simp only [List.length_cons, List.length_nil] at hj
      rw [List.getElem?_append_left (by omega)] at hx
      exact hR.2.2 j x hx
theorem re_row0 : RE S (o_sf S 296 1 0) := ⟨(AG_sf _ _ _ _).mono (fun b q => Or.inl q), fun k hk => by rw [s_F, if_pos rfl, pk_un hk]⟩
theorem r_row0 (H : RR S A) : RR (o_sf S 296 1 0) (sRow A []) := by
  refine H.row re_row0 ⟨Nat.zero_le _, ?_, fun j x hx => nomatch hx⟩
  rw [sf_f, pk_us]
  rfl
/-- a row of one number -/
theorem r_tell (H : RR S A) (v : Int64) : ∃ S', f_X10_enters (ov (o_sf S 296 1 0) n) 296 v = some (ov S' n, ()) ∧ RR S' (sRow A [v]) ∧ RE S S' := by
  obtain ⟨S', g1, g2, g3⟩ := r_enters (n := n) (r_row0 H) (show (0 : Nat) < 80 by omega) v
  exact ⟨S', g1, g2, re_row0.tr g3⟩
theorem RR.rl (H : RR S A) : q_gI 9 1 (ov S n) 296 = some (nI (sR A).length) := by rw [rI1, H.2.2.1.2.1]
theorem RR.xl (H : RR S A) : q_gI 9 4 (ov S n) 296 = some (nI (sX A).length) := by rw [rI4, H.2.2.2.2.1]
end RS
/-! AGREEMENT -/
def xOK (f : q_H → Option (q_H × Int32)) (A : aS) (r : Int32) (A' : aS) : Prop := ∀ S n, CR S A → ∃ S', f (ov S n) = some (ov S' n, r) ∧ CR S' A' ∧ AG (fun b => b < 296) S S'
def rOK (f : q_H → Option (q_H × Int32)) (A : aS) (r : Int32) (A' : aS) : Prop := ∀ S n, RR S A → ∃ S', f (ov S n) = some (ov S' n, r) ∧ RR S' A' ∧ AG (fun b => 296 ≤ b ∧ b < 313) S S'
def AGR (T : Nat) (A : aS) (f g : q_H → Option (q_H × Int32)) : Prop := ∃ r A', xOK f A r A' ∧ rOK g A r A' ∧ OKA (T + 20) A'
theorem AGR.step {T : Nat} {A : aS} {f g : q_H → Option (q_H × Int32)} (h : AGR T A f g) {S : o_S} {n : Nat × Nat × Nat} (H1 : CR S A) (H2 : RR S A) : ∃ S1 S2 r A', f (ov S n) = some (ov S1 n, r) ∧ g (ov S1 n) = some (ov S2 n, r) ∧ CR S2 A' ∧ RR S2 A' ∧ OKA (T + 20) A' := by
  obtain ⟨r, A', h1, h2, h3⟩ := h
  obtain ⟨S1, a1, a2, a3⟩ := h1 S n H1
  obtain ⟨S2, b1, b2, b3⟩ := h2 S1 n (H2.agl a3 (fun b q => Or.inl q))
  exact ⟨S1, S2, r, A', a1, b1, a2.ag b3 (fun b q => Or.inr (Or.inr q.1)), b2, h3⟩
