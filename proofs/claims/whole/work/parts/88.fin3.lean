/-! PATHS THAT ARE READ 3 -/
section FS
variable {S : o_S} {n : Nat × Nat × Nat} {A : aS} {T : Nat} {E : Nat → Nat}
def chP (E : Nat → Nat) (m nm rk j : Nat) : Bool := mRb E m j && (decide (cN (E j) = nm) && decide (mRk E j = rk))
theorem ch_un (ti : TI E) {m nm rk a b : Nat} (ha : chP E m nm rk a = true) (hb : chP E m nm rk b = true) : a = b := by
  simp only [chP, Bool.and_eq_true, decide_eq_true_eq] at ha hb
  have h1 := rk_iff ti ha.1 hb.1 (by omega)
  have h2 := rk_iff ti hb.1 ha.1 (by omega)
  have h3 : E a = E b := by omega
  have ra := ha.1
  have rb := hb.1
  simp only [mRb, Bool.and_eq_true, decide_eq_true_eq] at ra rb
  have f1 := (ti a ra.1).2.1
  have f2 := (ti b rb.1).2.1
  rw [h3] at f1
  omega
theorem r_chL (h : TT S 0 E) (ti : TI E) (su : SU E) {m nm rk : Nat} (hm : m < 14) (hn : nm < 2 ^ 31) (hr : rk < 2 ^ 31) : ∀ d j fuel (v : Int32), j + d = 14 → 2 ≤ j → d < fuel → l_X10_child_6 fuel (ov S n) 296 (nI m) (nI nm) (nI rk) v (nI j) = some (ov S n, match mFind (chP E m nm rk) j d with
    | some k => nI k
    | none => v) := by
  intro d
  induction d with
  | zero =>
    intro j fuel v hj h2 hf
    obtain ⟨f, rfl⟩ : ∃ f, fuel = f + 1 := ⟨fuel - 1, by omega⟩
    show b_X10_child_6 _ _ _ _ _ _ _ _ = _
    unfold b_X10_child_6
    rw [if_pos (by rw [show (14 : Int32) = nI 14 from rfl, i_le (by omega) (by omega)]; omega)]
    rfl
  | succ d ih =>
    intro j fuel v hj h2 hf
    obtain ⟨f, rfl⟩ : ∃ f, fuel = f + 1 := ⟨fuel - 1, by omega⟩
    have i1 := ih (j + 1) f v (by omega) (by omega) (by omega)
    have i2 := ih (j + 1) f (nI j) (by omega) (by omega) (by omega)
    have hth : f_X10_isThere (ov S n) 296 0 (nI j) = some (ov S n, b2i (mTh E j)) := r_isThere (s := 0) h (by omega)
    have h0 : f_X10_its (ov S n) 296 0 (nI j) 0 = some (ov S n, eT (E j) 0) := r_its0 (s := 0) h (by omega)
    have h1 : f_X10_its (ov S n) 296 0 (nI j) 1 = some (ov S n, nI (cN (E j))) := r_its1 (s := 0) h (by omega)
    have n1 := cN_lt (E j)
    have r1 := mRk_lt E j
    show b_X10_child_6 _ _ _ _ _ _ _ _ = _
    unfold b_X10_child_6 b_X10_child_55 b_X10_child_56 b_X10_child_79 b_X10_child_81
    rw [if_neg (by rw [show (14 : Int32) = nI 14 from rfl, i_le (by omega) (by omega)]; omega), if_neg (nI_pos (by omega)), hth, bS]
    simp only [h0, h1, bS, nI_1, b2i_eq0]
    rw [show mFind (chP E m nm rk) j (d + 1) = if chP E m nm rk j then some j else mFind (chP E m nm rk) (j + 1) d from rfl]
    by_cases e : E j = 0
    · have e1 : mTh E j = false := by simp [mTh, e]; omega
      have e2 : chP E m nm rk j = false := by simp [chP, mRb, e]
      rw [e1, e2, if_pos rfl, if_pos trivial, if_neg (show ¬ false = true by decide)]
      exact i1
    · have e1 : mTh E j = true := by simp [mTh, e]
      have hrk : f_X10_rank (ov S n) 296 0 (nI j) = some (ov S n, nI (mRk E j)) := r_rank (s := 0) h ti su e
      rw [e1, if_neg (by decide)]
      simp only [eT_0p e (show m < 2 ^ 31 by omega), i_eq (show cN (E j) < 2 ^ 31 by omega) hn, hrk, bS, i_eq (show mRk E j < 2 ^ 31 by omega) hr]
      by_cases c1 : cP (E j) = m
      · by_cases c2 : cN (E j) = nm
        · by_cases c3 : mRk E j = rk
          · have e2 : chP E m nm rk j = true := by simp [chP, mRb, e, c1, c2, c3]
            rw [e2, if_pos c1, if_pos c2, if_neg (show ¬ (1 : Int32) = 0 by decide), if_pos c3, if_pos rfl, i2]
            cases q : mFind (chP E m nm rk) (j + 1) d with
            | none => rfl
            | some k =>
              obtain ⟨q1, q2, q3⟩ := find_in d (j + 1) k q
              have := ch_un ti q1 e2
              omega
          · have e2 : chP E m nm rk j = false := by simp [chP, c3]
            rw [e2, if_pos c1, if_pos c2, if_neg (show ¬ (1 : Int32) = 0 by decide), if_neg c3, if_neg (show ¬ false = true by decide)]
            exact i1
        · have e2 : chP E m nm rk j = false := by simp [chP, c2]
          rw [e2, if_pos c1, if_neg c2, if_pos trivial, if_neg (show ¬ false = true by decide)]
          exact i1
      · have e2 : chP E m nm rk j = false := by simp [chP, mRb, c1]
        rw [e2, if_neg c1, if_pos trivial, if_neg (show ¬ false = true by decide)]
        exact i1
def ndS (E : Nat → Nat) (o : Option Nat) (nm rk : Nat) : Option Nat := match o with
  | some m => chd E m nm rk
  | none => none
theorem r_child (h : TT S 0 E) (ti : TI E) (su : SU E) {o : Option Nat} {nm rk : Nat} (ho : ∀ m, o = some m → m < 14) (hn : nm < 2 ^ 31) (hr : rk < 2 ^ 31) : f_X10_child (ov S n) 296 (oI o) (nI nm) (nI rk) = some (ov S n, oI (ndS E o nm rk)) := by
  unfold f_X10_child b_X10_child_0
  rw [r_chk]
  cases o with
  | none =>
    obtain ⟨f, hf⟩ := q_FUe
    rw [hf]
    show b_X10_child_6 _ _ _ _ _ _ _ _ = _
    unfold b_X10_child_6
    rw [if_neg (by decide), if_pos (show oI none < 0 by decide)]
    rfl
  | some m =>
    refine (r_chL (n := n) h ti su (ho m rfl) hn hr 12 2 q_FU (-1) rfl (by omega) (q_FU_lt (by omega))).trans ?_
    show _ = some (ov S n, oI (mFind (chP E m nm rk) 2 12))
    cases mFind (chP E m nm rk) 2 12 with
    | none => rfl
    | some k => rfl
theorem r_fi246 (h : TT S 0 E) (ti : TI E) (su : SU E) {l : List (Nat × Nat)} (hl : l.length ≤ 80) (hb : ∀ x ∈ l, x.1 < 10 ∧ x.2 < 100) (ha : arS S l) : ∀ (rest pre : List (Nat × Nat)) (o : Option Nat) fuel, pre ++ rest = l → rest.length < fuel → (∀ m, o = some m → m < 14) → l_X10_finds_246 fuel (ov S n) 296 (oI o) (nI l.length) (nI pre.length) = some (ov S n, match ndF E o rest with
    | some m => nI m
    | none => -100) := by
  intro rest
  induction rest with
  | nil =>
    intro pre o fuel hp hf ho
    obtain ⟨f, rfl⟩ : ∃ f, fuel = f + 1 := ⟨fuel - 1, by omega⟩
    rw [List.append_nil] at hp
    subst hp
    show b_X10_finds_246 _ _ _ _ _ _ = _
    unfold b_X10_finds_246
    rw [if_pos (by rw [i_le (by omega) (by omega)]; omega)]
    cases o with
    | none => rw [if_neg (show ¬ 0 ≤ oI none by decide)]; rfl
    | some m =>
      have := ho m rfl
      rw [if_pos (show 0 ≤ oI (some m) from nI_pos' (by omega))]
      rfl
  | cons x rest ih =>
    intro pre o fuel hp hf ho
    obtain ⟨f, rfl⟩ : ∃ f, fuel = f + 1 := ⟨fuel - 1, by omega⟩
    have hlen : pre.length + (rest.length + 1) = l.length := by rw [← hp]; simp
    have hx : l[pre.length]? = some x := by rw [← hp]; simp
    obtain ⟨a1, a2⟩ := ha _ _ hx
    obtain ⟨b1, b2⟩ := hb x (List.mem_of_getElem? hx)
    simp only [List.length_cons] at hf
    have hch := r_child (n := n) h ti su (o := o) (nm := x.1) (rk := x.2) ho (by omega) (by omega)
    have := ih (pre ++ [x]) (ndS E o x.1 x.2) f (by rw [List.append_assoc]; exact hp) (by omega) (fun m hm => by
      cases o with
      | none => cases hm
      | some k => exact (chd_lt hm).1)
    rw [List.length_append] at this
    show b_X10_finds_246 _ _ _ _ _ _ = _
    unfold b_X10_finds_246
    rw [if_neg (by rw [i_le (by omega) (by omega)]; omega), rR20, bS, rnL (by omega), bS, rR21, bS, rkL' (by omega), bS, a1, a2, hch, bS, nI_1]
    refine this.trans ?_
    obtain ⟨nm, rk⟩ := x
    cases o with
    | none => rfl
    | some m => rfl
theorem pP_b {X : List Nat} : ∀ f p l, pP X f p = .inr l → (∀ x ∈ l, x.1 < 10 ∧ x.2 < 100) ∧ l.length ≤ X.length - p := by
  intro f
  induction f with
  | zero => intro p l h; cases h; exact ⟨fun x hx => (by cases hx), Nat.zero_le _⟩
  | succ f ih =>
    intro p l h
    unfold pP at h
    split at h
    · cases h; exact ⟨fun x hx => (by cases hx), Nat.zero_le _⟩
    · rename_i hp
      split at h
      · cases h
      · rename_i q nm rk he
        split at h
        · cases h
        · rename_i l' he'
          cases h
          obtain ⟨i1, i2⟩ := ih q l' he'
          have hq := stp_q he
          refine ⟨fun x hx => ?_, by simp only [List.length_cons]; omega⟩
          rcases List.mem_cons.mp hx with e | e
          · subst e; exact ⟨hq.2.2.1, hq.2.2.2⟩
          · exact i1 x e
def pz (X : List Nat) : Nat := if X[0]? = some 126 then 1 else 0
theorem pz_le (X : List Nat) : pz X ≤ 1 := by unfold pz; split <;> omega
theorem r_fi0 (H : RR S A) (x : Int32) : ∃ S1, f_X10_finds (ov S n) 296 x = l_X10_finds_52 q_FU (ov S1 n) 296 x (nI (pz (sX A))) 0 ∧ RR S1 (sTxt A []) ∧ RT S1 (sX A) (pz (sX A)) ∧ AG (fun b => b = 296) S S1 := by
  obtain ⟨S1, g1, g2, g3, g4⟩ := r_reads (n := n) (H.fld (k := 0) 0 (by omega) (by omega))
  have h80 := g3.1
  have ag1 := (AG_sf S 296 0 0).tr g4 (C := fun b => b = 296) (fun _ q => q) (fun _ q => q)
  have h39 : ∀ s : Nat, s ≤ 1 → b_X10_finds_39 (ov S1 n) 296 x (nI s) = l_X10_finds_52 q_FU (ov (o_sf S1 296 5 (nI s)) n) 296 x (nI s) 0 := by
    intro s hs
    unfold b_X10_finds_39
    rw [rI5, bS, g3.2.2.1, nI_add, Nat.zero_add, rP5, bS]
  refine ⟨o_sf S1 296 5 (nI (pz (sX A))), ?_, g2.fld _ (by omega) (by omega), g3.mv, ag1.tr (AG_sf _ _ _ _) (fun _ q => q) (fun _ q => q)⟩
  have h38 : b_X10_finds_38 (ov S1 n) 296 x = l_X10_finds_52 q_FU (ov (o_sf S1 296 5 (nI 0)) n) 296 x (nI 0) 0 := h39 0 (by omega)
  have h39' : b_X10_finds_39 (ov S1 n) 296 x 1 = l_X10_finds_52 q_FU (ov (o_sf S1 296 5 (nI 1)) n) 296 x (nI 1) 0 := h39 1 (by omega)
  unfold f_X10_finds b_X10_finds_0
  rw [r_chk, rP0, bS, g1, bS, rI5, bS, rI6, bS, g3.2.1, g3.2.2.1]
  by_cases e : (sX A).length ≤ 0
  · have ez : pz (sX A) = 0 := by unfold pz; rw [List.getElem?_eq_none e]; rfl
    rw [if_pos (by rw [i_le (by omega) (by omega)]; exact e), ez, h38]
  · have hx : (sX A)[0]? = some (sX A)[0] := List.getElem?_eq_getElem (by omega)
    obtain ⟨v1, v2⟩ := g3.2.2.2 0 _ hx
    rw [if_neg (by rw [i_le (by omega) (by omega)]; exact e), rR3, bS, bS, rtL (by omega), bS, v1]
    by_cases c : (sX A)[0] = 126
    · have ez : pz (sX A) = 1 := by unfold pz; rw [hx, c]; rfl
      rw [if_pos (by rw [c]; rfl), ez, h39']
    · have ez : pz (sX A) = 0 := by unfold pz; rw [hx, if_neg (fun q => c (Option.some.inj q))]
      rw [if_neg (by rw [show (126 : Int32) = nI 126 from rfl, i_eq (by omega) (by omega)]; exact c), ez, h38]
theorem RT.len0 {X : List Nat} {a : Nat} (_h : RT S X a) : arS S [] := fun _ _ q => nomatch q
theorem x_fi46 (H : CR S A) (r : Int32) : b_X9_finds_46 (ov S n) 0 r = some (ov (o_sf S 95 1 0) n, r) := by
  unfold b_X9_finds_46
  rw [xR5, bS, zCl, bS]
theorem x_wp (H : CR S A) : f_X9_wrongSignOfPath (ov S n) 0 = some (ov S n, match pP (sX A) 100 (pz (sX A)) with
    | .inl e => nI e
    | .inr _ => -1) := by
  have h80 := H.2.2.2.2.1
  have hp := pz_le (sX A)
  unfold f_X9_wrongSignOfPath b_X9_wrongSignOfPath_0
  rw [x_chk, x_first' H, bS]
  exact x_wpL (n := n) H 100 (pz (sX A)) 0 q_FU (by omega) (Nat.le_of_lt (q_FU_lt (by omega))) (by omega) (by omega)
theorem x_na (H : CR S A) {t : Nat} (h : TE S t E) {l : List (Nat × Nat)} (hP : pP (sX A) 100 (pz (sX A)) = .inr l) : f_X9_nodeAtPath (ov S n) 0 t = some (ov S n, match ndF E (some (pz (sX A))) l with
    | some m => nI m
    | none => -100) := by
  have h80 := H.2.2.2.2.1
  have hp := pz_le (sX A)
  have a0 : f_X6_at (ov S n) 95 0 = some (ov S n, tc (sX A) 0) := x_atT (n := n) H (p := 0) (by omega)
  have q0 : (tc (sX A) 0 = 126) = ((sX A)[0]? = some 126) := tc_eq H.x256 (k := 126) (by omega)
  have h18 : b_X9_nodeAtPath_18 (ov S n) 0 t (nI (pz (sX A))) = some (ov S n, match ndF E (some (pz (sX A))) l with
    | some m => nI m
    | none => -100) := by
    unfold b_X9_nodeAtPath_18
    rw [x_first' H, bS]
    exact x_naL (n := n) H h 100 (pz (sX A)) q_FU (some (pz (sX A))) l (by omega) (Nat.le_of_lt (q_FU_lt (by omega))) (by omega) (fun m hm => by cases hm; omega) hP
  unfold f_X9_nodeAtPath b_X9_nodeAtPath_0
  rw [x_chk, xR5, bS, a0, bS]
  simp only [q0]
  by_cases c : (sX A)[0]? = some 126
  · rw [if_pos c]
    have ez : pz (sX A) = 1 := by unfold pz; rw [if_pos c]
    rw [ez] at h18 ⊢
    exact h18
  · rw [if_neg c]
    have ez : pz (sX A) = 0 := by unfold pz; rw [if_neg c]
    rw [ez] at h18 ⊢
    exact h18
theorem ag_finds (h : OKA T A) (x : Int32) : AGR T A (fun h => f_X9_finds h 0 x) (fun h => f_X10_finds h 296 x) := by
  have hp := pz_le (sX A)
  have hf : 100 ≤ q_FU := Nat.le_of_lt (q_FU_lt (by omega))
  have agX : ∀ S : o_S, AG (fun b => b < 296) S (o_sf S 95 1 0) := fun S => (AG_sf S 95 1 0).mono (fun b q => by omega)
  have ag5 : ∀ {S S1 S2 : o_S}, AG (fun b => b = 296) S S1 → wZ S1 S2 → AG (fun b => 296 ≤ b ∧ b < 313) S S2 := fun a b => a.tr b.1.ag (fun b q => by omega) (fun b q => q)
  cases hP : pP (sX A) 100 (pz (sX A)) with
  | inl e =>
    have he := pP_e _ _ _ hP
    refine ⟨er e, sTxt A [], fun S n H => ⟨o_sf S 95 1 0, ?_, x_tx0 H, agX S⟩, fun S n H => ?_, h.txt (by omega) _⟩
    · have h80 := H.2.2.2.2.1
      have := x_wp (n := n) H
      rw [hP] at this
      have : f_X9_wrongSignOfPath (ov S n) 0 = some (ov S n, nI e) := this
      show f_X9_finds _ _ _ = _
      unfold f_X9_finds b_X9_finds_0
      rw [x_chk, this, bS, if_neg (nI_pos (by omega)), x_fi46 H]
      rfl
    · obtain ⟨S1, g1, g2, g3, g4⟩ := r_fi0 (n := n) H x
      have h80 := g3.1
      obtain ⟨k1, -⟩ := r_fi52 (n := n) x (nI (pz (sX A))) 100 (pz (sX A)) q_FU S1 [] (by omega) hf (by simp; omega) (by omega) g3 g3.len0
      obtain ⟨S2, l1, l2⟩ := k1 e hP
      exact ⟨S2, g1.trans l1, l2.rr g2, ag5 g4 l2⟩
  | inr l =>
    obtain ⟨b1, b2⟩ := pP_b _ _ _ hP
    by_cases e : inR 0 3 x = true
    · obtain ⟨c, -, hc, rfl⟩ := inR_t e (by omega)
      have ti := h.1.ti hc
      have su := h.1.su hc
      refine ⟨(match ndF (tr (sW A) c) (some (pz (sX A))) l with
        | some m => nI m
        | none => -100), sTxt A [], fun S n H => ⟨o_sf S 95 1 0, ?_, x_tx0 H, agX S⟩, fun S n H => ?_, h.txt (by omega) _⟩
      · have := x_wp (n := n) H
        rw [hP] at this
        have : f_X9_wrongSignOfPath (ov S n) 0 = some (ov S n, -1) := this
        show f_X9_finds _ _ _ = _
        unfold f_X9_finds b_X9_finds_0
        rw [x_chk, this, bS, if_pos (show (-1 : Int32) < 0 by decide), x_isCopy, bS, e, if_neg (show ¬ b2i true = 0 by decide), xR0, bS, u_R0, bS, u_cp hc, bS, u_R5 hc, bS, x_na H (H.te hc) hP, bS, x_fi46 H]
      · obtain ⟨S1, g1, g2, g3, g4⟩ := r_fi0 (n := n) H (nI c)
        have h80 := g3.1
        obtain ⟨-, k1⟩ := r_fi52 (n := n) (nI c) (nI (pz (sX A))) 100 (pz (sX A)) q_FU S1 [] (by omega) hf (by simp; omega) (by omega) g3 g3.len0
        obtain ⟨S2, l1, l2, l3⟩ := k1 l hP
        rw [List.nil_append] at l1 l3
        have H2 := l2.rr g2
        obtain ⟨S3, m1, m2, m3, m4, m5, m6, m7, m8⟩ := r_laysF (n := n) (s := 0) h.1 H2.1 hc (by omega)
        have z3 : wZ S2 S3 := ⟨m5.z, m6⟩
        have l3' : arS S3 l := fun i y hy => by
          rw [m5.1.I (by omega), m5.1.I (by omega)]
          exact l3 i y hy
        have m1 : f_X10_lays (ov S2 n) 296 0 (nI c) = some (ov S3 n, ()) := m1
        have fin := r_fi246 (n := n) m3 ti su (l := l) (by omega) b1 l3' l [] (some (pz (sX A))) q_FU rfl (q_FU_lt (by omega)) (fun m hm => by cases hm; omega)
        refine ⟨S3, ?_, z3.rr H2, ag5 g4 (l2.tr z3)⟩
        show f_X10_finds _ _ _ = _
        rw [g1]
        refine l1.trans ?_
        rw [r_isCopy, bS, e, if_neg (show ¬ b2i true = 0 by decide), m1, bS]
        exact fin
    · have e' : inR 0 3 x = false := by simpa using e
      refine ⟨-101, sTxt A [], fun S n H => ⟨o_sf S 95 1 0, ?_, x_tx0 H, agX S⟩, fun S n H => ?_, h.txt (by omega) _⟩
      · have := x_wp (n := n) H
        rw [hP] at this
        have : f_X9_wrongSignOfPath (ov S n) 0 = some (ov S n, -1) := this
        show f_X9_finds _ _ _ = _
        unfold f_X9_finds b_X9_finds_0
        rw [x_chk, this, bS, if_pos (show (-1 : Int32) < 0 by decide), x_isCopy, bS, e', if_pos (show b2i false = 0 by decide), x_fi46 H]
      · obtain ⟨S1, g1, g2, g3, g4⟩ := r_fi0 (n := n) H x
        have h80 := g3.1
        obtain ⟨-, k1⟩ := r_fi52 (n := n) x (nI (pz (sX A))) 100 (pz (sX A)) q_FU S1 [] (by omega) hf (by simp; omega) (by omega) g3 g3.len0
        obtain ⟨S2, l1, l2, l3⟩ := k1 l hP
        refine ⟨S2, ?_, l2.rr g2, ag5 g4 l2⟩
        show f_X10_finds _ _ _ = _
        rw [g1]
        refine l1.trans ?_
        rw [r_isCopy, bS, e', if_pos (show b2i false = 0 by decide)]
end FS
