/-! THE CLASS'S ACTS: copies of worlds, all letters at once -/
theorem o_cpI {S : o_S} {n : Nat × Nat × Nat} {a0 a n0 n1 sp dp c : Nat} (h0 : kI 0 n0 a0) (h1 : kI 0 n1 a) (hs : sp + c ≤ n0) (hd : dp + c ≤ n1) (hn0 : n0 < 2 ^ 31) (hn1 : n1 < 2 ^ 31) : q_cpI (ov S n) a0 (nI sp) a (nI dp) (nI c) = some (ov (o_sI S a (va_cpy (S.2.1 a0) (S.2.1 a) sp dp c)) n) := by
  unfold q_cpI
  rw [ov_at, ov_at, h0, h1]
  have e1 := nI_clamp (n := sp) (by omega)
  have e2 := nI_clamp (n := dp) (by omega)
  have e3 := nI_clamp (n := c) (by omega)
  have p1 := nI_pos (n := sp) (by omega)
  have p2 := nI_pos (n := dp) (by omega)
  have p3 := nI_pos (n := c) (by omega)
  simp only [o_I, e1, e2, e3, p1, p2, p3, hs, hd, not_false_eq_true, and_self, if_true]
  refine congrArg some (o_put ?_ (fun b hb => ⟨rfl, if_neg hb, rfl⟩))
  rw [h1, sI_I]
  rfl
theorem SE.nil {S : o_S} {a m : Nat} (k : kSer m a) (hm : m < 1000) (h : S.1 a 1 = 0) : SE S a m [] := ⟨k, hm, by simp, h, fun j x hx => by simp at hx⟩
theorem fw_add (g : Nat → Nat) : ∀ d j a, fw (fun i a => a + g i) a j d = a + fw (fun i a => a + g i) 0 j d := by
  intro d
  induction d with
  | zero => intro j a; rfl
  | succ d ih =>
    intro j a
    show fw _ (a + g j) (j + 1) d = a + fw _ (0 + g j) (j + 1) d
    rw [ih, ih (j + 1) (0 + g j)]
    omega
theorem mInsA_len : ∀ (ms l : List Nat), (mInsA ms l).length = l.length + ms.length := by
  intro ms
  induction ms with
  | nil => intro l; rfl
  | cons k ms ih =>
    intro l
    show (mInsA ms (mIns k l)).length = _
    rw [ih, mIns_len, List.length_cons]
    omega
theorem mMv_len (l : List Nat) : (mMv l).length ≤ l.length := List.length_filter_le _ _
def aWf (W : aW) (c : Nat) : Nat := fw (fun d a => a + (wY W (3 * d + c)).length) 0 0 3
def aMw (W : aW) (c : Nat) : Nat := fw (fun d a => a + (wY W (3 * d + c)).countP mHm) 0 0 3
/-- all letters of one way are taken -/
def aTk1 (W : aW) (c d : Nat) : aW := match (wY W (3 * d + c)).getLast? with
  | none => W
  | some k => aLog (aHear W d c k []) c (mInsA (mMv (wY W (3 * d + c))) (wL W c))
def dTa (W : aW) (c : Nat) : aW := fw (fun d W => aTk1 W c d) W 0 3
def dGa (W : aW) (c : Nat) : Int32 × aW := if aWf W c = 0 then (-2, W) else if 20 < (wL W c).length + aMw W c then (-3, W) else (nI (aWf W c), dTa W c)
def mMin (m : Nat) (y : List Nat) : Nat := (mMv y).foldl min m
def aLst (W : aW) (c : Nat) : Nat := fw (fun d m => mMin m (wY W (3 * d + c))) (2 ^ 62) 0 3
/-- how many are undone if all come at once -/
def dUn (W : aW) (c : Nat) : Nat := fw (fun d a => (mMv (wY W (3 * d + c))).foldl (fun a k => max a ((wL W c).countP (mLs k))) a) 0 0 3
section CB
variable {n : Nat × Nat × Nat} {w : Nat} {W : aW} {T : Nat}
theorem x_cpyC {S : o_S} {a b c c' t : Nat} {h : Nat → Nat} {l : List Nat} {B : Nat → Nat} (ka : kCopy a) (kb : kCopy b) (hd : a + 8 ≤ b ∨ b + 8 ≤ a) (h0 : S.1 a 0 = nI c) (H : CC S b c' t h l B) : ∃ S', f_X0_copyFrom (ov S n) a b = some (ov S' n, ()) ∧ CC S' a c t h l B ∧ AG (fun x => a ≤ x ∧ x < a + 8) S S' := by
  have A1 := AG_sf S a 1 (nI t)
  have A2 := AG_sI (o_sf S a 1 (nI t)) (a + 1) (va_cpy ((o_sf S a 1 (nI t)).2.1 (b + 1)) ((o_sf S a 1 (nI t)).2.1 (a + 1)) 0 0 3)
  have hcp : q_cpI (ov (o_sf S a 1 (nI t)) n) (b + 1) 0 (a + 1) 0 (nI 3) = some (ov (o_sI (o_sf S a 1 (nI t)) (a + 1) (va_cpy ((o_sf S a 1 (nI t)).2.1 (b + 1)) ((o_sf S a 1 (nI t)).2.1 (a + 1)) 0 0 3)) n) := o_cpI (sp := 0) (dp := 0) kb.2.1 ka.2.1 (by omega) (by omega) (by omega) (by omega)
  have hI2 : ∀ d, d < 3 → (o_sI (o_sf S a 1 (nI t)) (a + 1) (va_cpy ((o_sf S a 1 (nI t)).2.1 (b + 1)) ((o_sf S a 1 (nI t)).2.1 (a + 1)) 0 0 3)).2.1 (a + 1) d = nI (h d) := by
    intro d hd3
    rw [sI_I, cpy_0 hd3, s_F2]
    exact H.1.2.1 d hd3
  have hf2 : (o_sI (o_sf S a 1 (nI t)) (a + 1) (va_cpy ((o_sf S a 1 (nI t)).2.1 (b + 1)) ((o_sf S a 1 (nI t)).2.1 (a + 1)) 0 0 3)).1 a = upd (S.1 a) 1 (nI t) := by rw [s_I1, sf_f]
  generalize hS2 : o_sI (o_sf S a 1 (nI t)) (a + 1) (va_cpy ((o_sf S a 1 (nI t)).2.1 (b + 1)) ((o_sf S a 1 (nI t)).2.1 (a + 1)) 0 0 3) = S2 at A2 hcp hI2 hf2
  have H2 : CC S2 b c' t h l B := (H.ag A1 (by omega)).ag A2 (by omega)
  obtain ⟨S3, g1, g2, g3⟩ := s_copyFrom (n := n) (a := a + 2) ka.2.2.1 (by omega) H2.1.2.2.1 (by omega) H2.1.2.2.1.2.2.1
  have H3 := H2.ag g3 (by omega)
  obtain ⟨S4, k1, k2, k3⟩ := t_copyFrom (n := n) (t := a + 4) ka.2.2.2.1 H3.1.2.2.2
  have H4 := H3.ag k3 (by omega)
  obtain ⟨S5, p1, p2, p3⟩ := t_copyFrom (n := n) (t := a + 6) ka.2.2.2.2 H4.2.2
  have H5 := H4.ag p3 (by omega)
  have A6 := AG_sf S5 a 6 (nI (mVds 1000 l 0 B 0))
  have e5 : S5.1 a = upd (S.1 a) 1 (nI t) := by rw [p3.f (by omega), k3.f (by omega), g3.f (by omega), hf2]
  refine ⟨o_sf S5 a 6 (nI (mVds 1000 l 0 B 0)), ?_, ⟨⟨⟨?_, ?_⟩, fun d hd3 => ?_, ?_, ?_⟩, ?_, ?_⟩, ?_⟩
  · unfold f_X0_copyFrom b_X0_copyFrom_0
    rw [cp_chk ka]
    simp only [cp_I1 kb, H.1.1.2, bS, cp_P1 ka, cp_R2 ka, cp_R2 kb, cp_ln ka, hcp, cp_R3 ka, cp_R3 kb, g1, cp_R4 ka, cp_R4 kb, k1, cp_R5 ka, cp_R5 kb, p1, cp_I6 kb, H5.2.1, cp_P6 ka]
  · rw [sf_f, pk_un (by omega), e5, pk_un (by omega)]; exact h0
  · rw [sf_f, pk_un (by omega), e5, pk_us]
  · rw [s_F2, p3.I (by omega), k3.I (by omega), g3.I (by omega)]; exact hI2 d hd3
  · exact ((g2.ag k3 (by omega) (by omega)).ag p3 (by omega) (by omega)).ag A6 (by omega) (by omega)
  · exact (k2.ag p3 (by omega)).ag A6 (by omega)
  · rw [sf_f, pk_us]
  · exact p2.ag A6 (by omega)
  · have B2 : AG (fun x => a ≤ x ∧ x < a + 8) S S2 := A1.tr A2 (fun _ q => by omega) (fun _ q => by omega)
    have B3 : AG (fun x => a ≤ x ∧ x < a + 8) S S3 := B2.tr g3 (fun _ q => q) (fun _ q => by omega)
    have B4 : AG (fun x => a ≤ x ∧ x < a + 8) S S4 := B3.tr k3 (fun _ q => q) (fun _ q => by omega)
    have B5 : AG (fun x => a ≤ x ∧ x < a + 8) S S5 := B4.tr p3 (fun _ q => q) (fun _ q => by omega)
    exact B5.tr A6 (fun _ q => q) (fun _ q => by omega)
theorem x_cw2 {w' : Nat} (kw : kWorld w) (kw' : kWorld w') (hd : w + 45 ≤ w' ∨ w' + 45 ≤ w) {y : Nat → List Nat} : ∀ d j fuel (S : o_S), j + d = 9 → d < fuel → (∀ i, i < 9 → SE S (w' + 27 + 2 * i) 6 (y i)) → (∀ i, i < j → SE S (w + 27 + 2 * i) 6 (y i)) → ∃ S', l_X8_copyFrom_30 fuel (ov S n) w w' (nI j) = some (ov S' n, ()) ∧ (∀ i, i < 9 → SE S' (w + 27 + 2 * i) 6 (y i)) ∧ AG (fun b => w + 27 ≤ b ∧ b < w + 45) S S' := by
  intro d
  induction d with
  | zero =>
    intro j fuel S hj hf h1 h2
    obtain ⟨f, rfl⟩ : ∃ f, fuel = f + 1 := ⟨fuel - 1, by omega⟩
    refine ⟨S, ?_, fun i hi => h2 i (by omega), AG.rf⟩
    show b_X8_copyFrom_30 _ _ _ _ _ = _
    unfold b_X8_copyFrom_30
    simp (disch := omega) only [w_R1 kw, w_ln kw, bS, i_le, show 9 ≤ j by omega, if_true]
  | succ d ih =>
    intro j fuel S hj hf h1 h2
    obtain ⟨f, rfl⟩ : ∃ f, fuel = f + 1 := ⟨fuel - 1, by omega⟩
    have hs := h1 j (by omega)
    obtain ⟨S1, g1, g2, g3⟩ := s_copyFrom (n := n) (a := w + 27 + 2 * j) (kw.2.2.2.2 j (by omega)) (by omega) hs (by omega) hs.2.2.1
    obtain ⟨S', k1, k2, k3⟩ := ih (j + 1) f S1 (by omega) (by omega) (fun i hi => (h1 i hi).ag g3 (by omega) (by omega)) (fun i hi => by
      by_cases e : i = j
      · subst e; exact g2
      · exact (h2 i (by omega)).ag g3 (by omega) (by omega))
    refine ⟨S', ?_, k2, g3.tr k3 (fun _ q => by omega) (fun _ q => q)⟩
    show b_X8_copyFrom_30 _ _ _ _ _ = _
    unfold b_X8_copyFrom_30
    simp (disch := omega) only [w_R1 kw, w_R1 kw', w_ln kw, bS, i_le, show ¬ 9 ≤ j by omega, if_false, w_wy kw, w_wy kw', g1, nI_1]
    exact k1
theorem x_cw1 {w' : Nat} (kw : kWorld w) (hd : w + 45 ≤ w' ∨ w' + 45 ≤ w) : ∀ d j fuel (S : o_S), j + d = 3 → d < fuel → CW S w' W → (∀ c, c < 3 → S.1 (w + 3 + 8 * c) 0 = nI c) → (∀ c, c < j → CC S (w + 3 + 8 * c) c (wT W c) (wH W c) (wL W c) (wB W c)) → ∃ S', l_X8_copyFrom_2 fuel (ov S n) w w' (nI j) = l_X8_copyFrom_30 q_FU (ov S' n) w w' 0 ∧ (∀ c, c < 3 → CC S' (w + 3 + 8 * c) c (wT W c) (wH W c) (wL W c) (wB W c)) ∧ AG (fun b => w + 3 ≤ b ∧ b < w + 27) S S' := by
  intro d
  induction d with
  | zero =>
    intro j fuel S hj hf h0 h1 h2
    obtain ⟨f, rfl⟩ : ∃ f, fuel = f + 1 := ⟨fuel - 1, by omega⟩
    refine ⟨S, ?_, fun i hi => h2 i (by omega), AG.rf⟩
    show b_X8_copyFrom_2 _ _ _ _ _ = _
    unfold b_X8_copyFrom_2
    simp (disch := omega) only [j3, i_le, show 3 ≤ j by omega, if_true]
  | succ d ih =>
    intro j fuel S hj hf h0 h1 h2
    obtain ⟨f, rfl⟩ : ∃ f, fuel = f + 1 := ⟨fuel - 1, by omega⟩
    have hj3 : j < 3 := by omega
    obtain ⟨S1, g1, g2, g3⟩ := x_cpyC (n := n) (kw.2.2.2.1 j hj3) (h0.k hj3) (by omega) (h1 j hj3) (h0.2.1 j hj3)
    obtain ⟨S', k1, k2, k3⟩ := ih (j + 1) f S1 (by omega) (by omega) (h0.ag g3 (by omega)) (fun c hc => by
      by_cases e : c = j
      · subst e; exact g2.1.1.1
      · rw [g3.f (by omega)]; exact h1 c hc) (fun c hc => by
      by_cases e : c = j
      · subst e; exact g2
      · exact (h2 c (by omega)).ag g3 (by omega))
    refine ⟨S', ?_, k2, g3.tr k3 (fun _ q => by omega) (fun _ q => q)⟩
    show b_X8_copyFrom_2 _ _ _ _ _ = _
    unfold b_X8_copyFrom_2
    simp (disch := omega) only [j3, i_le, show ¬ 3 ≤ j by omega, if_false, w_R0 kw, w_R0 h0.1, bS, w_cp kw, w_cp h0.1, g1, nI_1]
    exact k1
/-- the class's world becomes another -/
theorem x_cpyW {S : o_S} {w' : Nat} (kw : kWorld w) (H : CW S w' W) (hd : w + 45 ≤ w' ∨ w' + 45 ≤ w) (hN : ∀ c, c < 3 → S.1 (w + 3 + 8 * c) 0 = nI c) : ∃ S', f_X8_copyFrom (ov S n) w w' = some (ov S' n, ()) ∧ CW S' w W ∧ AG (fun b => w ≤ b ∧ b < w + 45) S S' := by
  obtain ⟨S1, g1, g2, g3⟩ := x_cw1 (n := n) kw hd 3 0 q_FU S (by omega) (q_FU_lt (by omega)) H hN (fun c hc => by omega)
  obtain ⟨S2, k1, k2, k3⟩ := x_cw2 (n := n) kw H.1 hd 9 0 q_FU S1 (by omega) (q_FU_lt (by omega)) (fun i hi => (H.2.2 i hi).ag g3 (by omega) (by omega)) (fun i hi => by omega)
  refine ⟨S2, ?_, ⟨kw, fun c hc => (g2 c hc).ag k3 (by omega), k2⟩, g3.tr k3 (fun _ q => by omega) (fun _ q => by omega)⟩
  unfold f_X8_copyFrom b_X8_copyFrom_0
  rw [w_chk kw]
  exact g1.trans k1
theorem x_waitingFor {S : o_S} (H : CW S w W) {c : Nat} (hc : c < 3) : f_X8_waitingFor (ov S n) w (nI c) = some (ov S n, nI (aWf W c)) := by
  unfold f_X8_waitingFor b_X8_waitingFor_0
  rw [w_chk H.1]
  refine fw_loop (fun fuel a j => l_X8_waitingFor_4 fuel (ov S n) w (nI c) (nI a) (nI j)) (fun d a => a + (wY W (3 * d + c)).length) (fun a => (ov S n, nI a)) (fun _ => True) 0 3 (fun fuel a _ => rfl) (fun fuel a j _ h1 h2 => ⟨trivial, ?_⟩) 3 0 q_FU 0 trivial (by omega) (by omega) (q_FU_lt (by omega))
  show b_X8_waitingFor_4 _ _ _ _ _ _ = _
  unfold b_X8_waitingFor_4
  simp (disch := omega) only [j3, i_le, show ¬ 3 ≤ j by omega, if_false, w_way H.1 h2 hc, bS, s_gI (H.2.2 (3 * j + c) (by omega)), nI_add, nI_1]
theorem x_waiting {S : o_S} (H : CW S w W) : f_X8_waiting (ov S n) w = some (ov S n, nI (aWf W 0 + aWf W 1 + aWf W 2)) := by
  unfold f_X8_waiting b_X8_waiting_0
  have h0 := x_waitingFor (n := n) H (c := 0) (by omega)
  have h1 := x_waitingFor (n := n) H (c := 1) (by omega)
  have h2 := x_waitingFor (n := n) H (c := 2) (by omega)
  have h0 : f_X8_waitingFor (ov S n) w 0 = some (ov S n, nI (aWf W 0)) := h0
  have h1 : f_X8_waitingFor (ov S n) w 1 = some (ov S n, nI (aWf W 1)) := h1
  have h2 : f_X8_waitingFor (ov S n) w 2 = some (ov S n, nI (aWf W 2)) := h2
  rw [w_chk H.1, h0, bS, h1, bS, h2, bS, nI_add, nI_add]
theorem x_latest {S : o_S} (H : CW S w W) (hT : ∀ c, c < 3 → wT W c < 2 ^ 31) : f_X8_latestTime (ov S n) w = some (ov S n, nI (max (wT W 0) (max (wT W 1) (wT W 2)))) := by
  have c0 : q_lR 4 (ov S n) (w + 1) 0 = some (w + 3 + 8 * 0) := w_cp H.1 (c := 0) (by omega)
  have c1 : q_lR 4 (ov S n) (w + 1) 1 = some (w + 3 + 8 * 1) := w_cp H.1 (c := 1) (by omega)
  have c2 : q_lR 4 (ov S n) (w + 1) 2 = some (w + 3 + 8 * 2) := w_cp H.1 (c := 2) (by omega)
  have t0 := hT 0 (by omega)
  have t1 := hT 1 (by omega)
  have t2 := hT 2 (by omega)
  unfold f_X8_latestTime b_X8_latestTime_0
  rw [w_chk H.1]
  simp only [w_R0 H.1, bS, c0, c1, c2, cp_I1 (H.k (c := 0) (by omega)), cp_I1 (H.k (c := 1) (by omega)), cp_I1 (H.k (c := 2) (by omega)), (H.2.1 0 (by omega)).1.1.2, (H.2.1 1 (by omega)).1.1.2, (H.2.1 2 (by omega)).1.1.2, i_max t1 t2, i_max t0 (show max (wT W 1) (wT W 2) < 2 ^ 31 by omega)]
/-- a world whose copy c has no tree now -/
def CPW (S : o_S) (w c : Nat) (W : aW) : Prop := kWorld w ∧ (∀ d, d < 3 → d ≠ c → CC S (w + 3 + 8 * d) d (wT W d) (wH W d) (wL W d) (wB W d)) ∧ CP S (w + 3 + 8 * c) c (wT W c) (wH W c) (wL W c) (wB W c) ∧ ∀ i, i < 9 → SE S (w + 27 + 2 * i) 6 (wY W i)
theorem s_cl {S : o_S} {m a : Nat} (h : kSer m a) : f_X5_clear (ov S n) a = some (ov (o_sf S a 1 0) n, ()) := by
  unfold f_X5_clear b_X5_clear_0
  rw [o_chk h.1, s_pf h, bS]
theorem x_tkL {c : Nat} (hc : c < 3) : ∀ d j fuel (S : o_S) (W : aW), j + d = 3 → d < fuel → CPW S w c W → wT W c < 2 ^ 31 → (wL W c).length + fw (fun d a => a + (wY W (3 * d + c)).length) 0 j d ≤ 32 → ∃ S', l_X8_takeAll_9 fuel (ov S n) w (nI c) (w + 3 + 8 * c) (nI j) = some (ov S' n, ()) ∧ CW S' w (fw (fun d W => aTk1 W c d) W j d) ∧ AG (fun b => w ≤ b ∧ b < w + 45) S S' := by
  intro d
  induction d with
  | zero =>
    intro j fuel S W hj hf H hT hl
    obtain ⟨f, rfl⟩ : ∃ f, fuel = f + 1 := ⟨fuel - 1, by omega⟩
    have kc := H.1.2.2.2.1 c hc
    obtain ⟨S1, g1, g2, g3⟩ := x_reb (n := n) kc H.2.2.1
    refine ⟨_, ?_, ⟨H.1, fun d hd => ?_, fun i hi => (H.2.2.2 i hi).ag g3 (by omega) (by omega)⟩, g3.mono (fun b q => by omega)⟩
    · show b_X8_takeAll_9 _ _ _ _ _ _ = _
      unfold b_X8_takeAll_9
      simp (disch := omega) only [j3, i_le, show 3 ≤ j by omega, if_true, cp_R5 kc, cp_R4 kc, cp_R3 kc, bS, g1, cp_P6 kc]
    · by_cases e : d = c
      · subst e; exact g2
      · exact (H.2.1 d hd e).ag g3 (by omega)
  | succ d ih =>
    intro j fuel S W hj hf H hT hl
    obtain ⟨f, rfl⟩ : ∃ f, fuel = f + 1 := ⟨fuel - 1, by omega⟩
    have kc := H.1.2.2.2.1 c hc
    have hj3 : j < 3 := by omega
    have HY := H.2.2.2 (3 * j + c) (by omega)
    have hyl := HY.2.2.1
    have hl' : (wL W c).length + ((wY W (3 * j + c)).length + fw (fun d a => a + (wY W (3 * d + c)).length) 0 (j + 1) d) ≤ 32 := by
      have e : fw (fun d a => a + (wY W (3 * d + c)).length) 0 j (d + 1) = fw (fun d a => a + (wY W (3 * d + c)).length) (0 + (wY W (3 * j + c)).length) (j + 1) d := rfl
      rw [e, fw_add, Nat.zero_add] at hl
      exact hl
    show ∃ S', _ ∧ CW S' w (fw (fun d W => aTk1 W c d) (aTk1 W c j) (j + 1) d) ∧ _
    cases hg : (wY W (3 * j + c)).getLast? with
    | none =>
      have hy : wY W (3 * j + c) = [] := List.getLast?_eq_none_iff.mp hg
      have e1 : aTk1 W c j = W := by unfold aTk1; rw [hg]
      rw [e1]
      rw [hy] at HY
      obtain ⟨S', g1, g2, g3⟩ := ih (j + 1) f S W (by omega) (by omega) H hT (by omega)
      refine ⟨S', ?_, g2, g3⟩
      show b_X8_takeAll_9 _ _ _ _ _ _ = _
      unfold b_X8_takeAll_9 b_X8_takeAll_66
      have z0 : nI ([] : List Nat).length ≤ 0 := by decide
      simp (disch := omega) only [j3, i_le, show ¬ 3 ≤ j by omega, if_false, w_way H.1 hj3 hc, bS, s_gI HY, z0, if_true, nI_1]
      exact g1
    | some k =>
      have hne : wY W (3 * j + c) ≠ [] := fun e => by rw [e] at hg; cases hg
      have hpos : 0 < (wY W (3 * j + c)).length := List.length_pos_iff.mpr hne
      have hk : k < 2 ^ 31 := HY.mem (List.mem_of_getLast? hg)
      have hkT := cT_lt hk
      have e1 : aTk1 W c j = aLog (aHear W j c k []) c (mInsA (mMv (wY W (3 * j + c))) (wL W c)) := by unfold aTk1; rw [hg]
      have hat : f_X5_at (ov S n) (w + 27 + 2 * (3 * j + c)) (nI ((wY W (3 * j + c)).length - 1)) = some (ov S n, lN k) := by
        rw [s_at HY (by omega), List.getD_eq_getElem?_getD, ← List.getLast?_eq_getElem?, hg]
        rfl
      obtain ⟨S1, k1, k2, k3, k4⟩ := x_hear (n := n) kc H.2.2.1 hj3 hk hT
      have HY1 := HY.ag k4 (by omega) (by omega)
      obtain ⟨S2, p1, p2, p3⟩ := s_insertMovesOf (n := n) k2.2.2.1 HY1 ⟨by omega, by omega, by omega⟩ (Nat.le_refl _) (by omega)
      rw [List.take_length] at p2
      have A3 := AG_sf S2 (w + 27 + 2 * (3 * j + c)) 1 0
      have AA : AG (fun b => w + 3 + 8 * c ≤ b ∧ b < w + 3 + 8 * c + 8 ∨ b = w + 27 + 2 * (3 * j + c)) S (o_sf S2 (w + 27 + 2 * (3 * j + c)) 1 0) := (k4.tr p3 (C := fun b => w + 3 + 8 * c ≤ b ∧ b < w + 3 + 8 * c + 8) (fun _ q => by omega) (fun _ q => by omega)).tr A3 (fun _ q => Or.inl q) (fun _ q => Or.inr q)
      have hml := mMv_len (wY W (3 * j + c))
      have hW' : CPW (o_sf S2 (w + 27 + 2 * (3 * j + c)) 1 0) w c (aTk1 W c j) := by
        rw [e1]
        refine ⟨H.1, fun d hd hne => ?_, ?_, fun i hi => ?_⟩
        · rw [show wT (aLog (aHear W j c k []) c (mInsA (mMv (wY W (3 * j + c))) (wL W c))) d = wT W d from fset_n _ _ hne, show wH (aLog (aHear W j c k []) c (mInsA (mMv (wY W (3 * j + c))) (wL W c))) d = wH W d from fset_n _ _ hne, show wL (aLog (aHear W j c k []) c (mInsA (mMv (wY W (3 * j + c))) (wL W c))) d = wL W d from fset_n _ _ hne]
          exact (H.2.1 d hd hne).ag AA (by omega)
        · rw [show wT (aLog (aHear W j c k []) c (mInsA (mMv (wY W (3 * j + c))) (wL W c))) c = max (wT W c) (cT k) from fset_s _ _ _, show wH (aLog (aHear W j c k []) c (mInsA (mMv (wY W (3 * j + c))) (wL W c))) c = fset (wH W c) j (cT k) from fset_s _ _ _, show wL (aLog (aHear W j c k []) c (mInsA (mMv (wY W (3 * j + c))) (wL W c))) c = mInsA (mMv (wY W (3 * j + c))) (wL W c) from fset_s _ _ _]
          refine ⟨⟨?_, ?_⟩, fun d hd => ?_, p2.ag A3 (by omega) (by omega), (k2.2.2.2.ag p3 (by omega)).ag A3 (by omega)⟩
          · rw [A3.f (by omega), p3.f (by omega)]; exact k2.1.1
          · rw [A3.f (by omega), p3.f (by omega)]; exact k2.1.2
          · rw [A3.I (by omega), p3.I (by omega)]; exact k2.2.1 d hd
        · by_cases e : i = 3 * j + c
          · subst e
            rw [show wY (aLog (aHear W j c k []) c (mInsA (mMv (wY W (3 * j + c))) (wL W c))) (3 * j + c) = [] from fset_s _ _ _]
            exact SE.nil HY.1 (by omega) (by rw [sf_f, pk_us])
          · rw [show wY (aLog (aHear W j c k []) c (mInsA (mMv (wY W (3 * j + c))) (wL W c))) i = wY W i from fset_n _ _ e]
            exact (H.2.2.2 i hi).ag AA (by omega) (by omega)
      have hlen : (wL (aTk1 W c j) c).length + fw (fun d a => a + (wY (aTk1 W c j) (3 * d + c)).length) 0 (j + 1) d ≤ 32 := by
        rw [e1, show wL (aLog (aHear W j c k []) c (mInsA (mMv (wY W (3 * j + c))) (wL W c))) c = mInsA (mMv (wY W (3 * j + c))) (wL W c) from fset_s _ _ _, mInsA_len]
        have : fw (fun d a => a + (wY (aLog (aHear W j c k []) c (mInsA (mMv (wY W (3 * j + c))) (wL W c))) (3 * d + c)).length) 0 (j + 1) d = fw (fun d a => a + (wY W (3 * d + c)).length) 0 (j + 1) d := fw_congr _ _ _ (fun i b h1 h2 => by
          rw [show wY (aLog (aHear W j c k []) c (mInsA (mMv (wY W (3 * j + c))) (wL W c))) (3 * i + c) = wY W (3 * i + c) from fset_n _ _ (by omega)])
        rw [this]
        omega
      obtain ⟨S', g1, g2, g3⟩ := ih (j + 1) f _ (aTk1 W c j) (by omega) (by omega) hW' (by
        rw [e1, show wT (aLog (aHear W j c k []) c (mInsA (mMv (wY W (3 * j + c))) (wL W c))) c = max (wT W c) (cT k) from fset_s _ _ _]
        omega) hlen
      refine ⟨S', ?_, g2, AA.tr g3 (fun _ q => by omega) (fun _ q => q)⟩
      show b_X8_takeAll_9 _ _ _ _ _ _ = _
      unfold b_X8_takeAll_9 b_X8_takeAll_66
      simp (disch := omega) only [j3, i_le, show ¬ 3 ≤ j by omega, if_false, w_way H.1 hj3 hc, bS, s_gI HY, s_gI HY1, i_le0, show ¬ (wY W (3 * j + c)).length = 0 by omega, i_sub1, hat, k1, cp_R3 kc, p1, s_cl HY.1, nI_1]
      exact g1
theorem x_takeAll {S : o_S} (H : CW S w W) {c : Nat} (hc : c < 3) (hT : wT W c < 2 ^ 31) (hl : (wL W c).length + aWf W c ≤ 32) : ∃ S', f_X8_takeAll (ov S n) w (nI c) = some (ov S' n, ()) ∧ CW S' w (dTa W c) ∧ AG (fun b => w ≤ b ∧ b < w + 45) S S' := by
  obtain ⟨S', g1, g2, g3⟩ := x_tkL (n := n) hc 3 0 q_FU S W (by omega) (q_FU_lt (by omega)) ⟨H.1, fun d hd _ => H.2.1 d hd, (H.2.1 c hc).1, H.2.2⟩ hT hl
  refine ⟨S', ?_, g2, g3⟩
  unfold f_X8_takeAll b_X8_takeAll_0
  rw [w_chk H.1, w_R0 H.1, bS, w_cp H.1 hc, bS]
  exact g1
theorem V.wf (hV : V T W) {c : Nat} (hc : c < 3) : aWf W c ≤ 12 := by
  have e : aWf W c = 0 + (wY W (3 * 0 + c)).length + (wY W (3 * 1 + c)).length + (wY W (3 * 2 + c)).length := rfl
  have y0 := (hV.2.2.2.2.1 0 c (by omega) hc)
  have y1 := (hV.2.2.2.2.1 1 c (by omega) hc)
  have y2 := (hV.2.2.2.2.1 2 c (by omega) hc)
  have z0 : 0 = c → (wY W (3 * 0 + c)).length = 0 := fun h => by rw [y0.2.1 h]; rfl
  have z1 : 1 = c → (wY W (3 * 1 + c)).length = 0 := fun h => by rw [y1.2.1 h]; rfl
  have z2 : 2 = c → (wY W (3 * 2 + c)).length = 0 := fun h => by rw [y2.2.1 h]; rfl
  omega
theorem x_gather {S : o_S} (H : CW S w W) (hV : V T W) (hT : T ≤ 100000) {c : Nat} (hc : c < 3) : ∃ S', f_X8_gather (ov S n) w (nI c) = some (ov S' n, (dGa W c).1) ∧ CW S' w (dGa W c).2 ∧ AG (fun b => w ≤ b ∧ b < w + 45) S S' := by
  have hcC : inR 0 3 (nI c) = true := by rw [inR_nI (by omega)]; simp [hc]
  have kc := H.k hc
  have hl := (hV.2.2.1 c hc).1
  have htt := hV.1 c hc
  have hs := (H.2.1 c hc).1.2.2.1
  have hwf := hV.wf hc
  have hmw : aMw W c ≤ aWf W c := by
    have e1 : aMw W c = 0 + (wY W (3 * 0 + c)).countP mHm + (wY W (3 * 1 + c)).countP mHm + (wY W (3 * 2 + c)).countP mHm := rfl
    have e2 : aWf W c = 0 + (wY W (3 * 0 + c)).length + (wY W (3 * 1 + c)).length + (wY W (3 * 2 + c)).length := rfl
    have l0 := List.countP_le_length (p := mHm) (l := wY W (3 * 0 + c))
    have l1 := List.countP_le_length (p := mHm) (l := wY W (3 * 1 + c))
    have l2 := List.countP_le_length (p := mHm) (l := wY W (3 * 2 + c))
    omega
  obtain ⟨S', g1, g2, g3⟩ := x_takeAll (n := n) H hc (by omega) (by omega)
  have hloop : ∀ (d j fuel a : Nat), j + d = 3 → d < fuel → a + fw (fun d a => a + (wY W (3 * d + c)).countP mHm) 0 j d < 2 ^ 31 → l_X8_gather_38 fuel (ov S n) w (nI c) (nI (aWf W c)) (nI a) (nI j) = if a + fw (fun d a => a + (wY W (3 * d + c)).countP mHm) 0 j d ≤ 20 then Option.bind (f_X8_takeAll (ov S n) w (nI c)) (fun q1 => some (q1.1, nI (aWf W c))) else some (ov S n, -3) := by
    intro d
    induction d with
    | zero =>
      intro j fuel a hj hf ha
      obtain ⟨f, rfl⟩ : ∃ f, fuel = f + 1 := ⟨fuel - 1, by omega⟩
      have ha : a + 0 < 2 ^ 31 := ha
      show b_X8_gather_38 _ _ _ _ _ _ _ = if a + 0 ≤ 20 then _ else _
      unfold b_X8_gather_38
      simp (disch := omega) only [j3, j20, i_le, show 3 ≤ j by omega, if_true, Nat.add_zero]
    | succ d ih =>
      intro j fuel a hj hf ha
      obtain ⟨f, rfl⟩ : ∃ f, fuel = f + 1 := ⟨fuel - 1, by omega⟩
      have e : fw (fun d a => a + (wY W (3 * d + c)).countP mHm) 0 j (d + 1) = (wY W (3 * j + c)).countP mHm + fw (fun d a => a + (wY W (3 * d + c)).countP mHm) 0 (j + 1) d := by
        show fw _ (0 + _) (j + 1) d = _
        rw [fw_add, Nat.zero_add]
      rw [e] at ha ⊢
      show b_X8_gather_38 _ _ _ _ _ _ _ = _
      unfold b_X8_gather_38
      simp (disch := omega) only [j3, i_le, show ¬ 3 ≤ j by omega, if_false, w_way H.1 (show j < 3 by omega) hc, bS, s_countMoves (H.2.2 (3 * j + c) (by omega)), nI_add, nI_1]
      rw [ih (j + 1) f (a + (wY W (3 * j + c)).countP mHm) (by omega) (by omega) (by omega), show a + (wY W (3 * j + c)).countP mHm + fw (fun d a => a + (wY W (3 * d + c)).countP mHm) 0 (j + 1) d = a + ((wY W (3 * j + c)).countP mHm + fw (fun d a => a + (wY W (3 * d + c)).countP mHm) 0 (j + 1) d) by omega]
      rfl
  have hL := hloop 3 0 q_FU (wL W c).length (by omega) (q_FU_lt (by omega)) (show (wL W c).length + aMw W c < 2 ^ 31 by omega)
  have hL : l_X8_gather_38 q_FU (ov S n) w (nI c) (nI (aWf W c)) (nI (wL W c).length) 0 = if (wL W c).length + aMw W c ≤ 20 then Option.bind (f_X8_takeAll (ov S n) w (nI c)) (fun q1 => some (q1.1, nI (aWf W c))) else some (ov S n, -3) := hL
  have hu : f_X8_gather (ov S n) w (nI c) = if aWf W c = 0 then some (ov S n, -2) else if (wL W c).length + aMw W c ≤ 20 then Option.bind (f_X8_takeAll (ov S n) w (nI c)) (fun q1 => some (q1.1, nI (aWf W c))) else some (ov S n, -3) := by
    unfold f_X8_gather b_X8_gather_0
    rw [w_chk H.1]
    simp (disch := omega) only [x_isCopy, hcC, bS, b2i_eq0, Bool.true_eq_false, if_false, x_waitingFor H hc, i_eq0, w_R0 H.1, w_cp H.1 hc, cp_R3 kc, s_gI hs, hL]
  unfold dGa
  rw [hu]
  by_cases e0 : aWf W c = 0
  · rw [if_pos e0, if_pos e0]
    exact ⟨S, rfl, H, AG.rf⟩
  · rw [if_neg e0, if_neg e0]
    by_cases e1 : 20 < (wL W c).length + aMw W c
    · rw [if_pos e1, if_neg (by omega)]
      exact ⟨S, rfl, H, AG.rf⟩
    · rw [if_neg e1, if_pos (by omega), g1, bS]
      exact ⟨S', rfl, g2, g3⟩
end CB
