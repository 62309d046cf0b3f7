/-! THE FEWEST LETTERS TILL TWO TREES ARE AS ONE -/
/-- the log of a copy behind the first letters of two ways -/
def tL (W : aW) (c f f' i j : Nat) : List Nat := mInsA (mMv ((wY W (3 * f' + c)).take j)) (mInsA (mMv ((wY W (3 * f + c)).take i)) (wL W c))
def tG (W : aW) (c f f' i j : Nat) : Nat → Nat := mBld 1000 (tL W c f f' i j) 0 (wB W c)
def tQ (E D : Nat → Nat) : Bool := mAll (fun j => decide (E j = D j)) 2 12
theorem all_iff {P : Nat → Bool} : ∀ d j, mAll P j d = true ↔ ∀ i, j ≤ i → i < j + d → P i = true := by
  intro d
  induction d with
  | zero => intro j; exact ⟨fun _ i h1 h2 => by omega, fun _ => rfl⟩
  | succ d ih =>
    intro j
    show (P j && mAll P (j + 1) d) = true ↔ _
    rw [Bool.and_eq_true, ih]
    constructor
    · rintro ⟨h1, h2⟩ i q1 q2
      by_cases e : i = j
      · rw [e]; exact h1
      · exact h2 i (by omega) (by omega)
    · intro h
      exact ⟨h j (Nat.le_refl _) (by omega), fun i q1 q2 => h i (by omega) (by omega)⟩
theorem ot_0 (E D : Nat → Nat) : (mOt E D = 0) ↔ tQ E D = true := by
  unfold tQ
  rw [all_iff]
  constructor
  · intro h i h1 h2
    have : (mOt E D).testBit i = false := by rw [h]; exact Nat.zero_testBit i
    unfold mOt at this
    rw [st_bit0, decide_eq_true (by omega), Bool.true_and] at this
    simpa using this
  · intro h
    apply Nat.eq_of_testBit_eq
    intro i
    unfold mOt
    rw [st_bit0, Nat.zero_testBit]
    by_cases hi : 2 ≤ i ∧ i < 14
    · have := h i hi.1 (by omega)
      rw [decide_eq_true_eq] at this
      simp [this]
    · rw [decide_eq_false (by omega), Bool.false_and]
theorem mMv_take_len (l : List Nat) (i : Nat) : (mMv (l.take i)).length ≤ i := by
  have h1 := mMv_len (l.take i)
  have h2 := List.length_take (i := i) (l := l)
  omega
section NE
variable {S : o_S} {n : Nat × Nat × Nat} {A : aS} {T : Nat}
theorem tL_len (W : aW) (c f f' i j : Nat) : (tL W c f f' i j).length ≤ (wL W c).length + i + j := by
  unfold tL
  rw [mInsA_len, mInsA_len]
  have h1 := mMv_take_len (wY W (3 * f + c)) i
  have h2 := mMv_take_len (wY W (3 * f' + c)) j
  omega
theorem V.tl {W : aW} (hV : V T W) {c f f' : Nat} (hc : c < 3) (hf : f < 3) (hf' : f' < 3) (i j : Nat) : mPutA ((wY W (3 * f' + c)).take j) (mPutA ((wY W (3 * f + c)).take i) (wL W c)) = tL W c f f' i j ∧ (∀ k ∈ tL W c f f' i j, okM k) := by
  obtain ⟨M, hM1, hM2⟩ := hV.sm
  obtain ⟨a1, a2⟩ := (hM1 c hc).putA (ys := (wY W (3 * f + c)).take i) (fun k hk => hM2 f c hf hc k (List.mem_of_mem_take hk))
  obtain ⟨b1, b2⟩ := a2.putA (ys := (wY W (3 * f' + c)).take j) (fun k hk => hM2 f' c hf' hc k (List.mem_of_mem_take hk))
  have e : mPutA ((wY W (3 * f' + c)).take j) (mPutA ((wY W (3 * f + c)).take i) (wL W c)) = tL W c f f' i j := by
    rw [b1, a1]
    rfl
  refine ⟨e, fun k hk => ?_⟩
  rw [← e] at hk
  exact (b2.2 k hk).2
theorem V.tgi {W : aW} (hV : V T W) {c f f' : Nat} (hc : c < 3) (hf : f < 3) (hf' : f' < 3) (i j : Nat) : TI (tG W c f f' i j) := TI.bld 1000 _ 0 _ (hV.2.2.2.1 c hc).1 (hV.tl hc hf hf' i j).2
theorem mC {β : Type} {r : Option β} : q_chk 1 (ov S n) 102 r = r := Eq.trans rfl rfl
theorem mR0 : q_gR 1 0 (ov S n) 102 = some 103 := Eq.trans rfl rfl
theorem mR1 : q_gR 1 1 (ov S n) 102 = some 104 := Eq.trans rfl rfl
theorem mR2 : q_gR 1 2 (ov S n) 102 = some 106 := Eq.trans rfl rfl
theorem mI3 : q_gI 1 3 (ov S n) 102 = some (S.1 102 3) := Eq.trans rfl rfl
theorem mP3 (v : Int32) : q_p 1 3 (ov S n) 102 (.int v) = some (ov (o_sf S 102 3 v) n) := o_pI (fs := fun f => [.ref 103, .ref 104, .ref 106, .int (f 3)]) (fun _ _ _ => rfl) (by show 3 < 4; omega) rfl
theorem mLR {k : Nat} (h : k < 49) : q_lR 6 (ov S n) 103 (nI k) = some (108 + 2 * k) := by
  rw [o_lR (t := 6) (m := 49) (g := fun j => 108 + 2 * j) (fun _ _ _ => rfl), if_pos (q_in_nI h (by omega)), nI_clamp (by omega)]
theorem k104 : kTree 104 := ⟨fun _ _ _ => rfl, fun _ _ _ => rfl⟩
theorem k106 : kSer 32 106 := ⟨fun _ _ _ => rfl, fun _ _ _ => rfl⟩
theorem k108 {k : Nat} (h : k < 49) : kTree (108 + 2 * k) := by
  have h1 : ∀ a : Nat, 108 ≤ a → a < 206 → (a - 108) % 2 = 0 → ∀ f I L, o_t a f I L = .inr (6, [.ref (a + 1)]) := by
    intro a h1 h2 h3 f I L
    unfold o_t
    rw [if_neg (by omega), if_neg (by omega), if_neg (by omega), if_neg (by omega), if_neg (by omega), if_neg (by omega), if_neg (by omega), if_neg (by omega), if_neg (by omega), if_neg (by omega), if_neg (by omega), if_neg (by omega), if_neg (by omega), if_neg (by omega), if_neg (by omega), if_neg (by omega), if_neg (by omega), if_neg (by omega), if_neg (by omega), if_neg (by omega), if_pos h2, if_pos h3]
  have h2 : ∀ a : Nat, 108 ≤ a → a < 206 → ¬ (a - 108) % 2 = 0 → ∀ f I L, o_t a f I L = o_L 16 L := by
    intro a h1 h2 h3 f I L
    unfold o_t
    rw [if_neg (by omega), if_neg (by omega), if_neg (by omega), if_neg (by omega), if_neg (by omega), if_neg (by omega), if_neg (by omega), if_neg (by omega), if_neg (by omega), if_neg (by omega), if_neg (by omega), if_neg (by omega), if_neg (by omega), if_neg (by omega), if_neg (by omega), if_neg (by omega), if_neg (by omega), if_neg (by omega), if_neg (by omega), if_neg (by omega), if_pos h2, if_neg h3]
  exact ⟨h1 _ (by omega) (by omega) (by omega), h2 _ (by omega) (by omega) (by omega)⟩
theorem x_grow (h : OKA T A) (H : CR S A) {c f f' : Nat} (hc : c < 3) (hf : f < 3) (hf' : f' < 3) {i j tg : Nat} (hi : i ≤ (wY (sW A) (3 * f + c)).length) (hj : j ≤ (wY (sW A) (3 * f' + c)).length) (kt : kTree tg) (htg : tg + 1 ≠ 106 ∧ tg + 1 ≠ 107 ∧ 97 ≤ tg + 1 ∧ tg + 1 < 206) : ∃ S', f_X2_grow (ov S n) 102 tg (4 + 8 * c) (28 + 2 * (3 * f + c)) (nI i) (28 + 2 * (3 * f' + c)) (nI j) = some (ov S' n, ()) ∧ CR S' A ∧ TE S' tg (tG (sW A) c f f' i j) ∧ AG (fun b => b = 106 ∨ b = 107 ∨ b = tg + 1) S S' := by
  have hl1 := (h.1.2.2.2.2.1 f c hf hc).1
  have hl2 := (h.1.2.2.2.2.1 f' c hf' hc).1
  have hl20 := (h.1.2.2.1 c hc).1
  have hsc : ∀ {P : Nat → Prop} {S1 S2 : o_S}, AG P S1 S2 → (∀ b, P b → b = 106 ∨ b = 107 ∨ b = tg + 1) → CR S1 A → CR S2 A := fun g hP H => H.ag g (fun b q => by have := hP b q; unfold xsc; omega)
  obtain ⟨S1, a1, a2, a3⟩ := s_copyFrom (n := n) k106 (by omega) (H.lg hc) (by omega) (by omega)
  have H1 := hsc a3 (fun b q => by omega) H
  obtain ⟨S2, b1, b2, b3⟩ := s_insertMovesOf (n := n) a2 (H1.wy (i := 3 * f + c) (by omega)) (by omega) hi (by omega)
  have H2 := hsc b3 (fun b q => by omega) H1
  have hln : (mInsA (mMv ((wY (sW A) (3 * f + c)).take i)) (wL (sW A) c)).length ≤ (wL (sW A) c).length + i := by
    rw [mInsA_len]
    have := mMv_take_len (wY (sW A) (3 * f + c)) i
    omega
  obtain ⟨S3, c1, c2, c3⟩ := s_insertMovesOf (n := n) b2 (H2.wy (i := 3 * f' + c) (by omega)) (by omega) hj (by omega)
  have H3 := hsc c3 (fun b q => by omega) H2
  have hln2 := tL_len (sW A) c f f' i j
  obtain ⟨S4, d1, d2, d3⟩ := t_rebuild (n := n) kt (H3.cc hc).1.2.2.2 c2 (by show (tL (sW A) c f f' i j).length ≤ 32; omega) w_none (by omega)
  refine ⟨S4, ?_, hsc d3 (fun b q => by omega) H3, d2, ((a3.tr b3 (C := fun b => b = 106 ∨ b = 107 ∨ b = tg + 1) (fun b q => by omega) (fun b q => by omega)).tr c3 (C := fun b => b = 106 ∨ b = 107 ∨ b = tg + 1) (fun b q => q) (fun b q => by omega)).tr d3 (fun b q => q) (fun b q => by omega)⟩
  unfold f_X2_grow b_X2_grow_0
  simp only [mC, mR2, bS, u_R3 hc, a1, b1, c1, u_R4 hc, d1]
/-! the reference lays trees behind letters -/
theorem r_lb36 (h : OKA T A) {c b s : Nat} (hc : c < 3) (hb : b < 3) (hs : s < 104) {o : Nat} (ho : o ≤ (wY (sW A) (3 * b + c)).length) : ∀ d i fuel (S : o_S) (l : List Nat), i + d = o → d < fuel → RR S A → LL S l → l.length + d ≤ 40 → (∀ k ∈ mPutA (((wY (sW A) (3 * b + c)).take o).drop i) l, okM k) → ∃ S', l_X10_laysBehind_36 fuel (ov S n) 296 (nI s) (nI c) (nI b) (nI o) (nI i) = some (ov S' n, ()) ∧ TT S' s (mBld 1000 (mPutA (((wY (sW A) (3 * b + c)).take o).drop i) l) 0 (wB (sW A) c)) ∧ wZ S S' ∧ ∀ s' E, s' ≠ s → TT S s' E → TT S' s' E := by
  have hyl := (h.1.2.2.2.2.1 b c hb hc).1
  intro d
  induction d with
  | zero =>
    intro i fuel S l hi hf H hl hlen hok
    obtain ⟨f, rfl⟩ : ∃ f, fuel = f + 1 := ⟨fuel - 1, by omega⟩
    have hx : ((wY (sW A) (3 * b + c)).take o).drop i = [] := List.drop_eq_nil_of_le (by rw [List.length_take]; omega)
    rw [hx] at hok ⊢
    obtain ⟨S1, g1, g2, -, g4⟩ := r_growW (n := n) h.1 H.1 hc hs hl hok w_none
    refine ⟨S1, ?_, g2, ⟨g4.x.z, g4.m⟩, fun s' E hne ht => ht.rg g4 hne⟩
    show b_X10_laysBehind_36 _ _ _ _ _ _ _ _ = _
    unfold b_X10_laysBehind_36
    rw [if_pos (by rw [i_le (by omega) (by omega)]; omega), g1, bS]
  | succ d ih =>
    intro i fuel S l hi hf H hl hlen hok
    obtain ⟨f, rfl⟩ : ∃ f, fuel = f + 1 := ⟨fuel - 1, by omega⟩
    have hx : (wY (sW A) (3 * b + c))[i]? = some (wY (sW A) (3 * b + c))[i] := List.getElem?_eq_getElem (by omega)
    obtain ⟨hyb, hyc⟩ := h.1.yb hc hb (List.mem_of_getElem? hx)
    obtain ⟨S1, g1, g2, g3⟩ := r_putsLetter (n := n) H.1.2.2.2.2 hl (by omega) (show 3 * b + c < 9 by omega) hx hyb hyc
    have hpl := mPut_len (wY (sW A) (3 * b + c))[i] l
    have ed : ((wY (sW A) (3 * b + c)).take o).drop i = (wY (sW A) (3 * b + c))[i] :: ((wY (sW A) (3 * b + c)).take o).drop (i + 1) := by
      rw [List.drop_eq_getElem_cons (by rw [List.length_take]; omega)]
      congr 1
      rw [List.getElem_take]
    rw [ed] at hok ⊢
    obtain ⟨S', k1, k2, k3, k4⟩ := ih (i + 1) f S1 _ (by omega) (by omega) (g3.wz.rr H) g2 (by omega) hok
    refine ⟨S', ?_, k2, g3.wz.tr k3, fun s' E hne ht => k4 s' E hne (ht.rl g3)⟩
    show b_X10_laysBehind_36 _ _ _ _ _ _ _ _ = _
    unfold b_X10_laysBehind_36
    rw [if_neg (by rw [i_le (by omega) (by omega)]; omega), r_letterOf, bS, g1, bS, nI_1]
    exact k1
theorem r_lb8 (h : OKA T A) {c a b s : Nat} (hc : c < 3) (ha : a < 3) (hb : b < 3) (hs : s < 104) {o p : Nat} (ho : o ≤ (wY (sW A) (3 * b + c)).length) (hp : p ≤ (wY (sW A) (3 * a + c)).length) : ∀ d i fuel (S : o_S) (l : List Nat), i + d = p → d < fuel → RR S A → LL S l → l.length + d + o ≤ 40 → (∀ k ∈ mPutA ((wY (sW A) (3 * b + c)).take o) (mPutA (((wY (sW A) (3 * a + c)).take p).drop i) l), okM k) → ∃ S', l_X10_laysBehind_8 fuel (ov S n) 296 (nI s) (nI c) (nI a) (nI p) (nI b) (nI o) (nI i) = some (ov S' n, ()) ∧ TT S' s (mBld 1000 (mPutA ((wY (sW A) (3 * b + c)).take o) (mPutA (((wY (sW A) (3 * a + c)).take p).drop i) l)) 0 (wB (sW A) c)) ∧ wZ S S' ∧ ∀ s' E, s' ≠ s → TT S s' E → TT S' s' E := by
  have hyl := (h.1.2.2.2.2.1 a c ha hc).1
  have hyl2 := (h.1.2.2.2.2.1 b c hb hc).1
  intro d
  induction d with
  | zero =>
    intro i fuel S l hi hf H hl hlen hok
    obtain ⟨f, rfl⟩ : ∃ f, fuel = f + 1 := ⟨fuel - 1, by omega⟩
    have hx : ((wY (sW A) (3 * a + c)).take p).drop i = [] := List.drop_eq_nil_of_le (by rw [List.length_take]; omega)
    rw [hx] at hok ⊢
    obtain ⟨S', k1, k2, k3, k4⟩ := r_lb36 (n := n) h hc hb hs ho o 0 q_FU S l (by omega) (q_FU_lt (by omega)) H hl (by omega) (by rw [List.drop_zero]; exact hok)
    rw [List.drop_zero] at k2
    refine ⟨S', ?_, k2, k3, k4⟩
    show b_X10_laysBehind_8 _ _ _ _ _ _ _ _ _ _ = _
    unfold b_X10_laysBehind_8
    rw [if_pos (by rw [i_le (by omega) (by omega)]; omega)]
    exact k1
  | succ d ih =>
    intro i fuel S l hi hf H hl hlen hok
    obtain ⟨f, rfl⟩ : ∃ f, fuel = f + 1 := ⟨fuel - 1, by omega⟩
    have hx : (wY (sW A) (3 * a + c))[i]? = some (wY (sW A) (3 * a + c))[i] := List.getElem?_eq_getElem (by omega)
    obtain ⟨hyb, hyc⟩ := h.1.yb hc ha (List.mem_of_getElem? hx)
    obtain ⟨S1, g1, g2, g3⟩ := r_putsLetter (n := n) H.1.2.2.2.2 hl (by omega) (show 3 * a + c < 9 by omega) hx hyb hyc
    have hpl := mPut_len (wY (sW A) (3 * a + c))[i] l
    have ed : ((wY (sW A) (3 * a + c)).take p).drop i = (wY (sW A) (3 * a + c))[i] :: ((wY (sW A) (3 * a + c)).take p).drop (i + 1) := by
      rw [List.drop_eq_getElem_cons (by rw [List.length_take]; omega)]
      congr 1
      rw [List.getElem_take]
    rw [ed] at hok ⊢
    obtain ⟨S', k1, k2, k3, k4⟩ := ih (i + 1) f S1 _ (by omega) (by omega) (g3.wz.rr H) g2 (by omega) hok
    refine ⟨S', ?_, k2, g3.wz.tr k3, fun s' E hne ht => k4 s' E hne (ht.rl g3)⟩
    show b_X10_laysBehind_8 _ _ _ _ _ _ _ _ _ _ = _
    unfold b_X10_laysBehind_8
    rw [if_neg (by rw [i_le (by omega) (by omega)]; omega), r_letterOf, bS, g1, bS, nI_1]
    exact k1
theorem r_lb (h : OKA T A) (H : RR S A) {c a b s : Nat} (hc : c < 3) (ha : a < 3) (hb : b < 3) (hs : s < 104) {o p : Nat} (hp : p ≤ (wY (sW A) (3 * a + c)).length) (ho : o ≤ (wY (sW A) (3 * b + c)).length) : ∃ S', f_X10_laysBehind (ov S n) 296 (nI s) (nI c) (nI a) (nI p) (nI b) (nI o) = some (ov S' n, ()) ∧ TT S' s (tG (sW A) c a b p o) ∧ wZ S S' ∧ ∀ s' E, s' ≠ s → TT S s' E → TT S' s' E := by
  have hyl := (h.1.2.2.2.2.1 a c ha hc).1
  have hyl2 := (h.1.2.2.2.2.1 b c hb hc).1
  have hl20 := (h.1.2.2.1 c hc).1
  obtain ⟨e1, e2⟩ := h.1.tl hc ha hb p o
  obtain ⟨S1, g1, g2, g3⟩ := r_loadsW (n := n) hc H.1 (h.1.lb hc)
  obtain ⟨S2, k1, k2, k3, k4⟩ := r_lb8 (n := n) h hc ha hb hs ho hp p 0 q_FU S1 (wL (sW A) c) (by omega) (q_FU_lt (by omega)) (g3.wz.rr H) g2 (by omega) (by rw [List.drop_zero, e1]; exact e2)
  rw [List.drop_zero, e1] at k2
  refine ⟨S2, ?_, k2, g3.wz.tr k3, fun s' E hne ht => k4 s' E hne (ht.rl g3)⟩
  unfold f_X10_laysBehind b_X10_laysBehind_0
  rw [r_chk, g1, bS]
  exact k1
end NE
