/-! THE CLASS'S Series IN CODES -/
/-- two contents are the same off some addresses -/
def AG (A : Nat → Prop) (S S' : o_S) : Prop := ∀ b, ¬ A b → S'.1 b = S.1 b ∧ S'.2.1 b = S.2.1 b ∧ S'.2.2 b = S.2.2 b
theorem AG.rf {A : Nat → Prop} {S : o_S} : AG A S S := fun _ _ => ⟨rfl, rfl, rfl⟩
theorem AG.tr {A B C : Nat → Prop} {S S1 S2 : o_S} (h1 : AG A S S1) (h2 : AG B S1 S2) (hA : ∀ b, A b → C b) (hB : ∀ b, B b → C b) : AG C S S2 := fun b hb =>
  have e1 := h1 b (fun q => hb (hA b q))
  have e2 := h2 b (fun q => hb (hB b q))
  ⟨e2.1.trans e1.1, e2.2.1.trans e1.2.1, e2.2.2.trans e1.2.2⟩
theorem AG.mono {A B : Nat → Prop} {S S' : o_S} (h : AG A S S') (hA : ∀ b, A b → B b) : AG B S S' := fun b hb => h b (fun q => hb (hA b q))
theorem AG.L {A : Nat → Prop} {S S' : o_S} (h : AG A S S') {b : Nat} (hb : ¬ A b) : S'.2.2 b = S.2.2 b := (h b hb).2.2
theorem AG.I {A : Nat → Prop} {S S' : o_S} (h : AG A S S') {b : Nat} (hb : ¬ A b) : S'.2.1 b = S.2.1 b := (h b hb).2.1
theorem AG.f {A : Nat → Prop} {S S' : o_S} (h : AG A S S') {b : Nat} (hb : ¬ A b) : S'.1 b = S.1 b := (h b hb).1
theorem sL_L (S : o_S) (a : Nat) (L : Nat → Int64) : (o_sL S a L).2.2 a = L := if_pos rfl
theorem sI_I (S : o_S) (a : Nat) (I : Nat → Int32) : (o_sI S a I).2.1 a = I := if_pos rfl
theorem sf_f (S : o_S) (a k : Nat) (v : Int32) : (o_sf S a k v).1 a = upd (S.1 a) k v := if_pos rfl
theorem sf_L (S : o_S) (a k : Nat) (v : Int32) (b : Nat) : (o_sf S a k v).2.2 b = S.2.2 b := rfl
theorem AG_sL (S : o_S) (a : Nat) (L : Nat → Int64) : AG (fun b => b = a) S (o_sL S a L) := fun b hb => ⟨rfl, rfl, if_neg hb⟩
theorem AG_sI (S : o_S) (a : Nat) (I : Nat → Int32) : AG (fun b => b = a) S (o_sI S a I) := fun b hb => ⟨rfl, if_neg hb, rfl⟩
theorem AG_sf (S : o_S) (a k : Nat) (v : Int32) : AG (fun b => b = a) S (o_sf S a k v) := fun b hb => ⟨if_neg hb, rfl, rfl⟩
theorem TE.ag {A : Nat → Prop} {S S' : o_S} {t : Nat} {E : Nat → Nat} (h : TE S t E) (hA : AG A S S') (hb : ¬ A (t + 1)) : TE S' t E := ⟨h.1, fun j hj => by rw [hA.L hb]; exact h.2 j hj⟩
def SE (S : o_S) (a m : Nat) (l : List Nat) : Prop := kSer m a ∧ m < 1000 ∧ l.length ≤ m ∧ S.1 a 1 = nI l.length ∧ ∀ j k, l[j]? = some k → S.2.2 (a + 1) j = lN k ∧ k < 2 ^ 31
theorem SE.ag {A : Nat → Prop} {S S' : o_S} {a m : Nat} {l : List Nat} (h : SE S a m l) (hA : AG A S S') (h1 : ¬ A a) (h2 : ¬ A (a + 1)) : SE S' a m l := ⟨h.1, h.2.1, h.2.2.1, by rw [hA.f h1]; exact h.2.2.2.1, fun j k hk => by rw [hA.L h2]; exact h.2.2.2.2 j k hk⟩
theorem SE.mem {S : o_S} {a m : Nat} {l : List Nat} (h : SE S a m l) {k : Nat} (hk : k ∈ l) : k < 2 ^ 31 := by
  obtain ⟨j, hj⟩ := List.getElem?_of_mem hk
  exact (h.2.2.2.2 j k hj).2
section SR
variable {S : o_S} {n : Nat × Nat × Nat} {a m : Nat} {l : List Nat}
theorem s_chk (h : SE S a m l) {β : Type} {r : Option β} : q_chk 4 (ov S n) a r = r := o_chk h.1.1
theorem s_gR (h : SE S a m l) : q_gR 4 0 (ov S n) a = some (a + 1) := o_gR h.1.1 rfl
theorem s_gI (h : SE S a m l) : q_gI 4 1 (ov S n) a = some (nI l.length) := o_gI h.1.1 (by rw [← h.2.2.2.1]; rfl)
theorem s_gI' (h : kSer m a) : q_gI 4 1 (ov S n) a = some (S.1 a 1) := o_gI h.1 rfl
theorem s_gR' (h : kSer m a) : q_gR 4 0 (ov S n) a = some (a + 1) := o_gR h.1 rfl
theorem s_len (h : SE S a m l) : q_len (ov S n) (a + 1) = some (nI m) := o_lenL h.1.2
theorem s_ld (h : SE S a m l) {j k : Nat} (hk : l[j]? = some k) : q_lL (ov S n) (a + 1) (nI j) = some (lN k) := by
  have hj : j < l.length := (List.getElem?_eq_some_iff.mp hk).1
  have := h.2.1
  have := h.2.2.1
  rw [o_lL h.1.2, if_pos (q_in_nI (by omega) (by omega)), nI_clamp (by omega), (h.2.2.2.2 j k hk).1]
theorem s_pf (h : kSer m a) (v : Int32) : q_p 4 1 (ov S n) a (.int v) = some (ov (o_sf S a 1 v) n) := o_pI h.1 (by show 1 < 2; omega) (by show [Value.ref (a + 1), Value.int v] = [Value.ref (a + 1), Value.int (upd (S.1 a) 1 v 1)]; rw [pk_us])
theorem s_at (h : SE S a m l) {j : Nat} (hj : j < 2 ^ 31) : f_X5_at (ov S n) a (nI j) = some (ov S n, lN (l.getD j 0)) := by
  have hm := h.2.1
  have hl := h.2.2.1
  unfold f_X5_at b_X5_at_0 b_X5_at_30
  rw [s_chk h]
  simp only [s_gI h, s_gR h, s_len h, Option.bind_some, show ¬ nI j < 0 from nI_pos hj, if_false, i_le (show l.length < 2 ^ 31 by omega) hj, i_le (show m < 2 ^ 31 by omega) hj]
  by_cases e : l.length ≤ j
  · simp [e, List.getD_eq_getElem?_getD, List.getElem?_eq_none e]
    rfl
  · have hk : l[j]? = some l[j] := List.getElem?_eq_getElem (by omega)
    simp only [e, show ¬ m ≤ j by omega, if_false, s_ld h hk, Option.bind_some, List.getD_eq_getElem?_getD, hk, Option.getD_some]
theorem s_append (h : SE S a m l) (hlt : l.length < m) {k : Nat} (hk : k < 2 ^ 31) : ∃ S', f_X5_append (ov S n) a (lN k) = some (ov S' n, ()) ∧ SE S' a m (l ++ [k]) ∧ AG (fun b => b = a ∨ b = a + 1) S S' := by
  have hm := h.2.1
  have hS1 : q_sL (ov S n) (a + 1) (nI l.length) (lN k) = some (ov (o_sL S (a + 1) (vp_updL (S.2.2 (a + 1)) l.length (lN k))) n) := by
    rw [o_stL h.1.2, if_pos (q_in_nI hlt (by omega)), nI_clamp (by omega)]
  have hf1 : (o_sL S (a + 1) (vp_updL (S.2.2 (a + 1)) l.length (lN k))).1 a 1 = nI l.length := h.2.2.2.1
  refine ⟨o_sf (o_sL S (a + 1) (vp_updL (S.2.2 (a + 1)) l.length (lN k))) a 1 (nI (l.length + 1)), ?_, ⟨h.1, hm, by simp; omega, ?_, fun j x hx => ?_⟩, ?_⟩
  · unfold f_X5_append b_X5_append_0
    rw [s_chk h]
    simp only [s_gI h, s_gR h, s_len h, Option.bind_some, i_le (show m < 2 ^ 31 by omega) (show l.length < 2 ^ 31 by omega), show ¬ m ≤ l.length by omega, if_false, hS1, s_gI' h.1, hf1, nI_1, s_pf h.1]
  · show (if a = a then upd _ 1 _ else _) 1 = _
    rw [if_pos rfl, pk_us]
    simp
  · rw [sf_L, sL_L]
    by_cases e : j = l.length
    · subst e
      rw [pk_uLs]
      have : x = k := by simpa using hx.symm
      subst this
      exact ⟨rfl, hk⟩
    · rw [pk_uLn e]
      have hj : j < (l ++ [k]).length := (List.getElem?_eq_some_iff.mp hx).1
      rw [List.length_append] at hj
      simp only [List.length_cons, List.length_nil] at hj
      rw [List.getElem?_append_left (by omega)] at hx
      exact h.2.2.2.2 j x hx
  · exact (AG_sL _ _ _).tr (AG_sf _ _ _ _) (fun b hb => Or.inr hb) (fun b hb => Or.inl hb)
/-- where a code belongs: behind all that are not greater, seen from the end -/
def mPos (k : Nat) (l : List Nat) : Nat → Nat
  | 0 => 0
  | i + 1 => if k < l.getD i 0 then mPos k l i else i + 1
theorem mPos_le (k : Nat) (l : List Nat) : ∀ i, mPos k l i ≤ i := by
  intro i
  induction i with
  | zero => exact Nat.le_refl _
  | succ i ih =>
    unfold mPos
    split <;> omega
def mIns (k : Nat) (l : List Nat) : List Nat := l.take (mPos k l l.length) ++ k :: l.drop (mPos k l l.length)
theorem mIns_len (k : Nat) (l : List Nat) : (mIns k l).length = l.length + 1 := by
  have := mPos_le k l l.length
  simp [mIns]
  omega
theorem l_cmp_le {a b : Nat} (ha : a < 2 ^ 31) (hb : b < 2 ^ 31) : (lg_cmp (lN a) (lN b) ≤ 0) = (a ≤ b) := by
  unfold lg_cmp
  have h2 := lN_lt hb ha
  have h3 := lN_eq ha hb
  apply propext
  by_cases e2 : b < a
  · rw [if_pos (h2.mpr e2)]
    exact ⟨fun h => absurd h (by decide), fun h => by omega⟩
  · rw [if_neg (fun q => e2 (h2.mp q))]
    by_cases e : a = b
    · rw [if_pos (h3.mpr e)]
      exact ⟨fun _ => by omega, fun _ => by decide⟩
    · rw [if_neg (fun q => e (h3.mp q))]
      exact ⟨fun _ => by omega, fun _ => by decide⟩
theorem s_insL {l : List Nat} (hk1 : kSer m a) (hm : m < 1000) (hlt : l.length < m) (hc : ∀ x ∈ l, x < 2 ^ 31) {k : Nat} (hk : k < 2 ^ 31) : ∀ (i : Nat) (fuel : Nat) (S : o_S), i ≤ l.length → i < fuel → S.1 a 1 = nI l.length → (∀ j x, j < i → l[j]? = some x → S.2.2 (a + 1) j = lN x) → (∀ j x, i ≤ j → l[j]? = some x → S.2.2 (a + 1) (j + 1) = lN x) →
    ∃ S', l_X5_insert_19 fuel (ov S n) a (lN k) (nI i) = some (ov S' n, nI (l.length - mPos k l i)) ∧ SE S' a m (l.take (mPos k l i) ++ k :: l.drop (mPos k l i)) ∧ AG (fun b => b = a ∨ b = a + 1) S S' := by
  intro i
  induction i with
  | zero =>
    intro fuel S hi hf hs h1 h2
    obtain ⟨f, rfl⟩ : ∃ f, fuel = f + 1 := ⟨fuel - 1, by omega⟩
    have hS1 : q_sL (ov S n) (a + 1) (nI 0) (lN k) = some (ov (o_sL S (a + 1) (vp_updL (S.2.2 (a + 1)) 0 (lN k))) n) := by
      rw [o_stL hk1.2, if_pos (q_in_nI (by omega) (by omega)), nI_clamp (by omega)]
    have hf1 : (o_sL S (a + 1) (vp_updL (S.2.2 (a + 1)) 0 (lN k))).1 a 1 = nI l.length := hs
    have hf2 : (o_sf (o_sL S (a + 1) (vp_updL (S.2.2 (a + 1)) 0 (lN k))) a 1 (nI (l.length + 1))).1 a 1 = nI (l.length + 1) := by
      show (if a = a then upd _ 1 _ else _) 1 = _
      rw [if_pos rfl, pk_us]
    refine ⟨o_sf (o_sL S (a + 1) (vp_updL (S.2.2 (a + 1)) 0 (lN k))) a 1 (nI (l.length + 1)), ?_, ⟨hk1, hm, by simp [mPos]; omega, by rw [hf2]; simp [mPos], fun j x hx => ?_⟩, (AG_sL _ _ _).tr (AG_sf _ _ _ _) (fun b hb => Or.inr hb) (fun b hb => Or.inl hb)⟩
    · show b_X5_insert_19 _ _ _ _ _ = _
      unfold b_X5_insert_19 b_X5_insert_56
      rw [if_pos (show nI 0 ≤ 0 by decide)]
      simp only [s_gR' hk1, Option.bind_some, hS1, s_gI' hk1, hf1, nI_1, s_pf hk1, hf2, mPos]
      rw [show (1 : Int32) = nI 1 from rfl, pk_sub (by omega), pk_sub (by omega)]
      rfl
    · rw [sf_L, sL_L]
      simp only [mPos, List.take_zero, List.drop_zero, List.nil_append] at hx
      cases j with
      | zero =>
        rw [pk_uLs]
        simp at hx
        subst hx
        exact ⟨rfl, hk⟩
      | succ j =>
        rw [pk_uLn (by omega)]
        rw [List.getElem?_cons_succ] at hx
        exact ⟨h2 j x (by omega) hx, hc x (List.mem_of_getElem? hx)⟩
  | succ i ih =>
    intro fuel S hi hf hs h1 h2
    obtain ⟨f, rfl⟩ : ∃ f, fuel = f + 1 := ⟨fuel - 1, by omega⟩
    have hx : l[i]? = some l[i] := List.getElem?_eq_getElem (by omega)
    have hxg : l.getD i 0 = l[i] := by rw [List.getD_eq_getElem?_getD, hx]; rfl
    have hxb : l[i] < 2 ^ 31 := hc _ (List.mem_of_getElem? hx)
    have hm1 : nI (i + 1) - 1 = nI i := nI_pred i
    have hld : q_lL (ov S n) (a + 1) (nI i) = some (lN l[i]) := by
      rw [o_lL hk1.2, if_pos (q_in_nI (by omega) (by omega)), nI_clamp (by omega), h1 i _ (by omega) hx]
    by_cases e : k < l[i]
    · have hst : q_sL (ov S n) (a + 1) (nI (i + 1)) (lN l[i]) = some (ov (o_sL S (a + 1) (vp_updL (S.2.2 (a + 1)) (i + 1) (lN l[i]))) n) := by
        rw [o_stL hk1.2, if_pos (q_in_nI (by omega) (by omega)), nI_clamp (by omega)]
      obtain ⟨S', g1, g2, g3⟩ := ih f (o_sL S (a + 1) (vp_updL (S.2.2 (a + 1)) (i + 1) (lN l[i]))) (by omega) (by omega) hs
        (fun j x hj hx' => by
          rw [sL_L, pk_uLn (by omega)]
          exact h1 j x (by omega) hx')
        (fun j x hj hx' => by
          rw [sL_L]
          by_cases ej : j = i
          · subst ej
            rw [pk_uLs]
            rw [hx] at hx'
            cases hx'
            rfl
          · rw [pk_uLn (by omega)]
            exact h2 j x (by omega) hx')
      refine ⟨S', ?_, ?_, (AG_sL _ _ _).tr g3 (fun b hb => Or.inr hb) (fun b hb => hb)⟩
      · show b_X5_insert_19 _ _ _ _ _ = _
        unfold b_X5_insert_19
        rw [if_neg (nI_nle (by omega) (by omega))]
        simp only [s_gR' hk1, Option.bind_some, hm1, hld, l_cmp_le hxb hk, show ¬ l[i] ≤ k by omega, if_false, hst, pk_m1, mPos, hxg, e, if_true]
        exact g1
      · simp only [mPos, hxg, e, if_true]
        exact g2
    · have hS1 : q_sL (ov S n) (a + 1) (nI (i + 1)) (lN k) = some (ov (o_sL S (a + 1) (vp_updL (S.2.2 (a + 1)) (i + 1) (lN k))) n) := by
        rw [o_stL hk1.2, if_pos (q_in_nI (by omega) (by omega)), nI_clamp (by omega)]
      have hf1 : (o_sL S (a + 1) (vp_updL (S.2.2 (a + 1)) (i + 1) (lN k))).1 a 1 = nI l.length := hs
      have hf2 : (o_sf (o_sL S (a + 1) (vp_updL (S.2.2 (a + 1)) (i + 1) (lN k))) a 1 (nI (l.length + 1))).1 a 1 = nI (l.length + 1) := by
        show (if a = a then upd _ 1 _ else _) 1 = _
        rw [if_pos rfl, pk_us]
      have hp : mPos k l (i + 1) = i + 1 := by simp only [mPos, hxg, e, if_false]
      rw [hp]
      refine ⟨o_sf (o_sL S (a + 1) (vp_updL (S.2.2 (a + 1)) (i + 1) (lN k))) a 1 (nI (l.length + 1)), ?_, ⟨hk1, hm, by simp; omega, by rw [hf2]; simp; rw [show min (i + 1) l.length + (l.length - (i + 1) + 1) = l.length + 1 by omega], fun j x hxj => ?_⟩, (AG_sL _ _ _).tr (AG_sf _ _ _ _) (fun b hb => Or.inr hb) (fun b hb => Or.inl hb)⟩
      · show b_X5_insert_19 _ _ _ _ _ = _
        unfold b_X5_insert_19 b_X5_insert_56
        rw [if_neg (nI_nle (by omega) (by omega))]
        simp only [s_gR' hk1, Option.bind_some, hm1, hld, l_cmp_le hxb hk, show l[i] ≤ k by omega, if_true, hS1, s_gI' hk1, hf1, nI_1, s_pf hk1, hf2]
        rw [show (1 : Int32) = nI 1 from rfl, pk_sub (by omega), pk_sub (by omega)]
        rfl
      · rw [sf_L, sL_L]
        have hlen : (l.take (i + 1)).length = i + 1 := by simp; omega
        by_cases ej : j = i + 1
        · subst ej
          rw [pk_uLs]
          rw [List.getElem?_append_right (by omega), hlen, Nat.sub_self] at hxj
          simp at hxj
          subst hxj
          exact ⟨rfl, hk⟩
        · rw [pk_uLn ej]
          by_cases ej2 : j < i + 1
          · rw [List.getElem?_append_left (by omega), List.getElem?_take_of_lt ej2] at hxj
            exact ⟨h1 j x ej2 hxj, hc x (List.mem_of_getElem? hxj)⟩
          · rw [List.getElem?_append_right (by omega), hlen] at hxj
            obtain ⟨q, hq⟩ : ∃ q, j = i + 1 + (q + 1) := ⟨j - (i + 2), by omega⟩
            subst hq
            rw [show i + 1 + (q + 1) - (i + 1) = q + 1 by omega, List.getElem?_cons_succ, List.getElem?_drop] at hxj
            rw [show i + 1 + (q + 1) = (i + 1 + q) + 1 by omega]
            exact ⟨h2 (i + 1 + q) x (by omega) hxj, hc x (List.mem_of_getElem? hxj)⟩
theorem s_insert (h : SE S a m l) (hlt : l.length < m) {k : Nat} (hk : k < 2 ^ 31) : ∃ S', f_X5_insert (ov S n) a (lN k) = some (ov S' n, nI (l.length - mPos k l l.length)) ∧ SE S' a m (mIns k l) ∧ AG (fun b => b = a ∨ b = a + 1) S S' := by
  have hm := h.2.1
  obtain ⟨S', g1, g2, g3⟩ := s_insL (n := n) h.1 h.2.1 hlt (fun x hx => h.mem hx) hk l.length q_FU S (Nat.le_refl _) (q_FU_lt (by omega)) h.2.2.2.1 (fun j x _ hx => (h.2.2.2.2 j x hx).1) (fun j x hj hx => absurd (List.getElem?_eq_some_iff.mp hx).1 (by omega))
  refine ⟨S', ?_, g2, g3⟩
  unfold f_X5_insert b_X5_insert_0
  rw [s_chk h]
  simp only [s_gI h, s_gR h, s_len h, Option.bind_some, i_lt (show l.length < 2 ^ 31 by omega) (show m < 2 ^ 31 by omega), hlt, if_true]
  exact g1
end SR
