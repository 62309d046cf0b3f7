/-! WORLDS: what stays true of them -/
theorem ins_pos {k : Nat} {l : List Nat} (hs : l.Pairwise (· ≤ ·)) : ∀ i, i ≤ l.length → mPos k l i + (l.take i).countP (fun x => decide (k < x)) = i := by
  intro i
  induction i with
  | zero => intro _; simp [mPos]
  | succ i ih =>
    intro hi
    have hx : l[i]? = some l[i] := List.getElem?_eq_getElem (by omega)
    have hg : l.getD i 0 = l[i] := by rw [List.getD_eq_getElem?_getD, hx]; rfl
    have ht : l.take (i + 1) = l.take i ++ [l[i]] := by
      rw [List.take_add_one, hx]; rfl
    have h1 := ih (by omega)
    rw [ht, List.countP_append]
    simp only [mPos, hg, List.countP_cons, List.countP_nil, Nat.zero_add]
    by_cases e : k < l[i]
    · simp only [e, if_true, decide_true]
      omega
    · simp only [e, if_false, decide_false, Bool.false_eq_true]
      have : (l.take i).countP (fun x => decide (k < x)) = 0 := by
        rw [List.countP_eq_zero]
        intro x hx'
        obtain ⟨j, hj, rfl⟩ := List.mem_iff_getElem.mp hx'
        rw [List.length_take] at hj
        rw [List.getElem_take]
        have := List.pairwise_iff_getElem.mp hs j i (by omega) (by omega) (by omega)
        simp
        omega
      omega
theorem ins_eq {k : Nat} {l : List Nat} (hs : l.Pairwise (· ≤ ·)) (hM : ∀ x ∈ l, mLs k x = decide (k < x)) : l.length - l.countP (mLs k) = mPos k l l.length ∧ mAt k (l.length - l.countP (mLs k)) l = mIns k l ∧ l.length - mPos k l l.length = l.countP (mLs k) := by
  have h := ins_pos (k := k) hs l.length (Nat.le_refl _)
  have e : l.countP (mLs k) = l.countP (fun x => decide (k < x)) := List.countP_congr (fun x hx => by rw [hM x hx])
  rw [List.take_length] at h
  have : l.length - l.countP (mLs k) = mPos k l l.length := by omega
  refine ⟨this, ?_, by omega⟩
  rw [this]
  rfl
theorem mAt_mem {k i x : Nat} {l : List Nat} : x ∈ mAt k i l ↔ x = k ∨ x ∈ l := by
  unfold mAt
  rw [List.mem_append, List.mem_cons]
  constructor
  · rintro (h | h | h)
    · exact Or.inr (List.mem_of_mem_take h)
    · exact Or.inl h
    · exact Or.inr (List.mem_of_mem_drop h)
  · rintro (h | h)
    · exact Or.inr (Or.inl h)
    · rw [← List.take_append_drop i l, List.mem_append] at h
      rcases h with h | h
      · exact Or.inl h
      · exact Or.inr (Or.inr h)
theorem mPos_lo {k : Nat} {l : List Nat} (hs : l.Pairwise (· ≤ ·)) : ∀ i, i ≤ l.length → (∀ j, (hj : j < l.length) → j < mPos k l i → l[j] ≤ k) ∧ ∀ j, (hj : j < l.length) → mPos k l i ≤ j → j < i → k < l[j] := by
  intro i
  induction i with
  | zero => intro _; exact ⟨fun j hj h => by simp [mPos] at h, fun j hj _ h => by omega⟩
  | succ i ih =>
    intro hi
    have hx : l[i]? = some l[i] := List.getElem?_eq_getElem (by omega)
    have hg : l.getD i 0 = l[i] := by rw [List.getD_eq_getElem?_getD, hx]; rfl
    obtain ⟨h1, h2⟩ := ih (by omega)
    by_cases e : k < l[i]
    · have : mPos k l (i + 1) = mPos k l i := by simp only [mPos, hg, e, if_true]
      rw [this]
      refine ⟨h1, fun j hj h3 h4 => ?_⟩
      by_cases ej : j = i
      · subst ej; exact e
      · exact h2 j hj h3 (by omega)
    · have : mPos k l (i + 1) = i + 1 := by simp only [mPos, hg, e, if_false]
      rw [this]
      refine ⟨fun j hj h3 => ?_, fun j hj h3 h4 => by omega⟩
      by_cases ej : j = i
      · subst ej; omega
      · have := List.pairwise_iff_getElem.mp hs j i (by omega) (by omega) (by omega)
        omega
theorem mIns_sorted {k : Nat} {l : List Nat} (hs : l.Pairwise (· ≤ ·)) : (mIns k l).Pairwise (· ≤ ·) := by
  obtain ⟨h1, h2⟩ := mPos_lo (k := k) hs l.length (Nat.le_refl _)
  unfold mIns
  rw [List.pairwise_append, List.pairwise_cons]
  have a1 : ∀ x ∈ l.take (mPos k l l.length), x ≤ k := by
    intro x hx
    obtain ⟨j, hj, rfl⟩ := List.mem_iff_getElem.mp hx
    rw [List.length_take] at hj
    rw [List.getElem_take]
    exact h1 j (by omega) (by omega)
  have a2 : ∀ x ∈ l.drop (mPos k l l.length), k < x := by
    intro x hx
    obtain ⟨j, hj, rfl⟩ := List.mem_iff_getElem.mp hx
    rw [List.length_drop] at hj
    rw [List.getElem_drop]
    exact h2 _ (by omega) (by omega) (by omega)
  refine ⟨hs.sublist (List.take_sublist _ _), ⟨fun x hx => Nat.le_of_lt (a2 x hx), hs.sublist (List.drop_sublist _ _)⟩, fun x hx y hy => ?_⟩
  rcases List.mem_cons.mp hy with rfl | hy
  · exact a1 x hx
  · have := a1 x hx
    have := a2 y hy
    omega
theorem bld_mem (w : Nat) : ∀ (l : List Nat) (i : Nat) (E : Nat → Nat) (j : Nat), mBld w l i E j = E j ∨ mBld w l i E j ∈ l := by
  intro l
  induction l with
  | nil => intro i E j; exact Or.inl rfl
  | cons k l ih =>
    intro i E j
    have h := ih (i + 1) (if i = w then E else mDo E k) j
    rcases h with h | h
    · by_cases e : i = w
      · rw [if_pos e] at h
        exact Or.inl (by rw [show mBld w (k :: l) i E = mBld w l (i + 1) (if i = w then E else mDo E k) from rfl, if_pos e]; exact h)
      · rw [if_neg e] at h
        rw [show mBld w (k :: l) i E = mBld w l (i + 1) (if i = w then E else mDo E k) from rfl, if_neg e, h]
        unfold mDo
        split
        · unfold mSet
          by_cases ej : j = cF k
          · rw [if_pos ej]; exact Or.inr (by simp)
          · rw [if_neg ej]; exact Or.inl rfl
        · exact Or.inl rfl
    · exact Or.inr (List.mem_cons_of_mem _ h)
theorem ls_of {k x m : Nat} (h1 : k % 4096 = m) (h2 : k / 4096 = x / 4096 → x % 4096 = m) : mLs k x = decide (k < x) := by
  unfold mLs
  congr 1
  apply propext
  by_cases e : k / 4096 = x / 4096
  · have := h2 e
    omega
  · omega
section WV
variable {T : Nat} {W : aW}
/-- moves of one world are told apart by their stamps -/
theorem V.lsY (h : V T W) {c f t : Nat} (hc : c < 3) (hf : f < 3) (ht : t < 3) {k : Nat} (hk : k ∈ wY W (3 * f + t)) (hm : mHm k = true) : ∀ x ∈ wL W c, mLs k x = decide (k < x) := by
  obtain ⟨M, m1, m2, m3⟩ := h.2.2.2.2.2
  exact fun x hx => ls_of (m3 f t hf ht k hk hm) (fun e => by rw [e]; exact m1 c hc x hx)
theorem V.su (h : V T W) {c : Nat} (hc : c < 3) : SU (tr W c) := by
  obtain ⟨M, m1, m2, m3⟩ := h.2.2.2.2.2
  have hm : ∀ j, tr W c j ≠ 0 → tr W c j % 4096 = M (tr W c j / 4096) := by
    intro j hj
    rcases bld_mem 1000 (wL W c) 0 (wB W c) j with e | e
    · have e' : tr W c j = wB W c j := e
      rw [e'] at hj ⊢
      exact m2 c j hc hj
    · exact m1 c hc _ e
  intro i j hi hj e
  have a := hm i hi
  have b := hm j hj
  rw [e, ← b] at a
  omega
theorem V.mono (h : V T W) {T' : Nat} (hT : T ≤ T') : V T' W := ⟨fun c hc => Nat.le_trans (h.1 c hc) hT, fun c d hc hd => Nat.le_trans (h.2.1 c d hc hd) hT, h.2.2⟩
theorem mHm_ok {k f : Nat} (h : okY k f) (hm : mHm k = true) : okM k := by
  rcases h.2.2 with e | e
  · exact e
  · simp [mHm, e.1] at hm
theorem ok_hm {k : Nat} (h : okM k) : mHm k = true := by
  have := h.2.1
  simp [mHm]
  omega
/-- a letter goes -/
theorem V.snd (h : V T W) {c k : Nat} (hc : c < 3) (hy : okY k c) (hT : cT k = wT W c) (hf : ∀ d, d < 3 → d ≠ c → (wY W (3 * c + d)).length < 6) (hM : mHm k = true → ∃ M : Nat → Nat, (∀ c, c < 3 → ∀ k ∈ wL W c, k % 4096 = M (k / 4096)) ∧ (∀ c j, c < 3 → wB W c j ≠ 0 → wB W c j % 4096 = M (wB W c j / 4096)) ∧ (∀ f t, f < 3 → t < 3 → ∀ k ∈ wY W (3 * f + t), mHm k = true → k % 4096 = M (k / 4096)) ∧ k % 4096 = M (k / 4096)) : V T (aSndP W c k 3) := by
  have hw : ∀ f t, f < 3 → t < 3 → wY (aSndP W c k 3) (3 * f + t) = if f = c ∧ t ≠ c then wY W (3 * f + t) ++ [k] else wY W (3 * f + t) := by
    intro f t hf ht
    show (if _ then _ else _) = _
    have : ((3 * f + t) / 3 = c ∧ (3 * f + t) % 3 ≠ c ∧ (3 * f + t) % 3 < 3) = (f = c ∧ t ≠ c) := propext (by omega)
    simp only [this]
  refine ⟨h.1, h.2.1, h.2.2.1, h.2.2.2.1, fun f t hf' ht => ?_, ?_⟩
  · rw [hw f t hf' ht]
    obtain ⟨y1, y2, y3, y4⟩ := h.2.2.2.2.1 f t hf' ht
    by_cases e : f = c ∧ t ≠ c
    · rw [if_pos e]
      obtain ⟨rfl, e2⟩ := e
      have := hf t ht e2
      refine ⟨by simp; omega, fun q => absurd q.symm e2, ?_, fun x hx => ?_⟩
      · rw [List.pairwise_append]
        refine ⟨y3, by simp, fun a ha b hb => ?_⟩
        have : b = k := by simpa using hb
        rw [this, hT]
        exact (y4 a ha).2
      · rcases List.mem_append.mp hx with hx | hx
        · exact y4 x hx
        · have : x = k := by simpa using hx
          rw [this]
          exact ⟨hy, Nat.le_of_eq hT⟩
    · rw [if_neg e]
      exact ⟨y1, y2, y3, y4⟩
  · by_cases em : mHm k = true
    · obtain ⟨M, m1, m2, m3, m4⟩ := hM em
      refine ⟨M, m1, m2, fun f t hf' ht x hx hxm => ?_⟩
      rw [hw f t hf' ht] at hx
      split at hx
      · rcases List.mem_append.mp hx with hx | hx
        · exact m3 f t hf' ht x hx hxm
        · have : x = k := by simpa using hx
          rw [this]; exact m4
      · exact m3 f t hf' ht x hx hxm
    · obtain ⟨M, m1, m2, m3⟩ := h.2.2.2.2.2
      refine ⟨M, m1, m2, fun f t hf' ht x hx hxm => ?_⟩
      rw [hw f t hf' ht] at hx
      split at hx
      · rcases List.mem_append.mp hx with hx | hx
        · exact m3 f t hf' ht x hx hxm
        · have : x = k := by simpa using hx
          rw [this] at hxm; exact absurd hxm em
      · exact m3 f t hf' ht x hx hxm
theorem full_not {c : Nat} (h : V T W) (hc : c < 3) (hf : aFull W c = false) : ∀ d, d < 3 → d ≠ c → (wY W (3 * c + d)).length < 6 := by
  have e : aFull W c = ((((false || (decide (0 ≠ c) && decide ((wY W (3 * c + 0)).length = 6))) || (decide (1 ≠ c) && decide ((wY W (3 * c + 1)).length = 6)))) || (decide (2 ≠ c) && decide ((wY W (3 * c + 2)).length = 6))) := rfl
  rw [e] at hf
  simp only [Bool.or_eq_false_iff, Bool.and_eq_false_iff, decide_eq_false_iff_not, Bool.false_or] at hf
  obtain ⟨⟨f0, f1⟩, f2⟩ := hf
  intro d hd hdc
  have := (h.2.2.2.2.1 c d hc hd).1
  match d, hd with
  | 0, _ => omega
  | 1, _ => omega
  | 2, _ => omega
  | m + 3, hd => omega
/-- a beat goes -/
theorem V.beat (h : V T W) (hT : T ≤ 100000) {c : Nat} (hc : c < 3) (hf : aFull W c = false) : V T (aSndP W c (cMk (wT W c) c 0 0 0) 3) := by
  have hb : ∀ p, p = 0 → p < 16 := fun p e => by omega
  have e0 := cMk_T (t := wT W c) (c := c) (f := 0) (p := 0) (n := 0) (by omega) (by omega) (by omega) (by omega)
  have e1 := cMk_C (t := wT W c) (c := c) (f := 0) (p := 0) (n := 0) (by omega) (by omega) (by omega) (by omega)
  have e2 := cMk_F (t := wT W c) (c := c) (f := 0) (p := 0) (n := 0) (by omega) (by omega) (by omega) (by omega)
  have e3 := cMk_P (t := wT W c) (c := c) (f := 0) (p := 0) (n := 0) (by omega) (by omega) (by omega) (by omega)
  have e4 := cMk_N (t := wT W c) (c := c) (f := 0) (p := 0) (n := 0) (by omega) (by omega) (by omega) (by omega)
  have hlt : cMk (wT W c) c 0 0 0 < 2 ^ 31 := by
    have := h.1 c hc
    unfold cMk
    omega
  refine h.snd hc ⟨hlt, e1, Or.inr ⟨e2, e3, e4⟩⟩ e0 (full_not h hc hf) (fun em => ?_)
  simp [mHm, e2] at em
/-- a move is made -/
def aMade (W : aW) (c k : Nat) : aW := (fset W.1 c (cT k), W.2.1, fset W.2.2.1 c (wL W c ++ [k]), W.2.2.2)
theorem V.made (h : V T W) {c k : Nat} (hc : c < 3) (hk : okM k) (hC : cC k = c) (hT : cT k = wT W c + 1) (hlen : (wL W c).length < 20) : V (T + 1) (aMade W c k) ∧ ∃ M : Nat → Nat, (∀ d, d < 3 → ∀ x ∈ wL (aMade W c k) d, x % 4096 = M (x / 4096)) ∧ (∀ d j, d < 3 → wB (aMade W c k) d j ≠ 0 → wB (aMade W c k) d j % 4096 = M (wB (aMade W c k) d j / 4096)) ∧ (∀ f t, f < 3 → t < 3 → ∀ x ∈ wY (aMade W c k) (3 * f + t), mHm x = true → x % 4096 = M (x / 4096)) ∧ k % 4096 = M (k / 4096) := by
  have htm : ∀ d, wT W d ≤ wT (aMade W c k) d := by
    intro d
    show W.1 d ≤ fset W.1 c (cT k) d
    by_cases e : d = c
    · rw [e, fset_s, hT]
      show W.1 c ≤ W.1 c + 1
      omega
    · rw [fset_n _ _ e]
      exact Nat.le_refl _
  have htc : wT (aMade W c k) c = cT k := fset_s _ _ _
  obtain ⟨M, m1, m2, m3⟩ := h.2.2.2.2.2
  have hne : ∀ x, cC x < 3 → cT x ≤ wT W (cC x) → x / 4096 ≠ k / 4096 := by
    intro x _ hx e
    have a1 : cT x = cT k := by unfold cT; omega
    have a2 : cC x = cC k := by unfold cC; omega
    rw [a2, hC, a1, hT] at hx
    omega
  have mm : ∃ M : Nat → Nat, (∀ d, d < 3 → ∀ x ∈ wL (aMade W c k) d, x % 4096 = M (x / 4096)) ∧ (∀ d j, d < 3 → wB (aMade W c k) d j ≠ 0 → wB (aMade W c k) d j % 4096 = M (wB (aMade W c k) d j / 4096)) ∧ (∀ f t, f < 3 → t < 3 → ∀ x ∈ wY (aMade W c k) (3 * f + t), mHm x = true → x % 4096 = M (x / 4096)) ∧ k % 4096 = M (k / 4096) := by
    refine ⟨fset M (k / 4096) (k % 4096), fun d hd x hx => ?_, fun d j hd hj => ?_, fun f t hf ht x hx hm => ?_, by rw [fset_s]⟩
    · have hx' : x = k ∨ x ∈ wL W d := by
        have : wL (aMade W c k) d = fset W.2.2.1 c (wL W c ++ [k]) d := rfl
        rw [this] at hx
        by_cases e : d = c
        · subst e
          rw [fset_s] at hx
          rcases List.mem_append.mp hx with q | q
          · exact Or.inr q
          · exact Or.inl (by simpa using q)
        · rw [fset_n _ _ e] at hx
          exact Or.inr hx
      rcases hx' with rfl | hx'
      · rw [fset_s]
      · have hv := (h.2.2.1 d hd).2.2 x hx'
        rw [fset_n _ _ (hne x hv.1.2.2.2.2.2 hv.2.2)]
        exact m1 d hd x hx'
    · have hv := (h.2.2.2.1 d hd)
      have hj' : wB W d j ≠ 0 := hj
      show wB W d j % 4096 = fset M _ _ (wB W d j / 4096)
      rw [fset_n _ _ (hne _ (hv.1 j hj').1.2.2.2.2.2 (hv.2 j hj'))]
      exact m2 d j hd hj'
    · have hx' : x ∈ wY W (3 * f + t) := hx
      have hv := (h.2.2.2.2.1 f t hf ht).2.2.2 x hx'
      rw [fset_n _ _ (hne x (by rw [hv.1.2.1]; exact hf) (by rw [hv.1.2.1]; exact hv.2))]
      exact m3 f t hf ht x hx' hm
  refine ⟨⟨fun d hd => ?_, fun d e hd he => Nat.le_succ_of_le (h.2.1 d e hd he), fun d hd => ?_, fun d hd => ?_, fun f t hf ht => ?_, ?_⟩, mm⟩
  · show fset W.1 c (cT k) d ≤ T + 1
    by_cases e : d = c
    · rw [e, fset_s, hT]
      have := h.1 c hc
      omega
    · rw [fset_n _ _ e]
      exact Nat.le_succ_of_le (h.1 d hd)
  · obtain ⟨l1, l2, l3⟩ := h.2.2.1 d hd
    by_cases e : d = c
    · subst e
      rw [show wL (aMade W d k) d = wL W d ++ [k] from fset_s _ _ _]
      refine ⟨by simp; omega, ?_, fun x hx => ?_⟩
      · rw [List.pairwise_append]
        refine ⟨l2, by simp, fun a ha b hb => ?_⟩
        have : b = k := by simpa using hb
        rw [this]
        have := (l3 a ha).2.1
        unfold cT at this hT
        omega
      · rcases List.mem_append.mp hx with q | q
        · exact ⟨(l3 x q).1, Nat.le_trans (l3 x q).2.1 (htm _), Nat.le_trans (l3 x q).2.2 (htm _)⟩
        · have : x = k := by simpa using q
          rw [this, hC, htc]
          exact ⟨hk, Nat.le_refl _, Nat.le_refl _⟩
    · rw [show wL (aMade W c k) d = wL W d from fset_n _ _ e]
      exact ⟨l1, l2, fun x q => ⟨(l3 x q).1, Nat.le_trans (l3 x q).2.1 (htm _), Nat.le_trans (l3 x q).2.2 (htm _)⟩⟩
  · exact ⟨(h.2.2.2.1 d hd).1, fun j hj => Nat.le_trans ((h.2.2.2.1 d hd).2 j hj) (htm _)⟩
  · obtain ⟨y1, y2, y3, y4⟩ := h.2.2.2.2.1 f t hf ht
    exact ⟨y1, y2, y3, fun x hx => ⟨(y4 x hx).1, Nat.le_trans (y4 x hx).2 (htm _)⟩⟩
  · obtain ⟨M', a, b, c', _⟩ := mm
    exact ⟨M', a, b, c'⟩
theorem V.make (h : V T W) {c k : Nat} (hc : c < 3) (hk : okM k) (hC : cC k = c) (hT : cT k = wT W c + 1) (hlen : (wL W c).length < 20) (hf : aFull W c = false) : V (T + 1) (aSndP (aMade W c k) c k 3) := by
  obtain ⟨h1, h2⟩ := h.made hc hk hC hT hlen
  exact h1.snd hc ⟨hk.1, hC, Or.inl hk⟩ (fset_s _ _ _).symm (fun d hd e => full_not h hc hf d hd e) (fun _ => h2)
/-- the log of a copy is another, of moves that are there -/
theorem V.log (h : V T W) {c : Nat} {l : List Nat} (hc : c < 3) (hl : l.length ≤ 20) (hs : l.Pairwise (· ≤ ·)) (hx : ∀ x ∈ l, x ∈ wL W c ∨ (cT x ≤ wT W c ∧ ∃ f, f < 3 ∧ x ∈ wY W (3 * f + c) ∧ mHm x = true)) : V T (W.1, W.2.1, fset W.2.2.1 c l, W.2.2.2) := by
  refine ⟨h.1, h.2.1, fun d hd => ?_, h.2.2.2.1, h.2.2.2.2.1, ?_⟩
  · by_cases e : d = c
    · subst e
      rw [show wL (W.1, W.2.1, fset W.2.2.1 d l, W.2.2.2) d = l from fset_s _ _ _]
      refine ⟨hl, hs, fun x hxl => ?_⟩
      rcases hx x hxl with q | ⟨q1, f, hf, q2, q3⟩
      · exact (h.2.2.1 d hd).2.2 x q
      · have hv := (h.2.2.2.2.1 f d hf hd).2.2.2 x q2
        refine ⟨mHm_ok hv.1 q3, q1, ?_⟩
        rw [hv.1.2.1]
        exact hv.2
    · rw [show wL (W.1, W.2.1, fset W.2.2.1 c l, W.2.2.2) d = wL W d from fset_n _ _ e]
      exact h.2.2.1 d hd
  · obtain ⟨M, m1, m2, m3⟩ := h.2.2.2.2.2
    refine ⟨M, fun d hd x hxl => ?_, m2, m3⟩
    by_cases e : d = c
    · subst e
      rw [show wL (W.1, W.2.1, fset W.2.2.1 d l, W.2.2.2) d = l from fset_s _ _ _] at hxl
      rcases hx x hxl with q | ⟨q1, f, hf, q2, q3⟩
      · exact m1 d hd x q
      · exact m3 f d hf hd x q2 q3
    · rw [show wL (W.1, W.2.1, fset W.2.2.1 c l, W.2.2.2) d = wL W d from fset_n _ _ e] at hxl
      exact m1 d hd x hxl
/-- a letter is heard -/
theorem V.hear (h : V T W) {f t k : Nat} {r : List Nat} (hf : f < 3) (ht : t < 3) (hft : f ≠ t) (hy : ∃ a, wY W (3 * f + t) = a ++ k :: r) : V T (aHear W f t k r) := by
  obtain ⟨a, hy⟩ := hy
  have hy0 := h.2.2.2.2.1 f t hf ht
  rw [hy] at hy0
  have hk := hy0.2.2.2 k (by simp)
  have hkT : cT k ≤ T := Nat.le_trans hk.2 (h.1 f hf)
  have htm : ∀ d, wT W d ≤ wT (aHear W f t k r) d := by
    intro d
    show W.1 d ≤ fset W.1 t _ d
    by_cases e : d = t
    · rw [e, fset_s]; exact Nat.le_max_left _ _
    · rw [fset_n _ _ e]; exact Nat.le_refl _
  refine ⟨fun d hd => ?_, fun d e hd he => ?_, fun d hd => ?_, fun d hd => ?_, fun f' t' hf' ht' => ?_, ?_⟩
  · show fset W.1 t _ d ≤ T
    by_cases e : d = t
    · rw [e, fset_s]; exact Nat.max_le.mpr ⟨h.1 t ht, hkT⟩
    · rw [fset_n _ _ e]; exact h.1 d hd
  · show fset W.2.1 t (fset (W.2.1 t) f (cT k)) d e ≤ T
    by_cases e1 : d = t
    · rw [e1, fset_s]
      by_cases e2 : e = f
      · rw [e2, fset_s]; exact hkT
      · rw [fset_n _ _ e2]; exact h.2.1 t e ht he
    · rw [fset_n _ _ e1]; exact h.2.1 d e hd he
  · obtain ⟨l1, l2, l3⟩ := h.2.2.1 d hd
    exact ⟨l1, l2, fun x hx => ⟨(l3 x hx).1, Nat.le_trans (l3 x hx).2.1 (htm _), Nat.le_trans (l3 x hx).2.2 (htm _)⟩⟩
  · exact ⟨(h.2.2.2.1 d hd).1, fun j hj => Nat.le_trans ((h.2.2.2.1 d hd).2 j hj) (htm _)⟩
  · by_cases e : 3 * f' + t' = 3 * f + t
    · rw [e, show wY (aHear W f t k r) (3 * f + t) = r from fset_s _ _ _]
      have ef : f' = f := by omega
      have et : t' = t := by omega
      subst ef et
      obtain ⟨y1, y2, y3, y4⟩ := hy0
      refine ⟨by simp at y1; omega, fun q => absurd q hft, ?_, fun x hx => ?_⟩
      · exact y3.sublist ((List.sublist_cons_self _ _).trans (List.sublist_append_right _ _))
      · have := y4 x (by simp [hx])
        exact ⟨this.1, Nat.le_trans this.2 (htm _)⟩
    · rw [show wY (aHear W f t k r) (3 * f' + t') = wY W (3 * f' + t') from fset_n _ _ e]
      obtain ⟨y1, y2, y3, y4⟩ := h.2.2.2.2.1 f' t' hf' ht'
      exact ⟨y1, y2, y3, fun x hx => ⟨(y4 x hx).1, Nat.le_trans (y4 x hx).2 (htm _)⟩⟩
  · obtain ⟨M, m1, m2, m3⟩ := h.2.2.2.2.2
    refine ⟨M, m1, m2, fun f' t' hf' ht' x hx hm => ?_⟩
    by_cases e : 3 * f' + t' = 3 * f + t
    · rw [e, show wY (aHear W f t k r) (3 * f + t) = r from fset_s _ _ _] at hx
      exact m3 f t hf ht x (by rw [hy]; simp [hx]) hm
    · rw [show wY (aHear W f t k r) (3 * f' + t') = wY W (3 * f' + t') from fset_n _ _ e] at hx
      exact m3 f' t' hf' ht' x hx hm
/-- the log is cut -/
def aCut (W : aW) (c m : Nat) : aW := (W.1, W.2.1, fset W.2.2.1 c ((wL W c).drop m), fset W.2.2.2.1 c (mBld 1000 ((wL W c).take m) 0 (wB W c)), W.2.2.2.2)
theorem V.cut (h : V T W) {c m : Nat} (hc : c < 3) : V T (aCut W c m) := by
  obtain ⟨M, m1, m2, m3⟩ := h.2.2.2.2.2
  have hL : ∀ d, ∀ x ∈ wL (aCut W c m) d, x ∈ wL W d := by
    intro d x hx
    have hx : x ∈ fset W.2.2.1 c ((wL W c).drop m) d := hx
    by_cases e : d = c
    · rw [e, fset_s] at hx; rw [e]; exact List.mem_of_mem_drop hx
    · rw [fset_n _ _ e] at hx; exact hx
  have hB : ∀ d j, wB (aCut W c m) d j = wB W d j ∨ wB (aCut W c m) d j ∈ wL W d := by
    intro d j
    show fset W.2.2.2.1 c _ d j = _ ∨ fset W.2.2.2.1 c _ d j ∈ _
    by_cases e : d = c
    · rw [e, fset_s]
      rcases bld_mem 1000 ((wL W c).take m) 0 (wB W c) j with q | q
      · exact Or.inl q
      · exact Or.inr (List.mem_of_mem_take q)
    · rw [fset_n _ _ e]; exact Or.inl rfl
  refine ⟨h.1, h.2.1, fun d hd => ?_, fun d hd => ⟨?_, fun j hj => ?_⟩, h.2.2.2.2.1, M, fun d hd x hx => m1 d hd x (hL d x hx), fun d j hd hj => ?_, m3⟩
  · obtain ⟨l1, l2, l3⟩ := h.2.2.1 d hd
    refine ⟨?_, ?_, fun x hx => l3 x (hL d x hx)⟩
    · show (fset W.2.2.1 c _ d).length ≤ 20
      by_cases e : d = c
      · rw [e] at l1 ⊢
        rw [fset_s, List.length_drop]
        exact Nat.le_trans (Nat.sub_le _ _) l1
      · rw [fset_n _ _ e]; exact l1
    · show (fset W.2.2.1 c _ d).Pairwise _
      by_cases e : d = c
      · rw [e] at l2 ⊢
        rw [fset_s]
        exact l2.sublist (List.drop_sublist _ _)
      · rw [fset_n _ _ e]; exact l2
  · show TI (fset W.2.2.2.1 c _ d)
    by_cases e : d = c
    · rw [e, fset_s]
      exact TI.bld 1000 _ 0 _ (h.2.2.2.1 c hc).1 (fun k hk => ((h.2.2.1 c hc).2.2 k (List.mem_of_mem_take hk)).1)
    · rw [fset_n _ _ e]; exact (h.2.2.2.1 d hd).1
  · rcases hB d j with q | q
    · rw [q] at hj ⊢; exact (h.2.2.2.1 d hd).2 j hj
    · exact ((h.2.2.1 d hd).2.2 _ q).2.2
  · rcases hB d j with q | q
    · rw [q] at hj ⊢; exact m2 d j hd hj
    · exact m1 d hd _ q
end WV
