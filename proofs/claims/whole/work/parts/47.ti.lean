/-! TREES WITHOUT RINGS -/
def okM (k : Nat) : Prop := k < 2 ^ 31 ∧ 2 ≤ cF k ∧ cF k < 14 ∧ cP k < 14 ∧ cN k < 10 ∧ cC k < 3
def TI (E : Nat → Nat) : Prop := ∀ j, E j ≠ 0 → okM (E j) ∧ cF (E j) = j ∧ mTh E (cP (E j)) = true ∧ mUp E 12 j < 2
theorem mUp_2 (E : Nat → Nat) {a : Nat} (h : a < 2) : ∀ k, mUp E k a = a := by
  intro k
  cases k with
  | zero => rfl
  | succ k => simp [mUp, h]
theorem mUp_add (E : Nat → Nat) : ∀ (b a n : Nat), mUp E (a + b) n = mUp E a (mUp E b n) := by
  intro b
  induction b with
  | zero => intro a n; rfl
  | succ b ih =>
    intro a n
    show mUp E ((a + b) + 1) n = _
    by_cases h : n < 2
    · rw [mUp_2 E h, mUp_2 E h, mUp_2 E h]
    · simp only [mUp, h, if_false]
      exact ih a _
theorem mUp_mono (E : Nat → Nat) {a b n : Nat} (h : mUp E a n < 2) (hb : a ≤ b) : mUp E b n < 2 := by
  obtain ⟨c, rfl⟩ : ∃ c, b = c + a := ⟨b - a, by omega⟩
  rw [mUp_add, mUp_2 E h]
  exact h
theorem ph : ∀ (N : Nat) (l : List Nat), l.Nodup → (∀ x ∈ l, x < N) → l.length ≤ N := by
  intro N
  induction N with
  | zero =>
    intro l _ h
    cases l with
    | nil => simp
    | cons x l => exact absurd (h x (by simp)) (by omega)
  | succ N ih =>
    intro l hd h
    have h1 := ih (l.erase N) (hd.erase N) (fun x hx => by
      have := hd.mem_erase_iff.mp hx
      have := h x this.2
      omega)
    rw [List.length_erase] at h1
    split at h1 <;> omega
theorem up12 {E : Nat → Nat} {n : Nat} (hb : ∀ i, mUp E i n < 14) : ∀ k, mUp E k n < 2 → mUp E 12 n < 2 := by
  intro k
  induction k using Nat.strongRecOn with
  | _ k ih =>
    intro hk
    by_cases h12 : k ≤ 12
    · exact mUp_mono E hk h12
    by_cases hex : ∃ i j, i < j ∧ j < k ∧ mUp E i n = mUp E j n
    · obtain ⟨i, j, h1, h2, h3⟩ := hex
      refine ih (k - j + i) (by omega) ?_
      rw [mUp_add, h3, ← mUp_add, show k - j + j = k by omega]
      exact hk
    by_cases hlow : ∃ i, i < k ∧ mUp E i n < 2
    · obtain ⟨i, h1, h2⟩ := hlow
      exact ih i h1 h2
    exfalso
    have hn : ((List.range k).map (fun i => mUp E i n - 2)).Nodup := by
      refine List.pairwise_map.mpr (List.Pairwise.imp_of_mem ?_ List.pairwise_lt_range)
      intro a b ha hb' hab e
      have ha := List.mem_range.mp ha
      have hb' := List.mem_range.mp hb'
      have h1 : ¬ mUp E a n < 2 := fun q => hlow ⟨a, ha, q⟩
      have h2 : ¬ mUp E b n < 2 := fun q => hlow ⟨b, hb', q⟩
      exact hex ⟨a, b, hab, hb', by omega⟩
    have := ph 12 _ hn (fun x hx => by
      obtain ⟨i, hi, rfl⟩ := List.mem_map.mp hx
      have := hb i
      omega)
    rw [List.length_map, List.length_range] at this
    omega
theorem TI.cp {E : Nat → Nat} (h : TI E) (a : Nat) : cP (E a) < 14 := by
  by_cases e : E a = 0
  · rw [e]; decide
  · exact (h a e).1.2.2.2.1
theorem TI.lt {E : Nat → Nat} (h : TI E) {a : Nat} (e : E a ≠ 0) : 2 ≤ a ∧ a < 14 := by
  obtain ⟨h1, h2, -⟩ := h a e
  have := h1.2.1
  have := h1.2.2.1
  omega
theorem TI.b {E : Nat → Nat} (h : TI E) (a : Nat) : E a < 2 ^ 31 := by
  by_cases e : E a = 0
  · rw [e]; decide
  · exact (h a e).1.1
theorem up_lt {E : Nat → Nat} (h : ∀ a, cP (E a) < 14) : ∀ i a, a < 14 → mUp E i a < 14 := by
  intro i
  induction i with
  | zero => intro a ha; exact ha
  | succ i ih =>
    intro a ha
    by_cases h2 : a < 2
    · rw [mUp_2 E h2]; exact ha
    · simp only [mUp, h2, if_false]
      exact ih _ (h a)
theorem TI.up {E : Nat → Nat} (h : TI E) {a : Nat} (ha : mTh E a = true) : mUp E 12 a < 2 := by
  by_cases h2 : a < 2
  · rw [mUp_2 E h2]; exact h2
  · have : E a ≠ 0 := by simpa [mTh, h2] using ha
    exact (h a this).2.2.2
theorem TI.th {E : Nat → Nat} (h : TI E) {a : Nat} (ha : mTh E a = true) (h2 : ¬ a < 2) : mTh E (cP (E a)) = true ∧ a < 14 := by
  have : E a ≠ 0 := by simpa [mTh, h2] using ha
  exact ⟨(h a this).2.2.1, (h.lt this).2⟩
theorem mTh_lt {E : Nat → Nat} (h : TI E) {a : Nat} (ha : mTh E a = true) : a < 14 := by
  by_cases h2 : a < 2
  · omega
  · exact (h.th ha h2).2
theorem TI.zero : TI (fun _ => 0) := fun _ h => absurd rfl h
theorem go_up {E : Nat → Nat} {f k : Nat} : ∀ d a, mGo E f d a = true → ∃ j, mUp (mSet E f k) j a < 2 := by
  intro d
  induction d with
  | zero => intro a h; cases h
  | succ d ih =>
    intro a h
    by_cases h2 : a < 2
    · exact ⟨0, h2⟩
    · by_cases e1 : a = f
      · simp [mGo, e1] at h
      · by_cases e2 : mTh E a = false
        · simp [mGo, e1, e2] at h
        · simp only [mGo, e1, e2, h2, if_false] at h
          obtain ⟨j, hj⟩ := ih _ h
          refine ⟨j + 1, ?_⟩
          have : mSet E f k a = E a := if_neg e1
          simp only [mUp, h2, if_false, this]
          exact hj
theorem go_up' {E : Nat → Nat} {f k : Nat} (hg : ∃ j, mUp (mSet E f k) j (cP k) < 2) (hf : 2 ≤ f) : ∀ d a, mUp E d a < 2 → ∃ j, mUp (mSet E f k) j a < 2 := by
  intro d
  induction d with
  | zero => intro a h; exact ⟨0, h⟩
  | succ d ih =>
    intro a h
    by_cases h2 : a < 2
    · exact ⟨0, h2⟩
    · by_cases e1 : a = f
      · obtain ⟨j, hj⟩ := hg
        refine ⟨j + 1, ?_⟩
        have : mSet E f k a = k := if_pos e1
        simp only [mUp, h2, if_false, this]
        exact hj
      · simp only [mUp, h2, if_false] at h
        obtain ⟨j, hj⟩ := ih _ h
        refine ⟨j + 1, ?_⟩
        have : mSet E f k a = E a := if_neg e1
        simp only [mUp, h2, if_false, this]
        exact hj
theorem go_th {E : Nat → Nat} {f d a : Nat} (h : mGo E f d a = true) : mTh E a = true ∧ a ≠ f := by
  cases d with
  | zero => cases h
  | succ d =>
    by_cases e1 : a = f
    · simp [mGo, e1] at h
    · by_cases e2 : mTh E a = false
      · simp [mGo, e1, e2] at h
      · exact ⟨by simpa using e2, e1⟩
theorem TI.step {E : Nat → Nat} (h : TI E) {k : Nat} (hk : okM k) : TI (mDo E k) := by
  unfold mDo
  by_cases ho : mOk E k = true
  · rw [if_pos ho]
    have hg : ∃ j, mUp (mSet E (cF k) k) j (cP k) < 2 := go_up _ _ ho
    have hth := go_th ho
    have hm : ∀ j, mSet E (cF k) k j = if j = cF k then k else E j := fun _ => rfl
    have k0 : k ≠ 0 := by
      intro e
      have := hk.2.1
      rw [e] at this
      exact absurd this (by decide)
    have hmt : ∀ x, mTh E x = true → mTh (mSet E (cF k) k) x = true := by
      intro x hx
      simp only [mTh, Bool.or_eq_true, decide_eq_true_eq] at hx ⊢
      rcases hx with hx | hx
      · exact Or.inl hx
      · refine Or.inr ?_
        rw [hm]
        split
        · exact k0
        · exact hx
    have hcp : ∀ a, cP (mSet E (cF k) k a) < 14 := by
      intro a
      rw [hm]
      split
      · exact hk.2.2.2.1
      · exact h.cp a
    intro j hj
    by_cases e : j = cF k
    · have e1 : mSet E (cF k) k j = k := if_pos e
      rw [e1]
      refine ⟨hk, e.symm, hmt _ hth.1, ?_⟩
      have hj14 : j < 14 := by have := hk.2.2.1; omega
      obtain ⟨q, hq⟩ := hg
      refine up12 (fun i => up_lt hcp i j hj14) (q + 1) ?_
      have : ¬ j < 2 := by have := hk.2.1; omega
      simp only [mUp, this, if_false, e1]
      exact hq
    · have e1 : mSet E (cF k) k j = E j := if_neg e
      rw [e1] at hj ⊢
      obtain ⟨g1, g2, g3, g4⟩ := h j hj
      refine ⟨g1, g2, hmt _ g3, ?_⟩
      obtain ⟨q, hq⟩ := go_up' hg hk.2.1 12 j g4
      exact up12 (fun i => up_lt hcp i j (h.lt hj).2) q hq
  · rw [if_neg ho]
    exact h
theorem TI.bld (w : Nat) : ∀ (l : List Nat) (i : Nat) (E : Nat → Nat), TI E → (∀ k ∈ l, okM k) → TI (mBld w l i E) := by
  intro l
  induction l with
  | nil => intro i E h _; exact h
  | cons k l ih =>
    intro i E h hk
    refine ih (i + 1) _ ?_ (fun x hx => hk x (by simp [hx]))
    split
    · exact h
    · exact h.step (hk k (by simp))
theorem mWi_st (E : Nat → Nat) (t : Nat) : ∀ d a e, mUp E d a < 2 → mWi E t (d + e) a = mWi E t d a := by
  intro d
  induction d with
  | zero =>
    intro a e h
    have h : a < 2 := h
    cases e with
    | zero => rfl
    | succ e =>
      rw [show 0 + (e + 1) = e + 1 by omega]
      by_cases e1 : a = t <;> simp [mWi, e1, h]
  | succ d ih =>
    intro a e h
    rw [show d + 1 + e = (d + e) + 1 by omega]
    by_cases e1 : a = t
    · simp [mWi, e1]
    · by_cases h2 : a < 2
      · simp [mWi, e1, h2]
      · simp only [mUp, h2, if_false] at h
        simp only [mWi, e1, h2, if_false]
        exact ih _ e h
theorem mSu_st (E : Nat → Nat) : ∀ d a e, mUp E d a < 2 → mSu E (d + e) a = mSu E d a := by
  intro d
  induction d with
  | zero =>
    intro a e h
    have h : a < 2 := h
    cases e with
    | zero => rfl
    | succ e =>
      rw [show 0 + (e + 1) = e + 1 by omega]
      simp [mSu, h]
  | succ d ih =>
    intro a e h
    rw [show d + 1 + e = (d + e) + 1 by omega]
    by_cases h2 : a < 2
    · simp [mSu, h2]
    · simp only [mUp, h2, if_false] at h
      simp only [mSu, h2, if_false]
      rw [ih _ e h]
theorem go_wi {E : Nat → Nat} (h : TI E) {f : Nat} (hf : 2 ≤ f) : ∀ d a, mUp E d a < 2 → mTh E a = true → mGo E f (d + 1) a = !(mWi E f (d + 1) a) := by
  intro d
  induction d with
  | zero =>
    intro a h1 h2
    have h1 : a < 2 := h1
    simp [mGo, mWi, h1, h2, show a ≠ f by omega]
  | succ d ih =>
    intro a h1 h2
    by_cases e1 : a = f
    · subst e1; simp [mGo, mWi]
    · by_cases e2 : a < 2
      · simp [mGo, mWi, e1, e2, h2]
      · have h3 := (h.th h2 e2).1
        simp only [mUp, e2, if_false] at h1
        have := ih _ h1 h3
        unfold mGo mWi
        simp only [e1, e2, h2, if_false, Bool.true_eq_false]
        exact this
theorem wi_not {E : Nat → Nat} (h : TI E) {f : Nat} (hf : 2 ≤ f) (hn : E f = 0) : ∀ d a, mTh E a = true → mWi E f d a = false := by
  intro d
  have hne : ∀ a, mTh E a = true → a ≠ f := by
    intro a ha e
    subst e
    simp [mTh, hn] at ha
    omega
  induction d with
  | zero => intro a ha; simp [mWi, hne a ha]
  | succ d ih =>
    intro a ha
    by_cases e2 : a < 2
    · simp [mWi, hne a ha, e2]
    · simp only [mWi, hne a ha, e2, if_false]
      exact ih _ (h.th ha e2).1
/-- whether a move can be done, as the reference tests it -/
theorem ok_go {E : Nat → Nat} (h : TI E) {f p : Nat} (hf : 2 ≤ f) : mGo E f 14 p = (mTh E p && !(decide (p = f) || (mTh E f && mWi E f 14 p))) := by
  by_cases e1 : mTh E p = true
  · have hu := mUp_mono E (h.up e1) (show 12 ≤ 13 by omega)
    rw [go_wi h hf 13 p hu e1, e1]
    by_cases e2 : p = f
    · subst e2; simp [mWi]
    · by_cases e3 : mTh E f = true
      · simp [e2, e3]
      · have : E f = 0 := by
          simp [mTh] at e3
          exact e3.2
        rw [wi_not h hf this _ _ e1]
        simp [e2, e3]
  · have e1' : mTh E p = false := by simpa using e1
    rw [e1']
    by_cases e2 : p = f
    · simp [mGo, e2]
    · simp [mGo, e1', e2]
