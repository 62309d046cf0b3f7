/-! TEXTS AS THEY ARE READ -/
def tc (X : List Nat) (p : Nat) : Int32 := match X[p]? with
  | some k => nI k
  | none => -1
def dgC (c : Nat) : Bool := decide (48 ≤ c ∧ c ≤ 57)
theorem tc_eq {X : List Nat} (hX : ∀ k ∈ X, k < 256) {p k : Nat} (hk : k < 2 ^ 31) : (tc X p = nI k) = (X[p]? = some k) := by
  unfold tc
  cases e : X[p]? with
  | none => exact propext ⟨fun q => absurd q.symm (by rw [i_eqm1 hk]; exact id), fun q => nomatch q⟩
  | some c =>
    have := hX c (List.mem_of_getElem? e)
    show (nI c = nI k) = _
    rw [i_eq (by omega) hk]
    exact propext ⟨fun q => by rw [q], fun q => Option.some.inj q⟩
section TX
variable {S : o_S} {n : Nat × Nat × Nat} {A : aS}
theorem CR.x256 (H : CR S A) : ∀ k ∈ sX A, k < 256 := fun k hk => by
  obtain ⟨j, hj⟩ := List.getElem?_of_mem hk
  exact (H.2.2.2.2.2.2 j k hj).2
theorem x_atT (H : CR S A) {p : Nat} (hp : p < 2 ^ 31) : f_X6_at (ov S n) 95 (nI p) = some (ov S n, tc (sX A) p) := by
  have hX := H.2.2.2.2
  have h80 := hX.1
  unfold f_X6_at b_X6_at_0 tc
  rw [zC, if_neg (nI_pos hp), H.xl, bS]
  by_cases e : (sX A).length ≤ p
  · rw [if_pos (by rw [i_le (by omega) hp]; exact e), List.getElem?_eq_none e]
  · have hx : (sX A)[p]? = some (sX A)[p] := List.getElem?_eq_getElem (by omega)
    rw [if_neg (by rw [i_le (by omega) hp]; exact e), zR0, bS, zLn, bS, if_neg (by rw [i_le (by omega) hp]; omega), bS, zLd (by omega), bS, (hX.2.2 p _ hx).1, hx]
def dgX (X : List Nat) (p : Nat) : Bool := match X[p]? with
  | some k => dgC k
  | none => false
theorem x_dig (H : CR S A) {p : Nat} (hp : p < 2 ^ 31) : f_X6_isDigit (ov S n) 95 (nI p) = some (ov S n, b2i (dgX (sX A) p)) := by
  have hat := x_atT (n := n) H hp
  unfold f_X6_isDigit b_X6_isDigit_0
  simp only [zC, hat, bS]
  unfold tc dgX
  cases e : (sX A)[p]? with
  | none => simp only; rw [if_pos (by decide)]; rfl
  | some c =>
    have := H.x256 c (List.mem_of_getElem? e)
    simp only
    rw [show (48 : Int32) = nI 48 from rfl, show (57 : Int32) = nI 57 from rfl]
    by_cases e1 : c < 48
    · rw [if_pos (by rw [i_lt (by omega) (by omega)]; exact e1), show dgC c = false from decide_eq_false (by omega)]; rfl
    · rw [if_neg (by rw [i_lt (by omega) (by omega)]; exact e1)]
      by_cases e2 : 57 < c
      · rw [if_pos (by rw [i_lt (by omega) (by omega)]; exact e2), show dgC c = false from decide_eq_false (by omega)]; rfl
      · rw [if_neg (by rw [i_lt (by omega) (by omega)]; exact e2), show dgC c = true from decide_eq_true (by omega)]; rfl
theorem x_tx0 (H : CR S A) : CR (o_sf S 95 1 0) (sTxt A []) := by
  have := x_txt H (m := 0) (Nat.zero_le _)
  rw [List.take_zero] at this
  exact this
/-! the reference reads -/
def RT (S : o_S) (X : List Nat) (a : Nat) : Prop := X.length ≤ 80 ∧ S.1 296 6 = nI X.length ∧ S.1 296 5 = nI a ∧ ∀ j k, X[j]? = some k → S.2.1 298 j = nI k ∧ k < 256
theorem RT.x256 {X : List Nat} {a : Nat} (h : RT S X a) : ∀ k ∈ X, k < 256 := fun k hk => by
  obtain ⟨j, hj⟩ := List.getElem?_of_mem hk
  exact (h.2.2.2 j k hj).2
theorem RT.mv {X : List Nat} {a b : Nat} (h : RT S X a) : RT (o_sf S 296 5 (nI b)) X b := ⟨h.1, by rw [s_F, if_pos rfl, pk_un (by omega)]; exact h.2.1, by rw [s_F, if_pos rfl, pk_us], h.2.2.2⟩
theorem RT.cg {S S' : o_S} {X : List Nat} {a : Nat} (h : RT S X a) (e1 : S'.1 296 = S.1 296) (e2 : S'.2.1 298 = S.2.1 298) : RT S' X a := ⟨h.1, by rw [e1]; exact h.2.1, by rw [e1]; exact h.2.2.1, by rw [e2]; exact h.2.2.2⟩
theorem r_reads (H : RR S A) : ∃ S', f_X10_reads (ov S n) 296 = some (ov S' n, ()) ∧ RR S' (sTxt A []) ∧ RT S' (sX A) 0 ∧ AG (fun b => b = 296) S S' := by
  have hX := H.2.2.2
  refine ⟨o_sf (o_sf (o_sf S 296 6 (nI (sX A).length)) 296 4 0) 296 5 0, ?_, ?_, ⟨hX.1, ?_, ?_, hX.2.2⟩, ((AG_sf _ _ _ _).tr (AG_sf _ _ _ _) (C := fun b => b = 296) (fun _ q => q) (fun _ q => q)).tr (AG_sf _ _ _ _) (fun _ q => q) (fun _ q => q)⟩
  · unfold f_X10_reads b_X10_reads_0
    simp only [r_chk, rI4, hX.2.1, bS, rP6, rP4, rP5]
  · have H1 : RR (o_sf S 296 6 (nI (sX A).length)) A := H.fld _ (by omega) (by omega)
    have hag : AG (fun b => b = 296 ∨ b = 298) (o_sf S 296 6 (nI (sX A).length)) (o_sf (o_sf S 296 6 (nI (sX A).length)) 296 4 0) := (AG_sf _ _ _ _).mono (fun b q => Or.inl q)
    have H2 : RR (o_sf (o_sf S 296 6 (nI (sX A).length)) 296 4 0) (sTxt A []) := H1.txt hag (by rw [s_F, if_pos rfl, pk_un (by omega)]) ⟨Nat.zero_le _, by rw [s_F, if_pos rfl, pk_us]; rfl, fun j k hk => nomatch hk⟩
    exact H2.fld _ (by omega) (by omega)
  · rw [s_F, if_pos rfl, pk_un (by omega), s_F, if_pos rfl, pk_un (by omega), s_F, if_pos rfl, pk_us]
  · rw [s_F, if_pos rfl, pk_us]; rfl
/-- where a sign stands in a row of signs -/
def fI (l : List Nat) (c : Nat) : Option Nat := mFind (fun i => decide (l.getD i 0 = c)) 0 l.length
def isS (u : UInt32) (l : List Nat) : Prop := q_slen u = some (nI l.length) ∧ l.length ≤ 12 ∧ ∀ k, k < l.length → q_sch u (nI k) = some (nI (l.getD k 0)) ∧ l.getD k 0 < 256
def sA0 : List Nat := [109, 98, 99, 103, 120]
def sA1 : List Nat := [48, 49, 50]
def sA2 : List Nat := [97, 98, 99, 100, 101, 102, 103, 104, 105, 106, 107, 108]
def sA3 : List Nat := [48, 49, 50, 51, 52, 53, 54, 55, 56, 57]
def sA4 : List Nat := [49, 50, 51, 52, 53, 54, 55, 56, 57]
theorem is0 : isS 0 sA0 := ⟨by decide +kernel, by decide, by decide +kernel⟩
theorem is1 : isS 1 sA1 := ⟨by decide +kernel, by decide, by decide +kernel⟩
theorem is2 : isS 2 sA2 := ⟨by decide +kernel, by decide, by decide +kernel⟩
theorem is3 : isS 3 sA3 := ⟨by decide +kernel, by decide, by decide +kernel⟩
theorem is4 : isS 4 sA4 := ⟨by decide +kernel, by decide, by decide +kernel⟩
theorem f_0 : ∀ c, c < 256 → fI sA0 c = if c = 109 then some 0 else if c = 98 then some 1 else if c = 99 then some 2 else if c = 103 then some 3 else if c = 120 then some 4 else none := by decide +kernel
theorem f_1 : ∀ c, c < 256 → fI sA1 c = if 48 ≤ c ∧ c ≤ 50 then some (c - 48) else none := by decide +kernel
theorem f_2 : ∀ c, c < 256 → fI sA2 c = if 97 ≤ c ∧ c ≤ 108 then some (c - 97) else none := by decide +kernel
theorem f_3 : ∀ c, c < 256 → fI sA3 c = if 48 ≤ c ∧ c ≤ 57 then some (c - 48) else none := by decide +kernel
theorem f_4 : ∀ c, c < 256 → fI sA4 c = if 49 ≤ c ∧ c ≤ 57 then some (c - 49) else none := by decide +kernel
def tkO (l X : List Nat) (a : Nat) : Option Nat := match X[a]? with
  | some c => fI l c
  | none => none
theorem r_tkL {X : List Nat} {a : Nat} (h : RT S X a) (ha : a < 2 ^ 31) {u : UInt32} {l : List Nat} (hu : isS u l) : ∀ d k fuel, k + d = l.length → d < fuel → l_X10_takesOf_2 fuel (ov S n) 296 u (nI k) = match X[a]? with
    | some c => (match mFind (fun i => decide (l.getD i 0 = c)) k d with
      | some m => some (ov (o_sf S 296 5 (nI (a + 1))) n, nI m)
      | none => some (ov S n, -1))
    | none => some (ov S n, -1) := by
  have hl12 := hu.2.1
  have h80 := h.1
  intro d
  induction d with
  | zero =>
    intro k fuel hk hf
    obtain ⟨f, rfl⟩ : ∃ f, fuel = f + 1 := ⟨fuel - 1, by omega⟩
    show b_X10_takesOf_2 _ _ _ _ _ = _
    unfold b_X10_takesOf_2
    rw [hu.1, bS, if_pos (by rw [i_le (by omega) (by omega)]; omega)]
    cases X[a]? with
    | none => rfl
    | some c => rfl
  | succ d ih =>
    intro k fuel hk hf
    obtain ⟨f, rfl⟩ : ∃ f, fuel = f + 1 := ⟨fuel - 1, by omega⟩
    obtain ⟨c1, c2⟩ := hu.2.2 k (by omega)
    have := ih (k + 1) f (by omega) (by omega)
    show b_X10_takesOf_2 _ _ _ _ _ = _
    unfold b_X10_takesOf_2
    rw [hu.1, bS, if_neg (by rw [i_le (by omega) (by omega)]; omega), rI5, bS, rI6, bS, h.2.2.1, h.2.1]
    by_cases e : X.length ≤ a
    · rw [if_pos (by rw [i_le (by omega) ha]; exact e), List.getElem?_eq_none e]
    · have hx : X[a]? = some X[a] := List.getElem?_eq_getElem (by omega)
      obtain ⟨v1, v2⟩ := h.2.2.2 a _ hx
      rw [hx] at this ⊢
      simp only at this ⊢
      rw [if_neg (by rw [i_le (by omega) ha]; exact e), c1, bS, rR3, bS, bS, rtL (by omega), bS, v1, show mFind (fun i => decide (l.getD i 0 = X[a])) k (d + 1) = if decide (l.getD k 0 = X[a]) then some k else mFind (fun i => decide (l.getD i 0 = X[a])) (k + 1) d from rfl]
      by_cases e2 : l.getD k 0 = X[a]
      · rw [if_pos (by rw [e2]), bS, nI_1, rP5, bS, decide_eq_true e2, if_pos rfl]
      · rw [if_neg (by rw [i_eq (by omega) (by omega)]; exact e2), decide_eq_false e2, if_neg (by decide), nI_1]
        exact this
theorem r_takes {X : List Nat} {a : Nat} (h : RT S X a) (ha : a < 2 ^ 31) {u : UInt32} {l : List Nat} (hu : isS u l) : f_X10_takesOf (ov S n) 296 u = match tkO l X a with
      | some m => some (ov (o_sf S 296 5 (nI (a + 1))) n, nI m)
      | none => some (ov S n, -1) := by
  have hl12 := hu.2.1
  have := r_tkL (n := n) h ha hu l.length 0 q_FU (by omega) (q_FU_lt (by omega))
  unfold f_X10_takesOf b_X10_takesOf_0
  rw [r_chk]
  refine this.trans ?_
  unfold tkO
  cases X[a]? with
  | none => rfl
  | some c => rfl
end TX
