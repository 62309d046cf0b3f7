/-! A DAY: what is read -/
abbrev aA : Type := Nat × Nat × Nat × Nat × Nat
def gt (F : Nat → Option Nat) (X : List Nat) (a : Nat) : Option Nat := match X[a]? with
  | some c => F c
  | none => none
def rdC (c : Nat) : Option Nat := if c = 47 then some 0 else if c = 126 then some 1 else if 97 ≤ c ∧ c ≤ 108 then some (2 + (c - 97)) else none
def pA (X : List Nat) (p : Nat) : Nat ⊕ (Nat × aA) :=
  match gt (fI sA0) X p with
  | none => .inl p
  | some k => match gt (fI sA1) X (p + 1) with
    | none => .inl (p + 1)
    | some a => if k = 2 then (match gt (fI sA1) X (p + 2) with
        | none => .inl (p + 2)
        | some b => .inr (p + 3, k, a, b, 0, 0))
      else if k = 0 then (match gt (fI sA2) X (p + 2) with
        | none => .inl (p + 2)
        | some f => match gt rdC X (p + 3) with
          | none => .inl (p + 3)
          | some g => match gt (fI sA3) X (p + 4) with
            | none => .inl (p + 4)
            | some m => .inr (p + 5, k, a, f, g, m))
      else .inr (p + 2, k, a, 0, 0, 0)
def pD (X : List Nat) : Nat → Nat → Nat ⊕ List aA
  | 0, _ => .inr []
  | f + 1, p => if X.length ≤ p then .inr [] else match pA X p with
    | .inl e => .inl e
    | .inr (q, a) => match pD X f q with
      | .inl e => .inl e
      | .inr l => .inr (a :: l)
def sgK (k : Nat) : Nat := if k = 2 then 3 else if k = 0 then 5 else 2
def csB (X : List Nat) (p k j : Nat) : Bool := if k = 0 then (if j = 1 then (gt (fI sA1) X (p + 1)).isSome else if j = 2 then (gt (fI sA2) X (p + 2)).isSome else if j = 3 then (gt rdC X (p + 3)).isSome else (gt (fI sA3) X (p + j)).isSome) else (gt (fI sA1) X (p + j)).isSome
def sgX (x : Int32) : Int32 := if x = 98 then 2 else if x = 99 then 3 else if x = 103 then 2 else if x = 109 then 5 else if x = 120 then 2 else 0
def noX (x : Int32) : Int32 := if x = 47 then 0 else if x = 126 then 1 else if x < 97 then -1 else if 108 < x then -1 else (x - 97) + 2
def nb2 (x : Int32) : Int32 := if x < 48 then 0 else if 50 < x then 0 else 1
def nb9 (x : Int32) : Int32 := if x < 48 then 0 else if 57 < x then 0 else 1
theorem sgX_c : ∀ c, c < 256 → sgX (nI c) = match fI sA0 c with
    | some k => nI (sgK k)
    | none => 0 := by decide +kernel
theorem noX_c : ∀ c, c < 256 → noX (nI c) = match rdC c with
    | some k => nI k
    | none => -1 := by decide +kernel
theorem nb2_c : ∀ c, c < 256 → nb2 (nI c) = b2i (fI sA1 c).isSome := by decide +kernel
theorem nb9_c : ∀ c, c < 256 → nb9 (nI c) = b2i (fI sA3 c).isSome := by decide +kernel
theorem noF_c : ∀ c, c < 256 → inR 2 14 (noX (nI c)) = (fI sA2 c).isSome := by decide +kernel
theorem noN_c : ∀ c, c < 256 → inR 0 14 (noX (nI c)) = (rdC c).isSome := by decide +kernel
theorem d1_c : ∀ c, c < 256 → ∀ d, d < 3 → fI sA1 c = some d → nI c - 48 = nI d := by decide +kernel
theorem d3_c : ∀ c, c < 256 → ∀ d, d < 10 → fI sA3 c = some d → nI c - 48 = nI d := by decide +kernel
theorem k_c : ∀ c, c < 256 → (fI sA0 c = some 0 ↔ c = 109) ∧ (fI sA0 c = some 1 ↔ c = 98) ∧ (fI sA0 c = some 2 ↔ c = 99) ∧ (fI sA0 c = some 3 ↔ c = 103) ∧ (fI sA0 c = some 4 ↔ c = 120) := by decide +kernel
theorem a2_c : ∀ c, c < 256 → ∀ f, f < 12 → fI sA2 c = some f → rdC c = some (2 + f) := by decide +kernel
theorem fI_lt {l : List Nat} {c k : Nat} (h : fI l c = some k) : k < l.length := by
  have := find_in _ _ _ h
  omega
theorem rdC_lt {c k : Nat} (h : rdC c = some k) : k < 14 := by
  unfold rdC at h
  split at h
  · cases h; omega
  · split at h
    · cases h; omega
    · split at h
      · cases h; omega
      · cases h
theorem gt_c {F : Nat → Option Nat} {X : List Nat} {a k : Nat} (h : gt F X a = some k) : ∃ c, X[a]? = some c ∧ F c = some k := by
  unfold gt at h
  cases e : X[a]? with
  | none => rw [e] at h; cases h
  | some c => rw [e] at h; exact ⟨c, rfl, h⟩
section DA
variable {S : o_S} {n : Nat × Nat × Nat} {A : aS} {T : Nat} {X : List Nat}
theorem x_sg (h : q_H) (x : Int32) : f_X9_signsOfAct h x = some (h, sgX x) := by
  unfold f_X9_signsOfAct b_X9_signsOfAct_0 sgX
  split
  · rfl
  split
  · rfl
  split
  · rfl
  split
  · rfl
  split <;> rfl
theorem x_no (h : q_H) (x : Int32) : f_X9_nodeOfSign h x = some (h, noX x) := by
  unfold f_X9_nodeOfSign b_X9_nodeOfSign_0 noX
  split
  · rfl
  split
  · rfl
  split
  · rfl
  split <;> rfl
theorem x_c11 (h : q_H) (x : Int32) : b_X9_canStand_11 h x = some (h, nb2 x) := by
  unfold b_X9_canStand_11 nb2
  split
  · rfl
  split <;> rfl
theorem x_c9 (h : q_H) (x : Int32) : (if x < 48 then some (h, (0 : Int32)) else if 57 < x then some (h, 0) else some (h, 1)) = some (h, nb9 x) := by
  unfold nb9
  split
  · rfl
  split <;> rfl
theorem tc_n {a : Nat} (h : X[a]? = none) : tc X a = -1 := by unfold tc; rw [h]
theorem tc_s {a c : Nat} (h : X[a]? = some c) : tc X a = nI c := by unfold tc; rw [h]
theorem g_n {F : Nat → Option Nat} {a : Nat} (h : X[a]? = none) : gt F X a = none := by unfold gt; rw [h]
theorem g_s {F : Nat → Option Nat} {a c : Nat} (h : X[a]? = some c) : gt F X a = F c := by unfold gt; rw [h]
theorem sgX_t (hX : ∀ k ∈ X, k < 256) (a : Nat) : sgX (tc X a) = match gt (fI sA0) X a with
    | some k => nI (sgK k)
    | none => 0 := by
  cases e : X[a]? with
  | none => rw [tc_n e, g_n e]; decide
  | some c => rw [tc_s e, g_s e]; exact sgX_c c (hX c (List.mem_of_getElem? e))
theorem noX_t (hX : ∀ k ∈ X, k < 256) (a : Nat) : noX (tc X a) = match gt rdC X a with
    | some k => nI k
    | none => -1 := by
  cases e : X[a]? with
  | none => rw [tc_n e, g_n e]; decide
  | some c => rw [tc_s e, g_s e]; exact noX_c c (hX c (List.mem_of_getElem? e))
theorem nb2_t (hX : ∀ k ∈ X, k < 256) (a : Nat) : nb2 (tc X a) = b2i (gt (fI sA1) X a).isSome := by
  cases e : X[a]? with
  | none => rw [tc_n e, g_n e]; decide
  | some c => rw [tc_s e, g_s e]; exact nb2_c c (hX c (List.mem_of_getElem? e))
theorem nb9_t (hX : ∀ k ∈ X, k < 256) (a : Nat) : nb9 (tc X a) = b2i (gt (fI sA3) X a).isSome := by
  cases e : X[a]? with
  | none => rw [tc_n e, g_n e]; decide
  | some c => rw [tc_s e, g_s e]; exact nb9_c c (hX c (List.mem_of_getElem? e))
theorem noF_t (hX : ∀ k ∈ X, k < 256) (a : Nat) : inR 2 14 (noX (tc X a)) = (gt (fI sA2) X a).isSome := by
  cases e : X[a]? with
  | none => rw [tc_n e, g_n e]; decide
  | some c => rw [tc_s e, g_s e]; exact noF_c c (hX c (List.mem_of_getElem? e))
theorem noN_t (hX : ∀ k ∈ X, k < 256) (a : Nat) : inR 0 14 (noX (tc X a)) = (gt rdC X a).isSome := by
  cases e : X[a]? with
  | none => rw [tc_n e, g_n e]; decide
  | some c => rw [tc_s e, g_s e]; exact noN_c c (hX c (List.mem_of_getElem? e))
theorem kind_t (hX : ∀ k ∈ X, k < 256) {a k : Nat} (h : gt (fI sA0) X a = some k) : (tc X a = 109 ↔ k = 0) ∧ (tc X a = 98 ↔ k = 1) ∧ (tc X a = 99 ↔ k = 2) ∧ (tc X a = 103 ↔ k = 3) ∧ (tc X a = 120 ↔ k = 4) ∧ k < 5 := by
  obtain ⟨c, e, hk⟩ := gt_c h
  have hc := hX c (List.mem_of_getElem? e)
  have hb : ∀ b, b < 256 → (tc X a = nI b ↔ c = b) := fun b hb => by
    rw [tc_s e, i_eq (by omega) (by omega)]
  have e1 : ∀ j, some k = some j ↔ k = j := fun j => ⟨fun q => Option.some.inj q, fun q => by rw [q]⟩
  obtain ⟨q0, q1, q2, q3, q4⟩ := k_c c hc
  rw [hk, e1] at q0 q1 q2 q3 q4
  have hl := fI_lt hk
  exact ⟨(hb 109 (by omega)).trans q0.symm, (hb 98 (by omega)).trans q1.symm, (hb 99 (by omega)).trans q2.symm, (hb 103 (by omega)).trans q3.symm, (hb 120 (by omega)).trans q4.symm, hl⟩
theorem x_cs (hX : ∀ k ∈ X, k < 256) {p k j : Nat} (hk : gt (fI sA0) X p = some k) (hj : 1 ≤ j) (hj5 : j < 5) (h : q_H) : f_X9_canStand h (tc X p) (nI j) (tc X (p + j)) = some (h, b2i (csB X p k j)) := by
  have q0 := (kind_t hX hk).1
  unfold f_X9_canStand b_X9_canStand_0 csB
  by_cases e : k = 0
  · rw [if_pos (q0.mpr e), if_pos e]
    by_cases e1 : j = 1
    · subst e1
      rw [if_pos (show nI 1 = 1 from rfl), if_pos rfl, x_c11, nb2_t hX]
    · rw [if_neg (by rw [i_eq1 (by omega)]; exact e1), if_neg e1]
      by_cases e2 : j = 2
      · subst e2
        rw [if_pos (show nI 2 = 2 from rfl), if_pos rfl, x_no, bS, x_isFolder, bS, nar_b, noF_t hX]
      · rw [if_neg (by rw [show (2 : Int32) = nI 2 from rfl, i_eq (by omega) (by omega)]; exact e2), if_neg e2]
        by_cases e3 : j = 3
        · subst e3
          rw [if_pos (show nI 3 = 3 from rfl), if_pos rfl, x_no, bS, x_isNode, bS, nar_b, noN_t hX]
        · rw [if_neg (by rw [show (3 : Int32) = nI 3 from rfl, i_eq (by omega) (by omega)]; exact e3), if_neg e3, x_c9, nb9_t hX]
  · rw [if_neg (fun q => e (q0.mp q)), if_neg e, x_c11, nb2_t hX]
theorem x_ba {β : Type} (r : q_H → Int32 → Option β) (H : CR S A) {p k : Nat} (hp : p < 1000) (hk : gt (fI sA0) (sX A) p = some k) : Option.bind (q_gR 8 5 (ov S n) 0) (fun x1 => Option.bind (f_X6_at (ov S n) x1 (nI p)) (fun q2 => Option.bind (f_X9_signsOfAct q2.1 q2.2) (fun q3 => r q3.1 (nI p + q_max q3.2 1)))) = r (ov S n) (nI (p + sgK k)) := by
  have hX := H.x256
  have hs : 2 ≤ sgK k ∧ sgK k ≤ 5 := by unfold sgK; split; omega; split <;> omega
  have hsg := sgX_t hX p
  rw [hk] at hsg
  have hsg : sgX (tc (sX A) p) = nI (sgK k) := hsg
  have e1 : (1 : Int32) = nI 1 := rfl
  have hm : q_max (nI (sgK k)) 1 = nI (sgK k) := by
    rw [e1, i_max (by omega) (by omega), show max (sgK k) 1 = sgK k by omega]
  rw [xR5, bS, x_atT (n := n) H (p := p) (by omega), bS, x_sg, bS, hsg, hm, nI_add]
theorem x_33 (H : CR S A) {p k : Nat} (hp : p < 1000) (hk : gt (fI sA0) (sX A) p = some k) (k2 : q_H → Nat → Int32 → Option (q_H × Int32)) : ∀ d j fuel, j + d = sgK k → 1 ≤ j → d < fuel → l_X9_wrongSignOfDay_33 k2 fuel (ov S n) 0 (nI p) (nI (sgK k)) (nI j) = match mFind (fun i => !csB (sX A) p k i) j d with
    | some e => some (ov S n, nI (p + e))
    | none => k2 (ov S n) 0 (nI (p + sgK k)) := by
  have hX := H.x256
  have hs : sgK k ≤ 5 := by unfold sgK; split; omega; split <;> omega
  have a0 := x_atT (n := n) H (p := p) (by omega)
  have hsg := sgX_t hX p
  rw [hk] at hsg
  have hsg : sgX (tc (sX A) p) = nI (sgK k) := hsg
  intro d
  induction d with
  | zero =>
    intro j fuel hj h1 hf
    obtain ⟨f, rfl⟩ : ∃ f, fuel = f + 1 := ⟨fuel - 1, by omega⟩
    show b_X9_wrongSignOfDay_33 _ _ _ _ _ _ _ = _
    unfold b_X9_wrongSignOfDay_33
    rw [if_pos (by rw [i_le (by omega) (by omega)]; omega), x_ba (fun h x => k2 h 0 x) H hp hk]
    rfl
  | succ d ih =>
    intro j fuel hj h1 hf
    obtain ⟨f, rfl⟩ : ∃ f, fuel = f + 1 := ⟨fuel - 1, by omega⟩
    have := ih (j + 1) f (by omega) (by omega) (by omega)
    show b_X9_wrongSignOfDay_33 _ _ _ _ _ _ _ = _
    unfold b_X9_wrongSignOfDay_33
    rw [if_neg (by rw [i_le (by omega) (by omega)]; omega), xR5, bS, a0, bS, xR5, bS, nI_add, x_atT H (by omega), bS, x_cs hX hk h1 (by omega), bS, show mFind (fun i => !csB (sX A) p k i) j (d + 1) = if !csB (sX A) p k j then some j else mFind (fun i => !csB (sX A) p k i) (j + 1) d from rfl]
    cases c : csB (sX A) p k j
    · rw [if_pos (show b2i false = 0 from rfl)]
      rfl
    · rw [if_neg (show ¬ b2i true = 0 by decide), if_neg (by decide), nI_1]
      exact this
theorem pA_n {p : Nat} (h : gt (fI sA0) X p = none) : pA X p = .inl p := by unfold pA; rw [h]
theorem pA_s {p k : Nat} (h : gt (fI sA0) X p = some k) : match mFind (fun i => !csB X p k i) 1 (sgK k - 1) with
    | some e => pA X p = .inl (p + e)
    | none => ∃ a, pA X p = .inr (p + sgK k, k, a) := by
  unfold pA sgK
  rw [h]
  simp only
  by_cases e2 : k = 2
  · subst e2
    cases c1 : gt (fI sA1) X (p + 1) with
    | none => simp [mFind, csB, c1]
    | some a =>
      cases c2 : gt (fI sA1) X (p + 2) with
      | none => simp [mFind, csB, c1, c2]
      | some b => simp [mFind, csB, c1, c2]
  · by_cases e0 : k = 0
    · subst e0
      cases c1 : gt (fI sA1) X (p + 1) with
      | none => simp [mFind, csB, c1]
      | some a =>
        cases c2 : gt (fI sA2) X (p + 2) with
        | none => simp [mFind, csB, c1, c2]
        | some f =>
          cases c3 : gt rdC X (p + 3) with
          | none => simp [mFind, csB, c1, c2, c3]
          | some g =>
            cases c4 : gt (fI sA3) X (p + 4) with
            | none => simp [mFind, csB, c1, c2, c3, c4]
            | some m => simp [mFind, csB, c1, c2, c3, c4]
    · cases c1 : gt (fI sA1) X (p + 1) with
      | none => simp [mFind, csB, c1, e0, e2]
      | some a => simp [mFind, csB, c1, e0, e2]
theorem pA_q {p q : Nat} {a : aA} (h : pA X p = .inr (q, a)) : gt (fI sA0) X p = some a.1 ∧ q = p + sgK a.1 := by
  cases e : gt (fI sA0) X p with
  | none => rw [pA_n e] at h; cases h
  | some k =>
    have := pA_s e
    split at this
    · rw [h] at this; cases this
    · obtain ⟨b, hb⟩ := this
      rw [h] at hb
      cases hb
      exact ⟨rfl, rfl⟩
theorem sgK_b (k : Nat) : 2 ≤ sgK k ∧ sgK k ≤ 5 := by unfold sgK; split; omega; split <;> omega
theorem x_wdL (H : CR S A) : ∀ f p fuel, (sX A).length - p < f → f ≤ fuel → p < 500 → l_X9_wrongSignOfDay_2 fuel (ov S n) 0 (nI p) = some (ov S n, match pD (sX A) f p with
    | .inl e => nI e
    | .inr _ => -1) := by
  have h80 := H.2.2.2.2.1
  have hX := H.x256
  intro f
  induction f with
  | zero => intro p fuel h1; omega
  | succ f ih =>
    intro p fuel h1 h2 hp
    obtain ⟨fu, rfl⟩ : ∃ f, fuel = f + 1 := ⟨fuel - 1, by omega⟩
    show b_X9_wrongSignOfDay_2 _ _ _ _ = _
    unfold b_X9_wrongSignOfDay_2 pD
    rw [xR5, bS, H.xl, bS]
    by_cases e : (sX A).length ≤ p
    · rw [if_pos (by rw [i_le (by omega) (by omega)]; exact e), if_pos e]
    · rw [if_neg (by rw [i_le (by omega) (by omega)]; exact e), if_neg e, bS, x_atT H (by omega), bS, x_sg, bS, sgX_t hX]
      cases hk : gt (fI sA0) (sX A) p with
      | none =>
        rw [pA_n hk]
        rfl
      | some k =>
        have hb := sgK_b k
        have := x_33 (n := n) H (show p < 1000 by omega) hk (l_X9_wrongSignOfDay_2 fu) (sgK k - 1) 1 q_FU (by omega) (by omega) (q_FU_lt (by omega))
        have hpa := pA_s hk
        simp only
        rw [if_neg (nI_ne0 (by omega) (by omega))]
        refine this.trans ?_
        cases hm : mFind (fun i => !csB (sX A) p k i) 1 (sgK k - 1) with
        | some j =>
          rw [hm] at hpa
          have hpa : pA (sX A) p = .inl (p + j) := hpa
          rw [hpa]
        | none =>
          rw [hm] at hpa
          obtain ⟨a, ha⟩ : ∃ a, pA (sX A) p = .inr (p + sgK k, k, a) := hpa
          rw [ha]
          simp only
          rw [ih (p + sgK k) fu (by omega) (by omega) (by omega)]
          cases pD (sX A) f (p + sgK k) with
          | inl e => rfl
          | inr l => rfl
end DA
