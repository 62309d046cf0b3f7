/-! THE FIRST STATE 2 -/
def W0 : aW := (fun _ => 0, fun _ _ => 0, fun _ => [], fun _ _ => 0, fun _ => [])
def A0 : aS := (W0, fun _ => none, [], [])
theorem lN_0 : lN 0 = 0 := by decide
theorem S0_I {b : Nat} (h : b ≠ 299) : S0.2.1 b = fun _ => 0 := if_neg h
theorem S0_k {b k : Nat} (h : k ≠ 0) : S0.1 b k = 0 := if_neg h
theorem S0_L (b j : Nat) : S0.2.2 b j = 0 := rfl
theorem S0_T : ∀ w, (w = 1 ∨ w = 46 ∨ w = 206 ∨ w = 251) → xTr S0 w := by
  intro w hw c hc
  rcases hw with rfl | rfl | rfl | rfl <;>
    (have : c = 0 ∨ c = 1 ∨ c = 2 := by omega
     rcases this with rfl | rfl | rfl <;> decide)
theorem TE_0 {t : Nat} (h : kTree t) : TE S0 t (fun _ => 0) := ⟨h, fun j _ => ⟨lN_0.symm, by show 0 < 2 ^ 31; omega⟩⟩
theorem SE_0 {t m : Nat} (h : kSer m t) (hm : m < 1000) : SE S0 t m [] := ⟨h, hm, Nat.zero_le _, rfl, fun _ _ q => nomatch q⟩
theorem CR_0 : CR S0 A0 := by
  have kw := kWorld_at 1 (by omega)
  refine ⟨⟨kw, fun c hc => ?_, fun i hi => SE_0 (kw.2.2.2.2 i hi) (by omega)⟩, S0_T 46 (by omega), fun i hi => ⟨S0_T _ (by omega), ?_, fun W q => nomatch q⟩, ⟨Nat.zero_le _, rfl, fun _ _ q => nomatch q⟩, ⟨Nat.zero_le _, rfl, fun _ _ q => nomatch q⟩⟩
  · have kc := kw.2.2.2.1 c hc
    refine ⟨⟨⟨S0_T 1 (by omega) c hc, S0_k (by omega)⟩, fun d _ => ?_, SE_0 kc.2.2.1 (by omega), TE_0 kc.2.2.2.1⟩, S0_k (by omega), TE_0 kc.2.2.2.2⟩
    rw [S0_I (by omega)]
    rfl
  · rw [S0_I (by omega)]
    rfl
theorem RR_0 : RR S0 A0 := by
  refine ⟨?_, fun i hi => ⟨?_, fun W q => nomatch q⟩, ⟨Nat.zero_le _, rfl, fun _ _ q => nomatch q⟩, ⟨Nat.zero_le _, rfl, fun _ _ q => nomatch q⟩⟩
  · show RW (I0 42) 0 W0
    refine ⟨fun c hc => ?_, fun c d hc hd => ?_, fun c j q hc hj hq => ?_, fun c hc => ⟨Nat.zero_le _, ?_, fun _ _ _ q => nomatch q⟩, fun w hw => ⟨Nat.zero_le _, ?_, fun _ _ _ q => nomatch q⟩⟩
    · exact if_neg (by omega)
    · exact if_neg (by omega)
    · unfold I0
      by_cases e : q = 0
      · subst e
        rw [if_pos (by omega)]
        rfl
      · rw [if_neg (by omega)]
        have : q = 1 ∨ q = 2 ∨ q = 3 := by omega
        show 0 = eT 0 q
        rcases this with rfl | rfl | rfl <;> decide
    · exact if_neg (by omega)
    · exact if_neg (by omega)
  · rw [S0_I (by omega)]
    rfl
theorem OKA_0 : OKA 0 A0 := by
  refine ⟨⟨fun c _ => Nat.le_refl 0, fun c d _ _ => Nat.le_refl 0, fun c _ => ⟨Nat.zero_le _, List.Pairwise.nil, fun _ q => (nomatch q)⟩, fun c _ => ⟨TI.zero, fun j q => absurd rfl q⟩, fun f t _ _ => ⟨Nat.zero_le _, fun _ => rfl, List.Pairwise.nil, fun _ q => (nomatch q)⟩, fun _ => 0, fun c _ _ q => (nomatch q), fun c j _ q => absurd rfl q, fun f t _ _ _ q => (nomatch q)⟩, fun i W q => (nomatch q)⟩
theorem law_0 (xs : Nat → Int32) (L : Nat) : ∃ n0 : Nat × Nat, b_L_law_0 xs L ((fun _ => q_junk), 0, 0, 0) 300 = l_L_law_23 xs L q_FU (ov S0 (314, n0.1, n0.2)) 300 0 296 313 0 ∧ n0.1 ≤ 2000 ∧ n0.2 ≤ 30000 := by
  have e : (((fun _ => q_junk), 0, 0, 0) : q_H) = hL [] (0, 0) := by
    unfold hL
    refine Prod.ext ?_ rfl
    funext a
    simp
  obtain ⟨n1, f1, f2, f3⟩ := k_far
  obtain ⟨n2, r1, r2, r3⟩ := k_ref cAll (n1.1 + 1, n1.2 + 26)
  rw [cAll_len] at r1
  have f1 : f_X9_init (hL ([] ++ [.inr (8, [.null, .null, .null, .null, .null, .null, .null, .null, .null, .int 0])]) (0 + 1, 0 + 10)) 0 = some (hL cAll n1, ()) := f1
  dsimp only at r2 r3
  refine ⟨(n2.1 + 1, n2.2 + 1), ?_, by dsimp only; omega, by dsimp only; omega⟩
  unfold b_L_law_0
  rw [e, hL_new, bS]
  dsimp only [List.length_cons, List.length_nil]
  rw [f1, bS]
  dsimp only
  rw [hL_new, bS]
  dsimp only [List.length_cons, List.length_nil]
  rw [cAll_len, r1, bS]
  dsimp only
  rw [hL_nL _ _ (show (1 : Int32) = nI 1 from rfl) (by omega), bS]
  dsimp only
  rw [List.length_append, cAll_len]
  have := fin_ov (n2.1 + 1, n2.2 + 1)
  unfold finL at this
  rw [this]
  rfl
