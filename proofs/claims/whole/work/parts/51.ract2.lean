/-! THE REFERENCE'S ACTS: letters go and come -/
theorem i_max {a b : Nat} (ha : a < 2 ^ 31) (hb : b < 2 ^ 31) : q_max (nI a) (nI b) = nI (max a b) := by
  unfold q_max
  simp only [i_lt ha hb]
  by_cases e : a < b
  · rw [if_pos e, Nat.max_eq_right (by omega)]
  · rw [if_neg e, Nat.max_eq_left (by omega)]
theorem i_min {a b : Nat} (ha : a < 2 ^ 31) (hb : b < 2 ^ 31) : q_min (nI a) (nI b) = nI (min a b) := by
  unfold q_min
  simp only [i_lt hb ha]
  by_cases e : b < a
  · rw [if_pos e, Nat.min_eq_right (by omega)]
  · rw [if_neg e, Nat.min_eq_left (by omega)]
def okY (k f : Nat) : Prop := k < 2 ^ 31 ∧ cC k = f ∧ (okM k ∨ (cF k = 0 ∧ cP k = 0 ∧ cN k = 0))
def vL (W : aW) : Prop := ∀ c, c < 3 → (wL W c).length ≤ 20 ∧ (wL W c).Pairwise (· ≤ ·) ∧ ∀ k ∈ wL W c, okM k ∧ cT k ≤ wT W c ∧ cT k ≤ wT W (cC k)
def vB (W : aW) : Prop := ∀ c, c < 3 → TI (wB W c) ∧ ∀ j, wB W c j ≠ 0 → cT (wB W c j) ≤ wT W (cC (wB W c j))
def vY (W : aW) : Prop := ∀ f t, f < 3 → t < 3 → (wY W (3 * f + t)).length ≤ 6 ∧ (f = t → wY W (3 * f + t) = []) ∧ (wY W (3 * f + t)).Pairwise (fun a b => cT a ≤ cT b) ∧ ∀ k ∈ wY W (3 * f + t), okY k f ∧ cT k ≤ wT W f
def vM (W : aW) : Prop := ∃ M : Nat → Nat, (∀ c, c < 3 → ∀ k ∈ wL W c, k % 4096 = M (k / 4096)) ∧ (∀ c j, c < 3 → wB W c j ≠ 0 → wB W c j % 4096 = M (wB W c j / 4096)) ∧ ∀ f t, f < 3 → t < 3 → ∀ k ∈ wY W (3 * f + t), mHm k = true → k % 4096 = M (k / 4096)
def V (T : Nat) (W : aW) : Prop := (∀ c, c < 3 → wT W c ≤ T) ∧ (∀ c d, c < 3 → d < 3 → wH W c d ≤ T) ∧ vL W ∧ vB W ∧ vY W ∧ vM W
def tr (W : aW) (c : Nat) : Nat → Nat := mBld 1000 (wL W c) 0 (wB W c)
theorem V.ti {T : Nat} {W : aW} (h : V T W) {c : Nat} (hc : c < 3) : TI (tr W c) := TI.bld 1000 _ 0 _ (h.2.2.2.1 c hc).1 (fun k hk => ((h.2.2.1 c hc).2.2 k hk).1)
theorem V.lb {T : Nat} {W : aW} (h : V T W) {c : Nat} (hc : c < 3) : ∀ k ∈ wL W c, k < 2 ^ 31 := fun k hk => ((h.2.2.1 c hc).2.2 k hk).1.1
/-- what the reference may change in its acts -/
def RX (S S' : o_S) : Prop := AG (fun b => b = 296 ∨ (299 ≤ b ∧ b ≤ 302)) S S' ∧ (∀ k, k ≠ 9 → k ≠ 12 → k ≠ 13 → k ≠ 14 → S'.1 296 k = S.1 296 k) ∧ ∀ j, 708 ≤ j → S'.2.1 299 j = S.2.1 299 j
theorem RX.rf {S : o_S} : RX S S := ⟨AG.rf, fun _ _ _ _ _ => rfl, fun _ _ => rfl⟩
theorem RX.tr {S S1 S2 : o_S} (h : RX S S1) (k : RX S1 S2) : RX S S2 := ⟨h.1.tr k.1 (fun _ q => q) (fun _ q => q), fun j h1 h2 h3 h4 => (k.2.1 j h1 h2 h3 h4).trans (h.2.1 j h1 h2 h3 h4), fun j hj => (k.2.2 j hj).trans (h.2.2 j hj)⟩
theorem RQ.x {S S' : o_S} (h : RQ S S') : RX S S' := ⟨h.1.mono (fun b q => by omega), fun k h1 _ _ _ => h.2 k h1, fun j _ => by rw [h.m]⟩
theorem RG.x {s : Nat} {S S' : o_S} (h : RG s S S') : RX S S' := ⟨h.1.mono (fun b q => by omega), fun k _ _ _ _ => by rw [h.f], fun j _ => by rw [h.m]⟩
theorem RM.x {S S' : o_S} (h : RM S S') : RX S S' := ⟨h.1.mono (fun b q => by omega), fun k _ _ _ _ => by rw [h.1.f (by omega)], h.2⟩
theorem RX.fld {S : o_S} {k : Nat} {v : Int32} (hk : k = 9 ∨ k = 12 ∨ k = 13 ∨ k = 14) : RX S (o_sf S 296 k v) := ⟨(AG_sf _ _ _ _).mono (fun b q => Or.inl q), fun j _ _ _ _ => by rw [s_F, if_pos rfl, pk_un (by omega)], fun _ _ => rfl⟩
section RB
variable {S : o_S} {n : Nat × Nat × Nat} {l : List Nat} {W : aW} {T : Nat}
def aSndP (W : aW) (c k d : Nat) : aW := (W.1, W.2.1, W.2.2.1, W.2.2.2.1, fun w => if w / 3 = c ∧ w % 3 ≠ c ∧ w % 3 < d then wY W w ++ [k] else wY W w)
theorem r_sndL {c k : Nat} (hc : c < 3) {fo pa na : Int32} (e1 : fo = eL k 1) (e2 : pa = eL k 2) (e3 : na = eL k 3) (hT : wT W c = cT k) (hf : ∀ d, d < 3 → d ≠ c → (wY W (3 * c + d)).length < 6) : ∀ m d fuel (S : o_S), d + m = 3 → m < fuel → RW (S.2.1 299) 0 (aSndP W c k d) → ∃ S', l_X10_sends_3 fuel (ov S n) 296 (nI c) fo pa na (nI d) = some (ov S' n, ()) ∧ RW (S'.2.1 299) 0 (aSndP W c k 3) ∧ RM S S' := by
  intro m
  induction m with
  | zero =>
    intro d fuel S hd hm h
    obtain ⟨f, rfl⟩ : ∃ f, fuel = f + 1 := ⟨fuel - 1, by omega⟩
    refine ⟨S, ?_, ?_, RM.rf⟩
    · show b_X10_sends_3 _ _ _ _ _ _ _ _ = _
      unfold b_X10_sends_3
      simp (disch := omega) only [j2, j3, j4, j5, j6, j7, j8, j9, j10, j12, j14, j20, j40, j48, j49, j56, j80, j96, j180, j183, j483, j492, j708, j2401, j1000000, nI_1, nI_add, pk_mul, i_le, i_lt, i_eq, i_lt0, i_0le, i_le0, i_eq0, i_0lt, i_eq1, i_eqm1, i_sub1, i_addm1, pk_sub, i_add0, b2i_eq0, b2i_1, i_bit, if_true, if_false, if_pos]
    · rw [show d = 3 by omega] at h
      exact h
  | succ m ih =>
    intro d fuel S hd hm h
    obtain ⟨f, rfl⟩ : ∃ f, fuel = f + 1 := ⟨fuel - 1, by omega⟩
    by_cases ed : d = c
    · have h' : RW (S.2.1 299) 0 (aSndP W c k (d + 1)) := by
        have : aSndP W c k (d + 1) = aSndP W c k d := by
          unfold aSndP
          refine congrArg (fun z => (W.1, W.2.1, W.2.2.1, W.2.2.2.1, z)) (funext fun w => ?_)
          have : (w / 3 = c ∧ w % 3 ≠ c ∧ w % 3 < d + 1) = (w / 3 = c ∧ w % 3 ≠ c ∧ w % 3 < d) := propext (by omega)
          simp only [this]
        rw [this]
        exact h
      obtain ⟨S', g1, g2, g3⟩ := ih (d + 1) f S (by omega) (by omega) h'
      refine ⟨S', ?_, g2, g3⟩
      show b_X10_sends_3 _ _ _ _ _ _ _ _ = _
      unfold b_X10_sends_3 b_X10_sends_96
      simp (disch := omega) only [j2, j3, j4, j5, j6, j7, j8, j9, j10, j12, j14, j20, j40, j48, j49, j56, j80, j96, j180, j183, j483, j492, j708, j2401, j1000000, nI_1, nI_add, pk_mul, i_le, i_lt, i_eq, i_lt0, i_0le, i_le0, i_eq0, i_0lt, i_eq1, i_eqm1, i_sub1, i_addm1, pk_sub, i_add0, b2i_eq0, b2i_1, i_bit, if_true, if_false, if_pos, if_neg]
      exact g1
    · have hlt := hf d (by omega) ed
      have hy := h.2.2.2.2
      have ey : wY (aSndP W c k d) (3 * c + d) = wY W (3 * c + d) := by
        show (if _ then _ else _) = _
        rw [if_neg (by omega)]
      generalize hlen : (wY W (3 * c + d)).length = len at hlt
      have hcnt : S.2.1 299 (483 + (3 * c + d)) = nI len := by
        have := (hy (3 * c + d) (by omega)).2.1
        rw [ey, hlen, Nat.zero_add] at this
        exact this
      have ht : S.2.1 299 c = nI (cT k) := by
        have := h.1 c hc
        rw [Nat.zero_add] at this
        rw [this, ← hT]
        rfl
      have hS : ∀ j, (o_sI S 299 (upd (upd (upd (upd (upd (S.2.1 299) (492 + 4 * (6 * (3 * c + d) + len)) (nI (cT k))) (492 + 4 * (6 * (3 * c + d) + len) + 1) fo) (492 + 4 * (6 * (3 * c + d) + len) + 2) pa) (492 + 4 * (6 * (3 * c + d) + len) + 3) na) (483 + (3 * c + d)) (nI (len + 1)))).2.1 299 j = if j = 483 + (3 * c + d) then nI (len + 1) else if 492 + 4 * (6 * (3 * c + d) + len) ≤ j ∧ j < 492 + 4 * (6 * (3 * c + d) + len) + 4 then eL k (j - (492 + 4 * (6 * (3 * c + d) + len))) else S.2.1 299 j := by
        intro j
        rw [s_I, if_pos rfl]
        by_cases h1 : j = 483 + (3 * c + d)
        · rw [if_pos h1, h1, pk_us]
        · rw [if_neg h1, pk_un h1]
          generalize 492 + 4 * (6 * (3 * c + d) + len) = p
          by_cases h2 : p ≤ j ∧ j < p + 4
          · rw [if_pos h2]
            obtain ⟨r, hr⟩ : ∃ r, j = p + r := ⟨j - p, by omega⟩
            subst hr
            rw [show p + r - p = r by omega]
            match r, h2 with
            | 0, _ => rw [pk_un (by omega), pk_un (by omega), pk_un (by omega)]; exact pk_us
            | 1, _ => rw [pk_un (by omega), pk_un (by omega), pk_us, e1]
            | 2, _ => rw [pk_un (by omega), pk_us, e2]
            | 3, _ => rw [pk_us, e3]
            | m + 4, h2 => exact absurd h2 (by omega)
          · rw [if_neg h2, pk_un (by omega), pk_un (by omega), pk_un (by omega), pk_un (by omega)]
      obtain ⟨S', g1, g2, g3⟩ := ih (d + 1) f (o_sI S 299 (upd (upd (upd (upd (upd (S.2.1 299) (492 + 4 * (6 * (3 * c + d) + len)) (nI (cT k))) (492 + 4 * (6 * (3 * c + d) + len) + 1) fo) (492 + 4 * (6 * (3 * c + d) + len) + 2) pa) (492 + 4 * (6 * (3 * c + d) + len) + 3) na) (483 + (3 * c + d)) (nI (len + 1)))) (by omega) (by omega)
        ⟨h.1.cg (fun j h1 => by rw [hS, if_neg (by omega), if_neg (by omega)]), h.2.1.cg (fun j _ h1 => by rw [hS, if_neg (by omega), if_neg (by omega)]), h.2.2.1.cg (fun j _ h1 => by rw [hS, if_neg (by omega), if_neg (by omega)]), h.2.2.2.1.cg (fun j _ h1 => by rw [hS, if_neg (by omega), if_neg (by omega)]), by
          intro w hw
          obtain ⟨y1, y2, y3⟩ := hy w hw
          by_cases ew : w = 3 * c + d
          · subst ew
            have e : wY (aSndP W c k (d + 1)) (3 * c + d) = wY W (3 * c + d) ++ [k] := by
              show (if _ then _ else _) = _
              rw [if_pos (by omega)]
            rw [ey] at y3
            rw [e]
            refine ⟨by simp [hlen]; omega, by rw [hS, if_pos (by omega)]; simp [hlen], fun j x q hx hq => ?_⟩
            have hjl : j < (wY W (3 * c + d) ++ [k]).length := (List.getElem?_eq_some_iff.mp hx).1
            rw [List.length_append] at hjl
            simp only [List.length_cons, List.length_nil] at hjl
            rw [hS, if_neg (by omega)]
            by_cases ej : j = len
            · have : x = k := by
                rw [ej, ← hlen] at hx
                simpa using hx.symm
              rw [if_pos (by omega), this]
              congr 1
              omega
            · rw [List.getElem?_append_left (by omega)] at hx
              rw [if_neg (by omega)]
              exact y3 j x q hx hq
          · have e : wY (aSndP W c k (d + 1)) w = wY (aSndP W c k d) w := by
              show (if _ then _ else _) = (if _ then _ else _)
              have : (w / 3 = c ∧ w % 3 ≠ c ∧ w % 3 < d + 1) = (w / 3 = c ∧ w % 3 ≠ c ∧ w % 3 < d) := propext (by omega)
              simp only [this]
            rw [e]
            refine ⟨y1, by rw [hS, if_neg (by omega), if_neg (by omega)]; exact y2, fun j x q hx hq => ?_⟩
            have hj : j < (wY (aSndP W c k d) w).length := (List.getElem?_eq_some_iff.mp hx).1
            rw [hS, if_neg (by omega), if_neg (by omega)]
            exact y3 j x q hx hq⟩
      refine ⟨S', ?_, g2, RM.tr ⟨AG_sI _ _ _, fun j hj => by rw [hS, if_neg (by omega), if_neg (by omega)]⟩ g3⟩
      show b_X10_sends_3 _ _ _ _ _ _ _ _ = _
      unfold b_X10_sends_3 b_X10_sends_96
      have hwt := r_waiting (n := n) (W := aSndP W c k d) hy (a := c) (b := d) hc (by omega)
      rw [ey, hlen] at hwt
      simp (maxSteps := 5000000) (disch := omega) only [j2, j3, j4, j5, j6, j7, j8, j9, j10, j12, j14, j20, j40, j48, j49, j56, j80, j96, j180, j183, j483, j492, j708, j2401, j1000000, nI_1, nI_add, pk_mul, i_le, i_lt, i_eq, i_lt0, i_0le, i_le0, i_eq0, i_0lt, i_eq1, i_eqm1, i_sub1, i_addm1, pk_sub, i_add0, b2i_eq0, b2i_1, i_bit, if_true, if_false, rR2, rR3, rR7, rR8, rR10, rR11, rR15, rR16, rR17, rR18, rR19, rR20, rR21, rR22, rR23, rR25, rI0, rI1, rI4, rI5, rI6, rI9, rI12, rI13, rI14, rI24, rP0, rP1, rP4, rP5, rP6, rP9, rP12, rP13, rP14, rP24, r_chk, bS, r_mem, r_memS, r_lst, r_lstS, r_tre, r_treS, r_voi, r_voiS, if_neg, hwt, r_letterOf, r_wayOf, ht, idS, s_twice, s_I, pk_un, hcnt]
      exact g1
theorem r_sends {c k : Nat} (hc : c < 3) {fo pa na : Int32} (e1 : fo = eL k 1) (e2 : pa = eL k 2) (e3 : na = eL k 3) (hT : wT W c = cT k) (hf : ∀ d, d < 3 → d ≠ c → (wY W (3 * c + d)).length < 6) (h : RW (S.2.1 299) 0 W) : ∃ S', f_X10_sends (ov S n) 296 (nI c) fo pa na = some (ov S' n, ()) ∧ RW (S'.2.1 299) 0 (aSndP W c k 3) ∧ RM S S' := by
  have h0 : aSndP W c k 0 = W := by
    unfold aSndP
    have : (fun w => if w / 3 = c ∧ w % 3 ≠ c ∧ w % 3 < 0 then wY W w ++ [k] else wY W w) = wY W := funext fun w => if_neg (by omega)
    rw [this]
  obtain ⟨S', g⟩ := r_sndL (n := n) hc e1 e2 e3 hT hf 3 0 q_FU S (by omega) (q_FU_lt (by omega)) (by rw [h0]; exact h)
  refine ⟨S', ?_, g.2⟩
  unfold f_X10_sends b_X10_sends_0
  rw [r_chk]
  exact g.1
def aHear (W : aW) (f t k : Nat) (r : List Nat) : aW := (fset W.1 t (max (W.1 t) (cT k)), fset W.2.1 t (fset (W.2.1 t) f (cT k)), W.2.2.1, W.2.2.2.1, fset W.2.2.2.2 (3 * f + t) r)
theorem r_hears {f t k : Nat} {r : List Nat} (hf : f < 3) (ht : t < 3) (hy : wY W (3 * f + t) = k :: r) (hk : k < 2 ^ 31) (hT : wT W t < 2 ^ 31) (h : RW (S.2.1 299) 0 W) : ∃ S', f_X10_hears (ov S n) 296 (nI f) (nI t) = some (ov S' n, ()) ∧ RW (S'.2.1 299) 0 (aHear W f t k r) ∧ RM S S' := by
  have hkT := cT_lt hk
  obtain ⟨y1, y2, y3⟩ := h.2.2.2.2 (3 * f + t) (by omega)
  rw [hy] at y1 y2 y3
  rw [Nat.zero_add] at y2
  have r5 : r.length ≤ 5 := by simp at y1; omega
  have y2 : S.2.1 299 (483 + (3 * f + t)) = nI (r.length + 1) := y2
  have k0 : S.2.1 299 (492 + 4 * (6 * (3 * f + t))) = nI (cT k) := by
    have := y3 0 k 0 rfl (by omega)
    rw [Nat.zero_add] at this
    exact this
  have t0 : S.2.1 299 t = nI (wT W t) := by
    have := h.1 t ht
    rw [Nat.zero_add] at this
    exact this
  generalize hI1 : upd (upd (upd (S.2.1 299) t (nI (max (wT W t) (cT k)))) (3 + (3 * t + f)) (nI (cT k))) (483 + (3 * f + t)) (nI r.length) = I1
  have hI : ∀ j, I1 j = if j = 483 + (3 * f + t) then nI r.length else if j = 3 + (3 * t + f) then nI (cT k) else if j = t then nI (max (wT W t) (cT k)) else S.2.1 299 j := fun j => by rw [← hI1]; rfl
  have hS : ∀ j, (o_sI S 299 (va_cpy I1 I1 (492 + 4 * (6 * (3 * f + t) + 1)) (492 + 4 * (6 * (3 * f + t))) (4 * r.length))).2.1 299 j = if 492 + 4 * (6 * (3 * f + t)) ≤ j ∧ j < 492 + 4 * (6 * (3 * f + t)) + 4 * r.length then I1 (492 + 4 * (6 * (3 * f + t) + 1) + (j - (492 + 4 * (6 * (3 * f + t))))) else I1 j := fun j => rfl
  refine ⟨o_sI S 299 (va_cpy I1 I1 (492 + 4 * (6 * (3 * f + t) + 1)) (492 + 4 * (6 * (3 * f + t))) (4 * r.length)), ?_, ⟨?_, ?_, ?_, ?_, ?_⟩, AG_sI _ _ _, ?_⟩
  · unfold f_X10_hears b_X10_hears_0
    simp (maxSteps := 5000000) (disch := omega) only [j2, j3, j4, j5, j6, j7, j8, j9, j10, j12, j14, j20, j40, j48, j49, j56, j80, j96, j180, j183, j483, j492, j708, j2401, j1000000, nI_1, nI_add, pk_mul, i_le, i_lt, i_eq, i_lt0, i_0le, i_le0, i_eq0, i_0lt, i_eq1, i_eqm1, i_sub1, i_addm1, pk_sub, i_add0, b2i_eq0, b2i_1, i_bit, if_true, if_false, rR2, rR3, rR7, rR8, rR10, rR11, rR15, rR16, rR17, rR18, rR19, rR20, rR21, rR22, rR23, rR25, rI0, rI1, rI4, rI5, rI6, rI9, rI12, rI13, rI14, rI24, rP0, rP1, rP4, rP5, rP6, rP9, rP12, rP13, rP14, rP24, r_chk, bS, r_mem, r_memS, r_lst, r_lstS, r_tre, r_treS, r_voi, r_voiS, r_letterOf0, r_wayOf, k0, t0, i_max, idS, s_twice, s_I, pk_un, y2, hI1]
    have := fw_loop (fun fuel (S' : o_S) j => l_X10_hears_66 fuel (ov S' n) 296 (nI f) (nI t) (nI (483 + (3 * f + t))) (nI j)) (fun m S => o_sI S 299 (upd (S.2.1 299) (492 + 4 * (6 * (3 * f + t)) + m) (S.2.1 299 (492 + 4 * (6 * (3 * f + t) + 1) + m)))) (fun S => (ov S n, ())) (fun S' => S'.2.1 299 (483 + (3 * f + t)) = nI r.length) 0 (4 * r.length) (fun fuel S' hS => by
      show b_X10_hears_66 _ _ _ _ _ _ _ = _
      unfold b_X10_hears_66
      simp (disch := omega) only [j2, j3, j4, j5, j6, j7, j8, j9, j10, j12, j14, j20, j40, j48, j49, j56, j80, j96, j180, j183, j483, j492, j708, j2401, j1000000, nI_1, nI_add, pk_mul, i_le, i_lt, i_eq, i_lt0, i_0le, i_le0, i_eq0, i_0lt, i_eq1, i_eqm1, i_sub1, i_addm1, pk_sub, i_add0, b2i_eq0, b2i_1, i_bit, if_true, if_false, rR2, rR3, rR7, rR8, rR10, rR11, rR15, rR16, rR17, rR18, rR19, rR20, rR21, rR22, rR23, rR25, rI0, rI1, rI4, rI5, rI6, rI9, rI12, rI13, rI14, rI24, rP0, rP1, rP4, rP5, rP6, rP9, rP12, rP13, rP14, rP24, r_chk, bS, r_mem, r_memS, r_lst, r_lstS, r_tre, r_treS, r_voi, r_voiS, hS, if_pos]) (fun fuel S' j hS _ h2 => ⟨by
        show (o_sI S' 299 _).2.1 299 _ = _
        rw [s_I, if_pos rfl, pk_un (by omega)]
        exact hS, by
      show b_X10_hears_66 _ _ _ _ _ _ _ = _
      unfold b_X10_hears_66
      simp (disch := omega) only [j2, j3, j4, j5, j6, j7, j8, j9, j10, j12, j14, j20, j40, j48, j49, j56, j80, j96, j180, j183, j483, j492, j708, j2401, j1000000, nI_1, nI_add, pk_mul, i_le, i_lt, i_eq, i_lt0, i_0le, i_le0, i_eq0, i_0lt, i_eq1, i_eqm1, i_sub1, i_addm1, pk_sub, i_add0, b2i_eq0, b2i_1, i_bit, if_true, if_false, rR2, rR3, rR7, rR8, rR10, rR11, rR15, rR16, rR17, rR18, rR19, rR20, rR21, rR22, rR23, rR25, rI0, rI1, rI4, rI5, rI6, rI9, rI12, rI13, rI14, rI24, rP0, rP1, rP4, rP5, rP6, rP9, rP12, rP13, rP14, rP24, r_chk, bS, r_mem, r_memS, r_lst, r_lstS, r_tre, r_treS, r_voi, r_voiS, hS, r_letterOf0, r_letterOf1, if_neg, idS]⟩) (4 * r.length) 0 q_FU (o_sI S 299 I1) (by rw [s_I, if_pos rfl, hI, if_pos rfl]) (by omega) (by omega) (q_FU_lt (by omega))
    rw [cp_fw 299 299 _ _ _ _ _ (by omega), s_twice] at this
    have e0 : r.length + 1 - 1 = r.length := by omega
    rw [e0, hI1]
    exact this
  · intro d hd
    show _ = nI (fset W.1 t _ d)
    rw [hS, if_neg (by omega), hI, if_neg (by omega), if_neg (by omega)]
    by_cases e : d = t
    · subst e; rw [if_pos (by omega), fset_s]
    · rw [if_neg (by omega), fset_n _ _ e]; exact h.1 d hd
  · intro d e hd he
    show _ = nI (fset W.2.1 t (fset (W.2.1 t) f (cT k)) d e)
    rw [hS, if_neg (by omega), hI, if_neg (by omega)]
    by_cases e1 : d = t
    · subst e1
      rw [fset_s]
      by_cases e2 : e = f
      · subst e2; rw [if_pos (by omega), fset_s]
      · rw [if_neg (by omega), if_neg (by omega), fset_n _ _ e2]; exact h.2.1 d e hd he
    · rw [fset_n _ _ e1, if_neg (by omega), if_neg (by omega)]; exact h.2.1 d e hd he
  · exact h.2.2.1.cg (fun j h1 h2 => by rw [hS, if_neg (by omega), hI, if_neg (by omega), if_neg (by omega), if_neg (by omega)])
  · exact h.2.2.2.1.cg (fun j h1 h2 => by rw [hS, if_neg (by omega), hI, if_neg (by omega), if_neg (by omega), if_neg (by omega)])
  · intro w hw
    by_cases ew : w = 3 * f + t
    · subst ew
      rw [show wY (aHear W f t k r) (3 * f + t) = r from fset_s _ _ _]
      refine ⟨by omega, by rw [hS, if_neg (by omega), hI, if_pos (by omega)], fun j x q hx hq => ?_⟩
      have hj : j < r.length := (List.getElem?_eq_some_iff.mp hx).1
      have := y3 (j + 1) x q (by rw [List.getElem?_cons_succ]; exact hx) hq
      rw [hS, if_pos (by omega), hI, if_neg (by omega), if_neg (by omega), if_neg (by omega), ← this, show 492 + 4 * (6 * (3 * f + t) + 1) + (0 + 492 + 4 * (6 * (3 * f + t) + j) + q - (492 + 4 * (6 * (3 * f + t)))) = 0 + 492 + 4 * (6 * (3 * f + t) + (j + 1)) + q by omega]
    · obtain ⟨z1, z2, z3⟩ := h.2.2.2.2 w hw
      rw [show wY (aHear W f t k r) w = wY W w from fset_n _ _ ew]
      refine ⟨z1, by rw [hS, if_neg (by omega), hI, if_neg (by omega), if_neg (by omega), if_neg (by omega)]; exact z2, fun j x q hx hq => ?_⟩
      have hj : j < (wY W w).length := (List.getElem?_eq_some_iff.mp hx).1
      rw [hS, if_neg (by omega), hI, if_neg (by omega), if_neg (by omega), if_neg (by omega)]
      exact z3 j x q hx hq
  · intro j hj
    rw [hS, if_neg (by omega), hI, if_neg (by omega), if_neg (by omega), if_neg (by omega)]
/-- a copy's tree is laid -/
theorem r_lays (hV : V T W) (h : RW (S.2.1 299) 0 W) {c s : Nat} (hc : c < 3) (hs : s < 104) : ∃ S', f_X10_lays (ov S n) 296 (nI s) (nI c) = some (ov S' n, ()) ∧ LL S' (wL W c) ∧ TT S' s (tr W c) ∧ (∀ j b, (mVl 1000 (wL W c) 0 (wB W c))[j]? = some b → S'.2.1 301 j = b2i b) ∧ RX S S' ∧ S'.2.1 299 = S.2.1 299 ∧ ∀ s' E, s' ≠ s → TT S s' E → TT S' s' E := by
  obtain ⟨S1, k1, k2, k3⟩ := r_loadsW (n := n) hc h (hV.lb hc)
  obtain ⟨S2, g1, g2, g3, g4⟩ := r_grows (n := n) (S := S1) (E := wB W c) hs hc (fun j q hj hq => by
    rw [k3.m]
    have := h.2.2.1 c j q hc hj hq
    rw [Nat.zero_add] at this
    exact this) (hV.2.2.2.1 c hc).1 k2 (fun k hk => ((hV.2.2.1 c hc).2.2 k hk).1) w_none
  refine ⟨S2, ?_, k2.rg g4, g2, g3, k3.x.tr g4.x, by rw [g4.m, k3.m], fun s' E h1 h2 => (h2.rl k3).rg g4 h1⟩
  unfold f_X10_lays b_X10_lays_0
  rw [r_chk, k1, bS, g1, bS]
/-- the tree of a list at a copy is laid -/
theorem r_growW (hV : V T W) (h : RW (S.2.1 299) 0 W) {c s : Nat} (hc : c < 3) (hs : s < 104) (hl : LL S l) (hok : ∀ k ∈ l, okM k) {bi : Int32} {w : Nat} (hw : ∀ i, i < 1000 → (nI i = bi) = (i = w)) : ∃ S', f_X10_grows (ov S n) 296 (nI s) (nI c) bi = some (ov S' n, ()) ∧ TT S' s (mBld w l 0 (wB W c)) ∧ (∀ j b, (mVl w l 0 (wB W c))[j]? = some b → S'.2.1 301 j = b2i b) ∧ RG s S S' :=
  r_grows hs hc (fun j q hj hq => by
    have := h.2.2.1 c j q hc hj hq
    rw [Nat.zero_add] at this
    exact this) (hV.2.2.2.1 c hc).1 hl hok hw
end RB
