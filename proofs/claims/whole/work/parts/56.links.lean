/-! WORLDS: letters taken, one or all; the two ways to count what is undone -/
theorem fset_id {α : Type} (f : Nat → α) (c : Nat) : fset f c (f c) = f := by
  funext x
  by_cases e : x = c
  · subst e; rw [fset_s]
  · rw [fset_n _ _ e]
theorem fset_2 {α : Type} (f : Nat → α) (c : Nat) (u v : α) : fset (fset f c u) c v = fset f c v := by
  funext x
  by_cases e : x = c
  · subst e; rw [fset_s, fset_s]
  · rw [fset_n _ _ e, fset_n _ _ e, fset_n _ _ e]
theorem aLog_id (W : aW) (c : Nat) : aLog W c (wL W c) = W := by
  unfold aLog
  rw [fset_id]
theorem aLog_2 (W : aW) (c : Nat) (l l' : List Nat) : aLog (aLog W c l) c l' = aLog W c l' := by
  unfold aLog
  simp only [fset_2]
/-- sorted moves, told apart by their stamps -/
def SM (M : Nat → Nat) (l : List Nat) : Prop := l.Pairwise (· ≤ ·) ∧ ∀ x ∈ l, x % 4096 = M (x / 4096) ∧ okM x
def mPutA (ys l : List Nat) : List Nat := ys.foldl (fun l k => mPut k l) l
theorem mIns_mem {k x : Nat} {l : List Nat} : x ∈ mIns k l ↔ x = k ∨ x ∈ l := mAt_mem
theorem mInsA_mem : ∀ {ms l : List Nat} {x : Nat}, x ∈ mInsA ms l ↔ x ∈ ms ∨ x ∈ l := by
  intro ms
  induction ms with
  | nil => intro l x; simp [mInsA]
  | cons k ms ih =>
    intro l x
    show x ∈ mInsA ms (mIns k l) ↔ _
    rw [ih, mIns_mem, List.mem_cons]
    constructor
    · rintro (h | h | h)
      · exact Or.inl (Or.inr h)
      · exact Or.inl (Or.inl h)
      · exact Or.inr h
    · rintro ((h | h) | h)
      · exact Or.inr (Or.inl h)
      · exact Or.inl h
      · exact Or.inr (Or.inr h)
theorem SM.ls {M : Nat → Nat} {l : List Nat} (h : SM M l) {k : Nat} (hk : k % 4096 = M (k / 4096)) : ∀ x ∈ l, mLs k x = decide (k < x) := fun x hx => ls_of hk (fun e => by rw [e]; exact (h.2 x hx).1)
theorem SM.put {M : Nat → Nat} {l : List Nat} (h : SM M l) {k : Nat} (hk : mHm k = true → k % 4096 = M (k / 4096) ∧ okM k) : mPut k l = (if mHm k then mIns k l else l) ∧ SM M (mPut k l) ∧ (mHm k = true → l.length - mPos k l l.length = l.countP (mLs k)) := by
  unfold mPut
  by_cases e : mHm k = true
  · obtain ⟨k1, k2⟩ := hk e
    obtain ⟨a1, a2, a3⟩ := ins_eq h.1 (h.ls k1)
    rw [if_pos e, if_pos e, a2]
    refine ⟨rfl, ⟨mIns_sorted h.1, fun x hx => ?_⟩, fun _ => a3⟩
    rcases mIns_mem.mp hx with rfl | hx
    · exact ⟨k1, k2⟩
    · exact h.2 x hx
  · rw [if_neg e, if_neg e]
    exact ⟨rfl, h, fun q => absurd q e⟩
theorem mMv_cons (k : Nat) (ys : List Nat) : mMv (k :: ys) = if mHm k then k :: mMv ys else mMv ys := by
  unfold mMv mHm
  by_cases e : cF k = 0 <;> simp [e]
theorem mMv_cnt (ys : List Nat) : (mMv ys).length = ys.countP mHm := by
  rw [List.countP_eq_length_filter]
  rfl
theorem mMv_mem {x : Nat} {ys : List Nat} : x ∈ mMv ys ↔ x ∈ ys ∧ mHm x = true := by
  unfold mMv mHm
  rw [List.mem_filter]
theorem SM.putA {M : Nat → Nat} : ∀ {ys l : List Nat}, SM M l → (∀ k ∈ ys, mHm k = true → k % 4096 = M (k / 4096) ∧ okM k) → mPutA ys l = mInsA (mMv ys) l ∧ SM M (mPutA ys l) := by
  intro ys
  induction ys with
  | nil => intro l h _; exact ⟨rfl, h⟩
  | cons k ys ih =>
    intro l h hy
    obtain ⟨a1, a2, -⟩ := h.put (hy k (by simp))
    obtain ⟨b1, b2⟩ := ih a2 (fun x hx => hy x (by simp [hx]))
    refine ⟨?_, b2⟩
    show mPutA ys (mPut k l) = _
    rw [b1, a1, mMv_cons]
    by_cases e : mHm k = true
    · rw [if_pos e, if_pos e]; rfl
    · rw [if_neg e, if_neg e]
theorem mPutA_len : ∀ (ys l : List Nat), (mPutA ys l).length ≤ l.length + ys.length := by
  intro ys
  induction ys with
  | nil => intro l; exact Nat.le_refl _
  | cons k ys ih =>
    intro l
    have h1 := ih (mPut k l)
    have h2 := mPut_len k l
    show (mPutA ys (mPut k l)).length ≤ _
    rw [List.length_cons]
    omega
section LK
variable {T : Nat} {W : aW}
theorem V.sm (h : V T W) : ∃ M, (∀ c, c < 3 → SM M (wL W c)) ∧ ∀ f t, f < 3 → t < 3 → ∀ k ∈ wY W (3 * f + t), mHm k = true → k % 4096 = M (k / 4096) ∧ okM k := by
  obtain ⟨M, m1, m2, m3⟩ := h.2.2.2.2.2
  exact ⟨M, fun c hc => ⟨(h.2.2.1 c hc).2.1, fun x hx => ⟨m1 c hc x hx, ((h.2.2.1 c hc).2.2 x hx).1⟩⟩, fun f t hf ht k hk hm => ⟨m3 f t hf ht k hk hm, mHm_ok ((h.2.2.2.2.1 f t hf ht).2.2.2 k hk).1 hm⟩⟩
/-- letters of a way are taken, up to k -/
theorem V.take (h : V T W) {f t k : Nat} {a r l' : List Nat} (hf : f < 3) (ht : t < 3) (hft : f ≠ t) (hy : wY W (3 * f + t) = a ++ k :: r) (hl : l'.length ≤ 20) (hs : l'.Pairwise (· ≤ ·)) (hx : ∀ x ∈ l', x ∈ wL W t ∨ (x ∈ a ++ [k] ∧ mHm x = true)) : V T (aLog (aHear W f t k r) t l') := by
  have h1 := h.hear hf ht hft ⟨a, hy⟩
  have hv := h.2.2.2.2.1 f t hf ht
  have hin : ∀ x, x ∈ a ++ [k] → x ∈ wY W (3 * f + t) := by
    intro x hx
    rw [hy]
    rcases List.mem_append.mp hx with q | q
    · exact List.mem_append.mpr (Or.inl q)
    · have : x = k := by simpa using q
      rw [this]; simp
  have hle : ∀ x, x ∈ a ++ [k] → cT x ≤ cT k := by
    intro x hx
    rcases List.mem_append.mp hx with q | q
    · have := hv.2.2.1
      rw [hy] at this
      exact (List.pairwise_append.mp this).2.2 x q k (by simp)
    · have : x = k := by simpa using q
      rw [this]; exact Nat.le_refl _
  obtain ⟨M, m1, m2, m3⟩ := h.2.2.2.2.2
  refine ⟨h1.1, h1.2.1, fun d hd => ?_, h1.2.2.2.1, h1.2.2.2.2.1, M, fun d hd x hxl => ?_, m2, fun f' t' hf' ht' x hxl hm => ?_⟩
  · by_cases e : d = t
    · subst e
      rw [show wL (aLog (aHear W f d k r) d l') d = l' from fset_s _ _ _]
      refine ⟨hl, hs, fun x hxl => ?_⟩
      rcases hx x hxl with q | ⟨q1, q2⟩
      · exact (h1.2.2.1 d hd).2.2 x q
      · have hv' := hv.2.2.2 x (hin x q1)
        refine ⟨mHm_ok hv'.1 q2, ?_, ?_⟩
        · rw [show wT (aLog (aHear W f d k r) d l') d = max (wT W d) (cT k) from fset_s _ _ _]
          have := hle x q1
          omega
        · rw [hv'.1.2.1, show wT (aLog (aHear W f d k r) d l') f = wT W f from fset_n _ _ hft]
          exact hv'.2
    · rw [show wL (aLog (aHear W f t k r) t l') d = wL W d from fset_n _ _ e]
      exact h1.2.2.1 d hd
  · by_cases e : d = t
    · subst e
      rw [show wL (aLog (aHear W f d k r) d l') d = l' from fset_s _ _ _] at hxl
      rcases hx x hxl with q | ⟨q1, q2⟩
      · exact m1 d hd x q
      · exact m3 f d hf hd x (hin x q1) q2
    · rw [show wL (aLog (aHear W f t k r) t l') d = wL W d from fset_n _ _ e] at hxl
      exact m1 d hd x hxl
  · by_cases e : 3 * f' + t' = 3 * f + t
    · rw [e, show wY (aLog (aHear W f t k r) t l') (3 * f + t) = r from fset_s _ _ _] at hxl
      exact m3 f t hf ht x (by rw [hy]; simp [hxl]) hm
    · rw [show wY (aLog (aHear W f t k r) t l') (3 * f' + t') = wY W (3 * f' + t') from fset_n _ _ e] at hxl
      exact m3 f' t' hf' ht' x hxl hm
theorem V.tk (h : V T W) {f t k : Nat} {r : List Nat} (hf : f < 3) (ht : t < 3) (hft : f ≠ t) (hy : wY W (3 * f + t) = k :: r) (hl : mHm k = true → (wL W t).length < 20) : V T (dTk W f t k r) := by
  have hv := h.2.2.1 t ht
  unfold dTk
  by_cases e : mHm k = true
  · rw [if_pos e]
    refine h.take (a := []) hf ht hft hy (by rw [mIns_len]; have := hl e; omega) (mIns_sorted hv.2.1) (fun x hx => ?_)
    rcases mIns_mem.mp hx with rfl | hx
    · exact Or.inr ⟨by simp, e⟩
    · exact Or.inl hx
  · rw [if_neg e]
    exact h.take (a := []) hf ht hft hy hv.1 hv.2.1 (fun x hx => Or.inl hx)
theorem V.cm (h : V T W) {f t : Nat} (hf : f < 3) (ht : t < 3) (hft : f ≠ t) : V T (dCm W f t).2 := by
  unfold dCm
  cases hy : wY W (3 * f + t) with
  | nil => exact h
  | cons k r =>
    show V T (if mHm k && decide (20 ≤ (wL W t).length) then ((-3 : Int32), W) else _).2
    by_cases ec : (mHm k && decide (20 ≤ (wL W t).length)) = true
    · rw [if_pos ec]; exact h
    · rw [if_neg ec]
      refine h.tk hf ht hft hy (fun em => ?_)
      rw [em, Bool.true_and, decide_eq_true_eq] at ec
      omega
theorem V.bt (h : V T W) (hT : T ≤ 100000) {c : Nat} (hc : c < 3) : V T (dBt W c).2 := by
  unfold dBt
  by_cases e : aFull W c = true
  · rw [if_pos e]; exact h
  · rw [if_neg e]; exact h.beat hT hc (by simpa using e)
theorem V.mk (h : V T W) (hT : T ≤ 100000) {c f p m : Nat} (hc : c < 3) (hf2 : 2 ≤ f) (hf : f < 14) (hp : p < 14) (hm : m < 10) : V (T + 1) (dMk W c f p m).2 := by
  have ht := h.1 c hc
  unfold dMk
  by_cases e0 : 20 ≤ (wL W c).length
  · rw [if_pos e0]; exact h.mono (by omega)
  · rw [if_neg e0]
    by_cases e : aFull W c = true
    · rw [if_pos e]; exact h.mono (by omega)
    · rw [if_neg e]
      have kT := cMk_T (t := wT W c + 1) (c := c) (f := f) (p := p) (n := m) (by omega) (by omega) (by omega) (by omega)
      have kC := cMk_C (t := wT W c + 1) (c := c) (f := f) (p := p) (n := m) (by omega) (by omega) (by omega) (by omega)
      have kF := cMk_F (t := wT W c + 1) (c := c) (f := f) (p := p) (n := m) (by omega) (by omega) (by omega) (by omega)
      have kP := cMk_P (t := wT W c + 1) (c := c) (f := f) (p := p) (n := m) (by omega) (by omega) (by omega) (by omega)
      have kN := cMk_N (t := wT W c + 1) (c := c) (f := f) (p := p) (n := m) (by omega) (by omega) (by omega) (by omega)
      have hlt := cMk_lt (t := wT W c + 1) (c := c) (f := f) (p := p) (m := m) (by omega) (by omega) (by omega) (by omega) (by omega)
      exact h.make hc ⟨hlt, by omega, by omega, by omega, by omega, by omega⟩ kC kT (by omega) (by simpa using e)
theorem V.ct (h : V T W) {c : Nat} (hc : c < 3) : V T (dCt W c).2 := h.cut hc
/-! all at once -/
def aHA (W : aW) (c d : Nat) : aW := match (wY W (3 * d + c)).getLast? with
  | none => W
  | some k => aHear W d c k []
theorem aTk1_eq (W : aW) (c d : Nat) : aTk1 W c d = aLog (aHA W c d) c (mInsA (mMv (wY W (3 * d + c))) (wL W c)) := by
  unfold aTk1 aHA
  cases hg : (wY W (3 * d + c)).getLast? with
  | none =>
    have hy : wY W (3 * d + c) = [] := List.getLast?_eq_none_iff.mp hg
    rw [hy]
    exact (aLog_id W c).symm
  | some k => rfl
theorem aHA_log (W : aW) (c d : Nat) (l : List Nat) : aHA (aLog W c l) c d = aLog (aHA W c d) c l := by
  unfold aHA
  rw [show wY (aLog W c l) (3 * d + c) = wY W (3 * d + c) from rfl]
  cases (wY W (3 * d + c)).getLast? with
  | none => rfl
  | some k => rfl
theorem aHA_L (W : aW) (c d : Nat) : wL (aHA W c d) = wL W := by
  unfold aHA
  cases (wY W (3 * d + c)).getLast? <;> rfl
theorem aHA_B (W : aW) (c d : Nat) : wB (aHA W c d) = wB W := by
  unfold aHA
  cases (wY W (3 * d + c)).getLast? <;> rfl
theorem aHA_Y (W : aW) (c d i : Nat) (h : i ≠ 3 * d + c) : wY (aHA W c d) i = wY W i := by
  unfold aHA
  cases (wY W (3 * d + c)).getLast? with
  | none => rfl
  | some k => exact fset_n _ _ h
/-- the log behind all letters -/
def aAll (W : aW) (c : Nat) : List Nat := fw (fun d l => mInsA (mMv (wY W (3 * d + c))) l) (wL W c) 0 3
theorem dTa_eq (W : aW) {c : Nat} : dTa W c = aLog (fw (fun d W => aHA W c d) W 0 3) c (aAll W c) := by
  show aTk1 (aTk1 (aTk1 W c 0) c 1) c 2 = aLog (aHA (aHA (aHA W c 0) c 1) c 2) c (mInsA (mMv (wY W (3 * 2 + c))) (mInsA (mMv (wY W (3 * 1 + c))) (mInsA (mMv (wY W (3 * 0 + c))) (wL W c))))
  have l1 : ∀ (W : aW) (l : List Nat), wL (aLog W c l) c = l := fun W l => fset_s _ _ _
  have y1 : ∀ (W : aW) (l : List Nat) (i : Nat), wY (aLog W c l) i = wY W i := fun W l i => rfl
  rw [aTk1_eq W c 0, aTk1_eq _ c 1, l1, y1, aHA_log, aLog_2, aHA_Y W c 0 (3 * 1 + c) (by omega), aTk1_eq _ c 2, l1, y1, aHA_log, aLog_2, aHA_Y _ c 1 (3 * 2 + c) (by omega), aHA_Y W c 0 (3 * 2 + c) (by omega)]
theorem last_app {y : List Nat} {k : Nat} (h : y.getLast? = some k) : ∃ a, y = a ++ [k] := by
  have := List.getLast?_eq_some_iff.mp h
  exact this
theorem V.tk1 (h : V T W) {c d : Nat} (hc : c < 3) (hd : d < 3) (hl : (wL W c).length + (wY W (3 * d + c)).countP mHm ≤ 20) : V T (aTk1 W c d) := by
  have hv := h.2.2.1 c hc
  cases hg : (wY W (3 * d + c)).getLast? with
  | none =>
    have e1 : aTk1 W c d = W := by unfold aTk1; rw [hg]
    rw [e1]; exact h
  | some k =>
    have e1 : aTk1 W c d = aLog (aHear W d c k []) c (mInsA (mMv (wY W (3 * d + c))) (wL W c)) := by unfold aTk1; rw [hg]
    obtain ⟨a, ha⟩ := last_app hg
    have hdc : d ≠ c := fun e => by
      have := (h.2.2.2.2.1 d c hd hc).2.1 e
      rw [ha] at this
      simp at this
    obtain ⟨M, s1, s2⟩ := h.sm
    obtain ⟨p1, p2⟩ := (s1 c hc).putA (ys := wY W (3 * d + c)) (s2 d c hd hc)
    rw [e1]
    refine h.take (a := a) hd hc hdc ha (by rw [mInsA_len, mMv_cnt]; exact hl) (by rw [← p1]; exact p2.1) (fun x hx => ?_)
    rcases mInsA_mem.mp hx with q | q
    · obtain ⟨q1, q2⟩ := mMv_mem.mp q
      rw [ha] at q1
      exact Or.inr ⟨q1, q2⟩
    · exact Or.inl q
theorem tk1_L (W : aW) (c d : Nat) : (wL (aTk1 W c d) c).length = (wL W c).length + (wY W (3 * d + c)).countP mHm := by
  rw [aTk1_eq, show wL (aLog (aHA W c d) c (mInsA (mMv (wY W (3 * d + c))) (wL W c))) c = mInsA (mMv (wY W (3 * d + c))) (wL W c) from fset_s _ _ _, mInsA_len, mMv_cnt]
theorem tk1_Y (W : aW) (c d i : Nat) (h : i ≠ 3 * d + c) : wY (aTk1 W c d) i = wY W i := by
  rw [aTk1_eq]
  exact aHA_Y W c d i h
theorem V.ga (h : V T W) {c : Nat} (hc : c < 3) : V T (dGa W c).2 := by
  unfold dGa
  by_cases e0 : aWf W c = 0
  · rw [if_pos e0]; exact h
  · rw [if_neg e0]
    by_cases e1 : 20 < (wL W c).length + aMw W c
    · rw [if_pos e1]; exact h
    · rw [if_neg e1]
      have em : aMw W c = 0 + (wY W (3 * 0 + c)).countP mHm + (wY W (3 * 1 + c)).countP mHm + (wY W (3 * 2 + c)).countP mHm := rfl
      have a0 := h.tk1 (d := 0) hc (by omega) (by omega)
      have a1 := a0.tk1 (d := 1) hc (by omega) (by rw [tk1_L, tk1_Y _ _ _ _ (by omega)]; omega)
      exact a1.tk1 (d := 2) hc (by omega) (by rw [tk1_L, tk1_L, tk1_Y _ _ _ _ (by omega), tk1_Y _ _ _ _ (by omega), tk1_Y _ _ _ _ (by omega)]; omega)
/-! what is undone -/
theorem und_min {l : List Nat} : ∀ (ms : List Nat) (m : Nat), (∀ k ∈ ms, ∀ x ∈ l, mLs k x = decide (k < x)) → ms.foldl (fun a k => max a (l.countP (mLs k))) (l.countP (fun x => decide (m < x))) = l.countP (fun x => decide (ms.foldl min m < x)) := by
  intro ms
  induction ms with
  | nil => intro m _; rfl
  | cons k ms ih =>
    intro m h
    have e : max (l.countP (fun x => decide (m < x))) (l.countP (mLs k)) = l.countP (fun x => decide (min m k < x)) := by
      have e1 : l.countP (mLs k) = l.countP (fun x => decide (k < x)) := List.countP_congr (fun x hx => by rw [h k (by simp) x hx])
      rw [e1]
      by_cases hm : m ≤ k
      · rw [Nat.min_eq_left hm]
        refine Nat.max_eq_left (List.countP_mono_left (fun x _ q => ?_))
        simp only [decide_eq_true_eq] at q ⊢
        omega
      · rw [Nat.min_eq_right (by omega)]
        refine Nat.max_eq_right (List.countP_mono_left (fun x _ q => ?_))
        simp only [decide_eq_true_eq] at q ⊢
        omega
    show ms.foldl _ (max _ _) = l.countP (fun x => decide (ms.foldl min (min m k) < x))
    rw [e]
    exact ih _ (fun x hx => h x (by simp [hx]))
theorem V.und (h : V T W) {c : Nat} (hc : c < 3) : dUn W c = (wL W c).countP (fun x => decide (aLst W c < x) && mHm x) := by
  obtain ⟨M, s1, s2⟩ := h.sm
  have hb := h.lb hc
  have hk : ∀ d, d < 3 → ∀ k ∈ mMv (wY W (3 * d + c)), ∀ x ∈ wL W c, mLs k x = decide (k < x) := by
    intro d hd k hk
    obtain ⟨q1, q2⟩ := mMv_mem.mp hk
    exact (s1 c hc).ls (s2 d c hd hc k q1 q2).1
  have e0 : (wL W c).countP (fun x => decide (2 ^ 62 < x)) = 0 := by
    rw [List.countP_eq_zero]
    intro x hx
    have := hb x hx
    simp
    omega
  have e1 := und_min (mMv (wY W (3 * 0 + c))) (2 ^ 62) (hk 0 (by omega))
  have e2 := und_min (mMv (wY W (3 * 1 + c))) ((mMv (wY W (3 * 0 + c))).foldl min (2 ^ 62)) (hk 1 (by omega))
  have e3 := und_min (mMv (wY W (3 * 2 + c))) ((mMv (wY W (3 * 1 + c))).foldl min ((mMv (wY W (3 * 0 + c))).foldl min (2 ^ 62))) (hk 2 (by omega))
  have el : dUn W c = (mMv (wY W (3 * 2 + c))).foldl (fun a k => max a ((wL W c).countP (mLs k))) ((mMv (wY W (3 * 1 + c))).foldl (fun a k => max a ((wL W c).countP (mLs k))) ((mMv (wY W (3 * 0 + c))).foldl (fun a k => max a ((wL W c).countP (mLs k))) 0)) := rfl
  rw [e0] at e1
  rw [el, e1, e2, e3]
  refine List.countP_congr (fun x hx => ?_)
  have := ok_hm ((s1 c hc).2 x hx).2
  rw [this, Bool.and_true]
  exact Iff.rfl
theorem l_min {a b : Nat} (ha : a < 2 ^ 63) (hb : b < 2 ^ 63) : q_minl (lN a) (lN b) = lN (min a b) := by
  unfold q_minl
  by_cases e : b < a
  · rw [if_pos ((pk_lLT hb ha).mpr e), Nat.min_eq_right (by omega)]
  · rw [if_neg (fun q => e ((pk_lLT hb ha).mp q)), Nat.min_eq_left (by omega)]
theorem l_cmp_le' {a b : Nat} (ha : a < 2 ^ 63) (hb : b < 2 ^ 63) : (lg_cmp (lN a) (lN b) ≤ 0) = (a ≤ b) := by
  unfold lg_cmp
  have h2 := pk_lLT hb ha
  have h3 := pk_lEQ ha hb
  apply propext
  by_cases e2 : b < a
  · rw [if_pos (h2.mpr e2)]
    exact ⟨fun h => absurd h (by decide), fun h => by omega⟩
  · rw [if_neg (fun q => e2 (h2.mp q))]
    by_cases e : a = b
    · rw [if_pos (h3.mpr e)]
      exact ⟨fun _ => by omega, fun _ => by decide⟩
    · rw [if_neg (fun q => e (h3.mp q))]
      exact ⟨fun _ => by omega, fun _ => by decide⟩
theorem foldl_min_le : ∀ (ms : List Nat) (m : Nat), ms.foldl min m ≤ m := by
  intro ms
  induction ms with
  | nil => intro m; exact Nat.le_refl _
  | cons k ms ih =>
    intro m
    have := ih (min m k)
    show ms.foldl min (min m k) ≤ m
    omega
theorem x_undL {S : o_S} {n : Nat × Nat × Nat} {w c : Nat} (H : CW S w W) (k7 : q_H → Nat → Int32 → Int64 → Int32 → Option (q_H × Int32)) {j : Nat} (hj : j < 3) (hc : c < 3) : ∀ d i fuel m, i + d = (wY W (3 * j + c)).length → d < fuel → m < 2 ^ 63 → l_X8_undoneAtOnce_25 k7 fuel (ov S n) w (nI c) (lN m) (nI j) (w + 27 + 2 * (3 * j + c)) (nI i) = k7 (ov S n) w (nI c) (lN (mMin m ((wY W (3 * j + c)).drop i))) (nI (j + 1)) := by
  have HY := H.2.2 (3 * j + c) (by omega)
  have hyl := HY.2.2.1
  intro d
  induction d with
  | zero =>
    intro i fuel m hi hf hm
    obtain ⟨f, rfl⟩ : ∃ f, fuel = f + 1 := ⟨fuel - 1, by omega⟩
    show b_X8_undoneAtOnce_25 _ _ _ _ _ _ _ _ _ = _
    unfold b_X8_undoneAtOnce_25
    rw [List.drop_eq_nil_of_le (by omega)]
    simp (disch := omega) only [s_gI HY, bS, i_le, show (wY W (3 * j + c)).length ≤ i by omega, if_true, nI_1]
    rfl
  | succ d ih =>
    intro i fuel m hi hf hm
    obtain ⟨f, rfl⟩ : ∃ f, fuel = f + 1 := ⟨fuel - 1, by omega⟩
    have hx : (wY W (3 * j + c))[i]? = some (wY W (3 * j + c))[i] := List.getElem?_eq_getElem (by omega)
    have hxb : (wY W (3 * j + c))[i] < 2 ^ 31 := HY.mem (List.mem_of_getElem? hx)
    have hat : f_X5_at (ov S n) (w + 27 + 2 * (3 * j + c)) (nI i) = some (ov S n, lN (wY W (3 * j + c))[i]) := by
      rw [s_at HY (by omega), List.getD_eq_getElem?_getD, hx]; rfl
    show b_X8_undoneAtOnce_25 _ _ _ _ _ _ _ _ _ = _
    unfold b_X8_undoneAtOnce_25 b_X8_undoneAtOnce_60
    rw [List.drop_eq_getElem_cons (by omega)]
    simp (disch := omega) only [s_gI HY, bS, i_le, show ¬ (wY W (3 * j + c)).length ≤ i by omega, if_false, hat, c_hasM _ hxb, b2i_eq0, nI_1, l_min hm (show (wY W (3 * j + c))[i] < 2 ^ 63 by omega)]
    unfold mMin
    rw [mMv_cons]
    by_cases e : mHm (wY W (3 * j + c))[i] = true
    · rw [if_neg (by simp [e]), if_pos e, ih (i + 1) f _ (by omega) (by omega) (by omega)]
      rfl
    · rw [if_pos (by simpa using e), if_neg e, ih (i + 1) f m (by omega) (by omega) hm]
      rfl
theorem l_big : (4611686018427387904 : Int64) = lN 4611686018427387904 := by decide +kernel
theorem x_undone {S : o_S} {n : Nat × Nat × Nat} {w c : Nat} (H : CW S w W) (hV : V T W) (hc : c < 3) : f_X8_undoneAtOnce (ov S n) w (nI c) = some (ov S n, nI (dUn W c)) := by
  have hs := (H.2.1 c hc).1.2.2.1
  have hl := hs.2.2.1
  rw [hV.und hc]
  unfold f_X8_undoneAtOnce b_X8_undoneAtOnce_0
  rw [w_chk H.1, l_big]
  generalize hbig : 4611686018427387904 = big
  have hb63 : big < 2 ^ 63 := by omega
  have ha : aLst W c = fw (fun d m => mMin m (wY W (3 * d + c))) big 0 3 := by rw [← hbig]; unfold aLst; rw [show (2 : Nat) ^ 62 = 4611686018427387904 from by decide]
  rw [ha]
  refine fw_loop (fun fuel m j => l_X8_undoneAtOnce_7 fuel (ov S n) w (nI c) (lN m) (nI j)) (fun d m => mMin m (wY W (3 * d + c))) (fun m => (ov S n, nI ((wL W c).countP (fun x => decide (m < x) && mHm x)))) (fun m => m < 2 ^ 63) 0 3 (fun fuel m hm => ?_) (fun fuel m j hm h1 h2 => ⟨Nat.lt_of_le_of_lt (foldl_min_le _ _) hm, ?_⟩) 3 0 q_FU big hb63 (by omega) (by omega) (q_FU_lt (by omega))
  · show b_X8_undoneAtOnce_7 _ _ _ _ _ _ = _
    unfold b_X8_undoneAtOnce_7
    have hcl := s_countLater (n := n) (x := lN m) (P := fun x => decide (m < x)) hs (fun x hx => by
      have := hs.mem hx
      rw [l_cmp_le' (by omega) hm]
      simp) (c := (wL W c).length) (by omega)
    rw [List.take_length] at hcl
    simp (disch := omega) only [j3, i_le, Nat.le_refl, if_true, w_R0 H.1, w_cp H.1 hc, bS, cp_R3 (H.k hc), s_gI hs, hcl]
  · show b_X8_undoneAtOnce_7 _ _ _ _ _ _ = _
    unfold b_X8_undoneAtOnce_7
    have hyl := (H.2.2 (3 * j + c) (by omega)).2.2.1
    have := x_undL (n := n) H (l_X8_undoneAtOnce_7 fuel) h2 hc (wY W (3 * j + c)).length 0 q_FU m (by omega) (q_FU_lt (by omega)) hm
    rw [List.drop_zero] at this
    simp (disch := omega) only [j3, i_le, show ¬ 3 ≤ j by omega, if_false, w_way H.1 h2 hc, bS]
    exact this
end LK
