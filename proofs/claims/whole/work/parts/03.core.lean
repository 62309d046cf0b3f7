/-! CORE: an abstract heap (cells by small numbers), its tie to the machine's heap, and a judgement q_J over shallow functions -/
/-- cells, how many addresses, how many cells and slots were made -/
abbrev q_H : Type := (Nat → va_E) × Nat × Nat × Nat
/-- base address, class tables, array classes, addresses of old cells (0 ..: String constants, 100 ..: their bytes, 200: a static, 300: the script), the script, its length, the old heap, whether sizes are exact -/
abbrev q_G : Type := Nat × va_G × (Nat → ClassId) × (Nat → Nat) × (Nat → Int32) × Nat × Heap × Bool
def q_junk : va_E := .inr (99, [])
def q_v (G : q_G) : Value → Value
  | .ref k => .ref (G.1 + k)
  | .float u => .ref (G.2.2.2.1 u.toNat)
  | v => v
def q_e (G : q_G) : va_E → va_E
  | .inl (t, n, .inl f) => .inl (G.2.2.1 t, n, .inl f)
  | .inl (t, n, .inr (.inl f)) => .inl (G.2.2.1 t, n, .inr (.inl f))
  | .inl (t, n, .inr (.inr (.inl f))) => .inl (G.2.2.1 t, n, .inr (.inr (.inl f)))
  | .inl (t, n, .inr (.inr (.inr (.inl f)))) => .inl (G.2.2.1 t, n, .inr (.inr (.inr (.inl f))))
  | .inl (t, n, .inr (.inr (.inr (.inr f)))) => .inl (G.2.2.1 t, n, .inr (.inr (.inr (.inr (fun j => (f j).map (fun x => G.1 + x))))))
  | .inr (ci, fs) => .inr (ci, fs.map (q_v G))
def q_T (G : q_G) : List (ClassId × FieldType) := [(G.2.2.1 0, .int), (G.2.2.1 1, .long), (G.2.2.1 2, .boolean), (G.2.2.1 3, .char), (G.2.2.1 4, .object RX0), (G.2.2.1 5, .object RX5), (G.2.2.1 6, .object RX7), (G.2.2.1 7, .object RX8)]
def q_tb : List Cond := lw_tbl.filter goodWord
def q_isN : Cond → Bool
  | .methodLinkNest .. => true
  | .castable .. => true
  | .declares .. => true
  | _ => false
def q_nw : List Cond := lw_tbl.filter q_isN
def q_fr (G : q_G) : Addr → Prop := fun a => G.1 ≤ a
/-- the String constants: pool entry, text, bytes -/
def q_sx : List (Nat × String × List Int32) := [(269, "mbcgx", [109, 98, 99, 103, 120]), (271, "012", [48, 49, 50]), (263, "abcdefghijkl", [97, 98, 99, 100, 101, 102, 103, 104, 105, 106, 107, 108]), (276, "0123456789", [48, 49, 50, 51, 52, 53, 54, 55, 56, 57]), (316, "123456789", [49, 50, 51, 52, 53, 54, 55, 56, 57])]
def q_sl : List Nat := [5, 3, 12, 10, 9]
def q_sb : List (List Int32) := q_sx.map (fun x => x.2.2)
/-- what is known of cells that were there before -/
def q_X (G : q_G) (U : State) : Prop :=
  (∀ (i : Nat) (x : Nat × String × List Int32), q_sx[i]? = some x → vk_R RX10 x.1 x.2.1 (G.2.2.2.1 i) U) ∧ vk_S 5 q_sl q_sb G.2.2.2.1 (fun i => G.2.2.2.1 (100 + i)) (q_fr G) U G.2.2.2.2.2.2.1 ∧ va_Z "java/lang/String" "COMPACT_STRINGS" "Z" (.int 1) (q_fr G) U G.2.2.2.2.2.2.1 ∧
  (∃ v9 : Value, (v9 = .null ∨ v9 = .float 200) ∧ va_Z "jdk/internal/util/Preconditions" "SIOOBE_FORMATTER" "Ljava/util/function/BiFunction;" (q_v G v9) (q_fr G) U G.2.2.2.2.2.2.1) ∧ (va_X (G.2.2.2.1 300) G.2.2.2.2.2.1 G.2.2.2.2.1 U G.2.2.2.2.2.2.1 ∧ ¬ q_fr G (G.2.2.2.1 300)) ∧
  vx_Zq Bundle.tN "UNASSIGNED_STACK" Bundle.steD (q_fr G) U G.2.2.2.2.2.2.1 ∧ vx_Zq Bundle.tN "SUPPRESSED_SENTINEL" Bundle.listD (q_fr G) U G.2.2.2.2.2.2.1
/-- what the tables say at a state -/
def q_K (G : q_G) (U : State) : Prop := va_K G.2.1 vwCl (q_T G) U ∧ (∀ w ∈ q_nw, va_Nw w U) ∧ (va_AO RX0 U ∧ va_AO RX5 U ∧ va_AO RX7 U ∧ va_AO RX8 U) ∧ q_X G U
/-- the heap holds the abstract one -/
def q_R (G : q_G) (h : q_H) (H : Heap) : Prop :=
  (G.1 + h.2.1 ≤ H.size ∧ (G.2.2.2.2.2.2.2 = true → H.size = G.1 + h.2.1)) ∧ (∀ a : Nat, h.1 a ≠ q_junk → a < h.2.1 ∧ va_at G.2.1 vwCl (G.1 + a, q_e G (h.1 a)) H) ∧ ∀ q : Nat, q < G.1 → H[q]? = G.2.2.2.2.2.2.1[q]?
def q_le (h h' : q_H) : Prop := h.2.1 ≤ h'.2.1 ∧ h.2.2.1 ≤ h'.2.2.1 ∧ h.2.2.2 ≤ h'.2.2.2
theorem q_le.rf {h : q_H} : q_le h h := ⟨Nat.le_refl _, Nat.le_refl _, Nat.le_refl _⟩
theorem q_le.tr {a b c : q_H} (h : q_le a b) (k : q_le b c) : q_le a c := ⟨Nat.le_trans h.1 k.1, Nat.le_trans h.2.1 k.2.1, Nat.le_trans h.2.2 k.2.2⟩
/-- a cell is written -/
def q_s (h : q_H) (a : Nat) (e : va_E) : q_H := (va_up h.1 a e, h.2)
/-- the method that runs: program, launch, environment, room, its first state, its number, arguments, frames below, method, code -/
abbrev q_M := Program × Launch × Env × Room × State × MethodId × Array Value × List Frame × Method × Code
def q_W (M : q_M) (H : Heap) (locs : List Loc) (cells slots : Nat) (Q : State → Prop) (pc : Nat) (ls : Array Slot) (st : List Value) : Prop :=
  W M.1 M.2.1 M.2.2.1 M.2.2.2.1 M.2.2.2.2.1 M.2.2.2.2.2.1 M.2.2.2.2.2.2.1 M.2.2.2.2.2.2.2.1 M.2.2.2.2.2.2.2.2.1 M.2.2.2.2.2.2.2.2.2 H locs cells slots Q (F0 M.2.2.2.2.2.1 pc ls st)
def q_lv (G : q_G) (x : Nat × Value) : Nat × Value := (x.1, q_v G x.2)
/-- what is known of the method's text: class, bytes, locals, frames and words left, answer, name, table of handlers -/
abbrev q_S : Type := String × ByteArray × Nat × Nat × Nat × Option FieldType × String × List ExceptionTableEntry
def q_C (G : q_G) (M : q_M) (S : q_S) : Prop :=
  M.1.tables.exec = Jvm.exec ∧ M.2.2.2.2.2.2.2.2.2.code = S.2.1 ∧ M.2.2.2.2.2.2.2.2.2.maxLocals = S.2.2.1 ∧ M.2.2.2.2.1.vm.findClass S.1 = some M.2.2.2.2.2.1.cls ∧ (∀ w ∈ q_tb, w.before M.2.2.2.2.2.2.1 M.2.2.2.2.1 = true) ∧ q_K G M.2.2.2.2.1 ∧ M.2.2.2.2.2.2.2.2.1.locks = false ∧ M.2.2.2.1.frames = S.2.2.2.1 ∧ M.2.2.2.1.locals = S.2.2.2.2.1 ∧ M.2.2.2.2.2.2.2.2.1.sig.returnType = S.2.2.2.2.2.1 ∧ M.2.2.2.2.2.2.2.2.1.name = S.2.2.2.2.2.2.1 ∧ M.2.2.2.2.2.2.2.2.2.exceptionTable.toList = S.2.2.2.2.2.2.2 ∧ ∀ q : Nat, q < G.1 → M.2.2.2.2.1.heap[q]? = G.2.2.2.2.2.2.1[q]?
def q_J (G : q_G) (l : Launch) (S : q_S) (k0 z0 : Nat) {α : Type} (Z : q_M → q_H × α → State → Prop) (pc : Nat) (lv : List (Nat × Value)) (st : List Value) (h : q_H) (f : Option (q_H × α)) : Prop :=
  ∀ q, f = some q → q_le h q.1 ∧ ∀ M : q_M, M.2.1 = l → q_C G M S → q.1.2.2.1 - k0 ≤ M.2.2.2.1.cells → q.1.2.2.2 - z0 ≤ M.2.2.2.1.slots → k0 ≤ h.2.2.1 → z0 ≤ h.2.2.2 → ∀ (H : Heap) (locs : List Loc) (ls : Array Slot), q_R G h H → (∀ x ∈ locs, G.1 ≤ x.base) → lv_has ls S.2.2.1 (lv.map (q_lv G)) →
    q_W M H locs (h.2.2.1 - k0) (h.2.2.2 - z0) (Z M q) pc ls (st.map (q_v G))
/-- what a method answers, and the heap behind it -/
def q_Q (G : q_G) (rv : Option Value) (h : q_H) : Array Value → State → Outcome → State → Prop := fun _ _ oc t => oc = .returned (rv.map (q_v G)) ∧ q_R G h t.heap
def q_P (G : q_G) (av : List Value) (h : q_H) : Array Value → State → Prop := va_Pc (av.map (q_v G)) (fun U => q_R G h U.heap ∧ q_K G U)
def q_Z (G : q_G) (k0 z0 : Nat) {α : Type} (en : α → Option Value) : q_M → q_H × α → State → Prop := fun M q => MQ M.2.2.2.2.2.2.2.1 (q_Q G (en q.2) q.1) M.2.2.2.2.2.2.1 M.2.2.2.2.1 (q.1.2.2.1 - k0) (q.1.2.2.2 - z0) (q_fr G)
def q_i (r : Int32) : Option Value := some (.int r)
def q_l (r : Int64) : Option Value := some (.long r)
def q_r (r : Nat) : Option Value := some (.ref r)
def q_u (_ : Unit) : Option Value := none
/-- a method's contract at a run -/
def q_CT (G : q_G) (l : Launch) (y : MethodName) (bytes : ByteArray) (mL : Nat) (ret : Option FieldType) (fr lo : Nat) (av : List Value) (h h1 : q_H) (rv : Option Value) : Prop :=
  q_le h h1 ∧ Met l y (Cond.code y bytes mL ret :: q_tb) { frames := fr, cells := h1.2.2.1 - h.2.2.1, slots := h1.2.2.2 - h.2.2.2, locals := lo } (q_P G av h) (q_Q G rv h1) (h1.2.2.1 - h.2.2.1) (h1.2.2.2 - h.2.2.2) (q_fr G)
def q_FI (ci : Nat) (C : String) (T : u_T) (N : Nat) (ty : Nat → FieldType) : Prop := (∀ w ∈ u_ws C T N, w ∈ q_tb) ∧ vwCl[ci]? = some (C, T, N) ∧ (∀ k, k < N → parseFieldDescriptor (T k).2.2.1 = some (ty k)) ∧ ∀ a, a < N → ∀ b, b < N → a ≠ b → (T a).2.1 ≠ (T b).2.1
/-- what is known of a method's name and words: the link is apart -/
def q_Y (y : MethodName) (bytes : ByteArray) (mL : Nat) (ret : Option FieldType) (n : Nat) : Prop := Cond.code y bytes mL ret ∈ q_tb ∧ Cond.initialized y.cls ∈ q_tb ∧ y.cls ≠ "java/lang/invoke/MethodHandle" ∧ y.cls ≠ "java/lang/invoke/VarHandle" ∧ (parseMethodDescriptor y.desc).map (fun d => d.parameters.length) = some n ∧ plainName y.cls = true
/-! shallow heap operations -/
def q_chk (ci : Nat) (h : q_H) (a : Nat) {β : Type} (f : Option β) : Option β := match h.1 a with
  | .inr (c, _) => if c = ci then f else none
  | _ => none
def q_fld (ci k : Nat) (h : q_H) (a : Nat) : Option Value := match h.1 a with
  | .inr (c, fs) => if c = ci then fs[k]? else none
  | _ => none
def q_gI (ci k : Nat) (h : q_H) (a : Nat) : Option Int32 := match q_fld ci k h a with
  | some (.int x) => some x
  | _ => none
def q_gR (ci k : Nat) (h : q_H) (a : Nat) : Option Nat := match q_fld ci k h a with
  | some (.ref x) => some x
  | _ => none
def q_p (ci k : Nat) (h : q_H) (a : Nat) (v : Value) : Option q_H := match h.1 a with
  | .inr (c, fs) => if c = ci ∧ k < fs.length then some (q_s h a (.inr (c, fs.set k v))) else none
  | _ => none
def q_in (i : Int32) (n : Nat) : Bool := !(decide (i < 0) || decide (n ≤ i.toNatClampNeg))
def q_lI (t : Nat) (h : q_H) (a : Nat) (i : Int32) : Option Int32 := match h.1 a with
  | .inl (t', n, .inl f) => if t' = t ∧ q_in i n = true then some (f i.toNatClampNeg) else none
  | _ => none
def q_lL (h : q_H) (a : Nat) (i : Int32) : Option Int64 := match h.1 a with
  | .inl (t', n, .inr (.inl f)) => if t' = 1 ∧ q_in i n = true then some (f i.toNatClampNeg) else none
  | _ => none
def q_lR (t : Nat) (h : q_H) (a : Nat) (i : Int32) : Option Nat := match h.1 a with
  | .inl (t', n, .inr (.inr (.inr (.inr f)))) => if t' = t ∧ q_in i n = true then f i.toNatClampNeg else none
  | _ => none
def q_sI (t : Nat) (nar : Int32 → Int32) (h : q_H) (a : Nat) (i x : Int32) : Option q_H := match h.1 a with
  | .inl (t', n, .inl f) => if t' = t ∧ q_in i n = true then some (q_s h a (.inl (t', n, .inl (upd f i.toNatClampNeg (nar x))))) else none
  | _ => none
def q_sL (h : q_H) (a : Nat) (i : Int32) (x : Int64) : Option q_H := match h.1 a with
  | .inl (t', n, .inr (.inl f)) => if t' = 1 ∧ q_in i n = true then some (q_s h a (.inl (t', n, .inr (.inl (vp_updL f i.toNatClampNeg x))))) else none
  | _ => none
def q_sR (t ci : Nat) (h : q_H) (a : Nat) (i : Int32) (v : Nat) : Option q_H := match h.1 a with
  | .inl (t', n, .inr (.inr (.inr (.inr f)))) => if t' = t ∧ q_in i n = true then q_chk ci h v (some (q_s h a (.inl (t', n, .inr (.inr (.inr (.inr (va_up f i.toNatClampNeg (some v))))))))) else none
  | _ => none
def q_len (h : q_H) (a : Nat) : Option Int32 := match h.1 a with
  | .inl (t, n, _) => if t < 8 then some (Int32.ofNat n) else none
  | _ => none
def q_cpL (h : q_H) (a0 : Nat) (sp : Int32) (a : Nat) (dp n : Int32) : Option q_H := match h.1 a0, h.1 a with
  | .inl (t0, n0, .inr (.inl f)), .inl (t1, n1, .inr (.inl g)) => if t0 = 1 ∧ t1 = 1 ∧ ¬ sp < 0 ∧ ¬ dp < 0 ∧ ¬ n < 0 ∧ sp.toNatClampNeg + n.toNatClampNeg ≤ n0 ∧ dp.toNatClampNeg + n.toNatClampNeg ≤ n1 then some (q_s h a (.inl (t1, n1, .inr (.inl (va_cpy f g sp.toNatClampNeg dp.toNatClampNeg n.toNatClampNeg))))) else none
  | _, _ => none
def q_cpI (h : q_H) (a0 : Nat) (sp : Int32) (a : Nat) (dp n : Int32) : Option q_H := match h.1 a0, h.1 a with
  | .inl (t0, n0, .inl f), .inl (t1, n1, .inl g) => if t0 = 0 ∧ t1 = 0 ∧ ¬ sp < 0 ∧ ¬ dp < 0 ∧ ¬ n < 0 ∧ sp.toNatClampNeg + n.toNatClampNeg ≤ n0 ∧ dp.toNatClampNeg + n.toNatClampNeg ≤ n1 then some (q_s h a (.inl (t1, n1, .inl (va_cpy f g sp.toNatClampNeg dp.toNatClampNeg n.toNatClampNeg)))) else none
  | _, _ => none
def q_al (h : q_H) (e : va_E) (n : Nat) : q_H := (va_up h.1 h.2.1 e, h.2.1 + 1, h.2.2.1 + 1, h.2.2.2 + n)
def q_new (ci : Nat) (fs : List Value) (h : q_H) : Option (q_H × Nat) := some (q_al h (.inr (ci, fs)) fs.length, h.2.1)
def q_nI (t : Nat) (h : q_H) (n : Int32) : Option (q_H × Nat) := if n < 0 ∨ 100000 < n.toNatClampNeg then none else some (q_al h (.inl (t, n.toNatClampNeg, .inl (fun _ => 0))) n.toNatClampNeg, h.2.1)
def q_nL (h : q_H) (n : Int32) : Option (q_H × Nat) := if n < 0 ∨ 100000 < n.toNatClampNeg then none else some (q_al h (.inl (1, n.toNatClampNeg, .inr (.inl (fun _ => 0)))) n.toNatClampNeg, h.2.1)
def q_nR (t : Nat) (h : q_H) (n : Int32) : Option (q_H × Nat) := if n < 0 ∨ 100000 < n.toNatClampNeg then none else some (q_al h (.inl (t, n.toNatClampNeg, .inr (.inr (.inr (.inr (fun _ => none)))))) n.toNatClampNeg, h.2.1)
def q_div (x y : Int32) : Option Int32 := if y = 0 then none else some (x / y)
def q_rem (x y : Int32) : Option Int32 := if y = 0 then none else some (x - x / y * y)
/-! first laws -/
theorem q_in_ok {i : Int32} {n : Nat} (h : q_in i n = true) : vp_in i n := by
  intro hc
  rcases hc with hc | hc <;> simp [q_in, hc] at h
theorem q_R.at {G : q_G} {h : q_H} {H : Heap} (hR : q_R G h H) {a : Nat} {e : va_E} (he : h.1 a = e) (hj : e ≠ q_junk) : va_at G.2.1 vwCl (G.1 + a, q_e G e) H := by
  subst he
  exact (hR.2.1 a hj).2
theorem q_one {D : va_G} {cl : List vw_C} {x : Nat × va_E} {H : Heap} (h : va_at D cl x H) : va_P D cl [x] H := by
  intro k q hq
  have hz : k < 1 := (List.getElem?_eq_some_iff.mp hq).1
  rw [show k = 0 by omega] at hq
  cases hq
  exact h
theorem q_R.set {G : q_G} {h : q_H} {H H1 : Heap} (hR : q_R G h H) {a : Nat} {e : va_E} (ha : a < h.2.1) (he : va_at G.2.1 vwCl (G.1 + a, q_e G e) H1) (hz : H1.size = H.size) (ho : ∀ q : Nat, q ≠ G.1 + a → H1[q]? = H[q]?) : q_R G (q_s h a e) H1 := by
  refine ⟨⟨by rw [hz]; exact hR.1.1, fun hx => by rw [hz]; exact hR.1.2 hx⟩, fun b hb => ?_, fun q hq => by rw [ho q (by omega)]; exact hR.2.2 q hq⟩
  by_cases hab : b = a
  · subst hab
    refine ⟨ha, ?_⟩
    simp only [q_s, va_up, if_true]
    exact he
  · simp only [q_s, va_up, if_neg hab] at hb ⊢
    obtain ⟨h1, h2⟩ := hR.2.1 b hb
    exact ⟨h1, va_at.kept h2 (ho _ (by simp only; omega))⟩
theorem q_R.push {G : q_G} {h : q_H} {H H1 : Heap} (hR : q_R G h H) (hx : G.2.2.2.2.2.2.2 = true) {e : va_E} {n : Nat} (he : va_at G.2.1 vwCl (G.1 + h.2.1, q_e G e) H1) (hz : H1.size = H.size + 1) (ho : ∀ q : Nat, q < H.size → H1[q]? = H[q]?) : q_R G (q_al h e n) H1 := by
  have hs := hR.1.2 hx
  refine ⟨⟨by rw [hz, hs]; simp only [q_al]; omega, fun _ => by rw [hz, hs]; simp only [q_al]; omega⟩, fun b hb => ?_, fun q hq => by rw [ho q (by omega)]; exact hR.2.2 q hq⟩
  by_cases hab : b = h.2.1
  · subst hab
    refine ⟨by simp only [q_al]; omega, ?_⟩
    simp only [q_al, va_up, if_true]
    exact he
  · simp only [q_al, va_up, if_neg hab] at hb ⊢
    obtain ⟨h1, h2⟩ := hR.2.1 b hb
    exact ⟨by omega, va_at.kept h2 (ho _ (by simp only; omega))⟩
section QJ
variable {G : q_G} {l : Launch} {S : q_S} {k0 z0 : Nat} {α : Type} {Z : q_M → q_H × α → State → Prop} {pc : Nat} {lv : List (Nat × Value)} {st : List Value} {h : q_H} {f : Option (q_H × α)}
theorem j_none : q_J G l S k0 z0 Z pc lv st h none := fun q hq => by cases hq
/-- a step that changes the stack alone -/
theorem j_st {pc' : Nat} {st' : List Value} (hs : ∀ M : q_M, M.2.1 = l → q_C G M S → ∀ (H : Heap) (locs : List Loc) (cells slots : Nat) (ls : Array Slot) (Q : State → Prop), lv_has ls S.2.2.1 (lv.map (q_lv G)) → q_W M H locs cells slots Q pc' ls (st'.map (q_v G)) → q_W M H locs cells slots Q pc ls (st.map (q_v G)))
    (k : q_J G l S k0 z0 Z pc' lv st' h f) : q_J G l S k0 z0 Z pc lv st h f := fun q hq =>
  ⟨(k q hq).1, fun M hM C a1 a2 a3 a4 H locs ls b1 b2 b3 => hs M hM C H locs _ _ ls _ b3 ((k q hq).2 M hM C a1 a2 a3 a4 H locs ls b1 b2 b3)⟩
/-- a step that changes the locals -/
theorem j_lo {pc' : Nat} {st' : List Value} {lv' : List (Nat × Value)} (hs : ∀ M : q_M, M.2.1 = l → q_C G M S → ∀ (H : Heap) (locs : List Loc) (cells slots : Nat) (ls : Array Slot) (Q : State → Prop), lv_has ls S.2.2.1 (lv.map (q_lv G)) → (∀ ls' : Array Slot, lv_has ls' S.2.2.1 (lv'.map (q_lv G)) → q_W M H locs cells slots Q pc' ls' (st'.map (q_v G))) → q_W M H locs cells slots Q pc ls (st.map (q_v G)))
    (k : q_J G l S k0 z0 Z pc' lv' st' h f) : q_J G l S k0 z0 Z pc lv st h f := fun q hq =>
  ⟨(k q hq).1, fun M hM C a1 a2 a3 a4 H locs ls b1 b2 b3 => hs M hM C H locs _ _ ls _ b3 (fun ls' hl' => (k q hq).2 M hM C a1 a2 a3 a4 H locs ls' b1 b2 hl')⟩
/-- a branch -/
theorem j_br {pt pn : Nat} {st' : List Value} {c : Prop} [Decidable c] {g : Option (q_H × α)} (hs : ∀ M : q_M, M.2.1 = l → q_C G M S → ∀ (H : Heap) (locs : List Loc) (cells slots : Nat) (ls : Array Slot) (Q : State → Prop), (c → q_W M H locs cells slots Q pt ls (st'.map (q_v G))) → (¬ c → q_W M H locs cells slots Q pn ls (st'.map (q_v G))) → q_W M H locs cells slots Q pc ls (st.map (q_v G)))
    (kt : c → q_J G l S k0 z0 Z pt lv st' h f) (kf : ¬ c → q_J G l S k0 z0 Z pn lv st' h g) : q_J G l S k0 z0 Z pc lv st h (if c then f else g) := fun q hq => by
  by_cases hc : c
  · rw [if_pos hc] at hq
    exact ⟨(kt hc q hq).1, fun M hM C a1 a2 a3 a4 H locs ls b1 b2 b3 => hs M hM C H locs _ _ ls _ (fun hc' => (kt hc' q hq).2 M hM C a1 a2 a3 a4 H locs ls b1 b2 b3) (fun hn => absurd hc hn)⟩
  · rw [if_neg hc] at hq
    exact ⟨(kf hc q hq).1, fun M hM C a1 a2 a3 a4 H locs ls b1 b2 b3 => hs M hM C H locs _ _ ls _ (fun hc' => absurd hc' hc) (fun hn => (kf hn q hq).2 M hM C a1 a2 a3 a4 H locs ls b1 b2 b3)⟩
/-- fewer locals, in another order -/
theorem j_sub (ks : List Nat) {lv' : List (Nat × Value)} (hl : lv_pick lv ks = lv') (k : q_J G l S k0 z0 Z pc lv' st h f) : q_J G l S k0 z0 Z pc lv st h f := fun q hq =>
  ⟨(k q hq).1, fun M hM C a1 a2 a3 a4 H locs ls b1 b2 b3 => (k q hq).2 M hM C a1 a2 a3 a4 H locs ls b1 b2 (lv_sub b3 ks (by subst hl; simp [lv_pick, List.map_filterMap, List.getElem?_map]))⟩
/-- a read of the heap -/
theorem j_rd {β : Type} {op : Option β} {g : β → Option (q_H × α)} {pc' : Nat} {st' : β → List Value} (hs : ∀ (x : β), op = some x → ∀ M : q_M, M.2.1 = l → q_C G M S → ∀ (H : Heap) (locs : List Loc) (cells slots : Nat) (ls : Array Slot) (Q : State → Prop), q_R G h H → q_W M H locs cells slots Q pc' ls ((st' x).map (q_v G)) → q_W M H locs cells slots Q pc ls (st.map (q_v G)))
    (k : ∀ x, op = some x → q_J G l S k0 z0 Z pc' lv (st' x) h (g x)) : q_J G l S k0 z0 Z pc lv st h (Option.bind op g) := fun q hq => by
  cases ho : op with
  | none => rw [ho] at hq; cases hq
  | some x =>
    rw [ho] at hq
    exact ⟨(k x ho q hq).1, fun M hM C a1 a2 a3 a4 H locs ls b1 b2 b3 => hs x ho M hM C H locs _ _ ls _ b1 ((k x ho q hq).2 M hM C a1 a2 a3 a4 H locs ls b1 b2 b3)⟩
/-- a write to the heap -/
theorem j_wr {op : Option q_H} {g : q_H → Option (q_H × α)} {pc' : Nat} {st' : List Value} (hs : ∀ (x : q_H), op = some x → x.2 = h.2 ∧ ∀ M : q_M, M.2.1 = l → q_C G M S → ∀ (H : Heap) (locs : List Loc) (cells slots : Nat) (ls : Array Slot) (Q : State → Prop), q_R G h H → (∀ y ∈ locs, G.1 ≤ y.base) → lv_has ls S.2.2.1 (lv.map (q_lv G)) → (∀ (H' : Heap) (locs' : List Loc), q_R G x H' → (∀ y ∈ locs', G.1 ≤ y.base) → q_W M H' locs' cells slots Q pc' ls (st'.map (q_v G))) → q_W M H locs cells slots Q pc ls (st.map (q_v G)))
    (k : ∀ x, op = some x → q_J G l S k0 z0 Z pc' lv st' x (g x)) : q_J G l S k0 z0 Z pc lv st h (Option.bind op g) := fun q hq => by
  cases ho : op with
  | none => rw [ho] at hq; cases hq
  | some x =>
    rw [ho] at hq
    obtain ⟨e, hw⟩ := hs x ho
    refine ⟨by have := (k x ho q hq).1; unfold q_le at this ⊢; rw [e] at this; exact this, fun M hM C a1 a2 a3 a4 H locs ls b1 b2 b3 => hw M hM C H locs _ _ ls _ b1 b2 b3 (fun H' locs' c1 c2 => ?_)⟩
    have := (k x ho q hq).2 M hM C a1 a2 (by rw [e]; exact a3) (by rw [e]; exact a4) H' locs' ls c1 c2 b3
    rw [e] at this
    exact this
end QJ
