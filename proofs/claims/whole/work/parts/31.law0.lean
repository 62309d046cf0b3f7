-- ===== end of PART A; then your names; then what follows =====
/-! THE CLAIM OUT OF ONE WALK OF THE LAW'S BODY. Your part is whole_start (and what it stands on); all else here is the same for every law, but numbers. -/
def R_law : String := "FarFoldersLaw"
def lw_P (b : Addr) (xs : List Int32) (args : Array Value) (s : State) : Prop := args = #[.ref b] ∧ s.IntsAt b xs ∧ xs.length ≤ 2560 ∧ (Jvm.Cond.and given_1 narrow_1).before args s = true
def lw_Q (_ : Array Value) (s : State) (o : Outcome) (t : State) : Prop := o = .returned (some (.int 1)) ∧ Framed s o t [] 601024 7293034
def lw_Z (below : List Frame) (a : Array Value) (s : State) : State → Prop := fun t => ∃ o, t.status = .running ∧ Ended t below o ∧ lw_Q a s o t
/-- the law's own end, with 1 on the stack, nothing written that was there before, its room as the claim has it -/
theorem lw_ret {p : Program} {l : Launch} {e : Env} {s : State} {m : MethodId} {below : List Frame} {meth : Method} {c : Code} {b : Nat} (hx : p.tables.exec = Jvm.exec) (hb : c.code = code) (hr : meth.sig.returnType = ret) (hlocks : meth.locks = false) {pc : Nat} {H : Heap} {ls : Array Slot} (hdg : decode code pc = .ok (.ireturn, 1)) : W p l e room_1 s m #[Value.ref b] below meth c H [] 601024 7293034 (lw_Z below #[Value.ref b] s) (F0 m pc ls [.int 1]) := by
  intro T hT X
  obtain ⟨fs, hret, hrun, hended, hW, hframe⟩ := X.leave (v := some (.int 1)) (hlocks := hlocks) (fun h => by rw [hr] at h; cases h)
  have hmeth' : T.vm.method? m = some meth := X.method'
  refine ⟨T.setFrames fs, ?_, .returned (some (.int 1)), hrun, hended, rfl, ⟨_, rfl⟩, hW, hframe⟩
  jvm_step X.here [X.here.top, hx, hb, hdg, hmeth', hr, ret, narrow_b1]
  (try refine ⟨rfl, ?_⟩); (try refine ⟨rfl, ?_⟩)
  first | (intro acts; rw [hret _ acts rfl rfl rfl]) | rw [hret _ _ rfl rfl rfl]
  exact Steps.refl _
/-- what holds at the law's entry: the machine, the code, the tables' words (any of lw_tbl by 'hts w (by decide +kernel)'), the script of L ints xs at the cell b, what the Statement gives of the start (any of its parts by flat_of_before) -/
def lw_At (p : Program) (s : State) (m : MethodId) (meth : Method) (c : Code) (b L : Nat) (xs : Nat → Int32) : Prop :=
  p.tables.exec = Jvm.exec ∧ c.code = code ∧ meth.sig.returnType = ret ∧ c.maxLocals = 8 ∧ s.vm.findClass R_law = some m.cls ∧ (∀ w ∈ lw_tbl, w.before #[Value.ref b] s = true) ∧ va_X b L xs s s.heap ∧ b < s.heap.size ∧ meth.locks = false ∧ (Jvm.Cond.and given_1 narrow_1).before #[Value.ref b] s = true
/-! THE LAW'S OWN ROWS -/
def q_ne (G : q_G) : q_G := (G.1, G.2.1, G.2.2.1, G.2.2.2.1, G.2.2.2.2.1, G.2.2.2.2.2.1, G.2.2.2.2.2.2.1, false)
def q_ZL (B b : Nat) : q_M → q_H × Int32 → State → Prop := fun M _ t => M.2.2.2.1 = room_1 → M.2.2.2.2.2.2.1 = #[Value.ref b] → M.2.2.2.2.1.heap.size = B → lw_Z M.2.2.2.2.2.2.2.1 #[Value.ref b] M.2.2.2.2.1 t
def q_scr (xs : Nat → Int32) (L : Nat) (u : UInt32) (i : Int32) : Option Int32 := if u = 300 ∧ q_in i L = true then some (xs i.toNatClampNeg) else none
def q_scl (L : Nat) (u : UInt32) : Option Int32 := if u = 300 then some (Int32.ofNat L) else none
section QL
variable {G : q_G} {l : Launch} {own nm : String} {cc : ByteArray} {nL k0 z0 fr lo : Nat} {ret' : Option FieldType} {tab : List ExceptionTableEntry} {α : Type} {Z : q_M → q_H × α → State → Prop} {pc : Nat} {lv lv' : List (Nat × Value)} {st : List Value} {h : q_H} {f : Option (q_H × α)}
theorem q_R.ne {H : Heap} (hR : q_R G h H) : q_R (q_ne G) h H := ⟨⟨hR.1.1, fun e => by cases e⟩, hR.2.1, hR.2.2⟩
theorem j_ne (k : q_J (q_ne G) l (own, cc, nL, fr, lo, ret', nm, tab) k0 z0 Z pc lv st h f) : q_J G l (own, cc, nL, fr, lo, ret', nm, tab) k0 z0 Z pc lv st h f := fun q hq =>
  ⟨(k q hq).1, fun M hM C a1 a2 a3 a4 H locs ls b1 b2 b3 => (k q hq).2 M hM C a1 a2 a3 a4 H locs ls b1.ne b2 b3⟩
theorem j_scr {xs : Nat → Int32} {L : Nat} {u : UInt32} {i : Int32} {g : Int32 → Option (q_H × α)} (hxs : G.2.2.2.2.1 = xs) (hL : G.2.2.2.2.2.1 = L) (d : decode cc pc = .ok (.iaload, 1)) (kk : ∀ x, q_scr xs L u i = some x → q_J G l (own, cc, nL, fr, lo, ret', nm, tab) k0 z0 Z (pc + 1) lv (.int x :: st) h (g x)) : q_J G l (own, cc, nL, fr, lo, ret', nm, tab) k0 z0 Z pc lv (.int i :: .float u :: st) h (Option.bind (q_scr xs L u i) g) :=
  j_rd (pc' := pc + 1) (st' := fun x => .int x :: st) (fun x hx M hM C H locs cells slots ls Q hR w => by
    unfold q_scr at hx
    by_cases hc : u = 300 ∧ q_in i L = true
    · rw [if_pos hc] at hx
      cases hx
      obtain ⟨rfl, hin⟩ := hc
      subst hxs; subst hL
      obtain ⟨⟨scr, h1, h2, h3, h4, h5⟩, hA⟩ := C.2.2.2.2.2.1.2.2.2.2.2.2.2.1
      have hv := q_in_ok hin
      have hlt : i.toNatClampNeg < G.2.2.2.2.2.1 := Nat.not_le.mp fun q => hv (Or.inr q)
      have h1' : H[G.2.2.2.1 300]? = some scr := (hR.2.2 _ (Nat.not_le.mp hA)).trans h1
      exact W.iald (v := .int (G.2.2.2.2.1 i.toNatClampNeg)) C.1 C.2.1 h1' h2 h3 (by rw [h4]; exact hv) (h5 _ hlt) rfl rfl d w
    · rw [if_neg hc] at hx; cases hx) kk
theorem j_scl {L : Nat} {u : UInt32} {g : Int32 → Option (q_H × α)} (hL : G.2.2.2.2.2.1 = L) (d : decode cc pc = .ok (.arraylength, 1)) (kk : ∀ x, q_scl L u = some x → q_J G l (own, cc, nL, fr, lo, ret', nm, tab) k0 z0 Z (pc + 1) lv (.int x :: st) h (g x)) : q_J G l (own, cc, nL, fr, lo, ret', nm, tab) k0 z0 Z pc lv (.float u :: st) h (Option.bind (q_scl L u) g) :=
  j_rd (pc' := pc + 1) (st' := fun x => .int x :: st) (fun x hx M hM C H locs cells slots ls Q hR w => by
    unfold q_scl at hx
    by_cases hc : u = 300
    · rw [if_pos hc] at hx
      cases hx
      subst hc
      subst hL
      obtain ⟨⟨scr, h1, h2, h3, h4, h5⟩, hA⟩ := C.2.2.2.2.2.1.2.2.2.2.2.2.2.1
      have h1' : H[G.2.2.2.1 300]? = some scr := (hR.2.2 _ (Nat.not_le.mp hA)).trans h1
      exact W.alen C.1 C.2.1 h1' h2 (by rw [h4]) rfl rfl d w
    · rw [if_neg hc] at hx; cases hx) kk
theorem j_law1 {B b : Nat} (hB : G.1 = B) (hcc : cc = code) (hrt : ret' = ret) (d : decode cc pc = .ok (.ireturn, 1)) : q_J G l (own, cc, nL, fr, lo, ret', nm, tab) k0 z0 (q_ZL B b) pc lv [.int 1] h (some (h, 1)) := fun q hq => by
  cases hq
  refine ⟨q_le.rf, fun M hM C a1 a2 a3 a4 H locs ls b1 b2 b3 => ?_⟩
  subst hcc; subst hrt; subst hB
  obtain ⟨p, l', e, R, s, m, args, below, meth, c⟩ := M
  intro T hT X
  by_cases hc : R = room_1 ∧ args = #[Value.ref b] ∧ s.heap.size = G.1
  · obtain ⟨rfl, rfl, hs⟩ := hc
    have hw : W p l' e room_1 s m #[Value.ref b] below meth c H locs (h.2.2.1 - k0) (h.2.2.2 - z0) (lw_Z below #[Value.ref b] s) (F0 m pc ls [.int 1]) := by
      refine va_forget (fun q hq => by rw [hs]; exact b2 q hq) ?_
      refine W.widen (k := 601024) (n := 7293034) a1 a2 ?_
      exact lw_ret C.1 C.2.1 C.2.2.2.2.2.2.2.2.2.1 C.2.2.2.2.2.2.1 d
    obtain ⟨t, c1, c2⟩ := hw T hT X
    exact ⟨t, c1, fun _ _ _ => c2⟩
  · exact ⟨_, Steps.refl _, fun g1 g2 g3 => absurd ⟨g1, g2, g3⟩ hc⟩
end QL
