/-! THE START: what the Statement gives, as the judgement wants it -/
/-- the pure claim: on every script of at most 2560 ints the shallow law answers 1, within the room -/
def q_pure : Prop := ∀ (xs : Nat → Int32) (L : Nat), L ≤ 2560 → ∃ q, b_L_law_0 xs L ((fun _ => q_junk), 0, 0, 0) 300 = some q ∧ q.1.2.2.1 ≤ 601024 ∧ q.1.2.2.2 ≤ 7293034
section QB
variable {s : State} {args : Array Value}
theorem q_s1 (hts : ∀ w ∈ lw_tbl, w.before args s = true) : ∃ (dC : Nat → ClassId) (dI : Nat → Nat → Nat), ∀ (k : Nat) (q : vw_C), vwCl[k]? = some q → u_Kn s q.1 q.2.1 q.2.2 (dC k) (dI k) := by
  have ht : ∀ w ∈ q_tb, w.before args s = true := fun w hw => hts w (List.mem_filter.mp hw).1
  have h0 : ∀ k : Nat, ∃ x : ClassId × (Nat → Nat), ∀ q : vw_C, vwCl[k]? = some q → u_Kn s q.1 q.2.1 q.2.2 x.1 x.2 := by
    intro k
    match k with
    | 0 =>
      obtain ⟨c0, i0, h⟩ := u_known (C := RX0) (T := TX0) (N := 7) (n := 7) ht FI_X0.1 (ht _ ins_X0)
      exact ⟨(c0, i0), fun q hq => by cases hq; exact h⟩
    | 1 =>
      obtain ⟨c0, i0, h⟩ := u_known (C := RX2) (T := TX2) (N := 4) (n := 4) ht FI_X2.1 (ht _ ins_X2)
      exact ⟨(c0, i0), fun q hq => by cases hq; exact h⟩
    | 2 =>
      obtain ⟨c0, i0, h⟩ := u_known (C := RX3) (T := TX3) (N := 2) (n := 2) ht FI_X3.1 (ht _ ins_X3)
      exact ⟨(c0, i0), fun q hq => by cases hq; exact h⟩
    | 3 =>
      obtain ⟨c0, i0, h⟩ := u_known (C := RX4) (T := TX4) (N := 2) (n := 2) ht FI_X4.1 (ht _ ins_X4)
      exact ⟨(c0, i0), fun q hq => by cases hq; exact h⟩
    | 4 =>
      obtain ⟨c0, i0, h⟩ := u_known (C := RX5) (T := TX5) (N := 2) (n := 2) ht FI_X5.1 (ht _ ins_X5)
      exact ⟨(c0, i0), fun q hq => by cases hq; exact h⟩
    | 5 =>
      obtain ⟨c0, i0, h⟩ := u_known (C := RX6) (T := TX6) (N := 2) (n := 2) ht FI_X6.1 (ht _ ins_X6)
      exact ⟨(c0, i0), fun q hq => by cases hq; exact h⟩
    | 6 =>
      obtain ⟨c0, i0, h⟩ := u_known (C := RX7) (T := TX7) (N := 1) (n := 1) ht FI_X7.1 (ht _ ins_X7)
      exact ⟨(c0, i0), fun q hq => by cases hq; exact h⟩
    | 7 =>
      obtain ⟨c0, i0, h⟩ := u_known (C := RX8) (T := TX8) (N := 2) (n := 2) ht FI_X8.1 (ht _ ins_X8)
      exact ⟨(c0, i0), fun q hq => by cases hq; exact h⟩
    | 8 =>
      obtain ⟨c0, i0, h⟩ := u_known (C := RX9) (T := TX9) (N := 10) (n := 10) ht FI_X9.1 (ht _ ins_X9)
      exact ⟨(c0, i0), fun q hq => by cases hq; exact h⟩
    | 9 =>
      obtain ⟨c0, i0, h⟩ := u_known (C := RX10) (T := TX10) (N := 26) (n := 26) ht FI_X10.1 (ht _ ins_X10)
      exact ⟨(c0, i0), fun q hq => by cases hq; exact h⟩
    | k + 10 => exact ⟨(0, fun _ => 0), fun q hq => by cases hq⟩
  obtain ⟨x, hx⟩ := Classical.axiomOfChoice h0
  exact ⟨fun k => (x k).1, fun k => (x k).2, hx⟩
theorem q_s2p {ty : FieldType} (h : (Cond.arrayClass ty).before args s = true) : ∃ cA : ClassId, ArrOfT s cA ty ∧ s.vm.findClass ("[" ++ ty.toString) = some cA := by
  obtain ⟨c, k, comp, h1, h2, h3⟩ := Cond.arrayClass_spec h
  exact ⟨c, fun n z => ⟨(fun _ h => by cases h), k, h2, comp, h3⟩, h1⟩
theorem q_s2o {C : String} (h : (Cond.arrayOver (.object C)).before args s = true) : ∃ cA : ClassId, ArrOfT s cA (.object C) ∧ va_RA s cA (.object C) := by
  obtain ⟨comp, c, k, h1, h2, h3, h4, h5⟩ := Cond.arrayOver_spec h
  exact ⟨c, fun n z => ⟨(fun _ h => by cases h), k, h3, comp, h4⟩, k, comp, h3, h4, h1, h5⟩
theorem q_ao : Cond.arrayOver (.object RX0) ∈ lw_tbl ∧ Cond.arrayOver (.object RX5) ∈ lw_tbl ∧ Cond.arrayOver (.object RX7) ∈ lw_tbl ∧ Cond.arrayOver (.object RX8) ∈ lw_tbl := by decide +kernel
theorem q_s2 (hts : ∀ w ∈ lw_tbl, w.before args s = true) : ∃ dA : Nat → ClassId, ∀ (G : q_G), G.2.2.1 = dA → ∀ (k : Nat) (q : ClassId × FieldType), (q_T G)[k]? = some q → ArrOfT s q.1 q.2 ∧ va_RA s q.1 q.2 := by
  have ht : ∀ w ∈ q_tb, w.before args s = true := fun w hw => hts w (List.mem_filter.mp hw).1
  obtain ⟨c0, a0, b0⟩ := q_s2p (ht _ ac_int)
  obtain ⟨c1, a1, b1⟩ := q_s2p (ht _ ac_long)
  obtain ⟨c2, a2, b2⟩ := q_s2p (ht _ ac_boolean)
  obtain ⟨c3, a3, b3⟩ := q_s2p (ht _ ac_char)
  obtain ⟨c4, a4, b4⟩ := q_s2o (hts _ q_ao.1)
  obtain ⟨c5, a5, b5⟩ := q_s2o (hts _ q_ao.2.1)
  obtain ⟨c6, a6, b6⟩ := q_s2o (hts _ q_ao.2.2.1)
  obtain ⟨c7, a7, b7⟩ := q_s2o (hts _ q_ao.2.2.2)
  refine ⟨fun t => [c0, c1, c2, c3, c4, c5, c6, c7].getD t 0, fun G hG k q hq => ?_⟩
  match k, hq with
  | 0, hq =>
    have e : q = (G.2.2.1 0, (.int : FieldType)) := (Option.some.inj hq).symm
    subst e
    rw [hG]
    exact ⟨a0, b0⟩
  | 1, hq =>
    have e : q = (G.2.2.1 1, (.long : FieldType)) := (Option.some.inj hq).symm
    subst e
    rw [hG]
    exact ⟨a1, b1⟩
  | 2, hq =>
    have e : q = (G.2.2.1 2, (.boolean : FieldType)) := (Option.some.inj hq).symm
    subst e
    rw [hG]
    exact ⟨a2, b2⟩
  | 3, hq =>
    have e : q = (G.2.2.1 3, (.char : FieldType)) := (Option.some.inj hq).symm
    subst e
    rw [hG]
    exact ⟨a3, b3⟩
  | 4, hq =>
    have e : q = (G.2.2.1 4, (.object RX0 : FieldType)) := (Option.some.inj hq).symm
    subst e
    rw [hG]
    exact ⟨a4, b4⟩
  | 5, hq =>
    have e : q = (G.2.2.1 5, (.object RX5 : FieldType)) := (Option.some.inj hq).symm
    subst e
    rw [hG]
    exact ⟨a5, b5⟩
  | 6, hq =>
    have e : q = (G.2.2.1 6, (.object RX7 : FieldType)) := (Option.some.inj hq).symm
    subst e
    rw [hG]
    exact ⟨a6, b6⟩
  | 7, hq =>
    have e : q = (G.2.2.1 7, (.object RX8 : FieldType)) := (Option.some.inj hq).symm
    subst e
    rw [hG]
    exact ⟨a7, b7⟩
  | k + 8, hq => cases hq
def q_tm (i : Nat) : Term := .string RX10 (((q_sx[i]?).map (fun x => x.1)).getD 0)
theorem q_fm (h : (Jvm.Cond.and given_1 narrow_1).before args s = true) {c : Cond} (hc : c ∈ flatC (Jvm.Cond.and given_1 narrow_1)) : c.before args s = true := flat_of_before _ h _ hc
theorem q_fa1 : ∀ i, i < 5 → (Cond.exactly (q_tm i) "java/lang/String") ∈ flatC (Jvm.Cond.and given_1 narrow_1) ∧ (Cond.eq (.field (q_tm i) "java/lang/String" "coder" "B") (.int 0)) ∈ flatC (Jvm.Cond.and given_1 narrow_1) ∧ (Cond.arrayOf (.field (q_tm i) "java/lang/String" "value" "[B") .byte) ∈ flatC (Jvm.Cond.and given_1 narrow_1) ∧ (Cond.eq (.length (.field (q_tm i) "java/lang/String" "value" "[B")) (.int (Int32.ofNat (q_sl.getD i 0)))) ∈ flatC (Jvm.Cond.and given_1 narrow_1) := by decide +kernel
theorem q_fa2 : ∀ i, i < 5 → ∀ j, j < q_sl.getD i 0 → (Cond.eq (.elem (.field (q_tm i) "java/lang/String" "value" "[B") (.int (Int32.ofNat j))) (.int ((q_sb.getD i []).getD j 0))) ∈ flatC (Jvm.Cond.and given_1 narrow_1) := by decide +kernel
theorem q_f3 : ∀ i, i < 5 → ∀ j, j < 5 → i ≠ j → (Cond.not (Cond.eq (q_tm i) (q_tm j))) ∈ flatC (Jvm.Cond.and given_1 narrow_1) ∨ (Cond.not (Cond.eq (q_tm j) (q_tm i))) ∈ flatC (Jvm.Cond.and given_1 narrow_1) := by decide +kernel
theorem q_f4 : (Cond.eq (.static "java/lang/String" "COMPACT_STRINGS" "Z") (.int 1)) ∈ flatC (Jvm.Cond.and given_1 narrow_1) ∧ (Cond.isRef (.static "jdk/internal/util/Preconditions" "SIOOBE_FORMATTER" "Ljava/util/function/BiFunction;")) ∈ flatC (Jvm.Cond.and given_1 narrow_1) ∧ (Cond.isRef (.static Bundle.tN "UNASSIGNED_STACK" Bundle.steD)) ∈ flatC (Jvm.Cond.and given_1 narrow_1) ∧ (Cond.isRef (.static Bundle.tN "SUPPRESSED_SENTINEL" Bundle.listD)) ∈ flatC (Jvm.Cond.and given_1 narrow_1) := by decide +kernel
theorem q_f5 : Cond.laysStatic "java/lang/String" "COMPACT_STRINGS" "Z" ∈ lw_tbl ∧ Cond.initialized "java/lang/String" ∈ lw_tbl ∧ Cond.laysStatic "jdk/internal/util/Preconditions" "SIOOBE_FORMATTER" "Ljava/util/function/BiFunction;" ∈ lw_tbl ∧ Cond.initialized "jdk/internal/util/Preconditions" ∈ lw_tbl ∧ Cond.laysStatic Bundle.tN "UNASSIGNED_STACK" Bundle.steD ∈ lw_tbl ∧ Cond.laysStatic Bundle.tN "SUPPRESSED_SENTINEL" Bundle.listD ∈ lw_tbl ∧ Cond.initialized Bundle.tN ∈ lw_tbl := by decide +kernel
theorem q_f6 : ∀ i, i < 5 → Cond.stringRef RX10 (((q_sx[i]?).map (fun x => x.1)).getD 0) (((q_sx[i]?).map (fun x => x.2.1)).getD "") ∈ lw_tbl := by decide +kernel
theorem q_f7 : ∀ i, i < 5 → q_sl.getD i 0 < 2 ^ 31 := by decide
end QB
theorem q_noTr : ∀ l : Launch, l.flags = flags0 → l.stackTraces = false := by
  intro l h
  first | (simp [Launch.stackTraces, h, flags0]; done) | (unfold Launch.stackTraces; rw [h]; decide +kernel) | (unfold Launch.stackTraces; rw [h]; rfl)
set_option maxHeartbeats 4000000 in
set_option maxRecDepth 100000 in
theorem whole_of_pure (hpure : q_pure) {p : Program} {e : Env} {s : State} {m : MethodId} {below : List Frame} {meth : Method} {c : Code} (l : Launch) (hflags : l.flags = flags0) {b L : Nat} {xs : Nat → Int32} (hL : L ≤ 2560) (C0 : lw_At p s m meth c b L xs) : W p l e room_1 s m #[Value.ref b] below meth c s.heap [] 0 0 (lw_Z below #[Value.ref b] s) (entryFrame m ([Value.ref b] : List Value).toArray 8) := by
  obtain ⟨hx, hb, hr, hml, hown, hts, hX, hbl, hlocks, hgv⟩ := C0
  have ht : ∀ w ∈ q_tb, w.before #[Value.ref b] s = true := fun w hw => hts w (List.mem_filter.mp hw).1
  have hA : ∀ a : Nat, a < s.heap.size → ¬ (fun a : Nat => s.heap.size ≤ a) a := fun a h1 h2 => Nat.not_le.mpr h1 h2
  obtain ⟨dC, dI, hKn⟩ := q_s1 hts
  obtain ⟨dA, hdA⟩ := q_s2 hts
  obtain ⟨adK, adV, hVS, hVE⟩ := vk_Sof (A := fun a : Nat => s.heap.size ≤ a) (N := 5) (tm := q_tm) (len := q_sl) (byt := q_sb) q_f7 (fun i hi => q_fm hgv (q_fa1 i hi).1) (fun i hi => q_fm hgv (q_fa1 i hi).2.1) (fun i hi => q_fm hgv (q_fa1 i hi).2.2.1) (fun i hi => q_fm hgv (q_fa1 i hi).2.2.2) (fun i hi j hj => q_fm hgv (q_fa2 i hi j hj)) (fun i j hi hj hij => (q_f3 i hi j hj hij).imp (q_fm hgv) (q_fm hgv)) hA
  have hZ1 := va_Zof (A := fun a : Nat => s.heap.size ≤ a) (hts _ q_f5.1) (hts _ q_f5.2.1) (va_eqt (q_fm hgv q_f4.1)) hA
  have hZ2 := va_Zqof (A := fun a : Nat => s.heap.size ≤ a) (hts _ q_f5.2.2.1) (hts _ q_f5.2.2.2.1) (q_fm hgv q_f4.2.1) hA
  have hZ3 := vx_Zqof (A := fun a : Nat => s.heap.size ≤ a) (hts _ q_f5.2.2.2.2.1) (hts _ q_f5.2.2.2.2.2.2) (q_fm hgv q_f4.2.2.1) hA
  have hZ4 := vx_Zqof (A := fun a : Nat => s.heap.size ≤ a) (hts _ q_f5.2.2.2.2.2.1) (hts _ q_f5.2.2.2.2.2.2) (q_fm hgv q_f4.2.2.2) hA
  obtain ⟨z9, hz9⟩ : ∃ z9 : Nat, va_Z "jdk/internal/util/Preconditions" "SIOOBE_FORMATTER" "Ljava/util/function/BiFunction;" .null (fun a : Nat => s.heap.size ≤ a) s s.heap ∨ va_Z "jdk/internal/util/Preconditions" "SIOOBE_FORMATTER" "Ljava/util/function/BiFunction;" (.ref z9) (fun a : Nat => s.heap.size ≤ a) s s.heap := by
    rcases hZ2 with h | ⟨t, h⟩
    · exact ⟨0, Or.inl h⟩
    · exact ⟨t, Or.inr h⟩
  obtain ⟨G, hG⟩ : ∃ G : q_G, G = (s.heap.size, (dC, dI), dA, (fun i => if i < 100 then adK i else if i < 200 then adV (i - 100) else if i = 200 then z9 else b), xs, L, s.heap, true) := ⟨_, rfl⟩
  have hK : q_K G s := by
    refine ⟨⟨fun k q hq => by rw [hG]; exact hKn k q hq, hdA G (by rw [hG])⟩, fun w hw => va_Nw.of (q_nwo hw) (hts w (List.mem_filter.mp hw).1), ⟨va_AO.of (hts _ q_ao.1), va_AO.of (hts _ q_ao.2.1), va_AO.of (hts _ q_ao.2.2.1), va_AO.of (hts _ q_ao.2.2.2)⟩, fun i x hi => ?_, ?_, ?_, ?_, ?_, ?_, ?_⟩
    · have hi5 : i < 5 := (List.getElem?_eq_some_iff.mp hi).1
      have h1 := hts _ (q_f6 i hi5)
      have h2 := hVE i hi5
      unfold q_tm at h2
      rw [hi] at h1 h2
      have e : G.2.2.2.1 i = adK i := by rw [hG]; show (if i < 100 then adK i else _) = _; rw [if_pos (by omega)]
      rw [e]
      exact vk_R.of h1 h2
    · have e1 : ∀ i, i < 5 → G.2.2.2.1 i = adK i := fun i hi => by rw [hG]; show (if i < 100 then adK i else _) = _; rw [if_pos (by omega)]
      have e2 : ∀ i, i < 5 → G.2.2.2.1 (100 + i) = adV i := fun i hi => by
        rw [hG]; show (if 100 + i < 100 then adK (100 + i) else if 100 + i < 200 then adV (100 + i - 100) else _) = _
        rw [if_neg (by omega), if_pos (by omega), Nat.add_sub_cancel_left]
      have e3 : q_fr G = fun a : Nat => s.heap.size ≤ a := by rw [hG]; rfl
      have e4 : G.2.2.2.2.2.2.1 = s.heap := by rw [hG]
      rw [e3, e4]
      refine ⟨fun i hi => ?_, fun i j hi hj hij => hVS.2 i j hi hj (by rw [← e1 i hi, ← e1 j hj]; exact hij)⟩
      show va_O "java/lang/String" (G.2.2.2.1 i) _ _ _ ∧ va_OF "java/lang/String" "coder" "B" (.int 0) (G.2.2.2.1 i) _ _ _ ∧ va_OF "java/lang/String" "value" "[B" (.ref (G.2.2.2.1 (100 + i))) (G.2.2.2.1 i) _ _ _ ∧ va_T .byte (G.2.2.2.1 (100 + i)) _ _ _ _ _
      rw [e1 i hi, e2 i hi]
      exact hVS.1 i hi
    · rw [hG]; exact hZ1
    · rcases hz9 with h | h
      · exact ⟨.null, Or.inl rfl, by rw [hG]; exact h⟩
      · exact ⟨.float 200, Or.inr rfl, by rw [hG]; exact h⟩
    · exact ⟨by rw [hG]; exact hX, by rw [hG]; exact Nat.not_le.mpr hbl⟩
    · rw [hG]; exact hZ3
    · rw [hG]; exact hZ4
  obtain ⟨q, hq, hq1, hq2⟩ := hpure xs L hL
  have hJ := jb_L_law_0 (G := G) (l := l) (k0 := 0) (z0 := 0) (B := s.heap.size) (b := b) (nm := meth.name) (tab := c.exceptionTable.toList) (xs := xs) (L := L) (by rw [hG]) (q_noTr l hflags) (by rw [hG]) (by rw [hG]) (by rw [hG]) ((fun _ => q_junk), 0, 0, 0) 300 q hq
  have hC : q_C G (p, l, e, room_1, s, m, #[Value.ref b], below, meth, c) (RL, cL_law, 8, 2048, 84000, some .boolean, meth.name, c.exceptionTable.toList) :=
    ⟨hx, hb, hml, hown, ht, hK, hlocks, rfl, rfl, hr, rfl, rfl, fun q _ => by rw [hG]⟩
  have hR0 : q_R G ((fun _ => q_junk), 0, 0, 0) s.heap := by
    rw [hG]
    exact ⟨⟨Nat.le_refl _, fun _ => rfl⟩, fun a ha => absurd rfl ha, fun q _ => rfl⟩
  have hl := lv_entry ([Value.ref b]) (n := 8) (Nat.le_of_ble_eq_true rfl)
  rw [lg_entry_eq]
  have hlv : lv_has ((lg_sl [Value.ref b] ++ List.replicate (8 - (lg_sl [Value.ref b]).length) Slot.unset).toArray) 8 ([(0, Value.float 300)].map (q_lv G)) := by
    have e : [(0, Value.float 300)].map (q_lv G) = lv_args 0 [Value.ref b] := by rw [hG]; rfl
    rw [e]
    exact hl
  have hw := hJ.2 (p, l, e, room_1, s, m, #[Value.ref b], below, meth, c) rfl hC hq1 hq2 (Nat.le_refl _) (Nat.le_refl _) s.heap [] _ hR0 (fun x hx => by cases hx) hlv
  intro T hT X
  obtain ⟨t, c1, c2⟩ := hw T hT X
  exact ⟨t, c1, c2 rfl rfl rfl⟩

