/-! THE FIRST STATE -/
def sF (a : Nat) : Int32 := if a = 12 ∨ a = 57 ∨ a = 217 ∨ a = 262 then 1 else if a = 20 ∨ a = 65 ∨ a = 225 ∨ a = 270 then 2 else 0
def S0 : o_S := (fun a k => if k = 0 then sF a else 0, fun a => if a = 299 then I0 42 else fun _ => 0, fun _ _ => 0)
def finL : List va_E := cAll ++ cRef 296 42 ++ [o_L 1 (fun _ => 0)]
def g0 (a : Nat) : va_E := o_t a (S0.1 a) (S0.2.1 a) (S0.2.2 a)
set_option maxRecDepth 1000000 in
set_option maxHeartbeats 4000000 in
theorem fin_eq : finL = (List.range 314).map g0 := by rfl
theorem g0_hi {a : Nat} (h : 314 ≤ a) : g0 a = q_junk := by
  unfold g0 o_t
  repeat rw [if_neg (by omega)]
theorem fin_ov (n : Nat × Nat) : hL finL n = ov S0 (314, n.1, n.2) := by
  unfold hL ov
  rw [fin_eq]
  refine Prod.ext ?_ (Prod.ext ?_ rfl)
  · funext a
    show ((List.range 314).map g0).getD a q_junk = g0 a
    rw [List.getD_eq_getElem?_getD, List.getElem?_map]
    by_cases h : a < 314
    · rw [List.getElem?_range h]
      rfl
    · rw [List.getElem?_eq_none (by simp; omega), g0_hi (by omega)]
      rfl
  · simp
