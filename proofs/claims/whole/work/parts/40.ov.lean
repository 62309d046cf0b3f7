/-! THE HEAP BEHIND THE CONSTRUCTORS: each address has its kind for good; what it holds is told by S -/
/-- int fields by address and number, int arrays by address, long arrays by address -/
abbrev o_S : Type := (Nat → Nat → Int32) × (Nat → Nat → Int32) × (Nat → Nat → Int64)
def o_refs (t n : Nat) (g : Nat → Nat) : va_E := .inl (t, n, .inr (.inr (.inr (.inr (fun j => if j < n then some (g j) else none)))))
def o_L (n : Nat) (L : Nat → Int64) : va_E := .inl (1, n, .inr (.inl L))
def o_I (t n : Nat) (I : Nat → Int32) : va_E := .inl (t, n, .inl I)
/-- the cells of a World at w, by their place o in it -/
def o_world (w o : Nat) (f I : Nat → Int32) (L : Nat → Int64) : va_E :=
  if o = 0 then .inr (7, [.ref (w + 1), .ref (w + 2)])
  else if o = 1 then o_refs 4 3 (fun j => w + 3 + 8 * j)
  else if o = 2 then o_refs 5 9 (fun j => w + 27 + 2 * j)
  else if o < 27 then
    (match (o - 3) % 8 with
    | 0 => .inr (0, [.int (f 0), .int (f 1), .ref (w + o + 1), .ref (w + o + 2), .ref (w + o + 4), .ref (w + o + 6), .int (f 6)])
    | 1 => o_I 0 3 I
    | 2 => .inr (4, [.ref (w + o + 1), .int (f 1)])
    | 3 => o_L 32 L
    | 4 => .inr (6, [.ref (w + o + 1)])
    | 5 => o_L 16 L
    | 6 => .inr (6, [.ref (w + o + 1)])
    | _ => o_L 16 L)
  else if (o - 27) % 2 = 0 then .inr (4, [.ref (w + o + 1), .int (f 1)])
  else o_L 6 L
/-- the cells by their addresses: FarFolders at 0, its World 1, trial 46, .. the reference at 296, the law's row at 313 -/
def o_t (a : Nat) (f I : Nat → Int32) (L : Nat → Int64) : va_E :=
  if a = 0 then .inr (8, [.ref 1, .ref 46, .ref 91, .ref 92, .ref 93, .ref 95, .ref 97, .ref 99, .ref 102, .int (f 9)])
  else if a < 46 then o_world 1 (a - 1) f I L
  else if a < 91 then o_world 46 (a - 46) f I L
  else if a = 91 then o_refs 7 2 (fun j => 206 + 45 * j)
  else if a = 92 then o_I 2 2 I
  else if a = 93 then .inr (3, [.ref 94, .int (f 1)])
  else if a = 94 then o_L 80 L
  else if a = 95 then .inr (5, [.ref 96, .int (f 1)])
  else if a = 96 then o_I 3 80 I
  else if a = 97 then .inr (6, [.ref 98])
  else if a = 98 then o_L 16 L
  else if a = 99 then .inr (2, [.ref 100, .ref 101])
  else if a = 100 then o_I 0 49 I
  else if a = 101 then o_I 0 49 I
  else if a = 102 then .inr (1, [.ref 103, .ref 104, .ref 106, .int (f 3)])
  else if a = 103 then o_refs 6 49 (fun j => 108 + 2 * j)
  else if a = 104 then .inr (6, [.ref 105])
  else if a = 105 then o_L 16 L
  else if a = 106 then .inr (4, [.ref 107, .int (f 1)])
  else if a = 107 then o_L 32 L
  else if a < 206 then (if (a - 108) % 2 = 0 then .inr (6, [.ref (a + 1)]) else o_L 16 L)
  else if a < 251 then o_world 206 (a - 206) f I L
  else if a < 296 then o_world 251 (a - 251) f I L
  else if a = 296 then .inr (9, [.int (f 0), .int (f 1), .ref 297, .ref 298, .int (f 4), .int (f 5), .int (f 6), .ref 299, .ref 300, .int (f 9), .ref 301, .ref 302, .int (f 12), .int (f 13), .int (f 14), .ref 303, .ref 304, .ref 305, .ref 306, .ref 307, .ref 308, .ref 309, .ref 310, .ref 311, .int (f 24), .ref 312])
  else if a = 297 then o_L 96 L
  else if a = 298 then o_I 0 80 I
  else if a = 299 then o_I 0 2832 I
  else if a = 300 then o_I 0 200 I
  else if a = 301 then o_I 2 40 I
  else if a = 302 then o_I 0 5824 I
  else if a < 310 then o_I 0 80 I
  else if a < 312 then o_I 0 49 I
  else if a = 312 then o_I 2 2 I
  else if a = 313 then o_L 1 L
  else q_junk
def ov (S : o_S) (n : Nat × Nat × Nat) : q_H := (fun a => o_t a (S.1 a) (S.2.1 a) (S.2.2 a), n)
def o_sf (S : o_S) (a k : Nat) (v : Int32) : o_S := (fun b => if b = a then upd (S.1 a) k v else S.1 b, S.2)
def o_sI (S : o_S) (a : Nat) (I : Nat → Int32) : o_S := (S.1, fun b => if b = a then I else S.2.1 b, S.2.2)
def o_sL (S : o_S) (a : Nat) (L : Nat → Int64) : o_S := (S.1, S.2.1, fun b => if b = a then L else S.2.2 b)
/-! kinds of addresses -/
def kL (n a : Nat) : Prop := ∀ f I L, o_t a f I L = o_L n L
def kI (t n a : Nat) : Prop := ∀ f I L, o_t a f I L = o_I t n I
def kR (t n a : Nat) (g : Nat → Nat) : Prop := ∀ f I L, o_t a f I L = o_refs t n g
def kTree (t : Nat) : Prop := (∀ f I L, o_t t f I L = .inr (6, [.ref (t + 1)])) ∧ kL 16 (t + 1)
def kSer (n a : Nat) : Prop := (∀ f I L, o_t a f I L = .inr (4, [.ref (a + 1), .int (f 1)])) ∧ kL n (a + 1)
def kCopy (a : Nat) : Prop := (∀ f I L, o_t a f I L = .inr (0, [.int (f 0), .int (f 1), .ref (a + 1), .ref (a + 2), .ref (a + 4), .ref (a + 6), .int (f 6)])) ∧ kI 0 3 (a + 1) ∧ kSer 32 (a + 2) ∧ kTree (a + 4) ∧ kTree (a + 6)
def kWorld (w : Nat) : Prop := (∀ f I L, o_t w f I L = .inr (7, [.ref (w + 1), .ref (w + 2)])) ∧ kR 4 3 (w + 1) (fun j => w + 3 + 8 * j) ∧ kR 5 9 (w + 2) (fun j => w + 27 + 2 * j) ∧ (∀ c, c < 3 → kCopy (w + 3 + 8 * c)) ∧ ∀ i, i < 9 → kSer 6 (w + 27 + 2 * i)
theorem o_wcase {P : Nat → Prop} (h1 : P 1) (h2 : P 46) (h3 : P 206) (h4 : P 251) : ∀ w, (w = 1 ∨ w = 46 ∨ w = 206 ∨ w = 251) → P w := by
  intro w h
  rcases h with rfl | rfl | rfl | rfl
  · exact h1
  · exact h2
  · exact h3
  · exact h4
theorem o_c3 {P : Nat → Prop} (h0 : P 0) (h1 : P 1) (h2 : P 2) : ∀ c, c < 3 → P c := by
  intro c h
  match c, h with
  | 0, _ => exact h0
  | 1, _ => exact h1
  | 2, _ => exact h2
  | n + 3, h => omega
theorem o_c9 {P : Nat → Prop} (h0 : P 0) (h1 : P 1) (h2 : P 2) (h3 : P 3) (h4 : P 4) (h5 : P 5) (h6 : P 6) (h7 : P 7) (h8 : P 8) : ∀ c, c < 9 → P c := by
  intro c h
  match c, h with
  | 0, _ => exact h0
  | 1, _ => exact h1
  | 2, _ => exact h2
  | 3, _ => exact h3
  | 4, _ => exact h4
  | 5, _ => exact h5
  | 6, _ => exact h6
  | 7, _ => exact h7
  | 8, _ => exact h8
  | n + 9, h => omega
theorem kCopy_i {a : Nat} (h0 : ∀ f I L, o_t a f I L = .inr (0, [.int (f 0), .int (f 1), .ref (a + 1), .ref (a + 2), .ref (a + 4), .ref (a + 6), .int (f 6)])) (h1 : kI 0 3 (a + 1)) (h2 : ∀ f I L, o_t (a + 2) f I L = .inr (4, [.ref (a + 2 + 1), .int (f 1)])) (h3 : kL 32 (a + 2 + 1)) (h4 : ∀ f I L, o_t (a + 4) f I L = .inr (6, [.ref (a + 4 + 1)])) (h5 : kL 16 (a + 4 + 1)) (h6 : ∀ f I L, o_t (a + 6) f I L = .inr (6, [.ref (a + 6 + 1)])) (h7 : kL 16 (a + 6 + 1)) : kCopy a := ⟨h0, h1, ⟨h2, h3⟩, ⟨h4, h5⟩, ⟨h6, h7⟩⟩
theorem kWorld_at : ∀ w, (w = 1 ∨ w = 46 ∨ w = 206 ∨ w = 251) → kWorld w := by
  refine o_wcase ?_ ?_ ?_ ?_ <;>
  exact ⟨fun _ _ _ => rfl, fun _ _ _ => rfl, fun _ _ _ => rfl,
    o_c3 (kCopy_i (fun _ _ _ => rfl) (fun _ _ _ => rfl) (fun _ _ _ => rfl) (fun _ _ _ => rfl) (fun _ _ _ => rfl) (fun _ _ _ => rfl) (fun _ _ _ => rfl) (fun _ _ _ => rfl)) (kCopy_i (fun _ _ _ => rfl) (fun _ _ _ => rfl) (fun _ _ _ => rfl) (fun _ _ _ => rfl) (fun _ _ _ => rfl) (fun _ _ _ => rfl) (fun _ _ _ => rfl) (fun _ _ _ => rfl)) (kCopy_i (fun _ _ _ => rfl) (fun _ _ _ => rfl) (fun _ _ _ => rfl) (fun _ _ _ => rfl) (fun _ _ _ => rfl) (fun _ _ _ => rfl) (fun _ _ _ => rfl) (fun _ _ _ => rfl)),
    o_c9 ⟨fun _ _ _ => rfl, fun _ _ _ => rfl⟩ ⟨fun _ _ _ => rfl, fun _ _ _ => rfl⟩ ⟨fun _ _ _ => rfl, fun _ _ _ => rfl⟩ ⟨fun _ _ _ => rfl, fun _ _ _ => rfl⟩ ⟨fun _ _ _ => rfl, fun _ _ _ => rfl⟩ ⟨fun _ _ _ => rfl, fun _ _ _ => rfl⟩ ⟨fun _ _ _ => rfl, fun _ _ _ => rfl⟩ ⟨fun _ _ _ => rfl, fun _ _ _ => rfl⟩ ⟨fun _ _ _ => rfl, fun _ _ _ => rfl⟩⟩
/-! how the operations act -/
section OV
variable {S : o_S} {n : Nat × Nat × Nat} {a : Nat}
theorem ov_at (S : o_S) (n : Nat × Nat × Nat) (a : Nat) : (ov S n).1 a = o_t a (S.1 a) (S.2.1 a) (S.2.2 a) := rfl
theorem o_chk {ci : Nat} {β : Type} {r : Option β} {fs : (Nat → Int32) → List Value} (h : ∀ f I L, o_t a f I L = .inr (ci, fs f)) : q_chk ci (ov S n) a r = r := by
  unfold q_chk
  rw [ov_at, h]
  exact if_pos rfl
theorem o_fld {ci k : Nat} {fs : (Nat → Int32) → List Value} (h : ∀ f I L, o_t a f I L = .inr (ci, fs f)) : q_fld ci k (ov S n) a = (fs (S.1 a))[k]? := by
  unfold q_fld
  rw [ov_at, h]
  exact if_pos rfl
theorem o_gI {ci k : Nat} {fs : (Nat → Int32) → List Value} (h : ∀ f I L, o_t a f I L = .inr (ci, fs f)) {v : Int32} (hk : (fs (S.1 a))[k]? = some (.int v)) : q_gI ci k (ov S n) a = some v := by
  unfold q_gI
  rw [o_fld h, hk]
theorem o_gR {ci k : Nat} {fs : (Nat → Int32) → List Value} (h : ∀ f I L, o_t a f I L = .inr (ci, fs f)) {v : Nat} (hk : (fs (S.1 a))[k]? = some (.ref v)) : q_gR ci k (ov S n) a = some v := by
  unfold q_gR
  rw [o_fld h, hk]
theorem o_put {S S' : o_S} {e : va_E} (he : e = o_t a (S'.1 a) (S'.2.1 a) (S'.2.2 a)) (h1 : ∀ b, b ≠ a → S'.1 b = S.1 b ∧ S'.2.1 b = S.2.1 b ∧ S'.2.2 b = S.2.2 b) : q_s (ov S n) a e = ov S' n := by
  unfold q_s ov
  refine Prod.ext ?_ rfl
  funext b
  show va_up _ a e b = _
  unfold va_up
  by_cases hb : b = a
  · subst hb
    rw [if_pos rfl, he]
  · rw [if_neg hb]
    obtain ⟨e1, e2, e3⟩ := h1 b hb
    show o_t b (S.1 b) (S.2.1 b) (S.2.2 b) = o_t b (S'.1 b) (S'.2.1 b) (S'.2.2 b)
    rw [e1, e2, e3]
theorem o_pI {ci k : Nat} {v : Int32} {fs : (Nat → Int32) → List Value} (h : ∀ f I L, o_t a f I L = .inr (ci, fs f)) (hk : k < (fs (S.1 a)).length) (hs : (fs (S.1 a)).set k (.int v) = fs (upd (S.1 a) k v)) : q_p ci k (ov S n) a (.int v) = some (ov (o_sf S a k v) n) := by
  unfold q_p
  rw [ov_at, h]
  show (if ci = ci ∧ k < (fs (S.1 a)).length then some (q_s (ov S n) a (.inr (ci, (fs (S.1 a)).set k (.int v)))) else none) = _
  rw [if_pos ⟨rfl, hk⟩]
  refine congrArg some (o_put ?_ (fun b hb => ?_))
  · rw [h, hs]
    show _ = Sum.inr (ci, fs (if a = a then upd (S.1 a) k v else S.1 a))
    rw [if_pos rfl]
  · refine ⟨?_, rfl, rfl⟩
    show (if b = a then _ else S.1 b) = S.1 b
    rw [if_neg hb]
theorem o_lL {m : Nat} (h : kL m a) (i : Int32) : q_lL (ov S n) a i = if q_in i m = true then some (S.2.2 a i.toNatClampNeg) else none := by
  unfold q_lL
  rw [ov_at, h]
  by_cases hi : q_in i m = true <;> simp [o_L, hi]
theorem o_stL {m : Nat} (h : kL m a) (i : Int32) (x : Int64) : q_sL (ov S n) a i x = if q_in i m = true then some (ov (o_sL S a (vp_updL (S.2.2 a) i.toNatClampNeg x)) n) else none := by
  unfold q_sL
  rw [ov_at, h]
  by_cases hi : q_in i m = true
  · simp only [o_L, hi, and_self, if_true]
    refine congrArg some (o_put ?_ (fun b hb => ⟨rfl, rfl, ?_⟩))
    · rw [h]; show _ = o_L m (if a = a then _ else _); rw [if_pos rfl]; rfl
    · show (if b = a then _ else S.2.2 b) = S.2.2 b
      rw [if_neg hb]
  · simp [o_L, hi]
theorem o_lI {t m : Nat} (h : kI t m a) (i : Int32) : q_lI t (ov S n) a i = if q_in i m = true then some (S.2.1 a i.toNatClampNeg) else none := by
  unfold q_lI
  rw [ov_at, h]
  by_cases hi : q_in i m = true <;> simp [o_I, hi]
theorem o_stI {t m : Nat} (h : kI t m a) (nar : Int32 → Int32) (i x : Int32) : q_sI t nar (ov S n) a i x = if q_in i m = true then some (ov (o_sI S a (upd (S.2.1 a) i.toNatClampNeg (nar x))) n) else none := by
  unfold q_sI
  rw [ov_at, h]
  by_cases hi : q_in i m = true
  · simp only [o_I, hi, and_self, if_true]
    refine congrArg some (o_put ?_ (fun b hb => ⟨rfl, ?_, rfl⟩))
    · rw [h]; show _ = o_I t m (if a = a then _ else _); rw [if_pos rfl]; rfl
    · show (if b = a then _ else S.2.1 b) = S.2.1 b
      rw [if_neg hb]
  · simp [o_I, hi]
theorem o_lR {t m : Nat} {g : Nat → Nat} (h : kR t m a g) (i : Int32) : q_lR t (ov S n) a i = if q_in i m = true then some (g i.toNatClampNeg) else none := by
  unfold q_lR
  rw [ov_at, h]
  by_cases hi : q_in i m = true
  · have hlt : i.toNatClampNeg < m := Nat.not_le.mp fun q => q_in_ok hi (Or.inr q)
    simp [o_refs, hi, hlt]
  · simp [o_refs, hi]
theorem o_lenL {m : Nat} (h : kL m a) : q_len (ov S n) a = some (nI m) := by
  unfold q_len
  rw [ov_at, h]
  rfl
theorem o_lenI {t m : Nat} (h : kI t m a) (ht : t < 8) : q_len (ov S n) a = some (nI m) := by
  unfold q_len
  rw [ov_at, h]
  show (if t < 8 then some (Int32.ofNat m) else none) = _
  rw [if_pos ht]
  rfl
theorem o_lenR {t m : Nat} {g : Nat → Nat} (h : kR t m a g) (ht : t < 8) : q_len (ov S n) a = some (nI m) := by
  unfold q_len
  rw [ov_at, h]
  show (if t < 8 then some (Int32.ofNat m) else none) = _
  rw [if_pos ht]
  rfl
/-- an index by its number -/
theorem q_in_nI {i m : Nat} (h : i < m) (hm : m < 2 ^ 31) : q_in (nI i) m = true := by
  unfold q_in
  have h1 := nI_clamp (n := i) (by omega)
  have h2 := nI_pos (n := i) (by omega)
  rw [h1]
  simp [h2]
  omega
end OV
