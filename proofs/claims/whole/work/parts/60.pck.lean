/-! HOW MANY BITS -/
def pc1 (v : Nat) : Nat := v - (v / 2 &&& 1431655765)
def pc2 (x : Nat) : Nat := (x &&& 858993459) + (x / 4 &&& 858993459)
def pc3 (y : Nat) : Nat := (y + y / 16) &&& 252645135
def pc4 (z : Nat) : Nat := z + z / 256
def pc5 (u : Nat) : Nat := (u + u / 65536) &&& 63
def pcN (v : Nat) : Nat := pc5 (pc4 (pc3 (pc2 (pc1 v))))
def cbit : Nat → Nat → Nat
  | 0, _ => 0
  | d + 1, v => v % 2 + cbit d (v / 2)
def pck : Nat → Nat → Nat → Bool
  | 0, v, c => Nat.beq (pcN v) c
  | d + 1, v, c => and (pck d (2 * v) c) (pck d (2 * v + 1) (c + 1))
theorem pck_0 : pck 16 0 0 = true := by decide +kernel
theorem pck_1 : pck 16 1 1 = true := by decide +kernel
theorem pck_2 : pck 16 2 1 = true := by decide +kernel
theorem pck_3 : pck 16 3 2 = true := by decide +kernel
theorem pck_4 : pck 16 4 1 = true := by decide +kernel
theorem pck_5 : pck 16 5 2 = true := by decide +kernel
theorem pck_6 : pck 16 6 2 = true := by decide +kernel
theorem pck_7 : pck 16 7 3 = true := by decide +kernel
theorem pck_8 : pck 16 8 1 = true := by decide +kernel
theorem pck_9 : pck 16 9 2 = true := by decide +kernel
theorem pck_10 : pck 16 10 2 = true := by decide +kernel
theorem pck_11 : pck 16 11 3 = true := by decide +kernel
theorem pck_12 : pck 16 12 2 = true := by decide +kernel
theorem pck_13 : pck 16 13 3 = true := by decide +kernel
theorem pck_14 : pck 16 14 3 = true := by decide +kernel
theorem pck_15 : pck 16 15 4 = true := by decide +kernel
