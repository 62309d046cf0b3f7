/-! HOW MANY BITS -/
def pc1 (v : Nat) : Nat := v - (v / 2 &&& 1431655765)
def pc2 (x : Nat) : Nat := (x &&& 858993459) + (x / 4 &&& 858993459)
def pc3 (y : Nat) : Nat := (y + y / 16) &&& 252645135
def pc4 (z : Nat) : Nat := z + z / 256
def pc5 (u : Nat) : Nat := (u + u / 65536) &&& 63
def pcN (v : Nat) : Nat := pc5 (pc4 (pc3 (pc2 (pc1 v))))
def cb (v : Nat) (d : Nat) : Nat := fw (fun k a => a + v / 2 ^ k % 2) 0 0 d
theorem pc_0 : ∀ b, b < 256 → ∀ a, a < 256 → pcN (0 * 65536 + b * 256 + a) = cb (0 * 65536 + b * 256 + a) 20 := by decide +kernel
