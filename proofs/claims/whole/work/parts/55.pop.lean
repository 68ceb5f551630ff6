/-! ===== how many bits ===== -/
def pcN1 (x : Nat) : Nat := x - (Nat.land (x / 2) 1431655765)
def pcN2 (a : Nat) : Nat := Nat.land a 858993459 + Nat.land (a / 4) 858993459
def pcN3 (b : Nat) : Nat := Nat.land (b + b / 16) 252645135
def pcN4 (c : Nat) : Nat := c + c / 256
def pcN5 (d : Nat) : Nat := Nat.land (d + d / 65536) 63
def pcN (x : Nat) : Nat := pcN5 (pcN4 (pcN3 (pcN2 (pcN1 x))))
theorem pcN_tab : ∀ h : Fin 128, ∀ l : Fin 256, pcN (2 * (256 * h.val + l.val)) = pcN (256 * h.val + l.val) ∧ pcN (2 * (256 * h.val + l.val) + 1) = pcN (256 * h.val + l.val) + 1 := by decide +kernel
