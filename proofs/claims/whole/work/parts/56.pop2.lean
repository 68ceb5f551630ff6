theorem pcN_h {x : Nat} (h : x < 32768) : pcN (2 * x) = pcN x ∧ pcN (2 * x + 1) = pcN x + 1 := by
  have q := pcN_tab ⟨x / 256, by omega⟩ ⟨x % 256, by omega⟩
  simp only at q
  rw [show 256 * (x / 256) + x % 256 = x from by omega] at q
  exact q
theorem pcN_add : ∀ (j : Nat) (a : Nat), j < 16 → a < 2 ^ j → pcN (a + 2 ^ j) = pcN a + 1
  | 0, a, _, ha => by
    have e : a = 0 := by omega
    subst e
    exact (pcN_h (x := 0) (by omega)).2
  | j + 1, a, hj, ha => by
    have p : 2 ^ (j + 1) = 2 * 2 ^ j := by rw [Nat.pow_succ]; omega
    have p2 : 2 ^ j ≤ 2 ^ 14 := Nat.pow_le_pow_right (by omega) (by omega)
    have p3 : (2 : Nat) ^ 14 = 16384 := by decide
    have ih := pcN_add j (a / 2) (by omega) (by omega)
    have h1 := pcN_h (x := a / 2 + 2 ^ j) (by omega)
    have h2 := pcN_h (x := a / 2) (by omega)
    by_cases c : a % 2 = 0
    · rw [show a + 2 ^ (j + 1) = 2 * (a / 2 + 2 ^ j) from by omega, h1.1, ih]
      rw [show pcN a = pcN (a / 2) from by rw [← h2.1, show 2 * (a / 2) = a from by omega]]
    · rw [show a + 2 ^ (j + 1) = 2 * (a / 2 + 2 ^ j) + 1 from by omega, h1.2, ih]
      rw [show pcN a = pcN (a / 2) + 1 from by rw [← h2.2, show 2 * (a / 2) + 1 = a from by omega]]
theorem zand_nat {a b : Nat} (ha : a < 2147483648) (hb : b < 2147483648) : zand (a : Int) (b : Int) = (Nat.land a b : Nat) := by
  have e : zand (a : Int) (b : Int) = (BitVec.ofInt 32 (a : Int) &&& BitVec.ofInt 32 (b : Int)).toInt := rfl
  have l : Nat.land a b ≤ a := Nat.and_le_left
  have t : (BitVec.ofInt 32 (a : Int) &&& BitVec.ofInt 32 (b : Int)).toNat = Nat.land a b := by
    rw [BitVec.toNat_and, BitVec.ofInt_natCast, BitVec.ofInt_natCast, BitVec.toNat_ofNat, BitVec.toNat_ofNat, Nat.mod_eq_of_lt (by omega), Nat.mod_eq_of_lt (by omega)]
    rfl
  rw [e, BitVec.toInt_eq_toNat_of_lt (by omega), t]
