theorem zushr_nat {a : Nat} (ha : a < 2147483648) : zushr (a : Int) 1 = (a / 2 : Nat) ∧ zushr (a : Int) 2 = (a / 4 : Nat) ∧ zushr (a : Int) 4 = (a / 16 : Nat) ∧ zushr (a : Int) 8 = (a / 256 : Nat) ∧ zushr (a : Int) 16 = (a / 65536 : Nat) := by
  have t : ∀ k : Nat, (BitVec.ofInt 32 (a : Int) >>> k).toNat = a / 2 ^ k := by
    intro k
    rw [BitVec.toNat_ushiftRight, BitVec.ofInt_natCast, BitVec.toNat_ofNat, Nat.mod_eq_of_lt (by omega), Nat.shiftRight_eq_div_pow]
  have u : ∀ k : Nat, (BitVec.ofInt 32 (a : Int) >>> k).toInt = (a / 2 ^ k : Nat) := by
    intro k
    have l : a / 2 ^ k ≤ a := Nat.div_le_self _ _
    rw [BitVec.toInt_eq_toNat_of_lt (by rw [t]; omega), t]
  exact ⟨u 1, u 2, u 4, u 8, u 16⟩
theorem zshl_tab : ∀ j : Fin 16, zshl 1 (j.val : Int) = ((2 ^ j.val : Nat) : Int) := by decide +kernel
theorem zor_pow {a j : Nat} (hj : j < 16) (ha : a < 2 ^ j) : zor (a : Int) (zshl 1 (j : Int)) = ((a + 2 ^ j : Nat) : Int) := by
  have z := zshl_tab ⟨j, hj⟩
  simp only at z
  rw [z]
  have p2 : 2 ^ j ≤ 2 ^ 15 := Nat.pow_le_pow_right (by omega) (by omega)
  have p3 : (2 : Nat) ^ 15 = 32768 := by decide
  have e : zor (a : Int) ((2 ^ j : Nat) : Int) = (BitVec.ofInt 32 (a : Int) ||| BitVec.ofInt 32 ((2 ^ j : Nat) : Int)).toInt := rfl
  have o : 2 ^ j ||| a = 2 ^ j + a := by
    have q := Nat.two_pow_add_eq_or_of_lt ha 1
    rw [Nat.mul_one] at q
    exact q.symm
  have t : (BitVec.ofInt 32 (a : Int) ||| BitVec.ofInt 32 ((2 ^ j : Nat) : Int)).toNat = a + 2 ^ j := by
    rw [BitVec.toNat_or, BitVec.ofInt_natCast, BitVec.ofInt_natCast, BitVec.toNat_ofNat, BitVec.toNat_ofNat, Nat.mod_eq_of_lt (by omega), Nat.mod_eq_of_lt (by omega), Nat.or_comm, o]
    omega
  rw [e, BitVec.toInt_eq_toNat_of_lt (by omega), t]
