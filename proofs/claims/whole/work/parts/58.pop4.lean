theorem pop_at {X : Nat} (h : X < 65536) {V : zV} {Q : Int → zV → Prop} (k : Q (pcN X : Nat) V) : mj6_bitCount_0f7a4 V (X : Int) Q := by
  have u := zushr_nat (a := X) (by omega)
  have l1 : Nat.land (X / 2) 1431655765 ≤ X / 2 := Nat.and_le_left
  have e1 : (X : Int) - zand (zushr (X : Int) 1) 1431655765 = (pcN1 X : Nat) := by
    have y : zand ((X / 2 : Nat) : Int) 1431655765 = (Nat.land (X / 2) 1431655765 : Nat) := zand_nat (a := X / 2) (b := 1431655765) (by omega) (by omega)
    rw [u.1, y]
    unfold pcN1
    omega
  have b1 : pcN1 X ≤ X := by unfold pcN1; omega
  have u1 := zushr_nat (a := pcN1 X) (by omega)
  have l2 : Nat.land (pcN1 X) 858993459 ≤ pcN1 X := Nat.and_le_left
  have l3 : Nat.land (pcN1 X / 4) 858993459 ≤ pcN1 X / 4 := Nat.and_le_left
  have e2 : zand ((pcN1 X : Nat) : Int) 858993459 + zand (zushr ((pcN1 X : Nat) : Int) 2) 858993459 = (pcN2 (pcN1 X) : Nat) := by
    have y : zand ((pcN1 X : Nat) : Int) 858993459 = (Nat.land (pcN1 X) 858993459 : Nat) := zand_nat (a := pcN1 X) (b := 858993459) (by omega) (by omega)
    have y2 : zand ((pcN1 X / 4 : Nat) : Int) 858993459 = (Nat.land (pcN1 X / 4) 858993459 : Nat) := zand_nat (a := pcN1 X / 4) (b := 858993459) (by omega) (by omega)
    rw [u1.2.1, y, y2]
    unfold pcN2
    omega
  have b2 : pcN2 (pcN1 X) ≤ 131072 := by unfold pcN2; omega
  have u2 := zushr_nat (a := pcN2 (pcN1 X)) (by omega)
  have e3 : zand (((pcN2 (pcN1 X) : Nat) : Int) + zushr ((pcN2 (pcN1 X) : Nat) : Int) 4) 252645135 = (pcN3 (pcN2 (pcN1 X)) : Nat) := by
    rw [u2.2.2.1, show ((pcN2 (pcN1 X) : Nat) : Int) + ((pcN2 (pcN1 X) / 16 : Nat) : Int) = ((pcN2 (pcN1 X) + pcN2 (pcN1 X) / 16 : Nat) : Int) from by omega]
    exact zand_nat (b := 252645135) (by omega) (by omega)
  have l4 : Nat.land (pcN2 (pcN1 X) + pcN2 (pcN1 X) / 16) 252645135 ≤ pcN2 (pcN1 X) + pcN2 (pcN1 X) / 16 := Nat.and_le_left
  have b3 : pcN3 (pcN2 (pcN1 X)) ≤ 262144 := by unfold pcN3; omega
  have u3 := zushr_nat (a := pcN3 (pcN2 (pcN1 X))) (by omega)
  have e4 : ((pcN3 (pcN2 (pcN1 X)) : Nat) : Int) + zushr ((pcN3 (pcN2 (pcN1 X)) : Nat) : Int) 8 = (pcN4 (pcN3 (pcN2 (pcN1 X))) : Nat) := by
    rw [u3.2.2.2.1]
    unfold pcN4
    omega
  have b4 : pcN4 (pcN3 (pcN2 (pcN1 X))) ≤ 524288 := by unfold pcN4; omega
  have u4 := zushr_nat (a := pcN4 (pcN3 (pcN2 (pcN1 X)))) (by omega)
  have e5 : zand (((pcN4 (pcN3 (pcN2 (pcN1 X))) : Nat) : Int) + zushr ((pcN4 (pcN3 (pcN2 (pcN1 X))) : Nat) : Int) 16) 63 = (pcN X : Nat) := by
    rw [u4.2.2.2.2, show ((pcN4 (pcN3 (pcN2 (pcN1 X))) : Nat) : Int) + ((pcN4 (pcN3 (pcN2 (pcN1 X))) / 65536 : Nat) : Int) = ((pcN4 (pcN3 (pcN2 (pcN1 X))) + pcN4 (pcN3 (pcN2 (pcN1 X))) / 65536 : Nat) : Int) from by omega]
    exact zand_nat (b := 63) (by omega) (by omega)
  unfold mj6_bitCount_0f7a4
  rw [e1, e2, e3, e4, e5]
  exact k
