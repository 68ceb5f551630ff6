/-! ===== the set of a person's sides, counted ===== -/
theorem set_cnt {n : Int} {s : zS} (w : zwf n s) {p : Int} (hp : 0 ≤ p) : ∀ (m j a : Nat), j + m ≤ 16 → ((j + m : Nat) : Int) ≤ 2 * n → a < 2 ^ j → ∃ b : Nat, setS s p m (j : Int) (a : Int) = (b : Int) ∧ b < 2 ^ (j + m) ∧ ((pcN b : Nat) : Int) = (pcN a : Nat) + sumI (gSi s p) m (j : Int)
  | 0, j, a, _, _, ha => ⟨a, rfl, ha, by rw [sumI_0]; omega⟩
  | m + 1, j, a, hj, hn, ha => by
    have p1 : 2 ^ (j + 1) = 2 * 2 ^ j := by rw [Nat.pow_succ]; omega
    have eg : gSi s p (j : Int) = if onS s (j : Int) = p then 1 else 0 := by
      unfold gSi
      by_cases c : s 5 ((j : Int) / 2) = 1
      · have z := wst w (j := (j : Int)) (by omega) (by omega) c
        have eo : onS s (j : Int) = -1 := by
          unfold onS
          rw [if_pos z.2]
          exact z.1
        rw [if_neg (by omega), if_neg (by omega)]
      · have z5 := w5 w (f := (j : Int) / 2) (by omega) (by omega)
        by_cases c2 : onS s (j : Int) = p
        · rw [if_pos ⟨by omega, c2⟩, if_pos c2]
        · rw [if_neg (fun z => c2 z.2), if_neg c2]
    rw [setS_s, sumI_s, eg]
    by_cases c : onS s (j : Int) = p
    · rw [if_pos c, if_pos c, zor_pow (by omega) ha]
      obtain ⟨b, e1, e2, e3⟩ := set_cnt w hp m (j + 1) (a + 2 ^ j) (by omega) (by omega) (by omega)
      have q := pcN_add j a (by omega) ha
      refine ⟨b, e1, ?_, ?_⟩
      · rw [show j + (m + 1) = j + 1 + m from by omega]
        exact e2
      · rw [e3, q, show ((j + 1 : Nat) : Int) = (j : Int) + 1 from by omega]
        omega
    · rw [if_neg c, if_neg c]
      obtain ⟨b, e1, e2, e3⟩ := set_cnt w hp m (j + 1) a (by omega) (by omega) (by omega)
      refine ⟨b, e1, ?_, ?_⟩
      · rw [show j + (m + 1) = j + 1 + m from by omega]
        exact e2
      · rw [e3, show ((j + 1 : Nat) : Int) = (j : Int) + 1 from by omega]
        omega
