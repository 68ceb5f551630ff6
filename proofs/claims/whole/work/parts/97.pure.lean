/-- the law, as a statement on numbers alone -/
theorem law_pure (L : Nat) (ys : Nat → Int) (hL : L ≤ 256) (hy : ∀ j, inR (ys j)) : mL_law L ys () := sorry
