/-! ===== counting ===== -/
def sumI (g : Int → Int) : Nat → Int → Int
  | 0, _ => 0
  | m + 1, i => g i + sumI g m (i + 1)
theorem sumI_s (g : Int → Int) (m : Nat) (i : Int) : sumI g (m + 1) i = g i + sumI g m (i + 1) := rfl
theorem sumI_0 (g : Int → Int) (i : Int) : sumI g 0 i = 0 := rfl
theorem sumI_in {g : Int → Int} {c : Int} : ∀ (m : Nat) (i : Int), (∀ j, i ≤ j → j < i + m → 0 ≤ g j ∧ g j ≤ c) → 0 ≤ sumI g m i ∧ sumI g m i ≤ m * c
  | 0, i, _ => by rw [sumI_0]; omega
  | m + 1, i, h => by
    have h1 := h i (by omega) (by omega)
    have h2 := sumI_in m (i + 1) (fun j a b => h j (by omega) (by omega))
    rw [sumI_s]
    have e : ((m + 1 : Nat) : Int) * c = (m : Int) * c + c := by rw [Int.natCast_add, Int.add_mul]; omega
    omega
theorem sumI_c {g g' : Int → Int} : ∀ (m : Nat) (i : Int), (∀ j, i ≤ j → j < i + m → g j = g' j) → sumI g m i = sumI g' m i
  | 0, i, _ => rfl
  | m + 1, i, h => by
    have h1 := h i (by omega) (by omega)
    have h2 := sumI_c m (i + 1) (fun j a b => h j (by omega) (by omega))
    rw [sumI_s, sumI_s, h1, h2]
theorem sumI_2 {g g' : Int → Int} : ∀ (m : Nat) (i : Int), (∀ j, i ≤ j → j < i + m → g' j = g (2 * j + 0) + g (2 * j + 1)) → sumI g (2 * m) (2 * i) = sumI g' m i
  | 0, i, _ => rfl
  | m + 1, i, h => by
    have h1 := h i (by omega) (by omega)
    have h2 := sumI_2 m (i + 1) (fun j a b => h j (by omega) (by omega))
    rw [show 2 * (m + 1) = 2 * m + 1 + 1 from by omega, sumI_s, sumI_s, sumI_s, h1, ← h2]
    rw [show 2 * i + 1 + 1 = 2 * (i + 1) from by omega, show 2 * i + 0 = 2 * i from by omega]
    omega
theorem sumI_app {g : Int → Int} : ∀ (m m' : Nat) (i : Int), sumI g (m + m') i = sumI g m i + sumI g m' (i + m)
  | 0, m', i => by rw [sumI_0, Nat.zero_add]; simp
  | m + 1, m', i => by
    have h2 := sumI_app (g := g) m m' (i + 1)
    rw [show m + 1 + m' = (m + m') + 1 from by omega, sumI_s, sumI_s, h2]
    rw [show i + 1 + (m : Int) = i + ((m + 1 : Nat) : Int) from by omega]
    omega
def gOp (s : zS) (j : Int) : Int := opS s (j / 2) j
def gOp2 (s : zS) (f : Int) : Int := opS s f (2 * f + 0) + opS s f (2 * f + 1)
def gLe (s : zS) (j : Int) : Int := leB s j
def gUn (s : zS) (j : Int) : Int := if s 4 j = -1 then 1 else 0
def gSi (s : zS) (p j : Int) : Int := if s 5 (j / 2) = 0 ∧ onS s j = p then 1 else 0
def gBo (s : zS) (a b f : Int) : Int := bothS s f a b
section SUMS
variable {S : List zC} {V : zV} {o : Nat} {n : Int} {s : zS} {Q : Int → zV → Prop}
theorem m_struckMany_L (h : cM V n s) (w : zwf n s)   : ∀ (m : Nat) (a i : Int), 0 ≤ i → i + m = n → (∀ r, r = a + sumI (s 5) m i → Q r V) → m12_struckMany_L4 Q (m + 1) a i V
  | 0, a, i, hi, hm, k => by
    have hn := wn w
    have en := m_n h
    have e := sumI_0 (s 5) i
    unfold m12_struckMany_L4
    (repeat' (first | omega | with_reducible apply And.intro | intro _ | with_reducible apply k))
  | m + 1, a, i, hi, hm, k => by
    have hn := wn w
    have en := m_n h
    have e := sumI_s (s 5) m i
    have e5 := m_5 h (f := i) (by omega) (by omega)
    have b5 := w5 w (f := i) (by omega) (by omega)
    have ih := fun a i b c d => m_struckMany_L h w  m a i b c d
    clear m_struckMany_L
    unfold m12_struckMany_L4
    (repeat' (first | omega | with_reducible apply And.intro | intro _ | with_reducible refine ih _ _ (by omega) (by omega) ?_ | with_reducible apply k)) <;> omega
theorem x_struckFeuds_L (h : cX S V o n s) (w : zwf n s)   : ∀ (m : Nat) (a i : Int), 0 ≤ i → i + m = n → (∀ r, r = a + sumI (s 5) m i → Q r V) → m4_struckFeuds_L4 S o Q (m + 1) a i V
  | 0, a, i, hi, hm, k => by
    have hn := wn w
    have en := x_n h
    have e := sumI_0 (s 5) i
    unfold m4_struckFeuds_L4
    (repeat' (first | omega | with_reducible apply And.intro | intro _ | with_reducible apply k))
  | m + 1, a, i, hi, hm, k => by
    have hn := wn w
    have en := x_n h
    have e := sumI_s (s 5) m i
    have e5 := x_5 h (f := i) (by omega) (by omega)
    have b5 := w5 w (f := i) (by omega) (by omega)
    have ih := fun a i b c d => x_struckFeuds_L h w  m a i b c d
    clear x_struckFeuds_L
    unfold m4_struckFeuds_L4
    (repeat' (first | omega | with_reducible apply And.intro | intro _ | with_reducible refine ih _ _ (by omega) (by omega) ?_ | with_reducible apply k)) <;> omega
theorem m_aliveMany_L (h : cM V n s) (w : zwf n s)   : ∀ (m : Nat) (a i : Int), 0 ≤ i → i + m = 6 → (∀ r, r = a + sumI (s 2) m i → Q r V) → m12_aliveMany_L4 Q (m + 1) a i V
  | 0, a, i, hi, hm, k => by
    have hn := wn w
    have en := m_n h
    have e := sumI_0 (s 2) i
    unfold m12_aliveMany_L4
    (repeat' (first | omega | with_reducible apply And.intro | intro _ | with_reducible apply k))
  | m + 1, a, i, hi, hm, k => by
    have hn := wn w
    have en := m_n h
    have e := sumI_s (s 2) m i
    have e2 := m_2 h (p := i) (by omega) (by omega)
    have b2 := w2 w (p := i) (by omega) (by omega)
    have e0 := m_0 h (p := i) (by omega) (by omega)
    have ih := fun a i b c d => m_aliveMany_L h w  m a i b c d
    clear m_aliveMany_L
    unfold m12_aliveMany_L4
    (repeat' (first | omega | with_reducible apply And.intro | intro _ | with_reducible refine ih _ _ (by omega) (by omega) ?_ | with_reducible apply k)) <;> omega
theorem x_alive_L (h : cX S V o n s) (w : zwf n s)   : ∀ (m : Nat) (a i : Int), 0 ≤ i → i + m = 6 → (∀ r, r = a + sumI (s 2) m i → Q r V) → m4_peopleAlive_L4 S o Q (m + 1) a i V
  | 0, a, i, hi, hm, k => by
    have hn := wn w
    have en := x_n h
    have e := sumI_0 (s 2) i
    unfold m4_peopleAlive_L4
    (repeat' (first | omega | with_reducible apply And.intro | intro _ | with_reducible apply k))
  | m + 1, a, i, hi, hm, k => by
    have hn := wn w
    have en := x_n h
    have e := sumI_s (s 2) m i
    have e2 := x_2 h (p := i) (by omega) (by omega)
    have b2 := w2 w (p := i) (by omega) (by omega)
    have e0 := x_0 h (p := i) (by omega) (by omega)
    have ih := fun a i b c d => x_alive_L h w  m a i b c d
    clear x_alive_L
    unfold m4_peopleAlive_L4
    (repeat' (first | omega | with_reducible apply And.intro | intro _ | with_reducible refine ih _ _ (by omega) (by omega) ?_ | with_reducible apply k)) <;> omega
theorem x_money_L (h : cX S V o n s) (w : zwf n s)   : ∀ (m : Nat) (a i : Int), 0 ≤ i → i + m = 6 → (∀ r, r = a + sumI (s 0) m i → Q r V) → m4_moneyOfAll_L4 S o Q (m + 1) a i V
  | 0, a, i, hi, hm, k => by
    have hn := wn w
    have en := x_n h
    have e := sumI_0 (s 0) i
    unfold m4_moneyOfAll_L4
    (repeat' (first | omega | with_reducible apply And.intro | intro _ | with_reducible apply k))
  | m + 1, a, i, hi, hm, k => by
    have hn := wn w
    have en := x_n h
    have e := sumI_s (s 0) m i
    have e2 := x_2 h (p := i) (by omega) (by omega)
    have b2 := w2 w (p := i) (by omega) (by omega)
    have e0 := x_0 h (p := i) (by omega) (by omega)
    have ih := fun a i b c d => x_money_L h w  m a i b c d
    clear x_money_L
    unfold m4_moneyOfAll_L4
    (repeat' (first | omega | with_reducible apply And.intro | intro _ | with_reducible refine ih _ _ (by omega) (by omega) ?_ | with_reducible apply k)) <;> omega
theorem x_open_L (h : cX S V o n s) (w : zwf n s)   : ∀ (m : Nat) (a i : Int), 0 ≤ i → i + m = n → (∀ r, r = a + sumI (gOp2 s) m i → Q r V) → m4_openSides_L4 S o Q (m + 1) a i V
  | 0, a, i, hi, hm, k => by
    have hn := wn w
    have en := x_n h
    have e := sumI_0 (gOp2 s) i
    unfold m4_openSides_L4 m4_openSides_J30
    (repeat' (first | omega | with_reducible apply And.intro | intro _ | with_reducible refine x_isOpen h w (by omega) (by omega) ?_ | with_reducible apply k))
  | m + 1, a, i, hi, hm, k => by
    have hn := wn w
    have en := x_n h
    have e := sumI_s (gOp2 s) m i
    have eg : gOp2 s i = opS s i (2 * i + 0) + opS s i (2 * i + 1) := rfl
    have ih := fun a i b c d => x_open_L h w  m a i b c d
    clear x_open_L
    unfold m4_openSides_L4 m4_openSides_J30
    (repeat' (first | omega | with_reducible apply And.intro | intro _ | with_reducible refine x_isOpen h w (by omega) (by omega) ?_ | with_reducible refine ih _ _ (by omega) (by omega) ?_ | with_reducible apply k)) <;> omega
theorem m_open_L (h : cM V n s) (w : zwf n s)   : ∀ (m : Nat) (a i : Int), 0 ≤ i → i + m = 2 * n → (∀ r, r = a + sumI (gOp s) m i → Q r V) → m12_openMany_L4 Q (m + 1) a i V
  | 0, a, i, hi, hm, k => by
    have hn := wn w
    have en := m_n h
    have e := sumI_0 (gOp s) i
    unfold m12_openMany_L4
    (repeat' (first | omega | with_reducible apply And.intro | intro _ | with_reducible refine m_isStruck h w (by omega) ?_ | with_reducible refine m_ownerOf h w (by omega) (by omega) ?_ | with_reducible apply k))
  | m + 1, a, i, hi, hm, k => by
    have hn := wn w
    have en := m_n h
    have e := sumI_s (gOp s) m i
    have ed : 2 * (i / 2) + i % 2 = i := by omega
    have eg : gOp s i = if s 5 (i / 2) = 0 ∧ s 3 (2 * (i / 2) + i % 2) = -1 then 1 else 0 := by rw [ed]; rfl
    have ih := fun a i b c d => m_open_L h w  m a i b c d
    clear m_open_L
    unfold m12_openMany_L4
    (repeat' (first | omega | with_reducible apply And.intro | intro _ | with_reducible refine m_isStruck h w (by omega) ?_ | with_reducible refine m_ownerOf h w (by omega) (by omega) ?_ | with_reducible refine ih _ _ (by omega) (by omega) ?_ | with_reducible apply k)) <;> ((repeat' split at *) <;> omega)
theorem m_lent_L (h : cM V n s) (w : zwf n s)   : ∀ (m : Nat) (a i : Int), 0 ≤ i → i + m = 2 * n → (∀ r, r = a + sumI (gLe s) m i → Q r V) → m12_lentMany_L4 Q (m + 1) a i V
  | 0, a, i, hi, hm, k => by
    have hn := wn w
    have en := m_n h
    have e := sumI_0 (gLe s) i
    unfold m12_lentMany_L4
    (repeat' (first | omega | with_reducible apply And.intro | intro _ | with_reducible refine m_borrowerOf h w (by omega) (by omega) ?_ | with_reducible apply k))
  | m + 1, a, i, hi, hm, k => by
    have hn := wn w
    have en := m_n h
    have e := sumI_s (gLe s) m i
    have ed : 2 * (i / 2) + i % 2 = i := by omega
    have eg : gLe s i = if s 4 (2 * (i / 2) + i % 2) = -1 then 0 else 1 := by rw [ed]; rfl
    have ih := fun a i b c d => m_lent_L h w  m a i b c d
    clear m_lent_L
    unfold m12_lentMany_L4
    (repeat' (first | omega | with_reducible apply And.intro | intro _ | with_reducible refine m_borrowerOf h w (by omega) (by omega) ?_ | with_reducible refine ih _ _ (by omega) (by omega) ?_ | with_reducible apply k)) <;> ((repeat' split at *) <;> omega)
theorem m_sides_L (h : cM V n s) (w : zwf n s) {p : Int} (hp : 0 ≤ p ∧ p < 6) : ∀ (m : Nat) (a i : Int), 0 ≤ i → i + m = 2 * n → (∀ r, r = a + sumI (gSi s p) m i → Q r V) → m12_sidesOf_L4 Q (m + 1) p a i V
  | 0, a, i, hi, hm, k => by
    have hn := wn w
    have en := m_n h
    have e := sumI_0 (gSi s p) i
    unfold m12_sidesOf_L4
    (repeat' (first | omega | with_reducible apply And.intro | intro _ | with_reducible refine m_isStruck h w (by omega) ?_ | with_reducible refine m_onSide h w (by omega) (by omega) ?_ | with_reducible apply k))
  | m + 1, a, i, hi, hm, k => by
    have hn := wn w
    have en := m_n h
    have e := sumI_s (gSi s p) m i
    have ed : 2 * (i / 2) + i % 2 = i := by omega
    have eg : gSi s p i = if s 5 (i / 2) = 0 ∧ onS s (2 * (i / 2) + i % 2) = p then 1 else 0 := by rw [ed]; rfl
    have ih := fun a i b c d => m_sides_L h w hp m a i b c d
    clear m_sides_L
    unfold m12_sidesOf_L4
    (repeat' (first | omega | with_reducible apply And.intro | intro _ | with_reducible refine m_isStruck h w (by omega) ?_ | with_reducible refine m_onSide h w (by omega) (by omega) ?_ | with_reducible refine ih _ _ (by omega) (by omega) ?_ | with_reducible apply k)) <;> ((repeat' split at *) <;> omega)
theorem m_feudsOf_L (h : cM V n s) (w : zwf n s) {a1 b1 : Int} (ha : 0 ≤ a1 ∧ a1 < 6) (hb : 0 ≤ b1 ∧ b1 < 6) : ∀ (m : Nat) (a i : Int), 0 ≤ i → i + m = n → (∀ r, r = a + sumI (gBo s a1 b1) m i → Q r V) → m12_feudsOf_L5 Q (m + 1) a1 b1 a i V
  | 0, a, i, hi, hm, k => by
    have hn := wn w
    have en := m_n h
    have e := sumI_0 (gBo s a1 b1) i
    unfold m12_feudsOf_L5
    (repeat' (first | omega | with_reducible apply And.intro | intro _ | with_reducible refine m_areOn h w (by omega) (by omega) (by omega) ?_ | with_reducible apply k))
  | m + 1, a, i, hi, hm, k => by
    have hn := wn w
    have en := m_n h
    have e := sumI_s (gBo s a1 b1) m i
    have eg : gBo s a1 b1 i = bothS s i a1 b1 := rfl
    have ih := fun a i b c d => m_feudsOf_L h w ha hb m a i b c d
    clear m_feudsOf_L
    unfold m12_feudsOf_L5
    (repeat' (first | omega | with_reducible apply And.intro | intro _ | with_reducible refine m_areOn h w (by omega) (by omega) (by omega) ?_ | with_reducible refine ih _ _ (by omega) (by omega) ?_ | with_reducible apply k)) <;> omega
theorem x_feudsShared_L (h : cX S V o n s) (w : zwf n s) {a1 b1 : Int} (ha : 0 ≤ a1 ∧ a1 < 6) (hb : 0 ≤ b1 ∧ b1 < 6) : ∀ (m : Nat) (a i : Int), 0 ≤ i → i + m = n → (∀ r, r = a + sumI (gBo s a1 b1) m i → Q r V) → m4_feudsShared_L5 S o Q (m + 1) a1 b1 a i V
  | 0, a, i, hi, hm, k => by
    have hn := wn w
    have en := x_n h
    have e := sumI_0 (gBo s a1 b1) i
    unfold m4_feudsShared_L5
    (repeat' (first | omega | with_reducible apply And.intro | intro _ | with_reducible refine x_both h w (by omega) (by omega) (by omega) ?_ | with_reducible apply k))
  | m + 1, a, i, hi, hm, k => by
    have hn := wn w
    have en := x_n h
    have e := sumI_s (gBo s a1 b1) m i
    have eg : gBo s a1 b1 i = bothS s i a1 b1 := rfl
    have ih := fun a i b c d => x_feudsShared_L h w ha hb m a i b c d
    clear x_feudsShared_L
    unfold m4_feudsShared_L5
    (repeat' (first | omega | with_reducible apply And.intro | intro _ | with_reducible refine x_both h w (by omega) (by omega) (by omega) ?_ | with_reducible refine ih _ _ (by omega) (by omega) ?_ | with_reducible apply k)) <;> omega
theorem x_times_L (h : cX S V o n s) : ∀ (m : Nat) (a i : Int), 0 ≤ i → i + m = 16 → (∀ r, r = a + sumI (gUn s) m i → Q r V) → m11_times_L5 S (o + 5) 16 Q (m + 1) 16 (-1) a i V
  | 0, a, i, hi, hm, k => by
    have e := sumI_0 (gUn s) i
    unfold m11_times_L5
    (repeat' (first | omega | with_reducible apply And.intro | intro _ | with_reducible apply k))
  | m + 1, a, i, hi, hm, k => by
    have e := sumI_s (gUn s) m i
    have e4 := x_4 h (j := i) (by omega) (by omega)
    have eg : gUn s i = if s 4 i = -1 then 1 else 0 := rfl
    have ih := fun a i b c d => x_times_L h m a i b c d
    clear x_times_L
    unfold m11_times_L5
    (repeat' (first | omega | with_reducible apply And.intro | intro _ | with_reducible refine ih _ _ (by omega) (by omega) ?_ | with_reducible apply k)) <;> ((repeat' split at *) <;> omega)
end SUMS
