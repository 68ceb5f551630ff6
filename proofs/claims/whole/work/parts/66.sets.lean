/-! ===== sets of people as numbers below 64 ===== -/
def leN (X : Nat) : Nat := if X.testBit 0 then 0 else if X.testBit 1 then 1 else if X.testBit 2 then 2 else if X.testBit 3 then 3 else if X.testBit 4 then 4 else 5
def rmN (X b : Nat) : Nat := if X.testBit b then X - 2 ^ b else X
def btN (X b : Nat) : Nat := if X.testBit b then 1 else 0
def ctN (X : Nat) : Nat := btN X 0 + btN X 1 + btN X 2 + btN X 3 + btN X 4 + btN X 5
theorem st_a : ∀ x : Fin 64, ∀ b : Fin 6, (x.val.testBit b.val = true → zand (zshr (x.val : Int) (b.val : Int)) 1 = 1 ∧ rmN x.val b.val < x.val ∧ ctN (rmN x.val b.val) + 1 = ctN x.val ∧ leN x.val ≤ b.val ∧ (b.val ≠ leN x.val → leN (rmN x.val b.val) = leN x.val)) ∧ (x.val.testBit b.val = false → zand (zshr (x.val : Int) (b.val : Int)) 1 = 0) ∧ zand (x.val : Int) (zxor (zshl 1 (b.val : Int)) (-1)) = ((rmN x.val b.val : Nat) : Int) := by decide +kernel
theorem st_b : ∀ x : Fin 64, ∀ b c : Fin 6, (rmN x.val b.val).testBit c.val = (x.val.testBit c.val && !(b.val == c.val)) ∧ rmN (rmN x.val b.val) c.val = rmN (rmN x.val c.val) b.val := by decide +kernel
theorem st_c : ∀ x : Fin 64, 0 < x.val → leN x.val < 6 ∧ x.val.testBit (leN x.val) = true ∧ ctN x.val ≤ 6 := by decide +kernel
section SETS
variable {X b c : Nat}
theorem sb1 (hX : X < 64) (hb : b < 6) (h : X.testBit b = true) : zand (zshr (X : Int) (b : Int)) 1 = 1 := ((st_a ⟨X, hX⟩ ⟨b, hb⟩).1 h).1
theorem sb0 (hX : X < 64) (hb : b < 6) (h : X.testBit b = false) : zand (zshr (X : Int) (b : Int)) 1 = 0 := (st_a ⟨X, hX⟩ ⟨b, hb⟩).2.1 h
theorem s_rm (hX : X < 64) (hb : b < 6) : zand (X : Int) (zxor (zshl 1 (b : Int)) (-1)) = ((rmN X b : Nat) : Int) := (st_a ⟨X, hX⟩ ⟨b, hb⟩).2.2
theorem s_lt (hX : X < 64) (hb : b < 6) (h : X.testBit b = true) : rmN X b < X := ((st_a ⟨X, hX⟩ ⟨b, hb⟩).1 h).2.1
theorem s_ct (hX : X < 64) (hb : b < 6) (h : X.testBit b = true) : ctN (rmN X b) + 1 = ctN X := ((st_a ⟨X, hX⟩ ⟨b, hb⟩).1 h).2.2.1
theorem s_le (hX : X < 64) (hb : b < 6) (h : X.testBit b = true) : leN X ≤ b := ((st_a ⟨X, hX⟩ ⟨b, hb⟩).1 h).2.2.2.1
theorem s_lr (hX : X < 64) (hb : b < 6) (h : X.testBit b = true) (n : b ≠ leN X) : leN (rmN X b) = leN X := ((st_a ⟨X, hX⟩ ⟨b, hb⟩).1 h).2.2.2.2 n
theorem s_tb (hX : X < 64) (hb : b < 6) (hc : c < 6) (h : (rmN X b).testBit c = true) : X.testBit c = true ∧ b ≠ c := by
  have e := (st_b ⟨X, hX⟩ ⟨b, hb⟩ ⟨c, hc⟩).1
  simp only at e
  rw [e] at h
  simpa using h
theorem s_bt (hX : X < 64) (hb : b < 6) (hc : c < 6) (h : X.testBit c = true) (n : b ≠ c) : (rmN X b).testBit c = true := by
  have e := (st_b ⟨X, hX⟩ ⟨b, hb⟩ ⟨c, hc⟩).1
  simp only at e
  rw [e]
  simp [h, n]
theorem s_cm (hX : X < 64) (hb : b < 6) (hc : c < 6) : rmN (rmN X b) c = rmN (rmN X c) b := (st_b ⟨X, hX⟩ ⟨b, hb⟩ ⟨c, hc⟩).2
theorem s_l6 (hX : X < 64) (h : 0 < X) : leN X < 6 := (st_c ⟨X, hX⟩ h).1
theorem s_lb (hX : X < 64) (h : 0 < X) : X.testBit (leN X) = true := (st_c ⟨X, hX⟩ h).2.1
theorem s_c6 (hX : X < 64) (h : 0 < X) : ctN X ≤ 6 := (st_c ⟨X, hX⟩ h).2.2
/-- who is in a set less its first, comes behind him -/
theorem s_gt (hX : X < 64) (h : 0 < X) (hc : c < 6) (q : (rmN X (leN X)).testBit c = true) : leN X < c := by
  have a := s_tb hX (s_l6 hX h) hc q
  have b := s_le hX hc a.1
  omega
end SETS
/-! ===== best pairs, as a table keeps them ===== -/
def acP (T : Nat → Int) (g : Nat → Nat → Int) (ok : Nat → Nat → Prop) (l R b : Nat) (a : Int) : Prop := T R ≤ a ∧ (∀ c, c < b → R.testBit c = true → ok l c → T (rmN R c) + g l c ≤ a) ∧ (a = T R ∨ ∃ c, c < b ∧ R.testBit c = true ∧ ok l c ∧ a = T (rmN R c) + g l c)
def tbP (T : Nat → Int) (g : Nat → Nat → Int) (ok : Nat → Nat → Prop) (m : Nat) : Prop := T 0 = 0 ∧ (∀ X, X < m → 0 ≤ T X ∧ T X ≤ 800 * (X : Int)) ∧ ∀ X, 0 < X → X < m → acP T g ok (leN X) (rmN X (leN X)) 6 (T X)
section TABLES
variable {T U : Nat → Int} {g g' : Nat → Nat → Int} {ok : Nat → Nat → Prop} {l R b m X : Nat} {a : Int}
theorem acP_n (h : acP T g ok l R b a) (n : R.testBit b = true → ok l b → False) : acP T g ok l R (b + 1) a := by
  obtain ⟨h1, h2, h3⟩ := h
  refine ⟨h1, fun c hc x y => ?_, ?_⟩
  · by_cases e : c = b
    · subst e
      exact (n x y).elim
    · exact h2 c (by omega) x y
  · rcases h3 with h3 | ⟨c, x, y⟩
    · exact Or.inl h3
    · exact Or.inr ⟨c, by omega, y⟩
theorem acP_y (h : acP T g ok l R b a) (x : R.testBit b = true) (y : ok l b) {v : Int} (hv : v = T (rmN R b) + g l b) {a' : Int} (ha : (a < v ∧ a' = v) ∨ (v ≤ a ∧ a' = a)) : acP T g ok l R (b + 1) a' := by
  obtain ⟨h1, h2, h3⟩ := h
  refine ⟨by omega, fun c hc x y => ?_, ?_⟩
  · by_cases e : c = b
    · subst e
      omega
    · have := h2 c (by omega) x y
      omega
  · rcases ha with ha | ha
    · exact Or.inr ⟨b, by omega, x, y, by omega⟩
    · rcases h3 with h3 | ⟨c, p, q, r, t⟩
      · exact Or.inl (by omega)
      · exact Or.inr ⟨c, by omega, q, r, by omega⟩
theorem acP_0 (hX : X < 64) (h : 0 < X) : acP T g ok (leN X) (rmN X (leN X)) (leN X + 1) (T (rmN X (leN X))) := by
  refine ⟨Int.le_refl _, fun c hc x _ => ?_, Or.inl rfl⟩
  have := s_gt hX h (by have := s_l6 hX h; omega) x
  omega
theorem acP_x (hX : X < 64) (h : 0 < X) (e : ∀ Y, Y < X → U Y = T Y) (q : acP T g ok (leN X) (rmN X (leN X)) b a) (hb : b ≤ 6) : acP U g ok (leN X) (rmN X (leN X)) b a := by
  have l1 := s_lt hX (s_l6 hX h) (s_lb hX h)
  have l2 : ∀ c, c < b → (rmN X (leN X)).testBit c = true → U (rmN (rmN X (leN X)) c) = T (rmN (rmN X (leN X)) c) := fun c hc x => by
    have := s_lt (X := rmN X (leN X)) (b := c) (by omega) (by omega) x
    exact e _ (by omega)
  obtain ⟨h1, h2, h3⟩ := q
  refine ⟨by rw [e _ l1]; exact h1, fun c hc x y => ?_, ?_⟩
  · rw [l2 c hc x]
    exact h2 c hc x y
  · rcases h3 with h3 | ⟨c, p, x, r, t⟩
    · exact Or.inl (by rw [e _ l1]; exact h3)
    · exact Or.inr ⟨c, p, x, r, by rw [l2 c p x]; exact t⟩
/-- one more row of the table -/
theorem tbP_s (h : tbP T g ok X) (hX : X < 64) (h0 : 0 < X) (e : ∀ Y, Y < X → U Y = T Y) (q : acP T g ok (leN X) (rmN X (leN X)) 6 (U X)) (r : 0 ≤ U X ∧ U X ≤ 800 * (X : Int)) : tbP U g ok (X + 1) := by
  obtain ⟨h1, h2, h3⟩ := h
  refine ⟨(e 0 h0).trans h1, fun Y hY => ?_, fun Y y0 hY => ?_⟩
  · by_cases z : Y = X
    · subst z
      exact r
    · rw [e Y (by omega)]
      exact h2 Y (by omega)
  · by_cases z : Y = X
    · subst z
      exact acP_x hX h0 e q (by omega)
    · rw [e Y (by omega)]
      exact acP_x (by omega) y0 (fun Z hZ => e Z (by omega)) (h3 Y y0 (by omega)) (by omega)
theorem tbP_e (h : tbP T g ok m) (h0 : 0 < m) (e : ∀ Y, Y < m → U Y = T Y) (hm : m ≤ 64) : tbP U g ok m := by
  obtain ⟨h1, h2, h3⟩ := h
  refine ⟨(e 0 h0).trans h1, fun Y hY => ?_, fun Y y0 hY => ?_⟩
  · rw [e Y hY]
    exact h2 Y hY
  · rw [e Y hY]
    exact acP_x (by omega) y0 (fun Z hZ => e Z (by omega)) (h3 Y y0 hY) (by omega)
theorem tbP_u (h : tbP T g ok 64) (k : tbP U g ok 64) : ∀ m, ∀ X, X < m → X < 64 → T X = U X
  | 0, X, a, _ => absurd a (by omega)
  | m + 1, X, a, hX => by
    have ih := tbP_u h k m
    clear tbP_u
    by_cases z : X = 0
    · subst z
      rw [h.1, k.1]
    · have h0 : 0 < X := by omega
      have p := h.2.2 X h0 hX
      have q := k.2.2 X h0 hX
      have p' := acP_x hX h0 (fun Y hY => (ih Y (by omega) (by omega)).symm) p (by omega)
      obtain ⟨p1, p2, p3⟩ := p'
      obtain ⟨q1, q2, q3⟩ := q
      have a1 : T X ≤ U X := by
        rcases p3 with p3 | ⟨c, x, y, z, t⟩
        · omega
        · have := q2 c x y z
          omega
      have a2 : U X ≤ T X := by
        rcases q3 with q3 | ⟨c, x, y, z, t⟩
        · omega
        · have := p2 c x y z
          omega
      omega
/-- a larger set has no less -/
theorem tbP_m (h : tbP T g (fun _ _ => True) 64) : ∀ m, ∀ X, X < m → X < 64 → ∀ b, b < 6 → X.testBit b = true → T (rmN X b) ≤ T X
  | 0, X, a, _, _, _, _ => absurd a (by omega)
  | m + 1, X, a, hX, b, hb, hbt => by
    have ih := tbP_m h m
    clear tbP_m
    have h0 : 0 < X := by
      have := s_lt hX hb hbt
      omega
    have l6 := s_l6 hX h0
    have lb := s_lb hX h0
    have p := h.2.2 X h0 hX
    obtain ⟨p1, p2, p3⟩ := p
    by_cases z : b = leN X
    · subst z
      exact p1
    · have lr := s_lr hX hb hbt z
      have r1 := s_lt hX hb hbt
      have hl := s_bt hX hb l6 lb z
      have h0' : 0 < rmN X b := by
        have := s_lt (X := rmN X b) (by omega) l6 hl
        omega
      have q := h.2.2 (rmN X b) h0' (by omega)
      rw [lr] at q
      obtain ⟨q1, q2, q3⟩ := q
      have cm := s_cm (c := leN X) hX hb l6
      have rl := s_lt hX l6 lb
      rcases q3 with q3 | ⟨c, x, y, _, t⟩
      · rw [cm] at q3
        have := ih (rmN X (leN X)) (by omega) (by omega) b hb (s_bt hX l6 hb hbt (by omega))
        omega
      · rw [cm] at y t
        have y1 := s_tb (X := rmN X (leN X)) (b := b) (c := c) (by omega) hb (by omega) y
        have y2 := s_lt (X := rmN X (leN X)) (b := c) (by omega) (by omega) y1.1
        rw [s_cm (X := rmN X (leN X)) (b := b) (c := c) (by omega) hb (by omega)] at t
        have y3 := s_bt (X := rmN X (leN X)) (b := c) (c := b) (by omega) (by omega) hb (s_bt hX l6 hb hbt (by omega)) (by omega)
        have y4 := ih (rmN (rmN X (leN X)) c) (by omega) (by omega) b hb y3
        have y5 := p2 c x y1.1 trivial
        omega
/-- both tables tell the same two numbers -/
theorem tb_both {sh : Nat → Nat → Int} (hs : ∀ a b, 0 ≤ sh a b ∧ sh a b ≤ 8) (h : tbP T g (fun _ _ => True) 64) (k : tbP U (fun a b => 100 * sh a b - 1) ok 64) (g1 : ∀ a b, ok a b → g a b = 4 * sh a b - 1) (g0 : ∀ a b, ¬ ok a b → g a b = -1) : ∀ m, ∀ X, X < m → X < 64 → ∃ st p : Int, T X = 4 * st - p ∧ U X = 100 * st - p ∧ 0 ≤ p ∧ 2 * p ≤ (ctN X : Int) ∧ 0 ≤ st ∧ st ≤ 4 * (ctN X : Int)
  | 0, X, a, _ => absurd a (by omega)
  | m + 1, X, a, hX => by
    have ih := tb_both hs h k g1 g0 m
    clear tb_both
    by_cases z : X = 0
    · subst z
      exact ⟨0, 0, by rw [h.1]; omega, by rw [k.1]; omega, by omega, by omega, by omega, by omega⟩
    · have h0 : 0 < X := by omega
      have l6 := s_l6 hX h0
      have lb := s_lb hX h0
      have rl := s_lt hX l6 lb
      have rc := s_ct hX l6 lb
      have c6 := s_c6 hX h0
      obtain ⟨p1, p2, p3⟩ := h.2.2 X h0 hX
      obtain ⟨q1, q2, q3⟩ := k.2.2 X h0 hX
      dsimp only at q2 q3
      obtain ⟨s0, p0, i1, i2, i3, i4, i5, i6⟩ := ih (rmN X (leN X)) (by omega) (by omega)
      have each : ∀ c, c < 6 → (rmN X (leN X)).testBit c = true → ok (leN X) c → ∃ st p : Int, T (rmN (rmN X (leN X)) c) + g (leN X) c = 4 * st - p ∧ U (rmN (rmN X (leN X)) c) + (100 * sh (leN X) c - 1) = 100 * st - p ∧ 0 ≤ p ∧ 2 * p ≤ (ctN X : Int) ∧ 0 ≤ st ∧ st ≤ 4 * (ctN X : Int) := by
        intro c hc y o
        have y1 := s_lt (X := rmN X (leN X)) (b := c) (by omega) hc y
        have y2 := s_ct (X := rmN X (leN X)) (b := c) (by omega) hc y
        obtain ⟨st, p, j1, j2, j3, j4, j5, j6⟩ := ih (rmN (rmN X (leN X)) c) (by omega) (by omega)
        have e := g1 _ _ o
        have := hs (leN X) c
        exact ⟨st + sh (leN X) c, p + 1, by omega, by omega, by omega, by omega, by omega, by omega⟩
      have fin : ∀ st p : Int, T X = 4 * st - p → 100 * st - p ≤ U X → 0 ≤ p → 2 * p ≤ (ctN X : Int) → 0 ≤ st → st ≤ 4 * (ctN X : Int) → ∃ st p : Int, T X = 4 * st - p ∧ U X = 100 * st - p ∧ 0 ≤ p ∧ 2 * p ≤ (ctN X : Int) ∧ 0 ≤ st ∧ st ≤ 4 * (ctN X : Int) := by
        intro st p e1 e2 e3 e4 e5 e6
        refine ⟨st, p, e1, ?_, e3, e4, e5, e6⟩
        rcases q3 with q3 | ⟨c, x, y, o, t⟩
        · omega
        · obtain ⟨st', p', j1, j2, j3, j4, j5, j6⟩ := each c x y o
          have := p2 c x y trivial
          omega
      rcases p3 with p3 | ⟨c, x, y, _, t⟩
      · exact fin s0 p0 (by omega) (by omega) (by omega) (by omega) (by omega) (by omega)
      · by_cases o : ok (leN X) c
        · obtain ⟨st', p', j1, j2, j3, j4, j5, j6⟩ := each c x y o
          have := q2 c x y o
          exact fin st' p' (by omega) (by omega) (by omega) (by omega) (by omega) (by omega)
        · have e := g0 _ _ o
          have mo := tbP_m h 64 (rmN X (leN X)) (by omega) (by omega) c x y
          omega
end TABLES
