/-! ===== what both sides mean: one isle, as numbers ===== -/
abbrev zS := Nat → Int → Int
def iset (s : zS) (r : Nat) (j x : Int) : zS := fun r' j' => if r' = r ∧ j' = j then x else s r' j'
theorem vset_at {V : zV} {c k c' k' : Nat} {x : Int} : vset V c k x c' k' = if c' = c ∧ k' = k then x else V c' k' := by
  show vrow V c (ups (V c) k x) c' k' = _
  unfold vrow
  by_cases h : c' = c
  · subst h
    rw [if_pos rfl]
    unfold ups
    by_cases h2 : k' = k
    · rw [if_pos h2, if_pos ⟨rfl, h2⟩]
    · rw [if_neg h2, if_neg (fun q => h2 q.2)]
  · rw [if_neg h, if_neg (fun q => h q.1)]
theorem vset_same {V : zV} {c k : Nat} {x : Int} : vset V c k x c k = x := by rw [vset_at, if_pos ⟨rfl, rfl⟩]
theorem vset_cell {V : zV} {c k c' k' : Nat} {x : Int} (h : c' ≠ c) : vset V c k x c' k' = V c' k' := by rw [vset_at, if_neg (fun q => h q.1)]
theorem vset_place {V : zV} {c k c' k' : Nat} {x : Int} (h : k' ≠ k) : vset V c k x c' k' = V c' k' := by rw [vset_at, if_neg (fun q => h q.2)]
/-- what an isle keeps to -/
def zwf (n : Int) (s : zS) : Prop := (0 ≤ n ∧ n ≤ 8) ∧ (∀ p, 0 ≤ p → p < 6 → 0 ≤ s 0 p ∧ s 0 p ≤ 99) ∧ (∀ p, 0 ≤ p → p < 6 → -1 ≤ s 1 p ∧ s 1 p ≤ 5) ∧ (∀ p, 0 ≤ p → p < 6 → s 2 p = 0 ∨ s 2 p = 1) ∧ (∀ j, 0 ≤ j → j < 16 → -1 ≤ s 3 j ∧ s 3 j ≤ 5) ∧ (∀ j, 0 ≤ j → j < 16 → -1 ≤ s 4 j ∧ s 4 j ≤ 5) ∧ (∀ f, 0 ≤ f → f < 8 → s 5 f = 0 ∨ s 5 f = 1) ∧ (∀ f, 0 ≤ f → f < n → (0 ≤ s 6 f ∧ s 6 f ≤ 4) ∧ 1 ≤ s 7 f ∧ s 7 f ≤ 9) ∧ (∀ j, 0 ≤ j → j < 2 * n → s 5 (j / 2) = 1 → s 3 j = -1 ∧ s 4 j = -1) ∧ (∀ j, 2 * n ≤ j → j < 16 → s 3 j = -1 ∧ s 4 j = -1) ∧ (∀ f, n ≤ f → f < 8 → s 5 f = 0)
section ZWF
variable {n : Int} {s : zS}
theorem wn (w : zwf n s) : 0 ≤ n ∧ n ≤ 8 := w.1
theorem w0 (w : zwf n s) {p : Int} (a : 0 ≤ p) (b : p < 6) : 0 ≤ s 0 p ∧ s 0 p ≤ 99 := w.2.1 p a b
theorem w1 (w : zwf n s) {p : Int} (a : 0 ≤ p) (b : p < 6) : -1 ≤ s 1 p ∧ s 1 p ≤ 5 := w.2.2.1 p a b
theorem w2 (w : zwf n s) {p : Int} (a : 0 ≤ p) (b : p < 6) : s 2 p = 0 ∨ s 2 p = 1 := w.2.2.2.1 p a b
theorem w3 (w : zwf n s) {j : Int} (a : 0 ≤ j) (b : j < 16) : -1 ≤ s 3 j ∧ s 3 j ≤ 5 := w.2.2.2.2.1 j a b
theorem w4 (w : zwf n s) {j : Int} (a : 0 ≤ j) (b : j < 16) : -1 ≤ s 4 j ∧ s 4 j ≤ 5 := w.2.2.2.2.2.1 j a b
theorem w5 (w : zwf n s) {f : Int} (a : 0 ≤ f) (b : f < 8) : s 5 f = 0 ∨ s 5 f = 1 := w.2.2.2.2.2.2.1 f a b
theorem w67 (w : zwf n s) {f : Int} (a : 0 ≤ f) (b : f < n) : (0 ≤ s 6 f ∧ s 6 f ≤ 4) ∧ 1 ≤ s 7 f ∧ s 7 f ≤ 9 := w.2.2.2.2.2.2.2.1 f a b
theorem wst (w : zwf n s) {j : Int} (a : 0 ≤ j) (b : j < 2 * n) (c : s 5 (j / 2) = 1) : s 3 j = -1 ∧ s 4 j = -1 := w.2.2.2.2.2.2.2.2.1 j a b c
theorem wst2 (w : zwf n s) {f t : Int} (a : 0 ≤ f) (b : f < n) (c : 0 ≤ t ∧ t ≤ 1) (d : s 5 f = 1) : s 3 (2 * f + t) = -1 ∧ s 4 (2 * f + t) = -1 := by
  refine wst w (by omega) (by omega) ?_
  rw [show (2 * f + t) / 2 = f from by omega]
  exact d
theorem wou (w : zwf n s) {j : Int} (a : 2 * n ≤ j) (b : j < 16) : s 3 j = -1 ∧ s 4 j = -1 := w.2.2.2.2.2.2.2.2.2.1 j a b
theorem wou5 (w : zwf n s) {f : Int} (a : n ≤ f) (b : f < 8) : s 5 f = 0 := w.2.2.2.2.2.2.2.2.2.2 f a b
end ZWF
/-- the class's isle at o is this isle -/
def cX (S : List zC) (V : zV) (o : Nat) (n : Int) (s : zS) : Prop := V 3 2 = n ∧ (∀ f : Int, 0 ≤ f → f < n → kdS S f.toNat = s 6 f ∧ wtS S f.toNat = s 7 f) ∧ (∀ p : Int, 0 ≤ p → p < 6 → V (o + 1) p.toNat = s 0 p ∧ V (o + 2) p.toNat = s 1 p ∧ V (o + 3) p.toNat = s 2 p) ∧ (∀ j : Int, 0 ≤ j → j < 16 → V (o + 4) j.toNat = s 3 j ∧ V (o + 5) j.toNat = s 4 j) ∧ (∀ f : Int, 0 ≤ f → f < 8 → V (o + 6) f.toNat = s 5 f)
/-- the plain model's rows are this isle -/
def cM (V : zV) (n : Int) (s : zS) : Prop := V 53 5 = n ∧ (∀ p : Int, 0 ≤ p → p < 6 → V 57 (3 * p).toNat = s 0 p ∧ V 57 (3 * p + 1).toNat = s 1 p ∧ V 57 (3 * p + 2).toNat = s 2 p) ∧ (∀ f : Int, 0 ≤ f → f < n → V 56 (7 * f).toNat = s 6 f ∧ V 56 (7 * f + 1).toNat = s 7 f ∧ V 56 (7 * f + 2).toNat = s 5 f) ∧ (∀ f t : Int, 0 ≤ f → f < n → 0 ≤ t → t ≤ 1 → V 56 (7 * f + 3 + t).toNat = s 3 (2 * f + t) ∧ V 56 (7 * f + 5 + t).toNat = s 4 (2 * f + t))
section CXM
variable {S : List zC} {V : zV} {o : Nat} {n : Int} {s : zS}
theorem x_n (h : cX S V o n s) : V 3 2 = n := h.1
theorem x_6 (h : cX S V o n s) {f : Int} (a : 0 ≤ f) (b : f < n) : kdS S f.toNat = s 6 f := (h.2.1 f a b).1
theorem x_7 (h : cX S V o n s) {f : Int} (a : 0 ≤ f) (b : f < n) : wtS S f.toNat = s 7 f := (h.2.1 f a b).2
theorem x_0 (h : cX S V o n s) {p : Int} (a : 0 ≤ p) (b : p < 6) : V (o + 1) p.toNat = s 0 p := (h.2.2.1 p a b).1
theorem x_1 (h : cX S V o n s) {p : Int} (a : 0 ≤ p) (b : p < 6) : V (o + 2) p.toNat = s 1 p := (h.2.2.1 p a b).2.1
theorem x_2 (h : cX S V o n s) {p : Int} (a : 0 ≤ p) (b : p < 6) : V (o + 3) p.toNat = s 2 p := (h.2.2.1 p a b).2.2
theorem x_3 (h : cX S V o n s) {j : Int} (a : 0 ≤ j) (b : j < 16) : V (o + 4) j.toNat = s 3 j := (h.2.2.2.1 j a b).1
theorem x_4 (h : cX S V o n s) {j : Int} (a : 0 ≤ j) (b : j < 16) : V (o + 5) j.toNat = s 4 j := (h.2.2.2.1 j a b).2
theorem x_5 (h : cX S V o n s) {f : Int} (a : 0 ≤ f) (b : f < 8) : V (o + 6) f.toNat = s 5 f := h.2.2.2.2 f a b
theorem m_n (h : cM V n s) : V 53 5 = n := h.1
theorem m_0 (h : cM V n s) {p : Int} (a : 0 ≤ p) (b : p < 6) : V 57 (3 * p).toNat = s 0 p := (h.2.1 p a b).1
theorem m_1 (h : cM V n s) {p : Int} (a : 0 ≤ p) (b : p < 6) : V 57 (3 * p + 1).toNat = s 1 p := (h.2.1 p a b).2.1
theorem m_2 (h : cM V n s) {p : Int} (a : 0 ≤ p) (b : p < 6) : V 57 (3 * p + 2).toNat = s 2 p := (h.2.1 p a b).2.2
theorem m_6 (h : cM V n s) {f : Int} (a : 0 ≤ f) (b : f < n) : V 56 (7 * f).toNat = s 6 f := (h.2.2.1 f a b).1
theorem m_7 (h : cM V n s) {f : Int} (a : 0 ≤ f) (b : f < n) : V 56 (7 * f + 1).toNat = s 7 f := (h.2.2.1 f a b).2.1
theorem m_5 (h : cM V n s) {f : Int} (a : 0 ≤ f) (b : f < n) : V 56 (7 * f + 2).toNat = s 5 f := (h.2.2.1 f a b).2.2
theorem m_3 (h : cM V n s) {f t : Int} (a : 0 ≤ f) (b : f < n) (c : 0 ≤ t ∧ t ≤ 1) : V 56 (7 * f + 3 + t).toNat = s 3 (2 * f + t) := (h.2.2.2 f t a b c.1 c.2).1
theorem m_4 (h : cM V n s) {f t : Int} (a : 0 ≤ f) (b : f < n) (c : 0 ≤ t ∧ t ≤ 1) : V 56 (7 * f + 5 + t).toNat = s 4 (2 * f + t) := (h.2.2.2 f t a b c.1 c.2).2
/-! writing -/
theorem x_put0 (h : cX S V o n s) {p x : Int} (a : 0 ≤ p) (b : p < 6) (ho : 14 ≤ o) : cX S (vset V (o + 1) p.toNat x) o n (iset s 0 p x) := by
  refine ⟨?_, fun f a b => ?_, fun q a b => ?_, fun q a b => ?_, fun q a b => ?_⟩
  · rw [vset_cell (by omega)]; exact x_n h
  · exact ⟨x_6 h a b, x_7 h a b⟩
  · refine ⟨?_, ?_, ?_⟩
    · rw [vset_at]
      unfold iset
      by_cases e : q = p
      · subst e
        rw [if_pos ⟨rfl, rfl⟩, if_pos ⟨rfl, rfl⟩]
      · rw [if_neg (by omega), if_neg (fun z => e z.2)]
        exact x_0 h a b
    · rw [vset_cell (by omega)]; exact x_1 h a b
    · rw [vset_cell (by omega)]; exact x_2 h a b
  · refine ⟨?_, ?_⟩
    · rw [vset_cell (by omega)]; exact x_3 h a b
    · rw [vset_cell (by omega)]; exact x_4 h a b
  · rw [vset_cell (by omega)]; exact x_5 h a b
end CXM
