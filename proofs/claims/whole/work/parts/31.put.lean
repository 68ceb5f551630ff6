/-! ===== updates of an isle, on both sides ===== -/
theorem iset_at {s : zS} {r r' : Nat} {j j' x : Int} : iset s r j x r' j' = if r' = r ∧ j' = j then x else s r' j' := rfl
theorem iset_row {s : zS} {r r' : Nat} {j j' x : Int} (h : r' ≠ r) : iset s r j x r' j' = s r' j' := if_neg (fun q => h q.1)
theorem iset_same {s : zS} {r : Nat} {j x : Int} : iset s r j x r j = x := if_pos ⟨rfl, rfl⟩
theorem iset_oth {s : zS} {r r' : Nat} {j j' x : Int} (h : j' ≠ j) : iset s r j x r' j' = s r' j' := if_neg (fun q => h q.2)
section PUT
variable {S : List zC} {V : zV} {o : Nat} {n : Int} {s : zS}
theorem x_puts0 (h : cX S V o n s) {p x : Int} (a0 : 0 ≤ p) (b0 : p < 6) (ho : 14 ≤ o) : cX S (vset V (o + 1) p.toNat x) o n (iset s 0 p x) := by
  refine ⟨?_, fun f a b => ?_, fun q a b => ?_, fun q a b => ?_, fun q a b => ?_⟩
  · rw [vset_cell (by omega)]; exact x_n h
  · rw [iset_row (by decide), iset_row (by decide)]; exact ⟨x_6 h a b, x_7 h a b⟩
  · refine ⟨?_, ?_, ?_⟩
    · rw [vset_at]
      unfold iset
      by_cases e : q = p
      · subst e
        rw [if_pos ⟨rfl, rfl⟩, if_pos ⟨rfl, rfl⟩]
      · rw [if_neg (by omega), if_neg (fun z => e z.2)]
        exact x_0 h a b
    · rw [vset_cell (by omega), iset_row (by decide)]; exact x_1 h a b
    · rw [vset_cell (by omega), iset_row (by decide)]; exact x_2 h a b
  · refine ⟨?_, ?_⟩
    · rw [vset_cell (by omega), iset_row (by decide)]; exact x_3 h a b
    · rw [vset_cell (by omega), iset_row (by decide)]; exact x_4 h a b
  · rw [vset_cell (by omega), iset_row (by decide)]; exact x_5 h a b
theorem x_puts1 (h : cX S V o n s) {p x : Int} (a0 : 0 ≤ p) (b0 : p < 6) (ho : 14 ≤ o) : cX S (vset V (o + 2) p.toNat x) o n (iset s 1 p x) := by
  refine ⟨?_, fun f a b => ?_, fun q a b => ?_, fun q a b => ?_, fun q a b => ?_⟩
  · rw [vset_cell (by omega)]; exact x_n h
  · rw [iset_row (by decide), iset_row (by decide)]; exact ⟨x_6 h a b, x_7 h a b⟩
  · refine ⟨?_, ?_, ?_⟩
    · rw [vset_cell (by omega), iset_row (by decide)]; exact x_0 h a b
    · rw [vset_at]
      unfold iset
      by_cases e : q = p
      · subst e
        rw [if_pos ⟨rfl, rfl⟩, if_pos ⟨rfl, rfl⟩]
      · rw [if_neg (by omega), if_neg (fun z => e z.2)]
        exact x_1 h a b
    · rw [vset_cell (by omega), iset_row (by decide)]; exact x_2 h a b
  · refine ⟨?_, ?_⟩
    · rw [vset_cell (by omega), iset_row (by decide)]; exact x_3 h a b
    · rw [vset_cell (by omega), iset_row (by decide)]; exact x_4 h a b
  · rw [vset_cell (by omega), iset_row (by decide)]; exact x_5 h a b
theorem x_puts2 (h : cX S V o n s) {p x : Int} (a0 : 0 ≤ p) (b0 : p < 6) (ho : 14 ≤ o) : cX S (vset V (o + 3) p.toNat x) o n (iset s 2 p x) := by
  refine ⟨?_, fun f a b => ?_, fun q a b => ?_, fun q a b => ?_, fun q a b => ?_⟩
  · rw [vset_cell (by omega)]; exact x_n h
  · rw [iset_row (by decide), iset_row (by decide)]; exact ⟨x_6 h a b, x_7 h a b⟩
  · refine ⟨?_, ?_, ?_⟩
    · rw [vset_cell (by omega), iset_row (by decide)]; exact x_0 h a b
    · rw [vset_cell (by omega), iset_row (by decide)]; exact x_1 h a b
    · rw [vset_at]
      unfold iset
      by_cases e : q = p
      · subst e
        rw [if_pos ⟨rfl, rfl⟩, if_pos ⟨rfl, rfl⟩]
      · rw [if_neg (by omega), if_neg (fun z => e z.2)]
        exact x_2 h a b
  · refine ⟨?_, ?_⟩
    · rw [vset_cell (by omega), iset_row (by decide)]; exact x_3 h a b
    · rw [vset_cell (by omega), iset_row (by decide)]; exact x_4 h a b
  · rw [vset_cell (by omega), iset_row (by decide)]; exact x_5 h a b
theorem x_puts3 (h : cX S V o n s) {p x : Int} (a0 : 0 ≤ p) (b0 : p < 16) (ho : 14 ≤ o) : cX S (vset V (o + 4) p.toNat x) o n (iset s 3 p x) := by
  refine ⟨?_, fun f a b => ?_, fun q a b => ?_, fun q a b => ?_, fun q a b => ?_⟩
  · rw [vset_cell (by omega)]; exact x_n h
  · rw [iset_row (by decide), iset_row (by decide)]; exact ⟨x_6 h a b, x_7 h a b⟩
  · refine ⟨?_, ?_, ?_⟩
    · rw [vset_cell (by omega), iset_row (by decide)]; exact x_0 h a b
    · rw [vset_cell (by omega), iset_row (by decide)]; exact x_1 h a b
    · rw [vset_cell (by omega), iset_row (by decide)]; exact x_2 h a b
  · refine ⟨?_, ?_⟩
    · rw [vset_at]
      unfold iset
      by_cases e : q = p
      · subst e
        rw [if_pos ⟨rfl, rfl⟩, if_pos ⟨rfl, rfl⟩]
      · rw [if_neg (by omega), if_neg (fun z => e z.2)]
        exact x_3 h a b
    · rw [vset_cell (by omega), iset_row (by decide)]; exact x_4 h a b
  · rw [vset_cell (by omega), iset_row (by decide)]; exact x_5 h a b
theorem x_puts4 (h : cX S V o n s) {p x : Int} (a0 : 0 ≤ p) (b0 : p < 16) (ho : 14 ≤ o) : cX S (vset V (o + 5) p.toNat x) o n (iset s 4 p x) := by
  refine ⟨?_, fun f a b => ?_, fun q a b => ?_, fun q a b => ?_, fun q a b => ?_⟩
  · rw [vset_cell (by omega)]; exact x_n h
  · rw [iset_row (by decide), iset_row (by decide)]; exact ⟨x_6 h a b, x_7 h a b⟩
  · refine ⟨?_, ?_, ?_⟩
    · rw [vset_cell (by omega), iset_row (by decide)]; exact x_0 h a b
    · rw [vset_cell (by omega), iset_row (by decide)]; exact x_1 h a b
    · rw [vset_cell (by omega), iset_row (by decide)]; exact x_2 h a b
  · refine ⟨?_, ?_⟩
    · rw [vset_cell (by omega), iset_row (by decide)]; exact x_3 h a b
    · rw [vset_at]
      unfold iset
      by_cases e : q = p
      · subst e
        rw [if_pos ⟨rfl, rfl⟩, if_pos ⟨rfl, rfl⟩]
      · rw [if_neg (by omega), if_neg (fun z => e z.2)]
        exact x_4 h a b
  · rw [vset_cell (by omega), iset_row (by decide)]; exact x_5 h a b
theorem x_puts5 (h : cX S V o n s) {p x : Int} (a0 : 0 ≤ p) (b0 : p < 8) (ho : 14 ≤ o) : cX S (vset V (o + 6) p.toNat x) o n (iset s 5 p x) := by
  refine ⟨?_, fun f a b => ?_, fun q a b => ?_, fun q a b => ?_, fun q a b => ?_⟩
  · rw [vset_cell (by omega)]; exact x_n h
  · rw [iset_row (by decide), iset_row (by decide)]; exact ⟨x_6 h a b, x_7 h a b⟩
  · refine ⟨?_, ?_, ?_⟩
    · rw [vset_cell (by omega), iset_row (by decide)]; exact x_0 h a b
    · rw [vset_cell (by omega), iset_row (by decide)]; exact x_1 h a b
    · rw [vset_cell (by omega), iset_row (by decide)]; exact x_2 h a b
  · refine ⟨?_, ?_⟩
    · rw [vset_cell (by omega), iset_row (by decide)]; exact x_3 h a b
    · rw [vset_cell (by omega), iset_row (by decide)]; exact x_4 h a b
  · rw [vset_at]
    unfold iset
    by_cases e : q = p
    · subst e
      rw [if_pos ⟨rfl, rfl⟩, if_pos ⟨rfl, rfl⟩]
    · rw [if_neg (by omega), if_neg (fun z => e z.2)]
      exact x_5 h a b
theorem m_puts0 (h : cM V n s) {p x : Int} (a0 : 0 ≤ p) (b0 : p < 6) : cM (vset V 57 (3 * p).toNat x) n (iset s 0 p x) := by
  refine ⟨?_, fun q a b => ?_, fun f a b => ?_, fun f t a b c d => ?_⟩
  · rw [vset_cell (by omega)]; exact m_n h
  · refine ⟨?_, ?_, ?_⟩
    · rw [vset_at]
      unfold iset
      by_cases e : q = p
      · subst e
        rw [if_pos ⟨rfl, rfl⟩, if_pos ⟨rfl, rfl⟩]
      · rw [if_neg (by omega), if_neg (fun z => e z.2)]
        exact m_0 h a b
    · rw [vset_place (by omega), iset_row (by decide)]; exact m_1 h a b
    · rw [vset_place (by omega), iset_row (by decide)]; exact m_2 h a b
  · refine ⟨?_, ?_, ?_⟩
    · rw [vset_cell (by omega), iset_row (by decide)]; exact m_6 h a b
    · rw [vset_cell (by omega), iset_row (by decide)]; exact m_7 h a b
    · rw [vset_cell (by omega), iset_row (by decide)]; exact m_5 h a b
  · refine ⟨?_, ?_⟩
    · rw [vset_cell (by omega), iset_row (by decide)]; exact m_3 h a b ⟨c, d⟩
    · rw [vset_cell (by omega), iset_row (by decide)]; exact m_4 h a b ⟨c, d⟩
theorem m_puts1 (h : cM V n s) {p x : Int} (a0 : 0 ≤ p) (b0 : p < 6) : cM (vset V 57 (3 * p + 1).toNat x) n (iset s 1 p x) := by
  refine ⟨?_, fun q a b => ?_, fun f a b => ?_, fun f t a b c d => ?_⟩
  · rw [vset_cell (by omega)]; exact m_n h
  · refine ⟨?_, ?_, ?_⟩
    · rw [vset_place (by omega), iset_row (by decide)]; exact m_0 h a b
    · rw [vset_at]
      unfold iset
      by_cases e : q = p
      · subst e
        rw [if_pos ⟨rfl, rfl⟩, if_pos ⟨rfl, rfl⟩]
      · rw [if_neg (by omega), if_neg (fun z => e z.2)]
        exact m_1 h a b
    · rw [vset_place (by omega), iset_row (by decide)]; exact m_2 h a b
  · refine ⟨?_, ?_, ?_⟩
    · rw [vset_cell (by omega), iset_row (by decide)]; exact m_6 h a b
    · rw [vset_cell (by omega), iset_row (by decide)]; exact m_7 h a b
    · rw [vset_cell (by omega), iset_row (by decide)]; exact m_5 h a b
  · refine ⟨?_, ?_⟩
    · rw [vset_cell (by omega), iset_row (by decide)]; exact m_3 h a b ⟨c, d⟩
    · rw [vset_cell (by omega), iset_row (by decide)]; exact m_4 h a b ⟨c, d⟩
theorem m_puts2 (h : cM V n s) {p x : Int} (a0 : 0 ≤ p) (b0 : p < 6) : cM (vset V 57 (3 * p + 2).toNat x) n (iset s 2 p x) := by
  refine ⟨?_, fun q a b => ?_, fun f a b => ?_, fun f t a b c d => ?_⟩
  · rw [vset_cell (by omega)]; exact m_n h
  · refine ⟨?_, ?_, ?_⟩
    · rw [vset_place (by omega), iset_row (by decide)]; exact m_0 h a b
    · rw [vset_place (by omega), iset_row (by decide)]; exact m_1 h a b
    · rw [vset_at]
      unfold iset
      by_cases e : q = p
      · subst e
        rw [if_pos ⟨rfl, rfl⟩, if_pos ⟨rfl, rfl⟩]
      · rw [if_neg (by omega), if_neg (fun z => e z.2)]
        exact m_2 h a b
  · refine ⟨?_, ?_, ?_⟩
    · rw [vset_cell (by omega), iset_row (by decide)]; exact m_6 h a b
    · rw [vset_cell (by omega), iset_row (by decide)]; exact m_7 h a b
    · rw [vset_cell (by omega), iset_row (by decide)]; exact m_5 h a b
  · refine ⟨?_, ?_⟩
    · rw [vset_cell (by omega), iset_row (by decide)]; exact m_3 h a b ⟨c, d⟩
    · rw [vset_cell (by omega), iset_row (by decide)]; exact m_4 h a b ⟨c, d⟩
theorem m_puts3 (h : cM V n s) {g u x : Int} (a0 : 0 ≤ g) (b0 : g < n) (c0 : 0 ≤ u ∧ u ≤ 1) : cM (vset V 56 (7 * g + 3 + u).toNat x) n (iset s 3 (2 * g + u) x) := by
  refine ⟨?_, fun q a b => ?_, fun f a b => ?_, fun f t a b c d => ?_⟩
  · rw [vset_cell (by omega)]; exact m_n h
  · refine ⟨?_, ?_, ?_⟩
    · rw [vset_cell (by omega), iset_row (by decide)]; exact m_0 h a b
    · rw [vset_cell (by omega), iset_row (by decide)]; exact m_1 h a b
    · rw [vset_cell (by omega), iset_row (by decide)]; exact m_2 h a b
  · refine ⟨?_, ?_, ?_⟩
    · rw [vset_place (by omega), iset_row (by decide)]; exact m_6 h a b
    · rw [vset_place (by omega), iset_row (by decide)]; exact m_7 h a b
    · rw [vset_place (by omega), iset_row (by decide)]; exact m_5 h a b
  · refine ⟨?_, ?_⟩
    · rw [vset_at]
      unfold iset
      by_cases e : 2 * f + t = 2 * g + u
      · rw [if_pos ⟨rfl, by omega⟩, if_pos ⟨rfl, e⟩]
      · rw [if_neg (by omega), if_neg (fun z => e z.2)]
        exact m_3 h a b ⟨c, d⟩
    · rw [vset_place (by omega), iset_row (by decide)]; exact m_4 h a b ⟨c, d⟩
theorem m_puts4 (h : cM V n s) {g u x : Int} (a0 : 0 ≤ g) (b0 : g < n) (c0 : 0 ≤ u ∧ u ≤ 1) : cM (vset V 56 (7 * g + 5 + u).toNat x) n (iset s 4 (2 * g + u) x) := by
  refine ⟨?_, fun q a b => ?_, fun f a b => ?_, fun f t a b c d => ?_⟩
  · rw [vset_cell (by omega)]; exact m_n h
  · refine ⟨?_, ?_, ?_⟩
    · rw [vset_cell (by omega), iset_row (by decide)]; exact m_0 h a b
    · rw [vset_cell (by omega), iset_row (by decide)]; exact m_1 h a b
    · rw [vset_cell (by omega), iset_row (by decide)]; exact m_2 h a b
  · refine ⟨?_, ?_, ?_⟩
    · rw [vset_place (by omega), iset_row (by decide)]; exact m_6 h a b
    · rw [vset_place (by omega), iset_row (by decide)]; exact m_7 h a b
    · rw [vset_place (by omega), iset_row (by decide)]; exact m_5 h a b
  · refine ⟨?_, ?_⟩
    · rw [vset_place (by omega), iset_row (by decide)]; exact m_3 h a b ⟨c, d⟩
    · rw [vset_at]
      unfold iset
      by_cases e : 2 * f + t = 2 * g + u
      · rw [if_pos ⟨rfl, by omega⟩, if_pos ⟨rfl, e⟩]
      · rw [if_neg (by omega), if_neg (fun z => e z.2)]
        exact m_4 h a b ⟨c, d⟩
theorem m_puts5 (h : cM V n s) {g x : Int} (a0 : 0 ≤ g) (b0 : g < n) : cM (vset V 56 (7 * g + 2).toNat x) n (iset s 5 g x) := by
  refine ⟨?_, fun q a b => ?_, fun f a b => ?_, fun f t a b c d => ?_⟩
  · rw [vset_cell (by omega)]; exact m_n h
  · refine ⟨?_, ?_, ?_⟩
    · rw [vset_cell (by omega), iset_row (by decide)]; exact m_0 h a b
    · rw [vset_cell (by omega), iset_row (by decide)]; exact m_1 h a b
    · rw [vset_cell (by omega), iset_row (by decide)]; exact m_2 h a b
  · refine ⟨?_, ?_, ?_⟩
    · rw [vset_place (by omega), iset_row (by decide)]; exact m_6 h a b
    · rw [vset_place (by omega), iset_row (by decide)]; exact m_7 h a b
    · rw [vset_at]
      unfold iset
      by_cases e : f = g
      · subst e
        rw [if_pos ⟨rfl, rfl⟩, if_pos ⟨rfl, rfl⟩]
      · rw [if_neg (by omega), if_neg (fun z => e z.2)]
        exact m_5 h a b
  · refine ⟨?_, ?_⟩
    · rw [vset_place (by omega), iset_row (by decide)]; exact m_3 h a b ⟨c, d⟩
    · rw [vset_place (by omega), iset_row (by decide)]; exact m_4 h a b ⟨c, d⟩
theorem w_puts0 (w : zwf n s) {p x : Int} (hx : 0 ≤ x ∧ x ≤ 99) : zwf n (iset s 0 p x) := by
  refine ⟨wn w, ?_, ?_, ?_, ?_, ?_, ?_, ?_, ?_, ?_, ?_⟩
  · intro q a b
    rw [iset_at]
    split
    · exact hx
    · exact w0 w a b
  · intro q a b; rw [iset_row (by decide)]; exact w1 w a b
  · intro q a b; rw [iset_row (by decide)]; exact w2 w a b
  · intro q a b; rw [iset_row (by decide)]; exact w3 w a b
  · intro q a b; rw [iset_row (by decide)]; exact w4 w a b
  · intro q a b; rw [iset_row (by decide)]; exact w5 w a b
  · intro f a b; rw [iset_row (by decide), iset_row (by decide)]; exact w67 w a b
  · intro j a b c; rw [iset_row (by decide)] at c; rw [iset_row (by decide), iset_row (by decide)]; exact wst w a b c
  · intro j a b; rw [iset_row (by decide), iset_row (by decide)]; exact wou w a b
  · intro f a b; rw [iset_row (by decide)]; exact wou5 w a b
theorem w_puts1 (w : zwf n s) {p x : Int} (hx : -1 ≤ x ∧ x ≤ 5) : zwf n (iset s 1 p x) := by
  refine ⟨wn w, ?_, ?_, ?_, ?_, ?_, ?_, ?_, ?_, ?_, ?_⟩
  · intro q a b; rw [iset_row (by decide)]; exact w0 w a b
  · intro q a b
    rw [iset_at]
    split
    · exact hx
    · exact w1 w a b
  · intro q a b; rw [iset_row (by decide)]; exact w2 w a b
  · intro q a b; rw [iset_row (by decide)]; exact w3 w a b
  · intro q a b; rw [iset_row (by decide)]; exact w4 w a b
  · intro q a b; rw [iset_row (by decide)]; exact w5 w a b
  · intro f a b; rw [iset_row (by decide), iset_row (by decide)]; exact w67 w a b
  · intro j a b c; rw [iset_row (by decide)] at c; rw [iset_row (by decide), iset_row (by decide)]; exact wst w a b c
  · intro j a b; rw [iset_row (by decide), iset_row (by decide)]; exact wou w a b
  · intro f a b; rw [iset_row (by decide)]; exact wou5 w a b
theorem w_puts2 (w : zwf n s) {p x : Int} (hx : x = 0 ∨ x = 1) : zwf n (iset s 2 p x) := by
  refine ⟨wn w, ?_, ?_, ?_, ?_, ?_, ?_, ?_, ?_, ?_, ?_⟩
  · intro q a b; rw [iset_row (by decide)]; exact w0 w a b
  · intro q a b; rw [iset_row (by decide)]; exact w1 w a b
  · intro q a b
    rw [iset_at]
    split
    · exact hx
    · exact w2 w a b
  · intro q a b; rw [iset_row (by decide)]; exact w3 w a b
  · intro q a b; rw [iset_row (by decide)]; exact w4 w a b
  · intro q a b; rw [iset_row (by decide)]; exact w5 w a b
  · intro f a b; rw [iset_row (by decide), iset_row (by decide)]; exact w67 w a b
  · intro j a b c; rw [iset_row (by decide)] at c; rw [iset_row (by decide), iset_row (by decide)]; exact wst w a b c
  · intro j a b; rw [iset_row (by decide), iset_row (by decide)]; exact wou w a b
  · intro f a b; rw [iset_row (by decide)]; exact wou5 w a b
theorem w_puts3 (w : zwf n s) {p x : Int} (a0 : 0 ≤ p) (b0 : p < 2 * n) (hx : -1 ≤ x ∧ x ≤ 5) (hz : s 5 (p / 2) = 1 → x = -1) : zwf n (iset s 3 p x) := by
  refine ⟨wn w, ?_, ?_, ?_, ?_, ?_, ?_, ?_, ?_, ?_, ?_⟩
  · intro q a b; rw [iset_row (by decide)]; exact w0 w a b
  · intro q a b; rw [iset_row (by decide)]; exact w1 w a b
  · intro q a b; rw [iset_row (by decide)]; exact w2 w a b
  · intro q a b
    rw [iset_at]
    split
    · exact hx
    · exact w3 w a b
  · intro q a b; rw [iset_row (by decide)]; exact w4 w a b
  · intro q a b; rw [iset_row (by decide)]; exact w5 w a b
  · intro f a b; rw [iset_row (by decide), iset_row (by decide)]; exact w67 w a b
  · intro j a b c
    rw [iset_row (by decide)] at c
    have q := wst w a b c
    rw [iset_at, iset_row (by decide)]
    by_cases e : j = p
    · subst e
      rw [if_pos ⟨rfl, rfl⟩]
      have := hz c
      exact ⟨by omega, by omega⟩
    · rw [if_neg (fun z => e z.2)]
      exact q
  · intro j a b
    rw [iset_oth (by omega), iset_oth (by omega)]
    exact wou w a b
  · intro f a b; rw [iset_row (by decide)]; exact wou5 w a b
theorem w_puts4 (w : zwf n s) {p x : Int} (a0 : 0 ≤ p) (b0 : p < 2 * n) (hx : -1 ≤ x ∧ x ≤ 5) (hz : s 5 (p / 2) = 1 → x = -1) : zwf n (iset s 4 p x) := by
  refine ⟨wn w, ?_, ?_, ?_, ?_, ?_, ?_, ?_, ?_, ?_, ?_⟩
  · intro q a b; rw [iset_row (by decide)]; exact w0 w a b
  · intro q a b; rw [iset_row (by decide)]; exact w1 w a b
  · intro q a b; rw [iset_row (by decide)]; exact w2 w a b
  · intro q a b; rw [iset_row (by decide)]; exact w3 w a b
  · intro q a b
    rw [iset_at]
    split
    · exact hx
    · exact w4 w a b
  · intro q a b; rw [iset_row (by decide)]; exact w5 w a b
  · intro f a b; rw [iset_row (by decide), iset_row (by decide)]; exact w67 w a b
  · intro j a b c
    rw [iset_row (by decide)] at c
    have q := wst w a b c
    rw [iset_row (by decide), iset_at]
    by_cases e : j = p
    · subst e
      rw [if_pos ⟨rfl, rfl⟩]
      have := hz c
      exact ⟨by omega, by omega⟩
    · rw [if_neg (fun z => e z.2)]
      exact q
  · intro j a b
    rw [iset_oth (by omega), iset_oth (by omega)]
    exact wou w a b
  · intro f a b; rw [iset_row (by decide)]; exact wou5 w a b
theorem w_puts5 (w : zwf n s) {p x : Int} (a0 : 0 ≤ p) (b0 : p < n) (hx : x = 0 ∨ x = 1) (hz : ∀ t, 0 ≤ t ∧ t ≤ 1 → s 3 (2 * p + t) = -1 ∧ s 4 (2 * p + t) = -1) : zwf n (iset s 5 p x) := by
  refine ⟨wn w, ?_, ?_, ?_, ?_, ?_, ?_, ?_, ?_, ?_, ?_⟩
  · intro q a b; rw [iset_row (by decide)]; exact w0 w a b
  · intro q a b; rw [iset_row (by decide)]; exact w1 w a b
  · intro q a b; rw [iset_row (by decide)]; exact w2 w a b
  · intro q a b; rw [iset_row (by decide)]; exact w3 w a b
  · intro q a b; rw [iset_row (by decide)]; exact w4 w a b
  · intro q a b
    rw [iset_at]
    split
    · exact hx
    · exact w5 w a b
  · intro f a b; rw [iset_row (by decide), iset_row (by decide)]; exact w67 w a b
  · intro j a b c
    rw [iset_row (by decide), iset_row (by decide)]
    by_cases e : j / 2 = p
    · have q := hz (j % 2) (by omega)
      rw [show 2 * p + j % 2 = j from by omega] at q
      exact q
    · rw [iset_oth e] at c
      exact wst w a b c
  · intro j a b; rw [iset_row (by decide), iset_row (by decide)]; exact wou w a b
  · intro f a b; rw [iset_oth (by omega)]; exact wou5 w a b
end PUT
