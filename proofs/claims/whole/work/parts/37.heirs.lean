/-! ===== sets of people, as bits ===== -/
def bitI (a x : Int) : Int := zand (zshr a x) 1
def czI (a : Int) : Int := 6 - (bitI a 0 + bitI a 1 + bitI a 2 + bitI a 3 + bitI a 4 + bitI a 5)
theorem bits_tab : ∀ a : Fin 64, ∀ x : Fin 6, (bitI (a.val : Int) (x.val : Int) = 0 ∨ bitI (a.val : Int) (x.val : Int) = 1) ∧ (bitI (a.val : Int) (x.val : Int) = 0 → 0 ≤ zor (a.val : Int) (zshl 1 (x.val : Int)) ∧ zor (a.val : Int) (zshl 1 (x.val : Int)) < 64 ∧ czI (zor (a.val : Int) (zshl 1 (x.val : Int))) = czI (a.val : Int) - 1) ∧ 0 ≤ czI (a.val : Int) := by decide +kernel
theorem bits1_tab : ∀ x : Fin 6, 0 ≤ zshl 1 (x.val : Int) ∧ zshl 1 (x.val : Int) < 64 ∧ czI (zshl 1 (x.val : Int)) = 5 := by decide +kernel
theorem bitI_01 {a x : Int} (ha : 0 ≤ a ∧ a < 64) (hx : 0 ≤ x ∧ x < 6) : bitI a x = 0 ∨ bitI a x = 1 := by
  have q := (bits_tab ⟨a.toNat, by omega⟩ ⟨x.toNat, by omega⟩).1
  simp only [Int.toNat_of_nonneg ha.1, Int.toNat_of_nonneg hx.1] at q
  exact q
theorem bitI_or {a x : Int} (ha : 0 ≤ a ∧ a < 64) (hx : 0 ≤ x ∧ x < 6) (h : bitI a x = 0) : 0 ≤ zor a (zshl 1 x) ∧ zor a (zshl 1 x) < 64 ∧ czI (zor a (zshl 1 x)) = czI a - 1 := by
  have q := (bits_tab ⟨a.toNat, by omega⟩ ⟨x.toNat, by omega⟩).2.1
  simp only [Int.toNat_of_nonneg ha.1, Int.toNat_of_nonneg hx.1] at q
  exact q h
theorem czI_0 {a : Int} (ha : 0 ≤ a ∧ a < 64) : 0 ≤ czI a := by
  have q := (bits_tab ⟨a.toNat, by omega⟩ ⟨0, by omega⟩).2.2
  simp only [Int.toNat_of_nonneg ha.1] at q
  exact q
theorem bitI_1 {x : Int} (hx : 0 ≤ x ∧ x < 6) : 0 ≤ zshl 1 x ∧ zshl 1 x < 64 ∧ czI (zshl 1 x) = 5 := by
  have q := bits1_tab ⟨x.toNat, by omega⟩
  simp only [Int.toNat_of_nonneg hx.1] at q
  exact q
/-! ===== who inherits ===== -/
def hS (s : zS) : Nat → Int → Int → Int
  | 0, _, _ => -1
  | m + 1, a, x => if x = -1 then -1 else if bitI a x = 1 then -1 else if s 2 x = 0 then hS s m (zor a (zshl 1 x)) (s 1 x) else x
def heS (s : zS) (p : Int) : Int := hS s 6 (zshl 1 p) (s 1 p)
theorem hS_in {n : Int} {s : zS} (w : zwf n s) : ∀ (m : Nat) (a x : Int), -1 ≤ x ∧ x ≤ 5 → hS s m a x = -1 ∨ ((0 ≤ hS s m a x ∧ hS s m a x < 6) ∧ s 2 (hS s m a x) ≠ 0)
  | 0, a, x, _ => Or.inl rfl
  | m + 1, a, x, hx => by
    unfold hS
    split
    · exact Or.inl rfl
    · split
      · exact Or.inl rfl
      · split
        · exact hS_in w m _ _ (w1 w (by omega) (by omega))
        · exact Or.inr ⟨by omega, by assumption⟩
section INH
variable {S : List zC} {V : zV} {o : Nat} {n : Int} {s : zS} {Q : Int → zV → Prop}
theorem x_inh_L (h : cX S V o n s) (w : zwf n s) : ∀ (m : Nat) (a x i : Int), 0 ≤ i → i + m = 6 → 0 ≤ a ∧ a < 64 → -1 ≤ x ∧ x ≤ 5 → Q (hS s m a x) V → m4_inheritorOf_L14 S o Q (m + 1) a x i V
  | 0, a, x, i, hi, hm, ha, hx, k => by
    unfold m4_inheritorOf_L14
    exact ⟨by omega, fun _ => k, fun c => by omega⟩
  | m + 1, a, x, i, hi, hm, ha, hx, k => by
    unfold m4_inheritorOf_L14
    unfold hS at k
    refine ⟨by omega, fun c => by omega, fun _ => ⟨by omega, fun c => ?_, fun c => ?_⟩⟩
    · rw [if_pos c] at k
      exact k
    · rw [if_neg c] at k
      have b := bitI_01 ha (x := x) (by omega)
      have e2 := x_2 h (p := x) (by omega) (by omega)
      have e1 := x_1 h (p := x) (by omega) (by omega)
      have b1 := w1 w (p := x) (by omega) (by omega)
      show inR (bitI a x) ∧ (¬ bitI a x = 1 → _) ∧ (bitI a x = 1 → _)
      refine ⟨by omega, fun d => ⟨by omega, fun e => ⟨by omega, ?_⟩, fun e => ?_⟩, fun d => ?_⟩
      · rw [if_neg d, if_pos (by omega)] at k
        have q := bitI_or ha (x := x) (by omega) (by omega)
        rw [e1]
        exact x_inh_L h w m _ _ _ (by omega) (by omega) ⟨q.1, q.2.1⟩ b1 k
      · rw [if_neg d, if_neg (by omega)] at k
        exact k
      · rw [if_pos d] at k
        exact k
theorem x_inh (h : cX S V o n s) (w : zwf n s) {p : Int} (hp : 0 ≤ p ∧ p < 6) (k : Q (heS s p) V) : m4_inheritorOf S o V p Q := by
  have q := bitI_1 hp
  unfold m4_inheritorOf
  rw [x_1 h hp.1 hp.2]
  exact ⟨hp, 6 + 1, x_inh_L h w 6 _ _ 0 (by omega) (by omega) ⟨q.1, q.2.1⟩ (w1 w hp.1 hp.2) k⟩
theorem m_inh_L (h : cM V n s) (w : zwf n s) : ∀ (m : Nat) (a x : Int), czI a < m → 0 ≤ a ∧ a < 64 → -1 ≤ x ∧ x ≤ 5 → Q (hS s m a x) V → m12_heirOf_L15 Q m a x V
  | 0, a, x, hm, ha, hx, k => by
    have := czI_0 ha
    omega
  | m + 1, a, x, hm, ha, hx, k => by
    unfold m12_heirOf_L15 m12_heirOf_J56
    unfold hS at k
    refine ⟨by omega, fun c => ⟨by omega, fun _ => ?_, fun d => by omega⟩, fun c => ?_⟩
    · rw [if_pos c] at k
      exact k
    · rw [if_neg c] at k
      have b := bitI_01 ha (x := x) (by omega)
      have e1 := m_1 h (p := x) (by omega) (by omega)
      have b1 := w1 w (p := x) (by omega) (by omega)
      show inR (bitI a x) ∧ (¬ bitI a x = 0 → inR x ∧ (x = -1 → _) ∧ (¬ x = -1 → inR (bitI a x) ∧ (¬ bitI a x = 1 → _) ∧ (bitI a x = 1 → _))) ∧ (bitI a x = 0 → _)
      refine ⟨by omega, fun d => ⟨by omega, fun e => by omega, fun _ => ⟨by omega, fun e => by omega, fun e => ?_⟩⟩, fun d => m_isAlive h w (by omega) (fun r hr r1 r2 => ⟨by omega, fun e => ⟨by omega, fun e2 => by omega, fun _ => ⟨?_, fun e2 => ?_, fun e2 => ?_⟩⟩, fun e => ⟨by omega, ?_⟩⟩)⟩
      · rw [if_pos e] at k
        exact k
      · show inR (bitI a x)
        omega
      · rw [if_neg (by omega), if_neg (by omega)] at k
        exact k
      · have : bitI a x = 1 := e2
        omega
      · rw [if_neg (by omega), if_pos (by omega)] at k
        have q := bitI_or ha (x := x) (by omega) (by omega)
        rw [e1]
        exact m_inh_L h w m _ _ (by omega) ⟨q.1, q.2.1⟩ b1 k
theorem m_inh (h : cM V n s) (w : zwf n s) {p : Int} (hp : 0 ≤ p ∧ p < 6) (k : Q (heS s p) V) : m12_heirOf V p Q := by
  have q := bitI_1 hp
  unfold m12_heirOf
  rw [m_1 h hp.1 hp.2]
  exact ⟨by omega, 6, m_inh_L h w 6 _ _ (by omega) ⟨q.1, q.2.1⟩ (w1 w hp.1 hp.2) k⟩
end INH
/-! ===== the loans that end ===== -/
def endTo (s : zS) (p i : Int) : zS := fun r j => if r = 4 ∧ (0 ≤ j ∧ j < i) ∧ (s 4 j = p ∨ s 3 j = p) then -1 else s r j
theorem endTo_0 (s : zS) (p : Int) : endTo s p 0 = s := by
  funext r j
  unfold endTo
  rw [if_neg (by omega)]
theorem endTo_s (s : zS) (p : Int) {i : Int} (h : 0 ≤ i) (a : s 4 i = p ∨ s 3 i = p) : iset (endTo s p i) 4 i (-1) = endTo s p (i + 1) := by
  funext r j
  unfold iset endTo
  by_cases e : r = 4 ∧ j = i
  · rw [if_pos e, e.1, e.2, if_pos ⟨rfl, by omega, a⟩]
  · rw [if_neg e]
    by_cases e2 : r = 4 ∧ (0 ≤ j ∧ j < i) ∧ (s 4 j = p ∨ s 3 j = p)
    · rw [if_pos e2, if_pos ⟨e2.1, by omega, e2.2.2⟩]
    · rw [if_neg e2, if_neg]
      intro z
      exact e2 ⟨z.1, by omega, z.2.2⟩
theorem endTo_n (s : zS) (p : Int) {i : Int} (a : ¬ (s 4 i = p ∨ s 3 i = p)) : endTo s p i = endTo s p (i + 1) := by
  funext r j
  unfold endTo
  by_cases e2 : r = 4 ∧ (0 ≤ j ∧ j < i) ∧ (s 4 j = p ∨ s 3 j = p)
  · rw [if_pos e2, if_pos ⟨e2.1, by omega, e2.2.2⟩]
  · rw [if_neg e2, if_neg]
    intro z
    by_cases e : j = i
    · rw [e] at z
      exact a z.2.2
    · exact e2 ⟨z.1, by omega, z.2.2⟩
theorem endTo_e {n : Int} {s : zS} (w : zwf n s) {p : Int} (hp : 0 ≤ p) : endTo s p (2 * n) = endTo s p 16 := by
  have hn := wn w
  funext r j
  unfold endTo
  by_cases e : r = 4 ∧ (0 ≤ j ∧ j < 2 * n) ∧ (s 4 j = p ∨ s 3 j = p)
  · rw [if_pos e, if_pos ⟨e.1, by omega, e.2.2⟩]
  · rw [if_neg e, if_neg]
    intro z
    by_cases c : j < 2 * n
    · exact e ⟨z.1, by omega, z.2.2⟩
    · have := wou w (j := j) (by omega) (by omega)
      omega
theorem endTo_r (s : zS) (p i : Int) {r : Nat} (hr : r ≠ 4) (j : Int) : endTo s p i r j = s r j := by
  unfold endTo
  rw [if_neg (fun q => hr q.1)]
theorem endTo_4 (s : zS) (p : Int) {i j : Int} (h : i ≤ j) : endTo s p i 4 j = s 4 j := by
  unfold endTo
  rw [if_neg (by omega)]
theorem endTo_set (s : zS) (p i q x : Int) : iset (endTo s p i) 2 q x = endTo (iset s 2 q x) p i := by
  funext r j
  unfold iset endTo
  by_cases e : r = 2 ∧ j = q
  · rw [if_pos e, if_neg (by omega)]
    exact (if_pos e).symm
  · rw [if_neg e]
    dsimp only
    rw [if_neg e]
    simp
theorem w_end {n : Int} {s : zS} (w : zwf n s) (q i : Int) : zwf n (endTo s q i) := by
  have z : ∀ r j, r ≠ 4 → endTo s q i r j = s r j := fun r j hr => endTo_r s q i hr j
  have z4 : ∀ j, endTo s q i 4 j = -1 ∨ endTo s q i 4 j = s 4 j := fun j => by unfold endTo; split <;> simp
  refine ⟨wn w, ?_, ?_, ?_, ?_, ?_, ?_, ?_, ?_, ?_, ?_⟩
  · intro p a b; rw [z _ _ (by decide)]; exact w0 w a b
  · intro p a b; rw [z _ _ (by decide)]; exact w1 w a b
  · intro p a b; rw [z _ _ (by decide)]; exact w2 w a b
  · intro p a b; rw [z _ _ (by decide)]; exact w3 w a b
  · intro p a b; have := w4 w a b; have := z4 p; omega
  · intro p a b; rw [z _ _ (by decide)]; exact w5 w a b
  · intro p a b; rw [z _ _ (by decide), z _ _ (by decide)]; exact w67 w a b
  · intro p a b c; rw [z _ _ (by decide)] at c; have := wst w a b c; have := z4 p; rw [z _ _ (by decide)]; omega
  · intro p a b; have := wou w a b; have := z4 p; rw [z _ _ (by decide)]; omega
  · intro p a b; rw [z _ _ (by decide)]; exact wou5 w a b
section ENDL
variable {S : List zC} {o : Nat} {n : Int} {s : zS}
theorem x_end_L {Q : zV → Prop} (ho : 14 ≤ o) {p : Int} (hp : 0 ≤ p ∧ p < 6) : ∀ (m : Nat) (i : Int) (V : zV), 0 ≤ i → i + m = 16 → cX S V o n (endTo s p i) → (∀ V', cX S V' o n (endTo s p 16) → frX o V V' → Q V') → m4_endLoansOf_L2 S o Q (m + 1) p i V
  | 0, i, V, hi, hm, h, k => by
    have e : i = 16 := by omega
    subst e
    unfold m4_endLoansOf_L2
    exact ⟨by omega, fun _ => k V h (frX_r _ _), fun c => by omega⟩
  | m + 1, i, V, hi, hm, h, k => by
    have e3 := x_3 h (j := i) hi (by omega)
    have e4 := x_4 h (j := i) hi (by omega)
    rw [endTo_r _ _ _ (by decide)] at e3
    rw [endTo_4 _ _ (by omega)] at e4
    have h1 := x_puts4 (x := -1) h hi (by omega) ho
    unfold m4_endLoansOf_L2 m4_endLoansOf_J28
    refine ⟨by omega, fun c => by omega, fun c => ⟨by omega, by omega, fun d => ⟨by omega, ?_⟩, fun d => ⟨by omega, fun e => ?_, fun e => ⟨by omega, ?_⟩⟩⟩⟩
    · rw [endTo_s s p hi (by omega)] at h1
      exact x_end_L ho hp m (i + 1) _ (by omega) (by omega) h1 (fun V' a b => k V' a (frX_t (frX_s (frX_r _ _) (by omega) (by omega)) b))
    · rw [endTo_n s p (i := i) (by omega)] at h
      exact x_end_L ho hp m (i + 1) _ (by omega) (by omega) h k
    · rw [endTo_s s p hi (by omega)] at h1
      exact x_end_L ho hp m (i + 1) _ (by omega) (by omega) h1 (fun V' a b => k V' a (frX_t (frX_s (frX_r _ _) (by omega) (by omega)) b))
end ENDL
