/-! ===== the counts, whole ===== -/
def tSt (n : Int) (s : zS) : Int := sumI (s 5) n.toNat 0
def tAl (s : zS) : Int := sumI (s 2) 6 0
def tMo (s : zS) : Int := sumI (s 0) 6 0
def tOp (n : Int) (s : zS) : Int := sumI (gOp2 s) n.toNat 0
def tLe (n : Int) (s : zS) : Int := sumI (gLe s) (2 * n.toNat) 0
def tSi (n : Int) (s : zS) (p : Int) : Int := sumI (gSi s p) (2 * n.toNat) 0
def tBo (n : Int) (s : zS) (a b : Int) : Int := sumI (gBo s a b) n.toNat 0
section TOT
variable {S : List zC} {V : zV} {o : Nat} {n : Int} {s : zS} {Q : Int → zV → Prop}
theorem tSt_in (w : zwf n s) : 0 ≤ tSt n s ∧ tSt n s ≤ n := by
  have hn := wn w
  have q := sumI_in (g := s 5) (c := 1) n.toNat 0 (fun j a b => by have := w5 w (f := j) (by omega) (by omega); omega)
  unfold tSt
  omega
theorem tAl_in (w : zwf n s) : 0 ≤ tAl s ∧ tAl s ≤ 6 := by
  have q := sumI_in (g := s 2) (c := 1) 6 0 (fun j a b => by have := w2 w (p := j) (by omega) (by omega); omega)
  unfold tAl
  omega
theorem tMo_in (w : zwf n s) : 0 ≤ tMo s ∧ tMo s ≤ 594 := by
  have q := sumI_in (g := s 0) (c := 99) 6 0 (fun j a b => by have := w0 w (p := j) (by omega) (by omega); omega)
  unfold tMo
  omega
theorem opS_in (s : zS) (f j : Int) : 0 ≤ opS s f j ∧ opS s f j ≤ 1 := by
  unfold opS
  split <;> omega
theorem tOp_in (w : zwf n s) : 0 ≤ tOp n s ∧ tOp n s ≤ 16 := by
  have hn := wn w
  have q := sumI_in (g := gOp2 s) (c := 2) n.toNat 0 (fun j a b => by
    have := opS_in s j (2 * j + 0)
    have := opS_in s j (2 * j + 1)
    unfold gOp2
    omega)
  unfold tOp
  omega
theorem tLe_in (w : zwf n s) : 0 ≤ tLe n s ∧ tLe n s ≤ 16 := by
  have hn := wn w
  have q := sumI_in (g := gLe s) (c := 1) (2 * n.toNat) 0 (fun j a b => by
    unfold gLe leB
    split <;> omega)
  unfold tLe
  omega
theorem tSi_in (w : zwf n s) (p : Int) : 0 ≤ tSi n s p ∧ tSi n s p ≤ 16 := by
  have hn := wn w
  have q := sumI_in (g := gSi s p) (c := 1) (2 * n.toNat) 0 (fun j a b => by
    unfold gSi
    split <;> omega)
  unfold tSi
  omega
theorem bothS_in (s : zS) (f a b : Int) : 0 ≤ bothS s f a b ∧ bothS s f a b ≤ 1 := by
  unfold bothS
  split <;> omega
theorem tBo_in (w : zwf n s) (a b : Int) : 0 ≤ tBo n s a b ∧ tBo n s a b ≤ 8 := by
  have hn := wn w
  have q := sumI_in (g := gBo s a b) (c := 1) n.toNat 0 (fun j _ _ => bothS_in s j a b)
  unfold tBo
  omega
theorem tOp_eq : tOp n s = sumI (gOp s) (2 * n.toNat) 0 := by
  refine (sumI_2 n.toNat 0 (fun j a b => ?_)).symm
  unfold gOp2 gOp
  rw [show (2 * j + 0) / 2 = j from by omega, show (2 * j + 1) / 2 = j from by omega]
theorem tLe_eq (w : zwf n s) : tLe n s = 16 - sumI (gUn s) 16 0 := by
  have hn := wn w
  have e1 : sumI (gUn s) 16 0 = sumI (gUn s) (2 * n.toNat) 0 + sumI (gUn s) (16 - 2 * n.toNat) (0 + ((2 * n.toNat : Nat) : Int)) := by
    rw [← sumI_app, show 2 * n.toNat + (16 - 2 * n.toNat) = 16 from by omega]
  have e2 : ∀ (m : Nat) (i : Int), 2 * n ≤ i → i + m ≤ 16 → sumI (gUn s) m i = m := by
    intro m
    induction m with
    | zero => intro i _ _; rfl
    | succ m ih =>
      intro i a b
      have q := wou w (j := i) a (by omega)
      have r := ih (i + 1) (by omega) (by omega)
      have g : gUn s i = 1 := by unfold gUn; rw [if_pos q.2]
      rw [sumI_s, r, g]
      omega
  have e3 : ∀ (m : Nat) (i : Int), sumI (gLe s) m i = m - sumI (gUn s) m i := by
    intro m
    induction m with
    | zero => intro i; rfl
    | succ m ih =>
      intro i
      have r := ih (i + 1)
      have g : gLe s i = 1 - gUn s i := by unfold gLe leB gUn; split <;> omega
      rw [sumI_s, sumI_s, r, g]
      omega
  have r2 := e2 (16 - 2 * n.toNat) (0 + ((2 * n.toNat : Nat) : Int)) (by omega) (by omega)
  unfold tLe
  rw [e3, e1, r2]
  omega
theorem x_struck (h : cX S V o n s) (w : zwf n s)   (k : ∀ r, r = tSt n s → 0 ≤ r → r ≤ n → Q r V) : m4_struckFeuds S o V Q := by
  have hn := wn w
  have q := tSt_in w
  refine ⟨n.toNat + 1, x_struckFeuds_L h w  (n.toNat) 0 0 (by omega) (by omega) (fun r hr => ?_)⟩
  have e : r = tSt n s := by
    rw [hr]
    exact Int.zero_add _
  exact k r e (by omega) (by omega)
theorem m_struck (h : cM V n s) (w : zwf n s)   (k : ∀ r, r = tSt n s → 0 ≤ r → r ≤ n → Q r V) : m12_struckMany V Q := by
  have hn := wn w
  have q := tSt_in w
  refine ⟨n.toNat + 1, m_struckMany_L h w  (n.toNat) 0 0 (by omega) (by omega) (fun r hr => ?_)⟩
  have e : r = tSt n s := by
    rw [hr]
    exact Int.zero_add _
  exact k r e (by omega) (by omega)
theorem x_aliveT (h : cX S V o n s) (w : zwf n s)   (k : ∀ r, r = tAl s → 0 ≤ r → r ≤ 6 → Q r V) : m4_peopleAlive S o V Q := by
  have hn := wn w
  have q := tAl_in w
  refine ⟨6 + 1, x_alive_L h w  (6) 0 0 (by omega) (by omega) (fun r hr => ?_)⟩
  have e : r = tAl s := by
    rw [hr]
    exact Int.zero_add _
  exact k r e (by omega) (by omega)
theorem m_aliveT (h : cM V n s) (w : zwf n s)   (k : ∀ r, r = tAl s → 0 ≤ r → r ≤ 6 → Q r V) : m12_aliveMany V Q := by
  have hn := wn w
  have q := tAl_in w
  refine ⟨6 + 1, m_aliveMany_L h w  (6) 0 0 (by omega) (by omega) (fun r hr => ?_)⟩
  have e : r = tAl s := by
    rw [hr]
    exact Int.zero_add _
  exact k r e (by omega) (by omega)
theorem x_moneyT (h : cX S V o n s) (w : zwf n s)   (k : ∀ r, r = tMo s → 0 ≤ r → r ≤ 594 → Q r V) : m4_moneyOfAll S o V Q := by
  have hn := wn w
  have q := tMo_in w
  refine ⟨6 + 1, x_money_L h w  (6) 0 0 (by omega) (by omega) (fun r hr => ?_)⟩
  have e : r = tMo s := by
    rw [hr]
    exact Int.zero_add _
  exact k r e (by omega) (by omega)
theorem x_openT (h : cX S V o n s) (w : zwf n s)   (k : ∀ r, r = tOp n s → 0 ≤ r → r ≤ 16 → Q r V) : m4_openSides S o V Q := by
  have hn := wn w
  have q := tOp_in w
  refine ⟨n.toNat + 1, x_open_L h w  (n.toNat) 0 0 (by omega) (by omega) (fun r hr => ?_)⟩
  have e : r = tOp n s := by
    rw [hr]
    exact Int.zero_add _
  exact k r e (by omega) (by omega)
theorem m_openT (h : cM V n s) (w : zwf n s)   (k : ∀ r, r = tOp n s → 0 ≤ r → r ≤ 16 → Q r V) : m12_openMany V Q := by
  have hn := wn w
  have q := tOp_in w
  refine ⟨2 * n.toNat + 1, m_open_L h w  (2 * n.toNat) 0 0 (by omega) (by omega) (fun r hr => ?_)⟩
  have e : r = tOp n s := by
    rw [hr]
    rw [tOp_eq]; exact Int.zero_add _
  exact k r e (by omega) (by omega)
theorem m_lentT (h : cM V n s) (w : zwf n s)   (k : ∀ r, r = tLe n s → 0 ≤ r → r ≤ 16 → Q r V) : m12_lentMany V Q := by
  have hn := wn w
  have q := tLe_in w
  refine ⟨2 * n.toNat + 1, m_lent_L h w  (2 * n.toNat) 0 0 (by omega) (by omega) (fun r hr => ?_)⟩
  have e : r = tLe n s := by
    rw [hr]
    exact Int.zero_add _
  exact k r e (by omega) (by omega)
theorem m_sidesT (h : cM V n s) (w : zwf n s) {p : Int} (hp : 0 ≤ p ∧ p < 6) (k : ∀ r, r = tSi n s p → 0 ≤ r → r ≤ 16 → Q r V) : m12_sidesOf V p Q := by
  have hn := wn w
  have q := tSi_in w p
  refine ⟨2 * n.toNat + 1, m_sides_L h w hp (2 * n.toNat) 0 0 (by omega) (by omega) (fun r hr => ?_)⟩
  have e : r = tSi n s p := by
    rw [hr]
    exact Int.zero_add _
  exact k r e (by omega) (by omega)
theorem m_feudsT (h : cM V n s) (w : zwf n s) {a b : Int} (ha : 0 ≤ a ∧ a < 6) (hb : 0 ≤ b ∧ b < 6) (k : ∀ r, r = tBo n s a b → 0 ≤ r → r ≤ 8 → Q r V) : m12_feudsOf V a b Q := by
  have hn := wn w
  have q := tBo_in w a b
  refine ⟨n.toNat + 1, m_feudsOf_L h w ha hb (n.toNat) 0 0 (by omega) (by omega) (fun r hr => ?_)⟩
  have e : r = tBo n s a b := by
    rw [hr]
    exact Int.zero_add _
  exact k r e (by omega) (by omega)
theorem x_feudsT (h : cX S V o n s) (w : zwf n s) {a b : Int} (ha : 0 ≤ a ∧ a < 6) (hb : 0 ≤ b ∧ b < 6) (k : ∀ r, r = tBo n s a b → 0 ≤ r → r ≤ 8 → Q r V) : m4_feudsShared S o V a b Q := by
  have hn := wn w
  have q := tBo_in w a b
  refine ⟨n.toNat + 1, x_feudsShared_L h w ha hb (n.toNat) 0 0 (by omega) (by omega) (fun r hr => ?_)⟩
  have e : r = tBo n s a b := by
    rw [hr]
    exact Int.zero_add _
  exact k r e (by omega) (by omega)
theorem x_lentT (h : cX S V o n s) (w : zwf n s) (k : ∀ r, r = tLe n s → 0 ≤ r → r ≤ 16 → Q r V) : m4_lentSides S o V Q := by
  have q := tLe_in w
  refine ⟨16 + 1, x_times_L h 16 0 0 (by omega) (by omega) (fun r hr => ?_)⟩
  have e : 16 - r = tLe n s := by
    rw [hr, tLe_eq w]
    omega
  exact k _ e (by omega) (by omega)
end TOT
/-! ===== the season ===== -/
def clrTo (s : zS) (i : Int) : zS := fun r j => if r = 4 ∧ 0 ≤ j ∧ j < i then -1 else s r j
def paidTo (s : zS) (i : Int) : zS := fun r p => if r = 0 ∧ (0 ≤ p ∧ p < i) ∧ s 2 p ≠ 0 then capS (s 0 p + 2) else s r p
def seaS (s : zS) : zS := paidTo (clrTo s 16) 6
theorem clrTo_0 (s : zS) : clrTo s 0 = s := by
  funext r j
  unfold clrTo
  rw [if_neg (by omega)]
theorem clrTo_s (s : zS) {i : Int} (h : 0 ≤ i) : iset (clrTo s i) 4 i (-1) = clrTo s (i + 1) := by
  funext r j
  unfold iset clrTo
  by_cases e : r = 4 ∧ j = i
  · rw [if_pos e, if_pos ⟨e.1, by omega, by omega⟩]
  · rw [if_neg e]
    by_cases e2 : r = 4 ∧ 0 ≤ j ∧ j < i
    · rw [if_pos e2, if_pos ⟨e2.1, e2.2.1, by omega⟩]
    · rw [if_neg e2, if_neg (by omega)]
theorem clrTo_e {n : Int} {s : zS} (w : zwf n s) : clrTo s (2 * n) = clrTo s 16 := by
  have hn := wn w
  funext r j
  unfold clrTo
  by_cases e : r = 4 ∧ 0 ≤ j ∧ j < 2 * n
  · rw [if_pos e, if_pos ⟨e.1, e.2.1, by omega⟩]
  · rw [if_neg e]
    by_cases e2 : r = 4 ∧ 0 ≤ j ∧ j < 16
    · rw [if_pos e2, e2.1]
      exact (wou w (by omega) (by omega)).2
    · rw [if_neg e2]
theorem paidTo_0 (s : zS) : paidTo s 0 = s := by
  funext r j
  unfold paidTo
  rw [if_neg (by omega)]
theorem paidTo_s (s : zS) {i : Int} (h : 0 ≤ i) (a : s 2 i ≠ 0) : iset (paidTo s i) 0 i (capS (paidTo s i 0 i + 2)) = paidTo s (i + 1) := by
  funext r j
  unfold iset paidTo
  by_cases e : r = 0 ∧ j = i
  · rw [if_pos e, e.1, e.2, if_neg (fun z : (0 : Nat) = 0 ∧ (0 ≤ i ∧ i < i) ∧ s 2 i ≠ 0 => by omega), if_pos ⟨rfl, by omega, a⟩]
  · rw [if_neg e]
    by_cases e2 : r = 0 ∧ (0 ≤ j ∧ j < i) ∧ s 2 j ≠ 0
    · rw [if_pos e2, if_pos ⟨e2.1, by omega, e2.2.2⟩]
    · rw [if_neg e2, if_neg]
      intro z
      exact e2 ⟨z.1, by omega, z.2.2⟩
theorem paidTo_n (s : zS) {i : Int} (a : s 2 i = 0) : paidTo s i = paidTo s (i + 1) := by
  funext r j
  unfold paidTo
  by_cases e2 : r = 0 ∧ (0 ≤ j ∧ j < i) ∧ s 2 j ≠ 0
  · rw [if_pos e2, if_pos ⟨e2.1, by omega, e2.2.2⟩]
  · rw [if_neg e2, if_neg]
    intro z
    by_cases e : j = i
    · rw [e] at z
      exact z.2.2 a
    · exact e2 ⟨z.1, by omega, z.2.2⟩
theorem paidTo_2 (s : zS) (i p : Int) : paidTo s i 2 p = s 2 p := by
  unfold paidTo
  rw [if_neg (by omega)]
theorem clrTo_2 (s : zS) (i p : Int) : clrTo s i 2 p = s 2 p := by
  unfold clrTo
  rw [if_neg (by omega)]
theorem iset_id (s : zS) (r : Nat) (j : Int) : iset s r j (s r j) = s := by
  funext r' j'
  unfold iset
  split
  · rename_i h
    rw [h.1, h.2]
  · rfl
theorem w_clr {n : Int} {s : zS} (w : zwf n s) (i : Int) : zwf n (clrTo s i) := by
  have z : ∀ r j, r ≠ 4 → clrTo s i r j = s r j := fun r j hr => by unfold clrTo; rw [if_neg (fun q => hr q.1)]
  have z4 : ∀ j, clrTo s i 4 j = -1 ∨ clrTo s i 4 j = s 4 j := fun j => by unfold clrTo; split <;> simp
  refine ⟨wn w, ?_, ?_, ?_, ?_, ?_, ?_, ?_, ?_, ?_, ?_⟩
  · intro p a b; rw [z _ _ (by decide)]; exact w0 w a b
  · intro p a b; rw [z _ _ (by decide)]; exact w1 w a b
  · intro p a b; rw [z _ _ (by decide)]; exact w2 w a b
  · intro p a b; rw [z _ _ (by decide)]; exact w3 w a b
  · intro p a b; have := w4 w a b; have := z4 p; omega
  · intro p a b; rw [z _ _ (by decide)]; exact w5 w a b
  · intro p a b; rw [z _ _ (by decide), z _ _ (by decide)]; exact w67 w a b
  · intro p a b c; rw [z _ _ (by decide)] at c; have := wst w a b c; have := z4 p; rw [z _ _ (by decide)]; omega
  · intro p a b; have := wou w a b; have := z4 p; rw [z _ _ (by decide)]; omega
  · intro p a b; rw [z _ _ (by decide)]; exact wou5 w a b
theorem w_paid {n : Int} {s : zS} (w : zwf n s) (i : Int) : zwf n (paidTo s i) := by
  have z : ∀ r j, r ≠ 0 → paidTo s i r j = s r j := fun r j hr => by unfold paidTo; rw [if_neg (fun q => hr q.1)]
  refine ⟨wn w, ?_, ?_, ?_, ?_, ?_, ?_, ?_, ?_, ?_, ?_⟩
  · intro p a b
    have q := w0 w a b
    have := capS_in (x := s 0 p + 2) (by omega)
    unfold paidTo
    split <;> omega
  · intro p a b; rw [z _ _ (by decide)]; exact w1 w a b
  · intro p a b; rw [z _ _ (by decide)]; exact w2 w a b
  · intro p a b; rw [z _ _ (by decide)]; exact w3 w a b
  · intro p a b; rw [z _ _ (by decide)]; exact w4 w a b
  · intro p a b; rw [z _ _ (by decide)]; exact w5 w a b
  · intro p a b; rw [z _ _ (by decide), z _ _ (by decide)]; exact w67 w a b
  · intro p a b c; rw [z _ _ (by decide)] at c; rw [z _ _ (by decide), z _ _ (by decide)]; exact wst w a b c
  · intro p a b; rw [z _ _ (by decide), z _ _ (by decide)]; exact wou w a b
  · intro p a b; rw [z _ _ (by decide)]; exact wou5 w a b
section SEA
variable {S : List zC} {V : zV} {o : Nat} {n : Int} {s : zS} {Q : Int → zV → Prop}
theorem x_sea2 (w : zwf n s) (ho : 14 ≤ o) (c0 : Int) : ∀ (m : Nat) (i : Int) (V : zV), 0 ≤ i → i + m = 6 → cX S V o n (paidTo s i) → (∀ V', cX S V' o n (paidTo s 6) → frX o V V' → Q c0 V') → m4_endSeason_L28 S o Q (m + 1) c0 i V
  | 0, i, V, hi, hm, h, k => by
    have e : i = 6 := by omega
    subst e
    unfold m4_endSeason_L28
    exact ⟨by omega, fun _ => k V h (frX_r _ _), fun c => by omega⟩
  | m + 1, i, V, hi, hm, h, k => by
    have e2 := x_2 h (p := i) hi (by omega)
    rw [paidTo_2] at e2
    unfold m4_endSeason_L28
    refine ⟨by omega, fun c => by omega, fun c => ⟨by omega, fun d => ?_, fun d => ?_⟩⟩
    · exact x_sea2 w ho c0 m (i + 1) V (by omega) (by omega) (paidTo_n s (i := i) (by omega) ▸ h) k
    · refine x_pay h (w_paid w i) ho (by omega) (by omega) (fun V1 h1 _ f1 => ?_)
      unfold payS at h1
      rw [paidTo_s s hi (by omega)] at h1
      exact x_sea2 w ho c0 m (i + 1) V1 (by omega) (by omega) h1 (fun V' a b => k V' a (frX_t f1 b))
theorem x_sea1 (w : zwf n s) (ho : 14 ≤ o) (c0 : Int) : ∀ (m : Nat) (i : Int) (V : zV), 0 ≤ i → i + m = 16 → cX S V o n (clrTo s i) → (∀ V', cX S V' o n (seaS s) → frX o V V' → Q c0 V') → m4_endSeason_L7 S o Q (m + 1) c0 i V
  | 0, i, V, hi, hm, h, k => by
    have e : i = 16 := by omega
    subst e
    unfold m4_endSeason_L7
    refine ⟨by omega, fun _ => ⟨6 + 1, x_sea2 (w_clr w 16) ho c0 6 0 V (by omega) (by omega) ?_ k⟩, fun c => by omega⟩
    rw [paidTo_0]
    exact h
  | m + 1, i, V, hi, hm, h, k => by
    unfold m4_endSeason_L7
    refine ⟨by omega, fun c => by omega, fun c => ⟨by omega, ?_⟩⟩
    have h1 := x_puts4 (x := -1) h hi (by omega) ho
    rw [clrTo_s s hi] at h1
    exact x_sea1 w ho c0 m (i + 1) _ (by omega) (by omega) h1 (fun V' a b => k V' a (frX_t (frX_s (frX_r _ _) (by omega) (by omega)) b))
theorem w_sea (w : zwf n s) : zwf n (seaS s) := w_paid (w_clr w 16) 6
theorem x_season (h : cX S V o n s) (w : zwf n s) (ho : 14 ≤ o) (k : ∀ r V', r = tLe n s → 0 ≤ r → r ≤ 16 → cX S V' o n (seaS s) → frX o V V' → Q r V') : m4_endSeason S o V Q := by
  unfold m4_endSeason
  refine x_lentT h w (fun r hr r1 r2 => ⟨16 + 1, x_sea1 w ho r 16 0 V (by omega) (by omega) ?_ (fun V' a b => k r V' hr r1 r2 a b)⟩)
  rw [clrTo_0]
  exact h
theorem m_sea2 (w : zwf n s) (c0 : Int) : ∀ (m : Nat) (i : Int) (V : zV), 0 ≤ i → i + m = 6 → cM V n (paidTo s i) → (∀ V', cM V' n (paidTo s 6) → frM V V' → Q c0 V') → m12_ended_L60 Q (m + 1) c0 i V
  | 0, i, V, hi, hm, h, k => by
    have e : i = 6 := by omega
    subst e
    unfold m12_ended_L60
    exact ⟨by omega, fun _ => k V h (frM_r _), fun c => by omega⟩
  | m + 1, i, V, hi, hm, h, k => by
    have e0 := m_0 h (p := i) hi (by omega)
    have b0 := w0 (w_paid w i) (p := i) hi (by omega)
    unfold m12_ended_L60
    refine ⟨by omega, fun c => by omega, fun c => m_isAlive h (w_paid w i) ⟨hi, c⟩ (fun r hr r1 r2 => ⟨by omega, fun d => ⟨by omega, by omega, ?_⟩, fun d => ⟨by omega, ?_⟩⟩)⟩
    · rw [paidTo_2] at hr
      rw [e0]
      have h1 := m_puts0 (x := paidTo s i 0 i) h hi (by omega)
      rw [iset_id, paidTo_n s (i := i) (by omega)] at h1
      rw [paidTo_n s (i := i) (by omega)]
      exact m_sea2 w c0 m (i + 1) _ (by omega) (by omega) h1 (fun V' a b => k V' a (frM_t (frM_s7 (frM_r _)) b))
    · rw [e0]
      refine m_capped (by omega) (fun y hy => ?_)
      have b1 := capS_in (x := paidTo s i 0 i + 2) (by omega)
      rw [paidTo_2] at hr
      refine ⟨by omega, by omega, ?_⟩
      have h1 := m_puts0 (x := y) h hi (by omega)
      rw [hy, paidTo_s s hi (by omega), ← hy] at h1
      exact m_sea2 w c0 m (i + 1) _ (by omega) (by omega) h1 (fun V' a b => k V' a (frM_t (frM_s7 (frM_r _)) b))
theorem m_sea1 (w : zwf n s) : ∀ (m : Nat) (a i : Int) (V : zV), 0 ≤ i → i + m = 2 * n → cM V n (clrTo s i) → (∀ r V', r = a + sumI (gLe s) m i → cM V' n (seaS s) → frM V V' → Q r V') → m12_ended_L4 Q (m + 1) a i V
  | 0, a, i, V, hi, hm, h, k => by
    have hn := wn w
    have en := m_n h
    have e : i = 2 * n := by omega
    unfold m12_ended_L4
    refine ⟨by omega, by omega, fun _ => ⟨6 + 1, m_sea2 (w_clr w 16) a 6 0 V (by omega) (by omega) ?_ (fun V' q1 q2 => k a V' (by rw [sumI_0]; omega) q1 q2)⟩, fun c => by omega⟩
    rw [paidTo_0, ← clrTo_e w, ← e]
    exact h
  | m + 1, a, i, V, hi, hm, h, k => by
    have hn := wn w
    have en := m_n h
    have e4 := m_4 h (f := i / 2) (t := i % 2) (by omega) (by omega) (by omega)
    have h1 := m_puts4 (x := -1) h (g := i / 2) (u := i % 2) (by omega) (by omega) (by omega)
    rw [show 2 * (i / 2) + i % 2 = i from by omega] at e4 h1
    rw [clrTo_s s hi] at h1
    have e5 : clrTo s i 4 i = s 4 i := by unfold clrTo; rw [if_neg (by omega)]
    have eg : gLe s i = if s 4 i = -1 then 0 else 1 := rfl
    have es := sumI_s (gLe s) m i
    have ih := fun a => m_sea1 w m a (i + 1) _ (by omega) (by omega) h1
    clear m_sea1
    unfold m12_ended_L4 m12_ended_J43
    refine ⟨by omega, by omega, fun c => by omega, fun c => ⟨by omega, by omega, by omega, fun d => ⟨by omega, ih _ (fun r V' hr q1 q2 => k r V' ?_ q1 (frM_t (frM_s6 (frM_r _)) q2))⟩, fun d => ⟨by omega, ih _ (fun r V' hr q1 q2 => k r V' ?_ q1 (frM_t (frM_s6 (frM_r _)) q2))⟩⟩⟩
    · rw [if_neg (by omega)] at eg
      omega
    · rw [if_pos (by omega)] at eg
      omega
theorem m_season (h : cM V n s) (w : zwf n s) (k : ∀ r V', r = tLe n s → 0 ≤ r → r ≤ 16 → cM V' n (seaS s) → frM V V' → Q r V') : m12_ended V Q := by
  have hn := wn w
  have q := tLe_in w
  refine ⟨2 * n.toNat + 1, m_sea1 w (2 * n.toNat) 0 0 V (by omega) (by omega) ?_ (fun r V' hr q1 q2 => ?_)⟩
  · rw [clrTo_0]
    exact h
  · have e : r = tLe n s := by
      rw [hr]
      exact Int.zero_add _
    exact k r V' e (by omega) (by omega) q1 q2
end SEA
