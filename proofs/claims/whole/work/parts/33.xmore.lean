/-! ===== the class's isle: more small methods ===== -/
def lenC (s : zS) (f t q : Int) : Int := if s 5 f = 1 ∨ s 3 (2 * f + t) = -1 ∨ s 4 (2 * f + t) ≠ -1 ∨ leK (s 6 f) = 0 ∨ s 2 q = 0 ∨ hasT s q f = 1 then 0 else 1
def strC (s : zS) (f : Int) : Int := if s 5 f = 1 ∨ s 4 (2 * f + 0) ≠ -1 ∨ s 4 (2 * f + 1) ≠ -1 ∨ moK (s 6 f) < opS s f (2 * f + 0) + opS s f (2 * f + 1) then 0 else 1
def bothS (s : zS) (f a b : Int) : Int := if (onS s (2 * f + 0) = a ∧ onS s (2 * f + 1) = b) ∨ (onS s (2 * f + 0) = b ∧ onS s (2 * f + 1) = a) then 1 else 0
def capS (x : Int) : Int := if x < 99 then x else 99
def payS (s : zS) (p c : Int) : zS := iset s 0 p (capS (s 0 p + c))
def sellS (s : zS) (p f t : Int) : zS := iset (if s 3 (2 * f + t) = -1 then iset s 0 p (s 0 p - priS s f t) else payS (iset s 0 p (s 0 p - priS s f t)) (s 3 (2 * f + t)) (priS s f t)) 3 (2 * f + t) p
/-- nothing but the isle at o has changed -/
def frX (o : Nat) (V V' : zV) : Prop := ∀ c j, (c < o + 1 ∨ o + 6 < c) → V' c j = V c j
def frM (V V' : zV) : Prop := ∀ c j, c ≠ 56 → c ≠ 57 → V' c j = V c j
theorem frX_r (o : Nat) (V : zV) : frX o V V := fun _ _ _ => rfl
theorem frX_t {o : Nat} {V V1 V2 : zV} (h : frX o V V1) (k : frX o V1 V2) : frX o V V2 := fun c j q => (k c j q).trans (h c j q)
theorem frX_s {o : Nat} {V V1 : zV} (h : frX o V V1) {c k : Nat} {x : Int} (a : o + 1 ≤ c) (b : c ≤ o + 6) : frX o V (vset V1 c k x) := fun c' j q => (vset_cell (by omega)).trans (h c' j q)
theorem frM_r (V : zV) : frM V V := fun _ _ _ _ => rfl
theorem frM_t {V V1 V2 : zV} (h : frM V V1) (k : frM V1 V2) : frM V V2 := fun c j q q2 => (k c j q q2).trans (h c j q q2)
theorem frM_s6 {V V1 : zV} (h : frM V V1) {k : Nat} {x : Int} : frM V (vset V1 56 k x) := fun c' j q q2 => (vset_cell q).trans (h c' j q q2)
theorem frM_s7 {V V1 : zV} (h : frM V V1) {k : Nat} {x : Int} : frM V (vset V1 57 k x) := fun c' j q q2 => (vset_cell q2).trans (h c' j q q2)
theorem capS_in {x : Int} (h : 0 ≤ x) : 0 ≤ capS x ∧ capS x ≤ 99 := by
  unfold capS
  split <;> omega
theorem w_pay {n : Int} {s : zS} (w : zwf n s) {p c : Int} (hp : 0 ≤ p ∧ p < 6) (hc : 0 ≤ c) : zwf n (payS s p c) := by
  have b := w0 w hp.1 hp.2
  exact w_puts0 w (capS_in (by omega))
theorem w_sell {n : Int} {s : zS} (w : zwf n s) {p f t : Int} (hp : 0 ≤ p ∧ p < 6) (hf : 0 ≤ f ∧ f < n) (ht : 0 ≤ t ∧ t ≤ 1) (h5 : s 5 f = 0) (hm : priS s f t ≤ s 0 p) : zwf n (sellS s p f t) := by
  have b := w0 w hp.1 hp.2
  have q := priS_in w t hf.1 hf.2
  have b3 := w3 w (j := 2 * f + t) (by omega) (by have := wn w; omega)
  have w1 : zwf n (iset s 0 p (s 0 p - priS s f t)) := w_puts0 w (by omega)
  unfold sellS
  refine w_puts3 ?_ (by omega) (by omega) (by omega) ?_
  · split
    · exact w1
    · exact w_pay w1 (by omega) (by omega)
  · intro e
    rw [show (2 * f + t) / 2 = f from by omega] at e
    have : s 5 f = 1 := by
      split at e
      · rw [iset_row (by decide)] at e; exact e
      · unfold payS at e
        rw [iset_row (by decide), iset_row (by decide)] at e; exact e
    omega
section XI2
variable {S : List zC} {V : zV} {o : Nat} {n : Int} {s : zS} {Q : Int → zV → Prop}
theorem x_canLend (h : cX S V o n s) (w : zwf n s) {f t q : Int} (hf : 0 ≤ f ∧ f < n) (ht : 0 ≤ t ∧ t ≤ 1) (hq : 0 ≤ q ∧ q < 6) (k : ∀ r, r = lenC s f t q → 0 ≤ r → r ≤ 1 → Q r V) : m4_canLend S o V f t q Q := by
  have hn := wn w
  have e5 := x_5 h (f := f) (by omega) (by omega)
  have b5 := w5 w (f := f) (by omega) (by omega)
  have e0 := x_0 h (p := q) (by omega) (by omega)
  have e1 := x_1 h (p := q) (by omega) (by omega)
  have e2 := x_2 h (p := q) (by omega) (by omega)
  have b0 := w0 w (p := q) (by omega) (by omega)
  have b1 := w1 w (p := q) (by omega) (by omega)
  have b2 := w2 w (p := q) (by omega) (by omega)
  have e6 := x_6 h hf.1 hf.2
  have e8 : leS S f.toNat = leK (s 6 f) := by
    unfold leS
    rw [e6]
  have e9 : 0 ≤ leK (s 6 f) ∧ leK (s 6 f) ≤ 1 := by
    unfold leK
    split <;> omega
  unfold m4_canLend
  rw [e8]
  (repeat' (first | omega | with_reducible apply And.intro | intro _ | with_reducible refine x_isOpen h w (by omega) (by omega) ?_ | with_reducible refine x_isLent h w (by omega) (by omega) ?_ | with_reducible refine x_hasT h w (by omega) (by omega) ?_ | with_reducible apply k)) <;> (simp only [opS, leB, lenC] at *; (repeat' split at *) <;> omega)
theorem x_canStrike (h : cX S V o n s) (w : zwf n s) {f : Int} (hf : 0 ≤ f ∧ f < n) (k : ∀ r, r = strC s f → 0 ≤ r → r ≤ 1 → Q r V) : m4_canStrike S o V f Q := by
  have hn := wn w
  have e5 := x_5 h (f := f) (by omega) (by omega)
  have b5 := w5 w (f := f) (by omega) (by omega)
  have e6 := x_6 h hf.1 hf.2
  have e8 : moS S f.toNat = moK (s 6 f) := by
    unfold moS
    rw [e6]
  have e9 : 0 ≤ moK (s 6 f) ∧ moK (s 6 f) ≤ 1 := by
    unfold moK
    split <;> omega
  unfold m4_canStrike m4_canStrike_J14 m4_canStrike_J28
  rw [e8]
  (repeat' (first | omega | with_reducible apply And.intro | intro _ | with_reducible refine x_isOpen h w (by omega) (by omega) ?_ | with_reducible refine x_isLent h w (by omega) (by omega) ?_ | with_reducible apply k)) <;> (simp only [leB, strC] at *; (repeat' split at *) <;> omega)
theorem x_both (h : cX S V o n s) (w : zwf n s) {f a b : Int} (hf : 0 ≤ f ∧ f < 8) (ha : -1 ≤ a ∧ a ≤ 5) (hb : -1 ≤ b ∧ b ≤ 5) (k : ∀ r, r = bothS s f a b → 0 ≤ r → r ≤ 1 → Q r V) : m4_areOnBothSides S o V f a b Q := by
  have hn := wn w
  unfold m4_areOnBothSides m4_areOnBothSides_J28
  (repeat' (first | omega | with_reducible apply And.intro | intro _ | with_reducible refine x_onSide h w (by omega) (by omega) ?_ | with_reducible apply k)) <;> (simp only [bothS] at *; (repeat' split at *) <;> omega)
theorem x_pay (h : cX S V o n s) (w : zwf n s) (ho : 14 ≤ o) {p c : Int} (hp : 0 ≤ p ∧ p < 6) (hc : 0 ≤ c ∧ c ≤ 99) {Q : zV → Prop} (k : ∀ V', cX S V' o n (payS s p c) → zwf n (payS s p c) → frX o V V' → Q V') : m4_pay S o V p c Q := by
  have b := w0 w hp.1 hp.2
  unfold m4_pay
  rw [x_0 h hp.1 hp.2]
  refine ⟨hp, by omega, hp, ?_, ?_⟩
  · split <;> omega
  · exact k _ (x_puts0 h hp.1 hp.2 ho) (w_pay w hp hc.1) (frX_s (frX_r _ _) (by omega) (by omega))
theorem x_sell (h : cX S V o n s) (w : zwf n s) (ho : 14 ≤ o) {p f t : Int} (hp : 0 ≤ p ∧ p < 6) (hf : 0 ≤ f ∧ f < n) (ht : 0 ≤ t ∧ t ≤ 1) (hc : canS s p f t = 1) (k : ∀ r V', r = priS s f t → 1 ≤ r → r ≤ 21 → cX S V' o n (sellS s p f t) → zwf n (sellS s p f t) → frX o V V' → Q r V') : m4_sellTo S o V p f t Q := by
  have hn := wn w
  have h5 : s 5 f = 0 := by
    have := w5 w hf.1 (by omega)
    unfold canS at hc
    split at hc <;> omega
  have hm : priS s f t ≤ s 0 p := by
    unfold canS at hc
    split at hc <;> omega
  have b := w0 w hp.1 hp.2
  have b3 := w3 w (j := 2 * f + t) (by omega) (by omega)
  have ws := w_sell w hp hf ht h5 hm
  unfold m4_sellTo
  refine x_price h w hf ht h5 (fun r hr r1 r2 => ?_)
  rw [x_0 h hp.1 hp.2]
  have h1 := x_puts0 (x := s 0 p - r) h hp.1 hp.2 ho
  have w1 : zwf n (iset s 0 p (s 0 p - r)) := w_puts0 w (by omega)
  have f1 : frX o V (vset V (o + 1) p.toNat (s 0 p - r)) := frX_s (frX_r _ _) (by omega) (by omega)
  generalize hV : vset V (o + 1) p.toNat (s 0 p - r) = V1 at h1 f1 ⊢
  have e3 := x_3 h1 (j := 2 * f + t) (by omega) (by omega)
  rw [iset_row (by decide)] at e3
  rw [e3]
  refine ⟨hp, hp, by omega, by omega, fun c => ⟨by omega, by omega, ?_⟩, fun c => ⟨by omega, ?_⟩⟩
  · refine k _ _ hr r1 r2 ?_ ws (frX_s f1 (by omega) (by omega))
    unfold sellS
    rw [if_pos c, ← hr]
    exact x_puts3 h1 (by omega) (by omega) ho
  · refine x_pay h1 w1 ho (by omega) (by omega) (fun V2 h2 w2 f2 => ⟨by omega, by omega, ?_⟩)
    refine k _ _ hr r1 r2 ?_ ws (frX_s (frX_t f1 f2) (by omega) (by omega))
    unfold sellS
    rw [if_neg c, ← hr]
    exact x_puts3 h2 (by omega) (by omega) ho
end XI2
