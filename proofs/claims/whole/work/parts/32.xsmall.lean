/-! ===== the class's isle: what its small methods say ===== -/
def onS (s : zS) (j : Int) : Int := if s 4 j = -1 then s 3 j else s 4 j
def lenS (s : zS) (j : Int) : Int := if s 4 j = -1 then -1 else s 3 j
def hasT (s : zS) (p f : Int) : Int := if s 3 (2 * f + 0) = p ∨ s 4 (2 * f + 0) = p ∨ s 3 (2 * f + 1) = p ∨ s 4 (2 * f + 1) = p then 1 else 0
def hasW (s : zS) (p j : Int) : Int := if s 3 j = p ∨ s 4 j = p then 1 else 0
def opS (s : zS) (f j : Int) : Int := if s 5 f = 0 ∧ s 3 j = -1 then 1 else 0
def leB (s : zS) (j : Int) : Int := if s 4 j = -1 then 0 else 1
def priS (s : zS) (f t : Int) : Int := if s 3 (2 * f + (1 - t)) = -1 then (fpK (s 6 f) (s 7 f) + 1) / 2 else fpK (s 6 f) (s 7 f)
def canS (s : zS) (p f t : Int) : Int := if s 5 f = 1 ∨ s 4 (2 * f + t) ≠ -1 ∨ s 2 p = 0 ∨ hasT s p f = 1 ∨ s 0 p < priS s f t then 0 else 1
theorem fpK_in {k w : Int} (h : 1 ≤ w ∧ w ≤ 9) : 1 ≤ fpK k w ∧ fpK k w ≤ 21 := by
  unfold fpK
  repeat' split
  all_goals omega
theorem onS_in {n : Int} {s : zS} (w : zwf n s) {j : Int} (a : 0 ≤ j) (b : j < 16) : -1 ≤ onS s j ∧ onS s j ≤ 5 := by
  have h3 := w3 w a b
  have h4 := w4 w a b
  unfold onS
  split <;> omega
theorem priS_in {n : Int} {s : zS} (w : zwf n s) {f : Int} (t : Int) (a : 0 ≤ f) (b : f < n) : 1 ≤ priS s f t ∧ priS s f t ≤ 21 := by
  have h := fpK_in (k := s 6 f) (w67 w a b).2
  unfold priS
  split <;> omega
theorem hasT_in (s : zS) (p f : Int) : hasT s p f = 0 ∨ hasT s p f = 1 := by
  unfold hasT
  split <;> omega
section XI
variable {S : List zC} {V : zV} {o : Nat} {n : Int} {s : zS} {Q : Int → zV → Prop}
theorem x_onSide (h : cX S V o n s) (w : zwf n s) {f t : Int} (hf : 0 ≤ f ∧ f < 8) (ht : 0 ≤ t ∧ t ≤ 1) (k : ∀ r, r = onS s (2 * f + t) → -1 ≤ r → r ≤ 5 → Q r V) : m4_onSide S o V f t Q := by
  have hn := wn w
  have e3 := x_3 h (j := 2 * f + t) (by omega) (by omega)
  have e4 := x_4 h (j := 2 * f + t) (by omega) (by omega)
  have b3 := w3 w (j := 2 * f + t) (by omega) (by omega)
  have b4 := w4 w (j := 2 * f + t) (by omega) (by omega)
  unfold m4_onSide
  (repeat' (first | omega | with_reducible apply And.intro | intro _ | with_reducible apply k)) <;> (unfold onS; (repeat' split) <;> omega)
theorem x_lenderOf (h : cX S V o n s) (w : zwf n s) {f t : Int} (hf : 0 ≤ f ∧ f < 8) (ht : 0 ≤ t ∧ t ≤ 1) (k : ∀ r, r = lenS s (2 * f + t) → -1 ≤ r → r ≤ 5 → Q r V) : m4_lenderOf S o V f t Q := by
  have hn := wn w
  have e3 := x_3 h (j := 2 * f + t) (by omega) (by omega)
  have e4 := x_4 h (j := 2 * f + t) (by omega) (by omega)
  have b3 := w3 w (j := 2 * f + t) (by omega) (by omega)
  have b4 := w4 w (j := 2 * f + t) (by omega) (by omega)
  unfold m4_lenderOf
  (repeat' (first | omega | with_reducible apply And.intro | intro _ | with_reducible apply k)) <;> (unfold lenS; (repeat' split) <;> omega)
theorem x_isOpen (h : cX S V o n s) (w : zwf n s) {f t : Int} (hf : 0 ≤ f ∧ f < 8) (ht : 0 ≤ t ∧ t ≤ 1) (k : ∀ r, r = opS s f (2 * f + t) → 0 ≤ r → r ≤ 1 → Q r V) : m4_isOpen S o V f t Q := by
  have hn := wn w
  have e3 := x_3 h (j := 2 * f + t) (by omega) (by omega)
  have e4 := x_4 h (j := 2 * f + t) (by omega) (by omega)
  have b3 := w3 w (j := 2 * f + t) (by omega) (by omega)
  have b4 := w4 w (j := 2 * f + t) (by omega) (by omega)
  have e5 := x_5 h (f := f) (by omega) (by omega)
  have b5 := w5 w (f := f) (by omega) (by omega)
  unfold m4_isOpen
  (repeat' (first | omega | with_reducible apply And.intro | intro _ | with_reducible apply k)) <;> (unfold opS; (repeat' split) <;> omega)
theorem x_isLent (h : cX S V o n s) (w : zwf n s) {f t : Int} (hf : 0 ≤ f ∧ f < 8) (ht : 0 ≤ t ∧ t ≤ 1) (k : ∀ r, r = leB s (2 * f + t) → 0 ≤ r → r ≤ 1 → Q r V) : m4_isLent S o V f t Q := by
  have hn := wn w
  have e3 := x_3 h (j := 2 * f + t) (by omega) (by omega)
  have e4 := x_4 h (j := 2 * f + t) (by omega) (by omega)
  have b3 := w3 w (j := 2 * f + t) (by omega) (by omega)
  have b4 := w4 w (j := 2 * f + t) (by omega) (by omega)
  unfold m4_isLent
  (repeat' (first | omega | with_reducible apply And.intro | intro _ | with_reducible apply k)) <;> (unfold leB; (repeat' split) <;> omega)
theorem x_hasW (h : cX S V o n s) (w : zwf n s) {p f t : Int} (hf : 0 ≤ f ∧ f < 8) (ht : 0 ≤ t ∧ t ≤ 1) (hp : -1 ≤ p ∧ p ≤ 5) (k : ∀ r, r = hasW s p (2 * f + t) → 0 ≤ r → r ≤ 1 → Q r V) : m4_hasToDoWithSide S o V p f t Q := by
  have hn := wn w
  have e3 := x_3 h (j := 2 * f + t) (by omega) (by omega)
  have e4 := x_4 h (j := 2 * f + t) (by omega) (by omega)
  have b3 := w3 w (j := 2 * f + t) (by omega) (by omega)
  have b4 := w4 w (j := 2 * f + t) (by omega) (by omega)
  unfold m4_hasToDoWithSide
  (repeat' (first | omega | with_reducible apply And.intro | intro _ | with_reducible apply k)) <;> (unfold hasW; (repeat' split) <;> omega)
theorem x_hasT (h : cX S V o n s) (w : zwf n s) {p f : Int} (hf : 0 ≤ f ∧ f < 8) (hp : -1 ≤ p ∧ p ≤ 5) (k : ∀ r, r = hasT s p f → 0 ≤ r → r ≤ 1 → Q r V) : m4_hasToDo S o V p f Q := by
  have hn := wn w
  unfold m4_hasToDo
  (repeat' (first | omega | with_reducible apply And.intro | intro _ | with_reducible refine x_hasW h w (by omega) (by omega) (by omega) ?_ | with_reducible apply k)) <;> (simp only [hasW, hasT] at *; (repeat' split at *) <;> omega)
theorem x_price (h : cX S V o n s) (w : zwf n s) {f t : Int} (hf : 0 ≤ f ∧ f < n) (ht : 0 ≤ t ∧ t ≤ 1) (h5 : s 5 f = 0) (k : ∀ r, r = priS s f t → 1 ≤ r → r ≤ 21 → Q r V) : m4_priceOf S o V f t Q := by
  have hn := wn w
  have q := fpK_in (k := s 6 f) (w67 w hf.1 hf.2).2
  have e6 := x_6 h hf.1 hf.2
  have e7 := x_7 h hf.1 hf.2
  have e8 : fpS S f.toNat = fpK (s 6 f) (s 7 f) := by
    unfold fpS
    rw [e6, e7]
  unfold m4_priceOf
  rw [e8]
  (repeat' (first | omega | with_reducible apply And.intro | intro _ | with_reducible refine x_isOpen h w (by omega) (by omega) ?_ | with_reducible apply k)) <;> (simp only [opS, priS] at *; (repeat' split at *) <;> omega)
theorem x_told (h : cX S V o n s) (w : zwf n s) {f t : Int} (hf : 0 ≤ f ∧ f < n) (ht : 0 ≤ t ∧ t ≤ 1) (k : ∀ r, r = (if s 5 f = 1 then -1 else priS s f t) → -1 ≤ r → r ≤ 21 → Q r V) : m4_toldPrice S o V f t Q := by
  have hn := wn w
  have e5 := x_5 h (f := f) (by omega) (by omega)
  have b5 := w5 w (f := f) (by omega) (by omega)
  unfold m4_toldPrice
  (repeat' (first | omega | with_reducible apply And.intro | intro _ | with_reducible refine x_price h w (by omega) (by omega) (by omega) ?_ | with_reducible apply k)) <;> ((repeat' split) <;> omega)
theorem x_canBuy (h : cX S V o n s) (w : zwf n s) {p f t : Int} (hp : 0 ≤ p ∧ p < 6) (hf : 0 ≤ f ∧ f < n) (ht : 0 ≤ t ∧ t ≤ 1) (k : ∀ r, r = canS s p f t → 0 ≤ r → r ≤ 1 → Q r V) : m4_canBuy S o V p f t Q := by
  have hn := wn w
  have e5 := x_5 h (f := f) (by omega) (by omega)
  have b5 := w5 w (f := f) (by omega) (by omega)
  have e0 := x_0 h (p := p) (by omega) (by omega)
  have e1 := x_1 h (p := p) (by omega) (by omega)
  have e2 := x_2 h (p := p) (by omega) (by omega)
  have b0 := w0 w (p := p) (by omega) (by omega)
  have b1 := w1 w (p := p) (by omega) (by omega)
  have b2 := w2 w (p := p) (by omega) (by omega)
  unfold m4_canBuy
  (repeat' (first | omega | with_reducible apply And.intro | intro _ | with_reducible refine x_isLent h w (by omega) (by omega) ?_ | with_reducible refine x_hasT h w (by omega) (by omega) ?_ | with_reducible refine x_price h w (by omega) (by omega) (by omega) ?_ | with_reducible apply k)) <;> (simp only [leB, canS] at *; (repeat' split at *) <;> omega)
end XI
