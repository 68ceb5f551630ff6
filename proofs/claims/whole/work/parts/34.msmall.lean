/-! ===== the plain model: what its small methods say ===== -/
section MI
variable {V : zV} {n : Int} {s : zS} {Q : Int → zV → Prop}
theorem m_in {a lo hi : Int} (ha : inR a) (hl : inR lo) (hh : inR hi) (k : ∀ r, r = (if lo ≤ a ∧ a ≤ hi then 1 else 0) → 0 ≤ r → r ≤ 1 → Q r V) : m12_in V a lo hi Q := by
  unfold m12_in
  refine ⟨z_R2L ha, z_R2L hl, fun c => k _ ?_ (by omega) (by omega), fun c => ⟨z_R2L hh, fun d => k _ ?_ (by omega) (by omega), fun d => k _ ?_ (by omega) (by omega)⟩⟩
  · rw [if_neg (by omega)]
  · rw [if_neg (by omega)]
  · rw [if_pos (by omega)]
theorem m_isStruck (h : cM V n s) (w : zwf n s) {f : Int} (hf : 0 ≤ f ∧ f < n) (k : ∀ r, r = s 5 f → 0 ≤ r → r ≤ 1 → Q r V) : m12_isStruck V f Q := by
  have hn := wn w
  have e5 := m_5 h (f := f) (by omega) (by omega)
  have b5 := w5 w (f := f) (by omega) (by omega)
  unfold m12_isStruck
  (repeat' (first | omega | with_reducible apply And.intro | intro _ | with_reducible apply k))
theorem m_isAlive (h : cM V n s) (w : zwf n s) {p : Int} (hp : 0 ≤ p ∧ p < 6) (k : ∀ r, r = s 2 p → 0 ≤ r → r ≤ 1 → Q r V) : m12_isAlive V p Q := by
  have hn := wn w
  have e0 := m_0 h (p := p) (by omega) (by omega)
  have e1 := m_1 h (p := p) (by omega) (by omega)
  have e2 := m_2 h (p := p) (by omega) (by omega)
  have b0 := w0 w (p := p) (by omega) (by omega)
  have b1 := w1 w (p := p) (by omega) (by omega)
  have b2 := w2 w (p := p) (by omega) (by omega)
  unfold m12_isAlive
  (repeat' (first | omega | with_reducible apply And.intro | intro _ | with_reducible apply k))
theorem m_ownerOf (h : cM V n s) (w : zwf n s) {f t : Int} (hf : 0 ≤ f ∧ f < n) (ht : 0 ≤ t ∧ t ≤ 1) (k : ∀ r, r = s 3 (2 * f + t) → -1 ≤ r → r ≤ 5 → Q r V) : m12_ownerOf V f t Q := by
  have hn := wn w
  have e3 := m_3 h (f := f) (t := t) (by omega) (by omega) (by omega)
  have e4 := m_4 h (f := f) (t := t) (by omega) (by omega) (by omega)
  have b3 := w3 w (j := 2 * f + t) (by omega) (by omega)
  have b4 := w4 w (j := 2 * f + t) (by omega) (by omega)
  unfold m12_ownerOf
  (repeat' (first | omega | with_reducible apply And.intro | intro _ | with_reducible apply k))
theorem m_borrowerOf (h : cM V n s) (w : zwf n s) {f t : Int} (hf : 0 ≤ f ∧ f < n) (ht : 0 ≤ t ∧ t ≤ 1) (k : ∀ r, r = s 4 (2 * f + t) → -1 ≤ r → r ≤ 5 → Q r V) : m12_borrowerOf V f t Q := by
  have hn := wn w
  have e3 := m_3 h (f := f) (t := t) (by omega) (by omega) (by omega)
  have e4 := m_4 h (f := f) (t := t) (by omega) (by omega) (by omega)
  have b3 := w3 w (j := 2 * f + t) (by omega) (by omega)
  have b4 := w4 w (j := 2 * f + t) (by omega) (by omega)
  unfold m12_borrowerOf
  (repeat' (first | omega | with_reducible apply And.intro | intro _ | with_reducible apply k))
theorem m_onSide (h : cM V n s) (w : zwf n s) {f t : Int} (hf : 0 ≤ f ∧ f < n) (ht : 0 ≤ t ∧ t ≤ 1) (k : ∀ r, r = onS s (2 * f + t) → -1 ≤ r → r ≤ 5 → Q r V) : m12_onSide V f t Q := by
  have hn := wn w
  unfold m12_onSide
  (repeat' (first | omega | with_reducible apply And.intro | intro _ | with_reducible refine m_ownerOf h w (by omega) (by omega) ?_ | with_reducible refine m_borrowerOf h w (by omega) (by omega) ?_ | with_reducible apply k)) <;> (simp only [onS] at *; (repeat' split at *) <;> omega)
theorem m_hasT_end {p f a : Int} (h : cM V n s) (w : zwf n s) (hf : 0 ≤ f ∧ f < n) (hp : 0 ≤ p) (ha : a = hasT s p f) (m : Nat) (k : ∀ r, r = hasT s p f → 0 ≤ r → r ≤ 1 → Q r V) : m12_hasToDo_L5 Q (m + 1) p f a 7 V := by
  have hn := wn w
  have q := hasT_in s p f
  have z0 := fun d => wst2 w (f := f) (t := 0) hf.1 hf.2 (by omega) d
  have z1 := fun d => wst2 w (f := f) (t := 1) hf.1 hf.2 (by omega) d
  unfold m12_hasToDo_L5
  refine ⟨by omega, fun _ => ⟨by omega, fun c => k _ (by omega) (by omega) (by omega), fun c => ?_⟩, fun c => by omega⟩
  refine m_isStruck h w hf (fun r hr r1 r2 => ⟨by omega, fun c1 => ?_, fun c1 => k _ (by omega) (by omega) (by omega)⟩)
  exfalso
  have d : s 5 f = 1 := by omega
  have y0 := z0 d
  have y1 := z1 d
  unfold hasT at ha
  rw [y0.1, y0.2, y1.1, y1.2] at ha
  split at ha <;> omega
theorem m_hasT_step {p f a b i x : Int} (m : Nat) (hf : 0 ≤ f ∧ f < 8) (hi : 3 ≤ i ∧ i < 7) (hp : 0 ≤ p ∧ p < 6) (ha : a = 0 ∨ a = 1) (hx : V 56 (7 * f + i).toNat = x) (hb : b = if a = 1 ∨ x = p then 1 else 0) (k : m12_hasToDo_L5 Q m p f b (i + 1) V) : m12_hasToDo_L5 Q (m + 1) p f a i V := by
  unfold m12_hasToDo_L5
  refine ⟨by omega, fun c => by omega, fun c => ⟨by omega, fun d => ?_, fun d => ⟨by omega, by omega, fun e => ?_, fun e => ?_⟩⟩⟩
  · rw [if_pos (by omega)] at hb
    rw [hb] at k
    exact k
  · rw [if_neg (by omega)] at hb
    rw [hb] at k
    exact k
  · rw [if_pos (by omega)] at hb
    rw [hb] at k
    exact k
theorem m_hasT (h : cM V n s) (w : zwf n s) {p f : Int} (hf : 0 ≤ f ∧ f < n) (hp : 0 ≤ p ∧ p < 6) (k : ∀ r, r = hasT s p f → 0 ≤ r → r ≤ 1 → Q r V) : m12_hasToDo V p f Q := by
  have hn := wn w
  have e3 := m_3 h (f := f) (t := 0) hf.1 hf.2 (by omega)
  have e4 := m_3 h (f := f) (t := 1) hf.1 hf.2 (by omega)
  have e5 := m_4 h (f := f) (t := 0) hf.1 hf.2 (by omega)
  have e6 := m_4 h (f := f) (t := 1) hf.1 hf.2 (by omega)
  rw [show 7 * f + 3 + 0 = 7 * f + 3 from by omega] at e3
  rw [show 7 * f + 3 + 1 = 7 * f + (3 + 1) from by omega] at e4
  rw [show 7 * f + 5 + 0 = 7 * f + (3 + 1 + 1) from by omega] at e5
  rw [show 7 * f + 5 + 1 = 7 * f + (3 + 1 + 1 + 1) from by omega] at e6
  refine ⟨5, m_hasT_step 4 (by omega) (by omega) hp (by omega) e3 rfl (m_hasT_step 3 (by omega) (by omega) hp (by split <;> omega) e4 rfl (m_hasT_step 2 (by omega) (by omega) hp (by split <;> omega) e5 rfl (m_hasT_step 1 (by omega) (by omega) hp (by split <;> omega) e6 rfl (m_hasT_end h w hf hp.1 ?_ 0 k))))⟩
  unfold hasT
  repeat' split
  all_goals omega
theorem m_price (h : cM V n s) (w : zwf n s) {f t : Int} (hf : 0 ≤ f ∧ f < n) (ht : 0 ≤ t ∧ t ≤ 1) (k : ∀ r, r = priS s f t → 1 ≤ r → r ≤ 21 → Q r V) : m12_priceOf V f t Q := by
  have hn := wn w
  have q := w67 w hf.1 hf.2
  have e6 := m_6 h hf.1 hf.2
  have e7 := m_7 h hf.1 hf.2
  have q2 := fpK_in (k := s 6 f) q.2
  unfold m12_priceOf m12_priceOf_J57
  rw [e6, e7]
  (repeat' (first | omega | with_reducible apply And.intro | intro _ | with_reducible refine m_ownerOf h w (by omega) (by omega) ?_ | with_reducible apply k)) <;> (simp only [priS, fpK] at *; (repeat' split at *) <;> omega)
theorem m_canBuy (h : cM V n s) (w : zwf n s) {p f t : Int} (hp : 0 ≤ p ∧ p < 6) (hf : 0 ≤ f ∧ f < n) (ht : 0 ≤ t ∧ t ≤ 1) (k : ∀ r, r = canS s p f t → 0 ≤ r → r ≤ 1 → Q r V) : m12_canBuy V p f t Q := by
  have hn := wn w
  have e0 := m_0 h (p := p) (by omega) (by omega)
  have e1 := m_1 h (p := p) (by omega) (by omega)
  have e2 := m_2 h (p := p) (by omega) (by omega)
  have b0 := w0 w (p := p) (by omega) (by omega)
  have b1 := w1 w (p := p) (by omega) (by omega)
  have b2 := w2 w (p := p) (by omega) (by omega)
  unfold m12_canBuy
  (repeat' (first | omega | with_reducible apply And.intro | intro _ | with_reducible refine m_isStruck h w (by omega) ?_ | with_reducible refine m_borrowerOf h w (by omega) (by omega) ?_ | with_reducible refine m_isAlive h w (by omega) ?_ | with_reducible refine m_hasT h w (by omega) (by omega) ?_ | with_reducible refine m_price h w (by omega) (by omega) ?_ | with_reducible apply k)) <;> (simp only [canS] at *; (repeat' split at *) <;> omega)
theorem m_areOn (h : cM V n s) (w : zwf n s) {f a b : Int} (hf : 0 ≤ f ∧ f < n) (ha : 0 ≤ a ∧ a < 6) (hb : 0 ≤ b ∧ b < 6) (k : ∀ r, r = bothS s f a b → 0 ≤ r → r ≤ 1 → Q r V) : m12_areOn V f a b Q := by
  have hn := wn w
  have z0 : s 5 f = 1 → onS s (2 * f + 0) = -1 := by
    intro d
    have := wst2 w (f := f) (t := 0) hf.1 hf.2 (by omega) d
    unfold onS
    split <;> omega
  unfold m12_areOn m12_areOn_J28
  (repeat' (first | omega | with_reducible apply And.intro | intro _ | with_reducible refine m_isStruck h w (by omega) ?_ | with_reducible refine m_onSide h w (by omega) (by omega) ?_ | with_reducible apply k)) <;> (simp only [bothS] at *; (repeat' split at *) <;> omega)
theorem m_capped {x : Int} (hx : inR x) (k : ∀ r, r = capS x → Q r V) : m12_capped V x Q := by
  unfold m12_capped
  refine ⟨hx, fun c => k _ ?_, fun c => k _ ?_⟩
  all_goals
    unfold capS
    split <;> omega
theorem m_bought (h : cM V n s) (w : zwf n s) {p f t : Int} (hp : 0 ≤ p ∧ p < 6) (hf : 0 ≤ f ∧ f < n) (ht : 0 ≤ t ∧ t ≤ 1) (hc : canS s p f t = 1) (k : ∀ r V', r = priS s f t → 1 ≤ r → r ≤ 21 → cM V' n (sellS s p f t) → zwf n (sellS s p f t) → frM V V' → Q r V') : m12_bought V p f t Q := by
  have hn := wn w
  have h5 : s 5 f = 0 := by
    have := w5 w hf.1 (by omega)
    unfold canS at hc
    split at hc <;> omega
  have hm : priS s f t ≤ s 0 p := by
    unfold canS at hc
    split at hc <;> omega
  have b := w0 w hp.1 hp.2
  have b3 := w3 w (j := 2 * f + t) (by omega) (by omega)
  have ws := w_sell w hp hf ht h5 hm
  unfold m12_bought
  refine m_price h w hf ht (fun r hr r1 r2 => m_ownerOf h w hf ht (fun q hq q1 q2 => ?_))
  rw [m_0 h hp.1 hp.2]
  have h1 := m_puts0 (x := s 0 p - r) h hp.1 hp.2
  have w1 : zwf n (iset s 0 p (s 0 p - r)) := w_puts0 w (by omega)
  have f1 : frM V (vset V 57 (3 * p).toNat (s 0 p - r)) := frM_s7 (frM_r _)
  generalize hV : vset V 57 (3 * p).toNat (s 0 p - r) = V1 at h1 f1 ⊢
  refine ⟨by omega, by omega, by omega, by omega, fun c => ?_, fun c => ⟨by omega, ?_⟩⟩
  · unfold m12_bought_J59
    refine ⟨by omega, by omega, k _ _ hr r1 r2 ?_ ws (frM_s6 f1)⟩
    unfold sellS
    rw [if_pos (by omega), ← hr]
    exact m_puts3 h1 hf.1 hf.2 ht
  · have bq := w0 w1 (p := q) (by omega) (by omega)
    rw [m_0 h1 (p := q) (by omega) (by omega)]
    refine m_capped (by omega) (fun y hy => ?_)
    have by' := capS_in (x := iset s 0 p (s 0 p - r) 0 q + r) (by omega)
    rw [← hy] at by'
    refine ⟨by omega, by omega, ?_⟩
    unfold m12_bought_J59
    refine ⟨by omega, by omega, k _ _ hr r1 r2 ?_ ws (frM_s6 (frM_s7 f1))⟩
    unfold sellS
    rw [if_neg (by omega), ← hr, ← hq]
    unfold payS
    rw [← hy]
    exact m_puts3 (m_puts0 h1 (by omega) (by omega)) hf.1 hf.2 ht
end MI
