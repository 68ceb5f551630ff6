section OPS3
variable {S : List zC} {V : zV} {B n : Int} {s : zS} {K : zV → Prop}
theorem cM_frX {V1 : zV} {o : Nat} (h : cM V n s) (f : frX o V V1) (ho : o ≤ 46) : cM V1 n s := cM_fr h (f _ _ (by omega)) (fun j => f _ _ (by omega)) (fun j => f _ _ (by omega))
theorem m_heir_ (h : cM V n s) (w : zwf n s) {a b : Int} (ha : inR a) (hb : inR b) {Q : Int → zV → Prop} (k : ∀ r V', r = heR n s a b → -103 ≤ r → r ≤ 99 → (heK n s a b → cM V' n (iset s 1 a b)) → (¬ heK n s a b → cM V' n s) → frM V V' → Q r V') : m12_heir V a b Q := by
  have hn := wn w
  have k0 : ∀ r, ¬ heK n s a b → r = heR n s a b → -103 ≤ r → r ≤ 99 → Q r V := fun r c d e g => k r V d e g (fun z => absurd z c) (fun _ => h) (frM_r _)
  unfold heK heR at k0
  unfold m12_heir m12_heir_J19
  by_cases c : 0 ≤ a ∧ a < 6
  · have e1 := m_1 h c.1 c.2
    have b1 := w1 w c.1 c.2
    have k1 : heK n s a b → Q (V 57 ((3 * a) + 1).toNat) (vset V 57 ((3 * a) + 1).toNat b) := fun z => k _ _ (by unfold heR; unfold heK at z; rw [if_neg (by omega), if_neg (by omega)]; exact e1) (by omega) (by omega) (fun _ => m_puts1 h c.1 c.2) (fun y => absurd z y) (frM_s7 (frM_r _))
    unfold heK at k1
    clear k
    (repeat' (first | omega | with_reducible apply And.intro | intro _ | with_reducible refine m_isPerson ha ?_ | with_reducible refine m_isPerson hb ?_ | with_reducible refine m_lacks (m_n h) hn.1 ?_ | with_reducible refine m_isAlive h w c ?_ | with_reducible refine k0 _ ?_ ?_ ?_ ?_ | with_reducible apply k1)) <;> (simp only [isPS] at *; (repeat' split at *) <;> omega)
  · clear k
    refine m_isPerson ha (fun r hr r1 r2 => ⟨by omega, fun d => k0 _ (by omega) ?_ (by omega) (by omega), fun d => ?_⟩)
    · rw [if_pos (by omega)]
    · unfold isPS at hr
      rw [if_neg c] at hr
      omega
theorem op_heir (I : zInv S V B n s) {a b : Int} (ha : inR a) (hb : inR b) (k : ∀ V' s', zInv S V' B n s' → K V') : m11_heir S V a b (fun r V1 => m12_heir V1 a b (fun r' V2 => inR r ∧ inR r' ∧ ((r = r' → K V2) ∧ (¬ r = r' → False)))) := by
  obtain ⟨w, x, m, _⟩ := id I
  refine x_heir x w ha hb (fun r V1 hr r1 r2 a1 a2 f1 => m_heir_ (cM_frX m f1 (by omega)) w ha hb (fun r' V2 hr' _ _ b1 b2 f2 => fin2 hr hr' (by omega) ?_))
  by_cases c : heK n s a b
  · exact k V2 _ (zInv_isle I (w_puts1 w (by unfold heK at c; omega)) (a1 c) f1 (b1 c) f2)
  · exact k V2 _ (zInv_isle I w (a2 c) f1 (b2 c) f2)
def buyK (n : Int) (s : zS) (a f t : Int) : Prop := (0 ≤ a ∧ a < 6) ∧ (0 ≤ f ∧ f < n) ∧ (0 ≤ t ∧ t ≤ 1) ∧ canS s a f t = 1
def buyR (n : Int) (s : zS) (a f t : Int) : Int := if ¬ (0 ≤ a ∧ a < 6) ∨ ¬ (0 ≤ f ∧ f < n) then -101 else if ¬ (0 ≤ t ∧ t ≤ 1) then -102 else if canS s a f t = 1 then priS s f t else -103
theorem x_buy (h : cX S V 14 n s) (w : zwf n s) {a f t : Int} (ha : inR a) (hf : inR f) (ht : inR t) {Q : Int → zV → Prop} (k : ∀ r V', r = buyR n s a f t → -103 ≤ r → r ≤ 99 → (buyK n s a f t → cX S V' 14 n (sellS s a f t)) → (¬ buyK n s a f t → cX S V' 14 n s) → frX 14 V V' → Q r V') : m11_buy S V a f t Q := by
  have hn := wn w
  have k0 : ∀ r, ¬ buyK n s a f t → r = buyR n s a f t → -103 ≤ r → r ≤ 99 → Q r V := fun r c d e g => k r V d e g (fun z => absurd z c) (fun _ => h) (frX_r _ _)
  unfold buyK buyR at k0
  unfold m11_buy
  refine x_isPerson ha (fun r hr r1 r2 => ⟨by omega, fun d => ?_, fun d => x_isFeud (x_n h) hf (fun q hq q1 q2 => ⟨by omega, fun e => x_isBit ht (fun z hz z1 z2 => ⟨by omega, fun g => ?_, fun g => ?_⟩), fun e => ?_⟩)⟩)
  · simp only [isPS] at hr; exact k0 _ (by (repeat' split at *) <;> omega) (by (repeat' split at *) <;> omega) (by omega) (by omega)
  · have c1 : 0 ≤ a ∧ a < 6 := by
      unfold isPS at hr
      split at hr <;> omega
    have c2 : 0 ≤ f ∧ f < n := by
      unfold isFS at hq
      split at hq <;> omega
    have c3 : 0 ≤ t ∧ t ≤ 1 := by
      unfold isBS at hz
      split at hz <;> omega
    clear hr hq hz
    refine x_canBuy h w c1 c2 c3 (fun y hy y1 y2 => ⟨by omega, fun u => k0 _ (by omega) (by (repeat' split) <;> omega) (by omega) (by omega), fun u => ?_⟩)
    refine x_sell h w (by omega) c1 c2 c3 (by omega) (fun v V' hv v1 v2 hx _ hf' => k v V' ?_ (by omega) (by omega) (fun _ => hx) (fun no => absurd ⟨c1, c2, c3, by omega⟩ no) hf')
    unfold buyR
    rw [if_neg (by omega), if_neg (by omega), if_pos (by omega)]
    exact hv
  · simp only [isPS, isFS, isBS] at hr hq hz; exact k0 _ (by (repeat' split at *) <;> omega) (by (repeat' split at *) <;> omega) (by omega) (by omega)
  · simp only [isPS, isFS] at hr hq; exact k0 _ (by (repeat' split at *) <;> omega) (by (repeat' split at *) <;> omega) (by omega) (by omega)
theorem m_buy (h : cM V n s) (w : zwf n s) {a f t : Int} (ha : inR a) (hf : inR f) (ht : inR t) {Q : Int → zV → Prop} (k : ∀ r V', r = buyR n s a f t → -103 ≤ r → r ≤ 99 → (buyK n s a f t → cM V' n (sellS s a f t)) → (¬ buyK n s a f t → cM V' n s) → frM V V' → Q r V') : m12_buy V a f t Q := by
  have hn := wn w
  have k0 : ∀ r, ¬ buyK n s a f t → r = buyR n s a f t → -103 ≤ r → r ≤ 99 → Q r V := fun r c d e g => k r V d e g (fun z => absurd z c) (fun _ => h) (frM_r _)
  unfold buyK buyR at k0
  unfold m12_buy
  refine m_isPerson ha (fun r hr r1 r2 => ⟨by omega, fun d => ?_, fun d => m_isFeud (m_n h) hn hf (fun q hq q1 q2 => ⟨by omega, fun e => ⟨ht, m_in ht (by omega) (by omega) (fun z hz z1 z2 => ⟨by omega, fun g => ?_, fun g => ?_⟩)⟩, fun e => ?_⟩)⟩)
  · simp only [isPS] at hr; exact k0 _ (by (repeat' split at *) <;> omega) (by (repeat' split at *) <;> omega) (by omega) (by omega)
  · have c1 : 0 ≤ a ∧ a < 6 := by
      unfold isPS at hr
      split at hr <;> omega
    have c2 : 0 ≤ f ∧ f < n := by
      unfold isFS at hq
      split at hq <;> omega
    have c3 : 0 ≤ t ∧ t ≤ 1 := by
      skip
      split at hz <;> omega
    clear hr hq hz
    refine m_canBuy h w c1 c2 c3 (fun y hy y1 y2 => ⟨by omega, fun u => k0 _ (by omega) (by (repeat' split) <;> omega) (by omega) (by omega), fun u => ?_⟩)
    refine m_bought h w c1 c2 c3 (by omega) (fun v V' hv v1 v2 hx _ hf' => k v V' ?_ (by omega) (by omega) (fun _ => hx) (fun no => absurd ⟨c1, c2, c3, by omega⟩ no) hf')
    unfold buyR
    rw [if_neg (by omega), if_neg (by omega), if_pos (by omega)]
    exact hv
  · simp only [isPS, isFS] at hr hq; exact k0 _ (by (repeat' split at *) <;> omega) (by (repeat' split at *) <;> omega) (by omega) (by omega)
  · simp only [isPS, isFS] at hr hq; exact k0 _ (by (repeat' split at *) <;> omega) (by (repeat' split at *) <;> omega) (by omega) (by omega)
theorem op_buy (I : zInv S V B n s) {a f t : Int} (ha : inR a) (hf : inR f) (ht : inR t) (k : ∀ V' s', zInv S V' B n s' → K V') : m11_buy S V a f t (fun r V1 => m12_buy V1 a f t (fun r' V2 => inR r ∧ inR r' ∧ ((r = r' → K V2) ∧ (¬ r = r' → False)))) := by
  obtain ⟨w, x, m, _⟩ := id I
  refine x_buy x w ha hf ht (fun r V1 hr r1 r2 a1 a2 f1 => m_buy (cM_frX m f1 (by omega)) w ha hf ht (fun r' V2 hr' _ _ b1 b2 f2 => fin2 hr hr' (by omega) ?_))
  by_cases c : buyK n s a f t
  · exact k V2 _ (zInv_isle I (by
    obtain ⟨c1, c2, c3, c4⟩ := c
    have q5 := w5 w c2.1 (by have := wn w; omega)
    unfold canS at c4
    exact w_sell w c1 c2 c3 (by split at c4 <;> omega) (by split at c4 <;> omega)) (a1 c) f1 (b1 c) f2)
  · exact k V2 _ (zInv_isle I w (a2 c) f1 (b2 c) f2)
def deaK (n : Int) (s : zS) (p : Int) : Prop := (0 ≤ p ∧ p < 6) ∧ 0 < n ∧ s 2 p = 1
def deaR (n : Int) (s : zS) (p : Int) : Int := if ¬ (0 ≤ p ∧ p < 6) then -101 else if 0 < n ∧ s 2 p = 1 then dieC n s p else -103
theorem x_dea (h : cX S V 14 n s) (w : zwf n s) {p : Int} (hp : inR p) {Q : Int → zV → Prop} (k : ∀ r V', r = deaR n s p → -103 ≤ r → r ≤ 99 → (deaK n s p → cX S V' 14 n (dieS n s p)) → (¬ deaK n s p → cX S V' 14 n s) → frX 14 V V' → Q r V') : m11_death S V p Q := by
  have hn := wn w
  have k0 : ∀ r, ¬ deaK n s p → r = deaR n s p → -103 ≤ r → r ≤ 99 → Q r V := fun r c d e g => k r V d e g (fun z => absurd z c) (fun _ => h) (frX_r _ _)
  unfold deaK deaR at k0
  unfold m11_death
  refine x_isPerson hp (fun r hr r1 r2 => ⟨by omega, fun d => x_hasList (x_n h) (fun q hq q1 q2 => ⟨by omega, fun e => ?_, fun e => ?_⟩), fun d => ?_⟩)
  · simp only [isPS] at hr
    exact k0 _ (by (repeat' split at *) <;> omega) (by (repeat' split at *) <;> omega) (by omega) (by omega)
  · have c1 : 0 ≤ p ∧ p < 6 := by
      unfold isPS at hr
      split at hr <;> omega
    have c2 : 0 < n := by split at hq <;> omega
    have e2 := x_2 h c1.1 c1.2
    have b2 := w2 w c1.1 c1.2
    clear hr hq
    refine ⟨c1, fun u => k0 _ (by omega) (by (repeat' split) <;> omega) (by omega) (by omega), fun u => ?_⟩
    refine x_die h w (by omega) c1 (fun v V' hv v1 v2 hx hf' => k v V' ?_ (by omega) (by omega) (fun _ => hx) (fun no => absurd ⟨c1, c2, by omega⟩ no) hf')
    unfold deaR
    rw [if_neg (by omega), if_pos (by omega)]
    exact hv
  · simp only [isPS] at hr
    exact k0 _ (by (repeat' split at *) <;> omega) (by (repeat' split at *) <;> omega) (by omega) (by omega)
theorem m_dea (h : cM V n s) (w : zwf n s) {p : Int} (hp : inR p) {Q : Int → zV → Prop} (k : ∀ r V', r = deaR n s p → -103 ≤ r → r ≤ 99 → (deaK n s p → cM V' n (dieS n s p)) → (¬ deaK n s p → cM V' n s) → frM V V' → Q r V') : m12_death V p Q := by
  have hn := wn w
  have k0 : ∀ r, ¬ deaK n s p → r = deaR n s p → -103 ≤ r → r ≤ 99 → Q r V := fun r c d e g => k r V d e g (fun z => absurd z c) (fun _ => h) (frM_r _)
  unfold deaK deaR at k0
  unfold m12_death
  refine m_isPerson hp (fun r hr r1 r2 => ⟨by omega, fun d => m_lacks (m_n h) hn.1 (fun q hq q1 q2 => ⟨by omega, fun e => ?_, fun e => ?_⟩), fun d => ?_⟩)
  · simp only [isPS] at hr
    exact k0 _ (by (repeat' split at *) <;> omega) (by (repeat' split at *) <;> omega) (by omega) (by omega)
  · have c1 : 0 ≤ p ∧ p < 6 := by
      unfold isPS at hr
      split at hr <;> omega
    have c2 : 0 < n := by split at hq <;> omega
    clear hr hq
    refine m_isAlive h w c1 (fun y hy y1 y2 => ⟨by omega, fun u => ?_, fun u => k0 _ (by omega) (by (repeat' split) <;> omega) (by omega) (by omega)⟩)
    refine m_die h w c1 (fun v V' hv v1 v2 hx hf' => k v V' ?_ (by omega) (by omega) (fun _ => hx) (fun no => absurd ⟨c1, c2, by omega⟩ no) hf')
    unfold deaR
    rw [if_neg (by omega), if_pos (by omega)]
    exact hv
  · simp only [isPS] at hr
    exact k0 _ (by (repeat' split at *) <;> omega) (by (repeat' split at *) <;> omega) (by omega) (by omega)
theorem op_dea (I : zInv S V B n s) {p : Int} (hp : inR p) (k : ∀ V' s', zInv S V' B n s' → K V') : m11_death S V p (fun r V1 => m12_death V1 p (fun r' V2 => inR r ∧ inR r' ∧ ((r = r' → K V2) ∧ (¬ r = r' → False)))) := by
  obtain ⟨w, x, m, _⟩ := id I
  refine x_dea x w hp (fun r V1 hr r1 r2 a1 a2 f1 => m_dea (cM_frX m f1 (by omega)) w hp (fun r' V2 hr' _ _ b1 b2 f2 => fin2 hr hr' (by omega) ?_))
  by_cases c : deaK n s p
  · exact k V2 _ (zInv_isle I (by obtain ⟨c1, _⟩ := c; exact w_die w c1) (a1 c) f1 (b1 c) f2)
  · exact k V2 _ (zInv_isle I w (a2 c) f1 (b2 c) f2)
def seaK (n : Int) (s : zS) : Prop := 0 < n
def seaR (n : Int) (s : zS) : Int := if 0 < n then tLe n s else -103
theorem x_sea (h : cX S V 14 n s) (w : zwf n s)   {Q : Int → zV → Prop} (k : ∀ r V', r = seaR n s  → -103 ≤ r → r ≤ 99 → (seaK n s  → cX S V' 14 n (seaS s)) → (¬ seaK n s  → cX S V' 14 n s) → frX 14 V V' → Q r V') : m11_season S V Q := by
  have hn := wn w
  have k0 : ∀ r, ¬ seaK n s  → r = seaR n s  → -103 ≤ r → r ≤ 99 → Q r V := fun r c d e g => k r V d e g (fun z => absurd z c) (fun _ => h) (frX_r _ _)
  unfold seaK seaR at k0
  unfold m11_season
  refine x_hasList (x_n h) (fun q hq q1 q2 => ⟨by omega, fun e => k0 _ (by split at hq <;> omega) (by (repeat' split at *) <;> omega) (by omega) (by omega), fun e => ?_⟩)
  have c2 : 0 < n := by split at hq <;> omega
  refine x_season h w (by omega) (fun v V' hv v1 v2 hx hf' => k v V' ?_ (by omega) (by omega) (fun _ => hx) (fun no => absurd c2 no) hf')
  unfold seaR
  rw [if_pos c2]
  exact hv
theorem m_sea (h : cM V n s) (w : zwf n s)   {Q : Int → zV → Prop} (k : ∀ r V', r = seaR n s  → -103 ≤ r → r ≤ 99 → (seaK n s  → cM V' n (seaS s)) → (¬ seaK n s  → cM V' n s) → frM V V' → Q r V') : m12_season V Q := by
  have hn := wn w
  have k0 : ∀ r, ¬ seaK n s  → r = seaR n s  → -103 ≤ r → r ≤ 99 → Q r V := fun r c d e g => k r V d e g (fun z => absurd z c) (fun _ => h) (frM_r _)
  unfold seaK seaR at k0
  unfold m12_season
  refine m_lacks (m_n h) hn.1 (fun q hq q1 q2 => ⟨by omega, fun e => ?_, fun e => k0 _ (by split at hq <;> omega) (by (repeat' split at *) <;> omega) (by omega) (by omega)⟩)
  have c2 : 0 < n := by split at hq <;> omega
  refine m_season h w (fun v V' hv v1 v2 hx hf' => k v V' ?_ (by omega) (by omega) (fun _ => hx) (fun no => absurd c2 no) hf')
  unfold seaR
  rw [if_pos c2]
  exact hv
theorem op_sea (I : zInv S V B n s)   (k : ∀ V' s', zInv S V' B n s' → K V') : m11_season S V  (fun r V1 => m12_season V1  (fun r' V2 => inR r ∧ inR r' ∧ ((r = r' → K V2) ∧ (¬ r = r' → False)))) := by
  obtain ⟨w, x, m, _⟩ := id I
  refine x_sea x w  (fun r V1 hr r1 r2 a1 a2 f1 => m_sea (cM_frX m f1 (by omega)) w  (fun r' V2 hr' _ _ b1 b2 f2 => fin2 hr hr' (by omega) ?_))
  by_cases c : seaK n s 
  · exact k V2 _ (zInv_isle I (w_sea w) (a1 c) f1 (b1 c) f2)
  · exact k V2 _ (zInv_isle I w (a2 c) f1 (b2 c) f2)
def lenK (n : Int) (s : zS) (f t q : Int) : Prop := (0 ≤ q ∧ q < 6) ∧ (0 ≤ f ∧ f < n) ∧ (0 ≤ t ∧ t ≤ 1) ∧ lenC s f t q = 1
def lenR (n : Int) (s : zS) (f t q : Int) : Int := if ¬ (0 ≤ q ∧ q < 6) ∨ ¬ (0 ≤ f ∧ f < n) then -101 else if ¬ (0 ≤ t ∧ t ≤ 1) then -102 else if lenC s f t q = 1 then s 3 (2 * f + t) else -103
theorem x_len (h : cX S V 14 n s) (w : zwf n s) {f t q : Int} (hf : inR f) (ht : inR t) (hq : inR q) {Q : Int → zV → Prop} (k : ∀ r V', r = lenR n s f t q → -103 ≤ r → r ≤ 99 → (lenK n s f t q → cX S V' 14 n (iset s 4 (2 * f + t) q)) → (¬ lenK n s f t q → cX S V' 14 n s) → frX 14 V V' → Q r V') : m11_lend S V f t q Q := by
  have hn := wn w
  have k0 : ∀ r, ¬ lenK n s f t q → r = lenR n s f t q → -103 ≤ r → r ≤ 99 → Q r V := fun r c d e g => k r V d e g (fun z => absurd z c) (fun _ => h) (frX_r _ _)
  unfold lenK lenR at k0
  unfold m11_lend
  refine x_isFeud (x_n h) hf (fun r hr r1 r2 => ⟨by omega, fun d => ?_, fun d => x_isPerson hq (fun y hy y1 y2 => ⟨by omega, fun e => x_isBit ht (fun z hz z1 z2 => ⟨by omega, fun g => ?_, fun g => ?_⟩), fun e => ?_⟩)⟩)
  · simp only [isFS] at hr
    exact k0 _ (by (repeat' split at *) <;> omega) (by (repeat' split at *) <;> omega) (by omega) (by omega)
  · have c1 : 0 ≤ q ∧ q < 6 := by
      unfold isPS at hy
      split at hy <;> omega
    have c2 : 0 ≤ f ∧ f < n := by
      unfold isFS at hr
      split at hr <;> omega
    have c3 : 0 ≤ t ∧ t ≤ 1 := by
      unfold isBS at hz
      split at hz <;> omega
    clear hr hy hz
    refine x_canLend h w c2 c3 c1 (fun v hv v1 v2 => ⟨by omega, fun u => ⟨by omega, hq, ?_⟩, fun u => k0 _ (by omega) (by (repeat' split) <;> omega) (by omega) (by omega)⟩)
    have h1 := x_puts4 (x := q) h (p := 2 * f + t) (by omega) (by omega) (by omega)
    have hc : lenC s f t q = 1 := by omega
    have h5 := w5 w c2.1 (by omega)
    have w1 : zwf n (iset s 4 (2 * f + t) q) := w_puts4 w (by omega) (by omega) (by omega) (by
      intro e5
      rw [show (2 * f + t) / 2 = f from by omega] at e5
      unfold lenC at hc
      split at hc <;> omega)
    refine x_lenderOf h1 w1 (by omega) c3 (fun x hx x1 x2 => k x _ ?_ (by omega) (by omega) (fun _ => h1) (fun no => absurd ⟨c1, c2, c3, by omega⟩ no) (frX_s (frX_r _ _) (by omega) (by omega)))
    unfold lenS at hx
    rw [iset_same, if_neg (by omega), iset_row (by decide)] at hx
    unfold lenR
    rw [if_neg (by omega), if_neg (by omega), if_pos (by omega)]
    exact hx
  · simp only [isFS, isPS, isBS] at hr hy hz
    exact k0 _ (by (repeat' split at *) <;> omega) (by (repeat' split at *) <;> omega) (by omega) (by omega)
  · simp only [isFS, isPS] at hr hy
    exact k0 _ (by (repeat' split at *) <;> omega) (by (repeat' split at *) <;> omega) (by omega) (by omega)
theorem m_len (h : cM V n s) (w : zwf n s) {f t q : Int} (hf : inR f) (ht : inR t) (hq : inR q) {Q : Int → zV → Prop} (k : ∀ r V', r = lenR n s f t q → -103 ≤ r → r ≤ 99 → (lenK n s f t q → cM V' n (iset s 4 (2 * f + t) q)) → (¬ lenK n s f t q → cM V' n s) → frM V V' → Q r V') : m12_lend V f t q Q := by
  have hn := wn w
  have k0 : ∀ r, ¬ lenK n s f t q → r = lenR n s f t q → -103 ≤ r → r ≤ 99 → Q r V := fun r c d e g => k r V d e g (fun z => absurd z c) (fun _ => h) (frM_r _)
  unfold lenK lenR at k0
  unfold m12_lend m12_lend_J62 m12_lend_J87
  refine m_isFeud (m_n h) hn hf (fun r hr r1 r2 => ⟨by omega, fun d => ?_, fun d => m_isPerson hq (fun y hy y1 y2 => ⟨by omega, fun e => ⟨ht, m_in ht (by omega) (by omega) (fun z hz z1 z2 => ⟨by omega, fun g => ?_, fun g => ?_⟩)⟩, fun e => ?_⟩)⟩)
  · simp only [isFS] at hr
    exact k0 _ (by (repeat' split at *) <;> omega) (by (repeat' split at *) <;> omega) (by omega) (by omega)
  · have c1 : 0 ≤ q ∧ q < 6 := by
      unfold isPS at hy
      split at hy <;> omega
    have c2 : 0 ≤ f ∧ f < n := by
      unfold isFS at hr
      split at hr <;> omega
    have c3 : 0 ≤ t ∧ t ≤ 1 := by
      split at hz <;> omega
    clear hr hy hz
    have e6 := m_6 h c2.1 c2.2
    have b6 := w67 w c2.1 c2.2
    have h5 := w5 w c2.1 (by omega)
    have h1 := m_puts4 (x := q) h c2.1 c2.2 c3
    have k1 : lenC s f t q = 1 → m12_ownerOf (vset V 56 ((((7 * f) + 5) + t)).toNat q) f t (fun r131 V131 => Q r131 V131) := by
      intro hc
      have w1 : zwf n (iset s 4 (2 * f + t) q) := w_puts4 w (by omega) (by omega) (by omega) (by
        intro e5
        rw [show (2 * f + t) / 2 = f from by omega] at e5
        unfold lenC at hc
        split at hc <;> omega)
      refine m_ownerOf h1 w1 c2 c3 (fun x hx x1 x2 => k x _ ?_ (by omega) (by omega) (fun _ => h1) (fun no => absurd ⟨c1, c2, c3, by omega⟩ no) (frM_s6 (frM_r _)))
      rw [iset_row (by decide)] at hx
      unfold lenR
      rw [if_neg (by omega), if_neg (by omega), if_pos (by omega)]
      exact hx
    have k2 : lenC s f t q = 0 → Q (-103) V := fun hc => k0 _ (by omega) (by (repeat' split) <;> omega) (by omega) (by omega)
    have eq : lenC s f t q = if s 5 f = 1 ∨ s 3 (2 * f + t) = -1 ∨ s 4 (2 * f + t) ≠ -1 ∨ ¬ (s 6 f = 1 ∨ s 6 f = 3 ∨ s 6 f = 4) ∨ s 2 q = 0 ∨ hasT s q f = 1 then 0 else 1 := by
      unfold lenC leK
      (repeat' split) <;> omega
    rw [eq] at k1 k2
    clear k k0 eq
    (repeat' (first | omega | with_reducible apply And.intro | intro _ | with_reducible refine m_isStruck h w (by omega) ?_ | with_reducible refine m_isAlive h w (by omega) ?_ | with_reducible refine m_hasT h w (by omega) (by omega) ?_ | with_reducible refine m_borrowerOf h w (by omega) (by omega) ?_ | with_reducible refine k2 ?_ | with_reducible refine k1 ?_ | with_reducible refine m_ownerOf h w (by omega) (by omega) ?_ | with_reducible apply k2)) <;> ((repeat' split at *) <;> omega)
  · simp only [isFS, isPS] at hr hy
    exact k0 _ (by (repeat' split at *) <;> omega) (by (repeat' split at *) <;> omega) (by omega) (by omega)
  · simp only [isFS, isPS] at hr hy
    exact k0 _ (by (repeat' split at *) <;> omega) (by (repeat' split at *) <;> omega) (by omega) (by omega)
theorem op_len (I : zInv S V B n s) {f t q : Int} (hf : inR f) (ht : inR t) (hq : inR q) (k : ∀ V' s', zInv S V' B n s' → K V') : m11_lend S V f t q (fun r V1 => m12_lend V1 f t q (fun r' V2 => inR r ∧ inR r' ∧ ((r = r' → K V2) ∧ (¬ r = r' → False)))) := by
  obtain ⟨w, x, m, _⟩ := id I
  refine x_len x w hf ht hq (fun r V1 hr r1 r2 a1 a2 f1 => m_len (cM_frX m f1 (by omega)) w hf ht hq (fun r' V2 hr' _ _ b1 b2 f2 => fin2 hr hr' (by omega) ?_))
  by_cases c : lenK n s f t q
  · exact k V2 _ (zInv_isle I (by
    obtain ⟨c1, c2, c3, hc⟩ := c
    have hn := wn w
    have h5 := w5 w c2.1 (by omega)
    exact w_puts4 w (by omega) (by omega) (by omega) (by
      intro e5
      rw [show (2 * f + t) / 2 = f from by omega] at e5
      unfold lenC at hc
      split at hc <;> omega)) (a1 c) f1 (b1 c) f2)
  · exact k V2 _ (zInv_isle I w (a2 c) f1 (b2 c) f2)
end OPS3
