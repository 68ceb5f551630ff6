/-! ===== a death ===== -/
def othI (j : Int) : Int := 2 * (j / 2) + (1 - j % 2)
def pasS (s : zS) (nx j : Int) : Int := if nx ≠ -1 ∧ hasW s nx (othI j) = 0 then 1 else 0
def stpS (s : zS) (p nx j : Int) : zS := if s 3 j = p then iset s 3 j (if pasS s nx j = 1 then nx else -1) else s
def stcS (s : zS) (p nx j : Int) : Int := if s 3 j = p then pasS s nx j else 0
def inhS (p nx : Int) : Nat → Int → zS → zS
  | 0, _, s => s
  | m + 1, i, s => inhS p nx m (i + 1) (stpS s p nx i)
def inhC (p nx : Int) : Nat → Int → zS → Int
  | 0, _, _ => 0
  | m + 1, i, s => stcS s p nx i + inhC p nx m (i + 1) (stpS s p nx i)
theorem inhS_s (p nx : Int) (m : Nat) (i : Int) (s : zS) : inhS p nx (m + 1) i s = inhS p nx m (i + 1) (stpS s p nx i) := rfl
theorem inhC_s (p nx : Int) (m : Nat) (i : Int) (s : zS) : inhC p nx (m + 1) i s = stcS s p nx i + inhC p nx m (i + 1) (stpS s p nx i) := rfl
def dieE (s : zS) (p : Int) : zS := endTo (iset s 2 p 0) p 16
def dieH (s : zS) (p : Int) : Int := heS (dieE s p) p
def finS (s : zS) (p nx : Int) : zS := iset (if nx = -1 then s else payS s nx (s 0 p)) 0 p 0
def dieS (n : Int) (s : zS) (p : Int) : zS := finS (inhS p (dieH s p) (2 * n.toNat) 0 (dieE s p)) p (dieH s p)
def dieC (n : Int) (s : zS) (p : Int) : Int := inhC p (dieH s p) (2 * n.toNat) 0 (dieE s p)
theorem othI_e {f t j : Int} (ht : 0 ≤ t ∧ t ≤ 1) (hj : j = 2 * f + t) : othI j = 2 * f + (1 - t) := by
  unfold othI
  omega
theorem iset_2 (s : zS) (r : Nat) (j x y : Int) : iset (iset s r j x) r j y = iset s r j y := by
  funext r' j'
  unfold iset
  split <;> rfl
theorem pasS_in (s : zS) (nx j : Int) : 0 ≤ pasS s nx j ∧ pasS s nx j ≤ 1 := by
  unfold pasS
  split <;> omega
theorem stcS_in (s : zS) (p nx j : Int) : 0 ≤ stcS s p nx j ∧ stcS s p nx j ≤ 1 := by
  have := pasS_in s nx j
  unfold stcS
  split <;> omega
theorem inhC_in (p nx : Int) : ∀ (m : Nat) (i : Int) (s : zS), 0 ≤ inhC p nx m i s ∧ inhC p nx m i s ≤ m
  | 0, i, s => by
    show 0 ≤ (0 : Int) ∧ (0 : Int) ≤ (0 : Nat)
    omega
  | m + 1, i, s => by
    have a := stcS_in s p nx i
    have b := inhC_in p nx m (i + 1) (stpS s p nx i)
    rw [inhC_s]
    omega
theorem w_stp {n : Int} {s : zS} (w : zwf n s) {p nx j : Int} (hp : 0 ≤ p) (hx : -1 ≤ nx ∧ nx ≤ 5) (hj : 0 ≤ j ∧ j < 2 * n) : zwf n (stpS s p nx j) := by
  unfold stpS
  split
  · rename_i e
    refine w_puts3 w hj.1 hj.2 (by split <;> omega) (fun c => ?_)
    have := wst w hj.1 hj.2 c
    omega
  · exact w
theorem w_fin {n : Int} {s : zS} (w : zwf n s) {p nx : Int} (hp : 0 ≤ p ∧ p < 6) (hx : -1 ≤ nx ∧ nx ≤ 5) : zwf n (finS s p nx) := by
  have b := w0 w hp.1 hp.2
  unfold finS
  refine w_puts0 ?_ (by omega)
  split
  · exact w
  · exact w_pay w (by omega) b.1
theorem w_inh {n : Int} {p nx : Int} (hp : 0 ≤ p) (hx : -1 ≤ nx ∧ nx ≤ 5) : ∀ (m : Nat) (i : Int) (s : zS), zwf n s → 0 ≤ i → i + m ≤ 2 * n → zwf n (inhS p nx m i s)
  | 0, i, s, w, _, _ => w
  | m + 1, i, s, w, hi, hm => by
    rw [inhS_s]
    exact w_inh hp hx m (i + 1) _ (w_stp w hp hx (by omega)) (by omega) (by omega)
theorem w_dieE {n : Int} {s : zS} (w : zwf n s) (p : Int) : zwf n (dieE s p) := w_end (w_puts2 w (by omega)) p 16
theorem heS_in {n : Int} {s : zS} (w : zwf n s) {p : Int} (hp : 0 ≤ p ∧ p < 6) : heS s p = -1 ∨ ((0 ≤ heS s p ∧ heS s p < 6) ∧ s 2 (heS s p) ≠ 0) := hS_in w 6 _ _ (w1 w hp.1 hp.2)
theorem dieH_in {n : Int} {s : zS} (w : zwf n s) {p : Int} (hp : 0 ≤ p ∧ p < 6) : (-1 ≤ dieH s p ∧ dieH s p ≤ 5) ∧ dieH s p ≠ p := by
  have q := heS_in (w_dieE w p) hp
  have e : dieE s p 2 p = 0 := by
    unfold dieE
    rw [endTo_r _ _ _ (by decide), iset_same]
  unfold dieH
  refine ⟨by omega, fun c => ?_⟩
  rw [c, e] at q
  omega
theorem w_die {n : Int} {s : zS} (w : zwf n s) {p : Int} (hp : 0 ≤ p ∧ p < 6) : zwf n (dieS n s p) := by
  have hn := wn w
  have q := dieH_in w hp
  exact w_fin (w_inh hp.1 q.1 _ _ _ (w_dieE w p) (by omega) (by omega)) hp q.1
theorem dieC_in {n : Int} {s : zS} (w : zwf n s) (p : Int) : 0 ≤ dieC n s p ∧ dieC n s p ≤ 16 := by
  have hn := wn w
  have q := inhC_in p (dieH s p) (2 * n.toNat) 0 (dieE s p)
  unfold dieC
  omega
section XDIE
variable {S : List zC} {o : Nat} {n : Int} {Q : Int → zV → Prop}
theorem x_fin {V : zV} {s : zS} (h : cX S V o n s) (w : zwf n s) (ho : 14 ≤ o) {p nx c f : Int} (hp : 0 ≤ p ∧ p < 6) (hx : -1 ≤ nx ∧ nx ≤ 5) (hf : f = n) (m : Nat) (k : ∀ V', cX S V' o n (finS s p nx) → frX o V V' → Q c V') : m4_die_L23 S o Q (m + 1) p nx c f V := by
  have hn := wn w
  have en := x_n h
  have b := w0 w hp.1 hp.2
  unfold m4_die_L23
  refine ⟨by omega, fun _ => ⟨by omega, fun d => ⟨by omega, k _ ?_ (frX_s (frX_r _ _) (by omega) (by omega))⟩, fun d => ⟨by omega, ?_⟩⟩, fun e => by omega⟩
  · unfold finS
    rw [if_pos d]
    exact x_puts0 h hp.1 hp.2 ho
  · rw [x_0 h hp.1 hp.2]
    refine x_pay h w ho (by omega) b (fun V1 h1 _ f1 => ⟨by omega, k _ ?_ (frX_s f1 (by omega) (by omega))⟩)
    unfold finS
    rw [if_neg d]
    exact x_puts0 h1 hp.1 hp.2 ho
theorem x_die_step {V : zV} {s : zS} (h : cX S V o n s) (w : zwf n s) (ho : 14 ≤ o) {p nx c f t j : Int} (hp : 0 ≤ p ∧ p < 6) (hx : -1 ≤ nx ∧ nx ≤ 5) (hf : 0 ≤ f ∧ f < n) (ht : 0 ≤ t ∧ t ≤ 1) (hj : j = 2 * f + t) {k23 : Int → Int → Int → Int → zV → Prop} (m : Nat) (k : ∀ V', cX S V' o n (stpS s p nx j) → frX o V V' → m4_die_L38 S o k23 Q m p nx (c + stcS s p nx j) f (t + 1) V') : m4_die_L38 S o k23 Q (m + 1) p nx c f t V := by
  have hn := wn w
  have e3 := x_3 h (j := 2 * f + t) (by omega) (by omega)
  have eo := othI_e ht hj
  rw [← hj] at e3
  unfold stpS stcS at k
  unfold m4_die_L38 m4_die_J84 m4_die_J107
  rw [← hj, e3]
  refine ⟨by omega, fun d => by omega, fun _ => ⟨by omega, by omega, fun d => ?_, fun d => ⟨by omega, fun e => ?_, fun e => ?_⟩⟩⟩
  · rw [if_neg d, if_neg d, Int.add_zero] at k
    exact k V h (frX_r _ _)
  · have ep : pasS s nx j = 0 := by unfold pasS; rw [if_neg (fun z => z.1 e)]
    rw [if_pos d, if_pos d, if_neg (by omega), ep] at k
    refine ⟨by omega, fun _ => ⟨by omega, by omega, by omega, fun _ => ?_, fun z => absurd rfl z⟩, fun z => absurd rfl z⟩
    exact k _ (x_puts3 h (by omega) (by omega) ho) (frX_s (frX_r _ _) (by omega) (by omega))
  · refine x_hasW h w (by omega) (by omega) hx (fun r hr r1 r2 => ⟨by omega, fun g => ?_, fun g => ?_⟩)
    · have ep : pasS s nx j = 0 := by unfold pasS; rw [eo, if_neg (fun z => by have := z.2; omega)]
      rw [if_pos d, if_pos d, if_neg (by omega), ep] at k
      refine ⟨by omega, fun _ => ⟨by omega, by omega, by omega, fun _ => ?_, fun z => absurd rfl z⟩, fun z => absurd rfl z⟩
      exact k _ (x_puts3 h (by omega) (by omega) ho) (frX_s (frX_r _ _) (by omega) (by omega))
    · have ep : pasS s nx j = 1 := by unfold pasS; rw [eo, if_pos ⟨e, by omega⟩]
      rw [if_pos d, if_pos d, if_pos ep, ep] at k
      refine ⟨by omega, fun z => by omega, fun _ => ⟨by omega, by omega, by omega, fun z => by omega, fun _ => ?_⟩⟩
      exact k _ (x_puts3 h (by omega) (by omega) ho) (frX_s (frX_r _ _) (by omega) (by omega))
theorem x_die_L (ho : 14 ≤ o) {p nx : Int} (hp : 0 ≤ p ∧ p < 6) (hx : -1 ≤ nx ∧ nx ≤ 5) : ∀ (m : Nat) (c f : Int) (V : zV) (s : zS), cX S V o n s → zwf n s → 0 ≤ f → f + m = n → (∀ r V', r = c + inhC p nx (2 * m) (2 * f) s → cX S V' o n (finS (inhS p nx (2 * m) (2 * f) s) p nx) → frX o V V' → Q r V') → m4_die_L23 S o Q (m + 1) p nx c f V
  | 0, c, f, V, s, h, w, hf, hm, k => x_fin h w ho hp hx (by omega) 0 (fun V' a b => k c V' (by show c = c + 0; omega) a b)
  | m + 1, c, f, V, s, h, w, hf, hm, k => by
    have hn := wn w
    have en := x_n h
    rw [show 2 * (m + 1) = 2 * m + 1 + 1 from by omega, inhS_s, inhC_s, inhS_s, inhC_s] at k
    rw [show 2 * f + 1 + 1 = 2 * (f + 1) from by omega] at k
    unfold m4_die_L23
    refine ⟨by omega, fun d => by omega, fun _ => ⟨3, ?_⟩⟩
    refine x_die_step h w ho hp hx (by omega) (by omega) (j := 2 * f) (by omega) 2 (fun V1 h1 f1 => ?_)
    have w1 := w_stp w (p := p) (nx := nx) (j := 2 * f) hp.1 hx (by omega)
    refine x_die_step h1 w1 ho hp hx (by omega) (by omega) (j := 2 * f + 1) (by omega) 1 (fun V2 h2 f2 => ?_)
    have w2 := w_stp w1 (p := p) (nx := nx) (j := 2 * f + 1) hp.1 hx (by omega)
    unfold m4_die_L38
    refine ⟨by omega, fun _ => ?_, fun d => by omega⟩
    exact x_die_L ho hp hx m _ (f + 1) V2 _ h2 w2 (by omega) (by omega) (fun r V' hr a b => k r V' (by omega) a (frX_t f1 (frX_t f2 b)))
theorem x_die {V : zV} {s : zS} (h : cX S V o n s) (w : zwf n s) (ho : 14 ≤ o) {p : Int} (hp : 0 ≤ p ∧ p < 6) (k : ∀ r V', r = dieC n s p → 0 ≤ r → r ≤ 16 → cX S V' o n (dieS n s p) → frX o V V' → Q r V') : m4_die S o V p Q := by
  have hn := wn w
  have h0 := x_puts2 (x := 0) h hp.1 hp.2 ho
  have we := w_dieE w p
  have qh := dieH_in w hp
  have qc := dieC_in w p
  unfold m4_die
  refine ⟨hp, 16 + 1, x_end_L ho hp 16 0 _ (by omega) (by omega) (by rw [endTo_0]; exact h0) (fun V1 h1 f1 => ?_)⟩
  refine x_inh h1 we hp ⟨n.toNat + 1, x_die_L ho hp qh.1 n.toNat 0 0 V1 _ h1 we (by omega) (by omega) (fun r V' hr a b => ?_)⟩
  have e : r = dieC n s p := by
    rw [hr]
    exact Int.zero_add _
  exact k r V' e (by omega) (by omega) a (frX_t (frX_s (frX_r _ _) (by omega) (by omega)) (frX_t f1 b))
end XDIE
section MDIE
variable {n : Int} {Q : Int → zV → Prop}
def owL (n : Int) (s : zS) (p : Int) : Prop := ∀ j, 0 ≤ j → j < 2 * n → s 3 j = p → s 4 j = -1
theorem owL_stp {s : zS} {p nx i : Int} (hp : 0 ≤ p) (hx : nx ≠ p) (h : owL n s p) : owL n (stpS s p nx i) p := by
  intro j a b c
  unfold stpS at c ⊢
  split
  · rename_i e
    rw [if_pos e] at c
    rw [iset_row (by decide)]
    rw [iset_at] at c
    split at c
    · split at c <;> omega
    · exact h j a b c
  · rename_i e
    rw [if_neg e] at c
    exact h j a b c
theorem m_fin {V : zV} {s : zS} (h : cM V n s) (w : zwf n s) {p nx c j : Int} (hp : 0 ≤ p ∧ p < 6) (hx : -1 ≤ nx ∧ nx ≤ 5) (hj : j = 2 * n) (m : Nat) (k : ∀ V', cM V' n (finS s p nx) → frM V V' → Q c V') : m12_died_L103 Q (m + 1) p nx c j V := by
  have hn := wn w
  have en := m_n h
  have b := w0 w hp.1 hp.2
  unfold m12_died_L103 m12_died_J244
  refine ⟨by omega, by omega, fun _ => ⟨by omega, fun d => ⟨by omega, k _ ?_ (frM_s7 (frM_r _))⟩, fun d => ⟨by omega, by omega, ?_⟩⟩, fun e => by omega⟩
  · unfold finS
    rw [if_pos d]
    exact m_puts0 h hp.1 hp.2
  · have b2 := w0 w (p := nx) (by omega) (by omega)
    rw [m_0 h hp.1 hp.2, m_0 h (p := nx) (by omega) (by omega)]
    refine m_capped (by omega) (fun y hy => ?_)
    have b1 := capS_in (x := s 0 nx + s 0 p) (by omega)
    refine ⟨by omega, by omega, by omega, k _ ?_ (frM_s7 (frM_s7 (frM_r _)))⟩
    unfold finS payS
    rw [if_neg d, ← hy]
    exact m_puts0 (m_puts0 h (by omega) (by omega)) hp.1 hp.2
theorem m_die_has {s : zS} {nx f t j : Int} (ht : 0 ≤ t ∧ t ≤ 1) (hj : j = 2 * f + t) (hx : 0 ≤ nx) (h4 : s 4 j = -1) : hasT (iset s 3 j (-1)) nx f = hasW s nx (othI j) := by
  have eo := othI_e ht hj
  unfold hasT hasW
  rw [eo]
  have z4 : ∀ i, iset s 3 j (-1) 4 i = s 4 i := fun i => iset_row (by decide)
  rw [z4, z4]
  by_cases e : t = 0
  · subst e
    have a : iset s 3 j (-1) 3 (2 * f + 0) = -1 := by rw [← hj]; exact iset_same
    have b : iset s 3 j (-1) 3 (2 * f + 1) = s 3 (2 * f + 1) := iset_oth (by omega)
    rw [a, b, ← hj, h4, show (1 : Int) - 0 = 1 from rfl]
    split
    · rw [if_pos (by omega)]
    · rw [if_neg (by omega)]
  · have e1 : t = 1 := by omega
    subst e1
    have a : iset s 3 j (-1) 3 (2 * f + 1) = -1 := by rw [← hj]; exact iset_same
    have b : iset s 3 j (-1) 3 (2 * f + 0) = s 3 (2 * f + 0) := iset_oth (by omega)
    rw [a, b, ← hj, h4, show (1 : Int) - 1 = 0 from rfl]
    split
    · rw [if_pos (by omega)]
    · rw [if_neg (by omega)]
theorem m_die_L {p nx : Int} (hp : 0 ≤ p ∧ p < 6) (hx : -1 ≤ nx ∧ nx ≤ 5) (hnp : nx ≠ p) : ∀ (m : Nat) (c j : Int) (V : zV) (s : zS), cM V n s → zwf n s → owL n s p → 0 ≤ j → j + m = 2 * n → (∀ r V', r = c + inhC p nx m j s → cM V' n (finS (inhS p nx m j s) p nx) → frM V V' → Q r V') → m12_died_L103 Q (m + 1) p nx c j V
  | 0, c, j, V, s, h, w, hl, hj, hm, k => m_fin h w hp hx (by omega) 0 (fun V' a b => k c V' (by show c = c + 0; omega) a b)
  | m + 1, c, j, V, s, h, w, hl, hj, hm, k => by
    have hn := wn w
    have en := m_n h
    have ej : 2 * (j / 2) + j % 2 = j := by omega
    have e3 := m_3 h (f := j / 2) (t := j % 2) (by omega) (by omega) (by omega)
    rw [ej] at e3
    have b3 := w3 w (j := j) (by omega) (by omega)
    have w1 := w_stp w (p := p) (nx := nx) (j := j) hp.1 hx (by omega)
    have l1 := owL_stp (nx := nx) (i := j) hp.1 hnp hl
    rw [inhS_s, inhC_s] at k
    have ih := fun c V' q1 q2 => m_die_L hp hx hnp m c (j + 1) V' (stpS s p nx j) q1 w1 l1 (by omega) (by omega) q2
    clear m_die_L
    have g1 := m_puts3 (x := -1) h (g := j / 2) (u := j % 2) (by omega) (by omega) (by omega)
    rw [ej] at g1
    unfold m12_died_L103 m12_died_J173 m12_died_J191
    rw [e3]
    refine ⟨by omega, by omega, fun d => by omega, fun _ => ⟨by omega, by omega, by omega, by omega, fun d => ?_, fun d => ⟨by omega, by omega, fun e => ?_, fun e => ?_⟩⟩⟩
    · have es : stpS s p nx j = s := by unfold stpS; rw [if_neg d]
      have ec : stcS s p nx j = 0 := by unfold stcS; rw [if_neg d]
      refine ih _ _ (by rw [es]; exact h) (fun r V' hr a b => k r V' (by omega) a b)
    · have ep : pasS s nx j = 0 := by unfold pasS; rw [if_neg (fun z => z.1 e)]
      have es : stpS s p nx j = iset s 3 j (-1) := by unfold stpS; rw [if_pos d, if_neg (by omega)]
      have ec : stcS s p nx j = 0 := by unfold stcS; rw [if_pos d, ep]
      have g2 := m_puts3 (x := -1) g1 (g := j / 2) (u := j % 2) (by omega) (by omega) (by omega)
      rw [ej, iset_2] at g2
      refine ⟨by omega, fun _ => ⟨by omega, by omega, by omega, fun _ => ih _ _ (by rw [es]; exact g2) (fun r V' hr a b => k r V' (by omega) a (frM_t (frM_s6 (frM_s6 (frM_r _))) b)), fun z => absurd rfl z⟩, fun z => absurd rfl z⟩
    · have h4 := hl j (by omega) (by omega) d
      have eh := m_die_has (s := s) (nx := nx) (f := j / 2) (t := j % 2) (j := j) (by omega) (by omega) (by omega) h4
      have wz : zwf n (iset s 3 j (-1)) := w_puts3 w (by omega) (by omega) (by omega) (fun _ => rfl)
      refine m_hasT g1 wz (by omega) (by omega) (fun r hr r1 r2 => ⟨by omega, fun g => ?_, fun g => ?_⟩)
      · have ep : pasS s nx j = 0 := by unfold pasS; rw [if_neg (fun z => by have := z.2; omega)]
        have es : stpS s p nx j = iset s 3 j (-1) := by unfold stpS; rw [if_pos d, if_neg (by omega)]
        have ec : stcS s p nx j = 0 := by unfold stcS; rw [if_pos d, ep]
        have g2 := m_puts3 (x := -1) g1 (g := j / 2) (u := j % 2) (by omega) (by omega) (by omega)
        rw [ej, iset_2] at g2
        refine ⟨by omega, fun _ => ⟨by omega, by omega, by omega, fun _ => ih _ _ (by rw [es]; exact g2) (fun r V' hr a b => k r V' (by omega) a (frM_t (frM_s6 (frM_s6 (frM_r _))) b)), fun z => absurd rfl z⟩, fun z => absurd rfl z⟩
      · have ep : pasS s nx j = 1 := by unfold pasS; rw [if_pos ⟨e, by omega⟩]
        have es : stpS s p nx j = iset s 3 j nx := by unfold stpS; rw [if_pos d, if_pos ep]
        have ec : stcS s p nx j = 1 := by unfold stcS; rw [if_pos d, ep]
        have g2 := m_puts3 (x := nx) g1 (g := j / 2) (u := j % 2) (by omega) (by omega) (by omega)
        rw [ej, iset_2] at g2
        refine ⟨by omega, fun z => by omega, fun _ => ⟨by omega, by omega, by omega, fun z => by omega, fun _ => ih _ _ (by rw [es]; exact g2) (fun r V' hr a b => k r V' (by omega) a (frM_t (frM_s6 (frM_s6 (frM_r _))) b))⟩⟩
theorem m_end_L {s : zS} (w : zwf n s) {p : Int} (hp : 0 ≤ p ∧ p < 6) : ∀ (m : Nat) (i : Int) (V : zV), 0 ≤ i → i + m = 2 * n → cM V n (endTo s p i) → (∀ V', cM V' n (endTo s p 16) → frM V V' → m12_heirOf (vset V' 57 ((3 * p) + 2).toNat 0) p (fun r94 V94 => ∃ nn96, m12_died_L103 Q nn96 p r94 0 0 V94)) → m12_died_L2 Q (m + 1) p i V
  | 0, i, V, hi, hm, h, k => by
    have hn := wn w
    have en := m_n h
    have e : i = 2 * n := by omega
    rw [e, endTo_e w hp.1] at h
    unfold m12_died_L2
    exact ⟨by omega, by omega, fun _ => ⟨by omega, k V h (frM_r _)⟩, fun c => by omega⟩
  | m + 1, i, V, hi, hm, h, k => by
    have hn := wn w
    have en := m_n h
    have ei : 2 * (i / 2) + i % 2 = i := by omega
    have e3 := m_3 h (f := i / 2) (t := i % 2) (by omega) (by omega) (by omega)
    have e4 := m_4 h (f := i / 2) (t := i % 2) (by omega) (by omega) (by omega)
    have h1 := fun x => m_puts4 (x := x) h (g := i / 2) (u := i % 2) (by omega) (by omega) (by omega)
    rw [ei] at e3 e4
    rw [endTo_r _ _ _ (by decide)] at e3
    rw [endTo_4 _ _ (by omega)] at e4
    rw [show 7 * (i / 2) + 3 + i % 2 = 7 * (i / 2) + 5 + i % 2 - 2 from by omega] at e3
    have ih := fun V' q1 q2 => m_end_L w hp m (i + 1) V' (by omega) (by omega) q1 q2
    clear m_end_L
    unfold m12_died_L2 m12_died_J52
    rw [e4]
    refine ⟨by omega, by omega, fun c => by omega, fun c => ⟨by omega, by omega, by omega, by omega, fun d => ⟨by omega, fun z => by omega, fun _ => ⟨by omega, ?_⟩⟩, fun d => ⟨by omega, fun e => ⟨by omega, fun _ => ⟨by omega, by omega, ?_⟩, fun z => absurd rfl z⟩, fun e => ⟨by omega, fun z => by omega, fun _ => ⟨by omega, ?_⟩⟩⟩⟩⟩
    · have h2 := h1 (-1)
      rw [ei, endTo_s s p hi (by omega)] at h2
      exact ih _ h2 (fun V' a b => k V' a (frM_t (frM_s6 (frM_r _)) b))
    · have h2 := h1 (s 4 i)
      have ex : iset (endTo s p i) 4 i (s 4 i) = endTo s p (i + 1) := by
        rw [← endTo_n s p (i := i) (by omega)]
        have := iset_id (endTo s p i) 4 i
        rw [endTo_4 _ _ (by omega)] at this
        exact this
      rw [ei, ex] at h2
      exact ih _ h2 (fun V' a b => k V' a (frM_t (frM_s6 (frM_r _)) b))
    · have h2 := h1 (-1)
      rw [ei, endTo_s s p hi (by omega)] at h2
      exact ih _ h2 (fun V' a b => k V' a (frM_t (frM_s6 (frM_r _)) b))
theorem m_die {V : zV} {s : zS} (h : cM V n s) (w : zwf n s) {p : Int} (hp : 0 ≤ p ∧ p < 6) (k : ∀ r V', r = dieC n s p → 0 ≤ r → r ≤ 16 → cM V' n (dieS n s p) → frM V V' → Q r V') : m12_died V p Q := by
  have hn := wn w
  have we := w_dieE w p
  have qh := dieH_in w hp
  have qc := dieC_in w p
  refine ⟨2 * n.toNat + 1, m_end_L w hp (2 * n.toNat) 0 V (by omega) (by omega) (by rw [endTo_0]; exact h) (fun V1 h1 f1 => ?_)⟩
  have h2 := m_puts2 (x := 0) h1 hp.1 hp.2
  rw [endTo_set] at h2
  have hl : owL n (dieE s p) p := by
    intro j a b c
    unfold dieE at c ⊢
    rw [endTo_r _ _ _ (by decide)] at c
    unfold endTo
    rw [if_pos ⟨rfl, by omega, Or.inr c⟩]
  refine m_inh h2 we hp ⟨2 * n.toNat + 1, m_die_L hp qh.1 qh.2 (2 * n.toNat) 0 0 _ _ h2 we hl (by omega) (by omega) (fun r V' hr a b => ?_)⟩
  have e : r = dieC n s p := by
    rw [hr]
    exact Int.zero_add _
  exact k r V' e (by omega) (by omega) a (frM_t f1 (frM_t (frM_s7 (frM_r _)) b))
end MDIE
