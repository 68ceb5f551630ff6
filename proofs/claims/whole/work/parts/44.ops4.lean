section OPS4
variable {S : List zC} {V : zV} {B n : Int} {s : zS} {K : zV → Prop}
def strS (s : zS) (f : Int) : zS := iset (iset (iset s 5 f 1) 3 (2 * f) (-1)) 3 (2 * f + 1) (-1)
theorem iset_comm (s : zS) {r r' : Nat} (h : r ≠ r') (j j' x y : Int) : iset (iset s r j x) r' j' y = iset (iset s r' j' y) r j x := by
  funext a b
  unfold iset
  by_cases c : a = r ∧ b = j
  · rw [if_pos c, if_neg (fun z => h (c.1.symm.trans z.1)), if_pos c]
  · rw [if_neg c, if_neg c]
theorem w_str (w : zwf n s) {f : Int} (hf : 0 ≤ f ∧ f < n) (h0 : s 4 (2 * f + 0) = -1) (h1 : s 4 (2 * f + 1) = -1) : zwf n (strS s f) := by
  have e : strS s f = iset (iset (iset s 3 (2 * f) (-1)) 3 (2 * f + 1) (-1)) 5 f 1 := by
    unfold strS
    rw [iset_comm s (by decide), iset_comm _ (by decide)]
  rw [e]
  refine w_puts5 (w_puts3 (w_puts3 w (by omega) (by omega) (by omega) (fun _ => rfl)) (by omega) (by omega) (by omega) (fun _ => rfl)) hf.1 hf.2 (by omega) (fun t ht => ?_)
  rw [iset_row (r' := 4) (by decide), iset_row (r' := 4) (by decide)]
  by_cases c : t = 0
  · subst c
    refine ⟨?_, h0⟩
    rw [iset_oth (by omega), Int.add_zero, iset_same]
  · have c1 : t = 1 := by omega
    subst c1
    exact ⟨iset_same, h1⟩
theorem strC_lent {f : Int} (hc : strC s f = 1) : s 4 (2 * f + 0) = -1 ∧ s 4 (2 * f + 1) = -1 := by
  unfold strC at hc
  split at hc <;> omega
def peaK (n : Int) (s : zS) (f : Int) : Prop := (0 ≤ f ∧ f < n) ∧ strC s f = 1
def peaR (n : Int) (s : zS) (f : Int) : Int := if ¬ (0 ≤ f ∧ f < n) then -101 else if strC s f = 1 then tSt n (strS s f) else -103
theorem x_pea (h : cX S V 14 n s) (w : zwf n s) {f : Int} (hf : inR f) {Q : Int → zV → Prop} (k : ∀ r V', r = peaR n s f → -103 ≤ r → r ≤ 99 → (peaK n s f → cX S V' 14 n (strS s f)) → (¬ peaK n s f → cX S V' 14 n s) → frX 14 V V' → Q r V') : m11_peace S V f Q := by
  have hn := wn w
  have k0 : ∀ r, ¬ peaK n s f → r = peaR n s f → -103 ≤ r → r ≤ 99 → Q r V := fun r c d e g => k r V d e g (fun z => absurd z c) (fun _ => h) (frX_r _ _)
  unfold peaK peaR at k0
  unfold m11_peace m4_strike
  refine x_isFeud (x_n h) hf (fun r hr r1 r2 => ⟨by omega, fun d => ?_, fun d => ?_⟩)
  · have c2 : 0 ≤ f ∧ f < n := by
      unfold isFS at hr
      split at hr <;> omega
    clear hr
    refine x_canStrike h w c2 (fun y hy y1 y2 => ⟨by omega, fun u => ⟨by omega, by omega, by omega, ?_⟩, fun u => k0 _ (by omega) (by (repeat' split) <;> omega) (by omega) (by omega)⟩)
    have hl := strC_lent (s := s) (f := f) (by omega)
    have h1 : cX S _ 14 n (strS s f) := x_puts3 (x := -1) (x_puts3 (x := -1) (x_puts5 (x := 1) h c2.1 (by omega) (by omega)) (p := 2 * f) (by omega) (by omega) (by omega)) (p := 2 * f + 1) (by omega) (by omega) (by omega)
    refine x_struck h1 (w_str w c2 hl.1 hl.2) (fun v hv v1 v2 => k v _ ?_ (by omega) (by omega) (fun _ => h1) (fun no => absurd ⟨c2, by omega⟩ no) (frX_s (frX_s (frX_s (frX_r _ _) (by omega) (by omega)) (by omega) (by omega)) (by omega) (by omega)))
    unfold peaR
    rw [if_neg (by omega), if_pos (by omega)]
    exact hv
  · simp only [isFS] at hr
    exact k0 _ (by (repeat' split at *) <;> omega) (by (repeat' split at *) <;> omega) (by omega) (by omega)
theorem m_peace_step {Q : Int → zV → Prop} (h : cM V n s) (w : zwf n s) {f a b i : Int} (hf : 0 ≤ f ∧ f < n) (hi : 0 ≤ i ∧ i ≤ 1) (m : Nat) (k : ∀ a' b', a' = a + (if s 3 (2 * f + i) = -1 then 1 else 0) → b' = b + (if s 4 (2 * f + i) = -1 then 0 else 1) → m12_peace_L18 Q m f a' b' (i + 1) V) : m12_peace_L18 Q (m + 1) f a b i V := by
  have hn := wn w
  unfold m12_peace_L18 m12_peace_J41
  (repeat' (first | omega | with_reducible apply And.intro | intro _ | with_reducible refine m_ownerOf h w (by omega) (by omega) ?_ | with_reducible refine m_borrowerOf h w (by omega) (by omega) ?_ | with_reducible apply k)) <;> ((repeat' split at *) <;> omega)
theorem m_pea (h : cM V n s) (w : zwf n s) {f : Int} (hf : inR f) {Q : Int → zV → Prop} (k : ∀ r V', r = peaR n s f → -103 ≤ r → r ≤ 99 → (peaK n s f → cM V' n (strS s f)) → (¬ peaK n s f → cM V' n s) → frM V V' → Q r V') : m12_peace V f Q := by
  have hn := wn w
  have k0 : ∀ r, ¬ peaK n s f → r = peaR n s f → -103 ≤ r → r ≤ 99 → Q r V := fun r c d e g => k r V d e g (fun z => absurd z c) (fun _ => h) (frM_r _)
  unfold peaK peaR at k0
  unfold m12_peace
  refine m_isFeud (m_n h) hn hf (fun r hr r1 r2 => ⟨by omega, fun d => ?_, fun d => ?_⟩)
  · have c2 : 0 ≤ f ∧ f < n := by
      unfold isFS at hr
      split at hr <;> omega
    clear hr
    have e6 := m_6 h c2.1 c2.2
    have b5 := w5 w c2.1 (by omega)
    refine ⟨3, m_peace_step h w c2 (by omega) 2 (fun a b ha hb => m_peace_step h w c2 (by omega) 1 (fun a' b' ha' hb' => ?_))⟩
    rw [show (0 : Int) + 1 = 1 from rfl] at ha' hb'
    have k2 : strC s f = 0 → Q (-103) V := fun hc => k0 _ (by omega) (by (repeat' split) <;> omega) (by omega) (by omega)
    have k1 : strC s f = 1 → m12_struckMany (vset (vset (vset V 56 (((7 * f) + 2)).toNat 1) 56 (((7 * f) + 3)).toNat (-1)) 56 (((7 * f) + 4)).toNat (-1)) (fun r142 V142 => Q r142 V142) := by
      intro hc
      have hl := strC_lent hc
      have g1 := m_puts3 (x := -1) (m_puts5 (x := 1) h c2.1 c2.2) (u := 0) c2.1 c2.2 (by omega)
      simp only [Int.add_zero] at g1
      have g2 := m_puts3 (x := -1) g1 (u := 1) c2.1 c2.2 (by omega)
      rw [show 7 * f + 3 + 1 = 7 * f + 4 from by omega] at g2
      refine m_struck g2 (w_str w c2 hl.1 hl.2) (fun v hv v1 v2 => k v _ ?_ (by omega) (by omega) (fun _ => g2) (fun no => absurd ⟨c2, by omega⟩ no) (frM_s6 (frM_s6 (frM_s6 (frM_r _)))))
      unfold peaR
      rw [if_neg (by omega), if_pos (by omega)]
      exact hv
    have eq : strC s f = if s 5 f = 1 ∨ 0 < b' ∨ (if s 6 f = 2 then 1 else 0) < a' then 0 else 1 := by
      rw [ha', hb', ha, hb]
      unfold strC moK opS
      (repeat' split) <;> omega
    rw [eq] at k1 k2
    have za : 0 ≤ a' ∧ a' ≤ 2 := by (repeat' split at *) <;> omega
    have zb : 0 ≤ b' ∧ b' ≤ 2 := by (repeat' split at *) <;> omega
    clear k k0 eq ha hb ha' hb'
    unfold m12_peace_L18 m12_peace_J99
    (repeat' (first | omega | with_reducible apply And.intro | intro _ | with_reducible refine m_isStruck h w (by omega) ?_ | with_reducible refine k2 ?_ | with_reducible refine k1 ?_ | with_reducible apply k2)) <;> ((repeat' split at *) <;> omega)
  · simp only [isFS] at hr
    exact k0 _ (by (repeat' split at *) <;> omega) (by (repeat' split at *) <;> omega) (by omega) (by omega)
theorem op_pea (I : zInv S V B n s) {f : Int} (hf : inR f) (k : ∀ V' s', zInv S V' B n s' → K V') : m11_peace S V f (fun r V1 => m12_peace V1 f (fun r' V2 => inR r ∧ inR r' ∧ ((r = r' → K V2) ∧ (¬ r = r' → False)))) := by
  obtain ⟨w, x, m, _⟩ := id I
  refine x_pea x w hf (fun r V1 hr r1 r2 a1 a2 f1 => m_pea (cM_frX m f1 (by omega)) w hf (fun r' V2 hr' _ _ b1 b2 f2 => fin2 hr hr' (by omega) ?_))
  by_cases c : peaK n s f
  · exact k V2 _ (zInv_isle I (by
    obtain ⟨c2, hc⟩ := c
    have hl := strC_lent hc
    exact w_str w c2 hl.1 hl.2) (a1 c) f1 (b1 c) f2)
  · exact k V2 _ (zInv_isle I w (a2 c) f1 (b2 c) f2)
theorem op_mayHarm (I : zInv S V B n s) {a b : Int} (ha : inR a) (hb : inR b) (k : zInv S V B n s → K V) : m11_mayHarm S V a b (fun r V1 => m12_mayHarm V1 a b (fun r' V2 => inR r ∧ inR r' ∧ ((r = r' → K V2) ∧ (¬ r = r' → False)))) := by
  obtain ⟨w, x, m, _⟩ := id I
  unfold m11_mayHarm m12_mayHarm
  refine x_two ha hb (fun r hr r1 r2 => ⟨by omega, fun c => ?_, fun c => ?_⟩)
  · exact m_two ha hb (fun q hq q1 q2 => ⟨by omega, fun d => fin2 rfl rfl (by omega) (k I), fun d => by omega⟩)
  · have ct : (0 ≤ a ∧ a < 6) ∧ (0 ≤ b ∧ b < 6) ∧ a ≠ b := by
      unfold twoS at hr
      split at hr <;> omega
    exact x_harmT x w ct.1 ct.2.1 (fun v hv v1 v2 => m_two ha hb (fun q hq q1 q2 => ⟨by omega, fun d => by omega, fun d => m_harmT m w ct.1 ct.2.1 (fun v' hv' _ _ => fin2 hv hv' (by omega) (k I))⟩))
theorem rowsE_add {V2 : zV} {c x y : Int} {a b d : Nat} (h : rowsE V c a b d) (hc : 0 ≤ c) (hx : 0 ≤ x ∧ x < 6) (hy : 0 ≤ y ∧ y < 6) (ea : ∀ j, V2 a j = if j = c.toNat then x else V a j) (eb : ∀ j, V2 b j = if j = c.toNat then y else V b j) (ed : ∀ j, V2 d j = if j = (2 * c + 1).toNat then y else if j = (2 * c).toNat then x else V d j) : rowsE V2 (c + 1) a b d := by
  intro k p q
  rw [ea, eb, ed, ed]
  by_cases e : k = c
  · subst e
    rw [if_pos rfl, if_pos rfl, if_neg (by omega), if_pos rfl, if_pos rfl]
    exact ⟨rfl, rfl, hx, hy⟩
  · rw [if_neg (by omega), if_neg (by omega), if_neg (by omega), if_neg (by omega), if_neg (by omega), if_neg (by omega)]
    exact h k p (by omega)
theorem zInv_harm {V2 : zV} (h : zInv S V B n s) (g : ∀ c k, ¬ ((c = 14 ∧ k = 9) ∨ c = 21 ∨ c = 22 ∨ (c = 53 ∧ k = 9) ∨ c = 58) → V2 c k = V c k) (hH : pH V2) : zInv S V2 B n s := by
  obtain ⟨w, x, m, p, hh, hr, i, q, l⟩ := h
  refine ⟨w, cX_fr x (g _ _ (by omega)) (fun c j _ _ => g _ _ (by omega)), cM_fr m (g _ _ (by omega)) (fun j => g _ _ (by omega)) (fun j => g _ _ (by omega)), pP_fr p (g _ _ (by omega)) (g _ _ (by omega)) (fun j => g _ _ (by omega)) (fun j => g _ _ (by omega)), hH, pR_fr hr (g _ _ (by omega)) (g _ _ (by omega)) (fun j => g _ _ (by omega)) (fun j => g _ _ (by omega)) (fun j => g _ _ (by omega)), pI_fr i (fun c k z => g _ _ (by unfold icell at z; omega)), q, ?_⟩
  rw [g 0 9 (by omega)]
  exact l
theorem zInv_reg {V2 : zV} (h : zInv S V B n s) (g : ∀ c k, ¬ ((c = 14 ∧ k = 12) ∨ c = 23 ∨ c = 24 ∨ (c = 53 ∧ k = 15) ∨ c = 63) → V2 c k = V c k) (hR : pR V2) : zInv S V2 B n s := by
  obtain ⟨w, x, m, p, hh, hr, i, q, l⟩ := h
  refine ⟨w, cX_fr x (g _ _ (by omega)) (fun c j _ _ => g _ _ (by omega)), cM_fr m (g _ _ (by omega)) (fun j => g _ _ (by omega)) (fun j => g _ _ (by omega)), pP_fr p (g _ _ (by omega)) (g _ _ (by omega)) (fun j => g _ _ (by omega)) (fun j => g _ _ (by omega)), pH_fr hh (g _ _ (by omega)) (g _ _ (by omega)) (fun j => g _ _ (by omega)) (fun j => g _ _ (by omega)) (fun j => g _ _ (by omega)), hR, pI_fr i (fun c k z => g _ _ (by unfold icell at z; omega)), q, ?_⟩
  rw [g 0 9 (by omega)]
  exact l
theorem zInv_page {V2 : zV} (h : zInv S V B n s) (g : ∀ c k, ¬ ((c = 1 ∧ k = 1) ∨ c = 2 ∨ (c = 53 ∧ k = 1) ∨ c = 54) → V2 c k = V c k) (hP : pP V2) : zInv S V2 B n s := by
  obtain ⟨w, x, m, p, hh, hr, i, q, l⟩ := h
  refine ⟨w, cX_fr x (g _ _ (by omega)) (fun c j _ _ => g _ _ (by omega)), cM_fr m (g _ _ (by omega)) (fun j => g _ _ (by omega)) (fun j => g _ _ (by omega)), hP, pH_fr hh (g _ _ (by omega)) (g _ _ (by omega)) (fun j => g _ _ (by omega)) (fun j => g _ _ (by omega)) (fun j => g _ _ (by omega)), pR_fr hr (g _ _ (by omega)) (g _ _ (by omega)) (fun j => g _ _ (by omega)) (fun j => g _ _ (by omega)) (fun j => g _ _ (by omega)), pI_fr i (fun c k z => g _ _ (by unfold icell at z; omega)), q, ?_⟩
  rw [g 0 9 (by omega)]
  exact l
theorem op_harm (I : zInv S V B n s) {a b : Int} (ha : inR a) (hb : inR b) (k : ∀ V', zInv S V' B n s → K V') : m11_harm S V a b (fun r V1 => m12_harm V1 a b (fun r' V2 => inR r ∧ inR r' ∧ ((r = r' → K V2) ∧ (¬ r = r' → False)))) := by
  obtain ⟨w, x, m, _, ⟨he, hc, hrow⟩, _⟩ := id I
  unfold m11_harm m12_harm m4_keepHarm
  refine x_two ha hb (fun r hr r1 r2 => ⟨by omega, fun c => ?_, fun c => ?_⟩)
  · have ct : (0 ≤ a ∧ a < 6) ∧ (0 ≤ b ∧ b < 6) ∧ a ≠ b := by
      unfold twoS at hr
      split at hr <;> omega
    have M : ∀ (V1 : zV) (Q : Int → zV → Prop), cM V1 n s → (∀ v, v = mhS n s a b → -1 ≤ v → v ≤ 8 → Q v V1) → m12_harmOf V1 a b Q := fun V1 Q m1 kk => m_harmT m1 w ct.1 ct.2.1 kk
    refine x_harmT x w ct.1 ct.2.1 (fun v hv v1 v2 => ⟨by omega, fun d => ⟨fun e => ⟨by omega, by omega, ?_⟩, fun e => ?_⟩, fun d => ?_⟩)
    · rw [vset_cell (by decide : (14 : Nat) ≠ 14 + 7)]
      rw [vset_cell (by decide : (14 : Nat) ≠ 14 + 8), vset_cell (by decide : (14 : Nat) ≠ 14 + 7)]
      refine ⟨by omega, by omega, by omega, by omega, fun z => by omega, fun _ => ?_⟩
      have g : ∀ c k, ¬ ((c = 14 ∧ k = 9) ∨ c = 21 ∨ c = 22) → (vset (vset (vset V (14 + 7) (V 14 9).toNat a) (14 + 8) (V 14 9).toNat b) 14 9 (V 14 9 + 1)) c k = V c k := by
        intro c k z
        rw [vset_at, if_neg (by omega), vset_cell (by omega), vset_cell (by omega)]
      have y1 : ∀ j, (vset (vset (vset V (14 + 7) (V 14 9).toNat a) (14 + 8) (V 14 9).toNat b) 14 9 (V 14 9 + 1)) 21 j = if j = (V 14 9).toNat then a else V 21 j := by
        intro j
        rw [vset_cell (by omega), vset_cell (by omega), vset_at]
        simp
      have y2 : ∀ j, (vset (vset (vset V (14 + 7) (V 14 9).toNat a) (14 + 8) (V 14 9).toNat b) 14 9 (V 14 9 + 1)) 22 j = if j = (V 14 9).toNat then b else V 22 j := by
        intro j
        rw [vset_cell (by omega), vset_at, vset_cell (by omega)]
        simp
      have y3 : (vset (vset (vset V (14 + 7) (V 14 9).toNat a) (14 + 8) (V 14 9).toNat b) 14 9 (V 14 9 + 1)) 14 9 = V 14 9 + 1 := vset_same
      generalize vset (vset (vset V (14 + 7) (V 14 9).toNat a) (14 + 8) (V 14 9).toNat b) 14 9 (V 14 9 + 1) = V1 at g y1 y2 y3 ⊢
      have e9 : V1 53 9 = V 14 9 := (g 53 9 (by omega)).trans he
      refine m_two ha hb (fun q hq q1 q2 => ⟨by omega, fun _ => M V1 _ (cM_fr m (g _ _ (by omega)) (fun j => g _ _ (by omega)) (fun j => g _ _ (by omega))) (fun u hu u1 u2 => ⟨by omega, fun _ => ⟨fun _ => ⟨by omega, by omega, ?_⟩, fun z => by omega⟩, fun z => by omega⟩), fun z => by omega⟩)
      rw [vset_cell (by decide : (53 : Nat) ≠ 58)]
      rw [vset_cell (by decide : (53 : Nat) ≠ 58), vset_cell (by decide : (53 : Nat) ≠ 58), e9]
      refine ⟨by omega, by omega, by omega, fin2 hv hu (by have := mhS_in w a b; omega) (k _ (zInv_harm I ?_ ⟨?_, ?_, ?_⟩))⟩
      · intro c k z
        rw [vset_at, if_neg (by omega), vset_cell (by omega), vset_cell (by omega)]
        exact g c k (by omega)
      · rw [vset_same, vset_cell (by omega), vset_cell (by omega), vset_cell (by omega), y3]
      · rw [vset_cell (by omega), vset_cell (by omega), vset_cell (by omega), y3]
        omega
      · rw [vset_cell (c' := 14) (by omega), vset_cell (c' := 14) (by omega), vset_cell (c' := 14) (by omega), y3]
        refine rowsE_add hrow hc.1 ct.1 ct.2.1 (fun j => ?_) (fun j => ?_) (fun j => ?_)
        · rw [vset_cell (by omega), vset_cell (by omega), vset_cell (by omega)]
          exact y1 j
        · rw [vset_cell (by omega), vset_cell (by omega), vset_cell (by omega)]
          exact y2 j
        · rw [vset_cell (by omega), vset_at, vset_at, g 58 j (by omega)]
          simp
    · refine ⟨by omega, fun _ => ?_, fun z => absurd rfl z⟩
      exact m_two ha hb (fun q hq q1 q2 => ⟨by omega, fun _ => M V _ m (fun u hu u1 u2 => ⟨by omega, fun _ => ⟨fun z => by omega, fun _ => fin2 rfl rfl (by omega) (k _ I)⟩, fun z => by omega⟩), fun z => by omega⟩)
    · exact m_two ha hb (fun q hq q1 q2 => ⟨by omega, fun _ => M V _ m (fun u hu u1 u2 => ⟨by omega, fun z => by omega, fun _ => fin2 rfl rfl (by omega) (k _ I)⟩), fun z => by omega⟩)
  · exact m_two ha hb (fun q hq q1 q2 => ⟨by omega, fun d => by omega, fun d => fin2 rfl rfl (by omega) (k _ I)⟩)
end OPS4
