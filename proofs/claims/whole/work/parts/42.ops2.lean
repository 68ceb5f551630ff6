section OPS2
variable {S : List zC} {V : zV} {B n : Int} {s : zS} {K : zV → Prop}
def asS (n : Int) (s : zS) (f a : Int) : Int := if ¬ (0 ≤ f ∧ f < n) then -101 else if ¬ (0 ≤ a ∧ a ≤ 4) then -102 else if a = 0 ∨ a = s 6 f ∨ (a = 3 ∧ s 6 f = 4) then f else -1
theorem x_as (h : cX S V 14 n s) (w : zwf n s) {f a : Int} (hf : inR f) (ha : inR a) {Q : Int → zV → Prop} (k : ∀ r, r = asS n s f a → -102 ≤ r → r ≤ 21 → Q r V) : m11_as S V f a Q := by
  have hn := wn w
  unfold m11_as
  refine x_isFeud (x_n h) hf (fun r hr r1 r2 => ⟨by omega, fun c => ?_, fun c => k _ ?_ (by omega) (by omega)⟩)
  · have c1 : 0 ≤ f ∧ f < n := by
      unfold isFS at hr
      split at hr <;> omega
    have e6 := x_6 h c1.1 c1.2
    have b6 := w67 w c1.1 c1.2
    rw [e6]
    have eo : okK (s 6 f) a = 0 ∨ okK (s 6 f) a = 1 := by
      unfold okK
      split <;> omega
    unfold asS at k
    rw [if_neg (fun z => z c1)] at k
    refine ⟨ha, fun d => k _ ?_ (by omega) (by omega), fun d => ⟨fun e => ⟨by omega, by omega, fun g => k _ ?_ (by omega) (by omega), fun g => k _ ?_ (by omega) (by omega)⟩, fun e => k _ ?_ (by omega) (by omega)⟩⟩
    · rw [if_pos (by omega)]
    · rw [if_neg (by omega), if_neg]
      unfold okK at g
      split at g <;> omega
    · rw [if_neg (by omega), if_pos]
      unfold okK at g
      split at g <;> omega
    · rw [if_pos (by omega)]
  · unfold isFS at hr
    unfold asS
    rw [if_pos]
    intro z
    rw [if_pos z] at hr
    omega
theorem m_as (h : cM V n s) (w : zwf n s) {f a : Int} (hf : inR f) (ha : inR a) {Q : Int → zV → Prop} (k : ∀ r, r = asS n s f a → -102 ≤ r → r ≤ 21 → Q r V) : m12_as V f a Q := by
  have hn := wn w
  unfold m12_as m12_as_J60
  refine m_isFeud (m_n h) hn hf (fun r hr r1 r2 => ⟨by omega, fun c => ?_, fun c => k _ ?_ (by omega) (by omega)⟩)
  · have c1 : 0 ≤ f ∧ f < n := by
      unfold isFS at hr
      split at hr <;> omega
    have e6 := m_6 h c1.1 c1.2
    have b6 := w67 w c1.1 c1.2
    unfold asS at k
    rw [if_neg (fun z => z c1)] at k
    clear hr
    refine ⟨ha, m_in ha (by omega) (by omega) ?_⟩
    (repeat' (first | omega | with_reducible apply And.intro | intro _ | with_reducible apply k)) <;> ((repeat' split at *) <;> omega)
  · unfold isFS at hr
    unfold asS
    rw [if_pos]
    intro z
    rw [if_pos z] at hr
    omega
theorem op_as (I : zInv S V B n s) {a b : Int} (ha : inR a) (hb : inR b) (k : zInv S V B n s → K V) : m11_as S V a b (fun r V1 => m12_as V1 a b (fun r' V2 => inR r ∧ inR r' ∧ ((r = r' → K V2) ∧ (¬ r = r' → False)))) := by
  obtain ⟨w, x, m, _⟩ := id I
  exact x_as x w ha hb (fun r hr r1 r2 => m_as m w ha hb (fun r' hr' _ _ => fin2 hr hr' (by omega) (k I)))
def heK (n : Int) (s : zS) (a b : Int) : Prop := (0 ≤ a ∧ a < 6) ∧ (b = -1 ∨ (0 ≤ b ∧ b < 6)) ∧ a ≠ b ∧ 0 < n ∧ s 2 a ≠ 0
def heR (n : Int) (s : zS) (a b : Int) : Int := if ¬ (0 ≤ a ∧ a < 6) ∨ ¬ (b = -1 ∨ (0 ≤ b ∧ b < 6)) ∨ a = b then -101 else if n ≤ 0 ∨ s 2 a = 0 then -103 else s 1 a
def fin3 (n : Int) (s : zS) (P : Prop) (s1 s' : zS) : Prop := (P → s' = s1) ∧ (¬ P → s' = s)
theorem x_heir (h : cX S V 14 n s) (w : zwf n s) {a b : Int} (ha : inR a) (hb : inR b) {Q : Int → zV → Prop} (k : ∀ r V', r = heR n s a b → -103 ≤ r → r ≤ 21 → (heK n s a b → cX S V' 14 n (iset s 1 a b)) → (¬ heK n s a b → cX S V' 14 n s) → frX 14 V V' → Q r V') : m11_heir S V a b Q := by
  have hn := wn w
  have en := x_n h
  have k0 : ∀ r, ¬ heK n s a b → r = heR n s a b → -103 ≤ r → r ≤ 21 → Q r V := fun r c d e g => k r V d e g (fun z => absurd z c) (fun _ => h) (frX_r _ _)
  unfold heK heR at k0
  unfold m11_heir m11_heir_J19
  by_cases c : 0 ≤ a ∧ a < 6
  · have e1 := x_1 h c.1 c.2
    have e2 := x_2 h c.1 c.2
    have b1 := w1 w c.1 c.2
    have b2 := w2 w c.1 c.2
    have k1 : heK n s a b → Q (V (14 + 2) a.toNat) (vset V (14 + 2) a.toNat b) := fun z => k _ _ (by unfold heR; unfold heK at z; rw [if_neg (by omega), if_neg (by omega)]; exact e1) (by omega) (by omega) (fun _ => x_puts1 h c.1 c.2 (by omega)) (fun y => absurd z y) (frX_s (frX_r _ _) (by omega) (by omega))
    unfold heK at k1
    clear k
    (repeat' (first | omega | with_reducible apply And.intro | intro _ | with_reducible refine x_isPerson ha ?_ | with_reducible refine x_isPerson hb ?_ | with_reducible refine x_hasList (x_n h) ?_ | with_reducible refine k0 _ ?_ ?_ ?_ ?_ | with_reducible apply k1)) <;> (simp only [isPS] at *; (repeat' split at *) <;> omega)
  · clear k
    (repeat' (first | omega | with_reducible apply And.intro | intro _ | with_reducible refine x_isPerson ha ?_ | with_reducible refine x_isPerson hb ?_ | with_reducible refine x_hasList (x_n h) ?_ | with_reducible apply k0)) <;> (simp only [isPS] at *; (repeat' split at *) <;> omega)
end OPS2
