/-! ===== a set of sides, and wills ===== -/
theorem zor_in (x y : Int) : inR (zor x y) := ⟨Int32.le_toInt _, Int32.toInt_lt _⟩
theorem zor_0 {x : Int} (h : inR x) : zor x 0 = x := by
  have e : Int32.ofInt x ||| Int32.ofInt 0 = Int32.ofInt x := by
    rw [show Int32.ofInt 0 = 0 from rfl, Int32.or_zero]
  unfold zor
  rw [e]
  exact Int32.toInt_ofInt_of_le (by omega) (by omega)
def setS (s : zS) (p : Int) : Nat → Int → Int → Int
  | 0, _, a => a
  | m + 1, j, a => setS s p m (j + 1) (if onS s j = p then zor a (zshl 1 j) else a)
theorem setS_s (s : zS) (p : Int) (m : Nat) (j a : Int) : setS s p (m + 1) j a = setS s p m (j + 1) (if onS s j = p then zor a (zshl 1 j) else a) := rfl
theorem setS_in (s : zS) (p : Int) : ∀ (m : Nat) (j a : Int), inR a → inR (setS s p m j a)
  | 0, _, a, h => h
  | m + 1, j, a, h => by
    rw [setS_s]
    refine setS_in s p m _ _ ?_
    split
    · exact zor_in _ _
    · exact h
def setT (n : Int) (s : zS) (p : Int) : Int := setS s p (2 * n.toNat) 0 0
section SET
variable {S : List zC} {V : zV} {o : Nat} {n : Int} {s : zS} {Q : Int → zV → Prop}
theorem x_set_L (h : cX S V o n s) (w : zwf n s) {p : Int} (hp : 0 ≤ p ∧ p < 6) : ∀ (m : Nat) (a f : Int), 0 ≤ f → f + m = n → Q (setS s p (2 * m) (2 * f) a) V → m4_sidesOf_L4 S o Q (m + 1) p a f V
  | 0, a, f, hf, hm, k => by
    have hn := wn w
    have en := x_n h
    unfold m4_sidesOf_L4
    exact ⟨by omega, fun _ => k, fun z => by omega⟩
  | m + 1, a, f, hf, hm, k => by
    have hn := wn w
    have en := x_n h
    have ih := fun a' z => x_set_L h w hp m a' (f + 1) (by omega) (by omega) z
    clear x_set_L
    rw [show 2 * (m + 1) = 2 * m + 1 + 1 from by omega, setS_s, setS_s, show 2 * f + 1 + 1 = 2 * (f + 1) from by omega] at k
    unfold m4_sidesOf_L4
    refine ⟨by omega, fun z => by omega, fun _ => ⟨3, ?_⟩⟩
    have st : ∀ (g : Nat) (a t : Int) (j : Int), 0 ≤ t ∧ t ≤ 1 → j = 2 * f + t → m4_sidesOf_L18 S o (m4_sidesOf_L4 S o Q (m + 1)) Q g p (if onS s j = p then zor a (zshl 1 j) else a) f (t + 1) V → m4_sidesOf_L18 S o (m4_sidesOf_L4 S o Q (m + 1)) Q (g + 1) p a f t V := by
      intro g a t j ht hj kk
      unfold m4_sidesOf_L18
      refine ⟨by omega, fun z => by omega, fun _ => x_onSide h w (by omega) ht (fun r hr r1 r2 => ⟨by omega, by omega, fun d => ?_, fun d => ?_⟩)⟩
      · rw [hj, if_neg (by omega)] at kk
        exact kk
      · rw [hj, if_pos (by omega)] at kk
        exact kk
    refine st 2 a 0 (2 * f) (by omega) (by omega) (st 1 _ (0 + 1) (2 * f + 1) (by omega) (by omega) ?_)
    unfold m4_sidesOf_L18
    exact ⟨by omega, fun _ => ih _ k, fun z => by omega⟩
theorem x_set (h : cX S V o n s) (w : zwf n s) {p : Int} (hp : 0 ≤ p ∧ p < 6) (k : ∀ r, r = setT n s p → inR r → Q r V) : m4_sidesOf S o V p Q := by
  have hn := wn w
  exact ⟨n.toNat + 1, x_set_L h w hp n.toNat 0 0 (by omega) (by omega) (k _ rfl (setS_in s p _ _ _ (by omega)))⟩
theorem m_set_L (h : cM V n s) (w : zwf n s) {p : Int} (hp : 0 ≤ p ∧ p < 6) : ∀ (m : Nat) (a j : Int), 0 ≤ j → j + m = 2 * n → inR a → m12_layBack V (fun V138 => Q (setS s p m j a) V138) → m12_wills_L82 Q (m + 1) p a j V
  | 0, a, j, hj, hm, ha, k => by
    have hn := wn w
    have en := m_n h
    unfold m12_wills_L82
    exact ⟨by omega, by omega, fun _ => k, fun z => by omega⟩
  | m + 1, a, j, hj, hm, ha, k => by
    have hn := wn w
    have en := m_n h
    have ih := fun a' z1 z => m_set_L h w hp m a' (j + 1) (by omega) (by omega) z1 z
    clear m_set_L
    have ej : 2 * (j / 2) + j % 2 = j := by omega
    rw [setS_s] at k
    unfold m12_wills_L82
    rw [zor_0 ha]
    refine ⟨by omega, by omega, fun z => by omega, fun _ => ⟨by omega, m_isStruck h w (by omega) (fun r hr r1 r2 => ⟨by omega, fun d => ?_, fun d => ⟨by omega, by omega, m_onSide h w (by omega) (by omega) (fun q hq q1 q2 => ⟨by omega, by omega, fun e => ?_, fun e => ?_⟩)⟩⟩)⟩⟩
    · have z := wst w (j := j) (by omega) (by omega) (by omega)
      have eo : onS s j = -1 := by
        unfold onS
        rw [if_pos z.2]
        exact z.1
      rw [if_neg (by omega)] at k
      exact ih a ha k
    · rw [ej] at hq
      rw [if_neg (by omega)] at k
      exact ih a ha k
    · rw [ej] at hq
      rw [if_pos (by omega)] at k
      exact ih _ (zor_in _ _) k
end SET
def wilS (n a : Int) : Nat → Int → zS → zS
  | 0, _, s => s
  | m + 1, p, s => wilS n a m (p + 1) (if bitI a p = 1 ∧ s 2 p ≠ 0 then dieS n s p else s)
theorem w_wil {n a : Int} : ∀ (m : Nat) (p : Int) (s : zS), 0 ≤ p → p + m = 6 → zwf n s → zwf n (wilS n a m p s)
  | 0, _, s, _, _, w => w
  | m + 1, p, s, hp, hm, w => w_wil m (p + 1) _ (by omega) (by omega) (by
    split
    · exact w_die w (by omega)
    · exact w)
section WIL
variable {S : List zC} {n : Int} {Q : Int → zV → Prop}
theorem x_wil_L {a b : Int} (ha : 0 ≤ a ∧ a < 64) (hb : 0 ≤ b ∧ b < 6) : ∀ (m : Nat) (p : Int) (V : zV) (s : zS), 0 ≤ p → p + m = 6 → cX S V 36 n s → zwf n s → (∀ r V', r = setT n (wilS n a m p s) b → inR r → frX 36 V V' → Q r V') → m11_wills_L46 S Q (m + 1) a b p V
  | 0, p, V, s, hp, hm, x, w, k => by
    unfold m11_wills_L46
    exact ⟨by omega, fun _ => x_set x w hb (fun r hr r1 => k r V hr r1 (frX_r _ _)), fun z => by omega⟩
  | m + 1, p, V, s, hp, hm, x, w, k => by
    have k2 : ∀ r V', r = setT n (wilS n a m (p + 1) (if bitI a p = 1 ∧ s 2 p ≠ 0 then dieS n s p else s)) b → inR r → frX 36 V V' → Q r V' := k
    have bt := bitI_01 ha (x := p) (by omega)
    have e2 := x_2 x (p := p) (by omega) (by omega)
    unfold m11_wills_L46
    refine ⟨by omega, fun z => by omega, fun _ => ?_⟩
    show inR (bitI a p) ∧ (¬ bitI a p = 1 → _) ∧ (bitI a p = 1 → _)
    refine ⟨by omega, fun d => ?_, fun d => ⟨by omega, fun e => ?_, fun e => ?_⟩⟩
    · rw [if_neg (fun z => d z.1)] at k2
      exact x_wil_L ha hb m (p + 1) V s (by omega) (by omega) x w k2
    · rw [if_neg (fun z => z.2 (by omega))] at k2
      exact x_wil_L ha hb m (p + 1) V s (by omega) (by omega) x w k2
    · rw [if_pos ⟨d, by omega⟩] at k2
      exact x_die x w (by omega) (by omega) (fun v V1 _ _ _ x1 f1 => x_wil_L ha hb m (p + 1) V1 _ (by omega) (by omega) x1 (w_die w (by omega)) (fun r V' h1 h2 f2 => k2 r V' h1 h2 (frX_t f1 f2)))
theorem m_wil_L {a b : Int} {s0 : zS} (hn : 0 ≤ n ∧ n ≤ 8) (ha : 0 ≤ a ∧ a < 64) (hb : 0 ≤ b ∧ b < 6) : ∀ (m : Nat) (p : Int) (V : zV) (s : zS), 0 ≤ p → p + m = 6 → cM V n s → cSv V n s0 → zwf n s → (∀ r V', r = setT n (wilS n a m p s) b → cM V' n s0 → frM V V' → Q r V') → m12_wills_L41 Q (m + 1) a b p V
  | 0, p, V, s, hp, hm, x, sv, w, k => by
    unfold m12_wills_L41
    refine ⟨by omega, fun _ => ⟨2 * n.toNat + 1, m_set_L x w hb (2 * n.toNat) 0 0 (by omega) (by omega) (by omega) (m_layBack sv hn.2 (fun V' m' _ f' => k _ V' rfl m' f'))⟩, fun z => by omega⟩
  | m + 1, p, V, s, hp, hm, x, sv, w, k => by
    have k2 : ∀ r V', r = setT n (wilS n a m (p + 1) (if bitI a p = 1 ∧ s 2 p ≠ 0 then dieS n s p else s)) b → cM V' n s0 → frM V V' → Q r V' := k
    have bt := bitI_01 ha (x := p) (by omega)
    unfold m12_wills_L41
    refine ⟨by omega, fun z => by omega, fun _ => ?_⟩
    show inR (bitI a p) ∧ (¬ bitI a p = 1 → _) ∧ (bitI a p = 1 → _)
    refine ⟨by omega, fun d => ?_, fun d => m_isAlive x w (by omega) (fun r hr r1 r2 => ⟨by omega, fun e => ?_, fun e => ?_⟩)⟩
    · rw [if_neg (fun z => d z.1)] at k2
      exact m_wil_L hn ha hb m (p + 1) V s (by omega) (by omega) x sv w k2
    · rw [if_neg (fun z => z.2 (by omega))] at k2
      exact m_wil_L hn ha hb m (p + 1) V s (by omega) (by omega) x sv w k2
    · rw [if_pos ⟨d, by omega⟩] at k2
      exact m_die x w (by omega) (fun v V1 _ _ _ x1 f1 => m_wil_L hn ha hb m (p + 1) V1 _ (by omega) (by omega) x1 (cSv_M sv f1) (w_die w (by omega)) (fun r V' h1 h2 f2 => k2 r V' h1 h2 (frM_t f1 f2)))
theorem op_wills {V : zV} {B : Int} {s : zS} {K : zV → Prop} (I : zInv S V B n s) {a b : Int} (ha : inR a) (hb : inR b) (k : ∀ V', zInv S V' B n s → K V') : m11_wills S V a b (fun r V1 => m12_wills V1 a b (fun r' V2 => inR r ∧ inR r' ∧ ((r = r' → K V2) ∧ (¬ r = r' → False)))) := by
  obtain ⟨w, x, m, _⟩ := id I
  have hn := wn w
  have bad : ∀ y : Int, inR y → inR y ∧ inR y ∧ ((y = y → K V) ∧ (¬ y = y → False)) := fun y hy => fin2 rfl rfl hy (k V I)
  unfold m11_wills m12_wills
  refine x_isPerson hb (fun r hr r1 r2 => ⟨by omega, fun c => ⟨ha, fun d => ?_, fun d => ⟨fun e => x_hasList (x_n x) (fun z hz z1 z2 => ⟨by omega, fun g => x_copy (by omega) (fun V1 hc => ?_), fun g => ?_⟩), fun e => ?_⟩⟩, fun c => ?_⟩)
  · refine m_isPerson hb (fun r' hr' _ _ => ⟨by omega, fun _ => ⟨ha, m_in ha (by omega) (by omega) (fun y hy _ _ => ⟨by omega, fun q => ?_, fun q => bad _ (by omega)⟩)⟩, fun q => by omega⟩)
    rw [if_neg (by omega)] at hy
    omega
  · have cb : 0 ≤ b ∧ b < 6 := by
      unfold isPS at hr
      split at hr <;> omega
    have c0 : 0 < n := by split at hz <;> omega
    refine ⟨6 + 1, x_wil_L ⟨d, e⟩ cb 6 0 V1 s (by omega) (by omega) (cX_cp hc (by omega) x) w (fun v V2 hv v1 f2 => ?_)⟩
    have m2 : cM V2 n s := cM_fr m ((f2 _ _ (by omega)).trans (hc.1 _ _ (by omega))) (fun j => (f2 _ _ (by omega)).trans (hc.1 _ _ (by omega))) (fun j => (f2 _ _ (by omega)).trans (hc.1 _ _ (by omega)))
    refine m_isPerson hb (fun r' hr' _ _ => ⟨by omega, fun _ => ⟨ha, m_in ha (by omega) (by omega) (fun y hy _ _ => ⟨by omega, fun _ => m_lacks (m_n m2) hn.1 (fun u hu _ _ => ⟨by omega, fun _ => m_save m2 hn.2 (fun V3 m3 s3 f3 _ => ⟨6 + 1, m_wil_L hn ⟨d, e⟩ cb 6 0 V3 s (by omega) (by omega) m3 s3 w (fun v' V4 hv' m4 f4 => ?_)⟩), fun q => ?_⟩), fun q => ?_⟩)⟩, fun q => by omega⟩)
    · exact fin2 (hv.trans hv'.symm) rfl (by rw [hv', ← hv]; exact v1) (k V4 (zInv_sc I (fS2_t (fS2_C hc) (fS2_t (fS2_X f2) (fS2_t (fS2_S f3) (fS2_M f4)))) m4))
    · split at hu <;> omega
    · rw [if_pos (by omega)] at hy
      omega
  · refine m_isPerson hb (fun r' hr' _ _ => ⟨by omega, fun _ => ⟨ha, m_in ha (by omega) (by omega) (fun y hy _ _ => ⟨by omega, fun _ => m_lacks (m_n m) hn.1 (fun u hu _ _ => ⟨by omega, fun q => ?_, fun q => bad _ (by omega)⟩), fun q => ?_⟩)⟩, fun q => by omega⟩)
    · (repeat' split at *) <;> omega
    · rw [if_pos (by omega)] at hy
      omega
  · refine m_isPerson hb (fun r' hr' _ _ => ⟨by omega, fun _ => ⟨ha, m_in ha (by omega) (by omega) (fun y hy _ _ => ⟨by omega, fun q => ?_, fun q => bad _ (by omega)⟩)⟩, fun q => by omega⟩)
    rw [if_neg (by omega)] at hy
    omega
  · exact m_isPerson hb (fun r' hr' _ _ => ⟨by omega, fun q => by omega, fun q => bad _ (by omega)⟩)
end WIL
