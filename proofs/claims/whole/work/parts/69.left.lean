/-! ===== how likely so many are left ===== -/
def wuF (st go : Int) (W : Int → Int) : Int → Int := fun k => W k * go + (if k = 0 then 0 else W (k - 1) * st)
def stF (s : zS) (y f : Int) : Int := if y = 2 then s 7 f * s 7 f else s 7 f
def ofF (y : Int) : Int := if y = 2 then 100 else 10
def wyS (s : zS) (y : Int) : Nat → Int → (Int → Int) → Int → Int
  | 0, _, W => W
  | m + 1, f, W => wyS s y m (f + 1) (if s 5 f = 0 then wuF (stF s y f) (ofF y - stF s y f) W else W)
def alF (s : zS) (y : Int) : Nat → Int → Int → Int
  | 0, _, A => A
  | m + 1, f, A => alF s y m (f + 1) (if s 5 f = 0 then A * ofF y else A)
theorem wyS_s (s : zS) (y : Int) (m : Nat) (f : Int) (W : Int → Int) : wyS s y (m + 1) f W = wyS s y m (f + 1) (if s 5 f = 0 then wuF (stF s y f) (ofF y - stF s y f) W else W) := rfl
theorem alF_s (s : zS) (y : Int) (m : Nat) (f A : Int) : alF s y (m + 1) f A = alF s y m (f + 1) (if s 5 f = 0 then A * ofF y else A) := rfl
def W0F : Int → Int := fun k => if k = 0 then 1 else 0
def bdN : Nat → Int
  | 0 => 1
  | f + 1 => bdN f * 100
theorem bd_tab : ∀ f : Fin 9, bdN f.val ≤ 10000000000000000 := by decide +kernel
theorem bd_le {f : Nat} (h : f ≤ 8) : bdN f ≤ 10000000000000000 := bd_tab ⟨f, by omega⟩
/-- a row of ways that fits -/
def wsP (W : Int → Int) (A : Int) (f : Nat) : Prop := (∀ k, 0 ≤ k → k ≤ 8 → 0 ≤ W k ∧ W k ≤ A) ∧ 1 ≤ A ∧ A ≤ bdN f
section LEFT
variable {n y : Int} {s : zS}
theorem stF_in (w : zwf n s) {f : Int} (a : 0 ≤ f) (b : f < n) : 1 ≤ stF s y f ∧ stF s y f < ofF y ∧ 10 ≤ ofF y ∧ ofF y ≤ 100 := by
  have h := (w67 w a b).2
  have e : s 7 f = 1 ∨ s 7 f = 2 ∨ s 7 f = 3 ∨ s 7 f = 4 ∨ s 7 f = 5 ∨ s 7 f = 6 ∨ s 7 f = 7 ∨ s 7 f = 8 ∨ s 7 f = 9 := by omega
  unfold stF ofF
  split
  · rcases e with e | e | e | e | e | e | e | e | e <;> (rw [e]; omega)
  · omega
theorem wuF_in {st go A : Int} {W : Int → Int} (h : ∀ k, 0 ≤ k → k ≤ 8 → 0 ≤ W k ∧ W k ≤ A) (h1 : 0 ≤ st) (h2 : 0 ≤ go) (hA : 0 ≤ A) {k : Int} (a : 0 ≤ k) (b : k ≤ 8) : 0 ≤ wuF st go W k ∧ wuF st go W k ≤ A * (st + go) := by
  have p := h k a b
  have q1 := Int.mul_nonneg p.1 h2
  have q2 := Int.mul_le_mul_of_nonneg_right p.2 h2
  have q3 := Int.mul_nonneg hA h1
  rw [Int.mul_add]
  unfold wuF
  split
  · omega
  · have p' := h (k - 1) (by omega) (by omega)
    have r1 := Int.mul_nonneg p'.1 h1
    have r2 := Int.mul_le_mul_of_nonneg_right p'.2 h1
    omega
theorem wsP_s (w : zwf n s) {f : Nat} (b : (f : Int) < n) {W : Int → Int} {A : Int} (h : wsP W A f) : wsP (if s 5 (f : Int) = 0 then wuF (stF s y f) (ofF y - stF s y f) W else W) (if s 5 (f : Int) = 0 then A * ofF y else A) (f + 1) := by
  obtain ⟨h1, h2, h3⟩ := h
  have q := stF_in (y := y) w (f := (f : Int)) (by omega) b
  have e : bdN (f + 1) = bdN f * 100 := rfl
  by_cases z : s 5 (f : Int) = 0
  · rw [if_pos z, if_pos z]
    have m1 : A * ofF y ≤ A * 100 := Int.mul_le_mul_of_nonneg_left q.2.2.2 (by omega)
    have m2 : A * 1 ≤ A * ofF y := Int.mul_le_mul_of_nonneg_left (by omega) (by omega)
    refine ⟨fun k ka kb => ?_, by omega, by omega⟩
    have u := wuF_in (st := stF s y f) (go := ofF y - stF s y f) h1 (by omega) (by omega) (by omega) ka kb
    rw [show stF s y (f : Int) + (ofF y - stF s y (f : Int)) = ofF y from by omega] at u
    exact u
  · rw [if_neg z, if_neg z]
    exact ⟨h1, h2, by omega⟩
theorem ws_end (w : zwf n s) : ∀ (m f : Nat) (W : Int → Int) (A : Int), (f : Int) + m = n → wsP W A f → wsP (wyS s y m f W) (alF s y m f A) (f + m)
  | 0, f, W, A, _, h => h
  | m + 1, f, W, A, e, h => by
    rw [wyS_s, alF_s, show f + (m + 1) = f + 1 + m from by omega]
    exact ws_end w m (f + 1) _ _ (by omega) (wsP_s w (by omega) h)
theorem ws_0 : wsP W0F 1 0 := by
  refine ⟨fun k a b => ?_, by omega, Int.le_refl 1⟩
  unfold W0F
  split <;> omega
theorem ws_all (w : zwf n s) : wsP (wyS s y n.toNat 0 W0F) (alF s y n.toNat 0 1) n.toNat := by
  have hn := wn w
  have h := ws_end (y := y) w n.toNat 0 W0F 1 (by omega) ws_0
  rw [Nat.zero_add] at h
  exact h
theorem wrL_id {x : Int} (h : inL x) : wrL x = x := by
  unfold wrL
  exact Int64.toInt_ofInt_of_le (by omega) (by omega)
/-! ===== the greatest common divisor ===== -/
theorem gcd_st (a b : Nat) : Nat.gcd a b = Nat.gcd b (a % b) := by
  rw [Nat.gcd_comm a b, Nat.gcd_rec b a, Nat.gcd_comm]
theorem half_st {a b t : Nat} (h : b ≤ a) (hb : 0 < b) (hp : a * b < 2 ^ (t + 1)) : b * (a % b) < 2 ^ t := by
  have e := Nat.div_add_mod a b
  have l := Nat.mod_lt a hb
  have d : 1 ≤ a / b := Nat.div_pos h hb
  have d2 : b * 1 ≤ b * (a / b) := Nat.mul_le_mul_left b d
  have k : 2 * (a % b) ≤ a := by omega
  have k2 : b * (2 * (a % b)) ≤ b * a := Nat.mul_le_mul_left b k
  rw [Nat.mul_comm b a, show b * (2 * (a % b)) = 2 * (b * (a % b)) from by rw [Nat.mul_left_comm]] at k2
  rw [Nat.pow_succ] at hp
  omega
theorem big_p {a b : Nat} (ha : a ≤ 10000000000000000) (hb : b ≤ 10000000000000000) : a * b < 2 ^ 110 := by
  have h := Nat.mul_le_mul ha hb
  have e : 10000000000000000 * 10000000000000000 < 2 ^ 110 := by decide +kernel
  omega
section GCD
variable {S : List zC} {V : zV} {Q : Int → zV → Prop}
theorem x_cd_L : ∀ (t a b : Nat) (k : Int), b ≤ a → a ≤ 10000000000000000 → a * b < 2 ^ t → 0 ≤ k → k + t < 200 → Q ((Nat.gcd a b : Nat) : Int) V → m7_commonDivisor_L9 S Q (t + 1) (a : Int) (b : Int) k V
  | 0, a, b, k, h1, h2, h3, h4, h5, q => by
    have z : b = 0 := by
      rw [Nat.pow_zero] at h3
      have e : a * b = 0 := by omega
      rcases Nat.mul_eq_zero.mp e with e | e <;> omega
    subst z
    rw [Nat.gcd_zero_right] at q
    unfold m7_commonDivisor_L9
    exact ⟨by omega, fun _ => q, fun _ => ⟨by omega, fun _ => q, fun z => absurd rfl z⟩⟩
  | t + 1, a, b, k, h1, h2, h3, h4, h5, q => by
    have ih := x_cd_L t b (a % b) (k + 1)
    clear x_cd_L
    unfold m7_commonDivisor_L9
    by_cases z : b = 0
    · subst z
      rw [Nat.gcd_zero_right] at q
      exact ⟨by omega, fun _ => q, fun _ => ⟨by omega, fun _ => q, fun z => absurd rfl z⟩⟩
    · have l := Nat.mod_lt a (show b > 0 by omega)
      refine ⟨by omega, fun z => by omega, fun _ => ⟨by omega, fun z => by omega, fun _ => ⟨by omega, ?_⟩⟩⟩
      rw [gcd_st] at q
      rw [← Int.natCast_emod]
      exact ih (by omega) (by omega) (half_st h1 (by omega) h3) (by omega) (by omega) q
theorem x_cd {a b : Nat} (h1 : 0 < b) (h2 : a ≤ 10000000000000000) (h3 : b ≤ 10000000000000000) (q : Q ((Nat.gcd a b : Nat) : Int) V) : m7_commonDivisor S V (a : Int) (b : Int) Q := by
  refine ⟨112, ?_⟩
  have l := Nat.mod_lt a h1
  rw [gcd_st] at q
  unfold m7_commonDivisor_L9
  refine ⟨by omega, fun z => by omega, fun _ => ⟨by omega, fun z => by omega, fun _ => ⟨by omega, ?_⟩⟩⟩
  rw [← Int.natCast_emod]
  exact x_cd_L 110 b (a % b) (0 + 1) (by omega) (by omega) (big_p (by omega) (by omega)) (by omega) (by omega) q
theorem m_term_L {up low pt : Int} (hu : 0 ≤ up ∧ up ≤ 10000000000000000) (hl : 0 ≤ low ∧ low ≤ 10000000000000000) (hp : inR pt) : ∀ (t x y : Nat), x ≤ y → y ≤ 10000000000000000 → 0 < y → x * y < 2 ^ t → (∀ r, r = (if pt = 0 then up / ((Nat.gcd x y : Nat) : Int) else low / ((Nat.gcd x y : Nat) : Int)) → Q r V) → m12_term_L6 Q (t + 1) up low pt (x : Int) (y : Int) V
  | 0, x, y, h1, h2, h3, h4, q => by
    have z : x = 0 := by
      rw [Nat.pow_zero] at h4
      have e : x * y = 0 := by omega
      rcases Nat.mul_eq_zero.mp e with e | e <;> omega
    subst z
    rw [Nat.gcd_zero_left] at q
    unfold m12_term_L6
    refine ⟨by omega, fun _ => ⟨hp, fun z => ⟨by omega, q _ ?_⟩, fun z => ⟨by omega, q _ ?_⟩⟩, fun z => absurd rfl z⟩
    · rw [if_neg z]
    · rw [if_pos z]
  | t + 1, x, y, h1, h2, h3, h4, q => by
    have ih := m_term_L hu hl hp t (y % x) x
    clear m_term_L
    unfold m12_term_L6
    by_cases z : x = 0
    · subst z
      rw [Nat.gcd_zero_left] at q
      refine ⟨by omega, fun _ => ⟨hp, fun z => ⟨by omega, q _ ?_⟩, fun z => ⟨by omega, q _ ?_⟩⟩, fun z => absurd rfl z⟩
      · rw [if_neg z]
      · rw [if_pos z]
    · have l := Nat.mod_lt y (show x > 0 by omega)
      refine ⟨by omega, fun z => by omega, fun _ => ⟨by omega, ?_⟩⟩
      rw [Nat.gcd_rec x y] at q
      rw [← Int.natCast_emod]
      have hh := half_st (a := y) (b := x) (t := t) h1 (by omega) (by rw [Nat.mul_comm]; exact h4)
      exact ih (by omega) (by omega) (by omega) (by rw [Nat.mul_comm]; exact hh) q
end GCD
end LEFT
