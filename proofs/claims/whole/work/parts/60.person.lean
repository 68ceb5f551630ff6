/-! ===== person ===== -/
def peT (V : zV) (n : Int) (s : zS) (p q : Int) : Int := if q = 0 then s 0 p else if q = 1 then s 1 p else if q = 2 then s 2 p else if q = 3 then tSi n s p else if q = 4 then hbT V 21 p else if q = 5 then hbT V 22 p else -102
section PERSON
variable {S : List zC} {V : zV} {B n : Int} {s : zS} {Q : Int → zV → Prop} {K : zV → Prop}
theorem x_cnt (h : cX S V 14 n s) (w : zwf n s) {p : Int} (hp : 0 ≤ p ∧ p < 6) (k : ∀ r, r = tSi n s p → 0 ≤ r → r ≤ 16 → Q r V) : m4_sidesOf S 14 V p (fun r91 V91 => mj6_bitCount_0f7a4 V91 r91 (fun r94 V94 => Q r94 V94)) := by
  have hn := wn w
  have t := tSi_in w p
  refine x_set h w hp (fun r hr _ => ?_)
  obtain ⟨b, e1, e2, e3⟩ := set_cnt w hp.1 (2 * n.toNat) 0 0 (by omega) (by omega) (by decide)
  have e : r = (b : Int) := hr.trans e1
  have bb : b < 65536 := by
    have p2 : 2 ^ (0 + 2 * n.toNat) ≤ 2 ^ 16 := Nat.pow_le_pow_right (by omega) (by omega)
    have p3 : (2 : Nat) ^ 16 = 65536 := by decide
    omega
  have z : (pcN 0 : Nat) = 0 := by decide
  have e4 : ((pcN b : Nat) : Int) = tSi n s p := by
    rw [e3, z]
    exact Int.zero_add _
  rw [e]
  exact pop_at bb (k _ e4 (by omega) (by omega))
theorem x_tellMan (I : zInv S V B n s) {p q : Int} (hp : inR p) (hq : inR q) (k : ∀ r, r = (if 0 ≤ p ∧ p < 6 then peT V n s p q else -101) → -102 ≤ r → r ≤ 99 → Q r V) : m11_person S V p q Q := by
  obtain ⟨w, x, m, _, ⟨_, hc, _⟩, _⟩ := id I
  unfold m11_person
  refine x_isPerson hp (fun r hr r1 r2 => ⟨by omega, fun c => ?_, fun c => ?_⟩)
  · have c1 : 0 ≤ p ∧ p < 6 := by
      unfold isPS at hr
      split at hr <;> omega
    rw [if_pos c1] at k
    unfold peT at k
    have e0 := x_0 x c1.1 c1.2
    have e1 := x_1 x c1.1 c1.2
    have e2 := x_2 x c1.1 c1.2
    have b0 := w0 w c1.1 c1.2
    have b1 := w1 w c1.1 c1.2
    have b2 := w2 w c1.1 c1.2
    clear hr
    refine ⟨hq, fun d => ⟨c1, ?_⟩, fun d => ⟨c1, ?_⟩, fun d => ⟨c1, fun g => ?_, fun g => ?_⟩, fun d => ?_, fun d => ?_, fun d => ?_, fun d => ?_⟩
    · subst d
      exact k _ (by simp; omega) (by omega) (by omega)
    · subst d
      exact k _ (by simp; omega) (by omega) (by omega)
    · subst d
      exact k _ (by simp; omega) (by omega) (by omega)
    · subst d
      exact k _ (by simp; omega) (by omega) (by omega)
    · subst d
      exact x_cnt x w c1 (fun r hr _ _ => k _ (by rw [hr]; simp) (by omega) (by omega))
    · subst d
      exact x_hb hc c1 (fun r hr _ _ => k _ (by rw [hr]; simp) (by omega) (by omega))
    · subst d
      exact x_hb hc c1 (fun r hr _ _ => k _ (by rw [hr]; simp) (by omega) (by omega))
    · refine k _ ?_ (by omega) (by omega)
      rw [if_neg (by omega), if_neg (by omega), if_neg (by omega), if_neg (by omega), if_neg (by omega), if_neg (by omega)]
  · refine k _ ?_ (by omega) (by omega)
    unfold isPS at hr
    split at hr
    · omega
    · rename_i z
      rw [if_neg z]
theorem m_tellMan (I : zInv S V B n s) {p q : Int} (c1 : 0 ≤ p ∧ p < 6) (hq : inR q) (k : ∀ r, r = peT V n s p q → -102 ≤ r → r ≤ 99 → Q r V) : m12_tellMan V p q Q := by
  obtain ⟨w, x, m, _, ⟨he, hc, hrow⟩, _⟩ := id I
  unfold peT at k
  have e0 := m_0 m c1.1 c1.2
  have e1 := m_1 m c1.1 c1.2
  have e2 := m_2 m c1.1 c1.2
  have b0 := w0 w c1.1 c1.2
  have b1 := w1 w c1.1 c1.2
  have b2 := w2 w c1.1 c1.2
  unfold m12_tellMan
  refine ⟨hq, fun d => ⟨by omega, ?_⟩, fun d => ⟨by omega, ?_⟩, fun d => ⟨by omega, ?_⟩, fun d => ?_, fun d => ?_, fun d => ?_, fun d => ?_⟩
  · subst d
    rw [Int.add_zero]
    exact k _ (by simp; omega) (by omega) (by omega)
  · subst d
    exact k _ (by simp; omega) (by omega) (by omega)
  · subst d
    exact k _ (by simp; omega) (by omega) (by omega)
  · subst d
    exact m_sidesT m w c1 (fun r hr _ _ => k _ (by rw [hr]; simp) (by omega) (by omega))
  · subst d
    exact m_hb (c := 21) he hc c1 (by omega) (fun i a b => by rw [show 2 * i + (4 - 4) = 2 * i from by omega]; exact (hrow i a b).1.symm) (fun r hr _ _ => k _ (by rw [hr]; simp) (by omega) (by omega))
  · subst d
    exact m_hb (c := 22) he hc c1 (by omega) (fun i a b => (hrow i a b).2.1.symm) (fun r hr _ _ => k _ (by rw [hr]; simp) (by omega) (by omega))
  · refine k _ ?_ (by omega) (by omega)
    rw [if_neg (by omega), if_neg (by omega), if_neg (by omega), if_neg (by omega), if_neg (by omega), if_neg (by omega)]
theorem op_person (I : zInv S V B n s) {a b : Int} (ha : inR a) (hb : inR b) (k : zInv S V B n s → K V) : m11_person S V a b (fun r V1 => m12_person V1 a b (fun r' V2 => inR r ∧ inR r' ∧ ((r = r' → K V2) ∧ (¬ r = r' → False)))) := by
  refine x_tellMan I ha hb (fun r hr r1 r2 => ?_)
  unfold m12_person
  refine m_isPerson ha (fun z hz z1 z2 => ⟨by omega, fun c => fin2 rfl (by unfold isPS at hz; split at hz <;> (rename_i q; first | omega | (rw [if_neg q] at hr; omega))) (by omega) (k I), fun c => ?_⟩)
  have c1 : 0 ≤ a ∧ a < 6 := by
    unfold isPS at hz
    split at hz <;> omega
  rw [if_pos c1] at hr
  exact m_tellMan I c1 hb (fun r' hr' _ _ => fin2 hr hr' (by omega) (k I))
end PERSON
