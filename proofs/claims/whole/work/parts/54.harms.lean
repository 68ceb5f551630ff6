/-! ===== harms done and suffered ===== -/
def hbG (V : zV) (c : Nat) (p i : Int) : Int := if V c i.toNat = p then 1 else 0
def hbT (V : zV) (c : Nat) (p : Int) : Int := sumI (hbG V c p) (V 14 9).toNat 0
theorem hbT_in {V : zV} (hc : 0 ≤ V 14 9 ∧ V 14 9 ≤ 12) (c : Nat) (p : Int) : 0 ≤ hbT V c p ∧ hbT V c p ≤ 12 := by
  have q := sumI_in (g := hbG V c p) (c := 1) (V 14 9).toNat 0 (fun j _ _ => by unfold hbG; split <;> omega)
  unfold hbT
  omega
section HB
variable {S : List zC} {V : zV} {Q : Int → zV → Prop}
theorem x_hb_L (hc : 0 ≤ V 14 9 ∧ V 14 9 ≤ 12) {c : Nat} {p : Int} (hp : 0 ≤ p ∧ p < 6) : ∀ (m : Nat) (a i : Int), 0 ≤ i → i + m = V 14 9 → (∀ r, r = a + sumI (hbG V c p) m i → Q r V) → m11_times_L5 S c 12 Q (m + 1) (V 14 9) p a i V
  | 0, a, i, hi, hm, k => by
    have e := sumI_0 (hbG V c p) i
    unfold m11_times_L5
    (repeat' (first | omega | with_reducible apply And.intro | intro _ | with_reducible apply k))
  | m + 1, a, i, hi, hm, k => by
    have e := sumI_s (hbG V c p) m i
    have eg : hbG V c p i = if V c i.toNat = p then 1 else 0 := rfl
    have ih := fun a i b c' d => x_hb_L hc (c := c) hp m a i b c' d
    clear x_hb_L
    unfold m11_times_L5
    (repeat' (first | omega | with_reducible apply And.intro | intro _ | with_reducible refine ih _ _ (by omega) (by omega) ?_ | with_reducible apply k)) <;> ((repeat' split at *) <;> omega)
theorem x_hb (hc : 0 ≤ V 14 9 ∧ V 14 9 ≤ 12) {c : Nat} {p : Int} (hp : 0 ≤ p ∧ p < 6) (k : ∀ r, r = hbT V c p → 0 ≤ r → r ≤ 12 → Q r V) : m11_times S c 12 V (V 14 9) p Q := by
  have q := hbT_in hc c p
  refine ⟨(V 14 9).toNat + 1, x_hb_L hc hp _ 0 0 (by omega) (by omega) (fun r hr => ?_)⟩
  have e : r = hbT V c p := by
    rw [hr]
    exact Int.zero_add _
  exact k r e (by omega) (by omega)
theorem m_hb_L (he : V 53 9 = V 14 9) (hc : 0 ≤ V 14 9 ∧ V 14 9 ≤ 12) {c : Nat} {p t : Int} (hp : 0 ≤ p ∧ p < 6) (ht : 0 ≤ t ∧ t ≤ 1) (hr : ∀ i : Int, 0 ≤ i → i < V 14 9 → V 58 (2 * i + t).toNat = V c i.toNat) : ∀ (m : Nat) (a i : Int), 0 ≤ i → i + m = V 14 9 → (∀ r, r = a + sumI (hbG V c p) m i → Q r V) → m12_harmsBy_L5 Q (m + 1) p t a i V
  | 0, a, i, hi, hm, k => by
    have e := sumI_0 (hbG V c p) i
    unfold m12_harmsBy_L5
    (repeat' (first | omega | with_reducible apply And.intro | intro _ | with_reducible apply k))
  | m + 1, a, i, hi, hm, k => by
    have e := sumI_s (hbG V c p) m i
    have eg : hbG V c p i = if V c i.toNat = p then 1 else 0 := rfl
    have er := hr i hi (by omega)
    have ih := fun a i b c' d => m_hb_L he hc (c := c) hp ht hr m a i b c' d
    clear m_hb_L
    unfold m12_harmsBy_L5
    (repeat' (first | omega | with_reducible apply And.intro | intro _ | with_reducible refine ih _ _ (by omega) (by omega) ?_ | with_reducible apply k)) <;> ((repeat' split at *) <;> omega)
theorem m_hb (he : V 53 9 = V 14 9) (hc : 0 ≤ V 14 9 ∧ V 14 9 ≤ 12) {c : Nat} {p t : Int} (hp : 0 ≤ p ∧ p < 6) (ht : 0 ≤ t ∧ t ≤ 1) (hr : ∀ i : Int, 0 ≤ i → i < V 14 9 → V 58 (2 * i + t).toNat = V c i.toNat) (k : ∀ r, r = hbT V c p → 0 ≤ r → r ≤ 12 → Q r V) : m12_harmsBy V p t Q := by
  have q := hbT_in hc c p
  refine ⟨(V 14 9).toNat + 1, m_hb_L he hc hp ht hr _ 0 0 (by omega) (by omega) (fun r hr => ?_)⟩
  have e : r = hbT V c p := by
    rw [hr]
    exact Int.zero_add _
  exact k r e (by omega) (by omega)
end HB
