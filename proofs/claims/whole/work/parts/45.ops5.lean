section OPS5
variable {S : List zC} {V : zV} {B n : Int} {s : zS} {K : zV → Prop}
theorem op_register (I : zInv S V B n s) {a b : Int} (ha : inR a) (hb : inR b) (k : ∀ V', zInv S V' B n s → K V') : m11_register S V a b (fun r V1 => m12_register V1 a b (fun r' V2 => inR r ∧ inR r' ∧ ((r = r' → K V2) ∧ (¬ r = r' → False)))) := by
  obtain ⟨w, x, m, _, _, ⟨he, hc, hrow⟩, _⟩ := id I
  unfold m11_register m12_register m4_keepRegister
  refine x_two ha hb (fun r hr r1 r2 => ⟨by omega, fun c => ?_, fun c => ?_⟩)
  · have ct : (0 ≤ a ∧ a < 6) ∧ (0 ≤ b ∧ b < 6) ∧ a ≠ b := by
      unfold twoS at hr
      split at hr <;> omega
    refine ⟨fun e => ⟨by omega, by omega, ?_⟩, fun e => ?_⟩
    · rw [vset_cell (by decide : (14 : Nat) ≠ 14 + 9)]
      rw [vset_cell (by decide : (14 : Nat) ≠ 14 + 10), vset_cell (by decide : (14 : Nat) ≠ 14 + 9)]
      refine ⟨by omega, by omega, by omega, by omega, fun z => by omega, fun _ => ?_⟩
      have g : ∀ c k, ¬ ((c = 14 ∧ k = 12) ∨ c = 23 ∨ c = 24) → (vset (vset (vset V (14 + 9) (V 14 12).toNat a) (14 + 10) (V 14 12).toNat b) 14 12 (V 14 12 + 1)) c k = V c k := by
        intro c k z
        rw [vset_at, if_neg (by omega), vset_cell (by omega), vset_cell (by omega)]
      have y1 : ∀ j, (vset (vset (vset V (14 + 9) (V 14 12).toNat a) (14 + 10) (V 14 12).toNat b) 14 12 (V 14 12 + 1)) 23 j = if j = (V 14 12).toNat then a else V 23 j := by
        intro j
        rw [vset_cell (by omega), vset_cell (by omega), vset_at]
        simp
      have y2 : ∀ j, (vset (vset (vset V (14 + 9) (V 14 12).toNat a) (14 + 10) (V 14 12).toNat b) 14 12 (V 14 12 + 1)) 24 j = if j = (V 14 12).toNat then b else V 24 j := by
        intro j
        rw [vset_cell (by omega), vset_at, vset_cell (by omega)]
        simp
      have y3 : (vset (vset (vset V (14 + 9) (V 14 12).toNat a) (14 + 10) (V 14 12).toNat b) 14 12 (V 14 12 + 1)) 14 12 = V 14 12 + 1 := vset_same
      generalize vset (vset (vset V (14 + 9) (V 14 12).toNat a) (14 + 10) (V 14 12).toNat b) 14 12 (V 14 12 + 1) = V1 at g y1 y2 y3 ⊢
      have e9 : V1 53 15 = V 14 12 := (g 53 15 (by omega)).trans he
      refine m_two ha hb (fun q hq q1 q2 => ⟨by omega, fun _ => ⟨fun _ => ⟨by omega, by omega, ?_⟩, fun z => by omega⟩, fun z => by omega⟩)
      rw [vset_cell (by decide : (53 : Nat) ≠ 63)]
      rw [vset_cell (by decide : (53 : Nat) ≠ 63), vset_cell (by decide : (53 : Nat) ≠ 63), e9]
      refine ⟨by omega, by omega, by omega, fin2 y3 vset_same (by omega) (k _ (zInv_reg I ?_ ⟨?_, ?_, ?_⟩))⟩
      · intro c k z
        rw [vset_at, if_neg (by omega), vset_cell (by omega), vset_cell (by omega)]
        exact g c k (by omega)
      · rw [vset_same, vset_cell (by omega), vset_cell (by omega), vset_cell (by omega), y3]
      · rw [vset_cell (by omega), vset_cell (by omega), vset_cell (by omega), y3]
        omega
      · rw [vset_cell (c' := 14) (by omega), vset_cell (c' := 14) (by omega), vset_cell (c' := 14) (by omega), y3]
        refine rowsE_add hrow hc.1 ct.1 ct.2.1 (fun j => ?_) (fun j => ?_) (fun j => ?_)
        · rw [vset_cell (by omega), vset_cell (by omega), vset_cell (by omega)]
          exact y1 j
        · rw [vset_cell (by omega), vset_cell (by omega), vset_cell (by omega)]
          exact y2 j
        · rw [vset_cell (by omega), vset_at, vset_at, g 63 j (by omega)]
          simp
    · refine ⟨by omega, fun _ => ?_, fun z => absurd rfl z⟩
      exact m_two ha hb (fun q hq q1 q2 => ⟨by omega, fun _ => ⟨fun z => by omega, fun _ => fin2 rfl rfl (by omega) (k _ I)⟩, fun z => by omega⟩)
  · exact m_two ha hb (fun q hq q1 q2 => ⟨by omega, fun d => by omega, fun d => fin2 rfl rfl (by omega) (k _ I)⟩)
theorem op_forget (I : zInv S V B n s) (k : ∀ V', zInv S V' B n s → K V') : m11_forget S V  (fun r V1 => m12_forget V1  (fun r' V2 => inR r ∧ inR r' ∧ ((r = r' → K V2) ∧ (¬ r = r' → False)))) := by
  obtain ⟨w, x, m, _, _, ⟨he, hc, hrow⟩, _⟩ := id I
  unfold m11_forget m12_forget
  refine fin2 (x := V 14 12) rfl ?_ (by omega) (k _ (zInv_reg I ?_ ⟨?_, ?_, ?_⟩))
  · rw [vset_cell (by omega)]
    exact he
  · intro c k z
    rw [vset_at, if_neg (by omega), vset_at, if_neg (by omega)]
  · rw [vset_same, vset_cell (by omega), vset_same]
  · rw [vset_cell (by omega), vset_same]
    omega
  · rw [vset_cell (c' := 14) (by omega), vset_same]
    intro j p q
    omega
theorem op_blank (I : zInv S V B n s) (k : ∀ V', zInv S V' B n s → K V') : m11_blank S V  (fun r V1 => m12_blank V1  (fun r' V2 => inR r ∧ inR r' ∧ ((r = r' → K V2) ∧ (¬ r = r' → False)))) := by
  obtain ⟨w, x, m, ⟨he, hc, hrow⟩, _⟩ := id I
  unfold m11_blank m12_blank m8_wipe
  refine fin2 (x := V 1 1) rfl ?_ (by omega) (k _ (zInv_page I ?_ ⟨?_, ?_, ?_⟩))
  · rw [vset_cell (by omega)]
    exact he
  · intro c k z
    rw [vset_at, if_neg (by omega), vset_at, if_neg (by omega)]
  · rw [vset_same, vset_cell (by omega), vset_same]
  · rw [vset_cell (by omega), vset_same]
    omega
  · rw [vset_cell (c' := 1) (by omega), vset_same]
    intro j p q
    omega
theorem op_letter (I : zInv S V B n s) {a : Int} (ha : inR a) (k : ∀ V', zInv S V' B n s → K V') : m11_letter S V a (fun r V1 => m12_letter V1 a (fun r' V2 => inR r ∧ inR r' ∧ ((r = r' → K V2) ∧ (¬ r = r' → False)))) := by
  obtain ⟨w, x, m, ⟨he, hc, hrow⟩, _⟩ := id I
  unfold m11_letter m12_letter m8_write
  refine ⟨ha, fun c => ?_, fun c => ⟨fun d => ⟨fun e => ⟨by omega, by omega, ?_⟩, fun e => ?_⟩, fun d => ?_⟩⟩
  · refine ⟨ha, m_in ha (by omega) (by omega) (fun q hq q1 q2 => ⟨by omega, fun z => ?_, fun z => fin2 rfl rfl (by omega) (k _ I)⟩)⟩
    rw [if_neg (by omega)] at hq
    omega
  · rw [vset_cell (by decide : (1 : Nat) ≠ 2)]
    refine ⟨by omega, by omega, fun z => by omega, fun _ => ⟨ha, m_in ha (by omega) (by omega) (fun q hq q1 q2 => ⟨by omega, fun _ => ?_, fun z => ?_⟩)⟩⟩
    · have g : ∀ c k, ¬ ((c = 1 ∧ k = 1) ∨ c = 2) → (vset (vset V 2 (V 1 1).toNat a) 1 1 (V 1 1 + 1)) c k = V c k := by
        intro c k z
        rw [vset_at, if_neg (by omega), vset_cell (by omega)]
      have y1 : ∀ j, (vset (vset V 2 (V 1 1).toNat a) 1 1 (V 1 1 + 1)) 2 j = if j = (V 1 1).toNat then a else V 2 j := by
        intro j
        rw [vset_cell (by omega), vset_at]
        simp
      have y3 : (vset (vset V 2 (V 1 1).toNat a) 1 1 (V 1 1 + 1)) 1 1 = V 1 1 + 1 := vset_same
      generalize vset (vset V 2 (V 1 1).toNat a) 1 1 (V 1 1 + 1) = V1 at g y1 y3 ⊢
      have e9 : V1 53 1 = V 1 1 := (g 53 1 (by omega)).trans he
      refine ⟨fun _ => ⟨by omega, ?_⟩, fun z => by omega⟩
      rw [vset_cell (by decide : (53 : Nat) ≠ 54), e9]
      refine ⟨by omega, fin2 y3 vset_same (by omega) (k _ (zInv_page I ?_ ⟨?_, ?_, ?_⟩))⟩
      · intro c k z
        rw [vset_at, if_neg (by omega), vset_cell (by omega)]
        exact g c k (by omega)
      · rw [vset_same, vset_cell (by omega), vset_cell (by omega), y3]
      · rw [vset_cell (by omega), vset_cell (by omega), y3]
        omega
      · rw [vset_cell (c' := 1) (by omega), vset_cell (c' := 1) (by omega), y3]
        intro j p q
        rw [vset_cell (by omega), vset_at, vset_cell (by omega), vset_cell (by omega), y1, g 54 _ (by omega)]
        by_cases u : j = V 1 1
        · subst u
          rw [if_pos ⟨rfl, rfl⟩, if_pos rfl]
          exact ⟨rfl, by omega, by omega⟩
        · rw [if_neg (by omega), if_neg (by omega)]
          exact hrow j p (by omega)
    · rw [if_pos (by omega)] at hq
      omega
  · refine ⟨by omega, fun _ => ⟨ha, m_in ha (by omega) (by omega) (fun q hq q1 q2 => ⟨by omega, fun _ => ⟨fun z => by omega, fun _ => fin2 rfl rfl (by omega) (k _ I)⟩, fun z => ?_⟩)⟩, fun z => absurd rfl z⟩
    rw [if_pos (by omega)] at hq
    omega
  · refine ⟨ha, m_in ha (by omega) (by omega) (fun q hq q1 q2 => ⟨by omega, fun z => ?_, fun z => fin2 rfl rfl (by omega) (k _ I)⟩)⟩
    rw [if_neg (by omega)] at hq
    omega
def cntR (V : zV) (n : Int) (s : zS) (q : Int) : Int := if q = 0 then n else if q = 1 then tSt n s else if q = 2 then tAl s else if q = 3 then tOp n s else if q = 4 then tLe n s else if q = 5 then V 14 9 else if q = 6 then V 14 12 else if q = 7 then V 1 1 else if q = 8 then V 0 9 else -102
theorem x_count (I : zInv S V B n s) {q : Int} (hq : inR q) {Q : Int → zV → Prop} (k : ∀ r, r = cntR V n s q → -102 ≤ r → r ≤ 1000 → Q r V) : m11_count S V q Q := by
  obtain ⟨w, x, m, ⟨_, pc, _⟩, ⟨_, hc, _⟩, ⟨_, rc, _⟩, _, ⟨⟨_, _, hB⟩, _⟩, lr⟩ := id I
  have hn := wn w
  have en := x_n x
  unfold cntR at k
  unfold m11_count
  refine ⟨hq, fun d => ?_, fun d => ?_, fun d => ?_, fun d => ?_, fun d => ?_, fun d => ?_, fun d => ?_, fun d => ?_, fun d => ?_, fun d => ?_⟩
  · subst d
    exact k _ (by simp; omega) (by omega) (by omega)
  · subst d
    exact x_struck x w (fun r hr _ _ => k _ (by rw [hr]; simp) (by omega) (by omega))
  · subst d
    exact x_aliveT x w (fun r hr _ _ => k _ (by rw [hr]; simp) (by omega) (by omega))
  · subst d
    exact x_openT x w (fun r hr _ _ => k _ (by rw [hr]; simp) (by omega) (by omega))
  · subst d
    exact x_lentT x w (fun r hr _ _ => k _ (by rw [hr]; simp) (by omega) (by omega))
  · subst d
    exact k _ (by simp) (by omega) (by omega)
  · subst d
    exact k _ (by simp) (by omega) (by omega)
  · subst d
    exact k _ (by simp) (by omega) (by omega)
  · subst d
    exact k _ (by simp) (by omega) (by omega)
  · refine k _ ?_ (by omega) (by omega)
    rw [if_neg (by omega), if_neg (by omega), if_neg (by omega), if_neg (by omega), if_neg (by omega), if_neg (by omega), if_neg (by omega), if_neg (by omega), if_neg (by omega)]
theorem m_count (I : zInv S V B n s) {q : Int} (hq : inR q) {Q : Int → zV → Prop} (k : ∀ r, r = cntR V n s q → -102 ≤ r → r ≤ 1000 → Q r V) : m12_countOf V q Q := by
  obtain ⟨w, x, m, ⟨pe, pc, _⟩, ⟨hE, hc, _⟩, ⟨rE, rc, _⟩, ⟨lE, _⟩, ⟨⟨_, _, hB⟩, _⟩, lr⟩ := id I
  have hn := wn w
  have en := m_n m
  unfold cntR at k
  unfold m12_countOf
  refine ⟨hq, fun d => ?_, fun d => ?_, fun d => ?_, fun d => ?_, fun d => ?_, fun d => ?_, fun d => ?_, fun d => ?_, fun d => ?_, fun d => ?_⟩
  · subst d
    exact k _ (by simp; omega) (by omega) (by omega)
  · subst d
    exact m_struck m w (fun r hr _ _ => k _ (by rw [hr]; simp) (by omega) (by omega))
  · subst d
    exact m_aliveT m w (fun r hr _ _ => k _ (by rw [hr]; simp) (by omega) (by omega))
  · subst d
    exact m_openT m w (fun r hr _ _ => k _ (by rw [hr]; simp) (by omega) (by omega))
  · subst d
    exact m_lentT m w (fun r hr _ _ => k _ (by rw [hr]; simp) (by omega) (by omega))
  · subst d
    exact k _ (by simp; omega) (by omega) (by omega)
  · subst d
    exact k _ (by simp; omega) (by omega) (by omega)
  · subst d
    exact k _ (by simp; omega) (by omega) (by omega)
  · subst d
    exact k _ (by simp; omega) (by omega) (by omega)
  · refine k _ ?_ (by omega) (by omega)
    rw [if_neg (by omega), if_neg (by omega), if_neg (by omega), if_neg (by omega), if_neg (by omega), if_neg (by omega), if_neg (by omega), if_neg (by omega), if_neg (by omega)]
theorem op_count (I : zInv S V B n s) {a : Int} (ha : inR a) (k : zInv S V B n s → K V) : m11_count S V a (fun r V1 => m12_count V1 a (fun r' V2 => inR r ∧ inR r' ∧ ((r = r' → K V2) ∧ (¬ r = r' → False)))) := by
  exact x_count I ha (fun r hr r1 r2 => m_count I ha (fun r' hr' _ _ => fin2 hr hr' (by omega) (k I)))
end OPS5
