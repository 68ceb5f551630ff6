/-! ===== copies ===== -/
theorem cpz_lt {f g : Nat → Int} {n j : Nat} (h : j < n) : cpz f g n j = f j := if_pos h
theorem cpz_0 (f g : Nat → Int) : cpz f g 0 = g := by
  funext j
  exact if_neg (by omega)
theorem vrow_id (V : zV) (c : Nat) : vrow V c (V c) = V := by
  funext c' j
  unfold vrow
  split
  · rename_i h
    rw [h]
  · rfl
theorem cp_step (V : zV) (c i : Nat) (f g : Nat → Int) : vset (vrow V c (cpz f g i)) c i (f i) = vrow V c (cpz f g (i + 1)) := by
  funext c' j
  rw [vset_at]
  unfold vrow cpz
  by_cases h : c' = c
  · rw [if_pos h, if_pos h]
    by_cases e : j = i
    · rw [if_pos ⟨h, e⟩, if_pos (by omega), e]
    · rw [if_neg (fun z => e z.2)]
      by_cases e2 : j < i
      · rw [if_pos e2, if_pos (by omega)]
      · rw [if_neg e2, if_neg (by omega)]
  · rw [if_neg (fun z => h z.1), if_neg h, if_neg h]
theorem m_copy_L {c0 c1 : Nat} {n0 n1 : Int} {Q : zV → Prop} {V : zV} (hc : c0 ≠ c1) (hn : n0 ≤ n1 ∧ n0 ≤ 100) : ∀ (m : Nat) (i : Int), 0 ≤ i → i + m = n0 → Q (vrow V c1 (cpz (V c0) (V c1) n0.toNat)) → m12_copy_L2 c0 n0 c1 n1 Q (m + 1) i (vrow V c1 (cpz (V c0) (V c1) i.toNat))
  | 0, i, hi, hm, k => by
    have e : i = n0 := by omega
    subst e
    unfold m12_copy_L2
    exact ⟨by omega, fun _ => k, fun c => by omega⟩
  | m + 1, i, hi, hm, k => by
    unfold m12_copy_L2
    refine ⟨by omega, fun c => by omega, fun c => ⟨by omega, by omega, ?_⟩⟩
    rw [vrow_n (c' := c0) hc, cp_step, show i.toNat + 1 = (i + 1).toNat from by omega]
    exact m_copy_L hc hn m (i + 1) (by omega) (by omega) k
theorem m_copy {c0 c1 : Nat} {n0 n1 : Int} {Q : zV → Prop} {V : zV} (hc : c0 ≠ c1) (hn : n0 ≤ n1 ∧ n0 ≤ 100) (h0 : 0 ≤ n0) (k : Q (vrow V c1 (cpz (V c0) (V c1) n0.toNat))) : m12_copy c0 n0 c1 n1 V Q := by
  refine ⟨n0.toNat + 1, ?_⟩
  have q := m_copy_L (V := V) (Q := Q) hc hn n0.toNat 0 (by omega) (by omega) k
  rw [show (0 : Int).toNat = 0 from rfl, cpz_0, vrow_id] at q
  exact q
/-- the isle at o is the isle at o1 -/
def isCp (o o1 : Nat) (V V' : zV) : Prop := (∀ c j, c < o ∨ o + 10 < c → V' c j = V c j) ∧ (∀ j, j < 6 → V' (o + 1) j = V (o1 + 1) j ∧ V' (o + 2) j = V (o1 + 2) j ∧ V' (o + 3) j = V (o1 + 3) j) ∧ (∀ j, j < 16 → V' (o + 4) j = V (o1 + 4) j ∧ V' (o + 5) j = V (o1 + 5) j) ∧ (∀ j, j < 8 → V' (o + 6) j = V (o1 + 6) j) ∧ (∀ j, j < 12 → V' (o + 7) j = V (o1 + 7) j ∧ V' (o + 8) j = V (o1 + 8) j) ∧ (∀ j, j < 8 → V' (o + 9) j = V (o1 + 9) j ∧ V' (o + 10) j = V (o1 + 10) j) ∧ V' o 9 = V o1 9 ∧ V' o 12 = V o1 12
section CPY
variable {S : List zC} {o o1 : Nat} {Q : zV → Prop}
/-- the last stretch of a copy: rows 3 and 6 are copied already -/
theorem x_copy_end (hd : o + 11 ≤ o1 ∨ o1 + 11 ≤ o) {V W : zV} (hf : ∀ c j, c ≠ o + 3 → c ≠ o + 6 → W c j = V c j) (h3 : ∀ j, j < 6 → W (o + 3) j = V (o1 + 3) j) (h6 : ∀ j, j < 8 → W (o + 6) j = V (o1 + 6) j) (k : ∀ V', isCp o o1 V V' → Q V') (m : Nat) : m4_copyFrom_L28 S o o1 Q (m + 1) 8 W := by
  unfold m4_copyFrom_L28
  refine ⟨by omega, fun _ => ?_, fun c => by omega⟩
  intro V64 e64 V79 e79 V94 e94 V109 e109 V124 e124 V139 e139 V162 e162 V177 e177
  have g1 : ∀ c, c ≠ o + 1 → V64 c = W c := fun c h => by rw [e64]; exact vrow_n h
  have k1 : V64 (o + 1) = cpz (W (o1 + 1)) (W (o + 1)) 6 := by rw [e64]; exact vrow_s _ _ _
  have g2 : ∀ c, c ≠ o + 2 → V79 c = V64 c := fun c h => by rw [e79]; exact vrow_n h
  have k2 : V79 (o + 2) = cpz (V64 (o1 + 2)) (V64 (o + 2)) 6 := by rw [e79]; exact vrow_s _ _ _
  have g3 : ∀ c, c ≠ o + 4 → V94 c = V79 c := fun c h => by rw [e94]; exact vrow_n h
  have k3 : V94 (o + 4) = cpz (V79 (o1 + 4)) (V79 (o + 4)) 16 := by rw [e94]; exact vrow_s _ _ _
  have g4 : ∀ c, c ≠ o + 5 → V109 c = V94 c := fun c h => by rw [e109]; exact vrow_n h
  have k4 : V109 (o + 5) = cpz (V94 (o1 + 5)) (V94 (o + 5)) 16 := by rw [e109]; exact vrow_s _ _ _
  have g5 : ∀ c, c ≠ o + 7 → V124 c = V109 c := fun c h => by rw [e124]; exact vrow_n h
  have k5 : V124 (o + 7) = cpz (V109 (o1 + 7)) (V109 (o + 7)) 12 := by rw [e124]; exact vrow_s _ _ _
  have g6 : ∀ c, c ≠ o + 8 → V139 c = V124 c := fun c h => by rw [e139]; exact vrow_n h
  have k6 : V139 (o + 8) = cpz (V124 (o1 + 8)) (V124 (o + 8)) 12 := by rw [e139]; exact vrow_s _ _ _
  obtain ⟨V150, e150⟩ : ∃ z, z = vset V139 o 9 (V139 o1 9) := ⟨_, rfl⟩
  rw [← e150] at e162
  have g7 : ∀ c, c ≠ o → V150 c = V139 c := fun c h => by rw [e150]; exact vrow_n h
  have k7 : V150 o 9 = V139 o1 9 := by rw [e150]; exact vset_same
  have g8 : ∀ c, c ≠ o + 9 → V162 c = V150 c := fun c h => by rw [e162]; exact vrow_n h
  have k8 : V162 (o + 9) = cpz (V150 (o1 + 9)) (V150 (o + 9)) 8 := by rw [e162]; exact vrow_s _ _ _
  have g9 : ∀ c, c ≠ o + 10 → V177 c = V162 c := fun c h => by rw [e177]; exact vrow_n h
  have k9 : V177 (o + 10) = cpz (V162 (o1 + 10)) (V162 (o + 10)) 8 := by rw [e177]; exact vrow_s _ _ _
  refine k _ ⟨?_, ?_, ?_, ?_, ?_, ?_, ?_, ?_⟩
  · intro c j hc
    rw [vset_cell (by omega), g9 _ (by omega), g8 _ (by omega), g7 _ (by omega), g6 _ (by omega), g5 _ (by omega), g4 _ (by omega), g3 _ (by omega), g2 _ (by omega), g1 _ (by omega)]
    exact hf _ _ (by omega) (by omega)
  · intro j hj
    refine ⟨?_, ?_, ?_⟩
    · rw [vset_cell (by omega), g9 _ (by omega), g8 _ (by omega), g7 _ (by omega), g6 _ (by omega), g5 _ (by omega), g4 _ (by omega), g3 _ (by omega), g2 _ (by omega), k1, cpz_lt hj]
      exact hf _ _ (by omega) (by omega)
    · rw [vset_cell (by omega), g9 _ (by omega), g8 _ (by omega), g7 _ (by omega), g6 _ (by omega), g5 _ (by omega), g4 _ (by omega), g3 _ (by omega), k2, cpz_lt hj, g1 _ (by omega)]
      exact hf _ _ (by omega) (by omega)
    · rw [vset_cell (by omega), g9 _ (by omega), g8 _ (by omega), g7 _ (by omega), g6 _ (by omega), g5 _ (by omega), g4 _ (by omega), g3 _ (by omega), g2 _ (by omega), g1 _ (by omega)]
      exact h3 j hj
  · intro j hj
    refine ⟨?_, ?_⟩
    · rw [vset_cell (by omega), g9 _ (by omega), g8 _ (by omega), g7 _ (by omega), g6 _ (by omega), g5 _ (by omega), g4 _ (by omega), k3, cpz_lt hj, g2 _ (by omega), g1 _ (by omega)]
      exact hf _ _ (by omega) (by omega)
    · rw [vset_cell (by omega), g9 _ (by omega), g8 _ (by omega), g7 _ (by omega), g6 _ (by omega), g5 _ (by omega), k4, cpz_lt hj, g3 _ (by omega), g2 _ (by omega), g1 _ (by omega)]
      exact hf _ _ (by omega) (by omega)
  · intro j hj
    rw [vset_cell (by omega), g9 _ (by omega), g8 _ (by omega), g7 _ (by omega), g6 _ (by omega), g5 _ (by omega), g4 _ (by omega), g3 _ (by omega), g2 _ (by omega), g1 _ (by omega)]
    exact h6 j hj
  · intro j hj
    refine ⟨?_, ?_⟩
    · rw [vset_cell (by omega), g9 _ (by omega), g8 _ (by omega), g7 _ (by omega), g6 _ (by omega), k5, cpz_lt hj, g4 _ (by omega), g3 _ (by omega), g2 _ (by omega), g1 _ (by omega)]
      exact hf _ _ (by omega) (by omega)
    · rw [vset_cell (by omega), g9 _ (by omega), g8 _ (by omega), g7 _ (by omega), k6, cpz_lt hj, g5 _ (by omega), g4 _ (by omega), g3 _ (by omega), g2 _ (by omega), g1 _ (by omega)]
      exact hf _ _ (by omega) (by omega)
  · intro j hj
    refine ⟨?_, ?_⟩
    · rw [vset_cell (by omega), g9 _ (by omega), k8, cpz_lt hj, g7 _ (by omega), g6 _ (by omega), g5 _ (by omega), g4 _ (by omega), g3 _ (by omega), g2 _ (by omega), g1 _ (by omega)]
      exact hf _ _ (by omega) (by omega)
    · rw [vset_cell (by omega), k9, cpz_lt hj, g8 _ (by omega), g7 _ (by omega), g6 _ (by omega), g5 _ (by omega), g4 _ (by omega), g3 _ (by omega), g2 _ (by omega), g1 _ (by omega)]
      exact hf _ _ (by omega) (by omega)
  · rw [vset_place (by decide), g9 _ (by omega), g8 _ (by omega), k7, g6 _ (by omega), g5 _ (by omega), g4 _ (by omega), g3 _ (by omega), g2 _ (by omega), g1 _ (by omega)]
    exact hf _ _ (by omega) (by omega)
  · rw [vset_same, g9 _ (by omega), g8 _ (by omega), g7 _ (by omega), g6 _ (by omega), g5 _ (by omega), g4 _ (by omega), g3 _ (by omega), g2 _ (by omega), g1 _ (by omega)]
    exact hf _ _ (by omega) (by omega)
theorem x_copy6 (hd : o + 11 ≤ o1 ∨ o1 + 11 ≤ o) {V : zV} (k : ∀ V', isCp o o1 V V' → Q V') : ∀ (m : Nat) (i : Int) (W : zV), 0 ≤ i → i + m = 8 → (∀ c j, c ≠ o + 3 → c ≠ o + 6 → W c j = V c j) → (∀ j, j < 6 → W (o + 3) j = V (o1 + 3) j) → (∀ j : Nat, (j : Int) < i → W (o + 6) j = V (o1 + 6) j) → m4_copyFrom_L28 S o o1 Q (m + 1) i W
  | 0, i, W, hi, hm, hf, h3, h6 => by
    have e : i = 8 := by omega
    subst e
    exact x_copy_end hd hf h3 (fun j hj => h6 j (by omega)) k 0
  | m + 1, i, W, hi, hm, hf, h3, h6 => by
    unfold m4_copyFrom_L28
    refine ⟨by omega, fun c => by omega, fun c => ⟨by omega, by omega, ?_⟩⟩
    refine x_copy6 hd k m (i + 1) _ (by omega) (by omega) (fun c j a b => ?_) (fun j hj => ?_) (fun j hj => ?_)
    · rw [vset_cell b]
      exact hf c j a b
    · rw [vset_cell (by omega)]
      exact h3 j hj
    · rw [vset_at]
      by_cases e : j = i.toNat
      · rw [if_pos ⟨rfl, e⟩, e]
        exact hf _ _ (by omega) (by omega)
      · rw [if_neg (fun z => e z.2)]
        exact h6 j (by omega)
theorem x_copy3 (hd : o + 11 ≤ o1 ∨ o1 + 11 ≤ o) {V : zV} (k : ∀ V', isCp o o1 V V' → Q V') : ∀ (m : Nat) (i : Int) (W : zV), 0 ≤ i → i + m = 6 → (∀ c j, c ≠ o + 3 → W c j = V c j) → (∀ j : Nat, (j : Int) < i → W (o + 3) j = V (o1 + 3) j) → m4_copyFrom_L2 S o o1 Q (m + 1) i W
  | 0, i, W, hi, hm, hf, h3 => by
    unfold m4_copyFrom_L2
    exact ⟨by omega, fun _ => ⟨8 + 1, x_copy6 hd k 8 0 W (by omega) (by omega) (fun c j a _ => hf c j a) (fun j hj => h3 j (by omega)) (fun j hj => by omega)⟩, fun c => by omega⟩
  | m + 1, i, W, hi, hm, hf, h3 => by
    unfold m4_copyFrom_L2
    refine ⟨by omega, fun c => by omega, fun c => ⟨by omega, by omega, ?_⟩⟩
    refine x_copy3 hd k m (i + 1) _ (by omega) (by omega) (fun c j a => ?_) (fun j hj => ?_)
    · rw [vset_cell a]
      exact hf c j a
    · rw [vset_at]
      by_cases e : j = i.toNat
      · rw [if_pos ⟨rfl, e⟩, e]
        exact hf _ _ (by omega)
      · rw [if_neg (fun z => e z.2)]
        exact h3 j (by omega)
theorem x_copy (hd : o + 11 ≤ o1 ∨ o1 + 11 ≤ o) {V : zV} (k : ∀ V', isCp o o1 V V' → Q V') : m4_copyFrom S o o1 V Q :=
  ⟨6 + 1, x_copy3 hd k 6 0 V (by omega) (by omega) (fun _ _ _ => rfl) (fun j hj => by omega)⟩
theorem cX_cp {V V' : zV} {n : Int} {s : zS} (hc : isCp o o1 V V') (ho : 14 ≤ o) (h : cX S V o1 n s) : cX S V' o n s := by
  refine ⟨(hc.1 3 2 (by omega)).trans (x_n h), h.2.1, fun p a b => ?_, fun p a b => ?_, fun p a b => ?_⟩
  · have q := hc.2.1 p.toNat (by omega)
    rw [q.1, q.2.1, q.2.2]
    exact ⟨x_0 h a b, x_1 h a b, x_2 h a b⟩
  · have q := hc.2.2.1 p.toNat (by omega)
    rw [q.1, q.2]
    exact ⟨x_3 h a b, x_4 h a b⟩
  · have q := hc.2.2.2.1 p.toNat (by omega)
    rw [q]
    exact x_5 h a b
end CPY
