/-! ===== the two new objects ===== -/
def z0P (V : zV) : Prop := ∀ c j, V c j = 0
theorem z0_row {V : zV} (h : z0P V) (c : Nat) : z0P (vrow V c (fun _ => 0)) := by
  intro c' j
  by_cases e : c' = c
  · rw [e, vrow_s]
  · rw [vrow_n e]
    exact h c' j
theorem z0_set {V : zV} (h : z0P V) (c k : Nat) : z0P (vset V c k 0) := by
  intro c' j
  rw [vset_at]
  split
  · rfl
  · exact h c' j
def iniP (V : zV) : Prop := (∀ c j, c ≤ 14 → V c j = 0) ∧ bgP V 14 6 ∧ bgF V 14 8 ∧ ∀ j : Int, 0 ≤ j → j < 16 → V 18 j.toNat = -1 ∧ V 19 j.toNat = -1
theorem iniP_fr {V V' : zV} (h : iniP V) (f : ∀ c j, c ≤ 20 → V' c j = V c j) : iniP V' := by
  refine ⟨fun c j a => (f c j (by omega)).trans (h.1 c j a), fun p a b => ?_, fun p a b => ?_, fun p a b => ?_⟩
  · rw [f _ _ (by omega), f _ _ (by omega), f _ _ (by omega)]
    exact h.2.1 p a b
  · rw [f _ _ (by omega)]
    exact h.2.2.1 p a b
  · rw [f _ _ (by omega), f _ _ (by omega)]
    exact h.2.2.2 p a b
theorem iniP_row {V : zV} (h : iniP V) {c : Nat} (hc : 20 < c) (g : Nat → Int) : iniP (vrow V c g) := iniP_fr h (fun c' j a => by rw [vrow_n (by omega)])
theorem iniP_set {V : zV} (h : iniP V) {c : Nat} (hc : 20 < c) (k : Nat) (x : Int) : iniP (vset V c k x) := iniP_fr h (fun c' j a => by rw [vset_cell (by omega)])
theorem iniP_0 {V : zV} (h : iniP V) (k : Nat) : iniP (vset V 0 k 0) := iniP_fr h (fun c' j a => by
  rw [vset_at]
  split
  · rw [h.1 c' j (by omega)]
  · rfl)
section FIRST
variable {S : List zC} {V : zV} {Q : zV → Prop}
theorem k_begin14 (h : z0P V) (q : ∀ V', iniP V' → Q V') : m4_begin S 14 V Q := by
  refine x_begin (n := 0) (by omega) (h 3 2) (by omega) (fun j a b => by omega) (fun V' bp bf bj b9 b12 br => q V' ⟨fun c j a => ?_, bp, bf, fun j a b => ?_⟩)
  · by_cases e : c = 14 ∧ (j = 9 ∨ j = 12)
    · obtain ⟨e1, e2⟩ := e
      subst e1
      rcases e2 with e2 | e2
      · rw [e2]; exact b9
      · rw [e2]; exact b12
    · exact (br c j (by omega)).trans (h c j)
  · have g := bj j a b
    rw [if_neg (by omega)] at g
    exact g
theorem k_begin (h : iniP V) {o : Nat} (ho : 20 < o) (q : ∀ V', iniP V' → Q V') : m4_begin S o V Q := by
  refine x_begin (n := 0) (by omega) (h.1 3 2 (by omega)) (by omega) (fun j a b => by omega) (fun V' bp bf bj b9 b12 br => q V' (iniP_fr h (fun c j a => br c j (by omega))))
theorem k_class (q : ∀ V', iniP V' → Q V') : mK_11_init_0 (vrow (fun _ _ => 0) 0 (fun _ => 0)) Q := by
  have z : z0P (vrow (fun _ _ => 0) 0 (fun _ => 0)) := z0_row (fun _ _ => rfl) 0
  unfold mK_11_init_0 mK_8_init_1 mK_10_init_3 mK_4_init_14
  refine k_begin14 ?_ (fun V1 i1 => ?_)
  · refine z0_set (z0_row (z0_row (z0_set (z0_row (z0_row (z0_row (z0_row (z0_row (z0_row (z0_row (z0_row (z0_row ?_ _) _) _) _) _) _) _) _) _) _ _) _) _) _ _
    refine z0_row (z0_row (z0_row (z0_row (z0_row (z0_row (z0_row (z0_row (z0_set (z0_row (z0_row (z0_row ?_ _) _) _) _ _) _) _) _) _) _) _) _) _
    exact z0_set (z0_set (z0_set (z0_row (z0_row z _) _) _ _) _ _) _ _
  unfold mK_4_init_25
  refine k_begin ?_ (by omega) (fun V2 i2 => ?_)
  · repeat' (first | exact i1 | refine iniP_set ?_ (by omega) _ _ | refine iniP_row ?_ (by omega) _)
  unfold mK_4_init_36
  refine k_begin ?_ (by omega) (fun V3 i3 => ?_)
  · repeat' (first | exact i2 | refine iniP_set ?_ (by omega) _ _ | refine iniP_row ?_ (by omega) _)
  unfold mK_6_init_47 mK_7_init_50 mK_1_init_52
  refine q _ (iniP_0 (iniP_0 ?_ _) _)
  repeat' (first | exact i3 | refine iniP_set ?_ (by omega) _ _ | refine iniP_row ?_ (by omega) _)
def s0S : zS := fun r _ => if r = 0 then 9 else if r = 1 then -1 else if r = 2 then 1 else if r = 3 then -1 else if r = 4 then -1 else 0
theorem s0_wf : zwf 0 s0S := by
  refine ⟨by omega, fun p a b => ?_, fun p a b => ?_, fun p a b => ?_, fun p a b => ?_, fun p a b => ?_, fun p a b => ?_, fun p a b => by omega, fun p a b c => by omega, fun p a b => ?_, fun p a b => ?_⟩
  · show (0 : Int) ≤ 9 ∧ (9 : Int) ≤ 99
    omega
  · show (-1 : Int) ≤ -1 ∧ (-1 : Int) ≤ 5
    omega
  · exact Or.inr rfl
  · show (-1 : Int) ≤ -1 ∧ (-1 : Int) ≤ 5
    omega
  · show (-1 : Int) ≤ -1 ∧ (-1 : Int) ≤ 5
    omega
  · exact Or.inl rfl
  · exact ⟨rfl, rfl⟩
  · rfl
theorem k_both (q : ∀ V', zInv S_all V' 0 0 s0S → Q V') : mK_11_init_0 (vrow (fun _ _ => 0) 0 (fun _ => 0)) (fun V4 => mK_12_init_53 (vrow V4 53 (fun _ => 0)) Q) := by
  refine k_class (fun V4 i4 => ?_)
  unfold mK_12_init_53
  refine m_people (fun V5 b5 f5 => q V5 ?_)
  have i5 : iniP V5 := by
    refine iniP_fr (V := vrow V4 53 (fun _ => 0)) (iniP_row i4 (by omega) _) (fun c j a => ?_)
    rw [f5 c j (by omega), vset_cell (by omega)]
    repeat' rw [vrow_n (by omega)]
  have e53 : ∀ j, j ≠ 18 → V5 53 j = 0 := by
    intro j hj
    rw [f5 53 j (by omega), vset_place hj]
    rw [vrow_n (by omega), vrow_n (by omega), vrow_n (by omega), vrow_n (by omega), vrow_n (by omega), vrow_n (by omega), vrow_n (by omega), vrow_n (by omega), vrow_n (by omega), vrow_n (by omega), vrow_n (by omega), vrow_n (by omega), vrow_n (by omega), vrow_n (by omega), vrow_s]
  have e18 : V5 53 18 = -1 := by
    rw [f5 53 18 (by omega), vset_same]
  have z := i5.1
  refine ⟨s0_wf, ⟨z 3 2 (by omega), fun f a b => by omega, fun p a b => i5.2.1 p a b, fun j a b => i5.2.2.2 j a b, fun f a b => i5.2.2.1 f a b⟩, ⟨e53 5 (by omega), fun p a b => b5 p a b, fun f a b => by omega, fun f t a b => by omega⟩, ⟨?_, ?_, fun j a b => ?_⟩, ⟨?_, ?_, fun j a b => ?_⟩, ⟨?_, ?_, fun j a b => ?_⟩, ⟨?_, Or.inl ⟨z 0 8 (by omega), ?_⟩⟩, ⟨⟨?_, ?_, ?_⟩, ⟨_, rfl⟩⟩, ?_⟩
  · rw [e53 1 (by omega), z 1 1 (by omega)]
  · rw [z 1 1 (by omega)]
    omega
  · rw [z 1 1 (by omega)] at b
    omega
  · rw [e53 9 (by omega), z 14 9 (by omega)]
  · rw [z 14 9 (by omega)]
    omega
  · rw [z 14 9 (by omega)] at b
    omega
  · rw [e53 15 (by omega), z 14 12 (by omega)]
  · rw [z 14 12 (by omega)]
    omega
  · rw [z 14 12 (by omega)] at b
    omega
  · rw [e53 6 (by omega), z 0 9 (by omega)]
  · rw [e18, e53 6 (by omega)]
    omega
  · show (68 : Int) ≤ ((68 : Nat) : Int)
    omega
  · show ((68 : Nat) : Int) ≤ 68 + 2 * 0
    omega
  · omega
  · rw [z 0 9 (by omega)]
    omega
end FIRST
