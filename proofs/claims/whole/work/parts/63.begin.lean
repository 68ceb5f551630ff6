/-! ===== an isle begins ===== -/
/-- what begin leaves: people, sides, nothing struck -/
def bgP (V' : zV) (o : Nat) (m : Int) : Prop := ∀ p : Int, 0 ≤ p → p < m → V' (o + 1) p.toNat = 9 ∧ V' (o + 2) p.toNat = -1 ∧ V' (o + 3) p.toNat = 1
def bgF (V' : zV) (o : Nat) (m : Int) : Prop := ∀ f : Int, 0 ≤ f → f < m → V' (o + 6) f.toNat = 0
def bgJ (V V' : zV) (o : Nat) (n m : Int) : Prop := ∀ j : Int, 0 ≤ j → j < m → V' (o + 4) j.toNat = (if j < 2 * n then V 5 j.toNat else -1) ∧ V' (o + 5) j.toNat = -1
def bgR (V V' : zV) (o : Nat) : Prop := ∀ c j, (c < o ∨ o + 6 < c) ∨ (c = o ∧ j ≠ 9 ∧ j ≠ 12) → V' c j = V c j
section BEGIN
variable {S : List zC} {V : zV} {o : Nat} {n : Int} {Q : zV → Prop}
theorem x_begin59 (ho : 14 ≤ o) (en : V 3 2 = n) (hn : 0 ≤ n ∧ n ≤ 8) (h5 : ∀ j : Int, 0 ≤ j → j < 2 * n → inR (V 5 j.toNat)) (q : ∀ V', bgP V' o 6 → bgF V' o 8 → bgJ V V' o n 16 → V' o 9 = 0 → V' o 12 = 0 → bgR V V' o → Q V') : ∀ (m : Nat) (a : Int) (V' : zV), 0 ≤ a → a + m = 16 → bgP V' o 6 → bgF V' o 8 → bgJ V V' o n a → bgR V V' o → m4_begin_L59 S o Q (m + 1) a V'
  | 0, a, V', ha, hm, hp, hf, hj, hr => by
    unfold m4_begin_L59
    refine ⟨by omega, fun _ => q _ (fun p x y => ?_) (fun p x y => ?_) (fun p x y => ?_) ?_ ?_ (fun c j z => ?_), fun z => by omega⟩
    · rw [vset_cell (by omega), vset_cell (by omega), vset_cell (by omega), vset_cell (by omega), vset_cell (by omega), vset_cell (by omega)]
      exact hp p x y
    · rw [vset_cell (by omega), vset_cell (by omega)]
      exact hf p x y
    · rw [vset_cell (by omega), vset_cell (by omega), vset_cell (by omega), vset_cell (by omega)]
      exact hj p x (by omega)
    · rw [vset_place (by omega), vset_same]
    · rw [vset_same]
    · rw [vset_at, if_neg (by omega), vset_at, if_neg (by omega)]
      exact hr c j z
  | m + 1, a, V', ha, hm, hp, hf, hj, hr => by
    have ih := fun V1 => x_begin59 ho en hn h5 q m (a + 1) V1 (by omega) (by omega)
    clear x_begin59
    have e32 : V' 3 2 = n := (hr 3 2 (by omega)).trans en
    have e5 : V' 5 a.toNat = V 5 a.toNat := hr _ _ (by omega)
    have st : ∀ x : Int, x = (if a < 2 * n then V 5 a.toNat else -1) → inR x → m4_begin_J96 S o (m4_begin_L59 S o Q (m + 1)) Q a x a V' := by
      intro x hx rx
      unfold m4_begin_J96
      refine ⟨by omega, rx, by omega, ih _ (fun p x y => ?_) (fun p x y => ?_) (fun p x y => ?_) (fun c j z => ?_)⟩
      · rw [vset_cell (by omega), vset_cell (by omega), vset_cell (by omega), vset_cell (by omega), vset_cell (by omega), vset_cell (by omega)]
        exact hp p x y
      · rw [vset_cell (by omega), vset_cell (by omega)]
        exact hf p x y
      · by_cases e : p = a
        · subst e
          rw [vset_cell (by omega), vset_same, vset_same]
          exact ⟨hx, rfl⟩
        · rw [vset_cell (by omega), vset_place (by omega), vset_place (by omega), vset_cell (by omega)]
          exact hj p x (by omega)
      · rw [vset_cell (by omega), vset_cell (by omega)]
        exact hr c j z
    unfold m4_begin_L59
    rw [e32, e5]
    refine ⟨by omega, fun z => by omega, fun _ => ⟨by omega, fun z => st _ ?_ (by omega), fun z => ⟨by omega, st _ ?_ (h5 a ha z)⟩⟩⟩
    · rw [if_neg (by omega)]
    · rw [if_pos z]
theorem x_begin38 (ho : 14 ≤ o) (en : V 3 2 = n) (hn : 0 ≤ n ∧ n ≤ 8) (h5 : ∀ j : Int, 0 ≤ j → j < 2 * n → inR (V 5 j.toNat)) (q : ∀ V', bgP V' o 6 → bgF V' o 8 → bgJ V V' o n 16 → V' o 9 = 0 → V' o 12 = 0 → bgR V V' o → Q V') : ∀ (m : Nat) (a : Int) (V' : zV), 0 ≤ a → a + m = 8 → bgP V' o 6 → bgF V' o a → bgR V V' o → m4_begin_L38 S o Q (m + 1) a V'
  | 0, a, V', ha, hm, hp, hf, hr => by
    unfold m4_begin_L38
    refine ⟨by omega, fun _ => ⟨17, x_begin59 ho en hn h5 q 16 0 V' (by omega) (by omega) hp (fun p x y => hf p x (by omega)) (fun p x y => by omega) hr⟩, fun z => by omega⟩
  | m + 1, a, V', ha, hm, hp, hf, hr => by
    have ih := fun V1 => x_begin38 ho en hn h5 q m (a + 1) V1 (by omega) (by omega)
    clear x_begin38
    unfold m4_begin_L38
    refine ⟨by omega, fun z => by omega, fun _ => ⟨by omega, ih _ (fun p x y => ?_) (fun p x y => ?_) (fun c j z => ?_)⟩⟩
    · rw [vset_cell (by omega), vset_cell (by omega), vset_cell (by omega)]
      exact hp p x y
    · by_cases e : p = a
      · subst e
        rw [vset_same]
      · rw [vset_place (by omega)]
        exact hf p x (by omega)
    · rw [vset_cell (by omega)]
      exact hr c j z
theorem x_begin2 (ho : 14 ≤ o) (en : V 3 2 = n) (hn : 0 ≤ n ∧ n ≤ 8) (h5 : ∀ j : Int, 0 ≤ j → j < 2 * n → inR (V 5 j.toNat)) (q : ∀ V', bgP V' o 6 → bgF V' o 8 → bgJ V V' o n 16 → V' o 9 = 0 → V' o 12 = 0 → bgR V V' o → Q V') : ∀ (m : Nat) (a : Int) (V' : zV), 0 ≤ a → a + m = 6 → bgP V' o a → bgR V V' o → m4_begin_L2 S o Q (m + 1) a V'
  | 0, a, V', ha, hm, hp, hr => by
    unfold m4_begin_L2
    refine ⟨by omega, fun _ => ⟨9, x_begin38 ho en hn h5 q 8 0 V' (by omega) (by omega) (fun p x y => hp p x (by omega)) (fun p x y => by omega) hr⟩, fun z => by omega⟩
  | m + 1, a, V', ha, hm, hp, hr => by
    have ih := fun V1 => x_begin2 ho en hn h5 q m (a + 1) V1 (by omega) (by omega)
    clear x_begin2
    unfold m4_begin_L2
    refine ⟨by omega, fun z => by omega, fun _ => ⟨by omega, by omega, by omega, ih _ (fun p x y => ?_) (fun c j z => ?_)⟩⟩
    · by_cases e : p = a
      · subst e
        rw [vset_cell (by omega), vset_cell (by omega), vset_same, vset_cell (by omega), vset_same, vset_same]
        exact ⟨rfl, rfl, rfl⟩
      · rw [vset_cell (by omega), vset_cell (by omega), vset_place (by omega), vset_cell (by omega), vset_place (by omega), vset_cell (by omega), vset_place (by omega), vset_cell (by omega), vset_cell (by omega)]
        exact hp p x (by omega)
    · rw [vset_cell (by omega), vset_cell (by omega), vset_cell (by omega)]
      exact hr c j z
theorem x_begin (ho : 14 ≤ o) (en : V 3 2 = n) (hn : 0 ≤ n ∧ n ≤ 8) (h5 : ∀ j : Int, 0 ≤ j → j < 2 * n → inR (V 5 j.toNat)) (q : ∀ V', bgP V' o 6 → bgF V' o 8 → bgJ V V' o n 16 → V' o 9 = 0 → V' o 12 = 0 → bgR V V' o → Q V') : m4_begin S o V Q :=
  ⟨7, x_begin2 ho en hn h5 q 6 0 V (by omega) (by omega) (fun p x y => by omega) (fun _ _ _ => rfl)⟩
/-! the plain model's people -/
def bgM (V' : zV) (m : Int) : Prop := ∀ p : Int, 0 ≤ p → p < m → V' 57 (3 * p).toNat = 9 ∧ V' 57 (3 * p + 1).toNat = -1 ∧ V' 57 (3 * p + 2).toNat = 1
theorem m_people_L (q : ∀ V', bgM V' 6 → (∀ c j, c ≠ 57 → V' c j = V c j) → Q V') : ∀ (m : Nat) (a : Int) (V' : zV), 0 ≤ a → a + m = 6 → bgM V' a → (∀ c j, c ≠ 57 → V' c j = V c j) → m12_peopleAsAtFirst_L2 Q (m + 1) a V'
  | 0, a, V', ha, hm, hp, hr => by
    unfold m12_peopleAsAtFirst_L2
    exact ⟨by omega, fun _ => q V' (fun p x y => hp p x (by omega)) hr, fun z => by omega⟩
  | m + 1, a, V', ha, hm, hp, hr => by
    have ih := fun V1 => m_people_L q m (a + 1) V1 (by omega) (by omega)
    clear m_people_L
    unfold m12_peopleAsAtFirst_L2
    refine ⟨by omega, fun z => by omega, fun _ => ⟨by omega, by omega, by omega, ih _ (fun p x y => ?_) (fun c j z => ?_)⟩⟩
    · by_cases e : p = a
      · subst e
        rw [vset_place (by omega), vset_place (by omega), vset_same, vset_place (by omega), vset_same, vset_same]
        exact ⟨rfl, rfl, rfl⟩
      · rw [vset_place (by omega), vset_place (by omega), vset_place (by omega), vset_place (by omega), vset_place (by omega), vset_place (by omega), vset_place (by omega), vset_place (by omega), vset_place (by omega)]
        exact hp p x (by omega)
    · rw [vset_cell (by omega), vset_cell (by omega), vset_cell (by omega)]
      exact hr c j z
theorem m_people (q : ∀ V', bgM V' 6 → (∀ c j, c ≠ 57 → V' c j = V c j) → Q V') : m12_peopleAsAtFirst V Q :=
  ⟨7, m_people_L q 6 0 V (by omega) (by omega) (fun p x y => by omega) (fun _ _ _ => rfl)⟩
end BEGIN
