/-! ===== a list is read ===== -/
def owS (V : zV) (j : Int) : Int := cdS V (quS V (j / 2).toNat + j % 2) - 48
def nwS (V : zV) (n : Int) : zS := fun r j => if r = 0 then 9 else if r = 1 then -1 else if r = 2 then 1 else if r = 3 then (if j < 2 * n then owS V j else -1) else if r = 4 then -1 else if r = 5 then 0 else if r = 6 then kindL (cdS V (psS V j.toNat)) else cdS V (quS V j.toNat + 2) - 48
theorem nw0 (V : zV) (n j : Int) : nwS V n 0 j = 9 := rfl
theorem nw1 (V : zV) (n j : Int) : nwS V n 1 j = -1 := rfl
theorem nw2 (V : zV) (n j : Int) : nwS V n 2 j = 1 := rfl
theorem nw3 (V : zV) (n j : Int) : nwS V n 3 j = if j < 2 * n then owS V j else -1 := rfl
theorem nw4 (V : zV) (n j : Int) : nwS V n 4 j = -1 := rfl
theorem nw5 (V : zV) (n j : Int) : nwS V n 5 j = 0 := rfl
theorem nw6 (V : zV) (n j : Int) : nwS V n 6 j = kindL (cdS V (psS V j.toNat)) := rfl
theorem nw7 (V : zV) (n j : Int) : nwS V n 7 j = cdS V (quS V j.toNat + 2) - 48 := rfl
theorem owS_in {V : zV} {k : Nat} (h : ∀ f : Nat, f < k → gdP V f) {j : Int} (a : 0 ≤ j) (b : j < 2 * (k : Int)) : 0 ≤ owS V j ∧ owS V j ≤ 5 := by
  obtain ⟨g0, g1, _⟩ := h (j / 2).toNat (by omega)
  unfold owS
  have e : j % 2 = 0 ∨ j % 2 = 1 := by omega
  rcases e with e | e
  · rw [e, Int.add_zero]
    omega
  · rw [e]
    omega
theorem nw_wf {V : zV} {k : Nat} (h : lsP V k) : zwf (k : Int) (nwS V k) := by
  obtain ⟨⟨k1, k2⟩, ke, kg⟩ := h
  refine ⟨by omega, fun p a b => ?_, fun p a b => ?_, fun p a b => ?_, fun p a b => ?_, fun p a b => ?_, fun p a b => ?_, fun p a b => ?_, fun p a b c => ?_, fun p a b => ?_, fun p a b => ?_⟩
  · rw [nw0]; omega
  · rw [nw1]; omega
  · rw [nw2]; omega
  · rw [nw3]
    split
    · have := owS_in kg a (by assumption)
      omega
    · omega
  · rw [nw4]; omega
  · rw [nw5]; omega
  · rw [nw6, nw7]
    obtain ⟨_, _, g2⟩ := kg p.toNat (by omega)
    have := kindL_in (cdS V (psS V p.toNat))
    omega
  · rw [nw5] at c
    omega
  · rw [nw3, nw4, if_neg (by omega)]
    exact ⟨rfl, rfl⟩
  · rw [nw5]
theorem psS_nn (V : zV) : ∀ f : Nat, 0 ≤ psS V f
  | 0 => Int.le_refl 0
  | f + 1 => by
    have h := psS_nn V f
    have q := quS_e V f
    have b := kbS_in (cdS V (psS V f))
    rw [psS_q]
    omega
theorem psS_le (V : zV) (f : Nat) : ∀ m : Nat, psS V f ≤ psS V (f + m)
  | 0 => Int.le_refl _
  | m + 1 => by
    have h := psS_le V f m
    have q := quS_e V (f + m)
    have b := kbS_in (cdS V (psS V (f + m)))
    have e : psS V (f + (m + 1)) = quS V (f + m) + 4 := rfl
    rw [e]
    omega
/-- a feud that was read lies in the row of feuds -/
def fdA (V : zV) (S : List zC) (g : Nat) : Prop := ∃ (c : Nat) (rf : Nat → Option Nat), c ≠ 4 ∧ frS S g = some c ∧ S[c]? = some (tgK (kindL (cdS V (psS V g))), cdS V (quS V g + 2) - 48, rf)
theorem fdA_add {V : zV} {S : List zC} {g i t : Nat} {w : Int} (hl : 4 < S.length) (h : fdA V S g) (ne : g ≠ i) : fdA V (addF S i t w) g := by
  obtain ⟨c, rf, h1, h2, h3⟩ := h
  refine ⟨c, rf, h1, ?_, addF_n h1 h3⟩
  rw [frS_eq (addF_4 hl)]
  simp [va_up, ne, h2]
theorem fdA_new {V : zV} {S : List zC} {g : Nat} (hl : 4 < S.length) : fdA V (addF S g (tgK (kindL (cdS V (psS V g)))) (cdS V (quS V g + 2) - 48)) g := by
  refine ⟨S.length, _, by omega, ?_, addF_new hl⟩
  rw [frS_eq (addF_4 hl)]
  simp [va_up]
theorem kdT_tgK {k : Int} (h : 0 ≤ k ∧ k ≤ 4) : kdT (tgK k) = k := by
  have e : k = 0 ∨ k = 1 ∨ k = 2 ∨ k = 3 ∨ k = 4 := by omega
  rcases e with e | e | e | e | e <;> (subst e; rfl)
theorem fdA_kd {V : zV} {S : List zC} {g : Nat} (h : fdA V S g) : kdS S g = kindL (cdS V (psS V g)) ∧ wtS S g = cdS V (quS V g + 2) - 48 := by
  obtain ⟨c, rf, h1, h2, h3⟩ := h
  have e : fcS S g = (tgK (kindL (cdS V (psS V g))), cdS V (quS V g + 2) - 48, rf) := by
    unfold fcS
    rw [h2]
    dsimp only
    rw [h3]
    rfl
  unfold kdS wtS
  rw [e]
  exact ⟨kdT_tgK (kindL_in _), rfl⟩
def rdX (V : zV) (S : List zC) (V' : zV) (f : Nat) : Prop := V' 3 2 = f ∧ (∃ rf, S[4]? = some (16, 8, rf)) ∧ 68 ≤ S.length ∧ (∀ g : Nat, g < f → fdA V S g) ∧ (∀ j : Int, 0 ≤ j → j < 2 * (f : Int) → V' 5 j.toNat = owS V j)
def frR (V V' : zV) : Prop := ∀ c j, c < 68 → c ≠ 5 → ¬ (c = 3 ∧ j = 2) → V' c j = V c j
section READS
variable {V V0 : zV} {k l0 : Nat}
theorem x_code {V' : zV} {Q : Int → zV → Prop} (e1 : V' 1 1 = V 1 1) (e2 : ∀ j, V' 2 j = V 2 j) (hp : V 1 1 ≤ 40) {i : Int} (hi : 0 ≤ i ∧ i < V 1 1) (q : Q (cdS V i) V') : m8_codeAt V' i Q := by
  unfold m8_codeAt
  refine ⟨by omega, fun z => by omega, fun _ => ⟨fun z => by omega, fun _ => ⟨by omega, ?_⟩⟩⟩
  rw [e2]
  exact q
theorem x_read_L {Q : List zC → zV → Prop} (hl : lsP V k) (hp : 0 ≤ V 1 1 ∧ V 1 1 ≤ 40) (hc : ∀ i, 0 ≤ i → i < V 1 1 → 1 ≤ cdS V i ∧ cdS V i ≤ 126) (b1 : V0 1 1 = V 1 1) (b2 : ∀ j, V0 2 j = V 2 j) (h0 : l0 ≤ 3000) (hq : ∀ S' V', rdX V S' V' k → S'.length ≤ l0 + k → frR V0 V' → Q S' V') : ∀ (m f : Nat) (S : List zC) (V' : zV), f + m = k → rdX V S V' f → S.length ≤ l0 + f → frR V0 V' → m10_readFrom_L7 Q (m + 1) f f (psS V f) S V'
  | 0, f, S, V', hm, hx, hs, fr => by
    clear x_read_L
    obtain ⟨⟨k1, k2⟩, ke, kg⟩ := hl
    have e : f = k := by omega
    have e32 := hx.1
    have e11 : V' 1 1 = V 1 1 := (fr 1 1 (by omega) (by omega) (by omega)).trans b1
    have ep : psS V f = V 1 1 + 1 := by rw [e]; omega
    have fin : Q S V' := hq S V' (by rw [← e]; exact hx) (by omega) fr
    unfold m10_readFrom_L7
    exact ⟨fun _ => ⟨by omega, fin⟩, fun z => ⟨by omega, fun _ => ⟨by omega, fin⟩, fun z => by omega⟩⟩
  | m + 1, f, S, V', hm, hx, hs, fr => by
    have ih := fun S1 V1 => x_read_L (Q := Q) hl hp hc b1 b2 h0 hq m (f + 1) S1 V1 (by omega)
    clear x_read_L
    obtain ⟨⟨k1, k2⟩, ke, kg⟩ := hl
    obtain ⟨g0, g1, g2⟩ := kg f (by omega)
    have mono := psS_le V (f + 1) m
    rw [show f + 1 + m = k from by omega, psS_q] at mono
    have qe := quS_e V f
    have kb := kbS_in (cdS V (psS V f))
    have pn := psS_nn V f
    obtain ⟨e32, e4, h68, hfd, how⟩ := hx
    have e11 : V' 1 1 = V 1 1 := (fr 1 1 (by omega) (by omega) (by omega)).trans b1
    have e2 : ∀ j, V' 2 j = V 2 j := fun j => (fr 2 j (by omega) (by omega) (by omega)).trans (b2 j)
    have kl := kindL_in (cdS V (psS V f))
    have cp := hc (psS V f) pn (by omega)
    have J : ∀ a2, a2 = quS V f → m10_readFrom_J40 (m10_readFrom_L7 Q (m + 1)) Q f f a2 (kindL (cdS V (psS V f))) S V' := by
      intro a2 ha2
      subst ha2
      unfold m10_readFrom_J40
      refine x_code e11 e2 hp.2 (by omega) ?_
      rw [e32]
      have w1a : (vset V' 5 (2 * (f : Int)).toNat (cdS V (quS V f) - 48)) 1 1 = V 1 1 := by rw [vset_cell (by decide)]; exact e11
      have w1b : ∀ j, (vset V' 5 (2 * (f : Int)).toNat (cdS V (quS V f) - 48)) 2 j = V 2 j := fun j => by rw [vset_cell (by decide)]; exact e2 j
      have w1c : (vset V' 5 (2 * (f : Int)).toNat (cdS V (quS V f) - 48)) 3 2 = f := by rw [vset_cell (by decide)]; exact e32
      refine ⟨by omega, by omega, x_code w1a w1b hp.2 (by omega) ?_⟩
      rw [w1c]
      have w2a : (vset (vset V' 5 (2 * (f : Int)).toNat (cdS V (quS V f) - 48)) 5 (2 * (f : Int) + 1).toNat (cdS V (quS V f + 1) - 48)) 1 1 = V 1 1 := by rw [vset_cell (by decide)]; exact w1a
      have w2b : ∀ j, (vset (vset V' 5 (2 * (f : Int)).toNat (cdS V (quS V f) - 48)) 5 (2 * (f : Int) + 1).toNat (cdS V (quS V f + 1) - 48)) 2 j = V 2 j := fun j => by rw [vset_cell (by decide)]; exact w1b j
      have w2c : (vset (vset V' 5 (2 * (f : Int)).toNat (cdS V (quS V f) - 48)) 5 (2 * (f : Int) + 1).toNat (cdS V (quS V f + 1) - 48)) 3 2 = f := by rw [vset_cell (by decide)]; exact w1c
      refine ⟨by omega, by omega, x_code w2a w2b hp.2 (by omega) ?_⟩
      rw [w2c]
      have w3c : (vrow (vset (vset V' 5 (2 * (f : Int)).toNat (cdS V (quS V f) - 48)) 5 (2 * (f : Int) + 1).toNat (cdS V (quS V f + 1) - 48)) S.length (fun _ => 0)) 3 2 = f := by rw [vrow_n (by omega)]; exact w2c
      rw [w3c]
      refine ⟨by omega, by omega, by omega, by omega, by omega, ?_⟩
      rw [show ((f : Int)).toNat = f from by omega, ← psS_q]
      refine ih _ _ ⟨?_, ⟨_, addF_4 (by omega)⟩, by rw [addF_len]; omega, fun g hg => ?_, fun j ja jb => ?_⟩ (by rw [addF_len]; omega) (fun c j x y z => ?_)
      · rw [vset_same]
        omega
      · by_cases e : g = f
        · subst e
          exact fdA_new (by omega)
        · exact fdA_add (by omega) (hfd g (by omega)) e
      · rw [vset_cell (by decide), vrow_n (by omega)]
        by_cases e : j = 2 * (f : Int)
        · subst e
          rw [vset_place (by omega), vset_same]
          unfold owS
          rw [show (2 * (f : Int) / 2).toNat = f from by omega, show 2 * (f : Int) % 2 = 0 from by omega, Int.add_zero]
        · by_cases e' : j = 2 * (f : Int) + 1
          · subst e'
            rw [vset_same]
            unfold owS
            rw [show ((2 * (f : Int) + 1) / 2).toNat = f from by omega, show (2 * (f : Int) + 1) % 2 = 1 from by omega]
          · rw [vset_place (by omega), vset_place (by omega)]
            exact how j ja (by omega)
      · rw [vset_at, if_neg z, vrow_n (by omega), vset_cell (by omega), vset_cell (by omega)]
        exact fr c j x y z
    unfold m10_readFrom_L7 m10_kindOfLetter
    refine ⟨fun z => by omega, fun _ => ⟨by omega, fun z => by omega, fun _ => x_code e11 e2 hp.2 (by omega) ⟨by omega, by omega, fun z => J _ ?_, fun z => J _ ?_⟩⟩⟩
    · rw [qe]
      unfold kbS
      rw [if_pos z]
      omega
    · rw [qe]
      unfold kbS
      rw [if_neg z]
theorem x_read {S : List zC} {Q : List zC → zV → Prop} (hl : lsP V k) (hp : 0 ≤ V 1 1 ∧ V 1 1 ≤ 40) (hc : ∀ i, 0 ≤ i → i < V 1 1 → 1 ≤ cdS V i ∧ cdS V i ≤ 126) (b1 : V0 1 1 = V 1 1) (b2 : ∀ j, V0 2 j = V 2 j) (h0 : S.length ≤ 3000) (h68 : 68 ≤ S.length) (h4 : ∃ rf, S[4]? = some (16, 8, rf)) (hq : ∀ S' V', rdX V S' V' k → S'.length ≤ S.length + k → frR V0 V' → Q S' V') : m10_readFrom S V0 Q := by
  refine ⟨k + 1, x_read_L hl hp hc b1 b2 h0 hq k 0 S (vset V0 3 2 0) (by omega) ⟨?_, h4, h68, fun g hg => absurd hg (by omega), fun j a b => by omega⟩ (by omega) (fun c j a b d => ?_)⟩
  · rw [vset_same]
    rfl
  · rw [vset_at, if_neg d]
/-! the plain model lays the same list -/
def rwC (V V' : zV) (g : Nat) : Prop := (V' 56 (7 * (g : Int)).toNat = kindL (cdS V (psS V g)) ∧ V' 56 (7 * (g : Int) + 1).toNat = cdS V (quS V g + 2) - 48 ∧ V' 56 (7 * (g : Int) + 2).toNat = 0) ∧ V' 56 (7 * (g : Int) + 3).toNat = cdS V (quS V g) - 48 ∧ V' 56 (7 * (g : Int) + 4).toNat = cdS V (quS V g + 1) - 48 ∧ V' 56 (7 * (g : Int) + 5).toNat = -1 ∧ V' 56 (7 * (g : Int) + 6).toNat = -1
theorem rwC_fr {V V' V'' : zV} {f : Nat} (h : rwC V V' f) (g : ∀ j : Nat, j < 7 * f + 7 → V'' 56 j = V' 56 j) : rwC V V'' f := by
  unfold rwC at *
  rw [g _ (by omega), g _ (by omega), g _ (by omega), g _ (by omega), g _ (by omega), g _ (by omega), g _ (by omega)]
  exact h
/-- what the plain model's list leaves -/
def lsM (V V0 V' : zV) (k : Nat) : Prop := (V' 53 5 = k ∧ V' 53 9 = 0 ∧ V' 53 15 = 0 ∧ V' 53 6 = V0 53 6 + 1 ∧ V' 53 1 = 0) ∧ bgM V' 6 ∧ (∀ g : Nat, g < k → rwC V V' g) ∧ ∀ c j, c ≠ 56 → c ≠ 57 → ¬ (c = 53 ∧ (j = 1 ∨ j = 5 ∨ j = 6 ∨ j = 9 ∨ j = 15)) → V' c j = V0 c j
theorem m_list_L {Q : Int → zV → Prop} (hk : k ≤ 8) (e3 : V0 53 3 = k) (hr : ∀ g : Nat, g < k → rdC V V0 g) (h6 : 0 ≤ V0 53 6 ∧ V0 53 6 ≤ 2000) (hq : ∀ r V', r = (k : Int) → lsM V V0 V' k → Q r V') : ∀ (m f : Nat) (V' : zV), f + m = k → (∀ g : Nat, g < f → rwC V V' g) → (∀ c j, c ≠ 56 → V' c j = V0 c j) → m12_list_L24 Q (m + 1) (f : Int) V'
  | 0, f, V', hm, hw, fr => by
    clear m_list_L
    have e33 : V' 53 3 = k := (fr _ _ (by decide)).trans e3
    unfold m12_list_L24
    refine ⟨by omega, fun _ => m_people (fun V1 hb f1 => ?_), fun z => by omega⟩
    have e6 : (vset (vset V1 53 9 0) 53 15 0) 53 6 = V0 53 6 := by
      rw [vset_place (by decide), vset_place (by decide), f1 _ _ (by decide), vset_place (by decide)]
      exact fr _ _ (by decide)
    rw [e6]
    refine ⟨by omega, hq _ _ ?_ ⟨⟨?_, ?_, ?_, ?_, ?_⟩, fun p a b => ?_, fun g hg => rwC_fr (hw g (by omega)) (fun j _ => ?_), fun c j a b d => ?_⟩⟩
    · rw [vset_place (by decide), vset_place (by decide), vset_place (by decide), vset_place (by decide), f1 _ _ (by decide), vset_same]
      exact e33
    · rw [vset_place (by decide), vset_place (by decide), vset_place (by decide), vset_place (by decide), f1 _ _ (by decide), vset_same]
      exact e33
    · rw [vset_place (by decide), vset_place (by decide), vset_place (by decide), vset_same]
    · rw [vset_place (by decide), vset_place (by decide), vset_same]
    · rw [vset_place (by decide), vset_same]
    · rw [vset_same]
    · rw [vset_cell (by decide), vset_cell (by decide), vset_cell (by decide), vset_cell (by decide), vset_cell (by decide), vset_cell (by decide), vset_cell (by decide), vset_cell (by decide), vset_cell (by decide), vset_cell (by decide), vset_cell (by decide), vset_cell (by decide)]
      exact hb p a b
    · rw [vset_cell (by decide), vset_cell (by decide), vset_cell (by decide), vset_cell (by decide), f1 _ _ (by decide), vset_cell (by decide)]
    · rw [vset_at, if_neg (by omega), vset_at, if_neg (by omega), vset_at, if_neg (by omega), vset_at, if_neg (by omega), f1 _ _ b, vset_at, if_neg (by omega)]
      exact fr c j a
  | m + 1, f, V', hm, hw, fr => by
    have ih := fun V1 => m_list_L hk e3 hr h6 hq m (f + 1) V1 (by omega)
    clear m_list_L
    have e33 : V' 53 3 = k := (fr _ _ (by decide)).trans e3
    obtain ⟨r0, r1, r2, r3⟩ := hr f (by omega)
    rw [← fr _ _ (by decide)] at r0 r1 r2 r3
    unfold m12_list_L24
    refine ⟨by omega, fun z => by omega, fun _ => ⟨by omega, by omega, by omega, by omega, by omega, by omega, by omega, by omega, by omega, by omega, by omega, ?_⟩⟩
    refine ih _ (fun g hg => ?_) (fun c j a => ?_)
    · by_cases e : g = f
      · subst e
        refine ⟨⟨?_, ?_, ?_⟩, ?_, ?_, ?_, ?_⟩
        · rw [vset_place (by omega), vset_place (by omega), vset_place (by omega), vset_place (by omega), vset_place (by omega), vset_place (by omega), vset_same]
          exact r0
        · rw [vset_place (by omega), vset_place (by omega), vset_place (by omega), vset_place (by omega), vset_place (by omega), vset_same, vset_cell (by decide)]
          exact r3
        · rw [vset_place (by omega), vset_place (by omega), vset_place (by omega), vset_place (by omega), vset_same]
        · rw [vset_place (by omega), vset_place (by omega), vset_place (by omega), vset_same, vset_cell (by decide), vset_cell (by decide), vset_cell (by decide)]
          exact r1
        · rw [vset_place (by omega), vset_place (by omega), vset_same, vset_cell (by decide), vset_cell (by decide), vset_cell (by decide), vset_cell (by decide)]
          exact r2
        · rw [vset_place (by omega), vset_same]
        · rw [vset_same]
      · refine rwC_fr (hw g (by omega)) (fun j hj => ?_)
        rw [vset_place (by omega), vset_place (by omega), vset_place (by omega), vset_place (by omega), vset_place (by omega), vset_place (by omega), vset_place (by omega)]
    · rw [vset_cell a, vset_cell a, vset_cell a, vset_cell a, vset_cell a, vset_cell a, vset_cell a]
      exact fr c j a
end READS
