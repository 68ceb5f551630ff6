/-! ===== marriages ===== -/
def g4S (n : Int) (s : zS) (a b : Nat) : Int := if s 2 (a : Int) = 1 ∧ s 2 (b : Int) = 1 then 4 * tBo n s a b - 1 else -1
def shS (n : Int) (s : zS) (a b : Nat) : Int := tBo n s (a : Int) (b : Int)
def bthA (s : zS) (a b : Nat) : Prop := s 2 (a : Int) = 1 ∧ s 2 (b : Int) = 1
def isT (n : Int) (s : zS) (t : Int) : Prop := ∃ T, tbP T (g4S n s) (fun _ _ => True) 64 ∧ T 63 = t
def mrF (t a : Int) : Int := if a = 0 then (t + 3) / 4 else 4 * ((t + 3) / 4) - t
theorem isT_u {n : Int} {s : zS} {t t' : Int} (h : isT n s t) (k : isT n s t') : t = t' := by
  obtain ⟨T, a, b⟩ := h
  obtain ⟨U, c, d⟩ := k
  rw [← b, ← d]
  exact tbP_u a c 64 63 (by omega) (by omega)
theorem g4_in {n : Int} {s : zS} (w : zwf n s) (a b : Nat) : -1 ≤ g4S n s a b ∧ g4S n s a b ≤ 799 := by
  have := tBo_in w (a : Int) (b : Int)
  unfold g4S
  split <;> omega
theorem isT_both {n : Int} {s : zS} {t : Int} {U : Nat → Int} (w : zwf n s) (h : isT n s t) (k : tbP U (fun a b => 100 * shS n s a b - 1) (bthA s) 64) : ∃ st p : Int, t = 4 * st - p ∧ U 63 = 100 * st - p ∧ (0 ≤ p ∧ p ≤ 3) ∧ (0 ≤ st ∧ st ≤ 24) := by
  obtain ⟨T, a, b⟩ := h
  obtain ⟨st, p, h1, h2, h3, h4, h5, h6⟩ := tb_both (sh := shS n s) (ok := bthA s) (fun a b => tBo_in w _ _) a k (fun a b o => by unfold bthA at o; unfold g4S shS; rw [if_pos o]) (fun a b o => by unfold bthA at o; unfold g4S; rw [if_neg o]) 64 63 (by omega) (by omega)
  have e : ctN 63 = 6 := by decide
  rw [e] at h4 h6
  exact ⟨st, p, by omega, h2, by omega, by omega⟩
def gnP (n : Int) (s : zS) (V : zV) (a b : Nat) : Prop := ∀ x y : Nat, x < 6 → y < 6 → x ≠ y → (x < a ∨ (x = a ∧ y < b)) → V 49 (6 * (x : Int) + (y : Int)).toNat = g4S n s x y
section MARRY
variable {S : List zC} {V : zV} {n : Int} {s : zS}
theorem x_gains_L10 {k2 : Int → zV → Prop} {Q : zV → Prop} (h : cX S V 14 n s) (w : zwf n s) {a : Nat} (ha : a < 6) (q : ∀ V', gnP n s V' (a + 1) 0 → (∀ c j, c ≠ 49 → V' c j = V c j) → k2 ((a : Int) + 1) V') : ∀ (m b : Nat) (V' : zV), b + m = 6 → gnP n s V' a b → (∀ c j, c ≠ 49 → V' c j = V c j) → m6_reckonGains_L10 S 14 k2 Q (m + 1) (a : Int) (b : Int) V'
  | 0, b, V', hm, hg, fr => by
    unfold m6_reckonGains_L10
    exact ⟨by omega, fun _ => q V' (fun x y p1 p2 p3 p4 => hg x y p1 p2 p3 (by omega)) fr, fun z => by omega⟩
  | m + 1, b, V', hm, hg, fr => by
    have ih := fun V1 => x_gains_L10 (Q := Q) h w ha q m (b + 1) V1 (by omega)
    clear x_gains_L10
    have x : cX S V' 14 n s := cX_fr h (fr _ _ (by omega)) (fun c j _ _ => fr _ _ (by omega))
    have ea := x_2 x (p := (a : Int)) (by omega) (by omega)
    have eb := x_2 x (p := (b : Int)) (by omega) (by omega)
    have wa := w2 w (p := (a : Int)) (by omega) (by omega)
    have wb := w2 w (p := (b : Int)) (by omega) (by omega)
    have put : ∀ v : Int, (a ≠ b → v = g4S n s a b) → m6_reckonGains_L10 S 14 k2 Q (m + 1) (a : Int) ((b : Int) + 1) (vset V' 49 (6 * (a : Int) + (b : Int)).toNat v) := by
      intro v hv
      refine ih _ (fun x y p1 p2 p3 p4 => ?_) (fun c j z => ?_)
      · by_cases e : x = a ∧ y = b
        · obtain ⟨e1, e2⟩ := e
          subst e1
          subst e2
          rw [vset_same]
          exact hv p3
        · rw [vset_place (by omega)]
          exact hg x y p1 p2 p3 (by omega)
      · rw [vset_cell z]
        exact fr c j z
    have J0 : (a ≠ b → ¬ (s 2 (a : Int) = 1 ∧ s 2 (b : Int) = 1)) → m6_reckonGains_J44 S 14 k2 (m6_reckonGains_L10 S 14 k2 Q (m + 1)) Q (a : Int) (b : Int) 0 V' := by
      intro hno
      unfold m6_reckonGains_J44
      refine ⟨by omega, fun _ => ⟨by omega, put _ (fun e => ?_)⟩, fun z => absurd rfl z⟩
      unfold g4S
      rw [if_neg (hno e)]
    have J1 : (s 2 (a : Int) = 1 ∧ s 2 (b : Int) = 1) → m6_reckonGains_J44 S 14 k2 (m6_reckonGains_L10 S 14 k2 Q (m + 1)) Q (a : Int) (b : Int) 1 V' := by
      intro hy
      unfold m6_reckonGains_J44
      refine ⟨by omega, fun z => by omega, fun _ => x_feudsT x w (by omega) (by omega) (fun r hr r1 r2 => ⟨by omega, by omega, put _ (fun e => ?_)⟩)⟩
      unfold g4S
      rw [if_pos hy, hr]
    unfold m6_reckonGains_L10
    refine ⟨by omega, fun z => by omega, fun _ => ⟨by omega, fun z => J0 (fun e => by omega), fun z => ⟨by omega, fun z1 => J0 (fun _ => by omega), fun z1 => ⟨by omega, fun z2 => J0 (fun _ => by omega), fun z2 => J1 (by omega)⟩⟩⟩⟩
theorem x_gains_L2 {Q : zV → Prop} (h : cX S V 14 n s) (w : zwf n s) (q : ∀ V', gnP n s V' 6 0 → (∀ c j, c ≠ 49 → V' c j = V c j) → Q V') : ∀ (m a : Nat) (V' : zV), a + m = 6 → gnP n s V' a 0 → (∀ c j, c ≠ 49 → V' c j = V c j) → m6_reckonGains_L2 S 14 Q (m + 1) (a : Int) V'
  | 0, a, V', hm, hg, fr => by
    have e : a = 6 := by omega
    unfold m6_reckonGains_L2
    exact ⟨by omega, fun _ => q V' (by rw [← e]; exact hg) fr, fun z => by omega⟩
  | m + 1, a, V', hm, hg, fr => by
    have ih := fun V1 => x_gains_L2 h w q m (a + 1) V1 (by omega)
    clear x_gains_L2
    unfold m6_reckonGains_L2
    refine ⟨by omega, fun z => by omega, fun _ => ⟨7, x_gains_L10 (cX_fr h (fr _ _ (by omega)) (fun c j _ _ => fr _ _ (by omega))) w (by omega) (fun V1 g1 f1 => ih V1 g1 (fun c j z => (f1 c j z).trans (fr c j z))) 6 0 V' (by omega) hg (fun _ _ _ => rfl)⟩⟩
theorem x_least {Q : Int → zV → Prop} {X : Nat} (hX : X < 64) (h0 : 0 < X) (q : Q (leN X : Int) V) : m6_leastOf S V (X : Int) Q := by
  have l6 := s_l6 hX h0
  have lb := s_lb hX h0
  have L : ∀ (m b : Nat), b + m = 6 → b ≤ leN X → m6_leastOf_L2 S Q (m + 1) (X : Int) (b : Int) V := by
    intro m
    induction m with
    | zero =>
      intro b e1 e2
      omega
    | succ m ih =>
      intro b e1 e2
      unfold m6_leastOf_L2
      by_cases t : X.testBit b = true
      · have e := sb1 hX (by omega) t
        have le := s_le hX (by omega) t
        have eb : b = leN X := by omega
        refine ⟨by omega, fun z => by omega, fun _ => ⟨by omega, fun z => absurd e z, fun _ => ?_⟩⟩
        rw [eb]
        exact q
      · have e := sb0 hX (b := b) (by omega) (by simpa using t)
        have ne : b ≠ leN X := fun z => t (by rw [z]; exact lb)
        refine ⟨by omega, fun z => by omega, fun _ => ⟨by omega, fun _ => ih (b + 1) (by omega) (by omega), fun z => by omega⟩⟩
  exact ⟨7, L 6 0 (by omega) (by omega)⟩
theorem x_best {Q : Int → zV → Prop} {X : Nat} (w : zwf n s) (hX : X < 64) (h0 : 0 < X) (hT : tbP (V 48) (g4S n s) (fun _ _ => True) X) (hg : gnP n s V 6 0) (q : ∀ r, acP (V 48) (g4S n s) (fun _ _ => True) (leN X) (rmN X (leN X)) 6 r → 0 ≤ r → r ≤ 800 * (X : Int) → Q r V) : m6_bestOf S V (X : Int) Q := by
  have l6 := s_l6 hX h0
  have lb := s_lb hX h0
  have rl := s_lt hX l6 lb
  have hb := hT.2.1
  have L : ∀ (m b : Nat) (a : Int), b + m = 6 → acP (V 48) (g4S n s) (fun _ _ => True) (leN X) (rmN X (leN X)) b a → 0 ≤ a → a ≤ 800 * (X : Int) → m6_bestOf_L26 S Q (m + 1) (leN X : Int) (rmN X (leN X) : Int) a (b : Int) V := by
    intro m
    induction m with
    | zero =>
      intro b a e1 ac a1 a2
      have e : b = 6 := by omega
      unfold m6_bestOf_L26
      exact ⟨by omega, fun _ => q a (by rw [← e]; exact ac) a1 a2, fun z => by omega⟩
    | succ m ih =>
      intro b a e1 ac a1 a2
      unfold m6_bestOf_L26
      by_cases t : (rmN X (leN X)).testBit b = true
      · have e := sb1 (X := rmN X (leN X)) (b := b) (by omega) (by omega) t
        have gt := s_gt hX h0 (by omega) t
        have r2 := s_lt (X := rmN X (leN X)) (b := b) (by omega) (by omega) t
        have hb2 := hb (rmN (rmN X (leN X)) b) (by omega)
        have g := g4_in w (leN X) b
        refine ⟨by omega, fun z => by omega, fun _ => ⟨by omega, fun z => absurd e z, fun _ => ?_⟩⟩
        rw [s_rm (X := rmN X (leN X)) (b := b) (by omega) (by omega), Int.toNat_natCast, hg (leN X) b l6 (by omega) (by omega) (by omega)]
        refine ⟨by omega, by omega, by omega, by omega, ?_⟩
        split
        · exact ih (b + 1) _ (by omega) (acP_y ac t trivial rfl (Or.inl ⟨by assumption, rfl⟩)) (by omega) (by omega)
        · exact ih (b + 1) _ (by omega) (acP_y ac t trivial rfl (Or.inr ⟨by omega, rfl⟩)) (by omega) (by omega)
      · have e := sb0 (X := rmN X (leN X)) (b := b) (by omega) (by omega) (by simpa using t)
        refine ⟨by omega, fun z => by omega, fun _ => ⟨by omega, fun _ => ih (b + 1) a (by omega) (acP_n ac (fun z _ => t z)) a1 a2, fun z => by omega⟩⟩
  unfold m6_bestOf
  refine x_least hX h0 ?_
  rw [s_rm hX l6, Int.toNat_natCast]
  have hbR := hb (rmN X (leN X)) rl
  refine ⟨by omega, ⟨5 - leN X + 1, ?_⟩⟩
  exact L (5 - leN X) (leN X + 1) _ (by omega) (acP_0 hX h0) hbR.1 (by omega)
theorem x_pairUp {Q : zV → Prop} (h : cX S V 14 n s) (w : zwf n s) (q : ∀ t V', isT n s t → 0 ≤ t → t ≤ 50400 → V' 47 2 = mrF t 0 → V' 47 3 = mrF t 1 → (∀ c j, c < 47 ∨ 49 < c → V' c j = V c j) → Q V') : m6_pairUp S 14 V Q := by
  unfold m6_pairUp m6_reckonGains
  refine ⟨7, x_gains_L2 h w (fun V2 hg fr => ?_) 6 0 V (by omega) (fun x y _ _ _ z => by omega) (fun _ _ _ => rfl)⟩
  have L : ∀ (m X : Nat) (V' : zV), X + m = 64 → 0 < X → tbP (V' 48) (g4S n s) (fun _ _ => True) X → gnP n s V' 6 0 → (∀ c j, c < 47 ∨ 49 < c → V' c j = V c j) → m6_pairUp_L14 S 14 Q (m + 1) (X : Int) V' := by
    intro m
    induction m with
    | zero =>
      intro X V' e1 x0 hT g1 f1
      have e : X = 64 := by omega
      subst e
      have b := hT.2.1 63 (by omega)
      unfold m6_pairUp_L14
      rw [show (63 : Int).toNat = 63 from rfl]
      rw [vset_same]
      refine ⟨by omega, fun _ => ⟨by omega, by omega, by omega, q (V' 48 63) _ ⟨V' 48, hT, rfl⟩ b.1 (by omega) ?_ ?_ (fun c j z => ?_)⟩, fun z => by omega⟩
      · rw [vset_place (by decide), vset_same]
        unfold mrF
        rw [if_pos rfl]
        omega
      · rw [vset_same]
        unfold mrF
        rw [if_neg (by decide)]
        omega
      · rw [vset_cell (by omega), vset_cell (by omega)]
        exact f1 c j z
    | succ m ih =>
      intro X V' e1 x0 hT g1 f1
      unfold m6_pairUp_L14
      refine ⟨by omega, fun z => by omega, fun _ => x_best w (by omega) x0 hT g1 (fun r hr r1 r2 => ⟨by omega, by omega, ih (X + 1) _ (by omega) (by omega) ?_ ?_ ?_⟩)⟩
      · rw [Int.toNat_natCast]
        refine tbP_s hT (by omega) x0 (fun Y hY => ?_) ?_ ?_
        · rw [vset_place (by omega)]
        · rw [vset_same]
          exact hr
        · rw [vset_same]
          exact ⟨r1, r2⟩
      · intro x y p1 p2 p3 p4
        rw [vset_cell (by decide)]
        exact g1 x y p1 p2 p3 p4
      · intro c j z
        rw [vset_cell (by omega)]
        exact f1 c j z
  refine ⟨64, L 63 1 _ (by omega) (by omega) ⟨?_, fun X hX => ?_, fun X x0 hX => by omega⟩ (fun x y p1 p2 p3 p4 => ?_) (fun c j z => ?_)⟩
  · rw [show (0 : Int).toNat = 0 from rfl, vset_same]
  · have e : X = 0 := by omega
    subst e
    rw [show (0 : Int).toNat = 0 from rfl, vset_same]
    omega
  · rw [vset_cell (by decide)]
    exact hg x y p1 p2 p3 p4
  · rw [vset_cell (by omega)]
    exact fr c j (by omega)
end MARRY
