/-! ===== marriages, by the plain model ===== -/
theorem st_d : ∀ p : Fin 6, ∀ x : Fin 64, x.val < 2 ^ p.val → x.val + 2 ^ p.val < 64 ∧ (x.val + 2 ^ p.val).testBit p.val = true ∧ x.val.testBit p.val = false ∧ ∀ q : Fin 6, q.val < p.val → (x.val + 2 ^ p.val).testBit q.val = x.val.testBit q.val := by decide +kernel
theorem st_e : ∀ p : Fin 7, 2 ^ p.val ≤ 64 ∧ 2 ^ (p.val + 1) = 2 ^ p.val + 2 ^ p.val := by decide +kernel
def mkP (s : zS) (M p : Nat) : Prop := ∀ q : Nat, q < p → ((M.testBit q = true ∧ s 2 (q : Int) = 1) ∨ (M.testBit q = false ∧ s 2 (q : Int) = 0))
section MARRYM
variable {V : zV} {n : Int} {s : zS} {Q : Int → zV → Prop}
theorem m_mask (h : cM V n s) (w : zwf n s) {a1 : Int} (q : ∀ M : Nat, M < 64 → mkP s M 6 → ∃ nn, m12_marryOf_L43 Q nn a1 (M : Int) 1 (vset V 61 (0 : Int).toNat 0)) : ∀ (m p M : Nat), p + m = 6 → M < 2 ^ p → mkP s M p → m12_marryOf_L4 Q (m + 1) a1 (M : Int) (p : Int) V := by
  intro m
  induction m with
  | zero =>
    intro p M e1 hM hk
    have e : p = 6 := by omega
    subst e
    unfold m12_marryOf_L4
    exact ⟨by omega, fun _ => q M (by omega) hk, fun z => by omega⟩
  | succ m ih =>
    intro p M e1 hM hk
    have e2 := st_e ⟨p, by omega⟩
    simp only at e2
    obtain ⟨d1, d2, d3, d4⟩ := st_d ⟨p, by omega⟩ ⟨M, by omega⟩ hM
    simp only at d1 d2 d3 d4
    unfold m12_marryOf_L4
    refine ⟨by omega, fun z => by omega, fun _ => m_isAlive h w (by omega) (fun r hr r1 r2 => ⟨by omega, fun z => ?_, fun z => ?_⟩)⟩
    · rw [zor_0 (by omega)]
      refine ih (p + 1) M (by omega) (by omega) (fun x hx => ?_)
      by_cases e : x = p
      · subst e
        exact Or.inr ⟨d3, by omega⟩
      · exact hk x (by omega)
    · rw [zor_pow (by omega) hM]
      refine ih (p + 1) (M + 2 ^ p) (by omega) (by omega) (fun x hx => ?_)
      by_cases e : x = p
      · subst e
        exact Or.inl ⟨d2, by omega⟩
      · have d := d4 ⟨x, by omega⟩ (by show x < p; omega)
        simp only at d
        rw [d]
        exact hk x (by omega)
theorem m_best {k43 : Int → Int → Int → zV → Prop} {X M : Nat} {av : Int} (h : cM V n s) (w : zwf n s) (hX : X < 64) (h0 : 0 < X) (hM : M < 64) (hk : mkP s M 6) (hT : tbP (V 61) (fun a b => 100 * shS n s a b - 1) (bthA s) X) (q : ∀ r, acP (V 61) (fun a b => 100 * shS n s a b - 1) (bthA s) (leN X) (rmN X (leN X)) 6 r → 0 ≤ r → r ≤ 800 * (X : Int) → k43 av (M : Int) ((X : Int) + 1) (vset V 61 X r)) : ∃ nn, m12_marryOf_L52 k43 Q nn av (M : Int) (X : Int) 0 V := by
  have l6 := s_l6 hX h0
  have lb := s_lb hX h0
  have rl := s_lt hX l6 lb
  have hb := hT.2.1
  have L : ∀ (m b : Nat) (a : Int), b + m = 6 → acP (V 61) (fun a b => 100 * shS n s a b - 1) (bthA s) (leN X) (rmN X (leN X)) b a → 0 ≤ a → a ≤ 800 * (X : Int) → m12_marryOf_L92 k43 Q (m + 1) av (M : Int) (X : Int) (leN X : Int) (rmN X (leN X) : Int) a (b : Int) V := by
    intro m
    induction m with
    | zero =>
      intro b a e1 ac a1 a2
      have e : b = 6 := by omega
      unfold m12_marryOf_L92
      rw [Int.toNat_natCast]
      exact ⟨by omega, fun _ => ⟨by omega, by omega, q a (by rw [← e]; exact ac) a1 a2⟩, fun z => by omega⟩
    | succ m ih =>
      intro b a e1 ac a1 a2
      have no : ((rmN X (leN X)).testBit b = true → bthA s (leN X) b → False) → m12_marryOf_J162 k43 (m12_marryOf_L92 k43 Q (m + 1)) Q av (M : Int) (X : Int) (leN X : Int) (rmN X (leN X) : Int) a (b : Int) (-1) V := by
        intro z
        unfold m12_marryOf_J162
        exact ⟨by omega, by omega, fun _ => ih (b + 1) a (by omega) (acP_n ac z) a1 a2, fun z => by omega⟩
      unfold m12_marryOf_L92
      by_cases t : (rmN X (leN X)).testBit b = true
      · have e := sb1 (X := rmN X (leN X)) (b := b) (by omega) (by omega) t
        have gt := s_gt hX h0 (by omega) t
        have r2 := s_lt (X := rmN X (leN X)) (b := b) (by omega) (by omega) t
        have hb2 := hb (rmN (rmN X (leN X)) b) (by omega)
        refine ⟨by omega, fun z => by omega, fun _ => ⟨by omega, fun z => absurd e z, fun _ => ?_⟩⟩
        rcases hk (leN X) l6 with ⟨x1, x2⟩ | ⟨x1, x2⟩
        · have f := sb1 (b := leN X) hM l6 x1
          refine ⟨by omega, fun z => absurd f z, fun _ => ?_⟩
          rcases hk b (by omega) with ⟨y1, y2⟩ | ⟨y1, y2⟩
          · have f2 := sb1 (b := b) hM (by omega) y1
            refine ⟨by omega, fun z => absurd f2 z, fun _ => ?_⟩
            rw [s_rm (X := rmN X (leN X)) (b := b) (by omega) (by omega), Int.toNat_natCast]
            refine ⟨by omega, m_feudsT h w (by omega) (by omega) (fun r hr r1 r2 => ?_)⟩
            have ev : V 61 (rmN (rmN X (leN X)) b) + 100 * r - 1 = V 61 (rmN (rmN X (leN X)) b) + (100 * shS n s (leN X) b - 1) := by
              unfold shS
              omega
            unfold m12_marryOf_J162
            exact ⟨by omega, by omega, fun z => ih (b + 1) _ (by omega) (acP_y ac t ⟨x2, y2⟩ ev (Or.inr ⟨z, rfl⟩)) a1 a2, fun z => ih (b + 1) _ (by omega) (acP_y ac t ⟨x2, y2⟩ ev (Or.inl ⟨z, rfl⟩)) (by omega) (by omega)⟩
          · have f2 := sb0 (b := b) hM (by omega) y1
            exact ⟨by omega, fun _ => no (fun _ z => by have := z.2; omega), fun z => by omega⟩
        · have f := sb0 (b := leN X) hM l6 x1
          exact ⟨by omega, fun _ => no (fun _ z => by have := z.1; omega), fun z => by omega⟩
      · have e := sb0 (X := rmN X (leN X)) (b := b) (by omega) (by omega) (by simpa using t)
        exact ⟨by omega, fun z => by omega, fun _ => ⟨by omega, fun _ => no (fun z _ => t z), fun z => by omega⟩⟩
  have F : ∀ (m b : Nat), b + m = 6 → b ≤ leN X → m12_marryOf_L52 k43 Q (m + 1) av (M : Int) (X : Int) (b : Int) V := by
    intro m
    induction m with
    | zero =>
      intro b e1 e2
      omega
    | succ m ih =>
      intro b e1 e2
      unfold m12_marryOf_L52
      by_cases t : X.testBit b = true
      · have e := sb1 hX (by omega) t
        have le := s_le hX (by omega) t
        have eb : b = leN X := by omega
        refine ⟨by omega, fun _ => ?_, fun z => by omega⟩
        rw [eb, s_rm hX l6, Int.toNat_natCast]
        have hbR := hb (rmN X (leN X)) rl
        refine ⟨by omega, ⟨5 - leN X + 1, ?_⟩⟩
        exact L (5 - leN X) (leN X + 1) _ (by omega) (acP_0 hX h0) hbR.1 (by omega)
      · have e := sb0 hX (b := b) (by omega) (by simpa using t)
        have ne : b ≠ leN X := fun z => t (by rw [z]; exact lb)
        exact ⟨by omega, fun z => absurd e z, fun _ => ih (b + 1) (by omega) (by omega)⟩
  exact ⟨7, F 6 0 (by omega) (by omega)⟩
theorem mrF_in {n : Int} {s : zS} {t a : Int} {U : Nat → Int} (w : zwf n s) (h : isT n s t) (k : tbP U (fun a b => 100 * shS n s a b - 1) (bthA s) 64) : (0 ≤ mrF t a ∧ mrF t a ≤ 24) ∧ mrF t a = if a = 0 then (U 63 + 99) / 100 else 100 * ((U 63 + 99) / 100) - U 63 := by
  obtain ⟨st, p, e1, e2, e3, e4⟩ := isT_both w h k
  have e5 : (t + 3) / 4 = st := by omega
  have e6 : (U 63 + 99) / 100 = st := by omega
  unfold mrF
  rw [e5, e6]
  split <;> omega
theorem m_marryOf {t a : Int} (h : cM V n s) (w : zwf n s) (ha : inR a) (hT : isT n s t) (q : ∀ r V', r = mrF t a → 0 ≤ r → r ≤ 24 → (∀ c j, c ≠ 61 → V' c j = V c j) → Q r V') : m12_marryOf V a Q := by
  refine ⟨7, m_mask h w (fun M hM hk => ?_) 6 0 0 (by omega) (by decide) (fun x hx => by omega)⟩
  have L : ∀ (m X : Nat) (V' : zV), X + m = 64 → 0 < X → tbP (V' 61) (fun a b => 100 * shS n s a b - 1) (bthA s) X → (∀ c j, c ≠ 61 → V' c j = V c j) → m12_marryOf_L43 Q (m + 1) a (M : Int) (X : Int) V' := by
    intro m
    induction m with
    | zero =>
      intro X V' e1 x0 hT' f1
      have e : X = 64 := by omega
      subst e
      have b := hT'.2.1 63 (by omega)
      have v := mrF_in (a := a) w hT hT'
      unfold m12_marryOf_L43
      rw [show (63 : Int).toNat = 63 from rfl]
      refine ⟨by omega, fun _ => ⟨by omega, ha, fun z => q _ V' ?_ ?_ ?_ f1, fun z => q _ V' ?_ ?_ ?_ f1⟩, fun z => by omega⟩
      · rw [v.2, if_neg z]
      · rw [if_neg z] at v
        omega
      · rw [if_neg z] at v
        omega
      · rw [v.2, if_pos z]
      · rw [if_pos z] at v
        omega
      · rw [if_pos z] at v
        omega
    | succ m ih =>
      intro X V' e1 x0 hT' f1
      have h' : cM V' n s := cM_fr h (f1 _ _ (by decide)) (fun j => f1 _ _ (by decide)) (fun j => f1 _ _ (by decide))
      unfold m12_marryOf_L43
      refine ⟨by omega, fun z => by omega, fun _ => m_best h' w (by omega) x0 hM hk hT' (fun r hr r1 r2 => ih (X + 1) _ (by omega) (by omega) ?_ ?_)⟩
      · refine tbP_s hT' (by omega) x0 (fun Y hY => ?_) ?_ ?_
        · rw [vset_place (by omega)]
        · rw [vset_same]
          exact hr
        · rw [vset_same]
          exact ⟨r1, r2⟩
      · intro c j z
        rw [vset_cell z]
        exact f1 c j z
  refine ⟨64, L 63 1 _ (by omega) (by omega) ⟨?_, fun X hX => ?_, fun X x0 hX => by omega⟩ (fun c j z => ?_)⟩
  · rw [show (0 : Int).toNat = 0 from rfl, vset_same]
  · have e : X = 0 := by omega
    subst e
    rw [show (0 : Int).toNat = 0 from rfl, vset_same]
    omega
  · rw [vset_cell z]
theorem x_marry {S : List zC} (h : cX S V 14 n s) (w : zwf n s) {a : Int} (ha : a = 0 ∨ a = 1) (hn : 0 < n) (q : ∀ t r V', isT n s t → r = mrF t a → fS V V' → Q r V') : m11_marry S V a Q := by
  unfold m11_marry
  refine x_isBit (by omega) (fun r hr r1 r2 => ?_)
  unfold isBS at hr
  rw [if_pos ha] at hr
  refine ⟨by omega, fun _ => x_hasList (x_n h) (fun r' hr' _ _ => ?_), fun z => by omega⟩
  rw [if_pos hn] at hr'
  refine ⟨by omega, fun _ => x_pairUp h w (fun t V' ht t1 t2 e2 e3 fr => ?_), fun z => by omega⟩
  have f : fS V V' := fun c j z => fr c j (by unfold sc at z; omega)
  refine ⟨by omega, fun z => q t _ V' ht ?_ f, fun z => q t _ V' ht ?_ f⟩
  · rw [e3]
    have e : a = 1 := by omega
    rw [e]
  · rw [e2, z]
theorem op_marry {S : List zC} {V : zV} {B n : Int} {s : zS} {K : zV → Prop} (I : zInv S V B n s) {a : Int} (ha : inR a) (k : ∀ V', zInv S V' B n s → K V') : m11_marry S V a (fun r V1 => m12_marry V1 a (fun r' V2 => inR r ∧ inR r' ∧ ((r = r' → K V2) ∧ (¬ r = r' → False)))) := by
  obtain ⟨w, x, m, _⟩ := id I
  have hn := wn w
  have mm : ∀ V1 r, fS V V1 → (¬ (a = 0 ∨ a = 1) → r = -102) → ((a = 0 ∨ a = 1) → ¬ 0 < n → r = -103) → ((a = 0 ∨ a = 1) → 0 < n → ∃ t, isT n s t ∧ r = mrF t a) → m12_marry V1 a (fun r' V2 => inR r ∧ inR r' ∧ ((r = r' → K V2) ∧ (¬ r = r' → False))) := by
    intro V1 r f1 c1 c2 c3
    have I1 := zInv_fS I f1
    have m1 : cM V1 n s := I1.2.2.1
    unfold m12_marry
    refine ⟨ha, m_in ha (by omega) (by omega) (fun z hz z1 z2 => ⟨by omega, fun z3 => ?_, fun z3 => ?_⟩)⟩
    · have d : a = 0 ∨ a = 1 := by
        split at hz <;> omega
      refine m_lacks (m_n m1) hn.1 (fun y hy y1 y2 => ⟨by omega, fun y3 => ?_, fun y3 => ?_⟩)
      · have d2 : 0 < n := by
          split at hy <;> omega
        obtain ⟨t, ht, er⟩ := c3 d d2
        exact m_marryOf m1 w ha ht (fun r' V2 hr' q1 q2 f2 => fin2 er hr' (by omega) (k V2 (zInv_fS I1 (fun c j z => f2 c j (by unfold sc at z; omega)))))
      · have d2 : ¬ 0 < n := by
          split at hy <;> omega
        exact fin2 (c2 d d2) rfl (by omega) (k V1 I1)
    · have d : ¬ (a = 0 ∨ a = 1) := by
        split at hz <;> omega
      exact fin2 (c1 d) rfl (by omega) (k V1 I1)
  by_cases d : a = 0 ∨ a = 1
  · by_cases d2 : 0 < n
    · exact x_marry x w d d2 (fun t r V' ht hr f => mm V' r f (fun z => absurd d z) (fun _ z => absurd d2 z) (fun _ _ => ⟨t, ht, hr⟩))
    · unfold m11_marry
      refine x_isBit ha (fun r hr r1 r2 => ?_)
      unfold isBS at hr
      rw [if_pos d] at hr
      refine ⟨by omega, fun _ => x_hasList (x_n x) (fun r' hr' _ _ => ?_), fun z => by omega⟩
      rw [if_neg d2] at hr'
      exact ⟨by omega, fun z => absurd hr' z, fun _ => mm V _ (fS_r V) (fun z => absurd d z) (fun _ _ => rfl) (fun _ z => absurd z d2)⟩
  · unfold m11_marry
    refine x_isBit ha (fun r hr r1 r2 => ?_)
    unfold isBS at hr
    rw [if_neg d] at hr
    exact ⟨by omega, fun z => absurd hr z, fun _ => mm V _ (fS_r V) (fun _ => rfl) (fun z => absurd z d) (fun z => absurd z d)⟩
end MARRYM
