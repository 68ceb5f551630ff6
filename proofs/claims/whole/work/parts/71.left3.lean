/-! ===== left, by the plain model ===== -/
section LEFTM
variable {V : zV} {n y : Int} {s : zS} {Q : Int → zV → Prop}
theorem m_add {k88 : Int → Int → Int → Int → Int → zV → Prop} {st of A kk t B f : Int} {W : Int → Int} (hW : ∀ k, 0 ≤ k → k ≤ 8 → 0 ≤ W k ∧ W k ≤ A) (h1 : 0 ≤ st) (h2 : 0 ≤ of - st) (hA : 0 ≤ A) (hb : A * of ≤ 10000000000000000) (q : ∀ V', (∀ k : Int, 0 ≤ k → k ≤ 8 → V' 62 k.toNat = wuF st (of - st) W k) → (∀ c j, c ≠ 62 → V' c j = V c j) → k88 y kk t (B * of) (f + 1) V') : ∀ (m : Nat) (V' : zV), m ≤ 9 → (∀ k : Int, 0 ≤ k → k ≤ 8 → V' 62 k.toNat = if (m : Int) ≤ k then wuF st (of - st) W k else W k) → (∀ c j, c ≠ 62 → V' c j = V c j) → m12_left_L158 k88 Q (m + 1) y kk t B f st of ((m : Int) - 1) V'
  | 0, V', hm, hv, fr => by
    unfold m12_left_L158
    refine ⟨by omega, fun _ => q V' (fun k a b => ?_) fr, fun z => by omega⟩
    rw [hv k a b, if_pos (by omega)]
  | m + 1, V', hm, hv, fr => by
    have ih := fun V1 => m_add hW h1 h2 hA hb q m V1 (by omega)
    clear m_add
    have e0 := hv (m : Int) (by omega) (by omega)
    rw [if_neg (by omega)] at e0
    have u := wuF_in hW h1 h2 hA (k := (m : Int)) (by omega) (by omega)
    rw [show st + (of - st) = of from by omega] at u
    have J : ∀ x : Int, W (m : Int) * (of - st) + x = wuF st (of - st) W (m : Int) → m12_left_J184 k88 (m12_left_L158 k88 Q (m + 1)) Q y kk t B f st of (m : Int) x V' := by
      intro x hx
      unfold m12_left_J184
      rw [e0, hx, show (m : Int) + (-1) = (m : Int) - 1 from by omega]
      refine ⟨by omega, by omega, by omega, ih _ (fun k a b => ?_) (fun c j z => ?_)⟩
      · by_cases e : k = (m : Int)
        · rw [e, vset_same, if_pos (by omega)]
        · rw [vset_place (by omega), hv k a b]
          by_cases e2 : ((m + 1 : Nat) : Int) ≤ k
          · rw [if_pos e2, if_pos (by omega)]
          · rw [if_neg e2, if_neg (by omega)]
      · rw [vset_cell z]
        exact fr c j z
    rw [show ((m + 1 : Nat) : Int) - 1 = (m : Int) from by omega]
    unfold m12_left_L158
    refine ⟨by omega, fun z => by omega, fun _ => ⟨fun z => ⟨by omega, J _ ?_⟩, fun z => J _ ?_⟩⟩
    · have e1 := hv ((m : Int) - 1) (by omega) (by omega)
      rw [if_neg (by omega)] at e1
      rw [e1, wuF_k z]
    · rw [z, wuF_0]
      omega
theorem m_left_L (h : cM V n s) (w : zwf n s) (hy : y = 1 ∨ y = 2) {kk t : Int} (hk : 0 ≤ kk ∧ kk ≤ 8) : ∀ (m f : Nat) (W : Int → Int) (A : Int) (V' : zV), (f : Int) + m = n → wsP W A f → (∀ k : Int, 0 ≤ k → k ≤ 8 → V' 62 k.toNat = W k) → (∀ c j, c ≠ 62 → V' c j = V c j) → (∀ V'', (∀ k : Int, 0 ≤ k → k ≤ 8 → V'' 62 k.toNat = wyS s y m f W k) → (∀ c j, c ≠ 62 → V'' c j = V c j) → m12_term V'' (wyS s y m f W kk) (alF s y m f A) t (fun r237 V237 => Q r237 V237)) → m12_left_L88 Q (m + 1) y kk t A (f : Int) V'
  | 0, f, W, A, V', hm, hw, hv, fr, q => by
    have e5 : V' 53 5 = n := (fr _ _ (by decide)).trans (m_n h)
    have hn := wn w
    have g := q V' hv fr
    have e : wyS s y 0 f W kk = V' 62 kk.toNat := (hv kk hk.1 hk.2).symm
    rw [e] at g
    unfold m12_left_L88
    exact ⟨by omega, fun _ => ⟨by omega, g⟩, fun z => by omega⟩
  | m + 1, f, W, A, V', hm, hw, hv, fr, q => by
    have ih := fun W A V1 => m_left_L (t := t) h w hy hk m (f + 1) W A V1 (by omega)
    clear m_left_L
    have hn := wn w
    have e5 : V' 53 5 = n := (fr _ _ (by decide)).trans (m_n h)
    have h' : cM V' n s := cM_fr h (fr _ _ (by decide)) (fun j => fr _ _ (by decide)) (fun j => fr _ _ (by decide))
    have e7 := m_7 h' (f := (f : Int)) (by omega) (by omega)
    have b7 := (w67 w (f := (f : Int)) (by omega) (by omega)).2
    have ws := wsP_s (y := y) w (f := f) (by omega) hw
    have st := stF_in (y := y) w (f := (f : Int)) (by omega) (by omega)
    rw [wyS_s, alF_s] at q
    unfold m12_left_L88
    refine ⟨by omega, fun z => by omega, fun _ => m_isStruck h' w (by omega) (fun r hr r1 r2 => ⟨by omega, fun z => ?_, fun z => ?_⟩)⟩
    · rw [if_neg (by omega), if_neg (by omega)] at q
      rw [if_neg (by omega), if_neg (by omega)] at ws
      exact ih W A V' ws hv fr q
    · rw [if_pos (by omega), if_pos (by omega)] at q
      rw [if_pos (by omega), if_pos (by omega)] at ws
      have b8 := bd_le (f := f + 1) (by omega)
      have wa := ws.2
      have J : ∀ x of : Int, x = stF s y (f : Int) → of = ofF y → m12_left_L158 (m12_left_L88 Q (m + 1)) Q 10 y kk t A (f : Int) x of 8 V' := by
        intro x of hx ho
        subst hx
        subst ho
        refine m_add (V := V') (A := A) (W := W) hw.1 (by omega) (by omega) (by have := hw.2; omega) (by omega) (fun V1 v1 f1 => ih _ _ _ ws v1 (fun c j z => (f1 c j z).trans (fr c j z)) q) 9 V' (by omega) (fun k a b => ?_) (fun _ _ _ => rfl)
        rw [if_neg (by omega)]
        exact hv k a b
      rw [e7]
      refine ⟨by omega, by omega, fun z2 => ?_, fun z2 => ?_⟩
      · have y2 : y = 2 := by omega
        have e1 : s 7 (f : Int) * s 7 (f : Int) = stF s y (f : Int) := by unfold stF; rw [if_pos y2]
        have e2 : (100 : Int) = ofF y := by unfold ofF; rw [if_pos y2]
        unfold m12_left_J136
        exact ⟨by omega, fun _ => ⟨10, J _ _ e1 e2⟩, fun z => absurd z z2⟩
      · have y2 : ¬ y = 2 := by omega
        have e1 : s 7 (f : Int) = stF s y (f : Int) := by unfold stF; rw [if_neg y2]
        have e2 : (10 : Int) = ofF y := by unfold ofF; rw [if_neg y2]
        unfold m12_left_J136
        exact ⟨by omega, fun z => absurd z2 z, fun _ => ⟨10, J _ _ e1 e2⟩⟩
theorem m_left52 {kk t : Int} (q : ∀ V', (∀ k : Int, 0 ≤ k → k ≤ 8 → V' 62 k.toNat = W0F k) → (∀ c j, c ≠ 62 → V' c j = V c j) → ∃ nn, m12_left_L88 Q nn y kk t 1 0 V') : ∀ (m : Nat) (a : Int) (V' : zV), 0 ≤ a → a + m = 10 → (∀ k : Int, 0 ≤ k → k < a → V' 62 k.toNat = W0F k) → (∀ c j, c ≠ 62 → V' c j = V c j) → m12_left_L52 Q (m + 1) y kk t a V'
  | 0, a, V', ha, hm, hv, fr => by
    unfold m12_left_L52
    exact ⟨by omega, fun _ => q V' (fun k a b => hv k a (by omega)) fr, fun z => by omega⟩
  | m + 1, a, V', ha, hm, hv, fr => by
    have ih := fun V1 => m_left52 q m (a + 1) V1 (by omega) (by omega)
    clear m_left52
    have J : ∀ x : Int, x = W0F a → m12_left_L52 Q (m + 1) y kk t (a + 1) (vset V' 62 a.toNat x) := by
      intro x hx
      refine ih _ (fun k p1 p2 => ?_) (fun c j z => ?_)
      · by_cases e : k = a
        · subst e
          rw [vset_same]
          exact hx
        · rw [vset_place (by omega)]
          exact hv k p1 (by omega)
      · rw [vset_cell z]
        exact fr c j z
    unfold m12_left_L52
    refine ⟨by omega, fun z => by omega, fun _ => ⟨fun z => ⟨by omega, J _ ?_⟩, fun z => ⟨by omega, J _ ?_⟩⟩⟩
    · unfold W0F
      rw [if_neg z]
    · unfold W0F
      rw [if_pos z]
theorem m_left (h : cM V n s) (w : zwf n s) (hy : y = 1 ∨ y = 2) {kk t : Int} (hk : 0 ≤ kk ∧ kk ≤ 8) (ht : t = 0 ∨ t = 1) (q : ∀ V', (∀ c j, c ≠ 62 → V' c j = V c j) → Q (lfT n s y kk t) V') : ∃ nn, m12_left_L52 Q nn y kk t 0 V := by
  have hn := wn w
  have ws := ws_all (y := y) w
  have b8 := bd_le (f := n.toNat) (by omega)
  have w1 := ws.1 kk hk.1 hk.2
  have w2 := ws.2
  refine ⟨11, m_left52 (fun V1 v1 f1 => ⟨n.toNat + 1, m_left_L h w hy hk n.toNat 0 W0F 1 V1 (by omega) ws_0 v1 f1 (fun V2 v2 f2 => ?_)⟩) 10 0 V (by omega) (by omega) (fun k a b => by omega) (fun _ _ _ => rfl)⟩
  have g : m12_term_L6 (fun r237 V237 => Q r237 V237) 111 (wyS s y n.toNat 0 W0F kk) (alF s y n.toNat 0 1) t (((wyS s y n.toNat 0 W0F kk).toNat : Nat) : Int) (((alF s y n.toNat 0 1).toNat : Nat) : Int) V2 := by
    refine m_term_L (by omega) (by omega) (by omega) 110 _ _ (by omega) (by omega) (by omega) (big_p (by omega) (by omega)) (fun r hr => ?_)
    rw [hr]
    exact q V2 f2
  rw [show (((wyS s y n.toNat 0 W0F kk).toNat : Nat) : Int) = wyS s y n.toNat 0 W0F kk from by omega, show (((alF s y n.toNat 0 1).toNat : Nat) : Int) = alF s y n.toNat 0 1 from by omega] at g
  exact ⟨111, g⟩
theorem finL {r r' x : Int} {K : Prop} (h : r = x) (h' : r' = x) (k : K) : (wrL r = wrL r' → K) ∧ (¬ wrL r = wrL r' → False) := by
  subst h
  subst h'
  exact ⟨fun _ => k, fun z => z rfl⟩
theorem op_left {S : List zC} {V : zV} {B n : Int} {s : zS} {K : zV → Prop} (I : zInv S V B n s) {a b t : Int} (ha : inR a) (hb : inR b) (ht : inR t) (k : ∀ V', zInv S V' B n s → K V') : m11_left S V a b t (fun r V1 => m12_left V1 a b t (fun r' V2 => (wrL r = wrL r' → K V2) ∧ (¬ wrL r = wrL r' → False))) := by
  obtain ⟨w, x, m, _⟩ := id I
  have hn := wn w
  have mm : ∀ V1 r, fS V V1 → (¬ ((a = 1 ∨ a = 2) ∧ (0 ≤ b ∧ b ≤ 8) ∧ (t = 0 ∨ t = 1)) → r = -102) → (((a = 1 ∨ a = 2) ∧ (0 ≤ b ∧ b ≤ 8) ∧ (t = 0 ∨ t = 1)) → ¬ 0 < n → r = -103) → (((a = 1 ∨ a = 2) ∧ (0 ≤ b ∧ b ≤ 8) ∧ (t = 0 ∨ t = 1)) → 0 < n → r = lfT n s a b t) → m12_left V1 a b t (fun r' V2 => (wrL r = wrL r' → K V2) ∧ (¬ wrL r = wrL r' → False)) := by
    intro V1 r f1 c1 c2 c3
    have I1 := zInv_fS I f1
    have m1 : cM V1 n s := I1.2.2.1
    unfold m12_left
    refine ⟨ha, m_in ha (by omega) (by omega) (fun z hz z1 z2 => ⟨by omega, fun z3 => finL (c1 (by split at hz <;> omega)) rfl (k V1 I1), fun z3 => ⟨hb, m_in hb (by omega) (by omega) (fun y hy y1 y2 => ⟨by omega, fun y3 => finL (c1 (by split at hy <;> omega)) rfl (k V1 I1), fun y3 => ⟨ht, m_in ht (by omega) (by omega) (fun x hx x1 x2 => ⟨by omega, fun x3 => ?_, fun x3 => finL (c1 (by split at hx <;> omega)) rfl (k V1 I1)⟩)⟩⟩)⟩⟩)⟩
    have d1 : a = 1 ∨ a = 2 := by split at hz <;> omega
    have d2 : 0 ≤ b ∧ b ≤ 8 := by split at hy <;> omega
    have d3 : t = 0 ∨ t = 1 := by split at hx <;> omega
    refine m_lacks (m_n m1) hn.1 (fun u hu u1 u2 => ⟨by omega, fun u3 => ?_, fun u3 => finL (c2 ⟨d1, d2, d3⟩ (by split at hu <;> omega)) rfl (k V1 I1)⟩)
    have d4 : 0 < n := by split at hu <;> omega
    exact m_left m1 w d1 d2 d3 (fun V2 f2 => finL (c3 ⟨d1, d2, d3⟩ d4) rfl (k V2 (zInv_fS I1 (fun c j z => f2 c j (by unfold sc at z; omega)))))
  by_cases d : (a = 1 ∨ a = 2) ∧ (0 ≤ b ∧ b ≤ 8) ∧ (t = 0 ∨ t = 1)
  · by_cases d2 : 0 < n
    · exact x_left x w d.1 d.2.1 d.2.2 d2 (fun V' f => mm V' _ f (fun z => absurd d z) (fun _ z => absurd d2 z) (fun _ _ => rfl))
    · unfold m11_left
      refine ⟨ha, fun z => by omega, fun _ => ⟨fun z => by omega, fun _ => ⟨hb, fun z => by omega, fun _ => ⟨fun z => by omega, fun _ => x_isBit ht (fun r hr r1 r2 => ?_)⟩⟩⟩⟩
      unfold isBS at hr
      rw [if_pos d.2.2] at hr
      refine ⟨by omega, fun _ => x_hasList (x_n x) (fun r' hr' _ _ => ?_), fun z => by omega⟩
      rw [if_neg d2] at hr'
      exact ⟨by omega, fun z => absurd hr' z, fun _ => mm V _ (fS_r V) (fun z => absurd d z) (fun _ _ => rfl) (fun _ z => absurd z d2)⟩
  · have no := mm V (-102) (fS_r V) (fun _ => rfl) (fun z => absurd z d) (fun z => absurd z d)
    unfold m11_left
    refine ⟨ha, fun _ => no, fun _ => ⟨fun _ => no, fun _ => ⟨hb, fun _ => no, fun _ => ⟨fun _ => no, fun _ => x_isBit ht (fun r hr r1 r2 => ?_)⟩⟩⟩⟩
    unfold isBS at hr
    rw [if_neg (by omega)] at hr
    exact ⟨by omega, fun z => absurd hr z, fun _ => no⟩
end LEFTM
