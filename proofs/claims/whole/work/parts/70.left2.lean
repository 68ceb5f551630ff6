/-! ===== left, the class's rows ===== -/
section LEFTX
variable {S : List zC} {V : zV} {n y : Int} {s : zS}
theorem wuF_0 (st go : Int) (W : Int → Int) : wuF st go W 0 = W 0 * go := by
  unfold wuF
  rw [if_pos rfl]
  omega
theorem wuF_k {st go : Int} {W : Int → Int} {k : Int} (h : k ≠ 0) : wuF st go W k = W k * go + W (k - 1) * st := by
  unfold wuF
  rw [if_neg h]
theorem x_add {Q : zV → Prop} {st go A : Int} {W : Int → Int} (hW : ∀ k, 0 ≤ k → k ≤ 8 → 0 ≤ W k ∧ W k ≤ A) (h1 : 0 ≤ st) (h2 : 0 ≤ go) (hA : 0 ≤ A) (hb : A * (st + go) ≤ 10000000000000000) (q : ∀ V', (∀ k : Int, 0 ≤ k → k ≤ 8 → V' 51 k.toNat = wuF st go W k) → (∀ c j, c ≠ 51 → V' c j = V c j) → Q V') : ∀ (m : Nat) (V' : zV), m ≤ 8 → (∀ k : Int, 0 ≤ k → k ≤ 8 → V' 51 k.toNat = if (m : Int) < k then wuF st go W k else W k) → (∀ c j, c ≠ 51 → V' c j = V c j) → m7_addFeud_L4 S Q (m + 1) st go (m : Int) V'
  | 0, V', hm, hv, fr => by
    have e0 := hv 0 (by omega) (by omega)
    rw [if_neg (by omega)] at e0
    have u := wuF_in hW h1 h2 hA (k := 0) (by omega) (by omega)
    rw [wuF_0] at u
    unfold m7_addFeud_L4
    rw [e0]
    refine ⟨by omega, fun _ => ⟨by omega, q _ (fun k a b => ?_) (fun c j z => ?_)⟩, fun z => by omega⟩
    · by_cases e : k = 0
      · subst e
        rw [vset_same, wuF_0]
      · rw [vset_place (by omega), hv k a b, if_pos (by omega)]
    · rw [vset_cell z]
      exact fr c j z
  | m + 1, V', hm, hv, fr => by
    have ih := fun V1 => x_add (Q := Q) hW h1 h2 hA hb q m V1 (by omega)
    clear x_add
    have e0 := hv ((m + 1 : Nat) : Int) (by omega) (by omega)
    rw [if_neg (by omega)] at e0
    have e1 := hv (((m + 1 : Nat) : Int) - 1) (by omega) (by omega)
    rw [if_neg (by omega)] at e1
    have u := wuF_in hW h1 h2 hA (k := ((m + 1 : Nat) : Int)) (by omega) (by omega)
    have uk := wuF_k (st := st) (go := go) (W := W) (k := ((m + 1 : Nat) : Int)) (by omega)
    unfold m7_addFeud_L4
    rw [e0, e1, ← uk, show ((m + 1 : Nat) : Int) + (-1) = (m : Int) from by omega]
    refine ⟨by omega, fun z => by omega, fun _ => ⟨by omega, by omega, by omega, by omega, ih _ (fun k a b => ?_) (fun c j z => ?_)⟩⟩
    · by_cases e : k = ((m + 1 : Nat) : Int)
      · rw [e, vset_same, if_pos (by omega)]
      · rw [vset_place (by omega), hv k a b]
        by_cases e2 : ((m + 1 : Nat) : Int) < k
        · rw [if_pos e2, if_pos (by omega)]
        · rw [if_neg e2, if_neg (by omega)]
    · rw [vset_cell z]
      exact fr c j z
theorem x_reckon_L {Q : zV → Prop} (h : cX S V 14 n s) (w : zwf n s) (hy : y = 1 ∨ y = 2) : ∀ (m f : Nat) (W : Int → Int) (A : Int) (V' : zV), (f : Int) + m = n → wsP W A f → (∀ k : Int, 0 ≤ k → k ≤ 8 → V' 51 k.toNat = W k) → V' 50 1 = A → (∀ c j, c ≠ 50 → c ≠ 51 → V' c j = V c j) → (∀ V'', (∀ k : Int, 0 ≤ k → k ≤ 8 → V'' 51 k.toNat = wyS s y m f W k) → V'' 50 1 = alF s y m f A → (∀ c j, c ≠ 50 → c ≠ 51 → V'' c j = V c j) → Q V'') → m7_reckon_L22 S 14 Q (m + 1) y (f : Int) V'
  | 0, f, W, A, V', hm, hw, hv, ha, fr, q => by
    have e32 : V' 3 2 = n := (fr 3 2 (by omega) (by omega)).trans (x_n h)
    have hn := wn w
    unfold m7_reckon_L22
    exact ⟨by omega, fun _ => q V' hv ha fr, fun z => by omega⟩
  | m + 1, f, W, A, V', hm, hw, hv, ha, fr, q => by
    have ih := fun W A V1 => x_reckon_L (Q := Q) h w hy m (f + 1) W A V1 (by omega)
    clear x_reckon_L
    have hn := wn w
    have e32 : V' 3 2 = n := (fr 3 2 (by omega) (by omega)).trans (x_n h)
    have e5 : V' (14 + 6) ((f : Int)).toNat = s 5 (f : Int) := (fr _ _ (by omega) (by omega)).trans (x_5 h (by omega) (by omega))
    have e7 := x_7 h (f := (f : Int)) (by omega) (by omega)
    have b7 := (w67 w (f := (f : Int)) (by omega) (by omega)).2
    have ws := wsP_s (y := y) w (f := f) (by omega) hw
    have st := stF_in (y := y) w (f := (f : Int)) (by omega) (by omega)
    rw [wyS_s, alF_s] at q
    unfold m7_reckon_L22
    rw [e7]
    refine ⟨by omega, fun z => by omega, fun _ => ⟨by omega, fun z => ?_, fun z => ?_⟩⟩
    · rw [e5] at z
      rw [if_neg z, if_neg z] at q
      rw [if_neg z, if_neg z] at ws
      exact ih W A V' ws hv ha fr q
    · rw [e5] at z
      rw [if_pos z, if_pos z] at q
      rw [if_pos z, if_pos z] at ws
      have b8 := bd_le (f := f + 1) (by omega)
      have wa := ws.2
      have eo : ofF y = stF s y (f : Int) + (ofF y - stF s y (f : Int)) := by omega
      have J : ∀ x of : Int, x = stF s y (f : Int) → of = ofF y → m7_reckon_J88 S 14 (m7_reckon_L22 S 14 Q (m + 1)) Q y (f : Int) x of V' := by
        intro x of hx ho
        subst hx
        subst ho
        unfold m7_reckon_J88
        refine ⟨9, x_add (V := V') (A := A) (W := W) hw.1 (by omega) (by omega) (by have := hw.2; omega) (by rw [← eo]; omega) (fun V1 v1 f1 => ?_) 8 V' (by omega) (fun k a b => ?_) (fun _ _ _ => rfl)⟩
        · rw [f1 50 1 (by omega), ha, wrL_id (by omega)]
          refine ih _ _ _ ws (fun k a b => ?_) ?_ (fun c j p1 p2 => ?_) q
          · rw [vset_cell (by decide)]
            exact v1 k a b
          · rw [vset_same]
          · rw [vset_cell p1, f1 c j p2]
            exact fr c j p1 p2
        · rw [if_neg (by omega)]
          exact hv k a b
      refine ⟨by omega, by omega, by omega, fun z2 => ?_, fun z2 => ?_⟩
      · have e1 : s 7 (f : Int) = stF s y (f : Int) := by unfold stF; rw [if_neg z2]
        have e2 : (10 : Int) = ofF y := by unfold ofF; rw [if_neg z2]
        unfold m7_reckon_J72
        exact ⟨by omega, fun _ => J _ _ e1 e2, fun z => absurd z z2⟩
      · have e1 : s 7 (f : Int) * s 7 (f : Int) = stF s y (f : Int) := by unfold stF; rw [if_pos z2]
        have e2 : (100 : Int) = ofF y := by unfold ofF; rw [if_pos z2]
        unfold m7_reckon_J72
        exact ⟨by omega, fun z => absurd z2 z, fun _ => J _ _ e1 e2⟩
theorem x_fill {Q : zV → Prop} (q : ∀ V', (∀ k : Int, 0 ≤ k → k ≤ 8 → V' 51 k.toNat = 0) → (∀ c j, c ≠ 51 → V' c j = V c j) → Q V') : ∀ (m : Nat) (a : Int) (V' : zV), 0 ≤ a → a + m = 9 → (∀ k : Int, 0 ≤ k → k < a → V' 51 k.toNat = 0) → (∀ c j, c ≠ 51 → V' c j = V c j) → mj7_fill_L6 51 9 Q (m + 1) 0 a 9 V'
  | 0, a, V', ha, hm, hv, fr => by
    unfold mj7_fill_L6
    exact ⟨by omega, by omega, fun _ => q V' (fun k a b => hv k a (by omega)) fr, fun z => by omega⟩
  | m + 1, a, V', ha, hm, hv, fr => by
    have ih := fun V1 => x_fill q m (a + 1) V1 (by omega) (by omega)
    clear x_fill
    unfold mj7_fill_L6
    refine ⟨by omega, by omega, fun z => by omega, fun _ => ⟨by omega, by omega, ih _ (fun k p1 p2 => ?_) (fun c j z => ?_)⟩⟩
    · by_cases e : k = a
      · subst e
        rw [vset_same]
      · rw [vset_place (by omega)]
        exact hv k p1 (by omega)
    · rw [vset_cell z]
      exact fr c j z
theorem x_reckon {Q : zV → Prop} (h : cX S V 14 n s) (w : zwf n s) (hy : y = 1 ∨ y = 2) (q : ∀ V', (∀ k : Int, 0 ≤ k → k ≤ 8 → V' 51 k.toNat = wyS s y n.toNat 0 W0F k) → V' 50 1 = alF s y n.toNat 0 1 → (∀ c j, c ≠ 50 → c ≠ 51 → V' c j = V c j) → Q V') : m7_reckon S 14 V y Q := by
  have hn := wn w
  unfold m7_reckon
  refine ⟨10, x_fill (fun V1 v1 f1 => ?_) 9 0 V (by omega) (by omega) (fun k a b => by omega) (fun _ _ _ => rfl)⟩
  refine ⟨n.toNat + 1, x_reckon_L h w hy n.toNat 0 W0F 1 _ (by omega) ws_0 (fun k a b => ?_) ?_ (fun c j p1 p2 => ?_) q⟩
  · rw [vset_cell (by decide)]
    unfold W0F
    by_cases e : k = 0
    · subst e
      rw [vset_same, if_pos rfl]
    · rw [vset_place (by omega), if_neg e]
      exact v1 k a b
  · rw [vset_same]
  · rw [vset_cell p1, vset_cell p2]
    exact f1 c j p2
/-- what left tells -/
def lfT (n : Int) (s : zS) (y k t : Int) : Int := if t = 0 then wyS s y n.toNat 0 W0F k / ((Nat.gcd (wyS s y n.toNat 0 W0F k).toNat (alF s y n.toNat 0 1).toNat : Nat) : Int) else alF s y n.toNat 0 1 / ((Nat.gcd (wyS s y n.toNat 0 W0F k).toNat (alF s y n.toNat 0 1).toNat : Nat) : Int)
theorem x_low {Q : Int → zV → Prop} {num up low : Int} (hu : 0 ≤ up ∧ up ≤ 10000000000000000) (hl : 0 < low ∧ low ≤ 10000000000000000) (hn : 0 ≤ num ∧ num ≤ 10000000000000000) (e : V 50 1 = low) (q : Q (num / ((Nat.gcd up.toNat low.toNat : Nat) : Int)) V) : m7_inLowest S V num up Q := by
  unfold m7_inLowest
  rw [e]
  have c : m7_commonDivisor S V ((up.toNat : Nat) : Int) ((low.toNat : Nat) : Int) (fun r5 V5 => (inL r5) ∧ ((¬ r5 = 0 → ((0 ≤ num ∧ num < 9223372036854775808) ∧ 0 < r5 ∧ r5 < 9223372036854775808) ∧ Q (num / r5) V5) ∧ (r5 = 0 → Q num V5))) := by
    have g0 : 0 < Nat.gcd up.toNat low.toNat := Nat.gcd_pos_of_pos_right _ (by omega)
    have g1 : Nat.gcd up.toNat low.toNat ≤ low.toNat := Nat.gcd_le_right _ (by omega)
    refine x_cd (by omega) (by omega) (by omega) ?_
    exact ⟨by omega, fun _ => ⟨by omega, q⟩, fun z => by omega⟩
  rw [show ((up.toNat : Nat) : Int) = up from by omega, show ((low.toNat : Nat) : Int) = low from by omega] at c
  exact c
theorem x_left {Q : Int → zV → Prop} (h : cX S V 14 n s) (w : zwf n s) {k t : Int} (hy : y = 1 ∨ y = 2) (hk : 0 ≤ k ∧ k ≤ 8) (ht : t = 0 ∨ t = 1) (hn : 0 < n) (q : ∀ V', fS V V' → Q (lfT n s y k t) V') : m11_left S V y k t Q := by
  unfold m11_left
  have hn8 := wn w
  have ws := ws_all (y := y) w
  have b8 := bd_le (f := n.toNat) (by omega)
  have w1 := ws.1 k hk.1 hk.2
  have w2 := ws.2
  refine ⟨by omega, fun z => by omega, fun _ => ⟨fun z => by omega, fun _ => ⟨by omega, fun z => by omega, fun _ => ⟨fun z => by omega, fun _ => x_isBit (by omega) (fun r hr r1 r2 => ?_)⟩⟩⟩⟩
  unfold isBS at hr
  rw [if_pos ht] at hr
  refine ⟨by omega, fun _ => x_hasList (x_n h) (fun r' hr' _ _ => ?_), fun z => by omega⟩
  rw [if_pos hn] at hr'
  refine ⟨by omega, fun _ => x_reckon h w hy (fun V1 v1 a1 f1 => ?_), fun z => by omega⟩
  have ev := v1 k hk.1 hk.2
  have f : fS V V1 := fun c j z => f1 c j (by unfold sc at z; omega) (by unfold sc at z; omega)
  refine ⟨by omega, fun z => ?_, fun z => ?_⟩
  · unfold m7_below m7_waysOf
    rw [ev, a1]
    refine ⟨by omega, fun z => by omega, fun _ => ⟨fun z => by omega, fun _ => ⟨by omega, x_low (by omega) ?_ ?_ a1 ?_⟩⟩⟩
    · omega
    · omega
    · have g := q V1 f
      unfold lfT at g
      rw [if_neg z] at g
      exact g
  · unfold m7_above m7_waysOf
    refine ⟨by omega, fun z => by omega, fun _ => ⟨fun z => by omega, fun _ => ⟨by omega, ⟨by omega, fun z => by omega, fun _ => ⟨fun z => by omega, fun _ => ⟨by omega, x_low (by omega) ?_ ?_ a1 ?_⟩⟩⟩⟩⟩⟩
    · omega
    · omega
    · have g := q V1 f
      unfold lfT at g
      rw [if_pos z, ← ev] at g
      exact g
end LEFTX
