section YEARS
variable {S : List zC} {n : Int} {Q : Int → zV → Prop}
theorem yrT_in {s : zS} (w : zwf n s) {d : Int} (hd : 0 ≤ d ∧ d < 2147483648) (q : Int) : inR (yrT n s d q) := by
  have a := tAl_in w
  have b := tMo_in w
  have c := tOp_in w
  unfold yrT
  (repeat' split) <;> omega
theorem yD_in (s : zS) (d : Int) : 0 ≤ yD n s d ∧ yD n s d < 2147483648 := by
  unfold yD
  split
  · exact nxS_in _
  · exact nxS_in _
theorem x_yr_L {a1 a3 : Int} (h1 : inR a1) (h3 : 0 ≤ a3 ∧ a3 ≤ 3) (hn : 0 < n) : ∀ (m : Nat) (i : Int) (V : zV) (s : zS) (d : Int), 0 ≤ i → i + m = a1 → cX S V 36 n s → zwf n s → V 52 0 = d → (∀ r V', r = yrT n (yrS n m s d) (yrD n m s d) a3 → (∀ c j, c < 36 ∨ 52 < c → V' c j = V c j) → Q r V') → m11_years_L59 S Q (m + 1) a1 a3 i V
  | 0, i, V, s, d, hi, hm, x, w, hd, k => by
    have k2 : ∀ r V', r = yrT n s d a3 → (∀ c j, c < 36 ∨ 52 < c → V' c j = V c j) → Q r V' := k
    unfold yrT at k2
    unfold m11_years_L59
    refine ⟨by omega, h1, fun _ => ⟨by omega, fun c => ?_, fun c => ?_, fun c => ?_, fun c => ?_⟩, fun z => by omega⟩
    · exact x_aliveT x w (fun r hr _ _ => k2 r V (by rw [hr, if_pos c]) (fun _ _ _ => rfl))
    · exact x_moneyT x w (fun r hr _ _ => k2 r V (by rw [hr, if_neg (by omega), if_pos c]) (fun _ _ _ => rfl))
    · exact x_openT x w (fun r hr _ _ => k2 r V (by rw [hr, if_neg (by omega), if_neg (by omega), if_pos c]) (fun _ _ _ => rfl))
    · exact k2 _ V (by rw [hd, if_neg (by omega), if_neg (by omega), if_neg (by omega)]) (fun _ _ _ => rfl)
  | m + 1, i, V, s, d, hi, hm, x, w, hd, k => by
    unfold m11_years_L59
    refine ⟨by omega, h1, fun z => by omega, fun _ => x_year x w hn hd (fun V1 x1 s1 g1 => ?_)⟩
    exact x_yr_L h1 h3 hn m (i + 1) V1 _ _ (by omega) (by omega) x1 (w_yS w hn d) s1 (fun r V' hr g => k r V' hr (fun c j z => (g c j z).trans (g1 c j z)))
theorem m_yr_end {V : zV} {s s0 : zS} {d a3 : Int} (x : cM V n s) (sv : cSv V n s0) (w : zwf n s) (hd : V 53 17 = d) (h3 : 0 ≤ a3 ∧ a3 ≤ 3) (k : ∀ r V', r = yrT n s d a3 → cM V' n s0 → frM V V' → Q r V') : ∀ (m : Nat) (a i : Int), 0 ≤ i → i + m = 6 → a + sumI (s 0) m i = tMo s → m12_years_L160 Q (m + 1) a3 a i V
  | 0, a, i, hi, hm, he => by
    have hn := wn w
    have e0 := sumI_0 (s 0) i
    unfold yrT at k
    unfold m12_years_L160 m12_years_J224
    refine ⟨by omega, fun _ => ⟨by omega, fun c => ⟨fun c1 => ⟨fun c2 => ?_, fun c2 => ?_⟩, fun c1 => ?_⟩, fun c => ?_⟩, fun z => by omega⟩
    · exact m_layBack sv hn.2 (fun V' m' _ f' => k _ V' (by rw [hd, if_neg (by omega), if_neg (by omega), if_neg (by omega)]) m' f')
    · exact m_openT x w (fun r hr _ _ => m_layBack sv hn.2 (fun V' m' _ f' => k _ V' (by rw [hr, if_neg (by omega), if_neg (by omega), if_pos c2]) m' f'))
    · exact m_layBack sv hn.2 (fun V' m' _ f' => k _ V' (by rw [if_neg (by omega), if_pos c1]; omega) m' f')
    · exact m_aliveT x w (fun r hr _ _ => m_layBack sv hn.2 (fun V' m' _ f' => k _ V' (by rw [hr, if_pos c]) m' f'))
  | m + 1, a, i, hi, hm, he => by
    have e0 := m_0 x (p := i) hi (by omega)
    rw [sumI_s] at he
    unfold m12_years_L160
    refine ⟨by omega, fun z => by omega, fun _ => ⟨by omega, ?_⟩⟩
    exact m_yr_end x sv w hd h3 k m _ (i + 1) (by omega) (by omega) (by omega)
theorem m_yr_L {a1 a3 : Int} {s0 : zS} (h1 : inR a1) (h3 : 0 ≤ a3 ∧ a3 ≤ 3) (hn : 0 < n) : ∀ (m : Nat) (i : Int) (V : zV) (s : zS) (d : Int), 0 ≤ i → i + m = a1 → cM V n s → cSv V n s0 → zwf n s → V 53 17 = d → (∀ r V', r = yrT n (yrS n m s d) (yrD n m s d) a3 → cM V' n s0 → (∀ c j, ¬ (c = 53 ∧ j = 17) → c ≠ 56 → c ≠ 57 → V' c j = V c j) → Q r V') → m12_years_L53 Q (m + 1) a1 a3 i V
  | 0, i, V, s, d, hi, hm, x, sv, w, hd, k => by
    unfold m12_years_L53
    refine ⟨by omega, h1, fun _ => ⟨6 + 1, m_yr_end x sv w hd h3 (fun r V' hr m' f' => k r V' hr m' (fun c j _ z1 z2 => f' c j z1 z2)) 6 0 0 (by omega) (by omega) (Int.zero_add _)⟩, fun z => by omega⟩
  | m + 1, i, V, s, d, hi, hm, x, sv, w, hd, k => by
    have ih := fun V1 x1 sv1 s1 kk => m_yr_L (s0 := s0) h1 h3 hn m (i + 1) V1 (yS n s d) (yD n s d) (by omega) (by omega) x1 sv1 (w_yS w hn d) s1 kk
    clear m_yr_L
    unfold m12_years_L53
    refine ⟨by omega, h1, fun z => by omega, fun _ => m_year x w hn hd (fun V1 x1 s1 g1 => ih V1 x1 (cSv_fr sv (g1 _ _ (by omega) (by omega) (by omega)) (fun j => g1 _ _ (by omega) (by omega) (by omega)) (fun j => g1 _ _ (by omega) (by omega) (by omega))) s1 (fun r V' hr m' g => k r V' hr m' (fun c j z z1 z2 => (g c j z z1 z2).trans (g1 c j z z1 z2))))⟩
theorem yr_in (hn : 0 < n) {s : zS} (w : zwf n s) (q : Int) : ∀ (m : Nat) (s : zS) (d : Int), zwf n s → 0 ≤ d ∧ d < 2147483648 → inR (yrT n (yrS n m s d) (yrD n m s d) q)
  | 0, s, d, w, hd => yrT_in w hd q
  | m + 1, s, d, w, hd => yr_in hn w q m _ _ (w_yS w hn d) (yD_in s d)
theorem op_years {V : zV} {B : Int} {s : zS} {K : zV → Prop} (I : zInv S V B n s) {a b t : Int} (ha : inR a) (hb : inR b) (ht : inR t) (k : ∀ V', zInv S V' B n s → K V') : m11_years S V a b t (fun r V1 => m12_years V1 a b t (fun r' V2 => inR r ∧ inR r' ∧ ((r = r' → K V2) ∧ (¬ r = r' → False)))) := by
  obtain ⟨w, x, m, _⟩ := id I
  have hn := wn w
  have bad : ∀ y : Int, inR y → inR y ∧ inR y ∧ ((y = y → K V) ∧ (¬ y = y → False)) := fun y hy => fin2 rfl rfl hy (k V I)
  unfold m11_years m12_years
  have M1 : ∀ (V1 : zV) (Q' : Int → zV → Prop) (R : zV → Prop), ¬ (1 ≤ a ∧ a ≤ 60) → Q' (-102) V1 → m12_in V1 a 1 60 (fun r6 V6 => (inR r6) ∧ ((r6 = 0 → Q' (-102) V6) ∧ (¬ r6 = 0 → R V6))) := fun V1 Q' R c kk => m_in ha (by omega) (by omega) (fun y hy _ _ => ⟨by omega, fun _ => kk, fun q => by rw [if_neg c] at hy; omega⟩)
  refine ⟨ha, fun c => ⟨ha, M1 V (fun r' V2 => inR (-102 : Int) ∧ inR r' ∧ (((-102 : Int) = r' → K V2) ∧ (¬ (-102 : Int) = r' → False))) _ (by omega) (bad _ (by omega))⟩, fun c => ⟨fun d => ⟨ha, M1 V (fun r' V2 => inR (-102 : Int) ∧ inR r' ∧ (((-102 : Int) = r' → K V2) ∧ (¬ (-102 : Int) = r' → False))) _ (by omega) (bad _ (by omega))⟩, fun d => ⟨hb, fun e => ?_, fun e => ⟨ht, fun g => ?_, fun g => ⟨fun u => x_hasList (x_n x) (fun z hz z1 z2 => ⟨by omega, fun v => ?_, fun v => ?_⟩), fun u => ?_⟩⟩⟩⟩⟩
  · exact ⟨ha, m_in ha (by omega) (by omega) (fun y hy _ _ => ⟨by omega, fun q => by rw [if_pos (by omega)] at hy; omega, fun _ => ⟨hb, fun _ => bad _ (by omega), fun q => by omega⟩⟩)⟩
  · exact ⟨ha, m_in ha (by omega) (by omega) (fun y hy _ _ => ⟨by omega, fun q => by rw [if_pos (by omega)] at hy; omega, fun _ => ⟨hb, fun q => by omega, fun _ => ⟨ht, m_in ht (by omega) (by omega) (fun y2 hy2 _ _ => ⟨by omega, fun q => by rw [if_neg (by omega)] at hy2; omega, fun _ => bad _ (by omega)⟩)⟩⟩⟩)⟩
  · have c0 : 0 < n := by split at hz <;> omega
    refine x_copy (by omega) (fun V1 hc => ⟨a.toNat + 1, x_yr_L ha ⟨g, u⟩ c0 a.toNat 0 _ s b (by omega) (by omega) (cX_fr (cX_cp hc (by omega) x) (vset_cell (by omega)) (fun c j _ _ => vset_cell (by omega))) w vset_same (fun r V2 hr g2 => ?_)⟩)
    have G : ∀ c j, c < 36 ∨ 52 < c → V2 c j = V c j := fun c j z => by
      rw [g2 c j z, vset_cell (by omega)]
      exact hc.1 c j (by omega)
    have m2 : cM V2 n s := cM_fr m (G _ _ (by omega)) (fun j => G _ _ (by omega)) (fun j => G _ _ (by omega))
    refine ⟨ha, m_in ha (by omega) (by omega) (fun y hy _ _ => ⟨by omega, fun q => by rw [if_pos (by omega)] at hy; omega, fun _ => ⟨hb, fun q => by omega, fun _ => ⟨ht, m_in ht (by omega) (by omega) (fun y2 hy2 _ _ => ⟨by omega, fun _ => m_lacks (m_n m2) hn.1 (fun y3 hy3 _ _ => ⟨by omega, fun _ => m_save m2 hn.2 (fun V3 m3 s3 f3 _ => ?_), fun q => by rw [if_pos c0] at hy3; omega⟩), fun q => by rw [if_pos (by omega)] at hy2; omega⟩)⟩⟩⟩)⟩
    refine ⟨a.toNat + 1, m_yr_L ha ⟨g, u⟩ c0 a.toNat 0 _ s b (by omega) (by omega) (cM_fr m3 (vset_place (by decide)) (fun j => vset_cell (by omega)) (fun j => vset_cell (by omega))) (cSv_fr s3 (vset_place (by decide)) (fun j => vset_cell (by omega)) (fun j => vset_cell (by omega))) w vset_same (fun r' V4 hr' m4 g4 => ?_)⟩
    refine fin2 hr hr' (yr_in c0 w t a.toNat s b w (by omega)) (k V4 (zInv_sc I (fS2_t (fun c j z _ _ => G c j (by unfold sc at z; omega)) (fS2_t (fS2_S f3) ?_)) m4))
    intro c j z z1 z2
    rw [g4 c j (by unfold sc at z; omega) z1 z2, vset_at, if_neg (by unfold sc at z; omega)]
  · have c0 : ¬ 0 < n := by split at hz <;> omega
    exact ⟨ha, m_in ha (by omega) (by omega) (fun y hy _ _ => ⟨by omega, fun q => by rw [if_pos (by omega)] at hy; omega, fun _ => ⟨hb, fun q => by omega, fun _ => ⟨ht, m_in ht (by omega) (by omega) (fun y2 hy2 _ _ => ⟨by omega, fun _ => m_lacks (m_n m) hn.1 (fun y3 hy3 _ _ => ⟨by omega, fun q => by rw [if_neg c0] at hy3; omega, fun _ => bad _ (by omega)⟩), fun q => by rw [if_pos (by omega)] at hy2; omega⟩)⟩⟩⟩)⟩
  · exact ⟨ha, m_in ha (by omega) (by omega) (fun y hy _ _ => ⟨by omega, fun q => by rw [if_pos (by omega)] at hy; omega, fun _ => ⟨hb, fun q => by omega, fun _ => ⟨ht, m_in ht (by omega) (by omega) (fun y2 hy2 _ _ => ⟨by omega, fun q => by rw [if_neg (by omega)] at hy2; omega, fun _ => bad _ (by omega)⟩)⟩⟩⟩)⟩
end YEARS
