def upB (b c : Int) : Int := if c ≠ -1 ∧ (b = -1 ∨ c < b) then c else b
def upW (b u c f : Int) : Int := if c ≠ -1 ∧ (b = -1 ∨ c < b) then f else u
def chS (x y : Int) : Int := if x = -1 then y else if y = -1 then x else if y < x then y else x
theorem up_ch (b x y : Int) (hb : -1 ≤ b) (hx : -1 ≤ x) (hy : -1 ≤ y) : upB (upB b x) y = upB b (chS x y) := by
  unfold upB chS
  (repeat' split) <;> omega
theorem upw_ch (b u x y f : Int) (hb : -1 ≤ b) (hx : -1 ≤ x) (hy : -1 ≤ y) : upW (upB b x) (upW b u x f) y f = upW b u (chS x y) f := by
  unfold upW upB chS
  (repeat' split) <;> omega
def cbB (s : zS) (a1 a2 : Int) : Nat → Int → Int → Int
  | 0, _, b => b
  | m + 1, f, b => cbB s a1 a2 m (f + 1) (upB b (chS (cosS s f a1 a2) (cosS s f a2 a1)))
def cbW (s : zS) (a1 a2 : Int) : Nat → Int → Int → Int → Int
  | 0, _, _, u => u
  | m + 1, f, b, u => cbW s a1 a2 m (f + 1) (upB b (chS (cosS s f a1 a2) (cosS s f a2 a1))) (upW b u (chS (cosS s f a1 a2) (cosS s f a2 a1)) f)
def cbT (n : Int) (s : zS) (a1 a2 a3 : Int) : Int := if a3 = 0 then cbB s a1 a2 n.toNat 0 (-1) else cbW s a1 a2 n.toNat 0 (-1) (-1)
theorem chS_in {x y : Int} (hx : -1 ≤ x ∧ x ≤ 42) (hy : -1 ≤ y ∧ y ≤ 42) : -1 ≤ chS x y ∧ chS x y ≤ 42 := by
  unfold chS
  (repeat' split) <;> omega
theorem upB_in {b c : Int} (hx : -1 ≤ b ∧ b ≤ 42) (hy : -1 ≤ c ∧ c ≤ 42) : -1 ≤ upB b c ∧ upB b c ≤ 42 := by
  unfold upB
  (repeat' split) <;> omega
theorem upW_in {b u c f : Int} (hu : -1 ≤ u ∧ u ≤ 8) (hf : -1 ≤ f ∧ f ≤ 8) : -1 ≤ upW b u c f ∧ upW b u c f ≤ 8 := by
  unfold upW
  (repeat' split) <;> omega
section CB
variable {S : List zC} {n : Int} {s : zS} {Q : Int → zV → Prop}
theorem x_cb_L (w : zwf n s) {a1 a2 a3 : Int} (h1 : 0 ≤ a1 ∧ a1 < 6) (h2 : 0 ≤ a2 ∧ a2 < 6) (h3 : inR a3) : ∀ (m : Nat) (b u f : Int) (V : zV), 0 ≤ f → f + m = n → cX S V 14 n s → -1 ≤ b ∧ b ≤ 42 → -1 ≤ u ∧ u ≤ 8 → (∀ r V', r = (if a3 = 0 then cbB s a1 a2 m f b else cbW s a1 a2 m f b u) → -1 ≤ r → r ≤ 42 → fS2 V V' → (∀ c j, c < 36 ∨ 46 < c → V' c j = V c j) → Q r V') → m11_comeBy_L64 S Q (m + 1) a1 a2 a3 u b f V
  | 0, b, u, f, V, hf, hm, x, hb, hu, k => by
    have hn := wn w
    have en := x_n x
    unfold m11_comeBy_L64
    refine ⟨by omega, fun _ => ⟨h3, fun d => k _ V ?_ (by omega) (by omega) (fS2_r V) (fun _ _ _ => rfl), fun d => k _ V ?_ (by omega) (by omega) (fS2_r V) (fun _ _ _ => rfl)⟩, fun z => by omega⟩
    · rw [if_neg d]; rfl
    · rw [if_pos d]; rfl
  | m + 1, b, u, f, V, hf, hm, x, hb, hu, k => by
    have hn := wn w
    have en := x_n x
    have q1 := cosS_in w (f := f) (a := a1) (b := a2) h1 (by omega)
    have q2 := cosS_in w (f := f) (a := a2) (b := a1) h2 (by omega)
    have q3 := chS_in q1 q2
    have q4 := upB_in hb q3
    have q5 := upW_in (b := b) (u := u) (c := chS (cosS s f a1 a2) (cosS s f a2 a1)) (f := f) hu (by omega)
    unfold m11_comeBy_L64 m11_comeBy_J116
    refine ⟨by omega, fun z => by omega, fun _ => x_cost x w h1 h2 (by omega) (fun r V1 hr r1 r2 g1 e1 => ?_)⟩
    have x1 : cX S V1 14 n s := cX_fr x (e1 _ _ (by omega)) (fun c j _ _ => e1 _ _ (by omega))
    refine x_cost x1 w h2 h1 (by omega) (fun r' V2 hr' r1' r2' g2 e2 => ?_)
    have x2 : cX S V2 14 n s := cX_fr x1 (e2 _ _ (by omega)) (fun c j _ _ => e2 _ _ (by omega))
    have ih := fun b' u' z1 z2 z => x_cb_L w h1 h2 h3 m b' u' (f + 1) V2 (by omega) (by omega) x2 z1 z2 z
    clear x_cb_L
    have k2 : ∀ b' u', b' = upB b (chS r r') → u' = upW b u (chS r r') f → m11_comeBy_L64 S Q (m + 1) a1 a2 a3 u' b' (f + 1) V2 := fun b' u' hb' hu' => ih b' u' (by rw [hb', hr, hr']; exact q4) (by rw [hu', hr, hr']; exact q5) (fun v V' hv v1 v2 g3 e3 => k v V' (by rw [hv, hb', hu', hr, hr']; rfl) v1 v2 (fS2_t g1 (fS2_t g2 g3)) ?_)
    · unfold m11_cheaper
      clear ih k
      unfold upB upW chS at k2
      (repeat' (first | omega | with_reducible apply And.intro | intro _ | with_reducible refine k2 _ _ ?_ ?_ | with_reducible apply k2)) <;> ((repeat' split at *) <;> omega)
    · intro c j z
      exact (e3 c j z).trans ((e2 c j z).trans (e1 c j z))
theorem m_cb_step (w : zwf n s) {a1 a2 a3 b u f t j : Int} {V : zV} (h1 : 0 ≤ a1 ∧ a1 < 6) (h2 : 0 ≤ a2 ∧ a2 < 6) (hf : 0 ≤ f ∧ f < n) (ht : 0 ≤ t ∧ t ≤ 1) (hj : j = 2 * f + t) (x : cM V n s) (sv : cSv V n s) (hb : -1 ≤ b ∧ b ≤ 42) (m : Nat) (k : ∀ b' u' c V', c = (if t = 0 then cosS s f a1 a2 else cosS s f a2 a1) → -1 ≤ c → c ≤ 42 → b' = upB b c → u' = upW b u c f → cM V' n s → cSv V' n s → frM V V' → m12_comeBy_L63 Q m a1 a2 a3 b' u' (j + 1) V') : m12_comeBy_L63 Q (m + 1) a1 a2 a3 b u j V := by
  have hn := wn w
  have en := m_n x
  have ed : j / 2 = f := by omega
  have em : j % 2 = t := by omega
  have z5 := w5 w hf.1 (by omega)
  have st : s 5 f = 1 → cosS s f a1 a2 = -1 ∧ cosS s f a2 a1 = -1 := by
    intro c
    have z0 := wst2 w (f := f) (t := 0) hf.1 hf.2 (by omega) c
    have y : ∀ p, 0 ≤ p → getR s p f 0 = -1 := by
      intro p hp
      have o : onS s (2 * f + 0) = -1 := by
        unfold onS
        rw [if_pos z0.2]
        exact z0.1
      have cc : canS s p f 0 = 0 := by
        unfold canS
        rw [if_pos (Or.inl c)]
      unfold getR
      rw [if_neg (by omega), if_neg (by omega)]
    unfold cosS
    rw [if_pos (y _ h1.1), if_pos (y _ h2.1)]
    exact ⟨rfl, rfl⟩
  have k2 : ∀ c V', c = (if t = 0 then cosS s f a1 a2 else cosS s f a2 a1) → -1 ≤ c → c ≤ 42 → cM V' n s → cSv V' n s → frM V V' → m12_comeBy_J119 (m12_comeBy_L63 Q m) Q a1 a2 a3 b u j f c V' := by
    intro c V' hc c1 c2 m' s' f'
    have k3 := fun b' u' y y' => k b' u' c V' hc c1 c2 y y' m' s' f'
    clear k
    unfold upB upW at k3
    unfold m12_comeBy_J119 m12_comeBy_J145 m12_comeBy_J159
    refine ⟨by omega, fun d => ?_, fun d => ⟨by omega, fun e => ?_, fun e => ⟨fun g => ?_, fun g => ?_⟩⟩⟩
    · rw [if_neg (by omega), if_neg (by omega)] at k3
      exact ⟨by omega, fun _ => ⟨by omega, fun _ => k3 _ _ rfl rfl, fun z => absurd rfl z⟩, fun z => absurd rfl z⟩
    · rw [if_pos (by omega), if_pos (by omega)] at k3
      exact ⟨by omega, fun z => by omega, fun _ => ⟨by omega, fun z => by omega, fun _ => k3 _ _ rfl rfl⟩⟩
    · rw [if_neg (by omega), if_neg (by omega)] at k3
      exact ⟨by omega, fun _ => ⟨by omega, fun _ => k3 _ _ rfl rfl, fun z => absurd rfl z⟩, fun z => absurd rfl z⟩
    · rw [if_pos (by omega), if_pos (by omega)] at k3
      exact ⟨by omega, fun z => by omega, fun _ => ⟨by omega, fun z => by omega, fun _ => k3 _ _ rfl rfl⟩⟩
  unfold m12_comeBy_L63
  rw [ed, em]
  refine ⟨by omega, by omega, fun z => by omega, fun _ => ⟨by omega, m_isStruck x w hf (fun r hr r1 r2 => ⟨by omega, fun c => ⟨by omega, by omega, fun d => ?_, fun d => ?_⟩, fun c => ?_⟩)⟩⟩
  · exact m_bothOn x sv w h2 h1 hf (fun v V' hv v1 v2 m' s' f' => k2 v V' (by rw [if_neg d]; exact hv) v1 v2 m' s' f')
  · exact m_bothOn x sv w h1 h2 hf (fun v V' hv v1 v2 m' s' f' => k2 v V' (by rw [if_pos d]; exact hv) v1 v2 m' s' f')
  · have y := st (by omega)
    refine k2 (-1) V ?_ (by omega) (by omega) x sv (frM_r _)
    rw [y.1, y.2]
    split <;> rfl
theorem m_cb_L (w : zwf n s) {a1 a2 a3 : Int} (h1 : 0 ≤ a1 ∧ a1 < 6) (h2 : 0 ≤ a2 ∧ a2 < 6) (h3 : inR a3) : ∀ (m : Nat) (b u f : Int) (V : zV), 0 ≤ f → f + m = n → cM V n s → cSv V n s → -1 ≤ b ∧ b ≤ 42 → -1 ≤ u ∧ u ≤ 8 → (∀ r V', r = (if a3 = 0 then cbB s a1 a2 m f b else cbW s a1 a2 m f b u) → -1 ≤ r → r ≤ 42 → cM V' n s → frM V V' → Q r V') → m12_comeBy_L63 Q (2 * m + 1) a1 a2 a3 b u (2 * f) V
  | 0, b, u, f, V, hf, hm, x, sv, hb, hu, k => by
    have hn := wn w
    have en := m_n x
    unfold m12_comeBy_L63
    refine ⟨by omega, by omega, fun _ => ⟨h3, fun d => k _ V ?_ (by omega) (by omega) x (frM_r V), fun d => k _ V ?_ (by omega) (by omega) x (frM_r V)⟩, fun z => by omega⟩
    · rw [if_neg d]; rfl
    · rw [if_pos d]; rfl
  | m + 1, b, u, f, V, hf, hm, x, sv, hb, hu, k => by
    have hn := wn w
    rw [show 2 * (m + 1) + 1 = (2 * m + 1) + 1 + 1 from by omega]
    refine m_cb_step w h1 h2 (f := f) (t := 0) (by omega) (by omega) (by omega) x sv hb _ (fun b1 u1 c1 V1 hc1 l1 l1' hb1 hu1 m1 s1 f1 => ?_)
    have qb1 : -1 ≤ b1 ∧ b1 ≤ 42 := by rw [hb1]; exact upB_in hb ⟨l1, l1'⟩
    refine m_cb_step w h1 h2 (f := f) (t := 1) (by omega) (by omega) (by omega) m1 s1 qb1 _ (fun b2 u2 c2 V2 hc2 l2 l2' hb2 hu2 m2 s2 f2 => ?_)
    have qb2 : -1 ≤ b2 ∧ b2 ≤ 42 := by rw [hb2]; exact upB_in qb1 ⟨l2, l2'⟩
    have qu1 : -1 ≤ u1 ∧ u1 ≤ 8 := by rw [hu1]; exact upW_in hu (by omega)
    have qu2 : -1 ≤ u2 ∧ u2 ≤ 8 := by rw [hu2]; exact upW_in qu1 (by omega)
    rw [if_pos rfl] at hc1
    rw [if_neg (by omega)] at hc2
    rw [show 2 * f + 1 + 1 = 2 * (f + 1) from by omega]
    refine m_cb_L w h1 h2 h3 m b2 u2 (f + 1) V2 (by omega) (by omega) m2 s2 qb2 qu2 (fun r V' hr r1 r2 m' f' => k r V' ?_ r1 r2 m' (frM_t f1 (frM_t f2 f')))
    have e1 : b2 = upB b (chS (cosS s f a1 a2) (cosS s f a2 a1)) := by
      rw [hb2, hb1, up_ch b c1 c2 hb.1 l1 l2, hc1, hc2]
    have e2 : u2 = upW b u (chS (cosS s f a1 a2) (cosS s f a2 a1)) f := by
      rw [hu2, hu1, hb1, upw_ch b u c1 c2 f hb.1 l1 l2, hc1, hc2]
    rw [hr, e1, e2]
    rfl
theorem op_comeBy {V : zV} {B : Int} {K : zV → Prop} (I : zInv S V B n s) {a b t : Int} (ha : inR a) (hb : inR b) (ht : inR t) (k : ∀ V', zInv S V' B n s → K V') : m11_comeBy S V a b t (fun r V1 => m12_comeBy V1 a b t (fun r' V2 => inR r ∧ inR r' ∧ ((r = r' → K V2) ∧ (¬ r = r' → False)))) := by
  obtain ⟨w, x, m, _⟩ := id I
  have hn := wn w
  have bad : ∀ y : Int, inR y → inR y ∧ inR y ∧ ((y = y → K V) ∧ (¬ y = y → False)) := fun y hy => fin2 rfl rfl hy (k V I)
  unfold m11_comeBy m12_comeBy
  refine x_two ha hb (fun r hr r1 r2 => ⟨by omega, fun c => x_isBit ht (fun y hy y1 y2 => ⟨by omega, fun d => x_hasList (x_n x) (fun z hz z1 z2 => ⟨by omega, fun e => ?_, fun e => ?_⟩), fun d => ?_⟩), fun c => ?_⟩)
  · refine m_two ha hb (fun r' hr' _ _ => ⟨by omega, fun _ => ⟨ht, m_in ht (by omega) (by omega) (fun y' hy' _ _ => ⟨by omega, fun _ => m_lacks (m_n m) hn.1 (fun z' hz' _ _ => ⟨by omega, fun _ => bad _ (by omega), fun q => ?_⟩), fun q => ?_⟩)⟩, fun q => by omega⟩)
    · (repeat' split at *) <;> omega
    · simp only [isBS] at hy
      (repeat' split at *) <;> omega
  · have ct : (0 ≤ a ∧ a < 6) ∧ (0 ≤ b ∧ b < 6) ∧ a ≠ b := by
      unfold twoS at hr
      split at hr <;> omega
    have c0 : 0 < n := by split at hz <;> omega
    have cb : 0 ≤ t ∧ t ≤ 1 := by
      unfold isBS at hy
      split at hy <;> omega
    have ea := x_2 x ct.1.1 ct.1.2
    have eb := x_2 x ct.2.1.1 ct.2.1.2
    have ba := w2 w ct.1.1 ct.1.2
    have bb := w2 w ct.2.1.1 ct.2.1.2
    clear hy hz
    have M : ∀ (V1 : zV) (Q' : Int → zV → Prop), cM V1 n s → (s 2 a = 0 → Q' (-103) V1) → (¬ s 2 a = 0 → s 2 b = 0 → Q' (-103) V1) → (¬ s 2 a = 0 → ¬ s 2 b = 0 → m12_save V1 (fun V51 => ∃ nn104, m12_comeBy_L63 Q' nn104 a b t (-1) (-1) 0 V51)) → m12_arePair V1 a b (fun r2 V2 => (inR r2) ∧ ((¬ r2 = 0 → (inR t) ∧ m12_in V2 t 0 1 (fun r15 V15 => (inR r15) ∧ ((¬ r15 = 0 → m12_lacks V15 (fun r25 V25 => (inR r25) ∧ ((¬ r25 = 0 → Q' (-103) V25) ∧ (r25 = 0 → m12_isAlive V25 a (fun r33 V33 => (inR r33) ∧ ((r33 = 0 → Q' (-103) V33) ∧ (¬ r33 = 0 → m12_isAlive V33 b (fun r41 V41 => (inR r41) ∧ ((¬ r41 = 0 → m12_save V41 (fun V51 => ∃ nn104, m12_comeBy_L63 Q' nn104 a b t (-1) (-1) 0 V51)) ∧ (r41 = 0 → Q' (-103) V41)))))))))) ∧ (r15 = 0 → Q' (-102) V15)))) ∧ (r2 = 0 → Q' (-101) V2))) := by
      intro V1 Q' m1 k1 k2 k3
      refine m_two ha hb (fun r' hr' _ _ => ⟨by omega, fun _ => ⟨ht, m_in ht (by omega) (by omega) (fun y' hy' _ _ => ⟨by omega, fun _ => m_lacks (m_n m1) hn.1 (fun z' hz' _ _ => ⟨by omega, fun q => ?_, fun q => m_isAlive m1 w ct.1 (fun u hu _ _ => ⟨by omega, fun g => k1 (by omega), fun g => m_isAlive m1 w ct.2.1 (fun v hv _ _ => ⟨by omega, fun g2 => k3 (by omega) (by omega), fun g2 => k2 (by omega) (by omega)⟩)⟩)⟩), fun q => ?_⟩)⟩, fun q => by omega⟩)
      · split at hz' <;> omega
      · split at hy' <;> omega
    refine ⟨ct.1, fun g => ?_, fun g => ⟨ct.2.1, fun g2 => ?_, fun g2 => ?_⟩⟩
    · exact M V (fun r' V2 => inR (-103 : Int) ∧ inR r' ∧ (((-103 : Int) = r' → K V2) ∧ (¬ (-103 : Int) = r' → False))) m (fun _ => bad _ (by omega)) (fun q => by omega) (fun q => by omega)
    · refine ⟨n.toNat + 1, x_cb_L w ct.1 ct.2.1 ht n.toNat (-1) (-1) 0 V (by omega) (by omega) x (by omega) (by omega) (fun v V1 hv v1 v2 g1 e1 => ?_)⟩
      have m1 : cM V1 n s := cM_fr m (e1 _ _ (by omega)) (fun j => e1 _ _ (by omega)) (fun j => e1 _ _ (by omega))
      refine M V1 (fun r' V2 => inR v ∧ inR r' ∧ ((v = r' → K V2) ∧ (¬ v = r' → False))) m1 (fun q => by omega) (fun q => by omega) (fun _ _ => m_save m1 hn.2 (fun V2 m2 s2 f2 _ => ⟨2 * n.toNat + 1, m_cb_L w ct.1 ct.2.1 ht n.toNat (-1) (-1) 0 V2 (by omega) (by omega) m2 s2 (by omega) (by omega) (fun v' V3 hv' _ _ m3 f3 => ?_)⟩))
      exact fin2 (hv.trans hv'.symm) rfl (by omega) (k V3 (zInv_sc I (fS2_t g1 (fS2_t (fS2_S f2) (fS2_M f3))) m3))
    · exact M V (fun r' V2 => inR (-103 : Int) ∧ inR r' ∧ (((-103 : Int) = r' → K V2) ∧ (¬ (-103 : Int) = r' → False))) m (fun q => by omega) (fun _ _ => bad _ (by omega)) (fun q => by omega)
  · refine m_two ha hb (fun r' hr' _ _ => ⟨by omega, fun _ => ⟨ht, m_in ht (by omega) (by omega) (fun y' hy' _ _ => ⟨by omega, fun q => ?_, fun q => bad _ (by omega)⟩)⟩, fun q => by omega⟩)
    simp only [isBS] at hy
    (repeat' split at *) <;> omega
  · exact m_two ha hb (fun r' hr' _ _ => ⟨by omega, fun q => by omega, fun q => bad _ (by omega)⟩)
end CB
