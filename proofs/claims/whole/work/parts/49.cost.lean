/-! ===== for how little ===== -/
def fS2 (V V' : zV) : Prop := ∀ c k, ¬ sc c k → c ≠ 56 → c ≠ 57 → V' c k = V c k
theorem fS2_r (V : zV) : fS2 V V := fun _ _ _ _ _ => rfl
theorem fS2_t {V V1 V2 : zV} (h : fS2 V V1) (k : fS2 V1 V2) : fS2 V V2 := fun c j q a b => (k c j q a b).trans (h c j q a b)
theorem fS2_X {V V' : zV} (h : frX 36 V V') : fS2 V V' := fun c j q _ _ => h c j (by unfold sc at q; omega)
theorem fS2_M {V V' : zV} (h : frM V V') : fS2 V V' := fun c j _ a b => h c j a b
theorem fS2_S {V V' : zV} (h : fS V V') : fS2 V V' := fun c j q _ _ => h c j q
theorem fS2_C {V V' : zV} {o1 : Nat} (h : isCp 36 o1 V V') : fS2 V V' := fun c j q _ _ => h.1 c j (by unfold sc at q; omega)
theorem zInv_sc {S : List zC} {V V' : zV} {B n : Int} {s : zS} (h : zInv S V B n s) (f : fS2 V V') (m' : cM V' n s) : zInv S V' B n s := by
  obtain ⟨w, x, m, p, hh, hr, i, q, l⟩ := h
  have g : ∀ c k, ¬ sc c k → c ≠ 56 → c ≠ 57 → V' c k = V c k := f
  refine ⟨w, cX_fr x (g _ _ (by unfold sc; omega) (by omega) (by omega)) (fun c j _ _ => g _ _ (by unfold sc; omega) (by omega) (by omega)), m', pP_fr p (g _ _ (by unfold sc; omega) (by omega) (by omega)) (g _ _ (by unfold sc; omega) (by omega) (by omega)) (fun j => g _ _ (by unfold sc; omega) (by omega) (by omega)) (fun j => g _ _ (by unfold sc; omega) (by omega) (by omega)), pH_fr hh (g _ _ (by unfold sc; omega) (by omega) (by omega)) (g _ _ (by unfold sc; omega) (by omega) (by omega)) (fun j => g _ _ (by unfold sc; omega) (by omega) (by omega)) (fun j => g _ _ (by unfold sc; omega) (by omega) (by omega)) (fun j => g _ _ (by unfold sc; omega) (by omega) (by omega)), pR_fr hr (g _ _ (by unfold sc; omega) (by omega) (by omega)) (g _ _ (by unfold sc; omega) (by omega) (by omega)) (fun j => g _ _ (by unfold sc; omega) (by omega) (by omega)) (fun j => g _ _ (by unfold sc; omega) (by omega) (by omega)) (fun j => g _ _ (by unfold sc; omega) (by omega) (by omega)), pI_fr i (fun c k z => g _ _ (by unfold icell at z; unfold sc; omega) (by unfold icell at z; omega) (by unfold icell at z; omega)), q, ?_⟩
  rw [g 0 9 (by unfold sc; omega) (by omega) (by omega)]
  exact l
/-- the model's rows, saved -/
def cSv (V : zV) (n : Int) (s : zS) : Prop := cM (vrow (vrow V 56 (V 59)) 57 (V 60)) n s
theorem cSv_fr {V V' : zV} {n : Int} {s : zS} (h : cSv V n s) (e : V' 53 5 = V 53 5) (f : ∀ j, V' 59 j = V 59 j) (g : ∀ j, V' 60 j = V 60 j) : cSv V' n s := by
  refine cM_fr h ?_ (fun j => ?_) (fun j => ?_)
  · rw [vrow_n (by decide), vrow_n (by decide), vrow_n (by decide), vrow_n (by decide)]
    exact e
  · rw [vrow_n (by decide), vrow_s, vrow_n (by decide), vrow_s]
    exact f j
  · rw [vrow_s, vrow_s]
    exact g j
theorem cSv_M {V V' : zV} {n : Int} {s : zS} (h : cSv V n s) (f : frM V V') : cSv V' n s := cSv_fr h (f _ _ (by omega) (by omega)) (fun j => f _ _ (by omega) (by omega)) (fun j => f _ _ (by omega) (by omega))
def getR (s : zS) (p f t : Int) : Int := if onS s (2 * f + t) = p then 0 else if canS s p f t = 1 then priS s f t else -1
def getS (s : zS) (p f t : Int) : zS := if onS s (2 * f + t) = p then s else if canS s p f t = 1 then sellS s p f t else s
def cosS (s : zS) (f a b : Int) : Int := if getR s a f 0 = -1 then -1 else if getR (getS s a f 0) b f 1 = -1 then -1 else getR s a f 0 + getR (getS s a f 0) b f 1
theorem canS_5 {n : Int} {s : zS} (w : zwf n s) {p f t : Int} (hf : 0 ≤ f ∧ f < 8) (h : canS s p f t = 1) : s 5 f = 0 ∧ priS s f t ≤ s 0 p ∧ s 4 (2 * f + t) = -1 := by
  have := w5 w hf.1 hf.2
  unfold canS at h
  split at h <;> omega
theorem w_get {n : Int} {s : zS} (w : zwf n s) {p f t : Int} (hp : 0 ≤ p ∧ p < 6) (hf : 0 ≤ f ∧ f < n) (ht : 0 ≤ t ∧ t ≤ 1) : zwf n (getS s p f t) := by
  have hn := wn w
  unfold getS
  split
  · exact w
  · split
    · rename_i c
      have q := canS_5 w (by omega) c
      exact w_sell w hp hf ht q.1 q.2.1
    · exact w
theorem getR_in {n : Int} {s : zS} (w : zwf n s) {p f t : Int} (hf : 0 ≤ f ∧ f < n) : -1 ≤ getR s p f t ∧ getR s p f t ≤ 21 := by
  have q := priS_in w t hf.1 hf.2
  unfold getR
  (repeat' split) <;> omega
theorem cosS_in {n : Int} {s : zS} (w : zwf n s) {f a b : Int} (ha : 0 ≤ a ∧ a < 6) (hf : 0 ≤ f ∧ f < n) : -1 ≤ cosS s f a b ∧ cosS s f a b ≤ 42 := by
  have q1 := getR_in w (p := a) (t := 0) hf
  have q2 := getR_in (w_get w (t := 0) ha hf (by omega)) (p := b) (t := 1) hf
  unfold cosS
  (repeat' split) <;> omega
section GET
variable {S : List zC} {V : zV} {o : Nat} {n : Int} {s : zS} {Q : Int → zV → Prop}
theorem x_getOn (h : cX S V o n s) (w : zwf n s) (ho : 14 ≤ o) {p f t : Int} (hp : 0 ≤ p ∧ p < 6) (hf : 0 ≤ f ∧ f < n) (ht : 0 ≤ t ∧ t ≤ 1) (k : ∀ r V', r = getR s p f t → -1 ≤ r → r ≤ 21 → cX S V' o n (getS s p f t) → frX o V V' → Q r V') : m4_getOn S o V p f t Q := by
  have hn := wn w
  unfold getR getS at k
  unfold m4_getOn
  refine x_onSide h w (by omega) ht (fun r hr r1 r2 => ⟨by omega, by omega, fun c => x_canBuy h w hp hf ht (fun y hy y1 y2 => ⟨by omega, fun d => ?_, fun d => ?_⟩), fun c => ?_⟩)
  · rw [if_neg (by omega), if_neg (by omega), if_neg (by omega), if_neg (by omega)] at k
    exact k _ _ rfl (by omega) (by omega) h (frX_r _ _)
  · rw [if_neg (by omega), if_pos (by omega), if_neg (by omega), if_pos (by omega)] at k
    exact x_sell h w ho hp hf ht (by omega) (fun v V' hv v1 v2 hx _ hf' => k v V' hv (by omega) (by omega) hx hf')
  · rw [if_pos (by omega), if_pos (by omega)] at k
    exact k _ _ rfl (by omega) (by omega) h (frX_r _ _)
theorem m_getsOn (h : cM V n s) (w : zwf n s) {p f t : Int} (hp : 0 ≤ p ∧ p < 6) (hf : 0 ≤ f ∧ f < n) (ht : 0 ≤ t ∧ t ≤ 1) (k : ∀ r V', r = getR s p f t → -1 ≤ r → r ≤ 21 → cM V' n (getS s p f t) → frM V V' → Q r V') : m12_getsOn V p f t Q := by
  have hn := wn w
  unfold getR getS at k
  unfold m12_getsOn
  refine m_onSide h w hf ht (fun r hr r1 r2 => ⟨by omega, by omega, fun c => m_canBuy h w hp hf ht (fun y hy y1 y2 => ⟨by omega, fun d => ?_, fun d => ?_⟩), fun c => ?_⟩)
  · rw [if_neg (by omega), if_neg (by omega), if_neg (by omega), if_neg (by omega)] at k
    exact k _ _ rfl (by omega) (by omega) h (frM_r _)
  · rw [if_neg (by omega), if_pos (by omega), if_neg (by omega), if_pos (by omega)] at k
    exact m_bought h w hp hf ht (by omega) (fun v V' hv v1 v2 hx _ hf' => k v V' hv (by omega) (by omega) hx hf')
  · rw [if_pos (by omega), if_pos (by omega)] at k
    exact k _ _ rfl (by omega) (by omega) h (frM_r _)
theorem sellS_r {p f t : Int} {r : Nat} {j : Int} (h0 : r ≠ 0) (h : r ≠ 3 ∨ j ≠ 2 * f + t) : sellS s p f t r j = s r j := by
  unfold sellS
  rw [iset_at, if_neg (by omega)]
  split
  · rw [iset_row h0]
  · unfold payS
    rw [iset_row h0, iset_row h0]
theorem sellS_3 {p f t : Int} : sellS s p f t 3 (2 * f + t) = p := by
  unfold sellS
  exact iset_same
theorem get_on (w : zwf n s) {p f t : Int} (hf : 0 ≤ f ∧ f < n) (h : getR s p f t ≠ -1) : onS (getS s p f t) (2 * f + t) = p := by
  have hn := wn w
  unfold getR at h
  unfold getS
  split
  · assumption
  · split
    · rename_i c
      have q := canS_5 w (by omega) c
      unfold onS
      rw [sellS_r (by decide) (Or.inl (by decide)), if_pos q.2.2, sellS_3]
    · rename_i c1 c2
      rw [if_neg c1, if_neg c2] at h
      exact absurd rfl h
theorem get_oth {p f t j : Int} (h : j ≠ 2 * f + t) : onS (getS s p f t) j = onS s j := by
  unfold getS
  split
  · rfl
  · split
    · unfold onS
      rw [sellS_r (by decide) (Or.inl (by decide)), sellS_r (by decide) (Or.inr h)]
    · rfl
theorem x_cost (h : cX S V 14 n s) (w : zwf n s) {f a b : Int} (ha : 0 ≤ a ∧ a < 6) (hb : 0 ≤ b ∧ b < 6) (hf : 0 ≤ f ∧ f < n) (k : ∀ r V', r = cosS s f a b → -1 ≤ r → r ≤ 42 → fS2 V V' → (∀ c j, c < 36 ∨ 46 < c → V' c j = V c j) → Q r V') : m11_costOfFeud S V f a b Q := by
  have qc := cosS_in w (b := b) ha hf
  unfold m11_costOfFeud
  refine x_copy (by omega) (fun V1 hc => ?_)
  have x1 := cX_cp hc (by omega) h
  have w1 := w_get w (t := 0) ha hf (by omega)
  refine x_getOn x1 w (by omega) ha hf (by omega) (fun r V2 hr r1 r2 x2 f2 => ⟨by omega, fun c => x_getOn x2 w1 (by omega) hb hf (by omega) (fun r' V3 hr' r1' r2' x3 f3 => ⟨by omega, fun d => ?_, fun d => ?_⟩), fun c => ?_⟩)
  · refine k _ _ ?_ (by omega) (by omega) (fS2_t (fS2_C hc) (fS2_t (fS2_X f2) (fS2_X f3))) (fun c j z => (f3 c j (by omega)).trans ((f2 c j (by omega)).trans (hc.1 c j (by omega))))
    unfold cosS
    rw [if_neg (by omega), if_neg (by omega), hr, hr']
  · refine k _ _ ?_ (by omega) (by omega) (fS2_t (fS2_C hc) (fS2_t (fS2_X f2) (fS2_X f3))) (fun c j z => (f3 c j (by omega)).trans ((f2 c j (by omega)).trans (hc.1 c j (by omega))))
    unfold cosS
    rw [if_neg (by omega), if_pos (by omega)]
  · refine k _ _ ?_ (by omega) (by omega) (fS2_t (fS2_C hc) (fS2_X f2)) (fun c j z => (f2 c j (by omega)).trans (hc.1 c j (by omega)))
    unfold cosS
    rw [if_pos (by omega)]
theorem m_layBack {Q : zV → Prop} {s0 : zS} (h : cSv V n s0) (hn : n ≤ 8) (k : ∀ V', cM V' n s0 → cSv V' n s0 → frM V V' → Q V') : m12_layBack V Q := by
  unfold m12_layBack
  refine m_copy (by omega) (by omega) (by omega) (m_copy (by omega) (by omega) (by omega) ?_)
  obtain ⟨W1, f1⟩ : ∃ z, z = vrow V 56 (cpz (V 59) (V 56) (56 : Int).toNat) := ⟨_, rfl⟩
  rw [← f1]
  have a1 : ∀ c, c ≠ 56 → W1 c = V c := fun c h => by rw [f1]; exact vrow_n h
  have b1 : W1 56 = cpz (V 59) (V 56) 56 := by rw [f1]; exact vrow_s _ _ _
  obtain ⟨W2, f2⟩ : ∃ z, z = vrow W1 57 (cpz (W1 60) (W1 57) (18 : Int).toNat) := ⟨_, rfl⟩
  rw [← f2]
  have a2 : ∀ c, c ≠ 57 → W2 c = W1 c := fun c h => by rw [f2]; exact vrow_n h
  have b2 : W2 57 = cpz (W1 60) (W1 57) 18 := by rw [f2]; exact vrow_s _ _ _
  have fr : frM V W2 := fun c j h1 h2 => by rw [a2 c h2, a1 c h1]
  refine k W2 (cM_frb h hn ?_ (fun j hj => ?_) (fun j hj => ?_)) (cSv_M h fr) fr
  · rw [vrow_n (by decide), vrow_n (by decide)]
    exact fr _ _ (by decide) (by decide)
  · rw [vrow_n (by decide), vrow_s, a2 _ (by decide), b1, cpz_lt hj]
  · rw [vrow_s, b2, cpz_lt hj, a1 _ (by decide)]
theorem m_save {Q : zV → Prop} (h : cM V n s) (hn : n ≤ 8) (k : ∀ V', cM V' n s → cSv V' n s → fS V V' → (∀ c j, c < 59 → V' c j = V c j) → Q V') : m12_save V Q := by
  unfold m12_save
  refine m_copy (by omega) (by omega) (by omega) (m_copy (by omega) (by omega) (by omega) ?_)
  obtain ⟨W1, f1⟩ : ∃ z, z = vrow V 59 (cpz (V 56) (V 59) (56 : Int).toNat) := ⟨_, rfl⟩
  rw [← f1]
  have a1 : ∀ c, c ≠ 59 → W1 c = V c := fun c h => by rw [f1]; exact vrow_n h
  have b1 : W1 59 = cpz (V 56) (V 59) 56 := by rw [f1]; exact vrow_s _ _ _
  obtain ⟨W2, f2⟩ : ∃ z, z = vrow W1 60 (cpz (W1 57) (W1 60) (18 : Int).toNat) := ⟨_, rfl⟩
  rw [← f2]
  have a2 : ∀ c, c ≠ 60 → W2 c = W1 c := fun c h => by rw [f2]; exact vrow_n h
  have b2 : W2 60 = cpz (W1 57) (W1 60) 18 := by rw [f2]; exact vrow_s _ _ _
  have fr : ∀ c j, c ≠ 59 → c ≠ 60 → W2 c j = V c j := fun c j h1 h2 => by rw [a2 c h2, a1 c h1]
  refine k W2 (cM_fr h (fr _ _ (by decide) (by decide)) (fun j => fr _ _ (by decide) (by decide)) (fun j => fr _ _ (by decide) (by decide))) (cM_frb h hn ?_ (fun j hj => ?_) (fun j hj => ?_)) (fun c j z => fr c j (by unfold sc at z; omega) (by unfold sc at z; omega)) (fun c j z => fr c j (by omega) (by omega))
  · rw [vrow_n (by decide), vrow_n (by decide)]
    exact fr _ _ (by decide) (by decide)
  · rw [vrow_n (by decide), vrow_s, a2 _ (by decide), b1, cpz_lt hj]
  · rw [vrow_s, b2, cpz_lt hj, a1 _ (by decide)]
theorem m_bothOn (h : cM V n s) (hs : cSv V n s) (w : zwf n s) {f a b : Int} (ha : 0 ≤ a ∧ a < 6) (hb : 0 ≤ b ∧ b < 6) (hf : 0 ≤ f ∧ f < n) (k : ∀ r V', r = cosS s f a b → -1 ≤ r → r ≤ 42 → cM V' n s → cSv V' n s → frM V V' → Q r V') : m12_bothOn V f a b Q := by
  have hn := wn w
  have qc := cosS_in w (b := b) ha hf
  have w1 := w_get w (t := 0) ha hf (by omega)
  have w2 := w_get w1 (t := 1) hb hf (by omega)
  unfold m12_bothOn m12_bothOn_J26 m12_bothOn_J59
  refine m_getsOn h w ha hf (by omega) (fun r V1 hr r1 r2 m1 f1 => ⟨by omega, fun c => m_getsOn m1 w1 hb hf (by omega) (fun r' V2 hr' r1' r2' m2 f2 => ⟨by omega, fun d => ?_, fun d => ?_⟩), fun c => ⟨by omega, fun d => ?_, fun d => absurd rfl d⟩⟩)
  · refine m_layBack (cSv_M (cSv_M hs f1) f2) hn.2 (fun V3 m3 s3 f3 => ⟨by omega, fun _ => k _ _ ?_ (by omega) (by omega) m3 s3 (frM_t f1 (frM_t f2 f3)), fun z => absurd rfl z⟩)
    unfold cosS
    rw [if_neg (by omega), if_pos (by omega)]
  · have o0 := get_on w (p := a) (t := 0) hf (by omega)
    have o1 := get_on w1 (p := b) (t := 1) hf (by omega)
    have o2 : onS (getS (getS s a f 0) b f 1) (2 * f + 0) = a := by
      rw [get_oth (by omega)]
      exact o0
    refine m_onSide m2 w2 hf (by omega) (fun y hy y1 y2 => ⟨by omega, by omega, fun z => by omega, fun _ => m_onSide m2 w2 hf (by omega) (fun z hz z1 z2 => ⟨by omega, by omega, fun u => by omega, fun _ => ?_⟩)⟩)
    refine m_layBack (cSv_M (cSv_M hs f1) f2) hn.2 (fun V3 m3 s3 f3 => ⟨by omega, fun z => by omega, fun _ => k _ _ ?_ (by omega) (by omega) m3 s3 (frM_t f1 (frM_t f2 f3))⟩)
    unfold cosS
    rw [if_neg (by omega), if_neg (by omega), hr, hr']
  · refine m_layBack (cSv_M hs f1) hn.2 (fun V3 m3 s3 f3 => ⟨by omega, fun _ => k _ _ ?_ (by omega) (by omega) m3 s3 (frM_t f1 f3), fun z => absurd rfl z⟩)
    unfold cosS
    rw [if_pos (by omega)]
end GET
