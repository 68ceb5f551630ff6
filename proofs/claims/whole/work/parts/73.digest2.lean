/-! ===== the digest, by the plain model ===== -/
theorem wrL_w (x : Int) : wrL (wrL x) = wrL x := wrL_id (wrL_in x)
theorem wrL_31 (x v : Int) : wrL (31 * wrL x + v) = wrL (31 * x + v) := by
  have e : Int64.ofInt (wrL x) = Int64.ofInt x := Int64.ofInt_toInt _
  unfold wrL at *
  rw [Int64.ofInt_add, Int64.ofInt_mul, e, ← Int64.ofInt_mul, ← Int64.ofInt_add]
/-- the hash so far, and nothing else has changed -/
def hsM (V V' : zV) (h : Int) : Prop := fS V V' ∧ V' 53 25 = wrL h
section DIGM
variable {S : List zC} {V : zV} {B n : Int} {s : zS}
theorem m_say {V' : zV} {h v : Int} {Q : zV → Prop} (e : hsM V V' h) (q : ∀ V'', hsM V V'' (31 * h + v) → Q V'') : m12_say V' v Q := by
  unfold m12_say
  refine q _ ⟨fS_s e.1 (by unfold sc; omega), ?_⟩
  rw [vset_same, e.2, wrL_31]
variable {Q : Int → zV → Prop}
theorem m_d1i (I : zInv S V B n s) {k9 : Int → zV → Prop} {f : Int} (hf : 0 ≤ f ∧ f < n) : ∀ (m : Nat) (i h : Int) (V' : zV), 0 ≤ i → i + m = 9 → hsM V V' h → (∀ V'', hsM V V'' (fdH (abS n s f) m i h) → k9 (f + 1) V'') → m12_digest_L19 k9 Q (m + 1) f i V'
  | 0, i, h, V', hi, hm, e, k => by
    unfold m12_digest_L19
    exact ⟨by omega, fun _ => k V' e, fun z => by omega⟩
  | m + 1, i, h, V', hi, hm, e, k => by
    have ih := fun h V' => m_d1i (k9 := k9) I hf m (i + 1) h V' (by omega) (by omega)
    clear m_d1i
    have I1 := zInv_fS I e.1
    rw [fdH_s] at k
    unfold m12_digest_L19
    refine ⟨by omega, fun z => by omega, fun _ => m_tell I1.2.2.1 I.1 hf (by omega) (fun r hr r1 r2 => ⟨by omega, ?_⟩)⟩
    rw [hr]
    exact m_say e (fun V'' e2 => ih _ V'' e2 k)
theorem m_d1 (I : zInv S V B n s) (k : ∀ h V'', h = d1H n s n.toNat 0 751 → hsM V V'' h → ∃ nn, m12_digest_L50 Q nn 0 V'') : ∀ (m : Nat) (f h : Int) (V' : zV), 0 ≤ f → f + m = n → hsM V V' h → d1H n s m f h = d1H n s n.toNat 0 751 → m12_digest_L9 Q (m + 1) f V'
  | 0, f, h, V', hf, hm, e, eh => by
    have I1 := zInv_fS I e.1
    have e5 := m_n I1.2.2.1
    have hn := wn I.1
    unfold m12_digest_L9
    exact ⟨by omega, fun _ => k h V' eh e, fun z => by omega⟩
  | m + 1, f, h, V', hf, hm, e, eh => by
    have ih := fun h V' => m_d1 I k m (f + 1) h V' (by omega) (by omega)
    clear m_d1
    have I1 := zInv_fS I e.1
    have e5 := m_n I1.2.2.1
    have hn := wn I.1
    rw [d1H_s] at eh
    unfold m12_digest_L9
    exact ⟨by omega, fun z => by omega, fun _ => ⟨10, m_d1i I (by omega) 9 0 h V' (by omega) (by omega) e (fun V'' e2 => ih _ V'' e2 eh)⟩⟩
theorem m_d2i (I : zInv S V B n s) {k9 : Int → zV → Prop} {p : Int} (hp : 0 ≤ p ∧ p < 6) : ∀ (m : Nat) (i h : Int) (V' : zV), 0 ≤ i → i + m = 6 → hsM V V' h → (∀ V'', hsM V V'' (fdH (peT V n s p) m i h) → k9 (p + 1) V'') → m12_digest_L58 k9 Q (m + 1) p i V'
  | 0, i, h, V', hi, hm, e, k => by
    unfold m12_digest_L58
    exact ⟨by omega, fun _ => k V' e, fun z => by omega⟩
  | m + 1, i, h, V', hi, hm, e, k => by
    have ih := fun h V' => m_d2i (k9 := k9) I hp m (i + 1) h V' (by omega) (by omega)
    clear m_d2i
    have I1 := zInv_fS I e.1
    rw [fdH_s] at k
    unfold m12_digest_L58
    refine ⟨by omega, fun z => by omega, fun _ => m_tellMan I1 hp (by omega) (fun r hr r1 r2 => ⟨by omega, ?_⟩)⟩
    rw [hr, peT_fS e.1]
    exact m_say e (fun V'' e2 => ih _ V'' e2 k)
theorem m_d2 (I : zInv S V B n s) {hh : Int} (k : ∀ h V'', h = hh → hsM V V'' h → ∃ nn, m12_digest_L89 Q nn 0 V'') : ∀ (m : Nat) (f h : Int) (V' : zV), 0 ≤ f → f + m = 6 → hsM V V' h → d2H V n s m f h = hh → m12_digest_L50 Q (m + 1) f V'
  | 0, f, h, V', hf, hm, e, eh => by
    unfold m12_digest_L50
    exact ⟨by omega, fun _ => k h V' eh e, fun z => by omega⟩
  | m + 1, f, h, V', hf, hm, e, eh => by
    have ih := fun h V' => m_d2 I k m (f + 1) h V' (by omega) (by omega)
    clear m_d2
    rw [d2H_s] at eh
    unfold m12_digest_L50
    exact ⟨by omega, fun z => by omega, fun _ => ⟨7, m_d2i I (by omega) 6 0 h V' (by omega) (by omega) e (fun V'' e2 => ih _ V'' e2 eh)⟩⟩
theorem m_d6 (I : zInv S V B n s) {hh : Int} (k : ∀ r V'', r = wrL hh → fS V V'' → Q r V'') : ∀ (m : Nat) (i h : Int) (V' : zV), 0 ≤ i → i + m = 9 → hsM V V' h → fdH (cntR V n s) m i h = hh → m12_digest_L205 Q (m + 1) i V'
  | 0, i, h, V', hi, hm, e, eh => by
    have eh : h = hh := eh
    unfold m12_digest_L205
    exact ⟨by omega, fun _ => k _ V' (by rw [e.2, eh]) e.1, fun z => by omega⟩
  | m + 1, i, h, V', hi, hm, e, eh => by
    have ih := fun h V' => m_d6 I k m (i + 1) h V' (by omega) (by omega)
    clear m_d6
    have I1 := zInv_fS I e.1
    rw [fdH_s] at eh
    unfold m12_digest_L205
    refine ⟨by omega, fun z => by omega, fun _ => m_count I1 (by omega) (fun r hr r1 r2 => ⟨by omega, ?_⟩)⟩
    rw [hr, cntR_fS e.1]
    exact m_say e (fun V'' e2 => ih _ V'' e2 eh)
theorem m_d5 (I : zInv S V B n s) {hh : Int} (k : ∀ r V'', r = wrL hh → fS V V'' → Q r V'') : ∀ (m : Nat) (i h : Int) (V' : zV), 0 ≤ i → i + m = V 1 1 → hsM V V' h → fdH (cntR V n s) 9 0 (fdH (cdS V) m i h) = hh → m12_digest_L178 Q (m + 1) i V'
  | 0, i, h, V', hi, hm, e, eh => by
    have hp := I.2.2.2.1
    have hp2 := hp.2.1
    have e1 : V' 53 1 = V 1 1 := (e.1 53 1 (by unfold sc; omega)).trans hp.1
    unfold m12_digest_L178
    exact ⟨by omega, fun _ => ⟨10, m_d6 I k 9 0 h V' (by omega) (by omega) e eh⟩, fun z => by omega⟩
  | m + 1, i, h, V', hi, hm, e, eh => by
    have ih := fun h V' => m_d5 I k m (i + 1) h V' (by omega) (by omega)
    clear m_d5
    have hp := I.2.2.2.1
    have hp2 := hp.2.1
    have e1 : V' 53 1 = V 1 1 := (e.1 53 1 (by unfold sc; omega)).trans hp.1
    have ec : V' 54 i.toNat = cdS V i := (e.1 54 _ (by unfold sc; omega)).trans (hp.2.2 i (by omega) (by omega)).1
    rw [fdH_s] at eh
    unfold m12_digest_L178
    refine ⟨by omega, fun z => by omega, fun _ => ⟨by omega, ?_⟩⟩
    rw [ec]
    exact m_say e (fun V'' e2 => ih _ V'' e2 eh)
theorem m_d4 (I : zInv S V B n s) {t h : Int} {V' : zV} (ht : 0 < n → isT n s t) (e : hsM V V' h) (k : ∀ V'', hsM V V'' (d4H V n s t h) → ∃ nn, m12_digest_L178 Q nn 0 V'') : m12_lacks V' (fun r130 V130 => (inR r130) ∧ ((¬ r130 = 0 → ∃ nn38, m12_digest_L178 Q nn38 0 V130) ∧ (r130 = 0 → m12_marryOf V130 0 (fun r139 V139 => (inR r139) ∧ m12_say V139 r139 (fun V143 => m12_marryOf V143 1 (fun r149 V149 => (inR r149) ∧ m12_say V149 r149 (fun V153 => m12_lapsedOf V153 0 (fun r159 V159 => (inR r159) ∧ m12_say V159 r159 (fun V163 => m12_lapsedOf V163 1 (fun r169 V169 => (inR r169) ∧ m12_say V169 r169 (fun V173 => ∃ nn71, m12_digest_L178 Q nn71 0 V173))))))))))) := by
  have hn := wn I.1
  have I1 := zInv_fS I e.1
  have fm : ∀ (h : Int) (V1 V2 : zV), hsM V V1 h → (∀ c j, c ≠ 61 → V2 c j = V1 c j) → hsM V V2 h := fun h V1 V2 e f => ⟨fS_t e.1 (fun c j z => f c j (by unfold sc at z; omega)), (f 53 25 (by decide)).trans e.2⟩
  unfold d4H at k
  refine m_lacks (m_n I1.2.2.1) hn.1 (fun y hy y1 y2 => ⟨by omega, fun z => ?_, fun z => ?_⟩)
  · have n0 : ¬ 0 < n := by split at hy <;> omega
    rw [if_neg n0] at k
    exact k V' e
  · have n0 : 0 < n := by split at hy <;> omega
    rw [if_pos n0] at k
    refine m_marryOf I1.2.2.1 I.1 (by omega) (ht n0) (fun r V1 hr r1 r2 f1 => ⟨by omega, m_say (fm _ _ _ e f1) (fun V2 e2 => ?_)⟩)
    have I2 := zInv_fS I e2.1
    refine m_marryOf I2.2.2.1 I.1 (by omega) (ht n0) (fun u V3 hu u1 u2 f3 => ⟨by omega, m_say (fm _ _ _ e2 f3) (fun V4 e4 => ?_)⟩)
    obtain ⟨w, x4, m4, _, _, ⟨q1, q2, q3⟩, _⟩ := zInv_fS I e4.1
    refine m_lap m4 w q1 q2 q3 (by omega) (fun v hv v1 v2 => ⟨by omega, m_say e4 (fun V5 e5 => ?_)⟩)
    obtain ⟨_, x5, m5, _, _, ⟨p1, p2, p3⟩, _⟩ := zInv_fS I e5.1
    refine m_lap m5 w p1 p2 p3 (by omega) (fun v' hv' v1' v2' => ⟨by omega, m_say e5 (fun V6 e6 => ?_)⟩)
    rw [lapT_fS e4.1] at hv
    rw [lapT_fS e5.1] at hv'
    rw [hv', hv, hu, hr] at e6
    exact k V6 e6
theorem m_d3 (I : zInv S V B n s) {t hh : Int} (ht : 0 < n → isT n s t) (k : ∀ V'', hsM V V'' (d4H V n s t hh) → ∃ nn, m12_digest_L178 Q nn 0 V'') : ∀ (m : Nat) (i h : Int) (V' : zV), 0 ≤ i → i + m = 36 → hsM V V' h → d3H n s m i h = hh → m12_digest_L89 Q (m + 1) i V'
  | 0, i, h, V', hi, hm, e, eh => by
    have eh : h = hh := eh
    subst eh
    unfold m12_digest_L89
    exact ⟨by omega, fun _ => m_d4 I ht e k, fun z => by omega⟩
  | m + 1, i, h, V', hi, hm, e, eh => by
    have ih := fun h V' => m_d3 I ht k m (i + 1) h V' (by omega) (by omega)
    clear m_d3
    have I1 := zInv_fS I e.1
    rw [d3H_s] at eh
    unfold m12_digest_L89
    refine ⟨by omega, fun z => by omega, fun _ => ⟨by omega, by omega, by omega, by omega, fun z => ?_, fun z => ⟨by omega, by omega, m_harmT I1.2.2.1 I.1 (by omega) (by omega) (fun r hr r1 r2 => ⟨by omega, ?_⟩)⟩⟩⟩
    · rw [if_pos z] at eh
      exact ih _ V' e eh
    · rw [if_neg z] at eh
      rw [hr]
      exact m_say e (fun V'' e2 => ih _ V'' e2 eh)
theorem m_digest (I : zInv S V B n s) {t : Int} {V1 : zV} (f1 : fS V V1) (ht : 0 < n → isT n s t) (k : ∀ r V'', r = wrL (dgH V n s t) → fS V V'' → Q r V'') : m12_digest V1 Q := by
  have hn := wn I.1
  have hp := I.2.2.2.1.2.1
  refine ⟨n.toNat + 1, m_d1 I (fun h1 V2 eh1 e2 => ⟨7, m_d2 I (hh := d2H V n s 6 0 h1) (fun h2 V3 eh2 e3 => ⟨37, m_d3 I (hh := d3H n s 36 0 h2) ht (fun V4 e4 => ⟨(V 1 1).toNat + 1, m_d5 I (hh := dgH V n s t) k (V 1 1).toNat 0 _ V4 (by omega) (by omega) e4 ?_⟩) 36 0 h2 V3 (by omega) (by omega) e3 rfl⟩) 6 0 h1 V2 (by omega) (by omega) e2 rfl⟩) n.toNat 0 751 _ (by omega) (by omega) ⟨fS_s f1 (by unfold sc; omega), ?_⟩ rfl⟩
  · rw [eh2, eh1]
    rfl
  · rw [vset_same, wrL_id (by omega)]
theorem op_digest {K : zV → Prop} (I : zInv S V B n s) (k : ∀ V', zInv S V' B n s → K V') : m11_digest S V (fun r V1 => m12_digest V1 (fun r' V2 => (wrL r = wrL r' → K V2) ∧ (¬ wrL r = wrL r' → False))) := by
  refine x_digest I (fun t V1 ht f1 => m_digest I f1 ht (fun r V2 hr f2 => ?_))
  rw [hr, wrL_w]
  exact ⟨fun _ => k V2 (zInv_fS I f2), fun z => z rfl⟩
end DIGM
