/-! ===== the digest ===== -/
def fdH (g : Int → Int) : Nat → Int → Int → Int
  | 0, _, h => h
  | m + 1, i, h => fdH g m (i + 1) (31 * h + g i)
def d1H (n : Int) (s : zS) : Nat → Int → Int → Int
  | 0, _, h => h
  | m + 1, f, h => d1H n s m (f + 1) (fdH (abS n s f) 9 0 h)
def d2H (V : zV) (n : Int) (s : zS) : Nat → Int → Int → Int
  | 0, _, h => h
  | m + 1, p, h => d2H V n s m (p + 1) (fdH (peT V n s p) 6 0 h)
def d3H (n : Int) (s : zS) : Nat → Int → Int → Int
  | 0, _, h => h
  | m + 1, k, h => d3H n s m (k + 1) (if k / 6 = k % 6 then h else 31 * h + mhS n s (k / 6) (k % 6))
def d4H (V : zV) (n : Int) (s : zS) (t h : Int) : Int := if 0 < n then 31 * (31 * (31 * (31 * h + mrF t 0) + mrF t 1) + lapT V n s 0) + lapT V n s 1 else h
def dgH (V : zV) (n : Int) (s : zS) (t : Int) : Int := fdH (cntR V n s) 9 0 (fdH (cdS V) (V 1 1).toNat 0 (d4H V n s t (d3H n s 36 0 (d2H V n s 6 0 (d1H n s n.toNat 0 751)))))
theorem fdH_s (g : Int → Int) (m : Nat) (i h : Int) : fdH g (m + 1) i h = fdH g m (i + 1) (31 * h + g i) := rfl
theorem d1H_s (n : Int) (s : zS) (m : Nat) (f h : Int) : d1H n s (m + 1) f h = d1H n s m (f + 1) (fdH (abS n s f) 9 0 h) := rfl
theorem d2H_s (V : zV) (n : Int) (s : zS) (m : Nat) (p h : Int) : d2H V n s (m + 1) p h = d2H V n s m (p + 1) (fdH (peT V n s p) 6 0 h) := rfl
theorem d3H_s (n : Int) (s : zS) (m : Nat) (k h : Int) : d3H n s (m + 1) k h = d3H n s m (k + 1) (if k / 6 = k % 6 then h else 31 * h + mhS n s (k / 6) (k % 6)) := rfl
theorem d3H_a (n : Int) (s : zS) (m' : Nat) : ∀ (m : Nat) (k h : Int), d3H n s (m + m') k h = d3H n s m' (k + m) (d3H n s m k h)
  | 0, k, h => by
    rw [Nat.zero_add, show k + ((0 : Nat) : Int) = k from by omega]
    rfl
  | m + 1, k, h => by
    rw [show m + 1 + m' = (m + m') + 1 from by omega, d3H_s, d3H_s, d3H_a n s m' m, show k + 1 + (m : Int) = k + ((m + 1 : Nat) : Int) from by omega]
section SAME
variable {V V' : zV} {n : Int} {s : zS}
theorem hbT_fS (f : fS V V') {c : Nat} (hc : c = 21 ∨ c = 22) (p : Int) : hbT V' c p = hbT V c p := by
  have e1 : V' c = V c := funext (fun j => f c j (by unfold sc; omega))
  have e2 : V' 14 9 = V 14 9 := f 14 9 (by unfold sc; omega)
  have e3 : hbG V' c p = hbG V c p := funext (fun i => by unfold hbG; rw [e1])
  unfold hbT
  rw [e2, e3]
theorem peT_fS (f : fS V V') (p q : Int) : peT V' n s p q = peT V n s p q := by
  unfold peT
  rw [hbT_fS f (Or.inl rfl), hbT_fS f (Or.inr rfl)]
theorem cntR_fS (f : fS V V') (q : Int) : cntR V' n s q = cntR V n s q := by
  unfold cntR
  rw [f 14 9 (by unfold sc; omega), f 14 12 (by unfold sc; omega), f 1 1 (by unfold sc; omega), f 0 9 (by unfold sc; omega)]
theorem regS_fS (f : fS V V') (a b i : Int) : regS V' a b n s i = regS V a b n s i := by
  unfold regS
  rw [f 23 _ (by unfold sc; omega), f 24 _ (by unfold sc; omega)]
theorem fitS_fS (f : fS V V') (a b : Int) : ∀ (m : Nat) (i : Int), fitS V' n s a b m i = fitS V n s a b m i
  | 0, _ => rfl
  | m + 1, i => by
    rw [fitS_s, fitS_s, regS_fS f, fitS_fS f a b m]
theorem lapC_fS (f : fS V V') (x : Int) : lapC V' n s x = lapC V n s x := by
  unfold lapC fitT
  rw [f 14 12 (by unfold sc; omega), fitS_fS f]
theorem lapN_fS (f : fS V V') : ∀ (m : Nat) (x c : Int), lapN V' n s m x c = lapN V n s m x c
  | 0, _, _ => rfl
  | m + 1, x, c => by
    show lapN V' n s m (x + 1) (c + lapC V' n s x) = lapN V n s m (x + 1) (c + lapC V n s x)
    rw [lapC_fS f, lapN_fS f m]
theorem lapL_fS (f : fS V V') : ∀ (m : Nat) (x l : Int), lapL V' n s m x l = lapL V n s m x l
  | 0, _, _ => rfl
  | m + 1, x, l => by
    show lapL V' n s m (x + 1) (if lapC V' n s x = 1 then x else l) = lapL V n s m (x + 1) (if lapC V n s x = 1 then x else l)
    rw [lapC_fS f, lapL_fS f m]
theorem lapT_fS (f : fS V V') (a : Int) : lapT V' n s a = lapT V n s a := by
  unfold lapT
  rw [lapN_fS f, lapL_fS f]
theorem cdS_fS (f : fS V V') (i : Int) : cdS V' i = cdS V i := f 2 _ (by unfold sc; omega)
end SAME
section DIGX
variable {S : List zC} {V : zV} {B n : Int} {s : zS} {Q : Int → zV → Prop}
theorem x_d1i (I : zInv S V B n s) {k5 : Int → Int → zV → Prop} {f : Int} (hf : 0 ≤ f ∧ f < n) : ∀ (m : Nat) (i h : Int), 0 ≤ i → i + m = 9 → k5 (fdH (abS n s f) m i h) (f + 1) V → m11_foldFeuds_L20 S k5 Q (m + 1) h f i V
  | 0, i, h, hi, hm, k => by
    unfold m11_foldFeuds_L20
    exact ⟨by omega, fun _ => k, fun z => by omega⟩
  | m + 1, i, h, hi, hm, k => by
    have ih := fun h => x_d1i (k5 := k5) I hf m (i + 1) h (by omega) (by omega)
    clear x_d1i
    have hn := wn I.1
    rw [fdH_s] at k
    unfold m11_foldFeuds_L20 m11_fold
    refine ⟨by omega, fun z => by omega, fun _ => x_about I.2.1 I.1 (by omega) (by omega) (fun r hr r1 r2 => ⟨by omega, ?_⟩)⟩
    rw [hr]
    exact ih _ k
theorem x_d1 (I : zInv S V B n s) : ∀ (m : Nat) (f h : Int), 0 ≤ f → f + m = n → Q (d1H n s m f h) V → m11_foldFeuds_L5 S Q (m + 1) h f V
  | 0, f, h, hf, hm, k => by
    have e := x_n I.2.1
    have hn := wn I.1
    unfold m11_foldFeuds_L5
    exact ⟨by omega, fun _ => k, fun z => by omega⟩
  | m + 1, f, h, hf, hm, k => by
    have ih := fun h => x_d1 I m (f + 1) h (by omega) (by omega)
    clear x_d1
    have e := x_n I.2.1
    have hn := wn I.1
    rw [d1H_s] at k
    unfold m11_foldFeuds_L5
    exact ⟨by omega, fun z => by omega, fun _ => ⟨10, x_d1i I (by omega) 9 0 h (by omega) (by omega) (ih _ k)⟩⟩
theorem x_d2i (I : zInv S V B n s) {k5 : Int → Int → zV → Prop} {p : Int} (hp : 0 ≤ p ∧ p < 6) : ∀ (m : Nat) (i h : Int), 0 ≤ i → i + m = 6 → k5 (fdH (peT V n s p) m i h) (p + 1) V → m11_foldPeople_L15 S k5 Q (m + 1) h p i V
  | 0, i, h, hi, hm, k => by
    unfold m11_foldPeople_L15
    exact ⟨by omega, fun _ => k, fun z => by omega⟩
  | m + 1, i, h, hi, hm, k => by
    have ih := fun h => x_d2i (k5 := k5) I hp m (i + 1) h (by omega) (by omega)
    clear x_d2i
    rw [fdH_s] at k
    unfold m11_foldPeople_L15 m11_fold
    refine ⟨by omega, fun z => by omega, fun _ => x_tellMan I (by omega) (by omega) (fun r hr r1 r2 => ⟨by omega, ?_⟩)⟩
    rw [if_pos hp] at hr
    rw [hr]
    exact ih _ k
theorem x_d2 (I : zInv S V B n s) : ∀ (m : Nat) (f h : Int), 0 ≤ f → f + m = 6 → Q (d2H V n s m f h) V → m11_foldPeople_L5 S Q (m + 1) h f V
  | 0, f, h, hf, hm, k => by
    unfold m11_foldPeople_L5
    exact ⟨by omega, fun _ => k, fun z => by omega⟩
  | m + 1, f, h, hf, hm, k => by
    have ih := fun h => x_d2 I m (f + 1) h (by omega) (by omega)
    clear x_d2
    rw [d2H_s] at k
    unfold m11_foldPeople_L5
    exact ⟨by omega, fun z => by omega, fun _ => ⟨7, x_d2i I (by omega) 6 0 h (by omega) (by omega) (ih _ k)⟩⟩
theorem x_d3i (I : zInv S V B n s) {k5 : Int → Int → zV → Prop} {a : Int} (ha : 0 ≤ a ∧ a < 6) : ∀ (m : Nat) (i h : Int), 0 ≤ i → i + m = 6 → k5 (d3H n s m (6 * a + i) h) (a + 1) V → m11_foldHarming_L15 S k5 Q (m + 1) h a i V
  | 0, i, h, hi, hm, k => by
    unfold m11_foldHarming_L15
    exact ⟨by omega, fun _ => k, fun z => by omega⟩
  | m + 1, i, h, hi, hm, k => by
    have ih := fun h => x_d3i (k5 := k5) I ha m (i + 1) h (by omega) (by omega)
    clear x_d3i
    rw [d3H_s, show (6 * a + i) / 6 = a from by omega, show (6 * a + i) % 6 = i from by omega, show 6 * a + i + 1 = 6 * a + (i + 1) from by omega] at k
    unfold m11_foldHarming_L15 m11_fold m11_mayHarm
    refine ⟨by omega, fun z => by omega, fun _ => ⟨by omega, fun z => ?_, fun z => x_two (by omega) (by omega) (fun r hr r1 r2 => ?_)⟩⟩
    · rw [if_pos z] at k
      exact ih _ k
    · rw [if_neg z] at k
      unfold twoS at hr
      rw [if_pos (by omega)] at hr
      refine ⟨by omega, fun z => by omega, fun _ => x_harmT I.2.1 I.1 (by omega) (by omega) (fun v hv v1 v2 => ⟨by omega, ?_⟩)⟩
      rw [hv]
      exact ih _ k
theorem x_d3 (I : zInv S V B n s) : ∀ (m : Nat) (a h : Int), 0 ≤ a → a + m = 6 → Q (d3H n s (6 * m) (6 * a) h) V → m11_foldHarming_L5 S Q (m + 1) h a V
  | 0, a, h, ha, hm, k => by
    unfold m11_foldHarming_L5
    exact ⟨by omega, fun _ => k, fun z => by omega⟩
  | m + 1, a, h, ha, hm, k => by
    have ih := fun h => x_d3 I m (a + 1) h (by omega) (by omega)
    clear x_d3
    rw [show 6 * (m + 1) = 6 + 6 * m from by omega, d3H_a, show 6 * a + ((6 : Nat) : Int) = 6 * (a + 1) from by omega] at k
    unfold m11_foldHarming_L5
    refine ⟨by omega, fun z => by omega, fun _ => ⟨7, x_d3i I (by omega) 6 0 h (by omega) (by omega) ?_⟩⟩
    rw [show 6 * a + 0 = 6 * a from by omega]
    exact ih _ k
theorem x_d6 (I : zInv S V B n s) : ∀ (m : Nat) (i h : Int), 0 ≤ i → i + m = 9 → Q (fdH (cntR V n s) m i h) V → m11_digest_L106 S Q (m + 1) h i V
  | 0, i, h, hi, hm, k => by
    unfold m11_digest_L106
    exact ⟨by omega, fun _ => k, fun z => by omega⟩
  | m + 1, i, h, hi, hm, k => by
    have ih := fun h => x_d6 I m (i + 1) h (by omega) (by omega)
    clear x_d6
    rw [fdH_s] at k
    unfold m11_digest_L106 m11_fold
    refine ⟨by omega, fun z => by omega, fun _ => x_count I (by omega) (fun r hr r1 r2 => ⟨by omega, ?_⟩)⟩
    rw [hr]
    exact ih _ k
theorem x_d5 (I : zInv S V B n s) : ∀ (m : Nat) (i h : Int), 0 ≤ i → i + m = V 1 1 → Q (fdH (cntR V n s) 9 0 (fdH (cdS V) m i h)) V → m11_digest_L73 S Q (m + 1) h i V
  | 0, i, h, hi, hm, k => by
    have hp := I.2.2.2.1.2.1
    unfold m11_digest_L73
    exact ⟨by omega, fun _ => ⟨10, x_d6 I 9 0 h (by omega) (by omega) k⟩, fun z => by omega⟩
  | m + 1, i, h, hi, hm, k => by
    have ih := fun h => x_d5 I m (i + 1) h (by omega) (by omega)
    clear x_d5
    have hp := I.2.2.2.1.2.1
    rw [fdH_s] at k
    unfold m11_digest_L73 m11_fold
    refine ⟨by omega, fun z => by omega, fun _ => x_codeAt I.2.2.2.1 (by omega) (fun r hr r1 r2 => ⟨by omega, ?_⟩)⟩
    rw [hr]
    exact ih _ k
theorem x_lapsed (I : zInv S V B n s) (hn : 0 < n) {a : Int} (ha : a = 0 ∨ a = 1) (k : ∀ r, r = lapT V n s a → -1 ≤ r → r ≤ 36 → Q r V) : m11_lapsed S V a Q := by
  obtain ⟨w, x, m, _, _, ⟨he, hc, hr⟩, _⟩ := id I
  unfold m11_lapsed
  refine x_isBit (by omega) (fun r hr0 r1 r2 => ?_)
  unfold isBS at hr0
  rw [if_pos ha] at hr0
  refine ⟨by omega, fun _ => x_hasList (x_n x) (fun y hy y1 y2 => ?_), fun z => by omega⟩
  rw [if_pos hn] at hy
  exact ⟨by omega, fun _ => x_lap x w hc hr (by omega) k, fun z => by omega⟩
theorem mrF_r {n : Int} {s : zS} {t a : Int} (h : isT n s t) : inR (mrF t a) := by
  obtain ⟨T, b, e⟩ := h
  have q := b.2.1 63 (by omega)
  unfold mrF
  split <;> omega
theorem x_digest (I : zInv S V B n s) (k : ∀ t V', (0 < n → isT n s t) → fS V V' → Q (dgH V n s t) V') : m11_digest S V Q := by
  have hn := wn I.1
  have hp := I.2.2.2.1.2.1
  unfold m11_digest m11_foldFeuds m11_foldPeople m11_foldHarming m11_fold
  refine ⟨n.toNat + 1, x_d1 I n.toNat 0 751 (by omega) (by omega) ⟨7, x_d2 I 6 0 _ (by omega) (by omega) ⟨7, x_d3 I 6 0 _ (by omega) (by omega) ?_⟩⟩⟩
  refine x_hasList (x_n I.2.1) (fun y hy y1 y2 => ⟨by omega, fun z => ?_, fun z => ?_⟩)
  · have n0 : ¬ 0 < n := by split at hy <;> omega
    refine ⟨(V 1 1).toNat + 1, x_d5 I (V 1 1).toNat 0 _ (by omega) (by omega) ?_⟩
    have g := k 0 V (fun z => absurd z n0) (fS_r V)
    unfold dgH d4H at g
    rw [if_neg n0] at g
    exact g
  · have n0 : 0 < n := by split at hy <;> omega
    refine x_marry I.2.1 I.1 (by omega) n0 (fun t r V1 ht hr f1 => ⟨?_, ?_⟩)
    · rw [hr]
      exact mrF_r ht
    have I1 := zInv_fS I f1
    refine x_marry I1.2.1 I.1 (by omega) n0 (fun t' r' V2 ht' hr' f2 => ⟨?_, ?_⟩)
    · rw [hr']
      exact mrF_r ht'
    have I2 := zInv_fS I1 f2
    have f := fS_t f1 f2
    have et := isT_u ht' ht
    refine x_lapsed I2 n0 (by omega) (fun u hu u1 u2 => ⟨by omega, x_lapsed I2 n0 (by omega) (fun v hv v1 v2 => ⟨by omega, ⟨(V 1 1).toNat + 1, x_d5 I2 (V 1 1).toNat 0 _ (by omega) ?_ ?_⟩⟩)⟩)
    · rw [f 1 1 (by unfold sc; omega)]
      omega
    · rw [lapT_fS f] at hu hv
      have e1 : cntR V2 n s = cntR V n s := funext (fun q => cntR_fS f q)
      have e2 : cdS V2 = cdS V := funext (fun q => cdS_fS f q)
      rw [e1, e2, hv, hu, hr', hr, et]
      have g := k t V2 (fun _ => ht) f
      unfold dgH d4H at g
      rw [if_pos n0] at g
      exact g
end DIGX
