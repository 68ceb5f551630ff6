/-! ===== list, one call on both sides ===== -/
theorem zInv_mono {S : List zC} {V : zV} {B B' n : Int} {s : zS} (I : zInv S V B n s) (h : B ≤ B') (h2 : B' ≤ 1000) : zInv S V B' n s := by
  obtain ⟨w, x, m, hp, hh, hr, hi, hs, hl⟩ := I
  refine ⟨w, x, m, hp, hh, hr, hi, ⟨?_, hs.2⟩, ?_⟩
  · have := hs.1
    omega
  · omega
def lsC (c j : Nat) : Prop := (c = 1 ∧ (j = 1 ∨ j = 2 ∨ j = 3)) ∨ (c = 0 ∧ (j = 8 ∨ j = 9)) ∨ (c = 3 ∧ j = 2) ∨ c = 5 ∨ (14 ≤ c ∧ c ≤ 20)
def lmC (c j : Nat) : Prop := (c = 53 ∧ (j = 1 ∨ j = 3 ∨ j = 4 ∨ j = 5 ∨ j = 6 ∨ j = 9 ∨ j = 15)) ∨ c = 55 ∨ c = 56 ∨ c = 57
theorem cM_new {V V' : zV} {k : Nat} (hg : ∀ f : Nat, f < k → rwC V V' f) (hb : bgM V' 6) (e5 : V' 53 5 = k) : cM V' k (nwS V k) := by
  refine ⟨e5, fun p a b => ?_, fun p a b => ?_, fun p t a b c d => ?_⟩
  · rw [nw0, nw1, nw2]
    exact hb p a b
  · obtain ⟨⟨g0, g1, g2⟩, _⟩ := hg p.toNat (by omega)
    rw [show ((p.toNat : Nat) : Int) = p from by omega] at g0 g1 g2
    rw [nw6, nw7, nw5]
    exact ⟨g0, g1, g2⟩
  · obtain ⟨_, g3, g4, g5, g6⟩ := hg p.toNat (by omega)
    rw [show ((p.toNat : Nat) : Int) = p from by omega] at g3 g4 g5 g6
    rw [nw3, nw4, if_pos (by omega)]
    unfold owS
    have e : t = 0 ∨ t = 1 := by omega
    rcases e with e | e
    · subst e
      rw [show ((2 * p + 0) / 2).toNat = p.toNat from by omega, show (2 * p + 0) % 2 = 0 from by omega, Int.add_zero, Int.add_zero, Int.add_zero]
      exact ⟨g3, g5⟩
    · subst e
      rw [show ((2 * p + 1) / 2).toNat = p.toNat from by omega, show (2 * p + 1) % 2 = 1 from by omega, show 7 * p + 3 + 1 = 7 * p + 4 from by omega, show 7 * p + 5 + 1 = 7 * p + 6 from by omega]
      exact ⟨g4, g6⟩
theorem zInv_new {S2 : List zC} {V V3 V6 : zV} {B : Int} {kk : Nat} (hls : lsP V kk) (hB : B ≤ 1000) (x4 : ∃ rf, S2[4]? = some (16, 8, rf)) (x68 : 68 ≤ S2.length) (xl : (S2.length : Int) ≤ 68 + 2 * B) (xfd : ∀ g : Nat, g < kk → fdA V S2 g) (e32 : V6 3 2 = kk) (g3 : ∀ c j, 14 ≤ c → c ≤ 20 → V6 c j = V3 c j) (bp : bgP V3 14 6) (bf : bgF V3 14 8) (bj : ∀ j : Int, 0 ≤ j → j < 16 → V3 18 j.toNat = (if j < 2 * (kk : Int) then owS V j else -1) ∧ V3 19 j.toNat = -1) (b9 : V3 14 9 = 0) (b12 : V3 14 12 = 0) (hm : cM V6 kk (nwS V kk)) (p1 : V6 53 1 = 0) (p2 : V6 1 1 = 0) (h9 : V6 53 9 = 0) (h15 : V6 53 15 = 0) (i8 : V6 0 8 = 0) (i6 : V6 53 6 = V6 0 9) (i18 : V6 53 18 < V6 53 6) (l9 : 0 ≤ V6 0 9 ∧ V6 0 9 ≤ B) : zInv S2 V6 B kk (nwS V kk) := by
  refine ⟨nw_wf hls, ⟨e32, fun f a b => ?_, fun p a b => ?_, fun j a b => ?_, fun f a b => ?_⟩, hm, ⟨?_, ?_, fun j a b => ?_⟩, ⟨?_, ?_, fun j a b => ?_⟩, ⟨?_, ?_, fun j a b => ?_⟩, ⟨i6, Or.inl ⟨i8, i18⟩⟩, ⟨by omega, x4⟩, l9⟩
  · rw [nw6, nw7]
    exact fdA_kd (xfd f.toNat (by omega))
  · rw [nw0, nw1, nw2, g3 _ _ (by omega) (by omega), g3 _ _ (by omega) (by omega), g3 _ _ (by omega) (by omega)]
    exact bp p a b
  · rw [nw3, nw4, g3 _ _ (by omega) (by omega), g3 _ _ (by omega) (by omega)]
    exact bj j a b
  · rw [nw5, g3 _ _ (by omega) (by omega)]
    exact bf f a b
  · rw [p1, p2]
  · omega
  · omega
  · rw [h9, g3 _ _ (by omega) (by omega), b9]
  · rw [g3 _ _ (by omega) (by omega), b9]
    omega
  · rw [g3 14 _ (by omega) (by omega), b9] at b
    omega
  · rw [h15, g3 _ _ (by omega) (by omega), b12]
  · rw [g3 _ _ (by omega) (by omega), b12]
    omega
  · rw [g3 14 _ (by omega) (by omega), b12] at b
    omega
theorem op_list {S : List zC} {V : zV} {B n : Int} {s : zS} {K : List zC → zV → Prop} (I : zInv S V B n s) (hB : B + 4 ≤ 1000) (k : ∀ S' V' n' s', zInv S' V' (B + 4) n' s' → K S' V') : m11_list S V (fun r S1 V1 => m12_list V1 (fun r' V2 => inR r ∧ inR r' ∧ ((r = r' → K S1 V2) ∧ (¬ r = r' → False)))) := by
  obtain ⟨w, x, m, hp, hh, hr, hi, hs, hl⟩ := id I
  have hs1 := hs.1
  have hp2 := hp.2.1
  unfold m11_list m8_isList
  refine x_scan hp (fun V1 e2 e3 fr => ?_)
  have e11 : V1 1 1 = V 1 1 := fr 1 1 (by omega)
  have f1 : fS V V1 := fun c j z => fr c j (by unfold sc at z; omega)
  have hg : pgM V V1 := by
    refine ⟨?_, fun i a b => ?_⟩
    · rw [fr 53 1 (by omega)]
      exact hp.1
    · rw [fr 54 _ (by omega)]
      exact hp.2.2 i a b
  have no : (scP V (V 1 1).toNat 0 0 0 = V 1 1 → scT V (V 1 1).toNat 0 0 0 ≠ 4) → m12_list V1 (fun r' V2 => inR (-103) ∧ inR r' ∧ (((-103 : Int) = r' → K S V2) ∧ (¬ (-103 : Int) = r' → False))) := by
    intro hno
    unfold m12_list
    refine m_fault hp.2.1 hg (fun r V2 hr r1 r2 f2 ed => ?_)
    have fin : inR (-103) ∧ inR (-103) ∧ (((-103 : Int) = -103 → K S V2) ∧ (¬ (-103 : Int) = -103 → False)) := by
      refine fin2 rfl rfl (by omega) (k _ _ n s (zInv_mono (zInv_fS I (fS_t f1 (fun c j z => f2 c j (by unfold sc at z; omega) (by unfold sc at z; omega)))) (by omega) hB))
    have e53 : V2 53 1 = V 1 1 := (f2 53 1 (by decide) (by omega)).trans hg.1
    refine ⟨by omega, fun z => fin, fun z => ⟨fun z2 => ?_, fun z2 => fin⟩⟩
    have er : r = V 1 1 := by omega
    exact absurd ((ed er).1.symm.trans z2) (hno (hr.symm.trans er))
  refine ⟨fun z => ⟨by omega, fun z' => absurd rfl z', fun _ => no (fun y => absurd (e2.trans (y.trans e11.symm)) z)⟩, fun z => ⟨fun z2 => ⟨by omega, fun z' => absurd rfl z', fun _ => no (fun _ y => z2 (e3.trans y))⟩, fun z2 => ⟨by omega, fun _ => ?_, fun z' => by omega⟩⟩⟩
  have eP : scP V (V 1 1).toNat 0 0 0 = V 1 1 := e2.symm.trans (z.trans e11)
  have eT : scT V (V 1 1).toNat 0 0 0 = 4 := e3.symm.trans z2
  have hls : lsP V (scK V (V 1 1).toNat 0 0 0) := sc_end (V 1 1).toNat 0 0 0 ⟨fun f hf => absurd hf (by omega), Or.inl ⟨rfl, by omega, rfl⟩⟩ (by omega) eP eT
  obtain ⟨kk, hkk⟩ : ∃ kk, kk = scK V (V 1 1).toNat 0 0 0 := ⟨_, rfl⟩
  rw [← hkk] at hls
  have hk8 := hls.1
  refine x_read hls hp.2.1 (fun i a b => (hp.2.2 i a b).2) e11 (fun j => fr 2 j (by omega)) (by omega) (by omega) hs.2 (fun S2 V2 hx hlen f2 => ?_)
  obtain ⟨x32, x4, x68, xfd, xow⟩ := hx
  unfold m8_wipe
  refine x_begin (n := (kk : Int)) (by omega) ?_ (by omega) (fun j a b => ?_) (fun V3 bp bf bj b9 b12 br => ?_)
  · rw [vset_cell (by decide)]
    exact x32
  · rw [vset_cell (by decide), xow j a b]
    have := owS_in hls.2.2 a b
    omega
  have e09 : (vset V3 0 8 0) 0 9 = V 0 9 := by
    rw [vset_place (by decide), br 0 9 (by omega), vset_cell (by decide), f2 0 9 (by omega) (by omega) (by omega)]
    exact fr 0 9 (by omega)
  rw [e09]
  refine ⟨by omega, ?_⟩
  have G : ∀ c j, c < 68 → ¬ lsC c j → (vset (vset V3 0 8 0) 0 9 (V 0 9 + 1)) c j = V c j := by
    intro c j a b
    unfold lsC at b
    rw [vset_at, if_neg (by omega), vset_at, if_neg (by omega), br c j (by omega), vset_at, if_neg (by omega), f2 c j a (by omega) (by omega)]
    exact fr c j (by omega)
  have e432 : (vset (vset V3 0 8 0) 0 9 (V 0 9 + 1)) 3 2 = kk := by
    rw [vset_cell (by decide), vset_cell (by decide), br 3 2 (by omega), vset_cell (by decide)]
    exact x32
  rw [e432]
  have hg4 : pgM V (vset (vset V3 0 8 0) 0 9 (V 0 9 + 1)) := by
    refine ⟨?_, fun i a b => ?_⟩
    · rw [G 53 1 (by omega) (by unfold lsC; omega)]
      exact hp.1
    · rw [G 54 _ (by omega) (by unfold lsC; omega)]
      exact hp.2.2 i a b
  show m12_list _ _
  unfold m12_list
  refine m_fault hp.2.1 hg4 (fun r V5 hr r1 r2 f5 ed => ?_)
  have er : r = V 1 1 := hr.trans eP
  have e53 : V5 53 1 = V 1 1 := (f5 53 1 (by decide) (by omega)).trans hg4.1
  obtain ⟨ed1, ed2, ed3⟩ := ed er
  rw [← hkk] at ed2 ed3
  have G5 : ∀ c j, c < 68 → ¬ lsC c j → c ≠ 55 → ¬ (c = 53 ∧ (j = 3 ∨ j = 4)) → V5 c j = V c j := fun c j a b d e => (f5 c j d e).trans (G c j a b)
  refine ⟨by omega, fun z => by omega, fun _ => ⟨fun _ => ⟨kk + 1, ?_⟩, fun z => absurd (ed1.trans eT) z⟩⟩
  have e536 : V5 53 6 = V 53 6 := G5 53 6 (by omega) (by unfold lsC; omega) (by omega) (by omega)
  have hi1 := hi.1
  refine m_list_L (V := V) (V0 := V5) (k := kk) (by omega) ed2 ed3 (by omega) (fun r' V6 hr' lm => fin2 rfl hr' (by omega) (k S2 V6 kk (nwS V kk) ?_)) kk 0 V5 (by omega) (fun g hg => absurd hg (by omega)) (fun _ _ _ => rfl)
  obtain ⟨⟨l5, l9, l15, l6, l1⟩, lb, lr, lf⟩ := lm
  have G6 : ∀ c j, c < 68 → ¬ lsC c j → ¬ lmC c j → V6 c j = V c j := by
    intro c j a b d
    unfold lmC at d
    rw [lf c j (by omega) (by omega) (by omega)]
    exact G5 c j a b (by omega) (by omega)
  have G7 : ∀ c j, ¬ lmC c j → V6 c j = (vset (vset V3 0 8 0) 0 9 (V 0 9 + 1)) c j := by
    intro c j d
    unfold lmC at d
    rw [lf c j (by omega) (by omega) (by omega)]
    exact f5 c j (by omega) (by omega)
  have g18 : V6 53 18 = V 53 18 := G6 53 18 (by omega) (by unfold lsC; omega) (by unfold lmC; omega)
  have g09 : V6 0 9 = V 0 9 + 1 := by
    rw [G7 0 9 (by unfold lmC; omega), vset_same]
  refine zInv_new (V3 := V3) hls (by omega) x4 x68 (by omega) xfd ?_ (fun c j a b => ?_) bp bf (fun j a b => ?_) b9 b12 (cM_new lr lb l5) l1 ?_ l9 l15 ?_ ?_ ?_ ?_
  · rw [G7 3 2 (by unfold lmC; omega)]
    exact e432
  · rw [G7 c j (by unfold lmC; omega), vset_cell (by omega), vset_cell (by omega)]
  · obtain ⟨q1, q2⟩ := bj j a b
    refine ⟨q1.trans ?_, q2⟩
    by_cases e : j < 2 * (kk : Int)
    · rw [if_pos e, if_pos e, vset_cell (by decide)]
      exact xow j a e
    · rw [if_neg e, if_neg e]
  · rw [G7 1 1 (by unfold lmC; omega), vset_cell (by omega), vset_cell (by omega), br 1 1 (by omega), vset_same]
  · rw [G7 0 8 (by unfold lmC; omega), vset_place (by decide), vset_same]
  · rw [l6, g09]
    omega
  · rw [l6, g18]
    have := hi.2
    omega
  · rw [g09]
    omega
