section OPS6
variable {S : List zC} {V : zV} {B n : Int} {s : zS} {K : zV → Prop}
theorem cM_frb {V' : zV} (h : cM V n s) (hn : n ≤ 8) (e : V' 53 5 = V 53 5) (f : ∀ j, j < 56 → V' 56 j = V 56 j) (g : ∀ j, j < 18 → V' 57 j = V 57 j) : cM V' n s := by
  refine ⟨e.trans (m_n h), fun p a b => ?_, fun p a b => ?_, fun p t a b c d => ?_⟩
  · rw [g _ (by omega), g _ (by omega), g _ (by omega)]
    exact ⟨m_0 h a b, m_1 h a b, m_2 h a b⟩
  · rw [f _ (by omega), f _ (by omega), f _ (by omega)]
    exact ⟨m_6 h a b, m_7 h a b, m_5 h a b⟩
  · rw [f _ (by omega), f _ (by omega)]
    exact ⟨m_3 h a b ⟨c, d⟩, m_4 h a b ⟨c, d⟩⟩
theorem rowsE_frb {V' : zV} {x y : Int} {a b c a' b' c' : Nat} (M : Nat) (h : rowsE V x a b c) (e : y = x) (hM : x ≤ M) (fa : ∀ j, j < M → V' a' j = V a j) (fb : ∀ j, j < M → V' b' j = V b j) (fc : ∀ j, j < 2 * M → V' c' j = V c j) : rowsE V' y a' b' c' := by
  intro k p q
  rw [fa _ (by omega), fb _ (by omega), fc _ (by omega), fc _ (by omega)]
  exact h k p (by omega)
theorem op_image (I : zInv S V B n s) (k : ∀ V', zInv S V' B n s → K V') : m11_image S V  (fun r V1 => m12_image V1  (fun r' V2 => inR r ∧ inR r' ∧ ((r = r' → K V2) ∧ (¬ r = r' → False)))) := by
  obtain ⟨w, x, m, p, hh, hr, ⟨iE, _⟩, q, l⟩ := id I
  have hn := wn w
  have qs := tSt_in w
  unfold m11_image m12_image
  refine x_hasList (x_n x) (fun r hr0 r1 r2 => ⟨by omega, fun c => ?_, fun c => ?_⟩)
  · have c2 : 0 < n := by split at hr0 <;> omega
    refine x_copy (by omega) (fun V1 hc => ?_)
    have g : ∀ c j, ¬ (25 ≤ c ∧ c ≤ 35) → ¬ (c = 0 ∧ j = 8) → (vset V1 0 8 1) c j = V c j := fun c j a b => by
      rw [vset_at, if_neg b]
      exact hc.1 c j (by omega)
    have x25 : cX S (vset V1 0 8 1) 25 n s := cX_fr (cX_cp hc (by omega) x) (vset_cell (by omega)) (fun c j _ _ => vset_cell (by omega))
    have g2 : ∀ c j, 25 ≤ c → c ≤ 35 → (vset V1 0 8 1) c j = V1 c j := fun c j a b => vset_cell (by omega)
    have g3 : (vset V1 0 8 1) 0 8 = 1 := vset_same
    generalize vset V1 0 8 1 = U at g x25 g2 g3 ⊢
    refine x_struck (cX_fr x (g _ _ (by omega) (by omega)) (fun c j _ _ => g _ _ (by omega) (by omega))) w (fun v hv v1 v2 => ?_)
    have mU : cM U n s := cM_fr m (g _ _ (by omega) (by omega)) (fun j => g _ _ (by omega) (by omega)) (fun j => g _ _ (by omega) (by omega))
    refine m_lacks (m_n mU) hn.1 (fun y hy y1 y2 => ⟨by omega, fun d => ?_, fun d => ?_⟩)
    · refine m_copy (by omega) (by omega) (by omega) (m_copy (by omega) (by omega) (by omega) (m_copy (by omega) (by omega) (by omega) (m_copy (by omega) (by omega) (by omega) ?_)))
      obtain ⟨W1, f1⟩ : ∃ z, z = vrow U 64 (cpz (U 56) (U 64) (56 : Int).toNat) := ⟨_, rfl⟩
      rw [← f1]
      have a1 : ∀ c, c ≠ 64 → W1 c = U c := fun c h => by rw [f1]; exact vrow_n h
      have b1 : W1 64 = cpz (U 56) (U 64) 56 := by rw [f1]; exact vrow_s _ _ _
      obtain ⟨W2, f2⟩ : ∃ z, z = vrow W1 65 (cpz (W1 57) (W1 65) (18 : Int).toNat) := ⟨_, rfl⟩
      rw [← f2]
      have a2 : ∀ c, c ≠ 65 → W2 c = W1 c := fun c h => by rw [f2]; exact vrow_n h
      have b2 : W2 65 = cpz (W1 57) (W1 65) 18 := by rw [f2]; exact vrow_s _ _ _
      obtain ⟨W3, f3⟩ : ∃ z, z = vrow W2 66 (cpz (W2 58) (W2 66) (24 : Int).toNat) := ⟨_, rfl⟩
      rw [← f3]
      have a3 : ∀ c, c ≠ 66 → W3 c = W2 c := fun c h => by rw [f3]; exact vrow_n h
      have b3 : W3 66 = cpz (W2 58) (W2 66) 24 := by rw [f3]; exact vrow_s _ _ _
      obtain ⟨W4, f4⟩ : ∃ z, z = vrow W3 67 (cpz (W3 63) (W3 67) (16 : Int).toNat) := ⟨_, rfl⟩
      rw [← f4]
      have a4 : ∀ c, c ≠ 67 → W4 c = W3 c := fun c h => by rw [f4]; exact vrow_n h
      have b4 : W4 67 = cpz (W3 63) (W3 67) 16 := by rw [f4]; exact vrow_s _ _ _
      clear f1 f2 f3 f4
      have t0 : ∀ c j, ¬ (64 ≤ c ∧ c ≤ 67) → W4 c j = U c j := fun c j h => by rw [a4 c (by omega), a3 c (by omega), a2 c (by omega), a1 c (by omega)]
      have t1 : ∀ j, j < 56 → W4 64 j = V 56 j := fun j h => by rw [a4 _ (by omega), a3 _ (by omega), a2 _ (by omega), b1, cpz_lt h]; exact g _ _ (by omega) (by omega)
      have t2 : ∀ j, j < 18 → W4 65 j = V 57 j := fun j h => by rw [a4 _ (by omega), a3 _ (by omega), b2, cpz_lt h, a1 _ (by omega)]; exact g _ _ (by omega) (by omega)
      have t3 : ∀ j, j < 24 → W4 66 j = V 58 j := fun j h => by rw [a4 _ (by omega), b3, cpz_lt h, a2 _ (by omega), a1 _ (by omega)]; exact g _ _ (by omega) (by omega)
      have t4 : ∀ j, j < 16 → W4 67 j = V 63 j := fun j h => by rw [b4, cpz_lt h, a3 _ (by omega), a2 _ (by omega), a1 _ (by omega)]; exact g _ _ (by omega) (by omega)
      clear a1 a2 a3 a4 b1 b2 b3 b4
      obtain ⟨W5, f5⟩ : ∃ z, z = vset (vset (vset W4 53 19 (W4 53 9)) 53 20 ((vset W4 53 19 (W4 53 9)) 53 15)) 53 18 ((vset (vset W4 53 19 (W4 53 9)) 53 20 ((vset W4 53 19 (W4 53 9)) 53 15)) 53 6) := ⟨_, rfl⟩
      rw [← f5]
      have u0 : ∀ c j, ¬ (c = 53 ∧ (j = 18 ∨ j = 19 ∨ j = 20)) → W5 c j = W4 c j := fun c j h => by rw [f5, vset_at, if_neg (by omega), vset_at, if_neg (by omega), vset_at, if_neg (by omega)]
      have u1 : W5 53 19 = V 53 9 := by rw [f5, vset_place (by decide), vset_place (by decide), vset_same, t0 _ _ (by omega)]; exact g _ _ (by omega) (by omega)
      have u2 : W5 53 20 = V 53 15 := by rw [f5, vset_place (by decide), vset_same, vset_place (by decide), t0 _ _ (by omega)]; exact g _ _ (by omega) (by omega)
      have u3 : W5 53 18 = V 53 6 := by rw [f5, vset_same, vset_place (by decide), vset_place (by decide), t0 _ _ (by omega)]; exact g _ _ (by omega) (by omega)
      clear f5
      have z0 : ∀ c j, ¬ (25 ≤ c ∧ c ≤ 35) → ¬ (c = 0 ∧ j = 8) → ¬ (c = 53 ∧ (j = 18 ∨ j = 19 ∨ j = 20)) → ¬ (64 ≤ c ∧ c ≤ 67) → W5 c j = V c j := fun c j h1 h2 h3 h4 => by rw [u0 c j h3, t0 c j h4, g c j h1 h2]
      have z1 : ∀ c j, 25 ≤ c → c ≤ 35 → W5 c j = U c j := fun c j h1 h2 => by rw [u0 c j (by omega), t0 c j (by omega)]
      have z2 : ∀ c j, 25 ≤ c → c ≤ 35 → W5 c j = V1 c j := fun c j h1 h2 => (z1 c j h1 h2).trans (g2 c j h1 h2)
      have mW : cM W5 n s := cM_fr m (z0 _ _ (by omega) (by omega) (by omega) (by omega)) (fun j => z0 _ _ (by omega) (by omega) (by omega) (by omega)) (fun j => z0 _ _ (by omega) (by omega) (by omega) (by omega))
      refine m_struck mW w (fun v' hv' _ _ => fin2 (x := n - tSt n s) ?_ ?_ (by omega) (k _ ⟨w, ?_, mW, ?_, ?_, ?_, ⟨?_, Or.inr ⟨?_, ?_, s, w, ?_, ?_, ⟨?_, ?_, ?_⟩, ?_, ?_, ?_⟩⟩, q, ?_⟩))
      · rw [hv, g 3 2 (by omega) (by omega), x_n x]
      · rw [hv', m_n mW]
      · exact cX_fr x (z0 _ _ (by omega) (by omega) (by omega) (by omega)) (fun c j _ _ => z0 _ _ (by omega) (by omega) (by omega) (by omega))
      · exact pP_fr p (z0 _ _ (by omega) (by omega) (by omega) (by omega)) (z0 _ _ (by omega) (by omega) (by omega) (by omega)) (fun j => z0 _ _ (by omega) (by omega) (by omega) (by omega)) (fun j => z0 _ _ (by omega) (by omega) (by omega) (by omega))
      · exact pH_fr hh (z0 _ _ (by omega) (by omega) (by omega) (by omega)) (z0 _ _ (by omega) (by omega) (by omega) (by omega)) (fun j => z0 _ _ (by omega) (by omega) (by omega) (by omega)) (fun j => z0 _ _ (by omega) (by omega) (by omega) (by omega)) (fun j => z0 _ _ (by omega) (by omega) (by omega) (by omega))
      · exact pR_fr hr (z0 _ _ (by omega) (by omega) (by omega) (by omega)) (z0 _ _ (by omega) (by omega) (by omega) (by omega)) (fun j => z0 _ _ (by omega) (by omega) (by omega) (by omega)) (fun j => z0 _ _ (by omega) (by omega) (by omega) (by omega)) (fun j => z0 _ _ (by omega) (by omega) (by omega) (by omega))
      · rw [z0 53 6 (by omega) (by omega) (by omega) (by omega), z0 0 9 (by omega) (by omega) (by omega) (by omega)]
        exact iE
      · rw [u0 0 8 (by omega), t0 0 8 (by omega)]
        exact g3
      · rw [u3, z0 53 6 (by omega) (by omega) (by omega) (by omega)]
      · exact cX_fr x25 (by rw [u0 3 2 (by omega), t0 3 2 (by omega)]) (fun c j h1 h2 => z1 c j (by omega) (by omega))
      · refine cM_frb m hn.2 ?_ (fun j h => ?_) (fun j h => ?_)
        · rw [vrow_n (by decide), vrow_n (by decide)]
          exact z0 _ _ (by omega) (by omega) (by omega) (by omega)
        · rw [vrow_n (by decide), vrow_s, u0 _ _ (by omega)]
          exact t1 j h
        · rw [vrow_s, u0 _ _ (by omega)]
          exact t2 j h
      · rw [u1, z2 25 9 (by omega) (by omega), hc.2.2.2.2.2.2.1]
        exact hh.1
      · rw [z2 25 9 (by omega) (by omega), hc.2.2.2.2.2.2.1]
        exact hh.2.1
      · refine rowsE_frb 12 hh.2.2 ?_ hh.2.1.2 (fun j h => ?_) (fun j h => ?_) (fun j h => ?_)
        · rw [z2 25 9 (by omega) (by omega), hc.2.2.2.2.2.2.1]
        · rw [z2 32 j (by omega) (by omega)]
          exact (hc.2.2.2.2.1 j h).1
        · rw [z2 33 j (by omega) (by omega)]
          exact (hc.2.2.2.2.1 j h).2
        · rw [u0 _ _ (by omega)]
          exact t3 j (by omega)
      · rw [u2, z2 25 12 (by omega) (by omega), hc.2.2.2.2.2.2.2]
        exact hr.1
      · rw [z2 25 12 (by omega) (by omega), hc.2.2.2.2.2.2.2]
        exact hr.2.1
      · refine rowsE_frb 8 hr.2.2 ?_ hr.2.1.2 (fun j h => ?_) (fun j h => ?_) (fun j h => ?_)
        · rw [z2 25 12 (by omega) (by omega), hc.2.2.2.2.2.2.2]
        · rw [z2 34 j (by omega) (by omega)]
          exact (hc.2.2.2.2.2.1 j h).1
        · rw [z2 35 j (by omega) (by omega)]
          exact (hc.2.2.2.2.2.1 j h).2
        · rw [u0 _ _ (by omega)]
          exact t4 j (by omega)
      · rw [z0 0 9 (by omega) (by omega) (by omega) (by omega)]
        exact l
    · split at hy <;> omega
  · exact m_lacks (m_n m) hn.1 (fun y hy y1 y2 => ⟨by omega, fun d => by (repeat' split at *) <;> omega, fun d => fin2 rfl rfl (by omega) (k _ I)⟩)
theorem op_restore (I : zInv S V B n s) (k : ∀ V' s', zInv S V' B n s' → K V') : m11_restore S V  (fun r V1 => m12_restore V1  (fun r' V2 => inR r ∧ inR r' ∧ ((r = r' → K V2) ∧ (¬ r = r' → False)))) := by
  obtain ⟨w, x, m, p, hh, hr, hI, q, l⟩ := id I
  have hn := wn w
  unfold m11_restore m12_restore
  obtain ⟨iE, hI2⟩ := id hI
  rcases hI2 with ⟨a8, a18⟩ | ⟨a8, a18, s1, ws, x25, mk, kh, kr⟩
  · exact ⟨fun z => absurd a8 z, fun _ => ⟨fun z => by omega, fun _ => fin2 rfl rfl (by omega) (k _ _ I)⟩⟩
  · have qs := tSt_in ws
    refine ⟨fun _ => x_copy (by omega) (fun V1 hc => ?_), fun z => by omega⟩
    have g : ∀ c j, ¬ (14 ≤ c ∧ c ≤ 24) → V1 c j = V c j := fun c j a => hc.1 c j (by omega)
    have x14 := cX_cp hc (by omega) x25
    refine x_struck x14 ws (fun v hv v1 v2 => ?_)
    refine ⟨fun _ => ?_, fun z => absurd ((g 53 18 (by omega)).trans (a18.trans (g 53 6 (by omega)).symm)) z⟩
    refine m_copy (by omega) (by omega) (by omega) (m_copy (by omega) (by omega) (by omega) (m_copy (by omega) (by omega) (by omega) (m_copy (by omega) (by omega) (by omega) ?_)))
    obtain ⟨W1, f1⟩ : ∃ z, z = vrow V1 56 (cpz (V1 64) (V1 56) (56 : Int).toNat) := ⟨_, rfl⟩
    rw [← f1]
    have a1 : ∀ c, c ≠ 56 → W1 c = V1 c := fun c h => by rw [f1]; exact vrow_n h
    have b1 : W1 56 = cpz (V1 64) (V1 56) 56 := by rw [f1]; exact vrow_s _ _ _
    obtain ⟨W2, f2⟩ : ∃ z, z = vrow W1 57 (cpz (W1 65) (W1 57) (18 : Int).toNat) := ⟨_, rfl⟩
    rw [← f2]
    have a2 : ∀ c, c ≠ 57 → W2 c = W1 c := fun c h => by rw [f2]; exact vrow_n h
    have b2 : W2 57 = cpz (W1 65) (W1 57) 18 := by rw [f2]; exact vrow_s _ _ _
    obtain ⟨W3, f3⟩ : ∃ z, z = vrow W2 58 (cpz (W2 66) (W2 58) (24 : Int).toNat) := ⟨_, rfl⟩
    rw [← f3]
    have a3 : ∀ c, c ≠ 58 → W3 c = W2 c := fun c h => by rw [f3]; exact vrow_n h
    have b3 : W3 58 = cpz (W2 66) (W2 58) 24 := by rw [f3]; exact vrow_s _ _ _
    obtain ⟨W4, f4⟩ : ∃ z, z = vrow W3 63 (cpz (W3 67) (W3 63) (16 : Int).toNat) := ⟨_, rfl⟩
    rw [← f4]
    have a4 : ∀ c, c ≠ 63 → W4 c = W3 c := fun c h => by rw [f4]; exact vrow_n h
    have b4 : W4 63 = cpz (W3 67) (W3 63) 16 := by rw [f4]; exact vrow_s _ _ _
    clear f1 f2 f3 f4
    have t0 : ∀ c j, ¬ (56 ≤ c ∧ c ≤ 58) → c ≠ 63 → W4 c j = V1 c j := fun c j h h' => by rw [a4 c (by omega), a3 c (by omega), a2 c (by omega), a1 c (by omega)]
    have t1 : ∀ j, j < 56 → W4 56 j = V 64 j := fun j h => by rw [a4 _ (by omega), a3 _ (by omega), a2 _ (by omega), b1, cpz_lt h]; exact g _ _ (by omega)
    have t2 : ∀ j, j < 18 → W4 57 j = V 65 j := fun j h => by rw [a4 _ (by omega), a3 _ (by omega), b2, cpz_lt h, a1 _ (by omega)]; exact g _ _ (by omega)
    have t3 : ∀ j, j < 24 → W4 58 j = V 66 j := fun j h => by rw [a4 _ (by omega), b3, cpz_lt h, a2 _ (by omega), a1 _ (by omega)]; exact g _ _ (by omega)
    have t4 : ∀ j, j < 16 → W4 63 j = V 67 j := fun j h => by rw [b4, cpz_lt h, a3 _ (by omega), a2 _ (by omega), a1 _ (by omega)]; exact g _ _ (by omega)
    clear a1 a2 a3 a4 b1 b2 b3 b4
    obtain ⟨W5, f5⟩ : ∃ z, z = vset (vset W4 53 9 (W4 53 19)) 53 15 ((vset W4 53 9 (W4 53 19)) 53 20) := ⟨_, rfl⟩
    rw [← f5]
    have u0 : ∀ c j, ¬ (c = 53 ∧ (j = 9 ∨ j = 15)) → W5 c j = W4 c j := fun c j h => by rw [f5, vset_at, if_neg (by omega), vset_at, if_neg (by omega)]
    have u1 : W5 53 9 = V 53 19 := by rw [f5, vset_place (by decide), vset_same, t0 _ _ (by omega) (by omega)]; exact g _ _ (by omega)
    have u2 : W5 53 15 = V 53 20 := by rw [f5, vset_same, vset_place (by decide), t0 _ _ (by omega) (by omega)]; exact g _ _ (by omega)
    clear f5
    have z0 : ∀ c j, ¬ (14 ≤ c ∧ c ≤ 24) → ¬ (c = 53 ∧ (j = 9 ∨ j = 15)) → ¬ (56 ≤ c ∧ c ≤ 58) → c ≠ 63 → W5 c j = V c j := fun c j h1 h2 h3 h4 => by rw [u0 c j h2, t0 c j h3 h4, g c j h1]
    have z2 : ∀ c j, 14 ≤ c → c ≤ 24 → W5 c j = V1 c j := fun c j h1 h2 => by rw [u0 c j (by omega), t0 c j (by omega) (by omega)]
    have mW : cM W5 n s1 := by
      refine cM_frb mk hn.2 ?_ (fun j h => ?_) (fun j h => ?_)
      · rw [vrow_n (by decide), vrow_n (by decide)]
        exact z0 _ _ (by omega) (by omega) (by omega) (by omega)
      · rw [vrow_n (by decide), vrow_s, u0 _ _ (by omega)]
        exact t1 j h
      · rw [vrow_s, u0 _ _ (by omega)]
        exact t2 j h
    refine m_struck mW ws (fun v' hv' _ _ => fin2 (x := n - tSt n s1) ?_ ?_ (by omega) (k _ s1 ⟨ws, ?_, mW, ?_, ⟨?_, ?_, ?_⟩, ⟨?_, ?_, ?_⟩, ?_, q, ?_⟩))
    · rw [hv, x_n x14]
    · rw [hv', m_n mW]
    · exact cX_fr x14 (by rw [u0 3 2 (by omega), t0 3 2 (by omega) (by omega)]) (fun c j h1 h2 => z2 c j (by omega) (by omega))
    · exact pP_fr p (z0 _ _ (by omega) (by omega) (by omega) (by omega)) (z0 _ _ (by omega) (by omega) (by omega) (by omega)) (fun j => z0 _ _ (by omega) (by omega) (by omega) (by omega)) (fun j => z0 _ _ (by omega) (by omega) (by omega) (by omega))
    · rw [u1, z2 14 9 (by omega) (by omega), hc.2.2.2.2.2.2.1]
      exact kh.1
    · rw [z2 14 9 (by omega) (by omega), hc.2.2.2.2.2.2.1]
      exact kh.2.1
    · refine rowsE_frb 12 kh.2.2 ?_ kh.2.1.2 (fun j h => ?_) (fun j h => ?_) (fun j h => ?_)
      · rw [z2 14 9 (by omega) (by omega), hc.2.2.2.2.2.2.1]
      · rw [z2 21 j (by omega) (by omega)]
        exact (hc.2.2.2.2.1 j h).1
      · rw [z2 22 j (by omega) (by omega)]
        exact (hc.2.2.2.2.1 j h).2
      · rw [u0 _ _ (by omega)]
        exact t3 j (by omega)
    · rw [u2, z2 14 12 (by omega) (by omega), hc.2.2.2.2.2.2.2]
      exact kr.1
    · rw [z2 14 12 (by omega) (by omega), hc.2.2.2.2.2.2.2]
      exact kr.2.1
    · refine rowsE_frb 8 kr.2.2 ?_ kr.2.1.2 (fun j h => ?_) (fun j h => ?_) (fun j h => ?_)
      · rw [z2 14 12 (by omega) (by omega), hc.2.2.2.2.2.2.2]
      · rw [z2 23 j (by omega) (by omega)]
        exact (hc.2.2.2.2.2.1 j h).1
      · rw [z2 24 j (by omega) (by omega)]
        exact (hc.2.2.2.2.2.1 j h).2
      · rw [u0 _ _ (by omega)]
        exact t4 j (by omega)
    · exact pI_fr hI (fun c k z => z0 _ _ (by unfold icell at z; omega) (by unfold icell at z; omega) (by unfold icell at z; omega) (by unfold icell at z; omega))
    · rw [z0 0 9 (by omega) (by omega) (by omega) (by omega)]
      exact l
end OPS6
