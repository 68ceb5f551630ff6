/-! ===== the law, call by call ===== -/
theorem zand_in (x y : Int) : inR (zand x y) := ⟨Int32.le_toInt _, Int32.toInt_lt _⟩
theorem law_L {L : Nat} {ys : Nat → Int} (hL : L ≤ 256) (hy : ∀ j, inR (ys j)) : ∀ (m nc ns : Nat) (a : Int) (S : List zC) (V : zV) (n : Int) (s : zS), 0 ≤ a → a ≤ 256 → (L : Int) - a ≤ 4 * (m : Int) + 3 → (nc : Int) ≤ 68 + 2 * a → (ns : Int) ≤ 1012 + 2 * a → zInv S V a n s → mL_law_L18 L ys () (m + 1) nc ns a S V
  | 0, nc, ns, a, S, V, n, s, h0, h1, h2, h3, h4, I => by
    unfold mL_law_L18
    exact ⟨by omega, by omega, fun _ => True.intro, fun z => by omega⟩
  | m + 1, nc, ns, a, S, V, n, s, h0, h1, h2, h3, h4, I => by
    have ih := law_L hL hy m
    clear law_L
    unfold mL_law_L18
    refine ⟨by omega, by omega, fun _ => True.intro, fun c => ?_⟩
    have nx : ∀ V' s', zInv S V' a n s' → mL_law_L18 L ys () (m + 1) nc ns (a + 4) S V' := fun V' s' I' => ih nc ns (a + 4) S V' n s' (by omega) (by omega) (by omega) (by omega) (by omega) (zInv_mono I' (by omega) (by omega))
    refine ⟨by omega, zand_in _ _, fun _ => ?_, fun _ => ?_, fun _ => ?_, fun _ => ?_, fun _ => ?_, fun _ => ?_, fun _ => ?_, fun _ => ?_, fun _ => ?_, fun _ => ?_, fun _ => ?_, fun _ => ?_, fun _ => ?_, fun _ => ?_, fun _ => ?_, fun _ => ?_, fun _ => ?_, fun _ => ?_, fun _ => ?_, fun _ => ?_, fun _ => ?_, fun _ => ?_, fun _ => ?_, fun _ => ?_, fun _ => ?_, fun _ => ?_, fun _ => ?_, fun _ => nx V s I⟩
    · exact ⟨by omega, op_letter I (hy _) (fun V1 I1 => nx V1 s I1)⟩
    · exact op_blank I  (fun V1 I1 => nx V1 s I1)
    · exact op_fault I  (fun V1 I1 => nx V1 s I1)
    · exact ⟨by omega, op_list I (by omega) (fun S1 V1 n1 s1 I1 => ih (nc + 8) (ns + 8) (a + 4) S1 V1 n1 s1 (by omega) (by omega) (by omega) (by omega) (by omega) I1)⟩
    · exact ⟨by omega, by omega, op_about I (hy _) (hy _) (fun I1 => nx V s I1)⟩
    · exact ⟨by omega, by omega, op_as I (hy _) (hy _) (fun I1 => nx V s I1)⟩
    · exact ⟨by omega, by omega, op_person I (hy _) (hy _) (fun I1 => nx V s I1)⟩
    · exact ⟨by omega, by omega, op_heir I (hy _) (hy _) (fun V1 s1 I1 => nx V1 s1 I1)⟩
    · exact ⟨by omega, by omega, by omega, op_buy I (hy _) (hy _) (hy _) (fun V1 s1 I1 => nx V1 s1 I1)⟩
    · exact ⟨by omega, by omega, by omega, op_len I (hy _) (hy _) (hy _) (fun V1 s1 I1 => nx V1 s1 I1)⟩
    · exact ⟨by omega, op_pea I (hy _) (fun V1 s1 I1 => nx V1 s1 I1)⟩
    · exact ⟨by omega, op_dea I (hy _) (fun V1 s1 I1 => nx V1 s1 I1)⟩
    · exact ⟨by omega, by omega, op_mayHarm I (hy _) (hy _) (fun I1 => nx V s I1)⟩
    · exact ⟨by omega, by omega, op_harm I (hy _) (hy _) (fun V1 I1 => nx V1 s I1)⟩
    · exact op_sea I  (fun V1 s1 I1 => nx V1 s1 I1)
    · exact ⟨by omega, by omega, by omega, op_comeBy I (hy _) (hy _) (hy _) (fun V1 I1 => nx V1 s I1)⟩
    · exact ⟨by omega, op_marry I (hy _) (fun V1 I1 => nx V1 s I1)⟩
    · exact ⟨by omega, by omega, op_wills I (hy _) (hy _) (fun V1 I1 => nx V1 s I1)⟩
    · exact ⟨by omega, by omega, by omega, op_left I (hy _) (hy _) (hy _) (fun V1 I1 => nx V1 s I1)⟩
    · exact ⟨by omega, by omega, op_register I (hy _) (hy _) (fun V1 I1 => nx V1 s I1)⟩
    · exact op_forget I  (fun V1 I1 => nx V1 s I1)
    · exact ⟨by omega, op_lapsed I (hy _) (fun I1 => nx V s I1)⟩
    · exact ⟨by omega, by omega, by omega, op_years I (hy _) (hy _) (hy _) (fun V1 I1 => nx V1 s I1)⟩
    · exact op_image I  (fun V1 I1 => nx V1 s I1)
    · exact op_restore I  (fun V1 s1 I1 => nx V1 s1 I1)
    · exact ⟨by omega, op_count I (hy _) (fun I1 => nx V s I1)⟩
    · exact op_digest I  (fun V1 I1 => nx V1 s I1)
theorem law_pure (L : Nat) (ys : Nat → Int) (hL : L ≤ 256) (hy : ∀ j, inR (ys j)) : mL_law L ys () :=
  k_both (fun V I => ⟨L + 1, law_L hL hy L 68 1012 0 S_all V 0 s0S (by omega) (by omega) (by omega) (by omega) (by omega) I⟩)
