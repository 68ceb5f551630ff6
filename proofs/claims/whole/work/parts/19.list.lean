/-! ===== a list is read: its feuds are new cells ===== -/
def addF (S : List zC) (i t : Nat) (w : Int) : List zC := (S ++ [(t, w, fun _ => none)]).set 4 (16, 8, va_up (frS S) i (some S.length))
theorem addF_len (S : List zC) (i t : Nat) (w : Int) : (addF S i t w).length = S.length + 1 := by simp [addF]
theorem addF_n {S : List zC} {i t c : Nat} {w : Int} {sc : zC} (hc : c ≠ 4) (h : S[c]? = some sc) : (addF S i t w)[c]? = some sc := by
  unfold addF
  rw [List.getElem?_set_ne (Ne.symm hc), List.getElem?_append_left (List.getElem?_eq_some_iff.mp h).1]
  exact h
theorem addF_new {S : List zC} {i t : Nat} {w : Int} (h : 4 < S.length) : (addF S i t w)[S.length]? = some (t, w, fun _ => none) := by
  unfold addF
  rw [List.getElem?_set_ne (by omega), get_last]
theorem addF_4 {S : List zC} {i t : Nat} {w : Int} (h : 4 < S.length) : (addF S i t w)[4]? = some (16, 8, va_up (frS S) i (some S.length)) := by
  unfold addF
  rw [List.getElem?_set_self (by simp; omega)]
theorem frS_eq {S : List zC} {t : Nat} {n : Int} {rf : Nat → Option Nat} (h : S[4]? = some (t, n, rf)) : frS S = rf := by
  unfold frS
  rw [h]
def keepS (S S2 : List zC) : Prop := S.length ≤ S2.length ∧ (∀ (c : Nat) (sc : zC), c ≠ 4 → S[c]? = some sc → S2[c]? = some sc) ∧ PSl S2
theorem keepS_rf {S : List zC} (h : PSl S) : keepS S S := ⟨Nat.le_refl _, fun _ _ _ h => h, h⟩
theorem keepS.trans {S S1 S2 : List zC} (h : keepS S S1) (k : keepS S1 S2) : keepS S S2 := ⟨Nat.le_trans h.1 k.1, fun c sc hc hs => k.2.1 c sc hc (h.2.1 c sc hc hs), k.2.2⟩
theorem PSl.len {S : List zC} (h : PSl S) : 5 < S.length := by
  obtain ⟨rf, h5⟩ := PSl_5 h
  exact (List.getElem?_eq_some_iff.mp h5).1
theorem keepS.addF {S0 S : List zC} (h : keepS S0 S) {i t : Nat} (hi : i < 8) (ht : isFt t) (w : Int) : keepS S0 (addF S i t w) := by
  have hl := PSl.len h.2.2
  refine ⟨by rw [addF_len]; exact Nat.le_succ_of_le h.1, fun c sc hc hs => addF_n hc (h.2.1 c sc hc hs), ?_⟩
  obtain ⟨w3, r3, h3, g30, g31⟩ := PSl_3 h.2.2
  obtain ⟨r4, h4, f4⟩ := PSl_4 h.2.2
  obtain ⟨r5, h5⟩ := PSl_5 h.2.2
  refine ⟨⟨w3, r3, addF_n (by decide) h3, g30, g31⟩, ⟨_, addF_4 (by omega), fun k hk => ?_⟩, ⟨r5, addF_n (by decide) h5⟩⟩
  by_cases hki : k = i
  · subst hki
    exact ⟨S.length, t, w, _, by simp [va_up], addF_new (by omega), ht⟩
  · obtain ⟨c, tag, w2, rf2, e1, e2, e3⟩ := f4 k hk
    rw [frS_eq h4]
    refine ⟨c, tag, w2, rf2, by simp [va_up, hki, e1], addF_n ?_ e2, e3⟩
    rintro rfl
    cases h4.symm.trans e2
    exact absurd e3 (by unfold isFt; omega)
theorem PSp.keep {S S2 : List zC} (h : PSp S) (k : ∀ (c : Nat) (sc : zC), c ≠ 4 → S[c]? = some sc → S2[c]? = some sc) : PSp S2 := by
  obtain ⟨⟨w1, r1, h1, g1⟩, ⟨r2, h2⟩⟩ := h
  exact ⟨⟨w1, r1, k _ _ (by decide) h1, g1⟩, ⟨r2, k _ _ (by decide) h2⟩⟩
theorem PSp.addF {S : List zC} (h : PSp S) {i : Nat} (t : Nat) (w : Int) : PSp (addF S i t w) := h.keep (fun _ _ hc hs => addF_n hc hs)
theorem PSi.keep {S S2 : List zC} {o : Nat} (h : PSi S o) (ho : 4 < o) (k : keepS S S2) : PSi S2 o := by
  obtain ⟨⟨w0, r0, h0, g0⟩, ⟨r1, h1⟩, ⟨r2, h2⟩, ⟨r3, h3⟩, ⟨r4, h4⟩, ⟨r5, h5⟩, ⟨r6, h6⟩, ⟨r7, h7⟩, ⟨r8, h8⟩, ⟨r9, h9⟩, ⟨r10, h10⟩, -⟩ := h
  exact ⟨⟨w0, r0, k.2.1 _ _ (by omega) h0, g0⟩, ⟨r1, k.2.1 _ _ (by omega) h1⟩, ⟨r2, k.2.1 _ _ (by omega) h2⟩, ⟨r3, k.2.1 _ _ (by omega) h3⟩, ⟨r4, k.2.1 _ _ (by omega) h4⟩, ⟨r5, k.2.1 _ _ (by omega) h5⟩, ⟨r6, k.2.1 _ _ (by omega) h6⟩, ⟨r7, k.2.1 _ _ (by omega) h7⟩, ⟨r8, k.2.1 _ _ (by omega) h8⟩, ⟨r9, k.2.1 _ _ (by omega) h9⟩, ⟨r10, k.2.1 _ _ (by omega) h10⟩, k.2.2⟩
theorem PSx.keep {S S2 : List zC} (h : PSx S) (k : keepS S S2) : PSx S2 := by
  obtain ⟨⟨w0, r0, h0, g0⟩, hp, hi1, hi2, hi3, ⟨⟨w1, r1, h1, g1⟩, ⟨r2, h2⟩, ⟨r3, h3⟩⟩, ⟨⟨w4, r4, h4, g4⟩, ⟨r5, h5⟩⟩, ⟨w6, r6, h6⟩⟩ := h
  exact ⟨⟨w0, r0, k.2.1 _ _ (by decide) h0, g0⟩, hp.keep k.2.1, hi1.keep (by decide) k, hi2.keep (by decide) k, hi3.keep (by decide) k, ⟨⟨w1, r1, k.2.1 _ _ (by decide) h1, g1⟩, ⟨r2, k.2.1 _ _ (by decide) h2⟩, ⟨r3, k.2.1 _ _ (by decide) h3⟩⟩, ⟨⟨w4, r4, k.2.1 _ _ (by decide) h4, g4⟩, ⟨r5, k.2.1 _ _ (by decide) h5⟩⟩, ⟨w6, r6, k.2.1 _ _ (by decide) h6⟩⟩
theorem PSm.keep {S S2 : List zC} (h : PSm S) (k : keepS S S2) : PSm S2 := by
  obtain ⟨⟨w0, r0, h0, g0⟩, ⟨r1, h1⟩, ⟨r2, h2⟩, ⟨r3, h3⟩, ⟨r4, h4⟩, ⟨r5, h5⟩, ⟨r6, h6⟩, ⟨r7, h7⟩, ⟨r8, h8⟩, ⟨r9, h9⟩, ⟨r10, h10⟩, ⟨r11, h11⟩, ⟨r12, h12⟩, ⟨r13, h13⟩, ⟨r14, h14⟩⟩ := h
  exact ⟨⟨w0, r0, k.2.1 _ _ (by decide) h0, g0⟩, ⟨r1, k.2.1 _ _ (by decide) h1⟩, ⟨r2, k.2.1 _ _ (by decide) h2⟩, ⟨r3, k.2.1 _ _ (by decide) h3⟩, ⟨r4, k.2.1 _ _ (by decide) h4⟩, ⟨r5, k.2.1 _ _ (by decide) h5⟩, ⟨r6, k.2.1 _ _ (by decide) h6⟩, ⟨r7, k.2.1 _ _ (by decide) h7⟩, ⟨r8, k.2.1 _ _ (by decide) h8⟩, ⟨r9, k.2.1 _ _ (by decide) h9⟩, ⟨r10, k.2.1 _ _ (by decide) h10⟩, ⟨r11, k.2.1 _ _ (by decide) h11⟩, ⟨r12, k.2.1 _ _ (by decide) h12⟩, ⟨r13, k.2.1 _ _ (by decide) h13⟩, ⟨r14, k.2.1 _ _ (by decide) h14⟩⟩
section ZFN
variable {X : zM} {nL : Nat} {nm : String} {rm : Room} {S : List zC} {V : zV} {nc ns : Nat} {al : List (Option zA)} {st : List zA} {k w i : Int}
theorem a_feudNew (C : zCX X cX10_readFrom nL RX10 nm { frames := 5, cells := 8, slots := 8, locals := 96 }) (hl : PSl S) (hr : inR k) (hi : 0 ≤ i ∧ i < 8) (hn : S.length < 999999) (hc : nc + 1 ≤ 8) (hs : ns + 1 ≤ 8) (kk : zW X (addF S i.toNat (tgK k) w) (vrow V S.length (fun _ => 0)) (nc + 1) (ns + 1) al [] 105) : zW X S V nc ns al [zI w, zI k, zI i, zR 4] 101 := by
  obtain ⟨r4, h4, f4⟩ := PSl_4 hl
  have hlen := PSl.len hl
  refine a_callS (as := [zI k, zI w]) (rest := [zI i, zR 4]) C 2 (fun l => c10_feudOf l) ml_X10_40 sa_X10_feudOf in_X10 co_X10_feudOf (by decide +kernel) rfl ⟨Nat.le_of_ble_eq_true rfl, Nat.le_of_ble_eq_true rfl⟩ (Nat.le_of_ble_eq_true rfl) dX10_readFrom_101 ⟨hc, hs⟩ ?_
  refine ⟨k, w, rfl, hr, hn, ?_⟩
  have h4' : (S ++ [(tgK k, w, fun _ => none)])[4]? = some (16, 8, r4) := by
    rw [List.getElem?_append_left (by omega)]
    exact h4
  refine a_aast C h4' get_last (tgK_ft k) dX10_readFrom_104 (by decide) hi ?_
  rw [← frS_eq h4]
  exact kk
end ZFN
def m10_readFrom_J40 (k7 : Nat → Nat → Int → List zC → zV → Prop) (Q : List zC → zV → Prop) (nc : Nat) (ns : Nat) (a2 : Int) (a3 : Int) (S : List zC) (V : zV) : Prop :=
  m8_codeAt V a2 (fun r52 V52 => (0 ≤ (2 * (V 3 2)) ∧ (2 * (V 3 2)) < 16) ∧ (inR (r52 - 48)) ∧ m8_codeAt (vset V52 5 ((2 * (V 3 2))).toNat (r52 - 48)) (a2 + 1) (fun r75 V75 => (0 ≤ ((2 * ((vset V52 5 ((2 * (V 3 2))).toNat (r52 - 48)) 3 2)) + 1) ∧ ((2 * ((vset V52 5 ((2 * (V 3 2))).toNat (r52 - 48)) 3 2)) + 1) < 16) ∧ (inR (r75 - 48)) ∧ m8_codeAt (vset V75 5 (((2 * ((vset V52 5 ((2 * (V 3 2))).toNat (r52 - 48)) 3 2)) + 1)).toNat (r75 - 48)) (a2 + 2) (fun r95 V95 => (inR a3) ∧ (0 ≤ ((vset V75 5 (((2 * ((vset V52 5 ((2 * (V 3 2))).toNat (r52 - 48)) 3 2)) + 1)).toNat (r75 - 48)) 3 2) ∧ ((vset V75 5 (((2 * ((vset V52 5 ((2 * (V 3 2))).toNat (r52 - 48)) 3 2)) + 1)).toNat (r75 - 48)) 3 2) < 8) ∧ (S).length < 999999 ∧ (nc + 1 ≤ 8 ∧ ns + 1 ≤ 8) ∧ (inR (((vrow V95 (S).length (fun _ => 0)) 3 2) + 1)) ∧ k7 (nc + 1) (ns + 1) (a2 + 4) (addF S (((vset V75 5 (((2 * ((vset V52 5 ((2 * (V 3 2))).toNat (r52 - 48)) 3 2)) + 1)).toNat (r75 - 48)) 3 2)).toNat (tgK a3) (r95 - 48)) (vset (vrow V95 (S).length (fun _ => 0)) 3 2 (((vrow V95 (S).length (fun _ => 0)) 3 2) + 1)))))
def m10_readFrom_L7  (Q : List zC → zV → Prop) : Nat → Nat → Nat → Int → List zC → zV → Prop
  | 0 => fun _ _ _ _ _ => False
  | n + 1 => fun nc ns a2 S V => ((8 ≤ (V 3 2) → (nc ≤ 8 ∧ ns ≤ 8) ∧ Q S V) ∧ ((V 3 2) < 8 → (inR a2) ∧ (((V 1 1) ≤ a2 → (nc ≤ 8 ∧ ns ≤ 8) ∧ Q S V) ∧ (a2 < (V 1 1) → m8_codeAt V a2 (fun r26 V26 => m10_kindOfLetter V26 r26 (fun r29 V29 => (inR r29) ∧ ((r29 = 0 → m10_readFrom_J40 (m10_readFrom_L7  Q n) Q (nc) (ns) a2 r29 S V29) ∧ (¬ r29 = 0 → m10_readFrom_J40 (m10_readFrom_L7  Q n) Q (nc) (ns) (a2 + 1) r29 S V29))))))))
def m10_readFrom (S : List zC) (V : zV) (Q : List zC → zV → Prop) : Prop :=
  ∃ nn67, m10_readFrom_L7  Q nn67 (0) (0) 0 S (vset V 3 2 0)
def t10_readFrom : zT := fun as S V post => ∃ (Q : List zC → zV → Prop), as = [zR 3, zR 1] ∧ PSl S ∧ PSp S ∧ m10_readFrom S V Q ∧ (∀ S2 V2, keepS S S2 → Q S2 V2 → post none S2 V2)
set_option maxHeartbeats 4000000 in
set_option maxRecDepth 20000 in
theorem c10_readFrom (l : Launch) : zCT l yX10_readFrom cX10_readFrom 4 none { frames := 5, cells := 8, slots := 8, locals := 96 } t10_readFrom := by
  refine zCT_of (by decide) (fun as S V post h => by obtain ⟨Q, rfl, -⟩ := h; exact Nat.le_of_ble_eq_true rfl) ?_
  intro X S V as post C E hT
  obtain ⟨Q, rfl, hLl, hP1, hK, hpost⟩ := hT
  have H : ∀ S0 : List zC, keepS S0 S → (∀ S2 V2, keepS S0 S2 → Q S2 V2 → post none S2 V2) → zW X S V 0 0 [some (zR 3), some (zR 1), none, none] [] 0 := by
    intro S0 hk hpost
    have hnc : (0 : Nat) ≤ 8 ∧ (0 : Nat) ≤ 8 := by decide
    have hLl := hk.2.2
    obtain ⟨w_3, r_3, h_3, g_3_0, g_3_1⟩ := PSl_3 hLl
    obtain ⟨w_1, r_1, h_1, g_1_0⟩ := PSp_1 hP1
    obtain ⟨r_5, h_5⟩ := PSl_5 hLl
    unfold m10_readFrom at hK
    have L7 : ∀ (n : Nat) (nc : Nat) (ns : Nat) (a2 : Int) (S : List zC) (V : zV), keepS S0 S → PSp S → nc ≤ 8 ∧ ns ≤ 8 → m10_readFrom_L7  Q n nc ns a2 S V → zW X S V nc ns [some (zR 3), some (zR 1), some (zI a2), none] [] 7 := by
      intro n7
      induction n7 with
      | zero => intro _ _ _ _ _ _ _ _ hK; exact hK.elim
      | succ n7 ih7 =>
        intro nc ns a2 S V hk hP1 hnc hK
        have hLl := hk.2.2
        obtain ⟨w_3, r_3, h_3, g_3_0, g_3_1⟩ := PSl_3 hLl
        obtain ⟨w_1, r_1, h_1, g_1_0⟩ := PSp_1 hP1
        obtain ⟨r_5, h_5⟩ := PSl_5 hLl
        unfold m10_readFrom_L7 at hK
        refine a_aload_n C dX10_readFrom_7 rfl ?_
        refine a_getI C fl_X10_21_10 h_3 rfl dX10_readFrom_8 (fun r34 => ?_)
        refine a_bipush C dX10_readFrom_11 (by decide) ?_
        refine a_icmp_ge C 121 dX10_readFrom_13 (by decide) ⟨r34, ⟨by decide, by decide⟩⟩ (fun q35 => ?_) (fun q35 => ?_)
        · replace hK := hK.1 q35
          obtain ⟨qr, hK⟩ := hK
          exact a_vret C E dX10_readFrom_121 qr.1 qr.2 (hpost _ _ hk hK)
        · replace hK := hK.2 q35
          refine a_iload_n C dX10_readFrom_16 rfl ?_
          refine a_aload_n C dX10_readFrom_17 rfl ?_
          refine a_getI C fl_X10_28_8 h_1 rfl dX10_readFrom_18 (fun r36 => ?_)
          obtain ⟨q37, hK⟩ := hK
          refine a_icmp_ge C 121 dX10_readFrom_21 (by decide) ⟨q37, r36⟩ (fun q38 => ?_) (fun q38 => ?_)
          · replace hK := hK.1 q38
            obtain ⟨qr, hK⟩ := hK
            exact a_vret C E dX10_readFrom_121 qr.1 qr.2 (hpost _ _ hk hK)
          · replace hK := hK.2 q38
            have J40 : ∀ (nc : Nat) (ns : Nat) (a2 : Int) (a3 : Int) (S : List zC) (V : zV), keepS S0 S → PSp S → nc ≤ 8 ∧ ns ≤ 8 → m10_readFrom_J40 (m10_readFrom_L7  Q n7) Q nc ns a2 a3 S V → zW X S V nc ns [some (zR 3), some (zR 1), some (zI a2), some (zI a3)] [] 40 := by
              intro nc ns a2 a3 S V hk hP1 hnc hK
              have hLl := hk.2.2
              obtain ⟨w_3, r_3, h_3, g_3_0, g_3_1⟩ := PSl_3 hLl
              obtain ⟨w_1, r_1, h_1, g_1_0⟩ := PSp_1 hP1
              obtain ⟨r_5, h_5⟩ := PSl_5 hLl
              unfold m10_readFrom_J40 at hK
              refine a_aload_n C dX10_readFrom_40 rfl ?_
              refine a_getR C fl_X10_17_10 h_3 rfl g_3_1 dX10_readFrom_41 ?_
              refine a_iconst C dX10_readFrom_44 ?_
              refine a_aload_n C dX10_readFrom_45 rfl ?_
              refine a_getI C fl_X10_21_10 h_3 rfl dX10_readFrom_46 (fun r52 => ?_)
              refine a_imul C dX10_readFrom_49 ?_
              refine a_aload_n C dX10_readFrom_50 rfl ?_
              refine a_iload_n C dX10_readFrom_51 rfl ?_
              refine a_callV (as := [zI a2]) (rest := [zI (2 * (V 3 2)), zR 5]) C 1 (fun l => c8_codeAt l) h_1 ⟨_, _, rfl⟩ (by decide) ml_X10_33 im_X8_codeAt se_X8_codeAt in_X8 co_X8_codeAt (by decide +kernel) rfl ⟨Nat.le_of_ble_eq_true rfl, Nat.le_of_ble_eq_true rfl⟩ (Nat.le_of_ble_eq_true rfl) dX10_readFrom_52 ⟨hnc.1, hnc.2⟩ ?_
              refine ⟨a2, _, rfl, hP1, hK, fun r52 V52 hK => ?_⟩
              try dsimp only [Option.toList, List.cons_append, List.nil_append]
              refine a_bipush C dX10_readFrom_55 (by decide) ?_
              refine a_isub C dX10_readFrom_57 ?_
              obtain ⟨q53, hK⟩ := hK
              obtain ⟨q54, hK⟩ := hK
              refine a_iast C h_5 dX10_readFrom_58 (by decide) ⟨q53, q54⟩ ?_
              refine a_aload_n C dX10_readFrom_59 rfl ?_
              refine a_getR C fl_X10_17_10 h_3 rfl g_3_1 dX10_readFrom_60 ?_
              refine a_iconst C dX10_readFrom_63 ?_
              refine a_aload_n C dX10_readFrom_64 rfl ?_
              refine a_getI C fl_X10_21_10 h_3 rfl dX10_readFrom_65 (fun r55 => ?_)
              refine a_imul C dX10_readFrom_68 ?_
              refine a_iconst C dX10_readFrom_69 ?_
              refine a_iadd C dX10_readFrom_70 ?_
              refine a_aload_n C dX10_readFrom_71 rfl ?_
              refine a_iload_n C dX10_readFrom_72 rfl ?_
              refine a_iconst C dX10_readFrom_73 ?_
              refine a_iadd C dX10_readFrom_74 ?_
              refine a_callV (as := [zI (a2 + 1)]) (rest := [zI ((2 * ((vset V52 5 ((2 * (V 3 2))).toNat (r52 - 48)) 3 2)) + 1), zR 5]) C 1 (fun l => c8_codeAt l) h_1 ⟨_, _, rfl⟩ (by decide) ml_X10_33 im_X8_codeAt se_X8_codeAt in_X8 co_X8_codeAt (by decide +kernel) rfl ⟨Nat.le_of_ble_eq_true rfl, Nat.le_of_ble_eq_true rfl⟩ (Nat.le_of_ble_eq_true rfl) dX10_readFrom_75 ⟨hnc.1, hnc.2⟩ ?_
              refine ⟨(a2 + 1), _, rfl, hP1, hK, fun r75 V75 hK => ?_⟩
              try dsimp only [Option.toList, List.cons_append, List.nil_append]
              refine a_bipush C dX10_readFrom_78 (by decide) ?_
              refine a_isub C dX10_readFrom_80 ?_
              obtain ⟨q56, hK⟩ := hK
              obtain ⟨q57, hK⟩ := hK
              refine a_iast C h_5 dX10_readFrom_81 (by decide) ⟨q56, q57⟩ ?_
              refine a_aload_n C dX10_readFrom_82 rfl ?_
              refine a_getR C fl_X10_11_10 h_3 rfl g_3_0 dX10_readFrom_83 ?_
              refine a_aload_n C dX10_readFrom_86 rfl ?_
              refine a_getI C fl_X10_21_10 h_3 rfl dX10_readFrom_87 (fun r58 => ?_)
              refine a_iload_n C dX10_readFrom_90 rfl ?_
              refine a_aload_n C dX10_readFrom_91 rfl ?_
              refine a_iload_n C dX10_readFrom_92 rfl ?_
              refine a_iconst C dX10_readFrom_93 ?_
              refine a_iadd C dX10_readFrom_94 ?_
              refine a_callV (as := [zI (a2 + 2)]) (rest := [zI a3, zI ((vset V75 5 (((2 * ((vset V52 5 ((2 * (V 3 2))).toNat (r52 - 48)) 3 2)) + 1)).toNat (r75 - 48)) 3 2), zR 4]) C 1 (fun l => c8_codeAt l) h_1 ⟨_, _, rfl⟩ (by decide) ml_X10_33 im_X8_codeAt se_X8_codeAt in_X8 co_X8_codeAt (by decide +kernel) rfl ⟨Nat.le_of_ble_eq_true rfl, Nat.le_of_ble_eq_true rfl⟩ (Nat.le_of_ble_eq_true rfl) dX10_readFrom_95 ⟨hnc.1, hnc.2⟩ ?_
              refine ⟨(a2 + 2), _, rfl, hP1, hK, fun r95 V95 hK => ?_⟩
              try dsimp only [Option.toList, List.cons_append, List.nil_append]
              refine a_bipush C dX10_readFrom_98 (by decide) ?_
              refine a_isub C dX10_readFrom_100 ?_
              obtain ⟨q59, hK⟩ := hK
              obtain ⟨q60, hK⟩ := hK
              obtain ⟨q61, hK⟩ := hK
              obtain ⟨q62, hK⟩ := hK
              refine a_feudNew C hLl q59 q60 q61 q62.1 q62.2 ?_
              have hk := hk.addF (i := (((vset V75 5 (((2 * ((vset V52 5 ((2 * (V 3 2))).toNat (r52 - 48)) 3 2)) + 1)).toNat (r75 - 48)) 3 2)).toNat) (by omega) (tgK_ft a3) (r95 - 48)
              have hP1 := hP1.addF (i := (((vset V75 5 (((2 * ((vset V52 5 ((2 * (V 3 2))).toNat (r52 - 48)) 3 2)) + 1)).toNat (r75 - 48)) 3 2)).toNat) (tgK a3) (r95 - 48)
              have hLl := hk.2.2
              have hnc := q62
              have hLl := hk.2.2
              obtain ⟨w_3, r_3, h_3, g_3_0, g_3_1⟩ := PSl_3 hLl
              obtain ⟨w_1, r_1, h_1, g_1_0⟩ := PSp_1 hP1
              obtain ⟨r_5, h_5⟩ := PSl_5 hLl
              refine a_aload_n C dX10_readFrom_105 rfl ?_
              refine a_dup C dX10_readFrom_106 rfl ?_
              refine a_getI C fl_X10_21_10 h_3 rfl dX10_readFrom_107 (fun r63 => ?_)
              refine a_iconst C dX10_readFrom_110 ?_
              refine a_iadd C dX10_readFrom_111 ?_
              obtain ⟨q64, hK⟩ := hK
              refine a_putI C fl_X10_21_10 (Or.inl rfl) h_3 rfl dX10_readFrom_112 ⟨q64, fun q => by cases q⟩ ?_
              refine a_iinc C dX10_readFrom_115 rfl (Nat.le_of_ble_eq_true rfl) ?_
              refine a_goto C 7 dX10_readFrom_118 (by decide) ?_
              exact a_ls (lsub_s rfl (lsub_s rfl (lsub_s rfl (lsub_n lsub_0)))) (ih7 _ _ (a2 + 4) _ _ hk hP1 hnc hK)
            refine a_aload_n C dX10_readFrom_24 rfl ?_
            refine a_iload_n C dX10_readFrom_25 rfl ?_
            refine a_callV (as := [zI a2]) (rest := []) C 1 (fun l => c8_codeAt l) h_1 ⟨_, _, rfl⟩ (by decide) ml_X10_33 im_X8_codeAt se_X8_codeAt in_X8 co_X8_codeAt (by decide +kernel) rfl ⟨Nat.le_of_ble_eq_true rfl, Nat.le_of_ble_eq_true rfl⟩ (Nat.le_of_ble_eq_true rfl) dX10_readFrom_26 ⟨hnc.1, hnc.2⟩ ?_
            refine ⟨a2, _, rfl, hP1, hK, fun r26 V26 hK => ?_⟩
            try dsimp only [Option.toList, List.cons_append, List.nil_append]
            refine a_callS (as := [zI r26]) (rest := []) C 1 (fun l => c10_kindOfLetter l) ml_X10_37 sa_X10_kindOfLetter in_X10 co_X10_kindOfLetter (by decide +kernel) rfl ⟨Nat.le_of_ble_eq_true rfl, Nat.le_of_ble_eq_true rfl⟩ (Nat.le_of_ble_eq_true rfl) dX10_readFrom_29 ⟨hnc.1, hnc.2⟩ ?_
            refine ⟨r26, _, rfl, hK, fun r29 V29 hK => ?_⟩
            try dsimp only [Option.toList, List.cons_append, List.nil_append]
            refine a_istore_n C dX10_readFrom_32 (Nat.le_of_ble_eq_true rfl) ?_
            refine a_iload_n C dX10_readFrom_33 rfl ?_
            obtain ⟨q65, hK⟩ := hK
            refine a_if_eq C 40 dX10_readFrom_34 (by decide) q65 (fun q66 => ?_) (fun q66 => ?_)
            · replace hK := hK.1 q66
              exact a_ls (lsub_s rfl (lsub_s rfl (lsub_s rfl (lsub_s rfl lsub_0)))) (J40 _ _ a2 r29 _ _ hk hP1 hnc hK)
            · replace hK := hK.2 q66
              refine a_iinc C dX10_readFrom_37 rfl (Nat.le_of_ble_eq_true rfl) ?_
              exact a_ls (lsub_s rfl (lsub_s rfl (lsub_s rfl (lsub_s rfl lsub_0)))) (J40 _ _ (a2 + 1) r29 _ _ hk hP1 hnc hK)
    refine a_iconst C dX10_readFrom_0 ?_
    refine a_istore_n C dX10_readFrom_1 (Nat.le_of_ble_eq_true rfl) ?_
    refine a_aload_n C dX10_readFrom_2 rfl ?_
    refine a_iconst C dX10_readFrom_3 ?_
    refine a_putI C fl_X10_21_10 (Or.inl rfl) h_3 rfl dX10_readFrom_4 ⟨⟨by decide, by decide⟩, fun q => by cases q⟩ ?_
    obtain ⟨nn67, hK⟩ := hK
    exact a_ls (lsub_s rfl (lsub_s rfl (lsub_s rfl (lsub_n lsub_0)))) (L7 nn67 _ _ 0 _ _ hk hP1 hnc hK)
  exact H S (keepS_rf hLl) hpost
def m11_list (S : List zC) (V : zV) (Q : Int → List zC → zV → Prop) : Prop :=
  m8_isList V (fun r4 V4 => (inR r4) ∧ ((¬ r4 = 0 → m10_readFrom S V4 (fun S21 V21 => m8_wipe V21 (fun r28 V28 => m4_begin S21 14 V28 (fun V36 => (inR (((vset V36 0 8 0) 0 9) + 1)) ∧ Q ((vset (vset V36 0 8 0) 0 9 (((vset V36 0 8 0) 0 9) + 1)) 3 2) S21 (vset (vset V36 0 8 0) 0 9 (((vset V36 0 8 0) 0 9) + 1)))))) ∧ (r4 = 0 → Q (-103) S V4)))
def t11_list : zT := fun as S V post => ∃ (Q : Int → List zC → zV → Prop), as = [zR 0] ∧ PSx S ∧ m11_list S V Q ∧ (∀ r S2 V2, keepS S S2 → Q r S2 V2 → post (some (zI r)) S2 V2)
set_option maxHeartbeats 4000000 in
set_option maxRecDepth 20000 in
theorem c11_list (l : Launch) : zCT l yX11_list cX11_list 1 (some .int) { frames := 6, cells := 8, slots := 8, locals := 119 } t11_list := by
  refine zCT_of (by decide) (fun as S V post h => by obtain ⟨Q, rfl, -⟩ := h; exact Nat.le_of_ble_eq_true rfl) ?_
  intro X S V as post C E hT
  obtain ⟨Q, rfl, hX, hK, hpost⟩ := hT
  have H : ∀ S0 : List zC, keepS S0 S → (∀ r S2 V2, keepS S0 S2 → Q r S2 V2 → post (some (zI r)) S2 V2) → zW X S V 0 0 [some (zR 0)] [] 0 := by
    intro S0 hk hpost
    have hnc : (0 : Nat) ≤ 8 ∧ (0 : Nat) ≤ 8 := by decide
    obtain ⟨w_0, r_0, h_0, g_0_0, g_0_1, g_0_2, g_0_3, g_0_4, g_0_5, g_0_6, g_0_7⟩ := PSx_0 hX
    obtain ⟨w_1, r_1, h_1, g_1_0⟩ := PSp_1 (PSx_p hX)
    obtain ⟨w_3, r_3, h_3, g_3_0, g_3_1⟩ := PSl_3 (PSi_l (PSx_i14 hX))
    obtain ⟨w_14, r_14, h_14, g_14_0, g_14_1, g_14_2, g_14_3, g_14_4, g_14_5, g_14_6, g_14_7, g_14_8, g_14_10, g_14_11⟩ := PSi_o (PSx_i14 hX)
    unfold m11_list at hK
    refine a_aload_n C dX11_list_0 rfl ?_
    refine a_getR C fl_X11_10_11 h_0 rfl g_0_0 dX11_list_1 ?_
    refine a_callV (as := []) (rest := []) C 0 (fun l => c8_isList l) h_1 ⟨_, _, rfl⟩ (by decide) ml_X11_84 im_X8_isList se_X8_isList in_X8 co_X8_isList (by decide +kernel) rfl ⟨Nat.le_of_ble_eq_true rfl, Nat.le_of_ble_eq_true rfl⟩ (Nat.le_of_ble_eq_true rfl) dX11_list_4 ⟨by decide, by decide⟩ ?_
    refine ⟨_, rfl, (PSx_p hX), hK, fun r4 V4 hK => ?_⟩
    try dsimp only [Option.toList, List.cons_append, List.nil_append]
    obtain ⟨q1, hK⟩ := hK
    refine a_if_ne C 13 dX11_list_7 (by decide) q1 (fun q2 => ?_) (fun q2 => ?_)
    · replace hK := hK.1 q2
      refine a_aload_n C dX11_list_13 rfl ?_
      refine a_getR C fl_X11_19_11 h_0 rfl g_0_1 dX11_list_14 ?_
      refine a_aload_n C dX11_list_17 rfl ?_
      refine a_getR C fl_X11_10_11 h_0 rfl g_0_0 dX11_list_18 ?_
      refine a_callV (as := [zR 1]) (rest := []) C 1 (fun l => c10_readFrom l) h_3 ⟨_, _, rfl⟩ (by decide) ml_X11_88 im_X10_readFrom se_X10_readFrom in_X10 co_X10_readFrom (by decide +kernel) rfl ⟨Nat.le_of_ble_eq_true rfl, Nat.le_of_ble_eq_true rfl⟩ (Nat.le_of_ble_eq_true rfl) dX11_list_21 ⟨by decide, by decide⟩ ?_
      refine ⟨_, rfl, (PSi_l (PSx_i14 hX)), (PSx_p hX), hK, fun S21 V21 hk2 hK => ?_⟩
      have hX := hX.keep hk2
      have hk := hk.trans hk2
      obtain ⟨w_0, r_0, h_0, g_0_0, g_0_1, g_0_2, g_0_3, g_0_4, g_0_5, g_0_6, g_0_7⟩ := PSx_0 hX
      obtain ⟨w_1, r_1, h_1, g_1_0⟩ := PSp_1 (PSx_p hX)
      obtain ⟨w_3, r_3, h_3, g_3_0, g_3_1⟩ := PSl_3 (PSi_l (PSx_i14 hX))
      obtain ⟨w_14, r_14, h_14, g_14_0, g_14_1, g_14_2, g_14_3, g_14_4, g_14_5, g_14_6, g_14_7, g_14_8, g_14_10, g_14_11⟩ := PSi_o (PSx_i14 hX)
      try dsimp only [Option.toList, List.cons_append, List.nil_append]
      refine a_aload_n C dX11_list_24 rfl ?_
      refine a_getR C fl_X11_10_11 h_0 rfl g_0_0 dX11_list_25 ?_
      refine a_callV (as := []) (rest := []) C 0 (fun l => c8_wipe l) h_1 ⟨_, _, rfl⟩ (by decide) ml_X11_74 im_X8_wipe se_X8_wipe in_X8 co_X8_wipe (by decide +kernel) rfl ⟨Nat.le_of_ble_eq_true rfl, Nat.le_of_ble_eq_true rfl⟩ (Nat.le_of_ble_eq_true rfl) dX11_list_28 ⟨by decide, by decide⟩ ?_
      refine ⟨_, rfl, (PSx_p hX), hK, fun r28 V28 hK => ?_⟩
      try dsimp only [Option.toList, List.cons_append, List.nil_append]
      refine a_pop C dX11_list_31 rfl ?_
      refine a_aload_n C dX11_list_32 rfl ?_
      refine a_getR C fl_X11_28_11 h_0 rfl g_0_2 dX11_list_33 ?_
      refine a_callV (as := []) (rest := []) C 0 (fun l => c4_begin l) h_14 ⟨_, _, rfl⟩ (by decide) ml_X11_92 im_X4_begin se_X4_begin in_X4 co_X4_begin (by decide +kernel) rfl ⟨Nat.le_of_ble_eq_true rfl, Nat.le_of_ble_eq_true rfl⟩ (Nat.le_of_ble_eq_true rfl) dX11_list_36 ⟨by decide, by decide⟩ ?_
      refine ⟨14, _, rfl, (PSx_i14 hX), hK, fun V36 hK => ?_⟩
      try dsimp only [Option.toList, List.cons_append, List.nil_append]
      refine a_aload_n C dX11_list_39 rfl ?_
      refine a_iconst C dX11_list_40 ?_
      refine a_putI C fl_X11_59_11 (Or.inr rfl) h_0 rfl dX11_list_41 ⟨⟨by decide, by decide⟩, fun _ => by decide⟩ ?_
      refine a_aload_n C dX11_list_44 rfl ?_
      refine a_dup C dX11_list_45 rfl ?_
      refine a_getI C fl_X11_63_11 h_0 rfl dX11_list_46 (fun r3 => ?_)
      refine a_iconst C dX11_list_49 ?_
      refine a_iadd C dX11_list_50 ?_
      obtain ⟨q4, hK⟩ := hK
      refine a_putI C fl_X11_63_11 (Or.inl rfl) h_0 rfl dX11_list_51 ⟨q4, fun q => by cases q⟩ ?_
      refine a_aload_n C dX11_list_54 rfl ?_
      refine a_getR C fl_X11_19_11 h_0 rfl g_0_1 dX11_list_55 ?_
      refine a_getI C fl_X11_95_10 h_3 rfl dX11_list_58 (fun r5 => ?_)
      exact a_iret C E dX11_list_61 (by decide) (by decide) (hpost _ _ _ hk hK)
    · replace hK := hK.2 q2
      refine a_bipush C dX11_list_10 (by decide) ?_
      exact a_iret C E dX11_list_12 (by decide) (by decide) (hpost _ _ _ hk hK)
  exact H S (keepS_rf (PSi_l (PSx_i14 hX))) hpost
