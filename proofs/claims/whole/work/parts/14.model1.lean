def m12_in  (V : zV) (a0 : Int) (a2 : Int) (a4 : Int) (Q : Int → zV → Prop) : Prop :=
  (inL a0) ∧ (inL a2) ∧ ((a0 < a2 → Q 0 V) ∧ (a2 ≤ a0 → (inL a4) ∧ ((a4 < a0 → Q 0 V) ∧ (a0 ≤ a4 → Q 1 V))))
def t12_in : zT := fun as S V post => ∃ (a0 : Int) (a2 : Int) (a4 : Int) (Q : Int → zV → Prop), as = [zJ a0, zJ a2, zJ a4] ∧ m12_in V a0 a2 a4 Q ∧ (∀ r V2, Q r V2 → post (some (zI r)) S V2)
set_option maxHeartbeats 4000000 in
set_option maxRecDepth 20000 in
theorem c12_in (l : Launch) : zCT l yX12_in cX12_in 6 (some .boolean) { frames := 0, cells := 0, slots := 0, locals := 0 } t12_in := by
  refine zCT_of (by decide) (fun as S V post h => by obtain ⟨a0, a2, a4, Q, rfl, -⟩ := h; exact Nat.le_of_ble_eq_true rfl) ?_
  intro X S V as post C E hT
  obtain ⟨a0, a2, a4, Q, rfl, hK, hpost⟩ := hT
  show zW X S V 0 0 [some (zJ a0), none, some (zJ a2), none, some (zJ a4), none] [] 0
  unfold m12_in at hK
  refine a_lload_n C dX12_in_0 rfl ?_
  refine a_lload_n C dX12_in_1 rfl ?_
  obtain ⟨q1, hK⟩ := hK
  obtain ⟨q2, hK⟩ := hK
  refine a_lcmp_lt C 17 dX12_in_2 dX12_in_3 (by decide) ⟨q1, q2⟩ (fun q3 => ?_) (fun q3 => ?_)
  · replace hK := hK.1 q3
    refine a_iconst C dX12_in_17 ?_
    exact a_zret C E dX12_in_18 (Nat.le_refl _) (Nat.le_refl _) (by decide) (hpost _ _ hK)
  · replace hK := hK.2 q3
    refine a_lload_n C dX12_in_6 rfl ?_
    refine a_lload C dX12_in_7 rfl ?_
    obtain ⟨q4, hK⟩ := hK
    refine a_lcmp_gt C 17 dX12_in_9 dX12_in_10 (by decide) ⟨q1, q4⟩ (fun q5 => ?_) (fun q5 => ?_)
    · replace hK := hK.1 q5
      refine a_iconst C dX12_in_17 ?_
      exact a_zret C E dX12_in_18 (Nat.le_refl _) (Nat.le_refl _) (by decide) (hpost _ _ hK)
    · replace hK := hK.2 q5
      refine a_iconst C dX12_in_13 ?_
      refine a_goto C 18 dX12_in_14 (by decide) ?_
      exact a_zret C E dX12_in_18 (Nat.le_refl _) (Nat.le_refl _) (by decide) (hpost _ _ hK)

def m12_letter  (V : zV) (a1 : Int) (Q : Int → zV → Prop) : Prop :=
  (inR a1) ∧ m12_in V a1 1 126 (fun r6 V6 => (inR r6) ∧ ((¬ r6 = 0 → ((¬ (V6 53 1) = 40 → (0 ≤ (V6 53 1) ∧ (V6 53 1) < 40) ∧ (inR (((vset V6 54 ((V6 53 1)).toNat a1) 53 1) + 1)) ∧ Q ((vset (vset V6 54 ((V6 53 1)).toNat a1) 53 1 (((vset V6 54 ((V6 53 1)).toNat a1) 53 1) + 1)) 53 1) (vset (vset V6 54 ((V6 53 1)).toNat a1) 53 1 (((vset V6 54 ((V6 53 1)).toNat a1) 53 1) + 1))) ∧ ((V6 53 1) = 40 → Q (-104) V6))) ∧ (r6 = 0 → Q (-102) V6)))
def t12_letter : zT := fun as S V post => ∃ (a1 : Int) (Q : Int → zV → Prop), as = [zR 53, zI a1] ∧ PSm S ∧ m12_letter V a1 Q ∧ (∀ r V2, Q r V2 → post (some (zI r)) S V2)
set_option maxHeartbeats 4000000 in
set_option maxRecDepth 20000 in
theorem c12_letter (l : Launch) : zCT l yX12_letter cX12_letter 2 (some .int) { frames := 1, cells := 0, slots := 0, locals := 25 } t12_letter := by
  refine zCT_of (by decide) (fun as S V post h => by obtain ⟨a1, Q, rfl, -⟩ := h; exact Nat.le_of_ble_eq_true rfl) ?_
  intro X S V as post C E hT
  obtain ⟨a1, Q, rfl, hM, hK, hpost⟩ := hT
  obtain ⟨w_53, r_53, h_53, g_53_0, g_53_2, g_53_7, g_53_8, g_53_10, g_53_11, g_53_12, g_53_13, g_53_14, g_53_16, g_53_21, g_53_22, g_53_23, g_53_24⟩ := PSm_53 hM
  obtain ⟨r_54, h_54⟩ := PSm_54 hM
  show zW X S V 0 0 [some (zR 53), some (zI a1)] [] 0
  unfold m12_letter at hK
  refine a_iload_n C dX12_letter_0 rfl ?_
  obtain ⟨q1, hK⟩ := hK
  refine a_i2l C dX12_letter_1 q1 ?_
  refine a_lconst C 1 dX12_letter_2 (by decide) ?_
  refine a_ldc2 C kl_X12_60 dX12_letter_3 ?_
  refine a_callS (as := [zJ a1, zJ 1, zJ 126]) (rest := []) C 3 (fun l => c12_in l) ml_X12_62 sa_X12_in in_X12 co_X12_in (by decide +kernel) rfl ⟨Nat.le_of_ble_eq_true rfl, Nat.le_of_ble_eq_true rfl⟩ (Nat.le_of_ble_eq_true rfl) dX12_letter_6 ⟨Nat.le_of_ble_eq_true rfl, Nat.le_of_ble_eq_true rfl⟩ ?_
  refine ⟨a1, 1, 126, _, rfl, hK, fun r6 V6 hK => ?_⟩
  try dsimp only [Option.toList, List.cons_append, List.nil_append]
  obtain ⟨q2, hK⟩ := hK
  refine a_if_ne C 15 dX12_letter_9 (by decide) q2 (fun q3 => ?_) (fun q3 => ?_)
  · replace hK := hK.1 q3
    refine a_aload_n C dX12_letter_15 rfl ?_
    refine a_getI C fl_X12_66_12 h_53 rfl dX12_letter_16 (fun r4 => ?_)
    refine a_bipush C dX12_letter_19 (by decide) ?_
    refine a_icmp_ne C 27 dX12_letter_21 (by decide) ⟨r4, ⟨by decide, by decide⟩⟩ (fun q5 => ?_) (fun q5 => ?_)
    · replace hK := hK.1 q5
      refine a_aload_n C dX12_letter_27 rfl ?_
      refine a_getR C fl_X12_7_12 h_53 rfl g_53_0 dX12_letter_28 ?_
      refine a_aload_n C dX12_letter_31 rfl ?_
      refine a_getI C fl_X12_66_12 h_53 rfl dX12_letter_32 (fun r6 => ?_)
      refine a_iload_n C dX12_letter_35 rfl ?_
      obtain ⟨q7, hK⟩ := hK
      refine a_iast C h_54 dX12_letter_36 (by decide) ⟨q7, q1⟩ ?_
      refine a_aload_n C dX12_letter_37 rfl ?_
      refine a_dup C dX12_letter_38 rfl ?_
      refine a_getI C fl_X12_66_12 h_53 rfl dX12_letter_39 (fun r8 => ?_)
      refine a_iconst C dX12_letter_42 ?_
      refine a_iadd C dX12_letter_43 ?_
      obtain ⟨q9, hK⟩ := hK
      refine a_putI C fl_X12_66_12 (Or.inl rfl) h_53 rfl dX12_letter_44 ⟨q9, fun q => by cases q⟩ ?_
      refine a_aload_n C dX12_letter_47 rfl ?_
      refine a_getI C fl_X12_66_12 h_53 rfl dX12_letter_48 (fun r10 => ?_)
      exact a_iret C E dX12_letter_51 (Nat.le_refl _) (Nat.le_refl _) (hpost _ _ hK)
    · replace hK := hK.2 q5
      refine a_bipush C dX12_letter_24 (by decide) ?_
      exact a_iret C E dX12_letter_26 (Nat.le_refl _) (Nat.le_refl _) (hpost _ _ hK)
  · replace hK := hK.2 q3
    refine a_bipush C dX12_letter_12 (by decide) ?_
    exact a_iret C E dX12_letter_14 (Nat.le_refl _) (Nat.le_refl _) (hpost _ _ hK)

def m12_blank  (V : zV)  (Q : Int → zV → Prop) : Prop :=
  Q (V 53 1) (vset V 53 1 0)
def t12_blank : zT := fun as S V post => ∃ (Q : Int → zV → Prop), as = [zR 53] ∧ PSm S ∧ m12_blank V Q ∧ (∀ r V2, Q r V2 → post (some (zI r)) S V2)
set_option maxHeartbeats 4000000 in
set_option maxRecDepth 20000 in
theorem c12_blank (l : Launch) : zCT l yX12_blank cX12_blank 2 (some .int) { frames := 0, cells := 0, slots := 0, locals := 0 } t12_blank := by
  refine zCT_of (by decide) (fun as S V post h => by obtain ⟨Q, rfl, -⟩ := h; exact Nat.le_of_ble_eq_true rfl) ?_
  intro X S V as post C E hT
  obtain ⟨Q, rfl, hM, hK, hpost⟩ := hT
  obtain ⟨w_53, r_53, h_53, g_53_0, g_53_2, g_53_7, g_53_8, g_53_10, g_53_11, g_53_12, g_53_13, g_53_14, g_53_16, g_53_21, g_53_22, g_53_23, g_53_24⟩ := PSm_53 hM
  show zW X S V 0 0 [some (zR 53), none] [] 0
  unfold m12_blank at hK
  refine a_aload_n C dX12_blank_0 rfl ?_
  refine a_getI C fl_X12_66_12 h_53 rfl dX12_blank_1 (fun r1 => ?_)
  refine a_istore_n C dX12_blank_4 (Nat.le_of_ble_eq_true rfl) ?_
  refine a_aload_n C dX12_blank_5 rfl ?_
  refine a_iconst C dX12_blank_6 ?_
  refine a_putI C fl_X12_66_12 (Or.inl rfl) h_53 rfl dX12_blank_7 ⟨⟨by decide, by decide⟩, fun q => by cases q⟩ ?_
  refine a_iload_n C dX12_blank_10 rfl ?_
  exact a_iret C E dX12_blank_11 (Nat.le_refl _) (Nat.le_refl _) (hpost _ _ hK)

def m12_kindBy  (V : zV) (a0 : Int) (Q : Int → zV → Prop) : Prop :=
  (inR a0) ∧ ((¬ a0 = 98 → ((¬ a0 = 106 → ((¬ a0 = 103 → ((¬ a0 = 112 → Q 0 V) ∧ (a0 = 112 → Q 4 V))) ∧ (a0 = 103 → Q 3 V))) ∧ (a0 = 106 → Q 2 V))) ∧ (a0 = 98 → Q 1 V))
def t12_kindBy : zT := fun as S V post => ∃ (a0 : Int) (Q : Int → zV → Prop), as = [zI a0] ∧ m12_kindBy V a0 Q ∧ (∀ r V2, Q r V2 → post (some (zI r)) S V2)
set_option maxHeartbeats 4000000 in
set_option maxRecDepth 20000 in
theorem c12_kindBy (l : Launch) : zCT l yX12_kindBy cX12_kindBy 1 (some .int) { frames := 0, cells := 0, slots := 0, locals := 0 } t12_kindBy := by
  refine zCT_of (by decide) (fun as S V post h => by obtain ⟨a0, Q, rfl, -⟩ := h; exact Nat.le_of_ble_eq_true rfl) ?_
  intro X S V as post C E hT
  obtain ⟨a0, Q, rfl, hK, hpost⟩ := hT
  show zW X S V 0 0 [some (zI a0)] [] 0
  unfold m12_kindBy at hK
  refine a_iload_n C dX12_kindBy_0 rfl ?_
  refine a_bipush C dX12_kindBy_1 (by decide) ?_
  obtain ⟨q1, hK⟩ := hK
  refine a_icmp_ne C 10 dX12_kindBy_3 (by decide) ⟨q1, ⟨by decide, by decide⟩⟩ (fun q2 => ?_) (fun q2 => ?_)
  · replace hK := hK.1 q2
    refine a_iload_n C dX12_kindBy_10 rfl ?_
    refine a_bipush C dX12_kindBy_11 (by decide) ?_
    refine a_icmp_ne C 20 dX12_kindBy_13 (by decide) ⟨q1, ⟨by decide, by decide⟩⟩ (fun q3 => ?_) (fun q3 => ?_)
    · replace hK := hK.1 q3
      refine a_iload_n C dX12_kindBy_20 rfl ?_
      refine a_bipush C dX12_kindBy_21 (by decide) ?_
      refine a_icmp_ne C 30 dX12_kindBy_23 (by decide) ⟨q1, ⟨by decide, by decide⟩⟩ (fun q4 => ?_) (fun q4 => ?_)
      · replace hK := hK.1 q4
        refine a_iload_n C dX12_kindBy_30 rfl ?_
        refine a_bipush C dX12_kindBy_31 (by decide) ?_
        refine a_icmp_ne C 40 dX12_kindBy_33 (by decide) ⟨q1, ⟨by decide, by decide⟩⟩ (fun q5 => ?_) (fun q5 => ?_)
        · replace hK := hK.1 q5
          refine a_iconst C dX12_kindBy_40 ?_
          exact a_iret C E dX12_kindBy_41 (Nat.le_refl _) (Nat.le_refl _) (hpost _ _ hK)
        · replace hK := hK.2 q5
          refine a_iconst C dX12_kindBy_36 ?_
          refine a_goto C 41 dX12_kindBy_37 (by decide) ?_
          exact a_iret C E dX12_kindBy_41 (Nat.le_refl _) (Nat.le_refl _) (hpost _ _ hK)
      · replace hK := hK.2 q4
        refine a_iconst C dX12_kindBy_26 ?_
        refine a_goto C 41 dX12_kindBy_27 (by decide) ?_
        exact a_iret C E dX12_kindBy_41 (Nat.le_refl _) (Nat.le_refl _) (hpost _ _ hK)
    · replace hK := hK.2 q3
      refine a_iconst C dX12_kindBy_16 ?_
      refine a_goto C 41 dX12_kindBy_17 (by decide) ?_
      exact a_iret C E dX12_kindBy_41 (Nat.le_refl _) (Nat.le_refl _) (hpost _ _ hK)
  · replace hK := hK.2 q2
    refine a_iconst C dX12_kindBy_6 ?_
    refine a_goto C 41 dX12_kindBy_7 (by decide) ?_
    exact a_iret C E dX12_kindBy_41 (Nat.le_refl _) (Nat.le_refl _) (hpost _ _ hK)

def m12_go_J173  (Q : Int → zV → Prop) (a2 : Int) (a3 : Int) (V : zV) : Prop :=
  (0 ≤ (a3 + 1) ∧ (a3 + 1) < 32) ∧ (inR a2) ∧ m12_in (vset (vset V 55 ((a3 + 1)).toNat a2) 53 4 2) a2 0 5 (fun r193 V193 => (r193 = 0 ∨ r193 = 1) ∧ Q r193 V193)
def m12_go  (V : zV) (a1 : Int) (Q : Int → zV → Prop) : Prop :=
  ((¬ (V 53 4) = 4 → ((¬ (V 53 4) = 3 → ((¬ (V 53 4) = 2 → ((¬ (V 53 4) = 0 → m12_go_J173  Q (a1 - 48) (4 * (V 53 3)) V) ∧ ((V 53 4) = 0 → m12_kindBy V a1 (fun r153 V153 => (0 ≤ (4 * (V 53 3)) ∧ (4 * (V 53 3)) < 32) ∧ (inR r153) ∧ (0 ≤ (4 * (V 53 3)) ∧ (4 * (V 53 3)) < 32) ∧ ((((vset V153 55 ((4 * (V 53 3))).toNat r153) 55 ((4 * (V 53 3))).toNat) ≤ 0 → m12_go_J173  Q (a1 - 48) (4 * (V 53 3)) (vset V153 55 ((4 * (V 53 3))).toNat r153)) ∧ (0 < ((vset V153 55 ((4 * (V 53 3))).toNat r153) 55 ((4 * (V 53 3))).toNat) → Q 1 (vset (vset V153 55 ((4 * (V 53 3))).toNat r153) 53 4 1))))))) ∧ ((V 53 4) = 2 → (0 ≤ ((4 * (V 53 3)) + 2) ∧ ((4 * (V 53 3)) + 2) < 32) ∧ (inR (a1 - 48)) ∧ m12_in (vset (vset V 55 (((4 * (V 53 3)) + 2)).toNat (a1 - 48)) 53 4 3) (a1 - 48) 0 5 (fun r116 V116 => (inR r116) ∧ ((r116 = 0 → Q 0 V116) ∧ (¬ r116 = 0 → (0 ≤ ((4 * (V 53 3)) + 1) ∧ ((4 * (V 53 3)) + 1) < 32) ∧ (((a1 - 48) = (V116 55 (((4 * (V 53 3)) + 1)).toNat) → Q 0 V116) ∧ (¬ (a1 - 48) = (V116 55 (((4 * (V 53 3)) + 1)).toNat) → Q 1 V116)))))))) ∧ ((V 53 4) = 3 → (0 ≤ ((4 * (V 53 3)) + 3) ∧ ((4 * (V 53 3)) + 3) < 32) ∧ (inR (a1 - 48)) ∧ (inR (((vset V 55 (((4 * (V 53 3)) + 3)).toNat (a1 - 48)) 53 3) + 1)) ∧ m12_in (vset (vset (vset V 55 (((4 * (V 53 3)) + 3)).toNat (a1 - 48)) 53 3 (((vset V 55 (((4 * (V 53 3)) + 3)).toNat (a1 - 48)) 53 3) + 1)) 53 4 4) (a1 - 48) 1 9 (fun r84 V84 => (r84 = 0 ∨ r84 = 1) ∧ Q r84 V84)))) ∧ ((V 53 4) = 4 → (inR a1) ∧ ((¬ a1 = 44 → Q 0 (vset V 53 4 0)) ∧ (a1 = 44 → ((8 ≤ ((vset V 53 4 0) 53 3) → Q 0 (vset V 53 4 0)) ∧ (((vset V 53 4 0) 53 3) < 8 → Q 1 (vset V 53 4 0)))))))
def t12_go : zT := fun as S V post => ∃ (a1 : Int) (Q : Int → zV → Prop), as = [zR 53, zI a1] ∧ PSm S ∧ m12_go V a1 Q ∧ (∀ r V2, Q r V2 → post (some (zI r)) S V2)
set_option maxHeartbeats 4000000 in
set_option maxRecDepth 20000 in
theorem c12_go (l : Launch) : zCT l yX12_go cX12_go 4 (some .boolean) { frames := 1, cells := 0, slots := 0, locals := 25 } t12_go := by
  refine zCT_of (by decide) (fun as S V post h => by obtain ⟨a1, Q, rfl, -⟩ := h; exact Nat.le_of_ble_eq_true rfl) ?_
  intro X S V as post C E hT
  obtain ⟨a1, Q, rfl, hM, hK, hpost⟩ := hT
  obtain ⟨w_53, r_53, h_53, g_53_0, g_53_2, g_53_7, g_53_8, g_53_10, g_53_11, g_53_12, g_53_13, g_53_14, g_53_16, g_53_21, g_53_22, g_53_23, g_53_24⟩ := PSm_53 hM
  obtain ⟨r_55, h_55⟩ := PSm_55 hM
  show zW X S V 0 0 [some (zR 53), some (zI a1), none, none] [] 0
  unfold m12_go at hK
  refine a_iload_n C dX12_go_0 rfl ?_
  refine a_bipush C dX12_go_1 (by decide) ?_
  refine a_isub C dX12_go_3 ?_
  refine a_istore_n C dX12_go_4 (Nat.le_of_ble_eq_true rfl) ?_
  refine a_iconst C dX12_go_5 ?_
  refine a_aload_n C dX12_go_6 rfl ?_
  refine a_getI C fl_X12_69_12 h_53 rfl dX12_go_7 (fun r1 => ?_)
  refine a_imul C dX12_go_10 ?_
  refine a_istore_n C dX12_go_11 (Nat.le_of_ble_eq_true rfl) ?_
  refine a_aload_n C dX12_go_12 rfl ?_
  refine a_getI C fl_X12_72_12 h_53 rfl dX12_go_13 (fun r2 => ?_)
  refine a_iconst C dX12_go_16 ?_
  refine a_icmp_ne C 46 dX12_go_17 (by decide) ⟨r2, ⟨by decide, by decide⟩⟩ (fun q3 => ?_) (fun q3 => ?_)
  · replace hK := hK.1 q3
    refine a_aload_n C dX12_go_46 rfl ?_
    refine a_getI C fl_X12_72_12 h_53 rfl dX12_go_47 (fun r4 => ?_)
    refine a_iconst C dX12_go_50 ?_
    refine a_icmp_ne C 88 dX12_go_51 (by decide) ⟨r4, ⟨by decide, by decide⟩⟩ (fun q5 => ?_) (fun q5 => ?_)
    · replace hK := hK.1 q5
      refine a_aload_n C dX12_go_88 rfl ?_
      refine a_getI C fl_X12_72_12 h_53 rfl dX12_go_89 (fun r6 => ?_)
      refine a_iconst C dX12_go_92 ?_
      refine a_icmp_ne C 140 dX12_go_93 (by decide) ⟨r6, ⟨by decide, by decide⟩⟩ (fun q7 => ?_) (fun q7 => ?_)
      · replace hK := hK.1 q7
        have J173 : ∀ (a2 : Int) (a3 : Int) (V : zV), m12_go_J173  Q a2 a3 V → zW X S V 0 0 [some (zR 53), none, some (zI a2), some (zI a3)] [] 173 := by
          intro a2 a3 V hK
          unfold m12_go_J173 at hK
          refine a_aload_n C dX12_go_173 rfl ?_
          refine a_getR C fl_X12_13_12 h_53 rfl g_53_2 dX12_go_174 ?_
          refine a_iload_n C dX12_go_177 rfl ?_
          refine a_iconst C dX12_go_178 ?_
          refine a_iadd C dX12_go_179 ?_
          refine a_iload_n C dX12_go_180 rfl ?_
          obtain ⟨q11, hK⟩ := hK
          obtain ⟨q12, hK⟩ := hK
          refine a_iast C h_55 dX12_go_181 (by decide) ⟨q11, q12⟩ ?_
          refine a_aload_n C dX12_go_182 rfl ?_
          refine a_iconst C dX12_go_183 ?_
          refine a_putI C fl_X12_72_12 (Or.inl rfl) h_53 rfl dX12_go_184 ⟨⟨by decide, by decide⟩, fun q => by cases q⟩ ?_
          refine a_iload_n C dX12_go_187 rfl ?_
          refine a_i2l C dX12_go_188 q12 ?_
          refine a_lconst C 0 dX12_go_189 (by decide) ?_
          refine a_ldc2 C kl_X12_77 dX12_go_190 ?_
          refine a_callS (as := [zJ a2, zJ 0, zJ 5]) (rest := []) C 3 (fun l => c12_in l) ml_X12_62 sa_X12_in in_X12 co_X12_in (by decide +kernel) rfl ⟨Nat.le_of_ble_eq_true rfl, Nat.le_of_ble_eq_true rfl⟩ (Nat.le_of_ble_eq_true rfl) dX12_go_193 ⟨Nat.le_of_ble_eq_true rfl, Nat.le_of_ble_eq_true rfl⟩ ?_
          refine ⟨a2, 0, 5, _, rfl, hK, fun r193 V193 hK => ?_⟩
          try dsimp only [Option.toList, List.cons_append, List.nil_append]
          obtain ⟨q13, hK⟩ := hK
          exact a_zret C E dX12_go_196 (Nat.le_refl _) (Nat.le_refl _) q13 (hpost _ _ hK)
        refine a_aload_n C dX12_go_140 rfl ?_
        refine a_getI C fl_X12_72_12 h_53 rfl dX12_go_141 (fun r14 => ?_)
        refine a_if_ne C 173 dX12_go_144 (by decide) r14 (fun q15 => ?_) (fun q15 => ?_)
        · replace hK := hK.1 q15
          exact a_ls (lsub_s rfl (lsub_n (lsub_s rfl (lsub_s rfl lsub_0)))) (J173 (a1 - 48) (4 * (V 53 3)) _ hK)
        · replace hK := hK.2 q15
          refine a_aload_n C dX12_go_147 rfl ?_
          refine a_getR C fl_X12_13_12 h_53 rfl g_53_2 dX12_go_148 ?_
          refine a_iload_n C dX12_go_151 rfl ?_
          refine a_iload_n C dX12_go_152 rfl ?_
          refine a_callS (as := [zI a1]) (rest := [zI (4 * (V 53 3)), zR 55]) C 1 (fun l => c12_kindBy l) ml_X12_79 sa_X12_kindBy in_X12 co_X12_kindBy (by decide +kernel) rfl ⟨Nat.le_of_ble_eq_true rfl, Nat.le_of_ble_eq_true rfl⟩ (Nat.le_of_ble_eq_true rfl) dX12_go_153 ⟨Nat.le_of_ble_eq_true rfl, Nat.le_of_ble_eq_true rfl⟩ ?_
          refine ⟨a1, _, rfl, hK, fun r153 V153 hK => ?_⟩
          try dsimp only [Option.toList, List.cons_append, List.nil_append]
          obtain ⟨q16, hK⟩ := hK
          obtain ⟨q17, hK⟩ := hK
          refine a_iast C h_55 dX12_go_156 (by decide) ⟨q16, q17⟩ ?_
          refine a_aload_n C dX12_go_157 rfl ?_
          refine a_getR C fl_X12_13_12 h_53 rfl g_53_2 dX12_go_158 ?_
          refine a_iload_n C dX12_go_161 rfl ?_
          obtain ⟨q18, hK⟩ := hK
          refine a_iald C h_55 dX12_go_162 (by decide) q18 (fun r19 => ?_)
          refine a_if_le C 173 dX12_go_163 (by decide) r19 (fun q20 => ?_) (fun q20 => ?_)
          · replace hK := hK.1 q20
            exact a_ls (lsub_s rfl (lsub_n (lsub_s rfl (lsub_s rfl lsub_0)))) (J173 (a1 - 48) (4 * (V 53 3)) _ hK)
          · replace hK := hK.2 q20
            refine a_aload_n C dX12_go_166 rfl ?_
            refine a_iconst C dX12_go_167 ?_
            refine a_putI C fl_X12_72_12 (Or.inl rfl) h_53 rfl dX12_go_168 ⟨⟨by decide, by decide⟩, fun q => by cases q⟩ ?_
            refine a_iconst C dX12_go_171 ?_
            exact a_zret C E dX12_go_172 (Nat.le_refl _) (Nat.le_refl _) (by decide) (hpost _ _ hK)
      · replace hK := hK.2 q7
        refine a_aload_n C dX12_go_96 rfl ?_
        refine a_getR C fl_X12_13_12 h_53 rfl g_53_2 dX12_go_97 ?_
        refine a_iload_n C dX12_go_100 rfl ?_
        refine a_iconst C dX12_go_101 ?_
        refine a_iadd C dX12_go_102 ?_
        refine a_iload_n C dX12_go_103 rfl ?_
        obtain ⟨q21, hK⟩ := hK
        obtain ⟨q22, hK⟩ := hK
        refine a_iast C h_55 dX12_go_104 (by decide) ⟨q21, q22⟩ ?_
        refine a_aload_n C dX12_go_105 rfl ?_
        refine a_iconst C dX12_go_106 ?_
        refine a_putI C fl_X12_72_12 (Or.inl rfl) h_53 rfl dX12_go_107 ⟨⟨by decide, by decide⟩, fun q => by cases q⟩ ?_
        refine a_iload_n C dX12_go_110 rfl ?_
        refine a_i2l C dX12_go_111 q22 ?_
        refine a_lconst C 0 dX12_go_112 (by decide) ?_
        refine a_ldc2 C kl_X12_77 dX12_go_113 ?_
        refine a_callS (as := [zJ (a1 - 48), zJ 0, zJ 5]) (rest := []) C 3 (fun l => c12_in l) ml_X12_62 sa_X12_in in_X12 co_X12_in (by decide +kernel) rfl ⟨Nat.le_of_ble_eq_true rfl, Nat.le_of_ble_eq_true rfl⟩ (Nat.le_of_ble_eq_true rfl) dX12_go_116 ⟨Nat.le_of_ble_eq_true rfl, Nat.le_of_ble_eq_true rfl⟩ ?_
        refine ⟨(a1 - 48), 0, 5, _, rfl, hK, fun r116 V116 hK => ?_⟩
        try dsimp only [Option.toList, List.cons_append, List.nil_append]
        obtain ⟨q23, hK⟩ := hK
        refine a_if_eq C 138 dX12_go_119 (by decide) q23 (fun q24 => ?_) (fun q24 => ?_)
        · replace hK := hK.1 q24
          refine a_iconst C dX12_go_138 ?_
          exact a_zret C E dX12_go_139 (Nat.le_refl _) (Nat.le_refl _) (by decide) (hpost _ _ hK)
        · replace hK := hK.2 q24
          refine a_iload_n C dX12_go_122 rfl ?_
          refine a_aload_n C dX12_go_123 rfl ?_
          refine a_getR C fl_X12_13_12 h_53 rfl g_53_2 dX12_go_124 ?_
          refine a_iload_n C dX12_go_127 rfl ?_
          refine a_iconst C dX12_go_128 ?_
          refine a_iadd C dX12_go_129 ?_
          obtain ⟨q25, hK⟩ := hK
          refine a_iald C h_55 dX12_go_130 (by decide) q25 (fun r26 => ?_)
          refine a_icmp_eq C 138 dX12_go_131 (by decide) ⟨q22, r26⟩ (fun q27 => ?_) (fun q27 => ?_)
          · replace hK := hK.1 q27
            refine a_iconst C dX12_go_138 ?_
            exact a_zret C E dX12_go_139 (Nat.le_refl _) (Nat.le_refl _) (by decide) (hpost _ _ hK)
          · replace hK := hK.2 q27
            refine a_iconst C dX12_go_134 ?_
            refine a_goto C 139 dX12_go_135 (by decide) ?_
            exact a_zret C E dX12_go_139 (Nat.le_refl _) (Nat.le_refl _) (by decide) (hpost _ _ hK)
    · replace hK := hK.2 q5
      refine a_aload_n C dX12_go_54 rfl ?_
      refine a_getR C fl_X12_13_12 h_53 rfl g_53_2 dX12_go_55 ?_
      refine a_iload_n C dX12_go_58 rfl ?_
      refine a_iconst C dX12_go_59 ?_
      refine a_iadd C dX12_go_60 ?_
      refine a_iload_n C dX12_go_61 rfl ?_
      obtain ⟨q28, hK⟩ := hK
      obtain ⟨q29, hK⟩ := hK
      refine a_iast C h_55 dX12_go_62 (by decide) ⟨q28, q29⟩ ?_
      refine a_aload_n C dX12_go_63 rfl ?_
      refine a_dup C dX12_go_64 rfl ?_
      refine a_getI C fl_X12_69_12 h_53 rfl dX12_go_65 (fun r30 => ?_)
      refine a_iconst C dX12_go_68 ?_
      refine a_iadd C dX12_go_69 ?_
      obtain ⟨q31, hK⟩ := hK
      refine a_putI C fl_X12_69_12 (Or.inl rfl) h_53 rfl dX12_go_70 ⟨q31, fun q => by cases q⟩ ?_
      refine a_aload_n C dX12_go_73 rfl ?_
      refine a_iconst C dX12_go_74 ?_
      refine a_putI C fl_X12_72_12 (Or.inl rfl) h_53 rfl dX12_go_75 ⟨⟨by decide, by decide⟩, fun q => by cases q⟩ ?_
      refine a_iload_n C dX12_go_78 rfl ?_
      refine a_i2l C dX12_go_79 q29 ?_
      refine a_lconst C 1 dX12_go_80 (by decide) ?_
      refine a_ldc2 C kl_X12_75 dX12_go_81 ?_
      refine a_callS (as := [zJ (a1 - 48), zJ 1, zJ 9]) (rest := []) C 3 (fun l => c12_in l) ml_X12_62 sa_X12_in in_X12 co_X12_in (by decide +kernel) rfl ⟨Nat.le_of_ble_eq_true rfl, Nat.le_of_ble_eq_true rfl⟩ (Nat.le_of_ble_eq_true rfl) dX12_go_84 ⟨Nat.le_of_ble_eq_true rfl, Nat.le_of_ble_eq_true rfl⟩ ?_
      refine ⟨(a1 - 48), 1, 9, _, rfl, hK, fun r84 V84 hK => ?_⟩
      try dsimp only [Option.toList, List.cons_append, List.nil_append]
      obtain ⟨q32, hK⟩ := hK
      exact a_zret C E dX12_go_87 (Nat.le_refl _) (Nat.le_refl _) q32 (hpost _ _ hK)
  · replace hK := hK.2 q3
    refine a_aload_n C dX12_go_20 rfl ?_
    refine a_iconst C dX12_go_21 ?_
    refine a_putI C fl_X12_72_12 (Or.inl rfl) h_53 rfl dX12_go_22 ⟨⟨by decide, by decide⟩, fun q => by cases q⟩ ?_
    refine a_iload_n C dX12_go_25 rfl ?_
    refine a_bipush C dX12_go_26 (by decide) ?_
    obtain ⟨q33, hK⟩ := hK
    refine a_icmp_ne C 44 dX12_go_28 (by decide) ⟨q33, ⟨by decide, by decide⟩⟩ (fun q34 => ?_) (fun q34 => ?_)
    · replace hK := hK.1 q34
      refine a_iconst C dX12_go_44 ?_
      exact a_zret C E dX12_go_45 (Nat.le_refl _) (Nat.le_refl _) (by decide) (hpost _ _ hK)
    · replace hK := hK.2 q34
      refine a_aload_n C dX12_go_31 rfl ?_
      refine a_getI C fl_X12_69_12 h_53 rfl dX12_go_32 (fun r35 => ?_)
      refine a_bipush C dX12_go_35 (by decide) ?_
      refine a_icmp_ge C 44 dX12_go_37 (by decide) ⟨r35, ⟨by decide, by decide⟩⟩ (fun q36 => ?_) (fun q36 => ?_)
      · replace hK := hK.1 q36
        refine a_iconst C dX12_go_44 ?_
        exact a_zret C E dX12_go_45 (Nat.le_refl _) (Nat.le_refl _) (by decide) (hpost _ _ hK)
      · replace hK := hK.2 q36
        refine a_iconst C dX12_go_40 ?_
        refine a_goto C 45 dX12_go_41 (by decide) ?_
        exact a_zret C E dX12_go_45 (Nat.le_refl _) (Nat.le_refl _) (by decide) (hpost _ _ hK)

def m12_faultOf_L12  (Q : Int → zV → Prop) : Nat → Int → zV → Prop
  | 0 => fun _ _ => False
  | n + 1 => fun a1 V => (inR a1) ∧ (((V 53 1) ≤ a1 → Q a1 V) ∧ (a1 < (V 53 1) → (0 ≤ a1 ∧ a1 < 40) ∧ m12_go V (V 54 (a1).toNat) (fun r27 V27 => (inR r27) ∧ ((r27 = 0 → Q a1 V27) ∧ (¬ r27 = 0 → m12_faultOf_L12  Q n (a1 + 1) V27)))))
def m12_faultOf  (V : zV)  (Q : Int → zV → Prop) : Prop :=
  ∃ nn15, m12_faultOf_L12  Q nn15 0 (vset (vset V 53 3 0) 53 4 0)
def t12_faultOf : zT := fun as S V post => ∃ (Q : Int → zV → Prop), as = [zR 53] ∧ PSm S ∧ m12_faultOf V Q ∧ (∀ r V2, Q r V2 → post (some (zI r)) S V2)
set_option maxHeartbeats 4000000 in
set_option maxRecDepth 20000 in
theorem c12_faultOf (l : Launch) : zCT l yX12_faultOf cX12_faultOf 2 (some .int) { frames := 2, cells := 0, slots := 0, locals := 48 } t12_faultOf := by
  refine zCT_of (by decide) (fun as S V post h => by obtain ⟨Q, rfl, -⟩ := h; exact Nat.le_of_ble_eq_true rfl) ?_
  intro X S V as post C E hT
  obtain ⟨Q, rfl, hM, hK, hpost⟩ := hT
  obtain ⟨w_53, r_53, h_53, g_53_0, g_53_2, g_53_7, g_53_8, g_53_10, g_53_11, g_53_12, g_53_13, g_53_14, g_53_16, g_53_21, g_53_22, g_53_23, g_53_24⟩ := PSm_53 hM
  obtain ⟨r_54, h_54⟩ := PSm_54 hM
  show zW X S V 0 0 [some (zR 53), none] [] 0
  unfold m12_faultOf at hK
  have L12 : ∀ (n : Nat) (a1 : Int) (V : zV), m12_faultOf_L12  Q n a1 V → zW X S V 0 0 [some (zR 53), some (zI a1)] [] 12 := by
    intro n12
    induction n12 with
    | zero => intro _ _ hK; exact hK.elim
    | succ n12 ih12 =>
      intro a1 V hK
      unfold m12_faultOf_L12 at hK
      refine a_iload_n C dX12_faultOf_12 rfl ?_
      refine a_aload_n C dX12_faultOf_13 rfl ?_
      refine a_getI C fl_X12_66_12 h_53 rfl dX12_faultOf_14 (fun r8 => ?_)
      obtain ⟨q9, hK⟩ := hK
      refine a_icmp_ge C 39 dX12_faultOf_17 (by decide) ⟨q9, r8⟩ (fun q10 => ?_) (fun q10 => ?_)
      · replace hK := hK.1 q10
        refine a_iload_n C dX12_faultOf_39 rfl ?_
        exact a_iret C E dX12_faultOf_40 (Nat.le_refl _) (Nat.le_refl _) (hpost _ _ hK)
      · replace hK := hK.2 q10
        refine a_aload_n C dX12_faultOf_20 rfl ?_
        refine a_aload_n C dX12_faultOf_21 rfl ?_
        refine a_getR C fl_X12_7_12 h_53 rfl g_53_0 dX12_faultOf_22 ?_
        refine a_iload_n C dX12_faultOf_25 rfl ?_
        obtain ⟨q11, hK⟩ := hK
        refine a_iald C h_54 dX12_faultOf_26 (by decide) q11 (fun r12 => ?_)
        refine a_callV (as := [zI (V 54 (a1).toNat)]) (rest := []) C 1 (fun l => c12_go l) h_53 ⟨_, _, rfl⟩ (by decide) ml_X12_83 im_X12_go se_X12_go in_X12 co_X12_go (by decide +kernel) rfl ⟨Nat.le_of_ble_eq_true rfl, Nat.le_of_ble_eq_true rfl⟩ (Nat.le_of_ble_eq_true rfl) dX12_faultOf_27 ⟨Nat.le_of_ble_eq_true rfl, Nat.le_of_ble_eq_true rfl⟩ ?_
        refine ⟨(V 54 (a1).toNat), _, rfl, hM, hK, fun r27 V27 hK => ?_⟩
        try dsimp only [Option.toList, List.cons_append, List.nil_append]
        obtain ⟨q13, hK⟩ := hK
        refine a_if_eq C 39 dX12_faultOf_30 (by decide) q13 (fun q14 => ?_) (fun q14 => ?_)
        · replace hK := hK.1 q14
          refine a_iload_n C dX12_faultOf_39 rfl ?_
          exact a_iret C E dX12_faultOf_40 (Nat.le_refl _) (Nat.le_refl _) (hpost _ _ hK)
        · replace hK := hK.2 q14
          refine a_iinc C dX12_faultOf_33 rfl (Nat.le_of_ble_eq_true rfl) ?_
          refine a_goto C 12 dX12_faultOf_36 (by decide) ?_
          exact a_ls (lsub_s rfl (lsub_s rfl lsub_0)) (ih12 (a1 + 1) _ hK)
  refine a_aload_n C dX12_faultOf_0 rfl ?_
  refine a_iconst C dX12_faultOf_1 ?_
  refine a_putI C fl_X12_69_12 (Or.inl rfl) h_53 rfl dX12_faultOf_2 ⟨⟨by decide, by decide⟩, fun q => by cases q⟩ ?_
  refine a_aload_n C dX12_faultOf_5 rfl ?_
  refine a_iconst C dX12_faultOf_6 ?_
  refine a_putI C fl_X12_72_12 (Or.inl rfl) h_53 rfl dX12_faultOf_7 ⟨⟨by decide, by decide⟩, fun q => by cases q⟩ ?_
  refine a_iconst C dX12_faultOf_10 ?_
  refine a_istore_n C dX12_faultOf_11 (Nat.le_of_ble_eq_true rfl) ?_
  obtain ⟨nn15, hK⟩ := hK
  exact a_ls (lsub_s rfl (lsub_s rfl lsub_0)) (L12 nn15 0 _ hK)

def m12_fault  (V : zV)  (Q : Int → zV → Prop) : Prop :=
  m12_faultOf V (fun r1 V1 => Q r1 V1)
def t12_fault : zT := fun as S V post => ∃ (Q : Int → zV → Prop), as = [zR 53] ∧ PSm S ∧ m12_fault V Q ∧ (∀ r V2, Q r V2 → post (some (zI r)) S V2)
set_option maxHeartbeats 4000000 in
set_option maxRecDepth 20000 in
theorem c12_fault (l : Launch) : zCT l yX12_fault cX12_fault 1 (some .int) { frames := 3, cells := 0, slots := 0, locals := 69 } t12_fault := by
  refine zCT_of (by decide) (fun as S V post h => by obtain ⟨Q, rfl, -⟩ := h; exact Nat.le_of_ble_eq_true rfl) ?_
  intro X S V as post C E hT
  obtain ⟨Q, rfl, hM, hK, hpost⟩ := hT
  obtain ⟨w_53, r_53, h_53, g_53_0, g_53_2, g_53_7, g_53_8, g_53_10, g_53_11, g_53_12, g_53_13, g_53_14, g_53_16, g_53_21, g_53_22, g_53_23, g_53_24⟩ := PSm_53 hM
  show zW X S V 0 0 [some (zR 53)] [] 0
  unfold m12_fault at hK
  refine a_aload_n C dX12_fault_0 rfl ?_
  refine a_callV (as := []) (rest := []) C 0 (fun l => c12_faultOf l) h_53 ⟨_, _, rfl⟩ (by decide) ml_X12_87 im_X12_faultOf se_X12_faultOf in_X12 co_X12_faultOf (by decide +kernel) rfl ⟨Nat.le_of_ble_eq_true rfl, Nat.le_of_ble_eq_true rfl⟩ (Nat.le_of_ble_eq_true rfl) dX12_fault_1 ⟨Nat.le_of_ble_eq_true rfl, Nat.le_of_ble_eq_true rfl⟩ ?_
  refine ⟨_, rfl, hM, hK, fun r1 V1 hK => ?_⟩
  try dsimp only [Option.toList, List.cons_append, List.nil_append]
  exact a_iret C E dX12_fault_4 (Nat.le_refl _) (Nat.le_refl _) (hpost _ _ hK)

def m12_peopleAsAtFirst_L2  (Q : zV → Prop) : Nat → Int → zV → Prop
  | 0 => fun _ _ => False
  | n + 1 => fun a1 V => (inR a1) ∧ ((6 ≤ a1 → Q V) ∧ (a1 < 6 → (0 ≤ (3 * a1) ∧ (3 * a1) < 18) ∧ (0 ≤ ((3 * a1) + 1) ∧ ((3 * a1) + 1) < 18) ∧ (0 ≤ ((3 * a1) + 2) ∧ ((3 * a1) + 2) < 18) ∧ m12_peopleAsAtFirst_L2  Q n (a1 + 1) (vset (vset (vset V 57 ((3 * a1)).toNat 9) 57 (((3 * a1) + 1)).toNat (-1)) 57 (((3 * a1) + 2)).toNat 1)))
def m12_peopleAsAtFirst  (V : zV)  (Q : zV → Prop) : Prop :=
  ∃ nn11, m12_peopleAsAtFirst_L2  Q nn11 0 V
def t12_peopleAsAtFirst : zT := fun as S V post => ∃ (Q : zV → Prop), as = [zR 53] ∧ PSm S ∧ m12_peopleAsAtFirst V Q ∧ (∀ V2, Q V2 → post none S V2)
set_option maxHeartbeats 4000000 in
set_option maxRecDepth 20000 in
theorem c12_peopleAsAtFirst (l : Launch) : zCT l yX12_peopleAsAtFirst cX12_peopleAsAtFirst 2 none { frames := 0, cells := 0, slots := 0, locals := 0 } t12_peopleAsAtFirst := by
  refine zCT_of (by decide) (fun as S V post h => by obtain ⟨Q, rfl, -⟩ := h; exact Nat.le_of_ble_eq_true rfl) ?_
  intro X S V as post C E hT
  obtain ⟨Q, rfl, hM, hK, hpost⟩ := hT
  obtain ⟨w_53, r_53, h_53, g_53_0, g_53_2, g_53_7, g_53_8, g_53_10, g_53_11, g_53_12, g_53_13, g_53_14, g_53_16, g_53_21, g_53_22, g_53_23, g_53_24⟩ := PSm_53 hM
  obtain ⟨r_57, h_57⟩ := PSm_57 hM
  show zW X S V 0 0 [some (zR 53), none] [] 0
  unfold m12_peopleAsAtFirst at hK
  have L2 : ∀ (n : Nat) (a1 : Int) (V : zV), m12_peopleAsAtFirst_L2  Q n a1 V → zW X S V 0 0 [some (zR 53), some (zI a1)] [] 2 := by
    intro n2
    induction n2 with
    | zero => intro _ _ hK; exact hK.elim
    | succ n2 ih2 =>
      intro a1 V hK
      unfold m12_peopleAsAtFirst_L2 at hK
      refine a_iload_n C dX12_peopleAsAtFirst_2 rfl ?_
      refine a_bipush C dX12_peopleAsAtFirst_3 (by decide) ?_
      obtain ⟨q6, hK⟩ := hK
      refine a_icmp_ge C 46 dX12_peopleAsAtFirst_5 (by decide) ⟨q6, ⟨by decide, by decide⟩⟩ (fun q7 => ?_) (fun q7 => ?_)
      · replace hK := hK.1 q7
        exact a_vret C E dX12_peopleAsAtFirst_46 (Nat.le_refl _) (Nat.le_refl _) (hpost _ hK)
      · replace hK := hK.2 q7
        refine a_aload_n C dX12_peopleAsAtFirst_8 rfl ?_
        refine a_getR C fl_X12_19_12 h_53 rfl g_53_8 dX12_peopleAsAtFirst_9 ?_
        refine a_iconst C dX12_peopleAsAtFirst_12 ?_
        refine a_iload_n C dX12_peopleAsAtFirst_13 rfl ?_
        refine a_imul C dX12_peopleAsAtFirst_14 ?_
        refine a_bipush C dX12_peopleAsAtFirst_15 (by decide) ?_
        obtain ⟨q8, hK⟩ := hK
        refine a_iast C h_57 dX12_peopleAsAtFirst_17 (by decide) ⟨q8, ⟨by decide, by decide⟩⟩ ?_
        refine a_aload_n C dX12_peopleAsAtFirst_18 rfl ?_
        refine a_getR C fl_X12_19_12 h_53 rfl g_53_8 dX12_peopleAsAtFirst_19 ?_
        refine a_iconst C dX12_peopleAsAtFirst_22 ?_
        refine a_iload_n C dX12_peopleAsAtFirst_23 rfl ?_
        refine a_imul C dX12_peopleAsAtFirst_24 ?_
        refine a_iconst C dX12_peopleAsAtFirst_25 ?_
        refine a_iadd C dX12_peopleAsAtFirst_26 ?_
        refine a_iconst C dX12_peopleAsAtFirst_27 ?_
        obtain ⟨q9, hK⟩ := hK
        refine a_iast C h_57 dX12_peopleAsAtFirst_28 (by decide) ⟨q9, ⟨by decide, by decide⟩⟩ ?_
        refine a_aload_n C dX12_peopleAsAtFirst_29 rfl ?_
        refine a_getR C fl_X12_19_12 h_53 rfl g_53_8 dX12_peopleAsAtFirst_30 ?_
        refine a_iconst C dX12_peopleAsAtFirst_33 ?_
        refine a_iload_n C dX12_peopleAsAtFirst_34 rfl ?_
        refine a_imul C dX12_peopleAsAtFirst_35 ?_
        refine a_iconst C dX12_peopleAsAtFirst_36 ?_
        refine a_iadd C dX12_peopleAsAtFirst_37 ?_
        refine a_iconst C dX12_peopleAsAtFirst_38 ?_
        obtain ⟨q10, hK⟩ := hK
        refine a_iast C h_57 dX12_peopleAsAtFirst_39 (by decide) ⟨q10, ⟨by decide, by decide⟩⟩ ?_
        refine a_iinc C dX12_peopleAsAtFirst_40 rfl (Nat.le_of_ble_eq_true rfl) ?_
        refine a_goto C 2 dX12_peopleAsAtFirst_43 (by decide) ?_
        exact a_ls (lsub_s rfl (lsub_s rfl lsub_0)) (ih2 (a1 + 1) _ hK)
  refine a_iconst C dX12_peopleAsAtFirst_0 ?_
  refine a_istore_n C dX12_peopleAsAtFirst_1 (Nat.le_of_ble_eq_true rfl) ?_
  obtain ⟨nn11, hK⟩ := hK
  exact a_ls (lsub_s rfl (lsub_s rfl lsub_0)) (L2 nn11 0 _ hK)

def m12_list_L24  (Q : Int → zV → Prop) : Nat → Int → zV → Prop
  | 0 => fun _ _ => False
  | n + 1 => fun a1 V => (inR a1) ∧ (((V 53 3) ≤ a1 → m12_peopleAsAtFirst (vset V 53 5 (V 53 3)) (fun V148 => (inR (((vset (vset V148 53 9 0) 53 15 0) 53 6) + 1)) ∧ Q ((vset (vset (vset (vset V148 53 9 0) 53 15 0) 53 6 (((vset (vset V148 53 9 0) 53 15 0) 53 6) + 1)) 53 1 0) 53 5) (vset (vset (vset (vset V148 53 9 0) 53 15 0) 53 6 (((vset (vset V148 53 9 0) 53 15 0) 53 6) + 1)) 53 1 0))) ∧ (a1 < (V 53 3) → (0 ≤ (4 * a1) ∧ (4 * a1) < 32) ∧ (0 ≤ (7 * a1) ∧ (7 * a1) < 56) ∧ (0 ≤ ((4 * a1) + 3) ∧ ((4 * a1) + 3) < 32) ∧ (0 ≤ ((7 * a1) + 1) ∧ ((7 * a1) + 1) < 56) ∧ (0 ≤ ((7 * a1) + 2) ∧ ((7 * a1) + 2) < 56) ∧ (0 ≤ ((4 * a1) + 1) ∧ ((4 * a1) + 1) < 32) ∧ (0 ≤ ((7 * a1) + 3) ∧ ((7 * a1) + 3) < 56) ∧ (0 ≤ ((4 * a1) + 2) ∧ ((4 * a1) + 2) < 32) ∧ (0 ≤ ((7 * a1) + 4) ∧ ((7 * a1) + 4) < 56) ∧ (0 ≤ ((7 * a1) + 5) ∧ ((7 * a1) + 5) < 56) ∧ (0 ≤ ((7 * a1) + 6) ∧ ((7 * a1) + 6) < 56) ∧ m12_list_L24  Q n (a1 + 1) (vset (vset (vset (vset (vset (vset (vset V 56 ((7 * a1)).toNat (V 55 ((4 * a1)).toNat)) 56 (((7 * a1) + 1)).toNat ((vset V 56 ((7 * a1)).toNat (V 55 ((4 * a1)).toNat)) 55 (((4 * a1) + 3)).toNat)) 56 (((7 * a1) + 2)).toNat 0) 56 (((7 * a1) + 3)).toNat ((vset (vset (vset V 56 ((7 * a1)).toNat (V 55 ((4 * a1)).toNat)) 56 (((7 * a1) + 1)).toNat ((vset V 56 ((7 * a1)).toNat (V 55 ((4 * a1)).toNat)) 55 (((4 * a1) + 3)).toNat)) 56 (((7 * a1) + 2)).toNat 0) 55 (((4 * a1) + 1)).toNat)) 56 (((7 * a1) + 4)).toNat ((vset (vset (vset (vset V 56 ((7 * a1)).toNat (V 55 ((4 * a1)).toNat)) 56 (((7 * a1) + 1)).toNat ((vset V 56 ((7 * a1)).toNat (V 55 ((4 * a1)).toNat)) 55 (((4 * a1) + 3)).toNat)) 56 (((7 * a1) + 2)).toNat 0) 56 (((7 * a1) + 3)).toNat ((vset (vset (vset V 56 ((7 * a1)).toNat (V 55 ((4 * a1)).toNat)) 56 (((7 * a1) + 1)).toNat ((vset V 56 ((7 * a1)).toNat (V 55 ((4 * a1)).toNat)) 55 (((4 * a1) + 3)).toNat)) 56 (((7 * a1) + 2)).toNat 0) 55 (((4 * a1) + 1)).toNat)) 55 (((4 * a1) + 2)).toNat)) 56 (((7 * a1) + 5)).toNat (-1)) 56 (((7 * a1) + 6)).toNat (-1))))
def m12_list  (V : zV)  (Q : Int → zV → Prop) : Prop :=
  m12_faultOf V (fun r1 V1 => (inR r1) ∧ ((r1 < (V1 53 1) → Q (-103) V1) ∧ ((V1 53 1) ≤ r1 → (((V1 53 4) = 4 → ∃ nn50, m12_list_L24  Q nn50 0 V1) ∧ (¬ (V1 53 4) = 4 → Q (-103) V1)))))
def t12_list : zT := fun as S V post => ∃ (Q : Int → zV → Prop), as = [zR 53] ∧ PSm S ∧ m12_list V Q ∧ (∀ r V2, Q r V2 → post (some (zI r)) S V2)
set_option maxHeartbeats 4000000 in
set_option maxRecDepth 20000 in
theorem c12_list (l : Launch) : zCT l yX12_list cX12_list 3 (some .int) { frames := 3, cells := 0, slots := 0, locals := 69 } t12_list := by
  refine zCT_of (by decide) (fun as S V post h => by obtain ⟨Q, rfl, -⟩ := h; exact Nat.le_of_ble_eq_true rfl) ?_
  intro X S V as post C E hT
  obtain ⟨Q, rfl, hM, hK, hpost⟩ := hT
  obtain ⟨w_53, r_53, h_53, g_53_0, g_53_2, g_53_7, g_53_8, g_53_10, g_53_11, g_53_12, g_53_13, g_53_14, g_53_16, g_53_21, g_53_22, g_53_23, g_53_24⟩ := PSm_53 hM
  obtain ⟨r_55, h_55⟩ := PSm_55 hM
  obtain ⟨r_56, h_56⟩ := PSm_56 hM
  show zW X S V 0 0 [some (zR 53), none, none] [] 0
  unfold m12_list at hK
  refine a_aload_n C dX12_list_0 rfl ?_
  refine a_callV (as := []) (rest := []) C 0 (fun l => c12_faultOf l) h_53 ⟨_, _, rfl⟩ (by decide) ml_X12_87 im_X12_faultOf se_X12_faultOf in_X12 co_X12_faultOf (by decide +kernel) rfl ⟨Nat.le_of_ble_eq_true rfl, Nat.le_of_ble_eq_true rfl⟩ (Nat.le_of_ble_eq_true rfl) dX12_list_1 ⟨Nat.le_of_ble_eq_true rfl, Nat.le_of_ble_eq_true rfl⟩ ?_
  refine ⟨_, rfl, hM, hK, fun r1 V1 hK => ?_⟩
  try dsimp only [Option.toList, List.cons_append, List.nil_append]
  refine a_aload_n C dX12_list_4 rfl ?_
  refine a_getI C fl_X12_66_12 h_53 rfl dX12_list_5 (fun r1 => ?_)
  obtain ⟨q2, hK⟩ := hK
  refine a_icmp_lt C 19 dX12_list_8 (by decide) ⟨q2, r1⟩ (fun q3 => ?_) (fun q3 => ?_)
  · replace hK := hK.1 q3
    refine a_bipush C dX12_list_19 (by decide) ?_
    exact a_iret C E dX12_list_21 (Nat.le_refl _) (Nat.le_refl _) (hpost _ _ hK)
  · replace hK := hK.2 q3
    refine a_aload_n C dX12_list_11 rfl ?_
    refine a_getI C fl_X12_72_12 h_53 rfl dX12_list_12 (fun r4 => ?_)
    refine a_iconst C dX12_list_15 ?_
    refine a_icmp_eq C 22 dX12_list_16 (by decide) ⟨r4, ⟨by decide, by decide⟩⟩ (fun q5 => ?_) (fun q5 => ?_)
    · replace hK := hK.1 q5
      have L24 : ∀ (n : Nat) (a1 : Int) (V : zV), m12_list_L24  Q n a1 V → zW X S V 0 0 [some (zR 53), some (zI a1), none] [] 24 := by
        intro n24
        induction n24 with
        | zero => intro _ _ hK; exact hK.elim
        | succ n24 ih24 =>
          intro a1 V hK
          unfold m12_list_L24 at hK
          refine a_iload_n C dX12_list_24 rfl ?_
          refine a_aload_n C dX12_list_25 rfl ?_
          refine a_getI C fl_X12_69_12 h_53 rfl dX12_list_26 (fun r28 => ?_)
          obtain ⟨q29, hK⟩ := hK
          refine a_icmp_ge C 139 dX12_list_29 (by decide) ⟨q29, r28⟩ (fun q30 => ?_) (fun q30 => ?_)
          · replace hK := hK.1 q30
            refine a_aload_n C dX12_list_139 rfl ?_
            refine a_aload_n C dX12_list_140 rfl ?_
            refine a_getI C fl_X12_69_12 h_53 rfl dX12_list_141 (fun r31 => ?_)
            refine a_putI C fl_X12_91_12 (Or.inl rfl) h_53 rfl dX12_list_144 ⟨r31, fun q => by cases q⟩ ?_
            refine a_aload_n C dX12_list_147 rfl ?_
            refine a_callV (as := []) (rest := []) C 0 (fun l => c12_peopleAsAtFirst l) h_53 ⟨_, _, rfl⟩ (by decide) ml_X12_57 im_X12_peopleAsAtFirst se_X12_peopleAsAtFirst in_X12 co_X12_peopleAsAtFirst (by decide +kernel) rfl ⟨Nat.le_of_ble_eq_true rfl, Nat.le_of_ble_eq_true rfl⟩ (Nat.le_of_ble_eq_true rfl) dX12_list_148 ⟨Nat.le_of_ble_eq_true rfl, Nat.le_of_ble_eq_true rfl⟩ ?_
            refine ⟨_, rfl, hM, hK, fun V148 hK => ?_⟩
            try dsimp only [Option.toList, List.cons_append, List.nil_append]
            refine a_aload_n C dX12_list_151 rfl ?_
            refine a_iconst C dX12_list_152 ?_
            refine a_putI C fl_X12_94_12 (Or.inl rfl) h_53 rfl dX12_list_153 ⟨⟨by decide, by decide⟩, fun q => by cases q⟩ ?_
            refine a_aload_n C dX12_list_156 rfl ?_
            refine a_iconst C dX12_list_157 ?_
            refine a_putI C fl_X12_97_12 (Or.inl rfl) h_53 rfl dX12_list_158 ⟨⟨by decide, by decide⟩, fun q => by cases q⟩ ?_
            refine a_aload_n C dX12_list_161 rfl ?_
            refine a_dup C dX12_list_162 rfl ?_
            refine a_getI C fl_X12_100_12 h_53 rfl dX12_list_163 (fun r32 => ?_)
            refine a_iconst C dX12_list_166 ?_
            refine a_iadd C dX12_list_167 ?_
            obtain ⟨q33, hK⟩ := hK
            refine a_putI C fl_X12_100_12 (Or.inl rfl) h_53 rfl dX12_list_168 ⟨q33, fun q => by cases q⟩ ?_
            refine a_aload_n C dX12_list_171 rfl ?_
            refine a_iconst C dX12_list_172 ?_
            refine a_putI C fl_X12_66_12 (Or.inl rfl) h_53 rfl dX12_list_173 ⟨⟨by decide, by decide⟩, fun q => by cases q⟩ ?_
            refine a_aload_n C dX12_list_176 rfl ?_
            refine a_getI C fl_X12_91_12 h_53 rfl dX12_list_177 (fun r34 => ?_)
            exact a_iret C E dX12_list_180 (Nat.le_refl _) (Nat.le_refl _) (hpost _ _ hK)
          · replace hK := hK.2 q30
            refine a_bipush C dX12_list_32 (by decide) ?_
            refine a_iload_n C dX12_list_34 rfl ?_
            refine a_imul C dX12_list_35 ?_
            refine a_istore_n C dX12_list_36 (Nat.le_of_ble_eq_true rfl) ?_
            refine a_aload_n C dX12_list_37 rfl ?_
            refine a_getR C fl_X12_16_12 h_53 rfl g_53_7 dX12_list_38 ?_
            refine a_iload_n C dX12_list_41 rfl ?_
            refine a_aload_n C dX12_list_42 rfl ?_
            refine a_getR C fl_X12_13_12 h_53 rfl g_53_2 dX12_list_43 ?_
            refine a_iconst C dX12_list_46 ?_
            refine a_iload_n C dX12_list_47 rfl ?_
            refine a_imul C dX12_list_48 ?_
            obtain ⟨q35, hK⟩ := hK
            refine a_iald C h_55 dX12_list_49 (by decide) q35 (fun r36 => ?_)
            obtain ⟨q37, hK⟩ := hK
            refine a_iast C h_56 dX12_list_50 (by decide) ⟨q37, r36⟩ ?_
            refine a_aload_n C dX12_list_51 rfl ?_
            refine a_getR C fl_X12_16_12 h_53 rfl g_53_7 dX12_list_52 ?_
            refine a_iload_n C dX12_list_55 rfl ?_
            refine a_iconst C dX12_list_56 ?_
            refine a_iadd C dX12_list_57 ?_
            refine a_aload_n C dX12_list_58 rfl ?_
            refine a_getR C fl_X12_13_12 h_53 rfl g_53_2 dX12_list_59 ?_
            refine a_iconst C dX12_list_62 ?_
            refine a_iload_n C dX12_list_63 rfl ?_
            refine a_imul C dX12_list_64 ?_
            refine a_iconst C dX12_list_65 ?_
            refine a_iadd C dX12_list_66 ?_
            obtain ⟨q38, hK⟩ := hK
            refine a_iald C h_55 dX12_list_67 (by decide) q38 (fun r39 => ?_)
            obtain ⟨q40, hK⟩ := hK
            refine a_iast C h_56 dX12_list_68 (by decide) ⟨q40, r39⟩ ?_
            refine a_aload_n C dX12_list_69 rfl ?_
            refine a_getR C fl_X12_16_12 h_53 rfl g_53_7 dX12_list_70 ?_
            refine a_iload_n C dX12_list_73 rfl ?_
            refine a_iconst C dX12_list_74 ?_
            refine a_iadd C dX12_list_75 ?_
            refine a_iconst C dX12_list_76 ?_
            obtain ⟨q41, hK⟩ := hK
            refine a_iast C h_56 dX12_list_77 (by decide) ⟨q41, ⟨by decide, by decide⟩⟩ ?_
            refine a_aload_n C dX12_list_78 rfl ?_
            refine a_getR C fl_X12_16_12 h_53 rfl g_53_7 dX12_list_79 ?_
            refine a_iload_n C dX12_list_82 rfl ?_
            refine a_iconst C dX12_list_83 ?_
            refine a_iadd C dX12_list_84 ?_
            refine a_aload_n C dX12_list_85 rfl ?_
            refine a_getR C fl_X12_13_12 h_53 rfl g_53_2 dX12_list_86 ?_
            refine a_iconst C dX12_list_89 ?_
            refine a_iload_n C dX12_list_90 rfl ?_
            refine a_imul C dX12_list_91 ?_
            refine a_iconst C dX12_list_92 ?_
            refine a_iadd C dX12_list_93 ?_
            obtain ⟨q42, hK⟩ := hK
            refine a_iald C h_55 dX12_list_94 (by decide) q42 (fun r43 => ?_)
            obtain ⟨q44, hK⟩ := hK
            refine a_iast C h_56 dX12_list_95 (by decide) ⟨q44, r43⟩ ?_
            refine a_aload_n C dX12_list_96 rfl ?_
            refine a_getR C fl_X12_16_12 h_53 rfl g_53_7 dX12_list_97 ?_
            refine a_iload_n C dX12_list_100 rfl ?_
            refine a_iconst C dX12_list_101 ?_
            refine a_iadd C dX12_list_102 ?_
            refine a_aload_n C dX12_list_103 rfl ?_
            refine a_getR C fl_X12_13_12 h_53 rfl g_53_2 dX12_list_104 ?_
            refine a_iconst C dX12_list_107 ?_
            refine a_iload_n C dX12_list_108 rfl ?_
            refine a_imul C dX12_list_109 ?_
            refine a_iconst C dX12_list_110 ?_
            refine a_iadd C dX12_list_111 ?_
            obtain ⟨q45, hK⟩ := hK
            refine a_iald C h_55 dX12_list_112 (by decide) q45 (fun r46 => ?_)
            obtain ⟨q47, hK⟩ := hK
            refine a_iast C h_56 dX12_list_113 (by decide) ⟨q47, r46⟩ ?_
            refine a_aload_n C dX12_list_114 rfl ?_
            refine a_getR C fl_X12_16_12 h_53 rfl g_53_7 dX12_list_115 ?_
            refine a_iload_n C dX12_list_118 rfl ?_
            refine a_iconst C dX12_list_119 ?_
            refine a_iadd C dX12_list_120 ?_
            refine a_iconst C dX12_list_121 ?_
            obtain ⟨q48, hK⟩ := hK
            refine a_iast C h_56 dX12_list_122 (by decide) ⟨q48, ⟨by decide, by decide⟩⟩ ?_
            refine a_aload_n C dX12_list_123 rfl ?_
            refine a_getR C fl_X12_16_12 h_53 rfl g_53_7 dX12_list_124 ?_
            refine a_iload_n C dX12_list_127 rfl ?_
            refine a_bipush C dX12_list_128 (by decide) ?_
            refine a_iadd C dX12_list_130 ?_
            refine a_iconst C dX12_list_131 ?_
            obtain ⟨q49, hK⟩ := hK
            refine a_iast C h_56 dX12_list_132 (by decide) ⟨q49, ⟨by decide, by decide⟩⟩ ?_
            refine a_iinc C dX12_list_133 rfl (Nat.le_of_ble_eq_true rfl) ?_
            refine a_goto C 24 dX12_list_136 (by decide) ?_
            exact a_ls (lsub_s rfl (lsub_s rfl (lsub_n lsub_0))) (ih24 (a1 + 1) _ hK)
      refine a_iconst C dX12_list_22 ?_
      refine a_istore_n C dX12_list_23 (Nat.le_of_ble_eq_true rfl) ?_
      obtain ⟨nn50, hK⟩ := hK
      exact a_ls (lsub_s rfl (lsub_s rfl (lsub_n lsub_0))) (L24 nn50 0 _ hK)
    · replace hK := hK.2 q5
      refine a_bipush C dX12_list_19 (by decide) ?_
      exact a_iret C E dX12_list_21 (Nat.le_refl _) (Nat.le_refl _) (hpost _ _ hK)

def m12_lacks  (V : zV)  (Q : Int → zV → Prop) : Prop :=
  ((¬ (V 53 5) = 0 → Q 0 V) ∧ ((V 53 5) = 0 → Q 1 V))
def t12_lacks : zT := fun as S V post => ∃ (Q : Int → zV → Prop), as = [zR 53] ∧ PSm S ∧ m12_lacks V Q ∧ (∀ r V2, Q r V2 → post (some (zI r)) S V2)
set_option maxHeartbeats 4000000 in
set_option maxRecDepth 20000 in
theorem c12_lacks (l : Launch) : zCT l yX12_lacks cX12_lacks 1 (some .boolean) { frames := 0, cells := 0, slots := 0, locals := 0 } t12_lacks := by
  refine zCT_of (by decide) (fun as S V post h => by obtain ⟨Q, rfl, -⟩ := h; exact Nat.le_of_ble_eq_true rfl) ?_
  intro X S V as post C E hT
  obtain ⟨Q, rfl, hM, hK, hpost⟩ := hT
  obtain ⟨w_53, r_53, h_53, g_53_0, g_53_2, g_53_7, g_53_8, g_53_10, g_53_11, g_53_12, g_53_13, g_53_14, g_53_16, g_53_21, g_53_22, g_53_23, g_53_24⟩ := PSm_53 hM
  show zW X S V 0 0 [some (zR 53)] [] 0
  unfold m12_lacks at hK
  refine a_aload_n C dX12_lacks_0 rfl ?_
  refine a_getI C fl_X12_91_12 h_53 rfl dX12_lacks_1 (fun r1 => ?_)
  refine a_if_ne C 11 dX12_lacks_4 (by decide) r1 (fun q2 => ?_) (fun q2 => ?_)
  · replace hK := hK.1 q2
    refine a_iconst C dX12_lacks_11 ?_
    exact a_zret C E dX12_lacks_12 (Nat.le_refl _) (Nat.le_refl _) (by decide) (hpost _ _ hK)
  · replace hK := hK.2 q2
    refine a_iconst C dX12_lacks_7 ?_
    refine a_goto C 12 dX12_lacks_8 (by decide) ?_
    exact a_zret C E dX12_lacks_12 (Nat.le_refl _) (Nat.le_refl _) (by decide) (hpost _ _ hK)

def m12_isFeud  (V : zV) (a1 : Int) (Q : Int → zV → Prop) : Prop :=
  (inR a1) ∧ (inR ((V 53 5) - 1)) ∧ m12_in V a1 0 ((V 53 5) - 1) (fun r10 V10 => (r10 = 0 ∨ r10 = 1) ∧ Q r10 V10)
def t12_isFeud : zT := fun as S V post => ∃ (a1 : Int) (Q : Int → zV → Prop), as = [zR 53, zI a1] ∧ PSm S ∧ m12_isFeud V a1 Q ∧ (∀ r V2, Q r V2 → post (some (zI r)) S V2)
set_option maxHeartbeats 4000000 in
set_option maxRecDepth 20000 in
theorem c12_isFeud (l : Launch) : zCT l yX12_isFeud cX12_isFeud 2 (some .boolean) { frames := 1, cells := 0, slots := 0, locals := 25 } t12_isFeud := by
  refine zCT_of (by decide) (fun as S V post h => by obtain ⟨a1, Q, rfl, -⟩ := h; exact Nat.le_of_ble_eq_true rfl) ?_
  intro X S V as post C E hT
  obtain ⟨a1, Q, rfl, hM, hK, hpost⟩ := hT
  obtain ⟨w_53, r_53, h_53, g_53_0, g_53_2, g_53_7, g_53_8, g_53_10, g_53_11, g_53_12, g_53_13, g_53_14, g_53_16, g_53_21, g_53_22, g_53_23, g_53_24⟩ := PSm_53 hM
  show zW X S V 0 0 [some (zR 53), some (zI a1)] [] 0
  unfold m12_isFeud at hK
  refine a_iload_n C dX12_isFeud_0 rfl ?_
  obtain ⟨q1, hK⟩ := hK
  refine a_i2l C dX12_isFeud_1 q1 ?_
  refine a_lconst C 0 dX12_isFeud_2 (by decide) ?_
  refine a_aload_n C dX12_isFeud_3 rfl ?_
  refine a_getI C fl_X12_91_12 h_53 rfl dX12_isFeud_4 (fun r2 => ?_)
  refine a_iconst C dX12_isFeud_7 ?_
  refine a_isub C dX12_isFeud_8 ?_
  obtain ⟨q3, hK⟩ := hK
  refine a_i2l C dX12_isFeud_9 q3 ?_
  refine a_callS (as := [zJ a1, zJ 0, zJ ((V 53 5) - 1)]) (rest := []) C 3 (fun l => c12_in l) ml_X12_62 sa_X12_in in_X12 co_X12_in (by decide +kernel) rfl ⟨Nat.le_of_ble_eq_true rfl, Nat.le_of_ble_eq_true rfl⟩ (Nat.le_of_ble_eq_true rfl) dX12_isFeud_10 ⟨Nat.le_of_ble_eq_true rfl, Nat.le_of_ble_eq_true rfl⟩ ?_
  refine ⟨a1, 0, ((V 53 5) - 1), _, rfl, hK, fun r10 V10 hK => ?_⟩
  try dsimp only [Option.toList, List.cons_append, List.nil_append]
  obtain ⟨q4, hK⟩ := hK
  exact a_zret C E dX12_isFeud_13 (Nat.le_refl _) (Nat.le_refl _) q4 (hpost _ _ hK)

def m12_isPerson  (V : zV) (a0 : Int) (Q : Int → zV → Prop) : Prop :=
  (inR a0) ∧ m12_in V a0 0 5 (fun r6 V6 => (r6 = 0 ∨ r6 = 1) ∧ Q r6 V6)
def t12_isPerson : zT := fun as S V post => ∃ (a0 : Int) (Q : Int → zV → Prop), as = [zI a0] ∧ m12_isPerson V a0 Q ∧ (∀ r V2, Q r V2 → post (some (zI r)) S V2)
set_option maxHeartbeats 4000000 in
set_option maxRecDepth 20000 in
theorem c12_isPerson (l : Launch) : zCT l yX12_isPerson cX12_isPerson 1 (some .boolean) { frames := 1, cells := 0, slots := 0, locals := 25 } t12_isPerson := by
  refine zCT_of (by decide) (fun as S V post h => by obtain ⟨a0, Q, rfl, -⟩ := h; exact Nat.le_of_ble_eq_true rfl) ?_
  intro X S V as post C E hT
  obtain ⟨a0, Q, rfl, hK, hpost⟩ := hT
  show zW X S V 0 0 [some (zI a0)] [] 0
  unfold m12_isPerson at hK
  refine a_iload_n C dX12_isPerson_0 rfl ?_
  obtain ⟨q1, hK⟩ := hK
  refine a_i2l C dX12_isPerson_1 q1 ?_
  refine a_lconst C 0 dX12_isPerson_2 (by decide) ?_
  refine a_ldc2 C kl_X12_77 dX12_isPerson_3 ?_
  refine a_callS (as := [zJ a0, zJ 0, zJ 5]) (rest := []) C 3 (fun l => c12_in l) ml_X12_62 sa_X12_in in_X12 co_X12_in (by decide +kernel) rfl ⟨Nat.le_of_ble_eq_true rfl, Nat.le_of_ble_eq_true rfl⟩ (Nat.le_of_ble_eq_true rfl) dX12_isPerson_6 ⟨Nat.le_of_ble_eq_true rfl, Nat.le_of_ble_eq_true rfl⟩ ?_
  refine ⟨a0, 0, 5, _, rfl, hK, fun r6 V6 hK => ?_⟩
  try dsimp only [Option.toList, List.cons_append, List.nil_append]
  obtain ⟨q2, hK⟩ := hK
  exact a_zret C E dX12_isPerson_9 (Nat.le_refl _) (Nat.le_refl _) q2 (hpost _ _ hK)

def m12_arePair  (V : zV) (a0 : Int) (a1 : Int) (Q : Int → zV → Prop) : Prop :=
  m12_isPerson V a0 (fun r1 V1 => (inR r1) ∧ ((r1 = 0 → Q 0 V1) ∧ (¬ r1 = 0 → m12_isPerson V1 a1 (fun r8 V8 => (inR r8) ∧ ((r8 = 0 → Q 0 V8) ∧ (¬ r8 = 0 → (inR a0) ∧ (inR a1) ∧ ((a0 = a1 → Q 0 V8) ∧ (¬ a0 = a1 → Q 1 V8))))))))
def t12_arePair : zT := fun as S V post => ∃ (a0 : Int) (a1 : Int) (Q : Int → zV → Prop), as = [zI a0, zI a1] ∧ m12_arePair V a0 a1 Q ∧ (∀ r V2, Q r V2 → post (some (zI r)) S V2)
set_option maxHeartbeats 4000000 in
set_option maxRecDepth 20000 in
theorem c12_arePair (l : Launch) : zCT l yX12_arePair cX12_arePair 2 (some .boolean) { frames := 2, cells := 0, slots := 0, locals := 45 } t12_arePair := by
  refine zCT_of (by decide) (fun as S V post h => by obtain ⟨a0, a1, Q, rfl, -⟩ := h; exact Nat.le_of_ble_eq_true rfl) ?_
  intro X S V as post C E hT
  obtain ⟨a0, a1, Q, rfl, hK, hpost⟩ := hT
  show zW X S V 0 0 [some (zI a0), some (zI a1)] [] 0
  unfold m12_arePair at hK
  refine a_iload_n C dX12_arePair_0 rfl ?_
  refine a_callS (as := [zI a0]) (rest := []) C 1 (fun l => c12_isPerson l) ml_X12_103 sa_X12_isPerson in_X12 co_X12_isPerson (by decide +kernel) rfl ⟨Nat.le_of_ble_eq_true rfl, Nat.le_of_ble_eq_true rfl⟩ (Nat.le_of_ble_eq_true rfl) dX12_arePair_1 ⟨Nat.le_of_ble_eq_true rfl, Nat.le_of_ble_eq_true rfl⟩ ?_
  refine ⟨a0, _, rfl, hK, fun r1 V1 hK => ?_⟩
  try dsimp only [Option.toList, List.cons_append, List.nil_append]
  obtain ⟨q1, hK⟩ := hK
  refine a_if_eq C 23 dX12_arePair_4 (by decide) q1 (fun q2 => ?_) (fun q2 => ?_)
  · replace hK := hK.1 q2
    refine a_iconst C dX12_arePair_23 ?_
    exact a_zret C E dX12_arePair_24 (Nat.le_refl _) (Nat.le_refl _) (by decide) (hpost _ _ hK)
  · replace hK := hK.2 q2
    refine a_iload_n C dX12_arePair_7 rfl ?_
    refine a_callS (as := [zI a1]) (rest := []) C 1 (fun l => c12_isPerson l) ml_X12_103 sa_X12_isPerson in_X12 co_X12_isPerson (by decide +kernel) rfl ⟨Nat.le_of_ble_eq_true rfl, Nat.le_of_ble_eq_true rfl⟩ (Nat.le_of_ble_eq_true rfl) dX12_arePair_8 ⟨Nat.le_of_ble_eq_true rfl, Nat.le_of_ble_eq_true rfl⟩ ?_
    refine ⟨a1, _, rfl, hK, fun r8 V8 hK => ?_⟩
    try dsimp only [Option.toList, List.cons_append, List.nil_append]
    obtain ⟨q3, hK⟩ := hK
    refine a_if_eq C 23 dX12_arePair_11 (by decide) q3 (fun q4 => ?_) (fun q4 => ?_)
    · replace hK := hK.1 q4
      refine a_iconst C dX12_arePair_23 ?_
      exact a_zret C E dX12_arePair_24 (Nat.le_refl _) (Nat.le_refl _) (by decide) (hpost _ _ hK)
    · replace hK := hK.2 q4
      refine a_iload_n C dX12_arePair_14 rfl ?_
      refine a_iload_n C dX12_arePair_15 rfl ?_
      obtain ⟨q5, hK⟩ := hK
      obtain ⟨q6, hK⟩ := hK
      refine a_icmp_eq C 23 dX12_arePair_16 (by decide) ⟨q5, q6⟩ (fun q7 => ?_) (fun q7 => ?_)
      · replace hK := hK.1 q7
        refine a_iconst C dX12_arePair_23 ?_
        exact a_zret C E dX12_arePair_24 (Nat.le_refl _) (Nat.le_refl _) (by decide) (hpost _ _ hK)
      · replace hK := hK.2 q7
        refine a_iconst C dX12_arePair_19 ?_
        refine a_goto C 24 dX12_arePair_20 (by decide) ?_
        exact a_zret C E dX12_arePair_24 (Nat.le_refl _) (Nat.le_refl _) (by decide) (hpost _ _ hK)

def m12_isStruck  (V : zV) (a1 : Int) (Q : Int → zV → Prop) : Prop :=
  (0 ≤ ((7 * a1) + 2) ∧ ((7 * a1) + 2) < 56) ∧ ((¬ (V 56 (((7 * a1) + 2)).toNat) = 1 → Q 0 V) ∧ ((V 56 (((7 * a1) + 2)).toNat) = 1 → Q 1 V))
def t12_isStruck : zT := fun as S V post => ∃ (a1 : Int) (Q : Int → zV → Prop), as = [zR 53, zI a1] ∧ PSm S ∧ m12_isStruck V a1 Q ∧ (∀ r V2, Q r V2 → post (some (zI r)) S V2)
set_option maxHeartbeats 4000000 in
set_option maxRecDepth 20000 in
theorem c12_isStruck (l : Launch) : zCT l yX12_isStruck cX12_isStruck 2 (some .boolean) { frames := 0, cells := 0, slots := 0, locals := 0 } t12_isStruck := by
  refine zCT_of (by decide) (fun as S V post h => by obtain ⟨a1, Q, rfl, -⟩ := h; exact Nat.le_of_ble_eq_true rfl) ?_
  intro X S V as post C E hT
  obtain ⟨a1, Q, rfl, hM, hK, hpost⟩ := hT
  obtain ⟨w_53, r_53, h_53, g_53_0, g_53_2, g_53_7, g_53_8, g_53_10, g_53_11, g_53_12, g_53_13, g_53_14, g_53_16, g_53_21, g_53_22, g_53_23, g_53_24⟩ := PSm_53 hM
  obtain ⟨r_56, h_56⟩ := PSm_56 hM
  show zW X S V 0 0 [some (zR 53), some (zI a1)] [] 0
  unfold m12_isStruck at hK
  refine a_aload_n C dX12_isStruck_0 rfl ?_
  refine a_getR C fl_X12_16_12 h_53 rfl g_53_7 dX12_isStruck_1 ?_
  refine a_bipush C dX12_isStruck_4 (by decide) ?_
  refine a_iload_n C dX12_isStruck_6 rfl ?_
  refine a_imul C dX12_isStruck_7 ?_
  refine a_iconst C dX12_isStruck_8 ?_
  refine a_iadd C dX12_isStruck_9 ?_
  obtain ⟨q1, hK⟩ := hK
  refine a_iald C h_56 dX12_isStruck_10 (by decide) q1 (fun r2 => ?_)
  refine a_iconst C dX12_isStruck_11 ?_
  refine a_icmp_ne C 19 dX12_isStruck_12 (by decide) ⟨r2, ⟨by decide, by decide⟩⟩ (fun q3 => ?_) (fun q3 => ?_)
  · replace hK := hK.1 q3
    refine a_iconst C dX12_isStruck_19 ?_
    exact a_zret C E dX12_isStruck_20 (Nat.le_refl _) (Nat.le_refl _) (by decide) (hpost _ _ hK)
  · replace hK := hK.2 q3
    refine a_iconst C dX12_isStruck_15 ?_
    refine a_goto C 20 dX12_isStruck_16 (by decide) ?_
    exact a_zret C E dX12_isStruck_20 (Nat.le_refl _) (Nat.le_refl _) (by decide) (hpost _ _ hK)

def m12_isAlive  (V : zV) (a1 : Int) (Q : Int → zV → Prop) : Prop :=
  (0 ≤ ((3 * a1) + 2) ∧ ((3 * a1) + 2) < 18) ∧ ((¬ (V 57 (((3 * a1) + 2)).toNat) = 1 → Q 0 V) ∧ ((V 57 (((3 * a1) + 2)).toNat) = 1 → Q 1 V))
def t12_isAlive : zT := fun as S V post => ∃ (a1 : Int) (Q : Int → zV → Prop), as = [zR 53, zI a1] ∧ PSm S ∧ m12_isAlive V a1 Q ∧ (∀ r V2, Q r V2 → post (some (zI r)) S V2)
set_option maxHeartbeats 4000000 in
set_option maxRecDepth 20000 in
theorem c12_isAlive (l : Launch) : zCT l yX12_isAlive cX12_isAlive 2 (some .boolean) { frames := 0, cells := 0, slots := 0, locals := 0 } t12_isAlive := by
  refine zCT_of (by decide) (fun as S V post h => by obtain ⟨a1, Q, rfl, -⟩ := h; exact Nat.le_of_ble_eq_true rfl) ?_
  intro X S V as post C E hT
  obtain ⟨a1, Q, rfl, hM, hK, hpost⟩ := hT
  obtain ⟨w_53, r_53, h_53, g_53_0, g_53_2, g_53_7, g_53_8, g_53_10, g_53_11, g_53_12, g_53_13, g_53_14, g_53_16, g_53_21, g_53_22, g_53_23, g_53_24⟩ := PSm_53 hM
  obtain ⟨r_57, h_57⟩ := PSm_57 hM
  show zW X S V 0 0 [some (zR 53), some (zI a1)] [] 0
  unfold m12_isAlive at hK
  refine a_aload_n C dX12_isAlive_0 rfl ?_
  refine a_getR C fl_X12_19_12 h_53 rfl g_53_8 dX12_isAlive_1 ?_
  refine a_iconst C dX12_isAlive_4 ?_
  refine a_iload_n C dX12_isAlive_5 rfl ?_
  refine a_imul C dX12_isAlive_6 ?_
  refine a_iconst C dX12_isAlive_7 ?_
  refine a_iadd C dX12_isAlive_8 ?_
  obtain ⟨q1, hK⟩ := hK
  refine a_iald C h_57 dX12_isAlive_9 (by decide) q1 (fun r2 => ?_)
  refine a_iconst C dX12_isAlive_10 ?_
  refine a_icmp_ne C 18 dX12_isAlive_11 (by decide) ⟨r2, ⟨by decide, by decide⟩⟩ (fun q3 => ?_) (fun q3 => ?_)
  · replace hK := hK.1 q3
    refine a_iconst C dX12_isAlive_18 ?_
    exact a_zret C E dX12_isAlive_19 (Nat.le_refl _) (Nat.le_refl _) (by decide) (hpost _ _ hK)
  · replace hK := hK.2 q3
    refine a_iconst C dX12_isAlive_14 ?_
    refine a_goto C 19 dX12_isAlive_15 (by decide) ?_
    exact a_zret C E dX12_isAlive_19 (Nat.le_refl _) (Nat.le_refl _) (by decide) (hpost _ _ hK)

def m12_ownerOf  (V : zV) (a1 : Int) (a2 : Int) (Q : Int → zV → Prop) : Prop :=
  (0 ≤ (((7 * a1) + 3) + a2) ∧ (((7 * a1) + 3) + a2) < 56) ∧ Q (V 56 ((((7 * a1) + 3) + a2)).toNat) V
def t12_ownerOf : zT := fun as S V post => ∃ (a1 : Int) (a2 : Int) (Q : Int → zV → Prop), as = [zR 53, zI a1, zI a2] ∧ PSm S ∧ m12_ownerOf V a1 a2 Q ∧ (∀ r V2, Q r V2 → post (some (zI r)) S V2)
set_option maxHeartbeats 4000000 in
set_option maxRecDepth 20000 in
theorem c12_ownerOf (l : Launch) : zCT l yX12_ownerOf cX12_ownerOf 3 (some .int) { frames := 0, cells := 0, slots := 0, locals := 0 } t12_ownerOf := by
  refine zCT_of (by decide) (fun as S V post h => by obtain ⟨a1, a2, Q, rfl, -⟩ := h; exact Nat.le_of_ble_eq_true rfl) ?_
  intro X S V as post C E hT
  obtain ⟨a1, a2, Q, rfl, hM, hK, hpost⟩ := hT
  obtain ⟨w_53, r_53, h_53, g_53_0, g_53_2, g_53_7, g_53_8, g_53_10, g_53_11, g_53_12, g_53_13, g_53_14, g_53_16, g_53_21, g_53_22, g_53_23, g_53_24⟩ := PSm_53 hM
  obtain ⟨r_56, h_56⟩ := PSm_56 hM
  show zW X S V 0 0 [some (zR 53), some (zI a1), some (zI a2)] [] 0
  unfold m12_ownerOf at hK
  refine a_aload_n C dX12_ownerOf_0 rfl ?_
  refine a_getR C fl_X12_16_12 h_53 rfl g_53_7 dX12_ownerOf_1 ?_
  refine a_bipush C dX12_ownerOf_4 (by decide) ?_
  refine a_iload_n C dX12_ownerOf_6 rfl ?_
  refine a_imul C dX12_ownerOf_7 ?_
  refine a_iconst C dX12_ownerOf_8 ?_
  refine a_iadd C dX12_ownerOf_9 ?_
  refine a_iload_n C dX12_ownerOf_10 rfl ?_
  refine a_iadd C dX12_ownerOf_11 ?_
  obtain ⟨q1, hK⟩ := hK
  refine a_iald C h_56 dX12_ownerOf_12 (by decide) q1 (fun r2 => ?_)
  exact a_iret C E dX12_ownerOf_13 (Nat.le_refl _) (Nat.le_refl _) (hpost _ _ hK)

def m12_borrowerOf  (V : zV) (a1 : Int) (a2 : Int) (Q : Int → zV → Prop) : Prop :=
  (0 ≤ (((7 * a1) + 5) + a2) ∧ (((7 * a1) + 5) + a2) < 56) ∧ Q (V 56 ((((7 * a1) + 5) + a2)).toNat) V
def t12_borrowerOf : zT := fun as S V post => ∃ (a1 : Int) (a2 : Int) (Q : Int → zV → Prop), as = [zR 53, zI a1, zI a2] ∧ PSm S ∧ m12_borrowerOf V a1 a2 Q ∧ (∀ r V2, Q r V2 → post (some (zI r)) S V2)
set_option maxHeartbeats 4000000 in
set_option maxRecDepth 20000 in
theorem c12_borrowerOf (l : Launch) : zCT l yX12_borrowerOf cX12_borrowerOf 3 (some .int) { frames := 0, cells := 0, slots := 0, locals := 0 } t12_borrowerOf := by
  refine zCT_of (by decide) (fun as S V post h => by obtain ⟨a1, a2, Q, rfl, -⟩ := h; exact Nat.le_of_ble_eq_true rfl) ?_
  intro X S V as post C E hT
  obtain ⟨a1, a2, Q, rfl, hM, hK, hpost⟩ := hT
  obtain ⟨w_53, r_53, h_53, g_53_0, g_53_2, g_53_7, g_53_8, g_53_10, g_53_11, g_53_12, g_53_13, g_53_14, g_53_16, g_53_21, g_53_22, g_53_23, g_53_24⟩ := PSm_53 hM
  obtain ⟨r_56, h_56⟩ := PSm_56 hM
  show zW X S V 0 0 [some (zR 53), some (zI a1), some (zI a2)] [] 0
  unfold m12_borrowerOf at hK
  refine a_aload_n C dX12_borrowerOf_0 rfl ?_
  refine a_getR C fl_X12_16_12 h_53 rfl g_53_7 dX12_borrowerOf_1 ?_
  refine a_bipush C dX12_borrowerOf_4 (by decide) ?_
  refine a_iload_n C dX12_borrowerOf_6 rfl ?_
  refine a_imul C dX12_borrowerOf_7 ?_
  refine a_iconst C dX12_borrowerOf_8 ?_
  refine a_iadd C dX12_borrowerOf_9 ?_
  refine a_iload_n C dX12_borrowerOf_10 rfl ?_
  refine a_iadd C dX12_borrowerOf_11 ?_
  obtain ⟨q1, hK⟩ := hK
  refine a_iald C h_56 dX12_borrowerOf_12 (by decide) q1 (fun r2 => ?_)
  exact a_iret C E dX12_borrowerOf_13 (Nat.le_refl _) (Nat.le_refl _) (hpost _ _ hK)

def m12_onSide  (V : zV) (a1 : Int) (a2 : Int) (Q : Int → zV → Prop) : Prop :=
  m12_borrowerOf V a1 a2 (fun r3 V3 => (inR r3) ∧ ((¬ r3 = (-1) → m12_borrowerOf V3 a1 a2 (fun r22 V22 => Q r22 V22)) ∧ (r3 = (-1) → m12_ownerOf V3 a1 a2 (fun r13 V13 => Q r13 V13))))
def t12_onSide : zT := fun as S V post => ∃ (a1 : Int) (a2 : Int) (Q : Int → zV → Prop), as = [zR 53, zI a1, zI a2] ∧ PSm S ∧ m12_onSide V a1 a2 Q ∧ (∀ r V2, Q r V2 → post (some (zI r)) S V2)
set_option maxHeartbeats 4000000 in
set_option maxRecDepth 20000 in
theorem c12_onSide (l : Launch) : zCT l yX12_onSide cX12_onSide 3 (some .int) { frames := 1, cells := 0, slots := 0, locals := 22 } t12_onSide := by
  refine zCT_of (by decide) (fun as S V post h => by obtain ⟨a1, a2, Q, rfl, -⟩ := h; exact Nat.le_of_ble_eq_true rfl) ?_
  intro X S V as post C E hT
  obtain ⟨a1, a2, Q, rfl, hM, hK, hpost⟩ := hT
  obtain ⟨w_53, r_53, h_53, g_53_0, g_53_2, g_53_7, g_53_8, g_53_10, g_53_11, g_53_12, g_53_13, g_53_14, g_53_16, g_53_21, g_53_22, g_53_23, g_53_24⟩ := PSm_53 hM
  show zW X S V 0 0 [some (zR 53), some (zI a1), some (zI a2)] [] 0
  unfold m12_onSide at hK
  refine a_aload_n C dX12_onSide_0 rfl ?_
  refine a_iload_n C dX12_onSide_1 rfl ?_
  refine a_iload_n C dX12_onSide_2 rfl ?_
  refine a_callV (as := [zI a1, zI a2]) (rest := []) C 2 (fun l => c12_borrowerOf l) h_53 ⟨_, _, rfl⟩ (by decide) ml_X12_106 im_X12_borrowerOf se_X12_borrowerOf in_X12 co_X12_borrowerOf (by decide +kernel) rfl ⟨Nat.le_of_ble_eq_true rfl, Nat.le_of_ble_eq_true rfl⟩ (Nat.le_of_ble_eq_true rfl) dX12_onSide_3 ⟨Nat.le_of_ble_eq_true rfl, Nat.le_of_ble_eq_true rfl⟩ ?_
  refine ⟨a1, a2, _, rfl, hM, hK, fun r3 V3 hK => ?_⟩
  try dsimp only [Option.toList, List.cons_append, List.nil_append]
  refine a_iconst C dX12_onSide_6 ?_
  obtain ⟨q1, hK⟩ := hK
  refine a_icmp_ne C 19 dX12_onSide_7 (by decide) ⟨q1, ⟨by decide, by decide⟩⟩ (fun q2 => ?_) (fun q2 => ?_)
  · replace hK := hK.1 q2
    refine a_aload_n C dX12_onSide_19 rfl ?_
    refine a_iload_n C dX12_onSide_20 rfl ?_
    refine a_iload_n C dX12_onSide_21 rfl ?_
    refine a_callV (as := [zI a1, zI a2]) (rest := []) C 2 (fun l => c12_borrowerOf l) h_53 ⟨_, _, rfl⟩ (by decide) ml_X12_106 im_X12_borrowerOf se_X12_borrowerOf in_X12 co_X12_borrowerOf (by decide +kernel) rfl ⟨Nat.le_of_ble_eq_true rfl, Nat.le_of_ble_eq_true rfl⟩ (Nat.le_of_ble_eq_true rfl) dX12_onSide_22 ⟨Nat.le_of_ble_eq_true rfl, Nat.le_of_ble_eq_true rfl⟩ ?_
    refine ⟨a1, a2, _, rfl, hM, hK, fun r22 V22 hK => ?_⟩
    try dsimp only [Option.toList, List.cons_append, List.nil_append]
    exact a_iret C E dX12_onSide_25 (Nat.le_refl _) (Nat.le_refl _) (hpost _ _ hK)
  · replace hK := hK.2 q2
    refine a_aload_n C dX12_onSide_10 rfl ?_
    refine a_iload_n C dX12_onSide_11 rfl ?_
    refine a_iload_n C dX12_onSide_12 rfl ?_
    refine a_callV (as := [zI a1, zI a2]) (rest := []) C 2 (fun l => c12_ownerOf l) h_53 ⟨_, _, rfl⟩ (by decide) ml_X12_110 im_X12_ownerOf se_X12_ownerOf in_X12 co_X12_ownerOf (by decide +kernel) rfl ⟨Nat.le_of_ble_eq_true rfl, Nat.le_of_ble_eq_true rfl⟩ (Nat.le_of_ble_eq_true rfl) dX12_onSide_13 ⟨Nat.le_of_ble_eq_true rfl, Nat.le_of_ble_eq_true rfl⟩ ?_
    refine ⟨a1, a2, _, rfl, hM, hK, fun r13 V13 hK => ?_⟩
    try dsimp only [Option.toList, List.cons_append, List.nil_append]
    refine a_goto C 25 dX12_onSide_16 (by decide) ?_
    exact a_iret C E dX12_onSide_25 (Nat.le_refl _) (Nat.le_refl _) (hpost _ _ hK)

def m12_hasToDo_L5  (Q : Int → zV → Prop) : Nat → Int → Int → Int → Int → zV → Prop
  | 0 => fun _ _ _ _ _ => False
  | n + 1 => fun a1 a2 a3 a4 V => (inR a4) ∧ ((7 ≤ a4 → (inR a3) ∧ ((a3 = 0 → Q 0 V) ∧ (¬ a3 = 0 → m12_isStruck V a2 (fun r50 V50 => (inR r50) ∧ ((¬ r50 = 0 → Q 0 V50) ∧ (r50 = 0 → Q 1 V50)))))) ∧ (a4 < 7 → (inR a3) ∧ ((¬ a3 = 0 → m12_hasToDo_L5  Q n a1 a2 1 (a4 + 1) V) ∧ (a3 = 0 → (0 ≤ ((7 * a2) + a4) ∧ ((7 * a2) + a4) < 56) ∧ (inR a1) ∧ ((¬ (V 56 (((7 * a2) + a4)).toNat) = a1 → m12_hasToDo_L5  Q n a1 a2 0 (a4 + 1) V) ∧ ((V 56 (((7 * a2) + a4)).toNat) = a1 → m12_hasToDo_L5  Q n a1 a2 1 (a4 + 1) V))))))
def m12_hasToDo  (V : zV) (a1 : Int) (a2 : Int) (Q : Int → zV → Prop) : Prop :=
  ∃ nn25, m12_hasToDo_L5  Q nn25 a1 a2 0 3 V
def t12_hasToDo : zT := fun as S V post => ∃ (a1 : Int) (a2 : Int) (Q : Int → zV → Prop), as = [zR 53, zI a1, zI a2] ∧ PSm S ∧ m12_hasToDo V a1 a2 Q ∧ (∀ r V2, Q r V2 → post (some (zI r)) S V2)
set_option maxHeartbeats 4000000 in
set_option maxRecDepth 20000 in
theorem c12_hasToDo (l : Launch) : zCT l yX12_hasToDo cX12_hasToDo 5 (some .boolean) { frames := 1, cells := 0, slots := 0, locals := 21 } t12_hasToDo := by
  refine zCT_of (by decide) (fun as S V post h => by obtain ⟨a1, a2, Q, rfl, -⟩ := h; exact Nat.le_of_ble_eq_true rfl) ?_
  intro X S V as post C E hT
  obtain ⟨a1, a2, Q, rfl, hM, hK, hpost⟩ := hT
  obtain ⟨w_53, r_53, h_53, g_53_0, g_53_2, g_53_7, g_53_8, g_53_10, g_53_11, g_53_12, g_53_13, g_53_14, g_53_16, g_53_21, g_53_22, g_53_23, g_53_24⟩ := PSm_53 hM
  obtain ⟨r_56, h_56⟩ := PSm_56 hM
  show zW X S V 0 0 [some (zR 53), some (zI a1), some (zI a2), none, none] [] 0
  unfold m12_hasToDo at hK
  have L5 : ∀ (n : Nat) (a1 : Int) (a2 : Int) (a3 : Int) (a4 : Int) (V : zV), m12_hasToDo_L5  Q n a1 a2 a3 a4 V → zW X S V 0 0 [some (zR 53), some (zI a1), some (zI a2), some (zI a3), some (zI a4)] [] 5 := by
    intro n5
    induction n5 with
    | zero => intro _ _ _ _ _ hK; exact hK.elim
    | succ n5 ih5 =>
      intro a1 a2 a3 a4 V hK
      unfold m12_hasToDo_L5 at hK
      refine a_iload C dX12_hasToDo_5 rfl ?_
      refine a_bipush C dX12_hasToDo_7 (by decide) ?_
      obtain ⟨q13, hK⟩ := hK
      refine a_icmp_ge C 44 dX12_hasToDo_9 (by decide) ⟨q13, ⟨by decide, by decide⟩⟩ (fun q14 => ?_) (fun q14 => ?_)
      · replace hK := hK.1 q14
        refine a_iload_n C dX12_hasToDo_44 rfl ?_
        obtain ⟨q15, hK⟩ := hK
        refine a_if_eq C 60 dX12_hasToDo_45 (by decide) q15 (fun q16 => ?_) (fun q16 => ?_)
        · replace hK := hK.1 q16
          refine a_iconst C dX12_hasToDo_60 ?_
          exact a_zret C E dX12_hasToDo_61 (Nat.le_refl _) (Nat.le_refl _) (by decide) (hpost _ _ hK)
        · replace hK := hK.2 q16
          refine a_aload_n C dX12_hasToDo_48 rfl ?_
          refine a_iload_n C dX12_hasToDo_49 rfl ?_
          refine a_callV (as := [zI a2]) (rest := []) C 1 (fun l => c12_isStruck l) h_53 ⟨_, _, rfl⟩ (by decide) ml_X12_113 im_X12_isStruck se_X12_isStruck in_X12 co_X12_isStruck (by decide +kernel) rfl ⟨Nat.le_of_ble_eq_true rfl, Nat.le_of_ble_eq_true rfl⟩ (Nat.le_of_ble_eq_true rfl) dX12_hasToDo_50 ⟨Nat.le_of_ble_eq_true rfl, Nat.le_of_ble_eq_true rfl⟩ ?_
          refine ⟨a2, _, rfl, hM, hK, fun r50 V50 hK => ?_⟩
          try dsimp only [Option.toList, List.cons_append, List.nil_append]
          obtain ⟨q17, hK⟩ := hK
          refine a_if_ne C 60 dX12_hasToDo_53 (by decide) q17 (fun q18 => ?_) (fun q18 => ?_)
          · replace hK := hK.1 q18
            refine a_iconst C dX12_hasToDo_60 ?_
            exact a_zret C E dX12_hasToDo_61 (Nat.le_refl _) (Nat.le_refl _) (by decide) (hpost _ _ hK)
          · replace hK := hK.2 q18
            refine a_iconst C dX12_hasToDo_56 ?_
            refine a_goto C 61 dX12_hasToDo_57 (by decide) ?_
            exact a_zret C E dX12_hasToDo_61 (Nat.le_refl _) (Nat.le_refl _) (by decide) (hpost _ _ hK)
      · replace hK := hK.2 q14
        refine a_iload_n C dX12_hasToDo_12 rfl ?_
        obtain ⟨q19, hK⟩ := hK
        refine a_if_ne C 32 dX12_hasToDo_13 (by decide) q19 (fun q20 => ?_) (fun q20 => ?_)
        · replace hK := hK.1 q20
          refine a_iconst C dX12_hasToDo_32 ?_
          refine a_goto C 37 dX12_hasToDo_33 (by decide) ?_
          refine a_istore_n C dX12_hasToDo_37 (Nat.le_of_ble_eq_true rfl) ?_
          refine a_iinc C dX12_hasToDo_38 rfl (Nat.le_of_ble_eq_true rfl) ?_
          refine a_goto C 5 dX12_hasToDo_41 (by decide) ?_
          exact a_ls (lsub_s rfl (lsub_s rfl (lsub_s rfl (lsub_s rfl (lsub_s rfl lsub_0))))) (ih5 a1 a2 1 (a4 + 1) _ hK)
        · replace hK := hK.2 q20
          refine a_aload_n C dX12_hasToDo_16 rfl ?_
          refine a_getR C fl_X12_16_12 h_53 rfl g_53_7 dX12_hasToDo_17 ?_
          refine a_bipush C dX12_hasToDo_20 (by decide) ?_
          refine a_iload_n C dX12_hasToDo_22 rfl ?_
          refine a_imul C dX12_hasToDo_23 ?_
          refine a_iload C dX12_hasToDo_24 rfl ?_
          refine a_iadd C dX12_hasToDo_26 ?_
          obtain ⟨q21, hK⟩ := hK
          refine a_iald C h_56 dX12_hasToDo_27 (by decide) q21 (fun r22 => ?_)
          refine a_iload_n C dX12_hasToDo_28 rfl ?_
          obtain ⟨q23, hK⟩ := hK
          refine a_icmp_ne C 36 dX12_hasToDo_29 (by decide) ⟨r22, q23⟩ (fun q24 => ?_) (fun q24 => ?_)
          · replace hK := hK.1 q24
            refine a_iconst C dX12_hasToDo_36 ?_
            refine a_istore_n C dX12_hasToDo_37 (Nat.le_of_ble_eq_true rfl) ?_
            refine a_iinc C dX12_hasToDo_38 rfl (Nat.le_of_ble_eq_true rfl) ?_
            refine a_goto C 5 dX12_hasToDo_41 (by decide) ?_
            exact a_ls (lsub_s rfl (lsub_s rfl (lsub_s rfl (lsub_s rfl (lsub_s rfl lsub_0))))) (ih5 a1 a2 0 (a4 + 1) _ hK)
          · replace hK := hK.2 q24
            refine a_iconst C dX12_hasToDo_32 ?_
            refine a_goto C 37 dX12_hasToDo_33 (by decide) ?_
            refine a_istore_n C dX12_hasToDo_37 (Nat.le_of_ble_eq_true rfl) ?_
            refine a_iinc C dX12_hasToDo_38 rfl (Nat.le_of_ble_eq_true rfl) ?_
            refine a_goto C 5 dX12_hasToDo_41 (by decide) ?_
            exact a_ls (lsub_s rfl (lsub_s rfl (lsub_s rfl (lsub_s rfl (lsub_s rfl lsub_0))))) (ih5 a1 a2 1 (a4 + 1) _ hK)
  refine a_iconst C dX12_hasToDo_0 ?_
  refine a_istore_n C dX12_hasToDo_1 (Nat.le_of_ble_eq_true rfl) ?_
  refine a_iconst C dX12_hasToDo_2 ?_
  refine a_istore C dX12_hasToDo_3 (Nat.le_of_ble_eq_true rfl) ?_
  obtain ⟨nn25, hK⟩ := hK
  exact a_ls (lsub_s rfl (lsub_s rfl (lsub_s rfl (lsub_s rfl (lsub_s rfl lsub_0))))) (L5 nn25 a1 a2 0 3 _ hK)

def m12_priceOf_J57  (Q : Int → zV → Prop) (a1 : Int) (a2 : Int) (s0 : Int) (V : zV) : Prop :=
  m12_ownerOf V a1 (1 - a2) (fun r64 V64 => (inR r64) ∧ ((¬ r64 = (-1) → Q s0 V64) ∧ (r64 = (-1) → (0 ≤ (s0 + 1) ∧ (s0 + 1) < 2147483648) ∧ Q ((s0 + 1) / 2) V64)))
def m12_priceOf  (V : zV) (a1 : Int) (a2 : Int) (Q : Int → zV → Prop) : Prop :=
  (0 ≤ (7 * a1) ∧ (7 * a1) < 56) ∧ (0 ≤ ((7 * a1) + 1) ∧ ((7 * a1) + 1) < 56) ∧ ((¬ (V 56 ((7 * a1)).toNat) = 2 → ((2 ≤ (V 56 ((7 * a1)).toNat) → ((¬ (V 56 ((7 * a1)).toNat) = 4 → m12_priceOf_J57  Q a1 a2 ((2 * (V 56 (((7 * a1) + 1)).toNat)) + 0) V) ∧ ((V 56 ((7 * a1)).toNat) = 4 → m12_priceOf_J57  Q a1 a2 ((2 * (V 56 (((7 * a1) + 1)).toNat)) + 3) V))) ∧ ((V 56 ((7 * a1)).toNat) < 2 → m12_priceOf_J57  Q a1 a2 (V 56 (((7 * a1) + 1)).toNat) V))) ∧ ((V 56 ((7 * a1)).toNat) = 2 → m12_priceOf_J57  Q a1 a2 1 V))
def t12_priceOf : zT := fun as S V post => ∃ (a1 : Int) (a2 : Int) (Q : Int → zV → Prop), as = [zR 53, zI a1, zI a2] ∧ PSm S ∧ m12_priceOf V a1 a2 Q ∧ (∀ r V2, Q r V2 → post (some (zI r)) S V2)
set_option maxHeartbeats 4000000 in
set_option maxRecDepth 20000 in
theorem c12_priceOf (l : Launch) : zCT l yX12_priceOf cX12_priceOf 6 (some .int) { frames := 1, cells := 0, slots := 0, locals := 22 } t12_priceOf := by
  refine zCT_of (by decide) (fun as S V post h => by obtain ⟨a1, a2, Q, rfl, -⟩ := h; exact Nat.le_of_ble_eq_true rfl) ?_
  intro X S V as post C E hT
  obtain ⟨a1, a2, Q, rfl, hM, hK, hpost⟩ := hT
  obtain ⟨w_53, r_53, h_53, g_53_0, g_53_2, g_53_7, g_53_8, g_53_10, g_53_11, g_53_12, g_53_13, g_53_14, g_53_16, g_53_21, g_53_22, g_53_23, g_53_24⟩ := PSm_53 hM
  obtain ⟨r_56, h_56⟩ := PSm_56 hM
  show zW X S V 0 0 [some (zR 53), some (zI a1), some (zI a2), none, none, none] [] 0
  unfold m12_priceOf at hK
  have J57 : ∀ (a1 : Int) (a2 : Int) (s0 : Int) (V : zV), m12_priceOf_J57  Q a1 a2 s0 V → zW X S V 0 0 [some (zR 53), some (zI a1), some (zI a2), none, none, none] [zI s0] 57 := by
    intro a1 a2 s0 V hK
    unfold m12_priceOf_J57 at hK
    refine a_istore C dX12_priceOf_57 (Nat.le_of_ble_eq_true rfl) ?_
    refine a_aload_n C dX12_priceOf_59 rfl ?_
    refine a_iload_n C dX12_priceOf_60 rfl ?_
    refine a_iconst C dX12_priceOf_61 ?_
    refine a_iload_n C dX12_priceOf_62 rfl ?_
    refine a_isub C dX12_priceOf_63 ?_
    refine a_callV (as := [zI a1, zI (1 - a2)]) (rest := []) C 2 (fun l => c12_ownerOf l) h_53 ⟨_, _, rfl⟩ (by decide) ml_X12_110 im_X12_ownerOf se_X12_ownerOf in_X12 co_X12_ownerOf (by decide +kernel) rfl ⟨Nat.le_of_ble_eq_true rfl, Nat.le_of_ble_eq_true rfl⟩ (Nat.le_of_ble_eq_true rfl) dX12_priceOf_64 ⟨Nat.le_of_ble_eq_true rfl, Nat.le_of_ble_eq_true rfl⟩ ?_
    refine ⟨a1, (1 - a2), _, rfl, hM, hK, fun r64 V64 hK => ?_⟩
    try dsimp only [Option.toList, List.cons_append, List.nil_append]
    refine a_iconst C dX12_priceOf_67 ?_
    obtain ⟨q4, hK⟩ := hK
    refine a_icmp_ne C 80 dX12_priceOf_68 (by decide) ⟨q4, ⟨by decide, by decide⟩⟩ (fun q5 => ?_) (fun q5 => ?_)
    · replace hK := hK.1 q5
      refine a_iload C dX12_priceOf_80 rfl ?_
      exact a_iret C E dX12_priceOf_82 (Nat.le_refl _) (Nat.le_refl _) (hpost _ _ hK)
    · replace hK := hK.2 q5
      refine a_iload C dX12_priceOf_71 rfl ?_
      refine a_iconst C dX12_priceOf_73 ?_
      refine a_iadd C dX12_priceOf_74 ?_
      refine a_iconst C dX12_priceOf_75 ?_
      obtain ⟨q6, hK⟩ := hK
      refine a_idiv C dX12_priceOf_76 ⟨q6, by decide, by decide⟩ ?_
      refine a_goto C 82 dX12_priceOf_77 (by decide) ?_
      exact a_iret C E dX12_priceOf_82 (Nat.le_refl _) (Nat.le_refl _) (hpost _ _ hK)
  refine a_aload_n C dX12_priceOf_0 rfl ?_
  refine a_getR C fl_X12_16_12 h_53 rfl g_53_7 dX12_priceOf_1 ?_
  refine a_bipush C dX12_priceOf_4 (by decide) ?_
  refine a_iload_n C dX12_priceOf_6 rfl ?_
  refine a_imul C dX12_priceOf_7 ?_
  obtain ⟨q7, hK⟩ := hK
  refine a_iald C h_56 dX12_priceOf_8 (by decide) q7 (fun r8 => ?_)
  refine a_istore_n C dX12_priceOf_9 (Nat.le_of_ble_eq_true rfl) ?_
  refine a_aload_n C dX12_priceOf_10 rfl ?_
  refine a_getR C fl_X12_16_12 h_53 rfl g_53_7 dX12_priceOf_11 ?_
  refine a_bipush C dX12_priceOf_14 (by decide) ?_
  refine a_iload_n C dX12_priceOf_16 rfl ?_
  refine a_imul C dX12_priceOf_17 ?_
  refine a_iconst C dX12_priceOf_18 ?_
  refine a_iadd C dX12_priceOf_19 ?_
  obtain ⟨q9, hK⟩ := hK
  refine a_iald C h_56 dX12_priceOf_20 (by decide) q9 (fun r10 => ?_)
  refine a_istore C dX12_priceOf_21 (Nat.le_of_ble_eq_true rfl) ?_
  refine a_iload_n C dX12_priceOf_23 rfl ?_
  refine a_iconst C dX12_priceOf_24 ?_
  refine a_icmp_ne C 32 dX12_priceOf_25 (by decide) ⟨r8, ⟨by decide, by decide⟩⟩ (fun q11 => ?_) (fun q11 => ?_)
  · replace hK := hK.1 q11
    refine a_iload_n C dX12_priceOf_32 rfl ?_
    refine a_iconst C dX12_priceOf_33 ?_
    refine a_icmp_ge C 42 dX12_priceOf_34 (by decide) ⟨r8, ⟨by decide, by decide⟩⟩ (fun q12 => ?_) (fun q12 => ?_)
    · replace hK := hK.1 q12
      refine a_iconst C dX12_priceOf_42 ?_
      refine a_iload C dX12_priceOf_43 rfl ?_
      refine a_imul C dX12_priceOf_45 ?_
      refine a_iload_n C dX12_priceOf_46 rfl ?_
      refine a_iconst C dX12_priceOf_47 ?_
      refine a_icmp_ne C 55 dX12_priceOf_48 (by decide) ⟨r8, ⟨by decide, by decide⟩⟩ (fun q13 => ?_) (fun q13 => ?_)
      · replace hK := hK.1 q13
        refine a_iconst C dX12_priceOf_55 ?_
        refine a_iadd C dX12_priceOf_56 ?_
        exact a_ls (lsub_s rfl (lsub_s rfl (lsub_s rfl (lsub_n (lsub_n (lsub_n lsub_0)))))) (J57 a1 a2 ((2 * (V 56 (((7 * a1) + 1)).toNat)) + 0) _ hK)
      · replace hK := hK.2 q13
        refine a_iconst C dX12_priceOf_51 ?_
        refine a_goto C 56 dX12_priceOf_52 (by decide) ?_
        refine a_iadd C dX12_priceOf_56 ?_
        exact a_ls (lsub_s rfl (lsub_s rfl (lsub_s rfl (lsub_n (lsub_n (lsub_n lsub_0)))))) (J57 a1 a2 ((2 * (V 56 (((7 * a1) + 1)).toNat)) + 3) _ hK)
    · replace hK := hK.2 q12
      refine a_iload C dX12_priceOf_37 rfl ?_
      refine a_goto C 57 dX12_priceOf_39 (by decide) ?_
      exact a_ls (lsub_s rfl (lsub_s rfl (lsub_s rfl (lsub_n (lsub_n (lsub_n lsub_0)))))) (J57 a1 a2 (V 56 (((7 * a1) + 1)).toNat) _ hK)
  · replace hK := hK.2 q11
    refine a_iconst C dX12_priceOf_28 ?_
    refine a_goto C 57 dX12_priceOf_29 (by decide) ?_
    exact a_ls (lsub_s rfl (lsub_s rfl (lsub_s rfl (lsub_n (lsub_n (lsub_n lsub_0)))))) (J57 a1 a2 1 _ hK)

def m12_tell  (V : zV) (a1 : Int) (a2 : Int) (Q : Int → zV → Prop) : Prop :=
  (inR a2) ∧ (a2 = 0 → (0 ≤ ((7 * a1) + a2) ∧ ((7 * a1) + a2) < 56) ∧ Q (V 56 (((7 * a1) + a2)).toNat) V) ∧ (a2 = 1 → (0 ≤ ((7 * a1) + a2) ∧ ((7 * a1) + a2) < 56) ∧ Q (V 56 (((7 * a1) + a2)).toNat) V) ∧ (a2 = 2 → (0 ≤ ((7 * a1) + a2) ∧ ((7 * a1) + a2) < 56) ∧ Q (V 56 (((7 * a1) + a2)).toNat) V) ∧ (a2 = 3 → m12_onSide V a1 (a2 - 3) (fun r69 V69 => Q r69 V69)) ∧ (a2 = 4 → m12_onSide V a1 (a2 - 3) (fun r69 V69 => Q r69 V69)) ∧ (a2 = 5 → m12_borrowerOf V a1 (a2 - 5) (fun r78 V78 => (inR r78) ∧ ((¬ r78 = (-1) → m12_ownerOf V78 a1 (a2 - 5) (fun r94 V94 => Q r94 V94)) ∧ (r78 = (-1) → Q (-1) V78)))) ∧ (a2 = 6 → m12_borrowerOf V a1 (a2 - 5) (fun r78 V78 => (inR r78) ∧ ((¬ r78 = (-1) → m12_ownerOf V78 a1 (a2 - 5) (fun r94 V94 => Q r94 V94)) ∧ (r78 = (-1) → Q (-1) V78)))) ∧ (a2 = 7 → m12_isStruck V a1 (fun r100 V100 => (inR r100) ∧ ((r100 = 0 → m12_priceOf V100 a1 (a2 - 7) (fun r116 V116 => Q r116 V116)) ∧ (¬ r100 = 0 → Q (-1) V100)))) ∧ (a2 = 8 → m12_isStruck V a1 (fun r100 V100 => (inR r100) ∧ ((r100 = 0 → m12_priceOf V100 a1 (a2 - 7) (fun r116 V116 => Q r116 V116)) ∧ (¬ r100 = 0 → Q (-1) V100)))) ∧ (a2 < 0 ∨ 8 < a2 → Q (-102) V)
def t12_tell : zT := fun as S V post => ∃ (a1 : Int) (a2 : Int) (Q : Int → zV → Prop), as = [zR 53, zI a1, zI a2] ∧ PSm S ∧ m12_tell V a1 a2 Q ∧ (∀ r V2, Q r V2 → post (some (zI r)) S V2)
set_option maxHeartbeats 4000000 in
set_option maxRecDepth 20000 in
theorem c12_tell (l : Launch) : zCT l yX12_tell cX12_tell 3 (some .int) { frames := 2, cells := 0, slots := 0, locals := 47 } t12_tell := by
  refine zCT_of (by decide) (fun as S V post h => by obtain ⟨a1, a2, Q, rfl, -⟩ := h; exact Nat.le_of_ble_eq_true rfl) ?_
  intro X S V as post C E hT
  obtain ⟨a1, a2, Q, rfl, hM, hK, hpost⟩ := hT
  obtain ⟨w_53, r_53, h_53, g_53_0, g_53_2, g_53_7, g_53_8, g_53_10, g_53_11, g_53_12, g_53_13, g_53_14, g_53_16, g_53_21, g_53_22, g_53_23, g_53_24⟩ := PSm_53 hM
  obtain ⟨r_56, h_56⟩ := PSm_56 hM
  show zW X S V 0 0 [some (zR 53), some (zI a1), some (zI a2)] [] 0
  unfold m12_tell at hK
  refine a_iload_n C dX12_tell_0 rfl ?_
  obtain ⟨q1, hK⟩ := hK
  by_cases q2 : a2 = 0
  · refine a_tswIn C 0 52 dX12_tell_1 (by omega) q1 (by decide) rfl (by decide) ?_
    replace hK := hK.1 q2
    refine a_aload_n C dX12_tell_52 rfl ?_
    refine a_getR C fl_X12_16_12 h_53 rfl g_53_7 dX12_tell_53 ?_
    refine a_bipush C dX12_tell_56 (by decide) ?_
    refine a_iload_n C dX12_tell_58 rfl ?_
    refine a_imul C dX12_tell_59 ?_
    refine a_iload_n C dX12_tell_60 rfl ?_
    refine a_iadd C dX12_tell_61 ?_
    obtain ⟨q3, hK⟩ := hK
    refine a_iald C h_56 dX12_tell_62 (by decide) q3 (fun r4 => ?_)
    exact a_iret C E dX12_tell_63 (Nat.le_refl _) (Nat.le_refl _) (hpost _ _ hK)
  replace hK := hK.2
  by_cases q5 : a2 = 1
  · refine a_tswIn C 1 52 dX12_tell_1 (by omega) q1 (by decide) rfl (by decide) ?_
    replace hK := hK.1 q5
    refine a_aload_n C dX12_tell_52 rfl ?_
    refine a_getR C fl_X12_16_12 h_53 rfl g_53_7 dX12_tell_53 ?_
    refine a_bipush C dX12_tell_56 (by decide) ?_
    refine a_iload_n C dX12_tell_58 rfl ?_
    refine a_imul C dX12_tell_59 ?_
    refine a_iload_n C dX12_tell_60 rfl ?_
    refine a_iadd C dX12_tell_61 ?_
    obtain ⟨q6, hK⟩ := hK
    refine a_iald C h_56 dX12_tell_62 (by decide) q6 (fun r7 => ?_)
    exact a_iret C E dX12_tell_63 (Nat.le_refl _) (Nat.le_refl _) (hpost _ _ hK)
  replace hK := hK.2
  by_cases q8 : a2 = 2
  · refine a_tswIn C 2 52 dX12_tell_1 (by omega) q1 (by decide) rfl (by decide) ?_
    replace hK := hK.1 q8
    refine a_aload_n C dX12_tell_52 rfl ?_
    refine a_getR C fl_X12_16_12 h_53 rfl g_53_7 dX12_tell_53 ?_
    refine a_bipush C dX12_tell_56 (by decide) ?_
    refine a_iload_n C dX12_tell_58 rfl ?_
    refine a_imul C dX12_tell_59 ?_
    refine a_iload_n C dX12_tell_60 rfl ?_
    refine a_iadd C dX12_tell_61 ?_
    obtain ⟨q9, hK⟩ := hK
    refine a_iald C h_56 dX12_tell_62 (by decide) q9 (fun r10 => ?_)
    exact a_iret C E dX12_tell_63 (Nat.le_refl _) (Nat.le_refl _) (hpost _ _ hK)
  replace hK := hK.2
  by_cases q11 : a2 = 3
  · refine a_tswIn C 3 64 dX12_tell_1 (by omega) q1 (by decide) rfl (by decide) ?_
    replace hK := hK.1 q11
    refine a_aload_n C dX12_tell_64 rfl ?_
    refine a_iload_n C dX12_tell_65 rfl ?_
    refine a_iload_n C dX12_tell_66 rfl ?_
    refine a_iconst C dX12_tell_67 ?_
    refine a_isub C dX12_tell_68 ?_
    refine a_callV (as := [zI a1, zI (a2 - 3)]) (rest := []) C 2 (fun l => c12_onSide l) h_53 ⟨_, _, rfl⟩ (by decide) ml_X12_116 im_X12_onSide se_X12_onSide in_X12 co_X12_onSide (by decide +kernel) rfl ⟨Nat.le_of_ble_eq_true rfl, Nat.le_of_ble_eq_true rfl⟩ (Nat.le_of_ble_eq_true rfl) dX12_tell_69 ⟨Nat.le_of_ble_eq_true rfl, Nat.le_of_ble_eq_true rfl⟩ ?_
    refine ⟨a1, (a2 - 3), _, rfl, hM, hK, fun r69 V69 hK => ?_⟩
    try dsimp only [Option.toList, List.cons_append, List.nil_append]
    exact a_iret C E dX12_tell_72 (Nat.le_refl _) (Nat.le_refl _) (hpost _ _ hK)
  replace hK := hK.2
  by_cases q12 : a2 = 4
  · refine a_tswIn C 4 64 dX12_tell_1 (by omega) q1 (by decide) rfl (by decide) ?_
    replace hK := hK.1 q12
    refine a_aload_n C dX12_tell_64 rfl ?_
    refine a_iload_n C dX12_tell_65 rfl ?_
    refine a_iload_n C dX12_tell_66 rfl ?_
    refine a_iconst C dX12_tell_67 ?_
    refine a_isub C dX12_tell_68 ?_
    refine a_callV (as := [zI a1, zI (a2 - 3)]) (rest := []) C 2 (fun l => c12_onSide l) h_53 ⟨_, _, rfl⟩ (by decide) ml_X12_116 im_X12_onSide se_X12_onSide in_X12 co_X12_onSide (by decide +kernel) rfl ⟨Nat.le_of_ble_eq_true rfl, Nat.le_of_ble_eq_true rfl⟩ (Nat.le_of_ble_eq_true rfl) dX12_tell_69 ⟨Nat.le_of_ble_eq_true rfl, Nat.le_of_ble_eq_true rfl⟩ ?_
    refine ⟨a1, (a2 - 3), _, rfl, hM, hK, fun r69 V69 hK => ?_⟩
    try dsimp only [Option.toList, List.cons_append, List.nil_append]
    exact a_iret C E dX12_tell_72 (Nat.le_refl _) (Nat.le_refl _) (hpost _ _ hK)
  replace hK := hK.2
  by_cases q13 : a2 = 5
  · refine a_tswIn C 5 73 dX12_tell_1 (by omega) q1 (by decide) rfl (by decide) ?_
    replace hK := hK.1 q13
    refine a_aload_n C dX12_tell_73 rfl ?_
    refine a_iload_n C dX12_tell_74 rfl ?_
    refine a_iload_n C dX12_tell_75 rfl ?_
    refine a_iconst C dX12_tell_76 ?_
    refine a_isub C dX12_tell_77 ?_
    refine a_callV (as := [zI a1, zI (a2 - 5)]) (rest := []) C 2 (fun l => c12_borrowerOf l) h_53 ⟨_, _, rfl⟩ (by decide) ml_X12_106 im_X12_borrowerOf se_X12_borrowerOf in_X12 co_X12_borrowerOf (by decide +kernel) rfl ⟨Nat.le_of_ble_eq_true rfl, Nat.le_of_ble_eq_true rfl⟩ (Nat.le_of_ble_eq_true rfl) dX12_tell_78 ⟨Nat.le_of_ble_eq_true rfl, Nat.le_of_ble_eq_true rfl⟩ ?_
    refine ⟨a1, (a2 - 5), _, rfl, hM, hK, fun r78 V78 hK => ?_⟩
    try dsimp only [Option.toList, List.cons_append, List.nil_append]
    refine a_iconst C dX12_tell_81 ?_
    obtain ⟨q14, hK⟩ := hK
    refine a_icmp_ne C 89 dX12_tell_82 (by decide) ⟨q14, ⟨by decide, by decide⟩⟩ (fun q15 => ?_) (fun q15 => ?_)
    · replace hK := hK.1 q15
      refine a_aload_n C dX12_tell_89 rfl ?_
      refine a_iload_n C dX12_tell_90 rfl ?_
      refine a_iload_n C dX12_tell_91 rfl ?_
      refine a_iconst C dX12_tell_92 ?_
      refine a_isub C dX12_tell_93 ?_
      refine a_callV (as := [zI a1, zI (a2 - 5)]) (rest := []) C 2 (fun l => c12_ownerOf l) h_53 ⟨_, _, rfl⟩ (by decide) ml_X12_110 im_X12_ownerOf se_X12_ownerOf in_X12 co_X12_ownerOf (by decide +kernel) rfl ⟨Nat.le_of_ble_eq_true rfl, Nat.le_of_ble_eq_true rfl⟩ (Nat.le_of_ble_eq_true rfl) dX12_tell_94 ⟨Nat.le_of_ble_eq_true rfl, Nat.le_of_ble_eq_true rfl⟩ ?_
      refine ⟨a1, (a2 - 5), _, rfl, hM, hK, fun r94 V94 hK => ?_⟩
      try dsimp only [Option.toList, List.cons_append, List.nil_append]
      exact a_iret C E dX12_tell_97 (Nat.le_refl _) (Nat.le_refl _) (hpost _ _ hK)
    · replace hK := hK.2 q15
      refine a_iconst C dX12_tell_85 ?_
      refine a_goto C 97 dX12_tell_86 (by decide) ?_
      exact a_iret C E dX12_tell_97 (Nat.le_refl _) (Nat.le_refl _) (hpost _ _ hK)
  replace hK := hK.2
  by_cases q16 : a2 = 6
  · refine a_tswIn C 6 73 dX12_tell_1 (by omega) q1 (by decide) rfl (by decide) ?_
    replace hK := hK.1 q16
    refine a_aload_n C dX12_tell_73 rfl ?_
    refine a_iload_n C dX12_tell_74 rfl ?_
    refine a_iload_n C dX12_tell_75 rfl ?_
    refine a_iconst C dX12_tell_76 ?_
    refine a_isub C dX12_tell_77 ?_
    refine a_callV (as := [zI a1, zI (a2 - 5)]) (rest := []) C 2 (fun l => c12_borrowerOf l) h_53 ⟨_, _, rfl⟩ (by decide) ml_X12_106 im_X12_borrowerOf se_X12_borrowerOf in_X12 co_X12_borrowerOf (by decide +kernel) rfl ⟨Nat.le_of_ble_eq_true rfl, Nat.le_of_ble_eq_true rfl⟩ (Nat.le_of_ble_eq_true rfl) dX12_tell_78 ⟨Nat.le_of_ble_eq_true rfl, Nat.le_of_ble_eq_true rfl⟩ ?_
    refine ⟨a1, (a2 - 5), _, rfl, hM, hK, fun r78 V78 hK => ?_⟩
    try dsimp only [Option.toList, List.cons_append, List.nil_append]
    refine a_iconst C dX12_tell_81 ?_
    obtain ⟨q17, hK⟩ := hK
    refine a_icmp_ne C 89 dX12_tell_82 (by decide) ⟨q17, ⟨by decide, by decide⟩⟩ (fun q18 => ?_) (fun q18 => ?_)
    · replace hK := hK.1 q18
      refine a_aload_n C dX12_tell_89 rfl ?_
      refine a_iload_n C dX12_tell_90 rfl ?_
      refine a_iload_n C dX12_tell_91 rfl ?_
      refine a_iconst C dX12_tell_92 ?_
      refine a_isub C dX12_tell_93 ?_
      refine a_callV (as := [zI a1, zI (a2 - 5)]) (rest := []) C 2 (fun l => c12_ownerOf l) h_53 ⟨_, _, rfl⟩ (by decide) ml_X12_110 im_X12_ownerOf se_X12_ownerOf in_X12 co_X12_ownerOf (by decide +kernel) rfl ⟨Nat.le_of_ble_eq_true rfl, Nat.le_of_ble_eq_true rfl⟩ (Nat.le_of_ble_eq_true rfl) dX12_tell_94 ⟨Nat.le_of_ble_eq_true rfl, Nat.le_of_ble_eq_true rfl⟩ ?_
      refine ⟨a1, (a2 - 5), _, rfl, hM, hK, fun r94 V94 hK => ?_⟩
      try dsimp only [Option.toList, List.cons_append, List.nil_append]
      exact a_iret C E dX12_tell_97 (Nat.le_refl _) (Nat.le_refl _) (hpost _ _ hK)
    · replace hK := hK.2 q18
      refine a_iconst C dX12_tell_85 ?_
      refine a_goto C 97 dX12_tell_86 (by decide) ?_
      exact a_iret C E dX12_tell_97 (Nat.le_refl _) (Nat.le_refl _) (hpost _ _ hK)
  replace hK := hK.2
  by_cases q19 : a2 = 7
  · refine a_tswIn C 7 98 dX12_tell_1 (by omega) q1 (by decide) rfl (by decide) ?_
    replace hK := hK.1 q19
    refine a_aload_n C dX12_tell_98 rfl ?_
    refine a_iload_n C dX12_tell_99 rfl ?_
    refine a_callV (as := [zI a1]) (rest := []) C 1 (fun l => c12_isStruck l) h_53 ⟨_, _, rfl⟩ (by decide) ml_X12_113 im_X12_isStruck se_X12_isStruck in_X12 co_X12_isStruck (by decide +kernel) rfl ⟨Nat.le_of_ble_eq_true rfl, Nat.le_of_ble_eq_true rfl⟩ (Nat.le_of_ble_eq_true rfl) dX12_tell_100 ⟨Nat.le_of_ble_eq_true rfl, Nat.le_of_ble_eq_true rfl⟩ ?_
    refine ⟨a1, _, rfl, hM, hK, fun r100 V100 hK => ?_⟩
    try dsimp only [Option.toList, List.cons_append, List.nil_append]
    obtain ⟨q20, hK⟩ := hK
    refine a_if_eq C 110 dX12_tell_103 (by decide) q20 (fun q21 => ?_) (fun q21 => ?_)
    · replace hK := hK.1 q21
      refine a_aload_n C dX12_tell_110 rfl ?_
      refine a_iload_n C dX12_tell_111 rfl ?_
      refine a_iload_n C dX12_tell_112 rfl ?_
      refine a_bipush C dX12_tell_113 (by decide) ?_
      refine a_isub C dX12_tell_115 ?_
      refine a_callV (as := [zI a1, zI (a2 - 7)]) (rest := []) C 2 (fun l => c12_priceOf l) h_53 ⟨_, _, rfl⟩ (by decide) ml_X12_119 im_X12_priceOf se_X12_priceOf in_X12 co_X12_priceOf (by decide +kernel) rfl ⟨Nat.le_of_ble_eq_true rfl, Nat.le_of_ble_eq_true rfl⟩ (Nat.le_of_ble_eq_true rfl) dX12_tell_116 ⟨Nat.le_of_ble_eq_true rfl, Nat.le_of_ble_eq_true rfl⟩ ?_
      refine ⟨a1, (a2 - 7), _, rfl, hM, hK, fun r116 V116 hK => ?_⟩
      try dsimp only [Option.toList, List.cons_append, List.nil_append]
      exact a_iret C E dX12_tell_119 (Nat.le_refl _) (Nat.le_refl _) (hpost _ _ hK)
    · replace hK := hK.2 q21
      refine a_iconst C dX12_tell_106 ?_
      refine a_goto C 119 dX12_tell_107 (by decide) ?_
      exact a_iret C E dX12_tell_119 (Nat.le_refl _) (Nat.le_refl _) (hpost _ _ hK)
  replace hK := hK.2
  by_cases q22 : a2 = 8
  · refine a_tswIn C 8 98 dX12_tell_1 (by omega) q1 (by decide) rfl (by decide) ?_
    replace hK := hK.1 q22
    refine a_aload_n C dX12_tell_98 rfl ?_
    refine a_iload_n C dX12_tell_99 rfl ?_
    refine a_callV (as := [zI a1]) (rest := []) C 1 (fun l => c12_isStruck l) h_53 ⟨_, _, rfl⟩ (by decide) ml_X12_113 im_X12_isStruck se_X12_isStruck in_X12 co_X12_isStruck (by decide +kernel) rfl ⟨Nat.le_of_ble_eq_true rfl, Nat.le_of_ble_eq_true rfl⟩ (Nat.le_of_ble_eq_true rfl) dX12_tell_100 ⟨Nat.le_of_ble_eq_true rfl, Nat.le_of_ble_eq_true rfl⟩ ?_
    refine ⟨a1, _, rfl, hM, hK, fun r100 V100 hK => ?_⟩
    try dsimp only [Option.toList, List.cons_append, List.nil_append]
    obtain ⟨q23, hK⟩ := hK
    refine a_if_eq C 110 dX12_tell_103 (by decide) q23 (fun q24 => ?_) (fun q24 => ?_)
    · replace hK := hK.1 q24
      refine a_aload_n C dX12_tell_110 rfl ?_
      refine a_iload_n C dX12_tell_111 rfl ?_
      refine a_iload_n C dX12_tell_112 rfl ?_
      refine a_bipush C dX12_tell_113 (by decide) ?_
      refine a_isub C dX12_tell_115 ?_
      refine a_callV (as := [zI a1, zI (a2 - 7)]) (rest := []) C 2 (fun l => c12_priceOf l) h_53 ⟨_, _, rfl⟩ (by decide) ml_X12_119 im_X12_priceOf se_X12_priceOf in_X12 co_X12_priceOf (by decide +kernel) rfl ⟨Nat.le_of_ble_eq_true rfl, Nat.le_of_ble_eq_true rfl⟩ (Nat.le_of_ble_eq_true rfl) dX12_tell_116 ⟨Nat.le_of_ble_eq_true rfl, Nat.le_of_ble_eq_true rfl⟩ ?_
      refine ⟨a1, (a2 - 7), _, rfl, hM, hK, fun r116 V116 hK => ?_⟩
      try dsimp only [Option.toList, List.cons_append, List.nil_append]
      exact a_iret C E dX12_tell_119 (Nat.le_refl _) (Nat.le_refl _) (hpost _ _ hK)
    · replace hK := hK.2 q24
      refine a_iconst C dX12_tell_106 ?_
      refine a_goto C 119 dX12_tell_107 (by decide) ?_
      exact a_iret C E dX12_tell_119 (Nat.le_refl _) (Nat.le_refl _) (hpost _ _ hK)
  replace hK := hK.2
  have q25 : a2 < 0 ∨ 8 < a2 := by omega
  refine a_tswOut C 120 dX12_tell_1 q1 q25 (by decide) ?_
  replace hK := hK q25
  refine a_bipush C dX12_tell_120 (by decide) ?_
  exact a_iret C E dX12_tell_122 (Nat.le_refl _) (Nat.le_refl _) (hpost _ _ hK)

def m12_about  (V : zV) (a1 : Int) (a2 : Int) (Q : Int → zV → Prop) : Prop :=
  m12_isFeud V a1 (fun r2 V2 => (inR r2) ∧ ((r2 = 0 → Q (-101) V2) ∧ (¬ r2 = 0 → m12_tell V2 a1 a2 (fun r11 V11 => Q r11 V11))))
def t12_about : zT := fun as S V post => ∃ (a1 : Int) (a2 : Int) (Q : Int → zV → Prop), as = [zR 53, zI a1, zI a2] ∧ PSm S ∧ m12_about V a1 a2 Q ∧ (∀ r V2, Q r V2 → post (some (zI r)) S V2)
set_option maxHeartbeats 4000000 in
set_option maxRecDepth 20000 in
theorem c12_about (l : Launch) : zCT l yX12_about cX12_about 3 (some .int) { frames := 3, cells := 0, slots := 0, locals := 69 } t12_about := by
  refine zCT_of (by decide) (fun as S V post h => by obtain ⟨a1, a2, Q, rfl, -⟩ := h; exact Nat.le_of_ble_eq_true rfl) ?_
  intro X S V as post C E hT
  obtain ⟨a1, a2, Q, rfl, hM, hK, hpost⟩ := hT
  obtain ⟨w_53, r_53, h_53, g_53_0, g_53_2, g_53_7, g_53_8, g_53_10, g_53_11, g_53_12, g_53_13, g_53_14, g_53_16, g_53_21, g_53_22, g_53_23, g_53_24⟩ := PSm_53 hM
  show zW X S V 0 0 [some (zR 53), some (zI a1), some (zI a2)] [] 0
  unfold m12_about at hK
  refine a_aload_n C dX12_about_0 rfl ?_
  refine a_iload_n C dX12_about_1 rfl ?_
  refine a_callV (as := [zI a1]) (rest := []) C 1 (fun l => c12_isFeud l) h_53 ⟨_, _, rfl⟩ (by decide) ml_X12_122 im_X12_isFeud se_X12_isFeud in_X12 co_X12_isFeud (by decide +kernel) rfl ⟨Nat.le_of_ble_eq_true rfl, Nat.le_of_ble_eq_true rfl⟩ (Nat.le_of_ble_eq_true rfl) dX12_about_2 ⟨Nat.le_of_ble_eq_true rfl, Nat.le_of_ble_eq_true rfl⟩ ?_
  refine ⟨a1, _, rfl, hM, hK, fun r2 V2 hK => ?_⟩
  try dsimp only [Option.toList, List.cons_append, List.nil_append]
  obtain ⟨q1, hK⟩ := hK
  refine a_if_eq C 17 dX12_about_5 (by decide) q1 (fun q2 => ?_) (fun q2 => ?_)
  · replace hK := hK.1 q2
    refine a_bipush C dX12_about_17 (by decide) ?_
    exact a_iret C E dX12_about_19 (Nat.le_refl _) (Nat.le_refl _) (hpost _ _ hK)
  · replace hK := hK.2 q2
    refine a_aload_n C dX12_about_8 rfl ?_
    refine a_iload_n C dX12_about_9 rfl ?_
    refine a_iload_n C dX12_about_10 rfl ?_
    refine a_callV (as := [zI a1, zI a2]) (rest := []) C 2 (fun l => c12_tell l) h_53 ⟨_, _, rfl⟩ (by decide) ml_X12_125 im_X12_tell se_X12_tell in_X12 co_X12_tell (by decide +kernel) rfl ⟨Nat.le_of_ble_eq_true rfl, Nat.le_of_ble_eq_true rfl⟩ (Nat.le_of_ble_eq_true rfl) dX12_about_11 ⟨Nat.le_of_ble_eq_true rfl, Nat.le_of_ble_eq_true rfl⟩ ?_
    refine ⟨a1, a2, _, rfl, hM, hK, fun r11 V11 hK => ?_⟩
    try dsimp only [Option.toList, List.cons_append, List.nil_append]
    refine a_goto C 19 dX12_about_14 (by decide) ?_
    exact a_iret C E dX12_about_19 (Nat.le_refl _) (Nat.le_refl _) (hpost _ _ hK)

def m12_as_J60  (Q : Int → zV → Prop) (a1 : Int) (s0 : Int) (V : zV) : Prop :=
  (inR s0) ∧ ((s0 = 0 → Q (-1) V) ∧ (¬ s0 = 0 → Q a1 V))
def m12_as  (V : zV) (a1 : Int) (a2 : Int) (Q : Int → zV → Prop) : Prop :=
  m12_isFeud V a1 (fun r2 V2 => (inR r2) ∧ ((¬ r2 = 0 → (inR a2) ∧ m12_in V2 a2 0 4 (fun r17 V17 => (inR r17) ∧ ((¬ r17 = 0 → (0 ≤ (7 * a1) ∧ (7 * a1) < 56) ∧ ((a2 = 0 → m12_as_J60  Q a1 1 V17) ∧ (¬ a2 = 0 → ((a2 = (V17 56 ((7 * a1)).toNat) → m12_as_J60  Q a1 1 V17) ∧ (¬ a2 = (V17 56 ((7 * a1)).toNat) → ((¬ a2 = 3 → m12_as_J60  Q a1 0 V17) ∧ (a2 = 3 → ((¬ (V17 56 ((7 * a1)).toNat) = 4 → m12_as_J60  Q a1 0 V17) ∧ ((V17 56 ((7 * a1)).toNat) = 4 → m12_as_J60  Q a1 1 V17))))))))) ∧ (r17 = 0 → Q (-102) V17)))) ∧ (r2 = 0 → Q (-101) V2)))
def t12_as : zT := fun as S V post => ∃ (a1 : Int) (a2 : Int) (Q : Int → zV → Prop), as = [zR 53, zI a1, zI a2] ∧ PSm S ∧ m12_as V a1 a2 Q ∧ (∀ r V2, Q r V2 → post (some (zI r)) S V2)
set_option maxHeartbeats 4000000 in
set_option maxRecDepth 20000 in
theorem c12_as (l : Launch) : zCT l yX12_as cX12_as 5 (some .int) { frames := 2, cells := 0, slots := 0, locals := 46 } t12_as := by
  refine zCT_of (by decide) (fun as S V post h => by obtain ⟨a1, a2, Q, rfl, -⟩ := h; exact Nat.le_of_ble_eq_true rfl) ?_
  intro X S V as post C E hT
  obtain ⟨a1, a2, Q, rfl, hM, hK, hpost⟩ := hT
  obtain ⟨w_53, r_53, h_53, g_53_0, g_53_2, g_53_7, g_53_8, g_53_10, g_53_11, g_53_12, g_53_13, g_53_14, g_53_16, g_53_21, g_53_22, g_53_23, g_53_24⟩ := PSm_53 hM
  obtain ⟨r_56, h_56⟩ := PSm_56 hM
  show zW X S V 0 0 [some (zR 53), some (zI a1), some (zI a2), none, none] [] 0
  unfold m12_as at hK
  refine a_aload_n C dX12_as_0 rfl ?_
  refine a_iload_n C dX12_as_1 rfl ?_
  refine a_callV (as := [zI a1]) (rest := []) C 1 (fun l => c12_isFeud l) h_53 ⟨_, _, rfl⟩ (by decide) ml_X12_122 im_X12_isFeud se_X12_isFeud in_X12 co_X12_isFeud (by decide +kernel) rfl ⟨Nat.le_of_ble_eq_true rfl, Nat.le_of_ble_eq_true rfl⟩ (Nat.le_of_ble_eq_true rfl) dX12_as_2 ⟨Nat.le_of_ble_eq_true rfl, Nat.le_of_ble_eq_true rfl⟩ ?_
  refine ⟨a1, _, rfl, hM, hK, fun r2 V2 hK => ?_⟩
  try dsimp only [Option.toList, List.cons_append, List.nil_append]
  obtain ⟨q1, hK⟩ := hK
  refine a_if_ne C 11 dX12_as_5 (by decide) q1 (fun q2 => ?_) (fun q2 => ?_)
  · replace hK := hK.1 q2
    refine a_iload_n C dX12_as_11 rfl ?_
    obtain ⟨q3, hK⟩ := hK
    refine a_i2l C dX12_as_12 q3 ?_
    refine a_lconst C 0 dX12_as_13 (by decide) ?_
    refine a_ldc2 C kl_X12_128 dX12_as_14 ?_
    refine a_callS (as := [zJ a2, zJ 0, zJ 4]) (rest := []) C 3 (fun l => c12_in l) ml_X12_62 sa_X12_in in_X12 co_X12_in (by decide +kernel) rfl ⟨Nat.le_of_ble_eq_true rfl, Nat.le_of_ble_eq_true rfl⟩ (Nat.le_of_ble_eq_true rfl) dX12_as_17 ⟨Nat.le_of_ble_eq_true rfl, Nat.le_of_ble_eq_true rfl⟩ ?_
    refine ⟨a2, 0, 4, _, rfl, hK, fun r17 V17 hK => ?_⟩
    try dsimp only [Option.toList, List.cons_append, List.nil_append]
    obtain ⟨q4, hK⟩ := hK
    refine a_if_ne C 26 dX12_as_20 (by decide) q4 (fun q5 => ?_) (fun q5 => ?_)
    · replace hK := hK.1 q5
      have J60 : ∀ (a1 : Int) (s0 : Int) (V : zV), m12_as_J60  Q a1 s0 V → zW X S V 0 0 [none, some (zI a1), none, none, none] [zI s0] 60 := by
        intro a1 s0 V hK
        unfold m12_as_J60 at hK
        refine a_istore C dX12_as_60 (Nat.le_of_ble_eq_true rfl) ?_
        refine a_iload C dX12_as_62 rfl ?_
        obtain ⟨q8, hK⟩ := hK
        refine a_if_eq C 71 dX12_as_64 (by decide) q8 (fun q9 => ?_) (fun q9 => ?_)
        · replace hK := hK.1 q9
          refine a_iconst C dX12_as_71 ?_
          exact a_iret C E dX12_as_72 (Nat.le_refl _) (Nat.le_refl _) (hpost _ _ hK)
        · replace hK := hK.2 q9
          refine a_iload_n C dX12_as_67 rfl ?_
          refine a_goto C 72 dX12_as_68 (by decide) ?_
          exact a_iret C E dX12_as_72 (Nat.le_refl _) (Nat.le_refl _) (hpost _ _ hK)
      refine a_aload_n C dX12_as_26 rfl ?_
      refine a_getR C fl_X12_16_12 h_53 rfl g_53_7 dX12_as_27 ?_
      refine a_bipush C dX12_as_30 (by decide) ?_
      refine a_iload_n C dX12_as_32 rfl ?_
      refine a_imul C dX12_as_33 ?_
      obtain ⟨q10, hK⟩ := hK
      refine a_iald C h_56 dX12_as_34 (by decide) q10 (fun r11 => ?_)
      refine a_istore_n C dX12_as_35 (Nat.le_of_ble_eq_true rfl) ?_
      refine a_iload_n C dX12_as_36 rfl ?_
      refine a_if_eq C 55 dX12_as_37 (by decide) q3 (fun q12 => ?_) (fun q12 => ?_)
      · replace hK := hK.1 q12
        refine a_iconst C dX12_as_55 ?_
        refine a_goto C 60 dX12_as_56 (by decide) ?_
        exact a_ls (lsub_n (lsub_s rfl (lsub_n (lsub_n (lsub_n lsub_0))))) (J60 a1 1 _ hK)
      · replace hK := hK.2 q12
        refine a_iload_n C dX12_as_40 rfl ?_
        refine a_iload_n C dX12_as_41 rfl ?_
        refine a_icmp_eq C 55 dX12_as_42 (by decide) ⟨q3, r11⟩ (fun q13 => ?_) (fun q13 => ?_)
        · replace hK := hK.1 q13
          refine a_iconst C dX12_as_55 ?_
          refine a_goto C 60 dX12_as_56 (by decide) ?_
          exact a_ls (lsub_n (lsub_s rfl (lsub_n (lsub_n (lsub_n lsub_0))))) (J60 a1 1 _ hK)
        · replace hK := hK.2 q13
          refine a_iload_n C dX12_as_45 rfl ?_
          refine a_iconst C dX12_as_46 ?_
          refine a_icmp_ne C 59 dX12_as_47 (by decide) ⟨q3, ⟨by decide, by decide⟩⟩ (fun q14 => ?_) (fun q14 => ?_)
          · replace hK := hK.1 q14
            refine a_iconst C dX12_as_59 ?_
            exact a_ls (lsub_n (lsub_s rfl (lsub_n (lsub_n (lsub_n lsub_0))))) (J60 a1 0 _ hK)
          · replace hK := hK.2 q14
            refine a_iload_n C dX12_as_50 rfl ?_
            refine a_iconst C dX12_as_51 ?_
            refine a_icmp_ne C 59 dX12_as_52 (by decide) ⟨r11, ⟨by decide, by decide⟩⟩ (fun q15 => ?_) (fun q15 => ?_)
            · replace hK := hK.1 q15
              refine a_iconst C dX12_as_59 ?_
              exact a_ls (lsub_n (lsub_s rfl (lsub_n (lsub_n (lsub_n lsub_0))))) (J60 a1 0 _ hK)
            · replace hK := hK.2 q15
              refine a_iconst C dX12_as_55 ?_
              refine a_goto C 60 dX12_as_56 (by decide) ?_
              exact a_ls (lsub_n (lsub_s rfl (lsub_n (lsub_n (lsub_n lsub_0))))) (J60 a1 1 _ hK)
    · replace hK := hK.2 q5
      refine a_bipush C dX12_as_23 (by decide) ?_
      exact a_iret C E dX12_as_25 (Nat.le_refl _) (Nat.le_refl _) (hpost _ _ hK)
  · replace hK := hK.2 q2
    refine a_bipush C dX12_as_8 (by decide) ?_
    exact a_iret C E dX12_as_10 (Nat.le_refl _) (Nat.le_refl _) (hpost _ _ hK)

def m12_sidesOf_L4  (Q : Int → zV → Prop) : Nat → Int → Int → Int → zV → Prop
  | 0 => fun _ _ _ _ => False
  | n + 1 => fun a1 a2 a3 V => (inR a3) ∧ (inR (2 * (V 53 5))) ∧ (((2 * (V 53 5)) ≤ a3 → Q a2 V) ∧ (a3 < (2 * (V 53 5)) → (0 ≤ a3 ∧ a3 < 2147483648) ∧ m12_isStruck V (a3 / 2) (fun r19 V19 => (inR r19) ∧ ((¬ r19 = 0 → m12_sidesOf_L4  Q n a1 (a2 + 0) (a3 + 1) V19) ∧ (r19 = 0 → (0 ≤ a3 ∧ a3 < 2147483648) ∧ (0 ≤ a3 ∧ a3 < 2147483648) ∧ m12_onSide V19 (a3 / 2) (a3 % 2) (fun r32 V32 => (inR r32) ∧ (inR a1) ∧ ((¬ r32 = a1 → m12_sidesOf_L4  Q n a1 (a2 + 0) (a3 + 1) V32) ∧ (r32 = a1 → m12_sidesOf_L4  Q n a1 (a2 + 1) (a3 + 1) V32))))))))
def m12_sidesOf  (V : zV) (a1 : Int) (Q : Int → zV → Prop) : Prop :=
  ∃ nn25, m12_sidesOf_L4  Q nn25 a1 0 0 V
def t12_sidesOf : zT := fun as S V post => ∃ (a1 : Int) (Q : Int → zV → Prop), as = [zR 53, zI a1] ∧ PSm S ∧ m12_sidesOf V a1 Q ∧ (∀ r V2, Q r V2 → post (some (zI r)) S V2)
set_option maxHeartbeats 4000000 in
set_option maxRecDepth 20000 in
theorem c12_sidesOf (l : Launch) : zCT l yX12_sidesOf cX12_sidesOf 4 (some .int) { frames := 2, cells := 0, slots := 0, locals := 44 } t12_sidesOf := by
  refine zCT_of (by decide) (fun as S V post h => by obtain ⟨a1, Q, rfl, -⟩ := h; exact Nat.le_of_ble_eq_true rfl) ?_
  intro X S V as post C E hT
  obtain ⟨a1, Q, rfl, hM, hK, hpost⟩ := hT
  obtain ⟨w_53, r_53, h_53, g_53_0, g_53_2, g_53_7, g_53_8, g_53_10, g_53_11, g_53_12, g_53_13, g_53_14, g_53_16, g_53_21, g_53_22, g_53_23, g_53_24⟩ := PSm_53 hM
  show zW X S V 0 0 [some (zR 53), some (zI a1), none, none] [] 0
  unfold m12_sidesOf at hK
  have L4 : ∀ (n : Nat) (a1 : Int) (a2 : Int) (a3 : Int) (V : zV), m12_sidesOf_L4  Q n a1 a2 a3 V → zW X S V 0 0 [some (zR 53), some (zI a1), some (zI a2), some (zI a3)] [] 4 := by
    intro n4
    induction n4 with
    | zero => intro _ _ _ _ hK; exact hK.elim
    | succ n4 ih4 =>
      intro a1 a2 a3 V hK
      unfold m12_sidesOf_L4 at hK
      refine a_iload_n C dX12_sidesOf_4 rfl ?_
      refine a_iconst C dX12_sidesOf_5 ?_
      refine a_aload_n C dX12_sidesOf_6 rfl ?_
      refine a_getI C fl_X12_91_12 h_53 rfl dX12_sidesOf_7 (fun r13 => ?_)
      refine a_imul C dX12_sidesOf_10 ?_
      obtain ⟨q14, hK⟩ := hK
      obtain ⟨q15, hK⟩ := hK
      refine a_icmp_ge C 52 dX12_sidesOf_11 (by decide) ⟨q14, q15⟩ (fun q16 => ?_) (fun q16 => ?_)
      · replace hK := hK.1 q16
        refine a_iload_n C dX12_sidesOf_52 rfl ?_
        exact a_iret C E dX12_sidesOf_53 (Nat.le_refl _) (Nat.le_refl _) (hpost _ _ hK)
      · replace hK := hK.2 q16
        refine a_iload_n C dX12_sidesOf_14 rfl ?_
        refine a_aload_n C dX12_sidesOf_15 rfl ?_
        refine a_iload_n C dX12_sidesOf_16 rfl ?_
        refine a_iconst C dX12_sidesOf_17 ?_
        obtain ⟨q17, hK⟩ := hK
        refine a_idiv C dX12_sidesOf_18 ⟨q17, by decide, by decide⟩ ?_
        refine a_callV (as := [zI (a3 / 2)]) (rest := [zI a2]) C 1 (fun l => c12_isStruck l) h_53 ⟨_, _, rfl⟩ (by decide) ml_X12_113 im_X12_isStruck se_X12_isStruck in_X12 co_X12_isStruck (by decide +kernel) rfl ⟨Nat.le_of_ble_eq_true rfl, Nat.le_of_ble_eq_true rfl⟩ (Nat.le_of_ble_eq_true rfl) dX12_sidesOf_19 ⟨Nat.le_of_ble_eq_true rfl, Nat.le_of_ble_eq_true rfl⟩ ?_
        refine ⟨(a3 / 2), _, rfl, hM, hK, fun r19 V19 hK => ?_⟩
        try dsimp only [Option.toList, List.cons_append, List.nil_append]
        obtain ⟨q18, hK⟩ := hK
        refine a_if_ne C 43 dX12_sidesOf_22 (by decide) q18 (fun q19 => ?_) (fun q19 => ?_)
        · replace hK := hK.1 q19
          refine a_iconst C dX12_sidesOf_43 ?_
          refine a_iadd C dX12_sidesOf_44 ?_
          refine a_istore_n C dX12_sidesOf_45 (Nat.le_of_ble_eq_true rfl) ?_
          refine a_iinc C dX12_sidesOf_46 rfl (Nat.le_of_ble_eq_true rfl) ?_
          refine a_goto C 4 dX12_sidesOf_49 (by decide) ?_
          exact a_ls (lsub_s rfl (lsub_s rfl (lsub_s rfl (lsub_s rfl lsub_0)))) (ih4 a1 (a2 + 0) (a3 + 1) _ hK)
        · replace hK := hK.2 q19
          refine a_aload_n C dX12_sidesOf_25 rfl ?_
          refine a_iload_n C dX12_sidesOf_26 rfl ?_
          refine a_iconst C dX12_sidesOf_27 ?_
          obtain ⟨q20, hK⟩ := hK
          refine a_idiv C dX12_sidesOf_28 ⟨q20, by decide, by decide⟩ ?_
          refine a_iload_n C dX12_sidesOf_29 rfl ?_
          refine a_iconst C dX12_sidesOf_30 ?_
          obtain ⟨q21, hK⟩ := hK
          refine a_irem C dX12_sidesOf_31 ⟨q21, by decide, by decide⟩ ?_
          refine a_callV (as := [zI (a3 / 2), zI (a3 % 2)]) (rest := [zI a2]) C 2 (fun l => c12_onSide l) h_53 ⟨_, _, rfl⟩ (by decide) ml_X12_116 im_X12_onSide se_X12_onSide in_X12 co_X12_onSide (by decide +kernel) rfl ⟨Nat.le_of_ble_eq_true rfl, Nat.le_of_ble_eq_true rfl⟩ (Nat.le_of_ble_eq_true rfl) dX12_sidesOf_32 ⟨Nat.le_of_ble_eq_true rfl, Nat.le_of_ble_eq_true rfl⟩ ?_
          refine ⟨(a3 / 2), (a3 % 2), _, rfl, hM, hK, fun r32 V32 hK => ?_⟩
          try dsimp only [Option.toList, List.cons_append, List.nil_append]
          refine a_iload_n C dX12_sidesOf_35 rfl ?_
          obtain ⟨q22, hK⟩ := hK
          obtain ⟨q23, hK⟩ := hK
          refine a_icmp_ne C 43 dX12_sidesOf_36 (by decide) ⟨q22, q23⟩ (fun q24 => ?_) (fun q24 => ?_)
          · replace hK := hK.1 q24
            refine a_iconst C dX12_sidesOf_43 ?_
            refine a_iadd C dX12_sidesOf_44 ?_
            refine a_istore_n C dX12_sidesOf_45 (Nat.le_of_ble_eq_true rfl) ?_
            refine a_iinc C dX12_sidesOf_46 rfl (Nat.le_of_ble_eq_true rfl) ?_
            refine a_goto C 4 dX12_sidesOf_49 (by decide) ?_
            exact a_ls (lsub_s rfl (lsub_s rfl (lsub_s rfl (lsub_s rfl lsub_0)))) (ih4 a1 (a2 + 0) (a3 + 1) _ hK)
          · replace hK := hK.2 q24
            refine a_iconst C dX12_sidesOf_39 ?_
            refine a_goto C 44 dX12_sidesOf_40 (by decide) ?_
            refine a_iadd C dX12_sidesOf_44 ?_
            refine a_istore_n C dX12_sidesOf_45 (Nat.le_of_ble_eq_true rfl) ?_
            refine a_iinc C dX12_sidesOf_46 rfl (Nat.le_of_ble_eq_true rfl) ?_
            refine a_goto C 4 dX12_sidesOf_49 (by decide) ?_
            exact a_ls (lsub_s rfl (lsub_s rfl (lsub_s rfl (lsub_s rfl lsub_0)))) (ih4 a1 (a2 + 1) (a3 + 1) _ hK)
  refine a_iconst C dX12_sidesOf_0 ?_
  refine a_istore_n C dX12_sidesOf_1 (Nat.le_of_ble_eq_true rfl) ?_
  refine a_iconst C dX12_sidesOf_2 ?_
  refine a_istore_n C dX12_sidesOf_3 (Nat.le_of_ble_eq_true rfl) ?_
  obtain ⟨nn25, hK⟩ := hK
  exact a_ls (lsub_s rfl (lsub_s rfl (lsub_s rfl (lsub_s rfl lsub_0)))) (L4 nn25 a1 0 0 _ hK)
