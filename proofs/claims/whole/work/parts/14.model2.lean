def m12_harmsBy_L5  (Q : Int → zV → Prop) : Nat → Int → Int → Int → Int → zV → Prop
  | 0 => fun _ _ _ _ _ => False
  | n + 1 => fun a1 a2 a3 a4 V => (inR a4) ∧ (((V 53 9) ≤ a4 → Q a3 V) ∧ (a4 < (V 53 9) → (0 ≤ ((2 * a4) + a2) ∧ ((2 * a4) + a2) < 24) ∧ (inR a1) ∧ ((¬ (V 58 (((2 * a4) + a2)).toNat) = a1 → m12_harmsBy_L5  Q n a1 a2 (a3 + 0) (a4 + 1) V) ∧ ((V 58 (((2 * a4) + a2)).toNat) = a1 → m12_harmsBy_L5  Q n a1 a2 (a3 + 1) (a4 + 1) V))))
def m12_harmsBy  (V : zV) (a1 : Int) (a2 : Int) (Q : Int → zV → Prop) : Prop :=
  ∃ nn15, m12_harmsBy_L5  Q nn15 a1 a2 0 0 V
def t12_harmsBy : zT := fun as S V post => ∃ (a1 : Int) (a2 : Int) (Q : Int → zV → Prop), as = [zR 53, zI a1, zI a2] ∧ PSm S ∧ m12_harmsBy V a1 a2 Q ∧ (∀ r V2, Q r V2 → post (some (zI r)) S V2)
set_option maxHeartbeats 4000000 in
set_option maxRecDepth 20000 in
theorem c12_harmsBy (l : Launch) : zCT l yX12_harmsBy cX12_harmsBy 5 (some .int) { frames := 0, cells := 0, slots := 0, locals := 0 } t12_harmsBy := by
  refine zCT_of (by decide) (fun as S V post h => by obtain ⟨a1, a2, Q, rfl, -⟩ := h; exact Nat.le_of_ble_eq_true rfl) ?_
  intro X S V as post C E hT
  obtain ⟨a1, a2, Q, rfl, hM, hK, hpost⟩ := hT
  obtain ⟨w_53, r_53, h_53, g_53_0, g_53_2, g_53_7, g_53_8, g_53_10, g_53_11, g_53_12, g_53_13, g_53_14, g_53_16, g_53_21, g_53_22, g_53_23, g_53_24⟩ := PSm_53 hM
  obtain ⟨r_58, h_58⟩ := PSm_58 hM
  show zW X S V 0 0 [some (zR 53), some (zI a1), some (zI a2), none, none] [] 0
  unfold m12_harmsBy at hK
  have L5 : ∀ (n : Nat) (a1 : Int) (a2 : Int) (a3 : Int) (a4 : Int) (V : zV), m12_harmsBy_L5  Q n a1 a2 a3 a4 V → zW X S V 0 0 [some (zR 53), some (zI a1), some (zI a2), some (zI a3), some (zI a4)] [] 5 := by
    intro n5
    induction n5 with
    | zero => intro _ _ _ _ _ hK; exact hK.elim
    | succ n5 ih5 =>
      intro a1 a2 a3 a4 V hK
      unfold m12_harmsBy_L5 at hK
      refine a_iload C dX12_harmsBy_5 rfl ?_
      refine a_aload_n C dX12_harmsBy_7 rfl ?_
      refine a_getI C fl_X12_94_12 h_53 rfl dX12_harmsBy_8 (fun r8 => ?_)
      obtain ⟨q9, hK⟩ := hK
      refine a_icmp_ge C 43 dX12_harmsBy_11 (by decide) ⟨q9, r8⟩ (fun q10 => ?_) (fun q10 => ?_)
      · replace hK := hK.1 q10
        refine a_iload_n C dX12_harmsBy_43 rfl ?_
        exact a_iret C E dX12_harmsBy_44 (Nat.le_refl _) (Nat.le_refl _) (hpost _ _ hK)
      · replace hK := hK.2 q10
        refine a_iload_n C dX12_harmsBy_14 rfl ?_
        refine a_aload_n C dX12_harmsBy_15 rfl ?_
        refine a_getR C fl_X12_22_12 h_53 rfl g_53_10 dX12_harmsBy_16 ?_
        refine a_iconst C dX12_harmsBy_19 ?_
        refine a_iload C dX12_harmsBy_20 rfl ?_
        refine a_imul C dX12_harmsBy_22 ?_
        refine a_iload_n C dX12_harmsBy_23 rfl ?_
        refine a_iadd C dX12_harmsBy_24 ?_
        obtain ⟨q11, hK⟩ := hK
        refine a_iald C h_58 dX12_harmsBy_25 (by decide) q11 (fun r12 => ?_)
        refine a_iload_n C dX12_harmsBy_26 rfl ?_
        obtain ⟨q13, hK⟩ := hK
        refine a_icmp_ne C 34 dX12_harmsBy_27 (by decide) ⟨r12, q13⟩ (fun q14 => ?_) (fun q14 => ?_)
        · replace hK := hK.1 q14
          refine a_iconst C dX12_harmsBy_34 ?_
          refine a_iadd C dX12_harmsBy_35 ?_
          refine a_istore_n C dX12_harmsBy_36 (Nat.le_of_ble_eq_true rfl) ?_
          refine a_iinc C dX12_harmsBy_37 rfl (Nat.le_of_ble_eq_true rfl) ?_
          refine a_goto C 5 dX12_harmsBy_40 (by decide) ?_
          exact a_ls (lsub_s rfl (lsub_s rfl (lsub_s rfl (lsub_s rfl (lsub_s rfl lsub_0))))) (ih5 a1 a2 (a3 + 0) (a4 + 1) _ hK)
        · replace hK := hK.2 q14
          refine a_iconst C dX12_harmsBy_30 ?_
          refine a_goto C 35 dX12_harmsBy_31 (by decide) ?_
          refine a_iadd C dX12_harmsBy_35 ?_
          refine a_istore_n C dX12_harmsBy_36 (Nat.le_of_ble_eq_true rfl) ?_
          refine a_iinc C dX12_harmsBy_37 rfl (Nat.le_of_ble_eq_true rfl) ?_
          refine a_goto C 5 dX12_harmsBy_40 (by decide) ?_
          exact a_ls (lsub_s rfl (lsub_s rfl (lsub_s rfl (lsub_s rfl (lsub_s rfl lsub_0))))) (ih5 a1 a2 (a3 + 1) (a4 + 1) _ hK)
  refine a_iconst C dX12_harmsBy_0 ?_
  refine a_istore_n C dX12_harmsBy_1 (Nat.le_of_ble_eq_true rfl) ?_
  refine a_iconst C dX12_harmsBy_2 ?_
  refine a_istore C dX12_harmsBy_3 (Nat.le_of_ble_eq_true rfl) ?_
  obtain ⟨nn15, hK⟩ := hK
  exact a_ls (lsub_s rfl (lsub_s rfl (lsub_s rfl (lsub_s rfl (lsub_s rfl lsub_0))))) (L5 nn15 a1 a2 0 0 _ hK)

def m12_tellMan  (V : zV) (a1 : Int) (a2 : Int) (Q : Int → zV → Prop) : Prop :=
  (inR a2) ∧ (a2 = 0 → (0 ≤ ((3 * a1) + a2) ∧ ((3 * a1) + a2) < 18) ∧ Q (V 57 (((3 * a1) + a2)).toNat) V) ∧ (a2 = 1 → (0 ≤ ((3 * a1) + a2) ∧ ((3 * a1) + a2) < 18) ∧ Q (V 57 (((3 * a1) + a2)).toNat) V) ∧ (a2 = 2 → (0 ≤ ((3 * a1) + a2) ∧ ((3 * a1) + a2) < 18) ∧ Q (V 57 (((3 * a1) + a2)).toNat) V) ∧ (a2 = 3 → m12_sidesOf V a1 (fun r53 V53 => Q r53 V53)) ∧ (a2 = 4 → m12_harmsBy V a1 (a2 - 4) (fun r62 V62 => Q r62 V62)) ∧ (a2 = 5 → m12_harmsBy V a1 (a2 - 4) (fun r62 V62 => Q r62 V62)) ∧ (a2 < 0 ∨ 5 < a2 → Q (-102) V)
def t12_tellMan : zT := fun as S V post => ∃ (a1 : Int) (a2 : Int) (Q : Int → zV → Prop), as = [zR 53, zI a1, zI a2] ∧ PSm S ∧ m12_tellMan V a1 a2 Q ∧ (∀ r V2, Q r V2 → post (some (zI r)) S V2)
set_option maxHeartbeats 4000000 in
set_option maxRecDepth 20000 in
theorem c12_tellMan (l : Launch) : zCT l yX12_tellMan cX12_tellMan 3 (some .int) { frames := 3, cells := 0, slots := 0, locals := 67 } t12_tellMan := by
  refine zCT_of (by decide) (fun as S V post h => by obtain ⟨a1, a2, Q, rfl, -⟩ := h; exact Nat.le_of_ble_eq_true rfl) ?_
  intro X S V as post C E hT
  obtain ⟨a1, a2, Q, rfl, hM, hK, hpost⟩ := hT
  obtain ⟨w_53, r_53, h_53, g_53_0, g_53_2, g_53_7, g_53_8, g_53_10, g_53_11, g_53_12, g_53_13, g_53_14, g_53_16, g_53_21, g_53_22, g_53_23, g_53_24⟩ := PSm_53 hM
  obtain ⟨r_57, h_57⟩ := PSm_57 hM
  show zW X S V 0 0 [some (zR 53), some (zI a1), some (zI a2)] [] 0
  unfold m12_tellMan at hK
  refine a_iload_n C dX12_tellMan_0 rfl ?_
  obtain ⟨q1, hK⟩ := hK
  by_cases q2 : a2 = 0
  · refine a_tswIn C 0 40 dX12_tellMan_1 (by omega) q1 (by decide) rfl (by decide) ?_
    replace hK := hK.1 q2
    refine a_aload_n C dX12_tellMan_40 rfl ?_
    refine a_getR C fl_X12_19_12 h_53 rfl g_53_8 dX12_tellMan_41 ?_
    refine a_iconst C dX12_tellMan_44 ?_
    refine a_iload_n C dX12_tellMan_45 rfl ?_
    refine a_imul C dX12_tellMan_46 ?_
    refine a_iload_n C dX12_tellMan_47 rfl ?_
    refine a_iadd C dX12_tellMan_48 ?_
    obtain ⟨q3, hK⟩ := hK
    refine a_iald C h_57 dX12_tellMan_49 (by decide) q3 (fun r4 => ?_)
    exact a_iret C E dX12_tellMan_50 (Nat.le_refl _) (Nat.le_refl _) (hpost _ _ hK)
  replace hK := hK.2
  by_cases q5 : a2 = 1
  · refine a_tswIn C 1 40 dX12_tellMan_1 (by omega) q1 (by decide) rfl (by decide) ?_
    replace hK := hK.1 q5
    refine a_aload_n C dX12_tellMan_40 rfl ?_
    refine a_getR C fl_X12_19_12 h_53 rfl g_53_8 dX12_tellMan_41 ?_
    refine a_iconst C dX12_tellMan_44 ?_
    refine a_iload_n C dX12_tellMan_45 rfl ?_
    refine a_imul C dX12_tellMan_46 ?_
    refine a_iload_n C dX12_tellMan_47 rfl ?_
    refine a_iadd C dX12_tellMan_48 ?_
    obtain ⟨q6, hK⟩ := hK
    refine a_iald C h_57 dX12_tellMan_49 (by decide) q6 (fun r7 => ?_)
    exact a_iret C E dX12_tellMan_50 (Nat.le_refl _) (Nat.le_refl _) (hpost _ _ hK)
  replace hK := hK.2
  by_cases q8 : a2 = 2
  · refine a_tswIn C 2 40 dX12_tellMan_1 (by omega) q1 (by decide) rfl (by decide) ?_
    replace hK := hK.1 q8
    refine a_aload_n C dX12_tellMan_40 rfl ?_
    refine a_getR C fl_X12_19_12 h_53 rfl g_53_8 dX12_tellMan_41 ?_
    refine a_iconst C dX12_tellMan_44 ?_
    refine a_iload_n C dX12_tellMan_45 rfl ?_
    refine a_imul C dX12_tellMan_46 ?_
    refine a_iload_n C dX12_tellMan_47 rfl ?_
    refine a_iadd C dX12_tellMan_48 ?_
    obtain ⟨q9, hK⟩ := hK
    refine a_iald C h_57 dX12_tellMan_49 (by decide) q9 (fun r10 => ?_)
    exact a_iret C E dX12_tellMan_50 (Nat.le_refl _) (Nat.le_refl _) (hpost _ _ hK)
  replace hK := hK.2
  by_cases q11 : a2 = 3
  · refine a_tswIn C 3 51 dX12_tellMan_1 (by omega) q1 (by decide) rfl (by decide) ?_
    replace hK := hK.1 q11
    refine a_aload_n C dX12_tellMan_51 rfl ?_
    refine a_iload_n C dX12_tellMan_52 rfl ?_
    refine a_callV (as := [zI a1]) (rest := []) C 1 (fun l => c12_sidesOf l) h_53 ⟨_, _, rfl⟩ (by decide) ml_X12_130 im_X12_sidesOf se_X12_sidesOf in_X12 co_X12_sidesOf (by decide +kernel) rfl ⟨Nat.le_of_ble_eq_true rfl, Nat.le_of_ble_eq_true rfl⟩ (Nat.le_of_ble_eq_true rfl) dX12_tellMan_53 ⟨Nat.le_of_ble_eq_true rfl, Nat.le_of_ble_eq_true rfl⟩ ?_
    refine ⟨a1, _, rfl, hM, hK, fun r53 V53 hK => ?_⟩
    try dsimp only [Option.toList, List.cons_append, List.nil_append]
    exact a_iret C E dX12_tellMan_56 (Nat.le_refl _) (Nat.le_refl _) (hpost _ _ hK)
  replace hK := hK.2
  by_cases q12 : a2 = 4
  · refine a_tswIn C 4 57 dX12_tellMan_1 (by omega) q1 (by decide) rfl (by decide) ?_
    replace hK := hK.1 q12
    refine a_aload_n C dX12_tellMan_57 rfl ?_
    refine a_iload_n C dX12_tellMan_58 rfl ?_
    refine a_iload_n C dX12_tellMan_59 rfl ?_
    refine a_iconst C dX12_tellMan_60 ?_
    refine a_isub C dX12_tellMan_61 ?_
    refine a_callV (as := [zI a1, zI (a2 - 4)]) (rest := []) C 2 (fun l => c12_harmsBy l) h_53 ⟨_, _, rfl⟩ (by decide) ml_X12_133 im_X12_harmsBy se_X12_harmsBy in_X12 co_X12_harmsBy (by decide +kernel) rfl ⟨Nat.le_of_ble_eq_true rfl, Nat.le_of_ble_eq_true rfl⟩ (Nat.le_of_ble_eq_true rfl) dX12_tellMan_62 ⟨Nat.le_of_ble_eq_true rfl, Nat.le_of_ble_eq_true rfl⟩ ?_
    refine ⟨a1, (a2 - 4), _, rfl, hM, hK, fun r62 V62 hK => ?_⟩
    try dsimp only [Option.toList, List.cons_append, List.nil_append]
    exact a_iret C E dX12_tellMan_65 (Nat.le_refl _) (Nat.le_refl _) (hpost _ _ hK)
  replace hK := hK.2
  by_cases q13 : a2 = 5
  · refine a_tswIn C 5 57 dX12_tellMan_1 (by omega) q1 (by decide) rfl (by decide) ?_
    replace hK := hK.1 q13
    refine a_aload_n C dX12_tellMan_57 rfl ?_
    refine a_iload_n C dX12_tellMan_58 rfl ?_
    refine a_iload_n C dX12_tellMan_59 rfl ?_
    refine a_iconst C dX12_tellMan_60 ?_
    refine a_isub C dX12_tellMan_61 ?_
    refine a_callV (as := [zI a1, zI (a2 - 4)]) (rest := []) C 2 (fun l => c12_harmsBy l) h_53 ⟨_, _, rfl⟩ (by decide) ml_X12_133 im_X12_harmsBy se_X12_harmsBy in_X12 co_X12_harmsBy (by decide +kernel) rfl ⟨Nat.le_of_ble_eq_true rfl, Nat.le_of_ble_eq_true rfl⟩ (Nat.le_of_ble_eq_true rfl) dX12_tellMan_62 ⟨Nat.le_of_ble_eq_true rfl, Nat.le_of_ble_eq_true rfl⟩ ?_
    refine ⟨a1, (a2 - 4), _, rfl, hM, hK, fun r62 V62 hK => ?_⟩
    try dsimp only [Option.toList, List.cons_append, List.nil_append]
    exact a_iret C E dX12_tellMan_65 (Nat.le_refl _) (Nat.le_refl _) (hpost _ _ hK)
  replace hK := hK.2
  have q14 : a2 < 0 ∨ 5 < a2 := by omega
  refine a_tswOut C 66 dX12_tellMan_1 q1 q14 (by decide) ?_
  replace hK := hK q14
  refine a_bipush C dX12_tellMan_66 (by decide) ?_
  exact a_iret C E dX12_tellMan_68 (Nat.le_refl _) (Nat.le_refl _) (hpost _ _ hK)

def m12_person  (V : zV) (a1 : Int) (a2 : Int) (Q : Int → zV → Prop) : Prop :=
  m12_isPerson V a1 (fun r1 V1 => (inR r1) ∧ ((r1 = 0 → Q (-101) V1) ∧ (¬ r1 = 0 → m12_tellMan V1 a1 a2 (fun r10 V10 => Q r10 V10))))
def t12_person : zT := fun as S V post => ∃ (a1 : Int) (a2 : Int) (Q : Int → zV → Prop), as = [zR 53, zI a1, zI a2] ∧ PSm S ∧ m12_person V a1 a2 Q ∧ (∀ r V2, Q r V2 → post (some (zI r)) S V2)
set_option maxHeartbeats 4000000 in
set_option maxRecDepth 20000 in
theorem c12_person (l : Launch) : zCT l yX12_person cX12_person 3 (some .int) { frames := 4, cells := 0, slots := 0, locals := 89 } t12_person := by
  refine zCT_of (by decide) (fun as S V post h => by obtain ⟨a1, a2, Q, rfl, -⟩ := h; exact Nat.le_of_ble_eq_true rfl) ?_
  intro X S V as post C E hT
  obtain ⟨a1, a2, Q, rfl, hM, hK, hpost⟩ := hT
  obtain ⟨w_53, r_53, h_53, g_53_0, g_53_2, g_53_7, g_53_8, g_53_10, g_53_11, g_53_12, g_53_13, g_53_14, g_53_16, g_53_21, g_53_22, g_53_23, g_53_24⟩ := PSm_53 hM
  show zW X S V 0 0 [some (zR 53), some (zI a1), some (zI a2)] [] 0
  unfold m12_person at hK
  refine a_iload_n C dX12_person_0 rfl ?_
  refine a_callS (as := [zI a1]) (rest := []) C 1 (fun l => c12_isPerson l) ml_X12_103 sa_X12_isPerson in_X12 co_X12_isPerson (by decide +kernel) rfl ⟨Nat.le_of_ble_eq_true rfl, Nat.le_of_ble_eq_true rfl⟩ (Nat.le_of_ble_eq_true rfl) dX12_person_1 ⟨Nat.le_of_ble_eq_true rfl, Nat.le_of_ble_eq_true rfl⟩ ?_
  refine ⟨a1, _, rfl, hK, fun r1 V1 hK => ?_⟩
  try dsimp only [Option.toList, List.cons_append, List.nil_append]
  obtain ⟨q1, hK⟩ := hK
  refine a_if_eq C 16 dX12_person_4 (by decide) q1 (fun q2 => ?_) (fun q2 => ?_)
  · replace hK := hK.1 q2
    refine a_bipush C dX12_person_16 (by decide) ?_
    exact a_iret C E dX12_person_18 (Nat.le_refl _) (Nat.le_refl _) (hpost _ _ hK)
  · replace hK := hK.2 q2
    refine a_aload_n C dX12_person_7 rfl ?_
    refine a_iload_n C dX12_person_8 rfl ?_
    refine a_iload_n C dX12_person_9 rfl ?_
    refine a_callV (as := [zI a1, zI a2]) (rest := []) C 2 (fun l => c12_tellMan l) h_53 ⟨_, _, rfl⟩ (by decide) ml_X12_136 im_X12_tellMan se_X12_tellMan in_X12 co_X12_tellMan (by decide +kernel) rfl ⟨Nat.le_of_ble_eq_true rfl, Nat.le_of_ble_eq_true rfl⟩ (Nat.le_of_ble_eq_true rfl) dX12_person_10 ⟨Nat.le_of_ble_eq_true rfl, Nat.le_of_ble_eq_true rfl⟩ ?_
    refine ⟨a1, a2, _, rfl, hM, hK, fun r10 V10 hK => ?_⟩
    try dsimp only [Option.toList, List.cons_append, List.nil_append]
    refine a_goto C 18 dX12_person_13 (by decide) ?_
    exact a_iret C E dX12_person_18 (Nat.le_refl _) (Nat.le_refl _) (hpost _ _ hK)

def m12_heir_J19  (Q : Int → zV → Prop) (a1 : Int) (a2 : Int) (V : zV) : Prop :=
  (inR a1) ∧ (inR a2) ∧ ((¬ a1 = a2 → m12_lacks V (fun r28 V28 => (inR r28) ∧ ((¬ r28 = 0 → Q (-103) V28) ∧ (r28 = 0 → m12_isAlive V28 a1 (fun r36 V36 => (inR r36) ∧ ((¬ r36 = 0 → (0 ≤ ((3 * a1) + 1) ∧ ((3 * a1) + 1) < 18) ∧ (0 ≤ ((3 * a1) + 1) ∧ ((3 * a1) + 1) < 18) ∧ Q (V36 57 (((3 * a1) + 1)).toNat) (vset V36 57 (((3 * a1) + 1)).toNat a2)) ∧ (r36 = 0 → Q (-103) V36))))))) ∧ (a1 = a2 → Q (-101) V))
def m12_heir  (V : zV) (a1 : Int) (a2 : Int) (Q : Int → zV → Prop) : Prop :=
  m12_isPerson V a1 (fun r1 V1 => (inR r1) ∧ ((r1 = 0 → Q (-101) V1) ∧ (¬ r1 = 0 → (inR a2) ∧ ((a2 = (-1) → m12_heir_J19  Q a1 a2 V1) ∧ (¬ a2 = (-1) → m12_isPerson V1 a2 (fun r13 V13 => (inR r13) ∧ ((r13 = 0 → Q (-101) V13) ∧ (¬ r13 = 0 → m12_heir_J19  Q a1 a2 V13))))))))
def t12_heir : zT := fun as S V post => ∃ (a1 : Int) (a2 : Int) (Q : Int → zV → Prop), as = [zR 53, zI a1, zI a2] ∧ PSm S ∧ m12_heir V a1 a2 Q ∧ (∀ r V2, Q r V2 → post (some (zI r)) S V2)
set_option maxHeartbeats 4000000 in
set_option maxRecDepth 20000 in
theorem c12_heir (l : Launch) : zCT l yX12_heir cX12_heir 4 (some .int) { frames := 2, cells := 0, slots := 0, locals := 45 } t12_heir := by
  refine zCT_of (by decide) (fun as S V post h => by obtain ⟨a1, a2, Q, rfl, -⟩ := h; exact Nat.le_of_ble_eq_true rfl) ?_
  intro X S V as post C E hT
  obtain ⟨a1, a2, Q, rfl, hM, hK, hpost⟩ := hT
  obtain ⟨w_53, r_53, h_53, g_53_0, g_53_2, g_53_7, g_53_8, g_53_10, g_53_11, g_53_12, g_53_13, g_53_14, g_53_16, g_53_21, g_53_22, g_53_23, g_53_24⟩ := PSm_53 hM
  obtain ⟨r_57, h_57⟩ := PSm_57 hM
  show zW X S V 0 0 [some (zR 53), some (zI a1), some (zI a2), none] [] 0
  unfold m12_heir at hK
  refine a_iload_n C dX12_heir_0 rfl ?_
  refine a_callS (as := [zI a1]) (rest := []) C 1 (fun l => c12_isPerson l) ml_X12_103 sa_X12_isPerson in_X12 co_X12_isPerson (by decide +kernel) rfl ⟨Nat.le_of_ble_eq_true rfl, Nat.le_of_ble_eq_true rfl⟩ (Nat.le_of_ble_eq_true rfl) dX12_heir_1 ⟨Nat.le_of_ble_eq_true rfl, Nat.le_of_ble_eq_true rfl⟩ ?_
  refine ⟨a1, _, rfl, hK, fun r1 V1 hK => ?_⟩
  try dsimp only [Option.toList, List.cons_append, List.nil_append]
  obtain ⟨q1, hK⟩ := hK
  refine a_if_eq C 24 dX12_heir_4 (by decide) q1 (fun q2 => ?_) (fun q2 => ?_)
  · replace hK := hK.1 q2
    refine a_bipush C dX12_heir_24 (by decide) ?_
    exact a_iret C E dX12_heir_26 (Nat.le_refl _) (Nat.le_refl _) (hpost _ _ hK)
  · replace hK := hK.2 q2
    have J19 : ∀ (a1 : Int) (a2 : Int) (V : zV), m12_heir_J19  Q a1 a2 V → zW X S V 0 0 [some (zR 53), some (zI a1), some (zI a2), none] [] 19 := by
      intro a1 a2 V hK
      unfold m12_heir_J19 at hK
      refine a_iload_n C dX12_heir_19 rfl ?_
      refine a_iload_n C dX12_heir_20 rfl ?_
      obtain ⟨q13, hK⟩ := hK
      obtain ⟨q14, hK⟩ := hK
      refine a_icmp_ne C 27 dX12_heir_21 (by decide) ⟨q13, q14⟩ (fun q15 => ?_) (fun q15 => ?_)
      · replace hK := hK.1 q15
        refine a_aload_n C dX12_heir_27 rfl ?_
        refine a_callV (as := []) (rest := []) C 0 (fun l => c12_lacks l) h_53 ⟨_, _, rfl⟩ (by decide) ml_X12_139 im_X12_lacks se_X12_lacks in_X12 co_X12_lacks (by decide +kernel) rfl ⟨Nat.le_of_ble_eq_true rfl, Nat.le_of_ble_eq_true rfl⟩ (Nat.le_of_ble_eq_true rfl) dX12_heir_28 ⟨Nat.le_of_ble_eq_true rfl, Nat.le_of_ble_eq_true rfl⟩ ?_
        refine ⟨_, rfl, hM, hK, fun r28 V28 hK => ?_⟩
        try dsimp only [Option.toList, List.cons_append, List.nil_append]
        obtain ⟨q16, hK⟩ := hK
        refine a_if_ne C 42 dX12_heir_31 (by decide) q16 (fun q17 => ?_) (fun q17 => ?_)
        · replace hK := hK.1 q17
          refine a_bipush C dX12_heir_42 (by decide) ?_
          exact a_iret C E dX12_heir_44 (Nat.le_refl _) (Nat.le_refl _) (hpost _ _ hK)
        · replace hK := hK.2 q17
          refine a_aload_n C dX12_heir_34 rfl ?_
          refine a_iload_n C dX12_heir_35 rfl ?_
          refine a_callV (as := [zI a1]) (rest := []) C 1 (fun l => c12_isAlive l) h_53 ⟨_, _, rfl⟩ (by decide) ml_X12_143 im_X12_isAlive se_X12_isAlive in_X12 co_X12_isAlive (by decide +kernel) rfl ⟨Nat.le_of_ble_eq_true rfl, Nat.le_of_ble_eq_true rfl⟩ (Nat.le_of_ble_eq_true rfl) dX12_heir_36 ⟨Nat.le_of_ble_eq_true rfl, Nat.le_of_ble_eq_true rfl⟩ ?_
          refine ⟨a1, _, rfl, hM, hK, fun r36 V36 hK => ?_⟩
          try dsimp only [Option.toList, List.cons_append, List.nil_append]
          obtain ⟨q18, hK⟩ := hK
          refine a_if_ne C 45 dX12_heir_39 (by decide) q18 (fun q19 => ?_) (fun q19 => ?_)
          · replace hK := hK.1 q19
            refine a_aload_n C dX12_heir_45 rfl ?_
            refine a_getR C fl_X12_19_12 h_53 rfl g_53_8 dX12_heir_46 ?_
            refine a_iconst C dX12_heir_49 ?_
            refine a_iload_n C dX12_heir_50 rfl ?_
            refine a_imul C dX12_heir_51 ?_
            refine a_iconst C dX12_heir_52 ?_
            refine a_iadd C dX12_heir_53 ?_
            obtain ⟨q20, hK⟩ := hK
            refine a_iald C h_57 dX12_heir_54 (by decide) q20 (fun r21 => ?_)
            refine a_istore_n C dX12_heir_55 (Nat.le_of_ble_eq_true rfl) ?_
            refine a_aload_n C dX12_heir_56 rfl ?_
            refine a_getR C fl_X12_19_12 h_53 rfl g_53_8 dX12_heir_57 ?_
            refine a_iconst C dX12_heir_60 ?_
            refine a_iload_n C dX12_heir_61 rfl ?_
            refine a_imul C dX12_heir_62 ?_
            refine a_iconst C dX12_heir_63 ?_
            refine a_iadd C dX12_heir_64 ?_
            refine a_iload_n C dX12_heir_65 rfl ?_
            obtain ⟨q22, hK⟩ := hK
            refine a_iast C h_57 dX12_heir_66 (by decide) ⟨q22, q14⟩ ?_
            refine a_iload_n C dX12_heir_67 rfl ?_
            exact a_iret C E dX12_heir_68 (Nat.le_refl _) (Nat.le_refl _) (hpost _ _ hK)
          · replace hK := hK.2 q19
            refine a_bipush C dX12_heir_42 (by decide) ?_
            exact a_iret C E dX12_heir_44 (Nat.le_refl _) (Nat.le_refl _) (hpost _ _ hK)
      · replace hK := hK.2 q15
        refine a_bipush C dX12_heir_24 (by decide) ?_
        exact a_iret C E dX12_heir_26 (Nat.le_refl _) (Nat.le_refl _) (hpost _ _ hK)
    refine a_iload_n C dX12_heir_7 rfl ?_
    refine a_iconst C dX12_heir_8 ?_
    obtain ⟨q23, hK⟩ := hK
    refine a_icmp_eq C 19 dX12_heir_9 (by decide) ⟨q23, ⟨by decide, by decide⟩⟩ (fun q24 => ?_) (fun q24 => ?_)
    · replace hK := hK.1 q24
      exact a_ls (lsub_s rfl (lsub_s rfl (lsub_s rfl (lsub_n lsub_0)))) (J19 a1 a2 _ hK)
    · replace hK := hK.2 q24
      refine a_iload_n C dX12_heir_12 rfl ?_
      refine a_callS (as := [zI a2]) (rest := []) C 1 (fun l => c12_isPerson l) ml_X12_103 sa_X12_isPerson in_X12 co_X12_isPerson (by decide +kernel) rfl ⟨Nat.le_of_ble_eq_true rfl, Nat.le_of_ble_eq_true rfl⟩ (Nat.le_of_ble_eq_true rfl) dX12_heir_13 ⟨Nat.le_of_ble_eq_true rfl, Nat.le_of_ble_eq_true rfl⟩ ?_
      refine ⟨a2, _, rfl, hK, fun r13 V13 hK => ?_⟩
      try dsimp only [Option.toList, List.cons_append, List.nil_append]
      obtain ⟨q25, hK⟩ := hK
      refine a_if_eq C 24 dX12_heir_16 (by decide) q25 (fun q26 => ?_) (fun q26 => ?_)
      · replace hK := hK.1 q26
        refine a_bipush C dX12_heir_24 (by decide) ?_
        exact a_iret C E dX12_heir_26 (Nat.le_refl _) (Nat.le_refl _) (hpost _ _ hK)
      · replace hK := hK.2 q26
        exact a_ls (lsub_s rfl (lsub_s rfl (lsub_s rfl (lsub_n lsub_0)))) (J19 a1 a2 _ hK)

def m12_capped  (V : zV) (a0 : Int) (Q : Int → zV → Prop) : Prop :=
  (inR a0) ∧ ((a0 ≤ 99 → Q a0 V) ∧ (99 < a0 → Q 99 V))
def t12_capped : zT := fun as S V post => ∃ (a0 : Int) (Q : Int → zV → Prop), as = [zI a0] ∧ m12_capped V a0 Q ∧ (∀ r V2, Q r V2 → post (some (zI r)) S V2)
set_option maxHeartbeats 4000000 in
set_option maxRecDepth 20000 in
theorem c12_capped (l : Launch) : zCT l yX12_capped cX12_capped 1 (some .int) { frames := 0, cells := 0, slots := 0, locals := 0 } t12_capped := by
  refine zCT_of (by decide) (fun as S V post h => by obtain ⟨a0, Q, rfl, -⟩ := h; exact Nat.le_of_ble_eq_true rfl) ?_
  intro X S V as post C E hT
  obtain ⟨a0, Q, rfl, hK, hpost⟩ := hT
  show zW X S V 0 0 [some (zI a0)] [] 0
  unfold m12_capped at hK
  refine a_iload_n C dX12_capped_0 rfl ?_
  refine a_bipush C dX12_capped_1 (by decide) ?_
  obtain ⟨q1, hK⟩ := hK
  refine a_icmp_le C 11 dX12_capped_3 (by decide) ⟨q1, ⟨by decide, by decide⟩⟩ (fun q2 => ?_) (fun q2 => ?_)
  · replace hK := hK.1 q2
    refine a_iload_n C dX12_capped_11 rfl ?_
    exact a_iret C E dX12_capped_12 (Nat.le_refl _) (Nat.le_refl _) (hpost _ _ hK)
  · replace hK := hK.2 q2
    refine a_bipush C dX12_capped_6 (by decide) ?_
    refine a_goto C 12 dX12_capped_8 (by decide) ?_
    exact a_iret C E dX12_capped_12 (Nat.le_refl _) (Nat.le_refl _) (hpost _ _ hK)

def m12_canBuy  (V : zV) (a1 : Int) (a2 : Int) (a3 : Int) (Q : Int → zV → Prop) : Prop :=
  m12_isStruck V a2 (fun r2 V2 => (inR r2) ∧ ((¬ r2 = 0 → Q 0 V2) ∧ (r2 = 0 → m12_borrowerOf V2 a2 a3 (fun r11 V11 => (inR r11) ∧ ((¬ r11 = (-1) → Q 0 V11) ∧ (r11 = (-1) → m12_isAlive V11 a1 (fun r20 V20 => (inR r20) ∧ ((r20 = 0 → Q 0 V20) ∧ (¬ r20 = 0 → m12_hasToDo V20 a1 a2 (fun r29 V29 => (inR r29) ∧ ((¬ r29 = 0 → Q 0 V29) ∧ (r29 = 0 → (0 ≤ (3 * a1) ∧ (3 * a1) < 18) ∧ m12_priceOf V29 a2 a3 (fun r46 V46 => (inR r46) ∧ (((V29 57 ((3 * a1)).toNat) < r46 → Q 0 V46) ∧ (r46 ≤ (V29 57 ((3 * a1)).toNat) → Q 1 V46)))))))))))))))
def t12_canBuy : zT := fun as S V post => ∃ (a1 : Int) (a2 : Int) (a3 : Int) (Q : Int → zV → Prop), as = [zR 53, zI a1, zI a2, zI a3] ∧ PSm S ∧ m12_canBuy V a1 a2 a3 Q ∧ (∀ r V2, Q r V2 → post (some (zI r)) S V2)
set_option maxHeartbeats 4000000 in
set_option maxRecDepth 20000 in
theorem c12_canBuy (l : Launch) : zCT l yX12_canBuy cX12_canBuy 4 (some .boolean) { frames := 2, cells := 0, slots := 0, locals := 47 } t12_canBuy := by
  refine zCT_of (by decide) (fun as S V post h => by obtain ⟨a1, a2, a3, Q, rfl, -⟩ := h; exact Nat.le_of_ble_eq_true rfl) ?_
  intro X S V as post C E hT
  obtain ⟨a1, a2, a3, Q, rfl, hM, hK, hpost⟩ := hT
  obtain ⟨w_53, r_53, h_53, g_53_0, g_53_2, g_53_7, g_53_8, g_53_10, g_53_11, g_53_12, g_53_13, g_53_14, g_53_16, g_53_21, g_53_22, g_53_23, g_53_24⟩ := PSm_53 hM
  obtain ⟨r_57, h_57⟩ := PSm_57 hM
  show zW X S V 0 0 [some (zR 53), some (zI a1), some (zI a2), some (zI a3)] [] 0
  unfold m12_canBuy at hK
  refine a_aload_n C dX12_canBuy_0 rfl ?_
  refine a_iload_n C dX12_canBuy_1 rfl ?_
  refine a_callV (as := [zI a2]) (rest := []) C 1 (fun l => c12_isStruck l) h_53 ⟨_, _, rfl⟩ (by decide) ml_X12_113 im_X12_isStruck se_X12_isStruck in_X12 co_X12_isStruck (by decide +kernel) rfl ⟨Nat.le_of_ble_eq_true rfl, Nat.le_of_ble_eq_true rfl⟩ (Nat.le_of_ble_eq_true rfl) dX12_canBuy_2 ⟨Nat.le_of_ble_eq_true rfl, Nat.le_of_ble_eq_true rfl⟩ ?_
  refine ⟨a2, _, rfl, hM, hK, fun r2 V2 hK => ?_⟩
  try dsimp only [Option.toList, List.cons_append, List.nil_append]
  obtain ⟨q1, hK⟩ := hK
  refine a_if_ne C 56 dX12_canBuy_5 (by decide) q1 (fun q2 => ?_) (fun q2 => ?_)
  · replace hK := hK.1 q2
    refine a_iconst C dX12_canBuy_56 ?_
    exact a_zret C E dX12_canBuy_57 (Nat.le_refl _) (Nat.le_refl _) (by decide) (hpost _ _ hK)
  · replace hK := hK.2 q2
    refine a_aload_n C dX12_canBuy_8 rfl ?_
    refine a_iload_n C dX12_canBuy_9 rfl ?_
    refine a_iload_n C dX12_canBuy_10 rfl ?_
    refine a_callV (as := [zI a2, zI a3]) (rest := []) C 2 (fun l => c12_borrowerOf l) h_53 ⟨_, _, rfl⟩ (by decide) ml_X12_106 im_X12_borrowerOf se_X12_borrowerOf in_X12 co_X12_borrowerOf (by decide +kernel) rfl ⟨Nat.le_of_ble_eq_true rfl, Nat.le_of_ble_eq_true rfl⟩ (Nat.le_of_ble_eq_true rfl) dX12_canBuy_11 ⟨Nat.le_of_ble_eq_true rfl, Nat.le_of_ble_eq_true rfl⟩ ?_
    refine ⟨a2, a3, _, rfl, hM, hK, fun r11 V11 hK => ?_⟩
    try dsimp only [Option.toList, List.cons_append, List.nil_append]
    refine a_iconst C dX12_canBuy_14 ?_
    obtain ⟨q3, hK⟩ := hK
    refine a_icmp_ne C 56 dX12_canBuy_15 (by decide) ⟨q3, ⟨by decide, by decide⟩⟩ (fun q4 => ?_) (fun q4 => ?_)
    · replace hK := hK.1 q4
      refine a_iconst C dX12_canBuy_56 ?_
      exact a_zret C E dX12_canBuy_57 (Nat.le_refl _) (Nat.le_refl _) (by decide) (hpost _ _ hK)
    · replace hK := hK.2 q4
      refine a_aload_n C dX12_canBuy_18 rfl ?_
      refine a_iload_n C dX12_canBuy_19 rfl ?_
      refine a_callV (as := [zI a1]) (rest := []) C 1 (fun l => c12_isAlive l) h_53 ⟨_, _, rfl⟩ (by decide) ml_X12_143 im_X12_isAlive se_X12_isAlive in_X12 co_X12_isAlive (by decide +kernel) rfl ⟨Nat.le_of_ble_eq_true rfl, Nat.le_of_ble_eq_true rfl⟩ (Nat.le_of_ble_eq_true rfl) dX12_canBuy_20 ⟨Nat.le_of_ble_eq_true rfl, Nat.le_of_ble_eq_true rfl⟩ ?_
      refine ⟨a1, _, rfl, hM, hK, fun r20 V20 hK => ?_⟩
      try dsimp only [Option.toList, List.cons_append, List.nil_append]
      obtain ⟨q5, hK⟩ := hK
      refine a_if_eq C 56 dX12_canBuy_23 (by decide) q5 (fun q6 => ?_) (fun q6 => ?_)
      · replace hK := hK.1 q6
        refine a_iconst C dX12_canBuy_56 ?_
        exact a_zret C E dX12_canBuy_57 (Nat.le_refl _) (Nat.le_refl _) (by decide) (hpost _ _ hK)
      · replace hK := hK.2 q6
        refine a_aload_n C dX12_canBuy_26 rfl ?_
        refine a_iload_n C dX12_canBuy_27 rfl ?_
        refine a_iload_n C dX12_canBuy_28 rfl ?_
        refine a_callV (as := [zI a1, zI a2]) (rest := []) C 2 (fun l => c12_hasToDo l) h_53 ⟨_, _, rfl⟩ (by decide) ml_X12_146 im_X12_hasToDo se_X12_hasToDo in_X12 co_X12_hasToDo (by decide +kernel) rfl ⟨Nat.le_of_ble_eq_true rfl, Nat.le_of_ble_eq_true rfl⟩ (Nat.le_of_ble_eq_true rfl) dX12_canBuy_29 ⟨Nat.le_of_ble_eq_true rfl, Nat.le_of_ble_eq_true rfl⟩ ?_
        refine ⟨a1, a2, _, rfl, hM, hK, fun r29 V29 hK => ?_⟩
        try dsimp only [Option.toList, List.cons_append, List.nil_append]
        obtain ⟨q7, hK⟩ := hK
        refine a_if_ne C 56 dX12_canBuy_32 (by decide) q7 (fun q8 => ?_) (fun q8 => ?_)
        · replace hK := hK.1 q8
          refine a_iconst C dX12_canBuy_56 ?_
          exact a_zret C E dX12_canBuy_57 (Nat.le_refl _) (Nat.le_refl _) (by decide) (hpost _ _ hK)
        · replace hK := hK.2 q8
          refine a_aload_n C dX12_canBuy_35 rfl ?_
          refine a_getR C fl_X12_19_12 h_53 rfl g_53_8 dX12_canBuy_36 ?_
          refine a_iconst C dX12_canBuy_39 ?_
          refine a_iload_n C dX12_canBuy_40 rfl ?_
          refine a_imul C dX12_canBuy_41 ?_
          obtain ⟨q9, hK⟩ := hK
          refine a_iald C h_57 dX12_canBuy_42 (by decide) q9 (fun r10 => ?_)
          refine a_aload_n C dX12_canBuy_43 rfl ?_
          refine a_iload_n C dX12_canBuy_44 rfl ?_
          refine a_iload_n C dX12_canBuy_45 rfl ?_
          refine a_callV (as := [zI a2, zI a3]) (rest := [zI (V29 57 ((3 * a1)).toNat)]) C 2 (fun l => c12_priceOf l) h_53 ⟨_, _, rfl⟩ (by decide) ml_X12_119 im_X12_priceOf se_X12_priceOf in_X12 co_X12_priceOf (by decide +kernel) rfl ⟨Nat.le_of_ble_eq_true rfl, Nat.le_of_ble_eq_true rfl⟩ (Nat.le_of_ble_eq_true rfl) dX12_canBuy_46 ⟨Nat.le_of_ble_eq_true rfl, Nat.le_of_ble_eq_true rfl⟩ ?_
          refine ⟨a2, a3, _, rfl, hM, hK, fun r46 V46 hK => ?_⟩
          try dsimp only [Option.toList, List.cons_append, List.nil_append]
          obtain ⟨q11, hK⟩ := hK
          refine a_icmp_lt C 56 dX12_canBuy_49 (by decide) ⟨r10, q11⟩ (fun q12 => ?_) (fun q12 => ?_)
          · replace hK := hK.1 q12
            refine a_iconst C dX12_canBuy_56 ?_
            exact a_zret C E dX12_canBuy_57 (Nat.le_refl _) (Nat.le_refl _) (by decide) (hpost _ _ hK)
          · replace hK := hK.2 q12
            refine a_iconst C dX12_canBuy_52 ?_
            refine a_goto C 57 dX12_canBuy_53 (by decide) ?_
            exact a_zret C E dX12_canBuy_57 (Nat.le_refl _) (Nat.le_refl _) (by decide) (hpost _ _ hK)

def m12_bought_J59  (Q : Int → zV → Prop) (a1 : Int) (a2 : Int) (a3 : Int) (a4 : Int) (V : zV) : Prop :=
  (0 ≤ (((7 * a2) + 3) + a3) ∧ (((7 * a2) + 3) + a3) < 56) ∧ (inR a1) ∧ Q a4 (vset V 56 ((((7 * a2) + 3) + a3)).toNat a1)
def m12_bought  (V : zV) (a1 : Int) (a2 : Int) (a3 : Int) (Q : Int → zV → Prop) : Prop :=
  m12_priceOf V a2 a3 (fun r3 V3 => m12_ownerOf V3 a2 a3 (fun r11 V11 => (0 ≤ (3 * a1) ∧ (3 * a1) < 18) ∧ (0 ≤ (3 * a1) ∧ (3 * a1) < 18) ∧ (inR ((V11 57 ((3 * a1)).toNat) - r3)) ∧ (inR r11) ∧ ((r11 = (-1) → m12_bought_J59  Q a1 a2 a3 r3 (vset V11 57 ((3 * a1)).toNat ((V11 57 ((3 * a1)).toNat) - r3))) ∧ (¬ r11 = (-1) → (0 ≤ (3 * r11) ∧ (3 * r11) < 18) ∧ m12_capped (vset V11 57 ((3 * a1)).toNat ((V11 57 ((3 * a1)).toNat) - r3)) (((vset V11 57 ((3 * a1)).toNat ((V11 57 ((3 * a1)).toNat) - r3)) 57 ((3 * r11)).toNat) + r3) (fun r55 V55 => (0 ≤ (3 * r11) ∧ (3 * r11) < 18) ∧ (inR r55) ∧ m12_bought_J59  Q a1 a2 a3 r3 (vset V55 57 ((3 * r11)).toNat r55))))))
def t12_bought : zT := fun as S V post => ∃ (a1 : Int) (a2 : Int) (a3 : Int) (Q : Int → zV → Prop), as = [zR 53, zI a1, zI a2, zI a3] ∧ PSm S ∧ m12_bought V a1 a2 a3 Q ∧ (∀ r V2, Q r V2 → post (some (zI r)) S V2)
set_option maxHeartbeats 4000000 in
set_option maxRecDepth 20000 in
theorem c12_bought (l : Launch) : zCT l yX12_bought cX12_bought 6 (some .int) { frames := 2, cells := 0, slots := 0, locals := 47 } t12_bought := by
  refine zCT_of (by decide) (fun as S V post h => by obtain ⟨a1, a2, a3, Q, rfl, -⟩ := h; exact Nat.le_of_ble_eq_true rfl) ?_
  intro X S V as post C E hT
  obtain ⟨a1, a2, a3, Q, rfl, hM, hK, hpost⟩ := hT
  obtain ⟨w_53, r_53, h_53, g_53_0, g_53_2, g_53_7, g_53_8, g_53_10, g_53_11, g_53_12, g_53_13, g_53_14, g_53_16, g_53_21, g_53_22, g_53_23, g_53_24⟩ := PSm_53 hM
  obtain ⟨r_56, h_56⟩ := PSm_56 hM
  obtain ⟨r_57, h_57⟩ := PSm_57 hM
  show zW X S V 0 0 [some (zR 53), some (zI a1), some (zI a2), some (zI a3), none, none] [] 0
  unfold m12_bought at hK
  have J59 : ∀ (a1 : Int) (a2 : Int) (a3 : Int) (a4 : Int) (V : zV), m12_bought_J59  Q a1 a2 a3 a4 V → zW X S V 0 0 [some (zR 53), some (zI a1), some (zI a2), some (zI a3), some (zI a4), none] [] 59 := by
    intro a1 a2 a3 a4 V hK
    unfold m12_bought_J59 at hK
    refine a_aload_n C dX12_bought_59 rfl ?_
    refine a_getR C fl_X12_16_12 h_53 rfl g_53_7 dX12_bought_60 ?_
    refine a_bipush C dX12_bought_63 (by decide) ?_
    refine a_iload_n C dX12_bought_65 rfl ?_
    refine a_imul C dX12_bought_66 ?_
    refine a_iconst C dX12_bought_67 ?_
    refine a_iadd C dX12_bought_68 ?_
    refine a_iload_n C dX12_bought_69 rfl ?_
    refine a_iadd C dX12_bought_70 ?_
    refine a_iload_n C dX12_bought_71 rfl ?_
    obtain ⟨q3, hK⟩ := hK
    obtain ⟨q4, hK⟩ := hK
    refine a_iast C h_56 dX12_bought_72 (by decide) ⟨q3, q4⟩ ?_
    refine a_iload C dX12_bought_73 rfl ?_
    exact a_iret C E dX12_bought_75 (Nat.le_refl _) (Nat.le_refl _) (hpost _ _ hK)
  refine a_aload_n C dX12_bought_0 rfl ?_
  refine a_iload_n C dX12_bought_1 rfl ?_
  refine a_iload_n C dX12_bought_2 rfl ?_
  refine a_callV (as := [zI a2, zI a3]) (rest := []) C 2 (fun l => c12_priceOf l) h_53 ⟨_, _, rfl⟩ (by decide) ml_X12_119 im_X12_priceOf se_X12_priceOf in_X12 co_X12_priceOf (by decide +kernel) rfl ⟨Nat.le_of_ble_eq_true rfl, Nat.le_of_ble_eq_true rfl⟩ (Nat.le_of_ble_eq_true rfl) dX12_bought_3 ⟨Nat.le_of_ble_eq_true rfl, Nat.le_of_ble_eq_true rfl⟩ ?_
  refine ⟨a2, a3, _, rfl, hM, hK, fun r3 V3 hK => ?_⟩
  try dsimp only [Option.toList, List.cons_append, List.nil_append]
  refine a_istore C dX12_bought_6 (Nat.le_of_ble_eq_true rfl) ?_
  refine a_aload_n C dX12_bought_8 rfl ?_
  refine a_iload_n C dX12_bought_9 rfl ?_
  refine a_iload_n C dX12_bought_10 rfl ?_
  refine a_callV (as := [zI a2, zI a3]) (rest := []) C 2 (fun l => c12_ownerOf l) h_53 ⟨_, _, rfl⟩ (by decide) ml_X12_110 im_X12_ownerOf se_X12_ownerOf in_X12 co_X12_ownerOf (by decide +kernel) rfl ⟨Nat.le_of_ble_eq_true rfl, Nat.le_of_ble_eq_true rfl⟩ (Nat.le_of_ble_eq_true rfl) dX12_bought_11 ⟨Nat.le_of_ble_eq_true rfl, Nat.le_of_ble_eq_true rfl⟩ ?_
  refine ⟨a2, a3, _, rfl, hM, hK, fun r11 V11 hK => ?_⟩
  try dsimp only [Option.toList, List.cons_append, List.nil_append]
  refine a_istore C dX12_bought_14 (Nat.le_of_ble_eq_true rfl) ?_
  refine a_aload_n C dX12_bought_16 rfl ?_
  refine a_getR C fl_X12_19_12 h_53 rfl g_53_8 dX12_bought_17 ?_
  refine a_iconst C dX12_bought_20 ?_
  refine a_iload_n C dX12_bought_21 rfl ?_
  refine a_imul C dX12_bought_22 ?_
  refine a_dup2 C dX12_bought_23 rfl rfl ?_
  obtain ⟨q5, hK⟩ := hK
  refine a_iald C h_57 dX12_bought_24 (by decide) q5 (fun r6 => ?_)
  refine a_iload C dX12_bought_25 rfl ?_
  refine a_isub C dX12_bought_27 ?_
  obtain ⟨q7, hK⟩ := hK
  obtain ⟨q8, hK⟩ := hK
  refine a_iast C h_57 dX12_bought_28 (by decide) ⟨q7, q8⟩ ?_
  refine a_iload C dX12_bought_29 rfl ?_
  refine a_iconst C dX12_bought_31 ?_
  obtain ⟨q9, hK⟩ := hK
  refine a_icmp_eq C 59 dX12_bought_32 (by decide) ⟨q9, ⟨by decide, by decide⟩⟩ (fun q10 => ?_) (fun q10 => ?_)
  · replace hK := hK.1 q10
    exact a_ls (lsub_s rfl (lsub_s rfl (lsub_s rfl (lsub_s rfl (lsub_s rfl (lsub_n lsub_0)))))) (J59 a1 a2 a3 r3 _ hK)
  · replace hK := hK.2 q10
    refine a_aload_n C dX12_bought_35 rfl ?_
    refine a_getR C fl_X12_19_12 h_53 rfl g_53_8 dX12_bought_36 ?_
    refine a_iconst C dX12_bought_39 ?_
    refine a_iload C dX12_bought_40 rfl ?_
    refine a_imul C dX12_bought_42 ?_
    refine a_aload_n C dX12_bought_43 rfl ?_
    refine a_getR C fl_X12_19_12 h_53 rfl g_53_8 dX12_bought_44 ?_
    refine a_iconst C dX12_bought_47 ?_
    refine a_iload C dX12_bought_48 rfl ?_
    refine a_imul C dX12_bought_50 ?_
    obtain ⟨q11, hK⟩ := hK
    refine a_iald C h_57 dX12_bought_51 (by decide) q11 (fun r12 => ?_)
    refine a_iload C dX12_bought_52 rfl ?_
    refine a_iadd C dX12_bought_54 ?_
    refine a_callS (as := [zI (((vset V11 57 ((3 * a1)).toNat ((V11 57 ((3 * a1)).toNat) - r3)) 57 ((3 * r11)).toNat) + r3)]) (rest := [zI (3 * r11), zR 57]) C 1 (fun l => c12_capped l) ml_X12_150 sa_X12_capped in_X12 co_X12_capped (by decide +kernel) rfl ⟨Nat.le_of_ble_eq_true rfl, Nat.le_of_ble_eq_true rfl⟩ (Nat.le_of_ble_eq_true rfl) dX12_bought_55 ⟨Nat.le_of_ble_eq_true rfl, Nat.le_of_ble_eq_true rfl⟩ ?_
    refine ⟨(((vset V11 57 ((3 * a1)).toNat ((V11 57 ((3 * a1)).toNat) - r3)) 57 ((3 * r11)).toNat) + r3), _, rfl, hK, fun r55 V55 hK => ?_⟩
    try dsimp only [Option.toList, List.cons_append, List.nil_append]
    obtain ⟨q13, hK⟩ := hK
    obtain ⟨q14, hK⟩ := hK
    refine a_iast C h_57 dX12_bought_58 (by decide) ⟨q13, q14⟩ ?_
    exact a_ls (lsub_s rfl (lsub_s rfl (lsub_s rfl (lsub_s rfl (lsub_s rfl (lsub_n lsub_0)))))) (J59 a1 a2 a3 r3 _ hK)

def m12_buy  (V : zV) (a1 : Int) (a2 : Int) (a3 : Int) (Q : Int → zV → Prop) : Prop :=
  m12_isPerson V a1 (fun r1 V1 => (inR r1) ∧ ((r1 = 0 → Q (-101) V1) ∧ (¬ r1 = 0 → m12_isFeud V1 a2 (fun r9 V9 => (inR r9) ∧ ((¬ r9 = 0 → (inR a3) ∧ m12_in V9 a3 0 1 (fun r22 V22 => (inR r22) ∧ ((¬ r22 = 0 → m12_canBuy V22 a1 a2 a3 (fun r35 V35 => (inR r35) ∧ ((r35 = 0 → Q (-103) V35) ∧ (¬ r35 = 0 → m12_bought V35 a1 a2 a3 (fun r45 V45 => Q r45 V45))))) ∧ (r22 = 0 → Q (-102) V22)))) ∧ (r9 = 0 → Q (-101) V9))))))
def t12_buy : zT := fun as S V post => ∃ (a1 : Int) (a2 : Int) (a3 : Int) (Q : Int → zV → Prop), as = [zR 53, zI a1, zI a2, zI a3] ∧ PSm S ∧ m12_buy V a1 a2 a3 Q ∧ (∀ r V2, Q r V2 → post (some (zI r)) S V2)
set_option maxHeartbeats 4000000 in
set_option maxRecDepth 20000 in
theorem c12_buy (l : Launch) : zCT l yX12_buy cX12_buy 4 (some .int) { frames := 3, cells := 0, slots := 0, locals := 72 } t12_buy := by
  refine zCT_of (by decide) (fun as S V post h => by obtain ⟨a1, a2, a3, Q, rfl, -⟩ := h; exact Nat.le_of_ble_eq_true rfl) ?_
  intro X S V as post C E hT
  obtain ⟨a1, a2, a3, Q, rfl, hM, hK, hpost⟩ := hT
  obtain ⟨w_53, r_53, h_53, g_53_0, g_53_2, g_53_7, g_53_8, g_53_10, g_53_11, g_53_12, g_53_13, g_53_14, g_53_16, g_53_21, g_53_22, g_53_23, g_53_24⟩ := PSm_53 hM
  show zW X S V 0 0 [some (zR 53), some (zI a1), some (zI a2), some (zI a3)] [] 0
  unfold m12_buy at hK
  refine a_iload_n C dX12_buy_0 rfl ?_
  refine a_callS (as := [zI a1]) (rest := []) C 1 (fun l => c12_isPerson l) ml_X12_103 sa_X12_isPerson in_X12 co_X12_isPerson (by decide +kernel) rfl ⟨Nat.le_of_ble_eq_true rfl, Nat.le_of_ble_eq_true rfl⟩ (Nat.le_of_ble_eq_true rfl) dX12_buy_1 ⟨Nat.le_of_ble_eq_true rfl, Nat.le_of_ble_eq_true rfl⟩ ?_
  refine ⟨a1, _, rfl, hK, fun r1 V1 hK => ?_⟩
  try dsimp only [Option.toList, List.cons_append, List.nil_append]
  obtain ⟨q1, hK⟩ := hK
  refine a_if_eq C 15 dX12_buy_4 (by decide) q1 (fun q2 => ?_) (fun q2 => ?_)
  · replace hK := hK.1 q2
    refine a_bipush C dX12_buy_15 (by decide) ?_
    exact a_iret C E dX12_buy_17 (Nat.le_refl _) (Nat.le_refl _) (hpost _ _ hK)
  · replace hK := hK.2 q2
    refine a_aload_n C dX12_buy_7 rfl ?_
    refine a_iload_n C dX12_buy_8 rfl ?_
    refine a_callV (as := [zI a2]) (rest := []) C 1 (fun l => c12_isFeud l) h_53 ⟨_, _, rfl⟩ (by decide) ml_X12_122 im_X12_isFeud se_X12_isFeud in_X12 co_X12_isFeud (by decide +kernel) rfl ⟨Nat.le_of_ble_eq_true rfl, Nat.le_of_ble_eq_true rfl⟩ (Nat.le_of_ble_eq_true rfl) dX12_buy_9 ⟨Nat.le_of_ble_eq_true rfl, Nat.le_of_ble_eq_true rfl⟩ ?_
    refine ⟨a2, _, rfl, hM, hK, fun r9 V9 hK => ?_⟩
    try dsimp only [Option.toList, List.cons_append, List.nil_append]
    obtain ⟨q3, hK⟩ := hK
    refine a_if_ne C 18 dX12_buy_12 (by decide) q3 (fun q4 => ?_) (fun q4 => ?_)
    · replace hK := hK.1 q4
      refine a_iload_n C dX12_buy_18 rfl ?_
      obtain ⟨q5, hK⟩ := hK
      refine a_i2l C dX12_buy_19 q5 ?_
      refine a_lconst C 0 dX12_buy_20 (by decide) ?_
      refine a_lconst C 1 dX12_buy_21 (by decide) ?_
      refine a_callS (as := [zJ a3, zJ 0, zJ 1]) (rest := []) C 3 (fun l => c12_in l) ml_X12_62 sa_X12_in in_X12 co_X12_in (by decide +kernel) rfl ⟨Nat.le_of_ble_eq_true rfl, Nat.le_of_ble_eq_true rfl⟩ (Nat.le_of_ble_eq_true rfl) dX12_buy_22 ⟨Nat.le_of_ble_eq_true rfl, Nat.le_of_ble_eq_true rfl⟩ ?_
      refine ⟨a3, 0, 1, _, rfl, hK, fun r22 V22 hK => ?_⟩
      try dsimp only [Option.toList, List.cons_append, List.nil_append]
      obtain ⟨q6, hK⟩ := hK
      refine a_if_ne C 31 dX12_buy_25 (by decide) q6 (fun q7 => ?_) (fun q7 => ?_)
      · replace hK := hK.1 q7
        refine a_aload_n C dX12_buy_31 rfl ?_
        refine a_iload_n C dX12_buy_32 rfl ?_
        refine a_iload_n C dX12_buy_33 rfl ?_
        refine a_iload_n C dX12_buy_34 rfl ?_
        refine a_callV (as := [zI a1, zI a2, zI a3]) (rest := []) C 3 (fun l => c12_canBuy l) h_53 ⟨_, _, rfl⟩ (by decide) ml_X12_153 im_X12_canBuy se_X12_canBuy in_X12 co_X12_canBuy (by decide +kernel) rfl ⟨Nat.le_of_ble_eq_true rfl, Nat.le_of_ble_eq_true rfl⟩ (Nat.le_of_ble_eq_true rfl) dX12_buy_35 ⟨Nat.le_of_ble_eq_true rfl, Nat.le_of_ble_eq_true rfl⟩ ?_
        refine ⟨a1, a2, a3, _, rfl, hM, hK, fun r35 V35 hK => ?_⟩
        try dsimp only [Option.toList, List.cons_append, List.nil_append]
        obtain ⟨q8, hK⟩ := hK
        refine a_if_eq C 51 dX12_buy_38 (by decide) q8 (fun q9 => ?_) (fun q9 => ?_)
        · replace hK := hK.1 q9
          refine a_bipush C dX12_buy_51 (by decide) ?_
          exact a_iret C E dX12_buy_53 (Nat.le_refl _) (Nat.le_refl _) (hpost _ _ hK)
        · replace hK := hK.2 q9
          refine a_aload_n C dX12_buy_41 rfl ?_
          refine a_iload_n C dX12_buy_42 rfl ?_
          refine a_iload_n C dX12_buy_43 rfl ?_
          refine a_iload_n C dX12_buy_44 rfl ?_
          refine a_callV (as := [zI a1, zI a2, zI a3]) (rest := []) C 3 (fun l => c12_bought l) h_53 ⟨_, _, rfl⟩ (by decide) ml_X12_157 im_X12_bought se_X12_bought in_X12 co_X12_bought (by decide +kernel) rfl ⟨Nat.le_of_ble_eq_true rfl, Nat.le_of_ble_eq_true rfl⟩ (Nat.le_of_ble_eq_true rfl) dX12_buy_45 ⟨Nat.le_of_ble_eq_true rfl, Nat.le_of_ble_eq_true rfl⟩ ?_
          refine ⟨a1, a2, a3, _, rfl, hM, hK, fun r45 V45 hK => ?_⟩
          try dsimp only [Option.toList, List.cons_append, List.nil_append]
          refine a_goto C 53 dX12_buy_48 (by decide) ?_
          exact a_iret C E dX12_buy_53 (Nat.le_refl _) (Nat.le_refl _) (hpost _ _ hK)
      · replace hK := hK.2 q7
        refine a_bipush C dX12_buy_28 (by decide) ?_
        exact a_iret C E dX12_buy_30 (Nat.le_refl _) (Nat.le_refl _) (hpost _ _ hK)
    · replace hK := hK.2 q4
      refine a_bipush C dX12_buy_15 (by decide) ?_
      exact a_iret C E dX12_buy_17 (Nat.le_refl _) (Nat.le_refl _) (hpost _ _ hK)

def m12_lend_J87  (Q : Int → zV → Prop) (a1 : Int) (a2 : Int) (a3 : Int) (s0 : Int) (V : zV) : Prop :=
  (inR s0) ∧ ((s0 = 0 → Q (-103) V) ∧ (¬ s0 = 0 → m12_isAlive V a3 (fun r96 V96 => (inR r96) ∧ ((r96 = 0 → Q (-103) V96) ∧ (¬ r96 = 0 → m12_hasToDo V96 a3 a1 (fun r105 V105 => (inR r105) ∧ ((r105 = 0 → (0 ≤ (((7 * a1) + 5) + a2) ∧ (((7 * a1) + 5) + a2) < 56) ∧ (inR a3) ∧ m12_ownerOf (vset V105 56 ((((7 * a1) + 5) + a2)).toNat a3) a1 a2 (fun r131 V131 => Q r131 V131)) ∧ (¬ r105 = 0 → Q (-103) V105))))))))
def m12_lend_J62  (Q : Int → zV → Prop) (a1 : Int) (a2 : Int) (a3 : Int) (V : zV) : Prop :=
  m12_ownerOf V a1 a2 (fun r65 V65 => (inR r65) ∧ ((r65 = (-1) → m12_lend_J87  Q a1 a2 a3 0 V65) ∧ (¬ r65 = (-1) → m12_borrowerOf V65 a1 a2 (fun r75 V75 => (inR r75) ∧ ((¬ r75 = (-1) → m12_lend_J87  Q a1 a2 a3 0 V75) ∧ (r75 = (-1) → m12_lend_J87  Q a1 a2 a3 1 V75))))))
def m12_lend  (V : zV) (a1 : Int) (a2 : Int) (a3 : Int) (Q : Int → zV → Prop) : Prop :=
  m12_isFeud V a1 (fun r2 V2 => (inR r2) ∧ ((r2 = 0 → Q (-101) V2) ∧ (¬ r2 = 0 → m12_isPerson V2 a3 (fun r9 V9 => (inR r9) ∧ ((¬ r9 = 0 → (inR a2) ∧ m12_in V9 a2 0 1 (fun r22 V22 => (inR r22) ∧ ((¬ r22 = 0 → (0 ≤ (7 * a1) ∧ (7 * a1) < 56) ∧ m12_isStruck V22 a1 (fun r44 V44 => (inR r44) ∧ ((¬ r44 = 0 → m12_lend_J87  Q a1 a2 a3 0 V44) ∧ (r44 = 0 → (((V22 56 ((7 * a1)).toNat) = 1 → m12_lend_J62  Q a1 a2 a3 V44) ∧ (¬ (V22 56 ((7 * a1)).toNat) = 1 → (((V22 56 ((7 * a1)).toNat) ≤ 2 → m12_lend_J87  Q a1 a2 a3 0 V44) ∧ (2 < (V22 56 ((7 * a1)).toNat) → m12_lend_J62  Q a1 a2 a3 V44)))))))) ∧ (r22 = 0 → Q (-102) V22)))) ∧ (r9 = 0 → Q (-101) V9))))))
def t12_lend : zT := fun as S V post => ∃ (a1 : Int) (a2 : Int) (a3 : Int) (Q : Int → zV → Prop), as = [zR 53, zI a1, zI a2, zI a3] ∧ PSm S ∧ m12_lend V a1 a2 a3 Q ∧ (∀ r V2, Q r V2 → post (some (zI r)) S V2)
set_option maxHeartbeats 4000000 in
set_option maxRecDepth 20000 in
theorem c12_lend (l : Launch) : zCT l yX12_lend cX12_lend 6 (some .int) { frames := 2, cells := 0, slots := 0, locals := 46 } t12_lend := by
  refine zCT_of (by decide) (fun as S V post h => by obtain ⟨a1, a2, a3, Q, rfl, -⟩ := h; exact Nat.le_of_ble_eq_true rfl) ?_
  intro X S V as post C E hT
  obtain ⟨a1, a2, a3, Q, rfl, hM, hK, hpost⟩ := hT
  obtain ⟨w_53, r_53, h_53, g_53_0, g_53_2, g_53_7, g_53_8, g_53_10, g_53_11, g_53_12, g_53_13, g_53_14, g_53_16, g_53_21, g_53_22, g_53_23, g_53_24⟩ := PSm_53 hM
  obtain ⟨r_56, h_56⟩ := PSm_56 hM
  show zW X S V 0 0 [some (zR 53), some (zI a1), some (zI a2), some (zI a3), none, none] [] 0
  unfold m12_lend at hK
  refine a_aload_n C dX12_lend_0 rfl ?_
  refine a_iload_n C dX12_lend_1 rfl ?_
  refine a_callV (as := [zI a1]) (rest := []) C 1 (fun l => c12_isFeud l) h_53 ⟨_, _, rfl⟩ (by decide) ml_X12_122 im_X12_isFeud se_X12_isFeud in_X12 co_X12_isFeud (by decide +kernel) rfl ⟨Nat.le_of_ble_eq_true rfl, Nat.le_of_ble_eq_true rfl⟩ (Nat.le_of_ble_eq_true rfl) dX12_lend_2 ⟨Nat.le_of_ble_eq_true rfl, Nat.le_of_ble_eq_true rfl⟩ ?_
  refine ⟨a1, _, rfl, hM, hK, fun r2 V2 hK => ?_⟩
  try dsimp only [Option.toList, List.cons_append, List.nil_append]
  obtain ⟨q1, hK⟩ := hK
  refine a_if_eq C 15 dX12_lend_5 (by decide) q1 (fun q2 => ?_) (fun q2 => ?_)
  · replace hK := hK.1 q2
    refine a_bipush C dX12_lend_15 (by decide) ?_
    exact a_iret C E dX12_lend_17 (Nat.le_refl _) (Nat.le_refl _) (hpost _ _ hK)
  · replace hK := hK.2 q2
    refine a_iload_n C dX12_lend_8 rfl ?_
    refine a_callS (as := [zI a3]) (rest := []) C 1 (fun l => c12_isPerson l) ml_X12_103 sa_X12_isPerson in_X12 co_X12_isPerson (by decide +kernel) rfl ⟨Nat.le_of_ble_eq_true rfl, Nat.le_of_ble_eq_true rfl⟩ (Nat.le_of_ble_eq_true rfl) dX12_lend_9 ⟨Nat.le_of_ble_eq_true rfl, Nat.le_of_ble_eq_true rfl⟩ ?_
    refine ⟨a3, _, rfl, hK, fun r9 V9 hK => ?_⟩
    try dsimp only [Option.toList, List.cons_append, List.nil_append]
    obtain ⟨q3, hK⟩ := hK
    refine a_if_ne C 18 dX12_lend_12 (by decide) q3 (fun q4 => ?_) (fun q4 => ?_)
    · replace hK := hK.1 q4
      refine a_iload_n C dX12_lend_18 rfl ?_
      obtain ⟨q5, hK⟩ := hK
      refine a_i2l C dX12_lend_19 q5 ?_
      refine a_lconst C 0 dX12_lend_20 (by decide) ?_
      refine a_lconst C 1 dX12_lend_21 (by decide) ?_
      refine a_callS (as := [zJ a2, zJ 0, zJ 1]) (rest := []) C 3 (fun l => c12_in l) ml_X12_62 sa_X12_in in_X12 co_X12_in (by decide +kernel) rfl ⟨Nat.le_of_ble_eq_true rfl, Nat.le_of_ble_eq_true rfl⟩ (Nat.le_of_ble_eq_true rfl) dX12_lend_22 ⟨Nat.le_of_ble_eq_true rfl, Nat.le_of_ble_eq_true rfl⟩ ?_
      refine ⟨a2, 0, 1, _, rfl, hK, fun r22 V22 hK => ?_⟩
      try dsimp only [Option.toList, List.cons_append, List.nil_append]
      obtain ⟨q6, hK⟩ := hK
      refine a_if_ne C 31 dX12_lend_25 (by decide) q6 (fun q7 => ?_) (fun q7 => ?_)
      · replace hK := hK.1 q7
        have J87 : ∀ (a1 : Int) (a2 : Int) (a3 : Int) (s0 : Int) (V : zV), m12_lend_J87  Q a1 a2 a3 s0 V → zW X S V 0 0 [some (zR 53), some (zI a1), some (zI a2), some (zI a3), none, none] [zI s0] 87 := by
          intro a1 a2 a3 s0 V hK
          unfold m12_lend_J87 at hK
          refine a_istore C dX12_lend_87 (Nat.le_of_ble_eq_true rfl) ?_
          refine a_iload C dX12_lend_89 rfl ?_
          obtain ⟨q16, hK⟩ := hK
          refine a_if_eq C 111 dX12_lend_91 (by decide) q16 (fun q17 => ?_) (fun q17 => ?_)
          · replace hK := hK.1 q17
            refine a_bipush C dX12_lend_111 (by decide) ?_
            exact a_iret C E dX12_lend_113 (Nat.le_refl _) (Nat.le_refl _) (hpost _ _ hK)
          · replace hK := hK.2 q17
            refine a_aload_n C dX12_lend_94 rfl ?_
            refine a_iload_n C dX12_lend_95 rfl ?_
            refine a_callV (as := [zI a3]) (rest := []) C 1 (fun l => c12_isAlive l) h_53 ⟨_, _, rfl⟩ (by decide) ml_X12_143 im_X12_isAlive se_X12_isAlive in_X12 co_X12_isAlive (by decide +kernel) rfl ⟨Nat.le_of_ble_eq_true rfl, Nat.le_of_ble_eq_true rfl⟩ (Nat.le_of_ble_eq_true rfl) dX12_lend_96 ⟨Nat.le_of_ble_eq_true rfl, Nat.le_of_ble_eq_true rfl⟩ ?_
            refine ⟨a3, _, rfl, hM, hK, fun r96 V96 hK => ?_⟩
            try dsimp only [Option.toList, List.cons_append, List.nil_append]
            obtain ⟨q18, hK⟩ := hK
            refine a_if_eq C 111 dX12_lend_99 (by decide) q18 (fun q19 => ?_) (fun q19 => ?_)
            · replace hK := hK.1 q19
              refine a_bipush C dX12_lend_111 (by decide) ?_
              exact a_iret C E dX12_lend_113 (Nat.le_refl _) (Nat.le_refl _) (hpost _ _ hK)
            · replace hK := hK.2 q19
              refine a_aload_n C dX12_lend_102 rfl ?_
              refine a_iload_n C dX12_lend_103 rfl ?_
              refine a_iload_n C dX12_lend_104 rfl ?_
              refine a_callV (as := [zI a3, zI a1]) (rest := []) C 2 (fun l => c12_hasToDo l) h_53 ⟨_, _, rfl⟩ (by decide) ml_X12_146 im_X12_hasToDo se_X12_hasToDo in_X12 co_X12_hasToDo (by decide +kernel) rfl ⟨Nat.le_of_ble_eq_true rfl, Nat.le_of_ble_eq_true rfl⟩ (Nat.le_of_ble_eq_true rfl) dX12_lend_105 ⟨Nat.le_of_ble_eq_true rfl, Nat.le_of_ble_eq_true rfl⟩ ?_
              refine ⟨a3, a1, _, rfl, hM, hK, fun r105 V105 hK => ?_⟩
              try dsimp only [Option.toList, List.cons_append, List.nil_append]
              obtain ⟨q20, hK⟩ := hK
              refine a_if_eq C 114 dX12_lend_108 (by decide) q20 (fun q21 => ?_) (fun q21 => ?_)
              · replace hK := hK.1 q21
                refine a_aload_n C dX12_lend_114 rfl ?_
                refine a_getR C fl_X12_16_12 h_53 rfl g_53_7 dX12_lend_115 ?_
                refine a_bipush C dX12_lend_118 (by decide) ?_
                refine a_iload_n C dX12_lend_120 rfl ?_
                refine a_imul C dX12_lend_121 ?_
                refine a_iconst C dX12_lend_122 ?_
                refine a_iadd C dX12_lend_123 ?_
                refine a_iload_n C dX12_lend_124 rfl ?_
                refine a_iadd C dX12_lend_125 ?_
                refine a_iload_n C dX12_lend_126 rfl ?_
                obtain ⟨q22, hK⟩ := hK
                obtain ⟨q23, hK⟩ := hK
                refine a_iast C h_56 dX12_lend_127 (by decide) ⟨q22, q23⟩ ?_
                refine a_aload_n C dX12_lend_128 rfl ?_
                refine a_iload_n C dX12_lend_129 rfl ?_
                refine a_iload_n C dX12_lend_130 rfl ?_
                refine a_callV (as := [zI a1, zI a2]) (rest := []) C 2 (fun l => c12_ownerOf l) h_53 ⟨_, _, rfl⟩ (by decide) ml_X12_110 im_X12_ownerOf se_X12_ownerOf in_X12 co_X12_ownerOf (by decide +kernel) rfl ⟨Nat.le_of_ble_eq_true rfl, Nat.le_of_ble_eq_true rfl⟩ (Nat.le_of_ble_eq_true rfl) dX12_lend_131 ⟨Nat.le_of_ble_eq_true rfl, Nat.le_of_ble_eq_true rfl⟩ ?_
                refine ⟨a1, a2, _, rfl, hM, hK, fun r131 V131 hK => ?_⟩
                try dsimp only [Option.toList, List.cons_append, List.nil_append]
                exact a_iret C E dX12_lend_134 (Nat.le_refl _) (Nat.le_refl _) (hpost _ _ hK)
              · replace hK := hK.2 q21
                refine a_bipush C dX12_lend_111 (by decide) ?_
                exact a_iret C E dX12_lend_113 (Nat.le_refl _) (Nat.le_refl _) (hpost _ _ hK)
        refine a_aload_n C dX12_lend_31 rfl ?_
        refine a_getR C fl_X12_16_12 h_53 rfl g_53_7 dX12_lend_32 ?_
        refine a_bipush C dX12_lend_35 (by decide) ?_
        refine a_iload_n C dX12_lend_37 rfl ?_
        refine a_imul C dX12_lend_38 ?_
        obtain ⟨q24, hK⟩ := hK
        refine a_iald C h_56 dX12_lend_39 (by decide) q24 (fun r25 => ?_)
        refine a_istore C dX12_lend_40 (Nat.le_of_ble_eq_true rfl) ?_
        refine a_aload_n C dX12_lend_42 rfl ?_
        refine a_iload_n C dX12_lend_43 rfl ?_
        refine a_callV (as := [zI a1]) (rest := []) C 1 (fun l => c12_isStruck l) h_53 ⟨_, _, rfl⟩ (by decide) ml_X12_113 im_X12_isStruck se_X12_isStruck in_X12 co_X12_isStruck (by decide +kernel) rfl ⟨Nat.le_of_ble_eq_true rfl, Nat.le_of_ble_eq_true rfl⟩ (Nat.le_of_ble_eq_true rfl) dX12_lend_44 ⟨Nat.le_of_ble_eq_true rfl, Nat.le_of_ble_eq_true rfl⟩ ?_
        refine ⟨a1, _, rfl, hM, hK, fun r44 V44 hK => ?_⟩
        try dsimp only [Option.toList, List.cons_append, List.nil_append]
        obtain ⟨q26, hK⟩ := hK
        refine a_if_ne C 86 dX12_lend_47 (by decide) q26 (fun q27 => ?_) (fun q27 => ?_)
        · replace hK := hK.1 q27
          refine a_iconst C dX12_lend_86 ?_
          exact a_ls (lsub_s rfl (lsub_s rfl (lsub_s rfl (lsub_s rfl (lsub_n (lsub_n lsub_0)))))) (J87 a1 a2 a3 0 _ hK)
        · replace hK := hK.2 q27
          have J62 : ∀ (a1 : Int) (a2 : Int) (a3 : Int) (V : zV), m12_lend_J62  Q a1 a2 a3 V → zW X S V 0 0 [some (zR 53), some (zI a1), some (zI a2), some (zI a3), none, none] [] 62 := by
            intro a1 a2 a3 V hK
            unfold m12_lend_J62 at hK
            refine a_aload_n C dX12_lend_62 rfl ?_
            refine a_iload_n C dX12_lend_63 rfl ?_
            refine a_iload_n C dX12_lend_64 rfl ?_
            refine a_callV (as := [zI a1, zI a2]) (rest := []) C 2 (fun l => c12_ownerOf l) h_53 ⟨_, _, rfl⟩ (by decide) ml_X12_110 im_X12_ownerOf se_X12_ownerOf in_X12 co_X12_ownerOf (by decide +kernel) rfl ⟨Nat.le_of_ble_eq_true rfl, Nat.le_of_ble_eq_true rfl⟩ (Nat.le_of_ble_eq_true rfl) dX12_lend_65 ⟨Nat.le_of_ble_eq_true rfl, Nat.le_of_ble_eq_true rfl⟩ ?_
            refine ⟨a1, a2, _, rfl, hM, hK, fun r65 V65 hK => ?_⟩
            try dsimp only [Option.toList, List.cons_append, List.nil_append]
            refine a_iconst C dX12_lend_68 ?_
            obtain ⟨q32, hK⟩ := hK
            refine a_icmp_eq C 86 dX12_lend_69 (by decide) ⟨q32, ⟨by decide, by decide⟩⟩ (fun q33 => ?_) (fun q33 => ?_)
            · replace hK := hK.1 q33
              refine a_iconst C dX12_lend_86 ?_
              exact a_ls (lsub_s rfl (lsub_s rfl (lsub_s rfl (lsub_s rfl (lsub_n (lsub_n lsub_0)))))) (J87 a1 a2 a3 0 _ hK)
            · replace hK := hK.2 q33
              refine a_aload_n C dX12_lend_72 rfl ?_
              refine a_iload_n C dX12_lend_73 rfl ?_
              refine a_iload_n C dX12_lend_74 rfl ?_
              refine a_callV (as := [zI a1, zI a2]) (rest := []) C 2 (fun l => c12_borrowerOf l) h_53 ⟨_, _, rfl⟩ (by decide) ml_X12_106 im_X12_borrowerOf se_X12_borrowerOf in_X12 co_X12_borrowerOf (by decide +kernel) rfl ⟨Nat.le_of_ble_eq_true rfl, Nat.le_of_ble_eq_true rfl⟩ (Nat.le_of_ble_eq_true rfl) dX12_lend_75 ⟨Nat.le_of_ble_eq_true rfl, Nat.le_of_ble_eq_true rfl⟩ ?_
              refine ⟨a1, a2, _, rfl, hM, hK, fun r75 V75 hK => ?_⟩
              try dsimp only [Option.toList, List.cons_append, List.nil_append]
              refine a_iconst C dX12_lend_78 ?_
              obtain ⟨q34, hK⟩ := hK
              refine a_icmp_ne C 86 dX12_lend_79 (by decide) ⟨q34, ⟨by decide, by decide⟩⟩ (fun q35 => ?_) (fun q35 => ?_)
              · replace hK := hK.1 q35
                refine a_iconst C dX12_lend_86 ?_
                exact a_ls (lsub_s rfl (lsub_s rfl (lsub_s rfl (lsub_s rfl (lsub_n (lsub_n lsub_0)))))) (J87 a1 a2 a3 0 _ hK)
              · replace hK := hK.2 q35
                refine a_iconst C dX12_lend_82 ?_
                refine a_goto C 87 dX12_lend_83 (by decide) ?_
                exact a_ls (lsub_s rfl (lsub_s rfl (lsub_s rfl (lsub_s rfl (lsub_n (lsub_n lsub_0)))))) (J87 a1 a2 a3 1 _ hK)
          refine a_iload C dX12_lend_50 rfl ?_
          refine a_iconst C dX12_lend_52 ?_
          refine a_icmp_eq C 62 dX12_lend_53 (by decide) ⟨r25, ⟨by decide, by decide⟩⟩ (fun q36 => ?_) (fun q36 => ?_)
          · replace hK := hK.1 q36
            exact a_ls (lsub_s rfl (lsub_s rfl (lsub_s rfl (lsub_s rfl (lsub_n (lsub_n lsub_0)))))) (J62 a1 a2 a3 _ hK)
          · replace hK := hK.2 q36
            refine a_iload C dX12_lend_56 rfl ?_
            refine a_iconst C dX12_lend_58 ?_
            refine a_icmp_le C 86 dX12_lend_59 (by decide) ⟨r25, ⟨by decide, by decide⟩⟩ (fun q37 => ?_) (fun q37 => ?_)
            · replace hK := hK.1 q37
              refine a_iconst C dX12_lend_86 ?_
              exact a_ls (lsub_s rfl (lsub_s rfl (lsub_s rfl (lsub_s rfl (lsub_n (lsub_n lsub_0)))))) (J87 a1 a2 a3 0 _ hK)
            · replace hK := hK.2 q37
              exact a_ls (lsub_s rfl (lsub_s rfl (lsub_s rfl (lsub_s rfl (lsub_n (lsub_n lsub_0)))))) (J62 a1 a2 a3 _ hK)
      · replace hK := hK.2 q7
        refine a_bipush C dX12_lend_28 (by decide) ?_
        exact a_iret C E dX12_lend_30 (Nat.le_refl _) (Nat.le_refl _) (hpost _ _ hK)
    · replace hK := hK.2 q4
      refine a_bipush C dX12_lend_15 (by decide) ?_
      exact a_iret C E dX12_lend_17 (Nat.le_refl _) (Nat.le_refl _) (hpost _ _ hK)

def m12_struckMany_L4  (Q : Int → zV → Prop) : Nat → Int → Int → zV → Prop
  | 0 => fun _ _ _ => False
  | n + 1 => fun a1 a2 V => (inR a2) ∧ (((V 53 5) ≤ a2 → Q a1 V) ∧ (a2 < (V 53 5) → (0 ≤ ((7 * a2) + 2) ∧ ((7 * a2) + 2) < 56) ∧ m12_struckMany_L4  Q n (a1 + (V 56 (((7 * a2) + 2)).toNat)) (a2 + 1) V))
def m12_struckMany  (V : zV)  (Q : Int → zV → Prop) : Prop :=
  ∃ nn11, m12_struckMany_L4  Q nn11 0 0 V
def t12_struckMany : zT := fun as S V post => ∃ (Q : Int → zV → Prop), as = [zR 53] ∧ PSm S ∧ m12_struckMany V Q ∧ (∀ r V2, Q r V2 → post (some (zI r)) S V2)
set_option maxHeartbeats 4000000 in
set_option maxRecDepth 20000 in
theorem c12_struckMany (l : Launch) : zCT l yX12_struckMany cX12_struckMany 3 (some .int) { frames := 0, cells := 0, slots := 0, locals := 0 } t12_struckMany := by
  refine zCT_of (by decide) (fun as S V post h => by obtain ⟨Q, rfl, -⟩ := h; exact Nat.le_of_ble_eq_true rfl) ?_
  intro X S V as post C E hT
  obtain ⟨Q, rfl, hM, hK, hpost⟩ := hT
  obtain ⟨w_53, r_53, h_53, g_53_0, g_53_2, g_53_7, g_53_8, g_53_10, g_53_11, g_53_12, g_53_13, g_53_14, g_53_16, g_53_21, g_53_22, g_53_23, g_53_24⟩ := PSm_53 hM
  obtain ⟨r_56, h_56⟩ := PSm_56 hM
  show zW X S V 0 0 [some (zR 53), none, none] [] 0
  unfold m12_struckMany at hK
  have L4 : ∀ (n : Nat) (a1 : Int) (a2 : Int) (V : zV), m12_struckMany_L4  Q n a1 a2 V → zW X S V 0 0 [some (zR 53), some (zI a1), some (zI a2)] [] 4 := by
    intro n4
    induction n4 with
    | zero => intro _ _ _ hK; exact hK.elim
    | succ n4 ih4 =>
      intro a1 a2 V hK
      unfold m12_struckMany_L4 at hK
      refine a_iload_n C dX12_struckMany_4 rfl ?_
      refine a_aload_n C dX12_struckMany_5 rfl ?_
      refine a_getI C fl_X12_91_12 h_53 rfl dX12_struckMany_6 (fun r6 => ?_)
      obtain ⟨q7, hK⟩ := hK
      refine a_icmp_ge C 32 dX12_struckMany_9 (by decide) ⟨q7, r6⟩ (fun q8 => ?_) (fun q8 => ?_)
      · replace hK := hK.1 q8
        refine a_iload_n C dX12_struckMany_32 rfl ?_
        exact a_iret C E dX12_struckMany_33 (Nat.le_refl _) (Nat.le_refl _) (hpost _ _ hK)
      · replace hK := hK.2 q8
        refine a_iload_n C dX12_struckMany_12 rfl ?_
        refine a_aload_n C dX12_struckMany_13 rfl ?_
        refine a_getR C fl_X12_16_12 h_53 rfl g_53_7 dX12_struckMany_14 ?_
        refine a_bipush C dX12_struckMany_17 (by decide) ?_
        refine a_iload_n C dX12_struckMany_19 rfl ?_
        refine a_imul C dX12_struckMany_20 ?_
        refine a_iconst C dX12_struckMany_21 ?_
        refine a_iadd C dX12_struckMany_22 ?_
        obtain ⟨q9, hK⟩ := hK
        refine a_iald C h_56 dX12_struckMany_23 (by decide) q9 (fun r10 => ?_)
        refine a_iadd C dX12_struckMany_24 ?_
        refine a_istore_n C dX12_struckMany_25 (Nat.le_of_ble_eq_true rfl) ?_
        refine a_iinc C dX12_struckMany_26 rfl (Nat.le_of_ble_eq_true rfl) ?_
        refine a_goto C 4 dX12_struckMany_29 (by decide) ?_
        exact a_ls (lsub_s rfl (lsub_s rfl (lsub_s rfl lsub_0))) (ih4 (a1 + (V 56 (((7 * a2) + 2)).toNat)) (a2 + 1) _ hK)
  refine a_iconst C dX12_struckMany_0 ?_
  refine a_istore_n C dX12_struckMany_1 (Nat.le_of_ble_eq_true rfl) ?_
  refine a_iconst C dX12_struckMany_2 ?_
  refine a_istore_n C dX12_struckMany_3 (Nat.le_of_ble_eq_true rfl) ?_
  obtain ⟨nn11, hK⟩ := hK
  exact a_ls (lsub_s rfl (lsub_s rfl (lsub_s rfl lsub_0))) (L4 nn11 0 0 _ hK)

def m12_peace_J99  (Q : Int → zV → Prop) (a1 : Int) (s0 : Int) (s1 : Int) (V : zV) : Prop :=
  (inR s1) ∧ (inR s0) ∧ ((s1 ≤ s0 → (0 ≤ ((7 * a1) + 2) ∧ ((7 * a1) + 2) < 56) ∧ (0 ≤ ((7 * a1) + 3) ∧ ((7 * a1) + 3) < 56) ∧ (0 ≤ ((7 * a1) + 4) ∧ ((7 * a1) + 4) < 56) ∧ m12_struckMany (vset (vset (vset V 56 (((7 * a1) + 2)).toNat 1) 56 (((7 * a1) + 3)).toNat (-1)) 56 (((7 * a1) + 4)).toNat (-1)) (fun r142 V142 => Q r142 V142)) ∧ (s0 < s1 → Q (-103) V))
def m12_peace_J41 (k18 : Int → Int → Int → Int → zV → Prop) (Q : Int → zV → Prop) (a1 : Int) (a3 : Int) (a4 : Int) (s0 : Int) (s1 : Int) (V : zV) : Prop :=
  m12_borrowerOf V a1 a4 (fun r48 V48 => (inR r48) ∧ ((¬ r48 = (-1) → k18 a1 (s1 + s0) (a3 + 1) (a4 + 1) V48) ∧ (r48 = (-1) → k18 a1 (s1 + s0) (a3 + 0) (a4 + 1) V48)))
def m12_peace_L18  (Q : Int → zV → Prop) : Nat → Int → Int → Int → Int → zV → Prop
  | 0 => fun _ _ _ _ _ => False
  | n + 1 => fun a1 a2 a3 a4 V => (inR a4) ∧ ((2 ≤ a4 → m12_isStruck V a1 (fun r70 V70 => (inR r70) ∧ ((¬ r70 = 0 → Q (-103) V70) ∧ (r70 = 0 → (inR a3) ∧ ((0 < a3 → Q (-103) V70) ∧ (a3 ≤ 0 → (0 ≤ (7 * a1) ∧ (7 * a1) < 56) ∧ ((¬ (V70 56 ((7 * a1)).toNat) = 2 → m12_peace_J99  Q a1 0 a2 V70) ∧ ((V70 56 ((7 * a1)).toNat) = 2 → m12_peace_J99  Q a1 1 a2 V70)))))))) ∧ (a4 < 2 → m12_ownerOf V a1 a4 (fun r29 V29 => (inR r29) ∧ ((¬ r29 = (-1) → m12_peace_J41 (m12_peace_L18  Q n) Q a1 a3 a4 0 a2 V29) ∧ (r29 = (-1) → m12_peace_J41 (m12_peace_L18  Q n) Q a1 a3 a4 1 a2 V29)))))
def m12_peace  (V : zV) (a1 : Int) (Q : Int → zV → Prop) : Prop :=
  m12_isFeud V a1 (fun r2 V2 => (inR r2) ∧ ((¬ r2 = 0 → ∃ nn57, m12_peace_L18  Q nn57 a1 0 0 0 V2) ∧ (r2 = 0 → Q (-101) V2)))
def t12_peace : zT := fun as S V post => ∃ (a1 : Int) (Q : Int → zV → Prop), as = [zR 53, zI a1] ∧ PSm S ∧ m12_peace V a1 Q ∧ (∀ r V2, Q r V2 → post (some (zI r)) S V2)
set_option maxHeartbeats 4000000 in
set_option maxRecDepth 20000 in
theorem c12_peace (l : Launch) : zCT l yX12_peace cX12_peace 5 (some .int) { frames := 2, cells := 0, slots := 0, locals := 46 } t12_peace := by
  refine zCT_of (by decide) (fun as S V post h => by obtain ⟨a1, Q, rfl, -⟩ := h; exact Nat.le_of_ble_eq_true rfl) ?_
  intro X S V as post C E hT
  obtain ⟨a1, Q, rfl, hM, hK, hpost⟩ := hT
  obtain ⟨w_53, r_53, h_53, g_53_0, g_53_2, g_53_7, g_53_8, g_53_10, g_53_11, g_53_12, g_53_13, g_53_14, g_53_16, g_53_21, g_53_22, g_53_23, g_53_24⟩ := PSm_53 hM
  obtain ⟨r_56, h_56⟩ := PSm_56 hM
  show zW X S V 0 0 [some (zR 53), some (zI a1), none, none, none] [] 0
  unfold m12_peace at hK
  refine a_aload_n C dX12_peace_0 rfl ?_
  refine a_iload_n C dX12_peace_1 rfl ?_
  refine a_callV (as := [zI a1]) (rest := []) C 1 (fun l => c12_isFeud l) h_53 ⟨_, _, rfl⟩ (by decide) ml_X12_122 im_X12_isFeud se_X12_isFeud in_X12 co_X12_isFeud (by decide +kernel) rfl ⟨Nat.le_of_ble_eq_true rfl, Nat.le_of_ble_eq_true rfl⟩ (Nat.le_of_ble_eq_true rfl) dX12_peace_2 ⟨Nat.le_of_ble_eq_true rfl, Nat.le_of_ble_eq_true rfl⟩ ?_
  refine ⟨a1, _, rfl, hM, hK, fun r2 V2 hK => ?_⟩
  try dsimp only [Option.toList, List.cons_append, List.nil_append]
  obtain ⟨q1, hK⟩ := hK
  refine a_if_ne C 11 dX12_peace_5 (by decide) q1 (fun q2 => ?_) (fun q2 => ?_)
  · replace hK := hK.1 q2
    have L18 : ∀ (n : Nat) (a1 : Int) (a2 : Int) (a3 : Int) (a4 : Int) (V : zV), m12_peace_L18  Q n a1 a2 a3 a4 V → zW X S V 0 0 [some (zR 53), some (zI a1), some (zI a2), some (zI a3), some (zI a4)] [] 18 := by
      intro n18
      induction n18 with
      | zero => intro _ _ _ _ _ hK; exact hK.elim
      | succ n18 ih18 =>
        intro a1 a2 a3 a4 V hK
        unfold m12_peace_L18 at hK
        refine a_iload C dX12_peace_18 rfl ?_
        refine a_iconst C dX12_peace_20 ?_
        obtain ⟨q30, hK⟩ := hK
        refine a_icmp_ge C 68 dX12_peace_21 (by decide) ⟨q30, ⟨by decide, by decide⟩⟩ (fun q31 => ?_) (fun q31 => ?_)
        · replace hK := hK.1 q31
          refine a_aload_n C dX12_peace_68 rfl ?_
          refine a_iload_n C dX12_peace_69 rfl ?_
          refine a_callV (as := [zI a1]) (rest := []) C 1 (fun l => c12_isStruck l) h_53 ⟨_, _, rfl⟩ (by decide) ml_X12_113 im_X12_isStruck se_X12_isStruck in_X12 co_X12_isStruck (by decide +kernel) rfl ⟨Nat.le_of_ble_eq_true rfl, Nat.le_of_ble_eq_true rfl⟩ (Nat.le_of_ble_eq_true rfl) dX12_peace_70 ⟨Nat.le_of_ble_eq_true rfl, Nat.le_of_ble_eq_true rfl⟩ ?_
          refine ⟨a1, _, rfl, hM, hK, fun r70 V70 hK => ?_⟩
          try dsimp only [Option.toList, List.cons_append, List.nil_append]
          obtain ⟨q32, hK⟩ := hK
          refine a_if_ne C 102 dX12_peace_73 (by decide) q32 (fun q33 => ?_) (fun q33 => ?_)
          · replace hK := hK.1 q33
            refine a_bipush C dX12_peace_102 (by decide) ?_
            exact a_iret C E dX12_peace_104 (Nat.le_refl _) (Nat.le_refl _) (hpost _ _ hK)
          · replace hK := hK.2 q33
            refine a_iload_n C dX12_peace_76 rfl ?_
            obtain ⟨q34, hK⟩ := hK
            refine a_if_gt C 102 dX12_peace_77 (by decide) q34 (fun q35 => ?_) (fun q35 => ?_)
            · replace hK := hK.1 q35
              refine a_bipush C dX12_peace_102 (by decide) ?_
              exact a_iret C E dX12_peace_104 (Nat.le_refl _) (Nat.le_refl _) (hpost _ _ hK)
            · replace hK := hK.2 q35
              have J99 : ∀ (a1 : Int) (s0 : Int) (s1 : Int) (V : zV), m12_peace_J99  Q a1 s0 s1 V → zW X S V 0 0 [some (zR 53), some (zI a1), none, none, none] [zI s0, zI s1] 99 := by
                intro a1 s0 s1 V hK
                unfold m12_peace_J99 at hK
                obtain ⟨q42, hK⟩ := hK
                obtain ⟨q43, hK⟩ := hK
                refine a_icmp_le C 105 dX12_peace_99 (by decide) ⟨q42, q43⟩ (fun q44 => ?_) (fun q44 => ?_)
                · replace hK := hK.1 q44
                  refine a_aload_n C dX12_peace_105 rfl ?_
                  refine a_getR C fl_X12_16_12 h_53 rfl g_53_7 dX12_peace_106 ?_
                  refine a_bipush C dX12_peace_109 (by decide) ?_
                  refine a_iload_n C dX12_peace_111 rfl ?_
                  refine a_imul C dX12_peace_112 ?_
                  refine a_iconst C dX12_peace_113 ?_
                  refine a_iadd C dX12_peace_114 ?_
                  refine a_iconst C dX12_peace_115 ?_
                  obtain ⟨q45, hK⟩ := hK
                  refine a_iast C h_56 dX12_peace_116 (by decide) ⟨q45, ⟨by decide, by decide⟩⟩ ?_
                  refine a_aload_n C dX12_peace_117 rfl ?_
                  refine a_getR C fl_X12_16_12 h_53 rfl g_53_7 dX12_peace_118 ?_
                  refine a_bipush C dX12_peace_121 (by decide) ?_
                  refine a_iload_n C dX12_peace_123 rfl ?_
                  refine a_imul C dX12_peace_124 ?_
                  refine a_iconst C dX12_peace_125 ?_
                  refine a_iadd C dX12_peace_126 ?_
                  refine a_iconst C dX12_peace_127 ?_
                  obtain ⟨q46, hK⟩ := hK
                  refine a_iast C h_56 dX12_peace_128 (by decide) ⟨q46, ⟨by decide, by decide⟩⟩ ?_
                  refine a_aload_n C dX12_peace_129 rfl ?_
                  refine a_getR C fl_X12_16_12 h_53 rfl g_53_7 dX12_peace_130 ?_
                  refine a_bipush C dX12_peace_133 (by decide) ?_
                  refine a_iload_n C dX12_peace_135 rfl ?_
                  refine a_imul C dX12_peace_136 ?_
                  refine a_iconst C dX12_peace_137 ?_
                  refine a_iadd C dX12_peace_138 ?_
                  refine a_iconst C dX12_peace_139 ?_
                  obtain ⟨q47, hK⟩ := hK
                  refine a_iast C h_56 dX12_peace_140 (by decide) ⟨q47, ⟨by decide, by decide⟩⟩ ?_
                  refine a_aload_n C dX12_peace_141 rfl ?_
                  refine a_callV (as := []) (rest := []) C 0 (fun l => c12_struckMany l) h_53 ⟨_, _, rfl⟩ (by decide) ml_X12_161 im_X12_struckMany se_X12_struckMany in_X12 co_X12_struckMany (by decide +kernel) rfl ⟨Nat.le_of_ble_eq_true rfl, Nat.le_of_ble_eq_true rfl⟩ (Nat.le_of_ble_eq_true rfl) dX12_peace_142 ⟨Nat.le_of_ble_eq_true rfl, Nat.le_of_ble_eq_true rfl⟩ ?_
                  refine ⟨_, rfl, hM, hK, fun r142 V142 hK => ?_⟩
                  try dsimp only [Option.toList, List.cons_append, List.nil_append]
                  exact a_iret C E dX12_peace_145 (Nat.le_refl _) (Nat.le_refl _) (hpost _ _ hK)
                · replace hK := hK.2 q44
                  refine a_bipush C dX12_peace_102 (by decide) ?_
                  exact a_iret C E dX12_peace_104 (Nat.le_refl _) (Nat.le_refl _) (hpost _ _ hK)
              refine a_iload_n C dX12_peace_80 rfl ?_
              refine a_aload_n C dX12_peace_81 rfl ?_
              refine a_getR C fl_X12_16_12 h_53 rfl g_53_7 dX12_peace_82 ?_
              refine a_bipush C dX12_peace_85 (by decide) ?_
              refine a_iload_n C dX12_peace_87 rfl ?_
              refine a_imul C dX12_peace_88 ?_
              obtain ⟨q48, hK⟩ := hK
              refine a_iald C h_56 dX12_peace_89 (by decide) q48 (fun r49 => ?_)
              refine a_iconst C dX12_peace_90 ?_
              refine a_icmp_ne C 98 dX12_peace_91 (by decide) ⟨r49, ⟨by decide, by decide⟩⟩ (fun q50 => ?_) (fun q50 => ?_)
              · replace hK := hK.1 q50
                refine a_iconst C dX12_peace_98 ?_
                exact a_ls (lsub_s rfl (lsub_s rfl (lsub_n (lsub_n (lsub_n lsub_0))))) (J99 a1 0 a2 _ hK)
              · replace hK := hK.2 q50
                refine a_iconst C dX12_peace_94 ?_
                refine a_goto C 99 dX12_peace_95 (by decide) ?_
                exact a_ls (lsub_s rfl (lsub_s rfl (lsub_n (lsub_n (lsub_n lsub_0))))) (J99 a1 1 a2 _ hK)
        · replace hK := hK.2 q31
          have J41 : ∀ (a1 : Int) (a3 : Int) (a4 : Int) (s0 : Int) (s1 : Int) (V : zV), m12_peace_J41 (m12_peace_L18  Q n18) Q a1 a3 a4 s0 s1 V → zW X S V 0 0 [some (zR 53), some (zI a1), none, some (zI a3), some (zI a4)] [zI s0, zI s1] 41 := by
            intro a1 a3 a4 s0 s1 V hK
            unfold m12_peace_J41 at hK
            refine a_iadd C dX12_peace_41 ?_
            refine a_istore_n C dX12_peace_42 (Nat.le_of_ble_eq_true rfl) ?_
            refine a_iload_n C dX12_peace_43 rfl ?_
            refine a_aload_n C dX12_peace_44 rfl ?_
            refine a_iload_n C dX12_peace_45 rfl ?_
            refine a_iload C dX12_peace_46 rfl ?_
            refine a_callV (as := [zI a1, zI a4]) (rest := [zI a3]) C 2 (fun l => c12_borrowerOf l) h_53 ⟨_, _, rfl⟩ (by decide) ml_X12_106 im_X12_borrowerOf se_X12_borrowerOf in_X12 co_X12_borrowerOf (by decide +kernel) rfl ⟨Nat.le_of_ble_eq_true rfl, Nat.le_of_ble_eq_true rfl⟩ (Nat.le_of_ble_eq_true rfl) dX12_peace_48 ⟨Nat.le_of_ble_eq_true rfl, Nat.le_of_ble_eq_true rfl⟩ ?_
            refine ⟨a1, a4, _, rfl, hM, hK, fun r48 V48 hK => ?_⟩
            try dsimp only [Option.toList, List.cons_append, List.nil_append]
            refine a_iconst C dX12_peace_51 ?_
            obtain ⟨q53, hK⟩ := hK
            refine a_icmp_ne C 59 dX12_peace_52 (by decide) ⟨q53, ⟨by decide, by decide⟩⟩ (fun q54 => ?_) (fun q54 => ?_)
            · replace hK := hK.1 q54
              refine a_iconst C dX12_peace_59 ?_
              refine a_iadd C dX12_peace_60 ?_
              refine a_istore_n C dX12_peace_61 (Nat.le_of_ble_eq_true rfl) ?_
              refine a_iinc C dX12_peace_62 rfl (Nat.le_of_ble_eq_true rfl) ?_
              refine a_goto C 18 dX12_peace_65 (by decide) ?_
              exact a_ls (lsub_s rfl (lsub_s rfl (lsub_s rfl (lsub_s rfl (lsub_s rfl lsub_0))))) (ih18 a1 (s1 + s0) (a3 + 1) (a4 + 1) _ hK)
            · replace hK := hK.2 q54
              refine a_iconst C dX12_peace_55 ?_
              refine a_goto C 60 dX12_peace_56 (by decide) ?_
              refine a_iadd C dX12_peace_60 ?_
              refine a_istore_n C dX12_peace_61 (Nat.le_of_ble_eq_true rfl) ?_
              refine a_iinc C dX12_peace_62 rfl (Nat.le_of_ble_eq_true rfl) ?_
              refine a_goto C 18 dX12_peace_65 (by decide) ?_
              exact a_ls (lsub_s rfl (lsub_s rfl (lsub_s rfl (lsub_s rfl (lsub_s rfl lsub_0))))) (ih18 a1 (s1 + s0) (a3 + 0) (a4 + 1) _ hK)
          refine a_iload_n C dX12_peace_24 rfl ?_
          refine a_aload_n C dX12_peace_25 rfl ?_
          refine a_iload_n C dX12_peace_26 rfl ?_
          refine a_iload C dX12_peace_27 rfl ?_
          refine a_callV (as := [zI a1, zI a4]) (rest := [zI a2]) C 2 (fun l => c12_ownerOf l) h_53 ⟨_, _, rfl⟩ (by decide) ml_X12_110 im_X12_ownerOf se_X12_ownerOf in_X12 co_X12_ownerOf (by decide +kernel) rfl ⟨Nat.le_of_ble_eq_true rfl, Nat.le_of_ble_eq_true rfl⟩ (Nat.le_of_ble_eq_true rfl) dX12_peace_29 ⟨Nat.le_of_ble_eq_true rfl, Nat.le_of_ble_eq_true rfl⟩ ?_
          refine ⟨a1, a4, _, rfl, hM, hK, fun r29 V29 hK => ?_⟩
          try dsimp only [Option.toList, List.cons_append, List.nil_append]
          refine a_iconst C dX12_peace_32 ?_
          obtain ⟨q55, hK⟩ := hK
          refine a_icmp_ne C 40 dX12_peace_33 (by decide) ⟨q55, ⟨by decide, by decide⟩⟩ (fun q56 => ?_) (fun q56 => ?_)
          · replace hK := hK.1 q56
            refine a_iconst C dX12_peace_40 ?_
            exact a_ls (lsub_s rfl (lsub_s rfl (lsub_n (lsub_s rfl (lsub_s rfl lsub_0))))) (J41 a1 a3 a4 0 a2 _ hK)
          · replace hK := hK.2 q56
            refine a_iconst C dX12_peace_36 ?_
            refine a_goto C 41 dX12_peace_37 (by decide) ?_
            exact a_ls (lsub_s rfl (lsub_s rfl (lsub_n (lsub_s rfl (lsub_s rfl lsub_0))))) (J41 a1 a3 a4 1 a2 _ hK)
    refine a_iconst C dX12_peace_11 ?_
    refine a_istore_n C dX12_peace_12 (Nat.le_of_ble_eq_true rfl) ?_
    refine a_iconst C dX12_peace_13 ?_
    refine a_istore_n C dX12_peace_14 (Nat.le_of_ble_eq_true rfl) ?_
    refine a_iconst C dX12_peace_15 ?_
    refine a_istore C dX12_peace_16 (Nat.le_of_ble_eq_true rfl) ?_
    obtain ⟨nn57, hK⟩ := hK
    exact a_ls (lsub_s rfl (lsub_s rfl (lsub_s rfl (lsub_s rfl (lsub_s rfl lsub_0))))) (L18 nn57 a1 0 0 0 _ hK)
  · replace hK := hK.2 q2
    refine a_bipush C dX12_peace_8 (by decide) ?_
    exact a_iret C E dX12_peace_10 (Nat.le_refl _) (Nat.le_refl _) (hpost _ _ hK)

def m12_heirOf_J56  (Q : Int → zV → Prop) (a2 : Int) (a3 : Int) (V : zV) : Prop :=
  (inR a3) ∧ ((a3 = (-1) → Q (-1) V) ∧ (¬ a3 = (-1) → (inR (zand (zshr a2 a3) 1)) ∧ ((¬ (zand (zshr a2 a3) 1) = 1 → Q a3 V) ∧ ((zand (zshr a2 a3) 1) = 1 → Q (-1) V))))
def m12_heirOf_L15  (Q : Int → zV → Prop) : Nat → Int → Int → zV → Prop
  | 0 => fun _ _ _ => False
  | n + 1 => fun a2 a3 V => (inR a3) ∧ ((a3 = (-1) → m12_heirOf_J56  Q a2 a3 V) ∧ (¬ a3 = (-1) → (inR (zand (zshr a2 a3) 1)) ∧ ((¬ (zand (zshr a2 a3) 1) = 0 → m12_heirOf_J56  Q a2 a3 V) ∧ ((zand (zshr a2 a3) 1) = 0 → m12_isAlive V a3 (fun r30 V30 => (inR r30) ∧ ((¬ r30 = 0 → m12_heirOf_J56  Q a2 a3 V30) ∧ (r30 = 0 → (0 ≤ ((3 * a3) + 1) ∧ ((3 * a3) + 1) < 18) ∧ m12_heirOf_L15  Q n (zor a2 (zshl 1 a3)) (V30 57 (((3 * a3) + 1)).toNat) V30)))))))
def m12_heirOf  (V : zV) (a1 : Int) (Q : Int → zV → Prop) : Prop :=
  (0 ≤ ((3 * a1) + 1) ∧ ((3 * a1) + 1) < 18) ∧ ∃ nn35, m12_heirOf_L15  Q nn35 (zshl 1 a1) (V 57 (((3 * a1) + 1)).toNat) V
def t12_heirOf : zT := fun as S V post => ∃ (a1 : Int) (Q : Int → zV → Prop), as = [zR 53, zI a1] ∧ PSm S ∧ m12_heirOf V a1 Q ∧ (∀ r V2, Q r V2 → post (some (zI r)) S V2)
set_option maxHeartbeats 4000000 in
set_option maxRecDepth 20000 in
theorem c12_heirOf (l : Launch) : zCT l yX12_heirOf cX12_heirOf 4 (some .int) { frames := 1, cells := 0, slots := 0, locals := 21 } t12_heirOf := by
  refine zCT_of (by decide) (fun as S V post h => by obtain ⟨a1, Q, rfl, -⟩ := h; exact Nat.le_of_ble_eq_true rfl) ?_
  intro X S V as post C E hT
  obtain ⟨a1, Q, rfl, hM, hK, hpost⟩ := hT
  obtain ⟨w_53, r_53, h_53, g_53_0, g_53_2, g_53_7, g_53_8, g_53_10, g_53_11, g_53_12, g_53_13, g_53_14, g_53_16, g_53_21, g_53_22, g_53_23, g_53_24⟩ := PSm_53 hM
  obtain ⟨r_57, h_57⟩ := PSm_57 hM
  show zW X S V 0 0 [some (zR 53), some (zI a1), none, none] [] 0
  unfold m12_heirOf at hK
  have L15 : ∀ (n : Nat) (a2 : Int) (a3 : Int) (V : zV), m12_heirOf_L15  Q n a2 a3 V → zW X S V 0 0 [some (zR 53), none, some (zI a2), some (zI a3)] [] 15 := by
    intro n15
    induction n15 with
    | zero => intro _ _ _ hK; exact hK.elim
    | succ n15 ih15 =>
      intro a2 a3 V hK
      unfold m12_heirOf_L15 at hK
      have J56 : ∀ (a2 : Int) (a3 : Int) (V : zV), m12_heirOf_J56  Q a2 a3 V → zW X S V 0 0 [none, none, some (zI a2), some (zI a3)] [] 56 := by
        intro a2 a3 V hK
        unfold m12_heirOf_J56 at hK
        refine a_iload_n C dX12_heirOf_56 rfl ?_
        refine a_iconst C dX12_heirOf_57 ?_
        obtain ⟨q21, hK⟩ := hK
        refine a_icmp_eq C 70 dX12_heirOf_58 (by decide) ⟨q21, ⟨by decide, by decide⟩⟩ (fun q22 => ?_) (fun q22 => ?_)
        · replace hK := hK.1 q22
          refine a_iconst C dX12_heirOf_70 ?_
          refine a_goto C 75 dX12_heirOf_71 (by decide) ?_
          exact a_iret C E dX12_heirOf_75 (Nat.le_refl _) (Nat.le_refl _) (hpost _ _ hK)
        · replace hK := hK.2 q22
          refine a_iload_n C dX12_heirOf_61 rfl ?_
          refine a_iload_n C dX12_heirOf_62 rfl ?_
          refine a_ishr C dX12_heirOf_63 ?_
          refine a_iconst C dX12_heirOf_64 ?_
          refine a_iand C dX12_heirOf_65 ?_
          refine a_iconst C dX12_heirOf_66 ?_
          obtain ⟨q23, hK⟩ := hK
          refine a_icmp_ne C 74 dX12_heirOf_67 (by decide) ⟨q23, ⟨by decide, by decide⟩⟩ (fun q24 => ?_) (fun q24 => ?_)
          · replace hK := hK.1 q24
            refine a_iload_n C dX12_heirOf_74 rfl ?_
            exact a_iret C E dX12_heirOf_75 (Nat.le_refl _) (Nat.le_refl _) (hpost _ _ hK)
          · replace hK := hK.2 q24
            refine a_iconst C dX12_heirOf_70 ?_
            refine a_goto C 75 dX12_heirOf_71 (by decide) ?_
            exact a_iret C E dX12_heirOf_75 (Nat.le_refl _) (Nat.le_refl _) (hpost _ _ hK)
      refine a_iload_n C dX12_heirOf_15 rfl ?_
      refine a_iconst C dX12_heirOf_16 ?_
      obtain ⟨q25, hK⟩ := hK
      refine a_icmp_eq C 56 dX12_heirOf_17 (by decide) ⟨q25, ⟨by decide, by decide⟩⟩ (fun q26 => ?_) (fun q26 => ?_)
      · replace hK := hK.1 q26
        exact a_ls (lsub_n (lsub_n (lsub_s rfl (lsub_s rfl lsub_0)))) (J56 a2 a3 _ hK)
      · replace hK := hK.2 q26
        refine a_iload_n C dX12_heirOf_20 rfl ?_
        refine a_iload_n C dX12_heirOf_21 rfl ?_
        refine a_ishr C dX12_heirOf_22 ?_
        refine a_iconst C dX12_heirOf_23 ?_
        refine a_iand C dX12_heirOf_24 ?_
        obtain ⟨q27, hK⟩ := hK
        refine a_if_ne C 56 dX12_heirOf_25 (by decide) q27 (fun q28 => ?_) (fun q28 => ?_)
        · replace hK := hK.1 q28
          exact a_ls (lsub_n (lsub_n (lsub_s rfl (lsub_s rfl lsub_0)))) (J56 a2 a3 _ hK)
        · replace hK := hK.2 q28
          refine a_aload_n C dX12_heirOf_28 rfl ?_
          refine a_iload_n C dX12_heirOf_29 rfl ?_
          refine a_callV (as := [zI a3]) (rest := []) C 1 (fun l => c12_isAlive l) h_53 ⟨_, _, rfl⟩ (by decide) ml_X12_143 im_X12_isAlive se_X12_isAlive in_X12 co_X12_isAlive (by decide +kernel) rfl ⟨Nat.le_of_ble_eq_true rfl, Nat.le_of_ble_eq_true rfl⟩ (Nat.le_of_ble_eq_true rfl) dX12_heirOf_30 ⟨Nat.le_of_ble_eq_true rfl, Nat.le_of_ble_eq_true rfl⟩ ?_
          refine ⟨a3, _, rfl, hM, hK, fun r30 V30 hK => ?_⟩
          try dsimp only [Option.toList, List.cons_append, List.nil_append]
          obtain ⟨q29, hK⟩ := hK
          refine a_if_ne C 56 dX12_heirOf_33 (by decide) q29 (fun q30 => ?_) (fun q30 => ?_)
          · replace hK := hK.1 q30
            exact a_ls (lsub_n (lsub_n (lsub_s rfl (lsub_s rfl lsub_0)))) (J56 a2 a3 _ hK)
          · replace hK := hK.2 q30
            refine a_iload_n C dX12_heirOf_36 rfl ?_
            refine a_iconst C dX12_heirOf_37 ?_
            refine a_iload_n C dX12_heirOf_38 rfl ?_
            refine a_ishl C dX12_heirOf_39 ?_
            refine a_ior C dX12_heirOf_40 ?_
            refine a_istore_n C dX12_heirOf_41 (Nat.le_of_ble_eq_true rfl) ?_
            refine a_aload_n C dX12_heirOf_42 rfl ?_
            refine a_getR C fl_X12_19_12 h_53 rfl g_53_8 dX12_heirOf_43 ?_
            refine a_iconst C dX12_heirOf_46 ?_
            refine a_iload_n C dX12_heirOf_47 rfl ?_
            refine a_imul C dX12_heirOf_48 ?_
            refine a_iconst C dX12_heirOf_49 ?_
            refine a_iadd C dX12_heirOf_50 ?_
            obtain ⟨q31, hK⟩ := hK
            refine a_iald C h_57 dX12_heirOf_51 (by decide) q31 (fun r32 => ?_)
            refine a_istore_n C dX12_heirOf_52 (Nat.le_of_ble_eq_true rfl) ?_
            refine a_goto C 15 dX12_heirOf_53 (by decide) ?_
            exact a_ls (lsub_s rfl (lsub_n (lsub_s rfl (lsub_s rfl lsub_0)))) (ih15 (zor a2 (zshl 1 a3)) (V30 57 (((3 * a3) + 1)).toNat) _ hK)
  refine a_iconst C dX12_heirOf_0 ?_
  refine a_iload_n C dX12_heirOf_1 rfl ?_
  refine a_ishl C dX12_heirOf_2 ?_
  refine a_istore_n C dX12_heirOf_3 (Nat.le_of_ble_eq_true rfl) ?_
  refine a_aload_n C dX12_heirOf_4 rfl ?_
  refine a_getR C fl_X12_19_12 h_53 rfl g_53_8 dX12_heirOf_5 ?_
  refine a_iconst C dX12_heirOf_8 ?_
  refine a_iload_n C dX12_heirOf_9 rfl ?_
  refine a_imul C dX12_heirOf_10 ?_
  refine a_iconst C dX12_heirOf_11 ?_
  refine a_iadd C dX12_heirOf_12 ?_
  obtain ⟨q33, hK⟩ := hK
  refine a_iald C h_57 dX12_heirOf_13 (by decide) q33 (fun r34 => ?_)
  refine a_istore_n C dX12_heirOf_14 (Nat.le_of_ble_eq_true rfl) ?_
  obtain ⟨nn35, hK⟩ := hK
  exact a_ls (lsub_s rfl (lsub_n (lsub_s rfl (lsub_s rfl lsub_0)))) (L15 nn35 (zshl 1 a1) (V 57 (((3 * a1) + 1)).toNat) _ hK)

def m12_died_J244  (Q : Int → zV → Prop) (a1 : Int) (a3 : Int) (V : zV) : Prop :=
  (0 ≤ (3 * a1) ∧ (3 * a1) < 18) ∧ Q a3 (vset V 57 ((3 * a1)).toNat 0)
def m12_died_J191 (k103 : Int → Int → Int → Int → zV → Prop) (Q : Int → zV → Prop) (a1 : Int) (a2 : Int) (a3 : Int) (a4 : Int) (a7 : Int) (s0 : Int) (s1 : Int) (V : zV) : Prop :=
  (0 ≤ s1 ∧ s1 < 56) ∧ (inR s0) ∧ (inR a7) ∧ ((a7 = 0 → k103 a1 a2 (a3 + 0) (a4 + 1) (vset V 56 (s1).toNat s0)) ∧ (¬ a7 = 0 → k103 a1 a2 (a3 + 1) (a4 + 1) (vset V 56 (s1).toNat s0)))
def m12_died_J173 (k103 : Int → Int → Int → Int → zV → Prop) (Q : Int → zV → Prop) (a1 : Int) (a2 : Int) (a3 : Int) (a4 : Int) (a6 : Int) (s0 : Int) (V : zV) : Prop :=
  (inR s0) ∧ ((s0 = 0 → m12_died_J191 (k103) Q a1 a2 a3 a4 s0 (-1) a6 V) ∧ (¬ s0 = 0 → m12_died_J191 (k103) Q a1 a2 a3 a4 s0 a2 a6 V))
def m12_died_L103  (Q : Int → zV → Prop) : Nat → Int → Int → Int → Int → zV → Prop
  | 0 => fun _ _ _ _ _ => False
  | n + 1 => fun a1 a2 a3 a4 V => (inR a4) ∧ (inR (2 * (V 53 5))) ∧ (((2 * (V 53 5)) ≤ a4 → (inR a2) ∧ ((a2 = (-1) → m12_died_J244  Q a1 a3 V) ∧ (¬ a2 = (-1) → (0 ≤ (3 * a2) ∧ (3 * a2) < 18) ∧ (0 ≤ (3 * a1) ∧ (3 * a1) < 18) ∧ m12_capped V ((V 57 ((3 * a2)).toNat) + (V 57 ((3 * a1)).toNat)) (fun r240 V240 => (0 ≤ (3 * a2) ∧ (3 * a2) < 18) ∧ (inR r240) ∧ m12_died_J244  Q a1 a3 (vset V240 57 ((3 * a2)).toNat r240))))) ∧ (a4 < (2 * (V 53 5)) → (0 ≤ a4 ∧ a4 < 2147483648) ∧ (0 ≤ a4 ∧ a4 < 2147483648) ∧ (0 ≤ (((7 * (a4 / 2)) + 3) + (a4 % 2)) ∧ (((7 * (a4 / 2)) + 3) + (a4 % 2)) < 56) ∧ (inR a1) ∧ ((¬ (V 56 ((((7 * (a4 / 2)) + 3) + (a4 % 2))).toNat) = a1 → m12_died_L103  Q n a1 a2 a3 (a4 + 1) V) ∧ ((V 56 ((((7 * (a4 / 2)) + 3) + (a4 % 2))).toNat) = a1 → (0 ≤ (((7 * (a4 / 2)) + 3) + (a4 % 2)) ∧ (((7 * (a4 / 2)) + 3) + (a4 % 2)) < 56) ∧ (inR a2) ∧ ((a2 = (-1) → m12_died_J173 (m12_died_L103  Q n) Q a1 a2 a3 a4 (((7 * (a4 / 2)) + 3) + (a4 % 2)) 0 (vset V 56 ((((7 * (a4 / 2)) + 3) + (a4 % 2))).toNat (-1))) ∧ (¬ a2 = (-1) → m12_hasToDo (vset V 56 ((((7 * (a4 / 2)) + 3) + (a4 % 2))).toNat (-1)) a2 (a4 / 2) (fun r162 V162 => (inR r162) ∧ ((¬ r162 = 0 → m12_died_J173 (m12_died_L103  Q n) Q a1 a2 a3 a4 (((7 * (a4 / 2)) + 3) + (a4 % 2)) 0 V162) ∧ (r162 = 0 → m12_died_J173 (m12_died_L103  Q n) Q a1 a2 a3 a4 (((7 * (a4 / 2)) + 3) + (a4 % 2)) 1 V162)))))))))
def m12_died_J52 (k2 : Int → Int → zV → Prop) (Q : Int → zV → Prop) (a1 : Int) (a2 : Int) (a3 : Int) (s0 : Int) (V : zV) : Prop :=
  (inR s0) ∧ ((s0 = 0 → (0 ≤ a3 ∧ a3 < 56) ∧ (0 ≤ a3 ∧ a3 < 56) ∧ k2 a1 (a2 + 1) (vset V 56 (a3).toNat (V 56 (a3).toNat))) ∧ (¬ s0 = 0 → (0 ≤ a3 ∧ a3 < 56) ∧ k2 a1 (a2 + 1) (vset V 56 (a3).toNat (-1))))
def m12_died_L2  (Q : Int → zV → Prop) : Nat → Int → Int → zV → Prop
  | 0 => fun _ _ _ => False
  | n + 1 => fun a1 a2 V => (inR a2) ∧ (inR (2 * (V 53 5))) ∧ (((2 * (V 53 5)) ≤ a2 → (0 ≤ ((3 * a1) + 2) ∧ ((3 * a1) + 2) < 18) ∧ m12_heirOf (vset V 57 (((3 * a1) + 2)).toNat 0) a1 (fun r94 V94 => ∃ nn96, m12_died_L103  Q nn96 a1 r94 0 0 V94)) ∧ (a2 < (2 * (V 53 5)) → (0 ≤ a2 ∧ a2 < 2147483648) ∧ (0 ≤ a2 ∧ a2 < 2147483648) ∧ (0 ≤ (((7 * (a2 / 2)) + 5) + (a2 % 2)) ∧ (((7 * (a2 / 2)) + 5) + (a2 % 2)) < 56) ∧ (inR a1) ∧ (((V 56 ((((7 * (a2 / 2)) + 5) + (a2 % 2))).toNat) = a1 → m12_died_J52 (m12_died_L2  Q n) Q a1 a2 (((7 * (a2 / 2)) + 5) + (a2 % 2)) 1 V) ∧ (¬ (V 56 ((((7 * (a2 / 2)) + 5) + (a2 % 2))).toNat) = a1 → (0 ≤ ((((7 * (a2 / 2)) + 5) + (a2 % 2)) - 2) ∧ ((((7 * (a2 / 2)) + 5) + (a2 % 2)) - 2) < 56) ∧ ((¬ (V 56 (((((7 * (a2 / 2)) + 5) + (a2 % 2)) - 2)).toNat) = a1 → m12_died_J52 (m12_died_L2  Q n) Q a1 a2 (((7 * (a2 / 2)) + 5) + (a2 % 2)) 0 V) ∧ ((V 56 (((((7 * (a2 / 2)) + 5) + (a2 % 2)) - 2)).toNat) = a1 → m12_died_J52 (m12_died_L2  Q n) Q a1 a2 (((7 * (a2 / 2)) + 5) + (a2 % 2)) 1 V))))))
def m12_died  (V : zV) (a1 : Int) (Q : Int → zV → Prop) : Prop :=
  ∃ nn235, m12_died_L2  Q nn235 a1 0 V
def t12_died : zT := fun as S V post => ∃ (a1 : Int) (Q : Int → zV → Prop), as = [zR 53, zI a1] ∧ PSm S ∧ m12_died V a1 Q ∧ (∀ r V2, Q r V2 → post (some (zI r)) S V2)
set_option maxHeartbeats 4000000 in
set_option maxRecDepth 20000 in
theorem c12_died (l : Launch) : zCT l yX12_died cX12_died 8 (some .int) { frames := 2, cells := 0, slots := 0, locals := 45 } t12_died := by
  refine zCT_of (by decide) (fun as S V post h => by obtain ⟨a1, Q, rfl, -⟩ := h; exact Nat.le_of_ble_eq_true rfl) ?_
  intro X S V as post C E hT
  obtain ⟨a1, Q, rfl, hM, hK, hpost⟩ := hT
  obtain ⟨w_53, r_53, h_53, g_53_0, g_53_2, g_53_7, g_53_8, g_53_10, g_53_11, g_53_12, g_53_13, g_53_14, g_53_16, g_53_21, g_53_22, g_53_23, g_53_24⟩ := PSm_53 hM
  obtain ⟨r_57, h_57⟩ := PSm_57 hM
  obtain ⟨r_56, h_56⟩ := PSm_56 hM
  show zW X S V 0 0 [some (zR 53), some (zI a1), none, none, none, none, none, none] [] 0
  unfold m12_died at hK
  have L2 : ∀ (n : Nat) (a1 : Int) (a2 : Int) (V : zV), m12_died_L2  Q n a1 a2 V → zW X S V 0 0 [some (zR 53), some (zI a1), some (zI a2), none, none, none, none, none] [] 2 := by
    intro n2
    induction n2 with
    | zero => intro _ _ _ hK; exact hK.elim
    | succ n2 ih2 =>
      intro a1 a2 V hK
      unfold m12_died_L2 at hK
      refine a_iload_n C dX12_died_2 rfl ?_
      refine a_iconst C dX12_died_3 ?_
      refine a_aload_n C dX12_died_4 rfl ?_
      refine a_getI C fl_X12_91_12 h_53 rfl dX12_died_5 (fun r118 => ?_)
      refine a_imul C dX12_died_8 ?_
      obtain ⟨q119, hK⟩ := hK
      obtain ⟨q120, hK⟩ := hK
      refine a_icmp_ge C 81 dX12_died_9 (by decide) ⟨q119, q120⟩ (fun q121 => ?_) (fun q121 => ?_)
      · replace hK := hK.1 q121
        have L103 : ∀ (n : Nat) (a1 : Int) (a2 : Int) (a3 : Int) (a4 : Int) (V : zV), m12_died_L103  Q n a1 a2 a3 a4 V → zW X S V 0 0 [some (zR 53), some (zI a1), some (zI a2), some (zI a3), some (zI a4), none, none, none] [] 103 := by
          intro n103
          induction n103 with
          | zero => intro _ _ _ _ _ hK; exact hK.elim
          | succ n103 ih103 =>
            intro a1 a2 a3 a4 V hK
            unfold m12_died_L103 at hK
            refine a_iload C dX12_died_103 rfl ?_
            refine a_iconst C dX12_died_105 ?_
            refine a_aload_n C dX12_died_106 rfl ?_
            refine a_getI C fl_X12_91_12 h_53 rfl dX12_died_107 (fun r167 => ?_)
            refine a_imul C dX12_died_110 ?_
            obtain ⟨q168, hK⟩ := hK
            obtain ⟨q169, hK⟩ := hK
            refine a_icmp_ge C 211 dX12_died_111 (by decide) ⟨q168, q169⟩ (fun q170 => ?_) (fun q170 => ?_)
            · replace hK := hK.1 q170
              have J244 : ∀ (a1 : Int) (a3 : Int) (V : zV), m12_died_J244  Q a1 a3 V → zW X S V 0 0 [some (zR 53), some (zI a1), none, some (zI a3), none, none, none, none] [] 244 := by
                intro a1 a3 V hK
                unfold m12_died_J244 at hK
                refine a_aload_n C dX12_died_244 rfl ?_
                refine a_getR C fl_X12_19_12 h_53 rfl g_53_8 dX12_died_245 ?_
                refine a_iconst C dX12_died_248 ?_
                refine a_iload_n C dX12_died_249 rfl ?_
                refine a_imul C dX12_died_250 ?_
                refine a_iconst C dX12_died_251 ?_
                obtain ⟨q172, hK⟩ := hK
                refine a_iast C h_57 dX12_died_252 (by decide) ⟨q172, ⟨by decide, by decide⟩⟩ ?_
                refine a_iload_n C dX12_died_253 rfl ?_
                exact a_iret C E dX12_died_254 (Nat.le_refl _) (Nat.le_refl _) (hpost _ _ hK)
              refine a_iload_n C dX12_died_211 rfl ?_
              refine a_iconst C dX12_died_212 ?_
              obtain ⟨q173, hK⟩ := hK
              refine a_icmp_eq C 244 dX12_died_213 (by decide) ⟨q173, ⟨by decide, by decide⟩⟩ (fun q174 => ?_) (fun q174 => ?_)
              · replace hK := hK.1 q174
                exact a_ls (lsub_s rfl (lsub_s rfl (lsub_n (lsub_s rfl (lsub_n (lsub_n (lsub_n (lsub_n lsub_0)))))))) (J244 a1 a3 _ hK)
              · replace hK := hK.2 q174
                refine a_aload_n C dX12_died_216 rfl ?_
                refine a_getR C fl_X12_19_12 h_53 rfl g_53_8 dX12_died_217 ?_
                refine a_iconst C dX12_died_220 ?_
                refine a_iload_n C dX12_died_221 rfl ?_
                refine a_imul C dX12_died_222 ?_
                refine a_aload_n C dX12_died_223 rfl ?_
                refine a_getR C fl_X12_19_12 h_53 rfl g_53_8 dX12_died_224 ?_
                refine a_iconst C dX12_died_227 ?_
                refine a_iload_n C dX12_died_228 rfl ?_
                refine a_imul C dX12_died_229 ?_
                obtain ⟨q175, hK⟩ := hK
                refine a_iald C h_57 dX12_died_230 (by decide) q175 (fun r176 => ?_)
                refine a_aload_n C dX12_died_231 rfl ?_
                refine a_getR C fl_X12_19_12 h_53 rfl g_53_8 dX12_died_232 ?_
                refine a_iconst C dX12_died_235 ?_
                refine a_iload_n C dX12_died_236 rfl ?_
                refine a_imul C dX12_died_237 ?_
                obtain ⟨q177, hK⟩ := hK
                refine a_iald C h_57 dX12_died_238 (by decide) q177 (fun r178 => ?_)
                refine a_iadd C dX12_died_239 ?_
                refine a_callS (as := [zI ((V 57 ((3 * a2)).toNat) + (V 57 ((3 * a1)).toNat))]) (rest := [zI (3 * a2), zR 57]) C 1 (fun l => c12_capped l) ml_X12_150 sa_X12_capped in_X12 co_X12_capped (by decide +kernel) rfl ⟨Nat.le_of_ble_eq_true rfl, Nat.le_of_ble_eq_true rfl⟩ (Nat.le_of_ble_eq_true rfl) dX12_died_240 ⟨Nat.le_of_ble_eq_true rfl, Nat.le_of_ble_eq_true rfl⟩ ?_
                refine ⟨((V 57 ((3 * a2)).toNat) + (V 57 ((3 * a1)).toNat)), _, rfl, hK, fun r240 V240 hK => ?_⟩
                try dsimp only [Option.toList, List.cons_append, List.nil_append]
                obtain ⟨q179, hK⟩ := hK
                obtain ⟨q180, hK⟩ := hK
                refine a_iast C h_57 dX12_died_243 (by decide) ⟨q179, q180⟩ ?_
                exact a_ls (lsub_s rfl (lsub_s rfl (lsub_n (lsub_s rfl (lsub_n (lsub_n (lsub_n (lsub_n lsub_0)))))))) (J244 a1 a3 _ hK)
            · replace hK := hK.2 q170
              refine a_iload C dX12_died_114 rfl ?_
              refine a_iconst C dX12_died_116 ?_
              obtain ⟨q181, hK⟩ := hK
              refine a_idiv C dX12_died_117 ⟨q181, by decide, by decide⟩ ?_
              refine a_istore C dX12_died_118 (Nat.le_of_ble_eq_true rfl) ?_
              refine a_bipush C dX12_died_120 (by decide) ?_
              refine a_iload C dX12_died_122 rfl ?_
              refine a_imul C dX12_died_124 ?_
              refine a_iconst C dX12_died_125 ?_
              refine a_iadd C dX12_died_126 ?_
              refine a_iload C dX12_died_127 rfl ?_
              refine a_iconst C dX12_died_129 ?_
              obtain ⟨q182, hK⟩ := hK
              refine a_irem C dX12_died_130 ⟨q182, by decide, by decide⟩ ?_
              refine a_iadd C dX12_died_131 ?_
              refine a_istore C dX12_died_132 (Nat.le_of_ble_eq_true rfl) ?_
              refine a_aload_n C dX12_died_134 rfl ?_
              refine a_getR C fl_X12_16_12 h_53 rfl g_53_7 dX12_died_135 ?_
              refine a_iload C dX12_died_138 rfl ?_
              obtain ⟨q183, hK⟩ := hK
              refine a_iald C h_56 dX12_died_140 (by decide) q183 (fun r184 => ?_)
              refine a_iload_n C dX12_died_141 rfl ?_
              obtain ⟨q185, hK⟩ := hK
              refine a_icmp_ne C 205 dX12_died_142 (by decide) ⟨r184, q185⟩ (fun q186 => ?_) (fun q186 => ?_)
              · replace hK := hK.1 q186
                refine a_iinc C dX12_died_205 rfl (Nat.le_of_ble_eq_true rfl) ?_
                refine a_goto C 103 dX12_died_208 (by decide) ?_
                exact a_ls (lsub_s rfl (lsub_s rfl (lsub_s rfl (lsub_s rfl (lsub_s rfl (lsub_n (lsub_n (lsub_n lsub_0)))))))) (ih103 a1 a2 a3 (a4 + 1) _ hK)
              · replace hK := hK.2 q186
                have J173 : ∀ (a1 : Int) (a2 : Int) (a3 : Int) (a4 : Int) (a6 : Int) (s0 : Int) (V : zV), m12_died_J173 (m12_died_L103  Q n103) Q a1 a2 a3 a4 a6 s0 V → zW X S V 0 0 [some (zR 53), some (zI a1), some (zI a2), some (zI a3), some (zI a4), none, some (zI a6), none] [zI s0] 173 := by
                  intro a1 a2 a3 a4 a6 s0 V hK
                  unfold m12_died_J173 at hK
                  have J191 : ∀ (a1 : Int) (a2 : Int) (a3 : Int) (a4 : Int) (a7 : Int) (s0 : Int) (s1 : Int) (V : zV), m12_died_J191 (m12_died_L103  Q n103) Q a1 a2 a3 a4 a7 s0 s1 V → zW X S V 0 0 [some (zR 53), some (zI a1), some (zI a2), some (zI a3), some (zI a4), none, none, some (zI a7)] [zI s0, zI s1, zR 56] 191 := by
                    intro a1 a2 a3 a4 a7 s0 s1 V hK
                    unfold m12_died_J191 at hK
                    obtain ⟨q201, hK⟩ := hK
                    obtain ⟨q202, hK⟩ := hK
                    refine a_iast C h_56 dX12_died_191 (by decide) ⟨q201, q202⟩ ?_
                    refine a_iload_n C dX12_died_192 rfl ?_
                    refine a_iload C dX12_died_193 rfl ?_
                    obtain ⟨q203, hK⟩ := hK
                    refine a_if_eq C 202 dX12_died_195 (by decide) q203 (fun q204 => ?_) (fun q204 => ?_)
                    · replace hK := hK.1 q204
                      refine a_iconst C dX12_died_202 ?_
                      refine a_iadd C dX12_died_203 ?_
                      refine a_istore_n C dX12_died_204 (Nat.le_of_ble_eq_true rfl) ?_
                      refine a_iinc C dX12_died_205 rfl (Nat.le_of_ble_eq_true rfl) ?_
                      refine a_goto C 103 dX12_died_208 (by decide) ?_
                      exact a_ls (lsub_s rfl (lsub_s rfl (lsub_s rfl (lsub_s rfl (lsub_s rfl (lsub_n (lsub_n (lsub_n lsub_0)))))))) (ih103 a1 a2 (a3 + 0) (a4 + 1) _ hK)
                    · replace hK := hK.2 q204
                      refine a_iconst C dX12_died_198 ?_
                      refine a_goto C 203 dX12_died_199 (by decide) ?_
                      refine a_iadd C dX12_died_203 ?_
                      refine a_istore_n C dX12_died_204 (Nat.le_of_ble_eq_true rfl) ?_
                      refine a_iinc C dX12_died_205 rfl (Nat.le_of_ble_eq_true rfl) ?_
                      refine a_goto C 103 dX12_died_208 (by decide) ?_
                      exact a_ls (lsub_s rfl (lsub_s rfl (lsub_s rfl (lsub_s rfl (lsub_s rfl (lsub_n (lsub_n (lsub_n lsub_0)))))))) (ih103 a1 a2 (a3 + 1) (a4 + 1) _ hK)
                  refine a_istore C dX12_died_173 (Nat.le_of_ble_eq_true rfl) ?_
                  refine a_aload_n C dX12_died_175 rfl ?_
                  refine a_getR C fl_X12_16_12 h_53 rfl g_53_7 dX12_died_176 ?_
                  refine a_iload C dX12_died_179 rfl ?_
                  refine a_iload C dX12_died_181 rfl ?_
                  obtain ⟨q205, hK⟩ := hK
                  refine a_if_eq C 190 dX12_died_183 (by decide) q205 (fun q206 => ?_) (fun q206 => ?_)
                  · replace hK := hK.1 q206
                    refine a_iconst C dX12_died_190 ?_
                    exact a_ls (lsub_s rfl (lsub_s rfl (lsub_s rfl (lsub_s rfl (lsub_s rfl (lsub_n (lsub_n (lsub_s rfl lsub_0)))))))) (J191 a1 a2 a3 a4 s0 (-1) a6 _ hK)
                  · replace hK := hK.2 q206
                    refine a_iload_n C dX12_died_186 rfl ?_
                    refine a_goto C 191 dX12_died_187 (by decide) ?_
                    exact a_ls (lsub_s rfl (lsub_s rfl (lsub_s rfl (lsub_s rfl (lsub_s rfl (lsub_n (lsub_n (lsub_s rfl lsub_0)))))))) (J191 a1 a2 a3 a4 s0 a2 a6 _ hK)
                refine a_aload_n C dX12_died_145 rfl ?_
                refine a_getR C fl_X12_16_12 h_53 rfl g_53_7 dX12_died_146 ?_
                refine a_iload C dX12_died_149 rfl ?_
                refine a_iconst C dX12_died_151 ?_
                obtain ⟨q207, hK⟩ := hK
                refine a_iast C h_56 dX12_died_152 (by decide) ⟨q207, ⟨by decide, by decide⟩⟩ ?_
                refine a_iload_n C dX12_died_153 rfl ?_
                refine a_iconst C dX12_died_154 ?_
                obtain ⟨q208, hK⟩ := hK
                refine a_icmp_eq C 172 dX12_died_155 (by decide) ⟨q208, ⟨by decide, by decide⟩⟩ (fun q209 => ?_) (fun q209 => ?_)
                · replace hK := hK.1 q209
                  refine a_iconst C dX12_died_172 ?_
                  exact a_ls (lsub_s rfl (lsub_s rfl (lsub_s rfl (lsub_s rfl (lsub_s rfl (lsub_n (lsub_s rfl (lsub_n lsub_0)))))))) (J173 a1 a2 a3 a4 (((7 * (a4 / 2)) + 3) + (a4 % 2)) 0 _ hK)
                · replace hK := hK.2 q209
                  refine a_aload_n C dX12_died_158 rfl ?_
                  refine a_iload_n C dX12_died_159 rfl ?_
                  refine a_iload C dX12_died_160 rfl ?_
                  refine a_callV (as := [zI a2, zI (a4 / 2)]) (rest := []) C 2 (fun l => c12_hasToDo l) h_53 ⟨_, _, rfl⟩ (by decide) ml_X12_146 im_X12_hasToDo se_X12_hasToDo in_X12 co_X12_hasToDo (by decide +kernel) rfl ⟨Nat.le_of_ble_eq_true rfl, Nat.le_of_ble_eq_true rfl⟩ (Nat.le_of_ble_eq_true rfl) dX12_died_162 ⟨Nat.le_of_ble_eq_true rfl, Nat.le_of_ble_eq_true rfl⟩ ?_
                  refine ⟨a2, (a4 / 2), _, rfl, hM, hK, fun r162 V162 hK => ?_⟩
                  try dsimp only [Option.toList, List.cons_append, List.nil_append]
                  obtain ⟨q210, hK⟩ := hK
                  refine a_if_ne C 172 dX12_died_165 (by decide) q210 (fun q211 => ?_) (fun q211 => ?_)
                  · replace hK := hK.1 q211
                    refine a_iconst C dX12_died_172 ?_
                    exact a_ls (lsub_s rfl (lsub_s rfl (lsub_s rfl (lsub_s rfl (lsub_s rfl (lsub_n (lsub_s rfl (lsub_n lsub_0)))))))) (J173 a1 a2 a3 a4 (((7 * (a4 / 2)) + 3) + (a4 % 2)) 0 _ hK)
                  · replace hK := hK.2 q211
                    refine a_iconst C dX12_died_168 ?_
                    refine a_goto C 173 dX12_died_169 (by decide) ?_
                    exact a_ls (lsub_s rfl (lsub_s rfl (lsub_s rfl (lsub_s rfl (lsub_s rfl (lsub_n (lsub_s rfl (lsub_n lsub_0)))))))) (J173 a1 a2 a3 a4 (((7 * (a4 / 2)) + 3) + (a4 % 2)) 1 _ hK)
        refine a_aload_n C dX12_died_81 rfl ?_
        refine a_getR C fl_X12_19_12 h_53 rfl g_53_8 dX12_died_82 ?_
        refine a_iconst C dX12_died_85 ?_
        refine a_iload_n C dX12_died_86 rfl ?_
        refine a_imul C dX12_died_87 ?_
        refine a_iconst C dX12_died_88 ?_
        refine a_iadd C dX12_died_89 ?_
        refine a_iconst C dX12_died_90 ?_
        obtain ⟨q212, hK⟩ := hK
        refine a_iast C h_57 dX12_died_91 (by decide) ⟨q212, ⟨by decide, by decide⟩⟩ ?_
        refine a_aload_n C dX12_died_92 rfl ?_
        refine a_iload_n C dX12_died_93 rfl ?_
        refine a_callV (as := [zI a1]) (rest := []) C 1 (fun l => c12_heirOf l) h_53 ⟨_, _, rfl⟩ (by decide) ml_X12_164 im_X12_heirOf se_X12_heirOf in_X12 co_X12_heirOf (by decide +kernel) rfl ⟨Nat.le_of_ble_eq_true rfl, Nat.le_of_ble_eq_true rfl⟩ (Nat.le_of_ble_eq_true rfl) dX12_died_94 ⟨Nat.le_of_ble_eq_true rfl, Nat.le_of_ble_eq_true rfl⟩ ?_
        refine ⟨a1, _, rfl, hM, hK, fun r94 V94 hK => ?_⟩
        try dsimp only [Option.toList, List.cons_append, List.nil_append]
        refine a_istore_n C dX12_died_97 (Nat.le_of_ble_eq_true rfl) ?_
        refine a_iconst C dX12_died_98 ?_
        refine a_istore_n C dX12_died_99 (Nat.le_of_ble_eq_true rfl) ?_
        refine a_iconst C dX12_died_100 ?_
        refine a_istore C dX12_died_101 (Nat.le_of_ble_eq_true rfl) ?_
        obtain ⟨nn213, hK⟩ := hK
        exact a_ls (lsub_s rfl (lsub_s rfl (lsub_s rfl (lsub_s rfl (lsub_s rfl (lsub_n (lsub_n (lsub_n lsub_0)))))))) (L103 nn213 a1 r94 0 0 _ hK)
      · replace hK := hK.2 q121
        have J52 : ∀ (a1 : Int) (a2 : Int) (a3 : Int) (s0 : Int) (V : zV), m12_died_J52 (m12_died_L2  Q n2) Q a1 a2 a3 s0 V → zW X S V 0 0 [some (zR 53), some (zI a1), some (zI a2), some (zI a3), none, none, none, none] [zI s0] 52 := by
          intro a1 a2 a3 s0 V hK
          unfold m12_died_J52 at hK
          refine a_istore C dX12_died_52 (Nat.le_of_ble_eq_true rfl) ?_
          refine a_aload_n C dX12_died_54 rfl ?_
          refine a_getR C fl_X12_16_12 h_53 rfl g_53_7 dX12_died_55 ?_
          refine a_iload_n C dX12_died_58 rfl ?_
          refine a_iload C dX12_died_59 rfl ?_
          obtain ⟨q220, hK⟩ := hK
          refine a_if_eq C 68 dX12_died_61 (by decide) q220 (fun q221 => ?_) (fun q221 => ?_)
          · replace hK := hK.1 q221
            refine a_aload_n C dX12_died_68 rfl ?_
            refine a_getR C fl_X12_16_12 h_53 rfl g_53_7 dX12_died_69 ?_
            refine a_iload_n C dX12_died_72 rfl ?_
            obtain ⟨q222, hK⟩ := hK
            refine a_iald C h_56 dX12_died_73 (by decide) q222 (fun r223 => ?_)
            obtain ⟨q224, hK⟩ := hK
            refine a_iast C h_56 dX12_died_74 (by decide) ⟨q224, r223⟩ ?_
            refine a_iinc C dX12_died_75 rfl (Nat.le_of_ble_eq_true rfl) ?_
            refine a_goto C 2 dX12_died_78 (by decide) ?_
            exact a_ls (lsub_s rfl (lsub_s rfl (lsub_s rfl (lsub_n (lsub_n (lsub_n (lsub_n (lsub_n lsub_0)))))))) (ih2 a1 (a2 + 1) _ hK)
          · replace hK := hK.2 q221
            refine a_iconst C dX12_died_64 ?_
            refine a_goto C 74 dX12_died_65 (by decide) ?_
            obtain ⟨q225, hK⟩ := hK
            refine a_iast C h_56 dX12_died_74 (by decide) ⟨q225, ⟨by decide, by decide⟩⟩ ?_
            refine a_iinc C dX12_died_75 rfl (Nat.le_of_ble_eq_true rfl) ?_
            refine a_goto C 2 dX12_died_78 (by decide) ?_
            exact a_ls (lsub_s rfl (lsub_s rfl (lsub_s rfl (lsub_n (lsub_n (lsub_n (lsub_n (lsub_n lsub_0)))))))) (ih2 a1 (a2 + 1) _ hK)
        refine a_bipush C dX12_died_12 (by decide) ?_
        refine a_iload_n C dX12_died_14 rfl ?_
        refine a_iconst C dX12_died_15 ?_
        obtain ⟨q226, hK⟩ := hK
        refine a_idiv C dX12_died_16 ⟨q226, by decide, by decide⟩ ?_
        refine a_imul C dX12_died_17 ?_
        refine a_iconst C dX12_died_18 ?_
        refine a_iadd C dX12_died_19 ?_
        refine a_iload_n C dX12_died_20 rfl ?_
        refine a_iconst C dX12_died_21 ?_
        obtain ⟨q227, hK⟩ := hK
        refine a_irem C dX12_died_22 ⟨q227, by decide, by decide⟩ ?_
        refine a_iadd C dX12_died_23 ?_
        refine a_istore_n C dX12_died_24 (Nat.le_of_ble_eq_true rfl) ?_
        refine a_aload_n C dX12_died_25 rfl ?_
        refine a_getR C fl_X12_16_12 h_53 rfl g_53_7 dX12_died_26 ?_
        refine a_iload_n C dX12_died_29 rfl ?_
        obtain ⟨q228, hK⟩ := hK
        refine a_iald C h_56 dX12_died_30 (by decide) q228 (fun r229 => ?_)
        refine a_iload_n C dX12_died_31 rfl ?_
        obtain ⟨q230, hK⟩ := hK
        refine a_icmp_eq C 47 dX12_died_32 (by decide) ⟨r229, q230⟩ (fun q231 => ?_) (fun q231 => ?_)
        · replace hK := hK.1 q231
          refine a_iconst C dX12_died_47 ?_
          refine a_goto C 52 dX12_died_48 (by decide) ?_
          exact a_ls (lsub_s rfl (lsub_s rfl (lsub_s rfl (lsub_s rfl (lsub_n (lsub_n (lsub_n (lsub_n lsub_0)))))))) (J52 a1 a2 (((7 * (a2 / 2)) + 5) + (a2 % 2)) 1 _ hK)
        · replace hK := hK.2 q231
          refine a_aload_n C dX12_died_35 rfl ?_
          refine a_getR C fl_X12_16_12 h_53 rfl g_53_7 dX12_died_36 ?_
          refine a_iload_n C dX12_died_39 rfl ?_
          refine a_iconst C dX12_died_40 ?_
          refine a_isub C dX12_died_41 ?_
          obtain ⟨q232, hK⟩ := hK
          refine a_iald C h_56 dX12_died_42 (by decide) q232 (fun r233 => ?_)
          refine a_iload_n C dX12_died_43 rfl ?_
          refine a_icmp_ne C 51 dX12_died_44 (by decide) ⟨r233, q230⟩ (fun q234 => ?_) (fun q234 => ?_)
          · replace hK := hK.1 q234
            refine a_iconst C dX12_died_51 ?_
            exact a_ls (lsub_s rfl (lsub_s rfl (lsub_s rfl (lsub_s rfl (lsub_n (lsub_n (lsub_n (lsub_n lsub_0)))))))) (J52 a1 a2 (((7 * (a2 / 2)) + 5) + (a2 % 2)) 0 _ hK)
          · replace hK := hK.2 q234
            refine a_iconst C dX12_died_47 ?_
            refine a_goto C 52 dX12_died_48 (by decide) ?_
            exact a_ls (lsub_s rfl (lsub_s rfl (lsub_s rfl (lsub_s rfl (lsub_n (lsub_n (lsub_n (lsub_n lsub_0)))))))) (J52 a1 a2 (((7 * (a2 / 2)) + 5) + (a2 % 2)) 1 _ hK)
  refine a_iconst C dX12_died_0 ?_
  refine a_istore_n C dX12_died_1 (Nat.le_of_ble_eq_true rfl) ?_
  obtain ⟨nn235, hK⟩ := hK
  exact a_ls (lsub_s rfl (lsub_s rfl (lsub_s rfl (lsub_n (lsub_n (lsub_n (lsub_n (lsub_n lsub_0)))))))) (L2 nn235 a1 0 _ hK)

def m12_death  (V : zV) (a1 : Int) (Q : Int → zV → Prop) : Prop :=
  m12_isPerson V a1 (fun r1 V1 => (inR r1) ∧ ((¬ r1 = 0 → m12_lacks V1 (fun r11 V11 => (inR r11) ∧ ((¬ r11 = 0 → Q (-103) V11) ∧ (r11 = 0 → m12_isAlive V11 a1 (fun r19 V19 => (inR r19) ∧ ((¬ r19 = 0 → m12_died V19 a1 (fun r32 V32 => Q r32 V32)) ∧ (r19 = 0 → Q (-103) V19))))))) ∧ (r1 = 0 → Q (-101) V1)))
def t12_death : zT := fun as S V post => ∃ (a1 : Int) (Q : Int → zV → Prop), as = [zR 53, zI a1] ∧ PSm S ∧ m12_death V a1 Q ∧ (∀ r V2, Q r V2 → post (some (zI r)) S V2)
set_option maxHeartbeats 4000000 in
set_option maxRecDepth 20000 in
theorem c12_death (l : Launch) : zCT l yX12_death cX12_death 2 (some .int) { frames := 3, cells := 0, slots := 0, locals := 72 } t12_death := by
  refine zCT_of (by decide) (fun as S V post h => by obtain ⟨a1, Q, rfl, -⟩ := h; exact Nat.le_of_ble_eq_true rfl) ?_
  intro X S V as post C E hT
  obtain ⟨a1, Q, rfl, hM, hK, hpost⟩ := hT
  obtain ⟨w_53, r_53, h_53, g_53_0, g_53_2, g_53_7, g_53_8, g_53_10, g_53_11, g_53_12, g_53_13, g_53_14, g_53_16, g_53_21, g_53_22, g_53_23, g_53_24⟩ := PSm_53 hM
  show zW X S V 0 0 [some (zR 53), some (zI a1)] [] 0
  unfold m12_death at hK
  refine a_iload_n C dX12_death_0 rfl ?_
  refine a_callS (as := [zI a1]) (rest := []) C 1 (fun l => c12_isPerson l) ml_X12_103 sa_X12_isPerson in_X12 co_X12_isPerson (by decide +kernel) rfl ⟨Nat.le_of_ble_eq_true rfl, Nat.le_of_ble_eq_true rfl⟩ (Nat.le_of_ble_eq_true rfl) dX12_death_1 ⟨Nat.le_of_ble_eq_true rfl, Nat.le_of_ble_eq_true rfl⟩ ?_
  refine ⟨a1, _, rfl, hK, fun r1 V1 hK => ?_⟩
  try dsimp only [Option.toList, List.cons_append, List.nil_append]
  obtain ⟨q1, hK⟩ := hK
  refine a_if_ne C 10 dX12_death_4 (by decide) q1 (fun q2 => ?_) (fun q2 => ?_)
  · replace hK := hK.1 q2
    refine a_aload_n C dX12_death_10 rfl ?_
    refine a_callV (as := []) (rest := []) C 0 (fun l => c12_lacks l) h_53 ⟨_, _, rfl⟩ (by decide) ml_X12_139 im_X12_lacks se_X12_lacks in_X12 co_X12_lacks (by decide +kernel) rfl ⟨Nat.le_of_ble_eq_true rfl, Nat.le_of_ble_eq_true rfl⟩ (Nat.le_of_ble_eq_true rfl) dX12_death_11 ⟨Nat.le_of_ble_eq_true rfl, Nat.le_of_ble_eq_true rfl⟩ ?_
    refine ⟨_, rfl, hM, hK, fun r11 V11 hK => ?_⟩
    try dsimp only [Option.toList, List.cons_append, List.nil_append]
    obtain ⟨q3, hK⟩ := hK
    refine a_if_ne C 25 dX12_death_14 (by decide) q3 (fun q4 => ?_) (fun q4 => ?_)
    · replace hK := hK.1 q4
      refine a_bipush C dX12_death_25 (by decide) ?_
      refine a_goto C 35 dX12_death_27 (by decide) ?_
      exact a_iret C E dX12_death_35 (Nat.le_refl _) (Nat.le_refl _) (hpost _ _ hK)
    · replace hK := hK.2 q4
      refine a_aload_n C dX12_death_17 rfl ?_
      refine a_iload_n C dX12_death_18 rfl ?_
      refine a_callV (as := [zI a1]) (rest := []) C 1 (fun l => c12_isAlive l) h_53 ⟨_, _, rfl⟩ (by decide) ml_X12_143 im_X12_isAlive se_X12_isAlive in_X12 co_X12_isAlive (by decide +kernel) rfl ⟨Nat.le_of_ble_eq_true rfl, Nat.le_of_ble_eq_true rfl⟩ (Nat.le_of_ble_eq_true rfl) dX12_death_19 ⟨Nat.le_of_ble_eq_true rfl, Nat.le_of_ble_eq_true rfl⟩ ?_
      refine ⟨a1, _, rfl, hM, hK, fun r19 V19 hK => ?_⟩
      try dsimp only [Option.toList, List.cons_append, List.nil_append]
      obtain ⟨q5, hK⟩ := hK
      refine a_if_ne C 30 dX12_death_22 (by decide) q5 (fun q6 => ?_) (fun q6 => ?_)
      · replace hK := hK.1 q6
        refine a_aload_n C dX12_death_30 rfl ?_
        refine a_iload_n C dX12_death_31 rfl ?_
        refine a_callV (as := [zI a1]) (rest := []) C 1 (fun l => c12_died l) h_53 ⟨_, _, rfl⟩ (by decide) ml_X12_167 im_X12_died se_X12_died in_X12 co_X12_died (by decide +kernel) rfl ⟨Nat.le_of_ble_eq_true rfl, Nat.le_of_ble_eq_true rfl⟩ (Nat.le_of_ble_eq_true rfl) dX12_death_32 ⟨Nat.le_of_ble_eq_true rfl, Nat.le_of_ble_eq_true rfl⟩ ?_
        refine ⟨a1, _, rfl, hM, hK, fun r32 V32 hK => ?_⟩
        try dsimp only [Option.toList, List.cons_append, List.nil_append]
        exact a_iret C E dX12_death_35 (Nat.le_refl _) (Nat.le_refl _) (hpost _ _ hK)
      · replace hK := hK.2 q6
        refine a_bipush C dX12_death_25 (by decide) ?_
        refine a_goto C 35 dX12_death_27 (by decide) ?_
        exact a_iret C E dX12_death_35 (Nat.le_refl _) (Nat.le_refl _) (hpost _ _ hK)
  · replace hK := hK.2 q2
    refine a_bipush C dX12_death_7 (by decide) ?_
    exact a_iret C E dX12_death_9 (Nat.le_refl _) (Nat.le_refl _) (hpost _ _ hK)
