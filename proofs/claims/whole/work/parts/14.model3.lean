def m12_areOn_J28  (Q : Int → zV → Prop) (a1 : Int) (a2 : Int) (a3 : Int) (V : zV) : Prop :=
  m12_onSide V a1 0 (fun r31 V31 => (inR r31) ∧ (inR a3) ∧ ((¬ r31 = a3 → Q 0 V31) ∧ (r31 = a3 → m12_onSide V31 a1 1 (fun r41 V41 => (inR r41) ∧ (inR a2) ∧ ((¬ r41 = a2 → Q 0 V41) ∧ (r41 = a2 → Q 1 V41))))))
def m12_areOn  (V : zV) (a1 : Int) (a2 : Int) (a3 : Int) (Q : Int → zV → Prop) : Prop :=
  m12_isStruck V a1 (fun r2 V2 => (inR r2) ∧ ((¬ r2 = 0 → Q 0 V2) ∧ (r2 = 0 → m12_onSide V2 a1 0 (fun r11 V11 => (inR r11) ∧ (inR a2) ∧ ((¬ r11 = a2 → m12_areOn_J28  Q a1 a2 a3 V11) ∧ (r11 = a2 → m12_onSide V11 a1 1 (fun r21 V21 => (inR r21) ∧ (inR a3) ∧ ((r21 = a3 → Q 1 V21) ∧ (¬ r21 = a3 → m12_areOn_J28  Q a1 a2 a3 V21)))))))))
def t12_areOn : zT := fun as S V post => ∃ (a1 : Int) (a2 : Int) (a3 : Int) (Q : Int → zV → Prop), as = [zR 53, zI a1, zI a2, zI a3] ∧ PSm S ∧ m12_areOn V a1 a2 a3 Q ∧ (∀ r V2, Q r V2 → post (some (zI r)) S V2)
set_option maxHeartbeats 4000000 in
set_option maxRecDepth 20000 in
theorem c12_areOn (l : Launch) : zCT l yX12_areOn cX12_areOn 4 (some .boolean) { frames := 2, cells := 0, slots := 0, locals := 44 } t12_areOn := by
  refine zCT_of (by decide) (fun as S V post h => by obtain ⟨a1, a2, a3, Q, rfl, -⟩ := h; exact Nat.le_of_ble_eq_true rfl) ?_
  intro X S V as post C E hT
  obtain ⟨a1, a2, a3, Q, rfl, hM, hK, hpost⟩ := hT
  obtain ⟨w_53, r_53, h_53, g_53_0, g_53_2, g_53_7, g_53_8, g_53_10, g_53_11, g_53_12, g_53_13, g_53_14, g_53_16, g_53_21, g_53_22, g_53_23, g_53_24⟩ := PSm_53 hM
  show zW X S V 0 0 [some (zR 53), some (zI a1), some (zI a2), some (zI a3)] [] 0
  unfold m12_areOn at hK
  refine a_aload_n C dX12_areOn_0 rfl ?_
  refine a_iload_n C dX12_areOn_1 rfl ?_
  refine a_callV (as := [zI a1]) (rest := []) C 1 (fun l => c12_isStruck l) h_53 ⟨_, _, rfl⟩ (by decide) ml_X12_113 im_X12_isStruck se_X12_isStruck in_X12 co_X12_isStruck (by decide +kernel) rfl ⟨Nat.le_of_ble_eq_true rfl, Nat.le_of_ble_eq_true rfl⟩ (Nat.le_of_ble_eq_true rfl) dX12_areOn_2 ⟨Nat.le_of_ble_eq_true rfl, Nat.le_of_ble_eq_true rfl⟩ ?_
  refine ⟨a1, _, rfl, hM, hK, fun r2 V2 hK => ?_⟩
  try dsimp only [Option.toList, List.cons_append, List.nil_append]
  obtain ⟨q1, hK⟩ := hK
  refine a_if_ne C 52 dX12_areOn_5 (by decide) q1 (fun q2 => ?_) (fun q2 => ?_)
  · replace hK := hK.1 q2
    refine a_iconst C dX12_areOn_52 ?_
    exact a_zret C E dX12_areOn_53 (Nat.le_refl _) (Nat.le_refl _) (by decide) (hpost _ _ hK)
  · replace hK := hK.2 q2
    have J28 : ∀ (a1 : Int) (a2 : Int) (a3 : Int) (V : zV), m12_areOn_J28  Q a1 a2 a3 V → zW X S V 0 0 [some (zR 53), some (zI a1), some (zI a2), some (zI a3)] [] 28 := by
      intro a1 a2 a3 V hK
      unfold m12_areOn_J28 at hK
      refine a_aload_n C dX12_areOn_28 rfl ?_
      refine a_iload_n C dX12_areOn_29 rfl ?_
      refine a_iconst C dX12_areOn_30 ?_
      refine a_callV (as := [zI a1, zI 0]) (rest := []) C 2 (fun l => c12_onSide l) h_53 ⟨_, _, rfl⟩ (by decide) ml_X12_116 im_X12_onSide se_X12_onSide in_X12 co_X12_onSide (by decide +kernel) rfl ⟨Nat.le_of_ble_eq_true rfl, Nat.le_of_ble_eq_true rfl⟩ (Nat.le_of_ble_eq_true rfl) dX12_areOn_31 ⟨Nat.le_of_ble_eq_true rfl, Nat.le_of_ble_eq_true rfl⟩ ?_
      refine ⟨a1, 0, _, rfl, hM, hK, fun r31 V31 hK => ?_⟩
      try dsimp only [Option.toList, List.cons_append, List.nil_append]
      refine a_iload_n C dX12_areOn_34 rfl ?_
      obtain ⟨q9, hK⟩ := hK
      obtain ⟨q10, hK⟩ := hK
      refine a_icmp_ne C 52 dX12_areOn_35 (by decide) ⟨q9, q10⟩ (fun q11 => ?_) (fun q11 => ?_)
      · replace hK := hK.1 q11
        refine a_iconst C dX12_areOn_52 ?_
        exact a_zret C E dX12_areOn_53 (Nat.le_refl _) (Nat.le_refl _) (by decide) (hpost _ _ hK)
      · replace hK := hK.2 q11
        refine a_aload_n C dX12_areOn_38 rfl ?_
        refine a_iload_n C dX12_areOn_39 rfl ?_
        refine a_iconst C dX12_areOn_40 ?_
        refine a_callV (as := [zI a1, zI 1]) (rest := []) C 2 (fun l => c12_onSide l) h_53 ⟨_, _, rfl⟩ (by decide) ml_X12_116 im_X12_onSide se_X12_onSide in_X12 co_X12_onSide (by decide +kernel) rfl ⟨Nat.le_of_ble_eq_true rfl, Nat.le_of_ble_eq_true rfl⟩ (Nat.le_of_ble_eq_true rfl) dX12_areOn_41 ⟨Nat.le_of_ble_eq_true rfl, Nat.le_of_ble_eq_true rfl⟩ ?_
        refine ⟨a1, 1, _, rfl, hM, hK, fun r41 V41 hK => ?_⟩
        try dsimp only [Option.toList, List.cons_append, List.nil_append]
        refine a_iload_n C dX12_areOn_44 rfl ?_
        obtain ⟨q12, hK⟩ := hK
        obtain ⟨q13, hK⟩ := hK
        refine a_icmp_ne C 52 dX12_areOn_45 (by decide) ⟨q12, q13⟩ (fun q14 => ?_) (fun q14 => ?_)
        · replace hK := hK.1 q14
          refine a_iconst C dX12_areOn_52 ?_
          exact a_zret C E dX12_areOn_53 (Nat.le_refl _) (Nat.le_refl _) (by decide) (hpost _ _ hK)
        · replace hK := hK.2 q14
          refine a_iconst C dX12_areOn_48 ?_
          refine a_goto C 53 dX12_areOn_49 (by decide) ?_
          exact a_zret C E dX12_areOn_53 (Nat.le_refl _) (Nat.le_refl _) (by decide) (hpost _ _ hK)
    refine a_aload_n C dX12_areOn_8 rfl ?_
    refine a_iload_n C dX12_areOn_9 rfl ?_
    refine a_iconst C dX12_areOn_10 ?_
    refine a_callV (as := [zI a1, zI 0]) (rest := []) C 2 (fun l => c12_onSide l) h_53 ⟨_, _, rfl⟩ (by decide) ml_X12_116 im_X12_onSide se_X12_onSide in_X12 co_X12_onSide (by decide +kernel) rfl ⟨Nat.le_of_ble_eq_true rfl, Nat.le_of_ble_eq_true rfl⟩ (Nat.le_of_ble_eq_true rfl) dX12_areOn_11 ⟨Nat.le_of_ble_eq_true rfl, Nat.le_of_ble_eq_true rfl⟩ ?_
    refine ⟨a1, 0, _, rfl, hM, hK, fun r11 V11 hK => ?_⟩
    try dsimp only [Option.toList, List.cons_append, List.nil_append]
    refine a_iload_n C dX12_areOn_14 rfl ?_
    obtain ⟨q15, hK⟩ := hK
    obtain ⟨q16, hK⟩ := hK
    refine a_icmp_ne C 28 dX12_areOn_15 (by decide) ⟨q15, q16⟩ (fun q17 => ?_) (fun q17 => ?_)
    · replace hK := hK.1 q17
      exact a_ls (lsub_s rfl (lsub_s rfl (lsub_s rfl (lsub_s rfl lsub_0)))) (J28 a1 a2 a3 _ hK)
    · replace hK := hK.2 q17
      refine a_aload_n C dX12_areOn_18 rfl ?_
      refine a_iload_n C dX12_areOn_19 rfl ?_
      refine a_iconst C dX12_areOn_20 ?_
      refine a_callV (as := [zI a1, zI 1]) (rest := []) C 2 (fun l => c12_onSide l) h_53 ⟨_, _, rfl⟩ (by decide) ml_X12_116 im_X12_onSide se_X12_onSide in_X12 co_X12_onSide (by decide +kernel) rfl ⟨Nat.le_of_ble_eq_true rfl, Nat.le_of_ble_eq_true rfl⟩ (Nat.le_of_ble_eq_true rfl) dX12_areOn_21 ⟨Nat.le_of_ble_eq_true rfl, Nat.le_of_ble_eq_true rfl⟩ ?_
      refine ⟨a1, 1, _, rfl, hM, hK, fun r21 V21 hK => ?_⟩
      try dsimp only [Option.toList, List.cons_append, List.nil_append]
      refine a_iload_n C dX12_areOn_24 rfl ?_
      obtain ⟨q18, hK⟩ := hK
      obtain ⟨q19, hK⟩ := hK
      refine a_icmp_eq C 48 dX12_areOn_25 (by decide) ⟨q18, q19⟩ (fun q20 => ?_) (fun q20 => ?_)
      · replace hK := hK.1 q20
        refine a_iconst C dX12_areOn_48 ?_
        refine a_goto C 53 dX12_areOn_49 (by decide) ?_
        exact a_zret C E dX12_areOn_53 (Nat.le_refl _) (Nat.le_refl _) (by decide) (hpost _ _ hK)
      · replace hK := hK.2 q20
        exact a_ls (lsub_s rfl (lsub_s rfl (lsub_s rfl (lsub_s rfl lsub_0)))) (J28 a1 a2 a3 _ hK)

def m12_harmOf_J77 (k5 : Int → Int → Int → Int → zV → Prop) (Q : Int → zV → Prop) (a1 : Int) (a2 : Int) (a3 : Int) (a4 : Int) (s0 : Int) (V : zV) : Prop :=
  (inR s0) ∧ ((s0 = 0 → k5 a1 a2 a3 (a4 + 1) V) ∧ (¬ s0 = 0 → k5 a1 a2 a4 (a4 + 1) V))
def m12_harmOf_L5  (Q : Int → zV → Prop) : Nat → Int → Int → Int → Int → zV → Prop
  | 0 => fun _ _ _ _ _ => False
  | n + 1 => fun a1 a2 a3 a4 V => (inR a4) ∧ (((V 53 5) ≤ a4 → Q a3 V) ∧ (a4 < (V 53 5) → m12_isAlive V a1 (fun r16 V16 => (inR r16) ∧ ((r16 = 0 → Q a3 V16) ∧ (¬ r16 = 0 → m12_isAlive V16 a2 (fun r24 V24 => (inR r24) ∧ ((r24 = 0 → Q a3 V24) ∧ (¬ r24 = 0 → m12_areOn V24 a4 a1 a2 (fun r35 V35 => (inR r35) ∧ ((r35 = 0 → m12_harmOf_J77 (m12_harmOf_L5  Q n) Q a1 a2 a3 a4 0 V35) ∧ (¬ r35 = 0 → (inR a3) ∧ ((a3 = (-1) → m12_harmOf_J77 (m12_harmOf_L5  Q n) Q a1 a2 a3 a4 1 V35) ∧ (¬ a3 = (-1) → (0 ≤ ((7 * a4) + 1) ∧ ((7 * a4) + 1) < 56) ∧ (0 ≤ ((7 * a3) + 1) ∧ ((7 * a3) + 1) < 56) ∧ (((V35 56 (((7 * a4) + 1)).toNat) ≤ (V35 56 (((7 * a3) + 1)).toNat) → m12_harmOf_J77 (m12_harmOf_L5  Q n) Q a1 a2 a3 a4 0 V35) ∧ ((V35 56 (((7 * a3) + 1)).toNat) < (V35 56 (((7 * a4) + 1)).toNat) → m12_harmOf_J77 (m12_harmOf_L5  Q n) Q a1 a2 a3 a4 1 V35)))))))))))))))
def m12_harmOf  (V : zV) (a1 : Int) (a2 : Int) (Q : Int → zV → Prop) : Prop :=
  ∃ nn41, m12_harmOf_L5  Q nn41 a1 a2 (-1) 0 V
def t12_harmOf : zT := fun as S V post => ∃ (a1 : Int) (a2 : Int) (Q : Int → zV → Prop), as = [zR 53, zI a1, zI a2] ∧ PSm S ∧ m12_harmOf V a1 a2 Q ∧ (∀ r V2, Q r V2 → post (some (zI r)) S V2)
set_option maxHeartbeats 4000000 in
set_option maxRecDepth 20000 in
theorem c12_harmOf (l : Launch) : zCT l yX12_harmOf cX12_harmOf 6 (some .int) { frames := 3, cells := 0, slots := 0, locals := 67 } t12_harmOf := by
  refine zCT_of (by decide) (fun as S V post h => by obtain ⟨a1, a2, Q, rfl, -⟩ := h; exact Nat.le_of_ble_eq_true rfl) ?_
  intro X S V as post C E hT
  obtain ⟨a1, a2, Q, rfl, hM, hK, hpost⟩ := hT
  obtain ⟨w_53, r_53, h_53, g_53_0, g_53_2, g_53_7, g_53_8, g_53_10, g_53_11, g_53_12, g_53_13, g_53_14, g_53_16, g_53_21, g_53_22, g_53_23, g_53_24⟩ := PSm_53 hM
  obtain ⟨r_56, h_56⟩ := PSm_56 hM
  show zW X S V 0 0 [some (zR 53), some (zI a1), some (zI a2), none, none, none] [] 0
  unfold m12_harmOf at hK
  have L5 : ∀ (n : Nat) (a1 : Int) (a2 : Int) (a3 : Int) (a4 : Int) (V : zV), m12_harmOf_L5  Q n a1 a2 a3 a4 V → zW X S V 0 0 [some (zR 53), some (zI a1), some (zI a2), some (zI a3), some (zI a4), none] [] 5 := by
    intro n5
    induction n5 with
    | zero => intro _ _ _ _ _ hK; exact hK.elim
    | succ n5 ih5 =>
      intro a1 a2 a3 a4 V hK
      unfold m12_harmOf_L5 at hK
      refine a_iload C dX12_harmOf_5 rfl ?_
      refine a_aload_n C dX12_harmOf_7 rfl ?_
      refine a_getI C fl_X12_91_12 h_53 rfl dX12_harmOf_8 (fun r21 => ?_)
      obtain ⟨q22, hK⟩ := hK
      refine a_icmp_ge C 97 dX12_harmOf_11 (by decide) ⟨q22, r21⟩ (fun q23 => ?_) (fun q23 => ?_)
      · replace hK := hK.1 q23
        refine a_iload_n C dX12_harmOf_97 rfl ?_
        exact a_iret C E dX12_harmOf_98 (Nat.le_refl _) (Nat.le_refl _) (hpost _ _ hK)
      · replace hK := hK.2 q23
        refine a_aload_n C dX12_harmOf_14 rfl ?_
        refine a_iload_n C dX12_harmOf_15 rfl ?_
        refine a_callV (as := [zI a1]) (rest := []) C 1 (fun l => c12_isAlive l) h_53 ⟨_, _, rfl⟩ (by decide) ml_X12_143 im_X12_isAlive se_X12_isAlive in_X12 co_X12_isAlive (by decide +kernel) rfl ⟨Nat.le_of_ble_eq_true rfl, Nat.le_of_ble_eq_true rfl⟩ (Nat.le_of_ble_eq_true rfl) dX12_harmOf_16 ⟨Nat.le_of_ble_eq_true rfl, Nat.le_of_ble_eq_true rfl⟩ ?_
        refine ⟨a1, _, rfl, hM, hK, fun r16 V16 hK => ?_⟩
        try dsimp only [Option.toList, List.cons_append, List.nil_append]
        obtain ⟨q24, hK⟩ := hK
        refine a_if_eq C 97 dX12_harmOf_19 (by decide) q24 (fun q25 => ?_) (fun q25 => ?_)
        · replace hK := hK.1 q25
          refine a_iload_n C dX12_harmOf_97 rfl ?_
          exact a_iret C E dX12_harmOf_98 (Nat.le_refl _) (Nat.le_refl _) (hpost _ _ hK)
        · replace hK := hK.2 q25
          refine a_aload_n C dX12_harmOf_22 rfl ?_
          refine a_iload_n C dX12_harmOf_23 rfl ?_
          refine a_callV (as := [zI a2]) (rest := []) C 1 (fun l => c12_isAlive l) h_53 ⟨_, _, rfl⟩ (by decide) ml_X12_143 im_X12_isAlive se_X12_isAlive in_X12 co_X12_isAlive (by decide +kernel) rfl ⟨Nat.le_of_ble_eq_true rfl, Nat.le_of_ble_eq_true rfl⟩ (Nat.le_of_ble_eq_true rfl) dX12_harmOf_24 ⟨Nat.le_of_ble_eq_true rfl, Nat.le_of_ble_eq_true rfl⟩ ?_
          refine ⟨a2, _, rfl, hM, hK, fun r24 V24 hK => ?_⟩
          try dsimp only [Option.toList, List.cons_append, List.nil_append]
          obtain ⟨q26, hK⟩ := hK
          refine a_if_eq C 97 dX12_harmOf_27 (by decide) q26 (fun q27 => ?_) (fun q27 => ?_)
          · replace hK := hK.1 q27
            refine a_iload_n C dX12_harmOf_97 rfl ?_
            exact a_iret C E dX12_harmOf_98 (Nat.le_refl _) (Nat.le_refl _) (hpost _ _ hK)
          · replace hK := hK.2 q27
            have J77 : ∀ (a1 : Int) (a2 : Int) (a3 : Int) (a4 : Int) (s0 : Int) (V : zV), m12_harmOf_J77 (m12_harmOf_L5  Q n5) Q a1 a2 a3 a4 s0 V → zW X S V 0 0 [some (zR 53), some (zI a1), some (zI a2), some (zI a3), some (zI a4), none] [zI s0] 77 := by
              intro a1 a2 a3 a4 s0 V hK
              unfold m12_harmOf_J77 at hK
              refine a_istore C dX12_harmOf_77 (Nat.le_of_ble_eq_true rfl) ?_
              refine a_iload C dX12_harmOf_79 rfl ?_
              obtain ⟨q30, hK⟩ := hK
              refine a_if_eq C 89 dX12_harmOf_81 (by decide) q30 (fun q31 => ?_) (fun q31 => ?_)
              · replace hK := hK.1 q31
                refine a_iload_n C dX12_harmOf_89 rfl ?_
                refine a_istore_n C dX12_harmOf_90 (Nat.le_of_ble_eq_true rfl) ?_
                refine a_iinc C dX12_harmOf_91 rfl (Nat.le_of_ble_eq_true rfl) ?_
                refine a_goto C 5 dX12_harmOf_94 (by decide) ?_
                exact a_ls (lsub_s rfl (lsub_s rfl (lsub_s rfl (lsub_s rfl (lsub_s rfl (lsub_n lsub_0)))))) (ih5 a1 a2 a3 (a4 + 1) _ hK)
              · replace hK := hK.2 q31
                refine a_iload C dX12_harmOf_84 rfl ?_
                refine a_goto C 90 dX12_harmOf_86 (by decide) ?_
                refine a_istore_n C dX12_harmOf_90 (Nat.le_of_ble_eq_true rfl) ?_
                refine a_iinc C dX12_harmOf_91 rfl (Nat.le_of_ble_eq_true rfl) ?_
                refine a_goto C 5 dX12_harmOf_94 (by decide) ?_
                exact a_ls (lsub_s rfl (lsub_s rfl (lsub_s rfl (lsub_s rfl (lsub_s rfl (lsub_n lsub_0)))))) (ih5 a1 a2 a4 (a4 + 1) _ hK)
            refine a_aload_n C dX12_harmOf_30 rfl ?_
            refine a_iload C dX12_harmOf_31 rfl ?_
            refine a_iload_n C dX12_harmOf_33 rfl ?_
            refine a_iload_n C dX12_harmOf_34 rfl ?_
            refine a_callV (as := [zI a4, zI a1, zI a2]) (rest := []) C 3 (fun l => c12_areOn l) h_53 ⟨_, _, rfl⟩ (by decide) ml_X12_170 im_X12_areOn se_X12_areOn in_X12 co_X12_areOn (by decide +kernel) rfl ⟨Nat.le_of_ble_eq_true rfl, Nat.le_of_ble_eq_true rfl⟩ (Nat.le_of_ble_eq_true rfl) dX12_harmOf_35 ⟨Nat.le_of_ble_eq_true rfl, Nat.le_of_ble_eq_true rfl⟩ ?_
            refine ⟨a4, a1, a2, _, rfl, hM, hK, fun r35 V35 hK => ?_⟩
            try dsimp only [Option.toList, List.cons_append, List.nil_append]
            obtain ⟨q32, hK⟩ := hK
            refine a_if_eq C 76 dX12_harmOf_38 (by decide) q32 (fun q33 => ?_) (fun q33 => ?_)
            · replace hK := hK.1 q33
              refine a_iconst C dX12_harmOf_76 ?_
              exact a_ls (lsub_s rfl (lsub_s rfl (lsub_s rfl (lsub_s rfl (lsub_s rfl (lsub_n lsub_0)))))) (J77 a1 a2 a3 a4 0 _ hK)
            · replace hK := hK.2 q33
              refine a_iload_n C dX12_harmOf_41 rfl ?_
              refine a_iconst C dX12_harmOf_42 ?_
              obtain ⟨q34, hK⟩ := hK
              refine a_icmp_eq C 72 dX12_harmOf_43 (by decide) ⟨q34, ⟨by decide, by decide⟩⟩ (fun q35 => ?_) (fun q35 => ?_)
              · replace hK := hK.1 q35
                refine a_iconst C dX12_harmOf_72 ?_
                refine a_goto C 77 dX12_harmOf_73 (by decide) ?_
                exact a_ls (lsub_s rfl (lsub_s rfl (lsub_s rfl (lsub_s rfl (lsub_s rfl (lsub_n lsub_0)))))) (J77 a1 a2 a3 a4 1 _ hK)
              · replace hK := hK.2 q35
                refine a_aload_n C dX12_harmOf_46 rfl ?_
                refine a_getR C fl_X12_16_12 h_53 rfl g_53_7 dX12_harmOf_47 ?_
                refine a_bipush C dX12_harmOf_50 (by decide) ?_
                refine a_iload C dX12_harmOf_52 rfl ?_
                refine a_imul C dX12_harmOf_54 ?_
                refine a_iconst C dX12_harmOf_55 ?_
                refine a_iadd C dX12_harmOf_56 ?_
                obtain ⟨q36, hK⟩ := hK
                refine a_iald C h_56 dX12_harmOf_57 (by decide) q36 (fun r37 => ?_)
                refine a_aload_n C dX12_harmOf_58 rfl ?_
                refine a_getR C fl_X12_16_12 h_53 rfl g_53_7 dX12_harmOf_59 ?_
                refine a_bipush C dX12_harmOf_62 (by decide) ?_
                refine a_iload_n C dX12_harmOf_64 rfl ?_
                refine a_imul C dX12_harmOf_65 ?_
                refine a_iconst C dX12_harmOf_66 ?_
                refine a_iadd C dX12_harmOf_67 ?_
                obtain ⟨q38, hK⟩ := hK
                refine a_iald C h_56 dX12_harmOf_68 (by decide) q38 (fun r39 => ?_)
                refine a_icmp_le C 76 dX12_harmOf_69 (by decide) ⟨r37, r39⟩ (fun q40 => ?_) (fun q40 => ?_)
                · replace hK := hK.1 q40
                  refine a_iconst C dX12_harmOf_76 ?_
                  exact a_ls (lsub_s rfl (lsub_s rfl (lsub_s rfl (lsub_s rfl (lsub_s rfl (lsub_n lsub_0)))))) (J77 a1 a2 a3 a4 0 _ hK)
                · replace hK := hK.2 q40
                  refine a_iconst C dX12_harmOf_72 ?_
                  refine a_goto C 77 dX12_harmOf_73 (by decide) ?_
                  exact a_ls (lsub_s rfl (lsub_s rfl (lsub_s rfl (lsub_s rfl (lsub_s rfl (lsub_n lsub_0)))))) (J77 a1 a2 a3 a4 1 _ hK)
  refine a_iconst C dX12_harmOf_0 ?_
  refine a_istore_n C dX12_harmOf_1 (Nat.le_of_ble_eq_true rfl) ?_
  refine a_iconst C dX12_harmOf_2 ?_
  refine a_istore C dX12_harmOf_3 (Nat.le_of_ble_eq_true rfl) ?_
  obtain ⟨nn41, hK⟩ := hK
  exact a_ls (lsub_s rfl (lsub_s rfl (lsub_s rfl (lsub_s rfl (lsub_s rfl (lsub_n lsub_0)))))) (L5 nn41 a1 a2 (-1) 0 _ hK)

def m12_mayHarm  (V : zV) (a1 : Int) (a2 : Int) (Q : Int → zV → Prop) : Prop :=
  m12_arePair V a1 a2 (fun r2 V2 => (inR r2) ∧ ((r2 = 0 → Q (-101) V2) ∧ (¬ r2 = 0 → m12_harmOf V2 a1 a2 (fun r11 V11 => Q r11 V11))))
def t12_mayHarm : zT := fun as S V post => ∃ (a1 : Int) (a2 : Int) (Q : Int → zV → Prop), as = [zR 53, zI a1, zI a2] ∧ PSm S ∧ m12_mayHarm V a1 a2 Q ∧ (∀ r V2, Q r V2 → post (some (zI r)) S V2)
set_option maxHeartbeats 4000000 in
set_option maxRecDepth 20000 in
theorem c12_mayHarm (l : Launch) : zCT l yX12_mayHarm cX12_mayHarm 3 (some .int) { frames := 4, cells := 0, slots := 0, locals := 92 } t12_mayHarm := by
  refine zCT_of (by decide) (fun as S V post h => by obtain ⟨a1, a2, Q, rfl, -⟩ := h; exact Nat.le_of_ble_eq_true rfl) ?_
  intro X S V as post C E hT
  obtain ⟨a1, a2, Q, rfl, hM, hK, hpost⟩ := hT
  obtain ⟨w_53, r_53, h_53, g_53_0, g_53_2, g_53_7, g_53_8, g_53_10, g_53_11, g_53_12, g_53_13, g_53_14, g_53_16, g_53_21, g_53_22, g_53_23, g_53_24⟩ := PSm_53 hM
  show zW X S V 0 0 [some (zR 53), some (zI a1), some (zI a2)] [] 0
  unfold m12_mayHarm at hK
  refine a_iload_n C dX12_mayHarm_0 rfl ?_
  refine a_iload_n C dX12_mayHarm_1 rfl ?_
  refine a_callS (as := [zI a1, zI a2]) (rest := []) C 2 (fun l => c12_arePair l) ml_X12_173 sa_X12_arePair in_X12 co_X12_arePair (by decide +kernel) rfl ⟨Nat.le_of_ble_eq_true rfl, Nat.le_of_ble_eq_true rfl⟩ (Nat.le_of_ble_eq_true rfl) dX12_mayHarm_2 ⟨Nat.le_of_ble_eq_true rfl, Nat.le_of_ble_eq_true rfl⟩ ?_
  refine ⟨a1, a2, _, rfl, hK, fun r2 V2 hK => ?_⟩
  try dsimp only [Option.toList, List.cons_append, List.nil_append]
  obtain ⟨q1, hK⟩ := hK
  refine a_if_eq C 17 dX12_mayHarm_5 (by decide) q1 (fun q2 => ?_) (fun q2 => ?_)
  · replace hK := hK.1 q2
    refine a_bipush C dX12_mayHarm_17 (by decide) ?_
    exact a_iret C E dX12_mayHarm_19 (Nat.le_refl _) (Nat.le_refl _) (hpost _ _ hK)
  · replace hK := hK.2 q2
    refine a_aload_n C dX12_mayHarm_8 rfl ?_
    refine a_iload_n C dX12_mayHarm_9 rfl ?_
    refine a_iload_n C dX12_mayHarm_10 rfl ?_
    refine a_callV (as := [zI a1, zI a2]) (rest := []) C 2 (fun l => c12_harmOf l) h_53 ⟨_, _, rfl⟩ (by decide) ml_X12_176 im_X12_harmOf se_X12_harmOf in_X12 co_X12_harmOf (by decide +kernel) rfl ⟨Nat.le_of_ble_eq_true rfl, Nat.le_of_ble_eq_true rfl⟩ (Nat.le_of_ble_eq_true rfl) dX12_mayHarm_11 ⟨Nat.le_of_ble_eq_true rfl, Nat.le_of_ble_eq_true rfl⟩ ?_
    refine ⟨a1, a2, _, rfl, hM, hK, fun r11 V11 hK => ?_⟩
    try dsimp only [Option.toList, List.cons_append, List.nil_append]
    refine a_goto C 19 dX12_mayHarm_14 (by decide) ?_
    exact a_iret C E dX12_mayHarm_19 (Nat.le_refl _) (Nat.le_refl _) (hpost _ _ hK)

def m12_harm  (V : zV) (a1 : Int) (a2 : Int) (Q : Int → zV → Prop) : Prop :=
  m12_arePair V a1 a2 (fun r2 V2 => (inR r2) ∧ ((¬ r2 = 0 → m12_harmOf V2 a1 a2 (fun r14 V14 => (inR r14) ∧ ((¬ r14 = (-1) → ((¬ (V14 53 9) = 12 → (0 ≤ (2 * (V14 53 9)) ∧ (2 * (V14 53 9)) < 24) ∧ (inR a1) ∧ (0 ≤ ((2 * ((vset V14 58 ((2 * (V14 53 9))).toNat a1) 53 9)) + 1) ∧ ((2 * ((vset V14 58 ((2 * (V14 53 9))).toNat a1) 53 9)) + 1) < 24) ∧ (inR a2) ∧ (inR (((vset (vset V14 58 ((2 * (V14 53 9))).toNat a1) 58 (((2 * ((vset V14 58 ((2 * (V14 53 9))).toNat a1) 53 9)) + 1)).toNat a2) 53 9) + 1)) ∧ Q r14 (vset (vset (vset V14 58 ((2 * (V14 53 9))).toNat a1) 58 (((2 * ((vset V14 58 ((2 * (V14 53 9))).toNat a1) 53 9)) + 1)).toNat a2) 53 9 (((vset (vset V14 58 ((2 * (V14 53 9))).toNat a1) 58 (((2 * ((vset V14 58 ((2 * (V14 53 9))).toNat a1) 53 9)) + 1)).toNat a2) 53 9) + 1))) ∧ ((V14 53 9) = 12 → Q (-104) V14))) ∧ (r14 = (-1) → Q (-103) V14)))) ∧ (r2 = 0 → Q (-101) V2)))
def t12_harm : zT := fun as S V post => ∃ (a1 : Int) (a2 : Int) (Q : Int → zV → Prop), as = [zR 53, zI a1, zI a2] ∧ PSm S ∧ m12_harm V a1 a2 Q ∧ (∀ r V2, Q r V2 → post (some (zI r)) S V2)
set_option maxHeartbeats 4000000 in
set_option maxRecDepth 20000 in
theorem c12_harm (l : Launch) : zCT l yX12_harm cX12_harm 4 (some .int) { frames := 4, cells := 0, slots := 0, locals := 92 } t12_harm := by
  refine zCT_of (by decide) (fun as S V post h => by obtain ⟨a1, a2, Q, rfl, -⟩ := h; exact Nat.le_of_ble_eq_true rfl) ?_
  intro X S V as post C E hT
  obtain ⟨a1, a2, Q, rfl, hM, hK, hpost⟩ := hT
  obtain ⟨w_53, r_53, h_53, g_53_0, g_53_2, g_53_7, g_53_8, g_53_10, g_53_11, g_53_12, g_53_13, g_53_14, g_53_16, g_53_21, g_53_22, g_53_23, g_53_24⟩ := PSm_53 hM
  obtain ⟨r_58, h_58⟩ := PSm_58 hM
  show zW X S V 0 0 [some (zR 53), some (zI a1), some (zI a2), none] [] 0
  unfold m12_harm at hK
  refine a_iload_n C dX12_harm_0 rfl ?_
  refine a_iload_n C dX12_harm_1 rfl ?_
  refine a_callS (as := [zI a1, zI a2]) (rest := []) C 2 (fun l => c12_arePair l) ml_X12_173 sa_X12_arePair in_X12 co_X12_arePair (by decide +kernel) rfl ⟨Nat.le_of_ble_eq_true rfl, Nat.le_of_ble_eq_true rfl⟩ (Nat.le_of_ble_eq_true rfl) dX12_harm_2 ⟨Nat.le_of_ble_eq_true rfl, Nat.le_of_ble_eq_true rfl⟩ ?_
  refine ⟨a1, a2, _, rfl, hK, fun r2 V2 hK => ?_⟩
  try dsimp only [Option.toList, List.cons_append, List.nil_append]
  obtain ⟨q1, hK⟩ := hK
  refine a_if_ne C 11 dX12_harm_5 (by decide) q1 (fun q2 => ?_) (fun q2 => ?_)
  · replace hK := hK.1 q2
    refine a_aload_n C dX12_harm_11 rfl ?_
    refine a_iload_n C dX12_harm_12 rfl ?_
    refine a_iload_n C dX12_harm_13 rfl ?_
    refine a_callV (as := [zI a1, zI a2]) (rest := []) C 2 (fun l => c12_harmOf l) h_53 ⟨_, _, rfl⟩ (by decide) ml_X12_176 im_X12_harmOf se_X12_harmOf in_X12 co_X12_harmOf (by decide +kernel) rfl ⟨Nat.le_of_ble_eq_true rfl, Nat.le_of_ble_eq_true rfl⟩ (Nat.le_of_ble_eq_true rfl) dX12_harm_14 ⟨Nat.le_of_ble_eq_true rfl, Nat.le_of_ble_eq_true rfl⟩ ?_
    refine ⟨a1, a2, _, rfl, hM, hK, fun r14 V14 hK => ?_⟩
    try dsimp only [Option.toList, List.cons_append, List.nil_append]
    refine a_istore_n C dX12_harm_17 (Nat.le_of_ble_eq_true rfl) ?_
    refine a_iload_n C dX12_harm_18 rfl ?_
    refine a_iconst C dX12_harm_19 ?_
    obtain ⟨q3, hK⟩ := hK
    refine a_icmp_ne C 26 dX12_harm_20 (by decide) ⟨q3, ⟨by decide, by decide⟩⟩ (fun q4 => ?_) (fun q4 => ?_)
    · replace hK := hK.1 q4
      refine a_aload_n C dX12_harm_26 rfl ?_
      refine a_getI C fl_X12_94_12 h_53 rfl dX12_harm_27 (fun r5 => ?_)
      refine a_bipush C dX12_harm_30 (by decide) ?_
      refine a_icmp_ne C 38 dX12_harm_32 (by decide) ⟨r5, ⟨by decide, by decide⟩⟩ (fun q6 => ?_) (fun q6 => ?_)
      · replace hK := hK.1 q6
        refine a_aload_n C dX12_harm_38 rfl ?_
        refine a_getR C fl_X12_22_12 h_53 rfl g_53_10 dX12_harm_39 ?_
        refine a_iconst C dX12_harm_42 ?_
        refine a_aload_n C dX12_harm_43 rfl ?_
        refine a_getI C fl_X12_94_12 h_53 rfl dX12_harm_44 (fun r7 => ?_)
        refine a_imul C dX12_harm_47 ?_
        refine a_iload_n C dX12_harm_48 rfl ?_
        obtain ⟨q8, hK⟩ := hK
        obtain ⟨q9, hK⟩ := hK
        refine a_iast C h_58 dX12_harm_49 (by decide) ⟨q8, q9⟩ ?_
        refine a_aload_n C dX12_harm_50 rfl ?_
        refine a_getR C fl_X12_22_12 h_53 rfl g_53_10 dX12_harm_51 ?_
        refine a_iconst C dX12_harm_54 ?_
        refine a_aload_n C dX12_harm_55 rfl ?_
        refine a_getI C fl_X12_94_12 h_53 rfl dX12_harm_56 (fun r10 => ?_)
        refine a_imul C dX12_harm_59 ?_
        refine a_iconst C dX12_harm_60 ?_
        refine a_iadd C dX12_harm_61 ?_
        refine a_iload_n C dX12_harm_62 rfl ?_
        obtain ⟨q11, hK⟩ := hK
        obtain ⟨q12, hK⟩ := hK
        refine a_iast C h_58 dX12_harm_63 (by decide) ⟨q11, q12⟩ ?_
        refine a_aload_n C dX12_harm_64 rfl ?_
        refine a_dup C dX12_harm_65 rfl ?_
        refine a_getI C fl_X12_94_12 h_53 rfl dX12_harm_66 (fun r13 => ?_)
        refine a_iconst C dX12_harm_69 ?_
        refine a_iadd C dX12_harm_70 ?_
        obtain ⟨q14, hK⟩ := hK
        refine a_putI C fl_X12_94_12 (Or.inl rfl) h_53 rfl dX12_harm_71 ⟨q14, fun q => by cases q⟩ ?_
        refine a_iload_n C dX12_harm_74 rfl ?_
        exact a_iret C E dX12_harm_75 (Nat.le_refl _) (Nat.le_refl _) (hpost _ _ hK)
      · replace hK := hK.2 q6
        refine a_bipush C dX12_harm_35 (by decide) ?_
        exact a_iret C E dX12_harm_37 (Nat.le_refl _) (Nat.le_refl _) (hpost _ _ hK)
    · replace hK := hK.2 q4
      refine a_bipush C dX12_harm_23 (by decide) ?_
      exact a_iret C E dX12_harm_25 (Nat.le_refl _) (Nat.le_refl _) (hpost _ _ hK)
  · replace hK := hK.2 q2
    refine a_bipush C dX12_harm_8 (by decide) ?_
    exact a_iret C E dX12_harm_10 (Nat.le_refl _) (Nat.le_refl _) (hpost _ _ hK)

def m12_ended_L60  (Q : Int → zV → Prop) : Nat → Int → Int → zV → Prop
  | 0 => fun _ _ _ => False
  | n + 1 => fun a1 a2 V => (inR a2) ∧ ((6 ≤ a2 → Q a1 V) ∧ (a2 < 6 → m12_isAlive V a2 (fun r75 V75 => (inR r75) ∧ ((r75 = 0 → (0 ≤ (3 * a2) ∧ (3 * a2) < 18) ∧ (0 ≤ (3 * a2) ∧ (3 * a2) < 18) ∧ m12_ended_L60  Q n a1 (a2 + 1) (vset V75 57 ((3 * a2)).toNat (V75 57 ((3 * a2)).toNat))) ∧ (¬ r75 = 0 → (0 ≤ (3 * a2) ∧ (3 * a2) < 18) ∧ m12_capped V75 ((V75 57 ((3 * a2)).toNat) + 2) (fun r91 V91 => (0 ≤ (3 * a2) ∧ (3 * a2) < 18) ∧ (inR r91) ∧ m12_ended_L60  Q n a1 (a2 + 1) (vset V91 57 ((3 * a2)).toNat r91)))))))
def m12_ended_J43 (k4 : Int → Int → zV → Prop) (Q : Int → zV → Prop) (a2 : Int) (a3 : Int) (s0 : Int) (s1 : Int) (V : zV) : Prop :=
  (0 ≤ a3 ∧ a3 < 56) ∧ k4 (s1 + s0) (a2 + 1) (vset V 56 (a3).toNat (-1))
def m12_ended_L4  (Q : Int → zV → Prop) : Nat → Int → Int → zV → Prop
  | 0 => fun _ _ _ => False
  | n + 1 => fun a1 a2 V => (inR a2) ∧ (inR (2 * (V 53 5))) ∧ (((2 * (V 53 5)) ≤ a2 → ∃ nn27, m12_ended_L60  Q nn27 a1 0 V) ∧ (a2 < (2 * (V 53 5)) → (0 ≤ a2 ∧ a2 < 2147483648) ∧ (0 ≤ a2 ∧ a2 < 2147483648) ∧ (0 ≤ (((7 * (a2 / 2)) + 5) + (a2 % 2)) ∧ (((7 * (a2 / 2)) + 5) + (a2 % 2)) < 56) ∧ ((¬ (V 56 ((((7 * (a2 / 2)) + 5) + (a2 % 2))).toNat) = (-1) → m12_ended_J43 (m12_ended_L4  Q n) Q a2 (((7 * (a2 / 2)) + 5) + (a2 % 2)) 1 a1 V) ∧ ((V 56 ((((7 * (a2 / 2)) + 5) + (a2 % 2))).toNat) = (-1) → m12_ended_J43 (m12_ended_L4  Q n) Q a2 (((7 * (a2 / 2)) + 5) + (a2 % 2)) 0 a1 V))))
def m12_ended  (V : zV)  (Q : Int → zV → Prop) : Prop :=
  ∃ nn69, m12_ended_L4  Q nn69 0 0 V
def t12_ended : zT := fun as S V post => ∃ (Q : Int → zV → Prop), as = [zR 53] ∧ PSm S ∧ m12_ended V Q ∧ (∀ r V2, Q r V2 → post (some (zI r)) S V2)
set_option maxHeartbeats 4000000 in
set_option maxRecDepth 20000 in
theorem c12_ended (l : Launch) : zCT l yX12_ended cX12_ended 4 (some .int) { frames := 1, cells := 0, slots := 0, locals := 21 } t12_ended := by
  refine zCT_of (by decide) (fun as S V post h => by obtain ⟨Q, rfl, -⟩ := h; exact Nat.le_of_ble_eq_true rfl) ?_
  intro X S V as post C E hT
  obtain ⟨Q, rfl, hM, hK, hpost⟩ := hT
  obtain ⟨w_53, r_53, h_53, g_53_0, g_53_2, g_53_7, g_53_8, g_53_10, g_53_11, g_53_12, g_53_13, g_53_14, g_53_16, g_53_21, g_53_22, g_53_23, g_53_24⟩ := PSm_53 hM
  obtain ⟨r_57, h_57⟩ := PSm_57 hM
  obtain ⟨r_56, h_56⟩ := PSm_56 hM
  show zW X S V 0 0 [some (zR 53), none, none, none] [] 0
  unfold m12_ended at hK
  have L4 : ∀ (n : Nat) (a1 : Int) (a2 : Int) (V : zV), m12_ended_L4  Q n a1 a2 V → zW X S V 0 0 [some (zR 53), some (zI a1), some (zI a2), none] [] 4 := by
    intro n4
    induction n4 with
    | zero => intro _ _ _ hK; exact hK.elim
    | succ n4 ih4 =>
      intro a1 a2 V hK
      unfold m12_ended_L4 at hK
      refine a_iload_n C dX12_ended_4 rfl ?_
      refine a_iconst C dX12_ended_5 ?_
      refine a_aload_n C dX12_ended_6 rfl ?_
      refine a_getI C fl_X12_91_12 h_53 rfl dX12_ended_7 (fun r35 => ?_)
      refine a_imul C dX12_ended_10 ?_
      obtain ⟨q36, hK⟩ := hK
      obtain ⟨q37, hK⟩ := hK
      refine a_icmp_ge C 58 dX12_ended_11 (by decide) ⟨q36, q37⟩ (fun q38 => ?_) (fun q38 => ?_)
      · replace hK := hK.1 q38
        have L60 : ∀ (n : Nat) (a1 : Int) (a2 : Int) (V : zV), m12_ended_L60  Q n a1 a2 V → zW X S V 0 0 [some (zR 53), some (zI a1), some (zI a2), none] [] 60 := by
          intro n60
          induction n60 with
          | zero => intro _ _ _ hK; exact hK.elim
          | succ n60 ih60 =>
            intro a1 a2 V hK
            unfold m12_ended_L60 at hK
            refine a_iload_n C dX12_ended_60 rfl ?_
            refine a_bipush C dX12_ended_61 (by decide) ?_
            obtain ⟨q50, hK⟩ := hK
            refine a_icmp_ge C 112 dX12_ended_63 (by decide) ⟨q50, ⟨by decide, by decide⟩⟩ (fun q51 => ?_) (fun q51 => ?_)
            · replace hK := hK.1 q51
              refine a_iload_n C dX12_ended_112 rfl ?_
              exact a_iret C E dX12_ended_113 (Nat.le_refl _) (Nat.le_refl _) (hpost _ _ hK)
            · replace hK := hK.2 q51
              refine a_aload_n C dX12_ended_66 rfl ?_
              refine a_getR C fl_X12_19_12 h_53 rfl g_53_8 dX12_ended_67 ?_
              refine a_iconst C dX12_ended_70 ?_
              refine a_iload_n C dX12_ended_71 rfl ?_
              refine a_imul C dX12_ended_72 ?_
              refine a_aload_n C dX12_ended_73 rfl ?_
              refine a_iload_n C dX12_ended_74 rfl ?_
              refine a_callV (as := [zI a2]) (rest := [zI (3 * a2), zR 57]) C 1 (fun l => c12_isAlive l) h_53 ⟨_, _, rfl⟩ (by decide) ml_X12_143 im_X12_isAlive se_X12_isAlive in_X12 co_X12_isAlive (by decide +kernel) rfl ⟨Nat.le_of_ble_eq_true rfl, Nat.le_of_ble_eq_true rfl⟩ (Nat.le_of_ble_eq_true rfl) dX12_ended_75 ⟨Nat.le_of_ble_eq_true rfl, Nat.le_of_ble_eq_true rfl⟩ ?_
              refine ⟨a2, _, rfl, hM, hK, fun r75 V75 hK => ?_⟩
              try dsimp only [Option.toList, List.cons_append, List.nil_append]
              obtain ⟨q52, hK⟩ := hK
              refine a_if_eq C 97 dX12_ended_78 (by decide) q52 (fun q53 => ?_) (fun q53 => ?_)
              · replace hK := hK.1 q53
                refine a_aload_n C dX12_ended_97 rfl ?_
                refine a_getR C fl_X12_19_12 h_53 rfl g_53_8 dX12_ended_98 ?_
                refine a_iconst C dX12_ended_101 ?_
                refine a_iload_n C dX12_ended_102 rfl ?_
                refine a_imul C dX12_ended_103 ?_
                obtain ⟨q54, hK⟩ := hK
                refine a_iald C h_57 dX12_ended_104 (by decide) q54 (fun r55 => ?_)
                obtain ⟨q56, hK⟩ := hK
                refine a_iast C h_57 dX12_ended_105 (by decide) ⟨q56, r55⟩ ?_
                refine a_iinc C dX12_ended_106 rfl (Nat.le_of_ble_eq_true rfl) ?_
                refine a_goto C 60 dX12_ended_109 (by decide) ?_
                exact a_ls (lsub_s rfl (lsub_s rfl (lsub_s rfl (lsub_n lsub_0)))) (ih60 a1 (a2 + 1) _ hK)
              · replace hK := hK.2 q53
                refine a_aload_n C dX12_ended_81 rfl ?_
                refine a_getR C fl_X12_19_12 h_53 rfl g_53_8 dX12_ended_82 ?_
                refine a_iconst C dX12_ended_85 ?_
                refine a_iload_n C dX12_ended_86 rfl ?_
                refine a_imul C dX12_ended_87 ?_
                obtain ⟨q57, hK⟩ := hK
                refine a_iald C h_57 dX12_ended_88 (by decide) q57 (fun r58 => ?_)
                refine a_iconst C dX12_ended_89 ?_
                refine a_iadd C dX12_ended_90 ?_
                refine a_callS (as := [zI ((V75 57 ((3 * a2)).toNat) + 2)]) (rest := [zI (3 * a2), zR 57]) C 1 (fun l => c12_capped l) ml_X12_150 sa_X12_capped in_X12 co_X12_capped (by decide +kernel) rfl ⟨Nat.le_of_ble_eq_true rfl, Nat.le_of_ble_eq_true rfl⟩ (Nat.le_of_ble_eq_true rfl) dX12_ended_91 ⟨Nat.le_of_ble_eq_true rfl, Nat.le_of_ble_eq_true rfl⟩ ?_
                refine ⟨((V75 57 ((3 * a2)).toNat) + 2), _, rfl, hK, fun r91 V91 hK => ?_⟩
                try dsimp only [Option.toList, List.cons_append, List.nil_append]
                refine a_goto C 105 dX12_ended_94 (by decide) ?_
                obtain ⟨q59, hK⟩ := hK
                obtain ⟨q60, hK⟩ := hK
                refine a_iast C h_57 dX12_ended_105 (by decide) ⟨q59, q60⟩ ?_
                refine a_iinc C dX12_ended_106 rfl (Nat.le_of_ble_eq_true rfl) ?_
                refine a_goto C 60 dX12_ended_109 (by decide) ?_
                exact a_ls (lsub_s rfl (lsub_s rfl (lsub_s rfl (lsub_n lsub_0)))) (ih60 a1 (a2 + 1) _ hK)
        refine a_iconst C dX12_ended_58 ?_
        refine a_istore_n C dX12_ended_59 (Nat.le_of_ble_eq_true rfl) ?_
        obtain ⟨nn61, hK⟩ := hK
        exact a_ls (lsub_s rfl (lsub_s rfl (lsub_s rfl (lsub_n lsub_0)))) (L60 nn61 a1 0 _ hK)
      · replace hK := hK.2 q38
        have J43 : ∀ (a2 : Int) (a3 : Int) (s0 : Int) (s1 : Int) (V : zV), m12_ended_J43 (m12_ended_L4  Q n4) Q a2 a3 s0 s1 V → zW X S V 0 0 [some (zR 53), none, some (zI a2), some (zI a3)] [zI s0, zI s1] 43 := by
          intro a2 a3 s0 s1 V hK
          unfold m12_ended_J43 at hK
          refine a_iadd C dX12_ended_43 ?_
          refine a_istore_n C dX12_ended_44 (Nat.le_of_ble_eq_true rfl) ?_
          refine a_aload_n C dX12_ended_45 rfl ?_
          refine a_getR C fl_X12_16_12 h_53 rfl g_53_7 dX12_ended_46 ?_
          refine a_iload_n C dX12_ended_49 rfl ?_
          refine a_iconst C dX12_ended_50 ?_
          obtain ⟨q63, hK⟩ := hK
          refine a_iast C h_56 dX12_ended_51 (by decide) ⟨q63, ⟨by decide, by decide⟩⟩ ?_
          refine a_iinc C dX12_ended_52 rfl (Nat.le_of_ble_eq_true rfl) ?_
          refine a_goto C 4 dX12_ended_55 (by decide) ?_
          exact a_ls (lsub_s rfl (lsub_s rfl (lsub_s rfl (lsub_n lsub_0)))) (ih4 (s1 + s0) (a2 + 1) _ hK)
        refine a_bipush C dX12_ended_14 (by decide) ?_
        refine a_iload_n C dX12_ended_16 rfl ?_
        refine a_iconst C dX12_ended_17 ?_
        obtain ⟨q64, hK⟩ := hK
        refine a_idiv C dX12_ended_18 ⟨q64, by decide, by decide⟩ ?_
        refine a_imul C dX12_ended_19 ?_
        refine a_iconst C dX12_ended_20 ?_
        refine a_iadd C dX12_ended_21 ?_
        refine a_iload_n C dX12_ended_22 rfl ?_
        refine a_iconst C dX12_ended_23 ?_
        obtain ⟨q65, hK⟩ := hK
        refine a_irem C dX12_ended_24 ⟨q65, by decide, by decide⟩ ?_
        refine a_iadd C dX12_ended_25 ?_
        refine a_istore_n C dX12_ended_26 (Nat.le_of_ble_eq_true rfl) ?_
        refine a_iload_n C dX12_ended_27 rfl ?_
        refine a_aload_n C dX12_ended_28 rfl ?_
        refine a_getR C fl_X12_16_12 h_53 rfl g_53_7 dX12_ended_29 ?_
        refine a_iload_n C dX12_ended_32 rfl ?_
        obtain ⟨q66, hK⟩ := hK
        refine a_iald C h_56 dX12_ended_33 (by decide) q66 (fun r67 => ?_)
        refine a_iconst C dX12_ended_34 ?_
        refine a_icmp_ne C 42 dX12_ended_35 (by decide) ⟨r67, ⟨by decide, by decide⟩⟩ (fun q68 => ?_) (fun q68 => ?_)
        · replace hK := hK.1 q68
          refine a_iconst C dX12_ended_42 ?_
          exact a_ls (lsub_s rfl (lsub_n (lsub_s rfl (lsub_s rfl lsub_0)))) (J43 a2 (((7 * (a2 / 2)) + 5) + (a2 % 2)) 1 a1 _ hK)
        · replace hK := hK.2 q68
          refine a_iconst C dX12_ended_38 ?_
          refine a_goto C 43 dX12_ended_39 (by decide) ?_
          exact a_ls (lsub_s rfl (lsub_n (lsub_s rfl (lsub_s rfl lsub_0)))) (J43 a2 (((7 * (a2 / 2)) + 5) + (a2 % 2)) 0 a1 _ hK)
  refine a_iconst C dX12_ended_0 ?_
  refine a_istore_n C dX12_ended_1 (Nat.le_of_ble_eq_true rfl) ?_
  refine a_iconst C dX12_ended_2 ?_
  refine a_istore_n C dX12_ended_3 (Nat.le_of_ble_eq_true rfl) ?_
  obtain ⟨nn69, hK⟩ := hK
  exact a_ls (lsub_s rfl (lsub_s rfl (lsub_s rfl (lsub_n lsub_0)))) (L4 nn69 0 0 _ hK)

def m12_season  (V : zV)  (Q : Int → zV → Prop) : Prop :=
  m12_lacks V (fun r1 V1 => (inR r1) ∧ ((r1 = 0 → m12_ended V1 (fun r13 V13 => Q r13 V13)) ∧ (¬ r1 = 0 → Q (-103) V1)))
def t12_season : zT := fun as S V post => ∃ (Q : Int → zV → Prop), as = [zR 53] ∧ PSm S ∧ m12_season V Q ∧ (∀ r V2, Q r V2 → post (some (zI r)) S V2)
set_option maxHeartbeats 4000000 in
set_option maxRecDepth 20000 in
theorem c12_season (l : Launch) : zCT l yX12_season cX12_season 1 (some .int) { frames := 2, cells := 0, slots := 0, locals := 44 } t12_season := by
  refine zCT_of (by decide) (fun as S V post h => by obtain ⟨Q, rfl, -⟩ := h; exact Nat.le_of_ble_eq_true rfl) ?_
  intro X S V as post C E hT
  obtain ⟨Q, rfl, hM, hK, hpost⟩ := hT
  obtain ⟨w_53, r_53, h_53, g_53_0, g_53_2, g_53_7, g_53_8, g_53_10, g_53_11, g_53_12, g_53_13, g_53_14, g_53_16, g_53_21, g_53_22, g_53_23, g_53_24⟩ := PSm_53 hM
  show zW X S V 0 0 [some (zR 53)] [] 0
  unfold m12_season at hK
  refine a_aload_n C dX12_season_0 rfl ?_
  refine a_callV (as := []) (rest := []) C 0 (fun l => c12_lacks l) h_53 ⟨_, _, rfl⟩ (by decide) ml_X12_139 im_X12_lacks se_X12_lacks in_X12 co_X12_lacks (by decide +kernel) rfl ⟨Nat.le_of_ble_eq_true rfl, Nat.le_of_ble_eq_true rfl⟩ (Nat.le_of_ble_eq_true rfl) dX12_season_1 ⟨Nat.le_of_ble_eq_true rfl, Nat.le_of_ble_eq_true rfl⟩ ?_
  refine ⟨_, rfl, hM, hK, fun r1 V1 hK => ?_⟩
  try dsimp only [Option.toList, List.cons_append, List.nil_append]
  obtain ⟨q1, hK⟩ := hK
  refine a_if_eq C 12 dX12_season_4 (by decide) q1 (fun q2 => ?_) (fun q2 => ?_)
  · replace hK := hK.1 q2
    refine a_aload_n C dX12_season_12 rfl ?_
    refine a_callV (as := []) (rest := []) C 0 (fun l => c12_ended l) h_53 ⟨_, _, rfl⟩ (by decide) ml_X12_179 im_X12_ended se_X12_ended in_X12 co_X12_ended (by decide +kernel) rfl ⟨Nat.le_of_ble_eq_true rfl, Nat.le_of_ble_eq_true rfl⟩ (Nat.le_of_ble_eq_true rfl) dX12_season_13 ⟨Nat.le_of_ble_eq_true rfl, Nat.le_of_ble_eq_true rfl⟩ ?_
    refine ⟨_, rfl, hM, hK, fun r13 V13 hK => ?_⟩
    try dsimp only [Option.toList, List.cons_append, List.nil_append]
    exact a_iret C E dX12_season_16 (Nat.le_refl _) (Nat.le_refl _) (hpost _ _ hK)
  · replace hK := hK.2 q2
    refine a_bipush C dX12_season_7 (by decide) ?_
    refine a_goto C 16 dX12_season_9 (by decide) ?_
    exact a_iret C E dX12_season_16 (Nat.le_refl _) (Nat.le_refl _) (hpost _ _ hK)

def m12_copy_L2 (c0 : Nat) (n0 : Int) (c1 : Nat) (n1 : Int) (Q : zV → Prop) : Nat → Int → zV → Prop
  | 0 => fun _ _ => False
  | n + 1 => fun a2 V => (inR a2) ∧ ((n0 ≤ a2 → Q V) ∧ (a2 < n0 → (0 ≤ a2 ∧ a2 < n0) ∧ (0 ≤ a2 ∧ a2 < n1) ∧ m12_copy_L2 c0 n0 c1 n1 Q n (a2 + 1) (vset V c1 (a2).toNat (V c0 (a2).toNat))))
def m12_copy (c0 : Nat) (n0 : Int) (c1 : Nat) (n1 : Int) (V : zV)  (Q : zV → Prop) : Prop :=
  ∃ nn11, m12_copy_L2 c0 n0 c1 n1 Q nn11 0 V
def t12_copy : zT := fun as S V post => ∃ (c0 : Nat) (n0 : Int) (c1 : Nat) (n1 : Int) (Q : zV → Prop), as = [zR c0, zR c1] ∧ ((∃ rf : Nat → Option Nat, S[c0]? = some (13, n0, rf)) ∧ 0 ≤ n0 ∧ n0 ≤ 2147483647) ∧ ((∃ rf : Nat → Option Nat, S[c1]? = some (13, n1, rf)) ∧ 0 ≤ n1 ∧ n1 ≤ 2147483647) ∧ m12_copy c0 n0 c1 n1 V Q ∧ (∀ V2, Q V2 → post none S V2)
set_option maxHeartbeats 4000000 in
set_option maxRecDepth 20000 in
theorem c12_copy (l : Launch) : zCT l yX12_copy cX12_copy 3 none { frames := 0, cells := 0, slots := 0, locals := 0 } t12_copy := by
  refine zCT_of (by decide) (fun as S V post h => by obtain ⟨c0, n0, c1, n1, Q, rfl, -⟩ := h; exact Nat.le_of_ble_eq_true rfl) ?_
  intro X S V as post C E hT
  obtain ⟨c0, n0, c1, n1, Q, rfl, hA0, hA1, hK, hpost⟩ := hT
  obtain ⟨⟨r_c0, h_c0⟩, h0_c0, h1_c0⟩ := hA0
  obtain ⟨⟨r_c1, h_c1⟩, h0_c1, h1_c1⟩ := hA1
  show zW X S V 0 0 [some (zR c0), some (zR c1), none] [] 0
  unfold m12_copy at hK
  have L2 : ∀ (n : Nat) (a2 : Int) (V : zV), m12_copy_L2 c0 n0 c1 n1 Q n a2 V → zW X S V 0 0 [some (zR c0), some (zR c1), some (zI a2)] [] 2 := by
    intro n2
    induction n2 with
    | zero => intro _ _ hK; exact hK.elim
    | succ n2 ih2 =>
      intro a2 V hK
      unfold m12_copy_L2 at hK
      refine a_iload_n C dX12_copy_2 rfl ?_
      refine a_aload_n C dX12_copy_3 rfl ?_
      refine a_alen C 13 (by decide) h_c0 dX12_copy_4 h0_c0 ?_
      obtain ⟨q6, hK⟩ := hK
      refine a_icmp_ge C 20 dX12_copy_5 (by decide) ⟨q6, ⟨by omega, by omega⟩⟩ (fun q7 => ?_) (fun q7 => ?_)
      · replace hK := hK.1 q7
        exact a_vret C E dX12_copy_20 (Nat.le_refl _) (Nat.le_refl _) (hpost _ hK)
      · replace hK := hK.2 q7
        refine a_aload_n C dX12_copy_8 rfl ?_
        refine a_iload_n C dX12_copy_9 rfl ?_
        refine a_aload_n C dX12_copy_10 rfl ?_
        refine a_iload_n C dX12_copy_11 rfl ?_
        obtain ⟨q8, hK⟩ := hK
        refine a_iald C h_c0 dX12_copy_12 h1_c0 q8 (fun r9 => ?_)
        obtain ⟨q10, hK⟩ := hK
        refine a_iast C h_c1 dX12_copy_13 h1_c1 ⟨q10, r9⟩ ?_
        refine a_iinc C dX12_copy_14 rfl (Nat.le_of_ble_eq_true rfl) ?_
        refine a_goto C 2 dX12_copy_17 (by decide) ?_
        exact a_ls (lsub_s rfl (lsub_s rfl (lsub_s rfl lsub_0))) (ih2 (a2 + 1) _ hK)
  refine a_iconst C dX12_copy_0 ?_
  refine a_istore_n C dX12_copy_1 (Nat.le_of_ble_eq_true rfl) ?_
  obtain ⟨nn11, hK⟩ := hK
  exact a_ls (lsub_s rfl (lsub_s rfl (lsub_s rfl lsub_0))) (L2 nn11 0 _ hK)

def m12_save  (V : zV)  (Q : zV → Prop) : Prop :=
  m12_copy 56 56 59 56 V (fun V8 => m12_copy 57 18 60 18 V8 (fun V19 => Q V19))
def t12_save : zT := fun as S V post => ∃ (Q : zV → Prop), as = [zR 53] ∧ PSm S ∧ m12_save V Q ∧ (∀ V2, Q V2 → post none S V2)
set_option maxHeartbeats 4000000 in
set_option maxRecDepth 20000 in
theorem c12_save (l : Launch) : zCT l yX12_save cX12_save 1 none { frames := 1, cells := 0, slots := 0, locals := 22 } t12_save := by
  refine zCT_of (by decide) (fun as S V post h => by obtain ⟨Q, rfl, -⟩ := h; exact Nat.le_of_ble_eq_true rfl) ?_
  intro X S V as post C E hT
  obtain ⟨Q, rfl, hM, hK, hpost⟩ := hT
  obtain ⟨w_53, r_53, h_53, g_53_0, g_53_2, g_53_7, g_53_8, g_53_10, g_53_11, g_53_12, g_53_13, g_53_14, g_53_16, g_53_21, g_53_22, g_53_23, g_53_24⟩ := PSm_53 hM
  obtain ⟨r_56, h_56⟩ := PSm_56 hM
  obtain ⟨r_59, h_59⟩ := PSm_59 hM
  obtain ⟨r_57, h_57⟩ := PSm_57 hM
  obtain ⟨r_60, h_60⟩ := PSm_60 hM
  show zW X S V 0 0 [some (zR 53)] [] 0
  unfold m12_save at hK
  refine a_aload_n C dX12_save_0 rfl ?_
  refine a_getR C fl_X12_16_12 h_53 rfl g_53_7 dX12_save_1 ?_
  refine a_aload_n C dX12_save_4 rfl ?_
  refine a_getR C fl_X12_25_12 h_53 rfl g_53_11 dX12_save_5 ?_
  refine a_callS (as := [zR 56, zR 59]) (rest := []) C 2 (fun l => c12_copy l) ml_X12_182 sa_X12_copy in_X12 co_X12_copy (by decide +kernel) rfl ⟨Nat.le_of_ble_eq_true rfl, Nat.le_of_ble_eq_true rfl⟩ (Nat.le_of_ble_eq_true rfl) dX12_save_8 ⟨Nat.le_of_ble_eq_true rfl, Nat.le_of_ble_eq_true rfl⟩ ?_
  refine ⟨56, 56, 59, 56, _, rfl, ⟨⟨_, h_56⟩, by decide, by decide⟩, ⟨⟨_, h_59⟩, by decide, by decide⟩, hK, fun V8 hK => ?_⟩
  try dsimp only [Option.toList, List.cons_append, List.nil_append]
  refine a_aload_n C dX12_save_11 rfl ?_
  refine a_getR C fl_X12_19_12 h_53 rfl g_53_8 dX12_save_12 ?_
  refine a_aload_n C dX12_save_15 rfl ?_
  refine a_getR C fl_X12_28_12 h_53 rfl g_53_12 dX12_save_16 ?_
  refine a_callS (as := [zR 57, zR 60]) (rest := []) C 2 (fun l => c12_copy l) ml_X12_182 sa_X12_copy in_X12 co_X12_copy (by decide +kernel) rfl ⟨Nat.le_of_ble_eq_true rfl, Nat.le_of_ble_eq_true rfl⟩ (Nat.le_of_ble_eq_true rfl) dX12_save_19 ⟨Nat.le_of_ble_eq_true rfl, Nat.le_of_ble_eq_true rfl⟩ ?_
  refine ⟨57, 18, 60, 18, _, rfl, ⟨⟨_, h_57⟩, by decide, by decide⟩, ⟨⟨_, h_60⟩, by decide, by decide⟩, hK, fun V19 hK => ?_⟩
  try dsimp only [Option.toList, List.cons_append, List.nil_append]
  exact a_vret C E dX12_save_22 (Nat.le_refl _) (Nat.le_refl _) (hpost _ hK)

def m12_layBack  (V : zV)  (Q : zV → Prop) : Prop :=
  m12_copy 59 56 56 56 V (fun V8 => m12_copy 60 18 57 18 V8 (fun V19 => Q V19))
def t12_layBack : zT := fun as S V post => ∃ (Q : zV → Prop), as = [zR 53] ∧ PSm S ∧ m12_layBack V Q ∧ (∀ V2, Q V2 → post none S V2)
set_option maxHeartbeats 4000000 in
set_option maxRecDepth 20000 in
theorem c12_layBack (l : Launch) : zCT l yX12_layBack cX12_layBack 1 none { frames := 1, cells := 0, slots := 0, locals := 22 } t12_layBack := by
  refine zCT_of (by decide) (fun as S V post h => by obtain ⟨Q, rfl, -⟩ := h; exact Nat.le_of_ble_eq_true rfl) ?_
  intro X S V as post C E hT
  obtain ⟨Q, rfl, hM, hK, hpost⟩ := hT
  obtain ⟨w_53, r_53, h_53, g_53_0, g_53_2, g_53_7, g_53_8, g_53_10, g_53_11, g_53_12, g_53_13, g_53_14, g_53_16, g_53_21, g_53_22, g_53_23, g_53_24⟩ := PSm_53 hM
  obtain ⟨r_59, h_59⟩ := PSm_59 hM
  obtain ⟨r_56, h_56⟩ := PSm_56 hM
  obtain ⟨r_60, h_60⟩ := PSm_60 hM
  obtain ⟨r_57, h_57⟩ := PSm_57 hM
  show zW X S V 0 0 [some (zR 53)] [] 0
  unfold m12_layBack at hK
  refine a_aload_n C dX12_layBack_0 rfl ?_
  refine a_getR C fl_X12_25_12 h_53 rfl g_53_11 dX12_layBack_1 ?_
  refine a_aload_n C dX12_layBack_4 rfl ?_
  refine a_getR C fl_X12_16_12 h_53 rfl g_53_7 dX12_layBack_5 ?_
  refine a_callS (as := [zR 59, zR 56]) (rest := []) C 2 (fun l => c12_copy l) ml_X12_182 sa_X12_copy in_X12 co_X12_copy (by decide +kernel) rfl ⟨Nat.le_of_ble_eq_true rfl, Nat.le_of_ble_eq_true rfl⟩ (Nat.le_of_ble_eq_true rfl) dX12_layBack_8 ⟨Nat.le_of_ble_eq_true rfl, Nat.le_of_ble_eq_true rfl⟩ ?_
  refine ⟨59, 56, 56, 56, _, rfl, ⟨⟨_, h_59⟩, by decide, by decide⟩, ⟨⟨_, h_56⟩, by decide, by decide⟩, hK, fun V8 hK => ?_⟩
  try dsimp only [Option.toList, List.cons_append, List.nil_append]
  refine a_aload_n C dX12_layBack_11 rfl ?_
  refine a_getR C fl_X12_28_12 h_53 rfl g_53_12 dX12_layBack_12 ?_
  refine a_aload_n C dX12_layBack_15 rfl ?_
  refine a_getR C fl_X12_19_12 h_53 rfl g_53_8 dX12_layBack_16 ?_
  refine a_callS (as := [zR 60, zR 57]) (rest := []) C 2 (fun l => c12_copy l) ml_X12_182 sa_X12_copy in_X12 co_X12_copy (by decide +kernel) rfl ⟨Nat.le_of_ble_eq_true rfl, Nat.le_of_ble_eq_true rfl⟩ (Nat.le_of_ble_eq_true rfl) dX12_layBack_19 ⟨Nat.le_of_ble_eq_true rfl, Nat.le_of_ble_eq_true rfl⟩ ?_
  refine ⟨60, 18, 57, 18, _, rfl, ⟨⟨_, h_60⟩, by decide, by decide⟩, ⟨⟨_, h_57⟩, by decide, by decide⟩, hK, fun V19 hK => ?_⟩
  try dsimp only [Option.toList, List.cons_append, List.nil_append]
  exact a_vret C E dX12_layBack_22 (Nat.le_refl _) (Nat.le_refl _) (hpost _ hK)

def m12_getsOn  (V : zV) (a1 : Int) (a2 : Int) (a3 : Int) (Q : Int → zV → Prop) : Prop :=
  m12_onSide V a2 a3 (fun r3 V3 => (inR r3) ∧ (inR a1) ∧ ((¬ r3 = a1 → m12_canBuy V3 a1 a2 a3 (fun r16 V16 => (inR r16) ∧ ((r16 = 0 → Q (-1) V16) ∧ (¬ r16 = 0 → m12_bought V16 a1 a2 a3 (fun r26 V26 => Q r26 V26))))) ∧ (r3 = a1 → Q 0 V3)))
def t12_getsOn : zT := fun as S V post => ∃ (a1 : Int) (a2 : Int) (a3 : Int) (Q : Int → zV → Prop), as = [zR 53, zI a1, zI a2, zI a3] ∧ PSm S ∧ m12_getsOn V a1 a2 a3 Q ∧ (∀ r V2, Q r V2 → post (some (zI r)) S V2)
set_option maxHeartbeats 4000000 in
set_option maxRecDepth 20000 in
theorem c12_getsOn (l : Launch) : zCT l yX12_getsOn cX12_getsOn 4 (some .int) { frames := 3, cells := 0, slots := 0, locals := 72 } t12_getsOn := by
  refine zCT_of (by decide) (fun as S V post h => by obtain ⟨a1, a2, a3, Q, rfl, -⟩ := h; exact Nat.le_of_ble_eq_true rfl) ?_
  intro X S V as post C E hT
  obtain ⟨a1, a2, a3, Q, rfl, hM, hK, hpost⟩ := hT
  obtain ⟨w_53, r_53, h_53, g_53_0, g_53_2, g_53_7, g_53_8, g_53_10, g_53_11, g_53_12, g_53_13, g_53_14, g_53_16, g_53_21, g_53_22, g_53_23, g_53_24⟩ := PSm_53 hM
  show zW X S V 0 0 [some (zR 53), some (zI a1), some (zI a2), some (zI a3)] [] 0
  unfold m12_getsOn at hK
  refine a_aload_n C dX12_getsOn_0 rfl ?_
  refine a_iload_n C dX12_getsOn_1 rfl ?_
  refine a_iload_n C dX12_getsOn_2 rfl ?_
  refine a_callV (as := [zI a2, zI a3]) (rest := []) C 2 (fun l => c12_onSide l) h_53 ⟨_, _, rfl⟩ (by decide) ml_X12_116 im_X12_onSide se_X12_onSide in_X12 co_X12_onSide (by decide +kernel) rfl ⟨Nat.le_of_ble_eq_true rfl, Nat.le_of_ble_eq_true rfl⟩ (Nat.le_of_ble_eq_true rfl) dX12_getsOn_3 ⟨Nat.le_of_ble_eq_true rfl, Nat.le_of_ble_eq_true rfl⟩ ?_
  refine ⟨a2, a3, _, rfl, hM, hK, fun r3 V3 hK => ?_⟩
  try dsimp only [Option.toList, List.cons_append, List.nil_append]
  refine a_iload_n C dX12_getsOn_6 rfl ?_
  obtain ⟨q1, hK⟩ := hK
  obtain ⟨q2, hK⟩ := hK
  refine a_icmp_ne C 12 dX12_getsOn_7 (by decide) ⟨q1, q2⟩ (fun q3 => ?_) (fun q3 => ?_)
  · replace hK := hK.1 q3
    refine a_aload_n C dX12_getsOn_12 rfl ?_
    refine a_iload_n C dX12_getsOn_13 rfl ?_
    refine a_iload_n C dX12_getsOn_14 rfl ?_
    refine a_iload_n C dX12_getsOn_15 rfl ?_
    refine a_callV (as := [zI a1, zI a2, zI a3]) (rest := []) C 3 (fun l => c12_canBuy l) h_53 ⟨_, _, rfl⟩ (by decide) ml_X12_153 im_X12_canBuy se_X12_canBuy in_X12 co_X12_canBuy (by decide +kernel) rfl ⟨Nat.le_of_ble_eq_true rfl, Nat.le_of_ble_eq_true rfl⟩ (Nat.le_of_ble_eq_true rfl) dX12_getsOn_16 ⟨Nat.le_of_ble_eq_true rfl, Nat.le_of_ble_eq_true rfl⟩ ?_
    refine ⟨a1, a2, a3, _, rfl, hM, hK, fun r16 V16 hK => ?_⟩
    try dsimp only [Option.toList, List.cons_append, List.nil_append]
    obtain ⟨q4, hK⟩ := hK
    refine a_if_eq C 32 dX12_getsOn_19 (by decide) q4 (fun q5 => ?_) (fun q5 => ?_)
    · replace hK := hK.1 q5
      refine a_iconst C dX12_getsOn_32 ?_
      exact a_iret C E dX12_getsOn_33 (Nat.le_refl _) (Nat.le_refl _) (hpost _ _ hK)
    · replace hK := hK.2 q5
      refine a_aload_n C dX12_getsOn_22 rfl ?_
      refine a_iload_n C dX12_getsOn_23 rfl ?_
      refine a_iload_n C dX12_getsOn_24 rfl ?_
      refine a_iload_n C dX12_getsOn_25 rfl ?_
      refine a_callV (as := [zI a1, zI a2, zI a3]) (rest := []) C 3 (fun l => c12_bought l) h_53 ⟨_, _, rfl⟩ (by decide) ml_X12_157 im_X12_bought se_X12_bought in_X12 co_X12_bought (by decide +kernel) rfl ⟨Nat.le_of_ble_eq_true rfl, Nat.le_of_ble_eq_true rfl⟩ (Nat.le_of_ble_eq_true rfl) dX12_getsOn_26 ⟨Nat.le_of_ble_eq_true rfl, Nat.le_of_ble_eq_true rfl⟩ ?_
      refine ⟨a1, a2, a3, _, rfl, hM, hK, fun r26 V26 hK => ?_⟩
      try dsimp only [Option.toList, List.cons_append, List.nil_append]
      refine a_goto C 33 dX12_getsOn_29 (by decide) ?_
      exact a_iret C E dX12_getsOn_33 (Nat.le_refl _) (Nat.le_refl _) (hpost _ _ hK)
  · replace hK := hK.2 q3
    refine a_iconst C dX12_getsOn_10 ?_
    exact a_iret C E dX12_getsOn_11 (Nat.le_refl _) (Nat.le_refl _) (hpost _ _ hK)

def m12_bothOn_J59  (Q : Int → zV → Prop) (a4 : Int) (a5 : Int) (s0 : Int) (V : zV) : Prop :=
  m12_layBack V (fun V62 => (inR s0) ∧ ((s0 = 0 → Q (-1) V62) ∧ (¬ s0 = 0 → Q (a4 + a5) V62)))
def m12_bothOn_J26  (Q : Int → zV → Prop) (a1 : Int) (a2 : Int) (a3 : Int) (a4 : Int) (s0 : Int) (V : zV) : Prop :=
  (inR s0) ∧ ((s0 = (-1) → m12_bothOn_J59  Q a4 s0 0 V) ∧ (¬ s0 = (-1) → m12_onSide V a1 0 (fun r37 V37 => (inR r37) ∧ (inR a2) ∧ ((¬ r37 = a2 → m12_bothOn_J59  Q a4 s0 0 V37) ∧ (r37 = a2 → m12_onSide V37 a1 1 (fun r47 V47 => (inR r47) ∧ (inR a3) ∧ ((¬ r47 = a3 → m12_bothOn_J59  Q a4 s0 0 V47) ∧ (r47 = a3 → m12_bothOn_J59  Q a4 s0 1 V47))))))))
def m12_bothOn  (V : zV) (a1 : Int) (a2 : Int) (a3 : Int) (Q : Int → zV → Prop) : Prop :=
  m12_getsOn V a2 a1 0 (fun r4 V4 => (inR r4) ∧ ((¬ r4 = (-1) → m12_getsOn V4 a3 a1 1 (fun r23 V23 => m12_bothOn_J26  Q a1 a2 a3 r4 r23 V23)) ∧ (r4 = (-1) → m12_bothOn_J26  Q a1 a2 a3 r4 (-1) V4)))
def t12_bothOn : zT := fun as S V post => ∃ (a1 : Int) (a2 : Int) (a3 : Int) (Q : Int → zV → Prop), as = [zR 53, zI a1, zI a2, zI a3] ∧ PSm S ∧ m12_bothOn V a1 a2 a3 Q ∧ (∀ r V2, Q r V2 → post (some (zI r)) S V2)
set_option maxHeartbeats 4000000 in
set_option maxRecDepth 20000 in
theorem c12_bothOn (l : Launch) : zCT l yX12_bothOn cX12_bothOn 7 (some .int) { frames := 4, cells := 0, slots := 0, locals := 95 } t12_bothOn := by
  refine zCT_of (by decide) (fun as S V post h => by obtain ⟨a1, a2, a3, Q, rfl, -⟩ := h; exact Nat.le_of_ble_eq_true rfl) ?_
  intro X S V as post C E hT
  obtain ⟨a1, a2, a3, Q, rfl, hM, hK, hpost⟩ := hT
  obtain ⟨w_53, r_53, h_53, g_53_0, g_53_2, g_53_7, g_53_8, g_53_10, g_53_11, g_53_12, g_53_13, g_53_14, g_53_16, g_53_21, g_53_22, g_53_23, g_53_24⟩ := PSm_53 hM
  show zW X S V 0 0 [some (zR 53), some (zI a1), some (zI a2), some (zI a3), none, none, none] [] 0
  unfold m12_bothOn at hK
  have J26 : ∀ (a1 : Int) (a2 : Int) (a3 : Int) (a4 : Int) (s0 : Int) (V : zV), m12_bothOn_J26  Q a1 a2 a3 a4 s0 V → zW X S V 0 0 [some (zR 53), some (zI a1), some (zI a2), some (zI a3), some (zI a4), none, none] [zI s0] 26 := by
    intro a1 a2 a3 a4 s0 V hK
    unfold m12_bothOn_J26 at hK
    have J59 : ∀ (a4 : Int) (a5 : Int) (s0 : Int) (V : zV), m12_bothOn_J59  Q a4 a5 s0 V → zW X S V 0 0 [some (zR 53), none, none, none, some (zI a4), some (zI a5), none] [zI s0] 59 := by
      intro a4 a5 s0 V hK
      unfold m12_bothOn_J59 at hK
      refine a_istore C dX12_bothOn_59 (Nat.le_of_ble_eq_true rfl) ?_
      refine a_aload_n C dX12_bothOn_61 rfl ?_
      refine a_callV (as := []) (rest := []) C 0 (fun l => c12_layBack l) h_53 ⟨_, _, rfl⟩ (by decide) ml_X12_189 im_X12_layBack se_X12_layBack in_X12 co_X12_layBack (by decide +kernel) rfl ⟨Nat.le_of_ble_eq_true rfl, Nat.le_of_ble_eq_true rfl⟩ (Nat.le_of_ble_eq_true rfl) dX12_bothOn_62 ⟨Nat.le_of_ble_eq_true rfl, Nat.le_of_ble_eq_true rfl⟩ ?_
      refine ⟨_, rfl, hM, hK, fun V62 hK => ?_⟩
      try dsimp only [Option.toList, List.cons_append, List.nil_append]
      refine a_iload C dX12_bothOn_65 rfl ?_
      obtain ⟨q15, hK⟩ := hK
      refine a_if_eq C 78 dX12_bothOn_67 (by decide) q15 (fun q16 => ?_) (fun q16 => ?_)
      · replace hK := hK.1 q16
        refine a_iconst C dX12_bothOn_78 ?_
        exact a_iret C E dX12_bothOn_79 (Nat.le_refl _) (Nat.le_refl _) (hpost _ _ hK)
      · replace hK := hK.2 q16
        refine a_iload C dX12_bothOn_70 rfl ?_
        refine a_iload C dX12_bothOn_72 rfl ?_
        refine a_iadd C dX12_bothOn_74 ?_
        refine a_goto C 79 dX12_bothOn_75 (by decide) ?_
        exact a_iret C E dX12_bothOn_79 (Nat.le_refl _) (Nat.le_refl _) (hpost _ _ hK)
    refine a_istore C dX12_bothOn_26 (Nat.le_of_ble_eq_true rfl) ?_
    refine a_iload C dX12_bothOn_28 rfl ?_
    refine a_iconst C dX12_bothOn_30 ?_
    obtain ⟨q17, hK⟩ := hK
    refine a_icmp_eq C 58 dX12_bothOn_31 (by decide) ⟨q17, ⟨by decide, by decide⟩⟩ (fun q18 => ?_) (fun q18 => ?_)
    · replace hK := hK.1 q18
      refine a_iconst C dX12_bothOn_58 ?_
      exact a_ls (lsub_s rfl (lsub_n (lsub_n (lsub_n (lsub_s rfl (lsub_s rfl (lsub_n lsub_0))))))) (J59 a4 s0 0 _ hK)
    · replace hK := hK.2 q18
      refine a_aload_n C dX12_bothOn_34 rfl ?_
      refine a_iload_n C dX12_bothOn_35 rfl ?_
      refine a_iconst C dX12_bothOn_36 ?_
      refine a_callV (as := [zI a1, zI 0]) (rest := []) C 2 (fun l => c12_onSide l) h_53 ⟨_, _, rfl⟩ (by decide) ml_X12_116 im_X12_onSide se_X12_onSide in_X12 co_X12_onSide (by decide +kernel) rfl ⟨Nat.le_of_ble_eq_true rfl, Nat.le_of_ble_eq_true rfl⟩ (Nat.le_of_ble_eq_true rfl) dX12_bothOn_37 ⟨Nat.le_of_ble_eq_true rfl, Nat.le_of_ble_eq_true rfl⟩ ?_
      refine ⟨a1, 0, _, rfl, hM, hK, fun r37 V37 hK => ?_⟩
      try dsimp only [Option.toList, List.cons_append, List.nil_append]
      refine a_iload_n C dX12_bothOn_40 rfl ?_
      obtain ⟨q19, hK⟩ := hK
      obtain ⟨q20, hK⟩ := hK
      refine a_icmp_ne C 58 dX12_bothOn_41 (by decide) ⟨q19, q20⟩ (fun q21 => ?_) (fun q21 => ?_)
      · replace hK := hK.1 q21
        refine a_iconst C dX12_bothOn_58 ?_
        exact a_ls (lsub_s rfl (lsub_n (lsub_n (lsub_n (lsub_s rfl (lsub_s rfl (lsub_n lsub_0))))))) (J59 a4 s0 0 _ hK)
      · replace hK := hK.2 q21
        refine a_aload_n C dX12_bothOn_44 rfl ?_
        refine a_iload_n C dX12_bothOn_45 rfl ?_
        refine a_iconst C dX12_bothOn_46 ?_
        refine a_callV (as := [zI a1, zI 1]) (rest := []) C 2 (fun l => c12_onSide l) h_53 ⟨_, _, rfl⟩ (by decide) ml_X12_116 im_X12_onSide se_X12_onSide in_X12 co_X12_onSide (by decide +kernel) rfl ⟨Nat.le_of_ble_eq_true rfl, Nat.le_of_ble_eq_true rfl⟩ (Nat.le_of_ble_eq_true rfl) dX12_bothOn_47 ⟨Nat.le_of_ble_eq_true rfl, Nat.le_of_ble_eq_true rfl⟩ ?_
        refine ⟨a1, 1, _, rfl, hM, hK, fun r47 V47 hK => ?_⟩
        try dsimp only [Option.toList, List.cons_append, List.nil_append]
        refine a_iload_n C dX12_bothOn_50 rfl ?_
        obtain ⟨q22, hK⟩ := hK
        obtain ⟨q23, hK⟩ := hK
        refine a_icmp_ne C 58 dX12_bothOn_51 (by decide) ⟨q22, q23⟩ (fun q24 => ?_) (fun q24 => ?_)
        · replace hK := hK.1 q24
          refine a_iconst C dX12_bothOn_58 ?_
          exact a_ls (lsub_s rfl (lsub_n (lsub_n (lsub_n (lsub_s rfl (lsub_s rfl (lsub_n lsub_0))))))) (J59 a4 s0 0 _ hK)
        · replace hK := hK.2 q24
          refine a_iconst C dX12_bothOn_54 ?_
          refine a_goto C 59 dX12_bothOn_55 (by decide) ?_
          exact a_ls (lsub_s rfl (lsub_n (lsub_n (lsub_n (lsub_s rfl (lsub_s rfl (lsub_n lsub_0))))))) (J59 a4 s0 1 _ hK)
  refine a_aload_n C dX12_bothOn_0 rfl ?_
  refine a_iload_n C dX12_bothOn_1 rfl ?_
  refine a_iload_n C dX12_bothOn_2 rfl ?_
  refine a_iconst C dX12_bothOn_3 ?_
  refine a_callV (as := [zI a2, zI a1, zI 0]) (rest := []) C 3 (fun l => c12_getsOn l) h_53 ⟨_, _, rfl⟩ (by decide) ml_X12_186 im_X12_getsOn se_X12_getsOn in_X12 co_X12_getsOn (by decide +kernel) rfl ⟨Nat.le_of_ble_eq_true rfl, Nat.le_of_ble_eq_true rfl⟩ (Nat.le_of_ble_eq_true rfl) dX12_bothOn_4 ⟨Nat.le_of_ble_eq_true rfl, Nat.le_of_ble_eq_true rfl⟩ ?_
  refine ⟨a2, a1, 0, _, rfl, hM, hK, fun r4 V4 hK => ?_⟩
  try dsimp only [Option.toList, List.cons_append, List.nil_append]
  refine a_istore C dX12_bothOn_7 (Nat.le_of_ble_eq_true rfl) ?_
  refine a_iload C dX12_bothOn_9 rfl ?_
  refine a_iconst C dX12_bothOn_11 ?_
  obtain ⟨q25, hK⟩ := hK
  refine a_icmp_ne C 19 dX12_bothOn_12 (by decide) ⟨q25, ⟨by decide, by decide⟩⟩ (fun q26 => ?_) (fun q26 => ?_)
  · replace hK := hK.1 q26
    refine a_aload_n C dX12_bothOn_19 rfl ?_
    refine a_iload_n C dX12_bothOn_20 rfl ?_
    refine a_iload_n C dX12_bothOn_21 rfl ?_
    refine a_iconst C dX12_bothOn_22 ?_
    refine a_callV (as := [zI a3, zI a1, zI 1]) (rest := []) C 3 (fun l => c12_getsOn l) h_53 ⟨_, _, rfl⟩ (by decide) ml_X12_186 im_X12_getsOn se_X12_getsOn in_X12 co_X12_getsOn (by decide +kernel) rfl ⟨Nat.le_of_ble_eq_true rfl, Nat.le_of_ble_eq_true rfl⟩ (Nat.le_of_ble_eq_true rfl) dX12_bothOn_23 ⟨Nat.le_of_ble_eq_true rfl, Nat.le_of_ble_eq_true rfl⟩ ?_
    refine ⟨a3, a1, 1, _, rfl, hM, hK, fun r23 V23 hK => ?_⟩
    try dsimp only [Option.toList, List.cons_append, List.nil_append]
    exact a_ls (lsub_s rfl (lsub_s rfl (lsub_s rfl (lsub_s rfl (lsub_s rfl (lsub_n (lsub_n lsub_0))))))) (J26 a1 a2 a3 r4 r23 _ hK)
  · replace hK := hK.2 q26
    refine a_iconst C dX12_bothOn_15 ?_
    refine a_goto C 26 dX12_bothOn_16 (by decide) ?_
    exact a_ls (lsub_s rfl (lsub_s rfl (lsub_s rfl (lsub_s rfl (lsub_s rfl (lsub_n (lsub_n lsub_0))))))) (J26 a1 a2 a3 r4 (-1) _ hK)

def m12_comeBy_J159 (k63 : Int → Int → Int → Int → Int → Int → zV → Prop) (Q : Int → zV → Prop) (a1 : Int) (a2 : Int) (a3 : Int) (a4 : Int) (a6 : Int) (a8 : Int) (a9 : Int) (s0 : Int) (V : zV) : Prop :=
  (inR a9) ∧ ((a9 = 0 → k63 a1 a2 a3 a4 s0 (a6 + 1) V) ∧ (¬ a9 = 0 → k63 a1 a2 a3 a8 s0 (a6 + 1) V))
def m12_comeBy_J145 (k63 : Int → Int → Int → Int → Int → Int → zV → Prop) (Q : Int → zV → Prop) (a1 : Int) (a2 : Int) (a3 : Int) (a4 : Int) (a5 : Int) (a6 : Int) (a7 : Int) (a8 : Int) (s0 : Int) (V : zV) : Prop :=
  (inR s0) ∧ ((s0 = 0 → m12_comeBy_J159 (k63) Q a1 a2 a3 a4 a6 a8 s0 a5 V) ∧ (¬ s0 = 0 → m12_comeBy_J159 (k63) Q a1 a2 a3 a4 a6 a8 s0 a7 V))
def m12_comeBy_J119 (k63 : Int → Int → Int → Int → Int → Int → zV → Prop) (Q : Int → zV → Prop) (a1 : Int) (a2 : Int) (a3 : Int) (a4 : Int) (a5 : Int) (a6 : Int) (a7 : Int) (s0 : Int) (V : zV) : Prop :=
  (inR s0) ∧ ((s0 = (-1) → m12_comeBy_J145 (k63) Q a1 a2 a3 a4 a5 a6 a7 s0 0 V) ∧ (¬ s0 = (-1) → (inR a4) ∧ ((a4 = (-1) → m12_comeBy_J145 (k63) Q a1 a2 a3 a4 a5 a6 a7 s0 1 V) ∧ (¬ a4 = (-1) → ((a4 ≤ s0 → m12_comeBy_J145 (k63) Q a1 a2 a3 a4 a5 a6 a7 s0 0 V) ∧ (s0 < a4 → m12_comeBy_J145 (k63) Q a1 a2 a3 a4 a5 a6 a7 s0 1 V))))))
def m12_comeBy_L63  (Q : Int → zV → Prop) : Nat → Int → Int → Int → Int → Int → Int → zV → Prop
  | 0 => fun _ _ _ _ _ _ _ => False
  | n + 1 => fun a1 a2 a3 a4 a5 a6 V => (inR a6) ∧ (inR (2 * (V 53 5))) ∧ (((2 * (V 53 5)) ≤ a6 → (inR a3) ∧ ((¬ a3 = 0 → Q a5 V) ∧ (a3 = 0 → Q a4 V))) ∧ (a6 < (2 * (V 53 5)) → (0 ≤ a6 ∧ a6 < 2147483648) ∧ m12_isStruck V (a6 / 2) (fun r83 V83 => (inR r83) ∧ ((r83 = 0 → (0 ≤ a6 ∧ a6 < 2147483648) ∧ (inR (a6 % 2)) ∧ ((¬ (a6 % 2) = 0 → m12_bothOn V83 (a6 / 2) a2 a1 (fun r116 V116 => m12_comeBy_J119 (m12_comeBy_L63  Q n) Q a1 a2 a3 a4 a5 a6 (a6 / 2) r116 V116)) ∧ ((a6 % 2) = 0 → m12_bothOn V83 (a6 / 2) a1 a2 (fun r105 V105 => m12_comeBy_J119 (m12_comeBy_L63  Q n) Q a1 a2 a3 a4 a5 a6 (a6 / 2) r105 V105)))) ∧ (¬ r83 = 0 → m12_comeBy_J119 (m12_comeBy_L63  Q n) Q a1 a2 a3 a4 a5 a6 (a6 / 2) (-1) V83)))))
def m12_comeBy  (V : zV) (a1 : Int) (a2 : Int) (a3 : Int) (Q : Int → zV → Prop) : Prop :=
  m12_arePair V a1 a2 (fun r2 V2 => (inR r2) ∧ ((¬ r2 = 0 → (inR a3) ∧ m12_in V2 a3 0 1 (fun r15 V15 => (inR r15) ∧ ((¬ r15 = 0 → m12_lacks V15 (fun r25 V25 => (inR r25) ∧ ((¬ r25 = 0 → Q (-103) V25) ∧ (r25 = 0 → m12_isAlive V25 a1 (fun r33 V33 => (inR r33) ∧ ((r33 = 0 → Q (-103) V33) ∧ (¬ r33 = 0 → m12_isAlive V33 a2 (fun r41 V41 => (inR r41) ∧ ((¬ r41 = 0 → m12_save V41 (fun V51 => ∃ nn104, m12_comeBy_L63  Q nn104 a1 a2 a3 (-1) (-1) 0 V51)) ∧ (r41 = 0 → Q (-103) V41)))))))))) ∧ (r15 = 0 → Q (-102) V15)))) ∧ (r2 = 0 → Q (-101) V2)))
def t12_comeBy : zT := fun as S V post => ∃ (a1 : Int) (a2 : Int) (a3 : Int) (Q : Int → zV → Prop), as = [zR 53, zI a1, zI a2, zI a3] ∧ PSm S ∧ m12_comeBy V a1 a2 a3 Q ∧ (∀ r V2, Q r V2 → post (some (zI r)) S V2)
set_option maxHeartbeats 4000000 in
set_option maxRecDepth 20000 in
theorem c12_comeBy (l : Launch) : zCT l yX12_comeBy cX12_comeBy 10 (some .int) { frames := 5, cells := 0, slots := 0, locals := 121 } t12_comeBy := by
  refine zCT_of (by decide) (fun as S V post h => by obtain ⟨a1, a2, a3, Q, rfl, -⟩ := h; exact Nat.le_of_ble_eq_true rfl) ?_
  intro X S V as post C E hT
  obtain ⟨a1, a2, a3, Q, rfl, hM, hK, hpost⟩ := hT
  obtain ⟨w_53, r_53, h_53, g_53_0, g_53_2, g_53_7, g_53_8, g_53_10, g_53_11, g_53_12, g_53_13, g_53_14, g_53_16, g_53_21, g_53_22, g_53_23, g_53_24⟩ := PSm_53 hM
  show zW X S V 0 0 [some (zR 53), some (zI a1), some (zI a2), some (zI a3), none, none, none, none, none, none] [] 0
  unfold m12_comeBy at hK
  refine a_iload_n C dX12_comeBy_0 rfl ?_
  refine a_iload_n C dX12_comeBy_1 rfl ?_
  refine a_callS (as := [zI a1, zI a2]) (rest := []) C 2 (fun l => c12_arePair l) ml_X12_173 sa_X12_arePair in_X12 co_X12_arePair (by decide +kernel) rfl ⟨Nat.le_of_ble_eq_true rfl, Nat.le_of_ble_eq_true rfl⟩ (Nat.le_of_ble_eq_true rfl) dX12_comeBy_2 ⟨Nat.le_of_ble_eq_true rfl, Nat.le_of_ble_eq_true rfl⟩ ?_
  refine ⟨a1, a2, _, rfl, hK, fun r2 V2 hK => ?_⟩
  try dsimp only [Option.toList, List.cons_append, List.nil_append]
  obtain ⟨q1, hK⟩ := hK
  refine a_if_ne C 11 dX12_comeBy_5 (by decide) q1 (fun q2 => ?_) (fun q2 => ?_)
  · replace hK := hK.1 q2
    refine a_iload_n C dX12_comeBy_11 rfl ?_
    obtain ⟨q3, hK⟩ := hK
    refine a_i2l C dX12_comeBy_12 q3 ?_
    refine a_lconst C 0 dX12_comeBy_13 (by decide) ?_
    refine a_lconst C 1 dX12_comeBy_14 (by decide) ?_
    refine a_callS (as := [zJ a3, zJ 0, zJ 1]) (rest := []) C 3 (fun l => c12_in l) ml_X12_62 sa_X12_in in_X12 co_X12_in (by decide +kernel) rfl ⟨Nat.le_of_ble_eq_true rfl, Nat.le_of_ble_eq_true rfl⟩ (Nat.le_of_ble_eq_true rfl) dX12_comeBy_15 ⟨Nat.le_of_ble_eq_true rfl, Nat.le_of_ble_eq_true rfl⟩ ?_
    refine ⟨a3, 0, 1, _, rfl, hK, fun r15 V15 hK => ?_⟩
    try dsimp only [Option.toList, List.cons_append, List.nil_append]
    obtain ⟨q4, hK⟩ := hK
    refine a_if_ne C 24 dX12_comeBy_18 (by decide) q4 (fun q5 => ?_) (fun q5 => ?_)
    · replace hK := hK.1 q5
      refine a_aload_n C dX12_comeBy_24 rfl ?_
      refine a_callV (as := []) (rest := []) C 0 (fun l => c12_lacks l) h_53 ⟨_, _, rfl⟩ (by decide) ml_X12_139 im_X12_lacks se_X12_lacks in_X12 co_X12_lacks (by decide +kernel) rfl ⟨Nat.le_of_ble_eq_true rfl, Nat.le_of_ble_eq_true rfl⟩ (Nat.le_of_ble_eq_true rfl) dX12_comeBy_25 ⟨Nat.le_of_ble_eq_true rfl, Nat.le_of_ble_eq_true rfl⟩ ?_
      refine ⟨_, rfl, hM, hK, fun r25 V25 hK => ?_⟩
      try dsimp only [Option.toList, List.cons_append, List.nil_append]
      obtain ⟨q6, hK⟩ := hK
      refine a_if_ne C 47 dX12_comeBy_28 (by decide) q6 (fun q7 => ?_) (fun q7 => ?_)
      · replace hK := hK.1 q7
        refine a_bipush C dX12_comeBy_47 (by decide) ?_
        exact a_iret C E dX12_comeBy_49 (Nat.le_refl _) (Nat.le_refl _) (hpost _ _ hK)
      · replace hK := hK.2 q7
        refine a_aload_n C dX12_comeBy_31 rfl ?_
        refine a_iload_n C dX12_comeBy_32 rfl ?_
        refine a_callV (as := [zI a1]) (rest := []) C 1 (fun l => c12_isAlive l) h_53 ⟨_, _, rfl⟩ (by decide) ml_X12_143 im_X12_isAlive se_X12_isAlive in_X12 co_X12_isAlive (by decide +kernel) rfl ⟨Nat.le_of_ble_eq_true rfl, Nat.le_of_ble_eq_true rfl⟩ (Nat.le_of_ble_eq_true rfl) dX12_comeBy_33 ⟨Nat.le_of_ble_eq_true rfl, Nat.le_of_ble_eq_true rfl⟩ ?_
        refine ⟨a1, _, rfl, hM, hK, fun r33 V33 hK => ?_⟩
        try dsimp only [Option.toList, List.cons_append, List.nil_append]
        obtain ⟨q8, hK⟩ := hK
        refine a_if_eq C 47 dX12_comeBy_36 (by decide) q8 (fun q9 => ?_) (fun q9 => ?_)
        · replace hK := hK.1 q9
          refine a_bipush C dX12_comeBy_47 (by decide) ?_
          exact a_iret C E dX12_comeBy_49 (Nat.le_refl _) (Nat.le_refl _) (hpost _ _ hK)
        · replace hK := hK.2 q9
          refine a_aload_n C dX12_comeBy_39 rfl ?_
          refine a_iload_n C dX12_comeBy_40 rfl ?_
          refine a_callV (as := [zI a2]) (rest := []) C 1 (fun l => c12_isAlive l) h_53 ⟨_, _, rfl⟩ (by decide) ml_X12_143 im_X12_isAlive se_X12_isAlive in_X12 co_X12_isAlive (by decide +kernel) rfl ⟨Nat.le_of_ble_eq_true rfl, Nat.le_of_ble_eq_true rfl⟩ (Nat.le_of_ble_eq_true rfl) dX12_comeBy_41 ⟨Nat.le_of_ble_eq_true rfl, Nat.le_of_ble_eq_true rfl⟩ ?_
          refine ⟨a2, _, rfl, hM, hK, fun r41 V41 hK => ?_⟩
          try dsimp only [Option.toList, List.cons_append, List.nil_append]
          obtain ⟨q10, hK⟩ := hK
          refine a_if_ne C 50 dX12_comeBy_44 (by decide) q10 (fun q11 => ?_) (fun q11 => ?_)
          · replace hK := hK.1 q11
            have L63 : ∀ (n : Nat) (a1 : Int) (a2 : Int) (a3 : Int) (a4 : Int) (a5 : Int) (a6 : Int) (V : zV), m12_comeBy_L63  Q n a1 a2 a3 a4 a5 a6 V → zW X S V 0 0 [some (zR 53), some (zI a1), some (zI a2), some (zI a3), some (zI a4), some (zI a5), some (zI a6), none, none, none] [] 63 := by
              intro n63
              induction n63 with
              | zero => intro _ _ _ _ _ _ _ hK; exact hK.elim
              | succ n63 ih63 =>
                intro a1 a2 a3 a4 a5 a6 V hK
                unfold m12_comeBy_L63 at hK
                refine a_iload C dX12_comeBy_63 rfl ?_
                refine a_iconst C dX12_comeBy_65 ?_
                refine a_aload_n C dX12_comeBy_66 rfl ?_
                refine a_getI C fl_X12_91_12 h_53 rfl dX12_comeBy_67 (fun r58 => ?_)
                refine a_imul C dX12_comeBy_70 ?_
                obtain ⟨q59, hK⟩ := hK
                obtain ⟨q60, hK⟩ := hK
                refine a_icmp_ge C 181 dX12_comeBy_71 (by decide) ⟨q59, q60⟩ (fun q61 => ?_) (fun q61 => ?_)
                · replace hK := hK.1 q61
                  refine a_iload_n C dX12_comeBy_181 rfl ?_
                  obtain ⟨q62, hK⟩ := hK
                  refine a_if_ne C 190 dX12_comeBy_182 (by decide) q62 (fun q63 => ?_) (fun q63 => ?_)
                  · replace hK := hK.1 q63
                    refine a_iload C dX12_comeBy_190 rfl ?_
                    exact a_iret C E dX12_comeBy_192 (Nat.le_refl _) (Nat.le_refl _) (hpost _ _ hK)
                  · replace hK := hK.2 q63
                    refine a_iload C dX12_comeBy_185 rfl ?_
                    refine a_goto C 192 dX12_comeBy_187 (by decide) ?_
                    exact a_iret C E dX12_comeBy_192 (Nat.le_refl _) (Nat.le_refl _) (hpost _ _ hK)
                · replace hK := hK.2 q61
                  have J119 : ∀ (a1 : Int) (a2 : Int) (a3 : Int) (a4 : Int) (a5 : Int) (a6 : Int) (a7 : Int) (s0 : Int) (V : zV), m12_comeBy_J119 (m12_comeBy_L63  Q n63) Q a1 a2 a3 a4 a5 a6 a7 s0 V → zW X S V 0 0 [some (zR 53), some (zI a1), some (zI a2), some (zI a3), some (zI a4), some (zI a5), some (zI a6), some (zI a7), none, none] [zI s0] 119 := by
                    intro a1 a2 a3 a4 a5 a6 a7 s0 V hK
                    unfold m12_comeBy_J119 at hK
                    have J145 : ∀ (a1 : Int) (a2 : Int) (a3 : Int) (a4 : Int) (a5 : Int) (a6 : Int) (a7 : Int) (a8 : Int) (s0 : Int) (V : zV), m12_comeBy_J145 (m12_comeBy_L63  Q n63) Q a1 a2 a3 a4 a5 a6 a7 a8 s0 V → zW X S V 0 0 [some (zR 53), some (zI a1), some (zI a2), some (zI a3), some (zI a4), some (zI a5), some (zI a6), some (zI a7), some (zI a8), none] [zI s0] 145 := by
                      intro a1 a2 a3 a4 a5 a6 a7 a8 s0 V hK
                      unfold m12_comeBy_J145 at hK
                      have J159 : ∀ (a1 : Int) (a2 : Int) (a3 : Int) (a4 : Int) (a6 : Int) (a8 : Int) (a9 : Int) (s0 : Int) (V : zV), m12_comeBy_J159 (m12_comeBy_L63  Q n63) Q a1 a2 a3 a4 a6 a8 a9 s0 V → zW X S V 0 0 [some (zR 53), some (zI a1), some (zI a2), some (zI a3), some (zI a4), none, some (zI a6), none, some (zI a8), some (zI a9)] [zI s0] 159 := by
                        intro a1 a2 a3 a4 a6 a8 a9 s0 V hK
                        unfold m12_comeBy_J159 at hK
                        refine a_istore C dX12_comeBy_159 (Nat.le_of_ble_eq_true rfl) ?_
                        refine a_iload C dX12_comeBy_161 rfl ?_
                        obtain ⟨q89, hK⟩ := hK
                        refine a_if_eq C 171 dX12_comeBy_163 (by decide) q89 (fun q90 => ?_) (fun q90 => ?_)
                        · replace hK := hK.1 q90
                          refine a_iload C dX12_comeBy_171 rfl ?_
                          refine a_istore C dX12_comeBy_173 (Nat.le_of_ble_eq_true rfl) ?_
                          refine a_iinc C dX12_comeBy_175 rfl (Nat.le_of_ble_eq_true rfl) ?_
                          refine a_goto C 63 dX12_comeBy_178 (by decide) ?_
                          exact a_ls (lsub_s rfl (lsub_s rfl (lsub_s rfl (lsub_s rfl (lsub_s rfl (lsub_s rfl (lsub_s rfl (lsub_n (lsub_n (lsub_n lsub_0)))))))))) (ih63 a1 a2 a3 a4 s0 (a6 + 1) _ hK)
                        · replace hK := hK.2 q90
                          refine a_iload C dX12_comeBy_166 rfl ?_
                          refine a_goto C 173 dX12_comeBy_168 (by decide) ?_
                          refine a_istore C dX12_comeBy_173 (Nat.le_of_ble_eq_true rfl) ?_
                          refine a_iinc C dX12_comeBy_175 rfl (Nat.le_of_ble_eq_true rfl) ?_
                          refine a_goto C 63 dX12_comeBy_178 (by decide) ?_
                          exact a_ls (lsub_s rfl (lsub_s rfl (lsub_s rfl (lsub_s rfl (lsub_s rfl (lsub_s rfl (lsub_s rfl (lsub_n (lsub_n (lsub_n lsub_0)))))))))) (ih63 a1 a2 a3 a8 s0 (a6 + 1) _ hK)
                      refine a_istore C dX12_comeBy_145 (Nat.le_of_ble_eq_true rfl) ?_
                      refine a_iload C dX12_comeBy_147 rfl ?_
                      obtain ⟨q91, hK⟩ := hK
                      refine a_if_eq C 157 dX12_comeBy_149 (by decide) q91 (fun q92 => ?_) (fun q92 => ?_)
                      · replace hK := hK.1 q92
                        refine a_iload C dX12_comeBy_157 rfl ?_
                        exact a_ls (lsub_s rfl (lsub_s rfl (lsub_s rfl (lsub_s rfl (lsub_s rfl (lsub_n (lsub_s rfl (lsub_n (lsub_s rfl (lsub_s rfl lsub_0)))))))))) (J159 a1 a2 a3 a4 a6 a8 s0 a5 _ hK)
                      · replace hK := hK.2 q92
                        refine a_iload C dX12_comeBy_152 rfl ?_
                        refine a_goto C 159 dX12_comeBy_154 (by decide) ?_
                        exact a_ls (lsub_s rfl (lsub_s rfl (lsub_s rfl (lsub_s rfl (lsub_s rfl (lsub_n (lsub_s rfl (lsub_n (lsub_s rfl (lsub_s rfl lsub_0)))))))))) (J159 a1 a2 a3 a4 a6 a8 s0 a7 _ hK)
                    refine a_istore C dX12_comeBy_119 (Nat.le_of_ble_eq_true rfl) ?_
                    refine a_iload C dX12_comeBy_121 rfl ?_
                    refine a_iconst C dX12_comeBy_123 ?_
                    obtain ⟨q93, hK⟩ := hK
                    refine a_icmp_eq C 144 dX12_comeBy_124 (by decide) ⟨q93, ⟨by decide, by decide⟩⟩ (fun q94 => ?_) (fun q94 => ?_)
                    · replace hK := hK.1 q94
                      refine a_iconst C dX12_comeBy_144 ?_
                      exact a_ls (lsub_s rfl (lsub_s rfl (lsub_s rfl (lsub_s rfl (lsub_s rfl (lsub_s rfl (lsub_s rfl (lsub_s rfl (lsub_s rfl (lsub_n lsub_0)))))))))) (J145 a1 a2 a3 a4 a5 a6 a7 s0 0 _ hK)
                    · replace hK := hK.2 q94
                      refine a_iload C dX12_comeBy_127 rfl ?_
                      refine a_iconst C dX12_comeBy_129 ?_
                      obtain ⟨q95, hK⟩ := hK
                      refine a_icmp_eq C 140 dX12_comeBy_130 (by decide) ⟨q95, ⟨by decide, by decide⟩⟩ (fun q96 => ?_) (fun q96 => ?_)
                      · replace hK := hK.1 q96
                        refine a_iconst C dX12_comeBy_140 ?_
                        refine a_goto C 145 dX12_comeBy_141 (by decide) ?_
                        exact a_ls (lsub_s rfl (lsub_s rfl (lsub_s rfl (lsub_s rfl (lsub_s rfl (lsub_s rfl (lsub_s rfl (lsub_s rfl (lsub_s rfl (lsub_n lsub_0)))))))))) (J145 a1 a2 a3 a4 a5 a6 a7 s0 1 _ hK)
                      · replace hK := hK.2 q96
                        refine a_iload C dX12_comeBy_133 rfl ?_
                        refine a_iload C dX12_comeBy_135 rfl ?_
                        refine a_icmp_ge C 144 dX12_comeBy_137 (by decide) ⟨q93, q95⟩ (fun q97 => ?_) (fun q97 => ?_)
                        · replace hK := hK.1 q97
                          refine a_iconst C dX12_comeBy_144 ?_
                          exact a_ls (lsub_s rfl (lsub_s rfl (lsub_s rfl (lsub_s rfl (lsub_s rfl (lsub_s rfl (lsub_s rfl (lsub_s rfl (lsub_s rfl (lsub_n lsub_0)))))))))) (J145 a1 a2 a3 a4 a5 a6 a7 s0 0 _ hK)
                        · replace hK := hK.2 q97
                          refine a_iconst C dX12_comeBy_140 ?_
                          refine a_goto C 145 dX12_comeBy_141 (by decide) ?_
                          exact a_ls (lsub_s rfl (lsub_s rfl (lsub_s rfl (lsub_s rfl (lsub_s rfl (lsub_s rfl (lsub_s rfl (lsub_s rfl (lsub_s rfl (lsub_n lsub_0)))))))))) (J145 a1 a2 a3 a4 a5 a6 a7 s0 1 _ hK)
                  refine a_iload C dX12_comeBy_74 rfl ?_
                  refine a_iconst C dX12_comeBy_76 ?_
                  obtain ⟨q98, hK⟩ := hK
                  refine a_idiv C dX12_comeBy_77 ⟨q98, by decide, by decide⟩ ?_
                  refine a_istore C dX12_comeBy_78 (Nat.le_of_ble_eq_true rfl) ?_
                  refine a_aload_n C dX12_comeBy_80 rfl ?_
                  refine a_iload C dX12_comeBy_81 rfl ?_
                  refine a_callV (as := [zI (a6 / 2)]) (rest := []) C 1 (fun l => c12_isStruck l) h_53 ⟨_, _, rfl⟩ (by decide) ml_X12_113 im_X12_isStruck se_X12_isStruck in_X12 co_X12_isStruck (by decide +kernel) rfl ⟨Nat.le_of_ble_eq_true rfl, Nat.le_of_ble_eq_true rfl⟩ (Nat.le_of_ble_eq_true rfl) dX12_comeBy_83 ⟨Nat.le_of_ble_eq_true rfl, Nat.le_of_ble_eq_true rfl⟩ ?_
                  refine ⟨(a6 / 2), _, rfl, hM, hK, fun r83 V83 hK => ?_⟩
                  try dsimp only [Option.toList, List.cons_append, List.nil_append]
                  obtain ⟨q99, hK⟩ := hK
                  refine a_if_eq C 93 dX12_comeBy_86 (by decide) q99 (fun q100 => ?_) (fun q100 => ?_)
                  · replace hK := hK.1 q100
                    refine a_iload C dX12_comeBy_93 rfl ?_
                    refine a_iconst C dX12_comeBy_95 ?_
                    obtain ⟨q101, hK⟩ := hK
                    refine a_irem C dX12_comeBy_96 ⟨q101, by decide, by decide⟩ ?_
                    obtain ⟨q102, hK⟩ := hK
                    refine a_if_ne C 111 dX12_comeBy_97 (by decide) q102 (fun q103 => ?_) (fun q103 => ?_)
                    · replace hK := hK.1 q103
                      refine a_aload_n C dX12_comeBy_111 rfl ?_
                      refine a_iload C dX12_comeBy_112 rfl ?_
                      refine a_iload_n C dX12_comeBy_114 rfl ?_
                      refine a_iload_n C dX12_comeBy_115 rfl ?_
                      refine a_callV (as := [zI (a6 / 2), zI a2, zI a1]) (rest := []) C 3 (fun l => c12_bothOn l) h_53 ⟨_, _, rfl⟩ (by decide) ml_X12_195 im_X12_bothOn se_X12_bothOn in_X12 co_X12_bothOn (by decide +kernel) rfl ⟨Nat.le_of_ble_eq_true rfl, Nat.le_of_ble_eq_true rfl⟩ (Nat.le_of_ble_eq_true rfl) dX12_comeBy_116 ⟨Nat.le_of_ble_eq_true rfl, Nat.le_of_ble_eq_true rfl⟩ ?_
                      refine ⟨(a6 / 2), a2, a1, _, rfl, hM, hK, fun r116 V116 hK => ?_⟩
                      try dsimp only [Option.toList, List.cons_append, List.nil_append]
                      exact a_ls (lsub_s rfl (lsub_s rfl (lsub_s rfl (lsub_s rfl (lsub_s rfl (lsub_s rfl (lsub_s rfl (lsub_s rfl (lsub_n (lsub_n lsub_0)))))))))) (J119 a1 a2 a3 a4 a5 a6 (a6 / 2) r116 _ hK)
                    · replace hK := hK.2 q103
                      refine a_aload_n C dX12_comeBy_100 rfl ?_
                      refine a_iload C dX12_comeBy_101 rfl ?_
                      refine a_iload_n C dX12_comeBy_103 rfl ?_
                      refine a_iload_n C dX12_comeBy_104 rfl ?_
                      refine a_callV (as := [zI (a6 / 2), zI a1, zI a2]) (rest := []) C 3 (fun l => c12_bothOn l) h_53 ⟨_, _, rfl⟩ (by decide) ml_X12_195 im_X12_bothOn se_X12_bothOn in_X12 co_X12_bothOn (by decide +kernel) rfl ⟨Nat.le_of_ble_eq_true rfl, Nat.le_of_ble_eq_true rfl⟩ (Nat.le_of_ble_eq_true rfl) dX12_comeBy_105 ⟨Nat.le_of_ble_eq_true rfl, Nat.le_of_ble_eq_true rfl⟩ ?_
                      refine ⟨(a6 / 2), a1, a2, _, rfl, hM, hK, fun r105 V105 hK => ?_⟩
                      try dsimp only [Option.toList, List.cons_append, List.nil_append]
                      refine a_goto C 119 dX12_comeBy_108 (by decide) ?_
                      exact a_ls (lsub_s rfl (lsub_s rfl (lsub_s rfl (lsub_s rfl (lsub_s rfl (lsub_s rfl (lsub_s rfl (lsub_s rfl (lsub_n (lsub_n lsub_0)))))))))) (J119 a1 a2 a3 a4 a5 a6 (a6 / 2) r105 _ hK)
                  · replace hK := hK.2 q100
                    refine a_iconst C dX12_comeBy_89 ?_
                    refine a_goto C 119 dX12_comeBy_90 (by decide) ?_
                    exact a_ls (lsub_s rfl (lsub_s rfl (lsub_s rfl (lsub_s rfl (lsub_s rfl (lsub_s rfl (lsub_s rfl (lsub_s rfl (lsub_n (lsub_n lsub_0)))))))))) (J119 a1 a2 a3 a4 a5 a6 (a6 / 2) (-1) _ hK)
            refine a_aload_n C dX12_comeBy_50 rfl ?_
            refine a_callV (as := []) (rest := []) C 0 (fun l => c12_save l) h_53 ⟨_, _, rfl⟩ (by decide) ml_X12_192 im_X12_save se_X12_save in_X12 co_X12_save (by decide +kernel) rfl ⟨Nat.le_of_ble_eq_true rfl, Nat.le_of_ble_eq_true rfl⟩ (Nat.le_of_ble_eq_true rfl) dX12_comeBy_51 ⟨Nat.le_of_ble_eq_true rfl, Nat.le_of_ble_eq_true rfl⟩ ?_
            refine ⟨_, rfl, hM, hK, fun V51 hK => ?_⟩
            try dsimp only [Option.toList, List.cons_append, List.nil_append]
            refine a_iconst C dX12_comeBy_54 ?_
            refine a_istore C dX12_comeBy_55 (Nat.le_of_ble_eq_true rfl) ?_
            refine a_iconst C dX12_comeBy_57 ?_
            refine a_istore C dX12_comeBy_58 (Nat.le_of_ble_eq_true rfl) ?_
            refine a_iconst C dX12_comeBy_60 ?_
            refine a_istore C dX12_comeBy_61 (Nat.le_of_ble_eq_true rfl) ?_
            obtain ⟨nn104, hK⟩ := hK
            exact a_ls (lsub_s rfl (lsub_s rfl (lsub_s rfl (lsub_s rfl (lsub_s rfl (lsub_s rfl (lsub_s rfl (lsub_n (lsub_n (lsub_n lsub_0)))))))))) (L63 nn104 a1 a2 a3 (-1) (-1) 0 _ hK)
          · replace hK := hK.2 q11
            refine a_bipush C dX12_comeBy_47 (by decide) ?_
            exact a_iret C E dX12_comeBy_49 (Nat.le_refl _) (Nat.le_refl _) (hpost _ _ hK)
    · replace hK := hK.2 q5
      refine a_bipush C dX12_comeBy_21 (by decide) ?_
      exact a_iret C E dX12_comeBy_23 (Nat.le_refl _) (Nat.le_refl _) (hpost _ _ hK)
  · replace hK := hK.2 q2
    refine a_bipush C dX12_comeBy_8 (by decide) ?_
    exact a_iret C E dX12_comeBy_10 (Nat.le_refl _) (Nat.le_refl _) (hpost _ _ hK)

def m12_feudsOf_L5  (Q : Int → zV → Prop) : Nat → Int → Int → Int → Int → zV → Prop
  | 0 => fun _ _ _ _ _ => False
  | n + 1 => fun a1 a2 a3 a4 V => (inR a4) ∧ (((V 53 5) ≤ a4 → Q a3 V) ∧ (a4 < (V 53 5) → m12_areOn V a4 a1 a2 (fun r20 V20 => (inR r20) ∧ ((r20 = 0 → m12_feudsOf_L5  Q n a1 a2 (a3 + 0) (a4 + 1) V20) ∧ (¬ r20 = 0 → m12_feudsOf_L5  Q n a1 a2 (a3 + 1) (a4 + 1) V20)))))
def m12_feudsOf  (V : zV) (a1 : Int) (a2 : Int) (Q : Int → zV → Prop) : Prop :=
  ∃ nn11, m12_feudsOf_L5  Q nn11 a1 a2 0 0 V
def t12_feudsOf : zT := fun as S V post => ∃ (a1 : Int) (a2 : Int) (Q : Int → zV → Prop), as = [zR 53, zI a1, zI a2] ∧ PSm S ∧ m12_feudsOf V a1 a2 Q ∧ (∀ r V2, Q r V2 → post (some (zI r)) S V2)
set_option maxHeartbeats 4000000 in
set_option maxRecDepth 20000 in
theorem c12_feudsOf (l : Launch) : zCT l yX12_feudsOf cX12_feudsOf 5 (some .int) { frames := 3, cells := 0, slots := 0, locals := 67 } t12_feudsOf := by
  refine zCT_of (by decide) (fun as S V post h => by obtain ⟨a1, a2, Q, rfl, -⟩ := h; exact Nat.le_of_ble_eq_true rfl) ?_
  intro X S V as post C E hT
  obtain ⟨a1, a2, Q, rfl, hM, hK, hpost⟩ := hT
  obtain ⟨w_53, r_53, h_53, g_53_0, g_53_2, g_53_7, g_53_8, g_53_10, g_53_11, g_53_12, g_53_13, g_53_14, g_53_16, g_53_21, g_53_22, g_53_23, g_53_24⟩ := PSm_53 hM
  show zW X S V 0 0 [some (zR 53), some (zI a1), some (zI a2), none, none] [] 0
  unfold m12_feudsOf at hK
  have L5 : ∀ (n : Nat) (a1 : Int) (a2 : Int) (a3 : Int) (a4 : Int) (V : zV), m12_feudsOf_L5  Q n a1 a2 a3 a4 V → zW X S V 0 0 [some (zR 53), some (zI a1), some (zI a2), some (zI a3), some (zI a4)] [] 5 := by
    intro n5
    induction n5 with
    | zero => intro _ _ _ _ _ hK; exact hK.elim
    | succ n5 ih5 =>
      intro a1 a2 a3 a4 V hK
      unfold m12_feudsOf_L5 at hK
      refine a_iload C dX12_feudsOf_5 rfl ?_
      refine a_aload_n C dX12_feudsOf_7 rfl ?_
      refine a_getI C fl_X12_91_12 h_53 rfl dX12_feudsOf_8 (fun r6 => ?_)
      obtain ⟨q7, hK⟩ := hK
      refine a_icmp_ge C 39 dX12_feudsOf_11 (by decide) ⟨q7, r6⟩ (fun q8 => ?_) (fun q8 => ?_)
      · replace hK := hK.1 q8
        refine a_iload_n C dX12_feudsOf_39 rfl ?_
        exact a_iret C E dX12_feudsOf_40 (Nat.le_refl _) (Nat.le_refl _) (hpost _ _ hK)
      · replace hK := hK.2 q8
        refine a_iload_n C dX12_feudsOf_14 rfl ?_
        refine a_aload_n C dX12_feudsOf_15 rfl ?_
        refine a_iload C dX12_feudsOf_16 rfl ?_
        refine a_iload_n C dX12_feudsOf_18 rfl ?_
        refine a_iload_n C dX12_feudsOf_19 rfl ?_
        refine a_callV (as := [zI a4, zI a1, zI a2]) (rest := [zI a3]) C 3 (fun l => c12_areOn l) h_53 ⟨_, _, rfl⟩ (by decide) ml_X12_170 im_X12_areOn se_X12_areOn in_X12 co_X12_areOn (by decide +kernel) rfl ⟨Nat.le_of_ble_eq_true rfl, Nat.le_of_ble_eq_true rfl⟩ (Nat.le_of_ble_eq_true rfl) dX12_feudsOf_20 ⟨Nat.le_of_ble_eq_true rfl, Nat.le_of_ble_eq_true rfl⟩ ?_
        refine ⟨a4, a1, a2, _, rfl, hM, hK, fun r20 V20 hK => ?_⟩
        try dsimp only [Option.toList, List.cons_append, List.nil_append]
        obtain ⟨q9, hK⟩ := hK
        refine a_if_eq C 30 dX12_feudsOf_23 (by decide) q9 (fun q10 => ?_) (fun q10 => ?_)
        · replace hK := hK.1 q10
          refine a_iconst C dX12_feudsOf_30 ?_
          refine a_iadd C dX12_feudsOf_31 ?_
          refine a_istore_n C dX12_feudsOf_32 (Nat.le_of_ble_eq_true rfl) ?_
          refine a_iinc C dX12_feudsOf_33 rfl (Nat.le_of_ble_eq_true rfl) ?_
          refine a_goto C 5 dX12_feudsOf_36 (by decide) ?_
          exact a_ls (lsub_s rfl (lsub_s rfl (lsub_s rfl (lsub_s rfl (lsub_s rfl lsub_0))))) (ih5 a1 a2 (a3 + 0) (a4 + 1) _ hK)
        · replace hK := hK.2 q10
          refine a_iconst C dX12_feudsOf_26 ?_
          refine a_goto C 31 dX12_feudsOf_27 (by decide) ?_
          refine a_iadd C dX12_feudsOf_31 ?_
          refine a_istore_n C dX12_feudsOf_32 (Nat.le_of_ble_eq_true rfl) ?_
          refine a_iinc C dX12_feudsOf_33 rfl (Nat.le_of_ble_eq_true rfl) ?_
          refine a_goto C 5 dX12_feudsOf_36 (by decide) ?_
          exact a_ls (lsub_s rfl (lsub_s rfl (lsub_s rfl (lsub_s rfl (lsub_s rfl lsub_0))))) (ih5 a1 a2 (a3 + 1) (a4 + 1) _ hK)
  refine a_iconst C dX12_feudsOf_0 ?_
  refine a_istore_n C dX12_feudsOf_1 (Nat.le_of_ble_eq_true rfl) ?_
  refine a_iconst C dX12_feudsOf_2 ?_
  refine a_istore C dX12_feudsOf_3 (Nat.le_of_ble_eq_true rfl) ?_
  obtain ⟨nn11, hK⟩ := hK
  exact a_ls (lsub_s rfl (lsub_s rfl (lsub_s rfl (lsub_s rfl (lsub_s rfl lsub_0))))) (L5 nn11 a1 a2 0 0 _ hK)

def m12_marryOf_J162 (k43 : Int → Int → Int → zV → Prop) (k92 : Int → Int → Int → Int → Int → Int → Int → zV → Prop) (Q : Int → zV → Prop) (a1 : Int) (a2 : Int) (a3 : Int) (a4 : Int) (a5 : Int) (a6 : Int) (a7 : Int) (s0 : Int) (V : zV) : Prop :=
  (inR s0) ∧ (inR a6) ∧ ((s0 ≤ a6 → k92 a1 a2 a3 a4 a5 a6 (a7 + 1) V) ∧ (a6 < s0 → k92 a1 a2 a3 a4 a5 s0 (a7 + 1) V))
def m12_marryOf_L92 (k43 : Int → Int → Int → zV → Prop) (Q : Int → zV → Prop) : Nat → Int → Int → Int → Int → Int → Int → Int → zV → Prop
  | 0 => fun _ _ _ _ _ _ _ _ => False
  | n + 1 => fun a1 a2 a3 a4 a5 a6 a7 V => (inR a7) ∧ ((6 ≤ a7 → (0 ≤ a3 ∧ a3 < 64) ∧ (inR a6) ∧ k43 a1 a2 (a3 + 1) (vset V 61 (a3).toNat a6)) ∧ (a7 < 6 → (inR (zand (zshr a5 a7) 1)) ∧ ((¬ (zand (zshr a5 a7) 1) = 1 → m12_marryOf_J162 (k43) (m12_marryOf_L92 k43 Q n) Q a1 a2 a3 a4 a5 a6 a7 (-1) V) ∧ ((zand (zshr a5 a7) 1) = 1 → (inR (zand (zshr a2 a4) 1)) ∧ ((¬ (zand (zshr a2 a4) 1) = 1 → m12_marryOf_J162 (k43) (m12_marryOf_L92 k43 Q n) Q a1 a2 a3 a4 a5 a6 a7 (-1) V) ∧ ((zand (zshr a2 a4) 1) = 1 → (inR (zand (zshr a2 a7) 1)) ∧ ((¬ (zand (zshr a2 a7) 1) = 1 → m12_marryOf_J162 (k43) (m12_marryOf_L92 k43 Q n) Q a1 a2 a3 a4 a5 a6 a7 (-1) V) ∧ ((zand (zshr a2 a7) 1) = 1 → (0 ≤ (zand a5 (zxor (zshl 1 a7) (-1))) ∧ (zand a5 (zxor (zshl 1 a7) (-1))) < 64) ∧ m12_feudsOf V a4 a7 (fun r151 V151 => m12_marryOf_J162 (k43) (m12_marryOf_L92 k43 Q n) Q a1 a2 a3 a4 a5 a6 a7 (((V 61 ((zand a5 (zxor (zshl 1 a7) (-1)))).toNat) + (100 * r151)) - 1) V151)))))))))
def m12_marryOf_L52 (k43 : Int → Int → Int → zV → Prop) (Q : Int → zV → Prop) : Nat → Int → Int → Int → Int → zV → Prop
  | 0 => fun _ _ _ _ _ => False
  | n + 1 => fun a1 a2 a3 a4 V => (inR (zand (zshr a3 a4) 1)) ∧ ((¬ (zand (zshr a3 a4) 1) = 0 → (0 ≤ (zand a3 (zxor (zshl 1 a4) (-1))) ∧ (zand a3 (zxor (zshl 1 a4) (-1))) < 64) ∧ ∃ nn49, m12_marryOf_L92 (k43) Q nn49 a1 a2 a3 a4 (zand a3 (zxor (zshl 1 a4) (-1))) (V 61 ((zand a3 (zxor (zshl 1 a4) (-1)))).toNat) (a4 + 1) V) ∧ ((zand (zshr a3 a4) 1) = 0 → m12_marryOf_L52 k43 Q n a1 a2 a3 (a4 + 1) V))
def m12_marryOf_L43  (Q : Int → zV → Prop) : Nat → Int → Int → Int → zV → Prop
  | 0 => fun _ _ _ _ => False
  | n + 1 => fun a1 a2 a3 V => (inR a3) ∧ ((64 ≤ a3 → (0 ≤ ((V 61 (63 : Int).toNat) + 99) ∧ ((V 61 (63 : Int).toNat) + 99) < 2147483648) ∧ (inR a1) ∧ ((¬ a1 = 0 → Q ((100 * (((V 61 (63 : Int).toNat) + 99) / 100)) - (V 61 (63 : Int).toNat)) V) ∧ (a1 = 0 → Q (((V 61 (63 : Int).toNat) + 99) / 100) V))) ∧ (a3 < 64 → ∃ nn91, m12_marryOf_L52 (m12_marryOf_L43  Q n) Q nn91 a1 a2 a3 0 V))
def m12_marryOf_L4  (Q : Int → zV → Prop) : Nat → Int → Int → Int → zV → Prop
  | 0 => fun _ _ _ _ => False
  | n + 1 => fun a1 a2 a3 V => (inR a3) ∧ ((6 ≤ a3 → ∃ nn181, m12_marryOf_L43  Q nn181 a1 a2 1 (vset V 61 (0 : Int).toNat 0)) ∧ (a3 < 6 → m12_isAlive V a3 (fun r13 V13 => (inR r13) ∧ ((r13 = 0 → m12_marryOf_L4  Q n a1 (zor a2 0) (a3 + 1) V13) ∧ (¬ r13 = 0 → m12_marryOf_L4  Q n a1 (zor a2 (zshl 1 a3)) (a3 + 1) V13)))))
def m12_marryOf  (V : zV) (a1 : Int) (Q : Int → zV → Prop) : Prop :=
  ∃ nn367, m12_marryOf_L4  Q nn367 a1 0 0 V
def t12_marryOf : zT := fun as S V post => ∃ (a1 : Int) (Q : Int → zV → Prop), as = [zR 53, zI a1] ∧ PSm S ∧ m12_marryOf V a1 Q ∧ (∀ r V2, Q r V2 → post (some (zI r)) S V2)
set_option maxHeartbeats 4000000 in
set_option maxRecDepth 20000 in
theorem c12_marryOf (l : Launch) : zCT l yX12_marryOf cX12_marryOf 9 (some .int) { frames := 4, cells := 0, slots := 0, locals := 91 } t12_marryOf := by
  refine zCT_of (by decide) (fun as S V post h => by obtain ⟨a1, Q, rfl, -⟩ := h; exact Nat.le_of_ble_eq_true rfl) ?_
  intro X S V as post C E hT
  obtain ⟨a1, Q, rfl, hM, hK, hpost⟩ := hT
  obtain ⟨w_53, r_53, h_53, g_53_0, g_53_2, g_53_7, g_53_8, g_53_10, g_53_11, g_53_12, g_53_13, g_53_14, g_53_16, g_53_21, g_53_22, g_53_23, g_53_24⟩ := PSm_53 hM
  obtain ⟨r_61, h_61⟩ := PSm_61 hM
  show zW X S V 0 0 [some (zR 53), some (zI a1), none, none, none, none, none, none, none] [] 0
  unfold m12_marryOf at hK
  have L4 : ∀ (n : Nat) (a1 : Int) (a2 : Int) (a3 : Int) (V : zV), m12_marryOf_L4  Q n a1 a2 a3 V → zW X S V 0 0 [some (zR 53), some (zI a1), some (zI a2), some (zI a3), none, none, none, none, none] [] 4 := by
    intro n4
    induction n4 with
    | zero => intro _ _ _ _ hK; exact hK.elim
    | succ n4 ih4 =>
      intro a1 a2 a3 V hK
      unfold m12_marryOf_L4 at hK
      refine a_iload_n C dX12_marryOf_4 rfl ?_
      refine a_bipush C dX12_marryOf_5 (by decide) ?_
      obtain ⟨q184, hK⟩ := hK
      refine a_icmp_ge C 34 dX12_marryOf_7 (by decide) ⟨q184, ⟨by decide, by decide⟩⟩ (fun q185 => ?_) (fun q185 => ?_)
      · replace hK := hK.1 q185
        have L43 : ∀ (n : Nat) (a1 : Int) (a2 : Int) (a3 : Int) (V : zV), m12_marryOf_L43  Q n a1 a2 a3 V → zW X S V 0 0 [some (zR 53), some (zI a1), some (zI a2), some (zI a3), none, none, none, none, none] [] 43 := by
          intro n43
          induction n43 with
          | zero => intro _ _ _ _ hK; exact hK.elim
          | succ n43 ih43 =>
            intro a1 a2 a3 V hK
            unfold m12_marryOf_L43 at hK
            refine a_iload_n C dX12_marryOf_43 rfl ?_
            refine a_bipush C dX12_marryOf_44 (by decide) ?_
            obtain ⟨q275, hK⟩ := hK
            refine a_icmp_ge C 200 dX12_marryOf_46 (by decide) ⟨q275, ⟨by decide, by decide⟩⟩ (fun q276 => ?_) (fun q276 => ?_)
            · replace hK := hK.1 q276
              refine a_aload_n C dX12_marryOf_200 rfl ?_
              refine a_getR C fl_X12_31_12 h_53 rfl g_53_13 dX12_marryOf_201 ?_
              refine a_bipush C dX12_marryOf_204 (by decide) ?_
              refine a_iald C h_61 dX12_marryOf_206 (by decide) ⟨by decide, by decide⟩ (fun r277 => ?_)
              refine a_istore_n C dX12_marryOf_207 (Nat.le_of_ble_eq_true rfl) ?_
              refine a_iload_n C dX12_marryOf_208 rfl ?_
              refine a_bipush C dX12_marryOf_209 (by decide) ?_
              refine a_iadd C dX12_marryOf_211 ?_
              refine a_bipush C dX12_marryOf_212 (by decide) ?_
              obtain ⟨q278, hK⟩ := hK
              refine a_idiv C dX12_marryOf_214 ⟨q278, by decide, by decide⟩ ?_
              refine a_istore C dX12_marryOf_215 (Nat.le_of_ble_eq_true rfl) ?_
              refine a_iload_n C dX12_marryOf_217 rfl ?_
              obtain ⟨q279, hK⟩ := hK
              refine a_if_ne C 226 dX12_marryOf_218 (by decide) q279 (fun q280 => ?_) (fun q280 => ?_)
              · replace hK := hK.1 q280
                refine a_bipush C dX12_marryOf_226 (by decide) ?_
                refine a_iload C dX12_marryOf_228 rfl ?_
                refine a_imul C dX12_marryOf_230 ?_
                refine a_iload_n C dX12_marryOf_231 rfl ?_
                refine a_isub C dX12_marryOf_232 ?_
                exact a_iret C E dX12_marryOf_233 (Nat.le_refl _) (Nat.le_refl _) (hpost _ _ hK)
              · replace hK := hK.2 q280
                refine a_iload C dX12_marryOf_221 rfl ?_
                refine a_goto C 233 dX12_marryOf_223 (by decide) ?_
                exact a_iret C E dX12_marryOf_233 (Nat.le_refl _) (Nat.le_refl _) (hpost _ _ hK)
            · replace hK := hK.2 q276
              have L52 : ∀ (n : Nat) (a1 : Int) (a2 : Int) (a3 : Int) (a4 : Int) (V : zV), m12_marryOf_L52 (m12_marryOf_L43  Q n43) Q n a1 a2 a3 a4 V → zW X S V 0 0 [some (zR 53), some (zI a1), some (zI a2), some (zI a3), some (zI a4), none, none, none, none] [] 52 := by
                intro n52
                induction n52 with
                | zero => intro _ _ _ _ _ hK; exact hK.elim
                | succ n52 ih52 =>
                  intro a1 a2 a3 a4 V hK
                  unfold m12_marryOf_L52 at hK
                  refine a_iload_n C dX12_marryOf_52 rfl ?_
                  refine a_iload C dX12_marryOf_53 rfl ?_
                  refine a_ishr C dX12_marryOf_55 ?_
                  refine a_iconst C dX12_marryOf_56 ?_
                  refine a_iand C dX12_marryOf_57 ?_
                  obtain ⟨q322, hK⟩ := hK
                  refine a_if_ne C 67 dX12_marryOf_58 (by decide) q322 (fun q323 => ?_) (fun q323 => ?_)
                  · replace hK := hK.1 q323
                    have L92 : ∀ (n : Nat) (a1 : Int) (a2 : Int) (a3 : Int) (a4 : Int) (a5 : Int) (a6 : Int) (a7 : Int) (V : zV), m12_marryOf_L92 (m12_marryOf_L43  Q n43) Q n a1 a2 a3 a4 a5 a6 a7 V → zW X S V 0 0 [some (zR 53), some (zI a1), some (zI a2), some (zI a3), some (zI a4), some (zI a5), some (zI a6), some (zI a7), none] [] 92 := by
                      intro n92
                      induction n92 with
                      | zero => intro _ _ _ _ _ _ _ _ hK; exact hK.elim
                      | succ n92 ih92 =>
                        intro a1 a2 a3 a4 a5 a6 a7 V hK
                        unfold m12_marryOf_L92 at hK
                        refine a_iload C dX12_marryOf_92 rfl ?_
                        refine a_bipush C dX12_marryOf_94 (by decide) ?_
                        obtain ⟨q342, hK⟩ := hK
                        refine a_icmp_ge C 186 dX12_marryOf_96 (by decide) ⟨q342, ⟨by decide, by decide⟩⟩ (fun q343 => ?_) (fun q343 => ?_)
                        · replace hK := hK.1 q343
                          refine a_aload_n C dX12_marryOf_186 rfl ?_
                          refine a_getR C fl_X12_31_12 h_53 rfl g_53_13 dX12_marryOf_187 ?_
                          refine a_iload_n C dX12_marryOf_190 rfl ?_
                          refine a_iload C dX12_marryOf_191 rfl ?_
                          obtain ⟨q344, hK⟩ := hK
                          obtain ⟨q345, hK⟩ := hK
                          refine a_iast C h_61 dX12_marryOf_193 (by decide) ⟨q344, q345⟩ ?_
                          refine a_iinc C dX12_marryOf_194 rfl (Nat.le_of_ble_eq_true rfl) ?_
                          refine a_goto C 43 dX12_marryOf_197 (by decide) ?_
                          exact a_ls (lsub_s rfl (lsub_s rfl (lsub_s rfl (lsub_s rfl (lsub_n (lsub_n (lsub_n (lsub_n (lsub_n lsub_0))))))))) (ih43 a1 a2 (a3 + 1) _ hK)
                        · replace hK := hK.2 q343
                          have J162 : ∀ (a1 : Int) (a2 : Int) (a3 : Int) (a4 : Int) (a5 : Int) (a6 : Int) (a7 : Int) (s0 : Int) (V : zV), m12_marryOf_J162 (m12_marryOf_L43  Q n43) (m12_marryOf_L92 (m12_marryOf_L43  Q n43) Q n92) Q a1 a2 a3 a4 a5 a6 a7 s0 V → zW X S V 0 0 [some (zR 53), some (zI a1), some (zI a2), some (zI a3), some (zI a4), some (zI a5), some (zI a6), some (zI a7), none] [zI s0] 162 := by
                            intro a1 a2 a3 a4 a5 a6 a7 s0 V hK
                            unfold m12_marryOf_J162 at hK
                            refine a_istore C dX12_marryOf_162 (Nat.le_of_ble_eq_true rfl) ?_
                            refine a_iload C dX12_marryOf_164 rfl ?_
                            refine a_iload C dX12_marryOf_166 rfl ?_
                            obtain ⟨q349, hK⟩ := hK
                            obtain ⟨q350, hK⟩ := hK
                            refine a_icmp_le C 176 dX12_marryOf_168 (by decide) ⟨q349, q350⟩ (fun q351 => ?_) (fun q351 => ?_)
                            · replace hK := hK.1 q351
                              refine a_iload C dX12_marryOf_176 rfl ?_
                              refine a_istore C dX12_marryOf_178 (Nat.le_of_ble_eq_true rfl) ?_
                              refine a_iinc C dX12_marryOf_180 rfl (Nat.le_of_ble_eq_true rfl) ?_
                              refine a_goto C 92 dX12_marryOf_183 (by decide) ?_
                              exact a_ls (lsub_s rfl (lsub_s rfl (lsub_s rfl (lsub_s rfl (lsub_s rfl (lsub_s rfl (lsub_s rfl (lsub_s rfl (lsub_n lsub_0))))))))) (ih92 a1 a2 a3 a4 a5 a6 (a7 + 1) _ hK)
                            · replace hK := hK.2 q351
                              refine a_iload C dX12_marryOf_171 rfl ?_
                              refine a_goto C 178 dX12_marryOf_173 (by decide) ?_
                              refine a_istore C dX12_marryOf_178 (Nat.le_of_ble_eq_true rfl) ?_
                              refine a_iinc C dX12_marryOf_180 rfl (Nat.le_of_ble_eq_true rfl) ?_
                              refine a_goto C 92 dX12_marryOf_183 (by decide) ?_
                              exact a_ls (lsub_s rfl (lsub_s rfl (lsub_s rfl (lsub_s rfl (lsub_s rfl (lsub_s rfl (lsub_s rfl (lsub_s rfl (lsub_n lsub_0))))))))) (ih92 a1 a2 a3 a4 a5 s0 (a7 + 1) _ hK)
                          refine a_iload C dX12_marryOf_99 rfl ?_
                          refine a_iload C dX12_marryOf_101 rfl ?_
                          refine a_ishr C dX12_marryOf_103 ?_
                          refine a_iconst C dX12_marryOf_104 ?_
                          refine a_iand C dX12_marryOf_105 ?_
                          refine a_iconst C dX12_marryOf_106 ?_
                          obtain ⟨q352, hK⟩ := hK
                          refine a_icmp_ne C 161 dX12_marryOf_107 (by decide) ⟨q352, ⟨by decide, by decide⟩⟩ (fun q353 => ?_) (fun q353 => ?_)
                          · replace hK := hK.1 q353
                            refine a_iconst C dX12_marryOf_161 ?_
                            exact a_ls (lsub_s rfl (lsub_s rfl (lsub_s rfl (lsub_s rfl (lsub_s rfl (lsub_s rfl (lsub_s rfl (lsub_s rfl (lsub_n lsub_0))))))))) (J162 a1 a2 a3 a4 a5 a6 a7 (-1) _ hK)
                          · replace hK := hK.2 q353
                            refine a_iload_n C dX12_marryOf_110 rfl ?_
                            refine a_iload C dX12_marryOf_111 rfl ?_
                            refine a_ishr C dX12_marryOf_113 ?_
                            refine a_iconst C dX12_marryOf_114 ?_
                            refine a_iand C dX12_marryOf_115 ?_
                            refine a_iconst C dX12_marryOf_116 ?_
                            obtain ⟨q354, hK⟩ := hK
                            refine a_icmp_ne C 161 dX12_marryOf_117 (by decide) ⟨q354, ⟨by decide, by decide⟩⟩ (fun q355 => ?_) (fun q355 => ?_)
                            · replace hK := hK.1 q355
                              refine a_iconst C dX12_marryOf_161 ?_
                              exact a_ls (lsub_s rfl (lsub_s rfl (lsub_s rfl (lsub_s rfl (lsub_s rfl (lsub_s rfl (lsub_s rfl (lsub_s rfl (lsub_n lsub_0))))))))) (J162 a1 a2 a3 a4 a5 a6 a7 (-1) _ hK)
                            · replace hK := hK.2 q355
                              refine a_iload_n C dX12_marryOf_120 rfl ?_
                              refine a_iload C dX12_marryOf_121 rfl ?_
                              refine a_ishr C dX12_marryOf_123 ?_
                              refine a_iconst C dX12_marryOf_124 ?_
                              refine a_iand C dX12_marryOf_125 ?_
                              refine a_iconst C dX12_marryOf_126 ?_
                              obtain ⟨q356, hK⟩ := hK
                              refine a_icmp_ne C 161 dX12_marryOf_127 (by decide) ⟨q356, ⟨by decide, by decide⟩⟩ (fun q357 => ?_) (fun q357 => ?_)
                              · replace hK := hK.1 q357
                                refine a_iconst C dX12_marryOf_161 ?_
                                exact a_ls (lsub_s rfl (lsub_s rfl (lsub_s rfl (lsub_s rfl (lsub_s rfl (lsub_s rfl (lsub_s rfl (lsub_s rfl (lsub_n lsub_0))))))))) (J162 a1 a2 a3 a4 a5 a6 a7 (-1) _ hK)
                              · replace hK := hK.2 q357
                                refine a_aload_n C dX12_marryOf_130 rfl ?_
                                refine a_getR C fl_X12_31_12 h_53 rfl g_53_13 dX12_marryOf_131 ?_
                                refine a_iload C dX12_marryOf_134 rfl ?_
                                refine a_iconst C dX12_marryOf_136 ?_
                                refine a_iload C dX12_marryOf_137 rfl ?_
                                refine a_ishl C dX12_marryOf_139 ?_
                                refine a_iconst C dX12_marryOf_140 ?_
                                refine a_ixor C dX12_marryOf_141 ?_
                                refine a_iand C dX12_marryOf_142 ?_
                                obtain ⟨q358, hK⟩ := hK
                                refine a_iald C h_61 dX12_marryOf_143 (by decide) q358 (fun r359 => ?_)
                                refine a_bipush C dX12_marryOf_144 (by decide) ?_
                                refine a_aload_n C dX12_marryOf_146 rfl ?_
                                refine a_iload C dX12_marryOf_147 rfl ?_
                                refine a_iload C dX12_marryOf_149 rfl ?_
                                refine a_callV (as := [zI a4, zI a7]) (rest := [zI 100, zI (V 61 ((zand a5 (zxor (zshl 1 a7) (-1)))).toNat)]) C 2 (fun l => c12_feudsOf l) h_53 ⟨_, _, rfl⟩ (by decide) ml_X12_198 im_X12_feudsOf se_X12_feudsOf in_X12 co_X12_feudsOf (by decide +kernel) rfl ⟨Nat.le_of_ble_eq_true rfl, Nat.le_of_ble_eq_true rfl⟩ (Nat.le_of_ble_eq_true rfl) dX12_marryOf_151 ⟨Nat.le_of_ble_eq_true rfl, Nat.le_of_ble_eq_true rfl⟩ ?_
                                refine ⟨a4, a7, _, rfl, hM, hK, fun r151 V151 hK => ?_⟩
                                try dsimp only [Option.toList, List.cons_append, List.nil_append]
                                refine a_imul C dX12_marryOf_154 ?_
                                refine a_iadd C dX12_marryOf_155 ?_
                                refine a_iconst C dX12_marryOf_156 ?_
                                refine a_isub C dX12_marryOf_157 ?_
                                refine a_goto C 162 dX12_marryOf_158 (by decide) ?_
                                exact a_ls (lsub_s rfl (lsub_s rfl (lsub_s rfl (lsub_s rfl (lsub_s rfl (lsub_s rfl (lsub_s rfl (lsub_s rfl (lsub_n lsub_0))))))))) (J162 a1 a2 a3 a4 a5 a6 a7 (((V 61 ((zand a5 (zxor (zshl 1 a7) (-1)))).toNat) + (100 * r151)) - 1) _ hK)
                    refine a_iload_n C dX12_marryOf_67 rfl ?_
                    refine a_iconst C dX12_marryOf_68 ?_
                    refine a_iload C dX12_marryOf_69 rfl ?_
                    refine a_ishl C dX12_marryOf_71 ?_
                    refine a_iconst C dX12_marryOf_72 ?_
                    refine a_ixor C dX12_marryOf_73 ?_
                    refine a_iand C dX12_marryOf_74 ?_
                    refine a_istore C dX12_marryOf_75 (Nat.le_of_ble_eq_true rfl) ?_
                    refine a_aload_n C dX12_marryOf_77 rfl ?_
                    refine a_getR C fl_X12_31_12 h_53 rfl g_53_13 dX12_marryOf_78 ?_
                    refine a_iload C dX12_marryOf_81 rfl ?_
                    obtain ⟨q360, hK⟩ := hK
                    refine a_iald C h_61 dX12_marryOf_83 (by decide) q360 (fun r361 => ?_)
                    refine a_istore C dX12_marryOf_84 (Nat.le_of_ble_eq_true rfl) ?_
                    refine a_iload C dX12_marryOf_86 rfl ?_
                    refine a_iconst C dX12_marryOf_88 ?_
                    refine a_iadd C dX12_marryOf_89 ?_
                    refine a_istore C dX12_marryOf_90 (Nat.le_of_ble_eq_true rfl) ?_
                    obtain ⟨nn362, hK⟩ := hK
                    exact a_ls (lsub_s rfl (lsub_s rfl (lsub_s rfl (lsub_s rfl (lsub_s rfl (lsub_s rfl (lsub_s rfl (lsub_s rfl (lsub_n lsub_0))))))))) (L92 nn362 a1 a2 a3 a4 (zand a3 (zxor (zshl 1 a4) (-1))) (V 61 ((zand a3 (zxor (zshl 1 a4) (-1)))).toNat) (a4 + 1) _ hK)
                  · replace hK := hK.2 q323
                    refine a_iinc C dX12_marryOf_61 rfl (Nat.le_of_ble_eq_true rfl) ?_
                    refine a_goto C 52 dX12_marryOf_64 (by decide) ?_
                    exact a_ls (lsub_s rfl (lsub_s rfl (lsub_s rfl (lsub_s rfl (lsub_s rfl (lsub_n (lsub_n (lsub_n (lsub_n lsub_0))))))))) (ih52 a1 a2 a3 (a4 + 1) _ hK)
              refine a_iconst C dX12_marryOf_49 ?_
              refine a_istore C dX12_marryOf_50 (Nat.le_of_ble_eq_true rfl) ?_
              obtain ⟨nn363, hK⟩ := hK
              exact a_ls (lsub_s rfl (lsub_s rfl (lsub_s rfl (lsub_s rfl (lsub_s rfl (lsub_n (lsub_n (lsub_n (lsub_n lsub_0))))))))) (L52 nn363 a1 a2 a3 0 _ hK)
        refine a_aload_n C dX12_marryOf_34 rfl ?_
        refine a_getR C fl_X12_31_12 h_53 rfl g_53_13 dX12_marryOf_35 ?_
        refine a_iconst C dX12_marryOf_38 ?_
        refine a_iconst C dX12_marryOf_39 ?_
        refine a_iast C h_61 dX12_marryOf_40 (by decide) ⟨⟨by decide, by decide⟩, ⟨by decide, by decide⟩⟩ ?_
        refine a_iconst C dX12_marryOf_41 ?_
        refine a_istore_n C dX12_marryOf_42 (Nat.le_of_ble_eq_true rfl) ?_
        obtain ⟨nn364, hK⟩ := hK
        exact a_ls (lsub_s rfl (lsub_s rfl (lsub_s rfl (lsub_s rfl (lsub_n (lsub_n (lsub_n (lsub_n (lsub_n lsub_0))))))))) (L43 nn364 a1 a2 1 _ hK)
      · replace hK := hK.2 q185
        refine a_iload_n C dX12_marryOf_10 rfl ?_
        refine a_aload_n C dX12_marryOf_11 rfl ?_
        refine a_iload_n C dX12_marryOf_12 rfl ?_
        refine a_callV (as := [zI a3]) (rest := [zI a2]) C 1 (fun l => c12_isAlive l) h_53 ⟨_, _, rfl⟩ (by decide) ml_X12_143 im_X12_isAlive se_X12_isAlive in_X12 co_X12_isAlive (by decide +kernel) rfl ⟨Nat.le_of_ble_eq_true rfl, Nat.le_of_ble_eq_true rfl⟩ (Nat.le_of_ble_eq_true rfl) dX12_marryOf_13 ⟨Nat.le_of_ble_eq_true rfl, Nat.le_of_ble_eq_true rfl⟩ ?_
        refine ⟨a3, _, rfl, hM, hK, fun r13 V13 hK => ?_⟩
        try dsimp only [Option.toList, List.cons_append, List.nil_append]
        obtain ⟨q365, hK⟩ := hK
        refine a_if_eq C 25 dX12_marryOf_16 (by decide) q365 (fun q366 => ?_) (fun q366 => ?_)
        · replace hK := hK.1 q366
          refine a_iconst C dX12_marryOf_25 ?_
          refine a_ior C dX12_marryOf_26 ?_
          refine a_istore_n C dX12_marryOf_27 (Nat.le_of_ble_eq_true rfl) ?_
          refine a_iinc C dX12_marryOf_28 rfl (Nat.le_of_ble_eq_true rfl) ?_
          refine a_goto C 4 dX12_marryOf_31 (by decide) ?_
          exact a_ls (lsub_s rfl (lsub_s rfl (lsub_s rfl (lsub_s rfl (lsub_n (lsub_n (lsub_n (lsub_n (lsub_n lsub_0))))))))) (ih4 a1 (zor a2 0) (a3 + 1) _ hK)
        · replace hK := hK.2 q366
          refine a_iconst C dX12_marryOf_19 ?_
          refine a_iload_n C dX12_marryOf_20 rfl ?_
          refine a_ishl C dX12_marryOf_21 ?_
          refine a_goto C 26 dX12_marryOf_22 (by decide) ?_
          refine a_ior C dX12_marryOf_26 ?_
          refine a_istore_n C dX12_marryOf_27 (Nat.le_of_ble_eq_true rfl) ?_
          refine a_iinc C dX12_marryOf_28 rfl (Nat.le_of_ble_eq_true rfl) ?_
          refine a_goto C 4 dX12_marryOf_31 (by decide) ?_
          exact a_ls (lsub_s rfl (lsub_s rfl (lsub_s rfl (lsub_s rfl (lsub_n (lsub_n (lsub_n (lsub_n (lsub_n lsub_0))))))))) (ih4 a1 (zor a2 (zshl 1 a3)) (a3 + 1) _ hK)
  refine a_iconst C dX12_marryOf_0 ?_
  refine a_istore_n C dX12_marryOf_1 (Nat.le_of_ble_eq_true rfl) ?_
  refine a_iconst C dX12_marryOf_2 ?_
  refine a_istore_n C dX12_marryOf_3 (Nat.le_of_ble_eq_true rfl) ?_
  obtain ⟨nn367, hK⟩ := hK
  exact a_ls (lsub_s rfl (lsub_s rfl (lsub_s rfl (lsub_s rfl (lsub_n (lsub_n (lsub_n (lsub_n (lsub_n lsub_0))))))))) (L4 nn367 a1 0 0 _ hK)
