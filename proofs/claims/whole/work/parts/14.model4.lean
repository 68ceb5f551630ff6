def m12_marry  (V : zV) (a1 : Int) (Q : Int → zV → Prop) : Prop :=
  (inR a1) ∧ m12_in V a1 0 1 (fun r4 V4 => (inR r4) ∧ ((¬ r4 = 0 → m12_lacks V4 (fun r14 V14 => (inR r14) ∧ ((r14 = 0 → m12_marryOf V14 a1 (fun r27 V27 => Q r27 V27)) ∧ (¬ r14 = 0 → Q (-103) V14)))) ∧ (r4 = 0 → Q (-102) V4)))
def t12_marry : zT := fun as S V post => ∃ (a1 : Int) (Q : Int → zV → Prop), as = [zR 53, zI a1] ∧ PSm S ∧ m12_marry V a1 Q ∧ (∀ r V2, Q r V2 → post (some (zI r)) S V2)
set_option maxHeartbeats 4000000 in
set_option maxRecDepth 20000 in
theorem c12_marry (l : Launch) : zCT l yX12_marry cX12_marry 2 (some .int) { frames := 5, cells := 0, slots := 0, locals := 119 } t12_marry := by
  refine zCT_of (by decide) (fun as S V post h => by obtain ⟨a1, Q, rfl, -⟩ := h; exact Nat.le_of_ble_eq_true rfl) ?_
  intro X S V as post C E hT
  obtain ⟨a1, Q, rfl, hM, hK, hpost⟩ := hT
  obtain ⟨w_53, r_53, h_53, g_53_0, g_53_2, g_53_7, g_53_8, g_53_10, g_53_11, g_53_12, g_53_13, g_53_14, g_53_16, g_53_21, g_53_22, g_53_23, g_53_24⟩ := PSm_53 hM
  show zW X S V 0 0 [some (zR 53), some (zI a1)] [] 0
  unfold m12_marry at hK
  refine a_iload_n C dX12_marry_0 rfl ?_
  obtain ⟨q1, hK⟩ := hK
  refine a_i2l C dX12_marry_1 q1 ?_
  refine a_lconst C 0 dX12_marry_2 (by decide) ?_
  refine a_lconst C 1 dX12_marry_3 (by decide) ?_
  refine a_callS (as := [zJ a1, zJ 0, zJ 1]) (rest := []) C 3 (fun l => c12_in l) ml_X12_62 sa_X12_in in_X12 co_X12_in (by decide +kernel) rfl ⟨Nat.le_of_ble_eq_true rfl, Nat.le_of_ble_eq_true rfl⟩ (Nat.le_of_ble_eq_true rfl) dX12_marry_4 ⟨Nat.le_of_ble_eq_true rfl, Nat.le_of_ble_eq_true rfl⟩ ?_
  refine ⟨a1, 0, 1, _, rfl, hK, fun r4 V4 hK => ?_⟩
  try dsimp only [Option.toList, List.cons_append, List.nil_append]
  obtain ⟨q2, hK⟩ := hK
  refine a_if_ne C 13 dX12_marry_7 (by decide) q2 (fun q3 => ?_) (fun q3 => ?_)
  · replace hK := hK.1 q3
    refine a_aload_n C dX12_marry_13 rfl ?_
    refine a_callV (as := []) (rest := []) C 0 (fun l => c12_lacks l) h_53 ⟨_, _, rfl⟩ (by decide) ml_X12_139 im_X12_lacks se_X12_lacks in_X12 co_X12_lacks (by decide +kernel) rfl ⟨Nat.le_of_ble_eq_true rfl, Nat.le_of_ble_eq_true rfl⟩ (Nat.le_of_ble_eq_true rfl) dX12_marry_14 ⟨Nat.le_of_ble_eq_true rfl, Nat.le_of_ble_eq_true rfl⟩ ?_
    refine ⟨_, rfl, hM, hK, fun r14 V14 hK => ?_⟩
    try dsimp only [Option.toList, List.cons_append, List.nil_append]
    obtain ⟨q4, hK⟩ := hK
    refine a_if_eq C 25 dX12_marry_17 (by decide) q4 (fun q5 => ?_) (fun q5 => ?_)
    · replace hK := hK.1 q5
      refine a_aload_n C dX12_marry_25 rfl ?_
      refine a_iload_n C dX12_marry_26 rfl ?_
      refine a_callV (as := [zI a1]) (rest := []) C 1 (fun l => c12_marryOf l) h_53 ⟨_, _, rfl⟩ (by decide) ml_X12_201 im_X12_marryOf se_X12_marryOf in_X12 co_X12_marryOf (by decide +kernel) rfl ⟨Nat.le_of_ble_eq_true rfl, Nat.le_of_ble_eq_true rfl⟩ (Nat.le_of_ble_eq_true rfl) dX12_marry_27 ⟨Nat.le_of_ble_eq_true rfl, Nat.le_of_ble_eq_true rfl⟩ ?_
      refine ⟨a1, _, rfl, hM, hK, fun r27 V27 hK => ?_⟩
      try dsimp only [Option.toList, List.cons_append, List.nil_append]
      exact a_iret C E dX12_marry_30 (Nat.le_refl _) (Nat.le_refl _) (hpost _ _ hK)
    · replace hK := hK.2 q5
      refine a_bipush C dX12_marry_20 (by decide) ?_
      refine a_goto C 30 dX12_marry_22 (by decide) ?_
      exact a_iret C E dX12_marry_30 (Nat.le_refl _) (Nat.le_refl _) (hpost _ _ hK)
  · replace hK := hK.2 q3
    refine a_bipush C dX12_marry_10 (by decide) ?_
    exact a_iret C E dX12_marry_12 (Nat.le_refl _) (Nat.le_refl _) (hpost _ _ hK)

def m12_wills_L82  (Q : Int → zV → Prop) : Nat → Int → Int → Int → zV → Prop
  | 0 => fun _ _ _ _ => False
  | n + 1 => fun a2 a3 a4 V => (inR a4) ∧ (inR (2 * (V 53 5))) ∧ (((2 * (V 53 5)) ≤ a4 → m12_layBack V (fun V138 => Q a3 V138)) ∧ (a4 < (2 * (V 53 5)) → (0 ≤ a4 ∧ a4 < 2147483648) ∧ m12_isStruck V (a4 / 2) (fun r99 V99 => (inR r99) ∧ ((¬ r99 = 0 → m12_wills_L82  Q n a2 (zor a3 0) (a4 + 1) V99) ∧ (r99 = 0 → (0 ≤ a4 ∧ a4 < 2147483648) ∧ (0 ≤ a4 ∧ a4 < 2147483648) ∧ m12_onSide V99 (a4 / 2) (a4 % 2) (fun r114 V114 => (inR r114) ∧ (inR a2) ∧ ((¬ r114 = a2 → m12_wills_L82  Q n a2 (zor a3 0) (a4 + 1) V114) ∧ (r114 = a2 → m12_wills_L82  Q n a2 (zor a3 (zshl 1 a4)) (a4 + 1) V114))))))))
def m12_wills_L41  (Q : Int → zV → Prop) : Nat → Int → Int → Int → zV → Prop
  | 0 => fun _ _ _ _ => False
  | n + 1 => fun a1 a2 a3 V => (inR a3) ∧ ((6 ≤ a3 → ∃ nn34, m12_wills_L82  Q nn34 a2 0 0 V) ∧ (a3 < 6 → (inR (zand (zshr a1 a3) 1)) ∧ ((¬ (zand (zshr a1 a3) 1) = 1 → m12_wills_L41  Q n a1 a2 (a3 + 1) V) ∧ ((zand (zshr a1 a3) 1) = 1 → m12_isAlive V a3 (fun r58 V58 => (inR r58) ∧ ((r58 = 0 → m12_wills_L41  Q n a1 a2 (a3 + 1) V58) ∧ (¬ r58 = 0 → m12_died V58 a3 (fun r66 V66 => m12_wills_L41  Q n a1 a2 (a3 + 1) V66))))))))
def m12_wills  (V : zV) (a1 : Int) (a2 : Int) (Q : Int → zV → Prop) : Prop :=
  m12_isPerson V a2 (fun r1 V1 => (inR r1) ∧ ((¬ r1 = 0 → (inR a1) ∧ m12_in V1 a1 0 63 (fun r16 V16 => (inR r16) ∧ ((¬ r16 = 0 → m12_lacks V16 (fun r26 V26 => (inR r26) ∧ ((r26 = 0 → m12_save V26 (fun V36 => ∃ nn70, m12_wills_L41  Q nn70 a1 a2 0 V36)) ∧ (¬ r26 = 0 → Q (-103) V26)))) ∧ (r16 = 0 → Q (-102) V16)))) ∧ (r1 = 0 → Q (-101) V1)))
def t12_wills : zT := fun as S V post => ∃ (a1 : Int) (a2 : Int) (Q : Int → zV → Prop), as = [zR 53, zI a1, zI a2] ∧ PSm S ∧ m12_wills V a1 a2 Q ∧ (∀ r V2, Q r V2 → post (some (zI r)) S V2)
set_option maxHeartbeats 4000000 in
set_option maxRecDepth 20000 in
theorem c12_wills (l : Launch) : zCT l yX12_wills cX12_wills 5 (some .int) { frames := 3, cells := 0, slots := 0, locals := 72 } t12_wills := by
  refine zCT_of (by decide) (fun as S V post h => by obtain ⟨a1, a2, Q, rfl, -⟩ := h; exact Nat.le_of_ble_eq_true rfl) ?_
  intro X S V as post C E hT
  obtain ⟨a1, a2, Q, rfl, hM, hK, hpost⟩ := hT
  obtain ⟨w_53, r_53, h_53, g_53_0, g_53_2, g_53_7, g_53_8, g_53_10, g_53_11, g_53_12, g_53_13, g_53_14, g_53_16, g_53_21, g_53_22, g_53_23, g_53_24⟩ := PSm_53 hM
  show zW X S V 0 0 [some (zR 53), some (zI a1), some (zI a2), none, none] [] 0
  unfold m12_wills at hK
  refine a_iload_n C dX12_wills_0 rfl ?_
  refine a_callS (as := [zI a2]) (rest := []) C 1 (fun l => c12_isPerson l) ml_X12_103 sa_X12_isPerson in_X12 co_X12_isPerson (by decide +kernel) rfl ⟨Nat.le_of_ble_eq_true rfl, Nat.le_of_ble_eq_true rfl⟩ (Nat.le_of_ble_eq_true rfl) dX12_wills_1 ⟨Nat.le_of_ble_eq_true rfl, Nat.le_of_ble_eq_true rfl⟩ ?_
  refine ⟨a2, _, rfl, hK, fun r1 V1 hK => ?_⟩
  try dsimp only [Option.toList, List.cons_append, List.nil_append]
  obtain ⟨q1, hK⟩ := hK
  refine a_if_ne C 10 dX12_wills_4 (by decide) q1 (fun q2 => ?_) (fun q2 => ?_)
  · replace hK := hK.1 q2
    refine a_iload_n C dX12_wills_10 rfl ?_
    obtain ⟨q3, hK⟩ := hK
    refine a_i2l C dX12_wills_11 q3 ?_
    refine a_lconst C 0 dX12_wills_12 (by decide) ?_
    refine a_ldc2 C kl_X12_204 dX12_wills_13 ?_
    refine a_callS (as := [zJ a1, zJ 0, zJ 63]) (rest := []) C 3 (fun l => c12_in l) ml_X12_62 sa_X12_in in_X12 co_X12_in (by decide +kernel) rfl ⟨Nat.le_of_ble_eq_true rfl, Nat.le_of_ble_eq_true rfl⟩ (Nat.le_of_ble_eq_true rfl) dX12_wills_16 ⟨Nat.le_of_ble_eq_true rfl, Nat.le_of_ble_eq_true rfl⟩ ?_
    refine ⟨a1, 0, 63, _, rfl, hK, fun r16 V16 hK => ?_⟩
    try dsimp only [Option.toList, List.cons_append, List.nil_append]
    obtain ⟨q4, hK⟩ := hK
    refine a_if_ne C 25 dX12_wills_19 (by decide) q4 (fun q5 => ?_) (fun q5 => ?_)
    · replace hK := hK.1 q5
      refine a_aload_n C dX12_wills_25 rfl ?_
      refine a_callV (as := []) (rest := []) C 0 (fun l => c12_lacks l) h_53 ⟨_, _, rfl⟩ (by decide) ml_X12_139 im_X12_lacks se_X12_lacks in_X12 co_X12_lacks (by decide +kernel) rfl ⟨Nat.le_of_ble_eq_true rfl, Nat.le_of_ble_eq_true rfl⟩ (Nat.le_of_ble_eq_true rfl) dX12_wills_26 ⟨Nat.le_of_ble_eq_true rfl, Nat.le_of_ble_eq_true rfl⟩ ?_
      refine ⟨_, rfl, hM, hK, fun r26 V26 hK => ?_⟩
      try dsimp only [Option.toList, List.cons_append, List.nil_append]
      obtain ⟨q6, hK⟩ := hK
      refine a_if_eq C 35 dX12_wills_29 (by decide) q6 (fun q7 => ?_) (fun q7 => ?_)
      · replace hK := hK.1 q7
        have L41 : ∀ (n : Nat) (a1 : Int) (a2 : Int) (a3 : Int) (V : zV), m12_wills_L41  Q n a1 a2 a3 V → zW X S V 0 0 [some (zR 53), some (zI a1), some (zI a2), some (zI a3), none] [] 41 := by
          intro n41
          induction n41 with
          | zero => intro _ _ _ _ hK; exact hK.elim
          | succ n41 ih41 =>
            intro a1 a2 a3 V hK
            unfold m12_wills_L41 at hK
            refine a_iload_n C dX12_wills_41 rfl ?_
            refine a_bipush C dX12_wills_42 (by decide) ?_
            obtain ⟨q39, hK⟩ := hK
            refine a_icmp_ge C 77 dX12_wills_44 (by decide) ⟨q39, ⟨by decide, by decide⟩⟩ (fun q40 => ?_) (fun q40 => ?_)
            · replace hK := hK.1 q40
              have L82 : ∀ (n : Nat) (a2 : Int) (a3 : Int) (a4 : Int) (V : zV), m12_wills_L82  Q n a2 a3 a4 V → zW X S V 0 0 [some (zR 53), none, some (zI a2), some (zI a3), some (zI a4)] [] 82 := by
                intro n82
                induction n82 with
                | zero => intro _ _ _ _ hK; exact hK.elim
                | succ n82 ih82 =>
                  intro a2 a3 a4 V hK
                  unfold m12_wills_L82 at hK
                  refine a_iload C dX12_wills_82 rfl ?_
                  refine a_iconst C dX12_wills_84 ?_
                  refine a_aload_n C dX12_wills_85 rfl ?_
                  refine a_getI C fl_X12_91_12 h_53 rfl dX12_wills_86 (fun r53 => ?_)
                  refine a_imul C dX12_wills_89 ?_
                  obtain ⟨q54, hK⟩ := hK
                  obtain ⟨q55, hK⟩ := hK
                  refine a_icmp_ge C 137 dX12_wills_90 (by decide) ⟨q54, q55⟩ (fun q56 => ?_) (fun q56 => ?_)
                  · replace hK := hK.1 q56
                    refine a_aload_n C dX12_wills_137 rfl ?_
                    refine a_callV (as := []) (rest := []) C 0 (fun l => c12_layBack l) h_53 ⟨_, _, rfl⟩ (by decide) ml_X12_189 im_X12_layBack se_X12_layBack in_X12 co_X12_layBack (by decide +kernel) rfl ⟨Nat.le_of_ble_eq_true rfl, Nat.le_of_ble_eq_true rfl⟩ (Nat.le_of_ble_eq_true rfl) dX12_wills_138 ⟨Nat.le_of_ble_eq_true rfl, Nat.le_of_ble_eq_true rfl⟩ ?_
                    refine ⟨_, rfl, hM, hK, fun V138 hK => ?_⟩
                    try dsimp only [Option.toList, List.cons_append, List.nil_append]
                    refine a_iload_n C dX12_wills_141 rfl ?_
                    exact a_iret C E dX12_wills_142 (Nat.le_refl _) (Nat.le_refl _) (hpost _ _ hK)
                  · replace hK := hK.2 q56
                    refine a_iload_n C dX12_wills_93 rfl ?_
                    refine a_aload_n C dX12_wills_94 rfl ?_
                    refine a_iload C dX12_wills_95 rfl ?_
                    refine a_iconst C dX12_wills_97 ?_
                    obtain ⟨q57, hK⟩ := hK
                    refine a_idiv C dX12_wills_98 ⟨q57, by decide, by decide⟩ ?_
                    refine a_callV (as := [zI (a4 / 2)]) (rest := [zI a3]) C 1 (fun l => c12_isStruck l) h_53 ⟨_, _, rfl⟩ (by decide) ml_X12_113 im_X12_isStruck se_X12_isStruck in_X12 co_X12_isStruck (by decide +kernel) rfl ⟨Nat.le_of_ble_eq_true rfl, Nat.le_of_ble_eq_true rfl⟩ (Nat.le_of_ble_eq_true rfl) dX12_wills_99 ⟨Nat.le_of_ble_eq_true rfl, Nat.le_of_ble_eq_true rfl⟩ ?_
                    refine ⟨(a4 / 2), _, rfl, hM, hK, fun r99 V99 hK => ?_⟩
                    try dsimp only [Option.toList, List.cons_append, List.nil_append]
                    obtain ⟨q58, hK⟩ := hK
                    refine a_if_ne C 128 dX12_wills_102 (by decide) q58 (fun q59 => ?_) (fun q59 => ?_)
                    · replace hK := hK.1 q59
                      refine a_iconst C dX12_wills_128 ?_
                      refine a_ior C dX12_wills_129 ?_
                      refine a_istore_n C dX12_wills_130 (Nat.le_of_ble_eq_true rfl) ?_
                      refine a_iinc C dX12_wills_131 rfl (Nat.le_of_ble_eq_true rfl) ?_
                      refine a_goto C 82 dX12_wills_134 (by decide) ?_
                      exact a_ls (lsub_s rfl (lsub_n (lsub_s rfl (lsub_s rfl (lsub_s rfl lsub_0))))) (ih82 a2 (zor a3 0) (a4 + 1) _ hK)
                    · replace hK := hK.2 q59
                      refine a_aload_n C dX12_wills_105 rfl ?_
                      refine a_iload C dX12_wills_106 rfl ?_
                      refine a_iconst C dX12_wills_108 ?_
                      obtain ⟨q60, hK⟩ := hK
                      refine a_idiv C dX12_wills_109 ⟨q60, by decide, by decide⟩ ?_
                      refine a_iload C dX12_wills_110 rfl ?_
                      refine a_iconst C dX12_wills_112 ?_
                      obtain ⟨q61, hK⟩ := hK
                      refine a_irem C dX12_wills_113 ⟨q61, by decide, by decide⟩ ?_
                      refine a_callV (as := [zI (a4 / 2), zI (a4 % 2)]) (rest := [zI a3]) C 2 (fun l => c12_onSide l) h_53 ⟨_, _, rfl⟩ (by decide) ml_X12_116 im_X12_onSide se_X12_onSide in_X12 co_X12_onSide (by decide +kernel) rfl ⟨Nat.le_of_ble_eq_true rfl, Nat.le_of_ble_eq_true rfl⟩ (Nat.le_of_ble_eq_true rfl) dX12_wills_114 ⟨Nat.le_of_ble_eq_true rfl, Nat.le_of_ble_eq_true rfl⟩ ?_
                      refine ⟨(a4 / 2), (a4 % 2), _, rfl, hM, hK, fun r114 V114 hK => ?_⟩
                      try dsimp only [Option.toList, List.cons_append, List.nil_append]
                      refine a_iload_n C dX12_wills_117 rfl ?_
                      obtain ⟨q62, hK⟩ := hK
                      obtain ⟨q63, hK⟩ := hK
                      refine a_icmp_ne C 128 dX12_wills_118 (by decide) ⟨q62, q63⟩ (fun q64 => ?_) (fun q64 => ?_)
                      · replace hK := hK.1 q64
                        refine a_iconst C dX12_wills_128 ?_
                        refine a_ior C dX12_wills_129 ?_
                        refine a_istore_n C dX12_wills_130 (Nat.le_of_ble_eq_true rfl) ?_
                        refine a_iinc C dX12_wills_131 rfl (Nat.le_of_ble_eq_true rfl) ?_
                        refine a_goto C 82 dX12_wills_134 (by decide) ?_
                        exact a_ls (lsub_s rfl (lsub_n (lsub_s rfl (lsub_s rfl (lsub_s rfl lsub_0))))) (ih82 a2 (zor a3 0) (a4 + 1) _ hK)
                      · replace hK := hK.2 q64
                        refine a_iconst C dX12_wills_121 ?_
                        refine a_iload C dX12_wills_122 rfl ?_
                        refine a_ishl C dX12_wills_124 ?_
                        refine a_goto C 129 dX12_wills_125 (by decide) ?_
                        refine a_ior C dX12_wills_129 ?_
                        refine a_istore_n C dX12_wills_130 (Nat.le_of_ble_eq_true rfl) ?_
                        refine a_iinc C dX12_wills_131 rfl (Nat.le_of_ble_eq_true rfl) ?_
                        refine a_goto C 82 dX12_wills_134 (by decide) ?_
                        exact a_ls (lsub_s rfl (lsub_n (lsub_s rfl (lsub_s rfl (lsub_s rfl lsub_0))))) (ih82 a2 (zor a3 (zshl 1 a4)) (a4 + 1) _ hK)
              refine a_iconst C dX12_wills_77 ?_
              refine a_istore_n C dX12_wills_78 (Nat.le_of_ble_eq_true rfl) ?_
              refine a_iconst C dX12_wills_79 ?_
              refine a_istore C dX12_wills_80 (Nat.le_of_ble_eq_true rfl) ?_
              obtain ⟨nn65, hK⟩ := hK
              exact a_ls (lsub_s rfl (lsub_n (lsub_s rfl (lsub_s rfl (lsub_s rfl lsub_0))))) (L82 nn65 a2 0 0 _ hK)
            · replace hK := hK.2 q40
              refine a_iload_n C dX12_wills_47 rfl ?_
              refine a_iload_n C dX12_wills_48 rfl ?_
              refine a_ishr C dX12_wills_49 ?_
              refine a_iconst C dX12_wills_50 ?_
              refine a_iand C dX12_wills_51 ?_
              refine a_iconst C dX12_wills_52 ?_
              obtain ⟨q66, hK⟩ := hK
              refine a_icmp_ne C 71 dX12_wills_53 (by decide) ⟨q66, ⟨by decide, by decide⟩⟩ (fun q67 => ?_) (fun q67 => ?_)
              · replace hK := hK.1 q67
                refine a_iinc C dX12_wills_71 rfl (Nat.le_of_ble_eq_true rfl) ?_
                refine a_goto C 41 dX12_wills_74 (by decide) ?_
                exact a_ls (lsub_s rfl (lsub_s rfl (lsub_s rfl (lsub_s rfl (lsub_n lsub_0))))) (ih41 a1 a2 (a3 + 1) _ hK)
              · replace hK := hK.2 q67
                refine a_aload_n C dX12_wills_56 rfl ?_
                refine a_iload_n C dX12_wills_57 rfl ?_
                refine a_callV (as := [zI a3]) (rest := []) C 1 (fun l => c12_isAlive l) h_53 ⟨_, _, rfl⟩ (by decide) ml_X12_143 im_X12_isAlive se_X12_isAlive in_X12 co_X12_isAlive (by decide +kernel) rfl ⟨Nat.le_of_ble_eq_true rfl, Nat.le_of_ble_eq_true rfl⟩ (Nat.le_of_ble_eq_true rfl) dX12_wills_58 ⟨Nat.le_of_ble_eq_true rfl, Nat.le_of_ble_eq_true rfl⟩ ?_
                refine ⟨a3, _, rfl, hM, hK, fun r58 V58 hK => ?_⟩
                try dsimp only [Option.toList, List.cons_append, List.nil_append]
                obtain ⟨q68, hK⟩ := hK
                refine a_if_eq C 71 dX12_wills_61 (by decide) q68 (fun q69 => ?_) (fun q69 => ?_)
                · replace hK := hK.1 q69
                  refine a_iinc C dX12_wills_71 rfl (Nat.le_of_ble_eq_true rfl) ?_
                  refine a_goto C 41 dX12_wills_74 (by decide) ?_
                  exact a_ls (lsub_s rfl (lsub_s rfl (lsub_s rfl (lsub_s rfl (lsub_n lsub_0))))) (ih41 a1 a2 (a3 + 1) _ hK)
                · replace hK := hK.2 q69
                  refine a_aload_n C dX12_wills_64 rfl ?_
                  refine a_iload_n C dX12_wills_65 rfl ?_
                  refine a_callV (as := [zI a3]) (rest := []) C 1 (fun l => c12_died l) h_53 ⟨_, _, rfl⟩ (by decide) ml_X12_167 im_X12_died se_X12_died in_X12 co_X12_died (by decide +kernel) rfl ⟨Nat.le_of_ble_eq_true rfl, Nat.le_of_ble_eq_true rfl⟩ (Nat.le_of_ble_eq_true rfl) dX12_wills_66 ⟨Nat.le_of_ble_eq_true rfl, Nat.le_of_ble_eq_true rfl⟩ ?_
                  refine ⟨a3, _, rfl, hM, hK, fun r66 V66 hK => ?_⟩
                  try dsimp only [Option.toList, List.cons_append, List.nil_append]
                  refine a_istore C dX12_wills_69 (Nat.le_of_ble_eq_true rfl) ?_
                  refine a_iinc C dX12_wills_71 rfl (Nat.le_of_ble_eq_true rfl) ?_
                  refine a_goto C 41 dX12_wills_74 (by decide) ?_
                  exact a_ls (lsub_s rfl (lsub_s rfl (lsub_s rfl (lsub_s rfl (lsub_n lsub_0))))) (ih41 a1 a2 (a3 + 1) _ hK)
        refine a_aload_n C dX12_wills_35 rfl ?_
        refine a_callV (as := []) (rest := []) C 0 (fun l => c12_save l) h_53 ⟨_, _, rfl⟩ (by decide) ml_X12_192 im_X12_save se_X12_save in_X12 co_X12_save (by decide +kernel) rfl ⟨Nat.le_of_ble_eq_true rfl, Nat.le_of_ble_eq_true rfl⟩ (Nat.le_of_ble_eq_true rfl) dX12_wills_36 ⟨Nat.le_of_ble_eq_true rfl, Nat.le_of_ble_eq_true rfl⟩ ?_
        refine ⟨_, rfl, hM, hK, fun V36 hK => ?_⟩
        try dsimp only [Option.toList, List.cons_append, List.nil_append]
        refine a_iconst C dX12_wills_39 ?_
        refine a_istore_n C dX12_wills_40 (Nat.le_of_ble_eq_true rfl) ?_
        obtain ⟨nn70, hK⟩ := hK
        exact a_ls (lsub_s rfl (lsub_s rfl (lsub_s rfl (lsub_s rfl (lsub_n lsub_0))))) (L41 nn70 a1 a2 0 _ hK)
      · replace hK := hK.2 q7
        refine a_bipush C dX12_wills_32 (by decide) ?_
        exact a_iret C E dX12_wills_34 (Nat.le_refl _) (Nat.le_refl _) (hpost _ _ hK)
    · replace hK := hK.2 q5
      refine a_bipush C dX12_wills_22 (by decide) ?_
      exact a_iret C E dX12_wills_24 (Nat.le_refl _) (Nat.le_refl _) (hpost _ _ hK)
  · replace hK := hK.2 q2
    refine a_bipush C dX12_wills_7 (by decide) ?_
    exact a_iret C E dX12_wills_9 (Nat.le_refl _) (Nat.le_refl _) (hpost _ _ hK)

def m12_term_L6  (Q : Int → zV → Prop) : Nat → Int → Int → Int → Int → Int → zV → Prop
  | 0 => fun _ _ _ _ _ _ => False
  | n + 1 => fun a0 a2 a4 a5 a7 V => (inL a5) ∧ ((a5 = 0 → (inR a4) ∧ ((¬ a4 = 0 → ((0 ≤ a2 ∧ a2 < 9223372036854775808) ∧ 0 < a7 ∧ a7 < 9223372036854775808) ∧ Q (a2 / a7) V) ∧ (a4 = 0 → ((0 ≤ a0 ∧ a0 < 9223372036854775808) ∧ 0 < a7 ∧ a7 < 9223372036854775808) ∧ Q (a0 / a7) V))) ∧ (¬ a5 = 0 → ((0 ≤ a7 ∧ a7 < 9223372036854775808) ∧ 0 < a5 ∧ a5 < 9223372036854775808) ∧ m12_term_L6  Q n a0 a2 a4 (a7 % a5) a5 V))
def m12_term  (V : zV) (a0 : Int) (a2 : Int) (a4 : Int) (Q : Int → zV → Prop) : Prop :=
  ∃ nn15, m12_term_L6  Q nn15 a0 a2 a4 a0 a2 V
def t12_term : zT := fun as S V post => ∃ (a0 : Int) (a2 : Int) (a4 : Int) (Q : Int → zV → Prop), as = [zJ a0, zJ a2, zI a4] ∧ m12_term V a0 a2 a4 Q ∧ (∀ r V2, Q r V2 → post (some (zJ r)) S V2)
set_option maxHeartbeats 4000000 in
set_option maxRecDepth 20000 in
theorem c12_term (l : Launch) : zCT l yX12_term cX12_term 11 (some .long) { frames := 0, cells := 0, slots := 0, locals := 0 } t12_term := by
  refine zCT_of (by decide) (fun as S V post h => by obtain ⟨a0, a2, a4, Q, rfl, -⟩ := h; exact Nat.le_of_ble_eq_true rfl) ?_
  intro X S V as post C E hT
  obtain ⟨a0, a2, a4, Q, rfl, hK, hpost⟩ := hT
  show zW X S V 0 0 [some (zJ a0), none, some (zJ a2), none, some (zI a4), none, none, none, none, none, none] [] 0
  unfold m12_term at hK
  have L6 : ∀ (n : Nat) (a0 : Int) (a2 : Int) (a4 : Int) (a5 : Int) (a7 : Int) (V : zV), m12_term_L6  Q n a0 a2 a4 a5 a7 V → zW X S V 0 0 [some (zJ a0), none, some (zJ a2), none, some (zI a4), some (zJ a5), none, some (zJ a7), none, none, none] [] 6 := by
    intro n6
    induction n6 with
    | zero => intro _ _ _ _ _ _ hK; exact hK.elim
    | succ n6 ih6 =>
      intro a0 a2 a4 a5 a7 V hK
      unfold m12_term_L6 at hK
      refine a_lload C dX12_term_6 rfl ?_
      refine a_lconst C 0 dX12_term_8 (by decide) ?_
      obtain ⟨q8, hK⟩ := hK
      refine a_lcmp_eq C 31 dX12_term_9 dX12_term_10 (by decide) ⟨q8, ⟨by decide, by decide⟩⟩ (fun q9 => ?_) (fun q9 => ?_)
      · replace hK := hK.1 q9
        refine a_iload C dX12_term_31 rfl ?_
        obtain ⟨q10, hK⟩ := hK
        refine a_if_ne C 43 dX12_term_33 (by decide) q10 (fun q11 => ?_) (fun q11 => ?_)
        · replace hK := hK.1 q11
          refine a_lload_n C dX12_term_43 rfl ?_
          refine a_lload C dX12_term_44 rfl ?_
          obtain ⟨q12, hK⟩ := hK
          refine a_ldiv C dX12_term_46 q12 ?_
          exact a_lret C E dX12_term_47 (Nat.le_refl _) (Nat.le_refl _) (hpost _ _ hK)
        · replace hK := hK.2 q11
          refine a_lload_n C dX12_term_36 rfl ?_
          refine a_lload C dX12_term_37 rfl ?_
          obtain ⟨q13, hK⟩ := hK
          refine a_ldiv C dX12_term_39 q13 ?_
          refine a_goto C 47 dX12_term_40 (by decide) ?_
          exact a_lret C E dX12_term_47 (Nat.le_refl _) (Nat.le_refl _) (hpost _ _ hK)
      · replace hK := hK.2 q9
        refine a_lload C dX12_term_13 rfl ?_
        refine a_lload C dX12_term_15 rfl ?_
        obtain ⟨q14, hK⟩ := hK
        refine a_lrem C dX12_term_17 q14 ?_
        refine a_lstore C dX12_term_18 (Nat.le_of_ble_eq_true rfl) ?_
        refine a_eqal (al' := [some (zJ a0), none, some (zJ a2), none, some (zI a4), some (zJ a5), none, some (zJ a7), none, some (zJ (a7 % a5)), none]) rfl ?_
        refine a_lload C dX12_term_20 rfl ?_
        refine a_lstore C dX12_term_22 (Nat.le_of_ble_eq_true rfl) ?_
        refine a_eqal (al' := [some (zJ a0), none, some (zJ a2), none, some (zI a4), some (zJ a5), none, some (zJ a5), none, some (zJ (a7 % a5)), none]) rfl ?_
        refine a_lload C dX12_term_24 rfl ?_
        refine a_lstore C dX12_term_26 (Nat.le_of_ble_eq_true rfl) ?_
        refine a_eqal (al' := [some (zJ a0), none, some (zJ a2), none, some (zI a4), some (zJ (a7 % a5)), none, some (zJ a5), none, some (zJ (a7 % a5)), none]) rfl ?_
        refine a_goto C 6 dX12_term_28 (by decide) ?_
        exact a_ls (lsub_s rfl (lsub_n (lsub_s rfl (lsub_n (lsub_s rfl (lsub_s rfl (lsub_n (lsub_s rfl (lsub_n (lsub_n (lsub_n lsub_0))))))))))) (ih6 a0 a2 a4 (a7 % a5) a5 _ hK)
  refine a_lload_n C dX12_term_0 rfl ?_
  refine a_lstore C dX12_term_1 (Nat.le_of_ble_eq_true rfl) ?_
  refine a_eqal (al' := [some (zJ a0), none, some (zJ a2), none, some (zI a4), some (zJ a0), none, none, none, none, none]) rfl ?_
  refine a_lload_n C dX12_term_3 rfl ?_
  refine a_lstore C dX12_term_4 (Nat.le_of_ble_eq_true rfl) ?_
  refine a_eqal (al' := [some (zJ a0), none, some (zJ a2), none, some (zI a4), some (zJ a0), none, some (zJ a2), none, none, none]) rfl ?_
  obtain ⟨nn15, hK⟩ := hK
  exact a_ls (lsub_s rfl (lsub_n (lsub_s rfl (lsub_n (lsub_s rfl (lsub_s rfl (lsub_n (lsub_s rfl (lsub_n (lsub_n (lsub_n lsub_0))))))))))) (L6 nn15 a0 a2 a4 a0 a2 _ hK)

def m12_left_J184 (k88 : Int → Int → Int → Int → Int → zV → Prop) (k158 : Int → Int → Int → Int → Int → Int → Int → Int → zV → Prop) (Q : Int → zV → Prop) (a1 : Int) (a2 : Int) (a3 : Int) (a4 : Int) (a6 : Int) (a9 : Int) (a11 : Int) (a13 : Int) (s0 : Int) (V : zV) : Prop :=
  (0 ≤ a13 ∧ a13 < 10) ∧ (0 ≤ a13 ∧ a13 < 10) ∧ (inL (((V 62 (a13).toNat) * (a11 - a9)) + s0)) ∧ k158 a1 a2 a3 a4 a6 a9 a11 (a13 + (-1)) (vset V 62 (a13).toNat (((V 62 (a13).toNat) * (a11 - a9)) + s0))
def m12_left_L158 (k88 : Int → Int → Int → Int → Int → zV → Prop) (Q : Int → zV → Prop) : Nat → Int → Int → Int → Int → Int → Int → Int → Int → zV → Prop
  | 0 => fun _ _ _ _ _ _ _ _ _ => False
  | n + 1 => fun a1 a2 a3 a4 a6 a9 a11 a13 V => (inR a13) ∧ ((a13 < 0 → k88 a1 a2 a3 (a4 * a11) (a6 + 1) V) ∧ (0 ≤ a13 → ((¬ a13 = 0 → (0 ≤ (a13 - 1) ∧ (a13 - 1) < 10) ∧ m12_left_J184 (k88) (m12_left_L158 k88 Q n) Q a1 a2 a3 a4 a6 a9 a11 a13 ((V 62 ((a13 - 1)).toNat) * a9) V) ∧ (a13 = 0 → m12_left_J184 (k88) (m12_left_L158 k88 Q n) Q a1 a2 a3 a4 a6 a9 a11 a13 0 V))))
def m12_left_J136 (k88 : Int → Int → Int → Int → Int → zV → Prop) (Q : Int → zV → Prop) (a1 : Int) (a2 : Int) (a3 : Int) (a4 : Int) (a6 : Int) (s0 : Int) (V : zV) : Prop :=
  (inR a1) ∧ ((¬ a1 = 1 → ∃ nn49, m12_left_L158 (k88) Q nn49 a1 a2 a3 a4 a6 s0 100 8 V) ∧ (a1 = 1 → ∃ nn76, m12_left_L158 (k88) Q nn76 a1 a2 a3 a4 a6 s0 10 8 V))
def m12_left_L88  (Q : Int → zV → Prop) : Nat → Int → Int → Int → Int → Int → zV → Prop
  | 0 => fun _ _ _ _ _ _ => False
  | n + 1 => fun a1 a2 a3 a4 a6 V => (inR a6) ∧ (((V 53 5) ≤ a6 → (0 ≤ a2 ∧ a2 < 10) ∧ m12_term V (V 62 (a2).toNat) a4 a3 (fun r237 V237 => Q r237 V237)) ∧ (a6 < (V 53 5) → m12_isStruck V a6 (fun r100 V100 => (inR r100) ∧ ((¬ r100 = 0 → m12_left_L88  Q n a1 a2 a3 a4 (a6 + 1) V100) ∧ (r100 = 0 → (0 ≤ ((7 * a6) + 1) ∧ ((7 * a6) + 1) < 56) ∧ (inR a1) ∧ ((¬ a1 = 1 → m12_left_J136 (m12_left_L88  Q n) Q a1 a2 a3 a4 a6 ((V100 56 (((7 * a6) + 1)).toNat) * (V100 56 (((7 * a6) + 1)).toNat)) V100) ∧ (a1 = 1 → m12_left_J136 (m12_left_L88  Q n) Q a1 a2 a3 a4 a6 (V100 56 (((7 * a6) + 1)).toNat) V100)))))))
def m12_left_L52  (Q : Int → zV → Prop) : Nat → Int → Int → Int → Int → zV → Prop
  | 0 => fun _ _ _ _ _ => False
  | n + 1 => fun a1 a2 a3 a4 V => (inR a4) ∧ ((10 ≤ a4 → ∃ nn260, m12_left_L88  Q nn260 a1 a2 a3 1 0 V) ∧ (a4 < 10 → ((¬ a4 = 0 → (0 ≤ a4 ∧ a4 < 10) ∧ m12_left_L52  Q n a1 a2 a3 (a4 + 1) (vset V 62 (a4).toNat 0)) ∧ (a4 = 0 → (0 ≤ a4 ∧ a4 < 10) ∧ m12_left_L52  Q n a1 a2 a3 (a4 + 1) (vset V 62 (a4).toNat 1)))))
def m12_left  (V : zV) (a1 : Int) (a2 : Int) (a3 : Int) (Q : Int → zV → Prop) : Prop :=
  (inR a1) ∧ m12_in V a1 1 2 (fun r6 V6 => (inR r6) ∧ ((r6 = 0 → Q (-102) V6) ∧ (¬ r6 = 0 → (inR a2) ∧ m12_in V6 a2 0 8 (fun r18 V18 => (inR r18) ∧ ((r18 = 0 → Q (-102) V18) ∧ (¬ r18 = 0 → (inR a3) ∧ m12_in V18 a3 0 1 (fun r28 V28 => (inR r28) ∧ ((¬ r28 = 0 → m12_lacks V28 (fun r39 V39 => (inR r39) ∧ ((r39 = 0 → ∃ nn516, m12_left_L52  Q nn516 a1 a2 a3 0 V39) ∧ (¬ r39 = 0 → Q (-103) V39)))) ∧ (r28 = 0 → Q (-102) V28)))))))))
def t12_left : zT := fun as S V post => ∃ (a1 : Int) (a2 : Int) (a3 : Int) (Q : Int → zV → Prop), as = [zR 53, zI a1, zI a2, zI a3] ∧ PSm S ∧ m12_left V a1 a2 a3 Q ∧ (∀ r V2, Q r V2 → post (some (zJ r)) S V2)
set_option maxHeartbeats 4000000 in
set_option maxRecDepth 20000 in
theorem c12_left (l : Launch) : zCT l yX12_left cX12_left 16 (some .long) { frames := 1, cells := 0, slots := 0, locals := 30 } t12_left := by
  refine zCT_of (by decide) (fun as S V post h => by obtain ⟨a1, a2, a3, Q, rfl, -⟩ := h; exact Nat.le_of_ble_eq_true rfl) ?_
  intro X S V as post C E hT
  obtain ⟨a1, a2, a3, Q, rfl, hM, hK, hpost⟩ := hT
  obtain ⟨w_53, r_53, h_53, g_53_0, g_53_2, g_53_7, g_53_8, g_53_10, g_53_11, g_53_12, g_53_13, g_53_14, g_53_16, g_53_21, g_53_22, g_53_23, g_53_24⟩ := PSm_53 hM
  obtain ⟨r_62, h_62⟩ := PSm_62 hM
  obtain ⟨r_56, h_56⟩ := PSm_56 hM
  show zW X S V 0 0 [some (zR 53), some (zI a1), some (zI a2), some (zI a3), none, none, none, none, none, none, none, none, none, none, none, none] [] 0
  unfold m12_left at hK
  refine a_iload_n C dX12_left_0 rfl ?_
  obtain ⟨q1, hK⟩ := hK
  refine a_i2l C dX12_left_1 q1 ?_
  refine a_lconst C 1 dX12_left_2 (by decide) ?_
  refine a_ldc2 C kl_X12_206 dX12_left_3 ?_
  refine a_callS (as := [zJ a1, zJ 1, zJ 2]) (rest := []) C 3 (fun l => c12_in l) ml_X12_62 sa_X12_in in_X12 co_X12_in (by decide +kernel) rfl ⟨Nat.le_of_ble_eq_true rfl, Nat.le_of_ble_eq_true rfl⟩ (Nat.le_of_ble_eq_true rfl) dX12_left_6 ⟨Nat.le_of_ble_eq_true rfl, Nat.le_of_ble_eq_true rfl⟩ ?_
  refine ⟨a1, 1, 2, _, rfl, hK, fun r6 V6 hK => ?_⟩
  try dsimp only [Option.toList, List.cons_append, List.nil_append]
  obtain ⟨q2, hK⟩ := hK
  refine a_if_eq C 34 dX12_left_9 (by decide) q2 (fun q3 => ?_) (fun q3 => ?_)
  · replace hK := hK.1 q3
    refine a_ldc2 C kl_X12_210 dX12_left_34 ?_
    exact a_lret C E dX12_left_37 (Nat.le_refl _) (Nat.le_refl _) (hpost _ _ hK)
  · replace hK := hK.2 q3
    refine a_iload_n C dX12_left_12 rfl ?_
    obtain ⟨q4, hK⟩ := hK
    refine a_i2l C dX12_left_13 q4 ?_
    refine a_lconst C 0 dX12_left_14 (by decide) ?_
    refine a_ldc2 C kl_X12_208 dX12_left_15 ?_
    refine a_callS (as := [zJ a2, zJ 0, zJ 8]) (rest := []) C 3 (fun l => c12_in l) ml_X12_62 sa_X12_in in_X12 co_X12_in (by decide +kernel) rfl ⟨Nat.le_of_ble_eq_true rfl, Nat.le_of_ble_eq_true rfl⟩ (Nat.le_of_ble_eq_true rfl) dX12_left_18 ⟨Nat.le_of_ble_eq_true rfl, Nat.le_of_ble_eq_true rfl⟩ ?_
    refine ⟨a2, 0, 8, _, rfl, hK, fun r18 V18 hK => ?_⟩
    try dsimp only [Option.toList, List.cons_append, List.nil_append]
    obtain ⟨q5, hK⟩ := hK
    refine a_if_eq C 34 dX12_left_21 (by decide) q5 (fun q6 => ?_) (fun q6 => ?_)
    · replace hK := hK.1 q6
      refine a_ldc2 C kl_X12_210 dX12_left_34 ?_
      exact a_lret C E dX12_left_37 (Nat.le_refl _) (Nat.le_refl _) (hpost _ _ hK)
    · replace hK := hK.2 q6
      refine a_iload_n C dX12_left_24 rfl ?_
      obtain ⟨q7, hK⟩ := hK
      refine a_i2l C dX12_left_25 q7 ?_
      refine a_lconst C 0 dX12_left_26 (by decide) ?_
      refine a_lconst C 1 dX12_left_27 (by decide) ?_
      refine a_callS (as := [zJ a3, zJ 0, zJ 1]) (rest := []) C 3 (fun l => c12_in l) ml_X12_62 sa_X12_in in_X12 co_X12_in (by decide +kernel) rfl ⟨Nat.le_of_ble_eq_true rfl, Nat.le_of_ble_eq_true rfl⟩ (Nat.le_of_ble_eq_true rfl) dX12_left_28 ⟨Nat.le_of_ble_eq_true rfl, Nat.le_of_ble_eq_true rfl⟩ ?_
      refine ⟨a3, 0, 1, _, rfl, hK, fun r28 V28 hK => ?_⟩
      try dsimp only [Option.toList, List.cons_append, List.nil_append]
      obtain ⟨q8, hK⟩ := hK
      refine a_if_ne C 38 dX12_left_31 (by decide) q8 (fun q9 => ?_) (fun q9 => ?_)
      · replace hK := hK.1 q9
        refine a_aload_n C dX12_left_38 rfl ?_
        refine a_callV (as := []) (rest := []) C 0 (fun l => c12_lacks l) h_53 ⟨_, _, rfl⟩ (by decide) ml_X12_139 im_X12_lacks se_X12_lacks in_X12 co_X12_lacks (by decide +kernel) rfl ⟨Nat.le_of_ble_eq_true rfl, Nat.le_of_ble_eq_true rfl⟩ (Nat.le_of_ble_eq_true rfl) dX12_left_39 ⟨Nat.le_of_ble_eq_true rfl, Nat.le_of_ble_eq_true rfl⟩ ?_
        refine ⟨_, rfl, hM, hK, fun r39 V39 hK => ?_⟩
        try dsimp only [Option.toList, List.cons_append, List.nil_append]
        obtain ⟨q10, hK⟩ := hK
        refine a_if_eq C 49 dX12_left_42 (by decide) q10 (fun q11 => ?_) (fun q11 => ?_)
        · replace hK := hK.1 q11
          have L52 : ∀ (n : Nat) (a1 : Int) (a2 : Int) (a3 : Int) (a4 : Int) (V : zV), m12_left_L52  Q n a1 a2 a3 a4 V → zW X S V 0 0 [some (zR 53), some (zI a1), some (zI a2), some (zI a3), some (zI a4), none, none, none, none, none, none, none, none, none, none, none] [] 52 := by
            intro n52
            induction n52 with
            | zero => intro _ _ _ _ _ hK; exact hK.elim
            | succ n52 ih52 =>
              intro a1 a2 a3 a4 V hK
              unfold m12_left_L52 at hK
              refine a_iload C dX12_left_52 rfl ?_
              refine a_bipush C dX12_left_54 (by decide) ?_
              obtain ⟨q264, hK⟩ := hK
              refine a_icmp_ge C 82 dX12_left_56 (by decide) ⟨q264, ⟨by decide, by decide⟩⟩ (fun q265 => ?_) (fun q265 => ?_)
              · replace hK := hK.1 q265
                have L88 : ∀ (n : Nat) (a1 : Int) (a2 : Int) (a3 : Int) (a4 : Int) (a6 : Int) (V : zV), m12_left_L88  Q n a1 a2 a3 a4 a6 V → zW X S V 0 0 [some (zR 53), some (zI a1), some (zI a2), some (zI a3), some (zJ a4), none, some (zI a6), none, none, none, none, none, none, none, none, none] [] 88 := by
                  intro n88
                  induction n88 with
                  | zero => intro _ _ _ _ _ _ hK; exact hK.elim
                  | succ n88 ih88 =>
                    intro a1 a2 a3 a4 a6 V hK
                    unfold m12_left_L88 at hK
                    refine a_iload C dX12_left_88 rfl ?_
                    refine a_aload_n C dX12_left_90 rfl ?_
                    refine a_getI C fl_X12_91_12 h_53 rfl dX12_left_91 (fun r389 => ?_)
                    obtain ⟨q390, hK⟩ := hK
                    refine a_icmp_ge C 228 dX12_left_94 (by decide) ⟨q390, r389⟩ (fun q391 => ?_) (fun q391 => ?_)
                    · replace hK := hK.1 q391
                      refine a_aload_n C dX12_left_228 rfl ?_
                      refine a_getR C fl_X12_34_12 h_53 rfl g_53_14 dX12_left_229 ?_
                      refine a_iload_n C dX12_left_232 rfl ?_
                      obtain ⟨q392, hK⟩ := hK
                      refine a_lald C h_62 dX12_left_233 (by decide) q392 (fun r393 => ?_)
                      refine a_lload C dX12_left_234 rfl ?_
                      refine a_iload_n C dX12_left_236 rfl ?_
                      refine a_callS (as := [zJ (V 62 (a2).toNat), zJ a4, zI a3]) (rest := []) C 3 (fun l => c12_term l) ml_X12_218 sa_X12_term in_X12 co_X12_term (by decide +kernel) rfl ⟨Nat.le_of_ble_eq_true rfl, Nat.le_of_ble_eq_true rfl⟩ (Nat.le_of_ble_eq_true rfl) dX12_left_237 ⟨Nat.le_of_ble_eq_true rfl, Nat.le_of_ble_eq_true rfl⟩ ?_
                      refine ⟨(V 62 (a2).toNat), a4, a3, _, rfl, hK, fun r237 V237 hK => ?_⟩
                      try dsimp only [Option.toList, List.cons_append, List.nil_append]
                      exact a_lret C E dX12_left_240 (Nat.le_refl _) (Nat.le_refl _) (hpost _ _ hK)
                    · replace hK := hK.2 q391
                      refine a_aload_n C dX12_left_97 rfl ?_
                      refine a_iload C dX12_left_98 rfl ?_
                      refine a_callV (as := [zI a6]) (rest := []) C 1 (fun l => c12_isStruck l) h_53 ⟨_, _, rfl⟩ (by decide) ml_X12_113 im_X12_isStruck se_X12_isStruck in_X12 co_X12_isStruck (by decide +kernel) rfl ⟨Nat.le_of_ble_eq_true rfl, Nat.le_of_ble_eq_true rfl⟩ (Nat.le_of_ble_eq_true rfl) dX12_left_100 ⟨Nat.le_of_ble_eq_true rfl, Nat.le_of_ble_eq_true rfl⟩ ?_
                      refine ⟨a6, _, rfl, hM, hK, fun r100 V100 hK => ?_⟩
                      try dsimp only [Option.toList, List.cons_append, List.nil_append]
                      obtain ⟨q394, hK⟩ := hK
                      refine a_if_ne C 222 dX12_left_103 (by decide) q394 (fun q395 => ?_) (fun q395 => ?_)
                      · replace hK := hK.1 q395
                        refine a_iinc C dX12_left_222 rfl (Nat.le_of_ble_eq_true rfl) ?_
                        refine a_goto C 88 dX12_left_225 (by decide) ?_
                        exact a_ls (lsub_s rfl (lsub_s rfl (lsub_s rfl (lsub_s rfl (lsub_s rfl (lsub_n (lsub_s rfl (lsub_n (lsub_n (lsub_n (lsub_n (lsub_n (lsub_n (lsub_n (lsub_n (lsub_n lsub_0)))))))))))))))) (ih88 a1 a2 a3 a4 (a6 + 1) _ hK)
                      · replace hK := hK.2 q395
                        have J136 : ∀ (a1 : Int) (a2 : Int) (a3 : Int) (a4 : Int) (a6 : Int) (s0 : Int) (V : zV), m12_left_J136 (m12_left_L88  Q n88) Q a1 a2 a3 a4 a6 s0 V → zW X S V 0 0 [some (zR 53), some (zI a1), some (zI a2), some (zI a3), some (zJ a4), none, some (zI a6), none, none, none, none, none, none, none, none, none] [zJ s0] 136 := by
                          intro a1 a2 a3 a4 a6 s0 V hK
                          unfold m12_left_J136 at hK
                          refine a_lstore C dX12_left_136 (Nat.le_of_ble_eq_true rfl) ?_
                          refine a_eqal (al' := [some (zR 53), some (zI a1), some (zI a2), some (zI a3), some (zJ a4), none, some (zI a6), none, none, some (zJ s0), none, none, none, none, none, none]) rfl ?_
                          refine a_iload_n C dX12_left_138 rfl ?_
                          refine a_iconst C dX12_left_139 ?_
                          obtain ⟨q452, hK⟩ := hK
                          refine a_icmp_ne C 149 dX12_left_140 (by decide) ⟨q452, ⟨by decide, by decide⟩⟩ (fun q453 => ?_) (fun q453 => ?_)
                          · replace hK := hK.1 q453
                            refine a_ldc2 C kl_X12_216 dX12_left_149 ?_
                            have L158 : ∀ (n : Nat) (a1 : Int) (a2 : Int) (a3 : Int) (a4 : Int) (a6 : Int) (a9 : Int) (a11 : Int) (a13 : Int) (V : zV), m12_left_L158 (m12_left_L88  Q n88) Q n a1 a2 a3 a4 a6 a9 a11 a13 V → zW X S V 0 0 [some (zR 53), some (zI a1), some (zI a2), some (zI a3), some (zJ a4), none, some (zI a6), none, none, some (zJ a9), none, some (zJ a11), none, some (zI a13), none, none] [] 158 := by
                              intro n158
                              induction n158 with
                              | zero => intro _ _ _ _ _ _ _ _ _ hK; exact hK.elim
                              | succ n158 ih158 =>
                                intro a1 a2 a3 a4 a6 a9 a11 a13 V hK
                                unfold m12_left_L158 at hK
                                refine a_iload C dX12_left_158 rfl ?_
                                obtain ⟨q467, hK⟩ := hK
                                refine a_if_lt C 215 dX12_left_160 (by decide) q467 (fun q468 => ?_) (fun q468 => ?_)
                                · replace hK := hK.1 q468
                                  refine a_lload C dX12_left_215 rfl ?_
                                  refine a_lload C dX12_left_217 rfl ?_
                                  refine a_lmul C dX12_left_219 ?_
                                  refine a_lstore C dX12_left_220 (Nat.le_of_ble_eq_true rfl) ?_
                                  refine a_eqal (al' := [some (zR 53), some (zI a1), some (zI a2), some (zI a3), some (zJ (a4 * a11)), none, some (zI a6), none, none, some (zJ a9), none, some (zJ a11), none, some (zI a13), none, none]) rfl ?_
                                  refine a_iinc C dX12_left_222 rfl (Nat.le_of_ble_eq_true rfl) ?_
                                  refine a_goto C 88 dX12_left_225 (by decide) ?_
                                  exact a_ls (lsub_s rfl (lsub_s rfl (lsub_s rfl (lsub_s rfl (lsub_s rfl (lsub_n (lsub_s rfl (lsub_n (lsub_n (lsub_n (lsub_n (lsub_n (lsub_n (lsub_n (lsub_n (lsub_n lsub_0)))))))))))))))) (ih88 a1 a2 a3 (a4 * a11) (a6 + 1) _ hK)
                                · replace hK := hK.2 q468
                                  have J184 : ∀ (a1 : Int) (a2 : Int) (a3 : Int) (a4 : Int) (a6 : Int) (a9 : Int) (a11 : Int) (a13 : Int) (s0 : Int) (V : zV), m12_left_J184 (m12_left_L88  Q n88) (m12_left_L158 (m12_left_L88  Q n88) Q n158) Q a1 a2 a3 a4 a6 a9 a11 a13 s0 V → zW X S V 0 0 [some (zR 53), some (zI a1), some (zI a2), some (zI a3), some (zJ a4), none, some (zI a6), none, none, some (zJ a9), none, some (zJ a11), none, some (zI a13), none, none] [zJ s0] 184 := by
                                    intro a1 a2 a3 a4 a6 a9 a11 a13 s0 V hK
                                    unfold m12_left_J184 at hK
                                    refine a_lstore C dX12_left_184 (Nat.le_of_ble_eq_true rfl) ?_
                                    refine a_eqal (al' := [some (zR 53), some (zI a1), some (zI a2), some (zI a3), some (zJ a4), none, some (zI a6), none, none, some (zJ a9), none, some (zJ a11), none, some (zI a13), some (zJ s0), none]) rfl ?_
                                    refine a_aload_n C dX12_left_186 rfl ?_
                                    refine a_getR C fl_X12_34_12 h_53 rfl g_53_14 dX12_left_187 ?_
                                    refine a_iload C dX12_left_190 rfl ?_
                                    refine a_aload_n C dX12_left_192 rfl ?_
                                    refine a_getR C fl_X12_34_12 h_53 rfl g_53_14 dX12_left_193 ?_
                                    refine a_iload C dX12_left_196 rfl ?_
                                    obtain ⟨q473, hK⟩ := hK
                                    refine a_lald C h_62 dX12_left_198 (by decide) q473 (fun r474 => ?_)
                                    refine a_lload C dX12_left_199 rfl ?_
                                    refine a_lload C dX12_left_201 rfl ?_
                                    refine a_lsub C dX12_left_203 ?_
                                    refine a_lmul C dX12_left_204 ?_
                                    refine a_lload C dX12_left_205 rfl ?_
                                    refine a_ladd C dX12_left_207 ?_
                                    obtain ⟨q475, hK⟩ := hK
                                    obtain ⟨q476, hK⟩ := hK
                                    refine a_last C h_62 dX12_left_208 (by decide) ⟨q475, q476⟩ ?_
                                    refine a_iinc C dX12_left_209 rfl (Nat.le_of_ble_eq_true rfl) ?_
                                    refine a_goto C 158 dX12_left_212 (by decide) ?_
                                    exact a_ls (lsub_s rfl (lsub_s rfl (lsub_s rfl (lsub_s rfl (lsub_s rfl (lsub_n (lsub_s rfl (lsub_n (lsub_n (lsub_s rfl (lsub_n (lsub_s rfl (lsub_n (lsub_s rfl (lsub_n (lsub_n lsub_0)))))))))))))))) (ih158 a1 a2 a3 a4 a6 a9 a11 (a13 + (-1)) _ hK)
                                  refine a_iload C dX12_left_163 rfl ?_
                                  refine a_if_ne C 172 dX12_left_165 (by decide) q467 (fun q477 => ?_) (fun q477 => ?_)
                                  · replace hK := hK.1 q477
                                    refine a_aload_n C dX12_left_172 rfl ?_
                                    refine a_getR C fl_X12_34_12 h_53 rfl g_53_14 dX12_left_173 ?_
                                    refine a_iload C dX12_left_176 rfl ?_
                                    refine a_iconst C dX12_left_178 ?_
                                    refine a_isub C dX12_left_179 ?_
                                    obtain ⟨q478, hK⟩ := hK
                                    refine a_lald C h_62 dX12_left_180 (by decide) q478 (fun r479 => ?_)
                                    refine a_lload C dX12_left_181 rfl ?_
                                    refine a_lmul C dX12_left_183 ?_
                                    exact a_ls (lsub_s rfl (lsub_s rfl (lsub_s rfl (lsub_s rfl (lsub_s rfl (lsub_n (lsub_s rfl (lsub_n (lsub_n (lsub_s rfl (lsub_n (lsub_s rfl (lsub_n (lsub_s rfl (lsub_n (lsub_n lsub_0)))))))))))))))) (J184 a1 a2 a3 a4 a6 a9 a11 a13 ((V 62 ((a13 - 1)).toNat) * a9) _ hK)
                                  · replace hK := hK.2 q477
                                    refine a_lconst C 0 dX12_left_168 (by decide) ?_
                                    refine a_goto C 184 dX12_left_169 (by decide) ?_
                                    exact a_ls (lsub_s rfl (lsub_s rfl (lsub_s rfl (lsub_s rfl (lsub_s rfl (lsub_n (lsub_s rfl (lsub_n (lsub_n (lsub_s rfl (lsub_n (lsub_s rfl (lsub_n (lsub_s rfl (lsub_n (lsub_n lsub_0)))))))))))))))) (J184 a1 a2 a3 a4 a6 a9 a11 a13 0 _ hK)
                            refine a_lstore C dX12_left_152 (Nat.le_of_ble_eq_true rfl) ?_
                            refine a_eqal (al' := [some (zR 53), some (zI a1), some (zI a2), some (zI a3), some (zJ a4), none, some (zI a6), none, none, some (zJ s0), none, some (zJ 100), none, none, none, none]) rfl ?_
                            refine a_bipush C dX12_left_154 (by decide) ?_
                            refine a_istore C dX12_left_156 (Nat.le_of_ble_eq_true rfl) ?_
                            obtain ⟨nn480, hK⟩ := hK
                            exact a_ls (lsub_s rfl (lsub_s rfl (lsub_s rfl (lsub_s rfl (lsub_s rfl (lsub_n (lsub_s rfl (lsub_n (lsub_n (lsub_s rfl (lsub_n (lsub_s rfl (lsub_n (lsub_s rfl (lsub_n (lsub_n lsub_0)))))))))))))))) (L158 nn480 a1 a2 a3 a4 a6 s0 100 8 _ hK)
                          · replace hK := hK.2 q453
                            refine a_ldc2 C kl_X12_214 dX12_left_143 ?_
                            refine a_goto C 152 dX12_left_146 (by decide) ?_
                            have L158 : ∀ (n : Nat) (a1 : Int) (a2 : Int) (a3 : Int) (a4 : Int) (a6 : Int) (a9 : Int) (a11 : Int) (a13 : Int) (V : zV), m12_left_L158 (m12_left_L88  Q n88) Q n a1 a2 a3 a4 a6 a9 a11 a13 V → zW X S V 0 0 [some (zR 53), some (zI a1), some (zI a2), some (zI a3), some (zJ a4), none, some (zI a6), none, none, some (zJ a9), none, some (zJ a11), none, some (zI a13), none, none] [] 158 := by
                              intro n158
                              induction n158 with
                              | zero => intro _ _ _ _ _ _ _ _ _ hK; exact hK.elim
                              | succ n158 ih158 =>
                                intro a1 a2 a3 a4 a6 a9 a11 a13 V hK
                                unfold m12_left_L158 at hK
                                refine a_iload C dX12_left_158 rfl ?_
                                obtain ⟨q494, hK⟩ := hK
                                refine a_if_lt C 215 dX12_left_160 (by decide) q494 (fun q495 => ?_) (fun q495 => ?_)
                                · replace hK := hK.1 q495
                                  refine a_lload C dX12_left_215 rfl ?_
                                  refine a_lload C dX12_left_217 rfl ?_
                                  refine a_lmul C dX12_left_219 ?_
                                  refine a_lstore C dX12_left_220 (Nat.le_of_ble_eq_true rfl) ?_
                                  refine a_eqal (al' := [some (zR 53), some (zI a1), some (zI a2), some (zI a3), some (zJ (a4 * a11)), none, some (zI a6), none, none, some (zJ a9), none, some (zJ a11), none, some (zI a13), none, none]) rfl ?_
                                  refine a_iinc C dX12_left_222 rfl (Nat.le_of_ble_eq_true rfl) ?_
                                  refine a_goto C 88 dX12_left_225 (by decide) ?_
                                  exact a_ls (lsub_s rfl (lsub_s rfl (lsub_s rfl (lsub_s rfl (lsub_s rfl (lsub_n (lsub_s rfl (lsub_n (lsub_n (lsub_n (lsub_n (lsub_n (lsub_n (lsub_n (lsub_n (lsub_n lsub_0)))))))))))))))) (ih88 a1 a2 a3 (a4 * a11) (a6 + 1) _ hK)
                                · replace hK := hK.2 q495
                                  have J184 : ∀ (a1 : Int) (a2 : Int) (a3 : Int) (a4 : Int) (a6 : Int) (a9 : Int) (a11 : Int) (a13 : Int) (s0 : Int) (V : zV), m12_left_J184 (m12_left_L88  Q n88) (m12_left_L158 (m12_left_L88  Q n88) Q n158) Q a1 a2 a3 a4 a6 a9 a11 a13 s0 V → zW X S V 0 0 [some (zR 53), some (zI a1), some (zI a2), some (zI a3), some (zJ a4), none, some (zI a6), none, none, some (zJ a9), none, some (zJ a11), none, some (zI a13), none, none] [zJ s0] 184 := by
                                    intro a1 a2 a3 a4 a6 a9 a11 a13 s0 V hK
                                    unfold m12_left_J184 at hK
                                    refine a_lstore C dX12_left_184 (Nat.le_of_ble_eq_true rfl) ?_
                                    refine a_eqal (al' := [some (zR 53), some (zI a1), some (zI a2), some (zI a3), some (zJ a4), none, some (zI a6), none, none, some (zJ a9), none, some (zJ a11), none, some (zI a13), some (zJ s0), none]) rfl ?_
                                    refine a_aload_n C dX12_left_186 rfl ?_
                                    refine a_getR C fl_X12_34_12 h_53 rfl g_53_14 dX12_left_187 ?_
                                    refine a_iload C dX12_left_190 rfl ?_
                                    refine a_aload_n C dX12_left_192 rfl ?_
                                    refine a_getR C fl_X12_34_12 h_53 rfl g_53_14 dX12_left_193 ?_
                                    refine a_iload C dX12_left_196 rfl ?_
                                    obtain ⟨q500, hK⟩ := hK
                                    refine a_lald C h_62 dX12_left_198 (by decide) q500 (fun r501 => ?_)
                                    refine a_lload C dX12_left_199 rfl ?_
                                    refine a_lload C dX12_left_201 rfl ?_
                                    refine a_lsub C dX12_left_203 ?_
                                    refine a_lmul C dX12_left_204 ?_
                                    refine a_lload C dX12_left_205 rfl ?_
                                    refine a_ladd C dX12_left_207 ?_
                                    obtain ⟨q502, hK⟩ := hK
                                    obtain ⟨q503, hK⟩ := hK
                                    refine a_last C h_62 dX12_left_208 (by decide) ⟨q502, q503⟩ ?_
                                    refine a_iinc C dX12_left_209 rfl (Nat.le_of_ble_eq_true rfl) ?_
                                    refine a_goto C 158 dX12_left_212 (by decide) ?_
                                    exact a_ls (lsub_s rfl (lsub_s rfl (lsub_s rfl (lsub_s rfl (lsub_s rfl (lsub_n (lsub_s rfl (lsub_n (lsub_n (lsub_s rfl (lsub_n (lsub_s rfl (lsub_n (lsub_s rfl (lsub_n (lsub_n lsub_0)))))))))))))))) (ih158 a1 a2 a3 a4 a6 a9 a11 (a13 + (-1)) _ hK)
                                  refine a_iload C dX12_left_163 rfl ?_
                                  refine a_if_ne C 172 dX12_left_165 (by decide) q494 (fun q504 => ?_) (fun q504 => ?_)
                                  · replace hK := hK.1 q504
                                    refine a_aload_n C dX12_left_172 rfl ?_
                                    refine a_getR C fl_X12_34_12 h_53 rfl g_53_14 dX12_left_173 ?_
                                    refine a_iload C dX12_left_176 rfl ?_
                                    refine a_iconst C dX12_left_178 ?_
                                    refine a_isub C dX12_left_179 ?_
                                    obtain ⟨q505, hK⟩ := hK
                                    refine a_lald C h_62 dX12_left_180 (by decide) q505 (fun r506 => ?_)
                                    refine a_lload C dX12_left_181 rfl ?_
                                    refine a_lmul C dX12_left_183 ?_
                                    exact a_ls (lsub_s rfl (lsub_s rfl (lsub_s rfl (lsub_s rfl (lsub_s rfl (lsub_n (lsub_s rfl (lsub_n (lsub_n (lsub_s rfl (lsub_n (lsub_s rfl (lsub_n (lsub_s rfl (lsub_n (lsub_n lsub_0)))))))))))))))) (J184 a1 a2 a3 a4 a6 a9 a11 a13 ((V 62 ((a13 - 1)).toNat) * a9) _ hK)
                                  · replace hK := hK.2 q504
                                    refine a_lconst C 0 dX12_left_168 (by decide) ?_
                                    refine a_goto C 184 dX12_left_169 (by decide) ?_
                                    exact a_ls (lsub_s rfl (lsub_s rfl (lsub_s rfl (lsub_s rfl (lsub_s rfl (lsub_n (lsub_s rfl (lsub_n (lsub_n (lsub_s rfl (lsub_n (lsub_s rfl (lsub_n (lsub_s rfl (lsub_n (lsub_n lsub_0)))))))))))))))) (J184 a1 a2 a3 a4 a6 a9 a11 a13 0 _ hK)
                            refine a_lstore C dX12_left_152 (Nat.le_of_ble_eq_true rfl) ?_
                            refine a_eqal (al' := [some (zR 53), some (zI a1), some (zI a2), some (zI a3), some (zJ a4), none, some (zI a6), none, none, some (zJ s0), none, some (zJ 10), none, none, none, none]) rfl ?_
                            refine a_bipush C dX12_left_154 (by decide) ?_
                            refine a_istore C dX12_left_156 (Nat.le_of_ble_eq_true rfl) ?_
                            obtain ⟨nn507, hK⟩ := hK
                            exact a_ls (lsub_s rfl (lsub_s rfl (lsub_s rfl (lsub_s rfl (lsub_s rfl (lsub_n (lsub_s rfl (lsub_n (lsub_n (lsub_s rfl (lsub_n (lsub_s rfl (lsub_n (lsub_s rfl (lsub_n (lsub_n lsub_0)))))))))))))))) (L158 nn507 a1 a2 a3 a4 a6 s0 10 8 _ hK)
                        refine a_aload_n C dX12_left_106 rfl ?_
                        refine a_getR C fl_X12_16_12 h_53 rfl g_53_7 dX12_left_107 ?_
                        refine a_bipush C dX12_left_110 (by decide) ?_
                        refine a_iload C dX12_left_112 rfl ?_
                        refine a_imul C dX12_left_114 ?_
                        refine a_iconst C dX12_left_115 ?_
                        refine a_iadd C dX12_left_116 ?_
                        obtain ⟨q508, hK⟩ := hK
                        refine a_iald C h_56 dX12_left_117 (by decide) q508 (fun r509 => ?_)
                        refine a_i2l C dX12_left_118 r509 ?_
                        refine a_lstore C dX12_left_119 (Nat.le_of_ble_eq_true rfl) ?_
                        refine a_eqal (al' := [some (zR 53), some (zI a1), some (zI a2), some (zI a3), some (zJ a4), none, some (zI a6), some (zJ (V100 56 (((7 * a6) + 1)).toNat)), none, none, none, none, none, none, none, none]) rfl ?_
                        refine a_iload_n C dX12_left_121 rfl ?_
                        refine a_iconst C dX12_left_122 ?_
                        obtain ⟨q510, hK⟩ := hK
                        refine a_icmp_ne C 131 dX12_left_123 (by decide) ⟨q510, ⟨by decide, by decide⟩⟩ (fun q511 => ?_) (fun q511 => ?_)
                        · replace hK := hK.1 q511
                          refine a_lload C dX12_left_131 rfl ?_
                          refine a_lload C dX12_left_133 rfl ?_
                          refine a_lmul C dX12_left_135 ?_
                          exact a_ls (lsub_s rfl (lsub_s rfl (lsub_s rfl (lsub_s rfl (lsub_s rfl (lsub_n (lsub_s rfl (lsub_n (lsub_n (lsub_n (lsub_n (lsub_n (lsub_n (lsub_n (lsub_n (lsub_n lsub_0)))))))))))))))) (J136 a1 a2 a3 a4 a6 ((V100 56 (((7 * a6) + 1)).toNat) * (V100 56 (((7 * a6) + 1)).toNat)) _ hK)
                        · replace hK := hK.2 q511
                          refine a_lload C dX12_left_126 rfl ?_
                          refine a_goto C 136 dX12_left_128 (by decide) ?_
                          exact a_ls (lsub_s rfl (lsub_s rfl (lsub_s rfl (lsub_s rfl (lsub_s rfl (lsub_n (lsub_s rfl (lsub_n (lsub_n (lsub_n (lsub_n (lsub_n (lsub_n (lsub_n (lsub_n (lsub_n lsub_0)))))))))))))))) (J136 a1 a2 a3 a4 a6 (V100 56 (((7 * a6) + 1)).toNat) _ hK)
                refine a_lconst C 1 dX12_left_82 (by decide) ?_
                refine a_lstore C dX12_left_83 (Nat.le_of_ble_eq_true rfl) ?_
                refine a_eqal (al' := [some (zR 53), some (zI a1), some (zI a2), some (zI a3), some (zJ 1), none, none, none, none, none, none, none, none, none, none, none]) rfl ?_
                refine a_iconst C dX12_left_85 ?_
                refine a_istore C dX12_left_86 (Nat.le_of_ble_eq_true rfl) ?_
                obtain ⟨nn512, hK⟩ := hK
                exact a_ls (lsub_s rfl (lsub_s rfl (lsub_s rfl (lsub_s rfl (lsub_s rfl (lsub_n (lsub_s rfl (lsub_n (lsub_n (lsub_n (lsub_n (lsub_n (lsub_n (lsub_n (lsub_n (lsub_n lsub_0)))))))))))))))) (L88 nn512 a1 a2 a3 1 0 _ hK)
              · replace hK := hK.2 q265
                refine a_aload_n C dX12_left_59 rfl ?_
                refine a_getR C fl_X12_34_12 h_53 rfl g_53_14 dX12_left_60 ?_
                refine a_iload C dX12_left_63 rfl ?_
                refine a_iload C dX12_left_65 rfl ?_
                refine a_if_ne C 74 dX12_left_67 (by decide) q264 (fun q513 => ?_) (fun q513 => ?_)
                · replace hK := hK.1 q513
                  refine a_lconst C 0 dX12_left_74 (by decide) ?_
                  obtain ⟨q514, hK⟩ := hK
                  refine a_last C h_62 dX12_left_75 (by decide) ⟨q514, ⟨by decide, by decide⟩⟩ ?_
                  refine a_iinc C dX12_left_76 rfl (Nat.le_of_ble_eq_true rfl) ?_
                  refine a_goto C 52 dX12_left_79 (by decide) ?_
                  exact a_ls (lsub_s rfl (lsub_s rfl (lsub_s rfl (lsub_s rfl (lsub_s rfl (lsub_n (lsub_n (lsub_n (lsub_n (lsub_n (lsub_n (lsub_n (lsub_n (lsub_n (lsub_n (lsub_n lsub_0)))))))))))))))) (ih52 a1 a2 a3 (a4 + 1) _ hK)
                · replace hK := hK.2 q513
                  refine a_lconst C 1 dX12_left_70 (by decide) ?_
                  refine a_goto C 75 dX12_left_71 (by decide) ?_
                  obtain ⟨q515, hK⟩ := hK
                  refine a_last C h_62 dX12_left_75 (by decide) ⟨q515, ⟨by decide, by decide⟩⟩ ?_
                  refine a_iinc C dX12_left_76 rfl (Nat.le_of_ble_eq_true rfl) ?_
                  refine a_goto C 52 dX12_left_79 (by decide) ?_
                  exact a_ls (lsub_s rfl (lsub_s rfl (lsub_s rfl (lsub_s rfl (lsub_s rfl (lsub_n (lsub_n (lsub_n (lsub_n (lsub_n (lsub_n (lsub_n (lsub_n (lsub_n (lsub_n (lsub_n lsub_0)))))))))))))))) (ih52 a1 a2 a3 (a4 + 1) _ hK)
          refine a_iconst C dX12_left_49 ?_
          refine a_istore C dX12_left_50 (Nat.le_of_ble_eq_true rfl) ?_
          obtain ⟨nn516, hK⟩ := hK
          exact a_ls (lsub_s rfl (lsub_s rfl (lsub_s rfl (lsub_s rfl (lsub_s rfl (lsub_n (lsub_n (lsub_n (lsub_n (lsub_n (lsub_n (lsub_n (lsub_n (lsub_n (lsub_n (lsub_n lsub_0)))))))))))))))) (L52 nn516 a1 a2 a3 0 _ hK)
        · replace hK := hK.2 q11
          refine a_ldc2 C kl_X12_212 dX12_left_45 ?_
          exact a_lret C E dX12_left_48 (Nat.le_refl _) (Nat.le_refl _) (hpost _ _ hK)
      · replace hK := hK.2 q9
        refine a_ldc2 C kl_X12_210 dX12_left_34 ?_
        exact a_lret C E dX12_left_37 (Nat.le_refl _) (Nat.le_refl _) (hpost _ _ hK)

def m12_register  (V : zV) (a1 : Int) (a2 : Int) (Q : Int → zV → Prop) : Prop :=
  m12_arePair V a1 a2 (fun r2 V2 => (inR r2) ∧ ((¬ r2 = 0 → ((¬ (V2 53 15) = 8 → (0 ≤ (2 * (V2 53 15)) ∧ (2 * (V2 53 15)) < 16) ∧ (inR a1) ∧ (0 ≤ ((2 * ((vset V2 63 ((2 * (V2 53 15))).toNat a1) 53 15)) + 1) ∧ ((2 * ((vset V2 63 ((2 * (V2 53 15))).toNat a1) 53 15)) + 1) < 16) ∧ (inR a2) ∧ (inR (((vset (vset V2 63 ((2 * (V2 53 15))).toNat a1) 63 (((2 * ((vset V2 63 ((2 * (V2 53 15))).toNat a1) 53 15)) + 1)).toNat a2) 53 15) + 1)) ∧ Q ((vset (vset (vset V2 63 ((2 * (V2 53 15))).toNat a1) 63 (((2 * ((vset V2 63 ((2 * (V2 53 15))).toNat a1) 53 15)) + 1)).toNat a2) 53 15 (((vset (vset V2 63 ((2 * (V2 53 15))).toNat a1) 63 (((2 * ((vset V2 63 ((2 * (V2 53 15))).toNat a1) 53 15)) + 1)).toNat a2) 53 15) + 1)) 53 15) (vset (vset (vset V2 63 ((2 * (V2 53 15))).toNat a1) 63 (((2 * ((vset V2 63 ((2 * (V2 53 15))).toNat a1) 53 15)) + 1)).toNat a2) 53 15 (((vset (vset V2 63 ((2 * (V2 53 15))).toNat a1) 63 (((2 * ((vset V2 63 ((2 * (V2 53 15))).toNat a1) 53 15)) + 1)).toNat a2) 53 15) + 1))) ∧ ((V2 53 15) = 8 → Q (-104) V2))) ∧ (r2 = 0 → Q (-101) V2)))
def t12_register : zT := fun as S V post => ∃ (a1 : Int) (a2 : Int) (Q : Int → zV → Prop), as = [zR 53, zI a1, zI a2] ∧ PSm S ∧ m12_register V a1 a2 Q ∧ (∀ r V2, Q r V2 → post (some (zI r)) S V2)
set_option maxHeartbeats 4000000 in
set_option maxRecDepth 20000 in
theorem c12_register (l : Launch) : zCT l yX12_register cX12_register 3 (some .int) { frames := 3, cells := 0, slots := 0, locals := 66 } t12_register := by
  refine zCT_of (by decide) (fun as S V post h => by obtain ⟨a1, a2, Q, rfl, -⟩ := h; exact Nat.le_of_ble_eq_true rfl) ?_
  intro X S V as post C E hT
  obtain ⟨a1, a2, Q, rfl, hM, hK, hpost⟩ := hT
  obtain ⟨w_53, r_53, h_53, g_53_0, g_53_2, g_53_7, g_53_8, g_53_10, g_53_11, g_53_12, g_53_13, g_53_14, g_53_16, g_53_21, g_53_22, g_53_23, g_53_24⟩ := PSm_53 hM
  obtain ⟨r_63, h_63⟩ := PSm_63 hM
  show zW X S V 0 0 [some (zR 53), some (zI a1), some (zI a2)] [] 0
  unfold m12_register at hK
  refine a_iload_n C dX12_register_0 rfl ?_
  refine a_iload_n C dX12_register_1 rfl ?_
  refine a_callS (as := [zI a1, zI a2]) (rest := []) C 2 (fun l => c12_arePair l) ml_X12_173 sa_X12_arePair in_X12 co_X12_arePair (by decide +kernel) rfl ⟨Nat.le_of_ble_eq_true rfl, Nat.le_of_ble_eq_true rfl⟩ (Nat.le_of_ble_eq_true rfl) dX12_register_2 ⟨Nat.le_of_ble_eq_true rfl, Nat.le_of_ble_eq_true rfl⟩ ?_
  refine ⟨a1, a2, _, rfl, hK, fun r2 V2 hK => ?_⟩
  try dsimp only [Option.toList, List.cons_append, List.nil_append]
  obtain ⟨q1, hK⟩ := hK
  refine a_if_ne C 11 dX12_register_5 (by decide) q1 (fun q2 => ?_) (fun q2 => ?_)
  · replace hK := hK.1 q2
    refine a_aload_n C dX12_register_11 rfl ?_
    refine a_getI C fl_X12_97_12 h_53 rfl dX12_register_12 (fun r3 => ?_)
    refine a_bipush C dX12_register_15 (by decide) ?_
    refine a_icmp_ne C 23 dX12_register_17 (by decide) ⟨r3, ⟨by decide, by decide⟩⟩ (fun q4 => ?_) (fun q4 => ?_)
    · replace hK := hK.1 q4
      refine a_aload_n C dX12_register_23 rfl ?_
      refine a_getR C fl_X12_38_12 h_53 rfl g_53_16 dX12_register_24 ?_
      refine a_iconst C dX12_register_27 ?_
      refine a_aload_n C dX12_register_28 rfl ?_
      refine a_getI C fl_X12_97_12 h_53 rfl dX12_register_29 (fun r5 => ?_)
      refine a_imul C dX12_register_32 ?_
      refine a_iload_n C dX12_register_33 rfl ?_
      obtain ⟨q6, hK⟩ := hK
      obtain ⟨q7, hK⟩ := hK
      refine a_iast C h_63 dX12_register_34 (by decide) ⟨q6, q7⟩ ?_
      refine a_aload_n C dX12_register_35 rfl ?_
      refine a_getR C fl_X12_38_12 h_53 rfl g_53_16 dX12_register_36 ?_
      refine a_iconst C dX12_register_39 ?_
      refine a_aload_n C dX12_register_40 rfl ?_
      refine a_getI C fl_X12_97_12 h_53 rfl dX12_register_41 (fun r8 => ?_)
      refine a_imul C dX12_register_44 ?_
      refine a_iconst C dX12_register_45 ?_
      refine a_iadd C dX12_register_46 ?_
      refine a_iload_n C dX12_register_47 rfl ?_
      obtain ⟨q9, hK⟩ := hK
      obtain ⟨q10, hK⟩ := hK
      refine a_iast C h_63 dX12_register_48 (by decide) ⟨q9, q10⟩ ?_
      refine a_aload_n C dX12_register_49 rfl ?_
      refine a_dup C dX12_register_50 rfl ?_
      refine a_getI C fl_X12_97_12 h_53 rfl dX12_register_51 (fun r11 => ?_)
      refine a_iconst C dX12_register_54 ?_
      refine a_iadd C dX12_register_55 ?_
      obtain ⟨q12, hK⟩ := hK
      refine a_putI C fl_X12_97_12 (Or.inl rfl) h_53 rfl dX12_register_56 ⟨q12, fun q => by cases q⟩ ?_
      refine a_aload_n C dX12_register_59 rfl ?_
      refine a_getI C fl_X12_97_12 h_53 rfl dX12_register_60 (fun r13 => ?_)
      exact a_iret C E dX12_register_63 (Nat.le_refl _) (Nat.le_refl _) (hpost _ _ hK)
    · replace hK := hK.2 q4
      refine a_bipush C dX12_register_20 (by decide) ?_
      exact a_iret C E dX12_register_22 (Nat.le_refl _) (Nat.le_refl _) (hpost _ _ hK)
  · replace hK := hK.2 q2
    refine a_bipush C dX12_register_8 (by decide) ?_
    exact a_iret C E dX12_register_10 (Nat.le_refl _) (Nat.le_refl _) (hpost _ _ hK)

def m12_forget  (V : zV)  (Q : Int → zV → Prop) : Prop :=
  Q (V 53 15) (vset V 53 15 0)
def t12_forget : zT := fun as S V post => ∃ (Q : Int → zV → Prop), as = [zR 53] ∧ PSm S ∧ m12_forget V Q ∧ (∀ r V2, Q r V2 → post (some (zI r)) S V2)
set_option maxHeartbeats 4000000 in
set_option maxRecDepth 20000 in
theorem c12_forget (l : Launch) : zCT l yX12_forget cX12_forget 2 (some .int) { frames := 0, cells := 0, slots := 0, locals := 0 } t12_forget := by
  refine zCT_of (by decide) (fun as S V post h => by obtain ⟨Q, rfl, -⟩ := h; exact Nat.le_of_ble_eq_true rfl) ?_
  intro X S V as post C E hT
  obtain ⟨Q, rfl, hM, hK, hpost⟩ := hT
  obtain ⟨w_53, r_53, h_53, g_53_0, g_53_2, g_53_7, g_53_8, g_53_10, g_53_11, g_53_12, g_53_13, g_53_14, g_53_16, g_53_21, g_53_22, g_53_23, g_53_24⟩ := PSm_53 hM
  show zW X S V 0 0 [some (zR 53), none] [] 0
  unfold m12_forget at hK
  refine a_aload_n C dX12_forget_0 rfl ?_
  refine a_getI C fl_X12_97_12 h_53 rfl dX12_forget_1 (fun r1 => ?_)
  refine a_istore_n C dX12_forget_4 (Nat.le_of_ble_eq_true rfl) ?_
  refine a_aload_n C dX12_forget_5 rfl ?_
  refine a_iconst C dX12_forget_6 ?_
  refine a_putI C fl_X12_97_12 (Or.inl rfl) h_53 rfl dX12_forget_7 ⟨⟨by decide, by decide⟩, fun q => by cases q⟩ ?_
  refine a_iload_n C dX12_forget_10 rfl ?_
  exact a_iret C E dX12_forget_11 (Nat.le_refl _) (Nat.le_refl _) (hpost _ _ hK)

def m12_isLapsedBy_J66 (k5 : Int → Int → Int → Int → zV → Prop) (Q : Int → zV → Prop) (a1 : Int) (a2 : Int) (a4 : Int) (a5 : Int) (a6 : Int) (V : zV) : Prop :=
  m12_feudsOf V a5 a6 (fun r71 V71 => (inR r71) ∧ ((r71 ≤ 0 → k5 a1 a2 0 (a4 + 1) V71) ∧ (0 < r71 → k5 a1 a2 1 (a4 + 1) V71)))
def m12_isLapsedBy_J54 (k5 : Int → Int → Int → Int → zV → Prop) (Q : Int → zV → Prop) (a1 : Int) (a2 : Int) (a4 : Int) (a5 : Int) (a6 : Int) (V : zV) : Prop :=
  (inR a5) ∧ (inR a2) ∧ ((¬ a5 = a2 → m12_isLapsedBy_J66 (k5) Q a1 a2 a4 a5 a6 V) ∧ (a5 = a2 → (inR a6) ∧ (inR a1) ∧ ((a6 = a1 → k5 a1 a2 1 (a4 + 1) V) ∧ (¬ a6 = a1 → m12_isLapsedBy_J66 (k5) Q a1 a2 a4 a5 a6 V))))
def m12_isLapsedBy_L5  (Q : Int → zV → Prop) : Nat → Int → Int → Int → Int → zV → Prop
  | 0 => fun _ _ _ _ _ => False
  | n + 1 => fun a1 a2 a3 a4 V => (inR a4) ∧ (((V 53 15) ≤ a4 → (a3 = 0 ∨ a3 = 1) ∧ Q a3 V) ∧ (a4 < (V 53 15) → (0 ≤ (2 * a4) ∧ (2 * a4) < 16) ∧ (0 ≤ ((2 * a4) + 1) ∧ ((2 * a4) + 1) < 16) ∧ (inR a3) ∧ ((a3 = 0 → m12_isLapsedBy_L5  Q n a1 a2 0 (a4 + 1) V) ∧ (¬ a3 = 0 → (inR a1) ∧ ((¬ (V 63 ((2 * a4)).toNat) = a1 → m12_isLapsedBy_J54 (m12_isLapsedBy_L5  Q n) Q a1 a2 a4 (V 63 ((2 * a4)).toNat) (V 63 (((2 * a4) + 1)).toNat) V) ∧ ((V 63 ((2 * a4)).toNat) = a1 → (inR a2) ∧ (((V 63 (((2 * a4) + 1)).toNat) = a2 → m12_isLapsedBy_L5  Q n a1 a2 1 (a4 + 1) V) ∧ (¬ (V 63 (((2 * a4) + 1)).toNat) = a2 → m12_isLapsedBy_J54 (m12_isLapsedBy_L5  Q n) Q a1 a2 a4 (V 63 ((2 * a4)).toNat) (V 63 (((2 * a4) + 1)).toNat) V))))))))
def m12_isLapsedBy  (V : zV) (a1 : Int) (a2 : Int) (Q : Int → zV → Prop) : Prop :=
  ∃ nn69, m12_isLapsedBy_L5  Q nn69 a1 a2 1 0 V
def t12_isLapsedBy : zT := fun as S V post => ∃ (a1 : Int) (a2 : Int) (Q : Int → zV → Prop), as = [zR 53, zI a1, zI a2] ∧ PSm S ∧ m12_isLapsedBy V a1 a2 Q ∧ (∀ r V2, Q r V2 → post (some (zI r)) S V2)
set_option maxHeartbeats 4000000 in
set_option maxRecDepth 20000 in
theorem c12_isLapsedBy (l : Launch) : zCT l yX12_isLapsedBy cX12_isLapsedBy 7 (some .boolean) { frames := 4, cells := 0, slots := 0, locals := 91 } t12_isLapsedBy := by
  refine zCT_of (by decide) (fun as S V post h => by obtain ⟨a1, a2, Q, rfl, -⟩ := h; exact Nat.le_of_ble_eq_true rfl) ?_
  intro X S V as post C E hT
  obtain ⟨a1, a2, Q, rfl, hM, hK, hpost⟩ := hT
  obtain ⟨w_53, r_53, h_53, g_53_0, g_53_2, g_53_7, g_53_8, g_53_10, g_53_11, g_53_12, g_53_13, g_53_14, g_53_16, g_53_21, g_53_22, g_53_23, g_53_24⟩ := PSm_53 hM
  obtain ⟨r_63, h_63⟩ := PSm_63 hM
  show zW X S V 0 0 [some (zR 53), some (zI a1), some (zI a2), none, none, none, none] [] 0
  unfold m12_isLapsedBy at hK
  have L5 : ∀ (n : Nat) (a1 : Int) (a2 : Int) (a3 : Int) (a4 : Int) (V : zV), m12_isLapsedBy_L5  Q n a1 a2 a3 a4 V → zW X S V 0 0 [some (zR 53), some (zI a1), some (zI a2), some (zI a3), some (zI a4), none, none] [] 5 := by
    intro n5
    induction n5 with
    | zero => intro _ _ _ _ _ hK; exact hK.elim
    | succ n5 ih5 =>
      intro a1 a2 a3 a4 V hK
      unfold m12_isLapsedBy_L5 at hK
      refine a_iload C dX12_isLapsedBy_5 rfl ?_
      refine a_aload_n C dX12_isLapsedBy_7 rfl ?_
      refine a_getI C fl_X12_97_12 h_53 rfl dX12_isLapsedBy_8 (fun r35 => ?_)
      obtain ⟨q36, hK⟩ := hK
      refine a_icmp_ge C 89 dX12_isLapsedBy_11 (by decide) ⟨q36, r35⟩ (fun q37 => ?_) (fun q37 => ?_)
      · replace hK := hK.1 q37
        refine a_iload_n C dX12_isLapsedBy_89 rfl ?_
        obtain ⟨q38, hK⟩ := hK
        exact a_zret C E dX12_isLapsedBy_90 (Nat.le_refl _) (Nat.le_refl _) q38 (hpost _ _ hK)
      · replace hK := hK.2 q37
        refine a_aload_n C dX12_isLapsedBy_14 rfl ?_
        refine a_getR C fl_X12_38_12 h_53 rfl g_53_16 dX12_isLapsedBy_15 ?_
        refine a_iconst C dX12_isLapsedBy_18 ?_
        refine a_iload C dX12_isLapsedBy_19 rfl ?_
        refine a_imul C dX12_isLapsedBy_21 ?_
        obtain ⟨q39, hK⟩ := hK
        refine a_iald C h_63 dX12_isLapsedBy_22 (by decide) q39 (fun r40 => ?_)
        refine a_istore C dX12_isLapsedBy_23 (Nat.le_of_ble_eq_true rfl) ?_
        refine a_aload_n C dX12_isLapsedBy_25 rfl ?_
        refine a_getR C fl_X12_38_12 h_53 rfl g_53_16 dX12_isLapsedBy_26 ?_
        refine a_iconst C dX12_isLapsedBy_29 ?_
        refine a_iload C dX12_isLapsedBy_30 rfl ?_
        refine a_imul C dX12_isLapsedBy_32 ?_
        refine a_iconst C dX12_isLapsedBy_33 ?_
        refine a_iadd C dX12_isLapsedBy_34 ?_
        obtain ⟨q41, hK⟩ := hK
        refine a_iald C h_63 dX12_isLapsedBy_35 (by decide) q41 (fun r42 => ?_)
        refine a_istore C dX12_isLapsedBy_36 (Nat.le_of_ble_eq_true rfl) ?_
        refine a_iload_n C dX12_isLapsedBy_38 rfl ?_
        obtain ⟨q43, hK⟩ := hK
        refine a_if_eq C 81 dX12_isLapsedBy_39 (by decide) q43 (fun q44 => ?_) (fun q44 => ?_)
        · replace hK := hK.1 q44
          refine a_iconst C dX12_isLapsedBy_81 ?_
          refine a_istore_n C dX12_isLapsedBy_82 (Nat.le_of_ble_eq_true rfl) ?_
          refine a_iinc C dX12_isLapsedBy_83 rfl (Nat.le_of_ble_eq_true rfl) ?_
          refine a_goto C 5 dX12_isLapsedBy_86 (by decide) ?_
          exact a_ls (lsub_s rfl (lsub_s rfl (lsub_s rfl (lsub_s rfl (lsub_s rfl (lsub_n (lsub_n lsub_0))))))) (ih5 a1 a2 0 (a4 + 1) _ hK)
        · replace hK := hK.2 q44
          have J54 : ∀ (a1 : Int) (a2 : Int) (a4 : Int) (a5 : Int) (a6 : Int) (V : zV), m12_isLapsedBy_J54 (m12_isLapsedBy_L5  Q n5) Q a1 a2 a4 a5 a6 V → zW X S V 0 0 [some (zR 53), some (zI a1), some (zI a2), none, some (zI a4), some (zI a5), some (zI a6)] [] 54 := by
            intro a1 a2 a4 a5 a6 V hK
            unfold m12_isLapsedBy_J54 at hK
            have J66 : ∀ (a1 : Int) (a2 : Int) (a4 : Int) (a5 : Int) (a6 : Int) (V : zV), m12_isLapsedBy_J66 (m12_isLapsedBy_L5  Q n5) Q a1 a2 a4 a5 a6 V → zW X S V 0 0 [some (zR 53), some (zI a1), some (zI a2), none, some (zI a4), some (zI a5), some (zI a6)] [] 66 := by
              intro a1 a2 a4 a5 a6 V hK
              unfold m12_isLapsedBy_J66 at hK
              refine a_aload_n C dX12_isLapsedBy_66 rfl ?_
              refine a_iload C dX12_isLapsedBy_67 rfl ?_
              refine a_iload C dX12_isLapsedBy_69 rfl ?_
              refine a_callV (as := [zI a5, zI a6]) (rest := []) C 2 (fun l => c12_feudsOf l) h_53 ⟨_, _, rfl⟩ (by decide) ml_X12_198 im_X12_feudsOf se_X12_feudsOf in_X12 co_X12_feudsOf (by decide +kernel) rfl ⟨Nat.le_of_ble_eq_true rfl, Nat.le_of_ble_eq_true rfl⟩ (Nat.le_of_ble_eq_true rfl) dX12_isLapsedBy_71 ⟨Nat.le_of_ble_eq_true rfl, Nat.le_of_ble_eq_true rfl⟩ ?_
              refine ⟨a5, a6, _, rfl, hM, hK, fun r71 V71 hK => ?_⟩
              try dsimp only [Option.toList, List.cons_append, List.nil_append]
              obtain ⟨q57, hK⟩ := hK
              refine a_if_le C 81 dX12_isLapsedBy_74 (by decide) q57 (fun q58 => ?_) (fun q58 => ?_)
              · replace hK := hK.1 q58
                refine a_iconst C dX12_isLapsedBy_81 ?_
                refine a_istore_n C dX12_isLapsedBy_82 (Nat.le_of_ble_eq_true rfl) ?_
                refine a_iinc C dX12_isLapsedBy_83 rfl (Nat.le_of_ble_eq_true rfl) ?_
                refine a_goto C 5 dX12_isLapsedBy_86 (by decide) ?_
                exact a_ls (lsub_s rfl (lsub_s rfl (lsub_s rfl (lsub_s rfl (lsub_s rfl (lsub_n (lsub_n lsub_0))))))) (ih5 a1 a2 0 (a4 + 1) _ hK)
              · replace hK := hK.2 q58
                refine a_iconst C dX12_isLapsedBy_77 ?_
                refine a_goto C 82 dX12_isLapsedBy_78 (by decide) ?_
                refine a_istore_n C dX12_isLapsedBy_82 (Nat.le_of_ble_eq_true rfl) ?_
                refine a_iinc C dX12_isLapsedBy_83 rfl (Nat.le_of_ble_eq_true rfl) ?_
                refine a_goto C 5 dX12_isLapsedBy_86 (by decide) ?_
                exact a_ls (lsub_s rfl (lsub_s rfl (lsub_s rfl (lsub_s rfl (lsub_s rfl (lsub_n (lsub_n lsub_0))))))) (ih5 a1 a2 1 (a4 + 1) _ hK)
            refine a_iload C dX12_isLapsedBy_54 rfl ?_
            refine a_iload_n C dX12_isLapsedBy_56 rfl ?_
            obtain ⟨q59, hK⟩ := hK
            obtain ⟨q60, hK⟩ := hK
            refine a_icmp_ne C 66 dX12_isLapsedBy_57 (by decide) ⟨q59, q60⟩ (fun q61 => ?_) (fun q61 => ?_)
            · replace hK := hK.1 q61
              exact a_ls (lsub_s rfl (lsub_s rfl (lsub_s rfl (lsub_n (lsub_s rfl (lsub_s rfl (lsub_s rfl lsub_0))))))) (J66 a1 a2 a4 a5 a6 _ hK)
            · replace hK := hK.2 q61
              refine a_iload C dX12_isLapsedBy_60 rfl ?_
              refine a_iload_n C dX12_isLapsedBy_62 rfl ?_
              obtain ⟨q62, hK⟩ := hK
              obtain ⟨q63, hK⟩ := hK
              refine a_icmp_eq C 77 dX12_isLapsedBy_63 (by decide) ⟨q62, q63⟩ (fun q64 => ?_) (fun q64 => ?_)
              · replace hK := hK.1 q64
                refine a_iconst C dX12_isLapsedBy_77 ?_
                refine a_goto C 82 dX12_isLapsedBy_78 (by decide) ?_
                refine a_istore_n C dX12_isLapsedBy_82 (Nat.le_of_ble_eq_true rfl) ?_
                refine a_iinc C dX12_isLapsedBy_83 rfl (Nat.le_of_ble_eq_true rfl) ?_
                refine a_goto C 5 dX12_isLapsedBy_86 (by decide) ?_
                exact a_ls (lsub_s rfl (lsub_s rfl (lsub_s rfl (lsub_s rfl (lsub_s rfl (lsub_n (lsub_n lsub_0))))))) (ih5 a1 a2 1 (a4 + 1) _ hK)
              · replace hK := hK.2 q64
                exact a_ls (lsub_s rfl (lsub_s rfl (lsub_s rfl (lsub_n (lsub_s rfl (lsub_s rfl (lsub_s rfl lsub_0))))))) (J66 a1 a2 a4 a5 a6 _ hK)
          refine a_iload C dX12_isLapsedBy_42 rfl ?_
          refine a_iload_n C dX12_isLapsedBy_44 rfl ?_
          obtain ⟨q65, hK⟩ := hK
          refine a_icmp_ne C 54 dX12_isLapsedBy_45 (by decide) ⟨r40, q65⟩ (fun q66 => ?_) (fun q66 => ?_)
          · replace hK := hK.1 q66
            exact a_ls (lsub_s rfl (lsub_s rfl (lsub_s rfl (lsub_n (lsub_s rfl (lsub_s rfl (lsub_s rfl lsub_0))))))) (J54 a1 a2 a4 (V 63 ((2 * a4)).toNat) (V 63 (((2 * a4) + 1)).toNat) _ hK)
          · replace hK := hK.2 q66
            refine a_iload C dX12_isLapsedBy_48 rfl ?_
            refine a_iload_n C dX12_isLapsedBy_50 rfl ?_
            obtain ⟨q67, hK⟩ := hK
            refine a_icmp_eq C 77 dX12_isLapsedBy_51 (by decide) ⟨r42, q67⟩ (fun q68 => ?_) (fun q68 => ?_)
            · replace hK := hK.1 q68
              refine a_iconst C dX12_isLapsedBy_77 ?_
              refine a_goto C 82 dX12_isLapsedBy_78 (by decide) ?_
              refine a_istore_n C dX12_isLapsedBy_82 (Nat.le_of_ble_eq_true rfl) ?_
              refine a_iinc C dX12_isLapsedBy_83 rfl (Nat.le_of_ble_eq_true rfl) ?_
              refine a_goto C 5 dX12_isLapsedBy_86 (by decide) ?_
              exact a_ls (lsub_s rfl (lsub_s rfl (lsub_s rfl (lsub_s rfl (lsub_s rfl (lsub_n (lsub_n lsub_0))))))) (ih5 a1 a2 1 (a4 + 1) _ hK)
            · replace hK := hK.2 q68
              exact a_ls (lsub_s rfl (lsub_s rfl (lsub_s rfl (lsub_n (lsub_s rfl (lsub_s rfl (lsub_s rfl lsub_0))))))) (J54 a1 a2 a4 (V 63 ((2 * a4)).toNat) (V 63 (((2 * a4) + 1)).toNat) _ hK)
  refine a_iconst C dX12_isLapsedBy_0 ?_
  refine a_istore_n C dX12_isLapsedBy_1 (Nat.le_of_ble_eq_true rfl) ?_
  refine a_iconst C dX12_isLapsedBy_2 ?_
  refine a_istore C dX12_isLapsedBy_3 (Nat.le_of_ble_eq_true rfl) ?_
  obtain ⟨nn69, hK⟩ := hK
  exact a_ls (lsub_s rfl (lsub_s rfl (lsub_s rfl (lsub_s rfl (lsub_s rfl (lsub_n (lsub_n lsub_0))))))) (L5 nn69 a1 a2 1 0 _ hK)

def m12_lapsedOf_J62 (k7 : Int → Int → Int → Int → zV → Prop) (Q : Int → zV → Prop) (a1 : Int) (a3 : Int) (a4 : Int) (a5 : Int) (s0 : Int) (s1 : Int) (V : zV) : Prop :=
  (inR a5) ∧ ((a5 = 0 → k7 a1 (s1 + s0) a3 (a4 + 1) V) ∧ (¬ a5 = 0 → k7 a1 (s1 + s0) a4 (a4 + 1) V))
def m12_lapsedOf_J49 (k7 : Int → Int → Int → Int → zV → Prop) (Q : Int → zV → Prop) (a1 : Int) (a2 : Int) (a3 : Int) (a4 : Int) (s0 : Int) (V : zV) : Prop :=
  (inR s0) ∧ ((s0 = 0 → m12_lapsedOf_J62 (k7) Q a1 a3 a4 s0 0 a2 V) ∧ (¬ s0 = 0 → m12_lapsedOf_J62 (k7) Q a1 a3 a4 s0 1 a2 V))
def m12_lapsedOf_L7  (Q : Int → zV → Prop) : Nat → Int → Int → Int → Int → zV → Prop
  | 0 => fun _ _ _ _ _ => False
  | n + 1 => fun a1 a2 a3 a4 V => (inR a4) ∧ ((36 ≤ a4 → (inR a1) ∧ ((¬ a1 = 0 → (inR a2) ∧ ((¬ a2 = 1 → Q (-1) V) ∧ (a2 = 1 → Q a3 V))) ∧ (a1 = 0 → Q a2 V))) ∧ (a4 < 36 → (0 ≤ a4 ∧ a4 < 2147483648) ∧ (0 ≤ a4 ∧ a4 < 2147483648) ∧ (inR (a4 / 6)) ∧ (inR (a4 % 6)) ∧ (((a4 % 6) ≤ (a4 / 6) → m12_lapsedOf_J49 (m12_lapsedOf_L7  Q n) Q a1 a2 a3 a4 0 V) ∧ ((a4 / 6) < (a4 % 6) → (0 ≤ a4 ∧ a4 < 2147483648) ∧ (0 ≤ a4 ∧ a4 < 2147483648) ∧ m12_isLapsedBy V (a4 / 6) (a4 % 6) (fun r38 V38 => (inR r38) ∧ ((r38 = 0 → m12_lapsedOf_J49 (m12_lapsedOf_L7  Q n) Q a1 a2 a3 a4 0 V38) ∧ (¬ r38 = 0 → m12_lapsedOf_J49 (m12_lapsedOf_L7  Q n) Q a1 a2 a3 a4 1 V38)))))))
def m12_lapsedOf  (V : zV) (a1 : Int) (Q : Int → zV → Prop) : Prop :=
  ∃ nn55, m12_lapsedOf_L7  Q nn55 a1 0 (-1) 0 V
def t12_lapsedOf : zT := fun as S V post => ∃ (a1 : Int) (Q : Int → zV → Prop), as = [zR 53, zI a1] ∧ PSm S ∧ m12_lapsedOf V a1 Q ∧ (∀ r V2, Q r V2 → post (some (zI r)) S V2)
set_option maxHeartbeats 4000000 in
set_option maxRecDepth 20000 in
theorem c12_lapsedOf (l : Launch) : zCT l yX12_lapsedOf cX12_lapsedOf 6 (some .int) { frames := 5, cells := 0, slots := 0, locals := 117 } t12_lapsedOf := by
  refine zCT_of (by decide) (fun as S V post h => by obtain ⟨a1, Q, rfl, -⟩ := h; exact Nat.le_of_ble_eq_true rfl) ?_
  intro X S V as post C E hT
  obtain ⟨a1, Q, rfl, hM, hK, hpost⟩ := hT
  obtain ⟨w_53, r_53, h_53, g_53_0, g_53_2, g_53_7, g_53_8, g_53_10, g_53_11, g_53_12, g_53_13, g_53_14, g_53_16, g_53_21, g_53_22, g_53_23, g_53_24⟩ := PSm_53 hM
  show zW X S V 0 0 [some (zR 53), some (zI a1), none, none, none, none] [] 0
  unfold m12_lapsedOf at hK
  have L7 : ∀ (n : Nat) (a1 : Int) (a2 : Int) (a3 : Int) (a4 : Int) (V : zV), m12_lapsedOf_L7  Q n a1 a2 a3 a4 V → zW X S V 0 0 [some (zR 53), some (zI a1), some (zI a2), some (zI a3), some (zI a4), none] [] 7 := by
    intro n7
    induction n7 with
    | zero => intro _ _ _ _ _ hK; exact hK.elim
    | succ n7 ih7 =>
      intro a1 a2 a3 a4 V hK
      unfold m12_lapsedOf_L7 at hK
      refine a_iload C dX12_lapsedOf_7 rfl ?_
      refine a_bipush C dX12_lapsedOf_9 (by decide) ?_
      obtain ⟨q28, hK⟩ := hK
      refine a_icmp_ge C 82 dX12_lapsedOf_11 (by decide) ⟨q28, ⟨by decide, by decide⟩⟩ (fun q29 => ?_) (fun q29 => ?_)
      · replace hK := hK.1 q29
        refine a_iload_n C dX12_lapsedOf_82 rfl ?_
        obtain ⟨q30, hK⟩ := hK
        refine a_if_ne C 90 dX12_lapsedOf_83 (by decide) q30 (fun q31 => ?_) (fun q31 => ?_)
        · replace hK := hK.1 q31
          refine a_iload_n C dX12_lapsedOf_90 rfl ?_
          refine a_iconst C dX12_lapsedOf_91 ?_
          obtain ⟨q32, hK⟩ := hK
          refine a_icmp_ne C 99 dX12_lapsedOf_92 (by decide) ⟨q32, ⟨by decide, by decide⟩⟩ (fun q33 => ?_) (fun q33 => ?_)
          · replace hK := hK.1 q33
            refine a_iconst C dX12_lapsedOf_99 ?_
            exact a_iret C E dX12_lapsedOf_100 (Nat.le_refl _) (Nat.le_refl _) (hpost _ _ hK)
          · replace hK := hK.2 q33
            refine a_iload_n C dX12_lapsedOf_95 rfl ?_
            refine a_goto C 100 dX12_lapsedOf_96 (by decide) ?_
            exact a_iret C E dX12_lapsedOf_100 (Nat.le_refl _) (Nat.le_refl _) (hpost _ _ hK)
        · replace hK := hK.2 q31
          refine a_iload_n C dX12_lapsedOf_86 rfl ?_
          refine a_goto C 100 dX12_lapsedOf_87 (by decide) ?_
          exact a_iret C E dX12_lapsedOf_100 (Nat.le_refl _) (Nat.le_refl _) (hpost _ _ hK)
      · replace hK := hK.2 q29
        have J49 : ∀ (a1 : Int) (a2 : Int) (a3 : Int) (a4 : Int) (s0 : Int) (V : zV), m12_lapsedOf_J49 (m12_lapsedOf_L7  Q n7) Q a1 a2 a3 a4 s0 V → zW X S V 0 0 [some (zR 53), some (zI a1), some (zI a2), some (zI a3), some (zI a4), none] [zI s0] 49 := by
          intro a1 a2 a3 a4 s0 V hK
          unfold m12_lapsedOf_J49 at hK
          have J62 : ∀ (a1 : Int) (a3 : Int) (a4 : Int) (a5 : Int) (s0 : Int) (s1 : Int) (V : zV), m12_lapsedOf_J62 (m12_lapsedOf_L7  Q n7) Q a1 a3 a4 a5 s0 s1 V → zW X S V 0 0 [some (zR 53), some (zI a1), none, some (zI a3), some (zI a4), some (zI a5)] [zI s0, zI s1] 62 := by
            intro a1 a3 a4 a5 s0 s1 V hK
            unfold m12_lapsedOf_J62 at hK
            refine a_iadd C dX12_lapsedOf_62 ?_
            refine a_istore_n C dX12_lapsedOf_63 (Nat.le_of_ble_eq_true rfl) ?_
            refine a_iload C dX12_lapsedOf_64 rfl ?_
            obtain ⟨q42, hK⟩ := hK
            refine a_if_eq C 74 dX12_lapsedOf_66 (by decide) q42 (fun q43 => ?_) (fun q43 => ?_)
            · replace hK := hK.1 q43
              refine a_iload_n C dX12_lapsedOf_74 rfl ?_
              refine a_istore_n C dX12_lapsedOf_75 (Nat.le_of_ble_eq_true rfl) ?_
              refine a_iinc C dX12_lapsedOf_76 rfl (Nat.le_of_ble_eq_true rfl) ?_
              refine a_goto C 7 dX12_lapsedOf_79 (by decide) ?_
              exact a_ls (lsub_s rfl (lsub_s rfl (lsub_s rfl (lsub_s rfl (lsub_s rfl (lsub_n lsub_0)))))) (ih7 a1 (s1 + s0) a3 (a4 + 1) _ hK)
            · replace hK := hK.2 q43
              refine a_iload C dX12_lapsedOf_69 rfl ?_
              refine a_goto C 75 dX12_lapsedOf_71 (by decide) ?_
              refine a_istore_n C dX12_lapsedOf_75 (Nat.le_of_ble_eq_true rfl) ?_
              refine a_iinc C dX12_lapsedOf_76 rfl (Nat.le_of_ble_eq_true rfl) ?_
              refine a_goto C 7 dX12_lapsedOf_79 (by decide) ?_
              exact a_ls (lsub_s rfl (lsub_s rfl (lsub_s rfl (lsub_s rfl (lsub_s rfl (lsub_n lsub_0)))))) (ih7 a1 (s1 + s0) a4 (a4 + 1) _ hK)
          refine a_istore C dX12_lapsedOf_49 (Nat.le_of_ble_eq_true rfl) ?_
          refine a_iload_n C dX12_lapsedOf_51 rfl ?_
          refine a_iload C dX12_lapsedOf_52 rfl ?_
          obtain ⟨q44, hK⟩ := hK
          refine a_if_eq C 61 dX12_lapsedOf_54 (by decide) q44 (fun q45 => ?_) (fun q45 => ?_)
          · replace hK := hK.1 q45
            refine a_iconst C dX12_lapsedOf_61 ?_
            exact a_ls (lsub_s rfl (lsub_s rfl (lsub_n (lsub_s rfl (lsub_s rfl (lsub_s rfl lsub_0)))))) (J62 a1 a3 a4 s0 0 a2 _ hK)
          · replace hK := hK.2 q45
            refine a_iconst C dX12_lapsedOf_57 ?_
            refine a_goto C 62 dX12_lapsedOf_58 (by decide) ?_
            exact a_ls (lsub_s rfl (lsub_s rfl (lsub_n (lsub_s rfl (lsub_s rfl (lsub_s rfl lsub_0)))))) (J62 a1 a3 a4 s0 1 a2 _ hK)
        refine a_iload C dX12_lapsedOf_14 rfl ?_
        refine a_bipush C dX12_lapsedOf_16 (by decide) ?_
        obtain ⟨q46, hK⟩ := hK
        refine a_idiv C dX12_lapsedOf_18 ⟨q46, by decide, by decide⟩ ?_
        refine a_iload C dX12_lapsedOf_19 rfl ?_
        refine a_bipush C dX12_lapsedOf_21 (by decide) ?_
        obtain ⟨q47, hK⟩ := hK
        refine a_irem C dX12_lapsedOf_23 ⟨q47, by decide, by decide⟩ ?_
        obtain ⟨q48, hK⟩ := hK
        obtain ⟨q49, hK⟩ := hK
        refine a_icmp_ge C 48 dX12_lapsedOf_24 (by decide) ⟨q48, q49⟩ (fun q50 => ?_) (fun q50 => ?_)
        · replace hK := hK.1 q50
          refine a_iconst C dX12_lapsedOf_48 ?_
          exact a_ls (lsub_s rfl (lsub_s rfl (lsub_s rfl (lsub_s rfl (lsub_s rfl (lsub_n lsub_0)))))) (J49 a1 a2 a3 a4 0 _ hK)
        · replace hK := hK.2 q50
          refine a_aload_n C dX12_lapsedOf_27 rfl ?_
          refine a_iload C dX12_lapsedOf_28 rfl ?_
          refine a_bipush C dX12_lapsedOf_30 (by decide) ?_
          obtain ⟨q51, hK⟩ := hK
          refine a_idiv C dX12_lapsedOf_32 ⟨q51, by decide, by decide⟩ ?_
          refine a_iload C dX12_lapsedOf_33 rfl ?_
          refine a_bipush C dX12_lapsedOf_35 (by decide) ?_
          obtain ⟨q52, hK⟩ := hK
          refine a_irem C dX12_lapsedOf_37 ⟨q52, by decide, by decide⟩ ?_
          refine a_callV (as := [zI (a4 / 6), zI (a4 % 6)]) (rest := []) C 2 (fun l => c12_isLapsedBy l) h_53 ⟨_, _, rfl⟩ (by decide) ml_X12_222 im_X12_isLapsedBy se_X12_isLapsedBy in_X12 co_X12_isLapsedBy (by decide +kernel) rfl ⟨Nat.le_of_ble_eq_true rfl, Nat.le_of_ble_eq_true rfl⟩ (Nat.le_of_ble_eq_true rfl) dX12_lapsedOf_38 ⟨Nat.le_of_ble_eq_true rfl, Nat.le_of_ble_eq_true rfl⟩ ?_
          refine ⟨(a4 / 6), (a4 % 6), _, rfl, hM, hK, fun r38 V38 hK => ?_⟩
          try dsimp only [Option.toList, List.cons_append, List.nil_append]
          obtain ⟨q53, hK⟩ := hK
          refine a_if_eq C 48 dX12_lapsedOf_41 (by decide) q53 (fun q54 => ?_) (fun q54 => ?_)
          · replace hK := hK.1 q54
            refine a_iconst C dX12_lapsedOf_48 ?_
            exact a_ls (lsub_s rfl (lsub_s rfl (lsub_s rfl (lsub_s rfl (lsub_s rfl (lsub_n lsub_0)))))) (J49 a1 a2 a3 a4 0 _ hK)
          · replace hK := hK.2 q54
            refine a_iconst C dX12_lapsedOf_44 ?_
            refine a_goto C 49 dX12_lapsedOf_45 (by decide) ?_
            exact a_ls (lsub_s rfl (lsub_s rfl (lsub_s rfl (lsub_s rfl (lsub_s rfl (lsub_n lsub_0)))))) (J49 a1 a2 a3 a4 1 _ hK)
  refine a_iconst C dX12_lapsedOf_0 ?_
  refine a_istore_n C dX12_lapsedOf_1 (Nat.le_of_ble_eq_true rfl) ?_
  refine a_iconst C dX12_lapsedOf_2 ?_
  refine a_istore_n C dX12_lapsedOf_3 (Nat.le_of_ble_eq_true rfl) ?_
  refine a_iconst C dX12_lapsedOf_4 ?_
  refine a_istore C dX12_lapsedOf_5 (Nat.le_of_ble_eq_true rfl) ?_
  obtain ⟨nn55, hK⟩ := hK
  exact a_ls (lsub_s rfl (lsub_s rfl (lsub_s rfl (lsub_s rfl (lsub_s rfl (lsub_n lsub_0)))))) (L7 nn55 a1 0 (-1) 0 _ hK)

def m12_lapsed  (V : zV) (a1 : Int) (Q : Int → zV → Prop) : Prop :=
  (inR a1) ∧ m12_in V a1 0 1 (fun r4 V4 => (inR r4) ∧ ((¬ r4 = 0 → m12_lacks V4 (fun r14 V14 => (inR r14) ∧ ((r14 = 0 → m12_lapsedOf V14 a1 (fun r27 V27 => Q r27 V27)) ∧ (¬ r14 = 0 → Q (-103) V14)))) ∧ (r4 = 0 → Q (-102) V4)))
def t12_lapsed : zT := fun as S V post => ∃ (a1 : Int) (Q : Int → zV → Prop), as = [zR 53, zI a1] ∧ PSm S ∧ m12_lapsed V a1 Q ∧ (∀ r V2, Q r V2 → post (some (zI r)) S V2)
set_option maxHeartbeats 4000000 in
set_option maxRecDepth 20000 in
theorem c12_lapsed (l : Launch) : zCT l yX12_lapsed cX12_lapsed 2 (some .int) { frames := 6, cells := 0, slots := 0, locals := 142 } t12_lapsed := by
  refine zCT_of (by decide) (fun as S V post h => by obtain ⟨a1, Q, rfl, -⟩ := h; exact Nat.le_of_ble_eq_true rfl) ?_
  intro X S V as post C E hT
  obtain ⟨a1, Q, rfl, hM, hK, hpost⟩ := hT
  obtain ⟨w_53, r_53, h_53, g_53_0, g_53_2, g_53_7, g_53_8, g_53_10, g_53_11, g_53_12, g_53_13, g_53_14, g_53_16, g_53_21, g_53_22, g_53_23, g_53_24⟩ := PSm_53 hM
  show zW X S V 0 0 [some (zR 53), some (zI a1)] [] 0
  unfold m12_lapsed at hK
  refine a_iload_n C dX12_lapsed_0 rfl ?_
  obtain ⟨q1, hK⟩ := hK
  refine a_i2l C dX12_lapsed_1 q1 ?_
  refine a_lconst C 0 dX12_lapsed_2 (by decide) ?_
  refine a_lconst C 1 dX12_lapsed_3 (by decide) ?_
  refine a_callS (as := [zJ a1, zJ 0, zJ 1]) (rest := []) C 3 (fun l => c12_in l) ml_X12_62 sa_X12_in in_X12 co_X12_in (by decide +kernel) rfl ⟨Nat.le_of_ble_eq_true rfl, Nat.le_of_ble_eq_true rfl⟩ (Nat.le_of_ble_eq_true rfl) dX12_lapsed_4 ⟨Nat.le_of_ble_eq_true rfl, Nat.le_of_ble_eq_true rfl⟩ ?_
  refine ⟨a1, 0, 1, _, rfl, hK, fun r4 V4 hK => ?_⟩
  try dsimp only [Option.toList, List.cons_append, List.nil_append]
  obtain ⟨q2, hK⟩ := hK
  refine a_if_ne C 13 dX12_lapsed_7 (by decide) q2 (fun q3 => ?_) (fun q3 => ?_)
  · replace hK := hK.1 q3
    refine a_aload_n C dX12_lapsed_13 rfl ?_
    refine a_callV (as := []) (rest := []) C 0 (fun l => c12_lacks l) h_53 ⟨_, _, rfl⟩ (by decide) ml_X12_139 im_X12_lacks se_X12_lacks in_X12 co_X12_lacks (by decide +kernel) rfl ⟨Nat.le_of_ble_eq_true rfl, Nat.le_of_ble_eq_true rfl⟩ (Nat.le_of_ble_eq_true rfl) dX12_lapsed_14 ⟨Nat.le_of_ble_eq_true rfl, Nat.le_of_ble_eq_true rfl⟩ ?_
    refine ⟨_, rfl, hM, hK, fun r14 V14 hK => ?_⟩
    try dsimp only [Option.toList, List.cons_append, List.nil_append]
    obtain ⟨q4, hK⟩ := hK
    refine a_if_eq C 25 dX12_lapsed_17 (by decide) q4 (fun q5 => ?_) (fun q5 => ?_)
    · replace hK := hK.1 q5
      refine a_aload_n C dX12_lapsed_25 rfl ?_
      refine a_iload_n C dX12_lapsed_26 rfl ?_
      refine a_callV (as := [zI a1]) (rest := []) C 1 (fun l => c12_lapsedOf l) h_53 ⟨_, _, rfl⟩ (by decide) ml_X12_225 im_X12_lapsedOf se_X12_lapsedOf in_X12 co_X12_lapsedOf (by decide +kernel) rfl ⟨Nat.le_of_ble_eq_true rfl, Nat.le_of_ble_eq_true rfl⟩ (Nat.le_of_ble_eq_true rfl) dX12_lapsed_27 ⟨Nat.le_of_ble_eq_true rfl, Nat.le_of_ble_eq_true rfl⟩ ?_
      refine ⟨a1, _, rfl, hM, hK, fun r27 V27 hK => ?_⟩
      try dsimp only [Option.toList, List.cons_append, List.nil_append]
      exact a_iret C E dX12_lapsed_30 (Nat.le_refl _) (Nat.le_refl _) (hpost _ _ hK)
    · replace hK := hK.2 q5
      refine a_bipush C dX12_lapsed_20 (by decide) ?_
      refine a_goto C 30 dX12_lapsed_22 (by decide) ?_
      exact a_iret C E dX12_lapsed_30 (Nat.le_refl _) (Nat.le_refl _) (hpost _ _ hK)
  · replace hK := hK.2 q3
    refine a_bipush C dX12_lapsed_10 (by decide) ?_
    exact a_iret C E dX12_lapsed_12 (Nat.le_refl _) (Nat.le_refl _) (hpost _ _ hK)

def m12_draw  (V : zV) (a1 : Int) (Q : Int → zV → Prop) : Prop :=
  (inR (zandL ((1103515245 * (V 53 17)) + 12345) 2147483647)) ∧ (0 ≤ ((vset V 53 17 (zandL ((1103515245 * (V 53 17)) + 12345) 2147483647)) 53 17) ∧ ((vset V 53 17 (zandL ((1103515245 * (V 53 17)) + 12345) 2147483647)) 53 17) < 2147483648) ∧ ((0 ≤ (((vset V 53 17 (zandL ((1103515245 * (V 53 17)) + 12345) 2147483647)) 53 17) / 65536) ∧ (((vset V 53 17 (zandL ((1103515245 * (V 53 17)) + 12345) 2147483647)) 53 17) / 65536) < 2147483648) ∧ 0 < a1 ∧ a1 < 2147483648) ∧ Q ((((vset V 53 17 (zandL ((1103515245 * (V 53 17)) + 12345) 2147483647)) 53 17) / 65536) % a1) (vset V 53 17 (zandL ((1103515245 * (V 53 17)) + 12345) 2147483647))
def t12_draw : zT := fun as S V post => ∃ (a1 : Int) (Q : Int → zV → Prop), as = [zR 53, zI a1] ∧ PSm S ∧ m12_draw V a1 Q ∧ (∀ r V2, Q r V2 → post (some (zI r)) S V2)
set_option maxHeartbeats 4000000 in
set_option maxRecDepth 20000 in
theorem c12_draw (l : Launch) : zCT l yX12_draw cX12_draw 2 (some .int) { frames := 0, cells := 0, slots := 0, locals := 0 } t12_draw := by
  refine zCT_of (by decide) (fun as S V post h => by obtain ⟨a1, Q, rfl, -⟩ := h; exact Nat.le_of_ble_eq_true rfl) ?_
  intro X S V as post C E hT
  obtain ⟨a1, Q, rfl, hM, hK, hpost⟩ := hT
  obtain ⟨w_53, r_53, h_53, g_53_0, g_53_2, g_53_7, g_53_8, g_53_10, g_53_11, g_53_12, g_53_13, g_53_14, g_53_16, g_53_21, g_53_22, g_53_23, g_53_24⟩ := PSm_53 hM
  show zW X S V 0 0 [some (zR 53), some (zI a1)] [] 0
  unfold m12_draw at hK
  refine a_aload_n C dX12_draw_0 rfl ?_
  refine a_ldc2 C kl_X12_228 dX12_draw_1 ?_
  refine a_aload_n C dX12_draw_4 rfl ?_
  refine a_getI C fl_X12_230_12 h_53 rfl dX12_draw_5 (fun r1 => ?_)
  refine a_i2l C dX12_draw_8 r1 ?_
  refine a_lmul C dX12_draw_9 ?_
  refine a_ldc2 C kl_X12_233 dX12_draw_10 ?_
  refine a_ladd C dX12_draw_13 ?_
  refine a_ldc2 C kl_X12_235 dX12_draw_14 ?_
  refine a_land C dX12_draw_17 ?_
  refine a_l2i C dX12_draw_18 ?_
  obtain ⟨q2, hK⟩ := hK
  refine a_putI C fl_X12_230_12 (Or.inl rfl) h_53 rfl dX12_draw_19 ⟨q2, fun q => by cases q⟩ ?_
  refine a_aload_n C dX12_draw_22 rfl ?_
  refine a_getI C fl_X12_230_12 h_53 rfl dX12_draw_23 (fun r3 => ?_)
  refine a_ldc C ki_X12_237 dX12_draw_26 ?_
  obtain ⟨q4, hK⟩ := hK
  refine a_idiv C dX12_draw_28 ⟨q4, by decide, by decide⟩ ?_
  refine a_iload_n C dX12_draw_29 rfl ?_
  obtain ⟨q5, hK⟩ := hK
  refine a_irem C dX12_draw_30 q5 ?_
  exact a_iret C E dX12_draw_31 (Nat.le_refl _) (Nat.le_refl _) (hpost _ _ hK)

def m12_aliveMany_L4  (Q : Int → zV → Prop) : Nat → Int → Int → zV → Prop
  | 0 => fun _ _ _ => False
  | n + 1 => fun a1 a2 V => (inR a2) ∧ ((6 ≤ a2 → Q a1 V) ∧ (a2 < 6 → (0 ≤ ((3 * a2) + 2) ∧ ((3 * a2) + 2) < 18) ∧ m12_aliveMany_L4  Q n (a1 + (V 57 (((3 * a2) + 2)).toNat)) (a2 + 1) V))
def m12_aliveMany  (V : zV)  (Q : Int → zV → Prop) : Prop :=
  ∃ nn9, m12_aliveMany_L4  Q nn9 0 0 V
def t12_aliveMany : zT := fun as S V post => ∃ (Q : Int → zV → Prop), as = [zR 53] ∧ PSm S ∧ m12_aliveMany V Q ∧ (∀ r V2, Q r V2 → post (some (zI r)) S V2)
set_option maxHeartbeats 4000000 in
set_option maxRecDepth 20000 in
theorem c12_aliveMany (l : Launch) : zCT l yX12_aliveMany cX12_aliveMany 3 (some .int) { frames := 0, cells := 0, slots := 0, locals := 0 } t12_aliveMany := by
  refine zCT_of (by decide) (fun as S V post h => by obtain ⟨Q, rfl, -⟩ := h; exact Nat.le_of_ble_eq_true rfl) ?_
  intro X S V as post C E hT
  obtain ⟨Q, rfl, hM, hK, hpost⟩ := hT
  obtain ⟨w_53, r_53, h_53, g_53_0, g_53_2, g_53_7, g_53_8, g_53_10, g_53_11, g_53_12, g_53_13, g_53_14, g_53_16, g_53_21, g_53_22, g_53_23, g_53_24⟩ := PSm_53 hM
  obtain ⟨r_57, h_57⟩ := PSm_57 hM
  show zW X S V 0 0 [some (zR 53), none, none] [] 0
  unfold m12_aliveMany at hK
  have L4 : ∀ (n : Nat) (a1 : Int) (a2 : Int) (V : zV), m12_aliveMany_L4  Q n a1 a2 V → zW X S V 0 0 [some (zR 53), some (zI a1), some (zI a2)] [] 4 := by
    intro n4
    induction n4 with
    | zero => intro _ _ _ hK; exact hK.elim
    | succ n4 ih4 =>
      intro a1 a2 V hK
      unfold m12_aliveMany_L4 at hK
      refine a_iload_n C dX12_aliveMany_4 rfl ?_
      refine a_bipush C dX12_aliveMany_5 (by decide) ?_
      obtain ⟨q5, hK⟩ := hK
      refine a_icmp_ge C 29 dX12_aliveMany_7 (by decide) ⟨q5, ⟨by decide, by decide⟩⟩ (fun q6 => ?_) (fun q6 => ?_)
      · replace hK := hK.1 q6
        refine a_iload_n C dX12_aliveMany_29 rfl ?_
        exact a_iret C E dX12_aliveMany_30 (Nat.le_refl _) (Nat.le_refl _) (hpost _ _ hK)
      · replace hK := hK.2 q6
        refine a_iload_n C dX12_aliveMany_10 rfl ?_
        refine a_aload_n C dX12_aliveMany_11 rfl ?_
        refine a_getR C fl_X12_19_12 h_53 rfl g_53_8 dX12_aliveMany_12 ?_
        refine a_iconst C dX12_aliveMany_15 ?_
        refine a_iload_n C dX12_aliveMany_16 rfl ?_
        refine a_imul C dX12_aliveMany_17 ?_
        refine a_iconst C dX12_aliveMany_18 ?_
        refine a_iadd C dX12_aliveMany_19 ?_
        obtain ⟨q7, hK⟩ := hK
        refine a_iald C h_57 dX12_aliveMany_20 (by decide) q7 (fun r8 => ?_)
        refine a_iadd C dX12_aliveMany_21 ?_
        refine a_istore_n C dX12_aliveMany_22 (Nat.le_of_ble_eq_true rfl) ?_
        refine a_iinc C dX12_aliveMany_23 rfl (Nat.le_of_ble_eq_true rfl) ?_
        refine a_goto C 4 dX12_aliveMany_26 (by decide) ?_
        exact a_ls (lsub_s rfl (lsub_s rfl (lsub_s rfl lsub_0))) (ih4 (a1 + (V 57 (((3 * a2) + 2)).toNat)) (a2 + 1) _ hK)
  refine a_iconst C dX12_aliveMany_0 ?_
  refine a_istore_n C dX12_aliveMany_1 (Nat.le_of_ble_eq_true rfl) ?_
  refine a_iconst C dX12_aliveMany_2 ?_
  refine a_istore_n C dX12_aliveMany_3 (Nat.le_of_ble_eq_true rfl) ?_
  obtain ⟨nn9, hK⟩ := hK
  exact a_ls (lsub_s rfl (lsub_s rfl (lsub_s rfl lsub_0))) (L4 nn9 0 0 _ hK)

def m12_openMany_L4  (Q : Int → zV → Prop) : Nat → Int → Int → zV → Prop
  | 0 => fun _ _ _ => False
  | n + 1 => fun a1 a2 V => (inR a2) ∧ (inR (2 * (V 53 5))) ∧ (((2 * (V 53 5)) ≤ a2 → Q a1 V) ∧ (a2 < (2 * (V 53 5)) → (0 ≤ a2 ∧ a2 < 2147483648) ∧ m12_isStruck V (a2 / 2) (fun r19 V19 => (inR r19) ∧ ((¬ r19 = 0 → m12_openMany_L4  Q n (a1 + 0) (a2 + 1) V19) ∧ (r19 = 0 → (0 ≤ a2 ∧ a2 < 2147483648) ∧ (0 ≤ a2 ∧ a2 < 2147483648) ∧ m12_ownerOf V19 (a2 / 2) (a2 % 2) (fun r32 V32 => (inR r32) ∧ ((¬ r32 = (-1) → m12_openMany_L4  Q n (a1 + 0) (a2 + 1) V32) ∧ (r32 = (-1) → m12_openMany_L4  Q n (a1 + 1) (a2 + 1) V32))))))))
def m12_openMany  (V : zV)  (Q : Int → zV → Prop) : Prop :=
  ∃ nn23, m12_openMany_L4  Q nn23 0 0 V
def t12_openMany : zT := fun as S V post => ∃ (Q : Int → zV → Prop), as = [zR 53] ∧ PSm S ∧ m12_openMany V Q ∧ (∀ r V2, Q r V2 → post (some (zI r)) S V2)
set_option maxHeartbeats 4000000 in
set_option maxRecDepth 20000 in
theorem c12_openMany (l : Launch) : zCT l yX12_openMany cX12_openMany 3 (some .int) { frames := 1, cells := 0, slots := 0, locals := 22 } t12_openMany := by
  refine zCT_of (by decide) (fun as S V post h => by obtain ⟨Q, rfl, -⟩ := h; exact Nat.le_of_ble_eq_true rfl) ?_
  intro X S V as post C E hT
  obtain ⟨Q, rfl, hM, hK, hpost⟩ := hT
  obtain ⟨w_53, r_53, h_53, g_53_0, g_53_2, g_53_7, g_53_8, g_53_10, g_53_11, g_53_12, g_53_13, g_53_14, g_53_16, g_53_21, g_53_22, g_53_23, g_53_24⟩ := PSm_53 hM
  show zW X S V 0 0 [some (zR 53), none, none] [] 0
  unfold m12_openMany at hK
  have L4 : ∀ (n : Nat) (a1 : Int) (a2 : Int) (V : zV), m12_openMany_L4  Q n a1 a2 V → zW X S V 0 0 [some (zR 53), some (zI a1), some (zI a2)] [] 4 := by
    intro n4
    induction n4 with
    | zero => intro _ _ _ hK; exact hK.elim
    | succ n4 ih4 =>
      intro a1 a2 V hK
      unfold m12_openMany_L4 at hK
      refine a_iload_n C dX12_openMany_4 rfl ?_
      refine a_iconst C dX12_openMany_5 ?_
      refine a_aload_n C dX12_openMany_6 rfl ?_
      refine a_getI C fl_X12_91_12 h_53 rfl dX12_openMany_7 (fun r12 => ?_)
      refine a_imul C dX12_openMany_10 ?_
      obtain ⟨q13, hK⟩ := hK
      obtain ⟨q14, hK⟩ := hK
      refine a_icmp_ge C 52 dX12_openMany_11 (by decide) ⟨q13, q14⟩ (fun q15 => ?_) (fun q15 => ?_)
      · replace hK := hK.1 q15
        refine a_iload_n C dX12_openMany_52 rfl ?_
        exact a_iret C E dX12_openMany_53 (Nat.le_refl _) (Nat.le_refl _) (hpost _ _ hK)
      · replace hK := hK.2 q15
        refine a_iload_n C dX12_openMany_14 rfl ?_
        refine a_aload_n C dX12_openMany_15 rfl ?_
        refine a_iload_n C dX12_openMany_16 rfl ?_
        refine a_iconst C dX12_openMany_17 ?_
        obtain ⟨q16, hK⟩ := hK
        refine a_idiv C dX12_openMany_18 ⟨q16, by decide, by decide⟩ ?_
        refine a_callV (as := [zI (a2 / 2)]) (rest := [zI a1]) C 1 (fun l => c12_isStruck l) h_53 ⟨_, _, rfl⟩ (by decide) ml_X12_113 im_X12_isStruck se_X12_isStruck in_X12 co_X12_isStruck (by decide +kernel) rfl ⟨Nat.le_of_ble_eq_true rfl, Nat.le_of_ble_eq_true rfl⟩ (Nat.le_of_ble_eq_true rfl) dX12_openMany_19 ⟨Nat.le_of_ble_eq_true rfl, Nat.le_of_ble_eq_true rfl⟩ ?_
        refine ⟨(a2 / 2), _, rfl, hM, hK, fun r19 V19 hK => ?_⟩
        try dsimp only [Option.toList, List.cons_append, List.nil_append]
        obtain ⟨q17, hK⟩ := hK
        refine a_if_ne C 43 dX12_openMany_22 (by decide) q17 (fun q18 => ?_) (fun q18 => ?_)
        · replace hK := hK.1 q18
          refine a_iconst C dX12_openMany_43 ?_
          refine a_iadd C dX12_openMany_44 ?_
          refine a_istore_n C dX12_openMany_45 (Nat.le_of_ble_eq_true rfl) ?_
          refine a_iinc C dX12_openMany_46 rfl (Nat.le_of_ble_eq_true rfl) ?_
          refine a_goto C 4 dX12_openMany_49 (by decide) ?_
          exact a_ls (lsub_s rfl (lsub_s rfl (lsub_s rfl lsub_0))) (ih4 (a1 + 0) (a2 + 1) _ hK)
        · replace hK := hK.2 q18
          refine a_aload_n C dX12_openMany_25 rfl ?_
          refine a_iload_n C dX12_openMany_26 rfl ?_
          refine a_iconst C dX12_openMany_27 ?_
          obtain ⟨q19, hK⟩ := hK
          refine a_idiv C dX12_openMany_28 ⟨q19, by decide, by decide⟩ ?_
          refine a_iload_n C dX12_openMany_29 rfl ?_
          refine a_iconst C dX12_openMany_30 ?_
          obtain ⟨q20, hK⟩ := hK
          refine a_irem C dX12_openMany_31 ⟨q20, by decide, by decide⟩ ?_
          refine a_callV (as := [zI (a2 / 2), zI (a2 % 2)]) (rest := [zI a1]) C 2 (fun l => c12_ownerOf l) h_53 ⟨_, _, rfl⟩ (by decide) ml_X12_110 im_X12_ownerOf se_X12_ownerOf in_X12 co_X12_ownerOf (by decide +kernel) rfl ⟨Nat.le_of_ble_eq_true rfl, Nat.le_of_ble_eq_true rfl⟩ (Nat.le_of_ble_eq_true rfl) dX12_openMany_32 ⟨Nat.le_of_ble_eq_true rfl, Nat.le_of_ble_eq_true rfl⟩ ?_
          refine ⟨(a2 / 2), (a2 % 2), _, rfl, hM, hK, fun r32 V32 hK => ?_⟩
          try dsimp only [Option.toList, List.cons_append, List.nil_append]
          refine a_iconst C dX12_openMany_35 ?_
          obtain ⟨q21, hK⟩ := hK
          refine a_icmp_ne C 43 dX12_openMany_36 (by decide) ⟨q21, ⟨by decide, by decide⟩⟩ (fun q22 => ?_) (fun q22 => ?_)
          · replace hK := hK.1 q22
            refine a_iconst C dX12_openMany_43 ?_
            refine a_iadd C dX12_openMany_44 ?_
            refine a_istore_n C dX12_openMany_45 (Nat.le_of_ble_eq_true rfl) ?_
            refine a_iinc C dX12_openMany_46 rfl (Nat.le_of_ble_eq_true rfl) ?_
            refine a_goto C 4 dX12_openMany_49 (by decide) ?_
            exact a_ls (lsub_s rfl (lsub_s rfl (lsub_s rfl lsub_0))) (ih4 (a1 + 0) (a2 + 1) _ hK)
          · replace hK := hK.2 q22
            refine a_iconst C dX12_openMany_39 ?_
            refine a_goto C 44 dX12_openMany_40 (by decide) ?_
            refine a_iadd C dX12_openMany_44 ?_
            refine a_istore_n C dX12_openMany_45 (Nat.le_of_ble_eq_true rfl) ?_
            refine a_iinc C dX12_openMany_46 rfl (Nat.le_of_ble_eq_true rfl) ?_
            refine a_goto C 4 dX12_openMany_49 (by decide) ?_
            exact a_ls (lsub_s rfl (lsub_s rfl (lsub_s rfl lsub_0))) (ih4 (a1 + 1) (a2 + 1) _ hK)
  refine a_iconst C dX12_openMany_0 ?_
  refine a_istore_n C dX12_openMany_1 (Nat.le_of_ble_eq_true rfl) ?_
  refine a_iconst C dX12_openMany_2 ?_
  refine a_istore_n C dX12_openMany_3 (Nat.le_of_ble_eq_true rfl) ?_
  obtain ⟨nn23, hK⟩ := hK
  exact a_ls (lsub_s rfl (lsub_s rfl (lsub_s rfl lsub_0))) (L4 nn23 0 0 _ hK)
