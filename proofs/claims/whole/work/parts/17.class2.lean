def m4_die_J107 (S : List zC) (o : Nat) (k23 : Int → Int → Int → Int → zV → Prop) (k38 : Int → Int → Int → Int → Int → zV → Prop) (Q : Int → zV → Prop) (a1 : Int) (a2 : Int) (a3 : Int) (a4 : Int) (a5 : Int) (a6 : Int) (s0 : Int) (s1 : Int) (V : zV) : Prop :=
  (0 ≤ s1 ∧ s1 < 16) ∧ (inR s0) ∧ (inR a6) ∧ ((a6 = 0 → k38 a1 a2 (a3 + 0) a4 (a5 + 1) (vset V (o + 4) (s1).toNat s0)) ∧ (¬ a6 = 0 → k38 a1 a2 (a3 + 1) a4 (a5 + 1) (vset V (o + 4) (s1).toNat s0)))
def m4_die_J84 (S : List zC) (o : Nat) (k23 : Int → Int → Int → Int → zV → Prop) (k38 : Int → Int → Int → Int → Int → zV → Prop) (Q : Int → zV → Prop) (a1 : Int) (a2 : Int) (a3 : Int) (a4 : Int) (a5 : Int) (s0 : Int) (V : zV) : Prop :=
  (inR s0) ∧ ((s0 = 0 → m4_die_J107 S o (k23) (k38) Q a1 a2 a3 a4 a5 s0 (-1) ((2 * a4) + a5) V) ∧ (¬ s0 = 0 → m4_die_J107 S o (k23) (k38) Q a1 a2 a3 a4 a5 s0 a2 ((2 * a4) + a5) V))
def m4_die_L38 (S : List zC) (o : Nat) (k23 : Int → Int → Int → Int → zV → Prop) (Q : Int → zV → Prop) : Nat → Int → Int → Int → Int → Int → zV → Prop
  | 0 => fun _ _ _ _ _ _ => False
  | n + 1 => fun a1 a2 a3 a4 a5 V => (inR a5) ∧ ((2 ≤ a5 → k23 a1 a2 a3 (a4 + 1) V) ∧ (a5 < 2 → (0 ≤ ((2 * a4) + a5) ∧ ((2 * a4) + a5) < 16) ∧ (inR a1) ∧ ((¬ (V (o + 4) (((2 * a4) + a5)).toNat) = a1 → m4_die_L38 S o k23 Q n a1 a2 a3 a4 (a5 + 1) V) ∧ ((V (o + 4) (((2 * a4) + a5)).toNat) = a1 → (inR a2) ∧ ((a2 = (-1) → m4_die_J84 S o (k23) (m4_die_L38 S o k23 Q n) Q a1 a2 a3 a4 a5 0 V) ∧ (¬ a2 = (-1) → m4_hasToDoWithSide S o V a2 a4 (1 - a5) (fun r73 V73 => (inR r73) ∧ ((¬ r73 = 0 → m4_die_J84 S o (k23) (m4_die_L38 S o k23 Q n) Q a1 a2 a3 a4 a5 0 V73) ∧ (r73 = 0 → m4_die_J84 S o (k23) (m4_die_L38 S o k23 Q n) Q a1 a2 a3 a4 a5 1 V73)))))))))
def m4_die_L23 (S : List zC) (o : Nat) (Q : Int → zV → Prop) : Nat → Int → Int → Int → Int → zV → Prop
  | 0 => fun _ _ _ _ _ => False
  | n + 1 => fun a1 a2 a3 a4 V => (inR a4) ∧ (((V 3 2) ≤ a4 → (inR a2) ∧ ((a2 = (-1) → (0 ≤ a1 ∧ a1 < 6) ∧ Q a3 (vset V (o + 1) (a1).toNat 0)) ∧ (¬ a2 = (-1) → (0 ≤ a1 ∧ a1 < 6) ∧ m4_pay S o V a2 (V (o + 1) (a1).toNat) (fun V146 => (0 ≤ a1 ∧ a1 < 6) ∧ Q a3 (vset V146 (o + 1) (a1).toNat 0))))) ∧ (a4 < (V 3 2) → ∃ nn70, m4_die_L38 S o (m4_die_L23 S o Q n) Q nn70 a1 a2 a3 a4 0 V))
def m4_die (S : List zC) (o : Nat) (V : zV) (a1 : Int) (Q : Int → zV → Prop) : Prop :=
  (0 ≤ a1 ∧ a1 < 6) ∧ m4_endLoansOf S o (vset V (o + 3) (a1).toNat 0) a1 (fun V9 => m4_inheritorOf S o V9 a1 (fun r14 V14 => ∃ nn142, m4_die_L23 S o Q nn142 a1 r14 0 0 V14))
def t4_die : zT := fun as S V post => ∃ (o : Nat) (a1 : Int) (Q : Int → zV → Prop), as = [zR o, zI a1] ∧ PSi S o ∧ m4_die S o V a1 Q ∧ (∀ r V2, Q r V2 → post (some (zI r)) S V2)
set_option maxHeartbeats 4000000 in
set_option maxRecDepth 20000 in
theorem c4_die (l : Launch) : zCT l yX4_die cX4_die 7 (some .int) { frames := 2, cells := 0, slots := 0, locals := 43 } t4_die := by
  refine zCT_of (by decide) (fun as S V post h => by obtain ⟨o, a1, Q, rfl, -⟩ := h; exact Nat.le_of_ble_eq_true rfl) ?_
  intro X S V as post C E hT
  obtain ⟨o, a1, Q, rfl, hI, hK, hpost⟩ := hT
  obtain ⟨w_o, r_o, h_o, g_o_0, g_o_1, g_o_2, g_o_3, g_o_4, g_o_5, g_o_6, g_o_7, g_o_8, g_o_10, g_o_11⟩ := PSi_o hI
  obtain ⟨w_3, r_3, h_3, g_3_0, g_3_1⟩ := PSl_3 (PSi_l hI)
  obtain ⟨r_o_1, h_o_1⟩ := PSi_a1 hI
  obtain ⟨r_o_4, h_o_4⟩ := PSi_a4 hI
  obtain ⟨r_o_3, h_o_3⟩ := PSi_a3 hI
  show zW X S V 0 0 [some (zR o), some (zI a1), none, none, none, none, none] [] 0
  unfold m4_die at hK
  have L23 : ∀ (n : Nat) (a1 : Int) (a2 : Int) (a3 : Int) (a4 : Int) (V : zV), m4_die_L23 S o Q n a1 a2 a3 a4 V → zW X S V 0 0 [some (zR o), some (zI a1), some (zI a2), some (zI a3), some (zI a4), none, none] [] 23 := by
    intro n23
    induction n23 with
    | zero => intro _ _ _ _ _ hK; exact hK.elim
    | succ n23 ih23 =>
      intro a1 a2 a3 a4 V hK
      unfold m4_die_L23 at hK
      refine a_iload C dX4_die_23 rfl ?_
      refine a_aload_n C dX4_die_25 rfl ?_
      refine a_getR C fl_X4_50_4 h_o rfl g_o_0 dX4_die_26 ?_
      refine a_getI C fl_X4_57_10 h_3 rfl dX4_die_29 (fun r71 => ?_)
      obtain ⟨q72, hK⟩ := hK
      refine a_icmp_ge C 133 dX4_die_32 (by decide) ⟨q72, r71⟩ (fun q73 => ?_) (fun q73 => ?_)
      · replace hK := hK.1 q73
        refine a_iload_n C dX4_die_133 rfl ?_
        refine a_iconst C dX4_die_134 ?_
        obtain ⟨q74, hK⟩ := hK
        refine a_icmp_eq C 149 dX4_die_135 (by decide) ⟨q74, ⟨by decide, by decide⟩⟩ (fun q75 => ?_) (fun q75 => ?_)
        · replace hK := hK.1 q75
          refine a_aload_n C dX4_die_149 rfl ?_
          refine a_getR C fl_X4_9_4 h_o rfl g_o_1 dX4_die_150 ?_
          refine a_iload_n C dX4_die_153 rfl ?_
          refine a_iconst C dX4_die_154 ?_
          obtain ⟨q76, hK⟩ := hK
          refine a_iast C h_o_1 dX4_die_155 (by decide) ⟨q76, ⟨by decide, by decide⟩⟩ ?_
          refine a_iload_n C dX4_die_156 rfl ?_
          exact a_iret C E dX4_die_157 (Nat.le_refl _) (Nat.le_refl _) (hpost _ _ hK)
        · replace hK := hK.2 q75
          refine a_aload_n C dX4_die_138 rfl ?_
          refine a_iload_n C dX4_die_139 rfl ?_
          refine a_aload_n C dX4_die_140 rfl ?_
          refine a_getR C fl_X4_9_4 h_o rfl g_o_1 dX4_die_141 ?_
          refine a_iload_n C dX4_die_144 rfl ?_
          obtain ⟨q77, hK⟩ := hK
          refine a_iald C h_o_1 dX4_die_145 (by decide) q77 (fun r78 => ?_)
          refine a_callV (as := [zI a2, zI (V (o + 1) (a1).toNat)]) (rest := []) C 2 (fun l => c4_pay l) h_o ⟨_, _, rfl⟩ (by decide) ml_X4_99 im_X4_pay se_X4_pay in_X4 co_X4_pay (by decide +kernel) rfl ⟨Nat.le_of_ble_eq_true rfl, Nat.le_of_ble_eq_true rfl⟩ (Nat.le_of_ble_eq_true rfl) dX4_die_146 ⟨Nat.le_of_ble_eq_true rfl, Nat.le_of_ble_eq_true rfl⟩ ?_
          refine ⟨o, a2, (V (o + 1) (a1).toNat), _, rfl, hI, hK, fun V146 hK => ?_⟩
          try dsimp only [Option.toList, List.cons_append, List.nil_append]
          refine a_aload_n C dX4_die_149 rfl ?_
          refine a_getR C fl_X4_9_4 h_o rfl g_o_1 dX4_die_150 ?_
          refine a_iload_n C dX4_die_153 rfl ?_
          refine a_iconst C dX4_die_154 ?_
          obtain ⟨q79, hK⟩ := hK
          refine a_iast C h_o_1 dX4_die_155 (by decide) ⟨q79, ⟨by decide, by decide⟩⟩ ?_
          refine a_iload_n C dX4_die_156 rfl ?_
          exact a_iret C E dX4_die_157 (Nat.le_refl _) (Nat.le_refl _) (hpost _ _ hK)
      · replace hK := hK.2 q73
        have L38 : ∀ (n : Nat) (a1 : Int) (a2 : Int) (a3 : Int) (a4 : Int) (a5 : Int) (V : zV), m4_die_L38 S o (m4_die_L23 S o Q n23) Q n a1 a2 a3 a4 a5 V → zW X S V 0 0 [some (zR o), some (zI a1), some (zI a2), some (zI a3), some (zI a4), some (zI a5), none] [] 38 := by
          intro n38
          induction n38 with
          | zero => intro _ _ _ _ _ _ hK; exact hK.elim
          | succ n38 ih38 =>
            intro a1 a2 a3 a4 a5 V hK
            unfold m4_die_L38 at hK
            refine a_iload C dX4_die_38 rfl ?_
            refine a_iconst C dX4_die_40 ?_
            obtain ⟨q110, hK⟩ := hK
            refine a_icmp_ge C 127 dX4_die_41 (by decide) ⟨q110, ⟨by decide, by decide⟩⟩ (fun q111 => ?_) (fun q111 => ?_)
            · replace hK := hK.1 q111
              refine a_iinc C dX4_die_127 rfl (Nat.le_of_ble_eq_true rfl) ?_
              refine a_goto C 23 dX4_die_130 (by decide) ?_
              exact a_ls (lsub_s rfl (lsub_s rfl (lsub_s rfl (lsub_s rfl (lsub_s rfl (lsub_n (lsub_n lsub_0))))))) (ih23 a1 a2 a3 (a4 + 1) _ hK)
            · replace hK := hK.2 q111
              refine a_aload_n C dX4_die_44 rfl ?_
              refine a_getR C fl_X4_22_4 h_o rfl g_o_4 dX4_die_45 ?_
              refine a_iconst C dX4_die_48 ?_
              refine a_iload C dX4_die_49 rfl ?_
              refine a_imul C dX4_die_51 ?_
              refine a_iload C dX4_die_52 rfl ?_
              refine a_iadd C dX4_die_54 ?_
              obtain ⟨q112, hK⟩ := hK
              refine a_iald C h_o_4 dX4_die_55 (by decide) q112 (fun r113 => ?_)
              refine a_iload_n C dX4_die_56 rfl ?_
              obtain ⟨q114, hK⟩ := hK
              refine a_icmp_ne C 121 dX4_die_57 (by decide) ⟨r113, q114⟩ (fun q115 => ?_) (fun q115 => ?_)
              · replace hK := hK.1 q115
                refine a_iinc C dX4_die_121 rfl (Nat.le_of_ble_eq_true rfl) ?_
                refine a_goto C 38 dX4_die_124 (by decide) ?_
                exact a_ls (lsub_s rfl (lsub_s rfl (lsub_s rfl (lsub_s rfl (lsub_s rfl (lsub_s rfl (lsub_n lsub_0))))))) (ih38 a1 a2 a3 a4 (a5 + 1) _ hK)
              · replace hK := hK.2 q115
                have J84 : ∀ (a1 : Int) (a2 : Int) (a3 : Int) (a4 : Int) (a5 : Int) (s0 : Int) (V : zV), m4_die_J84 S o (m4_die_L23 S o Q n23) (m4_die_L38 S o (m4_die_L23 S o Q n23) Q n38) Q a1 a2 a3 a4 a5 s0 V → zW X S V 0 0 [some (zR o), some (zI a1), some (zI a2), some (zI a3), some (zI a4), some (zI a5), none] [zI s0] 84 := by
                  intro a1 a2 a3 a4 a5 s0 V hK
                  unfold m4_die_J84 at hK
                  have J107 : ∀ (a1 : Int) (a2 : Int) (a3 : Int) (a4 : Int) (a5 : Int) (a6 : Int) (s0 : Int) (s1 : Int) (V : zV), m4_die_J107 S o (m4_die_L23 S o Q n23) (m4_die_L38 S o (m4_die_L23 S o Q n23) Q n38) Q a1 a2 a3 a4 a5 a6 s0 s1 V → zW X S V 0 0 [some (zR o), some (zI a1), some (zI a2), some (zI a3), some (zI a4), some (zI a5), some (zI a6)] [zI s0, zI s1, zR (o + 4)] 107 := by
                    intro a1 a2 a3 a4 a5 a6 s0 s1 V hK
                    unfold m4_die_J107 at hK
                    obtain ⟨q130, hK⟩ := hK
                    obtain ⟨q131, hK⟩ := hK
                    refine a_iast C h_o_4 dX4_die_107 (by decide) ⟨q130, q131⟩ ?_
                    refine a_iload_n C dX4_die_108 rfl ?_
                    refine a_iload C dX4_die_109 rfl ?_
                    obtain ⟨q132, hK⟩ := hK
                    refine a_if_eq C 118 dX4_die_111 (by decide) q132 (fun q133 => ?_) (fun q133 => ?_)
                    · replace hK := hK.1 q133
                      refine a_iconst C dX4_die_118 ?_
                      refine a_iadd C dX4_die_119 ?_
                      refine a_istore_n C dX4_die_120 (Nat.le_of_ble_eq_true rfl) ?_
                      refine a_iinc C dX4_die_121 rfl (Nat.le_of_ble_eq_true rfl) ?_
                      refine a_goto C 38 dX4_die_124 (by decide) ?_
                      exact a_ls (lsub_s rfl (lsub_s rfl (lsub_s rfl (lsub_s rfl (lsub_s rfl (lsub_s rfl (lsub_n lsub_0))))))) (ih38 a1 a2 (a3 + 0) a4 (a5 + 1) _ hK)
                    · replace hK := hK.2 q133
                      refine a_iconst C dX4_die_114 ?_
                      refine a_goto C 119 dX4_die_115 (by decide) ?_
                      refine a_iadd C dX4_die_119 ?_
                      refine a_istore_n C dX4_die_120 (Nat.le_of_ble_eq_true rfl) ?_
                      refine a_iinc C dX4_die_121 rfl (Nat.le_of_ble_eq_true rfl) ?_
                      refine a_goto C 38 dX4_die_124 (by decide) ?_
                      exact a_ls (lsub_s rfl (lsub_s rfl (lsub_s rfl (lsub_s rfl (lsub_s rfl (lsub_s rfl (lsub_n lsub_0))))))) (ih38 a1 a2 (a3 + 1) a4 (a5 + 1) _ hK)
                  refine a_istore C dX4_die_84 (Nat.le_of_ble_eq_true rfl) ?_
                  refine a_aload_n C dX4_die_86 rfl ?_
                  refine a_getR C fl_X4_22_4 h_o rfl g_o_4 dX4_die_87 ?_
                  refine a_iconst C dX4_die_90 ?_
                  refine a_iload C dX4_die_91 rfl ?_
                  refine a_imul C dX4_die_93 ?_
                  refine a_iload C dX4_die_94 rfl ?_
                  refine a_iadd C dX4_die_96 ?_
                  refine a_iload C dX4_die_97 rfl ?_
                  obtain ⟨q134, hK⟩ := hK
                  refine a_if_eq C 106 dX4_die_99 (by decide) q134 (fun q135 => ?_) (fun q135 => ?_)
                  · replace hK := hK.1 q135
                    refine a_iconst C dX4_die_106 ?_
                    exact a_ls (lsub_s rfl (lsub_s rfl (lsub_s rfl (lsub_s rfl (lsub_s rfl (lsub_s rfl (lsub_s rfl lsub_0))))))) (J107 a1 a2 a3 a4 a5 s0 (-1) ((2 * a4) + a5) _ hK)
                  · replace hK := hK.2 q135
                    refine a_iload_n C dX4_die_102 rfl ?_
                    refine a_goto C 107 dX4_die_103 (by decide) ?_
                    exact a_ls (lsub_s rfl (lsub_s rfl (lsub_s rfl (lsub_s rfl (lsub_s rfl (lsub_s rfl (lsub_s rfl lsub_0))))))) (J107 a1 a2 a3 a4 a5 s0 a2 ((2 * a4) + a5) _ hK)
                refine a_iload_n C dX4_die_60 rfl ?_
                refine a_iconst C dX4_die_61 ?_
                obtain ⟨q136, hK⟩ := hK
                refine a_icmp_eq C 83 dX4_die_62 (by decide) ⟨q136, ⟨by decide, by decide⟩⟩ (fun q137 => ?_) (fun q137 => ?_)
                · replace hK := hK.1 q137
                  refine a_iconst C dX4_die_83 ?_
                  exact a_ls (lsub_s rfl (lsub_s rfl (lsub_s rfl (lsub_s rfl (lsub_s rfl (lsub_s rfl (lsub_n lsub_0))))))) (J84 a1 a2 a3 a4 a5 0 _ hK)
                · replace hK := hK.2 q137
                  refine a_aload_n C dX4_die_65 rfl ?_
                  refine a_iload_n C dX4_die_66 rfl ?_
                  refine a_iload C dX4_die_67 rfl ?_
                  refine a_iconst C dX4_die_69 ?_
                  refine a_iload C dX4_die_70 rfl ?_
                  refine a_isub C dX4_die_72 ?_
                  refine a_callV (as := [zI a2, zI a4, zI (1 - a5)]) (rest := []) C 3 (fun l => c4_hasToDoWithSide l) h_o ⟨_, _, rfl⟩ (by decide) ml_X4_71 im_X4_hasToDoWithSide se_X4_hasToDoWithSide in_X4 co_X4_hasToDoWithSide (by decide +kernel) rfl ⟨Nat.le_of_ble_eq_true rfl, Nat.le_of_ble_eq_true rfl⟩ (Nat.le_of_ble_eq_true rfl) dX4_die_73 ⟨Nat.le_of_ble_eq_true rfl, Nat.le_of_ble_eq_true rfl⟩ ?_
                  refine ⟨o, a2, a4, (1 - a5), _, rfl, hI, hK, fun r73 V73 hK => ?_⟩
                  try dsimp only [Option.toList, List.cons_append, List.nil_append]
                  obtain ⟨q138, hK⟩ := hK
                  refine a_if_ne C 83 dX4_die_76 (by decide) q138 (fun q139 => ?_) (fun q139 => ?_)
                  · replace hK := hK.1 q139
                    refine a_iconst C dX4_die_83 ?_
                    exact a_ls (lsub_s rfl (lsub_s rfl (lsub_s rfl (lsub_s rfl (lsub_s rfl (lsub_s rfl (lsub_n lsub_0))))))) (J84 a1 a2 a3 a4 a5 0 _ hK)
                  · replace hK := hK.2 q139
                    refine a_iconst C dX4_die_79 ?_
                    refine a_goto C 84 dX4_die_80 (by decide) ?_
                    exact a_ls (lsub_s rfl (lsub_s rfl (lsub_s rfl (lsub_s rfl (lsub_s rfl (lsub_s rfl (lsub_n lsub_0))))))) (J84 a1 a2 a3 a4 a5 1 _ hK)
        refine a_iconst C dX4_die_35 ?_
        refine a_istore C dX4_die_36 (Nat.le_of_ble_eq_true rfl) ?_
        obtain ⟨nn140, hK⟩ := hK
        exact a_ls (lsub_s rfl (lsub_s rfl (lsub_s rfl (lsub_s rfl (lsub_s rfl (lsub_s rfl (lsub_n lsub_0))))))) (L38 nn140 a1 a2 a3 a4 0 _ hK)
  refine a_aload_n C dX4_die_0 rfl ?_
  refine a_getR C fl_X4_18_4 h_o rfl g_o_3 dX4_die_1 ?_
  refine a_iload_n C dX4_die_4 rfl ?_
  refine a_iconst C dX4_die_5 ?_
  obtain ⟨q141, hK⟩ := hK
  refine a_zast C h_o_3 dX4_die_6 (by decide) ⟨q141, (by decide)⟩ ?_
  refine a_aload_n C dX4_die_7 rfl ?_
  refine a_iload_n C dX4_die_8 rfl ?_
  refine a_callV (as := [zI a1]) (rest := []) C 1 (fun l => c4_endLoansOf l) h_o ⟨_, _, rfl⟩ (by decide) ml_X4_125 im_X4_endLoansOf se_X4_endLoansOf in_X4 co_X4_endLoansOf (by decide +kernel) rfl ⟨Nat.le_of_ble_eq_true rfl, Nat.le_of_ble_eq_true rfl⟩ (Nat.le_of_ble_eq_true rfl) dX4_die_9 ⟨Nat.le_of_ble_eq_true rfl, Nat.le_of_ble_eq_true rfl⟩ ?_
  refine ⟨o, a1, _, rfl, hI, hK, fun V9 hK => ?_⟩
  try dsimp only [Option.toList, List.cons_append, List.nil_append]
  refine a_aload_n C dX4_die_12 rfl ?_
  refine a_iload_n C dX4_die_13 rfl ?_
  refine a_callV (as := [zI a1]) (rest := []) C 1 (fun l => c4_inheritorOf l) h_o ⟨_, _, rfl⟩ (by decide) ml_X4_129 im_X4_inheritorOf se_X4_inheritorOf in_X4 co_X4_inheritorOf (by decide +kernel) rfl ⟨Nat.le_of_ble_eq_true rfl, Nat.le_of_ble_eq_true rfl⟩ (Nat.le_of_ble_eq_true rfl) dX4_die_14 ⟨Nat.le_of_ble_eq_true rfl, Nat.le_of_ble_eq_true rfl⟩ ?_
  refine ⟨o, a1, _, rfl, hI, hK, fun r14 V14 hK => ?_⟩
  try dsimp only [Option.toList, List.cons_append, List.nil_append]
  refine a_istore_n C dX4_die_17 (Nat.le_of_ble_eq_true rfl) ?_
  refine a_iconst C dX4_die_18 ?_
  refine a_istore_n C dX4_die_19 (Nat.le_of_ble_eq_true rfl) ?_
  refine a_iconst C dX4_die_20 ?_
  refine a_istore C dX4_die_21 (Nat.le_of_ble_eq_true rfl) ?_
  obtain ⟨nn142, hK⟩ := hK
  exact a_ls (lsub_s rfl (lsub_s rfl (lsub_s rfl (lsub_s rfl (lsub_s rfl (lsub_n (lsub_n lsub_0))))))) (L23 nn142 a1 r14 0 0 _ hK)

def m4_areOnBothSides_J28 (S : List zC) (o : Nat) (Q : Int → zV → Prop) (a2 : Int) (a3 : Int) (a4 : Int) (a5 : Int) (V : zV) : Prop :=
  (inR a4) ∧ (inR a3) ∧ ((¬ a4 = a3 → Q 0 V) ∧ (a4 = a3 → (inR a5) ∧ (inR a2) ∧ ((¬ a5 = a2 → Q 0 V) ∧ (a5 = a2 → Q 1 V))))
def m4_areOnBothSides (S : List zC) (o : Nat) (V : zV) (a1 : Int) (a2 : Int) (a3 : Int) (Q : Int → zV → Prop) : Prop :=
  m4_onSide S o V a1 0 (fun r3 V3 => m4_onSide S o V3 a1 1 (fun r11 V11 => (inR r3) ∧ (inR a2) ∧ ((¬ r3 = a2 → m4_areOnBothSides_J28 S o Q a2 a3 r3 r11 V11) ∧ (r3 = a2 → (inR r11) ∧ (inR a3) ∧ ((r11 = a3 → Q 1 V11) ∧ (¬ r11 = a3 → m4_areOnBothSides_J28 S o Q a2 a3 r3 r11 V11))))))
def t4_areOnBothSides : zT := fun as S V post => ∃ (o : Nat) (a1 : Int) (a2 : Int) (a3 : Int) (Q : Int → zV → Prop), as = [zR o, zI a1, zI a2, zI a3] ∧ PSi S o ∧ m4_areOnBothSides S o V a1 a2 a3 Q ∧ (∀ r V2, Q r V2 → post (some (zI r)) S V2)
set_option maxHeartbeats 4000000 in
set_option maxRecDepth 20000 in
theorem c4_areOnBothSides (l : Launch) : zCT l yX4_areOnBothSides cX4_areOnBothSides 6 (some .boolean) { frames := 1, cells := 0, slots := 0, locals := 23 } t4_areOnBothSides := by
  refine zCT_of (by decide) (fun as S V post h => by obtain ⟨o, a1, a2, a3, Q, rfl, -⟩ := h; exact Nat.le_of_ble_eq_true rfl) ?_
  intro X S V as post C E hT
  obtain ⟨o, a1, a2, a3, Q, rfl, hI, hK, hpost⟩ := hT
  obtain ⟨w_o, r_o, h_o, g_o_0, g_o_1, g_o_2, g_o_3, g_o_4, g_o_5, g_o_6, g_o_7, g_o_8, g_o_10, g_o_11⟩ := PSi_o hI
  show zW X S V 0 0 [some (zR o), some (zI a1), some (zI a2), some (zI a3), none, none] [] 0
  unfold m4_areOnBothSides at hK
  have J28 : ∀ (a2 : Int) (a3 : Int) (a4 : Int) (a5 : Int) (V : zV), m4_areOnBothSides_J28 S o Q a2 a3 a4 a5 V → zW X S V 0 0 [none, none, some (zI a2), some (zI a3), some (zI a4), some (zI a5)] [] 28 := by
    intro a2 a3 a4 a5 V hK
    unfold m4_areOnBothSides_J28 at hK
    refine a_iload C dX4_areOnBothSides_28 rfl ?_
    refine a_iload_n C dX4_areOnBothSides_30 rfl ?_
    obtain ⟨q7, hK⟩ := hK
    obtain ⟨q8, hK⟩ := hK
    refine a_icmp_ne C 44 dX4_areOnBothSides_31 (by decide) ⟨q7, q8⟩ (fun q9 => ?_) (fun q9 => ?_)
    · replace hK := hK.1 q9
      refine a_iconst C dX4_areOnBothSides_44 ?_
      exact a_zret C E dX4_areOnBothSides_45 (Nat.le_refl _) (Nat.le_refl _) (by decide) (hpost _ _ hK)
    · replace hK := hK.2 q9
      refine a_iload C dX4_areOnBothSides_34 rfl ?_
      refine a_iload_n C dX4_areOnBothSides_36 rfl ?_
      obtain ⟨q10, hK⟩ := hK
      obtain ⟨q11, hK⟩ := hK
      refine a_icmp_ne C 44 dX4_areOnBothSides_37 (by decide) ⟨q10, q11⟩ (fun q12 => ?_) (fun q12 => ?_)
      · replace hK := hK.1 q12
        refine a_iconst C dX4_areOnBothSides_44 ?_
        exact a_zret C E dX4_areOnBothSides_45 (Nat.le_refl _) (Nat.le_refl _) (by decide) (hpost _ _ hK)
      · replace hK := hK.2 q12
        refine a_iconst C dX4_areOnBothSides_40 ?_
        refine a_goto C 45 dX4_areOnBothSides_41 (by decide) ?_
        exact a_zret C E dX4_areOnBothSides_45 (Nat.le_refl _) (Nat.le_refl _) (by decide) (hpost _ _ hK)
  refine a_aload_n C dX4_areOnBothSides_0 rfl ?_
  refine a_iload_n C dX4_areOnBothSides_1 rfl ?_
  refine a_iconst C dX4_areOnBothSides_2 ?_
  refine a_callV (as := [zI a1, zI 0]) (rest := []) C 2 (fun l => c4_onSide l) h_o ⟨_, _, rfl⟩ (by decide) ml_X4_108 im_X4_onSide se_X4_onSide in_X4 co_X4_onSide (by decide +kernel) rfl ⟨Nat.le_of_ble_eq_true rfl, Nat.le_of_ble_eq_true rfl⟩ (Nat.le_of_ble_eq_true rfl) dX4_areOnBothSides_3 ⟨Nat.le_of_ble_eq_true rfl, Nat.le_of_ble_eq_true rfl⟩ ?_
  refine ⟨o, a1, 0, _, rfl, hI, hK, fun r3 V3 hK => ?_⟩
  try dsimp only [Option.toList, List.cons_append, List.nil_append]
  refine a_istore C dX4_areOnBothSides_6 (Nat.le_of_ble_eq_true rfl) ?_
  refine a_aload_n C dX4_areOnBothSides_8 rfl ?_
  refine a_iload_n C dX4_areOnBothSides_9 rfl ?_
  refine a_iconst C dX4_areOnBothSides_10 ?_
  refine a_callV (as := [zI a1, zI 1]) (rest := []) C 2 (fun l => c4_onSide l) h_o ⟨_, _, rfl⟩ (by decide) ml_X4_108 im_X4_onSide se_X4_onSide in_X4 co_X4_onSide (by decide +kernel) rfl ⟨Nat.le_of_ble_eq_true rfl, Nat.le_of_ble_eq_true rfl⟩ (Nat.le_of_ble_eq_true rfl) dX4_areOnBothSides_11 ⟨Nat.le_of_ble_eq_true rfl, Nat.le_of_ble_eq_true rfl⟩ ?_
  refine ⟨o, a1, 1, _, rfl, hI, hK, fun r11 V11 hK => ?_⟩
  try dsimp only [Option.toList, List.cons_append, List.nil_append]
  refine a_istore C dX4_areOnBothSides_14 (Nat.le_of_ble_eq_true rfl) ?_
  refine a_iload C dX4_areOnBothSides_16 rfl ?_
  refine a_iload_n C dX4_areOnBothSides_18 rfl ?_
  obtain ⟨q13, hK⟩ := hK
  obtain ⟨q14, hK⟩ := hK
  refine a_icmp_ne C 28 dX4_areOnBothSides_19 (by decide) ⟨q13, q14⟩ (fun q15 => ?_) (fun q15 => ?_)
  · replace hK := hK.1 q15
    exact a_ls (lsub_n (lsub_n (lsub_s rfl (lsub_s rfl (lsub_s rfl (lsub_s rfl lsub_0)))))) (J28 a2 a3 r3 r11 _ hK)
  · replace hK := hK.2 q15
    refine a_iload C dX4_areOnBothSides_22 rfl ?_
    refine a_iload_n C dX4_areOnBothSides_24 rfl ?_
    obtain ⟨q16, hK⟩ := hK
    obtain ⟨q17, hK⟩ := hK
    refine a_icmp_eq C 40 dX4_areOnBothSides_25 (by decide) ⟨q16, q17⟩ (fun q18 => ?_) (fun q18 => ?_)
    · replace hK := hK.1 q18
      refine a_iconst C dX4_areOnBothSides_40 ?_
      refine a_goto C 45 dX4_areOnBothSides_41 (by decide) ?_
      exact a_zret C E dX4_areOnBothSides_45 (Nat.le_refl _) (Nat.le_refl _) (by decide) (hpost _ _ hK)
    · replace hK := hK.2 q18
      exact a_ls (lsub_n (lsub_n (lsub_s rfl (lsub_s rfl (lsub_s rfl (lsub_s rfl lsub_0)))))) (J28 a2 a3 r3 r11 _ hK)

def m4_feudBetween_L25 (S : List zC) (o : Nat) (Q : Int → zV → Prop) : Nat → Int → Int → Int → Int → zV → Prop
  | 0 => fun _ _ _ _ _ => False
  | n + 1 => fun a1 a2 a3 a4 V => (inR a4) ∧ (((V 3 2) ≤ a4 → Q a3 V) ∧ (a4 < (V 3 2) → m4_areOnBothSides S o V a4 a1 a2 (fun r42 V42 => (inR r42) ∧ ((r42 = 0 → m4_feudBetween_L25 S o Q n a1 a2 a3 (a4 + 1) V42) ∧ (¬ r42 = 0 → (inR a3) ∧ ((a3 = (-1) → m4_feudBetween_L25 S o Q n a1 a2 a4 (a4 + 1) V42) ∧ (¬ a3 = (-1) → (0 ≤ a4 ∧ a4 < 8) ∧ (0 ≤ a3 ∧ a3 < 8) ∧ (inR (wtS S (a4).toNat)) ∧ (inR (wtS S (a3).toNat)) ∧ (((wtS S (a4).toNat) ≤ (wtS S (a3).toNat) → m4_feudBetween_L25 S o Q n a1 a2 a3 (a4 + 1) V42) ∧ ((wtS S (a3).toNat) < (wtS S (a4).toNat) → m4_feudBetween_L25 S o Q n a1 a2 a4 (a4 + 1) V42)))))))))
def m4_feudBetween (S : List zC) (o : Nat) (V : zV) (a1 : Int) (a2 : Int) (Q : Int → zV → Prop) : Prop :=
  (0 ≤ a1 ∧ a1 < 6) ∧ (((V (o + 3) (a1).toNat) = 0 → Q (-1) V) ∧ (¬ (V (o + 3) (a1).toNat) = 0 → (0 ≤ a2 ∧ a2 < 6) ∧ ((¬ (V (o + 3) (a2).toNat) = 0 → ∃ nn31, m4_feudBetween_L25 S o Q nn31 a1 a2 (-1) 0 V) ∧ ((V (o + 3) (a2).toNat) = 0 → Q (-1) V))))
def t4_feudBetween : zT := fun as S V post => ∃ (o : Nat) (a1 : Int) (a2 : Int) (Q : Int → zV → Prop), as = [zR o, zI a1, zI a2] ∧ PSi S o ∧ m4_feudBetween S o V a1 a2 Q ∧ (∀ r V2, Q r V2 → post (some (zI r)) S V2)
set_option maxHeartbeats 4000000 in
set_option maxRecDepth 20000 in
theorem c4_feudBetween (l : Launch) : zCT l yX4_feudBetween cX4_feudBetween 5 (some .int) { frames := 2, cells := 0, slots := 0, locals := 48 } t4_feudBetween := by
  refine zCT_of (by decide) (fun as S V post h => by obtain ⟨o, a1, a2, Q, rfl, -⟩ := h; exact Nat.le_of_ble_eq_true rfl) ?_
  intro X S V as post C E hT
  obtain ⟨o, a1, a2, Q, rfl, hI, hK, hpost⟩ := hT
  obtain ⟨w_o, r_o, h_o, g_o_0, g_o_1, g_o_2, g_o_3, g_o_4, g_o_5, g_o_6, g_o_7, g_o_8, g_o_10, g_o_11⟩ := PSi_o hI
  obtain ⟨r_o_3, h_o_3⟩ := PSi_a3 hI
  obtain ⟨w_3, r_3, h_3, g_3_0, g_3_1⟩ := PSl_3 (PSi_l hI)
  show zW X S V 0 0 [some (zR o), some (zI a1), some (zI a2), none, none] [] 0
  unfold m4_feudBetween at hK
  refine a_iconst C dX4_feudBetween_0 ?_
  refine a_istore_n C dX4_feudBetween_1 (Nat.le_of_ble_eq_true rfl) ?_
  refine a_aload_n C dX4_feudBetween_2 rfl ?_
  refine a_getR C fl_X4_18_4 h_o rfl g_o_3 dX4_feudBetween_3 ?_
  refine a_iload_n C dX4_feudBetween_6 rfl ?_
  obtain ⟨q1, hK⟩ := hK
  refine a_zald C h_o_3 dX4_feudBetween_7 (by decide) q1 (fun r2 => ?_)
  refine a_if_eq C 20 dX4_feudBetween_8 (by decide) (z_B2R r2) (fun q3 => ?_) (fun q3 => ?_)
  · replace hK := hK.1 q3
    refine a_iconst C dX4_feudBetween_20 ?_
    exact a_iret C E dX4_feudBetween_21 (Nat.le_refl _) (Nat.le_refl _) (hpost _ _ hK)
  · replace hK := hK.2 q3
    refine a_aload_n C dX4_feudBetween_11 rfl ?_
    refine a_getR C fl_X4_18_4 h_o rfl g_o_3 dX4_feudBetween_12 ?_
    refine a_iload_n C dX4_feudBetween_15 rfl ?_
    obtain ⟨q4, hK⟩ := hK
    refine a_zald C h_o_3 dX4_feudBetween_16 (by decide) q4 (fun r5 => ?_)
    refine a_if_ne C 22 dX4_feudBetween_17 (by decide) (z_B2R r5) (fun q6 => ?_) (fun q6 => ?_)
    · replace hK := hK.1 q6
      have L25 : ∀ (n : Nat) (a1 : Int) (a2 : Int) (a3 : Int) (a4 : Int) (V : zV), m4_feudBetween_L25 S o Q n a1 a2 a3 a4 V → zW X S V 0 0 [some (zR o), some (zI a1), some (zI a2), some (zI a3), some (zI a4)] [] 25 := by
        intro n25
        induction n25 with
        | zero => intro _ _ _ _ _ hK; exact hK.elim
        | succ n25 ih25 =>
          intro a1 a2 a3 a4 V hK
          unfold m4_feudBetween_L25 at hK
          refine a_iload C dX4_feudBetween_25 rfl ?_
          refine a_aload_n C dX4_feudBetween_27 rfl ?_
          refine a_getR C fl_X4_50_4 h_o rfl g_o_0 dX4_feudBetween_28 ?_
          refine a_getI C fl_X4_57_10 h_3 rfl dX4_feudBetween_31 (fun r19 => ?_)
          obtain ⟨q20, hK⟩ := hK
          refine a_icmp_ge C 90 dX4_feudBetween_34 (by decide) ⟨q20, r19⟩ (fun q21 => ?_) (fun q21 => ?_)
          · replace hK := hK.1 q21
            refine a_iload_n C dX4_feudBetween_90 rfl ?_
            exact a_iret C E dX4_feudBetween_91 (Nat.le_refl _) (Nat.le_refl _) (hpost _ _ hK)
          · replace hK := hK.2 q21
            refine a_aload_n C dX4_feudBetween_37 rfl ?_
            refine a_iload C dX4_feudBetween_38 rfl ?_
            refine a_iload_n C dX4_feudBetween_40 rfl ?_
            refine a_iload_n C dX4_feudBetween_41 rfl ?_
            refine a_callV (as := [zI a4, zI a1, zI a2]) (rest := []) C 3 (fun l => c4_areOnBothSides l) h_o ⟨_, _, rfl⟩ (by decide) ml_X4_133 im_X4_areOnBothSides se_X4_areOnBothSides in_X4 co_X4_areOnBothSides (by decide +kernel) rfl ⟨Nat.le_of_ble_eq_true rfl, Nat.le_of_ble_eq_true rfl⟩ (Nat.le_of_ble_eq_true rfl) dX4_feudBetween_42 ⟨Nat.le_of_ble_eq_true rfl, Nat.le_of_ble_eq_true rfl⟩ ?_
            refine ⟨o, a4, a1, a2, _, rfl, hI, hK, fun r42 V42 hK => ?_⟩
            try dsimp only [Option.toList, List.cons_append, List.nil_append]
            obtain ⟨q22, hK⟩ := hK
            refine a_if_eq C 84 dX4_feudBetween_45 (by decide) q22 (fun q23 => ?_) (fun q23 => ?_)
            · replace hK := hK.1 q23
              refine a_iinc C dX4_feudBetween_84 rfl (Nat.le_of_ble_eq_true rfl) ?_
              refine a_goto C 25 dX4_feudBetween_87 (by decide) ?_
              exact a_ls (lsub_s rfl (lsub_s rfl (lsub_s rfl (lsub_s rfl (lsub_s rfl lsub_0))))) (ih25 a1 a2 a3 (a4 + 1) _ hK)
            · replace hK := hK.2 q23
              refine a_iload_n C dX4_feudBetween_48 rfl ?_
              refine a_iconst C dX4_feudBetween_49 ?_
              obtain ⟨q24, hK⟩ := hK
              refine a_icmp_eq C 81 dX4_feudBetween_50 (by decide) ⟨q24, ⟨by decide, by decide⟩⟩ (fun q25 => ?_) (fun q25 => ?_)
              · replace hK := hK.1 q25
                refine a_iload C dX4_feudBetween_81 rfl ?_
                refine a_istore_n C dX4_feudBetween_83 (Nat.le_of_ble_eq_true rfl) ?_
                refine a_iinc C dX4_feudBetween_84 rfl (Nat.le_of_ble_eq_true rfl) ?_
                refine a_goto C 25 dX4_feudBetween_87 (by decide) ?_
                exact a_ls (lsub_s rfl (lsub_s rfl (lsub_s rfl (lsub_s rfl (lsub_s rfl lsub_0))))) (ih25 a1 a2 a4 (a4 + 1) _ hK)
              · replace hK := hK.2 q25
                refine a_aload_n C dX4_feudBetween_53 rfl ?_
                refine a_getR C fl_X4_50_4 h_o rfl g_o_0 dX4_feudBetween_54 ?_
                refine a_getR C fl_X4_75_10 h_3 rfl g_3_0 dX4_feudBetween_57 ?_
                refine a_iload C dX4_feudBetween_60 rfl ?_
                obtain ⟨q26, hK⟩ := hK
                refine a_feudW C (PSi_l hI) dX4_feudBetween_62 q26 fl_X4_136_0 fl_X4_136_2 fl_X4_136_3 fl_X4_136_5 fl_X4_136_9 dX4_feudBetween_63 ?_
                refine a_aload_n C dX4_feudBetween_66 rfl ?_
                refine a_getR C fl_X4_50_4 h_o rfl g_o_0 dX4_feudBetween_67 ?_
                refine a_getR C fl_X4_75_10 h_3 rfl g_3_0 dX4_feudBetween_70 ?_
                refine a_iload_n C dX4_feudBetween_73 rfl ?_
                obtain ⟨q27, hK⟩ := hK
                refine a_feudW C (PSi_l hI) dX4_feudBetween_74 q27 fl_X4_136_0 fl_X4_136_2 fl_X4_136_3 fl_X4_136_5 fl_X4_136_9 dX4_feudBetween_75 ?_
                obtain ⟨q28, hK⟩ := hK
                obtain ⟨q29, hK⟩ := hK
                refine a_icmp_le C 84 dX4_feudBetween_78 (by decide) ⟨q28, q29⟩ (fun q30 => ?_) (fun q30 => ?_)
                · replace hK := hK.1 q30
                  refine a_iinc C dX4_feudBetween_84 rfl (Nat.le_of_ble_eq_true rfl) ?_
                  refine a_goto C 25 dX4_feudBetween_87 (by decide) ?_
                  exact a_ls (lsub_s rfl (lsub_s rfl (lsub_s rfl (lsub_s rfl (lsub_s rfl lsub_0))))) (ih25 a1 a2 a3 (a4 + 1) _ hK)
                · replace hK := hK.2 q30
                  refine a_iload C dX4_feudBetween_81 rfl ?_
                  refine a_istore_n C dX4_feudBetween_83 (Nat.le_of_ble_eq_true rfl) ?_
                  refine a_iinc C dX4_feudBetween_84 rfl (Nat.le_of_ble_eq_true rfl) ?_
                  refine a_goto C 25 dX4_feudBetween_87 (by decide) ?_
                  exact a_ls (lsub_s rfl (lsub_s rfl (lsub_s rfl (lsub_s rfl (lsub_s rfl lsub_0))))) (ih25 a1 a2 a4 (a4 + 1) _ hK)
      refine a_iconst C dX4_feudBetween_22 ?_
      refine a_istore C dX4_feudBetween_23 (Nat.le_of_ble_eq_true rfl) ?_
      obtain ⟨nn31, hK⟩ := hK
      exact a_ls (lsub_s rfl (lsub_s rfl (lsub_s rfl (lsub_s rfl (lsub_s rfl lsub_0))))) (L25 nn31 a1 a2 (-1) 0 _ hK)
    · replace hK := hK.2 q6
      refine a_iconst C dX4_feudBetween_20 ?_
      exact a_iret C E dX4_feudBetween_21 (Nat.le_refl _) (Nat.le_refl _) (hpost _ _ hK)

def m4_feudsShared_L5 (S : List zC) (o : Nat) (Q : Int → zV → Prop) : Nat → Int → Int → Int → Int → zV → Prop
  | 0 => fun _ _ _ _ _ => False
  | n + 1 => fun a1 a2 a3 a4 V => (inR a4) ∧ (((V 3 2) ≤ a4 → Q a3 V) ∧ (a4 < (V 3 2) → m4_areOnBothSides S o V a4 a1 a2 (fun r22 V22 => (inR r22) ∧ ((r22 = 0 → m4_feudsShared_L5 S o Q n a1 a2 a3 (a4 + 1) V22) ∧ (¬ r22 = 0 → m4_feudsShared_L5 S o Q n a1 a2 (a3 + 1) (a4 + 1) V22)))))
def m4_feudsShared (S : List zC) (o : Nat) (V : zV) (a1 : Int) (a2 : Int) (Q : Int → zV → Prop) : Prop :=
  ∃ nn11, m4_feudsShared_L5 S o Q nn11 a1 a2 0 0 V
def t4_feudsShared : zT := fun as S V post => ∃ (o : Nat) (a1 : Int) (a2 : Int) (Q : Int → zV → Prop), as = [zR o, zI a1, zI a2] ∧ PSi S o ∧ m4_feudsShared S o V a1 a2 Q ∧ (∀ r V2, Q r V2 → post (some (zI r)) S V2)
set_option maxHeartbeats 4000000 in
set_option maxRecDepth 20000 in
theorem c4_feudsShared (l : Launch) : zCT l yX4_feudsShared cX4_feudsShared 5 (some .int) { frames := 2, cells := 0, slots := 0, locals := 48 } t4_feudsShared := by
  refine zCT_of (by decide) (fun as S V post h => by obtain ⟨o, a1, a2, Q, rfl, -⟩ := h; exact Nat.le_of_ble_eq_true rfl) ?_
  intro X S V as post C E hT
  obtain ⟨o, a1, a2, Q, rfl, hI, hK, hpost⟩ := hT
  obtain ⟨w_o, r_o, h_o, g_o_0, g_o_1, g_o_2, g_o_3, g_o_4, g_o_5, g_o_6, g_o_7, g_o_8, g_o_10, g_o_11⟩ := PSi_o hI
  obtain ⟨w_3, r_3, h_3, g_3_0, g_3_1⟩ := PSl_3 (PSi_l hI)
  show zW X S V 0 0 [some (zR o), some (zI a1), some (zI a2), none, none] [] 0
  unfold m4_feudsShared at hK
  have L5 : ∀ (n : Nat) (a1 : Int) (a2 : Int) (a3 : Int) (a4 : Int) (V : zV), m4_feudsShared_L5 S o Q n a1 a2 a3 a4 V → zW X S V 0 0 [some (zR o), some (zI a1), some (zI a2), some (zI a3), some (zI a4)] [] 5 := by
    intro n5
    induction n5 with
    | zero => intro _ _ _ _ _ hK; exact hK.elim
    | succ n5 ih5 =>
      intro a1 a2 a3 a4 V hK
      unfold m4_feudsShared_L5 at hK
      refine a_iload C dX4_feudsShared_5 rfl ?_
      refine a_aload_n C dX4_feudsShared_7 rfl ?_
      refine a_getR C fl_X4_50_4 h_o rfl g_o_0 dX4_feudsShared_8 ?_
      refine a_getI C fl_X4_57_10 h_3 rfl dX4_feudsShared_11 (fun r6 => ?_)
      obtain ⟨q7, hK⟩ := hK
      refine a_icmp_ge C 37 dX4_feudsShared_14 (by decide) ⟨q7, r6⟩ (fun q8 => ?_) (fun q8 => ?_)
      · replace hK := hK.1 q8
        refine a_iload_n C dX4_feudsShared_37 rfl ?_
        exact a_iret C E dX4_feudsShared_38 (Nat.le_refl _) (Nat.le_refl _) (hpost _ _ hK)
      · replace hK := hK.2 q8
        refine a_aload_n C dX4_feudsShared_17 rfl ?_
        refine a_iload C dX4_feudsShared_18 rfl ?_
        refine a_iload_n C dX4_feudsShared_20 rfl ?_
        refine a_iload_n C dX4_feudsShared_21 rfl ?_
        refine a_callV (as := [zI a4, zI a1, zI a2]) (rest := []) C 3 (fun l => c4_areOnBothSides l) h_o ⟨_, _, rfl⟩ (by decide) ml_X4_133 im_X4_areOnBothSides se_X4_areOnBothSides in_X4 co_X4_areOnBothSides (by decide +kernel) rfl ⟨Nat.le_of_ble_eq_true rfl, Nat.le_of_ble_eq_true rfl⟩ (Nat.le_of_ble_eq_true rfl) dX4_feudsShared_22 ⟨Nat.le_of_ble_eq_true rfl, Nat.le_of_ble_eq_true rfl⟩ ?_
        refine ⟨o, a4, a1, a2, _, rfl, hI, hK, fun r22 V22 hK => ?_⟩
        try dsimp only [Option.toList, List.cons_append, List.nil_append]
        obtain ⟨q9, hK⟩ := hK
        refine a_if_eq C 31 dX4_feudsShared_25 (by decide) q9 (fun q10 => ?_) (fun q10 => ?_)
        · replace hK := hK.1 q10
          refine a_iinc C dX4_feudsShared_31 rfl (Nat.le_of_ble_eq_true rfl) ?_
          refine a_goto C 5 dX4_feudsShared_34 (by decide) ?_
          exact a_ls (lsub_s rfl (lsub_s rfl (lsub_s rfl (lsub_s rfl (lsub_s rfl lsub_0))))) (ih5 a1 a2 a3 (a4 + 1) _ hK)
        · replace hK := hK.2 q10
          refine a_iinc C dX4_feudsShared_28 rfl (Nat.le_of_ble_eq_true rfl) ?_
          refine a_iinc C dX4_feudsShared_31 rfl (Nat.le_of_ble_eq_true rfl) ?_
          refine a_goto C 5 dX4_feudsShared_34 (by decide) ?_
          exact a_ls (lsub_s rfl (lsub_s rfl (lsub_s rfl (lsub_s rfl (lsub_s rfl lsub_0))))) (ih5 a1 a2 (a3 + 1) (a4 + 1) _ hK)
  refine a_iconst C dX4_feudsShared_0 ?_
  refine a_istore_n C dX4_feudsShared_1 (Nat.le_of_ble_eq_true rfl) ?_
  refine a_iconst C dX4_feudsShared_2 ?_
  refine a_istore C dX4_feudsShared_3 (Nat.le_of_ble_eq_true rfl) ?_
  obtain ⟨nn11, hK⟩ := hK
  exact a_ls (lsub_s rfl (lsub_s rfl (lsub_s rfl (lsub_s rfl (lsub_s rfl lsub_0))))) (L5 nn11 a1 a2 0 0 _ hK)

def m4_keepHarm (S : List zC) (o : Nat) (V : zV) (a1 : Int) (a2 : Int) (Q : Int → zV → Prop) : Prop :=
  (((V o 9) < 12 → (0 ≤ (V o 9) ∧ (V o 9) < 12) ∧ (inR a1) ∧ (0 ≤ ((vset V (o + 7) ((V o 9)).toNat a1) o 9) ∧ ((vset V (o + 7) ((V o 9)).toNat a1) o 9) < 12) ∧ (inR a2) ∧ (inR (((vset (vset V (o + 7) ((V o 9)).toNat a1) (o + 8) (((vset V (o + 7) ((V o 9)).toNat a1) o 9)).toNat a2) o 9) + 1)) ∧ Q 1 (vset (vset (vset V (o + 7) ((V o 9)).toNat a1) (o + 8) (((vset V (o + 7) ((V o 9)).toNat a1) o 9)).toNat a2) o 9 (((vset (vset V (o + 7) ((V o 9)).toNat a1) (o + 8) (((vset V (o + 7) ((V o 9)).toNat a1) o 9)).toNat a2) o 9) + 1))) ∧ (12 ≤ (V o 9) → Q 0 V))
def t4_keepHarm : zT := fun as S V post => ∃ (o : Nat) (a1 : Int) (a2 : Int) (Q : Int → zV → Prop), as = [zR o, zI a1, zI a2] ∧ PSi S o ∧ m4_keepHarm S o V a1 a2 Q ∧ (∀ r V2, Q r V2 → post (some (zI r)) S V2)
set_option maxHeartbeats 4000000 in
set_option maxRecDepth 20000 in
theorem c4_keepHarm (l : Launch) : zCT l yX4_keepHarm cX4_keepHarm 3 (some .boolean) { frames := 0, cells := 0, slots := 0, locals := 0 } t4_keepHarm := by
  refine zCT_of (by decide) (fun as S V post h => by obtain ⟨o, a1, a2, Q, rfl, -⟩ := h; exact Nat.le_of_ble_eq_true rfl) ?_
  intro X S V as post C E hT
  obtain ⟨o, a1, a2, Q, rfl, hI, hK, hpost⟩ := hT
  obtain ⟨w_o, r_o, h_o, g_o_0, g_o_1, g_o_2, g_o_3, g_o_4, g_o_5, g_o_6, g_o_7, g_o_8, g_o_10, g_o_11⟩ := PSi_o hI
  obtain ⟨r_o_7, h_o_7⟩ := PSi_a7 hI
  obtain ⟨r_o_8, h_o_8⟩ := PSi_a8 hI
  show zW X S V 0 0 [some (zR o), some (zI a1), some (zI a2)] [] 0
  unfold m4_keepHarm at hK
  refine a_aload_n C dX4_keepHarm_0 rfl ?_
  refine a_getI C fl_X4_37_4 h_o rfl dX4_keepHarm_1 (fun r1 => ?_)
  refine a_bipush C dX4_keepHarm_4 (by decide) ?_
  refine a_icmp_lt C 11 dX4_keepHarm_6 (by decide) ⟨r1, ⟨by decide, by decide⟩⟩ (fun q2 => ?_) (fun q2 => ?_)
  · replace hK := hK.1 q2
    refine a_aload_n C dX4_keepHarm_11 rfl ?_
    refine a_getR C fl_X4_31_4 h_o rfl g_o_7 dX4_keepHarm_12 ?_
    refine a_aload_n C dX4_keepHarm_15 rfl ?_
    refine a_getI C fl_X4_37_4 h_o rfl dX4_keepHarm_16 (fun r3 => ?_)
    refine a_iload_n C dX4_keepHarm_19 rfl ?_
    obtain ⟨q4, hK⟩ := hK
    obtain ⟨q5, hK⟩ := hK
    refine a_iast C h_o_7 dX4_keepHarm_20 (by decide) ⟨q4, q5⟩ ?_
    refine a_aload_n C dX4_keepHarm_21 rfl ?_
    refine a_getR C fl_X4_34_4 h_o rfl g_o_8 dX4_keepHarm_22 ?_
    refine a_aload_n C dX4_keepHarm_25 rfl ?_
    refine a_getI C fl_X4_37_4 h_o rfl dX4_keepHarm_26 (fun r6 => ?_)
    refine a_iload_n C dX4_keepHarm_29 rfl ?_
    obtain ⟨q7, hK⟩ := hK
    obtain ⟨q8, hK⟩ := hK
    refine a_iast C h_o_8 dX4_keepHarm_30 (by decide) ⟨q7, q8⟩ ?_
    refine a_aload_n C dX4_keepHarm_31 rfl ?_
    refine a_dup C dX4_keepHarm_32 rfl ?_
    refine a_getI C fl_X4_37_4 h_o rfl dX4_keepHarm_33 (fun r9 => ?_)
    refine a_iconst C dX4_keepHarm_36 ?_
    refine a_iadd C dX4_keepHarm_37 ?_
    obtain ⟨q10, hK⟩ := hK
    refine a_putI C fl_X4_37_4 (Or.inl rfl) h_o rfl dX4_keepHarm_38 ⟨q10, fun q => by cases q⟩ ?_
    refine a_iconst C dX4_keepHarm_41 ?_
    exact a_zret C E dX4_keepHarm_42 (Nat.le_refl _) (Nat.le_refl _) (by decide) (hpost _ _ hK)
  · replace hK := hK.2 q2
    refine a_iconst C dX4_keepHarm_9 ?_
    exact a_zret C E dX4_keepHarm_10 (Nat.le_refl _) (Nat.le_refl _) (by decide) (hpost _ _ hK)

def m4_keepRegister (S : List zC) (o : Nat) (V : zV) (a1 : Int) (a2 : Int) (Q : Int → zV → Prop) : Prop :=
  (((V o 12) < 8 → (0 ≤ (V o 12) ∧ (V o 12) < 8) ∧ (inR a1) ∧ (0 ≤ ((vset V (o + 9) ((V o 12)).toNat a1) o 12) ∧ ((vset V (o + 9) ((V o 12)).toNat a1) o 12) < 8) ∧ (inR a2) ∧ (inR (((vset (vset V (o + 9) ((V o 12)).toNat a1) (o + 10) (((vset V (o + 9) ((V o 12)).toNat a1) o 12)).toNat a2) o 12) + 1)) ∧ Q 1 (vset (vset (vset V (o + 9) ((V o 12)).toNat a1) (o + 10) (((vset V (o + 9) ((V o 12)).toNat a1) o 12)).toNat a2) o 12 (((vset (vset V (o + 9) ((V o 12)).toNat a1) (o + 10) (((vset V (o + 9) ((V o 12)).toNat a1) o 12)).toNat a2) o 12) + 1))) ∧ (8 ≤ (V o 12) → Q 0 V))
def t4_keepRegister : zT := fun as S V post => ∃ (o : Nat) (a1 : Int) (a2 : Int) (Q : Int → zV → Prop), as = [zR o, zI a1, zI a2] ∧ PSi S o ∧ m4_keepRegister S o V a1 a2 Q ∧ (∀ r V2, Q r V2 → post (some (zI r)) S V2)
set_option maxHeartbeats 4000000 in
set_option maxRecDepth 20000 in
theorem c4_keepRegister (l : Launch) : zCT l yX4_keepRegister cX4_keepRegister 3 (some .boolean) { frames := 0, cells := 0, slots := 0, locals := 0 } t4_keepRegister := by
  refine zCT_of (by decide) (fun as S V post h => by obtain ⟨o, a1, a2, Q, rfl, -⟩ := h; exact Nat.le_of_ble_eq_true rfl) ?_
  intro X S V as post C E hT
  obtain ⟨o, a1, a2, Q, rfl, hI, hK, hpost⟩ := hT
  obtain ⟨w_o, r_o, h_o, g_o_0, g_o_1, g_o_2, g_o_3, g_o_4, g_o_5, g_o_6, g_o_7, g_o_8, g_o_10, g_o_11⟩ := PSi_o hI
  obtain ⟨r_o_9, h_o_9⟩ := PSi_a9 hI
  obtain ⟨r_o_10, h_o_10⟩ := PSi_a10 hI
  show zW X S V 0 0 [some (zR o), some (zI a1), some (zI a2)] [] 0
  unfold m4_keepRegister at hK
  refine a_aload_n C dX4_keepRegister_0 rfl ?_
  refine a_getI C fl_X4_47_4 h_o rfl dX4_keepRegister_1 (fun r1 => ?_)
  refine a_bipush C dX4_keepRegister_4 (by decide) ?_
  refine a_icmp_lt C 11 dX4_keepRegister_6 (by decide) ⟨r1, ⟨by decide, by decide⟩⟩ (fun q2 => ?_) (fun q2 => ?_)
  · replace hK := hK.1 q2
    refine a_aload_n C dX4_keepRegister_11 rfl ?_
    refine a_getR C fl_X4_41_4 h_o rfl g_o_10 dX4_keepRegister_12 ?_
    refine a_aload_n C dX4_keepRegister_15 rfl ?_
    refine a_getI C fl_X4_47_4 h_o rfl dX4_keepRegister_16 (fun r3 => ?_)
    refine a_iload_n C dX4_keepRegister_19 rfl ?_
    obtain ⟨q4, hK⟩ := hK
    obtain ⟨q5, hK⟩ := hK
    refine a_iast C h_o_9 dX4_keepRegister_20 (by decide) ⟨q4, q5⟩ ?_
    refine a_aload_n C dX4_keepRegister_21 rfl ?_
    refine a_getR C fl_X4_44_4 h_o rfl g_o_11 dX4_keepRegister_22 ?_
    refine a_aload_n C dX4_keepRegister_25 rfl ?_
    refine a_getI C fl_X4_47_4 h_o rfl dX4_keepRegister_26 (fun r6 => ?_)
    refine a_iload_n C dX4_keepRegister_29 rfl ?_
    obtain ⟨q7, hK⟩ := hK
    obtain ⟨q8, hK⟩ := hK
    refine a_iast C h_o_10 dX4_keepRegister_30 (by decide) ⟨q7, q8⟩ ?_
    refine a_aload_n C dX4_keepRegister_31 rfl ?_
    refine a_dup C dX4_keepRegister_32 rfl ?_
    refine a_getI C fl_X4_47_4 h_o rfl dX4_keepRegister_33 (fun r9 => ?_)
    refine a_iconst C dX4_keepRegister_36 ?_
    refine a_iadd C dX4_keepRegister_37 ?_
    obtain ⟨q10, hK⟩ := hK
    refine a_putI C fl_X4_47_4 (Or.inl rfl) h_o rfl dX4_keepRegister_38 ⟨q10, fun q => by cases q⟩ ?_
    refine a_iconst C dX4_keepRegister_41 ?_
    exact a_zret C E dX4_keepRegister_42 (Nat.le_refl _) (Nat.le_refl _) (by decide) (hpost _ _ hK)
  · replace hK := hK.2 q2
    refine a_iconst C dX4_keepRegister_9 ?_
    exact a_zret C E dX4_keepRegister_10 (Nat.le_refl _) (Nat.le_refl _) (by decide) (hpost _ _ hK)

def m4_registersFit_J55 (S : List zC) (o : Nat) (k2 : Int → Int → Int → zV → Prop) (Q : Int → zV → Prop) (a1 : Int) (a2 : Int) (a3 : Int) (a4 : Int) (a5 : Int) (s0 : Int) (V : zV) : Prop :=
  (inR s0) ∧ ((¬ s0 = 0 → k2 a1 a2 (a3 + 1) V) ∧ (s0 = 0 → m4_feudsShared S o V a4 a5 (fun r67 V67 => (inR r67) ∧ ((¬ r67 = 0 → k2 a1 a2 (a3 + 1) V67) ∧ (r67 = 0 → Q 0 V67)))))
def m4_registersFit_J38 (S : List zC) (o : Nat) (k2 : Int → Int → Int → zV → Prop) (Q : Int → zV → Prop) (a1 : Int) (a2 : Int) (a3 : Int) (a4 : Int) (a5 : Int) (V : zV) : Prop :=
  (inR a4) ∧ (inR a2) ∧ ((¬ a4 = a2 → m4_registersFit_J55 S o (k2) Q a1 a2 a3 a4 a5 0 V) ∧ (a4 = a2 → (inR a5) ∧ (inR a1) ∧ ((¬ a5 = a1 → m4_registersFit_J55 S o (k2) Q a1 a2 a3 a4 a5 0 V) ∧ (a5 = a1 → m4_registersFit_J55 S o (k2) Q a1 a2 a3 a4 a5 1 V))))
def m4_registersFit_L2 (S : List zC) (o : Nat) (Q : Int → zV → Prop) : Nat → Int → Int → Int → zV → Prop
  | 0 => fun _ _ _ _ => False
  | n + 1 => fun a1 a2 a3 V => (inR a3) ∧ (((V o 12) ≤ a3 → Q 1 V) ∧ (a3 < (V o 12) → (0 ≤ a3 ∧ a3 < 8) ∧ (0 ≤ a3 ∧ a3 < 8) ∧ (inR a1) ∧ ((¬ (V (o + 9) (a3).toNat) = a1 → m4_registersFit_J38 S o (m4_registersFit_L2 S o Q n) Q a1 a2 a3 (V (o + 9) (a3).toNat) (V (o + 10) (a3).toNat) V) ∧ ((V (o + 9) (a3).toNat) = a1 → (inR a2) ∧ (((V (o + 10) (a3).toNat) = a2 → m4_registersFit_J55 S o (m4_registersFit_L2 S o Q n) Q a1 a2 a3 (V (o + 9) (a3).toNat) (V (o + 10) (a3).toNat) 1 V) ∧ (¬ (V (o + 10) (a3).toNat) = a2 → m4_registersFit_J38 S o (m4_registersFit_L2 S o Q n) Q a1 a2 a3 (V (o + 9) (a3).toNat) (V (o + 10) (a3).toNat) V))))))
def m4_registersFit (S : List zC) (o : Nat) (V : zV) (a1 : Int) (a2 : Int) (Q : Int → zV → Prop) : Prop :=
  ∃ nn63, m4_registersFit_L2 S o Q nn63 a1 a2 0 V
def t4_registersFit : zT := fun as S V post => ∃ (o : Nat) (a1 : Int) (a2 : Int) (Q : Int → zV → Prop), as = [zR o, zI a1, zI a2] ∧ PSi S o ∧ m4_registersFit S o V a1 a2 Q ∧ (∀ r V2, Q r V2 → post (some (zI r)) S V2)
set_option maxHeartbeats 4000000 in
set_option maxRecDepth 20000 in
theorem c4_registersFit (l : Launch) : zCT l yX4_registersFit cX4_registersFit 7 (some .boolean) { frames := 3, cells := 0, slots := 0, locals := 72 } t4_registersFit := by
  refine zCT_of (by decide) (fun as S V post h => by obtain ⟨o, a1, a2, Q, rfl, -⟩ := h; exact Nat.le_of_ble_eq_true rfl) ?_
  intro X S V as post C E hT
  obtain ⟨o, a1, a2, Q, rfl, hI, hK, hpost⟩ := hT
  obtain ⟨w_o, r_o, h_o, g_o_0, g_o_1, g_o_2, g_o_3, g_o_4, g_o_5, g_o_6, g_o_7, g_o_8, g_o_10, g_o_11⟩ := PSi_o hI
  obtain ⟨r_o_9, h_o_9⟩ := PSi_a9 hI
  obtain ⟨r_o_10, h_o_10⟩ := PSi_a10 hI
  show zW X S V 0 0 [some (zR o), some (zI a1), some (zI a2), none, none, none, none] [] 0
  unfold m4_registersFit at hK
  have L2 : ∀ (n : Nat) (a1 : Int) (a2 : Int) (a3 : Int) (V : zV), m4_registersFit_L2 S o Q n a1 a2 a3 V → zW X S V 0 0 [some (zR o), some (zI a1), some (zI a2), some (zI a3), none, none, none] [] 2 := by
    intro n2
    induction n2 with
    | zero => intro _ _ _ _ hK; exact hK.elim
    | succ n2 ih2 =>
      intro a1 a2 a3 V hK
      unfold m4_registersFit_L2 at hK
      refine a_iload_n C dX4_registersFit_2 rfl ?_
      refine a_aload_n C dX4_registersFit_3 rfl ?_
      refine a_getI C fl_X4_47_4 h_o rfl dX4_registersFit_4 (fun r32 => ?_)
      obtain ⟨q33, hK⟩ := hK
      refine a_icmp_ge C 81 dX4_registersFit_7 (by decide) ⟨q33, r32⟩ (fun q34 => ?_) (fun q34 => ?_)
      · replace hK := hK.1 q34
        refine a_iconst C dX4_registersFit_81 ?_
        exact a_zret C E dX4_registersFit_82 (Nat.le_refl _) (Nat.le_refl _) (by decide) (hpost _ _ hK)
      · replace hK := hK.2 q34
        have J55 : ∀ (a1 : Int) (a2 : Int) (a3 : Int) (a4 : Int) (a5 : Int) (s0 : Int) (V : zV), m4_registersFit_J55 S o (m4_registersFit_L2 S o Q n2) Q a1 a2 a3 a4 a5 s0 V → zW X S V 0 0 [some (zR o), some (zI a1), some (zI a2), some (zI a3), some (zI a4), some (zI a5), none] [zI s0] 55 := by
          intro a1 a2 a3 a4 a5 s0 V hK
          unfold m4_registersFit_J55 at hK
          refine a_istore C dX4_registersFit_55 (Nat.le_of_ble_eq_true rfl) ?_
          refine a_iload C dX4_registersFit_57 rfl ?_
          obtain ⟨q39, hK⟩ := hK
          refine a_if_ne C 75 dX4_registersFit_59 (by decide) q39 (fun q40 => ?_) (fun q40 => ?_)
          · replace hK := hK.1 q40
            refine a_iinc C dX4_registersFit_75 rfl (Nat.le_of_ble_eq_true rfl) ?_
            refine a_goto C 2 dX4_registersFit_78 (by decide) ?_
            exact a_ls (lsub_s rfl (lsub_s rfl (lsub_s rfl (lsub_s rfl (lsub_n (lsub_n (lsub_n lsub_0))))))) (ih2 a1 a2 (a3 + 1) _ hK)
          · replace hK := hK.2 q40
            refine a_aload_n C dX4_registersFit_62 rfl ?_
            refine a_iload C dX4_registersFit_63 rfl ?_
            refine a_iload C dX4_registersFit_65 rfl ?_
            refine a_callV (as := [zI a4, zI a5]) (rest := []) C 2 (fun l => c4_feudsShared l) h_o ⟨_, _, rfl⟩ (by decide) ml_X4_139 im_X4_feudsShared se_X4_feudsShared in_X4 co_X4_feudsShared (by decide +kernel) rfl ⟨Nat.le_of_ble_eq_true rfl, Nat.le_of_ble_eq_true rfl⟩ (Nat.le_of_ble_eq_true rfl) dX4_registersFit_67 ⟨Nat.le_of_ble_eq_true rfl, Nat.le_of_ble_eq_true rfl⟩ ?_
            refine ⟨o, a4, a5, _, rfl, hI, hK, fun r67 V67 hK => ?_⟩
            try dsimp only [Option.toList, List.cons_append, List.nil_append]
            obtain ⟨q41, hK⟩ := hK
            refine a_if_ne C 75 dX4_registersFit_70 (by decide) q41 (fun q42 => ?_) (fun q42 => ?_)
            · replace hK := hK.1 q42
              refine a_iinc C dX4_registersFit_75 rfl (Nat.le_of_ble_eq_true rfl) ?_
              refine a_goto C 2 dX4_registersFit_78 (by decide) ?_
              exact a_ls (lsub_s rfl (lsub_s rfl (lsub_s rfl (lsub_s rfl (lsub_n (lsub_n (lsub_n lsub_0))))))) (ih2 a1 a2 (a3 + 1) _ hK)
            · replace hK := hK.2 q42
              refine a_iconst C dX4_registersFit_73 ?_
              exact a_zret C E dX4_registersFit_74 (Nat.le_refl _) (Nat.le_refl _) (by decide) (hpost _ _ hK)
        have J38 : ∀ (a1 : Int) (a2 : Int) (a3 : Int) (a4 : Int) (a5 : Int) (V : zV), m4_registersFit_J38 S o (m4_registersFit_L2 S o Q n2) Q a1 a2 a3 a4 a5 V → zW X S V 0 0 [some (zR o), some (zI a1), some (zI a2), some (zI a3), some (zI a4), some (zI a5), none] [] 38 := by
          intro a1 a2 a3 a4 a5 V hK
          unfold m4_registersFit_J38 at hK
          refine a_iload C dX4_registersFit_38 rfl ?_
          refine a_iload_n C dX4_registersFit_40 rfl ?_
          obtain ⟨q49, hK⟩ := hK
          obtain ⟨q50, hK⟩ := hK
          refine a_icmp_ne C 54 dX4_registersFit_41 (by decide) ⟨q49, q50⟩ (fun q51 => ?_) (fun q51 => ?_)
          · replace hK := hK.1 q51
            refine a_iconst C dX4_registersFit_54 ?_
            exact a_ls (lsub_s rfl (lsub_s rfl (lsub_s rfl (lsub_s rfl (lsub_s rfl (lsub_s rfl (lsub_n lsub_0))))))) (J55 a1 a2 a3 a4 a5 0 _ hK)
          · replace hK := hK.2 q51
            refine a_iload C dX4_registersFit_44 rfl ?_
            refine a_iload_n C dX4_registersFit_46 rfl ?_
            obtain ⟨q52, hK⟩ := hK
            obtain ⟨q53, hK⟩ := hK
            refine a_icmp_ne C 54 dX4_registersFit_47 (by decide) ⟨q52, q53⟩ (fun q54 => ?_) (fun q54 => ?_)
            · replace hK := hK.1 q54
              refine a_iconst C dX4_registersFit_54 ?_
              exact a_ls (lsub_s rfl (lsub_s rfl (lsub_s rfl (lsub_s rfl (lsub_s rfl (lsub_s rfl (lsub_n lsub_0))))))) (J55 a1 a2 a3 a4 a5 0 _ hK)
            · replace hK := hK.2 q54
              refine a_iconst C dX4_registersFit_50 ?_
              refine a_goto C 55 dX4_registersFit_51 (by decide) ?_
              exact a_ls (lsub_s rfl (lsub_s rfl (lsub_s rfl (lsub_s rfl (lsub_s rfl (lsub_s rfl (lsub_n lsub_0))))))) (J55 a1 a2 a3 a4 a5 1 _ hK)
        refine a_aload_n C dX4_registersFit_10 rfl ?_
        refine a_getR C fl_X4_41_4 h_o rfl g_o_10 dX4_registersFit_11 ?_
        refine a_iload_n C dX4_registersFit_14 rfl ?_
        obtain ⟨q55, hK⟩ := hK
        refine a_iald C h_o_9 dX4_registersFit_15 (by decide) q55 (fun r56 => ?_)
        refine a_istore C dX4_registersFit_16 (Nat.le_of_ble_eq_true rfl) ?_
        refine a_aload_n C dX4_registersFit_18 rfl ?_
        refine a_getR C fl_X4_44_4 h_o rfl g_o_11 dX4_registersFit_19 ?_
        refine a_iload_n C dX4_registersFit_22 rfl ?_
        obtain ⟨q57, hK⟩ := hK
        refine a_iald C h_o_10 dX4_registersFit_23 (by decide) q57 (fun r58 => ?_)
        refine a_istore C dX4_registersFit_24 (Nat.le_of_ble_eq_true rfl) ?_
        refine a_iload C dX4_registersFit_26 rfl ?_
        refine a_iload_n C dX4_registersFit_28 rfl ?_
        obtain ⟨q59, hK⟩ := hK
        refine a_icmp_ne C 38 dX4_registersFit_29 (by decide) ⟨r56, q59⟩ (fun q60 => ?_) (fun q60 => ?_)
        · replace hK := hK.1 q60
          exact a_ls (lsub_s rfl (lsub_s rfl (lsub_s rfl (lsub_s rfl (lsub_s rfl (lsub_s rfl (lsub_n lsub_0))))))) (J38 a1 a2 a3 (V (o + 9) (a3).toNat) (V (o + 10) (a3).toNat) _ hK)
        · replace hK := hK.2 q60
          refine a_iload C dX4_registersFit_32 rfl ?_
          refine a_iload_n C dX4_registersFit_34 rfl ?_
          obtain ⟨q61, hK⟩ := hK
          refine a_icmp_eq C 50 dX4_registersFit_35 (by decide) ⟨r58, q61⟩ (fun q62 => ?_) (fun q62 => ?_)
          · replace hK := hK.1 q62
            refine a_iconst C dX4_registersFit_50 ?_
            refine a_goto C 55 dX4_registersFit_51 (by decide) ?_
            exact a_ls (lsub_s rfl (lsub_s rfl (lsub_s rfl (lsub_s rfl (lsub_s rfl (lsub_s rfl (lsub_n lsub_0))))))) (J55 a1 a2 a3 (V (o + 9) (a3).toNat) (V (o + 10) (a3).toNat) 1 _ hK)
          · replace hK := hK.2 q62
            exact a_ls (lsub_s rfl (lsub_s rfl (lsub_s rfl (lsub_s rfl (lsub_s rfl (lsub_s rfl (lsub_n lsub_0))))))) (J38 a1 a2 a3 (V (o + 9) (a3).toNat) (V (o + 10) (a3).toNat) _ hK)
  refine a_iconst C dX4_registersFit_0 ?_
  refine a_istore_n C dX4_registersFit_1 (Nat.le_of_ble_eq_true rfl) ?_
  obtain ⟨nn63, hK⟩ := hK
  exact a_ls (lsub_s rfl (lsub_s rfl (lsub_s rfl (lsub_s rfl (lsub_n (lsub_n (lsub_n lsub_0))))))) (L2 nn63 a1 a2 0 _ hK)

def m11_times_L5 (S : List zC) (c0 : Nat) (n0 : Int) (Q : Int → zV → Prop) : Nat → Int → Int → Int → Int → zV → Prop
  | 0 => fun _ _ _ _ _ => False
  | n + 1 => fun a1 a2 a3 a4 V => (inR a4) ∧ (inR a1) ∧ ((a1 ≤ a4 → Q a3 V) ∧ (a4 < a1 → ((n0 ≤ a4 → Q a3 V) ∧ (a4 < n0 → (0 ≤ a4 ∧ a4 < n0) ∧ (inR a2) ∧ ((¬ (V c0 (a4).toNat) = a2 → m11_times_L5 S c0 n0 Q n a1 a2 a3 (a4 + 1) V) ∧ ((V c0 (a4).toNat) = a2 → m11_times_L5 S c0 n0 Q n a1 a2 (a3 + 1) (a4 + 1) V))))))
def m11_times (S : List zC) (c0 : Nat) (n0 : Int) (V : zV) (a1 : Int) (a2 : Int) (Q : Int → zV → Prop) : Prop :=
  ∃ nn17, m11_times_L5 S c0 n0 Q nn17 a1 a2 0 0 V
def t11_times : zT := fun as S V post => ∃ (c0 : Nat) (n0 : Int) (a1 : Int) (a2 : Int) (Q : Int → zV → Prop), as = [zR c0, zI a1, zI a2] ∧ ((∃ rf : Nat → Option Nat, S[c0]? = some (13, n0, rf)) ∧ 0 ≤ n0 ∧ n0 ≤ 2147483647) ∧ m11_times S c0 n0 V a1 a2 Q ∧ (∀ r V2, Q r V2 → post (some (zI r)) S V2)
set_option maxHeartbeats 4000000 in
set_option maxRecDepth 20000 in
theorem c11_times (l : Launch) : zCT l yX11_times cX11_times 5 (some .int) { frames := 0, cells := 0, slots := 0, locals := 0 } t11_times := by
  refine zCT_of (by decide) (fun as S V post h => by obtain ⟨c0, n0, a1, a2, Q, rfl, -⟩ := h; exact Nat.le_of_ble_eq_true rfl) ?_
  intro X S V as post C E hT
  obtain ⟨c0, n0, a1, a2, Q, rfl, hA0, hK, hpost⟩ := hT
  obtain ⟨⟨r_c0, h_c0⟩, h0_c0, h1_c0⟩ := hA0
  show zW X S V 0 0 [some (zR c0), some (zI a1), some (zI a2), none, none] [] 0
  unfold m11_times at hK
  have L5 : ∀ (n : Nat) (a1 : Int) (a2 : Int) (a3 : Int) (a4 : Int) (V : zV), m11_times_L5 S c0 n0 Q n a1 a2 a3 a4 V → zW X S V 0 0 [some (zR c0), some (zI a1), some (zI a2), some (zI a3), some (zI a4)] [] 5 := by
    intro n5
    induction n5 with
    | zero => intro _ _ _ _ _ hK; exact hK.elim
    | succ n5 ih5 =>
      intro a1 a2 a3 a4 V hK
      unfold m11_times_L5 at hK
      refine a_iload C dX11_times_5 rfl ?_
      refine a_iload_n C dX11_times_7 rfl ?_
      obtain ⟨q9, hK⟩ := hK
      obtain ⟨q10, hK⟩ := hK
      refine a_icmp_ge C 35 dX11_times_8 (by decide) ⟨q9, q10⟩ (fun q11 => ?_) (fun q11 => ?_)
      · replace hK := hK.1 q11
        refine a_iload_n C dX11_times_35 rfl ?_
        exact a_iret C E dX11_times_36 (Nat.le_refl _) (Nat.le_refl _) (hpost _ _ hK)
      · replace hK := hK.2 q11
        refine a_iload C dX11_times_11 rfl ?_
        refine a_aload_n C dX11_times_13 rfl ?_
        refine a_alen C 13 (by decide) h_c0 dX11_times_14 h0_c0 ?_
        refine a_icmp_ge C 35 dX11_times_15 (by decide) ⟨q9, ⟨by omega, by omega⟩⟩ (fun q12 => ?_) (fun q12 => ?_)
        · replace hK := hK.1 q12
          refine a_iload_n C dX11_times_35 rfl ?_
          exact a_iret C E dX11_times_36 (Nat.le_refl _) (Nat.le_refl _) (hpost _ _ hK)
        · replace hK := hK.2 q12
          refine a_aload_n C dX11_times_18 rfl ?_
          refine a_iload C dX11_times_19 rfl ?_
          obtain ⟨q13, hK⟩ := hK
          refine a_iald C h_c0 dX11_times_21 h1_c0 q13 (fun r14 => ?_)
          refine a_iload_n C dX11_times_22 rfl ?_
          obtain ⟨q15, hK⟩ := hK
          refine a_icmp_ne C 29 dX11_times_23 (by decide) ⟨r14, q15⟩ (fun q16 => ?_) (fun q16 => ?_)
          · replace hK := hK.1 q16
            refine a_iinc C dX11_times_29 rfl (Nat.le_of_ble_eq_true rfl) ?_
            refine a_goto C 5 dX11_times_32 (by decide) ?_
            exact a_ls (lsub_s rfl (lsub_s rfl (lsub_s rfl (lsub_s rfl (lsub_s rfl lsub_0))))) (ih5 a1 a2 a3 (a4 + 1) _ hK)
          · replace hK := hK.2 q16
            refine a_iinc C dX11_times_26 rfl (Nat.le_of_ble_eq_true rfl) ?_
            refine a_iinc C dX11_times_29 rfl (Nat.le_of_ble_eq_true rfl) ?_
            refine a_goto C 5 dX11_times_32 (by decide) ?_
            exact a_ls (lsub_s rfl (lsub_s rfl (lsub_s rfl (lsub_s rfl (lsub_s rfl lsub_0))))) (ih5 a1 a2 (a3 + 1) (a4 + 1) _ hK)
  refine a_iconst C dX11_times_0 ?_
  refine a_istore_n C dX11_times_1 (Nat.le_of_ble_eq_true rfl) ?_
  refine a_iconst C dX11_times_2 ?_
  refine a_istore C dX11_times_3 (Nat.le_of_ble_eq_true rfl) ?_
  obtain ⟨nn17, hK⟩ := hK
  exact a_ls (lsub_s rfl (lsub_s rfl (lsub_s rfl (lsub_s rfl (lsub_s rfl lsub_0))))) (L5 nn17 a1 a2 0 0 _ hK)

def m4_lentSides (S : List zC) (o : Nat) (V : zV)  (Q : Int → zV → Prop) : Prop :=
  m11_times S (o + 5) 16 V 16 (-1) (fun r9 V9 => Q (16 - r9) V9)
def t4_lentSides : zT := fun as S V post => ∃ (o : Nat) (Q : Int → zV → Prop), as = [zR o] ∧ PSi S o ∧ m4_lentSides S o V Q ∧ (∀ r V2, Q r V2 → post (some (zI r)) S V2)
set_option maxHeartbeats 4000000 in
set_option maxRecDepth 20000 in
theorem c4_lentSides (l : Launch) : zCT l yX4_lentSides cX4_lentSides 1 (some .int) { frames := 1, cells := 0, slots := 0, locals := 24 } t4_lentSides := by
  refine zCT_of (by decide) (fun as S V post h => by obtain ⟨o, Q, rfl, -⟩ := h; exact Nat.le_of_ble_eq_true rfl) ?_
  intro X S V as post C E hT
  obtain ⟨o, Q, rfl, hI, hK, hpost⟩ := hT
  obtain ⟨w_o, r_o, h_o, g_o_0, g_o_1, g_o_2, g_o_3, g_o_4, g_o_5, g_o_6, g_o_7, g_o_8, g_o_10, g_o_11⟩ := PSi_o hI
  obtain ⟨r_o_5, h_o_5⟩ := PSi_a5 hI
  show zW X S V 0 0 [some (zR o)] [] 0
  unfold m4_lentSides at hK
  refine a_bipush C dX4_lentSides_0 (by decide) ?_
  refine a_aload_n C dX4_lentSides_2 rfl ?_
  refine a_getR C fl_X4_25_4 h_o rfl g_o_5 dX4_lentSides_3 ?_
  refine a_bipush C dX4_lentSides_6 (by decide) ?_
  refine a_iconst C dX4_lentSides_8 ?_
  refine a_callSN (as := [zR (o + 5), zI 16, zI (-1)]) (rest := [zI 16]) C 3 (fun l => c11_times l) (host := "ClosedFeuds") (by decide +kernel) sa_X11_times in_X11 co_X11_times (by decide +kernel) rfl ⟨Nat.le_of_ble_eq_true rfl, Nat.le_of_ble_eq_true rfl⟩ (Nat.le_of_ble_eq_true rfl) dX4_lentSides_9 ⟨Nat.le_of_ble_eq_true rfl, Nat.le_of_ble_eq_true rfl⟩ ?_
  refine ⟨(o + 5), 16, 16, (-1), _, rfl, ⟨⟨_, h_o_5⟩, by decide, by decide⟩, hK, fun r9 V9 hK => ?_⟩
  try dsimp only [Option.toList, List.cons_append, List.nil_append]
  refine a_isub C dX4_lentSides_12 ?_
  exact a_iret C E dX4_lentSides_13 (Nat.le_refl _) (Nat.le_refl _) (hpost _ _ hK)

def m4_endSeason_L28 (S : List zC) (o : Nat) (Q : Int → zV → Prop) : Nat → Int → Int → zV → Prop
  | 0 => fun _ _ _ => False
  | n + 1 => fun a1 a2 V => (inR a2) ∧ ((6 ≤ a2 → Q a1 V) ∧ (a2 < 6 → (0 ≤ a2 ∧ a2 < 6) ∧ (((V (o + 3) (a2).toNat) = 0 → m4_endSeason_L28 S o Q n a1 (a2 + 1) V) ∧ (¬ (V (o + 3) (a2).toNat) = 0 → m4_pay S o V a2 2 (fun V46 => m4_endSeason_L28 S o Q n a1 (a2 + 1) V46)))))
def m4_endSeason_L7 (S : List zC) (o : Nat) (Q : Int → zV → Prop) : Nat → Int → Int → zV → Prop
  | 0 => fun _ _ _ => False
  | n + 1 => fun a1 a2 V => (inR a2) ∧ ((16 ≤ a2 → ∃ nn13, m4_endSeason_L28 S o Q nn13 a1 0 V) ∧ (a2 < 16 → (0 ≤ a2 ∧ a2 < 16) ∧ m4_endSeason_L7 S o Q n a1 (a2 + 1) (vset V (o + 5) (a2).toNat (-1))))
def m4_endSeason (S : List zC) (o : Nat) (V : zV)  (Q : Int → zV → Prop) : Prop :=
  m4_lentSides S o V (fun r1 V1 => ∃ nn29, m4_endSeason_L7 S o Q nn29 r1 0 V1)
def t4_endSeason : zT := fun as S V post => ∃ (o : Nat) (Q : Int → zV → Prop), as = [zR o] ∧ PSi S o ∧ m4_endSeason S o V Q ∧ (∀ r V2, Q r V2 → post (some (zI r)) S V2)
set_option maxHeartbeats 4000000 in
set_option maxRecDepth 20000 in
theorem c4_endSeason (l : Launch) : zCT l yX4_endSeason cX4_endSeason 3 (some .int) { frames := 2, cells := 0, slots := 0, locals := 44 } t4_endSeason := by
  refine zCT_of (by decide) (fun as S V post h => by obtain ⟨o, Q, rfl, -⟩ := h; exact Nat.le_of_ble_eq_true rfl) ?_
  intro X S V as post C E hT
  obtain ⟨o, Q, rfl, hI, hK, hpost⟩ := hT
  obtain ⟨w_o, r_o, h_o, g_o_0, g_o_1, g_o_2, g_o_3, g_o_4, g_o_5, g_o_6, g_o_7, g_o_8, g_o_10, g_o_11⟩ := PSi_o hI
  obtain ⟨r_o_3, h_o_3⟩ := PSi_a3 hI
  obtain ⟨r_o_5, h_o_5⟩ := PSi_a5 hI
  show zW X S V 0 0 [some (zR o), none, none] [] 0
  unfold m4_endSeason at hK
  have L7 : ∀ (n : Nat) (a1 : Int) (a2 : Int) (V : zV), m4_endSeason_L7 S o Q n a1 a2 V → zW X S V 0 0 [some (zR o), some (zI a1), some (zI a2)] [] 7 := by
    intro n7
    induction n7 with
    | zero => intro _ _ _ hK; exact hK.elim
    | succ n7 ih7 =>
      intro a1 a2 V hK
      unfold m4_endSeason_L7 at hK
      refine a_iload_n C dX4_endSeason_7 rfl ?_
      refine a_bipush C dX4_endSeason_8 (by decide) ?_
      obtain ⟨q15, hK⟩ := hK
      refine a_icmp_ge C 26 dX4_endSeason_10 (by decide) ⟨q15, ⟨by decide, by decide⟩⟩ (fun q16 => ?_) (fun q16 => ?_)
      · replace hK := hK.1 q16
        have L28 : ∀ (n : Nat) (a1 : Int) (a2 : Int) (V : zV), m4_endSeason_L28 S o Q n a1 a2 V → zW X S V 0 0 [some (zR o), some (zI a1), some (zI a2)] [] 28 := by
          intro n28
          induction n28 with
          | zero => intro _ _ _ hK; exact hK.elim
          | succ n28 ih28 =>
            intro a1 a2 V hK
            unfold m4_endSeason_L28 at hK
            refine a_iload_n C dX4_endSeason_28 rfl ?_
            refine a_bipush C dX4_endSeason_29 (by decide) ?_
            obtain ⟨q22, hK⟩ := hK
            refine a_icmp_ge C 55 dX4_endSeason_31 (by decide) ⟨q22, ⟨by decide, by decide⟩⟩ (fun q23 => ?_) (fun q23 => ?_)
            · replace hK := hK.1 q23
              refine a_iload_n C dX4_endSeason_55 rfl ?_
              exact a_iret C E dX4_endSeason_56 (Nat.le_refl _) (Nat.le_refl _) (hpost _ _ hK)
            · replace hK := hK.2 q23
              refine a_aload_n C dX4_endSeason_34 rfl ?_
              refine a_getR C fl_X4_18_4 h_o rfl g_o_3 dX4_endSeason_35 ?_
              refine a_iload_n C dX4_endSeason_38 rfl ?_
              obtain ⟨q24, hK⟩ := hK
              refine a_zald C h_o_3 dX4_endSeason_39 (by decide) q24 (fun r25 => ?_)
              refine a_if_eq C 49 dX4_endSeason_40 (by decide) (z_B2R r25) (fun q26 => ?_) (fun q26 => ?_)
              · replace hK := hK.1 q26
                refine a_iinc C dX4_endSeason_49 rfl (Nat.le_of_ble_eq_true rfl) ?_
                refine a_goto C 28 dX4_endSeason_52 (by decide) ?_
                exact a_ls (lsub_s rfl (lsub_s rfl (lsub_s rfl lsub_0))) (ih28 a1 (a2 + 1) _ hK)
              · replace hK := hK.2 q26
                refine a_aload_n C dX4_endSeason_43 rfl ?_
                refine a_iload_n C dX4_endSeason_44 rfl ?_
                refine a_iconst C dX4_endSeason_45 ?_
                refine a_callV (as := [zI a2, zI 2]) (rest := []) C 2 (fun l => c4_pay l) h_o ⟨_, _, rfl⟩ (by decide) ml_X4_99 im_X4_pay se_X4_pay in_X4 co_X4_pay (by decide +kernel) rfl ⟨Nat.le_of_ble_eq_true rfl, Nat.le_of_ble_eq_true rfl⟩ (Nat.le_of_ble_eq_true rfl) dX4_endSeason_46 ⟨Nat.le_of_ble_eq_true rfl, Nat.le_of_ble_eq_true rfl⟩ ?_
                refine ⟨o, a2, 2, _, rfl, hI, hK, fun V46 hK => ?_⟩
                try dsimp only [Option.toList, List.cons_append, List.nil_append]
                refine a_iinc C dX4_endSeason_49 rfl (Nat.le_of_ble_eq_true rfl) ?_
                refine a_goto C 28 dX4_endSeason_52 (by decide) ?_
                exact a_ls (lsub_s rfl (lsub_s rfl (lsub_s rfl lsub_0))) (ih28 a1 (a2 + 1) _ hK)
        refine a_iconst C dX4_endSeason_26 ?_
        refine a_istore_n C dX4_endSeason_27 (Nat.le_of_ble_eq_true rfl) ?_
        obtain ⟨nn27, hK⟩ := hK
        exact a_ls (lsub_s rfl (lsub_s rfl (lsub_s rfl lsub_0))) (L28 nn27 a1 0 _ hK)
      · replace hK := hK.2 q16
        refine a_aload_n C dX4_endSeason_13 rfl ?_
        refine a_getR C fl_X4_25_4 h_o rfl g_o_5 dX4_endSeason_14 ?_
        refine a_iload_n C dX4_endSeason_17 rfl ?_
        refine a_iconst C dX4_endSeason_18 ?_
        obtain ⟨q28, hK⟩ := hK
        refine a_iast C h_o_5 dX4_endSeason_19 (by decide) ⟨q28, ⟨by decide, by decide⟩⟩ ?_
        refine a_iinc C dX4_endSeason_20 rfl (Nat.le_of_ble_eq_true rfl) ?_
        refine a_goto C 7 dX4_endSeason_23 (by decide) ?_
        exact a_ls (lsub_s rfl (lsub_s rfl (lsub_s rfl lsub_0))) (ih7 a1 (a2 + 1) _ hK)
  refine a_aload_n C dX4_endSeason_0 rfl ?_
  refine a_callV (as := []) (rest := []) C 0 (fun l => c4_lentSides l) h_o ⟨_, _, rfl⟩ (by decide) ml_X4_142 im_X4_lentSides se_X4_lentSides in_X4 co_X4_lentSides (by decide +kernel) rfl ⟨Nat.le_of_ble_eq_true rfl, Nat.le_of_ble_eq_true rfl⟩ (Nat.le_of_ble_eq_true rfl) dX4_endSeason_1 ⟨Nat.le_of_ble_eq_true rfl, Nat.le_of_ble_eq_true rfl⟩ ?_
  refine ⟨o, _, rfl, hI, hK, fun r1 V1 hK => ?_⟩
  try dsimp only [Option.toList, List.cons_append, List.nil_append]
  refine a_istore_n C dX4_endSeason_4 (Nat.le_of_ble_eq_true rfl) ?_
  refine a_iconst C dX4_endSeason_5 ?_
  refine a_istore_n C dX4_endSeason_6 (Nat.le_of_ble_eq_true rfl) ?_
  obtain ⟨nn29, hK⟩ := hK
  exact a_ls (lsub_s rfl (lsub_s rfl (lsub_s rfl lsub_0))) (L7 nn29 r1 0 _ hK)

def m4_sidesOf_L18 (S : List zC) (o : Nat) (k4 : Int → Int → Int → zV → Prop) (Q : Int → zV → Prop) : Nat → Int → Int → Int → Int → zV → Prop
  | 0 => fun _ _ _ _ _ => False
  | n + 1 => fun a1 a2 a3 a4 V => (inR a4) ∧ ((2 ≤ a4 → k4 a1 a2 (a3 + 1) V) ∧ (a4 < 2 → m4_onSide S o V a3 a4 (fun r28 V28 => (inR r28) ∧ (inR a1) ∧ ((¬ r28 = a1 → m4_sidesOf_L18 S o k4 Q n a1 a2 a3 (a4 + 1) V28) ∧ (r28 = a1 → m4_sidesOf_L18 S o k4 Q n a1 (zor a2 (zshl 1 ((2 * a3) + a4))) a3 (a4 + 1) V28)))))
def m4_sidesOf_L4 (S : List zC) (o : Nat) (Q : Int → zV → Prop) : Nat → Int → Int → Int → zV → Prop
  | 0 => fun _ _ _ _ => False
  | n + 1 => fun a1 a2 a3 V => (inR a3) ∧ (((V 3 2) ≤ a3 → Q a2 V) ∧ (a3 < (V 3 2) → ∃ nn14, m4_sidesOf_L18 S o (m4_sidesOf_L4 S o Q n) Q nn14 a1 a2 a3 0 V))
def m4_sidesOf (S : List zC) (o : Nat) (V : zV) (a1 : Int) (Q : Int → zV → Prop) : Prop :=
  ∃ nn29, m4_sidesOf_L4 S o Q nn29 a1 0 0 V
def t4_sidesOf : zT := fun as S V post => ∃ (o : Nat) (a1 : Int) (Q : Int → zV → Prop), as = [zR o, zI a1] ∧ PSi S o ∧ m4_sidesOf S o V a1 Q ∧ (∀ r V2, Q r V2 → post (some (zI r)) S V2)
set_option maxHeartbeats 4000000 in
set_option maxRecDepth 20000 in
theorem c4_sidesOf (l : Launch) : zCT l yX4_sidesOf cX4_sidesOf 5 (some .int) { frames := 1, cells := 0, slots := 0, locals := 23 } t4_sidesOf := by
  refine zCT_of (by decide) (fun as S V post h => by obtain ⟨o, a1, Q, rfl, -⟩ := h; exact Nat.le_of_ble_eq_true rfl) ?_
  intro X S V as post C E hT
  obtain ⟨o, a1, Q, rfl, hI, hK, hpost⟩ := hT
  obtain ⟨w_o, r_o, h_o, g_o_0, g_o_1, g_o_2, g_o_3, g_o_4, g_o_5, g_o_6, g_o_7, g_o_8, g_o_10, g_o_11⟩ := PSi_o hI
  obtain ⟨w_3, r_3, h_3, g_3_0, g_3_1⟩ := PSl_3 (PSi_l hI)
  show zW X S V 0 0 [some (zR o), some (zI a1), none, none, none] [] 0
  unfold m4_sidesOf at hK
  have L4 : ∀ (n : Nat) (a1 : Int) (a2 : Int) (a3 : Int) (V : zV), m4_sidesOf_L4 S o Q n a1 a2 a3 V → zW X S V 0 0 [some (zR o), some (zI a1), some (zI a2), some (zI a3), none] [] 4 := by
    intro n4
    induction n4 with
    | zero => intro _ _ _ _ hK; exact hK.elim
    | succ n4 ih4 =>
      intro a1 a2 a3 V hK
      unfold m4_sidesOf_L4 at hK
      refine a_iload_n C dX4_sidesOf_4 rfl ?_
      refine a_aload_n C dX4_sidesOf_5 rfl ?_
      refine a_getR C fl_X4_50_4 h_o rfl g_o_0 dX4_sidesOf_6 ?_
      refine a_getI C fl_X4_57_10 h_3 rfl dX4_sidesOf_9 (fun r15 => ?_)
      obtain ⟨q16, hK⟩ := hK
      refine a_icmp_ge C 58 dX4_sidesOf_12 (by decide) ⟨q16, r15⟩ (fun q17 => ?_) (fun q17 => ?_)
      · replace hK := hK.1 q17
        refine a_iload_n C dX4_sidesOf_58 rfl ?_
        exact a_iret C E dX4_sidesOf_59 (Nat.le_refl _) (Nat.le_refl _) (hpost _ _ hK)
      · replace hK := hK.2 q17
        have L18 : ∀ (n : Nat) (a1 : Int) (a2 : Int) (a3 : Int) (a4 : Int) (V : zV), m4_sidesOf_L18 S o (m4_sidesOf_L4 S o Q n4) Q n a1 a2 a3 a4 V → zW X S V 0 0 [some (zR o), some (zI a1), some (zI a2), some (zI a3), some (zI a4)] [] 18 := by
          intro n18
          induction n18 with
          | zero => intro _ _ _ _ _ hK; exact hK.elim
          | succ n18 ih18 =>
            intro a1 a2 a3 a4 V hK
            unfold m4_sidesOf_L18 at hK
            refine a_iload C dX4_sidesOf_18 rfl ?_
            refine a_iconst C dX4_sidesOf_20 ?_
            obtain ⟨q23, hK⟩ := hK
            refine a_icmp_ge C 52 dX4_sidesOf_21 (by decide) ⟨q23, ⟨by decide, by decide⟩⟩ (fun q24 => ?_) (fun q24 => ?_)
            · replace hK := hK.1 q24
              refine a_iinc C dX4_sidesOf_52 rfl (Nat.le_of_ble_eq_true rfl) ?_
              refine a_goto C 4 dX4_sidesOf_55 (by decide) ?_
              exact a_ls (lsub_s rfl (lsub_s rfl (lsub_s rfl (lsub_s rfl (lsub_n lsub_0))))) (ih4 a1 a2 (a3 + 1) _ hK)
            · replace hK := hK.2 q24
              refine a_aload_n C dX4_sidesOf_24 rfl ?_
              refine a_iload_n C dX4_sidesOf_25 rfl ?_
              refine a_iload C dX4_sidesOf_26 rfl ?_
              refine a_callV (as := [zI a3, zI a4]) (rest := []) C 2 (fun l => c4_onSide l) h_o ⟨_, _, rfl⟩ (by decide) ml_X4_108 im_X4_onSide se_X4_onSide in_X4 co_X4_onSide (by decide +kernel) rfl ⟨Nat.le_of_ble_eq_true rfl, Nat.le_of_ble_eq_true rfl⟩ (Nat.le_of_ble_eq_true rfl) dX4_sidesOf_28 ⟨Nat.le_of_ble_eq_true rfl, Nat.le_of_ble_eq_true rfl⟩ ?_
              refine ⟨o, a3, a4, _, rfl, hI, hK, fun r28 V28 hK => ?_⟩
              try dsimp only [Option.toList, List.cons_append, List.nil_append]
              refine a_iload_n C dX4_sidesOf_31 rfl ?_
              obtain ⟨q25, hK⟩ := hK
              obtain ⟨q26, hK⟩ := hK
              refine a_icmp_ne C 46 dX4_sidesOf_32 (by decide) ⟨q25, q26⟩ (fun q27 => ?_) (fun q27 => ?_)
              · replace hK := hK.1 q27
                refine a_iinc C dX4_sidesOf_46 rfl (Nat.le_of_ble_eq_true rfl) ?_
                refine a_goto C 18 dX4_sidesOf_49 (by decide) ?_
                exact a_ls (lsub_s rfl (lsub_s rfl (lsub_s rfl (lsub_s rfl (lsub_s rfl lsub_0))))) (ih18 a1 a2 a3 (a4 + 1) _ hK)
              · replace hK := hK.2 q27
                refine a_iload_n C dX4_sidesOf_35 rfl ?_
                refine a_iconst C dX4_sidesOf_36 ?_
                refine a_iconst C dX4_sidesOf_37 ?_
                refine a_iload_n C dX4_sidesOf_38 rfl ?_
                refine a_imul C dX4_sidesOf_39 ?_
                refine a_iload C dX4_sidesOf_40 rfl ?_
                refine a_iadd C dX4_sidesOf_42 ?_
                refine a_ishl C dX4_sidesOf_43 ?_
                refine a_ior C dX4_sidesOf_44 ?_
                refine a_istore_n C dX4_sidesOf_45 (Nat.le_of_ble_eq_true rfl) ?_
                refine a_iinc C dX4_sidesOf_46 rfl (Nat.le_of_ble_eq_true rfl) ?_
                refine a_goto C 18 dX4_sidesOf_49 (by decide) ?_
                exact a_ls (lsub_s rfl (lsub_s rfl (lsub_s rfl (lsub_s rfl (lsub_s rfl lsub_0))))) (ih18 a1 (zor a2 (zshl 1 ((2 * a3) + a4))) a3 (a4 + 1) _ hK)
        refine a_iconst C dX4_sidesOf_15 ?_
        refine a_istore C dX4_sidesOf_16 (Nat.le_of_ble_eq_true rfl) ?_
        obtain ⟨nn28, hK⟩ := hK
        exact a_ls (lsub_s rfl (lsub_s rfl (lsub_s rfl (lsub_s rfl (lsub_s rfl lsub_0))))) (L18 nn28 a1 a2 a3 0 _ hK)
  refine a_iconst C dX4_sidesOf_0 ?_
  refine a_istore_n C dX4_sidesOf_1 (Nat.le_of_ble_eq_true rfl) ?_
  refine a_iconst C dX4_sidesOf_2 ?_
  refine a_istore_n C dX4_sidesOf_3 (Nat.le_of_ble_eq_true rfl) ?_
  obtain ⟨nn29, hK⟩ := hK
  exact a_ls (lsub_s rfl (lsub_s rfl (lsub_s rfl (lsub_s rfl (lsub_n lsub_0))))) (L4 nn29 a1 0 0 _ hK)

def m4_struckFeuds_L4 (S : List zC) (o : Nat) (Q : Int → zV → Prop) : Nat → Int → Int → zV → Prop
  | 0 => fun _ _ _ => False
  | n + 1 => fun a1 a2 V => (inR a2) ∧ (((V 3 2) ≤ a2 → Q a1 V) ∧ (a2 < (V 3 2) → (0 ≤ a2 ∧ a2 < 8) ∧ (((V (o + 6) (a2).toNat) = 0 → m4_struckFeuds_L4 S o Q n (a1 + 0) (a2 + 1) V) ∧ (¬ (V (o + 6) (a2).toNat) = 0 → m4_struckFeuds_L4 S o Q n (a1 + 1) (a2 + 1) V))))
def m4_struckFeuds (S : List zC) (o : Nat) (V : zV)  (Q : Int → zV → Prop) : Prop :=
  ∃ nn13, m4_struckFeuds_L4 S o Q nn13 0 0 V
def t4_struckFeuds : zT := fun as S V post => ∃ (o : Nat) (Q : Int → zV → Prop), as = [zR o] ∧ PSi S o ∧ m4_struckFeuds S o V Q ∧ (∀ r V2, Q r V2 → post (some (zI r)) S V2)
set_option maxHeartbeats 4000000 in
set_option maxRecDepth 20000 in
theorem c4_struckFeuds (l : Launch) : zCT l yX4_struckFeuds cX4_struckFeuds 3 (some .int) { frames := 0, cells := 0, slots := 0, locals := 0 } t4_struckFeuds := by
  refine zCT_of (by decide) (fun as S V post h => by obtain ⟨o, Q, rfl, -⟩ := h; exact Nat.le_of_ble_eq_true rfl) ?_
  intro X S V as post C E hT
  obtain ⟨o, Q, rfl, hI, hK, hpost⟩ := hT
  obtain ⟨w_o, r_o, h_o, g_o_0, g_o_1, g_o_2, g_o_3, g_o_4, g_o_5, g_o_6, g_o_7, g_o_8, g_o_10, g_o_11⟩ := PSi_o hI
  obtain ⟨w_3, r_3, h_3, g_3_0, g_3_1⟩ := PSl_3 (PSi_l hI)
  obtain ⟨r_o_6, h_o_6⟩ := PSi_a6 hI
  show zW X S V 0 0 [some (zR o), none, none] [] 0
  unfold m4_struckFeuds at hK
  have L4 : ∀ (n : Nat) (a1 : Int) (a2 : Int) (V : zV), m4_struckFeuds_L4 S o Q n a1 a2 V → zW X S V 0 0 [some (zR o), some (zI a1), some (zI a2)] [] 4 := by
    intro n4
    induction n4 with
    | zero => intro _ _ _ hK; exact hK.elim
    | succ n4 ih4 =>
      intro a1 a2 V hK
      unfold m4_struckFeuds_L4 at hK
      refine a_iload_n C dX4_struckFeuds_4 rfl ?_
      refine a_aload_n C dX4_struckFeuds_5 rfl ?_
      refine a_getR C fl_X4_50_4 h_o rfl g_o_0 dX4_struckFeuds_6 ?_
      refine a_getI C fl_X4_57_10 h_3 rfl dX4_struckFeuds_9 (fun r7 => ?_)
      obtain ⟨q8, hK⟩ := hK
      refine a_icmp_ge C 38 dX4_struckFeuds_12 (by decide) ⟨q8, r7⟩ (fun q9 => ?_) (fun q9 => ?_)
      · replace hK := hK.1 q9
        refine a_iload_n C dX4_struckFeuds_38 rfl ?_
        exact a_iret C E dX4_struckFeuds_39 (Nat.le_refl _) (Nat.le_refl _) (hpost _ _ hK)
      · replace hK := hK.2 q9
        refine a_iload_n C dX4_struckFeuds_15 rfl ?_
        refine a_aload_n C dX4_struckFeuds_16 rfl ?_
        refine a_getR C fl_X4_28_4 h_o rfl g_o_6 dX4_struckFeuds_17 ?_
        refine a_iload_n C dX4_struckFeuds_20 rfl ?_
        obtain ⟨q10, hK⟩ := hK
        refine a_zald C h_o_6 dX4_struckFeuds_21 (by decide) q10 (fun r11 => ?_)
        refine a_if_eq C 29 dX4_struckFeuds_22 (by decide) (z_B2R r11) (fun q12 => ?_) (fun q12 => ?_)
        · replace hK := hK.1 q12
          refine a_iconst C dX4_struckFeuds_29 ?_
          refine a_iadd C dX4_struckFeuds_30 ?_
          refine a_istore_n C dX4_struckFeuds_31 (Nat.le_of_ble_eq_true rfl) ?_
          refine a_iinc C dX4_struckFeuds_32 rfl (Nat.le_of_ble_eq_true rfl) ?_
          refine a_goto C 4 dX4_struckFeuds_35 (by decide) ?_
          exact a_ls (lsub_s rfl (lsub_s rfl (lsub_s rfl lsub_0))) (ih4 (a1 + 0) (a2 + 1) _ hK)
        · replace hK := hK.2 q12
          refine a_iconst C dX4_struckFeuds_25 ?_
          refine a_goto C 30 dX4_struckFeuds_26 (by decide) ?_
          refine a_iadd C dX4_struckFeuds_30 ?_
          refine a_istore_n C dX4_struckFeuds_31 (Nat.le_of_ble_eq_true rfl) ?_
          refine a_iinc C dX4_struckFeuds_32 rfl (Nat.le_of_ble_eq_true rfl) ?_
          refine a_goto C 4 dX4_struckFeuds_35 (by decide) ?_
          exact a_ls (lsub_s rfl (lsub_s rfl (lsub_s rfl lsub_0))) (ih4 (a1 + 1) (a2 + 1) _ hK)
  refine a_iconst C dX4_struckFeuds_0 ?_
  refine a_istore_n C dX4_struckFeuds_1 (Nat.le_of_ble_eq_true rfl) ?_
  refine a_iconst C dX4_struckFeuds_2 ?_
  refine a_istore_n C dX4_struckFeuds_3 (Nat.le_of_ble_eq_true rfl) ?_
  obtain ⟨nn13, hK⟩ := hK
  exact a_ls (lsub_s rfl (lsub_s rfl (lsub_s rfl lsub_0))) (L4 nn13 0 0 _ hK)

def m4_peopleAlive_L4 (S : List zC) (o : Nat) (Q : Int → zV → Prop) : Nat → Int → Int → zV → Prop
  | 0 => fun _ _ _ => False
  | n + 1 => fun a1 a2 V => (inR a2) ∧ ((6 ≤ a2 → Q a1 V) ∧ (a2 < 6 → (0 ≤ a2 ∧ a2 < 6) ∧ (((V (o + 3) (a2).toNat) = 0 → m4_peopleAlive_L4 S o Q n (a1 + 0) (a2 + 1) V) ∧ (¬ (V (o + 3) (a2).toNat) = 0 → m4_peopleAlive_L4 S o Q n (a1 + 1) (a2 + 1) V))))
def m4_peopleAlive (S : List zC) (o : Nat) (V : zV)  (Q : Int → zV → Prop) : Prop :=
  ∃ nn11, m4_peopleAlive_L4 S o Q nn11 0 0 V
def t4_peopleAlive : zT := fun as S V post => ∃ (o : Nat) (Q : Int → zV → Prop), as = [zR o] ∧ PSi S o ∧ m4_peopleAlive S o V Q ∧ (∀ r V2, Q r V2 → post (some (zI r)) S V2)
set_option maxHeartbeats 4000000 in
set_option maxRecDepth 20000 in
theorem c4_peopleAlive (l : Launch) : zCT l yX4_peopleAlive cX4_peopleAlive 3 (some .int) { frames := 0, cells := 0, slots := 0, locals := 0 } t4_peopleAlive := by
  refine zCT_of (by decide) (fun as S V post h => by obtain ⟨o, Q, rfl, -⟩ := h; exact Nat.le_of_ble_eq_true rfl) ?_
  intro X S V as post C E hT
  obtain ⟨o, Q, rfl, hI, hK, hpost⟩ := hT
  obtain ⟨w_o, r_o, h_o, g_o_0, g_o_1, g_o_2, g_o_3, g_o_4, g_o_5, g_o_6, g_o_7, g_o_8, g_o_10, g_o_11⟩ := PSi_o hI
  obtain ⟨r_o_3, h_o_3⟩ := PSi_a3 hI
  show zW X S V 0 0 [some (zR o), none, none] [] 0
  unfold m4_peopleAlive at hK
  have L4 : ∀ (n : Nat) (a1 : Int) (a2 : Int) (V : zV), m4_peopleAlive_L4 S o Q n a1 a2 V → zW X S V 0 0 [some (zR o), some (zI a1), some (zI a2)] [] 4 := by
    intro n4
    induction n4 with
    | zero => intro _ _ _ hK; exact hK.elim
    | succ n4 ih4 =>
      intro a1 a2 V hK
      unfold m4_peopleAlive_L4 at hK
      refine a_iload_n C dX4_peopleAlive_4 rfl ?_
      refine a_bipush C dX4_peopleAlive_5 (by decide) ?_
      obtain ⟨q6, hK⟩ := hK
      refine a_icmp_ge C 33 dX4_peopleAlive_7 (by decide) ⟨q6, ⟨by decide, by decide⟩⟩ (fun q7 => ?_) (fun q7 => ?_)
      · replace hK := hK.1 q7
        refine a_iload_n C dX4_peopleAlive_33 rfl ?_
        exact a_iret C E dX4_peopleAlive_34 (Nat.le_refl _) (Nat.le_refl _) (hpost _ _ hK)
      · replace hK := hK.2 q7
        refine a_iload_n C dX4_peopleAlive_10 rfl ?_
        refine a_aload_n C dX4_peopleAlive_11 rfl ?_
        refine a_getR C fl_X4_18_4 h_o rfl g_o_3 dX4_peopleAlive_12 ?_
        refine a_iload_n C dX4_peopleAlive_15 rfl ?_
        obtain ⟨q8, hK⟩ := hK
        refine a_zald C h_o_3 dX4_peopleAlive_16 (by decide) q8 (fun r9 => ?_)
        refine a_if_eq C 24 dX4_peopleAlive_17 (by decide) (z_B2R r9) (fun q10 => ?_) (fun q10 => ?_)
        · replace hK := hK.1 q10
          refine a_iconst C dX4_peopleAlive_24 ?_
          refine a_iadd C dX4_peopleAlive_25 ?_
          refine a_istore_n C dX4_peopleAlive_26 (Nat.le_of_ble_eq_true rfl) ?_
          refine a_iinc C dX4_peopleAlive_27 rfl (Nat.le_of_ble_eq_true rfl) ?_
          refine a_goto C 4 dX4_peopleAlive_30 (by decide) ?_
          exact a_ls (lsub_s rfl (lsub_s rfl (lsub_s rfl lsub_0))) (ih4 (a1 + 0) (a2 + 1) _ hK)
        · replace hK := hK.2 q10
          refine a_iconst C dX4_peopleAlive_20 ?_
          refine a_goto C 25 dX4_peopleAlive_21 (by decide) ?_
          refine a_iadd C dX4_peopleAlive_25 ?_
          refine a_istore_n C dX4_peopleAlive_26 (Nat.le_of_ble_eq_true rfl) ?_
          refine a_iinc C dX4_peopleAlive_27 rfl (Nat.le_of_ble_eq_true rfl) ?_
          refine a_goto C 4 dX4_peopleAlive_30 (by decide) ?_
          exact a_ls (lsub_s rfl (lsub_s rfl (lsub_s rfl lsub_0))) (ih4 (a1 + 1) (a2 + 1) _ hK)
  refine a_iconst C dX4_peopleAlive_0 ?_
  refine a_istore_n C dX4_peopleAlive_1 (Nat.le_of_ble_eq_true rfl) ?_
  refine a_iconst C dX4_peopleAlive_2 ?_
  refine a_istore_n C dX4_peopleAlive_3 (Nat.le_of_ble_eq_true rfl) ?_
  obtain ⟨nn11, hK⟩ := hK
  exact a_ls (lsub_s rfl (lsub_s rfl (lsub_s rfl lsub_0))) (L4 nn11 0 0 _ hK)

def m4_moneyOfAll_L4 (S : List zC) (o : Nat) (Q : Int → zV → Prop) : Nat → Int → Int → zV → Prop
  | 0 => fun _ _ _ => False
  | n + 1 => fun a1 a2 V => (inR a2) ∧ ((6 ≤ a2 → Q a1 V) ∧ (a2 < 6 → (0 ≤ a2 ∧ a2 < 6) ∧ m4_moneyOfAll_L4 S o Q n (a1 + (V (o + 1) (a2).toNat)) (a2 + 1) V))
def m4_moneyOfAll (S : List zC) (o : Nat) (V : zV)  (Q : Int → zV → Prop) : Prop :=
  ∃ nn9, m4_moneyOfAll_L4 S o Q nn9 0 0 V
def t4_moneyOfAll : zT := fun as S V post => ∃ (o : Nat) (Q : Int → zV → Prop), as = [zR o] ∧ PSi S o ∧ m4_moneyOfAll S o V Q ∧ (∀ r V2, Q r V2 → post (some (zI r)) S V2)
set_option maxHeartbeats 4000000 in
set_option maxRecDepth 20000 in
theorem c4_moneyOfAll (l : Launch) : zCT l yX4_moneyOfAll cX4_moneyOfAll 3 (some .int) { frames := 0, cells := 0, slots := 0, locals := 0 } t4_moneyOfAll := by
  refine zCT_of (by decide) (fun as S V post h => by obtain ⟨o, Q, rfl, -⟩ := h; exact Nat.le_of_ble_eq_true rfl) ?_
  intro X S V as post C E hT
  obtain ⟨o, Q, rfl, hI, hK, hpost⟩ := hT
  obtain ⟨w_o, r_o, h_o, g_o_0, g_o_1, g_o_2, g_o_3, g_o_4, g_o_5, g_o_6, g_o_7, g_o_8, g_o_10, g_o_11⟩ := PSi_o hI
  obtain ⟨r_o_1, h_o_1⟩ := PSi_a1 hI
  show zW X S V 0 0 [some (zR o), none, none] [] 0
  unfold m4_moneyOfAll at hK
  have L4 : ∀ (n : Nat) (a1 : Int) (a2 : Int) (V : zV), m4_moneyOfAll_L4 S o Q n a1 a2 V → zW X S V 0 0 [some (zR o), some (zI a1), some (zI a2)] [] 4 := by
    intro n4
    induction n4 with
    | zero => intro _ _ _ hK; exact hK.elim
    | succ n4 ih4 =>
      intro a1 a2 V hK
      unfold m4_moneyOfAll_L4 at hK
      refine a_iload_n C dX4_moneyOfAll_4 rfl ?_
      refine a_bipush C dX4_moneyOfAll_5 (by decide) ?_
      obtain ⟨q5, hK⟩ := hK
      refine a_icmp_ge C 25 dX4_moneyOfAll_7 (by decide) ⟨q5, ⟨by decide, by decide⟩⟩ (fun q6 => ?_) (fun q6 => ?_)
      · replace hK := hK.1 q6
        refine a_iload_n C dX4_moneyOfAll_25 rfl ?_
        exact a_iret C E dX4_moneyOfAll_26 (Nat.le_refl _) (Nat.le_refl _) (hpost _ _ hK)
      · replace hK := hK.2 q6
        refine a_iload_n C dX4_moneyOfAll_10 rfl ?_
        refine a_aload_n C dX4_moneyOfAll_11 rfl ?_
        refine a_getR C fl_X4_9_4 h_o rfl g_o_1 dX4_moneyOfAll_12 ?_
        refine a_iload_n C dX4_moneyOfAll_15 rfl ?_
        obtain ⟨q7, hK⟩ := hK
        refine a_iald C h_o_1 dX4_moneyOfAll_16 (by decide) q7 (fun r8 => ?_)
        refine a_iadd C dX4_moneyOfAll_17 ?_
        refine a_istore_n C dX4_moneyOfAll_18 (Nat.le_of_ble_eq_true rfl) ?_
        refine a_iinc C dX4_moneyOfAll_19 rfl (Nat.le_of_ble_eq_true rfl) ?_
        refine a_goto C 4 dX4_moneyOfAll_22 (by decide) ?_
        exact a_ls (lsub_s rfl (lsub_s rfl (lsub_s rfl lsub_0))) (ih4 (a1 + (V (o + 1) (a2).toNat)) (a2 + 1) _ hK)
  refine a_iconst C dX4_moneyOfAll_0 ?_
  refine a_istore_n C dX4_moneyOfAll_1 (Nat.le_of_ble_eq_true rfl) ?_
  refine a_iconst C dX4_moneyOfAll_2 ?_
  refine a_istore_n C dX4_moneyOfAll_3 (Nat.le_of_ble_eq_true rfl) ?_
  obtain ⟨nn9, hK⟩ := hK
  exact a_ls (lsub_s rfl (lsub_s rfl (lsub_s rfl lsub_0))) (L4 nn9 0 0 _ hK)

def m4_openSides_J30 (S : List zC) (o : Nat) (k4 : Int → Int → zV → Prop) (Q : Int → zV → Prop) (a2 : Int) (s0 : Int) (s1 : Int) (V : zV) : Prop :=
  m4_isOpen S o V a2 1 (fun r36 V36 => (inR r36) ∧ ((r36 = 0 → k4 ((s1 + s0) + 0) (a2 + 1) V36) ∧ (¬ r36 = 0 → k4 ((s1 + s0) + 1) (a2 + 1) V36)))
def m4_openSides_L4 (S : List zC) (o : Nat) (Q : Int → zV → Prop) : Nat → Int → Int → zV → Prop
  | 0 => fun _ _ _ => False
  | n + 1 => fun a1 a2 V => (inR a2) ∧ (((V 3 2) ≤ a2 → Q a1 V) ∧ (a2 < (V 3 2) → m4_isOpen S o V a2 0 (fun r19 V19 => (inR r19) ∧ ((r19 = 0 → m4_openSides_J30 S o (m4_openSides_L4 S o Q n) Q a2 0 a1 V19) ∧ (¬ r19 = 0 → m4_openSides_J30 S o (m4_openSides_L4 S o Q n) Q a2 1 a1 V19)))))
def m4_openSides (S : List zC) (o : Nat) (V : zV)  (Q : Int → zV → Prop) : Prop :=
  ∃ nn19, m4_openSides_L4 S o Q nn19 0 0 V
def t4_openSides : zT := fun as S V post => ∃ (o : Nat) (Q : Int → zV → Prop), as = [zR o] ∧ PSi S o ∧ m4_openSides S o V Q ∧ (∀ r V2, Q r V2 → post (some (zI r)) S V2)
set_option maxHeartbeats 4000000 in
set_option maxRecDepth 20000 in
theorem c4_openSides (l : Launch) : zCT l yX4_openSides cX4_openSides 3 (some .int) { frames := 1, cells := 0, slots := 0, locals := 22 } t4_openSides := by
  refine zCT_of (by decide) (fun as S V post h => by obtain ⟨o, Q, rfl, -⟩ := h; exact Nat.le_of_ble_eq_true rfl) ?_
  intro X S V as post C E hT
  obtain ⟨o, Q, rfl, hI, hK, hpost⟩ := hT
  obtain ⟨w_o, r_o, h_o, g_o_0, g_o_1, g_o_2, g_o_3, g_o_4, g_o_5, g_o_6, g_o_7, g_o_8, g_o_10, g_o_11⟩ := PSi_o hI
  obtain ⟨w_3, r_3, h_3, g_3_0, g_3_1⟩ := PSl_3 (PSi_l hI)
  show zW X S V 0 0 [some (zR o), none, none] [] 0
  unfold m4_openSides at hK
  have L4 : ∀ (n : Nat) (a1 : Int) (a2 : Int) (V : zV), m4_openSides_L4 S o Q n a1 a2 V → zW X S V 0 0 [some (zR o), some (zI a1), some (zI a2)] [] 4 := by
    intro n4
    induction n4 with
    | zero => intro _ _ _ hK; exact hK.elim
    | succ n4 ih4 =>
      intro a1 a2 V hK
      unfold m4_openSides_L4 at hK
      refine a_iload_n C dX4_openSides_4 rfl ?_
      refine a_aload_n C dX4_openSides_5 rfl ?_
      refine a_getR C fl_X4_50_4 h_o rfl g_o_0 dX4_openSides_6 ?_
      refine a_getI C fl_X4_57_10 h_3 rfl dX4_openSides_9 (fun r10 => ?_)
      obtain ⟨q11, hK⟩ := hK
      refine a_icmp_ge C 55 dX4_openSides_12 (by decide) ⟨q11, r10⟩ (fun q12 => ?_) (fun q12 => ?_)
      · replace hK := hK.1 q12
        refine a_iload_n C dX4_openSides_55 rfl ?_
        exact a_iret C E dX4_openSides_56 (Nat.le_refl _) (Nat.le_refl _) (hpost _ _ hK)
      · replace hK := hK.2 q12
        have J30 : ∀ (a2 : Int) (s0 : Int) (s1 : Int) (V : zV), m4_openSides_J30 S o (m4_openSides_L4 S o Q n4) Q a2 s0 s1 V → zW X S V 0 0 [some (zR o), none, some (zI a2)] [zI s0, zI s1] 30 := by
          intro a2 s0 s1 V hK
          unfold m4_openSides_J30 at hK
          refine a_iadd C dX4_openSides_30 ?_
          refine a_istore_n C dX4_openSides_31 (Nat.le_of_ble_eq_true rfl) ?_
          refine a_iload_n C dX4_openSides_32 rfl ?_
          refine a_aload_n C dX4_openSides_33 rfl ?_
          refine a_iload_n C dX4_openSides_34 rfl ?_
          refine a_iconst C dX4_openSides_35 ?_
          refine a_callV (as := [zI a2, zI 1]) (rest := [zI (s1 + s0)]) C 2 (fun l => c4_isOpen l) h_o ⟨_, _, rfl⟩ (by decide) ml_X4_85 im_X4_isOpen se_X4_isOpen in_X4 co_X4_isOpen (by decide +kernel) rfl ⟨Nat.le_of_ble_eq_true rfl, Nat.le_of_ble_eq_true rfl⟩ (Nat.le_of_ble_eq_true rfl) dX4_openSides_36 ⟨Nat.le_of_ble_eq_true rfl, Nat.le_of_ble_eq_true rfl⟩ ?_
          refine ⟨o, a2, 1, _, rfl, hI, hK, fun r36 V36 hK => ?_⟩
          try dsimp only [Option.toList, List.cons_append, List.nil_append]
          obtain ⟨q15, hK⟩ := hK
          refine a_if_eq C 46 dX4_openSides_39 (by decide) q15 (fun q16 => ?_) (fun q16 => ?_)
          · replace hK := hK.1 q16
            refine a_iconst C dX4_openSides_46 ?_
            refine a_iadd C dX4_openSides_47 ?_
            refine a_istore_n C dX4_openSides_48 (Nat.le_of_ble_eq_true rfl) ?_
            refine a_iinc C dX4_openSides_49 rfl (Nat.le_of_ble_eq_true rfl) ?_
            refine a_goto C 4 dX4_openSides_52 (by decide) ?_
            exact a_ls (lsub_s rfl (lsub_s rfl (lsub_s rfl lsub_0))) (ih4 ((s1 + s0) + 0) (a2 + 1) _ hK)
          · replace hK := hK.2 q16
            refine a_iconst C dX4_openSides_42 ?_
            refine a_goto C 47 dX4_openSides_43 (by decide) ?_
            refine a_iadd C dX4_openSides_47 ?_
            refine a_istore_n C dX4_openSides_48 (Nat.le_of_ble_eq_true rfl) ?_
            refine a_iinc C dX4_openSides_49 rfl (Nat.le_of_ble_eq_true rfl) ?_
            refine a_goto C 4 dX4_openSides_52 (by decide) ?_
            exact a_ls (lsub_s rfl (lsub_s rfl (lsub_s rfl lsub_0))) (ih4 ((s1 + s0) + 1) (a2 + 1) _ hK)
        refine a_iload_n C dX4_openSides_15 rfl ?_
        refine a_aload_n C dX4_openSides_16 rfl ?_
        refine a_iload_n C dX4_openSides_17 rfl ?_
        refine a_iconst C dX4_openSides_18 ?_
        refine a_callV (as := [zI a2, zI 0]) (rest := [zI a1]) C 2 (fun l => c4_isOpen l) h_o ⟨_, _, rfl⟩ (by decide) ml_X4_85 im_X4_isOpen se_X4_isOpen in_X4 co_X4_isOpen (by decide +kernel) rfl ⟨Nat.le_of_ble_eq_true rfl, Nat.le_of_ble_eq_true rfl⟩ (Nat.le_of_ble_eq_true rfl) dX4_openSides_19 ⟨Nat.le_of_ble_eq_true rfl, Nat.le_of_ble_eq_true rfl⟩ ?_
        refine ⟨o, a2, 0, _, rfl, hI, hK, fun r19 V19 hK => ?_⟩
        try dsimp only [Option.toList, List.cons_append, List.nil_append]
        obtain ⟨q17, hK⟩ := hK
        refine a_if_eq C 29 dX4_openSides_22 (by decide) q17 (fun q18 => ?_) (fun q18 => ?_)
        · replace hK := hK.1 q18
          refine a_iconst C dX4_openSides_29 ?_
          exact a_ls (lsub_s rfl (lsub_n (lsub_s rfl lsub_0))) (J30 a2 0 a1 _ hK)
        · replace hK := hK.2 q18
          refine a_iconst C dX4_openSides_25 ?_
          refine a_goto C 30 dX4_openSides_26 (by decide) ?_
          exact a_ls (lsub_s rfl (lsub_n (lsub_s rfl lsub_0))) (J30 a2 1 a1 _ hK)
  refine a_iconst C dX4_openSides_0 ?_
  refine a_istore_n C dX4_openSides_1 (Nat.le_of_ble_eq_true rfl) ?_
  refine a_iconst C dX4_openSides_2 ?_
  refine a_istore_n C dX4_openSides_3 (Nat.le_of_ble_eq_true rfl) ?_
  obtain ⟨nn19, hK⟩ := hK
  exact a_ls (lsub_s rfl (lsub_s rfl (lsub_s rfl lsub_0))) (L4 nn19 0 0 _ hK)

def m6_leastOf_L2 (S : List zC) (Q : Int → zV → Prop) : Nat → Int → Int → zV → Prop
  | 0 => fun _ _ _ => False
  | n + 1 => fun a0 a1 V => (inR a1) ∧ ((6 ≤ a1 → Q 0 V) ∧ (a1 < 6 → (inR (zand (zshr a0 a1) 1)) ∧ ((¬ (zand (zshr a0 a1) 1) = 1 → m6_leastOf_L2 S Q n a0 (a1 + 1) V) ∧ ((zand (zshr a0 a1) 1) = 1 → Q a1 V))))
def m6_leastOf (S : List zC) (V : zV) (a0 : Int) (Q : Int → zV → Prop) : Prop :=
  ∃ nn9, m6_leastOf_L2 S Q nn9 a0 0 V
def t6_leastOf : zT := fun as S V post => ∃ (a0 : Int) (Q : Int → zV → Prop), as = [zI a0] ∧ m6_leastOf S V a0 Q ∧ (∀ r V2, Q r V2 → post (some (zI r)) S V2)
set_option maxHeartbeats 4000000 in
set_option maxRecDepth 20000 in
theorem c6_leastOf (l : Launch) : zCT l yX6_leastOf cX6_leastOf 2 (some .int) { frames := 0, cells := 0, slots := 0, locals := 0 } t6_leastOf := by
  refine zCT_of (by decide) (fun as S V post h => by obtain ⟨a0, Q, rfl, -⟩ := h; exact Nat.le_of_ble_eq_true rfl) ?_
  intro X S V as post C E hT
  obtain ⟨a0, Q, rfl, hK, hpost⟩ := hT
  show zW X S V 0 0 [some (zI a0), none] [] 0
  unfold m6_leastOf at hK
  have L2 : ∀ (n : Nat) (a0 : Int) (a1 : Int) (V : zV), m6_leastOf_L2 S Q n a0 a1 V → zW X S V 0 0 [some (zI a0), some (zI a1)] [] 2 := by
    intro n2
    induction n2 with
    | zero => intro _ _ _ hK; exact hK.elim
    | succ n2 ih2 =>
      intro a0 a1 V hK
      unfold m6_leastOf_L2 at hK
      refine a_iload_n C dX6_leastOf_2 rfl ?_
      refine a_bipush C dX6_leastOf_3 (by decide) ?_
      obtain ⟨q5, hK⟩ := hK
      refine a_icmp_ge C 25 dX6_leastOf_5 (by decide) ⟨q5, ⟨by decide, by decide⟩⟩ (fun q6 => ?_) (fun q6 => ?_)
      · replace hK := hK.1 q6
        refine a_iconst C dX6_leastOf_25 ?_
        exact a_iret C E dX6_leastOf_26 (Nat.le_refl _) (Nat.le_refl _) (hpost _ _ hK)
      · replace hK := hK.2 q6
        refine a_iload_n C dX6_leastOf_8 rfl ?_
        refine a_iload_n C dX6_leastOf_9 rfl ?_
        refine a_ishr C dX6_leastOf_10 ?_
        refine a_iconst C dX6_leastOf_11 ?_
        refine a_iand C dX6_leastOf_12 ?_
        refine a_iconst C dX6_leastOf_13 ?_
        obtain ⟨q7, hK⟩ := hK
        refine a_icmp_ne C 19 dX6_leastOf_14 (by decide) ⟨q7, ⟨by decide, by decide⟩⟩ (fun q8 => ?_) (fun q8 => ?_)
        · replace hK := hK.1 q8
          refine a_iinc C dX6_leastOf_19 rfl (Nat.le_of_ble_eq_true rfl) ?_
          refine a_goto C 2 dX6_leastOf_22 (by decide) ?_
          exact a_ls (lsub_s rfl (lsub_s rfl lsub_0)) (ih2 a0 (a1 + 1) _ hK)
        · replace hK := hK.2 q8
          refine a_iload_n C dX6_leastOf_17 rfl ?_
          exact a_iret C E dX6_leastOf_18 (Nat.le_refl _) (Nat.le_refl _) (hpost _ _ hK)
  refine a_iconst C dX6_leastOf_0 ?_
  refine a_istore_n C dX6_leastOf_1 (Nat.le_of_ble_eq_true rfl) ?_
  obtain ⟨nn9, hK⟩ := hK
  exact a_ls (lsub_s rfl (lsub_s rfl lsub_0)) (L2 nn9 a0 0 _ hK)

def m6_bestOf_L26 (S : List zC) (Q : Int → zV → Prop) : Nat → Int → Int → Int → Int → zV → Prop
  | 0 => fun _ _ _ _ _ => False
  | n + 1 => fun a2 a3 a4 a5 V => (inR a5) ∧ ((6 ≤ a5 → Q a4 V) ∧ (a5 < 6 → (inR (zand (zshr a3 a5) 1)) ∧ ((¬ (zand (zshr a3 a5) 1) = 1 → m6_bestOf_L26 S Q n a2 a3 a4 (a5 + 1) V) ∧ ((zand (zshr a3 a5) 1) = 1 → (0 ≤ (zand a3 (zxor (zshl 1 a5) (-1))) ∧ (zand a3 (zxor (zshl 1 a5) (-1))) < 64) ∧ (0 ≤ ((6 * a2) + a5) ∧ ((6 * a2) + a5) < 36) ∧ (inR a4) ∧ (inR ((V 48 ((zand a3 (zxor (zshl 1 a5) (-1)))).toNat) + (V 49 (((6 * a2) + a5)).toNat))) ∧ m6_bestOf_L26 S Q n a2 a3 (if a4 < ((V 48 ((zand a3 (zxor (zshl 1 a5) (-1)))).toNat) + (V 49 (((6 * a2) + a5)).toNat)) then ((V 48 ((zand a3 (zxor (zshl 1 a5) (-1)))).toNat) + (V 49 (((6 * a2) + a5)).toNat)) else a4) (a5 + 1) V))))
def m6_bestOf (S : List zC) (V : zV) (a1 : Int) (Q : Int → zV → Prop) : Prop :=
  m6_leastOf S V a1 (fun r1 V1 => (0 ≤ (zand a1 (zxor (zshl 1 r1) (-1))) ∧ (zand a1 (zxor (zshl 1 r1) (-1))) < 64) ∧ ∃ nn23, m6_bestOf_L26 S Q nn23 r1 (zand a1 (zxor (zshl 1 r1) (-1))) (V1 48 ((zand a1 (zxor (zshl 1 r1) (-1)))).toNat) (r1 + 1) V1)
def t6_bestOf : zT := fun as S V post => ∃ (a1 : Int) (Q : Int → zV → Prop), as = [zR 47, zI a1] ∧ PSk S ∧ m6_bestOf S V a1 Q ∧ (∀ r V2, Q r V2 → post (some (zI r)) S V2)
set_option maxHeartbeats 4000000 in
set_option maxRecDepth 20000 in
theorem c6_bestOf (l : Launch) : zCT l yX6_bestOf cX6_bestOf 7 (some .int) { frames := 1, cells := 0, slots := 0, locals := 21 } t6_bestOf := by
  refine zCT_of (by decide) (fun as S V post h => by obtain ⟨a1, Q, rfl, -⟩ := h; exact Nat.le_of_ble_eq_true rfl) ?_
  intro X S V as post C E hT
  obtain ⟨a1, Q, rfl, hKk, hK, hpost⟩ := hT
  obtain ⟨w_47, r_47, h_47, g_47_0, g_47_1⟩ := PSk_47 hKk
  obtain ⟨r_48, h_48⟩ := PSk_48 hKk
  obtain ⟨r_49, h_49⟩ := PSk_49 hKk
  show zW X S V 0 0 [some (zR 47), some (zI a1), none, none, none, none, none] [] 0
  unfold m6_bestOf at hK
  have L26 : ∀ (n : Nat) (a2 : Int) (a3 : Int) (a4 : Int) (a5 : Int) (V : zV), m6_bestOf_L26 S Q n a2 a3 a4 a5 V → zW X S V 0 0 [some (zR 47), none, some (zI a2), some (zI a3), some (zI a4), some (zI a5), none] [] 26 := by
    intro n26
    induction n26 with
    | zero => intro _ _ _ _ _ hK; exact hK.elim
    | succ n26 ih26 =>
      intro a2 a3 a4 a5 V hK
      unfold m6_bestOf_L26 at hK
      refine a_iload C dX6_bestOf_26 rfl ?_
      refine a_bipush C dX6_bestOf_28 (by decide) ?_
      obtain ⟨q11, hK⟩ := hK
      refine a_icmp_ge C 86 dX6_bestOf_30 (by decide) ⟨q11, ⟨by decide, by decide⟩⟩ (fun q12 => ?_) (fun q12 => ?_)
      · replace hK := hK.1 q12
        refine a_iload C dX6_bestOf_86 rfl ?_
        exact a_iret C E dX6_bestOf_88 (Nat.le_refl _) (Nat.le_refl _) (hpost _ _ hK)
      · replace hK := hK.2 q12
        refine a_iload_n C dX6_bestOf_33 rfl ?_
        refine a_iload C dX6_bestOf_34 rfl ?_
        refine a_ishr C dX6_bestOf_36 ?_
        refine a_iconst C dX6_bestOf_37 ?_
        refine a_iand C dX6_bestOf_38 ?_
        refine a_iconst C dX6_bestOf_39 ?_
        obtain ⟨q13, hK⟩ := hK
        refine a_icmp_ne C 80 dX6_bestOf_40 (by decide) ⟨q13, ⟨by decide, by decide⟩⟩ (fun q14 => ?_) (fun q14 => ?_)
        · replace hK := hK.1 q14
          refine a_iinc C dX6_bestOf_80 rfl (Nat.le_of_ble_eq_true rfl) ?_
          refine a_goto C 26 dX6_bestOf_83 (by decide) ?_
          exact a_ls (lsub_s rfl (lsub_n (lsub_s rfl (lsub_s rfl (lsub_s rfl (lsub_s rfl (lsub_n lsub_0))))))) (ih26 a2 a3 a4 (a5 + 1) _ hK)
        · replace hK := hK.2 q14
          refine a_aload_n C dX6_bestOf_43 rfl ?_
          refine a_getR C fl_X6_9_6 h_47 rfl g_47_0 dX6_bestOf_44 ?_
          refine a_iload_n C dX6_bestOf_47 rfl ?_
          refine a_iconst C dX6_bestOf_48 ?_
          refine a_iload C dX6_bestOf_49 rfl ?_
          refine a_ishl C dX6_bestOf_51 ?_
          refine a_iconst C dX6_bestOf_52 ?_
          refine a_ixor C dX6_bestOf_53 ?_
          refine a_iand C dX6_bestOf_54 ?_
          obtain ⟨q15, hK⟩ := hK
          refine a_iald C h_48 dX6_bestOf_55 (by decide) q15 (fun r16 => ?_)
          refine a_aload_n C dX6_bestOf_56 rfl ?_
          refine a_getR C fl_X6_15_6 h_47 rfl g_47_1 dX6_bestOf_57 ?_
          refine a_bipush C dX6_bestOf_60 (by decide) ?_
          refine a_iload_n C dX6_bestOf_62 rfl ?_
          refine a_imul C dX6_bestOf_63 ?_
          refine a_iload C dX6_bestOf_64 rfl ?_
          refine a_iadd C dX6_bestOf_66 ?_
          obtain ⟨q17, hK⟩ := hK
          refine a_iald C h_49 dX6_bestOf_67 (by decide) q17 (fun r18 => ?_)
          refine a_iadd C dX6_bestOf_68 ?_
          refine a_istore C dX6_bestOf_69 (Nat.le_of_ble_eq_true rfl) ?_
          refine a_iload C dX6_bestOf_71 rfl ?_
          refine a_iload C dX6_bestOf_73 rfl ?_
          obtain ⟨q19, hK⟩ := hK
          obtain ⟨q20, hK⟩ := hK
          refine a_max C ⟨q19, q20⟩ ml_X6_46 sa_max in_J9 co_max (by decide) (by decide) (Nat.le_of_ble_eq_true rfl) (Nat.le_of_ble_eq_true rfl) (Nat.le_of_ble_eq_true rfl) dX6_bestOf_75 ?_
          refine a_istore C dX6_bestOf_78 (Nat.le_of_ble_eq_true rfl) ?_
          refine a_iinc C dX6_bestOf_80 rfl (Nat.le_of_ble_eq_true rfl) ?_
          refine a_goto C 26 dX6_bestOf_83 (by decide) ?_
          exact a_ls (lsub_s rfl (lsub_n (lsub_s rfl (lsub_s rfl (lsub_s rfl (lsub_s rfl (lsub_n lsub_0))))))) (ih26 a2 a3 (if a4 < ((V 48 ((zand a3 (zxor (zshl 1 a5) (-1)))).toNat) + (V 49 (((6 * a2) + a5)).toNat)) then ((V 48 ((zand a3 (zxor (zshl 1 a5) (-1)))).toNat) + (V 49 (((6 * a2) + a5)).toNat)) else a4) (a5 + 1) _ hK)
  refine a_iload_n C dX6_bestOf_0 rfl ?_
  refine a_callS (as := [zI a1]) (rest := []) C 1 (fun l => c6_leastOf l) ml_X6_43 sa_X6_leastOf in_X6 co_X6_leastOf (by decide +kernel) rfl ⟨Nat.le_of_ble_eq_true rfl, Nat.le_of_ble_eq_true rfl⟩ (Nat.le_of_ble_eq_true rfl) dX6_bestOf_1 ⟨Nat.le_of_ble_eq_true rfl, Nat.le_of_ble_eq_true rfl⟩ ?_
  refine ⟨a1, _, rfl, hK, fun r1 V1 hK => ?_⟩
  try dsimp only [Option.toList, List.cons_append, List.nil_append]
  refine a_istore_n C dX6_bestOf_4 (Nat.le_of_ble_eq_true rfl) ?_
  refine a_iload_n C dX6_bestOf_5 rfl ?_
  refine a_iconst C dX6_bestOf_6 ?_
  refine a_iload_n C dX6_bestOf_7 rfl ?_
  refine a_ishl C dX6_bestOf_8 ?_
  refine a_iconst C dX6_bestOf_9 ?_
  refine a_ixor C dX6_bestOf_10 ?_
  refine a_iand C dX6_bestOf_11 ?_
  refine a_istore_n C dX6_bestOf_12 (Nat.le_of_ble_eq_true rfl) ?_
  refine a_aload_n C dX6_bestOf_13 rfl ?_
  refine a_getR C fl_X6_9_6 h_47 rfl g_47_0 dX6_bestOf_14 ?_
  refine a_iload_n C dX6_bestOf_17 rfl ?_
  obtain ⟨q21, hK⟩ := hK
  refine a_iald C h_48 dX6_bestOf_18 (by decide) q21 (fun r22 => ?_)
  refine a_istore C dX6_bestOf_19 (Nat.le_of_ble_eq_true rfl) ?_
  refine a_iload_n C dX6_bestOf_21 rfl ?_
  refine a_iconst C dX6_bestOf_22 ?_
  refine a_iadd C dX6_bestOf_23 ?_
  refine a_istore C dX6_bestOf_24 (Nat.le_of_ble_eq_true rfl) ?_
  obtain ⟨nn23, hK⟩ := hK
  exact a_ls (lsub_s rfl (lsub_n (lsub_s rfl (lsub_s rfl (lsub_s rfl (lsub_s rfl (lsub_n lsub_0))))))) (L26 nn23 r1 (zand a1 (zxor (zshl 1 r1) (-1))) (V1 48 ((zand a1 (zxor (zshl 1 r1) (-1)))).toNat) (r1 + 1) _ hK)

def m6_reckonGains_J44 (S : List zC) (o1 : Nat) (k2 : Int → zV → Prop) (k10 : Int → Int → zV → Prop) (Q : zV → Prop) (a2 : Int) (a3 : Int) (s0 : Int) (V : zV) : Prop :=
  (inR s0) ∧ ((s0 = 0 → (0 ≤ ((6 * a2) + a3) ∧ ((6 * a2) + a3) < 36) ∧ k10 a2 (a3 + 1) (vset V 49 (((6 * a2) + a3)).toNat (-1))) ∧ (¬ s0 = 0 → m4_feudsShared S o1 V a2 a3 (fun r65 V65 => (0 ≤ ((6 * a2) + a3) ∧ ((6 * a2) + a3) < 36) ∧ (inR ((4 * r65) - 1)) ∧ k10 a2 (a3 + 1) (vset V65 49 (((6 * a2) + a3)).toNat ((4 * r65) - 1)))))
def m6_reckonGains_L10 (S : List zC) (o1 : Nat) (k2 : Int → zV → Prop) (Q : zV → Prop) : Nat → Int → Int → zV → Prop
  | 0 => fun _ _ _ => False
  | n + 1 => fun a2 a3 V => (inR a3) ∧ ((6 ≤ a3 → k2 (a2 + 1) V) ∧ (a3 < 6 → (inR a2) ∧ ((a2 = a3 → m6_reckonGains_J44 S o1 (k2) (m6_reckonGains_L10 S o1 k2 Q n) Q a2 a3 0 V) ∧ (¬ a2 = a3 → (0 ≤ a2 ∧ a2 < 6) ∧ (((V (o1 + 3) (a2).toNat) = 0 → m6_reckonGains_J44 S o1 (k2) (m6_reckonGains_L10 S o1 k2 Q n) Q a2 a3 0 V) ∧ (¬ (V (o1 + 3) (a2).toNat) = 0 → (0 ≤ a3 ∧ a3 < 6) ∧ (((V (o1 + 3) (a3).toNat) = 0 → m6_reckonGains_J44 S o1 (k2) (m6_reckonGains_L10 S o1 k2 Q n) Q a2 a3 0 V) ∧ (¬ (V (o1 + 3) (a3).toNat) = 0 → m6_reckonGains_J44 S o1 (k2) (m6_reckonGains_L10 S o1 k2 Q n) Q a2 a3 1 V))))))))
def m6_reckonGains_L2 (S : List zC) (o1 : Nat) (Q : zV → Prop) : Nat → Int → zV → Prop
  | 0 => fun _ _ => False
  | n + 1 => fun a2 V => (inR a2) ∧ ((6 ≤ a2 → Q V) ∧ (a2 < 6 → ∃ nn43, m6_reckonGains_L10 S o1 (m6_reckonGains_L2 S o1 Q n) Q nn43 a2 0 V))
def m6_reckonGains (S : List zC) (o1 : Nat) (V : zV)  (Q : zV → Prop) : Prop :=
  ∃ nn87, m6_reckonGains_L2 S o1 Q nn87 0 V
def t6_reckonGains : zT := fun as S V post => ∃ (o1 : Nat) (Q : zV → Prop), as = [zR 47, zR o1] ∧ PSk S ∧ PSi S o1 ∧ m6_reckonGains S o1 V Q ∧ (∀ V2, Q V2 → post none S V2)
set_option maxHeartbeats 4000000 in
set_option maxRecDepth 20000 in
theorem c6_reckonGains (l : Launch) : zCT l yX6_reckonGains cX6_reckonGains 5 none { frames := 3, cells := 0, slots := 0, locals := 72 } t6_reckonGains := by
  refine zCT_of (by decide) (fun as S V post h => by obtain ⟨o1, Q, rfl, -⟩ := h; exact Nat.le_of_ble_eq_true rfl) ?_
  intro X S V as post C E hT
  obtain ⟨o1, Q, rfl, hKk, hI1, hK, hpost⟩ := hT
  obtain ⟨w_47, r_47, h_47, g_47_0, g_47_1⟩ := PSk_47 hKk
  obtain ⟨r_49, h_49⟩ := PSk_49 hKk
  obtain ⟨w_o1, r_o1, h_o1, g_o1_0, g_o1_1, g_o1_2, g_o1_3, g_o1_4, g_o1_5, g_o1_6, g_o1_7, g_o1_8, g_o1_10, g_o1_11⟩ := PSi_o hI1
  obtain ⟨r_o1_3, h_o1_3⟩ := PSi_a3 hI1
  show zW X S V 0 0 [some (zR 47), some (zR o1), none, none, none] [] 0
  unfold m6_reckonGains at hK
  have L2 : ∀ (n : Nat) (a2 : Int) (V : zV), m6_reckonGains_L2 S o1 Q n a2 V → zW X S V 0 0 [some (zR 47), some (zR o1), some (zI a2), none, none] [] 2 := by
    intro n2
    induction n2 with
    | zero => intro _ _ hK; exact hK.elim
    | succ n2 ih2 =>
      intro a2 V hK
      unfold m6_reckonGains_L2 at hK
      refine a_iload_n C dX6_reckonGains_2 rfl ?_
      refine a_bipush C dX6_reckonGains_3 (by decide) ?_
      obtain ⟨q44, hK⟩ := hK
      refine a_icmp_ge C 88 dX6_reckonGains_5 (by decide) ⟨q44, ⟨by decide, by decide⟩⟩ (fun q45 => ?_) (fun q45 => ?_)
      · replace hK := hK.1 q45
        exact a_vret C E dX6_reckonGains_88 (Nat.le_refl _) (Nat.le_refl _) (hpost _ hK)
      · replace hK := hK.2 q45
        have L10 : ∀ (n : Nat) (a2 : Int) (a3 : Int) (V : zV), m6_reckonGains_L10 S o1 (m6_reckonGains_L2 S o1 Q n2) Q n a2 a3 V → zW X S V 0 0 [some (zR 47), some (zR o1), some (zI a2), some (zI a3), none] [] 10 := by
          intro n10
          induction n10 with
          | zero => intro _ _ _ hK; exact hK.elim
          | succ n10 ih10 =>
            intro a2 a3 V hK
            unfold m6_reckonGains_L10 at hK
            refine a_iload_n C dX6_reckonGains_10 rfl ?_
            refine a_bipush C dX6_reckonGains_11 (by decide) ?_
            obtain ⟨q66, hK⟩ := hK
            refine a_icmp_ge C 82 dX6_reckonGains_13 (by decide) ⟨q66, ⟨by decide, by decide⟩⟩ (fun q67 => ?_) (fun q67 => ?_)
            · replace hK := hK.1 q67
              refine a_iinc C dX6_reckonGains_82 rfl (Nat.le_of_ble_eq_true rfl) ?_
              refine a_goto C 2 dX6_reckonGains_85 (by decide) ?_
              exact a_ls (lsub_s rfl (lsub_s rfl (lsub_s rfl (lsub_n (lsub_n lsub_0))))) (ih2 (a2 + 1) _ hK)
            · replace hK := hK.2 q67
              have J44 : ∀ (a2 : Int) (a3 : Int) (s0 : Int) (V : zV), m6_reckonGains_J44 S o1 (m6_reckonGains_L2 S o1 Q n2) (m6_reckonGains_L10 S o1 (m6_reckonGains_L2 S o1 Q n2) Q n10) Q a2 a3 s0 V → zW X S V 0 0 [some (zR 47), some (zR o1), some (zI a2), some (zI a3), none] [zI s0] 44 := by
                intro a2 a3 s0 V hK
                unfold m6_reckonGains_J44 at hK
                refine a_istore C dX6_reckonGains_44 (Nat.le_of_ble_eq_true rfl) ?_
                refine a_aload_n C dX6_reckonGains_46 rfl ?_
                refine a_getR C fl_X6_15_6 h_47 rfl g_47_1 dX6_reckonGains_47 ?_
                refine a_bipush C dX6_reckonGains_50 (by decide) ?_
                refine a_iload_n C dX6_reckonGains_52 rfl ?_
                refine a_imul C dX6_reckonGains_53 ?_
                refine a_iload_n C dX6_reckonGains_54 rfl ?_
                refine a_iadd C dX6_reckonGains_55 ?_
                refine a_iload C dX6_reckonGains_56 rfl ?_
                obtain ⟨q73, hK⟩ := hK
                refine a_if_eq C 74 dX6_reckonGains_58 (by decide) q73 (fun q74 => ?_) (fun q74 => ?_)
                · replace hK := hK.1 q74
                  refine a_iconst C dX6_reckonGains_74 ?_
                  obtain ⟨q75, hK⟩ := hK
                  refine a_iast C h_49 dX6_reckonGains_75 (by decide) ⟨q75, ⟨by decide, by decide⟩⟩ ?_
                  refine a_iinc C dX6_reckonGains_76 rfl (Nat.le_of_ble_eq_true rfl) ?_
                  refine a_goto C 10 dX6_reckonGains_79 (by decide) ?_
                  exact a_ls (lsub_s rfl (lsub_s rfl (lsub_s rfl (lsub_s rfl (lsub_n lsub_0))))) (ih10 a2 (a3 + 1) _ hK)
                · replace hK := hK.2 q74
                  refine a_iconst C dX6_reckonGains_61 ?_
                  refine a_aload_n C dX6_reckonGains_62 rfl ?_
                  refine a_iload_n C dX6_reckonGains_63 rfl ?_
                  refine a_iload_n C dX6_reckonGains_64 rfl ?_
                  refine a_callV (as := [zI a2, zI a3]) (rest := [zI 4, zI ((6 * a2) + a3), zR 49]) C 2 (fun l => c4_feudsShared l) h_o1 ⟨_, _, rfl⟩ (by decide) ml_X6_39 im_X4_feudsShared se_X4_feudsShared in_X4 co_X4_feudsShared (by decide +kernel) rfl ⟨Nat.le_of_ble_eq_true rfl, Nat.le_of_ble_eq_true rfl⟩ (Nat.le_of_ble_eq_true rfl) dX6_reckonGains_65 ⟨Nat.le_of_ble_eq_true rfl, Nat.le_of_ble_eq_true rfl⟩ ?_
                  refine ⟨o1, a2, a3, _, rfl, hI1, hK, fun r65 V65 hK => ?_⟩
                  try dsimp only [Option.toList, List.cons_append, List.nil_append]
                  refine a_imul C dX6_reckonGains_68 ?_
                  refine a_iconst C dX6_reckonGains_69 ?_
                  refine a_isub C dX6_reckonGains_70 ?_
                  refine a_goto C 75 dX6_reckonGains_71 (by decide) ?_
                  obtain ⟨q76, hK⟩ := hK
                  obtain ⟨q77, hK⟩ := hK
                  refine a_iast C h_49 dX6_reckonGains_75 (by decide) ⟨q76, q77⟩ ?_
                  refine a_iinc C dX6_reckonGains_76 rfl (Nat.le_of_ble_eq_true rfl) ?_
                  refine a_goto C 10 dX6_reckonGains_79 (by decide) ?_
                  exact a_ls (lsub_s rfl (lsub_s rfl (lsub_s rfl (lsub_s rfl (lsub_n lsub_0))))) (ih10 a2 (a3 + 1) _ hK)
              refine a_iload_n C dX6_reckonGains_16 rfl ?_
              refine a_iload_n C dX6_reckonGains_17 rfl ?_
              obtain ⟨q78, hK⟩ := hK
              refine a_icmp_eq C 43 dX6_reckonGains_18 (by decide) ⟨q78, q66⟩ (fun q79 => ?_) (fun q79 => ?_)
              · replace hK := hK.1 q79
                refine a_iconst C dX6_reckonGains_43 ?_
                exact a_ls (lsub_s rfl (lsub_s rfl (lsub_s rfl (lsub_s rfl (lsub_n lsub_0))))) (J44 a2 a3 0 _ hK)
              · replace hK := hK.2 q79
                refine a_aload_n C dX6_reckonGains_21 rfl ?_
                refine a_getR C fl_X6_33_4 h_o1 rfl g_o1_3 dX6_reckonGains_22 ?_
                refine a_iload_n C dX6_reckonGains_25 rfl ?_
                obtain ⟨q80, hK⟩ := hK
                refine a_zald C h_o1_3 dX6_reckonGains_26 (by decide) q80 (fun r81 => ?_)
                refine a_if_eq C 43 dX6_reckonGains_27 (by decide) (z_B2R r81) (fun q82 => ?_) (fun q82 => ?_)
                · replace hK := hK.1 q82
                  refine a_iconst C dX6_reckonGains_43 ?_
                  exact a_ls (lsub_s rfl (lsub_s rfl (lsub_s rfl (lsub_s rfl (lsub_n lsub_0))))) (J44 a2 a3 0 _ hK)
                · replace hK := hK.2 q82
                  refine a_aload_n C dX6_reckonGains_30 rfl ?_
                  refine a_getR C fl_X6_33_4 h_o1 rfl g_o1_3 dX6_reckonGains_31 ?_
                  refine a_iload_n C dX6_reckonGains_34 rfl ?_
                  obtain ⟨q83, hK⟩ := hK
                  refine a_zald C h_o1_3 dX6_reckonGains_35 (by decide) q83 (fun r84 => ?_)
                  refine a_if_eq C 43 dX6_reckonGains_36 (by decide) (z_B2R r84) (fun q85 => ?_) (fun q85 => ?_)
                  · replace hK := hK.1 q85
                    refine a_iconst C dX6_reckonGains_43 ?_
                    exact a_ls (lsub_s rfl (lsub_s rfl (lsub_s rfl (lsub_s rfl (lsub_n lsub_0))))) (J44 a2 a3 0 _ hK)
                  · replace hK := hK.2 q85
                    refine a_iconst C dX6_reckonGains_39 ?_
                    refine a_goto C 44 dX6_reckonGains_40 (by decide) ?_
                    exact a_ls (lsub_s rfl (lsub_s rfl (lsub_s rfl (lsub_s rfl (lsub_n lsub_0))))) (J44 a2 a3 1 _ hK)
        refine a_iconst C dX6_reckonGains_8 ?_
        refine a_istore_n C dX6_reckonGains_9 (Nat.le_of_ble_eq_true rfl) ?_
        obtain ⟨nn86, hK⟩ := hK
        exact a_ls (lsub_s rfl (lsub_s rfl (lsub_s rfl (lsub_s rfl (lsub_n lsub_0))))) (L10 nn86 a2 0 _ hK)
  refine a_iconst C dX6_reckonGains_0 ?_
  refine a_istore_n C dX6_reckonGains_1 (Nat.le_of_ble_eq_true rfl) ?_
  obtain ⟨nn87, hK⟩ := hK
  exact a_ls (lsub_s rfl (lsub_s rfl (lsub_s rfl (lsub_n (lsub_n lsub_0))))) (L2 nn87 0 _ hK)
