def m1_below  (V : zV) (a1 : Int) (Q : Int → zV → Prop) : Prop :=
  (inR (zandL ((1103515245 * (V 52 0)) + 12345) 2147483647)) ∧ (inR a1) ∧ ((0 < a1 → (0 ≤ ((vset V 52 0 (zandL ((1103515245 * (V 52 0)) + 12345) 2147483647)) 52 0) ∧ ((vset V 52 0 (zandL ((1103515245 * (V 52 0)) + 12345) 2147483647)) 52 0) < 2147483648) ∧ ((0 ≤ (((vset V 52 0 (zandL ((1103515245 * (V 52 0)) + 12345) 2147483647)) 52 0) / 65536) ∧ (((vset V 52 0 (zandL ((1103515245 * (V 52 0)) + 12345) 2147483647)) 52 0) / 65536) < 2147483648) ∧ 0 < a1 ∧ a1 < 2147483648) ∧ Q ((((vset V 52 0 (zandL ((1103515245 * (V 52 0)) + 12345) 2147483647)) 52 0) / 65536) % a1) (vset V 52 0 (zandL ((1103515245 * (V 52 0)) + 12345) 2147483647))) ∧ (a1 ≤ 0 → Q 0 (vset V 52 0 (zandL ((1103515245 * (V 52 0)) + 12345) 2147483647))))
def t1_below : zT := fun as S V post => ∃ (a1 : Int) (Q : Int → zV → Prop), as = [zR 52, zI a1] ∧ PSd S ∧ m1_below V a1 Q ∧ (∀ r V2, Q r V2 → post (some (zI r)) S V2)
set_option maxHeartbeats 4000000 in
set_option maxRecDepth 20000 in
theorem c1_below (l : Launch) : zCT l yX1_below cX1_below 2 (some .int) { frames := 0, cells := 0, slots := 0, locals := 0 } t1_below := by
  refine zCT_of (by decide) (fun as S V post h => by obtain ⟨a1, Q, rfl, -⟩ := h; exact Nat.le_of_ble_eq_true rfl) ?_
  intro X S V as post C E hT
  obtain ⟨a1, Q, rfl, hD, hK, hpost⟩ := hT
  obtain ⟨w_52, r_52, h_52⟩ := PSd_52 hD
  show zW X S V 0 0 [some (zR 52), some (zI a1)] [] 0
  unfold m1_below at hK
  refine a_aload_n C dX1_below_0 rfl ?_
  refine a_ldc2 C kl_X1_13 dX1_below_1 ?_
  refine a_aload_n C dX1_below_4 rfl ?_
  refine a_getI C fl_X1_7_1 h_52 rfl dX1_below_5 (fun r1 => ?_)
  refine a_i2l C dX1_below_8 r1 ?_
  refine a_lmul C dX1_below_9 ?_
  refine a_ldc2 C kl_X1_15 dX1_below_10 ?_
  refine a_ladd C dX1_below_13 ?_
  refine a_ldc2 C kl_X1_17 dX1_below_14 ?_
  refine a_land C dX1_below_17 ?_
  refine a_l2i C dX1_below_18 ?_
  obtain ⟨q2, hK⟩ := hK
  refine a_putI C fl_X1_7_1 (Or.inl rfl) h_52 rfl dX1_below_19 ⟨q2, fun q => by cases q⟩ ?_
  refine a_iload_n C dX1_below_22 rfl ?_
  obtain ⟨q3, hK⟩ := hK
  refine a_if_gt C 30 dX1_below_23 (by decide) q3 (fun q4 => ?_) (fun q4 => ?_)
  · replace hK := hK.1 q4
    refine a_aload_n C dX1_below_30 rfl ?_
    refine a_getI C fl_X1_7_1 h_52 rfl dX1_below_31 (fun r5 => ?_)
    refine a_ldc C ki_X1_19 dX1_below_34 ?_
    obtain ⟨q6, hK⟩ := hK
    refine a_idiv C dX1_below_36 ⟨q6, by decide, by decide⟩ ?_
    refine a_iload_n C dX1_below_37 rfl ?_
    obtain ⟨q7, hK⟩ := hK
    refine a_irem C dX1_below_38 q7 ?_
    exact a_iret C E dX1_below_39 (Nat.le_refl _) (Nat.le_refl _) (hpost _ _ hK)
  · replace hK := hK.2 q4
    refine a_iconst C dX1_below_26 ?_
    refine a_goto C 39 dX1_below_27 (by decide) ?_
    exact a_iret C E dX1_below_39 (Nat.le_refl _) (Nat.le_refl _) (hpost _ _ hK)

def m4_begin_J96 (S : List zC) (o : Nat) (k59 : Int → zV → Prop) (Q : zV → Prop) (a1 : Int) (s0 : Int) (s1 : Int) (V : zV) : Prop :=
  (0 ≤ s1 ∧ s1 < 16) ∧ (inR s0) ∧ (0 ≤ a1 ∧ a1 < 16) ∧ k59 (a1 + 1) (vset (vset V (o + 4) (s1).toNat s0) (o + 5) (a1).toNat (-1))
def m4_begin_L59 (S : List zC) (o : Nat) (Q : zV → Prop) : Nat → Int → zV → Prop
  | 0 => fun _ _ => False
  | n + 1 => fun a1 V => (inR a1) ∧ ((16 ≤ a1 → Q (vset (vset V o 9 0) o 12 0)) ∧ (a1 < 16 → (inR (2 * (V 3 2))) ∧ (((2 * (V 3 2)) ≤ a1 → m4_begin_J96 S o (m4_begin_L59 S o Q n) Q a1 (-1) a1 V) ∧ (a1 < (2 * (V 3 2)) → (0 ≤ a1 ∧ a1 < 16) ∧ m4_begin_J96 S o (m4_begin_L59 S o Q n) Q a1 (V 5 (a1).toNat) a1 V))))
def m4_begin_L38 (S : List zC) (o : Nat) (Q : zV → Prop) : Nat → Int → zV → Prop
  | 0 => fun _ _ => False
  | n + 1 => fun a1 V => (inR a1) ∧ ((8 ≤ a1 → ∃ nn31, m4_begin_L59 S o Q nn31 0 V) ∧ (a1 < 8 → (0 ≤ a1 ∧ a1 < 8) ∧ m4_begin_L38 S o Q n (a1 + 1) (vset V (o + 6) (a1).toNat 0)))
def m4_begin_L2 (S : List zC) (o : Nat) (Q : zV → Prop) : Nat → Int → zV → Prop
  | 0 => fun _ _ => False
  | n + 1 => fun a1 V => (inR a1) ∧ ((6 ≤ a1 → ∃ nn63, m4_begin_L38 S o Q nn63 0 V) ∧ (a1 < 6 → (0 ≤ a1 ∧ a1 < 6) ∧ (0 ≤ a1 ∧ a1 < 6) ∧ (0 ≤ a1 ∧ a1 < 6) ∧ m4_begin_L2 S o Q n (a1 + 1) (vset (vset (vset V (o + 1) (a1).toNat 9) (o + 2) (a1).toNat (-1)) (o + 3) (a1).toNat 1)))
def m4_begin (S : List zC) (o : Nat) (V : zV)  (Q : zV → Prop) : Prop :=
  ∃ nn133, m4_begin_L2 S o Q nn133 0 V
def t4_begin : zT := fun as S V post => ∃ (o : Nat) (Q : zV → Prop), as = [zR o] ∧ PSi S o ∧ m4_begin S o V Q ∧ (∀ V2, Q V2 → post none S V2)
set_option maxHeartbeats 4000000 in
set_option maxRecDepth 20000 in
theorem c4_begin (l : Launch) : zCT l yX4_begin cX4_begin 2 none { frames := 0, cells := 0, slots := 0, locals := 0 } t4_begin := by
  refine zCT_of (by decide) (fun as S V post h => by obtain ⟨o, Q, rfl, -⟩ := h; exact Nat.le_of_ble_eq_true rfl) ?_
  intro X S V as post C E hT
  obtain ⟨o, Q, rfl, hI, hK, hpost⟩ := hT
  obtain ⟨w_o, r_o, h_o, g_o_0, g_o_1, g_o_2, g_o_3, g_o_4, g_o_5, g_o_6, g_o_7, g_o_8, g_o_10, g_o_11⟩ := PSi_o hI
  obtain ⟨r_o_4, h_o_4⟩ := PSi_a4 hI
  obtain ⟨r_o_5, h_o_5⟩ := PSi_a5 hI
  obtain ⟨w_3, r_3, h_3, g_3_0, g_3_1⟩ := PSl_3 (PSi_l hI)
  obtain ⟨r_5, h_5⟩ := PSl_5 (PSi_l hI)
  obtain ⟨r_o_6, h_o_6⟩ := PSi_a6 hI
  obtain ⟨r_o_1, h_o_1⟩ := PSi_a1 hI
  obtain ⟨r_o_2, h_o_2⟩ := PSi_a2 hI
  obtain ⟨r_o_3, h_o_3⟩ := PSi_a3 hI
  show zW X S V 0 0 [some (zR o), none] [] 0
  unfold m4_begin at hK
  have L2 : ∀ (n : Nat) (a1 : Int) (V : zV), m4_begin_L2 S o Q n a1 V → zW X S V 0 0 [some (zR o), some (zI a1)] [] 2 := by
    intro n2
    induction n2 with
    | zero => intro _ _ hK; exact hK.elim
    | succ n2 ih2 =>
      intro a1 V hK
      unfold m4_begin_L2 at hK
      refine a_iload_n C dX4_begin_2 rfl ?_
      refine a_bipush C dX4_begin_3 (by decide) ?_
      obtain ⟨q67, hK⟩ := hK
      refine a_icmp_ge C 36 dX4_begin_5 (by decide) ⟨q67, ⟨by decide, by decide⟩⟩ (fun q68 => ?_) (fun q68 => ?_)
      · replace hK := hK.1 q68
        have L38 : ∀ (n : Nat) (a1 : Int) (V : zV), m4_begin_L38 S o Q n a1 V → zW X S V 0 0 [some (zR o), some (zI a1)] [] 38 := by
          intro n38
          induction n38 with
          | zero => intro _ _ hK; exact hK.elim
          | succ n38 ih38 =>
            intro a1 V hK
            unfold m4_begin_L38 at hK
            refine a_iload_n C dX4_begin_38 rfl ?_
            refine a_bipush C dX4_begin_39 (by decide) ?_
            obtain ⟨q99, hK⟩ := hK
            refine a_icmp_ge C 57 dX4_begin_41 (by decide) ⟨q99, ⟨by decide, by decide⟩⟩ (fun q100 => ?_) (fun q100 => ?_)
            · replace hK := hK.1 q100
              have L59 : ∀ (n : Nat) (a1 : Int) (V : zV), m4_begin_L59 S o Q n a1 V → zW X S V 0 0 [some (zR o), some (zI a1)] [] 59 := by
                intro n59
                induction n59 with
                | zero => intro _ _ hK; exact hK.elim
                | succ n59 ih59 =>
                  intro a1 V hK
                  unfold m4_begin_L59 at hK
                  refine a_iload_n C dX4_begin_59 rfl ?_
                  refine a_bipush C dX4_begin_60 (by decide) ?_
                  obtain ⟨q114, hK⟩ := hK
                  refine a_icmp_ge C 110 dX4_begin_62 (by decide) ⟨q114, ⟨by decide, by decide⟩⟩ (fun q115 => ?_) (fun q115 => ?_)
                  · replace hK := hK.1 q115
                    refine a_aload_n C dX4_begin_110 rfl ?_
                    refine a_iconst C dX4_begin_111 ?_
                    refine a_putI C fl_X4_37_4 (Or.inl rfl) h_o rfl dX4_begin_112 ⟨⟨by decide, by decide⟩, fun q => by cases q⟩ ?_
                    refine a_aload_n C dX4_begin_115 rfl ?_
                    refine a_iconst C dX4_begin_116 ?_
                    refine a_putI C fl_X4_47_4 (Or.inl rfl) h_o rfl dX4_begin_117 ⟨⟨by decide, by decide⟩, fun q => by cases q⟩ ?_
                    exact a_vret C E dX4_begin_120 (Nat.le_refl _) (Nat.le_refl _) (hpost _ hK)
                  · replace hK := hK.2 q115
                    have J96 : ∀ (a1 : Int) (s0 : Int) (s1 : Int) (V : zV), m4_begin_J96 S o (m4_begin_L59 S o Q n59) Q a1 s0 s1 V → zW X S V 0 0 [some (zR o), some (zI a1)] [zI s0, zI s1, zR (o + 4)] 96 := by
                      intro a1 s0 s1 V hK
                      unfold m4_begin_J96 at hK
                      obtain ⟨q119, hK⟩ := hK
                      obtain ⟨q120, hK⟩ := hK
                      refine a_iast C h_o_4 dX4_begin_96 (by decide) ⟨q119, q120⟩ ?_
                      refine a_aload_n C dX4_begin_97 rfl ?_
                      refine a_getR C fl_X4_25_4 h_o rfl g_o_5 dX4_begin_98 ?_
                      refine a_iload_n C dX4_begin_101 rfl ?_
                      refine a_iconst C dX4_begin_102 ?_
                      obtain ⟨q121, hK⟩ := hK
                      refine a_iast C h_o_5 dX4_begin_103 (by decide) ⟨q121, ⟨by decide, by decide⟩⟩ ?_
                      refine a_iinc C dX4_begin_104 rfl (Nat.le_of_ble_eq_true rfl) ?_
                      refine a_goto C 59 dX4_begin_107 (by decide) ?_
                      exact a_ls (lsub_s rfl (lsub_s rfl lsub_0)) (ih59 (a1 + 1) _ hK)
                    refine a_aload_n C dX4_begin_65 rfl ?_
                    refine a_getR C fl_X4_22_4 h_o rfl g_o_4 dX4_begin_66 ?_
                    refine a_iload_n C dX4_begin_69 rfl ?_
                    refine a_iload_n C dX4_begin_70 rfl ?_
                    refine a_iconst C dX4_begin_71 ?_
                    refine a_aload_n C dX4_begin_72 rfl ?_
                    refine a_getR C fl_X4_50_4 h_o rfl g_o_0 dX4_begin_73 ?_
                    refine a_getI C fl_X4_57_10 h_3 rfl dX4_begin_76 (fun r122 => ?_)
                    refine a_imul C dX4_begin_79 ?_
                    obtain ⟨q123, hK⟩ := hK
                    refine a_icmp_ge C 95 dX4_begin_80 (by decide) ⟨q114, q123⟩ (fun q124 => ?_) (fun q124 => ?_)
                    · replace hK := hK.1 q124
                      refine a_iconst C dX4_begin_95 ?_
                      exact a_ls (lsub_s rfl (lsub_s rfl lsub_0)) (J96 a1 (-1) a1 _ hK)
                    · replace hK := hK.2 q124
                      refine a_aload_n C dX4_begin_83 rfl ?_
                      refine a_getR C fl_X4_50_4 h_o rfl g_o_0 dX4_begin_84 ?_
                      refine a_getR C fl_X4_62_10 h_3 rfl g_3_1 dX4_begin_87 ?_
                      refine a_iload_n C dX4_begin_90 rfl ?_
                      obtain ⟨q125, hK⟩ := hK
                      refine a_iald C h_5 dX4_begin_91 (by decide) q125 (fun r126 => ?_)
                      refine a_goto C 96 dX4_begin_92 (by decide) ?_
                      exact a_ls (lsub_s rfl (lsub_s rfl lsub_0)) (J96 a1 (V 5 (a1).toNat) a1 _ hK)
              refine a_iconst C dX4_begin_57 ?_
              refine a_istore_n C dX4_begin_58 (Nat.le_of_ble_eq_true rfl) ?_
              obtain ⟨nn127, hK⟩ := hK
              exact a_ls (lsub_s rfl (lsub_s rfl lsub_0)) (L59 nn127 0 _ hK)
            · replace hK := hK.2 q100
              refine a_aload_n C dX4_begin_44 rfl ?_
              refine a_getR C fl_X4_28_4 h_o rfl g_o_6 dX4_begin_45 ?_
              refine a_iload_n C dX4_begin_48 rfl ?_
              refine a_iconst C dX4_begin_49 ?_
              obtain ⟨q128, hK⟩ := hK
              refine a_zast C h_o_6 dX4_begin_50 (by decide) ⟨q128, (by decide)⟩ ?_
              refine a_iinc C dX4_begin_51 rfl (Nat.le_of_ble_eq_true rfl) ?_
              refine a_goto C 38 dX4_begin_54 (by decide) ?_
              exact a_ls (lsub_s rfl (lsub_s rfl lsub_0)) (ih38 (a1 + 1) _ hK)
        refine a_iconst C dX4_begin_36 ?_
        refine a_istore_n C dX4_begin_37 (Nat.le_of_ble_eq_true rfl) ?_
        obtain ⟨nn129, hK⟩ := hK
        exact a_ls (lsub_s rfl (lsub_s rfl lsub_0)) (L38 nn129 0 _ hK)
      · replace hK := hK.2 q68
        refine a_aload_n C dX4_begin_8 rfl ?_
        refine a_getR C fl_X4_9_4 h_o rfl g_o_1 dX4_begin_9 ?_
        refine a_iload_n C dX4_begin_12 rfl ?_
        refine a_bipush C dX4_begin_13 (by decide) ?_
        obtain ⟨q130, hK⟩ := hK
        refine a_iast C h_o_1 dX4_begin_15 (by decide) ⟨q130, ⟨by decide, by decide⟩⟩ ?_
        refine a_aload_n C dX4_begin_16 rfl ?_
        refine a_getR C fl_X4_15_4 h_o rfl g_o_2 dX4_begin_17 ?_
        refine a_iload_n C dX4_begin_20 rfl ?_
        refine a_iconst C dX4_begin_21 ?_
        obtain ⟨q131, hK⟩ := hK
        refine a_iast C h_o_2 dX4_begin_22 (by decide) ⟨q131, ⟨by decide, by decide⟩⟩ ?_
        refine a_aload_n C dX4_begin_23 rfl ?_
        refine a_getR C fl_X4_18_4 h_o rfl g_o_3 dX4_begin_24 ?_
        refine a_iload_n C dX4_begin_27 rfl ?_
        refine a_iconst C dX4_begin_28 ?_
        obtain ⟨q132, hK⟩ := hK
        refine a_zast C h_o_3 dX4_begin_29 (by decide) ⟨q132, (by decide)⟩ ?_
        refine a_iinc C dX4_begin_30 rfl (Nat.le_of_ble_eq_true rfl) ?_
        refine a_goto C 2 dX4_begin_33 (by decide) ?_
        exact a_ls (lsub_s rfl (lsub_s rfl lsub_0)) (ih2 (a1 + 1) _ hK)
  refine a_iconst C dX4_begin_0 ?_
  refine a_istore_n C dX4_begin_1 (Nat.le_of_ble_eq_true rfl) ?_
  obtain ⟨nn133, hK⟩ := hK
  exact a_ls (lsub_s rfl (lsub_s rfl lsub_0)) (L2 nn133 0 _ hK)

def m4_copyFrom_L28 (S : List zC) (o : Nat) (o1 : Nat) (Q : zV → Prop) : Nat → Int → zV → Prop
  | 0 => fun _ _ => False
  | n + 1 => fun a2 V => (inR a2) ∧ ((8 ≤ a2 → ∀ V64 : zV, V64 = vrow V (o + 1) (cpz (V (o1 + 1)) (V (o + 1)) (6 : Int).toNat) → ∀ V79 : zV, V79 = vrow V64 (o + 2) (cpz (V64 (o1 + 2)) (V64 (o + 2)) (6 : Int).toNat) → ∀ V94 : zV, V94 = vrow V79 (o + 4) (cpz (V79 (o1 + 4)) (V79 (o + 4)) (16 : Int).toNat) → ∀ V109 : zV, V109 = vrow V94 (o + 5) (cpz (V94 (o1 + 5)) (V94 (o + 5)) (16 : Int).toNat) → ∀ V124 : zV, V124 = vrow V109 (o + 7) (cpz (V109 (o1 + 7)) (V109 (o + 7)) (12 : Int).toNat) → ∀ V139 : zV, V139 = vrow V124 (o + 8) (cpz (V124 (o1 + 8)) (V124 (o + 8)) (12 : Int).toNat) → ∀ V162 : zV, V162 = vrow (vset V139 o 9 (V139 o1 9)) (o + 9) (cpz ((vset V139 o 9 (V139 o1 9)) (o1 + 9)) ((vset V139 o 9 (V139 o1 9)) (o + 9)) (8 : Int).toNat) → ∀ V177 : zV, V177 = vrow V162 (o + 10) (cpz (V162 (o1 + 10)) (V162 (o + 10)) (8 : Int).toNat) → Q (vset V177 o 12 (V177 o1 12))) ∧ (a2 < 8 → (0 ≤ a2 ∧ a2 < 8) ∧ (0 ≤ a2 ∧ a2 < 8) ∧ m4_copyFrom_L28 S o o1 Q n (a2 + 1) (vset V (o + 6) (a2).toNat (V (o1 + 6) (a2).toNat))))
def m4_copyFrom_L2 (S : List zC) (o : Nat) (o1 : Nat) (Q : zV → Prop) : Nat → Int → zV → Prop
  | 0 => fun _ _ => False
  | n + 1 => fun a2 V => (inR a2) ∧ ((6 ≤ a2 → ∃ nn17, m4_copyFrom_L28 S o o1 Q nn17 0 V) ∧ (a2 < 6 → (0 ≤ a2 ∧ a2 < 6) ∧ (0 ≤ a2 ∧ a2 < 6) ∧ m4_copyFrom_L2 S o o1 Q n (a2 + 1) (vset V (o + 3) (a2).toNat (V (o1 + 3) (a2).toNat))))
def m4_copyFrom (S : List zC) (o : Nat) (o1 : Nat) (V : zV)  (Q : zV → Prop) : Prop :=
  ∃ nn41, m4_copyFrom_L2 S o o1 Q nn41 0 V
def t4_copyFrom : zT := fun as S V post => ∃ (o : Nat) (o1 : Nat) (Q : zV → Prop), as = [zR o, zR o1] ∧ PSi S o ∧ PSi S o1 ∧ m4_copyFrom S o o1 V Q ∧ (∀ V2, Q V2 → post none S V2)
set_option maxHeartbeats 4000000 in
set_option maxRecDepth 20000 in
theorem c4_copyFrom (l : Launch) : zCT l yX4_copyFrom cX4_copyFrom 3 none { frames := 1, cells := 0, slots := 0, locals := 60 } t4_copyFrom := by
  refine zCT_of (by decide) (fun as S V post h => by obtain ⟨o, o1, Q, rfl, -⟩ := h; exact Nat.le_of_ble_eq_true rfl) ?_
  intro X S V as post C E hT
  obtain ⟨o, o1, Q, rfl, hI, hI1, hK, hpost⟩ := hT
  obtain ⟨w_o1, r_o1, h_o1, g_o1_0, g_o1_1, g_o1_2, g_o1_3, g_o1_4, g_o1_5, g_o1_6, g_o1_7, g_o1_8, g_o1_10, g_o1_11⟩ := PSi_o hI1
  obtain ⟨w_o, r_o, h_o, g_o_0, g_o_1, g_o_2, g_o_3, g_o_4, g_o_5, g_o_6, g_o_7, g_o_8, g_o_10, g_o_11⟩ := PSi_o hI
  obtain ⟨r_o1_1, h_o1_1⟩ := PSi_a1 hI1
  obtain ⟨r_o_1, h_o_1⟩ := PSi_a1 hI
  obtain ⟨r_o1_2, h_o1_2⟩ := PSi_a2 hI1
  obtain ⟨r_o_2, h_o_2⟩ := PSi_a2 hI
  obtain ⟨r_o1_4, h_o1_4⟩ := PSi_a4 hI1
  obtain ⟨r_o_4, h_o_4⟩ := PSi_a4 hI
  obtain ⟨r_o1_5, h_o1_5⟩ := PSi_a5 hI1
  obtain ⟨r_o_5, h_o_5⟩ := PSi_a5 hI
  obtain ⟨r_o1_7, h_o1_7⟩ := PSi_a7 hI1
  obtain ⟨r_o_7, h_o_7⟩ := PSi_a7 hI
  obtain ⟨r_o1_8, h_o1_8⟩ := PSi_a8 hI1
  obtain ⟨r_o_8, h_o_8⟩ := PSi_a8 hI
  obtain ⟨r_o1_9, h_o1_9⟩ := PSi_a9 hI1
  obtain ⟨r_o_9, h_o_9⟩ := PSi_a9 hI
  obtain ⟨r_o1_10, h_o1_10⟩ := PSi_a10 hI1
  obtain ⟨r_o_10, h_o_10⟩ := PSi_a10 hI
  obtain ⟨r_o1_6, h_o1_6⟩ := PSi_a6 hI1
  obtain ⟨r_o_6, h_o_6⟩ := PSi_a6 hI
  obtain ⟨r_o1_3, h_o1_3⟩ := PSi_a3 hI1
  obtain ⟨r_o_3, h_o_3⟩ := PSi_a3 hI
  show zW X S V 0 0 [some (zR o), some (zR o1), none] [] 0
  unfold m4_copyFrom at hK
  have L2 : ∀ (n : Nat) (a2 : Int) (V : zV), m4_copyFrom_L2 S o o1 Q n a2 V → zW X S V 0 0 [some (zR o), some (zR o1), some (zI a2)] [] 2 := by
    intro n2
    induction n2 with
    | zero => intro _ _ hK; exact hK.elim
    | succ n2 ih2 =>
      intro a2 V hK
      unfold m4_copyFrom_L2 at hK
      refine a_iload_n C dX4_copyFrom_2 rfl ?_
      refine a_bipush C dX4_copyFrom_3 (by decide) ?_
      obtain ⟨q21, hK⟩ := hK
      refine a_icmp_ge C 26 dX4_copyFrom_5 (by decide) ⟨q21, ⟨by decide, by decide⟩⟩ (fun q22 => ?_) (fun q22 => ?_)
      · replace hK := hK.1 q22
        have L28 : ∀ (n : Nat) (a2 : Int) (V : zV), m4_copyFrom_L28 S o o1 Q n a2 V → zW X S V 0 0 [some (zR o), some (zR o1), some (zI a2)] [] 28 := by
          intro n28
          induction n28 with
          | zero => intro _ _ hK; exact hK.elim
          | succ n28 ih28 =>
            intro a2 V hK
            unfold m4_copyFrom_L28 at hK
            refine a_iload_n C dX4_copyFrom_28 rfl ?_
            refine a_bipush C dX4_copyFrom_29 (by decide) ?_
            obtain ⟨q30, hK⟩ := hK
            refine a_icmp_ge C 52 dX4_copyFrom_31 (by decide) ⟨q30, ⟨by decide, by decide⟩⟩ (fun q31 => ?_) (fun q31 => ?_)
            · replace hK := hK.1 q31
              refine a_aload_n C dX4_copyFrom_52 rfl ?_
              refine a_getR C fl_X4_9_4 h_o1 rfl g_o1_1 dX4_copyFrom_53 ?_
              refine a_iconst C dX4_copyFrom_56 ?_
              refine a_aload_n C dX4_copyFrom_57 rfl ?_
              refine a_getR C fl_X4_9_4 h_o rfl g_o_1 dX4_copyFrom_58 ?_
              refine a_iconst C dX4_copyFrom_61 ?_
              refine a_bipush C dX4_copyFrom_62 (by decide) ?_
              refine a_copyN C h_o1_1 h_o_1 (by decide) ml_X4_65 na_copy sa_copy in_J10 (by decide) (Nat.le_of_ble_eq_true rfl) (Nat.le_of_ble_eq_true rfl) dX4_copyFrom_64 (fun V64 eV64 => ?_)
              replace hK := hK V64 eV64
              refine a_aload_n C dX4_copyFrom_67 rfl ?_
              refine a_getR C fl_X4_15_4 h_o1 rfl g_o1_2 dX4_copyFrom_68 ?_
              refine a_iconst C dX4_copyFrom_71 ?_
              refine a_aload_n C dX4_copyFrom_72 rfl ?_
              refine a_getR C fl_X4_15_4 h_o rfl g_o_2 dX4_copyFrom_73 ?_
              refine a_iconst C dX4_copyFrom_76 ?_
              refine a_bipush C dX4_copyFrom_77 (by decide) ?_
              refine a_copyN C h_o1_2 h_o_2 (by decide) ml_X4_65 na_copy sa_copy in_J10 (by decide) (Nat.le_of_ble_eq_true rfl) (Nat.le_of_ble_eq_true rfl) dX4_copyFrom_79 (fun V79 eV79 => ?_)
              replace hK := hK V79 eV79
              refine a_aload_n C dX4_copyFrom_82 rfl ?_
              refine a_getR C fl_X4_22_4 h_o1 rfl g_o1_4 dX4_copyFrom_83 ?_
              refine a_iconst C dX4_copyFrom_86 ?_
              refine a_aload_n C dX4_copyFrom_87 rfl ?_
              refine a_getR C fl_X4_22_4 h_o rfl g_o_4 dX4_copyFrom_88 ?_
              refine a_iconst C dX4_copyFrom_91 ?_
              refine a_bipush C dX4_copyFrom_92 (by decide) ?_
              refine a_copyN C h_o1_4 h_o_4 (by decide) ml_X4_65 na_copy sa_copy in_J10 (by decide) (Nat.le_of_ble_eq_true rfl) (Nat.le_of_ble_eq_true rfl) dX4_copyFrom_94 (fun V94 eV94 => ?_)
              replace hK := hK V94 eV94
              refine a_aload_n C dX4_copyFrom_97 rfl ?_
              refine a_getR C fl_X4_25_4 h_o1 rfl g_o1_5 dX4_copyFrom_98 ?_
              refine a_iconst C dX4_copyFrom_101 ?_
              refine a_aload_n C dX4_copyFrom_102 rfl ?_
              refine a_getR C fl_X4_25_4 h_o rfl g_o_5 dX4_copyFrom_103 ?_
              refine a_iconst C dX4_copyFrom_106 ?_
              refine a_bipush C dX4_copyFrom_107 (by decide) ?_
              refine a_copyN C h_o1_5 h_o_5 (by decide) ml_X4_65 na_copy sa_copy in_J10 (by decide) (Nat.le_of_ble_eq_true rfl) (Nat.le_of_ble_eq_true rfl) dX4_copyFrom_109 (fun V109 eV109 => ?_)
              replace hK := hK V109 eV109
              refine a_aload_n C dX4_copyFrom_112 rfl ?_
              refine a_getR C fl_X4_31_4 h_o1 rfl g_o1_7 dX4_copyFrom_113 ?_
              refine a_iconst C dX4_copyFrom_116 ?_
              refine a_aload_n C dX4_copyFrom_117 rfl ?_
              refine a_getR C fl_X4_31_4 h_o rfl g_o_7 dX4_copyFrom_118 ?_
              refine a_iconst C dX4_copyFrom_121 ?_
              refine a_bipush C dX4_copyFrom_122 (by decide) ?_
              refine a_copyN C h_o1_7 h_o_7 (by decide) ml_X4_65 na_copy sa_copy in_J10 (by decide) (Nat.le_of_ble_eq_true rfl) (Nat.le_of_ble_eq_true rfl) dX4_copyFrom_124 (fun V124 eV124 => ?_)
              replace hK := hK V124 eV124
              refine a_aload_n C dX4_copyFrom_127 rfl ?_
              refine a_getR C fl_X4_34_4 h_o1 rfl g_o1_8 dX4_copyFrom_128 ?_
              refine a_iconst C dX4_copyFrom_131 ?_
              refine a_aload_n C dX4_copyFrom_132 rfl ?_
              refine a_getR C fl_X4_34_4 h_o rfl g_o_8 dX4_copyFrom_133 ?_
              refine a_iconst C dX4_copyFrom_136 ?_
              refine a_bipush C dX4_copyFrom_137 (by decide) ?_
              refine a_copyN C h_o1_8 h_o_8 (by decide) ml_X4_65 na_copy sa_copy in_J10 (by decide) (Nat.le_of_ble_eq_true rfl) (Nat.le_of_ble_eq_true rfl) dX4_copyFrom_139 (fun V139 eV139 => ?_)
              replace hK := hK V139 eV139
              refine a_aload_n C dX4_copyFrom_142 rfl ?_
              refine a_aload_n C dX4_copyFrom_143 rfl ?_
              refine a_getI C fl_X4_37_4 h_o1 rfl dX4_copyFrom_144 (fun r32 => ?_)
              refine a_putI C fl_X4_37_4 (Or.inl rfl) h_o rfl dX4_copyFrom_147 ⟨r32, fun q => by cases q⟩ ?_
              refine a_aload_n C dX4_copyFrom_150 rfl ?_
              refine a_getR C fl_X4_41_4 h_o1 rfl g_o1_10 dX4_copyFrom_151 ?_
              refine a_iconst C dX4_copyFrom_154 ?_
              refine a_aload_n C dX4_copyFrom_155 rfl ?_
              refine a_getR C fl_X4_41_4 h_o rfl g_o_10 dX4_copyFrom_156 ?_
              refine a_iconst C dX4_copyFrom_159 ?_
              refine a_bipush C dX4_copyFrom_160 (by decide) ?_
              refine a_copyN C h_o1_9 h_o_9 (by decide) ml_X4_65 na_copy sa_copy in_J10 (by decide) (Nat.le_of_ble_eq_true rfl) (Nat.le_of_ble_eq_true rfl) dX4_copyFrom_162 (fun V162 eV162 => ?_)
              replace hK := hK V162 eV162
              refine a_aload_n C dX4_copyFrom_165 rfl ?_
              refine a_getR C fl_X4_44_4 h_o1 rfl g_o1_11 dX4_copyFrom_166 ?_
              refine a_iconst C dX4_copyFrom_169 ?_
              refine a_aload_n C dX4_copyFrom_170 rfl ?_
              refine a_getR C fl_X4_44_4 h_o rfl g_o_11 dX4_copyFrom_171 ?_
              refine a_iconst C dX4_copyFrom_174 ?_
              refine a_bipush C dX4_copyFrom_175 (by decide) ?_
              refine a_copyN C h_o1_10 h_o_10 (by decide) ml_X4_65 na_copy sa_copy in_J10 (by decide) (Nat.le_of_ble_eq_true rfl) (Nat.le_of_ble_eq_true rfl) dX4_copyFrom_177 (fun V177 eV177 => ?_)
              replace hK := hK V177 eV177
              refine a_aload_n C dX4_copyFrom_180 rfl ?_
              refine a_aload_n C dX4_copyFrom_181 rfl ?_
              refine a_getI C fl_X4_47_4 h_o1 rfl dX4_copyFrom_182 (fun r33 => ?_)
              refine a_putI C fl_X4_47_4 (Or.inl rfl) h_o rfl dX4_copyFrom_185 ⟨r33, fun q => by cases q⟩ ?_
              exact a_vret C E dX4_copyFrom_188 (Nat.le_refl _) (Nat.le_refl _) (hpost _ hK)
            · replace hK := hK.2 q31
              refine a_aload_n C dX4_copyFrom_34 rfl ?_
              refine a_getR C fl_X4_28_4 h_o rfl g_o_6 dX4_copyFrom_35 ?_
              refine a_iload_n C dX4_copyFrom_38 rfl ?_
              refine a_aload_n C dX4_copyFrom_39 rfl ?_
              refine a_getR C fl_X4_28_4 h_o1 rfl g_o1_6 dX4_copyFrom_40 ?_
              refine a_iload_n C dX4_copyFrom_43 rfl ?_
              obtain ⟨q34, hK⟩ := hK
              refine a_zald C h_o1_6 dX4_copyFrom_44 (by decide) q34 (fun r35 => ?_)
              obtain ⟨q36, hK⟩ := hK
              refine a_zast C h_o_6 dX4_copyFrom_45 (by decide) ⟨q36, r35⟩ ?_
              refine a_iinc C dX4_copyFrom_46 rfl (Nat.le_of_ble_eq_true rfl) ?_
              refine a_goto C 28 dX4_copyFrom_49 (by decide) ?_
              exact a_ls (lsub_s rfl (lsub_s rfl (lsub_s rfl lsub_0))) (ih28 (a2 + 1) _ hK)
        refine a_iconst C dX4_copyFrom_26 ?_
        refine a_istore_n C dX4_copyFrom_27 (Nat.le_of_ble_eq_true rfl) ?_
        obtain ⟨nn37, hK⟩ := hK
        exact a_ls (lsub_s rfl (lsub_s rfl (lsub_s rfl lsub_0))) (L28 nn37 0 _ hK)
      · replace hK := hK.2 q22
        refine a_aload_n C dX4_copyFrom_8 rfl ?_
        refine a_getR C fl_X4_18_4 h_o rfl g_o_3 dX4_copyFrom_9 ?_
        refine a_iload_n C dX4_copyFrom_12 rfl ?_
        refine a_aload_n C dX4_copyFrom_13 rfl ?_
        refine a_getR C fl_X4_18_4 h_o1 rfl g_o1_3 dX4_copyFrom_14 ?_
        refine a_iload_n C dX4_copyFrom_17 rfl ?_
        obtain ⟨q38, hK⟩ := hK
        refine a_zald C h_o1_3 dX4_copyFrom_18 (by decide) q38 (fun r39 => ?_)
        obtain ⟨q40, hK⟩ := hK
        refine a_zast C h_o_3 dX4_copyFrom_19 (by decide) ⟨q40, r39⟩ ?_
        refine a_iinc C dX4_copyFrom_20 rfl (Nat.le_of_ble_eq_true rfl) ?_
        refine a_goto C 2 dX4_copyFrom_23 (by decide) ?_
        exact a_ls (lsub_s rfl (lsub_s rfl (lsub_s rfl lsub_0))) (ih2 (a2 + 1) _ hK)
  refine a_iconst C dX4_copyFrom_0 ?_
  refine a_istore_n C dX4_copyFrom_1 (Nat.le_of_ble_eq_true rfl) ?_
  obtain ⟨nn41, hK⟩ := hK
  exact a_ls (lsub_s rfl (lsub_s rfl (lsub_s rfl lsub_0))) (L2 nn41 0 _ hK)

def m4_onSide (S : List zC) (o : Nat) (V : zV) (a1 : Int) (a2 : Int) (Q : Int → zV → Prop) : Prop :=
  (0 ≤ ((2 * a1) + a2) ∧ ((2 * a1) + a2) < 16) ∧ (((V (o + 5) (((2 * a1) + a2)).toNat) = (-1) → (0 ≤ ((2 * a1) + a2) ∧ ((2 * a1) + a2) < 16) ∧ Q (V (o + 4) (((2 * a1) + a2)).toNat) V) ∧ (¬ (V (o + 5) (((2 * a1) + a2)).toNat) = (-1) → (0 ≤ ((2 * a1) + a2) ∧ ((2 * a1) + a2) < 16) ∧ Q (V (o + 5) (((2 * a1) + a2)).toNat) V))
def t4_onSide : zT := fun as S V post => ∃ (o : Nat) (a1 : Int) (a2 : Int) (Q : Int → zV → Prop), as = [zR o, zI a1, zI a2] ∧ PSi S o ∧ m4_onSide S o V a1 a2 Q ∧ (∀ r V2, Q r V2 → post (some (zI r)) S V2)
set_option maxHeartbeats 4000000 in
set_option maxRecDepth 20000 in
theorem c4_onSide (l : Launch) : zCT l yX4_onSide cX4_onSide 4 (some .int) { frames := 0, cells := 0, slots := 0, locals := 0 } t4_onSide := by
  refine zCT_of (by decide) (fun as S V post h => by obtain ⟨o, a1, a2, Q, rfl, -⟩ := h; exact Nat.le_of_ble_eq_true rfl) ?_
  intro X S V as post C E hT
  obtain ⟨o, a1, a2, Q, rfl, hI, hK, hpost⟩ := hT
  obtain ⟨w_o, r_o, h_o, g_o_0, g_o_1, g_o_2, g_o_3, g_o_4, g_o_5, g_o_6, g_o_7, g_o_8, g_o_10, g_o_11⟩ := PSi_o hI
  obtain ⟨r_o_5, h_o_5⟩ := PSi_a5 hI
  obtain ⟨r_o_4, h_o_4⟩ := PSi_a4 hI
  show zW X S V 0 0 [some (zR o), some (zI a1), some (zI a2), none] [] 0
  unfold m4_onSide at hK
  refine a_iconst C dX4_onSide_0 ?_
  refine a_iload_n C dX4_onSide_1 rfl ?_
  refine a_imul C dX4_onSide_2 ?_
  refine a_iload_n C dX4_onSide_3 rfl ?_
  refine a_iadd C dX4_onSide_4 ?_
  refine a_istore_n C dX4_onSide_5 (Nat.le_of_ble_eq_true rfl) ?_
  refine a_aload_n C dX4_onSide_6 rfl ?_
  refine a_getR C fl_X4_25_4 h_o rfl g_o_5 dX4_onSide_7 ?_
  refine a_iload_n C dX4_onSide_10 rfl ?_
  obtain ⟨q1, hK⟩ := hK
  refine a_iald C h_o_5 dX4_onSide_11 (by decide) q1 (fun r2 => ?_)
  refine a_iconst C dX4_onSide_12 ?_
  refine a_icmp_eq C 25 dX4_onSide_13 (by decide) ⟨r2, ⟨by decide, by decide⟩⟩ (fun q3 => ?_) (fun q3 => ?_)
  · replace hK := hK.1 q3
    refine a_aload_n C dX4_onSide_25 rfl ?_
    refine a_getR C fl_X4_22_4 h_o rfl g_o_4 dX4_onSide_26 ?_
    refine a_iload_n C dX4_onSide_29 rfl ?_
    obtain ⟨q4, hK⟩ := hK
    refine a_iald C h_o_4 dX4_onSide_30 (by decide) q4 (fun r5 => ?_)
    exact a_iret C E dX4_onSide_31 (Nat.le_refl _) (Nat.le_refl _) (hpost _ _ hK)
  · replace hK := hK.2 q3
    refine a_aload_n C dX4_onSide_16 rfl ?_
    refine a_getR C fl_X4_25_4 h_o rfl g_o_5 dX4_onSide_17 ?_
    refine a_iload_n C dX4_onSide_20 rfl ?_
    obtain ⟨q6, hK⟩ := hK
    refine a_iald C h_o_5 dX4_onSide_21 (by decide) q6 (fun r7 => ?_)
    refine a_goto C 31 dX4_onSide_22 (by decide) ?_
    exact a_iret C E dX4_onSide_31 (Nat.le_refl _) (Nat.le_refl _) (hpost _ _ hK)

def m4_lenderOf (S : List zC) (o : Nat) (V : zV) (a1 : Int) (a2 : Int) (Q : Int → zV → Prop) : Prop :=
  (0 ≤ ((2 * a1) + a2) ∧ ((2 * a1) + a2) < 16) ∧ (((V (o + 5) (((2 * a1) + a2)).toNat) = (-1) → Q (-1) V) ∧ (¬ (V (o + 5) (((2 * a1) + a2)).toNat) = (-1) → (0 ≤ ((2 * a1) + a2) ∧ ((2 * a1) + a2) < 16) ∧ Q (V (o + 4) (((2 * a1) + a2)).toNat) V))
def t4_lenderOf : zT := fun as S V post => ∃ (o : Nat) (a1 : Int) (a2 : Int) (Q : Int → zV → Prop), as = [zR o, zI a1, zI a2] ∧ PSi S o ∧ m4_lenderOf S o V a1 a2 Q ∧ (∀ r V2, Q r V2 → post (some (zI r)) S V2)
set_option maxHeartbeats 4000000 in
set_option maxRecDepth 20000 in
theorem c4_lenderOf (l : Launch) : zCT l yX4_lenderOf cX4_lenderOf 4 (some .int) { frames := 0, cells := 0, slots := 0, locals := 0 } t4_lenderOf := by
  refine zCT_of (by decide) (fun as S V post h => by obtain ⟨o, a1, a2, Q, rfl, -⟩ := h; exact Nat.le_of_ble_eq_true rfl) ?_
  intro X S V as post C E hT
  obtain ⟨o, a1, a2, Q, rfl, hI, hK, hpost⟩ := hT
  obtain ⟨w_o, r_o, h_o, g_o_0, g_o_1, g_o_2, g_o_3, g_o_4, g_o_5, g_o_6, g_o_7, g_o_8, g_o_10, g_o_11⟩ := PSi_o hI
  obtain ⟨r_o_5, h_o_5⟩ := PSi_a5 hI
  obtain ⟨r_o_4, h_o_4⟩ := PSi_a4 hI
  show zW X S V 0 0 [some (zR o), some (zI a1), some (zI a2), none] [] 0
  unfold m4_lenderOf at hK
  refine a_iconst C dX4_lenderOf_0 ?_
  refine a_iload_n C dX4_lenderOf_1 rfl ?_
  refine a_imul C dX4_lenderOf_2 ?_
  refine a_iload_n C dX4_lenderOf_3 rfl ?_
  refine a_iadd C dX4_lenderOf_4 ?_
  refine a_istore_n C dX4_lenderOf_5 (Nat.le_of_ble_eq_true rfl) ?_
  refine a_aload_n C dX4_lenderOf_6 rfl ?_
  refine a_getR C fl_X4_25_4 h_o rfl g_o_5 dX4_lenderOf_7 ?_
  refine a_iload_n C dX4_lenderOf_10 rfl ?_
  obtain ⟨q1, hK⟩ := hK
  refine a_iald C h_o_5 dX4_lenderOf_11 (by decide) q1 (fun r2 => ?_)
  refine a_iconst C dX4_lenderOf_12 ?_
  refine a_icmp_eq C 25 dX4_lenderOf_13 (by decide) ⟨r2, ⟨by decide, by decide⟩⟩ (fun q3 => ?_) (fun q3 => ?_)
  · replace hK := hK.1 q3
    refine a_iconst C dX4_lenderOf_25 ?_
    exact a_iret C E dX4_lenderOf_26 (Nat.le_refl _) (Nat.le_refl _) (hpost _ _ hK)
  · replace hK := hK.2 q3
    refine a_aload_n C dX4_lenderOf_16 rfl ?_
    refine a_getR C fl_X4_22_4 h_o rfl g_o_4 dX4_lenderOf_17 ?_
    refine a_iload_n C dX4_lenderOf_20 rfl ?_
    obtain ⟨q4, hK⟩ := hK
    refine a_iald C h_o_4 dX4_lenderOf_21 (by decide) q4 (fun r5 => ?_)
    refine a_goto C 26 dX4_lenderOf_22 (by decide) ?_
    exact a_iret C E dX4_lenderOf_26 (Nat.le_refl _) (Nat.le_refl _) (hpost _ _ hK)

def m4_isOpen (S : List zC) (o : Nat) (V : zV) (a1 : Int) (a2 : Int) (Q : Int → zV → Prop) : Prop :=
  (0 ≤ a1 ∧ a1 < 8) ∧ ((¬ (V (o + 6) (a1).toNat) = 0 → Q 0 V) ∧ ((V (o + 6) (a1).toNat) = 0 → (0 ≤ ((2 * a1) + a2) ∧ ((2 * a1) + a2) < 16) ∧ ((¬ (V (o + 4) (((2 * a1) + a2)).toNat) = (-1) → Q 0 V) ∧ ((V (o + 4) (((2 * a1) + a2)).toNat) = (-1) → Q 1 V))))
def t4_isOpen : zT := fun as S V post => ∃ (o : Nat) (a1 : Int) (a2 : Int) (Q : Int → zV → Prop), as = [zR o, zI a1, zI a2] ∧ PSi S o ∧ m4_isOpen S o V a1 a2 Q ∧ (∀ r V2, Q r V2 → post (some (zI r)) S V2)
set_option maxHeartbeats 4000000 in
set_option maxRecDepth 20000 in
theorem c4_isOpen (l : Launch) : zCT l yX4_isOpen cX4_isOpen 3 (some .boolean) { frames := 0, cells := 0, slots := 0, locals := 0 } t4_isOpen := by
  refine zCT_of (by decide) (fun as S V post h => by obtain ⟨o, a1, a2, Q, rfl, -⟩ := h; exact Nat.le_of_ble_eq_true rfl) ?_
  intro X S V as post C E hT
  obtain ⟨o, a1, a2, Q, rfl, hI, hK, hpost⟩ := hT
  obtain ⟨w_o, r_o, h_o, g_o_0, g_o_1, g_o_2, g_o_3, g_o_4, g_o_5, g_o_6, g_o_7, g_o_8, g_o_10, g_o_11⟩ := PSi_o hI
  obtain ⟨r_o_6, h_o_6⟩ := PSi_a6 hI
  obtain ⟨r_o_4, h_o_4⟩ := PSi_a4 hI
  show zW X S V 0 0 [some (zR o), some (zI a1), some (zI a2)] [] 0
  unfold m4_isOpen at hK
  refine a_aload_n C dX4_isOpen_0 rfl ?_
  refine a_getR C fl_X4_28_4 h_o rfl g_o_6 dX4_isOpen_1 ?_
  refine a_iload_n C dX4_isOpen_4 rfl ?_
  obtain ⟨q1, hK⟩ := hK
  refine a_zald C h_o_6 dX4_isOpen_5 (by decide) q1 (fun r2 => ?_)
  refine a_if_ne C 27 dX4_isOpen_6 (by decide) (z_B2R r2) (fun q3 => ?_) (fun q3 => ?_)
  · replace hK := hK.1 q3
    refine a_iconst C dX4_isOpen_27 ?_
    exact a_zret C E dX4_isOpen_28 (Nat.le_refl _) (Nat.le_refl _) (by decide) (hpost _ _ hK)
  · replace hK := hK.2 q3
    refine a_aload_n C dX4_isOpen_9 rfl ?_
    refine a_getR C fl_X4_22_4 h_o rfl g_o_4 dX4_isOpen_10 ?_
    refine a_iconst C dX4_isOpen_13 ?_
    refine a_iload_n C dX4_isOpen_14 rfl ?_
    refine a_imul C dX4_isOpen_15 ?_
    refine a_iload_n C dX4_isOpen_16 rfl ?_
    refine a_iadd C dX4_isOpen_17 ?_
    obtain ⟨q4, hK⟩ := hK
    refine a_iald C h_o_4 dX4_isOpen_18 (by decide) q4 (fun r5 => ?_)
    refine a_iconst C dX4_isOpen_19 ?_
    refine a_icmp_ne C 27 dX4_isOpen_20 (by decide) ⟨r5, ⟨by decide, by decide⟩⟩ (fun q6 => ?_) (fun q6 => ?_)
    · replace hK := hK.1 q6
      refine a_iconst C dX4_isOpen_27 ?_
      exact a_zret C E dX4_isOpen_28 (Nat.le_refl _) (Nat.le_refl _) (by decide) (hpost _ _ hK)
    · replace hK := hK.2 q6
      refine a_iconst C dX4_isOpen_23 ?_
      refine a_goto C 28 dX4_isOpen_24 (by decide) ?_
      exact a_zret C E dX4_isOpen_28 (Nat.le_refl _) (Nat.le_refl _) (by decide) (hpost _ _ hK)

def m4_isLent (S : List zC) (o : Nat) (V : zV) (a1 : Int) (a2 : Int) (Q : Int → zV → Prop) : Prop :=
  (0 ≤ ((2 * a1) + a2) ∧ ((2 * a1) + a2) < 16) ∧ (((V (o + 5) (((2 * a1) + a2)).toNat) = (-1) → Q 0 V) ∧ (¬ (V (o + 5) (((2 * a1) + a2)).toNat) = (-1) → Q 1 V))
def t4_isLent : zT := fun as S V post => ∃ (o : Nat) (a1 : Int) (a2 : Int) (Q : Int → zV → Prop), as = [zR o, zI a1, zI a2] ∧ PSi S o ∧ m4_isLent S o V a1 a2 Q ∧ (∀ r V2, Q r V2 → post (some (zI r)) S V2)
set_option maxHeartbeats 4000000 in
set_option maxRecDepth 20000 in
theorem c4_isLent (l : Launch) : zCT l yX4_isLent cX4_isLent 3 (some .boolean) { frames := 0, cells := 0, slots := 0, locals := 0 } t4_isLent := by
  refine zCT_of (by decide) (fun as S V post h => by obtain ⟨o, a1, a2, Q, rfl, -⟩ := h; exact Nat.le_of_ble_eq_true rfl) ?_
  intro X S V as post C E hT
  obtain ⟨o, a1, a2, Q, rfl, hI, hK, hpost⟩ := hT
  obtain ⟨w_o, r_o, h_o, g_o_0, g_o_1, g_o_2, g_o_3, g_o_4, g_o_5, g_o_6, g_o_7, g_o_8, g_o_10, g_o_11⟩ := PSi_o hI
  obtain ⟨r_o_5, h_o_5⟩ := PSi_a5 hI
  show zW X S V 0 0 [some (zR o), some (zI a1), some (zI a2)] [] 0
  unfold m4_isLent at hK
  refine a_aload_n C dX4_isLent_0 rfl ?_
  refine a_getR C fl_X4_25_4 h_o rfl g_o_5 dX4_isLent_1 ?_
  refine a_iconst C dX4_isLent_4 ?_
  refine a_iload_n C dX4_isLent_5 rfl ?_
  refine a_imul C dX4_isLent_6 ?_
  refine a_iload_n C dX4_isLent_7 rfl ?_
  refine a_iadd C dX4_isLent_8 ?_
  obtain ⟨q1, hK⟩ := hK
  refine a_iald C h_o_5 dX4_isLent_9 (by decide) q1 (fun r2 => ?_)
  refine a_iconst C dX4_isLent_10 ?_
  refine a_icmp_eq C 18 dX4_isLent_11 (by decide) ⟨r2, ⟨by decide, by decide⟩⟩ (fun q3 => ?_) (fun q3 => ?_)
  · replace hK := hK.1 q3
    refine a_iconst C dX4_isLent_18 ?_
    exact a_zret C E dX4_isLent_19 (Nat.le_refl _) (Nat.le_refl _) (by decide) (hpost _ _ hK)
  · replace hK := hK.2 q3
    refine a_iconst C dX4_isLent_14 ?_
    refine a_goto C 19 dX4_isLent_15 (by decide) ?_
    exact a_zret C E dX4_isLent_19 (Nat.le_refl _) (Nat.le_refl _) (by decide) (hpost _ _ hK)

def m4_hasToDoWithSide (S : List zC) (o : Nat) (V : zV) (a1 : Int) (a2 : Int) (a3 : Int) (Q : Int → zV → Prop) : Prop :=
  (0 ≤ ((2 * a2) + a3) ∧ ((2 * a2) + a3) < 16) ∧ (inR a1) ∧ (((V (o + 4) (((2 * a2) + a3)).toNat) = a1 → Q 1 V) ∧ (¬ (V (o + 4) (((2 * a2) + a3)).toNat) = a1 → (0 ≤ ((2 * a2) + a3) ∧ ((2 * a2) + a3) < 16) ∧ ((¬ (V (o + 5) (((2 * a2) + a3)).toNat) = a1 → Q 0 V) ∧ ((V (o + 5) (((2 * a2) + a3)).toNat) = a1 → Q 1 V))))
def t4_hasToDoWithSide : zT := fun as S V post => ∃ (o : Nat) (a1 : Int) (a2 : Int) (a3 : Int) (Q : Int → zV → Prop), as = [zR o, zI a1, zI a2, zI a3] ∧ PSi S o ∧ m4_hasToDoWithSide S o V a1 a2 a3 Q ∧ (∀ r V2, Q r V2 → post (some (zI r)) S V2)
set_option maxHeartbeats 4000000 in
set_option maxRecDepth 20000 in
theorem c4_hasToDoWithSide (l : Launch) : zCT l yX4_hasToDoWithSide cX4_hasToDoWithSide 5 (some .boolean) { frames := 0, cells := 0, slots := 0, locals := 0 } t4_hasToDoWithSide := by
  refine zCT_of (by decide) (fun as S V post h => by obtain ⟨o, a1, a2, a3, Q, rfl, -⟩ := h; exact Nat.le_of_ble_eq_true rfl) ?_
  intro X S V as post C E hT
  obtain ⟨o, a1, a2, a3, Q, rfl, hI, hK, hpost⟩ := hT
  obtain ⟨w_o, r_o, h_o, g_o_0, g_o_1, g_o_2, g_o_3, g_o_4, g_o_5, g_o_6, g_o_7, g_o_8, g_o_10, g_o_11⟩ := PSi_o hI
  obtain ⟨r_o_4, h_o_4⟩ := PSi_a4 hI
  obtain ⟨r_o_5, h_o_5⟩ := PSi_a5 hI
  show zW X S V 0 0 [some (zR o), some (zI a1), some (zI a2), some (zI a3), none] [] 0
  unfold m4_hasToDoWithSide at hK
  refine a_iconst C dX4_hasToDoWithSide_0 ?_
  refine a_iload_n C dX4_hasToDoWithSide_1 rfl ?_
  refine a_imul C dX4_hasToDoWithSide_2 ?_
  refine a_iload_n C dX4_hasToDoWithSide_3 rfl ?_
  refine a_iadd C dX4_hasToDoWithSide_4 ?_
  refine a_istore C dX4_hasToDoWithSide_5 (Nat.le_of_ble_eq_true rfl) ?_
  refine a_aload_n C dX4_hasToDoWithSide_7 rfl ?_
  refine a_getR C fl_X4_22_4 h_o rfl g_o_4 dX4_hasToDoWithSide_8 ?_
  refine a_iload C dX4_hasToDoWithSide_11 rfl ?_
  obtain ⟨q1, hK⟩ := hK
  refine a_iald C h_o_4 dX4_hasToDoWithSide_13 (by decide) q1 (fun r2 => ?_)
  refine a_iload_n C dX4_hasToDoWithSide_14 rfl ?_
  obtain ⟨q3, hK⟩ := hK
  refine a_icmp_eq C 29 dX4_hasToDoWithSide_15 (by decide) ⟨r2, q3⟩ (fun q4 => ?_) (fun q4 => ?_)
  · replace hK := hK.1 q4
    refine a_iconst C dX4_hasToDoWithSide_29 ?_
    refine a_goto C 34 dX4_hasToDoWithSide_30 (by decide) ?_
    exact a_zret C E dX4_hasToDoWithSide_34 (Nat.le_refl _) (Nat.le_refl _) (by decide) (hpost _ _ hK)
  · replace hK := hK.2 q4
    refine a_aload_n C dX4_hasToDoWithSide_18 rfl ?_
    refine a_getR C fl_X4_25_4 h_o rfl g_o_5 dX4_hasToDoWithSide_19 ?_
    refine a_iload C dX4_hasToDoWithSide_22 rfl ?_
    obtain ⟨q5, hK⟩ := hK
    refine a_iald C h_o_5 dX4_hasToDoWithSide_24 (by decide) q5 (fun r6 => ?_)
    refine a_iload_n C dX4_hasToDoWithSide_25 rfl ?_
    refine a_icmp_ne C 33 dX4_hasToDoWithSide_26 (by decide) ⟨r6, q3⟩ (fun q7 => ?_) (fun q7 => ?_)
    · replace hK := hK.1 q7
      refine a_iconst C dX4_hasToDoWithSide_33 ?_
      exact a_zret C E dX4_hasToDoWithSide_34 (Nat.le_refl _) (Nat.le_refl _) (by decide) (hpost _ _ hK)
    · replace hK := hK.2 q7
      refine a_iconst C dX4_hasToDoWithSide_29 ?_
      refine a_goto C 34 dX4_hasToDoWithSide_30 (by decide) ?_
      exact a_zret C E dX4_hasToDoWithSide_34 (Nat.le_refl _) (Nat.le_refl _) (by decide) (hpost _ _ hK)

def m4_hasToDo (S : List zC) (o : Nat) (V : zV) (a1 : Int) (a2 : Int) (Q : Int → zV → Prop) : Prop :=
  m4_hasToDoWithSide S o V a1 a2 0 (fun r4 V4 => (inR r4) ∧ ((¬ r4 = 0 → Q 1 V4) ∧ (r4 = 0 → m4_hasToDoWithSide S o V4 a1 a2 1 (fun r14 V14 => (inR r14) ∧ ((r14 = 0 → Q 0 V14) ∧ (¬ r14 = 0 → Q 1 V14))))))
def t4_hasToDo : zT := fun as S V post => ∃ (o : Nat) (a1 : Int) (a2 : Int) (Q : Int → zV → Prop), as = [zR o, zI a1, zI a2] ∧ PSi S o ∧ m4_hasToDo S o V a1 a2 Q ∧ (∀ r V2, Q r V2 → post (some (zI r)) S V2)
set_option maxHeartbeats 4000000 in
set_option maxRecDepth 20000 in
theorem c4_hasToDo (l : Launch) : zCT l yX4_hasToDo cX4_hasToDo 3 (some .boolean) { frames := 1, cells := 0, slots := 0, locals := 24 } t4_hasToDo := by
  refine zCT_of (by decide) (fun as S V post h => by obtain ⟨o, a1, a2, Q, rfl, -⟩ := h; exact Nat.le_of_ble_eq_true rfl) ?_
  intro X S V as post C E hT
  obtain ⟨o, a1, a2, Q, rfl, hI, hK, hpost⟩ := hT
  obtain ⟨w_o, r_o, h_o, g_o_0, g_o_1, g_o_2, g_o_3, g_o_4, g_o_5, g_o_6, g_o_7, g_o_8, g_o_10, g_o_11⟩ := PSi_o hI
  show zW X S V 0 0 [some (zR o), some (zI a1), some (zI a2)] [] 0
  unfold m4_hasToDo at hK
  refine a_aload_n C dX4_hasToDo_0 rfl ?_
  refine a_iload_n C dX4_hasToDo_1 rfl ?_
  refine a_iload_n C dX4_hasToDo_2 rfl ?_
  refine a_iconst C dX4_hasToDo_3 ?_
  refine a_callV (as := [zI a1, zI a2, zI 0]) (rest := []) C 3 (fun l => c4_hasToDoWithSide l) h_o ⟨_, _, rfl⟩ (by decide) ml_X4_71 im_X4_hasToDoWithSide se_X4_hasToDoWithSide in_X4 co_X4_hasToDoWithSide (by decide +kernel) rfl ⟨Nat.le_of_ble_eq_true rfl, Nat.le_of_ble_eq_true rfl⟩ (Nat.le_of_ble_eq_true rfl) dX4_hasToDo_4 ⟨Nat.le_of_ble_eq_true rfl, Nat.le_of_ble_eq_true rfl⟩ ?_
  refine ⟨o, a1, a2, 0, _, rfl, hI, hK, fun r4 V4 hK => ?_⟩
  try dsimp only [Option.toList, List.cons_append, List.nil_append]
  obtain ⟨q1, hK⟩ := hK
  refine a_if_ne C 20 dX4_hasToDo_7 (by decide) q1 (fun q2 => ?_) (fun q2 => ?_)
  · replace hK := hK.1 q2
    refine a_iconst C dX4_hasToDo_20 ?_
    refine a_goto C 25 dX4_hasToDo_21 (by decide) ?_
    exact a_zret C E dX4_hasToDo_25 (Nat.le_refl _) (Nat.le_refl _) (by decide) (hpost _ _ hK)
  · replace hK := hK.2 q2
    refine a_aload_n C dX4_hasToDo_10 rfl ?_
    refine a_iload_n C dX4_hasToDo_11 rfl ?_
    refine a_iload_n C dX4_hasToDo_12 rfl ?_
    refine a_iconst C dX4_hasToDo_13 ?_
    refine a_callV (as := [zI a1, zI a2, zI 1]) (rest := []) C 3 (fun l => c4_hasToDoWithSide l) h_o ⟨_, _, rfl⟩ (by decide) ml_X4_71 im_X4_hasToDoWithSide se_X4_hasToDoWithSide in_X4 co_X4_hasToDoWithSide (by decide +kernel) rfl ⟨Nat.le_of_ble_eq_true rfl, Nat.le_of_ble_eq_true rfl⟩ (Nat.le_of_ble_eq_true rfl) dX4_hasToDo_14 ⟨Nat.le_of_ble_eq_true rfl, Nat.le_of_ble_eq_true rfl⟩ ?_
    refine ⟨o, a1, a2, 1, _, rfl, hI, hK, fun r14 V14 hK => ?_⟩
    try dsimp only [Option.toList, List.cons_append, List.nil_append]
    obtain ⟨q3, hK⟩ := hK
    refine a_if_eq C 24 dX4_hasToDo_17 (by decide) q3 (fun q4 => ?_) (fun q4 => ?_)
    · replace hK := hK.1 q4
      refine a_iconst C dX4_hasToDo_24 ?_
      exact a_zret C E dX4_hasToDo_25 (Nat.le_refl _) (Nat.le_refl _) (by decide) (hpost _ _ hK)
    · replace hK := hK.2 q4
      refine a_iconst C dX4_hasToDo_20 ?_
      refine a_goto C 25 dX4_hasToDo_21 (by decide) ?_
      exact a_zret C E dX4_hasToDo_25 (Nat.le_refl _) (Nat.le_refl _) (by decide) (hpost _ _ hK)

def m4_priceOf (S : List zC) (o : Nat) (V : zV) (a1 : Int) (a2 : Int) (Q : Int → zV → Prop) : Prop :=
  (0 ≤ a1 ∧ a1 < 8) ∧ m4_isOpen S o V a1 (1 - a2) (fun r18 V18 => (inR r18) ∧ ((r18 = 0 → Q (fpS S (a1).toNat) V18) ∧ (¬ r18 = 0 → (0 ≤ ((fpS S (a1).toNat) + 1) ∧ ((fpS S (a1).toNat) + 1) < 2147483648) ∧ Q (((fpS S (a1).toNat) + 1) / 2) V18)))
def t4_priceOf : zT := fun as S V post => ∃ (o : Nat) (a1 : Int) (a2 : Int) (Q : Int → zV → Prop), as = [zR o, zI a1, zI a2] ∧ PSi S o ∧ m4_priceOf S o V a1 a2 Q ∧ (∀ r V2, Q r V2 → post (some (zI r)) S V2)
set_option maxHeartbeats 4000000 in
set_option maxRecDepth 20000 in
theorem c4_priceOf (l : Launch) : zCT l yX4_priceOf cX4_priceOf 4 (some .int) { frames := 2, cells := 0, slots := 0, locals := 40 } t4_priceOf := by
  refine zCT_of (by decide) (fun as S V post h => by obtain ⟨o, a1, a2, Q, rfl, -⟩ := h; exact Nat.le_of_ble_eq_true rfl) ?_
  intro X S V as post C E hT
  obtain ⟨o, a1, a2, Q, rfl, hI, hK, hpost⟩ := hT
  obtain ⟨w_o, r_o, h_o, g_o_0, g_o_1, g_o_2, g_o_3, g_o_4, g_o_5, g_o_6, g_o_7, g_o_8, g_o_10, g_o_11⟩ := PSi_o hI
  obtain ⟨w_3, r_3, h_3, g_3_0, g_3_1⟩ := PSl_3 (PSi_l hI)
  show zW X S V 0 0 [some (zR o), some (zI a1), some (zI a2), none] [] 0
  unfold m4_priceOf at hK
  refine a_aload_n C dX4_priceOf_0 rfl ?_
  refine a_getR C fl_X4_50_4 h_o rfl g_o_0 dX4_priceOf_1 ?_
  refine a_getR C fl_X4_75_10 h_3 rfl g_3_0 dX4_priceOf_4 ?_
  refine a_iload_n C dX4_priceOf_7 rfl ?_
  obtain ⟨q1, hK⟩ := hK
  refine a_feud_fullPrice C (PSi_l hI) dX4_priceOf_8 q1 ml_X4_79 dX4_priceOf_9 (by decide) (by decide) ⟨Nat.le_of_ble_eq_true rfl, Nat.le_of_ble_eq_true rfl⟩ (Nat.le_of_ble_eq_true rfl) ?_
  refine a_istore_n C dX4_priceOf_12 (Nat.le_of_ble_eq_true rfl) ?_
  refine a_aload_n C dX4_priceOf_13 rfl ?_
  refine a_iload_n C dX4_priceOf_14 rfl ?_
  refine a_iconst C dX4_priceOf_15 ?_
  refine a_iload_n C dX4_priceOf_16 rfl ?_
  refine a_isub C dX4_priceOf_17 ?_
  refine a_callV (as := [zI a1, zI (1 - a2)]) (rest := []) C 2 (fun l => c4_isOpen l) h_o ⟨_, _, rfl⟩ (by decide) ml_X4_85 im_X4_isOpen se_X4_isOpen in_X4 co_X4_isOpen (by decide +kernel) rfl ⟨Nat.le_of_ble_eq_true rfl, Nat.le_of_ble_eq_true rfl⟩ (Nat.le_of_ble_eq_true rfl) dX4_priceOf_18 ⟨Nat.le_of_ble_eq_true rfl, Nat.le_of_ble_eq_true rfl⟩ ?_
  refine ⟨o, a1, (1 - a2), _, rfl, hI, hK, fun r18 V18 hK => ?_⟩
  try dsimp only [Option.toList, List.cons_append, List.nil_append]
  obtain ⟨q2, hK⟩ := hK
  refine a_if_eq C 32 dX4_priceOf_21 (by decide) q2 (fun q3 => ?_) (fun q3 => ?_)
  · replace hK := hK.1 q3
    refine a_iload_n C dX4_priceOf_32 rfl ?_
    exact a_iret C E dX4_priceOf_33 (Nat.le_refl _) (Nat.le_refl _) (hpost _ _ hK)
  · replace hK := hK.2 q3
    refine a_iload_n C dX4_priceOf_24 rfl ?_
    refine a_iconst C dX4_priceOf_25 ?_
    refine a_iadd C dX4_priceOf_26 ?_
    refine a_iconst C dX4_priceOf_27 ?_
    obtain ⟨q4, hK⟩ := hK
    refine a_idiv C dX4_priceOf_28 ⟨q4, by decide, by decide⟩ ?_
    refine a_goto C 33 dX4_priceOf_29 (by decide) ?_
    exact a_iret C E dX4_priceOf_33 (Nat.le_refl _) (Nat.le_refl _) (hpost _ _ hK)

def m4_toldPrice (S : List zC) (o : Nat) (V : zV) (a1 : Int) (a2 : Int) (Q : Int → zV → Prop) : Prop :=
  (0 ≤ a1 ∧ a1 < 8) ∧ (((V (o + 6) (a1).toNat) = 0 → m4_priceOf S o V a1 a2 (fun r16 V16 => Q r16 V16)) ∧ (¬ (V (o + 6) (a1).toNat) = 0 → Q (-1) V))
def t4_toldPrice : zT := fun as S V post => ∃ (o : Nat) (a1 : Int) (a2 : Int) (Q : Int → zV → Prop), as = [zR o, zI a1, zI a2] ∧ PSi S o ∧ m4_toldPrice S o V a1 a2 Q ∧ (∀ r V2, Q r V2 → post (some (zI r)) S V2)
set_option maxHeartbeats 4000000 in
set_option maxRecDepth 20000 in
theorem c4_toldPrice (l : Launch) : zCT l yX4_toldPrice cX4_toldPrice 3 (some .int) { frames := 3, cells := 0, slots := 0, locals := 63 } t4_toldPrice := by
  refine zCT_of (by decide) (fun as S V post h => by obtain ⟨o, a1, a2, Q, rfl, -⟩ := h; exact Nat.le_of_ble_eq_true rfl) ?_
  intro X S V as post C E hT
  obtain ⟨o, a1, a2, Q, rfl, hI, hK, hpost⟩ := hT
  obtain ⟨w_o, r_o, h_o, g_o_0, g_o_1, g_o_2, g_o_3, g_o_4, g_o_5, g_o_6, g_o_7, g_o_8, g_o_10, g_o_11⟩ := PSi_o hI
  obtain ⟨r_o_6, h_o_6⟩ := PSi_a6 hI
  show zW X S V 0 0 [some (zR o), some (zI a1), some (zI a2)] [] 0
  unfold m4_toldPrice at hK
  refine a_aload_n C dX4_toldPrice_0 rfl ?_
  refine a_getR C fl_X4_28_4 h_o rfl g_o_6 dX4_toldPrice_1 ?_
  refine a_iload_n C dX4_toldPrice_4 rfl ?_
  obtain ⟨q1, hK⟩ := hK
  refine a_zald C h_o_6 dX4_toldPrice_5 (by decide) q1 (fun r2 => ?_)
  refine a_if_eq C 13 dX4_toldPrice_6 (by decide) (z_B2R r2) (fun q3 => ?_) (fun q3 => ?_)
  · replace hK := hK.1 q3
    refine a_aload_n C dX4_toldPrice_13 rfl ?_
    refine a_iload_n C dX4_toldPrice_14 rfl ?_
    refine a_iload_n C dX4_toldPrice_15 rfl ?_
    refine a_callV (as := [zI a1, zI a2]) (rest := []) C 2 (fun l => c4_priceOf l) h_o ⟨_, _, rfl⟩ (by decide) ml_X4_89 im_X4_priceOf se_X4_priceOf in_X4 co_X4_priceOf (by decide +kernel) rfl ⟨Nat.le_of_ble_eq_true rfl, Nat.le_of_ble_eq_true rfl⟩ (Nat.le_of_ble_eq_true rfl) dX4_toldPrice_16 ⟨Nat.le_of_ble_eq_true rfl, Nat.le_of_ble_eq_true rfl⟩ ?_
    refine ⟨o, a1, a2, _, rfl, hI, hK, fun r16 V16 hK => ?_⟩
    try dsimp only [Option.toList, List.cons_append, List.nil_append]
    exact a_iret C E dX4_toldPrice_19 (Nat.le_refl _) (Nat.le_refl _) (hpost _ _ hK)
  · replace hK := hK.2 q3
    refine a_iconst C dX4_toldPrice_9 ?_
    refine a_goto C 19 dX4_toldPrice_10 (by decide) ?_
    exact a_iret C E dX4_toldPrice_19 (Nat.le_refl _) (Nat.le_refl _) (hpost _ _ hK)

def m4_canBuy (S : List zC) (o : Nat) (V : zV) (a1 : Int) (a2 : Int) (a3 : Int) (Q : Int → zV → Prop) : Prop :=
  (0 ≤ a2 ∧ a2 < 8) ∧ ((¬ (V (o + 6) (a2).toNat) = 0 → Q 0 V) ∧ ((V (o + 6) (a2).toNat) = 0 → m4_isLent S o V a2 a3 (fun r12 V12 => (inR r12) ∧ ((¬ r12 = 0 → Q 0 V12) ∧ (r12 = 0 → (0 ≤ a1 ∧ a1 < 6) ∧ (((V12 (o + 3) (a1).toNat) = 0 → Q 0 V12) ∧ (¬ (V12 (o + 3) (a1).toNat) = 0 → m4_hasToDo S o V12 a1 a2 (fun r30 V30 => (inR r30) ∧ ((¬ r30 = 0 → Q 0 V30) ∧ (r30 = 0 → (0 ≤ a1 ∧ a1 < 6) ∧ m4_priceOf S o V30 a2 a3 (fun r45 V45 => (inR r45) ∧ (((V30 (o + 1) (a1).toNat) < r45 → Q 0 V45) ∧ (r45 ≤ (V30 (o + 1) (a1).toNat) → Q 1 V45)))))))))))))
def t4_canBuy : zT := fun as S V post => ∃ (o : Nat) (a1 : Int) (a2 : Int) (a3 : Int) (Q : Int → zV → Prop), as = [zR o, zI a1, zI a2, zI a3] ∧ PSi S o ∧ m4_canBuy S o V a1 a2 a3 Q ∧ (∀ r V2, Q r V2 → post (some (zI r)) S V2)
set_option maxHeartbeats 4000000 in
set_option maxRecDepth 20000 in
theorem c4_canBuy (l : Launch) : zCT l yX4_canBuy cX4_canBuy 4 (some .boolean) { frames := 3, cells := 0, slots := 0, locals := 63 } t4_canBuy := by
  refine zCT_of (by decide) (fun as S V post h => by obtain ⟨o, a1, a2, a3, Q, rfl, -⟩ := h; exact Nat.le_of_ble_eq_true rfl) ?_
  intro X S V as post C E hT
  obtain ⟨o, a1, a2, a3, Q, rfl, hI, hK, hpost⟩ := hT
  obtain ⟨w_o, r_o, h_o, g_o_0, g_o_1, g_o_2, g_o_3, g_o_4, g_o_5, g_o_6, g_o_7, g_o_8, g_o_10, g_o_11⟩ := PSi_o hI
  obtain ⟨r_o_6, h_o_6⟩ := PSi_a6 hI
  obtain ⟨r_o_3, h_o_3⟩ := PSi_a3 hI
  obtain ⟨r_o_1, h_o_1⟩ := PSi_a1 hI
  show zW X S V 0 0 [some (zR o), some (zI a1), some (zI a2), some (zI a3)] [] 0
  unfold m4_canBuy at hK
  refine a_aload_n C dX4_canBuy_0 rfl ?_
  refine a_getR C fl_X4_28_4 h_o rfl g_o_6 dX4_canBuy_1 ?_
  refine a_iload_n C dX4_canBuy_4 rfl ?_
  obtain ⟨q1, hK⟩ := hK
  refine a_zald C h_o_6 dX4_canBuy_5 (by decide) q1 (fun r2 => ?_)
  refine a_if_ne C 55 dX4_canBuy_6 (by decide) (z_B2R r2) (fun q3 => ?_) (fun q3 => ?_)
  · replace hK := hK.1 q3
    refine a_iconst C dX4_canBuy_55 ?_
    exact a_zret C E dX4_canBuy_56 (Nat.le_refl _) (Nat.le_refl _) (by decide) (hpost _ _ hK)
  · replace hK := hK.2 q3
    refine a_aload_n C dX4_canBuy_9 rfl ?_
    refine a_iload_n C dX4_canBuy_10 rfl ?_
    refine a_iload_n C dX4_canBuy_11 rfl ?_
    refine a_callV (as := [zI a2, zI a3]) (rest := []) C 2 (fun l => c4_isLent l) h_o ⟨_, _, rfl⟩ (by decide) ml_X4_93 im_X4_isLent se_X4_isLent in_X4 co_X4_isLent (by decide +kernel) rfl ⟨Nat.le_of_ble_eq_true rfl, Nat.le_of_ble_eq_true rfl⟩ (Nat.le_of_ble_eq_true rfl) dX4_canBuy_12 ⟨Nat.le_of_ble_eq_true rfl, Nat.le_of_ble_eq_true rfl⟩ ?_
    refine ⟨o, a2, a3, _, rfl, hI, hK, fun r12 V12 hK => ?_⟩
    try dsimp only [Option.toList, List.cons_append, List.nil_append]
    obtain ⟨q4, hK⟩ := hK
    refine a_if_ne C 55 dX4_canBuy_15 (by decide) q4 (fun q5 => ?_) (fun q5 => ?_)
    · replace hK := hK.1 q5
      refine a_iconst C dX4_canBuy_55 ?_
      exact a_zret C E dX4_canBuy_56 (Nat.le_refl _) (Nat.le_refl _) (by decide) (hpost _ _ hK)
    · replace hK := hK.2 q5
      refine a_aload_n C dX4_canBuy_18 rfl ?_
      refine a_getR C fl_X4_18_4 h_o rfl g_o_3 dX4_canBuy_19 ?_
      refine a_iload_n C dX4_canBuy_22 rfl ?_
      obtain ⟨q6, hK⟩ := hK
      refine a_zald C h_o_3 dX4_canBuy_23 (by decide) q6 (fun r7 => ?_)
      refine a_if_eq C 55 dX4_canBuy_24 (by decide) (z_B2R r7) (fun q8 => ?_) (fun q8 => ?_)
      · replace hK := hK.1 q8
        refine a_iconst C dX4_canBuy_55 ?_
        exact a_zret C E dX4_canBuy_56 (Nat.le_refl _) (Nat.le_refl _) (by decide) (hpost _ _ hK)
      · replace hK := hK.2 q8
        refine a_aload_n C dX4_canBuy_27 rfl ?_
        refine a_iload_n C dX4_canBuy_28 rfl ?_
        refine a_iload_n C dX4_canBuy_29 rfl ?_
        refine a_callV (as := [zI a1, zI a2]) (rest := []) C 2 (fun l => c4_hasToDo l) h_o ⟨_, _, rfl⟩ (by decide) ml_X4_96 im_X4_hasToDo se_X4_hasToDo in_X4 co_X4_hasToDo (by decide +kernel) rfl ⟨Nat.le_of_ble_eq_true rfl, Nat.le_of_ble_eq_true rfl⟩ (Nat.le_of_ble_eq_true rfl) dX4_canBuy_30 ⟨Nat.le_of_ble_eq_true rfl, Nat.le_of_ble_eq_true rfl⟩ ?_
        refine ⟨o, a1, a2, _, rfl, hI, hK, fun r30 V30 hK => ?_⟩
        try dsimp only [Option.toList, List.cons_append, List.nil_append]
        obtain ⟨q9, hK⟩ := hK
        refine a_if_ne C 55 dX4_canBuy_33 (by decide) q9 (fun q10 => ?_) (fun q10 => ?_)
        · replace hK := hK.1 q10
          refine a_iconst C dX4_canBuy_55 ?_
          exact a_zret C E dX4_canBuy_56 (Nat.le_refl _) (Nat.le_refl _) (by decide) (hpost _ _ hK)
        · replace hK := hK.2 q10
          refine a_aload_n C dX4_canBuy_36 rfl ?_
          refine a_getR C fl_X4_9_4 h_o rfl g_o_1 dX4_canBuy_37 ?_
          refine a_iload_n C dX4_canBuy_40 rfl ?_
          obtain ⟨q11, hK⟩ := hK
          refine a_iald C h_o_1 dX4_canBuy_41 (by decide) q11 (fun r12 => ?_)
          refine a_aload_n C dX4_canBuy_42 rfl ?_
          refine a_iload_n C dX4_canBuy_43 rfl ?_
          refine a_iload_n C dX4_canBuy_44 rfl ?_
          refine a_callV (as := [zI a2, zI a3]) (rest := [zI (V30 (o + 1) (a1).toNat)]) C 2 (fun l => c4_priceOf l) h_o ⟨_, _, rfl⟩ (by decide) ml_X4_89 im_X4_priceOf se_X4_priceOf in_X4 co_X4_priceOf (by decide +kernel) rfl ⟨Nat.le_of_ble_eq_true rfl, Nat.le_of_ble_eq_true rfl⟩ (Nat.le_of_ble_eq_true rfl) dX4_canBuy_45 ⟨Nat.le_of_ble_eq_true rfl, Nat.le_of_ble_eq_true rfl⟩ ?_
          refine ⟨o, a2, a3, _, rfl, hI, hK, fun r45 V45 hK => ?_⟩
          try dsimp only [Option.toList, List.cons_append, List.nil_append]
          obtain ⟨q13, hK⟩ := hK
          refine a_icmp_lt C 55 dX4_canBuy_48 (by decide) ⟨r12, q13⟩ (fun q14 => ?_) (fun q14 => ?_)
          · replace hK := hK.1 q14
            refine a_iconst C dX4_canBuy_55 ?_
            exact a_zret C E dX4_canBuy_56 (Nat.le_refl _) (Nat.le_refl _) (by decide) (hpost _ _ hK)
          · replace hK := hK.2 q14
            refine a_iconst C dX4_canBuy_51 ?_
            refine a_goto C 56 dX4_canBuy_52 (by decide) ?_
            exact a_zret C E dX4_canBuy_56 (Nat.le_refl _) (Nat.le_refl _) (by decide) (hpost _ _ hK)

def m4_pay (S : List zC) (o : Nat) (V : zV) (a1 : Int) (a2 : Int) (Q : zV → Prop) : Prop :=
  (0 ≤ a1 ∧ a1 < 6) ∧ (inR ((V (o + 1) (a1).toNat) + a2)) ∧ (0 ≤ a1 ∧ a1 < 6) ∧ (inR (if ((V (o + 1) (a1).toNat) + a2) < 99 then ((V (o + 1) (a1).toNat) + a2) else 99)) ∧ Q (vset V (o + 1) (a1).toNat (if ((V (o + 1) (a1).toNat) + a2) < 99 then ((V (o + 1) (a1).toNat) + a2) else 99))
def t4_pay : zT := fun as S V post => ∃ (o : Nat) (a1 : Int) (a2 : Int) (Q : zV → Prop), as = [zR o, zI a1, zI a2] ∧ PSi S o ∧ m4_pay S o V a1 a2 Q ∧ (∀ V2, Q V2 → post none S V2)
set_option maxHeartbeats 4000000 in
set_option maxRecDepth 20000 in
theorem c4_pay (l : Launch) : zCT l yX4_pay cX4_pay 3 none { frames := 1, cells := 0, slots := 0, locals := 21 } t4_pay := by
  refine zCT_of (by decide) (fun as S V post h => by obtain ⟨o, a1, a2, Q, rfl, -⟩ := h; exact Nat.le_of_ble_eq_true rfl) ?_
  intro X S V as post C E hT
  obtain ⟨o, a1, a2, Q, rfl, hI, hK, hpost⟩ := hT
  obtain ⟨w_o, r_o, h_o, g_o_0, g_o_1, g_o_2, g_o_3, g_o_4, g_o_5, g_o_6, g_o_7, g_o_8, g_o_10, g_o_11⟩ := PSi_o hI
  obtain ⟨r_o_1, h_o_1⟩ := PSi_a1 hI
  show zW X S V 0 0 [some (zR o), some (zI a1), some (zI a2)] [] 0
  unfold m4_pay at hK
  refine a_aload_n C dX4_pay_0 rfl ?_
  refine a_getR C fl_X4_9_4 h_o rfl g_o_1 dX4_pay_1 ?_
  refine a_iload_n C dX4_pay_4 rfl ?_
  refine a_bipush C dX4_pay_5 (by decide) ?_
  refine a_aload_n C dX4_pay_7 rfl ?_
  refine a_getR C fl_X4_9_4 h_o rfl g_o_1 dX4_pay_8 ?_
  refine a_iload_n C dX4_pay_11 rfl ?_
  obtain ⟨q1, hK⟩ := hK
  refine a_iald C h_o_1 dX4_pay_12 (by decide) q1 (fun r2 => ?_)
  refine a_iload_n C dX4_pay_13 rfl ?_
  refine a_iadd C dX4_pay_14 ?_
  obtain ⟨q3, hK⟩ := hK
  refine a_min C ⟨⟨by decide, by decide⟩, q3⟩ ml_X4_103 sa_min in_J9 co_min (by decide) (by decide) (Nat.le_of_ble_eq_true rfl) (Nat.le_of_ble_eq_true rfl) (Nat.le_of_ble_eq_true rfl) dX4_pay_15 ?_
  obtain ⟨q4, hK⟩ := hK
  obtain ⟨q5, hK⟩ := hK
  refine a_iast C h_o_1 dX4_pay_18 (by decide) ⟨q4, q5⟩ ?_
  exact a_vret C E dX4_pay_19 (Nat.le_refl _) (Nat.le_refl _) (hpost _ hK)

def m4_sellTo (S : List zC) (o : Nat) (V : zV) (a1 : Int) (a2 : Int) (a3 : Int) (Q : Int → zV → Prop) : Prop :=
  m4_priceOf S o V a2 a3 (fun r10 V10 => (0 ≤ a1 ∧ a1 < 6) ∧ (0 ≤ a1 ∧ a1 < 6) ∧ (inR ((V10 (o + 1) (a1).toNat) - r10)) ∧ (0 ≤ ((2 * a2) + a3) ∧ ((2 * a2) + a3) < 16) ∧ ((((vset V10 (o + 1) (a1).toNat ((V10 (o + 1) (a1).toNat) - r10)) (o + 4) (((2 * a2) + a3)).toNat) = (-1) → (0 ≤ ((2 * a2) + a3) ∧ ((2 * a2) + a3) < 16) ∧ (inR a1) ∧ Q r10 (vset (vset V10 (o + 1) (a1).toNat ((V10 (o + 1) (a1).toNat) - r10)) (o + 4) (((2 * a2) + a3)).toNat a1)) ∧ (¬ ((vset V10 (o + 1) (a1).toNat ((V10 (o + 1) (a1).toNat) - r10)) (o + 4) (((2 * a2) + a3)).toNat) = (-1) → (0 ≤ ((2 * a2) + a3) ∧ ((2 * a2) + a3) < 16) ∧ m4_pay S o (vset V10 (o + 1) (a1).toNat ((V10 (o + 1) (a1).toNat) - r10)) ((vset V10 (o + 1) (a1).toNat ((V10 (o + 1) (a1).toNat) - r10)) (o + 4) (((2 * a2) + a3)).toNat) r10 (fun V47 => (0 ≤ ((2 * a2) + a3) ∧ ((2 * a2) + a3) < 16) ∧ (inR a1) ∧ Q r10 (vset V47 (o + 4) (((2 * a2) + a3)).toNat a1)))))
def t4_sellTo : zT := fun as S V post => ∃ (o : Nat) (a1 : Int) (a2 : Int) (a3 : Int) (Q : Int → zV → Prop), as = [zR o, zI a1, zI a2, zI a3] ∧ PSi S o ∧ m4_sellTo S o V a1 a2 a3 Q ∧ (∀ r V2, Q r V2 → post (some (zI r)) S V2)
set_option maxHeartbeats 4000000 in
set_option maxRecDepth 20000 in
theorem c4_sellTo (l : Launch) : zCT l yX4_sellTo cX4_sellTo 6 (some .int) { frames := 3, cells := 0, slots := 0, locals := 63 } t4_sellTo := by
  refine zCT_of (by decide) (fun as S V post h => by obtain ⟨o, a1, a2, a3, Q, rfl, -⟩ := h; exact Nat.le_of_ble_eq_true rfl) ?_
  intro X S V as post C E hT
  obtain ⟨o, a1, a2, a3, Q, rfl, hI, hK, hpost⟩ := hT
  obtain ⟨w_o, r_o, h_o, g_o_0, g_o_1, g_o_2, g_o_3, g_o_4, g_o_5, g_o_6, g_o_7, g_o_8, g_o_10, g_o_11⟩ := PSi_o hI
  obtain ⟨r_o_1, h_o_1⟩ := PSi_a1 hI
  obtain ⟨r_o_4, h_o_4⟩ := PSi_a4 hI
  show zW X S V 0 0 [some (zR o), some (zI a1), some (zI a2), some (zI a3), none, none] [] 0
  unfold m4_sellTo at hK
  refine a_iconst C dX4_sellTo_0 ?_
  refine a_iload_n C dX4_sellTo_1 rfl ?_
  refine a_imul C dX4_sellTo_2 ?_
  refine a_iload_n C dX4_sellTo_3 rfl ?_
  refine a_iadd C dX4_sellTo_4 ?_
  refine a_istore C dX4_sellTo_5 (Nat.le_of_ble_eq_true rfl) ?_
  refine a_aload_n C dX4_sellTo_7 rfl ?_
  refine a_iload_n C dX4_sellTo_8 rfl ?_
  refine a_iload_n C dX4_sellTo_9 rfl ?_
  refine a_callV (as := [zI a2, zI a3]) (rest := []) C 2 (fun l => c4_priceOf l) h_o ⟨_, _, rfl⟩ (by decide) ml_X4_89 im_X4_priceOf se_X4_priceOf in_X4 co_X4_priceOf (by decide +kernel) rfl ⟨Nat.le_of_ble_eq_true rfl, Nat.le_of_ble_eq_true rfl⟩ (Nat.le_of_ble_eq_true rfl) dX4_sellTo_10 ⟨Nat.le_of_ble_eq_true rfl, Nat.le_of_ble_eq_true rfl⟩ ?_
  refine ⟨o, a2, a3, _, rfl, hI, hK, fun r10 V10 hK => ?_⟩
  try dsimp only [Option.toList, List.cons_append, List.nil_append]
  refine a_istore C dX4_sellTo_13 (Nat.le_of_ble_eq_true rfl) ?_
  refine a_aload_n C dX4_sellTo_15 rfl ?_
  refine a_getR C fl_X4_9_4 h_o rfl g_o_1 dX4_sellTo_16 ?_
  refine a_iload_n C dX4_sellTo_19 rfl ?_
  refine a_dup2 C dX4_sellTo_20 rfl rfl ?_
  obtain ⟨q1, hK⟩ := hK
  refine a_iald C h_o_1 dX4_sellTo_21 (by decide) q1 (fun r2 => ?_)
  refine a_iload C dX4_sellTo_22 rfl ?_
  refine a_isub C dX4_sellTo_24 ?_
  obtain ⟨q3, hK⟩ := hK
  obtain ⟨q4, hK⟩ := hK
  refine a_iast C h_o_1 dX4_sellTo_25 (by decide) ⟨q3, q4⟩ ?_
  refine a_aload_n C dX4_sellTo_26 rfl ?_
  refine a_getR C fl_X4_22_4 h_o rfl g_o_4 dX4_sellTo_27 ?_
  refine a_iload C dX4_sellTo_30 rfl ?_
  obtain ⟨q5, hK⟩ := hK
  refine a_iald C h_o_4 dX4_sellTo_32 (by decide) q5 (fun r6 => ?_)
  refine a_iconst C dX4_sellTo_33 ?_
  refine a_icmp_eq C 50 dX4_sellTo_34 (by decide) ⟨r6, ⟨by decide, by decide⟩⟩ (fun q7 => ?_) (fun q7 => ?_)
  · replace hK := hK.1 q7
    refine a_aload_n C dX4_sellTo_50 rfl ?_
    refine a_getR C fl_X4_22_4 h_o rfl g_o_4 dX4_sellTo_51 ?_
    refine a_iload C dX4_sellTo_54 rfl ?_
    refine a_iload_n C dX4_sellTo_56 rfl ?_
    obtain ⟨q8, hK⟩ := hK
    obtain ⟨q9, hK⟩ := hK
    refine a_iast C h_o_4 dX4_sellTo_57 (by decide) ⟨q8, q9⟩ ?_
    refine a_iload C dX4_sellTo_58 rfl ?_
    exact a_iret C E dX4_sellTo_60 (Nat.le_refl _) (Nat.le_refl _) (hpost _ _ hK)
  · replace hK := hK.2 q7
    refine a_aload_n C dX4_sellTo_37 rfl ?_
    refine a_aload_n C dX4_sellTo_38 rfl ?_
    refine a_getR C fl_X4_22_4 h_o rfl g_o_4 dX4_sellTo_39 ?_
    refine a_iload C dX4_sellTo_42 rfl ?_
    obtain ⟨q10, hK⟩ := hK
    refine a_iald C h_o_4 dX4_sellTo_44 (by decide) q10 (fun r11 => ?_)
    refine a_iload C dX4_sellTo_45 rfl ?_
    refine a_callV (as := [zI ((vset V10 (o + 1) (a1).toNat ((V10 (o + 1) (a1).toNat) - r10)) (o + 4) (((2 * a2) + a3)).toNat), zI r10]) (rest := []) C 2 (fun l => c4_pay l) h_o ⟨_, _, rfl⟩ (by decide) ml_X4_99 im_X4_pay se_X4_pay in_X4 co_X4_pay (by decide +kernel) rfl ⟨Nat.le_of_ble_eq_true rfl, Nat.le_of_ble_eq_true rfl⟩ (Nat.le_of_ble_eq_true rfl) dX4_sellTo_47 ⟨Nat.le_of_ble_eq_true rfl, Nat.le_of_ble_eq_true rfl⟩ ?_
    refine ⟨o, ((vset V10 (o + 1) (a1).toNat ((V10 (o + 1) (a1).toNat) - r10)) (o + 4) (((2 * a2) + a3)).toNat), r10, _, rfl, hI, hK, fun V47 hK => ?_⟩
    try dsimp only [Option.toList, List.cons_append, List.nil_append]
    refine a_aload_n C dX4_sellTo_50 rfl ?_
    refine a_getR C fl_X4_22_4 h_o rfl g_o_4 dX4_sellTo_51 ?_
    refine a_iload C dX4_sellTo_54 rfl ?_
    refine a_iload_n C dX4_sellTo_56 rfl ?_
    obtain ⟨q12, hK⟩ := hK
    obtain ⟨q13, hK⟩ := hK
    refine a_iast C h_o_4 dX4_sellTo_57 (by decide) ⟨q12, q13⟩ ?_
    refine a_iload C dX4_sellTo_58 rfl ?_
    exact a_iret C E dX4_sellTo_60 (Nat.le_refl _) (Nat.le_refl _) (hpost _ _ hK)

def m4_getOn (S : List zC) (o : Nat) (V : zV) (a1 : Int) (a2 : Int) (a3 : Int) (Q : Int → zV → Prop) : Prop :=
  m4_onSide S o V a2 a3 (fun r3 V3 => (inR r3) ∧ (inR a1) ∧ ((¬ r3 = a1 → m4_canBuy S o V3 a1 a2 a3 (fun r16 V16 => (inR r16) ∧ ((r16 = 0 → Q (-1) V16) ∧ (¬ r16 = 0 → m4_sellTo S o V16 a1 a2 a3 (fun r26 V26 => Q r26 V26))))) ∧ (r3 = a1 → Q 0 V3)))
def t4_getOn : zT := fun as S V post => ∃ (o : Nat) (a1 : Int) (a2 : Int) (a3 : Int) (Q : Int → zV → Prop), as = [zR o, zI a1, zI a2, zI a3] ∧ PSi S o ∧ m4_getOn S o V a1 a2 a3 Q ∧ (∀ r V2, Q r V2 → post (some (zI r)) S V2)
set_option maxHeartbeats 4000000 in
set_option maxRecDepth 20000 in
theorem c4_getOn (l : Launch) : zCT l yX4_getOn cX4_getOn 4 (some .int) { frames := 4, cells := 0, slots := 0, locals := 88 } t4_getOn := by
  refine zCT_of (by decide) (fun as S V post h => by obtain ⟨o, a1, a2, a3, Q, rfl, -⟩ := h; exact Nat.le_of_ble_eq_true rfl) ?_
  intro X S V as post C E hT
  obtain ⟨o, a1, a2, a3, Q, rfl, hI, hK, hpost⟩ := hT
  obtain ⟨w_o, r_o, h_o, g_o_0, g_o_1, g_o_2, g_o_3, g_o_4, g_o_5, g_o_6, g_o_7, g_o_8, g_o_10, g_o_11⟩ := PSi_o hI
  show zW X S V 0 0 [some (zR o), some (zI a1), some (zI a2), some (zI a3)] [] 0
  unfold m4_getOn at hK
  refine a_aload_n C dX4_getOn_0 rfl ?_
  refine a_iload_n C dX4_getOn_1 rfl ?_
  refine a_iload_n C dX4_getOn_2 rfl ?_
  refine a_callV (as := [zI a2, zI a3]) (rest := []) C 2 (fun l => c4_onSide l) h_o ⟨_, _, rfl⟩ (by decide) ml_X4_108 im_X4_onSide se_X4_onSide in_X4 co_X4_onSide (by decide +kernel) rfl ⟨Nat.le_of_ble_eq_true rfl, Nat.le_of_ble_eq_true rfl⟩ (Nat.le_of_ble_eq_true rfl) dX4_getOn_3 ⟨Nat.le_of_ble_eq_true rfl, Nat.le_of_ble_eq_true rfl⟩ ?_
  refine ⟨o, a2, a3, _, rfl, hI, hK, fun r3 V3 hK => ?_⟩
  try dsimp only [Option.toList, List.cons_append, List.nil_append]
  refine a_iload_n C dX4_getOn_6 rfl ?_
  obtain ⟨q1, hK⟩ := hK
  obtain ⟨q2, hK⟩ := hK
  refine a_icmp_ne C 12 dX4_getOn_7 (by decide) ⟨q1, q2⟩ (fun q3 => ?_) (fun q3 => ?_)
  · replace hK := hK.1 q3
    refine a_aload_n C dX4_getOn_12 rfl ?_
    refine a_iload_n C dX4_getOn_13 rfl ?_
    refine a_iload_n C dX4_getOn_14 rfl ?_
    refine a_iload_n C dX4_getOn_15 rfl ?_
    refine a_callV (as := [zI a1, zI a2, zI a3]) (rest := []) C 3 (fun l => c4_canBuy l) h_o ⟨_, _, rfl⟩ (by decide) ml_X4_111 im_X4_canBuy se_X4_canBuy in_X4 co_X4_canBuy (by decide +kernel) rfl ⟨Nat.le_of_ble_eq_true rfl, Nat.le_of_ble_eq_true rfl⟩ (Nat.le_of_ble_eq_true rfl) dX4_getOn_16 ⟨Nat.le_of_ble_eq_true rfl, Nat.le_of_ble_eq_true rfl⟩ ?_
    refine ⟨o, a1, a2, a3, _, rfl, hI, hK, fun r16 V16 hK => ?_⟩
    try dsimp only [Option.toList, List.cons_append, List.nil_append]
    obtain ⟨q4, hK⟩ := hK
    refine a_if_eq C 32 dX4_getOn_19 (by decide) q4 (fun q5 => ?_) (fun q5 => ?_)
    · replace hK := hK.1 q5
      refine a_iconst C dX4_getOn_32 ?_
      exact a_iret C E dX4_getOn_33 (Nat.le_refl _) (Nat.le_refl _) (hpost _ _ hK)
    · replace hK := hK.2 q5
      refine a_aload_n C dX4_getOn_22 rfl ?_
      refine a_iload_n C dX4_getOn_23 rfl ?_
      refine a_iload_n C dX4_getOn_24 rfl ?_
      refine a_iload_n C dX4_getOn_25 rfl ?_
      refine a_callV (as := [zI a1, zI a2, zI a3]) (rest := []) C 3 (fun l => c4_sellTo l) h_o ⟨_, _, rfl⟩ (by decide) ml_X4_114 im_X4_sellTo se_X4_sellTo in_X4 co_X4_sellTo (by decide +kernel) rfl ⟨Nat.le_of_ble_eq_true rfl, Nat.le_of_ble_eq_true rfl⟩ (Nat.le_of_ble_eq_true rfl) dX4_getOn_26 ⟨Nat.le_of_ble_eq_true rfl, Nat.le_of_ble_eq_true rfl⟩ ?_
      refine ⟨o, a1, a2, a3, _, rfl, hI, hK, fun r26 V26 hK => ?_⟩
      try dsimp only [Option.toList, List.cons_append, List.nil_append]
      refine a_goto C 33 dX4_getOn_29 (by decide) ?_
      exact a_iret C E dX4_getOn_33 (Nat.le_refl _) (Nat.le_refl _) (hpost _ _ hK)
  · replace hK := hK.2 q3
    refine a_iconst C dX4_getOn_10 ?_
    exact a_iret C E dX4_getOn_11 (Nat.le_refl _) (Nat.le_refl _) (hpost _ _ hK)

def m4_canLend (S : List zC) (o : Nat) (V : zV) (a1 : Int) (a2 : Int) (a3 : Int) (Q : Int → zV → Prop) : Prop :=
  (0 ≤ a1 ∧ a1 < 8) ∧ ((¬ (V (o + 6) (a1).toNat) = 0 → Q 0 V) ∧ ((V (o + 6) (a1).toNat) = 0 → m4_isOpen S o V a1 a2 (fun r12 V12 => (inR r12) ∧ ((¬ r12 = 0 → Q 0 V12) ∧ (r12 = 0 → m4_isLent S o V12 a1 a2 (fun r21 V21 => (inR r21) ∧ ((¬ r21 = 0 → Q 0 V21) ∧ (r21 = 0 → (0 ≤ a1 ∧ a1 < 8) ∧ (inR (leS S (a1).toNat)) ∧ (((leS S (a1).toNat) = 0 → Q 0 V21) ∧ (¬ (leS S (a1).toNat) = 0 → (0 ≤ a3 ∧ a3 < 6) ∧ (((V21 (o + 3) (a3).toNat) = 0 → Q 0 V21) ∧ (¬ (V21 (o + 3) (a3).toNat) = 0 → m4_hasToDo S o V21 a3 a1 (fun r54 V54 => (inR r54) ∧ ((¬ r54 = 0 → Q 0 V54) ∧ (r54 = 0 → Q 1 V54)))))))))))))))
def t4_canLend : zT := fun as S V post => ∃ (o : Nat) (a1 : Int) (a2 : Int) (a3 : Int) (Q : Int → zV → Prop), as = [zR o, zI a1, zI a2, zI a3] ∧ PSi S o ∧ m4_canLend S o V a1 a2 a3 Q ∧ (∀ r V2, Q r V2 → post (some (zI r)) S V2)
set_option maxHeartbeats 4000000 in
set_option maxRecDepth 20000 in
theorem c4_canLend (l : Launch) : zCT l yX4_canLend cX4_canLend 4 (some .boolean) { frames := 2, cells := 0, slots := 0, locals := 46 } t4_canLend := by
  refine zCT_of (by decide) (fun as S V post h => by obtain ⟨o, a1, a2, a3, Q, rfl, -⟩ := h; exact Nat.le_of_ble_eq_true rfl) ?_
  intro X S V as post C E hT
  obtain ⟨o, a1, a2, a3, Q, rfl, hI, hK, hpost⟩ := hT
  obtain ⟨w_o, r_o, h_o, g_o_0, g_o_1, g_o_2, g_o_3, g_o_4, g_o_5, g_o_6, g_o_7, g_o_8, g_o_10, g_o_11⟩ := PSi_o hI
  obtain ⟨r_o_6, h_o_6⟩ := PSi_a6 hI
  obtain ⟨w_3, r_3, h_3, g_3_0, g_3_1⟩ := PSl_3 (PSi_l hI)
  obtain ⟨r_o_3, h_o_3⟩ := PSi_a3 hI
  show zW X S V 0 0 [some (zR o), some (zI a1), some (zI a2), some (zI a3)] [] 0
  unfold m4_canLend at hK
  refine a_aload_n C dX4_canLend_0 rfl ?_
  refine a_getR C fl_X4_28_4 h_o rfl g_o_6 dX4_canLend_1 ?_
  refine a_iload_n C dX4_canLend_4 rfl ?_
  obtain ⟨q1, hK⟩ := hK
  refine a_zald C h_o_6 dX4_canLend_5 (by decide) q1 (fun r2 => ?_)
  refine a_if_ne C 64 dX4_canLend_6 (by decide) (z_B2R r2) (fun q3 => ?_) (fun q3 => ?_)
  · replace hK := hK.1 q3
    refine a_iconst C dX4_canLend_64 ?_
    exact a_zret C E dX4_canLend_65 (Nat.le_refl _) (Nat.le_refl _) (by decide) (hpost _ _ hK)
  · replace hK := hK.2 q3
    refine a_aload_n C dX4_canLend_9 rfl ?_
    refine a_iload_n C dX4_canLend_10 rfl ?_
    refine a_iload_n C dX4_canLend_11 rfl ?_
    refine a_callV (as := [zI a1, zI a2]) (rest := []) C 2 (fun l => c4_isOpen l) h_o ⟨_, _, rfl⟩ (by decide) ml_X4_85 im_X4_isOpen se_X4_isOpen in_X4 co_X4_isOpen (by decide +kernel) rfl ⟨Nat.le_of_ble_eq_true rfl, Nat.le_of_ble_eq_true rfl⟩ (Nat.le_of_ble_eq_true rfl) dX4_canLend_12 ⟨Nat.le_of_ble_eq_true rfl, Nat.le_of_ble_eq_true rfl⟩ ?_
    refine ⟨o, a1, a2, _, rfl, hI, hK, fun r12 V12 hK => ?_⟩
    try dsimp only [Option.toList, List.cons_append, List.nil_append]
    obtain ⟨q4, hK⟩ := hK
    refine a_if_ne C 64 dX4_canLend_15 (by decide) q4 (fun q5 => ?_) (fun q5 => ?_)
    · replace hK := hK.1 q5
      refine a_iconst C dX4_canLend_64 ?_
      exact a_zret C E dX4_canLend_65 (Nat.le_refl _) (Nat.le_refl _) (by decide) (hpost _ _ hK)
    · replace hK := hK.2 q5
      refine a_aload_n C dX4_canLend_18 rfl ?_
      refine a_iload_n C dX4_canLend_19 rfl ?_
      refine a_iload_n C dX4_canLend_20 rfl ?_
      refine a_callV (as := [zI a1, zI a2]) (rest := []) C 2 (fun l => c4_isLent l) h_o ⟨_, _, rfl⟩ (by decide) ml_X4_93 im_X4_isLent se_X4_isLent in_X4 co_X4_isLent (by decide +kernel) rfl ⟨Nat.le_of_ble_eq_true rfl, Nat.le_of_ble_eq_true rfl⟩ (Nat.le_of_ble_eq_true rfl) dX4_canLend_21 ⟨Nat.le_of_ble_eq_true rfl, Nat.le_of_ble_eq_true rfl⟩ ?_
      refine ⟨o, a1, a2, _, rfl, hI, hK, fun r21 V21 hK => ?_⟩
      try dsimp only [Option.toList, List.cons_append, List.nil_append]
      obtain ⟨q6, hK⟩ := hK
      refine a_if_ne C 64 dX4_canLend_24 (by decide) q6 (fun q7 => ?_) (fun q7 => ?_)
      · replace hK := hK.1 q7
        refine a_iconst C dX4_canLend_64 ?_
        exact a_zret C E dX4_canLend_65 (Nat.le_refl _) (Nat.le_refl _) (by decide) (hpost _ _ hK)
      · replace hK := hK.2 q7
        refine a_aload_n C dX4_canLend_27 rfl ?_
        refine a_getR C fl_X4_50_4 h_o rfl g_o_0 dX4_canLend_28 ?_
        refine a_getR C fl_X4_75_10 h_3 rfl g_3_0 dX4_canLend_31 ?_
        refine a_iload_n C dX4_canLend_34 rfl ?_
        obtain ⟨q8, hK⟩ := hK
        refine a_feud_isLendable C (PSi_l hI) dX4_canLend_35 q8 ml_X4_118 dX4_canLend_36 (by decide) (by decide) ⟨Nat.le_of_ble_eq_true rfl, Nat.le_of_ble_eq_true rfl⟩ (Nat.le_of_ble_eq_true rfl) ?_
        obtain ⟨q9, hK⟩ := hK
        refine a_if_eq C 64 dX4_canLend_39 (by decide) q9 (fun q10 => ?_) (fun q10 => ?_)
        · replace hK := hK.1 q10
          refine a_iconst C dX4_canLend_64 ?_
          exact a_zret C E dX4_canLend_65 (Nat.le_refl _) (Nat.le_refl _) (by decide) (hpost _ _ hK)
        · replace hK := hK.2 q10
          refine a_aload_n C dX4_canLend_42 rfl ?_
          refine a_getR C fl_X4_18_4 h_o rfl g_o_3 dX4_canLend_43 ?_
          refine a_iload_n C dX4_canLend_46 rfl ?_
          obtain ⟨q11, hK⟩ := hK
          refine a_zald C h_o_3 dX4_canLend_47 (by decide) q11 (fun r12 => ?_)
          refine a_if_eq C 64 dX4_canLend_48 (by decide) (z_B2R r12) (fun q13 => ?_) (fun q13 => ?_)
          · replace hK := hK.1 q13
            refine a_iconst C dX4_canLend_64 ?_
            exact a_zret C E dX4_canLend_65 (Nat.le_refl _) (Nat.le_refl _) (by decide) (hpost _ _ hK)
          · replace hK := hK.2 q13
            refine a_aload_n C dX4_canLend_51 rfl ?_
            refine a_iload_n C dX4_canLend_52 rfl ?_
            refine a_iload_n C dX4_canLend_53 rfl ?_
            refine a_callV (as := [zI a3, zI a1]) (rest := []) C 2 (fun l => c4_hasToDo l) h_o ⟨_, _, rfl⟩ (by decide) ml_X4_96 im_X4_hasToDo se_X4_hasToDo in_X4 co_X4_hasToDo (by decide +kernel) rfl ⟨Nat.le_of_ble_eq_true rfl, Nat.le_of_ble_eq_true rfl⟩ (Nat.le_of_ble_eq_true rfl) dX4_canLend_54 ⟨Nat.le_of_ble_eq_true rfl, Nat.le_of_ble_eq_true rfl⟩ ?_
            refine ⟨o, a3, a1, _, rfl, hI, hK, fun r54 V54 hK => ?_⟩
            try dsimp only [Option.toList, List.cons_append, List.nil_append]
            obtain ⟨q14, hK⟩ := hK
            refine a_if_ne C 64 dX4_canLend_57 (by decide) q14 (fun q15 => ?_) (fun q15 => ?_)
            · replace hK := hK.1 q15
              refine a_iconst C dX4_canLend_64 ?_
              exact a_zret C E dX4_canLend_65 (Nat.le_refl _) (Nat.le_refl _) (by decide) (hpost _ _ hK)
            · replace hK := hK.2 q15
              refine a_iconst C dX4_canLend_60 ?_
              refine a_goto C 65 dX4_canLend_61 (by decide) ?_
              exact a_zret C E dX4_canLend_65 (Nat.le_refl _) (Nat.le_refl _) (by decide) (hpost _ _ hK)

def m4_canStrike_J28 (S : List zC) (o : Nat) (Q : Int → zV → Prop) (a1 : Int) (s0 : Int) (s1 : Int) (V : zV) : Prop :=
  (0 ≤ a1 ∧ a1 < 8) ∧ ((¬ (V (o + 6) (a1).toNat) = 0 → Q 0 V) ∧ ((V (o + 6) (a1).toNat) = 0 → m4_isLent S o V a1 0 (fun r42 V42 => (inR r42) ∧ ((¬ r42 = 0 → Q 0 V42) ∧ (r42 = 0 → m4_isLent S o V42 a1 1 (fun r51 V51 => (inR r51) ∧ ((¬ r51 = 0 → Q 0 V51) ∧ (r51 = 0 → (0 ≤ a1 ∧ a1 < 8) ∧ (inR (s1 + s0)) ∧ (inR (moS S (a1).toNat)) ∧ (((moS S (a1).toNat) < (s1 + s0) → Q 0 V51) ∧ ((s1 + s0) ≤ (moS S (a1).toNat) → Q 1 V51))))))))))
def m4_canStrike_J14 (S : List zC) (o : Nat) (Q : Int → zV → Prop) (a1 : Int) (s0 : Int) (V : zV) : Prop :=
  m4_isOpen S o V a1 1 (fun r17 V17 => (inR r17) ∧ ((r17 = 0 → m4_canStrike_J28 S o Q a1 0 s0 V17) ∧ (¬ r17 = 0 → m4_canStrike_J28 S o Q a1 1 s0 V17)))
def m4_canStrike (S : List zC) (o : Nat) (V : zV) (a1 : Int) (Q : Int → zV → Prop) : Prop :=
  m4_isOpen S o V a1 0 (fun r3 V3 => (inR r3) ∧ ((r3 = 0 → m4_canStrike_J14 S o Q a1 0 V3) ∧ (¬ r3 = 0 → m4_canStrike_J14 S o Q a1 1 V3)))
def t4_canStrike : zT := fun as S V post => ∃ (o : Nat) (a1 : Int) (Q : Int → zV → Prop), as = [zR o, zI a1] ∧ PSi S o ∧ m4_canStrike S o V a1 Q ∧ (∀ r V2, Q r V2 → post (some (zI r)) S V2)
set_option maxHeartbeats 4000000 in
set_option maxRecDepth 20000 in
theorem c4_canStrike (l : Launch) : zCT l yX4_canStrike cX4_canStrike 3 (some .boolean) { frames := 1, cells := 0, slots := 0, locals := 22 } t4_canStrike := by
  refine zCT_of (by decide) (fun as S V post h => by obtain ⟨o, a1, Q, rfl, -⟩ := h; exact Nat.le_of_ble_eq_true rfl) ?_
  intro X S V as post C E hT
  obtain ⟨o, a1, Q, rfl, hI, hK, hpost⟩ := hT
  obtain ⟨w_o, r_o, h_o, g_o_0, g_o_1, g_o_2, g_o_3, g_o_4, g_o_5, g_o_6, g_o_7, g_o_8, g_o_10, g_o_11⟩ := PSi_o hI
  obtain ⟨r_o_6, h_o_6⟩ := PSi_a6 hI
  obtain ⟨w_3, r_3, h_3, g_3_0, g_3_1⟩ := PSl_3 (PSi_l hI)
  show zW X S V 0 0 [some (zR o), some (zI a1), none] [] 0
  unfold m4_canStrike at hK
  have J14 : ∀ (a1 : Int) (s0 : Int) (V : zV), m4_canStrike_J14 S o Q a1 s0 V → zW X S V 0 0 [some (zR o), some (zI a1), none] [zI s0] 14 := by
    intro a1 s0 V hK
    unfold m4_canStrike_J14 at hK
    have J28 : ∀ (a1 : Int) (s0 : Int) (s1 : Int) (V : zV), m4_canStrike_J28 S o Q a1 s0 s1 V → zW X S V 0 0 [some (zR o), some (zI a1), none] [zI s0, zI s1] 28 := by
      intro a1 s0 s1 V hK
      unfold m4_canStrike_J28 at hK
      refine a_iadd C dX4_canStrike_28 ?_
      refine a_istore_n C dX4_canStrike_29 (Nat.le_of_ble_eq_true rfl) ?_
      refine a_aload_n C dX4_canStrike_30 rfl ?_
      refine a_getR C fl_X4_28_4 h_o rfl g_o_6 dX4_canStrike_31 ?_
      refine a_iload_n C dX4_canStrike_34 rfl ?_
      obtain ⟨q36, hK⟩ := hK
      refine a_zald C h_o_6 dX4_canStrike_35 (by decide) q36 (fun r37 => ?_)
      refine a_if_ne C 77 dX4_canStrike_36 (by decide) (z_B2R r37) (fun q38 => ?_) (fun q38 => ?_)
      · replace hK := hK.1 q38
        refine a_iconst C dX4_canStrike_77 ?_
        exact a_zret C E dX4_canStrike_78 (Nat.le_refl _) (Nat.le_refl _) (by decide) (hpost _ _ hK)
      · replace hK := hK.2 q38
        refine a_aload_n C dX4_canStrike_39 rfl ?_
        refine a_iload_n C dX4_canStrike_40 rfl ?_
        refine a_iconst C dX4_canStrike_41 ?_
        refine a_callV (as := [zI a1, zI 0]) (rest := []) C 2 (fun l => c4_isLent l) h_o ⟨_, _, rfl⟩ (by decide) ml_X4_93 im_X4_isLent se_X4_isLent in_X4 co_X4_isLent (by decide +kernel) rfl ⟨Nat.le_of_ble_eq_true rfl, Nat.le_of_ble_eq_true rfl⟩ (Nat.le_of_ble_eq_true rfl) dX4_canStrike_42 ⟨Nat.le_of_ble_eq_true rfl, Nat.le_of_ble_eq_true rfl⟩ ?_
        refine ⟨o, a1, 0, _, rfl, hI, hK, fun r42 V42 hK => ?_⟩
        try dsimp only [Option.toList, List.cons_append, List.nil_append]
        obtain ⟨q39, hK⟩ := hK
        refine a_if_ne C 77 dX4_canStrike_45 (by decide) q39 (fun q40 => ?_) (fun q40 => ?_)
        · replace hK := hK.1 q40
          refine a_iconst C dX4_canStrike_77 ?_
          exact a_zret C E dX4_canStrike_78 (Nat.le_refl _) (Nat.le_refl _) (by decide) (hpost _ _ hK)
        · replace hK := hK.2 q40
          refine a_aload_n C dX4_canStrike_48 rfl ?_
          refine a_iload_n C dX4_canStrike_49 rfl ?_
          refine a_iconst C dX4_canStrike_50 ?_
          refine a_callV (as := [zI a1, zI 1]) (rest := []) C 2 (fun l => c4_isLent l) h_o ⟨_, _, rfl⟩ (by decide) ml_X4_93 im_X4_isLent se_X4_isLent in_X4 co_X4_isLent (by decide +kernel) rfl ⟨Nat.le_of_ble_eq_true rfl, Nat.le_of_ble_eq_true rfl⟩ (Nat.le_of_ble_eq_true rfl) dX4_canStrike_51 ⟨Nat.le_of_ble_eq_true rfl, Nat.le_of_ble_eq_true rfl⟩ ?_
          refine ⟨o, a1, 1, _, rfl, hI, hK, fun r51 V51 hK => ?_⟩
          try dsimp only [Option.toList, List.cons_append, List.nil_append]
          obtain ⟨q41, hK⟩ := hK
          refine a_if_ne C 77 dX4_canStrike_54 (by decide) q41 (fun q42 => ?_) (fun q42 => ?_)
          · replace hK := hK.1 q42
            refine a_iconst C dX4_canStrike_77 ?_
            exact a_zret C E dX4_canStrike_78 (Nat.le_refl _) (Nat.le_refl _) (by decide) (hpost _ _ hK)
          · replace hK := hK.2 q42
            refine a_iload_n C dX4_canStrike_57 rfl ?_
            refine a_aload_n C dX4_canStrike_58 rfl ?_
            refine a_getR C fl_X4_50_4 h_o rfl g_o_0 dX4_canStrike_59 ?_
            refine a_getR C fl_X4_75_10 h_3 rfl g_3_0 dX4_canStrike_62 ?_
            refine a_iload_n C dX4_canStrike_65 rfl ?_
            obtain ⟨q43, hK⟩ := hK
            refine a_feud_mostOpenAtPeace C (PSi_l hI) dX4_canStrike_66 q43 ml_X4_122 dX4_canStrike_67 (by decide) (by decide) ⟨Nat.le_of_ble_eq_true rfl, Nat.le_of_ble_eq_true rfl⟩ (Nat.le_of_ble_eq_true rfl) ?_
            obtain ⟨q44, hK⟩ := hK
            obtain ⟨q45, hK⟩ := hK
            refine a_icmp_gt C 77 dX4_canStrike_70 (by decide) ⟨q44, q45⟩ (fun q46 => ?_) (fun q46 => ?_)
            · replace hK := hK.1 q46
              refine a_iconst C dX4_canStrike_77 ?_
              exact a_zret C E dX4_canStrike_78 (Nat.le_refl _) (Nat.le_refl _) (by decide) (hpost _ _ hK)
            · replace hK := hK.2 q46
              refine a_iconst C dX4_canStrike_73 ?_
              refine a_goto C 78 dX4_canStrike_74 (by decide) ?_
              exact a_zret C E dX4_canStrike_78 (Nat.le_refl _) (Nat.le_refl _) (by decide) (hpost _ _ hK)
    refine a_aload_n C dX4_canStrike_14 rfl ?_
    refine a_iload_n C dX4_canStrike_15 rfl ?_
    refine a_iconst C dX4_canStrike_16 ?_
    refine a_callV (as := [zI a1, zI 1]) (rest := [zI s0]) C 2 (fun l => c4_isOpen l) h_o ⟨_, _, rfl⟩ (by decide) ml_X4_85 im_X4_isOpen se_X4_isOpen in_X4 co_X4_isOpen (by decide +kernel) rfl ⟨Nat.le_of_ble_eq_true rfl, Nat.le_of_ble_eq_true rfl⟩ (Nat.le_of_ble_eq_true rfl) dX4_canStrike_17 ⟨Nat.le_of_ble_eq_true rfl, Nat.le_of_ble_eq_true rfl⟩ ?_
    refine ⟨o, a1, 1, _, rfl, hI, hK, fun r17 V17 hK => ?_⟩
    try dsimp only [Option.toList, List.cons_append, List.nil_append]
    obtain ⟨q47, hK⟩ := hK
    refine a_if_eq C 27 dX4_canStrike_20 (by decide) q47 (fun q48 => ?_) (fun q48 => ?_)
    · replace hK := hK.1 q48
      refine a_iconst C dX4_canStrike_27 ?_
      exact a_ls (lsub_s rfl (lsub_s rfl (lsub_n lsub_0))) (J28 a1 0 s0 _ hK)
    · replace hK := hK.2 q48
      refine a_iconst C dX4_canStrike_23 ?_
      refine a_goto C 28 dX4_canStrike_24 (by decide) ?_
      exact a_ls (lsub_s rfl (lsub_s rfl (lsub_n lsub_0))) (J28 a1 1 s0 _ hK)
  refine a_aload_n C dX4_canStrike_0 rfl ?_
  refine a_iload_n C dX4_canStrike_1 rfl ?_
  refine a_iconst C dX4_canStrike_2 ?_
  refine a_callV (as := [zI a1, zI 0]) (rest := []) C 2 (fun l => c4_isOpen l) h_o ⟨_, _, rfl⟩ (by decide) ml_X4_85 im_X4_isOpen se_X4_isOpen in_X4 co_X4_isOpen (by decide +kernel) rfl ⟨Nat.le_of_ble_eq_true rfl, Nat.le_of_ble_eq_true rfl⟩ (Nat.le_of_ble_eq_true rfl) dX4_canStrike_3 ⟨Nat.le_of_ble_eq_true rfl, Nat.le_of_ble_eq_true rfl⟩ ?_
  refine ⟨o, a1, 0, _, rfl, hI, hK, fun r3 V3 hK => ?_⟩
  try dsimp only [Option.toList, List.cons_append, List.nil_append]
  obtain ⟨q49, hK⟩ := hK
  refine a_if_eq C 13 dX4_canStrike_6 (by decide) q49 (fun q50 => ?_) (fun q50 => ?_)
  · replace hK := hK.1 q50
    refine a_iconst C dX4_canStrike_13 ?_
    exact a_ls (lsub_s rfl (lsub_s rfl (lsub_n lsub_0))) (J14 a1 0 _ hK)
  · replace hK := hK.2 q50
    refine a_iconst C dX4_canStrike_9 ?_
    refine a_goto C 14 dX4_canStrike_10 (by decide) ?_
    exact a_ls (lsub_s rfl (lsub_s rfl (lsub_n lsub_0))) (J14 a1 1 _ hK)

def m4_strike (S : List zC) (o : Nat) (V : zV) (a1 : Int) (Q : zV → Prop) : Prop :=
  (0 ≤ a1 ∧ a1 < 8) ∧ (0 ≤ (2 * a1) ∧ (2 * a1) < 16) ∧ (0 ≤ ((2 * a1) + 1) ∧ ((2 * a1) + 1) < 16) ∧ Q (vset (vset (vset V (o + 6) (a1).toNat 1) (o + 4) ((2 * a1)).toNat (-1)) (o + 4) (((2 * a1) + 1)).toNat (-1))
def t4_strike : zT := fun as S V post => ∃ (o : Nat) (a1 : Int) (Q : zV → Prop), as = [zR o, zI a1] ∧ PSi S o ∧ m4_strike S o V a1 Q ∧ (∀ V2, Q V2 → post none S V2)
set_option maxHeartbeats 4000000 in
set_option maxRecDepth 20000 in
theorem c4_strike (l : Launch) : zCT l yX4_strike cX4_strike 2 none { frames := 0, cells := 0, slots := 0, locals := 0 } t4_strike := by
  refine zCT_of (by decide) (fun as S V post h => by obtain ⟨o, a1, Q, rfl, -⟩ := h; exact Nat.le_of_ble_eq_true rfl) ?_
  intro X S V as post C E hT
  obtain ⟨o, a1, Q, rfl, hI, hK, hpost⟩ := hT
  obtain ⟨w_o, r_o, h_o, g_o_0, g_o_1, g_o_2, g_o_3, g_o_4, g_o_5, g_o_6, g_o_7, g_o_8, g_o_10, g_o_11⟩ := PSi_o hI
  obtain ⟨r_o_6, h_o_6⟩ := PSi_a6 hI
  obtain ⟨r_o_4, h_o_4⟩ := PSi_a4 hI
  show zW X S V 0 0 [some (zR o), some (zI a1)] [] 0
  unfold m4_strike at hK
  refine a_aload_n C dX4_strike_0 rfl ?_
  refine a_getR C fl_X4_28_4 h_o rfl g_o_6 dX4_strike_1 ?_
  refine a_iload_n C dX4_strike_4 rfl ?_
  refine a_iconst C dX4_strike_5 ?_
  obtain ⟨q1, hK⟩ := hK
  refine a_zast C h_o_6 dX4_strike_6 (by decide) ⟨q1, (by decide)⟩ ?_
  refine a_aload_n C dX4_strike_7 rfl ?_
  refine a_getR C fl_X4_22_4 h_o rfl g_o_4 dX4_strike_8 ?_
  refine a_iconst C dX4_strike_11 ?_
  refine a_iload_n C dX4_strike_12 rfl ?_
  refine a_imul C dX4_strike_13 ?_
  refine a_iconst C dX4_strike_14 ?_
  obtain ⟨q2, hK⟩ := hK
  refine a_iast C h_o_4 dX4_strike_15 (by decide) ⟨q2, ⟨by decide, by decide⟩⟩ ?_
  refine a_aload_n C dX4_strike_16 rfl ?_
  refine a_getR C fl_X4_22_4 h_o rfl g_o_4 dX4_strike_17 ?_
  refine a_iconst C dX4_strike_20 ?_
  refine a_iload_n C dX4_strike_21 rfl ?_
  refine a_imul C dX4_strike_22 ?_
  refine a_iconst C dX4_strike_23 ?_
  refine a_iadd C dX4_strike_24 ?_
  refine a_iconst C dX4_strike_25 ?_
  obtain ⟨q3, hK⟩ := hK
  refine a_iast C h_o_4 dX4_strike_26 (by decide) ⟨q3, ⟨by decide, by decide⟩⟩ ?_
  exact a_vret C E dX4_strike_27 (Nat.le_refl _) (Nat.le_refl _) (hpost _ hK)

def m4_endLoansOf_J28 (S : List zC) (o : Nat) (k2 : Int → Int → zV → Prop) (Q : zV → Prop) (a1 : Int) (a2 : Int) (V : zV) : Prop :=
  (0 ≤ a2 ∧ a2 < 16) ∧ k2 a1 (a2 + 1) (vset V (o + 5) (a2).toNat (-1))
def m4_endLoansOf_L2 (S : List zC) (o : Nat) (Q : zV → Prop) : Nat → Int → Int → zV → Prop
  | 0 => fun _ _ _ => False
  | n + 1 => fun a1 a2 V => (inR a2) ∧ ((16 ≤ a2 → Q V) ∧ (a2 < 16 → (0 ≤ a2 ∧ a2 < 16) ∧ (inR a1) ∧ (((V (o + 5) (a2).toNat) = a1 → m4_endLoansOf_J28 S o (m4_endLoansOf_L2 S o Q n) Q a1 a2 V) ∧ (¬ (V (o + 5) (a2).toNat) = a1 → (0 ≤ a2 ∧ a2 < 16) ∧ ((¬ (V (o + 4) (a2).toNat) = a1 → m4_endLoansOf_L2 S o Q n a1 (a2 + 1) V) ∧ ((V (o + 4) (a2).toNat) = a1 → m4_endLoansOf_J28 S o (m4_endLoansOf_L2 S o Q n) Q a1 a2 V))))))
def m4_endLoansOf (S : List zC) (o : Nat) (V : zV) (a1 : Int) (Q : zV → Prop) : Prop :=
  ∃ nn23, m4_endLoansOf_L2 S o Q nn23 a1 0 V
def t4_endLoansOf : zT := fun as S V post => ∃ (o : Nat) (a1 : Int) (Q : zV → Prop), as = [zR o, zI a1] ∧ PSi S o ∧ m4_endLoansOf S o V a1 Q ∧ (∀ V2, Q V2 → post none S V2)
set_option maxHeartbeats 4000000 in
set_option maxRecDepth 20000 in
theorem c4_endLoansOf (l : Launch) : zCT l yX4_endLoansOf cX4_endLoansOf 3 none { frames := 0, cells := 0, slots := 0, locals := 0 } t4_endLoansOf := by
  refine zCT_of (by decide) (fun as S V post h => by obtain ⟨o, a1, Q, rfl, -⟩ := h; exact Nat.le_of_ble_eq_true rfl) ?_
  intro X S V as post C E hT
  obtain ⟨o, a1, Q, rfl, hI, hK, hpost⟩ := hT
  obtain ⟨w_o, r_o, h_o, g_o_0, g_o_1, g_o_2, g_o_3, g_o_4, g_o_5, g_o_6, g_o_7, g_o_8, g_o_10, g_o_11⟩ := PSi_o hI
  obtain ⟨r_o_5, h_o_5⟩ := PSi_a5 hI
  obtain ⟨r_o_4, h_o_4⟩ := PSi_a4 hI
  show zW X S V 0 0 [some (zR o), some (zI a1), none] [] 0
  unfold m4_endLoansOf at hK
  have L2 : ∀ (n : Nat) (a1 : Int) (a2 : Int) (V : zV), m4_endLoansOf_L2 S o Q n a1 a2 V → zW X S V 0 0 [some (zR o), some (zI a1), some (zI a2)] [] 2 := by
    intro n2
    induction n2 with
    | zero => intro _ _ _ hK; exact hK.elim
    | succ n2 ih2 =>
      intro a1 a2 V hK
      unfold m4_endLoansOf_L2 at hK
      refine a_iload_n C dX4_endLoansOf_2 rfl ?_
      refine a_bipush C dX4_endLoansOf_3 (by decide) ?_
      obtain ⟨q12, hK⟩ := hK
      refine a_icmp_ge C 41 dX4_endLoansOf_5 (by decide) ⟨q12, ⟨by decide, by decide⟩⟩ (fun q13 => ?_) (fun q13 => ?_)
      · replace hK := hK.1 q13
        exact a_vret C E dX4_endLoansOf_41 (Nat.le_refl _) (Nat.le_refl _) (hpost _ hK)
      · replace hK := hK.2 q13
        have J28 : ∀ (a1 : Int) (a2 : Int) (V : zV), m4_endLoansOf_J28 S o (m4_endLoansOf_L2 S o Q n2) Q a1 a2 V → zW X S V 0 0 [some (zR o), some (zI a1), some (zI a2)] [] 28 := by
          intro a1 a2 V hK
          unfold m4_endLoansOf_J28 at hK
          refine a_aload_n C dX4_endLoansOf_28 rfl ?_
          refine a_getR C fl_X4_25_4 h_o rfl g_o_5 dX4_endLoansOf_29 ?_
          refine a_iload_n C dX4_endLoansOf_32 rfl ?_
          refine a_iconst C dX4_endLoansOf_33 ?_
          obtain ⟨q15, hK⟩ := hK
          refine a_iast C h_o_5 dX4_endLoansOf_34 (by decide) ⟨q15, ⟨by decide, by decide⟩⟩ ?_
          refine a_iinc C dX4_endLoansOf_35 rfl (Nat.le_of_ble_eq_true rfl) ?_
          refine a_goto C 2 dX4_endLoansOf_38 (by decide) ?_
          exact a_ls (lsub_s rfl (lsub_s rfl (lsub_s rfl lsub_0))) (ih2 a1 (a2 + 1) _ hK)
        refine a_aload_n C dX4_endLoansOf_8 rfl ?_
        refine a_getR C fl_X4_25_4 h_o rfl g_o_5 dX4_endLoansOf_9 ?_
        refine a_iload_n C dX4_endLoansOf_12 rfl ?_
        obtain ⟨q16, hK⟩ := hK
        refine a_iald C h_o_5 dX4_endLoansOf_13 (by decide) q16 (fun r17 => ?_)
        refine a_iload_n C dX4_endLoansOf_14 rfl ?_
        obtain ⟨q18, hK⟩ := hK
        refine a_icmp_eq C 28 dX4_endLoansOf_15 (by decide) ⟨r17, q18⟩ (fun q19 => ?_) (fun q19 => ?_)
        · replace hK := hK.1 q19
          exact a_ls (lsub_s rfl (lsub_s rfl (lsub_s rfl lsub_0))) (J28 a1 a2 _ hK)
        · replace hK := hK.2 q19
          refine a_aload_n C dX4_endLoansOf_18 rfl ?_
          refine a_getR C fl_X4_22_4 h_o rfl g_o_4 dX4_endLoansOf_19 ?_
          refine a_iload_n C dX4_endLoansOf_22 rfl ?_
          obtain ⟨q20, hK⟩ := hK
          refine a_iald C h_o_4 dX4_endLoansOf_23 (by decide) q20 (fun r21 => ?_)
          refine a_iload_n C dX4_endLoansOf_24 rfl ?_
          refine a_icmp_ne C 35 dX4_endLoansOf_25 (by decide) ⟨r21, q18⟩ (fun q22 => ?_) (fun q22 => ?_)
          · replace hK := hK.1 q22
            refine a_iinc C dX4_endLoansOf_35 rfl (Nat.le_of_ble_eq_true rfl) ?_
            refine a_goto C 2 dX4_endLoansOf_38 (by decide) ?_
            exact a_ls (lsub_s rfl (lsub_s rfl (lsub_s rfl lsub_0))) (ih2 a1 (a2 + 1) _ hK)
          · replace hK := hK.2 q22
            exact a_ls (lsub_s rfl (lsub_s rfl (lsub_s rfl lsub_0))) (J28 a1 a2 _ hK)
  refine a_iconst C dX4_endLoansOf_0 ?_
  refine a_istore_n C dX4_endLoansOf_1 (Nat.le_of_ble_eq_true rfl) ?_
  obtain ⟨nn23, hK⟩ := hK
  exact a_ls (lsub_s rfl (lsub_s rfl (lsub_s rfl lsub_0))) (L2 nn23 a1 0 _ hK)

def m4_inheritorOf_L14 (S : List zC) (o : Nat) (Q : Int → zV → Prop) : Nat → Int → Int → Int → zV → Prop
  | 0 => fun _ _ _ _ => False
  | n + 1 => fun a2 a3 a4 V => (inR a4) ∧ ((6 ≤ a4 → Q (-1) V) ∧ (a4 < 6 → (inR a3) ∧ ((a3 = (-1) → Q (-1) V) ∧ (¬ a3 = (-1) → (inR (zand (zshr a2 a3) 1)) ∧ ((¬ (zand (zshr a2 a3) 1) = 1 → (0 ≤ a3 ∧ a3 < 6) ∧ (((V (o + 3) (a3).toNat) = 0 → (0 ≤ a3 ∧ a3 < 6) ∧ m4_inheritorOf_L14 S o Q n (zor a2 (zshl 1 a3)) (V (o + 2) (a3).toNat) (a4 + 1) V) ∧ (¬ (V (o + 3) (a3).toNat) = 0 → Q a3 V))) ∧ ((zand (zshr a2 a3) 1) = 1 → Q (-1) V))))))
def m4_inheritorOf (S : List zC) (o : Nat) (V : zV) (a1 : Int) (Q : Int → zV → Prop) : Prop :=
  (0 ≤ a1 ∧ a1 < 6) ∧ ∃ nn25, m4_inheritorOf_L14 S o Q nn25 (zshl 1 a1) (V (o + 2) (a1).toNat) 0 V
def t4_inheritorOf : zT := fun as S V post => ∃ (o : Nat) (a1 : Int) (Q : Int → zV → Prop), as = [zR o, zI a1] ∧ PSi S o ∧ m4_inheritorOf S o V a1 Q ∧ (∀ r V2, Q r V2 → post (some (zI r)) S V2)
set_option maxHeartbeats 4000000 in
set_option maxRecDepth 20000 in
theorem c4_inheritorOf (l : Launch) : zCT l yX4_inheritorOf cX4_inheritorOf 5 (some .int) { frames := 0, cells := 0, slots := 0, locals := 0 } t4_inheritorOf := by
  refine zCT_of (by decide) (fun as S V post h => by obtain ⟨o, a1, Q, rfl, -⟩ := h; exact Nat.le_of_ble_eq_true rfl) ?_
  intro X S V as post C E hT
  obtain ⟨o, a1, Q, rfl, hI, hK, hpost⟩ := hT
  obtain ⟨w_o, r_o, h_o, g_o_0, g_o_1, g_o_2, g_o_3, g_o_4, g_o_5, g_o_6, g_o_7, g_o_8, g_o_10, g_o_11⟩ := PSi_o hI
  obtain ⟨r_o_3, h_o_3⟩ := PSi_a3 hI
  obtain ⟨r_o_2, h_o_2⟩ := PSi_a2 hI
  show zW X S V 0 0 [some (zR o), some (zI a1), none, none, none] [] 0
  unfold m4_inheritorOf at hK
  have L14 : ∀ (n : Nat) (a2 : Int) (a3 : Int) (a4 : Int) (V : zV), m4_inheritorOf_L14 S o Q n a2 a3 a4 V → zW X S V 0 0 [some (zR o), none, some (zI a2), some (zI a3), some (zI a4)] [] 14 := by
    intro n14
    induction n14 with
    | zero => intro _ _ _ _ hK; exact hK.elim
    | succ n14 ih14 =>
      intro a2 a3 a4 V hK
      unfold m4_inheritorOf_L14 at hK
      refine a_iload C dX4_inheritorOf_14 rfl ?_
      refine a_bipush C dX4_inheritorOf_16 (by decide) ?_
      obtain ⟨q12, hK⟩ := hK
      refine a_icmp_ge C 67 dX4_inheritorOf_18 (by decide) ⟨q12, ⟨by decide, by decide⟩⟩ (fun q13 => ?_) (fun q13 => ?_)
      · replace hK := hK.1 q13
        refine a_iconst C dX4_inheritorOf_67 ?_
        exact a_iret C E dX4_inheritorOf_68 (Nat.le_refl _) (Nat.le_refl _) (hpost _ _ hK)
      · replace hK := hK.2 q13
        refine a_iload_n C dX4_inheritorOf_21 rfl ?_
        refine a_iconst C dX4_inheritorOf_22 ?_
        obtain ⟨q14, hK⟩ := hK
        refine a_icmp_eq C 35 dX4_inheritorOf_23 (by decide) ⟨q14, ⟨by decide, by decide⟩⟩ (fun q15 => ?_) (fun q15 => ?_)
        · replace hK := hK.1 q15
          refine a_iconst C dX4_inheritorOf_35 ?_
          exact a_iret C E dX4_inheritorOf_36 (Nat.le_refl _) (Nat.le_refl _) (hpost _ _ hK)
        · replace hK := hK.2 q15
          refine a_iload_n C dX4_inheritorOf_26 rfl ?_
          refine a_iload_n C dX4_inheritorOf_27 rfl ?_
          refine a_ishr C dX4_inheritorOf_28 ?_
          refine a_iconst C dX4_inheritorOf_29 ?_
          refine a_iand C dX4_inheritorOf_30 ?_
          refine a_iconst C dX4_inheritorOf_31 ?_
          obtain ⟨q16, hK⟩ := hK
          refine a_icmp_ne C 37 dX4_inheritorOf_32 (by decide) ⟨q16, ⟨by decide, by decide⟩⟩ (fun q17 => ?_) (fun q17 => ?_)
          · replace hK := hK.1 q17
            refine a_aload_n C dX4_inheritorOf_37 rfl ?_
            refine a_getR C fl_X4_18_4 h_o rfl g_o_3 dX4_inheritorOf_38 ?_
            refine a_iload_n C dX4_inheritorOf_41 rfl ?_
            obtain ⟨q18, hK⟩ := hK
            refine a_zald C h_o_3 dX4_inheritorOf_42 (by decide) q18 (fun r19 => ?_)
            refine a_if_eq C 48 dX4_inheritorOf_43 (by decide) (z_B2R r19) (fun q20 => ?_) (fun q20 => ?_)
            · replace hK := hK.1 q20
              refine a_iload_n C dX4_inheritorOf_48 rfl ?_
              refine a_iconst C dX4_inheritorOf_49 ?_
              refine a_iload_n C dX4_inheritorOf_50 rfl ?_
              refine a_ishl C dX4_inheritorOf_51 ?_
              refine a_ior C dX4_inheritorOf_52 ?_
              refine a_istore_n C dX4_inheritorOf_53 (Nat.le_of_ble_eq_true rfl) ?_
              refine a_aload_n C dX4_inheritorOf_54 rfl ?_
              refine a_getR C fl_X4_15_4 h_o rfl g_o_2 dX4_inheritorOf_55 ?_
              refine a_iload_n C dX4_inheritorOf_58 rfl ?_
              obtain ⟨q21, hK⟩ := hK
              refine a_iald C h_o_2 dX4_inheritorOf_59 (by decide) q21 (fun r22 => ?_)
              refine a_istore_n C dX4_inheritorOf_60 (Nat.le_of_ble_eq_true rfl) ?_
              refine a_iinc C dX4_inheritorOf_61 rfl (Nat.le_of_ble_eq_true rfl) ?_
              refine a_goto C 14 dX4_inheritorOf_64 (by decide) ?_
              exact a_ls (lsub_s rfl (lsub_n (lsub_s rfl (lsub_s rfl (lsub_s rfl lsub_0))))) (ih14 (zor a2 (zshl 1 a3)) (V (o + 2) (a3).toNat) (a4 + 1) _ hK)
            · replace hK := hK.2 q20
              refine a_iload_n C dX4_inheritorOf_46 rfl ?_
              exact a_iret C E dX4_inheritorOf_47 (Nat.le_refl _) (Nat.le_refl _) (hpost _ _ hK)
          · replace hK := hK.2 q17
            refine a_iconst C dX4_inheritorOf_35 ?_
            exact a_iret C E dX4_inheritorOf_36 (Nat.le_refl _) (Nat.le_refl _) (hpost _ _ hK)
  refine a_iconst C dX4_inheritorOf_0 ?_
  refine a_iload_n C dX4_inheritorOf_1 rfl ?_
  refine a_ishl C dX4_inheritorOf_2 ?_
  refine a_istore_n C dX4_inheritorOf_3 (Nat.le_of_ble_eq_true rfl) ?_
  refine a_aload_n C dX4_inheritorOf_4 rfl ?_
  refine a_getR C fl_X4_15_4 h_o rfl g_o_2 dX4_inheritorOf_5 ?_
  refine a_iload_n C dX4_inheritorOf_8 rfl ?_
  obtain ⟨q23, hK⟩ := hK
  refine a_iald C h_o_2 dX4_inheritorOf_9 (by decide) q23 (fun r24 => ?_)
  refine a_istore_n C dX4_inheritorOf_10 (Nat.le_of_ble_eq_true rfl) ?_
  refine a_iconst C dX4_inheritorOf_11 ?_
  refine a_istore C dX4_inheritorOf_12 (Nat.le_of_ble_eq_true rfl) ?_
  obtain ⟨nn25, hK⟩ := hK
  exact a_ls (lsub_s rfl (lsub_n (lsub_s rfl (lsub_s rfl (lsub_s rfl lsub_0))))) (L14 nn25 (zshl 1 a1) (V (o + 2) (a1).toNat) 0 _ hK)
