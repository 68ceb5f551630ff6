def m6_pairUp_L14 (S : List zC) (o1 : Nat) (Q : zV → Prop) : Nat → Int → zV → Prop
  | 0 => fun _ _ => False
  | n + 1 => fun a2 V => (inR a2) ∧ ((64 ≤ a2 → (0 ≤ (((V 48 (63 : Int).toNat) + 4) - 1) ∧ (((V 48 (63 : Int).toNat) + 4) - 1) < 2147483648) ∧ (inR ((((V 48 (63 : Int).toNat) + 4) - 1) / 4)) ∧ (inR ((4 * ((vset V 47 2 ((((V 48 (63 : Int).toNat) + 4) - 1) / 4)) 47 2)) - (V 48 (63 : Int).toNat))) ∧ Q (vset (vset V 47 2 ((((V 48 (63 : Int).toNat) + 4) - 1) / 4)) 47 3 ((4 * ((vset V 47 2 ((((V 48 (63 : Int).toNat) + 4) - 1) / 4)) 47 2)) - (V 48 (63 : Int).toNat)))) ∧ (a2 < 64 → m6_bestOf S V a2 (fun r27 V27 => (0 ≤ a2 ∧ a2 < 64) ∧ (inR r27) ∧ m6_pairUp_L14 S o1 Q n (a2 + 1) (vset V27 48 (a2).toNat r27))))
def m6_pairUp (S : List zC) (o1 : Nat) (V : zV)  (Q : zV → Prop) : Prop :=
  m6_reckonGains S o1 V (fun V2 => ∃ nn19, m6_pairUp_L14 S o1 Q nn19 1 (vset V2 48 (0 : Int).toNat 0))
def t6_pairUp : zT := fun as S V post => ∃ (o1 : Nat) (Q : zV → Prop), as = [zR 47, zR o1] ∧ PSk S ∧ PSi S o1 ∧ m6_pairUp S o1 V Q ∧ (∀ V2, Q V2 → post none S V2)
set_option maxHeartbeats 4000000 in
set_option maxRecDepth 20000 in
theorem c6_pairUp (l : Launch) : zCT l yX6_pairUp cX6_pairUp 3 none { frames := 4, cells := 0, slots := 0, locals := 96 } t6_pairUp := by
  refine zCT_of (by decide) (fun as S V post h => by obtain ⟨o1, Q, rfl, -⟩ := h; exact Nat.le_of_ble_eq_true rfl) ?_
  intro X S V as post C E hT
  obtain ⟨o1, Q, rfl, hKk, hI1, hK, hpost⟩ := hT
  obtain ⟨w_47, r_47, h_47, g_47_0, g_47_1⟩ := PSk_47 hKk
  obtain ⟨r_48, h_48⟩ := PSk_48 hKk
  show zW X S V 0 0 [some (zR 47), some (zR o1), none] [] 0
  unfold m6_pairUp at hK
  have L14 : ∀ (n : Nat) (a2 : Int) (V : zV), m6_pairUp_L14 S o1 Q n a2 V → zW X S V 0 0 [some (zR 47), none, some (zI a2)] [] 14 := by
    intro n14
    induction n14 with
    | zero => intro _ _ hK; exact hK.elim
    | succ n14 ih14 =>
      intro a2 V hK
      unfold m6_pairUp_L14 at hK
      refine a_iload_n C dX6_pairUp_14 rfl ?_
      refine a_bipush C dX6_pairUp_15 (by decide) ?_
      obtain ⟨q10, hK⟩ := hK
      refine a_icmp_ge C 37 dX6_pairUp_17 (by decide) ⟨q10, ⟨by decide, by decide⟩⟩ (fun q11 => ?_) (fun q11 => ?_)
      · replace hK := hK.1 q11
        refine a_aload_n C dX6_pairUp_37 rfl ?_
        refine a_getR C fl_X6_9_6 h_47 rfl g_47_0 dX6_pairUp_38 ?_
        refine a_bipush C dX6_pairUp_41 (by decide) ?_
        refine a_iald C h_48 dX6_pairUp_43 (by decide) ⟨by decide, by decide⟩ (fun r12 => ?_)
        refine a_istore_n C dX6_pairUp_44 (Nat.le_of_ble_eq_true rfl) ?_
        refine a_aload_n C dX6_pairUp_45 rfl ?_
        refine a_iload_n C dX6_pairUp_46 rfl ?_
        refine a_iconst C dX6_pairUp_47 ?_
        refine a_iadd C dX6_pairUp_48 ?_
        refine a_iconst C dX6_pairUp_49 ?_
        refine a_isub C dX6_pairUp_50 ?_
        refine a_iconst C dX6_pairUp_51 ?_
        obtain ⟨q13, hK⟩ := hK
        refine a_idiv C dX6_pairUp_52 ⟨q13, by decide, by decide⟩ ?_
        obtain ⟨q14, hK⟩ := hK
        refine a_putI C fl_X6_18_6 (Or.inl rfl) h_47 rfl dX6_pairUp_53 ⟨q14, fun q => by cases q⟩ ?_
        refine a_aload_n C dX6_pairUp_56 rfl ?_
        refine a_iconst C dX6_pairUp_57 ?_
        refine a_aload_n C dX6_pairUp_58 rfl ?_
        refine a_getI C fl_X6_18_6 h_47 rfl dX6_pairUp_59 (fun r15 => ?_)
        refine a_imul C dX6_pairUp_62 ?_
        refine a_iload_n C dX6_pairUp_63 rfl ?_
        refine a_isub C dX6_pairUp_64 ?_
        obtain ⟨q16, hK⟩ := hK
        refine a_putI C fl_X6_22_6 (Or.inl rfl) h_47 rfl dX6_pairUp_65 ⟨q16, fun q => by cases q⟩ ?_
        exact a_vret C E dX6_pairUp_68 (Nat.le_refl _) (Nat.le_refl _) (hpost _ hK)
      · replace hK := hK.2 q11
        refine a_aload_n C dX6_pairUp_20 rfl ?_
        refine a_getR C fl_X6_9_6 h_47 rfl g_47_0 dX6_pairUp_21 ?_
        refine a_iload_n C dX6_pairUp_24 rfl ?_
        refine a_aload_n C dX6_pairUp_25 rfl ?_
        refine a_iload_n C dX6_pairUp_26 rfl ?_
        refine a_callV (as := [zI a2]) (rest := [zI a2, zR 48]) C 1 (fun l => c6_bestOf l) h_47 ⟨_, _, rfl⟩ (by decide) ml_X6_29 im_X6_bestOf se_X6_bestOf in_X6 co_X6_bestOf (by decide +kernel) rfl ⟨Nat.le_of_ble_eq_true rfl, Nat.le_of_ble_eq_true rfl⟩ (Nat.le_of_ble_eq_true rfl) dX6_pairUp_27 ⟨Nat.le_of_ble_eq_true rfl, Nat.le_of_ble_eq_true rfl⟩ ?_
        refine ⟨a2, _, rfl, hKk, hK, fun r27 V27 hK => ?_⟩
        try dsimp only [Option.toList, List.cons_append, List.nil_append]
        obtain ⟨q17, hK⟩ := hK
        obtain ⟨q18, hK⟩ := hK
        refine a_iast C h_48 dX6_pairUp_30 (by decide) ⟨q17, q18⟩ ?_
        refine a_iinc C dX6_pairUp_31 rfl (Nat.le_of_ble_eq_true rfl) ?_
        refine a_goto C 14 dX6_pairUp_34 (by decide) ?_
        exact a_ls (lsub_s rfl (lsub_n (lsub_s rfl lsub_0))) (ih14 (a2 + 1) _ hK)
  refine a_aload_n C dX6_pairUp_0 rfl ?_
  refine a_aload_n C dX6_pairUp_1 rfl ?_
  refine a_callV (as := [zR o1]) (rest := []) C 1 (fun l => c6_reckonGains l) h_47 ⟨_, _, rfl⟩ (by decide) ml_X6_25 im_X6_reckonGains se_X6_reckonGains in_X6 co_X6_reckonGains (by decide +kernel) rfl ⟨Nat.le_of_ble_eq_true rfl, Nat.le_of_ble_eq_true rfl⟩ (Nat.le_of_ble_eq_true rfl) dX6_pairUp_2 ⟨Nat.le_of_ble_eq_true rfl, Nat.le_of_ble_eq_true rfl⟩ ?_
  refine ⟨o1, _, rfl, hKk, hI1, hK, fun V2 hK => ?_⟩
  try dsimp only [Option.toList, List.cons_append, List.nil_append]
  refine a_aload_n C dX6_pairUp_5 rfl ?_
  refine a_getR C fl_X6_9_6 h_47 rfl g_47_0 dX6_pairUp_6 ?_
  refine a_iconst C dX6_pairUp_9 ?_
  refine a_iconst C dX6_pairUp_10 ?_
  refine a_iast C h_48 dX6_pairUp_11 (by decide) ⟨⟨by decide, by decide⟩, ⟨by decide, by decide⟩⟩ ?_
  refine a_iconst C dX6_pairUp_12 ?_
  refine a_istore_n C dX6_pairUp_13 (Nat.le_of_ble_eq_true rfl) ?_
  obtain ⟨nn19, hK⟩ := hK
  exact a_ls (lsub_s rfl (lsub_n (lsub_s rfl lsub_0))) (L14 nn19 1 _ hK)

def mj7_fill_L6 (c0 : Nat) (n0 : Int) (Q : zV → Prop) : Nat → Int → Int → Int → zV → Prop
  | 0 => fun _ _ _ _ => False
  | n + 1 => fun a1 a3 a4 V => (inR a3) ∧ (inR a4) ∧ ((a4 ≤ a3 → Q V) ∧ (a3 < a4 → (0 ≤ a3 ∧ a3 < n0) ∧ (inL a1) ∧ mj7_fill_L6 c0 n0 Q n a1 (a3 + 1) a4 (vset V c0 (a3).toNat a1)))
def mj7_fill_d0a16 (c0 : Nat) (n0 : Int) (V : zV) (a1 : Int) (Q : zV → Prop) : Prop :=
  ∃ nn11, mj7_fill_L6 c0 n0 Q nn11 a1 0 n0 V
def tj7_fill_d0a16 : zT := fun as S V post => ∃ (c0 : Nat) (n0 : Int) (a1 : Int) (Q : zV → Prop), as = [zR c0, zJ a1] ∧ ((∃ rf : Nat → Option Nat, S[c0]? = some (15, n0, rf)) ∧ 0 ≤ n0 ∧ n0 ≤ 2147483647) ∧ mj7_fill_d0a16 c0 n0 V a1 Q ∧ (∀ V2, Q V2 → post none S V2)
set_option maxHeartbeats 4000000 in
set_option maxRecDepth 20000 in
theorem cj7_fill_d0a16 (l : Launch) : zCT l yJ7_fill_d0a16 cJ7_fill_d0a16 5 none { frames := 0, cells := 0, slots := 0, locals := 0 } tj7_fill_d0a16 := by
  refine zCT_of (by decide) (fun as S V post h => by obtain ⟨c0, n0, a1, Q, rfl, -⟩ := h; exact Nat.le_of_ble_eq_true rfl) ?_
  intro X S V as post C E hT
  obtain ⟨c0, n0, a1, Q, rfl, hA0, hK, hpost⟩ := hT
  obtain ⟨⟨r_c0, h_c0⟩, h0_c0, h1_c0⟩ := hA0
  show zW X S V 0 0 [some (zR c0), some (zJ a1), none, none, none] [] 0
  unfold mj7_fill_d0a16 at hK
  have L6 : ∀ (n : Nat) (a1 : Int) (a3 : Int) (a4 : Int) (V : zV), mj7_fill_L6 c0 n0 Q n a1 a3 a4 V → zW X S V 0 0 [some (zR c0), some (zJ a1), none, some (zI a3), some (zI a4)] [] 6 := by
    intro n6
    induction n6 with
    | zero => intro _ _ _ _ hK; exact hK.elim
    | succ n6 ih6 =>
      intro a1 a3 a4 V hK
      unfold mj7_fill_L6 at hK
      refine a_iload_n C dJ7_fill_d0a16_6 rfl ?_
      refine a_iload C dJ7_fill_d0a16_7 rfl ?_
      obtain ⟨q6, hK⟩ := hK
      obtain ⟨q7, hK⟩ := hK
      refine a_icmp_ge C 22 dJ7_fill_d0a16_9 (by decide) ⟨q6, q7⟩ (fun q8 => ?_) (fun q8 => ?_)
      · replace hK := hK.1 q8
        exact a_vret C E dJ7_fill_d0a16_22 (Nat.le_refl _) (Nat.le_refl _) (hpost _ hK)
      · replace hK := hK.2 q8
        refine a_aload_n C dJ7_fill_d0a16_12 rfl ?_
        refine a_iload_n C dJ7_fill_d0a16_13 rfl ?_
        refine a_lload_n C dJ7_fill_d0a16_14 rfl ?_
        obtain ⟨q9, hK⟩ := hK
        obtain ⟨q10, hK⟩ := hK
        refine a_last C h_c0 dJ7_fill_d0a16_15 h1_c0 ⟨q9, q10⟩ ?_
        refine a_iinc C dJ7_fill_d0a16_16 rfl (Nat.le_of_ble_eq_true rfl) ?_
        refine a_goto C 6 dJ7_fill_d0a16_19 (by decide) ?_
        exact a_ls (lsub_s rfl (lsub_s rfl (lsub_n (lsub_s rfl (lsub_s rfl lsub_0))))) (ih6 a1 (a3 + 1) a4 _ hK)
  refine a_iconst C dJ7_fill_d0a16_0 ?_
  refine a_istore_n C dJ7_fill_d0a16_1 (Nat.le_of_ble_eq_true rfl) ?_
  refine a_aload_n C dJ7_fill_d0a16_2 rfl ?_
  refine a_alen C 15 (by decide) h_c0 dJ7_fill_d0a16_3 h0_c0 ?_
  refine a_istore C dJ7_fill_d0a16_4 (Nat.le_of_ble_eq_true rfl) ?_
  obtain ⟨nn11, hK⟩ := hK
  exact a_ls (lsub_s rfl (lsub_s rfl (lsub_n (lsub_s rfl (lsub_s rfl lsub_0))))) (L6 nn11 a1 0 n0 _ hK)

def m7_addFeud_L4 (S : List zC) (Q : zV → Prop) : Nat → Int → Int → Int → zV → Prop
  | 0 => fun _ _ _ _ => False
  | n + 1 => fun a1 a3 a5 V => (inR a5) ∧ ((a5 ≤ 0 → (inL ((V 51 (0 : Int).toNat) * a3)) ∧ Q (vset V 51 (0 : Int).toNat ((V 51 (0 : Int).toNat) * a3))) ∧ (0 < a5 → (0 ≤ a5 ∧ a5 < 9) ∧ (0 ≤ (a5 - 1) ∧ (a5 - 1) < 9) ∧ (0 ≤ a5 ∧ a5 < 9) ∧ (inL (((V 51 (a5).toNat) * a3) + ((V 51 ((a5 - 1)).toNat) * a1))) ∧ m7_addFeud_L4 S Q n a1 a3 (a5 + (-1)) (vset V 51 (a5).toNat (((V 51 (a5).toNat) * a3) + ((V 51 ((a5 - 1)).toNat) * a1)))))
def m7_addFeud (S : List zC) (V : zV) (a1 : Int) (a3 : Int) (Q : zV → Prop) : Prop :=
  ∃ nn21, m7_addFeud_L4 S Q nn21 a1 a3 8 V
def t7_addFeud : zT := fun as S V post => ∃ (a1 : Int) (a3 : Int) (Q : zV → Prop), as = [zR 50, zJ a1, zJ a3] ∧ PSo S ∧ m7_addFeud S V a1 a3 Q ∧ (∀ V2, Q V2 → post none S V2)
set_option maxHeartbeats 4000000 in
set_option maxRecDepth 20000 in
theorem c7_addFeud (l : Launch) : zCT l yX7_addFeud cX7_addFeud 6 none { frames := 0, cells := 0, slots := 0, locals := 0 } t7_addFeud := by
  refine zCT_of (by decide) (fun as S V post h => by obtain ⟨a1, a3, Q, rfl, -⟩ := h; exact Nat.le_of_ble_eq_true rfl) ?_
  intro X S V as post C E hT
  obtain ⟨a1, a3, Q, rfl, hO, hK, hpost⟩ := hT
  obtain ⟨w_50, r_50, h_50, g_50_0⟩ := PSo_50 hO
  obtain ⟨r_51, h_51⟩ := PSo_51 hO
  show zW X S V 0 0 [some (zR 50), some (zJ a1), none, some (zJ a3), none, none] [] 0
  unfold m7_addFeud at hK
  have L4 : ∀ (n : Nat) (a1 : Int) (a3 : Int) (a5 : Int) (V : zV), m7_addFeud_L4 S Q n a1 a3 a5 V → zW X S V 0 0 [some (zR 50), some (zJ a1), none, some (zJ a3), none, some (zI a5)] [] 4 := by
    intro n4
    induction n4 with
    | zero => intro _ _ _ _ hK; exact hK.elim
    | succ n4 ih4 =>
      intro a1 a3 a5 V hK
      unfold m7_addFeud_L4 at hK
      refine a_iload C dX7_addFeud_4 rfl ?_
      obtain ⟨q11, hK⟩ := hK
      refine a_if_le C 43 dX7_addFeud_6 (by decide) q11 (fun q12 => ?_) (fun q12 => ?_)
      · replace hK := hK.1 q12
        refine a_aload_n C dX7_addFeud_43 rfl ?_
        refine a_getR C fl_X7_9_7 h_50 rfl g_50_0 dX7_addFeud_44 ?_
        refine a_iconst C dX7_addFeud_47 ?_
        refine a_dup2 C dX7_addFeud_48 rfl rfl ?_
        refine a_lald C h_51 dX7_addFeud_49 (by decide) ⟨by decide, by decide⟩ (fun r13 => ?_)
        refine a_lload_n C dX7_addFeud_50 rfl ?_
        refine a_lmul C dX7_addFeud_51 ?_
        obtain ⟨q14, hK⟩ := hK
        refine a_last C h_51 dX7_addFeud_52 (by decide) ⟨⟨by decide, by decide⟩, q14⟩ ?_
        exact a_vret C E dX7_addFeud_53 (Nat.le_refl _) (Nat.le_refl _) (hpost _ hK)
      · replace hK := hK.2 q12
        refine a_aload_n C dX7_addFeud_9 rfl ?_
        refine a_getR C fl_X7_9_7 h_50 rfl g_50_0 dX7_addFeud_10 ?_
        refine a_iload C dX7_addFeud_13 rfl ?_
        refine a_aload_n C dX7_addFeud_15 rfl ?_
        refine a_getR C fl_X7_9_7 h_50 rfl g_50_0 dX7_addFeud_16 ?_
        refine a_iload C dX7_addFeud_19 rfl ?_
        obtain ⟨q15, hK⟩ := hK
        refine a_lald C h_51 dX7_addFeud_21 (by decide) q15 (fun r16 => ?_)
        refine a_lload_n C dX7_addFeud_22 rfl ?_
        refine a_lmul C dX7_addFeud_23 ?_
        refine a_aload_n C dX7_addFeud_24 rfl ?_
        refine a_getR C fl_X7_9_7 h_50 rfl g_50_0 dX7_addFeud_25 ?_
        refine a_iload C dX7_addFeud_28 rfl ?_
        refine a_iconst C dX7_addFeud_30 ?_
        refine a_isub C dX7_addFeud_31 ?_
        obtain ⟨q17, hK⟩ := hK
        refine a_lald C h_51 dX7_addFeud_32 (by decide) q17 (fun r18 => ?_)
        refine a_lload_n C dX7_addFeud_33 rfl ?_
        refine a_lmul C dX7_addFeud_34 ?_
        refine a_ladd C dX7_addFeud_35 ?_
        obtain ⟨q19, hK⟩ := hK
        obtain ⟨q20, hK⟩ := hK
        refine a_last C h_51 dX7_addFeud_36 (by decide) ⟨q19, q20⟩ ?_
        refine a_iinc C dX7_addFeud_37 rfl (Nat.le_of_ble_eq_true rfl) ?_
        refine a_goto C 4 dX7_addFeud_40 (by decide) ?_
        exact a_ls (lsub_s rfl (lsub_s rfl (lsub_n (lsub_s rfl (lsub_n (lsub_s rfl lsub_0)))))) (ih4 a1 a3 (a5 + (-1)) _ hK)
  refine a_bipush C dX7_addFeud_0 (by decide) ?_
  refine a_istore C dX7_addFeud_2 (Nat.le_of_ble_eq_true rfl) ?_
  obtain ⟨nn21, hK⟩ := hK
  exact a_ls (lsub_s rfl (lsub_s rfl (lsub_n (lsub_s rfl (lsub_n (lsub_s rfl lsub_0)))))) (L4 nn21 a1 a3 8 _ hK)

def m7_reckon_J88 (S : List zC) (o1 : Nat) (k22 : Int → Int → zV → Prop) (Q : zV → Prop) (a2 : Int) (a3 : Int) (a6 : Int) (s0 : Int) (V : zV) : Prop :=
  m7_addFeud S V a6 (s0 - a6) (fun V98 => k22 a2 (a3 + 1) (vset V98 50 1 (wrL ((V98 50 1) * s0))))
def m7_reckon_J72 (S : List zC) (o1 : Nat) (k22 : Int → Int → zV → Prop) (Q : zV → Prop) (a2 : Int) (a3 : Int) (s0 : Int) (V : zV) : Prop :=
  (inR a2) ∧ ((¬ a2 = 2 → m7_reckon_J88 S o1 (k22) Q a2 a3 s0 10 V) ∧ (a2 = 2 → m7_reckon_J88 S o1 (k22) Q a2 a3 s0 100 V))
def m7_reckon_L22 (S : List zC) (o1 : Nat) (Q : zV → Prop) : Nat → Int → Int → zV → Prop
  | 0 => fun _ _ _ => False
  | n + 1 => fun a2 a3 V => (inR a3) ∧ (((V 3 2) ≤ a3 → Q V) ∧ (a3 < (V 3 2) → (0 ≤ a3 ∧ a3 < 8) ∧ ((¬ (V (o1 + 6) (a3).toNat) = 0 → m7_reckon_L22 S o1 Q n a2 (a3 + 1) V) ∧ ((V (o1 + 6) (a3).toNat) = 0 → (0 ≤ a3 ∧ a3 < 8) ∧ (inR (wtS S (a3).toNat)) ∧ (inR a2) ∧ ((¬ a2 = 2 → m7_reckon_J72 S o1 (m7_reckon_L22 S o1 Q n) Q a2 a3 (wtS S (a3).toNat) V) ∧ (a2 = 2 → m7_reckon_J72 S o1 (m7_reckon_L22 S o1 Q n) Q a2 a3 ((wtS S (a3).toNat) * (wtS S (a3).toNat)) V))))))
def m7_reckon (S : List zC) (o1 : Nat) (V : zV) (a2 : Int) (Q : zV → Prop) : Prop :=
  mj7_fill_d0a16 51 9 V 0 (fun V5 => ∃ nn37, m7_reckon_L22 S o1 Q nn37 a2 0 (vset (vset V5 51 (0 : Int).toNat 1) 50 1 1))
def t7_reckon : zT := fun as S V post => ∃ (o1 : Nat) (a2 : Int) (Q : zV → Prop), as = [zR 50, zR o1, zI a2] ∧ PSo S ∧ PSi S o1 ∧ m7_reckon S o1 V a2 Q ∧ (∀ V2, Q V2 → post none S V2)
set_option maxHeartbeats 4000000 in
set_option maxRecDepth 20000 in
theorem c7_reckon (l : Launch) : zCT l yX7_reckon cX7_reckon 10 none { frames := 1, cells := 0, slots := 0, locals := 25 } t7_reckon := by
  refine zCT_of (by decide) (fun as S V post h => by obtain ⟨o1, a2, Q, rfl, -⟩ := h; exact Nat.le_of_ble_eq_true rfl) ?_
  intro X S V as post C E hT
  obtain ⟨o1, a2, Q, rfl, hO, hI1, hK, hpost⟩ := hT
  obtain ⟨w_o1, r_o1, h_o1, g_o1_0, g_o1_1, g_o1_2, g_o1_3, g_o1_4, g_o1_5, g_o1_6, g_o1_7, g_o1_8, g_o1_10, g_o1_11⟩ := PSi_o hI1
  obtain ⟨w_3, r_3, h_3, g_3_0, g_3_1⟩ := PSl_3 (PSi_l hI1)
  obtain ⟨r_o1_6, h_o1_6⟩ := PSi_a6 hI1
  obtain ⟨w_50, r_50, h_50, g_50_0⟩ := PSo_50 hO
  obtain ⟨r_51, h_51⟩ := PSo_51 hO
  show zW X S V 0 0 [some (zR 50), some (zR o1), some (zI a2), none, none, none, none, none, none, none] [] 0
  unfold m7_reckon at hK
  have L22 : ∀ (n : Nat) (a2 : Int) (a3 : Int) (V : zV), m7_reckon_L22 S o1 Q n a2 a3 V → zW X S V 0 0 [some (zR 50), some (zR o1), some (zI a2), some (zI a3), none, none, none, none, none, none] [] 22 := by
    intro n22
    induction n22 with
    | zero => intro _ _ _ hK; exact hK.elim
    | succ n22 ih22 =>
      intro a2 a3 V hK
      unfold m7_reckon_L22 at hK
      refine a_iload_n C dX7_reckon_22 rfl ?_
      refine a_aload_n C dX7_reckon_23 rfl ?_
      refine a_getR C fl_X7_25_4 h_o1 rfl g_o1_0 dX7_reckon_24 ?_
      refine a_getI C fl_X7_31_10 h_3 rfl dX7_reckon_27 (fun r19 => ?_)
      obtain ⟨q20, hK⟩ := hK
      refine a_icmp_ge C 118 dX7_reckon_30 (by decide) ⟨q20, r19⟩ (fun q21 => ?_) (fun q21 => ?_)
      · replace hK := hK.1 q21
        exact a_vret C E dX7_reckon_118 (Nat.le_refl _) (Nat.le_refl _) (hpost _ hK)
      · replace hK := hK.2 q21
        refine a_aload_n C dX7_reckon_33 rfl ?_
        refine a_getR C fl_X7_37_4 h_o1 rfl g_o1_6 dX7_reckon_34 ?_
        refine a_iload_n C dX7_reckon_37 rfl ?_
        obtain ⟨q22, hK⟩ := hK
        refine a_zald C h_o1_6 dX7_reckon_38 (by decide) q22 (fun r23 => ?_)
        refine a_if_ne C 112 dX7_reckon_39 (by decide) (z_B2R r23) (fun q24 => ?_) (fun q24 => ?_)
        · replace hK := hK.1 q24
          refine a_iinc C dX7_reckon_112 rfl (Nat.le_of_ble_eq_true rfl) ?_
          refine a_goto C 22 dX7_reckon_115 (by decide) ?_
          exact a_ls (lsub_s rfl (lsub_s rfl (lsub_s rfl (lsub_s rfl (lsub_n (lsub_n (lsub_n (lsub_n (lsub_n (lsub_n lsub_0)))))))))) (ih22 a2 (a3 + 1) _ hK)
        · replace hK := hK.2 q24
          have J72 : ∀ (a2 : Int) (a3 : Int) (s0 : Int) (V : zV), m7_reckon_J72 S o1 (m7_reckon_L22 S o1 Q n22) Q a2 a3 s0 V → zW X S V 0 0 [some (zR 50), some (zR o1), some (zI a2), some (zI a3), none, none, none, none, none, none] [zJ s0] 72 := by
            intro a2 a3 s0 V hK
            unfold m7_reckon_J72 at hK
            have J88 : ∀ (a2 : Int) (a3 : Int) (a6 : Int) (s0 : Int) (V : zV), m7_reckon_J88 S o1 (m7_reckon_L22 S o1 Q n22) Q a2 a3 a6 s0 V → zW X S V 0 0 [some (zR 50), some (zR o1), some (zI a2), some (zI a3), none, none, some (zJ a6), none, none, none] [zJ s0] 88 := by
              intro a2 a3 a6 s0 V hK
              unfold m7_reckon_J88 at hK
              refine a_lstore C dX7_reckon_88 (Nat.le_of_ble_eq_true rfl) ?_
              refine a_eqal (al' := [some (zR 50), some (zR o1), some (zI a2), some (zI a3), none, none, some (zJ a6), none, some (zJ s0), none]) rfl ?_
              refine a_aload_n C dX7_reckon_90 rfl ?_
              refine a_lload C dX7_reckon_91 rfl ?_
              refine a_lload C dX7_reckon_93 rfl ?_
              refine a_lload C dX7_reckon_95 rfl ?_
              refine a_lsub C dX7_reckon_97 ?_
              refine a_callV (as := [zJ a6, zJ (s0 - a6)]) (rest := []) C 2 (fun l => c7_addFeud l) h_50 ⟨_, _, rfl⟩ (by decide) ml_X7_54 im_X7_addFeud se_X7_addFeud in_X7 co_X7_addFeud (by decide +kernel) rfl ⟨Nat.le_of_ble_eq_true rfl, Nat.le_of_ble_eq_true rfl⟩ (Nat.le_of_ble_eq_true rfl) dX7_reckon_98 ⟨Nat.le_of_ble_eq_true rfl, Nat.le_of_ble_eq_true rfl⟩ ?_
              refine ⟨a6, (s0 - a6), _, rfl, hO, hK, fun V98 hK => ?_⟩
              try dsimp only [Option.toList, List.cons_append, List.nil_append]
              refine a_aload_n C dX7_reckon_101 rfl ?_
              refine a_dup C dX7_reckon_102 rfl ?_
              refine a_getJ C fl_X7_15_7 h_50 rfl dX7_reckon_103 (fun r30 => ?_)
              refine a_lload C dX7_reckon_106 rfl ?_
              refine a_lmul C dX7_reckon_108 ?_
              refine a_wrapL ?_
              refine a_putJ C fl_X7_15_7 h_50 rfl dX7_reckon_109 (wrL_in _) ?_
              refine a_iinc C dX7_reckon_112 rfl (Nat.le_of_ble_eq_true rfl) ?_
              refine a_goto C 22 dX7_reckon_115 (by decide) ?_
              exact a_ls (lsub_s rfl (lsub_s rfl (lsub_s rfl (lsub_s rfl (lsub_n (lsub_n (lsub_n (lsub_n (lsub_n (lsub_n lsub_0)))))))))) (ih22 a2 (a3 + 1) _ hK)
            refine a_lstore C dX7_reckon_72 (Nat.le_of_ble_eq_true rfl) ?_
            refine a_eqal (al' := [some (zR 50), some (zR o1), some (zI a2), some (zI a3), none, none, some (zJ s0), none, none, none]) rfl ?_
            refine a_iload_n C dX7_reckon_74 rfl ?_
            refine a_iconst C dX7_reckon_75 ?_
            obtain ⟨q31, hK⟩ := hK
            refine a_icmp_ne C 85 dX7_reckon_76 (by decide) ⟨q31, ⟨by decide, by decide⟩⟩ (fun q32 => ?_) (fun q32 => ?_)
            · replace hK := hK.1 q32
              refine a_ldc2 C kl_X7_52 dX7_reckon_85 ?_
              exact a_ls (lsub_s rfl (lsub_s rfl (lsub_s rfl (lsub_s rfl (lsub_n (lsub_n (lsub_s rfl (lsub_n (lsub_n (lsub_n lsub_0)))))))))) (J88 a2 a3 s0 10 _ hK)
            · replace hK := hK.2 q32
              refine a_ldc2 C kl_X7_50 dX7_reckon_79 ?_
              refine a_goto C 88 dX7_reckon_82 (by decide) ?_
              exact a_ls (lsub_s rfl (lsub_s rfl (lsub_s rfl (lsub_s rfl (lsub_n (lsub_n (lsub_s rfl (lsub_n (lsub_n (lsub_n lsub_0)))))))))) (J88 a2 a3 s0 100 _ hK)
          refine a_aload_n C dX7_reckon_42 rfl ?_
          refine a_getR C fl_X7_25_4 h_o1 rfl g_o1_0 dX7_reckon_43 ?_
          refine a_getR C fl_X7_41_10 h_3 rfl g_3_0 dX7_reckon_46 ?_
          refine a_iload_n C dX7_reckon_49 rfl ?_
          obtain ⟨q33, hK⟩ := hK
          refine a_feudW C (PSi_l hI1) dX7_reckon_50 q33 fl_X7_45_0 fl_X7_45_2 fl_X7_45_3 fl_X7_45_5 fl_X7_45_9 dX7_reckon_51 ?_
          obtain ⟨q34, hK⟩ := hK
          refine a_i2l C dX7_reckon_54 q34 ?_
          refine a_lstore C dX7_reckon_55 (Nat.le_of_ble_eq_true rfl) ?_
          refine a_eqal (al' := [some (zR 50), some (zR o1), some (zI a2), some (zI a3), some (zJ (wtS S (a3).toNat)), none, none, none, none, none]) rfl ?_
          refine a_iload_n C dX7_reckon_57 rfl ?_
          refine a_iconst C dX7_reckon_58 ?_
          obtain ⟨q35, hK⟩ := hK
          refine a_icmp_ne C 70 dX7_reckon_59 (by decide) ⟨q35, ⟨by decide, by decide⟩⟩ (fun q36 => ?_) (fun q36 => ?_)
          · replace hK := hK.1 q36
            refine a_lload C dX7_reckon_70 rfl ?_
            exact a_ls (lsub_s rfl (lsub_s rfl (lsub_s rfl (lsub_s rfl (lsub_n (lsub_n (lsub_n (lsub_n (lsub_n (lsub_n lsub_0)))))))))) (J72 a2 a3 (wtS S (a3).toNat) _ hK)
          · replace hK := hK.2 q36
            refine a_lload C dX7_reckon_62 rfl ?_
            refine a_lload C dX7_reckon_64 rfl ?_
            refine a_lmul C dX7_reckon_66 ?_
            refine a_goto C 72 dX7_reckon_67 (by decide) ?_
            exact a_ls (lsub_s rfl (lsub_s rfl (lsub_s rfl (lsub_s rfl (lsub_n (lsub_n (lsub_n (lsub_n (lsub_n (lsub_n lsub_0)))))))))) (J72 a2 a3 ((wtS S (a3).toNat) * (wtS S (a3).toNat)) _ hK)
  refine a_aload_n C dX7_reckon_0 rfl ?_
  refine a_getR C fl_X7_9_7 h_50 rfl g_50_0 dX7_reckon_1 ?_
  refine a_lconst C 0 dX7_reckon_4 (by decide) ?_
  refine a_callS (as := [zR 51, zJ 0]) (rest := []) C 2 (fun l => cj7_fill_d0a16 l) ml_X7_19 sa_J7_fill_d0a16 in_J7 co_J7_fill_d0a16 (by decide +kernel) rfl ⟨Nat.le_of_ble_eq_true rfl, Nat.le_of_ble_eq_true rfl⟩ (Nat.le_of_ble_eq_true rfl) dX7_reckon_5 ⟨Nat.le_of_ble_eq_true rfl, Nat.le_of_ble_eq_true rfl⟩ ?_
  refine ⟨51, 9, 0, _, rfl, ⟨⟨_, h_51⟩, by decide, by decide⟩, hK, fun V5 hK => ?_⟩
  try dsimp only [Option.toList, List.cons_append, List.nil_append]
  refine a_aload_n C dX7_reckon_8 rfl ?_
  refine a_getR C fl_X7_9_7 h_50 rfl g_50_0 dX7_reckon_9 ?_
  refine a_iconst C dX7_reckon_12 ?_
  refine a_lconst C 1 dX7_reckon_13 (by decide) ?_
  refine a_last C h_51 dX7_reckon_14 (by decide) ⟨⟨by decide, by decide⟩, ⟨by decide, by decide⟩⟩ ?_
  refine a_aload_n C dX7_reckon_15 rfl ?_
  refine a_lconst C 1 dX7_reckon_16 (by decide) ?_
  refine a_putJ C fl_X7_15_7 h_50 rfl dX7_reckon_17 ⟨by decide, by decide⟩ ?_
  refine a_iconst C dX7_reckon_20 ?_
  refine a_istore_n C dX7_reckon_21 (Nat.le_of_ble_eq_true rfl) ?_
  obtain ⟨nn37, hK⟩ := hK
  exact a_ls (lsub_s rfl (lsub_s rfl (lsub_s rfl (lsub_s rfl (lsub_n (lsub_n (lsub_n (lsub_n (lsub_n (lsub_n lsub_0)))))))))) (L22 nn37 a2 0 _ hK)

def m7_commonDivisor_L9 (S : List zC) (Q : Int → zV → Prop) : Nat → Int → Int → Int → zV → Prop
  | 0 => fun _ _ _ _ => False
  | n + 1 => fun a4 a6 a8 V => (inR a8) ∧ ((200 ≤ a8 → Q a4 V) ∧ (a8 < 200 → (inL a6) ∧ ((a6 = 0 → Q a4 V) ∧ (¬ a6 = 0 → ((0 ≤ a4 ∧ a4 < 9223372036854775808) ∧ 0 < a6 ∧ a6 < 9223372036854775808) ∧ m7_commonDivisor_L9 S Q n a6 (a4 % a6) (a8 + 1) V))))
def m7_commonDivisor (S : List zC) (V : zV) (a0 : Int) (a2 : Int) (Q : Int → zV → Prop) : Prop :=
  ∃ nn11, m7_commonDivisor_L9 S Q nn11 a0 a2 0 V
def t7_commonDivisor : zT := fun as S V post => ∃ (a0 : Int) (a2 : Int) (Q : Int → zV → Prop), as = [zJ a0, zJ a2] ∧ m7_commonDivisor S V a0 a2 Q ∧ (∀ r V2, Q r V2 → post (some (zJ r)) S V2)
set_option maxHeartbeats 4000000 in
set_option maxRecDepth 20000 in
theorem c7_commonDivisor (l : Launch) : zCT l yX7_commonDivisor cX7_commonDivisor 11 (some .long) { frames := 0, cells := 0, slots := 0, locals := 0 } t7_commonDivisor := by
  refine zCT_of (by decide) (fun as S V post h => by obtain ⟨a0, a2, Q, rfl, -⟩ := h; exact Nat.le_of_ble_eq_true rfl) ?_
  intro X S V as post C E hT
  obtain ⟨a0, a2, Q, rfl, hK, hpost⟩ := hT
  show zW X S V 0 0 [some (zJ a0), none, some (zJ a2), none, none, none, none, none, none, none, none] [] 0
  unfold m7_commonDivisor at hK
  have L9 : ∀ (n : Nat) (a4 : Int) (a6 : Int) (a8 : Int) (V : zV), m7_commonDivisor_L9 S Q n a4 a6 a8 V → zW X S V 0 0 [none, none, none, none, some (zJ a4), none, some (zJ a6), none, some (zI a8), none, none] [] 9 := by
    intro n9
    induction n9 with
    | zero => intro _ _ _ _ hK; exact hK.elim
    | succ n9 ih9 =>
      intro a4 a6 a8 V hK
      unfold m7_commonDivisor_L9 at hK
      refine a_iload C dX7_commonDivisor_9 rfl ?_
      refine a_sipush C dX7_commonDivisor_11 (by decide) ?_
      obtain ⟨q6, hK⟩ := hK
      refine a_icmp_ge C 45 dX7_commonDivisor_14 (by decide) ⟨q6, ⟨by decide, by decide⟩⟩ (fun q7 => ?_) (fun q7 => ?_)
      · replace hK := hK.1 q7
        refine a_lload C dX7_commonDivisor_45 rfl ?_
        exact a_lret C E dX7_commonDivisor_47 (Nat.le_refl _) (Nat.le_refl _) (hpost _ _ hK)
      · replace hK := hK.2 q7
        refine a_lload C dX7_commonDivisor_17 rfl ?_
        refine a_lconst C 0 dX7_commonDivisor_19 (by decide) ?_
        obtain ⟨q8, hK⟩ := hK
        refine a_lcmp_eq C 45 dX7_commonDivisor_20 dX7_commonDivisor_21 (by decide) ⟨q8, ⟨by decide, by decide⟩⟩ (fun q9 => ?_) (fun q9 => ?_)
        · replace hK := hK.1 q9
          refine a_lload C dX7_commonDivisor_45 rfl ?_
          exact a_lret C E dX7_commonDivisor_47 (Nat.le_refl _) (Nat.le_refl _) (hpost _ _ hK)
        · replace hK := hK.2 q9
          refine a_lload C dX7_commonDivisor_24 rfl ?_
          refine a_lload C dX7_commonDivisor_26 rfl ?_
          obtain ⟨q10, hK⟩ := hK
          refine a_lrem C dX7_commonDivisor_28 q10 ?_
          refine a_lstore C dX7_commonDivisor_29 (Nat.le_of_ble_eq_true rfl) ?_
          refine a_eqal (al' := [none, none, none, none, some (zJ a4), none, some (zJ a6), none, some (zI a8), some (zJ (a4 % a6)), none]) rfl ?_
          refine a_lload C dX7_commonDivisor_31 rfl ?_
          refine a_lstore C dX7_commonDivisor_33 (Nat.le_of_ble_eq_true rfl) ?_
          refine a_eqal (al' := [none, none, none, none, some (zJ a6), none, some (zJ a6), none, some (zI a8), some (zJ (a4 % a6)), none]) rfl ?_
          refine a_lload C dX7_commonDivisor_35 rfl ?_
          refine a_lstore C dX7_commonDivisor_37 (Nat.le_of_ble_eq_true rfl) ?_
          refine a_eqal (al' := [none, none, none, none, some (zJ a6), none, some (zJ (a4 % a6)), none, some (zI a8), some (zJ (a4 % a6)), none]) rfl ?_
          refine a_iinc C dX7_commonDivisor_39 rfl (Nat.le_of_ble_eq_true rfl) ?_
          refine a_goto C 9 dX7_commonDivisor_42 (by decide) ?_
          exact a_ls (lsub_n (lsub_n (lsub_n (lsub_n (lsub_s rfl (lsub_n (lsub_s rfl (lsub_n (lsub_s rfl (lsub_n (lsub_n lsub_0))))))))))) (ih9 a6 (a4 % a6) (a8 + 1) _ hK)
  refine a_lload_n C dX7_commonDivisor_0 rfl ?_
  refine a_lstore C dX7_commonDivisor_1 (Nat.le_of_ble_eq_true rfl) ?_
  refine a_eqal (al' := [some (zJ a0), none, some (zJ a2), none, some (zJ a0), none, none, none, none, none, none]) rfl ?_
  refine a_lload_n C dX7_commonDivisor_3 rfl ?_
  refine a_lstore C dX7_commonDivisor_4 (Nat.le_of_ble_eq_true rfl) ?_
  refine a_eqal (al' := [some (zJ a0), none, some (zJ a2), none, some (zJ a0), none, some (zJ a2), none, none, none, none]) rfl ?_
  refine a_iconst C dX7_commonDivisor_6 ?_
  refine a_istore C dX7_commonDivisor_7 (Nat.le_of_ble_eq_true rfl) ?_
  obtain ⟨nn11, hK⟩ := hK
  exact a_ls (lsub_n (lsub_n (lsub_n (lsub_n (lsub_s rfl (lsub_n (lsub_s rfl (lsub_n (lsub_s rfl (lsub_n (lsub_n lsub_0))))))))))) (L9 nn11 a0 a2 0 _ hK)

def m7_inLowest (S : List zC) (V : zV) (a1 : Int) (a3 : Int) (Q : Int → zV → Prop) : Prop :=
  m7_commonDivisor S V a3 (V 50 1) (fun r5 V5 => (inL r5) ∧ ((¬ r5 = 0 → ((0 ≤ a1 ∧ a1 < 9223372036854775808) ∧ 0 < r5 ∧ r5 < 9223372036854775808) ∧ Q (a1 / r5) V5) ∧ (r5 = 0 → Q a1 V5)))
def t7_inLowest : zT := fun as S V post => ∃ (a1 : Int) (a3 : Int) (Q : Int → zV → Prop), as = [zR 50, zJ a1, zJ a3] ∧ PSo S ∧ m7_inLowest S V a1 a3 Q ∧ (∀ r V2, Q r V2 → post (some (zJ r)) S V2)
set_option maxHeartbeats 4000000 in
set_option maxRecDepth 20000 in
theorem c7_inLowest (l : Launch) : zCT l yX7_inLowest cX7_inLowest 7 (some .long) { frames := 1, cells := 0, slots := 0, locals := 30 } t7_inLowest := by
  refine zCT_of (by decide) (fun as S V post h => by obtain ⟨a1, a3, Q, rfl, -⟩ := h; exact Nat.le_of_ble_eq_true rfl) ?_
  intro X S V as post C E hT
  obtain ⟨a1, a3, Q, rfl, hO, hK, hpost⟩ := hT
  obtain ⟨w_50, r_50, h_50, g_50_0⟩ := PSo_50 hO
  show zW X S V 0 0 [some (zR 50), some (zJ a1), none, some (zJ a3), none, none, none] [] 0
  unfold m7_inLowest at hK
  refine a_lload_n C dX7_inLowest_0 rfl ?_
  refine a_aload_n C dX7_inLowest_1 rfl ?_
  refine a_getJ C fl_X7_15_7 h_50 rfl dX7_inLowest_2 (fun r1 => ?_)
  refine a_callS (as := [zJ a3, zJ (V 50 1)]) (rest := []) C 2 (fun l => c7_commonDivisor l) ml_X7_66 sa_X7_commonDivisor in_X7 co_X7_commonDivisor (by decide +kernel) rfl ⟨Nat.le_of_ble_eq_true rfl, Nat.le_of_ble_eq_true rfl⟩ (Nat.le_of_ble_eq_true rfl) dX7_inLowest_5 ⟨Nat.le_of_ble_eq_true rfl, Nat.le_of_ble_eq_true rfl⟩ ?_
  refine ⟨a3, (V 50 1), _, rfl, hK, fun r5 V5 hK => ?_⟩
  try dsimp only [Option.toList, List.cons_append, List.nil_append]
  refine a_lstore C dX7_inLowest_8 (Nat.le_of_ble_eq_true rfl) ?_
  refine a_eqal (al' := [some (zR 50), some (zJ a1), none, some (zJ a3), none, some (zJ r5), none]) rfl ?_
  refine a_lload C dX7_inLowest_10 rfl ?_
  refine a_lconst C 0 dX7_inLowest_12 (by decide) ?_
  obtain ⟨q2, hK⟩ := hK
  refine a_lcmp_ne C 21 dX7_inLowest_13 dX7_inLowest_14 (by decide) ⟨q2, ⟨by decide, by decide⟩⟩ (fun q3 => ?_) (fun q3 => ?_)
  · replace hK := hK.1 q3
    refine a_lload_n C dX7_inLowest_21 rfl ?_
    refine a_lload C dX7_inLowest_22 rfl ?_
    obtain ⟨q4, hK⟩ := hK
    refine a_ldiv C dX7_inLowest_24 q4 ?_
    exact a_lret C E dX7_inLowest_25 (Nat.le_refl _) (Nat.le_refl _) (hpost _ _ hK)
  · replace hK := hK.2 q3
    refine a_lload_n C dX7_inLowest_17 rfl ?_
    refine a_goto C 25 dX7_inLowest_18 (by decide) ?_
    exact a_lret C E dX7_inLowest_25 (Nat.le_refl _) (Nat.le_refl _) (hpost _ _ hK)

def m7_waysOf (S : List zC) (V : zV) (a1 : Int) (Q : Int → zV → Prop) : Prop :=
  (inR a1) ∧ ((a1 < 0 → Q 0 V) ∧ (0 ≤ a1 → ((9 ≤ a1 → Q 0 V) ∧ (a1 < 9 → (0 ≤ a1 ∧ a1 < 9) ∧ Q (V 51 (a1).toNat) V))))
def t7_waysOf : zT := fun as S V post => ∃ (a1 : Int) (Q : Int → zV → Prop), as = [zR 50, zI a1] ∧ PSo S ∧ m7_waysOf S V a1 Q ∧ (∀ r V2, Q r V2 → post (some (zJ r)) S V2)
set_option maxHeartbeats 4000000 in
set_option maxRecDepth 20000 in
theorem c7_waysOf (l : Launch) : zCT l yX7_waysOf cX7_waysOf 2 (some .long) { frames := 0, cells := 0, slots := 0, locals := 0 } t7_waysOf := by
  refine zCT_of (by decide) (fun as S V post h => by obtain ⟨a1, Q, rfl, -⟩ := h; exact Nat.le_of_ble_eq_true rfl) ?_
  intro X S V as post C E hT
  obtain ⟨a1, Q, rfl, hO, hK, hpost⟩ := hT
  obtain ⟨w_50, r_50, h_50, g_50_0⟩ := PSo_50 hO
  obtain ⟨r_51, h_51⟩ := PSo_51 hO
  show zW X S V 0 0 [some (zR 50), some (zI a1)] [] 0
  unfold m7_waysOf at hK
  refine a_iload_n C dX7_waysOf_0 rfl ?_
  obtain ⟨q1, hK⟩ := hK
  refine a_if_lt C 22 dX7_waysOf_1 (by decide) q1 (fun q2 => ?_) (fun q2 => ?_)
  · replace hK := hK.1 q2
    refine a_lconst C 0 dX7_waysOf_22 (by decide) ?_
    exact a_lret C E dX7_waysOf_23 (Nat.le_refl _) (Nat.le_refl _) (hpost _ _ hK)
  · replace hK := hK.2 q2
    refine a_iload_n C dX7_waysOf_4 rfl ?_
    refine a_aload_n C dX7_waysOf_5 rfl ?_
    refine a_getR C fl_X7_9_7 h_50 rfl g_50_0 dX7_waysOf_6 ?_
    refine a_alen C 15 (by decide) h_51 dX7_waysOf_9 (by decide) ?_
    refine a_icmp_ge C 22 dX7_waysOf_10 (by decide) ⟨q1, ⟨by decide, by decide⟩⟩ (fun q3 => ?_) (fun q3 => ?_)
    · replace hK := hK.1 q3
      refine a_lconst C 0 dX7_waysOf_22 (by decide) ?_
      exact a_lret C E dX7_waysOf_23 (Nat.le_refl _) (Nat.le_refl _) (hpost _ _ hK)
    · replace hK := hK.2 q3
      refine a_aload_n C dX7_waysOf_13 rfl ?_
      refine a_getR C fl_X7_9_7 h_50 rfl g_50_0 dX7_waysOf_14 ?_
      refine a_iload_n C dX7_waysOf_17 rfl ?_
      obtain ⟨q4, hK⟩ := hK
      refine a_lald C h_51 dX7_waysOf_18 (by decide) q4 (fun r5 => ?_)
      refine a_goto C 23 dX7_waysOf_19 (by decide) ?_
      exact a_lret C E dX7_waysOf_23 (Nat.le_refl _) (Nat.le_refl _) (hpost _ _ hK)

def m7_above (S : List zC) (V : zV) (a1 : Int) (Q : Int → zV → Prop) : Prop :=
  m7_waysOf S V a1 (fun r3 V3 => m7_waysOf S V3 a1 (fun r8 V8 => m7_inLowest S V8 r3 r8 (fun r11 V11 => Q r11 V11)))
def t7_above : zT := fun as S V post => ∃ (a1 : Int) (Q : Int → zV → Prop), as = [zR 50, zI a1] ∧ PSo S ∧ m7_above S V a1 Q ∧ (∀ r V2, Q r V2 → post (some (zJ r)) S V2)
set_option maxHeartbeats 4000000 in
set_option maxRecDepth 20000 in
theorem c7_above (l : Launch) : zCT l yX7_above cX7_above 2 (some .long) { frames := 2, cells := 0, slots := 0, locals := 56 } t7_above := by
  refine zCT_of (by decide) (fun as S V post h => by obtain ⟨a1, Q, rfl, -⟩ := h; exact Nat.le_of_ble_eq_true rfl) ?_
  intro X S V as post C E hT
  obtain ⟨a1, Q, rfl, hO, hK, hpost⟩ := hT
  obtain ⟨w_50, r_50, h_50, g_50_0⟩ := PSo_50 hO
  show zW X S V 0 0 [some (zR 50), some (zI a1)] [] 0
  unfold m7_above at hK
  refine a_aload_n C dX7_above_0 rfl ?_
  refine a_aload_n C dX7_above_1 rfl ?_
  refine a_iload_n C dX7_above_2 rfl ?_
  refine a_callV (as := [zI a1]) (rest := [zR 50]) C 1 (fun l => c7_waysOf l) h_50 ⟨_, _, rfl⟩ (by decide) ml_X7_58 im_X7_waysOf se_X7_waysOf in_X7 co_X7_waysOf (by decide +kernel) rfl ⟨Nat.le_of_ble_eq_true rfl, Nat.le_of_ble_eq_true rfl⟩ (Nat.le_of_ble_eq_true rfl) dX7_above_3 ⟨Nat.le_of_ble_eq_true rfl, Nat.le_of_ble_eq_true rfl⟩ ?_
  refine ⟨a1, _, rfl, hO, hK, fun r3 V3 hK => ?_⟩
  try dsimp only [Option.toList, List.cons_append, List.nil_append]
  refine a_aload_n C dX7_above_6 rfl ?_
  refine a_iload_n C dX7_above_7 rfl ?_
  refine a_callV (as := [zI a1]) (rest := [zJ r3, zR 50]) C 1 (fun l => c7_waysOf l) h_50 ⟨_, _, rfl⟩ (by decide) ml_X7_58 im_X7_waysOf se_X7_waysOf in_X7 co_X7_waysOf (by decide +kernel) rfl ⟨Nat.le_of_ble_eq_true rfl, Nat.le_of_ble_eq_true rfl⟩ (Nat.le_of_ble_eq_true rfl) dX7_above_8 ⟨Nat.le_of_ble_eq_true rfl, Nat.le_of_ble_eq_true rfl⟩ ?_
  refine ⟨a1, _, rfl, hO, hK, fun r8 V8 hK => ?_⟩
  try dsimp only [Option.toList, List.cons_append, List.nil_append]
  refine a_callV (as := [zJ r3, zJ r8]) (rest := []) C 2 (fun l => c7_inLowest l) h_50 ⟨_, _, rfl⟩ (by decide) ml_X7_62 im_X7_inLowest se_X7_inLowest in_X7 co_X7_inLowest (by decide +kernel) rfl ⟨Nat.le_of_ble_eq_true rfl, Nat.le_of_ble_eq_true rfl⟩ (Nat.le_of_ble_eq_true rfl) dX7_above_11 ⟨Nat.le_of_ble_eq_true rfl, Nat.le_of_ble_eq_true rfl⟩ ?_
  refine ⟨r3, r8, _, rfl, hO, hK, fun r11 V11 hK => ?_⟩
  try dsimp only [Option.toList, List.cons_append, List.nil_append]
  exact a_lret C E dX7_above_14 (Nat.le_refl _) (Nat.le_refl _) (hpost _ _ hK)

def m7_below (S : List zC) (V : zV) (a1 : Int) (Q : Int → zV → Prop) : Prop :=
  m7_waysOf S V a1 (fun r7 V7 => m7_inLowest S V7 (V 50 1) r7 (fun r10 V10 => Q r10 V10))
def t7_below : zT := fun as S V post => ∃ (a1 : Int) (Q : Int → zV → Prop), as = [zR 50, zI a1] ∧ PSo S ∧ m7_below S V a1 Q ∧ (∀ r V2, Q r V2 → post (some (zJ r)) S V2)
set_option maxHeartbeats 4000000 in
set_option maxRecDepth 20000 in
theorem c7_below (l : Launch) : zCT l yX7_below cX7_below 2 (some .long) { frames := 2, cells := 0, slots := 0, locals := 56 } t7_below := by
  refine zCT_of (by decide) (fun as S V post h => by obtain ⟨a1, Q, rfl, -⟩ := h; exact Nat.le_of_ble_eq_true rfl) ?_
  intro X S V as post C E hT
  obtain ⟨a1, Q, rfl, hO, hK, hpost⟩ := hT
  obtain ⟨w_50, r_50, h_50, g_50_0⟩ := PSo_50 hO
  show zW X S V 0 0 [some (zR 50), some (zI a1)] [] 0
  unfold m7_below at hK
  refine a_aload_n C dX7_below_0 rfl ?_
  refine a_aload_n C dX7_below_1 rfl ?_
  refine a_getJ C fl_X7_15_7 h_50 rfl dX7_below_2 (fun r1 => ?_)
  refine a_aload_n C dX7_below_5 rfl ?_
  refine a_iload_n C dX7_below_6 rfl ?_
  refine a_callV (as := [zI a1]) (rest := [zJ (V 50 1), zR 50]) C 1 (fun l => c7_waysOf l) h_50 ⟨_, _, rfl⟩ (by decide) ml_X7_58 im_X7_waysOf se_X7_waysOf in_X7 co_X7_waysOf (by decide +kernel) rfl ⟨Nat.le_of_ble_eq_true rfl, Nat.le_of_ble_eq_true rfl⟩ (Nat.le_of_ble_eq_true rfl) dX7_below_7 ⟨Nat.le_of_ble_eq_true rfl, Nat.le_of_ble_eq_true rfl⟩ ?_
  refine ⟨a1, _, rfl, hO, hK, fun r7 V7 hK => ?_⟩
  try dsimp only [Option.toList, List.cons_append, List.nil_append]
  refine a_callV (as := [zJ (V 50 1), zJ r7]) (rest := []) C 2 (fun l => c7_inLowest l) h_50 ⟨_, _, rfl⟩ (by decide) ml_X7_62 im_X7_inLowest se_X7_inLowest in_X7 co_X7_inLowest (by decide +kernel) rfl ⟨Nat.le_of_ble_eq_true rfl, Nat.le_of_ble_eq_true rfl⟩ (Nat.le_of_ble_eq_true rfl) dX7_below_10 ⟨Nat.le_of_ble_eq_true rfl, Nat.le_of_ble_eq_true rfl⟩ ?_
  refine ⟨(V 50 1), r7, _, rfl, hO, hK, fun r10 V10 hK => ?_⟩
  try dsimp only [Option.toList, List.cons_append, List.nil_append]
  exact a_lret C E dX7_below_13 (Nat.le_refl _) (Nat.le_refl _) (hpost _ _ hK)

def m8_write  (V : zV) (a1 : Int) (Q : Int → zV → Prop) : Prop :=
  (((V 1 1) < 40 → (0 ≤ (V 1 1) ∧ (V 1 1) < 40) ∧ (inR a1) ∧ (inR (((vset V 2 ((V 1 1)).toNat a1) 1 1) + 1)) ∧ Q 1 (vset (vset V 2 ((V 1 1)).toNat a1) 1 1 (((vset V 2 ((V 1 1)).toNat a1) 1 1) + 1))) ∧ (40 ≤ (V 1 1) → Q 0 V))
def t8_write : zT := fun as S V post => ∃ (a1 : Int) (Q : Int → zV → Prop), as = [zR 1, zI a1] ∧ PSp S ∧ m8_write V a1 Q ∧ (∀ r V2, Q r V2 → post (some (zI r)) S V2)
set_option maxHeartbeats 4000000 in
set_option maxRecDepth 20000 in
theorem c8_write (l : Launch) : zCT l yX8_write cX8_write 2 (some .boolean) { frames := 0, cells := 0, slots := 0, locals := 0 } t8_write := by
  refine zCT_of (by decide) (fun as S V post h => by obtain ⟨a1, Q, rfl, -⟩ := h; exact Nat.le_of_ble_eq_true rfl) ?_
  intro X S V as post C E hT
  obtain ⟨a1, Q, rfl, hP, hK, hpost⟩ := hT
  obtain ⟨w_1, r_1, h_1, g_1_0⟩ := PSp_1 hP
  obtain ⟨r_2, h_2⟩ := PSp_2 hP
  show zW X S V 0 0 [some (zR 1), some (zI a1)] [] 0
  unfold m8_write at hK
  refine a_aload_n C dX8_write_0 rfl ?_
  refine a_getI C fl_X8_15_8 h_1 rfl dX8_write_1 (fun r1 => ?_)
  refine a_aload_n C dX8_write_4 rfl ?_
  refine a_getR C fl_X8_9_8 h_1 rfl g_1_0 dX8_write_5 ?_
  refine a_alen C 13 (by decide) h_2 dX8_write_8 (by decide) ?_
  refine a_icmp_lt C 14 dX8_write_9 (by decide) ⟨r1, ⟨by decide, by decide⟩⟩ (fun q2 => ?_) (fun q2 => ?_)
  · replace hK := hK.1 q2
    refine a_aload_n C dX8_write_14 rfl ?_
    refine a_getR C fl_X8_9_8 h_1 rfl g_1_0 dX8_write_15 ?_
    refine a_aload_n C dX8_write_18 rfl ?_
    refine a_getI C fl_X8_15_8 h_1 rfl dX8_write_19 (fun r3 => ?_)
    refine a_iload_n C dX8_write_22 rfl ?_
    obtain ⟨q4, hK⟩ := hK
    obtain ⟨q5, hK⟩ := hK
    refine a_iast C h_2 dX8_write_23 (by decide) ⟨q4, q5⟩ ?_
    refine a_aload_n C dX8_write_24 rfl ?_
    refine a_dup C dX8_write_25 rfl ?_
    refine a_getI C fl_X8_15_8 h_1 rfl dX8_write_26 (fun r6 => ?_)
    refine a_iconst C dX8_write_29 ?_
    refine a_iadd C dX8_write_30 ?_
    obtain ⟨q7, hK⟩ := hK
    refine a_putI C fl_X8_15_8 (Or.inl rfl) h_1 rfl dX8_write_31 ⟨q7, fun q => by cases q⟩ ?_
    refine a_iconst C dX8_write_34 ?_
    exact a_zret C E dX8_write_35 (Nat.le_refl _) (Nat.le_refl _) (by decide) (hpost _ _ hK)
  · replace hK := hK.2 q2
    refine a_iconst C dX8_write_12 ?_
    exact a_zret C E dX8_write_13 (Nat.le_refl _) (Nat.le_refl _) (by decide) (hpost _ _ hK)

def m8_wipe  (V : zV)  (Q : Int → zV → Prop) : Prop :=
  Q (V 1 1) (vset V 1 1 0)
def t8_wipe : zT := fun as S V post => ∃ (Q : Int → zV → Prop), as = [zR 1] ∧ PSp S ∧ m8_wipe V Q ∧ (∀ r V2, Q r V2 → post (some (zI r)) S V2)
set_option maxHeartbeats 4000000 in
set_option maxRecDepth 20000 in
theorem c8_wipe (l : Launch) : zCT l yX8_wipe cX8_wipe 2 (some .int) { frames := 0, cells := 0, slots := 0, locals := 0 } t8_wipe := by
  refine zCT_of (by decide) (fun as S V post h => by obtain ⟨Q, rfl, -⟩ := h; exact Nat.le_of_ble_eq_true rfl) ?_
  intro X S V as post C E hT
  obtain ⟨Q, rfl, hP, hK, hpost⟩ := hT
  obtain ⟨w_1, r_1, h_1, g_1_0⟩ := PSp_1 hP
  show zW X S V 0 0 [some (zR 1), none] [] 0
  unfold m8_wipe at hK
  refine a_aload_n C dX8_wipe_0 rfl ?_
  refine a_getI C fl_X8_15_8 h_1 rfl dX8_wipe_1 (fun r1 => ?_)
  refine a_istore_n C dX8_wipe_4 (Nat.le_of_ble_eq_true rfl) ?_
  refine a_aload_n C dX8_wipe_5 rfl ?_
  refine a_iconst C dX8_wipe_6 ?_
  refine a_putI C fl_X8_15_8 (Or.inl rfl) h_1 rfl dX8_wipe_7 ⟨⟨by decide, by decide⟩, fun q => by cases q⟩ ?_
  refine a_iload_n C dX8_wipe_10 rfl ?_
  exact a_iret C E dX8_wipe_11 (Nat.le_refl _) (Nat.le_refl _) (hpost _ _ hK)

def m8_codeAt  (V : zV) (a1 : Int) (Q : Int → zV → Prop) : Prop :=
  (inR a1) ∧ ((a1 < 0 → Q 0 V) ∧ (0 ≤ a1 → (((V 1 1) ≤ a1 → Q 0 V) ∧ (a1 < (V 1 1) → (0 ≤ a1 ∧ a1 < 40) ∧ Q (V 2 (a1).toNat) V))))
def t8_codeAt : zT := fun as S V post => ∃ (a1 : Int) (Q : Int → zV → Prop), as = [zR 1, zI a1] ∧ PSp S ∧ m8_codeAt V a1 Q ∧ (∀ r V2, Q r V2 → post (some (zI r)) S V2)
set_option maxHeartbeats 4000000 in
set_option maxRecDepth 20000 in
theorem c8_codeAt (l : Launch) : zCT l yX8_codeAt cX8_codeAt 2 (some .int) { frames := 0, cells := 0, slots := 0, locals := 0 } t8_codeAt := by
  refine zCT_of (by decide) (fun as S V post h => by obtain ⟨a1, Q, rfl, -⟩ := h; exact Nat.le_of_ble_eq_true rfl) ?_
  intro X S V as post C E hT
  obtain ⟨a1, Q, rfl, hP, hK, hpost⟩ := hT
  obtain ⟨w_1, r_1, h_1, g_1_0⟩ := PSp_1 hP
  obtain ⟨r_2, h_2⟩ := PSp_2 hP
  show zW X S V 0 0 [some (zR 1), some (zI a1)] [] 0
  unfold m8_codeAt at hK
  refine a_iload_n C dX8_codeAt_0 rfl ?_
  obtain ⟨q1, hK⟩ := hK
  refine a_if_lt C 21 dX8_codeAt_1 (by decide) q1 (fun q2 => ?_) (fun q2 => ?_)
  · replace hK := hK.1 q2
    refine a_iconst C dX8_codeAt_21 ?_
    exact a_iret C E dX8_codeAt_22 (Nat.le_refl _) (Nat.le_refl _) (hpost _ _ hK)
  · replace hK := hK.2 q2
    refine a_iload_n C dX8_codeAt_4 rfl ?_
    refine a_aload_n C dX8_codeAt_5 rfl ?_
    refine a_getI C fl_X8_15_8 h_1 rfl dX8_codeAt_6 (fun r3 => ?_)
    refine a_icmp_ge C 21 dX8_codeAt_9 (by decide) ⟨q1, r3⟩ (fun q4 => ?_) (fun q4 => ?_)
    · replace hK := hK.1 q4
      refine a_iconst C dX8_codeAt_21 ?_
      exact a_iret C E dX8_codeAt_22 (Nat.le_refl _) (Nat.le_refl _) (hpost _ _ hK)
    · replace hK := hK.2 q4
      refine a_aload_n C dX8_codeAt_12 rfl ?_
      refine a_getR C fl_X8_9_8 h_1 rfl g_1_0 dX8_codeAt_13 ?_
      refine a_iload_n C dX8_codeAt_16 rfl ?_
      obtain ⟨q5, hK⟩ := hK
      refine a_iald C h_2 dX8_codeAt_17 (by decide) q5 (fun r6 => ?_)
      refine a_goto C 22 dX8_codeAt_18 (by decide) ?_
      exact a_iret C E dX8_codeAt_22 (Nat.le_refl _) (Nat.le_refl _) (hpost _ _ hK)

def m8_namesPerson  (V : zV) (a0 : Int) (Q : Int → zV → Prop) : Prop :=
  (inR a0) ∧ ((a0 < 48 → Q 0 V) ∧ (48 ≤ a0 → ((53 < a0 → Q 0 V) ∧ (a0 ≤ 53 → Q 1 V))))
def t8_namesPerson : zT := fun as S V post => ∃ (a0 : Int) (Q : Int → zV → Prop), as = [zI a0] ∧ m8_namesPerson V a0 Q ∧ (∀ r V2, Q r V2 → post (some (zI r)) S V2)
set_option maxHeartbeats 4000000 in
set_option maxRecDepth 20000 in
theorem c8_namesPerson (l : Launch) : zCT l yX8_namesPerson cX8_namesPerson 1 (some .boolean) { frames := 0, cells := 0, slots := 0, locals := 0 } t8_namesPerson := by
  refine zCT_of (by decide) (fun as S V post h => by obtain ⟨a0, Q, rfl, -⟩ := h; exact Nat.le_of_ble_eq_true rfl) ?_
  intro X S V as post C E hT
  obtain ⟨a0, Q, rfl, hK, hpost⟩ := hT
  show zW X S V 0 0 [some (zI a0)] [] 0
  unfold m8_namesPerson at hK
  refine a_iload_n C dX8_namesPerson_0 rfl ?_
  refine a_bipush C dX8_namesPerson_1 (by decide) ?_
  obtain ⟨q1, hK⟩ := hK
  refine a_icmp_lt C 16 dX8_namesPerson_3 (by decide) ⟨q1, ⟨by decide, by decide⟩⟩ (fun q2 => ?_) (fun q2 => ?_)
  · replace hK := hK.1 q2
    refine a_iconst C dX8_namesPerson_16 ?_
    exact a_zret C E dX8_namesPerson_17 (Nat.le_refl _) (Nat.le_refl _) (by decide) (hpost _ _ hK)
  · replace hK := hK.2 q2
    refine a_iload_n C dX8_namesPerson_6 rfl ?_
    refine a_bipush C dX8_namesPerson_7 (by decide) ?_
    refine a_icmp_gt C 16 dX8_namesPerson_9 (by decide) ⟨q1, ⟨by decide, by decide⟩⟩ (fun q3 => ?_) (fun q3 => ?_)
    · replace hK := hK.1 q3
      refine a_iconst C dX8_namesPerson_16 ?_
      exact a_zret C E dX8_namesPerson_17 (Nat.le_refl _) (Nat.le_refl _) (by decide) (hpost _ _ hK)
    · replace hK := hK.2 q3
      refine a_iconst C dX8_namesPerson_12 ?_
      refine a_goto C 17 dX8_namesPerson_13 (by decide) ?_
      exact a_zret C E dX8_namesPerson_17 (Nat.le_refl _) (Nat.le_refl _) (by decide) (hpost _ _ hK)

def m8_stageBehind  (V : zV) (a1 : Int) (a2 : Int) (a3 : Int) (Q : Int → zV → Prop) : Prop :=
  m8_codeAt V a2 (fun r2 V2 => (inR a1) ∧ (a1 = 0 → m10_kindOfLetter V2 r2 (fun r42 V42 => (inR r42) ∧ ((r42 = 0 → m8_namesPerson V42 r2 (fun r52 V52 => (inR r52) ∧ ((r52 = 0 → Q (-1) V52) ∧ (¬ r52 = 0 → Q 2 V52)))) ∧ (¬ r42 = 0 → Q 1 V42)))) ∧ (a1 = 1 → m8_namesPerson V2 r2 (fun r66 V66 => (inR r66) ∧ ((r66 = 0 → Q (-1) V66) ∧ (¬ r66 = 0 → Q 2 V66)))) ∧ (a1 = 2 → m8_namesPerson V2 r2 (fun r80 V80 => (inR r80) ∧ ((r80 = 0 → Q (-1) V80) ∧ (¬ r80 = 0 → m8_codeAt V80 (a2 - 1) (fun r92 V92 => (inR r2) ∧ (inR r92) ∧ ((r2 = r92 → Q (-1) V92) ∧ (¬ r2 = r92 → Q 3 V92))))))) ∧ (a1 = 3 → (inR r2) ∧ ((r2 < 49 → Q (-1) V2) ∧ (49 ≤ r2 → ((57 < r2 → Q (-1) V2) ∧ (r2 ≤ 57 → Q 4 V2))))) ∧ (a1 < 0 ∨ 3 < a1 → (inR r2) ∧ ((¬ r2 = 44 → Q (-1) V2) ∧ (r2 = 44 → (inR a3) ∧ ((8 ≤ a3 → Q (-1) V2) ∧ (a3 < 8 → Q 0 V2))))))
def t8_stageBehind : zT := fun as S V post => ∃ (a1 : Int) (a2 : Int) (a3 : Int) (Q : Int → zV → Prop), as = [zR 1, zI a1, zI a2, zI a3] ∧ PSp S ∧ m8_stageBehind V a1 a2 a3 Q ∧ (∀ r V2, Q r V2 → post (some (zI r)) S V2)
set_option maxHeartbeats 4000000 in
set_option maxRecDepth 20000 in
theorem c8_stageBehind (l : Launch) : zCT l yX8_stageBehind cX8_stageBehind 5 (some .int) { frames := 1, cells := 0, slots := 0, locals := 21 } t8_stageBehind := by
  refine zCT_of (by decide) (fun as S V post h => by obtain ⟨a1, a2, a3, Q, rfl, -⟩ := h; exact Nat.le_of_ble_eq_true rfl) ?_
  intro X S V as post C E hT
  obtain ⟨a1, a2, a3, Q, rfl, hP, hK, hpost⟩ := hT
  obtain ⟨w_1, r_1, h_1, g_1_0⟩ := PSp_1 hP
  show zW X S V 0 0 [some (zR 1), some (zI a1), some (zI a2), some (zI a3), none] [] 0
  unfold m8_stageBehind at hK
  refine a_aload_n C dX8_stageBehind_0 rfl ?_
  refine a_iload_n C dX8_stageBehind_1 rfl ?_
  refine a_callV (as := [zI a2]) (rest := []) C 1 (fun l => c8_codeAt l) h_1 ⟨_, _, rfl⟩ (by decide) ml_X8_32 im_X8_codeAt se_X8_codeAt in_X8 co_X8_codeAt (by decide +kernel) rfl ⟨Nat.le_of_ble_eq_true rfl, Nat.le_of_ble_eq_true rfl⟩ (Nat.le_of_ble_eq_true rfl) dX8_stageBehind_2 ⟨Nat.le_of_ble_eq_true rfl, Nat.le_of_ble_eq_true rfl⟩ ?_
  refine ⟨a2, _, rfl, hP, hK, fun r2 V2 hK => ?_⟩
  try dsimp only [Option.toList, List.cons_append, List.nil_append]
  refine a_istore C dX8_stageBehind_5 (Nat.le_of_ble_eq_true rfl) ?_
  refine a_iload_n C dX8_stageBehind_7 rfl ?_
  obtain ⟨q1, hK⟩ := hK
  by_cases q2 : a1 = 0
  · refine a_tswIn C 0 40 dX8_stageBehind_8 (by omega) q1 (by decide) rfl (by decide) ?_
    replace hK := hK.1 q2
    refine a_iload C dX8_stageBehind_40 rfl ?_
    refine a_callS (as := [zI r2]) (rest := []) C 1 (fun l => c10_kindOfLetter l) ml_X8_36 sa_X10_kindOfLetter in_X10 co_X10_kindOfLetter (by decide +kernel) rfl ⟨Nat.le_of_ble_eq_true rfl, Nat.le_of_ble_eq_true rfl⟩ (Nat.le_of_ble_eq_true rfl) dX8_stageBehind_42 ⟨Nat.le_of_ble_eq_true rfl, Nat.le_of_ble_eq_true rfl⟩ ?_
    refine ⟨r2, _, rfl, hK, fun r42 V42 hK => ?_⟩
    try dsimp only [Option.toList, List.cons_append, List.nil_append]
    obtain ⟨q3, hK⟩ := hK
    refine a_if_eq C 50 dX8_stageBehind_45 (by decide) q3 (fun q4 => ?_) (fun q4 => ?_)
    · replace hK := hK.1 q4
      refine a_iload C dX8_stageBehind_50 rfl ?_
      refine a_callS (as := [zI r2]) (rest := []) C 1 (fun l => c8_namesPerson l) ml_X8_41 sa_X8_namesPerson in_X8 co_X8_namesPerson (by decide +kernel) rfl ⟨Nat.le_of_ble_eq_true rfl, Nat.le_of_ble_eq_true rfl⟩ (Nat.le_of_ble_eq_true rfl) dX8_stageBehind_52 ⟨Nat.le_of_ble_eq_true rfl, Nat.le_of_ble_eq_true rfl⟩ ?_
      refine ⟨r2, _, rfl, hK, fun r52 V52 hK => ?_⟩
      try dsimp only [Option.toList, List.cons_append, List.nil_append]
      obtain ⟨q5, hK⟩ := hK
      refine a_if_eq C 62 dX8_stageBehind_55 (by decide) q5 (fun q6 => ?_) (fun q6 => ?_)
      · replace hK := hK.1 q6
        refine a_iconst C dX8_stageBehind_62 ?_
        exact a_iret C E dX8_stageBehind_63 (Nat.le_refl _) (Nat.le_refl _) (hpost _ _ hK)
      · replace hK := hK.2 q6
        refine a_iconst C dX8_stageBehind_58 ?_
        refine a_goto C 63 dX8_stageBehind_59 (by decide) ?_
        exact a_iret C E dX8_stageBehind_63 (Nat.le_refl _) (Nat.le_refl _) (hpost _ _ hK)
    · replace hK := hK.2 q4
      refine a_iconst C dX8_stageBehind_48 ?_
      exact a_iret C E dX8_stageBehind_49 (Nat.le_refl _) (Nat.le_refl _) (hpost _ _ hK)
  replace hK := hK.2
  by_cases q7 : a1 = 1
  · refine a_tswIn C 1 64 dX8_stageBehind_8 (by omega) q1 (by decide) rfl (by decide) ?_
    replace hK := hK.1 q7
    refine a_iload C dX8_stageBehind_64 rfl ?_
    refine a_callS (as := [zI r2]) (rest := []) C 1 (fun l => c8_namesPerson l) ml_X8_41 sa_X8_namesPerson in_X8 co_X8_namesPerson (by decide +kernel) rfl ⟨Nat.le_of_ble_eq_true rfl, Nat.le_of_ble_eq_true rfl⟩ (Nat.le_of_ble_eq_true rfl) dX8_stageBehind_66 ⟨Nat.le_of_ble_eq_true rfl, Nat.le_of_ble_eq_true rfl⟩ ?_
    refine ⟨r2, _, rfl, hK, fun r66 V66 hK => ?_⟩
    try dsimp only [Option.toList, List.cons_append, List.nil_append]
    obtain ⟨q8, hK⟩ := hK
    refine a_if_eq C 76 dX8_stageBehind_69 (by decide) q8 (fun q9 => ?_) (fun q9 => ?_)
    · replace hK := hK.1 q9
      refine a_iconst C dX8_stageBehind_76 ?_
      exact a_iret C E dX8_stageBehind_77 (Nat.le_refl _) (Nat.le_refl _) (hpost _ _ hK)
    · replace hK := hK.2 q9
      refine a_iconst C dX8_stageBehind_72 ?_
      refine a_goto C 77 dX8_stageBehind_73 (by decide) ?_
      exact a_iret C E dX8_stageBehind_77 (Nat.le_refl _) (Nat.le_refl _) (hpost _ _ hK)
  replace hK := hK.2
  by_cases q10 : a1 = 2
  · refine a_tswIn C 2 78 dX8_stageBehind_8 (by omega) q1 (by decide) rfl (by decide) ?_
    replace hK := hK.1 q10
    refine a_iload C dX8_stageBehind_78 rfl ?_
    refine a_callS (as := [zI r2]) (rest := []) C 1 (fun l => c8_namesPerson l) ml_X8_41 sa_X8_namesPerson in_X8 co_X8_namesPerson (by decide +kernel) rfl ⟨Nat.le_of_ble_eq_true rfl, Nat.le_of_ble_eq_true rfl⟩ (Nat.le_of_ble_eq_true rfl) dX8_stageBehind_80 ⟨Nat.le_of_ble_eq_true rfl, Nat.le_of_ble_eq_true rfl⟩ ?_
    refine ⟨r2, _, rfl, hK, fun r80 V80 hK => ?_⟩
    try dsimp only [Option.toList, List.cons_append, List.nil_append]
    obtain ⟨q11, hK⟩ := hK
    refine a_if_eq C 102 dX8_stageBehind_83 (by decide) q11 (fun q12 => ?_) (fun q12 => ?_)
    · replace hK := hK.1 q12
      refine a_iconst C dX8_stageBehind_102 ?_
      exact a_iret C E dX8_stageBehind_103 (Nat.le_refl _) (Nat.le_refl _) (hpost _ _ hK)
    · replace hK := hK.2 q12
      refine a_iload C dX8_stageBehind_86 rfl ?_
      refine a_aload_n C dX8_stageBehind_88 rfl ?_
      refine a_iload_n C dX8_stageBehind_89 rfl ?_
      refine a_iconst C dX8_stageBehind_90 ?_
      refine a_isub C dX8_stageBehind_91 ?_
      refine a_callV (as := [zI (a2 - 1)]) (rest := [zI r2]) C 1 (fun l => c8_codeAt l) h_1 ⟨_, _, rfl⟩ (by decide) ml_X8_32 im_X8_codeAt se_X8_codeAt in_X8 co_X8_codeAt (by decide +kernel) rfl ⟨Nat.le_of_ble_eq_true rfl, Nat.le_of_ble_eq_true rfl⟩ (Nat.le_of_ble_eq_true rfl) dX8_stageBehind_92 ⟨Nat.le_of_ble_eq_true rfl, Nat.le_of_ble_eq_true rfl⟩ ?_
      refine ⟨(a2 - 1), _, rfl, hP, hK, fun r92 V92 hK => ?_⟩
      try dsimp only [Option.toList, List.cons_append, List.nil_append]
      obtain ⟨q13, hK⟩ := hK
      obtain ⟨q14, hK⟩ := hK
      refine a_icmp_eq C 102 dX8_stageBehind_95 (by decide) ⟨q13, q14⟩ (fun q15 => ?_) (fun q15 => ?_)
      · replace hK := hK.1 q15
        refine a_iconst C dX8_stageBehind_102 ?_
        exact a_iret C E dX8_stageBehind_103 (Nat.le_refl _) (Nat.le_refl _) (hpost _ _ hK)
      · replace hK := hK.2 q15
        refine a_iconst C dX8_stageBehind_98 ?_
        refine a_goto C 103 dX8_stageBehind_99 (by decide) ?_
        exact a_iret C E dX8_stageBehind_103 (Nat.le_refl _) (Nat.le_refl _) (hpost _ _ hK)
  replace hK := hK.2
  by_cases q16 : a1 = 3
  · refine a_tswIn C 3 104 dX8_stageBehind_8 (by omega) q1 (by decide) rfl (by decide) ?_
    replace hK := hK.1 q16
    refine a_iload C dX8_stageBehind_104 rfl ?_
    refine a_bipush C dX8_stageBehind_106 (by decide) ?_
    obtain ⟨q17, hK⟩ := hK
    refine a_icmp_lt C 122 dX8_stageBehind_108 (by decide) ⟨q17, ⟨by decide, by decide⟩⟩ (fun q18 => ?_) (fun q18 => ?_)
    · replace hK := hK.1 q18
      refine a_iconst C dX8_stageBehind_122 ?_
      exact a_iret C E dX8_stageBehind_123 (Nat.le_refl _) (Nat.le_refl _) (hpost _ _ hK)
    · replace hK := hK.2 q18
      refine a_iload C dX8_stageBehind_111 rfl ?_
      refine a_bipush C dX8_stageBehind_113 (by decide) ?_
      refine a_icmp_gt C 122 dX8_stageBehind_115 (by decide) ⟨q17, ⟨by decide, by decide⟩⟩ (fun q19 => ?_) (fun q19 => ?_)
      · replace hK := hK.1 q19
        refine a_iconst C dX8_stageBehind_122 ?_
        exact a_iret C E dX8_stageBehind_123 (Nat.le_refl _) (Nat.le_refl _) (hpost _ _ hK)
      · replace hK := hK.2 q19
        refine a_iconst C dX8_stageBehind_118 ?_
        refine a_goto C 123 dX8_stageBehind_119 (by decide) ?_
        exact a_iret C E dX8_stageBehind_123 (Nat.le_refl _) (Nat.le_refl _) (hpost _ _ hK)
  replace hK := hK.2
  have q20 : a1 < 0 ∨ 3 < a1 := by omega
  refine a_tswOut C 124 dX8_stageBehind_8 q1 q20 (by decide) ?_
  replace hK := hK q20
  refine a_iload C dX8_stageBehind_124 rfl ?_
  refine a_bipush C dX8_stageBehind_126 (by decide) ?_
  obtain ⟨q21, hK⟩ := hK
  refine a_icmp_ne C 141 dX8_stageBehind_128 (by decide) ⟨q21, ⟨by decide, by decide⟩⟩ (fun q22 => ?_) (fun q22 => ?_)
  · replace hK := hK.1 q22
    refine a_iconst C dX8_stageBehind_141 ?_
    exact a_iret C E dX8_stageBehind_142 (Nat.le_refl _) (Nat.le_refl _) (hpost _ _ hK)
  · replace hK := hK.2 q22
    refine a_iload_n C dX8_stageBehind_131 rfl ?_
    refine a_bipush C dX8_stageBehind_132 (by decide) ?_
    obtain ⟨q23, hK⟩ := hK
    refine a_icmp_ge C 141 dX8_stageBehind_134 (by decide) ⟨q23, ⟨by decide, by decide⟩⟩ (fun q24 => ?_) (fun q24 => ?_)
    · replace hK := hK.1 q24
      refine a_iconst C dX8_stageBehind_141 ?_
      exact a_iret C E dX8_stageBehind_142 (Nat.le_refl _) (Nat.le_refl _) (hpost _ _ hK)
    · replace hK := hK.2 q24
      refine a_iconst C dX8_stageBehind_137 ?_
      refine a_goto C 142 dX8_stageBehind_138 (by decide) ?_
      exact a_iret C E dX8_stageBehind_142 (Nat.le_refl _) (Nat.le_refl _) (hpost _ _ hK)

def m8_scan_L6  (Q : zV → Prop) : Nat → Int → Int → Int → zV → Prop
  | 0 => fun _ _ _ _ => False
  | n + 1 => fun a1 a2 a3 V => (inR a3) ∧ (((V 1 1) ≤ a3 → (inR a1) ∧ Q (vset (vset V 1 2 a3) 1 3 a1)) ∧ (a3 < (V 1 1) → m8_stageBehind V a1 a3 a2 (fun r18 V18 => (inR r18) ∧ ((¬ r18 = (-1) → ((¬ r18 = 4 → m8_scan_L6  Q n r18 a2 (a3 + 1) V18) ∧ (r18 = 4 → m8_scan_L6  Q n r18 (a2 + 1) (a3 + 1) V18))) ∧ (r18 = (-1) → (inR a1) ∧ Q (vset (vset V18 1 2 a3) 1 3 a1))))))
def m8_scan  (V : zV)  (Q : zV → Prop) : Prop :=
  ∃ nn17, m8_scan_L6  Q nn17 0 0 0 V
def t8_scan : zT := fun as S V post => ∃ (Q : zV → Prop), as = [zR 1] ∧ PSp S ∧ m8_scan V Q ∧ (∀ V2, Q V2 → post none S V2)
set_option maxHeartbeats 4000000 in
set_option maxRecDepth 20000 in
theorem c8_scan (l : Launch) : zCT l yX8_scan cX8_scan 5 none { frames := 2, cells := 0, slots := 0, locals := 45 } t8_scan := by
  refine zCT_of (by decide) (fun as S V post h => by obtain ⟨Q, rfl, -⟩ := h; exact Nat.le_of_ble_eq_true rfl) ?_
  intro X S V as post C E hT
  obtain ⟨Q, rfl, hP, hK, hpost⟩ := hT
  obtain ⟨w_1, r_1, h_1, g_1_0⟩ := PSp_1 hP
  show zW X S V 0 0 [some (zR 1), none, none, none, none] [] 0
  unfold m8_scan at hK
  have L6 : ∀ (n : Nat) (a1 : Int) (a2 : Int) (a3 : Int) (V : zV), m8_scan_L6  Q n a1 a2 a3 V → zW X S V 0 0 [some (zR 1), some (zI a1), some (zI a2), some (zI a3), none] [] 6 := by
    intro n6
    induction n6 with
    | zero => intro _ _ _ _ hK; exact hK.elim
    | succ n6 ih6 =>
      intro a1 a2 a3 V hK
      unfold m8_scan_L6 at hK
      refine a_iload_n C dX8_scan_6 rfl ?_
      refine a_aload_n C dX8_scan_7 rfl ?_
      refine a_getI C fl_X8_15_8 h_1 rfl dX8_scan_8 (fun r9 => ?_)
      obtain ⟨q10, hK⟩ := hK
      refine a_icmp_ge C 50 dX8_scan_11 (by decide) ⟨q10, r9⟩ (fun q11 => ?_) (fun q11 => ?_)
      · replace hK := hK.1 q11
        refine a_aload_n C dX8_scan_50 rfl ?_
        refine a_iload_n C dX8_scan_51 rfl ?_
        refine a_putI C fl_X8_19_8 (Or.inl rfl) h_1 rfl dX8_scan_52 ⟨q10, fun q => by cases q⟩ ?_
        refine a_aload_n C dX8_scan_55 rfl ?_
        refine a_iload_n C dX8_scan_56 rfl ?_
        obtain ⟨q12, hK⟩ := hK
        refine a_putI C fl_X8_22_8 (Or.inl rfl) h_1 rfl dX8_scan_57 ⟨q12, fun q => by cases q⟩ ?_
        exact a_vret C E dX8_scan_60 (Nat.le_refl _) (Nat.le_refl _) (hpost _ hK)
      · replace hK := hK.2 q11
        refine a_aload_n C dX8_scan_14 rfl ?_
        refine a_iload_n C dX8_scan_15 rfl ?_
        refine a_iload_n C dX8_scan_16 rfl ?_
        refine a_iload_n C dX8_scan_17 rfl ?_
        refine a_callV (as := [zI a1, zI a3, zI a2]) (rest := []) C 3 (fun l => c8_stageBehind l) h_1 ⟨_, _, rfl⟩ (by decide) ml_X8_28 im_X8_stageBehind se_X8_stageBehind in_X8 co_X8_stageBehind (by decide +kernel) rfl ⟨Nat.le_of_ble_eq_true rfl, Nat.le_of_ble_eq_true rfl⟩ (Nat.le_of_ble_eq_true rfl) dX8_scan_18 ⟨Nat.le_of_ble_eq_true rfl, Nat.le_of_ble_eq_true rfl⟩ ?_
        refine ⟨a1, a3, a2, _, rfl, hP, hK, fun r18 V18 hK => ?_⟩
        try dsimp only [Option.toList, List.cons_append, List.nil_append]
        refine a_istore C dX8_scan_21 (Nat.le_of_ble_eq_true rfl) ?_
        refine a_iload C dX8_scan_23 rfl ?_
        refine a_iconst C dX8_scan_25 ?_
        obtain ⟨q13, hK⟩ := hK
        refine a_icmp_ne C 32 dX8_scan_26 (by decide) ⟨q13, ⟨by decide, by decide⟩⟩ (fun q14 => ?_) (fun q14 => ?_)
        · replace hK := hK.1 q14
          refine a_iload C dX8_scan_32 rfl ?_
          refine a_iconst C dX8_scan_34 ?_
          refine a_icmp_ne C 41 dX8_scan_35 (by decide) ⟨q13, ⟨by decide, by decide⟩⟩ (fun q15 => ?_) (fun q15 => ?_)
          · replace hK := hK.1 q15
            refine a_iload C dX8_scan_41 rfl ?_
            refine a_istore_n C dX8_scan_43 (Nat.le_of_ble_eq_true rfl) ?_
            refine a_iinc C dX8_scan_44 rfl (Nat.le_of_ble_eq_true rfl) ?_
            refine a_goto C 6 dX8_scan_47 (by decide) ?_
            exact a_ls (lsub_s rfl (lsub_s rfl (lsub_s rfl (lsub_s rfl (lsub_n lsub_0))))) (ih6 r18 a2 (a3 + 1) _ hK)
          · replace hK := hK.2 q15
            refine a_iinc C dX8_scan_38 rfl (Nat.le_of_ble_eq_true rfl) ?_
            refine a_iload C dX8_scan_41 rfl ?_
            refine a_istore_n C dX8_scan_43 (Nat.le_of_ble_eq_true rfl) ?_
            refine a_iinc C dX8_scan_44 rfl (Nat.le_of_ble_eq_true rfl) ?_
            refine a_goto C 6 dX8_scan_47 (by decide) ?_
            exact a_ls (lsub_s rfl (lsub_s rfl (lsub_s rfl (lsub_s rfl (lsub_n lsub_0))))) (ih6 r18 (a2 + 1) (a3 + 1) _ hK)
        · replace hK := hK.2 q14
          refine a_goto C 50 dX8_scan_29 (by decide) ?_
          refine a_aload_n C dX8_scan_50 rfl ?_
          refine a_iload_n C dX8_scan_51 rfl ?_
          refine a_putI C fl_X8_19_8 (Or.inl rfl) h_1 rfl dX8_scan_52 ⟨q10, fun q => by cases q⟩ ?_
          refine a_aload_n C dX8_scan_55 rfl ?_
          refine a_iload_n C dX8_scan_56 rfl ?_
          obtain ⟨q16, hK⟩ := hK
          refine a_putI C fl_X8_22_8 (Or.inl rfl) h_1 rfl dX8_scan_57 ⟨q16, fun q => by cases q⟩ ?_
          exact a_vret C E dX8_scan_60 (Nat.le_refl _) (Nat.le_refl _) (hpost _ hK)
  refine a_iconst C dX8_scan_0 ?_
  refine a_istore_n C dX8_scan_1 (Nat.le_of_ble_eq_true rfl) ?_
  refine a_iconst C dX8_scan_2 ?_
  refine a_istore_n C dX8_scan_3 (Nat.le_of_ble_eq_true rfl) ?_
  refine a_iconst C dX8_scan_4 ?_
  refine a_istore_n C dX8_scan_5 (Nat.le_of_ble_eq_true rfl) ?_
  obtain ⟨nn17, hK⟩ := hK
  exact a_ls (lsub_s rfl (lsub_s rfl (lsub_s rfl (lsub_s rfl (lsub_n lsub_0))))) (L6 nn17 0 0 0 _ hK)

def m8_isList  (V : zV)  (Q : Int → zV → Prop) : Prop :=
  m8_scan V (fun V1 => ((¬ (V1 1 2) = (V1 1 1) → Q 0 V1) ∧ ((V1 1 2) = (V1 1 1) → ((¬ (V1 1 3) = 4 → Q 0 V1) ∧ ((V1 1 3) = 4 → Q 1 V1)))))
def t8_isList : zT := fun as S V post => ∃ (Q : Int → zV → Prop), as = [zR 1] ∧ PSp S ∧ m8_isList V Q ∧ (∀ r V2, Q r V2 → post (some (zI r)) S V2)
set_option maxHeartbeats 4000000 in
set_option maxRecDepth 20000 in
theorem c8_isList (l : Launch) : zCT l yX8_isList cX8_isList 1 (some .boolean) { frames := 3, cells := 0, slots := 0, locals := 69 } t8_isList := by
  refine zCT_of (by decide) (fun as S V post h => by obtain ⟨Q, rfl, -⟩ := h; exact Nat.le_of_ble_eq_true rfl) ?_
  intro X S V as post C E hT
  obtain ⟨Q, rfl, hP, hK, hpost⟩ := hT
  obtain ⟨w_1, r_1, h_1, g_1_0⟩ := PSp_1 hP
  show zW X S V 0 0 [some (zR 1)] [] 0
  unfold m8_isList at hK
  refine a_aload_n C dX8_isList_0 rfl ?_
  refine a_callV (as := []) (rest := []) C 0 (fun l => c8_scan l) h_1 ⟨_, _, rfl⟩ (by decide) ml_X8_25 im_X8_scan se_X8_scan in_X8 co_X8_scan (by decide +kernel) rfl ⟨Nat.le_of_ble_eq_true rfl, Nat.le_of_ble_eq_true rfl⟩ (Nat.le_of_ble_eq_true rfl) dX8_isList_1 ⟨Nat.le_of_ble_eq_true rfl, Nat.le_of_ble_eq_true rfl⟩ ?_
  refine ⟨_, rfl, hP, hK, fun V1 hK => ?_⟩
  try dsimp only [Option.toList, List.cons_append, List.nil_append]
  refine a_aload_n C dX8_isList_4 rfl ?_
  refine a_getI C fl_X8_19_8 h_1 rfl dX8_isList_5 (fun r1 => ?_)
  refine a_aload_n C dX8_isList_8 rfl ?_
  refine a_getI C fl_X8_15_8 h_1 rfl dX8_isList_9 (fun r2 => ?_)
  refine a_icmp_ne C 27 dX8_isList_12 (by decide) ⟨r1, r2⟩ (fun q3 => ?_) (fun q3 => ?_)
  · replace hK := hK.1 q3
    refine a_iconst C dX8_isList_27 ?_
    exact a_zret C E dX8_isList_28 (Nat.le_refl _) (Nat.le_refl _) (by decide) (hpost _ _ hK)
  · replace hK := hK.2 q3
    refine a_aload_n C dX8_isList_15 rfl ?_
    refine a_getI C fl_X8_22_8 h_1 rfl dX8_isList_16 (fun r4 => ?_)
    refine a_iconst C dX8_isList_19 ?_
    refine a_icmp_ne C 27 dX8_isList_20 (by decide) ⟨r4, ⟨by decide, by decide⟩⟩ (fun q5 => ?_) (fun q5 => ?_)
    · replace hK := hK.1 q5
      refine a_iconst C dX8_isList_27 ?_
      exact a_zret C E dX8_isList_28 (Nat.le_refl _) (Nat.le_refl _) (by decide) (hpost _ _ hK)
    · replace hK := hK.2 q5
      refine a_iconst C dX8_isList_23 ?_
      refine a_goto C 28 dX8_isList_24 (by decide) ?_
      exact a_zret C E dX8_isList_28 (Nat.le_refl _) (Nat.le_refl _) (by decide) (hpost _ _ hK)

def m11_letter (S : List zC) (V : zV) (a1 : Int) (Q : Int → zV → Prop) : Prop :=
  (inR a1) ∧ ((a1 < 1 → Q (-102) V) ∧ (1 ≤ a1 → ((a1 ≤ 126 → m8_write V a1 (fun r19 V19 => (inR r19) ∧ ((r19 = 0 → Q (-104) V19) ∧ (¬ r19 = 0 → Q (V19 1 1) V19)))) ∧ (126 < a1 → Q (-102) V))))
def t11_letter : zT := fun as S V post => ∃ (a1 : Int) (Q : Int → zV → Prop), as = [zR 0, zI a1] ∧ PSx S ∧ m11_letter S V a1 Q ∧ (∀ r V2, Q r V2 → post (some (zI r)) S V2)
set_option maxHeartbeats 4000000 in
set_option maxRecDepth 20000 in
theorem c11_letter (l : Launch) : zCT l yX11_letter cX11_letter 2 (some .int) { frames := 1, cells := 0, slots := 0, locals := 21 } t11_letter := by
  refine zCT_of (by decide) (fun as S V post h => by obtain ⟨a1, Q, rfl, -⟩ := h; exact Nat.le_of_ble_eq_true rfl) ?_
  intro X S V as post C E hT
  obtain ⟨a1, Q, rfl, hX, hK, hpost⟩ := hT
  obtain ⟨w_0, r_0, h_0, g_0_0, g_0_1, g_0_2, g_0_3, g_0_4, g_0_5, g_0_6, g_0_7⟩ := PSx_0 hX
  obtain ⟨w_1, r_1, h_1, g_1_0⟩ := PSp_1 (PSx_p hX)
  show zW X S V 0 0 [some (zR 0), some (zI a1)] [] 0
  unfold m11_letter at hK
  refine a_iload_n C dX11_letter_0 rfl ?_
  refine a_iconst C dX11_letter_1 ?_
  obtain ⟨q1, hK⟩ := hK
  refine a_icmp_lt C 11 dX11_letter_2 (by decide) ⟨q1, ⟨by decide, by decide⟩⟩ (fun q2 => ?_) (fun q2 => ?_)
  · replace hK := hK.1 q2
    refine a_bipush C dX11_letter_11 (by decide) ?_
    exact a_iret C E dX11_letter_13 (Nat.le_refl _) (Nat.le_refl _) (hpost _ _ hK)
  · replace hK := hK.2 q2
    refine a_iload_n C dX11_letter_5 rfl ?_
    refine a_bipush C dX11_letter_6 (by decide) ?_
    refine a_icmp_le C 14 dX11_letter_8 (by decide) ⟨q1, ⟨by decide, by decide⟩⟩ (fun q3 => ?_) (fun q3 => ?_)
    · replace hK := hK.1 q3
      refine a_aload_n C dX11_letter_14 rfl ?_
      refine a_getR C fl_X11_10_11 h_0 rfl g_0_0 dX11_letter_15 ?_
      refine a_iload_n C dX11_letter_18 rfl ?_
      refine a_callV (as := [zI a1]) (rest := []) C 1 (fun l => c8_write l) h_1 ⟨_, _, rfl⟩ (by decide) ml_X11_67 im_X8_write se_X8_write in_X8 co_X8_write (by decide +kernel) rfl ⟨Nat.le_of_ble_eq_true rfl, Nat.le_of_ble_eq_true rfl⟩ (Nat.le_of_ble_eq_true rfl) dX11_letter_19 ⟨Nat.le_of_ble_eq_true rfl, Nat.le_of_ble_eq_true rfl⟩ ?_
      refine ⟨a1, _, rfl, (PSx_p hX), hK, fun r19 V19 hK => ?_⟩
      try dsimp only [Option.toList, List.cons_append, List.nil_append]
      obtain ⟨q4, hK⟩ := hK
      refine a_if_eq C 35 dX11_letter_22 (by decide) q4 (fun q5 => ?_) (fun q5 => ?_)
      · replace hK := hK.1 q5
        refine a_bipush C dX11_letter_35 (by decide) ?_
        exact a_iret C E dX11_letter_37 (Nat.le_refl _) (Nat.le_refl _) (hpost _ _ hK)
      · replace hK := hK.2 q5
        refine a_aload_n C dX11_letter_25 rfl ?_
        refine a_getR C fl_X11_10_11 h_0 rfl g_0_0 dX11_letter_26 ?_
        refine a_getI C fl_X11_71_8 h_1 rfl dX11_letter_29 (fun r6 => ?_)
        refine a_goto C 37 dX11_letter_32 (by decide) ?_
        exact a_iret C E dX11_letter_37 (Nat.le_refl _) (Nat.le_refl _) (hpost _ _ hK)
    · replace hK := hK.2 q3
      refine a_bipush C dX11_letter_11 (by decide) ?_
      exact a_iret C E dX11_letter_13 (Nat.le_refl _) (Nat.le_refl _) (hpost _ _ hK)

def m11_blank (S : List zC) (V : zV)  (Q : Int → zV → Prop) : Prop :=
  m8_wipe V (fun r4 V4 => Q r4 V4)
def t11_blank : zT := fun as S V post => ∃ (Q : Int → zV → Prop), as = [zR 0] ∧ PSx S ∧ m11_blank S V Q ∧ (∀ r V2, Q r V2 → post (some (zI r)) S V2)
set_option maxHeartbeats 4000000 in
set_option maxRecDepth 20000 in
theorem c11_blank (l : Launch) : zCT l yX11_blank cX11_blank 1 (some .int) { frames := 1, cells := 0, slots := 0, locals := 21 } t11_blank := by
  refine zCT_of (by decide) (fun as S V post h => by obtain ⟨Q, rfl, -⟩ := h; exact Nat.le_of_ble_eq_true rfl) ?_
  intro X S V as post C E hT
  obtain ⟨Q, rfl, hX, hK, hpost⟩ := hT
  obtain ⟨w_0, r_0, h_0, g_0_0, g_0_1, g_0_2, g_0_3, g_0_4, g_0_5, g_0_6, g_0_7⟩ := PSx_0 hX
  obtain ⟨w_1, r_1, h_1, g_1_0⟩ := PSp_1 (PSx_p hX)
  show zW X S V 0 0 [some (zR 0)] [] 0
  unfold m11_blank at hK
  refine a_aload_n C dX11_blank_0 rfl ?_
  refine a_getR C fl_X11_10_11 h_0 rfl g_0_0 dX11_blank_1 ?_
  refine a_callV (as := []) (rest := []) C 0 (fun l => c8_wipe l) h_1 ⟨_, _, rfl⟩ (by decide) ml_X11_74 im_X8_wipe se_X8_wipe in_X8 co_X8_wipe (by decide +kernel) rfl ⟨Nat.le_of_ble_eq_true rfl, Nat.le_of_ble_eq_true rfl⟩ (Nat.le_of_ble_eq_true rfl) dX11_blank_4 ⟨Nat.le_of_ble_eq_true rfl, Nat.le_of_ble_eq_true rfl⟩ ?_
  refine ⟨_, rfl, (PSx_p hX), hK, fun r4 V4 hK => ?_⟩
  try dsimp only [Option.toList, List.cons_append, List.nil_append]
  exact a_iret C E dX11_blank_7 (Nat.le_refl _) (Nat.le_refl _) (hpost _ _ hK)

def m11_fault (S : List zC) (V : zV)  (Q : Int → zV → Prop) : Prop :=
  m8_scan V (fun V4 => Q (V4 1 2) V4)
def t11_fault : zT := fun as S V post => ∃ (Q : Int → zV → Prop), as = [zR 0] ∧ PSx S ∧ m11_fault S V Q ∧ (∀ r V2, Q r V2 → post (some (zI r)) S V2)
set_option maxHeartbeats 4000000 in
set_option maxRecDepth 20000 in
theorem c11_fault (l : Launch) : zCT l yX11_fault cX11_fault 1 (some .int) { frames := 3, cells := 0, slots := 0, locals := 69 } t11_fault := by
  refine zCT_of (by decide) (fun as S V post h => by obtain ⟨Q, rfl, -⟩ := h; exact Nat.le_of_ble_eq_true rfl) ?_
  intro X S V as post C E hT
  obtain ⟨Q, rfl, hX, hK, hpost⟩ := hT
  obtain ⟨w_0, r_0, h_0, g_0_0, g_0_1, g_0_2, g_0_3, g_0_4, g_0_5, g_0_6, g_0_7⟩ := PSx_0 hX
  obtain ⟨w_1, r_1, h_1, g_1_0⟩ := PSp_1 (PSx_p hX)
  show zW X S V 0 0 [some (zR 0)] [] 0
  unfold m11_fault at hK
  refine a_aload_n C dX11_fault_0 rfl ?_
  refine a_getR C fl_X11_10_11 h_0 rfl g_0_0 dX11_fault_1 ?_
  refine a_callV (as := []) (rest := []) C 0 (fun l => c8_scan l) h_1 ⟨_, _, rfl⟩ (by decide) ml_X11_78 im_X8_scan se_X8_scan in_X8 co_X8_scan (by decide +kernel) rfl ⟨Nat.le_of_ble_eq_true rfl, Nat.le_of_ble_eq_true rfl⟩ (Nat.le_of_ble_eq_true rfl) dX11_fault_4 ⟨Nat.le_of_ble_eq_true rfl, Nat.le_of_ble_eq_true rfl⟩ ?_
  refine ⟨_, rfl, (PSx_p hX), hK, fun V4 hK => ?_⟩
  try dsimp only [Option.toList, List.cons_append, List.nil_append]
  refine a_aload_n C dX11_fault_7 rfl ?_
  refine a_getR C fl_X11_10_11 h_0 rfl g_0_0 dX11_fault_8 ?_
  refine a_getI C fl_X11_81_8 h_1 rfl dX11_fault_11 (fun r1 => ?_)
  exact a_iret C E dX11_fault_14 (Nat.le_refl _) (Nat.le_refl _) (hpost _ _ hK)

def m11_isFeud (S : List zC) (V : zV) (a1 : Int) (Q : Int → zV → Prop) : Prop :=
  (inR a1) ∧ ((a1 < 0 → Q 0 V) ∧ (0 ≤ a1 → (((V 3 2) ≤ a1 → Q 0 V) ∧ (a1 < (V 3 2) → Q 1 V))))
def t11_isFeud : zT := fun as S V post => ∃ (a1 : Int) (Q : Int → zV → Prop), as = [zR 0, zI a1] ∧ PSx S ∧ m11_isFeud S V a1 Q ∧ (∀ r V2, Q r V2 → post (some (zI r)) S V2)
set_option maxHeartbeats 4000000 in
set_option maxRecDepth 20000 in
theorem c11_isFeud (l : Launch) : zCT l yX11_isFeud cX11_isFeud 2 (some .boolean) { frames := 0, cells := 0, slots := 0, locals := 0 } t11_isFeud := by
  refine zCT_of (by decide) (fun as S V post h => by obtain ⟨a1, Q, rfl, -⟩ := h; exact Nat.le_of_ble_eq_true rfl) ?_
  intro X S V as post C E hT
  obtain ⟨a1, Q, rfl, hX, hK, hpost⟩ := hT
  obtain ⟨w_0, r_0, h_0, g_0_0, g_0_1, g_0_2, g_0_3, g_0_4, g_0_5, g_0_6, g_0_7⟩ := PSx_0 hX
  obtain ⟨w_3, r_3, h_3, g_3_0, g_3_1⟩ := PSl_3 (PSi_l (PSx_i14 hX))
  show zW X S V 0 0 [some (zR 0), some (zI a1)] [] 0
  unfold m11_isFeud at hK
  refine a_iload_n C dX11_isFeud_0 rfl ?_
  obtain ⟨q1, hK⟩ := hK
  refine a_if_lt C 19 dX11_isFeud_1 (by decide) q1 (fun q2 => ?_) (fun q2 => ?_)
  · replace hK := hK.1 q2
    refine a_iconst C dX11_isFeud_19 ?_
    exact a_zret C E dX11_isFeud_20 (Nat.le_refl _) (Nat.le_refl _) (by decide) (hpost _ _ hK)
  · replace hK := hK.2 q2
    refine a_iload_n C dX11_isFeud_4 rfl ?_
    refine a_aload_n C dX11_isFeud_5 rfl ?_
    refine a_getR C fl_X11_19_11 h_0 rfl g_0_1 dX11_isFeud_6 ?_
    refine a_getI C fl_X11_95_10 h_3 rfl dX11_isFeud_9 (fun r3 => ?_)
    refine a_icmp_ge C 19 dX11_isFeud_12 (by decide) ⟨q1, r3⟩ (fun q4 => ?_) (fun q4 => ?_)
    · replace hK := hK.1 q4
      refine a_iconst C dX11_isFeud_19 ?_
      exact a_zret C E dX11_isFeud_20 (Nat.le_refl _) (Nat.le_refl _) (by decide) (hpost _ _ hK)
    · replace hK := hK.2 q4
      refine a_iconst C dX11_isFeud_15 ?_
      refine a_goto C 20 dX11_isFeud_16 (by decide) ?_
      exact a_zret C E dX11_isFeud_20 (Nat.le_refl _) (Nat.le_refl _) (by decide) (hpost _ _ hK)

def m11_about (S : List zC) (V : zV) (a1 : Int) (a2 : Int) (Q : Int → zV → Prop) : Prop :=
  m11_isFeud S V a1 (fun r2 V2 => (inR r2) ∧ ((¬ r2 = 0 → (inR a2) ∧ (a2 = 0 → (0 ≤ a1 ∧ a1 < 8) ∧ Q (kdS S (a1).toNat) V2) ∧ (a2 = 1 → (0 ≤ a1 ∧ a1 < 8) ∧ Q (wtS S (a1).toNat) V2) ∧ (a2 = 2 → (0 ≤ a1 ∧ a1 < 8) ∧ (((V2 (14 + 6) (a1).toNat) = 0 → Q 0 V2) ∧ (¬ (V2 (14 + 6) (a1).toNat) = 0 → Q 1 V2))) ∧ (a2 = 3 → m4_onSide S 14 V2 a1 0 (fun r114 V114 => Q r114 V114)) ∧ (a2 = 4 → m4_onSide S 14 V2 a1 1 (fun r124 V124 => Q r124 V124)) ∧ (a2 = 5 → m4_lenderOf S 14 V2 a1 0 (fun r134 V134 => Q r134 V134)) ∧ (a2 = 6 → m4_lenderOf S 14 V2 a1 1 (fun r144 V144 => Q r144 V144)) ∧ (a2 = 7 → m4_toldPrice S 14 V2 a1 0 (fun r154 V154 => Q r154 V154)) ∧ (a2 = 8 → m4_toldPrice S 14 V2 a1 1 (fun r164 V164 => Q r164 V164)) ∧ (a2 < 0 ∨ 8 < a2 → Q (-102) V2)) ∧ (r2 = 0 → Q (-101) V2)))
def t11_about : zT := fun as S V post => ∃ (a1 : Int) (a2 : Int) (Q : Int → zV → Prop), as = [zR 0, zI a1, zI a2] ∧ PSx S ∧ m11_about S V a1 a2 Q ∧ (∀ r V2, Q r V2 → post (some (zI r)) S V2)
set_option maxHeartbeats 4000000 in
set_option maxRecDepth 20000 in
theorem c11_about (l : Launch) : zCT l yX11_about cX11_about 3 (some .int) { frames := 4, cells := 0, slots := 0, locals := 85 } t11_about := by
  refine zCT_of (by decide) (fun as S V post h => by obtain ⟨a1, a2, Q, rfl, -⟩ := h; exact Nat.le_of_ble_eq_true rfl) ?_
  intro X S V as post C E hT
  obtain ⟨a1, a2, Q, rfl, hX, hK, hpost⟩ := hT
  obtain ⟨w_0, r_0, h_0, g_0_0, g_0_1, g_0_2, g_0_3, g_0_4, g_0_5, g_0_6, g_0_7⟩ := PSx_0 hX
  obtain ⟨w_3, r_3, h_3, g_3_0, g_3_1⟩ := PSl_3 (PSi_l (PSx_i14 hX))
  obtain ⟨w_14, r_14, h_14, g_14_0, g_14_1, g_14_2, g_14_3, g_14_4, g_14_5, g_14_6, g_14_7, g_14_8, g_14_10, g_14_11⟩ := PSi_o (PSx_i14 hX)
  obtain ⟨r_14_6, h_14_6⟩ := PSi_a6 (PSx_i14 hX)
  show zW X S V 0 0 [some (zR 0), some (zI a1), some (zI a2)] [] 0
  unfold m11_about at hK
  refine a_aload_n C dX11_about_0 rfl ?_
  refine a_iload_n C dX11_about_1 rfl ?_
  refine a_callV (as := [zI a1]) (rest := []) C 1 (fun l => c11_isFeud l) h_0 ⟨_, _, rfl⟩ (by decide) ml_X11_98 im_X11_isFeud se_X11_isFeud in_X11 co_X11_isFeud (by decide +kernel) rfl ⟨Nat.le_of_ble_eq_true rfl, Nat.le_of_ble_eq_true rfl⟩ (Nat.le_of_ble_eq_true rfl) dX11_about_2 ⟨Nat.le_of_ble_eq_true rfl, Nat.le_of_ble_eq_true rfl⟩ ?_
  refine ⟨a1, _, rfl, hX, hK, fun r2 V2 hK => ?_⟩
  try dsimp only [Option.toList, List.cons_append, List.nil_append]
  obtain ⟨q1, hK⟩ := hK
  refine a_if_ne C 11 dX11_about_5 (by decide) q1 (fun q2 => ?_) (fun q2 => ?_)
  · replace hK := hK.1 q2
    refine a_iload_n C dX11_about_11 rfl ?_
    obtain ⟨q3, hK⟩ := hK
    by_cases q4 : a2 = 0
    · refine a_tswIn C 0 64 dX11_about_12 (by omega) q3 (by decide) rfl (by decide) ?_
      replace hK := hK.1 q4
      refine a_aload_n C dX11_about_64 rfl ?_
      refine a_getR C fl_X11_19_11 h_0 rfl g_0_1 dX11_about_65 ?_
      refine a_getR C fl_X11_101_10 h_3 rfl g_3_0 dX11_about_68 ?_
      refine a_iload_n C dX11_about_71 rfl ?_
      obtain ⟨q5, hK⟩ := hK
      refine a_feud_kind C (PSi_l (PSx_i14 hX)) dX11_about_72 q5 ml_X11_105 dX11_about_73 (by decide) (by decide) ⟨Nat.le_of_ble_eq_true rfl, Nat.le_of_ble_eq_true rfl⟩ (Nat.le_of_ble_eq_true rfl) ?_
      exact a_iret C E dX11_about_76 (Nat.le_refl _) (Nat.le_refl _) (hpost _ _ hK)
    replace hK := hK.2
    by_cases q6 : a2 = 1
    · refine a_tswIn C 1 77 dX11_about_12 (by omega) q3 (by decide) rfl (by decide) ?_
      replace hK := hK.1 q6
      refine a_aload_n C dX11_about_77 rfl ?_
      refine a_getR C fl_X11_19_11 h_0 rfl g_0_1 dX11_about_78 ?_
      refine a_getR C fl_X11_101_10 h_3 rfl g_3_0 dX11_about_81 ?_
      refine a_iload_n C dX11_about_84 rfl ?_
      obtain ⟨q7, hK⟩ := hK
      refine a_feudW C (PSi_l (PSx_i14 hX)) dX11_about_85 q7 fl_X11_110_0 fl_X11_110_2 fl_X11_110_3 fl_X11_110_5 fl_X11_110_9 dX11_about_86 ?_
      exact a_iret C E dX11_about_89 (Nat.le_refl _) (Nat.le_refl _) (hpost _ _ hK)
    replace hK := hK.2
    by_cases q8 : a2 = 2
    · refine a_tswIn C 2 90 dX11_about_12 (by omega) q3 (by decide) rfl (by decide) ?_
      replace hK := hK.1 q8
      refine a_aload_n C dX11_about_90 rfl ?_
      refine a_getR C fl_X11_28_11 h_0 rfl g_0_2 dX11_about_91 ?_
      refine a_getR C fl_X11_113_4 h_14 rfl g_14_6 dX11_about_94 ?_
      refine a_iload_n C dX11_about_97 rfl ?_
      obtain ⟨q9, hK⟩ := hK
      refine a_zald C h_14_6 dX11_about_98 (by decide) q9 (fun r10 => ?_)
      refine a_if_eq C 106 dX11_about_99 (by decide) (z_B2R r10) (fun q11 => ?_) (fun q11 => ?_)
      · replace hK := hK.1 q11
        refine a_iconst C dX11_about_106 ?_
        exact a_iret C E dX11_about_107 (Nat.le_refl _) (Nat.le_refl _) (hpost _ _ hK)
      · replace hK := hK.2 q11
        refine a_iconst C dX11_about_102 ?_
        refine a_goto C 107 dX11_about_103 (by decide) ?_
        exact a_iret C E dX11_about_107 (Nat.le_refl _) (Nat.le_refl _) (hpost _ _ hK)
    replace hK := hK.2
    by_cases q12 : a2 = 3
    · refine a_tswIn C 3 108 dX11_about_12 (by omega) q3 (by decide) rfl (by decide) ?_
      replace hK := hK.1 q12
      refine a_aload_n C dX11_about_108 rfl ?_
      refine a_getR C fl_X11_28_11 h_0 rfl g_0_2 dX11_about_109 ?_
      refine a_iload_n C dX11_about_112 rfl ?_
      refine a_iconst C dX11_about_113 ?_
      refine a_callV (as := [zI a1, zI 0]) (rest := []) C 2 (fun l => c4_onSide l) h_14 ⟨_, _, rfl⟩ (by decide) ml_X11_117 im_X4_onSide se_X4_onSide in_X4 co_X4_onSide (by decide +kernel) rfl ⟨Nat.le_of_ble_eq_true rfl, Nat.le_of_ble_eq_true rfl⟩ (Nat.le_of_ble_eq_true rfl) dX11_about_114 ⟨Nat.le_of_ble_eq_true rfl, Nat.le_of_ble_eq_true rfl⟩ ?_
      refine ⟨14, a1, 0, _, rfl, (PSx_i14 hX), hK, fun r114 V114 hK => ?_⟩
      try dsimp only [Option.toList, List.cons_append, List.nil_append]
      exact a_iret C E dX11_about_117 (Nat.le_refl _) (Nat.le_refl _) (hpost _ _ hK)
    replace hK := hK.2
    by_cases q13 : a2 = 4
    · refine a_tswIn C 4 118 dX11_about_12 (by omega) q3 (by decide) rfl (by decide) ?_
      replace hK := hK.1 q13
      refine a_aload_n C dX11_about_118 rfl ?_
      refine a_getR C fl_X11_28_11 h_0 rfl g_0_2 dX11_about_119 ?_
      refine a_iload_n C dX11_about_122 rfl ?_
      refine a_iconst C dX11_about_123 ?_
      refine a_callV (as := [zI a1, zI 1]) (rest := []) C 2 (fun l => c4_onSide l) h_14 ⟨_, _, rfl⟩ (by decide) ml_X11_117 im_X4_onSide se_X4_onSide in_X4 co_X4_onSide (by decide +kernel) rfl ⟨Nat.le_of_ble_eq_true rfl, Nat.le_of_ble_eq_true rfl⟩ (Nat.le_of_ble_eq_true rfl) dX11_about_124 ⟨Nat.le_of_ble_eq_true rfl, Nat.le_of_ble_eq_true rfl⟩ ?_
      refine ⟨14, a1, 1, _, rfl, (PSx_i14 hX), hK, fun r124 V124 hK => ?_⟩
      try dsimp only [Option.toList, List.cons_append, List.nil_append]
      exact a_iret C E dX11_about_127 (Nat.le_refl _) (Nat.le_refl _) (hpost _ _ hK)
    replace hK := hK.2
    by_cases q14 : a2 = 5
    · refine a_tswIn C 5 128 dX11_about_12 (by omega) q3 (by decide) rfl (by decide) ?_
      replace hK := hK.1 q14
      refine a_aload_n C dX11_about_128 rfl ?_
      refine a_getR C fl_X11_28_11 h_0 rfl g_0_2 dX11_about_129 ?_
      refine a_iload_n C dX11_about_132 rfl ?_
      refine a_iconst C dX11_about_133 ?_
      refine a_callV (as := [zI a1, zI 0]) (rest := []) C 2 (fun l => c4_lenderOf l) h_14 ⟨_, _, rfl⟩ (by decide) ml_X11_121 im_X4_lenderOf se_X4_lenderOf in_X4 co_X4_lenderOf (by decide +kernel) rfl ⟨Nat.le_of_ble_eq_true rfl, Nat.le_of_ble_eq_true rfl⟩ (Nat.le_of_ble_eq_true rfl) dX11_about_134 ⟨Nat.le_of_ble_eq_true rfl, Nat.le_of_ble_eq_true rfl⟩ ?_
      refine ⟨14, a1, 0, _, rfl, (PSx_i14 hX), hK, fun r134 V134 hK => ?_⟩
      try dsimp only [Option.toList, List.cons_append, List.nil_append]
      exact a_iret C E dX11_about_137 (Nat.le_refl _) (Nat.le_refl _) (hpost _ _ hK)
    replace hK := hK.2
    by_cases q15 : a2 = 6
    · refine a_tswIn C 6 138 dX11_about_12 (by omega) q3 (by decide) rfl (by decide) ?_
      replace hK := hK.1 q15
      refine a_aload_n C dX11_about_138 rfl ?_
      refine a_getR C fl_X11_28_11 h_0 rfl g_0_2 dX11_about_139 ?_
      refine a_iload_n C dX11_about_142 rfl ?_
      refine a_iconst C dX11_about_143 ?_
      refine a_callV (as := [zI a1, zI 1]) (rest := []) C 2 (fun l => c4_lenderOf l) h_14 ⟨_, _, rfl⟩ (by decide) ml_X11_121 im_X4_lenderOf se_X4_lenderOf in_X4 co_X4_lenderOf (by decide +kernel) rfl ⟨Nat.le_of_ble_eq_true rfl, Nat.le_of_ble_eq_true rfl⟩ (Nat.le_of_ble_eq_true rfl) dX11_about_144 ⟨Nat.le_of_ble_eq_true rfl, Nat.le_of_ble_eq_true rfl⟩ ?_
      refine ⟨14, a1, 1, _, rfl, (PSx_i14 hX), hK, fun r144 V144 hK => ?_⟩
      try dsimp only [Option.toList, List.cons_append, List.nil_append]
      exact a_iret C E dX11_about_147 (Nat.le_refl _) (Nat.le_refl _) (hpost _ _ hK)
    replace hK := hK.2
    by_cases q16 : a2 = 7
    · refine a_tswIn C 7 148 dX11_about_12 (by omega) q3 (by decide) rfl (by decide) ?_
      replace hK := hK.1 q16
      refine a_aload_n C dX11_about_148 rfl ?_
      refine a_getR C fl_X11_28_11 h_0 rfl g_0_2 dX11_about_149 ?_
      refine a_iload_n C dX11_about_152 rfl ?_
      refine a_iconst C dX11_about_153 ?_
      refine a_callV (as := [zI a1, zI 0]) (rest := []) C 2 (fun l => c4_toldPrice l) h_14 ⟨_, _, rfl⟩ (by decide) ml_X11_124 im_X4_toldPrice se_X4_toldPrice in_X4 co_X4_toldPrice (by decide +kernel) rfl ⟨Nat.le_of_ble_eq_true rfl, Nat.le_of_ble_eq_true rfl⟩ (Nat.le_of_ble_eq_true rfl) dX11_about_154 ⟨Nat.le_of_ble_eq_true rfl, Nat.le_of_ble_eq_true rfl⟩ ?_
      refine ⟨14, a1, 0, _, rfl, (PSx_i14 hX), hK, fun r154 V154 hK => ?_⟩
      try dsimp only [Option.toList, List.cons_append, List.nil_append]
      exact a_iret C E dX11_about_157 (Nat.le_refl _) (Nat.le_refl _) (hpost _ _ hK)
    replace hK := hK.2
    by_cases q17 : a2 = 8
    · refine a_tswIn C 8 158 dX11_about_12 (by omega) q3 (by decide) rfl (by decide) ?_
      replace hK := hK.1 q17
      refine a_aload_n C dX11_about_158 rfl ?_
      refine a_getR C fl_X11_28_11 h_0 rfl g_0_2 dX11_about_159 ?_
      refine a_iload_n C dX11_about_162 rfl ?_
      refine a_iconst C dX11_about_163 ?_
      refine a_callV (as := [zI a1, zI 1]) (rest := []) C 2 (fun l => c4_toldPrice l) h_14 ⟨_, _, rfl⟩ (by decide) ml_X11_124 im_X4_toldPrice se_X4_toldPrice in_X4 co_X4_toldPrice (by decide +kernel) rfl ⟨Nat.le_of_ble_eq_true rfl, Nat.le_of_ble_eq_true rfl⟩ (Nat.le_of_ble_eq_true rfl) dX11_about_164 ⟨Nat.le_of_ble_eq_true rfl, Nat.le_of_ble_eq_true rfl⟩ ?_
      refine ⟨14, a1, 1, _, rfl, (PSx_i14 hX), hK, fun r164 V164 hK => ?_⟩
      try dsimp only [Option.toList, List.cons_append, List.nil_append]
      exact a_iret C E dX11_about_167 (Nat.le_refl _) (Nat.le_refl _) (hpost _ _ hK)
    replace hK := hK.2
    have q18 : a2 < 0 ∨ 8 < a2 := by omega
    refine a_tswOut C 168 dX11_about_12 q3 q18 (by decide) ?_
    replace hK := hK q18
    refine a_bipush C dX11_about_168 (by decide) ?_
    exact a_iret C E dX11_about_170 (Nat.le_refl _) (Nat.le_refl _) (hpost _ _ hK)
  · replace hK := hK.2 q2
    refine a_bipush C dX11_about_8 (by decide) ?_
    exact a_iret C E dX11_about_10 (Nat.le_refl _) (Nat.le_refl _) (hpost _ _ hK)

def m11_as (S : List zC) (V : zV) (a1 : Int) (a2 : Int) (Q : Int → zV → Prop) : Prop :=
  m11_isFeud S V a1 (fun r2 V2 => (inR r2) ∧ ((¬ r2 = 0 → (inR a2) ∧ ((a2 < 0 → Q (-102) V2) ∧ (0 ≤ a2 → ((a2 ≤ 4 → (0 ≤ a1 ∧ a1 < 8) ∧ (inR (okK (kdS S (a1).toNat) a2)) ∧ (((okK (kdS S (a1).toNat) a2) = 0 → Q (-1) V2) ∧ (¬ (okK (kdS S (a1).toNat) a2) = 0 → Q a1 V2))) ∧ (4 < a2 → Q (-102) V2))))) ∧ (r2 = 0 → Q (-101) V2)))
def t11_as : zT := fun as S V post => ∃ (a1 : Int) (a2 : Int) (Q : Int → zV → Prop), as = [zR 0, zI a1, zI a2] ∧ PSx S ∧ m11_as S V a1 a2 Q ∧ (∀ r V2, Q r V2 → post (some (zI r)) S V2)
set_option maxHeartbeats 4000000 in
set_option maxRecDepth 20000 in
theorem c11_as (l : Launch) : zCT l yX11_as cX11_as 3 (some .int) { frames := 1, cells := 0, slots := 0, locals := 21 } t11_as := by
  refine zCT_of (by decide) (fun as S V post h => by obtain ⟨a1, a2, Q, rfl, -⟩ := h; exact Nat.le_of_ble_eq_true rfl) ?_
  intro X S V as post C E hT
  obtain ⟨a1, a2, Q, rfl, hX, hK, hpost⟩ := hT
  obtain ⟨w_0, r_0, h_0, g_0_0, g_0_1, g_0_2, g_0_3, g_0_4, g_0_5, g_0_6, g_0_7⟩ := PSx_0 hX
  obtain ⟨w_3, r_3, h_3, g_3_0, g_3_1⟩ := PSl_3 (PSi_l (PSx_i14 hX))
  show zW X S V 0 0 [some (zR 0), some (zI a1), some (zI a2)] [] 0
  unfold m11_as at hK
  refine a_aload_n C dX11_as_0 rfl ?_
  refine a_iload_n C dX11_as_1 rfl ?_
  refine a_callV (as := [zI a1]) (rest := []) C 1 (fun l => c11_isFeud l) h_0 ⟨_, _, rfl⟩ (by decide) ml_X11_98 im_X11_isFeud se_X11_isFeud in_X11 co_X11_isFeud (by decide +kernel) rfl ⟨Nat.le_of_ble_eq_true rfl, Nat.le_of_ble_eq_true rfl⟩ (Nat.le_of_ble_eq_true rfl) dX11_as_2 ⟨Nat.le_of_ble_eq_true rfl, Nat.le_of_ble_eq_true rfl⟩ ?_
  refine ⟨a1, _, rfl, hX, hK, fun r2 V2 hK => ?_⟩
  try dsimp only [Option.toList, List.cons_append, List.nil_append]
  obtain ⟨q1, hK⟩ := hK
  refine a_if_ne C 11 dX11_as_5 (by decide) q1 (fun q2 => ?_) (fun q2 => ?_)
  · replace hK := hK.1 q2
    refine a_iload_n C dX11_as_11 rfl ?_
    obtain ⟨q3, hK⟩ := hK
    refine a_if_lt C 20 dX11_as_12 (by decide) q3 (fun q4 => ?_) (fun q4 => ?_)
    · replace hK := hK.1 q4
      refine a_bipush C dX11_as_20 (by decide) ?_
      exact a_iret C E dX11_as_22 (Nat.le_refl _) (Nat.le_refl _) (hpost _ _ hK)
    · replace hK := hK.2 q4
      refine a_iload_n C dX11_as_15 rfl ?_
      refine a_iconst C dX11_as_16 ?_
      refine a_icmp_le C 23 dX11_as_17 (by decide) ⟨q3, ⟨by decide, by decide⟩⟩ (fun q5 => ?_) (fun q5 => ?_)
      · replace hK := hK.1 q5
        refine a_aload_n C dX11_as_23 rfl ?_
        refine a_getR C fl_X11_19_11 h_0 rfl g_0_1 dX11_as_24 ?_
        refine a_getR C fl_X11_101_10 h_3 rfl g_3_0 dX11_as_27 ?_
        refine a_iload_n C dX11_as_30 rfl ?_
        obtain ⟨q6, hK⟩ := hK
        refine a_feud_isOfKind C (PSi_l (PSx_i14 hX)) q6 rfl q3 (by decide) (by decide) ⟨Nat.le_of_ble_eq_true rfl, Nat.le_of_ble_eq_true rfl⟩ (Nat.le_of_ble_eq_true rfl) ?_
        obtain ⟨q7, hK⟩ := hK
        refine a_if_eq C 43 dX11_as_36 (by decide) q7 (fun q8 => ?_) (fun q8 => ?_)
        · replace hK := hK.1 q8
          refine a_iconst C dX11_as_43 ?_
          exact a_iret C E dX11_as_44 (Nat.le_refl _) (Nat.le_refl _) (hpost _ _ hK)
        · replace hK := hK.2 q8
          refine a_iload_n C dX11_as_39 rfl ?_
          refine a_goto C 44 dX11_as_40 (by decide) ?_
          exact a_iret C E dX11_as_44 (Nat.le_refl _) (Nat.le_refl _) (hpost _ _ hK)
      · replace hK := hK.2 q5
        refine a_bipush C dX11_as_20 (by decide) ?_
        exact a_iret C E dX11_as_22 (Nat.le_refl _) (Nat.le_refl _) (hpost _ _ hK)
  · replace hK := hK.2 q2
    refine a_bipush C dX11_as_8 (by decide) ?_
    exact a_iret C E dX11_as_10 (Nat.le_refl _) (Nat.le_refl _) (hpost _ _ hK)

def mj6_bitCount_0f7a4  (V : zV) (a0 : Int) (Q : Int → zV → Prop) : Prop :=
  Q (zand (((zand (((zand (a0 - (zand (zushr a0 1) 1431655765)) 858993459) + (zand (zushr (a0 - (zand (zushr a0 1) 1431655765)) 2) 858993459)) + (zushr ((zand (a0 - (zand (zushr a0 1) 1431655765)) 858993459) + (zand (zushr (a0 - (zand (zushr a0 1) 1431655765)) 2) 858993459)) 4)) 252645135) + (zushr (zand (((zand (a0 - (zand (zushr a0 1) 1431655765)) 858993459) + (zand (zushr (a0 - (zand (zushr a0 1) 1431655765)) 2) 858993459)) + (zushr ((zand (a0 - (zand (zushr a0 1) 1431655765)) 858993459) + (zand (zushr (a0 - (zand (zushr a0 1) 1431655765)) 2) 858993459)) 4)) 252645135) 8)) + (zushr ((zand (((zand (a0 - (zand (zushr a0 1) 1431655765)) 858993459) + (zand (zushr (a0 - (zand (zushr a0 1) 1431655765)) 2) 858993459)) + (zushr ((zand (a0 - (zand (zushr a0 1) 1431655765)) 858993459) + (zand (zushr (a0 - (zand (zushr a0 1) 1431655765)) 2) 858993459)) 4)) 252645135) + (zushr (zand (((zand (a0 - (zand (zushr a0 1) 1431655765)) 858993459) + (zand (zushr (a0 - (zand (zushr a0 1) 1431655765)) 2) 858993459)) + (zushr ((zand (a0 - (zand (zushr a0 1) 1431655765)) 858993459) + (zand (zushr (a0 - (zand (zushr a0 1) 1431655765)) 2) 858993459)) 4)) 252645135) 8)) 16)) 63) V
def tj6_bitCount_0f7a4 : zT := fun as S V post => ∃ (a0 : Int) (Q : Int → zV → Prop), as = [zI a0] ∧ mj6_bitCount_0f7a4 V a0 Q ∧ (∀ r V2, Q r V2 → post (some (zI r)) S V2)
set_option maxHeartbeats 4000000 in
set_option maxRecDepth 20000 in
theorem cj6_bitCount_0f7a4 (l : Launch) : zCT l yJ6_bitCount_0f7a4 cJ6_bitCount_0f7a4 1 (some .int) { frames := 0, cells := 0, slots := 0, locals := 0 } tj6_bitCount_0f7a4 := by
  refine zCT_of (by decide) (fun as S V post h => by obtain ⟨a0, Q, rfl, -⟩ := h; exact Nat.le_of_ble_eq_true rfl) ?_
  intro X S V as post C E hT
  obtain ⟨a0, Q, rfl, hK, hpost⟩ := hT
  show zW X S V 0 0 [some (zI a0)] [] 0
  unfold mj6_bitCount_0f7a4 at hK
  refine a_iload_n C dJ6_bitCount_0f7a4_0 rfl ?_
  refine a_iload_n C dJ6_bitCount_0f7a4_1 rfl ?_
  refine a_iconst C dJ6_bitCount_0f7a4_2 ?_
  refine a_iushr C dJ6_bitCount_0f7a4_3 ?_
  refine a_ldc_w C ki_J6_265 dJ6_bitCount_0f7a4_4 ?_
  refine a_iand C dJ6_bitCount_0f7a4_7 ?_
  refine a_isub C dJ6_bitCount_0f7a4_8 ?_
  refine a_istore_n C dJ6_bitCount_0f7a4_9 (Nat.le_of_ble_eq_true rfl) ?_
  refine a_iload_n C dJ6_bitCount_0f7a4_10 rfl ?_
  refine a_ldc_w C ki_J6_266 dJ6_bitCount_0f7a4_11 ?_
  refine a_iand C dJ6_bitCount_0f7a4_14 ?_
  refine a_iload_n C dJ6_bitCount_0f7a4_15 rfl ?_
  refine a_iconst C dJ6_bitCount_0f7a4_16 ?_
  refine a_iushr C dJ6_bitCount_0f7a4_17 ?_
  refine a_ldc_w C ki_J6_266 dJ6_bitCount_0f7a4_18 ?_
  refine a_iand C dJ6_bitCount_0f7a4_21 ?_
  refine a_iadd C dJ6_bitCount_0f7a4_22 ?_
  refine a_istore_n C dJ6_bitCount_0f7a4_23 (Nat.le_of_ble_eq_true rfl) ?_
  refine a_iload_n C dJ6_bitCount_0f7a4_24 rfl ?_
  refine a_iload_n C dJ6_bitCount_0f7a4_25 rfl ?_
  refine a_iconst C dJ6_bitCount_0f7a4_26 ?_
  refine a_iushr C dJ6_bitCount_0f7a4_27 ?_
  refine a_iadd C dJ6_bitCount_0f7a4_28 ?_
  refine a_ldc_w C ki_J6_267 dJ6_bitCount_0f7a4_29 ?_
  refine a_iand C dJ6_bitCount_0f7a4_32 ?_
  refine a_istore_n C dJ6_bitCount_0f7a4_33 (Nat.le_of_ble_eq_true rfl) ?_
  refine a_iload_n C dJ6_bitCount_0f7a4_34 rfl ?_
  refine a_iload_n C dJ6_bitCount_0f7a4_35 rfl ?_
  refine a_bipush C dJ6_bitCount_0f7a4_36 (by decide) ?_
  refine a_iushr C dJ6_bitCount_0f7a4_38 ?_
  refine a_iadd C dJ6_bitCount_0f7a4_39 ?_
  refine a_istore_n C dJ6_bitCount_0f7a4_40 (Nat.le_of_ble_eq_true rfl) ?_
  refine a_iload_n C dJ6_bitCount_0f7a4_41 rfl ?_
  refine a_iload_n C dJ6_bitCount_0f7a4_42 rfl ?_
  refine a_bipush C dJ6_bitCount_0f7a4_43 (by decide) ?_
  refine a_iushr C dJ6_bitCount_0f7a4_45 ?_
  refine a_iadd C dJ6_bitCount_0f7a4_46 ?_
  refine a_istore_n C dJ6_bitCount_0f7a4_47 (Nat.le_of_ble_eq_true rfl) ?_
  refine a_iload_n C dJ6_bitCount_0f7a4_48 rfl ?_
  refine a_bipush C dJ6_bitCount_0f7a4_49 (by decide) ?_
  refine a_iand C dJ6_bitCount_0f7a4_51 ?_
  exact a_iret C E dJ6_bitCount_0f7a4_52 (Nat.le_refl _) (Nat.le_refl _) (hpost _ _ hK)

def m11_isPerson (S : List zC) (V : zV) (a0 : Int) (Q : Int → zV → Prop) : Prop :=
  (inR a0) ∧ ((a0 < 0 → Q 0 V) ∧ (0 ≤ a0 → ((6 ≤ a0 → Q 0 V) ∧ (a0 < 6 → Q 1 V))))
def t11_isPerson : zT := fun as S V post => ∃ (a0 : Int) (Q : Int → zV → Prop), as = [zI a0] ∧ m11_isPerson S V a0 Q ∧ (∀ r V2, Q r V2 → post (some (zI r)) S V2)
set_option maxHeartbeats 4000000 in
set_option maxRecDepth 20000 in
theorem c11_isPerson (l : Launch) : zCT l yX11_isPerson cX11_isPerson 1 (some .boolean) { frames := 0, cells := 0, slots := 0, locals := 0 } t11_isPerson := by
  refine zCT_of (by decide) (fun as S V post h => by obtain ⟨a0, Q, rfl, -⟩ := h; exact Nat.le_of_ble_eq_true rfl) ?_
  intro X S V as post C E hT
  obtain ⟨a0, Q, rfl, hK, hpost⟩ := hT
  show zW X S V 0 0 [some (zI a0)] [] 0
  unfold m11_isPerson at hK
  refine a_iload_n C dX11_isPerson_0 rfl ?_
  obtain ⟨q1, hK⟩ := hK
  refine a_if_lt C 14 dX11_isPerson_1 (by decide) q1 (fun q2 => ?_) (fun q2 => ?_)
  · replace hK := hK.1 q2
    refine a_iconst C dX11_isPerson_14 ?_
    exact a_zret C E dX11_isPerson_15 (Nat.le_refl _) (Nat.le_refl _) (by decide) (hpost _ _ hK)
  · replace hK := hK.2 q2
    refine a_iload_n C dX11_isPerson_4 rfl ?_
    refine a_bipush C dX11_isPerson_5 (by decide) ?_
    refine a_icmp_ge C 14 dX11_isPerson_7 (by decide) ⟨q1, ⟨by decide, by decide⟩⟩ (fun q3 => ?_) (fun q3 => ?_)
    · replace hK := hK.1 q3
      refine a_iconst C dX11_isPerson_14 ?_
      exact a_zret C E dX11_isPerson_15 (Nat.le_refl _) (Nat.le_refl _) (by decide) (hpost _ _ hK)
    · replace hK := hK.2 q3
      refine a_iconst C dX11_isPerson_10 ?_
      refine a_goto C 15 dX11_isPerson_11 (by decide) ?_
      exact a_zret C E dX11_isPerson_15 (Nat.le_refl _) (Nat.le_refl _) (by decide) (hpost _ _ hK)

def m11_person (S : List zC) (V : zV) (a1 : Int) (a2 : Int) (Q : Int → zV → Prop) : Prop :=
  m11_isPerson S V a1 (fun r1 V1 => (inR r1) ∧ ((¬ r1 = 0 → (inR a2) ∧ (a2 = 0 → (0 ≤ a1 ∧ a1 < 6) ∧ Q (V1 (14 + 1) (a1).toNat) V1) ∧ (a2 = 1 → (0 ≤ a1 ∧ a1 < 6) ∧ Q (V1 (14 + 2) (a1).toNat) V1) ∧ (a2 = 2 → (0 ≤ a1 ∧ a1 < 6) ∧ (((V1 (14 + 3) (a1).toNat) = 0 → Q 0 V1) ∧ (¬ (V1 (14 + 3) (a1).toNat) = 0 → Q 1 V1))) ∧ (a2 = 3 → m4_sidesOf S 14 V1 a1 (fun r91 V91 => mj6_bitCount_0f7a4 V91 r91 (fun r94 V94 => Q r94 V94))) ∧ (a2 = 4 → m11_times S (14 + 7) 12 V1 (V1 14 9) a1 (fun r113 V113 => Q r113 V113)) ∧ (a2 = 5 → m11_times S (14 + 8) 12 V1 (V1 14 9) a1 (fun r132 V132 => Q r132 V132)) ∧ (a2 < 0 ∨ 5 < a2 → Q (-102) V1)) ∧ (r1 = 0 → Q (-101) V1)))
def t11_person : zT := fun as S V post => ∃ (a1 : Int) (a2 : Int) (Q : Int → zV → Prop), as = [zR 0, zI a1, zI a2] ∧ PSx S ∧ m11_person S V a1 a2 Q ∧ (∀ r V2, Q r V2 → post (some (zI r)) S V2)
set_option maxHeartbeats 4000000 in
set_option maxRecDepth 20000 in
theorem c11_person (l : Launch) : zCT l yX11_person cX11_person 3 (some .int) { frames := 2, cells := 0, slots := 0, locals := 47 } t11_person := by
  refine zCT_of (by decide) (fun as S V post h => by obtain ⟨a1, a2, Q, rfl, -⟩ := h; exact Nat.le_of_ble_eq_true rfl) ?_
  intro X S V as post C E hT
  obtain ⟨a1, a2, Q, rfl, hX, hK, hpost⟩ := hT
  obtain ⟨w_0, r_0, h_0, g_0_0, g_0_1, g_0_2, g_0_3, g_0_4, g_0_5, g_0_6, g_0_7⟩ := PSx_0 hX
  obtain ⟨w_14, r_14, h_14, g_14_0, g_14_1, g_14_2, g_14_3, g_14_4, g_14_5, g_14_6, g_14_7, g_14_8, g_14_10, g_14_11⟩ := PSi_o (PSx_i14 hX)
  obtain ⟨r_14_1, h_14_1⟩ := PSi_a1 (PSx_i14 hX)
  obtain ⟨r_14_2, h_14_2⟩ := PSi_a2 (PSx_i14 hX)
  obtain ⟨r_14_3, h_14_3⟩ := PSi_a3 (PSx_i14 hX)
  obtain ⟨r_14_7, h_14_7⟩ := PSi_a7 (PSx_i14 hX)
  obtain ⟨r_14_8, h_14_8⟩ := PSi_a8 (PSx_i14 hX)
  show zW X S V 0 0 [some (zR 0), some (zI a1), some (zI a2)] [] 0
  unfold m11_person at hK
  refine a_iload_n C dX11_person_0 rfl ?_
  refine a_callS (as := [zI a1]) (rest := []) C 1 (fun l => c11_isPerson l) ml_X11_131 sa_X11_isPerson in_X11 co_X11_isPerson (by decide +kernel) rfl ⟨Nat.le_of_ble_eq_true rfl, Nat.le_of_ble_eq_true rfl⟩ (Nat.le_of_ble_eq_true rfl) dX11_person_1 ⟨Nat.le_of_ble_eq_true rfl, Nat.le_of_ble_eq_true rfl⟩ ?_
  refine ⟨a1, _, rfl, hK, fun r1 V1 hK => ?_⟩
  try dsimp only [Option.toList, List.cons_append, List.nil_append]
  obtain ⟨q1, hK⟩ := hK
  refine a_if_ne C 10 dX11_person_4 (by decide) q1 (fun q2 => ?_) (fun q2 => ?_)
  · replace hK := hK.1 q2
    refine a_iload_n C dX11_person_10 rfl ?_
    obtain ⟨q3, hK⟩ := hK
    by_cases q4 : a2 = 0
    · refine a_tswIn C 0 48 dX11_person_11 (by omega) q3 (by decide) rfl (by decide) ?_
      replace hK := hK.1 q4
      refine a_aload_n C dX11_person_48 rfl ?_
      refine a_getR C fl_X11_28_11 h_0 rfl g_0_2 dX11_person_49 ?_
      refine a_getR C fl_X11_134_4 h_14 rfl g_14_1 dX11_person_52 ?_
      refine a_iload_n C dX11_person_55 rfl ?_
      obtain ⟨q5, hK⟩ := hK
      refine a_iald C h_14_1 dX11_person_56 (by decide) q5 (fun r6 => ?_)
      exact a_iret C E dX11_person_57 (Nat.le_refl _) (Nat.le_refl _) (hpost _ _ hK)
    replace hK := hK.2
    by_cases q7 : a2 = 1
    · refine a_tswIn C 1 58 dX11_person_11 (by omega) q3 (by decide) rfl (by decide) ?_
      replace hK := hK.1 q7
      refine a_aload_n C dX11_person_58 rfl ?_
      refine a_getR C fl_X11_28_11 h_0 rfl g_0_2 dX11_person_59 ?_
      refine a_getR C fl_X11_138_4 h_14 rfl g_14_2 dX11_person_62 ?_
      refine a_iload_n C dX11_person_65 rfl ?_
      obtain ⟨q8, hK⟩ := hK
      refine a_iald C h_14_2 dX11_person_66 (by decide) q8 (fun r9 => ?_)
      exact a_iret C E dX11_person_67 (Nat.le_refl _) (Nat.le_refl _) (hpost _ _ hK)
    replace hK := hK.2
    by_cases q10 : a2 = 2
    · refine a_tswIn C 2 68 dX11_person_11 (by omega) q3 (by decide) rfl (by decide) ?_
      replace hK := hK.1 q10
      refine a_aload_n C dX11_person_68 rfl ?_
      refine a_getR C fl_X11_28_11 h_0 rfl g_0_2 dX11_person_69 ?_
      refine a_getR C fl_X11_141_4 h_14 rfl g_14_3 dX11_person_72 ?_
      refine a_iload_n C dX11_person_75 rfl ?_
      obtain ⟨q11, hK⟩ := hK
      refine a_zald C h_14_3 dX11_person_76 (by decide) q11 (fun r12 => ?_)
      refine a_if_eq C 84 dX11_person_77 (by decide) (z_B2R r12) (fun q13 => ?_) (fun q13 => ?_)
      · replace hK := hK.1 q13
        refine a_iconst C dX11_person_84 ?_
        exact a_iret C E dX11_person_85 (Nat.le_refl _) (Nat.le_refl _) (hpost _ _ hK)
      · replace hK := hK.2 q13
        refine a_iconst C dX11_person_80 ?_
        refine a_goto C 85 dX11_person_81 (by decide) ?_
        exact a_iret C E dX11_person_85 (Nat.le_refl _) (Nat.le_refl _) (hpost _ _ hK)
    replace hK := hK.2
    by_cases q14 : a2 = 3
    · refine a_tswIn C 3 86 dX11_person_11 (by omega) q3 (by decide) rfl (by decide) ?_
      replace hK := hK.1 q14
      refine a_aload_n C dX11_person_86 rfl ?_
      refine a_getR C fl_X11_28_11 h_0 rfl g_0_2 dX11_person_87 ?_
      refine a_iload_n C dX11_person_90 rfl ?_
      refine a_callV (as := [zI a1]) (rest := []) C 1 (fun l => c4_sidesOf l) h_14 ⟨_, _, rfl⟩ (by decide) ml_X11_144 im_X4_sidesOf se_X4_sidesOf in_X4 co_X4_sidesOf (by decide +kernel) rfl ⟨Nat.le_of_ble_eq_true rfl, Nat.le_of_ble_eq_true rfl⟩ (Nat.le_of_ble_eq_true rfl) dX11_person_91 ⟨Nat.le_of_ble_eq_true rfl, Nat.le_of_ble_eq_true rfl⟩ ?_
      refine ⟨14, a1, _, rfl, (PSx_i14 hX), hK, fun r91 V91 hK => ?_⟩
      try dsimp only [Option.toList, List.cons_append, List.nil_append]
      refine a_callS (as := [zI r91]) (rest := []) C 1 (fun l => cj6_bitCount_0f7a4 l) ml_X11_148 sa_J6_bitCount_0f7a4 in_J6 co_J6_bitCount_0f7a4 (by decide +kernel) rfl ⟨Nat.le_of_ble_eq_true rfl, Nat.le_of_ble_eq_true rfl⟩ (Nat.le_of_ble_eq_true rfl) dX11_person_94 ⟨Nat.le_of_ble_eq_true rfl, Nat.le_of_ble_eq_true rfl⟩ ?_
      refine ⟨r91, _, rfl, hK, fun r94 V94 hK => ?_⟩
      try dsimp only [Option.toList, List.cons_append, List.nil_append]
      exact a_iret C E dX11_person_97 (Nat.le_refl _) (Nat.le_refl _) (hpost _ _ hK)
    replace hK := hK.2
    by_cases q15 : a2 = 4
    · refine a_tswIn C 4 98 dX11_person_11 (by omega) q3 (by decide) rfl (by decide) ?_
      replace hK := hK.1 q15
      refine a_aload_n C dX11_person_98 rfl ?_
      refine a_getR C fl_X11_28_11 h_0 rfl g_0_2 dX11_person_99 ?_
      refine a_getR C fl_X11_153_4 h_14 rfl g_14_7 dX11_person_102 ?_
      refine a_aload_n C dX11_person_105 rfl ?_
      refine a_getR C fl_X11_28_11 h_0 rfl g_0_2 dX11_person_106 ?_
      refine a_getI C fl_X11_156_4 h_14 rfl dX11_person_109 (fun r16 => ?_)
      refine a_iload_n C dX11_person_112 rfl ?_
      refine a_callS (as := [zR (14 + 7), zI (V1 14 9), zI a1]) (rest := []) C 3 (fun l => c11_times l) ml_X11_159 sa_X11_times in_X11 co_X11_times (by decide +kernel) rfl ⟨Nat.le_of_ble_eq_true rfl, Nat.le_of_ble_eq_true rfl⟩ (Nat.le_of_ble_eq_true rfl) dX11_person_113 ⟨Nat.le_of_ble_eq_true rfl, Nat.le_of_ble_eq_true rfl⟩ ?_
      refine ⟨(14 + 7), 12, (V1 14 9), a1, _, rfl, ⟨⟨_, h_14_7⟩, by decide, by decide⟩, hK, fun r113 V113 hK => ?_⟩
      try dsimp only [Option.toList, List.cons_append, List.nil_append]
      exact a_iret C E dX11_person_116 (Nat.le_refl _) (Nat.le_refl _) (hpost _ _ hK)
    replace hK := hK.2
    by_cases q17 : a2 = 5
    · refine a_tswIn C 5 117 dX11_person_11 (by omega) q3 (by decide) rfl (by decide) ?_
      replace hK := hK.1 q17
      refine a_aload_n C dX11_person_117 rfl ?_
      refine a_getR C fl_X11_28_11 h_0 rfl g_0_2 dX11_person_118 ?_
      refine a_getR C fl_X11_163_4 h_14 rfl g_14_8 dX11_person_121 ?_
      refine a_aload_n C dX11_person_124 rfl ?_
      refine a_getR C fl_X11_28_11 h_0 rfl g_0_2 dX11_person_125 ?_
      refine a_getI C fl_X11_156_4 h_14 rfl dX11_person_128 (fun r18 => ?_)
      refine a_iload_n C dX11_person_131 rfl ?_
      refine a_callS (as := [zR (14 + 8), zI (V1 14 9), zI a1]) (rest := []) C 3 (fun l => c11_times l) ml_X11_159 sa_X11_times in_X11 co_X11_times (by decide +kernel) rfl ⟨Nat.le_of_ble_eq_true rfl, Nat.le_of_ble_eq_true rfl⟩ (Nat.le_of_ble_eq_true rfl) dX11_person_132 ⟨Nat.le_of_ble_eq_true rfl, Nat.le_of_ble_eq_true rfl⟩ ?_
      refine ⟨(14 + 8), 12, (V1 14 9), a1, _, rfl, ⟨⟨_, h_14_8⟩, by decide, by decide⟩, hK, fun r132 V132 hK => ?_⟩
      try dsimp only [Option.toList, List.cons_append, List.nil_append]
      exact a_iret C E dX11_person_135 (Nat.le_refl _) (Nat.le_refl _) (hpost _ _ hK)
    replace hK := hK.2
    have q19 : a2 < 0 ∨ 5 < a2 := by omega
    refine a_tswOut C 136 dX11_person_11 q3 q19 (by decide) ?_
    replace hK := hK q19
    refine a_bipush C dX11_person_136 (by decide) ?_
    exact a_iret C E dX11_person_138 (Nat.le_refl _) (Nat.le_refl _) (hpost _ _ hK)
  · replace hK := hK.2 q2
    refine a_bipush C dX11_person_7 (by decide) ?_
    exact a_iret C E dX11_person_9 (Nat.le_refl _) (Nat.le_refl _) (hpost _ _ hK)

def m11_hasList (S : List zC) (V : zV)  (Q : Int → zV → Prop) : Prop :=
  (((V 3 2) ≤ 0 → Q 0 V) ∧ (0 < (V 3 2) → Q 1 V))
def t11_hasList : zT := fun as S V post => ∃ (Q : Int → zV → Prop), as = [zR 0] ∧ PSx S ∧ m11_hasList S V Q ∧ (∀ r V2, Q r V2 → post (some (zI r)) S V2)
set_option maxHeartbeats 4000000 in
set_option maxRecDepth 20000 in
theorem c11_hasList (l : Launch) : zCT l yX11_hasList cX11_hasList 1 (some .boolean) { frames := 0, cells := 0, slots := 0, locals := 0 } t11_hasList := by
  refine zCT_of (by decide) (fun as S V post h => by obtain ⟨Q, rfl, -⟩ := h; exact Nat.le_of_ble_eq_true rfl) ?_
  intro X S V as post C E hT
  obtain ⟨Q, rfl, hX, hK, hpost⟩ := hT
  obtain ⟨w_0, r_0, h_0, g_0_0, g_0_1, g_0_2, g_0_3, g_0_4, g_0_5, g_0_6, g_0_7⟩ := PSx_0 hX
  obtain ⟨w_3, r_3, h_3, g_3_0, g_3_1⟩ := PSl_3 (PSi_l (PSx_i14 hX))
  show zW X S V 0 0 [some (zR 0)] [] 0
  unfold m11_hasList at hK
  refine a_aload_n C dX11_hasList_0 rfl ?_
  refine a_getR C fl_X11_19_11 h_0 rfl g_0_1 dX11_hasList_1 ?_
  refine a_getI C fl_X11_95_10 h_3 rfl dX11_hasList_4 (fun r1 => ?_)
  refine a_if_le C 14 dX11_hasList_7 (by decide) r1 (fun q2 => ?_) (fun q2 => ?_)
  · replace hK := hK.1 q2
    refine a_iconst C dX11_hasList_14 ?_
    exact a_zret C E dX11_hasList_15 (Nat.le_refl _) (Nat.le_refl _) (by decide) (hpost _ _ hK)
  · replace hK := hK.2 q2
    refine a_iconst C dX11_hasList_10 ?_
    refine a_goto C 15 dX11_hasList_11 (by decide) ?_
    exact a_zret C E dX11_hasList_15 (Nat.le_refl _) (Nat.le_refl _) (by decide) (hpost _ _ hK)

def m11_heir_J19 (S : List zC) (Q : Int → zV → Prop) (a1 : Int) (a2 : Int) (V : zV) : Prop :=
  (inR a1) ∧ (inR a2) ∧ ((¬ a1 = a2 → m11_hasList S V (fun r28 V28 => (inR r28) ∧ ((r28 = 0 → Q (-103) V28) ∧ (¬ r28 = 0 → (0 ≤ a1 ∧ a1 < 6) ∧ ((¬ (V28 (14 + 3) (a1).toNat) = 0 → (0 ≤ a1 ∧ a1 < 6) ∧ (0 ≤ a1 ∧ a1 < 6) ∧ Q (V28 (14 + 2) (a1).toNat) (vset V28 (14 + 2) (a1).toNat a2)) ∧ ((V28 (14 + 3) (a1).toNat) = 0 → Q (-103) V28)))))) ∧ (a1 = a2 → Q (-101) V))
def m11_heir (S : List zC) (V : zV) (a1 : Int) (a2 : Int) (Q : Int → zV → Prop) : Prop :=
  m11_isPerson S V a1 (fun r1 V1 => (inR r1) ∧ ((r1 = 0 → Q (-101) V1) ∧ (¬ r1 = 0 → (inR a2) ∧ ((a2 = (-1) → m11_heir_J19 S Q a1 a2 V1) ∧ (¬ a2 = (-1) → m11_isPerson S V1 a2 (fun r13 V13 => (inR r13) ∧ ((r13 = 0 → Q (-101) V13) ∧ (¬ r13 = 0 → m11_heir_J19 S Q a1 a2 V13))))))))
def t11_heir : zT := fun as S V post => ∃ (a1 : Int) (a2 : Int) (Q : Int → zV → Prop), as = [zR 0, zI a1, zI a2] ∧ PSx S ∧ m11_heir S V a1 a2 Q ∧ (∀ r V2, Q r V2 → post (some (zI r)) S V2)
set_option maxHeartbeats 4000000 in
set_option maxRecDepth 20000 in
theorem c11_heir (l : Launch) : zCT l yX11_heir cX11_heir 4 (some .int) { frames := 1, cells := 0, slots := 0, locals := 20 } t11_heir := by
  refine zCT_of (by decide) (fun as S V post h => by obtain ⟨a1, a2, Q, rfl, -⟩ := h; exact Nat.le_of_ble_eq_true rfl) ?_
  intro X S V as post C E hT
  obtain ⟨a1, a2, Q, rfl, hX, hK, hpost⟩ := hT
  obtain ⟨w_0, r_0, h_0, g_0_0, g_0_1, g_0_2, g_0_3, g_0_4, g_0_5, g_0_6, g_0_7⟩ := PSx_0 hX
  obtain ⟨w_14, r_14, h_14, g_14_0, g_14_1, g_14_2, g_14_3, g_14_4, g_14_5, g_14_6, g_14_7, g_14_8, g_14_10, g_14_11⟩ := PSi_o (PSx_i14 hX)
  obtain ⟨r_14_3, h_14_3⟩ := PSi_a3 (PSx_i14 hX)
  obtain ⟨r_14_2, h_14_2⟩ := PSi_a2 (PSx_i14 hX)
  show zW X S V 0 0 [some (zR 0), some (zI a1), some (zI a2), none] [] 0
  unfold m11_heir at hK
  refine a_iload_n C dX11_heir_0 rfl ?_
  refine a_callS (as := [zI a1]) (rest := []) C 1 (fun l => c11_isPerson l) ml_X11_131 sa_X11_isPerson in_X11 co_X11_isPerson (by decide +kernel) rfl ⟨Nat.le_of_ble_eq_true rfl, Nat.le_of_ble_eq_true rfl⟩ (Nat.le_of_ble_eq_true rfl) dX11_heir_1 ⟨Nat.le_of_ble_eq_true rfl, Nat.le_of_ble_eq_true rfl⟩ ?_
  refine ⟨a1, _, rfl, hK, fun r1 V1 hK => ?_⟩
  try dsimp only [Option.toList, List.cons_append, List.nil_append]
  obtain ⟨q1, hK⟩ := hK
  refine a_if_eq C 24 dX11_heir_4 (by decide) q1 (fun q2 => ?_) (fun q2 => ?_)
  · replace hK := hK.1 q2
    refine a_bipush C dX11_heir_24 (by decide) ?_
    exact a_iret C E dX11_heir_26 (Nat.le_refl _) (Nat.le_refl _) (hpost _ _ hK)
  · replace hK := hK.2 q2
    have J19 : ∀ (a1 : Int) (a2 : Int) (V : zV), m11_heir_J19 S Q a1 a2 V → zW X S V 0 0 [some (zR 0), some (zI a1), some (zI a2), none] [] 19 := by
      intro a1 a2 V hK
      unfold m11_heir_J19 at hK
      refine a_iload_n C dX11_heir_19 rfl ?_
      refine a_iload_n C dX11_heir_20 rfl ?_
      obtain ⟨q14, hK⟩ := hK
      obtain ⟨q15, hK⟩ := hK
      refine a_icmp_ne C 27 dX11_heir_21 (by decide) ⟨q14, q15⟩ (fun q16 => ?_) (fun q16 => ?_)
      · replace hK := hK.1 q16
        refine a_aload_n C dX11_heir_27 rfl ?_
        refine a_callV (as := []) (rest := []) C 0 (fun l => c11_hasList l) h_0 ⟨_, _, rfl⟩ (by decide) ml_X11_166 im_X11_hasList se_X11_hasList in_X11 co_X11_hasList (by decide +kernel) rfl ⟨Nat.le_of_ble_eq_true rfl, Nat.le_of_ble_eq_true rfl⟩ (Nat.le_of_ble_eq_true rfl) dX11_heir_28 ⟨Nat.le_of_ble_eq_true rfl, Nat.le_of_ble_eq_true rfl⟩ ?_
        refine ⟨_, rfl, hX, hK, fun r28 V28 hK => ?_⟩
        try dsimp only [Option.toList, List.cons_append, List.nil_append]
        obtain ⟨q17, hK⟩ := hK
        refine a_if_eq C 46 dX11_heir_31 (by decide) q17 (fun q18 => ?_) (fun q18 => ?_)
        · replace hK := hK.1 q18
          refine a_bipush C dX11_heir_46 (by decide) ?_
          exact a_iret C E dX11_heir_48 (Nat.le_refl _) (Nat.le_refl _) (hpost _ _ hK)
        · replace hK := hK.2 q18
          refine a_aload_n C dX11_heir_34 rfl ?_
          refine a_getR C fl_X11_28_11 h_0 rfl g_0_2 dX11_heir_35 ?_
          refine a_getR C fl_X11_141_4 h_14 rfl g_14_3 dX11_heir_38 ?_
          refine a_iload_n C dX11_heir_41 rfl ?_
          obtain ⟨q19, hK⟩ := hK
          refine a_zald C h_14_3 dX11_heir_42 (by decide) q19 (fun r20 => ?_)
          refine a_if_ne C 49 dX11_heir_43 (by decide) (z_B2R r20) (fun q21 => ?_) (fun q21 => ?_)
          · replace hK := hK.1 q21
            refine a_aload_n C dX11_heir_49 rfl ?_
            refine a_getR C fl_X11_28_11 h_0 rfl g_0_2 dX11_heir_50 ?_
            refine a_getR C fl_X11_138_4 h_14 rfl g_14_2 dX11_heir_53 ?_
            refine a_iload_n C dX11_heir_56 rfl ?_
            obtain ⟨q22, hK⟩ := hK
            refine a_iald C h_14_2 dX11_heir_57 (by decide) q22 (fun r23 => ?_)
            refine a_istore_n C dX11_heir_58 (Nat.le_of_ble_eq_true rfl) ?_
            refine a_aload_n C dX11_heir_59 rfl ?_
            refine a_getR C fl_X11_28_11 h_0 rfl g_0_2 dX11_heir_60 ?_
            refine a_getR C fl_X11_138_4 h_14 rfl g_14_2 dX11_heir_63 ?_
            refine a_iload_n C dX11_heir_66 rfl ?_
            refine a_iload_n C dX11_heir_67 rfl ?_
            obtain ⟨q24, hK⟩ := hK
            refine a_iast C h_14_2 dX11_heir_68 (by decide) ⟨q24, q15⟩ ?_
            refine a_iload_n C dX11_heir_69 rfl ?_
            exact a_iret C E dX11_heir_70 (Nat.le_refl _) (Nat.le_refl _) (hpost _ _ hK)
          · replace hK := hK.2 q21
            refine a_bipush C dX11_heir_46 (by decide) ?_
            exact a_iret C E dX11_heir_48 (Nat.le_refl _) (Nat.le_refl _) (hpost _ _ hK)
      · replace hK := hK.2 q16
        refine a_bipush C dX11_heir_24 (by decide) ?_
        exact a_iret C E dX11_heir_26 (Nat.le_refl _) (Nat.le_refl _) (hpost _ _ hK)
    refine a_iload_n C dX11_heir_7 rfl ?_
    refine a_iconst C dX11_heir_8 ?_
    obtain ⟨q25, hK⟩ := hK
    refine a_icmp_eq C 19 dX11_heir_9 (by decide) ⟨q25, ⟨by decide, by decide⟩⟩ (fun q26 => ?_) (fun q26 => ?_)
    · replace hK := hK.1 q26
      exact a_ls (lsub_s rfl (lsub_s rfl (lsub_s rfl (lsub_n lsub_0)))) (J19 a1 a2 _ hK)
    · replace hK := hK.2 q26
      refine a_iload_n C dX11_heir_12 rfl ?_
      refine a_callS (as := [zI a2]) (rest := []) C 1 (fun l => c11_isPerson l) ml_X11_131 sa_X11_isPerson in_X11 co_X11_isPerson (by decide +kernel) rfl ⟨Nat.le_of_ble_eq_true rfl, Nat.le_of_ble_eq_true rfl⟩ (Nat.le_of_ble_eq_true rfl) dX11_heir_13 ⟨Nat.le_of_ble_eq_true rfl, Nat.le_of_ble_eq_true rfl⟩ ?_
      refine ⟨a2, _, rfl, hK, fun r13 V13 hK => ?_⟩
      try dsimp only [Option.toList, List.cons_append, List.nil_append]
      obtain ⟨q27, hK⟩ := hK
      refine a_if_eq C 24 dX11_heir_16 (by decide) q27 (fun q28 => ?_) (fun q28 => ?_)
      · replace hK := hK.1 q28
        refine a_bipush C dX11_heir_24 (by decide) ?_
        exact a_iret C E dX11_heir_26 (Nat.le_refl _) (Nat.le_refl _) (hpost _ _ hK)
      · replace hK := hK.2 q28
        exact a_ls (lsub_s rfl (lsub_s rfl (lsub_s rfl (lsub_n lsub_0)))) (J19 a1 a2 _ hK)
