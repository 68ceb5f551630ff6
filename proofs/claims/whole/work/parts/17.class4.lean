def m11_isBit (S : List zC) (V : zV) (a0 : Int) (Q : Int → zV → Prop) : Prop :=
  (inR a0) ∧ ((a0 = 0 → Q 1 V) ∧ (¬ a0 = 0 → ((¬ a0 = 1 → Q 0 V) ∧ (a0 = 1 → Q 1 V))))
def t11_isBit : zT := fun as S V post => ∃ (a0 : Int) (Q : Int → zV → Prop), as = [zI a0] ∧ m11_isBit S V a0 Q ∧ (∀ r V2, Q r V2 → post (some (zI r)) S V2)
set_option maxHeartbeats 4000000 in
set_option maxRecDepth 20000 in
theorem c11_isBit (l : Launch) : zCT l yX11_isBit cX11_isBit 1 (some .boolean) { frames := 0, cells := 0, slots := 0, locals := 0 } t11_isBit := by
  refine zCT_of (by decide) (fun as S V post h => by obtain ⟨a0, Q, rfl, -⟩ := h; exact Nat.le_of_ble_eq_true rfl) ?_
  intro X S V as post C E hT
  obtain ⟨a0, Q, rfl, hK, hpost⟩ := hT
  show zW X S V 0 0 [some (zI a0)] [] 0
  unfold m11_isBit at hK
  refine a_iload_n C dX11_isBit_0 rfl ?_
  obtain ⟨q1, hK⟩ := hK
  refine a_if_eq C 9 dX11_isBit_1 (by decide) q1 (fun q2 => ?_) (fun q2 => ?_)
  · replace hK := hK.1 q2
    refine a_iconst C dX11_isBit_9 ?_
    refine a_goto C 14 dX11_isBit_10 (by decide) ?_
    exact a_zret C E dX11_isBit_14 (Nat.le_refl _) (Nat.le_refl _) (by decide) (hpost _ _ hK)
  · replace hK := hK.2 q2
    refine a_iload_n C dX11_isBit_4 rfl ?_
    refine a_iconst C dX11_isBit_5 ?_
    refine a_icmp_ne C 13 dX11_isBit_6 (by decide) ⟨q1, ⟨by decide, by decide⟩⟩ (fun q3 => ?_) (fun q3 => ?_)
    · replace hK := hK.1 q3
      refine a_iconst C dX11_isBit_13 ?_
      exact a_zret C E dX11_isBit_14 (Nat.le_refl _) (Nat.le_refl _) (by decide) (hpost _ _ hK)
    · replace hK := hK.2 q3
      refine a_iconst C dX11_isBit_9 ?_
      refine a_goto C 14 dX11_isBit_10 (by decide) ?_
      exact a_zret C E dX11_isBit_14 (Nat.le_refl _) (Nat.le_refl _) (by decide) (hpost _ _ hK)

def m11_buy (S : List zC) (V : zV) (a1 : Int) (a2 : Int) (a3 : Int) (Q : Int → zV → Prop) : Prop :=
  m11_isPerson S V a1 (fun r1 V1 => (inR r1) ∧ ((r1 = 0 → Q (-101) V1) ∧ (¬ r1 = 0 → m11_isFeud S V1 a2 (fun r9 V9 => (inR r9) ∧ ((¬ r9 = 0 → m11_isBit S V9 a3 (fun r19 V19 => (inR r19) ∧ ((¬ r19 = 0 → m4_canBuy S 14 V19 a1 a2 a3 (fun r35 V35 => (inR r35) ∧ ((r35 = 0 → Q (-103) V35) ∧ (¬ r35 = 0 → m4_sellTo S 14 V35 a1 a2 a3 (fun r48 V48 => Q r48 V48))))) ∧ (r19 = 0 → Q (-102) V19)))) ∧ (r9 = 0 → Q (-101) V9))))))
def t11_buy : zT := fun as S V post => ∃ (a1 : Int) (a2 : Int) (a3 : Int) (Q : Int → zV → Prop), as = [zR 0, zI a1, zI a2, zI a3] ∧ PSx S ∧ m11_buy S V a1 a2 a3 Q ∧ (∀ r V2, Q r V2 → post (some (zI r)) S V2)
set_option maxHeartbeats 4000000 in
set_option maxRecDepth 20000 in
theorem c11_buy (l : Launch) : zCT l yX11_buy cX11_buy 4 (some .int) { frames := 4, cells := 0, slots := 0, locals := 88 } t11_buy := by
  refine zCT_of (by decide) (fun as S V post h => by obtain ⟨a1, a2, a3, Q, rfl, -⟩ := h; exact Nat.le_of_ble_eq_true rfl) ?_
  intro X S V as post C E hT
  obtain ⟨a1, a2, a3, Q, rfl, hX, hK, hpost⟩ := hT
  obtain ⟨w_0, r_0, h_0, g_0_0, g_0_1, g_0_2, g_0_3, g_0_4, g_0_5, g_0_6, g_0_7⟩ := PSx_0 hX
  obtain ⟨w_14, r_14, h_14, g_14_0, g_14_1, g_14_2, g_14_3, g_14_4, g_14_5, g_14_6, g_14_7, g_14_8, g_14_10, g_14_11⟩ := PSi_o (PSx_i14 hX)
  show zW X S V 0 0 [some (zR 0), some (zI a1), some (zI a2), some (zI a3)] [] 0
  unfold m11_buy at hK
  refine a_iload_n C dX11_buy_0 rfl ?_
  refine a_callS (as := [zI a1]) (rest := []) C 1 (fun l => c11_isPerson l) ml_X11_131 sa_X11_isPerson in_X11 co_X11_isPerson (by decide +kernel) rfl ⟨Nat.le_of_ble_eq_true rfl, Nat.le_of_ble_eq_true rfl⟩ (Nat.le_of_ble_eq_true rfl) dX11_buy_1 ⟨Nat.le_of_ble_eq_true rfl, Nat.le_of_ble_eq_true rfl⟩ ?_
  refine ⟨a1, _, rfl, hK, fun r1 V1 hK => ?_⟩
  try dsimp only [Option.toList, List.cons_append, List.nil_append]
  obtain ⟨q1, hK⟩ := hK
  refine a_if_eq C 15 dX11_buy_4 (by decide) q1 (fun q2 => ?_) (fun q2 => ?_)
  · replace hK := hK.1 q2
    refine a_bipush C dX11_buy_15 (by decide) ?_
    exact a_iret C E dX11_buy_17 (Nat.le_refl _) (Nat.le_refl _) (hpost _ _ hK)
  · replace hK := hK.2 q2
    refine a_aload_n C dX11_buy_7 rfl ?_
    refine a_iload_n C dX11_buy_8 rfl ?_
    refine a_callV (as := [zI a2]) (rest := []) C 1 (fun l => c11_isFeud l) h_0 ⟨_, _, rfl⟩ (by decide) ml_X11_98 im_X11_isFeud se_X11_isFeud in_X11 co_X11_isFeud (by decide +kernel) rfl ⟨Nat.le_of_ble_eq_true rfl, Nat.le_of_ble_eq_true rfl⟩ (Nat.le_of_ble_eq_true rfl) dX11_buy_9 ⟨Nat.le_of_ble_eq_true rfl, Nat.le_of_ble_eq_true rfl⟩ ?_
    refine ⟨a2, _, rfl, hX, hK, fun r9 V9 hK => ?_⟩
    try dsimp only [Option.toList, List.cons_append, List.nil_append]
    obtain ⟨q3, hK⟩ := hK
    refine a_if_ne C 18 dX11_buy_12 (by decide) q3 (fun q4 => ?_) (fun q4 => ?_)
    · replace hK := hK.1 q4
      refine a_iload_n C dX11_buy_18 rfl ?_
      refine a_callS (as := [zI a3]) (rest := []) C 1 (fun l => c11_isBit l) ml_X11_169 sa_X11_isBit in_X11 co_X11_isBit (by decide +kernel) rfl ⟨Nat.le_of_ble_eq_true rfl, Nat.le_of_ble_eq_true rfl⟩ (Nat.le_of_ble_eq_true rfl) dX11_buy_19 ⟨Nat.le_of_ble_eq_true rfl, Nat.le_of_ble_eq_true rfl⟩ ?_
      refine ⟨a3, _, rfl, hK, fun r19 V19 hK => ?_⟩
      try dsimp only [Option.toList, List.cons_append, List.nil_append]
      obtain ⟨q5, hK⟩ := hK
      refine a_if_ne C 28 dX11_buy_22 (by decide) q5 (fun q6 => ?_) (fun q6 => ?_)
      · replace hK := hK.1 q6
        refine a_aload_n C dX11_buy_28 rfl ?_
        refine a_getR C fl_X11_28_11 h_0 rfl g_0_2 dX11_buy_29 ?_
        refine a_iload_n C dX11_buy_32 rfl ?_
        refine a_iload_n C dX11_buy_33 rfl ?_
        refine a_iload_n C dX11_buy_34 rfl ?_
        refine a_callV (as := [zI a1, zI a2, zI a3]) (rest := []) C 3 (fun l => c4_canBuy l) h_14 ⟨_, _, rfl⟩ (by decide) ml_X11_172 im_X4_canBuy se_X4_canBuy in_X4 co_X4_canBuy (by decide +kernel) rfl ⟨Nat.le_of_ble_eq_true rfl, Nat.le_of_ble_eq_true rfl⟩ (Nat.le_of_ble_eq_true rfl) dX11_buy_35 ⟨Nat.le_of_ble_eq_true rfl, Nat.le_of_ble_eq_true rfl⟩ ?_
        refine ⟨14, a1, a2, a3, _, rfl, (PSx_i14 hX), hK, fun r35 V35 hK => ?_⟩
        try dsimp only [Option.toList, List.cons_append, List.nil_append]
        obtain ⟨q7, hK⟩ := hK
        refine a_if_eq C 54 dX11_buy_38 (by decide) q7 (fun q8 => ?_) (fun q8 => ?_)
        · replace hK := hK.1 q8
          refine a_bipush C dX11_buy_54 (by decide) ?_
          exact a_iret C E dX11_buy_56 (Nat.le_refl _) (Nat.le_refl _) (hpost _ _ hK)
        · replace hK := hK.2 q8
          refine a_aload_n C dX11_buy_41 rfl ?_
          refine a_getR C fl_X11_28_11 h_0 rfl g_0_2 dX11_buy_42 ?_
          refine a_iload_n C dX11_buy_45 rfl ?_
          refine a_iload_n C dX11_buy_46 rfl ?_
          refine a_iload_n C dX11_buy_47 rfl ?_
          refine a_callV (as := [zI a1, zI a2, zI a3]) (rest := []) C 3 (fun l => c4_sellTo l) h_14 ⟨_, _, rfl⟩ (by decide) ml_X11_176 im_X4_sellTo se_X4_sellTo in_X4 co_X4_sellTo (by decide +kernel) rfl ⟨Nat.le_of_ble_eq_true rfl, Nat.le_of_ble_eq_true rfl⟩ (Nat.le_of_ble_eq_true rfl) dX11_buy_48 ⟨Nat.le_of_ble_eq_true rfl, Nat.le_of_ble_eq_true rfl⟩ ?_
          refine ⟨14, a1, a2, a3, _, rfl, (PSx_i14 hX), hK, fun r48 V48 hK => ?_⟩
          try dsimp only [Option.toList, List.cons_append, List.nil_append]
          refine a_goto C 56 dX11_buy_51 (by decide) ?_
          exact a_iret C E dX11_buy_56 (Nat.le_refl _) (Nat.le_refl _) (hpost _ _ hK)
      · replace hK := hK.2 q6
        refine a_bipush C dX11_buy_25 (by decide) ?_
        exact a_iret C E dX11_buy_27 (Nat.le_refl _) (Nat.le_refl _) (hpost _ _ hK)
    · replace hK := hK.2 q4
      refine a_bipush C dX11_buy_15 (by decide) ?_
      exact a_iret C E dX11_buy_17 (Nat.le_refl _) (Nat.le_refl _) (hpost _ _ hK)

def m11_lend (S : List zC) (V : zV) (a1 : Int) (a2 : Int) (a3 : Int) (Q : Int → zV → Prop) : Prop :=
  m11_isFeud S V a1 (fun r2 V2 => (inR r2) ∧ ((r2 = 0 → Q (-101) V2) ∧ (¬ r2 = 0 → m11_isPerson S V2 a3 (fun r9 V9 => (inR r9) ∧ ((¬ r9 = 0 → m11_isBit S V9 a2 (fun r19 V19 => (inR r19) ∧ ((¬ r19 = 0 → m4_canLend S 14 V19 a1 a2 a3 (fun r35 V35 => (inR r35) ∧ ((¬ r35 = 0 → (0 ≤ ((2 * a1) + a2) ∧ ((2 * a1) + a2) < 16) ∧ (inR a3) ∧ m4_lenderOf S 14 (vset V35 (14 + 5) (((2 * a1) + a2)).toNat a3) a1 a2 (fun r64 V64 => Q r64 V64)) ∧ (r35 = 0 → Q (-103) V35)))) ∧ (r19 = 0 → Q (-102) V19)))) ∧ (r9 = 0 → Q (-101) V9))))))
def t11_lend : zT := fun as S V post => ∃ (a1 : Int) (a2 : Int) (a3 : Int) (Q : Int → zV → Prop), as = [zR 0, zI a1, zI a2, zI a3] ∧ PSx S ∧ m11_lend S V a1 a2 a3 Q ∧ (∀ r V2, Q r V2 → post (some (zI r)) S V2)
set_option maxHeartbeats 4000000 in
set_option maxRecDepth 20000 in
theorem c11_lend (l : Launch) : zCT l yX11_lend cX11_lend 4 (some .int) { frames := 3, cells := 0, slots := 0, locals := 69 } t11_lend := by
  refine zCT_of (by decide) (fun as S V post h => by obtain ⟨a1, a2, a3, Q, rfl, -⟩ := h; exact Nat.le_of_ble_eq_true rfl) ?_
  intro X S V as post C E hT
  obtain ⟨a1, a2, a3, Q, rfl, hX, hK, hpost⟩ := hT
  obtain ⟨w_0, r_0, h_0, g_0_0, g_0_1, g_0_2, g_0_3, g_0_4, g_0_5, g_0_6, g_0_7⟩ := PSx_0 hX
  obtain ⟨w_14, r_14, h_14, g_14_0, g_14_1, g_14_2, g_14_3, g_14_4, g_14_5, g_14_6, g_14_7, g_14_8, g_14_10, g_14_11⟩ := PSi_o (PSx_i14 hX)
  obtain ⟨r_14_5, h_14_5⟩ := PSi_a5 (PSx_i14 hX)
  show zW X S V 0 0 [some (zR 0), some (zI a1), some (zI a2), some (zI a3)] [] 0
  unfold m11_lend at hK
  refine a_aload_n C dX11_lend_0 rfl ?_
  refine a_iload_n C dX11_lend_1 rfl ?_
  refine a_callV (as := [zI a1]) (rest := []) C 1 (fun l => c11_isFeud l) h_0 ⟨_, _, rfl⟩ (by decide) ml_X11_98 im_X11_isFeud se_X11_isFeud in_X11 co_X11_isFeud (by decide +kernel) rfl ⟨Nat.le_of_ble_eq_true rfl, Nat.le_of_ble_eq_true rfl⟩ (Nat.le_of_ble_eq_true rfl) dX11_lend_2 ⟨Nat.le_of_ble_eq_true rfl, Nat.le_of_ble_eq_true rfl⟩ ?_
  refine ⟨a1, _, rfl, hX, hK, fun r2 V2 hK => ?_⟩
  try dsimp only [Option.toList, List.cons_append, List.nil_append]
  obtain ⟨q1, hK⟩ := hK
  refine a_if_eq C 15 dX11_lend_5 (by decide) q1 (fun q2 => ?_) (fun q2 => ?_)
  · replace hK := hK.1 q2
    refine a_bipush C dX11_lend_15 (by decide) ?_
    exact a_iret C E dX11_lend_17 (Nat.le_refl _) (Nat.le_refl _) (hpost _ _ hK)
  · replace hK := hK.2 q2
    refine a_iload_n C dX11_lend_8 rfl ?_
    refine a_callS (as := [zI a3]) (rest := []) C 1 (fun l => c11_isPerson l) ml_X11_131 sa_X11_isPerson in_X11 co_X11_isPerson (by decide +kernel) rfl ⟨Nat.le_of_ble_eq_true rfl, Nat.le_of_ble_eq_true rfl⟩ (Nat.le_of_ble_eq_true rfl) dX11_lend_9 ⟨Nat.le_of_ble_eq_true rfl, Nat.le_of_ble_eq_true rfl⟩ ?_
    refine ⟨a3, _, rfl, hK, fun r9 V9 hK => ?_⟩
    try dsimp only [Option.toList, List.cons_append, List.nil_append]
    obtain ⟨q3, hK⟩ := hK
    refine a_if_ne C 18 dX11_lend_12 (by decide) q3 (fun q4 => ?_) (fun q4 => ?_)
    · replace hK := hK.1 q4
      refine a_iload_n C dX11_lend_18 rfl ?_
      refine a_callS (as := [zI a2]) (rest := []) C 1 (fun l => c11_isBit l) ml_X11_169 sa_X11_isBit in_X11 co_X11_isBit (by decide +kernel) rfl ⟨Nat.le_of_ble_eq_true rfl, Nat.le_of_ble_eq_true rfl⟩ (Nat.le_of_ble_eq_true rfl) dX11_lend_19 ⟨Nat.le_of_ble_eq_true rfl, Nat.le_of_ble_eq_true rfl⟩ ?_
      refine ⟨a2, _, rfl, hK, fun r19 V19 hK => ?_⟩
      try dsimp only [Option.toList, List.cons_append, List.nil_append]
      obtain ⟨q5, hK⟩ := hK
      refine a_if_ne C 28 dX11_lend_22 (by decide) q5 (fun q6 => ?_) (fun q6 => ?_)
      · replace hK := hK.1 q6
        refine a_aload_n C dX11_lend_28 rfl ?_
        refine a_getR C fl_X11_28_11 h_0 rfl g_0_2 dX11_lend_29 ?_
        refine a_iload_n C dX11_lend_32 rfl ?_
        refine a_iload_n C dX11_lend_33 rfl ?_
        refine a_iload_n C dX11_lend_34 rfl ?_
        refine a_callV (as := [zI a1, zI a2, zI a3]) (rest := []) C 3 (fun l => c4_canLend l) h_14 ⟨_, _, rfl⟩ (by decide) ml_X11_180 im_X4_canLend se_X4_canLend in_X4 co_X4_canLend (by decide +kernel) rfl ⟨Nat.le_of_ble_eq_true rfl, Nat.le_of_ble_eq_true rfl⟩ (Nat.le_of_ble_eq_true rfl) dX11_lend_35 ⟨Nat.le_of_ble_eq_true rfl, Nat.le_of_ble_eq_true rfl⟩ ?_
        refine ⟨14, a1, a2, a3, _, rfl, (PSx_i14 hX), hK, fun r35 V35 hK => ?_⟩
        try dsimp only [Option.toList, List.cons_append, List.nil_append]
        obtain ⟨q7, hK⟩ := hK
        refine a_if_ne C 44 dX11_lend_38 (by decide) q7 (fun q8 => ?_) (fun q8 => ?_)
        · replace hK := hK.1 q8
          refine a_aload_n C dX11_lend_44 rfl ?_
          refine a_getR C fl_X11_28_11 h_0 rfl g_0_2 dX11_lend_45 ?_
          refine a_getR C fl_X11_183_4 h_14 rfl g_14_5 dX11_lend_48 ?_
          refine a_iconst C dX11_lend_51 ?_
          refine a_iload_n C dX11_lend_52 rfl ?_
          refine a_imul C dX11_lend_53 ?_
          refine a_iload_n C dX11_lend_54 rfl ?_
          refine a_iadd C dX11_lend_55 ?_
          refine a_iload_n C dX11_lend_56 rfl ?_
          obtain ⟨q9, hK⟩ := hK
          obtain ⟨q10, hK⟩ := hK
          refine a_iast C h_14_5 dX11_lend_57 (by decide) ⟨q9, q10⟩ ?_
          refine a_aload_n C dX11_lend_58 rfl ?_
          refine a_getR C fl_X11_28_11 h_0 rfl g_0_2 dX11_lend_59 ?_
          refine a_iload_n C dX11_lend_62 rfl ?_
          refine a_iload_n C dX11_lend_63 rfl ?_
          refine a_callV (as := [zI a1, zI a2]) (rest := []) C 2 (fun l => c4_lenderOf l) h_14 ⟨_, _, rfl⟩ (by decide) ml_X11_121 im_X4_lenderOf se_X4_lenderOf in_X4 co_X4_lenderOf (by decide +kernel) rfl ⟨Nat.le_of_ble_eq_true rfl, Nat.le_of_ble_eq_true rfl⟩ (Nat.le_of_ble_eq_true rfl) dX11_lend_64 ⟨Nat.le_of_ble_eq_true rfl, Nat.le_of_ble_eq_true rfl⟩ ?_
          refine ⟨14, a1, a2, _, rfl, (PSx_i14 hX), hK, fun r64 V64 hK => ?_⟩
          try dsimp only [Option.toList, List.cons_append, List.nil_append]
          exact a_iret C E dX11_lend_67 (Nat.le_refl _) (Nat.le_refl _) (hpost _ _ hK)
        · replace hK := hK.2 q8
          refine a_bipush C dX11_lend_41 (by decide) ?_
          exact a_iret C E dX11_lend_43 (Nat.le_refl _) (Nat.le_refl _) (hpost _ _ hK)
      · replace hK := hK.2 q6
        refine a_bipush C dX11_lend_25 (by decide) ?_
        exact a_iret C E dX11_lend_27 (Nat.le_refl _) (Nat.le_refl _) (hpost _ _ hK)
    · replace hK := hK.2 q4
      refine a_bipush C dX11_lend_15 (by decide) ?_
      exact a_iret C E dX11_lend_17 (Nat.le_refl _) (Nat.le_refl _) (hpost _ _ hK)

def m11_peace (S : List zC) (V : zV) (a1 : Int) (Q : Int → zV → Prop) : Prop :=
  m11_isFeud S V a1 (fun r2 V2 => (inR r2) ∧ ((¬ r2 = 0 → m4_canStrike S 14 V2 a1 (fun r16 V16 => (inR r16) ∧ ((¬ r16 = 0 → m4_strike S 14 V16 a1 (fun V30 => m4_struckFeuds S 14 V30 (fun r37 V37 => Q r37 V37))) ∧ (r16 = 0 → Q (-103) V16)))) ∧ (r2 = 0 → Q (-101) V2)))
def t11_peace : zT := fun as S V post => ∃ (a1 : Int) (Q : Int → zV → Prop), as = [zR 0, zI a1] ∧ PSx S ∧ m11_peace S V a1 Q ∧ (∀ r V2, Q r V2 → post (some (zI r)) S V2)
set_option maxHeartbeats 4000000 in
set_option maxRecDepth 20000 in
theorem c11_peace (l : Launch) : zCT l yX11_peace cX11_peace 2 (some .int) { frames := 2, cells := 0, slots := 0, locals := 44 } t11_peace := by
  refine zCT_of (by decide) (fun as S V post h => by obtain ⟨a1, Q, rfl, -⟩ := h; exact Nat.le_of_ble_eq_true rfl) ?_
  intro X S V as post C E hT
  obtain ⟨a1, Q, rfl, hX, hK, hpost⟩ := hT
  obtain ⟨w_0, r_0, h_0, g_0_0, g_0_1, g_0_2, g_0_3, g_0_4, g_0_5, g_0_6, g_0_7⟩ := PSx_0 hX
  obtain ⟨w_14, r_14, h_14, g_14_0, g_14_1, g_14_2, g_14_3, g_14_4, g_14_5, g_14_6, g_14_7, g_14_8, g_14_10, g_14_11⟩ := PSi_o (PSx_i14 hX)
  show zW X S V 0 0 [some (zR 0), some (zI a1)] [] 0
  unfold m11_peace at hK
  refine a_aload_n C dX11_peace_0 rfl ?_
  refine a_iload_n C dX11_peace_1 rfl ?_
  refine a_callV (as := [zI a1]) (rest := []) C 1 (fun l => c11_isFeud l) h_0 ⟨_, _, rfl⟩ (by decide) ml_X11_98 im_X11_isFeud se_X11_isFeud in_X11 co_X11_isFeud (by decide +kernel) rfl ⟨Nat.le_of_ble_eq_true rfl, Nat.le_of_ble_eq_true rfl⟩ (Nat.le_of_ble_eq_true rfl) dX11_peace_2 ⟨Nat.le_of_ble_eq_true rfl, Nat.le_of_ble_eq_true rfl⟩ ?_
  refine ⟨a1, _, rfl, hX, hK, fun r2 V2 hK => ?_⟩
  try dsimp only [Option.toList, List.cons_append, List.nil_append]
  obtain ⟨q1, hK⟩ := hK
  refine a_if_ne C 11 dX11_peace_5 (by decide) q1 (fun q2 => ?_) (fun q2 => ?_)
  · replace hK := hK.1 q2
    refine a_aload_n C dX11_peace_11 rfl ?_
    refine a_getR C fl_X11_28_11 h_0 rfl g_0_2 dX11_peace_12 ?_
    refine a_iload_n C dX11_peace_15 rfl ?_
    refine a_callV (as := [zI a1]) (rest := []) C 1 (fun l => c4_canStrike l) h_14 ⟨_, _, rfl⟩ (by decide) ml_X11_186 im_X4_canStrike se_X4_canStrike in_X4 co_X4_canStrike (by decide +kernel) rfl ⟨Nat.le_of_ble_eq_true rfl, Nat.le_of_ble_eq_true rfl⟩ (Nat.le_of_ble_eq_true rfl) dX11_peace_16 ⟨Nat.le_of_ble_eq_true rfl, Nat.le_of_ble_eq_true rfl⟩ ?_
    refine ⟨14, a1, _, rfl, (PSx_i14 hX), hK, fun r16 V16 hK => ?_⟩
    try dsimp only [Option.toList, List.cons_append, List.nil_append]
    obtain ⟨q3, hK⟩ := hK
    refine a_if_ne C 25 dX11_peace_19 (by decide) q3 (fun q4 => ?_) (fun q4 => ?_)
    · replace hK := hK.1 q4
      refine a_aload_n C dX11_peace_25 rfl ?_
      refine a_getR C fl_X11_28_11 h_0 rfl g_0_2 dX11_peace_26 ?_
      refine a_iload_n C dX11_peace_29 rfl ?_
      refine a_callV (as := [zI a1]) (rest := []) C 1 (fun l => c4_strike l) h_14 ⟨_, _, rfl⟩ (by decide) ml_X11_189 im_X4_strike se_X4_strike in_X4 co_X4_strike (by decide +kernel) rfl ⟨Nat.le_of_ble_eq_true rfl, Nat.le_of_ble_eq_true rfl⟩ (Nat.le_of_ble_eq_true rfl) dX11_peace_30 ⟨Nat.le_of_ble_eq_true rfl, Nat.le_of_ble_eq_true rfl⟩ ?_
      refine ⟨14, a1, _, rfl, (PSx_i14 hX), hK, fun V30 hK => ?_⟩
      try dsimp only [Option.toList, List.cons_append, List.nil_append]
      refine a_aload_n C dX11_peace_33 rfl ?_
      refine a_getR C fl_X11_28_11 h_0 rfl g_0_2 dX11_peace_34 ?_
      refine a_callV (as := []) (rest := []) C 0 (fun l => c4_struckFeuds l) h_14 ⟨_, _, rfl⟩ (by decide) ml_X11_193 im_X4_struckFeuds se_X4_struckFeuds in_X4 co_X4_struckFeuds (by decide +kernel) rfl ⟨Nat.le_of_ble_eq_true rfl, Nat.le_of_ble_eq_true rfl⟩ (Nat.le_of_ble_eq_true rfl) dX11_peace_37 ⟨Nat.le_of_ble_eq_true rfl, Nat.le_of_ble_eq_true rfl⟩ ?_
      refine ⟨14, _, rfl, (PSx_i14 hX), hK, fun r37 V37 hK => ?_⟩
      try dsimp only [Option.toList, List.cons_append, List.nil_append]
      exact a_iret C E dX11_peace_40 (Nat.le_refl _) (Nat.le_refl _) (hpost _ _ hK)
    · replace hK := hK.2 q4
      refine a_bipush C dX11_peace_22 (by decide) ?_
      exact a_iret C E dX11_peace_24 (Nat.le_refl _) (Nat.le_refl _) (hpost _ _ hK)
  · replace hK := hK.2 q2
    refine a_bipush C dX11_peace_8 (by decide) ?_
    exact a_iret C E dX11_peace_10 (Nat.le_refl _) (Nat.le_refl _) (hpost _ _ hK)

def m11_death (S : List zC) (V : zV) (a1 : Int) (Q : Int → zV → Prop) : Prop :=
  m11_isPerson S V a1 (fun r1 V1 => (inR r1) ∧ ((¬ r1 = 0 → m11_hasList S V1 (fun r11 V11 => (inR r11) ∧ ((r11 = 0 → Q (-103) V11) ∧ (¬ r11 = 0 → (0 ≤ a1 ∧ a1 < 6) ∧ (((V11 (14 + 3) (a1).toNat) = 0 → Q (-103) V11) ∧ (¬ (V11 (14 + 3) (a1).toNat) = 0 → m4_die S 14 V11 a1 (fun r34 V34 => Q r34 V34))))))) ∧ (r1 = 0 → Q (-101) V1)))
def t11_death : zT := fun as S V post => ∃ (a1 : Int) (Q : Int → zV → Prop), as = [zR 0, zI a1] ∧ PSx S ∧ m11_death S V a1 Q ∧ (∀ r V2, Q r V2 → post (some (zI r)) S V2)
set_option maxHeartbeats 4000000 in
set_option maxRecDepth 20000 in
theorem c11_death (l : Launch) : zCT l yX11_death cX11_death 2 (some .int) { frames := 3, cells := 0, slots := 0, locals := 69 } t11_death := by
  refine zCT_of (by decide) (fun as S V post h => by obtain ⟨a1, Q, rfl, -⟩ := h; exact Nat.le_of_ble_eq_true rfl) ?_
  intro X S V as post C E hT
  obtain ⟨a1, Q, rfl, hX, hK, hpost⟩ := hT
  obtain ⟨w_0, r_0, h_0, g_0_0, g_0_1, g_0_2, g_0_3, g_0_4, g_0_5, g_0_6, g_0_7⟩ := PSx_0 hX
  obtain ⟨w_14, r_14, h_14, g_14_0, g_14_1, g_14_2, g_14_3, g_14_4, g_14_5, g_14_6, g_14_7, g_14_8, g_14_10, g_14_11⟩ := PSi_o (PSx_i14 hX)
  obtain ⟨r_14_3, h_14_3⟩ := PSi_a3 (PSx_i14 hX)
  show zW X S V 0 0 [some (zR 0), some (zI a1)] [] 0
  unfold m11_death at hK
  refine a_iload_n C dX11_death_0 rfl ?_
  refine a_callS (as := [zI a1]) (rest := []) C 1 (fun l => c11_isPerson l) ml_X11_131 sa_X11_isPerson in_X11 co_X11_isPerson (by decide +kernel) rfl ⟨Nat.le_of_ble_eq_true rfl, Nat.le_of_ble_eq_true rfl⟩ (Nat.le_of_ble_eq_true rfl) dX11_death_1 ⟨Nat.le_of_ble_eq_true rfl, Nat.le_of_ble_eq_true rfl⟩ ?_
  refine ⟨a1, _, rfl, hK, fun r1 V1 hK => ?_⟩
  try dsimp only [Option.toList, List.cons_append, List.nil_append]
  obtain ⟨q1, hK⟩ := hK
  refine a_if_ne C 10 dX11_death_4 (by decide) q1 (fun q2 => ?_) (fun q2 => ?_)
  · replace hK := hK.1 q2
    refine a_aload_n C dX11_death_10 rfl ?_
    refine a_callV (as := []) (rest := []) C 0 (fun l => c11_hasList l) h_0 ⟨_, _, rfl⟩ (by decide) ml_X11_166 im_X11_hasList se_X11_hasList in_X11 co_X11_hasList (by decide +kernel) rfl ⟨Nat.le_of_ble_eq_true rfl, Nat.le_of_ble_eq_true rfl⟩ (Nat.le_of_ble_eq_true rfl) dX11_death_11 ⟨Nat.le_of_ble_eq_true rfl, Nat.le_of_ble_eq_true rfl⟩ ?_
    refine ⟨_, rfl, hX, hK, fun r11 V11 hK => ?_⟩
    try dsimp only [Option.toList, List.cons_append, List.nil_append]
    obtain ⟨q3, hK⟩ := hK
    refine a_if_eq C 40 dX11_death_14 (by decide) q3 (fun q4 => ?_) (fun q4 => ?_)
    · replace hK := hK.1 q4
      refine a_bipush C dX11_death_40 (by decide) ?_
      exact a_iret C E dX11_death_42 (Nat.le_refl _) (Nat.le_refl _) (hpost _ _ hK)
    · replace hK := hK.2 q4
      refine a_aload_n C dX11_death_17 rfl ?_
      refine a_getR C fl_X11_28_11 h_0 rfl g_0_2 dX11_death_18 ?_
      refine a_getR C fl_X11_141_4 h_14 rfl g_14_3 dX11_death_21 ?_
      refine a_iload_n C dX11_death_24 rfl ?_
      obtain ⟨q5, hK⟩ := hK
      refine a_zald C h_14_3 dX11_death_25 (by decide) q5 (fun r6 => ?_)
      refine a_if_eq C 40 dX11_death_26 (by decide) (z_B2R r6) (fun q7 => ?_) (fun q7 => ?_)
      · replace hK := hK.1 q7
        refine a_bipush C dX11_death_40 (by decide) ?_
        exact a_iret C E dX11_death_42 (Nat.le_refl _) (Nat.le_refl _) (hpost _ _ hK)
      · replace hK := hK.2 q7
        refine a_aload_n C dX11_death_29 rfl ?_
        refine a_getR C fl_X11_28_11 h_0 rfl g_0_2 dX11_death_30 ?_
        refine a_iload_n C dX11_death_33 rfl ?_
        refine a_callV (as := [zI a1]) (rest := []) C 1 (fun l => c4_die l) h_14 ⟨_, _, rfl⟩ (by decide) ml_X11_196 im_X4_die se_X4_die in_X4 co_X4_die (by decide +kernel) rfl ⟨Nat.le_of_ble_eq_true rfl, Nat.le_of_ble_eq_true rfl⟩ (Nat.le_of_ble_eq_true rfl) dX11_death_34 ⟨Nat.le_of_ble_eq_true rfl, Nat.le_of_ble_eq_true rfl⟩ ?_
        refine ⟨14, a1, _, rfl, (PSx_i14 hX), hK, fun r34 V34 hK => ?_⟩
        try dsimp only [Option.toList, List.cons_append, List.nil_append]
        refine a_goto C 42 dX11_death_37 (by decide) ?_
        exact a_iret C E dX11_death_42 (Nat.le_refl _) (Nat.le_refl _) (hpost _ _ hK)
  · replace hK := hK.2 q2
    refine a_bipush C dX11_death_7 (by decide) ?_
    exact a_iret C E dX11_death_9 (Nat.le_refl _) (Nat.le_refl _) (hpost _ _ hK)

def m11_areTwo (S : List zC) (V : zV) (a0 : Int) (a1 : Int) (Q : Int → zV → Prop) : Prop :=
  m11_isPerson S V a0 (fun r1 V1 => (inR r1) ∧ ((r1 = 0 → Q 0 V1) ∧ (¬ r1 = 0 → m11_isPerson S V1 a1 (fun r8 V8 => (inR r8) ∧ ((r8 = 0 → Q 0 V8) ∧ (¬ r8 = 0 → (inR a0) ∧ (inR a1) ∧ ((a0 = a1 → Q 0 V8) ∧ (¬ a0 = a1 → Q 1 V8))))))))
def t11_areTwo : zT := fun as S V post => ∃ (a0 : Int) (a1 : Int) (Q : Int → zV → Prop), as = [zI a0, zI a1] ∧ m11_areTwo S V a0 a1 Q ∧ (∀ r V2, Q r V2 → post (some (zI r)) S V2)
set_option maxHeartbeats 4000000 in
set_option maxRecDepth 20000 in
theorem c11_areTwo (l : Launch) : zCT l yX11_areTwo cX11_areTwo 2 (some .boolean) { frames := 1, cells := 0, slots := 0, locals := 20 } t11_areTwo := by
  refine zCT_of (by decide) (fun as S V post h => by obtain ⟨a0, a1, Q, rfl, -⟩ := h; exact Nat.le_of_ble_eq_true rfl) ?_
  intro X S V as post C E hT
  obtain ⟨a0, a1, Q, rfl, hK, hpost⟩ := hT
  show zW X S V 0 0 [some (zI a0), some (zI a1)] [] 0
  unfold m11_areTwo at hK
  refine a_iload_n C dX11_areTwo_0 rfl ?_
  refine a_callS (as := [zI a0]) (rest := []) C 1 (fun l => c11_isPerson l) ml_X11_131 sa_X11_isPerson in_X11 co_X11_isPerson (by decide +kernel) rfl ⟨Nat.le_of_ble_eq_true rfl, Nat.le_of_ble_eq_true rfl⟩ (Nat.le_of_ble_eq_true rfl) dX11_areTwo_1 ⟨Nat.le_of_ble_eq_true rfl, Nat.le_of_ble_eq_true rfl⟩ ?_
  refine ⟨a0, _, rfl, hK, fun r1 V1 hK => ?_⟩
  try dsimp only [Option.toList, List.cons_append, List.nil_append]
  obtain ⟨q1, hK⟩ := hK
  refine a_if_eq C 23 dX11_areTwo_4 (by decide) q1 (fun q2 => ?_) (fun q2 => ?_)
  · replace hK := hK.1 q2
    refine a_iconst C dX11_areTwo_23 ?_
    exact a_zret C E dX11_areTwo_24 (Nat.le_refl _) (Nat.le_refl _) (by decide) (hpost _ _ hK)
  · replace hK := hK.2 q2
    refine a_iload_n C dX11_areTwo_7 rfl ?_
    refine a_callS (as := [zI a1]) (rest := []) C 1 (fun l => c11_isPerson l) ml_X11_131 sa_X11_isPerson in_X11 co_X11_isPerson (by decide +kernel) rfl ⟨Nat.le_of_ble_eq_true rfl, Nat.le_of_ble_eq_true rfl⟩ (Nat.le_of_ble_eq_true rfl) dX11_areTwo_8 ⟨Nat.le_of_ble_eq_true rfl, Nat.le_of_ble_eq_true rfl⟩ ?_
    refine ⟨a1, _, rfl, hK, fun r8 V8 hK => ?_⟩
    try dsimp only [Option.toList, List.cons_append, List.nil_append]
    obtain ⟨q3, hK⟩ := hK
    refine a_if_eq C 23 dX11_areTwo_11 (by decide) q3 (fun q4 => ?_) (fun q4 => ?_)
    · replace hK := hK.1 q4
      refine a_iconst C dX11_areTwo_23 ?_
      exact a_zret C E dX11_areTwo_24 (Nat.le_refl _) (Nat.le_refl _) (by decide) (hpost _ _ hK)
    · replace hK := hK.2 q4
      refine a_iload_n C dX11_areTwo_14 rfl ?_
      refine a_iload_n C dX11_areTwo_15 rfl ?_
      obtain ⟨q5, hK⟩ := hK
      obtain ⟨q6, hK⟩ := hK
      refine a_icmp_eq C 23 dX11_areTwo_16 (by decide) ⟨q5, q6⟩ (fun q7 => ?_) (fun q7 => ?_)
      · replace hK := hK.1 q7
        refine a_iconst C dX11_areTwo_23 ?_
        exact a_zret C E dX11_areTwo_24 (Nat.le_refl _) (Nat.le_refl _) (by decide) (hpost _ _ hK)
      · replace hK := hK.2 q7
        refine a_iconst C dX11_areTwo_19 ?_
        refine a_goto C 24 dX11_areTwo_20 (by decide) ?_
        exact a_zret C E dX11_areTwo_24 (Nat.le_refl _) (Nat.le_refl _) (by decide) (hpost _ _ hK)

def m11_mayHarm (S : List zC) (V : zV) (a1 : Int) (a2 : Int) (Q : Int → zV → Prop) : Prop :=
  m11_areTwo S V a1 a2 (fun r2 V2 => (inR r2) ∧ ((r2 = 0 → Q (-101) V2) ∧ (¬ r2 = 0 → m4_feudBetween S 14 V2 a1 a2 (fun r14 V14 => Q r14 V14))))
def t11_mayHarm : zT := fun as S V post => ∃ (a1 : Int) (a2 : Int) (Q : Int → zV → Prop), as = [zR 0, zI a1, zI a2] ∧ PSx S ∧ m11_mayHarm S V a1 a2 Q ∧ (∀ r V2, Q r V2 → post (some (zI r)) S V2)
set_option maxHeartbeats 4000000 in
set_option maxRecDepth 20000 in
theorem c11_mayHarm (l : Launch) : zCT l yX11_mayHarm cX11_mayHarm 3 (some .int) { frames := 3, cells := 0, slots := 0, locals := 72 } t11_mayHarm := by
  refine zCT_of (by decide) (fun as S V post h => by obtain ⟨a1, a2, Q, rfl, -⟩ := h; exact Nat.le_of_ble_eq_true rfl) ?_
  intro X S V as post C E hT
  obtain ⟨a1, a2, Q, rfl, hX, hK, hpost⟩ := hT
  obtain ⟨w_0, r_0, h_0, g_0_0, g_0_1, g_0_2, g_0_3, g_0_4, g_0_5, g_0_6, g_0_7⟩ := PSx_0 hX
  obtain ⟨w_14, r_14, h_14, g_14_0, g_14_1, g_14_2, g_14_3, g_14_4, g_14_5, g_14_6, g_14_7, g_14_8, g_14_10, g_14_11⟩ := PSi_o (PSx_i14 hX)
  show zW X S V 0 0 [some (zR 0), some (zI a1), some (zI a2)] [] 0
  unfold m11_mayHarm at hK
  refine a_iload_n C dX11_mayHarm_0 rfl ?_
  refine a_iload_n C dX11_mayHarm_1 rfl ?_
  refine a_callS (as := [zI a1, zI a2]) (rest := []) C 2 (fun l => c11_areTwo l) ml_X11_199 sa_X11_areTwo in_X11 co_X11_areTwo (by decide +kernel) rfl ⟨Nat.le_of_ble_eq_true rfl, Nat.le_of_ble_eq_true rfl⟩ (Nat.le_of_ble_eq_true rfl) dX11_mayHarm_2 ⟨Nat.le_of_ble_eq_true rfl, Nat.le_of_ble_eq_true rfl⟩ ?_
  refine ⟨a1, a2, _, rfl, hK, fun r2 V2 hK => ?_⟩
  try dsimp only [Option.toList, List.cons_append, List.nil_append]
  obtain ⟨q1, hK⟩ := hK
  refine a_if_eq C 20 dX11_mayHarm_5 (by decide) q1 (fun q2 => ?_) (fun q2 => ?_)
  · replace hK := hK.1 q2
    refine a_bipush C dX11_mayHarm_20 (by decide) ?_
    exact a_iret C E dX11_mayHarm_22 (Nat.le_refl _) (Nat.le_refl _) (hpost _ _ hK)
  · replace hK := hK.2 q2
    refine a_aload_n C dX11_mayHarm_8 rfl ?_
    refine a_getR C fl_X11_28_11 h_0 rfl g_0_2 dX11_mayHarm_9 ?_
    refine a_iload_n C dX11_mayHarm_12 rfl ?_
    refine a_iload_n C dX11_mayHarm_13 rfl ?_
    refine a_callV (as := [zI a1, zI a2]) (rest := []) C 2 (fun l => c4_feudBetween l) h_14 ⟨_, _, rfl⟩ (by decide) ml_X11_203 im_X4_feudBetween se_X4_feudBetween in_X4 co_X4_feudBetween (by decide +kernel) rfl ⟨Nat.le_of_ble_eq_true rfl, Nat.le_of_ble_eq_true rfl⟩ (Nat.le_of_ble_eq_true rfl) dX11_mayHarm_14 ⟨Nat.le_of_ble_eq_true rfl, Nat.le_of_ble_eq_true rfl⟩ ?_
    refine ⟨14, a1, a2, _, rfl, (PSx_i14 hX), hK, fun r14 V14 hK => ?_⟩
    try dsimp only [Option.toList, List.cons_append, List.nil_append]
    refine a_goto C 22 dX11_mayHarm_17 (by decide) ?_
    exact a_iret C E dX11_mayHarm_22 (Nat.le_refl _) (Nat.le_refl _) (hpost _ _ hK)

def m11_harm (S : List zC) (V : zV) (a1 : Int) (a2 : Int) (Q : Int → zV → Prop) : Prop :=
  m11_areTwo S V a1 a2 (fun r2 V2 => (inR r2) ∧ ((¬ r2 = 0 → m4_feudBetween S 14 V2 a1 a2 (fun r17 V17 => (inR r17) ∧ ((¬ r17 = (-1) → m4_keepHarm S 14 V17 a1 a2 (fun r35 V35 => (inR r35) ∧ ((r35 = 0 → Q (-104) V35) ∧ (¬ r35 = 0 → Q r17 V35)))) ∧ (r17 = (-1) → Q (-103) V17)))) ∧ (r2 = 0 → Q (-101) V2)))
def t11_harm : zT := fun as S V post => ∃ (a1 : Int) (a2 : Int) (Q : Int → zV → Prop), as = [zR 0, zI a1, zI a2] ∧ PSx S ∧ m11_harm S V a1 a2 Q ∧ (∀ r V2, Q r V2 → post (some (zI r)) S V2)
set_option maxHeartbeats 4000000 in
set_option maxRecDepth 20000 in
theorem c11_harm (l : Launch) : zCT l yX11_harm cX11_harm 4 (some .int) { frames := 3, cells := 0, slots := 0, locals := 72 } t11_harm := by
  refine zCT_of (by decide) (fun as S V post h => by obtain ⟨a1, a2, Q, rfl, -⟩ := h; exact Nat.le_of_ble_eq_true rfl) ?_
  intro X S V as post C E hT
  obtain ⟨a1, a2, Q, rfl, hX, hK, hpost⟩ := hT
  obtain ⟨w_0, r_0, h_0, g_0_0, g_0_1, g_0_2, g_0_3, g_0_4, g_0_5, g_0_6, g_0_7⟩ := PSx_0 hX
  obtain ⟨w_14, r_14, h_14, g_14_0, g_14_1, g_14_2, g_14_3, g_14_4, g_14_5, g_14_6, g_14_7, g_14_8, g_14_10, g_14_11⟩ := PSi_o (PSx_i14 hX)
  show zW X S V 0 0 [some (zR 0), some (zI a1), some (zI a2), none] [] 0
  unfold m11_harm at hK
  refine a_iload_n C dX11_harm_0 rfl ?_
  refine a_iload_n C dX11_harm_1 rfl ?_
  refine a_callS (as := [zI a1, zI a2]) (rest := []) C 2 (fun l => c11_areTwo l) ml_X11_199 sa_X11_areTwo in_X11 co_X11_areTwo (by decide +kernel) rfl ⟨Nat.le_of_ble_eq_true rfl, Nat.le_of_ble_eq_true rfl⟩ (Nat.le_of_ble_eq_true rfl) dX11_harm_2 ⟨Nat.le_of_ble_eq_true rfl, Nat.le_of_ble_eq_true rfl⟩ ?_
  refine ⟨a1, a2, _, rfl, hK, fun r2 V2 hK => ?_⟩
  try dsimp only [Option.toList, List.cons_append, List.nil_append]
  obtain ⟨q1, hK⟩ := hK
  refine a_if_ne C 11 dX11_harm_5 (by decide) q1 (fun q2 => ?_) (fun q2 => ?_)
  · replace hK := hK.1 q2
    refine a_aload_n C dX11_harm_11 rfl ?_
    refine a_getR C fl_X11_28_11 h_0 rfl g_0_2 dX11_harm_12 ?_
    refine a_iload_n C dX11_harm_15 rfl ?_
    refine a_iload_n C dX11_harm_16 rfl ?_
    refine a_callV (as := [zI a1, zI a2]) (rest := []) C 2 (fun l => c4_feudBetween l) h_14 ⟨_, _, rfl⟩ (by decide) ml_X11_203 im_X4_feudBetween se_X4_feudBetween in_X4 co_X4_feudBetween (by decide +kernel) rfl ⟨Nat.le_of_ble_eq_true rfl, Nat.le_of_ble_eq_true rfl⟩ (Nat.le_of_ble_eq_true rfl) dX11_harm_17 ⟨Nat.le_of_ble_eq_true rfl, Nat.le_of_ble_eq_true rfl⟩ ?_
    refine ⟨14, a1, a2, _, rfl, (PSx_i14 hX), hK, fun r17 V17 hK => ?_⟩
    try dsimp only [Option.toList, List.cons_append, List.nil_append]
    refine a_istore_n C dX11_harm_20 (Nat.le_of_ble_eq_true rfl) ?_
    refine a_iload_n C dX11_harm_21 rfl ?_
    refine a_iconst C dX11_harm_22 ?_
    obtain ⟨q3, hK⟩ := hK
    refine a_icmp_ne C 29 dX11_harm_23 (by decide) ⟨q3, ⟨by decide, by decide⟩⟩ (fun q4 => ?_) (fun q4 => ?_)
    · replace hK := hK.1 q4
      refine a_aload_n C dX11_harm_29 rfl ?_
      refine a_getR C fl_X11_28_11 h_0 rfl g_0_2 dX11_harm_30 ?_
      refine a_iload_n C dX11_harm_33 rfl ?_
      refine a_iload_n C dX11_harm_34 rfl ?_
      refine a_callV (as := [zI a1, zI a2]) (rest := []) C 2 (fun l => c4_keepHarm l) h_14 ⟨_, _, rfl⟩ (by decide) ml_X11_206 im_X4_keepHarm se_X4_keepHarm in_X4 co_X4_keepHarm (by decide +kernel) rfl ⟨Nat.le_of_ble_eq_true rfl, Nat.le_of_ble_eq_true rfl⟩ (Nat.le_of_ble_eq_true rfl) dX11_harm_35 ⟨Nat.le_of_ble_eq_true rfl, Nat.le_of_ble_eq_true rfl⟩ ?_
      refine ⟨14, a1, a2, _, rfl, (PSx_i14 hX), hK, fun r35 V35 hK => ?_⟩
      try dsimp only [Option.toList, List.cons_append, List.nil_append]
      obtain ⟨q5, hK⟩ := hK
      refine a_if_eq C 45 dX11_harm_38 (by decide) q5 (fun q6 => ?_) (fun q6 => ?_)
      · replace hK := hK.1 q6
        refine a_bipush C dX11_harm_45 (by decide) ?_
        exact a_iret C E dX11_harm_47 (Nat.le_refl _) (Nat.le_refl _) (hpost _ _ hK)
      · replace hK := hK.2 q6
        refine a_iload_n C dX11_harm_41 rfl ?_
        refine a_goto C 47 dX11_harm_42 (by decide) ?_
        exact a_iret C E dX11_harm_47 (Nat.le_refl _) (Nat.le_refl _) (hpost _ _ hK)
    · replace hK := hK.2 q4
      refine a_bipush C dX11_harm_26 (by decide) ?_
      exact a_iret C E dX11_harm_28 (Nat.le_refl _) (Nat.le_refl _) (hpost _ _ hK)
  · replace hK := hK.2 q2
    refine a_bipush C dX11_harm_8 (by decide) ?_
    exact a_iret C E dX11_harm_10 (Nat.le_refl _) (Nat.le_refl _) (hpost _ _ hK)

def m11_season (S : List zC) (V : zV)  (Q : Int → zV → Prop) : Prop :=
  m11_hasList S V (fun r1 V1 => (inR r1) ∧ ((r1 = 0 → Q (-103) V1) ∧ (¬ r1 = 0 → m4_endSeason S 14 V1 (fun r11 V11 => Q r11 V11))))
def t11_season : zT := fun as S V post => ∃ (Q : Int → zV → Prop), as = [zR 0] ∧ PSx S ∧ m11_season S V Q ∧ (∀ r V2, Q r V2 → post (some (zI r)) S V2)
set_option maxHeartbeats 4000000 in
set_option maxRecDepth 20000 in
theorem c11_season (l : Launch) : zCT l yX11_season cX11_season 1 (some .int) { frames := 3, cells := 0, slots := 0, locals := 66 } t11_season := by
  refine zCT_of (by decide) (fun as S V post h => by obtain ⟨Q, rfl, -⟩ := h; exact Nat.le_of_ble_eq_true rfl) ?_
  intro X S V as post C E hT
  obtain ⟨Q, rfl, hX, hK, hpost⟩ := hT
  obtain ⟨w_0, r_0, h_0, g_0_0, g_0_1, g_0_2, g_0_3, g_0_4, g_0_5, g_0_6, g_0_7⟩ := PSx_0 hX
  obtain ⟨w_14, r_14, h_14, g_14_0, g_14_1, g_14_2, g_14_3, g_14_4, g_14_5, g_14_6, g_14_7, g_14_8, g_14_10, g_14_11⟩ := PSi_o (PSx_i14 hX)
  show zW X S V 0 0 [some (zR 0)] [] 0
  unfold m11_season at hK
  refine a_aload_n C dX11_season_0 rfl ?_
  refine a_callV (as := []) (rest := []) C 0 (fun l => c11_hasList l) h_0 ⟨_, _, rfl⟩ (by decide) ml_X11_166 im_X11_hasList se_X11_hasList in_X11 co_X11_hasList (by decide +kernel) rfl ⟨Nat.le_of_ble_eq_true rfl, Nat.le_of_ble_eq_true rfl⟩ (Nat.le_of_ble_eq_true rfl) dX11_season_1 ⟨Nat.le_of_ble_eq_true rfl, Nat.le_of_ble_eq_true rfl⟩ ?_
  refine ⟨_, rfl, hX, hK, fun r1 V1 hK => ?_⟩
  try dsimp only [Option.toList, List.cons_append, List.nil_append]
  obtain ⟨q1, hK⟩ := hK
  refine a_if_eq C 17 dX11_season_4 (by decide) q1 (fun q2 => ?_) (fun q2 => ?_)
  · replace hK := hK.1 q2
    refine a_bipush C dX11_season_17 (by decide) ?_
    exact a_iret C E dX11_season_19 (Nat.le_refl _) (Nat.le_refl _) (hpost _ _ hK)
  · replace hK := hK.2 q2
    refine a_aload_n C dX11_season_7 rfl ?_
    refine a_getR C fl_X11_28_11 h_0 rfl g_0_2 dX11_season_8 ?_
    refine a_callV (as := []) (rest := []) C 0 (fun l => c4_endSeason l) h_14 ⟨_, _, rfl⟩ (by decide) ml_X11_209 im_X4_endSeason se_X4_endSeason in_X4 co_X4_endSeason (by decide +kernel) rfl ⟨Nat.le_of_ble_eq_true rfl, Nat.le_of_ble_eq_true rfl⟩ (Nat.le_of_ble_eq_true rfl) dX11_season_11 ⟨Nat.le_of_ble_eq_true rfl, Nat.le_of_ble_eq_true rfl⟩ ?_
    refine ⟨14, _, rfl, (PSx_i14 hX), hK, fun r11 V11 hK => ?_⟩
    try dsimp only [Option.toList, List.cons_append, List.nil_append]
    refine a_goto C 19 dX11_season_14 (by decide) ?_
    exact a_iret C E dX11_season_19 (Nat.le_refl _) (Nat.le_refl _) (hpost _ _ hK)

def m11_cheaper (S : List zC) (V : zV) (a0 : Int) (a1 : Int) (Q : Int → zV → Prop) : Prop :=
  (inR a0) ∧ ((¬ a0 = (-1) → (inR a1) ∧ ((¬ a1 = (-1) → Q (if a1 < a0 then a1 else a0) V) ∧ (a1 = (-1) → Q a0 V))) ∧ (a0 = (-1) → Q a1 V))
def t11_cheaper : zT := fun as S V post => ∃ (a0 : Int) (a1 : Int) (Q : Int → zV → Prop), as = [zI a0, zI a1] ∧ m11_cheaper S V a0 a1 Q ∧ (∀ r V2, Q r V2 → post (some (zI r)) S V2)
set_option maxHeartbeats 4000000 in
set_option maxRecDepth 20000 in
theorem c11_cheaper (l : Launch) : zCT l yX11_cheaper cX11_cheaper 2 (some .int) { frames := 1, cells := 0, slots := 0, locals := 21 } t11_cheaper := by
  refine zCT_of (by decide) (fun as S V post h => by obtain ⟨a0, a1, Q, rfl, -⟩ := h; exact Nat.le_of_ble_eq_true rfl) ?_
  intro X S V as post C E hT
  obtain ⟨a0, a1, Q, rfl, hK, hpost⟩ := hT
  show zW X S V 0 0 [some (zI a0), some (zI a1)] [] 0
  unfold m11_cheaper at hK
  refine a_iload_n C dX11_cheaper_0 rfl ?_
  refine a_iconst C dX11_cheaper_1 ?_
  obtain ⟨q1, hK⟩ := hK
  refine a_icmp_ne C 7 dX11_cheaper_2 (by decide) ⟨q1, ⟨by decide, by decide⟩⟩ (fun q2 => ?_) (fun q2 => ?_)
  · replace hK := hK.1 q2
    refine a_iload_n C dX11_cheaper_7 rfl ?_
    refine a_iconst C dX11_cheaper_8 ?_
    obtain ⟨q3, hK⟩ := hK
    refine a_icmp_ne C 16 dX11_cheaper_9 (by decide) ⟨q3, ⟨by decide, by decide⟩⟩ (fun q4 => ?_) (fun q4 => ?_)
    · replace hK := hK.1 q4
      refine a_iload_n C dX11_cheaper_16 rfl ?_
      refine a_iload_n C dX11_cheaper_17 rfl ?_
      refine a_min C ⟨q1, q3⟩ ml_X11_320 sa_min in_J9 co_min (by decide) (by decide) (Nat.le_of_ble_eq_true rfl) (Nat.le_of_ble_eq_true rfl) (Nat.le_of_ble_eq_true rfl) dX11_cheaper_18 ?_
      exact a_iret C E dX11_cheaper_21 (Nat.le_refl _) (Nat.le_refl _) (hpost _ _ hK)
    · replace hK := hK.2 q4
      refine a_iload_n C dX11_cheaper_12 rfl ?_
      refine a_goto C 21 dX11_cheaper_13 (by decide) ?_
      exact a_iret C E dX11_cheaper_21 (Nat.le_refl _) (Nat.le_refl _) (hpost _ _ hK)
  · replace hK := hK.2 q2
    refine a_iload_n C dX11_cheaper_5 rfl ?_
    exact a_iret C E dX11_cheaper_6 (Nat.le_refl _) (Nat.le_refl _) (hpost _ _ hK)

def m11_costOfFeud (S : List zC) (V : zV) (a1 : Int) (a2 : Int) (a3 : Int) (Q : Int → zV → Prop) : Prop :=
  m4_copyFrom S 36 14 V (fun V8 => m4_getOn S 36 V8 a2 a1 0 (fun r18 V18 => (inR r18) ∧ ((¬ r18 = (-1) → m4_getOn S 36 V18 a3 a1 1 (fun r38 V38 => (inR r38) ∧ ((¬ r38 = (-1) → Q (r18 + r38) V38) ∧ (r38 = (-1) → Q (-1) V38)))) ∧ (r18 = (-1) → Q (-1) V18))))
def t11_costOfFeud : zT := fun as S V post => ∃ (a1 : Int) (a2 : Int) (a3 : Int) (Q : Int → zV → Prop), as = [zR 0, zI a1, zI a2, zI a3] ∧ PSx S ∧ m11_costOfFeud S V a1 a2 a3 Q ∧ (∀ r V2, Q r V2 → post (some (zI r)) S V2)
set_option maxHeartbeats 4000000 in
set_option maxRecDepth 20000 in
theorem c11_costOfFeud (l : Launch) : zCT l yX11_costOfFeud cX11_costOfFeud 6 (some .int) { frames := 5, cells := 0, slots := 0, locals := 111 } t11_costOfFeud := by
  refine zCT_of (by decide) (fun as S V post h => by obtain ⟨a1, a2, a3, Q, rfl, -⟩ := h; exact Nat.le_of_ble_eq_true rfl) ?_
  intro X S V as post C E hT
  obtain ⟨a1, a2, a3, Q, rfl, hX, hK, hpost⟩ := hT
  obtain ⟨w_0, r_0, h_0, g_0_0, g_0_1, g_0_2, g_0_3, g_0_4, g_0_5, g_0_6, g_0_7⟩ := PSx_0 hX
  obtain ⟨w_36, r_36, h_36, g_36_0, g_36_1, g_36_2, g_36_3, g_36_4, g_36_5, g_36_6, g_36_7, g_36_8, g_36_10, g_36_11⟩ := PSi_o (PSx_i36 hX)
  show zW X S V 0 0 [some (zR 0), some (zI a1), some (zI a2), some (zI a3), none, none] [] 0
  unfold m11_costOfFeud at hK
  refine a_aload_n C dX11_costOfFeud_0 rfl ?_
  refine a_getR C fl_X11_35_11 h_0 rfl g_0_4 dX11_costOfFeud_1 ?_
  refine a_aload_n C dX11_costOfFeud_4 rfl ?_
  refine a_getR C fl_X11_28_11 h_0 rfl g_0_2 dX11_costOfFeud_5 ?_
  refine a_callV (as := [zR 14]) (rest := []) C 1 (fun l => c4_copyFrom l) h_36 ⟨_, _, rfl⟩ (by decide) ml_X11_228 im_X4_copyFrom se_X4_copyFrom in_X4 co_X4_copyFrom (by decide +kernel) rfl ⟨Nat.le_of_ble_eq_true rfl, Nat.le_of_ble_eq_true rfl⟩ (Nat.le_of_ble_eq_true rfl) dX11_costOfFeud_8 ⟨Nat.le_of_ble_eq_true rfl, Nat.le_of_ble_eq_true rfl⟩ ?_
  refine ⟨36, 14, _, rfl, (PSx_i36 hX), (PSx_i14 hX), hK, fun V8 hK => ?_⟩
  try dsimp only [Option.toList, List.cons_append, List.nil_append]
  refine a_aload_n C dX11_costOfFeud_11 rfl ?_
  refine a_getR C fl_X11_35_11 h_0 rfl g_0_4 dX11_costOfFeud_12 ?_
  refine a_iload_n C dX11_costOfFeud_15 rfl ?_
  refine a_iload_n C dX11_costOfFeud_16 rfl ?_
  refine a_iconst C dX11_costOfFeud_17 ?_
  refine a_callV (as := [zI a2, zI a1, zI 0]) (rest := []) C 3 (fun l => c4_getOn l) h_36 ⟨_, _, rfl⟩ (by decide) ml_X11_325 im_X4_getOn se_X4_getOn in_X4 co_X4_getOn (by decide +kernel) rfl ⟨Nat.le_of_ble_eq_true rfl, Nat.le_of_ble_eq_true rfl⟩ (Nat.le_of_ble_eq_true rfl) dX11_costOfFeud_18 ⟨Nat.le_of_ble_eq_true rfl, Nat.le_of_ble_eq_true rfl⟩ ?_
  refine ⟨36, a2, a1, 0, _, rfl, (PSx_i36 hX), hK, fun r18 V18 hK => ?_⟩
  try dsimp only [Option.toList, List.cons_append, List.nil_append]
  refine a_istore C dX11_costOfFeud_21 (Nat.le_of_ble_eq_true rfl) ?_
  refine a_iload C dX11_costOfFeud_23 rfl ?_
  refine a_iconst C dX11_costOfFeud_25 ?_
  obtain ⟨q1, hK⟩ := hK
  refine a_icmp_ne C 31 dX11_costOfFeud_26 (by decide) ⟨q1, ⟨by decide, by decide⟩⟩ (fun q2 => ?_) (fun q2 => ?_)
  · replace hK := hK.1 q2
    refine a_aload_n C dX11_costOfFeud_31 rfl ?_
    refine a_getR C fl_X11_35_11 h_0 rfl g_0_4 dX11_costOfFeud_32 ?_
    refine a_iload_n C dX11_costOfFeud_35 rfl ?_
    refine a_iload_n C dX11_costOfFeud_36 rfl ?_
    refine a_iconst C dX11_costOfFeud_37 ?_
    refine a_callV (as := [zI a3, zI a1, zI 1]) (rest := []) C 3 (fun l => c4_getOn l) h_36 ⟨_, _, rfl⟩ (by decide) ml_X11_325 im_X4_getOn se_X4_getOn in_X4 co_X4_getOn (by decide +kernel) rfl ⟨Nat.le_of_ble_eq_true rfl, Nat.le_of_ble_eq_true rfl⟩ (Nat.le_of_ble_eq_true rfl) dX11_costOfFeud_38 ⟨Nat.le_of_ble_eq_true rfl, Nat.le_of_ble_eq_true rfl⟩ ?_
    refine ⟨36, a3, a1, 1, _, rfl, (PSx_i36 hX), hK, fun r38 V38 hK => ?_⟩
    try dsimp only [Option.toList, List.cons_append, List.nil_append]
    refine a_istore C dX11_costOfFeud_41 (Nat.le_of_ble_eq_true rfl) ?_
    refine a_iload C dX11_costOfFeud_43 rfl ?_
    refine a_iconst C dX11_costOfFeud_45 ?_
    obtain ⟨q3, hK⟩ := hK
    refine a_icmp_ne C 53 dX11_costOfFeud_46 (by decide) ⟨q3, ⟨by decide, by decide⟩⟩ (fun q4 => ?_) (fun q4 => ?_)
    · replace hK := hK.1 q4
      refine a_iload C dX11_costOfFeud_53 rfl ?_
      refine a_iload C dX11_costOfFeud_55 rfl ?_
      refine a_iadd C dX11_costOfFeud_57 ?_
      exact a_iret C E dX11_costOfFeud_58 (Nat.le_refl _) (Nat.le_refl _) (hpost _ _ hK)
    · replace hK := hK.2 q4
      refine a_iconst C dX11_costOfFeud_49 ?_
      refine a_goto C 58 dX11_costOfFeud_50 (by decide) ?_
      exact a_iret C E dX11_costOfFeud_58 (Nat.le_refl _) (Nat.le_refl _) (hpost _ _ hK)
  · replace hK := hK.2 q2
    refine a_iconst C dX11_costOfFeud_29 ?_
    exact a_iret C E dX11_costOfFeud_30 (Nat.le_refl _) (Nat.le_refl _) (hpost _ _ hK)

def m11_comeBy_J116 (S : List zC) (k64 : Int → Int → Int → Int → Int → Int → zV → Prop) (Q : Int → zV → Prop) (a1 : Int) (a2 : Int) (a3 : Int) (a6 : Int) (a7 : Int) (V : zV) : Prop :=
  k64 a1 a2 a3 a6 a7 (a6 + 1) V
def m11_comeBy_L64 (S : List zC) (Q : Int → zV → Prop) : Nat → Int → Int → Int → Int → Int → Int → zV → Prop
  | 0 => fun _ _ _ _ _ _ _ => False
  | n + 1 => fun a1 a2 a3 a4 a5 a6 V => (inR a6) ∧ (((V 3 2) ≤ a6 → (inR a3) ∧ ((¬ a3 = 0 → Q a4 V) ∧ (a3 = 0 → Q a5 V))) ∧ (a6 < (V 3 2) → m11_costOfFeud S V a6 a1 a2 (fun r81 V81 => m11_costOfFeud S V81 a6 a2 a1 (fun r89 V89 => m11_cheaper S V89 r81 r89 (fun r92 V92 => (inR r92) ∧ ((r92 = (-1) → m11_comeBy_L64 S Q n a1 a2 a3 a4 a5 (a6 + 1) V92) ∧ (¬ r92 = (-1) → (inR a5) ∧ ((a5 = (-1) → m11_comeBy_J116 S (m11_comeBy_L64 S Q n) Q a1 a2 a3 a6 r92 V92) ∧ (¬ a5 = (-1) → ((a5 ≤ r92 → m11_comeBy_L64 S Q n a1 a2 a3 a4 a5 (a6 + 1) V92) ∧ (r92 < a5 → m11_comeBy_J116 S (m11_comeBy_L64 S Q n) Q a1 a2 a3 a6 r92 V92)))))))))))
def m11_comeBy (S : List zC) (V : zV) (a1 : Int) (a2 : Int) (a3 : Int) (Q : Int → zV → Prop) : Prop :=
  m11_areTwo S V a1 a2 (fun r2 V2 => (inR r2) ∧ ((¬ r2 = 0 → m11_isBit S V2 a3 (fun r12 V12 => (inR r12) ∧ ((¬ r12 = 0 → m11_hasList S V12 (fun r22 V22 => (inR r22) ∧ ((r22 = 0 → Q (-103) V22) ∧ (¬ r22 = 0 → (0 ≤ a1 ∧ a1 < 6) ∧ (((V22 (14 + 3) (a1).toNat) = 0 → Q (-103) V22) ∧ (¬ (V22 (14 + 3) (a1).toNat) = 0 → (0 ≤ a2 ∧ a2 < 6) ∧ ((¬ (V22 (14 + 3) (a2).toNat) = 0 → ∃ nn33, m11_comeBy_L64 S Q nn33 a1 a2 a3 (-1) (-1) 0 V22) ∧ ((V22 (14 + 3) (a2).toNat) = 0 → Q (-103) V22)))))))) ∧ (r12 = 0 → Q (-102) V12)))) ∧ (r2 = 0 → Q (-101) V2)))
def t11_comeBy : zT := fun as S V post => ∃ (a1 : Int) (a2 : Int) (a3 : Int) (Q : Int → zV → Prop), as = [zR 0, zI a1, zI a2, zI a3] ∧ PSx S ∧ m11_comeBy S V a1 a2 a3 Q ∧ (∀ r V2, Q r V2 → post (some (zI r)) S V2)
set_option maxHeartbeats 4000000 in
set_option maxRecDepth 20000 in
theorem c11_comeBy (l : Launch) : zCT l yX11_comeBy cX11_comeBy 8 (some .int) { frames := 6, cells := 0, slots := 0, locals := 136 } t11_comeBy := by
  refine zCT_of (by decide) (fun as S V post h => by obtain ⟨a1, a2, a3, Q, rfl, -⟩ := h; exact Nat.le_of_ble_eq_true rfl) ?_
  intro X S V as post C E hT
  obtain ⟨a1, a2, a3, Q, rfl, hX, hK, hpost⟩ := hT
  obtain ⟨w_0, r_0, h_0, g_0_0, g_0_1, g_0_2, g_0_3, g_0_4, g_0_5, g_0_6, g_0_7⟩ := PSx_0 hX
  obtain ⟨w_14, r_14, h_14, g_14_0, g_14_1, g_14_2, g_14_3, g_14_4, g_14_5, g_14_6, g_14_7, g_14_8, g_14_10, g_14_11⟩ := PSi_o (PSx_i14 hX)
  obtain ⟨r_14_3, h_14_3⟩ := PSi_a3 (PSx_i14 hX)
  obtain ⟨w_3, r_3, h_3, g_3_0, g_3_1⟩ := PSl_3 (PSi_l (PSx_i14 hX))
  show zW X S V 0 0 [some (zR 0), some (zI a1), some (zI a2), some (zI a3), none, none, none, none] [] 0
  unfold m11_comeBy at hK
  refine a_iload_n C dX11_comeBy_0 rfl ?_
  refine a_iload_n C dX11_comeBy_1 rfl ?_
  refine a_callS (as := [zI a1, zI a2]) (rest := []) C 2 (fun l => c11_areTwo l) ml_X11_199 sa_X11_areTwo in_X11 co_X11_areTwo (by decide +kernel) rfl ⟨Nat.le_of_ble_eq_true rfl, Nat.le_of_ble_eq_true rfl⟩ (Nat.le_of_ble_eq_true rfl) dX11_comeBy_2 ⟨Nat.le_of_ble_eq_true rfl, Nat.le_of_ble_eq_true rfl⟩ ?_
  refine ⟨a1, a2, _, rfl, hK, fun r2 V2 hK => ?_⟩
  try dsimp only [Option.toList, List.cons_append, List.nil_append]
  obtain ⟨q1, hK⟩ := hK
  refine a_if_ne C 11 dX11_comeBy_5 (by decide) q1 (fun q2 => ?_) (fun q2 => ?_)
  · replace hK := hK.1 q2
    refine a_iload_n C dX11_comeBy_11 rfl ?_
    refine a_callS (as := [zI a3]) (rest := []) C 1 (fun l => c11_isBit l) ml_X11_169 sa_X11_isBit in_X11 co_X11_isBit (by decide +kernel) rfl ⟨Nat.le_of_ble_eq_true rfl, Nat.le_of_ble_eq_true rfl⟩ (Nat.le_of_ble_eq_true rfl) dX11_comeBy_12 ⟨Nat.le_of_ble_eq_true rfl, Nat.le_of_ble_eq_true rfl⟩ ?_
    refine ⟨a3, _, rfl, hK, fun r12 V12 hK => ?_⟩
    try dsimp only [Option.toList, List.cons_append, List.nil_append]
    obtain ⟨q3, hK⟩ := hK
    refine a_if_ne C 21 dX11_comeBy_15 (by decide) q3 (fun q4 => ?_) (fun q4 => ?_)
    · replace hK := hK.1 q4
      refine a_aload_n C dX11_comeBy_21 rfl ?_
      refine a_callV (as := []) (rest := []) C 0 (fun l => c11_hasList l) h_0 ⟨_, _, rfl⟩ (by decide) ml_X11_166 im_X11_hasList se_X11_hasList in_X11 co_X11_hasList (by decide +kernel) rfl ⟨Nat.le_of_ble_eq_true rfl, Nat.le_of_ble_eq_true rfl⟩ (Nat.le_of_ble_eq_true rfl) dX11_comeBy_22 ⟨Nat.le_of_ble_eq_true rfl, Nat.le_of_ble_eq_true rfl⟩ ?_
      refine ⟨_, rfl, hX, hK, fun r22 V22 hK => ?_⟩
      try dsimp only [Option.toList, List.cons_append, List.nil_append]
      obtain ⟨q5, hK⟩ := hK
      refine a_if_eq C 52 dX11_comeBy_25 (by decide) q5 (fun q6 => ?_) (fun q6 => ?_)
      · replace hK := hK.1 q6
        refine a_bipush C dX11_comeBy_52 (by decide) ?_
        exact a_iret C E dX11_comeBy_54 (Nat.le_refl _) (Nat.le_refl _) (hpost _ _ hK)
      · replace hK := hK.2 q6
        refine a_aload_n C dX11_comeBy_28 rfl ?_
        refine a_getR C fl_X11_28_11 h_0 rfl g_0_2 dX11_comeBy_29 ?_
        refine a_getR C fl_X11_141_4 h_14 rfl g_14_3 dX11_comeBy_32 ?_
        refine a_iload_n C dX11_comeBy_35 rfl ?_
        obtain ⟨q7, hK⟩ := hK
        refine a_zald C h_14_3 dX11_comeBy_36 (by decide) q7 (fun r8 => ?_)
        refine a_if_eq C 52 dX11_comeBy_37 (by decide) (z_B2R r8) (fun q9 => ?_) (fun q9 => ?_)
        · replace hK := hK.1 q9
          refine a_bipush C dX11_comeBy_52 (by decide) ?_
          exact a_iret C E dX11_comeBy_54 (Nat.le_refl _) (Nat.le_refl _) (hpost _ _ hK)
        · replace hK := hK.2 q9
          refine a_aload_n C dX11_comeBy_40 rfl ?_
          refine a_getR C fl_X11_28_11 h_0 rfl g_0_2 dX11_comeBy_41 ?_
          refine a_getR C fl_X11_141_4 h_14 rfl g_14_3 dX11_comeBy_44 ?_
          refine a_iload_n C dX11_comeBy_47 rfl ?_
          obtain ⟨q10, hK⟩ := hK
          refine a_zald C h_14_3 dX11_comeBy_48 (by decide) q10 (fun r11 => ?_)
          refine a_if_ne C 55 dX11_comeBy_49 (by decide) (z_B2R r11) (fun q12 => ?_) (fun q12 => ?_)
          · replace hK := hK.1 q12
            have L64 : ∀ (n : Nat) (a1 : Int) (a2 : Int) (a3 : Int) (a4 : Int) (a5 : Int) (a6 : Int) (V : zV), m11_comeBy_L64 S Q n a1 a2 a3 a4 a5 a6 V → zW X S V 0 0 [some (zR 0), some (zI a1), some (zI a2), some (zI a3), some (zI a4), some (zI a5), some (zI a6), none] [] 64 := by
              intro n64
              induction n64 with
              | zero => intro _ _ _ _ _ _ _ hK; exact hK.elim
              | succ n64 ih64 =>
                intro a1 a2 a3 a4 a5 a6 V hK
                unfold m11_comeBy_L64 at hK
                refine a_iload C dX11_comeBy_64 rfl ?_
                refine a_aload_n C dX11_comeBy_66 rfl ?_
                refine a_getR C fl_X11_19_11 h_0 rfl g_0_1 dX11_comeBy_67 ?_
                refine a_getI C fl_X11_95_10 h_3 rfl dX11_comeBy_70 (fun r23 => ?_)
                obtain ⟨q24, hK⟩ := hK
                refine a_icmp_ge C 130 dX11_comeBy_73 (by decide) ⟨q24, r23⟩ (fun q25 => ?_) (fun q25 => ?_)
                · replace hK := hK.1 q25
                  refine a_iload_n C dX11_comeBy_130 rfl ?_
                  obtain ⟨q26, hK⟩ := hK
                  refine a_if_ne C 139 dX11_comeBy_131 (by decide) q26 (fun q27 => ?_) (fun q27 => ?_)
                  · replace hK := hK.1 q27
                    refine a_iload C dX11_comeBy_139 rfl ?_
                    exact a_iret C E dX11_comeBy_141 (Nat.le_refl _) (Nat.le_refl _) (hpost _ _ hK)
                  · replace hK := hK.2 q27
                    refine a_iload C dX11_comeBy_134 rfl ?_
                    refine a_goto C 141 dX11_comeBy_136 (by decide) ?_
                    exact a_iret C E dX11_comeBy_141 (Nat.le_refl _) (Nat.le_refl _) (hpost _ _ hK)
                · replace hK := hK.2 q25
                  refine a_aload_n C dX11_comeBy_76 rfl ?_
                  refine a_iload C dX11_comeBy_77 rfl ?_
                  refine a_iload_n C dX11_comeBy_79 rfl ?_
                  refine a_iload_n C dX11_comeBy_80 rfl ?_
                  refine a_callV (as := [zI a6, zI a1, zI a2]) (rest := []) C 3 (fun l => c11_costOfFeud l) h_0 ⟨_, _, rfl⟩ (by decide) ml_X11_212 im_X11_costOfFeud se_X11_costOfFeud in_X11 co_X11_costOfFeud (by decide +kernel) rfl ⟨Nat.le_of_ble_eq_true rfl, Nat.le_of_ble_eq_true rfl⟩ (Nat.le_of_ble_eq_true rfl) dX11_comeBy_81 ⟨Nat.le_of_ble_eq_true rfl, Nat.le_of_ble_eq_true rfl⟩ ?_
                  refine ⟨a6, a1, a2, _, rfl, hX, hK, fun r81 V81 hK => ?_⟩
                  try dsimp only [Option.toList, List.cons_append, List.nil_append]
                  refine a_aload_n C dX11_comeBy_84 rfl ?_
                  refine a_iload C dX11_comeBy_85 rfl ?_
                  refine a_iload_n C dX11_comeBy_87 rfl ?_
                  refine a_iload_n C dX11_comeBy_88 rfl ?_
                  refine a_callV (as := [zI a6, zI a2, zI a1]) (rest := [zI r81]) C 3 (fun l => c11_costOfFeud l) h_0 ⟨_, _, rfl⟩ (by decide) ml_X11_212 im_X11_costOfFeud se_X11_costOfFeud in_X11 co_X11_costOfFeud (by decide +kernel) rfl ⟨Nat.le_of_ble_eq_true rfl, Nat.le_of_ble_eq_true rfl⟩ (Nat.le_of_ble_eq_true rfl) dX11_comeBy_89 ⟨Nat.le_of_ble_eq_true rfl, Nat.le_of_ble_eq_true rfl⟩ ?_
                  refine ⟨a6, a2, a1, _, rfl, hX, hK, fun r89 V89 hK => ?_⟩
                  try dsimp only [Option.toList, List.cons_append, List.nil_append]
                  refine a_callS (as := [zI r81, zI r89]) (rest := []) C 2 (fun l => c11_cheaper l) ml_X11_215 sa_X11_cheaper in_X11 co_X11_cheaper (by decide +kernel) rfl ⟨Nat.le_of_ble_eq_true rfl, Nat.le_of_ble_eq_true rfl⟩ (Nat.le_of_ble_eq_true rfl) dX11_comeBy_92 ⟨Nat.le_of_ble_eq_true rfl, Nat.le_of_ble_eq_true rfl⟩ ?_
                  refine ⟨r81, r89, _, rfl, hK, fun r92 V92 hK => ?_⟩
                  try dsimp only [Option.toList, List.cons_append, List.nil_append]
                  refine a_istore C dX11_comeBy_95 (Nat.le_of_ble_eq_true rfl) ?_
                  refine a_iload C dX11_comeBy_97 rfl ?_
                  refine a_iconst C dX11_comeBy_99 ?_
                  obtain ⟨q28, hK⟩ := hK
                  refine a_icmp_eq C 124 dX11_comeBy_100 (by decide) ⟨q28, ⟨by decide, by decide⟩⟩ (fun q29 => ?_) (fun q29 => ?_)
                  · replace hK := hK.1 q29
                    refine a_iinc C dX11_comeBy_124 rfl (Nat.le_of_ble_eq_true rfl) ?_
                    refine a_goto C 64 dX11_comeBy_127 (by decide) ?_
                    exact a_ls (lsub_s rfl (lsub_s rfl (lsub_s rfl (lsub_s rfl (lsub_s rfl (lsub_s rfl (lsub_s rfl (lsub_n lsub_0)))))))) (ih64 a1 a2 a3 a4 a5 (a6 + 1) _ hK)
                  · replace hK := hK.2 q29
                    have J116 : ∀ (a1 : Int) (a2 : Int) (a3 : Int) (a6 : Int) (a7 : Int) (V : zV), m11_comeBy_J116 S (m11_comeBy_L64 S Q n64) Q a1 a2 a3 a6 a7 V → zW X S V 0 0 [some (zR 0), some (zI a1), some (zI a2), some (zI a3), none, none, some (zI a6), some (zI a7)] [] 116 := by
                      intro a1 a2 a3 a6 a7 V hK
                      unfold m11_comeBy_J116 at hK
                      refine a_iload C dX11_comeBy_116 rfl ?_
                      refine a_istore C dX11_comeBy_118 (Nat.le_of_ble_eq_true rfl) ?_
                      refine a_iload C dX11_comeBy_120 rfl ?_
                      refine a_istore C dX11_comeBy_122 (Nat.le_of_ble_eq_true rfl) ?_
                      refine a_iinc C dX11_comeBy_124 rfl (Nat.le_of_ble_eq_true rfl) ?_
                      refine a_goto C 64 dX11_comeBy_127 (by decide) ?_
                      exact a_ls (lsub_s rfl (lsub_s rfl (lsub_s rfl (lsub_s rfl (lsub_s rfl (lsub_s rfl (lsub_s rfl (lsub_n lsub_0)))))))) (ih64 a1 a2 a3 a6 a7 (a6 + 1) _ hK)
                    refine a_iload C dX11_comeBy_103 rfl ?_
                    refine a_iconst C dX11_comeBy_105 ?_
                    obtain ⟨q30, hK⟩ := hK
                    refine a_icmp_eq C 116 dX11_comeBy_106 (by decide) ⟨q30, ⟨by decide, by decide⟩⟩ (fun q31 => ?_) (fun q31 => ?_)
                    · replace hK := hK.1 q31
                      exact a_ls (lsub_s rfl (lsub_s rfl (lsub_s rfl (lsub_s rfl (lsub_n (lsub_n (lsub_s rfl (lsub_s rfl lsub_0)))))))) (J116 a1 a2 a3 a6 r92 _ hK)
                    · replace hK := hK.2 q31
                      refine a_iload C dX11_comeBy_109 rfl ?_
                      refine a_iload C dX11_comeBy_111 rfl ?_
                      refine a_icmp_ge C 124 dX11_comeBy_113 (by decide) ⟨q28, q30⟩ (fun q32 => ?_) (fun q32 => ?_)
                      · replace hK := hK.1 q32
                        refine a_iinc C dX11_comeBy_124 rfl (Nat.le_of_ble_eq_true rfl) ?_
                        refine a_goto C 64 dX11_comeBy_127 (by decide) ?_
                        exact a_ls (lsub_s rfl (lsub_s rfl (lsub_s rfl (lsub_s rfl (lsub_s rfl (lsub_s rfl (lsub_s rfl (lsub_n lsub_0)))))))) (ih64 a1 a2 a3 a4 a5 (a6 + 1) _ hK)
                      · replace hK := hK.2 q32
                        exact a_ls (lsub_s rfl (lsub_s rfl (lsub_s rfl (lsub_s rfl (lsub_n (lsub_n (lsub_s rfl (lsub_s rfl lsub_0)))))))) (J116 a1 a2 a3 a6 r92 _ hK)
            refine a_iconst C dX11_comeBy_55 ?_
            refine a_istore C dX11_comeBy_56 (Nat.le_of_ble_eq_true rfl) ?_
            refine a_iconst C dX11_comeBy_58 ?_
            refine a_istore C dX11_comeBy_59 (Nat.le_of_ble_eq_true rfl) ?_
            refine a_iconst C dX11_comeBy_61 ?_
            refine a_istore C dX11_comeBy_62 (Nat.le_of_ble_eq_true rfl) ?_
            obtain ⟨nn33, hK⟩ := hK
            exact a_ls (lsub_s rfl (lsub_s rfl (lsub_s rfl (lsub_s rfl (lsub_s rfl (lsub_s rfl (lsub_s rfl (lsub_n lsub_0)))))))) (L64 nn33 a1 a2 a3 (-1) (-1) 0 _ hK)
          · replace hK := hK.2 q12
            refine a_bipush C dX11_comeBy_52 (by decide) ?_
            exact a_iret C E dX11_comeBy_54 (Nat.le_refl _) (Nat.le_refl _) (hpost _ _ hK)
    · replace hK := hK.2 q4
      refine a_bipush C dX11_comeBy_18 (by decide) ?_
      exact a_iret C E dX11_comeBy_20 (Nat.le_refl _) (Nat.le_refl _) (hpost _ _ hK)
  · replace hK := hK.2 q2
    refine a_bipush C dX11_comeBy_8 (by decide) ?_
    exact a_iret C E dX11_comeBy_10 (Nat.le_refl _) (Nat.le_refl _) (hpost _ _ hK)

def m11_marry (S : List zC) (V : zV) (a1 : Int) (Q : Int → zV → Prop) : Prop :=
  m11_isBit S V a1 (fun r1 V1 => (inR r1) ∧ ((¬ r1 = 0 → m11_hasList S V1 (fun r11 V11 => (inR r11) ∧ ((¬ r11 = 0 → m6_pairUp S 14 V11 (fun V28 => (inR a1) ∧ ((¬ a1 = 0 → Q (V28 47 3) V28) ∧ (a1 = 0 → Q (V28 47 2) V28)))) ∧ (r11 = 0 → Q (-103) V11)))) ∧ (r1 = 0 → Q (-102) V1)))
def t11_marry : zT := fun as S V post => ∃ (a1 : Int) (Q : Int → zV → Prop), as = [zR 0, zI a1] ∧ PSx S ∧ m11_marry S V a1 Q ∧ (∀ r V2, Q r V2 → post (some (zI r)) S V2)
set_option maxHeartbeats 4000000 in
set_option maxRecDepth 20000 in
theorem c11_marry (l : Launch) : zCT l yX11_marry cX11_marry 2 (some .int) { frames := 5, cells := 0, slots := 0, locals := 118 } t11_marry := by
  refine zCT_of (by decide) (fun as S V post h => by obtain ⟨a1, Q, rfl, -⟩ := h; exact Nat.le_of_ble_eq_true rfl) ?_
  intro X S V as post C E hT
  obtain ⟨a1, Q, rfl, hX, hK, hpost⟩ := hT
  obtain ⟨w_0, r_0, h_0, g_0_0, g_0_1, g_0_2, g_0_3, g_0_4, g_0_5, g_0_6, g_0_7⟩ := PSx_0 hX
  obtain ⟨w_47, r_47, h_47, g_47_0, g_47_1⟩ := PSk_47 (PSx_k hX)
  show zW X S V 0 0 [some (zR 0), some (zI a1)] [] 0
  unfold m11_marry at hK
  refine a_iload_n C dX11_marry_0 rfl ?_
  refine a_callS (as := [zI a1]) (rest := []) C 1 (fun l => c11_isBit l) ml_X11_169 sa_X11_isBit in_X11 co_X11_isBit (by decide +kernel) rfl ⟨Nat.le_of_ble_eq_true rfl, Nat.le_of_ble_eq_true rfl⟩ (Nat.le_of_ble_eq_true rfl) dX11_marry_1 ⟨Nat.le_of_ble_eq_true rfl, Nat.le_of_ble_eq_true rfl⟩ ?_
  refine ⟨a1, _, rfl, hK, fun r1 V1 hK => ?_⟩
  try dsimp only [Option.toList, List.cons_append, List.nil_append]
  obtain ⟨q1, hK⟩ := hK
  refine a_if_ne C 10 dX11_marry_4 (by decide) q1 (fun q2 => ?_) (fun q2 => ?_)
  · replace hK := hK.1 q2
    refine a_aload_n C dX11_marry_10 rfl ?_
    refine a_callV (as := []) (rest := []) C 0 (fun l => c11_hasList l) h_0 ⟨_, _, rfl⟩ (by decide) ml_X11_166 im_X11_hasList se_X11_hasList in_X11 co_X11_hasList (by decide +kernel) rfl ⟨Nat.le_of_ble_eq_true rfl, Nat.le_of_ble_eq_true rfl⟩ (Nat.le_of_ble_eq_true rfl) dX11_marry_11 ⟨Nat.le_of_ble_eq_true rfl, Nat.le_of_ble_eq_true rfl⟩ ?_
    refine ⟨_, rfl, hX, hK, fun r11 V11 hK => ?_⟩
    try dsimp only [Option.toList, List.cons_append, List.nil_append]
    obtain ⟨q3, hK⟩ := hK
    refine a_if_ne C 20 dX11_marry_14 (by decide) q3 (fun q4 => ?_) (fun q4 => ?_)
    · replace hK := hK.1 q4
      refine a_aload_n C dX11_marry_20 rfl ?_
      refine a_getR C fl_X11_41_11 h_0 rfl g_0_5 dX11_marry_21 ?_
      refine a_aload_n C dX11_marry_24 rfl ?_
      refine a_getR C fl_X11_28_11 h_0 rfl g_0_2 dX11_marry_25 ?_
      refine a_callV (as := [zR 14]) (rest := []) C 1 (fun l => c6_pairUp l) h_47 ⟨_, _, rfl⟩ (by decide) ml_X11_218 im_X6_pairUp se_X6_pairUp in_X6 co_X6_pairUp (by decide +kernel) rfl ⟨Nat.le_of_ble_eq_true rfl, Nat.le_of_ble_eq_true rfl⟩ (Nat.le_of_ble_eq_true rfl) dX11_marry_28 ⟨Nat.le_of_ble_eq_true rfl, Nat.le_of_ble_eq_true rfl⟩ ?_
      refine ⟨14, _, rfl, (PSx_k hX), (PSx_i14 hX), hK, fun V28 hK => ?_⟩
      try dsimp only [Option.toList, List.cons_append, List.nil_append]
      refine a_iload_n C dX11_marry_31 rfl ?_
      obtain ⟨q5, hK⟩ := hK
      refine a_if_ne C 45 dX11_marry_32 (by decide) q5 (fun q6 => ?_) (fun q6 => ?_)
      · replace hK := hK.1 q6
        refine a_aload_n C dX11_marry_45 rfl ?_
        refine a_getR C fl_X11_41_11 h_0 rfl g_0_5 dX11_marry_46 ?_
        refine a_getI C fl_X11_225_6 h_47 rfl dX11_marry_49 (fun r7 => ?_)
        exact a_iret C E dX11_marry_52 (Nat.le_refl _) (Nat.le_refl _) (hpost _ _ hK)
      · replace hK := hK.2 q6
        refine a_aload_n C dX11_marry_35 rfl ?_
        refine a_getR C fl_X11_41_11 h_0 rfl g_0_5 dX11_marry_36 ?_
        refine a_getI C fl_X11_222_6 h_47 rfl dX11_marry_39 (fun r8 => ?_)
        refine a_goto C 52 dX11_marry_42 (by decide) ?_
        exact a_iret C E dX11_marry_52 (Nat.le_refl _) (Nat.le_refl _) (hpost _ _ hK)
    · replace hK := hK.2 q4
      refine a_bipush C dX11_marry_17 (by decide) ?_
      exact a_iret C E dX11_marry_19 (Nat.le_refl _) (Nat.le_refl _) (hpost _ _ hK)
  · replace hK := hK.2 q2
    refine a_bipush C dX11_marry_7 (by decide) ?_
    exact a_iret C E dX11_marry_9 (Nat.le_refl _) (Nat.le_refl _) (hpost _ _ hK)

def m11_wills_L46 (S : List zC) (Q : Int → zV → Prop) : Nat → Int → Int → Int → zV → Prop
  | 0 => fun _ _ _ _ => False
  | n + 1 => fun a1 a2 a3 V => (inR a3) ∧ ((6 ≤ a3 → m4_sidesOf S 36 V a2 (fun r93 V93 => Q r93 V93)) ∧ (a3 < 6 → (inR (zand (zshr a1 a3) 1)) ∧ ((¬ (zand (zshr a1 a3) 1) = 1 → m11_wills_L46 S Q n a1 a2 (a3 + 1) V) ∧ ((zand (zshr a1 a3) 1) = 1 → (0 ≤ a3 ∧ a3 < 6) ∧ (((V (36 + 3) (a3).toNat) = 0 → m11_wills_L46 S Q n a1 a2 (a3 + 1) V) ∧ (¬ (V (36 + 3) (a3).toNat) = 0 → m4_die S 36 V a3 (fun r78 V78 => m11_wills_L46 S Q n a1 a2 (a3 + 1) V78)))))))
def m11_wills (S : List zC) (V : zV) (a1 : Int) (a2 : Int) (Q : Int → zV → Prop) : Prop :=
  m11_isPerson S V a2 (fun r1 V1 => (inR r1) ∧ ((¬ r1 = 0 → (inR a1) ∧ ((a1 < 0 → Q (-102) V1) ∧ (0 ≤ a1 → ((a1 < 64 → m11_hasList S V1 (fun r24 V24 => (inR r24) ∧ ((¬ r24 = 0 → m4_copyFrom S 36 14 V24 (fun V41 => ∃ nn22, m11_wills_L46 S Q nn22 a1 a2 0 V41)) ∧ (r24 = 0 → Q (-103) V24)))) ∧ (64 ≤ a1 → Q (-102) V1))))) ∧ (r1 = 0 → Q (-101) V1)))
def t11_wills : zT := fun as S V post => ∃ (a1 : Int) (a2 : Int) (Q : Int → zV → Prop), as = [zR 0, zI a1, zI a2] ∧ PSx S ∧ m11_wills S V a1 a2 Q ∧ (∀ r V2, Q r V2 → post (some (zI r)) S V2)
set_option maxHeartbeats 4000000 in
set_option maxRecDepth 20000 in
theorem c11_wills (l : Launch) : zCT l yX11_wills cX11_wills 4 (some .int) { frames := 3, cells := 0, slots := 0, locals := 82 } t11_wills := by
  refine zCT_of (by decide) (fun as S V post h => by obtain ⟨a1, a2, Q, rfl, -⟩ := h; exact Nat.le_of_ble_eq_true rfl) ?_
  intro X S V as post C E hT
  obtain ⟨a1, a2, Q, rfl, hX, hK, hpost⟩ := hT
  obtain ⟨w_0, r_0, h_0, g_0_0, g_0_1, g_0_2, g_0_3, g_0_4, g_0_5, g_0_6, g_0_7⟩ := PSx_0 hX
  obtain ⟨w_36, r_36, h_36, g_36_0, g_36_1, g_36_2, g_36_3, g_36_4, g_36_5, g_36_6, g_36_7, g_36_8, g_36_10, g_36_11⟩ := PSi_o (PSx_i36 hX)
  obtain ⟨r_36_3, h_36_3⟩ := PSi_a3 (PSx_i36 hX)
  show zW X S V 0 0 [some (zR 0), some (zI a1), some (zI a2), none] [] 0
  unfold m11_wills at hK
  refine a_iload_n C dX11_wills_0 rfl ?_
  refine a_callS (as := [zI a2]) (rest := []) C 1 (fun l => c11_isPerson l) ml_X11_131 sa_X11_isPerson in_X11 co_X11_isPerson (by decide +kernel) rfl ⟨Nat.le_of_ble_eq_true rfl, Nat.le_of_ble_eq_true rfl⟩ (Nat.le_of_ble_eq_true rfl) dX11_wills_1 ⟨Nat.le_of_ble_eq_true rfl, Nat.le_of_ble_eq_true rfl⟩ ?_
  refine ⟨a2, _, rfl, hK, fun r1 V1 hK => ?_⟩
  try dsimp only [Option.toList, List.cons_append, List.nil_append]
  obtain ⟨q1, hK⟩ := hK
  refine a_if_ne C 10 dX11_wills_4 (by decide) q1 (fun q2 => ?_) (fun q2 => ?_)
  · replace hK := hK.1 q2
    refine a_iload_n C dX11_wills_10 rfl ?_
    obtain ⟨q3, hK⟩ := hK
    refine a_if_lt C 20 dX11_wills_11 (by decide) q3 (fun q4 => ?_) (fun q4 => ?_)
    · replace hK := hK.1 q4
      refine a_bipush C dX11_wills_20 (by decide) ?_
      exact a_iret C E dX11_wills_22 (Nat.le_refl _) (Nat.le_refl _) (hpost _ _ hK)
    · replace hK := hK.2 q4
      refine a_iload_n C dX11_wills_14 rfl ?_
      refine a_bipush C dX11_wills_15 (by decide) ?_
      refine a_icmp_lt C 23 dX11_wills_17 (by decide) ⟨q3, ⟨by decide, by decide⟩⟩ (fun q5 => ?_) (fun q5 => ?_)
      · replace hK := hK.1 q5
        refine a_aload_n C dX11_wills_23 rfl ?_
        refine a_callV (as := []) (rest := []) C 0 (fun l => c11_hasList l) h_0 ⟨_, _, rfl⟩ (by decide) ml_X11_166 im_X11_hasList se_X11_hasList in_X11 co_X11_hasList (by decide +kernel) rfl ⟨Nat.le_of_ble_eq_true rfl, Nat.le_of_ble_eq_true rfl⟩ (Nat.le_of_ble_eq_true rfl) dX11_wills_24 ⟨Nat.le_of_ble_eq_true rfl, Nat.le_of_ble_eq_true rfl⟩ ?_
        refine ⟨_, rfl, hX, hK, fun r24 V24 hK => ?_⟩
        try dsimp only [Option.toList, List.cons_append, List.nil_append]
        obtain ⟨q6, hK⟩ := hK
        refine a_if_ne C 33 dX11_wills_27 (by decide) q6 (fun q7 => ?_) (fun q7 => ?_)
        · replace hK := hK.1 q7
          have L46 : ∀ (n : Nat) (a1 : Int) (a2 : Int) (a3 : Int) (V : zV), m11_wills_L46 S Q n a1 a2 a3 V → zW X S V 0 0 [some (zR 0), some (zI a1), some (zI a2), some (zI a3)] [] 46 := by
            intro n46
            induction n46 with
            | zero => intro _ _ _ _ hK; exact hK.elim
            | succ n46 ih46 =>
              intro a1 a2 a3 V hK
              unfold m11_wills_L46 at hK
              refine a_iload_n C dX11_wills_46 rfl ?_
              refine a_bipush C dX11_wills_47 (by decide) ?_
              obtain ⟨q15, hK⟩ := hK
              refine a_icmp_ge C 88 dX11_wills_49 (by decide) ⟨q15, ⟨by decide, by decide⟩⟩ (fun q16 => ?_) (fun q16 => ?_)
              · replace hK := hK.1 q16
                refine a_aload_n C dX11_wills_88 rfl ?_
                refine a_getR C fl_X11_35_11 h_0 rfl g_0_4 dX11_wills_89 ?_
                refine a_iload_n C dX11_wills_92 rfl ?_
                refine a_callV (as := [zI a2]) (rest := []) C 1 (fun l => c4_sidesOf l) h_36 ⟨_, _, rfl⟩ (by decide) ml_X11_144 im_X4_sidesOf se_X4_sidesOf in_X4 co_X4_sidesOf (by decide +kernel) rfl ⟨Nat.le_of_ble_eq_true rfl, Nat.le_of_ble_eq_true rfl⟩ (Nat.le_of_ble_eq_true rfl) dX11_wills_93 ⟨Nat.le_of_ble_eq_true rfl, Nat.le_of_ble_eq_true rfl⟩ ?_
                refine ⟨36, a2, _, rfl, (PSx_i36 hX), hK, fun r93 V93 hK => ?_⟩
                try dsimp only [Option.toList, List.cons_append, List.nil_append]
                exact a_iret C E dX11_wills_96 (Nat.le_refl _) (Nat.le_refl _) (hpost _ _ hK)
              · replace hK := hK.2 q16
                refine a_iload_n C dX11_wills_52 rfl ?_
                refine a_iload_n C dX11_wills_53 rfl ?_
                refine a_ishr C dX11_wills_54 ?_
                refine a_iconst C dX11_wills_55 ?_
                refine a_iand C dX11_wills_56 ?_
                refine a_iconst C dX11_wills_57 ?_
                obtain ⟨q17, hK⟩ := hK
                refine a_icmp_ne C 82 dX11_wills_58 (by decide) ⟨q17, ⟨by decide, by decide⟩⟩ (fun q18 => ?_) (fun q18 => ?_)
                · replace hK := hK.1 q18
                  refine a_iinc C dX11_wills_82 rfl (Nat.le_of_ble_eq_true rfl) ?_
                  refine a_goto C 46 dX11_wills_85 (by decide) ?_
                  exact a_ls (lsub_s rfl (lsub_s rfl (lsub_s rfl (lsub_s rfl lsub_0)))) (ih46 a1 a2 (a3 + 1) _ hK)
                · replace hK := hK.2 q18
                  refine a_aload_n C dX11_wills_61 rfl ?_
                  refine a_getR C fl_X11_35_11 h_0 rfl g_0_4 dX11_wills_62 ?_
                  refine a_getR C fl_X11_141_4 h_36 rfl g_36_3 dX11_wills_65 ?_
                  refine a_iload_n C dX11_wills_68 rfl ?_
                  obtain ⟨q19, hK⟩ := hK
                  refine a_zald C h_36_3 dX11_wills_69 (by decide) q19 (fun r20 => ?_)
                  refine a_if_eq C 82 dX11_wills_70 (by decide) (z_B2R r20) (fun q21 => ?_) (fun q21 => ?_)
                  · replace hK := hK.1 q21
                    refine a_iinc C dX11_wills_82 rfl (Nat.le_of_ble_eq_true rfl) ?_
                    refine a_goto C 46 dX11_wills_85 (by decide) ?_
                    exact a_ls (lsub_s rfl (lsub_s rfl (lsub_s rfl (lsub_s rfl lsub_0)))) (ih46 a1 a2 (a3 + 1) _ hK)
                  · replace hK := hK.2 q21
                    refine a_aload_n C dX11_wills_73 rfl ?_
                    refine a_getR C fl_X11_35_11 h_0 rfl g_0_4 dX11_wills_74 ?_
                    refine a_iload_n C dX11_wills_77 rfl ?_
                    refine a_callV (as := [zI a3]) (rest := []) C 1 (fun l => c4_die l) h_36 ⟨_, _, rfl⟩ (by decide) ml_X11_196 im_X4_die se_X4_die in_X4 co_X4_die (by decide +kernel) rfl ⟨Nat.le_of_ble_eq_true rfl, Nat.le_of_ble_eq_true rfl⟩ (Nat.le_of_ble_eq_true rfl) dX11_wills_78 ⟨Nat.le_of_ble_eq_true rfl, Nat.le_of_ble_eq_true rfl⟩ ?_
                    refine ⟨36, a3, _, rfl, (PSx_i36 hX), hK, fun r78 V78 hK => ?_⟩
                    try dsimp only [Option.toList, List.cons_append, List.nil_append]
                    refine a_pop C dX11_wills_81 rfl ?_
                    refine a_iinc C dX11_wills_82 rfl (Nat.le_of_ble_eq_true rfl) ?_
                    refine a_goto C 46 dX11_wills_85 (by decide) ?_
                    exact a_ls (lsub_s rfl (lsub_s rfl (lsub_s rfl (lsub_s rfl lsub_0)))) (ih46 a1 a2 (a3 + 1) _ hK)
          refine a_aload_n C dX11_wills_33 rfl ?_
          refine a_getR C fl_X11_35_11 h_0 rfl g_0_4 dX11_wills_34 ?_
          refine a_aload_n C dX11_wills_37 rfl ?_
          refine a_getR C fl_X11_28_11 h_0 rfl g_0_2 dX11_wills_38 ?_
          refine a_callV (as := [zR 14]) (rest := []) C 1 (fun l => c4_copyFrom l) h_36 ⟨_, _, rfl⟩ (by decide) ml_X11_228 im_X4_copyFrom se_X4_copyFrom in_X4 co_X4_copyFrom (by decide +kernel) rfl ⟨Nat.le_of_ble_eq_true rfl, Nat.le_of_ble_eq_true rfl⟩ (Nat.le_of_ble_eq_true rfl) dX11_wills_41 ⟨Nat.le_of_ble_eq_true rfl, Nat.le_of_ble_eq_true rfl⟩ ?_
          refine ⟨36, 14, _, rfl, (PSx_i36 hX), (PSx_i14 hX), hK, fun V41 hK => ?_⟩
          try dsimp only [Option.toList, List.cons_append, List.nil_append]
          refine a_iconst C dX11_wills_44 ?_
          refine a_istore_n C dX11_wills_45 (Nat.le_of_ble_eq_true rfl) ?_
          obtain ⟨nn22, hK⟩ := hK
          exact a_ls (lsub_s rfl (lsub_s rfl (lsub_s rfl (lsub_s rfl lsub_0)))) (L46 nn22 a1 a2 0 _ hK)
        · replace hK := hK.2 q7
          refine a_bipush C dX11_wills_30 (by decide) ?_
          exact a_iret C E dX11_wills_32 (Nat.le_refl _) (Nat.le_refl _) (hpost _ _ hK)
      · replace hK := hK.2 q5
        refine a_bipush C dX11_wills_20 (by decide) ?_
        exact a_iret C E dX11_wills_22 (Nat.le_refl _) (Nat.le_refl _) (hpost _ _ hK)
  · replace hK := hK.2 q2
    refine a_bipush C dX11_wills_7 (by decide) ?_
    exact a_iret C E dX11_wills_9 (Nat.le_refl _) (Nat.le_refl _) (hpost _ _ hK)

def m11_left (S : List zC) (V : zV) (a1 : Int) (a2 : Int) (a3 : Int) (Q : Int → zV → Prop) : Prop :=
  (inR a1) ∧ ((a1 < 1 → Q (-102) V) ∧ (1 ≤ a1 → ((2 < a1 → Q (-102) V) ∧ (a1 ≤ 2 → (inR a2) ∧ ((a2 < 0 → Q (-102) V) ∧ (0 ≤ a2 → ((8 < a2 → Q (-102) V) ∧ (a2 ≤ 8 → m11_isBit S V a3 (fun r21 V21 => (inR r21) ∧ ((¬ r21 = 0 → m11_hasList S V21 (fun r32 V32 => (inR r32) ∧ ((¬ r32 = 0 → m7_reckon S 14 V32 a1 (fun V51 => (inR a3) ∧ ((¬ a3 = 0 → m7_below S V51 a2 (fun r74 V74 => Q r74 V74)) ∧ (a3 = 0 → m7_above S V51 a2 (fun r63 V63 => Q r63 V63))))) ∧ (r32 = 0 → Q (-103) V32)))) ∧ (r21 = 0 → Q (-102) V21)))))))))))
def t11_left : zT := fun as S V post => ∃ (a1 : Int) (a2 : Int) (a3 : Int) (Q : Int → zV → Prop), as = [zR 0, zI a1, zI a2, zI a3] ∧ PSx S ∧ m11_left S V a1 a2 a3 Q ∧ (∀ r V2, Q r V2 → post (some (zJ r)) S V2)
set_option maxHeartbeats 4000000 in
set_option maxRecDepth 20000 in
theorem c11_left (l : Launch) : zCT l yX11_left cX11_left 4 (some .long) { frames := 3, cells := 0, slots := 0, locals := 77 } t11_left := by
  refine zCT_of (by decide) (fun as S V post h => by obtain ⟨a1, a2, a3, Q, rfl, -⟩ := h; exact Nat.le_of_ble_eq_true rfl) ?_
  intro X S V as post C E hT
  obtain ⟨a1, a2, a3, Q, rfl, hX, hK, hpost⟩ := hT
  obtain ⟨w_0, r_0, h_0, g_0_0, g_0_1, g_0_2, g_0_3, g_0_4, g_0_5, g_0_6, g_0_7⟩ := PSx_0 hX
  obtain ⟨w_50, r_50, h_50, g_50_0⟩ := PSo_50 (PSx_o hX)
  show zW X S V 0 0 [some (zR 0), some (zI a1), some (zI a2), some (zI a3)] [] 0
  unfold m11_left at hK
  refine a_iload_n C dX11_left_0 rfl ?_
  refine a_iconst C dX11_left_1 ?_
  obtain ⟨q1, hK⟩ := hK
  refine a_icmp_lt C 27 dX11_left_2 (by decide) ⟨q1, ⟨by decide, by decide⟩⟩ (fun q2 => ?_) (fun q2 => ?_)
  · replace hK := hK.1 q2
    refine a_ldc2 C kl_X11_231 dX11_left_27 ?_
    exact a_lret C E dX11_left_30 (Nat.le_refl _) (Nat.le_refl _) (hpost _ _ hK)
  · replace hK := hK.2 q2
    refine a_iload_n C dX11_left_5 rfl ?_
    refine a_iconst C dX11_left_6 ?_
    refine a_icmp_gt C 27 dX11_left_7 (by decide) ⟨q1, ⟨by decide, by decide⟩⟩ (fun q3 => ?_) (fun q3 => ?_)
    · replace hK := hK.1 q3
      refine a_ldc2 C kl_X11_231 dX11_left_27 ?_
      exact a_lret C E dX11_left_30 (Nat.le_refl _) (Nat.le_refl _) (hpost _ _ hK)
    · replace hK := hK.2 q3
      refine a_iload_n C dX11_left_10 rfl ?_
      obtain ⟨q4, hK⟩ := hK
      refine a_if_lt C 27 dX11_left_11 (by decide) q4 (fun q5 => ?_) (fun q5 => ?_)
      · replace hK := hK.1 q5
        refine a_ldc2 C kl_X11_231 dX11_left_27 ?_
        exact a_lret C E dX11_left_30 (Nat.le_refl _) (Nat.le_refl _) (hpost _ _ hK)
      · replace hK := hK.2 q5
        refine a_iload_n C dX11_left_14 rfl ?_
        refine a_bipush C dX11_left_15 (by decide) ?_
        refine a_icmp_gt C 27 dX11_left_17 (by decide) ⟨q4, ⟨by decide, by decide⟩⟩ (fun q6 => ?_) (fun q6 => ?_)
        · replace hK := hK.1 q6
          refine a_ldc2 C kl_X11_231 dX11_left_27 ?_
          exact a_lret C E dX11_left_30 (Nat.le_refl _) (Nat.le_refl _) (hpost _ _ hK)
        · replace hK := hK.2 q6
          refine a_iload_n C dX11_left_20 rfl ?_
          refine a_callS (as := [zI a3]) (rest := []) C 1 (fun l => c11_isBit l) ml_X11_169 sa_X11_isBit in_X11 co_X11_isBit (by decide +kernel) rfl ⟨Nat.le_of_ble_eq_true rfl, Nat.le_of_ble_eq_true rfl⟩ (Nat.le_of_ble_eq_true rfl) dX11_left_21 ⟨Nat.le_of_ble_eq_true rfl, Nat.le_of_ble_eq_true rfl⟩ ?_
          refine ⟨a3, _, rfl, hK, fun r21 V21 hK => ?_⟩
          try dsimp only [Option.toList, List.cons_append, List.nil_append]
          obtain ⟨q7, hK⟩ := hK
          refine a_if_ne C 31 dX11_left_24 (by decide) q7 (fun q8 => ?_) (fun q8 => ?_)
          · replace hK := hK.1 q8
            refine a_aload_n C dX11_left_31 rfl ?_
            refine a_callV (as := []) (rest := []) C 0 (fun l => c11_hasList l) h_0 ⟨_, _, rfl⟩ (by decide) ml_X11_166 im_X11_hasList se_X11_hasList in_X11 co_X11_hasList (by decide +kernel) rfl ⟨Nat.le_of_ble_eq_true rfl, Nat.le_of_ble_eq_true rfl⟩ (Nat.le_of_ble_eq_true rfl) dX11_left_32 ⟨Nat.le_of_ble_eq_true rfl, Nat.le_of_ble_eq_true rfl⟩ ?_
            refine ⟨_, rfl, hX, hK, fun r32 V32 hK => ?_⟩
            try dsimp only [Option.toList, List.cons_append, List.nil_append]
            obtain ⟨q9, hK⟩ := hK
            refine a_if_ne C 42 dX11_left_35 (by decide) q9 (fun q10 => ?_) (fun q10 => ?_)
            · replace hK := hK.1 q10
              refine a_aload_n C dX11_left_42 rfl ?_
              refine a_getR C fl_X11_48_11 h_0 rfl g_0_6 dX11_left_43 ?_
              refine a_aload_n C dX11_left_46 rfl ?_
              refine a_getR C fl_X11_28_11 h_0 rfl g_0_2 dX11_left_47 ?_
              refine a_iload_n C dX11_left_50 rfl ?_
              refine a_callV (as := [zR 14, zI a1]) (rest := []) C 2 (fun l => c7_reckon l) h_50 ⟨_, _, rfl⟩ (by decide) ml_X11_235 im_X7_reckon se_X7_reckon in_X7 co_X7_reckon (by decide +kernel) rfl ⟨Nat.le_of_ble_eq_true rfl, Nat.le_of_ble_eq_true rfl⟩ (Nat.le_of_ble_eq_true rfl) dX11_left_51 ⟨Nat.le_of_ble_eq_true rfl, Nat.le_of_ble_eq_true rfl⟩ ?_
              refine ⟨14, a1, _, rfl, (PSx_o hX), (PSx_i14 hX), hK, fun V51 hK => ?_⟩
              try dsimp only [Option.toList, List.cons_append, List.nil_append]
              refine a_iload_n C dX11_left_54 rfl ?_
              obtain ⟨q11, hK⟩ := hK
              refine a_if_ne C 69 dX11_left_55 (by decide) q11 (fun q12 => ?_) (fun q12 => ?_)
              · replace hK := hK.1 q12
                refine a_aload_n C dX11_left_69 rfl ?_
                refine a_getR C fl_X11_48_11 h_0 rfl g_0_6 dX11_left_70 ?_
                refine a_iload_n C dX11_left_73 rfl ?_
                refine a_callV (as := [zI a2]) (rest := []) C 1 (fun l => c7_below l) h_50 ⟨_, _, rfl⟩ (by decide) ml_X11_243 im_X7_below se_X7_below in_X7 co_X7_below (by decide +kernel) rfl ⟨Nat.le_of_ble_eq_true rfl, Nat.le_of_ble_eq_true rfl⟩ (Nat.le_of_ble_eq_true rfl) dX11_left_74 ⟨Nat.le_of_ble_eq_true rfl, Nat.le_of_ble_eq_true rfl⟩ ?_
                refine ⟨a2, _, rfl, (PSx_o hX), hK, fun r74 V74 hK => ?_⟩
                try dsimp only [Option.toList, List.cons_append, List.nil_append]
                exact a_lret C E dX11_left_77 (Nat.le_refl _) (Nat.le_refl _) (hpost _ _ hK)
              · replace hK := hK.2 q12
                refine a_aload_n C dX11_left_58 rfl ?_
                refine a_getR C fl_X11_48_11 h_0 rfl g_0_6 dX11_left_59 ?_
                refine a_iload_n C dX11_left_62 rfl ?_
                refine a_callV (as := [zI a2]) (rest := []) C 1 (fun l => c7_above l) h_50 ⟨_, _, rfl⟩ (by decide) ml_X11_239 im_X7_above se_X7_above in_X7 co_X7_above (by decide +kernel) rfl ⟨Nat.le_of_ble_eq_true rfl, Nat.le_of_ble_eq_true rfl⟩ (Nat.le_of_ble_eq_true rfl) dX11_left_63 ⟨Nat.le_of_ble_eq_true rfl, Nat.le_of_ble_eq_true rfl⟩ ?_
                refine ⟨a2, _, rfl, (PSx_o hX), hK, fun r63 V63 hK => ?_⟩
                try dsimp only [Option.toList, List.cons_append, List.nil_append]
                refine a_goto C 77 dX11_left_66 (by decide) ?_
                exact a_lret C E dX11_left_77 (Nat.le_refl _) (Nat.le_refl _) (hpost _ _ hK)
            · replace hK := hK.2 q10
              refine a_ldc2 C kl_X11_233 dX11_left_38 ?_
              exact a_lret C E dX11_left_41 (Nat.le_refl _) (Nat.le_refl _) (hpost _ _ hK)
          · replace hK := hK.2 q8
            refine a_ldc2 C kl_X11_231 dX11_left_27 ?_
            exact a_lret C E dX11_left_30 (Nat.le_refl _) (Nat.le_refl _) (hpost _ _ hK)

def m11_register (S : List zC) (V : zV) (a1 : Int) (a2 : Int) (Q : Int → zV → Prop) : Prop :=
  m11_areTwo S V a1 a2 (fun r2 V2 => (inR r2) ∧ ((¬ r2 = 0 → m4_keepRegister S 14 V2 a1 a2 (fun r17 V17 => (inR r17) ∧ ((r17 = 0 → Q (-104) V17) ∧ (¬ r17 = 0 → Q (V17 14 12) V17)))) ∧ (r2 = 0 → Q (-101) V2)))
def t11_register : zT := fun as S V post => ∃ (a1 : Int) (a2 : Int) (Q : Int → zV → Prop), as = [zR 0, zI a1, zI a2] ∧ PSx S ∧ m11_register S V a1 a2 Q ∧ (∀ r V2, Q r V2 → post (some (zI r)) S V2)
set_option maxHeartbeats 4000000 in
set_option maxRecDepth 20000 in
theorem c11_register (l : Launch) : zCT l yX11_register cX11_register 3 (some .int) { frames := 2, cells := 0, slots := 0, locals := 41 } t11_register := by
  refine zCT_of (by decide) (fun as S V post h => by obtain ⟨a1, a2, Q, rfl, -⟩ := h; exact Nat.le_of_ble_eq_true rfl) ?_
  intro X S V as post C E hT
  obtain ⟨a1, a2, Q, rfl, hX, hK, hpost⟩ := hT
  obtain ⟨w_0, r_0, h_0, g_0_0, g_0_1, g_0_2, g_0_3, g_0_4, g_0_5, g_0_6, g_0_7⟩ := PSx_0 hX
  obtain ⟨w_14, r_14, h_14, g_14_0, g_14_1, g_14_2, g_14_3, g_14_4, g_14_5, g_14_6, g_14_7, g_14_8, g_14_10, g_14_11⟩ := PSi_o (PSx_i14 hX)
  show zW X S V 0 0 [some (zR 0), some (zI a1), some (zI a2)] [] 0
  unfold m11_register at hK
  refine a_iload_n C dX11_register_0 rfl ?_
  refine a_iload_n C dX11_register_1 rfl ?_
  refine a_callS (as := [zI a1, zI a2]) (rest := []) C 2 (fun l => c11_areTwo l) ml_X11_199 sa_X11_areTwo in_X11 co_X11_areTwo (by decide +kernel) rfl ⟨Nat.le_of_ble_eq_true rfl, Nat.le_of_ble_eq_true rfl⟩ (Nat.le_of_ble_eq_true rfl) dX11_register_2 ⟨Nat.le_of_ble_eq_true rfl, Nat.le_of_ble_eq_true rfl⟩ ?_
  refine ⟨a1, a2, _, rfl, hK, fun r2 V2 hK => ?_⟩
  try dsimp only [Option.toList, List.cons_append, List.nil_append]
  obtain ⟨q1, hK⟩ := hK
  refine a_if_ne C 11 dX11_register_5 (by decide) q1 (fun q2 => ?_) (fun q2 => ?_)
  · replace hK := hK.1 q2
    refine a_aload_n C dX11_register_11 rfl ?_
    refine a_getR C fl_X11_28_11 h_0 rfl g_0_2 dX11_register_12 ?_
    refine a_iload_n C dX11_register_15 rfl ?_
    refine a_iload_n C dX11_register_16 rfl ?_
    refine a_callV (as := [zI a1, zI a2]) (rest := []) C 2 (fun l => c4_keepRegister l) h_14 ⟨_, _, rfl⟩ (by decide) ml_X11_246 im_X4_keepRegister se_X4_keepRegister in_X4 co_X4_keepRegister (by decide +kernel) rfl ⟨Nat.le_of_ble_eq_true rfl, Nat.le_of_ble_eq_true rfl⟩ (Nat.le_of_ble_eq_true rfl) dX11_register_17 ⟨Nat.le_of_ble_eq_true rfl, Nat.le_of_ble_eq_true rfl⟩ ?_
    refine ⟨14, a1, a2, _, rfl, (PSx_i14 hX), hK, fun r17 V17 hK => ?_⟩
    try dsimp only [Option.toList, List.cons_append, List.nil_append]
    obtain ⟨q3, hK⟩ := hK
    refine a_if_eq C 33 dX11_register_20 (by decide) q3 (fun q4 => ?_) (fun q4 => ?_)
    · replace hK := hK.1 q4
      refine a_bipush C dX11_register_33 (by decide) ?_
      exact a_iret C E dX11_register_35 (Nat.le_refl _) (Nat.le_refl _) (hpost _ _ hK)
    · replace hK := hK.2 q4
      refine a_aload_n C dX11_register_23 rfl ?_
      refine a_getR C fl_X11_28_11 h_0 rfl g_0_2 dX11_register_24 ?_
      refine a_getI C fl_X11_249_4 h_14 rfl dX11_register_27 (fun r5 => ?_)
      refine a_goto C 35 dX11_register_30 (by decide) ?_
      exact a_iret C E dX11_register_35 (Nat.le_refl _) (Nat.le_refl _) (hpost _ _ hK)
  · replace hK := hK.2 q2
    refine a_bipush C dX11_register_8 (by decide) ?_
    exact a_iret C E dX11_register_10 (Nat.le_refl _) (Nat.le_refl _) (hpost _ _ hK)

def m11_forget (S : List zC) (V : zV)  (Q : Int → zV → Prop) : Prop :=
  Q (V 14 12) (vset V 14 12 0)
def t11_forget : zT := fun as S V post => ∃ (Q : Int → zV → Prop), as = [zR 0] ∧ PSx S ∧ m11_forget S V Q ∧ (∀ r V2, Q r V2 → post (some (zI r)) S V2)
set_option maxHeartbeats 4000000 in
set_option maxRecDepth 20000 in
theorem c11_forget (l : Launch) : zCT l yX11_forget cX11_forget 2 (some .int) { frames := 0, cells := 0, slots := 0, locals := 0 } t11_forget := by
  refine zCT_of (by decide) (fun as S V post h => by obtain ⟨Q, rfl, -⟩ := h; exact Nat.le_of_ble_eq_true rfl) ?_
  intro X S V as post C E hT
  obtain ⟨Q, rfl, hX, hK, hpost⟩ := hT
  obtain ⟨w_0, r_0, h_0, g_0_0, g_0_1, g_0_2, g_0_3, g_0_4, g_0_5, g_0_6, g_0_7⟩ := PSx_0 hX
  obtain ⟨w_14, r_14, h_14, g_14_0, g_14_1, g_14_2, g_14_3, g_14_4, g_14_5, g_14_6, g_14_7, g_14_8, g_14_10, g_14_11⟩ := PSi_o (PSx_i14 hX)
  show zW X S V 0 0 [some (zR 0), none] [] 0
  unfold m11_forget at hK
  refine a_aload_n C dX11_forget_0 rfl ?_
  refine a_getR C fl_X11_28_11 h_0 rfl g_0_2 dX11_forget_1 ?_
  refine a_getI C fl_X11_249_4 h_14 rfl dX11_forget_4 (fun r1 => ?_)
  refine a_istore_n C dX11_forget_7 (Nat.le_of_ble_eq_true rfl) ?_
  refine a_aload_n C dX11_forget_8 rfl ?_
  refine a_getR C fl_X11_28_11 h_0 rfl g_0_2 dX11_forget_9 ?_
  refine a_iconst C dX11_forget_12 ?_
  refine a_putI C fl_X11_249_4 (Or.inl rfl) h_14 rfl dX11_forget_13 ⟨⟨by decide, by decide⟩, fun q => by cases q⟩ ?_
  refine a_iload_n C dX11_forget_16 rfl ?_
  exact a_iret C E dX11_forget_17 (Nat.le_refl _) (Nat.le_refl _) (hpost _ _ hK)

def m11_lapsed_L40 (S : List zC) (k27 : Int → Int → Int → Int → zV → Prop) (Q : Int → zV → Prop) : Nat → Int → Int → Int → Int → Int → zV → Prop
  | 0 => fun _ _ _ _ _ _ => False
  | n + 1 => fun a1 a2 a3 a4 a5 V => (inR a5) ∧ ((6 ≤ a5 → k27 a1 a2 a3 (a4 + 1) V) ∧ (a5 < 6 → m4_registersFit S 14 V a4 a5 (fun r55 V55 => (inR r55) ∧ ((r55 = 0 → m11_lapsed_L40 S k27 Q n a1 a2 a3 a4 (a5 + 1) V55) ∧ (¬ r55 = 0 → m11_lapsed_L40 S k27 Q n a1 (a2 + 1) ((6 * a4) + a5) a4 (a5 + 1) V55)))))
def m11_lapsed_L27 (S : List zC) (Q : Int → zV → Prop) : Nat → Int → Int → Int → Int → zV → Prop
  | 0 => fun _ _ _ _ _ => False
  | n + 1 => fun a1 a2 a3 a4 V => (inR a4) ∧ ((6 ≤ a4 → (inR a1) ∧ ((¬ a1 = 0 → (inR a2) ∧ ((¬ a2 = 1 → Q (-1) V) ∧ (a2 = 1 → Q a3 V))) ∧ (a1 = 0 → Q a2 V))) ∧ (a4 < 6 → ∃ nn19, m11_lapsed_L40 S (m11_lapsed_L27 S Q n) Q nn19 a1 a2 a3 a4 (a4 + 1) V))
def m11_lapsed (S : List zC) (V : zV) (a1 : Int) (Q : Int → zV → Prop) : Prop :=
  m11_isBit S V a1 (fun r1 V1 => (inR r1) ∧ ((¬ r1 = 0 → m11_hasList S V1 (fun r11 V11 => (inR r11) ∧ ((¬ r11 = 0 → ∃ nn35, m11_lapsed_L27 S Q nn35 a1 0 (-1) 0 V11) ∧ (r11 = 0 → Q (-103) V11)))) ∧ (r1 = 0 → Q (-102) V1)))
def t11_lapsed : zT := fun as S V post => ∃ (a1 : Int) (Q : Int → zV → Prop), as = [zR 0, zI a1] ∧ PSx S ∧ m11_lapsed S V a1 Q ∧ (∀ r V2, Q r V2 → post (some (zI r)) S V2)
set_option maxHeartbeats 4000000 in
set_option maxRecDepth 20000 in
theorem c11_lapsed (l : Launch) : zCT l yX11_lapsed cX11_lapsed 6 (some .int) { frames := 4, cells := 0, slots := 0, locals := 98 } t11_lapsed := by
  refine zCT_of (by decide) (fun as S V post h => by obtain ⟨a1, Q, rfl, -⟩ := h; exact Nat.le_of_ble_eq_true rfl) ?_
  intro X S V as post C E hT
  obtain ⟨a1, Q, rfl, hX, hK, hpost⟩ := hT
  obtain ⟨w_0, r_0, h_0, g_0_0, g_0_1, g_0_2, g_0_3, g_0_4, g_0_5, g_0_6, g_0_7⟩ := PSx_0 hX
  obtain ⟨w_14, r_14, h_14, g_14_0, g_14_1, g_14_2, g_14_3, g_14_4, g_14_5, g_14_6, g_14_7, g_14_8, g_14_10, g_14_11⟩ := PSi_o (PSx_i14 hX)
  show zW X S V 0 0 [some (zR 0), some (zI a1), none, none, none, none] [] 0
  unfold m11_lapsed at hK
  refine a_iload_n C dX11_lapsed_0 rfl ?_
  refine a_callS (as := [zI a1]) (rest := []) C 1 (fun l => c11_isBit l) ml_X11_169 sa_X11_isBit in_X11 co_X11_isBit (by decide +kernel) rfl ⟨Nat.le_of_ble_eq_true rfl, Nat.le_of_ble_eq_true rfl⟩ (Nat.le_of_ble_eq_true rfl) dX11_lapsed_1 ⟨Nat.le_of_ble_eq_true rfl, Nat.le_of_ble_eq_true rfl⟩ ?_
  refine ⟨a1, _, rfl, hK, fun r1 V1 hK => ?_⟩
  try dsimp only [Option.toList, List.cons_append, List.nil_append]
  obtain ⟨q1, hK⟩ := hK
  refine a_if_ne C 10 dX11_lapsed_4 (by decide) q1 (fun q2 => ?_) (fun q2 => ?_)
  · replace hK := hK.1 q2
    refine a_aload_n C dX11_lapsed_10 rfl ?_
    refine a_callV (as := []) (rest := []) C 0 (fun l => c11_hasList l) h_0 ⟨_, _, rfl⟩ (by decide) ml_X11_166 im_X11_hasList se_X11_hasList in_X11 co_X11_hasList (by decide +kernel) rfl ⟨Nat.le_of_ble_eq_true rfl, Nat.le_of_ble_eq_true rfl⟩ (Nat.le_of_ble_eq_true rfl) dX11_lapsed_11 ⟨Nat.le_of_ble_eq_true rfl, Nat.le_of_ble_eq_true rfl⟩ ?_
    refine ⟨_, rfl, hX, hK, fun r11 V11 hK => ?_⟩
    try dsimp only [Option.toList, List.cons_append, List.nil_append]
    obtain ⟨q3, hK⟩ := hK
    refine a_if_ne C 20 dX11_lapsed_14 (by decide) q3 (fun q4 => ?_) (fun q4 => ?_)
    · replace hK := hK.1 q4
      have L27 : ∀ (n : Nat) (a1 : Int) (a2 : Int) (a3 : Int) (a4 : Int) (V : zV), m11_lapsed_L27 S Q n a1 a2 a3 a4 V → zW X S V 0 0 [some (zR 0), some (zI a1), some (zI a2), some (zI a3), some (zI a4), none] [] 27 := by
        intro n27
        induction n27 with
        | zero => intro _ _ _ _ _ hK; exact hK.elim
        | succ n27 ih27 =>
          intro a1 a2 a3 a4 V hK
          unfold m11_lapsed_L27 at hK
          refine a_iload C dX11_lapsed_27 rfl ?_
          refine a_bipush C dX11_lapsed_29 (by decide) ?_
          obtain ⟨q20, hK⟩ := hK
          refine a_icmp_ge C 85 dX11_lapsed_31 (by decide) ⟨q20, ⟨by decide, by decide⟩⟩ (fun q21 => ?_) (fun q21 => ?_)
          · replace hK := hK.1 q21
            refine a_iload_n C dX11_lapsed_85 rfl ?_
            obtain ⟨q22, hK⟩ := hK
            refine a_if_ne C 91 dX11_lapsed_86 (by decide) q22 (fun q23 => ?_) (fun q23 => ?_)
            · replace hK := hK.1 q23
              refine a_iload_n C dX11_lapsed_91 rfl ?_
              refine a_iconst C dX11_lapsed_92 ?_
              obtain ⟨q24, hK⟩ := hK
              refine a_icmp_ne C 100 dX11_lapsed_93 (by decide) ⟨q24, ⟨by decide, by decide⟩⟩ (fun q25 => ?_) (fun q25 => ?_)
              · replace hK := hK.1 q25
                refine a_iconst C dX11_lapsed_100 ?_
                exact a_iret C E dX11_lapsed_101 (Nat.le_refl _) (Nat.le_refl _) (hpost _ _ hK)
              · replace hK := hK.2 q25
                refine a_iload_n C dX11_lapsed_96 rfl ?_
                refine a_goto C 101 dX11_lapsed_97 (by decide) ?_
                exact a_iret C E dX11_lapsed_101 (Nat.le_refl _) (Nat.le_refl _) (hpost _ _ hK)
            · replace hK := hK.2 q23
              refine a_iload_n C dX11_lapsed_89 rfl ?_
              exact a_iret C E dX11_lapsed_90 (Nat.le_refl _) (Nat.le_refl _) (hpost _ _ hK)
          · replace hK := hK.2 q21
            have L40 : ∀ (n : Nat) (a1 : Int) (a2 : Int) (a3 : Int) (a4 : Int) (a5 : Int) (V : zV), m11_lapsed_L40 S (m11_lapsed_L27 S Q n27) Q n a1 a2 a3 a4 a5 V → zW X S V 0 0 [some (zR 0), some (zI a1), some (zI a2), some (zI a3), some (zI a4), some (zI a5)] [] 40 := by
              intro n40
              induction n40 with
              | zero => intro _ _ _ _ _ _ hK; exact hK.elim
              | succ n40 ih40 =>
                intro a1 a2 a3 a4 a5 V hK
                unfold m11_lapsed_L40 at hK
                refine a_iload C dX11_lapsed_40 rfl ?_
                refine a_bipush C dX11_lapsed_42 (by decide) ?_
                obtain ⟨q30, hK⟩ := hK
                refine a_icmp_ge C 79 dX11_lapsed_44 (by decide) ⟨q30, ⟨by decide, by decide⟩⟩ (fun q31 => ?_) (fun q31 => ?_)
                · replace hK := hK.1 q31
                  refine a_iinc C dX11_lapsed_79 rfl (Nat.le_of_ble_eq_true rfl) ?_
                  refine a_goto C 27 dX11_lapsed_82 (by decide) ?_
                  exact a_ls (lsub_s rfl (lsub_s rfl (lsub_s rfl (lsub_s rfl (lsub_s rfl (lsub_n lsub_0)))))) (ih27 a1 a2 a3 (a4 + 1) _ hK)
                · replace hK := hK.2 q31
                  refine a_aload_n C dX11_lapsed_47 rfl ?_
                  refine a_getR C fl_X11_28_11 h_0 rfl g_0_2 dX11_lapsed_48 ?_
                  refine a_iload C dX11_lapsed_51 rfl ?_
                  refine a_iload C dX11_lapsed_53 rfl ?_
                  refine a_callV (as := [zI a4, zI a5]) (rest := []) C 2 (fun l => c4_registersFit l) h_14 ⟨_, _, rfl⟩ (by decide) ml_X11_252 im_X4_registersFit se_X4_registersFit in_X4 co_X4_registersFit (by decide +kernel) rfl ⟨Nat.le_of_ble_eq_true rfl, Nat.le_of_ble_eq_true rfl⟩ (Nat.le_of_ble_eq_true rfl) dX11_lapsed_55 ⟨Nat.le_of_ble_eq_true rfl, Nat.le_of_ble_eq_true rfl⟩ ?_
                  refine ⟨14, a4, a5, _, rfl, (PSx_i14 hX), hK, fun r55 V55 hK => ?_⟩
                  try dsimp only [Option.toList, List.cons_append, List.nil_append]
                  obtain ⟨q32, hK⟩ := hK
                  refine a_if_eq C 73 dX11_lapsed_58 (by decide) q32 (fun q33 => ?_) (fun q33 => ?_)
                  · replace hK := hK.1 q33
                    refine a_iinc C dX11_lapsed_73 rfl (Nat.le_of_ble_eq_true rfl) ?_
                    refine a_goto C 40 dX11_lapsed_76 (by decide) ?_
                    exact a_ls (lsub_s rfl (lsub_s rfl (lsub_s rfl (lsub_s rfl (lsub_s rfl (lsub_s rfl lsub_0)))))) (ih40 a1 a2 a3 a4 (a5 + 1) _ hK)
                  · replace hK := hK.2 q33
                    refine a_iinc C dX11_lapsed_61 rfl (Nat.le_of_ble_eq_true rfl) ?_
                    refine a_bipush C dX11_lapsed_64 (by decide) ?_
                    refine a_iload C dX11_lapsed_66 rfl ?_
                    refine a_imul C dX11_lapsed_68 ?_
                    refine a_iload C dX11_lapsed_69 rfl ?_
                    refine a_iadd C dX11_lapsed_71 ?_
                    refine a_istore_n C dX11_lapsed_72 (Nat.le_of_ble_eq_true rfl) ?_
                    refine a_iinc C dX11_lapsed_73 rfl (Nat.le_of_ble_eq_true rfl) ?_
                    refine a_goto C 40 dX11_lapsed_76 (by decide) ?_
                    exact a_ls (lsub_s rfl (lsub_s rfl (lsub_s rfl (lsub_s rfl (lsub_s rfl (lsub_s rfl lsub_0)))))) (ih40 a1 (a2 + 1) ((6 * a4) + a5) a4 (a5 + 1) _ hK)
            refine a_iload C dX11_lapsed_34 rfl ?_
            refine a_iconst C dX11_lapsed_36 ?_
            refine a_iadd C dX11_lapsed_37 ?_
            refine a_istore C dX11_lapsed_38 (Nat.le_of_ble_eq_true rfl) ?_
            obtain ⟨nn34, hK⟩ := hK
            exact a_ls (lsub_s rfl (lsub_s rfl (lsub_s rfl (lsub_s rfl (lsub_s rfl (lsub_s rfl lsub_0)))))) (L40 nn34 a1 a2 a3 a4 (a4 + 1) _ hK)
      refine a_iconst C dX11_lapsed_20 ?_
      refine a_istore_n C dX11_lapsed_21 (Nat.le_of_ble_eq_true rfl) ?_
      refine a_iconst C dX11_lapsed_22 ?_
      refine a_istore_n C dX11_lapsed_23 (Nat.le_of_ble_eq_true rfl) ?_
      refine a_iconst C dX11_lapsed_24 ?_
      refine a_istore C dX11_lapsed_25 (Nat.le_of_ble_eq_true rfl) ?_
      obtain ⟨nn35, hK⟩ := hK
      exact a_ls (lsub_s rfl (lsub_s rfl (lsub_s rfl (lsub_s rfl (lsub_s rfl (lsub_n lsub_0)))))) (L27 nn35 a1 0 (-1) 0 _ hK)
    · replace hK := hK.2 q4
      refine a_bipush C dX11_lapsed_17 (by decide) ?_
      exact a_iret C E dX11_lapsed_19 (Nat.le_refl _) (Nat.le_refl _) (hpost _ _ hK)
  · replace hK := hK.2 q2
    refine a_bipush C dX11_lapsed_7 (by decide) ?_
    exact a_iret C E dX11_lapsed_9 (Nat.le_refl _) (Nat.le_refl _) (hpost _ _ hK)

def m11_liveYear_J103 (S : List zC) (Q : zV → Prop)  (V : zV) : Prop :=
  m4_endSeason S 36 V (fun r107 V107 => Q V107)
def m11_liveYear_J58 (S : List zC) (Q : zV → Prop)  (V : zV) : Prop :=
  m1_below V 6 (fun r64 V64 => (0 ≤ r64 ∧ r64 < 6) ∧ (((V64 (36 + 3) (r64).toNat) = 0 → m11_liveYear_J103 S Q V64) ∧ (¬ (V64 (36 + 3) (r64).toNat) = 0 → m1_below V64 4 (fun r87 V87 => (inR r87) ∧ ((¬ r87 = 0 → m11_liveYear_J103 S Q V87) ∧ (r87 = 0 → m4_die S 36 V87 r64 (fun r99 V99 => m11_liveYear_J103 S Q V99)))))))
def m11_liveYear (S : List zC) (V : zV)  (Q : zV → Prop) : Prop :=
  m1_below V 6 (fun r6 V6 => m1_below V6 (V6 3 2) (fun r21 V21 => m1_below V21 2 (fun r30 V30 => m4_canBuy S 36 V30 r6 r21 r30 (fun r41 V41 => (inR r41) ∧ ((r41 = 0 → m11_liveYear_J58 S Q V41) ∧ (¬ r41 = 0 → m4_sellTo S 36 V41 r6 r21 r30 (fun r54 V54 => m11_liveYear_J58 S Q V54)))))))
def t11_liveYear : zT := fun as S V post => ∃ (Q : zV → Prop), as = [zR 0] ∧ PSx S ∧ m11_liveYear S V Q ∧ (∀ V2, Q V2 → post none S V2)
set_option maxHeartbeats 4000000 in
set_option maxRecDepth 20000 in
theorem c11_liveYear (l : Launch) : zCT l yX11_liveYear cX11_liveYear 5 none { frames := 4, cells := 0, slots := 0, locals := 88 } t11_liveYear := by
  refine zCT_of (by decide) (fun as S V post h => by obtain ⟨Q, rfl, -⟩ := h; exact Nat.le_of_ble_eq_true rfl) ?_
  intro X S V as post C E hT
  obtain ⟨Q, rfl, hX, hK, hpost⟩ := hT
  obtain ⟨w_0, r_0, h_0, g_0_0, g_0_1, g_0_2, g_0_3, g_0_4, g_0_5, g_0_6, g_0_7⟩ := PSx_0 hX
  obtain ⟨w_36, r_36, h_36, g_36_0, g_36_1, g_36_2, g_36_3, g_36_4, g_36_5, g_36_6, g_36_7, g_36_8, g_36_10, g_36_11⟩ := PSi_o (PSx_i36 hX)
  obtain ⟨w_52, r_52, h_52⟩ := PSd_52 (PSx_d hX)
  obtain ⟨r_36_3, h_36_3⟩ := PSi_a3 (PSx_i36 hX)
  obtain ⟨w_3, r_3, h_3, g_3_0, g_3_1⟩ := PSl_3 (PSi_l (PSx_i14 hX))
  show zW X S V 0 0 [some (zR 0), none, none, none, none] [] 0
  unfold m11_liveYear at hK
  have J58 : ∀ (V : zV), m11_liveYear_J58 S Q V → zW X S V 0 0 [some (zR 0), none, none, none, none] [] 58 := by
    intro V hK
    unfold m11_liveYear_J58 at hK
    have J103 : ∀ (V : zV), m11_liveYear_J103 S Q V → zW X S V 0 0 [some (zR 0), none, none, none, none] [] 103 := by
      intro V hK
      unfold m11_liveYear_J103 at hK
      refine a_aload_n C dX11_liveYear_103 rfl ?_
      refine a_getR C fl_X11_35_11 h_0 rfl g_0_4 dX11_liveYear_104 ?_
      refine a_callV (as := []) (rest := []) C 0 (fun l => c4_endSeason l) h_36 ⟨_, _, rfl⟩ (by decide) ml_X11_209 im_X4_endSeason se_X4_endSeason in_X4 co_X4_endSeason (by decide +kernel) rfl ⟨Nat.le_of_ble_eq_true rfl, Nat.le_of_ble_eq_true rfl⟩ (Nat.le_of_ble_eq_true rfl) dX11_liveYear_107 ⟨Nat.le_of_ble_eq_true rfl, Nat.le_of_ble_eq_true rfl⟩ ?_
      refine ⟨36, _, rfl, (PSx_i36 hX), hK, fun r107 V107 hK => ?_⟩
      try dsimp only [Option.toList, List.cons_append, List.nil_append]
      refine a_pop C dX11_liveYear_110 rfl ?_
      exact a_vret C E dX11_liveYear_111 (Nat.le_refl _) (Nat.le_refl _) (hpost _ hK)
    refine a_aload_n C dX11_liveYear_58 rfl ?_
    refine a_getR C fl_X11_55_11 h_0 rfl g_0_7 dX11_liveYear_59 ?_
    refine a_bipush C dX11_liveYear_62 (by decide) ?_
    refine a_callV (as := [zI 6]) (rest := []) C 1 (fun l => c1_below l) h_52 ⟨_, _, rfl⟩ (by decide) ml_X11_328 im_X1_below se_X1_below in_X1 co_X1_below (by decide +kernel) rfl ⟨Nat.le_of_ble_eq_true rfl, Nat.le_of_ble_eq_true rfl⟩ (Nat.le_of_ble_eq_true rfl) dX11_liveYear_64 ⟨Nat.le_of_ble_eq_true rfl, Nat.le_of_ble_eq_true rfl⟩ ?_
    refine ⟨6, _, rfl, (PSx_d hX), hK, fun r64 V64 hK => ?_⟩
    try dsimp only [Option.toList, List.cons_append, List.nil_append]
    refine a_istore C dX11_liveYear_67 (Nat.le_of_ble_eq_true rfl) ?_
    refine a_aload_n C dX11_liveYear_69 rfl ?_
    refine a_getR C fl_X11_35_11 h_0 rfl g_0_4 dX11_liveYear_70 ?_
    refine a_getR C fl_X11_141_4 h_36 rfl g_36_3 dX11_liveYear_73 ?_
    refine a_iload C dX11_liveYear_76 rfl ?_
    obtain ⟨q6, hK⟩ := hK
    refine a_zald C h_36_3 dX11_liveYear_78 (by decide) q6 (fun r7 => ?_)
    refine a_if_eq C 103 dX11_liveYear_79 (by decide) (z_B2R r7) (fun q8 => ?_) (fun q8 => ?_)
    · replace hK := hK.1 q8
      exact a_ls (lsub_s rfl (lsub_n (lsub_n (lsub_n (lsub_n lsub_0))))) (J103 _ hK)
    · replace hK := hK.2 q8
      refine a_aload_n C dX11_liveYear_82 rfl ?_
      refine a_getR C fl_X11_55_11 h_0 rfl g_0_7 dX11_liveYear_83 ?_
      refine a_iconst C dX11_liveYear_86 ?_
      refine a_callV (as := [zI 4]) (rest := []) C 1 (fun l => c1_below l) h_52 ⟨_, _, rfl⟩ (by decide) ml_X11_328 im_X1_below se_X1_below in_X1 co_X1_below (by decide +kernel) rfl ⟨Nat.le_of_ble_eq_true rfl, Nat.le_of_ble_eq_true rfl⟩ (Nat.le_of_ble_eq_true rfl) dX11_liveYear_87 ⟨Nat.le_of_ble_eq_true rfl, Nat.le_of_ble_eq_true rfl⟩ ?_
      refine ⟨4, _, rfl, (PSx_d hX), hK, fun r87 V87 hK => ?_⟩
      try dsimp only [Option.toList, List.cons_append, List.nil_append]
      obtain ⟨q9, hK⟩ := hK
      refine a_if_ne C 103 dX11_liveYear_90 (by decide) q9 (fun q10 => ?_) (fun q10 => ?_)
      · replace hK := hK.1 q10
        exact a_ls (lsub_s rfl (lsub_n (lsub_n (lsub_n (lsub_n lsub_0))))) (J103 _ hK)
      · replace hK := hK.2 q10
        refine a_aload_n C dX11_liveYear_93 rfl ?_
        refine a_getR C fl_X11_35_11 h_0 rfl g_0_4 dX11_liveYear_94 ?_
        refine a_iload C dX11_liveYear_97 rfl ?_
        refine a_callV (as := [zI r64]) (rest := []) C 1 (fun l => c4_die l) h_36 ⟨_, _, rfl⟩ (by decide) ml_X11_196 im_X4_die se_X4_die in_X4 co_X4_die (by decide +kernel) rfl ⟨Nat.le_of_ble_eq_true rfl, Nat.le_of_ble_eq_true rfl⟩ (Nat.le_of_ble_eq_true rfl) dX11_liveYear_99 ⟨Nat.le_of_ble_eq_true rfl, Nat.le_of_ble_eq_true rfl⟩ ?_
        refine ⟨36, r64, _, rfl, (PSx_i36 hX), hK, fun r99 V99 hK => ?_⟩
        try dsimp only [Option.toList, List.cons_append, List.nil_append]
        refine a_pop C dX11_liveYear_102 rfl ?_
        exact a_ls (lsub_s rfl (lsub_n (lsub_n (lsub_n (lsub_n lsub_0))))) (J103 _ hK)
  refine a_aload_n C dX11_liveYear_0 rfl ?_
  refine a_getR C fl_X11_55_11 h_0 rfl g_0_7 dX11_liveYear_1 ?_
  refine a_bipush C dX11_liveYear_4 (by decide) ?_
  refine a_callV (as := [zI 6]) (rest := []) C 1 (fun l => c1_below l) h_52 ⟨_, _, rfl⟩ (by decide) ml_X11_328 im_X1_below se_X1_below in_X1 co_X1_below (by decide +kernel) rfl ⟨Nat.le_of_ble_eq_true rfl, Nat.le_of_ble_eq_true rfl⟩ (Nat.le_of_ble_eq_true rfl) dX11_liveYear_6 ⟨Nat.le_of_ble_eq_true rfl, Nat.le_of_ble_eq_true rfl⟩ ?_
  refine ⟨6, _, rfl, (PSx_d hX), hK, fun r6 V6 hK => ?_⟩
  try dsimp only [Option.toList, List.cons_append, List.nil_append]
  refine a_istore_n C dX11_liveYear_9 (Nat.le_of_ble_eq_true rfl) ?_
  refine a_aload_n C dX11_liveYear_10 rfl ?_
  refine a_getR C fl_X11_55_11 h_0 rfl g_0_7 dX11_liveYear_11 ?_
  refine a_aload_n C dX11_liveYear_14 rfl ?_
  refine a_getR C fl_X11_19_11 h_0 rfl g_0_1 dX11_liveYear_15 ?_
  refine a_getI C fl_X11_95_10 h_3 rfl dX11_liveYear_18 (fun r11 => ?_)
  refine a_callV (as := [zI (V6 3 2)]) (rest := []) C 1 (fun l => c1_below l) h_52 ⟨_, _, rfl⟩ (by decide) ml_X11_328 im_X1_below se_X1_below in_X1 co_X1_below (by decide +kernel) rfl ⟨Nat.le_of_ble_eq_true rfl, Nat.le_of_ble_eq_true rfl⟩ (Nat.le_of_ble_eq_true rfl) dX11_liveYear_21 ⟨Nat.le_of_ble_eq_true rfl, Nat.le_of_ble_eq_true rfl⟩ ?_
  refine ⟨(V6 3 2), _, rfl, (PSx_d hX), hK, fun r21 V21 hK => ?_⟩
  try dsimp only [Option.toList, List.cons_append, List.nil_append]
  refine a_istore_n C dX11_liveYear_24 (Nat.le_of_ble_eq_true rfl) ?_
  refine a_aload_n C dX11_liveYear_25 rfl ?_
  refine a_getR C fl_X11_55_11 h_0 rfl g_0_7 dX11_liveYear_26 ?_
  refine a_iconst C dX11_liveYear_29 ?_
  refine a_callV (as := [zI 2]) (rest := []) C 1 (fun l => c1_below l) h_52 ⟨_, _, rfl⟩ (by decide) ml_X11_328 im_X1_below se_X1_below in_X1 co_X1_below (by decide +kernel) rfl ⟨Nat.le_of_ble_eq_true rfl, Nat.le_of_ble_eq_true rfl⟩ (Nat.le_of_ble_eq_true rfl) dX11_liveYear_30 ⟨Nat.le_of_ble_eq_true rfl, Nat.le_of_ble_eq_true rfl⟩ ?_
  refine ⟨2, _, rfl, (PSx_d hX), hK, fun r30 V30 hK => ?_⟩
  try dsimp only [Option.toList, List.cons_append, List.nil_append]
  refine a_istore_n C dX11_liveYear_33 (Nat.le_of_ble_eq_true rfl) ?_
  refine a_aload_n C dX11_liveYear_34 rfl ?_
  refine a_getR C fl_X11_35_11 h_0 rfl g_0_4 dX11_liveYear_35 ?_
  refine a_iload_n C dX11_liveYear_38 rfl ?_
  refine a_iload_n C dX11_liveYear_39 rfl ?_
  refine a_iload_n C dX11_liveYear_40 rfl ?_
  refine a_callV (as := [zI r6, zI r21, zI r30]) (rest := []) C 3 (fun l => c4_canBuy l) h_36 ⟨_, _, rfl⟩ (by decide) ml_X11_172 im_X4_canBuy se_X4_canBuy in_X4 co_X4_canBuy (by decide +kernel) rfl ⟨Nat.le_of_ble_eq_true rfl, Nat.le_of_ble_eq_true rfl⟩ (Nat.le_of_ble_eq_true rfl) dX11_liveYear_41 ⟨Nat.le_of_ble_eq_true rfl, Nat.le_of_ble_eq_true rfl⟩ ?_
  refine ⟨36, r6, r21, r30, _, rfl, (PSx_i36 hX), hK, fun r41 V41 hK => ?_⟩
  try dsimp only [Option.toList, List.cons_append, List.nil_append]
  obtain ⟨q12, hK⟩ := hK
  refine a_if_eq C 58 dX11_liveYear_44 (by decide) q12 (fun q13 => ?_) (fun q13 => ?_)
  · replace hK := hK.1 q13
    exact a_ls (lsub_s rfl (lsub_n (lsub_n (lsub_n (lsub_n lsub_0))))) (J58 _ hK)
  · replace hK := hK.2 q13
    refine a_aload_n C dX11_liveYear_47 rfl ?_
    refine a_getR C fl_X11_35_11 h_0 rfl g_0_4 dX11_liveYear_48 ?_
    refine a_iload_n C dX11_liveYear_51 rfl ?_
    refine a_iload_n C dX11_liveYear_52 rfl ?_
    refine a_iload_n C dX11_liveYear_53 rfl ?_
    refine a_callV (as := [zI r6, zI r21, zI r30]) (rest := []) C 3 (fun l => c4_sellTo l) h_36 ⟨_, _, rfl⟩ (by decide) ml_X11_176 im_X4_sellTo se_X4_sellTo in_X4 co_X4_sellTo (by decide +kernel) rfl ⟨Nat.le_of_ble_eq_true rfl, Nat.le_of_ble_eq_true rfl⟩ (Nat.le_of_ble_eq_true rfl) dX11_liveYear_54 ⟨Nat.le_of_ble_eq_true rfl, Nat.le_of_ble_eq_true rfl⟩ ?_
    refine ⟨36, r6, r21, r30, _, rfl, (PSx_i36 hX), hK, fun r54 V54 hK => ?_⟩
    try dsimp only [Option.toList, List.cons_append, List.nil_append]
    refine a_pop C dX11_liveYear_57 rfl ?_
    exact a_ls (lsub_s rfl (lsub_n (lsub_n (lsub_n (lsub_n lsub_0))))) (J58 _ hK)
