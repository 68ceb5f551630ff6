def m11_years_L59 (S : List zC) (Q : Int → zV → Prop) : Nat → Int → Int → Int → zV → Prop
  | 0 => fun _ _ _ _ => False
  | n + 1 => fun a1 a3 a4 V => (inR a4) ∧ (inR a1) ∧ ((a1 ≤ a4 → (inR a3) ∧ (a3 = 0 → m4_peopleAlive S 36 V (fun r108 V108 => Q r108 V108)) ∧ (a3 = 1 → m4_moneyOfAll S 36 V (fun r116 V116 => Q r116 V116)) ∧ (a3 = 2 → m4_openSides S 36 V (fun r124 V124 => Q r124 V124)) ∧ (a3 < 0 ∨ 2 < a3 → Q (V 52 0) V)) ∧ (a4 < a1 → m11_liveYear S V (fun V66 => m11_years_L59 S Q n a1 a3 (a4 + 1) V66)))
def m11_years (S : List zC) (V : zV) (a1 : Int) (a2 : Int) (a3 : Int) (Q : Int → zV → Prop) : Prop :=
  (inR a1) ∧ ((a1 < 1 → Q (-102) V) ∧ (1 ≤ a1 → ((60 < a1 → Q (-102) V) ∧ (a1 ≤ 60 → (inR a2) ∧ ((a2 < 0 → Q (-102) V) ∧ (0 ≤ a2 → (inR a3) ∧ ((a3 < 0 → Q (-102) V) ∧ (0 ≤ a3 → ((a3 ≤ 3 → m11_hasList S V (fun r28 V28 => (inR r28) ∧ ((¬ r28 = 0 → m4_copyFrom S 36 14 V28 (fun V45 => ∃ nn29, m11_years_L59 S Q nn29 a1 a3 0 (vset V45 52 0 a2))) ∧ (r28 = 0 → Q (-103) V28)))) ∧ (3 < a3 → Q (-102) V))))))))))
def t11_years : zT := fun as S V post => ∃ (a1 : Int) (a2 : Int) (a3 : Int) (Q : Int → zV → Prop), as = [zR 0, zI a1, zI a2, zI a3] ∧ PSx S ∧ m11_years S V a1 a2 a3 Q ∧ (∀ r V2, Q r V2 → post (some (zI r)) S V2)
set_option maxHeartbeats 4000000 in
set_option maxRecDepth 20000 in
theorem c11_years (l : Launch) : zCT l yX11_years cX11_years 5 (some .int) { frames := 5, cells := 0, slots := 0, locals := 112 } t11_years := by
  refine zCT_of (by decide) (fun as S V post h => by obtain ⟨a1, a2, a3, Q, rfl, -⟩ := h; exact Nat.le_of_ble_eq_true rfl) ?_
  intro X S V as post C E hT
  obtain ⟨a1, a2, a3, Q, rfl, hX, hK, hpost⟩ := hT
  obtain ⟨w_0, r_0, h_0, g_0_0, g_0_1, g_0_2, g_0_3, g_0_4, g_0_5, g_0_6, g_0_7⟩ := PSx_0 hX
  obtain ⟨w_36, r_36, h_36, g_36_0, g_36_1, g_36_2, g_36_3, g_36_4, g_36_5, g_36_6, g_36_7, g_36_8, g_36_10, g_36_11⟩ := PSi_o (PSx_i36 hX)
  obtain ⟨w_52, r_52, h_52⟩ := PSd_52 (PSx_d hX)
  show zW X S V 0 0 [some (zR 0), some (zI a1), some (zI a2), some (zI a3), none] [] 0
  unfold m11_years at hK
  refine a_iload_n C dX11_years_0 rfl ?_
  refine a_iconst C dX11_years_1 ?_
  obtain ⟨q1, hK⟩ := hK
  refine a_icmp_lt C 24 dX11_years_2 (by decide) ⟨q1, ⟨by decide, by decide⟩⟩ (fun q2 => ?_) (fun q2 => ?_)
  · replace hK := hK.1 q2
    refine a_bipush C dX11_years_24 (by decide) ?_
    exact a_iret C E dX11_years_26 (Nat.le_refl _) (Nat.le_refl _) (hpost _ _ hK)
  · replace hK := hK.2 q2
    refine a_iload_n C dX11_years_5 rfl ?_
    refine a_bipush C dX11_years_6 (by decide) ?_
    refine a_icmp_gt C 24 dX11_years_8 (by decide) ⟨q1, ⟨by decide, by decide⟩⟩ (fun q3 => ?_) (fun q3 => ?_)
    · replace hK := hK.1 q3
      refine a_bipush C dX11_years_24 (by decide) ?_
      exact a_iret C E dX11_years_26 (Nat.le_refl _) (Nat.le_refl _) (hpost _ _ hK)
    · replace hK := hK.2 q3
      refine a_iload_n C dX11_years_11 rfl ?_
      obtain ⟨q4, hK⟩ := hK
      refine a_if_lt C 24 dX11_years_12 (by decide) q4 (fun q5 => ?_) (fun q5 => ?_)
      · replace hK := hK.1 q5
        refine a_bipush C dX11_years_24 (by decide) ?_
        exact a_iret C E dX11_years_26 (Nat.le_refl _) (Nat.le_refl _) (hpost _ _ hK)
      · replace hK := hK.2 q5
        refine a_iload_n C dX11_years_15 rfl ?_
        obtain ⟨q6, hK⟩ := hK
        refine a_if_lt C 24 dX11_years_16 (by decide) q6 (fun q7 => ?_) (fun q7 => ?_)
        · replace hK := hK.1 q7
          refine a_bipush C dX11_years_24 (by decide) ?_
          exact a_iret C E dX11_years_26 (Nat.le_refl _) (Nat.le_refl _) (hpost _ _ hK)
        · replace hK := hK.2 q7
          refine a_iload_n C dX11_years_19 rfl ?_
          refine a_iconst C dX11_years_20 ?_
          refine a_icmp_le C 27 dX11_years_21 (by decide) ⟨q6, ⟨by decide, by decide⟩⟩ (fun q8 => ?_) (fun q8 => ?_)
          · replace hK := hK.1 q8
            refine a_aload_n C dX11_years_27 rfl ?_
            refine a_callV (as := []) (rest := []) C 0 (fun l => c11_hasList l) h_0 ⟨_, _, rfl⟩ (by decide) ml_X11_166 im_X11_hasList se_X11_hasList in_X11 co_X11_hasList (by decide +kernel) rfl ⟨Nat.le_of_ble_eq_true rfl, Nat.le_of_ble_eq_true rfl⟩ (Nat.le_of_ble_eq_true rfl) dX11_years_28 ⟨Nat.le_of_ble_eq_true rfl, Nat.le_of_ble_eq_true rfl⟩ ?_
            refine ⟨_, rfl, hX, hK, fun r28 V28 hK => ?_⟩
            try dsimp only [Option.toList, List.cons_append, List.nil_append]
            obtain ⟨q9, hK⟩ := hK
            refine a_if_ne C 37 dX11_years_31 (by decide) q9 (fun q10 => ?_) (fun q10 => ?_)
            · replace hK := hK.1 q10
              have L59 : ∀ (n : Nat) (a1 : Int) (a3 : Int) (a4 : Int) (V : zV), m11_years_L59 S Q n a1 a3 a4 V → zW X S V 0 0 [some (zR 0), some (zI a1), none, some (zI a3), some (zI a4)] [] 59 := by
                intro n59
                induction n59 with
                | zero => intro _ _ _ _ hK; exact hK.elim
                | succ n59 ih59 =>
                  intro a1 a3 a4 V hK
                  unfold m11_years_L59 at hK
                  refine a_iload C dX11_years_59 rfl ?_
                  refine a_iload_n C dX11_years_61 rfl ?_
                  obtain ⟨q20, hK⟩ := hK
                  obtain ⟨q21, hK⟩ := hK
                  refine a_icmp_ge C 75 dX11_years_62 (by decide) ⟨q20, q21⟩ (fun q22 => ?_) (fun q22 => ?_)
                  · replace hK := hK.1 q22
                    refine a_iload_n C dX11_years_75 rfl ?_
                    obtain ⟨q23, hK⟩ := hK
                    by_cases q24 : a3 = 0
                    · refine a_tswIn C 0 104 dX11_years_76 (by omega) q23 (by decide) rfl (by decide) ?_
                      replace hK := hK.1 q24
                      refine a_aload_n C dX11_years_104 rfl ?_
                      refine a_getR C fl_X11_35_11 h_0 rfl g_0_4 dX11_years_105 ?_
                      refine a_callV (as := []) (rest := []) C 0 (fun l => c4_peopleAlive l) h_36 ⟨_, _, rfl⟩ (by decide) ml_X11_261 im_X4_peopleAlive se_X4_peopleAlive in_X4 co_X4_peopleAlive (by decide +kernel) rfl ⟨Nat.le_of_ble_eq_true rfl, Nat.le_of_ble_eq_true rfl⟩ (Nat.le_of_ble_eq_true rfl) dX11_years_108 ⟨Nat.le_of_ble_eq_true rfl, Nat.le_of_ble_eq_true rfl⟩ ?_
                      refine ⟨36, _, rfl, (PSx_i36 hX), hK, fun r108 V108 hK => ?_⟩
                      try dsimp only [Option.toList, List.cons_append, List.nil_append]
                      exact a_iret C E dX11_years_111 (Nat.le_refl _) (Nat.le_refl _) (hpost _ _ hK)
                    replace hK := hK.2
                    by_cases q25 : a3 = 1
                    · refine a_tswIn C 1 112 dX11_years_76 (by omega) q23 (by decide) rfl (by decide) ?_
                      replace hK := hK.1 q25
                      refine a_aload_n C dX11_years_112 rfl ?_
                      refine a_getR C fl_X11_35_11 h_0 rfl g_0_4 dX11_years_113 ?_
                      refine a_callV (as := []) (rest := []) C 0 (fun l => c4_moneyOfAll l) h_36 ⟨_, _, rfl⟩ (by decide) ml_X11_264 im_X4_moneyOfAll se_X4_moneyOfAll in_X4 co_X4_moneyOfAll (by decide +kernel) rfl ⟨Nat.le_of_ble_eq_true rfl, Nat.le_of_ble_eq_true rfl⟩ (Nat.le_of_ble_eq_true rfl) dX11_years_116 ⟨Nat.le_of_ble_eq_true rfl, Nat.le_of_ble_eq_true rfl⟩ ?_
                      refine ⟨36, _, rfl, (PSx_i36 hX), hK, fun r116 V116 hK => ?_⟩
                      try dsimp only [Option.toList, List.cons_append, List.nil_append]
                      exact a_iret C E dX11_years_119 (Nat.le_refl _) (Nat.le_refl _) (hpost _ _ hK)
                    replace hK := hK.2
                    by_cases q26 : a3 = 2
                    · refine a_tswIn C 2 120 dX11_years_76 (by omega) q23 (by decide) rfl (by decide) ?_
                      replace hK := hK.1 q26
                      refine a_aload_n C dX11_years_120 rfl ?_
                      refine a_getR C fl_X11_35_11 h_0 rfl g_0_4 dX11_years_121 ?_
                      refine a_callV (as := []) (rest := []) C 0 (fun l => c4_openSides l) h_36 ⟨_, _, rfl⟩ (by decide) ml_X11_267 im_X4_openSides se_X4_openSides in_X4 co_X4_openSides (by decide +kernel) rfl ⟨Nat.le_of_ble_eq_true rfl, Nat.le_of_ble_eq_true rfl⟩ (Nat.le_of_ble_eq_true rfl) dX11_years_124 ⟨Nat.le_of_ble_eq_true rfl, Nat.le_of_ble_eq_true rfl⟩ ?_
                      refine ⟨36, _, rfl, (PSx_i36 hX), hK, fun r124 V124 hK => ?_⟩
                      try dsimp only [Option.toList, List.cons_append, List.nil_append]
                      exact a_iret C E dX11_years_127 (Nat.le_refl _) (Nat.le_refl _) (hpost _ _ hK)
                    replace hK := hK.2
                    have q27 : a3 < 0 ∨ 2 < a3 := by omega
                    refine a_tswOut C 128 dX11_years_76 q23 q27 (by decide) ?_
                    replace hK := hK q27
                    refine a_aload_n C dX11_years_128 rfl ?_
                    refine a_getR C fl_X11_55_11 h_0 rfl g_0_7 dX11_years_129 ?_
                    refine a_getI C fl_X11_255_1 h_52 rfl dX11_years_132 (fun r28 => ?_)
                    exact a_iret C E dX11_years_135 (Nat.le_refl _) (Nat.le_refl _) (hpost _ _ hK)
                  · replace hK := hK.2 q22
                    refine a_aload_n C dX11_years_65 rfl ?_
                    refine a_callV (as := []) (rest := []) C 0 (fun l => c11_liveYear l) h_0 ⟨_, _, rfl⟩ (by decide) ml_X11_258 im_X11_liveYear se_X11_liveYear in_X11 co_X11_liveYear (by decide +kernel) rfl ⟨Nat.le_of_ble_eq_true rfl, Nat.le_of_ble_eq_true rfl⟩ (Nat.le_of_ble_eq_true rfl) dX11_years_66 ⟨Nat.le_of_ble_eq_true rfl, Nat.le_of_ble_eq_true rfl⟩ ?_
                    refine ⟨_, rfl, hX, hK, fun V66 hK => ?_⟩
                    try dsimp only [Option.toList, List.cons_append, List.nil_append]
                    refine a_iinc C dX11_years_69 rfl (Nat.le_of_ble_eq_true rfl) ?_
                    refine a_goto C 59 dX11_years_72 (by decide) ?_
                    exact a_ls (lsub_s rfl (lsub_s rfl (lsub_n (lsub_s rfl (lsub_s rfl lsub_0))))) (ih59 a1 a3 (a4 + 1) _ hK)
              refine a_aload_n C dX11_years_37 rfl ?_
              refine a_getR C fl_X11_35_11 h_0 rfl g_0_4 dX11_years_38 ?_
              refine a_aload_n C dX11_years_41 rfl ?_
              refine a_getR C fl_X11_28_11 h_0 rfl g_0_2 dX11_years_42 ?_
              refine a_callV (as := [zR 14]) (rest := []) C 1 (fun l => c4_copyFrom l) h_36 ⟨_, _, rfl⟩ (by decide) ml_X11_228 im_X4_copyFrom se_X4_copyFrom in_X4 co_X4_copyFrom (by decide +kernel) rfl ⟨Nat.le_of_ble_eq_true rfl, Nat.le_of_ble_eq_true rfl⟩ (Nat.le_of_ble_eq_true rfl) dX11_years_45 ⟨Nat.le_of_ble_eq_true rfl, Nat.le_of_ble_eq_true rfl⟩ ?_
              refine ⟨36, 14, _, rfl, (PSx_i36 hX), (PSx_i14 hX), hK, fun V45 hK => ?_⟩
              try dsimp only [Option.toList, List.cons_append, List.nil_append]
              refine a_aload_n C dX11_years_48 rfl ?_
              refine a_getR C fl_X11_55_11 h_0 rfl g_0_7 dX11_years_49 ?_
              refine a_iload_n C dX11_years_52 rfl ?_
              refine a_putI C fl_X11_255_1 (Or.inl rfl) h_52 rfl dX11_years_53 ⟨q4, fun q => by cases q⟩ ?_
              refine a_iconst C dX11_years_56 ?_
              refine a_istore C dX11_years_57 (Nat.le_of_ble_eq_true rfl) ?_
              obtain ⟨nn29, hK⟩ := hK
              exact a_ls (lsub_s rfl (lsub_s rfl (lsub_n (lsub_s rfl (lsub_s rfl lsub_0))))) (L59 nn29 a1 a3 0 _ hK)
            · replace hK := hK.2 q10
              refine a_bipush C dX11_years_34 (by decide) ?_
              exact a_iret C E dX11_years_36 (Nat.le_refl _) (Nat.le_refl _) (hpost _ _ hK)
          · replace hK := hK.2 q8
            refine a_bipush C dX11_years_24 (by decide) ?_
            exact a_iret C E dX11_years_26 (Nat.le_refl _) (Nat.le_refl _) (hpost _ _ hK)

def m11_image (S : List zC) (V : zV)  (Q : Int → zV → Prop) : Prop :=
  m11_hasList S V (fun r1 V1 => (inR r1) ∧ ((¬ r1 = 0 → m4_copyFrom S 25 14 V1 (fun V18 => m4_struckFeuds S 14 (vset V18 0 8 1) (fun r37 V37 => Q (((vset V18 0 8 1) 3 2) - r37) V37))) ∧ (r1 = 0 → Q (-103) V1)))
def t11_image : zT := fun as S V post => ∃ (Q : Int → zV → Prop), as = [zR 0] ∧ PSx S ∧ m11_image S V Q ∧ (∀ r V2, Q r V2 → post (some (zI r)) S V2)
set_option maxHeartbeats 4000000 in
set_option maxRecDepth 20000 in
theorem c11_image (l : Launch) : zCT l yX11_image cX11_image 1 (some .int) { frames := 2, cells := 0, slots := 0, locals := 82 } t11_image := by
  refine zCT_of (by decide) (fun as S V post h => by obtain ⟨Q, rfl, -⟩ := h; exact Nat.le_of_ble_eq_true rfl) ?_
  intro X S V as post C E hT
  obtain ⟨Q, rfl, hX, hK, hpost⟩ := hT
  obtain ⟨w_0, r_0, h_0, g_0_0, g_0_1, g_0_2, g_0_3, g_0_4, g_0_5, g_0_6, g_0_7⟩ := PSx_0 hX
  obtain ⟨w_25, r_25, h_25, g_25_0, g_25_1, g_25_2, g_25_3, g_25_4, g_25_5, g_25_6, g_25_7, g_25_8, g_25_10, g_25_11⟩ := PSi_o (PSx_i25 hX)
  obtain ⟨w_3, r_3, h_3, g_3_0, g_3_1⟩ := PSl_3 (PSi_l (PSx_i14 hX))
  obtain ⟨w_14, r_14, h_14, g_14_0, g_14_1, g_14_2, g_14_3, g_14_4, g_14_5, g_14_6, g_14_7, g_14_8, g_14_10, g_14_11⟩ := PSi_o (PSx_i14 hX)
  show zW X S V 0 0 [some (zR 0)] [] 0
  unfold m11_image at hK
  refine a_aload_n C dX11_image_0 rfl ?_
  refine a_callV (as := []) (rest := []) C 0 (fun l => c11_hasList l) h_0 ⟨_, _, rfl⟩ (by decide) ml_X11_166 im_X11_hasList se_X11_hasList in_X11 co_X11_hasList (by decide +kernel) rfl ⟨Nat.le_of_ble_eq_true rfl, Nat.le_of_ble_eq_true rfl⟩ (Nat.le_of_ble_eq_true rfl) dX11_image_1 ⟨Nat.le_of_ble_eq_true rfl, Nat.le_of_ble_eq_true rfl⟩ ?_
  refine ⟨_, rfl, hX, hK, fun r1 V1 hK => ?_⟩
  try dsimp only [Option.toList, List.cons_append, List.nil_append]
  obtain ⟨q1, hK⟩ := hK
  refine a_if_ne C 10 dX11_image_4 (by decide) q1 (fun q2 => ?_) (fun q2 => ?_)
  · replace hK := hK.1 q2
    refine a_aload_n C dX11_image_10 rfl ?_
    refine a_getR C fl_X11_32_11 h_0 rfl g_0_3 dX11_image_11 ?_
    refine a_aload_n C dX11_image_14 rfl ?_
    refine a_getR C fl_X11_28_11 h_0 rfl g_0_2 dX11_image_15 ?_
    refine a_callV (as := [zR 14]) (rest := []) C 1 (fun l => c4_copyFrom l) h_25 ⟨_, _, rfl⟩ (by decide) ml_X11_228 im_X4_copyFrom se_X4_copyFrom in_X4 co_X4_copyFrom (by decide +kernel) rfl ⟨Nat.le_of_ble_eq_true rfl, Nat.le_of_ble_eq_true rfl⟩ (Nat.le_of_ble_eq_true rfl) dX11_image_18 ⟨Nat.le_of_ble_eq_true rfl, Nat.le_of_ble_eq_true rfl⟩ ?_
    refine ⟨25, 14, _, rfl, (PSx_i25 hX), (PSx_i14 hX), hK, fun V18 hK => ?_⟩
    try dsimp only [Option.toList, List.cons_append, List.nil_append]
    refine a_aload_n C dX11_image_21 rfl ?_
    refine a_iconst C dX11_image_22 ?_
    refine a_putI C fl_X11_59_11 (Or.inr rfl) h_0 rfl dX11_image_23 ⟨⟨by decide, by decide⟩, fun _ => by decide⟩ ?_
    refine a_aload_n C dX11_image_26 rfl ?_
    refine a_getR C fl_X11_19_11 h_0 rfl g_0_1 dX11_image_27 ?_
    refine a_getI C fl_X11_95_10 h_3 rfl dX11_image_30 (fun r3 => ?_)
    refine a_aload_n C dX11_image_33 rfl ?_
    refine a_getR C fl_X11_28_11 h_0 rfl g_0_2 dX11_image_34 ?_
    refine a_callV (as := []) (rest := [zI ((vset V18 0 8 1) 3 2)]) C 0 (fun l => c4_struckFeuds l) h_14 ⟨_, _, rfl⟩ (by decide) ml_X11_193 im_X4_struckFeuds se_X4_struckFeuds in_X4 co_X4_struckFeuds (by decide +kernel) rfl ⟨Nat.le_of_ble_eq_true rfl, Nat.le_of_ble_eq_true rfl⟩ (Nat.le_of_ble_eq_true rfl) dX11_image_37 ⟨Nat.le_of_ble_eq_true rfl, Nat.le_of_ble_eq_true rfl⟩ ?_
    refine ⟨14, _, rfl, (PSx_i14 hX), hK, fun r37 V37 hK => ?_⟩
    try dsimp only [Option.toList, List.cons_append, List.nil_append]
    refine a_isub C dX11_image_40 ?_
    exact a_iret C E dX11_image_41 (Nat.le_refl _) (Nat.le_refl _) (hpost _ _ hK)
  · replace hK := hK.2 q2
    refine a_bipush C dX11_image_7 (by decide) ?_
    exact a_iret C E dX11_image_9 (Nat.le_refl _) (Nat.le_refl _) (hpost _ _ hK)

def m11_restore (S : List zC) (V : zV)  (Q : Int → zV → Prop) : Prop :=
  ((¬ (V 0 8) = 0 → m4_copyFrom S 14 25 V (fun V18 => m4_struckFeuds S 14 V18 (fun r32 V32 => Q ((V18 3 2) - r32) V32))) ∧ ((V 0 8) = 0 → Q (-103) V))
def t11_restore : zT := fun as S V post => ∃ (Q : Int → zV → Prop), as = [zR 0] ∧ PSx S ∧ m11_restore S V Q ∧ (∀ r V2, Q r V2 → post (some (zI r)) S V2)
set_option maxHeartbeats 4000000 in
set_option maxRecDepth 20000 in
theorem c11_restore (l : Launch) : zCT l yX11_restore cX11_restore 1 (some .int) { frames := 2, cells := 0, slots := 0, locals := 82 } t11_restore := by
  refine zCT_of (by decide) (fun as S V post h => by obtain ⟨Q, rfl, -⟩ := h; exact Nat.le_of_ble_eq_true rfl) ?_
  intro X S V as post C E hT
  obtain ⟨Q, rfl, hX, hK, hpost⟩ := hT
  obtain ⟨w_0, r_0, h_0, g_0_0, g_0_1, g_0_2, g_0_3, g_0_4, g_0_5, g_0_6, g_0_7⟩ := PSx_0 hX
  obtain ⟨w_14, r_14, h_14, g_14_0, g_14_1, g_14_2, g_14_3, g_14_4, g_14_5, g_14_6, g_14_7, g_14_8, g_14_10, g_14_11⟩ := PSi_o (PSx_i14 hX)
  obtain ⟨w_3, r_3, h_3, g_3_0, g_3_1⟩ := PSl_3 (PSi_l (PSx_i14 hX))
  show zW X S V 0 0 [some (zR 0)] [] 0
  unfold m11_restore at hK
  refine a_aload_n C dX11_restore_0 rfl ?_
  refine a_getI C fl_X11_59_11 h_0 rfl dX11_restore_1 (fun r1 => ?_)
  refine a_if_ne C 10 dX11_restore_4 (by decide) r1 (fun q2 => ?_) (fun q2 => ?_)
  · replace hK := hK.1 q2
    refine a_aload_n C dX11_restore_10 rfl ?_
    refine a_getR C fl_X11_28_11 h_0 rfl g_0_2 dX11_restore_11 ?_
    refine a_aload_n C dX11_restore_14 rfl ?_
    refine a_getR C fl_X11_32_11 h_0 rfl g_0_3 dX11_restore_15 ?_
    refine a_callV (as := [zR 25]) (rest := []) C 1 (fun l => c4_copyFrom l) h_14 ⟨_, _, rfl⟩ (by decide) ml_X11_228 im_X4_copyFrom se_X4_copyFrom in_X4 co_X4_copyFrom (by decide +kernel) rfl ⟨Nat.le_of_ble_eq_true rfl, Nat.le_of_ble_eq_true rfl⟩ (Nat.le_of_ble_eq_true rfl) dX11_restore_18 ⟨Nat.le_of_ble_eq_true rfl, Nat.le_of_ble_eq_true rfl⟩ ?_
    refine ⟨14, 25, _, rfl, (PSx_i14 hX), (PSx_i25 hX), hK, fun V18 hK => ?_⟩
    try dsimp only [Option.toList, List.cons_append, List.nil_append]
    refine a_aload_n C dX11_restore_21 rfl ?_
    refine a_getR C fl_X11_19_11 h_0 rfl g_0_1 dX11_restore_22 ?_
    refine a_getI C fl_X11_95_10 h_3 rfl dX11_restore_25 (fun r3 => ?_)
    refine a_aload_n C dX11_restore_28 rfl ?_
    refine a_getR C fl_X11_28_11 h_0 rfl g_0_2 dX11_restore_29 ?_
    refine a_callV (as := []) (rest := [zI (V18 3 2)]) C 0 (fun l => c4_struckFeuds l) h_14 ⟨_, _, rfl⟩ (by decide) ml_X11_193 im_X4_struckFeuds se_X4_struckFeuds in_X4 co_X4_struckFeuds (by decide +kernel) rfl ⟨Nat.le_of_ble_eq_true rfl, Nat.le_of_ble_eq_true rfl⟩ (Nat.le_of_ble_eq_true rfl) dX11_restore_32 ⟨Nat.le_of_ble_eq_true rfl, Nat.le_of_ble_eq_true rfl⟩ ?_
    refine ⟨14, _, rfl, (PSx_i14 hX), hK, fun r32 V32 hK => ?_⟩
    try dsimp only [Option.toList, List.cons_append, List.nil_append]
    refine a_isub C dX11_restore_35 ?_
    exact a_iret C E dX11_restore_36 (Nat.le_refl _) (Nat.le_refl _) (hpost _ _ hK)
  · replace hK := hK.2 q2
    refine a_bipush C dX11_restore_7 (by decide) ?_
    exact a_iret C E dX11_restore_9 (Nat.le_refl _) (Nat.le_refl _) (hpost _ _ hK)

def m11_count (S : List zC) (V : zV) (a1 : Int) (Q : Int → zV → Prop) : Prop :=
  (inR a1) ∧ (a1 = 0 → Q (V 3 2) V) ∧ (a1 = 1 → m4_struckFeuds S 14 V (fun r64 V64 => Q r64 V64)) ∧ (a1 = 2 → m4_peopleAlive S 14 V (fun r72 V72 => Q r72 V72)) ∧ (a1 = 3 → m4_openSides S 14 V (fun r80 V80 => Q r80 V80)) ∧ (a1 = 4 → m4_lentSides S 14 V (fun r88 V88 => Q r88 V88)) ∧ (a1 = 5 → Q (V 14 9) V) ∧ (a1 = 6 → Q (V 14 12) V) ∧ (a1 = 7 → Q (V 1 1) V) ∧ (a1 = 8 → Q (V 0 9) V) ∧ (a1 < 0 ∨ 8 < a1 → Q (-102) V)
def t11_count : zT := fun as S V post => ∃ (a1 : Int) (Q : Int → zV → Prop), as = [zR 0, zI a1] ∧ PSx S ∧ m11_count S V a1 Q ∧ (∀ r V2, Q r V2 → post (some (zI r)) S V2)
set_option maxHeartbeats 4000000 in
set_option maxRecDepth 20000 in
theorem c11_count (l : Launch) : zCT l yX11_count cX11_count 2 (some .int) { frames := 2, cells := 0, slots := 0, locals := 44 } t11_count := by
  refine zCT_of (by decide) (fun as S V post h => by obtain ⟨a1, Q, rfl, -⟩ := h; exact Nat.le_of_ble_eq_true rfl) ?_
  intro X S V as post C E hT
  obtain ⟨a1, Q, rfl, hX, hK, hpost⟩ := hT
  obtain ⟨w_0, r_0, h_0, g_0_0, g_0_1, g_0_2, g_0_3, g_0_4, g_0_5, g_0_6, g_0_7⟩ := PSx_0 hX
  obtain ⟨w_3, r_3, h_3, g_3_0, g_3_1⟩ := PSl_3 (PSi_l (PSx_i14 hX))
  obtain ⟨w_14, r_14, h_14, g_14_0, g_14_1, g_14_2, g_14_3, g_14_4, g_14_5, g_14_6, g_14_7, g_14_8, g_14_10, g_14_11⟩ := PSi_o (PSx_i14 hX)
  obtain ⟨w_1, r_1, h_1, g_1_0⟩ := PSp_1 (PSx_p hX)
  show zW X S V 0 0 [some (zR 0), some (zI a1)] [] 0
  unfold m11_count at hK
  refine a_iload_n C dX11_count_0 rfl ?_
  obtain ⟨q1, hK⟩ := hK
  by_cases q2 : a1 = 0
  · refine a_tswIn C 0 52 dX11_count_1 (by omega) q1 (by decide) rfl (by decide) ?_
    replace hK := hK.1 q2
    refine a_aload_n C dX11_count_52 rfl ?_
    refine a_getR C fl_X11_19_11 h_0 rfl g_0_1 dX11_count_53 ?_
    refine a_getI C fl_X11_95_10 h_3 rfl dX11_count_56 (fun r3 => ?_)
    exact a_iret C E dX11_count_59 (Nat.le_refl _) (Nat.le_refl _) (hpost _ _ hK)
  replace hK := hK.2
  by_cases q4 : a1 = 1
  · refine a_tswIn C 1 60 dX11_count_1 (by omega) q1 (by decide) rfl (by decide) ?_
    replace hK := hK.1 q4
    refine a_aload_n C dX11_count_60 rfl ?_
    refine a_getR C fl_X11_28_11 h_0 rfl g_0_2 dX11_count_61 ?_
    refine a_callV (as := []) (rest := []) C 0 (fun l => c4_struckFeuds l) h_14 ⟨_, _, rfl⟩ (by decide) ml_X11_193 im_X4_struckFeuds se_X4_struckFeuds in_X4 co_X4_struckFeuds (by decide +kernel) rfl ⟨Nat.le_of_ble_eq_true rfl, Nat.le_of_ble_eq_true rfl⟩ (Nat.le_of_ble_eq_true rfl) dX11_count_64 ⟨Nat.le_of_ble_eq_true rfl, Nat.le_of_ble_eq_true rfl⟩ ?_
    refine ⟨14, _, rfl, (PSx_i14 hX), hK, fun r64 V64 hK => ?_⟩
    try dsimp only [Option.toList, List.cons_append, List.nil_append]
    exact a_iret C E dX11_count_67 (Nat.le_refl _) (Nat.le_refl _) (hpost _ _ hK)
  replace hK := hK.2
  by_cases q5 : a1 = 2
  · refine a_tswIn C 2 68 dX11_count_1 (by omega) q1 (by decide) rfl (by decide) ?_
    replace hK := hK.1 q5
    refine a_aload_n C dX11_count_68 rfl ?_
    refine a_getR C fl_X11_28_11 h_0 rfl g_0_2 dX11_count_69 ?_
    refine a_callV (as := []) (rest := []) C 0 (fun l => c4_peopleAlive l) h_14 ⟨_, _, rfl⟩ (by decide) ml_X11_261 im_X4_peopleAlive se_X4_peopleAlive in_X4 co_X4_peopleAlive (by decide +kernel) rfl ⟨Nat.le_of_ble_eq_true rfl, Nat.le_of_ble_eq_true rfl⟩ (Nat.le_of_ble_eq_true rfl) dX11_count_72 ⟨Nat.le_of_ble_eq_true rfl, Nat.le_of_ble_eq_true rfl⟩ ?_
    refine ⟨14, _, rfl, (PSx_i14 hX), hK, fun r72 V72 hK => ?_⟩
    try dsimp only [Option.toList, List.cons_append, List.nil_append]
    exact a_iret C E dX11_count_75 (Nat.le_refl _) (Nat.le_refl _) (hpost _ _ hK)
  replace hK := hK.2
  by_cases q6 : a1 = 3
  · refine a_tswIn C 3 76 dX11_count_1 (by omega) q1 (by decide) rfl (by decide) ?_
    replace hK := hK.1 q6
    refine a_aload_n C dX11_count_76 rfl ?_
    refine a_getR C fl_X11_28_11 h_0 rfl g_0_2 dX11_count_77 ?_
    refine a_callV (as := []) (rest := []) C 0 (fun l => c4_openSides l) h_14 ⟨_, _, rfl⟩ (by decide) ml_X11_267 im_X4_openSides se_X4_openSides in_X4 co_X4_openSides (by decide +kernel) rfl ⟨Nat.le_of_ble_eq_true rfl, Nat.le_of_ble_eq_true rfl⟩ (Nat.le_of_ble_eq_true rfl) dX11_count_80 ⟨Nat.le_of_ble_eq_true rfl, Nat.le_of_ble_eq_true rfl⟩ ?_
    refine ⟨14, _, rfl, (PSx_i14 hX), hK, fun r80 V80 hK => ?_⟩
    try dsimp only [Option.toList, List.cons_append, List.nil_append]
    exact a_iret C E dX11_count_83 (Nat.le_refl _) (Nat.le_refl _) (hpost _ _ hK)
  replace hK := hK.2
  by_cases q7 : a1 = 4
  · refine a_tswIn C 4 84 dX11_count_1 (by omega) q1 (by decide) rfl (by decide) ?_
    replace hK := hK.1 q7
    refine a_aload_n C dX11_count_84 rfl ?_
    refine a_getR C fl_X11_28_11 h_0 rfl g_0_2 dX11_count_85 ?_
    refine a_callV (as := []) (rest := []) C 0 (fun l => c4_lentSides l) h_14 ⟨_, _, rfl⟩ (by decide) ml_X11_270 im_X4_lentSides se_X4_lentSides in_X4 co_X4_lentSides (by decide +kernel) rfl ⟨Nat.le_of_ble_eq_true rfl, Nat.le_of_ble_eq_true rfl⟩ (Nat.le_of_ble_eq_true rfl) dX11_count_88 ⟨Nat.le_of_ble_eq_true rfl, Nat.le_of_ble_eq_true rfl⟩ ?_
    refine ⟨14, _, rfl, (PSx_i14 hX), hK, fun r88 V88 hK => ?_⟩
    try dsimp only [Option.toList, List.cons_append, List.nil_append]
    exact a_iret C E dX11_count_91 (Nat.le_refl _) (Nat.le_refl _) (hpost _ _ hK)
  replace hK := hK.2
  by_cases q8 : a1 = 5
  · refine a_tswIn C 5 92 dX11_count_1 (by omega) q1 (by decide) rfl (by decide) ?_
    replace hK := hK.1 q8
    refine a_aload_n C dX11_count_92 rfl ?_
    refine a_getR C fl_X11_28_11 h_0 rfl g_0_2 dX11_count_93 ?_
    refine a_getI C fl_X11_156_4 h_14 rfl dX11_count_96 (fun r9 => ?_)
    exact a_iret C E dX11_count_99 (Nat.le_refl _) (Nat.le_refl _) (hpost _ _ hK)
  replace hK := hK.2
  by_cases q10 : a1 = 6
  · refine a_tswIn C 6 100 dX11_count_1 (by omega) q1 (by decide) rfl (by decide) ?_
    replace hK := hK.1 q10
    refine a_aload_n C dX11_count_100 rfl ?_
    refine a_getR C fl_X11_28_11 h_0 rfl g_0_2 dX11_count_101 ?_
    refine a_getI C fl_X11_249_4 h_14 rfl dX11_count_104 (fun r11 => ?_)
    exact a_iret C E dX11_count_107 (Nat.le_refl _) (Nat.le_refl _) (hpost _ _ hK)
  replace hK := hK.2
  by_cases q12 : a1 = 7
  · refine a_tswIn C 7 108 dX11_count_1 (by omega) q1 (by decide) rfl (by decide) ?_
    replace hK := hK.1 q12
    refine a_aload_n C dX11_count_108 rfl ?_
    refine a_getR C fl_X11_10_11 h_0 rfl g_0_0 dX11_count_109 ?_
    refine a_getI C fl_X11_71_8 h_1 rfl dX11_count_112 (fun r13 => ?_)
    exact a_iret C E dX11_count_115 (Nat.le_refl _) (Nat.le_refl _) (hpost _ _ hK)
  replace hK := hK.2
  by_cases q14 : a1 = 8
  · refine a_tswIn C 8 116 dX11_count_1 (by omega) q1 (by decide) rfl (by decide) ?_
    replace hK := hK.1 q14
    refine a_aload_n C dX11_count_116 rfl ?_
    refine a_getI C fl_X11_63_11 h_0 rfl dX11_count_117 (fun r15 => ?_)
    exact a_iret C E dX11_count_120 (Nat.le_refl _) (Nat.le_refl _) (hpost _ _ hK)
  replace hK := hK.2
  have q16 : a1 < 0 ∨ 8 < a1 := by omega
  refine a_tswOut C 121 dX11_count_1 q1 q16 (by decide) ?_
  replace hK := hK q16
  refine a_bipush C dX11_count_121 (by decide) ?_
  exact a_iret C E dX11_count_123 (Nat.le_refl _) (Nat.le_refl _) (hpost _ _ hK)

def m11_fold (S : List zC) (V : zV) (a0 : Int) (a2 : Int) (Q : Int → zV → Prop) : Prop :=
  Q ((31 * a0) + a2) V
def t11_fold : zT := fun as S V post => ∃ (a0 : Int) (a2 : Int) (Q : Int → zV → Prop), as = [zJ a0, zJ a2] ∧ m11_fold S V a0 a2 Q ∧ (∀ r V2, Q r V2 → post (some (zJ r)) S V2)
set_option maxHeartbeats 4000000 in
set_option maxRecDepth 20000 in
theorem c11_fold (l : Launch) : zCT l yX11_fold cX11_fold 4 (some .long) { frames := 0, cells := 0, slots := 0, locals := 0 } t11_fold := by
  refine zCT_of (by decide) (fun as S V post h => by obtain ⟨a0, a2, Q, rfl, -⟩ := h; exact Nat.le_of_ble_eq_true rfl) ?_
  intro X S V as post C E hT
  obtain ⟨a0, a2, Q, rfl, hK, hpost⟩ := hT
  show zW X S V 0 0 [some (zJ a0), none, some (zJ a2), none] [] 0
  unfold m11_fold at hK
  refine a_ldc2 C kl_X11_301 dX11_fold_0 ?_
  refine a_lload_n C dX11_fold_3 rfl ?_
  refine a_lmul C dX11_fold_4 ?_
  refine a_lload_n C dX11_fold_5 rfl ?_
  refine a_ladd C dX11_fold_6 ?_
  exact a_lret C E dX11_fold_7 (Nat.le_refl _) (Nat.le_refl _) (hpost _ _ hK)

def m11_foldFeuds_L20 (S : List zC) (k5 : Int → Int → zV → Prop) (Q : Int → zV → Prop) : Nat → Int → Int → Int → zV → Prop
  | 0 => fun _ _ _ _ => False
  | n + 1 => fun a3 a5 a6 V => (inR a6) ∧ ((8 < a6 → k5 a3 (a5 + 1) V) ∧ (a6 ≤ 8 → m11_about S V a5 a6 (fun r33 V33 => (inR r33) ∧ m11_fold S V33 a3 r33 (fun r37 V37 => m11_foldFeuds_L20 S k5 Q n r37 a5 (a6 + 1) V37))))
def m11_foldFeuds_L5 (S : List zC) (Q : Int → zV → Prop) : Nat → Int → Int → zV → Prop
  | 0 => fun _ _ _ => False
  | n + 1 => fun a3 a5 V => (inR a5) ∧ (((V 3 2) ≤ a5 → Q a3 V) ∧ (a5 < (V 3 2) → ∃ nn10, m11_foldFeuds_L20 S (m11_foldFeuds_L5 S Q n) Q nn10 a3 a5 0 V))
def m11_foldFeuds (S : List zC) (V : zV) (a1 : Int) (Q : Int → zV → Prop) : Prop :=
  ∃ nn21, m11_foldFeuds_L5 S Q nn21 a1 0 V
def t11_foldFeuds : zT := fun as S V post => ∃ (a1 : Int) (Q : Int → zV → Prop), as = [zR 0, zJ a1] ∧ PSx S ∧ m11_foldFeuds S V a1 Q ∧ (∀ r V2, Q r V2 → post (some (zJ r)) S V2)
set_option maxHeartbeats 4000000 in
set_option maxRecDepth 20000 in
theorem c11_foldFeuds (l : Launch) : zCT l yX11_foldFeuds cX11_foldFeuds 7 (some .long) { frames := 5, cells := 0, slots := 0, locals := 107 } t11_foldFeuds := by
  refine zCT_of (by decide) (fun as S V post h => by obtain ⟨a1, Q, rfl, -⟩ := h; exact Nat.le_of_ble_eq_true rfl) ?_
  intro X S V as post C E hT
  obtain ⟨a1, Q, rfl, hX, hK, hpost⟩ := hT
  obtain ⟨w_0, r_0, h_0, g_0_0, g_0_1, g_0_2, g_0_3, g_0_4, g_0_5, g_0_6, g_0_7⟩ := PSx_0 hX
  obtain ⟨w_3, r_3, h_3, g_3_0, g_3_1⟩ := PSl_3 (PSi_l (PSx_i14 hX))
  show zW X S V 0 0 [some (zR 0), some (zJ a1), none, none, none, none, none] [] 0
  unfold m11_foldFeuds at hK
  have L5 : ∀ (n : Nat) (a3 : Int) (a5 : Int) (V : zV), m11_foldFeuds_L5 S Q n a3 a5 V → zW X S V 0 0 [some (zR 0), none, none, some (zJ a3), none, some (zI a5), none] [] 5 := by
    intro n5
    induction n5 with
    | zero => intro _ _ _ hK; exact hK.elim
    | succ n5 ih5 =>
      intro a3 a5 V hK
      unfold m11_foldFeuds_L5 at hK
      refine a_iload C dX11_foldFeuds_5 rfl ?_
      refine a_aload_n C dX11_foldFeuds_7 rfl ?_
      refine a_getR C fl_X11_19_11 h_0 rfl g_0_1 dX11_foldFeuds_8 ?_
      refine a_getI C fl_X11_95_10 h_3 rfl dX11_foldFeuds_11 (fun r11 => ?_)
      obtain ⟨q12, hK⟩ := hK
      refine a_icmp_ge C 53 dX11_foldFeuds_14 (by decide) ⟨q12, r11⟩ (fun q13 => ?_) (fun q13 => ?_)
      · replace hK := hK.1 q13
        refine a_lload_n C dX11_foldFeuds_53 rfl ?_
        exact a_lret C E dX11_foldFeuds_54 (Nat.le_refl _) (Nat.le_refl _) (hpost _ _ hK)
      · replace hK := hK.2 q13
        have L20 : ∀ (n : Nat) (a3 : Int) (a5 : Int) (a6 : Int) (V : zV), m11_foldFeuds_L20 S (m11_foldFeuds_L5 S Q n5) Q n a3 a5 a6 V → zW X S V 0 0 [some (zR 0), none, none, some (zJ a3), none, some (zI a5), some (zI a6)] [] 20 := by
          intro n20
          induction n20 with
          | zero => intro _ _ _ _ hK; exact hK.elim
          | succ n20 ih20 =>
            intro a3 a5 a6 V hK
            unfold m11_foldFeuds_L20 at hK
            refine a_iload C dX11_foldFeuds_20 rfl ?_
            refine a_bipush C dX11_foldFeuds_22 (by decide) ?_
            obtain ⟨q17, hK⟩ := hK
            refine a_icmp_gt C 47 dX11_foldFeuds_24 (by decide) ⟨q17, ⟨by decide, by decide⟩⟩ (fun q18 => ?_) (fun q18 => ?_)
            · replace hK := hK.1 q18
              refine a_iinc C dX11_foldFeuds_47 rfl (Nat.le_of_ble_eq_true rfl) ?_
              refine a_goto C 5 dX11_foldFeuds_50 (by decide) ?_
              exact a_ls (lsub_s rfl (lsub_n (lsub_n (lsub_s rfl (lsub_n (lsub_s rfl (lsub_n lsub_0))))))) (ih5 a3 (a5 + 1) _ hK)
            · replace hK := hK.2 q18
              refine a_lload_n C dX11_foldFeuds_27 rfl ?_
              refine a_aload_n C dX11_foldFeuds_28 rfl ?_
              refine a_iload C dX11_foldFeuds_29 rfl ?_
              refine a_iload C dX11_foldFeuds_31 rfl ?_
              refine a_callV (as := [zI a5, zI a6]) (rest := [zJ a3]) C 2 (fun l => c11_about l) h_0 ⟨_, _, rfl⟩ (by decide) ml_X11_303 im_X11_about se_X11_about in_X11 co_X11_about (by decide +kernel) rfl ⟨Nat.le_of_ble_eq_true rfl, Nat.le_of_ble_eq_true rfl⟩ (Nat.le_of_ble_eq_true rfl) dX11_foldFeuds_33 ⟨Nat.le_of_ble_eq_true rfl, Nat.le_of_ble_eq_true rfl⟩ ?_
              refine ⟨a5, a6, _, rfl, hX, hK, fun r33 V33 hK => ?_⟩
              try dsimp only [Option.toList, List.cons_append, List.nil_append]
              obtain ⟨q19, hK⟩ := hK
              refine a_i2l C dX11_foldFeuds_36 q19 ?_
              refine a_callS (as := [zJ a3, zJ r33]) (rest := []) C 2 (fun l => c11_fold l) ml_X11_288 sa_X11_fold in_X11 co_X11_fold (by decide +kernel) rfl ⟨Nat.le_of_ble_eq_true rfl, Nat.le_of_ble_eq_true rfl⟩ (Nat.le_of_ble_eq_true rfl) dX11_foldFeuds_37 ⟨Nat.le_of_ble_eq_true rfl, Nat.le_of_ble_eq_true rfl⟩ ?_
              refine ⟨a3, r33, _, rfl, hK, fun r37 V37 hK => ?_⟩
              try dsimp only [Option.toList, List.cons_append, List.nil_append]
              refine a_lstore_n C dX11_foldFeuds_40 (Nat.le_of_ble_eq_true rfl) ?_
              refine a_eqal (al' := [some (zR 0), none, none, some (zJ r37), none, some (zI a5), some (zI a6)]) rfl ?_
              refine a_iinc C dX11_foldFeuds_41 rfl (Nat.le_of_ble_eq_true rfl) ?_
              refine a_goto C 20 dX11_foldFeuds_44 (by decide) ?_
              exact a_ls (lsub_s rfl (lsub_n (lsub_n (lsub_s rfl (lsub_n (lsub_s rfl (lsub_s rfl lsub_0))))))) (ih20 r37 a5 (a6 + 1) _ hK)
        refine a_iconst C dX11_foldFeuds_17 ?_
        refine a_istore C dX11_foldFeuds_18 (Nat.le_of_ble_eq_true rfl) ?_
        obtain ⟨nn20, hK⟩ := hK
        exact a_ls (lsub_s rfl (lsub_n (lsub_n (lsub_s rfl (lsub_n (lsub_s rfl (lsub_s rfl lsub_0))))))) (L20 nn20 a3 a5 0 _ hK)
  refine a_lload_n C dX11_foldFeuds_0 rfl ?_
  refine a_lstore_n C dX11_foldFeuds_1 (Nat.le_of_ble_eq_true rfl) ?_
  refine a_eqal (al' := [some (zR 0), some (zJ a1), none, some (zJ a1), none, none, none]) rfl ?_
  refine a_iconst C dX11_foldFeuds_2 ?_
  refine a_istore C dX11_foldFeuds_3 (Nat.le_of_ble_eq_true rfl) ?_
  obtain ⟨nn21, hK⟩ := hK
  exact a_ls (lsub_s rfl (lsub_n (lsub_n (lsub_s rfl (lsub_n (lsub_s rfl (lsub_n lsub_0))))))) (L5 nn21 a1 0 _ hK)

def m11_foldHarming_L15 (S : List zC) (k5 : Int → Int → zV → Prop) (Q : Int → zV → Prop) : Nat → Int → Int → Int → zV → Prop
  | 0 => fun _ _ _ _ => False
  | n + 1 => fun a3 a5 a6 V => (inR a6) ∧ ((6 ≤ a6 → k5 a3 (a5 + 1) V) ∧ (a6 < 6 → (inR a5) ∧ ((a5 = a6 → m11_foldHarming_L15 S k5 Q n a3 a5 (a6 + 1) V) ∧ (¬ a5 = a6 → m11_mayHarm S V a5 a6 (fun r35 V35 => (inR r35) ∧ m11_fold S V35 a3 r35 (fun r39 V39 => m11_foldHarming_L15 S k5 Q n r39 a5 (a6 + 1) V39))))))
def m11_foldHarming_L5 (S : List zC) (Q : Int → zV → Prop) : Nat → Int → Int → zV → Prop
  | 0 => fun _ _ _ => False
  | n + 1 => fun a3 a5 V => (inR a5) ∧ ((6 ≤ a5 → Q a3 V) ∧ (a5 < 6 → ∃ nn13, m11_foldHarming_L15 S (m11_foldHarming_L5 S Q n) Q nn13 a3 a5 0 V))
def m11_foldHarming (S : List zC) (V : zV) (a1 : Int) (Q : Int → zV → Prop) : Prop :=
  ∃ nn27, m11_foldHarming_L5 S Q nn27 a1 0 V
def t11_foldHarming : zT := fun as S V post => ∃ (a1 : Int) (Q : Int → zV → Prop), as = [zR 0, zJ a1] ∧ PSx S ∧ m11_foldHarming S V a1 Q ∧ (∀ r V2, Q r V2 → post (some (zJ r)) S V2)
set_option maxHeartbeats 4000000 in
set_option maxRecDepth 20000 in
theorem c11_foldHarming (l : Launch) : zCT l yX11_foldHarming cX11_foldHarming 7 (some .long) { frames := 4, cells := 0, slots := 0, locals := 94 } t11_foldHarming := by
  refine zCT_of (by decide) (fun as S V post h => by obtain ⟨a1, Q, rfl, -⟩ := h; exact Nat.le_of_ble_eq_true rfl) ?_
  intro X S V as post C E hT
  obtain ⟨a1, Q, rfl, hX, hK, hpost⟩ := hT
  obtain ⟨w_0, r_0, h_0, g_0_0, g_0_1, g_0_2, g_0_3, g_0_4, g_0_5, g_0_6, g_0_7⟩ := PSx_0 hX
  show zW X S V 0 0 [some (zR 0), some (zJ a1), none, none, none, none, none] [] 0
  unfold m11_foldHarming at hK
  have L5 : ∀ (n : Nat) (a3 : Int) (a5 : Int) (V : zV), m11_foldHarming_L5 S Q n a3 a5 V → zW X S V 0 0 [some (zR 0), none, none, some (zJ a3), none, some (zI a5), none] [] 5 := by
    intro n5
    induction n5 with
    | zero => intro _ _ _ hK; exact hK.elim
    | succ n5 ih5 =>
      intro a3 a5 V hK
      unfold m11_foldHarming_L5 at hK
      refine a_iload C dX11_foldHarming_5 rfl ?_
      refine a_bipush C dX11_foldHarming_7 (by decide) ?_
      obtain ⟨q14, hK⟩ := hK
      refine a_icmp_ge C 55 dX11_foldHarming_9 (by decide) ⟨q14, ⟨by decide, by decide⟩⟩ (fun q15 => ?_) (fun q15 => ?_)
      · replace hK := hK.1 q15
        refine a_lload_n C dX11_foldHarming_55 rfl ?_
        exact a_lret C E dX11_foldHarming_56 (Nat.le_refl _) (Nat.le_refl _) (hpost _ _ hK)
      · replace hK := hK.2 q15
        have L15 : ∀ (n : Nat) (a3 : Int) (a5 : Int) (a6 : Int) (V : zV), m11_foldHarming_L15 S (m11_foldHarming_L5 S Q n5) Q n a3 a5 a6 V → zW X S V 0 0 [some (zR 0), none, none, some (zJ a3), none, some (zI a5), some (zI a6)] [] 15 := by
          intro n15
          induction n15 with
          | zero => intro _ _ _ _ hK; exact hK.elim
          | succ n15 ih15 =>
            intro a3 a5 a6 V hK
            unfold m11_foldHarming_L15 at hK
            refine a_iload C dX11_foldHarming_15 rfl ?_
            refine a_bipush C dX11_foldHarming_17 (by decide) ?_
            obtain ⟨q21, hK⟩ := hK
            refine a_icmp_ge C 49 dX11_foldHarming_19 (by decide) ⟨q21, ⟨by decide, by decide⟩⟩ (fun q22 => ?_) (fun q22 => ?_)
            · replace hK := hK.1 q22
              refine a_iinc C dX11_foldHarming_49 rfl (Nat.le_of_ble_eq_true rfl) ?_
              refine a_goto C 5 dX11_foldHarming_52 (by decide) ?_
              exact a_ls (lsub_s rfl (lsub_n (lsub_n (lsub_s rfl (lsub_n (lsub_s rfl (lsub_n lsub_0))))))) (ih5 a3 (a5 + 1) _ hK)
            · replace hK := hK.2 q22
              refine a_iload C dX11_foldHarming_22 rfl ?_
              refine a_iload C dX11_foldHarming_24 rfl ?_
              obtain ⟨q23, hK⟩ := hK
              refine a_icmp_eq C 43 dX11_foldHarming_26 (by decide) ⟨q23, q21⟩ (fun q24 => ?_) (fun q24 => ?_)
              · replace hK := hK.1 q24
                refine a_iinc C dX11_foldHarming_43 rfl (Nat.le_of_ble_eq_true rfl) ?_
                refine a_goto C 15 dX11_foldHarming_46 (by decide) ?_
                exact a_ls (lsub_s rfl (lsub_n (lsub_n (lsub_s rfl (lsub_n (lsub_s rfl (lsub_s rfl lsub_0))))))) (ih15 a3 a5 (a6 + 1) _ hK)
              · replace hK := hK.2 q24
                refine a_lload_n C dX11_foldHarming_29 rfl ?_
                refine a_aload_n C dX11_foldHarming_30 rfl ?_
                refine a_iload C dX11_foldHarming_31 rfl ?_
                refine a_iload C dX11_foldHarming_33 rfl ?_
                refine a_callV (as := [zI a5, zI a6]) (rest := [zJ a3]) C 2 (fun l => c11_mayHarm l) h_0 ⟨_, _, rfl⟩ (by decide) ml_X11_309 im_X11_mayHarm se_X11_mayHarm in_X11 co_X11_mayHarm (by decide +kernel) rfl ⟨Nat.le_of_ble_eq_true rfl, Nat.le_of_ble_eq_true rfl⟩ (Nat.le_of_ble_eq_true rfl) dX11_foldHarming_35 ⟨Nat.le_of_ble_eq_true rfl, Nat.le_of_ble_eq_true rfl⟩ ?_
                refine ⟨a5, a6, _, rfl, hX, hK, fun r35 V35 hK => ?_⟩
                try dsimp only [Option.toList, List.cons_append, List.nil_append]
                obtain ⟨q25, hK⟩ := hK
                refine a_i2l C dX11_foldHarming_38 q25 ?_
                refine a_callS (as := [zJ a3, zJ r35]) (rest := []) C 2 (fun l => c11_fold l) ml_X11_288 sa_X11_fold in_X11 co_X11_fold (by decide +kernel) rfl ⟨Nat.le_of_ble_eq_true rfl, Nat.le_of_ble_eq_true rfl⟩ (Nat.le_of_ble_eq_true rfl) dX11_foldHarming_39 ⟨Nat.le_of_ble_eq_true rfl, Nat.le_of_ble_eq_true rfl⟩ ?_
                refine ⟨a3, r35, _, rfl, hK, fun r39 V39 hK => ?_⟩
                try dsimp only [Option.toList, List.cons_append, List.nil_append]
                refine a_lstore_n C dX11_foldHarming_42 (Nat.le_of_ble_eq_true rfl) ?_
                refine a_eqal (al' := [some (zR 0), none, none, some (zJ r39), none, some (zI a5), some (zI a6)]) rfl ?_
                refine a_iinc C dX11_foldHarming_43 rfl (Nat.le_of_ble_eq_true rfl) ?_
                refine a_goto C 15 dX11_foldHarming_46 (by decide) ?_
                exact a_ls (lsub_s rfl (lsub_n (lsub_n (lsub_s rfl (lsub_n (lsub_s rfl (lsub_s rfl lsub_0))))))) (ih15 r39 a5 (a6 + 1) _ hK)
        refine a_iconst C dX11_foldHarming_12 ?_
        refine a_istore C dX11_foldHarming_13 (Nat.le_of_ble_eq_true rfl) ?_
        obtain ⟨nn26, hK⟩ := hK
        exact a_ls (lsub_s rfl (lsub_n (lsub_n (lsub_s rfl (lsub_n (lsub_s rfl (lsub_s rfl lsub_0))))))) (L15 nn26 a3 a5 0 _ hK)
  refine a_lload_n C dX11_foldHarming_0 rfl ?_
  refine a_lstore_n C dX11_foldHarming_1 (Nat.le_of_ble_eq_true rfl) ?_
  refine a_eqal (al' := [some (zR 0), some (zJ a1), none, some (zJ a1), none, none, none]) rfl ?_
  refine a_iconst C dX11_foldHarming_2 ?_
  refine a_istore C dX11_foldHarming_3 (Nat.le_of_ble_eq_true rfl) ?_
  obtain ⟨nn27, hK⟩ := hK
  exact a_ls (lsub_s rfl (lsub_n (lsub_n (lsub_s rfl (lsub_n (lsub_s rfl (lsub_n lsub_0))))))) (L5 nn27 a1 0 _ hK)

def m11_foldPeople_L15 (S : List zC) (k5 : Int → Int → zV → Prop) (Q : Int → zV → Prop) : Nat → Int → Int → Int → zV → Prop
  | 0 => fun _ _ _ _ => False
  | n + 1 => fun a3 a5 a6 V => (inR a6) ∧ ((5 < a6 → k5 a3 (a5 + 1) V) ∧ (a6 ≤ 5 → m11_person S V a5 a6 (fun r27 V27 => (inR r27) ∧ m11_fold S V27 a3 r27 (fun r31 V31 => m11_foldPeople_L15 S k5 Q n r31 a5 (a6 + 1) V31))))
def m11_foldPeople_L5 (S : List zC) (Q : Int → zV → Prop) : Nat → Int → Int → zV → Prop
  | 0 => fun _ _ _ => False
  | n + 1 => fun a3 a5 V => (inR a5) ∧ ((6 ≤ a5 → Q a3 V) ∧ (a5 < 6 → ∃ nn9, m11_foldPeople_L15 S (m11_foldPeople_L5 S Q n) Q nn9 a3 a5 0 V))
def m11_foldPeople (S : List zC) (V : zV) (a1 : Int) (Q : Int → zV → Prop) : Prop :=
  ∃ nn19, m11_foldPeople_L5 S Q nn19 a1 0 V
def t11_foldPeople : zT := fun as S V post => ∃ (a1 : Int) (Q : Int → zV → Prop), as = [zR 0, zJ a1] ∧ PSx S ∧ m11_foldPeople S V a1 Q ∧ (∀ r V2, Q r V2 → post (some (zJ r)) S V2)
set_option maxHeartbeats 4000000 in
set_option maxRecDepth 20000 in
theorem c11_foldPeople (l : Launch) : zCT l yX11_foldPeople cX11_foldPeople 7 (some .long) { frames := 3, cells := 0, slots := 0, locals := 69 } t11_foldPeople := by
  refine zCT_of (by decide) (fun as S V post h => by obtain ⟨a1, Q, rfl, -⟩ := h; exact Nat.le_of_ble_eq_true rfl) ?_
  intro X S V as post C E hT
  obtain ⟨a1, Q, rfl, hX, hK, hpost⟩ := hT
  obtain ⟨w_0, r_0, h_0, g_0_0, g_0_1, g_0_2, g_0_3, g_0_4, g_0_5, g_0_6, g_0_7⟩ := PSx_0 hX
  show zW X S V 0 0 [some (zR 0), some (zJ a1), none, none, none, none, none] [] 0
  unfold m11_foldPeople at hK
  have L5 : ∀ (n : Nat) (a3 : Int) (a5 : Int) (V : zV), m11_foldPeople_L5 S Q n a3 a5 V → zW X S V 0 0 [some (zR 0), none, none, some (zJ a3), none, some (zI a5), none] [] 5 := by
    intro n5
    induction n5 with
    | zero => intro _ _ _ hK; exact hK.elim
    | succ n5 ih5 =>
      intro a3 a5 V hK
      unfold m11_foldPeople_L5 at hK
      refine a_iload C dX11_foldPeople_5 rfl ?_
      refine a_bipush C dX11_foldPeople_7 (by decide) ?_
      obtain ⟨q10, hK⟩ := hK
      refine a_icmp_ge C 47 dX11_foldPeople_9 (by decide) ⟨q10, ⟨by decide, by decide⟩⟩ (fun q11 => ?_) (fun q11 => ?_)
      · replace hK := hK.1 q11
        refine a_lload_n C dX11_foldPeople_47 rfl ?_
        exact a_lret C E dX11_foldPeople_48 (Nat.le_refl _) (Nat.le_refl _) (hpost _ _ hK)
      · replace hK := hK.2 q11
        have L15 : ∀ (n : Nat) (a3 : Int) (a5 : Int) (a6 : Int) (V : zV), m11_foldPeople_L15 S (m11_foldPeople_L5 S Q n5) Q n a3 a5 a6 V → zW X S V 0 0 [some (zR 0), none, none, some (zJ a3), none, some (zI a5), some (zI a6)] [] 15 := by
          intro n15
          induction n15 with
          | zero => intro _ _ _ _ hK; exact hK.elim
          | succ n15 ih15 =>
            intro a3 a5 a6 V hK
            unfold m11_foldPeople_L15 at hK
            refine a_iload C dX11_foldPeople_15 rfl ?_
            refine a_iconst C dX11_foldPeople_17 ?_
            obtain ⟨q15, hK⟩ := hK
            refine a_icmp_gt C 41 dX11_foldPeople_18 (by decide) ⟨q15, ⟨by decide, by decide⟩⟩ (fun q16 => ?_) (fun q16 => ?_)
            · replace hK := hK.1 q16
              refine a_iinc C dX11_foldPeople_41 rfl (Nat.le_of_ble_eq_true rfl) ?_
              refine a_goto C 5 dX11_foldPeople_44 (by decide) ?_
              exact a_ls (lsub_s rfl (lsub_n (lsub_n (lsub_s rfl (lsub_n (lsub_s rfl (lsub_n lsub_0))))))) (ih5 a3 (a5 + 1) _ hK)
            · replace hK := hK.2 q16
              refine a_lload_n C dX11_foldPeople_21 rfl ?_
              refine a_aload_n C dX11_foldPeople_22 rfl ?_
              refine a_iload C dX11_foldPeople_23 rfl ?_
              refine a_iload C dX11_foldPeople_25 rfl ?_
              refine a_callV (as := [zI a5, zI a6]) (rest := [zJ a3]) C 2 (fun l => c11_person l) h_0 ⟨_, _, rfl⟩ (by decide) ml_X11_306 im_X11_person se_X11_person in_X11 co_X11_person (by decide +kernel) rfl ⟨Nat.le_of_ble_eq_true rfl, Nat.le_of_ble_eq_true rfl⟩ (Nat.le_of_ble_eq_true rfl) dX11_foldPeople_27 ⟨Nat.le_of_ble_eq_true rfl, Nat.le_of_ble_eq_true rfl⟩ ?_
              refine ⟨a5, a6, _, rfl, hX, hK, fun r27 V27 hK => ?_⟩
              try dsimp only [Option.toList, List.cons_append, List.nil_append]
              obtain ⟨q17, hK⟩ := hK
              refine a_i2l C dX11_foldPeople_30 q17 ?_
              refine a_callS (as := [zJ a3, zJ r27]) (rest := []) C 2 (fun l => c11_fold l) ml_X11_288 sa_X11_fold in_X11 co_X11_fold (by decide +kernel) rfl ⟨Nat.le_of_ble_eq_true rfl, Nat.le_of_ble_eq_true rfl⟩ (Nat.le_of_ble_eq_true rfl) dX11_foldPeople_31 ⟨Nat.le_of_ble_eq_true rfl, Nat.le_of_ble_eq_true rfl⟩ ?_
              refine ⟨a3, r27, _, rfl, hK, fun r31 V31 hK => ?_⟩
              try dsimp only [Option.toList, List.cons_append, List.nil_append]
              refine a_lstore_n C dX11_foldPeople_34 (Nat.le_of_ble_eq_true rfl) ?_
              refine a_eqal (al' := [some (zR 0), none, none, some (zJ r31), none, some (zI a5), some (zI a6)]) rfl ?_
              refine a_iinc C dX11_foldPeople_35 rfl (Nat.le_of_ble_eq_true rfl) ?_
              refine a_goto C 15 dX11_foldPeople_38 (by decide) ?_
              exact a_ls (lsub_s rfl (lsub_n (lsub_n (lsub_s rfl (lsub_n (lsub_s rfl (lsub_s rfl lsub_0))))))) (ih15 r31 a5 (a6 + 1) _ hK)
        refine a_iconst C dX11_foldPeople_12 ?_
        refine a_istore C dX11_foldPeople_13 (Nat.le_of_ble_eq_true rfl) ?_
        obtain ⟨nn18, hK⟩ := hK
        exact a_ls (lsub_s rfl (lsub_n (lsub_n (lsub_s rfl (lsub_n (lsub_s rfl (lsub_s rfl lsub_0))))))) (L15 nn18 a3 a5 0 _ hK)
  refine a_lload_n C dX11_foldPeople_0 rfl ?_
  refine a_lstore_n C dX11_foldPeople_1 (Nat.le_of_ble_eq_true rfl) ?_
  refine a_eqal (al' := [some (zR 0), some (zJ a1), none, some (zJ a1), none, none, none]) rfl ?_
  refine a_iconst C dX11_foldPeople_2 ?_
  refine a_istore C dX11_foldPeople_3 (Nat.le_of_ble_eq_true rfl) ?_
  obtain ⟨nn19, hK⟩ := hK
  exact a_ls (lsub_s rfl (lsub_n (lsub_n (lsub_s rfl (lsub_n (lsub_s rfl (lsub_n lsub_0))))))) (L5 nn19 a1 0 _ hK)

def m11_digest_L106 (S : List zC) (Q : Int → zV → Prop) : Nat → Int → Int → zV → Prop
  | 0 => fun _ _ _ => False
  | n + 1 => fun a1 a3 V => (inR a3) ∧ ((8 < a3 → Q a1 V) ∧ (a3 ≤ 8 → m11_count S V a3 (fun r115 V115 => (inR r115) ∧ m11_fold S V115 a1 r115 (fun r119 V119 => m11_digest_L106 S Q n r119 (a3 + 1) V119))))
def m11_digest_L73 (S : List zC) (Q : Int → zV → Prop) : Nat → Int → Int → zV → Prop
  | 0 => fun _ _ _ => False
  | n + 1 => fun a1 a3 V => (inR a3) ∧ (((V 1 1) ≤ a3 → ∃ nn12, m11_digest_L106 S Q nn12 a1 0 V) ∧ (a3 < (V 1 1) → m8_codeAt V a3 (fun r90 V90 => (inR r90) ∧ m11_fold S V90 a1 r90 (fun r94 V94 => m11_digest_L73 S Q n r94 (a3 + 1) V94))))
def m11_digest (S : List zC) (V : zV)  (Q : Int → zV → Prop) : Prop :=
  m11_foldFeuds S V 751 (fun r4 V4 => m11_foldPeople S V4 r4 (fun r10 V10 => m11_foldHarming S V10 r10 (fun r16 V16 => m11_hasList S V16 (fun r21 V21 => (inR r21) ∧ ((r21 = 0 → ∃ nn25, m11_digest_L73 S Q nn25 r16 0 V21) ∧ (¬ r21 = 0 → m11_marry S V21 0 (fun r30 V30 => (inR r30) ∧ m11_fold S V30 r16 r30 (fun r34 V34 => m11_marry S V34 1 (fun r41 V41 => (inR r41) ∧ m11_fold S V41 r34 r41 (fun r45 V45 => m11_lapsed S V45 0 (fun r52 V52 => (inR r52) ∧ m11_fold S V52 r45 r52 (fun r56 V56 => m11_lapsed S V56 1 (fun r63 V63 => (inR r63) ∧ m11_fold S V63 r56 r63 (fun r67 V67 => ∃ nn52, m11_digest_L73 S Q nn52 r67 0 V67))))))))))))))
def t11_digest : zT := fun as S V post => ∃ (Q : Int → zV → Prop), as = [zR 0] ∧ PSx S ∧ m11_digest S V Q ∧ (∀ r V2, Q r V2 → post (some (zJ r)) S V2)
set_option maxHeartbeats 4000000 in
set_option maxRecDepth 20000 in
theorem c11_digest (l : Launch) : zCT l yX11_digest cX11_digest 4 (some .long) { frames := 6, cells := 0, slots := 0, locals := 139 } t11_digest := by
  refine zCT_of (by decide) (fun as S V post h => by obtain ⟨Q, rfl, -⟩ := h; exact Nat.le_of_ble_eq_true rfl) ?_
  intro X S V as post C E hT
  obtain ⟨Q, rfl, hX, hK, hpost⟩ := hT
  obtain ⟨w_0, r_0, h_0, g_0_0, g_0_1, g_0_2, g_0_3, g_0_4, g_0_5, g_0_6, g_0_7⟩ := PSx_0 hX
  obtain ⟨w_1, r_1, h_1, g_1_0⟩ := PSp_1 (PSx_p hX)
  show zW X S V 0 0 [some (zR 0), none, none, none] [] 0
  unfold m11_digest at hK
  refine a_aload_n C dX11_digest_0 rfl ?_
  refine a_ldc2 C kl_X11_273 dX11_digest_1 ?_
  refine a_callV (as := [zJ 751]) (rest := []) C 1 (fun l => c11_foldFeuds l) h_0 ⟨_, _, rfl⟩ (by decide) ml_X11_275 im_X11_foldFeuds se_X11_foldFeuds in_X11 co_X11_foldFeuds (by decide +kernel) rfl ⟨Nat.le_of_ble_eq_true rfl, Nat.le_of_ble_eq_true rfl⟩ (Nat.le_of_ble_eq_true rfl) dX11_digest_4 ⟨Nat.le_of_ble_eq_true rfl, Nat.le_of_ble_eq_true rfl⟩ ?_
  refine ⟨751, _, rfl, hX, hK, fun r4 V4 hK => ?_⟩
  try dsimp only [Option.toList, List.cons_append, List.nil_append]
  refine a_lstore_n C dX11_digest_7 (Nat.le_of_ble_eq_true rfl) ?_
  refine a_eqal (al' := [some (zR 0), some (zJ r4), none, none]) rfl ?_
  refine a_aload_n C dX11_digest_8 rfl ?_
  refine a_lload_n C dX11_digest_9 rfl ?_
  refine a_callV (as := [zJ r4]) (rest := []) C 1 (fun l => c11_foldPeople l) h_0 ⟨_, _, rfl⟩ (by decide) ml_X11_279 im_X11_foldPeople se_X11_foldPeople in_X11 co_X11_foldPeople (by decide +kernel) rfl ⟨Nat.le_of_ble_eq_true rfl, Nat.le_of_ble_eq_true rfl⟩ (Nat.le_of_ble_eq_true rfl) dX11_digest_10 ⟨Nat.le_of_ble_eq_true rfl, Nat.le_of_ble_eq_true rfl⟩ ?_
  refine ⟨r4, _, rfl, hX, hK, fun r10 V10 hK => ?_⟩
  try dsimp only [Option.toList, List.cons_append, List.nil_append]
  refine a_lstore_n C dX11_digest_13 (Nat.le_of_ble_eq_true rfl) ?_
  refine a_eqal (al' := [some (zR 0), some (zJ r10), none, none]) rfl ?_
  refine a_aload_n C dX11_digest_14 rfl ?_
  refine a_lload_n C dX11_digest_15 rfl ?_
  refine a_callV (as := [zJ r10]) (rest := []) C 1 (fun l => c11_foldHarming l) h_0 ⟨_, _, rfl⟩ (by decide) ml_X11_282 im_X11_foldHarming se_X11_foldHarming in_X11 co_X11_foldHarming (by decide +kernel) rfl ⟨Nat.le_of_ble_eq_true rfl, Nat.le_of_ble_eq_true rfl⟩ (Nat.le_of_ble_eq_true rfl) dX11_digest_16 ⟨Nat.le_of_ble_eq_true rfl, Nat.le_of_ble_eq_true rfl⟩ ?_
  refine ⟨r10, _, rfl, hX, hK, fun r16 V16 hK => ?_⟩
  try dsimp only [Option.toList, List.cons_append, List.nil_append]
  refine a_lstore_n C dX11_digest_19 (Nat.le_of_ble_eq_true rfl) ?_
  refine a_eqal (al' := [some (zR 0), some (zJ r16), none, none]) rfl ?_
  refine a_aload_n C dX11_digest_20 rfl ?_
  refine a_callV (as := []) (rest := []) C 0 (fun l => c11_hasList l) h_0 ⟨_, _, rfl⟩ (by decide) ml_X11_166 im_X11_hasList se_X11_hasList in_X11 co_X11_hasList (by decide +kernel) rfl ⟨Nat.le_of_ble_eq_true rfl, Nat.le_of_ble_eq_true rfl⟩ (Nat.le_of_ble_eq_true rfl) dX11_digest_21 ⟨Nat.le_of_ble_eq_true rfl, Nat.le_of_ble_eq_true rfl⟩ ?_
  refine ⟨_, rfl, hX, hK, fun r21 V21 hK => ?_⟩
  try dsimp only [Option.toList, List.cons_append, List.nil_append]
  obtain ⟨q1, hK⟩ := hK
  refine a_if_eq C 71 dX11_digest_24 (by decide) q1 (fun q2 => ?_) (fun q2 => ?_)
  · replace hK := hK.1 q2
    have L73 : ∀ (n : Nat) (a1 : Int) (a3 : Int) (V : zV), m11_digest_L73 S Q n a1 a3 V → zW X S V 0 0 [some (zR 0), some (zJ a1), none, some (zI a3)] [] 73 := by
      intro n73
      induction n73 with
      | zero => intro _ _ _ hK; exact hK.elim
      | succ n73 ih73 =>
        intro a1 a3 V hK
        unfold m11_digest_L73 at hK
        refine a_iload_n C dX11_digest_73 rfl ?_
        refine a_aload_n C dX11_digest_74 rfl ?_
        refine a_getR C fl_X11_10_11 h_0 rfl g_0_0 dX11_digest_75 ?_
        refine a_getI C fl_X11_71_8 h_1 rfl dX11_digest_78 (fun r14 => ?_)
        obtain ⟨q15, hK⟩ := hK
        refine a_icmp_ge C 104 dX11_digest_81 (by decide) ⟨q15, r14⟩ (fun q16 => ?_) (fun q16 => ?_)
        · replace hK := hK.1 q16
          have L106 : ∀ (n : Nat) (a1 : Int) (a3 : Int) (V : zV), m11_digest_L106 S Q n a1 a3 V → zW X S V 0 0 [some (zR 0), some (zJ a1), none, some (zI a3)] [] 106 := by
            intro n106
            induction n106 with
            | zero => intro _ _ _ hK; exact hK.elim
            | succ n106 ih106 =>
              intro a1 a3 V hK
              unfold m11_digest_L106 at hK
              refine a_iload_n C dX11_digest_106 rfl ?_
              refine a_bipush C dX11_digest_107 (by decide) ?_
              obtain ⟨q20, hK⟩ := hK
              refine a_icmp_gt C 129 dX11_digest_109 (by decide) ⟨q20, ⟨by decide, by decide⟩⟩ (fun q21 => ?_) (fun q21 => ?_)
              · replace hK := hK.1 q21
                refine a_lload_n C dX11_digest_129 rfl ?_
                exact a_lret C E dX11_digest_130 (Nat.le_refl _) (Nat.le_refl _) (hpost _ _ hK)
              · replace hK := hK.2 q21
                refine a_lload_n C dX11_digest_112 rfl ?_
                refine a_aload_n C dX11_digest_113 rfl ?_
                refine a_iload_n C dX11_digest_114 rfl ?_
                refine a_callV (as := [zI a3]) (rest := [zJ a1]) C 1 (fun l => c11_count l) h_0 ⟨_, _, rfl⟩ (by decide) ml_X11_298 im_X11_count se_X11_count in_X11 co_X11_count (by decide +kernel) rfl ⟨Nat.le_of_ble_eq_true rfl, Nat.le_of_ble_eq_true rfl⟩ (Nat.le_of_ble_eq_true rfl) dX11_digest_115 ⟨Nat.le_of_ble_eq_true rfl, Nat.le_of_ble_eq_true rfl⟩ ?_
                refine ⟨a3, _, rfl, hX, hK, fun r115 V115 hK => ?_⟩
                try dsimp only [Option.toList, List.cons_append, List.nil_append]
                obtain ⟨q22, hK⟩ := hK
                refine a_i2l C dX11_digest_118 q22 ?_
                refine a_callS (as := [zJ a1, zJ r115]) (rest := []) C 2 (fun l => c11_fold l) ml_X11_288 sa_X11_fold in_X11 co_X11_fold (by decide +kernel) rfl ⟨Nat.le_of_ble_eq_true rfl, Nat.le_of_ble_eq_true rfl⟩ (Nat.le_of_ble_eq_true rfl) dX11_digest_119 ⟨Nat.le_of_ble_eq_true rfl, Nat.le_of_ble_eq_true rfl⟩ ?_
                refine ⟨a1, r115, _, rfl, hK, fun r119 V119 hK => ?_⟩
                try dsimp only [Option.toList, List.cons_append, List.nil_append]
                refine a_lstore_n C dX11_digest_122 (Nat.le_of_ble_eq_true rfl) ?_
                refine a_eqal (al' := [some (zR 0), some (zJ r119), none, some (zI a3)]) rfl ?_
                refine a_iinc C dX11_digest_123 rfl (Nat.le_of_ble_eq_true rfl) ?_
                refine a_goto C 106 dX11_digest_126 (by decide) ?_
                exact a_ls (lsub_s rfl (lsub_s rfl (lsub_n (lsub_s rfl lsub_0)))) (ih106 r119 (a3 + 1) _ hK)
          refine a_iconst C dX11_digest_104 ?_
          refine a_istore_n C dX11_digest_105 (Nat.le_of_ble_eq_true rfl) ?_
          obtain ⟨nn23, hK⟩ := hK
          exact a_ls (lsub_s rfl (lsub_s rfl (lsub_n (lsub_s rfl lsub_0)))) (L106 nn23 a1 0 _ hK)
        · replace hK := hK.2 q16
          refine a_lload_n C dX11_digest_84 rfl ?_
          refine a_aload_n C dX11_digest_85 rfl ?_
          refine a_getR C fl_X11_10_11 h_0 rfl g_0_0 dX11_digest_86 ?_
          refine a_iload_n C dX11_digest_89 rfl ?_
          refine a_callV (as := [zI a3]) (rest := [zJ a1]) C 1 (fun l => c8_codeAt l) h_1 ⟨_, _, rfl⟩ (by decide) ml_X11_295 im_X8_codeAt se_X8_codeAt in_X8 co_X8_codeAt (by decide +kernel) rfl ⟨Nat.le_of_ble_eq_true rfl, Nat.le_of_ble_eq_true rfl⟩ (Nat.le_of_ble_eq_true rfl) dX11_digest_90 ⟨Nat.le_of_ble_eq_true rfl, Nat.le_of_ble_eq_true rfl⟩ ?_
          refine ⟨a3, _, rfl, (PSx_p hX), hK, fun r90 V90 hK => ?_⟩
          try dsimp only [Option.toList, List.cons_append, List.nil_append]
          obtain ⟨q24, hK⟩ := hK
          refine a_i2l C dX11_digest_93 q24 ?_
          refine a_callS (as := [zJ a1, zJ r90]) (rest := []) C 2 (fun l => c11_fold l) ml_X11_288 sa_X11_fold in_X11 co_X11_fold (by decide +kernel) rfl ⟨Nat.le_of_ble_eq_true rfl, Nat.le_of_ble_eq_true rfl⟩ (Nat.le_of_ble_eq_true rfl) dX11_digest_94 ⟨Nat.le_of_ble_eq_true rfl, Nat.le_of_ble_eq_true rfl⟩ ?_
          refine ⟨a1, r90, _, rfl, hK, fun r94 V94 hK => ?_⟩
          try dsimp only [Option.toList, List.cons_append, List.nil_append]
          refine a_lstore_n C dX11_digest_97 (Nat.le_of_ble_eq_true rfl) ?_
          refine a_eqal (al' := [some (zR 0), some (zJ r94), none, some (zI a3)]) rfl ?_
          refine a_iinc C dX11_digest_98 rfl (Nat.le_of_ble_eq_true rfl) ?_
          refine a_goto C 73 dX11_digest_101 (by decide) ?_
          exact a_ls (lsub_s rfl (lsub_s rfl (lsub_n (lsub_s rfl lsub_0)))) (ih73 r94 (a3 + 1) _ hK)
    refine a_iconst C dX11_digest_71 ?_
    refine a_istore_n C dX11_digest_72 (Nat.le_of_ble_eq_true rfl) ?_
    obtain ⟨nn25, hK⟩ := hK
    exact a_ls (lsub_s rfl (lsub_s rfl (lsub_n (lsub_s rfl lsub_0)))) (L73 nn25 r16 0 _ hK)
  · replace hK := hK.2 q2
    refine a_lload_n C dX11_digest_27 rfl ?_
    refine a_aload_n C dX11_digest_28 rfl ?_
    refine a_iconst C dX11_digest_29 ?_
    refine a_callV (as := [zI 0]) (rest := [zJ r16]) C 1 (fun l => c11_marry l) h_0 ⟨_, _, rfl⟩ (by decide) ml_X11_285 im_X11_marry se_X11_marry in_X11 co_X11_marry (by decide +kernel) rfl ⟨Nat.le_of_ble_eq_true rfl, Nat.le_of_ble_eq_true rfl⟩ (Nat.le_of_ble_eq_true rfl) dX11_digest_30 ⟨Nat.le_of_ble_eq_true rfl, Nat.le_of_ble_eq_true rfl⟩ ?_
    refine ⟨0, _, rfl, hX, hK, fun r30 V30 hK => ?_⟩
    try dsimp only [Option.toList, List.cons_append, List.nil_append]
    obtain ⟨q26, hK⟩ := hK
    refine a_i2l C dX11_digest_33 q26 ?_
    refine a_callS (as := [zJ r16, zJ r30]) (rest := []) C 2 (fun l => c11_fold l) ml_X11_288 sa_X11_fold in_X11 co_X11_fold (by decide +kernel) rfl ⟨Nat.le_of_ble_eq_true rfl, Nat.le_of_ble_eq_true rfl⟩ (Nat.le_of_ble_eq_true rfl) dX11_digest_34 ⟨Nat.le_of_ble_eq_true rfl, Nat.le_of_ble_eq_true rfl⟩ ?_
    refine ⟨r16, r30, _, rfl, hK, fun r34 V34 hK => ?_⟩
    try dsimp only [Option.toList, List.cons_append, List.nil_append]
    refine a_lstore_n C dX11_digest_37 (Nat.le_of_ble_eq_true rfl) ?_
    refine a_eqal (al' := [some (zR 0), some (zJ r34), none, none]) rfl ?_
    refine a_lload_n C dX11_digest_38 rfl ?_
    refine a_aload_n C dX11_digest_39 rfl ?_
    refine a_iconst C dX11_digest_40 ?_
    refine a_callV (as := [zI 1]) (rest := [zJ r34]) C 1 (fun l => c11_marry l) h_0 ⟨_, _, rfl⟩ (by decide) ml_X11_285 im_X11_marry se_X11_marry in_X11 co_X11_marry (by decide +kernel) rfl ⟨Nat.le_of_ble_eq_true rfl, Nat.le_of_ble_eq_true rfl⟩ (Nat.le_of_ble_eq_true rfl) dX11_digest_41 ⟨Nat.le_of_ble_eq_true rfl, Nat.le_of_ble_eq_true rfl⟩ ?_
    refine ⟨1, _, rfl, hX, hK, fun r41 V41 hK => ?_⟩
    try dsimp only [Option.toList, List.cons_append, List.nil_append]
    obtain ⟨q27, hK⟩ := hK
    refine a_i2l C dX11_digest_44 q27 ?_
    refine a_callS (as := [zJ r34, zJ r41]) (rest := []) C 2 (fun l => c11_fold l) ml_X11_288 sa_X11_fold in_X11 co_X11_fold (by decide +kernel) rfl ⟨Nat.le_of_ble_eq_true rfl, Nat.le_of_ble_eq_true rfl⟩ (Nat.le_of_ble_eq_true rfl) dX11_digest_45 ⟨Nat.le_of_ble_eq_true rfl, Nat.le_of_ble_eq_true rfl⟩ ?_
    refine ⟨r34, r41, _, rfl, hK, fun r45 V45 hK => ?_⟩
    try dsimp only [Option.toList, List.cons_append, List.nil_append]
    refine a_lstore_n C dX11_digest_48 (Nat.le_of_ble_eq_true rfl) ?_
    refine a_eqal (al' := [some (zR 0), some (zJ r45), none, none]) rfl ?_
    refine a_lload_n C dX11_digest_49 rfl ?_
    refine a_aload_n C dX11_digest_50 rfl ?_
    refine a_iconst C dX11_digest_51 ?_
    refine a_callV (as := [zI 0]) (rest := [zJ r45]) C 1 (fun l => c11_lapsed l) h_0 ⟨_, _, rfl⟩ (by decide) ml_X11_292 im_X11_lapsed se_X11_lapsed in_X11 co_X11_lapsed (by decide +kernel) rfl ⟨Nat.le_of_ble_eq_true rfl, Nat.le_of_ble_eq_true rfl⟩ (Nat.le_of_ble_eq_true rfl) dX11_digest_52 ⟨Nat.le_of_ble_eq_true rfl, Nat.le_of_ble_eq_true rfl⟩ ?_
    refine ⟨0, _, rfl, hX, hK, fun r52 V52 hK => ?_⟩
    try dsimp only [Option.toList, List.cons_append, List.nil_append]
    obtain ⟨q28, hK⟩ := hK
    refine a_i2l C dX11_digest_55 q28 ?_
    refine a_callS (as := [zJ r45, zJ r52]) (rest := []) C 2 (fun l => c11_fold l) ml_X11_288 sa_X11_fold in_X11 co_X11_fold (by decide +kernel) rfl ⟨Nat.le_of_ble_eq_true rfl, Nat.le_of_ble_eq_true rfl⟩ (Nat.le_of_ble_eq_true rfl) dX11_digest_56 ⟨Nat.le_of_ble_eq_true rfl, Nat.le_of_ble_eq_true rfl⟩ ?_
    refine ⟨r45, r52, _, rfl, hK, fun r56 V56 hK => ?_⟩
    try dsimp only [Option.toList, List.cons_append, List.nil_append]
    refine a_lstore_n C dX11_digest_59 (Nat.le_of_ble_eq_true rfl) ?_
    refine a_eqal (al' := [some (zR 0), some (zJ r56), none, none]) rfl ?_
    refine a_lload_n C dX11_digest_60 rfl ?_
    refine a_aload_n C dX11_digest_61 rfl ?_
    refine a_iconst C dX11_digest_62 ?_
    refine a_callV (as := [zI 1]) (rest := [zJ r56]) C 1 (fun l => c11_lapsed l) h_0 ⟨_, _, rfl⟩ (by decide) ml_X11_292 im_X11_lapsed se_X11_lapsed in_X11 co_X11_lapsed (by decide +kernel) rfl ⟨Nat.le_of_ble_eq_true rfl, Nat.le_of_ble_eq_true rfl⟩ (Nat.le_of_ble_eq_true rfl) dX11_digest_63 ⟨Nat.le_of_ble_eq_true rfl, Nat.le_of_ble_eq_true rfl⟩ ?_
    refine ⟨1, _, rfl, hX, hK, fun r63 V63 hK => ?_⟩
    try dsimp only [Option.toList, List.cons_append, List.nil_append]
    obtain ⟨q29, hK⟩ := hK
    refine a_i2l C dX11_digest_66 q29 ?_
    refine a_callS (as := [zJ r56, zJ r63]) (rest := []) C 2 (fun l => c11_fold l) ml_X11_288 sa_X11_fold in_X11 co_X11_fold (by decide +kernel) rfl ⟨Nat.le_of_ble_eq_true rfl, Nat.le_of_ble_eq_true rfl⟩ (Nat.le_of_ble_eq_true rfl) dX11_digest_67 ⟨Nat.le_of_ble_eq_true rfl, Nat.le_of_ble_eq_true rfl⟩ ?_
    refine ⟨r56, r63, _, rfl, hK, fun r67 V67 hK => ?_⟩
    try dsimp only [Option.toList, List.cons_append, List.nil_append]
    refine a_lstore_n C dX11_digest_70 (Nat.le_of_ble_eq_true rfl) ?_
    refine a_eqal (al' := [some (zR 0), some (zJ r67), none, none]) rfl ?_
    have L73 : ∀ (n : Nat) (a1 : Int) (a3 : Int) (V : zV), m11_digest_L73 S Q n a1 a3 V → zW X S V 0 0 [some (zR 0), some (zJ a1), none, some (zI a3)] [] 73 := by
      intro n73
      induction n73 with
      | zero => intro _ _ _ hK; exact hK.elim
      | succ n73 ih73 =>
        intro a1 a3 V hK
        unfold m11_digest_L73 at hK
        refine a_iload_n C dX11_digest_73 rfl ?_
        refine a_aload_n C dX11_digest_74 rfl ?_
        refine a_getR C fl_X11_10_11 h_0 rfl g_0_0 dX11_digest_75 ?_
        refine a_getI C fl_X11_71_8 h_1 rfl dX11_digest_78 (fun r41 => ?_)
        obtain ⟨q42, hK⟩ := hK
        refine a_icmp_ge C 104 dX11_digest_81 (by decide) ⟨q42, r41⟩ (fun q43 => ?_) (fun q43 => ?_)
        · replace hK := hK.1 q43
          have L106 : ∀ (n : Nat) (a1 : Int) (a3 : Int) (V : zV), m11_digest_L106 S Q n a1 a3 V → zW X S V 0 0 [some (zR 0), some (zJ a1), none, some (zI a3)] [] 106 := by
            intro n106
            induction n106 with
            | zero => intro _ _ _ hK; exact hK.elim
            | succ n106 ih106 =>
              intro a1 a3 V hK
              unfold m11_digest_L106 at hK
              refine a_iload_n C dX11_digest_106 rfl ?_
              refine a_bipush C dX11_digest_107 (by decide) ?_
              obtain ⟨q47, hK⟩ := hK
              refine a_icmp_gt C 129 dX11_digest_109 (by decide) ⟨q47, ⟨by decide, by decide⟩⟩ (fun q48 => ?_) (fun q48 => ?_)
              · replace hK := hK.1 q48
                refine a_lload_n C dX11_digest_129 rfl ?_
                exact a_lret C E dX11_digest_130 (Nat.le_refl _) (Nat.le_refl _) (hpost _ _ hK)
              · replace hK := hK.2 q48
                refine a_lload_n C dX11_digest_112 rfl ?_
                refine a_aload_n C dX11_digest_113 rfl ?_
                refine a_iload_n C dX11_digest_114 rfl ?_
                refine a_callV (as := [zI a3]) (rest := [zJ a1]) C 1 (fun l => c11_count l) h_0 ⟨_, _, rfl⟩ (by decide) ml_X11_298 im_X11_count se_X11_count in_X11 co_X11_count (by decide +kernel) rfl ⟨Nat.le_of_ble_eq_true rfl, Nat.le_of_ble_eq_true rfl⟩ (Nat.le_of_ble_eq_true rfl) dX11_digest_115 ⟨Nat.le_of_ble_eq_true rfl, Nat.le_of_ble_eq_true rfl⟩ ?_
                refine ⟨a3, _, rfl, hX, hK, fun r115 V115 hK => ?_⟩
                try dsimp only [Option.toList, List.cons_append, List.nil_append]
                obtain ⟨q49, hK⟩ := hK
                refine a_i2l C dX11_digest_118 q49 ?_
                refine a_callS (as := [zJ a1, zJ r115]) (rest := []) C 2 (fun l => c11_fold l) ml_X11_288 sa_X11_fold in_X11 co_X11_fold (by decide +kernel) rfl ⟨Nat.le_of_ble_eq_true rfl, Nat.le_of_ble_eq_true rfl⟩ (Nat.le_of_ble_eq_true rfl) dX11_digest_119 ⟨Nat.le_of_ble_eq_true rfl, Nat.le_of_ble_eq_true rfl⟩ ?_
                refine ⟨a1, r115, _, rfl, hK, fun r119 V119 hK => ?_⟩
                try dsimp only [Option.toList, List.cons_append, List.nil_append]
                refine a_lstore_n C dX11_digest_122 (Nat.le_of_ble_eq_true rfl) ?_
                refine a_eqal (al' := [some (zR 0), some (zJ r119), none, some (zI a3)]) rfl ?_
                refine a_iinc C dX11_digest_123 rfl (Nat.le_of_ble_eq_true rfl) ?_
                refine a_goto C 106 dX11_digest_126 (by decide) ?_
                exact a_ls (lsub_s rfl (lsub_s rfl (lsub_n (lsub_s rfl lsub_0)))) (ih106 r119 (a3 + 1) _ hK)
          refine a_iconst C dX11_digest_104 ?_
          refine a_istore_n C dX11_digest_105 (Nat.le_of_ble_eq_true rfl) ?_
          obtain ⟨nn50, hK⟩ := hK
          exact a_ls (lsub_s rfl (lsub_s rfl (lsub_n (lsub_s rfl lsub_0)))) (L106 nn50 a1 0 _ hK)
        · replace hK := hK.2 q43
          refine a_lload_n C dX11_digest_84 rfl ?_
          refine a_aload_n C dX11_digest_85 rfl ?_
          refine a_getR C fl_X11_10_11 h_0 rfl g_0_0 dX11_digest_86 ?_
          refine a_iload_n C dX11_digest_89 rfl ?_
          refine a_callV (as := [zI a3]) (rest := [zJ a1]) C 1 (fun l => c8_codeAt l) h_1 ⟨_, _, rfl⟩ (by decide) ml_X11_295 im_X8_codeAt se_X8_codeAt in_X8 co_X8_codeAt (by decide +kernel) rfl ⟨Nat.le_of_ble_eq_true rfl, Nat.le_of_ble_eq_true rfl⟩ (Nat.le_of_ble_eq_true rfl) dX11_digest_90 ⟨Nat.le_of_ble_eq_true rfl, Nat.le_of_ble_eq_true rfl⟩ ?_
          refine ⟨a3, _, rfl, (PSx_p hX), hK, fun r90 V90 hK => ?_⟩
          try dsimp only [Option.toList, List.cons_append, List.nil_append]
          obtain ⟨q51, hK⟩ := hK
          refine a_i2l C dX11_digest_93 q51 ?_
          refine a_callS (as := [zJ a1, zJ r90]) (rest := []) C 2 (fun l => c11_fold l) ml_X11_288 sa_X11_fold in_X11 co_X11_fold (by decide +kernel) rfl ⟨Nat.le_of_ble_eq_true rfl, Nat.le_of_ble_eq_true rfl⟩ (Nat.le_of_ble_eq_true rfl) dX11_digest_94 ⟨Nat.le_of_ble_eq_true rfl, Nat.le_of_ble_eq_true rfl⟩ ?_
          refine ⟨a1, r90, _, rfl, hK, fun r94 V94 hK => ?_⟩
          try dsimp only [Option.toList, List.cons_append, List.nil_append]
          refine a_lstore_n C dX11_digest_97 (Nat.le_of_ble_eq_true rfl) ?_
          refine a_eqal (al' := [some (zR 0), some (zJ r94), none, some (zI a3)]) rfl ?_
          refine a_iinc C dX11_digest_98 rfl (Nat.le_of_ble_eq_true rfl) ?_
          refine a_goto C 73 dX11_digest_101 (by decide) ?_
          exact a_ls (lsub_s rfl (lsub_s rfl (lsub_n (lsub_s rfl lsub_0)))) (ih73 r94 (a3 + 1) _ hK)
    refine a_iconst C dX11_digest_71 ?_
    refine a_istore_n C dX11_digest_72 (Nat.le_of_ble_eq_true rfl) ?_
    obtain ⟨nn52, hK⟩ := hK
    exact a_ls (lsub_s rfl (lsub_s rfl (lsub_n (lsub_s rfl lsub_0)))) (L73 nn52 r67 0 _ hK)
