def m12_years_J224  (Q : Int → zV → Prop) (s0 : Int) (V : zV) : Prop :=
  m12_layBack V (fun V227 => Q s0 V227)
def m12_years_L160  (Q : Int → zV → Prop) : Nat → Int → Int → Int → zV → Prop
  | 0 => fun _ _ _ _ => False
  | n + 1 => fun a3 a4 a5 V => (inR a5) ∧ ((6 ≤ a5 → (inR a3) ∧ ((¬ a3 = 0 → ((¬ a3 = 1 → ((¬ a3 = 2 → m12_years_J224  Q (V 53 17) V) ∧ (a3 = 2 → m12_openMany V (fun r214 V214 => m12_years_J224  Q r214 V214)))) ∧ (a3 = 1 → m12_years_J224  Q a4 V))) ∧ (a3 = 0 → m12_aliveMany V (fun r192 V192 => m12_years_J224  Q r192 V192)))) ∧ (a5 < 6 → (0 ≤ (3 * a5) ∧ (3 * a5) < 18) ∧ m12_years_L160  Q n a3 (a4 + (V 57 ((3 * a5)).toNat)) (a5 + 1) V))
def m12_years_J142 (k53 : Int → Int → Int → zV → Prop) (Q : Int → zV → Prop) (a1 : Int) (a3 : Int) (a4 : Int) (V : zV) : Prop :=
  m12_ended V (fun r143 V143 => k53 a1 a3 (a4 + 1) V143)
def m12_years_J109 (k53 : Int → Int → Int → zV → Prop) (Q : Int → zV → Prop) (a1 : Int) (a3 : Int) (a4 : Int) (V : zV) : Prop :=
  m12_draw V 6 (fun r112 V112 => m12_isAlive V112 r112 (fun r120 V120 => (inR r120) ∧ ((r120 = 0 → m12_years_J142 (k53) Q a1 a3 a4 V120) ∧ (¬ r120 = 0 → m12_draw V120 4 (fun r128 V128 => (inR r128) ∧ ((¬ r128 = 0 → m12_years_J142 (k53) Q a1 a3 a4 V128) ∧ (r128 = 0 → m12_died V128 r112 (fun r137 V137 => m12_years_J142 (k53) Q a1 a3 a4 V137))))))))
def m12_years_L53  (Q : Int → zV → Prop) : Nat → Int → Int → Int → zV → Prop
  | 0 => fun _ _ _ _ => False
  | n + 1 => fun a1 a3 a4 V => (inR a4) ∧ (inR a1) ∧ ((a1 ≤ a4 → ∃ nn32, m12_years_L160  Q nn32 a3 0 0 V) ∧ (a4 < a1 → m12_draw V 6 (fun r62 V62 => m12_draw V62 (V62 53 5) (fun r72 V72 => m12_draw V72 2 (fun r79 V79 => m12_canBuy V79 r62 r72 r79 (fun r91 V91 => (inR r91) ∧ ((r91 = 0 → m12_years_J109 (m12_years_L53  Q n) Q a1 a3 a4 V91) ∧ (¬ r91 = 0 → m12_bought V91 r62 r72 r79 (fun r104 V104 => m12_years_J109 (m12_years_L53  Q n) Q a1 a3 a4 V104)))))))))
def m12_years  (V : zV) (a1 : Int) (a2 : Int) (a3 : Int) (Q : Int → zV → Prop) : Prop :=
  (inR a1) ∧ m12_in V a1 1 60 (fun r6 V6 => (inR r6) ∧ ((r6 = 0 → Q (-102) V6) ∧ (¬ r6 = 0 → (inR a2) ∧ ((a2 < 0 → Q (-102) V6) ∧ (0 ≤ a2 → (inR a3) ∧ m12_in V6 a3 0 3 (fun r22 V22 => (inR r22) ∧ ((¬ r22 = 0 → m12_lacks V22 (fun r32 V32 => (inR r32) ∧ ((r32 = 0 → m12_save V32 (fun V42 => ∃ nn77, m12_years_L53  Q nn77 a1 a3 0 (vset V42 53 17 a2))) ∧ (¬ r32 = 0 → Q (-103) V32)))) ∧ (r22 = 0 → Q (-102) V22))))))))
def t12_years : zT := fun as S V post => ∃ (a1 : Int) (a2 : Int) (a3 : Int) (Q : Int → zV → Prop), as = [zR 53, zI a1, zI a2, zI a3] ∧ PSm S ∧ m12_years V a1 a2 a3 Q ∧ (∀ r V2, Q r V2 → post (some (zI r)) S V2)
set_option maxHeartbeats 4000000 in
set_option maxRecDepth 20000 in
theorem c12_years (l : Launch) : zCT l yX12_years cX12_years 10 (some .int) { frames := 3, cells := 0, slots := 0, locals := 72 } t12_years := by
  refine zCT_of (by decide) (fun as S V post h => by obtain ⟨a1, a2, a3, Q, rfl, -⟩ := h; exact Nat.le_of_ble_eq_true rfl) ?_
  intro X S V as post C E hT
  obtain ⟨a1, a2, a3, Q, rfl, hM, hK, hpost⟩ := hT
  obtain ⟨w_53, r_53, h_53, g_53_0, g_53_2, g_53_7, g_53_8, g_53_10, g_53_11, g_53_12, g_53_13, g_53_14, g_53_16, g_53_21, g_53_22, g_53_23, g_53_24⟩ := PSm_53 hM
  obtain ⟨r_57, h_57⟩ := PSm_57 hM
  show zW X S V 0 0 [some (zR 53), some (zI a1), some (zI a2), some (zI a3), none, none, none, none, none, none] [] 0
  unfold m12_years at hK
  refine a_iload_n C dX12_years_0 rfl ?_
  obtain ⟨q1, hK⟩ := hK
  refine a_i2l C dX12_years_1 q1 ?_
  refine a_lconst C 1 dX12_years_2 (by decide) ?_
  refine a_ldc2 C kl_X12_238 dX12_years_3 ?_
  refine a_callS (as := [zJ a1, zJ 1, zJ 60]) (rest := []) C 3 (fun l => c12_in l) ml_X12_62 sa_X12_in in_X12 co_X12_in (by decide +kernel) rfl ⟨Nat.le_of_ble_eq_true rfl, Nat.le_of_ble_eq_true rfl⟩ (Nat.le_of_ble_eq_true rfl) dX12_years_6 ⟨Nat.le_of_ble_eq_true rfl, Nat.le_of_ble_eq_true rfl⟩ ?_
  refine ⟨a1, 1, 60, _, rfl, hK, fun r6 V6 hK => ?_⟩
  try dsimp only [Option.toList, List.cons_append, List.nil_append]
  obtain ⟨q2, hK⟩ := hK
  refine a_if_eq C 28 dX12_years_9 (by decide) q2 (fun q3 => ?_) (fun q3 => ?_)
  · replace hK := hK.1 q3
    refine a_bipush C dX12_years_28 (by decide) ?_
    exact a_iret C E dX12_years_30 (Nat.le_refl _) (Nat.le_refl _) (hpost _ _ hK)
  · replace hK := hK.2 q3
    refine a_iload_n C dX12_years_12 rfl ?_
    obtain ⟨q4, hK⟩ := hK
    refine a_if_lt C 28 dX12_years_13 (by decide) q4 (fun q5 => ?_) (fun q5 => ?_)
    · replace hK := hK.1 q5
      refine a_bipush C dX12_years_28 (by decide) ?_
      exact a_iret C E dX12_years_30 (Nat.le_refl _) (Nat.le_refl _) (hpost _ _ hK)
    · replace hK := hK.2 q5
      refine a_iload_n C dX12_years_16 rfl ?_
      obtain ⟨q6, hK⟩ := hK
      refine a_i2l C dX12_years_17 q6 ?_
      refine a_lconst C 0 dX12_years_18 (by decide) ?_
      refine a_ldc2 C kl_X12_240 dX12_years_19 ?_
      refine a_callS (as := [zJ a3, zJ 0, zJ 3]) (rest := []) C 3 (fun l => c12_in l) ml_X12_62 sa_X12_in in_X12 co_X12_in (by decide +kernel) rfl ⟨Nat.le_of_ble_eq_true rfl, Nat.le_of_ble_eq_true rfl⟩ (Nat.le_of_ble_eq_true rfl) dX12_years_22 ⟨Nat.le_of_ble_eq_true rfl, Nat.le_of_ble_eq_true rfl⟩ ?_
      refine ⟨a3, 0, 3, _, rfl, hK, fun r22 V22 hK => ?_⟩
      try dsimp only [Option.toList, List.cons_append, List.nil_append]
      obtain ⟨q7, hK⟩ := hK
      refine a_if_ne C 31 dX12_years_25 (by decide) q7 (fun q8 => ?_) (fun q8 => ?_)
      · replace hK := hK.1 q8
        refine a_aload_n C dX12_years_31 rfl ?_
        refine a_callV (as := []) (rest := []) C 0 (fun l => c12_lacks l) h_53 ⟨_, _, rfl⟩ (by decide) ml_X12_139 im_X12_lacks se_X12_lacks in_X12 co_X12_lacks (by decide +kernel) rfl ⟨Nat.le_of_ble_eq_true rfl, Nat.le_of_ble_eq_true rfl⟩ (Nat.le_of_ble_eq_true rfl) dX12_years_32 ⟨Nat.le_of_ble_eq_true rfl, Nat.le_of_ble_eq_true rfl⟩ ?_
        refine ⟨_, rfl, hM, hK, fun r32 V32 hK => ?_⟩
        try dsimp only [Option.toList, List.cons_append, List.nil_append]
        obtain ⟨q9, hK⟩ := hK
        refine a_if_eq C 41 dX12_years_35 (by decide) q9 (fun q10 => ?_) (fun q10 => ?_)
        · replace hK := hK.1 q10
          have L53 : ∀ (n : Nat) (a1 : Int) (a3 : Int) (a4 : Int) (V : zV), m12_years_L53  Q n a1 a3 a4 V → zW X S V 0 0 [some (zR 53), some (zI a1), none, some (zI a3), some (zI a4), none, none, none, none, none] [] 53 := by
            intro n53
            induction n53 with
            | zero => intro _ _ _ _ hK; exact hK.elim
            | succ n53 ih53 =>
              intro a1 a3 a4 V hK
              unfold m12_years_L53 at hK
              refine a_iload C dX12_years_53 rfl ?_
              refine a_iload_n C dX12_years_55 rfl ?_
              obtain ⟨q44, hK⟩ := hK
              obtain ⟨q45, hK⟩ := hK
              refine a_icmp_ge C 154 dX12_years_56 (by decide) ⟨q44, q45⟩ (fun q46 => ?_) (fun q46 => ?_)
              · replace hK := hK.1 q46
                have L160 : ∀ (n : Nat) (a3 : Int) (a4 : Int) (a5 : Int) (V : zV), m12_years_L160  Q n a3 a4 a5 V → zW X S V 0 0 [some (zR 53), none, none, some (zI a3), some (zI a4), some (zI a5), none, none, none, none] [] 160 := by
                  intro n160
                  induction n160 with
                  | zero => intro _ _ _ _ hK; exact hK.elim
                  | succ n160 ih160 =>
                    intro a3 a4 a5 V hK
                    unfold m12_years_L160 at hK
                    refine a_iload C dX12_years_160 rfl ?_
                    refine a_bipush C dX12_years_162 (by decide) ?_
                    obtain ⟨q56, hK⟩ := hK
                    refine a_icmp_ge C 187 dX12_years_164 (by decide) ⟨q56, ⟨by decide, by decide⟩⟩ (fun q57 => ?_) (fun q57 => ?_)
                    · replace hK := hK.1 q57
                      have J224 : ∀ (s0 : Int) (V : zV), m12_years_J224  Q s0 V → zW X S V 0 0 [some (zR 53), none, none, none, none, none, none, none, none, none] [zI s0] 224 := by
                        intro s0 V hK
                        unfold m12_years_J224 at hK
                        refine a_istore C dX12_years_224 (Nat.le_of_ble_eq_true rfl) ?_
                        refine a_aload_n C dX12_years_226 rfl ?_
                        refine a_callV (as := []) (rest := []) C 0 (fun l => c12_layBack l) h_53 ⟨_, _, rfl⟩ (by decide) ml_X12_189 im_X12_layBack se_X12_layBack in_X12 co_X12_layBack (by decide +kernel) rfl ⟨Nat.le_of_ble_eq_true rfl, Nat.le_of_ble_eq_true rfl⟩ (Nat.le_of_ble_eq_true rfl) dX12_years_227 ⟨Nat.le_of_ble_eq_true rfl, Nat.le_of_ble_eq_true rfl⟩ ?_
                        refine ⟨_, rfl, hM, hK, fun V227 hK => ?_⟩
                        try dsimp only [Option.toList, List.cons_append, List.nil_append]
                        refine a_iload C dX12_years_230 rfl ?_
                        exact a_iret C E dX12_years_232 (Nat.le_refl _) (Nat.le_refl _) (hpost _ _ hK)
                      refine a_iload_n C dX12_years_187 rfl ?_
                      obtain ⟨q58, hK⟩ := hK
                      refine a_if_ne C 198 dX12_years_188 (by decide) q58 (fun q59 => ?_) (fun q59 => ?_)
                      · replace hK := hK.1 q59
                        refine a_iload_n C dX12_years_198 rfl ?_
                        refine a_iconst C dX12_years_199 ?_
                        refine a_icmp_ne C 208 dX12_years_200 (by decide) ⟨q58, ⟨by decide, by decide⟩⟩ (fun q60 => ?_) (fun q60 => ?_)
                        · replace hK := hK.1 q60
                          refine a_iload_n C dX12_years_208 rfl ?_
                          refine a_iconst C dX12_years_209 ?_
                          refine a_icmp_ne C 220 dX12_years_210 (by decide) ⟨q58, ⟨by decide, by decide⟩⟩ (fun q61 => ?_) (fun q61 => ?_)
                          · replace hK := hK.1 q61
                            refine a_aload_n C dX12_years_220 rfl ?_
                            refine a_getI C fl_X12_230_12 h_53 rfl dX12_years_221 (fun r62 => ?_)
                            exact a_ls (lsub_s rfl (lsub_n (lsub_n (lsub_n (lsub_n (lsub_n (lsub_n (lsub_n (lsub_n (lsub_n lsub_0)))))))))) (J224 (V 53 17) _ hK)
                          · replace hK := hK.2 q61
                            refine a_aload_n C dX12_years_213 rfl ?_
                            refine a_callV (as := []) (rest := []) C 0 (fun l => c12_openMany l) h_53 ⟨_, _, rfl⟩ (by decide) ml_X12_248 im_X12_openMany se_X12_openMany in_X12 co_X12_openMany (by decide +kernel) rfl ⟨Nat.le_of_ble_eq_true rfl, Nat.le_of_ble_eq_true rfl⟩ (Nat.le_of_ble_eq_true rfl) dX12_years_214 ⟨Nat.le_of_ble_eq_true rfl, Nat.le_of_ble_eq_true rfl⟩ ?_
                            refine ⟨_, rfl, hM, hK, fun r214 V214 hK => ?_⟩
                            try dsimp only [Option.toList, List.cons_append, List.nil_append]
                            refine a_goto C 224 dX12_years_217 (by decide) ?_
                            exact a_ls (lsub_s rfl (lsub_n (lsub_n (lsub_n (lsub_n (lsub_n (lsub_n (lsub_n (lsub_n (lsub_n lsub_0)))))))))) (J224 r214 _ hK)
                        · replace hK := hK.2 q60
                          refine a_iload C dX12_years_203 rfl ?_
                          refine a_goto C 224 dX12_years_205 (by decide) ?_
                          exact a_ls (lsub_s rfl (lsub_n (lsub_n (lsub_n (lsub_n (lsub_n (lsub_n (lsub_n (lsub_n (lsub_n lsub_0)))))))))) (J224 a4 _ hK)
                      · replace hK := hK.2 q59
                        refine a_aload_n C dX12_years_191 rfl ?_
                        refine a_callV (as := []) (rest := []) C 0 (fun l => c12_aliveMany l) h_53 ⟨_, _, rfl⟩ (by decide) ml_X12_245 im_X12_aliveMany se_X12_aliveMany in_X12 co_X12_aliveMany (by decide +kernel) rfl ⟨Nat.le_of_ble_eq_true rfl, Nat.le_of_ble_eq_true rfl⟩ (Nat.le_of_ble_eq_true rfl) dX12_years_192 ⟨Nat.le_of_ble_eq_true rfl, Nat.le_of_ble_eq_true rfl⟩ ?_
                        refine ⟨_, rfl, hM, hK, fun r192 V192 hK => ?_⟩
                        try dsimp only [Option.toList, List.cons_append, List.nil_append]
                        refine a_goto C 224 dX12_years_195 (by decide) ?_
                        exact a_ls (lsub_s rfl (lsub_n (lsub_n (lsub_n (lsub_n (lsub_n (lsub_n (lsub_n (lsub_n (lsub_n lsub_0)))))))))) (J224 r192 _ hK)
                    · replace hK := hK.2 q57
                      refine a_iload C dX12_years_167 rfl ?_
                      refine a_aload_n C dX12_years_169 rfl ?_
                      refine a_getR C fl_X12_19_12 h_53 rfl g_53_8 dX12_years_170 ?_
                      refine a_iconst C dX12_years_173 ?_
                      refine a_iload C dX12_years_174 rfl ?_
                      refine a_imul C dX12_years_176 ?_
                      obtain ⟨q63, hK⟩ := hK
                      refine a_iald C h_57 dX12_years_177 (by decide) q63 (fun r64 => ?_)
                      refine a_iadd C dX12_years_178 ?_
                      refine a_istore C dX12_years_179 (Nat.le_of_ble_eq_true rfl) ?_
                      refine a_iinc C dX12_years_181 rfl (Nat.le_of_ble_eq_true rfl) ?_
                      refine a_goto C 160 dX12_years_184 (by decide) ?_
                      exact a_ls (lsub_s rfl (lsub_n (lsub_n (lsub_s rfl (lsub_s rfl (lsub_s rfl (lsub_n (lsub_n (lsub_n (lsub_n lsub_0)))))))))) (ih160 a3 (a4 + (V 57 ((3 * a5)).toNat)) (a5 + 1) _ hK)
                refine a_iconst C dX12_years_154 ?_
                refine a_istore C dX12_years_155 (Nat.le_of_ble_eq_true rfl) ?_
                refine a_iconst C dX12_years_157 ?_
                refine a_istore C dX12_years_158 (Nat.le_of_ble_eq_true rfl) ?_
                obtain ⟨nn65, hK⟩ := hK
                exact a_ls (lsub_s rfl (lsub_n (lsub_n (lsub_s rfl (lsub_s rfl (lsub_s rfl (lsub_n (lsub_n (lsub_n (lsub_n lsub_0)))))))))) (L160 nn65 a3 0 0 _ hK)
              · replace hK := hK.2 q46
                have J109 : ∀ (a1 : Int) (a3 : Int) (a4 : Int) (V : zV), m12_years_J109 (m12_years_L53  Q n53) Q a1 a3 a4 V → zW X S V 0 0 [some (zR 53), some (zI a1), none, some (zI a3), some (zI a4), none, none, none, none, none] [] 109 := by
                  intro a1 a3 a4 V hK
                  unfold m12_years_J109 at hK
                  have J142 : ∀ (a1 : Int) (a3 : Int) (a4 : Int) (V : zV), m12_years_J142 (m12_years_L53  Q n53) Q a1 a3 a4 V → zW X S V 0 0 [some (zR 53), some (zI a1), none, some (zI a3), some (zI a4), none, none, none, none, none] [] 142 := by
                    intro a1 a3 a4 V hK
                    unfold m12_years_J142 at hK
                    refine a_aload_n C dX12_years_142 rfl ?_
                    refine a_callV (as := []) (rest := []) C 0 (fun l => c12_ended l) h_53 ⟨_, _, rfl⟩ (by decide) ml_X12_179 im_X12_ended se_X12_ended in_X12 co_X12_ended (by decide +kernel) rfl ⟨Nat.le_of_ble_eq_true rfl, Nat.le_of_ble_eq_true rfl⟩ (Nat.le_of_ble_eq_true rfl) dX12_years_143 ⟨Nat.le_of_ble_eq_true rfl, Nat.le_of_ble_eq_true rfl⟩ ?_
                    refine ⟨_, rfl, hM, hK, fun r143 V143 hK => ?_⟩
                    try dsimp only [Option.toList, List.cons_append, List.nil_append]
                    refine a_istore C dX12_years_146 (Nat.le_of_ble_eq_true rfl) ?_
                    refine a_iinc C dX12_years_148 rfl (Nat.le_of_ble_eq_true rfl) ?_
                    refine a_goto C 53 dX12_years_151 (by decide) ?_
                    exact a_ls (lsub_s rfl (lsub_s rfl (lsub_n (lsub_s rfl (lsub_s rfl (lsub_n (lsub_n (lsub_n (lsub_n (lsub_n lsub_0)))))))))) (ih53 a1 a3 (a4 + 1) _ hK)
                  refine a_aload_n C dX12_years_109 rfl ?_
                  refine a_bipush C dX12_years_110 (by decide) ?_
                  refine a_callV (as := [zI 6]) (rest := []) C 1 (fun l => c12_draw l) h_53 ⟨_, _, rfl⟩ (by decide) ml_X12_242 im_X12_draw se_X12_draw in_X12 co_X12_draw (by decide +kernel) rfl ⟨Nat.le_of_ble_eq_true rfl, Nat.le_of_ble_eq_true rfl⟩ (Nat.le_of_ble_eq_true rfl) dX12_years_112 ⟨Nat.le_of_ble_eq_true rfl, Nat.le_of_ble_eq_true rfl⟩ ?_
                  refine ⟨6, _, rfl, hM, hK, fun r112 V112 hK => ?_⟩
                  try dsimp only [Option.toList, List.cons_append, List.nil_append]
                  refine a_istore C dX12_years_115 (Nat.le_of_ble_eq_true rfl) ?_
                  refine a_aload_n C dX12_years_117 rfl ?_
                  refine a_iload C dX12_years_118 rfl ?_
                  refine a_callV (as := [zI r112]) (rest := []) C 1 (fun l => c12_isAlive l) h_53 ⟨_, _, rfl⟩ (by decide) ml_X12_143 im_X12_isAlive se_X12_isAlive in_X12 co_X12_isAlive (by decide +kernel) rfl ⟨Nat.le_of_ble_eq_true rfl, Nat.le_of_ble_eq_true rfl⟩ (Nat.le_of_ble_eq_true rfl) dX12_years_120 ⟨Nat.le_of_ble_eq_true rfl, Nat.le_of_ble_eq_true rfl⟩ ?_
                  refine ⟨r112, _, rfl, hM, hK, fun r120 V120 hK => ?_⟩
                  try dsimp only [Option.toList, List.cons_append, List.nil_append]
                  obtain ⟨q70, hK⟩ := hK
                  refine a_if_eq C 142 dX12_years_123 (by decide) q70 (fun q71 => ?_) (fun q71 => ?_)
                  · replace hK := hK.1 q71
                    exact a_ls (lsub_s rfl (lsub_s rfl (lsub_n (lsub_s rfl (lsub_s rfl (lsub_n (lsub_n (lsub_n (lsub_n (lsub_n lsub_0)))))))))) (J142 a1 a3 a4 _ hK)
                  · replace hK := hK.2 q71
                    refine a_aload_n C dX12_years_126 rfl ?_
                    refine a_iconst C dX12_years_127 ?_
                    refine a_callV (as := [zI 4]) (rest := []) C 1 (fun l => c12_draw l) h_53 ⟨_, _, rfl⟩ (by decide) ml_X12_242 im_X12_draw se_X12_draw in_X12 co_X12_draw (by decide +kernel) rfl ⟨Nat.le_of_ble_eq_true rfl, Nat.le_of_ble_eq_true rfl⟩ (Nat.le_of_ble_eq_true rfl) dX12_years_128 ⟨Nat.le_of_ble_eq_true rfl, Nat.le_of_ble_eq_true rfl⟩ ?_
                    refine ⟨4, _, rfl, hM, hK, fun r128 V128 hK => ?_⟩
                    try dsimp only [Option.toList, List.cons_append, List.nil_append]
                    obtain ⟨q72, hK⟩ := hK
                    refine a_if_ne C 142 dX12_years_131 (by decide) q72 (fun q73 => ?_) (fun q73 => ?_)
                    · replace hK := hK.1 q73
                      exact a_ls (lsub_s rfl (lsub_s rfl (lsub_n (lsub_s rfl (lsub_s rfl (lsub_n (lsub_n (lsub_n (lsub_n (lsub_n lsub_0)))))))))) (J142 a1 a3 a4 _ hK)
                    · replace hK := hK.2 q73
                      refine a_aload_n C dX12_years_134 rfl ?_
                      refine a_iload C dX12_years_135 rfl ?_
                      refine a_callV (as := [zI r112]) (rest := []) C 1 (fun l => c12_died l) h_53 ⟨_, _, rfl⟩ (by decide) ml_X12_167 im_X12_died se_X12_died in_X12 co_X12_died (by decide +kernel) rfl ⟨Nat.le_of_ble_eq_true rfl, Nat.le_of_ble_eq_true rfl⟩ (Nat.le_of_ble_eq_true rfl) dX12_years_137 ⟨Nat.le_of_ble_eq_true rfl, Nat.le_of_ble_eq_true rfl⟩ ?_
                      refine ⟨r112, _, rfl, hM, hK, fun r137 V137 hK => ?_⟩
                      try dsimp only [Option.toList, List.cons_append, List.nil_append]
                      refine a_istore C dX12_years_140 (Nat.le_of_ble_eq_true rfl) ?_
                      exact a_ls (lsub_s rfl (lsub_s rfl (lsub_n (lsub_s rfl (lsub_s rfl (lsub_n (lsub_n (lsub_n (lsub_n (lsub_n lsub_0)))))))))) (J142 a1 a3 a4 _ hK)
                refine a_aload_n C dX12_years_59 rfl ?_
                refine a_bipush C dX12_years_60 (by decide) ?_
                refine a_callV (as := [zI 6]) (rest := []) C 1 (fun l => c12_draw l) h_53 ⟨_, _, rfl⟩ (by decide) ml_X12_242 im_X12_draw se_X12_draw in_X12 co_X12_draw (by decide +kernel) rfl ⟨Nat.le_of_ble_eq_true rfl, Nat.le_of_ble_eq_true rfl⟩ (Nat.le_of_ble_eq_true rfl) dX12_years_62 ⟨Nat.le_of_ble_eq_true rfl, Nat.le_of_ble_eq_true rfl⟩ ?_
                refine ⟨6, _, rfl, hM, hK, fun r62 V62 hK => ?_⟩
                try dsimp only [Option.toList, List.cons_append, List.nil_append]
                refine a_istore C dX12_years_65 (Nat.le_of_ble_eq_true rfl) ?_
                refine a_aload_n C dX12_years_67 rfl ?_
                refine a_aload_n C dX12_years_68 rfl ?_
                refine a_getI C fl_X12_91_12 h_53 rfl dX12_years_69 (fun r74 => ?_)
                refine a_callV (as := [zI (V62 53 5)]) (rest := []) C 1 (fun l => c12_draw l) h_53 ⟨_, _, rfl⟩ (by decide) ml_X12_242 im_X12_draw se_X12_draw in_X12 co_X12_draw (by decide +kernel) rfl ⟨Nat.le_of_ble_eq_true rfl, Nat.le_of_ble_eq_true rfl⟩ (Nat.le_of_ble_eq_true rfl) dX12_years_72 ⟨Nat.le_of_ble_eq_true rfl, Nat.le_of_ble_eq_true rfl⟩ ?_
                refine ⟨(V62 53 5), _, rfl, hM, hK, fun r72 V72 hK => ?_⟩
                try dsimp only [Option.toList, List.cons_append, List.nil_append]
                refine a_istore C dX12_years_75 (Nat.le_of_ble_eq_true rfl) ?_
                refine a_aload_n C dX12_years_77 rfl ?_
                refine a_iconst C dX12_years_78 ?_
                refine a_callV (as := [zI 2]) (rest := []) C 1 (fun l => c12_draw l) h_53 ⟨_, _, rfl⟩ (by decide) ml_X12_242 im_X12_draw se_X12_draw in_X12 co_X12_draw (by decide +kernel) rfl ⟨Nat.le_of_ble_eq_true rfl, Nat.le_of_ble_eq_true rfl⟩ (Nat.le_of_ble_eq_true rfl) dX12_years_79 ⟨Nat.le_of_ble_eq_true rfl, Nat.le_of_ble_eq_true rfl⟩ ?_
                refine ⟨2, _, rfl, hM, hK, fun r79 V79 hK => ?_⟩
                try dsimp only [Option.toList, List.cons_append, List.nil_append]
                refine a_istore C dX12_years_82 (Nat.le_of_ble_eq_true rfl) ?_
                refine a_aload_n C dX12_years_84 rfl ?_
                refine a_iload C dX12_years_85 rfl ?_
                refine a_iload C dX12_years_87 rfl ?_
                refine a_iload C dX12_years_89 rfl ?_
                refine a_callV (as := [zI r62, zI r72, zI r79]) (rest := []) C 3 (fun l => c12_canBuy l) h_53 ⟨_, _, rfl⟩ (by decide) ml_X12_153 im_X12_canBuy se_X12_canBuy in_X12 co_X12_canBuy (by decide +kernel) rfl ⟨Nat.le_of_ble_eq_true rfl, Nat.le_of_ble_eq_true rfl⟩ (Nat.le_of_ble_eq_true rfl) dX12_years_91 ⟨Nat.le_of_ble_eq_true rfl, Nat.le_of_ble_eq_true rfl⟩ ?_
                refine ⟨r62, r72, r79, _, rfl, hM, hK, fun r91 V91 hK => ?_⟩
                try dsimp only [Option.toList, List.cons_append, List.nil_append]
                obtain ⟨q75, hK⟩ := hK
                refine a_if_eq C 109 dX12_years_94 (by decide) q75 (fun q76 => ?_) (fun q76 => ?_)
                · replace hK := hK.1 q76
                  exact a_ls (lsub_s rfl (lsub_s rfl (lsub_n (lsub_s rfl (lsub_s rfl (lsub_n (lsub_n (lsub_n (lsub_n (lsub_n lsub_0)))))))))) (J109 a1 a3 a4 _ hK)
                · replace hK := hK.2 q76
                  refine a_aload_n C dX12_years_97 rfl ?_
                  refine a_iload C dX12_years_98 rfl ?_
                  refine a_iload C dX12_years_100 rfl ?_
                  refine a_iload C dX12_years_102 rfl ?_
                  refine a_callV (as := [zI r62, zI r72, zI r79]) (rest := []) C 3 (fun l => c12_bought l) h_53 ⟨_, _, rfl⟩ (by decide) ml_X12_157 im_X12_bought se_X12_bought in_X12 co_X12_bought (by decide +kernel) rfl ⟨Nat.le_of_ble_eq_true rfl, Nat.le_of_ble_eq_true rfl⟩ (Nat.le_of_ble_eq_true rfl) dX12_years_104 ⟨Nat.le_of_ble_eq_true rfl, Nat.le_of_ble_eq_true rfl⟩ ?_
                  refine ⟨r62, r72, r79, _, rfl, hM, hK, fun r104 V104 hK => ?_⟩
                  try dsimp only [Option.toList, List.cons_append, List.nil_append]
                  refine a_istore C dX12_years_107 (Nat.le_of_ble_eq_true rfl) ?_
                  exact a_ls (lsub_s rfl (lsub_s rfl (lsub_n (lsub_s rfl (lsub_s rfl (lsub_n (lsub_n (lsub_n (lsub_n (lsub_n lsub_0)))))))))) (J109 a1 a3 a4 _ hK)
          refine a_aload_n C dX12_years_41 rfl ?_
          refine a_callV (as := []) (rest := []) C 0 (fun l => c12_save l) h_53 ⟨_, _, rfl⟩ (by decide) ml_X12_192 im_X12_save se_X12_save in_X12 co_X12_save (by decide +kernel) rfl ⟨Nat.le_of_ble_eq_true rfl, Nat.le_of_ble_eq_true rfl⟩ (Nat.le_of_ble_eq_true rfl) dX12_years_42 ⟨Nat.le_of_ble_eq_true rfl, Nat.le_of_ble_eq_true rfl⟩ ?_
          refine ⟨_, rfl, hM, hK, fun V42 hK => ?_⟩
          try dsimp only [Option.toList, List.cons_append, List.nil_append]
          refine a_aload_n C dX12_years_45 rfl ?_
          refine a_iload_n C dX12_years_46 rfl ?_
          refine a_putI C fl_X12_230_12 (Or.inl rfl) h_53 rfl dX12_years_47 ⟨q4, fun q => by cases q⟩ ?_
          refine a_iconst C dX12_years_50 ?_
          refine a_istore C dX12_years_51 (Nat.le_of_ble_eq_true rfl) ?_
          obtain ⟨nn77, hK⟩ := hK
          exact a_ls (lsub_s rfl (lsub_s rfl (lsub_n (lsub_s rfl (lsub_s rfl (lsub_n (lsub_n (lsub_n (lsub_n (lsub_n lsub_0)))))))))) (L53 nn77 a1 a3 0 _ hK)
        · replace hK := hK.2 q10
          refine a_bipush C dX12_years_38 (by decide) ?_
          exact a_iret C E dX12_years_40 (Nat.le_refl _) (Nat.le_refl _) (hpost _ _ hK)
      · replace hK := hK.2 q8
        refine a_bipush C dX12_years_28 (by decide) ?_
        exact a_iret C E dX12_years_30 (Nat.le_refl _) (Nat.le_refl _) (hpost _ _ hK)

def m12_image  (V : zV)  (Q : Int → zV → Prop) : Prop :=
  m12_lacks V (fun r1 V1 => (inR r1) ∧ ((r1 = 0 → m12_copy 56 56 64 56 V1 (fun V18 => m12_copy 57 18 65 18 V18 (fun V29 => m12_copy 58 24 66 24 V29 (fun V40 => m12_copy 63 16 67 16 V40 (fun V51 => m12_struckMany (vset (vset (vset V51 53 19 (V51 53 9)) 53 20 ((vset V51 53 19 (V51 53 9)) 53 15)) 53 18 ((vset (vset V51 53 19 (V51 53 9)) 53 20 ((vset V51 53 19 (V51 53 9)) 53 15)) 53 6)) (fun r83 V83 => Q (((vset (vset (vset V51 53 19 (V51 53 9)) 53 20 ((vset V51 53 19 (V51 53 9)) 53 15)) 53 18 ((vset (vset V51 53 19 (V51 53 9)) 53 20 ((vset V51 53 19 (V51 53 9)) 53 15)) 53 6)) 53 5) - r83) V83)))))) ∧ (¬ r1 = 0 → Q (-103) V1)))
def t12_image : zT := fun as S V post => ∃ (Q : Int → zV → Prop), as = [zR 53] ∧ PSm S ∧ m12_image V Q ∧ (∀ r V2, Q r V2 → post (some (zI r)) S V2)
set_option maxHeartbeats 4000000 in
set_option maxRecDepth 20000 in
theorem c12_image (l : Launch) : zCT l yX12_image cX12_image 1 (some .int) { frames := 1, cells := 0, slots := 0, locals := 22 } t12_image := by
  refine zCT_of (by decide) (fun as S V post h => by obtain ⟨Q, rfl, -⟩ := h; exact Nat.le_of_ble_eq_true rfl) ?_
  intro X S V as post C E hT
  obtain ⟨Q, rfl, hM, hK, hpost⟩ := hT
  obtain ⟨w_53, r_53, h_53, g_53_0, g_53_2, g_53_7, g_53_8, g_53_10, g_53_11, g_53_12, g_53_13, g_53_14, g_53_16, g_53_21, g_53_22, g_53_23, g_53_24⟩ := PSm_53 hM
  obtain ⟨r_56, h_56⟩ := PSm_56 hM
  obtain ⟨r_64, h_64⟩ := PSm_64 hM
  obtain ⟨r_57, h_57⟩ := PSm_57 hM
  obtain ⟨r_65, h_65⟩ := PSm_65 hM
  obtain ⟨r_58, h_58⟩ := PSm_58 hM
  obtain ⟨r_66, h_66⟩ := PSm_66 hM
  obtain ⟨r_63, h_63⟩ := PSm_63 hM
  obtain ⟨r_67, h_67⟩ := PSm_67 hM
  show zW X S V 0 0 [some (zR 53)] [] 0
  unfold m12_image at hK
  refine a_aload_n C dX12_image_0 rfl ?_
  refine a_callV (as := []) (rest := []) C 0 (fun l => c12_lacks l) h_53 ⟨_, _, rfl⟩ (by decide) ml_X12_139 im_X12_lacks se_X12_lacks in_X12 co_X12_lacks (by decide +kernel) rfl ⟨Nat.le_of_ble_eq_true rfl, Nat.le_of_ble_eq_true rfl⟩ (Nat.le_of_ble_eq_true rfl) dX12_image_1 ⟨Nat.le_of_ble_eq_true rfl, Nat.le_of_ble_eq_true rfl⟩ ?_
  refine ⟨_, rfl, hM, hK, fun r1 V1 hK => ?_⟩
  try dsimp only [Option.toList, List.cons_append, List.nil_append]
  obtain ⟨q1, hK⟩ := hK
  refine a_if_eq C 10 dX12_image_4 (by decide) q1 (fun q2 => ?_) (fun q2 => ?_)
  · replace hK := hK.1 q2
    refine a_aload_n C dX12_image_10 rfl ?_
    refine a_getR C fl_X12_16_12 h_53 rfl g_53_7 dX12_image_11 ?_
    refine a_aload_n C dX12_image_14 rfl ?_
    refine a_getR C fl_X12_41_12 h_53 rfl g_53_21 dX12_image_15 ?_
    refine a_callS (as := [zR 56, zR 64]) (rest := []) C 2 (fun l => c12_copy l) ml_X12_182 sa_X12_copy in_X12 co_X12_copy (by decide +kernel) rfl ⟨Nat.le_of_ble_eq_true rfl, Nat.le_of_ble_eq_true rfl⟩ (Nat.le_of_ble_eq_true rfl) dX12_image_18 ⟨Nat.le_of_ble_eq_true rfl, Nat.le_of_ble_eq_true rfl⟩ ?_
    refine ⟨56, 56, 64, 56, _, rfl, ⟨⟨_, h_56⟩, by decide, by decide⟩, ⟨⟨_, h_64⟩, by decide, by decide⟩, hK, fun V18 hK => ?_⟩
    try dsimp only [Option.toList, List.cons_append, List.nil_append]
    refine a_aload_n C dX12_image_21 rfl ?_
    refine a_getR C fl_X12_19_12 h_53 rfl g_53_8 dX12_image_22 ?_
    refine a_aload_n C dX12_image_25 rfl ?_
    refine a_getR C fl_X12_44_12 h_53 rfl g_53_22 dX12_image_26 ?_
    refine a_callS (as := [zR 57, zR 65]) (rest := []) C 2 (fun l => c12_copy l) ml_X12_182 sa_X12_copy in_X12 co_X12_copy (by decide +kernel) rfl ⟨Nat.le_of_ble_eq_true rfl, Nat.le_of_ble_eq_true rfl⟩ (Nat.le_of_ble_eq_true rfl) dX12_image_29 ⟨Nat.le_of_ble_eq_true rfl, Nat.le_of_ble_eq_true rfl⟩ ?_
    refine ⟨57, 18, 65, 18, _, rfl, ⟨⟨_, h_57⟩, by decide, by decide⟩, ⟨⟨_, h_65⟩, by decide, by decide⟩, hK, fun V29 hK => ?_⟩
    try dsimp only [Option.toList, List.cons_append, List.nil_append]
    refine a_aload_n C dX12_image_32 rfl ?_
    refine a_getR C fl_X12_22_12 h_53 rfl g_53_10 dX12_image_33 ?_
    refine a_aload_n C dX12_image_36 rfl ?_
    refine a_getR C fl_X12_47_12 h_53 rfl g_53_23 dX12_image_37 ?_
    refine a_callS (as := [zR 58, zR 66]) (rest := []) C 2 (fun l => c12_copy l) ml_X12_182 sa_X12_copy in_X12 co_X12_copy (by decide +kernel) rfl ⟨Nat.le_of_ble_eq_true rfl, Nat.le_of_ble_eq_true rfl⟩ (Nat.le_of_ble_eq_true rfl) dX12_image_40 ⟨Nat.le_of_ble_eq_true rfl, Nat.le_of_ble_eq_true rfl⟩ ?_
    refine ⟨58, 24, 66, 24, _, rfl, ⟨⟨_, h_58⟩, by decide, by decide⟩, ⟨⟨_, h_66⟩, by decide, by decide⟩, hK, fun V40 hK => ?_⟩
    try dsimp only [Option.toList, List.cons_append, List.nil_append]
    refine a_aload_n C dX12_image_43 rfl ?_
    refine a_getR C fl_X12_38_12 h_53 rfl g_53_16 dX12_image_44 ?_
    refine a_aload_n C dX12_image_47 rfl ?_
    refine a_getR C fl_X12_50_12 h_53 rfl g_53_24 dX12_image_48 ?_
    refine a_callS (as := [zR 63, zR 67]) (rest := []) C 2 (fun l => c12_copy l) ml_X12_182 sa_X12_copy in_X12 co_X12_copy (by decide +kernel) rfl ⟨Nat.le_of_ble_eq_true rfl, Nat.le_of_ble_eq_true rfl⟩ (Nat.le_of_ble_eq_true rfl) dX12_image_51 ⟨Nat.le_of_ble_eq_true rfl, Nat.le_of_ble_eq_true rfl⟩ ?_
    refine ⟨63, 16, 67, 16, _, rfl, ⟨⟨_, h_63⟩, by decide, by decide⟩, ⟨⟨_, h_67⟩, by decide, by decide⟩, hK, fun V51 hK => ?_⟩
    try dsimp only [Option.toList, List.cons_append, List.nil_append]
    refine a_aload_n C dX12_image_54 rfl ?_
    refine a_aload_n C dX12_image_55 rfl ?_
    refine a_getI C fl_X12_94_12 h_53 rfl dX12_image_56 (fun r3 => ?_)
    refine a_putI C fl_X12_251_12 (Or.inl rfl) h_53 rfl dX12_image_59 ⟨r3, fun q => by cases q⟩ ?_
    refine a_aload_n C dX12_image_62 rfl ?_
    refine a_aload_n C dX12_image_63 rfl ?_
    refine a_getI C fl_X12_97_12 h_53 rfl dX12_image_64 (fun r4 => ?_)
    refine a_putI C fl_X12_254_12 (Or.inl rfl) h_53 rfl dX12_image_67 ⟨r4, fun q => by cases q⟩ ?_
    refine a_aload_n C dX12_image_70 rfl ?_
    refine a_aload_n C dX12_image_71 rfl ?_
    refine a_getI C fl_X12_100_12 h_53 rfl dX12_image_72 (fun r5 => ?_)
    refine a_putI C fl_X12_53_12 (Or.inl rfl) h_53 rfl dX12_image_75 ⟨r5, fun q => by cases q⟩ ?_
    refine a_aload_n C dX12_image_78 rfl ?_
    refine a_getI C fl_X12_91_12 h_53 rfl dX12_image_79 (fun r6 => ?_)
    refine a_aload_n C dX12_image_82 rfl ?_
    refine a_callV (as := []) (rest := [zI ((vset (vset (vset V51 53 19 (V51 53 9)) 53 20 ((vset V51 53 19 (V51 53 9)) 53 15)) 53 18 ((vset (vset V51 53 19 (V51 53 9)) 53 20 ((vset V51 53 19 (V51 53 9)) 53 15)) 53 6)) 53 5)]) C 0 (fun l => c12_struckMany l) h_53 ⟨_, _, rfl⟩ (by decide) ml_X12_161 im_X12_struckMany se_X12_struckMany in_X12 co_X12_struckMany (by decide +kernel) rfl ⟨Nat.le_of_ble_eq_true rfl, Nat.le_of_ble_eq_true rfl⟩ (Nat.le_of_ble_eq_true rfl) dX12_image_83 ⟨Nat.le_of_ble_eq_true rfl, Nat.le_of_ble_eq_true rfl⟩ ?_
    refine ⟨_, rfl, hM, hK, fun r83 V83 hK => ?_⟩
    try dsimp only [Option.toList, List.cons_append, List.nil_append]
    refine a_isub C dX12_image_86 ?_
    exact a_iret C E dX12_image_87 (Nat.le_refl _) (Nat.le_refl _) (hpost _ _ hK)
  · replace hK := hK.2 q2
    refine a_bipush C dX12_image_7 (by decide) ?_
    exact a_iret C E dX12_image_9 (Nat.le_refl _) (Nat.le_refl _) (hpost _ _ hK)

def m12_restore  (V : zV)  (Q : Int → zV → Prop) : Prop :=
  (((V 53 18) = (V 53 6) → m12_copy 64 56 56 56 V (fun V22 => m12_copy 65 18 57 18 V22 (fun V33 => m12_copy 66 24 58 24 V33 (fun V44 => m12_copy 67 16 63 16 V44 (fun V55 => m12_struckMany (vset (vset V55 53 9 (V55 53 19)) 53 15 ((vset V55 53 9 (V55 53 19)) 53 20)) (fun r79 V79 => Q (((vset (vset V55 53 9 (V55 53 19)) 53 15 ((vset V55 53 9 (V55 53 19)) 53 20)) 53 5) - r79) V79)))))) ∧ (¬ (V 53 18) = (V 53 6) → Q (-103) V))
def t12_restore : zT := fun as S V post => ∃ (Q : Int → zV → Prop), as = [zR 53] ∧ PSm S ∧ m12_restore V Q ∧ (∀ r V2, Q r V2 → post (some (zI r)) S V2)
set_option maxHeartbeats 4000000 in
set_option maxRecDepth 20000 in
theorem c12_restore (l : Launch) : zCT l yX12_restore cX12_restore 1 (some .int) { frames := 1, cells := 0, slots := 0, locals := 22 } t12_restore := by
  refine zCT_of (by decide) (fun as S V post h => by obtain ⟨Q, rfl, -⟩ := h; exact Nat.le_of_ble_eq_true rfl) ?_
  intro X S V as post C E hT
  obtain ⟨Q, rfl, hM, hK, hpost⟩ := hT
  obtain ⟨w_53, r_53, h_53, g_53_0, g_53_2, g_53_7, g_53_8, g_53_10, g_53_11, g_53_12, g_53_13, g_53_14, g_53_16, g_53_21, g_53_22, g_53_23, g_53_24⟩ := PSm_53 hM
  obtain ⟨r_64, h_64⟩ := PSm_64 hM
  obtain ⟨r_56, h_56⟩ := PSm_56 hM
  obtain ⟨r_65, h_65⟩ := PSm_65 hM
  obtain ⟨r_57, h_57⟩ := PSm_57 hM
  obtain ⟨r_66, h_66⟩ := PSm_66 hM
  obtain ⟨r_58, h_58⟩ := PSm_58 hM
  obtain ⟨r_67, h_67⟩ := PSm_67 hM
  obtain ⟨r_63, h_63⟩ := PSm_63 hM
  show zW X S V 0 0 [some (zR 53)] [] 0
  unfold m12_restore at hK
  refine a_aload_n C dX12_restore_0 rfl ?_
  refine a_getI C fl_X12_53_12 h_53 rfl dX12_restore_1 (fun r1 => ?_)
  refine a_aload_n C dX12_restore_4 rfl ?_
  refine a_getI C fl_X12_100_12 h_53 rfl dX12_restore_5 (fun r2 => ?_)
  refine a_icmp_eq C 14 dX12_restore_8 (by decide) ⟨r1, r2⟩ (fun q3 => ?_) (fun q3 => ?_)
  · replace hK := hK.1 q3
    refine a_aload_n C dX12_restore_14 rfl ?_
    refine a_getR C fl_X12_41_12 h_53 rfl g_53_21 dX12_restore_15 ?_
    refine a_aload_n C dX12_restore_18 rfl ?_
    refine a_getR C fl_X12_16_12 h_53 rfl g_53_7 dX12_restore_19 ?_
    refine a_callS (as := [zR 64, zR 56]) (rest := []) C 2 (fun l => c12_copy l) ml_X12_182 sa_X12_copy in_X12 co_X12_copy (by decide +kernel) rfl ⟨Nat.le_of_ble_eq_true rfl, Nat.le_of_ble_eq_true rfl⟩ (Nat.le_of_ble_eq_true rfl) dX12_restore_22 ⟨Nat.le_of_ble_eq_true rfl, Nat.le_of_ble_eq_true rfl⟩ ?_
    refine ⟨64, 56, 56, 56, _, rfl, ⟨⟨_, h_64⟩, by decide, by decide⟩, ⟨⟨_, h_56⟩, by decide, by decide⟩, hK, fun V22 hK => ?_⟩
    try dsimp only [Option.toList, List.cons_append, List.nil_append]
    refine a_aload_n C dX12_restore_25 rfl ?_
    refine a_getR C fl_X12_44_12 h_53 rfl g_53_22 dX12_restore_26 ?_
    refine a_aload_n C dX12_restore_29 rfl ?_
    refine a_getR C fl_X12_19_12 h_53 rfl g_53_8 dX12_restore_30 ?_
    refine a_callS (as := [zR 65, zR 57]) (rest := []) C 2 (fun l => c12_copy l) ml_X12_182 sa_X12_copy in_X12 co_X12_copy (by decide +kernel) rfl ⟨Nat.le_of_ble_eq_true rfl, Nat.le_of_ble_eq_true rfl⟩ (Nat.le_of_ble_eq_true rfl) dX12_restore_33 ⟨Nat.le_of_ble_eq_true rfl, Nat.le_of_ble_eq_true rfl⟩ ?_
    refine ⟨65, 18, 57, 18, _, rfl, ⟨⟨_, h_65⟩, by decide, by decide⟩, ⟨⟨_, h_57⟩, by decide, by decide⟩, hK, fun V33 hK => ?_⟩
    try dsimp only [Option.toList, List.cons_append, List.nil_append]
    refine a_aload_n C dX12_restore_36 rfl ?_
    refine a_getR C fl_X12_47_12 h_53 rfl g_53_23 dX12_restore_37 ?_
    refine a_aload_n C dX12_restore_40 rfl ?_
    refine a_getR C fl_X12_22_12 h_53 rfl g_53_10 dX12_restore_41 ?_
    refine a_callS (as := [zR 66, zR 58]) (rest := []) C 2 (fun l => c12_copy l) ml_X12_182 sa_X12_copy in_X12 co_X12_copy (by decide +kernel) rfl ⟨Nat.le_of_ble_eq_true rfl, Nat.le_of_ble_eq_true rfl⟩ (Nat.le_of_ble_eq_true rfl) dX12_restore_44 ⟨Nat.le_of_ble_eq_true rfl, Nat.le_of_ble_eq_true rfl⟩ ?_
    refine ⟨66, 24, 58, 24, _, rfl, ⟨⟨_, h_66⟩, by decide, by decide⟩, ⟨⟨_, h_58⟩, by decide, by decide⟩, hK, fun V44 hK => ?_⟩
    try dsimp only [Option.toList, List.cons_append, List.nil_append]
    refine a_aload_n C dX12_restore_47 rfl ?_
    refine a_getR C fl_X12_50_12 h_53 rfl g_53_24 dX12_restore_48 ?_
    refine a_aload_n C dX12_restore_51 rfl ?_
    refine a_getR C fl_X12_38_12 h_53 rfl g_53_16 dX12_restore_52 ?_
    refine a_callS (as := [zR 67, zR 63]) (rest := []) C 2 (fun l => c12_copy l) ml_X12_182 sa_X12_copy in_X12 co_X12_copy (by decide +kernel) rfl ⟨Nat.le_of_ble_eq_true rfl, Nat.le_of_ble_eq_true rfl⟩ (Nat.le_of_ble_eq_true rfl) dX12_restore_55 ⟨Nat.le_of_ble_eq_true rfl, Nat.le_of_ble_eq_true rfl⟩ ?_
    refine ⟨67, 16, 63, 16, _, rfl, ⟨⟨_, h_67⟩, by decide, by decide⟩, ⟨⟨_, h_63⟩, by decide, by decide⟩, hK, fun V55 hK => ?_⟩
    try dsimp only [Option.toList, List.cons_append, List.nil_append]
    refine a_aload_n C dX12_restore_58 rfl ?_
    refine a_aload_n C dX12_restore_59 rfl ?_
    refine a_getI C fl_X12_251_12 h_53 rfl dX12_restore_60 (fun r4 => ?_)
    refine a_putI C fl_X12_94_12 (Or.inl rfl) h_53 rfl dX12_restore_63 ⟨r4, fun q => by cases q⟩ ?_
    refine a_aload_n C dX12_restore_66 rfl ?_
    refine a_aload_n C dX12_restore_67 rfl ?_
    refine a_getI C fl_X12_254_12 h_53 rfl dX12_restore_68 (fun r5 => ?_)
    refine a_putI C fl_X12_97_12 (Or.inl rfl) h_53 rfl dX12_restore_71 ⟨r5, fun q => by cases q⟩ ?_
    refine a_aload_n C dX12_restore_74 rfl ?_
    refine a_getI C fl_X12_91_12 h_53 rfl dX12_restore_75 (fun r6 => ?_)
    refine a_aload_n C dX12_restore_78 rfl ?_
    refine a_callV (as := []) (rest := [zI ((vset (vset V55 53 9 (V55 53 19)) 53 15 ((vset V55 53 9 (V55 53 19)) 53 20)) 53 5)]) C 0 (fun l => c12_struckMany l) h_53 ⟨_, _, rfl⟩ (by decide) ml_X12_161 im_X12_struckMany se_X12_struckMany in_X12 co_X12_struckMany (by decide +kernel) rfl ⟨Nat.le_of_ble_eq_true rfl, Nat.le_of_ble_eq_true rfl⟩ (Nat.le_of_ble_eq_true rfl) dX12_restore_79 ⟨Nat.le_of_ble_eq_true rfl, Nat.le_of_ble_eq_true rfl⟩ ?_
    refine ⟨_, rfl, hM, hK, fun r79 V79 hK => ?_⟩
    try dsimp only [Option.toList, List.cons_append, List.nil_append]
    refine a_isub C dX12_restore_82 ?_
    exact a_iret C E dX12_restore_83 (Nat.le_refl _) (Nat.le_refl _) (hpost _ _ hK)
  · replace hK := hK.2 q3
    refine a_bipush C dX12_restore_11 (by decide) ?_
    exact a_iret C E dX12_restore_13 (Nat.le_refl _) (Nat.le_refl _) (hpost _ _ hK)

def m12_lentMany_L4  (Q : Int → zV → Prop) : Nat → Int → Int → zV → Prop
  | 0 => fun _ _ _ => False
  | n + 1 => fun a1 a2 V => (inR a2) ∧ (inR (2 * (V 53 5))) ∧ (((2 * (V 53 5)) ≤ a2 → Q a1 V) ∧ (a2 < (2 * (V 53 5)) → (0 ≤ a2 ∧ a2 < 2147483648) ∧ (0 ≤ a2 ∧ a2 < 2147483648) ∧ m12_borrowerOf V (a2 / 2) (a2 % 2) (fun r22 V22 => (inR r22) ∧ ((¬ r22 = (-1) → m12_lentMany_L4  Q n (a1 + 1) (a2 + 1) V22) ∧ (r22 = (-1) → m12_lentMany_L4  Q n (a1 + 0) (a2 + 1) V22)))))
def m12_lentMany  (V : zV)  (Q : Int → zV → Prop) : Prop :=
  ∃ nn17, m12_lentMany_L4  Q nn17 0 0 V
def t12_lentMany : zT := fun as S V post => ∃ (Q : Int → zV → Prop), as = [zR 53] ∧ PSm S ∧ m12_lentMany V Q ∧ (∀ r V2, Q r V2 → post (some (zI r)) S V2)
set_option maxHeartbeats 4000000 in
set_option maxRecDepth 20000 in
theorem c12_lentMany (l : Launch) : zCT l yX12_lentMany cX12_lentMany 3 (some .int) { frames := 1, cells := 0, slots := 0, locals := 22 } t12_lentMany := by
  refine zCT_of (by decide) (fun as S V post h => by obtain ⟨Q, rfl, -⟩ := h; exact Nat.le_of_ble_eq_true rfl) ?_
  intro X S V as post C E hT
  obtain ⟨Q, rfl, hM, hK, hpost⟩ := hT
  obtain ⟨w_53, r_53, h_53, g_53_0, g_53_2, g_53_7, g_53_8, g_53_10, g_53_11, g_53_12, g_53_13, g_53_14, g_53_16, g_53_21, g_53_22, g_53_23, g_53_24⟩ := PSm_53 hM
  show zW X S V 0 0 [some (zR 53), none, none] [] 0
  unfold m12_lentMany at hK
  have L4 : ∀ (n : Nat) (a1 : Int) (a2 : Int) (V : zV), m12_lentMany_L4  Q n a1 a2 V → zW X S V 0 0 [some (zR 53), some (zI a1), some (zI a2)] [] 4 := by
    intro n4
    induction n4 with
    | zero => intro _ _ _ hK; exact hK.elim
    | succ n4 ih4 =>
      intro a1 a2 V hK
      unfold m12_lentMany_L4 at hK
      refine a_iload_n C dX12_lentMany_4 rfl ?_
      refine a_iconst C dX12_lentMany_5 ?_
      refine a_aload_n C dX12_lentMany_6 rfl ?_
      refine a_getI C fl_X12_91_12 h_53 rfl dX12_lentMany_7 (fun r9 => ?_)
      refine a_imul C dX12_lentMany_10 ?_
      obtain ⟨q10, hK⟩ := hK
      obtain ⟨q11, hK⟩ := hK
      refine a_icmp_ge C 42 dX12_lentMany_11 (by decide) ⟨q10, q11⟩ (fun q12 => ?_) (fun q12 => ?_)
      · replace hK := hK.1 q12
        refine a_iload_n C dX12_lentMany_42 rfl ?_
        exact a_iret C E dX12_lentMany_43 (Nat.le_refl _) (Nat.le_refl _) (hpost _ _ hK)
      · replace hK := hK.2 q12
        refine a_iload_n C dX12_lentMany_14 rfl ?_
        refine a_aload_n C dX12_lentMany_15 rfl ?_
        refine a_iload_n C dX12_lentMany_16 rfl ?_
        refine a_iconst C dX12_lentMany_17 ?_
        obtain ⟨q13, hK⟩ := hK
        refine a_idiv C dX12_lentMany_18 ⟨q13, by decide, by decide⟩ ?_
        refine a_iload_n C dX12_lentMany_19 rfl ?_
        refine a_iconst C dX12_lentMany_20 ?_
        obtain ⟨q14, hK⟩ := hK
        refine a_irem C dX12_lentMany_21 ⟨q14, by decide, by decide⟩ ?_
        refine a_callV (as := [zI (a2 / 2), zI (a2 % 2)]) (rest := [zI a1]) C 2 (fun l => c12_borrowerOf l) h_53 ⟨_, _, rfl⟩ (by decide) ml_X12_106 im_X12_borrowerOf se_X12_borrowerOf in_X12 co_X12_borrowerOf (by decide +kernel) rfl ⟨Nat.le_of_ble_eq_true rfl, Nat.le_of_ble_eq_true rfl⟩ (Nat.le_of_ble_eq_true rfl) dX12_lentMany_22 ⟨Nat.le_of_ble_eq_true rfl, Nat.le_of_ble_eq_true rfl⟩ ?_
        refine ⟨(a2 / 2), (a2 % 2), _, rfl, hM, hK, fun r22 V22 hK => ?_⟩
        try dsimp only [Option.toList, List.cons_append, List.nil_append]
        refine a_iconst C dX12_lentMany_25 ?_
        obtain ⟨q15, hK⟩ := hK
        refine a_icmp_ne C 33 dX12_lentMany_26 (by decide) ⟨q15, ⟨by decide, by decide⟩⟩ (fun q16 => ?_) (fun q16 => ?_)
        · replace hK := hK.1 q16
          refine a_iconst C dX12_lentMany_33 ?_
          refine a_iadd C dX12_lentMany_34 ?_
          refine a_istore_n C dX12_lentMany_35 (Nat.le_of_ble_eq_true rfl) ?_
          refine a_iinc C dX12_lentMany_36 rfl (Nat.le_of_ble_eq_true rfl) ?_
          refine a_goto C 4 dX12_lentMany_39 (by decide) ?_
          exact a_ls (lsub_s rfl (lsub_s rfl (lsub_s rfl lsub_0))) (ih4 (a1 + 1) (a2 + 1) _ hK)
        · replace hK := hK.2 q16
          refine a_iconst C dX12_lentMany_29 ?_
          refine a_goto C 34 dX12_lentMany_30 (by decide) ?_
          refine a_iadd C dX12_lentMany_34 ?_
          refine a_istore_n C dX12_lentMany_35 (Nat.le_of_ble_eq_true rfl) ?_
          refine a_iinc C dX12_lentMany_36 rfl (Nat.le_of_ble_eq_true rfl) ?_
          refine a_goto C 4 dX12_lentMany_39 (by decide) ?_
          exact a_ls (lsub_s rfl (lsub_s rfl (lsub_s rfl lsub_0))) (ih4 (a1 + 0) (a2 + 1) _ hK)
  refine a_iconst C dX12_lentMany_0 ?_
  refine a_istore_n C dX12_lentMany_1 (Nat.le_of_ble_eq_true rfl) ?_
  refine a_iconst C dX12_lentMany_2 ?_
  refine a_istore_n C dX12_lentMany_3 (Nat.le_of_ble_eq_true rfl) ?_
  obtain ⟨nn17, hK⟩ := hK
  exact a_ls (lsub_s rfl (lsub_s rfl (lsub_s rfl lsub_0))) (L4 nn17 0 0 _ hK)

def m12_countOf  (V : zV) (a1 : Int) (Q : Int → zV → Prop) : Prop :=
  (inR a1) ∧ (a1 = 0 → Q (V 53 5) V) ∧ (a1 = 1 → m12_struckMany V (fun r58 V58 => Q r58 V58)) ∧ (a1 = 2 → m12_aliveMany V (fun r63 V63 => Q r63 V63)) ∧ (a1 = 3 → m12_openMany V (fun r68 V68 => Q r68 V68)) ∧ (a1 = 4 → m12_lentMany V (fun r73 V73 => Q r73 V73)) ∧ (a1 = 5 → Q (V 53 9) V) ∧ (a1 = 6 → Q (V 53 15) V) ∧ (a1 = 7 → Q (V 53 1) V) ∧ (a1 = 8 → Q (V 53 6) V) ∧ (a1 < 0 ∨ 8 < a1 → Q (-102) V)
def t12_countOf : zT := fun as S V post => ∃ (a1 : Int) (Q : Int → zV → Prop), as = [zR 53, zI a1] ∧ PSm S ∧ m12_countOf V a1 Q ∧ (∀ r V2, Q r V2 → post (some (zI r)) S V2)
set_option maxHeartbeats 4000000 in
set_option maxRecDepth 20000 in
theorem c12_countOf (l : Launch) : zCT l yX12_countOf cX12_countOf 2 (some .int) { frames := 2, cells := 0, slots := 0, locals := 44 } t12_countOf := by
  refine zCT_of (by decide) (fun as S V post h => by obtain ⟨a1, Q, rfl, -⟩ := h; exact Nat.le_of_ble_eq_true rfl) ?_
  intro X S V as post C E hT
  obtain ⟨a1, Q, rfl, hM, hK, hpost⟩ := hT
  obtain ⟨w_53, r_53, h_53, g_53_0, g_53_2, g_53_7, g_53_8, g_53_10, g_53_11, g_53_12, g_53_13, g_53_14, g_53_16, g_53_21, g_53_22, g_53_23, g_53_24⟩ := PSm_53 hM
  show zW X S V 0 0 [some (zR 53), some (zI a1)] [] 0
  unfold m12_countOf at hK
  refine a_iload_n C dX12_countOf_0 rfl ?_
  obtain ⟨q1, hK⟩ := hK
  by_cases q2 : a1 = 0
  · refine a_tswIn C 0 52 dX12_countOf_1 (by omega) q1 (by decide) rfl (by decide) ?_
    replace hK := hK.1 q2
    refine a_aload_n C dX12_countOf_52 rfl ?_
    refine a_getI C fl_X12_91_12 h_53 rfl dX12_countOf_53 (fun r3 => ?_)
    exact a_iret C E dX12_countOf_56 (Nat.le_refl _) (Nat.le_refl _) (hpost _ _ hK)
  replace hK := hK.2
  by_cases q4 : a1 = 1
  · refine a_tswIn C 1 57 dX12_countOf_1 (by omega) q1 (by decide) rfl (by decide) ?_
    replace hK := hK.1 q4
    refine a_aload_n C dX12_countOf_57 rfl ?_
    refine a_callV (as := []) (rest := []) C 0 (fun l => c12_struckMany l) h_53 ⟨_, _, rfl⟩ (by decide) ml_X12_161 im_X12_struckMany se_X12_struckMany in_X12 co_X12_struckMany (by decide +kernel) rfl ⟨Nat.le_of_ble_eq_true rfl, Nat.le_of_ble_eq_true rfl⟩ (Nat.le_of_ble_eq_true rfl) dX12_countOf_58 ⟨Nat.le_of_ble_eq_true rfl, Nat.le_of_ble_eq_true rfl⟩ ?_
    refine ⟨_, rfl, hM, hK, fun r58 V58 hK => ?_⟩
    try dsimp only [Option.toList, List.cons_append, List.nil_append]
    exact a_iret C E dX12_countOf_61 (Nat.le_refl _) (Nat.le_refl _) (hpost _ _ hK)
  replace hK := hK.2
  by_cases q5 : a1 = 2
  · refine a_tswIn C 2 62 dX12_countOf_1 (by omega) q1 (by decide) rfl (by decide) ?_
    replace hK := hK.1 q5
    refine a_aload_n C dX12_countOf_62 rfl ?_
    refine a_callV (as := []) (rest := []) C 0 (fun l => c12_aliveMany l) h_53 ⟨_, _, rfl⟩ (by decide) ml_X12_245 im_X12_aliveMany se_X12_aliveMany in_X12 co_X12_aliveMany (by decide +kernel) rfl ⟨Nat.le_of_ble_eq_true rfl, Nat.le_of_ble_eq_true rfl⟩ (Nat.le_of_ble_eq_true rfl) dX12_countOf_63 ⟨Nat.le_of_ble_eq_true rfl, Nat.le_of_ble_eq_true rfl⟩ ?_
    refine ⟨_, rfl, hM, hK, fun r63 V63 hK => ?_⟩
    try dsimp only [Option.toList, List.cons_append, List.nil_append]
    exact a_iret C E dX12_countOf_66 (Nat.le_refl _) (Nat.le_refl _) (hpost _ _ hK)
  replace hK := hK.2
  by_cases q6 : a1 = 3
  · refine a_tswIn C 3 67 dX12_countOf_1 (by omega) q1 (by decide) rfl (by decide) ?_
    replace hK := hK.1 q6
    refine a_aload_n C dX12_countOf_67 rfl ?_
    refine a_callV (as := []) (rest := []) C 0 (fun l => c12_openMany l) h_53 ⟨_, _, rfl⟩ (by decide) ml_X12_248 im_X12_openMany se_X12_openMany in_X12 co_X12_openMany (by decide +kernel) rfl ⟨Nat.le_of_ble_eq_true rfl, Nat.le_of_ble_eq_true rfl⟩ (Nat.le_of_ble_eq_true rfl) dX12_countOf_68 ⟨Nat.le_of_ble_eq_true rfl, Nat.le_of_ble_eq_true rfl⟩ ?_
    refine ⟨_, rfl, hM, hK, fun r68 V68 hK => ?_⟩
    try dsimp only [Option.toList, List.cons_append, List.nil_append]
    exact a_iret C E dX12_countOf_71 (Nat.le_refl _) (Nat.le_refl _) (hpost _ _ hK)
  replace hK := hK.2
  by_cases q7 : a1 = 4
  · refine a_tswIn C 4 72 dX12_countOf_1 (by omega) q1 (by decide) rfl (by decide) ?_
    replace hK := hK.1 q7
    refine a_aload_n C dX12_countOf_72 rfl ?_
    refine a_callV (as := []) (rest := []) C 0 (fun l => c12_lentMany l) h_53 ⟨_, _, rfl⟩ (by decide) ml_X12_257 im_X12_lentMany se_X12_lentMany in_X12 co_X12_lentMany (by decide +kernel) rfl ⟨Nat.le_of_ble_eq_true rfl, Nat.le_of_ble_eq_true rfl⟩ (Nat.le_of_ble_eq_true rfl) dX12_countOf_73 ⟨Nat.le_of_ble_eq_true rfl, Nat.le_of_ble_eq_true rfl⟩ ?_
    refine ⟨_, rfl, hM, hK, fun r73 V73 hK => ?_⟩
    try dsimp only [Option.toList, List.cons_append, List.nil_append]
    exact a_iret C E dX12_countOf_76 (Nat.le_refl _) (Nat.le_refl _) (hpost _ _ hK)
  replace hK := hK.2
  by_cases q8 : a1 = 5
  · refine a_tswIn C 5 77 dX12_countOf_1 (by omega) q1 (by decide) rfl (by decide) ?_
    replace hK := hK.1 q8
    refine a_aload_n C dX12_countOf_77 rfl ?_
    refine a_getI C fl_X12_94_12 h_53 rfl dX12_countOf_78 (fun r9 => ?_)
    exact a_iret C E dX12_countOf_81 (Nat.le_refl _) (Nat.le_refl _) (hpost _ _ hK)
  replace hK := hK.2
  by_cases q10 : a1 = 6
  · refine a_tswIn C 6 82 dX12_countOf_1 (by omega) q1 (by decide) rfl (by decide) ?_
    replace hK := hK.1 q10
    refine a_aload_n C dX12_countOf_82 rfl ?_
    refine a_getI C fl_X12_97_12 h_53 rfl dX12_countOf_83 (fun r11 => ?_)
    exact a_iret C E dX12_countOf_86 (Nat.le_refl _) (Nat.le_refl _) (hpost _ _ hK)
  replace hK := hK.2
  by_cases q12 : a1 = 7
  · refine a_tswIn C 7 87 dX12_countOf_1 (by omega) q1 (by decide) rfl (by decide) ?_
    replace hK := hK.1 q12
    refine a_aload_n C dX12_countOf_87 rfl ?_
    refine a_getI C fl_X12_66_12 h_53 rfl dX12_countOf_88 (fun r13 => ?_)
    exact a_iret C E dX12_countOf_91 (Nat.le_refl _) (Nat.le_refl _) (hpost _ _ hK)
  replace hK := hK.2
  by_cases q14 : a1 = 8
  · refine a_tswIn C 8 92 dX12_countOf_1 (by omega) q1 (by decide) rfl (by decide) ?_
    replace hK := hK.1 q14
    refine a_aload_n C dX12_countOf_92 rfl ?_
    refine a_getI C fl_X12_100_12 h_53 rfl dX12_countOf_93 (fun r15 => ?_)
    exact a_iret C E dX12_countOf_96 (Nat.le_refl _) (Nat.le_refl _) (hpost _ _ hK)
  replace hK := hK.2
  have q16 : a1 < 0 ∨ 8 < a1 := by omega
  refine a_tswOut C 97 dX12_countOf_1 q1 q16 (by decide) ?_
  replace hK := hK q16
  refine a_bipush C dX12_countOf_97 (by decide) ?_
  exact a_iret C E dX12_countOf_99 (Nat.le_refl _) (Nat.le_refl _) (hpost _ _ hK)

def m12_count  (V : zV) (a1 : Int) (Q : Int → zV → Prop) : Prop :=
  m12_countOf V a1 (fun r2 V2 => Q r2 V2)
def t12_count : zT := fun as S V post => ∃ (a1 : Int) (Q : Int → zV → Prop), as = [zR 53, zI a1] ∧ PSm S ∧ m12_count V a1 Q ∧ (∀ r V2, Q r V2 → post (some (zI r)) S V2)
set_option maxHeartbeats 4000000 in
set_option maxRecDepth 20000 in
theorem c12_count (l : Launch) : zCT l yX12_count cX12_count 2 (some .int) { frames := 3, cells := 0, slots := 0, locals := 65 } t12_count := by
  refine zCT_of (by decide) (fun as S V post h => by obtain ⟨a1, Q, rfl, -⟩ := h; exact Nat.le_of_ble_eq_true rfl) ?_
  intro X S V as post C E hT
  obtain ⟨a1, Q, rfl, hM, hK, hpost⟩ := hT
  obtain ⟨w_53, r_53, h_53, g_53_0, g_53_2, g_53_7, g_53_8, g_53_10, g_53_11, g_53_12, g_53_13, g_53_14, g_53_16, g_53_21, g_53_22, g_53_23, g_53_24⟩ := PSm_53 hM
  show zW X S V 0 0 [some (zR 53), some (zI a1)] [] 0
  unfold m12_count at hK
  refine a_aload_n C dX12_count_0 rfl ?_
  refine a_iload_n C dX12_count_1 rfl ?_
  refine a_callV (as := [zI a1]) (rest := []) C 1 (fun l => c12_countOf l) h_53 ⟨_, _, rfl⟩ (by decide) ml_X12_260 im_X12_countOf se_X12_countOf in_X12 co_X12_countOf (by decide +kernel) rfl ⟨Nat.le_of_ble_eq_true rfl, Nat.le_of_ble_eq_true rfl⟩ (Nat.le_of_ble_eq_true rfl) dX12_count_2 ⟨Nat.le_of_ble_eq_true rfl, Nat.le_of_ble_eq_true rfl⟩ ?_
  refine ⟨a1, _, rfl, hM, hK, fun r2 V2 hK => ?_⟩
  try dsimp only [Option.toList, List.cons_append, List.nil_append]
  exact a_iret C E dX12_count_5 (Nat.le_refl _) (Nat.le_refl _) (hpost _ _ hK)

def m12_say  (V : zV) (a1 : Int) (Q : zV → Prop) : Prop :=
  Q (vset V 53 25 (wrL ((31 * (V 53 25)) + a1)))
def t12_say : zT := fun as S V post => ∃ (a1 : Int) (Q : zV → Prop), as = [zR 53, zJ a1] ∧ PSm S ∧ m12_say V a1 Q ∧ (∀ V2, Q V2 → post none S V2)
set_option maxHeartbeats 4000000 in
set_option maxRecDepth 20000 in
theorem c12_say (l : Launch) : zCT l yX12_say cX12_say 3 none { frames := 0, cells := 0, slots := 0, locals := 0 } t12_say := by
  refine zCT_of (by decide) (fun as S V post h => by obtain ⟨a1, Q, rfl, -⟩ := h; exact Nat.le_of_ble_eq_true rfl) ?_
  intro X S V as post C E hT
  obtain ⟨a1, Q, rfl, hM, hK, hpost⟩ := hT
  obtain ⟨w_53, r_53, h_53, g_53_0, g_53_2, g_53_7, g_53_8, g_53_10, g_53_11, g_53_12, g_53_13, g_53_14, g_53_16, g_53_21, g_53_22, g_53_23, g_53_24⟩ := PSm_53 hM
  show zW X S V 0 0 [some (zR 53), some (zJ a1), none] [] 0
  unfold m12_say at hK
  refine a_aload_n C dX12_say_0 rfl ?_
  refine a_ldc2 C kl_X12_263 dX12_say_1 ?_
  refine a_aload_n C dX12_say_4 rfl ?_
  refine a_getJ C fl_X12_265_12 h_53 rfl dX12_say_5 (fun r1 => ?_)
  refine a_lmul C dX12_say_8 ?_
  refine a_lload_n C dX12_say_9 rfl ?_
  refine a_ladd C dX12_say_10 ?_
  refine a_wrapL ?_
  refine a_putJ C fl_X12_265_12 h_53 rfl dX12_say_11 (wrL_in _) ?_
  exact a_vret C E dX12_say_14 (Nat.le_refl _) (Nat.le_refl _) (hpost _ hK)

def m12_digest_L205  (Q : Int → zV → Prop) : Nat → Int → zV → Prop
  | 0 => fun _ _ => False
  | n + 1 => fun a1 V => (inR a1) ∧ ((9 ≤ a1 → Q (V 53 25) V) ∧ (a1 < 9 → m12_countOf V a1 (fun r214 V214 => (inR r214) ∧ m12_say V214 r214 (fun V218 => m12_digest_L205  Q n (a1 + 1) V218))))
def m12_digest_L178  (Q : Int → zV → Prop) : Nat → Int → zV → Prop
  | 0 => fun _ _ => False
  | n + 1 => fun a1 V => (inR a1) ∧ (((V 53 1) ≤ a1 → ∃ nn21, m12_digest_L205  Q nn21 0 V) ∧ (a1 < (V 53 1) → (0 ≤ a1 ∧ a1 < 40) ∧ m12_say V (V 54 (a1).toNat) (fun V194 => m12_digest_L178  Q n (a1 + 1) V194)))
def m12_digest_L89  (Q : Int → zV → Prop) : Nat → Int → zV → Prop
  | 0 => fun _ _ => False
  | n + 1 => fun a1 V => (inR a1) ∧ ((36 ≤ a1 → m12_lacks V (fun r130 V130 => (inR r130) ∧ ((¬ r130 = 0 → ∃ nn38, m12_digest_L178  Q nn38 0 V130) ∧ (r130 = 0 → m12_marryOf V130 0 (fun r139 V139 => (inR r139) ∧ m12_say V139 r139 (fun V143 => m12_marryOf V143 1 (fun r149 V149 => (inR r149) ∧ m12_say V149 r149 (fun V153 => m12_lapsedOf V153 0 (fun r159 V159 => (inR r159) ∧ m12_say V159 r159 (fun V163 => m12_lapsedOf V163 1 (fun r169 V169 => (inR r169) ∧ m12_say V169 r169 (fun V173 => ∃ nn71, m12_digest_L178  Q nn71 0 V173)))))))))))) ∧ (a1 < 36 → (0 ≤ a1 ∧ a1 < 2147483648) ∧ (0 ≤ a1 ∧ a1 < 2147483648) ∧ (inR (a1 / 6)) ∧ (inR (a1 % 6)) ∧ (((a1 / 6) = (a1 % 6) → m12_digest_L89  Q n (a1 + 1) V) ∧ (¬ (a1 / 6) = (a1 % 6) → (0 ≤ a1 ∧ a1 < 2147483648) ∧ (0 ≤ a1 ∧ a1 < 2147483648) ∧ m12_harmOf V (a1 / 6) (a1 % 6) (fun r116 V116 => (inR r116) ∧ m12_say V116 r116 (fun V120 => m12_digest_L89  Q n (a1 + 1) V120))))))
def m12_digest_L58 (k50 : Int → zV → Prop) (Q : Int → zV → Prop) : Nat → Int → Int → zV → Prop
  | 0 => fun _ _ _ => False
  | n + 1 => fun a1 a2 V => (inR a2) ∧ ((6 ≤ a2 → k50 (a1 + 1) V) ∧ (a2 < 6 → m12_tellMan V a1 a2 (fun r68 V68 => (inR r68) ∧ m12_say V68 r68 (fun V72 => m12_digest_L58 k50 Q n a1 (a2 + 1) V72))))
def m12_digest_L50  (Q : Int → zV → Prop) : Nat → Int → zV → Prop
  | 0 => fun _ _ => False
  | n + 1 => fun a1 V => (inR a1) ∧ ((6 ≤ a1 → ∃ nn154, m12_digest_L89  Q nn154 0 V) ∧ (a1 < 6 → ∃ nn161, m12_digest_L58 (m12_digest_L50  Q n) Q nn161 a1 0 V))
def m12_digest_L19 (k9 : Int → zV → Prop) (Q : Int → zV → Prop) : Nat → Int → Int → zV → Prop
  | 0 => fun _ _ _ => False
  | n + 1 => fun a1 a2 V => (inR a2) ∧ ((9 ≤ a2 → k9 (a1 + 1) V) ∧ (a2 < 9 → m12_tell V a1 a2 (fun r29 V29 => (inR r29) ∧ m12_say V29 r29 (fun V33 => m12_digest_L19 k9 Q n a1 (a2 + 1) V33))))
def m12_digest_L9  (Q : Int → zV → Prop) : Nat → Int → zV → Prop
  | 0 => fun _ _ => False
  | n + 1 => fun a1 V => (inR a1) ∧ (((V 53 5) ≤ a1 → ∃ nn320, m12_digest_L50  Q nn320 0 V) ∧ (a1 < (V 53 5) → ∃ nn327, m12_digest_L19 (m12_digest_L9  Q n) Q nn327 a1 0 V))
def m12_digest  (V : zV)  (Q : Int → zV → Prop) : Prop :=
  ∃ nn655, m12_digest_L9  Q nn655 0 (vset V 53 25 751)
def t12_digest : zT := fun as S V post => ∃ (Q : Int → zV → Prop), as = [zR 53] ∧ PSm S ∧ m12_digest V Q ∧ (∀ r V2, Q r V2 → post (some (zJ r)) S V2)
set_option maxHeartbeats 4000000 in
set_option maxRecDepth 20000 in
theorem c12_digest (l : Launch) : zCT l yX12_digest cX12_digest 3 (some .long) { frames := 6, cells := 0, slots := 0, locals := 142 } t12_digest := by
  refine zCT_of (by decide) (fun as S V post h => by obtain ⟨Q, rfl, -⟩ := h; exact Nat.le_of_ble_eq_true rfl) ?_
  intro X S V as post C E hT
  obtain ⟨Q, rfl, hM, hK, hpost⟩ := hT
  obtain ⟨w_53, r_53, h_53, g_53_0, g_53_2, g_53_7, g_53_8, g_53_10, g_53_11, g_53_12, g_53_13, g_53_14, g_53_16, g_53_21, g_53_22, g_53_23, g_53_24⟩ := PSm_53 hM
  obtain ⟨r_54, h_54⟩ := PSm_54 hM
  show zW X S V 0 0 [some (zR 53), none, none] [] 0
  unfold m12_digest at hK
  have L9 : ∀ (n : Nat) (a1 : Int) (V : zV), m12_digest_L9  Q n a1 V → zW X S V 0 0 [some (zR 53), some (zI a1), none] [] 9 := by
    intro n9
    induction n9 with
    | zero => intro _ _ hK; exact hK.elim
    | succ n9 ih9 =>
      intro a1 V hK
      unfold m12_digest_L9 at hK
      refine a_iload_n C dX12_digest_9 rfl ?_
      refine a_aload_n C dX12_digest_10 rfl ?_
      refine a_getI C fl_X12_91_12 h_53 rfl dX12_digest_11 (fun r328 => ?_)
      obtain ⟨q329, hK⟩ := hK
      refine a_icmp_ge C 48 dX12_digest_14 (by decide) ⟨q329, r328⟩ (fun q330 => ?_) (fun q330 => ?_)
      · replace hK := hK.1 q330
        have L50 : ∀ (n : Nat) (a1 : Int) (V : zV), m12_digest_L50  Q n a1 V → zW X S V 0 0 [some (zR 53), some (zI a1), none] [] 50 := by
          intro n50
          induction n50 with
          | zero => intro _ _ hK; exact hK.elim
          | succ n50 ih50 =>
            intro a1 V hK
            unfold m12_digest_L50 at hK
            refine a_iload_n C dX12_digest_50 rfl ?_
            refine a_bipush C dX12_digest_51 (by decide) ?_
            obtain ⟨q489, hK⟩ := hK
            refine a_icmp_ge C 87 dX12_digest_53 (by decide) ⟨q489, ⟨by decide, by decide⟩⟩ (fun q490 => ?_) (fun q490 => ?_)
            · replace hK := hK.1 q490
              have L89 : ∀ (n : Nat) (a1 : Int) (V : zV), m12_digest_L89  Q n a1 V → zW X S V 0 0 [some (zR 53), some (zI a1), none] [] 89 := by
                intro n89
                induction n89 with
                | zero => intro _ _ hK; exact hK.elim
                | succ n89 ih89 =>
                  intro a1 V hK
                  unfold m12_digest_L89 at hK
                  refine a_iload_n C dX12_digest_89 rfl ?_
                  refine a_bipush C dX12_digest_90 (by decide) ?_
                  obtain ⟨q565, hK⟩ := hK
                  refine a_icmp_ge C 129 dX12_digest_92 (by decide) ⟨q565, ⟨by decide, by decide⟩⟩ (fun q566 => ?_) (fun q566 => ?_)
                  · replace hK := hK.1 q566
                    refine a_aload_n C dX12_digest_129 rfl ?_
                    refine a_callV (as := []) (rest := []) C 0 (fun l => c12_lacks l) h_53 ⟨_, _, rfl⟩ (by decide) ml_X12_139 im_X12_lacks se_X12_lacks in_X12 co_X12_lacks (by decide +kernel) rfl ⟨Nat.le_of_ble_eq_true rfl, Nat.le_of_ble_eq_true rfl⟩ (Nat.le_of_ble_eq_true rfl) dX12_digest_130 ⟨Nat.le_of_ble_eq_true rfl, Nat.le_of_ble_eq_true rfl⟩ ?_
                    refine ⟨_, rfl, hM, hK, fun r130 V130 hK => ?_⟩
                    try dsimp only [Option.toList, List.cons_append, List.nil_append]
                    obtain ⟨q567, hK⟩ := hK
                    refine a_if_ne C 176 dX12_digest_133 (by decide) q567 (fun q568 => ?_) (fun q568 => ?_)
                    · replace hK := hK.1 q568
                      have L178 : ∀ (n : Nat) (a1 : Int) (V : zV), m12_digest_L178  Q n a1 V → zW X S V 0 0 [some (zR 53), some (zI a1), none] [] 178 := by
                        intro n178
                        induction n178 with
                        | zero => intro _ _ hK; exact hK.elim
                        | succ n178 ih178 =>
                          intro a1 V hK
                          unfold m12_digest_L178 at hK
                          refine a_iload_n C dX12_digest_178 rfl ?_
                          refine a_aload_n C dX12_digest_179 rfl ?_
                          refine a_getI C fl_X12_66_12 h_53 rfl dX12_digest_180 (fun r583 => ?_)
                          obtain ⟨q584, hK⟩ := hK
                          refine a_icmp_ge C 203 dX12_digest_183 (by decide) ⟨q584, r583⟩ (fun q585 => ?_) (fun q585 => ?_)
                          · replace hK := hK.1 q585
                            have L205 : ∀ (n : Nat) (a1 : Int) (V : zV), m12_digest_L205  Q n a1 V → zW X S V 0 0 [some (zR 53), some (zI a1), none] [] 205 := by
                              intro n205
                              induction n205 with
                              | zero => intro _ _ hK; exact hK.elim
                              | succ n205 ih205 =>
                                intro a1 V hK
                                unfold m12_digest_L205 at hK
                                refine a_iload_n C dX12_digest_205 rfl ?_
                                refine a_bipush C dX12_digest_206 (by decide) ?_
                                obtain ⟨q590, hK⟩ := hK
                                refine a_icmp_ge C 227 dX12_digest_208 (by decide) ⟨q590, ⟨by decide, by decide⟩⟩ (fun q591 => ?_) (fun q591 => ?_)
                                · replace hK := hK.1 q591
                                  refine a_aload_n C dX12_digest_227 rfl ?_
                                  refine a_getJ C fl_X12_265_12 h_53 rfl dX12_digest_228 (fun r592 => ?_)
                                  exact a_lret C E dX12_digest_231 (Nat.le_refl _) (Nat.le_refl _) (hpost _ _ hK)
                                · replace hK := hK.2 q591
                                  refine a_aload_n C dX12_digest_211 rfl ?_
                                  refine a_aload_n C dX12_digest_212 rfl ?_
                                  refine a_iload_n C dX12_digest_213 rfl ?_
                                  refine a_callV (as := [zI a1]) (rest := [zR 53]) C 1 (fun l => c12_countOf l) h_53 ⟨_, _, rfl⟩ (by decide) ml_X12_260 im_X12_countOf se_X12_countOf in_X12 co_X12_countOf (by decide +kernel) rfl ⟨Nat.le_of_ble_eq_true rfl, Nat.le_of_ble_eq_true rfl⟩ (Nat.le_of_ble_eq_true rfl) dX12_digest_214 ⟨Nat.le_of_ble_eq_true rfl, Nat.le_of_ble_eq_true rfl⟩ ?_
                                  refine ⟨a1, _, rfl, hM, hK, fun r214 V214 hK => ?_⟩
                                  try dsimp only [Option.toList, List.cons_append, List.nil_append]
                                  obtain ⟨q593, hK⟩ := hK
                                  refine a_i2l C dX12_digest_217 q593 ?_
                                  refine a_callV (as := [zJ r214]) (rest := []) C 1 (fun l => c12_say l) h_53 ⟨_, _, rfl⟩ (by decide) ml_X12_271 im_X12_say se_X12_say in_X12 co_X12_say (by decide +kernel) rfl ⟨Nat.le_of_ble_eq_true rfl, Nat.le_of_ble_eq_true rfl⟩ (Nat.le_of_ble_eq_true rfl) dX12_digest_218 ⟨Nat.le_of_ble_eq_true rfl, Nat.le_of_ble_eq_true rfl⟩ ?_
                                  refine ⟨r214, _, rfl, hM, hK, fun V218 hK => ?_⟩
                                  try dsimp only [Option.toList, List.cons_append, List.nil_append]
                                  refine a_iinc C dX12_digest_221 rfl (Nat.le_of_ble_eq_true rfl) ?_
                                  refine a_goto C 205 dX12_digest_224 (by decide) ?_
                                  exact a_ls (lsub_s rfl (lsub_s rfl (lsub_n lsub_0))) (ih205 (a1 + 1) _ hK)
                            refine a_iconst C dX12_digest_203 ?_
                            refine a_istore_n C dX12_digest_204 (Nat.le_of_ble_eq_true rfl) ?_
                            obtain ⟨nn594, hK⟩ := hK
                            exact a_ls (lsub_s rfl (lsub_s rfl (lsub_n lsub_0))) (L205 nn594 0 _ hK)
                          · replace hK := hK.2 q585
                            refine a_aload_n C dX12_digest_186 rfl ?_
                            refine a_aload_n C dX12_digest_187 rfl ?_
                            refine a_getR C fl_X12_7_12 h_53 rfl g_53_0 dX12_digest_188 ?_
                            refine a_iload_n C dX12_digest_191 rfl ?_
                            obtain ⟨q595, hK⟩ := hK
                            refine a_iald C h_54 dX12_digest_192 (by decide) q595 (fun r596 => ?_)
                            refine a_i2l C dX12_digest_193 r596 ?_
                            refine a_callV (as := [zJ (V 54 (a1).toNat)]) (rest := []) C 1 (fun l => c12_say l) h_53 ⟨_, _, rfl⟩ (by decide) ml_X12_271 im_X12_say se_X12_say in_X12 co_X12_say (by decide +kernel) rfl ⟨Nat.le_of_ble_eq_true rfl, Nat.le_of_ble_eq_true rfl⟩ (Nat.le_of_ble_eq_true rfl) dX12_digest_194 ⟨Nat.le_of_ble_eq_true rfl, Nat.le_of_ble_eq_true rfl⟩ ?_
                            refine ⟨(V 54 (a1).toNat), _, rfl, hM, hK, fun V194 hK => ?_⟩
                            try dsimp only [Option.toList, List.cons_append, List.nil_append]
                            refine a_iinc C dX12_digest_197 rfl (Nat.le_of_ble_eq_true rfl) ?_
                            refine a_goto C 178 dX12_digest_200 (by decide) ?_
                            exact a_ls (lsub_s rfl (lsub_s rfl (lsub_n lsub_0))) (ih178 (a1 + 1) _ hK)
                      refine a_iconst C dX12_digest_176 ?_
                      refine a_istore_n C dX12_digest_177 (Nat.le_of_ble_eq_true rfl) ?_
                      obtain ⟨nn597, hK⟩ := hK
                      exact a_ls (lsub_s rfl (lsub_s rfl (lsub_n lsub_0))) (L178 nn597 0 _ hK)
                    · replace hK := hK.2 q568
                      refine a_aload_n C dX12_digest_136 rfl ?_
                      refine a_aload_n C dX12_digest_137 rfl ?_
                      refine a_iconst C dX12_digest_138 ?_
                      refine a_callV (as := [zI 0]) (rest := [zR 53]) C 1 (fun l => c12_marryOf l) h_53 ⟨_, _, rfl⟩ (by decide) ml_X12_201 im_X12_marryOf se_X12_marryOf in_X12 co_X12_marryOf (by decide +kernel) rfl ⟨Nat.le_of_ble_eq_true rfl, Nat.le_of_ble_eq_true rfl⟩ (Nat.le_of_ble_eq_true rfl) dX12_digest_139 ⟨Nat.le_of_ble_eq_true rfl, Nat.le_of_ble_eq_true rfl⟩ ?_
                      refine ⟨0, _, rfl, hM, hK, fun r139 V139 hK => ?_⟩
                      try dsimp only [Option.toList, List.cons_append, List.nil_append]
                      obtain ⟨q598, hK⟩ := hK
                      refine a_i2l C dX12_digest_142 q598 ?_
                      refine a_callV (as := [zJ r139]) (rest := []) C 1 (fun l => c12_say l) h_53 ⟨_, _, rfl⟩ (by decide) ml_X12_271 im_X12_say se_X12_say in_X12 co_X12_say (by decide +kernel) rfl ⟨Nat.le_of_ble_eq_true rfl, Nat.le_of_ble_eq_true rfl⟩ (Nat.le_of_ble_eq_true rfl) dX12_digest_143 ⟨Nat.le_of_ble_eq_true rfl, Nat.le_of_ble_eq_true rfl⟩ ?_
                      refine ⟨r139, _, rfl, hM, hK, fun V143 hK => ?_⟩
                      try dsimp only [Option.toList, List.cons_append, List.nil_append]
                      refine a_aload_n C dX12_digest_146 rfl ?_
                      refine a_aload_n C dX12_digest_147 rfl ?_
                      refine a_iconst C dX12_digest_148 ?_
                      refine a_callV (as := [zI 1]) (rest := [zR 53]) C 1 (fun l => c12_marryOf l) h_53 ⟨_, _, rfl⟩ (by decide) ml_X12_201 im_X12_marryOf se_X12_marryOf in_X12 co_X12_marryOf (by decide +kernel) rfl ⟨Nat.le_of_ble_eq_true rfl, Nat.le_of_ble_eq_true rfl⟩ (Nat.le_of_ble_eq_true rfl) dX12_digest_149 ⟨Nat.le_of_ble_eq_true rfl, Nat.le_of_ble_eq_true rfl⟩ ?_
                      refine ⟨1, _, rfl, hM, hK, fun r149 V149 hK => ?_⟩
                      try dsimp only [Option.toList, List.cons_append, List.nil_append]
                      obtain ⟨q599, hK⟩ := hK
                      refine a_i2l C dX12_digest_152 q599 ?_
                      refine a_callV (as := [zJ r149]) (rest := []) C 1 (fun l => c12_say l) h_53 ⟨_, _, rfl⟩ (by decide) ml_X12_271 im_X12_say se_X12_say in_X12 co_X12_say (by decide +kernel) rfl ⟨Nat.le_of_ble_eq_true rfl, Nat.le_of_ble_eq_true rfl⟩ (Nat.le_of_ble_eq_true rfl) dX12_digest_153 ⟨Nat.le_of_ble_eq_true rfl, Nat.le_of_ble_eq_true rfl⟩ ?_
                      refine ⟨r149, _, rfl, hM, hK, fun V153 hK => ?_⟩
                      try dsimp only [Option.toList, List.cons_append, List.nil_append]
                      refine a_aload_n C dX12_digest_156 rfl ?_
                      refine a_aload_n C dX12_digest_157 rfl ?_
                      refine a_iconst C dX12_digest_158 ?_
                      refine a_callV (as := [zI 0]) (rest := [zR 53]) C 1 (fun l => c12_lapsedOf l) h_53 ⟨_, _, rfl⟩ (by decide) ml_X12_225 im_X12_lapsedOf se_X12_lapsedOf in_X12 co_X12_lapsedOf (by decide +kernel) rfl ⟨Nat.le_of_ble_eq_true rfl, Nat.le_of_ble_eq_true rfl⟩ (Nat.le_of_ble_eq_true rfl) dX12_digest_159 ⟨Nat.le_of_ble_eq_true rfl, Nat.le_of_ble_eq_true rfl⟩ ?_
                      refine ⟨0, _, rfl, hM, hK, fun r159 V159 hK => ?_⟩
                      try dsimp only [Option.toList, List.cons_append, List.nil_append]
                      obtain ⟨q600, hK⟩ := hK
                      refine a_i2l C dX12_digest_162 q600 ?_
                      refine a_callV (as := [zJ r159]) (rest := []) C 1 (fun l => c12_say l) h_53 ⟨_, _, rfl⟩ (by decide) ml_X12_271 im_X12_say se_X12_say in_X12 co_X12_say (by decide +kernel) rfl ⟨Nat.le_of_ble_eq_true rfl, Nat.le_of_ble_eq_true rfl⟩ (Nat.le_of_ble_eq_true rfl) dX12_digest_163 ⟨Nat.le_of_ble_eq_true rfl, Nat.le_of_ble_eq_true rfl⟩ ?_
                      refine ⟨r159, _, rfl, hM, hK, fun V163 hK => ?_⟩
                      try dsimp only [Option.toList, List.cons_append, List.nil_append]
                      refine a_aload_n C dX12_digest_166 rfl ?_
                      refine a_aload_n C dX12_digest_167 rfl ?_
                      refine a_iconst C dX12_digest_168 ?_
                      refine a_callV (as := [zI 1]) (rest := [zR 53]) C 1 (fun l => c12_lapsedOf l) h_53 ⟨_, _, rfl⟩ (by decide) ml_X12_225 im_X12_lapsedOf se_X12_lapsedOf in_X12 co_X12_lapsedOf (by decide +kernel) rfl ⟨Nat.le_of_ble_eq_true rfl, Nat.le_of_ble_eq_true rfl⟩ (Nat.le_of_ble_eq_true rfl) dX12_digest_169 ⟨Nat.le_of_ble_eq_true rfl, Nat.le_of_ble_eq_true rfl⟩ ?_
                      refine ⟨1, _, rfl, hM, hK, fun r169 V169 hK => ?_⟩
                      try dsimp only [Option.toList, List.cons_append, List.nil_append]
                      obtain ⟨q601, hK⟩ := hK
                      refine a_i2l C dX12_digest_172 q601 ?_
                      refine a_callV (as := [zJ r169]) (rest := []) C 1 (fun l => c12_say l) h_53 ⟨_, _, rfl⟩ (by decide) ml_X12_271 im_X12_say se_X12_say in_X12 co_X12_say (by decide +kernel) rfl ⟨Nat.le_of_ble_eq_true rfl, Nat.le_of_ble_eq_true rfl⟩ (Nat.le_of_ble_eq_true rfl) dX12_digest_173 ⟨Nat.le_of_ble_eq_true rfl, Nat.le_of_ble_eq_true rfl⟩ ?_
                      refine ⟨r169, _, rfl, hM, hK, fun V173 hK => ?_⟩
                      try dsimp only [Option.toList, List.cons_append, List.nil_append]
                      have L178 : ∀ (n : Nat) (a1 : Int) (V : zV), m12_digest_L178  Q n a1 V → zW X S V 0 0 [some (zR 53), some (zI a1), none] [] 178 := by
                        intro n178
                        induction n178 with
                        | zero => intro _ _ hK; exact hK.elim
                        | succ n178 ih178 =>
                          intro a1 V hK
                          unfold m12_digest_L178 at hK
                          refine a_iload_n C dX12_digest_178 rfl ?_
                          refine a_aload_n C dX12_digest_179 rfl ?_
                          refine a_getI C fl_X12_66_12 h_53 rfl dX12_digest_180 (fun r616 => ?_)
                          obtain ⟨q617, hK⟩ := hK
                          refine a_icmp_ge C 203 dX12_digest_183 (by decide) ⟨q617, r616⟩ (fun q618 => ?_) (fun q618 => ?_)
                          · replace hK := hK.1 q618
                            have L205 : ∀ (n : Nat) (a1 : Int) (V : zV), m12_digest_L205  Q n a1 V → zW X S V 0 0 [some (zR 53), some (zI a1), none] [] 205 := by
                              intro n205
                              induction n205 with
                              | zero => intro _ _ hK; exact hK.elim
                              | succ n205 ih205 =>
                                intro a1 V hK
                                unfold m12_digest_L205 at hK
                                refine a_iload_n C dX12_digest_205 rfl ?_
                                refine a_bipush C dX12_digest_206 (by decide) ?_
                                obtain ⟨q623, hK⟩ := hK
                                refine a_icmp_ge C 227 dX12_digest_208 (by decide) ⟨q623, ⟨by decide, by decide⟩⟩ (fun q624 => ?_) (fun q624 => ?_)
                                · replace hK := hK.1 q624
                                  refine a_aload_n C dX12_digest_227 rfl ?_
                                  refine a_getJ C fl_X12_265_12 h_53 rfl dX12_digest_228 (fun r625 => ?_)
                                  exact a_lret C E dX12_digest_231 (Nat.le_refl _) (Nat.le_refl _) (hpost _ _ hK)
                                · replace hK := hK.2 q624
                                  refine a_aload_n C dX12_digest_211 rfl ?_
                                  refine a_aload_n C dX12_digest_212 rfl ?_
                                  refine a_iload_n C dX12_digest_213 rfl ?_
                                  refine a_callV (as := [zI a1]) (rest := [zR 53]) C 1 (fun l => c12_countOf l) h_53 ⟨_, _, rfl⟩ (by decide) ml_X12_260 im_X12_countOf se_X12_countOf in_X12 co_X12_countOf (by decide +kernel) rfl ⟨Nat.le_of_ble_eq_true rfl, Nat.le_of_ble_eq_true rfl⟩ (Nat.le_of_ble_eq_true rfl) dX12_digest_214 ⟨Nat.le_of_ble_eq_true rfl, Nat.le_of_ble_eq_true rfl⟩ ?_
                                  refine ⟨a1, _, rfl, hM, hK, fun r214 V214 hK => ?_⟩
                                  try dsimp only [Option.toList, List.cons_append, List.nil_append]
                                  obtain ⟨q626, hK⟩ := hK
                                  refine a_i2l C dX12_digest_217 q626 ?_
                                  refine a_callV (as := [zJ r214]) (rest := []) C 1 (fun l => c12_say l) h_53 ⟨_, _, rfl⟩ (by decide) ml_X12_271 im_X12_say se_X12_say in_X12 co_X12_say (by decide +kernel) rfl ⟨Nat.le_of_ble_eq_true rfl, Nat.le_of_ble_eq_true rfl⟩ (Nat.le_of_ble_eq_true rfl) dX12_digest_218 ⟨Nat.le_of_ble_eq_true rfl, Nat.le_of_ble_eq_true rfl⟩ ?_
                                  refine ⟨r214, _, rfl, hM, hK, fun V218 hK => ?_⟩
                                  try dsimp only [Option.toList, List.cons_append, List.nil_append]
                                  refine a_iinc C dX12_digest_221 rfl (Nat.le_of_ble_eq_true rfl) ?_
                                  refine a_goto C 205 dX12_digest_224 (by decide) ?_
                                  exact a_ls (lsub_s rfl (lsub_s rfl (lsub_n lsub_0))) (ih205 (a1 + 1) _ hK)
                            refine a_iconst C dX12_digest_203 ?_
                            refine a_istore_n C dX12_digest_204 (Nat.le_of_ble_eq_true rfl) ?_
                            obtain ⟨nn627, hK⟩ := hK
                            exact a_ls (lsub_s rfl (lsub_s rfl (lsub_n lsub_0))) (L205 nn627 0 _ hK)
                          · replace hK := hK.2 q618
                            refine a_aload_n C dX12_digest_186 rfl ?_
                            refine a_aload_n C dX12_digest_187 rfl ?_
                            refine a_getR C fl_X12_7_12 h_53 rfl g_53_0 dX12_digest_188 ?_
                            refine a_iload_n C dX12_digest_191 rfl ?_
                            obtain ⟨q628, hK⟩ := hK
                            refine a_iald C h_54 dX12_digest_192 (by decide) q628 (fun r629 => ?_)
                            refine a_i2l C dX12_digest_193 r629 ?_
                            refine a_callV (as := [zJ (V 54 (a1).toNat)]) (rest := []) C 1 (fun l => c12_say l) h_53 ⟨_, _, rfl⟩ (by decide) ml_X12_271 im_X12_say se_X12_say in_X12 co_X12_say (by decide +kernel) rfl ⟨Nat.le_of_ble_eq_true rfl, Nat.le_of_ble_eq_true rfl⟩ (Nat.le_of_ble_eq_true rfl) dX12_digest_194 ⟨Nat.le_of_ble_eq_true rfl, Nat.le_of_ble_eq_true rfl⟩ ?_
                            refine ⟨(V 54 (a1).toNat), _, rfl, hM, hK, fun V194 hK => ?_⟩
                            try dsimp only [Option.toList, List.cons_append, List.nil_append]
                            refine a_iinc C dX12_digest_197 rfl (Nat.le_of_ble_eq_true rfl) ?_
                            refine a_goto C 178 dX12_digest_200 (by decide) ?_
                            exact a_ls (lsub_s rfl (lsub_s rfl (lsub_n lsub_0))) (ih178 (a1 + 1) _ hK)
                      refine a_iconst C dX12_digest_176 ?_
                      refine a_istore_n C dX12_digest_177 (Nat.le_of_ble_eq_true rfl) ?_
                      obtain ⟨nn630, hK⟩ := hK
                      exact a_ls (lsub_s rfl (lsub_s rfl (lsub_n lsub_0))) (L178 nn630 0 _ hK)
                  · replace hK := hK.2 q566
                    refine a_iload_n C dX12_digest_95 rfl ?_
                    refine a_bipush C dX12_digest_96 (by decide) ?_
                    obtain ⟨q631, hK⟩ := hK
                    refine a_idiv C dX12_digest_98 ⟨q631, by decide, by decide⟩ ?_
                    refine a_iload_n C dX12_digest_99 rfl ?_
                    refine a_bipush C dX12_digest_100 (by decide) ?_
                    obtain ⟨q632, hK⟩ := hK
                    refine a_irem C dX12_digest_102 ⟨q632, by decide, by decide⟩ ?_
                    obtain ⟨q633, hK⟩ := hK
                    obtain ⟨q634, hK⟩ := hK
                    refine a_icmp_eq C 123 dX12_digest_103 (by decide) ⟨q633, q634⟩ (fun q635 => ?_) (fun q635 => ?_)
                    · replace hK := hK.1 q635
                      refine a_iinc C dX12_digest_123 rfl (Nat.le_of_ble_eq_true rfl) ?_
                      refine a_goto C 89 dX12_digest_126 (by decide) ?_
                      exact a_ls (lsub_s rfl (lsub_s rfl (lsub_n lsub_0))) (ih89 (a1 + 1) _ hK)
                    · replace hK := hK.2 q635
                      refine a_aload_n C dX12_digest_106 rfl ?_
                      refine a_aload_n C dX12_digest_107 rfl ?_
                      refine a_iload_n C dX12_digest_108 rfl ?_
                      refine a_bipush C dX12_digest_109 (by decide) ?_
                      obtain ⟨q636, hK⟩ := hK
                      refine a_idiv C dX12_digest_111 ⟨q636, by decide, by decide⟩ ?_
                      refine a_iload_n C dX12_digest_112 rfl ?_
                      refine a_bipush C dX12_digest_113 (by decide) ?_
                      obtain ⟨q637, hK⟩ := hK
                      refine a_irem C dX12_digest_115 ⟨q637, by decide, by decide⟩ ?_
                      refine a_callV (as := [zI (a1 / 6), zI (a1 % 6)]) (rest := [zR 53]) C 2 (fun l => c12_harmOf l) h_53 ⟨_, _, rfl⟩ (by decide) ml_X12_176 im_X12_harmOf se_X12_harmOf in_X12 co_X12_harmOf (by decide +kernel) rfl ⟨Nat.le_of_ble_eq_true rfl, Nat.le_of_ble_eq_true rfl⟩ (Nat.le_of_ble_eq_true rfl) dX12_digest_116 ⟨Nat.le_of_ble_eq_true rfl, Nat.le_of_ble_eq_true rfl⟩ ?_
                      refine ⟨(a1 / 6), (a1 % 6), _, rfl, hM, hK, fun r116 V116 hK => ?_⟩
                      try dsimp only [Option.toList, List.cons_append, List.nil_append]
                      obtain ⟨q638, hK⟩ := hK
                      refine a_i2l C dX12_digest_119 q638 ?_
                      refine a_callV (as := [zJ r116]) (rest := []) C 1 (fun l => c12_say l) h_53 ⟨_, _, rfl⟩ (by decide) ml_X12_271 im_X12_say se_X12_say in_X12 co_X12_say (by decide +kernel) rfl ⟨Nat.le_of_ble_eq_true rfl, Nat.le_of_ble_eq_true rfl⟩ (Nat.le_of_ble_eq_true rfl) dX12_digest_120 ⟨Nat.le_of_ble_eq_true rfl, Nat.le_of_ble_eq_true rfl⟩ ?_
                      refine ⟨r116, _, rfl, hM, hK, fun V120 hK => ?_⟩
                      try dsimp only [Option.toList, List.cons_append, List.nil_append]
                      refine a_iinc C dX12_digest_123 rfl (Nat.le_of_ble_eq_true rfl) ?_
                      refine a_goto C 89 dX12_digest_126 (by decide) ?_
                      exact a_ls (lsub_s rfl (lsub_s rfl (lsub_n lsub_0))) (ih89 (a1 + 1) _ hK)
              refine a_iconst C dX12_digest_87 ?_
              refine a_istore_n C dX12_digest_88 (Nat.le_of_ble_eq_true rfl) ?_
              obtain ⟨nn639, hK⟩ := hK
              exact a_ls (lsub_s rfl (lsub_s rfl (lsub_n lsub_0))) (L89 nn639 0 _ hK)
            · replace hK := hK.2 q490
              have L58 : ∀ (n : Nat) (a1 : Int) (a2 : Int) (V : zV), m12_digest_L58 (m12_digest_L50  Q n50) Q n a1 a2 V → zW X S V 0 0 [some (zR 53), some (zI a1), some (zI a2)] [] 58 := by
                intro n58
                induction n58 with
                | zero => intro _ _ _ hK; exact hK.elim
                | succ n58 ih58 =>
                  intro a1 a2 V hK
                  unfold m12_digest_L58 at hK
                  refine a_iload_n C dX12_digest_58 rfl ?_
                  refine a_bipush C dX12_digest_59 (by decide) ?_
                  obtain ⟨q643, hK⟩ := hK
                  refine a_icmp_ge C 81 dX12_digest_61 (by decide) ⟨q643, ⟨by decide, by decide⟩⟩ (fun q644 => ?_) (fun q644 => ?_)
                  · replace hK := hK.1 q644
                    refine a_iinc C dX12_digest_81 rfl (Nat.le_of_ble_eq_true rfl) ?_
                    refine a_goto C 50 dX12_digest_84 (by decide) ?_
                    exact a_ls (lsub_s rfl (lsub_s rfl (lsub_n lsub_0))) (ih50 (a1 + 1) _ hK)
                  · replace hK := hK.2 q644
                    refine a_aload_n C dX12_digest_64 rfl ?_
                    refine a_aload_n C dX12_digest_65 rfl ?_
                    refine a_iload_n C dX12_digest_66 rfl ?_
                    refine a_iload_n C dX12_digest_67 rfl ?_
                    refine a_callV (as := [zI a1, zI a2]) (rest := [zR 53]) C 2 (fun l => c12_tellMan l) h_53 ⟨_, _, rfl⟩ (by decide) ml_X12_136 im_X12_tellMan se_X12_tellMan in_X12 co_X12_tellMan (by decide +kernel) rfl ⟨Nat.le_of_ble_eq_true rfl, Nat.le_of_ble_eq_true rfl⟩ (Nat.le_of_ble_eq_true rfl) dX12_digest_68 ⟨Nat.le_of_ble_eq_true rfl, Nat.le_of_ble_eq_true rfl⟩ ?_
                    refine ⟨a1, a2, _, rfl, hM, hK, fun r68 V68 hK => ?_⟩
                    try dsimp only [Option.toList, List.cons_append, List.nil_append]
                    obtain ⟨q645, hK⟩ := hK
                    refine a_i2l C dX12_digest_71 q645 ?_
                    refine a_callV (as := [zJ r68]) (rest := []) C 1 (fun l => c12_say l) h_53 ⟨_, _, rfl⟩ (by decide) ml_X12_271 im_X12_say se_X12_say in_X12 co_X12_say (by decide +kernel) rfl ⟨Nat.le_of_ble_eq_true rfl, Nat.le_of_ble_eq_true rfl⟩ (Nat.le_of_ble_eq_true rfl) dX12_digest_72 ⟨Nat.le_of_ble_eq_true rfl, Nat.le_of_ble_eq_true rfl⟩ ?_
                    refine ⟨r68, _, rfl, hM, hK, fun V72 hK => ?_⟩
                    try dsimp only [Option.toList, List.cons_append, List.nil_append]
                    refine a_iinc C dX12_digest_75 rfl (Nat.le_of_ble_eq_true rfl) ?_
                    refine a_goto C 58 dX12_digest_78 (by decide) ?_
                    exact a_ls (lsub_s rfl (lsub_s rfl (lsub_s rfl lsub_0))) (ih58 a1 (a2 + 1) _ hK)
              refine a_iconst C dX12_digest_56 ?_
              refine a_istore_n C dX12_digest_57 (Nat.le_of_ble_eq_true rfl) ?_
              obtain ⟨nn646, hK⟩ := hK
              exact a_ls (lsub_s rfl (lsub_s rfl (lsub_s rfl lsub_0))) (L58 nn646 a1 0 _ hK)
        refine a_iconst C dX12_digest_48 ?_
        refine a_istore_n C dX12_digest_49 (Nat.le_of_ble_eq_true rfl) ?_
        obtain ⟨nn647, hK⟩ := hK
        exact a_ls (lsub_s rfl (lsub_s rfl (lsub_n lsub_0))) (L50 nn647 0 _ hK)
      · replace hK := hK.2 q330
        have L19 : ∀ (n : Nat) (a1 : Int) (a2 : Int) (V : zV), m12_digest_L19 (m12_digest_L9  Q n9) Q n a1 a2 V → zW X S V 0 0 [some (zR 53), some (zI a1), some (zI a2)] [] 19 := by
          intro n19
          induction n19 with
          | zero => intro _ _ _ hK; exact hK.elim
          | succ n19 ih19 =>
            intro a1 a2 V hK
            unfold m12_digest_L19 at hK
            refine a_iload_n C dX12_digest_19 rfl ?_
            refine a_bipush C dX12_digest_20 (by decide) ?_
            obtain ⟨q651, hK⟩ := hK
            refine a_icmp_ge C 42 dX12_digest_22 (by decide) ⟨q651, ⟨by decide, by decide⟩⟩ (fun q652 => ?_) (fun q652 => ?_)
            · replace hK := hK.1 q652
              refine a_iinc C dX12_digest_42 rfl (Nat.le_of_ble_eq_true rfl) ?_
              refine a_goto C 9 dX12_digest_45 (by decide) ?_
              exact a_ls (lsub_s rfl (lsub_s rfl (lsub_n lsub_0))) (ih9 (a1 + 1) _ hK)
            · replace hK := hK.2 q652
              refine a_aload_n C dX12_digest_25 rfl ?_
              refine a_aload_n C dX12_digest_26 rfl ?_
              refine a_iload_n C dX12_digest_27 rfl ?_
              refine a_iload_n C dX12_digest_28 rfl ?_
              refine a_callV (as := [zI a1, zI a2]) (rest := [zR 53]) C 2 (fun l => c12_tell l) h_53 ⟨_, _, rfl⟩ (by decide) ml_X12_125 im_X12_tell se_X12_tell in_X12 co_X12_tell (by decide +kernel) rfl ⟨Nat.le_of_ble_eq_true rfl, Nat.le_of_ble_eq_true rfl⟩ (Nat.le_of_ble_eq_true rfl) dX12_digest_29 ⟨Nat.le_of_ble_eq_true rfl, Nat.le_of_ble_eq_true rfl⟩ ?_
              refine ⟨a1, a2, _, rfl, hM, hK, fun r29 V29 hK => ?_⟩
              try dsimp only [Option.toList, List.cons_append, List.nil_append]
              obtain ⟨q653, hK⟩ := hK
              refine a_i2l C dX12_digest_32 q653 ?_
              refine a_callV (as := [zJ r29]) (rest := []) C 1 (fun l => c12_say l) h_53 ⟨_, _, rfl⟩ (by decide) ml_X12_271 im_X12_say se_X12_say in_X12 co_X12_say (by decide +kernel) rfl ⟨Nat.le_of_ble_eq_true rfl, Nat.le_of_ble_eq_true rfl⟩ (Nat.le_of_ble_eq_true rfl) dX12_digest_33 ⟨Nat.le_of_ble_eq_true rfl, Nat.le_of_ble_eq_true rfl⟩ ?_
              refine ⟨r29, _, rfl, hM, hK, fun V33 hK => ?_⟩
              try dsimp only [Option.toList, List.cons_append, List.nil_append]
              refine a_iinc C dX12_digest_36 rfl (Nat.le_of_ble_eq_true rfl) ?_
              refine a_goto C 19 dX12_digest_39 (by decide) ?_
              exact a_ls (lsub_s rfl (lsub_s rfl (lsub_s rfl lsub_0))) (ih19 a1 (a2 + 1) _ hK)
        refine a_iconst C dX12_digest_17 ?_
        refine a_istore_n C dX12_digest_18 (Nat.le_of_ble_eq_true rfl) ?_
        obtain ⟨nn654, hK⟩ := hK
        exact a_ls (lsub_s rfl (lsub_s rfl (lsub_s rfl lsub_0))) (L19 nn654 a1 0 _ hK)
  refine a_aload_n C dX12_digest_0 rfl ?_
  refine a_ldc2 C kl_X12_269 dX12_digest_1 ?_
  refine a_putJ C fl_X12_265_12 h_53 rfl dX12_digest_4 ⟨by decide, by decide⟩ ?_
  refine a_iconst C dX12_digest_7 ?_
  refine a_istore_n C dX12_digest_8 (Nat.le_of_ble_eq_true rfl) ?_
  obtain ⟨nn655, hK⟩ := hK
  exact a_ls (lsub_s rfl (lsub_s rfl (lsub_n lsub_0))) (L9 nn655 0 _ hK)
