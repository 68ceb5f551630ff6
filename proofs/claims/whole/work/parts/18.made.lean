/-! ===== makings ===== -/
def rfs : List (Nat × Nat) → Nat → Option Nat
  | [] => fun _ => none
  | (k, r) :: l => va_up (rfs l) k (some r)
section ZK
variable {X : zM} {cc : ByteArray} {nL : Nat} {own nm : String} {rm : Room} {S : List zC} {V : zV} {nc ns pc : Nat} {al : List (Option zA)} {st : List zA} {idx tag : Nat}
theorem a_eqS {S' : List zC} (h : S = S') (k : zW X S' V nc ns al st pc) : zW X S V nc ns al st pc := h ▸ k
theorem a_newC (C : zCX X cc nL own nm rm) (F : zN own idx tag) (N n : Nat) (hN : N = (fkt tag).length) (hN2 : ∃ C T, vwCl[tag]? = some (C, T, N)) (hd : decode cc pc = .ok (.new idx, 3)) (hlen : S.length = n) (hn : n < 999999) (hc : nc + 1 ≤ rm.cells) (hs : ns + N ≤ rm.slots) (kk : zW X (S ++ [(tag, 0, rfs [])]) (vrow V n (fun _ => 0)) (nc + 1) (ns + N) al (zR n :: st) (pc + 3)) : zW X S V nc ns al st pc := by
  subst hlen
  exact a_new C F N hN hN2 hd hn hc hs kk
theorem a_newaC (C : zCX X cc nL own nm rm) {atype : ArrayType} {ty : FieldType} {t : Nat} (n : Nat) (hat : (t = 13 ∧ ty = .int) ∨ (t = 14 ∧ ty = .boolean) ∨ (t = 15 ∧ ty = .long)) (harr : Cond.arrayClass ty ∈ TB) (hty : newarray.typeOf atype = ty) (hd : decode cc pc = .ok (.newarray atype, 2)) {z : Int} (hn0 : 0 ≤ z ∧ z ≤ 100000) (hlen : S.length = n) (hn : n < 999999) (hc : nc + 1 ≤ rm.cells) (hs : ns + z.toNat ≤ rm.slots) (kk : zW X (S ++ [(t, z, rfs [])]) (vrow V n (fun _ => 0)) (nc + 1) (ns + z.toNat) al (zR n :: st) (pc + 2)) : zW X S V nc ns al (zI z :: st) pc := by
  subst hlen
  exact a_newa C hat harr hty hd hn0 hn hc hs kk
theorem a_anewC (C : zCX X cc nL own nm rm) (n : Nat) (hcl : Cond.classLink own idx "ClosedFeuds$Feud" ∈ TB) (hd : decode cc pc = .ok (.anewarray idx, 3)) {z : Int} (hn0 : 0 ≤ z ∧ z ≤ 100000) (hlen : S.length = n) (hn : n < 999999) (hc : nc + 1 ≤ rm.cells) (hs : ns + z.toNat ≤ rm.slots) (kk : zW X (S ++ [(16, z, rfs [])]) (vrow V n (fun _ => 0)) (nc + 1) (ns + z.toNat) al (zR n :: st) (pc + 3)) : zW X S V nc ns al (zI z :: st) pc := by
  subst hlen
  exact a_anew C hcl hd hn0 hn hc hs kk
end ZK
def tIn : zT := fun as S V post => ∃ (c tag : Nat) (w0 w : Int) (rf : Nat → Option Nat), as = [zR c, zI w] ∧ S[c]? = some (tag, w0, rf) ∧ isFt tag ∧ post none (S.set c (tag, w, rf)) V
theorem cIn_X2 (l : Launch) : zCT l yX2_init cX2_init 2 none { frames := 1, cells := 0, slots := 0, locals := 12 } tIn := by
  refine zCT_of (by decide) (fun as S V post h => by obtain ⟨c, tag, w0, w, rf, rfl, -⟩ := h; exact Nat.le_of_ble_eq_true rfl) ?_
  intro X S V as post C E hT
  obtain ⟨c, tag, w0, w, rf, rfl, hs, ht, hK⟩ := hT
  show zW X S V 0 0 [some (zR c), some (zI w)] [] 0
  refine a_aload_n C dX2_init_0 rfl ?_
  refine a_objInit C ml_X2_3 im_objectInit co_objectInit dX2_init_1 (by decide) (by decide) ?_
  refine a_aload_n C dX2_init_4 rfl ?_
  refine a_iload_n C dX2_init_5 rfl ?_
  rcases ht with rfl | rfl | rfl | rfl | rfl
  · exact a_putW C fl_X2_9_0 ⟨_, _, _, rfl, rfl⟩ hs rfl rfl dX2_init_6 (a_vret C E dX2_init_9 (Nat.le_refl _) (Nat.le_refl _) hK)
  · exact a_putW C fl_X2_9_2 ⟨_, _, _, rfl, rfl⟩ hs rfl rfl dX2_init_6 (a_vret C E dX2_init_9 (Nat.le_refl _) (Nat.le_refl _) hK)
  · exact a_putW C fl_X2_9_3 ⟨_, _, _, rfl, rfl⟩ hs rfl rfl dX2_init_6 (a_vret C E dX2_init_9 (Nat.le_refl _) (Nat.le_refl _) hK)
  · exact a_putW C fl_X2_9_5 ⟨_, _, _, rfl, rfl⟩ hs rfl rfl dX2_init_6 (a_vret C E dX2_init_9 (Nat.le_refl _) (Nat.le_refl _) hK)
  · exact a_putW C fl_X2_9_9 ⟨_, _, _, rfl, rfl⟩ hs rfl rfl dX2_init_6 (a_vret C E dX2_init_9 (Nat.le_refl _) (Nat.le_refl _) hK)
theorem cIn_X0 (l : Launch) : zCT l yX0_init cX0_init 2 none { frames := 2, cells := 0, slots := 0, locals := 33 } tIn := by
  refine zCT_of (by decide) (fun as S V post h => by obtain ⟨c, tag, w0, w, rf, rfl, -⟩ := h; exact Nat.le_of_ble_eq_true rfl) ?_
  intro X S V as post C E hT
  obtain ⟨c, tag, w0, w, rf, rfl, hs, ht, hK⟩ := hT
  show zW X S V 0 0 [some (zR c), some (zI w)] [] 0
  refine a_aload_n C dX0_init_0 rfl ?_
  refine a_iload_n C dX0_init_1 rfl ?_
  refine a_callI (as := [zI w]) (rest := []) C 1 (fun l => cIn_X2 l) rfl ml_X0_3 im_X2_init in_X2 co_X2_init (by decide +kernel) rfl ⟨Nat.le_of_ble_eq_true rfl, Nat.le_of_ble_eq_true rfl⟩ (Nat.le_of_ble_eq_true rfl) dX0_init_2 ⟨Nat.le_of_ble_eq_true rfl, Nat.le_of_ble_eq_true rfl⟩ ?_
  refine ⟨c, tag, w0, w, rf, rfl, hs, ht, ?_⟩
  exact a_vret C E dX0_init_5 (Nat.le_refl _) (Nat.le_refl _) hK
theorem cIn_X5 (l : Launch) : zCT l yX5_init cX5_init 2 none { frames := 2, cells := 0, slots := 0, locals := 33 } tIn := by
  refine zCT_of (by decide) (fun as S V post h => by obtain ⟨c, tag, w0, w, rf, rfl, -⟩ := h; exact Nat.le_of_ble_eq_true rfl) ?_
  intro X S V as post C E hT
  obtain ⟨c, tag, w0, w, rf, rfl, hs, ht, hK⟩ := hT
  show zW X S V 0 0 [some (zR c), some (zI w)] [] 0
  refine a_aload_n C dX5_init_0 rfl ?_
  refine a_iload_n C dX5_init_1 rfl ?_
  refine a_callI (as := [zI w]) (rest := []) C 1 (fun l => cIn_X2 l) rfl ml_X5_3 im_X2_init in_X2 co_X2_init (by decide +kernel) rfl ⟨Nat.le_of_ble_eq_true rfl, Nat.le_of_ble_eq_true rfl⟩ (Nat.le_of_ble_eq_true rfl) dX5_init_2 ⟨Nat.le_of_ble_eq_true rfl, Nat.le_of_ble_eq_true rfl⟩ ?_
  refine ⟨c, tag, w0, w, rf, rfl, hs, ht, ?_⟩
  exact a_vret C E dX5_init_5 (Nat.le_refl _) (Nat.le_refl _) hK
theorem cIn_X3 (l : Launch) : zCT l yX3_init cX3_init 2 none { frames := 2, cells := 0, slots := 0, locals := 33 } tIn := by
  refine zCT_of (by decide) (fun as S V post h => by obtain ⟨c, tag, w0, w, rf, rfl, -⟩ := h; exact Nat.le_of_ble_eq_true rfl) ?_
  intro X S V as post C E hT
  obtain ⟨c, tag, w0, w, rf, rfl, hs, ht, hK⟩ := hT
  show zW X S V 0 0 [some (zR c), some (zI w)] [] 0
  refine a_aload_n C dX3_init_0 rfl ?_
  refine a_iload_n C dX3_init_1 rfl ?_
  refine a_callI (as := [zI w]) (rest := []) C 1 (fun l => cIn_X2 l) rfl ml_X3_3 im_X2_init in_X2 co_X2_init (by decide +kernel) rfl ⟨Nat.le_of_ble_eq_true rfl, Nat.le_of_ble_eq_true rfl⟩ (Nat.le_of_ble_eq_true rfl) dX3_init_2 ⟨Nat.le_of_ble_eq_true rfl, Nat.le_of_ble_eq_true rfl⟩ ?_
  refine ⟨c, tag, w0, w, rf, rfl, hs, ht, ?_⟩
  exact a_vret C E dX3_init_5 (Nat.le_refl _) (Nat.le_refl _) hK
theorem cIn_X9 (l : Launch) : zCT l yX9_init cX9_init 2 none { frames := 3, cells := 0, slots := 0, locals := 54 } tIn := by
  refine zCT_of (by decide) (fun as S V post h => by obtain ⟨c, tag, w0, w, rf, rfl, -⟩ := h; exact Nat.le_of_ble_eq_true rfl) ?_
  intro X S V as post C E hT
  obtain ⟨c, tag, w0, w, rf, rfl, hs, ht, hK⟩ := hT
  show zW X S V 0 0 [some (zR c), some (zI w)] [] 0
  refine a_aload_n C dX9_init_0 rfl ?_
  refine a_iload_n C dX9_init_1 rfl ?_
  refine a_callI (as := [zI w]) (rest := []) C 1 (fun l => cIn_X3 l) rfl ml_X9_3 im_X3_init in_X3 co_X3_init (by decide +kernel) rfl ⟨Nat.le_of_ble_eq_true rfl, Nat.le_of_ble_eq_true rfl⟩ (Nat.le_of_ble_eq_true rfl) dX9_init_2 ⟨Nat.le_of_ble_eq_true rfl, Nat.le_of_ble_eq_true rfl⟩ ?_
  refine ⟨c, tag, w0, w, rf, rfl, hs, ht, ?_⟩
  exact a_vret C E dX9_init_5 (Nat.le_refl _) (Nat.le_refl _) hK
def tgK (k : Int) : Nat := if k = 1 then 0 else if k = 2 then 5 else if k = 3 then 3 else if k = 4 then 9 else 2
theorem tgK_ft (k : Int) : isFt (tgK k) := by
  unfold tgK
  split
  · exact isFt_0
  · split
    · exact isFt_5
    · split
      · exact isFt_3
      · split
        · exact isFt_9
        · exact isFt_2
theorem set_last {S : List zC} {a b : zC} : (S ++ [a]).set S.length b = S ++ [b] := by
  rw [List.set_append_right _ _ (Nat.le_refl _), Nat.sub_self]
  rfl
theorem get_last {S : List zC} {a : zC} : (S ++ [a])[S.length]? = some a := by
  rw [List.getElem?_append_right (Nat.le_refl _), Nat.sub_self]
  rfl
def tFO : zT := fun as S V post => ∃ (k w : Int), as = [zI k, zI w] ∧ inR k ∧ S.length < 999999 ∧ post (some (zR S.length)) (S ++ [(tgK k, w, fun _ => none)]) (vrow V S.length (fun _ => 0))
theorem zn_X10_44 : zN RX10 44 0 := ⟨RX0, TX0, 1, tyX0, rfl, inT0, tyX0_ok, cl_X10_44, ia_X0, in_X0, fun ad j hj => by
    obtain rfl : j = 0 := by omega
    rfl, by decide⟩
theorem zn_X10_47 : zN RX10 47 5 := ⟨RX5, TX5, 1, tyX5, rfl, inT5, tyX5_ok, cl_X10_47, ia_X5, in_X5, fun ad j hj => by
    obtain rfl : j = 0 := by omega
    rfl, by decide⟩
theorem zn_X10_50 : zN RX10 50 3 := ⟨RX3, TX3, 1, tyX3, rfl, inT3, tyX3_ok, cl_X10_50, ia_X3, in_X3, fun ad j hj => by
    obtain rfl : j = 0 := by omega
    rfl, by decide⟩
theorem zn_X10_53 : zN RX10 53 9 := ⟨RX9, TX9, 1, tyX9, rfl, inT9, tyX9_ok, cl_X10_53, ia_X9, in_X9, fun ad j hj => by
    obtain rfl : j = 0 := by omega
    rfl, by decide⟩
theorem zn_X10_9 : zN RX10 9 2 := ⟨RX2, TX2, 1, tyX2, rfl, inT2, tyX2_ok, cl_X10_9, ia_X2, in_X2, fun ad j hj => by
    obtain rfl : j = 0 := by omega
    rfl, by decide⟩
set_option maxHeartbeats 4000000 in
theorem c10_feudOf (l : Launch) : zCT l yX10_feudOf cX10_feudOf 2 (some (.object "ClosedFeuds$Feud")) { frames := 4, cells := 1, slots := 1, locals := 75 } tFO := by
  refine zCT_of (by decide) (fun as S V post h => by obtain ⟨k, w, rfl, -⟩ := h; exact Nat.le_of_ble_eq_true rfl) ?_
  intro X S V as post C E hT
  obtain ⟨k, w, rfl, hr, hn, hK⟩ := hT
  show zW X S V 0 0 [some (zI k), some (zI w)] [] 0
  have fin : ∀ t, tgK k = t → post (some (zR S.length)) (S ++ [(t, w, fun _ => none)]) (vrow V S.length (fun _ => 0)) := fun t ht => ht ▸ hK
  refine a_iload_n C dX10_feudOf_0 rfl ?_
  by_cases q1 : k = 1
  · refine a_tswIn C 0 32 dX10_feudOf_1 (by omega) hr (by decide) rfl (by decide) ?_
    refine a_new C zn_X10_44 1 rfl ⟨_, _, rfl⟩ dX10_feudOf_32 hn (by decide) (by decide) ?_
    refine a_dup C dX10_feudOf_35 rfl ?_
    refine a_iload_n C dX10_feudOf_36 rfl ?_
    refine a_callI (as := [zI w]) (rest := [zR S.length]) C 1 (fun l => cIn_X0 l) rfl ml_X10_46 im_X0_init in_X0 co_X0_init (by decide +kernel) rfl ⟨Nat.le_of_ble_eq_true rfl, Nat.le_of_ble_eq_true rfl⟩ (Nat.le_of_ble_eq_true rfl) dX10_feudOf_37 ⟨Nat.le_of_ble_eq_true rfl, Nat.le_of_ble_eq_true rfl⟩ ?_
    refine ⟨S.length, 0, 0, w, _, rfl, get_last, isFt_0, ?_⟩
    rw [set_last]
    exact a_aret C E dX10_feudOf_40 (by decide) (by decide) (fin _ (if_pos q1))
  by_cases q2 : k = 2
  · refine a_tswIn C 1 41 dX10_feudOf_1 (by omega) hr (by decide) rfl (by decide) ?_
    refine a_new C zn_X10_47 1 rfl ⟨_, _, rfl⟩ dX10_feudOf_41 hn (by decide) (by decide) ?_
    refine a_dup C dX10_feudOf_44 rfl ?_
    refine a_iload_n C dX10_feudOf_45 rfl ?_
    refine a_callI (as := [zI w]) (rest := [zR S.length]) C 1 (fun l => cIn_X5 l) rfl ml_X10_49 im_X5_init in_X5 co_X5_init (by decide +kernel) rfl ⟨Nat.le_of_ble_eq_true rfl, Nat.le_of_ble_eq_true rfl⟩ (Nat.le_of_ble_eq_true rfl) dX10_feudOf_46 ⟨Nat.le_of_ble_eq_true rfl, Nat.le_of_ble_eq_true rfl⟩ ?_
    refine ⟨S.length, 5, 0, w, _, rfl, get_last, isFt_5, ?_⟩
    rw [set_last]
    exact a_aret C E dX10_feudOf_49 (by decide) (by decide) (fin _ ((if_neg q1).trans (if_pos q2)))
  by_cases q3 : k = 3
  · refine a_tswIn C 2 50 dX10_feudOf_1 (by omega) hr (by decide) rfl (by decide) ?_
    refine a_new C zn_X10_50 1 rfl ⟨_, _, rfl⟩ dX10_feudOf_50 hn (by decide) (by decide) ?_
    refine a_dup C dX10_feudOf_53 rfl ?_
    refine a_iload_n C dX10_feudOf_54 rfl ?_
    refine a_callI (as := [zI w]) (rest := [zR S.length]) C 1 (fun l => cIn_X3 l) rfl ml_X10_52 im_X3_init in_X3 co_X3_init (by decide +kernel) rfl ⟨Nat.le_of_ble_eq_true rfl, Nat.le_of_ble_eq_true rfl⟩ (Nat.le_of_ble_eq_true rfl) dX10_feudOf_55 ⟨Nat.le_of_ble_eq_true rfl, Nat.le_of_ble_eq_true rfl⟩ ?_
    refine ⟨S.length, 3, 0, w, _, rfl, get_last, isFt_3, ?_⟩
    rw [set_last]
    exact a_aret C E dX10_feudOf_58 (by decide) (by decide) (fin _ ((if_neg q1).trans ((if_neg q2).trans (if_pos q3))))
  by_cases q4 : k = 4
  · refine a_tswIn C 3 59 dX10_feudOf_1 (by omega) hr (by decide) rfl (by decide) ?_
    refine a_new C zn_X10_53 1 rfl ⟨_, _, rfl⟩ dX10_feudOf_59 hn (by decide) (by decide) ?_
    refine a_dup C dX10_feudOf_62 rfl ?_
    refine a_iload_n C dX10_feudOf_63 rfl ?_
    refine a_callI (as := [zI w]) (rest := [zR S.length]) C 1 (fun l => cIn_X9 l) rfl ml_X10_55 im_X9_init in_X9 co_X9_init (by decide +kernel) rfl ⟨Nat.le_of_ble_eq_true rfl, Nat.le_of_ble_eq_true rfl⟩ (Nat.le_of_ble_eq_true rfl) dX10_feudOf_64 ⟨Nat.le_of_ble_eq_true rfl, Nat.le_of_ble_eq_true rfl⟩ ?_
    refine ⟨S.length, 9, 0, w, _, rfl, get_last, isFt_9, ?_⟩
    rw [set_last]
    exact a_aret C E dX10_feudOf_67 (by decide) (by decide) (fin _ ((if_neg q1).trans ((if_neg q2).trans ((if_neg q3).trans (if_pos q4)))))
  · refine a_tswOut C 68 dX10_feudOf_1 hr (by omega) (by decide) ?_
    refine a_new C zn_X10_9 1 rfl ⟨_, _, rfl⟩ dX10_feudOf_68 hn (by decide) (by decide) ?_
    refine a_dup C dX10_feudOf_71 rfl ?_
    refine a_iload_n C dX10_feudOf_72 rfl ?_
    refine a_callI (as := [zI w]) (rest := [zR S.length]) C 1 (fun l => cIn_X2 l) rfl ml_X10_25 im_X2_init in_X2 co_X2_init (by decide +kernel) rfl ⟨Nat.le_of_ble_eq_true rfl, Nat.le_of_ble_eq_true rfl⟩ (Nat.le_of_ble_eq_true rfl) dX10_feudOf_73 ⟨Nat.le_of_ble_eq_true rfl, Nat.le_of_ble_eq_true rfl⟩ ?_
    refine ⟨S.length, 2, 0, w, _, rfl, get_last, isFt_2, ?_⟩
    rw [set_last]
    exact a_aret C E dX10_feudOf_76 (by decide) (by decide) (fin _ ((if_neg q1).trans ((if_neg q2).trans ((if_neg q3).trans (if_neg q4)))))
def sS0 : List zC := [(11, 0, rfs [])]
theorem zn_X11_7 : zN RX11 7 8 := ⟨RX8, TX8, 4, tyX8, rfl, inT8, tyX8_ok, cl_X11_7, ia_X8, in_X8, fun ad j hj => by
    rcases (show j = 0 ∨ j = 1 ∨ j = 2 ∨ j = 3 by omega) with rfl | rfl | rfl | rfl <;> rfl, by decide⟩
def sS1 : List zC := [(11, 0, rfs []), (8, 0, rfs [])]
def sS2 : List zC := [(11, 0, rfs []), (8, 0, rfs [(0, 2)]), (13, 40, rfs [])]
def mK_8_init_1 (V : zV) (Q : zV → Prop) : Prop := Q (vset (vset (vset (vrow V 2 (fun _ => 0)) 1 1 0) 1 2 0) 1 3 0)
def tK_8_init_1 : zT := fun as S V post => ∃ (Q : zV → Prop), as = [zR 1] ∧ S = sS1 ∧ mK_8_init_1 V Q ∧ ∀ V2, Q V2 → post none sS2 V2
set_option maxHeartbeats 4000000 in
set_option maxRecDepth 20000 in
theorem cK_8_init_1 (l : Launch) : zCT l yX8_init cX8_init 1 none { frames := 1, cells := 1, slots := 40, locals := 12 } tK_8_init_1 := by
  refine zCT_of (by decide) (fun as S V post h => by obtain ⟨Q, rfl, -⟩ := h; exact Nat.le_of_ble_eq_true rfl) ?_
  intro X S V as post C E hT
  obtain ⟨Q, rfl, rfl, hK, hpost⟩ := hT
  show zW X sS1 V 0 0 [some (zR 1)] [] 0
  unfold mK_8_init_1 at hK
  refine a_aload_n C dX8_init_0 rfl ?_
  refine a_objInit C ml_X8_3 im_objectInit co_objectInit dX8_init_1 (by decide) (by decide) ?_
  refine a_aload_n C dX8_init_4 rfl ?_
  refine a_bipush C dX8_init_5 (by decide) ?_
  refine a_newaC C 2 (Or.inl ⟨rfl, rfl⟩) ac_int rfl dX8_init_7 (by decide) rfl (by decide) (Nat.le_of_ble_eq_true rfl) (Nat.le_of_ble_eq_true rfl) ?_
  refine a_putR C fl_X8_9_8 ⟨_, _, rfl, rfl⟩ (Or.inr ⟨_, rfl⟩) (o := 1) rfl rfl dX8_init_9 (Nat.le_of_ble_eq_true rfl) ?_
  refine a_aload_n C dX8_init_12 rfl ?_
  refine a_iconst C dX8_init_13 ?_
  refine a_putI C fl_X8_15_8 (Or.inl rfl) (o := 1) rfl rfl dX8_init_14 ⟨⟨by decide, by decide⟩, fun q => by cases q⟩ ?_
  refine a_aload_n C dX8_init_17 rfl ?_
  refine a_iconst C dX8_init_18 ?_
  refine a_putI C fl_X8_19_8 (Or.inl rfl) (o := 1) rfl rfl dX8_init_19 ⟨⟨by decide, by decide⟩, fun q => by cases q⟩ ?_
  refine a_aload_n C dX8_init_22 rfl ?_
  refine a_iconst C dX8_init_23 ?_
  refine a_putI C fl_X8_22_8 (Or.inl rfl) (o := 1) rfl rfl dX8_init_24 ⟨⟨by decide, by decide⟩, fun q => by cases q⟩ ?_
  refine a_eqS (S' := sS2) rfl ?_
  exact a_vret C E dX8_init_27 (Nat.le_refl _) (Nat.le_refl _) (hpost _ hK)
theorem zn_X11_16 : zN RX11 16 10 := ⟨RX10, TX10, 3, tyX10, rfl, inT10, tyX10_ok, cl_X11_16, ia_X10, in_X10, fun ad j hj => by
    rcases (show j = 0 ∨ j = 1 ∨ j = 2 by omega) with rfl | rfl | rfl <;> rfl, by decide⟩
def sS3 : List zC := [(11, 0, rfs [(0, 1)]), (8, 0, rfs [(0, 2)]), (13, 40, rfs []), (10, 0, rfs [])]
def sS4 : List zC := [(11, 0, rfs [(0, 1)]), (8, 0, rfs [(0, 2)]), (13, 40, rfs []), (10, 0, rfs [(1, 5), (0, 4)]), (16, 8, rfs [(7, 13), (6, 12), (5, 11), (4, 10), (3, 9), (2, 8), (1, 7), (0, 6)]), (13, 16, rfs []), (2, 1, rfs []), (2, 1, rfs []), (2, 1, rfs []), (2, 1, rfs []), (2, 1, rfs []), (2, 1, rfs []), (2, 1, rfs []), (2, 1, rfs [])]
def mK_10_init_3 (V : zV) (Q : zV → Prop) : Prop := Q (vrow (vrow (vrow (vrow (vrow (vrow (vrow (vrow (vset (vrow (vrow V 4 (fun _ => 0)) 5 (fun _ => 0)) 3 2 0) 6 (fun _ => 0)) 7 (fun _ => 0)) 8 (fun _ => 0)) 9 (fun _ => 0)) 10 (fun _ => 0)) 11 (fun _ => 0)) 12 (fun _ => 0)) 13 (fun _ => 0))
def tK_10_init_3 : zT := fun as S V post => ∃ (Q : zV → Prop), as = [zR 3] ∧ S = sS3 ∧ mK_10_init_3 V Q ∧ ∀ V2, Q V2 → post none sS4 V2
set_option maxHeartbeats 4000000 in
set_option maxRecDepth 20000 in
theorem cK_10_init_3 (l : Launch) : zCT l yX10_init cX10_init 2 none { frames := 2, cells := 10, slots := 32, locals := 33 } tK_10_init_3 := by
  refine zCT_of (by decide) (fun as S V post h => by obtain ⟨Q, rfl, -⟩ := h; exact Nat.le_of_ble_eq_true rfl) ?_
  intro X S V as post C E hT
  obtain ⟨Q, rfl, rfl, hK, hpost⟩ := hT
  show zW X sS3 V 0 0 [some (zR 3), none] [] 0
  unfold mK_10_init_3 at hK
  refine a_aload_n C dX10_init_0 rfl ?_
  refine a_objInit C ml_X10_3 im_objectInit co_objectInit dX10_init_1 (by decide) (by decide) ?_
  refine a_aload_n C dX10_init_4 rfl ?_
  refine a_bipush C dX10_init_5 (by decide) ?_
  refine a_anewC C 4 cl_X10_9 dX10_init_7 (by decide) rfl (by decide) (Nat.le_of_ble_eq_true rfl) (Nat.le_of_ble_eq_true rfl) ?_
  refine a_putR C fl_X10_11_10 ⟨_, _, rfl, rfl⟩ (Or.inr ⟨_, rfl⟩) (o := 3) rfl rfl dX10_init_10 (Nat.le_of_ble_eq_true rfl) ?_
  refine a_aload_n C dX10_init_13 rfl ?_
  refine a_bipush C dX10_init_14 (by decide) ?_
  refine a_newaC C 5 (Or.inl ⟨rfl, rfl⟩) ac_int rfl dX10_init_16 (by decide) rfl (by decide) (Nat.le_of_ble_eq_true rfl) (Nat.le_of_ble_eq_true rfl) ?_
  refine a_putR C fl_X10_17_10 ⟨_, _, rfl, rfl⟩ (Or.inr ⟨_, rfl⟩) (o := 3) rfl rfl dX10_init_18 (Nat.le_of_ble_eq_true rfl) ?_
  refine a_aload_n C dX10_init_21 rfl ?_
  refine a_iconst C dX10_init_22 ?_
  refine a_putI C fl_X10_21_10 (Or.inl rfl) (o := 3) rfl rfl dX10_init_23 ⟨⟨by decide, by decide⟩, fun q => by cases q⟩ ?_
  refine a_iconst C dX10_init_26 ?_
  refine a_istore_n C dX10_init_27 (Nat.le_of_ble_eq_true rfl) ?_
  refine a_eqal (al' := [some (zR 3), some (zI 0)]) rfl ?_
  refine a_iload_n C dX10_init_28 rfl ?_
  refine a_bipush C dX10_init_29 (by decide) ?_
  refine a_icmp_ge C 54 dX10_init_31 (by decide) ⟨⟨by decide, by decide⟩, ⟨by decide, by decide⟩⟩ (fun q => absurd q (by decide)) (fun q => ?_)
  refine a_aload_n C dX10_init_34 rfl ?_
  refine a_getR (o := 3) (r := 4) C fl_X10_11_10 rfl rfl rfl dX10_init_35 ?_
  refine a_iload_n C dX10_init_38 rfl ?_
  refine a_newC C zn_X10_9 1 6 rfl ⟨_, _, rfl⟩ dX10_init_39 rfl (by decide) (Nat.le_of_ble_eq_true rfl) (Nat.le_of_ble_eq_true rfl) ?_
  refine a_dup C dX10_init_42 rfl ?_
  refine a_iconst C dX10_init_43 ?_
  refine a_callI (as := [zI 1]) (rest := [zR 6, zI 0, zR 4]) C 1 (fun l => cIn_X2 l) rfl ml_X10_25 im_X2_init in_X2 co_X2_init (by decide +kernel) rfl ⟨Nat.le_of_ble_eq_true rfl, Nat.le_of_ble_eq_true rfl⟩ (Nat.le_of_ble_eq_true rfl) dX10_init_44 ⟨Nat.le_of_ble_eq_true rfl, Nat.le_of_ble_eq_true rfl⟩ ?_
  refine ⟨6, 2, 0, 1, _, rfl, rfl, isFt_2, ?_⟩
  try dsimp only [Option.toList, List.nil_append]
  refine a_aast C (o := 4) (r := 6) rfl rfl isFt_2 dX10_init_47 (by decide) (by decide) ?_
  refine a_eqS (S' := [(11, 0, rfs [(0, 1)]), (8, 0, rfs [(0, 2)]), (13, 40, rfs []), (10, 0, rfs [(1, 5), (0, 4)]), (16, 8, rfs [(0, 6)]), (13, 16, rfs []), (2, 1, rfs [])]) rfl ?_
  refine a_iinc C dX10_init_48 rfl (Nat.le_of_ble_eq_true rfl) ?_
  refine a_eqal (al' := [some (zR 3), some (zI 1)]) rfl ?_
  refine a_goto C 28 dX10_init_51 (by decide) ?_
  refine a_iload_n C dX10_init_28 rfl ?_
  refine a_bipush C dX10_init_29 (by decide) ?_
  refine a_icmp_ge C 54 dX10_init_31 (by decide) ⟨⟨by decide, by decide⟩, ⟨by decide, by decide⟩⟩ (fun q => absurd q (by decide)) (fun q => ?_)
  refine a_aload_n C dX10_init_34 rfl ?_
  refine a_getR (o := 3) (r := 4) C fl_X10_11_10 rfl rfl rfl dX10_init_35 ?_
  refine a_iload_n C dX10_init_38 rfl ?_
  refine a_newC C zn_X10_9 1 7 rfl ⟨_, _, rfl⟩ dX10_init_39 rfl (by decide) (Nat.le_of_ble_eq_true rfl) (Nat.le_of_ble_eq_true rfl) ?_
  refine a_dup C dX10_init_42 rfl ?_
  refine a_iconst C dX10_init_43 ?_
  refine a_callI (as := [zI 1]) (rest := [zR 7, zI 1, zR 4]) C 1 (fun l => cIn_X2 l) rfl ml_X10_25 im_X2_init in_X2 co_X2_init (by decide +kernel) rfl ⟨Nat.le_of_ble_eq_true rfl, Nat.le_of_ble_eq_true rfl⟩ (Nat.le_of_ble_eq_true rfl) dX10_init_44 ⟨Nat.le_of_ble_eq_true rfl, Nat.le_of_ble_eq_true rfl⟩ ?_
  refine ⟨7, 2, 0, 1, _, rfl, rfl, isFt_2, ?_⟩
  try dsimp only [Option.toList, List.nil_append]
  refine a_aast C (o := 4) (r := 7) rfl rfl isFt_2 dX10_init_47 (by decide) (by decide) ?_
  refine a_eqS (S' := [(11, 0, rfs [(0, 1)]), (8, 0, rfs [(0, 2)]), (13, 40, rfs []), (10, 0, rfs [(1, 5), (0, 4)]), (16, 8, rfs [(1, 7), (0, 6)]), (13, 16, rfs []), (2, 1, rfs []), (2, 1, rfs [])]) rfl ?_
  refine a_iinc C dX10_init_48 rfl (Nat.le_of_ble_eq_true rfl) ?_
  refine a_eqal (al' := [some (zR 3), some (zI 2)]) rfl ?_
  refine a_goto C 28 dX10_init_51 (by decide) ?_
  refine a_iload_n C dX10_init_28 rfl ?_
  refine a_bipush C dX10_init_29 (by decide) ?_
  refine a_icmp_ge C 54 dX10_init_31 (by decide) ⟨⟨by decide, by decide⟩, ⟨by decide, by decide⟩⟩ (fun q => absurd q (by decide)) (fun q => ?_)
  refine a_aload_n C dX10_init_34 rfl ?_
  refine a_getR (o := 3) (r := 4) C fl_X10_11_10 rfl rfl rfl dX10_init_35 ?_
  refine a_iload_n C dX10_init_38 rfl ?_
  refine a_newC C zn_X10_9 1 8 rfl ⟨_, _, rfl⟩ dX10_init_39 rfl (by decide) (Nat.le_of_ble_eq_true rfl) (Nat.le_of_ble_eq_true rfl) ?_
  refine a_dup C dX10_init_42 rfl ?_
  refine a_iconst C dX10_init_43 ?_
  refine a_callI (as := [zI 1]) (rest := [zR 8, zI 2, zR 4]) C 1 (fun l => cIn_X2 l) rfl ml_X10_25 im_X2_init in_X2 co_X2_init (by decide +kernel) rfl ⟨Nat.le_of_ble_eq_true rfl, Nat.le_of_ble_eq_true rfl⟩ (Nat.le_of_ble_eq_true rfl) dX10_init_44 ⟨Nat.le_of_ble_eq_true rfl, Nat.le_of_ble_eq_true rfl⟩ ?_
  refine ⟨8, 2, 0, 1, _, rfl, rfl, isFt_2, ?_⟩
  try dsimp only [Option.toList, List.nil_append]
  refine a_aast C (o := 4) (r := 8) rfl rfl isFt_2 dX10_init_47 (by decide) (by decide) ?_
  refine a_eqS (S' := [(11, 0, rfs [(0, 1)]), (8, 0, rfs [(0, 2)]), (13, 40, rfs []), (10, 0, rfs [(1, 5), (0, 4)]), (16, 8, rfs [(2, 8), (1, 7), (0, 6)]), (13, 16, rfs []), (2, 1, rfs []), (2, 1, rfs []), (2, 1, rfs [])]) rfl ?_
  refine a_iinc C dX10_init_48 rfl (Nat.le_of_ble_eq_true rfl) ?_
  refine a_eqal (al' := [some (zR 3), some (zI 3)]) rfl ?_
  refine a_goto C 28 dX10_init_51 (by decide) ?_
  refine a_iload_n C dX10_init_28 rfl ?_
  refine a_bipush C dX10_init_29 (by decide) ?_
  refine a_icmp_ge C 54 dX10_init_31 (by decide) ⟨⟨by decide, by decide⟩, ⟨by decide, by decide⟩⟩ (fun q => absurd q (by decide)) (fun q => ?_)
  refine a_aload_n C dX10_init_34 rfl ?_
  refine a_getR (o := 3) (r := 4) C fl_X10_11_10 rfl rfl rfl dX10_init_35 ?_
  refine a_iload_n C dX10_init_38 rfl ?_
  refine a_newC C zn_X10_9 1 9 rfl ⟨_, _, rfl⟩ dX10_init_39 rfl (by decide) (Nat.le_of_ble_eq_true rfl) (Nat.le_of_ble_eq_true rfl) ?_
  refine a_dup C dX10_init_42 rfl ?_
  refine a_iconst C dX10_init_43 ?_
  refine a_callI (as := [zI 1]) (rest := [zR 9, zI 3, zR 4]) C 1 (fun l => cIn_X2 l) rfl ml_X10_25 im_X2_init in_X2 co_X2_init (by decide +kernel) rfl ⟨Nat.le_of_ble_eq_true rfl, Nat.le_of_ble_eq_true rfl⟩ (Nat.le_of_ble_eq_true rfl) dX10_init_44 ⟨Nat.le_of_ble_eq_true rfl, Nat.le_of_ble_eq_true rfl⟩ ?_
  refine ⟨9, 2, 0, 1, _, rfl, rfl, isFt_2, ?_⟩
  try dsimp only [Option.toList, List.nil_append]
  refine a_aast C (o := 4) (r := 9) rfl rfl isFt_2 dX10_init_47 (by decide) (by decide) ?_
  refine a_eqS (S' := [(11, 0, rfs [(0, 1)]), (8, 0, rfs [(0, 2)]), (13, 40, rfs []), (10, 0, rfs [(1, 5), (0, 4)]), (16, 8, rfs [(3, 9), (2, 8), (1, 7), (0, 6)]), (13, 16, rfs []), (2, 1, rfs []), (2, 1, rfs []), (2, 1, rfs []), (2, 1, rfs [])]) rfl ?_
  refine a_iinc C dX10_init_48 rfl (Nat.le_of_ble_eq_true rfl) ?_
  refine a_eqal (al' := [some (zR 3), some (zI 4)]) rfl ?_
  refine a_goto C 28 dX10_init_51 (by decide) ?_
  refine a_iload_n C dX10_init_28 rfl ?_
  refine a_bipush C dX10_init_29 (by decide) ?_
  refine a_icmp_ge C 54 dX10_init_31 (by decide) ⟨⟨by decide, by decide⟩, ⟨by decide, by decide⟩⟩ (fun q => absurd q (by decide)) (fun q => ?_)
  refine a_aload_n C dX10_init_34 rfl ?_
  refine a_getR (o := 3) (r := 4) C fl_X10_11_10 rfl rfl rfl dX10_init_35 ?_
  refine a_iload_n C dX10_init_38 rfl ?_
  refine a_newC C zn_X10_9 1 10 rfl ⟨_, _, rfl⟩ dX10_init_39 rfl (by decide) (Nat.le_of_ble_eq_true rfl) (Nat.le_of_ble_eq_true rfl) ?_
  refine a_dup C dX10_init_42 rfl ?_
  refine a_iconst C dX10_init_43 ?_
  refine a_callI (as := [zI 1]) (rest := [zR 10, zI 4, zR 4]) C 1 (fun l => cIn_X2 l) rfl ml_X10_25 im_X2_init in_X2 co_X2_init (by decide +kernel) rfl ⟨Nat.le_of_ble_eq_true rfl, Nat.le_of_ble_eq_true rfl⟩ (Nat.le_of_ble_eq_true rfl) dX10_init_44 ⟨Nat.le_of_ble_eq_true rfl, Nat.le_of_ble_eq_true rfl⟩ ?_
  refine ⟨10, 2, 0, 1, _, rfl, rfl, isFt_2, ?_⟩
  try dsimp only [Option.toList, List.nil_append]
  refine a_aast C (o := 4) (r := 10) rfl rfl isFt_2 dX10_init_47 (by decide) (by decide) ?_
  refine a_eqS (S' := [(11, 0, rfs [(0, 1)]), (8, 0, rfs [(0, 2)]), (13, 40, rfs []), (10, 0, rfs [(1, 5), (0, 4)]), (16, 8, rfs [(4, 10), (3, 9), (2, 8), (1, 7), (0, 6)]), (13, 16, rfs []), (2, 1, rfs []), (2, 1, rfs []), (2, 1, rfs []), (2, 1, rfs []), (2, 1, rfs [])]) rfl ?_
  refine a_iinc C dX10_init_48 rfl (Nat.le_of_ble_eq_true rfl) ?_
  refine a_eqal (al' := [some (zR 3), some (zI 5)]) rfl ?_
  refine a_goto C 28 dX10_init_51 (by decide) ?_
  refine a_iload_n C dX10_init_28 rfl ?_
  refine a_bipush C dX10_init_29 (by decide) ?_
  refine a_icmp_ge C 54 dX10_init_31 (by decide) ⟨⟨by decide, by decide⟩, ⟨by decide, by decide⟩⟩ (fun q => absurd q (by decide)) (fun q => ?_)
  refine a_aload_n C dX10_init_34 rfl ?_
  refine a_getR (o := 3) (r := 4) C fl_X10_11_10 rfl rfl rfl dX10_init_35 ?_
  refine a_iload_n C dX10_init_38 rfl ?_
  refine a_newC C zn_X10_9 1 11 rfl ⟨_, _, rfl⟩ dX10_init_39 rfl (by decide) (Nat.le_of_ble_eq_true rfl) (Nat.le_of_ble_eq_true rfl) ?_
  refine a_dup C dX10_init_42 rfl ?_
  refine a_iconst C dX10_init_43 ?_
  refine a_callI (as := [zI 1]) (rest := [zR 11, zI 5, zR 4]) C 1 (fun l => cIn_X2 l) rfl ml_X10_25 im_X2_init in_X2 co_X2_init (by decide +kernel) rfl ⟨Nat.le_of_ble_eq_true rfl, Nat.le_of_ble_eq_true rfl⟩ (Nat.le_of_ble_eq_true rfl) dX10_init_44 ⟨Nat.le_of_ble_eq_true rfl, Nat.le_of_ble_eq_true rfl⟩ ?_
  refine ⟨11, 2, 0, 1, _, rfl, rfl, isFt_2, ?_⟩
  try dsimp only [Option.toList, List.nil_append]
  refine a_aast C (o := 4) (r := 11) rfl rfl isFt_2 dX10_init_47 (by decide) (by decide) ?_
  refine a_eqS (S' := [(11, 0, rfs [(0, 1)]), (8, 0, rfs [(0, 2)]), (13, 40, rfs []), (10, 0, rfs [(1, 5), (0, 4)]), (16, 8, rfs [(5, 11), (4, 10), (3, 9), (2, 8), (1, 7), (0, 6)]), (13, 16, rfs []), (2, 1, rfs []), (2, 1, rfs []), (2, 1, rfs []), (2, 1, rfs []), (2, 1, rfs []), (2, 1, rfs [])]) rfl ?_
  refine a_iinc C dX10_init_48 rfl (Nat.le_of_ble_eq_true rfl) ?_
  refine a_eqal (al' := [some (zR 3), some (zI 6)]) rfl ?_
  refine a_goto C 28 dX10_init_51 (by decide) ?_
  refine a_iload_n C dX10_init_28 rfl ?_
  refine a_bipush C dX10_init_29 (by decide) ?_
  refine a_icmp_ge C 54 dX10_init_31 (by decide) ⟨⟨by decide, by decide⟩, ⟨by decide, by decide⟩⟩ (fun q => absurd q (by decide)) (fun q => ?_)
  refine a_aload_n C dX10_init_34 rfl ?_
  refine a_getR (o := 3) (r := 4) C fl_X10_11_10 rfl rfl rfl dX10_init_35 ?_
  refine a_iload_n C dX10_init_38 rfl ?_
  refine a_newC C zn_X10_9 1 12 rfl ⟨_, _, rfl⟩ dX10_init_39 rfl (by decide) (Nat.le_of_ble_eq_true rfl) (Nat.le_of_ble_eq_true rfl) ?_
  refine a_dup C dX10_init_42 rfl ?_
  refine a_iconst C dX10_init_43 ?_
  refine a_callI (as := [zI 1]) (rest := [zR 12, zI 6, zR 4]) C 1 (fun l => cIn_X2 l) rfl ml_X10_25 im_X2_init in_X2 co_X2_init (by decide +kernel) rfl ⟨Nat.le_of_ble_eq_true rfl, Nat.le_of_ble_eq_true rfl⟩ (Nat.le_of_ble_eq_true rfl) dX10_init_44 ⟨Nat.le_of_ble_eq_true rfl, Nat.le_of_ble_eq_true rfl⟩ ?_
  refine ⟨12, 2, 0, 1, _, rfl, rfl, isFt_2, ?_⟩
  try dsimp only [Option.toList, List.nil_append]
  refine a_aast C (o := 4) (r := 12) rfl rfl isFt_2 dX10_init_47 (by decide) (by decide) ?_
  refine a_eqS (S' := [(11, 0, rfs [(0, 1)]), (8, 0, rfs [(0, 2)]), (13, 40, rfs []), (10, 0, rfs [(1, 5), (0, 4)]), (16, 8, rfs [(6, 12), (5, 11), (4, 10), (3, 9), (2, 8), (1, 7), (0, 6)]), (13, 16, rfs []), (2, 1, rfs []), (2, 1, rfs []), (2, 1, rfs []), (2, 1, rfs []), (2, 1, rfs []), (2, 1, rfs []), (2, 1, rfs [])]) rfl ?_
  refine a_iinc C dX10_init_48 rfl (Nat.le_of_ble_eq_true rfl) ?_
  refine a_eqal (al' := [some (zR 3), some (zI 7)]) rfl ?_
  refine a_goto C 28 dX10_init_51 (by decide) ?_
  refine a_iload_n C dX10_init_28 rfl ?_
  refine a_bipush C dX10_init_29 (by decide) ?_
  refine a_icmp_ge C 54 dX10_init_31 (by decide) ⟨⟨by decide, by decide⟩, ⟨by decide, by decide⟩⟩ (fun q => absurd q (by decide)) (fun q => ?_)
  refine a_aload_n C dX10_init_34 rfl ?_
  refine a_getR (o := 3) (r := 4) C fl_X10_11_10 rfl rfl rfl dX10_init_35 ?_
  refine a_iload_n C dX10_init_38 rfl ?_
  refine a_newC C zn_X10_9 1 13 rfl ⟨_, _, rfl⟩ dX10_init_39 rfl (by decide) (Nat.le_of_ble_eq_true rfl) (Nat.le_of_ble_eq_true rfl) ?_
  refine a_dup C dX10_init_42 rfl ?_
  refine a_iconst C dX10_init_43 ?_
  refine a_callI (as := [zI 1]) (rest := [zR 13, zI 7, zR 4]) C 1 (fun l => cIn_X2 l) rfl ml_X10_25 im_X2_init in_X2 co_X2_init (by decide +kernel) rfl ⟨Nat.le_of_ble_eq_true rfl, Nat.le_of_ble_eq_true rfl⟩ (Nat.le_of_ble_eq_true rfl) dX10_init_44 ⟨Nat.le_of_ble_eq_true rfl, Nat.le_of_ble_eq_true rfl⟩ ?_
  refine ⟨13, 2, 0, 1, _, rfl, rfl, isFt_2, ?_⟩
  try dsimp only [Option.toList, List.nil_append]
  refine a_aast C (o := 4) (r := 13) rfl rfl isFt_2 dX10_init_47 (by decide) (by decide) ?_
  refine a_eqS (S' := [(11, 0, rfs [(0, 1)]), (8, 0, rfs [(0, 2)]), (13, 40, rfs []), (10, 0, rfs [(1, 5), (0, 4)]), (16, 8, rfs [(7, 13), (6, 12), (5, 11), (4, 10), (3, 9), (2, 8), (1, 7), (0, 6)]), (13, 16, rfs []), (2, 1, rfs []), (2, 1, rfs []), (2, 1, rfs []), (2, 1, rfs []), (2, 1, rfs []), (2, 1, rfs []), (2, 1, rfs []), (2, 1, rfs [])]) rfl ?_
  refine a_iinc C dX10_init_48 rfl (Nat.le_of_ble_eq_true rfl) ?_
  refine a_eqal (al' := [some (zR 3), some (zI 8)]) rfl ?_
  refine a_goto C 28 dX10_init_51 (by decide) ?_
  refine a_iload_n C dX10_init_28 rfl ?_
  refine a_bipush C dX10_init_29 (by decide) ?_
  refine a_icmp_ge C 54 dX10_init_31 (by decide) ⟨⟨by decide, by decide⟩, ⟨by decide, by decide⟩⟩ (fun q => ?_) (fun q => absurd q (by decide))
  refine a_eqS (S' := sS4) rfl ?_
  exact a_vret C E dX10_init_54 (Nat.le_refl _) (Nat.le_refl _) (hpost _ hK)
theorem zn_X11_23 : zN RX11 23 4 := ⟨RX4, TX4, 13, tyX4, rfl, inT4, tyX4_ok, cl_X11_23, ia_X4, in_X4, fun ad j hj => by
    rcases (show j = 0 ∨ j = 1 ∨ j = 2 ∨ j = 3 ∨ j = 4 ∨ j = 5 ∨ j = 6 ∨ j = 7 ∨ j = 8 ∨ j = 9 ∨ j = 10 ∨ j = 11 ∨ j = 12 by omega) with rfl | rfl | rfl | rfl | rfl | rfl | rfl | rfl | rfl | rfl | rfl | rfl | rfl <;> rfl, by decide⟩
def sS5 : List zC := [(11, 0, rfs [(1, 3), (0, 1)]), (8, 0, rfs [(0, 2)]), (13, 40, rfs []), (10, 0, rfs [(1, 5), (0, 4)]), (16, 8, rfs [(7, 13), (6, 12), (5, 11), (4, 10), (3, 9), (2, 8), (1, 7), (0, 6)]), (13, 16, rfs []), (2, 1, rfs []), (2, 1, rfs []), (2, 1, rfs []), (2, 1, rfs []), (2, 1, rfs []), (2, 1, rfs []), (2, 1, rfs []), (2, 1, rfs []), (4, 0, rfs [])]
def sS6 : List zC := [(11, 0, rfs [(1, 3), (0, 1)]), (8, 0, rfs [(0, 2)]), (13, 40, rfs []), (10, 0, rfs [(1, 5), (0, 4)]), (16, 8, rfs [(7, 13), (6, 12), (5, 11), (4, 10), (3, 9), (2, 8), (1, 7), (0, 6)]), (13, 16, rfs []), (2, 1, rfs []), (2, 1, rfs []), (2, 1, rfs []), (2, 1, rfs []), (2, 1, rfs []), (2, 1, rfs []), (2, 1, rfs []), (2, 1, rfs []), (4, 0, rfs [(0, 3), (11, 24), (10, 23), (8, 22), (7, 21), (6, 20), (5, 19), (4, 18), (3, 17), (2, 16), (1, 15)]), (13, 6, rfs []), (13, 6, rfs []), (14, 6, rfs []), (13, 16, rfs []), (13, 16, rfs []), (14, 8, rfs []), (13, 12, rfs []), (13, 12, rfs []), (13, 8, rfs []), (13, 8, rfs [])]
theorem psl_sS6 : PSl sS6 := ⟨⟨0, _, rfl, rfl, rfl⟩, ⟨_, rfl, fun k hk => by
    rcases (show k = 0 ∨ k = 1 ∨ k = 2 ∨ k = 3 ∨ k = 4 ∨ k = 5 ∨ k = 6 ∨ k = 7 by omega) with rfl | rfl | rfl | rfl | rfl | rfl | rfl | rfl
    · exact ⟨6, 2, 1, _, rfl, rfl, isFt_2⟩
    · exact ⟨7, 2, 1, _, rfl, rfl, isFt_2⟩
    · exact ⟨8, 2, 1, _, rfl, rfl, isFt_2⟩
    · exact ⟨9, 2, 1, _, rfl, rfl, isFt_2⟩
    · exact ⟨10, 2, 1, _, rfl, rfl, isFt_2⟩
    · exact ⟨11, 2, 1, _, rfl, rfl, isFt_2⟩
    · exact ⟨12, 2, 1, _, rfl, rfl, isFt_2⟩
    · exact ⟨13, 2, 1, _, rfl, rfl, isFt_2⟩⟩, ⟨_, rfl⟩⟩
theorem psi_sS6_14 : PSi sS6 14 := ⟨⟨0, _, rfl, rfl, rfl, rfl, rfl, rfl, rfl, rfl, rfl, rfl, rfl, rfl⟩, ⟨_, rfl⟩, ⟨_, rfl⟩, ⟨_, rfl⟩, ⟨_, rfl⟩, ⟨_, rfl⟩, ⟨_, rfl⟩, ⟨_, rfl⟩, ⟨_, rfl⟩, ⟨_, rfl⟩, ⟨_, rfl⟩, psl_sS6⟩
def mK_4_init_14 (V : zV) (Q : zV → Prop) : Prop := m4_begin sS6 14 (vset (vrow (vrow (vset (vrow (vrow (vrow (vrow (vrow (vrow (vrow (vrow V 15 (fun _ => 0)) 16 (fun _ => 0)) 17 (fun _ => 0)) 18 (fun _ => 0)) 19 (fun _ => 0)) 20 (fun _ => 0)) 21 (fun _ => 0)) 22 (fun _ => 0)) 14 9 0) 23 (fun _ => 0)) 24 (fun _ => 0)) 14 12 0) (fun V100 => Q V100)
def tK_4_init_14 : zT := fun as S V post => ∃ (Q : zV → Prop), as = [zR 14, zR 3] ∧ S = sS5 ∧ mK_4_init_14 V Q ∧ ∀ V2, Q V2 → post none sS6 V2
set_option maxHeartbeats 4000000 in
set_option maxRecDepth 20000 in
theorem cK_4_init_14 (l : Launch) : zCT l yX4_init cX4_init 2 none { frames := 1, cells := 10, slots := 98, locals := 21 } tK_4_init_14 := by
  refine zCT_of (by decide) (fun as S V post h => by obtain ⟨Q, rfl, -⟩ := h; exact Nat.le_of_ble_eq_true rfl) ?_
  intro X S V as post C E hT
  obtain ⟨Q, rfl, rfl, hK, hpost⟩ := hT
  show zW X sS5 V 0 0 [some (zR 14), some (zR 3)] [] 0
  unfold mK_4_init_14 at hK
  refine a_aload_n C dX4_init_0 rfl ?_
  refine a_objInit C ml_X4_3 im_objectInit co_objectInit dX4_init_1 (by decide) (by decide) ?_
  refine a_aload_n C dX4_init_4 rfl ?_
  refine a_bipush C dX4_init_5 (by decide) ?_
  refine a_newaC C 15 (Or.inl ⟨rfl, rfl⟩) ac_int rfl dX4_init_7 (by decide) rfl (by decide) (Nat.le_of_ble_eq_true rfl) (Nat.le_of_ble_eq_true rfl) ?_
  refine a_putR C fl_X4_9_4 ⟨_, _, rfl, rfl⟩ (Or.inr ⟨_, rfl⟩) (o := 14) rfl rfl dX4_init_9 (Nat.le_of_ble_eq_true rfl) ?_
  refine a_aload_n C dX4_init_12 rfl ?_
  refine a_bipush C dX4_init_13 (by decide) ?_
  refine a_newaC C 16 (Or.inl ⟨rfl, rfl⟩) ac_int rfl dX4_init_15 (by decide) rfl (by decide) (Nat.le_of_ble_eq_true rfl) (Nat.le_of_ble_eq_true rfl) ?_
  refine a_putR C fl_X4_15_4 ⟨_, _, rfl, rfl⟩ (Or.inr ⟨_, rfl⟩) (o := 14) rfl rfl dX4_init_17 (Nat.le_of_ble_eq_true rfl) ?_
  refine a_aload_n C dX4_init_20 rfl ?_
  refine a_bipush C dX4_init_21 (by decide) ?_
  refine a_newaC C 17 (Or.inr (Or.inl ⟨rfl, rfl⟩)) ac_boolean rfl dX4_init_23 (by decide) rfl (by decide) (Nat.le_of_ble_eq_true rfl) (Nat.le_of_ble_eq_true rfl) ?_
  refine a_putR C fl_X4_18_4 ⟨_, _, rfl, rfl⟩ (Or.inr ⟨_, rfl⟩) (o := 14) rfl rfl dX4_init_25 (Nat.le_of_ble_eq_true rfl) ?_
  refine a_aload_n C dX4_init_28 rfl ?_
  refine a_bipush C dX4_init_29 (by decide) ?_
  refine a_newaC C 18 (Or.inl ⟨rfl, rfl⟩) ac_int rfl dX4_init_31 (by decide) rfl (by decide) (Nat.le_of_ble_eq_true rfl) (Nat.le_of_ble_eq_true rfl) ?_
  refine a_putR C fl_X4_22_4 ⟨_, _, rfl, rfl⟩ (Or.inr ⟨_, rfl⟩) (o := 14) rfl rfl dX4_init_33 (Nat.le_of_ble_eq_true rfl) ?_
  refine a_aload_n C dX4_init_36 rfl ?_
  refine a_bipush C dX4_init_37 (by decide) ?_
  refine a_newaC C 19 (Or.inl ⟨rfl, rfl⟩) ac_int rfl dX4_init_39 (by decide) rfl (by decide) (Nat.le_of_ble_eq_true rfl) (Nat.le_of_ble_eq_true rfl) ?_
  refine a_putR C fl_X4_25_4 ⟨_, _, rfl, rfl⟩ (Or.inr ⟨_, rfl⟩) (o := 14) rfl rfl dX4_init_41 (Nat.le_of_ble_eq_true rfl) ?_
  refine a_aload_n C dX4_init_44 rfl ?_
  refine a_bipush C dX4_init_45 (by decide) ?_
  refine a_newaC C 20 (Or.inr (Or.inl ⟨rfl, rfl⟩)) ac_boolean rfl dX4_init_47 (by decide) rfl (by decide) (Nat.le_of_ble_eq_true rfl) (Nat.le_of_ble_eq_true rfl) ?_
  refine a_putR C fl_X4_28_4 ⟨_, _, rfl, rfl⟩ (Or.inr ⟨_, rfl⟩) (o := 14) rfl rfl dX4_init_49 (Nat.le_of_ble_eq_true rfl) ?_
  refine a_aload_n C dX4_init_52 rfl ?_
  refine a_bipush C dX4_init_53 (by decide) ?_
  refine a_newaC C 21 (Or.inl ⟨rfl, rfl⟩) ac_int rfl dX4_init_55 (by decide) rfl (by decide) (Nat.le_of_ble_eq_true rfl) (Nat.le_of_ble_eq_true rfl) ?_
  refine a_putR C fl_X4_31_4 ⟨_, _, rfl, rfl⟩ (Or.inr ⟨_, rfl⟩) (o := 14) rfl rfl dX4_init_57 (Nat.le_of_ble_eq_true rfl) ?_
  refine a_aload_n C dX4_init_60 rfl ?_
  refine a_bipush C dX4_init_61 (by decide) ?_
  refine a_newaC C 22 (Or.inl ⟨rfl, rfl⟩) ac_int rfl dX4_init_63 (by decide) rfl (by decide) (Nat.le_of_ble_eq_true rfl) (Nat.le_of_ble_eq_true rfl) ?_
  refine a_putR C fl_X4_34_4 ⟨_, _, rfl, rfl⟩ (Or.inr ⟨_, rfl⟩) (o := 14) rfl rfl dX4_init_65 (Nat.le_of_ble_eq_true rfl) ?_
  refine a_aload_n C dX4_init_68 rfl ?_
  refine a_iconst C dX4_init_69 ?_
  refine a_putI C fl_X4_37_4 (Or.inl rfl) (o := 14) rfl rfl dX4_init_70 ⟨⟨by decide, by decide⟩, fun q => by cases q⟩ ?_
  refine a_aload_n C dX4_init_73 rfl ?_
  refine a_bipush C dX4_init_74 (by decide) ?_
  refine a_newaC C 23 (Or.inl ⟨rfl, rfl⟩) ac_int rfl dX4_init_76 (by decide) rfl (by decide) (Nat.le_of_ble_eq_true rfl) (Nat.le_of_ble_eq_true rfl) ?_
  refine a_putR C fl_X4_41_4 ⟨_, _, rfl, rfl⟩ (Or.inr ⟨_, rfl⟩) (o := 14) rfl rfl dX4_init_78 (Nat.le_of_ble_eq_true rfl) ?_
  refine a_aload_n C dX4_init_81 rfl ?_
  refine a_bipush C dX4_init_82 (by decide) ?_
  refine a_newaC C 24 (Or.inl ⟨rfl, rfl⟩) ac_int rfl dX4_init_84 (by decide) rfl (by decide) (Nat.le_of_ble_eq_true rfl) (Nat.le_of_ble_eq_true rfl) ?_
  refine a_putR C fl_X4_44_4 ⟨_, _, rfl, rfl⟩ (Or.inr ⟨_, rfl⟩) (o := 14) rfl rfl dX4_init_86 (Nat.le_of_ble_eq_true rfl) ?_
  refine a_aload_n C dX4_init_89 rfl ?_
  refine a_iconst C dX4_init_90 ?_
  refine a_putI C fl_X4_47_4 (Or.inl rfl) (o := 14) rfl rfl dX4_init_91 ⟨⟨by decide, by decide⟩, fun q => by cases q⟩ ?_
  refine a_aload_n C dX4_init_94 rfl ?_
  refine a_aload_n C dX4_init_95 rfl ?_
  refine a_putR C fl_X4_50_4 ⟨_, _, rfl, rfl⟩ (Or.inl ⟨_, rfl⟩) (o := 14) rfl rfl dX4_init_96 (Nat.le_of_ble_eq_true rfl) ?_
  refine a_aload_n C dX4_init_99 rfl ?_
  refine a_eqS (S' := sS6) rfl ?_
  refine a_callV (o := 14) (as := []) (rest := []) C 0 (fun l => c4_begin l) (show sS6[14]? = some (4, 0, _) from rfl) ⟨_, _, rfl⟩ (by decide) ml_X4_54 im_X4_begin se_X4_begin in_X4 co_X4_begin (by decide +kernel) rfl ⟨Nat.le_of_ble_eq_true rfl, Nat.le_of_ble_eq_true rfl⟩ (Nat.le_of_ble_eq_true rfl) dX4_init_100 ⟨Nat.le_of_ble_eq_true rfl, Nat.le_of_ble_eq_true rfl⟩ ?_
  refine ⟨14, _, rfl, psi_sS6_14, hK, fun V100 hK => ?_⟩
  try dsimp only [Option.toList, List.nil_append]
  refine a_eqS (S' := sS6) rfl ?_
  exact a_vret C E dX4_init_103 (Nat.le_refl _) (Nat.le_refl _) (hpost _ hK)
def sS7 : List zC := [(11, 0, rfs [(2, 14), (1, 3), (0, 1)]), (8, 0, rfs [(0, 2)]), (13, 40, rfs []), (10, 0, rfs [(1, 5), (0, 4)]), (16, 8, rfs [(7, 13), (6, 12), (5, 11), (4, 10), (3, 9), (2, 8), (1, 7), (0, 6)]), (13, 16, rfs []), (2, 1, rfs []), (2, 1, rfs []), (2, 1, rfs []), (2, 1, rfs []), (2, 1, rfs []), (2, 1, rfs []), (2, 1, rfs []), (2, 1, rfs []), (4, 0, rfs [(0, 3), (11, 24), (10, 23), (8, 22), (7, 21), (6, 20), (5, 19), (4, 18), (3, 17), (2, 16), (1, 15)]), (13, 6, rfs []), (13, 6, rfs []), (14, 6, rfs []), (13, 16, rfs []), (13, 16, rfs []), (14, 8, rfs []), (13, 12, rfs []), (13, 12, rfs []), (13, 8, rfs []), (13, 8, rfs []), (4, 0, rfs [])]
def sS8 : List zC := [(11, 0, rfs [(2, 14), (1, 3), (0, 1)]), (8, 0, rfs [(0, 2)]), (13, 40, rfs []), (10, 0, rfs [(1, 5), (0, 4)]), (16, 8, rfs [(7, 13), (6, 12), (5, 11), (4, 10), (3, 9), (2, 8), (1, 7), (0, 6)]), (13, 16, rfs []), (2, 1, rfs []), (2, 1, rfs []), (2, 1, rfs []), (2, 1, rfs []), (2, 1, rfs []), (2, 1, rfs []), (2, 1, rfs []), (2, 1, rfs []), (4, 0, rfs [(0, 3), (11, 24), (10, 23), (8, 22), (7, 21), (6, 20), (5, 19), (4, 18), (3, 17), (2, 16), (1, 15)]), (13, 6, rfs []), (13, 6, rfs []), (14, 6, rfs []), (13, 16, rfs []), (13, 16, rfs []), (14, 8, rfs []), (13, 12, rfs []), (13, 12, rfs []), (13, 8, rfs []), (13, 8, rfs []), (4, 0, rfs [(0, 3), (11, 35), (10, 34), (8, 33), (7, 32), (6, 31), (5, 30), (4, 29), (3, 28), (2, 27), (1, 26)]), (13, 6, rfs []), (13, 6, rfs []), (14, 6, rfs []), (13, 16, rfs []), (13, 16, rfs []), (14, 8, rfs []), (13, 12, rfs []), (13, 12, rfs []), (13, 8, rfs []), (13, 8, rfs [])]
theorem psl_sS8 : PSl sS8 := ⟨⟨0, _, rfl, rfl, rfl⟩, ⟨_, rfl, fun k hk => by
    rcases (show k = 0 ∨ k = 1 ∨ k = 2 ∨ k = 3 ∨ k = 4 ∨ k = 5 ∨ k = 6 ∨ k = 7 by omega) with rfl | rfl | rfl | rfl | rfl | rfl | rfl | rfl
    · exact ⟨6, 2, 1, _, rfl, rfl, isFt_2⟩
    · exact ⟨7, 2, 1, _, rfl, rfl, isFt_2⟩
    · exact ⟨8, 2, 1, _, rfl, rfl, isFt_2⟩
    · exact ⟨9, 2, 1, _, rfl, rfl, isFt_2⟩
    · exact ⟨10, 2, 1, _, rfl, rfl, isFt_2⟩
    · exact ⟨11, 2, 1, _, rfl, rfl, isFt_2⟩
    · exact ⟨12, 2, 1, _, rfl, rfl, isFt_2⟩
    · exact ⟨13, 2, 1, _, rfl, rfl, isFt_2⟩⟩, ⟨_, rfl⟩⟩
theorem psi_sS8_25 : PSi sS8 25 := ⟨⟨0, _, rfl, rfl, rfl, rfl, rfl, rfl, rfl, rfl, rfl, rfl, rfl, rfl⟩, ⟨_, rfl⟩, ⟨_, rfl⟩, ⟨_, rfl⟩, ⟨_, rfl⟩, ⟨_, rfl⟩, ⟨_, rfl⟩, ⟨_, rfl⟩, ⟨_, rfl⟩, ⟨_, rfl⟩, ⟨_, rfl⟩, psl_sS8⟩
def mK_4_init_25 (V : zV) (Q : zV → Prop) : Prop := m4_begin sS8 25 (vset (vrow (vrow (vset (vrow (vrow (vrow (vrow (vrow (vrow (vrow (vrow V 26 (fun _ => 0)) 27 (fun _ => 0)) 28 (fun _ => 0)) 29 (fun _ => 0)) 30 (fun _ => 0)) 31 (fun _ => 0)) 32 (fun _ => 0)) 33 (fun _ => 0)) 25 9 0) 34 (fun _ => 0)) 35 (fun _ => 0)) 25 12 0) (fun V100 => Q V100)
def tK_4_init_25 : zT := fun as S V post => ∃ (Q : zV → Prop), as = [zR 25, zR 3] ∧ S = sS7 ∧ mK_4_init_25 V Q ∧ ∀ V2, Q V2 → post none sS8 V2
set_option maxHeartbeats 4000000 in
set_option maxRecDepth 20000 in
theorem cK_4_init_25 (l : Launch) : zCT l yX4_init cX4_init 2 none { frames := 1, cells := 10, slots := 98, locals := 21 } tK_4_init_25 := by
  refine zCT_of (by decide) (fun as S V post h => by obtain ⟨Q, rfl, -⟩ := h; exact Nat.le_of_ble_eq_true rfl) ?_
  intro X S V as post C E hT
  obtain ⟨Q, rfl, rfl, hK, hpost⟩ := hT
  show zW X sS7 V 0 0 [some (zR 25), some (zR 3)] [] 0
  unfold mK_4_init_25 at hK
  refine a_aload_n C dX4_init_0 rfl ?_
  refine a_objInit C ml_X4_3 im_objectInit co_objectInit dX4_init_1 (by decide) (by decide) ?_
  refine a_aload_n C dX4_init_4 rfl ?_
  refine a_bipush C dX4_init_5 (by decide) ?_
  refine a_newaC C 26 (Or.inl ⟨rfl, rfl⟩) ac_int rfl dX4_init_7 (by decide) rfl (by decide) (Nat.le_of_ble_eq_true rfl) (Nat.le_of_ble_eq_true rfl) ?_
  refine a_putR C fl_X4_9_4 ⟨_, _, rfl, rfl⟩ (Or.inr ⟨_, rfl⟩) (o := 25) rfl rfl dX4_init_9 (Nat.le_of_ble_eq_true rfl) ?_
  refine a_aload_n C dX4_init_12 rfl ?_
  refine a_bipush C dX4_init_13 (by decide) ?_
  refine a_newaC C 27 (Or.inl ⟨rfl, rfl⟩) ac_int rfl dX4_init_15 (by decide) rfl (by decide) (Nat.le_of_ble_eq_true rfl) (Nat.le_of_ble_eq_true rfl) ?_
  refine a_putR C fl_X4_15_4 ⟨_, _, rfl, rfl⟩ (Or.inr ⟨_, rfl⟩) (o := 25) rfl rfl dX4_init_17 (Nat.le_of_ble_eq_true rfl) ?_
  refine a_aload_n C dX4_init_20 rfl ?_
  refine a_bipush C dX4_init_21 (by decide) ?_
  refine a_newaC C 28 (Or.inr (Or.inl ⟨rfl, rfl⟩)) ac_boolean rfl dX4_init_23 (by decide) rfl (by decide) (Nat.le_of_ble_eq_true rfl) (Nat.le_of_ble_eq_true rfl) ?_
  refine a_putR C fl_X4_18_4 ⟨_, _, rfl, rfl⟩ (Or.inr ⟨_, rfl⟩) (o := 25) rfl rfl dX4_init_25 (Nat.le_of_ble_eq_true rfl) ?_
  refine a_aload_n C dX4_init_28 rfl ?_
  refine a_bipush C dX4_init_29 (by decide) ?_
  refine a_newaC C 29 (Or.inl ⟨rfl, rfl⟩) ac_int rfl dX4_init_31 (by decide) rfl (by decide) (Nat.le_of_ble_eq_true rfl) (Nat.le_of_ble_eq_true rfl) ?_
  refine a_putR C fl_X4_22_4 ⟨_, _, rfl, rfl⟩ (Or.inr ⟨_, rfl⟩) (o := 25) rfl rfl dX4_init_33 (Nat.le_of_ble_eq_true rfl) ?_
  refine a_aload_n C dX4_init_36 rfl ?_
  refine a_bipush C dX4_init_37 (by decide) ?_
  refine a_newaC C 30 (Or.inl ⟨rfl, rfl⟩) ac_int rfl dX4_init_39 (by decide) rfl (by decide) (Nat.le_of_ble_eq_true rfl) (Nat.le_of_ble_eq_true rfl) ?_
  refine a_putR C fl_X4_25_4 ⟨_, _, rfl, rfl⟩ (Or.inr ⟨_, rfl⟩) (o := 25) rfl rfl dX4_init_41 (Nat.le_of_ble_eq_true rfl) ?_
  refine a_aload_n C dX4_init_44 rfl ?_
  refine a_bipush C dX4_init_45 (by decide) ?_
  refine a_newaC C 31 (Or.inr (Or.inl ⟨rfl, rfl⟩)) ac_boolean rfl dX4_init_47 (by decide) rfl (by decide) (Nat.le_of_ble_eq_true rfl) (Nat.le_of_ble_eq_true rfl) ?_
  refine a_putR C fl_X4_28_4 ⟨_, _, rfl, rfl⟩ (Or.inr ⟨_, rfl⟩) (o := 25) rfl rfl dX4_init_49 (Nat.le_of_ble_eq_true rfl) ?_
  refine a_aload_n C dX4_init_52 rfl ?_
  refine a_bipush C dX4_init_53 (by decide) ?_
  refine a_newaC C 32 (Or.inl ⟨rfl, rfl⟩) ac_int rfl dX4_init_55 (by decide) rfl (by decide) (Nat.le_of_ble_eq_true rfl) (Nat.le_of_ble_eq_true rfl) ?_
  refine a_putR C fl_X4_31_4 ⟨_, _, rfl, rfl⟩ (Or.inr ⟨_, rfl⟩) (o := 25) rfl rfl dX4_init_57 (Nat.le_of_ble_eq_true rfl) ?_
  refine a_aload_n C dX4_init_60 rfl ?_
  refine a_bipush C dX4_init_61 (by decide) ?_
  refine a_newaC C 33 (Or.inl ⟨rfl, rfl⟩) ac_int rfl dX4_init_63 (by decide) rfl (by decide) (Nat.le_of_ble_eq_true rfl) (Nat.le_of_ble_eq_true rfl) ?_
  refine a_putR C fl_X4_34_4 ⟨_, _, rfl, rfl⟩ (Or.inr ⟨_, rfl⟩) (o := 25) rfl rfl dX4_init_65 (Nat.le_of_ble_eq_true rfl) ?_
  refine a_aload_n C dX4_init_68 rfl ?_
  refine a_iconst C dX4_init_69 ?_
  refine a_putI C fl_X4_37_4 (Or.inl rfl) (o := 25) rfl rfl dX4_init_70 ⟨⟨by decide, by decide⟩, fun q => by cases q⟩ ?_
  refine a_aload_n C dX4_init_73 rfl ?_
  refine a_bipush C dX4_init_74 (by decide) ?_
  refine a_newaC C 34 (Or.inl ⟨rfl, rfl⟩) ac_int rfl dX4_init_76 (by decide) rfl (by decide) (Nat.le_of_ble_eq_true rfl) (Nat.le_of_ble_eq_true rfl) ?_
  refine a_putR C fl_X4_41_4 ⟨_, _, rfl, rfl⟩ (Or.inr ⟨_, rfl⟩) (o := 25) rfl rfl dX4_init_78 (Nat.le_of_ble_eq_true rfl) ?_
  refine a_aload_n C dX4_init_81 rfl ?_
  refine a_bipush C dX4_init_82 (by decide) ?_
  refine a_newaC C 35 (Or.inl ⟨rfl, rfl⟩) ac_int rfl dX4_init_84 (by decide) rfl (by decide) (Nat.le_of_ble_eq_true rfl) (Nat.le_of_ble_eq_true rfl) ?_
  refine a_putR C fl_X4_44_4 ⟨_, _, rfl, rfl⟩ (Or.inr ⟨_, rfl⟩) (o := 25) rfl rfl dX4_init_86 (Nat.le_of_ble_eq_true rfl) ?_
  refine a_aload_n C dX4_init_89 rfl ?_
  refine a_iconst C dX4_init_90 ?_
  refine a_putI C fl_X4_47_4 (Or.inl rfl) (o := 25) rfl rfl dX4_init_91 ⟨⟨by decide, by decide⟩, fun q => by cases q⟩ ?_
  refine a_aload_n C dX4_init_94 rfl ?_
  refine a_aload_n C dX4_init_95 rfl ?_
  refine a_putR C fl_X4_50_4 ⟨_, _, rfl, rfl⟩ (Or.inl ⟨_, rfl⟩) (o := 25) rfl rfl dX4_init_96 (Nat.le_of_ble_eq_true rfl) ?_
  refine a_aload_n C dX4_init_99 rfl ?_
  refine a_eqS (S' := sS8) rfl ?_
  refine a_callV (o := 25) (as := []) (rest := []) C 0 (fun l => c4_begin l) (show sS8[25]? = some (4, 0, _) from rfl) ⟨_, _, rfl⟩ (by decide) ml_X4_54 im_X4_begin se_X4_begin in_X4 co_X4_begin (by decide +kernel) rfl ⟨Nat.le_of_ble_eq_true rfl, Nat.le_of_ble_eq_true rfl⟩ (Nat.le_of_ble_eq_true rfl) dX4_init_100 ⟨Nat.le_of_ble_eq_true rfl, Nat.le_of_ble_eq_true rfl⟩ ?_
  refine ⟨25, _, rfl, psi_sS8_25, hK, fun V100 hK => ?_⟩
  try dsimp only [Option.toList, List.nil_append]
  refine a_eqS (S' := sS8) rfl ?_
  exact a_vret C E dX4_init_103 (Nat.le_refl _) (Nat.le_refl _) (hpost _ hK)
def sS9 : List zC := [(11, 0, rfs [(3, 25), (2, 14), (1, 3), (0, 1)]), (8, 0, rfs [(0, 2)]), (13, 40, rfs []), (10, 0, rfs [(1, 5), (0, 4)]), (16, 8, rfs [(7, 13), (6, 12), (5, 11), (4, 10), (3, 9), (2, 8), (1, 7), (0, 6)]), (13, 16, rfs []), (2, 1, rfs []), (2, 1, rfs []), (2, 1, rfs []), (2, 1, rfs []), (2, 1, rfs []), (2, 1, rfs []), (2, 1, rfs []), (2, 1, rfs []), (4, 0, rfs [(0, 3), (11, 24), (10, 23), (8, 22), (7, 21), (6, 20), (5, 19), (4, 18), (3, 17), (2, 16), (1, 15)]), (13, 6, rfs []), (13, 6, rfs []), (14, 6, rfs []), (13, 16, rfs []), (13, 16, rfs []), (14, 8, rfs []), (13, 12, rfs []), (13, 12, rfs []), (13, 8, rfs []), (13, 8, rfs []), (4, 0, rfs [(0, 3), (11, 35), (10, 34), (8, 33), (7, 32), (6, 31), (5, 30), (4, 29), (3, 28), (2, 27), (1, 26)]), (13, 6, rfs []), (13, 6, rfs []), (14, 6, rfs []), (13, 16, rfs []), (13, 16, rfs []), (14, 8, rfs []), (13, 12, rfs []), (13, 12, rfs []), (13, 8, rfs []), (13, 8, rfs []), (4, 0, rfs [])]
def sS10 : List zC := [(11, 0, rfs [(3, 25), (2, 14), (1, 3), (0, 1)]), (8, 0, rfs [(0, 2)]), (13, 40, rfs []), (10, 0, rfs [(1, 5), (0, 4)]), (16, 8, rfs [(7, 13), (6, 12), (5, 11), (4, 10), (3, 9), (2, 8), (1, 7), (0, 6)]), (13, 16, rfs []), (2, 1, rfs []), (2, 1, rfs []), (2, 1, rfs []), (2, 1, rfs []), (2, 1, rfs []), (2, 1, rfs []), (2, 1, rfs []), (2, 1, rfs []), (4, 0, rfs [(0, 3), (11, 24), (10, 23), (8, 22), (7, 21), (6, 20), (5, 19), (4, 18), (3, 17), (2, 16), (1, 15)]), (13, 6, rfs []), (13, 6, rfs []), (14, 6, rfs []), (13, 16, rfs []), (13, 16, rfs []), (14, 8, rfs []), (13, 12, rfs []), (13, 12, rfs []), (13, 8, rfs []), (13, 8, rfs []), (4, 0, rfs [(0, 3), (11, 35), (10, 34), (8, 33), (7, 32), (6, 31), (5, 30), (4, 29), (3, 28), (2, 27), (1, 26)]), (13, 6, rfs []), (13, 6, rfs []), (14, 6, rfs []), (13, 16, rfs []), (13, 16, rfs []), (14, 8, rfs []), (13, 12, rfs []), (13, 12, rfs []), (13, 8, rfs []), (13, 8, rfs []), (4, 0, rfs [(0, 3), (11, 46), (10, 45), (8, 44), (7, 43), (6, 42), (5, 41), (4, 40), (3, 39), (2, 38), (1, 37)]), (13, 6, rfs []), (13, 6, rfs []), (14, 6, rfs []), (13, 16, rfs []), (13, 16, rfs []), (14, 8, rfs []), (13, 12, rfs []), (13, 12, rfs []), (13, 8, rfs []), (13, 8, rfs [])]
theorem psl_sS10 : PSl sS10 := ⟨⟨0, _, rfl, rfl, rfl⟩, ⟨_, rfl, fun k hk => by
    rcases (show k = 0 ∨ k = 1 ∨ k = 2 ∨ k = 3 ∨ k = 4 ∨ k = 5 ∨ k = 6 ∨ k = 7 by omega) with rfl | rfl | rfl | rfl | rfl | rfl | rfl | rfl
    · exact ⟨6, 2, 1, _, rfl, rfl, isFt_2⟩
    · exact ⟨7, 2, 1, _, rfl, rfl, isFt_2⟩
    · exact ⟨8, 2, 1, _, rfl, rfl, isFt_2⟩
    · exact ⟨9, 2, 1, _, rfl, rfl, isFt_2⟩
    · exact ⟨10, 2, 1, _, rfl, rfl, isFt_2⟩
    · exact ⟨11, 2, 1, _, rfl, rfl, isFt_2⟩
    · exact ⟨12, 2, 1, _, rfl, rfl, isFt_2⟩
    · exact ⟨13, 2, 1, _, rfl, rfl, isFt_2⟩⟩, ⟨_, rfl⟩⟩
theorem psi_sS10_36 : PSi sS10 36 := ⟨⟨0, _, rfl, rfl, rfl, rfl, rfl, rfl, rfl, rfl, rfl, rfl, rfl, rfl⟩, ⟨_, rfl⟩, ⟨_, rfl⟩, ⟨_, rfl⟩, ⟨_, rfl⟩, ⟨_, rfl⟩, ⟨_, rfl⟩, ⟨_, rfl⟩, ⟨_, rfl⟩, ⟨_, rfl⟩, ⟨_, rfl⟩, psl_sS10⟩
def mK_4_init_36 (V : zV) (Q : zV → Prop) : Prop := m4_begin sS10 36 (vset (vrow (vrow (vset (vrow (vrow (vrow (vrow (vrow (vrow (vrow (vrow V 37 (fun _ => 0)) 38 (fun _ => 0)) 39 (fun _ => 0)) 40 (fun _ => 0)) 41 (fun _ => 0)) 42 (fun _ => 0)) 43 (fun _ => 0)) 44 (fun _ => 0)) 36 9 0) 45 (fun _ => 0)) 46 (fun _ => 0)) 36 12 0) (fun V100 => Q V100)
def tK_4_init_36 : zT := fun as S V post => ∃ (Q : zV → Prop), as = [zR 36, zR 3] ∧ S = sS9 ∧ mK_4_init_36 V Q ∧ ∀ V2, Q V2 → post none sS10 V2
set_option maxHeartbeats 4000000 in
set_option maxRecDepth 20000 in
theorem cK_4_init_36 (l : Launch) : zCT l yX4_init cX4_init 2 none { frames := 1, cells := 10, slots := 98, locals := 21 } tK_4_init_36 := by
  refine zCT_of (by decide) (fun as S V post h => by obtain ⟨Q, rfl, -⟩ := h; exact Nat.le_of_ble_eq_true rfl) ?_
  intro X S V as post C E hT
  obtain ⟨Q, rfl, rfl, hK, hpost⟩ := hT
  show zW X sS9 V 0 0 [some (zR 36), some (zR 3)] [] 0
  unfold mK_4_init_36 at hK
  refine a_aload_n C dX4_init_0 rfl ?_
  refine a_objInit C ml_X4_3 im_objectInit co_objectInit dX4_init_1 (by decide) (by decide) ?_
  refine a_aload_n C dX4_init_4 rfl ?_
  refine a_bipush C dX4_init_5 (by decide) ?_
  refine a_newaC C 37 (Or.inl ⟨rfl, rfl⟩) ac_int rfl dX4_init_7 (by decide) rfl (by decide) (Nat.le_of_ble_eq_true rfl) (Nat.le_of_ble_eq_true rfl) ?_
  refine a_putR C fl_X4_9_4 ⟨_, _, rfl, rfl⟩ (Or.inr ⟨_, rfl⟩) (o := 36) rfl rfl dX4_init_9 (Nat.le_of_ble_eq_true rfl) ?_
  refine a_aload_n C dX4_init_12 rfl ?_
  refine a_bipush C dX4_init_13 (by decide) ?_
  refine a_newaC C 38 (Or.inl ⟨rfl, rfl⟩) ac_int rfl dX4_init_15 (by decide) rfl (by decide) (Nat.le_of_ble_eq_true rfl) (Nat.le_of_ble_eq_true rfl) ?_
  refine a_putR C fl_X4_15_4 ⟨_, _, rfl, rfl⟩ (Or.inr ⟨_, rfl⟩) (o := 36) rfl rfl dX4_init_17 (Nat.le_of_ble_eq_true rfl) ?_
  refine a_aload_n C dX4_init_20 rfl ?_
  refine a_bipush C dX4_init_21 (by decide) ?_
  refine a_newaC C 39 (Or.inr (Or.inl ⟨rfl, rfl⟩)) ac_boolean rfl dX4_init_23 (by decide) rfl (by decide) (Nat.le_of_ble_eq_true rfl) (Nat.le_of_ble_eq_true rfl) ?_
  refine a_putR C fl_X4_18_4 ⟨_, _, rfl, rfl⟩ (Or.inr ⟨_, rfl⟩) (o := 36) rfl rfl dX4_init_25 (Nat.le_of_ble_eq_true rfl) ?_
  refine a_aload_n C dX4_init_28 rfl ?_
  refine a_bipush C dX4_init_29 (by decide) ?_
  refine a_newaC C 40 (Or.inl ⟨rfl, rfl⟩) ac_int rfl dX4_init_31 (by decide) rfl (by decide) (Nat.le_of_ble_eq_true rfl) (Nat.le_of_ble_eq_true rfl) ?_
  refine a_putR C fl_X4_22_4 ⟨_, _, rfl, rfl⟩ (Or.inr ⟨_, rfl⟩) (o := 36) rfl rfl dX4_init_33 (Nat.le_of_ble_eq_true rfl) ?_
  refine a_aload_n C dX4_init_36 rfl ?_
  refine a_bipush C dX4_init_37 (by decide) ?_
  refine a_newaC C 41 (Or.inl ⟨rfl, rfl⟩) ac_int rfl dX4_init_39 (by decide) rfl (by decide) (Nat.le_of_ble_eq_true rfl) (Nat.le_of_ble_eq_true rfl) ?_
  refine a_putR C fl_X4_25_4 ⟨_, _, rfl, rfl⟩ (Or.inr ⟨_, rfl⟩) (o := 36) rfl rfl dX4_init_41 (Nat.le_of_ble_eq_true rfl) ?_
  refine a_aload_n C dX4_init_44 rfl ?_
  refine a_bipush C dX4_init_45 (by decide) ?_
  refine a_newaC C 42 (Or.inr (Or.inl ⟨rfl, rfl⟩)) ac_boolean rfl dX4_init_47 (by decide) rfl (by decide) (Nat.le_of_ble_eq_true rfl) (Nat.le_of_ble_eq_true rfl) ?_
  refine a_putR C fl_X4_28_4 ⟨_, _, rfl, rfl⟩ (Or.inr ⟨_, rfl⟩) (o := 36) rfl rfl dX4_init_49 (Nat.le_of_ble_eq_true rfl) ?_
  refine a_aload_n C dX4_init_52 rfl ?_
  refine a_bipush C dX4_init_53 (by decide) ?_
  refine a_newaC C 43 (Or.inl ⟨rfl, rfl⟩) ac_int rfl dX4_init_55 (by decide) rfl (by decide) (Nat.le_of_ble_eq_true rfl) (Nat.le_of_ble_eq_true rfl) ?_
  refine a_putR C fl_X4_31_4 ⟨_, _, rfl, rfl⟩ (Or.inr ⟨_, rfl⟩) (o := 36) rfl rfl dX4_init_57 (Nat.le_of_ble_eq_true rfl) ?_
  refine a_aload_n C dX4_init_60 rfl ?_
  refine a_bipush C dX4_init_61 (by decide) ?_
  refine a_newaC C 44 (Or.inl ⟨rfl, rfl⟩) ac_int rfl dX4_init_63 (by decide) rfl (by decide) (Nat.le_of_ble_eq_true rfl) (Nat.le_of_ble_eq_true rfl) ?_
  refine a_putR C fl_X4_34_4 ⟨_, _, rfl, rfl⟩ (Or.inr ⟨_, rfl⟩) (o := 36) rfl rfl dX4_init_65 (Nat.le_of_ble_eq_true rfl) ?_
  refine a_aload_n C dX4_init_68 rfl ?_
  refine a_iconst C dX4_init_69 ?_
  refine a_putI C fl_X4_37_4 (Or.inl rfl) (o := 36) rfl rfl dX4_init_70 ⟨⟨by decide, by decide⟩, fun q => by cases q⟩ ?_
  refine a_aload_n C dX4_init_73 rfl ?_
  refine a_bipush C dX4_init_74 (by decide) ?_
  refine a_newaC C 45 (Or.inl ⟨rfl, rfl⟩) ac_int rfl dX4_init_76 (by decide) rfl (by decide) (Nat.le_of_ble_eq_true rfl) (Nat.le_of_ble_eq_true rfl) ?_
  refine a_putR C fl_X4_41_4 ⟨_, _, rfl, rfl⟩ (Or.inr ⟨_, rfl⟩) (o := 36) rfl rfl dX4_init_78 (Nat.le_of_ble_eq_true rfl) ?_
  refine a_aload_n C dX4_init_81 rfl ?_
  refine a_bipush C dX4_init_82 (by decide) ?_
  refine a_newaC C 46 (Or.inl ⟨rfl, rfl⟩) ac_int rfl dX4_init_84 (by decide) rfl (by decide) (Nat.le_of_ble_eq_true rfl) (Nat.le_of_ble_eq_true rfl) ?_
  refine a_putR C fl_X4_44_4 ⟨_, _, rfl, rfl⟩ (Or.inr ⟨_, rfl⟩) (o := 36) rfl rfl dX4_init_86 (Nat.le_of_ble_eq_true rfl) ?_
  refine a_aload_n C dX4_init_89 rfl ?_
  refine a_iconst C dX4_init_90 ?_
  refine a_putI C fl_X4_47_4 (Or.inl rfl) (o := 36) rfl rfl dX4_init_91 ⟨⟨by decide, by decide⟩, fun q => by cases q⟩ ?_
  refine a_aload_n C dX4_init_94 rfl ?_
  refine a_aload_n C dX4_init_95 rfl ?_
  refine a_putR C fl_X4_50_4 ⟨_, _, rfl, rfl⟩ (Or.inl ⟨_, rfl⟩) (o := 36) rfl rfl dX4_init_96 (Nat.le_of_ble_eq_true rfl) ?_
  refine a_aload_n C dX4_init_99 rfl ?_
  refine a_eqS (S' := sS10) rfl ?_
  refine a_callV (o := 36) (as := []) (rest := []) C 0 (fun l => c4_begin l) (show sS10[36]? = some (4, 0, _) from rfl) ⟨_, _, rfl⟩ (by decide) ml_X4_54 im_X4_begin se_X4_begin in_X4 co_X4_begin (by decide +kernel) rfl ⟨Nat.le_of_ble_eq_true rfl, Nat.le_of_ble_eq_true rfl⟩ (Nat.le_of_ble_eq_true rfl) dX4_init_100 ⟨Nat.le_of_ble_eq_true rfl, Nat.le_of_ble_eq_true rfl⟩ ?_
  refine ⟨36, _, rfl, psi_sS10_36, hK, fun V100 hK => ?_⟩
  try dsimp only [Option.toList, List.nil_append]
  refine a_eqS (S' := sS10) rfl ?_
  exact a_vret C E dX4_init_103 (Nat.le_refl _) (Nat.le_refl _) (hpost _ hK)
theorem zn_X11_38 : zN RX11 38 6 := ⟨RX6, TX6, 4, tyX6, rfl, inT6, tyX6_ok, cl_X11_38, ia_X6, in_X6, fun ad j hj => by
    rcases (show j = 0 ∨ j = 1 ∨ j = 2 ∨ j = 3 by omega) with rfl | rfl | rfl | rfl <;> rfl, by decide⟩
def sS11 : List zC := [(11, 0, rfs [(4, 36), (3, 25), (2, 14), (1, 3), (0, 1)]), (8, 0, rfs [(0, 2)]), (13, 40, rfs []), (10, 0, rfs [(1, 5), (0, 4)]), (16, 8, rfs [(7, 13), (6, 12), (5, 11), (4, 10), (3, 9), (2, 8), (1, 7), (0, 6)]), (13, 16, rfs []), (2, 1, rfs []), (2, 1, rfs []), (2, 1, rfs []), (2, 1, rfs []), (2, 1, rfs []), (2, 1, rfs []), (2, 1, rfs []), (2, 1, rfs []), (4, 0, rfs [(0, 3), (11, 24), (10, 23), (8, 22), (7, 21), (6, 20), (5, 19), (4, 18), (3, 17), (2, 16), (1, 15)]), (13, 6, rfs []), (13, 6, rfs []), (14, 6, rfs []), (13, 16, rfs []), (13, 16, rfs []), (14, 8, rfs []), (13, 12, rfs []), (13, 12, rfs []), (13, 8, rfs []), (13, 8, rfs []), (4, 0, rfs [(0, 3), (11, 35), (10, 34), (8, 33), (7, 32), (6, 31), (5, 30), (4, 29), (3, 28), (2, 27), (1, 26)]), (13, 6, rfs []), (13, 6, rfs []), (14, 6, rfs []), (13, 16, rfs []), (13, 16, rfs []), (14, 8, rfs []), (13, 12, rfs []), (13, 12, rfs []), (13, 8, rfs []), (13, 8, rfs []), (4, 0, rfs [(0, 3), (11, 46), (10, 45), (8, 44), (7, 43), (6, 42), (5, 41), (4, 40), (3, 39), (2, 38), (1, 37)]), (13, 6, rfs []), (13, 6, rfs []), (14, 6, rfs []), (13, 16, rfs []), (13, 16, rfs []), (14, 8, rfs []), (13, 12, rfs []), (13, 12, rfs []), (13, 8, rfs []), (13, 8, rfs []), (6, 0, rfs [])]
def sS12 : List zC := [(11, 0, rfs [(4, 36), (3, 25), (2, 14), (1, 3), (0, 1)]), (8, 0, rfs [(0, 2)]), (13, 40, rfs []), (10, 0, rfs [(1, 5), (0, 4)]), (16, 8, rfs [(7, 13), (6, 12), (5, 11), (4, 10), (3, 9), (2, 8), (1, 7), (0, 6)]), (13, 16, rfs []), (2, 1, rfs []), (2, 1, rfs []), (2, 1, rfs []), (2, 1, rfs []), (2, 1, rfs []), (2, 1, rfs []), (2, 1, rfs []), (2, 1, rfs []), (4, 0, rfs [(0, 3), (11, 24), (10, 23), (8, 22), (7, 21), (6, 20), (5, 19), (4, 18), (3, 17), (2, 16), (1, 15)]), (13, 6, rfs []), (13, 6, rfs []), (14, 6, rfs []), (13, 16, rfs []), (13, 16, rfs []), (14, 8, rfs []), (13, 12, rfs []), (13, 12, rfs []), (13, 8, rfs []), (13, 8, rfs []), (4, 0, rfs [(0, 3), (11, 35), (10, 34), (8, 33), (7, 32), (6, 31), (5, 30), (4, 29), (3, 28), (2, 27), (1, 26)]), (13, 6, rfs []), (13, 6, rfs []), (14, 6, rfs []), (13, 16, rfs []), (13, 16, rfs []), (14, 8, rfs []), (13, 12, rfs []), (13, 12, rfs []), (13, 8, rfs []), (13, 8, rfs []), (4, 0, rfs [(0, 3), (11, 46), (10, 45), (8, 44), (7, 43), (6, 42), (5, 41), (4, 40), (3, 39), (2, 38), (1, 37)]), (13, 6, rfs []), (13, 6, rfs []), (14, 6, rfs []), (13, 16, rfs []), (13, 16, rfs []), (14, 8, rfs []), (13, 12, rfs []), (13, 12, rfs []), (13, 8, rfs []), (13, 8, rfs []), (6, 0, rfs [(1, 49), (0, 48)]), (13, 64, rfs []), (13, 36, rfs [])]
def mK_6_init_47 (V : zV) (Q : zV → Prop) : Prop := Q (vset (vset (vrow (vrow V 48 (fun _ => 0)) 49 (fun _ => 0)) 47 2 0) 47 3 0)
def tK_6_init_47 : zT := fun as S V post => ∃ (Q : zV → Prop), as = [zR 47] ∧ S = sS11 ∧ mK_6_init_47 V Q ∧ ∀ V2, Q V2 → post none sS12 V2
set_option maxHeartbeats 4000000 in
set_option maxRecDepth 20000 in
theorem cK_6_init_47 (l : Launch) : zCT l yX6_init cX6_init 1 none { frames := 1, cells := 2, slots := 100, locals := 12 } tK_6_init_47 := by
  refine zCT_of (by decide) (fun as S V post h => by obtain ⟨Q, rfl, -⟩ := h; exact Nat.le_of_ble_eq_true rfl) ?_
  intro X S V as post C E hT
  obtain ⟨Q, rfl, rfl, hK, hpost⟩ := hT
  show zW X sS11 V 0 0 [some (zR 47)] [] 0
  unfold mK_6_init_47 at hK
  refine a_aload_n C dX6_init_0 rfl ?_
  refine a_objInit C ml_X6_3 im_objectInit co_objectInit dX6_init_1 (by decide) (by decide) ?_
  refine a_aload_n C dX6_init_4 rfl ?_
  refine a_bipush C dX6_init_5 (by decide) ?_
  refine a_newaC C 48 (Or.inl ⟨rfl, rfl⟩) ac_int rfl dX6_init_7 (by decide) rfl (by decide) (Nat.le_of_ble_eq_true rfl) (Nat.le_of_ble_eq_true rfl) ?_
  refine a_putR C fl_X6_9_6 ⟨_, _, rfl, rfl⟩ (Or.inr ⟨_, rfl⟩) (o := 47) rfl rfl dX6_init_9 (Nat.le_of_ble_eq_true rfl) ?_
  refine a_aload_n C dX6_init_12 rfl ?_
  refine a_bipush C dX6_init_13 (by decide) ?_
  refine a_newaC C 49 (Or.inl ⟨rfl, rfl⟩) ac_int rfl dX6_init_15 (by decide) rfl (by decide) (Nat.le_of_ble_eq_true rfl) (Nat.le_of_ble_eq_true rfl) ?_
  refine a_putR C fl_X6_15_6 ⟨_, _, rfl, rfl⟩ (Or.inr ⟨_, rfl⟩) (o := 47) rfl rfl dX6_init_17 (Nat.le_of_ble_eq_true rfl) ?_
  refine a_aload_n C dX6_init_20 rfl ?_
  refine a_iconst C dX6_init_21 ?_
  refine a_putI C fl_X6_18_6 (Or.inl rfl) (o := 47) rfl rfl dX6_init_22 ⟨⟨by decide, by decide⟩, fun q => by cases q⟩ ?_
  refine a_aload_n C dX6_init_25 rfl ?_
  refine a_iconst C dX6_init_26 ?_
  refine a_putI C fl_X6_22_6 (Or.inl rfl) (o := 47) rfl rfl dX6_init_27 ⟨⟨by decide, by decide⟩, fun q => by cases q⟩ ?_
  refine a_eqS (S' := sS12) rfl ?_
  exact a_vret C E dX6_init_30 (Nat.le_refl _) (Nat.le_refl _) (hpost _ hK)
theorem zn_X11_45 : zN RX11 45 7 := ⟨RX7, TX7, 2, tyX7, rfl, inT7, tyX7_ok, cl_X11_45, ia_X7, in_X7, fun ad j hj => by
    rcases (show j = 0 ∨ j = 1 by omega) with rfl | rfl <;> rfl, by decide⟩
def sS13 : List zC := [(11, 0, rfs [(5, 47), (4, 36), (3, 25), (2, 14), (1, 3), (0, 1)]), (8, 0, rfs [(0, 2)]), (13, 40, rfs []), (10, 0, rfs [(1, 5), (0, 4)]), (16, 8, rfs [(7, 13), (6, 12), (5, 11), (4, 10), (3, 9), (2, 8), (1, 7), (0, 6)]), (13, 16, rfs []), (2, 1, rfs []), (2, 1, rfs []), (2, 1, rfs []), (2, 1, rfs []), (2, 1, rfs []), (2, 1, rfs []), (2, 1, rfs []), (2, 1, rfs []), (4, 0, rfs [(0, 3), (11, 24), (10, 23), (8, 22), (7, 21), (6, 20), (5, 19), (4, 18), (3, 17), (2, 16), (1, 15)]), (13, 6, rfs []), (13, 6, rfs []), (14, 6, rfs []), (13, 16, rfs []), (13, 16, rfs []), (14, 8, rfs []), (13, 12, rfs []), (13, 12, rfs []), (13, 8, rfs []), (13, 8, rfs []), (4, 0, rfs [(0, 3), (11, 35), (10, 34), (8, 33), (7, 32), (6, 31), (5, 30), (4, 29), (3, 28), (2, 27), (1, 26)]), (13, 6, rfs []), (13, 6, rfs []), (14, 6, rfs []), (13, 16, rfs []), (13, 16, rfs []), (14, 8, rfs []), (13, 12, rfs []), (13, 12, rfs []), (13, 8, rfs []), (13, 8, rfs []), (4, 0, rfs [(0, 3), (11, 46), (10, 45), (8, 44), (7, 43), (6, 42), (5, 41), (4, 40), (3, 39), (2, 38), (1, 37)]), (13, 6, rfs []), (13, 6, rfs []), (14, 6, rfs []), (13, 16, rfs []), (13, 16, rfs []), (14, 8, rfs []), (13, 12, rfs []), (13, 12, rfs []), (13, 8, rfs []), (13, 8, rfs []), (6, 0, rfs [(1, 49), (0, 48)]), (13, 64, rfs []), (13, 36, rfs []), (7, 0, rfs [])]
def sS14 : List zC := [(11, 0, rfs [(5, 47), (4, 36), (3, 25), (2, 14), (1, 3), (0, 1)]), (8, 0, rfs [(0, 2)]), (13, 40, rfs []), (10, 0, rfs [(1, 5), (0, 4)]), (16, 8, rfs [(7, 13), (6, 12), (5, 11), (4, 10), (3, 9), (2, 8), (1, 7), (0, 6)]), (13, 16, rfs []), (2, 1, rfs []), (2, 1, rfs []), (2, 1, rfs []), (2, 1, rfs []), (2, 1, rfs []), (2, 1, rfs []), (2, 1, rfs []), (2, 1, rfs []), (4, 0, rfs [(0, 3), (11, 24), (10, 23), (8, 22), (7, 21), (6, 20), (5, 19), (4, 18), (3, 17), (2, 16), (1, 15)]), (13, 6, rfs []), (13, 6, rfs []), (14, 6, rfs []), (13, 16, rfs []), (13, 16, rfs []), (14, 8, rfs []), (13, 12, rfs []), (13, 12, rfs []), (13, 8, rfs []), (13, 8, rfs []), (4, 0, rfs [(0, 3), (11, 35), (10, 34), (8, 33), (7, 32), (6, 31), (5, 30), (4, 29), (3, 28), (2, 27), (1, 26)]), (13, 6, rfs []), (13, 6, rfs []), (14, 6, rfs []), (13, 16, rfs []), (13, 16, rfs []), (14, 8, rfs []), (13, 12, rfs []), (13, 12, rfs []), (13, 8, rfs []), (13, 8, rfs []), (4, 0, rfs [(0, 3), (11, 46), (10, 45), (8, 44), (7, 43), (6, 42), (5, 41), (4, 40), (3, 39), (2, 38), (1, 37)]), (13, 6, rfs []), (13, 6, rfs []), (14, 6, rfs []), (13, 16, rfs []), (13, 16, rfs []), (14, 8, rfs []), (13, 12, rfs []), (13, 12, rfs []), (13, 8, rfs []), (13, 8, rfs []), (6, 0, rfs [(1, 49), (0, 48)]), (13, 64, rfs []), (13, 36, rfs []), (7, 0, rfs [(0, 51)]), (15, 9, rfs [])]
def mK_7_init_50 (V : zV) (Q : zV → Prop) : Prop := Q (vset (vrow V 51 (fun _ => 0)) 50 1 1)
def tK_7_init_50 : zT := fun as S V post => ∃ (Q : zV → Prop), as = [zR 50] ∧ S = sS13 ∧ mK_7_init_50 V Q ∧ ∀ V2, Q V2 → post none sS14 V2
set_option maxHeartbeats 4000000 in
set_option maxRecDepth 20000 in
theorem cK_7_init_50 (l : Launch) : zCT l yX7_init cX7_init 1 none { frames := 1, cells := 1, slots := 9, locals := 12 } tK_7_init_50 := by
  refine zCT_of (by decide) (fun as S V post h => by obtain ⟨Q, rfl, -⟩ := h; exact Nat.le_of_ble_eq_true rfl) ?_
  intro X S V as post C E hT
  obtain ⟨Q, rfl, rfl, hK, hpost⟩ := hT
  show zW X sS13 V 0 0 [some (zR 50)] [] 0
  unfold mK_7_init_50 at hK
  refine a_aload_n C dX7_init_0 rfl ?_
  refine a_objInit C ml_X7_3 im_objectInit co_objectInit dX7_init_1 (by decide) (by decide) ?_
  refine a_aload_n C dX7_init_4 rfl ?_
  refine a_bipush C dX7_init_5 (by decide) ?_
  refine a_newaC C 51 (Or.inr (Or.inr ⟨rfl, rfl⟩)) ac_long rfl dX7_init_7 (by decide) rfl (by decide) (Nat.le_of_ble_eq_true rfl) (Nat.le_of_ble_eq_true rfl) ?_
  refine a_putR C fl_X7_9_7 ⟨_, _, rfl, rfl⟩ (Or.inr ⟨_, rfl⟩) (o := 50) rfl rfl dX7_init_9 (Nat.le_of_ble_eq_true rfl) ?_
  refine a_aload_n C dX7_init_12 rfl ?_
  refine a_lconst C 1 dX7_init_13 (by decide) ?_
  refine a_putJ C fl_X7_15_7 (o := 50) rfl rfl dX7_init_14 ⟨by decide, by decide⟩ ?_
  refine a_eqS (S' := sS14) rfl ?_
  exact a_vret C E dX7_init_17 (Nat.le_refl _) (Nat.le_refl _) (hpost _ hK)
theorem zn_X11_52 : zN RX11 52 1 := ⟨RX1, TX1, 1, tyX1, rfl, inT1, tyX1_ok, cl_X11_52, ia_X1, in_X1, fun ad j hj => by
    obtain rfl : j = 0 := by omega
    rfl, by decide⟩
def sS15 : List zC := [(11, 0, rfs [(6, 50), (5, 47), (4, 36), (3, 25), (2, 14), (1, 3), (0, 1)]), (8, 0, rfs [(0, 2)]), (13, 40, rfs []), (10, 0, rfs [(1, 5), (0, 4)]), (16, 8, rfs [(7, 13), (6, 12), (5, 11), (4, 10), (3, 9), (2, 8), (1, 7), (0, 6)]), (13, 16, rfs []), (2, 1, rfs []), (2, 1, rfs []), (2, 1, rfs []), (2, 1, rfs []), (2, 1, rfs []), (2, 1, rfs []), (2, 1, rfs []), (2, 1, rfs []), (4, 0, rfs [(0, 3), (11, 24), (10, 23), (8, 22), (7, 21), (6, 20), (5, 19), (4, 18), (3, 17), (2, 16), (1, 15)]), (13, 6, rfs []), (13, 6, rfs []), (14, 6, rfs []), (13, 16, rfs []), (13, 16, rfs []), (14, 8, rfs []), (13, 12, rfs []), (13, 12, rfs []), (13, 8, rfs []), (13, 8, rfs []), (4, 0, rfs [(0, 3), (11, 35), (10, 34), (8, 33), (7, 32), (6, 31), (5, 30), (4, 29), (3, 28), (2, 27), (1, 26)]), (13, 6, rfs []), (13, 6, rfs []), (14, 6, rfs []), (13, 16, rfs []), (13, 16, rfs []), (14, 8, rfs []), (13, 12, rfs []), (13, 12, rfs []), (13, 8, rfs []), (13, 8, rfs []), (4, 0, rfs [(0, 3), (11, 46), (10, 45), (8, 44), (7, 43), (6, 42), (5, 41), (4, 40), (3, 39), (2, 38), (1, 37)]), (13, 6, rfs []), (13, 6, rfs []), (14, 6, rfs []), (13, 16, rfs []), (13, 16, rfs []), (14, 8, rfs []), (13, 12, rfs []), (13, 12, rfs []), (13, 8, rfs []), (13, 8, rfs []), (6, 0, rfs [(1, 49), (0, 48)]), (13, 64, rfs []), (13, 36, rfs []), (7, 0, rfs [(0, 51)]), (15, 9, rfs []), (1, 0, rfs [])]
def mK_1_init_52 (V : zV) (Q : zV → Prop) : Prop := Q (vset V 52 0 0)
def tK_1_init_52 : zT := fun as S V post => ∃ (Q : zV → Prop), as = [zR 52] ∧ S = sS15 ∧ mK_1_init_52 V Q ∧ ∀ V2, Q V2 → post none sS15 V2
set_option maxHeartbeats 4000000 in
set_option maxRecDepth 20000 in
theorem cK_1_init_52 (l : Launch) : zCT l yX1_init cX1_init 1 none { frames := 1, cells := 0, slots := 0, locals := 12 } tK_1_init_52 := by
  refine zCT_of (by decide) (fun as S V post h => by obtain ⟨Q, rfl, -⟩ := h; exact Nat.le_of_ble_eq_true rfl) ?_
  intro X S V as post C E hT
  obtain ⟨Q, rfl, rfl, hK, hpost⟩ := hT
  show zW X sS15 V 0 0 [some (zR 52)] [] 0
  unfold mK_1_init_52 at hK
  refine a_aload_n C dX1_init_0 rfl ?_
  refine a_objInit C ml_X1_1 im_objectInit co_objectInit dX1_init_1 (by decide) (by decide) ?_
  refine a_aload_n C dX1_init_4 rfl ?_
  refine a_iconst C dX1_init_5 ?_
  refine a_putI C fl_X1_7_1 (Or.inl rfl) (o := 52) rfl rfl dX1_init_6 ⟨⟨by decide, by decide⟩, fun q => by cases q⟩ ?_
  refine a_eqS (S' := sS15) rfl ?_
  exact a_vret C E dX1_init_9 (Nat.le_refl _) (Nat.le_refl _) (hpost _ hK)
def sS16 : List zC := [(11, 0, rfs [(7, 52), (6, 50), (5, 47), (4, 36), (3, 25), (2, 14), (1, 3), (0, 1)]), (8, 0, rfs [(0, 2)]), (13, 40, rfs []), (10, 0, rfs [(1, 5), (0, 4)]), (16, 8, rfs [(7, 13), (6, 12), (5, 11), (4, 10), (3, 9), (2, 8), (1, 7), (0, 6)]), (13, 16, rfs []), (2, 1, rfs []), (2, 1, rfs []), (2, 1, rfs []), (2, 1, rfs []), (2, 1, rfs []), (2, 1, rfs []), (2, 1, rfs []), (2, 1, rfs []), (4, 0, rfs [(0, 3), (11, 24), (10, 23), (8, 22), (7, 21), (6, 20), (5, 19), (4, 18), (3, 17), (2, 16), (1, 15)]), (13, 6, rfs []), (13, 6, rfs []), (14, 6, rfs []), (13, 16, rfs []), (13, 16, rfs []), (14, 8, rfs []), (13, 12, rfs []), (13, 12, rfs []), (13, 8, rfs []), (13, 8, rfs []), (4, 0, rfs [(0, 3), (11, 35), (10, 34), (8, 33), (7, 32), (6, 31), (5, 30), (4, 29), (3, 28), (2, 27), (1, 26)]), (13, 6, rfs []), (13, 6, rfs []), (14, 6, rfs []), (13, 16, rfs []), (13, 16, rfs []), (14, 8, rfs []), (13, 12, rfs []), (13, 12, rfs []), (13, 8, rfs []), (13, 8, rfs []), (4, 0, rfs [(0, 3), (11, 46), (10, 45), (8, 44), (7, 43), (6, 42), (5, 41), (4, 40), (3, 39), (2, 38), (1, 37)]), (13, 6, rfs []), (13, 6, rfs []), (14, 6, rfs []), (13, 16, rfs []), (13, 16, rfs []), (14, 8, rfs []), (13, 12, rfs []), (13, 12, rfs []), (13, 8, rfs []), (13, 8, rfs []), (6, 0, rfs [(1, 49), (0, 48)]), (13, 64, rfs []), (13, 36, rfs []), (7, 0, rfs [(0, 51)]), (15, 9, rfs []), (1, 0, rfs [])]
def mK_11_init_0 (V : zV) (Q : zV → Prop) : Prop := mK_8_init_1 (vrow V 1 (fun _ => 0)) (fun V9 => mK_10_init_3 (vrow V9 3 (fun _ => 0)) (fun V20 => mK_4_init_14 (vrow V20 14 (fun _ => 0)) (fun V35 => mK_4_init_25 (vrow V35 25 (fun _ => 0)) (fun V50 => mK_4_init_36 (vrow V50 36 (fun _ => 0)) (fun V65 => mK_6_init_47 (vrow V65 47 (fun _ => 0)) (fun V76 => mK_7_init_50 (vrow V76 50 (fun _ => 0)) (fun V87 => mK_1_init_52 (vrow V87 52 (fun _ => 0)) (fun V98 => Q (vset (vset V98 0 8 0) 0 9 0)))))))))
def tK_11_init_0 : zT := fun as S V post => ∃ (Q : zV → Prop), as = [zR 0] ∧ S = sS0 ∧ mK_11_init_0 V Q ∧ ∀ V2, Q V2 → post none sS16 V2
set_option maxHeartbeats 4000000 in
set_option maxRecDepth 20000 in
theorem cK_11_init_0 (l : Launch) : zCT l yX11_init cX11_init 1 none { frames := 3, cells := 52, slots := 528, locals := 54 } tK_11_init_0 := by
  refine zCT_of (by decide) (fun as S V post h => by obtain ⟨Q, rfl, -⟩ := h; exact Nat.le_of_ble_eq_true rfl) ?_
  intro X S V as post C E hT
  obtain ⟨Q, rfl, rfl, hK, hpost⟩ := hT
  show zW X sS0 V 0 0 [some (zR 0)] [] 0
  unfold mK_11_init_0 at hK
  refine a_aload_n C dX11_init_0 rfl ?_
  refine a_objInit C ml_X11_1 im_objectInit co_objectInit dX11_init_1 (by decide) (by decide) ?_
  refine a_aload_n C dX11_init_4 rfl ?_
  refine a_newC C zn_X11_7 4 1 rfl ⟨_, _, rfl⟩ dX11_init_5 rfl (by decide) (Nat.le_of_ble_eq_true rfl) (Nat.le_of_ble_eq_true rfl) ?_
  refine a_dup C dX11_init_8 rfl ?_
  refine a_eqS (S' := sS1) rfl ?_
  refine a_callIN (o := 1) (as := []) (rest := [zR 1, zR 0]) C 0 (fun l => cK_8_init_1 l) rfl (host := "ClosedFeuds") (by decide +kernel) im_X8_init in_X8 co_X8_init (by decide +kernel) rfl ⟨Nat.le_of_ble_eq_true rfl, Nat.le_of_ble_eq_true rfl⟩ (Nat.le_of_ble_eq_true rfl) dX11_init_9 ⟨Nat.le_of_ble_eq_true rfl, Nat.le_of_ble_eq_true rfl⟩ ?_
  refine ⟨_, rfl, rfl, hK, fun V9 hK => ?_⟩
  try dsimp only [Option.toList, List.nil_append]
  refine a_putR C fl_X11_10_11 ⟨_, _, rfl, rfl⟩ (Or.inl ⟨_, rfl⟩) (o := 0) rfl rfl dX11_init_12 (Nat.le_of_ble_eq_true rfl) ?_
  refine a_aload_n C dX11_init_15 rfl ?_
  refine a_newC C zn_X11_16 3 3 rfl ⟨_, _, rfl⟩ dX11_init_16 rfl (by decide) (Nat.le_of_ble_eq_true rfl) (Nat.le_of_ble_eq_true rfl) ?_
  refine a_dup C dX11_init_19 rfl ?_
  refine a_eqS (S' := sS3) rfl ?_
  refine a_callI (o := 3) (as := []) (rest := [zR 3, zR 0]) C 0 (fun l => cK_10_init_3 l) rfl ml_X11_18 im_X10_init in_X10 co_X10_init (by decide +kernel) rfl ⟨Nat.le_of_ble_eq_true rfl, Nat.le_of_ble_eq_true rfl⟩ (Nat.le_of_ble_eq_true rfl) dX11_init_20 ⟨Nat.le_of_ble_eq_true rfl, Nat.le_of_ble_eq_true rfl⟩ ?_
  refine ⟨_, rfl, rfl, hK, fun V20 hK => ?_⟩
  try dsimp only [Option.toList, List.nil_append]
  refine a_putR C fl_X11_19_11 ⟨_, _, rfl, rfl⟩ (Or.inl ⟨_, rfl⟩) (o := 0) rfl rfl dX11_init_23 (Nat.le_of_ble_eq_true rfl) ?_
  refine a_aload_n C dX11_init_26 rfl ?_
  refine a_newC C zn_X11_23 13 14 rfl ⟨_, _, rfl⟩ dX11_init_27 rfl (by decide) (Nat.le_of_ble_eq_true rfl) (Nat.le_of_ble_eq_true rfl) ?_
  refine a_dup C dX11_init_30 rfl ?_
  refine a_aload_n C dX11_init_31 rfl ?_
  refine a_getR (o := 0) (r := 3) C fl_X11_19_11 rfl rfl rfl dX11_init_32 ?_
  refine a_eqS (S' := sS5) rfl ?_
  refine a_callI (o := 14) (as := [zR 3]) (rest := [zR 14, zR 0]) C 1 (fun l => cK_4_init_14 l) rfl ml_X11_25 im_X4_init in_X4 co_X4_init (by decide +kernel) rfl ⟨Nat.le_of_ble_eq_true rfl, Nat.le_of_ble_eq_true rfl⟩ (Nat.le_of_ble_eq_true rfl) dX11_init_35 ⟨Nat.le_of_ble_eq_true rfl, Nat.le_of_ble_eq_true rfl⟩ ?_
  refine ⟨_, rfl, rfl, hK, fun V35 hK => ?_⟩
  try dsimp only [Option.toList, List.nil_append]
  refine a_putR C fl_X11_28_11 ⟨_, _, rfl, rfl⟩ (Or.inl ⟨_, rfl⟩) (o := 0) rfl rfl dX11_init_38 (Nat.le_of_ble_eq_true rfl) ?_
  refine a_aload_n C dX11_init_41 rfl ?_
  refine a_newC C zn_X11_23 13 25 rfl ⟨_, _, rfl⟩ dX11_init_42 rfl (by decide) (Nat.le_of_ble_eq_true rfl) (Nat.le_of_ble_eq_true rfl) ?_
  refine a_dup C dX11_init_45 rfl ?_
  refine a_aload_n C dX11_init_46 rfl ?_
  refine a_getR (o := 0) (r := 3) C fl_X11_19_11 rfl rfl rfl dX11_init_47 ?_
  refine a_eqS (S' := sS7) rfl ?_
  refine a_callI (o := 25) (as := [zR 3]) (rest := [zR 25, zR 0]) C 1 (fun l => cK_4_init_25 l) rfl ml_X11_25 im_X4_init in_X4 co_X4_init (by decide +kernel) rfl ⟨Nat.le_of_ble_eq_true rfl, Nat.le_of_ble_eq_true rfl⟩ (Nat.le_of_ble_eq_true rfl) dX11_init_50 ⟨Nat.le_of_ble_eq_true rfl, Nat.le_of_ble_eq_true rfl⟩ ?_
  refine ⟨_, rfl, rfl, hK, fun V50 hK => ?_⟩
  try dsimp only [Option.toList, List.nil_append]
  refine a_putR C fl_X11_32_11 ⟨_, _, rfl, rfl⟩ (Or.inl ⟨_, rfl⟩) (o := 0) rfl rfl dX11_init_53 (Nat.le_of_ble_eq_true rfl) ?_
  refine a_aload_n C dX11_init_56 rfl ?_
  refine a_newC C zn_X11_23 13 36 rfl ⟨_, _, rfl⟩ dX11_init_57 rfl (by decide) (Nat.le_of_ble_eq_true rfl) (Nat.le_of_ble_eq_true rfl) ?_
  refine a_dup C dX11_init_60 rfl ?_
  refine a_aload_n C dX11_init_61 rfl ?_
  refine a_getR (o := 0) (r := 3) C fl_X11_19_11 rfl rfl rfl dX11_init_62 ?_
  refine a_eqS (S' := sS9) rfl ?_
  refine a_callI (o := 36) (as := [zR 3]) (rest := [zR 36, zR 0]) C 1 (fun l => cK_4_init_36 l) rfl ml_X11_25 im_X4_init in_X4 co_X4_init (by decide +kernel) rfl ⟨Nat.le_of_ble_eq_true rfl, Nat.le_of_ble_eq_true rfl⟩ (Nat.le_of_ble_eq_true rfl) dX11_init_65 ⟨Nat.le_of_ble_eq_true rfl, Nat.le_of_ble_eq_true rfl⟩ ?_
  refine ⟨_, rfl, rfl, hK, fun V65 hK => ?_⟩
  try dsimp only [Option.toList, List.nil_append]
  refine a_putR C fl_X11_35_11 ⟨_, _, rfl, rfl⟩ (Or.inl ⟨_, rfl⟩) (o := 0) rfl rfl dX11_init_68 (Nat.le_of_ble_eq_true rfl) ?_
  refine a_aload_n C dX11_init_71 rfl ?_
  refine a_newC C zn_X11_38 4 47 rfl ⟨_, _, rfl⟩ dX11_init_72 rfl (by decide) (Nat.le_of_ble_eq_true rfl) (Nat.le_of_ble_eq_true rfl) ?_
  refine a_dup C dX11_init_75 rfl ?_
  refine a_eqS (S' := sS11) rfl ?_
  refine a_callIN (o := 47) (as := []) (rest := [zR 47, zR 0]) C 0 (fun l => cK_6_init_47 l) rfl (host := "ClosedFeuds") (by decide +kernel) im_X6_init in_X6 co_X6_init (by decide +kernel) rfl ⟨Nat.le_of_ble_eq_true rfl, Nat.le_of_ble_eq_true rfl⟩ (Nat.le_of_ble_eq_true rfl) dX11_init_76 ⟨Nat.le_of_ble_eq_true rfl, Nat.le_of_ble_eq_true rfl⟩ ?_
  refine ⟨_, rfl, rfl, hK, fun V76 hK => ?_⟩
  try dsimp only [Option.toList, List.nil_append]
  refine a_putR C fl_X11_41_11 ⟨_, _, rfl, rfl⟩ (Or.inl ⟨_, rfl⟩) (o := 0) rfl rfl dX11_init_79 (Nat.le_of_ble_eq_true rfl) ?_
  refine a_aload_n C dX11_init_82 rfl ?_
  refine a_newC C zn_X11_45 2 50 rfl ⟨_, _, rfl⟩ dX11_init_83 rfl (by decide) (Nat.le_of_ble_eq_true rfl) (Nat.le_of_ble_eq_true rfl) ?_
  refine a_dup C dX11_init_86 rfl ?_
  refine a_eqS (S' := sS13) rfl ?_
  refine a_callIN (o := 50) (as := []) (rest := [zR 50, zR 0]) C 0 (fun l => cK_7_init_50 l) rfl (host := "ClosedFeuds") (by decide +kernel) im_X7_init in_X7 co_X7_init (by decide +kernel) rfl ⟨Nat.le_of_ble_eq_true rfl, Nat.le_of_ble_eq_true rfl⟩ (Nat.le_of_ble_eq_true rfl) dX11_init_87 ⟨Nat.le_of_ble_eq_true rfl, Nat.le_of_ble_eq_true rfl⟩ ?_
  refine ⟨_, rfl, rfl, hK, fun V87 hK => ?_⟩
  try dsimp only [Option.toList, List.nil_append]
  refine a_putR C fl_X11_48_11 ⟨_, _, rfl, rfl⟩ (Or.inl ⟨_, rfl⟩) (o := 0) rfl rfl dX11_init_90 (Nat.le_of_ble_eq_true rfl) ?_
  refine a_aload_n C dX11_init_93 rfl ?_
  refine a_newC C zn_X11_52 1 52 rfl ⟨_, _, rfl⟩ dX11_init_94 rfl (by decide) (Nat.le_of_ble_eq_true rfl) (Nat.le_of_ble_eq_true rfl) ?_
  refine a_dup C dX11_init_97 rfl ?_
  refine a_eqS (S' := sS15) rfl ?_
  refine a_callIN (o := 52) (as := []) (rest := [zR 52, zR 0]) C 0 (fun l => cK_1_init_52 l) rfl (host := "ClosedFeuds") (by decide +kernel) im_X1_init in_X1 co_X1_init (by decide +kernel) rfl ⟨Nat.le_of_ble_eq_true rfl, Nat.le_of_ble_eq_true rfl⟩ (Nat.le_of_ble_eq_true rfl) dX11_init_98 ⟨Nat.le_of_ble_eq_true rfl, Nat.le_of_ble_eq_true rfl⟩ ?_
  refine ⟨_, rfl, rfl, hK, fun V98 hK => ?_⟩
  try dsimp only [Option.toList, List.nil_append]
  refine a_putR C fl_X11_55_11 ⟨_, _, rfl, rfl⟩ (Or.inl ⟨_, rfl⟩) (o := 0) rfl rfl dX11_init_101 (Nat.le_of_ble_eq_true rfl) ?_
  refine a_aload_n C dX11_init_104 rfl ?_
  refine a_iconst C dX11_init_105 ?_
  refine a_putI C fl_X11_59_11 (Or.inr rfl) (o := 0) rfl rfl dX11_init_106 ⟨⟨by decide, by decide⟩, fun _ => by decide⟩ ?_
  refine a_aload_n C dX11_init_109 rfl ?_
  refine a_iconst C dX11_init_110 ?_
  refine a_putI C fl_X11_63_11 (Or.inl rfl) (o := 0) rfl rfl dX11_init_111 ⟨⟨by decide, by decide⟩, fun q => by cases q⟩ ?_
  refine a_eqS (S' := sS16) rfl ?_
  exact a_vret C E dX11_init_114 (Nat.le_refl _) (Nat.le_refl _) (hpost _ hK)
def sS17 : List zC := [(11, 0, rfs [(7, 52), (6, 50), (5, 47), (4, 36), (3, 25), (2, 14), (1, 3), (0, 1)]), (8, 0, rfs [(0, 2)]), (13, 40, rfs []), (10, 0, rfs [(1, 5), (0, 4)]), (16, 8, rfs [(7, 13), (6, 12), (5, 11), (4, 10), (3, 9), (2, 8), (1, 7), (0, 6)]), (13, 16, rfs []), (2, 1, rfs []), (2, 1, rfs []), (2, 1, rfs []), (2, 1, rfs []), (2, 1, rfs []), (2, 1, rfs []), (2, 1, rfs []), (2, 1, rfs []), (4, 0, rfs [(0, 3), (11, 24), (10, 23), (8, 22), (7, 21), (6, 20), (5, 19), (4, 18), (3, 17), (2, 16), (1, 15)]), (13, 6, rfs []), (13, 6, rfs []), (14, 6, rfs []), (13, 16, rfs []), (13, 16, rfs []), (14, 8, rfs []), (13, 12, rfs []), (13, 12, rfs []), (13, 8, rfs []), (13, 8, rfs []), (4, 0, rfs [(0, 3), (11, 35), (10, 34), (8, 33), (7, 32), (6, 31), (5, 30), (4, 29), (3, 28), (2, 27), (1, 26)]), (13, 6, rfs []), (13, 6, rfs []), (14, 6, rfs []), (13, 16, rfs []), (13, 16, rfs []), (14, 8, rfs []), (13, 12, rfs []), (13, 12, rfs []), (13, 8, rfs []), (13, 8, rfs []), (4, 0, rfs [(0, 3), (11, 46), (10, 45), (8, 44), (7, 43), (6, 42), (5, 41), (4, 40), (3, 39), (2, 38), (1, 37)]), (13, 6, rfs []), (13, 6, rfs []), (14, 6, rfs []), (13, 16, rfs []), (13, 16, rfs []), (14, 8, rfs []), (13, 12, rfs []), (13, 12, rfs []), (13, 8, rfs []), (13, 8, rfs []), (6, 0, rfs [(1, 49), (0, 48)]), (13, 64, rfs []), (13, 36, rfs []), (7, 0, rfs [(0, 51)]), (15, 9, rfs []), (1, 0, rfs []), (12, 0, rfs [])]
def sS18 : List zC := [(11, 0, rfs [(7, 52), (6, 50), (5, 47), (4, 36), (3, 25), (2, 14), (1, 3), (0, 1)]), (8, 0, rfs [(0, 2)]), (13, 40, rfs []), (10, 0, rfs [(1, 5), (0, 4)]), (16, 8, rfs [(7, 13), (6, 12), (5, 11), (4, 10), (3, 9), (2, 8), (1, 7), (0, 6)]), (13, 16, rfs []), (2, 1, rfs []), (2, 1, rfs []), (2, 1, rfs []), (2, 1, rfs []), (2, 1, rfs []), (2, 1, rfs []), (2, 1, rfs []), (2, 1, rfs []), (4, 0, rfs [(0, 3), (11, 24), (10, 23), (8, 22), (7, 21), (6, 20), (5, 19), (4, 18), (3, 17), (2, 16), (1, 15)]), (13, 6, rfs []), (13, 6, rfs []), (14, 6, rfs []), (13, 16, rfs []), (13, 16, rfs []), (14, 8, rfs []), (13, 12, rfs []), (13, 12, rfs []), (13, 8, rfs []), (13, 8, rfs []), (4, 0, rfs [(0, 3), (11, 35), (10, 34), (8, 33), (7, 32), (6, 31), (5, 30), (4, 29), (3, 28), (2, 27), (1, 26)]), (13, 6, rfs []), (13, 6, rfs []), (14, 6, rfs []), (13, 16, rfs []), (13, 16, rfs []), (14, 8, rfs []), (13, 12, rfs []), (13, 12, rfs []), (13, 8, rfs []), (13, 8, rfs []), (4, 0, rfs [(0, 3), (11, 46), (10, 45), (8, 44), (7, 43), (6, 42), (5, 41), (4, 40), (3, 39), (2, 38), (1, 37)]), (13, 6, rfs []), (13, 6, rfs []), (14, 6, rfs []), (13, 16, rfs []), (13, 16, rfs []), (14, 8, rfs []), (13, 12, rfs []), (13, 12, rfs []), (13, 8, rfs []), (13, 8, rfs []), (6, 0, rfs [(1, 49), (0, 48)]), (13, 64, rfs []), (13, 36, rfs []), (7, 0, rfs [(0, 51)]), (15, 9, rfs []), (1, 0, rfs []), (12, 0, rfs [(24, 67), (23, 66), (22, 65), (21, 64), (16, 63), (14, 62), (13, 61), (12, 60), (11, 59), (10, 58), (8, 57), (7, 56), (2, 55), (0, 54)]), (13, 40, rfs []), (13, 32, rfs []), (13, 56, rfs []), (13, 18, rfs []), (13, 24, rfs []), (13, 56, rfs []), (13, 18, rfs []), (13, 64, rfs []), (15, 10, rfs []), (13, 16, rfs []), (13, 56, rfs []), (13, 18, rfs []), (13, 24, rfs []), (13, 16, rfs [])]
theorem psm_sS18 : PSm sS18 := ⟨⟨0, _, rfl, rfl, rfl, rfl, rfl, rfl, rfl, rfl, rfl, rfl, rfl, rfl, rfl, rfl, rfl⟩, ⟨_, rfl⟩, ⟨_, rfl⟩, ⟨_, rfl⟩, ⟨_, rfl⟩, ⟨_, rfl⟩, ⟨_, rfl⟩, ⟨_, rfl⟩, ⟨_, rfl⟩, ⟨_, rfl⟩, ⟨_, rfl⟩, ⟨_, rfl⟩, ⟨_, rfl⟩, ⟨_, rfl⟩, ⟨_, rfl⟩⟩
def mK_12_init_53 (V : zV) (Q : zV → Prop) : Prop := m12_peopleAsAtFirst (vset (vrow (vrow (vrow (vrow (vrow (vrow (vrow (vrow (vrow (vrow (vrow (vrow (vrow (vrow V 54 (fun _ => 0)) 55 (fun _ => 0)) 56 (fun _ => 0)) 57 (fun _ => 0)) 58 (fun _ => 0)) 59 (fun _ => 0)) 60 (fun _ => 0)) 61 (fun _ => 0)) 62 (fun _ => 0)) 63 (fun _ => 0)) 64 (fun _ => 0)) 65 (fun _ => 0)) 66 (fun _ => 0)) 67 (fun _ => 0)) 53 18 (-1)) (fun V122 => Q V122)
def tK_12_init_53 : zT := fun as S V post => ∃ (Q : zV → Prop), as = [zR 53] ∧ S = sS17 ∧ mK_12_init_53 V Q ∧ ∀ V2, Q V2 → post none sS18 V2
set_option maxHeartbeats 4000000 in
set_option maxRecDepth 20000 in
theorem cK_12_init_53 (l : Launch) : zCT l yX12_init cX12_init 1 none { frames := 1, cells := 14, slots := 448, locals := 21 } tK_12_init_53 := by
  refine zCT_of (by decide) (fun as S V post h => by obtain ⟨Q, rfl, -⟩ := h; exact Nat.le_of_ble_eq_true rfl) ?_
  intro X S V as post C E hT
  obtain ⟨Q, rfl, rfl, hK, hpost⟩ := hT
  show zW X sS17 V 0 0 [some (zR 53)] [] 0
  unfold mK_12_init_53 at hK
  refine a_aload_n C dX12_init_0 rfl ?_
  refine a_objInit C ml_X12_1 im_objectInit co_objectInit dX12_init_1 (by decide) (by decide) ?_
  refine a_aload_n C dX12_init_4 rfl ?_
  refine a_bipush C dX12_init_5 (by decide) ?_
  refine a_newaC C 54 (Or.inl ⟨rfl, rfl⟩) ac_int rfl dX12_init_7 (by decide) rfl (by decide) (Nat.le_of_ble_eq_true rfl) (Nat.le_of_ble_eq_true rfl) ?_
  refine a_putR C fl_X12_7_12 ⟨_, _, rfl, rfl⟩ (Or.inr ⟨_, rfl⟩) (o := 53) rfl rfl dX12_init_9 (Nat.le_of_ble_eq_true rfl) ?_
  refine a_aload_n C dX12_init_12 rfl ?_
  refine a_bipush C dX12_init_13 (by decide) ?_
  refine a_newaC C 55 (Or.inl ⟨rfl, rfl⟩) ac_int rfl dX12_init_15 (by decide) rfl (by decide) (Nat.le_of_ble_eq_true rfl) (Nat.le_of_ble_eq_true rfl) ?_
  refine a_putR C fl_X12_13_12 ⟨_, _, rfl, rfl⟩ (Or.inr ⟨_, rfl⟩) (o := 53) rfl rfl dX12_init_17 (Nat.le_of_ble_eq_true rfl) ?_
  refine a_aload_n C dX12_init_20 rfl ?_
  refine a_bipush C dX12_init_21 (by decide) ?_
  refine a_newaC C 56 (Or.inl ⟨rfl, rfl⟩) ac_int rfl dX12_init_23 (by decide) rfl (by decide) (Nat.le_of_ble_eq_true rfl) (Nat.le_of_ble_eq_true rfl) ?_
  refine a_putR C fl_X12_16_12 ⟨_, _, rfl, rfl⟩ (Or.inr ⟨_, rfl⟩) (o := 53) rfl rfl dX12_init_25 (Nat.le_of_ble_eq_true rfl) ?_
  refine a_aload_n C dX12_init_28 rfl ?_
  refine a_bipush C dX12_init_29 (by decide) ?_
  refine a_newaC C 57 (Or.inl ⟨rfl, rfl⟩) ac_int rfl dX12_init_31 (by decide) rfl (by decide) (Nat.le_of_ble_eq_true rfl) (Nat.le_of_ble_eq_true rfl) ?_
  refine a_putR C fl_X12_19_12 ⟨_, _, rfl, rfl⟩ (Or.inr ⟨_, rfl⟩) (o := 53) rfl rfl dX12_init_33 (Nat.le_of_ble_eq_true rfl) ?_
  refine a_aload_n C dX12_init_36 rfl ?_
  refine a_bipush C dX12_init_37 (by decide) ?_
  refine a_newaC C 58 (Or.inl ⟨rfl, rfl⟩) ac_int rfl dX12_init_39 (by decide) rfl (by decide) (Nat.le_of_ble_eq_true rfl) (Nat.le_of_ble_eq_true rfl) ?_
  refine a_putR C fl_X12_22_12 ⟨_, _, rfl, rfl⟩ (Or.inr ⟨_, rfl⟩) (o := 53) rfl rfl dX12_init_41 (Nat.le_of_ble_eq_true rfl) ?_
  refine a_aload_n C dX12_init_44 rfl ?_
  refine a_bipush C dX12_init_45 (by decide) ?_
  refine a_newaC C 59 (Or.inl ⟨rfl, rfl⟩) ac_int rfl dX12_init_47 (by decide) rfl (by decide) (Nat.le_of_ble_eq_true rfl) (Nat.le_of_ble_eq_true rfl) ?_
  refine a_putR C fl_X12_25_12 ⟨_, _, rfl, rfl⟩ (Or.inr ⟨_, rfl⟩) (o := 53) rfl rfl dX12_init_49 (Nat.le_of_ble_eq_true rfl) ?_
  refine a_aload_n C dX12_init_52 rfl ?_
  refine a_bipush C dX12_init_53 (by decide) ?_
  refine a_newaC C 60 (Or.inl ⟨rfl, rfl⟩) ac_int rfl dX12_init_55 (by decide) rfl (by decide) (Nat.le_of_ble_eq_true rfl) (Nat.le_of_ble_eq_true rfl) ?_
  refine a_putR C fl_X12_28_12 ⟨_, _, rfl, rfl⟩ (Or.inr ⟨_, rfl⟩) (o := 53) rfl rfl dX12_init_57 (Nat.le_of_ble_eq_true rfl) ?_
  refine a_aload_n C dX12_init_60 rfl ?_
  refine a_bipush C dX12_init_61 (by decide) ?_
  refine a_newaC C 61 (Or.inl ⟨rfl, rfl⟩) ac_int rfl dX12_init_63 (by decide) rfl (by decide) (Nat.le_of_ble_eq_true rfl) (Nat.le_of_ble_eq_true rfl) ?_
  refine a_putR C fl_X12_31_12 ⟨_, _, rfl, rfl⟩ (Or.inr ⟨_, rfl⟩) (o := 53) rfl rfl dX12_init_65 (Nat.le_of_ble_eq_true rfl) ?_
  refine a_aload_n C dX12_init_68 rfl ?_
  refine a_bipush C dX12_init_69 (by decide) ?_
  refine a_newaC C 62 (Or.inr (Or.inr ⟨rfl, rfl⟩)) ac_long rfl dX12_init_71 (by decide) rfl (by decide) (Nat.le_of_ble_eq_true rfl) (Nat.le_of_ble_eq_true rfl) ?_
  refine a_putR C fl_X12_34_12 ⟨_, _, rfl, rfl⟩ (Or.inr ⟨_, rfl⟩) (o := 53) rfl rfl dX12_init_73 (Nat.le_of_ble_eq_true rfl) ?_
  refine a_aload_n C dX12_init_76 rfl ?_
  refine a_bipush C dX12_init_77 (by decide) ?_
  refine a_newaC C 63 (Or.inl ⟨rfl, rfl⟩) ac_int rfl dX12_init_79 (by decide) rfl (by decide) (Nat.le_of_ble_eq_true rfl) (Nat.le_of_ble_eq_true rfl) ?_
  refine a_putR C fl_X12_38_12 ⟨_, _, rfl, rfl⟩ (Or.inr ⟨_, rfl⟩) (o := 53) rfl rfl dX12_init_81 (Nat.le_of_ble_eq_true rfl) ?_
  refine a_aload_n C dX12_init_84 rfl ?_
  refine a_bipush C dX12_init_85 (by decide) ?_
  refine a_newaC C 64 (Or.inl ⟨rfl, rfl⟩) ac_int rfl dX12_init_87 (by decide) rfl (by decide) (Nat.le_of_ble_eq_true rfl) (Nat.le_of_ble_eq_true rfl) ?_
  refine a_putR C fl_X12_41_12 ⟨_, _, rfl, rfl⟩ (Or.inr ⟨_, rfl⟩) (o := 53) rfl rfl dX12_init_89 (Nat.le_of_ble_eq_true rfl) ?_
  refine a_aload_n C dX12_init_92 rfl ?_
  refine a_bipush C dX12_init_93 (by decide) ?_
  refine a_newaC C 65 (Or.inl ⟨rfl, rfl⟩) ac_int rfl dX12_init_95 (by decide) rfl (by decide) (Nat.le_of_ble_eq_true rfl) (Nat.le_of_ble_eq_true rfl) ?_
  refine a_putR C fl_X12_44_12 ⟨_, _, rfl, rfl⟩ (Or.inr ⟨_, rfl⟩) (o := 53) rfl rfl dX12_init_97 (Nat.le_of_ble_eq_true rfl) ?_
  refine a_aload_n C dX12_init_100 rfl ?_
  refine a_bipush C dX12_init_101 (by decide) ?_
  refine a_newaC C 66 (Or.inl ⟨rfl, rfl⟩) ac_int rfl dX12_init_103 (by decide) rfl (by decide) (Nat.le_of_ble_eq_true rfl) (Nat.le_of_ble_eq_true rfl) ?_
  refine a_putR C fl_X12_47_12 ⟨_, _, rfl, rfl⟩ (Or.inr ⟨_, rfl⟩) (o := 53) rfl rfl dX12_init_105 (Nat.le_of_ble_eq_true rfl) ?_
  refine a_aload_n C dX12_init_108 rfl ?_
  refine a_bipush C dX12_init_109 (by decide) ?_
  refine a_newaC C 67 (Or.inl ⟨rfl, rfl⟩) ac_int rfl dX12_init_111 (by decide) rfl (by decide) (Nat.le_of_ble_eq_true rfl) (Nat.le_of_ble_eq_true rfl) ?_
  refine a_putR C fl_X12_50_12 ⟨_, _, rfl, rfl⟩ (Or.inr ⟨_, rfl⟩) (o := 53) rfl rfl dX12_init_113 (Nat.le_of_ble_eq_true rfl) ?_
  refine a_aload_n C dX12_init_116 rfl ?_
  refine a_iconst C dX12_init_117 ?_
  refine a_putI C fl_X12_53_12 (Or.inl rfl) (o := 53) rfl rfl dX12_init_118 ⟨⟨by decide, by decide⟩, fun q => by cases q⟩ ?_
  refine a_aload_n C dX12_init_121 rfl ?_
  refine a_eqS (S' := sS18) rfl ?_
  refine a_callV (o := 53) (as := []) (rest := []) C 0 (fun l => c12_peopleAsAtFirst l) (show sS18[53]? = some (12, 0, _) from rfl) ⟨_, _, rfl⟩ (by decide) ml_X12_57 im_X12_peopleAsAtFirst se_X12_peopleAsAtFirst in_X12 co_X12_peopleAsAtFirst (by decide +kernel) rfl ⟨Nat.le_of_ble_eq_true rfl, Nat.le_of_ble_eq_true rfl⟩ (Nat.le_of_ble_eq_true rfl) dX12_init_122 ⟨Nat.le_of_ble_eq_true rfl, Nat.le_of_ble_eq_true rfl⟩ ?_
  refine ⟨_, rfl, psm_sS18, hK, fun V122 hK => ?_⟩
  try dsimp only [Option.toList, List.nil_append]
  refine a_eqS (S' := sS18) rfl ?_
  exact a_vret C E dX12_init_125 (Nat.le_refl _) (Nat.le_refl _) (hpost _ hK)
theorem psl_sS18 : PSl sS18 := ⟨⟨0, _, rfl, rfl, rfl⟩, ⟨_, rfl, fun k hk => by
    rcases (show k = 0 ∨ k = 1 ∨ k = 2 ∨ k = 3 ∨ k = 4 ∨ k = 5 ∨ k = 6 ∨ k = 7 by omega) with rfl | rfl | rfl | rfl | rfl | rfl | rfl | rfl
    · exact ⟨6, 2, 1, _, rfl, rfl, isFt_2⟩
    · exact ⟨7, 2, 1, _, rfl, rfl, isFt_2⟩
    · exact ⟨8, 2, 1, _, rfl, rfl, isFt_2⟩
    · exact ⟨9, 2, 1, _, rfl, rfl, isFt_2⟩
    · exact ⟨10, 2, 1, _, rfl, rfl, isFt_2⟩
    · exact ⟨11, 2, 1, _, rfl, rfl, isFt_2⟩
    · exact ⟨12, 2, 1, _, rfl, rfl, isFt_2⟩
    · exact ⟨13, 2, 1, _, rfl, rfl, isFt_2⟩⟩, ⟨_, rfl⟩⟩
theorem psi_sS18_14 : PSi sS18 14 := ⟨⟨0, _, rfl, rfl, rfl, rfl, rfl, rfl, rfl, rfl, rfl, rfl, rfl, rfl⟩, ⟨_, rfl⟩, ⟨_, rfl⟩, ⟨_, rfl⟩, ⟨_, rfl⟩, ⟨_, rfl⟩, ⟨_, rfl⟩, ⟨_, rfl⟩, ⟨_, rfl⟩, ⟨_, rfl⟩, ⟨_, rfl⟩, psl_sS18⟩
theorem psi_sS18_25 : PSi sS18 25 := ⟨⟨0, _, rfl, rfl, rfl, rfl, rfl, rfl, rfl, rfl, rfl, rfl, rfl, rfl⟩, ⟨_, rfl⟩, ⟨_, rfl⟩, ⟨_, rfl⟩, ⟨_, rfl⟩, ⟨_, rfl⟩, ⟨_, rfl⟩, ⟨_, rfl⟩, ⟨_, rfl⟩, ⟨_, rfl⟩, ⟨_, rfl⟩, psl_sS18⟩
theorem psi_sS18_36 : PSi sS18 36 := ⟨⟨0, _, rfl, rfl, rfl, rfl, rfl, rfl, rfl, rfl, rfl, rfl, rfl, rfl⟩, ⟨_, rfl⟩, ⟨_, rfl⟩, ⟨_, rfl⟩, ⟨_, rfl⟩, ⟨_, rfl⟩, ⟨_, rfl⟩, ⟨_, rfl⟩, ⟨_, rfl⟩, ⟨_, rfl⟩, ⟨_, rfl⟩, psl_sS18⟩
theorem psx_sS18 : PSx sS18 := ⟨⟨0, _, rfl, rfl, rfl, rfl, rfl, rfl, rfl, rfl, rfl⟩, ⟨⟨0, _, rfl, rfl⟩, ⟨_, rfl⟩⟩, psi_sS18_14, psi_sS18_25, psi_sS18_36, ⟨⟨0, _, rfl, rfl, rfl⟩, ⟨_, rfl⟩, ⟨_, rfl⟩⟩, ⟨⟨0, _, rfl, rfl⟩, ⟨_, rfl⟩⟩, ⟨0, _, rfl⟩⟩
abbrev S_all : List zC := sS18
