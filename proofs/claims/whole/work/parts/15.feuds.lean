/-! ===== the feuds' own methods ===== -/
theorem isFt_0 : isFt 0 := Or.inl rfl
theorem isFt_2 : isFt 2 := Or.inr (Or.inl rfl)
theorem isFt_3 : isFt 3 := Or.inr (Or.inr (Or.inl rfl))
theorem isFt_5 : isFt 5 := Or.inr (Or.inr (Or.inr (Or.inl rfl)))
theorem isFt_9 : isFt 9 := Or.inr (Or.inr (Or.inr (Or.inr rfl)))
theorem sf_Grudge : Cond.sameField "ClosedFeuds$Grudge" "ClosedFeuds$Feud" "worth" "I" ∈ TB := TB_tab 65 (by decide +kernel) rfl
theorem fl_Grudge : Cond.fieldLink RX3 9 "ClosedFeuds$Grudge" "worth" "I" ∈ TB := TB_tab 64 (by decide +kernel) rfl
/-- the worth, by the name that a grudge has for it -/
theorem a_getWG {X : zM} {cc : ByteArray} {nL : Nat} {nm : String} {rm : Room} {S : List zC} {V : zV} {nc ns pc : Nat} {al : List (Option zA)} {st : List zA} {o tag : Nat} {w : Int} {rf : Nat → Option Nat} {C0 : String} {T : u_T} (C : zCX X cc nL RX3 nm rm) (h1 : vwCl[tag]? = some (C0, T, 1)) (h2 : ∀ w ∈ u_ws C0 T 1, w ∈ TB) (hT : T 0 = ("ClosedFeuds$Feud", "worth", "I", true)) (h13 : tag < 13) (hs : S[o]? = some (tag, w, rf)) (hk : (fkt tag)[0]? = some 3) (hd : decode cc pc = .ok (.getfield 9, 3)) (kk : zW X S V nc ns al (zI w :: st) (pc + 3)) : zW X S V nc ns al (zR o :: st) pc := by
  obtain ⟨p, l, e, R, s, m, args, below, meth, c, D, cy, A, Q, ad0, n0⟩ := X
  obtain ⟨hx, hb, hml, hown, hts, hlk, hK, -⟩ := C
  intro ad H locs ls hw hS hL ho
  have he := wsW_at (ad := ad) (cy := cy) (V := V) hs
  rw [cE_obj h13] at he
  refine va_get (ref := "ClosedFeuds$Grudge") hx hb hts h2 hown hK.1 hw.1 o he h1 0 (by decide) ?_ (fun x hq => ?_) (fvals_at (sc := (tag, w, rf)) hk) hd (kk ad H locs ls hw hS hL ⟨trivial, ho.2⟩)
  · rw [hT]; exact hts _ fl_Grudge
  · rw [hT] at hq ⊢; exact u_same (hts _ sf_Grudge) x hq
def tFd (f : Int → Int) : zT := fun as S V post => ∃ (c tag : Nat) (w : Int) (rf : Nat → Option Nat), as = [zR c] ∧ S[c]? = some (tag, w, rf) ∧ isFt tag ∧ post (some (zI (f w))) S V
theorem cFd_X0_kind (l : Launch) : zCT l yX0_kind cX0_kind 1 (some .int) { frames := 0, cells := 0, slots := 0, locals := 0 } (tFd (fun w => 1)) := by
  refine zCT_of (by decide) (fun as S V post h => by obtain ⟨c, tag, w, rf, rfl, -⟩ := h; exact Nat.le_of_ble_eq_true rfl) ?_
  intro X S V as post C E hT
  obtain ⟨c, tag, w, rf, rfl, hs, ht, hK⟩ := hT
  show zW X S V 0 0 [some (zR c)] [] 0
  refine a_iconst C dX0_kind_0 ?_
  exact a_iret C E dX0_kind_1 (Nat.le_refl _) (Nat.le_refl _) hK
theorem cFd_X2_kind (l : Launch) : zCT l yX2_kind cX2_kind 1 (some .int) { frames := 0, cells := 0, slots := 0, locals := 0 } (tFd (fun w => 0)) := by
  refine zCT_of (by decide) (fun as S V post h => by obtain ⟨c, tag, w, rf, rfl, -⟩ := h; exact Nat.le_of_ble_eq_true rfl) ?_
  intro X S V as post C E hT
  obtain ⟨c, tag, w, rf, rfl, hs, ht, hK⟩ := hT
  show zW X S V 0 0 [some (zR c)] [] 0
  refine a_iconst C dX2_kind_0 ?_
  exact a_iret C E dX2_kind_1 (Nat.le_refl _) (Nat.le_refl _) hK
theorem cFd_X3_kind (l : Launch) : zCT l yX3_kind cX3_kind 1 (some .int) { frames := 0, cells := 0, slots := 0, locals := 0 } (tFd (fun w => 3)) := by
  refine zCT_of (by decide) (fun as S V post h => by obtain ⟨c, tag, w, rf, rfl, -⟩ := h; exact Nat.le_of_ble_eq_true rfl) ?_
  intro X S V as post C E hT
  obtain ⟨c, tag, w, rf, rfl, hs, ht, hK⟩ := hT
  show zW X S V 0 0 [some (zR c)] [] 0
  refine a_iconst C dX3_kind_0 ?_
  exact a_iret C E dX3_kind_1 (Nat.le_refl _) (Nat.le_refl _) hK
theorem cFd_X5_kind (l : Launch) : zCT l yX5_kind cX5_kind 1 (some .int) { frames := 0, cells := 0, slots := 0, locals := 0 } (tFd (fun w => 2)) := by
  refine zCT_of (by decide) (fun as S V post h => by obtain ⟨c, tag, w, rf, rfl, -⟩ := h; exact Nat.le_of_ble_eq_true rfl) ?_
  intro X S V as post C E hT
  obtain ⟨c, tag, w, rf, rfl, hs, ht, hK⟩ := hT
  show zW X S V 0 0 [some (zR c)] [] 0
  refine a_iconst C dX5_kind_0 ?_
  exact a_iret C E dX5_kind_1 (Nat.le_refl _) (Nat.le_refl _) hK
theorem cFd_X9_kind (l : Launch) : zCT l yX9_kind cX9_kind 1 (some .int) { frames := 0, cells := 0, slots := 0, locals := 0 } (tFd (fun w => 4)) := by
  refine zCT_of (by decide) (fun as S V post h => by obtain ⟨c, tag, w, rf, rfl, -⟩ := h; exact Nat.le_of_ble_eq_true rfl) ?_
  intro X S V as post C E hT
  obtain ⟨c, tag, w, rf, rfl, hs, ht, hK⟩ := hT
  show zW X S V 0 0 [some (zR c)] [] 0
  refine a_iconst C dX9_kind_0 ?_
  exact a_iret C E dX9_kind_1 (Nat.le_refl _) (Nat.le_refl _) hK
theorem cFd_X2_isLendable (l : Launch) : zCT l yX2_isLendable cX2_isLendable 1 (some .boolean) { frames := 0, cells := 0, slots := 0, locals := 0 } (tFd (fun w => 0)) := by
  refine zCT_of (by decide) (fun as S V post h => by obtain ⟨c, tag, w, rf, rfl, -⟩ := h; exact Nat.le_of_ble_eq_true rfl) ?_
  intro X S V as post C E hT
  obtain ⟨c, tag, w, rf, rfl, hs, ht, hK⟩ := hT
  show zW X S V 0 0 [some (zR c)] [] 0
  refine a_iconst C dX2_isLendable_0 ?_
  exact a_zret C E dX2_isLendable_1 (Nat.le_refl _) (Nat.le_refl _) (by decide) hK
theorem cFd_X0_isLendable (l : Launch) : zCT l yX0_isLendable cX0_isLendable 1 (some .boolean) { frames := 0, cells := 0, slots := 0, locals := 0 } (tFd (fun w => 1)) := by
  refine zCT_of (by decide) (fun as S V post h => by obtain ⟨c, tag, w, rf, rfl, -⟩ := h; exact Nat.le_of_ble_eq_true rfl) ?_
  intro X S V as post C E hT
  obtain ⟨c, tag, w, rf, rfl, hs, ht, hK⟩ := hT
  show zW X S V 0 0 [some (zR c)] [] 0
  refine a_iconst C dX0_isLendable_0 ?_
  exact a_zret C E dX0_isLendable_1 (Nat.le_refl _) (Nat.le_refl _) (by decide) hK
theorem cFd_X3_isLendable (l : Launch) : zCT l yX3_isLendable cX3_isLendable 1 (some .boolean) { frames := 0, cells := 0, slots := 0, locals := 0 } (tFd (fun w => 1)) := by
  refine zCT_of (by decide) (fun as S V post h => by obtain ⟨c, tag, w, rf, rfl, -⟩ := h; exact Nat.le_of_ble_eq_true rfl) ?_
  intro X S V as post C E hT
  obtain ⟨c, tag, w, rf, rfl, hs, ht, hK⟩ := hT
  show zW X S V 0 0 [some (zR c)] [] 0
  refine a_iconst C dX3_isLendable_0 ?_
  exact a_zret C E dX3_isLendable_1 (Nat.le_refl _) (Nat.le_refl _) (by decide) hK
theorem cFd_X2_mostOpenAtPeace (l : Launch) : zCT l yX2_mostOpenAtPeace cX2_mostOpenAtPeace 1 (some .int) { frames := 0, cells := 0, slots := 0, locals := 0 } (tFd (fun w => 0)) := by
  refine zCT_of (by decide) (fun as S V post h => by obtain ⟨c, tag, w, rf, rfl, -⟩ := h; exact Nat.le_of_ble_eq_true rfl) ?_
  intro X S V as post C E hT
  obtain ⟨c, tag, w, rf, rfl, hs, ht, hK⟩ := hT
  show zW X S V 0 0 [some (zR c)] [] 0
  refine a_iconst C dX2_mostOpenAtPeace_0 ?_
  exact a_iret C E dX2_mostOpenAtPeace_1 (Nat.le_refl _) (Nat.le_refl _) hK
theorem cFd_X5_mostOpenAtPeace (l : Launch) : zCT l yX5_mostOpenAtPeace cX5_mostOpenAtPeace 1 (some .int) { frames := 0, cells := 0, slots := 0, locals := 0 } (tFd (fun w => 1)) := by
  refine zCT_of (by decide) (fun as S V post h => by obtain ⟨c, tag, w, rf, rfl, -⟩ := h; exact Nat.le_of_ble_eq_true rfl) ?_
  intro X S V as post C E hT
  obtain ⟨c, tag, w, rf, rfl, hs, ht, hK⟩ := hT
  show zW X S V 0 0 [some (zR c)] [] 0
  refine a_iconst C dX5_mostOpenAtPeace_0 ?_
  exact a_iret C E dX5_mostOpenAtPeace_1 (Nat.le_refl _) (Nat.le_refl _) hK
theorem cFd_X5_fullPrice (l : Launch) : zCT l yX5_fullPrice cX5_fullPrice 1 (some .int) { frames := 0, cells := 0, slots := 0, locals := 0 } (tFd (fun w => 1)) := by
  refine zCT_of (by decide) (fun as S V post h => by obtain ⟨c, tag, w, rf, rfl, -⟩ := h; exact Nat.le_of_ble_eq_true rfl) ?_
  intro X S V as post C E hT
  obtain ⟨c, tag, w, rf, rfl, hs, ht, hK⟩ := hT
  show zW X S V 0 0 [some (zR c)] [] 0
  refine a_iconst C dX5_fullPrice_0 ?_
  exact a_iret C E dX5_fullPrice_1 (Nat.le_refl _) (Nat.le_refl _) hK
theorem cFd_X2_fullPrice (l : Launch) : zCT l yX2_fullPrice cX2_fullPrice 1 (some .int) { frames := 0, cells := 0, slots := 0, locals := 0 } (tFd (fun w => w)) := by
  refine zCT_of (by decide) (fun as S V post h => by obtain ⟨c, tag, w, rf, rfl, -⟩ := h; exact Nat.le_of_ble_eq_true rfl) ?_
  intro X S V as post C E hT
  obtain ⟨c, tag, w, rf, rfl, hs, ht, hK⟩ := hT
  show zW X S V 0 0 [some (zR c)] [] 0
  refine a_aload_n C dX2_fullPrice_0 rfl ?_
  rcases ht with rfl | rfl | rfl | rfl | rfl
  · exact a_getW C fl_X2_9_0 hs rfl dX2_fullPrice_1 (a_iret C E dX2_fullPrice_4 (Nat.le_refl _) (Nat.le_refl _) hK)
  · exact a_getW C fl_X2_9_2 hs rfl dX2_fullPrice_1 (a_iret C E dX2_fullPrice_4 (Nat.le_refl _) (Nat.le_refl _) hK)
  · exact a_getW C fl_X2_9_3 hs rfl dX2_fullPrice_1 (a_iret C E dX2_fullPrice_4 (Nat.le_refl _) (Nat.le_refl _) hK)
  · exact a_getW C fl_X2_9_5 hs rfl dX2_fullPrice_1 (a_iret C E dX2_fullPrice_4 (Nat.le_refl _) (Nat.le_refl _) hK)
  · exact a_getW C fl_X2_9_9 hs rfl dX2_fullPrice_1 (a_iret C E dX2_fullPrice_4 (Nat.le_refl _) (Nat.le_refl _) hK)
theorem cFd_X3_fullPrice (l : Launch) : zCT l yX3_fullPrice cX3_fullPrice 1 (some .int) { frames := 0, cells := 0, slots := 0, locals := 0 } (tFd (fun w => 2 * w)) := by
  refine zCT_of (by decide) (fun as S V post h => by obtain ⟨c, tag, w, rf, rfl, -⟩ := h; exact Nat.le_of_ble_eq_true rfl) ?_
  intro X S V as post C E hT
  obtain ⟨c, tag, w, rf, rfl, hs, ht, hK⟩ := hT
  show zW X S V 0 0 [some (zR c)] [] 0
  refine a_iconst C dX3_fullPrice_0 ?_
  refine a_aload_n C dX3_fullPrice_1 rfl ?_
  rcases ht with rfl | rfl | rfl | rfl | rfl
  · exact a_getWG C rfl inT0 rfl (by decide) hs rfl dX3_fullPrice_2 (a_imul C dX3_fullPrice_5 (a_iret C E dX3_fullPrice_6 (Nat.le_refl _) (Nat.le_refl _) hK))
  · exact a_getWG C rfl inT2 rfl (by decide) hs rfl dX3_fullPrice_2 (a_imul C dX3_fullPrice_5 (a_iret C E dX3_fullPrice_6 (Nat.le_refl _) (Nat.le_refl _) hK))
  · exact a_getWG C rfl inT3 rfl (by decide) hs rfl dX3_fullPrice_2 (a_imul C dX3_fullPrice_5 (a_iret C E dX3_fullPrice_6 (Nat.le_refl _) (Nat.le_refl _) hK))
  · exact a_getWG C rfl inT5 rfl (by decide) hs rfl dX3_fullPrice_2 (a_imul C dX3_fullPrice_5 (a_iret C E dX3_fullPrice_6 (Nat.le_refl _) (Nat.le_refl _) hK))
  · exact a_getWG C rfl inT9 rfl (by decide) hs rfl dX3_fullPrice_2 (a_imul C dX3_fullPrice_5 (a_iret C E dX3_fullPrice_6 (Nat.le_refl _) (Nat.le_refl _) hK))
theorem cFd_X9_fullPrice (l : Launch) : zCT l yX9_fullPrice cX9_fullPrice 1 (some .int) { frames := 1, cells := 0, slots := 0, locals := 20 } (tFd (fun w => 2 * w + 3)) := by
  refine zCT_of (by decide) (fun as S V post h => by obtain ⟨c, tag, w, rf, rfl, -⟩ := h; exact Nat.le_of_ble_eq_true rfl) ?_
  intro X S V as post C E hT
  obtain ⟨c, tag, w, rf, rfl, hs, ht, hK⟩ := hT
  show zW X S V 0 0 [some (zR c)] [] 0
  refine a_aload_n C dX9_fullPrice_0 rfl ?_
  have fin : zW X S V 0 0 [some (zR c)] [zI (2 * w)] 4 := by
    refine a_iconst C dX9_fullPrice_4 ?_
    refine a_iadd C dX9_fullPrice_5 ?_
    exact a_iret C E dX9_fullPrice_6 (Nat.le_refl _) (Nat.le_refl _) hK
  rcases ht with rfl | rfl | rfl | rfl | rfl
  · exact a_callSU (as := []) (rest := []) C 0 (fun l => cFd_X3_fullPrice l) hs ⟨_, _, rfl⟩ (by decide) ml_X9_9 sm_X3_fullPrice su_X9_X3 im_X3_fullPrice in_X3 co_X3_fullPrice (by decide +kernel) rfl ⟨Nat.le_of_ble_eq_true rfl, Nat.le_of_ble_eq_true rfl⟩ (Nat.le_of_ble_eq_true rfl) dX9_fullPrice_1 ⟨Nat.le_of_ble_eq_true rfl, Nat.le_of_ble_eq_true rfl⟩ ⟨c, 0, w, rf, rfl, hs, isFt_0, fin⟩
  · exact a_callSU (as := []) (rest := []) C 0 (fun l => cFd_X3_fullPrice l) hs ⟨_, _, rfl⟩ (by decide) ml_X9_9 sm_X3_fullPrice su_X9_X3 im_X3_fullPrice in_X3 co_X3_fullPrice (by decide +kernel) rfl ⟨Nat.le_of_ble_eq_true rfl, Nat.le_of_ble_eq_true rfl⟩ (Nat.le_of_ble_eq_true rfl) dX9_fullPrice_1 ⟨Nat.le_of_ble_eq_true rfl, Nat.le_of_ble_eq_true rfl⟩ ⟨c, 2, w, rf, rfl, hs, isFt_2, fin⟩
  · exact a_callSU (as := []) (rest := []) C 0 (fun l => cFd_X3_fullPrice l) hs ⟨_, _, rfl⟩ (by decide) ml_X9_9 sm_X3_fullPrice su_X9_X3 im_X3_fullPrice in_X3 co_X3_fullPrice (by decide +kernel) rfl ⟨Nat.le_of_ble_eq_true rfl, Nat.le_of_ble_eq_true rfl⟩ (Nat.le_of_ble_eq_true rfl) dX9_fullPrice_1 ⟨Nat.le_of_ble_eq_true rfl, Nat.le_of_ble_eq_true rfl⟩ ⟨c, 3, w, rf, rfl, hs, isFt_3, fin⟩
  · exact a_callSU (as := []) (rest := []) C 0 (fun l => cFd_X3_fullPrice l) hs ⟨_, _, rfl⟩ (by decide) ml_X9_9 sm_X3_fullPrice su_X9_X3 im_X3_fullPrice in_X3 co_X3_fullPrice (by decide +kernel) rfl ⟨Nat.le_of_ble_eq_true rfl, Nat.le_of_ble_eq_true rfl⟩ (Nat.le_of_ble_eq_true rfl) dX9_fullPrice_1 ⟨Nat.le_of_ble_eq_true rfl, Nat.le_of_ble_eq_true rfl⟩ ⟨c, 5, w, rf, rfl, hs, isFt_5, fin⟩
  · exact a_callSU (as := []) (rest := []) C 0 (fun l => cFd_X3_fullPrice l) hs ⟨_, _, rfl⟩ (by decide) ml_X9_9 sm_X3_fullPrice su_X9_X3 im_X3_fullPrice in_X3 co_X3_fullPrice (by decide +kernel) rfl ⟨Nat.le_of_ble_eq_true rfl, Nat.le_of_ble_eq_true rfl⟩ (Nat.le_of_ble_eq_true rfl) dX9_fullPrice_1 ⟨Nat.le_of_ble_eq_true rfl, Nat.le_of_ble_eq_true rfl⟩ ⟨c, 9, w, rf, rfl, hs, isFt_9, fin⟩
/-- the price, whether it may be lent, how many sides may be open: by kind and worth -/
def fpK (k w : Int) : Int := if k = 2 then 1 else if k = 3 then 2 * w else if k = 4 then 2 * w + 3 else w
def leK (k : Int) : Int := if k = 1 ∨ k = 3 ∨ k = 4 then 1 else 0
def moK (k : Int) : Int := if k = 2 then 1 else 0
def okK (k a : Int) : Int := if a = 0 ∨ (a = 1 ∧ k = 1) ∨ (a = 2 ∧ k = 2) ∨ (a = 3 ∧ (k = 3 ∨ k = 4)) ∨ (a = 4 ∧ k = 4) then 1 else 0
def fpS (S : List zC) (k : Nat) : Int := fpK (kdS S k) (wtS S k)
def leS (S : List zC) (k : Nat) : Int := leK (kdS S k)
def moS (S : List zC) (k : Nat) : Int := moK (kdS S k)
section ZFD
variable {X : zM} {cc : ByteArray} {nL : Nat} {own nm : String} {rm : Room} {S : List zC} {V : zV} {nc ns pc : Nat} {al : List (Option zA)} {st : List zA} {idx : Nat} {i : Int}
theorem a_feudW (C : zCX X cc nL own nm rm) (hl : PSl S) (hd : decode cc pc = .ok (.aaload, 1)) (h : 0 ≤ i ∧ i < 8) {ty0 ty2 ty3 ty5 ty9 : FieldType} {b0 b2 b3 b5 b9 : Bool} (f0 : zF own idx 0 0 ty0 b0) (f2 : zF own idx 2 0 ty2 b2) (f3 : zF own idx 3 0 ty3 b3) (f5 : zF own idx 5 0 ty5 b5) (f9 : zF own idx 9 0 ty9 b9) (hd2 : decode cc (pc + 1) = .ok (.getfield idx, 3)) (k : zW X S V nc ns al (zI (wtS S i.toNat) :: st) (pc + 1 + 3)) : zW X S V nc ns al (zI i :: zR 4 :: st) pc := by
  obtain ⟨rf, h4, hf⟩ := PSl_4 hl
  obtain ⟨c, tag, w, rf2, e1, e2, ht⟩ := hf i.toNat (by omega)
  refine a_aald C h4 hd (by decide) h e1 ?_
  have ew : wtS S i.toNat = w := by unfold wtS; rw [fcS_eq h4 e1 e2]
  rw [ew] at k
  rcases ht with rfl | rfl | rfl | rfl | rfl
  · exact a_getW C f0 e2 rfl hd2 k
  · exact a_getW C f2 e2 rfl hd2 k
  · exact a_getW C f3 e2 rfl hd2 k
  · exact a_getW C f5 e2 rfl hd2 k
  · exact a_getW C f9 e2 rfl hd2 k
theorem a_feud_kind (C : zCX X cc nL own nm rm) (hl : PSl S) (hd : decode cc pc = .ok (.aaload, 1)) (h : 0 ≤ i ∧ i < 8) (h1 : Cond.methodLink own idx yX2_kind ∈ TB) (hd2 : decode cc (pc + 1) = .ok (.invokevirtual idx, 3)) (hR1 : 1 ≤ rm.frames) (hR2 : 20 ≤ rm.locals) (hf2 : nc + 0 ≤ rm.cells ∧ ns + 0 ≤ rm.slots) (hc8 : cat8 st) (k : zW X S V nc ns al (zI (kdS S i.toNat) :: st) (pc + 1 + 3)) : zW X S V nc ns al (zI i :: zR 4 :: st) pc := by
  obtain ⟨rf, h4, hf⟩ := PSl_4 hl
  obtain ⟨c, tag, w, rf2, e1, e2, ht⟩ := hf i.toNat (by omega)
  refine a_aald C h4 hd (by decide) h e1 ?_
  have ew : wtS S i.toNat = w := by unfold wtS; rw [fcS_eq h4 e1 e2]
  have ek : kdS S i.toNat = kdT tag := by unfold kdS; rw [fcS_eq h4 e1 e2]
  rcases ht with rfl | rfl | rfl | rfl | rfl
  · have ev : kdS S i.toNat = 1 := by rw [ek]; rfl
    rw [ev] at k
    exact a_callU (as := []) (rest := st) C 0 (fun l => cFd_X0_kind l) e2 ⟨_, _, rfl⟩ (by decide) h1 sm_X2_kind im_X2_kind co_X2_kind im_X0_kind sx_X0_X2_kind in_X0 co_X0_kind (by decide +kernel) rfl ⟨by show 0 + 1 ≤ _; omega, by show 8 + (1 + 11) + 0 ≤ _; omega⟩ hc8 hd2 hf2 ⟨c, 0, w, rf2, rfl, e2, isFt_0, k⟩
  · have ev : kdS S i.toNat = 0 := by rw [ek]; rfl
    rw [ev] at k
    exact a_callU (as := []) (rest := st) C 0 (fun l => cFd_X2_kind l) e2 ⟨_, _, rfl⟩ (by decide) h1 sm_X2_kind im_X2_kind co_X2_kind im_X2_kind se_X2_kind in_X2 co_X2_kind (by decide +kernel) rfl ⟨by show 0 + 1 ≤ _; omega, by show 8 + (1 + 11) + 0 ≤ _; omega⟩ hc8 hd2 hf2 ⟨c, 2, w, rf2, rfl, e2, isFt_2, k⟩
  · have ev : kdS S i.toNat = 3 := by rw [ek]; rfl
    rw [ev] at k
    exact a_callU (as := []) (rest := st) C 0 (fun l => cFd_X3_kind l) e2 ⟨_, _, rfl⟩ (by decide) h1 sm_X2_kind im_X2_kind co_X2_kind im_X3_kind sx_X3_X2_kind in_X3 co_X3_kind (by decide +kernel) rfl ⟨by show 0 + 1 ≤ _; omega, by show 8 + (1 + 11) + 0 ≤ _; omega⟩ hc8 hd2 hf2 ⟨c, 3, w, rf2, rfl, e2, isFt_3, k⟩
  · have ev : kdS S i.toNat = 2 := by rw [ek]; rfl
    rw [ev] at k
    exact a_callU (as := []) (rest := st) C 0 (fun l => cFd_X5_kind l) e2 ⟨_, _, rfl⟩ (by decide) h1 sm_X2_kind im_X2_kind co_X2_kind im_X5_kind sx_X5_X2_kind in_X5 co_X5_kind (by decide +kernel) rfl ⟨by show 0 + 1 ≤ _; omega, by show 8 + (1 + 11) + 0 ≤ _; omega⟩ hc8 hd2 hf2 ⟨c, 5, w, rf2, rfl, e2, isFt_5, k⟩
  · have ev : kdS S i.toNat = 4 := by rw [ek]; rfl
    rw [ev] at k
    exact a_callU (as := []) (rest := st) C 0 (fun l => cFd_X9_kind l) e2 ⟨_, _, rfl⟩ (by decide) h1 sm_X2_kind im_X2_kind co_X2_kind im_X9_kind sx_X9_X2_kind in_X9 co_X9_kind (by decide +kernel) rfl ⟨by show 0 + 1 ≤ _; omega, by show 8 + (1 + 11) + 0 ≤ _; omega⟩ hc8 hd2 hf2 ⟨c, 9, w, rf2, rfl, e2, isFt_9, k⟩
theorem a_feud_fullPrice (C : zCX X cc nL own nm rm) (hl : PSl S) (hd : decode cc pc = .ok (.aaload, 1)) (h : 0 ≤ i ∧ i < 8) (h1 : Cond.methodLink own idx yX2_fullPrice ∈ TB) (hd2 : decode cc (pc + 1) = .ok (.invokevirtual idx, 3)) (hR1 : 2 ≤ rm.frames) (hR2 : 40 ≤ rm.locals) (hf2 : nc + 0 ≤ rm.cells ∧ ns + 0 ≤ rm.slots) (hc8 : cat8 st) (k : zW X S V nc ns al (zI (fpS S i.toNat) :: st) (pc + 1 + 3)) : zW X S V nc ns al (zI i :: zR 4 :: st) pc := by
  obtain ⟨rf, h4, hf⟩ := PSl_4 hl
  obtain ⟨c, tag, w, rf2, e1, e2, ht⟩ := hf i.toNat (by omega)
  refine a_aald C h4 hd (by decide) h e1 ?_
  have ew : wtS S i.toNat = w := by unfold wtS; rw [fcS_eq h4 e1 e2]
  have ek : kdS S i.toNat = kdT tag := by unfold kdS; rw [fcS_eq h4 e1 e2]
  rcases ht with rfl | rfl | rfl | rfl | rfl
  · have ev : fpS S i.toNat = w := by unfold fpS; rw [ek, ew]; rfl
    rw [ev] at k
    exact a_callU (as := []) (rest := st) C 0 (fun l => cFd_X2_fullPrice l) e2 ⟨_, _, rfl⟩ (by decide) h1 sm_X2_fullPrice im_X2_fullPrice co_X2_fullPrice im_X2_fullPrice sx_X0_X2_fullPrice in_X2 co_X2_fullPrice (by decide +kernel) rfl ⟨by show 0 + 1 ≤ _; omega, by show 8 + (1 + 11) + 0 ≤ _; omega⟩ hc8 hd2 hf2 ⟨c, 0, w, rf2, rfl, e2, isFt_0, k⟩
  · have ev : fpS S i.toNat = w := by unfold fpS; rw [ek, ew]; rfl
    rw [ev] at k
    exact a_callU (as := []) (rest := st) C 0 (fun l => cFd_X2_fullPrice l) e2 ⟨_, _, rfl⟩ (by decide) h1 sm_X2_fullPrice im_X2_fullPrice co_X2_fullPrice im_X2_fullPrice se_X2_fullPrice in_X2 co_X2_fullPrice (by decide +kernel) rfl ⟨by show 0 + 1 ≤ _; omega, by show 8 + (1 + 11) + 0 ≤ _; omega⟩ hc8 hd2 hf2 ⟨c, 2, w, rf2, rfl, e2, isFt_2, k⟩
  · have ev : fpS S i.toNat = 2 * w := by unfold fpS; rw [ek, ew]; rfl
    rw [ev] at k
    exact a_callU (as := []) (rest := st) C 0 (fun l => cFd_X3_fullPrice l) e2 ⟨_, _, rfl⟩ (by decide) h1 sm_X2_fullPrice im_X2_fullPrice co_X2_fullPrice im_X3_fullPrice sx_X3_X2_fullPrice in_X3 co_X3_fullPrice (by decide +kernel) rfl ⟨by show 0 + 1 ≤ _; omega, by show 8 + (1 + 11) + 0 ≤ _; omega⟩ hc8 hd2 hf2 ⟨c, 3, w, rf2, rfl, e2, isFt_3, k⟩
  · have ev : fpS S i.toNat = 1 := by unfold fpS; rw [ek, ew]; rfl
    rw [ev] at k
    exact a_callU (as := []) (rest := st) C 0 (fun l => cFd_X5_fullPrice l) e2 ⟨_, _, rfl⟩ (by decide) h1 sm_X2_fullPrice im_X2_fullPrice co_X2_fullPrice im_X5_fullPrice sx_X5_X2_fullPrice in_X5 co_X5_fullPrice (by decide +kernel) rfl ⟨by show 0 + 1 ≤ _; omega, by show 8 + (1 + 11) + 0 ≤ _; omega⟩ hc8 hd2 hf2 ⟨c, 5, w, rf2, rfl, e2, isFt_5, k⟩
  · have ev : fpS S i.toNat = 2 * w + 3 := by unfold fpS; rw [ek, ew]; rfl
    rw [ev] at k
    exact a_callU (as := []) (rest := st) C 0 (fun l => cFd_X9_fullPrice l) e2 ⟨_, _, rfl⟩ (by decide) h1 sm_X2_fullPrice im_X2_fullPrice co_X2_fullPrice im_X9_fullPrice sx_X9_X2_fullPrice in_X9 co_X9_fullPrice (by decide +kernel) rfl ⟨by show 1 + 1 ≤ _; omega, by show 8 + (1 + 11) + 20 ≤ _; omega⟩ hc8 hd2 hf2 ⟨c, 9, w, rf2, rfl, e2, isFt_9, k⟩
theorem a_feud_isLendable (C : zCX X cc nL own nm rm) (hl : PSl S) (hd : decode cc pc = .ok (.aaload, 1)) (h : 0 ≤ i ∧ i < 8) (h1 : Cond.methodLink own idx yX2_isLendable ∈ TB) (hd2 : decode cc (pc + 1) = .ok (.invokevirtual idx, 3)) (hR1 : 1 ≤ rm.frames) (hR2 : 20 ≤ rm.locals) (hf2 : nc + 0 ≤ rm.cells ∧ ns + 0 ≤ rm.slots) (hc8 : cat8 st) (k : zW X S V nc ns al (zI (leS S i.toNat) :: st) (pc + 1 + 3)) : zW X S V nc ns al (zI i :: zR 4 :: st) pc := by
  obtain ⟨rf, h4, hf⟩ := PSl_4 hl
  obtain ⟨c, tag, w, rf2, e1, e2, ht⟩ := hf i.toNat (by omega)
  refine a_aald C h4 hd (by decide) h e1 ?_
  have ew : wtS S i.toNat = w := by unfold wtS; rw [fcS_eq h4 e1 e2]
  have ek : kdS S i.toNat = kdT tag := by unfold kdS; rw [fcS_eq h4 e1 e2]
  rcases ht with rfl | rfl | rfl | rfl | rfl
  · have ev : leS S i.toNat = 1 := by unfold leS; rw [ek]; rfl
    rw [ev] at k
    exact a_callU (as := []) (rest := st) C 0 (fun l => cFd_X0_isLendable l) e2 ⟨_, _, rfl⟩ (by decide) h1 sm_X2_isLendable im_X2_isLendable co_X2_isLendable im_X0_isLendable sx_X0_X2_isLendable in_X0 co_X0_isLendable (by decide +kernel) rfl ⟨by show 0 + 1 ≤ _; omega, by show 8 + (1 + 11) + 0 ≤ _; omega⟩ hc8 hd2 hf2 ⟨c, 0, w, rf2, rfl, e2, isFt_0, k⟩
  · have ev : leS S i.toNat = 0 := by unfold leS; rw [ek]; rfl
    rw [ev] at k
    exact a_callU (as := []) (rest := st) C 0 (fun l => cFd_X2_isLendable l) e2 ⟨_, _, rfl⟩ (by decide) h1 sm_X2_isLendable im_X2_isLendable co_X2_isLendable im_X2_isLendable se_X2_isLendable in_X2 co_X2_isLendable (by decide +kernel) rfl ⟨by show 0 + 1 ≤ _; omega, by show 8 + (1 + 11) + 0 ≤ _; omega⟩ hc8 hd2 hf2 ⟨c, 2, w, rf2, rfl, e2, isFt_2, k⟩
  · have ev : leS S i.toNat = 1 := by unfold leS; rw [ek]; rfl
    rw [ev] at k
    exact a_callU (as := []) (rest := st) C 0 (fun l => cFd_X3_isLendable l) e2 ⟨_, _, rfl⟩ (by decide) h1 sm_X2_isLendable im_X2_isLendable co_X2_isLendable im_X3_isLendable sx_X3_X2_isLendable in_X3 co_X3_isLendable (by decide +kernel) rfl ⟨by show 0 + 1 ≤ _; omega, by show 8 + (1 + 11) + 0 ≤ _; omega⟩ hc8 hd2 hf2 ⟨c, 3, w, rf2, rfl, e2, isFt_3, k⟩
  · have ev : leS S i.toNat = 0 := by unfold leS; rw [ek]; rfl
    rw [ev] at k
    exact a_callU (as := []) (rest := st) C 0 (fun l => cFd_X2_isLendable l) e2 ⟨_, _, rfl⟩ (by decide) h1 sm_X2_isLendable im_X2_isLendable co_X2_isLendable im_X2_isLendable sx_X5_X2_isLendable in_X2 co_X2_isLendable (by decide +kernel) rfl ⟨by show 0 + 1 ≤ _; omega, by show 8 + (1 + 11) + 0 ≤ _; omega⟩ hc8 hd2 hf2 ⟨c, 5, w, rf2, rfl, e2, isFt_5, k⟩
  · have ev : leS S i.toNat = 1 := by unfold leS; rw [ek]; rfl
    rw [ev] at k
    exact a_callU (as := []) (rest := st) C 0 (fun l => cFd_X3_isLendable l) e2 ⟨_, _, rfl⟩ (by decide) h1 sm_X2_isLendable im_X2_isLendable co_X2_isLendable im_X3_isLendable sx_X9_X2_isLendable in_X3 co_X3_isLendable (by decide +kernel) rfl ⟨by show 0 + 1 ≤ _; omega, by show 8 + (1 + 11) + 0 ≤ _; omega⟩ hc8 hd2 hf2 ⟨c, 9, w, rf2, rfl, e2, isFt_9, k⟩
theorem a_feud_mostOpenAtPeace (C : zCX X cc nL own nm rm) (hl : PSl S) (hd : decode cc pc = .ok (.aaload, 1)) (h : 0 ≤ i ∧ i < 8) (h1 : Cond.methodLink own idx yX2_mostOpenAtPeace ∈ TB) (hd2 : decode cc (pc + 1) = .ok (.invokevirtual idx, 3)) (hR1 : 1 ≤ rm.frames) (hR2 : 20 ≤ rm.locals) (hf2 : nc + 0 ≤ rm.cells ∧ ns + 0 ≤ rm.slots) (hc8 : cat8 st) (k : zW X S V nc ns al (zI (moS S i.toNat) :: st) (pc + 1 + 3)) : zW X S V nc ns al (zI i :: zR 4 :: st) pc := by
  obtain ⟨rf, h4, hf⟩ := PSl_4 hl
  obtain ⟨c, tag, w, rf2, e1, e2, ht⟩ := hf i.toNat (by omega)
  refine a_aald C h4 hd (by decide) h e1 ?_
  have ew : wtS S i.toNat = w := by unfold wtS; rw [fcS_eq h4 e1 e2]
  have ek : kdS S i.toNat = kdT tag := by unfold kdS; rw [fcS_eq h4 e1 e2]
  rcases ht with rfl | rfl | rfl | rfl | rfl
  · have ev : moS S i.toNat = 0 := by unfold moS; rw [ek]; rfl
    rw [ev] at k
    exact a_callU (as := []) (rest := st) C 0 (fun l => cFd_X2_mostOpenAtPeace l) e2 ⟨_, _, rfl⟩ (by decide) h1 sm_X2_mostOpenAtPeace im_X2_mostOpenAtPeace co_X2_mostOpenAtPeace im_X2_mostOpenAtPeace sx_X0_X2_mostOpenAtPeace in_X2 co_X2_mostOpenAtPeace (by decide +kernel) rfl ⟨by show 0 + 1 ≤ _; omega, by show 8 + (1 + 11) + 0 ≤ _; omega⟩ hc8 hd2 hf2 ⟨c, 0, w, rf2, rfl, e2, isFt_0, k⟩
  · have ev : moS S i.toNat = 0 := by unfold moS; rw [ek]; rfl
    rw [ev] at k
    exact a_callU (as := []) (rest := st) C 0 (fun l => cFd_X2_mostOpenAtPeace l) e2 ⟨_, _, rfl⟩ (by decide) h1 sm_X2_mostOpenAtPeace im_X2_mostOpenAtPeace co_X2_mostOpenAtPeace im_X2_mostOpenAtPeace se_X2_mostOpenAtPeace in_X2 co_X2_mostOpenAtPeace (by decide +kernel) rfl ⟨by show 0 + 1 ≤ _; omega, by show 8 + (1 + 11) + 0 ≤ _; omega⟩ hc8 hd2 hf2 ⟨c, 2, w, rf2, rfl, e2, isFt_2, k⟩
  · have ev : moS S i.toNat = 0 := by unfold moS; rw [ek]; rfl
    rw [ev] at k
    exact a_callU (as := []) (rest := st) C 0 (fun l => cFd_X2_mostOpenAtPeace l) e2 ⟨_, _, rfl⟩ (by decide) h1 sm_X2_mostOpenAtPeace im_X2_mostOpenAtPeace co_X2_mostOpenAtPeace im_X2_mostOpenAtPeace sx_X3_X2_mostOpenAtPeace in_X2 co_X2_mostOpenAtPeace (by decide +kernel) rfl ⟨by show 0 + 1 ≤ _; omega, by show 8 + (1 + 11) + 0 ≤ _; omega⟩ hc8 hd2 hf2 ⟨c, 3, w, rf2, rfl, e2, isFt_3, k⟩
  · have ev : moS S i.toNat = 1 := by unfold moS; rw [ek]; rfl
    rw [ev] at k
    exact a_callU (as := []) (rest := st) C 0 (fun l => cFd_X5_mostOpenAtPeace l) e2 ⟨_, _, rfl⟩ (by decide) h1 sm_X2_mostOpenAtPeace im_X2_mostOpenAtPeace co_X2_mostOpenAtPeace im_X5_mostOpenAtPeace sx_X5_X2_mostOpenAtPeace in_X5 co_X5_mostOpenAtPeace (by decide +kernel) rfl ⟨by show 0 + 1 ≤ _; omega, by show 8 + (1 + 11) + 0 ≤ _; omega⟩ hc8 hd2 hf2 ⟨c, 5, w, rf2, rfl, e2, isFt_5, k⟩
  · have ev : moS S i.toNat = 0 := by unfold moS; rw [ek]; rfl
    rw [ev] at k
    exact a_callU (as := []) (rest := st) C 0 (fun l => cFd_X2_mostOpenAtPeace l) e2 ⟨_, _, rfl⟩ (by decide) h1 sm_X2_mostOpenAtPeace im_X2_mostOpenAtPeace co_X2_mostOpenAtPeace im_X2_mostOpenAtPeace sx_X9_X2_mostOpenAtPeace in_X2 co_X2_mostOpenAtPeace (by decide +kernel) rfl ⟨by show 0 + 1 ≤ _; omega, by show 8 + (1 + 11) + 0 ≤ _; omega⟩ hc8 hd2 hf2 ⟨c, 9, w, rf2, rfl, e2, isFt_9, k⟩
def tOK : zT := fun as S V post => ∃ (c tag : Nat) (w : Int) (rf : Nat → Option Nat) (a : Int), as = [zR c, zI a] ∧ S[c]? = some (tag, w, rf) ∧ isFt tag ∧ inR a ∧ post (some (zI (okK (kdT tag) a))) S V
end ZFD
set_option maxHeartbeats 4000000 in
theorem c11_isOfKind (l : Launch) : zCT l yX11_isOfKind cX11_isOfKind 2 (some .boolean) { frames := 0, cells := 0, slots := 0, locals := 0 } tOK := by
  refine zCT_of (by decide) (fun as S V post h => by obtain ⟨c, tag, w, rf, a, rfl, -⟩ := h; exact Nat.le_of_ble_eq_true rfl) ?_
  intro X S V as post C E hT
  obtain ⟨c, tag, w, rf, a, rfl, hs, ht, hr, hK⟩ := hT
  show zW X S V 0 0 [some (zR c), some (zI a)] [] 0
  refine a_iload_n C dX11_isOfKind_0 rfl ?_
  by_cases q0 : a = 0
  · refine a_tswIn C 0 36 dX11_isOfKind_1 (by omega) hr (by decide) rfl (by decide) ?_
    refine a_iconst C dX11_isOfKind_36 ?_
    refine a_zret C E dX11_isOfKind_37 (Nat.le_refl _) (Nat.le_refl _) (by decide) ?_
    rw [show okK (kdT tag) a = 1 from if_pos (Or.inl q0)] at hK
    exact hK
  by_cases q1 : a = 1
  · refine a_tswIn C 1 38 dX11_isOfKind_1 (by omega) hr (by decide) rfl (by decide) ?_
    refine a_aload_n C dX11_isOfKind_38 rfl ?_
    subst q1
    rcases ht with rfl | rfl | rfl | rfl | rfl
    · exact a_instS C hs ⟨_, _, rfl⟩ (by decide) cl_X11_312 dX11_isOfKind_39 (a_zret C E dX11_isOfKind_42 (Nat.le_refl _) (Nat.le_refl _) (by decide) hK)
    · exact a_instN C hs ⟨_, _, rfl⟩ (by decide) (Ct := "ClosedFeuds$Boundary") (by decide) cl_X11_312 dX11_isOfKind_39 (a_zret C E dX11_isOfKind_42 (Nat.le_refl _) (Nat.le_refl _) (by decide) hK)
    · exact a_instN C hs ⟨_, _, rfl⟩ (by decide) (Ct := "ClosedFeuds$Boundary") (by decide) cl_X11_312 dX11_isOfKind_39 (a_zret C E dX11_isOfKind_42 (Nat.le_refl _) (Nat.le_refl _) (by decide) hK)
    · exact a_instN C hs ⟨_, _, rfl⟩ (by decide) (Ct := "ClosedFeuds$Boundary") (by decide) cl_X11_312 dX11_isOfKind_39 (a_zret C E dX11_isOfKind_42 (Nat.le_refl _) (Nat.le_refl _) (by decide) hK)
    · exact a_instN C hs ⟨_, _, rfl⟩ (by decide) (Ct := "ClosedFeuds$Boundary") (by decide) cl_X11_312 dX11_isOfKind_39 (a_zret C E dX11_isOfKind_42 (Nat.le_refl _) (Nat.le_refl _) (by decide) hK)
  by_cases q2 : a = 2
  · refine a_tswIn C 2 43 dX11_isOfKind_1 (by omega) hr (by decide) rfl (by decide) ?_
    refine a_aload_n C dX11_isOfKind_43 rfl ?_
    subst q2
    rcases ht with rfl | rfl | rfl | rfl | rfl
    · exact a_instN C hs ⟨_, _, rfl⟩ (by decide) (Ct := "ClosedFeuds$Joke") (by decide) cl_X11_314 dX11_isOfKind_44 (a_zret C E dX11_isOfKind_47 (Nat.le_refl _) (Nat.le_refl _) (by decide) hK)
    · exact a_instN C hs ⟨_, _, rfl⟩ (by decide) (Ct := "ClosedFeuds$Joke") (by decide) cl_X11_314 dX11_isOfKind_44 (a_zret C E dX11_isOfKind_47 (Nat.le_refl _) (Nat.le_refl _) (by decide) hK)
    · exact a_instN C hs ⟨_, _, rfl⟩ (by decide) (Ct := "ClosedFeuds$Joke") (by decide) cl_X11_314 dX11_isOfKind_44 (a_zret C E dX11_isOfKind_47 (Nat.le_refl _) (Nat.le_refl _) (by decide) hK)
    · exact a_instS C hs ⟨_, _, rfl⟩ (by decide) cl_X11_314 dX11_isOfKind_44 (a_zret C E dX11_isOfKind_47 (Nat.le_refl _) (Nat.le_refl _) (by decide) hK)
    · exact a_instN C hs ⟨_, _, rfl⟩ (by decide) (Ct := "ClosedFeuds$Joke") (by decide) cl_X11_314 dX11_isOfKind_44 (a_zret C E dX11_isOfKind_47 (Nat.le_refl _) (Nat.le_refl _) (by decide) hK)
  by_cases q3 : a = 3
  · refine a_tswIn C 3 48 dX11_isOfKind_1 (by omega) hr (by decide) rfl (by decide) ?_
    refine a_aload_n C dX11_isOfKind_48 rfl ?_
    subst q3
    rcases ht with rfl | rfl | rfl | rfl | rfl
    · exact a_instN C hs ⟨_, _, rfl⟩ (by decide) (Ct := "ClosedFeuds$Grudge") (by decide) cl_X11_316 dX11_isOfKind_49 (a_zret C E dX11_isOfKind_52 (Nat.le_refl _) (Nat.le_refl _) (by decide) hK)
    · exact a_instN C hs ⟨_, _, rfl⟩ (by decide) (Ct := "ClosedFeuds$Grudge") (by decide) cl_X11_316 dX11_isOfKind_49 (a_zret C E dX11_isOfKind_52 (Nat.le_refl _) (Nat.le_refl _) (by decide) hK)
    · exact a_instS C hs ⟨_, _, rfl⟩ (by decide) cl_X11_316 dX11_isOfKind_49 (a_zret C E dX11_isOfKind_52 (Nat.le_refl _) (Nat.le_refl _) (by decide) hK)
    · exact a_instN C hs ⟨_, _, rfl⟩ (by decide) (Ct := "ClosedFeuds$Grudge") (by decide) cl_X11_316 dX11_isOfKind_49 (a_zret C E dX11_isOfKind_52 (Nat.le_refl _) (Nat.le_refl _) (by decide) hK)
    · exact a_instY C hs ⟨_, _, rfl⟩ (by decide) (Ct := "ClosedFeuds$Grudge") (by decide) cl_X11_316 dX11_isOfKind_49 (a_zret C E dX11_isOfKind_52 (Nat.le_refl _) (Nat.le_refl _) (by decide) hK)
  by_cases q4 : a = 4
  · refine a_tswIn C 4 53 dX11_isOfKind_1 (by omega) hr (by decide) rfl (by decide) ?_
    refine a_aload_n C dX11_isOfKind_53 rfl ?_
    subst q4
    rcases ht with rfl | rfl | rfl | rfl | rfl
    · exact a_instN C hs ⟨_, _, rfl⟩ (by decide) (Ct := "ClosedFeuds$Pig") (by decide) cl_X11_318 dX11_isOfKind_54 (a_zret C E dX11_isOfKind_57 (Nat.le_refl _) (Nat.le_refl _) (by decide) hK)
    · exact a_instN C hs ⟨_, _, rfl⟩ (by decide) (Ct := "ClosedFeuds$Pig") (by decide) cl_X11_318 dX11_isOfKind_54 (a_zret C E dX11_isOfKind_57 (Nat.le_refl _) (Nat.le_refl _) (by decide) hK)
    · exact a_instN C hs ⟨_, _, rfl⟩ (by decide) (Ct := "ClosedFeuds$Pig") (by decide) cl_X11_318 dX11_isOfKind_54 (a_zret C E dX11_isOfKind_57 (Nat.le_refl _) (Nat.le_refl _) (by decide) hK)
    · exact a_instN C hs ⟨_, _, rfl⟩ (by decide) (Ct := "ClosedFeuds$Pig") (by decide) cl_X11_318 dX11_isOfKind_54 (a_zret C E dX11_isOfKind_57 (Nat.le_refl _) (Nat.le_refl _) (by decide) hK)
    · exact a_instS C hs ⟨_, _, rfl⟩ (by decide) cl_X11_318 dX11_isOfKind_54 (a_zret C E dX11_isOfKind_57 (Nat.le_refl _) (Nat.le_refl _) (by decide) hK)
  refine a_tswOut C 58 dX11_isOfKind_1 hr (by omega) (by decide) ?_
  refine a_iconst C dX11_isOfKind_58 ?_
  refine a_zret C E dX11_isOfKind_59 (Nat.le_refl _) (Nat.le_refl _) (by decide) ?_
  rw [show okK (kdT tag) a = 0 from if_neg (by omega)] at hK
  exact hK
section ZFE
variable {X : zM} {nL : Nat} {nm : String} {rm : Room} {S : List zC} {V : zV} {nc ns pc : Nat} {al : List (Option zA)} {st : List zA} {i a : Int}
/-- aaload; iload_2; invokestatic isOfKind, in 'as' -/
theorem a_feud_isOfKind (C : zCX X cX11_as nL RX11 nm rm) (hl : PSl S) (h : 0 ≤ i ∧ i < 8) (hal : al[2]? = some (some (zI a))) (hr : inR a) (hR1 : 1 ≤ rm.frames) (hR2 : 21 ≤ rm.locals) (hf2 : nc + 0 ≤ rm.cells ∧ ns + 0 ≤ rm.slots) (hc8 : cat8 st) (k : zW X S V nc ns al (zI (okK (kdS S i.toNat) a) :: st) 36) : zW X S V nc ns al (zI i :: zR 4 :: st) 31 := by
  obtain ⟨rf, h4, hf⟩ := PSl_4 hl
  obtain ⟨c, tag, w, rf2, e1, e2, ht⟩ := hf i.toNat (by omega)
  refine a_aald C h4 dX11_as_31 (by decide) h e1 ?_
  refine a_iload_n C dX11_as_32 hal ?_
  have ek : kdS S i.toNat = kdT tag := by unfold kdS; rw [fcS_eq h4 e1 e2]
  rw [ek] at k
  exact a_callS (as := [zR c, zI a]) (rest := st) C 2 (fun l => c11_isOfKind l) ml_X11_127 sa_X11_isOfKind in_X11 co_X11_isOfKind (by decide +kernel) rfl ⟨hR1, hR2⟩ hc8 dX11_as_33 hf2 ⟨c, tag, w, rf2, a, rfl, e2, ht, hr, k⟩
end ZFE
section ZUS
variable {X : zM} {cc : ByteArray} {nL : Nat} {own nm : String} {rm : Room} {S : List zC} {V : zV} {nc ns pc : Nat} {al : List (Option zA)} {st : List zA} {idx : Nat}
def zushr (x y : Int) : Int := ((Int32.ofInt x).toUInt32 >>> ((Int32.ofInt y).toUInt32 &&& Int32.toUInt32 31)).toInt32.toInt
theorem a_iushr (C : zCX X cc nL own nm rm) (hd : decode cc pc = .ok (.iushr, 1)) {x y : Int} (k : zW X S V nc ns al (zI (zushr x y) :: st) (pc + 1)) : zW X S V nc ns al (zI y :: zI x :: st) pc := by
  obtain ⟨p, l, e, R, s, m, args, below, meth, c, D, cy, A, Q, ad0, n0⟩ := X
  obtain ⟨hx, hb, -⟩ := C
  intro ad H locs ls hw hS hL ho
  exact lv_iushr hx hb hd (Int32.ofInt_toInt _).symm (k ad H locs ls hw hS hL ⟨trivial, ho.2.2⟩)
theorem a_ldc_w (C : zCX X cc nL own nm rm) {v : Int} (hc : Cond.constant own idx (Int32.ofInt v) ∈ TB) (hd : decode cc pc = .ok (.ldc_w idx, 3)) (k : zW X S V nc ns al (zI v :: st) (pc + 3)) : zW X S V nc ns al st pc := by
  obtain ⟨p, l, e, R, s, m, args, below, meth, c, D, cy, A, Q, ad0, n0⟩ := X
  obtain ⟨hx, hb, hml, hown, hts, -⟩ := C
  intro ad H locs ls hw hS hL ho
  exact lv_ldcw hx hb hown (hts _ hc) hd (k ad H locs ls hw hS hL ⟨trivial, ho⟩)
theorem a_copyN (C : zCX X cc nL own nm rm) {o0 o1 : Nat} {n0 n1 n : Int} {rf0 rf1 : Nat → Option Nat} (hs0 : S[o0]? = some (13, n0, rf0)) (hs1 : S[o1]? = some (13, n1, rf1)) (hn : 0 ≤ n ∧ n ≤ n0 ∧ n ≤ n1 ∧ n0 < 2147483648 ∧ n1 < 2147483648) (h1 : Cond.methodLink own idx arraycopyName ∈ TB) (h2 : Cond.native arraycopyName ∈ TB) (h3 : Cond.static arraycopyName ∈ TB) (h4 : Cond.initialized "java/lang/System" ∈ TB) (hf : 1 ≤ rm.frames) (hl : nativeFrameWords "java/lang/System" "arraycopy" 5 + 11 + 8 ≤ rm.locals) (hc8 : cat8 st) (hd : decode cc pc = .ok (.invokestatic idx, 3)) (k : ∀ V' : zV, V' = vrow V o1 (cpz (V o0) (V o1) n.toNat) → zW X S V' nc ns al st (pc + 3)) : zW X S V nc ns al (zI n :: zI 0 :: zR o1 :: zI 0 :: zR o0 :: st) pc :=
  a_copy C hs0 hs1 hn h1 h2 h3 h4 hf hl hc8 hd (k _ rfl)
end ZUS
