/-! ===== calls on a feud, super, instanceof, the library ===== -/
section ZU
variable {X : zM} {cc : ByteArray} {nL : Nat} {own nm : String} {rm : Room} {S : List zC} {V : zV} {nc ns pc : Nat} {al : List (Option zA)} {st : List zA} {idx o : Nat}
/-- a virtual call by the name x of a class above the receiver's: y is what the receiver's class Cr has -/
theorem a_callU (C : zCX X cc nL own nm rm) {x y : MethodName} {bytes : ByteArray} {maxL : Nat} {ret : Option FieldType} {rm' : Room} {T : zT} {tag : Nat} {w : Int} {rf : Nat → Option Nat} {as rest : List zA} {Cr : String} (n : Nat) (hM : ∀ l, zCT l y bytes maxL ret rm' T)
    (hs : S[o]? = some (tag, w, rf)) (hcl : ∃ T' N, vwCl[tag]? = some (Cr, T', N)) (htag : tag < 13)
    (h1 : Cond.methodLink own idx x ∈ TB) (h1s : Cond.sameMethod x.cls x.cls x.name x.desc ∈ TB) (h1i : Cond.instanceMethod x ∈ TB) {b0 : ByteArray} {m0 : Nat} {r0 : Option FieldType} (h0 : Cond.code x b0 m0 r0 ∈ TB) (h2 : Cond.instanceMethod y ∈ TB) (h3 : Cond.selects Cr x y ∈ TB) (h4 : Cond.initialized y.cls ∈ TB) (h5 : Cond.code y bytes maxL ret ∈ TB)
    (hdsc : x.cls ≠ "java/lang/invoke/MethodHandle" ∧ x.cls ≠ "java/lang/invoke/VarHandle" ∧ (parseMethodDescriptor x.desc).map (fun d => d.parameters.length) = some n) (hn : as.length = n) (hR : rm'.frames + 1 ≤ rm.frames ∧ 8 + (maxL + 11) + rm'.locals ≤ rm.locals) (hc8 : cat8 rest)
    (hd : decode cc pc = .ok (.invokevirtual idx, 3)) (hf : nc + rm'.cells ≤ rm.cells ∧ ns + rm'.slots ≤ rm.slots)
    (kk : T (zR o :: as) S V (fun r S' V' => zW X S' V' (nc + rm'.cells) (ns + rm'.slots) al (r.toList ++ rest) (pc + 3))) : zW X S V nc ns al (as.reverse ++ zR o :: rest) pc := by
  obtain ⟨p, l, e, R, s, m, args, below, meth, c, D, cy, A, Q, ad0, n0⟩ := X
  obtain ⟨hx, hb, hml, hown, hts, hlk, hK, hA, hRm, -⟩ := C
  subst hRm
  obtain ⟨T', N, g1⟩ := hcl
  intro ad H locs ls hw hS hL ho
  have hoa := okst_app.mp ho
  have hoas : okst S.length (zR o :: as) := ⟨hoa.2.1, by have := okst_rev hoa.1; rwa [List.reverse_reverse] at this⟩
  have he := wsW_at (ad := ad) (cy := cy) (V := V) hs
  rw [cE_obj htag] at he
  have hG : GoodIn TB (va_wsO own idx Cr x.cls x y (.code y bytes maxL ret :: TB)) := TB_ws h5 [.methodLink own idx x, .sameMethod x.cls x.cls x.name x.desc, .instanceMethod ⟨x.cls, x.name, x.desc⟩, .selects Cr x y, .instanceMethod y, .initialized y.cls] (fun w hw => by
    simp only [List.mem_cons, List.not_mem_nil, or_false] at hw
    rcases hw with rfl | rfl | rfl | rfl | rfl | rfl
    · exact h1
    · exact h1s
    · exact h1i
    · exact h3
    · exact h2
    · exact h4)
  have hrun := va_runU (As := as.map (cvv ad)) (rest := rest.map (cvv ad)) (b := ad o) (g := F0 m pc ls ((as.reverse ++ zR o :: rest).map (cvv ad))) (e := e) (below := below) (meth := meth) (locs := locs) (cells := nc) (slots := ns) ⟨hx, hb, hml, hown, hts⟩ (hM l D cy ad H.size S V (zR o :: as) _ kk hw.2.2.1 hw.2.2.2.1 hoas)
    (va_cwO n hts hG rfl rfl rfl h0 hdsc hR) ⟨z_blind, va_recv hK.1 hw.1 g1 he, fun U hU hW => ⟨rfl, by rw [hU], by rw [hU]; exact hw.1, hw.2.1.weaken (fun _ _ _ _ => trivial), KK_warm hW hK⟩⟩ rfl (by rw [List.length_map]; exact hn) (hL.1.trans hml) z_revR (by show 2 * 0 + _ ≤ 8; rw [Nat.mul_zero, Nat.zero_add]; exact cat8_to hc8) hd hf
  exact z_back hrun hw hS hA hL hoa.2.2 (fun r S' V' h => h)
/-- super.y() -/
theorem a_callSU (C : zCX X cc nL own nm rm) {y : MethodName} {bytes : ByteArray} {maxL : Nat} {ret : Option FieldType} {rm' : Room} {T : zT} {tag : Nat} {w : Int} {rf : Nat → Option Nat} {as rest : List zA} {Cr : String} (n : Nat) (hM : ∀ l, zCT l y bytes maxL ret rm' T)
    (hs : S[o]? = some (tag, w, rf)) (hcl : ∃ T' N, vwCl[tag]? = some (Cr, T', N)) (htag : tag < 13)
    (h1 : Cond.methodLink own idx y ∈ TB) (h1s : Cond.sameMethod y.cls y.cls y.name y.desc ∈ TB) (h1u : Cond.superclass own y.cls ∈ TB) (h2 : Cond.instanceMethod y ∈ TB) (h4 : Cond.initialized y.cls ∈ TB) (h5 : Cond.code y bytes maxL ret ∈ TB)
    (hdsc : y.name ≠ "<init>" ∧ (parseMethodDescriptor y.desc).map (fun d => d.parameters.length) = some n) (hn : as.length = n) (hR : rm'.frames + 1 ≤ rm.frames ∧ 8 + (maxL + 11) + rm'.locals ≤ rm.locals) (hc8 : cat8 rest)
    (hd : decode cc pc = .ok (.invokespecial idx, 3)) (hf : nc + rm'.cells ≤ rm.cells ∧ ns + rm'.slots ≤ rm.slots)
    (kk : T (zR o :: as) S V (fun r S' V' => zW X S' V' (nc + rm'.cells) (ns + rm'.slots) al (r.toList ++ rest) (pc + 3))) : zW X S V nc ns al (as.reverse ++ zR o :: rest) pc := by
  obtain ⟨p, l, e, R, s, m, args, below, meth, c, D, cy, A, Q, ad0, n0⟩ := X
  obtain ⟨hx, hb, hml, hown, hts, hlk, hK, hA, hRm, -⟩ := C
  subst hRm
  obtain ⟨T', N, g1⟩ := hcl
  intro ad H locs ls hw hS hL ho
  have hoa := okst_app.mp ho
  have hoas : okst S.length (zR o :: as) := ⟨hoa.2.1, by have := okst_rev hoa.1; rwa [List.reverse_reverse] at this⟩
  have he := wsW_at (ad := ad) (cy := cy) (V := V) hs
  rw [cE_obj htag] at he
  have hG : GoodIn TB (va_wsSU own idx y (.code y bytes maxL ret :: TB)) := TB_ws h5 [.methodLink own idx y, .sameMethod y.cls y.cls y.name y.desc, .superclass own y.cls, .instanceMethod y, .initialized y.cls] (fun w hw => by
    simp only [List.mem_cons, List.not_mem_nil, or_false] at hw
    rcases hw with rfl | rfl | rfl | rfl | rfl
    · exact h1
    · exact h1s
    · exact h1u
    · exact h2
    · exact h4)
  have hrun := va_runSU (As := as.map (cvv ad)) (rest := rest.map (cvv ad)) (b := ad o) (g := F0 m pc ls ((as.reverse ++ zR o :: rest).map (cvv ad))) (e := e) (below := below) (meth := meth) (locs := locs) (cells := nc) (slots := ns) (hK.1.1 tag _ g1).2 ⟨hx, hb, hml, hown, hts⟩ (hM l D cy ad H.size S V (zR o :: as) _ kk hw.2.2.1 hw.2.2.2.1 hoas)
    (va_cwSU n hts hG rfl rfl rfl hdsc hR) ⟨z_blind, va_recv hK.1 hw.1 g1 he, fun U hU hW => ⟨rfl, by rw [hU], by rw [hU]; exact hw.1, hw.2.1.weaken (fun _ _ _ _ => trivial), KK_warm hW hK⟩⟩ rfl (by rw [List.length_map]; exact hn) (hL.1.trans hml) z_revR (by show 2 * 0 + _ ≤ 8; rw [Nat.mul_zero, Nat.zero_add]; exact cat8_to hc8) hd hf
  exact z_back hrun hw hS hA hL hoa.2.2 (fun r S' V' h => h)
theorem a_instS (C : zCX X cc nL own nm rm) {tag : Nat} {w : Int} {rf : Nat → Option Nat} {Cr : String} (hs : S[o]? = some (tag, w, rf)) (hcl : ∃ T' N, vwCl[tag]? = some (Cr, T', N)) (htag : tag < 13) (h1 : Cond.classLink own idx Cr ∈ TB) (hd : decode cc pc = .ok (.instanceof idx, 3)) (k : zW X S V nc ns al (zI 1 :: st) (pc + 3)) : zW X S V nc ns al (zR o :: st) pc := by
  obtain ⟨p, l, e, R, s, m, args, below, meth, c, D, cy, A, Q, ad0, n0⟩ := X
  obtain ⟨hx, hb, hml, hown, hts, hlk, hK, hA, hRm, -⟩ := C
  obtain ⟨T', N, g1⟩ := hcl
  intro ad H locs ls hw hS hL ho
  have he := wsW_at (ad := ad) (cy := cy) (V := V) hs
  rw [cE_obj htag] at he
  exact va_instS hx hb hown (hts _ h1) (hK.1.1 tag _ g1).2 (va_recv hK.1 hw.1 g1 he) hd (k ad H locs ls hw hS hL ⟨trivial, ho.2⟩)
theorem a_instY (C : zCX X cc nL own nm rm) {tag : Nat} {w : Int} {rf : Nat → Option Nat} {Cr Ct : String} (hs : S[o]? = some (tag, w, rf)) (hcl : ∃ T' N, vwCl[tag]? = some (Cr, T', N)) (htag : tag < 13) (hca : (Cr, Ct) ∈ zCast) (h1 : Cond.classLink own idx Ct ∈ TB) (hd : decode cc pc = .ok (.instanceof idx, 3)) (k : zW X S V nc ns al (zI 1 :: st) (pc + 3)) : zW X S V nc ns al (zR o :: st) pc := by
  obtain ⟨p, l, e, R, s, m, args, below, meth, c, D, cy, A, Q, ad0, n0⟩ := X
  obtain ⟨hx, hb, hml, hown, hts, hlk, hK, hA, hRm, -⟩ := C
  obtain ⟨T', N, g1⟩ := hcl
  intro ad H locs ls hw hS hL ho
  have he := wsW_at (ad := ad) (cy := cy) (V := V) hs
  rw [cE_obj htag] at he
  exact va_instY hx hb hown (hts _ h1) (hK.2.2.1 _ hca) (va_recv hK.1 hw.1 g1 he) hd (k ad H locs ls hw hS hL ⟨trivial, ho.2⟩)
theorem a_instN (C : zCX X cc nL own nm rm) {tag : Nat} {w : Int} {rf : Nat → Option Nat} {Cr Ct : String} (hs : S[o]? = some (tag, w, rf)) (hcl : ∃ T' N, vwCl[tag]? = some (Cr, T', N)) (htag : tag < 13) (hca : (Cr, Ct) ∈ zNoC) (h1 : Cond.classLink own idx Ct ∈ TB) (hd : decode cc pc = .ok (.instanceof idx, 3)) (k : zW X S V nc ns al (zI 0 :: st) (pc + 3)) : zW X S V nc ns al (zR o :: st) pc := by
  obtain ⟨p, l, e, R, s, m, args, below, meth, c, D, cy, A, Q, ad0, n0⟩ := X
  obtain ⟨hx, hb, hml, hown, hts, hlk, hK, hA, hRm, -⟩ := C
  obtain ⟨T', N, g1⟩ := hcl
  intro ad H locs ls hw hS hL ho
  have he := wsW_at (ad := ad) (cy := cy) (V := V) hs
  rw [cE_obj htag] at he
  exact va_instNo hx hb hown (hts _ h1) (hK.2.2.2.1 _ hca) (va_recv hK.1 hw.1 g1 he) hd (k ad H locs ls hw hS hL ⟨trivial, ho.2⟩)
theorem a_min (C : zCX X cc nL own nm rm) {x y : Int} (h : inR x ∧ inR y) (h1 : Cond.methodLink own idx Lib.Math.min.name ∈ TB) (h2 : Cond.static Lib.Math.min.name ∈ TB) (h3 : Cond.initialized "java/lang/Math" ∈ TB) (h4 : Cond.code Lib.Math.min.name Lib.Math.min.code 2 (some .int) ∈ TB) (hf : 1 ≤ rm.frames) (hl : 21 ≤ rm.locals) (hc8 : cat8 st) (hnc : nc ≤ rm.cells) (hns : ns ≤ rm.slots) (hd : decode cc pc = .ok (.invokestatic idx, 3)) (k : zW X S V nc ns al (zI (if y < x then y else x) :: st) (pc + 3)) : zW X S V nc ns al (zI y :: zI x :: st) pc := by
  obtain ⟨p, l, e, R, s, m, args, below, meth, c, D, cy, A, Q, ad0, n0⟩ := X
  obtain ⟨hx, hb, hml, hown, hts, hlk, hK, hA, hRm, -⟩ := C
  subst hRm
  intro ad H locs ls hw hS hL ho
  have h8 := cat8_to (ad := ad) hc8
  refine va_mmin hx hb hL.1.symm hown (hts _ h1) (hts _ h2) (hts _ h3) (hts _ h4) hf (Nat.le_trans (Nat.add_le_add_right h8 13) hl) hnc hns hd ?_
  have e1 : (if Int32.ofInt y < Int32.ofInt x then Int32.ofInt y else Int32.ofInt x) = Int32.ofInt (if y < x then y else x) := by
    by_cases hq : y < x
    · rw [if_pos hq, if_pos ((z_lt h.2 h.1).mpr hq)]
    · rw [if_neg hq, if_neg (mt (z_lt h.2 h.1).mp hq)]
  rw [e1]
  exact k ad H locs ls hw hS hL ⟨trivial, ho.2.2⟩
theorem a_max (C : zCX X cc nL own nm rm) {x y : Int} (h : inR x ∧ inR y) (h1 : Cond.methodLink own idx Lib.Math.max.name ∈ TB) (h2 : Cond.static Lib.Math.max.name ∈ TB) (h3 : Cond.initialized "java/lang/Math" ∈ TB) (h4 : Cond.code Lib.Math.max.name Lib.Math.max.code 2 (some .int) ∈ TB) (hf : 1 ≤ rm.frames) (hl : 21 ≤ rm.locals) (hc8 : cat8 st) (hnc : nc ≤ rm.cells) (hns : ns ≤ rm.slots) (hd : decode cc pc = .ok (.invokestatic idx, 3)) (k : zW X S V nc ns al (zI (if x < y then y else x) :: st) (pc + 3)) : zW X S V nc ns al (zI y :: zI x :: st) pc := by
  obtain ⟨p, l, e, R, s, m, args, below, meth, c, D, cy, A, Q, ad0, n0⟩ := X
  obtain ⟨hx, hb, hml, hown, hts, hlk, hK, hA, hRm, -⟩ := C
  subst hRm
  intro ad H locs ls hw hS hL ho
  have h8 := cat8_to (ad := ad) hc8
  refine va_mmax hx hb hL.1.symm hown (hts _ h1) (hts _ h2) (hts _ h3) (hts _ h4) hf (Nat.le_trans (Nat.add_le_add_right h8 13) hl) hnc hns hd ?_
  have e1 : (if Int32.ofInt x < Int32.ofInt y then Int32.ofInt y else Int32.ofInt x) = Int32.ofInt (if x < y then y else x) := by
    by_cases hq : x < y
    · rw [if_pos hq, if_pos ((z_lt h.1 h.2).mpr hq)]
    · rw [if_neg hq, if_neg (mt (z_lt h.1 h.2).mp hq)]
  rw [e1]
  exact k ad H locs ls hw hS hL ⟨trivial, ho.2.2⟩
/-- a row of ints is copied onto another, from the first place on -/
def cpz (f g : Nat → Int) (n : Nat) : Nat → Int := fun j => if j < n then f j else g j
theorem a_copy (C : zCX X cc nL own nm rm) {o0 o1 : Nat} {n0 n1 n : Int} {rf0 rf1 : Nat → Option Nat} (hs0 : S[o0]? = some (13, n0, rf0)) (hs1 : S[o1]? = some (13, n1, rf1)) (hn : 0 ≤ n ∧ n ≤ n0 ∧ n ≤ n1 ∧ n0 < 2147483648 ∧ n1 < 2147483648) (h1 : Cond.methodLink own idx arraycopyName ∈ TB) (h2 : Cond.native arraycopyName ∈ TB) (h3 : Cond.static arraycopyName ∈ TB) (h4 : Cond.initialized "java/lang/System" ∈ TB) (hf : 1 ≤ rm.frames) (hl : nativeFrameWords "java/lang/System" "arraycopy" 5 + 11 + 8 ≤ rm.locals) (hc8 : cat8 st) (hd : decode cc pc = .ok (.invokestatic idx, 3)) (k : zW X S (vrow V o1 (cpz (V o0) (V o1) n.toNat)) nc ns al st (pc + 3)) : zW X S V nc ns al (zI n :: zI 0 :: zR o1 :: zI 0 :: zR o0 :: st) pc := by
  obtain ⟨p, l, e, R, s, m, args, below, meth, c, D, cy, A, Q, ad0, nz⟩ := X
  obtain ⟨hx, hb, hml, hown, hts, hlk, hK, hA, hRm, -⟩ := C
  subst hRm
  intro ad H locs ls hw hS hL ho
  have h8 := cat8_to (ad := ad) hc8
  have hnn : (Int32.ofInt n).toNatClampNeg = n.toNat := z_clamp hn.1 (by omega)
  have h00 : (Int32.ofInt 0).toNatClampNeg = 0 := by decide
  refine va_copyi hx hb hL.1.symm hown (hts _ h1) (hts _ h2) (hts _ h3) (hts _ h4) hK.1 hw.1 hw.2.1 hS o0 o1 0 0 (wsW_at (ad := ad) (cy := cy) (V := V) hs0) (wsW_at (ad := ad) (cy := cy) (V := V) hs1) (ty := .int) rfl rfl rfl (by decide) (by decide) (z_neg hn.1 (by omega)) (by rw [hnn, h00]; show 0 + _ ≤ n0.toNat; omega) (by rw [hnn, h00]; show 0 + _ ≤ n1.toNat; omega) (fun _ _ => rfl) hf (by omega) hd (fun H1 locs1 hP1 hD1 hS1 => ?_)
  rw [hnn, h00] at hP1 hD1
  have hws : (wsW ad cy S V).set o1 (ad o1, .inl (cy 0, n1.toNat, .inl (va_cpy (fun j => Int32.ofInt (V o0 j)) (fun j => Int32.ofInt (V o1 j)) 0 0 n.toNat))) = wsW ad cy S (vrow V o1 (cpz (V o0) (V o1) n.toNat)) := by
    rw [← wsW_setV (V' := vrow V o1 (cpz (V o0) (V o1) n.toNat)) hs1 (fun c' hc => vrow_n hc), vrow_s]
    have e1 : (va_cpy (fun j => Int32.ofInt (V o0 j)) (fun j => Int32.ofInt (V o1 j)) 0 0 n.toNat) = (fun j => Int32.ofInt (cpz (V o0) (V o1) n.toNat j)) := by
      funext j
      unfold va_cpy cpz
      by_cases hj : j < n.toNat
      · rw [if_pos ⟨Nat.zero_le _, by omega⟩, if_pos hj, show 0 + (j - 0) = j by omega]
      · rw [if_neg (by omega), if_neg hj]
    rw [e1]
    rfl
  have hP1 := (congrArg (fun z => va_P D vwCl z H1) hws).mp hP1
  have hD1 := (congrArg (fun z => va_D A z) hws).mp hD1
  refine k ad H1 locs1 ls ⟨hP1, hD1, hw.2.2.1, inV_row hw.2.2.2.1 (fun sc hsc j => ?_), hw.2.2.2.2⟩ hS1 hL ho.2.2.2.2.2
  cases hs1.symm.trans hsc
  unfold cpz
  split
  · exact hw.2.2.2.1 o0 _ hs0 j
  · exact hw.2.2.2.1 o1 _ hs1 j
end ZU
