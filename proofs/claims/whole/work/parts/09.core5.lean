/-! ===== makings, ends, calls ===== -/
def zN (own : String) (idx tag : Nat) : Prop := ∃ (C : String) (T : u_T) (N : Nat) (ty0 : Nat → FieldType), vwCl[tag]? = some (C, T, N) ∧ (∀ w ∈ u_ws C T N, w ∈ TB) ∧ (∀ k, k < N → parseFieldDescriptor (T k).2.2.1 = some (ty0 k)) ∧ Cond.classLink own idx C ∈ TB ∧ Cond.instantiable C N ∈ TB ∧ Cond.initialized C ∈ TB ∧ (∀ ad : Nat → Nat, ∀ j, j < N → defaultValue (ty0 j) = vp_V (fvals ad (fun _ => 0) (tag, 0, fun _ => none)) j) ∧ tag < 13
theorem ext_ad {n q : Nat} (ad : Nat → Nat) (hn : n < 999999) : ∃ ad' : Nat → Nat, (∀ k, k < n ∨ k = 999999 → ad' k = ad k) ∧ ad' n = q :=
  ⟨fun k => if k = n then q else ad k, fun k hk => if_neg (by omega), if_pos rfl⟩
section ZN
variable {X : zM} {cc : ByteArray} {nL : Nat} {own nm : String} {rm : Room} {S : List zC} {V : zV} {nc ns pc : Nat} {al : List (Option zA)} {st : List zA} {idx tag k o : Nat}
theorem z_grow {D : va_G} {cy : Nat → ClassId} {A : Nat → Prop} {ad0 ad ad' : Nat → Nat} {n0 q : Nat} {sc : zC} {f : Nat → Int} {H H1 : Heap} (hw : zWD D cy A ad0 n0 ad S V H) (h1 : ∀ k, k < S.length ∨ k = 999999 → ad' k = ad k) (h2 : ad' S.length = q) (hr : ∀ k r, sc.2.2 k = some r → r < S.length + 1) (hf : ∀ k, inC sc.1 k (f k))
    (hP : va_P D vwCl (wsW ad cy S V ++ [(q, cE ad' cy f sc)]) H1) (hD : va_D A (wsW ad cy S V ++ [(q, cE ad' cy f sc)])) : zWD D cy A ad0 n0 ad' (S ++ [sc]) (vrow V S.length f) H1 := by
  have e := wsW_push (cy := cy) (V := V) (V' := vrow V S.length f) (sc' := sc) hw.2.2.1 h1 h2 (fun c hc => vrow_n (Nat.ne_of_lt hc))
  rw [vrow_s] at e
  rw [e] at hP hD
  refine ⟨hP, hD, okS_push hw.2.2.1 hr, inV_push hw.2.2.2.1 hf, ?_, fun k hk => ?_⟩
  · rw [List.length_append]
    exact Nat.le_trans hw.2.2.2.2.1 (Nat.le_add_right _ _)
  · rw [h1 k (hk.imp (fun q => Nat.lt_of_lt_of_le q hw.2.2.2.2.1) id)]
    exact hw.2.2.2.2.2 k hk
theorem a_new (C : zCX X cc nL own nm rm) (F : zN own idx tag) (N : Nat) (hN : N = (fkt tag).length) (hN2 : ∃ C T, vwCl[tag]? = some (C, T, N)) (hd : decode cc pc = .ok (.new idx, 3)) (hn : S.length < 999999) (hc : nc + 1 ≤ rm.cells) (hs : ns + N ≤ rm.slots) (kk : zW X (S ++ [(tag, 0, fun _ => none)]) (vrow V S.length (fun _ => 0)) (nc + 1) (ns + N) al (zR S.length :: st) (pc + 3)) : zW X S V nc ns al st pc := by
  obtain ⟨p, l, e, R, s, m, args, below, meth, c, D, cy, A, Q, ad0, n0⟩ := X
  obtain ⟨hx, hb, hml, hown, hts, hlk, hK, hA, hR, -⟩ := C
  subst hR
  obtain ⟨Cn, T, N', ty0, f1, f2, f3, f4, f5, f6, f7, f8⟩ := F
  obtain ⟨C', T', g1⟩ := hN2
  cases f1.symm.trans g1
  intro ad H locs ls hw hS hL ho
  refine va_new (ci := tag) (fs := fvals ad (fun _ => 0) (tag, 0, fun _ => none)) hx hb hts f2 ty0 f3 hown (hts _ f4) (hts _ f5) (hts _ f6) hK.1 hw.1 hw.2.1 hS hA f1 (f7 ad) hc hs hd (fun q H1 hP1 hD1 hS1 => ?_)
  obtain ⟨ad', h1, h2⟩ := ext_ad (q := q) ad hn
  have e0 : cE ad' cy (fun _ => 0) (tag, 0, fun _ => none) = .inr (tag, fvals ad (fun _ => 0) (tag, 0, fun _ => none)) := by
    rw [cE_to h1 (sc := (tag, 0, fun _ => none)) (fun k r hr => by cases hr), cE_obj f8]
  have hw' := z_grow (sc := (tag, 0, fun _ => none)) (f := fun _ => 0) hw h1 h2 (fun k r hr => by cases hr) (fun k => inC_0 _ _) (e0.symm ▸ hP1) (e0.symm ▸ hD1)
  have hlen : (S ++ [((tag, 0, fun _ => none) : zC)]).length = S.length + 1 := by simp
  have hle : S.length ≤ (S ++ [((tag, 0, fun _ => none) : zC)]).length := by omega
  have hst : (zR S.length :: st).map (cvv ad') = .ref q :: st.map (cvv ad) := by
    rw [List.map_cons, cvv_map h1 (okst_mem ho)]
    exact congrArg (fun z => Value.ref z :: st.map (cvv ad)) h2
  rw [← hst]
  exact kk ad' H1 locs ls hw' hS1 (zLR_to hle h1 hL) ⟨Or.inl (by omega), okst_mono hle ho⟩
theorem a_newa (C : zCX X cc nL own nm rm) {atype : ArrayType} {ty : FieldType} {t : Nat} (hat : (t = 13 ∧ ty = .int) ∨ (t = 14 ∧ ty = .boolean) ∨ (t = 15 ∧ ty = .long)) (harr : Cond.arrayClass ty ∈ TB) (hty : newarray.typeOf atype = ty) (hd : decode cc pc = .ok (.newarray atype, 2)) {n : Int} (hn0 : 0 ≤ n ∧ n ≤ 100000) (hn : S.length < 999999) (hc : nc + 1 ≤ rm.cells) (hs : ns + n.toNat ≤ rm.slots) (kk : zW X (S ++ [(t, n, fun _ => none)]) (vrow V S.length (fun _ => 0)) (nc + 1) (ns + n.toNat) al (zR S.length :: st) (pc + 2)) : zW X S V nc ns al (zI n :: st) pc := by
  obtain ⟨p, l, e, R, s, m, args, below, meth, c, D, cy, A, Q, ad0, n0⟩ := X
  obtain ⟨hx, hb, hml, hown, hts, hlk, hK, hA, hR, -⟩ := C
  subst hR
  intro ad H locs ls hw hS hL ho
  have hbytes : n.toNat * componentBytes ty ≤ 536870912 := by
    rcases hat with ⟨-, rfl⟩ | ⟨-, rfl⟩ | ⟨-, rfl⟩ <;> simp [componentBytes] <;> omega
  have key : ∀ (j : Nat) (a0 : vp_A), (tyL cy)[j]? = some (cy j, ty) → (∀ ad' : Nat → Nat, cE ad' cy (fun _ => 0) (t, n, fun _ => none) = .inl (cy j, a0)) → (∀ cA : ClassId, vp_cell cA a0 = arrV cA n.toNat (fun _ => defaultValue ty)) → (∀ cA, va_RA s cA ty → va_RA s (cy j) ty → cA = cy j) → W p l e R s m args below meth c H locs nc ns Q (F0 m pc ls ((zI n :: st).map (cvv ad))) := by
    intro j a0 hj he ha hu
    refine va_newa (a0 := a0) hx hb (by rw [hty]; exact hts _ harr) hty hK.1 hw.1 hw.2.1 hS hA ha (z_neg hn0.1 (by omega)) (z_clamp hn0.1 (by omega)) hbytes hc hs hd (fun q cA H1 hK1 hP1 hD1 hS1 => ?_)
    have e1 : cA = cy j := hu cA (hK1.2 4 (cA, ty) rfl).2 (hK.1.2 j _ hj).2
    subst e1
    obtain ⟨ad', h1, h2⟩ := ext_ad (q := q) ad hn
    have hw' := z_grow (sc := (t, n, fun _ => none)) (f := fun _ => 0) hw h1 h2 (fun k r hr => by cases hr) (fun k => inC_0 _ _) ((he ad').symm ▸ hP1) ((he ad').symm ▸ hD1)
    have hlen : (S ++ [((t, n, fun _ => none) : zC)]).length = S.length + 1 := by simp
    have hle : S.length ≤ (S ++ [((t, n, fun _ => none) : zC)]).length := by omega
    have hst : (zR S.length :: st).map (cvv ad') = .ref q :: st.map (cvv ad) := by
      rw [List.map_cons, cvv_map h1 (okst_mem ho.2)]
      exact congrArg (fun z => Value.ref z :: st.map (cvv ad)) h2
    rw [← hst]
    exact kk ad' H1 locs ls hw' hS1 (zLR_to hle h1 hL) ⟨Or.inl (by omega), okst_mono hle ho.2⟩
  rcases hat with ⟨rfl, rfl⟩ | ⟨rfl, rfl⟩ | ⟨rfl, rfl⟩
  · exact key 0 (n.toNat, .inl (fun _ => Int32.ofInt 0)) rfl (fun _ => rfl) (fun cA => rfl) (fun cA h h' => Option.some.inj (Eq.trans (Eq.symm h) h'))
  · exact key 1 (n.toNat, .inl (fun _ => Int32.ofInt 0)) rfl (fun _ => rfl) (fun cA => rfl) (fun cA h h' => Option.some.inj (Eq.trans (Eq.symm h) h'))
  · exact key 2 (n.toNat, .inr (.inl (fun _ => Int64.ofInt 0))) rfl (fun _ => rfl) (fun cA => rfl) (fun cA h h' => Option.some.inj (Eq.trans (Eq.symm h) h'))
theorem a_anew (C : zCX X cc nL own nm rm) (hcl : Cond.classLink own idx "ClosedFeuds$Feud" ∈ TB) (hd : decode cc pc = .ok (.anewarray idx, 3)) {n : Int} (hn0 : 0 ≤ n ∧ n ≤ 100000) (hn : S.length < 999999) (hc : nc + 1 ≤ rm.cells) (hs : ns + n.toNat ≤ rm.slots) (kk : zW X (S ++ [(16, n, fun _ => none)]) (vrow V S.length (fun _ => 0)) (nc + 1) (ns + n.toNat) al (zR S.length :: st) (pc + 3)) : zW X S V nc ns al (zI n :: st) pc := by
  obtain ⟨p, l, e, R, s, m, args, below, meth, c, D, cy, A, Q, ad0, n0⟩ := X
  obtain ⟨hx, hb, hml, hown, hts, hlk, hK, hA, hR, -⟩ := C
  subst hR
  intro ad H locs ls hw hS hL ho
  refine va_newq hx hb hown (hts _ hcl) hK.2.2.2.2 hK.1 hw.1 hw.2.1 hS hA (z_neg hn0.1 (by omega)) (z_clamp hn0.1 (by omega)) (by omega) hc hs hd (fun q cA H1 hK1 hP1 hD1 hS1 => ?_)
  have e1 : cA = cy 3 := by
    obtain ⟨-, -, -, -, -, h⟩ := (hK1.2 4 (cA, .object "ClosedFeuds$Feud") rfl).2
    obtain ⟨-, -, -, -, -, h'⟩ := (hK.1.2 3 (cy 3, .object "ClosedFeuds$Feud") rfl).2
    exact Option.some.inj (h.symm.trans h')
  subst e1
  obtain ⟨ad', h1, h2⟩ := ext_ad (q := q) ad hn
  have he : cE ad' cy (fun _ => 0) (16, n, fun _ => none) = .inl (cy 3, n.toNat, .inr (.inr (.inr (.inr (fun _ => none))))) := rfl
  have hw' := z_grow (sc := (16, n, fun _ => none)) (f := fun _ => 0) hw h1 h2 (fun k r hr => by cases hr) (fun k => inC_0 _ _) (he.symm ▸ hP1) (he.symm ▸ hD1)
  have hlen : (S ++ [((16, n, fun _ => none) : zC)]).length = S.length + 1 := by simp
  have hle : S.length ≤ (S ++ [((16, n, fun _ => none) : zC)]).length := by omega
  have hst : (zR S.length :: st).map (cvv ad') = .ref q :: st.map (cvv ad) := by
    rw [List.map_cons, cvv_map h1 (okst_mem ho.2)]
    exact congrArg (fun z => Value.ref z :: st.map (cvv ad)) h2
  rw [← hst]
  exact kk ad' H1 locs ls hw' hS1 (zLR_to hle h1 hL) ⟨Or.inl (by omega), okst_mono hle ho.2⟩
/-- a feud is put into its row -/
theorem a_aast (C : zCX X cc nL own nm rm) {n i w0 : Int} {rf rf2 : Nat → Option Nat} {r : Nat} (hs : S[o]? = some (16, n, rf)) (hr : S[r]? = some (tag, w0, rf2)) (htag : tag = 0 ∨ tag = 2 ∨ tag = 3 ∨ tag = 5 ∨ tag = 9) (hd : decode cc pc = .ok (.aastore, 1)) (hn : n ≤ 2147483647) (h : 0 ≤ i ∧ i < n) (kk : zW X (S.set o (16, n, va_up rf i.toNat (some r))) V nc ns al st (pc + 1)) : zW X S V nc ns al (zR r :: zI i :: zR o :: st) pc := by
  obtain ⟨p, l, e, R, s, m, args, below, meth, c, D, cy, A, Q, ad0, n0⟩ := X
  obtain ⟨hx, hb, hml, hown, hts, hlk, hK, -⟩ := C
  intro ad H locs ls hw hS hL ho
  have hrl : r < S.length := (List.getElem?_eq_some_iff.mp hr).1
  have cont : ∀ (H1 : Heap) (locs1 : List Loc), va_P D vwCl ((wsW ad cy S V).set o (ad o, .inl (cy 3, n.toNat, .inr (.inr (.inr (.inr (va_up (fun j => (rf j).map ad) (Int32.ofInt i).toNatClampNeg (some (ad r))))))))) H1 → va_D A ((wsW ad cy S V).set o (ad o, .inl (cy 3, n.toNat, .inr (.inr (.inr (.inr (va_up (fun j => (rf j).map ad) (Int32.ofInt i).toNatClampNeg (some (ad r))))))))) → va_S A s.heap H1 locs1 → W p l e R s m args below meth c H1 locs1 nc ns Q (F0 m (pc + 1) ls (st.map (cvv ad))) := by
    intro H1 locs1 hP1 hD1 hS1
    rw [z_clamp h.1 (by omega)] at hP1 hD1
    have hws : (wsW ad cy S V).set o (ad o, .inl (cy 3, n.toNat, .inr (.inr (.inr (.inr (va_up (fun j => (rf j).map ad) i.toNat (some (ad r)))))))) = wsW ad cy (S.set o (16, n, va_up rf i.toNat (some r))) V := by
      rw [← wsW_set (V' := V) hs (fun c' hc => rfl)]
      have e1 : (va_up (fun j => (rf j).map ad) i.toNat (some (ad r))) = (fun j => (va_up rf i.toNat (some r) j).map ad) := by
        funext j
        by_cases hj : j = i.toNat <;> simp [va_up, hj]
      rw [e1]
      rfl
    rw [hws] at hP1 hD1
    have hlen : (S.set o (16, n, va_up rf i.toNat (some r))).length = S.length := List.length_set
    refine kk ad H1 locs1 ls ⟨hP1, hD1, okS_set hw.2.2.1 (fun j q hj => ?_), inV_shape hw.2.2.2.1 hs rfl, by rw [hlen]; exact hw.2.2.2.2.1, hw.2.2.2.2.2⟩ hS1 (by rw [hlen]; exact hL) (by rw [hlen]; exact ho.2.2.2)
    by_cases hjk : j = i.toNat
    · subst hjk
      simp [va_up] at hj
      omega
    · simp [va_up, hjk] at hj
      exact hw.2.2.1 o _ hs j q hj
  have hv := wsW_at (ad := ad) (cy := cy) (V := V) hr
  have ha := wsW_at (ad := ad) (cy := cy) (V := V) hs
  rcases htag with rfl | rfl | rfl | rfl | rfl
  · exact va_astqO hx hb hK.1 hw.1 hw.2.1 hS o 3 r 0 (E := "ClosedFeuds$Feud") (r := (RX0, TX0, 1)) ha rfl (hK.2.2.1 ("ClosedFeuds$Boundary", "ClosedFeuds$Feud") (by simp [zCast])) hv rfl (z_in h.1 h.2 hn) hd cont
  · exact va_astq hx hb hK.1 hw.1 hw.2.1 hS o 3 r 2 (r := (RX2, TX2, 1)) ha rfl hv rfl (z_in h.1 h.2 hn) hd cont
  · exact va_astqO hx hb hK.1 hw.1 hw.2.1 hS o 3 r 3 (E := "ClosedFeuds$Feud") (r := (RX3, TX3, 1)) ha rfl (hK.2.2.1 ("ClosedFeuds$Grudge", "ClosedFeuds$Feud") (by simp [zCast])) hv rfl (z_in h.1 h.2 hn) hd cont
  · exact va_astqO hx hb hK.1 hw.1 hw.2.1 hS o 3 r 5 (E := "ClosedFeuds$Feud") (r := (RX5, TX5, 1)) ha rfl (hK.2.2.1 ("ClosedFeuds$Joke", "ClosedFeuds$Feud") (by simp [zCast])) hv rfl (z_in h.1 h.2 hn) hd cont
  · exact va_astqO hx hb hK.1 hw.1 hw.2.1 hS o 3 r 9 (E := "ClosedFeuds$Feud") (r := (RX9, TX9, 1)) ha rfl (hK.2.2.1 ("ClosedFeuds$Pig", "ClosedFeuds$Feud") (by simp [zCast])) hv rfl (z_in h.1 h.2 hn) hd cont
/-! ends -/
theorem a_iret (C : zCX X cc nL own nm rm) {post : Option zA → List zC → zV → Prop} {mc ms : Nat} (E : zRX X (some .int) post mc ms) (hd : decode cc pc = .ok (.ireturn, 1)) (hc : nc ≤ mc) (hs : ns ≤ ms) {x : Int} (h : post (some (zI x)) S V) : zW X S V nc ns al [zI x] pc := by
  obtain ⟨p, l, e, R, s, m, args, below, meth, c, D, cy, A, Q, ad0, n0⟩ := X
  obtain ⟨hx, hb, hml, hown, hts, hlk, hK, hA, hR, -⟩ := C
  obtain ⟨hr, rfl⟩ := E
  intro ad H locs ls hw hS hL ho
  refine W.widen hc hs ?_
  exact W.iret hx hb hr (fun t ht hW => ⟨⟨some (zI x), ad, S, V, rfl, h, fun v hv => by cases hv; trivial, ht ▸ hw⟩, hS.F ht⟩) (fun q hq => hS.2.2 q hq) hd hlk
theorem a_zret (C : zCX X cc nL own nm rm) {post : Option zA → List zC → zV → Prop} {mc ms : Nat} (E : zRX X (some .boolean) post mc ms) (hd : decode cc pc = .ok (.ireturn, 1)) (hc : nc ≤ mc) (hs : ns ≤ ms) {x : Int} (hx01 : x = 0 ∨ x = 1) (h : post (some (zI x)) S V) : zW X S V nc ns al [zI x] pc := by
  obtain ⟨p, l, e, R, s, m, args, below, meth, c, D, cy, A, Q, ad0, n0⟩ := X
  obtain ⟨hx, hb, hml, hown, hts, hlk, hK, hA, hR, -⟩ := C
  obtain ⟨hr, rfl⟩ := E
  intro ad H locs ls hw hS hL ho
  refine W.widen hc hs ?_
  exact W.zret hx hb hr (by rcases hx01 with rfl | rfl <;> rfl) (fun t ht hW => ⟨⟨some (zI x), ad, S, V, rfl, h, fun v hv => by cases hv; trivial, ht ▸ hw⟩, hS.F ht⟩) (fun q hq => hS.2.2 q hq) hd hlk
theorem a_lret (C : zCX X cc nL own nm rm) {post : Option zA → List zC → zV → Prop} {mc ms : Nat} (E : zRX X (some .long) post mc ms) (hd : decode cc pc = .ok (.lreturn, 1)) (hc : nc ≤ mc) (hs : ns ≤ ms) {x : Int} (h : post (some (zJ x)) S V) : zW X S V nc ns al [zJ x] pc := by
  obtain ⟨p, l, e, R, s, m, args, below, meth, c, D, cy, A, Q, ad0, n0⟩ := X
  obtain ⟨hx, hb, hml, hown, hts, hlk, hK, hA, hR, -⟩ := C
  obtain ⟨hr, rfl⟩ := E
  intro ad H locs ls hw hS hL ho
  refine W.widen hc hs ?_
  exact W.lret hx hb hr (fun t ht hW => ⟨⟨some (zJ x), ad, S, V, rfl, h, fun v hv => by cases hv; trivial, ht ▸ hw⟩, hS.F ht⟩) (fun q hq => hS.2.2 q hq) hd hlk
theorem a_aret (C : zCX X cc nL own nm rm) {post : Option zA → List zC → zV → Prop} {mc ms : Nat} {cn : String} (E : zRX X (some (.object cn)) post mc ms) (hd : decode cc pc = .ok (.areturn, 1)) (hc : nc ≤ mc) (hs : ns ≤ ms) {x : Nat} (h : post (some (zR x)) S V) : zW X S V nc ns al [zR x] pc := by
  obtain ⟨p, l, e, R, s, m, args, below, meth, c, D, cy, A, Q, ad0, n0⟩ := X
  obtain ⟨hx, hb, hml, hown, hts, hlk, hK, hA, hR, -⟩ := C
  obtain ⟨hr, rfl⟩ := E
  intro ad H locs ls hw hS hL ho
  refine W.widen hc hs ?_
  exact W.aret hx hb hr (Or.inl ⟨_, rfl⟩) (Or.inr ⟨_, rfl⟩) (fun t ht hW => ⟨⟨some (zR x), ad, S, V, rfl, h, fun v hv => by cases hv; exact ho.1, ht ▸ hw⟩, hS.F ht⟩) (fun q hq => hS.2.2 q hq) hd hlk
theorem a_vret (C : zCX X cc nL own nm rm) {post : Option zA → List zC → zV → Prop} {mc ms : Nat} (E : zRX X none post mc ms) (hd : decode cc pc = .ok (.return_, 1)) (hc : nc ≤ mc) (hs : ns ≤ ms) (h : post none S V) : zW X S V nc ns al [] pc := by
  obtain ⟨p, l, e, R, s, m, args, below, meth, c, D, cy, A, Q, ad0, n0⟩ := X
  obtain ⟨hx, hb, hml, hown, hts, hlk, hK, hA, hR, -⟩ := C
  obtain ⟨hr, rfl⟩ := E
  intro ad H locs ls hw hS hL ho
  refine W.widen hc hs ?_
  exact W.vret hx hb hr (fun t ht hW => ⟨⟨none, ad, S, V, rfl, h, (fun v hv => by cases hv), ht ▸ hw⟩, hS.F ht⟩) (fun q hq => hS.2.2 q hq) hd hlk
/-! constants of the pool; the library's small methods -/
theorem a_ldc2 (C : zCX X cc nL own nm rm) {v : Int} (hc : Cond.constantLong own idx (Int64.ofInt v) ∈ TB) (hd : decode cc pc = .ok (.ldc2_w idx, 3)) (k : zW X S V nc ns al (zJ v :: st) (pc + 3)) : zW X S V nc ns al st pc := by
  obtain ⟨p, l, e, R, s, m, args, below, meth, c, D, cy, A, Q, ad0, n0⟩ := X
  obtain ⟨hx, hb, hml, hown, hts, -⟩ := C
  intro ad H locs ls hw hS hL ho
  exact lv_ldc2 hx hb hown (hts _ hc) hd (k ad H locs ls hw hS hL ⟨trivial, ho⟩)
theorem a_ldc (C : zCX X cc nL own nm rm) {v : Int} (hc : Cond.constant own idx (Int32.ofInt v) ∈ TB) (hd : decode cc pc = .ok (.ldc idx, 2)) (k : zW X S V nc ns al (zI v :: st) (pc + 2)) : zW X S V nc ns al st pc := by
  obtain ⟨p, l, e, R, s, m, args, below, meth, c, D, cy, A, Q, ad0, n0⟩ := X
  obtain ⟨hx, hb, hml, hown, hts, -⟩ := C
  intro ad H locs ls hw hS hL ho
  exact lv_ldc hx hb hown (hts _ hc) hd (k ad H locs ls hw hS hL ⟨trivial, ho⟩)
theorem a_objInit (C : zCX X cc nL own nm rm) (h1 : Cond.methodLink own idx Lib.objectInit ∈ TB) (h2 : Cond.instanceMethod Lib.objectInit ∈ TB) (h3 : Cond.code Lib.objectInit ⟨#[0xb1]⟩ 1 none ∈ TB) (hd : decode cc pc = .ok (.invokespecial idx, 3)) (hf : 1 ≤ rm.frames) (hl : 12 ≤ rm.locals) (k : zW X S V nc ns al [] (pc + 3)) : zW X S V nc ns al [zR o] pc := by
  obtain ⟨p, l, e, R, s, m, args, below, meth, c, D, cy, A, Q, ad0, n0⟩ := X
  obtain ⟨hx, hb, hml, hown, hts, hlk, hK, hA, hR, -⟩ := C
  subst hR
  intro ad H locs ls hw hS hL ho
  exact W.objInit hx hb hown (hts _ h1) (hts _ h2) (hts _ h3) rfl hL.1 rfl hd hf hl (k ad H locs ls hw hS hL trivial)
end ZN
