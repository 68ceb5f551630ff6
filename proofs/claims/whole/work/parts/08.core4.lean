/-! ===== fields and arrays ===== -/
def zF (own : String) (idx tag k : Nat) (ty : FieldType) (fin : Bool) : Prop := ∃ (C : String) (T : u_T) (N : Nat) (ty0 : Nat → FieldType), vwCl[tag]? = some (C, T, N) ∧ (∀ w ∈ u_ws C T N, w ∈ TB) ∧ k < N ∧ Cond.fieldLink own idx (T k).1 (T k).2.1 (T k).2.2.1 ∈ TB ∧ (∀ k, k < N → parseFieldDescriptor (T k).2.2.1 = some (ty0 k)) ∧ (∀ a, a < N → ∀ b, b < N → a ≠ b → (T a).2.1 ≠ (T b).2.1) ∧ ty0 k = ty ∧ (T k).2.2.2 = fin ∧ (fkt tag).length = N ∧ tag < 13
theorem cE_obj {ad : Nat → Nat} {cy : Nat → ClassId} {f : Nat → Int} {sc : zC} (h : sc.1 < 13) : cE ad cy f sc = .inr (sc.1, fvals ad f sc) := if_pos h
theorem fvals_at {ad : Nat → Nat} {f : Nat → Int} {sc : zC} {k kd : Nat} (h : (fkt sc.1)[k]? = some kd) : (fvals ad f sc)[k]? = some (fval ad f sc kd k) := by
  unfold fvals
  rw [List.getElem?_mapIdx, h]
  rfl
theorem fvals_len (ad : Nat → Nat) (f : Nat → Int) (sc : zC) : (fvals ad f sc).length = (fkt sc.1).length := by simp [fvals]
theorem fvals_set {ad : Nat → Nat} {f f' : Nat → Int} {sc sc' : zC} {k kd : Nat} {v : Value} (ht : sc'.1 = sc.1) (h : (fkt sc.1)[k]? = some kd) (hv : fval ad f' sc' kd k = v) (ho : ∀ j kj, (fkt sc.1)[j]? = some kj → j ≠ k → fval ad f' sc' kj j = fval ad f sc kj j) : (fvals ad f sc).set k v = fvals ad f' sc' := by
  have hl := (List.getElem?_eq_some_iff.mp h).1
  apply List.ext_getElem?
  intro j
  by_cases hj : j = k
  · subst hj
    rw [List.getElem?_set_self (by rw [fvals_len]; exact hl), fvals_at (kd := kd) (by rw [ht]; exact h), hv]
  · rw [List.getElem?_set_ne (Ne.symm hj)]
    unfold fvals
    rw [List.getElem?_mapIdx, List.getElem?_mapIdx, ht]
    cases hk : (fkt sc.1)[j]? with
    | none => rfl
    | some kj => rw [Option.map_some, Option.map_some, ho j kj hk hj]
theorem inC_int {t k : Nat} {x : Int} (ht : t < 13) (hk : (fkt t)[k]? = some 0) : inC t k x ↔ inR x := by
  have h1 : ¬ (t = 15 ∨ (t = 7 ∧ k = 1) ∨ (t = 12 ∧ k = 25)) := by
    rintro (h | ⟨h, h'⟩ | ⟨h, h'⟩)
    · omega
    · subst h; subst h'; exact absurd hk (by decide)
    · subst h; subst h'; exact absurd hk (by decide)
  unfold inC
  rw [if_neg h1, if_neg (by omega)]
theorem inC_long {t k : Nat} {x : Int} (ht : t < 13) (hk : (fkt t)[k]? = some 1) : inC t k x ↔ inL x := by
  have h1 : t = 15 ∨ (t = 7 ∧ k = 1) ∨ (t = 12 ∧ k = 25) := by
    rcases (show t = 0 ∨ t = 1 ∨ t = 2 ∨ t = 3 ∨ t = 4 ∨ t = 5 ∨ t = 6 ∨ t = 7 ∨ t = 8 ∨ t = 9 ∨ t = 10 ∨ t = 11 ∨ t = 12 by omega) with rfl | rfl | rfl | rfl | rfl | rfl | rfl | rfl | rfl | rfl | rfl | rfl | rfl
    all_goals
      have hl := (List.getElem?_eq_some_iff.mp hk).1
      revert hk
      revert hl
      revert k
      decide
  unfold inC
  rw [if_pos h1]
section ZF
variable {X : zM} {cc : ByteArray} {nL : Nat} {own nm : String} {rm : Room} {S : List zC} {V : zV} {nc ns pc : Nat} {al : List (Option zA)} {st : List zA} {idx tag k o : Nat} {ty : FieldType} {fin : Bool} {w : Int} {rf : Nat → Option Nat}
theorem a_getI (C : zCX X cc nL own nm rm) (F : zF own idx tag k ty fin) (hs : S[o]? = some (tag, w, rf)) (hk : (fkt tag)[k]? = some 0) (hd : decode cc pc = .ok (.getfield idx, 3)) (kk : inR (V o k) → zW X S V nc ns al (zI (V o k) :: st) (pc + 3)) : zW X S V nc ns al (zR o :: st) pc := by
  obtain ⟨p, l, e, R, s, m, args, below, meth, c, D, cy, A, Q, ad0, n0⟩ := X
  obtain ⟨hx, hb, hml, hown, hts, hlk, hK, -⟩ := C
  obtain ⟨Cn, T, N, ty0, f1, f2, f3, f4, f5, f6, f7, f8, f9, f10⟩ := F
  intro ad H locs ls hw hS hL ho
  have he := wsW_at (ad := ad) (cy := cy) (V := V) hs
  rw [cE_obj f10] at he
  have hv : fval ad (V o) (tag, w, rf) 0 k = .int (Int32.ofInt (V o k)) := rfl
  exact va_get hx hb hts f2 hown hK.1 hw.1 o he f1 k f3 (hts _ f4) (fun _ q => q) (fvals_at (sc := (tag, w, rf)) hk) hd (kk ((inC_int f10 hk).mp (hw.2.2.2.1 o _ hs k)) ad H locs ls hw hS hL ⟨trivial, ho.2⟩)
theorem a_getJ (C : zCX X cc nL own nm rm) (F : zF own idx tag k ty fin) (hs : S[o]? = some (tag, w, rf)) (hk : (fkt tag)[k]? = some 1) (hd : decode cc pc = .ok (.getfield idx, 3)) (kk : inL (V o k) → zW X S V nc ns al (zJ (V o k) :: st) (pc + 3)) : zW X S V nc ns al (zR o :: st) pc := by
  obtain ⟨p, l, e, R, s, m, args, below, meth, c, D, cy, A, Q, ad0, n0⟩ := X
  obtain ⟨hx, hb, hml, hown, hts, hlk, hK, -⟩ := C
  obtain ⟨Cn, T, N, ty0, f1, f2, f3, f4, f5, f6, f7, f8, f9, f10⟩ := F
  intro ad H locs ls hw hS hL ho
  have he := wsW_at (ad := ad) (cy := cy) (V := V) hs
  rw [cE_obj f10] at he
  exact va_get hx hb hts f2 hown hK.1 hw.1 o he f1 k f3 (hts _ f4) (fun _ q => q) (fvals_at (sc := (tag, w, rf)) hk) hd (kk ((inC_long f10 hk).mp (hw.2.2.2.1 o _ hs k)) ad H locs ls hw hS hL ⟨trivial, ho.2⟩)
theorem a_getR (C : zCX X cc nL own nm rm) (F : zF own idx tag k ty fin) (hs : S[o]? = some (tag, w, rf)) (hk : (fkt tag)[k]? = some 2) {r : Nat} (hr : rf k = some r) (hd : decode cc pc = .ok (.getfield idx, 3)) (kk : zW X S V nc ns al (zR r :: st) (pc + 3)) : zW X S V nc ns al (zR o :: st) pc := by
  obtain ⟨p, l, e, R, s, m, args, below, meth, c, D, cy, A, Q, ad0, n0⟩ := X
  obtain ⟨hx, hb, hml, hown, hts, hlk, hK, -⟩ := C
  obtain ⟨Cn, T, N, ty0, f1, f2, f3, f4, f5, f6, f7, f8, f9, f10⟩ := F
  intro ad H locs ls hw hS hL ho
  have he := wsW_at (ad := ad) (cy := cy) (V := V) hs
  rw [cE_obj f10] at he
  have hv : fval ad (V o) (tag, w, rf) 2 k = .ref (ad r) := by
    show va_rf ((rf k).map ad) = _
    rw [hr]
    rfl
  exact va_get hx hb hts f2 hown hK.1 hw.1 o he f1 k f3 (hts _ f4) (fun _ q => q) ((fvals_at (sc := (tag, w, rf)) hk).trans (congrArg some hv)) hd (kk ad H locs ls hw hS hL ⟨Or.inl (hw.2.2.1 o _ hs k r hr), ho.2⟩)
/-- a feud's worth -/
theorem a_getW (C : zCX X cc nL own nm rm) (F : zF own idx tag k ty fin) (hs : S[o]? = some (tag, w, rf)) (hk : (fkt tag)[k]? = some 3) (hd : decode cc pc = .ok (.getfield idx, 3)) (kk : zW X S V nc ns al (zI w :: st) (pc + 3)) : zW X S V nc ns al (zR o :: st) pc := by
  obtain ⟨p, l, e, R, s, m, args, below, meth, c, D, cy, A, Q, ad0, n0⟩ := X
  obtain ⟨hx, hb, hml, hown, hts, hlk, hK, -⟩ := C
  obtain ⟨Cn, T, N, ty0, f1, f2, f3, f4, f5, f6, f7, f8, f9, f10⟩ := F
  intro ad H locs ls hw hS hL ho
  have he := wsW_at (ad := ad) (cy := cy) (V := V) hs
  rw [cE_obj f10] at he
  exact va_get hx hb hts f2 hown hK.1 hw.1 o he f1 k f3 (hts _ f4) (fun _ q => q) (fvals_at (sc := (tag, w, rf)) hk) hd (kk ad H locs ls hw hS hL ⟨trivial, ho.2⟩)
theorem a_putI (C : zCX X cc nL own nm rm) (F : zF own idx tag k ty false) (hty : ty = .int ∨ ty = .boolean) (hs : S[o]? = some (tag, w, rf)) (hk : (fkt tag)[k]? = some 0) (hd : decode cc pc = .ok (.putfield idx, 3)) {x : Int} (h : inR x ∧ (ty = .boolean → x = 0 ∨ x = 1)) (kk : zW X S (vset V o k x) nc ns al st (pc + 3)) : zW X S V nc ns al (zI x :: zR o :: st) pc := by
  obtain ⟨p, l, e, R, s, m, args, below, meth, c, D, cy, A, Q, ad0, n0⟩ := X
  obtain ⟨hx, hb, hml, hown, hts, hlk, hK, -⟩ := C
  obtain ⟨Cn, T, N, ty0, f1, f2, f3, f4, f5, f6, f7, f8, f9, f10⟩ := F
  intro ad H locs ls hw hS hL ho
  have he := wsW_at (ad := ad) (cy := cy) (V := V) hs
  rw [cE_obj f10] at he
  have hset : (fvals ad (V o) (tag, w, rf)).set k (.int (Int32.ofInt x)) = fvals ad (ups (V o) k x) (tag, w, rf) := by
    refine fvals_set rfl hk ?_ (fun j kj _ hj => ?_)
    · show Value.int (Int32.ofInt (ups (V o) k x k)) = _
      rw [ups_s]
    · unfold fval
      rw [ups_n hj]
  have hd0 : parseFieldDescriptor (T k).2.2.1 = some ty := by rw [f5 k f3, f7]
  have hnar : narrow ty (.int (Int32.ofInt x)) = .int (Int32.ofInt x) := by
    rcases hty with rfl | rfl
    · rfl
    · rcases h.2 rfl with rfl | rfl <;> rfl
  have hfit : fits ty (.int (Int32.ofInt x)) = true := by
    rcases hty with rfl | rfl
    · rfl
    · rcases h.2 rfl with rfl | rfl <;> rfl
  refine va_put hx hb hts f2 ty0 f5 f6 hown hK.1 hw.1 hw.2.1 hS o he f1 k f3 (hts _ f4) (fun _ q => q) f8 hd0 hnar hfit (by rw [fvals_len, f9]; exact f3) hd (fun H1 locs1 hP1 hD1 hS1 => ?_)
  have hws : (wsW ad cy S V).set o (ad o, .inr (tag, (fvals ad (V o) (tag, w, rf)).set k (.int (Int32.ofInt x)))) = wsW ad cy S (vset V o k x) := by
    rw [hset, ← wsW_setV (V' := vset V o k x) hs (fun c' hc => vrow_n hc), cE_obj f10, show vset V o k x o = ups (V o) k x from vrow_s _ _ _]
  have hP1 := (congrArg (fun z => va_P D vwCl z H1) hws).mp hP1
  have hD1 := (congrArg (fun z => va_D A z) hws).mp hD1
  exact kk ad H1 locs1 ls ⟨hP1, hD1, hw.2.2.1, inV_set hw.2.2.2.1 hs ((inC_int f10 hk).mpr h.1), hw.2.2.2.2⟩ hS1 hL ho.2.2
theorem a_putJ (C : zCX X cc nL own nm rm) (F : zF own idx tag k .long false) (hs : S[o]? = some (tag, w, rf)) (hk : (fkt tag)[k]? = some 1) (hd : decode cc pc = .ok (.putfield idx, 3)) {x : Int} (h : inL x) (kk : zW X S (vset V o k x) nc ns al st (pc + 3)) : zW X S V nc ns al (zJ x :: zR o :: st) pc := by
  obtain ⟨p, l, e, R, s, m, args, below, meth, c, D, cy, A, Q, ad0, n0⟩ := X
  obtain ⟨hx, hb, hml, hown, hts, hlk, hK, -⟩ := C
  obtain ⟨Cn, T, N, ty0, f1, f2, f3, f4, f5, f6, f7, f8, f9, f10⟩ := F
  intro ad H locs ls hw hS hL ho
  have he := wsW_at (ad := ad) (cy := cy) (V := V) hs
  rw [cE_obj f10] at he
  have hset : (fvals ad (V o) (tag, w, rf)).set k (.long (Int64.ofInt x)) = fvals ad (ups (V o) k x) (tag, w, rf) := by
    refine fvals_set rfl hk ?_ (fun j kj _ hj => ?_)
    · show Value.long (Int64.ofInt (ups (V o) k x k)) = _
      rw [ups_s]
    · unfold fval
      rw [ups_n hj]
  have hd0 : parseFieldDescriptor (T k).2.2.1 = some .long := by rw [f5 k f3, f7]
  refine va_put hx hb hts f2 ty0 f5 f6 hown hK.1 hw.1 hw.2.1 hS o he f1 k f3 (hts _ f4) (fun _ q => q) f8 hd0 rfl rfl (by rw [fvals_len, f9]; exact f3) hd (fun H1 locs1 hP1 hD1 hS1 => ?_)
  have hws : (wsW ad cy S V).set o (ad o, .inr (tag, (fvals ad (V o) (tag, w, rf)).set k (.long (Int64.ofInt x)))) = wsW ad cy S (vset V o k x) := by
    rw [hset, ← wsW_setV (V' := vset V o k x) hs (fun c' hc => vrow_n hc), cE_obj f10, show vset V o k x o = ups (V o) k x from vrow_s _ _ _]
  have hP1 := (congrArg (fun z => va_P D vwCl z H1) hws).mp hP1
  have hD1 := (congrArg (fun z => va_D A z) hws).mp hD1
  exact kk ad H1 locs1 ls ⟨hP1, hD1, hw.2.2.1, inV_set hw.2.2.2.1 hs ((inC_long f10 hk).mpr h), hw.2.2.2.2⟩ hS1 hL ho.2.2
/-- a final reference field, in its constructor -/
theorem a_putR (C : zCX X cc nL own "<init>" rm) (F : zF own idx tag k ty true) (hc0 : ∃ T N, vwCl[tag]? = some (own, T, N) ∧ (T k).1 = own) (hty : (∃ n, ty = .object n) ∨ ∃ t, ty = .array t) (hs : S[o]? = some (tag, w, rf)) (hk : (fkt tag)[k]? = some 2) (hd : decode cc pc = .ok (.putfield idx, 3)) {r : Nat} (hr : r < S.length) (kk : zW X (S.set o (tag, w, va_up rf k (some r))) V nc ns al st (pc + 3)) : zW X S V nc ns al (zR r :: zR o :: st) pc := by
  obtain ⟨p, l, e, R, s, m, args, below, meth, c, D, cy, A, Q, ad0, n0⟩ := X
  obtain ⟨hx, hb, hml, hown, hts, hlk, hK, -, -, hnm⟩ := C
  obtain ⟨Cn, T, N, ty0, f1, f2, f3, f4, f5, f6, f7, f8, f9, f10⟩ := F
  obtain ⟨T', N', g1, g2⟩ := hc0
  cases f1.symm.trans g1
  intro ad H locs ls hw hS hL ho
  have he := wsW_at (ad := ad) (cy := cy) (V := V) hs
  rw [cE_obj f10] at he
  have hset : (fvals ad (V o) (tag, w, rf)).set k (.ref (ad r)) = fvals ad (V o) (tag, w, va_up rf k (some r)) := by
    refine fvals_set rfl hk ?_ (fun j kj _ hj => ?_)
    · show va_rf ((va_up rf k (some r) k).map ad) = _
      simp [va_up, va_rf]
    · unfold fval
      simp [va_up, hj]
  have hd0 : parseFieldDescriptor (T k).2.2.1 = some ty := by rw [f5 k f3, f7]
  have hnar : narrow ty (.ref (ad r)) = .ref (ad r) := by rcases hty with ⟨n, rfl⟩ | ⟨t, rfl⟩ <;> rfl
  have hfit : fits ty (.ref (ad r)) = true := by rcases hty with ⟨n, rfl⟩ | ⟨t, rfl⟩ <;> rfl
  refine va_putF hx hb hts f2 ty0 f5 f6 hown hK.1 hw.1 hw.2.1 hS o he f1 k f3 (hts _ f4) (fun _ q => q) f8 hnm g2 hd0 hnar hfit (by rw [fvals_len, f9]; exact f3) hd (fun H1 locs1 hP1 hD1 hS1 => ?_)
  have hws : (wsW ad cy S V).set o (ad o, .inr (tag, (fvals ad (V o) (tag, w, rf)).set k (.ref (ad r)))) = wsW ad cy (S.set o (tag, w, va_up rf k (some r))) V := by
    rw [hset, ← wsW_set (V' := V) hs (fun c' hc => rfl), cE_obj f10]
  have hP1 := (congrArg (fun z => va_P D vwCl z H1) hws).mp hP1
  have hD1 := (congrArg (fun z => va_D A z) hws).mp hD1
  have hlen : (S.set o (tag, w, va_up rf k (some r))).length = S.length := List.length_set
  refine kk ad H1 locs1 ls ⟨hP1, hD1, okS_set hw.2.2.1 (fun j q hj => ?_), inV_shape hw.2.2.2.1 hs rfl, by rw [hlen]; exact hw.2.2.2.2.1, hw.2.2.2.2.2⟩ hS1 (by rw [hlen]; exact hL) (by rw [hlen]; exact ho.2.2)
  by_cases hjk : j = k
  · subst hjk
    simp [va_up] at hj
    omega
  · simp [va_up, hjk] at hj
    exact hw.2.2.1 o _ hs j q hj
/-- a feud's worth, in its constructor -/
theorem a_putW (C : zCX X cc nL own "<init>" rm) (F : zF own idx tag k .int true) (hc0 : ∃ C' T N, vwCl[tag]? = some (C', T, N) ∧ (T k).1 = own) (hs : S[o]? = some (tag, w, rf)) (hk : (fkt tag)[k]? = some 3) (hk0 : fkt tag = [3]) (hd : decode cc pc = .ok (.putfield idx, 3)) {x : Int} (kk : zW X (S.set o (tag, x, rf)) V nc ns al st (pc + 3)) : zW X S V nc ns al (zI x :: zR o :: st) pc := by
  obtain ⟨p, l, e, R, s, m, args, below, meth, c, D, cy, A, Q, ad0, n0⟩ := X
  obtain ⟨hx, hb, hml, hown, hts, hlk, hK, -, -, hnm⟩ := C
  obtain ⟨Cn, T, N, ty0, f1, f2, f3, f4, f5, f6, f7, f8, f9, f10⟩ := F
  obtain ⟨C', T', N', g1, g2⟩ := hc0
  cases f1.symm.trans g1
  intro ad H locs ls hw hS hL ho
  have he := wsW_at (ad := ad) (cy := cy) (V := V) hs
  rw [cE_obj f10] at he
  have hset : (fvals ad (V o) (tag, w, rf)).set k (.int (Int32.ofInt x)) = fvals ad (V o) (tag, x, rf) := by
    refine fvals_set rfl hk rfl (fun j kj hj hjk => ?_)
    have e1 : (fkt tag)[j]? = some kj := hj
    have e2 := hk
    rw [hk0] at e1 e2
    have l1 := (List.getElem?_eq_some_iff.mp e1).1
    have l2 := (List.getElem?_eq_some_iff.mp e2).1
    simp at l1 l2
    omega
  have hd0 : parseFieldDescriptor (T k).2.2.1 = some .int := by rw [f5 k f3, f7]
  refine va_putF hx hb hts f2 ty0 f5 f6 hown hK.1 hw.1 hw.2.1 hS o he f1 k f3 (hts _ f4) (fun _ q => q) f8 hnm g2 hd0 rfl rfl (by rw [fvals_len, f9]; exact f3) hd (fun H1 locs1 hP1 hD1 hS1 => ?_)
  have hws : (wsW ad cy S V).set o (ad o, .inr (tag, (fvals ad (V o) (tag, w, rf)).set k (.int (Int32.ofInt x)))) = wsW ad cy (S.set o (tag, x, rf)) V := by
    rw [hset, ← wsW_set (V' := V) hs (fun c' hc => rfl), cE_obj f10]
  have hP1 := (congrArg (fun z => va_P D vwCl z H1) hws).mp hP1
  have hD1 := (congrArg (fun z => va_D A z) hws).mp hD1
  have hlen : (S.set o (tag, x, rf)).length = S.length := List.length_set
  exact kk ad H1 locs1 ls ⟨hP1, hD1, okS_set hw.2.2.1 (fun j q hj => hw.2.2.1 o _ hs j q hj), inV_shape hw.2.2.2.1 hs rfl, by rw [hlen]; exact hw.2.2.2.2.1, hw.2.2.2.2.2⟩ hS1 (by rw [hlen]; exact hL) (by rw [hlen]; exact ho.2.2)
/-! arrays -/
theorem a_iald (C : zCX X cc nL own nm rm) {n i : Int} (hs : S[o]? = some (13, n, rf)) (hd : decode cc pc = .ok (.iaload, 1)) (hn : n ≤ 2147483647) (h : 0 ≤ i ∧ i < n) (kk : inR (V o i.toNat) → zW X S V nc ns al (zI (V o i.toNat) :: st) (pc + 1)) : zW X S V nc ns al (zI i :: zR o :: st) pc := by
  obtain ⟨p, l, e, R, s, m, args, below, meth, c, D, cy, A, Q, ad0, n0⟩ := X
  obtain ⟨hx, hb, hml, hown, hts, hlk, hK, -⟩ := C
  intro ad H locs ls hw hS hL ho
  refine va_iald hx hb hK.1 hw.1 o 0 (wsW_at (ad := ad) (cy := cy) (V := V) hs) rfl (z_in h.1 h.2 hn) hd ?_
  rw [z_clamp h.1 (by omega)]
  exact kk (hw.2.2.2.1 o _ hs i.toNat) ad H locs ls hw hS hL ⟨trivial, ho.2.2⟩
theorem a_zald (C : zCX X cc nL own nm rm) {n i : Int} (hs : S[o]? = some (14, n, rf)) (hd : decode cc pc = .ok (.baload, 1)) (hn : n ≤ 2147483647) (h : 0 ≤ i ∧ i < n) (kk : (V o i.toNat = 0 ∨ V o i.toNat = 1) → zW X S V nc ns al (zI (V o i.toNat) :: st) (pc + 1)) : zW X S V nc ns al (zI i :: zR o :: st) pc := by
  obtain ⟨p, l, e, R, s, m, args, below, meth, c, D, cy, A, Q, ad0, n0⟩ := X
  obtain ⟨hx, hb, hml, hown, hts, hlk, hK, -⟩ := C
  intro ad H locs ls hw hS hL ho
  refine va_zald hx hb hK.1 hw.1 o 1 (wsW_at (ad := ad) (cy := cy) (V := V) hs) rfl (z_in h.1 h.2 hn) hd ?_
  rw [z_clamp h.1 (by omega)]
  exact kk (hw.2.2.2.1 o _ hs i.toNat) ad H locs ls hw hS hL ⟨trivial, ho.2.2⟩
theorem a_lald (C : zCX X cc nL own nm rm) {n i : Int} (hs : S[o]? = some (15, n, rf)) (hd : decode cc pc = .ok (.laload, 1)) (hn : n ≤ 2147483647) (h : 0 ≤ i ∧ i < n) (kk : inL (V o i.toNat) → zW X S V nc ns al (zJ (V o i.toNat) :: st) (pc + 1)) : zW X S V nc ns al (zI i :: zR o :: st) pc := by
  obtain ⟨p, l, e, R, s, m, args, below, meth, c, D, cy, A, Q, ad0, n0⟩ := X
  obtain ⟨hx, hb, hml, hown, hts, hlk, hK, -⟩ := C
  intro ad H locs ls hw hS hL ho
  refine va_lald hx hb hK.1 hw.1 o 2 (wsW_at (ad := ad) (cy := cy) (V := V) hs) rfl (z_in h.1 h.2 hn) hd ?_
  rw [z_clamp h.1 (by omega)]
  exact kk (hw.2.2.2.1 o _ hs i.toNat) ad H locs ls hw hS hL ⟨trivial, ho.2.2⟩
theorem a_aald (C : zCX X cc nL own nm rm) {n i : Int} (hs : S[o]? = some (16, n, rf)) (hd : decode cc pc = .ok (.aaload, 1)) (hn : n ≤ 2147483647) (h : 0 ≤ i ∧ i < n) {r : Nat} (hr : rf i.toNat = some r) (kk : zW X S V nc ns al (zR r :: st) (pc + 1)) : zW X S V nc ns al (zI i :: zR o :: st) pc := by
  obtain ⟨p, l, e, R, s, m, args, below, meth, c, D, cy, A, Q, ad0, n0⟩ := X
  obtain ⟨hx, hb, hml, hown, hts, hlk, hK, -⟩ := C
  intro ad H locs ls hw hS hL ho
  refine va_aldq hx hb hK.1 hw.1 o 3 (wsW_at (ad := ad) (cy := cy) (V := V) hs) rfl (z_in h.1 h.2 hn) hd ?_
  rw [z_clamp h.1 (by omega)]
  have e1 : va_rf ((rf i.toNat).map ad) = .ref (ad r) := by rw [hr]; rfl
  show W _ _ _ _ _ _ _ _ _ _ _ _ _ _ _ (F0 _ _ _ (va_rf ((rf i.toNat).map ad) :: _))
  rw [e1]
  exact kk ad H locs ls hw hS hL ⟨Or.inl (hw.2.2.1 o _ hs _ r hr), ho.2.2⟩
theorem a_iast (C : zCX X cc nL own nm rm) {n i : Int} (hs : S[o]? = some (13, n, rf)) (hd : decode cc pc = .ok (.iastore, 1)) (hn : n ≤ 2147483647) {x : Int} (h : (0 ≤ i ∧ i < n) ∧ inR x) (kk : zW X S (vset V o i.toNat x) nc ns al st (pc + 1)) : zW X S V nc ns al (zI x :: zI i :: zR o :: st) pc := by
  obtain ⟨p, l, e, R, s, m, args, below, meth, c, D, cy, A, Q, ad0, n0⟩ := X
  obtain ⟨hx, hb, hml, hown, hts, hlk, hK, -⟩ := C
  intro ad H locs ls hw hS hL ho
  refine va_iast hx hb hK.1 hw.1 hw.2.1 hS o 0 (wsW_at (ad := ad) (cy := cy) (V := V) hs) rfl (z_in h.1.1 h.1.2 hn) hd (fun H1 locs1 hP1 hD1 hS1 => ?_)
  rw [z_clamp h.1.1 (by omega)] at hP1 hD1
  have hws : (wsW ad cy S V).set o (ad o, .inl (cy 0, n.toNat, .inl (upd (fun j => Int32.ofInt (V o j)) i.toNat (Int32.ofInt x)))) = wsW ad cy S (vset V o i.toNat x) := by
    rw [← wsW_setV (V' := vset V o i.toNat x) hs (fun c' hc => vrow_n hc), show vset V o i.toNat x o = ups (V o) i.toNat x from vrow_s _ _ _]
    have e1 : (upd (fun j => Int32.ofInt (V o j)) i.toNat (Int32.ofInt x)) = (fun j => Int32.ofInt (ups (V o) i.toNat x j)) := by
      funext j
      by_cases hj : j = i.toNat <;> simp [upd, ups, hj]
    rw [e1]
    rfl
  have hP1 := (congrArg (fun z => va_P D vwCl z H1) hws).mp hP1
  have hD1 := (congrArg (fun z => va_D A z) hws).mp hD1
  exact kk ad H1 locs1 ls ⟨hP1, hD1, hw.2.2.1, inV_set hw.2.2.2.1 hs h.2, hw.2.2.2.2⟩ hS1 hL ho.2.2.2
theorem a_zast (C : zCX X cc nL own nm rm) {n i : Int} (hs : S[o]? = some (14, n, rf)) (hd : decode cc pc = .ok (.bastore, 1)) (hn : n ≤ 2147483647) {x : Int} (h : (0 ≤ i ∧ i < n) ∧ (x = 0 ∨ x = 1)) (kk : zW X S (vset V o i.toNat x) nc ns al st (pc + 1)) : zW X S V nc ns al (zI x :: zI i :: zR o :: st) pc := by
  obtain ⟨p, l, e, R, s, m, args, below, meth, c, D, cy, A, Q, ad0, n0⟩ := X
  obtain ⟨hx, hb, hml, hown, hts, hlk, hK, -⟩ := C
  intro ad H locs ls hw hS hL ho
  refine va_zast hx hb hK.1 hw.1 hw.2.1 hS o 1 (wsW_at (ad := ad) (cy := cy) (V := V) hs) rfl (z_in h.1.1 h.1.2 hn) hd (fun H1 locs1 hP1 hD1 hS1 => ?_)
  rw [z_clamp h.1.1 (by omega)] at hP1 hD1
  have e0 : vp_nar .boolean (Int32.ofInt x) = Int32.ofInt x := by rcases h.2 with rfl | rfl <;> rfl
  rw [e0] at hP1 hD1
  have hws : (wsW ad cy S V).set o (ad o, .inl (cy 1, n.toNat, .inl (upd (fun j => Int32.ofInt (V o j)) i.toNat (Int32.ofInt x)))) = wsW ad cy S (vset V o i.toNat x) := by
    rw [← wsW_setV (V' := vset V o i.toNat x) hs (fun c' hc => vrow_n hc), show vset V o i.toNat x o = ups (V o) i.toNat x from vrow_s _ _ _]
    have e1 : (upd (fun j => Int32.ofInt (V o j)) i.toNat (Int32.ofInt x)) = (fun j => Int32.ofInt (ups (V o) i.toNat x j)) := by
      funext j
      by_cases hj : j = i.toNat <;> simp [upd, ups, hj]
    rw [e1]
    rfl
  have hP1 := (congrArg (fun z => va_P D vwCl z H1) hws).mp hP1
  have hD1 := (congrArg (fun z => va_D A z) hws).mp hD1
  exact kk ad H1 locs1 ls ⟨hP1, hD1, hw.2.2.1, inV_set hw.2.2.2.1 hs h.2, hw.2.2.2.2⟩ hS1 hL ho.2.2.2
theorem a_last (C : zCX X cc nL own nm rm) {n i : Int} (hs : S[o]? = some (15, n, rf)) (hd : decode cc pc = .ok (.lastore, 1)) (hn : n ≤ 2147483647) {x : Int} (h : (0 ≤ i ∧ i < n) ∧ inL x) (kk : zW X S (vset V o i.toNat x) nc ns al st (pc + 1)) : zW X S V nc ns al (zJ x :: zI i :: zR o :: st) pc := by
  obtain ⟨p, l, e, R, s, m, args, below, meth, c, D, cy, A, Q, ad0, n0⟩ := X
  obtain ⟨hx, hb, hml, hown, hts, hlk, hK, -⟩ := C
  intro ad H locs ls hw hS hL ho
  refine va_last hx hb hK.1 hw.1 hw.2.1 hS o 2 (wsW_at (ad := ad) (cy := cy) (V := V) hs) rfl (z_in h.1.1 h.1.2 hn) hd (fun H1 locs1 hP1 hD1 hS1 => ?_)
  rw [z_clamp h.1.1 (by omega)] at hP1 hD1
  have hws : (wsW ad cy S V).set o (ad o, .inl (cy 2, n.toNat, .inr (.inl (vp_updL (fun j => Int64.ofInt (V o j)) i.toNat (Int64.ofInt x))))) = wsW ad cy S (vset V o i.toNat x) := by
    rw [← wsW_setV (V' := vset V o i.toNat x) hs (fun c' hc => vrow_n hc), show vset V o i.toNat x o = ups (V o) i.toNat x from vrow_s _ _ _]
    have e1 : (vp_updL (fun j => Int64.ofInt (V o j)) i.toNat (Int64.ofInt x)) = (fun j => Int64.ofInt (ups (V o) i.toNat x j)) := by
      funext j
      by_cases hj : j = i.toNat <;> simp [vp_updL, ups, hj]
    rw [e1]
    rfl
  have hP1 := (congrArg (fun z => va_P D vwCl z H1) hws).mp hP1
  have hD1 := (congrArg (fun z => va_D A z) hws).mp hD1
  exact kk ad H1 locs1 ls ⟨hP1, hD1, hw.2.2.1, inV_set hw.2.2.2.1 hs h.2, hw.2.2.2.2⟩ hS1 hL ho.2.2.2
theorem a_alen (C : zCX X cc nL own nm rm) {n : Int} (t : Nat) (ht : 13 ≤ t ∧ t ≤ 16) (hs : S[o]? = some (t, n, rf)) (hd : decode cc pc = .ok (.arraylength, 1)) (hn : 0 ≤ n) (kk : zW X S V nc ns al (zI n :: st) (pc + 1)) : zW X S V nc ns al (zR o :: st) pc := by
  obtain ⟨p, l, e, R, s, m, args, below, meth, c, D, cy, A, Q, ad0, n0⟩ := X
  obtain ⟨hx, hb, hml, hown, hts, hlk, hK, -⟩ := C
  intro ad H locs ls hw hS hL ho
  have he := wsW_at (ad := ad) (cy := cy) (V := V) hs
  have hv : Int32.ofNat n.toNat = Int32.ofInt n := by
    conv => rhs; rw [← Int.toNat_of_nonneg hn]
    rfl
  rcases (show t = 13 ∨ t = 14 ∨ t = 15 ∨ t = 16 by omega) with rfl | rfl | rfl | rfl
  · exact va_alen hx hb hK.1 hw.1 o 0 he (ty := .int) rfl hv hd (kk ad H locs ls hw hS hL ⟨trivial, ho.2⟩)
  · exact va_alen hx hb hK.1 hw.1 o 1 he (ty := .boolean) rfl hv hd (kk ad H locs ls hw hS hL ⟨trivial, ho.2⟩)
  · exact va_alen hx hb hK.1 hw.1 o 2 he (ty := .long) rfl hv hd (kk ad H locs ls hw hS hL ⟨trivial, ho.2⟩)
  · exact va_alen hx hb hK.1 hw.1 o 3 he (ty := .object "ClosedFeuds$Feud") rfl hv hd (kk ad H locs ls hw hS hL ⟨trivial, ho.2⟩)
end ZF
