/-! ===== contracts and calls ===== -/
abbrev zT : Type := List zA → List zC → zV → (Option zA → List zC → zV → Prop) → Prop
def zPre (D : va_G) (cy : Nat → ClassId) (ad0 : Nat → Nat) (sz : Nat) (S : List zC) (V : zV) (as : List zA) : Array Value → State → Prop := fun v U => v = (as.map (cvv ad0)).toArray ∧ U.heap.size = sz ∧ va_P D vwCl (wsW ad0 cy S V) U.heap ∧ va_D (fun _ => True) (wsW ad0 cy S V) ∧ KK D cy U
/-- a method's contract: what T asks of its arguments, cells and numbers leads to its end -/
def zCT (l : Launch) (y : MethodName) (cc : ByteArray) (maxL : Nat) (ret : Option FieldType) (rm : Room) (T : zT) : Prop := ∀ (D : va_G) (cy : Nat → ClassId) (ad0 : Nat → Nat) (sz : Nat) (S : List zC) (V : zV) (as : List zA) (post : Option zA → List zC → zV → Prop), T as S V post → okS S → inV S V → okst S.length as →
  Met l y (.code y cc maxL ret :: TB) rm (zPre D cy ad0 sz S V as) (zPost D cy (va_A (wsW ad0 cy S V) sz) ad0 S.length post) rm.cells rm.slots (va_A (wsW ad0 cy S V) sz)
def entL : List zA → List (Option zA)
  | [] => []
  | .inl x :: r => some (.inl x) :: entL r
  | .inr (.inl x) :: r => some (.inr (.inl x)) :: none :: entL r
  | .inr (.inr x) :: r => some (.inr (.inr x)) :: entL r
def ent (as : List zA) (n : Nat) : List (Option zA) := entL as ++ List.replicate (n - (entL as).length) none
theorem ent_len (ad : Nat → Nat) : ∀ as : List zA, (lg_sl (as.map (cvv ad))).length = (entL as).length
  | [] => rfl
  | .inl x :: r => by
    have := ent_len ad r
    simp only [lg_sl, List.map_cons, List.flatMap_cons, List.length_append, entL, List.length_cons] at this ⊢
    simp [cvv, Value.category, ← this]
    omega
  | .inr (.inl x) :: r => by
    have := ent_len ad r
    simp only [lg_sl, List.map_cons, List.flatMap_cons, List.length_append, entL, List.length_cons] at this ⊢
    simp [cvv, Value.category, ← this]
    omega
  | .inr (.inr none) :: r => by
    have := ent_len ad r
    simp only [lg_sl, List.map_cons, List.flatMap_cons, List.length_append, entL, List.length_cons] at this ⊢
    simp [cvv, Value.category, ← this]
    omega
  | .inr (.inr (some x)) :: r => by
    have := ent_len ad r
    simp only [lg_sl, List.map_cons, List.flatMap_cons, List.length_append, entL, List.length_cons] at this ⊢
    simp [cvv, Value.category, ← this]
    omega
theorem entL_at (ad : Nat → Nat) {n : Nat} : ∀ (as : List zA), okst n as → ∀ (b i : Nat) (v : zA), (entL as)[i]? = some (some v) → okv n v ∧ (b + i, cvv ad v) ∈ lv_args b (as.map (cvv ad))
  | [], _, b, i, v, h => by simp [entL] at h
  | .inl x :: r, ho, b, i, v, h => by
    cases i with
    | zero => simp [entL] at h; subst h; exact ⟨trivial, List.mem_cons_self⟩
    | succ i =>
      simp only [entL, List.getElem?_cons_succ] at h
      have := entL_at ad r ho.2 (b + 1) i v h
      refine ⟨this.1, List.mem_cons_of_mem _ ?_⟩
      rw [show b + (i + 1) = b + 1 + i by omega]
      exact this.2
  | .inr (.inl x) :: r, ho, b, i, v, h => by
    cases i with
    | zero => simp [entL] at h; subst h; exact ⟨trivial, List.mem_cons_self⟩
    | succ i =>
      cases i with
      | zero => simp [entL] at h
      | succ i =>
        simp only [entL, List.getElem?_cons_succ] at h
        have := entL_at ad r ho.2 (b + 2) i v h
        refine ⟨this.1, List.mem_cons_of_mem _ ?_⟩
        rw [show b + (i + 1 + 1) = b + 2 + i by omega]
        exact this.2
  | .inr (.inr none) :: r, ho, b, i, v, h => by
    cases i with
    | zero => simp [entL] at h; subst h; exact ⟨trivial, List.mem_cons_self⟩
    | succ i =>
      simp only [entL, List.getElem?_cons_succ] at h
      have := entL_at ad r ho.2 (b + 1) i v h
      refine ⟨this.1, List.mem_cons_of_mem _ ?_⟩
      rw [show b + (i + 1) = b + 1 + i by omega]
      exact this.2
  | .inr (.inr (some x)) :: r, ho, b, i, v, h => by
    cases i with
    | zero => simp [entL] at h; subst h; exact ⟨ho.1, List.mem_cons_self⟩
    | succ i =>
      simp only [entL, List.getElem?_cons_succ] at h
      have := entL_at ad r ho.2 (b + 1) i v h
      refine ⟨this.1, List.mem_cons_of_mem _ ?_⟩
      rw [show b + (i + 1) = b + 1 + i by omega]
      exact this.2
theorem ent_LR (ad : Nat → Nat) {n nL : Nat} {as : List zA} (ho : okst n as) (hl : (entL as).length ≤ nL) : zLR n ad nL (ent as nL) ((lg_sl (as.map (cvv ad)) ++ List.replicate (nL - (lg_sl (as.map (cvv ad))).length) Slot.unset).toArray) := by
  have h := lv_entry (as.map (cvv ad)) (n := nL) (by rw [ent_len]; exact hl)
  refine ⟨h.1, h.2.1, fun i v hi => ?_⟩
  unfold ent at hi
  by_cases hi2 : i < (entL as).length
  · rw [List.getElem?_append_left hi2] at hi
    obtain ⟨h1, h2⟩ := entL_at ad as ho 0 i v hi
    rw [Nat.zero_add] at h2
    exact ⟨h1, h.2.2 _ h2⟩
  · rw [List.getElem?_append_right (by omega)] at hi
    have := List.mem_of_getElem? hi
    rw [List.mem_replicate] at this
    cases this.2
theorem zCT_of {l : Launch} {y : MethodName} {cc : ByteArray} {maxL : Nat} {ret : Option FieldType} {rm : Room} {T : zT} (hy : plainName y.cls = true) (hlen : ∀ as S V post, T as S V post → (entL as).length ≤ maxL)
    (h : ∀ (X : zM) (S : List zC) (V : zV) (as : List zA) (post : Option zA → List zC → zV → Prop), zCX X cc maxL y.cls y.name rm → zRX X ret post rm.cells rm.slots → T as S V post → zW X S V 0 0 (ent as maxL) [] 0) : zCT l y cc maxL ret rm T := by
  intro D cy ad0 sz S V as post hT hS hV hok
  refine Met.ofW (cc := cc) (maxL := maxL) (ret := ret) hy rfl ?_
  intro p e s m args below meth c s₁ B hml hv
  obtain ⟨rfl, rfl, hP, hD0, hK⟩ := hv
  have hts0 := atoms_spec (ws := .code y cc maxL ret :: TB) B.pre
  have hD := hD0.self (sz := s.heap.size)
  rw [lg_entry_eq]
  exact h (p, l, e, rm, s, m, (as.map (cvv ad0)).toArray, below, meth, c, D, cy, va_A (wsW ad0 cy S V) s.heap.size, MQ below (zPost D cy (va_A (wsW ad0 cy S V) s.heap.size) ad0 S.length post) (as.map (cvv ad0)).toArray s rm.cells rm.slots (va_A (wsW ad0 cy S V) s.heap.size), ad0, S.length) S V as post
    ⟨B.exec, B.bytes, hml, findClass_of_methodNamed B.named, fun w hw => hts0 w (List.mem_cons_of_mem _ hw), B.notSynchronized, hK, fun q hq => Or.inr hq, rfl, (name_of_methodNamed B.named B.method).1⟩ ⟨B.returns, rfl⟩ hT
    ad0 s.heap [] _ ⟨hP, hD, hS, hV, Nat.le_refl _, fun _ _ => rfl⟩ va_S.rf (by rw [hml]; exact ent_LR ad0 hok (hlen _ _ _ _ hT)) trivial
section ZC
variable {X : zM} {cc : ByteArray} {nL : Nat} {own nm : String} {rm : Room} {S : List zC} {V : zV} {nc ns pc : Nat} {al : List (Option zA)} {idx o : Nat}
theorem z_blind {D : va_G} {cy : Nat → ClassId} {ad0 : Nat → Nat} {sz : Nat} {as : List zA} : FrameBlind (zPre D cy ad0 sz S V as) := fun a U g mk q => ⟨q.1, q.2.1, q.2.2.1, q.2.2.2.1, KK_same (u := U) (U := U.calling g mk a) rfl q.2.2.2.2⟩
theorem TB_ws {y : MethodName} {bytes : ByteArray} {maxL : Nat} {ret : Option FieldType} (h : Cond.code y bytes maxL ret ∈ TB) (pre : List Cond) (hp : ∀ w ∈ pre, w ∈ TB) : GoodIn TB (pre ++ (.code y bytes maxL ret :: TB)) := fun w hw => by
  rcases List.mem_append.mp hw with h1 | h1
  · exact TB_good (hp w h1)
  · rcases List.mem_cons.mp h1 with rfl | h1
    · exact TB_good h
    · exact TB_good h1
/-- behind a call -/
theorem z_back {p : Program} {l : Launch} {e : Env} {R : Room} {s : State} {m : MethodId} {args : Array Value} {below : List Frame} {meth : Method} {c : Code} {D : va_G} {cy : Nat → ClassId} {A : Nat → Prop} {Q : State → Prop} {ad0 ad : Nat → Nat} {n0 mc ms : Nat} {post : Option zA → List zC → zV → Prop} {H : Heap} {locs : List Loc} {ls : Array Slot} {rest : List zA} {st0 : List Value} {a : Array Value}
    (hr : va_Run p l e R s m args below meth c H locs nc ns mc ms (F0 m pc ls st0) (rest.map (cvv ad)) (zPost D cy (va_A (wsW ad cy S V) H.size) ad S.length post a) (va_A (wsW ad cy S V) H.size))
    (hw : zWD D cy A ad0 n0 ad S V H) (hS : va_S A s.heap H locs) (hA : ∀ q, s.heap.size ≤ q → A q) (hL : zLR S.length ad c.maxLocals al ls) (ho : okst S.length rest)
    (kk : ∀ (r : Option zA) (S' : List zC) (V' : zV), post r S' V' → zW (p, l, e, R, s, m, args, below, meth, c, D, cy, A, Q, ad0, n0) S' V' (nc + mc) (ns + ms) al (r.toList ++ rest) (pc + 3)) : W p l e R s m args below meth c H locs nc ns Q (F0 m pc ls st0) := by
  have hsub : ∀ q, va_A (wsW ad cy S V) H.size q → A q := by
    intro q hq
    rcases hq with ⟨k, x, h⟩ | h
    · exact hw.2.1.2 k (q, x) h
    · exact hA q (Nat.le_trans hS.1 h)
  intro T hT X
  obtain ⟨v, st₀, t, T', L, h0, X', hL2, e1, e2, ⟨⟨r, ad', S', V', hv, hp, hok, hw'⟩, hz, hk⟩, stp⟩ := hr T hT X
  cases hv
  rw [h0] at hz hk
  have hle : S.length ≤ S'.length := hw'.2.2.2.2.1
  have hadd := hw'.2.2.2.2.2
  have hw2 : zWD D cy A ad0 n0 ad' S' V' T'.heap := by
    rw [e1]
    refine ⟨hw'.1, hw'.2.1.weaken (fun _ q _ h => hsub q.1 h), hw'.2.2.1, hw'.2.2.2.1, Nat.le_trans hw.2.2.2.2.1 hle, fun k hk2 => ?_⟩
    rw [hadd k (hk2.imp (fun q => Nat.lt_of_lt_of_le q hw.2.2.2.2.1) id)]
    exact hw.2.2.2.2.2 k hk2
  have hS2 : va_S A s.heap T'.heap (locs ++ L) := by
    refine ⟨Nat.le_trans hS.1 (by rw [e1]; exact hz), fun q h1 h2 => ?_, fun q hq => ?_⟩
    · rw [e1, hk q (Nat.lt_of_lt_of_le h1 hS.1) (fun z => h2 (hsub q z))]
      exact hS.2.1 q h1 h2
    · rcases List.mem_append.mp hq with h | h
      · exact hS.2.2 q h
      · exact hsub _ (hL2 q h)
  have hst : (r.toList ++ rest).map (cvv ad') = (r.map (cvv ad')).toList ++ rest.map (cvv ad) := by
    rw [List.map_append, cvv_map hadd (okst_mem ho)]
    cases r <;> rfl
  have hoks : okst S'.length (r.toList ++ rest) := by
    cases r with
    | none => exact okst_mono hle ho
    | some x => exact ⟨hok x rfl, okst_mono hle ho⟩
  obtain ⟨t2, a1, b1⟩ := kk r S' V' hp ad' T'.heap (locs ++ L) ls hw2 hS2 (zLR_to hle hadd hL) hoks T' rfl X'
  rw [hst] at a1
  exact ⟨t2, stp t2 a1, b1⟩
/-- what a call asks of the stack below it -/
def cat8 (rest : List zA) : Prop := (rest.map (fun v => if isJv (some v) then 2 else 1)).sum ≤ 8
theorem cat8_to {rest : List zA} {ad : Nat → Nat} (h : cat8 rest) : ((rest.map (cvv ad)).map fun v => v.category).sum ≤ 8 := by
  have : (rest.map (cvv ad)).map (fun v => v.category) = rest.map (fun v => if isJv (some v) then 2 else 1) := by
    rw [List.map_map]
    apply List.map_congr_left
    intro v _
    exact cvv_cat ad v
  rw [this]
  exact h
theorem z_rev {ad : Nat → Nat} {as rest : List zA} : (as.reverse ++ rest).map (cvv ad) = (as.map (cvv ad)).reverse ++ rest.map (cvv ad) := by rw [List.map_append, List.map_reverse]
theorem z_revR {ad : Nat → Nat} {as rest : List zA} : (as.reverse ++ zR o :: rest).map (cvv ad) = (as.map (cvv ad)).reverse ++ .ref (ad o) :: rest.map (cvv ad) := by rw [List.map_append, List.map_reverse]; rfl
/-- a virtual call of a method of the receiver's own class -/
theorem a_callV (C : zCX X cc nL own nm rm) {y : MethodName} {bytes : ByteArray} {maxL : Nat} {ret : Option FieldType} {rm' : Room} {T : zT} {tag : Nat} {w : Int} {rf : Nat → Option Nat} {as rest : List zA} (n : Nat) (hM : ∀ l, zCT l y bytes maxL ret rm' T)
    (hs : S[o]? = some (tag, w, rf)) (hcl : ∃ T' N, vwCl[tag]? = some (y.cls, T', N)) (htag : tag < 13)
    (h1 : Cond.methodLink own idx y ∈ TB) (h2 : Cond.instanceMethod y ∈ TB) (h3 : Cond.selects y.cls y y ∈ TB) (h4 : Cond.initialized y.cls ∈ TB) (h5 : Cond.code y bytes maxL ret ∈ TB)
    (hdsc : y.cls ≠ "java/lang/invoke/MethodHandle" ∧ y.cls ≠ "java/lang/invoke/VarHandle" ∧ (parseMethodDescriptor y.desc).map (fun d => d.parameters.length) = some n) (hn : as.length = n) (hR : rm'.frames + 1 ≤ rm.frames ∧ 8 + (maxL + 11) + rm'.locals ≤ rm.locals) (hc8 : cat8 rest)
    (hd : decode cc pc = .ok (.invokevirtual idx, 3)) (hf : nc + rm'.cells ≤ rm.cells ∧ ns + rm'.slots ≤ rm.slots)
    (kk : T (zR o :: as) S V (fun r S' V' => zW X S' V' (nc + rm'.cells) (ns + rm'.slots) al (r.toList ++ rest) (pc + 3))) : zW X S V nc ns al (as.reverse ++ zR o :: rest) pc := by
  obtain ⟨p, l, e, R, s, m, args, below, meth, c, D, cy, A, Q, ad0, n0⟩ := X
  obtain ⟨hx, hb, hml, hown, hts, hlk, hK, hA, hRm, -⟩ := C
  subst hRm
  obtain ⟨T', N, g1⟩ := hcl
  intro ad H locs ls hw hS hL ho
  have hoa := okst_app.mp ho
  have hoas : okst S.length (zR o :: as) := ⟨hoa.2.1, by have := okst_rev hoa.1; rwa [List.reverse_reverse] at this⟩
  have he := wsW_at (ad := ad) (cy := cy) (V := V) hs
  rw [cE_obj htag] at he
  have hG : GoodIn TB (wsV own idx y.cls y (.code y bytes maxL ret :: TB)) := TB_ws h5 [.methodLink own idx y, .instanceMethod y, .selects y.cls y y, .initialized y.cls] (fun w hw => by
    simp only [List.mem_cons, List.not_mem_nil, or_false] at hw
    rcases hw with rfl | rfl | rfl | rfl
    · exact h1
    · exact h2
    · exact h3
    · exact h4)
  have hrun := va_runV (As := as.map (cvv ad)) (rest := rest.map (cvv ad)) (b := ad o) (g := F0 m pc ls ((as.reverse ++ zR o :: rest).map (cvv ad))) (e := e) (below := below) (meth := meth) (locs := locs) (cells := nc) (slots := ns) ⟨hx, hb, hml, hown, hts⟩ (hM l D cy ad H.size S V (zR o :: as) _ kk hw.2.2.1 hw.2.2.2.1 hoas)
    (cwV n hts hG rfl rfl rfl ⟨rfl, hdsc⟩ hR) ⟨z_blind, va_recv hK.1 hw.1 g1 he, fun U hU hW => ⟨rfl, by rw [hU], by rw [hU]; exact hw.1, hw.2.1.weaken (fun _ _ _ _ => trivial), KK_warm hW hK⟩⟩ rfl (by rw [List.length_map]; exact hn) (hL.1.trans hml) z_revR (by show 2 * 0 + _ ≤ 8; rw [Nat.mul_zero, Nat.zero_add]; exact cat8_to hc8) hd hf
  exact z_back hrun hw hS hA hL hoa.2.2 (fun r S' V' h => h)
/-- a static call -/
theorem a_callS (C : zCX X cc nL own nm rm) {y : MethodName} {bytes : ByteArray} {maxL : Nat} {ret : Option FieldType} {rm' : Room} {T : zT} {as rest : List zA} (n : Nat) (hM : ∀ l, zCT l y bytes maxL ret rm' T)
    (h1 : Cond.methodLink own idx y ∈ TB) (h2 : Cond.static y ∈ TB) (h4 : Cond.initialized y.cls ∈ TB) (h5 : Cond.code y bytes maxL ret ∈ TB)
    (hdsc : y.cls ≠ "java/lang/invoke/MethodHandle" ∧ y.cls ≠ "java/lang/invoke/VarHandle" ∧ (parseMethodDescriptor y.desc).map (fun d => d.parameters.length) = some n) (hn : as.length = n) (hR : rm'.frames + 1 ≤ rm.frames ∧ 8 + (maxL + 11) + rm'.locals ≤ rm.locals) (hc8 : cat8 rest)
    (hd : decode cc pc = .ok (.invokestatic idx, 3)) (hf : nc + rm'.cells ≤ rm.cells ∧ ns + rm'.slots ≤ rm.slots)
    (kk : T as S V (fun r S' V' => zW X S' V' (nc + rm'.cells) (ns + rm'.slots) al (r.toList ++ rest) (pc + 3))) : zW X S V nc ns al (as.reverse ++ rest) pc := by
  obtain ⟨p, l, e, R, s, m, args, below, meth, c, D, cy, A, Q, ad0, n0⟩ := X
  obtain ⟨hx, hb, hml, hown, hts, hlk, hK, hA, hRm, -⟩ := C
  subst hRm
  intro ad H locs ls hw hS hL ho
  have hoa := okst_app.mp ho
  have hoas : okst S.length as := by have := okst_rev hoa.1; rwa [List.reverse_reverse] at this
  have hG : GoodIn TB (va_wsS own idx y (.code y bytes maxL ret :: TB)) := TB_ws h5 [.methodLink own idx y, .static y, .initialized y.cls] (fun w hw => by
    simp only [List.mem_cons, List.not_mem_nil, or_false] at hw
    rcases hw with rfl | rfl | rfl
    · exact h1
    · exact h2
    · exact h4)
  have hrun := va_runS (As := as.map (cvv ad)) (rest := rest.map (cvv ad)) (g := F0 m pc ls ((as.reverse ++ rest).map (cvv ad))) (e := e) (below := below) (meth := meth) (locs := locs) (cells := nc) (slots := ns) ⟨hx, hb, hml, hown, hts⟩ (hM l D cy ad H.size S V as _ kk hw.2.2.1 hw.2.2.2.1 hoas)
    (va_cwS n hts hG rfl rfl rfl hdsc hR) ⟨z_blind, fun U hU hW => ⟨rfl, by rw [hU], by rw [hU]; exact hw.1, hw.2.1.weaken (fun _ _ _ _ => trivial), KK_warm hW hK⟩⟩ rfl (by rw [List.length_map]; exact hn) (hL.1.trans hml) z_rev (by show 2 * 0 + _ ≤ 8; rw [Nat.mul_zero, Nat.zero_add]; exact cat8_to hc8) hd hf
  exact z_back hrun hw hS hA hL hoa.2 (fun r S' V' h => h)
/-- a static call of a nest mate's private method -/
theorem a_callSN (C : zCX X cc nL own nm rm) {y : MethodName} {bytes : ByteArray} {maxL : Nat} {ret : Option FieldType} {rm' : Room} {T : zT} {as rest : List zA} {host : String} (n : Nat) (hM : ∀ l, zCT l y bytes maxL ret rm' T)
    (h1 : Cond.methodLinkNest own idx y host ∈ zNest) (h2 : Cond.static y ∈ TB) (h4 : Cond.initialized y.cls ∈ TB) (h5 : Cond.code y bytes maxL ret ∈ TB)
    (hdsc : y.cls ≠ "java/lang/invoke/MethodHandle" ∧ y.cls ≠ "java/lang/invoke/VarHandle" ∧ (parseMethodDescriptor y.desc).map (fun d => d.parameters.length) = some n) (hn : as.length = n) (hR : rm'.frames + 1 ≤ rm.frames ∧ 8 + (maxL + 11) + rm'.locals ≤ rm.locals) (hc8 : cat8 rest)
    (hd : decode cc pc = .ok (.invokestatic idx, 3)) (hf : nc + rm'.cells ≤ rm.cells ∧ ns + rm'.slots ≤ rm.slots)
    (kk : T as S V (fun r S' V' => zW X S' V' (nc + rm'.cells) (ns + rm'.slots) al (r.toList ++ rest) (pc + 3))) : zW X S V nc ns al (as.reverse ++ rest) pc := by
  obtain ⟨p, l, e, R, s, m, args, below, meth, c, D, cy, A, Q, ad0, n0⟩ := X
  obtain ⟨hx, hb, hml, hown, hts, hlk, hK, hA, hRm, -⟩ := C
  subst hRm
  intro ad H locs ls hw hS hL ho
  have hoa := okst_app.mp ho
  have hoas : okst S.length as := by have := okst_rev hoa.1; rwa [List.reverse_reverse] at this
  have hG : GoodIn TB (.code y bytes maxL ret :: TB) := TB_ws h5 [] (fun w hw => by cases hw)
  have hrun := va_runSN (As := as.map (cvv ad)) (rest := rest.map (cvv ad)) (g := F0 m pc ls ((as.reverse ++ rest).map (cvv ad))) (e := e) (below := below) (meth := meth) (locs := locs) (cells := nc) (slots := ns) ⟨hx, hb, hml, hown, hts⟩ (hM l D cy ad H.size S V as _ kk hw.2.2.1 hw.2.2.2.1 hoas)
    ⟨va_cnB n hts hG rfl rfl rfl (hK.2.1 _ h1) (hts _ h4) hdsc hR, hts _ h2, trivial⟩ ⟨z_blind, fun U hU hW => ⟨rfl, by rw [hU], by rw [hU]; exact hw.1, hw.2.1.weaken (fun _ _ _ _ => trivial), KK_warm hW hK⟩⟩ rfl (by rw [List.length_map]; exact hn) (hL.1.trans hml) z_rev (by show 2 * 0 + _ ≤ 8; rw [Nat.mul_zero, Nat.zero_add]; exact cat8_to hc8) hd hf
  exact z_back hrun hw hS hA hL hoa.2 (fun r S' V' h => h)
/-- a constructor -/
theorem a_callI (C : zCX X cc nL own nm rm) {y : MethodName} {bytes : ByteArray} {maxL : Nat} {rm' : Room} {T : zT} {as rest : List zA} (n : Nat) (hM : ∀ l, zCT l y bytes maxL none rm' T) (hy1 : y.name = "<init>")
    (h1 : Cond.methodLink own idx y ∈ TB) (h2 : Cond.instanceMethod y ∈ TB) (h4 : Cond.initialized y.cls ∈ TB) (h5 : Cond.code y bytes maxL none ∈ TB)
    (hdsc : y.cls ≠ "java/lang/invoke/MethodHandle" ∧ y.cls ≠ "java/lang/invoke/VarHandle" ∧ (parseMethodDescriptor y.desc).map (fun d => d.parameters.length) = some n) (hn : as.length = n) (hR : rm'.frames + 1 ≤ rm.frames ∧ 8 + (maxL + 11) + rm'.locals ≤ rm.locals) (hc8 : cat8 rest)
    (hd : decode cc pc = .ok (.invokespecial idx, 3)) (hf : nc + rm'.cells ≤ rm.cells ∧ ns + rm'.slots ≤ rm.slots)
    (kk : T (zR o :: as) S V (fun r S' V' => zW X S' V' (nc + rm'.cells) (ns + rm'.slots) al (r.toList ++ rest) (pc + 3))) : zW X S V nc ns al (as.reverse ++ zR o :: rest) pc := by
  obtain ⟨p, l, e, R, s, m, args, below, meth, c, D, cy, A, Q, ad0, n0⟩ := X
  obtain ⟨hx, hb, hml, hown, hts, hlk, hK, hA, hRm, -⟩ := C
  subst hRm
  intro ad H locs ls hw hS hL ho
  have hoa := okst_app.mp ho
  have hoas : okst S.length (zR o :: as) := ⟨hoa.2.1, by have := okst_rev hoa.1; rwa [List.reverse_reverse] at this⟩
  have hG : GoodIn TB (.code y bytes maxL none :: TB) := TB_ws h5 [] (fun w hw => by cases hw)
  have hrun := va_runI (As := as.map (cvv ad)) (rest := rest.map (cvv ad)) (b := ad o) (g := F0 m pc ls ((as.reverse ++ zR o :: rest).map (cvv ad))) (e := e) (below := below) (meth := meth) (locs := locs) (cells := nc) (slots := ns) ⟨hx, hb, hml, hown, hts⟩ (hM l D cy ad H.size S V (zR o :: as) _ kk hw.2.2.1 hw.2.2.2.1 hoas)
    (cwI n hts hG rfl rfl rfl (hts _ h4) (hts _ h1) (hts _ h2) hy1 hdsc hR) ⟨z_blind, fun U hU hW => ⟨rfl, by rw [hU], by rw [hU]; exact hw.1, hw.2.1.weaken (fun _ _ _ _ => trivial), KK_warm hW hK⟩⟩ rfl (by rw [List.length_map]; exact hn) (hL.1.trans hml) z_revR (by show 2 * 0 + _ ≤ 8; rw [Nat.mul_zero, Nat.zero_add]; exact cat8_to hc8) hd hf
  exact z_back hrun hw hS hA hL hoa.2.2 (fun r S' V' h => h)
/-- a nest mate's private constructor -/
theorem a_callIN (C : zCX X cc nL own nm rm) {y : MethodName} {bytes : ByteArray} {maxL : Nat} {rm' : Room} {T : zT} {as rest : List zA} {host : String} (n : Nat) (hM : ∀ l, zCT l y bytes maxL none rm' T) (hy1 : y.name = "<init>")
    (h1 : Cond.methodLinkNest own idx y host ∈ zNest) (h2 : Cond.instanceMethod y ∈ TB) (h4 : Cond.initialized y.cls ∈ TB) (h5 : Cond.code y bytes maxL none ∈ TB)
    (hdsc : y.cls ≠ "java/lang/invoke/MethodHandle" ∧ y.cls ≠ "java/lang/invoke/VarHandle" ∧ (parseMethodDescriptor y.desc).map (fun d => d.parameters.length) = some n) (hn : as.length = n) (hR : rm'.frames + 1 ≤ rm.frames ∧ 8 + (maxL + 11) + rm'.locals ≤ rm.locals) (hc8 : cat8 rest)
    (hd : decode cc pc = .ok (.invokespecial idx, 3)) (hf : nc + rm'.cells ≤ rm.cells ∧ ns + rm'.slots ≤ rm.slots)
    (kk : T (zR o :: as) S V (fun r S' V' => zW X S' V' (nc + rm'.cells) (ns + rm'.slots) al (r.toList ++ rest) (pc + 3))) : zW X S V nc ns al (as.reverse ++ zR o :: rest) pc := by
  obtain ⟨p, l, e, R, s, m, args, below, meth, c, D, cy, A, Q, ad0, n0⟩ := X
  obtain ⟨hx, hb, hml, hown, hts, hlk, hK, hA, hRm, -⟩ := C
  subst hRm
  intro ad H locs ls hw hS hL ho
  have hoa := okst_app.mp ho
  have hoas : okst S.length (zR o :: as) := ⟨hoa.2.1, by have := okst_rev hoa.1; rwa [List.reverse_reverse] at this⟩
  have hG : GoodIn TB (.code y bytes maxL none :: TB) := TB_ws h5 [] (fun w hw => by cases hw)
  have hrun := va_runIN (As := as.map (cvv ad)) (rest := rest.map (cvv ad)) (b := ad o) (g := F0 m pc ls ((as.reverse ++ zR o :: rest).map (cvv ad))) (e := e) (below := below) (meth := meth) (locs := locs) (cells := nc) (slots := ns) ⟨hx, hb, hml, hown, hts⟩ (hM l D cy ad H.size S V (zR o :: as) _ kk hw.2.2.1 hw.2.2.2.1 hoas)
    ⟨va_cnB n hts hG rfl rfl rfl (hK.2.1 _ h1) (hts _ h4) hdsc hR, hy1, hts _ h2⟩ ⟨z_blind, fun U hU hW => ⟨rfl, by rw [hU], by rw [hU]; exact hw.1, hw.2.1.weaken (fun _ _ _ _ => trivial), KK_warm hW hK⟩⟩ rfl (by rw [List.length_map]; exact hn) (hL.1.trans hml) z_revR (by show 2 * 0 + _ ≤ 8; rw [Nat.mul_zero, Nat.zero_add]; exact cat8_to hc8) hd hf
  exact z_back hrun hw hS hA hL hoa.2.2 (fun r S' V' h => h)
end ZC
