/-! THE CLAIM OUT OF ONE WALK OF THE LAW'S BODY. Your part is whole_start (and what it stands on); all else here is the same for every law, but numbers. -/
def R_law : String := "ClosedFeudsLaw"
def lw_P (b : Addr) (xs : List Int32) (args : Array Value) (s : State) : Prop := args = #[.ref b] ∧ s.IntsAt b xs ∧ xs.length ≤ 256 ∧ (Jvm.Cond.and given_1 narrow_1).before args s = true
def lw_Q (_ : Array Value) (s : State) (o : Outcome) (t : State) : Prop := o = .returned (some (.int 1)) ∧ Framed s o t [] 600000 7302250
def lw_Z (below : List Frame) (a : Array Value) (s : State) : State → Prop := fun t => ∃ o, t.status = .running ∧ Ended t below o ∧ lw_Q a s o t
/-- the law's own end, with 1 on the stack, nothing written that was there before, its room as the claim has it -/
theorem lw_ret {p : Program} {l : Launch} {e : Env} {s : State} {m : MethodId} {below : List Frame} {meth : Method} {c : Code} {b : Nat} (hx : p.tables.exec = Jvm.exec) (hb : c.code = code) (hr : meth.sig.returnType = ret) (hlocks : meth.locks = false) {pc : Nat} {H : Heap} {ls : Array Slot} (hdg : decode code pc = .ok (.ireturn, 1)) : W p l e room_1 s m #[Value.ref b] below meth c H [] 600000 7302250 (lw_Z below #[Value.ref b] s) (F0 m pc ls [.int 1]) := by
  intro T hT X
  obtain ⟨fs, hret, hrun, hended, hW, hframe⟩ := X.leave (v := some (.int 1)) (hlocks := hlocks) (fun h => by rw [hr] at h; cases h)
  have hmeth' : T.vm.method? m = some meth := X.method'
  refine ⟨T.setFrames fs, ?_, .returned (some (.int 1)), hrun, hended, rfl, ⟨_, rfl⟩, hW, hframe⟩
  jvm_step X.here [X.here.top, hx, hb, hdg, hmeth', hr, ret, narrow_b1]
  (try refine ⟨rfl, ?_⟩); (try refine ⟨rfl, ?_⟩)
  first | (intro acts; rw [hret _ acts rfl rfl rfl]) | rw [hret _ _ rfl rfl rfl]
  exact Steps.refl _
/-- what holds at the law's entry: the machine, the code, the tables' words (any of lw_tbl by 'hts w (by decide +kernel)'), the script of L ints xs at the cell b, what the Statement gives of the start (any of its parts by flat_of_before) -/
def lw_At (p : Program) (s : State) (m : MethodId) (meth : Method) (c : Code) (b L : Nat) (xs : Nat → Int32) : Prop :=
  p.tables.exec = Jvm.exec ∧ c.code = code ∧ meth.sig.returnType = ret ∧ c.maxLocals = 4 ∧ s.vm.findClass R_law = some m.cls ∧ (∀ w ∈ lw_tbl, w.before #[Value.ref b] s = true) ∧ va_X b L xs s s.heap ∧ b < s.heap.size ∧ meth.locks = false ∧ (Jvm.Cond.and given_1 narrow_1).before #[Value.ref b] s = true

theorem zdefV (ad : Nat → Nat) {tag k kd : Nat} (h : (fkt tag)[k]? = some kd) : vp_V (fvals ad (fun _ => 0) (tag, 0, fun _ => none)) k = fval ad (fun _ => 0) (tag, 0, fun _ => none) kd k := by
  unfold vp_V
  rw [List.getD_eq_getElem?_getD, fvals_at (sc := (tag, 0, fun _ => none)) h]
  rfl
def zLX (X : zM) (b L : Nat) (xs : Nat → Int32) : Prop := match X with
  | (p, l, e, R, s, m, args, below, meth, c, D, cy, A, Q, ad0, n0) => va_X b L xs s s.heap ∧ b < s.heap.size ∧ A = (fun q : Nat => s.heap.size ≤ q) ∧ ad0 999999 = b ∧ args = #[Value.ref b] ∧ Q = lw_Z below #[Value.ref b] s ∧ meth.sig.returnType = ret
section ZL
variable {X : zM} {nL : Nat} {own nm : String} {S : List zC} {V : zV} {nc ns pc : Nat} {al : List (Option zA)} {st : List zA} {b L : Nat} {xs : Nat → Int32} {ys : Nat → Int}
theorem a_sld (C : zCX X code nL own nm room_1) (h : zLX X b L xs ∧ ∀ j, ys j = (xs j).toInt) (hd : decode code pc = .ok (.iaload, 1)) (hL : L ≤ 256) {i : Int} (hi : 0 ≤ i ∧ i < (L : Int)) (k : inR (ys i.toNat) → zW X S V nc ns al (zI (ys i.toNat) :: st) (pc + 1)) : zW X S V nc ns al (zI i :: zR 999999 :: st) pc := by
  obtain ⟨p, l, e, R, s, m, args, below, meth, c, D, cy, A, Q, ad0, n0⟩ := X
  obtain ⟨hx, hb, -⟩ := C
  obtain ⟨⟨h1, h2, rfl, h4, -⟩, hy⟩ := h
  intro ad H locs ls hw hS hL2 ho
  have hb2 : ad 999999 = b := (hw.2.2.2.2.2 999999 (Or.inr rfl)).trans h4
  have hr : inR (ys i.toNat) := by rw [hy]; exact ⟨Int32.le_toInt _, Int32.toInt_lt _⟩
  have kk := k hr ad H locs ls hw hS hL2 ⟨trivial, ho.2.2⟩
  have e1 : cvv ad (zI (ys i.toNat)) = .int (xs i.toNat) := by
    show Value.int (Int32.ofInt (ys i.toNat)) = _
    rw [hy, Int32.ofInt_toInt]
  show W _ _ _ _ _ _ _ _ _ _ _ _ _ _ _ (F0 _ _ _ (.int (Int32.ofInt i) :: .ref (ad 999999) :: st.map (cvv ad)))
  rw [hb2]
  refine va_sld hx hb h1 h2 (by omega) hS (show vp_in (Int32.ofInt i) L from by have := z_in hi.1 hi.2 (by omega); rwa [Int.toNat_natCast] at this) hd ?_
  rw [z_clamp hi.1 (by omega), ← e1]
  exact kk
theorem a_slen (C : zCX X code nL own nm room_1) (h : zLX X b L xs ∧ ∀ j, ys j = (xs j).toInt) (hd : decode code pc = .ok (.arraylength, 1)) (k : zW X S V nc ns al (zI (L : Int) :: st) (pc + 1)) : zW X S V nc ns al (zR 999999 :: st) pc := by
  obtain ⟨p, l, e, R, s, m, args, below, meth, c, D, cy, A, Q, ad0, n0⟩ := X
  obtain ⟨hx, hb, -⟩ := C
  obtain ⟨⟨h1, h2, rfl, h4, -⟩, hy⟩ := h
  intro ad H locs ls hw hS hL2 ho
  have hb2 : ad 999999 = b := (hw.2.2.2.2.2 999999 (Or.inr rfl)).trans h4
  show W _ _ _ _ _ _ _ _ _ _ _ _ _ _ _ (F0 _ _ _ (.ref (ad 999999) :: st.map (cvv ad)))
  rw [hb2]
  exact va_slen hx hb h1 h2 (by omega) hS hd (k ad H locs ls hw hS hL2 ⟨trivial, ho.2⟩)
theorem a_lawret (C : zCX X code nL own nm room_1) (h : zLX X b L xs ∧ ∀ j, ys j = (xs j).toInt) (hd : decode code pc = .ok (.ireturn, 1)) (hc : nc ≤ 600000) (hs : ns ≤ 7302250) : zW X S V nc ns al [zI 1] pc := by
  obtain ⟨p, l, e, R, s, m, args, below, meth, c, D, cy, A, Q, ad0, n0⟩ := X
  obtain ⟨hx, hb, hml, hown, hts, hlk, hK, hA, hR, -⟩ := C
  obtain ⟨⟨h1, h2, rfl, h4, rfl, rfl, h7⟩, hy⟩ := h
  subst hR
  intro ad H locs ls hw hS hL2 ho
  exact va_forget (fun q hq => hS.2.2 q hq) (W.widen hc hs (lw_ret hx hb h7 hlk hd))
end ZL

def mL_law_L18 (L : Nat) (ys : Nat → Int) (Q : Unit) : Nat → Nat → Nat → Int → List zC → zV → Prop
  | 0 => fun _ _ _ _ _ => False
  | n + 1 => fun nc ns a3 S V => (inR a3) ∧ (inR ((L : Int) - 4)) ∧ ((((L : Int) - 4) < a3 → True) ∧ (a3 ≤ ((L : Int) - 4) → (0 ≤ a3 ∧ a3 < (L : Int)) ∧ (inR (zand (ys (a3).toNat) 31)) ∧ ((zand (ys (a3).toNat) 31) = 0 → (0 ≤ (a3 + 1) ∧ (a3 + 1) < (L : Int)) ∧ m11_letter S V (ys ((a3 + 1)).toNat) (fun r162 V162 => m12_letter V162 (ys ((a3 + 1)).toNat) (fun r171 V171 => (inR r162) ∧ (inR r171) ∧ ((r162 = r171 → mL_law_L18 L ys Q n (nc) (ns) (a3 + 4) S V171) ∧ (¬ r162 = r171 → False))))) ∧ ((zand (ys (a3).toNat) 31) = 1 → m11_blank S V (fun r180 V180 => m12_blank V180 (fun r184 V184 => (inR r180) ∧ (inR r184) ∧ ((r180 = r184 → mL_law_L18 L ys Q n (nc) (ns) (a3 + 4) S V184) ∧ (¬ r180 = r184 → False))))) ∧ ((zand (ys (a3).toNat) 31) = 2 → m11_fault S V (fun r193 V193 => m12_fault V193 (fun r197 V197 => (inR r193) ∧ (inR r197) ∧ ((r193 = r197 → mL_law_L18 L ys Q n (nc) (ns) (a3 + 4) S V197) ∧ (¬ r193 = r197 → False))))) ∧ ((zand (ys (a3).toNat) 31) = 3 → (nc + 8 ≤ 600000 ∧ ns + 8 ≤ 7302250) ∧ m11_list S V (fun r206 S206 V206 => m12_list V206 (fun r210 V210 => (inR r206) ∧ (inR r210) ∧ ((r206 = r210 → mL_law_L18 L ys Q n (nc + 8) (ns + 8) (a3 + 4) S206 V210) ∧ (¬ r206 = r210 → False))))) ∧ ((zand (ys (a3).toNat) 31) = 4 → (0 ≤ (a3 + 1) ∧ (a3 + 1) < (L : Int)) ∧ (0 ≤ (a3 + 2) ∧ (a3 + 2) < (L : Int)) ∧ m11_about S V (ys ((a3 + 1)).toNat) (ys ((a3 + 2)).toNat) (fun r229 V229 => m12_about V229 (ys ((a3 + 1)).toNat) (ys ((a3 + 2)).toNat) (fun r243 V243 => (inR r229) ∧ (inR r243) ∧ ((r229 = r243 → mL_law_L18 L ys Q n (nc) (ns) (a3 + 4) S V243) ∧ (¬ r229 = r243 → False))))) ∧ ((zand (ys (a3).toNat) 31) = 5 → (0 ≤ (a3 + 1) ∧ (a3 + 1) < (L : Int)) ∧ (0 ≤ (a3 + 2) ∧ (a3 + 2) < (L : Int)) ∧ m11_as S V (ys ((a3 + 1)).toNat) (ys ((a3 + 2)).toNat) (fun r262 V262 => m12_as V262 (ys ((a3 + 1)).toNat) (ys ((a3 + 2)).toNat) (fun r276 V276 => (inR r262) ∧ (inR r276) ∧ ((r262 = r276 → mL_law_L18 L ys Q n (nc) (ns) (a3 + 4) S V276) ∧ (¬ r262 = r276 → False))))) ∧ ((zand (ys (a3).toNat) 31) = 6 → (0 ≤ (a3 + 1) ∧ (a3 + 1) < (L : Int)) ∧ (0 ≤ (a3 + 2) ∧ (a3 + 2) < (L : Int)) ∧ m11_person S V (ys ((a3 + 1)).toNat) (ys ((a3 + 2)).toNat) (fun r295 V295 => m12_person V295 (ys ((a3 + 1)).toNat) (ys ((a3 + 2)).toNat) (fun r309 V309 => (inR r295) ∧ (inR r309) ∧ ((r295 = r309 → mL_law_L18 L ys Q n (nc) (ns) (a3 + 4) S V309) ∧ (¬ r295 = r309 → False))))) ∧ ((zand (ys (a3).toNat) 31) = 7 → (0 ≤ (a3 + 1) ∧ (a3 + 1) < (L : Int)) ∧ (0 ≤ (a3 + 2) ∧ (a3 + 2) < (L : Int)) ∧ m11_heir S V (ys ((a3 + 1)).toNat) (ys ((a3 + 2)).toNat) (fun r328 V328 => m12_heir V328 (ys ((a3 + 1)).toNat) (ys ((a3 + 2)).toNat) (fun r342 V342 => (inR r328) ∧ (inR r342) ∧ ((r328 = r342 → mL_law_L18 L ys Q n (nc) (ns) (a3 + 4) S V342) ∧ (¬ r328 = r342 → False))))) ∧ ((zand (ys (a3).toNat) 31) = 8 → (0 ≤ (a3 + 1) ∧ (a3 + 1) < (L : Int)) ∧ (0 ≤ (a3 + 2) ∧ (a3 + 2) < (L : Int)) ∧ (0 ≤ (a3 + 3) ∧ (a3 + 3) < (L : Int)) ∧ m11_buy S V (ys ((a3 + 1)).toNat) (ys ((a3 + 2)).toNat) (ys ((a3 + 3)).toNat) (fun r366 V366 => m12_buy V366 (ys ((a3 + 1)).toNat) (ys ((a3 + 2)).toNat) (ys ((a3 + 3)).toNat) (fun r385 V385 => (inR r366) ∧ (inR r385) ∧ ((r366 = r385 → mL_law_L18 L ys Q n (nc) (ns) (a3 + 4) S V385) ∧ (¬ r366 = r385 → False))))) ∧ ((zand (ys (a3).toNat) 31) = 9 → (0 ≤ (a3 + 1) ∧ (a3 + 1) < (L : Int)) ∧ (0 ≤ (a3 + 2) ∧ (a3 + 2) < (L : Int)) ∧ (0 ≤ (a3 + 3) ∧ (a3 + 3) < (L : Int)) ∧ m11_lend S V (ys ((a3 + 1)).toNat) (ys ((a3 + 2)).toNat) (ys ((a3 + 3)).toNat) (fun r409 V409 => m12_lend V409 (ys ((a3 + 1)).toNat) (ys ((a3 + 2)).toNat) (ys ((a3 + 3)).toNat) (fun r428 V428 => (inR r409) ∧ (inR r428) ∧ ((r409 = r428 → mL_law_L18 L ys Q n (nc) (ns) (a3 + 4) S V428) ∧ (¬ r409 = r428 → False))))) ∧ ((zand (ys (a3).toNat) 31) = 10 → (0 ≤ (a3 + 1) ∧ (a3 + 1) < (L : Int)) ∧ m11_peace S V (ys ((a3 + 1)).toNat) (fun r442 V442 => m12_peace V442 (ys ((a3 + 1)).toNat) (fun r451 V451 => (inR r442) ∧ (inR r451) ∧ ((r442 = r451 → mL_law_L18 L ys Q n (nc) (ns) (a3 + 4) S V451) ∧ (¬ r442 = r451 → False))))) ∧ ((zand (ys (a3).toNat) 31) = 11 → (0 ≤ (a3 + 1) ∧ (a3 + 1) < (L : Int)) ∧ m11_death S V (ys ((a3 + 1)).toNat) (fun r465 V465 => m12_death V465 (ys ((a3 + 1)).toNat) (fun r474 V474 => (inR r465) ∧ (inR r474) ∧ ((r465 = r474 → mL_law_L18 L ys Q n (nc) (ns) (a3 + 4) S V474) ∧ (¬ r465 = r474 → False))))) ∧ ((zand (ys (a3).toNat) 31) = 12 → (0 ≤ (a3 + 1) ∧ (a3 + 1) < (L : Int)) ∧ (0 ≤ (a3 + 2) ∧ (a3 + 2) < (L : Int)) ∧ m11_mayHarm S V (ys ((a3 + 1)).toNat) (ys ((a3 + 2)).toNat) (fun r493 V493 => m12_mayHarm V493 (ys ((a3 + 1)).toNat) (ys ((a3 + 2)).toNat) (fun r507 V507 => (inR r493) ∧ (inR r507) ∧ ((r493 = r507 → mL_law_L18 L ys Q n (nc) (ns) (a3 + 4) S V507) ∧ (¬ r493 = r507 → False))))) ∧ ((zand (ys (a3).toNat) 31) = 13 → (0 ≤ (a3 + 1) ∧ (a3 + 1) < (L : Int)) ∧ (0 ≤ (a3 + 2) ∧ (a3 + 2) < (L : Int)) ∧ m11_harm S V (ys ((a3 + 1)).toNat) (ys ((a3 + 2)).toNat) (fun r526 V526 => m12_harm V526 (ys ((a3 + 1)).toNat) (ys ((a3 + 2)).toNat) (fun r540 V540 => (inR r526) ∧ (inR r540) ∧ ((r526 = r540 → mL_law_L18 L ys Q n (nc) (ns) (a3 + 4) S V540) ∧ (¬ r526 = r540 → False))))) ∧ ((zand (ys (a3).toNat) 31) = 14 → m11_season S V (fun r549 V549 => m12_season V549 (fun r553 V553 => (inR r549) ∧ (inR r553) ∧ ((r549 = r553 → mL_law_L18 L ys Q n (nc) (ns) (a3 + 4) S V553) ∧ (¬ r549 = r553 → False))))) ∧ ((zand (ys (a3).toNat) 31) = 15 → (0 ≤ (a3 + 1) ∧ (a3 + 1) < (L : Int)) ∧ (0 ≤ (a3 + 2) ∧ (a3 + 2) < (L : Int)) ∧ (0 ≤ (a3 + 3) ∧ (a3 + 3) < (L : Int)) ∧ m11_comeBy S V (ys ((a3 + 1)).toNat) (ys ((a3 + 2)).toNat) (ys ((a3 + 3)).toNat) (fun r577 V577 => m12_comeBy V577 (ys ((a3 + 1)).toNat) (ys ((a3 + 2)).toNat) (ys ((a3 + 3)).toNat) (fun r596 V596 => (inR r577) ∧ (inR r596) ∧ ((r577 = r596 → mL_law_L18 L ys Q n (nc) (ns) (a3 + 4) S V596) ∧ (¬ r577 = r596 → False))))) ∧ ((zand (ys (a3).toNat) 31) = 16 → (0 ≤ (a3 + 1) ∧ (a3 + 1) < (L : Int)) ∧ m11_marry S V (ys ((a3 + 1)).toNat) (fun r610 V610 => m12_marry V610 (ys ((a3 + 1)).toNat) (fun r619 V619 => (inR r610) ∧ (inR r619) ∧ ((r610 = r619 → mL_law_L18 L ys Q n (nc) (ns) (a3 + 4) S V619) ∧ (¬ r610 = r619 → False))))) ∧ ((zand (ys (a3).toNat) 31) = 17 → (0 ≤ (a3 + 1) ∧ (a3 + 1) < (L : Int)) ∧ (0 ≤ (a3 + 2) ∧ (a3 + 2) < (L : Int)) ∧ m11_wills S V (ys ((a3 + 1)).toNat) (ys ((a3 + 2)).toNat) (fun r638 V638 => m12_wills V638 (ys ((a3 + 1)).toNat) (ys ((a3 + 2)).toNat) (fun r652 V652 => (inR r638) ∧ (inR r652) ∧ ((r638 = r652 → mL_law_L18 L ys Q n (nc) (ns) (a3 + 4) S V652) ∧ (¬ r638 = r652 → False))))) ∧ ((zand (ys (a3).toNat) 31) = 18 → (0 ≤ (a3 + 1) ∧ (a3 + 1) < (L : Int)) ∧ (0 ≤ (a3 + 2) ∧ (a3 + 2) < (L : Int)) ∧ (0 ≤ (a3 + 3) ∧ (a3 + 3) < (L : Int)) ∧ m11_left S V (ys ((a3 + 1)).toNat) (ys ((a3 + 2)).toNat) (ys ((a3 + 3)).toNat) (fun r676 V676 => m12_left V676 (ys ((a3 + 1)).toNat) (ys ((a3 + 2)).toNat) (ys ((a3 + 3)).toNat) (fun r695 V695 => (((wrL r676) = (wrL r695) → mL_law_L18 L ys Q n (nc) (ns) (a3 + 4) S V695) ∧ (¬ (wrL r676) = (wrL r695) → False))))) ∧ ((zand (ys (a3).toNat) 31) = 19 → (0 ≤ (a3 + 1) ∧ (a3 + 1) < (L : Int)) ∧ (0 ≤ (a3 + 2) ∧ (a3 + 2) < (L : Int)) ∧ m11_register S V (ys ((a3 + 1)).toNat) (ys ((a3 + 2)).toNat) (fun r715 V715 => m12_register V715 (ys ((a3 + 1)).toNat) (ys ((a3 + 2)).toNat) (fun r729 V729 => (inR r715) ∧ (inR r729) ∧ ((r715 = r729 → mL_law_L18 L ys Q n (nc) (ns) (a3 + 4) S V729) ∧ (¬ r715 = r729 → False))))) ∧ ((zand (ys (a3).toNat) 31) = 20 → m11_forget S V (fun r738 V738 => m12_forget V738 (fun r742 V742 => (inR r738) ∧ (inR r742) ∧ ((r738 = r742 → mL_law_L18 L ys Q n (nc) (ns) (a3 + 4) S V742) ∧ (¬ r738 = r742 → False))))) ∧ ((zand (ys (a3).toNat) 31) = 21 → (0 ≤ (a3 + 1) ∧ (a3 + 1) < (L : Int)) ∧ m11_lapsed S V (ys ((a3 + 1)).toNat) (fun r756 V756 => m12_lapsed V756 (ys ((a3 + 1)).toNat) (fun r765 V765 => (inR r756) ∧ (inR r765) ∧ ((r756 = r765 → mL_law_L18 L ys Q n (nc) (ns) (a3 + 4) S V765) ∧ (¬ r756 = r765 → False))))) ∧ ((zand (ys (a3).toNat) 31) = 22 → (0 ≤ (a3 + 1) ∧ (a3 + 1) < (L : Int)) ∧ (0 ≤ (a3 + 2) ∧ (a3 + 2) < (L : Int)) ∧ (0 ≤ (a3 + 3) ∧ (a3 + 3) < (L : Int)) ∧ m11_years S V (ys ((a3 + 1)).toNat) (ys ((a3 + 2)).toNat) (ys ((a3 + 3)).toNat) (fun r789 V789 => m12_years V789 (ys ((a3 + 1)).toNat) (ys ((a3 + 2)).toNat) (ys ((a3 + 3)).toNat) (fun r808 V808 => (inR r789) ∧ (inR r808) ∧ ((r789 = r808 → mL_law_L18 L ys Q n (nc) (ns) (a3 + 4) S V808) ∧ (¬ r789 = r808 → False))))) ∧ ((zand (ys (a3).toNat) 31) = 23 → m11_image S V (fun r817 V817 => m12_image V817 (fun r821 V821 => (inR r817) ∧ (inR r821) ∧ ((r817 = r821 → mL_law_L18 L ys Q n (nc) (ns) (a3 + 4) S V821) ∧ (¬ r817 = r821 → False))))) ∧ ((zand (ys (a3).toNat) 31) = 24 → m11_restore S V (fun r830 V830 => m12_restore V830 (fun r834 V834 => (inR r830) ∧ (inR r834) ∧ ((r830 = r834 → mL_law_L18 L ys Q n (nc) (ns) (a3 + 4) S V834) ∧ (¬ r830 = r834 → False))))) ∧ ((zand (ys (a3).toNat) 31) = 25 → (0 ≤ (a3 + 1) ∧ (a3 + 1) < (L : Int)) ∧ m11_count S V (ys ((a3 + 1)).toNat) (fun r848 V848 => m12_count V848 (ys ((a3 + 1)).toNat) (fun r857 V857 => (inR r848) ∧ (inR r857) ∧ ((r848 = r857 → mL_law_L18 L ys Q n (nc) (ns) (a3 + 4) S V857) ∧ (¬ r848 = r857 → False))))) ∧ ((zand (ys (a3).toNat) 31) = 26 → m11_digest S V (fun r866 V866 => m12_digest V866 (fun r870 V870 => (((wrL r866) = (wrL r870) → mL_law_L18 L ys Q n (nc) (ns) (a3 + 4) S V870) ∧ (¬ (wrL r866) = (wrL r870) → False))))) ∧ ((zand (ys (a3).toNat) 31) < 0 ∨ 26 < (zand (ys (a3).toNat) 31) → mL_law_L18 L ys Q n (nc) (ns) (a3 + 4) S V)))
/-- the law, over the abstract machine, from its beginning -/
def mL_law (L : Nat) (ys : Nat → Int) (Q : Unit) : Prop := mK_11_init_0 (vrow (fun _ _ => 0) 0 (fun _ => 0)) (fun V4 => mK_12_init_53 (vrow V4 53 (fun _ => 0)) (fun V12 => ∃ n, mL_law_L18 L ys Q n 68 1012 0 S_all V12))
theorem zn_L_7 : zN RL 7 11 := ⟨RX11, TX11, 10, tyX11, rfl, inT11, tyX11_ok, cl_L_7, ia_X11, in_X11, fun ad j hj => match j, hj with
    | 0, _ => ((zdefV ad (tag := 11) (k := 0) (kd := 2) rfl).trans rfl).symm
    | 1, _ => ((zdefV ad (tag := 11) (k := 1) (kd := 2) rfl).trans rfl).symm
    | 2, _ => ((zdefV ad (tag := 11) (k := 2) (kd := 2) rfl).trans rfl).symm
    | 3, _ => ((zdefV ad (tag := 11) (k := 3) (kd := 2) rfl).trans rfl).symm
    | 4, _ => ((zdefV ad (tag := 11) (k := 4) (kd := 2) rfl).trans rfl).symm
    | 5, _ => ((zdefV ad (tag := 11) (k := 5) (kd := 2) rfl).trans rfl).symm
    | 6, _ => ((zdefV ad (tag := 11) (k := 6) (kd := 2) rfl).trans rfl).symm
    | 7, _ => ((zdefV ad (tag := 11) (k := 7) (kd := 2) rfl).trans rfl).symm
    | 8, _ => ((zdefV ad (tag := 11) (k := 8) (kd := 0) rfl).trans rfl).symm
    | 9, _ => ((zdefV ad (tag := 11) (k := 9) (kd := 0) rfl).trans rfl).symm
    | k + 10, h => absurd h (by omega), by decide⟩
theorem zn_L_10 : zN RL 10 12 := ⟨RX12, TX12, 26, tyX12, rfl, inT12, tyX12_ok, cl_L_10, ia_X12, in_X12, fun ad j hj => match j, hj with
    | 0, _ => ((zdefV ad (tag := 12) (k := 0) (kd := 2) rfl).trans rfl).symm
    | 1, _ => ((zdefV ad (tag := 12) (k := 1) (kd := 0) rfl).trans rfl).symm
    | 2, _ => ((zdefV ad (tag := 12) (k := 2) (kd := 2) rfl).trans rfl).symm
    | 3, _ => ((zdefV ad (tag := 12) (k := 3) (kd := 0) rfl).trans rfl).symm
    | 4, _ => ((zdefV ad (tag := 12) (k := 4) (kd := 0) rfl).trans rfl).symm
    | 5, _ => ((zdefV ad (tag := 12) (k := 5) (kd := 0) rfl).trans rfl).symm
    | 6, _ => ((zdefV ad (tag := 12) (k := 6) (kd := 0) rfl).trans rfl).symm
    | 7, _ => ((zdefV ad (tag := 12) (k := 7) (kd := 2) rfl).trans rfl).symm
    | 8, _ => ((zdefV ad (tag := 12) (k := 8) (kd := 2) rfl).trans rfl).symm
    | 9, _ => ((zdefV ad (tag := 12) (k := 9) (kd := 0) rfl).trans rfl).symm
    | 10, _ => ((zdefV ad (tag := 12) (k := 10) (kd := 2) rfl).trans rfl).symm
    | 11, _ => ((zdefV ad (tag := 12) (k := 11) (kd := 2) rfl).trans rfl).symm
    | 12, _ => ((zdefV ad (tag := 12) (k := 12) (kd := 2) rfl).trans rfl).symm
    | 13, _ => ((zdefV ad (tag := 12) (k := 13) (kd := 2) rfl).trans rfl).symm
    | 14, _ => ((zdefV ad (tag := 12) (k := 14) (kd := 2) rfl).trans rfl).symm
    | 15, _ => ((zdefV ad (tag := 12) (k := 15) (kd := 0) rfl).trans rfl).symm
    | 16, _ => ((zdefV ad (tag := 12) (k := 16) (kd := 2) rfl).trans rfl).symm
    | 17, _ => ((zdefV ad (tag := 12) (k := 17) (kd := 0) rfl).trans rfl).symm
    | 18, _ => ((zdefV ad (tag := 12) (k := 18) (kd := 0) rfl).trans rfl).symm
    | 19, _ => ((zdefV ad (tag := 12) (k := 19) (kd := 0) rfl).trans rfl).symm
    | 20, _ => ((zdefV ad (tag := 12) (k := 20) (kd := 0) rfl).trans rfl).symm
    | 21, _ => ((zdefV ad (tag := 12) (k := 21) (kd := 2) rfl).trans rfl).symm
    | 22, _ => ((zdefV ad (tag := 12) (k := 22) (kd := 2) rfl).trans rfl).symm
    | 23, _ => ((zdefV ad (tag := 12) (k := 23) (kd := 2) rfl).trans rfl).symm
    | 24, _ => ((zdefV ad (tag := 12) (k := 24) (kd := 2) rfl).trans rfl).symm
    | 25, _ => ((zdefV ad (tag := 12) (k := 25) (kd := 1) rfl).trans rfl).symm
    | k + 26, h => absurd h (by omega), by decide⟩
set_option maxHeartbeats 8000000 in
set_option maxRecDepth 20000 in
theorem law_sound {X : zM} {nm : String} {b L : Nat} {xs : Nat → Int32} {ys : Nat → Int} {Q : Unit} (C : zCX X code 4 RL nm room_1) (hsx : zLX X b L xs ∧ ∀ j, ys j = (xs j).toInt) (hL : L ≤ 256) (hK : mL_law L ys Q) : zW X [] (fun _ _ => 0) 0 0 [some (zR 999999), none, none, none] [] 0 := by
  have L18 : ∀ (n : Nat) (nc : Nat) (ns : Nat) (a3 : Int) (S : List zC) (V : zV), PSx S → PSm S → nc ≤ 600000 ∧ ns ≤ 7302250 → mL_law_L18 L ys Q n nc ns a3 S V → zW X S V nc ns [some (zR 999999), some (zR 0), some (zR 53), some (zI a3)] [] 18 := by
    intro n18
    induction n18 with
    | zero => intro _ _ _ _ _ _ _ _ hK; exact hK.elim
    | succ n18 ih18 =>
      intro nc ns a3 S V hX hM hnc hK
      obtain ⟨w_0, r_0, h_0, g_0_0, g_0_1, g_0_2, g_0_3, g_0_4, g_0_5, g_0_6, g_0_7⟩ := PSx_0 hX
      obtain ⟨w_53, r_53, h_53, g_53_0, g_53_2, g_53_7, g_53_8, g_53_10, g_53_11, g_53_12, g_53_13, g_53_14, g_53_16, g_53_21, g_53_22, g_53_23, g_53_24⟩ := PSm_53 hM
      unfold mL_law_L18 at hK
      refine a_iload_n C dL_law_18 rfl ?_
      refine a_aload_n C dL_law_19 rfl ?_
      refine a_slen C hsx dL_law_20 ?_
      refine a_iconst C dL_law_21 ?_
      refine a_isub C dL_law_22 ?_
      obtain ⟨q223, hK⟩ := hK
      obtain ⟨q224, hK⟩ := hK
      refine a_icmp_gt C 885 dL_law_23 (by decide) ⟨q223, q224⟩ (fun q225 => ?_) (fun q225 => ?_)
      · replace hK := hK.1 q225
        refine a_iconst C dL_law_885 ?_
        exact a_lawret C hsx dL_law_886 hnc.1 hnc.2
      · replace hK := hK.2 q225
        refine a_aload_n C dL_law_26 rfl ?_
        refine a_iload_n C dL_law_27 rfl ?_
        obtain ⟨q226, hK⟩ := hK
        refine a_sld C hsx dL_law_28 hL q226 (fun r227 => ?_)
        refine a_bipush C dL_law_29 (by decide) ?_
        refine a_iand C dL_law_31 ?_
        obtain ⟨q228, hK⟩ := hK
        by_cases q229 : (zand (ys (a3).toNat) 31) = 0
        · refine a_tswIn C 0 156 dL_law_32 (by omega) q228 (by decide) rfl (by decide) ?_
          replace hK := hK.1 q229
          refine a_aload_n C dL_law_156 rfl ?_
          refine a_aload_n C dL_law_157 rfl ?_
          refine a_iload_n C dL_law_158 rfl ?_
          refine a_iconst C dL_law_159 ?_
          refine a_iadd C dL_law_160 ?_
          obtain ⟨q230, hK⟩ := hK
          refine a_sld C hsx dL_law_161 hL q230 (fun r231 => ?_)
          refine a_callV (as := [zI (ys ((a3 + 1)).toNat)]) (rest := []) C 1 (fun l => c11_letter l) h_0 ⟨_, _, rfl⟩ (by decide) ml_L_13 im_X11_letter se_X11_letter in_X11 co_X11_letter (by decide +kernel) rfl ⟨Nat.le_of_ble_eq_true rfl, Nat.le_of_ble_eq_true rfl⟩ (Nat.le_of_ble_eq_true rfl) dL_law_162 ⟨hnc.1, hnc.2⟩ ?_
          refine ⟨(ys ((a3 + 1)).toNat), _, rfl, hX, hK, fun r162 V162 hK => ?_⟩
          try dsimp only [Option.toList, List.cons_append, List.nil_append]
          refine a_aload_n C dL_law_165 rfl ?_
          refine a_aload_n C dL_law_166 rfl ?_
          refine a_iload_n C dL_law_167 rfl ?_
          refine a_iconst C dL_law_168 ?_
          refine a_iadd C dL_law_169 ?_
          refine a_sld C hsx dL_law_170 hL q230 (fun r232 => ?_)
          refine a_callV (as := [zI (ys ((a3 + 1)).toNat)]) (rest := [zI r162]) C 1 (fun l => c12_letter l) h_53 ⟨_, _, rfl⟩ (by decide) ml_L_17 im_X12_letter se_X12_letter in_X12 co_X12_letter (by decide +kernel) rfl ⟨Nat.le_of_ble_eq_true rfl, Nat.le_of_ble_eq_true rfl⟩ (Nat.le_of_ble_eq_true rfl) dL_law_171 ⟨hnc.1, hnc.2⟩ ?_
          refine ⟨(ys ((a3 + 1)).toNat), _, rfl, hM, hK, fun r171 V171 hK => ?_⟩
          try dsimp only [Option.toList, List.cons_append, List.nil_append]
          obtain ⟨q233, hK⟩ := hK
          obtain ⟨q234, hK⟩ := hK
          refine a_icmp_eq C 879 dL_law_174 (by decide) ⟨q233, q234⟩ (fun q235 => ?_) (fun q235 => ?_)
          · replace hK := hK.1 q235
            refine a_iinc C dL_law_879 rfl (Nat.le_of_ble_eq_true rfl) ?_
            refine a_goto C 18 dL_law_882 (by decide) ?_
            exact a_ls (lsub_s rfl (lsub_s rfl (lsub_s rfl (lsub_s rfl lsub_0)))) (ih18 _ _ (a3 + 4) _ _ hX hM hnc hK)
          · replace hK := hK.2 q235
            refine a_iconst C dL_law_177 ?_
            exact hK.elim
        replace hK := hK.2
        by_cases q236 : (zand (ys (a3).toNat) 31) = 1
        · refine a_tswIn C 1 179 dL_law_32 (by omega) q228 (by decide) rfl (by decide) ?_
          replace hK := hK.1 q236
          refine a_aload_n C dL_law_179 rfl ?_
          refine a_callV (as := []) (rest := []) C 0 (fun l => c11_blank l) h_0 ⟨_, _, rfl⟩ (by decide) ml_L_18 im_X11_blank se_X11_blank in_X11 co_X11_blank (by decide +kernel) rfl ⟨Nat.le_of_ble_eq_true rfl, Nat.le_of_ble_eq_true rfl⟩ (Nat.le_of_ble_eq_true rfl) dL_law_180 ⟨hnc.1, hnc.2⟩ ?_
          refine ⟨_, rfl, hX, hK, fun r180 V180 hK => ?_⟩
          try dsimp only [Option.toList, List.cons_append, List.nil_append]
          refine a_aload_n C dL_law_183 rfl ?_
          refine a_callV (as := []) (rest := [zI r180]) C 0 (fun l => c12_blank l) h_53 ⟨_, _, rfl⟩ (by decide) ml_L_22 im_X12_blank se_X12_blank in_X12 co_X12_blank (by decide +kernel) rfl ⟨Nat.le_of_ble_eq_true rfl, Nat.le_of_ble_eq_true rfl⟩ (Nat.le_of_ble_eq_true rfl) dL_law_184 ⟨hnc.1, hnc.2⟩ ?_
          refine ⟨_, rfl, hM, hK, fun r184 V184 hK => ?_⟩
          try dsimp only [Option.toList, List.cons_append, List.nil_append]
          obtain ⟨q237, hK⟩ := hK
          obtain ⟨q238, hK⟩ := hK
          refine a_icmp_eq C 879 dL_law_187 (by decide) ⟨q237, q238⟩ (fun q239 => ?_) (fun q239 => ?_)
          · replace hK := hK.1 q239
            refine a_iinc C dL_law_879 rfl (Nat.le_of_ble_eq_true rfl) ?_
            refine a_goto C 18 dL_law_882 (by decide) ?_
            exact a_ls (lsub_s rfl (lsub_s rfl (lsub_s rfl (lsub_s rfl lsub_0)))) (ih18 _ _ (a3 + 4) _ _ hX hM hnc hK)
          · replace hK := hK.2 q239
            refine a_iconst C dL_law_190 ?_
            exact hK.elim
        replace hK := hK.2
        by_cases q240 : (zand (ys (a3).toNat) 31) = 2
        · refine a_tswIn C 2 192 dL_law_32 (by omega) q228 (by decide) rfl (by decide) ?_
          replace hK := hK.1 q240
          refine a_aload_n C dL_law_192 rfl ?_
          refine a_callV (as := []) (rest := []) C 0 (fun l => c11_fault l) h_0 ⟨_, _, rfl⟩ (by decide) ml_L_23 im_X11_fault se_X11_fault in_X11 co_X11_fault (by decide +kernel) rfl ⟨Nat.le_of_ble_eq_true rfl, Nat.le_of_ble_eq_true rfl⟩ (Nat.le_of_ble_eq_true rfl) dL_law_193 ⟨hnc.1, hnc.2⟩ ?_
          refine ⟨_, rfl, hX, hK, fun r193 V193 hK => ?_⟩
          try dsimp only [Option.toList, List.cons_append, List.nil_append]
          refine a_aload_n C dL_law_196 rfl ?_
          refine a_callV (as := []) (rest := [zI r193]) C 0 (fun l => c12_fault l) h_53 ⟨_, _, rfl⟩ (by decide) ml_L_26 im_X12_fault se_X12_fault in_X12 co_X12_fault (by decide +kernel) rfl ⟨Nat.le_of_ble_eq_true rfl, Nat.le_of_ble_eq_true rfl⟩ (Nat.le_of_ble_eq_true rfl) dL_law_197 ⟨hnc.1, hnc.2⟩ ?_
          refine ⟨_, rfl, hM, hK, fun r197 V197 hK => ?_⟩
          try dsimp only [Option.toList, List.cons_append, List.nil_append]
          obtain ⟨q241, hK⟩ := hK
          obtain ⟨q242, hK⟩ := hK
          refine a_icmp_eq C 879 dL_law_200 (by decide) ⟨q241, q242⟩ (fun q243 => ?_) (fun q243 => ?_)
          · replace hK := hK.1 q243
            refine a_iinc C dL_law_879 rfl (Nat.le_of_ble_eq_true rfl) ?_
            refine a_goto C 18 dL_law_882 (by decide) ?_
            exact a_ls (lsub_s rfl (lsub_s rfl (lsub_s rfl (lsub_s rfl lsub_0)))) (ih18 _ _ (a3 + 4) _ _ hX hM hnc hK)
          · replace hK := hK.2 q243
            refine a_iconst C dL_law_203 ?_
            exact hK.elim
        replace hK := hK.2
        by_cases q244 : (zand (ys (a3).toNat) 31) = 3
        · refine a_tswIn C 3 205 dL_law_32 (by omega) q228 (by decide) rfl (by decide) ?_
          replace hK := hK.1 q244
          refine a_aload_n C dL_law_205 rfl ?_
          obtain ⟨qn, hK⟩ := hK
          refine a_callV (as := []) (rest := []) C 0 (fun l => c11_list l) h_0 ⟨_, _, rfl⟩ (by decide) ml_L_27 im_X11_list se_X11_list in_X11 co_X11_list (by decide +kernel) rfl ⟨Nat.le_of_ble_eq_true rfl, Nat.le_of_ble_eq_true rfl⟩ (Nat.le_of_ble_eq_true rfl) dL_law_206 qn ?_
          refine ⟨_, rfl, hX, hK, fun r206 S206 V206 hk2 hK => ?_⟩
          have hX := hX.keep hk2
          have hM := hM.keep hk2
          have hnc := qn
          obtain ⟨w_0, r_0, h_0, g_0_0, g_0_1, g_0_2, g_0_3, g_0_4, g_0_5, g_0_6, g_0_7⟩ := PSx_0 hX
          obtain ⟨w_53, r_53, h_53, g_53_0, g_53_2, g_53_7, g_53_8, g_53_10, g_53_11, g_53_12, g_53_13, g_53_14, g_53_16, g_53_21, g_53_22, g_53_23, g_53_24⟩ := PSm_53 hM
          try dsimp only [Option.toList, List.cons_append, List.nil_append]
          refine a_aload_n C dL_law_209 rfl ?_
          refine a_callV (as := []) (rest := [zI r206]) C 0 (fun l => c12_list l) h_53 ⟨_, _, rfl⟩ (by decide) ml_L_30 im_X12_list se_X12_list in_X12 co_X12_list (by decide +kernel) rfl ⟨Nat.le_of_ble_eq_true rfl, Nat.le_of_ble_eq_true rfl⟩ (Nat.le_of_ble_eq_true rfl) dL_law_210 ⟨hnc.1, hnc.2⟩ ?_
          refine ⟨_, rfl, hM, hK, fun r210 V210 hK => ?_⟩
          try dsimp only [Option.toList, List.cons_append, List.nil_append]
          obtain ⟨q245, hK⟩ := hK
          obtain ⟨q246, hK⟩ := hK
          refine a_icmp_eq C 879 dL_law_213 (by decide) ⟨q245, q246⟩ (fun q247 => ?_) (fun q247 => ?_)
          · replace hK := hK.1 q247
            refine a_iinc C dL_law_879 rfl (Nat.le_of_ble_eq_true rfl) ?_
            refine a_goto C 18 dL_law_882 (by decide) ?_
            exact a_ls (lsub_s rfl (lsub_s rfl (lsub_s rfl (lsub_s rfl lsub_0)))) (ih18 _ _ (a3 + 4) _ _ hX hM hnc hK)
          · replace hK := hK.2 q247
            refine a_iconst C dL_law_216 ?_
            exact hK.elim
        replace hK := hK.2
        by_cases q248 : (zand (ys (a3).toNat) 31) = 4
        · refine a_tswIn C 4 218 dL_law_32 (by omega) q228 (by decide) rfl (by decide) ?_
          replace hK := hK.1 q248
          refine a_aload_n C dL_law_218 rfl ?_
          refine a_aload_n C dL_law_219 rfl ?_
          refine a_iload_n C dL_law_220 rfl ?_
          refine a_iconst C dL_law_221 ?_
          refine a_iadd C dL_law_222 ?_
          obtain ⟨q249, hK⟩ := hK
          refine a_sld C hsx dL_law_223 hL q249 (fun r250 => ?_)
          refine a_aload_n C dL_law_224 rfl ?_
          refine a_iload_n C dL_law_225 rfl ?_
          refine a_iconst C dL_law_226 ?_
          refine a_iadd C dL_law_227 ?_
          obtain ⟨q251, hK⟩ := hK
          refine a_sld C hsx dL_law_228 hL q251 (fun r252 => ?_)
          refine a_callV (as := [zI (ys ((a3 + 1)).toNat), zI (ys ((a3 + 2)).toNat)]) (rest := []) C 2 (fun l => c11_about l) h_0 ⟨_, _, rfl⟩ (by decide) ml_L_31 im_X11_about se_X11_about in_X11 co_X11_about (by decide +kernel) rfl ⟨Nat.le_of_ble_eq_true rfl, Nat.le_of_ble_eq_true rfl⟩ (Nat.le_of_ble_eq_true rfl) dL_law_229 ⟨hnc.1, hnc.2⟩ ?_
          refine ⟨(ys ((a3 + 1)).toNat), (ys ((a3 + 2)).toNat), _, rfl, hX, hK, fun r229 V229 hK => ?_⟩
          try dsimp only [Option.toList, List.cons_append, List.nil_append]
          refine a_aload_n C dL_law_232 rfl ?_
          refine a_aload_n C dL_law_233 rfl ?_
          refine a_iload_n C dL_law_234 rfl ?_
          refine a_iconst C dL_law_235 ?_
          refine a_iadd C dL_law_236 ?_
          refine a_sld C hsx dL_law_237 hL q249 (fun r253 => ?_)
          refine a_aload_n C dL_law_238 rfl ?_
          refine a_iload_n C dL_law_239 rfl ?_
          refine a_iconst C dL_law_240 ?_
          refine a_iadd C dL_law_241 ?_
          refine a_sld C hsx dL_law_242 hL q251 (fun r254 => ?_)
          refine a_callV (as := [zI (ys ((a3 + 1)).toNat), zI (ys ((a3 + 2)).toNat)]) (rest := [zI r229]) C 2 (fun l => c12_about l) h_53 ⟨_, _, rfl⟩ (by decide) ml_L_35 im_X12_about se_X12_about in_X12 co_X12_about (by decide +kernel) rfl ⟨Nat.le_of_ble_eq_true rfl, Nat.le_of_ble_eq_true rfl⟩ (Nat.le_of_ble_eq_true rfl) dL_law_243 ⟨hnc.1, hnc.2⟩ ?_
          refine ⟨(ys ((a3 + 1)).toNat), (ys ((a3 + 2)).toNat), _, rfl, hM, hK, fun r243 V243 hK => ?_⟩
          try dsimp only [Option.toList, List.cons_append, List.nil_append]
          obtain ⟨q255, hK⟩ := hK
          obtain ⟨q256, hK⟩ := hK
          refine a_icmp_eq C 879 dL_law_246 (by decide) ⟨q255, q256⟩ (fun q257 => ?_) (fun q257 => ?_)
          · replace hK := hK.1 q257
            refine a_iinc C dL_law_879 rfl (Nat.le_of_ble_eq_true rfl) ?_
            refine a_goto C 18 dL_law_882 (by decide) ?_
            exact a_ls (lsub_s rfl (lsub_s rfl (lsub_s rfl (lsub_s rfl lsub_0)))) (ih18 _ _ (a3 + 4) _ _ hX hM hnc hK)
          · replace hK := hK.2 q257
            refine a_iconst C dL_law_249 ?_
            exact hK.elim
        replace hK := hK.2
        by_cases q258 : (zand (ys (a3).toNat) 31) = 5
        · refine a_tswIn C 5 251 dL_law_32 (by omega) q228 (by decide) rfl (by decide) ?_
          replace hK := hK.1 q258
          refine a_aload_n C dL_law_251 rfl ?_
          refine a_aload_n C dL_law_252 rfl ?_
          refine a_iload_n C dL_law_253 rfl ?_
          refine a_iconst C dL_law_254 ?_
          refine a_iadd C dL_law_255 ?_
          obtain ⟨q259, hK⟩ := hK
          refine a_sld C hsx dL_law_256 hL q259 (fun r260 => ?_)
          refine a_aload_n C dL_law_257 rfl ?_
          refine a_iload_n C dL_law_258 rfl ?_
          refine a_iconst C dL_law_259 ?_
          refine a_iadd C dL_law_260 ?_
          obtain ⟨q261, hK⟩ := hK
          refine a_sld C hsx dL_law_261 hL q261 (fun r262 => ?_)
          refine a_callV (as := [zI (ys ((a3 + 1)).toNat), zI (ys ((a3 + 2)).toNat)]) (rest := []) C 2 (fun l => c11_as l) h_0 ⟨_, _, rfl⟩ (by decide) ml_L_36 im_X11_as se_X11_as in_X11 co_X11_as (by decide +kernel) rfl ⟨Nat.le_of_ble_eq_true rfl, Nat.le_of_ble_eq_true rfl⟩ (Nat.le_of_ble_eq_true rfl) dL_law_262 ⟨hnc.1, hnc.2⟩ ?_
          refine ⟨(ys ((a3 + 1)).toNat), (ys ((a3 + 2)).toNat), _, rfl, hX, hK, fun r262 V262 hK => ?_⟩
          try dsimp only [Option.toList, List.cons_append, List.nil_append]
          refine a_aload_n C dL_law_265 rfl ?_
          refine a_aload_n C dL_law_266 rfl ?_
          refine a_iload_n C dL_law_267 rfl ?_
          refine a_iconst C dL_law_268 ?_
          refine a_iadd C dL_law_269 ?_
          refine a_sld C hsx dL_law_270 hL q259 (fun r263 => ?_)
          refine a_aload_n C dL_law_271 rfl ?_
          refine a_iload_n C dL_law_272 rfl ?_
          refine a_iconst C dL_law_273 ?_
          refine a_iadd C dL_law_274 ?_
          refine a_sld C hsx dL_law_275 hL q261 (fun r264 => ?_)
          refine a_callV (as := [zI (ys ((a3 + 1)).toNat), zI (ys ((a3 + 2)).toNat)]) (rest := [zI r262]) C 2 (fun l => c12_as l) h_53 ⟨_, _, rfl⟩ (by decide) ml_L_39 im_X12_as se_X12_as in_X12 co_X12_as (by decide +kernel) rfl ⟨Nat.le_of_ble_eq_true rfl, Nat.le_of_ble_eq_true rfl⟩ (Nat.le_of_ble_eq_true rfl) dL_law_276 ⟨hnc.1, hnc.2⟩ ?_
          refine ⟨(ys ((a3 + 1)).toNat), (ys ((a3 + 2)).toNat), _, rfl, hM, hK, fun r276 V276 hK => ?_⟩
          try dsimp only [Option.toList, List.cons_append, List.nil_append]
          obtain ⟨q265, hK⟩ := hK
          obtain ⟨q266, hK⟩ := hK
          refine a_icmp_eq C 879 dL_law_279 (by decide) ⟨q265, q266⟩ (fun q267 => ?_) (fun q267 => ?_)
          · replace hK := hK.1 q267
            refine a_iinc C dL_law_879 rfl (Nat.le_of_ble_eq_true rfl) ?_
            refine a_goto C 18 dL_law_882 (by decide) ?_
            exact a_ls (lsub_s rfl (lsub_s rfl (lsub_s rfl (lsub_s rfl lsub_0)))) (ih18 _ _ (a3 + 4) _ _ hX hM hnc hK)
          · replace hK := hK.2 q267
            refine a_iconst C dL_law_282 ?_
            exact hK.elim
        replace hK := hK.2
        by_cases q268 : (zand (ys (a3).toNat) 31) = 6
        · refine a_tswIn C 6 284 dL_law_32 (by omega) q228 (by decide) rfl (by decide) ?_
          replace hK := hK.1 q268
          refine a_aload_n C dL_law_284 rfl ?_
          refine a_aload_n C dL_law_285 rfl ?_
          refine a_iload_n C dL_law_286 rfl ?_
          refine a_iconst C dL_law_287 ?_
          refine a_iadd C dL_law_288 ?_
          obtain ⟨q269, hK⟩ := hK
          refine a_sld C hsx dL_law_289 hL q269 (fun r270 => ?_)
          refine a_aload_n C dL_law_290 rfl ?_
          refine a_iload_n C dL_law_291 rfl ?_
          refine a_iconst C dL_law_292 ?_
          refine a_iadd C dL_law_293 ?_
          obtain ⟨q271, hK⟩ := hK
          refine a_sld C hsx dL_law_294 hL q271 (fun r272 => ?_)
          refine a_callV (as := [zI (ys ((a3 + 1)).toNat), zI (ys ((a3 + 2)).toNat)]) (rest := []) C 2 (fun l => c11_person l) h_0 ⟨_, _, rfl⟩ (by decide) ml_L_40 im_X11_person se_X11_person in_X11 co_X11_person (by decide +kernel) rfl ⟨Nat.le_of_ble_eq_true rfl, Nat.le_of_ble_eq_true rfl⟩ (Nat.le_of_ble_eq_true rfl) dL_law_295 ⟨hnc.1, hnc.2⟩ ?_
          refine ⟨(ys ((a3 + 1)).toNat), (ys ((a3 + 2)).toNat), _, rfl, hX, hK, fun r295 V295 hK => ?_⟩
          try dsimp only [Option.toList, List.cons_append, List.nil_append]
          refine a_aload_n C dL_law_298 rfl ?_
          refine a_aload_n C dL_law_299 rfl ?_
          refine a_iload_n C dL_law_300 rfl ?_
          refine a_iconst C dL_law_301 ?_
          refine a_iadd C dL_law_302 ?_
          refine a_sld C hsx dL_law_303 hL q269 (fun r273 => ?_)
          refine a_aload_n C dL_law_304 rfl ?_
          refine a_iload_n C dL_law_305 rfl ?_
          refine a_iconst C dL_law_306 ?_
          refine a_iadd C dL_law_307 ?_
          refine a_sld C hsx dL_law_308 hL q271 (fun r274 => ?_)
          refine a_callV (as := [zI (ys ((a3 + 1)).toNat), zI (ys ((a3 + 2)).toNat)]) (rest := [zI r295]) C 2 (fun l => c12_person l) h_53 ⟨_, _, rfl⟩ (by decide) ml_L_43 im_X12_person se_X12_person in_X12 co_X12_person (by decide +kernel) rfl ⟨Nat.le_of_ble_eq_true rfl, Nat.le_of_ble_eq_true rfl⟩ (Nat.le_of_ble_eq_true rfl) dL_law_309 ⟨hnc.1, hnc.2⟩ ?_
          refine ⟨(ys ((a3 + 1)).toNat), (ys ((a3 + 2)).toNat), _, rfl, hM, hK, fun r309 V309 hK => ?_⟩
          try dsimp only [Option.toList, List.cons_append, List.nil_append]
          obtain ⟨q275, hK⟩ := hK
          obtain ⟨q276, hK⟩ := hK
          refine a_icmp_eq C 879 dL_law_312 (by decide) ⟨q275, q276⟩ (fun q277 => ?_) (fun q277 => ?_)
          · replace hK := hK.1 q277
            refine a_iinc C dL_law_879 rfl (Nat.le_of_ble_eq_true rfl) ?_
            refine a_goto C 18 dL_law_882 (by decide) ?_
            exact a_ls (lsub_s rfl (lsub_s rfl (lsub_s rfl (lsub_s rfl lsub_0)))) (ih18 _ _ (a3 + 4) _ _ hX hM hnc hK)
          · replace hK := hK.2 q277
            refine a_iconst C dL_law_315 ?_
            exact hK.elim
        replace hK := hK.2
        by_cases q278 : (zand (ys (a3).toNat) 31) = 7
        · refine a_tswIn C 7 317 dL_law_32 (by omega) q228 (by decide) rfl (by decide) ?_
          replace hK := hK.1 q278
          refine a_aload_n C dL_law_317 rfl ?_
          refine a_aload_n C dL_law_318 rfl ?_
          refine a_iload_n C dL_law_319 rfl ?_
          refine a_iconst C dL_law_320 ?_
          refine a_iadd C dL_law_321 ?_
          obtain ⟨q279, hK⟩ := hK
          refine a_sld C hsx dL_law_322 hL q279 (fun r280 => ?_)
          refine a_aload_n C dL_law_323 rfl ?_
          refine a_iload_n C dL_law_324 rfl ?_
          refine a_iconst C dL_law_325 ?_
          refine a_iadd C dL_law_326 ?_
          obtain ⟨q281, hK⟩ := hK
          refine a_sld C hsx dL_law_327 hL q281 (fun r282 => ?_)
          refine a_callV (as := [zI (ys ((a3 + 1)).toNat), zI (ys ((a3 + 2)).toNat)]) (rest := []) C 2 (fun l => c11_heir l) h_0 ⟨_, _, rfl⟩ (by decide) ml_L_44 im_X11_heir se_X11_heir in_X11 co_X11_heir (by decide +kernel) rfl ⟨Nat.le_of_ble_eq_true rfl, Nat.le_of_ble_eq_true rfl⟩ (Nat.le_of_ble_eq_true rfl) dL_law_328 ⟨hnc.1, hnc.2⟩ ?_
          refine ⟨(ys ((a3 + 1)).toNat), (ys ((a3 + 2)).toNat), _, rfl, hX, hK, fun r328 V328 hK => ?_⟩
          try dsimp only [Option.toList, List.cons_append, List.nil_append]
          refine a_aload_n C dL_law_331 rfl ?_
          refine a_aload_n C dL_law_332 rfl ?_
          refine a_iload_n C dL_law_333 rfl ?_
          refine a_iconst C dL_law_334 ?_
          refine a_iadd C dL_law_335 ?_
          refine a_sld C hsx dL_law_336 hL q279 (fun r283 => ?_)
          refine a_aload_n C dL_law_337 rfl ?_
          refine a_iload_n C dL_law_338 rfl ?_
          refine a_iconst C dL_law_339 ?_
          refine a_iadd C dL_law_340 ?_
          refine a_sld C hsx dL_law_341 hL q281 (fun r284 => ?_)
          refine a_callV (as := [zI (ys ((a3 + 1)).toNat), zI (ys ((a3 + 2)).toNat)]) (rest := [zI r328]) C 2 (fun l => c12_heir l) h_53 ⟨_, _, rfl⟩ (by decide) ml_L_47 im_X12_heir se_X12_heir in_X12 co_X12_heir (by decide +kernel) rfl ⟨Nat.le_of_ble_eq_true rfl, Nat.le_of_ble_eq_true rfl⟩ (Nat.le_of_ble_eq_true rfl) dL_law_342 ⟨hnc.1, hnc.2⟩ ?_
          refine ⟨(ys ((a3 + 1)).toNat), (ys ((a3 + 2)).toNat), _, rfl, hM, hK, fun r342 V342 hK => ?_⟩
          try dsimp only [Option.toList, List.cons_append, List.nil_append]
          obtain ⟨q285, hK⟩ := hK
          obtain ⟨q286, hK⟩ := hK
          refine a_icmp_eq C 879 dL_law_345 (by decide) ⟨q285, q286⟩ (fun q287 => ?_) (fun q287 => ?_)
          · replace hK := hK.1 q287
            refine a_iinc C dL_law_879 rfl (Nat.le_of_ble_eq_true rfl) ?_
            refine a_goto C 18 dL_law_882 (by decide) ?_
            exact a_ls (lsub_s rfl (lsub_s rfl (lsub_s rfl (lsub_s rfl lsub_0)))) (ih18 _ _ (a3 + 4) _ _ hX hM hnc hK)
          · replace hK := hK.2 q287
            refine a_iconst C dL_law_348 ?_
            exact hK.elim
        replace hK := hK.2
        by_cases q288 : (zand (ys (a3).toNat) 31) = 8
        · refine a_tswIn C 8 350 dL_law_32 (by omega) q228 (by decide) rfl (by decide) ?_
          replace hK := hK.1 q288
          refine a_aload_n C dL_law_350 rfl ?_
          refine a_aload_n C dL_law_351 rfl ?_
          refine a_iload_n C dL_law_352 rfl ?_
          refine a_iconst C dL_law_353 ?_
          refine a_iadd C dL_law_354 ?_
          obtain ⟨q289, hK⟩ := hK
          refine a_sld C hsx dL_law_355 hL q289 (fun r290 => ?_)
          refine a_aload_n C dL_law_356 rfl ?_
          refine a_iload_n C dL_law_357 rfl ?_
          refine a_iconst C dL_law_358 ?_
          refine a_iadd C dL_law_359 ?_
          obtain ⟨q291, hK⟩ := hK
          refine a_sld C hsx dL_law_360 hL q291 (fun r292 => ?_)
          refine a_aload_n C dL_law_361 rfl ?_
          refine a_iload_n C dL_law_362 rfl ?_
          refine a_iconst C dL_law_363 ?_
          refine a_iadd C dL_law_364 ?_
          obtain ⟨q293, hK⟩ := hK
          refine a_sld C hsx dL_law_365 hL q293 (fun r294 => ?_)
          refine a_callV (as := [zI (ys ((a3 + 1)).toNat), zI (ys ((a3 + 2)).toNat), zI (ys ((a3 + 3)).toNat)]) (rest := []) C 3 (fun l => c11_buy l) h_0 ⟨_, _, rfl⟩ (by decide) ml_L_48 im_X11_buy se_X11_buy in_X11 co_X11_buy (by decide +kernel) rfl ⟨Nat.le_of_ble_eq_true rfl, Nat.le_of_ble_eq_true rfl⟩ (Nat.le_of_ble_eq_true rfl) dL_law_366 ⟨hnc.1, hnc.2⟩ ?_
          refine ⟨(ys ((a3 + 1)).toNat), (ys ((a3 + 2)).toNat), (ys ((a3 + 3)).toNat), _, rfl, hX, hK, fun r366 V366 hK => ?_⟩
          try dsimp only [Option.toList, List.cons_append, List.nil_append]
          refine a_aload_n C dL_law_369 rfl ?_
          refine a_aload_n C dL_law_370 rfl ?_
          refine a_iload_n C dL_law_371 rfl ?_
          refine a_iconst C dL_law_372 ?_
          refine a_iadd C dL_law_373 ?_
          refine a_sld C hsx dL_law_374 hL q289 (fun r295 => ?_)
          refine a_aload_n C dL_law_375 rfl ?_
          refine a_iload_n C dL_law_376 rfl ?_
          refine a_iconst C dL_law_377 ?_
          refine a_iadd C dL_law_378 ?_
          refine a_sld C hsx dL_law_379 hL q291 (fun r296 => ?_)
          refine a_aload_n C dL_law_380 rfl ?_
          refine a_iload_n C dL_law_381 rfl ?_
          refine a_iconst C dL_law_382 ?_
          refine a_iadd C dL_law_383 ?_
          refine a_sld C hsx dL_law_384 hL q293 (fun r297 => ?_)
          refine a_callV (as := [zI (ys ((a3 + 1)).toNat), zI (ys ((a3 + 2)).toNat), zI (ys ((a3 + 3)).toNat)]) (rest := [zI r366]) C 3 (fun l => c12_buy l) h_53 ⟨_, _, rfl⟩ (by decide) ml_L_52 im_X12_buy se_X12_buy in_X12 co_X12_buy (by decide +kernel) rfl ⟨Nat.le_of_ble_eq_true rfl, Nat.le_of_ble_eq_true rfl⟩ (Nat.le_of_ble_eq_true rfl) dL_law_385 ⟨hnc.1, hnc.2⟩ ?_
          refine ⟨(ys ((a3 + 1)).toNat), (ys ((a3 + 2)).toNat), (ys ((a3 + 3)).toNat), _, rfl, hM, hK, fun r385 V385 hK => ?_⟩
          try dsimp only [Option.toList, List.cons_append, List.nil_append]
          obtain ⟨q298, hK⟩ := hK
          obtain ⟨q299, hK⟩ := hK
          refine a_icmp_eq C 879 dL_law_388 (by decide) ⟨q298, q299⟩ (fun q300 => ?_) (fun q300 => ?_)
          · replace hK := hK.1 q300
            refine a_iinc C dL_law_879 rfl (Nat.le_of_ble_eq_true rfl) ?_
            refine a_goto C 18 dL_law_882 (by decide) ?_
            exact a_ls (lsub_s rfl (lsub_s rfl (lsub_s rfl (lsub_s rfl lsub_0)))) (ih18 _ _ (a3 + 4) _ _ hX hM hnc hK)
          · replace hK := hK.2 q300
            refine a_iconst C dL_law_391 ?_
            exact hK.elim
        replace hK := hK.2
        by_cases q301 : (zand (ys (a3).toNat) 31) = 9
        · refine a_tswIn C 9 393 dL_law_32 (by omega) q228 (by decide) rfl (by decide) ?_
          replace hK := hK.1 q301
          refine a_aload_n C dL_law_393 rfl ?_
          refine a_aload_n C dL_law_394 rfl ?_
          refine a_iload_n C dL_law_395 rfl ?_
          refine a_iconst C dL_law_396 ?_
          refine a_iadd C dL_law_397 ?_
          obtain ⟨q302, hK⟩ := hK
          refine a_sld C hsx dL_law_398 hL q302 (fun r303 => ?_)
          refine a_aload_n C dL_law_399 rfl ?_
          refine a_iload_n C dL_law_400 rfl ?_
          refine a_iconst C dL_law_401 ?_
          refine a_iadd C dL_law_402 ?_
          obtain ⟨q304, hK⟩ := hK
          refine a_sld C hsx dL_law_403 hL q304 (fun r305 => ?_)
          refine a_aload_n C dL_law_404 rfl ?_
          refine a_iload_n C dL_law_405 rfl ?_
          refine a_iconst C dL_law_406 ?_
          refine a_iadd C dL_law_407 ?_
          obtain ⟨q306, hK⟩ := hK
          refine a_sld C hsx dL_law_408 hL q306 (fun r307 => ?_)
          refine a_callV (as := [zI (ys ((a3 + 1)).toNat), zI (ys ((a3 + 2)).toNat), zI (ys ((a3 + 3)).toNat)]) (rest := []) C 3 (fun l => c11_lend l) h_0 ⟨_, _, rfl⟩ (by decide) ml_L_53 im_X11_lend se_X11_lend in_X11 co_X11_lend (by decide +kernel) rfl ⟨Nat.le_of_ble_eq_true rfl, Nat.le_of_ble_eq_true rfl⟩ (Nat.le_of_ble_eq_true rfl) dL_law_409 ⟨hnc.1, hnc.2⟩ ?_
          refine ⟨(ys ((a3 + 1)).toNat), (ys ((a3 + 2)).toNat), (ys ((a3 + 3)).toNat), _, rfl, hX, hK, fun r409 V409 hK => ?_⟩
          try dsimp only [Option.toList, List.cons_append, List.nil_append]
          refine a_aload_n C dL_law_412 rfl ?_
          refine a_aload_n C dL_law_413 rfl ?_
          refine a_iload_n C dL_law_414 rfl ?_
          refine a_iconst C dL_law_415 ?_
          refine a_iadd C dL_law_416 ?_
          refine a_sld C hsx dL_law_417 hL q302 (fun r308 => ?_)
          refine a_aload_n C dL_law_418 rfl ?_
          refine a_iload_n C dL_law_419 rfl ?_
          refine a_iconst C dL_law_420 ?_
          refine a_iadd C dL_law_421 ?_
          refine a_sld C hsx dL_law_422 hL q304 (fun r309 => ?_)
          refine a_aload_n C dL_law_423 rfl ?_
          refine a_iload_n C dL_law_424 rfl ?_
          refine a_iconst C dL_law_425 ?_
          refine a_iadd C dL_law_426 ?_
          refine a_sld C hsx dL_law_427 hL q306 (fun r310 => ?_)
          refine a_callV (as := [zI (ys ((a3 + 1)).toNat), zI (ys ((a3 + 2)).toNat), zI (ys ((a3 + 3)).toNat)]) (rest := [zI r409]) C 3 (fun l => c12_lend l) h_53 ⟨_, _, rfl⟩ (by decide) ml_L_56 im_X12_lend se_X12_lend in_X12 co_X12_lend (by decide +kernel) rfl ⟨Nat.le_of_ble_eq_true rfl, Nat.le_of_ble_eq_true rfl⟩ (Nat.le_of_ble_eq_true rfl) dL_law_428 ⟨hnc.1, hnc.2⟩ ?_
          refine ⟨(ys ((a3 + 1)).toNat), (ys ((a3 + 2)).toNat), (ys ((a3 + 3)).toNat), _, rfl, hM, hK, fun r428 V428 hK => ?_⟩
          try dsimp only [Option.toList, List.cons_append, List.nil_append]
          obtain ⟨q311, hK⟩ := hK
          obtain ⟨q312, hK⟩ := hK
          refine a_icmp_eq C 879 dL_law_431 (by decide) ⟨q311, q312⟩ (fun q313 => ?_) (fun q313 => ?_)
          · replace hK := hK.1 q313
            refine a_iinc C dL_law_879 rfl (Nat.le_of_ble_eq_true rfl) ?_
            refine a_goto C 18 dL_law_882 (by decide) ?_
            exact a_ls (lsub_s rfl (lsub_s rfl (lsub_s rfl (lsub_s rfl lsub_0)))) (ih18 _ _ (a3 + 4) _ _ hX hM hnc hK)
          · replace hK := hK.2 q313
            refine a_iconst C dL_law_434 ?_
            exact hK.elim
        replace hK := hK.2
        by_cases q314 : (zand (ys (a3).toNat) 31) = 10
        · refine a_tswIn C 10 436 dL_law_32 (by omega) q228 (by decide) rfl (by decide) ?_
          replace hK := hK.1 q314
          refine a_aload_n C dL_law_436 rfl ?_
          refine a_aload_n C dL_law_437 rfl ?_
          refine a_iload_n C dL_law_438 rfl ?_
          refine a_iconst C dL_law_439 ?_
          refine a_iadd C dL_law_440 ?_
          obtain ⟨q315, hK⟩ := hK
          refine a_sld C hsx dL_law_441 hL q315 (fun r316 => ?_)
          refine a_callV (as := [zI (ys ((a3 + 1)).toNat)]) (rest := []) C 1 (fun l => c11_peace l) h_0 ⟨_, _, rfl⟩ (by decide) ml_L_57 im_X11_peace se_X11_peace in_X11 co_X11_peace (by decide +kernel) rfl ⟨Nat.le_of_ble_eq_true rfl, Nat.le_of_ble_eq_true rfl⟩ (Nat.le_of_ble_eq_true rfl) dL_law_442 ⟨hnc.1, hnc.2⟩ ?_
          refine ⟨(ys ((a3 + 1)).toNat), _, rfl, hX, hK, fun r442 V442 hK => ?_⟩
          try dsimp only [Option.toList, List.cons_append, List.nil_append]
          refine a_aload_n C dL_law_445 rfl ?_
          refine a_aload_n C dL_law_446 rfl ?_
          refine a_iload_n C dL_law_447 rfl ?_
          refine a_iconst C dL_law_448 ?_
          refine a_iadd C dL_law_449 ?_
          refine a_sld C hsx dL_law_450 hL q315 (fun r317 => ?_)
          refine a_callV (as := [zI (ys ((a3 + 1)).toNat)]) (rest := [zI r442]) C 1 (fun l => c12_peace l) h_53 ⟨_, _, rfl⟩ (by decide) ml_L_60 im_X12_peace se_X12_peace in_X12 co_X12_peace (by decide +kernel) rfl ⟨Nat.le_of_ble_eq_true rfl, Nat.le_of_ble_eq_true rfl⟩ (Nat.le_of_ble_eq_true rfl) dL_law_451 ⟨hnc.1, hnc.2⟩ ?_
          refine ⟨(ys ((a3 + 1)).toNat), _, rfl, hM, hK, fun r451 V451 hK => ?_⟩
          try dsimp only [Option.toList, List.cons_append, List.nil_append]
          obtain ⟨q318, hK⟩ := hK
          obtain ⟨q319, hK⟩ := hK
          refine a_icmp_eq C 879 dL_law_454 (by decide) ⟨q318, q319⟩ (fun q320 => ?_) (fun q320 => ?_)
          · replace hK := hK.1 q320
            refine a_iinc C dL_law_879 rfl (Nat.le_of_ble_eq_true rfl) ?_
            refine a_goto C 18 dL_law_882 (by decide) ?_
            exact a_ls (lsub_s rfl (lsub_s rfl (lsub_s rfl (lsub_s rfl lsub_0)))) (ih18 _ _ (a3 + 4) _ _ hX hM hnc hK)
          · replace hK := hK.2 q320
            refine a_iconst C dL_law_457 ?_
            exact hK.elim
        replace hK := hK.2
        by_cases q321 : (zand (ys (a3).toNat) 31) = 11
        · refine a_tswIn C 11 459 dL_law_32 (by omega) q228 (by decide) rfl (by decide) ?_
          replace hK := hK.1 q321
          refine a_aload_n C dL_law_459 rfl ?_
          refine a_aload_n C dL_law_460 rfl ?_
          refine a_iload_n C dL_law_461 rfl ?_
          refine a_iconst C dL_law_462 ?_
          refine a_iadd C dL_law_463 ?_
          obtain ⟨q322, hK⟩ := hK
          refine a_sld C hsx dL_law_464 hL q322 (fun r323 => ?_)
          refine a_callV (as := [zI (ys ((a3 + 1)).toNat)]) (rest := []) C 1 (fun l => c11_death l) h_0 ⟨_, _, rfl⟩ (by decide) ml_L_61 im_X11_death se_X11_death in_X11 co_X11_death (by decide +kernel) rfl ⟨Nat.le_of_ble_eq_true rfl, Nat.le_of_ble_eq_true rfl⟩ (Nat.le_of_ble_eq_true rfl) dL_law_465 ⟨hnc.1, hnc.2⟩ ?_
          refine ⟨(ys ((a3 + 1)).toNat), _, rfl, hX, hK, fun r465 V465 hK => ?_⟩
          try dsimp only [Option.toList, List.cons_append, List.nil_append]
          refine a_aload_n C dL_law_468 rfl ?_
          refine a_aload_n C dL_law_469 rfl ?_
          refine a_iload_n C dL_law_470 rfl ?_
          refine a_iconst C dL_law_471 ?_
          refine a_iadd C dL_law_472 ?_
          refine a_sld C hsx dL_law_473 hL q322 (fun r324 => ?_)
          refine a_callV (as := [zI (ys ((a3 + 1)).toNat)]) (rest := [zI r465]) C 1 (fun l => c12_death l) h_53 ⟨_, _, rfl⟩ (by decide) ml_L_64 im_X12_death se_X12_death in_X12 co_X12_death (by decide +kernel) rfl ⟨Nat.le_of_ble_eq_true rfl, Nat.le_of_ble_eq_true rfl⟩ (Nat.le_of_ble_eq_true rfl) dL_law_474 ⟨hnc.1, hnc.2⟩ ?_
          refine ⟨(ys ((a3 + 1)).toNat), _, rfl, hM, hK, fun r474 V474 hK => ?_⟩
          try dsimp only [Option.toList, List.cons_append, List.nil_append]
          obtain ⟨q325, hK⟩ := hK
          obtain ⟨q326, hK⟩ := hK
          refine a_icmp_eq C 879 dL_law_477 (by decide) ⟨q325, q326⟩ (fun q327 => ?_) (fun q327 => ?_)
          · replace hK := hK.1 q327
            refine a_iinc C dL_law_879 rfl (Nat.le_of_ble_eq_true rfl) ?_
            refine a_goto C 18 dL_law_882 (by decide) ?_
            exact a_ls (lsub_s rfl (lsub_s rfl (lsub_s rfl (lsub_s rfl lsub_0)))) (ih18 _ _ (a3 + 4) _ _ hX hM hnc hK)
          · replace hK := hK.2 q327
            refine a_iconst C dL_law_480 ?_
            exact hK.elim
        replace hK := hK.2
        by_cases q328 : (zand (ys (a3).toNat) 31) = 12
        · refine a_tswIn C 12 482 dL_law_32 (by omega) q228 (by decide) rfl (by decide) ?_
          replace hK := hK.1 q328
          refine a_aload_n C dL_law_482 rfl ?_
          refine a_aload_n C dL_law_483 rfl ?_
          refine a_iload_n C dL_law_484 rfl ?_
          refine a_iconst C dL_law_485 ?_
          refine a_iadd C dL_law_486 ?_
          obtain ⟨q329, hK⟩ := hK
          refine a_sld C hsx dL_law_487 hL q329 (fun r330 => ?_)
          refine a_aload_n C dL_law_488 rfl ?_
          refine a_iload_n C dL_law_489 rfl ?_
          refine a_iconst C dL_law_490 ?_
          refine a_iadd C dL_law_491 ?_
          obtain ⟨q331, hK⟩ := hK
          refine a_sld C hsx dL_law_492 hL q331 (fun r332 => ?_)
          refine a_callV (as := [zI (ys ((a3 + 1)).toNat), zI (ys ((a3 + 2)).toNat)]) (rest := []) C 2 (fun l => c11_mayHarm l) h_0 ⟨_, _, rfl⟩ (by decide) ml_L_65 im_X11_mayHarm se_X11_mayHarm in_X11 co_X11_mayHarm (by decide +kernel) rfl ⟨Nat.le_of_ble_eq_true rfl, Nat.le_of_ble_eq_true rfl⟩ (Nat.le_of_ble_eq_true rfl) dL_law_493 ⟨hnc.1, hnc.2⟩ ?_
          refine ⟨(ys ((a3 + 1)).toNat), (ys ((a3 + 2)).toNat), _, rfl, hX, hK, fun r493 V493 hK => ?_⟩
          try dsimp only [Option.toList, List.cons_append, List.nil_append]
          refine a_aload_n C dL_law_496 rfl ?_
          refine a_aload_n C dL_law_497 rfl ?_
          refine a_iload_n C dL_law_498 rfl ?_
          refine a_iconst C dL_law_499 ?_
          refine a_iadd C dL_law_500 ?_
          refine a_sld C hsx dL_law_501 hL q329 (fun r333 => ?_)
          refine a_aload_n C dL_law_502 rfl ?_
          refine a_iload_n C dL_law_503 rfl ?_
          refine a_iconst C dL_law_504 ?_
          refine a_iadd C dL_law_505 ?_
          refine a_sld C hsx dL_law_506 hL q331 (fun r334 => ?_)
          refine a_callV (as := [zI (ys ((a3 + 1)).toNat), zI (ys ((a3 + 2)).toNat)]) (rest := [zI r493]) C 2 (fun l => c12_mayHarm l) h_53 ⟨_, _, rfl⟩ (by decide) ml_L_68 im_X12_mayHarm se_X12_mayHarm in_X12 co_X12_mayHarm (by decide +kernel) rfl ⟨Nat.le_of_ble_eq_true rfl, Nat.le_of_ble_eq_true rfl⟩ (Nat.le_of_ble_eq_true rfl) dL_law_507 ⟨hnc.1, hnc.2⟩ ?_
          refine ⟨(ys ((a3 + 1)).toNat), (ys ((a3 + 2)).toNat), _, rfl, hM, hK, fun r507 V507 hK => ?_⟩
          try dsimp only [Option.toList, List.cons_append, List.nil_append]
          obtain ⟨q335, hK⟩ := hK
          obtain ⟨q336, hK⟩ := hK
          refine a_icmp_eq C 879 dL_law_510 (by decide) ⟨q335, q336⟩ (fun q337 => ?_) (fun q337 => ?_)
          · replace hK := hK.1 q337
            refine a_iinc C dL_law_879 rfl (Nat.le_of_ble_eq_true rfl) ?_
            refine a_goto C 18 dL_law_882 (by decide) ?_
            exact a_ls (lsub_s rfl (lsub_s rfl (lsub_s rfl (lsub_s rfl lsub_0)))) (ih18 _ _ (a3 + 4) _ _ hX hM hnc hK)
          · replace hK := hK.2 q337
            refine a_iconst C dL_law_513 ?_
            exact hK.elim
        replace hK := hK.2
        by_cases q338 : (zand (ys (a3).toNat) 31) = 13
        · refine a_tswIn C 13 515 dL_law_32 (by omega) q228 (by decide) rfl (by decide) ?_
          replace hK := hK.1 q338
          refine a_aload_n C dL_law_515 rfl ?_
          refine a_aload_n C dL_law_516 rfl ?_
          refine a_iload_n C dL_law_517 rfl ?_
          refine a_iconst C dL_law_518 ?_
          refine a_iadd C dL_law_519 ?_
          obtain ⟨q339, hK⟩ := hK
          refine a_sld C hsx dL_law_520 hL q339 (fun r340 => ?_)
          refine a_aload_n C dL_law_521 rfl ?_
          refine a_iload_n C dL_law_522 rfl ?_
          refine a_iconst C dL_law_523 ?_
          refine a_iadd C dL_law_524 ?_
          obtain ⟨q341, hK⟩ := hK
          refine a_sld C hsx dL_law_525 hL q341 (fun r342 => ?_)
          refine a_callV (as := [zI (ys ((a3 + 1)).toNat), zI (ys ((a3 + 2)).toNat)]) (rest := []) C 2 (fun l => c11_harm l) h_0 ⟨_, _, rfl⟩ (by decide) ml_L_69 im_X11_harm se_X11_harm in_X11 co_X11_harm (by decide +kernel) rfl ⟨Nat.le_of_ble_eq_true rfl, Nat.le_of_ble_eq_true rfl⟩ (Nat.le_of_ble_eq_true rfl) dL_law_526 ⟨hnc.1, hnc.2⟩ ?_
          refine ⟨(ys ((a3 + 1)).toNat), (ys ((a3 + 2)).toNat), _, rfl, hX, hK, fun r526 V526 hK => ?_⟩
          try dsimp only [Option.toList, List.cons_append, List.nil_append]
          refine a_aload_n C dL_law_529 rfl ?_
          refine a_aload_n C dL_law_530 rfl ?_
          refine a_iload_n C dL_law_531 rfl ?_
          refine a_iconst C dL_law_532 ?_
          refine a_iadd C dL_law_533 ?_
          refine a_sld C hsx dL_law_534 hL q339 (fun r343 => ?_)
          refine a_aload_n C dL_law_535 rfl ?_
          refine a_iload_n C dL_law_536 rfl ?_
          refine a_iconst C dL_law_537 ?_
          refine a_iadd C dL_law_538 ?_
          refine a_sld C hsx dL_law_539 hL q341 (fun r344 => ?_)
          refine a_callV (as := [zI (ys ((a3 + 1)).toNat), zI (ys ((a3 + 2)).toNat)]) (rest := [zI r526]) C 2 (fun l => c12_harm l) h_53 ⟨_, _, rfl⟩ (by decide) ml_L_72 im_X12_harm se_X12_harm in_X12 co_X12_harm (by decide +kernel) rfl ⟨Nat.le_of_ble_eq_true rfl, Nat.le_of_ble_eq_true rfl⟩ (Nat.le_of_ble_eq_true rfl) dL_law_540 ⟨hnc.1, hnc.2⟩ ?_
          refine ⟨(ys ((a3 + 1)).toNat), (ys ((a3 + 2)).toNat), _, rfl, hM, hK, fun r540 V540 hK => ?_⟩
          try dsimp only [Option.toList, List.cons_append, List.nil_append]
          obtain ⟨q345, hK⟩ := hK
          obtain ⟨q346, hK⟩ := hK
          refine a_icmp_eq C 879 dL_law_543 (by decide) ⟨q345, q346⟩ (fun q347 => ?_) (fun q347 => ?_)
          · replace hK := hK.1 q347
            refine a_iinc C dL_law_879 rfl (Nat.le_of_ble_eq_true rfl) ?_
            refine a_goto C 18 dL_law_882 (by decide) ?_
            exact a_ls (lsub_s rfl (lsub_s rfl (lsub_s rfl (lsub_s rfl lsub_0)))) (ih18 _ _ (a3 + 4) _ _ hX hM hnc hK)
          · replace hK := hK.2 q347
            refine a_iconst C dL_law_546 ?_
            exact hK.elim
        replace hK := hK.2
        by_cases q348 : (zand (ys (a3).toNat) 31) = 14
        · refine a_tswIn C 14 548 dL_law_32 (by omega) q228 (by decide) rfl (by decide) ?_
          replace hK := hK.1 q348
          refine a_aload_n C dL_law_548 rfl ?_
          refine a_callV (as := []) (rest := []) C 0 (fun l => c11_season l) h_0 ⟨_, _, rfl⟩ (by decide) ml_L_73 im_X11_season se_X11_season in_X11 co_X11_season (by decide +kernel) rfl ⟨Nat.le_of_ble_eq_true rfl, Nat.le_of_ble_eq_true rfl⟩ (Nat.le_of_ble_eq_true rfl) dL_law_549 ⟨hnc.1, hnc.2⟩ ?_
          refine ⟨_, rfl, hX, hK, fun r549 V549 hK => ?_⟩
          try dsimp only [Option.toList, List.cons_append, List.nil_append]
          refine a_aload_n C dL_law_552 rfl ?_
          refine a_callV (as := []) (rest := [zI r549]) C 0 (fun l => c12_season l) h_53 ⟨_, _, rfl⟩ (by decide) ml_L_76 im_X12_season se_X12_season in_X12 co_X12_season (by decide +kernel) rfl ⟨Nat.le_of_ble_eq_true rfl, Nat.le_of_ble_eq_true rfl⟩ (Nat.le_of_ble_eq_true rfl) dL_law_553 ⟨hnc.1, hnc.2⟩ ?_
          refine ⟨_, rfl, hM, hK, fun r553 V553 hK => ?_⟩
          try dsimp only [Option.toList, List.cons_append, List.nil_append]
          obtain ⟨q349, hK⟩ := hK
          obtain ⟨q350, hK⟩ := hK
          refine a_icmp_eq C 879 dL_law_556 (by decide) ⟨q349, q350⟩ (fun q351 => ?_) (fun q351 => ?_)
          · replace hK := hK.1 q351
            refine a_iinc C dL_law_879 rfl (Nat.le_of_ble_eq_true rfl) ?_
            refine a_goto C 18 dL_law_882 (by decide) ?_
            exact a_ls (lsub_s rfl (lsub_s rfl (lsub_s rfl (lsub_s rfl lsub_0)))) (ih18 _ _ (a3 + 4) _ _ hX hM hnc hK)
          · replace hK := hK.2 q351
            refine a_iconst C dL_law_559 ?_
            exact hK.elim
        replace hK := hK.2
        by_cases q352 : (zand (ys (a3).toNat) 31) = 15
        · refine a_tswIn C 15 561 dL_law_32 (by omega) q228 (by decide) rfl (by decide) ?_
          replace hK := hK.1 q352
          refine a_aload_n C dL_law_561 rfl ?_
          refine a_aload_n C dL_law_562 rfl ?_
          refine a_iload_n C dL_law_563 rfl ?_
          refine a_iconst C dL_law_564 ?_
          refine a_iadd C dL_law_565 ?_
          obtain ⟨q353, hK⟩ := hK
          refine a_sld C hsx dL_law_566 hL q353 (fun r354 => ?_)
          refine a_aload_n C dL_law_567 rfl ?_
          refine a_iload_n C dL_law_568 rfl ?_
          refine a_iconst C dL_law_569 ?_
          refine a_iadd C dL_law_570 ?_
          obtain ⟨q355, hK⟩ := hK
          refine a_sld C hsx dL_law_571 hL q355 (fun r356 => ?_)
          refine a_aload_n C dL_law_572 rfl ?_
          refine a_iload_n C dL_law_573 rfl ?_
          refine a_iconst C dL_law_574 ?_
          refine a_iadd C dL_law_575 ?_
          obtain ⟨q357, hK⟩ := hK
          refine a_sld C hsx dL_law_576 hL q357 (fun r358 => ?_)
          refine a_callV (as := [zI (ys ((a3 + 1)).toNat), zI (ys ((a3 + 2)).toNat), zI (ys ((a3 + 3)).toNat)]) (rest := []) C 3 (fun l => c11_comeBy l) h_0 ⟨_, _, rfl⟩ (by decide) ml_L_77 im_X11_comeBy se_X11_comeBy in_X11 co_X11_comeBy (by decide +kernel) rfl ⟨Nat.le_of_ble_eq_true rfl, Nat.le_of_ble_eq_true rfl⟩ (Nat.le_of_ble_eq_true rfl) dL_law_577 ⟨hnc.1, hnc.2⟩ ?_
          refine ⟨(ys ((a3 + 1)).toNat), (ys ((a3 + 2)).toNat), (ys ((a3 + 3)).toNat), _, rfl, hX, hK, fun r577 V577 hK => ?_⟩
          try dsimp only [Option.toList, List.cons_append, List.nil_append]
          refine a_aload_n C dL_law_580 rfl ?_
          refine a_aload_n C dL_law_581 rfl ?_
          refine a_iload_n C dL_law_582 rfl ?_
          refine a_iconst C dL_law_583 ?_
          refine a_iadd C dL_law_584 ?_
          refine a_sld C hsx dL_law_585 hL q353 (fun r359 => ?_)
          refine a_aload_n C dL_law_586 rfl ?_
          refine a_iload_n C dL_law_587 rfl ?_
          refine a_iconst C dL_law_588 ?_
          refine a_iadd C dL_law_589 ?_
          refine a_sld C hsx dL_law_590 hL q355 (fun r360 => ?_)
          refine a_aload_n C dL_law_591 rfl ?_
          refine a_iload_n C dL_law_592 rfl ?_
          refine a_iconst C dL_law_593 ?_
          refine a_iadd C dL_law_594 ?_
          refine a_sld C hsx dL_law_595 hL q357 (fun r361 => ?_)
          refine a_callV (as := [zI (ys ((a3 + 1)).toNat), zI (ys ((a3 + 2)).toNat), zI (ys ((a3 + 3)).toNat)]) (rest := [zI r577]) C 3 (fun l => c12_comeBy l) h_53 ⟨_, _, rfl⟩ (by decide) ml_L_80 im_X12_comeBy se_X12_comeBy in_X12 co_X12_comeBy (by decide +kernel) rfl ⟨Nat.le_of_ble_eq_true rfl, Nat.le_of_ble_eq_true rfl⟩ (Nat.le_of_ble_eq_true rfl) dL_law_596 ⟨hnc.1, hnc.2⟩ ?_
          refine ⟨(ys ((a3 + 1)).toNat), (ys ((a3 + 2)).toNat), (ys ((a3 + 3)).toNat), _, rfl, hM, hK, fun r596 V596 hK => ?_⟩
          try dsimp only [Option.toList, List.cons_append, List.nil_append]
          obtain ⟨q362, hK⟩ := hK
          obtain ⟨q363, hK⟩ := hK
          refine a_icmp_eq C 879 dL_law_599 (by decide) ⟨q362, q363⟩ (fun q364 => ?_) (fun q364 => ?_)
          · replace hK := hK.1 q364
            refine a_iinc C dL_law_879 rfl (Nat.le_of_ble_eq_true rfl) ?_
            refine a_goto C 18 dL_law_882 (by decide) ?_
            exact a_ls (lsub_s rfl (lsub_s rfl (lsub_s rfl (lsub_s rfl lsub_0)))) (ih18 _ _ (a3 + 4) _ _ hX hM hnc hK)
          · replace hK := hK.2 q364
            refine a_iconst C dL_law_602 ?_
            exact hK.elim
        replace hK := hK.2
        by_cases q365 : (zand (ys (a3).toNat) 31) = 16
        · refine a_tswIn C 16 604 dL_law_32 (by omega) q228 (by decide) rfl (by decide) ?_
          replace hK := hK.1 q365
          refine a_aload_n C dL_law_604 rfl ?_
          refine a_aload_n C dL_law_605 rfl ?_
          refine a_iload_n C dL_law_606 rfl ?_
          refine a_iconst C dL_law_607 ?_
          refine a_iadd C dL_law_608 ?_
          obtain ⟨q366, hK⟩ := hK
          refine a_sld C hsx dL_law_609 hL q366 (fun r367 => ?_)
          refine a_callV (as := [zI (ys ((a3 + 1)).toNat)]) (rest := []) C 1 (fun l => c11_marry l) h_0 ⟨_, _, rfl⟩ (by decide) ml_L_81 im_X11_marry se_X11_marry in_X11 co_X11_marry (by decide +kernel) rfl ⟨Nat.le_of_ble_eq_true rfl, Nat.le_of_ble_eq_true rfl⟩ (Nat.le_of_ble_eq_true rfl) dL_law_610 ⟨hnc.1, hnc.2⟩ ?_
          refine ⟨(ys ((a3 + 1)).toNat), _, rfl, hX, hK, fun r610 V610 hK => ?_⟩
          try dsimp only [Option.toList, List.cons_append, List.nil_append]
          refine a_aload_n C dL_law_613 rfl ?_
          refine a_aload_n C dL_law_614 rfl ?_
          refine a_iload_n C dL_law_615 rfl ?_
          refine a_iconst C dL_law_616 ?_
          refine a_iadd C dL_law_617 ?_
          refine a_sld C hsx dL_law_618 hL q366 (fun r368 => ?_)
          refine a_callV (as := [zI (ys ((a3 + 1)).toNat)]) (rest := [zI r610]) C 1 (fun l => c12_marry l) h_53 ⟨_, _, rfl⟩ (by decide) ml_L_84 im_X12_marry se_X12_marry in_X12 co_X12_marry (by decide +kernel) rfl ⟨Nat.le_of_ble_eq_true rfl, Nat.le_of_ble_eq_true rfl⟩ (Nat.le_of_ble_eq_true rfl) dL_law_619 ⟨hnc.1, hnc.2⟩ ?_
          refine ⟨(ys ((a3 + 1)).toNat), _, rfl, hM, hK, fun r619 V619 hK => ?_⟩
          try dsimp only [Option.toList, List.cons_append, List.nil_append]
          obtain ⟨q369, hK⟩ := hK
          obtain ⟨q370, hK⟩ := hK
          refine a_icmp_eq C 879 dL_law_622 (by decide) ⟨q369, q370⟩ (fun q371 => ?_) (fun q371 => ?_)
          · replace hK := hK.1 q371
            refine a_iinc C dL_law_879 rfl (Nat.le_of_ble_eq_true rfl) ?_
            refine a_goto C 18 dL_law_882 (by decide) ?_
            exact a_ls (lsub_s rfl (lsub_s rfl (lsub_s rfl (lsub_s rfl lsub_0)))) (ih18 _ _ (a3 + 4) _ _ hX hM hnc hK)
          · replace hK := hK.2 q371
            refine a_iconst C dL_law_625 ?_
            exact hK.elim
        replace hK := hK.2
        by_cases q372 : (zand (ys (a3).toNat) 31) = 17
        · refine a_tswIn C 17 627 dL_law_32 (by omega) q228 (by decide) rfl (by decide) ?_
          replace hK := hK.1 q372
          refine a_aload_n C dL_law_627 rfl ?_
          refine a_aload_n C dL_law_628 rfl ?_
          refine a_iload_n C dL_law_629 rfl ?_
          refine a_iconst C dL_law_630 ?_
          refine a_iadd C dL_law_631 ?_
          obtain ⟨q373, hK⟩ := hK
          refine a_sld C hsx dL_law_632 hL q373 (fun r374 => ?_)
          refine a_aload_n C dL_law_633 rfl ?_
          refine a_iload_n C dL_law_634 rfl ?_
          refine a_iconst C dL_law_635 ?_
          refine a_iadd C dL_law_636 ?_
          obtain ⟨q375, hK⟩ := hK
          refine a_sld C hsx dL_law_637 hL q375 (fun r376 => ?_)
          refine a_callV (as := [zI (ys ((a3 + 1)).toNat), zI (ys ((a3 + 2)).toNat)]) (rest := []) C 2 (fun l => c11_wills l) h_0 ⟨_, _, rfl⟩ (by decide) ml_L_85 im_X11_wills se_X11_wills in_X11 co_X11_wills (by decide +kernel) rfl ⟨Nat.le_of_ble_eq_true rfl, Nat.le_of_ble_eq_true rfl⟩ (Nat.le_of_ble_eq_true rfl) dL_law_638 ⟨hnc.1, hnc.2⟩ ?_
          refine ⟨(ys ((a3 + 1)).toNat), (ys ((a3 + 2)).toNat), _, rfl, hX, hK, fun r638 V638 hK => ?_⟩
          try dsimp only [Option.toList, List.cons_append, List.nil_append]
          refine a_aload_n C dL_law_641 rfl ?_
          refine a_aload_n C dL_law_642 rfl ?_
          refine a_iload_n C dL_law_643 rfl ?_
          refine a_iconst C dL_law_644 ?_
          refine a_iadd C dL_law_645 ?_
          refine a_sld C hsx dL_law_646 hL q373 (fun r377 => ?_)
          refine a_aload_n C dL_law_647 rfl ?_
          refine a_iload_n C dL_law_648 rfl ?_
          refine a_iconst C dL_law_649 ?_
          refine a_iadd C dL_law_650 ?_
          refine a_sld C hsx dL_law_651 hL q375 (fun r378 => ?_)
          refine a_callV (as := [zI (ys ((a3 + 1)).toNat), zI (ys ((a3 + 2)).toNat)]) (rest := [zI r638]) C 2 (fun l => c12_wills l) h_53 ⟨_, _, rfl⟩ (by decide) ml_L_88 im_X12_wills se_X12_wills in_X12 co_X12_wills (by decide +kernel) rfl ⟨Nat.le_of_ble_eq_true rfl, Nat.le_of_ble_eq_true rfl⟩ (Nat.le_of_ble_eq_true rfl) dL_law_652 ⟨hnc.1, hnc.2⟩ ?_
          refine ⟨(ys ((a3 + 1)).toNat), (ys ((a3 + 2)).toNat), _, rfl, hM, hK, fun r652 V652 hK => ?_⟩
          try dsimp only [Option.toList, List.cons_append, List.nil_append]
          obtain ⟨q379, hK⟩ := hK
          obtain ⟨q380, hK⟩ := hK
          refine a_icmp_eq C 879 dL_law_655 (by decide) ⟨q379, q380⟩ (fun q381 => ?_) (fun q381 => ?_)
          · replace hK := hK.1 q381
            refine a_iinc C dL_law_879 rfl (Nat.le_of_ble_eq_true rfl) ?_
            refine a_goto C 18 dL_law_882 (by decide) ?_
            exact a_ls (lsub_s rfl (lsub_s rfl (lsub_s rfl (lsub_s rfl lsub_0)))) (ih18 _ _ (a3 + 4) _ _ hX hM hnc hK)
          · replace hK := hK.2 q381
            refine a_iconst C dL_law_658 ?_
            exact hK.elim
        replace hK := hK.2
        by_cases q382 : (zand (ys (a3).toNat) 31) = 18
        · refine a_tswIn C 18 660 dL_law_32 (by omega) q228 (by decide) rfl (by decide) ?_
          replace hK := hK.1 q382
          refine a_aload_n C dL_law_660 rfl ?_
          refine a_aload_n C dL_law_661 rfl ?_
          refine a_iload_n C dL_law_662 rfl ?_
          refine a_iconst C dL_law_663 ?_
          refine a_iadd C dL_law_664 ?_
          obtain ⟨q383, hK⟩ := hK
          refine a_sld C hsx dL_law_665 hL q383 (fun r384 => ?_)
          refine a_aload_n C dL_law_666 rfl ?_
          refine a_iload_n C dL_law_667 rfl ?_
          refine a_iconst C dL_law_668 ?_
          refine a_iadd C dL_law_669 ?_
          obtain ⟨q385, hK⟩ := hK
          refine a_sld C hsx dL_law_670 hL q385 (fun r386 => ?_)
          refine a_aload_n C dL_law_671 rfl ?_
          refine a_iload_n C dL_law_672 rfl ?_
          refine a_iconst C dL_law_673 ?_
          refine a_iadd C dL_law_674 ?_
          obtain ⟨q387, hK⟩ := hK
          refine a_sld C hsx dL_law_675 hL q387 (fun r388 => ?_)
          refine a_callV (as := [zI (ys ((a3 + 1)).toNat), zI (ys ((a3 + 2)).toNat), zI (ys ((a3 + 3)).toNat)]) (rest := []) C 3 (fun l => c11_left l) h_0 ⟨_, _, rfl⟩ (by decide) ml_L_89 im_X11_left se_X11_left in_X11 co_X11_left (by decide +kernel) rfl ⟨Nat.le_of_ble_eq_true rfl, Nat.le_of_ble_eq_true rfl⟩ (Nat.le_of_ble_eq_true rfl) dL_law_676 ⟨hnc.1, hnc.2⟩ ?_
          refine ⟨(ys ((a3 + 1)).toNat), (ys ((a3 + 2)).toNat), (ys ((a3 + 3)).toNat), _, rfl, hX, hK, fun r676 V676 hK => ?_⟩
          try dsimp only [Option.toList, List.cons_append, List.nil_append]
          refine a_aload_n C dL_law_679 rfl ?_
          refine a_aload_n C dL_law_680 rfl ?_
          refine a_iload_n C dL_law_681 rfl ?_
          refine a_iconst C dL_law_682 ?_
          refine a_iadd C dL_law_683 ?_
          refine a_sld C hsx dL_law_684 hL q383 (fun r389 => ?_)
          refine a_aload_n C dL_law_685 rfl ?_
          refine a_iload_n C dL_law_686 rfl ?_
          refine a_iconst C dL_law_687 ?_
          refine a_iadd C dL_law_688 ?_
          refine a_sld C hsx dL_law_689 hL q385 (fun r390 => ?_)
          refine a_aload_n C dL_law_690 rfl ?_
          refine a_iload_n C dL_law_691 rfl ?_
          refine a_iconst C dL_law_692 ?_
          refine a_iadd C dL_law_693 ?_
          refine a_sld C hsx dL_law_694 hL q387 (fun r391 => ?_)
          refine a_callV (as := [zI (ys ((a3 + 1)).toNat), zI (ys ((a3 + 2)).toNat), zI (ys ((a3 + 3)).toNat)]) (rest := [zJ r676]) C 3 (fun l => c12_left l) h_53 ⟨_, _, rfl⟩ (by decide) ml_L_93 im_X12_left se_X12_left in_X12 co_X12_left (by decide +kernel) rfl ⟨Nat.le_of_ble_eq_true rfl, Nat.le_of_ble_eq_true rfl⟩ (Nat.le_of_ble_eq_true rfl) dL_law_695 ⟨hnc.1, hnc.2⟩ ?_
          refine ⟨(ys ((a3 + 1)).toNat), (ys ((a3 + 2)).toNat), (ys ((a3 + 3)).toNat), _, rfl, hM, hK, fun r695 V695 hK => ?_⟩
          try dsimp only [Option.toList, List.cons_append, List.nil_append]
          refine a_wrapL2 ?_
          refine a_lcmp_eq C 879 dL_law_698 dL_law_699 (by decide) ⟨(wrL_in _), (wrL_in _)⟩ (fun q392 => ?_) (fun q392 => ?_)
          · replace hK := hK.1 q392
            refine a_iinc C dL_law_879 rfl (Nat.le_of_ble_eq_true rfl) ?_
            refine a_goto C 18 dL_law_882 (by decide) ?_
            exact a_ls (lsub_s rfl (lsub_s rfl (lsub_s rfl (lsub_s rfl lsub_0)))) (ih18 _ _ (a3 + 4) _ _ hX hM hnc hK)
          · replace hK := hK.2 q392
            refine a_iconst C dL_law_702 ?_
            exact hK.elim
        replace hK := hK.2
        by_cases q393 : (zand (ys (a3).toNat) 31) = 19
        · refine a_tswIn C 19 704 dL_law_32 (by omega) q228 (by decide) rfl (by decide) ?_
          replace hK := hK.1 q393
          refine a_aload_n C dL_law_704 rfl ?_
          refine a_aload_n C dL_law_705 rfl ?_
          refine a_iload_n C dL_law_706 rfl ?_
          refine a_iconst C dL_law_707 ?_
          refine a_iadd C dL_law_708 ?_
          obtain ⟨q394, hK⟩ := hK
          refine a_sld C hsx dL_law_709 hL q394 (fun r395 => ?_)
          refine a_aload_n C dL_law_710 rfl ?_
          refine a_iload_n C dL_law_711 rfl ?_
          refine a_iconst C dL_law_712 ?_
          refine a_iadd C dL_law_713 ?_
          obtain ⟨q396, hK⟩ := hK
          refine a_sld C hsx dL_law_714 hL q396 (fun r397 => ?_)
          refine a_callV (as := [zI (ys ((a3 + 1)).toNat), zI (ys ((a3 + 2)).toNat)]) (rest := []) C 2 (fun l => c11_register l) h_0 ⟨_, _, rfl⟩ (by decide) ml_L_94 im_X11_register se_X11_register in_X11 co_X11_register (by decide +kernel) rfl ⟨Nat.le_of_ble_eq_true rfl, Nat.le_of_ble_eq_true rfl⟩ (Nat.le_of_ble_eq_true rfl) dL_law_715 ⟨hnc.1, hnc.2⟩ ?_
          refine ⟨(ys ((a3 + 1)).toNat), (ys ((a3 + 2)).toNat), _, rfl, hX, hK, fun r715 V715 hK => ?_⟩
          try dsimp only [Option.toList, List.cons_append, List.nil_append]
          refine a_aload_n C dL_law_718 rfl ?_
          refine a_aload_n C dL_law_719 rfl ?_
          refine a_iload_n C dL_law_720 rfl ?_
          refine a_iconst C dL_law_721 ?_
          refine a_iadd C dL_law_722 ?_
          refine a_sld C hsx dL_law_723 hL q394 (fun r398 => ?_)
          refine a_aload_n C dL_law_724 rfl ?_
          refine a_iload_n C dL_law_725 rfl ?_
          refine a_iconst C dL_law_726 ?_
          refine a_iadd C dL_law_727 ?_
          refine a_sld C hsx dL_law_728 hL q396 (fun r399 => ?_)
          refine a_callV (as := [zI (ys ((a3 + 1)).toNat), zI (ys ((a3 + 2)).toNat)]) (rest := [zI r715]) C 2 (fun l => c12_register l) h_53 ⟨_, _, rfl⟩ (by decide) ml_L_97 im_X12_register se_X12_register in_X12 co_X12_register (by decide +kernel) rfl ⟨Nat.le_of_ble_eq_true rfl, Nat.le_of_ble_eq_true rfl⟩ (Nat.le_of_ble_eq_true rfl) dL_law_729 ⟨hnc.1, hnc.2⟩ ?_
          refine ⟨(ys ((a3 + 1)).toNat), (ys ((a3 + 2)).toNat), _, rfl, hM, hK, fun r729 V729 hK => ?_⟩
          try dsimp only [Option.toList, List.cons_append, List.nil_append]
          obtain ⟨q400, hK⟩ := hK
          obtain ⟨q401, hK⟩ := hK
          refine a_icmp_eq C 879 dL_law_732 (by decide) ⟨q400, q401⟩ (fun q402 => ?_) (fun q402 => ?_)
          · replace hK := hK.1 q402
            refine a_iinc C dL_law_879 rfl (Nat.le_of_ble_eq_true rfl) ?_
            refine a_goto C 18 dL_law_882 (by decide) ?_
            exact a_ls (lsub_s rfl (lsub_s rfl (lsub_s rfl (lsub_s rfl lsub_0)))) (ih18 _ _ (a3 + 4) _ _ hX hM hnc hK)
          · replace hK := hK.2 q402
            refine a_iconst C dL_law_735 ?_
            exact hK.elim
        replace hK := hK.2
        by_cases q403 : (zand (ys (a3).toNat) 31) = 20
        · refine a_tswIn C 20 737 dL_law_32 (by omega) q228 (by decide) rfl (by decide) ?_
          replace hK := hK.1 q403
          refine a_aload_n C dL_law_737 rfl ?_
          refine a_callV (as := []) (rest := []) C 0 (fun l => c11_forget l) h_0 ⟨_, _, rfl⟩ (by decide) ml_L_98 im_X11_forget se_X11_forget in_X11 co_X11_forget (by decide +kernel) rfl ⟨Nat.le_of_ble_eq_true rfl, Nat.le_of_ble_eq_true rfl⟩ (Nat.le_of_ble_eq_true rfl) dL_law_738 ⟨hnc.1, hnc.2⟩ ?_
          refine ⟨_, rfl, hX, hK, fun r738 V738 hK => ?_⟩
          try dsimp only [Option.toList, List.cons_append, List.nil_append]
          refine a_aload_n C dL_law_741 rfl ?_
          refine a_callV (as := []) (rest := [zI r738]) C 0 (fun l => c12_forget l) h_53 ⟨_, _, rfl⟩ (by decide) ml_L_101 im_X12_forget se_X12_forget in_X12 co_X12_forget (by decide +kernel) rfl ⟨Nat.le_of_ble_eq_true rfl, Nat.le_of_ble_eq_true rfl⟩ (Nat.le_of_ble_eq_true rfl) dL_law_742 ⟨hnc.1, hnc.2⟩ ?_
          refine ⟨_, rfl, hM, hK, fun r742 V742 hK => ?_⟩
          try dsimp only [Option.toList, List.cons_append, List.nil_append]
          obtain ⟨q404, hK⟩ := hK
          obtain ⟨q405, hK⟩ := hK
          refine a_icmp_eq C 879 dL_law_745 (by decide) ⟨q404, q405⟩ (fun q406 => ?_) (fun q406 => ?_)
          · replace hK := hK.1 q406
            refine a_iinc C dL_law_879 rfl (Nat.le_of_ble_eq_true rfl) ?_
            refine a_goto C 18 dL_law_882 (by decide) ?_
            exact a_ls (lsub_s rfl (lsub_s rfl (lsub_s rfl (lsub_s rfl lsub_0)))) (ih18 _ _ (a3 + 4) _ _ hX hM hnc hK)
          · replace hK := hK.2 q406
            refine a_iconst C dL_law_748 ?_
            exact hK.elim
        replace hK := hK.2
        by_cases q407 : (zand (ys (a3).toNat) 31) = 21
        · refine a_tswIn C 21 750 dL_law_32 (by omega) q228 (by decide) rfl (by decide) ?_
          replace hK := hK.1 q407
          refine a_aload_n C dL_law_750 rfl ?_
          refine a_aload_n C dL_law_751 rfl ?_
          refine a_iload_n C dL_law_752 rfl ?_
          refine a_iconst C dL_law_753 ?_
          refine a_iadd C dL_law_754 ?_
          obtain ⟨q408, hK⟩ := hK
          refine a_sld C hsx dL_law_755 hL q408 (fun r409 => ?_)
          refine a_callV (as := [zI (ys ((a3 + 1)).toNat)]) (rest := []) C 1 (fun l => c11_lapsed l) h_0 ⟨_, _, rfl⟩ (by decide) ml_L_102 im_X11_lapsed se_X11_lapsed in_X11 co_X11_lapsed (by decide +kernel) rfl ⟨Nat.le_of_ble_eq_true rfl, Nat.le_of_ble_eq_true rfl⟩ (Nat.le_of_ble_eq_true rfl) dL_law_756 ⟨hnc.1, hnc.2⟩ ?_
          refine ⟨(ys ((a3 + 1)).toNat), _, rfl, hX, hK, fun r756 V756 hK => ?_⟩
          try dsimp only [Option.toList, List.cons_append, List.nil_append]
          refine a_aload_n C dL_law_759 rfl ?_
          refine a_aload_n C dL_law_760 rfl ?_
          refine a_iload_n C dL_law_761 rfl ?_
          refine a_iconst C dL_law_762 ?_
          refine a_iadd C dL_law_763 ?_
          refine a_sld C hsx dL_law_764 hL q408 (fun r410 => ?_)
          refine a_callV (as := [zI (ys ((a3 + 1)).toNat)]) (rest := [zI r756]) C 1 (fun l => c12_lapsed l) h_53 ⟨_, _, rfl⟩ (by decide) ml_L_105 im_X12_lapsed se_X12_lapsed in_X12 co_X12_lapsed (by decide +kernel) rfl ⟨Nat.le_of_ble_eq_true rfl, Nat.le_of_ble_eq_true rfl⟩ (Nat.le_of_ble_eq_true rfl) dL_law_765 ⟨hnc.1, hnc.2⟩ ?_
          refine ⟨(ys ((a3 + 1)).toNat), _, rfl, hM, hK, fun r765 V765 hK => ?_⟩
          try dsimp only [Option.toList, List.cons_append, List.nil_append]
          obtain ⟨q411, hK⟩ := hK
          obtain ⟨q412, hK⟩ := hK
          refine a_icmp_eq C 879 dL_law_768 (by decide) ⟨q411, q412⟩ (fun q413 => ?_) (fun q413 => ?_)
          · replace hK := hK.1 q413
            refine a_iinc C dL_law_879 rfl (Nat.le_of_ble_eq_true rfl) ?_
            refine a_goto C 18 dL_law_882 (by decide) ?_
            exact a_ls (lsub_s rfl (lsub_s rfl (lsub_s rfl (lsub_s rfl lsub_0)))) (ih18 _ _ (a3 + 4) _ _ hX hM hnc hK)
          · replace hK := hK.2 q413
            refine a_iconst C dL_law_771 ?_
            exact hK.elim
        replace hK := hK.2
        by_cases q414 : (zand (ys (a3).toNat) 31) = 22
        · refine a_tswIn C 22 773 dL_law_32 (by omega) q228 (by decide) rfl (by decide) ?_
          replace hK := hK.1 q414
          refine a_aload_n C dL_law_773 rfl ?_
          refine a_aload_n C dL_law_774 rfl ?_
          refine a_iload_n C dL_law_775 rfl ?_
          refine a_iconst C dL_law_776 ?_
          refine a_iadd C dL_law_777 ?_
          obtain ⟨q415, hK⟩ := hK
          refine a_sld C hsx dL_law_778 hL q415 (fun r416 => ?_)
          refine a_aload_n C dL_law_779 rfl ?_
          refine a_iload_n C dL_law_780 rfl ?_
          refine a_iconst C dL_law_781 ?_
          refine a_iadd C dL_law_782 ?_
          obtain ⟨q417, hK⟩ := hK
          refine a_sld C hsx dL_law_783 hL q417 (fun r418 => ?_)
          refine a_aload_n C dL_law_784 rfl ?_
          refine a_iload_n C dL_law_785 rfl ?_
          refine a_iconst C dL_law_786 ?_
          refine a_iadd C dL_law_787 ?_
          obtain ⟨q419, hK⟩ := hK
          refine a_sld C hsx dL_law_788 hL q419 (fun r420 => ?_)
          refine a_callV (as := [zI (ys ((a3 + 1)).toNat), zI (ys ((a3 + 2)).toNat), zI (ys ((a3 + 3)).toNat)]) (rest := []) C 3 (fun l => c11_years l) h_0 ⟨_, _, rfl⟩ (by decide) ml_L_106 im_X11_years se_X11_years in_X11 co_X11_years (by decide +kernel) rfl ⟨Nat.le_of_ble_eq_true rfl, Nat.le_of_ble_eq_true rfl⟩ (Nat.le_of_ble_eq_true rfl) dL_law_789 ⟨hnc.1, hnc.2⟩ ?_
          refine ⟨(ys ((a3 + 1)).toNat), (ys ((a3 + 2)).toNat), (ys ((a3 + 3)).toNat), _, rfl, hX, hK, fun r789 V789 hK => ?_⟩
          try dsimp only [Option.toList, List.cons_append, List.nil_append]
          refine a_aload_n C dL_law_792 rfl ?_
          refine a_aload_n C dL_law_793 rfl ?_
          refine a_iload_n C dL_law_794 rfl ?_
          refine a_iconst C dL_law_795 ?_
          refine a_iadd C dL_law_796 ?_
          refine a_sld C hsx dL_law_797 hL q415 (fun r421 => ?_)
          refine a_aload_n C dL_law_798 rfl ?_
          refine a_iload_n C dL_law_799 rfl ?_
          refine a_iconst C dL_law_800 ?_
          refine a_iadd C dL_law_801 ?_
          refine a_sld C hsx dL_law_802 hL q417 (fun r422 => ?_)
          refine a_aload_n C dL_law_803 rfl ?_
          refine a_iload_n C dL_law_804 rfl ?_
          refine a_iconst C dL_law_805 ?_
          refine a_iadd C dL_law_806 ?_
          refine a_sld C hsx dL_law_807 hL q419 (fun r423 => ?_)
          refine a_callV (as := [zI (ys ((a3 + 1)).toNat), zI (ys ((a3 + 2)).toNat), zI (ys ((a3 + 3)).toNat)]) (rest := [zI r789]) C 3 (fun l => c12_years l) h_53 ⟨_, _, rfl⟩ (by decide) ml_L_109 im_X12_years se_X12_years in_X12 co_X12_years (by decide +kernel) rfl ⟨Nat.le_of_ble_eq_true rfl, Nat.le_of_ble_eq_true rfl⟩ (Nat.le_of_ble_eq_true rfl) dL_law_808 ⟨hnc.1, hnc.2⟩ ?_
          refine ⟨(ys ((a3 + 1)).toNat), (ys ((a3 + 2)).toNat), (ys ((a3 + 3)).toNat), _, rfl, hM, hK, fun r808 V808 hK => ?_⟩
          try dsimp only [Option.toList, List.cons_append, List.nil_append]
          obtain ⟨q424, hK⟩ := hK
          obtain ⟨q425, hK⟩ := hK
          refine a_icmp_eq C 879 dL_law_811 (by decide) ⟨q424, q425⟩ (fun q426 => ?_) (fun q426 => ?_)
          · replace hK := hK.1 q426
            refine a_iinc C dL_law_879 rfl (Nat.le_of_ble_eq_true rfl) ?_
            refine a_goto C 18 dL_law_882 (by decide) ?_
            exact a_ls (lsub_s rfl (lsub_s rfl (lsub_s rfl (lsub_s rfl lsub_0)))) (ih18 _ _ (a3 + 4) _ _ hX hM hnc hK)
          · replace hK := hK.2 q426
            refine a_iconst C dL_law_814 ?_
            exact hK.elim
        replace hK := hK.2
        by_cases q427 : (zand (ys (a3).toNat) 31) = 23
        · refine a_tswIn C 23 816 dL_law_32 (by omega) q228 (by decide) rfl (by decide) ?_
          replace hK := hK.1 q427
          refine a_aload_n C dL_law_816 rfl ?_
          refine a_callV (as := []) (rest := []) C 0 (fun l => c11_image l) h_0 ⟨_, _, rfl⟩ (by decide) ml_L_110 im_X11_image se_X11_image in_X11 co_X11_image (by decide +kernel) rfl ⟨Nat.le_of_ble_eq_true rfl, Nat.le_of_ble_eq_true rfl⟩ (Nat.le_of_ble_eq_true rfl) dL_law_817 ⟨hnc.1, hnc.2⟩ ?_
          refine ⟨_, rfl, hX, hK, fun r817 V817 hK => ?_⟩
          try dsimp only [Option.toList, List.cons_append, List.nil_append]
          refine a_aload_n C dL_law_820 rfl ?_
          refine a_callV (as := []) (rest := [zI r817]) C 0 (fun l => c12_image l) h_53 ⟨_, _, rfl⟩ (by decide) ml_L_113 im_X12_image se_X12_image in_X12 co_X12_image (by decide +kernel) rfl ⟨Nat.le_of_ble_eq_true rfl, Nat.le_of_ble_eq_true rfl⟩ (Nat.le_of_ble_eq_true rfl) dL_law_821 ⟨hnc.1, hnc.2⟩ ?_
          refine ⟨_, rfl, hM, hK, fun r821 V821 hK => ?_⟩
          try dsimp only [Option.toList, List.cons_append, List.nil_append]
          obtain ⟨q428, hK⟩ := hK
          obtain ⟨q429, hK⟩ := hK
          refine a_icmp_eq C 879 dL_law_824 (by decide) ⟨q428, q429⟩ (fun q430 => ?_) (fun q430 => ?_)
          · replace hK := hK.1 q430
            refine a_iinc C dL_law_879 rfl (Nat.le_of_ble_eq_true rfl) ?_
            refine a_goto C 18 dL_law_882 (by decide) ?_
            exact a_ls (lsub_s rfl (lsub_s rfl (lsub_s rfl (lsub_s rfl lsub_0)))) (ih18 _ _ (a3 + 4) _ _ hX hM hnc hK)
          · replace hK := hK.2 q430
            refine a_iconst C dL_law_827 ?_
            exact hK.elim
        replace hK := hK.2
        by_cases q431 : (zand (ys (a3).toNat) 31) = 24
        · refine a_tswIn C 24 829 dL_law_32 (by omega) q228 (by decide) rfl (by decide) ?_
          replace hK := hK.1 q431
          refine a_aload_n C dL_law_829 rfl ?_
          refine a_callV (as := []) (rest := []) C 0 (fun l => c11_restore l) h_0 ⟨_, _, rfl⟩ (by decide) ml_L_114 im_X11_restore se_X11_restore in_X11 co_X11_restore (by decide +kernel) rfl ⟨Nat.le_of_ble_eq_true rfl, Nat.le_of_ble_eq_true rfl⟩ (Nat.le_of_ble_eq_true rfl) dL_law_830 ⟨hnc.1, hnc.2⟩ ?_
          refine ⟨_, rfl, hX, hK, fun r830 V830 hK => ?_⟩
          try dsimp only [Option.toList, List.cons_append, List.nil_append]
          refine a_aload_n C dL_law_833 rfl ?_
          refine a_callV (as := []) (rest := [zI r830]) C 0 (fun l => c12_restore l) h_53 ⟨_, _, rfl⟩ (by decide) ml_L_117 im_X12_restore se_X12_restore in_X12 co_X12_restore (by decide +kernel) rfl ⟨Nat.le_of_ble_eq_true rfl, Nat.le_of_ble_eq_true rfl⟩ (Nat.le_of_ble_eq_true rfl) dL_law_834 ⟨hnc.1, hnc.2⟩ ?_
          refine ⟨_, rfl, hM, hK, fun r834 V834 hK => ?_⟩
          try dsimp only [Option.toList, List.cons_append, List.nil_append]
          obtain ⟨q432, hK⟩ := hK
          obtain ⟨q433, hK⟩ := hK
          refine a_icmp_eq C 879 dL_law_837 (by decide) ⟨q432, q433⟩ (fun q434 => ?_) (fun q434 => ?_)
          · replace hK := hK.1 q434
            refine a_iinc C dL_law_879 rfl (Nat.le_of_ble_eq_true rfl) ?_
            refine a_goto C 18 dL_law_882 (by decide) ?_
            exact a_ls (lsub_s rfl (lsub_s rfl (lsub_s rfl (lsub_s rfl lsub_0)))) (ih18 _ _ (a3 + 4) _ _ hX hM hnc hK)
          · replace hK := hK.2 q434
            refine a_iconst C dL_law_840 ?_
            exact hK.elim
        replace hK := hK.2
        by_cases q435 : (zand (ys (a3).toNat) 31) = 25
        · refine a_tswIn C 25 842 dL_law_32 (by omega) q228 (by decide) rfl (by decide) ?_
          replace hK := hK.1 q435
          refine a_aload_n C dL_law_842 rfl ?_
          refine a_aload_n C dL_law_843 rfl ?_
          refine a_iload_n C dL_law_844 rfl ?_
          refine a_iconst C dL_law_845 ?_
          refine a_iadd C dL_law_846 ?_
          obtain ⟨q436, hK⟩ := hK
          refine a_sld C hsx dL_law_847 hL q436 (fun r437 => ?_)
          refine a_callV (as := [zI (ys ((a3 + 1)).toNat)]) (rest := []) C 1 (fun l => c11_count l) h_0 ⟨_, _, rfl⟩ (by decide) ml_L_118 im_X11_count se_X11_count in_X11 co_X11_count (by decide +kernel) rfl ⟨Nat.le_of_ble_eq_true rfl, Nat.le_of_ble_eq_true rfl⟩ (Nat.le_of_ble_eq_true rfl) dL_law_848 ⟨hnc.1, hnc.2⟩ ?_
          refine ⟨(ys ((a3 + 1)).toNat), _, rfl, hX, hK, fun r848 V848 hK => ?_⟩
          try dsimp only [Option.toList, List.cons_append, List.nil_append]
          refine a_aload_n C dL_law_851 rfl ?_
          refine a_aload_n C dL_law_852 rfl ?_
          refine a_iload_n C dL_law_853 rfl ?_
          refine a_iconst C dL_law_854 ?_
          refine a_iadd C dL_law_855 ?_
          refine a_sld C hsx dL_law_856 hL q436 (fun r438 => ?_)
          refine a_callV (as := [zI (ys ((a3 + 1)).toNat)]) (rest := [zI r848]) C 1 (fun l => c12_count l) h_53 ⟨_, _, rfl⟩ (by decide) ml_L_121 im_X12_count se_X12_count in_X12 co_X12_count (by decide +kernel) rfl ⟨Nat.le_of_ble_eq_true rfl, Nat.le_of_ble_eq_true rfl⟩ (Nat.le_of_ble_eq_true rfl) dL_law_857 ⟨hnc.1, hnc.2⟩ ?_
          refine ⟨(ys ((a3 + 1)).toNat), _, rfl, hM, hK, fun r857 V857 hK => ?_⟩
          try dsimp only [Option.toList, List.cons_append, List.nil_append]
          obtain ⟨q439, hK⟩ := hK
          obtain ⟨q440, hK⟩ := hK
          refine a_icmp_eq C 879 dL_law_860 (by decide) ⟨q439, q440⟩ (fun q441 => ?_) (fun q441 => ?_)
          · replace hK := hK.1 q441
            refine a_iinc C dL_law_879 rfl (Nat.le_of_ble_eq_true rfl) ?_
            refine a_goto C 18 dL_law_882 (by decide) ?_
            exact a_ls (lsub_s rfl (lsub_s rfl (lsub_s rfl (lsub_s rfl lsub_0)))) (ih18 _ _ (a3 + 4) _ _ hX hM hnc hK)
          · replace hK := hK.2 q441
            refine a_iconst C dL_law_863 ?_
            exact hK.elim
        replace hK := hK.2
        by_cases q442 : (zand (ys (a3).toNat) 31) = 26
        · refine a_tswIn C 26 865 dL_law_32 (by omega) q228 (by decide) rfl (by decide) ?_
          replace hK := hK.1 q442
          refine a_aload_n C dL_law_865 rfl ?_
          refine a_callV (as := []) (rest := []) C 0 (fun l => c11_digest l) h_0 ⟨_, _, rfl⟩ (by decide) ml_L_122 im_X11_digest se_X11_digest in_X11 co_X11_digest (by decide +kernel) rfl ⟨Nat.le_of_ble_eq_true rfl, Nat.le_of_ble_eq_true rfl⟩ (Nat.le_of_ble_eq_true rfl) dL_law_866 ⟨hnc.1, hnc.2⟩ ?_
          refine ⟨_, rfl, hX, hK, fun r866 V866 hK => ?_⟩
          try dsimp only [Option.toList, List.cons_append, List.nil_append]
          refine a_aload_n C dL_law_869 rfl ?_
          refine a_callV (as := []) (rest := [zJ r866]) C 0 (fun l => c12_digest l) h_53 ⟨_, _, rfl⟩ (by decide) ml_L_126 im_X12_digest se_X12_digest in_X12 co_X12_digest (by decide +kernel) rfl ⟨Nat.le_of_ble_eq_true rfl, Nat.le_of_ble_eq_true rfl⟩ (Nat.le_of_ble_eq_true rfl) dL_law_870 ⟨hnc.1, hnc.2⟩ ?_
          refine ⟨_, rfl, hM, hK, fun r870 V870 hK => ?_⟩
          try dsimp only [Option.toList, List.cons_append, List.nil_append]
          refine a_wrapL2 ?_
          refine a_lcmp_eq C 879 dL_law_873 dL_law_874 (by decide) ⟨(wrL_in _), (wrL_in _)⟩ (fun q443 => ?_) (fun q443 => ?_)
          · replace hK := hK.1 q443
            refine a_iinc C dL_law_879 rfl (Nat.le_of_ble_eq_true rfl) ?_
            refine a_goto C 18 dL_law_882 (by decide) ?_
            exact a_ls (lsub_s rfl (lsub_s rfl (lsub_s rfl (lsub_s rfl lsub_0)))) (ih18 _ _ (a3 + 4) _ _ hX hM hnc hK)
          · replace hK := hK.2 q443
            refine a_iconst C dL_law_877 ?_
            exact hK.elim
        replace hK := hK.2
        have q444 : (zand (ys (a3).toNat) 31) < 0 ∨ 26 < (zand (ys (a3).toNat) 31) := by omega
        refine a_tswOut C 879 dL_law_32 q228 q444 (by decide) ?_
        replace hK := hK q444
        refine a_iinc C dL_law_879 rfl (Nat.le_of_ble_eq_true rfl) ?_
        refine a_goto C 18 dL_law_882 (by decide) ?_
        exact a_ls (lsub_s rfl (lsub_s rfl (lsub_s rfl (lsub_s rfl lsub_0)))) (ih18 _ _ (a3 + 4) _ _ hX hM hnc hK)
  unfold mL_law at hK
  refine a_newC C zn_L_7 10 0 rfl ⟨_, _, rfl⟩ dL_law_0 rfl (by decide) (Nat.le_of_ble_eq_true rfl) (Nat.le_of_ble_eq_true rfl) ?_
  refine a_dup C dL_law_3 rfl ?_
  refine a_eqS (S' := sS0) rfl ?_
  refine a_callI (o := 0) (as := []) (rest := [zR 0]) C 0 (fun l => cK_11_init_0 l) rfl ml_L_9 im_X11_init in_X11 co_X11_init (by decide +kernel) rfl ⟨Nat.le_of_ble_eq_true rfl, Nat.le_of_ble_eq_true rfl⟩ (Nat.le_of_ble_eq_true rfl) dL_law_4 ⟨Nat.le_of_ble_eq_true rfl, Nat.le_of_ble_eq_true rfl⟩ ?_
  refine ⟨_, rfl, rfl, hK, fun V4 hK => ?_⟩
  try dsimp only [Option.toList, List.nil_append]
  refine a_astore_n C dL_law_7 (Nat.le_of_ble_eq_true rfl) ?_
  refine a_newC C zn_L_10 26 53 rfl ⟨_, _, rfl⟩ dL_law_8 rfl (by decide) (Nat.le_of_ble_eq_true rfl) (Nat.le_of_ble_eq_true rfl) ?_
  refine a_dup C dL_law_11 rfl ?_
  refine a_eqS (S' := sS17) rfl ?_
  refine a_callI (o := 53) (as := []) (rest := [zR 53]) C 0 (fun l => cK_12_init_53 l) rfl ml_L_12 im_X12_init in_X12 co_X12_init (by decide +kernel) rfl ⟨Nat.le_of_ble_eq_true rfl, Nat.le_of_ble_eq_true rfl⟩ (Nat.le_of_ble_eq_true rfl) dL_law_12 ⟨Nat.le_of_ble_eq_true rfl, Nat.le_of_ble_eq_true rfl⟩ ?_
  refine ⟨_, rfl, rfl, hK, fun V12 hK => ?_⟩
  try dsimp only [Option.toList, List.nil_append]
  refine a_astore_n C dL_law_15 (Nat.le_of_ble_eq_true rfl) ?_
  refine a_iconst C dL_law_16 ?_
  refine a_istore_n C dL_law_17 (Nat.le_of_ble_eq_true rfl) ?_
  obtain ⟨n, hK⟩ := hK
  exact a_ls (lsub_s rfl (lsub_s rfl (lsub_s rfl (lsub_s rfl lsub_0)))) (L18 n _ _ 0 _ _ psx_sS18 psm_sS18 (by decide) hK)
