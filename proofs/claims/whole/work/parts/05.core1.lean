/-! ===== the abstract machine: whole numbers for ints and longs, numbers of cells for references ===== -/
abbrev zA : Type := Int ⊕ Int ⊕ Option Nat
abbrev zC : Type := Nat × Int × (Nat → Option Nat)
abbrev zV : Type := Nat → Nat → Int
abbrev zI (x : Int) : zA := .inl x
abbrev zJ (x : Int) : zA := .inr (.inl x)
abbrev zR (x : Nat) : zA := .inr (.inr (some x))
abbrev zQ (x : Option Nat) : zA := .inr (.inr x)
abbrev inR (x : Int) : Prop := -2147483648 ≤ x ∧ x < 2147483648
abbrev inL (x : Int) : Prop := -9223372036854775808 ≤ x ∧ x < 9223372036854775808
def TB : List Cond := lw_tbl.filter goodWord
theorem TB_of {w : Cond} (h : w ∈ lw_tbl) (hg : goodWord w = true) : w ∈ TB := List.mem_filter.mpr ⟨h, hg⟩
theorem TB_tab {w : Cond} (i : Nat) (h : tables_1[i]? = some w) (hg : goodWord w = true) : w ∈ TB := TB_of (List.mem_append_right _ (List.mem_of_getElem? h)) hg
theorem TB_sel {w : Cond} (i : Nat) (h : (k2_sels lw_privs)[i]? = some w) (hg : goodWord w = true) : w ∈ TB := TB_of (List.mem_append_left _ (List.mem_of_getElem? h)) hg
theorem TB_good {w : Cond} (h : w ∈ TB) : w ∈ TB ∧ ((w.onTables && w.keeps) = true ∨ ∃ ty, w = .arrayClass ty) := ⟨h, good_of_word (List.mem_filter.mp h).2⟩
/-- a value of the abstract machine, at addresses ad -/
def cvv (ad : Nat → Nat) (v : zA) : Value := match v with
  | .inl x => .int (Int32.ofInt x)
  | .inr (.inl x) => .long (Int64.ofInt x)
  | .inr (.inr none) => .null
  | .inr (.inr (some k)) => .ref (ad k)
def okv (n : Nat) (v : zA) : Prop := match v with
  | .inr (.inr (some k)) => k < n ∨ k = 999999
  | _ => True
theorem cvv_to {n : Nat} {ad ad' : Nat → Nat} (h : ∀ k, k < n ∨ k = 999999 → ad' k = ad k) {v : zA} (hv : okv n v) : cvv ad' v = cvv ad v := by
  rcases v with x | x | _ | k
  · rfl
  · rfl
  · rfl
  · exact congrArg Value.ref (h k hv)
theorem cvv_map {n : Nat} {ad ad' : Nat → Nat} (h : ∀ k, k < n ∨ k = 999999 → ad' k = ad k) : ∀ {st : List zA}, (∀ v ∈ st, okv n v) → st.map (cvv ad') = st.map (cvv ad)
  | [], _ => rfl
  | v :: st, hv => by
    rw [List.map_cons, List.map_cons, cvv_to h (hv v List.mem_cons_self), cvv_map h (fun w hw => hv w (List.mem_cons_of_mem _ hw))]
theorem okv_mono {n n' : Nat} (h : n ≤ n') {v : zA} (hv : okv n v) : okv n' v := by
  rcases v with x | x | _ | k
  · trivial
  · trivial
  · trivial
  · exact hv.imp (fun q => Nat.lt_of_lt_of_le q h) id
/-- the fields' kinds of each class: 0 int, 1 long, 2 a reference, 3 a feud's worth -/
def fktL : List (List Nat) := [[3], [0], [3], [3], [2, 2, 2, 2, 2, 2, 2, 2, 2, 0, 2, 2, 0], [3], [2, 2, 0, 0], [2, 1], [2, 0, 0, 0], [3], [2, 2, 0], [2, 2, 2, 2, 2, 2, 2, 2, 0, 0], [2, 0, 2, 0, 0, 0, 0, 2, 2, 0, 2, 2, 2, 2, 2, 0, 2, 0, 0, 0, 0, 2, 2, 2, 2, 1]]
def fkt (t : Nat) : List Nat := fktL.getD t []
def fval (ad : Nat → Nat) (f : Nat → Int) (sc : zC) (kd k : Nat) : Value := if kd = 0 then .int (Int32.ofInt (f k)) else if kd = 1 then .long (Int64.ofInt (f k)) else if kd = 2 then va_rf ((sc.2.2 k).map ad) else .int (Int32.ofInt sc.2.1)
def fvals (ad : Nat → Nat) (f : Nat → Int) (sc : zC) : List Value := (fkt sc.1).mapIdx (fun k kd => fval ad f sc kd k)
def cE (ad : Nat → Nat) (cy : Nat → ClassId) (f : Nat → Int) (sc : zC) : va_E :=
  if sc.1 < 13 then .inr (sc.1, fvals ad f sc) else if sc.1 = 13 then .inl (cy 0, sc.2.1.toNat, .inl (fun j => Int32.ofInt (f j))) else if sc.1 = 14 then .inl (cy 1, sc.2.1.toNat, .inl (fun j => Int32.ofInt (f j))) else if sc.1 = 15 then .inl (cy 2, sc.2.1.toNat, .inr (.inl (fun j => Int64.ofInt (f j)))) else .inl (cy 3, sc.2.1.toNat, .inr (.inr (.inr (.inr (fun j => (sc.2.2 j).map ad)))))
def wsW (ad : Nat → Nat) (cy : Nat → ClassId) (S : List zC) (V : zV) : va_W := S.mapIdx (fun c sc => (ad c, cE ad cy (V c) sc))
theorem wsW_at {ad : Nat → Nat} {cy : Nat → ClassId} {S : List zC} {V : zV} {c : Nat} {sc : zC} (h : S[c]? = some sc) : (wsW ad cy S V)[c]? = some (ad c, cE ad cy (V c) sc) := by
  simp [wsW, h]
theorem wsW_of {ad : Nat → Nat} {cy : Nat → ClassId} {S : List zC} {V : zV} {c : Nat} {q : Nat × va_E} (h : (wsW ad cy S V)[c]? = some q) : ∃ sc, S[c]? = some sc ∧ q = (ad c, cE ad cy (V c) sc) := by
  unfold wsW at h
  rw [List.getElem?_mapIdx] at h
  cases hs : S[c]? with
  | none => rw [hs] at h; cases h
  | some sc => rw [hs] at h; exact ⟨sc, rfl, (Option.some.inj h).symm⟩
theorem wsW_set {ad : Nat → Nat} {cy : Nat → ClassId} {S : List zC} {V V' : zV} {c : Nat} {sc sc' : zC} (h : S[c]? = some sc) (hV : ∀ c', c' ≠ c → V' c' = V c') : (wsW ad cy S V).set c (ad c, cE ad cy (V' c) sc') = wsW ad cy (S.set c sc') V' := by
  apply List.ext_getElem?
  intro k
  unfold wsW
  have hl := (List.getElem?_eq_some_iff.mp h).1
  by_cases hk : k = c
  · subst hk
    rw [List.getElem?_set_self (by simpa using hl), List.getElem?_mapIdx, List.getElem?_set_self hl]
    rfl
  · rw [List.getElem?_set_ne (Ne.symm hk), List.getElem?_mapIdx, List.getElem?_mapIdx, List.getElem?_set_ne (Ne.symm hk)]
    cases hs : S[k]? with
    | none => rfl
    | some s1 => rw [Option.map_some, Option.map_some, hV k hk]
theorem wsW_setV {ad : Nat → Nat} {cy : Nat → ClassId} {S : List zC} {V V' : zV} {c : Nat} {sc : zC} (h : S[c]? = some sc) (hV : ∀ c', c' ≠ c → V' c' = V c') : (wsW ad cy S V).set c (ad c, cE ad cy (V' c) sc) = wsW ad cy S V' := by
  rw [wsW_set h hV]
  congr 1
  apply List.ext_getElem?
  intro k
  by_cases hk : k = c
  · subst hk
    rw [List.getElem?_set_self (List.getElem?_eq_some_iff.mp h).1, h]
  · rw [List.getElem?_set_ne (Ne.symm hk)]
def okS (S : List zC) : Prop := ∀ (c : Nat) (sc : zC), S[c]? = some sc → ∀ k r, sc.2.2 k = some r → r < S.length
theorem fval_to {n : Nat} {ad ad' : Nat → Nat} (h : ∀ k, k < n ∨ k = 999999 → ad' k = ad k) {f : Nat → Int} {sc : zC} (hs : ∀ k r, sc.2.2 k = some r → r < n) (kd k : Nat) : fval ad' f sc kd k = fval ad f sc kd k := by
  have e : (sc.2.2 k).map ad' = (sc.2.2 k).map ad := by
    cases hr : sc.2.2 k with
    | none => rfl
    | some r => rw [Option.map_some, Option.map_some, h r (Or.inl (hs k r hr))]
  unfold fval
  rw [e]
theorem cE_to {n : Nat} {ad ad' : Nat → Nat} (h : ∀ k, k < n ∨ k = 999999 → ad' k = ad k) {cy : Nat → ClassId} {f : Nat → Int} {sc : zC} (hs : ∀ k r, sc.2.2 k = some r → r < n) : cE ad' cy f sc = cE ad cy f sc := by
  have e1 : fvals ad' f sc = fvals ad f sc := by
    unfold fvals
    congr 1
    funext k kd
    exact fval_to h hs kd k
  have e2 : (fun j => (sc.2.2 j).map ad') = (fun j => (sc.2.2 j).map ad) := by
    funext j
    cases hr : sc.2.2 j with
    | none => rfl
    | some r => rw [Option.map_some, Option.map_some, h r (Or.inl (hs j r hr))]
  unfold cE
  rw [e1, e2]
theorem wsW_push {ad ad' : Nat → Nat} {cy : Nat → ClassId} {S : List zC} {V V' : zV} {q : Nat} {sc' : zC} (hS : okS S) (ha : ∀ k, k < S.length ∨ k = 999999 → ad' k = ad k) (hq : ad' S.length = q) (hV : ∀ c, c < S.length → V' c = V c) : wsW ad cy S V ++ [(q, cE ad' cy (V' S.length) sc')] = wsW ad' cy (S ++ [sc']) V' := by
  unfold wsW
  rw [List.mapIdx_append]
  congr 1
  · apply List.ext_getElem?
    intro k
    rw [List.getElem?_mapIdx, List.getElem?_mapIdx]
    cases hs : S[k]? with
    | none => rfl
    | some s1 =>
      have hl := (List.getElem?_eq_some_iff.mp hs).1
      rw [Option.map_some, Option.map_some, ha k (Or.inl hl), hV k hl, cE_to ha (hS k s1 hs)]
  · simp [hq]
theorem okS_push {S : List zC} {sc' : zC} (h : okS S) (h' : ∀ k r, sc'.2.2 k = some r → r < S.length + 1) : okS (S ++ [sc']) := by
  intro c sc hc k r hr
  rw [List.length_append, List.length_singleton]
  by_cases hl : c < S.length
  · rw [List.getElem?_append_left hl] at hc
    exact Nat.lt_succ_of_lt (h c sc hc k r hr)
  · rw [List.getElem?_append_right (by omega)] at hc
    have hz : c - S.length < 1 := (List.getElem?_eq_some_iff.mp hc).1
    rw [show c - S.length = 0 by omega] at hc
    cases hc
    exact h' k r hr
theorem okS_set {S : List zC} {c : Nat} {sc' : zC} (h : okS S) (h' : ∀ k r, sc'.2.2 k = some r → r < S.length) : okS (S.set c sc') := by
  intro c1 sc hc k r hr
  rw [List.length_set]
  by_cases hk : c1 = c
  · subst hk
    have hl : c1 < (S.set c1 sc').length := (List.getElem?_eq_some_iff.mp hc).1
    rw [List.length_set] at hl
    rw [List.getElem?_set_self hl] at hc
    cases hc
    exact h' k r hr
  · rw [List.getElem?_set_ne (Ne.symm hk)] at hc
    exact h c1 sc hc k r hr
/-- what a cell's place of a kind holds -/
def inC (t k : Nat) (x : Int) : Prop := if t = 15 ∨ (t = 7 ∧ k = 1) ∨ (t = 12 ∧ k = 25) then inL x else if t = 14 then x = 0 ∨ x = 1 else inR x
def inV (S : List zC) (V : zV) : Prop := ∀ (c : Nat) (sc : zC), S[c]? = some sc → ∀ k, inC sc.1 k (V c k)
theorem inC_0 (t k : Nat) : inC t k 0 := by
  unfold inC
  split
  · exact ⟨by decide, by decide⟩
  · split
    · exact Or.inl rfl
    · exact ⟨by decide, by decide⟩
/-- new contents of a cell -/
def vrow (V : zV) (c : Nat) (f : Nat → Int) : zV := fun c' => if c' = c then f else V c'
def ups (f : Nat → Int) (k : Nat) (x : Int) : Nat → Int := fun j => if j = k then x else f j
abbrev vset (V : zV) (c k : Nat) (x : Int) : zV := vrow V c (ups (V c) k x)
theorem vrow_s (V : zV) (c : Nat) (f : Nat → Int) : vrow V c f c = f := if_pos rfl
theorem vrow_n {V : zV} {c c' : Nat} {f : Nat → Int} (h : c' ≠ c) : vrow V c f c' = V c' := if_neg h
theorem ups_s (f : Nat → Int) (k : Nat) (x : Int) : ups f k x k = x := if_pos rfl
theorem ups_n {f : Nat → Int} {k j : Nat} {x : Int} (h : j ≠ k) : ups f k x j = f j := if_neg h
theorem inV_row {S : List zC} {V : zV} {c : Nat} {f : Nat → Int} (h : inV S V) (hf : ∀ sc, S[c]? = some sc → ∀ k, inC sc.1 k (f k)) : inV S (vrow V c f) := by
  intro c1 sc hc k
  by_cases hk : c1 = c
  · subst hk
    rw [vrow_s]
    exact hf sc hc k
  · rw [vrow_n hk]
    exact h c1 sc hc k
theorem inV_set {S : List zC} {V : zV} {c k : Nat} {x : Int} {sc : zC} (h : inV S V) (hc : S[c]? = some sc) (hx : inC sc.1 k x) : inV S (vset V c k x) := by
  refine inV_row h (fun sc' hc' j => ?_)
  cases hc.symm.trans hc'
  by_cases hj : j = k
  · subst hj
    rw [ups_s]
    exact hx
  · rw [ups_n hj]
    exact h c sc hc j
theorem inV_shape {S : List zC} {V : zV} {c : Nat} {sc sc' : zC} (h : inV S V) (hc : S[c]? = some sc) (ht : sc'.1 = sc.1) : inV (S.set c sc') V := by
  intro c1 s1 h1 k
  by_cases hk : c1 = c
  · subst hk
    rw [List.getElem?_set_self (List.getElem?_eq_some_iff.mp hc).1] at h1
    cases h1
    rw [ht]
    exact h c1 sc hc k
  · rw [List.getElem?_set_ne (Ne.symm hk)] at h1
    exact h c1 s1 h1 k
theorem inV_push {S : List zC} {V : zV} {sc' : zC} {f : Nat → Int} (h : inV S V) (hf : ∀ k, inC sc'.1 k (f k)) : inV (S ++ [sc']) (vrow V S.length f) := by
  intro c sc hc k
  by_cases hl : c < S.length
  · rw [List.getElem?_append_left hl] at hc
    rw [vrow_n (Nat.ne_of_lt hl)]
    exact h c sc hc k
  · rw [List.getElem?_append_right (by omega)] at hc
    have hz : c - S.length < 1 := (List.getElem?_eq_some_iff.mp hc).1
    have e : c = S.length := by omega
    subst e
    rw [Nat.sub_self] at hc
    cases hc
    rw [vrow_s]
    exact hf k
/-- the locals -/
def zLR (n : Nat) (ad : Nat → Nat) (nL : Nat) (al : List (Option zA)) (ls : Array Slot) : Prop := ls.size = nL ∧ lv_wf ls ∧ ∀ (i : Nat) (v : zA), al[i]? = some (some v) → okv n v ∧ ls[i]? = some (.val (cvv ad v))
theorem zLR_to {n n' nL : Nat} {ad ad' : Nat → Nat} {al : List (Option zA)} {ls : Array Slot} (hn : n ≤ n') (h : ∀ k, k < n ∨ k = 999999 → ad' k = ad k) (hl : zLR n ad nL al ls) : zLR n' ad' nL al ls :=
  ⟨hl.1, hl.2.1, fun i v hi => ⟨okv_mono hn (hl.2.2 i v hi).1, by rw [cvv_to h (hl.2.2 i v hi).1]; exact (hl.2.2 i v hi).2⟩⟩
def isJv (v : Option zA) : Bool := match v with
  | some (.inr (.inl _)) => true
  | _ => false
/-- a store of one slot: a long whose second half is hit is gone -/
def kil (al : List (Option zA)) (i : Nat) : List (Option zA) := match i with
  | 0 => al
  | j + 1 => match al[j]? with
    | some (some (.inr (.inl _))) => al.set j none
    | _ => al
def st1 (al : List (Option zA)) (i : Nat) (v : zA) : List (Option zA) := (kil al i).set i (some v)
def st2 (al : List (Option zA)) (i : Nat) (v : zA) : List (Option zA) := ((kil al i).set i (some v)).set (i + 1) none
theorem cvv_cat (ad : Nat → Nat) (v : zA) : (cvv ad v).category = if isJv (some v) then 2 else 1 := by
  rcases v with x | x | _ | k <;> rfl
/-- the listed values of the locals, as the kit has them -/
def lst (ad : Nat → Nat) (al : List (Option zA)) : List (Nat × Value) := (List.range al.length).filterMap (fun i => match al[i]? with
  | some (some v) => some (i, cvv ad v)
  | _ => none)
theorem lst_mem {ad : Nat → Nat} {al : List (Option zA)} {i : Nat} {v : zA} (h : al[i]? = some (some v)) : (i, cvv ad v) ∈ lst ad al :=
  List.mem_filterMap.mpr ⟨i, List.mem_range.mpr (List.getElem?_eq_some_iff.mp h).1, by rw [h]⟩
theorem lst_has {n nL : Nat} {ad : Nat → Nat} {al : List (Option zA)} {ls : Array Slot} (h : zLR n ad nL al ls) : lv_has ls nL (lst ad al) := by
  refine ⟨h.1, h.2.1, fun q hq => ?_⟩
  obtain ⟨i, -, hi⟩ := List.mem_filterMap.mp hq
  cases ha : al[i]? with
  | none => rw [ha] at hi; cases hi
  | some o =>
    cases o with
    | none => rw [ha] at hi; cases hi
    | some v =>
      rw [ha] at hi
      cases hi
      exact (h.2.2 i v ha).2
theorem kil_at {al : List (Option zA)} {i j : Nat} {w : zA} (h : (kil al i)[j]? = some (some w)) : al[j]? = some (some w) ∧ ¬ (j + 1 = i ∧ isJv (some w) = true) := by
  cases i with
  | zero => exact ⟨h, fun q => by omega⟩
  | succ i =>
    unfold kil at h
    dsimp only at h
    split at h
    · rename_i x hx
      by_cases hj : j = i
      · subst hj
        rw [List.getElem?_set_self (List.getElem?_eq_some_iff.mp hx).1] at h
        cases h
      · rw [List.getElem?_set_ne (Ne.symm hj)] at h
        exact ⟨h, fun q => by omega⟩
    · rename_i hx
      refine ⟨h, fun q => ?_⟩
      have hj : j = i := by omega
      subst hj
      rcases w with x | x | o
      · exact absurd q.2 (by simp [isJv])
      · exact hx x h
      · exact absurd q.2 (by simp [isJv])
theorem kil_len (al : List (Option zA)) (i : Nat) : (kil al i).length = al.length := by
  cases i with
  | zero => rfl
  | succ i =>
    unfold kil
    dsimp only
    split
    · simp
    · rfl
theorem st1_to {n nL i : Nat} {ad : Nat → Nat} {al : List (Option zA)} {ls' : Array Slot} {v : zA} (hal : ∀ (j : Nat) (w : zA), al[j]? = some (some w) → okv n w) (hv : okv n v)
    (h : lv_has ls' nL ((i, cvv ad v) :: (lst ad al).filter (fun q => !(q.1 == i) && !(q.1 + 1 == i && q.2.category == 2)))) : zLR n ad nL (st1 al i v) ls' := by
  refine ⟨h.1, h.2.1, fun j w hj => ?_⟩
  unfold st1 at hj
  by_cases hji : j = i
  · subst hji
    have hl : j < (kil al j).length := by
      have := (List.getElem?_eq_some_iff.mp hj).1
      simpa using this
    rw [List.getElem?_set_self hl] at hj
    cases hj
    exact ⟨hv, h.2.2 (j, cvv ad v) List.mem_cons_self⟩
  · rw [List.getElem?_set_ne (Ne.symm hji)] at hj
    obtain ⟨h1, h2⟩ := kil_at hj
    refine ⟨hal j w h1, h.2.2 (j, cvv ad w) (List.mem_cons_of_mem _ (List.mem_filter.mpr ⟨lst_mem h1, ?_⟩))⟩
    dsimp only
    rw [cvv_cat]
    by_cases hq : j + 1 = i
    · have : isJv (some w) = false := by
        cases hJ : isJv (some w) with
        | false => rfl
        | true => exact absurd ⟨hq, hJ⟩ h2
      simp [this, hji]
    · simp [hq, hji]
theorem st2_to {n nL i : Nat} {ad : Nat → Nat} {al : List (Option zA)} {ls' : Array Slot} {v : zA} (hal : ∀ (j : Nat) (w : zA), al[j]? = some (some w) → okv n w) (hv : okv n v)
    (h : lv_has ls' nL ((i, cvv ad v) :: (lst ad al).filter (fun q => !(q.1 == i) && (!(q.1 == i + 1) && !(q.1 + 1 == i && q.2.category == 2))))) : zLR n ad nL (st2 al i v) ls' := by
  refine ⟨h.1, h.2.1, fun j w hj => ?_⟩
  unfold st2 at hj
  by_cases hj1 : j = i + 1
  · subst hj1
    have hl : i + 1 < ((kil al i).set i (some v)).length := by
      have := (List.getElem?_eq_some_iff.mp hj).1
      simpa using this
    rw [List.getElem?_set_self hl] at hj
    cases hj
  · rw [List.getElem?_set_ne (Ne.symm hj1)] at hj
    by_cases hji : j = i
    · subst hji
      have hl : j < (kil al j).length := by
        have := (List.getElem?_eq_some_iff.mp hj).1
        simpa using this
      rw [List.getElem?_set_self hl] at hj
      cases hj
      exact ⟨hv, h.2.2 (j, cvv ad v) List.mem_cons_self⟩
    · rw [List.getElem?_set_ne (Ne.symm hji)] at hj
      obtain ⟨h1, h2⟩ := kil_at hj
      refine ⟨hal j w h1, h.2.2 (j, cvv ad w) (List.mem_cons_of_mem _ (List.mem_filter.mpr ⟨lst_mem h1, ?_⟩))⟩
      dsimp only
      rw [cvv_cat]
      by_cases hq : j + 1 = i
      · have : isJv (some w) = false := by
          cases hJ : isJv (some w) with
          | false => rfl
          | true => exact absurd ⟨hq, hJ⟩ h2
        simp [this, hji, hj1]
      · simp [hq, hji, hj1]
