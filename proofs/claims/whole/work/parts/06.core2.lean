/-! ===== numbers ===== -/
theorem z_toInt {x : Int} (h : inR x) : (Int32.ofInt x).toInt = x := by
  rw [Int32.toInt_ofInt]
  show x.bmod 4294967296 = x
  exact Int.bmod_eq_of_le (by omega) (by omega)
theorem z_toIntL {x : Int} (h : inL x) : (Int64.ofInt x).toInt = x := by
  rw [Int64.toInt_ofInt]
  show x.bmod 18446744073709551616 = x
  exact Int.bmod_eq_of_le (by omega) (by omega)
theorem z_lt {x y : Int} (hx : inR x) (hy : inR y) : Int32.ofInt x < Int32.ofInt y ↔ x < y := by rw [Int32.lt_iff_toInt_lt, z_toInt hx, z_toInt hy]
theorem z_le {x y : Int} (hx : inR x) (hy : inR y) : Int32.ofInt x ≤ Int32.ofInt y ↔ x ≤ y := by rw [Int32.le_iff_toInt_le, z_toInt hx, z_toInt hy]
theorem z_eq {x y : Int} (hx : inR x) (hy : inR y) : Int32.ofInt x = Int32.ofInt y ↔ x = y := by rw [← Int32.toInt_inj, z_toInt hx, z_toInt hy]
theorem z_ltL {x y : Int} (hx : inL x) (hy : inL y) : Int64.ofInt x < Int64.ofInt y ↔ x < y := by rw [Int64.lt_iff_toInt_lt, z_toIntL hx, z_toIntL hy]
theorem z_eqL {x y : Int} (hx : inL x) (hy : inL y) : Int64.ofInt x = Int64.ofInt y ↔ x = y := by rw [← Int64.toInt_inj, z_toIntL hx, z_toIntL hy]
theorem z_0 : Int32.ofInt 0 = 0 := rfl
theorem z_clamp {i : Int} (h0 : 0 ≤ i) (h : i < 2147483648) : (Int32.ofInt i).toNatClampNeg = i.toNat := by
  show (Int32.ofInt i).toInt.toNat = i.toNat
  rw [z_toInt ⟨by omega, h⟩]
theorem z_neg {i : Int} (h0 : 0 ≤ i) (h : i < 2147483648) : ¬ Int32.ofInt i < 0 := by
  rw [← z_0, z_lt ⟨by omega, h⟩ ⟨by omega, by omega⟩]
  omega
theorem z_in {i n : Int} (h0 : 0 ≤ i) (h : i < n) (hn : n ≤ 2147483647) : vp_in (Int32.ofInt i) n.toNat := by
  intro q
  rcases q with q | q
  · exact z_neg h0 (by omega) q
  · rw [z_clamp h0 (by omega)] at q
    omega
theorem z_div {x y : Int} (h0 : 0 ≤ x) (hx : x < 2147483648) (hy0 : 0 < y) (hy : y < 2147483648) : Int32.ofInt x / Int32.ofInt y = Int32.ofInt (x / y) := by
  rw [← Int32.toInt_inj, Int32.toInt_div, z_toInt ⟨by omega, hx⟩, z_toInt ⟨by omega, hy⟩, Int.tdiv_eq_ediv_of_nonneg h0, Int32.toInt_ofInt]
theorem z_mod {x y : Int} (h0 : 0 ≤ x) (hx : x < 2147483648) (hy0 : 0 < y) (hy : y < 2147483648) : Int32.ofInt x - Int32.ofInt x / Int32.ofInt y * Int32.ofInt y = Int32.ofInt (x % y) := by
  rw [z_div h0 hx hy0 hy, ← Int32.ofInt_mul, ← Int32.ofInt_sub, Int.emod_def, Int.mul_comm]
theorem z_divL {x y : Int} (h0 : 0 ≤ x) (hx : x < 9223372036854775808) (hy0 : 0 < y) (hy : y < 9223372036854775808) : Int64.ofInt x / Int64.ofInt y = Int64.ofInt (x / y) := by
  rw [← Int64.toInt_inj, Int64.toInt_div, z_toIntL ⟨by omega, hx⟩, z_toIntL ⟨by omega, hy⟩, Int.tdiv_eq_ediv_of_nonneg h0, Int64.toInt_ofInt]
theorem z_modL {x y : Int} (h0 : 0 ≤ x) (hx : x < 9223372036854775808) (hy0 : 0 < y) (hy : y < 9223372036854775808) : Int64.ofInt x - Int64.ofInt x / Int64.ofInt y * Int64.ofInt y = Int64.ofInt (x % y) := by
  rw [z_divL h0 hx hy0 hy, ← Int64.ofInt_mul, ← Int64.ofInt_sub, Int.emod_def, Int.mul_comm]
/-! ===== the judgement ===== -/
def okst (n : Nat) : List zA → Prop
  | [] => True
  | v :: st => okv n v ∧ okst n st
theorem okst_mem {n : Nat} : ∀ {st : List zA}, okst n st → ∀ v ∈ st, okv n v
  | [], _, v, h => by cases h
  | w :: st, ho, v, h => by
    rcases List.mem_cons.mp h with rfl | h
    · exact ho.1
    · exact okst_mem ho.2 v h
theorem okst_mono {n n' : Nat} (h : n ≤ n') : ∀ {st : List zA}, okst n st → okst n' st
  | [], _ => trivial
  | _ :: _, ho => ⟨okv_mono h ho.1, okst_mono h ho.2⟩
theorem okst_app {n : Nat} : ∀ {a b : List zA}, okst n (a ++ b) ↔ okst n a ∧ okst n b
  | [], b => ⟨fun h => ⟨trivial, h⟩, fun h => h.2⟩
  | v :: a, b => ⟨fun h => ⟨⟨h.1, (okst_app.mp h.2).1⟩, (okst_app.mp h.2).2⟩, fun h => ⟨h.1.1, okst_app.mpr ⟨h.1.2, h.2⟩⟩⟩
theorem okst_rev {n : Nat} : ∀ {a : List zA}, okst n a → okst n a.reverse
  | [], _ => trivial
  | v :: a, h => by rw [List.reverse_cons]; exact okst_app.mpr ⟨okst_rev h.2, h.1, trivial⟩
def tyL (cy : Nat → ClassId) : List (ClassId × FieldType) := [(cy 0, .int), (cy 1, .boolean), (cy 2, .long), (cy 3, .object "ClosedFeuds$Feud")]
def zNest : List Cond := [.methodLinkNest "ClosedFeuds" 9 yX8_init "ClosedFeuds", .methodLinkNest "ClosedFeuds" 40 yX6_init "ClosedFeuds", .methodLinkNest "ClosedFeuds" 47 yX7_init "ClosedFeuds", .methodLinkNest "ClosedFeuds" 54 yX1_init "ClosedFeuds", .methodLinkNest "ClosedFeuds$Isle" 145 yX11_times "ClosedFeuds"]
def zCast : List (String × String) := [("ClosedFeuds$Pig", "ClosedFeuds$Grudge"), ("ClosedFeuds$Boundary", "ClosedFeuds$Feud"), ("ClosedFeuds$Joke", "ClosedFeuds$Feud"), ("ClosedFeuds$Grudge", "ClosedFeuds$Feud"), ("ClosedFeuds$Pig", "ClosedFeuds$Feud")]
def zNoC : List (String × String) := [("ClosedFeuds$Feud", "ClosedFeuds$Boundary"), ("ClosedFeuds$Joke", "ClosedFeuds$Boundary"), ("ClosedFeuds$Grudge", "ClosedFeuds$Boundary"), ("ClosedFeuds$Pig", "ClosedFeuds$Boundary"), ("ClosedFeuds$Feud", "ClosedFeuds$Joke"), ("ClosedFeuds$Boundary", "ClosedFeuds$Joke"), ("ClosedFeuds$Grudge", "ClosedFeuds$Joke"), ("ClosedFeuds$Pig", "ClosedFeuds$Joke"), ("ClosedFeuds$Feud", "ClosedFeuds$Grudge"), ("ClosedFeuds$Boundary", "ClosedFeuds$Grudge"), ("ClosedFeuds$Joke", "ClosedFeuds$Grudge"), ("ClosedFeuds$Feud", "ClosedFeuds$Pig"), ("ClosedFeuds$Boundary", "ClosedFeuds$Pig"), ("ClosedFeuds$Joke", "ClosedFeuds$Pig"), ("ClosedFeuds$Grudge", "ClosedFeuds$Pig")]
/-- what the tables say, beside their words -/
def KK (D : va_G) (cy : Nat → ClassId) (s : State) : Prop := va_K D vwCl (tyL cy) s ∧ (∀ w ∈ zNest, va_Nw w s) ∧ (∀ q ∈ zCast, va_Nw (.castable q.1 q.2) s) ∧ (∀ q ∈ zNoC, va_Nc q.1 q.2 s) ∧ va_AO "ClosedFeuds$Feud" s
theorem KK_same {D : va_G} {cy : Nat → ClassId} {u U : State} (h : u.vm = U.vm) (hK : KK D cy u) : KK D cy U := by
  have ha : u.vm.Alike U.vm := h ▸ Vm.Alike.refl u.vm
  refine ⟨va_K.moved ha hK.1, fun w hw => va_Nw.same ?_ h (hK.2.1 w hw), fun q hq => va_Nw.same rfl h (hK.2.2.1 q hq), fun q hq => va_Nc.moved ha (hK.2.2.2.1 q hq), va_AO.moved ha hK.2.2.2.2⟩
  simp only [zNest, List.mem_cons, List.not_mem_nil, or_false] at hw
  rcases hw with rfl | rfl | rfl | rfl | rfl <;> rfl
theorem KK_warm {D : va_G} {cy : Nat → ClassId} {s U : State} (hW : s.WarmedH U.vm) (hK : KK D cy s) : KK D cy U := by
  refine ⟨va_K.moved hW.alike hK.1, fun w hw => ?_, fun q hq => va_Nw.warmC hW (hK.2.2.1 q hq), fun q hq => va_Nc.moved hW.alike (hK.2.2.2.1 q hq), va_AO.moved hW.alike hK.2.2.2.2⟩
  have h := hK.2.1 w hw
  simp only [zNest, List.mem_cons, List.not_mem_nil, or_false] at hw
  rcases hw with rfl | rfl | rfl | rfl | rfl <;> exact va_Nw.warmM hW h
abbrev zM : Type := Program × Launch × Env × Room × State × MethodId × Array Value × List Frame × Method × Code × va_G × (Nat → ClassId) × (Nat → Prop) × (State → Prop) × (Nat → Nat) × Nat
/-- the world: the cells S with the numbers V at the addresses ad -/
def zWD (D : va_G) (cy : Nat → ClassId) (A : Nat → Prop) (ad0 : Nat → Nat) (n0 : Nat) (ad : Nat → Nat) (S : List zC) (V : zV) (H : Heap) : Prop :=
  va_P D vwCl (wsW ad cy S V) H ∧ va_D A (wsW ad cy S V) ∧ okS S ∧ inV S V ∧ n0 ≤ S.length ∧ ∀ k, k < n0 ∨ k = 999999 → ad k = ad0 k
/-- the machine at pc, with these cells, numbers, locals and stack, comes to its end -/
def zW (X : zM) (S : List zC) (V : zV) (nc ns : Nat) (al : List (Option zA)) (st : List zA) (pc : Nat) : Prop := match X with
  | (p, l, e, R, s, m, args, below, meth, c, D, cy, A, Q, ad0, n0) => ∀ (ad : Nat → Nat) (H : Heap) (locs : List Loc) (ls : Array Slot), zWD D cy A ad0 n0 ad S V H → va_S A s.heap H locs → zLR S.length ad c.maxLocals al ls → okst S.length st → W p l e R s m args below meth c H locs nc ns Q (F0 m pc ls (st.map (cvv ad)))
def zCX (X : zM) (cc : ByteArray) (nL : Nat) (own nm : String) (rm : Room) : Prop := match X with
  | (p, l, e, R, s, m, args, below, meth, c, D, cy, A, Q, ad0, n0) => p.tables.exec = Jvm.exec ∧ c.code = cc ∧ c.maxLocals = nL ∧ s.vm.findClass own = some m.cls ∧ (∀ w ∈ TB, w.before args s = true) ∧ meth.locks = false ∧ KK D cy s ∧ (∀ q, s.heap.size ≤ q → A q) ∧ R = rm ∧ meth.name = nm
def zPost (D : va_G) (cy : Nat → ClassId) (A : Nat → Prop) (ad0 : Nat → Nat) (n0 : Nat) (post : Option zA → List zC → zV → Prop) : Array Value → State → Outcome → State → Prop := fun _ st oc t =>
  (∃ (r : Option zA) (ad : Nat → Nat) (S : List zC) (V : zV), oc = .returned (r.map (cvv ad)) ∧ post r S V ∧ (∀ v, r = some v → okv S.length v) ∧ zWD D cy A ad0 n0 ad S V t.heap) ∧ va_F A st t
def zRX (X : zM) (ret : Option FieldType) (post : Option zA → List zC → zV → Prop) (mc ms : Nat) : Prop := match X with
  | (p, l, e, R, s, m, args, below, meth, c, D, cy, A, Q, ad0, n0) => meth.sig.returnType = ret ∧ Q = MQ below (zPost D cy A ad0 n0 post) args s mc ms A
