/-! ===== one instruction, a row ===== -/
section ZR
variable {X : zM} {cc : ByteArray} {nL : Nat} {own nm : String} {rm : Room} {S : List zC} {V : zV} {nc ns pc : Nat} {al : List (Option zA)} {st : List zA}
theorem a_iadd (C : zCX X cc nL own nm rm) (hd : decode cc pc = .ok (.iadd, 1)) {x y : Int} (k : zW X S V nc ns al (zI (x + y) :: st) (pc + 1)) : zW X S V nc ns al (zI y :: zI x :: st) pc := by
  obtain ⟨p, l, e, R, s, m, args, below, meth, c, D, cy, A, Q, ad0, n0⟩ := X
  obtain ⟨hx, hb, -⟩ := C
  intro ad H locs ls hw hS hL ho
  refine lv_iadd hx hb hd ?_
  rw [← Int32.ofInt_add]
  exact k ad H locs ls hw hS hL ⟨trivial, ho.2.2⟩
theorem a_isub (C : zCX X cc nL own nm rm) (hd : decode cc pc = .ok (.isub, 1)) {x y : Int} (k : zW X S V nc ns al (zI (x - y) :: st) (pc + 1)) : zW X S V nc ns al (zI y :: zI x :: st) pc := by
  obtain ⟨p, l, e, R, s, m, args, below, meth, c, D, cy, A, Q, ad0, n0⟩ := X
  obtain ⟨hx, hb, -⟩ := C
  intro ad H locs ls hw hS hL ho
  refine lv_isub hx hb hd ?_
  rw [← Int32.ofInt_sub]
  exact k ad H locs ls hw hS hL ⟨trivial, ho.2.2⟩
theorem a_imul (C : zCX X cc nL own nm rm) (hd : decode cc pc = .ok (.imul, 1)) {x y : Int} (k : zW X S V nc ns al (zI (x * y) :: st) (pc + 1)) : zW X S V nc ns al (zI y :: zI x :: st) pc := by
  obtain ⟨p, l, e, R, s, m, args, below, meth, c, D, cy, A, Q, ad0, n0⟩ := X
  obtain ⟨hx, hb, -⟩ := C
  intro ad H locs ls hw hS hL ho
  refine lv_imul hx hb hd ?_
  rw [← Int32.ofInt_mul]
  exact k ad H locs ls hw hS hL ⟨trivial, ho.2.2⟩
theorem a_idiv (C : zCX X cc nL own nm rm) (hd : decode cc pc = .ok (.idiv, 1)) {x y : Int} (h : (0 ≤ x ∧ x < 2147483648) ∧ 0 < y ∧ y < 2147483648) (k : zW X S V nc ns al (zI (x / y) :: st) (pc + 1)) : zW X S V nc ns al (zI y :: zI x :: st) pc := by
  obtain ⟨p, l, e, R, s, m, args, below, meth, c, D, cy, A, Q, ad0, n0⟩ := X
  obtain ⟨hx, hb, -⟩ := C
  intro ad H locs ls hw hS hL ho
  refine lv_idiv hx hb hd ?_ ?_
  · rw [← z_0, z_eq ⟨by omega, h.2.2⟩ ⟨by omega, by omega⟩]
    omega
  · rw [z_div h.1.1 h.1.2 h.2.1 h.2.2]
    exact k ad H locs ls hw hS hL ⟨trivial, ho.2.2⟩
theorem a_irem (C : zCX X cc nL own nm rm) (hd : decode cc pc = .ok (.irem, 1)) {x y : Int} (h : (0 ≤ x ∧ x < 2147483648) ∧ 0 < y ∧ y < 2147483648) (k : zW X S V nc ns al (zI (x % y) :: st) (pc + 1)) : zW X S V nc ns al (zI y :: zI x :: st) pc := by
  obtain ⟨p, l, e, R, s, m, args, below, meth, c, D, cy, A, Q, ad0, n0⟩ := X
  obtain ⟨hx, hb, -⟩ := C
  intro ad H locs ls hw hS hL ho
  refine lv_irem hx hb hd ?_ ?_
  · rw [← z_0, z_eq ⟨by omega, h.2.2⟩ ⟨by omega, by omega⟩]
    omega
  · rw [z_mod h.1.1 h.1.2 h.2.1 h.2.2]
    exact k ad H locs ls hw hS hL ⟨trivial, ho.2.2⟩
theorem a_ladd (C : zCX X cc nL own nm rm) (hd : decode cc pc = .ok (.ladd, 1)) {x y : Int} (k : zW X S V nc ns al (zJ (x + y) :: st) (pc + 1)) : zW X S V nc ns al (zJ y :: zJ x :: st) pc := by
  obtain ⟨p, l, e, R, s, m, args, below, meth, c, D, cy, A, Q, ad0, n0⟩ := X
  obtain ⟨hx, hb, -⟩ := C
  intro ad H locs ls hw hS hL ho
  refine lv_ladd hx hb hd ?_
  rw [← Int64.ofInt_add]
  exact k ad H locs ls hw hS hL ⟨trivial, ho.2.2⟩
theorem a_lsub (C : zCX X cc nL own nm rm) (hd : decode cc pc = .ok (.lsub, 1)) {x y : Int} (k : zW X S V nc ns al (zJ (x - y) :: st) (pc + 1)) : zW X S V nc ns al (zJ y :: zJ x :: st) pc := by
  obtain ⟨p, l, e, R, s, m, args, below, meth, c, D, cy, A, Q, ad0, n0⟩ := X
  obtain ⟨hx, hb, -⟩ := C
  intro ad H locs ls hw hS hL ho
  refine lv_lsub hx hb hd ?_
  rw [← Int64.ofInt_sub]
  exact k ad H locs ls hw hS hL ⟨trivial, ho.2.2⟩
theorem a_lmul (C : zCX X cc nL own nm rm) (hd : decode cc pc = .ok (.lmul, 1)) {x y : Int} (k : zW X S V nc ns al (zJ (x * y) :: st) (pc + 1)) : zW X S V nc ns al (zJ y :: zJ x :: st) pc := by
  obtain ⟨p, l, e, R, s, m, args, below, meth, c, D, cy, A, Q, ad0, n0⟩ := X
  obtain ⟨hx, hb, -⟩ := C
  intro ad H locs ls hw hS hL ho
  refine lv_lmul hx hb hd ?_
  rw [← Int64.ofInt_mul]
  exact k ad H locs ls hw hS hL ⟨trivial, ho.2.2⟩
theorem a_ldiv (C : zCX X cc nL own nm rm) (hd : decode cc pc = .ok (.ldiv, 1)) {x y : Int} (h : (0 ≤ x ∧ x < 9223372036854775808) ∧ 0 < y ∧ y < 9223372036854775808) (k : zW X S V nc ns al (zJ (x / y) :: st) (pc + 1)) : zW X S V nc ns al (zJ y :: zJ x :: st) pc := by
  obtain ⟨p, l, e, R, s, m, args, below, meth, c, D, cy, A, Q, ad0, n0⟩ := X
  obtain ⟨hx, hb, -⟩ := C
  intro ad H locs ls hw hS hL ho
  refine lv_ldiv hx hb hd ?_ ?_
  · rw [show (0 : Int64) = Int64.ofInt 0 from rfl, z_eqL ⟨by omega, h.2.2⟩ ⟨by omega, by omega⟩]
    omega
  · rw [z_divL h.1.1 h.1.2 h.2.1 h.2.2]
    exact k ad H locs ls hw hS hL ⟨trivial, ho.2.2⟩
theorem a_lrem (C : zCX X cc nL own nm rm) (hd : decode cc pc = .ok (.lrem, 1)) {x y : Int} (h : (0 ≤ x ∧ x < 9223372036854775808) ∧ 0 < y ∧ y < 9223372036854775808) (k : zW X S V nc ns al (zJ (x % y) :: st) (pc + 1)) : zW X S V nc ns al (zJ y :: zJ x :: st) pc := by
  obtain ⟨p, l, e, R, s, m, args, below, meth, c, D, cy, A, Q, ad0, n0⟩ := X
  obtain ⟨hx, hb, -⟩ := C
  intro ad H locs ls hw hS hL ho
  refine lv_lrem hx hb hd ?_ ?_
  · rw [show (0 : Int64) = Int64.ofInt 0 from rfl, z_eqL ⟨by omega, h.2.2⟩ ⟨by omega, by omega⟩]
    omega
  · rw [z_modL h.1.1 h.1.2 h.2.1 h.2.2]
    exact k ad H locs ls hw hS hL ⟨trivial, ho.2.2⟩
/-- the numbers that stand for x & y, x | y, x ^ y -/
def zand (x y : Int) : Int := (Int32.ofInt x &&& Int32.ofInt y).toInt
def zor (x y : Int) : Int := (Int32.ofInt x ||| Int32.ofInt y).toInt
def zxor (x y : Int) : Int := (Int32.ofInt x ^^^ Int32.ofInt y).toInt
def zandL (x y : Int) : Int := (Int64.ofInt x &&& Int64.ofInt y).toInt
def zshl (x y : Int) : Int := (Int32.ofInt x <<< (Int32.ofInt y &&& 31)).toInt
def zshr (x y : Int) : Int := (Int32.ofInt x >>> (Int32.ofInt y &&& 31)).toInt
theorem a_iand (C : zCX X cc nL own nm rm) (hd : decode cc pc = .ok (.iand, 1)) {x y : Int} (k : zW X S V nc ns al (zI (zand x y) :: st) (pc + 1)) : zW X S V nc ns al (zI y :: zI x :: st) pc := by
  obtain ⟨p, l, e, R, s, m, args, below, meth, c, D, cy, A, Q, ad0, n0⟩ := X
  obtain ⟨hx, hb, -⟩ := C
  intro ad H locs ls hw hS hL ho
  refine lv_iand hx hb hd ?_
  rw [← Int32.ofInt_toInt (Int32.ofInt x &&& Int32.ofInt y)]
  exact k ad H locs ls hw hS hL ⟨trivial, ho.2.2⟩
theorem a_ior (C : zCX X cc nL own nm rm) (hd : decode cc pc = .ok (.ior, 1)) {x y : Int} (k : zW X S V nc ns al (zI (zor x y) :: st) (pc + 1)) : zW X S V nc ns al (zI y :: zI x :: st) pc := by
  obtain ⟨p, l, e, R, s, m, args, below, meth, c, D, cy, A, Q, ad0, n0⟩ := X
  obtain ⟨hx, hb, -⟩ := C
  intro ad H locs ls hw hS hL ho
  refine lv_ior hx hb hd ?_
  rw [← Int32.ofInt_toInt (Int32.ofInt x ||| Int32.ofInt y)]
  exact k ad H locs ls hw hS hL ⟨trivial, ho.2.2⟩
theorem a_ixor (C : zCX X cc nL own nm rm) (hd : decode cc pc = .ok (.ixor, 1)) {x y : Int} (k : zW X S V nc ns al (zI (zxor x y) :: st) (pc + 1)) : zW X S V nc ns al (zI y :: zI x :: st) pc := by
  obtain ⟨p, l, e, R, s, m, args, below, meth, c, D, cy, A, Q, ad0, n0⟩ := X
  obtain ⟨hx, hb, -⟩ := C
  intro ad H locs ls hw hS hL ho
  refine lv_ixor hx hb hd ?_
  rw [← Int32.ofInt_toInt (Int32.ofInt x ^^^ Int32.ofInt y)]
  exact k ad H locs ls hw hS hL ⟨trivial, ho.2.2⟩
theorem a_ishl (C : zCX X cc nL own nm rm) (hd : decode cc pc = .ok (.ishl, 1)) {x y : Int} (k : zW X S V nc ns al (zI (zshl x y) :: st) (pc + 1)) : zW X S V nc ns al (zI y :: zI x :: st) pc := by
  obtain ⟨p, l, e, R, s, m, args, below, meth, c, D, cy, A, Q, ad0, n0⟩ := X
  obtain ⟨hx, hb, -⟩ := C
  intro ad H locs ls hw hS hL ho
  refine lv_ishl hx hb hd ?_
  rw [← Int32.ofInt_toInt (Int32.ofInt x <<< (Int32.ofInt y &&& 31))]
  exact k ad H locs ls hw hS hL ⟨trivial, ho.2.2⟩
theorem a_ishr (C : zCX X cc nL own nm rm) (hd : decode cc pc = .ok (.ishr, 1)) {x y : Int} (k : zW X S V nc ns al (zI (zshr x y) :: st) (pc + 1)) : zW X S V nc ns al (zI y :: zI x :: st) pc := by
  obtain ⟨p, l, e, R, s, m, args, below, meth, c, D, cy, A, Q, ad0, n0⟩ := X
  obtain ⟨hx, hb, -⟩ := C
  intro ad H locs ls hw hS hL ho
  refine lv_ishr hx hb hd ?_
  rw [← Int32.ofInt_toInt (Int32.ofInt x >>> (Int32.ofInt y &&& 31))]
  exact k ad H locs ls hw hS hL ⟨trivial, ho.2.2⟩
theorem a_land (C : zCX X cc nL own nm rm) (hd : decode cc pc = .ok (.land, 1)) {x y : Int} (k : zW X S V nc ns al (zJ (zandL x y) :: st) (pc + 1)) : zW X S V nc ns al (zJ y :: zJ x :: st) pc := by
  obtain ⟨p, l, e, R, s, m, args, below, meth, c, D, cy, A, Q, ad0, n0⟩ := X
  obtain ⟨hx, hb, -⟩ := C
  intro ad H locs ls hw hS hL ho
  refine lv_land hx hb hd ?_
  rw [← Int64.ofInt_toInt (Int64.ofInt x &&& Int64.ofInt y)]
  exact k ad H locs ls hw hS hL ⟨trivial, ho.2.2⟩
theorem z_i2l {x : Int} (h : inR x) : (Int32.ofInt x).toInt64 = Int64.ofInt x := by
  rw [← Int64.toInt_inj, Int32.toInt_toInt64, z_toInt h, z_toIntL ⟨by omega, by omega⟩]
theorem z_l2i (x : Int) : (Int64.ofInt x).toInt32 = Int32.ofInt x := by
  first | exact Int64.toInt32_ofInt | simp
theorem a_i2l (C : zCX X cc nL own nm rm) (hd : decode cc pc = .ok (.i2l, 1)) {x : Int} (h : inR x) (k : zW X S V nc ns al (zJ x :: st) (pc + 1)) : zW X S V nc ns al (zI x :: st) pc := by
  obtain ⟨p, l, e, R, s, m, args, below, meth, c, D, cy, A, Q, ad0, n0⟩ := X
  obtain ⟨hx, hb, -⟩ := C
  intro ad H locs ls hw hS hL ho
  exact lv_i2l hx hb hd (z_i2l h) (k ad H locs ls hw hS hL ⟨trivial, ho.2⟩)
theorem a_l2i (C : zCX X cc nL own nm rm) (hd : decode cc pc = .ok (.l2i, 1)) {x : Int} (k : zW X S V nc ns al (zI x :: st) (pc + 1)) : zW X S V nc ns al (zJ x :: st) pc := by
  obtain ⟨p, l, e, R, s, m, args, below, meth, c, D, cy, A, Q, ad0, n0⟩ := X
  obtain ⟨hx, hb, -⟩ := C
  intro ad H locs ls hw hS hL ho
  exact lv_l2i hx hb hd (z_l2i x) (k ad H locs ls hw hS hL ⟨trivial, ho.2⟩)
/-! constants -/
theorem a_iconst (C : zCX X cc nL own nm rm) {n : Int} (hd : decode cc pc = .ok (.iconst n, 1)) (k : zW X S V nc ns al (zI n :: st) (pc + 1)) : zW X S V nc ns al st pc := by
  obtain ⟨p, l, e, R, s, m, args, below, meth, c, D, cy, A, Q, ad0, n0⟩ := X
  obtain ⟨hx, hb, -⟩ := C
  intro ad H locs ls hw hS hL ho
  exact lv_iconst hx hb hd rfl (k ad H locs ls hw hS hL ⟨trivial, ho⟩)
theorem a_bipush (C : zCX X cc nL own nm rm) {n : Int} (hd : decode cc pc = .ok (.bipush n, 2)) (h : (Int8.ofInt n).toInt32 = Int32.ofInt n) (k : zW X S V nc ns al (zI n :: st) (pc + 2)) : zW X S V nc ns al st pc := by
  obtain ⟨p, l, e, R, s, m, args, below, meth, c, D, cy, A, Q, ad0, n0⟩ := X
  obtain ⟨hx, hb, -⟩ := C
  intro ad H locs ls hw hS hL ho
  exact lv_bipush hx hb hd h (k ad H locs ls hw hS hL ⟨trivial, ho⟩)
theorem a_sipush (C : zCX X cc nL own nm rm) {n : Int} (hd : decode cc pc = .ok (.sipush n, 3)) (h : (Int16.ofInt n).toInt32 = Int32.ofInt n) (k : zW X S V nc ns al (zI n :: st) (pc + 3)) : zW X S V nc ns al st pc := by
  obtain ⟨p, l, e, R, s, m, args, below, meth, c, D, cy, A, Q, ad0, n0⟩ := X
  obtain ⟨hx, hb, -⟩ := C
  intro ad H locs ls hw hS hL ho
  exact lv_sipush hx hb hd h (k ad H locs ls hw hS hL ⟨trivial, ho⟩)
theorem a_lconst (C : zCX X cc nL own nm rm) {n : Fin 2} (v : Int) (hd : decode cc pc = .ok (.lconst n, 1)) (h : Int64.ofNat (n : Nat) = Int64.ofInt v) (k : zW X S V nc ns al (zJ v :: st) (pc + 1)) : zW X S V nc ns al st pc := by
  obtain ⟨p, l, e, R, s, m, args, below, meth, c, D, cy, A, Q, ad0, n0⟩ := X
  obtain ⟨hx, hb, -⟩ := C
  intro ad H locs ls hw hS hL ho
  exact lv_lconst hx hb hd h (k ad H locs ls hw hS hL ⟨trivial, ho⟩)
/-! locals -/
theorem a_iload_n (C : zCX X cc nL own nm rm) {i : Fin 4} {x : Int} (hd : decode cc pc = .ok (.iload_n i, 1)) (h : al[(i : Nat)]? = some (some (zI x))) (k : zW X S V nc ns al (zI x :: st) (pc + 1)) : zW X S V nc ns al st pc := by
  obtain ⟨p, l, e, R, s, m, args, below, meth, c, D, cy, A, Q, ad0, n0⟩ := X
  obtain ⟨hx, hb, -⟩ := C
  intro ad H locs ls hw hS hL ho
  exact lv_iload_n hx hb hd rfl (hL.2.2 _ _ h).2 (k ad H locs ls hw hS hL ⟨trivial, ho⟩)
theorem a_iload (C : zCX X cc nL own nm rm) {i : Nat} {x : Int} (hd : decode cc pc = .ok (.iload i, 2)) (h : al[i]? = some (some (zI x))) (k : zW X S V nc ns al (zI x :: st) (pc + 2)) : zW X S V nc ns al st pc := by
  obtain ⟨p, l, e, R, s, m, args, below, meth, c, D, cy, A, Q, ad0, n0⟩ := X
  obtain ⟨hx, hb, -⟩ := C
  intro ad H locs ls hw hS hL ho
  exact lv_iload hx hb hd (hL.2.2 _ _ h).2 (k ad H locs ls hw hS hL ⟨trivial, ho⟩)
theorem a_lload_n (C : zCX X cc nL own nm rm) {i : Fin 4} {x : Int} (hd : decode cc pc = .ok (.lload_n i, 1)) (h : al[(i : Nat)]? = some (some (zJ x))) (k : zW X S V nc ns al (zJ x :: st) (pc + 1)) : zW X S V nc ns al st pc := by
  obtain ⟨p, l, e, R, s, m, args, below, meth, c, D, cy, A, Q, ad0, n0⟩ := X
  obtain ⟨hx, hb, -⟩ := C
  intro ad H locs ls hw hS hL ho
  exact lv_lload_n hx hb hd rfl (hL.2.2 _ _ h).2 (k ad H locs ls hw hS hL ⟨trivial, ho⟩)
theorem a_lload (C : zCX X cc nL own nm rm) {i : Nat} {x : Int} (hd : decode cc pc = .ok (.lload i, 2)) (h : al[i]? = some (some (zJ x))) (k : zW X S V nc ns al (zJ x :: st) (pc + 2)) : zW X S V nc ns al st pc := by
  obtain ⟨p, l, e, R, s, m, args, below, meth, c, D, cy, A, Q, ad0, n0⟩ := X
  obtain ⟨hx, hb, -⟩ := C
  intro ad H locs ls hw hS hL ho
  exact lv_lload hx hb hd (hL.2.2 _ _ h).2 (k ad H locs ls hw hS hL ⟨trivial, ho⟩)
theorem a_aload_n (C : zCX X cc nL own nm rm) {i : Fin 4} {x : Nat} (hd : decode cc pc = .ok (.aload_n i, 1)) (h : al[(i : Nat)]? = some (some (zR x))) (k : zW X S V nc ns al (zR x :: st) (pc + 1)) : zW X S V nc ns al st pc := by
  obtain ⟨p, l, e, R, s, m, args, below, meth, c, D, cy, A, Q, ad0, n0⟩ := X
  obtain ⟨hx, hb, -⟩ := C
  intro ad H locs ls hw hS hL ho
  exact lv_aload_n hx hb hd rfl (hL.2.2 _ _ h).2 (k ad H locs ls hw hS hL ⟨(hL.2.2 _ _ h).1, ho⟩)
theorem a_aload (C : zCX X cc nL own nm rm) {i x : Nat} (hd : decode cc pc = .ok (.aload i, 2)) (h : al[i]? = some (some (zR x))) (k : zW X S V nc ns al (zR x :: st) (pc + 2)) : zW X S V nc ns al st pc := by
  obtain ⟨p, l, e, R, s, m, args, below, meth, c, D, cy, A, Q, ad0, n0⟩ := X
  obtain ⟨hx, hb, -⟩ := C
  intro ad H locs ls hw hS hL ho
  exact lv_aload hx hb hd (hL.2.2 _ _ h).2 (k ad H locs ls hw hS hL ⟨(hL.2.2 _ _ h).1, ho⟩)
theorem a_istore_n (C : zCX X cc nL own nm rm) {i : Fin 4} {x : Int} (hd : decode cc pc = .ok (.istore_n i, 1)) (hi : (i : Nat) < nL) (k : zW X S V nc ns (st1 al i (zI x)) st (pc + 1)) : zW X S V nc ns al (zI x :: st) pc := by
  obtain ⟨p, l, e, R, s, m, args, below, meth, c, D, cy, A, Q, ad0, n0⟩ := X
  obtain ⟨hx, hb, hml, -⟩ := C
  intro ad H locs ls hw hS hL ho
  exact lv_istore_n hx hb hd rfl (lst_has hL) (by rw [hml]; exact hi) rfl (fun ls' h => k ad H locs ls' hw hS (st1_to (v := zI x) (fun j w hj => (hL.2.2 j w hj).1) trivial h) ho.2)
theorem a_istore (C : zCX X cc nL own nm rm) {i : Nat} {x : Int} (hd : decode cc pc = .ok (.istore i, 2)) (hi : i < nL) (k : zW X S V nc ns (st1 al i (zI x)) st (pc + 2)) : zW X S V nc ns al (zI x :: st) pc := by
  obtain ⟨p, l, e, R, s, m, args, below, meth, c, D, cy, A, Q, ad0, n0⟩ := X
  obtain ⟨hx, hb, hml, -⟩ := C
  intro ad H locs ls hw hS hL ho
  exact lv_istore hx hb hd (lst_has hL) (by rw [hml]; exact hi) rfl (fun ls' h => k ad H locs ls' hw hS (st1_to (v := zI x) (fun j w hj => (hL.2.2 j w hj).1) trivial h) ho.2)
theorem a_lstore_n (C : zCX X cc nL own nm rm) {i : Fin 4} {x : Int} (hd : decode cc pc = .ok (.lstore_n i, 1)) (hi : (i : Nat) + 1 < nL) (k : zW X S V nc ns (st2 al i (zJ x)) st (pc + 1)) : zW X S V nc ns al (zJ x :: st) pc := by
  obtain ⟨p, l, e, R, s, m, args, below, meth, c, D, cy, A, Q, ad0, n0⟩ := X
  obtain ⟨hx, hb, hml, -⟩ := C
  intro ad H locs ls hw hS hL ho
  exact lv_lstore_n hx hb hd rfl (lst_has hL) (by rw [hml]; exact hi) rfl (fun ls' h => k ad H locs ls' hw hS (st2_to (v := zJ x) (fun j w hj => (hL.2.2 j w hj).1) trivial h) ho.2)
theorem a_lstore (C : zCX X cc nL own nm rm) {i : Nat} {x : Int} (hd : decode cc pc = .ok (.lstore i, 2)) (hi : i + 1 < nL) (k : zW X S V nc ns (st2 al i (zJ x)) st (pc + 2)) : zW X S V nc ns al (zJ x :: st) pc := by
  obtain ⟨p, l, e, R, s, m, args, below, meth, c, D, cy, A, Q, ad0, n0⟩ := X
  obtain ⟨hx, hb, hml, -⟩ := C
  intro ad H locs ls hw hS hL ho
  exact lv_lstore hx hb hd (lst_has hL) (by rw [hml]; exact hi) rfl (fun ls' h => k ad H locs ls' hw hS (st2_to (v := zJ x) (fun j w hj => (hL.2.2 j w hj).1) trivial h) ho.2)
theorem a_astore_n (C : zCX X cc nL own nm rm) {i : Fin 4} {x : Nat} (hd : decode cc pc = .ok (.astore_n i, 1)) (hi : (i : Nat) < nL) (k : zW X S V nc ns (st1 al i (zR x)) st (pc + 1)) : zW X S V nc ns al (zR x :: st) pc := by
  obtain ⟨p, l, e, R, s, m, args, below, meth, c, D, cy, A, Q, ad0, n0⟩ := X
  obtain ⟨hx, hb, hml, -⟩ := C
  intro ad H locs ls hw hS hL ho
  exact lv_astore_n hx hb hd rfl (lst_has hL) (by rw [hml]; exact hi) rfl (fun ls' h => k ad H locs ls' hw hS (st1_to (v := zR x) (fun j w hj => (hL.2.2 j w hj).1) ho.1 h) ho.2)
theorem a_iinc (C : zCX X cc nL own nm rm) {i : Nat} {n x : Int} (hd : decode cc pc = .ok (.iinc i n, 3)) (h : al[i]? = some (some (zI x))) (hi : i < nL) (k : zW X S V nc ns (st1 al i (zI (x + n))) st (pc + 3)) : zW X S V nc ns al st pc := by
  obtain ⟨p, l, e, R, s, m, args, below, meth, c, D, cy, A, Q, ad0, n0⟩ := X
  obtain ⟨hx, hb, hml, -⟩ := C
  intro ad H locs ls hw hS hL ho
  obtain ⟨q, hq⟩ := List.getElem?_of_mem (lst_mem (ad := ad) h)
  exact lv_iinc hx hb hd (lst_has hL) hq (Int32.ofInt_add x n).symm (by rw [hml]; exact hi) rfl (fun ls' h => k ad H locs ls' hw hS (st1_to (v := zI (x + n)) (fun j w hj => (hL.2.2 j w hj).1) trivial h) ho)
/-! the stack -/
theorem a_dup (C : zCX X cc nL own nm rm) (hd : decode cc pc = .ok (.dup, 1)) {v : zA} (h : isJv (some v) = false) (k : zW X S V nc ns al (v :: v :: st) (pc + 1)) : zW X S V nc ns al (v :: st) pc := by
  obtain ⟨p, l, e, R, s, m, args, below, meth, c, D, cy, A, Q, ad0, n0⟩ := X
  obtain ⟨hx, hb, -⟩ := C
  intro ad H locs ls hw hS hL ho
  exact lv_dup hx hb hd (by rw [cvv_cat, h]; rfl) (k ad H locs ls hw hS hL ⟨ho.1, ho⟩)
theorem a_pop (C : zCX X cc nL own nm rm) (hd : decode cc pc = .ok (.pop, 1)) {v : zA} (h : isJv (some v) = false) (k : zW X S V nc ns al st (pc + 1)) : zW X S V nc ns al (v :: st) pc := by
  obtain ⟨p, l, e, R, s, m, args, below, meth, c, D, cy, A, Q, ad0, n0⟩ := X
  obtain ⟨hx, hb, -⟩ := C
  intro ad H locs ls hw hS hL ho
  exact lv_pop hx hb hd (by rw [cvv_cat, h]; rfl) (k ad H locs ls hw hS hL ho.2)
theorem a_dup2 (C : zCX X cc nL own nm rm) (hd : decode cc pc = .ok (.dup2, 1)) {v w : zA} (h : isJv (some v) = false) (h2 : isJv (some w) = false) (k : zW X S V nc ns al (v :: w :: v :: w :: st) (pc + 1)) : zW X S V nc ns al (v :: w :: st) pc := by
  obtain ⟨p, l, e, R, s, m, args, below, meth, c, D, cy, A, Q, ad0, n0⟩ := X
  obtain ⟨hx, hb, -⟩ := C
  intro ad H locs ls hw hS hL ho
  exact lv_dup2_11 hx hb hd (by rw [cvv_cat, h]; rfl) (by rw [cvv_cat, h2]; rfl) (k ad H locs ls hw hS hL ⟨ho.1, ho.2.1, ho⟩)
/-! branches -/
theorem a_goto (C : zCX X cc nL own nm rm) {off : Int} (tgt : Nat) (hd : decode cc pc = .ok (.goto off, 3)) (ht : (pc : Int) + off = (tgt : Int)) (k : zW X S V nc ns al st tgt) : zW X S V nc ns al st pc := by
  obtain ⟨p, l, e, R, s, m, args, below, meth, c, D, cy, A, Q, ad0, n0⟩ := X
  obtain ⟨hx, hb, -⟩ := C
  intro ad H locs ls hw hS hL ho
  exact lv_goto hx hb hd ht (k ad H locs ls hw hS hL ho)
theorem z_R0 : inR 0 := ⟨by decide, by decide⟩
theorem a_if_eq (C : zCX X cc nL own nm rm) {x : Int} {off : Int} (tgt : Nat) (hd : decode cc pc = .ok (.ifCond .eq off, 3)) (ht : (pc : Int) + off = (tgt : Int)) (h : inR x) (kt : x = 0 → zW X S V nc ns al st tgt) (kf : ¬ x = 0 → zW X S V nc ns al st (pc + 3)) : zW X S V nc ns al (zI x :: st) pc := by
  obtain ⟨p, l, e, R, s, m, args, below, meth, c, D, cy, A, Q, ad0, n0⟩ := X
  obtain ⟨hx, hb, -⟩ := C
  intro ad H locs ls hw hS hL ho
  exact lv_if_eq hx hb hd ht (fun q => kt ((z_eq h z_R0).mp q) ad H locs ls hw hS hL ho.2) (fun q => kf ((mt (z_eq h z_R0).mpr q)) ad H locs ls hw hS hL ho.2)
theorem a_icmp_eq (C : zCX X cc nL own nm rm) {x y : Int} {off : Int} (tgt : Nat) (hd : decode cc pc = .ok (.if_icmp .eq off, 3)) (ht : (pc : Int) + off = (tgt : Int)) (h : inR x ∧ inR y) (kt : x = y → zW X S V nc ns al st tgt) (kf : ¬ x = y → zW X S V nc ns al st (pc + 3)) : zW X S V nc ns al (zI y :: zI x :: st) pc := by
  obtain ⟨p, l, e, R, s, m, args, below, meth, c, D, cy, A, Q, ad0, n0⟩ := X
  obtain ⟨hx, hb, -⟩ := C
  intro ad H locs ls hw hS hL ho
  exact lv_icmp_eq hx hb hd ht (fun q => kt ((z_eq h.1 h.2).mp q) ad H locs ls hw hS hL ho.2.2) (fun q => kf ((mt (z_eq h.1 h.2).mpr q)) ad H locs ls hw hS hL ho.2.2)
theorem a_if_ne (C : zCX X cc nL own nm rm) {x : Int} {off : Int} (tgt : Nat) (hd : decode cc pc = .ok (.ifCond .ne off, 3)) (ht : (pc : Int) + off = (tgt : Int)) (h : inR x) (kt : ¬ x = 0 → zW X S V nc ns al st tgt) (kf : x = 0 → zW X S V nc ns al st (pc + 3)) : zW X S V nc ns al (zI x :: st) pc := by
  obtain ⟨p, l, e, R, s, m, args, below, meth, c, D, cy, A, Q, ad0, n0⟩ := X
  obtain ⟨hx, hb, -⟩ := C
  intro ad H locs ls hw hS hL ho
  exact lv_if_ne hx hb hd ht (fun q => kt ((mt (z_eq h z_R0).mpr q)) ad H locs ls hw hS hL ho.2) (fun q => kf ((z_eq h z_R0).mp q) ad H locs ls hw hS hL ho.2)
theorem a_icmp_ne (C : zCX X cc nL own nm rm) {x y : Int} {off : Int} (tgt : Nat) (hd : decode cc pc = .ok (.if_icmp .ne off, 3)) (ht : (pc : Int) + off = (tgt : Int)) (h : inR x ∧ inR y) (kt : ¬ x = y → zW X S V nc ns al st tgt) (kf : x = y → zW X S V nc ns al st (pc + 3)) : zW X S V nc ns al (zI y :: zI x :: st) pc := by
  obtain ⟨p, l, e, R, s, m, args, below, meth, c, D, cy, A, Q, ad0, n0⟩ := X
  obtain ⟨hx, hb, -⟩ := C
  intro ad H locs ls hw hS hL ho
  exact lv_icmp_ne hx hb hd ht (fun q => kt ((mt (z_eq h.1 h.2).mpr q)) ad H locs ls hw hS hL ho.2.2) (fun q => kf ((z_eq h.1 h.2).mp q) ad H locs ls hw hS hL ho.2.2)
theorem a_if_lt (C : zCX X cc nL own nm rm) {x : Int} {off : Int} (tgt : Nat) (hd : decode cc pc = .ok (.ifCond .lt off, 3)) (ht : (pc : Int) + off = (tgt : Int)) (h : inR x) (kt : x < 0 → zW X S V nc ns al st tgt) (kf : 0 ≤ x → zW X S V nc ns al st (pc + 3)) : zW X S V nc ns al (zI x :: st) pc := by
  obtain ⟨p, l, e, R, s, m, args, below, meth, c, D, cy, A, Q, ad0, n0⟩ := X
  obtain ⟨hx, hb, -⟩ := C
  intro ad H locs ls hw hS hL ho
  exact lv_if_lt hx hb hd ht (fun q => kt ((z_lt h z_R0).mp q) ad H locs ls hw hS hL ho.2) (fun q => kf ((Int.not_lt.mp (mt (z_lt h z_R0).mpr q))) ad H locs ls hw hS hL ho.2)
theorem a_icmp_lt (C : zCX X cc nL own nm rm) {x y : Int} {off : Int} (tgt : Nat) (hd : decode cc pc = .ok (.if_icmp .lt off, 3)) (ht : (pc : Int) + off = (tgt : Int)) (h : inR x ∧ inR y) (kt : x < y → zW X S V nc ns al st tgt) (kf : y ≤ x → zW X S V nc ns al st (pc + 3)) : zW X S V nc ns al (zI y :: zI x :: st) pc := by
  obtain ⟨p, l, e, R, s, m, args, below, meth, c, D, cy, A, Q, ad0, n0⟩ := X
  obtain ⟨hx, hb, -⟩ := C
  intro ad H locs ls hw hS hL ho
  exact lv_icmp_lt hx hb hd ht (fun q => kt ((z_lt h.1 h.2).mp q) ad H locs ls hw hS hL ho.2.2) (fun q => kf ((Int.not_lt.mp (mt (z_lt h.1 h.2).mpr q))) ad H locs ls hw hS hL ho.2.2)
theorem a_if_ge (C : zCX X cc nL own nm rm) {x : Int} {off : Int} (tgt : Nat) (hd : decode cc pc = .ok (.ifCond .ge off, 3)) (ht : (pc : Int) + off = (tgt : Int)) (h : inR x) (kt : 0 ≤ x → zW X S V nc ns al st tgt) (kf : x < 0 → zW X S V nc ns al st (pc + 3)) : zW X S V nc ns al (zI x :: st) pc := by
  obtain ⟨p, l, e, R, s, m, args, below, meth, c, D, cy, A, Q, ad0, n0⟩ := X
  obtain ⟨hx, hb, -⟩ := C
  intro ad H locs ls hw hS hL ho
  exact lv_if_ge hx hb hd ht (fun q => kt ((z_le z_R0 h).mp q) ad H locs ls hw hS hL ho.2) (fun q => kf ((Int.not_le.mp (mt (z_le z_R0 h).mpr q))) ad H locs ls hw hS hL ho.2)
theorem a_icmp_ge (C : zCX X cc nL own nm rm) {x y : Int} {off : Int} (tgt : Nat) (hd : decode cc pc = .ok (.if_icmp .ge off, 3)) (ht : (pc : Int) + off = (tgt : Int)) (h : inR x ∧ inR y) (kt : y ≤ x → zW X S V nc ns al st tgt) (kf : x < y → zW X S V nc ns al st (pc + 3)) : zW X S V nc ns al (zI y :: zI x :: st) pc := by
  obtain ⟨p, l, e, R, s, m, args, below, meth, c, D, cy, A, Q, ad0, n0⟩ := X
  obtain ⟨hx, hb, -⟩ := C
  intro ad H locs ls hw hS hL ho
  exact lv_icmp_ge hx hb hd ht (fun q => kt ((z_le h.2 h.1).mp q) ad H locs ls hw hS hL ho.2.2) (fun q => kf ((Int.not_le.mp (mt (z_le h.2 h.1).mpr q))) ad H locs ls hw hS hL ho.2.2)
theorem a_if_gt (C : zCX X cc nL own nm rm) {x : Int} {off : Int} (tgt : Nat) (hd : decode cc pc = .ok (.ifCond .gt off, 3)) (ht : (pc : Int) + off = (tgt : Int)) (h : inR x) (kt : 0 < x → zW X S V nc ns al st tgt) (kf : x ≤ 0 → zW X S V nc ns al st (pc + 3)) : zW X S V nc ns al (zI x :: st) pc := by
  obtain ⟨p, l, e, R, s, m, args, below, meth, c, D, cy, A, Q, ad0, n0⟩ := X
  obtain ⟨hx, hb, -⟩ := C
  intro ad H locs ls hw hS hL ho
  exact lv_if_gt hx hb hd ht (fun q => kt ((z_lt z_R0 h).mp q) ad H locs ls hw hS hL ho.2) (fun q => kf ((Int.not_lt.mp (mt (z_lt z_R0 h).mpr q))) ad H locs ls hw hS hL ho.2)
theorem a_icmp_gt (C : zCX X cc nL own nm rm) {x y : Int} {off : Int} (tgt : Nat) (hd : decode cc pc = .ok (.if_icmp .gt off, 3)) (ht : (pc : Int) + off = (tgt : Int)) (h : inR x ∧ inR y) (kt : y < x → zW X S V nc ns al st tgt) (kf : x ≤ y → zW X S V nc ns al st (pc + 3)) : zW X S V nc ns al (zI y :: zI x :: st) pc := by
  obtain ⟨p, l, e, R, s, m, args, below, meth, c, D, cy, A, Q, ad0, n0⟩ := X
  obtain ⟨hx, hb, -⟩ := C
  intro ad H locs ls hw hS hL ho
  exact lv_icmp_gt hx hb hd ht (fun q => kt ((z_lt h.2 h.1).mp q) ad H locs ls hw hS hL ho.2.2) (fun q => kf ((Int.not_lt.mp (mt (z_lt h.2 h.1).mpr q))) ad H locs ls hw hS hL ho.2.2)
theorem a_if_le (C : zCX X cc nL own nm rm) {x : Int} {off : Int} (tgt : Nat) (hd : decode cc pc = .ok (.ifCond .le off, 3)) (ht : (pc : Int) + off = (tgt : Int)) (h : inR x) (kt : x ≤ 0 → zW X S V nc ns al st tgt) (kf : 0 < x → zW X S V nc ns al st (pc + 3)) : zW X S V nc ns al (zI x :: st) pc := by
  obtain ⟨p, l, e, R, s, m, args, below, meth, c, D, cy, A, Q, ad0, n0⟩ := X
  obtain ⟨hx, hb, -⟩ := C
  intro ad H locs ls hw hS hL ho
  exact lv_if_le hx hb hd ht (fun q => kt ((z_le h z_R0).mp q) ad H locs ls hw hS hL ho.2) (fun q => kf ((Int.not_le.mp (mt (z_le h z_R0).mpr q))) ad H locs ls hw hS hL ho.2)
theorem a_icmp_le (C : zCX X cc nL own nm rm) {x y : Int} {off : Int} (tgt : Nat) (hd : decode cc pc = .ok (.if_icmp .le off, 3)) (ht : (pc : Int) + off = (tgt : Int)) (h : inR x ∧ inR y) (kt : x ≤ y → zW X S V nc ns al st tgt) (kf : y < x → zW X S V nc ns al st (pc + 3)) : zW X S V nc ns al (zI y :: zI x :: st) pc := by
  obtain ⟨p, l, e, R, s, m, args, below, meth, c, D, cy, A, Q, ad0, n0⟩ := X
  obtain ⟨hx, hb, -⟩ := C
  intro ad H locs ls hw hS hL ho
  exact lv_icmp_le hx hb hd ht (fun q => kt ((z_le h.1 h.2).mp q) ad H locs ls hw hS hL ho.2.2) (fun q => kf ((Int.not_le.mp (mt (z_le h.1 h.2).mpr q))) ad H locs ls hw hS hL ho.2.2)
/-- which of two longs is the greater -/
theorem z_lcmp_lt {x y : Int} (hx : inL x) (hy : inL y) : lg_cmp (Int64.ofInt x) (Int64.ofInt y) < 0 ↔ x < y := by
  unfold lg_cmp
  simp only [gt_iff_lt, z_ltL hy hx, z_eqL hx hy]
  by_cases h1 : y < x
  · rw [if_pos h1]
    constructor
    · intro h; exact absurd h (by decide)
    · intro h; omega
  · rw [if_neg h1]
    by_cases h2 : x = y
    · rw [if_pos h2]
      constructor
      · intro h; exact absurd h (by decide)
      · intro h; omega
    · rw [if_neg h2]
      constructor
      · intro _; omega
      · intro _; decide
theorem z_lcmp_gt {x y : Int} (hx : inL x) (hy : inL y) : 0 < lg_cmp (Int64.ofInt x) (Int64.ofInt y) ↔ y < x := by
  unfold lg_cmp
  simp only [gt_iff_lt, z_ltL hy hx, z_eqL hx hy]
  by_cases h1 : y < x
  · rw [if_pos h1]
    constructor
    · intro _; exact h1
    · intro _; decide
  · rw [if_neg h1]
    by_cases h2 : x = y
    · rw [if_pos h2]
      constructor
      · intro h; exact absurd h (by decide)
      · intro h; omega
    · rw [if_neg h2]
      constructor
      · intro h; exact absurd h (by decide)
      · intro h; omega
theorem z_lcmp_eq {x y : Int} (hx : inL x) (hy : inL y) : lg_cmp (Int64.ofInt x) (Int64.ofInt y) = 0 ↔ x = y := by
  unfold lg_cmp
  simp only [gt_iff_lt, z_ltL hy hx, z_eqL hx hy]
  by_cases h1 : y < x
  · rw [if_pos h1]
    constructor
    · intro h; exact absurd h (by decide)
    · intro h; omega
  · rw [if_neg h1]
    by_cases h2 : x = y
    · rw [if_pos h2]
      exact ⟨fun _ => h2, fun _ => rfl⟩
    · rw [if_neg h2]
      constructor
      · intro h; exact absurd h (by decide)
      · intro h; exact absurd h h2
theorem a_lcmp_eq (C : zCX X cc nL own nm rm) {x y : Int} {off : Int} (tgt : Nat) (hd0 : decode cc pc = .ok (.lcmp, 1)) (hd : decode cc (pc + 1) = .ok (.ifCond .eq off, 3)) (ht : ((pc + 1 : Nat) : Int) + off = (tgt : Int)) (h : inL x ∧ inL y) (kt : x = y → zW X S V nc ns al st tgt) (kf : ¬ x = y → zW X S V nc ns al st (pc + 1 + 3)) : zW X S V nc ns al (zJ y :: zJ x :: st) pc := by
  obtain ⟨p, l, e, R, s, m, args, below, meth, c, D, cy, A, Q, ad0, n0⟩ := X
  obtain ⟨hx, hb, -⟩ := C
  intro ad H locs ls hw hS hL ho
  refine W.lcmp hx hb hd0 ?_
  exact lv_if_eq hx hb hd ht (fun q => kt ((z_lcmp_eq h.1 h.2).mp q) ad H locs ls hw hS hL ho.2.2) (fun q => kf ((mt (z_lcmp_eq h.1 h.2).mpr q)) ad H locs ls hw hS hL ho.2.2)
theorem a_lcmp_ne (C : zCX X cc nL own nm rm) {x y : Int} {off : Int} (tgt : Nat) (hd0 : decode cc pc = .ok (.lcmp, 1)) (hd : decode cc (pc + 1) = .ok (.ifCond .ne off, 3)) (ht : ((pc + 1 : Nat) : Int) + off = (tgt : Int)) (h : inL x ∧ inL y) (kt : ¬ x = y → zW X S V nc ns al st tgt) (kf : x = y → zW X S V nc ns al st (pc + 1 + 3)) : zW X S V nc ns al (zJ y :: zJ x :: st) pc := by
  obtain ⟨p, l, e, R, s, m, args, below, meth, c, D, cy, A, Q, ad0, n0⟩ := X
  obtain ⟨hx, hb, -⟩ := C
  intro ad H locs ls hw hS hL ho
  refine W.lcmp hx hb hd0 ?_
  exact lv_if_ne hx hb hd ht (fun q => kt ((mt (z_lcmp_eq h.1 h.2).mpr q)) ad H locs ls hw hS hL ho.2.2) (fun q => kf ((z_lcmp_eq h.1 h.2).mp q) ad H locs ls hw hS hL ho.2.2)
theorem a_lcmp_lt (C : zCX X cc nL own nm rm) {x y : Int} {off : Int} (tgt : Nat) (hd0 : decode cc pc = .ok (.lcmp, 1)) (hd : decode cc (pc + 1) = .ok (.ifCond .lt off, 3)) (ht : ((pc + 1 : Nat) : Int) + off = (tgt : Int)) (h : inL x ∧ inL y) (kt : x < y → zW X S V nc ns al st tgt) (kf : y ≤ x → zW X S V nc ns al st (pc + 1 + 3)) : zW X S V nc ns al (zJ y :: zJ x :: st) pc := by
  obtain ⟨p, l, e, R, s, m, args, below, meth, c, D, cy, A, Q, ad0, n0⟩ := X
  obtain ⟨hx, hb, -⟩ := C
  intro ad H locs ls hw hS hL ho
  refine W.lcmp hx hb hd0 ?_
  exact lv_if_lt hx hb hd ht (fun q => kt ((z_lcmp_lt h.1 h.2).mp q) ad H locs ls hw hS hL ho.2.2) (fun q => kf (Int.not_lt.mp (mt (z_lcmp_lt h.1 h.2).mpr q)) ad H locs ls hw hS hL ho.2.2)
theorem a_lcmp_ge (C : zCX X cc nL own nm rm) {x y : Int} {off : Int} (tgt : Nat) (hd0 : decode cc pc = .ok (.lcmp, 1)) (hd : decode cc (pc + 1) = .ok (.ifCond .ge off, 3)) (ht : ((pc + 1 : Nat) : Int) + off = (tgt : Int)) (h : inL x ∧ inL y) (kt : y ≤ x → zW X S V nc ns al st tgt) (kf : x < y → zW X S V nc ns al st (pc + 1 + 3)) : zW X S V nc ns al (zJ y :: zJ x :: st) pc := by
  obtain ⟨p, l, e, R, s, m, args, below, meth, c, D, cy, A, Q, ad0, n0⟩ := X
  obtain ⟨hx, hb, -⟩ := C
  intro ad H locs ls hw hS hL ho
  refine W.lcmp hx hb hd0 ?_
  exact lv_if_ge hx hb hd ht (fun q => kt (Int.not_lt.mp (mt (z_lcmp_lt h.1 h.2).mpr (Int32.not_lt.mpr q))) ad H locs ls hw hS hL ho.2.2) (fun q => kf ((z_lcmp_lt h.1 h.2).mp (Int32.not_le.mp q)) ad H locs ls hw hS hL ho.2.2)
theorem a_lcmp_gt (C : zCX X cc nL own nm rm) {x y : Int} {off : Int} (tgt : Nat) (hd0 : decode cc pc = .ok (.lcmp, 1)) (hd : decode cc (pc + 1) = .ok (.ifCond .gt off, 3)) (ht : ((pc + 1 : Nat) : Int) + off = (tgt : Int)) (h : inL x ∧ inL y) (kt : y < x → zW X S V nc ns al st tgt) (kf : x ≤ y → zW X S V nc ns al st (pc + 1 + 3)) : zW X S V nc ns al (zJ y :: zJ x :: st) pc := by
  obtain ⟨p, l, e, R, s, m, args, below, meth, c, D, cy, A, Q, ad0, n0⟩ := X
  obtain ⟨hx, hb, -⟩ := C
  intro ad H locs ls hw hS hL ho
  refine W.lcmp hx hb hd0 ?_
  exact lv_if_gt hx hb hd ht (fun q => kt ((z_lcmp_gt h.1 h.2).mp q) ad H locs ls hw hS hL ho.2.2) (fun q => kf (Int.not_lt.mp (mt (z_lcmp_gt h.1 h.2).mpr q)) ad H locs ls hw hS hL ho.2.2)
theorem a_lcmp_le (C : zCX X cc nL own nm rm) {x y : Int} {off : Int} (tgt : Nat) (hd0 : decode cc pc = .ok (.lcmp, 1)) (hd : decode cc (pc + 1) = .ok (.ifCond .le off, 3)) (ht : ((pc + 1 : Nat) : Int) + off = (tgt : Int)) (h : inL x ∧ inL y) (kt : x ≤ y → zW X S V nc ns al st tgt) (kf : y < x → zW X S V nc ns al st (pc + 1 + 3)) : zW X S V nc ns al (zJ y :: zJ x :: st) pc := by
  obtain ⟨p, l, e, R, s, m, args, below, meth, c, D, cy, A, Q, ad0, n0⟩ := X
  obtain ⟨hx, hb, -⟩ := C
  intro ad H locs ls hw hS hL ho
  refine W.lcmp hx hb hd0 ?_
  exact lv_if_le hx hb hd ht (fun q => kt (Int.not_lt.mp (mt (z_lcmp_gt h.1 h.2).mpr (Int32.not_lt.mpr q))) ad H locs ls hw hS hL ho.2.2) (fun q => kf ((z_lcmp_gt h.1 h.2).mp (Int32.not_le.mp q)) ad H locs ls hw hS hL ho.2.2)
theorem a_tswIn (C : zCX X cc nL own nm rm) {x : Int} {dflt lo hi off : Int} {offs : Array Int} {len : Nat} (i : Nat) (tgt : Nat) (hd : decode cc pc = .ok (.tableswitch dflt lo hi offs, len)) (hx0 : x = lo + i) (hr : inR x) (h2 : lo + i ≤ hi) (ho0 : offs[i]? = some off) (ht : (pc : Int) + off = (tgt : Int)) (k : zW X S V nc ns al st tgt) : zW X S V nc ns al (zI x :: st) pc := by
  obtain ⟨p, l, e, R, s, m, args, below, meth, c, D, cy, A, Q, ad0, n0⟩ := X
  obtain ⟨hx, hb, -⟩ := C
  intro ad H locs ls hw hS hL ho
  exact lv_tableIn hx hb hd (by rw [z_toInt hr]; omega) (by rw [z_toInt hr]; omega) (by rw [z_toInt hr, hx0, show (lo + (i : Int) - lo).toNat = i by omega]; exact ho0) ht (k ad H locs ls hw hS hL ho.2)
theorem a_tswOut (C : zCX X cc nL own nm rm) {x : Int} {dflt lo hi : Int} {offs : Array Int} {len : Nat} (tgt : Nat) (hd : decode cc pc = .ok (.tableswitch dflt lo hi offs, len)) (hr : inR x) (h : x < lo ∨ hi < x) (ht : (pc : Int) + dflt = (tgt : Int)) (k : zW X S V nc ns al st tgt) : zW X S V nc ns al (zI x :: st) pc := by
  obtain ⟨p, l, e, R, s, m, args, below, meth, c, D, cy, A, Q, ad0, n0⟩ := X
  obtain ⟨hx, hb, -⟩ := C
  intro ad H locs ls hw hS hL ho
  exact lv_tableOut hx hb hd (by rw [z_toInt hr]; exact h) ht (k ad H locs ls hw hS hL ho.2)
/-- fewer locals are told -/
theorem a_wk {al' : List (Option zA)} (h : ∀ (i : Nat) (v : zA), al'[i]? = some (some v) → al[i]? = some (some v)) (k : zW X S V nc ns al' st pc) : zW X S V nc ns al st pc := by
  obtain ⟨p, l, e, R, s, m, args, below, meth, c, D, cy, A, Q, ad0, n0⟩ := X
  intro ad H locs ls hw hS hL ho
  exact k ad H locs ls hw hS ⟨hL.1, hL.2.1, fun i v hi => hL.2.2 i v (h i v hi)⟩ ho
def lsub : List (Option zA) → List (Option zA) → Prop
  | [], _ => True
  | none :: a, b => lsub a b.tail
  | some v :: a, b => b.head? = some (some v) ∧ lsub a b.tail
theorem lsub_to : ∀ {a b : List (Option zA)}, lsub a b → ∀ (i : Nat) (v : zA), a[i]? = some (some v) → b[i]? = some (some v)
  | [], b, _, i, v, h => by simp at h
  | none :: a, b, hl, i, v, h => by
    cases i with
    | zero => simp at h
    | succ i =>
      have := lsub_to (a := a) (b := b.tail) hl i v (by simpa using h)
      cases b with
      | nil => simp at this
      | cons x b => simpa using this
  | some w :: a, b, hl, i, v, h => by
    cases i with
    | zero =>
      simp at h
      subst h
      cases b with
      | nil => simp [lsub] at hl
      | cons x b => simpa using hl.1
    | succ i =>
      have := lsub_to (a := a) (b := b.tail) hl.2 i v (by simpa using h)
      cases b with
      | nil => simp at this
      | cons x b => simpa using this
theorem a_ls {al' : List (Option zA)} (h : lsub al' al) (k : zW X S V nc ns al' st pc) : zW X S V nc ns al st pc := a_wk (lsub_to h) k
end ZR
