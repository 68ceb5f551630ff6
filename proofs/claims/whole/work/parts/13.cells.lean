/-! ===== where the cells are ===== -/
def isFt (tag : Nat) : Prop := tag = 0 ∨ tag = 2 ∨ tag = 3 ∨ tag = 5 ∨ tag = 9
def PSl (S : List zC) : Prop := (∃ (w : Int) (rf : Nat → Option Nat), S[3]? = some (10, w, rf) ∧ rf 0 = some 4 ∧ rf 1 = some 5) ∧ (∃ rf : Nat → Option Nat, S[4]? = some (16, 8, rf) ∧ ∀ k, k < 8 → ∃ (c tag : Nat) (w : Int) (rf2 : Nat → Option Nat), rf k = some c ∧ S[c]? = some (tag, w, rf2) ∧ isFt tag) ∧ (∃ rf : Nat → Option Nat, S[5]? = some (13, 16, rf))
theorem PSl_3 {S : List zC} (h : PSl S) : (∃ (w : Int) (rf : Nat → Option Nat), S[3]? = some (10, w, rf) ∧ rf 0 = some 4 ∧ rf 1 = some 5) := h.1
theorem PSl_4 {S : List zC} (h : PSl S) : (∃ rf : Nat → Option Nat, S[4]? = some (16, 8, rf) ∧ ∀ k, k < 8 → ∃ (c tag : Nat) (w : Int) (rf2 : Nat → Option Nat), rf k = some c ∧ S[c]? = some (tag, w, rf2) ∧ isFt tag) := h.2.1
theorem PSl_5 {S : List zC} (h : PSl S) : (∃ rf : Nat → Option Nat, S[5]? = some (13, 16, rf)) := h.2.2
def PSi (S : List zC) (o : Nat) : Prop := (∃ (w : Int) (rf : Nat → Option Nat), S[o]? = some (4, w, rf) ∧ rf 0 = some 3 ∧ rf 1 = some (o + 1) ∧ rf 2 = some (o + 2) ∧ rf 3 = some (o + 3) ∧ rf 4 = some (o + 4) ∧ rf 5 = some (o + 5) ∧ rf 6 = some (o + 6) ∧ rf 7 = some (o + 7) ∧ rf 8 = some (o + 8) ∧ rf 10 = some (o + 9) ∧ rf 11 = some (o + 10)) ∧ (∃ rf : Nat → Option Nat, S[(o + 1)]? = some (13, 6, rf)) ∧ (∃ rf : Nat → Option Nat, S[(o + 2)]? = some (13, 6, rf)) ∧ (∃ rf : Nat → Option Nat, S[(o + 3)]? = some (14, 6, rf)) ∧ (∃ rf : Nat → Option Nat, S[(o + 4)]? = some (13, 16, rf)) ∧ (∃ rf : Nat → Option Nat, S[(o + 5)]? = some (13, 16, rf)) ∧ (∃ rf : Nat → Option Nat, S[(o + 6)]? = some (14, 8, rf)) ∧ (∃ rf : Nat → Option Nat, S[(o + 7)]? = some (13, 12, rf)) ∧ (∃ rf : Nat → Option Nat, S[(o + 8)]? = some (13, 12, rf)) ∧ (∃ rf : Nat → Option Nat, S[(o + 9)]? = some (13, 8, rf)) ∧ (∃ rf : Nat → Option Nat, S[(o + 10)]? = some (13, 8, rf)) ∧ PSl S
theorem PSi_o {S : List zC} {o : Nat} (h : PSi S o) : (∃ (w : Int) (rf : Nat → Option Nat), S[o]? = some (4, w, rf) ∧ rf 0 = some 3 ∧ rf 1 = some (o + 1) ∧ rf 2 = some (o + 2) ∧ rf 3 = some (o + 3) ∧ rf 4 = some (o + 4) ∧ rf 5 = some (o + 5) ∧ rf 6 = some (o + 6) ∧ rf 7 = some (o + 7) ∧ rf 8 = some (o + 8) ∧ rf 10 = some (o + 9) ∧ rf 11 = some (o + 10)) := h.1
theorem PSi_a1 {S : List zC} {o : Nat} (h : PSi S o) : (∃ rf : Nat → Option Nat, S[(o + 1)]? = some (13, 6, rf)) := h.2.1
theorem PSi_a2 {S : List zC} {o : Nat} (h : PSi S o) : (∃ rf : Nat → Option Nat, S[(o + 2)]? = some (13, 6, rf)) := h.2.2.1
theorem PSi_a3 {S : List zC} {o : Nat} (h : PSi S o) : (∃ rf : Nat → Option Nat, S[(o + 3)]? = some (14, 6, rf)) := h.2.2.2.1
theorem PSi_a4 {S : List zC} {o : Nat} (h : PSi S o) : (∃ rf : Nat → Option Nat, S[(o + 4)]? = some (13, 16, rf)) := h.2.2.2.2.1
theorem PSi_a5 {S : List zC} {o : Nat} (h : PSi S o) : (∃ rf : Nat → Option Nat, S[(o + 5)]? = some (13, 16, rf)) := h.2.2.2.2.2.1
theorem PSi_a6 {S : List zC} {o : Nat} (h : PSi S o) : (∃ rf : Nat → Option Nat, S[(o + 6)]? = some (14, 8, rf)) := h.2.2.2.2.2.2.1
theorem PSi_a7 {S : List zC} {o : Nat} (h : PSi S o) : (∃ rf : Nat → Option Nat, S[(o + 7)]? = some (13, 12, rf)) := h.2.2.2.2.2.2.2.1
theorem PSi_a8 {S : List zC} {o : Nat} (h : PSi S o) : (∃ rf : Nat → Option Nat, S[(o + 8)]? = some (13, 12, rf)) := h.2.2.2.2.2.2.2.2.1
theorem PSi_a9 {S : List zC} {o : Nat} (h : PSi S o) : (∃ rf : Nat → Option Nat, S[(o + 9)]? = some (13, 8, rf)) := h.2.2.2.2.2.2.2.2.2.1
theorem PSi_a10 {S : List zC} {o : Nat} (h : PSi S o) : (∃ rf : Nat → Option Nat, S[(o + 10)]? = some (13, 8, rf)) := h.2.2.2.2.2.2.2.2.2.2.1
theorem PSi_l {S : List zC} {o : Nat} (h : PSi S o) : PSl S := h.2.2.2.2.2.2.2.2.2.2.2
def PSp (S : List zC) : Prop := (∃ (w : Int) (rf : Nat → Option Nat), S[1]? = some (8, w, rf) ∧ rf 0 = some 2) ∧ (∃ rf : Nat → Option Nat, S[2]? = some (13, 40, rf))
theorem PSp_1 {S : List zC} (h : PSp S) : (∃ (w : Int) (rf : Nat → Option Nat), S[1]? = some (8, w, rf) ∧ rf 0 = some 2) := h.1
theorem PSp_2 {S : List zC} (h : PSp S) : (∃ rf : Nat → Option Nat, S[2]? = some (13, 40, rf)) := h.2
def PSk (S : List zC) : Prop := (∃ (w : Int) (rf : Nat → Option Nat), S[47]? = some (6, w, rf) ∧ rf 0 = some 48 ∧ rf 1 = some 49) ∧ (∃ rf : Nat → Option Nat, S[48]? = some (13, 64, rf)) ∧ (∃ rf : Nat → Option Nat, S[49]? = some (13, 36, rf))
theorem PSk_47 {S : List zC} (h : PSk S) : (∃ (w : Int) (rf : Nat → Option Nat), S[47]? = some (6, w, rf) ∧ rf 0 = some 48 ∧ rf 1 = some 49) := h.1
theorem PSk_48 {S : List zC} (h : PSk S) : (∃ rf : Nat → Option Nat, S[48]? = some (13, 64, rf)) := h.2.1
theorem PSk_49 {S : List zC} (h : PSk S) : (∃ rf : Nat → Option Nat, S[49]? = some (13, 36, rf)) := h.2.2
def PSo (S : List zC) : Prop := (∃ (w : Int) (rf : Nat → Option Nat), S[50]? = some (7, w, rf) ∧ rf 0 = some 51) ∧ (∃ rf : Nat → Option Nat, S[51]? = some (15, 9, rf))
theorem PSo_50 {S : List zC} (h : PSo S) : (∃ (w : Int) (rf : Nat → Option Nat), S[50]? = some (7, w, rf) ∧ rf 0 = some 51) := h.1
theorem PSo_51 {S : List zC} (h : PSo S) : (∃ rf : Nat → Option Nat, S[51]? = some (15, 9, rf)) := h.2
def PSd (S : List zC) : Prop := (∃ (w : Int) (rf : Nat → Option Nat), S[52]? = some (1, w, rf))
theorem PSd_52 {S : List zC} (h : PSd S) : (∃ (w : Int) (rf : Nat → Option Nat), S[52]? = some (1, w, rf)) := h
def PSm (S : List zC) : Prop := (∃ (w : Int) (rf : Nat → Option Nat), S[53]? = some (12, w, rf) ∧ rf 0 = some 54 ∧ rf 2 = some 55 ∧ rf 7 = some 56 ∧ rf 8 = some 57 ∧ rf 10 = some 58 ∧ rf 11 = some 59 ∧ rf 12 = some 60 ∧ rf 13 = some 61 ∧ rf 14 = some 62 ∧ rf 16 = some 63 ∧ rf 21 = some 64 ∧ rf 22 = some 65 ∧ rf 23 = some 66 ∧ rf 24 = some 67) ∧ (∃ rf : Nat → Option Nat, S[54]? = some (13, 40, rf)) ∧ (∃ rf : Nat → Option Nat, S[55]? = some (13, 32, rf)) ∧ (∃ rf : Nat → Option Nat, S[56]? = some (13, 56, rf)) ∧ (∃ rf : Nat → Option Nat, S[57]? = some (13, 18, rf)) ∧ (∃ rf : Nat → Option Nat, S[58]? = some (13, 24, rf)) ∧ (∃ rf : Nat → Option Nat, S[59]? = some (13, 56, rf)) ∧ (∃ rf : Nat → Option Nat, S[60]? = some (13, 18, rf)) ∧ (∃ rf : Nat → Option Nat, S[61]? = some (13, 64, rf)) ∧ (∃ rf : Nat → Option Nat, S[62]? = some (15, 10, rf)) ∧ (∃ rf : Nat → Option Nat, S[63]? = some (13, 16, rf)) ∧ (∃ rf : Nat → Option Nat, S[64]? = some (13, 56, rf)) ∧ (∃ rf : Nat → Option Nat, S[65]? = some (13, 18, rf)) ∧ (∃ rf : Nat → Option Nat, S[66]? = some (13, 24, rf)) ∧ (∃ rf : Nat → Option Nat, S[67]? = some (13, 16, rf))
theorem PSm_53 {S : List zC} (h : PSm S) : (∃ (w : Int) (rf : Nat → Option Nat), S[53]? = some (12, w, rf) ∧ rf 0 = some 54 ∧ rf 2 = some 55 ∧ rf 7 = some 56 ∧ rf 8 = some 57 ∧ rf 10 = some 58 ∧ rf 11 = some 59 ∧ rf 12 = some 60 ∧ rf 13 = some 61 ∧ rf 14 = some 62 ∧ rf 16 = some 63 ∧ rf 21 = some 64 ∧ rf 22 = some 65 ∧ rf 23 = some 66 ∧ rf 24 = some 67) := h.1
theorem PSm_54 {S : List zC} (h : PSm S) : (∃ rf : Nat → Option Nat, S[54]? = some (13, 40, rf)) := h.2.1
theorem PSm_55 {S : List zC} (h : PSm S) : (∃ rf : Nat → Option Nat, S[55]? = some (13, 32, rf)) := h.2.2.1
theorem PSm_56 {S : List zC} (h : PSm S) : (∃ rf : Nat → Option Nat, S[56]? = some (13, 56, rf)) := h.2.2.2.1
theorem PSm_57 {S : List zC} (h : PSm S) : (∃ rf : Nat → Option Nat, S[57]? = some (13, 18, rf)) := h.2.2.2.2.1
theorem PSm_58 {S : List zC} (h : PSm S) : (∃ rf : Nat → Option Nat, S[58]? = some (13, 24, rf)) := h.2.2.2.2.2.1
theorem PSm_59 {S : List zC} (h : PSm S) : (∃ rf : Nat → Option Nat, S[59]? = some (13, 56, rf)) := h.2.2.2.2.2.2.1
theorem PSm_60 {S : List zC} (h : PSm S) : (∃ rf : Nat → Option Nat, S[60]? = some (13, 18, rf)) := h.2.2.2.2.2.2.2.1
theorem PSm_61 {S : List zC} (h : PSm S) : (∃ rf : Nat → Option Nat, S[61]? = some (13, 64, rf)) := h.2.2.2.2.2.2.2.2.1
theorem PSm_62 {S : List zC} (h : PSm S) : (∃ rf : Nat → Option Nat, S[62]? = some (15, 10, rf)) := h.2.2.2.2.2.2.2.2.2.1
theorem PSm_63 {S : List zC} (h : PSm S) : (∃ rf : Nat → Option Nat, S[63]? = some (13, 16, rf)) := h.2.2.2.2.2.2.2.2.2.2.1
theorem PSm_64 {S : List zC} (h : PSm S) : (∃ rf : Nat → Option Nat, S[64]? = some (13, 56, rf)) := h.2.2.2.2.2.2.2.2.2.2.2.1
theorem PSm_65 {S : List zC} (h : PSm S) : (∃ rf : Nat → Option Nat, S[65]? = some (13, 18, rf)) := h.2.2.2.2.2.2.2.2.2.2.2.2.1
theorem PSm_66 {S : List zC} (h : PSm S) : (∃ rf : Nat → Option Nat, S[66]? = some (13, 24, rf)) := h.2.2.2.2.2.2.2.2.2.2.2.2.2.1
theorem PSm_67 {S : List zC} (h : PSm S) : (∃ rf : Nat → Option Nat, S[67]? = some (13, 16, rf)) := h.2.2.2.2.2.2.2.2.2.2.2.2.2.2
def PSx (S : List zC) : Prop := (∃ (w : Int) (rf : Nat → Option Nat), S[0]? = some (11, w, rf) ∧ rf 0 = some 1 ∧ rf 1 = some 3 ∧ rf 2 = some 14 ∧ rf 3 = some 25 ∧ rf 4 = some 36 ∧ rf 5 = some 47 ∧ rf 6 = some 50 ∧ rf 7 = some 52) ∧ PSp S ∧ PSi S 14 ∧ PSi S 25 ∧ PSi S 36 ∧ PSk S ∧ PSo S ∧ PSd S
theorem PSx_0 {S : List zC} (h : PSx S) : (∃ (w : Int) (rf : Nat → Option Nat), S[0]? = some (11, w, rf) ∧ rf 0 = some 1 ∧ rf 1 = some 3 ∧ rf 2 = some 14 ∧ rf 3 = some 25 ∧ rf 4 = some 36 ∧ rf 5 = some 47 ∧ rf 6 = some 50 ∧ rf 7 = some 52) := h.1
theorem PSx_p {S : List zC} (h : PSx S) : PSp S := h.2.1
theorem PSx_i14 {S : List zC} (h : PSx S) : PSi S 14 := h.2.2.1
theorem PSx_i25 {S : List zC} (h : PSx S) : PSi S 25 := h.2.2.2.1
theorem PSx_i36 {S : List zC} (h : PSx S) : PSi S 36 := h.2.2.2.2.1
theorem PSx_k {S : List zC} (h : PSx S) : PSk S := h.2.2.2.2.2.1
theorem PSx_o {S : List zC} (h : PSx S) : PSo S := h.2.2.2.2.2.2.1
theorem PSx_d {S : List zC} (h : PSx S) : PSd S := h.2.2.2.2.2.2.2
theorem lsub_s {v : zA} {a b : List (Option zA)} (h : b.head? = some (some v)) (k : lsub a b.tail) : lsub (some v :: a) b := ⟨h, k⟩
theorem lsub_n {a b : List (Option zA)} (k : lsub a b.tail) : lsub (none :: a) b := k
theorem lsub_0 {b : List (Option zA)} : lsub [] b := trivial
theorem z_B2R {x : Int} (h : x = 0 ∨ x = 1) : inR x := by omega
theorem z_R2L {x : Int} (h : inR x) : inL x := ⟨by omega, by omega⟩
/-! what a feud is, by its place in the row of feuds -/
def frS (S : List zC) : Nat → Option Nat := match S[4]? with
  | some sc => sc.2.2
  | none => fun _ => none
def fcS (S : List zC) (k : Nat) : zC := match frS S k with
  | some c => (S[c]?).getD (0, 0, fun _ => none)
  | none => (0, 0, fun _ => none)
def wtS (S : List zC) (k : Nat) : Int := (fcS S k).2.1
def kdT (t : Nat) : Int := if t = 0 then 1 else if t = 5 then 2 else if t = 3 then 3 else if t = 9 then 4 else 0
def kdS (S : List zC) (k : Nat) : Int := kdT (fcS S k).1
theorem fcS_eq {S : List zC} {k c : Nat} {rf : Nat → Option Nat} {n : Int} {t : Nat} {sc : zC} (h4 : S[4]? = some (t, n, rf)) (hk : rf k = some c) (hc : S[c]? = some sc) : fcS S k = sc := by
  unfold fcS frS
  rw [h4]
  dsimp only
  rw [hk]
  dsimp only
  rw [hc]
  rfl

/-- a long, as the number that it is -/
def wrL (x : Int) : Int := (Int64.ofInt x).toInt
theorem wrL_in (x : Int) : inL (wrL x) := ⟨Int64.le_toInt _, Int64.toInt_lt _⟩
section ZWR
variable {X : zM} {S : List zC} {V : zV} {nc ns pc : Nat} {al : List (Option zA)} {st : List zA}
theorem wrL_cv (ad : Nat → Nat) (x : Int) : cvv ad (zJ (wrL x)) = cvv ad (zJ x) := congrArg Value.long (Int64.ofInt_toInt _)
theorem a_wrapL {x : Int} (k : zW X S V nc ns al (zJ (wrL x) :: st) pc) : zW X S V nc ns al (zJ x :: st) pc := by
  obtain ⟨p, l, e, R, s, m, args, below, meth, c, D, cy, A, Q, ad0, n0⟩ := X
  intro ad H locs ls hw hS hL ho
  have h := k ad H locs ls hw hS hL ⟨trivial, ho.2⟩
  rw [List.map_cons, wrL_cv] at h
  exact h
theorem a_wrapL2 {x y : Int} (k : zW X S V nc ns al (zJ (wrL y) :: zJ (wrL x) :: st) pc) : zW X S V nc ns al (zJ y :: zJ x :: st) pc := by
  obtain ⟨p, l, e, R, s, m, args, below, meth, c, D, cy, A, Q, ad0, n0⟩ := X
  intro ad H locs ls hw hS hL ho
  have h := k ad H locs ls hw hS hL ⟨trivial, trivial, ho.2.2⟩
  rw [List.map_cons, List.map_cons, wrL_cv, wrL_cv] at h
  exact h
theorem a_eqal {al' : List (Option zA)} (h : al = al') (k : zW X S V nc ns al' st pc) : zW X S V nc ns al st pc := h ▸ k
end ZWR
