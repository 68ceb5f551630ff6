/-! which kind a letter tells -/
def kindL (c : Int) : Int := if c = 98 then 1 else if c = 103 then 3 else if c = 106 then 2 else if c = 112 then 4 else 0
def m10_kindOfLetter (V : zV) (a1 : Int) (Q : Int → zV → Prop) : Prop := inR a1 ∧ Q (kindL a1) V
def t10_kindOfLetter : zT := fun as S V post => ∃ (a1 : Int) (Q : Int → zV → Prop), as = [zI a1] ∧ m10_kindOfLetter V a1 Q ∧ (∀ r V2, Q r V2 → post (some (zI r)) S V2)
section ZLK
variable {X : zM} {cc : ByteArray} {nL : Nat} {own nm : String} {rm : Room} {S : List zC} {V : zV} {nc ns pc : Nat} {al : List (Option zA)} {st : List zA}
theorem a_lookup (C : zCX X cc nL own nm rm) {x : Int} {dflt off : Int} {ps : Array (Int × Int)} {len : Nat} (tgt : Nat) (hd : decode cc pc = .ok (.lookupswitch dflt ps, len)) (hp : (ps.toList.zip (ps.toList.drop 1)).all (fun (a, next) => a.1 < next.1) = true) (hr : inR x) (ho0 : Op.lookupswitch.offset ps.toList dflt x = off) (ht : (pc : Int) + off = (tgt : Int)) (k : zW X S V nc ns al st tgt) : zW X S V nc ns al (zI x :: st) pc := by
  obtain ⟨p, l, e, R, s, m, args, below, meth, c, D, cy, A, Q, ad0, n0⟩ := X
  obtain ⟨hx, hb, -⟩ := C
  intro ad H locs ls hw hS hL ho
  exact lv_lookup hx hb hd hp (by rw [z_toInt hr]; exact ho0) ht (k ad H locs ls hw hS hL ho.2)
end ZLK
theorem osw_eq {a o d x : Int} {r : List (Int × Int)} (h : x = a) : Op.lookupswitch.offset ((a, o) :: r) d x = o := by rw [Op.lookupswitch.offset_cons, if_pos h.symm]
theorem osw_ne {a o d x : Int} {r : List (Int × Int)} (h : ¬ x = a) : Op.lookupswitch.offset ((a, o) :: r) d x = Op.lookupswitch.offset r d x := by rw [Op.lookupswitch.offset_cons, if_neg (fun q => h q.symm)]
theorem osw_nil {d x : Int} : Op.lookupswitch.offset [] d x = d := by simp [Op.lookupswitch.offset]
theorem c10_kindOfLetter (l : Launch) : zCT l yX10_kindOfLetter cX10_kindOfLetter 1 (some .int) { frames := 0, cells := 0, slots := 0, locals := 0 } t10_kindOfLetter := by
  refine zCT_of (by decide) (fun as S V post h => by obtain ⟨a1, Q, rfl, -⟩ := h; exact Nat.le_of_ble_eq_true rfl) ?_
  intro X S V as post C E hT
  obtain ⟨a1, Q, rfl, ⟨hr, hK⟩, hpost⟩ := hT
  show zW X S V 0 0 [some (zI a1)] [] 0
  refine a_iload_n C dX10_kindOfLetter_0 rfl ?_
  have fin : ∀ v, kindL a1 = v → post (some (zI v)) S V := fun v hv => hpost _ _ (hv ▸ hK)
  by_cases q1 : a1 = 98
  · refine a_lookup C 44 dX10_kindOfLetter_1 (by decide) hr (osw_eq q1) (by decide) ?_
    exact a_iconst C dX10_kindOfLetter_44 (a_iret C E dX10_kindOfLetter_45 (Nat.le_refl _) (Nat.le_refl _) (fin _ (if_pos q1)))
  by_cases q2 : a1 = 103
  · refine a_lookup C 48 dX10_kindOfLetter_1 (by decide) hr ((osw_ne q1).trans (osw_eq q2)) (by decide) ?_
    exact a_iconst C dX10_kindOfLetter_48 (a_iret C E dX10_kindOfLetter_49 (Nat.le_refl _) (Nat.le_refl _) (fin _ ((if_neg q1).trans (if_pos q2))))
  by_cases q3 : a1 = 106
  · refine a_lookup C 46 dX10_kindOfLetter_1 (by decide) hr ((osw_ne q1).trans ((osw_ne q2).trans (osw_eq q3))) (by decide) ?_
    exact a_iconst C dX10_kindOfLetter_46 (a_iret C E dX10_kindOfLetter_47 (Nat.le_refl _) (Nat.le_refl _) (fin _ ((if_neg q1).trans ((if_neg q2).trans (if_pos q3)))))
  by_cases q4 : a1 = 112
  · refine a_lookup C 50 dX10_kindOfLetter_1 (by decide) hr ((osw_ne q1).trans ((osw_ne q2).trans ((osw_ne q3).trans (osw_eq q4)))) (by decide) ?_
    exact a_iconst C dX10_kindOfLetter_50 (a_iret C E dX10_kindOfLetter_51 (Nat.le_refl _) (Nat.le_refl _) (fin _ ((if_neg q1).trans ((if_neg q2).trans ((if_neg q3).trans (if_pos q4))))))
  · refine a_lookup C 52 dX10_kindOfLetter_1 (by decide) hr ((osw_ne q1).trans ((osw_ne q2).trans ((osw_ne q3).trans ((osw_ne q4).trans osw_nil)))) (by decide) ?_
    exact a_iconst C dX10_kindOfLetter_52 (a_iret C E dX10_kindOfLetter_53 (Nat.le_refl _) (Nat.le_refl _) (fin _ ((if_neg q1).trans ((if_neg q2).trans ((if_neg q3).trans (if_neg q4))))))
