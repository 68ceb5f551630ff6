theorem fromTab {args : Array Value} {s : State} (hts : ∀ w ∈ lw_tbl, w.before args s = true) {w : Cond} (i : Nat) (h : tables_1[i]? = some w) : w.before args s = true := hts w (List.mem_append_right _ (List.mem_of_getElem? h))
theorem arr_of {args : Array Value} {s : State} {ty : FieldType} (hp : refKind ty = false) (h : (Cond.arrayClass ty).before args s = true) : ∃ cA : ClassId, ArrOfT s cA ty ∧ s.vm.findClass ("[" ++ ty.toString) = some cA := by
  obtain ⟨cA, kA, comp, h1, h2, h3⟩ := Cond.arrayClass_spec h
  exact ⟨cA, fun n z => ⟨fun k h => (by cases h), kA, h2, comp, h3⟩, h1⟩
set_option maxHeartbeats 4000000 in
set_option maxRecDepth 100000 in
/-- from the entry, for every script of at most 256 ints, the law comes to its end with true -/
theorem whole_start {p : Program} {e : Env} {s : State} {m : MethodId} {below : List Frame} {meth : Method} {c : Code} (l : Launch) {b L : Nat} {xs : Nat → Int32} (hL : L ≤ 256) (C0 : lw_At p s m meth c b L xs) : W p l e room_1 s m #[Value.ref b] below meth c s.heap [] 0 0 (lw_Z below #[Value.ref b] s) (entryFrame m ([Value.ref b] : List Value).toArray 4) := by
  obtain ⟨hx, hb, hr, hml, hown, hts, hX, hbl, hlocks, hgv⟩ := C0
  have hTB : ∀ w ∈ TB, w.before #[Value.ref b] s = true := fun w hw => hts w (List.mem_filter.mp hw).1
  have hs := flat_of_before _ hgv
  obtain ⟨c0, i0, k0⟩ := u_known (C := RX0) (T := TX0) (N := 1) (n := 1) hTB inT0 (hTB _ ia_X0)
  obtain ⟨c1, i1, k1⟩ := u_known (C := RX1) (T := TX1) (N := 1) (n := 1) hTB inT1 (hTB _ ia_X1)
  obtain ⟨c2, i2, k2⟩ := u_known (C := RX2) (T := TX2) (N := 1) (n := 1) hTB inT2 (hTB _ ia_X2)
  obtain ⟨c3, i3, k3⟩ := u_known (C := RX3) (T := TX3) (N := 1) (n := 1) hTB inT3 (hTB _ ia_X3)
  obtain ⟨c4, i4, k4⟩ := u_known (C := RX4) (T := TX4) (N := 13) (n := 13) hTB inT4 (hTB _ ia_X4)
  obtain ⟨c5, i5, k5⟩ := u_known (C := RX5) (T := TX5) (N := 1) (n := 1) hTB inT5 (hTB _ ia_X5)
  obtain ⟨c6, i6, k6⟩ := u_known (C := RX6) (T := TX6) (N := 4) (n := 4) hTB inT6 (hTB _ ia_X6)
  obtain ⟨c7, i7, k7⟩ := u_known (C := RX7) (T := TX7) (N := 2) (n := 2) hTB inT7 (hTB _ ia_X7)
  obtain ⟨c8, i8, k8⟩ := u_known (C := RX8) (T := TX8) (N := 4) (n := 4) hTB inT8 (hTB _ ia_X8)
  obtain ⟨c9, i9, k9⟩ := u_known (C := RX9) (T := TX9) (N := 1) (n := 1) hTB inT9 (hTB _ ia_X9)
  obtain ⟨c10, i10, k10⟩ := u_known (C := RX10) (T := TX10) (N := 3) (n := 3) hTB inT10 (hTB _ ia_X10)
  obtain ⟨c11, i11, k11⟩ := u_known (C := RX11) (T := TX11) (N := 10) (n := 10) hTB inT11 (hTB _ ia_X11)
  obtain ⟨c12, i12, k12⟩ := u_known (C := RX12) (T := TX12) (N := 26) (n := 26) hTB inT12 (hTB _ ia_X12)
  obtain ⟨dC, dI, hKc⟩ : ∃ (dC : Nat → ClassId) (dI : Nat → Nat → Nat), ∀ (k : Nat) (q : vw_C), vwCl[k]? = some q → u_Kn s q.1 q.2.1 q.2.2 (dC k) (dI k) := by
    refine ⟨fun k => match k with | 0 => c0 | 1 => c1 | 2 => c2 | 3 => c3 | 4 => c4 | 5 => c5 | 6 => c6 | 7 => c7 | 8 => c8 | 9 => c9 | 10 => c10 | 11 => c11 | _ => c12, fun k => match k with | 0 => i0 | 1 => i1 | 2 => i2 | 3 => i3 | 4 => i4 | 5 => i5 | 6 => i6 | 7 => i7 | 8 => i8 | 9 => i9 | 10 => i10 | 11 => i11 | _ => i12, ?_⟩
    intro k q hq
    match k, hq with
    | 0, hq => cases hq; exact k0
    | 1, hq => cases hq; exact k1
    | 2, hq => cases hq; exact k2
    | 3, hq => cases hq; exact k3
    | 4, hq => cases hq; exact k4
    | 5, hq => cases hq; exact k5
    | 6, hq => cases hq; exact k6
    | 7, hq => cases hq; exact k7
    | 8, hq => cases hq; exact k8
    | 9, hq => cases hq; exact k9
    | 10, hq => cases hq; exact k10
    | 11, hq => cases hq; exact k11
    | 12, hq => cases hq; exact k12
    | k + 13, hq => simp [vwCl] at hq
  obtain ⟨y0, a0, f0⟩ := arr_of (ty := .int) rfl (hTB _ ac_int)
  obtain ⟨y1, a1, f1⟩ := arr_of (ty := .boolean) rfl (hTB _ ac_boolean)
  obtain ⟨y2, a2, f2⟩ := arr_of (ty := .long) rfl (hTB _ ac_long)
  have hAO : va_AO "ClosedFeuds$Feud" s := va_AO.of (fromTab hts 56 (by decide +kernel))
  obtain ⟨comp, y3, kA, g1, -, g3, g4, g5⟩ := Cond.arrayOver_spec hAO
  obtain ⟨cy, hcy⟩ : ∃ cy : Nat → ClassId, cy 0 = y0 ∧ cy 1 = y1 ∧ cy 2 = y2 ∧ cy 3 = y3 := ⟨fun k => match k with | 0 => y0 | 1 => y1 | 2 => y2 | _ => y3, rfl, rfl, rfl, rfl⟩
  obtain ⟨e0, e1, e2, e3⟩ := hcy
  have hK : va_K (dC, dI) vwCl (tyL cy) s := by
    refine ⟨hKc, fun k q hq => ?_⟩
    match k, hq with
    | 0, hq => cases hq; rw [e0]; exact ⟨a0, f0⟩
    | 1, hq => cases hq; rw [e1]; exact ⟨a1, f1⟩
    | 2, hq => cases hq; rw [e2]; exact ⟨a2, f2⟩
    | 3, hq => cases hq; rw [e3]; exact ⟨fun N z => ⟨(fun k h => by cases h), kA, g3, comp, g4⟩, kA, comp, g3, g4, g1, g5⟩
    | k + 4, hq => simp [tyL] at hq
  have hKK : KK (dC, dI) cy s := by
    refine ⟨hK, fun w hw => ?_, fun q hq => ?_, fun q hq => ?_, hAO⟩
    · simp only [zNest, List.mem_cons, List.not_mem_nil, or_false] at hw
      rcases hw with rfl | rfl | rfl | rfl | rfl
      · exact va_Nw.of rfl (fromTab hts 28 (by decide +kernel))
      · exact va_Nw.of rfl (fromTab hts 153 (by decide +kernel))
      · exact va_Nw.of rfl (fromTab hts 174 (by decide +kernel))
      · exact va_Nw.of rfl (fromTab hts 188 (by decide +kernel))
      · exact va_Nw.of rfl (fromTab hts 551 (by decide +kernel))
    · simp only [zCast, List.mem_cons, List.not_mem_nil, or_false] at hq
      rcases hq with rfl | rfl | rfl | rfl | rfl
      · exact va_Nw.of rfl (fromTab hts 1121 (by decide +kernel))
      · exact va_Nw.of rfl (fromTab hts 1122 (by decide +kernel))
      · exact va_Nw.of rfl (fromTab hts 1123 (by decide +kernel))
      · exact va_Nw.of rfl (fromTab hts 1124 (by decide +kernel))
      · exact va_Nw.of rfl (fromTab hts 1125 (by decide +kernel))
    · simp only [zNoC, List.mem_cons, List.not_mem_nil, or_false] at hq
      rcases hq with rfl | rfl | rfl | rfl | rfl | rfl | rfl | rfl | rfl | rfl | rfl | rfl | rfl | rfl | rfl <;> exact va_Nc.of (hs _ (by decide +kernel))
  rw [lg_entry_eq]
  exact law_sound (X := (p, l, e, room_1, s, m, #[Value.ref b], below, meth, c, (dC, dI), cy, (fun q : Nat => s.heap.size ≤ q), lw_Z below #[Value.ref b] s, (fun _ => b), 0)) (nm := meth.name) (b := b) (L := L) (xs := xs) (ys := fun j => (xs j).toInt) (Q := ())
    ⟨hx, hb, hml, hown, hTB, hlocks, hKK, fun _ h => h, rfl, rfl⟩ ⟨⟨hX, hbl, rfl, rfl, rfl, rfl, hr⟩, fun _ => rfl⟩ hL (law_pure L _ hL (fun j => ⟨Int32.le_toInt _, Int32.toInt_lt _⟩))
    (fun _ => b) s.heap [] _ ⟨fun k q h => by simp [wsW] at h, ⟨fun i j x y h => by simp [wsW] at h, fun k q h => by simp [wsW] at h⟩, fun c sc h => by simp at h, fun c sc h => by simp at h, Nat.le_refl _, fun _ _ => rfl⟩ va_S.rf (by show zLR 0 (fun _ => b) c.maxLocals (ent [zR 999999] 4) _; rw [hml]; exact ent_LR (fun _ => b) (as := [zR 999999]) ⟨Or.inr rfl, trivial⟩ (by decide)) trivial
