/-! ===== the page read by the plain model ===== -/
def kbS (c : Int) : Int := if kindL c = 0 then 0 else 1
theorem kbS_in (c : Int) : 0 ≤ kbS c ∧ kbS c ≤ 1 := by
  unfold kbS
  split <;> omega
def psS (V : zV) : Nat → Int
  | 0 => 0
  | f + 1 => psS V f + kbS (cdS V (psS V f)) + 4
def quS (V : zV) (f : Nat) : Int := psS V f + kbS (cdS V (psS V f))
theorem psS_q (V : zV) (f : Nat) : psS V (f + 1) = quS V f + 4 := rfl
theorem quS_e (V : zV) (f : Nat) : quS V f = psS V f + kbS (cdS V (psS V f)) := rfl
def fdN (st : Int) (k : Nat) : Nat := if st = 4 then k + 1 else k
theorem fdN_c (st : Int) (k : Nat) : ((fdN st k : Nat) : Int) = fdS st k := by
  unfold fdN fdS
  split <;> omega
def scK (V : zV) : Nat → Int → Nat → Int → Nat
  | 0, _, k, _ => k
  | m + 1, st, k, i => if nsS V st k i = -1 then k else scK V m (nsS V st k i) (fdN (nsS V st k i) k) (i + 1)
theorem scK_s (V : zV) (m : Nat) (st : Int) (k : Nat) (i : Int) : scK V (m + 1) st k i = if nsS V st k i = -1 then k else scK V m (nsS V st k i) (fdN (nsS V st k i) k) (i + 1) := rfl
theorem nsS0 (V : zV) (k i : Int) : nsS V 0 k i = if kindL (cdS V i) ≠ 0 then 1 else if 48 ≤ cdS V i ∧ cdS V i ≤ 53 then 2 else -1 := by
  unfold nsS
  rw [if_pos rfl]
theorem nsS1 (V : zV) (k i : Int) : nsS V 1 k i = if 48 ≤ cdS V i ∧ cdS V i ≤ 53 then 2 else -1 := by
  unfold nsS
  rw [if_neg (by decide), if_pos rfl]
theorem nsS2 (V : zV) (k i : Int) : nsS V 2 k i = if 48 ≤ cdS V i ∧ cdS V i ≤ 53 ∧ cdS V i ≠ cdS V (i - 1) then 3 else -1 := by
  unfold nsS
  rw [if_neg (by decide), if_neg (by decide), if_pos rfl]
theorem nsS3 (V : zV) (k i : Int) : nsS V 3 k i = if 49 ≤ cdS V i ∧ cdS V i ≤ 57 then 4 else -1 := by
  unfold nsS
  rw [if_neg (by decide), if_neg (by decide), if_neg (by decide), if_pos rfl]
theorem nsS4 (V : zV) (k i : Int) : nsS V 4 k i = if cdS V i = 44 ∧ k < 8 then 0 else -1 := by
  unfold nsS
  rw [if_neg (by decide), if_neg (by decide), if_neg (by decide), if_neg (by decide)]
/-- the letters of one feud are as they must be -/
def gdP (V : zV) (f : Nat) : Prop := (48 ≤ cdS V (quS V f) ∧ cdS V (quS V f) ≤ 53) ∧ (48 ≤ cdS V (quS V f + 1) ∧ cdS V (quS V f + 1) ≤ 53) ∧ (49 ≤ cdS V (quS V f + 2) ∧ cdS V (quS V f + 2) ≤ 57)
def ivP (V : zV) (st : Int) (k : Nat) (i : Int) : Prop := (∀ f : Nat, f < k → gdP V f) ∧ ((st = 0 ∧ k ≤ 7 ∧ i = psS V k) ∨ (st = 1 ∧ k ≤ 7 ∧ i = psS V k + 1 ∧ quS V k = psS V k + 1) ∨ (st = 2 ∧ k ≤ 7 ∧ i = quS V k + 1 ∧ (48 ≤ cdS V (quS V k) ∧ cdS V (quS V k) ≤ 53)) ∨ (st = 3 ∧ k ≤ 7 ∧ i = quS V k + 2 ∧ (48 ≤ cdS V (quS V k) ∧ cdS V (quS V k) ≤ 53) ∧ (48 ≤ cdS V (quS V k + 1) ∧ cdS V (quS V k + 1) ≤ 53)) ∨ (st = 4 ∧ 1 ≤ k ∧ k ≤ 8 ∧ i + 1 = psS V k))
def lsP (V : zV) (k : Nat) : Prop := (1 ≤ k ∧ k ≤ 8) ∧ V 1 1 + 1 = psS V k ∧ ∀ f : Nat, f < k → gdP V f
theorem iv_step {V : zV} {st : Int} {k : Nat} {i : Int} (h : ivP V st k i) (hn : nsS V st k i ≠ -1) : ivP V (nsS V st k i) (fdN (nsS V st k i) k) (i + 1) := by
  obtain ⟨ha, h⟩ := h
  rcases h with ⟨e, a, b⟩ | ⟨e, a, b, c⟩ | ⟨e, a, b, c⟩ | ⟨e, a, b, c, d⟩ | ⟨e, a1, a, b⟩
  · subst e
    rw [nsS0] at *
    by_cases q : kindL (cdS V i) ≠ 0
    · rw [if_pos q]
      have ek : fdN 1 k = k := by unfold fdN; rw [if_neg (by decide)]
      rw [ek]
      refine ⟨ha, Or.inr (Or.inl ⟨rfl, a, by omega, ?_⟩)⟩
      rw [quS_e, ← b]
      unfold kbS
      rw [if_neg q]
    · rw [if_neg q] at hn ⊢
      by_cases q2 : 48 ≤ cdS V i ∧ cdS V i ≤ 53
      · rw [if_pos q2]
        have ek : fdN 2 k = k := by unfold fdN; rw [if_neg (by decide)]
        rw [ek]
        have eq : quS V k = i := by
          rw [quS_e, ← b]
          unfold kbS
          rw [if_pos (by omega)]
          omega
        refine ⟨ha, Or.inr (Or.inr (Or.inl ⟨rfl, a, by omega, ?_⟩))⟩
        rw [eq]
        exact q2
      · rw [if_neg q2] at hn
        exact absurd rfl hn
  · subst e
    rw [nsS1] at *
    by_cases q2 : 48 ≤ cdS V i ∧ cdS V i ≤ 53
    · rw [if_pos q2]
      have ek : fdN 2 k = k := by unfold fdN; rw [if_neg (by decide)]
      rw [ek]
      have eq : quS V k = i := by omega
      refine ⟨ha, Or.inr (Or.inr (Or.inl ⟨rfl, a, by omega, ?_⟩))⟩
      rw [eq]
      exact q2
    · rw [if_neg q2] at hn
      exact absurd rfl hn
  · subst e
    rw [nsS2] at *
    by_cases q2 : 48 ≤ cdS V i ∧ cdS V i ≤ 53 ∧ cdS V i ≠ cdS V (i - 1)
    · rw [if_pos q2]
      have ek : fdN 3 k = k := by unfold fdN; rw [if_neg (by decide)]
      rw [ek]
      refine ⟨ha, Or.inr (Or.inr (Or.inr (Or.inl ⟨rfl, a, by omega, c, ?_⟩)))⟩
      rw [← b]
      omega
    · rw [if_neg q2] at hn
      exact absurd rfl hn
  · subst e
    rw [nsS3] at *
    by_cases q2 : 49 ≤ cdS V i ∧ cdS V i ≤ 57
    · rw [if_pos q2]
      have ek : fdN 4 k = k + 1 := by unfold fdN; rw [if_pos rfl]
      rw [ek]
      refine ⟨fun f hf => ?_, Or.inr (Or.inr (Or.inr (Or.inr ⟨rfl, by omega, by omega, ?_⟩)))⟩
      · by_cases hk : f = k
        · subst hk
          refine ⟨c, d, ?_⟩
          rw [← b]
          exact q2
        · exact ha f (by omega)
      · rw [psS_q]
        omega
    · rw [if_neg q2] at hn
      exact absurd rfl hn
  · subst e
    rw [nsS4] at *
    by_cases q2 : cdS V i = 44 ∧ (k : Int) < 8
    · rw [if_pos q2]
      have ek : fdN 0 k = k := by unfold fdN; rw [if_neg (by decide)]
      rw [ek]
      exact ⟨ha, Or.inl ⟨rfl, by omega, by omega⟩⟩
    · rw [if_neg q2] at hn
      exact absurd rfl hn
theorem sc_end {V : zV} : ∀ (m : Nat) (st : Int) (k : Nat) (i : Int), ivP V st k i → i + m = V 1 1 → scP V m st k i = V 1 1 → scT V m st k i = 4 → lsP V (scK V m st k i)
  | 0, st, k, i, h, e, e1, e2 => by
    have e2 : st = 4 := e2
    obtain ⟨ha, h⟩ := h
    show lsP V k
    exact ⟨by omega, by omega, ha⟩
  | m + 1, st, k, i, h, e, e1, e2 => by
    have ih := sc_end (V := V) m (nsS V st k i) (fdN (nsS V st k i) k) (i + 1)
    rw [scP_s] at e1
    rw [scT_s] at e2
    rw [scK_s]
    by_cases q : nsS V st k i = -1
    · rw [if_pos q] at e1
      omega
    · rw [if_neg q] at e1 e2 ⊢
      rw [fdN_c] at ih
      exact ih (iv_step h q) (by omega) e1 e2
/-- what the plain model has read of one feud -/
def rdC (V V' : zV) (f : Nat) : Prop := V' 55 (4 * (f : Int)).toNat = kindL (cdS V (psS V f)) ∧ V' 55 (4 * (f : Int) + 1).toNat = cdS V (quS V f) - 48 ∧ V' 55 (4 * (f : Int) + 2).toNat = cdS V (quS V f + 1) - 48 ∧ V' 55 (4 * (f : Int) + 3).toNat = cdS V (quS V f + 2) - 48
theorem rdC_fr {V V' V'' : zV} {f : Nat} (h : rdC V V' f) (g : ∀ j : Nat, j < 4 * f + 4 → V'' 55 j = V' 55 j) : rdC V V'' f := by
  unfold rdC at *
  rw [g _ (by omega), g _ (by omega), g _ (by omega), g _ (by omega)]
  exact h
def ivM (V V' : zV) (st : Int) (k : Nat) : Prop := (V' 53 3 = k ∧ V' 53 4 = st) ∧ (∀ f : Nat, f < k → rdC V V' f) ∧ (1 ≤ st → st ≤ 3 → V' 55 (4 * (k : Int)).toNat = kindL (cdS V (psS V k))) ∧ (2 ≤ st → st ≤ 3 → V' 55 (4 * (k : Int) + 1).toNat = cdS V (quS V k) - 48) ∧ (st = 3 → V' 55 (4 * (k : Int) + 2).toNat = cdS V (quS V k + 1) - 48)
def frF (V V' : zV) : Prop := ∀ c j, c ≠ 55 → ¬ (c = 53 ∧ (j = 3 ∨ j = 4)) → V' c j = V c j
theorem frF_r (V : zV) : frF V V := fun _ _ _ _ => rfl
theorem frF_t {V V1 V2 : zV} (h : frF V V1) (k : frF V1 V2) : frF V V2 := fun c j a b => (k c j a b).trans (h c j a b)
def pgM (V V' : zV) : Prop := V' 53 1 = V 1 1 ∧ ∀ k : Int, 0 ≤ k → k < V 1 1 → V' 54 k.toNat = cdS V k ∧ 1 ≤ cdS V k ∧ cdS V k ≤ 126
theorem pgM_fr {V V1 V2 : zV} (h : pgM V V1) (f : frF V1 V2) : pgM V V2 := by
  refine ⟨(f _ _ (by decide) (by omega)).trans h.1, fun k a b => ?_⟩
  rw [f 54 _ (by decide) (by omega)]
  exact h.2 k a b
section GOES
variable {V V' : zV} {Q : Int → zV → Prop} {st i : Int} {k : Nat}
theorem m_kindBy {c : Int} (hc : inR c) (q : ∀ r, r = kindL c → 0 ≤ r → r ≤ 4 → Q r V') : m12_kindBy V' c Q := by
  unfold m12_kindBy
  refine ⟨hc, fun a => ⟨fun b => ⟨fun d => ⟨fun e => q _ ?_ (by omega) (by omega), fun e => q _ ?_ (by omega) (by omega)⟩, fun e => q _ ?_ (by omega) (by omega)⟩, fun e => q _ ?_ (by omega) (by omega)⟩, fun e => q _ ?_ (by omega) (by omega)⟩
  all_goals (unfold kindL; (repeat' split) <;> omega)
theorem m_go173 (hm : ivM V V' st k) (hk : k ≤ 7) (hs : st = 0 ∨ st = 1) (V1 : zV) (g : ∀ c j, (c = 55 ∧ 4 * k < j) ∨ (c = 55 ∧ j < 4 * k) ∨ c ≠ 55 → V1 c j = V' c j) (g0 : V1 55 (4 * (k : Int)).toNat = kindL (cdS V (psS V k))) {c : Int} (hc : 1 ≤ c ∧ c ≤ 126) (ec : c = cdS V (quS V k)) (q : ∀ r V'', r = (if 48 ≤ c ∧ c ≤ 53 then 1 else 0) → frF V' V'' → ivM V V'' 2 k → Q r V'') : m12_go_J173 Q (c - 48) (4 * (k : Int)) V1 := by
  obtain ⟨⟨e3, e4⟩, ha, _⟩ := hm
  unfold m12_go_J173
  refine ⟨by omega, by omega, m_in (by omega) (by omega) (by omega) (fun r hr r1 r2 => ⟨by omega, q _ _ ?_ ?_ ?_⟩)⟩
  · rw [hr]
    (repeat' split) <;> omega
  · intro a j b d
    rw [vset_at, if_neg (by omega), vset_at, if_neg (by omega)]
    exact g _ _ (by omega)
  · refine ⟨⟨?_, ?_⟩, fun f hf => ?_, fun _ _ => ?_, fun _ _ => ?_, fun z => by omega⟩
    · rw [vset_at, if_neg (by omega), vset_at, if_neg (by omega), g _ _ (by omega)]
      exact e3
    · rw [vset_same]
    · refine rdC_fr (ha f hf) (fun j hj => ?_)
      rw [vset_at, if_neg (by omega), vset_at, if_neg (by omega)]
      exact g _ _ (by omega)
    · rw [vset_at, if_neg (by omega), vset_at, if_neg (by omega)]
      exact g0
    · rw [vset_at, if_neg (by omega), vset_same, ec]
theorem m_go (hv : ivP V st k i) (hm : ivM V V' st k) {c : Int} (ec : c = cdS V i) (hc : 1 ≤ c ∧ c ≤ 126) (q : ∀ r V'', 0 ≤ r → r ≤ 1 → frF V' V'' → (r = 0 → nsS V st k i = -1) → (r ≠ 0 → nsS V st k i ≠ -1 ∧ ivM V V'' (nsS V st k i) (fdN (nsS V st k i) k)) → Q r V'') : m12_go V' c Q := by
  have hm0 := hm
  obtain ⟨⟨e3, e4⟩, ha, h1, h2, h3⟩ := hm
  obtain ⟨hga, hv⟩ := hv
  unfold m12_go
  rw [e3]
  rcases hv with ⟨e, a, b⟩ | ⟨e, a, b, d⟩ | ⟨e, a, b, d⟩ | ⟨e, a, b, d, d2⟩ | ⟨e, a1, a, b⟩
  · subst e
    rw [nsS0, ← ec] at q
    refine ⟨fun _ => ⟨fun _ => ⟨fun _ => ⟨fun z => absurd e4 z, fun _ => m_kindBy (by omega) (fun r hr r1 r2 => ⟨by omega, by omega, by omega, fun z => ?_, fun z => ?_⟩)⟩, fun z => by omega⟩, fun z => by omega⟩, fun z => by omega⟩
    · rw [vset_same] at z
      have kz : kindL c = 0 := by omega
      rw [if_neg (by omega)] at q
      have eq : quS V k = i := by
        rw [quS_e, ← b, ← ec]
        unfold kbS
        rw [if_pos kz]
        omega
      refine m_go173 hm0 a (Or.inl rfl) _ (fun c' j hh => ?_) ?_ hc (by rw [eq]; exact ec) (fun r' V'' hr' fr iv => q r' V'' ?_ ?_ fr ?_ ?_)
      · rw [vset_at, if_neg (by omega)]
      · rw [vset_same, hr, ← b, ← ec]
      · rw [hr']; split <;> omega
      · rw [hr']; split <;> omega
      · intro z2
        rw [if_neg]
        intro z3
        rw [if_pos z3] at hr'
        omega
      · intro z2
        have z3 : 48 ≤ c ∧ c ≤ 53 := by
          by_cases z3 : 48 ≤ c ∧ c ≤ 53
          · exact z3
          · rw [if_neg z3] at hr'
            omega
        rw [if_pos z3]
        refine ⟨by decide, ?_⟩
        have ek : fdN 2 k = k := by unfold fdN; rw [if_neg (by decide)]
        rw [ek]
        exact iv
    · rw [vset_same] at z
      rw [if_pos (by omega)] at q
      have ek : fdN 1 k = k := by unfold fdN; rw [if_neg (by decide)]
      rw [ek] at q
      refine q 1 _ (by omega) (by omega) ?_ (fun z => by omega) (fun _ => ⟨by decide, ⟨⟨?_, ?_⟩, fun f hf => ?_, fun _ _ => ?_, fun z => by omega, fun z => by omega⟩⟩)
      · intro c' j x y
        rw [vset_at, if_neg (by omega), vset_at, if_neg (by omega)]
      · rw [vset_at, if_neg (by omega), vset_at, if_neg (by omega)]
        exact e3
      · rw [vset_same]
      · refine rdC_fr (ha f hf) (fun j hj => ?_)
        rw [vset_at, if_neg (by omega), vset_at, if_neg (by omega)]
      · rw [vset_at, if_neg (by omega), vset_same, hr, ← b, ← ec]
  · subst e
    rw [nsS1, ← ec] at q
    refine ⟨fun _ => ⟨fun _ => ⟨fun _ => ⟨fun _ => ?_, fun z => by omega⟩, fun z => by omega⟩, fun z => by omega⟩, fun z => by omega⟩
    refine m_go173 hm0 a (Or.inr rfl) _ (fun c' j hh => rfl) (h1 (by omega) (by omega)) hc (by rw [d, ← b]; exact ec) (fun r' V'' hr' fr iv => q r' V'' ?_ ?_ fr ?_ ?_)
    · rw [hr']; split <;> omega
    · rw [hr']; split <;> omega
    · intro z2
      rw [if_neg]
      intro z3
      rw [if_pos z3] at hr'
      omega
    · intro z2
      have z3 : 48 ≤ c ∧ c ≤ 53 := by
        by_cases z3 : 48 ≤ c ∧ c ≤ 53
        · exact z3
        · rw [if_neg z3] at hr'
          omega
      rw [if_pos z3]
      refine ⟨by decide, ?_⟩
      have ek : fdN 2 k = k := by unfold fdN; rw [if_neg (by decide)]
      rw [ek]
      exact iv
  · subst e
    have ei : i - 1 = quS V k := by omega
    rw [nsS2, ← ec, ei] at q
    have h2 := h2 (by omega) (by omega)
    have h1 := h1 (by omega) (by omega)
    have fr : ∀ x y : Int, frF V' (vset (vset V' 55 (4 * (k : Int) + 2).toNat x) 53 4 y) := by
      intro x y c' j p p'
      rw [vset_at, if_neg (by omega), vset_at, if_neg (by omega)]
    have e55 : (vset (vset V' 55 (4 * (k : Int) + 2).toNat (c - 48)) 53 4 3) 55 (4 * (k : Int) + 1).toNat = cdS V (quS V k) - 48 := by
      rw [vset_at, if_neg (by omega), vset_at, if_neg (by omega)]
      exact h2
    refine ⟨fun _ => ⟨fun _ => ⟨fun z => absurd e4 z, fun _ => ⟨by omega, by omega, m_in (by omega) (by omega) (by omega) (fun r hr r1 r2 => ⟨by omega, fun z => ?_, fun z => ⟨by omega, fun z2 => ?_, fun z2 => ?_⟩⟩)⟩⟩, fun z => by omega⟩, fun z => by omega⟩
    · refine q 0 _ (by omega) (by omega) (fr _ _) (fun _ => ?_) (fun z => absurd rfl z)
      rw [if_neg]
      intro z3
      rw [if_pos (by omega)] at hr
      omega
    · rw [e55] at z2
      refine q 0 _ (by omega) (by omega) (fr _ _) (fun _ => ?_) (fun z => absurd rfl z)
      rw [if_neg (by omega)]
    · rw [e55] at z2
      have z3 : 48 ≤ c ∧ c ≤ 53 := by
        split at hr <;> omega
      rw [if_pos (by omega)] at q
      have ek : fdN 3 k = k := by unfold fdN; rw [if_neg (by decide)]
      rw [ek] at q
      refine q 1 _ (by omega) (by omega) (fr _ _) (fun z => by omega) (fun _ => ⟨by decide, ⟨⟨?_, ?_⟩, fun f hf => ?_, fun _ _ => ?_, fun _ _ => e55, fun _ => ?_⟩⟩)
      · rw [vset_at, if_neg (by omega), vset_at, if_neg (by omega)]
        exact e3
      · rw [vset_same]
      · refine rdC_fr (ha f hf) (fun j hj => ?_)
        rw [vset_at, if_neg (by omega), vset_at, if_neg (by omega)]
      · rw [vset_at, if_neg (by omega), vset_at, if_neg (by omega)]
        exact h1
      · rw [vset_at, if_neg (by omega), vset_same, ec, b]
  · subst e
    rw [nsS3, ← ec] at q
    have h2 := h2 (by omega) (by omega)
    have h1 := h1 (by omega) (by omega)
    have h3 := h3 rfl
    have e33 : (vset V' 55 (4 * (k : Int) + 3).toNat (c - 48)) 53 3 = k := by
      rw [vset_at, if_neg (by omega)]
      exact e3
    rw [e33]
    refine ⟨fun _ => ⟨fun z => absurd e4 z, fun _ => ⟨by omega, by omega, by omega, m_in (by omega) (by omega) (by omega) (fun r hr r1 r2 => ⟨by omega, q r _ r1 r2 ?_ (fun z => ?_) (fun z => ?_)⟩)⟩⟩, fun z => by omega⟩
    · intro c' j p p'
      rw [vset_at, if_neg (by omega), vset_at, if_neg (by omega), vset_at, if_neg (by omega)]
    · rw [if_neg]
      intro z3
      rw [if_pos (by omega)] at hr
      omega
    · have z3 : 49 ≤ c ∧ c ≤ 57 := by
        split at hr <;> omega
      rw [if_pos z3]
      have ek : fdN 4 k = k + 1 := by unfold fdN; rw [if_pos rfl]
      rw [ek]
      refine ⟨by decide, ⟨⟨?_, ?_⟩, fun f hf => ?_, fun _ _ => by omega, fun _ _ => by omega, fun _ => by omega⟩⟩
      · rw [vset_at, if_neg (by omega), vset_same]
        omega
      · rw [vset_same]
      · by_cases hk : f = k
        · subst hk
          refine ⟨?_, ?_, ?_, ?_⟩
          · rw [vset_at, if_neg (by omega), vset_at, if_neg (by omega), vset_at, if_neg (by omega)]
            exact h1
          · rw [vset_at, if_neg (by omega), vset_at, if_neg (by omega), vset_at, if_neg (by omega)]
            exact h2
          · rw [vset_at, if_neg (by omega), vset_at, if_neg (by omega), vset_at, if_neg (by omega)]
            exact h3
          · rw [vset_at, if_neg (by omega), vset_at, if_neg (by omega), vset_same, ec, b]
        · refine rdC_fr (ha f (by omega)) (fun j hj => ?_)
          rw [vset_at, if_neg (by omega), vset_at, if_neg (by omega), vset_at, if_neg (by omega)]
  · subst e
    rw [nsS4, ← ec] at q
    have e33 : (vset V' 53 4 0) 53 3 = k := by
      rw [vset_at, if_neg (by omega)]
      exact e3
    rw [e33]
    have fr : frF V' (vset V' 53 4 0) := by
      intro c' j p p'
      rw [vset_at, if_neg (by omega)]
    refine ⟨fun z => absurd e4 z, fun _ => ⟨by omega, fun z => ?_, fun z => ⟨fun z2 => ?_, fun z2 => ?_⟩⟩⟩
    · refine q 0 _ (by omega) (by omega) fr (fun _ => ?_) (fun z => absurd rfl z)
      rw [if_neg (by omega)]
    · refine q 0 _ (by omega) (by omega) fr (fun _ => ?_) (fun z => absurd rfl z)
      rw [if_neg (by omega)]
    · rw [if_pos (by omega)] at q
      have ek : fdN 0 k = k := by unfold fdN; rw [if_neg (by decide)]
      rw [ek] at q
      refine q 1 _ (by omega) (by omega) fr (fun z => by omega) (fun _ => ⟨by decide, ⟨⟨e33, ?_⟩, fun f hf => ?_, fun _ _ => by omega, fun _ _ => by omega, fun _ => by omega⟩⟩)
      · rw [vset_same]
      · refine rdC_fr (ha f hf) (fun j hj => ?_)
        rw [vset_at, if_neg (by omega)]
theorem m_fault_L : ∀ (m : Nat) (st : Int) (k : Nat) (i : Int) (V' : zV), 0 ≤ i → i + m = V 1 1 → V 1 1 ≤ 40 → pgM V V' → ivP V st k i → ivM V V' st k → (∀ r V'', r = scP V m st k i → 0 ≤ r → r ≤ V 1 1 → frF V' V'' → (r = V 1 1 → V'' 53 4 = scT V m st k i ∧ V'' 53 3 = scK V m st k i ∧ ∀ f : Nat, f < scK V m st k i → rdC V V'' f) → Q r V'') → m12_faultOf_L12 Q (m + 1) i V'
  | 0, st, k, i, V', hi, hm, h40, hg, hv, hM, q => by
    have h1 := hg.1
    unfold m12_faultOf_L12
    refine ⟨by omega, fun z => q i V' rfl (by omega) (by omega) (frF_r V') (fun _ => ⟨hM.1.2, hM.1.1, hM.2.1⟩), fun z => by omega⟩
  | m + 1, st, k, i, V', hi, hm, h40, hg, hv, hM, q => by
    have h1 := hg.1
    have h2 := hg.2 i hi (by omega)
    have ih := fun V1 => m_fault_L m (nsS V st k i) (fdN (nsS V st k i) k) (i + 1) V1 (by omega) (by omega) h40
    clear m_fault_L
    rw [fdN_c] at ih
    rw [scP_s, scT_s, scK_s] at q
    unfold m12_faultOf_L12
    refine ⟨by omega, fun z => by omega, fun _ => ⟨by omega, ?_⟩⟩
    refine m_go hv hM h2.1 (by omega) (fun r V1 r1 r2 fr a b => ⟨by omega, fun z => ?_, fun z => ?_⟩)
    · rw [if_pos (a z)] at q
      exact q i V1 rfl (by omega) (by omega) fr (fun z => by omega)
    · obtain ⟨b1, b2⟩ := b z
      rw [if_neg b1, if_neg b1, if_neg b1] at q
      exact ih V1 (pgM_fr hg fr) (iv_step hv b1) b2 (fun r' V2 hr p1 p2 fr2 e => q r' V2 hr p1 p2 (frF_t fr fr2) e)
theorem m_fault (hp : 0 ≤ V 1 1 ∧ V 1 1 ≤ 40) (hg : pgM V V') (q : ∀ r V'', r = scP V (V 1 1).toNat 0 0 0 → 0 ≤ r → r ≤ V 1 1 → frF V' V'' → (r = V 1 1 → V'' 53 4 = scT V (V 1 1).toNat 0 0 0 ∧ V'' 53 3 = scK V (V 1 1).toNat 0 0 0 ∧ ∀ f : Nat, f < scK V (V 1 1).toNat 0 0 0 → rdC V V'' f) → Q r V'') : m12_faultOf V' Q := by
  have fr : frF V' (vset (vset V' 53 3 0) 53 4 0) := by
    intro c j a b
    rw [vset_at, if_neg (by omega), vset_at, if_neg (by omega)]
  refine ⟨(V 1 1).toNat + 1, m_fault_L (V := V) (V 1 1).toNat 0 0 0 _ (by omega) (by omega) hp.2 (pgM_fr hg fr) ⟨fun f hf => absurd hf (by omega), Or.inl ⟨rfl, by omega, rfl⟩⟩ ⟨⟨?_, ?_⟩, fun f hf => absurd hf (by omega), fun z => by omega, fun z => by omega, fun z => by omega⟩ (fun r V2 hr r1 r2 fr2 e => q r V2 hr r1 r2 (frF_t fr fr2) e)⟩
  · rw [vset_at, if_neg (by omega), vset_same]
    rfl
  · rw [vset_same]
theorem op_fault {S : List zC} {V : zV} {B n : Int} {s : zS} {K : zV → Prop} (I : zInv S V B n s) (k : ∀ V', zInv S V' B n s → K V') : m11_fault S V (fun r V1 => m12_fault V1 (fun r' V2 => inR r ∧ inR r' ∧ ((r = r' → K V2) ∧ (¬ r = r' → False)))) := by
  have hp : pP V := I.2.2.2.1
  unfold m11_fault
  refine x_scan hp (fun V1 e2 e3 fr => ?_)
  unfold m12_fault
  have f1 : fS V V1 := fun c j z => fr c j (by unfold sc at z; omega)
  have hg : pgM V V1 := by
    refine ⟨?_, fun i a b => ?_⟩
    · rw [fr 53 1 (by omega)]
      exact hp.1
    · rw [fr 54 _ (by omega)]
      exact hp.2.2 i a b
  refine m_fault hp.2.1 hg (fun r V2 hr r1 r2 f2 _ => fin2 e2 hr ?_ (k _ (zInv_fS I (fS_t f1 (fun c j z => f2 c j (by unfold sc at z; omega) (by unfold sc at z; omega))))))
  have := hp.2.1
  omega
end GOES
