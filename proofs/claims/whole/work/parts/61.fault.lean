/-! ===== reading the page ===== -/
def cdS (V : zV) (i : Int) : Int := V 2 i.toNat
def nsS (V : zV) (st k i : Int) : Int := if st = 0 then (if kindL (cdS V i) ≠ 0 then 1 else if 48 ≤ cdS V i ∧ cdS V i ≤ 53 then 2 else -1) else if st = 1 then (if 48 ≤ cdS V i ∧ cdS V i ≤ 53 then 2 else -1) else if st = 2 then (if 48 ≤ cdS V i ∧ cdS V i ≤ 53 ∧ cdS V i ≠ cdS V (i - 1) then 3 else -1) else if st = 3 then (if 49 ≤ cdS V i ∧ cdS V i ≤ 57 then 4 else -1) else (if cdS V i = 44 ∧ k < 8 then 0 else -1)
def fdS (st k : Int) : Int := if st = 4 then k + 1 else k
def scP (V : zV) : Nat → Int → Int → Int → Int
  | 0, _, _, i => i
  | m + 1, st, k, i => if nsS V st k i = -1 then i else scP V m (nsS V st k i) (fdS (nsS V st k i) k) (i + 1)
def scT (V : zV) : Nat → Int → Int → Int → Int
  | 0, st, _, _ => st
  | m + 1, st, k, i => if nsS V st k i = -1 then st else scT V m (nsS V st k i) (fdS (nsS V st k i) k) (i + 1)
theorem scP_s (V : zV) (m : Nat) (st k i : Int) : scP V (m + 1) st k i = if nsS V st k i = -1 then i else scP V m (nsS V st k i) (fdS (nsS V st k i) k) (i + 1) := rfl
theorem scT_s (V : zV) (m : Nat) (st k i : Int) : scT V (m + 1) st k i = if nsS V st k i = -1 then st else scT V m (nsS V st k i) (fdS (nsS V st k i) k) (i + 1) := rfl
theorem nsS_in (V : zV) (st k i : Int) : -1 ≤ nsS V st k i ∧ nsS V st k i ≤ 4 := by
  unfold nsS
  (repeat' split) <;> omega
theorem kindL_in (c : Int) : 0 ≤ kindL c ∧ kindL c ≤ 4 := by
  unfold kindL
  (repeat' split) <;> omega
section FAULT
variable {S : List zC} {V : zV} {Q : Int → zV → Prop}
theorem x_codeAt (hp : pP V) {i : Int} (hi : 0 ≤ i ∧ i < V 1 1) (k : ∀ r, r = cdS V i → 1 ≤ r → r ≤ 126 → Q r V) : m8_codeAt V i Q := by
  obtain ⟨_, hc, hr⟩ := hp
  have q := hr i hi.1 hi.2
  unfold m8_codeAt
  exact ⟨by omega, fun z => by omega, fun _ => ⟨fun z => by omega, fun _ => ⟨by omega, k _ rfl (by omega) (by omega)⟩⟩⟩
theorem x_names {c : Int} (hc : inR c) (k : ∀ r, r = (if 48 ≤ c ∧ c ≤ 53 then 1 else 0) → 0 ≤ r → r ≤ 1 → Q r V) : m8_namesPerson V c Q := by
  unfold m8_namesPerson
  (repeat' (first | omega | with_reducible apply And.intro | intro _ | with_reducible apply k)) <;> ((repeat' split at *) <;> omega)
theorem x_behind (hp : pP V) {st f i : Int} (hst : 0 ≤ st ∧ st ≤ 4) (hi : 0 ≤ i ∧ i < V 1 1) (hf : inR f) (h2 : st = 2 → 1 ≤ i) (k : ∀ r, r = nsS V st f i → -1 ≤ r → r ≤ 4 → Q r V) : m8_stageBehind V st i f Q := by
  unfold nsS at k
  unfold m8_stageBehind m10_kindOfLetter
  refine x_codeAt hp hi (fun c hc c1 c2 => ?_)
  have kl := kindL_in c
  rw [← hc] at k
  refine ⟨by omega, fun d => ⟨by omega, by omega, fun e => x_names (by omega) (fun r hr r1 r2 => ⟨by omega, fun g => k _ ?_ (by omega) (by omega), fun g => k _ ?_ (by omega) (by omega)⟩), fun e => k _ ?_ (by omega) (by omega)⟩, fun d => x_names (by omega) (fun r hr r1 r2 => ⟨by omega, fun g => k _ ?_ (by omega) (by omega), fun g => k _ ?_ (by omega) (by omega)⟩), fun d => x_names (by omega) (fun r hr r1 r2 => ⟨by omega, fun g => k _ ?_ (by omega) (by omega), fun g => x_codeAt hp (by have := h2 d; omega) (fun c' hc' c1' c2' => ⟨by omega, by omega, fun e => k _ ?_ (by omega) (by omega), fun e => k _ ?_ (by omega) (by omega)⟩)⟩), fun d => ⟨by omega, fun e => k _ ?_ (by omega) (by omega), fun e => ⟨fun g => k _ ?_ (by omega) (by omega), fun g => k _ ?_ (by omega) (by omega)⟩⟩, fun d => ⟨by omega, fun e => k _ ?_ (by omega) (by omega), fun e => ⟨hf, fun g => k _ ?_ (by omega) (by omega), fun g => k _ ?_ (by omega) (by omega)⟩⟩⟩
  all_goals ((repeat' split at *) <;> omega)
theorem x_scan_L (hp : pP V) {Q : zV → Prop} : ∀ (m : Nat) (st f i : Int), 0 ≤ i → i + m = V 1 1 → 0 ≤ st ∧ st ≤ 4 → 0 ≤ f ∧ f ≤ i → (st = 2 → 1 ≤ i) → (∀ V', V' 1 2 = scP V m st f i → V' 1 3 = scT V m st f i → (∀ c j, ¬ (c = 1 ∧ (j = 2 ∨ j = 3)) → V' c j = V c j) → Q V') → m8_scan_L6 Q (m + 1) st f i V
  | 0, st, f, i, hi, hm, hst, hf, h2, k => by
    have hc := hp.2.1
    unfold m8_scan_L6
    refine ⟨by omega, fun _ => ⟨by omega, k _ ?_ ?_ (fun c j z => ?_)⟩, fun z => by omega⟩
    · rw [vset_place (by decide), vset_same]; rfl
    · rw [vset_same]; rfl
    · rw [vset_at, if_neg (by omega), vset_at, if_neg (by omega)]
  | m + 1, st, f, i, hi, hm, hst, hf, h2, k => by
    have hc := hp.2.1
    have nb := nsS_in V st f i
    rw [scP_s, scT_s] at k
    have ih := fun st' f' a b c d => x_scan_L hp (Q := Q) m st' f' (i + 1) (by omega) (by omega) a b c d
    clear x_scan_L
    have n2 : nsS V st f i = 2 → 1 ≤ i + 1 := fun _ => by omega
    unfold m8_scan_L6
    refine ⟨by omega, fun z => by omega, fun _ => x_behind hp hst (by omega) (by omega) h2 (fun r hr r1 r2 => ⟨by omega, fun d => ⟨fun e => ?_, fun e => ?_⟩, fun d => ⟨by omega, ?_⟩⟩)⟩
    · rw [if_neg (by omega), if_neg (by omega)] at k
      have ef : fdS (nsS V st f i) f = f := by unfold fdS; rw [if_neg (by omega)]
      rw [ef, ← hr] at k
      exact ih r f (by omega) (by omega) (by omega) k
    · rw [if_neg (by omega), if_neg (by omega)] at k
      have ef : fdS (nsS V st f i) f = f + 1 := by unfold fdS; rw [if_pos (by omega)]
      rw [ef, ← hr] at k
      exact ih r (f + 1) (by omega) (by omega) (by omega) k
    · rw [if_pos (by omega), if_pos (by omega)] at k
      refine k _ ?_ ?_ (fun c j z => ?_)
      · rw [vset_place (by decide), vset_same]
      · rw [vset_same]
      · rw [vset_at, if_neg (by omega), vset_at, if_neg (by omega)]
theorem x_scan (hp : pP V) {Q : zV → Prop} (k : ∀ V', V' 1 2 = scP V (V 1 1).toNat 0 0 0 → V' 1 3 = scT V (V 1 1).toNat 0 0 0 → (∀ c j, ¬ (c = 1 ∧ (j = 2 ∨ j = 3)) → V' c j = V c j) → Q V') : m8_scan V Q := by
  have hc := hp.2.1
  exact ⟨(V 1 1).toNat + 1, x_scan_L hp (V 1 1).toNat 0 0 0 (by omega) (by omega) (by omega) (by omega) (by omega) k⟩
end FAULT
