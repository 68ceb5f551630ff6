/-! ===== what holds between two calls ===== -/
def rowsE (V : zV) (cnt : Int) (a b c : Nat) : Prop := ∀ k : Int, 0 ≤ k → k < cnt → V a k.toNat = V c (2 * k).toNat ∧ V b k.toNat = V c (2 * k + 1).toNat ∧ (0 ≤ V a k.toNat ∧ V a k.toNat < 6) ∧ (0 ≤ V b k.toNat ∧ V b k.toNat < 6)
def pP (V : zV) : Prop := V 53 1 = V 1 1 ∧ (0 ≤ V 1 1 ∧ V 1 1 ≤ 40) ∧ ∀ k : Int, 0 ≤ k → k < V 1 1 → V 54 k.toNat = V 2 k.toNat ∧ 1 ≤ V 2 k.toNat ∧ V 2 k.toNat ≤ 126
def pH (V : zV) : Prop := V 53 9 = V 14 9 ∧ (0 ≤ V 14 9 ∧ V 14 9 ≤ 12) ∧ rowsE V (V 14 9) 21 22 58
def pR (V : zV) : Prop := V 53 15 = V 14 12 ∧ (0 ≤ V 14 12 ∧ V 14 12 ≤ 8) ∧ rowsE V (V 14 12) 23 24 63
def cK (V : zV) (n : Int) (s : zS) : Prop := cM (vrow (vrow V 56 (V 64)) 57 (V 65)) n s
def pI (S : List zC) (V : zV) (n : Int) : Prop := V 53 6 = V 0 9 ∧ ((V 0 8 = 0 ∧ V 53 18 < V 53 6) ∨ (V 0 8 = 1 ∧ V 53 18 = V 53 6 ∧ ∃ s, zwf n s ∧ cX S V 25 n s ∧ cK V n s ∧ (V 53 19 = V 25 9 ∧ (0 ≤ V 25 9 ∧ V 25 9 ≤ 12) ∧ rowsE V (V 25 9) 32 33 66) ∧ (V 53 20 = V 25 12 ∧ (0 ≤ V 25 12 ∧ V 25 12 ≤ 8) ∧ rowsE V (V 25 12) 34 35 67)))
/-- the list of feuds, as it lies -/
def pS (S : List zC) (n : Int) (B : Int) : Prop := (68 ≤ (S.length : Int) ∧ (S.length : Int) ≤ 68 + 2 * B ∧ B ≤ 1000) ∧ (∃ rf, S[4]? = some (16, 8, rf))
def zInv (S : List zC) (V : zV) (B n : Int) (s : zS) : Prop := zwf n s ∧ cX S V 14 n s ∧ cM V n s ∧ pP V ∧ pH V ∧ pR V ∧ pI S V n ∧ pS S n B ∧ (0 ≤ V 0 9 ∧ V 0 9 ≤ B)
def sc (c k : Nat) : Prop := (c = 1 ∧ (k = 2 ∨ k = 3)) ∨ (36 ≤ c ∧ c ≤ 52) ∨ (c = 53 ∧ (k = 3 ∨ k = 4 ∨ k = 17 ∨ k = 25)) ∨ c = 55 ∨ (59 ≤ c ∧ c ≤ 62)
def fS (V V' : zV) : Prop := ∀ c k, ¬ sc c k → V' c k = V c k
theorem fS_r (V : zV) : fS V V := fun _ _ _ => rfl
theorem fS_t {V V1 V2 : zV} (h : fS V V1) (k : fS V1 V2) : fS V V2 := fun c j q => (k c j q).trans (h c j q)
theorem fS_s {V V1 : zV} (h : fS V V1) {c k : Nat} {x : Int} (a : sc c k) : fS V (vset V1 c k x) := by
  intro c' k' q
  rw [vset_at, if_neg]
  · exact h c' k' q
  · intro e
    rw [e.1, e.2] at q
    exact q a
theorem cX_fr {S : List zC} {V V' : zV} {o : Nat} {n : Int} {s : zS} (h : cX S V o n s) (e : V' 3 2 = V 3 2) (f : ∀ c j, o + 1 ≤ c → c ≤ o + 6 → V' c j = V c j) : cX S V' o n s := by
  refine ⟨e.trans (x_n h), h.2.1, fun p a b => ?_, fun p a b => ?_, fun p a b => ?_⟩
  · rw [f _ _ (by omega) (by omega), f _ _ (by omega) (by omega), f _ _ (by omega) (by omega)]
    exact ⟨x_0 h a b, x_1 h a b, x_2 h a b⟩
  · rw [f _ _ (by omega) (by omega), f _ _ (by omega) (by omega)]
    exact ⟨x_3 h a b, x_4 h a b⟩
  · rw [f _ _ (by omega) (by omega)]
    exact x_5 h a b
theorem cM_fr {V V' : zV} {n : Int} {s : zS} (h : cM V n s) (e : V' 53 5 = V 53 5) (f : ∀ j, V' 56 j = V 56 j) (g : ∀ j, V' 57 j = V 57 j) : cM V' n s := by
  refine ⟨e.trans (m_n h), fun p a b => ?_, fun p a b => ?_, fun p t a b c d => ?_⟩
  · rw [g, g, g]
    exact ⟨m_0 h a b, m_1 h a b, m_2 h a b⟩
  · rw [f, f, f]
    exact ⟨m_6 h a b, m_7 h a b, m_5 h a b⟩
  · rw [f, f]
    exact ⟨m_3 h a b ⟨c, d⟩, m_4 h a b ⟨c, d⟩⟩
theorem rowsE_fr {V V' : zV} {x y : Int} {a b c : Nat} (h : rowsE V x a b c) (e : y = x) (fa : ∀ j, V' a j = V a j) (fb : ∀ j, V' b j = V b j) (fc : ∀ j, V' c j = V c j) : rowsE V' y a b c := by
  intro k p q
  rw [fa, fb, fc, fc]
  exact h k p (by omega)
theorem pP_fr {V V' : zV} (h : pP V) (a : V' 53 1 = V 53 1) (b : V' 1 1 = V 1 1) (c : ∀ j, V' 54 j = V 54 j) (d : ∀ j, V' 2 j = V 2 j) : pP V' := by
  unfold pP
  rw [a, b]
  refine ⟨h.1, h.2.1, fun k p q => ?_⟩
  rw [c, d]
  exact h.2.2 k p q
theorem pH_fr {V V' : zV} (h : pH V) (a : V' 53 9 = V 53 9) (b : V' 14 9 = V 14 9) (c : ∀ j, V' 21 j = V 21 j) (d : ∀ j, V' 22 j = V 22 j) (e : ∀ j, V' 58 j = V 58 j) : pH V' := by
  unfold pH
  rw [a, b]
  exact ⟨h.1, h.2.1, rowsE_fr h.2.2 rfl c d e⟩
theorem pR_fr {V V' : zV} (h : pR V) (a : V' 53 15 = V 53 15) (b : V' 14 12 = V 14 12) (c : ∀ j, V' 23 j = V 23 j) (d : ∀ j, V' 24 j = V 24 j) (e : ∀ j, V' 63 j = V 63 j) : pR V' := by
  unfold pR
  rw [a, b]
  exact ⟨h.1, h.2.1, rowsE_fr h.2.2 rfl c d e⟩
/-- the places that the kept image lives at -/
def icell (c k : Nat) : Prop := (c = 0) ∨ (c = 3 ∧ k = 2) ∨ (25 ≤ c ∧ c ≤ 35) ∨ (c = 53 ∧ (k = 5 ∨ k = 6 ∨ k = 18 ∨ k = 19 ∨ k = 20)) ∨ (64 ≤ c ∧ c ≤ 67)
theorem pI_fr {S : List zC} {V V' : zV} {n : Int} (h : pI S V n) (f : ∀ c k, icell c k → V' c k = V c k) : pI S V' n := by
  unfold pI
  rw [f 53 6 (by unfold icell; omega), f 0 9 (by unfold icell; omega), f 0 8 (by unfold icell; omega), f 53 18 (by unfold icell; omega), f 53 19 (by unfold icell; omega), f 53 20 (by unfold icell; omega), f 25 9 (by unfold icell; omega), f 25 12 (by unfold icell; omega)]
  refine ⟨h.1, ?_⟩
  rcases h.2 with a | ⟨a, b, s, w, x, m, hh, hr⟩
  · exact Or.inl a
  · refine Or.inr ⟨a, b, s, w, cX_fr x (f _ _ (by unfold icell; omega)) (fun c j p q => f _ _ (by unfold icell; omega)), cM_fr m ?_ (fun j => ?_) (fun j => ?_), ⟨hh.1, hh.2.1, rowsE_fr hh.2.2 rfl (fun j => f _ _ (by unfold icell; omega)) (fun j => f _ _ (by unfold icell; omega)) (fun j => f _ _ (by unfold icell; omega))⟩, hr.1, hr.2.1, rowsE_fr hr.2.2 rfl (fun j => f _ _ (by unfold icell; omega)) (fun j => f _ _ (by unfold icell; omega)) (fun j => f _ _ (by unfold icell; omega))⟩
    · rw [vrow_n (by decide), vrow_n (by decide), vrow_n (by decide), vrow_n (by decide)]
      exact f _ _ (by unfold icell; omega)
    · rw [vrow_n (by decide), vrow_s, vrow_n (by decide), vrow_s]
      exact f _ _ (by unfold icell; omega)
    · rw [vrow_s, vrow_s]
      exact f _ _ (by unfold icell; omega)
theorem zInv_fS {S : List zC} {V V' : zV} {B n : Int} {s : zS} (h : zInv S V B n s) (f : fS V V') : zInv S V' B n s := by
  obtain ⟨w, x, m, p, hh, hr, i, q, l⟩ := h
  have g : ∀ c k, ¬ sc c k → V' c k = V c k := f
  refine ⟨w, cX_fr x (g _ _ (by unfold sc; omega)) (fun c j _ _ => g _ _ (by unfold sc; omega)), cM_fr m (g _ _ (by unfold sc; omega)) (fun j => g _ _ (by unfold sc; omega)) (fun j => g _ _ (by unfold sc; omega)), pP_fr p (g _ _ (by unfold sc; omega)) (g _ _ (by unfold sc; omega)) (fun j => g _ _ (by unfold sc; omega)) (fun j => g _ _ (by unfold sc; omega)), pH_fr hh (g _ _ (by unfold sc; omega)) (g _ _ (by unfold sc; omega)) (fun j => g _ _ (by unfold sc; omega)) (fun j => g _ _ (by unfold sc; omega)) (fun j => g _ _ (by unfold sc; omega)), pR_fr hr (g _ _ (by unfold sc; omega)) (g _ _ (by unfold sc; omega)) (fun j => g _ _ (by unfold sc; omega)) (fun j => g _ _ (by unfold sc; omega)) (fun j => g _ _ (by unfold sc; omega)), pI_fr i (fun c k z => g _ _ (by unfold icell at z; unfold sc; omega)), q, ?_⟩
  rw [g 0 9 (by unfold sc; omega)]
  exact l
/-- an isle has changed on both sides, and nothing else -/
theorem zInv_isle {S : List zC} {V V1 V2 : zV} {B n : Int} {s s' : zS} (h : zInv S V B n s) (w' : zwf n s') (x : cX S V1 14 n s') (f1 : frX 14 V V1) (m : cM V2 n s') (f2 : frM V1 V2) : zInv S V2 B n s' := by
  obtain ⟨w, _, _, p, hh, hr, i, q, l⟩ := h
  have g : ∀ c k, ¬ (15 ≤ c ∧ c ≤ 20) → c ≠ 56 → c ≠ 57 → V2 c k = V c k := fun c k a b d => (f2 c k b d).trans (f1 c k (by omega))
  refine ⟨w', cX_fr x (f2 _ _ (by omega) (by omega)) (fun c j _ _ => f2 _ _ (by omega) (by omega)), m, pP_fr p (g _ _ (by omega) (by omega) (by omega)) (g _ _ (by omega) (by omega) (by omega)) (fun j => g _ _ (by omega) (by omega) (by omega)) (fun j => g _ _ (by omega) (by omega) (by omega)), pH_fr hh (g _ _ (by omega) (by omega) (by omega)) (g _ _ (by omega) (by omega) (by omega)) (fun j => g _ _ (by omega) (by omega) (by omega)) (fun j => g _ _ (by omega) (by omega) (by omega)) (fun j => g _ _ (by omega) (by omega) (by omega)), pR_fr hr (g _ _ (by omega) (by omega) (by omega)) (g _ _ (by omega) (by omega) (by omega)) (fun j => g _ _ (by omega) (by omega) (by omega)) (fun j => g _ _ (by omega) (by omega) (by omega)) (fun j => g _ _ (by omega) (by omega) (by omega)), pI_fr i (fun c k z => g _ _ (by unfold icell at z; omega) (by unfold icell at z; omega) (by unfold icell at z; omega)), q, ?_⟩
  rw [g 0 9 (by omega) (by omega) (by omega)]
  exact l
theorem fin2 {r r' x : Int} {K : Prop} (h : r = x) (h' : r' = x) (b : inR x) (k : K) : inR r ∧ inR r' ∧ ((r = r' → K) ∧ (¬ r = r' → False)) := by
  subst h
  subst h'
  exact ⟨b, b, fun _ => k, fun z => z rfl⟩
/-! ===== who is asked for ===== -/
def isPS (a : Int) : Int := if 0 ≤ a ∧ a < 6 then 1 else 0
def isFS (n a : Int) : Int := if 0 ≤ a ∧ a < n then 1 else 0
def isBS (a : Int) : Int := if a = 0 ∨ a = 1 then 1 else 0
def twoS (a b : Int) : Int := if (0 ≤ a ∧ a < 6) ∧ (0 ≤ b ∧ b < 6) ∧ a ≠ b then 1 else 0
section ASK
variable {S : List zC} {V : zV} {n : Int} {s : zS} {Q : Int → zV → Prop}
theorem x_isPerson  {a : Int} (ha : inR a) (k : ∀ r, r = isPS a → 0 ≤ r → r ≤ 1 → Q r V) : m11_isPerson S V a Q := by
  unfold m11_isPerson
  (repeat' (first | omega | with_reducible apply And.intro | intro _ | with_reducible apply k)) <;> (simp only [isPS] at *; (repeat' split at *) <;> omega)
theorem m_isPerson  {a : Int} (ha : inR a) (k : ∀ r, r = isPS a → 0 ≤ r → r ≤ 1 → Q r V) : m12_isPerson V a Q := by
  unfold m12_isPerson
  (repeat' (first | omega | with_reducible apply And.intro | intro _ | with_reducible refine m_in ha (by omega) (by omega) ?_ | with_reducible apply k)) <;> (simp only [isPS] at *; (repeat' split at *) <;> omega)
theorem x_isFeud  (en : V 3 2 = n) {a : Int} (ha : inR a) (k : ∀ r, r = isFS n a → 0 ≤ r → r ≤ 1 → Q r V) : m11_isFeud S V a Q := by
  unfold m11_isFeud
  (repeat' (first | omega | with_reducible apply And.intro | intro _ | with_reducible apply k)) <;> (simp only [isFS] at *; (repeat' split at *) <;> omega)
theorem m_isFeud  (en : V 53 5 = n) (hn : 0 ≤ n ∧ n ≤ 8) {a : Int} (ha : inR a) (k : ∀ r, r = isFS n a → 0 ≤ r → r ≤ 1 → Q r V) : m12_isFeud V a Q := by
  unfold m12_isFeud
  (repeat' (first | omega | with_reducible apply And.intro | intro _ | with_reducible refine m_in ha (by omega) (by omega) ?_ | with_reducible apply k)) <;> (simp only [isFS] at *; (repeat' split at *) <;> omega)
theorem x_isBit  {a : Int} (ha : inR a) (k : ∀ r, r = isBS a → 0 ≤ r → r ≤ 1 → Q r V) : m11_isBit S V a Q := by
  unfold m11_isBit
  (repeat' (first | omega | with_reducible apply And.intro | intro _ | with_reducible apply k)) <;> (simp only [isBS] at *; (repeat' split at *) <;> omega)
theorem x_two  {a b : Int} (ha : inR a) (hb : inR b) (k : ∀ r, r = twoS a b → 0 ≤ r → r ≤ 1 → Q r V) : m11_areTwo S V a b Q := by
  unfold m11_areTwo
  (repeat' (first | omega | with_reducible apply And.intro | intro _ | with_reducible refine x_isPerson ha ?_ | with_reducible refine x_isPerson hb ?_ | with_reducible apply k)) <;> (simp only [isPS, twoS] at *; (repeat' split at *) <;> omega)
theorem m_two  {a b : Int} (ha : inR a) (hb : inR b) (k : ∀ r, r = twoS a b → 0 ≤ r → r ≤ 1 → Q r V) : m12_arePair V a b Q := by
  unfold m12_arePair
  (repeat' (first | omega | with_reducible apply And.intro | intro _ | with_reducible refine m_isPerson ha ?_ | with_reducible refine m_isPerson hb ?_ | with_reducible apply k)) <;> (simp only [isPS, twoS] at *; (repeat' split at *) <;> omega)
theorem x_hasList  (en : V 3 2 = n) (k : ∀ r, r = (if 0 < n then 1 else 0) → 0 ≤ r → r ≤ 1 → Q r V) : m11_hasList S V Q := by
  unfold m11_hasList
  (repeat' (first | omega | with_reducible apply And.intro | intro _ | with_reducible apply k)) <;> ((repeat' split at *) <;> omega)
theorem m_lacks  (en : V 53 5 = n) (hn : 0 ≤ n) (k : ∀ r, r = (if 0 < n then 0 else 1) → 0 ≤ r → r ≤ 1 → Q r V) : m12_lacks V Q := by
  unfold m12_lacks
  (repeat' (first | omega | with_reducible apply And.intro | intro _ | with_reducible apply k)) <;> ((repeat' split at *) <;> omega)
end ASK
