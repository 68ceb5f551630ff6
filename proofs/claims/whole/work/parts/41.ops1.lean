/-! ===== who may harm whom ===== -/
def hmS (s : zS) (a b : Int) : Nat → Int → Int → Int
  | 0, _, x => x
  | m + 1, i, x => hmS s a b m (i + 1) (if bothS s i a b = 1 ∧ (x = -1 ∨ s 7 x < s 7 i) then i else x)
theorem hmS_s (s : zS) (a b : Int) (m : Nat) (i x : Int) : hmS s a b (m + 1) i x = hmS s a b m (i + 1) (if bothS s i a b = 1 ∧ (x = -1 ∨ s 7 x < s 7 i) then i else x) := rfl
def mhS (n : Int) (s : zS) (a b : Int) : Int := if s 2 a = 0 ∨ s 2 b = 0 then -1 else hmS s a b n.toNat 0 (-1)
theorem hmS_in (s : zS) (a b n : Int) : ∀ (m : Nat) (i x : Int), 0 ≤ i → i + m = n → -1 ≤ x ∧ x < n ∧ -1 < n → -1 ≤ hmS s a b m i x ∧ hmS s a b m i x < n ∨ hmS s a b m i x = -1
  | 0, i, x, _, _, h => by
    show -1 ≤ x ∧ x < n ∨ x = -1
    omega
  | m + 1, i, x, hi, hm, h => by
    rw [hmS_s]
    exact hmS_in s a b n m _ _ (by omega) (by omega) (by split <;> omega)
theorem mhS_in {n : Int} {s : zS} (w : zwf n s) (a b : Int) : -1 ≤ mhS n s a b ∧ mhS n s a b ≤ 8 := by
  have hn := wn w
  have q := hmS_in s a b n n.toNat 0 (-1) (by omega) (by omega) (by omega)
  unfold mhS
  split <;> omega
section HARM
variable {S : List zC} {V : zV} {o : Nat} {n : Int} {s : zS} {Q : Int → zV → Prop}
theorem x_harm_L (h : cX S V o n s) (w : zwf n s) {a b : Int} (ha : 0 ≤ a ∧ a < 6) (hb : 0 ≤ b ∧ b < 6) : ∀ (m : Nat) (x i : Int), 0 ≤ i → i + m = n → -1 ≤ x ∧ x < n → Q (hmS s a b m i x) V → m4_feudBetween_L25 S o Q (m + 1) a b x i V
  | 0, x, i, hi, hm, hx, k => by
    have hn := wn w
    have en := x_n h
    unfold m4_feudBetween_L25
    exact ⟨by omega, fun _ => k, fun c => by omega⟩
  | m + 1, x, i, hi, hm, hx, k => by
    have hn := wn w
    have en := x_n h
    have e7 := x_7 h (f := i) (by omega) (by omega)
    have b7 := w67 w (f := i) (by omega) (by omega)
    rw [hmS_s] at k
    have ih := fun x q => x_harm_L h w ha hb m x (i + 1) (by omega) (by omega) q
    clear x_harm_L
    unfold m4_feudBetween_L25
    refine ⟨by omega, fun c => by omega, fun _ => x_both h w (by omega) (by omega) (by omega) (fun r hr r1 r2 => ⟨by omega, fun d => ?_, fun d => ⟨by omega, fun e => ?_, fun e => ⟨by omega, by omega, ?_⟩⟩⟩)⟩
    · rw [if_neg (by omega)] at k
      exact ih x (by omega) k
    · rw [if_pos ⟨by omega, Or.inl e⟩] at k
      exact ih i (by omega) k
    · have e8 := x_7 h (f := x) (by omega) (by omega)
      have b8 := w67 w (f := x) (by omega) (by omega)
      rw [e7, e8]
      refine ⟨by omega, by omega, fun g => ?_, fun g => ?_⟩
      · rw [if_neg (by omega)] at k
        exact ih x (by omega) k
      · rw [if_pos ⟨by omega, Or.inr g⟩] at k
        exact ih i (by omega) k
theorem x_harmT (h : cX S V o n s) (w : zwf n s) {a b : Int} (ha : 0 ≤ a ∧ a < 6) (hb : 0 ≤ b ∧ b < 6) (k : ∀ r, r = mhS n s a b → -1 ≤ r → r ≤ 8 → Q r V) : m4_feudBetween S o V a b Q := by
  have hn := wn w
  have ea := x_2 h ha.1 ha.2
  have eb := x_2 h hb.1 hb.2
  have q := mhS_in w a b
  have k2 := k _ rfl q.1 q.2
  unfold mhS at k2
  unfold m4_feudBetween
  refine ⟨ha, fun c => ?_, fun c => ⟨hb, fun d => ⟨n.toNat + 1, ?_⟩, fun d => ?_⟩⟩
  · rw [if_pos (by omega)] at k2
    exact k2
  · rw [if_neg (by omega)] at k2
    exact x_harm_L h w ha hb _ _ _ (by omega) (by omega) (by omega) k2
  · rw [if_pos (by omega)] at k2
    exact k2
theorem m_harm_L (h : cM V n s) (w : zwf n s) {a b : Int} (ha : 0 ≤ a ∧ a < 6) (hb : 0 ≤ b ∧ b < 6) (l : ¬ (s 2 a = 0 ∨ s 2 b = 0)) : ∀ (m : Nat) (x i : Int), 0 ≤ i → i + m = n → -1 ≤ x ∧ x < n → Q (hmS s a b m i x) V → m12_harmOf_L5 Q (m + 1) a b x i V
  | 0, x, i, hi, hm, hx, k => by
    have hn := wn w
    have en := m_n h
    unfold m12_harmOf_L5
    exact ⟨by omega, fun _ => k, fun c => by omega⟩
  | m + 1, x, i, hi, hm, hx, k => by
    have hn := wn w
    have en := m_n h
    have e7 := m_7 h (f := i) (by omega) (by omega)
    have b7 := w67 w (f := i) (by omega) (by omega)
    rw [hmS_s] at k
    have ih := fun x q => m_harm_L h w ha hb l m x (i + 1) (by omega) (by omega) q
    clear m_harm_L
    unfold m12_harmOf_L5 m12_harmOf_J77
    refine ⟨by omega, fun c => by omega, fun _ => m_isAlive h w ha (fun r hr r1 r2 => ⟨by omega, fun d => by omega, fun d => m_isAlive h w hb (fun q hq q1 q2 => ⟨by omega, fun d => by omega, fun d => m_areOn h w (by omega) ha hb (fun z hz z1 z2 => ⟨by omega, fun g => ⟨by omega, fun _ => ?_, fun y => absurd rfl y⟩, fun g => ⟨by omega, fun e => ⟨by omega, fun y => by omega, fun _ => ?_⟩, fun e => ⟨by omega, by omega, ?_⟩⟩⟩)⟩)⟩)⟩
    · rw [if_neg (by omega)] at k
      exact ih x (by omega) k
    · rw [if_pos ⟨by omega, Or.inl e⟩] at k
      exact ih i (by omega) k
    · have e8 := m_7 h (f := x) (by omega) (by omega)
      have b8 := w67 w (f := x) (by omega) (by omega)
      rw [e7, e8]
      refine ⟨fun g2 => ⟨by omega, fun _ => ?_, fun y => absurd rfl y⟩, fun g2 => ⟨by omega, fun y => by omega, fun _ => ?_⟩⟩
      · rw [if_neg (by omega)] at k
        exact ih x (by omega) k
      · rw [if_pos ⟨by omega, Or.inr g2⟩] at k
        exact ih i (by omega) k
theorem m_harmT (h : cM V n s) (w : zwf n s) {a b : Int} (ha : 0 ≤ a ∧ a < 6) (hb : 0 ≤ b ∧ b < 6) (k : ∀ r, r = mhS n s a b → -1 ≤ r → r ≤ 8 → Q r V) : m12_harmOf V a b Q := by
  have hn := wn w
  have en := m_n h
  have q := mhS_in w a b
  have k2 := k _ rfl q.1 q.2
  unfold mhS at k2
  refine ⟨n.toNat + 1, ?_⟩
  by_cases c : s 2 a = 0 ∨ s 2 b = 0
  · rw [if_pos c] at k2
    unfold m12_harmOf_L5
    refine ⟨by omega, fun _ => k2, fun _ => m_isAlive h w ha (fun r hr r1 r2 => ⟨by omega, fun d => k2, fun d => m_isAlive h w hb (fun q hq q1 q2 => ⟨by omega, fun d => k2, fun d => by omega⟩)⟩)⟩
  · rw [if_neg c] at k2
    exact m_harm_L h w ha hb c _ _ _ (by omega) (by omega) (by omega) k2
end HARM
section OPS
variable {S : List zC} {V : zV} {B n : Int} {s : zS} {K : zV → Prop}
def abS (n : Int) (s : zS) (f q : Int) : Int := if ¬ (0 ≤ f ∧ f < n) then -101 else if q = 0 then s 6 f else if q = 1 then s 7 f else if q = 2 then s 5 f else if q = 3 then onS s (2 * f + 0) else if q = 4 then onS s (2 * f + 1) else if q = 5 then lenS s (2 * f + 0) else if q = 6 then lenS s (2 * f + 1) else if q = 7 then (if s 5 f = 1 then -1 else priS s f 0) else if q = 8 then (if s 5 f = 1 then -1 else priS s f 1) else -102
theorem x_about (h : cX S V 14 n s) (w : zwf n s) {f q : Int} (hf : inR f) (hq : inR q) {Q : Int → zV → Prop} (k : ∀ r, r = abS n s f q → -102 ≤ r → r ≤ 21 → Q r V) : m11_about S V f q Q := by
  have hn := wn w
  unfold m11_about
  refine x_isFeud (x_n h) hf (fun r hr r1 r2 => ⟨by omega, fun c => ?_, fun c => k _ ?_ (by omega) (by omega)⟩)
  · have c1 : 0 ≤ f ∧ f < n := by
      unfold isFS at hr
      split at hr <;> omega
    have e5 := x_5 h (f := f) (by omega) (by omega)
    have b5 := w5 w (f := f) (by omega) (by omega)
    have e6 := x_6 h c1.1 c1.2
    have e7 := x_7 h c1.1 c1.2
    have b6 := w67 w c1.1 c1.2
    have ab : abS n s f q = if q = 0 then s 6 f else if q = 1 then s 7 f else if q = 2 then s 5 f else if q = 3 then onS s (2 * f + 0) else if q = 4 then onS s (2 * f + 1) else if q = 5 then lenS s (2 * f + 0) else if q = 6 then lenS s (2 * f + 1) else if q = 7 then (if s 5 f = 1 then -1 else priS s f 0) else if q = 8 then (if s 5 f = 1 then -1 else priS s f 1) else -102 := by
      unfold abS
      rw [if_neg (fun z => z c1)]
    rw [ab] at k
    clear ab hr
    refine ⟨hq, fun d => ⟨by omega, ?_⟩, fun d => ⟨by omega, ?_⟩, fun d => ⟨by omega, fun g => ?_, fun g => ?_⟩, fun d => ?_, fun d => ?_, fun d => ?_, fun d => ?_, fun d => ?_, fun d => ?_, fun d => ?_⟩
    · subst d
      rw [e6]
      exact k _ (by simp) (by omega) (by omega)
    · subst d
      rw [e7]
      exact k _ (by simp) (by omega) (by omega)
    · subst d
      exact k _ (by simp; omega) (by omega) (by omega)
    · subst d
      exact k _ (by simp; omega) (by omega) (by omega)
    · subst d
      exact x_onSide h w (by omega) (by omega) (fun r hr _ _ => k _ (by rw [hr]; simp) (by omega) (by omega))
    · subst d
      exact x_onSide h w (by omega) (by omega) (fun r hr _ _ => k _ (by rw [hr]; simp) (by omega) (by omega))
    · subst d
      exact x_lenderOf h w (by omega) (by omega) (fun r hr _ _ => k _ (by rw [hr]; simp) (by omega) (by omega))
    · subst d
      exact x_lenderOf h w (by omega) (by omega) (fun r hr _ _ => k _ (by rw [hr]; simp) (by omega) (by omega))
    · subst d
      exact x_told h w (by omega) (by omega) (fun r hr _ _ => k _ (by rw [hr]; simp) (by omega) (by omega))
    · subst d
      exact x_told h w (by omega) (by omega) (fun r hr _ _ => k _ (by rw [hr]; simp) (by omega) (by omega))
    · refine k _ ?_ (by omega) (by omega)
      rw [if_neg (by omega), if_neg (by omega), if_neg (by omega), if_neg (by omega), if_neg (by omega), if_neg (by omega), if_neg (by omega), if_neg (by omega), if_neg (by omega)]
  · unfold isFS at hr
    unfold abS
    rw [if_pos]
    intro z
    rw [if_pos z] at hr
    omega
theorem m_tell (h : cM V n s) (w : zwf n s) {f q : Int} (c1 : 0 ≤ f ∧ f < n) (hq : inR q) {Q : Int → zV → Prop} (k : ∀ r, r = abS n s f q → -102 ≤ r → r ≤ 21 → Q r V) : m12_tell V f q Q := by
  have hn := wn w
  have e5 := m_5 h (f := f) (by omega) (by omega)
  have b5 := w5 w (f := f) (by omega) (by omega)
  have e6 := m_6 h c1.1 c1.2
  have e7 := m_7 h c1.1 c1.2
  have b6 := w67 w c1.1 c1.2
  have ab : abS n s f q = if q = 0 then s 6 f else if q = 1 then s 7 f else if q = 2 then s 5 f else if q = 3 then onS s (2 * f + 0) else if q = 4 then onS s (2 * f + 1) else if q = 5 then lenS s (2 * f + 0) else if q = 6 then lenS s (2 * f + 1) else if q = 7 then (if s 5 f = 1 then -1 else priS s f 0) else if q = 8 then (if s 5 f = 1 then -1 else priS s f 1) else -102 := by
    unfold abS
    rw [if_neg (fun z => z c1)]
  rw [ab] at k
  clear ab
  unfold m12_tell
  refine ⟨hq, fun d => ⟨by omega, ?_⟩, fun d => ⟨by omega, ?_⟩, fun d => ⟨by omega, ?_⟩, fun d => ?_, fun d => ?_, fun d => ?_, fun d => ?_, fun d => ?_, fun d => ?_, fun d => ?_⟩
  · subst d
    rw [Int.add_zero, e6]
    exact k _ (by simp) (by omega) (by omega)
  · subst d
    rw [e7]
    exact k _ (by simp) (by omega) (by omega)
  · subst d
    rw [e5]
    exact k _ (by simp) (by omega) (by omega)
  · subst d
    exact m_onSide h w (by omega) (by omega) (fun r hr _ _ => k _ (by rw [hr]; simp) (by omega) (by omega))
  · subst d
    exact m_onSide h w (by omega) (by omega) (fun r hr _ _ => k _ (by rw [hr]; simp) (by omega) (by omega))
  · subst d
    refine m_borrowerOf h w (by omega) (by omega) (fun r hr _ _ => ⟨by omega, fun g => m_ownerOf h w (by omega) (by omega) (fun r2 hr2 _ _ => k _ ?_ (by omega) (by omega)), fun g => k _ ?_ (by omega) (by omega)⟩)
    · rw [hr] at g
      rw [hr2]
      simp [lenS]
      simp at g
      intro z
      exact absurd z g
    · rw [hr] at g
      simp [lenS]
      simp at g
      intro z
      exact absurd g z
  · subst d
    refine m_borrowerOf h w (by omega) (by omega) (fun r hr _ _ => ⟨by omega, fun g => m_ownerOf h w (by omega) (by omega) (fun r2 hr2 _ _ => k _ ?_ (by omega) (by omega)), fun g => k _ ?_ (by omega) (by omega)⟩)
    · rw [hr] at g
      rw [hr2]
      simp [lenS]
      simp at g
      intro z
      exact absurd z g
    · rw [hr] at g
      simp [lenS]
      simp at g
      intro z
      exact absurd g z
  · subst d
    refine m_isStruck h w (by omega) (fun r hr _ _ => ⟨by omega, fun g => m_price h w (by omega) (by omega) (fun r2 hr2 _ _ => k _ ?_ (by omega) (by omega)), fun g => k _ ?_ (by omega) (by omega)⟩)
    · rw [hr2]
      simp
      intro z
      omega
    · simp
      intro z
      omega
  · subst d
    refine m_isStruck h w (by omega) (fun r hr _ _ => ⟨by omega, fun g => m_price h w (by omega) (by omega) (fun r2 hr2 _ _ => k _ ?_ (by omega) (by omega)), fun g => k _ ?_ (by omega) (by omega)⟩)
    · rw [hr2]
      simp
      intro z
      omega
    · simp
      intro z
      omega
  · refine k _ ?_ (by omega) (by omega)
    rw [if_neg (by omega), if_neg (by omega), if_neg (by omega), if_neg (by omega), if_neg (by omega), if_neg (by omega), if_neg (by omega), if_neg (by omega), if_neg (by omega)]
theorem m_about (h : cM V n s) (w : zwf n s) {f q : Int} (hf : inR f) (hq : inR q) {Q : Int → zV → Prop} (k : ∀ r, r = abS n s f q → -102 ≤ r → r ≤ 21 → Q r V) : m12_about V f q Q := by
  have hn := wn w
  unfold m12_about
  refine m_isFeud (m_n h) hn hf (fun r hr r1 r2 => ⟨by omega, fun c => k _ ?_ (by omega) (by omega), fun c => m_tell h w ?_ hq k⟩)
  · unfold isFS at hr
    unfold abS
    rw [if_pos]
    intro z
    rw [if_pos z] at hr
    omega
  · unfold isFS at hr
    split at hr <;> omega
theorem op_about (I : zInv S V B n s) {a b : Int} (ha : inR a) (hb : inR b) (k : zInv S V B n s → K V) : m11_about S V a b (fun r V1 => m12_about V1 a b (fun r' V2 => inR r ∧ inR r' ∧ ((r = r' → K V2) ∧ (¬ r = r' → False)))) := by
  obtain ⟨w, x, m, _⟩ := id I
  exact x_about x w ha hb (fun r hr r1 r2 => m_about m w ha hb (fun r' hr' _ _ => fin2 hr hr' (by omega) (k I)))
end OPS
