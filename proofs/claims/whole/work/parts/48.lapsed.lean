/-! ===== the lapsed feud ===== -/
def regS (V : zV) (a b : Int) (n : Int) (s : zS) (i : Int) : Int := if (V 23 i.toNat = a ∧ V 24 i.toNat = b) ∨ (V 23 i.toNat = b ∧ V 24 i.toNat = a) ∨ ¬ tBo n s (V 23 i.toNat) (V 24 i.toNat) = 0 then 1 else 0
def fitS (V : zV) (n : Int) (s : zS) (a b : Int) : Nat → Int → Int
  | 0, _ => 1
  | m + 1, i => if regS V a b n s i = 1 then fitS V n s a b m (i + 1) else 0
theorem fitS_s (V : zV) (n : Int) (s : zS) (a b : Int) (m : Nat) (i : Int) : fitS V n s a b (m + 1) i = if regS V a b n s i = 1 then fitS V n s a b m (i + 1) else 0 := rfl
def fitT (V : zV) (n : Int) (s : zS) (a b : Int) : Int := fitS V n s a b (V 14 12).toNat 0
theorem fitS_in (V : zV) (n : Int) (s : zS) (a b : Int) : ∀ (m : Nat) (i : Int), fitS V n s a b m i = 0 ∨ fitS V n s a b m i = 1
  | 0, _ => Or.inr rfl
  | m + 1, i => by
    rw [fitS_s]
    split
    · exact fitS_in V n s a b m (i + 1)
    · exact Or.inl rfl
section LAP
variable {S : List zC} {V : zV} {B n : Int} {s : zS} {Q : Int → zV → Prop} {K : zV → Prop}
theorem x_fit_L (h : cX S V 14 n s) (w : zwf n s) (hc : 0 ≤ V 14 12 ∧ V 14 12 ≤ 8) (hr : rowsE V (V 14 12) 23 24 63) {a b : Int} (ha : 0 ≤ a ∧ a < 6) (hb : 0 ≤ b ∧ b < 6) : ∀ (m : Nat) (i : Int), 0 ≤ i → i + m = V 14 12 → Q (fitS V n s a b m i) V → m4_registersFit_L2 S 14 Q (m + 1) a b i V
  | 0, i, hi, hm, k => by
    unfold m4_registersFit_L2
    exact ⟨by omega, fun _ => k, fun c => by omega⟩
  | m + 1, i, hi, hm, k => by
    have q := hr i hi (by omega)
    have ih := fun z => x_fit_L h w hc hr ha hb m (i + 1) (by omega) (by omega) z
    clear x_fit_L
    rw [fitS_s] at k
    have k1 : regS V a b n s i = 1 → m4_registersFit_L2 S 14 Q (m + 1) a b (i + 1) V := fun z => ih (by rw [if_pos z] at k; exact k)
    have k2 : ¬ regS V a b n s i = 1 → Q 0 V := fun z => by rw [if_neg z] at k; exact k
    unfold regS at k1 k2
    unfold m4_registersFit_L2 m4_registersFit_J38 m4_registersFit_J55
    have y1 : V (14 + 9) i.toNat = V 23 i.toNat := rfl
    have y2 : V (14 + 10) i.toNat = V 24 i.toNat := rfl
    rw [y1, y2]
    generalize V 23 i.toNat = u at q k1 k2 ⊢
    generalize V 24 i.toNat = v at q k1 k2 ⊢
    clear k ih y1 y2
    (repeat' (first | omega | with_reducible apply And.intro | intro _ | with_reducible refine x_feudsT h w (by omega) (by omega) ?_ | with_reducible refine k1 ?_ | with_reducible refine k2 ?_ | with_reducible apply k2)) <;> ((repeat' split at *) <;> omega)
theorem x_fit (h : cX S V 14 n s) (w : zwf n s) (hc : 0 ≤ V 14 12 ∧ V 14 12 ≤ 8) (hr : rowsE V (V 14 12) 23 24 63) {a b : Int} (ha : 0 ≤ a ∧ a < 6) (hb : 0 ≤ b ∧ b < 6) (k : ∀ r, r = fitT V n s a b → 0 ≤ r → r ≤ 1 → Q r V) : m4_registersFit S 14 V a b Q := by
  have q := fitS_in V n s a b (V 14 12).toNat 0
  exact ⟨(V 14 12).toNat + 1, x_fit_L h w hc hr ha hb _ 0 (by omega) (by omega) (k _ rfl (by unfold fitT at *; omega) (by unfold fitT at *; omega))⟩
theorem m_fit_0 (w : zwf n s) (he : V 53 15 = V 14 12) (hc : 0 ≤ V 14 12 ∧ V 14 12 ≤ 8) {a b : Int} : ∀ (m : Nat) (i : Int), 0 ≤ i → i + m = V 14 12 → Q 0 V → m12_isLapsedBy_L5 Q (m + 1) a b 0 i V
  | 0, i, hi, hm, k => by
    unfold m12_isLapsedBy_L5
    exact ⟨by omega, fun _ => ⟨by omega, k⟩, fun c => by omega⟩
  | m + 1, i, hi, hm, k => by
    unfold m12_isLapsedBy_L5
    exact ⟨by omega, fun c => by omega, fun _ => ⟨by omega, by omega, by omega, fun _ => m_fit_0 w he hc m (i + 1) (by omega) (by omega) k, fun z => absurd rfl z⟩⟩
theorem m_fit_L (h : cM V n s) (w : zwf n s) (he : V 53 15 = V 14 12) (hc : 0 ≤ V 14 12 ∧ V 14 12 ≤ 8) (hr : rowsE V (V 14 12) 23 24 63) {a b : Int} (ha : 0 ≤ a ∧ a < 6) (hb : 0 ≤ b ∧ b < 6) : ∀ (m : Nat) (i : Int), 0 ≤ i → i + m = V 14 12 → Q (fitS V n s a b m i) V → m12_isLapsedBy_L5 Q (m + 1) a b 1 i V
  | 0, i, hi, hm, k => by
    unfold m12_isLapsedBy_L5
    exact ⟨by omega, fun _ => ⟨by omega, k⟩, fun c => by omega⟩
  | m + 1, i, hi, hm, k => by
    have q := hr i hi (by omega)
    have ih := fun z => m_fit_L h w he hc hr ha hb m (i + 1) (by omega) (by omega) z
    clear m_fit_L
    rw [fitS_s] at k
    have k1 : regS V a b n s i = 1 → m12_isLapsedBy_L5 Q (m + 1) a b 1 (i + 1) V := fun z => ih (by rw [if_pos z] at k; exact k)
    have k2 : ¬ regS V a b n s i = 1 → m12_isLapsedBy_L5 Q (m + 1) a b 0 (i + 1) V := fun z => m_fit_0 w he hc m (i + 1) (by omega) (by omega) (by rw [if_neg z] at k; exact k)
    unfold regS at k1 k2
    unfold m12_isLapsedBy_L5 m12_isLapsedBy_J54 m12_isLapsedBy_J66
    rw [← q.1, ← q.2.1]
    generalize V 23 i.toNat = u at q k1 k2 ⊢
    generalize V 24 i.toNat = v at q k1 k2 ⊢
    clear k ih
    (repeat' (first | omega | with_reducible apply And.intro | intro _ | with_reducible refine m_feudsT h w (by omega) (by omega) ?_ | with_reducible refine k1 ?_ | with_reducible refine k2 ?_ | with_reducible apply k2)) <;> ((repeat' split at *) <;> omega)
theorem m_fit (h : cM V n s) (w : zwf n s) (he : V 53 15 = V 14 12) (hc : 0 ≤ V 14 12 ∧ V 14 12 ≤ 8) (hr : rowsE V (V 14 12) 23 24 63) {a b : Int} (ha : 0 ≤ a ∧ a < 6) (hb : 0 ≤ b ∧ b < 6) (k : ∀ r, r = fitT V n s a b → 0 ≤ r → r ≤ 1 → Q r V) : m12_isLapsedBy V a b Q := by
  have q := fitS_in V n s a b (V 14 12).toNat 0
  exact ⟨(V 14 12).toNat + 1, m_fit_L h w he hc hr ha hb _ 0 (by omega) (by omega) (k _ rfl (by unfold fitT at *; omega) (by unfold fitT at *; omega))⟩
end LAP
/-! both walk the pairs in the same order: code x = 6a + b, counted where a < b and the registers fit -/
def lapC (V : zV) (n : Int) (s : zS) (x : Int) : Int := if x / 6 < x % 6 ∧ fitT V n s (x / 6) (x % 6) = 1 then 1 else 0
def lapN (V : zV) (n : Int) (s : zS) : Nat → Int → Int → Int
  | 0, _, c => c
  | m + 1, x, c => lapN V n s m (x + 1) (c + lapC V n s x)
def lapL (V : zV) (n : Int) (s : zS) : Nat → Int → Int → Int
  | 0, _, l => l
  | m + 1, x, l => lapL V n s m (x + 1) (if lapC V n s x = 1 then x else l)
def lapR (a c l : Int) : Int := if a = 0 then c else if c = 1 then l else -1
def lapT (V : zV) (n : Int) (s : zS) (a : Int) : Int := lapR a (lapN V n s 36 0 0) (lapL V n s 36 0 (-1))
section LAP2
variable {S : List zC} {V : zV} {B n : Int} {s : zS} {Q : Int → zV → Prop} {K : zV → Prop}
theorem lapC_in (x : Int) : lapC V n s x = 0 ∨ lapC V n s x = 1 := by
  unfold lapC
  split <;> omega
theorem lap_skip : ∀ (m : Nat) (x c l : Int), 0 ≤ x → x % 6 + m ≤ x / 6 + 1 → x % 6 + m ≤ 6 → lapN V n s m x c = c ∧ lapL V n s m x l = l
  | 0, x, c, l, _, _, _ => ⟨rfl, rfl⟩
  | m + 1, x, c, l, hx, h1, h2 => by
    have e : lapC V n s x = 0 := by
      unfold lapC
      rw [if_neg (by omega)]
    show lapN V n s m (x + 1) (c + lapC V n s x) = c ∧ lapL V n s m (x + 1) (if lapC V n s x = 1 then x else l) = l
    rw [e, if_neg (by omega), Int.add_zero]
    by_cases z : m = 0
    · subst z
      exact ⟨rfl, rfl⟩
    · exact lap_skip m (x + 1) c l (by omega) (by omega) (by omega)
theorem lapN_app : ∀ (m m' : Nat) (x c : Int), lapN V n s (m + m') x c = lapN V n s m' (x + m) (lapN V n s m x c)
  | 0, m', x, c => by rw [Nat.zero_add]; simp [lapN]
  | m + 1, m', x, c => by
    rw [show m + 1 + m' = (m + m') + 1 from by omega]
    show lapN V n s (m + m') (x + 1) (c + lapC V n s x) = lapN V n s m' (x + ((m + 1 : Nat) : Int)) (lapN V n s m (x + 1) (c + lapC V n s x))
    rw [lapN_app m m', show x + 1 + (m : Int) = x + ((m + 1 : Nat) : Int) from by omega]
theorem lapL_app : ∀ (m m' : Nat) (x c : Int), lapL V n s (m + m') x c = lapL V n s m' (x + m) (lapL V n s m x c)
  | 0, m', x, c => by rw [Nat.zero_add]; simp [lapL]
  | m + 1, m', x, c => by
    rw [show m + 1 + m' = (m + m') + 1 from by omega]
    show lapL V n s (m + m') (x + 1) _ = lapL V n s m' (x + ((m + 1 : Nat) : Int)) (lapL V n s m (x + 1) _)
    rw [lapL_app m m', show x + 1 + (m : Int) = x + ((m + 1 : Nat) : Int) from by omega]
theorem lapN_in : ∀ (m : Nat) (x c : Int), c ≤ lapN V n s m x c ∧ lapN V n s m x c ≤ c + m
  | 0, x, c => by show c ≤ c ∧ c ≤ c + (0 : Nat); omega
  | m + 1, x, c => by
    have q := lapC_in (V := V) (n := n) (s := s) x
    have r := lapN_in m (x + 1) (c + lapC V n s x)
    show c ≤ lapN V n s m (x + 1) (c + lapC V n s x) ∧ lapN V n s m (x + 1) (c + lapC V n s x) ≤ _
    omega
theorem lapL_in : ∀ (m : Nat) (x l : Int), 0 ≤ x → x + m ≤ 36 → -1 ≤ l ∧ l < 36 → -1 ≤ lapL V n s m x l ∧ lapL V n s m x l < 36
  | 0, x, l, _, _, h => h
  | m + 1, x, l, h0, h1, h => lapL_in m (x + 1) _ (by omega) (by omega) (by split <;> omega)
theorem lapT_in (a : Int) : -1 ≤ lapT V n s a ∧ lapT V n s a ≤ 36 := by
  have q := lapN_in (V := V) (n := n) (s := s) 36 0 0
  have r := lapL_in (V := V) (n := n) (s := s) 36 0 (-1) (by omega) (by omega) (by omega)
  unfold lapT lapR
  (repeat' split) <;> omega
theorem m_lap_L (h : cM V n s) (w : zwf n s) (he : V 53 15 = V 14 12) (hc : 0 ≤ V 14 12 ∧ V 14 12 ≤ 8) (hr : rowsE V (V 14 12) 23 24 63) {a : Int} (ha : inR a) : ∀ (m : Nat) (c l x : Int), 0 ≤ x → x + m = 36 → 0 ≤ c → c ≤ x → Q (lapR a (lapN V n s m x c) (lapL V n s m x l)) V → m12_lapsedOf_L7 Q (m + 1) a c l x V
  | 0, c, l, x, hx, hm, c0, c1, k => by
    have k2 : Q (lapR a c l) V := k
    unfold lapR at k2
    unfold m12_lapsedOf_L7
    refine ⟨by omega, fun _ => ⟨ha, fun d => ⟨by omega, fun e => ?_, fun e => ?_⟩, fun d => ?_⟩, fun z => by omega⟩
    · rw [if_neg d, if_neg e] at k2
      exact k2
    · rw [if_neg d, if_pos e] at k2
      exact k2
    · rw [if_pos d] at k2
      exact k2
  | m + 1, c, l, x, hx, hm, c0, c1, k => by
    have k2 : Q (lapR a (lapN V n s m (x + 1) (c + lapC V n s x)) (lapL V n s m (x + 1) (if lapC V n s x = 1 then x else l))) V := k
    have ih := fun c' l' z z1 z2 => m_lap_L h w he hc hr ha m c' l' (x + 1) (by omega) (by omega) z1 z2 z
    clear m_lap_L k
    unfold lapC at k2
    unfold m12_lapsedOf_L7 m12_lapsedOf_J49 m12_lapsedOf_J62
    refine ⟨by omega, fun z => by omega, fun _ => ⟨by omega, by omega, by omega, by omega, fun d => ?_, fun d => ⟨by omega, by omega, m_fit h w he hc hr (by omega) (by omega) (fun r hr' r1 r2 => ⟨by omega, fun e => ?_, fun e => ?_⟩)⟩⟩⟩
    · rw [if_neg (by omega), if_neg (by omega)] at k2
      exact ⟨by omega, fun _ => ⟨by omega, fun _ => ih _ _ k2 (by omega) (by omega), fun z => absurd rfl z⟩, fun z => absurd rfl z⟩
    · rw [if_neg (by omega), if_neg (by omega)] at k2
      exact ⟨by omega, fun _ => ⟨by omega, fun _ => ih _ _ k2 (by omega) (by omega), fun z => absurd rfl z⟩, fun z => absurd rfl z⟩
    · rw [if_pos (by omega), if_pos rfl] at k2
      exact ⟨by omega, fun z => by omega, fun _ => ⟨by omega, fun z => by omega, fun _ => ih _ _ k2 (by omega) (by omega)⟩⟩
theorem m_lap (h : cM V n s) (w : zwf n s) (he : V 53 15 = V 14 12) (hc : 0 ≤ V 14 12 ∧ V 14 12 ≤ 8) (hr : rowsE V (V 14 12) 23 24 63) {a : Int} (ha : inR a) (k : ∀ r, r = lapT V n s a → -1 ≤ r → r ≤ 36 → Q r V) : m12_lapsedOf V a Q := by
  have q := lapT_in (V := V) (n := n) (s := s) a
  exact ⟨36 + 1, m_lap_L h w he hc hr ha 36 0 (-1) 0 (by omega) (by omega) (by omega) (by omega) (k _ rfl q.1 q.2)⟩
theorem x_lap_in (h : cX S V 14 n s) (w : zwf n s) (hc : 0 ≤ V 14 12 ∧ V 14 12 ≤ 8) (hr : rowsE V (V 14 12) 23 24 63) {a u : Int} (ha : inR a) (hu : 0 ≤ u ∧ u < 6) {k27 : Int → Int → Int → Int → zV → Prop} : ∀ (m : Nat) (c l v : Int), u < v → v + m = 6 → k27 a (lapN V n s m (6 * u + v) c) (lapL V n s m (6 * u + v) l) (u + 1) V → m11_lapsed_L40 S k27 Q (m + 1) a c l u v V
  | 0, c, l, v, hv, hm, k => by
    unfold m11_lapsed_L40
    exact ⟨by omega, fun _ => k, fun z => by omega⟩
  | m + 1, c, l, v, hv, hm, k => by
    have k2 : k27 a (lapN V n s m (6 * u + v + 1) (c + lapC V n s (6 * u + v))) (lapL V n s m (6 * u + v + 1) (if lapC V n s (6 * u + v) = 1 then (6 * u + v) else l)) (u + 1) V := k
    have ec : lapC V n s (6 * u + v) = fitT V n s u v := by
      have q := fitS_in V n s u v (V 14 12).toNat 0
      unfold lapC fitT
      rw [show (6 * u + v) / 6 = u from by omega, show (6 * u + v) % 6 = v from by omega]
      split <;> omega
    rw [ec, show 6 * u + v + 1 = 6 * u + (v + 1) from by omega] at k2
    unfold m11_lapsed_L40
    refine ⟨by omega, fun z => by omega, fun _ => x_fit h w hc hr hu (by omega) (fun r hr' r1 r2 => ⟨by omega, fun e => ?_, fun e => ?_⟩)⟩
    · rw [if_neg (by omega), show c + fitT V n s u v = c from by omega] at k2
      exact x_lap_in h w hc hr ha hu m c l (v + 1) (by omega) (by omega) k2
    · rw [if_pos (by omega), show c + fitT V n s u v = c + 1 from by omega] at k2
      exact x_lap_in h w hc hr ha hu m (c + 1) _ (v + 1) (by omega) (by omega) k2
theorem x_lap_L (h : cX S V 14 n s) (w : zwf n s) (hc : 0 ≤ V 14 12 ∧ V 14 12 ≤ 8) (hr : rowsE V (V 14 12) 23 24 63) {a : Int} (ha : inR a) : ∀ (m : Nat) (c l u : Int), 0 ≤ u → u + m = 6 → 0 ≤ c ∧ c ≤ 36 - 6 * m → Q (lapR a (lapN V n s (6 * m) (6 * u) c) (lapL V n s (6 * m) (6 * u) l)) V → m11_lapsed_L27 S Q (m + 1) a c l u V
  | 0, c, l, u, hu, hm, hcc, k => by
    have k2 : Q (lapR a c l) V := k
    unfold lapR at k2
    unfold m11_lapsed_L27
    refine ⟨by omega, fun _ => ⟨ha, fun d => ⟨by omega, fun e => ?_, fun e => ?_⟩, fun d => ?_⟩, fun z => by omega⟩
    · rw [if_neg d, if_neg e] at k2
      exact k2
    · rw [if_neg d, if_pos e] at k2
      exact k2
    · rw [if_pos d] at k2
      exact k2
  | m + 1, c, l, u, hu, hm, hcc, k => by
    obtain ⟨p, hp⟩ : ∃ p : Nat, p = u.toNat + 1 := ⟨_, rfl⟩
    obtain ⟨q, hq⟩ : ∃ q : Nat, q = 6 - p := ⟨_, rfl⟩
    rw [show 6 * (m + 1) = p + (q + 6 * m) from by omega, lapN_app, lapL_app] at k
    have sk := lap_skip (V := V) (n := n) (s := s) p (6 * u) c l (by omega) (by omega) (by omega)
    rw [sk.1, sk.2, lapN_app, lapL_app, show 6 * u + (p : Int) + (q : Int) = 6 * (u + 1) from by omega, show 6 * u + (p : Int) = 6 * u + (u + 1) from by omega] at k
    have b := lapN_in (V := V) (n := n) (s := s) q (6 * u + (u + 1)) c
    unfold m11_lapsed_L27
    refine ⟨by omega, fun z => by omega, fun _ => ⟨q + 1, x_lap_in h w hc hr ha (by omega) q c l (u + 1) (by omega) (by omega) ?_⟩⟩
    exact x_lap_L h w hc hr ha m _ _ (u + 1) (by omega) (by omega) (by omega) k
theorem x_lap (h : cX S V 14 n s) (w : zwf n s) (hc : 0 ≤ V 14 12 ∧ V 14 12 ≤ 8) (hr : rowsE V (V 14 12) 23 24 63) {a : Int} (ha : inR a) (k : ∀ r, r = lapT V n s a → -1 ≤ r → r ≤ 36 → Q r V) : ∃ m, m11_lapsed_L27 S Q m a 0 (-1) 0 V := by
  have q := lapT_in (V := V) (n := n) (s := s) a
  exact ⟨6 + 1, x_lap_L h w hc hr ha 6 0 (-1) 0 (by omega) (by omega) (by omega) (k _ rfl q.1 q.2)⟩
theorem op_lapsed (I : zInv S V B n s) {a : Int} (ha : inR a) (k : zInv S V B n s → K V) : m11_lapsed S V a (fun r V1 => m12_lapsed V1 a (fun r' V2 => inR r ∧ inR r' ∧ ((r = r' → K V2) ∧ (¬ r = r' → False)))) := by
  obtain ⟨w, x, m, _, _, ⟨he, hc, hr⟩, _⟩ := id I
  have hn := wn w
  unfold m11_lapsed m12_lapsed
  refine x_isBit ha (fun r hr0 r1 r2 => ⟨by omega, fun c => x_hasList (x_n x) (fun y hy y1 y2 => ⟨by omega, fun d => ?_, fun d => ?_⟩), fun c => ?_⟩)
  · refine x_lap x w hc hr ha (fun v hv v1 v2 => ⟨ha, m_in ha (by omega) (by omega) (fun z hz z1 z2 => ⟨by omega, fun e => m_lacks (m_n m) hn.1 (fun u hu u1 u2 => ⟨by omega, fun g => m_lap m w he hc hr ha (fun v' hv' _ _ => fin2 hv hv' (by omega) (k I)), fun g => ?_⟩), fun e => ?_⟩)⟩)
    · (repeat' split at *) <;> omega
    · simp only [isBS] at hr0
      (repeat' split at *) <;> omega
  · refine ⟨ha, m_in ha (by omega) (by omega) (fun z hz z1 z2 => ⟨by omega, fun e => m_lacks (m_n m) hn.1 (fun u hu u1 u2 => ⟨by omega, fun g => ?_, fun g => fin2 rfl rfl (by omega) (k I)⟩), fun e => ?_⟩)⟩
    · (repeat' split at *) <;> omega
    · simp only [isBS] at hr0
      (repeat' split at *) <;> omega
  · refine ⟨ha, m_in ha (by omega) (by omega) (fun z hz z1 z2 => ⟨by omega, fun e => ?_, fun e => fin2 rfl rfl (by omega) (k I)⟩)⟩
    simp only [isBS] at hr0
    (repeat' split at *) <;> omega
end LAP2
