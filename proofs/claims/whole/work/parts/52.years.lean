/-! ===== years by a seed ===== -/
def nxS (d : Int) : Int := zandL ((1103515245 * d) + 12345) 2147483647
theorem zandL_in (x : Int) : 0 ≤ zandL x 2147483647 ∧ zandL x 2147483647 < 2147483648 := by
  have e : zandL x 2147483647 = ((Int64.ofInt x).toBitVec &&& (2147483647 : BitVec 64)).toInt := rfl
  have b : ((Int64.ofInt x).toBitVec &&& (2147483647 : BitVec 64)).toNat ≤ 2147483647 := by
    rw [BitVec.toNat_and]
    exact Nat.and_le_right
  rw [e, BitVec.toInt_eq_toNat_of_lt (by omega)]
  omega
theorem nxS_in (d : Int) : 0 ≤ nxS d ∧ nxS d < 2147483648 := zandL_in _
def drS (d a : Int) : Int := nxS d / 65536 % a
theorem drS_in (d : Int) {a : Int} (h : 0 < a) : 0 ≤ drS d a ∧ drS d a < a := ⟨Int.emod_nonneg _ (by omega), Int.emod_lt_of_pos _ h⟩
section DRAW
variable {V : zV} {Q : Int → zV → Prop}
theorem x_below {d a : Int} (hd : V 52 0 = d) (ha : 0 < a ∧ a < 100) (k : ∀ r V', r = drS d a → 0 ≤ r → r < a → V' 52 0 = nxS d → (∀ c j, c ≠ 52 → V' c j = V c j) → Q r V') : m1_below V a Q := by
  have q := nxS_in d
  have dr := drS_in d ha.1
  unfold m1_below
  rw [hd]
  show inR (nxS d) ∧ inR a ∧ (0 < a → (0 ≤ (vset V 52 0 (nxS d)) 52 0 ∧ (vset V 52 0 (nxS d)) 52 0 < 2147483648) ∧ ((0 ≤ (vset V 52 0 (nxS d)) 52 0 / 65536 ∧ (vset V 52 0 (nxS d)) 52 0 / 65536 < 2147483648) ∧ 0 < a ∧ a < 2147483648) ∧ Q ((vset V 52 0 (nxS d)) 52 0 / 65536 % a) (vset V 52 0 (nxS d))) ∧ (a ≤ 0 → _)
  rw [vset_same]
  exact ⟨by omega, by omega, fun _ => ⟨by omega, by omega, k _ _ rfl dr.1 dr.2 vset_same (fun c j h => vset_cell h)⟩, fun z => by omega⟩
theorem m_draw {d a : Int} (hd : V 53 17 = d) (ha : 0 < a ∧ a < 100) (k : ∀ r V', r = drS d a → 0 ≤ r → r < a → V' 53 17 = nxS d → (∀ c j, ¬ (c = 53 ∧ j = 17) → V' c j = V c j) → Q r V') : m12_draw V a Q := by
  have q := nxS_in d
  have dr := drS_in d ha.1
  unfold m12_draw
  rw [hd]
  show inR (nxS d) ∧ (0 ≤ (vset V 53 17 (nxS d)) 53 17 ∧ (vset V 53 17 (nxS d)) 53 17 < 2147483648) ∧ ((0 ≤ (vset V 53 17 (nxS d)) 53 17 / 65536 ∧ (vset V 53 17 (nxS d)) 53 17 / 65536 < 2147483648) ∧ 0 < a ∧ a < 2147483648) ∧ Q ((vset V 53 17 (nxS d)) 53 17 / 65536 % a) (vset V 53 17 (nxS d))
  rw [vset_same]
  exact ⟨by omega, by omega, by omega, k _ _ rfl dr.1 dr.2 vset_same (fun c j h => by rw [vset_at, if_neg h])⟩
end DRAW
def yB (n : Int) (s : zS) (d : Int) : zS := if canS s (drS d 6) (drS (nxS d) n) (drS (nxS (nxS d)) 2) = 1 then sellS s (drS d 6) (drS (nxS d) n) (drS (nxS (nxS d)) 2) else s
def yQ (d : Int) : Int := drS (nxS (nxS (nxS d))) 6
def yE (d : Int) : Int := nxS (nxS (nxS (nxS d)))
def yD (n : Int) (s : zS) (d : Int) : Int := if yB n s d 2 (yQ d) = 0 then yE d else nxS (yE d)
def yS (n : Int) (s : zS) (d : Int) : zS := seaS (if yB n s d 2 (yQ d) = 0 then yB n s d else if drS (yE d) 4 = 0 then dieS n (yB n s d) (yQ d) else yB n s d)
theorem w_yB {n : Int} {s : zS} (w : zwf n s) (hn : 0 < n) (d : Int) : zwf n (yB n s d) := by
  have hn' := wn w
  have a := drS_in d (a := 6) (by omega)
  have b := drS_in (nxS d) hn
  have c := drS_in (nxS (nxS d)) (a := 2) (by omega)
  unfold yB
  split
  · rename_i h
    have q := canS_5 w (by omega) h
    exact w_sell w a b (by omega) q.1 q.2.1
  · exact w
theorem w_yS {n : Int} {s : zS} (w : zwf n s) (hn : 0 < n) (d : Int) : zwf n (yS n s d) := by
  have a : 0 ≤ yQ d ∧ yQ d < 6 := drS_in _ (by omega)
  have w1 := w_yB w hn d
  unfold yS
  refine w_sea ?_
  split
  · exact w1
  · split
    · exact w_die w1 a
    · exact w1
def yrS (n : Int) : Nat → zS → Int → zS
  | 0, s, _ => s
  | m + 1, s, d => yrS n m (yS n s d) (yD n s d)
def yrD (n : Int) : Nat → zS → Int → Int
  | 0, _, d => d
  | m + 1, s, d => yrD n m (yS n s d) (yD n s d)
def yrT (n : Int) (s : zS) (d q : Int) : Int := if q = 0 then tAl s else if q = 1 then tMo s else if q = 2 then tOp n s else d
section YEAR
variable {S : List zC} {n : Int} {Q : Int → zV → Prop}
theorem x_year {V : zV} {s : zS} {d : Int} {Q : zV → Prop} (x : cX S V 36 n s) (w : zwf n s) (hn : 0 < n) (hd : V 52 0 = d) (k : ∀ V', cX S V' 36 n (yS n s d) → V' 52 0 = yD n s d → (∀ c j, c < 36 ∨ 52 < c → V' c j = V c j) → Q V') : m11_liveYear S V Q := by
  have hn' := wn w
  have wB := w_yB w hn d
  have en := x_n x
  unfold m11_liveYear
  refine x_below hd (by omega) (fun p V1 hp p0 p1 s1 g1 => ?_)
  have x1 : cX S V1 36 n s := cX_fr x (g1 _ _ (by omega)) (fun c j _ _ => g1 _ _ (by omega))
  rw [x_n x1]
  refine x_below s1 (by omega) (fun f V2 hf f0 f1 s2 g2 => x_below s2 (by omega) (fun t V3 ht t0 t1 s3 g3 => ?_))
  have x3 : cX S V3 36 n s := cX_fr x1 ((g3 _ _ (by omega)).trans (g2 _ _ (by omega))) (fun c j _ _ => (g3 _ _ (by omega)).trans (g2 _ _ (by omega)))
  have J : ∀ V4, cX S V4 36 n (yB n s d) → V4 52 0 = nxS (nxS (nxS d)) → (∀ c j, c < 36 ∨ 52 < c → V4 c j = V c j) → m11_liveYear_J58 S Q V4 := by
    intro V4 x4 s4 g4
    have yq : 0 ≤ yQ d ∧ yQ d < 6 := drS_in _ (by omega)
    unfold m11_liveYear_J58 m11_liveYear_J103
    refine x_below s4 (by omega) (fun q V5 hq q0 q1 s5 g5 => ?_)
    have x5 : cX S V5 36 n (yB n s d) := cX_fr x4 (g5 _ _ (by omega)) (fun c j _ _ => g5 _ _ (by omega))
    have e2 := x_2 x5 (p := q) q0 q1
    have hq' : q = yQ d := hq
    refine ⟨by omega, fun c => ?_, fun c => x_below s5 (by omega) (fun u V6 hu u0 u1 s6 g6 => ⟨by omega, fun e => ?_, fun e => ?_⟩)⟩
    · refine x_season x5 wB (by omega) (fun v V6 _ _ _ x6 f6 => k V6 ?_ ?_ (fun c j z => (f6 c j (by omega)).trans ((g5 c j (by omega)).trans (g4 c j z))))
      · unfold yS
        rw [if_pos (by rw [← hq', ← e2]; exact c)]
        exact x6
      · unfold yD
        rw [if_pos (by rw [← hq', ← e2]; exact c), f6 _ _ (by omega)]
        exact s5
    · have x6 : cX S V6 36 n (yB n s d) := cX_fr x5 (g6 _ _ (by omega)) (fun c j _ _ => g6 _ _ (by omega))
      refine x_season x6 wB (by omega) (fun v V7 _ _ _ x7 f7 => k V7 ?_ ?_ (fun c j z => (f7 c j (by omega)).trans ((g6 c j (by omega)).trans ((g5 c j (by omega)).trans (g4 c j z)))))
      · unfold yS
        rw [if_neg (by rw [← hq', ← e2]; exact c), if_neg (by unfold yE; rw [← hu]; exact e)]
        exact x7
      · unfold yD
        rw [if_neg (by rw [← hq', ← e2]; exact c), f7 _ _ (by omega)]
        exact s6
    · have x6 : cX S V6 36 n (yB n s d) := cX_fr x5 (g6 _ _ (by omega)) (fun c j _ _ => g6 _ _ (by omega))
      refine x_die x6 wB (by omega) ⟨q0, q1⟩ (fun _ V7 _ _ _ x7 f7 => x_season x7 (w_die wB ⟨q0, q1⟩) (by omega) (fun v V8 _ _ _ x8 f8 => k V8 ?_ ?_ (fun c j z => (f8 c j (by omega)).trans ((f7 c j (by omega)).trans ((g6 c j (by omega)).trans ((g5 c j (by omega)).trans (g4 c j z)))))))
      · unfold yS
        rw [if_neg (by rw [← hq', ← e2]; exact c), if_pos (by unfold yE; rw [← hu]; exact e), ← hq']
        exact x8
      · unfold yD
        rw [if_neg (by rw [← hq', ← e2]; exact c), f8 _ _ (by omega), f7 _ _ (by omega)]
        exact s6
  have G : ∀ c j, c < 36 ∨ 52 < c → V3 c j = V c j := fun c j z => (g3 c j (by omega)).trans ((g2 c j (by omega)).trans (g1 c j (by omega)))
  have eB : yB n s d = if canS s p f t = 1 then sellS s p f t else s := by
    unfold yB
    rw [← hp, ← hf, ← ht]
  refine x_canBuy x3 w ⟨p0, p1⟩ ⟨f0, f1⟩ (by omega) (fun y hy y0 y1 => ⟨by omega, fun c => J V3 ?_ s3 G, fun c => x_sell x3 w (by omega) ⟨p0, p1⟩ ⟨f0, f1⟩ (by omega) (by omega) (fun _ V4 _ _ _ x4 _ f4 => J V4 ?_ ((f4 _ _ (by omega)).trans s3) (fun c j z => (f4 c j (by omega)).trans (G c j z)))⟩)
  · rw [eB, if_neg (by omega)]
    exact x3
  · rw [eB, if_pos (by omega)]
    exact x4
theorem m_year {V : zV} {s : zS} {d : Int} {k53 : Int → Int → Int → zV → Prop} {a1 a3 a4 : Int} (x : cM V n s) (w : zwf n s) (hn : 0 < n) (hd : V 53 17 = d) (k : ∀ V', cM V' n (yS n s d) → V' 53 17 = yD n s d → (∀ c j, ¬ (c = 53 ∧ j = 17) → c ≠ 56 → c ≠ 57 → V' c j = V c j) → k53 a1 a3 (a4 + 1) V') : m12_draw V 6 (fun r62 V62 => m12_draw V62 (V62 53 5) (fun r72 V72 => m12_draw V72 2 (fun r79 V79 => m12_canBuy V79 r62 r72 r79 (fun r91 V91 => (inR r91) ∧ ((r91 = 0 → m12_years_J109 k53 Q a1 a3 a4 V91) ∧ (¬ r91 = 0 → m12_bought V91 r62 r72 r79 (fun r104 V104 => m12_years_J109 k53 Q a1 a3 a4 V104))))))) := by
  have hn' := wn w
  have wB := w_yB w hn d
  refine m_draw hd (by omega) (fun p V1 hp p0 p1 s1 g1 => ?_)
  have x1 : cM V1 n s := cM_fr x (g1 _ _ (by omega)) (fun j => g1 _ _ (by omega)) (fun j => g1 _ _ (by omega))
  rw [m_n x1]
  refine m_draw s1 (by omega) (fun f V2 hf f0 f1 s2 g2 => m_draw s2 (by omega) (fun t V3 ht t0 t1 s3 g3 => ?_))
  have x2 : cM V2 n s := cM_fr x1 (g2 _ _ (by omega)) (fun j => g2 _ _ (by omega)) (fun j => g2 _ _ (by omega))
  have x3 : cM V3 n s := cM_fr x2 (g3 _ _ (by omega)) (fun j => g3 _ _ (by omega)) (fun j => g3 _ _ (by omega))
  have J : ∀ V4, cM V4 n (yB n s d) → V4 53 17 = nxS (nxS (nxS d)) → (∀ c j, ¬ (c = 53 ∧ j = 17) → c ≠ 56 → c ≠ 57 → V4 c j = V c j) → m12_years_J109 k53 Q a1 a3 a4 V4 := by
    intro V4 x4 s4 g4
    unfold m12_years_J109 m12_years_J142
    refine m_draw s4 (by omega) (fun q V5 hq q0 q1 s5 g5 => ?_)
    have x5 : cM V5 n (yB n s d) := cM_fr x4 (g5 _ _ (by omega)) (fun j => g5 _ _ (by omega)) (fun j => g5 _ _ (by omega))
    have hq' : q = yQ d := hq
    refine m_isAlive x5 wB ⟨q0, q1⟩ (fun v hv v0 v1 => ⟨by omega, fun c => ?_, fun c => m_draw s5 (by omega) (fun u V6 hu u0 u1 s6 g6 => ⟨by omega, fun e => ?_, fun e => ?_⟩)⟩)
    · refine m_season x5 wB (fun v V6 _ _ _ x6 f6 => k V6 ?_ ?_ (fun c j z z1 z2 => (f6 c j z1 z2).trans ((g5 c j z).trans (g4 c j z z1 z2))))
      · unfold yS
        rw [if_pos (by rw [← hq']; omega)]
        exact x6
      · unfold yD
        rw [if_pos (by rw [← hq']; omega), f6 _ _ (by omega) (by omega)]
        exact s5
    · have x6 : cM V6 n (yB n s d) := cM_fr x5 (g6 _ _ (by omega)) (fun j => g6 _ _ (by omega)) (fun j => g6 _ _ (by omega))
      refine m_season x6 wB (fun v V7 _ _ _ x7 f7 => k V7 ?_ ?_ (fun c j z z1 z2 => (f7 c j z1 z2).trans ((g6 c j z).trans ((g5 c j z).trans (g4 c j z z1 z2)))))
      · unfold yS
        rw [if_neg (by rw [← hq']; omega), if_neg (by unfold yE; rw [← hu]; exact e)]
        exact x7
      · unfold yD
        rw [if_neg (by rw [← hq']; omega), f7 _ _ (by omega) (by omega)]
        exact s6
    · have x6 : cM V6 n (yB n s d) := cM_fr x5 (g6 _ _ (by omega)) (fun j => g6 _ _ (by omega)) (fun j => g6 _ _ (by omega))
      refine m_die x6 wB ⟨q0, q1⟩ (fun _ V7 _ _ _ x7 f7 => m_season x7 (w_die wB ⟨q0, q1⟩) (fun v V8 _ _ _ x8 f8 => k V8 ?_ ?_ (fun c j z z1 z2 => (f8 c j z1 z2).trans ((f7 c j z1 z2).trans ((g6 c j z).trans ((g5 c j z).trans (g4 c j z z1 z2)))))))
      · unfold yS
        rw [if_neg (by rw [← hq']; omega), if_pos (by unfold yE; rw [← hu]; exact e), ← hq']
        exact x8
      · unfold yD
        rw [if_neg (by rw [← hq']; omega), f8 _ _ (by omega) (by omega), f7 _ _ (by omega) (by omega)]
        exact s6
  have G : ∀ c j, ¬ (c = 53 ∧ j = 17) → c ≠ 56 → c ≠ 57 → V3 c j = V c j := fun c j z _ _ => (g3 c j z).trans ((g2 c j z).trans (g1 c j z))
  have eB : yB n s d = if canS s p f t = 1 then sellS s p f t else s := by
    unfold yB
    rw [← hp, ← hf, ← ht]
  refine m_canBuy x3 w ⟨p0, p1⟩ ⟨f0, f1⟩ (by omega) (fun y hy y0 y1 => ⟨by omega, fun c => J V3 ?_ s3 G, fun c => m_bought x3 w ⟨p0, p1⟩ ⟨f0, f1⟩ (by omega) (by omega) (fun _ V4 _ _ _ x4 _ f4 => J V4 ?_ ((f4 _ _ (by omega) (by omega)).trans s3) (fun c j z z1 z2 => (f4 c j z1 z2).trans (G c j z z1 z2)))⟩)
  · rw [eB, if_neg (by omega)]
    exact x3
  · rw [eB, if_pos (by omega)]
    exact x4
end YEAR
