/-! the class lays the weeks out -/
def lay (w : pb_W) (f : Int32) (i : Nat) : pb_W := pb_wF (pb_wF w 56 (fun j => if j < 520 then spn w f (nI j) i else w.1 56 j)) 54 (fun k => if k = 4 then nI (mxN w f i) else if k = 3 then nI (mnN w f i) else w.1 54 k)
theorem lay_skip {w : pb_W} {f : Int32} {i : Nat} (h : ¬ wf w i f) : lay w f (i + 1) = lay w f i := by
  unfold lay
  have e : ∀ j, spn w f (nI j) (i + 1) = spn w f (nI j) i := fun j => by rw [spn, if_neg (fun z => h z.2)]
  simp only [e, mxN, mnN, if_neg h]
theorem lay_step {w : pb_W} {f : Int32} {i c : Nat} (h : wf w i f) (hc : w.1 9 i = nI c) (lc : c < 520) (hw : wkN w i = c) : pb_wI (pb_wI (pb_wI (lay w f i) 56 c (spn w f (nI c) i + w.1 16 i)) 54 3 (nI (min (mnN w f i) c))) 54 4 (nI (max (mxN w f i) c)) = lay w f (i + 1) := by
  have e1 : ∀ j, j < 520 → spn w f (nI j) (i + 1) = if j = c then spn w f (nI c) i + w.1 16 i else spn w f (nI j) i := by
    intro j hj
    rw [spn]
    by_cases q : j = c
    · rw [if_pos q, q, if_pos ⟨hc, h⟩]
    · rw [if_neg q, if_neg (fun z => q ((nI_eq (by omega) (by omega)).mp (z.1.symm.trans hc)))]
  refine Prod.ext (funext fun d => funext fun k => ?_) rfl
  by_cases d54 : d = 54
  · subst d54
    show (if k = 4 then nI (max (mxN w f i) c) else if k = 3 then nI (min (mnN w f i) c) else if k = 4 then nI (mxN w f i) else if k = 3 then nI (mnN w f i) else w.1 54 k) = if k = 4 then nI (mxN w f (i + 1)) else if k = 3 then nI (mnN w f (i + 1)) else w.1 54 k
    rw [mxN, mnN, if_pos h, if_pos h, hw]
    by_cases q : k = 4
    · simp only [if_pos q]
    · by_cases r : k = 3
      · simp only [if_neg q, if_pos r]
      · simp only [if_neg q, if_neg r]
  · by_cases d56 : d = 56
    · subst d56
      show (if k = c then spn w f (nI c) i + w.1 16 i else if k < 520 then spn w f (nI k) i else w.1 56 k) = if k < 520 then spn w f (nI k) (i + 1) else w.1 56 k
      by_cases q : k < 520
      · rw [if_pos q, if_pos q, e1 k q]
      · rw [if_neg q, if_neg q, if_neg (by omega)]
    · simp [lay, pw_I1, pw_F1, d54, d56]
theorem cx_lay {w : pb_W} {n : Nat} (hN : LN w n) (f : Int32) : ∀ m i, i + m = n → pb_run T_X9_layOut (22, [some (.ref 54), some (.int f), some (.int (nI i)), none], [], lay w f i) = some (none, lay w f n) := by
  have hn := hN.le
  intro m
  induction m with
  | zero =>
    intro i hi
    rw [r_X9_layOut_22, show (lay w f i).1 5 3 = nI n from hN.n5, if_neg (show ¬ nI i < nI n by rw [nI_ltI (by omega) (by omega)]; omega), show i = n by omega]
  | succ m ih =>
    intro i hi
    have i200 : pb_in (nI i) 200 := pn_in (by omega) (by decide)
    have N := ih (i + 1) (by omega)
    obtain ⟨ew, lw⟩ := hN.wk i (by omega)
    obtain ⟨a, b, -⟩ := mnx hN f i (by omega)
    have i520 : pb_in (nI (wkN w i)) 520 := pn_in (by omega) (by decide)
    rw [r_X9_layOut_22, show (lay w f i).1 5 3 = nI n from hN.n5, if_pos (show nI i < nI n from nI_lt (by omega) (by omega)), M_wentFrom2 (show i < 200 by omega), pb_bI_some, if_pos i200, if_pos i200, nI_clamp (show i < 2 ^ 31 by omega), nI_1, show (lay w f i).1 9 i = nI (wkN w i) from ew, if_pos i520, if_pos i520, nI_clamp (show wkN w i < 2 ^ 31 by omega), show (lay w f i).1 54 3 = nI (mnN w f i) from rfl, show (lay w f i).1 54 4 = nI (mxN w f i) from rfl, pn_min (by omega) (by omega), pn_max (by omega) (by omega), show (lay w f i).1 56 (wkN w i) = if wkN w i < 520 then spn w f (nI (wkN w i)) i else w.1 56 (wkN w i) from rfl, if_pos lw, show (lay w f i).1 16 i = w.1 16 i from rfl]
    simp only [q01]
    by_cases t : wf w i f
    · rw [if_neg (show ¬ ¬ wf (lay w f i) i f from not_not_intro t), lay_step t ew lw rfl]
      exact N
    · rw [if_pos (show ¬ wf (lay w f i) i f from t)]
      rw [lay_skip t] at N
      exact N
theorem M_layOut {w : pb_W} {n : Nat} (hN : LN w n) (f : Int32) : M_X9_layOut [.ref 54, .int f] w = some (none, lay w f n) := by
  rw [e_X9_layOut, M_fill56, pb_bV_some]
  have e : pb_wI (pb_wI (pb_wF w 56 (fun j => if j < 520 then 0 else w.1 56 j)) 54 3 519) 54 4 0 = lay w f 0 := by
    refine Prod.ext (funext fun d => funext fun k => ?_) rfl
    by_cases d54 : d = 54
    · subst d54
      rfl
    · by_cases d56 : d = 56
      · subst d56
        rfl
      · simp [lay, pw_I1, pw_F1, d54, d56]
  rw [e]
  exact cx_lay hN f n 0 (by omega)
def cntN (p : Nat → Prop) [DecidablePred p] : Nat → Nat
  | 0 => 0
  | i + 1 => if p i then cntN p i + 1 else cntN p i
theorem cntN_le (p : Nat → Prop) [DecidablePred p] : ∀ i, cntN p i ≤ i
  | 0 => Nat.le_refl 0
  | i + 1 => by
    have := cntN_le p i
    rw [cntN]
    split <;> omega
theorem cntN_eq (p : Nat → Prop) [DecidablePred p] (i : Nat) : ∀ m, (∀ k, i ≤ k → k < i + m → ¬ p k) → cntN p (i + m) = cntN p i
  | 0, _ => rfl
  | m + 1, h => by
    show cntN p ((i + m) + 1) = _
    rw [cntN, if_neg (h (i + m) (by omega) (by omega))]
    exact cntN_eq p i m (fun k a b => h k a (by omega))
theorem cntN_sv {p q : Nat → Prop} [DecidablePred p] [DecidablePred q] (h : ∀ k, p k ↔ q k) : ∀ i, cntN p i = cntN q i
  | 0 => rfl
  | i + 1 => by
    rw [cntN, cntN, cntN_sv h i]
    by_cases t : q i
    · rw [if_pos t, if_pos ((h i).mpr t)]
    · rw [if_neg t, if_neg (fun z => t ((h i).mp z))]
theorem mx_gaps {w : pb_W} (hL : iv_L w) {n : Nat} (hN : LN w n) (f : Int32) : ∀ m j, j + m = 520 → pb_run T_X12_gaps (18, [some (.ref 64), some (.int f), some (.int (nI (cntN (gpP w f n) j))), some (.int (nI j))], [], w) = some (some (.int (nI (cntN (gpP w f n) 520))), pb_wI w 64 0 0) := by
  intro m
  induction m with
  | zero =>
    intro j hj
    rw [r_X12_gaps_18, if_neg (show ¬ nI j < (520 : Int32) from nI_nlt (b := 520) (by omega) (by omega)), e_X12_gives, pb_bI_some, show j = 520 by omega]
  | succ m ih =>
    intro j hj
    have N := ih (j + 1) (by omega)
    rw [r_X12_gaps_18, if_pos (show nI j < (520 : Int32) from nI_lt (b := 520) (by omega) (by omega)), M_isGap hL hN f (by omega), pb_bI_some, nI_1, nI_1, show nI (cntN (gpP w f n) j) + (0 : Int32) = nI (cntN (gpP w f n) j) from nI_add _ 0]
    simp only [q01]
    rw [cntN] at N
    by_cases t : gpP w f n j
    · rw [if_neg (not_not_intro t)]
      rw [if_pos t] at N
      exact N
    · rw [if_pos t]
      rw [if_neg t] at N
      exact N
theorem has_mn {w : pb_W} {n : Nat} (hN : LN w n) (f : Int32) (an : anyb w f n = true) : spN w f (nI (mnN w f n)) n ≠ 0 ∧ spN w f (nI (mxN w f n)) n ≠ 0 ∧ mnN w f n ≤ mxN w f n := by
  obtain ⟨a, b, c, d, e⟩ := mnx hN f n (Nat.le_refl n)
  obtain ⟨⟨k1, l1, m1, n1⟩, k2, l2, m2, n2⟩ := d an
  refine ⟨?_, ?_, ?_⟩
  · have := spN_pos hN f (nI (mnN w f n)) l1 (Nat.le_refl n) ⟨by rw [← n1]; exact (hN.wk k1 l1).1, m1⟩
    omega
  · have := spN_pos hN f (nI (mxN w f n)) l2 (Nat.le_refl n) ⟨by rw [← n2]; exact (hN.wk k2 l2).1, m2⟩
    omega
  · have := c k1 l1 m1
    omega
theorem gp_in {w : pb_W} {n : Nat} (hN : LN w n) (f : Int32) {j : Nat} (h1 : mnN w f n ≤ j) (h2 : j ≤ mxN w f n) : gpP w f n j ↔ spN w f (nI j) n = 0 := by
  obtain ⟨a, b, c, d, e⟩ := mnx hN f n (Nat.le_refl n)
  refine ⟨fun z => z.1, fun z => ?_⟩
  cases an : anyb w f n with
  | false =>
    obtain ⟨e1, e2⟩ := e an
    omega
  | true =>
    obtain ⟨p, q, -⟩ := has_mn hN f an
    refine ⟨z, an, ?_, ?_⟩
    · rcases Nat.lt_or_ge (mnN w f n) j with t | t
      · exact t
      · exact absurd (show spN w f (nI (mnN w f n)) n = 0 by rw [show mnN w f n = j by omega]; exact z) p
    · rcases Nat.lt_or_ge j (mxN w f n) with t | t
      · exact t
      · exact absurd (show spN w f (nI (mxN w f n)) n = 0 by rw [show mxN w f n = j by omega]; exact z) q
theorem cx_gaps {w : pb_W} {n : Nat} (hN : LN w n) (f : Int32) : ∀ m j, j + m = mxN w f n + 1 → mnN w f n ≤ j → pb_run T_X9_countGaps (12, [some (.ref 54), none, some (.int (nI (cntN (gpP w f n) j))), some (.int (nI j))], [], lay w f n) = some (some (.int (nI (cntN (gpP w f n) (mxN w f n + 1)))), lay w f n) := by
  obtain ⟨a, b, -⟩ := mnx hN f n (Nat.le_refl n)
  have hn := hN.le
  intro m
  induction m with
  | zero =>
    intro j hj hm
    rw [r_X9_countGaps_12, show (lay w f n).1 54 4 = nI (mxN w f n) from rfl, if_pos (nI_lt (by omega) (by omega)), show j = mxN w f n + 1 by omega]
  | succ m ih =>
    intro j hj hm
    have N := ih (j + 1) (by omega) (by omega)
    rw [cntN] at N
    have i520 : pb_in (nI j) 520 := pn_in (by omega) (by decide)
    obtain ⟨s1, s2⟩ := spn_N hN f (nI j) n (Nat.le_refl n)
    have z : (nI (spN w f (nI j) n) = (0 : Int32)) ↔ spN w f (nI j) n = 0 := nI_eq (b := 0) (by omega) (by omega)
    rw [r_X9_countGaps_12, show (lay w f n).1 54 4 = nI (mxN w f n) from rfl, if_neg (show ¬ nI (mxN w f n) < nI j by rw [nI_ltI (by omega) (by omega)]; omega), if_pos i520, nI_clamp (show j < 2 ^ 31 by omega), nI_1, nI_1, show (lay w f n).1 56 j = if j < 520 then spn w f (nI j) n else w.1 56 j from rfl, if_pos (show j < 520 by omega), s1]
    by_cases t : gpP w f n j
    · rw [if_pos t] at N
      rw [if_pos (z.mpr ((gp_in hN f hm (by omega)).mp t))]
      exact N
    · rw [if_neg t] at N
      rw [if_neg (fun y => t ((gp_in hN f hm (by omega)).mpr (z.mp y)))]
      exact N
theorem M_countGaps {w : pb_W} {n : Nat} (hN : LN w n) (f : Int32) : M_X9_countGaps [.ref 54, .int f] w = some (some (.int (nI (cntN (gpP w f n) 520))), lay w f n) := by
  obtain ⟨a, b, c, d, e⟩ := mnx hN f n (Nat.le_refl n)
  rw [e_X9_countGaps, M_layOut hN, pb_bV_some, show (lay w f n).1 54 3 = nI (mnN w f n) from rfl]
  have c0 : cntN (gpP w f n) (mnN w f n) = 0 := by
    have := cntN_eq (gpP w f n) 0 (mnN w f n) (fun k _ h q => by have := q.2.2.1; omega)
    rw [Nat.zero_add] at this
    exact this
  rcases Bool.eq_false_or_eq_true (anyb w f n) with an | an
  · have c1 : cntN (gpP w f n) 520 = cntN (gpP w f n) (mxN w f n + 1) := by
      have := cntN_eq (gpP w f n) (mxN w f n + 1) (520 - (mxN w f n + 1)) (fun k h _ q => by have := q.2.2.2; omega)
      rw [show mxN w f n + 1 + (520 - (mxN w f n + 1)) = 520 by omega] at this
      exact this
    have le := (has_mn hN f an).2.2
    have := cx_gaps hN f (mxN w f n + 1 - mnN w f n) (mnN w f n) (by omega) (Nat.le_refl _)
    rw [c0] at this
    rw [c1]
    exact this
  · obtain ⟨e1, e2⟩ := e an
    have c1 : cntN (gpP w f n) 520 = 0 := by
      have := cntN_eq (gpP w f n) 0 520 (fun k h _ q => by have := q.2.1; rw [an] at this; cases this)
      exact this
    rw [c1, r_X9_countGaps_12, show (lay w f n).1 54 4 = nI (mxN w f n) from rfl, e1, e2, if_pos (show nI 0 < nI 519 by decide)]
    rfl
theorem x_gaps (a : Int32) (w : pb_W) (hH : iv_H w) (hF : iv_F w) (hL : iv_L w) : ∃ x w1 w2, M_X11_gaps [.ref 0, .int a] w = some (some (.int x), w1) ∧ M_X12_gaps [.ref 64, .int a] w1 = some (some (.int x), w2) ∧ fr (fun c k => (c = 0 ∧ k = 0) ∨ (c = 64 ∧ k = 0) ∨ c = 54 ∨ c = 56) fJ_no w w2 ∧ iv_H w2 := by
  obtain ⟨f, hf, f5, f6, -⟩ := hF
  obtain ⟨n, hN⟩ := LN_of hL
  have k1 : ¬ (1 : Int32) = 0 := by decide
  have C := e_X11_gaps a w
  simp only [M_hasFamily, pb_bI_some, q01, f5, if_neg k1, if_true, ite_true] at C
  have R := fun v : pb_W => e_X12_gaps a v
  simp only [M_isFamily, pb_bI_some, ite_ref, q01] at R
  by_cases h1 : ¬ a < 0 ∧ a < nI f
  · have hN0 : LN (pb_wI w 0 0 0) n := ⟨hN.le, hN.n5, hN.n7, hN.g70, hN.g71, hN.g74, hN.g75, hN.d10, hN.wk, hN.pc, hN.hd, hN.fm⟩
    rw [if_neg (not_not_intro h1), M_countGaps hN0, pb_bI_some] at C
    have hN1 : LN (lay (pb_wI w 0 0 0) a n) n := ⟨hN.le, hN.n5, hN.n7, hN.g70, hN.g71, hN.g74, hN.g75, hN.d10, hN.wk, hN.pc, hN.hd, hN.fm⟩
    have hL1 : iv_L (lay (pb_wI w 0 0 0) a n) := hL
    have R0 := R (lay (pb_wI w 0 0 0) a n)
    rw [show (lay (pb_wI w 0 0 0) a n).1 64 6 = nI f from f6, if_neg (not_not_intro h1)] at R0
    have G := mx_gaps hL1 hN1 a 520 0 (by omega)
    have E : cntN (gpP (lay (pb_wI w 0 0 0) a n) a n) 520 = cntN (gpP (pb_wI w 0 0 0) a n) 520 := cntN_sv (fun k => gpP_sv (v := lay (pb_wI w 0 0 0) a n) (w := pb_wI w 0 0 0) ⟨rfl, rfl, rfl, rfl, rfl, rfl⟩ a n k) 520
    rw [E] at G
    refine ⟨_, _, _, C, R0.trans G, ?_, rfl, hH.2.1, hH.2.2⟩
    exact fr_I (fr_F (fr_F (fr_I (fr_rf w) (by simp)) (by simp)) (by simp)) (by simp)
  · rw [if_pos h1] at C
    have R1 := R (pb_wI w 0 0 1)
    rw [show (pb_wI w 0 0 (1 : Int32)).1 64 6 = nI f from f6, if_pos h1] at R1
    exact ⟨-1, _, _, C, R1, fr_I (fr_I (fr_rf w) (by simp)) (by simp), rfl, hH.2.1, hH.2.2⟩
