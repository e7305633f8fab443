theorem out_n {n : Nat} (hn : n ≤ 1000) (x : Int32) : (nI n - 1 < x) ↔ ¬ x < nI n := by
  have e : nI n - 1 = iI ((n : Int) - 1) := by rw [iI_n (by omega), show (1 : Int32) = iI 1 from rfl, iI_sub]
  rw [e, pn_lt, pn_lt, iI_toInt (by omega) (by omega), nI_toInt (by omega)]
  omega
theorem M_span_bad {w : pb_W} {nO : Nat} (hO : nO ≤ 12) (h61 : w.1 61 2 = nI nO) {a1 a2 : Int32} (h : ¬ (¬ a1 < 0 ∧ a1 < nI nO) ∨ (a2 < 1 ∨ 26 < a2)) : M_X2_spanStatus [.ref 61, .int a1, .int a2] w = some (some (.int 1), w) := by
  rw [e_X2_spanStatus, h61, M_outside, pb_bI_some, M_outside, pb_bI_some]
  simp only [q01, out_n (show nO ≤ 1000 by omega) a1]
  by_cases p : a1 < 0 ∨ ¬ a1 < nI nO
  · rw [if_neg (not_not_intro p)]
  · rw [if_pos p, if_neg]
    intro q
    rcases h with h | h
    · exact h ⟨fun z => p (Or.inl z), Classical.byContradiction fun z => p (Or.inr z)⟩
    · exact q h
theorem M_span {w : pb_W} {nO l m k0 : Nat} (hO : nO ≤ 12) (h61 : w.1 61 2 = nI nO) (hl : l < nO) (hm : 1 ≤ m) (hm2 : m ≤ 26) (e63 : w.1 63 l = nI k0) (hk : k0 < 520) : M_X2_spanStatus [.ref 61, .int (nI l), .int (nI m)] w = some (some (.int (if m ≤ k0 ∧ k0 + m ≤ 520 then 0 else 6)), w) := by
  have l12 : pb_in (nI l) 12 := pn_in (by omega) (by decide)
  rw [e_X2_spanStatus, h61, M_outside, pb_bI_some, M_outside, pb_bI_some]
  simp only [q01, out_n (show nO ≤ 1000 by omega) (nI l), if_pos l12, nI_clamp (show l < 2 ^ 31 by omega), e63, if_neg (show ¬ (1 : Int32) = 0 by decide), if_true, ite_true]
  rw [if_pos (show ¬ (nI l < 0 ∨ ¬ nI l < nI nO) from fun q => q.elim (nI_pos (by omega)) (fun z => z (nI_lt hl (by omega)))), if_pos (show ¬ (nI m < 1 ∨ 26 < nI m) from fun q => q.elim (fun z => by
    have := (nI_ltI (b := 1) (show m < 2 ^ 31 by omega) (by decide)).mp z
    omega) (fun z => by
    have := (nI_ltI (a := 26) (by decide) (show m < 2 ^ 31 by omega)).mp z
    omega))]
  have e1 : nI k0 - nI m = iI ((k0 : Int) - m) := by rw [iI_n (by omega), iI_n (by omega), iI_sub]
  have c1 : (nI k0 - nI m < 0) ↔ k0 < m := by
    rw [e1, show (0 : Int32) = iI 0 from rfl, iI_lt (by omega) (by omega) (by omega) (by omega)]
    omega
  have c2 : (519 < nI k0 + nI m - 1) ↔ 520 < k0 + m := by
    rw [nI_add, show nI (k0 + m) - (1 : Int32) = nI (k0 + m - 1) from nI_subN (b := 1) (by omega), show (519 : Int32) = nI 519 from rfl, nI_ltI (by omega) (by omega)]
    omega
  by_cases p : k0 < m
  · rw [if_pos (c1.mpr p), if_neg (by omega)]
  · rw [if_neg (fun q => p (c1.mp q))]
    by_cases q : 520 < k0 + m
    · rw [if_pos (c2.mpr q), if_neg (by omega)]
    · rw [if_neg (fun z => q (c2.mp z)), if_pos (by omega)]
theorem M_areWeeks {w : pb_W} {l m k0 : Nat} (hl : l < 12) (hm2 : m ≤ 26) (e129 : w.1 129 l = nI k0) (hk : k0 < 520) : M_X12_areWeeks [.ref 64, .int (nI l), .int (nI m)] w = some (some (.int (if m ≤ k0 ∧ k0 + m ≤ 520 then 1 else 0)), w) := by
  have l12 : pb_in (nI l) 12 := pn_in hl (by decide)
  rw [e_X12_areWeeks, if_pos l12, if_pos l12, nI_clamp (show l < 2 ^ 31 by omega), e129, nI_add]
  by_cases p : k0 < m
  · rw [if_pos (nI_lt p (by omega)), if_neg (by omega)]
  · rw [if_neg (nI_nlt (by omega) (by omega))]
    by_cases q : 520 < k0 + m
    · rw [if_pos (show (520 : Int32) < nI (k0 + m) from nI_lt (a := 520) q (by omega)), if_neg (by omega)]
    · rw [if_neg (show ¬ (520 : Int32) < nI (k0 + m) from nI_nlt (a := 520) (by omega) (by decide)), if_pos (by omega)]
/-- how many of the first j families are alike -/
noncomputable def lkn (w : pb_W) (nL nO l k0 m : Nat) : Nat → Int32
  | 0 => 0
  | j + 1 => lkn w nL nO l k0 m j + b1 (lkP w nL nO l j k0 m)
theorem cx_likes {w : pb_W} {nL nO nF : Nat} (hN : LN w nL) (hO : nO ≤ 12) (h61 : w.1 61 2 = nI nO) (hF : nF ≤ 12) (f5 : w.1 5 0 = nI nF) {l o k0 m : Nat} (hl : l < 12) (ho : o < 12) (e62 : w.1 62 l = nI o) (e63 : w.1 63 l = nI k0) (hm : 1 ≤ m) (hm2 : m ≤ 26) (hk : m ≤ k0) (hk2 : k0 + m ≤ 520) : ∀ r j, j + r = nF → pb_run T_X2_countLikes (5, [some (.ref 61), some (.int (nI l)), some (.int (nI m)), some (.int (lkn w nL nO l k0 m j)), some (.int (nI j))], [], w) = some (some (.int (lkn w nL nO l k0 m nF)), w) := by
  intro r
  induction r with
  | zero =>
    intro j hj
    rw [r_X2_countLikes_5, f5, if_neg (show ¬ nI j < nI nF by rw [nI_ltI (by omega) (by omega)]; omega), show j = nF by omega]
  | succ r ih =>
    intro j hj
    have N := ih (j + 1) (by omega)
    rw [lkn] at N
    rw [r_X2_countLikes_5, f5, if_pos (show nI j < nI nF from nI_lt (by omega) (by omega)), M_isLike1 hN hO h61 hl ho e62 e63 (show j < 12 by omega) hm hm2 hk hk2, pb_bI_some, nI_1]
    by_cases t : lkP w nL nO l j k0 m
    · rw [b1_pos t] at N
      rw [b1_pos t, if_neg (show ¬ (1 : Int32) = 0 by decide)]
      exact N
    · rw [b1_neg t, Int32.add_zero] at N
      rw [b1_neg t, if_pos rfl]
      exact N
theorem mx_likes {w : pb_W} (hL : iv_L w) {nL nO nF : Nat} (hN : LN w nL) (hO : nO ≤ 12) (h98 : w.1 64 98 = nI nO) (g128 : w.1 128 = w.1 62) (g129 : w.1 129 = w.1 63) (g68 : w.1 68 = w.1 6) (hF : nF ≤ 12) (f6 : w.1 64 6 = nI nF) {l o k0 m : Nat} (hl : l < 12) (ho : o < 12) (e62 : w.1 62 l = nI o) (e63 : w.1 63 l = nI k0) (hm : 1 ≤ m) (hm2 : m ≤ 26) (hk : m ≤ k0) (hk2 : k0 + m ≤ 520) : ∀ r j, j + r = nF → pb_run T_X12_likes (50, [some (.ref 64), some (.int (nI l)), some (.int (nI m)), some (.int (lkn w nL nO l k0 m j)), some (.int (nI j))], [], w) = some (some (.int (lkn w nL nO l k0 m nF)), pb_wI w 64 0 0) := by
  intro r
  induction r with
  | zero =>
    intro j hj
    rw [r_X12_likes_50, f6, if_neg (show ¬ nI j < nI nF by rw [nI_ltI (by omega) (by omega)]; omega), e_X12_gives, pb_bI_some, show j = nF by omega]
  | succ r ih =>
    intro j hj
    have N := ih (j + 1) (by omega)
    rw [lkn] at N
    rw [r_X12_likes_50, f6, if_pos (show nI j < nI nF from nI_lt (by omega) (by omega)), M_isLike2 hL hN hO h98 g128 g129 g68 hl ho e62 e63 (show j < 12 by omega) hm hm2 hk hk2, pb_bI_some, nI_1]
    by_cases t : lkP w nL nO l j k0 m
    · rw [b1_pos t] at N
      rw [b1_pos t, if_neg (show ¬ (1 : Int32) = 0 by decide)]
      exact N
    · rw [b1_neg t] at N
      rw [b1_neg t, if_pos rfl]
      exact N
theorem alP_sv {v w : pb_W} (h : SV v w) (f : Int32) (lo n2 n : Nat) : alP v f lo n2 n ↔ alP w f lo n2 n := by
  unfold alP
  simp only [spN_sv h]
theorem lkP_sv {v w : pb_W} (h : SV v w) (h6 : v.1 6 = w.1 6) (h62 : v.1 62 = w.1 62) (h63 : v.1 63 = w.1 63) (nL nO l j k0 m : Nat) : lkP v nL nO l j k0 m ↔ lkP w nL nO l j k0 m := by
  unfold lkP lst lsP
  rw [alP_sv h, h6, h62, h63]
theorem b1_iff {P Q : Prop} (h : P ↔ Q) : b1 P = b1 Q := by rw [propext h]
theorem lkn_sv {v w : pb_W} (h : SV v w) (h6 : v.1 6 = w.1 6) (h62 : v.1 62 = w.1 62) (h63 : v.1 63 = w.1 63) (nL nO l k0 m : Nat) : ∀ j, lkn v nL nO l k0 m j = lkn w nL nO l k0 m j
  | 0 => rfl
  | j + 1 => by rw [lkn, lkn, lkn_sv h h6 h62 h63 nL nO l k0 m j, b1_iff (lkP_sv h h6 h62 h63 nL nO l j k0 m)]
theorem x_likes (a1 a2 : Int32) (w : pb_W) (hH : iv_H w) (hF : iv_F w) (hL : iv_L w) (hO : iv_O w) : ∃ x w1 w2, M_X11_likes [.ref 0, .int a1, .int a2] w = some (some (.int x), w1) ∧ M_X12_likes [.ref 64, .int a1, .int a2] w1 = some (some (.int x), w2) ∧ fr fI_0 fJ_no w w2 ∧ iv_H w2 := by
  obtain ⟨nF, hf, f5, f6, g68, -⟩ := hF
  obtain ⟨nO, hn, h61, h98, g128, g129, gk⟩ := hO
  obtain ⟨nL, hN⟩ := LN_of hL
  have k1 : ¬ (1 : Int32) = 0 := by decide
  have k6 : ¬ (6 : Int32) = 0 := by decide
  have refuse : ∀ v : Int32, (fr fI_0 fJ_no w (pb_wI (pb_wI w 0 0 v) 64 0 v) ∧ iv_H (pb_wI (pb_wI w 0 0 v) 64 0 v)) := fun v => ⟨fr_I (fr_I (fr_rf w) (by simp [fI_0])) (by simp [fI_0]), ⟨rfl, hH.2.1, hH.2.2⟩⟩
  have C := e_X11_likes a1 a2 w
  have R := fun v : Int32 => e_X12_likes a1 a2 (pb_wI w 0 0 v)
  have h98' : ∀ v : Int32, (pb_wI w 0 0 v).1 64 98 = nI nO := fun v => h98
  simp only [ite_ref, h98'] at R
  by_cases h1 : ¬ a1 < 0 ∧ a1 < nI nO
  · by_cases h2 : a2 < 1 ∨ 26 < a2
    · rw [M_span_bad hn h61 (Or.inr h2), pb_bI_some, if_neg k1] at C
      refine ⟨-1, _, pb_wI (pb_wI w 0 0 1) 64 0 1, C, ?_, refuse 1⟩
      rw [R, if_neg h1.1, if_pos h1.2]
      by_cases q : a2 < 1
      · rw [if_pos q]
      · rw [if_neg q, if_pos (h2.resolve_left q)]
    · obtain ⟨l, ll, el⟩ := nI_of h1.1
      have ll' : l < nO := by
        have q := h1.2
        rw [el] at q
        exact (nI_ltI ll (by omega)).mp q
      obtain ⟨m, m1, m2, em⟩ := px_1to (N := 26) (by decide) (show ¬ (a2 < 1 ∨ nI 26 < a2) from h2)
      obtain ⟨⟨o, lo, eo⟩, k0, lk, ek⟩ := gk l ll'
      rw [el, em, M_span hn h61 ll' m1 m2 ek lk, pb_bI_some] at C
      have R' : ∀ v : Int32, _ := fun v => R v
      have A : ∀ v : Int32, M_X12_areWeeks [.ref 64, .int a1, .int a2] (pb_wI w 0 0 v) = some (some (.int (if m ≤ k0 ∧ k0 + m ≤ 520 then 1 else 0)), pb_wI w 0 0 v) := by
        intro v
        rw [el, em]
        exact M_areWeeks (show l < 12 by omega) m2 (show (pb_wI w 0 0 v).1 129 l = nI k0 from (congrFun g129 l).trans ek) lk
      simp only [if_neg h1.1, if_pos h1.2, if_neg (fun q => h2 (Or.inl q)), if_neg (fun q => h2 (Or.inr q)), A, pb_bI_some] at R'
      rw [el, em] at R'
      rw [el, em]
      by_cases q : m ≤ k0 ∧ k0 + m ≤ 520
      · have hN0 : LN (pb_wI w 0 0 0) nL := LN_sv hN rfl rfl rfl rfl rfl rfl rfl rfl rfl rfl rfl rfl
        rw [if_pos q, if_pos rfl, e_X2_countLikes, show pb_run T_X2_countLikes (5, [some (.ref 61), some (.int (nI l)), some (.int (nI m)), some (.int (0 : Int32)), some (.int (0 : Int32))], [], pb_wI w 0 0 0) = _ from cx_likes (w := pb_wI w 0 0 0) hN0 hn h61 hf f5 (show l < 12 by omega) lo eo ek m1 m2 q.1 q.2 nF 0 (by omega), pb_bI_some] at C
        have R0 := R' 0
        rw [if_pos q, if_neg k1, show pb_run T_X12_likes (50, [some (.ref 64), some (.int (nI l)), some (.int (nI m)), some (.int (0 : Int32)), some (.int (0 : Int32))], [], pb_wI w 0 0 0) = _ from mx_likes (w := pb_wI w 0 0 0) hL hN0 hn h98 g128 g129 g68 hf f6 (show l < 12 by omega) lo eo ek m1 m2 q.1 q.2 nF 0 (by omega)] at R0
        exact ⟨_, _, _, C, R0, refuse 0⟩
      · rw [if_neg q, if_neg k6] at C
        have R6 := R' 6
        rw [if_neg q, if_pos rfl] at R6
        exact ⟨_, _, _, C, R6, refuse 6⟩
  · rw [M_span_bad hn h61 (Or.inl h1), pb_bI_some, if_neg k1] at C
    refine ⟨-1, _, pb_wI (pb_wI w 0 0 1) 64 0 1, C, ?_, refuse 1⟩
    rw [R]
    by_cases q : a1 < 0
    · rw [if_pos q]
    · rw [if_neg q, if_neg (fun z => h1 ⟨q, z⟩)]
