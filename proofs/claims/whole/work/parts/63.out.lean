/-! ===== OUT ===== -/
/-- where a told sum lies, or -1 -/
def tdx (f g : Nat → Int32) (a1 a2 : Int32) : Nat → Nat → Int32
  | 0, _ => -1
  | m + 1, i => if f i = a1 ∧ g i = a2 then nI i else tdx f g a1 a2 m (i + 1)
def td (w : pb_W) (a1 a2 : Int32) : Int32 := tdx (w.1 32) (w.1 33) a1 a2 (w.1 31 1).toNatClampNeg 0
theorem tdx_spec (f g : Nat → Int32) (a1 a2 : Int32) : ∀ m i, (tdx f g a1 a2 m i = -1 ∧ ∀ j, i ≤ j → j < i + m → ¬ (f j = a1 ∧ g j = a2)) ∨ ∃ j, i ≤ j ∧ j < i + m ∧ tdx f g a1 a2 m i = nI j ∧ f j = a1 ∧ g j = a2 := by
  intro m
  induction m with
  | zero => exact fun i => Or.inl ⟨rfl, fun j p q => by omega⟩
  | succ m ih =>
    intro i
    rw [tdx]
    by_cases h : f i = a1 ∧ g i = a2
    · rw [if_pos h]
      exact Or.inr ⟨i, by omega, by omega, rfl, h.1, h.2⟩
    · rw [if_neg h]
      rcases ih (i + 1) with ⟨r, s⟩ | ⟨j, l1, l2, r, s1, s2⟩
      · refine Or.inl ⟨r, fun j p q => ?_⟩
        by_cases e : j = i
        · rw [e]; exact h
        · exact s j (by omega) (by omega)
      · exact Or.inr ⟨j, by omega, by omega, r, s1, s2⟩
theorem td_spec {w : pb_W} (hD : iv_D w) (a1 a2 : Int32) : td w a1 a2 = -1 ∨ ∃ j n, j < n ∧ n ≤ 40 ∧ w.1 31 1 = nI n ∧ td w a1 a2 = nI j ∧ w.1 32 j = a1 ∧ w.1 33 j = a2 := by
  obtain ⟨n, hn, h31, -⟩ := hD
  have e : (w.1 31 1).toNatClampNeg = n := by rw [h31]; exact nI_clamp (by omega)
  unfold td
  rw [e]
  rcases tdx_spec (w.1 32) (w.1 33) a1 a2 n 0 with ⟨r, -⟩ | ⟨j, l1, l2, r, s1, s2⟩
  · exact Or.inl r
  · exact Or.inr ⟨j, n, by omega, hn, h31, r, s1, s2⟩
theorem cx_tdx {n : Nat} {a1 a2 : Int32} {w : pb_W} (hn : n ≤ 40) (h1 : w.1 31 1 = nI n) : ∀ (m i : Nat), i + m = n → pb_run T_X6_find (2, [some (.ref 31), some (.int a1), some (.int a2), some (.int (nI i))], [], w) = some (some (.int (tdx (w.1 32) (w.1 33) a1 a2 m i)), w) := by
  intro m
  induction m with
  | zero =>
    intro i hi
    rw [r_X6_find_2, h1, if_neg (show ¬ nI i < nI n by rw [nI_ltI (by omega) (by omega)]; omega), tdx]
  | succ m ih =>
    intro i hi
    have i40 : pb_in (nI i) 40 := pn_in (by omega) (by decide)
    rw [r_X6_find_2, h1, if_pos (show nI i < nI n from nI_lt (by omega) (by omega)), if_pos i40, if_pos i40, nI_clamp (show i < 2 ^ 31 by omega), nI_1, ih (i + 1) (by omega), tdx]
    by_cases p : w.1 32 i = a1
    · by_cases q : w.1 33 i = a2
      · rw [if_pos p, if_pos q, if_pos ⟨p, q⟩]
      · rw [if_pos p, if_neg q, if_neg (fun z => q z.2)]
    · rw [if_neg p, if_neg (fun z => p z.1)]
theorem M_find {w : pb_W} (hD : iv_D w) (a1 a2 : Int32) : M_X6_find [.ref 31, .int a1, .int a2] w = some (some (.int (td w a1 a2)), w) := by
  obtain ⟨n, hn, h31, -⟩ := hD
  have e : (w.1 31 1).toNatClampNeg = n := by rw [h31]; exact nI_clamp (by omega)
  rw [e_X6_find]
  unfold td
  rw [e]
  exact cx_tdx hn h31 n 0 (by omega)
theorem M_toldOf {w : pb_W} (hD : iv_D w) (a1 a2 : Int32) : M_X12_toldOf [.ref 64, .int a1, .int a2] w = some (some (.int (td w a1 a2)), w) := by
  have := M_find hD a1 a2
  obtain ⟨n, hn, h31, h67, g1, g2, -⟩ := hD
  rw [← this, e_X12_toldOf, e_X6_find]
  exact mx_find hn h31 h67 g1 g2 n 0 (by omega)
/-- a line that went from a family in a week, as known -/
abbrev wn (w : pb_W) (k : Nat) (f wk : Int32) : Prop := w.1 9 k = wk ∧ w.1 8 k = f ∧ ¬ w.1 5 19 < w.1 13 k ∧ w.1 12 k = 0
theorem M_went1 {w : pb_W} {k : Nat} (hk : k < 200) : M_X1_went [.ref 5, .int (nI k)] w = some (some (.int (if ¬ w.1 5 19 < w.1 13 k ∧ w.1 12 k = 0 then 1 else 0)), w) := by
  have i200 : pb_in (nI k) 200 := pn_in hk (by decide)
  rw [e_X1_went, if_pos i200, if_pos i200, nI_clamp (show k < 2 ^ 31 by omega)]
  by_cases p : w.1 5 19 < w.1 13 k
  · rw [if_pos p, if_neg (fun z => z.1 p)]
  · by_cases q : w.1 12 k = 0
    · rw [if_neg p, if_pos q, if_pos ⟨p, q⟩]
    · rw [if_neg p, if_neg q, if_neg (fun z => q z.2)]
theorem M_wentFrom_ {w : pb_W} {k : Nat} (hk : k < 200) (f wk : Int32) : M_X1_wentFrom_ [.ref 5, .int (nI k), .int f, .int wk] w = some (some (.int (if wn w k f wk then 1 else 0)), w) := by
  have i200 : pb_in (nI k) 200 := pn_in hk (by decide)
  rw [e_X1_wentFrom_, if_pos i200, if_pos i200, nI_clamp (show k < 2 ^ 31 by omega), M_went1 hk, pb_bI_some]
  simp only [q01]
  unfold wn
  by_cases p : w.1 9 k = wk
  · by_cases q : w.1 8 k = f
    · by_cases r : ¬ w.1 5 19 < w.1 13 k ∧ w.1 12 k = 0
      · rw [if_pos p, if_pos q, if_neg (not_not_intro r), if_pos ⟨p, q, r⟩]
      · rw [if_pos p, if_pos q, if_pos r, if_neg (fun z => r z.2.2)]
    · rw [if_pos p, if_neg q, if_neg (fun z => q z.2.1)]
  · rw [if_neg p, if_neg (fun z => p z.1)]
/-- went of the reference: a line of a family, as known -/
abbrev wf (w : pb_W) (k : Nat) (f : Int32) : Prop := w.1 8 k = f ∧ ¬ w.1 5 19 < w.1 13 k ∧ w.1 12 k = 0
theorem M_went {w : pb_W} (hL : iv_L w) {k : Nat} (hk : k < 200) (f : Int32) : M_X12_went [.ref 64, .int (nI k), .int f] w = some (some (.int (if wf w k f then 1 else 0)), w) := by
  obtain ⟨n, r, hn, hr, n5, n7, r13, r8, d9, d10, ⟨g70, g71, g72, g74, g81, g75, g79, g73, g76, g77, g78⟩, -⟩ := hL
  have i200 : pb_in (nI k) 200 := pn_in hk (by decide)
  rw [e_X12_went, e_X12_isKnown, if_pos i200, if_pos i200, if_pos i200, nI_clamp (show k < 2 ^ 31 by omega), g70, g81, g75, d10]
  unfold wf
  by_cases p : w.1 8 k = f
  · by_cases q : w.1 12 k = 0
    · by_cases r : w.1 5 19 < w.1 13 k
      · rw [if_pos p, if_pos q, if_pos r, pb_bI_some, if_pos rfl, if_neg (fun z => z.2.1 r)]
      · rw [if_pos p, if_pos q, if_neg r, pb_bI_some, if_neg (show ¬ (1 : Int32) = 0 by decide), if_pos ⟨p, r, q⟩]
    · rw [if_pos p, if_neg q, if_neg (fun z => q z.2.2)]
  · rw [if_neg p, if_neg (fun z => p z.1)]
/-- what went in a week, over the first i lines -/
def spn (w : pb_W) (f wk : Int32) : Nat → Int32
  | 0 => 0
  | i + 1 => if wn w i f wk then spn w f wk i + w.1 16 i else spn w f wk i
theorem cx_spent {w : pb_W} {n : Nat} (hn : n ≤ 200) (h : w.1 5 3 = nI n) (f wk : Int32) : ∀ m i, i + m = n → pb_run T_X1_spentOnAll (5, [some (.ref 5), some (.int f), some (.int wk), some (.int (spn w f wk i)), some (.int (nI i))], [], w) = some (some (.int (spn w f wk n)), w) := by
  intro m
  induction m with
  | zero =>
    intro i hi
    rw [r_X1_spentOnAll_5, h, if_neg (show ¬ nI i < nI n by rw [nI_ltI (by omega) (by omega)]; omega), show i = n by omega]
  | succ m ih =>
    intro i hi
    have i200 : pb_in (nI i) 200 := pn_in (by omega) (by decide)
    have N := ih (i + 1) (by omega)
    rw [spn] at N
    rw [r_X1_spentOnAll_5, h, if_pos (show nI i < nI n from nI_lt (by omega) (by omega)), M_wentFrom_ (show i < 200 by omega), pb_bI_some, if_pos i200, nI_clamp (show i < 2 ^ 31 by omega), nI_1]
    simp only [q01]
    by_cases p : wn w i f wk
    · rw [if_pos p] at N
      rw [if_neg (not_not_intro p)]
      exact N
    · rw [if_neg p] at N
      rw [if_pos p]
      exact N
theorem mx_spent {w : pb_W} (hL : iv_L w) {n : Nat} (hn : n ≤ 200) (h5 : w.1 5 3 = nI n) (h7 : w.1 64 7 = nI n) (g71 : w.1 71 = w.1 9) (f wk z : Int32) : ∀ m i, i + m = n → pb_run T_X12_spentOf (6, [some (.ref 64), some (.int f), some (.int wk), some (.int (-1)), some (.int z), some (.int (spn w f wk i)), some (.int (nI i))], [], w) = some (some (.int (spn w f wk n)), w) := by
  intro m
  induction m with
  | zero =>
    intro i hi
    rw [r_X12_spentOf_6, h7, if_neg (show ¬ nI i < nI n by rw [nI_ltI (by omega) (by omega)]; omega), show i = n by omega]
  | succ m ih =>
    intro i hi
    have i200 : pb_in (nI i) 200 := pn_in (by omega) (by decide)
    have N := ih (i + 1) (by omega)
    rw [spn] at N
    have P : M_X12_penceOf [.ref 64, .int (nI i)] w = some (some (.int (w.1 16 i)), w) := M_penceOf hL (fun n' e l => by
      rw [h5] at e
      have := (nI_eq (show n < 2 ^ 31 by omega) (show n' < 2 ^ 31 by omega)).mp e
      omega)
    rw [r_X12_spentOf_6, h7, if_pos (show nI i < nI n from nI_lt (by omega) (by omega)), M_went hL (show i < 200 by omega), pb_bI_some, if_pos i200, nI_clamp (show i < 2 ^ 31 by omega), nI_1, P, pb_bI_some, if_pos rfl, g71]
    simp only [q01]
    by_cases p : wn w i f wk
    · rw [if_pos p] at N
      rw [if_pos p.1, if_neg (not_not_intro p.2)]
      exact N
    · rw [if_neg p] at N
      by_cases q : w.1 9 i = wk
      · rw [if_pos q, if_pos (fun z => p ⟨q, z⟩)]
        exact N
      · rw [if_neg q]
        exact N
theorem M_spentOnAll {w : pb_W} (hL : iv_L w) {n : Nat} (hn : n ≤ 200) (h5 : w.1 5 3 = nI n) (f wk : Int32) : M_X1_spentOnAll [.ref 5, .int f, .int wk] w = some (some (.int (spn w f wk n)), w) := by
  rw [e_X1_spentOnAll]
  exact cx_spent hn h5 f wk n 0 (by omega)
theorem M_spentOf {w : pb_W} (hL : iv_L w) {n : Nat} (hn : n ≤ 200) (h5 : w.1 5 3 = nI n) (f wk : Int32) : M_X12_spentOf [.ref 64, .int f, .int wk, .int (-1), .int 0] w = some (some (.int (spn w f wk n)), w) := by
  have hL' := hL
  obtain ⟨n', r, hn', hr, n5, n7, r13, r8, d9, d10, ⟨g70, g71, g72, g74, g81, g75, g79, g73, g76, g77, g78⟩, -⟩ := hL
  have : n = n' := by
    rw [h5] at n5
    exact (nI_eq (show n < 2 ^ 31 by omega) (show n' < 2 ^ 31 by omega)).mp n5
  subst this
  rw [e_X12_spentOf]
  exact mx_spent hL' hn h5 n7 g71 f wk 0 n 0 (by omega)
theorem spn_eq {w v : pb_W} (h5 : v.1 5 19 = w.1 5 19) (h8 : v.1 8 = w.1 8) (h9 : v.1 9 = w.1 9) (h12 : v.1 12 = w.1 12) (h13 : v.1 13 = w.1 13) (h16 : v.1 16 = w.1 16) (f wk : Int32) : ∀ i, spn v f wk i = spn w f wk i
  | 0 => rfl
  | i + 1 => by
    have e : wn v i f wk ↔ wn w i f wk := by unfold wn; rw [h5, h8, h9, h12, h13]
    rw [spn, spn, spn_eq h5 h8 h9 h12 h13 h16 f wk i, h16]
    by_cases p : wn w i f wk
    · rw [if_pos p, if_pos (e.mpr p)]
    · rw [if_neg p, if_neg (fun q => p (e.mp q))]
theorem x_out (a1 a2 : Int32) (w : pb_W) (hH : iv_H w) (hF : iv_F w) (hL : iv_L w) (hD : iv_D w) : ∃ x w1 w2, M_X11_out [.ref 0, .int a1, .int a2] w = some (some (.int x), w1) ∧ M_X12_out [.ref 64, .int a1, .int a2] w1 = some (some (.int x), w2) ∧ fr fI_0 fJ_no w w2 ∧ iv_H w2 := by
  obtain ⟨f, hf, f5, f6, -⟩ := hF
  obtain ⟨n, -, hn, -, n5, -⟩ := id hL
  have k1 : ¬ (1 : Int32) = 0 := by decide
  have k6 : ¬ (6 : Int32) = 0 := by decide
  have refuse : ∀ v : Int32, (fr fI_0 fJ_no w (pb_wI (pb_wI w 0 0 v) 64 0 v) ∧ iv_H (pb_wI (pb_wI w 0 0 v) 64 0 v)) := fun v => ⟨fr_I (fr_I (fr_rf w) (by simp [fI_0])) (by simp [fI_0]), ⟨rfl, hH.2.1, hH.2.2⟩⟩
  have C := e_X11_out a1 a2 w
  simp only [M_noFamilyWeek, pb_bI_some, q01, f5, e_X6_isTold, M_find hD, r_X11_out_36, if_neg k1] at C
  have R := fun v : Int32 => e_X12_out a1 a2 (pb_wI w 0 0 v)
  have f6' : ∀ v : Int32, (pb_wI w 0 0 v).1 64 6 = nI f := fun v => f6
  have tE : ∀ v : Int32, td (pb_wI w 0 0 v) a1 a2 = td w a1 a2 := fun v => rfl
  simp only [M_isFamily, M_isWeek, pb_bI_some, ite_ref, q01, q10, f6', fun v : Int32 => M_toldOf (w := pb_wI w 0 0 v) hD, tE] at R
  by_cases h1 : ¬ a1 < 0 ∧ a1 < nI f
  · by_cases h2 : a2 < 0 ∨ 519 < a2
    · rw [if_neg (not_not_intro (Or.inr h2))] at C
      have R1 := R 1
      rw [if_neg (not_not_intro h1), if_pos h2] at R1
      exact ⟨-1, _, _, C, R1, refuse 1⟩
    · rw [if_pos (fun q => q.elim (fun z => z h1) h2)] at C
      rcases td_spec hD a1 a2 with t | ⟨j, m, lj, lm, -, t, -, -⟩
      · rw [if_pos t, pb_bI_some, if_pos rfl, if_neg k6] at C
        have R6 := R 6
        rw [if_neg (not_not_intro h1), if_neg h2, if_pos t] at R6
        exact ⟨-1, _, _, C, R6, refuse 6⟩
      · have m1 : ¬ td w a1 a2 = -1 := by rw [t]; exact pn_m1 j (by omega)
        have i40 : pb_in (td w a1 a2) 40 := by rw [t]; exact pn_in (by omega) (by decide)
        have g := hD
        obtain ⟨-, -, -, -, -, -, g106, -⟩ := g
        rw [if_neg m1, pb_bI_some, if_neg k1, if_pos trivial, e_X6_outBy, M_find (w := pb_wI w 0 0 0) hD, pb_bI_some, tE 0, if_neg m1, if_pos i40, M_spentOnAll (w := pb_wI w 0 0 0) hL hn n5, pb_bI_some, pb_bI_some] at C
        have R0 := R 0
        rw [if_neg (not_not_intro h1), if_neg h2, if_neg m1, if_pos i40, M_spentOf (w := pb_wI w 0 0 0) hL hn n5, pb_bI_some, e_X12_gives, pb_bI_some, show (pb_wI w 0 0 (0 : Int32)).1 106 = (pb_wI w 0 0 (0 : Int32)).1 34 from g106] at R0
        exact ⟨_, _, _, C, R0, refuse 0⟩
  · rw [if_neg (not_not_intro (Or.inl h1))] at C
    have R1 := R 1
    rw [if_pos h1] at R1
    exact ⟨-1, _, _, C, R1, refuse 1⟩
