/-- the reference's pence of a line -/
theorem mx_pence {k r : Nat} {w : pb_W} (hk : k < 200) (hr : r ≤ 60) (h8 : w.1 64 8 = nI r) (hl : ∀ i, i < r → ∃ c, c < 200 ∧ w.1 76 i = nI c) : ∀ (m i : Nat) (v : Int32), i + m = r → pb_run T_X12_penceOf (9, [some (.ref 64), some (.int (nI k)), some (.int (pkf (w.1 76) (w.1 77) (w.1 78) (w.1 64 10) k v i)), some (.int (nI i))], [], w) = some (some (.int (pkf (w.1 76) (w.1 77) (w.1 78) (w.1 64 10) k v r)), w) := by
  intro m
  induction m with
  | zero =>
    intro i v hi
    rw [r_X12_penceOf_9, h8, if_neg (show ¬ nI i < nI r by rw [nI_ltI (by omega) (by omega)]; omega), show i = r by omega]
  | succ m ih =>
    intro i v hi
    have i60 : pb_in (nI i) 60 := pn_in (by omega) (by decide)
    have n1 := ih (i + 1) v (by omega)
    rw [pkf] at n1
    rw [r_X12_penceOf_9, h8, if_pos (show nI i < nI r from nI_lt (by omega) (by omega)), if_pos i60, if_pos i60, if_pos i60, nI_clamp (show i < 2 ^ 31 by omega), nI_1]
    by_cases q : w.1 76 i = nI k
    · rw [if_pos q]
      by_cases d : w.1 64 10 < w.1 78 i
      · rw [if_neg (fun z => z.2 d)] at n1
        rw [if_pos d, n1]
      · rw [if_pos ⟨q, d⟩] at n1
        rw [if_neg d, n1]
    · rw [if_neg (fun z => q z.1)] at n1
      rw [if_neg q, n1]
theorem M_penceOf {k : Nat} {w : pb_W} (hL : iv_L w) (hk : ∀ n, w.1 5 3 = nI n → n ≤ 200 → k < n) : M_X12_penceOf [.ref 64, .int (nI k)] w = some (some (.int (w.1 16 k)), w) := by
  obtain ⟨n, r, hn, hr, n5, n7, r13, r8, d9, d10, ⟨g70, g71, g72, g74, g81, g75, g79, g73, g76, g77, g78⟩, gl, gr, gp, hd, ha⟩ := hL
  have kn := hk n n5 hn
  rw [e_X12_penceOf, if_pos (pn_in (by omega) (by decide)), nI_clamp (show k < 2 ^ 31 by omega)]
  have := mx_pence (k := k) (w := w) (by omega) hr r8 (fun i hi => by obtain ⟨c, lc, ec⟩ := (gr i hi).1; exact ⟨c, by omega, by rw [g76]; exact ec⟩) r 0 (w.1 73 k) (by omega)
  rw [pkf] at this
  refine this.trans ?_
  rw [gp k kn, g73, g76, g77, g78, d10]
abbrev fI_0 : Nat → Nat → Prop := fun c k => (c = 0 ∧ k = 0) ∨ (c = 64 ∧ k = 0)
theorem x_pence (a : Int32) (w : pb_W) (hH : iv_H w) (hL : iv_L w) : ∃ x w1 w2, M_X11_pence [.ref 0, .int a] w = some (some (.int x), w1) ∧ M_X12_pence [.ref 64, .int a] w1 = some (some (.int x), w2) ∧ fr fI_0 fJ_no w w2 ∧ iv_H w2 ∧ iv_L w2 := by
  have hL' := hL
  obtain ⟨n, r, hn, hr, n5, n7, r13, r8, d9, d10, ⟨g70, g71, g72, g74, g81, g75, g79, g73, g76, g77, g78⟩, gl, gr, gp, hd, ha⟩ := hL
  have k1 : ¬ (1 : Int32) = 0 := by decide
  have k6 : ¬ (6 : Int32) = 0 := by decide
  have refuse : ∀ v : Int32, (fr fI_0 fJ_no w (pb_wI (pb_wI w 0 0 v) 64 0 v) ∧ iv_H (pb_wI (pb_wI w 0 0 v) 64 0 v) ∧ iv_L (pb_wI (pb_wI w 0 0 v) 64 0 v)) := fun v => ⟨fr_I (fr_I (fr_rf w) (by simp [fI_0])) (by simp [fI_0]), ⟨rfl, hH.2.1, hH.2.2⟩, hL'⟩
  have C := e_X11_pence a w
  rw [e_X1_lineStatus, M_hasLine, pb_bI_some, n5] at C
  have R := fun v : Int32 => e_X12_pence a (pb_wI w 0 0 v)
  have n7' : ∀ v : Int32, (pb_wI w 0 0 v).1 64 7 = nI n := fun v => n7
  simp only [M_isLine, pb_bI_some, ite_ref, n7'] at R
  simp only [q01] at C R
  by_cases h1 : ¬ a < 0 ∧ a < nI n
  · obtain ⟨c, lc, ec⟩ := nI_of h1.1
    have lc' : c < n := by
      have q := h1.2
      rw [ec] at q
      exact (nI_ltI lc (by omega)).mp q
    have i200 : pb_in a 200 := by rw [ec]; exact pn_in (by omega) (by decide)
    have ac : a.toNatClampNeg = c := by rw [ec]; exact nI_clamp lc
    have Q : ∀ v : Int32, (pb_wI w 0 0 v).1 64 10 < (pb_wI w 0 0 v).1 75 c ↔ w.1 5 19 < w.1 13 c := by
      intro v
      show w.1 64 10 < w.1 75 c ↔ _
      rw [d10, g75]
    rw [if_neg (not_not_intro h1), e_X1_isKnown, if_pos i200, ac] at C
    by_cases d : w.1 5 19 < w.1 13 c
    · rw [if_pos d, pb_bI_some, if_pos rfl, pb_bI_some, if_neg k6] at C
      have R6 := R 6
      rw [if_neg (not_not_intro h1), e_X12_isKnown, if_pos i200, ac, if_pos ((Q 6).mpr d), pb_bI_some, if_pos rfl] at R6
      exact ⟨-1, _, _, C, R6, refuse 6⟩
    · rw [if_neg d, pb_bI_some, if_neg k1, pb_bI_some, if_pos rfl, if_pos i200] at C
      have R0 := R 0
      rw [if_neg (not_not_intro h1), e_X12_isKnown, if_pos i200, ac, if_neg (fun q => d ((Q 0).mp q)), pb_bI_some, if_neg k1, ec, M_penceOf (k := c) (w := pb_wI w 0 0 0) hL' (fun m q hm => by
        have q' : nI n = nI m := n5.symm.trans q
        have := (nI_eq (by omega) (by omega)).mp q'
        omega), pb_bI_some, e_X12_gives, pb_bI_some] at R0
      rw [ec] at C
      rw [ec]
      exact ⟨_, _, _, C, R0, refuse 0⟩
  · rw [if_pos h1, pb_bI_some, if_neg k1] at C
    have R1 := R 1
    rw [if_pos h1] at R1
    exact ⟨-1, _, _, C, R1, refuse 1⟩
