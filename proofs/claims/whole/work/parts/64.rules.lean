/-! ===== RULES, WEIGHT ===== -/
def iv_U (w : pb_W) : Prop := w.1 64 76 = w.1 39 2 ∧ w.1 64 77 = w.1 51 2 ∧ (∃ c, 1 ≤ c ∧ c ≤ 60 ∧ w.1 39 2 = nI c) ∧ ∃ c, 1 ≤ c ∧ c ≤ 12 ∧ w.1 51 2 = nI c
abbrev fI_U : Nat → Nat → Prop := fun c k => (c = 0 ∧ k = 0) ∨ (c = 64 ∧ k = 0) ∨ (c = 39 ∧ k = 2) ∨ (c = 51 ∧ k = 2) ∨ (c = 64 ∧ k = 76) ∨ (c = 64 ∧ k = 77)
theorem px_1to {N : Nat} (hN : N < 2 ^ 31) {a : Int32} (h : ¬ (a < 1 ∨ nI N < a)) : ∃ c, 1 ≤ c ∧ c ≤ N ∧ a = nI c := by
  have e1 : (1 : Int32).toInt = 1 := by decide
  have e0 : (0 : Int32).toInt = 0 := by decide
  have h0 : ¬ a < 0 := fun q => h (Or.inl (pn_lt.mpr (by rw [pn_lt, e0] at q; rw [e1]; omega)))
  obtain ⟨c, lc, ec⟩ := px_to hN (fun q => q.elim h0 (fun q => h (Or.inr q)))
  refine ⟨c, ?_, lc, ec⟩
  rcases Nat.eq_zero_or_pos c with q | q
  · refine absurd (Or.inl ?_) h
    rw [ec, q]
    decide
  · exact q
theorem x_rules (a1 a2 : Int32) (w : pb_W) (hH : iv_H w) (hU : iv_U w) : ∃ x w1 w2, M_X11_rules [.ref 0, .int a1, .int a2] w = some (some (.int x), w1) ∧ M_X12_rules [.ref 64, .int a1, .int a2] w1 = some (some (.int x), w2) ∧ fr fI_U fJ_no w w2 ∧ iv_H w2 ∧ iv_U w2 := by
  have k1 : ¬ (1 : Int32) = 0 := by decide
  have refuse : (fr fI_U fJ_no w (pb_wI (pb_wI w 0 0 1) 64 0 1) ∧ iv_H (pb_wI (pb_wI w 0 0 1) 64 0 1) ∧ iv_U (pb_wI (pb_wI w 0 0 1) 64 0 1)) := ⟨fr_I (fr_I (fr_rf w) (by simp [fI_U])) (by simp [fI_U]), ⟨rfl, hH.2.1, hH.2.2⟩, hU⟩
  have C := e_X11_rules a1 a2 w
  simp only [M_outside, pb_bI_some, q01, r_X11_rules_36, if_neg k1] at C
  have R := fun v : pb_W => e_X12_rules a1 a2 v
  simp only [ite_is0, ite_is 1 k1] at R
  by_cases h1 : a1 < 1 ∨ 60 < a1
  · rw [if_neg (not_not_intro h1)] at C
    refine ⟨0, _, pb_wI (pb_wI w 0 0 1) 64 0 1, C, ?_, refuse⟩
    rw [R]
    by_cases q : a1 < 1
    · rw [if_pos q]
    · rw [if_neg q, if_pos (h1.resolve_left q)]
  · rw [if_pos h1] at C
    by_cases h2 : a2 < 1 ∨ 12 < a2
    · rw [if_neg (not_not_intro h2)] at C
      refine ⟨0, _, pb_wI (pb_wI w 0 0 1) 64 0 1, C, ?_, refuse⟩
      rw [R, if_neg (fun q => h1 (Or.inl q)), if_neg (fun q => h1 (Or.inr q))]
      by_cases q : a2 < 1
      · rw [if_pos q]
      · rw [if_neg q, if_pos (h2.resolve_left q)]
    · rw [if_pos h2, if_pos trivial, if_pos trivial, if_pos trivial] at C
      have R0 := R (pb_wI (pb_wI (pb_wI w 0 0 0) 39 2 a1) 51 2 a2)
      rw [if_neg (fun q => h1 (Or.inl q)), if_neg (fun q => h1 (Or.inr q)), if_neg (fun q => h2 (Or.inl q)), if_neg (fun q => h2 (Or.inr q))] at R0
      refine ⟨1, _, _, C, R0, ?_, ⟨rfl, hH.2.1, hH.2.2⟩, rfl, rfl, ?_, ?_⟩
      · exact fr_I (fr_I (fr_I (fr_I (fr_I (fr_I (fr_rf w) (by simp [fI_U])) (by simp [fI_U])) (by simp [fI_U])) (by simp [fI_U])) (by simp [fI_U])) (by simp [fI_U])
      · exact px_1to (N := 60) (by decide) h1
      · exact px_1to (N := 12) (by decide) h2
def iv_G (w : pb_W) : Prop := ∃ n, n ≤ 8 ∧ w.1 57 1 = nI n ∧ w.1 64 97 = nI n ∧ ∀ k, k < n → w.1 126 k = w.1 58 k
theorem x_weight (a : Int32) (w : pb_W) (hH : iv_H w) (hG : iv_G w) : ∃ x w1 w2, M_X11_weight [.ref 0, .int a] w = some (some (.int x), w1) ∧ M_X12_weight [.ref 64, .int a] w1 = some (some (.int x), w2) ∧ fr fI_0 fJ_no w w2 ∧ iv_H w2 := by
  obtain ⟨n, hn, n57, n97, g⟩ := hG
  have k1 : ¬ (1 : Int32) = 0 := by decide
  have k6 : ¬ (6 : Int32) = 0 := by decide
  have refuse : ∀ v : Int32, (fr fI_0 fJ_no w (pb_wI (pb_wI w 0 0 v) 64 0 v) ∧ iv_H (pb_wI (pb_wI w 0 0 v) 64 0 v)) := fun v => ⟨fr_I (fr_I (fr_rf w) (by simp [fI_0])) (by simp [fI_0]), ⟨rfl, hH.2.1, hH.2.2⟩⟩
  have C := e_X11_weight a w
  simp only [r_X11_weight_30, if_neg k1, if_neg k6, n57] at C
  have R := fun v : Int32 => e_X12_weight a (pb_wI w 0 0 v)
  have n97' : ∀ v : Int32, (pb_wI w 0 0 v).1 64 97 = nI n := fun v => n97
  simp only [ite_ref, e_X12_gives, pb_bI_some, n97'] at R
  by_cases h1 : a < 0
  · rw [if_pos h1] at C
    have R1 := R 1
    rw [if_pos h1] at R1
    exact ⟨-1, _, _, C, R1, refuse 1⟩
  · rw [if_neg h1] at C
    by_cases h2 : a < nI n
    · obtain ⟨c, lc, ec⟩ := nI_of h1
      have lc' : c < n := by
        rw [ec] at h2
        exact (nI_ltI lc (by omega)).mp h2
      have i8 : pb_in a 8 := by rw [ec]; exact pn_in (by omega) (by decide)
      have ac : a.toNatClampNeg = c := by rw [ec]; exact nI_clamp lc
      rw [if_pos h2, if_pos trivial, if_pos i8, ac] at C
      have R0 := R 0
      rw [if_neg h1, if_pos h2, if_pos i8, ac, show (pb_wI w 0 0 (0 : Int32)).1 126 c = w.1 58 c from g c lc'] at R0
      exact ⟨_, _, _, C, R0, refuse 0⟩
    · rw [if_neg h2] at C
      have R6 := R 6
      rw [if_neg h1, if_neg h2] at R6
      exact ⟨-1, _, _, C, R6, refuse 6⟩
