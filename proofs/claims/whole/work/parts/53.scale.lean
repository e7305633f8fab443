/-! ===== SCALE ===== -/
def iv_S (w : pb_W) : Prop := (∀ k, k < 4 → w.1 121 k = w.1 50 k) ∧ ∀ k, k < 4 → ∃ c, c ≤ 100 ∧ w.1 50 k = nI c
abbrev fI_S : Nat → Nat → Prop := fun c k => (c = 0 ∧ k = 0) ∨ (c = 64 ∧ k = 0) ∨ c = 50 ∨ c = 121
theorem M_isPart (a : Int32) (w : pb_W) : M_X12_isPart [.int a] w = some (some (.int (if a < 0 ∨ 100 < a then 0 else 1)), w) := by
  rw [e_X12_isPart]
  by_cases h1 : a < 0
  · simp [h1]
  · by_cases h2 : (100 : Int32) < a <;> simp [h1, h2]
theorem x_scale (a1 a2 a3 a4 : Int32) (w : pb_W) (hH : iv_H w) (hS : iv_S w) : ∃ x w1 w2, M_X11_scale [.ref 0, .int a1, .int a2, .int a3, .int a4] w = some (some (.int x), w1) ∧ M_X12_scale [.ref 64, .int a1, .int a2, .int a3, .int a4] w1 = some (some (.int x), w2) ∧ fr fI_S fJ_no w w2 ∧ iv_H w2 ∧ iv_S w2 := by
  have k1 : ¬ (1 : Int32) = 0 := by decide
  have refuse : ∀ v : Int32, (fr fI_S fJ_no w (pb_wI (pb_wI w 0 0 v) 64 0 v) ∧ iv_H (pb_wI (pb_wI w 0 0 v) 64 0 v) ∧ iv_S (pb_wI (pb_wI w 0 0 v) 64 0 v)) := fun v => ⟨fr_I (fr_I (fr_rf w) (by simp [fI_S])) (by simp [fI_S]), ⟨rfl, hH.2.1, hH.2.2⟩, hS⟩
  have s1 : pb_run T_X11_scale (59, [some (.ref 0), some (.int a1), some (.int a2), some (.int a3), some (.int a4), none], [.int (1 : Int32), .ref 0], w) = some (some (.int 0), pb_wI w 0 0 1) := by
    rw [r_X11_scale_59, if_neg k1, if_neg k1]
  have C := e_X11_scale a1 a2 a3 a4 w
  simp only [M_outside, pb_bI_some, s1, q01, if_neg k1, if_true, ite_true] at C
  have R := fun v : pb_W => e_X12_scale a1 a2 a3 a4 v
  simp only [M_isPart, pb_bI_some, ite_is0, ite_is 1 k1, q10] at R
  have R1 := R (pb_wI w 0 0 1)
  by_cases h1 : a1 < 0 ∨ 100 < a1
  · rw [if_neg (not_not_intro h1)] at C
    rw [if_pos h1] at R1
    exact ⟨0, _, _, C, R1, refuse 1⟩
  · rw [if_pos h1] at C
    rw [if_neg h1] at R1
    by_cases h2 : a2 < 0 ∨ 100 < a2
    · rw [if_neg (not_not_intro h2)] at C
      rw [if_pos h2] at R1
      exact ⟨0, _, _, C, R1, refuse 1⟩
    · rw [if_pos h2] at C
      rw [if_neg h2] at R1
      by_cases h3 : a3 < 0 ∨ 100 < a3
      · rw [if_neg (not_not_intro h3)] at C
        rw [if_pos h3] at R1
        exact ⟨0, _, _, C, R1, refuse 1⟩
      · rw [if_pos h3] at C
        rw [if_neg h3] at R1
        by_cases h4 : a4 < 0 ∨ 100 < a4
        · rw [if_neg (not_not_intro h4)] at C
          rw [if_pos h4] at R1
          exact ⟨0, _, _, C, R1, refuse 1⟩
        · rw [if_pos h4, r_X11_scale_59, if_pos rfl, e_X3_rescale, pb_bV_some, if_pos (show (pb_wI (pb_wI (pb_wI (pb_wI (pb_wI w 0 0 0) 50 ((0 : Int32)).toNatClampNeg a1) 50 ((1 : Int32)).toNatClampNeg a2) 50 ((2 : Int32)).toNatClampNeg a3) 50 ((3 : Int32)).toNatClampNeg a4).1 0 0 = 0 from rfl)] at C
          have R0 := R (pb_wI (pb_wI (pb_wI (pb_wI (pb_wI w 0 0 0) 50 ((0 : Int32)).toNatClampNeg a1) 50 ((1 : Int32)).toNatClampNeg a2) 50 ((2 : Int32)).toNatClampNeg a3) 50 ((3 : Int32)).toNatClampNeg a4)
          rw [if_neg h1, if_neg h2, if_neg h3, if_neg h4] at R0
          obtain ⟨c1, l1, e1⟩ := px_to (N := 100) (by decide) (show ¬ (a1 < 0 ∨ nI 100 < a1) from h1)
          obtain ⟨c2, l2, e2⟩ := px_to (N := 100) (by decide) (show ¬ (a2 < 0 ∨ nI 100 < a2) from h2)
          obtain ⟨c3, l3, e3⟩ := px_to (N := 100) (by decide) (show ¬ (a3 < 0 ∨ nI 100 < a3) from h3)
          obtain ⟨c4, l4, e4⟩ := px_to (N := 100) (by decide) (show ¬ (a4 < 0 ∨ nI 100 < a4) from h4)
          refine ⟨1, _, _, C, R0, ?_, ⟨rfl, hH.2.1, hH.2.2⟩, ?_, ?_⟩
          · exact fr_I (fr_I (fr_I (fr_I (fr_I (fr_I (fr_I (fr_I (fr_I (fr_I (fr_rf w) (by simp [fI_S])) (by simp [fI_S])) (by simp [fI_S])) (by simp [fI_S])) (by simp [fI_S])) (by simp [fI_S])) (by simp [fI_S])) (by simp [fI_S])) (by simp [fI_S])) (by simp [fI_S])
          · intro k hk
            match k, hk with
            | 0, _ => rfl
            | 1, _ => rfl
            | 2, _ => rfl
            | 3, _ => rfl
          · intro k hk
            match k, hk with
            | 0, _ => exact ⟨c1, l1, e1⟩
            | 1, _ => exact ⟨c2, l2, e2⟩
            | 2, _ => exact ⟨c3, l3, e3⟩
            | 3, _ => exact ⟨c4, l4, e4⟩
