theorem x_mouths (a1 a2 : Int32) (w : pb_W) (hH : iv_H w) (hF : iv_F w) (hM : iv_M w) (hS : iv_S w) : ∃ x w1 w2, M_X11_mouths [.ref 0, .int a1, .int a2] w = some (some (.int x), w1) ∧ M_X12_mouths [.ref 64, .int a1, .int a2] w1 = some (some (.int x), w2) ∧ fr fI_0 fJ_no w w2 ∧ iv_H w2 := by
  obtain ⟨f, hf, f5, f6, -⟩ := hF
  have k1 : ¬ (1 : Int32) = 0 := by decide
  have refuse : ∀ v : Int32, (fr fI_0 fJ_no w (pb_wI (pb_wI w 0 0 v) 64 0 v) ∧ iv_H (pb_wI (pb_wI w 0 0 v) 64 0 v)) := fun v => ⟨fr_I (fr_I (fr_rf w) (by simp [fI_0])) (by simp [fI_0]), ⟨rfl, hH.2.1, hH.2.2⟩⟩
  have C := e_X11_mouths a1 a2 w
  simp only [M_noFamilyWeek, pb_bI_some, q01, f5, r_X11_mouths_15, if_neg k1, if_true, ite_true] at C
  have R := fun v : pb_W => e_X12_mouths a1 a2 v
  simp only [M_isFamily, M_isWeek, pb_bI_some, ite_ref, q01, q10] at R
  by_cases h1 : ¬ a1 < 0 ∧ a1 < nI f
  · by_cases h2 : a2 < 0 ∨ 519 < a2
    · rw [if_neg (not_not_intro (Or.inr h2))] at C
      have R1 := R (pb_wI w 0 0 1)
      rw [show (pb_wI w 0 0 (1 : Int32)).1 64 6 = nI f from f6, if_neg (not_not_intro h1), if_pos h2] at R1
      exact ⟨-1, _, _, C, R1, refuse 1⟩
    · rw [if_pos (fun q => q.elim (fun z => z h1) h2)] at C
      have hM' := hM
      obtain ⟨n, hn, h45, -⟩ := hM
      obtain ⟨c2, l2, e2⟩ := px_to (N := 519) (by decide) (show ¬ (a2 < 0 ∨ nI 519 < a2) from h2)
      obtain ⟨t, lt, x, y⟩ := cm_mouths (a1 := a1) (w := pb_wI w 0 0 0) hM' hS (show c2 < 520 by omega) h45 hn n 0 0 (by omega) (by omega)
      rw [e_X3_together, e2, show pb_run T_X3_together (5, [some (.ref 45), some (.int a1), some (.int (nI c2)), some (.int (0 : Int32)), some (.int (0 : Int32)), none], [], pb_wI w 0 0 0) = _ from x, pb_bI_some] at C
      have R0 := R (pb_wI w 0 0 0)
      rw [show (pb_wI w 0 0 (0 : Int32)).1 64 6 = nI f from f6, if_neg (not_not_intro h1), if_neg h2, e_X12_mouthsOf, e2, show pb_run T_X12_mouthsOf (5, [some (.ref 64), some (.int a1), some (.int (nI c2)), some (.int (0 : Int32)), some (.int (0 : Int32))], [], pb_wI w 0 0 0) = _ from y, pb_bI_some, e_X12_gives, pb_bI_some] at R0
      rw [e2]
      exact ⟨_, _, _, C, R0, refuse 0⟩
  · rw [if_neg (not_not_intro (Or.inl h1))] at C
    have R1 := R (pb_wI w 0 0 1)
    rw [show (pb_wI w 0 0 (1 : Int32)).1 64 6 = nI f from f6, if_pos h1] at R1
    exact ⟨-1, _, _, C, R1, refuse 1⟩
