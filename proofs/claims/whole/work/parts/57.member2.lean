theorem x_member (a1 a2 a3 a4 : Int32) (w : pb_W) (hH : iv_H w) (hF : iv_F w) (hM : iv_M w) : ∃ x w1 w2, M_X11_member [.ref 0, .int a1, .int a2, .int a3, .int a4] w = some (some (.int x), w1) ∧ M_X12_member [.ref 64, .int a1, .int a2, .int a3, .int a4] w1 = some (some (.int x), w2) ∧ fr fI_M fJ_no w w2 ∧ iv_H w2 ∧ iv_M w2 := by
  have hM' := hM
  obtain ⟨f, hf, f5, f6, -⟩ := hF
  obtain ⟨n, hn, h45, h85, g1, g2, g3, g4, gk⟩ := hM
  have k1 : ¬ (1 : Int32) = 0 := by decide
  have k4 : ¬ (4 : Int32) = 0 := by decide
  have refuse : ∀ v : Int32, (fr fI_M fJ_no w (pb_wI (pb_wI w 0 0 v) 64 0 v) ∧ iv_H (pb_wI (pb_wI w 0 0 v) 64 0 v) ∧ iv_M (pb_wI (pb_wI w 0 0 v) 64 0 v)) := fun v => ⟨fr_I (fr_I (fr_rf w) (by simp [fI_M])) (by simp [fI_M]), ⟨rfl, hH.2.1, hH.2.2⟩, hM'⟩
  have R := fun v : pb_W => e_X12_member a1 a2 a3 a4 v
  simp only [M_isFamily, M_isWeek, pb_bI_some, ite_is0, ite_is 1 k1, ite_is 4 k4, q01, q10] at R
  have t520 : a2 < (520 : Int32) ↔ ¬ (519 : Int32) < a2 := by
    have e1 : (519 : Int32).toInt = 519 := by decide
    have e2 : (520 : Int32).toInt = 520 := by decide
    rw [pn_lt, pn_lt, e1, e2]
    omega
  by_cases bad : mb_bad (w.1 5 0) a1 a2 a3 a4
  · refine ⟨0, _, pb_wI (pb_wI w 0 0 1) 64 0 1, c_member.1 bad, ?_, refuse 1⟩
    have R1 := R (pb_wI w 0 0 1)
    rw [show (pb_wI w 0 0 (1 : Int32)).1 64 6 = nI f from f6] at R1
    rw [f5] at bad
    unfold mb_bad at bad
    rw [R1]
    by_cases h1 : ¬ a1 < 0 ∧ a1 < nI f
    · rw [if_neg (not_not_intro h1)]
      by_cases h2 : a2 < -5200
      · rw [if_pos h2]
      · rw [if_neg h2]
        by_cases h2' : 519 < a2
        · rw [if_neg (fun q => (t520.mp q) h2')]
        · rw [if_pos (t520.mpr h2')]
          by_cases h3 : a3 < 0 ∨ 519 < a3
          · rw [if_pos h3]
          · rw [if_neg h3]
            by_cases h4 : a4 < 0 ∨ 519 < a4
            · rw [if_pos h4]
            · rw [if_neg h4]
              by_cases h5 : a3 < a2
              · rw [if_pos h5]
              · rw [if_neg h5, if_pos]
                rcases bad with q | q | q | q | q | q
                · exact absurd h1 q
                · exact absurd q (fun z => z.elim h2 h2')
                · exact absurd q h3
                · exact absurd q h4
                · exact absurd q h5
                · exact q
    · rw [if_pos h1]
  · have C := c_member.2 bad
    rw [f5] at bad
    unfold mb_bad at bad
    have h1 : ¬ a1 < 0 ∧ a1 < nI f := Classical.byContradiction fun q => bad (Or.inl q)
    have h2 : ¬ a2 < -5200 := fun q => bad (Or.inr (Or.inl (Or.inl q)))
    have h2' : ¬ 519 < a2 := fun q => bad (Or.inr (Or.inl (Or.inr q)))
    have h3 : ¬ (a3 < 0 ∨ 519 < a3) := fun q => bad (Or.inr (Or.inr (Or.inl q)))
    have h4 : ¬ (a4 < 0 ∨ 519 < a4) := fun q => bad (Or.inr (Or.inr (Or.inr (Or.inl q))))
    have h5 : ¬ a3 < a2 := fun q => bad (Or.inr (Or.inr (Or.inr (Or.inr (Or.inl q)))))
    have h6 : ¬ a4 < a3 := fun q => bad (Or.inr (Or.inr (Or.inr (Or.inr (Or.inr q)))))
    rw [h45] at C
    by_cases e : n = 40
    · subst e
      rw [if_neg (show ¬ nI 40 < (40 : Int32) by decide)] at C
      have R4 := R (pb_wI w 0 0 4)
      rw [show (pb_wI w 0 0 (4 : Int32)).1 64 6 = nI f from f6, if_neg (not_not_intro h1), if_neg h2, if_pos (t520.mpr h2'), if_neg h3, if_neg h4, if_neg h5, if_neg h6, if_pos (show (pb_wI w 0 0 (4 : Int32)).1 64 85 = (40 : Int32) from h85)] at R4
      exact ⟨0, _, _, C, R4, refuse 4⟩
    · have i40 : pb_in (nI n) 40 := pn_in (by omega) (by decide)
      have e45 : (pb_wI w 0 0 (0 : Int32)).1 45 0 = nI n := h45
      rw [if_pos (show nI n < (40 : Int32) from nI_lt (b := 40) (by omega) (by decide)), r_X11_member_93, if_pos (show (pb_wI w 0 0 (0 : Int32)).1 0 0 = 0 from rfl), e_X3_addMember, e45, if_pos i40, if_pos i40, if_pos i40, if_pos i40, pb_bV_some, nI_1, nI_clamp (show n < 2 ^ 31 by omega), if_pos (show (pb_wI (pb_wI (pb_wI (pb_wI (pb_wI (pb_wI w 0 0 0) 46 n a1) 47 n a2) 48 n a3) 49 n a4) 45 0 (nI (n + 1))).1 0 0 = 0 from rfl)] at C
      have R0 := R (pb_wI (pb_wI (pb_wI (pb_wI (pb_wI (pb_wI w 0 0 0) 46 n a1) 47 n a2) 48 n a3) 49 n a4) 45 0 (nI (n + 1)))
      rw [show (pb_wI (pb_wI (pb_wI (pb_wI (pb_wI (pb_wI w 0 0 0) 46 n a1) 47 n a2) 48 n a3) 49 n a4) 45 0 (nI (n + 1))).1 64 6 = nI f from f6, if_neg (not_not_intro h1), if_neg h2, if_pos (t520.mpr h2'), if_neg h3, if_neg h4, if_neg h5, if_neg h6, show (pb_wI (pb_wI (pb_wI (pb_wI (pb_wI (pb_wI w 0 0 0) 46 n a1) 47 n a2) 48 n a3) 49 n a4) 45 0 (nI (n + 1))).1 64 85 = nI n from h85, if_neg (show ¬ nI n = (40 : Int32) from fun q => e ((nI_eq (b := 40) (by omega) (by decide)).mp q)), if_pos i40, if_pos i40, if_pos i40, if_pos i40, nI_1, nI_clamp (show n < 2 ^ 31 by omega)] at R0
      obtain ⟨c1, l1, e1⟩ := nI_of h1.1
      have l1' : c1 < 12 := by
        have q := h1.2
        rw [e1] at q
        have := (nI_ltI l1 (by omega)).mp q
        omega
      obtain ⟨c3, l3, e3⟩ := px_to (N := 519) (by decide) (show ¬ (a3 < 0 ∨ nI 519 < a3) from h3)
      obtain ⟨c4, l4, e4⟩ := px_to (N := 519) (by decide) (show ¬ (a4 < 0 ∨ nI 519 < a4) from h4)
      have r2 : -5200 ≤ a2.toInt ∧ a2.toInt ≤ 519 := by
        have x1 : (519 : Int32).toInt = 519 := by decide
        have x2 : (-5200 : Int32).toInt = -5200 := by decide
        have y1 := h2
        have y2 := h2'
        rw [pn_lt, x2] at y1
        rw [pn_lt, x1] at y2
        omega
      refine ⟨_, _, _, C, R0, ?_, ⟨rfl, hH.2.1, hH.2.2⟩, n + 1, by omega, rfl, rfl, congrArg (fun g => upd g n a1) g1, congrArg (fun g => upd g n a2) g2, congrArg (fun g => upd g n a3) g3, congrArg (fun g => upd g n a4) g4, ?_⟩
      · exact fr_I (fr_I (fr_I (fr_I (fr_I (fr_I (fr_I (fr_I (fr_I (fr_I (fr_I (fr_I (fr_rf w) (by simp [fI_M])) (by simp [fI_M])) (by simp [fI_M])) (by simp [fI_M])) (by simp [fI_M])) (by simp [fI_M])) (by simp [fI_M])) (by simp [fI_M])) (by simp [fI_M])) (by simp [fI_M])) (by simp [fI_M])) (by simp [fI_M])
      · intro k hk
        show (∃ c, c < 12 ∧ upd (w.1 46) n a1 k = nI c) ∧ (-5200 ≤ (upd (w.1 47) n a2 k).toInt ∧ (upd (w.1 47) n a2 k).toInt ≤ 519) ∧ (∃ c, c < 520 ∧ upd (w.1 48) n a3 k = nI c) ∧ (∃ c, c < 520 ∧ upd (w.1 49) n a4 k = nI c) ∧ ¬ upd (w.1 48) n a3 k < upd (w.1 47) n a2 k ∧ ¬ upd (w.1 49) n a4 k < upd (w.1 48) n a3 k
        simp only [pu_at]
        by_cases q : k = n
        · simp only [q, if_true, ite_true]
          exact ⟨⟨c1, l1', e1⟩, r2, ⟨c3, by omega, e3⟩, ⟨c4, by omega, e4⟩, h5, h6⟩
        · simp only [q, if_false, ite_false]
          exact gk k (by omega)
