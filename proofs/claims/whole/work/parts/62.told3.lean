abbrev fI_D : Nat → Nat → Prop := fun c k => (c = 0 ∧ k = 0) ∨ (c = 64 ∧ k = 0) ∨ (c = 31 ∧ k = 1) ∨ (c = 64 ∧ k = 67) ∨ c = 32 ∨ c = 33 ∨ c = 34 ∨ c = 104 ∨ c = 105 ∨ c = 106
theorem x_told (a1 a2 a3 : Int32) (w : pb_W) (hH : iv_H w) (hF : iv_F w) (hD : iv_D w) : ∃ x w1 w2, M_X11_told [.ref 0, .int a1, .int a2, .int a3] w = some (some (.int x), w1) ∧ M_X12_told [.ref 64, .int a1, .int a2, .int a3] w1 = some (some (.int x), w2) ∧ fr fI_D fJ_no w w2 ∧ iv_H w2 ∧ iv_D w2 := by
  have hD' := hD
  obtain ⟨f, hf, f5, f6, -⟩ := hF
  obtain ⟨n, hn, h31, h67, g1, g2, g3, gk⟩ := hD
  have k1 : ¬ (1 : Int32) = 0 := by decide
  have k4 : ¬ (4 : Int32) = 0 := by decide
  have refuse : ∀ v : Int32, (fr fI_D fJ_no w (pb_wI (pb_wI w 0 0 v) 64 0 v) ∧ iv_H (pb_wI (pb_wI w 0 0 v) 64 0 v) ∧ iv_D (pb_wI (pb_wI w 0 0 v) 64 0 v)) := fun v => ⟨fr_I (fr_I (fr_rf w) (by simp [fI_D])) (by simp [fI_D]), ⟨rfl, hH.2.1, hH.2.2⟩, hD'⟩
  have s : ∀ v : Int32, v ≠ 0 → pb_run T_X11_told (48, [some (.ref 0), some (.int a1), some (.int a2), some (.int a3)], [], pb_wI w 0 0 v) = some (some (.int 0), pb_wI w 0 0 v) := by
    intro v hv
    rw [r_X11_told_48, if_neg (show ¬ (pb_wI w 0 0 v).1 0 0 = 0 from hv), if_neg (show ¬ (pb_wI w 0 0 v).1 0 0 = 0 from hv)]
  have C := e_X11_told a1 a2 a3 w
  simp only [M_noFamilyWeek, M_outside, pb_bI_some, q01, f5, s 1 k1] at C
  have R := fun v : pb_W => e_X12_told a1 a2 a3 v
  simp only [M_isFamily, M_isWeek, pb_bI_some, ite_is0, ite_is 1 k1, ite_is 4 k4, q01, q10] at R
  by_cases h1 : ¬ a1 < 0 ∧ a1 < nI f
  · by_cases h2 : a2 < 0 ∨ 519 < a2
    · rw [if_neg (not_not_intro (Or.inr h2))] at C
      have R1 := R (pb_wI w 0 0 1)
      rw [show (pb_wI w 0 0 (1 : Int32)).1 64 6 = nI f from f6, if_neg (not_not_intro h1), if_pos h2] at R1
      exact ⟨0, _, _, C, R1, refuse 1⟩
    · rw [if_pos (fun q => q.elim (fun z => z h1) h2)] at C
      by_cases h3 : a3 < 0 ∨ 1000000 < a3
      · rw [if_neg (not_not_intro h3)] at C
        have R1 := R (pb_wI w 0 0 1)
        rw [show (pb_wI w 0 0 (1 : Int32)).1 64 6 = nI f from f6, if_neg (not_not_intro h1), if_neg h2] at R1
        refine ⟨0, _, pb_wI (pb_wI w 0 0 1) 64 0 1, C, ?_, refuse 1⟩
        rw [R1]
        by_cases q : a3 < 0
        · rw [if_pos q]
        · rw [if_neg q, if_pos (h3.resolve_left q)]
      · rw [if_pos h3] at C
        obtain ⟨c1, l1, e1⟩ := nI_of h1.1
        have l1' : c1 < 12 := by
          have q := h1.2
          rw [e1] at q
          have := (nI_ltI l1 (by omega)).mp q
          omega
        obtain ⟨c2, l2, e2⟩ := px_to (N := 519) (by decide) (show ¬ (a2 < 0 ∨ nI 519 < a2) from h2)
        obtain ⟨c3, l3, e3⟩ := px_to (N := 1000000) (by decide) (show ¬ (a3 < 0 ∨ nI 1000000 < a3) from h3)
        have h3a : ¬ a3 < 0 := fun q => h3 (Or.inl q)
        have h3b : ¬ 1000000 < a3 := fun q => h3 (Or.inr q)
        have F := cx_find (a1 := a1) (a2 := a2) (w := w) hn h31 n 0 (by omega)
        have F0 := cx_find (a1 := a1) (a2 := a2) (w := pb_wI w 0 0 0) hn h31 n 0 (by omega)
        have T : ∀ v : pb_W, v.1 64 67 = w.1 64 67 → v.1 104 = w.1 104 → v.1 105 = w.1 105 → _ := fun v q1 q2 q3 => mx_toldOf (a1 := a1) (a2 := a2) (w := v) hn (q1.trans h67) n 0 (by omega)
        rcases F with ⟨r, u⟩ | ⟨j, -, lj, r, s1, s2, s3⟩
        · -- not told yet
          have r0 : pb_run T_X6_find (2, [some (.ref 31), some (.int a1), some (.int a2), some (.int (nI 0))], [], pb_wI w 0 0 0) = some (some (.int (-1)), pb_wI w 0 0 0) := by
            rcases F0 with ⟨r0, -⟩ | ⟨j, -, lj, -, s1, s2, -⟩
            · exact r0
            · exact absurd ⟨s1, s2⟩ (u j (by omega) lj)
          have rT : ∀ v : pb_W, v.1 64 67 = w.1 64 67 → v.1 104 = w.1 104 → v.1 105 = w.1 105 → M_X12_toldOf [.ref 64, .int a1, .int a2] v = some (some (.int (-1)), v) := by
            intro v q1 q2 q3
            rw [e_X12_toldOf]
            rcases T v q1 q2 q3 with ⟨r0, -⟩ | ⟨j, -, lj, -, s1, s2, -⟩
            · exact r0
            · rw [q2, g1] at s1
              rw [q3, g2] at s2
              exact absurd ⟨s1, s2⟩ (u j (by omega) lj)
          by_cases e : n = 40
          · subst e
            rw [e_X6_hasRoom, h31, if_neg (show ¬ nI 40 < (40 : Int32) by decide), e_X6_isTold, e_X6_find, show pb_run T_X6_find (2, [some (.ref 31), some (.int a1), some (.int a2), some (.int (0 : Int32))], [], w) = _ from r, pb_bI_some, if_pos rfl, pb_bI_some, if_pos rfl, pb_bI_some, if_pos rfl, s 4 k4] at C
            have R4 := R (pb_wI w 0 0 4)
            rw [show (pb_wI w 0 0 (4 : Int32)).1 64 6 = nI f from f6, if_neg (not_not_intro h1), if_neg h2, if_neg h3a, if_neg h3b, rT (pb_wI w 0 0 4) rfl rfl rfl, pb_bI_some, if_pos rfl, if_pos (show (pb_wI w 0 0 (4 : Int32)).1 64 67 = (40 : Int32) from h67)] at R4
            exact ⟨0, _, _, C, R4, refuse 4⟩
          · have i40 : pb_in (nI n) 40 := pn_in (by omega) (by decide)
            rw [e_X6_hasRoom, h31, if_pos (show nI n < (40 : Int32) from nI_lt (b := 40) (by omega) (by decide)), pb_bI_some, if_neg k1, r_X11_told_48, if_pos (show (pb_wI w 0 0 (0 : Int32)).1 0 0 = 0 from rfl), e_X6_tell, e_X6_find, show pb_run T_X6_find (2, [some (.ref 31), some (.int a1), some (.int a2), some (.int (0 : Int32))], [], pb_wI w 0 0 0) = _ from r0, pb_bI_some, if_pos rfl, show (pb_wI w 0 0 (0 : Int32)).1 31 1 = nI n from h31, r_X6_tell_30, if_pos i40, if_pos i40, if_pos i40, pb_bV_some, nI_1, nI_clamp (show n < 2 ^ 31 by omega), if_pos (show (pb_wI (pb_wI (pb_wI (pb_wI (pb_wI w 0 0 0) 31 1 (nI (n + 1))) 32 n a1) 33 n a2) 34 n a3).1 0 0 = 0 from rfl)] at C
            have R0 := R (pb_wI (pb_wI (pb_wI (pb_wI (pb_wI w 0 0 0) 31 1 (nI (n + 1))) 32 n a1) 33 n a2) 34 n a3)
            rw [show (pb_wI (pb_wI (pb_wI (pb_wI (pb_wI w 0 0 0) 31 1 (nI (n + 1))) 32 n a1) 33 n a2) 34 n a3).1 64 6 = nI f from f6, if_neg (not_not_intro h1), if_neg h2, if_neg h3a, if_neg h3b, rT (pb_wI (pb_wI (pb_wI (pb_wI (pb_wI w 0 0 0) 31 1 (nI (n + 1))) 32 n a1) 33 n a2) 34 n a3) rfl rfl rfl, pb_bI_some, if_pos rfl, show (pb_wI (pb_wI (pb_wI (pb_wI (pb_wI w 0 0 0) 31 1 (nI (n + 1))) 32 n a1) 33 n a2) 34 n a3).1 64 67 = nI n from h67, if_neg (show ¬ nI n = (40 : Int32) from fun q => e ((nI_eq (b := 40) (by omega) (by decide)).mp q)), r_X12_told_61, if_pos rfl, show (pb_wI (pb_wI (pb_wI (pb_wI (pb_wI w 0 0 0) 31 1 (nI (n + 1))) 32 n a1) 33 n a2) 34 n a3).1 64 67 = nI n from h67, r_X12_told_83, if_pos i40, if_pos i40, if_pos i40, ite_is0, nI_1, nI_clamp (show n < 2 ^ 31 by omega)] at R0
            refine ⟨1, _, _, C, R0, ?_, ⟨rfl, hH.2.1, hH.2.2⟩, n + 1, by omega, rfl, rfl, congrArg (fun g => upd g n a1) g1, congrArg (fun g => upd g n a2) g2, congrArg (fun g => upd g n a3) g3, ?_⟩
            · exact fr_I (fr_I (fr_I (fr_I (fr_I (fr_I (fr_I (fr_I (fr_I (fr_I (fr_rf w) (by simp [fI_D])) (by simp [fI_D])) (by simp [fI_D])) (by simp [fI_D])) (by simp [fI_D])) (by simp [fI_D])) (by simp [fI_D])) (by simp [fI_D])) (by simp [fI_D])) (by simp [fI_D])
            · intro k hk
              show (∃ c, c < 12 ∧ upd (w.1 32) n a1 k = nI c) ∧ (∃ c, c < 520 ∧ upd (w.1 33) n a2 k = nI c) ∧ ∃ c, c ≤ 1000000 ∧ upd (w.1 34) n a3 k = nI c
              simp only [pu_at]
              by_cases q : k = n
              · simp only [q, if_true, ite_true]
                exact ⟨⟨c1, l1', e1⟩, ⟨c2, by omega, e2⟩, c3, l3, e3⟩
              · simp only [q, if_false, ite_false]
                exact gk k (by omega)
        · -- told before, at j
          have i40 : pb_in (nI j) 40 := pn_in (by omega) (by decide)
          have m1 : nI j ≠ -1 := pn_m1 j (by omega)
          have r0 : pb_run T_X6_find (2, [some (.ref 31), some (.int a1), some (.int a2), some (.int (nI 0))], [], pb_wI w 0 0 0) = some (some (.int (nI j)), pb_wI w 0 0 0) := by
            rcases F0 with ⟨-, u⟩ | ⟨j', -, lj', r0, t1, t2, t3⟩
            · exact absurd ⟨s1, s2⟩ (u j (by omega) lj)
            · have : j' = j := by
                rcases Nat.lt_trichotomy j' j with q | q | q
                · exact absurd ⟨t1, t2⟩ (s3 j' (by omega) q)
                · exact q
                · exact absurd ⟨s1, s2⟩ (t3 j (by omega) q)
              rw [this] at r0
              exact r0
          have rT : ∀ v : pb_W, v.1 64 67 = w.1 64 67 → v.1 104 = w.1 104 → v.1 105 = w.1 105 → M_X12_toldOf [.ref 64, .int a1, .int a2] v = some (some (.int (nI j)), v) := by
            intro v q1 q2 q3
            rw [e_X12_toldOf]
            rcases T v q1 q2 q3 with ⟨-, u⟩ | ⟨j', -, lj', r0, t1, t2, t3⟩
            · refine absurd ⟨?_, ?_⟩ (u j (by omega) lj)
              · rw [q2, g1]; exact s1
              · rw [q3, g2]; exact s2
            · rw [q2, g1] at t1 t3
              rw [q3, g2] at t2 t3
              have : j' = j := by
                rcases Nat.lt_trichotomy j' j with q | q | q
                · exact absurd ⟨t1, t2⟩ (s3 j' (by omega) q)
                · exact q
                · exact absurd ⟨s1, s2⟩ (t3 j (by omega) q)
              rw [this] at r0
              exact r0
          have hr : M_X6_hasRoom [.ref 31, .int a1, .int a2] w = some (some (.int 1), w) := by
            rw [e_X6_hasRoom, e_X6_isTold, e_X6_find, show pb_run T_X6_find (2, [some (.ref 31), some (.int a1), some (.int a2), some (.int (0 : Int32))], [], w) = _ from r, pb_bI_some, if_neg m1, pb_bI_some, if_neg k1]
            exact ite_self _
          rw [hr, pb_bI_some, if_neg k1, r_X11_told_48, if_pos (show (pb_wI w 0 0 (0 : Int32)).1 0 0 = 0 from rfl), e_X6_tell, e_X6_find, show pb_run T_X6_find (2, [some (.ref 31), some (.int a1), some (.int a2), some (.int (0 : Int32))], [], pb_wI w 0 0 0) = _ from r0, pb_bI_some, if_neg m1, r_X6_tell_30, if_pos i40, if_pos i40, if_pos i40, pb_bV_some, nI_clamp (show j < 2 ^ 31 by omega), if_pos (show (pb_wI (pb_wI (pb_wI (pb_wI w 0 0 0) 32 j a1) 33 j a2) 34 j a3).1 0 0 = 0 from rfl)] at C
          have R0 := R (pb_wI (pb_wI (pb_wI (pb_wI w 0 0 0) 32 j a1) 33 j a2) 34 j a3)
          rw [show (pb_wI (pb_wI (pb_wI (pb_wI w 0 0 0) 32 j a1) 33 j a2) 34 j a3).1 64 6 = nI f from f6, if_neg (not_not_intro h1), if_neg h2, if_neg h3a, if_neg h3b, rT (pb_wI (pb_wI (pb_wI (pb_wI w 0 0 0) 32 j a1) 33 j a2) 34 j a3) rfl rfl rfl, pb_bI_some, if_neg m1, r_X12_told_61, if_neg m1, r_X12_told_83, if_pos i40, if_pos i40, if_pos i40, ite_is0, nI_clamp (show j < 2 ^ 31 by omega)] at R0
          refine ⟨1, _, _, C, R0, ?_, ⟨rfl, hH.2.1, hH.2.2⟩, n, hn, h31, h67, congrArg (fun g => upd g j a1) g1, congrArg (fun g => upd g j a2) g2, congrArg (fun g => upd g j a3) g3, ?_⟩
          · exact fr_I (fr_I (fr_I (fr_I (fr_I (fr_I (fr_I (fr_I (fr_rf w) (by simp [fI_D])) (by simp [fI_D])) (by simp [fI_D])) (by simp [fI_D])) (by simp [fI_D])) (by simp [fI_D])) (by simp [fI_D])) (by simp [fI_D])
          · intro k hk
            show (∃ c, c < 12 ∧ upd (w.1 32) j a1 k = nI c) ∧ (∃ c, c < 520 ∧ upd (w.1 33) j a2 k = nI c) ∧ ∃ c, c ≤ 1000000 ∧ upd (w.1 34) j a3 k = nI c
            simp only [pu_at]
            by_cases q : k = j
            · simp only [q, if_true, ite_true]
              exact ⟨⟨c1, l1', e1⟩, ⟨c2, by omega, e2⟩, c3, l3, e3⟩
            · simp only [q, if_false, ite_false]
              exact gk k hk
  · rw [if_neg (not_not_intro (Or.inl h1))] at C
    have R1 := R (pb_wI w 0 0 1)
    rw [show (pb_wI w 0 0 (1 : Int32)).1 64 6 = nI f from f6, if_pos h1] at R1
    exact ⟨0, _, _, C, R1, refuse 1⟩
