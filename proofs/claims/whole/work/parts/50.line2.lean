abbrev fI_N : Nat → Nat → Prop := fun c k => (c = 0 ∧ k = 0) ∨ (c = 64 ∧ k = 0) ∨ (c = 5 ∧ (k = 3 ∨ k = 18)) ∨ (c = 64 ∧ (k = 7 ∨ k = 9 ∨ k = 11)) ∨ c = 8 ∨ c = 9 ∨ c = 10 ∨ c = 11 ∨ c = 12 ∨ c = 13 ∨ c = 15 ∨ c = 16 ∨ c = 70 ∨ c = 71 ∨ c = 72 ∨ c = 73 ∨ c = 74 ∨ c = 75 ∨ c = 81
abbrev fJ_N : Nat → Nat → Prop := fun c k => c = 20 ∨ c = 14 ∨ c = 79
theorem px_ge {x : Int32} {N : Nat} (hN : N < 2 ^ 31) (h : ¬ (x < 1 ∨ nI N < x)) : ∃ n, 1 ≤ n ∧ n ≤ N ∧ x = nI n := by
  have h0 : ¬ x < 0 := fun q => h (Or.inl (by
    have e0 : (0 : Int32).toInt = 0 := by decide
    have e1 : (1 : Int32).toInt = 1 := by decide
    rw [pn_lt, e0] at q
    rw [pn_lt, e1]
    omega))
  obtain ⟨n, hn, rfl⟩ := pn_of h0 (fun q => h (Or.inr q)) hN
  refine ⟨n, ?_, hn, rfl⟩
  rcases Nat.eq_zero_or_pos n with q | q
  · subst q
    exact absurd (Or.inl (show nI 0 < (1 : Int32) by decide)) h
  · exact q
theorem px_to {x : Int32} {N : Nat} (hN : N < 2 ^ 31) (h : ¬ (x < 0 ∨ nI N < x)) : ∃ n, n ≤ N ∧ x = nI n := pn_of (fun q => h (Or.inl q)) (fun q => h (Or.inr q)) hN
theorem x_line (a1 a2 a3 a4 a5 a6 a7 : Int32) (w : pb_W) (hH : iv_H w) (hF : iv_F w) (hW : iv_W w) (hL : iv_L w) : ∃ x w1 w2, M_X11_line [.ref 0, .int a1, .int a2, .int a3, .int a4, .int a5, .int a6, .int a7] w = some (some (.int x), w1) ∧ M_X12_line [.ref 64, .int a1, .int a2, .int a3, .int a4, .int a5, .int a6, .int a7] w1 = some (some (.int x), w2) ∧ fr fI_N fJ_N w w2 ∧ iv_H w2 ∧ iv_W w2 ∧ iv_L w2 := by
  obtain ⟨f, hf, f5, f6, -⟩ := hF
  have hL' := hL
  obtain ⟨n, r, hn, hr, n5, n7, r13, r8, d9, d10, ⟨g70, g71, g72, g74, g81, g75, g79, g73, g76, g77, g78⟩, gl, gr, gp, hd, ha⟩ := hL
  have refuse : ∀ v : Int32, (fr fI_N fJ_N w (pb_wI (pb_wI w 0 0 v) 64 0 v) ∧ iv_H (pb_wI (pb_wI w 0 0 v) 64 0 v) ∧ iv_W (pb_wI (pb_wI w 0 0 v) 64 0 v) ∧ iv_L (pb_wI (pb_wI w 0 0 v) 64 0 v)) := by
    intro v
    exact ⟨fr_I (fr_I (fr_rf w) (by simp [fI_N])) (by simp [fI_N]), ⟨rfl, hH.2.1, hH.2.2⟩, hW, hL'⟩
  by_cases bad : ln_bad (w.1 5 0) a1 a2 a3 a4 a6 a7
  · refine ⟨-1, pb_wI w 0 0 1, _, c_line_bad bad, m_line_bad ?_, refuse 1⟩
    show ln_bad (w.1 64 6) _ _ _ _ _ _
    rw [f6, ← f5]
    exact bad
  · have cl := c_line (a5 := a5) bad
    have bm : ∀ v, ¬ ln_bad ((pb_wI w 0 0 v).1 64 6) a1 a2 a3 a4 a6 a7 := by
      intro v
      show ¬ ln_bad (w.1 64 6) _ _ _ _ _ _
      rw [f6, ← f5]
      exact bad
    rw [n5] at cl
    by_cases e : n = 200
    · rw [if_pos (show ¬ nI n < (200 : Int32) by rw [e]; decide)] at cl
      refine ⟨-1, pb_wI w 0 0 4, _, cl, ?_, refuse 4⟩
      rw [m_line (bm 4) hn n7, if_pos e]
    · rw [if_neg (not_not_intro (show nI n < (200 : Int32) from nI_lt (b := 200) (by omega) (by decide)))] at cl
      by_cases d : a7 < w.1 5 18
      · rw [if_pos d] at cl
        refine ⟨-1, pb_wI w 0 0 5, _, cl, ?_, refuse 5⟩
        have d' : a7 < (pb_wI w 0 0 (5 : Int32)).1 64 9 := by
          show a7 < w.1 64 9
          rw [d9]
          exact d
        rw [m_line (bm 5) hn n7, if_neg e, if_pos d']
      · rw [if_neg d] at cl
        rcases hW with ⟨t1, t2⟩ | ⟨t1, t2, t3, t4, t5⟩
        · rw [if_pos t2] at cl
          refine ⟨-1, pb_wI w 0 0 6, _, cl, ?_, refuse 6⟩
          have d' : ¬ a7 < (pb_wI w 0 0 (6 : Int32)).1 64 9 := by
            show ¬ a7 < w.1 64 9
            rw [d9]
            exact d
          rw [m_line (bm 6) hn n7, if_neg e, if_neg d', if_pos (show (pb_wI w 0 0 (6 : Int32)).1 64 11 = 0 from t1)]
        · rw [if_neg t2, M_addLine (w := pb_wI w 0 0 0) (n := n) (by omega) n5, pb_bI_some] at cl
          refine ⟨nI n, cw_line (pb_wI w 0 0 0) n a1 a2 a3 a4 a5 a6 a7, mw_line (cw_line (pb_wI w 0 0 0) n a1 a2 a3 a4 a5 a6 a7) n a1 a2 a3 a4 a5 a6 a7, cl, ?_, ?_, ?_, ?_, ?_⟩
          · have b7 : ¬ ln_bad ((cw_line (pb_wI w 0 0 0) n a1 a2 a3 a4 a5 a6 a7).1 64 6) a1 a2 a3 a4 a6 a7 := bm 0
            have d' : ¬ a7 < (cw_line (pb_wI w 0 0 0) n a1 a2 a3 a4 a5 a6 a7).1 64 9 := by
              show ¬ a7 < w.1 64 9
              rw [d9]
              exact d
            have t' : ¬ (cw_line (pb_wI w 0 0 0) n a1 a2 a3 a4 a5 a6 a7).1 64 11 = 0 := by
              show ¬ w.1 64 11 = 0
              rw [t1]
              decide
            rw [m_line b7 hn n7, if_neg e, if_neg d', if_neg t']
            exact m_line_end (n := n) (by omega) n7
          · unfold cw_line mw_line
            exact fr_I (fr_I (fr_I (fr_L (fr_L (fr_L (fr_I (fr_I (fr_I (fr_I (fr_I (fr_I (fr_I (fr_I (fr_I (fr_I (fr_L (fr_L (fr_L (fr_G (fr_I (fr_I (fr_I (fr_I (fr_I (fr_I (fr_I (fr_I (fr_I (fr_rf w) (by simp [fI_N])) (by simp [fI_N])) (by simp [fI_N])) (by simp [fI_N])) (by simp [fI_N])) (by simp [fI_N])) (by simp [fI_N])) (by simp [fI_N])) (by simp [fI_N])) (by simp [fJ_N])) (by simp [fJ_N])) (by simp [fJ_N])) (by simp [fJ_N])) (by simp [fI_N])) (by simp [fI_N])) (by simp [fI_N])) (by simp [fI_N])) (by simp [fI_N])) (by simp [fI_N])) (by simp [fI_N])) (by simp [fI_N])) (by simp [fI_N])) (by simp [fI_N])) (by simp [fJ_N])) (by simp [fJ_N])) (by simp [fJ_N])) (by simp [fI_N])) (by simp [fI_N])) (by simp [fI_N])
          · exact ⟨rfl, hH.2.1, hH.2.2⟩
          · exact Or.inl ⟨rfl, rfl⟩
          · unfold ln_bad at bad
            have b1 : ¬ a1 < 0 ∧ a1 < w.1 5 0 := Classical.byContradiction fun q => bad (Or.inl q)
            obtain ⟨c2, l2, e2⟩ := px_to (N := 519) (by decide) (show ¬ (a2 < 0 ∨ nI 519 < a2) from fun q => bad (Or.inr (Or.inl q)))
            obtain ⟨c3, l3, e3⟩ := px_to (N := 9) (by decide) (show ¬ (a3 < 0 ∨ nI 9 < a3) from fun q => bad (Or.inr (Or.inr (Or.inl q))))
            obtain ⟨c6, l6, e6⟩ := px_to (N := 7) (by decide) (show ¬ (a6 < 0 ∨ nI 7 < a6) from fun q => bad (Or.inr (Or.inr (Or.inr (Or.inl q)))))
            obtain ⟨c4, l4, l4', e4⟩ := px_ge (N := 20000) (by decide) (show ¬ (a4 < 1 ∨ nI 20000 < a4) from fun q => bad (Or.inr (Or.inr (Or.inr (Or.inr (Or.inl q))))))
            obtain ⟨c7, l7, e7⟩ := px_to (N := 9999) (by decide) (show ¬ (a7 < 0 ∨ nI 9999 < a7) from fun q => bad (Or.inr (Or.inr (Or.inr (Or.inr (Or.inr q))))))
            obtain ⟨c1, l1, e1⟩ := nI_of b1.1
            have l1' : c1 < 12 := by
              have q := b1.2
              rw [e1, f5] at q
              have := (nI_ltI l1 (by omega)).mp q
              omega
            have K : ∀ g v k, upd g n v k = if k = n then v else g k := fun g v k => rfl
            refine ⟨n + 1, r, by omega, hr, rfl, rfl, r13, r8, rfl, d10, ⟨?_, ?_, ?_, ?_, ?_, ?_, ?_, ?_, g76, g77, g78⟩, ?_, ?_, ?_, ⟨c7, l7, e7⟩, ha⟩
            · exact congrArg (fun g => upd g n a1) g70
            · exact congrArg (fun g => upd g n a2) g71
            · exact congrArg (fun g => upd g n a3) g72
            · exact congrArg (fun g => upd g n a6) g74
            · exact congrArg (fun g => upd g n (vp_nar .boolean a5)) g81
            · exact congrArg (fun g => upd g n a7) g75
            · show vp_updL (vp_updL (vp_updL (w.2 79) (3 * n) (w.2 80 0)) (3 * n + 1) (w.2 80 1)) (3 * n + 2) (w.2 80 2) = va_cpy (w.2 20) (w.2 14) 0 (n * 3) 3
              funext k
              rw [g79, t3, t4, t5, pu_atL, pu_atL, pu_atL]
              unfold va_cpy
              by_cases k2 : k = 3 * n + 2
              · rw [if_pos k2, if_pos (by omega), show 0 + (k - n * 3) = 2 by omega]
              · rw [if_neg k2]
                by_cases k1 : k = 3 * n + 1
                · rw [if_pos k1, if_pos (by omega), show 0 + (k - n * 3) = 1 by omega]
                · rw [if_neg k1]
                  by_cases k0 : k = 3 * n
                  · rw [if_pos k0, if_pos (by omega), show 0 + (k - n * 3) = 0 by omega]
                  · rw [if_neg k0, if_neg (by omega)]
            · exact congrArg (fun g => upd g n a4) g73
            · intro k hk
              show (∃ c, c < 12 ∧ upd (w.1 8) n a1 k = nI c) ∧ (∃ c, c < 520 ∧ upd (w.1 9) n a2 k = nI c) ∧ (∃ c, c ≤ 9 ∧ upd (w.1 10) n a3 k = nI c) ∧ (∃ c, c ≤ 7 ∧ upd (w.1 11) n a6 k = nI c) ∧ (upd (w.1 12) n (vp_nar .boolean a5) k = 0 ∨ upd (w.1 12) n (vp_nar .boolean a5) k = 1) ∧ (∃ c, c ≤ 9999 ∧ upd (w.1 13) n a7 k = nI c) ∧ (∃ c, 1 ≤ c ∧ c ≤ 20000 ∧ upd (w.1 15) n a4 k = nI c)
              simp only [K]
              by_cases kn : k = n
              · simp only [kn, if_true, ite_true]
                exact ⟨⟨c1, l1', e1⟩, ⟨c2, by omega, e2⟩, ⟨c3, l3, e3⟩, ⟨c6, l6, e6⟩, nar_b a5, ⟨c7, l7, e7⟩, ⟨c4, l4, l4', e4⟩⟩
              · simp only [kn, if_false, ite_false]
                exact gl k (by omega)
            · intro i hi
              obtain ⟨⟨c, lc, ec⟩, o⟩ := gr i hi
              exact ⟨⟨c, by omega, ec⟩, o⟩
            · intro k hk
              show upd (w.1 16) n a4 k = pkf (w.1 17) (w.1 18) (w.1 19) (w.1 5 19) k (upd (w.1 15) n a4 k) r
              simp only [K]
              by_cases kn : k = n
              · simp only [kn, if_true, ite_true]
                exact (pkf_no r (fun i hi => by
                  obtain ⟨⟨c, lc, ec⟩, o⟩ := gr i hi
                  rw [ec]
                  exact fun q => absurd ((nI_eq (by omega) (by omega)).mp q) (by omega))).symm
              · simp only [kn, if_false, ite_false]
                exact gp k (by omega)
