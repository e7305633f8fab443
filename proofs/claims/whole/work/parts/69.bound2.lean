abbrev fI_Y : Nat → Nat → Prop := fun c k => (c = 0 ∧ k = 0) ∨ (c = 64 ∧ k = 0) ∨ c = 54 ∨ c = 56
theorem x_bound (a1 a2 a3 a4 : Int32) (w : pb_W) (hH : iv_H w) (hF : iv_F w) (hL : iv_L w) : ∃ x w1 w2, M_X11_bound [.ref 0, .int a1, .int a2, .int a3, .int a4] w = some (some (.int x), w1) ∧ M_X12_bound [.ref 64, .int a1, .int a2, .int a3, .int a4] w1 = some (some (.int x), w2) ∧ fr fI_Y fJ_no w w2 ∧ iv_H w2 := by
  obtain ⟨f, hf, f5, f6, -⟩ := hF
  obtain ⟨n, hN⟩ := LN_of hL
  have k1 : ¬ (1 : Int32) = 0 := by decide
  have k6 : ¬ (6 : Int32) = 0 := by decide
  have refuse1 : fr fI_Y fJ_no w (pb_wI (pb_wI w 0 0 1) 64 0 1) ∧ iv_H (pb_wI (pb_wI w 0 0 1) 64 0 1) := ⟨fr_I (fr_I (fr_rf w) (by simp [fI_Y])) (by simp [fI_Y]), rfl, hH.2.1, hH.2.2⟩
  have C := e_X11_bound a1 a2 a3 a4 w
  simp only [M_noFamilyWeek, M_outside, pb_bI_some, q01, f5, r_X11_bound_60, if_neg (show ¬ (pb_wI w 0 0 (1 : Int32)).1 0 0 = 0 from k1)] at C
  have R := fun v : pb_W => e_X12_bound a1 a2 a3 a4 v
  simp only [M_isFamily, M_isWeek, pb_bI_some, ite_ref, q01, q10] at R
  by_cases h1 : ¬ a1 < 0 ∧ a1 < nI f
  · by_cases h2 : a2 < 0 ∨ 519 < a2
    · rw [if_neg (not_not_intro (Or.inr h2))] at C
      have R1 := R (pb_wI w 0 0 1)
      rw [show (pb_wI w 0 0 (1 : Int32)).1 64 6 = nI f from f6, if_neg (not_not_intro h1), if_pos h2] at R1
      exact ⟨-1, _, _, C, R1, refuse1⟩
    · rw [if_pos (fun q => q.elim (fun z => z h1) h2)] at C
      by_cases h3 : a3 < 1 ∨ 60 < a3
      · rw [if_neg (not_not_intro h3)] at C
        refine ⟨-1, _, pb_wI (pb_wI w 0 0 1) 64 0 1, C, ?_, refuse1⟩
        rw [R, show (pb_wI w 0 0 (1 : Int32)).1 64 6 = nI f from f6, if_neg (not_not_intro h1), if_neg h2]
        by_cases q : a3 < 1
        · rw [if_pos q]
        · rw [if_neg q, if_pos (h3.resolve_left q)]
      · rw [if_pos h3] at C
        by_cases h4 : a4 < 0 ∨ 1 < a4
        · rw [if_neg (not_not_intro h4)] at C
          refine ⟨-1, _, pb_wI (pb_wI w 0 0 1) 64 0 1, C, ?_, refuse1⟩
          rw [R, show (pb_wI w 0 0 (1 : Int32)).1 64 6 = nI f from f6, if_neg (not_not_intro h1), if_neg h2, if_neg (fun q => h3 (Or.inl q)), if_neg (fun q => h3 (Or.inr q))]
          by_cases q : a4 < 0
          · rw [if_pos q]
          · rw [if_neg q, if_pos (h4.resolve_left q)]
        · rw [if_pos h4] at C
          obtain ⟨j, lj, ej⟩ := px_to (N := 519) (by decide) (show ¬ (a2 < 0 ∨ nI 519 < a2) from h2)
          obtain ⟨m, lm1, lm, em⟩ := px_1to (N := 60) (by decide) (show ¬ (a3 < 1 ∨ nI 60 < a3) from h3)
          subst ej em
          have hh : pb_min (519 : Int32) (nI j + nI m) = nI (min 519 (j + m)) := by
            rw [nI_add]
            exact pn_min (a := 519) (by omega) (by omega)
          have Rg : ∀ v : pb_W, v.1 64 6 = nI f → iv_L v → LN v n → SV v w → M_X12_bound [.ref 64, .int a1, .int (nI j), .int (nI m), .int a4] v = if ¬ gpP w a1 n j then some (some (.int (-1)), pb_wI v 64 0 6) else if bst w a1 n (j - m) a4 (min 519 (j + m) + 1 - (j - m)) = -1 then some (some (.int (-1)), pb_wI v 64 0 6) else some (some (.int (bst w a1 n (j - m) a4 (min 519 (j + m) + 1 - (j - m)))), pb_wI v 64 0 0) := by
            intro v v6 vL vN vS
            have B : ∀ k, bst v a1 n (j - m) a4 k = bst w a1 n (j - m) a4 k := fun k => by
              unfold bst
              rw [(blo_sv vS a1 n (j - m) k).1, (blo_sv vS a1 n (j - m) k).2]
            have L := mx_bound vL vN a1 (a4 := a4) hh (by omega) (show j - m ≤ min 519 (j + m) + 1 by omega) (min 519 (j + m) + 1 - (j - m)) 0 (by omega)
            rw [B, B, show bst w a1 n (j - m) a4 0 = -1 by unfold bst; rw [blo, bgr]; exact ite_self _, Nat.add_zero] at L
            rw [R, v6, if_neg (not_not_intro h1), if_neg h2, if_neg (fun q => h3 (Or.inl q)), if_neg (fun q => h3 (Or.inr q)), if_neg (fun q => h4 (Or.inl q)), if_neg (fun q => h4 (Or.inr q)), M_isGap vL vN a1 (by omega), pb_bI_some, mx0_sub (by omega) (by omega), L]
            simp only [q01, gpP_sv vS]
          obtain ⟨s1, s2⟩ := spn_N hN a1 (nI j) n (Nat.le_refl n)
          have hn := hN.le
          obtain ⟨ma, mb, mc, md, me⟩ := mnx hN a1 n (Nat.le_refl n)
          have z : (nI (spN w a1 (nI j) n) = (0 : Int32)) ↔ spN w a1 (nI j) n = 0 := nI_eq (b := 0) (by omega) (by omega)
          have Cb : M_X9_findBounds [.ref 54, .int a1, .int (nI j), .int (nI m)] w = if ¬ gpP w a1 n j then some (some (.int 0), pb_wI (pb_wI (lay w a1 n) 54 5 (-1)) 54 6 (-1)) else some (some (.int (if blo w a1 n (j - m) (min 519 (j + m) + 1 - (j - m)) = -1 then 0 else 1)), pb_wI (pb_wI (lay w a1 n) 54 5 (blo w a1 n (j - m) (min 519 (j + m) + 1 - (j - m)))) 54 6 (bgr w a1 n (j - m) (min 519 (j + m) + 1 - (j - m)))) := by
            have L := cx_bound hN a1 (a2 := nI j) (a3 := nI m) hh (by omega) (show j - m ≤ min 519 (j + m) + 1 by omega) (min 519 (j + m) + 1 - (j - m)) 0 (by omega)
            rw [Nat.add_zero, show blo w a1 n (j - m) 0 = -1 from rfl, show bgr w a1 n (j - m) 0 = -1 from rfl] at L
            rw [e_X9_findBounds, M_layOut hN, pb_bV_some, show (lay w a1 n).1 54 3 = nI (mnN w a1 n) from rfl, show (lay w a1 n).1 54 4 = nI (mxN w a1 n) from rfl, if_pos (pn_in (show j < 520 by omega) (by decide)), nI_clamp (show j < 2 ^ 31 by omega), show (lay w a1 n).1 56 j = if j < 520 then spn w a1 (nI j) n else w.1 56 j from rfl, if_pos (show j < 520 by omega), s1, mx0_sub (by omega) (by omega), L, ite_lt (by omega) (by omega), ite_lt (by omega) (by omega)]
            by_cases g : gpP w a1 n j
            · rw [if_neg (not_not_intro g), if_neg (show ¬ j < mnN w a1 n by have := g.2.2.1; omega), if_neg (show ¬ mxN w a1 n < j by have := g.2.2.2; omega), if_pos (z.mpr g.1)]
            · rw [if_pos g]
              by_cases q1 : j < mnN w a1 n
              · rw [if_pos q1]
              · rw [if_neg q1]
                by_cases q2 : mxN w a1 n < j
                · rw [if_pos q2]
                · rw [if_neg q2, if_neg (fun q => g ((gp_in hN a1 (by omega) (by omega)).mpr (z.mp q)))]
          rw [Cb] at C
          have frW : ∀ (l g : Int32) (v : Int32), fr fI_Y fJ_no w (pb_wI (pb_wI (pb_wI (pb_wI (lay w a1 n) 54 5 l) 54 6 g) 0 0 v) 64 0 v) := fun l g v => fr_I (fr_I (fr_I (fr_I (fr_F (fr_F (fr_rf w) (by simp [fI_Y])) (by simp [fI_Y])) (by simp [fI_Y])) (by simp [fI_Y])) (by simp [fI_Y])) (by simp [fI_Y])
          have Rv : ∀ (l g v : Int32), _ := fun l g v => Rg (pb_wI (pb_wI (pb_wI (lay w a1 n) 54 5 l) 54 6 g) 0 0 v) f6 hL (LN_sv hN rfl rfl rfl rfl rfl rfl rfl rfl rfl rfl rfl rfl) ⟨rfl, rfl, rfl, rfl, rfl, rfl⟩
          by_cases g : gpP w a1 n j
          · rw [if_neg (not_not_intro g), pb_bI_some] at C
            have R6 := fun l g v => Rv l g v
            simp only [if_neg (not_not_intro g)] at R6
            rcases blg hN a1 (j - m) (min 519 (j + m) + 1 - (j - m)) with ⟨b1, b2⟩ | ⟨p, q, lp, lq, b1, b2⟩
            · have B : bst w a1 n (j - m) a4 (min 519 (j + m) + 1 - (j - m)) = -1 := by
                unfold bst
                rw [b1, b2]
                exact ite_self _
              rw [b1, b2, if_pos rfl, if_pos rfl, if_neg (show ¬ (pb_wI (pb_wI (pb_wI (lay w a1 n) 54 5 (-1 : Int32)) 54 6 (-1 : Int32)) 0 0 (6 : Int32)).1 0 0 = 0 from k6)] at C
              have R7 := R6 (-1) (-1) 6
              rw [if_pos B] at R7
              exact ⟨-1, _, _, C, R7, frW _ _ _, rfl, hH.2.1, hH.2.2⟩
            · have B : bst w a1 n (j - m) a4 (min 519 (j + m) + 1 - (j - m)) ≠ -1 := by
                unfold bst
                rw [b1, b2]
                split
                · exact pn_m1 p lp
                · exact pn_m1 q lq
              have n1 : ¬ blo w a1 n (j - m) (min 519 (j + m) + 1 - (j - m)) = -1 := by rw [b1]; exact pn_m1 p lp
              rw [if_neg n1, if_neg k1, if_pos (show (pb_wI (pb_wI (pb_wI (lay w a1 n) 54 5 (blo w a1 n (j - m) (min 519 (j + m) + 1 - (j - m)))) 54 6 (bgr w a1 n (j - m) (min 519 (j + m) + 1 - (j - m)))) 0 0 (0 : Int32)).1 0 0 = 0 from rfl)] at C
              have R7 := R6 (blo w a1 n (j - m) (min 519 (j + m) + 1 - (j - m))) (bgr w a1 n (j - m) (min 519 (j + m) + 1 - (j - m))) 0
              rw [if_neg B] at R7
              refine ⟨_, _, _, ?_, R7, frW _ _ _, rfl, hH.2.1, hH.2.2⟩
              rw [C]
              unfold bst
              by_cases q4 : a4 = 0
              · rw [if_pos q4, if_pos q4]
                rfl
              · rw [if_neg q4, if_neg q4]
                rfl
          · rw [if_pos g, pb_bI_some, if_pos rfl, if_neg (show ¬ (pb_wI (pb_wI (pb_wI (lay w a1 n) 54 5 (-1 : Int32)) 54 6 (-1 : Int32)) 0 0 (6 : Int32)).1 0 0 = 0 from k6)] at C
            have R7 := Rv (-1) (-1) 6
            rw [if_pos g] at R7
            exact ⟨-1, _, _, C, R7, frW _ _ _, rfl, hH.2.1, hH.2.2⟩
  · rw [if_neg (not_not_intro (Or.inl h1))] at C
    have R1 := R (pb_wI w 0 0 1)
    rw [show (pb_wI w 0 0 (1 : Int32)).1 64 6 = nI f from f6, if_pos h1] at R1
    exact ⟨-1, _, _, C, R1, refuse1⟩
