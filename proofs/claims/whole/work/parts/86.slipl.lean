/-! ===== frames of the invariants used here ===== -/
theorem fr_J {I : Nat → Nat → Prop} {w v : pb_W} (h : fr I fJ_no w v) : v.2 = w.2 := funext fun c => funext fun k => h.2 c k id
theorem iv_L_fr {I J : Nat → Nat → Prop} {w v : pb_W} (h : fr I J w v) (h5 : ∀ k, k = 3 ∨ k = 13 ∨ k = 18 ∨ k = 19 → ¬ I 5 k) (h64 : ∀ k, k = 7 ∨ k = 8 ∨ k = 9 ∨ k = 10 → ¬ I 64 k) (hc : ∀ c, (8 ≤ c ∧ c ≤ 19 ∧ c ≠ 14) ∨ (70 ≤ c ∧ c ≤ 78) ∨ c = 81 → ∀ k, ¬ I c k) (hj : ∀ c, c = 79 ∨ c = 14 → ∀ k, ¬ J c k) (hL : iv_L w) : iv_L v := by
  have c1 : ∀ c, (8 ≤ c ∧ c ≤ 19 ∧ c ≠ 14) ∨ (70 ≤ c ∧ c ≤ 78) ∨ c = 81 → v.1 c = w.1 c := fun c q => fr_1 h c (hc c q)
  unfold iv_L
  rw [h.1 5 3 (h5 3 (by omega)), h.1 5 13 (h5 13 (by omega)), h.1 5 18 (h5 18 (by omega)), h.1 5 19 (h5 19 (by omega)), h.1 64 7 (h64 7 (by omega)), h.1 64 8 (h64 8 (by omega)), h.1 64 9 (h64 9 (by omega)), h.1 64 10 (h64 10 (by omega)), c1 8 (by omega), c1 9 (by omega), c1 10 (by omega), c1 11 (by omega), c1 12 (by omega), c1 13 (by omega), c1 15 (by omega), c1 16 (by omega), c1 17 (by omega), c1 18 (by omega), c1 19 (by omega), c1 70 (by omega), c1 71 (by omega), c1 72 (by omega), c1 73 (by omega), c1 74 (by omega), c1 75 (by omega), c1 76 (by omega), c1 77 (by omega), c1 78 (by omega), c1 81 (by omega), fr_2 h 79 (hj 79 (by omega)), fr_2 h 14 (hj 14 (by omega))]
  exact hL
theorem iv_D_fr {I J : Nat → Nat → Prop} {w v : pb_W} (h : fr I J w v) (h31 : ¬ I 31 1) (h64 : ¬ I 64 67) (hc : ∀ c, c = 32 ∨ c = 33 ∨ c = 34 ∨ c = 104 ∨ c = 105 ∨ c = 106 → ∀ k, ¬ I c k) (hD : iv_D w) : iv_D v := by
  have c1 : ∀ c, c = 32 ∨ c = 33 ∨ c = 34 ∨ c = 104 ∨ c = 105 ∨ c = 106 → v.1 c = w.1 c := fun c q => fr_1 h c (hc c q)
  unfold iv_D
  rw [h.1 31 1 h31, h.1 64 67 h64, c1 32 (by omega), c1 33 (by omega), c1 34 (by omega), c1 104 (by omega), c1 105 (by omega), c1 106 (by omega)]
  exact hD
theorem SV_fr {I J : Nat → Nat → Prop} {w v : pb_W} (h : fr I J w v) (h5 : ¬ I 5 19) (hc : ∀ c, c = 8 ∨ c = 9 ∨ c = 12 ∨ c = 13 ∨ c = 16 → ∀ k, ¬ I c k) : SV v w := ⟨h.1 5 19 h5, fr_1 h 8 (hc 8 (by omega)), fr_1 h 9 (hc 9 (by omega)), fr_1 h 12 (hc 12 (by omega)), fr_1 h 13 (hc 13 (by omega)), fr_1 h 16 (hc 16 (by omega))⟩
theorem slA_sv {v w : pb_W} (h : SV v w) (l : List Nat) : slA v l = slA w l := by
  funext i x
  unfold slA
  rw [pcN_sv h]
theorem P_ok (c : Nat) : (c = 8 ∨ c = 9 ∨ c = 12 ∨ c = 13 ∨ c = 16) → ∀ k, ¬ fI_P c k := by
  intro h k
  rcases h with e | e | e | e | e <;> subst e <;> simp [fI_P]
/-- what the reference finds where the class has searched -/
theorem expl_both {w v : pb_W} (hL : iv_L w) (hD : iv_D w) {n : Nat} (hN : LN w n) (f wk : Int32) (hf : fr fI_P fJ_no w v) : ∃ x v1, M_X12_explains [.ref 64, .int f, .int wk] v = some (some (.int x), v1) ∧ fr fI_P fJ_no v v1 ∧ v1.1 0 0 = v.1 0 0 ∧ (td w f wk = -1 ∨ 9 < (gat w f wk n).length → x = 0) ∧ (td w f wk ≠ -1 → (gat w f wk n).length ≤ 9 → ∃ s : Sst, RS (slA w (gat w f wk n)) (gat w f wk n).length (slO w f wk n) s (fun k => cC (slA w (gat w f wk n)) (gat w f wk n).length 0 k (slO w f wk n)) ∧ (∀ v k, k ≤ 3 → Mem (slA w (gat w f wk n)) (gat w f wk n).length (slO w f wk n) k v → Cov (gat w f wk n).length s v k) ∧ x = (if s.1 ≤ 3 then 1 else 0) ∧ v1.1 64 73 = nI s.1 ∧ v1.1 64 74 = nI s.2.1 ∧ v1.1 64 75 = s.2.2.2.1 ∧ v1.1 109 = s.2.2.1 ∧ v1.1 64 71 = nI (gat w f wk n).length ∧ ∀ j, j < (gat w f wk n).length → v1.1 107 j = nI ((gat w f wk n).getD j 0)) := by
  have sv : SV v w := SV_fr hf (by simp [fI_P]) (fun c q => P_ok c q)
  have hc : ∀ c, (8 ≤ c ∧ c ≤ 19 ∧ c ≠ 14) ∨ (70 ≤ c ∧ c ≤ 78) ∨ c = 81 → ∀ k, ¬ fI_P c k := by
    intro c q k
    simp only [fI_P]
    omega
  have hL' : iv_L v := iv_L_fr hf (by intro k q; simp only [fI_P]; omega) (by intro k q; simp only [fI_P]; omega) hc (fun _ _ _ => id) hL
  have hD' : iv_D v := iv_D_fr hf (by simp [fI_P]) (by simp [fI_P]) (by intro c q k; simp only [fI_P]; omega) hD
  have f1 : ∀ c, (8 ≤ c ∧ c ≤ 19 ∧ c ≠ 14) ∨ (70 ≤ c ∧ c ≤ 78) ∨ c = 81 → v.1 c = w.1 c := fun c q => fr_1 hf c (hc c q)
  have hN' : LN v n := LN_sv hN (fr_1 hf 5 (by intro k; simp [fI_P])) (hf.1 64 7 (by simp [fI_P])) (hf.1 64 10 (by simp [fI_P])) (f1 8 (by omega)) (f1 9 (by omega)) (f1 11 (by omega)) (f1 13 (by omega)) (f1 16 (by omega)) (f1 70 (by omega)) (f1 71 (by omega)) (f1 74 (by omega)) (f1 75 (by omega))
  have tE : td v f wk = td w f wk := by
    unfold td
    rw [hf.1 31 1 (by simp [fI_P]), fr_1 hf 32 (by intro k; simp [fI_P]), fr_1 hf 33 (by intro k; simp [fI_P])]
  have gE := gat_sv sv f wk n
  have oE : slO v f wk n = slO w f wk n := by
    unfold slO
    rw [tE, spN_sv sv, fr_1 hf 34 (by intro k; simp [fI_P])]
  have M := M_explains hL' hD' hN' f wk
  rw [tE, gE, oE, slA_sv sv] at M
  exact M
theorem x_slips (a1 a2 a3 : Int32) (w : pb_W) (hH : iv_H w) (hF : iv_F w) (hL : iv_L w) (hD : iv_D w) : ∃ x w1 w2, M_X11_slips [.ref 0, .int a1, .int a2, .int a3] w = some (some (.int x), w1) ∧ M_X12_slips [.ref 64, .int a1, .int a2, .int a3] w1 = some (some (.int x), w2) ∧ fr fI_P fJ_no w w2 ∧ iv_H w2 := by
  obtain ⟨nF, hf, f5, f6, -⟩ := hF
  obtain ⟨n, hN⟩ := LN_of hL
  have k1 : ¬ (1 : Int32) = 0 := by decide
  have k6 : ¬ (6 : Int32) = 0 := by decide
  have refuse1 : fr fI_P fJ_no w (pb_wI (pb_wI w 0 0 1) 64 0 1) ∧ iv_H (pb_wI (pb_wI w 0 0 1) 64 0 1) := ⟨fr_I (fr_I (fr_rf w) (by simp [fI_P])) (by simp [fI_P]), rfl, hH.2.1, hH.2.2⟩
  have C := e_X11_slips a1 a2 a3 w
  simp only [M_noFamilyWeek, M_outside, pb_bI_some, q01, f5, r_X11_slips_48, if_neg (show ¬ (pb_wI w 0 0 (1 : Int32)).1 0 0 = 0 from k1)] at C
  have R := fun v : pb_W => e_X12_slips a1 a2 a3 v
  simp only [M_isFamily, M_isWeek, pb_bI_some, ite_ref, q01, q10, e_X12_gives] at R
  by_cases h1 : ¬ a1 < 0 ∧ a1 < nI nF
  · by_cases h2 : a2 < 0 ∨ 519 < a2
    · rw [if_neg (not_not_intro (Or.inr h2))] at C
      have R1 := R (pb_wI w 0 0 1)
      rw [show (pb_wI w 0 0 (1 : Int32)).1 64 6 = nI nF from f6, if_neg (not_not_intro h1), if_pos h2] at R1
      exact ⟨-1, _, _, C, R1, refuse1⟩
    · rw [if_pos (fun q => q.elim (fun z => z h1) h2)] at C
      by_cases h3 : a3 < 0 ∨ 2 < a3
      · rw [if_neg (not_not_intro h3)] at C
        refine ⟨-1, _, pb_wI (pb_wI w 0 0 1) 64 0 1, C, ?_, refuse1⟩
        rw [R, show (pb_wI w 0 0 (1 : Int32)).1 64 6 = nI nF from f6, if_neg (not_not_intro h1), if_neg h2]
        by_cases q : a3 < 0
        · rw [if_pos q]
        · rw [if_neg q, if_pos (h3.resolve_left q)]
      · rw [if_pos h3] at C
        obtain ⟨x, w1, E, F, S0, X1, X2⟩ := M_explain hL hD hN a1 a2
        rw [E, pb_bI_some] at C
        have six : x = 0 → ∃ v : pb_W, v = pb_wI w1 0 0 6 ∧ M_X11_slips [.ref 0, .int a1, .int a2, .int a3] w = some (some (.int (-1)), v) := by
          intro x0
          refine ⟨_, rfl, ?_⟩
          rw [C, if_pos x0, if_neg (show ¬ (pb_wI w1 0 0 (6 : Int32)).1 0 0 = 0 from k6)]
        have F' : ∀ v : Int32, fr fI_P fJ_no w (pb_wI w1 0 0 v) := fun v => fr_I F (by simp [fI_P])
        have R' : ∀ (st : Int32), ∃ (x' : Int32) (v1 : pb_W), M_X12_slips [.ref 64, .int a1, .int a2, .int a3] (pb_wI w1 0 0 st) = (if x' = 0 then some (some (.int (-1)), pb_wI v1 64 0 6) else if a3 = 0 then some (some (.int (v1.1 64 73)), pb_wI v1 64 0 0) else if a3 = 1 then some (some (.int (v1.1 64 74)), pb_wI v1 64 0 0) else some (some (.int (v1.1 64 75)), pb_wI v1 64 0 0)) ∧ fr fI_P fJ_no w v1 ∧ v1.1 0 0 = st ∧ (td w a1 a2 = -1 ∨ 9 < (gat w a1 a2 n).length → x' = 0) ∧ (td w a1 a2 ≠ -1 → (gat w a1 a2 n).length ≤ 9 → ∃ s : Sst, RS (slA w (gat w a1 a2 n)) (gat w a1 a2 n).length (slO w a1 a2 n) s (fun k => cC (slA w (gat w a1 a2 n)) (gat w a1 a2 n).length 0 k (slO w a1 a2 n)) ∧ (∀ v k, k ≤ 3 → Mem (slA w (gat w a1 a2 n)) (gat w a1 a2 n).length (slO w a1 a2 n) k v → Cov (gat w a1 a2 n).length s v k) ∧ x' = (if s.1 ≤ 3 then 1 else 0) ∧ v1.1 64 73 = nI s.1 ∧ v1.1 64 74 = nI s.2.1 ∧ v1.1 64 75 = s.2.2.2.1) := by
          intro st
          obtain ⟨x', v1, y1, y2, y3, y4, y5⟩ := expl_both hL hD hN a1 a2 (F' st)
          refine ⟨x', v1, ?_, fr_tr (F' st) y2, y3, y4, fun p q => ?_⟩
          · rw [R, show (pb_wI w1 0 0 st).1 64 6 = nI nF from (F.1 64 6 (by simp [fI_P])).trans f6, if_neg (not_not_intro h1), if_neg h2, if_neg (fun q => h3 (Or.inl q)), if_neg (fun q => h3 (Or.inr q)), y1, pb_bI_some]
          · obtain ⟨s, z1, z2, z3, z4, z5, z6, -⟩ := y5 p q
            exact ⟨s, z1, z2, z3, z4, z5, z6⟩
        have fin : ∀ (v1 : pb_W) (st : Int32), fr fI_P fJ_no w v1 → v1.1 0 0 = st → fr fI_P fJ_no w (pb_wI v1 64 0 st) ∧ iv_H (pb_wI v1 64 0 st) := by
          intro v1 st f1 e1
          refine ⟨fr_I f1 (by simp [fI_P]), e1.symm, ?_, ?_⟩
          · show v1.2 64 1 = v1.2 0 1
            rw [fr_J f1]; exact hH.2.1
          · show v1.2 64 2 = v1.2 0 2
            rw [fr_J f1]; exact hH.2.2
        by_cases bad : td w a1 a2 = -1 ∨ 9 < (gat w a1 a2 n).length
        · obtain ⟨v, ev, Cv⟩ := six (X1 bad)
          subst ev
          obtain ⟨x', v1, y1, y2, y3, y4, -⟩ := R' 6
          rw [if_pos (y4 bad)] at y1
          exact ⟨-1, _, _, Cv, y1, fin v1 6 y2 y3⟩
        · have t1 : td w a1 a2 ≠ -1 := fun q => bad (Or.inl q)
          have t2 : (gat w a1 a2 n).length ≤ 9 := by
            rcases Nat.lt_or_ge 9 (gat w a1 a2 n).length with q | q
            · exact absurd (Or.inr q) bad
            · exact q
          rcases X2 t1 t2 with ⟨x0, all0⟩ | ⟨x1, k0, fv, p1, p2, p3, p4, p5, p6, -⟩
          · obtain ⟨v, ev, Cv⟩ := six x0
            subst ev
            obtain ⟨x', v1, y1, y2, y3, -, y5⟩ := R' 6
            obtain ⟨s, z1, z2, z3, -⟩ := y5 t1 t2
            have s4 := slip_none z1 all0
            rw [if_pos (by rw [z3, s4]; rfl)] at y1
            exact ⟨-1, _, _, Cv, y1, fin v1 6 y2 y3⟩
          · obtain ⟨x', v1, y1, y2, y3, -, y5⟩ := R' 0
            obtain ⟨s, z1, z2, z3, z4, z5, z6⟩ := y5 t1 t2
            obtain ⟨s1, s2, s3, s4⟩ := slip_same t2 z1 z2 p1 p4 p5 p6
            rw [if_neg (by rw [x1]; exact k1), if_pos (show (pb_wI w1 0 0 (0 : Int32)).1 0 0 = 0 from rfl)] at C
            rw [if_neg (by rw [z3, s1, if_pos p1]; exact k1)] at y1
            obtain ⟨c3, l3, e3⟩ := px_to (N := 2) (by decide) (show ¬ (a3 < 0 ∨ nI 2 < a3) from h3)
            have c3' : c3 = 0 ∨ c3 = 1 ∨ c3 = 2 := by omega
            rcases c3' with q | q | q
            · subst q
              rw [e3] at C y1 ⊢
              rw [if_neg (show ¬ nI 0 = (2 : Int32) by decide), if_pos (show nI 0 = (0 : Int32) from rfl), show (pb_wI w1 0 0 (0 : Int32)).1 31 10 = nI k0 from p2] at C
              rw [if_pos (show nI 0 = (0 : Int32) from rfl), z4, s1] at y1
              exact ⟨_, _, _, C, y1, fin v1 0 y2 y3⟩
            · subst q
              rw [e3] at C y1 ⊢
              rw [if_neg (show ¬ nI 1 = (2 : Int32) by decide), if_neg (show ¬ nI 1 = (0 : Int32) by decide), show (pb_wI w1 0 0 (0 : Int32)).1 31 11 = _ from p3] at C
              rw [if_neg (show ¬ nI 1 = (0 : Int32) by decide), if_pos (show nI 1 = (1 : Int32) from rfl), z5, s2] at y1
              exact ⟨_, _, _, C, y1, fin v1 0 y2 y3⟩
            · subst q
              rw [e3] at C y1 ⊢
              rw [if_pos (show nI 2 = (2 : Int32) from rfl), show (pb_wI w1 0 0 (0 : Int32)).1 31 12 = w1.1 31 12 from rfl] at C
              rw [if_neg (show ¬ nI 2 = (0 : Int32) by decide), if_neg (show ¬ nI 2 = (1 : Int32) by decide), z6, s4] at y1
              exact ⟨_, _, _, C, y1, fin v1 0 y2 y3⟩
  · rw [if_neg (not_not_intro (Or.inl h1))] at C
    have R1 := R (pb_wI w 0 0 1)
    rw [show (pb_wI w 0 0 (1 : Int32)).1 64 6 = nI nF from f6, if_pos h1] at R1
    exact ⟨-1, _, _, C, R1, refuse1⟩
