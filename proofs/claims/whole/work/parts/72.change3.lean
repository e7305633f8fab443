def oL : Option (Nat × Nat) → Int32
  | none => 1000000000
  | some (_, m) => nI m
theorem mx_best {w : pb_W} {n : Nat} (hN : LN w n) (f a2 : Int32) : ∀ m j o g, j + m = 520 → 1 ≤ j → goodS (vat w f n) (fun y => 1 ≤ y ∧ y < j) o → ∃ o' g', goodS (vat w f n) (fun y => 1 ≤ y ∧ y < 520) o' ∧ pb_run T_X12_change (68, [some (.ref 64), some (.int f), some (.int a2), some (.int (oB o)), some (.int (oL o)), some (.int (nI j)), none, none], [], pb_wF w 124 g) = (if oB o' = -1 then some (some (.int (-1)), pb_wI (pb_wF w 124 g') 64 0 6) else some (some (.int (if a2 = 0 then oB o' else oL o')), pb_wI (pb_wF w 124 g') 64 0 0)) := by
  have hn := hN.le
  intro m
  induction m with
  | zero =>
    intro j o g hj lj ho
    have e : j = 520 := by omega
    subst e
    refine ⟨o, g, ho, ?_⟩
    rw [r_X12_change_68, if_neg (show ¬ nI 520 < (520 : Int32) by decide), ite_ref, e_X12_gives, pb_bI_some, e_X12_gives, pb_bI_some]
    split
    · rfl
    · split <;> rfl
  | succ m ih =>
    intro j o g hj lj ho
    have hN1 : LN (pb_wF w 124 g) n := LN_sv hN rfl rfl rfl rfl rfl rfl rfl rfl rfl rfl rfl rfl
    obtain ⟨g1, e1⟩ := M_unl_m hN1 f (lo := 0) (hi := j) (by omega) (by omega)
    rw [pw_FF] at e1
    have hN2 : LN (pb_wF w 124 g1) n := LN_sv hN rfl rfl rfl rfl rfl rfl rfl rfl rfl rfl rfl rfl
    obtain ⟨g2, e2⟩ := M_unl_m hN2 f (lo := j) (hi := 520) (by omega) (by omega)
    rw [pw_FF] at e2
    obtain ⟨o', g', y1, y2⟩ := ih (j + 1) (bsC o j (vat w f n j)) g2 (by omega) (by omega) (goodS_step ho (fun y => by omega))
    refine ⟨o', g', y1, ?_⟩
    rw [← y2, r_X12_change_68, if_pos (show nI j < (520 : Int32) from nI_lt (b := 520) (by omega) (by omega)), show M_X12_unlike [.ref 64, .int f, .int (0 : Int32), .int (nI j)] (pb_wF w 124 g) = _ from e1, pb_bI_some, show M_X12_unlike [.ref 64, .int f, .int (nI j), .int (520 : Int32)] (pb_wF w 124 g1) = _ from e2, pb_bI_some, nI_1, ulk_sh (v := pb_wF w 124 g) (w := w) ⟨rfl, rfl, rfl, rfl, rfl⟩, ulk_sh (v := pb_wF w 124 g1) (w := w) ⟨rfl, rfl, rfl, rfl, rfl⟩]
    have U := vat_ulk hN f j
    by_cases p : ulk w f 0 j n = -1
    · rw [if_pos p] at U
      rw [if_pos p]
      cases ev : vat w f n j with
      | none =>
        cases o <;> rfl
      | some k =>
        have := vat_le hN f ev
        rw [ev] at U
        exact absurd U.symm (pn_m1 k (by omega))
    · rw [if_neg p] at U
      rw [if_neg p]
      by_cases q : ulk w f j 520 n = -1
      · rw [if_pos q] at U
        rw [if_pos q]
        cases ev : vat w f n j with
        | none =>
          cases o <;> rfl
        | some k =>
          have := vat_le hN f ev
          rw [ev] at U
          exact absurd U.symm (pn_m1 k (by omega))
      · rw [if_neg q] at U
        rw [if_neg q, U]
        cases ev : vat w f n j with
        | none =>
          exfalso
          unfold ulk at p q
          unfold vat at ev
          by_cases z1 : htot w f 0 j n = 0
          · exact p (by rw [if_pos z1])
          · by_cases z2 : htot w f j 520 n = 0
            · exact q (by rw [if_pos z2])
            · rw [if_neg (fun z => z.elim z1 z2)] at ev
              cases ev
        | some k =>
          have lk := vat_le hN f ev
          cases o with
          | none =>
            rw [if_pos (show oI (some k) < oL none from nI_lt (b := 1000000000) (by omega) (by decide))]
            rfl
          | some r =>
            obtain ⟨b, l⟩ := r
            have ll := vat_le hN f ho.2.1
            have lb := ho.1
            rw [show oI (some k) = nI k from rfl, show oL (some (b, l)) = nI l from rfl, ite_lt (by omega) (by omega)]
            show _ = pb_run T_X12_change (68, [some (.ref 64), some (.int f), some (.int a2), some (.int (oB (if k < l ∨ k = l ∧ j < b then some (j, k) else some (b, l)))), some (.int (oL (if k < l ∨ k = l ∧ j < b then some (j, k) else some (b, l)))), some (.int (nI (j + 1))), none, none], [], pb_wF w 124 g2)
            by_cases q1 : k < l
            · rw [if_pos q1, if_pos (Or.inl q1)]
              rfl
            · rw [if_neg q1, if_neg (by omega)]
              rfl
theorem x_change (a1 a2 : Int32) (w : pb_W) (hH : iv_H w) (hF : iv_F w) (hL : iv_L w) : ∃ x w1 w2, M_X11_change [.ref 0, .int a1, .int a2] w = some (some (.int x), w1) ∧ M_X12_change [.ref 64, .int a1, .int a2] w1 = some (some (.int x), w2) ∧ fr (fun c k => (c = 0 ∧ k = 0) ∨ (c = 64 ∧ k = 0) ∨ c = 55 ∨ c = 124) fJ_no w w2 ∧ iv_H w2 := by
  obtain ⟨f, hf, f5, f6, -⟩ := hF
  obtain ⟨n, hN⟩ := LN_of hL
  have k1 : ¬ (1 : Int32) = 0 := by decide
  have refuse1 : fr (fun c k => (c = 0 ∧ k = 0) ∨ (c = 64 ∧ k = 0) ∨ c = 55 ∨ c = 124) fJ_no w (pb_wI (pb_wI w 0 0 1) 64 0 1) ∧ iv_H (pb_wI (pb_wI w 0 0 1) 64 0 1) := ⟨fr_I (fr_I (fr_rf w) (by simp)) (by simp), rfl, hH.2.1, hH.2.2⟩
  have fin : ∀ (g g' : Nat → Int32) (v : Int32), fr (fun c k => (c = 0 ∧ k = 0) ∨ (c = 64 ∧ k = 0) ∨ c = 55 ∨ c = 124) fJ_no w (pb_wI (pb_wF (pb_wI (pb_wF w 55 g) 0 0 v) 124 g') 64 0 v) ∧ iv_H (pb_wI (pb_wF (pb_wI (pb_wF w 55 g) 0 0 v) 124 g') 64 0 v) := fun g g' v => ⟨fr_I (fr_F (fr_I (fr_F (fr_rf w) (by simp)) (by simp)) (by simp)) (by simp), rfl, hH.2.1, hH.2.2⟩
  have C := e_X11_change a1 a2 w
  simp only [M_hasFamily, M_outside, pb_bI_some, q01, f5, r_X11_change_56] at C
  have R := fun v : pb_W => e_X12_change a1 a2 v
  simp only [M_isFamily, pb_bI_some, ite_ref, q01] at R
  by_cases h1 : ¬ a1 < 0 ∧ a1 < nI f
  · rw [if_neg (not_not_intro h1)] at C
    by_cases h2 : a2 < 0 ∨ 2 < a2
    · rw [if_neg (not_not_intro h2)] at C
      refine ⟨-1, _, pb_wI (pb_wI w 0 0 1) 64 0 1, C, ?_, refuse1⟩
      rw [R, show (pb_wI w 0 0 (1 : Int32)).1 64 6 = nI f from f6, if_neg (not_not_intro h1)]
      by_cases q : a2 < 0
      · rw [if_pos q]
      · rw [if_neg q, if_pos (h2.resolve_left q)]
    · rw [if_pos h2] at C
      have R' : ∀ (g : Nat → Int32) (v : Int32), _ := fun g v => R (pb_wI (pb_wF w 55 g) 0 0 v)
      have f6' : ∀ (g : Nat → Int32) (v : Int32), (pb_wI (pb_wF w 55 g) 0 0 v).1 64 6 = nI f := fun g v => f6
      simp only [f6', if_neg (not_not_intro h1), if_neg (fun q => h2 (Or.inl q)), if_neg (fun q => h2 (Or.inr q))] at R'
      have hN' : ∀ (g : Nat → Int32) (v : Int32), LN (pb_wI (pb_wF w 55 g) 0 0 v) n := fun g v => LN_sv hN rfl rfl rfl rfl rfl rfl rfl rfl rfl rfl rfl rfl
      have sh : ∀ (g : Nat → Int32) (v : Int32), SH (pb_wI (pb_wF w 55 g) 0 0 v) w := fun g v => ⟨rfl, rfl, rfl, rfl, rfl⟩
      by_cases h3 : a2 = 2
      · rw [if_pos h3] at C
        simp only [if_pos h3] at R'
        obtain ⟨g, e⟩ := M_unl_c hN a1 (lo := 0) (to := 519) (by omega) (by omega)
        rw [show M_X9_unlikeHands [.ref 54, .int a1, .int (0 : Int32), .int (519 : Int32)] w = _ from e, pb_bI_some] at C
        by_cases q : ulk w a1 0 520 n = -1
        · obtain ⟨g', e'⟩ := M_unl_m (hN' g 6) a1 (lo := 0) (hi := 520) (by omega) (by omega)
          rw [if_pos q] at C
          have R6 := R' g 6
          rw [show M_X12_unlike [.ref 64, .int a1, .int (0 : Int32), .int (520 : Int32)] (pb_wI (pb_wF w 55 g) 0 0 6) = _ from e', pb_bI_some, ulk_sh (sh g 6), if_pos q] at R6
          rw [q] at C
          exact ⟨-1, _, _, C, R6, fin g g' 6⟩
        · obtain ⟨g', e'⟩ := M_unl_m (hN' g 0) a1 (lo := 0) (hi := 520) (by omega) (by omega)
          rw [if_neg q] at C
          have R6 := R' g 0
          rw [show M_X12_unlike [.ref 64, .int a1, .int (0 : Int32), .int (520 : Int32)] (pb_wI (pb_wF w 55 g) 0 0 0) = _ from e', pb_bI_some, ulk_sh (sh g 0), if_neg q, e_X12_gives, pb_bI_some] at R6
          exact ⟨_, _, _, C, R6, fin g g' 0⟩
      · rw [if_neg h3] at C
        simp only [if_neg h3] at R'
        obtain ⟨o, g, go, eo⟩ := cx_best hN a1 a2 n 0 none (w.1 55) (by omega) (fun x hx => by obtain ⟨k, a, -⟩ := hx; omega)
        rw [pw_F_self] at eo
        rw [e_X9_bestChange, show pb_run T_X9_bestChange (8, [some (.ref 54), some (.int a1), some (.int a2), some (.int (-1 : Int32)), some (.int (-1 : Int32)), some (.int (0 : Int32)), none, none, none], [], w) = _ from eo, pb_bI_some] at C
        have RR : ∀ v : Int32, ∃ g', M_X12_change [.ref 64, .int a1, .int a2] (pb_wI (pb_wF w 55 g) 0 0 v) = (if oB o = -1 then some (some (.int (-1)), pb_wI (pb_wF (pb_wI (pb_wF w 55 g) 0 0 v) 124 g') 64 0 6) else some (some (.int (if a2 = 0 then oB o else oL o)), pb_wI (pb_wF (pb_wI (pb_wF w 55 g) 0 0 v) 124 g') 64 0 0)) := by
          intro v
          obtain ⟨o', g', go', eo'⟩ := mx_best (hN' g v) a1 a2 519 1 none ((pb_wI (pb_wF w 55 g) 0 0 v).1 124) (by omega) (by omega) (fun x hx => by omega)
          rw [pw_F_self] at eo'
          have E : vat (pb_wI (pb_wF w 55 g) 0 0 v) a1 n = vat w a1 n := funext fun x => vat_sh (sh g v) a1 n x
          rw [E] at go'
          have := goodS_uniq go go' (by
            rintro x m ⟨k, a, b, c⟩ vx
            refine ⟨by omega, ?_⟩
            rcases Nat.lt_or_ge x 520 with q | q
            · exact q
            · rw [vat_520 q] at vx
              cases vx) (by
            intro x m hx vx
            obtain ⟨k, a, b, c, d⟩ := vat_back vx
            exact ⟨wkN w k + 1, ⟨k, a, b, rfl⟩, c, d⟩)
          subst this
          exact ⟨g', (R' g v).trans eo'⟩
        cases o with
        | none =>
          obtain ⟨g', R6⟩ := RR 6
          rw [if_pos (show oB none = -1 from rfl)] at R6
          rw [show (if a2 = 0 then oB none else oM none) = -1 from ite_self _, if_pos rfl] at C
          exact ⟨-1, _, _, C, R6, fin g g' 6⟩
        | some p =>
          obtain ⟨b, l⟩ := p
          have ll := vat_le hN a1 go.2.1
          have lb : b ≤ 520 := by
            obtain ⟨k', a', -, c'⟩ := go.1
            have := (hN.wk k' (by omega)).2
            omega
          obtain ⟨g', R6⟩ := RR 0
          rw [if_neg (show ¬ oB (some (b, l)) = -1 from pn_m1 b (by omega)), show (if a2 = 0 then oB (some (b, l)) else oL (some (b, l))) = if a2 = 0 then nI b else nI l from rfl] at R6
          have ne : ¬ (if a2 = 0 then nI b else nI l) = -1 := by
            split
            · exact pn_m1 b (by omega)
            · exact pn_m1 l (by omega)
          rw [show (if a2 = 0 then oB (some (b, l)) else oM (some (b, l))) = if a2 = 0 then nI b else nI l from rfl, if_neg ne] at C
          exact ⟨_, _, _, C, R6, fin g g' 0⟩
  · rw [if_pos h1] at C
    have R1 := R (pb_wI w 0 0 1)
    rw [show (pb_wI w 0 0 (1 : Int32)).1 64 6 = nI f from f6, if_pos h1] at R1
    exact ⟨-1, _, _, C, R1, refuse1⟩
