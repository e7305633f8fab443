/-! ===== SLIP ===== -/
theorem cx_slipOf {w : pb_W} {g l : Nat} {L : Nat → Nat} (hg : g ≤ 9) (h5 : w.1 31 5 = nI g) (hL : ∀ j, j < g → w.1 35 j = nI (L j) ∧ L j < 200) (hl : l < 200) {p : Nat} (hp : p < g) (hpl : L p = l) (hu : ∀ j, j < g → L j = l → j = p) : ∀ m i, i + m = p → pb_run T_X6_slipOf (2, [some (.ref 31), some (.int (nI l)), some (.int (nI i))], [], w) = some (some (.int (w.1 38 p)), w) := by
  intro m
  induction m with
  | zero =>
    intro i hi
    have e : i = p := by omega
    subst e
    have i9 : pb_in (nI i) 9 := pn_in (by omega) (by decide)
    rw [r_X6_slipOf_2, h5, if_pos (show nI i < nI g from nI_lt hp (by omega)), if_pos i9, if_pos i9, nI_clamp (show i < 2 ^ 31 by omega), (hL i hp).1, hpl, if_pos rfl]
  | succ m ih =>
    intro i hi
    have i9 : pb_in (nI i) 9 := pn_in (by omega) (by decide)
    obtain ⟨e1, e2⟩ := hL i (by omega)
    rw [r_X6_slipOf_2, h5, if_pos (show nI i < nI g from nI_lt (by omega) (by omega)), if_pos i9, if_pos i9, nI_clamp (show i < 2 ^ 31 by omega), e1, ite_eqN (by omega) (by omega), if_neg (fun q => by have := hu i (by omega) q; omega), nI_1]
    exact ih (i + 1) (by omega)
theorem mx_slip {w : pb_W} {g l : Nat} {L : Nat → Nat} (hg : g ≤ 9) (h71 : w.1 64 71 = nI g) (hL : ∀ j, j < g → w.1 107 j = nI (L j) ∧ L j < 200) (hl : l < 200) {p : Nat} (hp : p < g) (hpl : L p = l) (hu : ∀ j, j < g → L j = l → j = p) : ∀ m i (a : Int32), i + m = g → (p < i → a = w.1 109 p) → pb_run T_X12_slip (61, [some (.ref 64), some (.int (nI l)), some (.int a), some (.int (nI i))], [], w) = some (some (.int (w.1 109 p)), pb_wI w 64 0 0) := by
  intro m
  induction m with
  | zero =>
    intro i a hi ha
    rw [r_X12_slip_61, h71, if_neg (show ¬ nI i < nI g from fun q => by rw [nI_ltI (by omega) (by omega)] at q; omega), e_X12_gives, pb_bI_some, ha (by omega)]
  | succ m ih =>
    intro i a hi ha
    obtain ⟨e1, e2⟩ := hL i (by omega)
    rw [r_X12_slip_61, h71, if_pos (show nI i < nI g from nI_lt (by omega) (by omega)), if_pos (pn_in (show i < 200 by omega) (by decide)), if_pos (pn_in (show i < 9 by omega) (by decide)), nI_clamp (show i < 2 ^ 31 by omega), e1, ite_eqN (by omega) (by omega), nI_1]
    by_cases q : L i = l
    · have e := hu i (by omega) q
      subst e
      rw [if_pos q]
      exact ih (i + 1) _ (by omega) (fun _ => rfl)
    · rw [if_neg q]
      refine ih (i + 1) a (by omega) (fun z => ha ?_)
      rcases Nat.lt_or_ge p i with y | y
      · exact y
      · have : p = i := by omega
        rw [this] at hpl
        exact absurd hpl q
theorem x_slip (a : Int32) (w : pb_W) (hH : iv_H w) (hL : iv_L w) (hD : iv_D w) : ∃ x w1 w2, M_X11_slip [.ref 0, .int a] w = some (some (.int x), w1) ∧ M_X12_slip [.ref 64, .int a] w1 = some (some (.int x), w2) ∧ fr fI_P fJ_no w w2 ∧ iv_H w2 := by
  obtain ⟨n, hN⟩ := LN_of hL
  have hn := hN.le
  have g81 : w.1 81 = w.1 12 := by
    obtain ⟨-, -, -, -, -, -, -, -, -, -, ⟨-, -, -, -, g, -⟩, -⟩ := hL
    exact g
  have k1 : ¬ (1 : Int32) = 0 := by decide
  have k6 : ¬ (6 : Int32) = 0 := by decide
  have refuse : ∀ v : Int32, fr fI_P fJ_no w (pb_wI (pb_wI w 0 0 v) 64 0 v) ∧ iv_H (pb_wI (pb_wI w 0 0 v) 64 0 v) := fun v => ⟨fr_I (fr_I (fr_rf w) (by simp [fI_P])) (by simp [fI_P]), rfl, hH.2.1, hH.2.2⟩
  have C := e_X11_slip a w
  rw [e_X1_lineStatus, M_hasLine, pb_bI_some, hN.n5] at C
  have R := fun v : pb_W => e_X12_slip a v
  simp only [M_isLine, pb_bI_some, ite_ref] at R
  simp only [q01] at C R
  by_cases h1 : ¬ a < 0 ∧ a < nI n
  · obtain ⟨l, lc, ec⟩ := nI_of h1.1
    have ll : l < n := by
      have q := h1.2
      rw [ec] at q
      exact (nI_ltI lc (by omega)).mp q
    have i200 : pb_in (nI l) 200 := pn_in (by omega) (by decide)
    rw [ec] at C R h1 ⊢
    rw [if_neg (not_not_intro h1), M_isKnown1 (show l < 200 by omega), pb_bI_some] at C
    have hN' : ∀ v : Int32, LN (pb_wI w 0 0 v) n := fun v => LN_sv hN rfl rfl rfl rfl rfl rfl rfl rfl rfl rfl rfl rfl
    by_cases d : w.1 5 19 < w.1 13 l
    · rw [if_pos d, if_pos rfl, pb_bI_some, if_neg k6, if_neg k6] at C
      have R6 := R (pb_wI w 0 0 6)
      rw [show (pb_wI w 0 0 (6 : Int32)).1 64 7 = nI n from hN.n7, if_neg (not_not_intro h1), M_isKnown2 (hN' 6) (show l < 200 by omega), pb_bI_some, if_pos (show (pb_wI w 0 0 (6 : Int32)).1 5 19 < (pb_wI w 0 0 (6 : Int32)).1 13 l from d), if_pos rfl] at R6
      exact ⟨-1, _, _, C, R6, refuse 6⟩
    · rw [if_neg d, if_neg k1, pb_bI_some, if_pos rfl, e_X6_explainLine, M_went1 (show l < 200 by omega), pb_bI_some] at C
      by_cases cm : w.1 12 l = 0
      · rw [if_pos (show ¬ (pb_wI w 0 0 (0 : Int32)).1 5 19 < (pb_wI w 0 0 (0 : Int32)).1 13 l ∧ (pb_wI w 0 0 (0 : Int32)).1 12 l = 0 from ⟨d, cm⟩), if_neg k1, if_pos i200, if_pos i200, nI_clamp (show l < 2 ^ 31 by omega)] at C
        obtain ⟨x, w1, E, F, S0, X1, X2⟩ := M_explain (w := pb_wI w 0 0 0) hL hD (hN' 0) (w.1 8 l) (w.1 9 l)
        have tE : td (pb_wI w 0 0 0) (w.1 8 l) (w.1 9 l) = td w (w.1 8 l) (w.1 9 l) := rfl
        have svE : SV (pb_wI w 0 0 0) w := ⟨rfl, rfl, rfl, rfl, rfl, rfl⟩
        have gE := gat_sv svE (w.1 8 l) (w.1 9 l) n
        have oE : slO (pb_wI w 0 0 0) (w.1 8 l) (w.1 9 l) n = slO w (w.1 8 l) (w.1 9 l) n := by
          unfold slO
          rw [tE, spN_sv svE]
          rfl
        rw [tE, gE] at X1
        rw [tE, gE, oE, slA_sv svE] at X2
        rw [show (pb_wI w 0 0 (0 : Int32)).1 8 l = w.1 8 l from rfl, show (pb_wI w 0 0 (0 : Int32)).1 9 l = w.1 9 l from rfl, E, pb_bI_some] at C
        have F0 : fr fI_P fJ_no w w1 := fr_tr (fr_I (fr_rf w) (by simp [fI_P])) F
        have six : x = 0 → M_X11_slip [.ref 0, .int (nI l)] w = some (some (.int (-1)), pb_wI w1 0 0 6) := by
          intro x0
          rw [C, if_pos x0, pb_bI_some, if_pos rfl, if_neg k6]
        have R' : ∀ (v : pb_W), fr fI_P fJ_no w v → M_X12_slip [.ref 64, .int (nI l)] v = (pb_bI (M_X12_explains [.ref 64, .int (w.1 8 l), .int (w.1 9 l)] v) fun x10 w9 => (if x10 = 0 then some (some (.int (-1)), pb_wI w9 64 0 6) else (pb_run T_X12_slip (61, [some (.ref 64), some (.int (nI l)), some (.int (0 : Int32)), some (.int (0 : Int32))], [], w9)))) := by
          intro v fv
          have c1 : ∀ c, (8 ≤ c ∧ c ≤ 19 ∧ c ≠ 14) ∨ (70 ≤ c ∧ c ≤ 78) ∨ c = 81 → v.1 c = w.1 c := fun c q => fr_1 fv c (by
            intro k
            simp only [fI_P]
            omega)
          have hNv : LN v n := LN_sv hN (fr_1 fv 5 (by intro k; simp [fI_P])) (fv.1 64 7 (by simp [fI_P])) (fv.1 64 10 (by simp [fI_P])) (c1 8 (by omega)) (c1 9 (by omega)) (c1 11 (by omega)) (c1 13 (by omega)) (c1 16 (by omega)) (c1 70 (by omega)) (c1 71 (by omega)) (c1 74 (by omega)) (c1 75 (by omega))
          rw [R, hNv.n7, if_neg (not_not_intro h1), M_isKnown2 hNv (show l < 200 by omega), pb_bI_some, fv.1 5 19 (by simp [fI_P]), c1 13 (by omega), if_neg d, if_neg k1, if_pos i200, nI_clamp (show l < 2 ^ 31 by omega), c1 81 (by omega), g81, if_pos cm, if_pos i200, if_pos i200, hNv.g70, hNv.g71, c1 8 (by omega), c1 9 (by omega)]
        have fin : ∀ (v1 : pb_W) (st : Int32), fr fI_P fJ_no w v1 → v1.1 0 0 = st → fr fI_P fJ_no w (pb_wI v1 64 0 st) ∧ iv_H (pb_wI v1 64 0 st) := by
          intro v1 st f1 e1
          refine ⟨fr_I f1 (by simp [fI_P]), e1.symm, ?_, ?_⟩
          · show v1.2 64 1 = v1.2 0 1
            rw [fr_J f1]; exact hH.2.1
          · show v1.2 64 2 = v1.2 0 2
            rw [fr_J f1]; exact hH.2.2
        have F6 : fr fI_P fJ_no w (pb_wI w1 0 0 6) := fr_I F0 (by simp [fI_P])
        by_cases bad : td w (w.1 8 l) (w.1 9 l) = -1 ∨ 9 < (gat w (w.1 8 l) (w.1 9 l) n).length
        · obtain ⟨x', v1, y1, y2, y3, y4, -⟩ := expl_both hL hD hN (w.1 8 l) (w.1 9 l) F6
          have Rv := R' _ F6
          rw [y1, pb_bI_some, if_pos (y4 bad)] at Rv
          exact ⟨-1, _, _, six (X1 bad), Rv, fin v1 6 (fr_tr F6 y2) y3⟩
        · have t1 : td w (w.1 8 l) (w.1 9 l) ≠ -1 := fun q => bad (Or.inl q)
          have t2 : (gat w (w.1 8 l) (w.1 9 l) n).length ≤ 9 := by
            rcases Nat.lt_or_ge 9 (gat w (w.1 8 l) (w.1 9 l) n).length with q | q
            · exact absurd (Or.inr q) bad
            · exact q
          rcases X2 t1 t2 with ⟨x0, all0⟩ | ⟨x1, k0, fv, p1, p2, p3, p4, p5, p6, p7, p8⟩
          · obtain ⟨x', v1, y1, y2, y3, -, y5⟩ := expl_both hL hD hN (w.1 8 l) (w.1 9 l) F6
            obtain ⟨s, z1, z2, z3, -⟩ := y5 t1 t2
            have s4 := slip_none z1 all0
            have Rv := R' _ F6
            rw [y1, pb_bI_some, if_pos (by rw [z3, s4]; rfl)] at Rv
            exact ⟨-1, _, _, six x0, Rv, fin v1 6 (fr_tr F6 y2) y3⟩
          · obtain ⟨x', v1, y1, y2, y3, -, y5⟩ := expl_both hL hD hN (w.1 8 l) (w.1 9 l) F0
            obtain ⟨s, z1, z2, z3, z4, z5, z6, z7, z8, z9⟩ := y5 t1 t2
            obtain ⟨s1, s2, s3, s4⟩ := slip_same t2 z1 z2 p1 p4 p5 p6
            have Rv := R' _ F0
            rw [y1, pb_bI_some, if_neg (by rw [z3, s1, if_pos p1]; exact k1)] at Rv
            have own : wn w l (w.1 8 l) (w.1 9 l) := ⟨rfl, rfl, d, cm⟩
            obtain ⟨p, hp, hpl⟩ := gat_at w (w.1 8 l) (w.1 9 l) own n ll
            have hu : ∀ j, j < (gat w (w.1 8 l) (w.1 9 l) n).length → (gat w (w.1 8 l) (w.1 9 l) n).getD j 0 = l → j = p := fun j hj e => gat_inj w (w.1 8 l) (w.1 9 l) n j p hj hp (e.trans hpl.symm)
            have lt : ∀ j, j < (gat w (w.1 8 l) (w.1 9 l) n).length → (gat w (w.1 8 l) (w.1 9 l) n).getD j 0 < 200 := fun j hj => by
              have := (gat_get w (w.1 8 l) (w.1 9 l) n j hj).1
              omega
            have M := mx_slip (w := v1) (L := fun j => (gat w (w.1 8 l) (w.1 9 l) n).getD j 0) t2 z8 (fun j hj => ⟨z9 j hj, lt j hj⟩) (show l < 200 by omega) hp hpl hu (gat w (w.1 8 l) (w.1 9 l) n).length 0 0 (by omega) (fun q => by omega)
            rw [show pb_run T_X12_slip (61, [some (.ref 64), some (.int (nI l)), some (.int (0 : Int32)), some (.int (0 : Int32))], [], v1) = _ from M, z7, s3 p hp] at Rv
            have K := cx_slipOf (w := w1) (L := fun j => (gat w (w.1 8 l) (w.1 9 l) n).getD j 0) t2 p7 (fun j hj => ⟨p8 j hj, lt j hj⟩) (show l < 200 by omega) hp hpl hu p 0 (by omega)
            rw [if_neg (by rw [x1]; exact k1), pb_bI_some, if_neg k1, if_pos (show w1.1 0 0 = 0 from S0), e_X6_slipOf, show pb_run T_X6_slipOf (2, [some (.ref 31), some (.int (nI l)), some (.int (0 : Int32))], [], w1) = _ from K, pb_bI_some] at C
            exact ⟨_, _, _, C, Rv, fin v1 0 (fr_tr F0 y2) (y3.trans S0)⟩
      · rw [if_neg (show ¬ (¬ (pb_wI w 0 0 (0 : Int32)).1 5 19 < (pb_wI w 0 0 (0 : Int32)).1 13 l ∧ (pb_wI w 0 0 (0 : Int32)).1 12 l = 0) from fun q => cm q.2), if_pos rfl, pb_bI_some, if_pos rfl, if_neg k6, pw_I_I] at C
        have R6 := R (pb_wI w 0 0 6)
        rw [show (pb_wI w 0 0 (6 : Int32)).1 64 7 = nI n from hN.n7, if_neg (not_not_intro h1), M_isKnown2 (hN' 6) (show l < 200 by omega), pb_bI_some, if_neg (show ¬ (pb_wI w 0 0 (6 : Int32)).1 5 19 < (pb_wI w 0 0 (6 : Int32)).1 13 l from d), if_neg k1, if_pos i200, nI_clamp (show l < 2 ^ 31 by omega), if_neg (show ¬ (pb_wI w 0 0 (6 : Int32)).1 81 l = 0 from fun q => cm ((congrFun g81 l).symm.trans q))] at R6
        exact ⟨-1, _, _, C, R6, refuse 6⟩
  · rw [if_pos h1, pb_bI_some, if_neg k1, if_neg k1] at C
    have R1 := R (pb_wI w 0 0 1)
    rw [show (pb_wI w 0 0 (1 : Int32)).1 64 7 = nI n from hN.n7, if_pos h1] at R1
    exact ⟨-1, _, _, C, R1, refuse 1⟩
