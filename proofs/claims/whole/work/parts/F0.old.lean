/-! ===== what line and family leave as it was ===== -/
theorem run_w {a : Option pb_R} {p q : Option Value} {u v : pb_W} (h : a = some (p, u)) (h' : a = some (q, v)) : v = u := by
  rw [h] at h'
  exact ((Prod.mk.inj (Option.some.inj h')).2).symm
theorem fam_old {w : pb_W} (hF : iv_F w) {a1 a2 x y : Int32} {w1 w2 : pb_W} (e1 : M_X11_family [.ref 0, .int a1, .int a2] w = some (some (.int x), w1)) (e2 : M_X12_family [.ref 64, .int a1, .int a2] w1 = some (some (.int y), w2)) : w2.1 5 0 = w.1 5 0 ∨ ∃ n, n < 12 ∧ w.1 5 0 = nI n ∧ w2.1 5 0 = nI (n + 1) := by
  obtain ⟨n, hn, h5, h6, g1, g2, g3⟩ := hF
  have n1 : ¬ (1 : Int32) = 0 := by decide
  have n4 : ¬ (4 : Int32) = 0 := by decide
  by_cases h1 : a1 < 0 ∨ 3 < a1
  · have q1 := run_w (show M_X11_family [.ref 0, .int a1, .int a2] w = some (some (.int (-1)), pb_wI w 0 0 1) by rw [e_X11_family, M_outside, pb_bI_some, if_pos h1, if_neg n1, r_X11_family_18, if_neg n1]) e1
    subst q1
    have q2 := run_w (show M_X12_family [.ref 64, .int a1, .int a2] (pb_wI w 0 0 1) = some (some (.int (-1)), pb_wI (pb_wI w 0 0 1) 64 0 1) by rw [e_X12_family, M_isQuarter, pb_bI_some, if_pos h1, if_pos rfl, e_X12_refuse, pb_bI_some]) e2
    subst q2
    exact Or.inl rfl
  · by_cases h2 : a2 < 0 ∨ 3 < a2
    · have q1 := run_w (show M_X11_family [.ref 0, .int a1, .int a2] w = some (some (.int (-1)), pb_wI w 0 0 1) by rw [e_X11_family, M_outside, pb_bI_some, if_neg h1, if_pos rfl, M_outside, pb_bI_some, if_pos h2, if_neg n1, r_X11_family_18, if_neg n1]) e1
      subst q1
      have q2 := run_w (show M_X12_family [.ref 64, .int a1, .int a2] (pb_wI w 0 0 1) = some (some (.int (-1)), pb_wI (pb_wI w 0 0 1) 64 0 1) by rw [e_X12_family, M_isQuarter, pb_bI_some, if_neg h1, if_neg n1, M_isQuarter, pb_bI_some, if_pos h2, if_pos rfl, e_X12_refuse, pb_bI_some]) e2
      subst q2
      exact Or.inl rfl
    · obtain ⟨c1, hc1, rfl⟩ := px_in h1
      obtain ⟨c2, hc2, rfl⟩ := px_in h2
      by_cases h12 : n = 12
      · subst h12
        have q1 := run_w (show M_X11_family [.ref 0, .int (nI c1), .int (nI c2)] w = some (some (.int (-1)), pb_wI w 0 0 4) by rw [e_X11_family, M_outside, pb_bI_some, if_neg h1, if_pos rfl, M_outside, pb_bI_some, if_neg h2, if_pos rfl, h5, if_neg (show ¬ nI 12 < (12 : Int32) by decide), r_X11_family_44, if_neg n4]) e1
        subst q1
        have e : (pb_wI w 0 0 (4 : Int32)).1 64 6 = (12 : Int32) := h6
        have q2 := run_w (show M_X12_family [.ref 64, .int (nI c1), .int (nI c2)] (pb_wI w 0 0 4) = some (some (.int (-1)), pb_wI (pb_wI w 0 0 4) 64 0 4) by rw [e_X12_family, M_isQuarter, pb_bI_some, if_neg h1, if_neg n1, M_isQuarter, pb_bI_some, if_neg h2, if_neg n1, if_pos e, e_X12_refuse, pb_bI_some]) e2
        subst q2
        exact Or.inl rfl
      · have hlt : n < 12 := by omega
        have i12 : pb_in (nI n) 12 := pn_in hlt (by decide)
        have ea : nI n + (1 : Int32) - (1 : Int32) = nI n := by rw [nI_1, nI_pred]
        have e5 : (pb_wI w 0 0 (0 : Int32)).1 5 0 = nI n := h5
        have q1 := run_w (show M_X11_family [.ref 0, .int (nI c1), .int (nI c2)] w = some (some (.int (nI n)), pb_wI (pb_wI (pb_wI (pb_wI w 0 0 0) 6 n (nI c1)) 7 n (nI c2)) 5 0 (nI (n + 1))) by rw [e_X11_family, M_outside, pb_bI_some, if_neg h1, if_pos rfl, M_outside, pb_bI_some, if_neg h2, if_pos rfl, h5, if_pos (show nI n < (12 : Int32) from nI_lt (b := 12) hlt (by decide)), r_X11_family_44, if_pos rfl, e_X1_addFamily, e5, if_pos i12, if_pos i12, pb_bI_some, ea, nI_1, nI_clamp (by omega)]) e1
        subst q1
        have e6 : (pb_wI (pb_wI (pb_wI (pb_wI w 0 0 0) 6 n (nI c1)) 7 n (nI c2)) 5 0 (nI (n + 1))).1 64 6 = nI n := h6
        have q2 := run_w (show M_X12_family [.ref 64, .int (nI c1), .int (nI c2)] (pb_wI (pb_wI (pb_wI (pb_wI w 0 0 0) 6 n (nI c1)) 7 n (nI c2)) 5 0 (nI (n + 1))) = some (some (.int (nI n)), pb_wI (pb_wI (pb_wI (pb_wI (pb_wI (pb_wI (pb_wI (pb_wI w 0 0 0) 6 n (nI c1)) 7 n (nI c2)) 5 0 (nI (n + 1))) 68 n (nI c1)) 69 n (nI c2)) 64 6 (nI (n + 1))) 64 0 0) by rw [e_X12_family, M_isQuarter, pb_bI_some, if_neg h1, if_neg n1, M_isQuarter, pb_bI_some, if_neg h2, if_neg n1, e6, if_neg (show ¬ nI n = (12 : Int32) from fun q => h12 ((nI_eq (b := 12) (by omega) (by decide)).mp q)), if_pos i12, if_pos i12, e_X12_gives, pb_bI_some, ea, nI_1, nI_clamp (by omega)]) e2
        subst q2
        exact Or.inr ⟨n, hlt, h5, rfl⟩
theorem line_old {w : pb_W} (hF : iv_F w) (hW : iv_W w) (hL : iv_L w) {n : Nat} (hN : LN w n) {a1 a2 a3 a4 a5 a6 a7 x y : Int32} {w1 w2 : pb_W} (e1 : M_X11_line [.ref 0, .int a1, .int a2, .int a3, .int a4, .int a5, .int a6, .int a7] w = some (some (.int x), w1)) (e2 : M_X12_line [.ref 64, .int a1, .int a2, .int a3, .int a4, .int a5, .int a6, .int a7] w1 = some (some (.int y), w2)) : (∀ l, l < n → w2.1 8 l = w.1 8 l ∧ w2.1 9 l = w.1 9 l ∧ w2.1 10 l = w.1 10 l ∧ w2.1 12 l = w.1 12 l ∧ ∀ i, i < 3 → w2.2 14 (3 * l + i) = w.2 14 (3 * l + i)) ∧ (w2.1 5 3 = w.1 5 3 ∨ (w2.1 5 3 = nI (n + 1) ∧ n < 200 ∧ w2.1 8 n = a1 ∧ ¬ a1 < 0 ∧ a1 < w.1 5 0)) := by
  obtain ⟨f, hf, f5, f6, -⟩ := hF
  obtain ⟨m, r, hm, hr, m5, n7, r13, r8, d9, -⟩ := hL
  have hn := hN.le
  have em : m = n := (nI_eq (by omega) (by omega)).mp (m5.symm.trans hN.n5)
  subst em
  have n5 := hN.n5
  have fin : ∀ v : Int32, w2 = pb_wI (pb_wI w 0 0 v) 64 0 v → (∀ l, l < m → w2.1 8 l = w.1 8 l ∧ w2.1 9 l = w.1 9 l ∧ w2.1 10 l = w.1 10 l ∧ w2.1 12 l = w.1 12 l ∧ ∀ i, i < 3 → w2.2 14 (3 * l + i) = w.2 14 (3 * l + i)) ∧ (w2.1 5 3 = w.1 5 3 ∨ (w2.1 5 3 = nI (m + 1) ∧ m < 200 ∧ w2.1 8 m = a1 ∧ ¬ a1 < 0 ∧ a1 < w.1 5 0)) := by
    intro v q
    subst q
    exact ⟨fun l _ => ⟨rfl, rfl, rfl, rfl, fun _ _ => rfl⟩, Or.inl rfl⟩
  by_cases bad : ln_bad (w.1 5 0) a1 a2 a3 a4 a6 a7
  · have q1 := run_w (c_line_bad (a5 := a5) bad) e1
    subst q1
    refine fin 1 (run_w (m_line_bad ?_) e2)
    show ln_bad (w.1 64 6) _ _ _ _ _ _
    rw [f6, ← f5]
    exact bad
  · have cl := c_line (a5 := a5) bad
    have bm : ∀ v, ¬ ln_bad ((pb_wI w 0 0 v).1 64 6) a1 a2 a3 a4 a6 a7 := by
      intro v
      show ¬ ln_bad (w.1 64 6) _ _ _ _ _ _
      rw [f6, ← f5]
      exact bad
    rw [n5] at cl
    by_cases e : m = 200
    · rw [if_pos (show ¬ nI m < (200 : Int32) by rw [e]; decide)] at cl
      have q1 := run_w cl e1
      subst q1
      exact fin 4 (run_w (show M_X12_line [.ref 64, .int a1, .int a2, .int a3, .int a4, .int a5, .int a6, .int a7] (pb_wI w 0 0 4) = some (some (.int (-1)), pb_wI (pb_wI w 0 0 4) 64 0 4) by rw [m_line (bm 4) hn n7, if_pos e]) e2)
    · rw [if_neg (not_not_intro (show nI m < (200 : Int32) from nI_lt (b := 200) (by omega) (by decide)))] at cl
      by_cases d : a7 < w.1 5 18
      · rw [if_pos d] at cl
        have d' : a7 < (pb_wI w 0 0 (5 : Int32)).1 64 9 := by
          show a7 < w.1 64 9
          rw [d9]
          exact d
        have q1 := run_w cl e1
        subst q1
        exact fin 5 (run_w (show M_X12_line [.ref 64, .int a1, .int a2, .int a3, .int a4, .int a5, .int a6, .int a7] (pb_wI w 0 0 5) = some (some (.int (-1)), pb_wI (pb_wI w 0 0 5) 64 0 5) by rw [m_line (bm 5) hn n7, if_neg e, if_pos d']) e2)
      · rw [if_neg d] at cl
        rcases hW with ⟨t1, t2⟩ | ⟨t1, t2, t3, t4, t5⟩
        · rw [if_pos t2] at cl
          have d' : ¬ a7 < (pb_wI w 0 0 (6 : Int32)).1 64 9 := by
            show ¬ a7 < w.1 64 9
            rw [d9]
            exact d
          have q1 := run_w cl e1
          subst q1
          exact fin 6 (run_w (show M_X12_line [.ref 64, .int a1, .int a2, .int a3, .int a4, .int a5, .int a6, .int a7] (pb_wI w 0 0 6) = some (some (.int (-1)), pb_wI (pb_wI w 0 0 6) 64 0 6) by rw [m_line (bm 6) hn n7, if_neg e, if_neg d', if_pos (show (pb_wI w 0 0 (6 : Int32)).1 64 11 = 0 from t1)]) e2)
        · rw [if_neg t2, M_addLine (w := pb_wI w 0 0 0) (n := m) (by omega) n5, pb_bI_some] at cl
          have q1 := run_w cl e1
          subst q1
          have b7 : ¬ ln_bad ((cw_line (pb_wI w 0 0 0) m a1 a2 a3 a4 a5 a6 a7).1 64 6) a1 a2 a3 a4 a6 a7 := bm 0
          have d' : ¬ a7 < (cw_line (pb_wI w 0 0 0) m a1 a2 a3 a4 a5 a6 a7).1 64 9 := by
            show ¬ a7 < w.1 64 9
            rw [d9]
            exact d
          have t' : ¬ (cw_line (pb_wI w 0 0 0) m a1 a2 a3 a4 a5 a6 a7).1 64 11 = 0 := by
            show ¬ w.1 64 11 = 0
            rw [t1]
            decide
          have q2 := run_w (show M_X12_line [.ref 64, .int a1, .int a2, .int a3, .int a4, .int a5, .int a6, .int a7] (cw_line (pb_wI w 0 0 0) m a1 a2 a3 a4 a5 a6 a7) = some (some (.int (nI m)), mw_line (cw_line (pb_wI w 0 0 0) m a1 a2 a3 a4 a5 a6 a7) m a1 a2 a3 a4 a5 a6 a7) by
            rw [m_line b7 hn n7, if_neg e, if_neg d', if_neg t']
            exact m_line_end (n := m) (by omega) n7) e2
          have c8 : w2.1 8 = upd (w.1 8) m a1 := by rw [q2]; rfl
          have c9 : w2.1 9 = upd (w.1 9) m a2 := by rw [q2]; rfl
          have c10 : w2.1 10 = upd (w.1 10) m a3 := by rw [q2]; rfl
          have c12 : w2.1 12 = upd (w.1 12) m (vp_nar .boolean a5) := by rw [q2]; rfl
          have c14 : ∀ j, w2.2 14 j = va_cpy (w.2 20) (w.2 14) 0 (m * 3) 3 j := fun j => by rw [q2]; rfl
          have c53 : w2.1 5 3 = nI (m + 1) := by rw [q2]; rfl
          refine ⟨fun l hl => ⟨?_, ?_, ?_, ?_, fun i hi => ?_⟩, Or.inr ⟨c53, by omega, ?_, ?_⟩⟩
          · rw [c8, pu_at, if_neg (by omega)]
          · rw [c9, pu_at, if_neg (by omega)]
          · rw [c10, pu_at, if_neg (by omega)]
          · rw [c12, pu_at, if_neg (by omega)]
          · rw [c14]
            show (if m * 3 ≤ 3 * l + i ∧ 3 * l + i < m * 3 + 3 then _ else _) = _
            rw [if_neg (by omega)]
          · rw [c8, pu_at, if_pos rfl]
          · unfold ln_bad at bad
            exact Classical.byContradiction fun q => bad (Or.inl q)
