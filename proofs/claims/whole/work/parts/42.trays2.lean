theorem pn_ge {a : Int32} {n : Nat} (h : n + 1 < 2 ^ 31) : (¬ a < nI (n + 1)) ↔ nI n < a := by
  have e1 := nI_toInt (n := n + 1) h
  have e2 := nI_toInt (n := n) (by omega)
  rw [pn_lt, pn_lt, e1, e2]
  omega
theorem pn_34 {a : Int32} : (¬ a < 4) ↔ 3 < a := pn_ge (n := 3) (by decide)
theorem mx_tray_bad {a1 a2 a3 : Int32} (w : pb_W) (h : (a1 < 0 ∨ 3 < a1) ∨ (a2 < 0 ∨ 3 < a2) ∨ (a3 < 0 ∨ 60 < a3)) : M_X12_tray [.ref 64, .int a1, .int a2, .int a3] w = some (some (.int 0), pb_wI w 64 0 1) := by
  rw [e_X12_tray]
  simp only [M_isTray, pb_bI_some, pn_34, M_isN (show (1 : Int32) ≠ 0 by decide), true_or, if_true, ite_true]
  by_cases h1 : a1 < 0 ∨ 3 < a1
  · rw [if_pos h1]; rfl
  · rw [if_neg h1]
    simp only [show ¬ (1 : Int32) = 0 by decide, if_false, ite_false]
    by_cases h2 : a2 < 0
    · rw [if_pos h2]
    · by_cases h3 : 3 < a2
      · rw [if_neg h2, if_pos h3]
      · by_cases h4 : a3 < 0
        · rw [if_neg h2, if_neg h3, if_pos h4]
        · by_cases h5 : 60 < a3
          · rw [if_neg h2, if_neg h3, if_neg h4, if_pos h5]
          · exact absurd h (by simp [h1, h2, h3, h4, h5])
theorem mx_tray_ok (t so m : Nat) (ht : t < 4) (hso : so ≤ 3) (hm : m ≤ 60) (w : pb_W) : M_X12_tray [.ref 64, .int (nI t), .int (nI so), .int (nI m)] w = some (some (.int 1), pb_wI (pb_wG (pb_wI (pb_wI w 65 t (nI so)) 66 t (nI m)) 67 (fun j => if 60 * t ≤ j ∧ j < 60 * t + m then 0 else w.2 67 j)) 64 0 0) := by
  have h1 : ¬ (nI t < 0 ∨ (3 : Int32) < nI t) := by
    rw [pn_lit 3]
    exact fun q => q.elim (nI_pos (by omega)) (nI_nlt (by omega) (by omega))
  rw [e_X12_tray]
  simp only [M_isTray, pb_bI_some, pn_34, if_neg h1, show ¬ (1 : Int32) = 0 by decide, if_false, ite_false]
  rw [if_neg (nI_pos (by omega)), if_neg (show ¬ (3 : Int32) < nI so from nI_nlt (a := 3) (by omega) (by omega)), if_neg (nI_pos (by omega)), if_neg (show ¬ (60 : Int32) < nI m from nI_nlt (a := 60) (by omega) (by omega)), if_pos (pn_in (by omega) (by omega)), if_pos (pn_in (by omega) (by omega)), nI_clamp (by omega)]
  have := M_tray67 t ht m 0 m (pb_wI (pb_wI w 65 t (nI so)) 66 t (nI m)) (by omega) hm
  rw [nI_0] at this
  rw [this]
  rfl
theorem x_tray (a1 a2 a3 : Int32) (w : pb_W) (hH : iv_H w) (hT : iv_T w) : ∃ x w1 w2, M_X11_tray [.ref 0, .int a1, .int a2, .int a3] w = some (some (.int x), w1) ∧ M_X12_tray [.ref 64, .int a1, .int a2, .int a3] w1 = some (some (.int x), w2) ∧ fr fI_T fJ_T w w2 ∧ iv_H w2 ∧ iv_T w2 := by
  by_cases h : (a1 < 0 ∨ 3 < a1) ∨ (a2 < 0 ∨ 3 < a2) ∨ (a3 < 0 ∨ 60 < a3)
  · refine ⟨_, _, _, cx_tray_bad w h, mx_tray_bad _ h, ?_, ?_, ?_⟩
    · exact fr_I (fr_I (fr_rf w) (by simp [fI_T, fJ_T])) (by simp [fI_T, fJ_T])
    · exact ⟨by simp [pw_I1, pu_at], by simpa [pw_I2] using hH.2.1, by simpa [pw_I2] using hH.2.2⟩
    · simpa [iv_T, pw_I1, pw_I2] using hT
  · simp only [not_or] at h
    obtain ⟨⟨g1, g2⟩, ⟨g3, g4⟩, g5, g6⟩ := h
    obtain ⟨t, ht, rfl⟩ := pn_of (N := 3) g1 g2 (by decide)
    obtain ⟨so, hso, rfl⟩ := pn_of (N := 3) g3 g4 (by decide)
    obtain ⟨m, hm, rfl⟩ := pn_of (N := 60) g5 g6 (by decide)
    refine ⟨_, _, _, cx_tray_ok t so m (by omega) hso hm w, mx_tray_ok t so m (by omega) hso hm _, ?_, ?_, ?_⟩
    · exact fr_I (fr_G (fr_I (fr_I (fr_G (fr_I (fr_I (fr_I (fr_rf w) (by simp [fI_T, fJ_T])) (by simp [fI_T, fJ_T])) (by simp [fI_T, fJ_T])) (by simp [fI_T, fJ_T])) (by simp [fI_T, fJ_T])) (by simp [fI_T, fJ_T])) (by simp [fI_T, fJ_T])) (by simp [fI_T, fJ_T])
    · exact ⟨by simp [pw_I1, pw_G1, pu_at], by simpa [pw_I2, pw_G2] using hH.2.1, by simpa [pw_I2, pw_G2] using hH.2.2⟩
    · obtain ⟨h1, h2, h3, h4⟩ := hT
      refine ⟨by simp [pw_I2, pw_G2, pw_G1, pw_I1, h1], by simp [pw_I1, pw_G1, h2], by simp [pw_I1, pw_G1, h3], fun k hk => ?_⟩
      simp only [pw_I1, pw_G1]
      simp only [show ¬ (4 : Nat) = 64 by decide, show ¬ (4 : Nat) = 66 by decide, show ¬ (4 : Nat) = 65 by decide, if_false, ite_false, if_true, ite_true, pu_at, show ¬ (4 : Nat) = 3 by decide, show ¬ (4 : Nat) = 0 by decide]
      by_cases hk2 : k = t
      · rw [if_pos hk2]
        exact Or.inr ⟨m, hm, rfl⟩
      · rw [if_neg hk2]
        exact h4 k hk
/-! a place of a tray -/
def px (w : pb_W) (a1 a2 : Int32) : Int32 := if a1 < 0 ∨ 3 < a1 then 1 else if w.1 4 a1.toNatClampNeg = -1 then 2 else if a2 < 0 then 3 else if a2 < w.1 4 a1.toNatClampNeg then 0 else 3
theorem px_in {a1 : Int32} (h : ¬ (a1 < 0 ∨ 3 < a1)) : ∃ t, t < 4 ∧ a1 = nI t := by
  simp only [not_or] at h
  obtain ⟨t, ht, rfl⟩ := pn_of (N := 3) h.1 h.2 (by decide)
  exact ⟨t, by omega, rfl⟩
theorem cx_place (w : pb_W) (hT : iv_T w) (a1 a2 : Int32) : M_X8_placeStatus [.ref 1, .int a1, .int a2] w = some (some (.int (px w a1 a2)), w) := by
  rw [e_X8_placeStatus]
  simp only [M_outside, pb_bI_some]
  unfold px
  by_cases h1 : a1 < 0 ∨ 3 < a1
  · simp [h1]
  · rw [if_neg h1, if_neg h1]
    obtain ⟨t, ht, rfl⟩ := px_in h1
    simp only [if_pos (pn_in ht (by decide)), nI_clamp (show t < 2 ^ 31 by omega), if_true, ite_true]
    rcases hT.2.2.2 t ht with h2 | ⟨n, hn, h2⟩
    · simp [h2]
    · rw [h2, if_neg (pn_m1 n (by omega)), if_neg (pn_m1 n (by omega))]
      by_cases h3 : a2 < 0
      · simp [h3]
      · have e : (nI n - 1 < a2) ↔ ¬ a2 < nI n := by
          have e1 : (nI n - (1 : Int32)).toInt = (n : Int) - 1 := pk_sub_toInt (a := n) (b := 1) (by omega) (by omega)
          rw [pn_lt, pn_lt, e1, nI_toInt (by omega)]
          omega
        by_cases h4 : a2 < nI n
        · simp [h3, h4, e]
        · simp [h3, h4, e]
theorem mx_place (w : pb_W) (h66 : w.1 66 = w.1 4) (a1 a2 : Int32) : M_X12_wrongPlace [.ref 64, .int a1, .int a2] w = some (some (.int (px w a1 a2)), w) := by
  rw [e_X12_wrongPlace]
  simp only [M_isTray, pb_bI_some, pn_34]
  unfold px
  by_cases h1 : a1 < 0 ∨ 3 < a1
  · simp [h1]
  · rw [if_neg h1, if_neg h1]
    obtain ⟨t, ht, rfl⟩ := px_in h1
    simp only [if_pos (pn_in ht (by decide)), nI_clamp (show t < 2 ^ 31 by omega), show ¬ (1 : Int32) = 0 by decide, if_false, ite_false, h66]
    by_cases h2 : w.1 4 t = -1
    · simp [h2]
    · by_cases h3 : a2 < 0
      · simp [h2, h3]
      · by_cases h4 : a2 < w.1 4 t <;> simp [h2, h3, h4]
theorem px_zero {w : pb_W} (hT : iv_T w) {a1 a2 : Int32} (h : px w a1 a2 = 0) : ∃ t p n, t < 4 ∧ a1 = nI t ∧ n ≤ 60 ∧ w.1 4 t = nI n ∧ p < n ∧ a2 = nI p := by
  unfold px at h
  by_cases h1 : a1 < 0 ∨ 3 < a1
  · rw [if_pos h1] at h; exact absurd h (by decide)
  · rw [if_neg h1] at h
    obtain ⟨t, ht, rfl⟩ := px_in h1
    rw [nI_clamp (by omega)] at h
    rcases hT.2.2.2 t ht with h2 | ⟨n, hn, h2⟩
    · rw [if_pos h2] at h; exact absurd h (by decide)
    · rw [h2, if_neg (pn_m1 n (by omega))] at h
      by_cases h3 : a2 < 0
      · rw [if_pos h3] at h; exact absurd h (by decide)
      · rw [if_neg h3] at h
        by_cases h4 : a2 < nI n
        · obtain ⟨p, hp, rfl⟩ := nI_of h3
          exact ⟨t, p, n, ht, rfl, hn, h2, (nI_ltI hp (by omega)).mp h4, rfl⟩
        · rw [if_neg h4] at h; exact absurd h (by decide)
/-- a number cut to its sort -/
def pcut (v : Int64) (s : Int32) : Int64 := if s = 0 then v.toInt32.toInt8.toInt32.toInt64 else if s = 1 then v.toInt32.toInt16.toInt32.toInt64 else if s = 2 then v.toInt32.toInt64 else v
theorem cx_cut (v : Int64) (s : Int32) (w : pb_W) : M_X8_cut [.long v, .int s] w = some (some (.long (pcut v s)), w) := by
  rw [e_X8_cut]
  unfold pcut
  have e1 : (0 : Int32) + 1 = 1 := by decide
  have e2 : (1 : Int32) + 1 = 2 := by decide
  rw [e1, e2]
  by_cases h0 : s = 0
  · simp [h0]
  · by_cases h1 : s = 1
    · simp [h1]
    · by_cases h2 : s = 2 <;> simp [h0, h1, h2]
theorem mx_cut (v : Int64) (s : Int32) (w : pb_W) : M_X12_cut [.long v, .int s] w = some (some (.long (pcut v s)), w) := by
  rw [e_X12_cut]
  unfold pcut
  by_cases h0 : s = 0
  · simp [h0]
  · by_cases h1 : s = 1
    · simp [h1]
    · by_cases h2 : s = 2 <;> simp [h0, h1, h2]
theorem px_val (w : pb_W) (a1 a2 : Int32) : px w a1 a2 = 0 ∨ (px w a1 a2 ≠ 0 ∧ 0 < px w a1 a2) := by
  unfold px
  repeat' split
  all_goals first | exact Or.inl rfl | exact Or.inr ⟨by decide, by decide⟩
theorem px_st (w : pb_W) (v : Int32) (a1 a2 : Int32) : px (pb_wI w 0 0 v) a1 a2 = px w a1 a2 := rfl
theorem iv_T_st {w : pb_W} (v : Int32) (h : iv_T w) : iv_T (pb_wI w 0 0 v) := h
theorem x_write (a1 a2 : Int32) (v : Int64) (w : pb_W) (hH : iv_H w) (hT : iv_T w) : ∃ x w1 w2, M_X11_write [.ref 0, .int a1, .int a2, .long v] w = some (some (.int x), w1) ∧ M_X12_write [.ref 64, .int a1, .int a2, .long v] w1 = some (some (.int x), w2) ∧ fr fI_T fJ_T w w2 ∧ iv_H w2 ∧ iv_T w2 := by
  rw [e_X11_write, cx_place w hT]
  simp only [pb_bI_some]
  rcases px_val w a1 a2 with h0 | ⟨h0, -⟩
  · obtain ⟨t, p, n, ht, rfl, hn, hs, hp, rfl⟩ := px_zero hT h0
    have e1 : nI t * (60 : Int32) + nI p = nI (60 * t + p) := by rw [pn_lit 60, pn_mul, nI_add, Nat.mul_comm]
    have e2 : (60 : Int32) * nI t + nI p = nI (60 * t + p) := by rw [pn_lit 60, pn_mul, nI_add]
    have hput : ∀ w' : pb_W, M_X8_put [.ref 1, .int (nI t), .int (nI p), .long v] w' = some (none, pb_wL w' 2 (60 * t + p) (pcut v (w'.1 3 t))) := by
      intro w'
      rw [e_X8_put, if_pos (pn_in ht (by decide)), cx_cut, pb_bL_some, e1, if_pos (pn_in (by omega) (by decide)), nI_clamp (by omega), nI_clamp (by omega)]
    refine ⟨1, pb_wL (pb_wI w 0 0 0) 2 (60 * t + p) (pcut v (w.1 3 t)), pb_wI (pb_wL (pb_wL (pb_wI w 0 0 0) 2 (60 * t + p) (pcut v (w.1 3 t))) 67 (60 * t + p) (pcut v (w.1 3 t))) 64 0 0, ?_, ?_, ?_, ?_, ?_⟩
    · rw [h0, if_pos rfl, hput, pb_bV_some]
      rfl
    · have hpl : M_X12_wrongPlace [.ref 64, .int (nI t), .int (nI p)] (pb_wL (pb_wI w 0 0 0) 2 (60 * t + p) (pcut v (w.1 3 t))) = some (some (.int 0), pb_wL (pb_wI w 0 0 0) 2 (60 * t + p) (pcut v (w.1 3 t))) := by
        rw [mx_place (pb_wL (pb_wI w 0 0 0) 2 (60 * t + p) (pcut v (w.1 3 t))) hT.2.2.1]
        have e : px (pb_wL (pb_wI w 0 0 0) 2 (60 * t + p) (pcut v (w.1 3 t))) (nI t) (nI p) = px w (nI t) (nI p) := rfl
        rw [e, h0]
      rw [e_X12_write, hpl, pb_bI_some, if_pos rfl, if_pos (pn_in ht (by decide)), mx_cut, pb_bL_some, e2, if_pos (pn_in (by omega) (by decide)), M_is0, pb_bI_some, if_pos (Or.inr rfl), nI_clamp (by omega), nI_clamp (by omega)]
      have h65 : (pb_wL (pb_wI w 0 0 0) 2 (60 * t + p) (pcut v (w.1 3 t))).1 65 t = w.1 3 t := by
        show w.1 65 t = w.1 3 t
        rw [hT.2.1]
      rw [h65]
    · exact fr_I (fr_L (fr_L (fr_I (fr_rf w) (by simp [fI_T, fJ_T])) (by simp [fI_T, fJ_T])) (by simp [fI_T, fJ_T])) (by simp [fI_T, fJ_T])
    · exact ⟨by simp [pw_I1, pw_L1, pu_at], by simpa [pw_I2, pw_L2] using hH.2.1, by simpa [pw_I2, pw_L2] using hH.2.2⟩
    · obtain ⟨h1, h2, h3, h4⟩ := hT
      exact ⟨by simp [pw_I2, pw_L2, h1], h2, h3, h4⟩
  · rw [if_neg h0, if_neg h0]
    refine ⟨0, _, pb_wI (pb_wI w 0 0 (px w a1 a2)) 64 0 (px w a1 a2), rfl, ?_, ?_, ?_, ?_⟩
    · rw [e_X12_write, mx_place (pb_wI w 0 0 (px w a1 a2)) hT.2.2.1, pb_bI_some, px_st, if_neg h0, M_isN h0, pb_bI_some, if_pos (Or.inl rfl)]
    · exact fr_I (fr_I (fr_rf w) (by simp [fI_T, fJ_T])) (by simp [fI_T, fJ_T])
    · exact ⟨by simp [pw_I1, pu_at], by simpa [pw_I2] using hH.2.1, by simpa [pw_I2] using hH.2.2⟩
    · simpa [iv_T, pw_I1, pw_I2] using hT
theorem x_read (a1 a2 : Int32) (w : pb_W) (hH : iv_H w) (hT : iv_T w) : ∃ x w1 w2, M_X11_read [.ref 0, .int a1, .int a2] w = some (some (.long x), w1) ∧ M_X12_read [.ref 64, .int a1, .int a2] w1 = some (some (.long x), w2) ∧ fr fI_T fJ_T w w2 ∧ iv_H w2 ∧ iv_T w2 := by
  have hH2 : iv_H (pb_wI (pb_wI w 0 0 (px w a1 a2)) 64 0 (px w a1 a2)) := ⟨by simp [pw_I1, pu_at], by simpa [pw_I2] using hH.2.1, by simpa [pw_I2] using hH.2.2⟩
  have hT2 : iv_T (pb_wI (pb_wI w 0 0 (px w a1 a2)) 64 0 (px w a1 a2)) := by simpa [iv_T, pw_I1, pw_I2] using hT
  have hf2 : fr fI_T fJ_T w (pb_wI (pb_wI w 0 0 (px w a1 a2)) 64 0 (px w a1 a2)) := fr_I (fr_I (fr_rf w) (by simp [fI_T, fJ_T])) (by simp [fI_T, fJ_T])
  rw [e_X11_read, cx_place w hT]
  simp only [pb_bI_some]
  rcases px_val w a1 a2 with h0 | ⟨h0, hpos⟩
  · obtain ⟨t, p, n, ht, rfl, hn, hs, hp, rfl⟩ := px_zero hT h0
    have e1 : nI t * (60 : Int32) + nI p = nI (60 * t + p) := by rw [pn_lit 60, pn_mul, nI_add, Nat.mul_comm]
    have e2 : (60 : Int32) * nI t + nI p = nI (60 * t + p) := by rw [pn_lit 60, pn_mul, nI_add]
    refine ⟨w.2 2 (60 * t + p), pb_wI w 0 0 (px w (nI t) (nI p)), _, ?_, ?_, hf2, hH2, hT2⟩
    · rw [if_pos h0, e_X8_at, e1, if_pos (pn_in (by omega) (by decide)), pb_bL_some, nI_clamp (by omega)]
      rfl
    · rw [e_X12_read, mx_place (pb_wI w 0 0 (px w (nI t) (nI p))) hT.2.2.1, pb_bI_some, px_st, h0, if_neg (by decide), e2, if_pos (pn_in (by omega) (by decide)), nI_clamp (by omega)]
      have : (pb_wI w 0 0 (0 : Int32)).2 67 (60 * t + p) = w.2 2 (60 * t + p) := by
        show w.2 67 _ = _
        rw [hT.1]
      rw [this]
  · rw [if_neg h0]
    refine ⟨-1, _, _, rfl, ?_, hf2, hH2, hT2⟩
    rw [e_X12_read, mx_place (pb_wI w 0 0 (px w a1 a2)) hT.2.2.1, pb_bI_some, px_st, if_pos hpos]
