theorem pn_subI {n : Nat} {a b : Int32} (hn : n ≤ 60) (ha : ¬ a < 0) : nI n - a < b ↔ (n : Int) < a.toInt + b.toInt := by
  have h1 := pn_rng a
  have h2 : 0 ≤ a.toInt := by
    have := Int32.not_lt.mp ha
    simpa using Int32.le_iff_toInt_le.mp this
  have e : (nI n - a).toInt = (n : Int) - a.toInt := by
    rw [Int32.toInt_sub, nI_toInt (by omega)]
    exact Int.bmod_eq_of_le (by omega) (by omega)
  rw [pn_lt, e]
  omega
theorem mx_pour_bad (w : pb_W) (h65 : w.1 65 = w.1 3) (h66 : w.1 66 = w.1 4) (hs : ∀ k, k < 4 → w.1 4 k = -1 ∨ ∃ n, n ≤ 60 ∧ w.1 4 k = nI n) (a1 a2 a3 a4 a5 : Int32) (hne : pq w a1 a2 a3 a4 a5 ≠ 0) : M_X12_pour [.ref 64, .int a1, .int a2, .int a3, .int a4, .int a5] w = some (some (.int 0), pb_wI w 64 0 (pq w a1 a2 a3 a4 a5)) := by
  rw [e_X12_pour]
  simp only [M_isTray, pb_bI_some, pn_34, M_isN (show (1 : Int32) ≠ 0 by decide), M_isN (show (2 : Int32) ≠ 0 by decide), M_isN (show (3 : Int32) ≠ 0 by decide), M_isN (show (8 : Int32) ≠ 0 by decide), true_or, if_true, ite_true]
  unfold pq at hne ⊢
  by_cases h1 : a1 < 0 ∨ 3 < a1
  · simp [h1]
  · by_cases h2 : a3 < 0 ∨ 3 < a3
    · simp [h1, h2]
    · obtain ⟨t1, ht1, rfl⟩ := px_in h1
      obtain ⟨t2, ht2, rfl⟩ := px_in h2
      simp only [if_neg h1, if_neg h2, if_true, ite_true, if_pos (pn_in ht1 (by decide)), if_pos (pn_in ht2 (by decide)), nI_clamp (show t1 < 2 ^ 31 by omega), nI_clamp (show t2 < 2 ^ 31 by omega), show ¬ (1 : Int32) = 0 by decide, if_false, ite_false, h1, h2, false_or, h65, h66] at hne ⊢
      by_cases h3 : a2 < 0
      · simp [h3]
      · by_cases h4 : a4 < 0
        · simp [h3, h4]
        · by_cases h5 : a5 < 0
          · simp [h3, h4, h5]
          · rcases hs t1 ht1 with h6 | ⟨n1, hn1, h6⟩
            · simp [h3, h4, h5, h6]
            · rcases hs t2 ht2 with h7 | ⟨n2, hn2, h7⟩
              · simp [h3, h4, h5, h6, h7, pn_m1 n1 (by omega)]
              · by_cases h8 : w.1 3 t1 = w.1 3 t2
                · have e1 : (w.1 4 t1).toInt = (n1 : Int) := by rw [h6]; exact nI_toInt (by omega)
                  have e2 : (w.1 4 t2).toInt = (n2 : Int) := by rw [h7]; exact nI_toInt (by omega)
                  simp only [e1, e2] at hne ⊢
                  rw [h6, h7] at hne ⊢
                  simp only [pn_subI hn1 h3, pn_subI hn2 h4]
                  by_cases h9 : (n1 : Int) < a2.toInt + a5.toInt
                  · simp [h3, h4, h5, h8, h9, pn_m1 n1 (show n1 < 2 ^ 31 by omega), pn_m1 n2 (show n2 < 2 ^ 31 by omega)]
                  · by_cases h10 : (n2 : Int) < a4.toInt + a5.toInt
                    · simp [h3, h4, h5, h8, h9, h10, pn_m1 n1 (show n1 < 2 ^ 31 by omega), pn_m1 n2 (show n2 < 2 ^ 31 by omega)]
                    · exact absurd (by simp [h3, h4, h5, h8, h9, h10, pn_m1 n1 (show n1 < 2 ^ 31 by omega), pn_m1 n2 (show n2 < 2 ^ 31 by omega)]) hne
                · simp [h3, h4, h5, h6, h7, h8, pn_m1 n1 (show n1 < 2 ^ 31 by omega), pn_m1 n2 (show n2 < 2 ^ 31 by omega)]
theorem pq_zero {w : pb_W} (hs : ∀ k, k < 4 → w.1 4 k = -1 ∨ ∃ n, n ≤ 60 ∧ w.1 4 k = nI n) {a1 a2 a3 a4 a5 : Int32} (h : pq w a1 a2 a3 a4 a5 = 0) : ∃ t1 p t2 q m n1 n2, t1 < 4 ∧ t2 < 4 ∧ a1 = nI t1 ∧ a2 = nI p ∧ a3 = nI t2 ∧ a4 = nI q ∧ a5 = nI m ∧ n1 ≤ 60 ∧ n2 ≤ 60 ∧ w.1 4 t1 = nI n1 ∧ w.1 4 t2 = nI n2 ∧ p + m ≤ n1 ∧ q + m ≤ n2 ∧ w.1 3 t1 = w.1 3 t2 := by
  unfold pq at h
  by_cases h1 : (a1 < 0 ∨ 3 < a1) ∨ (a3 < 0 ∨ 3 < a3) ∨ a2 < 0 ∨ a4 < 0 ∨ a5 < 0
  · rw [if_pos h1] at h; exact absurd h (by decide)
  · rw [if_neg h1] at h
    simp only [not_or] at h1
    obtain ⟨⟨g1, g2⟩, ⟨g3, g4⟩, g5, g6, g7⟩ := h1
    obtain ⟨t1, ht1, rfl⟩ := px_in (a1 := a1) (by simp [g1, g2])
    obtain ⟨t2, ht2, rfl⟩ := px_in (a1 := a3) (by simp [g3, g4])
    obtain ⟨p, hp, rfl⟩ := nI_of g5
    obtain ⟨q, hq, rfl⟩ := nI_of g6
    obtain ⟨m, hm, rfl⟩ := nI_of g7
    rw [nI_clamp (show t1 < 2 ^ 31 by omega), nI_clamp (show t2 < 2 ^ 31 by omega)] at h
    by_cases h2 : w.1 4 t1 = -1 ∨ w.1 4 t2 = -1
    · rw [if_pos h2] at h; exact absurd h (by decide)
    · rw [if_neg h2] at h
      simp only [not_or] at h2
      rcases hs t1 ht1 with h6 | ⟨n1, hn1, h6⟩
      · exact absurd h6 h2.1
      · rcases hs t2 ht2 with h7 | ⟨n2, hn2, h7⟩
        · exact absurd h7 h2.2
        · by_cases h8 : w.1 3 t1 = w.1 3 t2
          · rw [if_neg (fun z => z h8), h6, h7, nI_toInt (by omega), nI_toInt hp, nI_toInt hm, nI_toInt hq, nI_toInt (by omega)] at h
            by_cases h9 : (n1 : Int) < (p : Int) + m ∨ (n2 : Int) < (q : Int) + m
            · rw [if_pos h9] at h; exact absurd h (by decide)
            · exact ⟨t1, p, t2, q, m, n1, n2, ht1, ht2, rfl, rfl, rfl, rfl, rfl, hn1, hn2, h6, h7, by omega, by omega, h8⟩
          · rw [if_pos h8] at h; exact absurd h (by decide)
theorem mx_pour_ok (w : pb_W) (h65 : w.1 65 = w.1 3) (h66 : w.1 66 = w.1 4) {t1 p t2 q m n1 n2 : Nat} (ht1 : t1 < 4) (ht2 : t2 < 4) (hn1 : n1 ≤ 60) (hn2 : n2 ≤ 60) (h6 : w.1 4 t1 = nI n1) (h7 : w.1 4 t2 = nI n2) (hp : p + m ≤ n1) (hq : q + m ≤ n2) (h8 : w.1 3 t1 = w.1 3 t2) : M_X12_pour [.ref 64, .int (nI t1), .int (nI p), .int (nI t2), .int (nI q), .int (nI m)] w = some (some (.int 1), pb_wI (pb_wG w 67 (va_cpy (w.2 67) (w.2 67) (60 * t1 + p) (60 * t2 + q) m)) 64 0 0) := by
  have i1 : ¬ (nI t1 < 0 ∨ (3 : Int32) < nI t1) := fun z => z.elim (nI_pos (by omega)) (nI_nlt (a := 3) (by omega) (by omega))
  have i2 : ¬ (nI t2 < 0 ∨ (3 : Int32) < nI t2) := fun z => z.elim (nI_pos (by omega)) (nI_nlt (a := 3) (by omega) (by omega))
  have j1 : ¬ nI p < 0 := nI_pos (by omega)
  have j2 : ¬ nI q < 0 := nI_pos (by omega)
  have j3 : ¬ nI m < 0 := nI_pos (by omega)
  rw [e_X12_pour]
  simp only [M_isTray, pb_bI_some, pn_34, if_neg i1, if_neg i2, show ¬ (1 : Int32) = 0 by decide, if_false, ite_false, if_neg j1, if_neg j2, if_neg j3, if_pos (pn_in ht1 (by decide)), if_pos (pn_in ht2 (by decide)), nI_clamp (show t1 < 2 ^ 31 by omega), nI_clamp (show t2 < 2 ^ 31 by omega), h65, h66, h6, h7, if_neg (pn_m1 n1 (show n1 < 2 ^ 31 by omega)), if_neg (pn_m1 n2 (show n2 < 2 ^ 31 by omega)), if_pos h8, pn_subI hn1 j1, pn_subI hn2 j2, nI_toInt (show p < 2 ^ 31 by omega), nI_toInt (show q < 2 ^ 31 by omega), nI_toInt (show m < 2 ^ 31 by omega)]
  rw [if_neg (by omega), if_neg (by omega)]
  have := mx_pourLoop t1 p t2 q m ht1 ht2 (by omega) (by omega) w m 0 (by omega)
  rw [pcp_0, pcp_m, pG_self, nI_0] at this
  exact this
theorem x_pour (a1 a2 a3 a4 a5 : Int32) (w : pb_W) (hH : iv_H w) (hT : iv_T w) : ∃ x w1 w2, M_X11_pour [.ref 0, .int a1, .int a2, .int a3, .int a4, .int a5] w = some (some (.int x), w1) ∧ M_X12_pour [.ref 64, .int a1, .int a2, .int a3, .int a4, .int a5] w1 = some (some (.int x), w2) ∧ fr fI_T fJ_T w w2 ∧ iv_H w2 ∧ iv_T w2 := by
  rw [e_X11_pour, cx_pq]
  simp only [pb_bI_some]
  by_cases h0 : pq w a1 a2 a3 a4 a5 = 0
  · obtain ⟨t1, p, t2, q, m, n1, n2, ht1, ht2, rfl, rfl, rfl, rfl, rfl, hn1, hn2, h6, h7, hp, hq, h8⟩ := pq_zero hT.2.2.2 h0
    have e1 : nI t1 * (60 : Int32) + nI p = nI (60 * t1 + p) := by rw [pn_lit 60, pn_mul, nI_add, Nat.mul_comm]
    have e2 : nI t2 * (60 : Int32) + nI q = nI (60 * t2 + q) := by rw [pn_lit 60, pn_mul, nI_add, Nat.mul_comm]
    have hmv : ∀ w' : pb_W, M_X8_move [.ref 1, .int (nI t1), .int (nI p), .int (nI t2), .int (nI q), .int (nI m)] w' = some (none, pb_wG w' 2 (va_cpy (w'.2 2) (w'.2 2) (60 * t1 + p) (60 * t2 + q) m)) := by
      intro w'
      rw [e_X8_move, e1, e2, nI_toInt (show 60 * t1 + p < 2 ^ 31 by omega), nI_toInt (show 60 * t2 + q < 2 ^ 31 by omega), nI_toInt (show m < 2 ^ 31 by omega), if_pos (by omega), nI_clamp (by omega), nI_clamp (by omega), nI_clamp (by omega)]
    refine ⟨1, pb_wG (pb_wI w 0 0 0) 2 (va_cpy (w.2 2) (w.2 2) (60 * t1 + p) (60 * t2 + q) m), pb_wI (pb_wG (pb_wG (pb_wI w 0 0 0) 2 (va_cpy (w.2 2) (w.2 2) (60 * t1 + p) (60 * t2 + q) m)) 67 (va_cpy (w.2 67) (w.2 67) (60 * t1 + p) (60 * t2 + q) m)) 64 0 0, ?_, ?_, ?_, ?_, ?_⟩
    · rw [h0, if_pos rfl, hmv, pb_bV_some]
      rfl
    · exact mx_pour_ok (pb_wG (pb_wI w 0 0 0) 2 (va_cpy (w.2 2) (w.2 2) (60 * t1 + p) (60 * t2 + q) m)) hT.2.1 hT.2.2.1 ht1 ht2 hn1 hn2 h6 h7 hp hq h8
    · exact fr_I (fr_G (fr_G (fr_I (fr_rf w) (by simp [fI_T])) (by simp [fJ_T])) (by simp [fJ_T])) (by simp [fI_T])
    · exact ⟨by simp [pw_I1, pw_G1, pu_at], by simpa [pw_I2, pw_G2] using hH.2.1, by simpa [pw_I2, pw_G2] using hH.2.2⟩
    · obtain ⟨g1, g2, g3, g4⟩ := hT
      exact ⟨by simp [pw_I2, pw_G2, g1], g2, g3, g4⟩
  · rw [if_neg h0, if_neg h0]
    refine ⟨0, _, pb_wI (pb_wI w 0 0 (pq w a1 a2 a3 a4 a5)) 64 0 (pq w a1 a2 a3 a4 a5), rfl, ?_, ?_, ?_, ?_⟩
    · exact mx_pour_bad (pb_wI w 0 0 (pq w a1 a2 a3 a4 a5)) hT.2.1 hT.2.2.1 hT.2.2.2 a1 a2 a3 a4 a5 h0
    · exact fr_I (fr_I (fr_rf w) (by simp [fI_T])) (by simp [fI_T])
    · exact ⟨by simp [pw_I1, pu_at], by simpa [pw_I2] using hH.2.1, by simpa [pw_I2] using hH.2.2⟩
    · simpa [iv_T, pw_I1, pw_I2] using hT
