/-! ===== LOSS ===== -/
def iv_O (w : pb_W) : Prop := ∃ n, n ≤ 12 ∧ w.1 61 2 = nI n ∧ w.1 64 98 = nI n ∧ w.1 128 = w.1 62 ∧ w.1 129 = w.1 63 ∧ ∀ k, k < n → (∃ c, c < 12 ∧ w.1 62 k = nI c) ∧ ∃ c, c < 520 ∧ w.1 63 k = nI c
abbrev fI_O : Nat → Nat → Prop := fun c k => (c = 0 ∧ k = 0) ∨ (c = 64 ∧ k = 0) ∨ (c = 61 ∧ k = 2) ∨ (c = 64 ∧ k = 98) ∨ c = 62 ∨ c = 63 ∨ c = 128 ∨ c = 129
theorem x_loss (a1 a2 : Int32) (w : pb_W) (hH : iv_H w) (hF : iv_F w) (hO : iv_O w) : ∃ x w1 w2, M_X11_loss [.ref 0, .int a1, .int a2] w = some (some (.int x), w1) ∧ M_X12_loss [.ref 64, .int a1, .int a2] w1 = some (some (.int x), w2) ∧ fr fI_O fJ_no w w2 ∧ iv_H w2 ∧ iv_O w2 := by
  have hO' := hO
  obtain ⟨f, hf, f5, f6, -⟩ := hF
  obtain ⟨n, hn, h61, h98, g1, g2, g3⟩ := hO
  have k1 : ¬ (1 : Int32) = 0 := by decide
  have k4 : ¬ (4 : Int32) = 0 := by decide
  have refuse : ∀ v : Int32, (fr fI_O fJ_no w (pb_wI (pb_wI w 0 0 v) 64 0 v) ∧ iv_H (pb_wI (pb_wI w 0 0 v) 64 0 v) ∧ iv_O (pb_wI (pb_wI w 0 0 v) 64 0 v)) := fun v => ⟨fr_I (fr_I (fr_rf w) (by simp [fI_O])) (by simp [fI_O]), ⟨rfl, hH.2.1, hH.2.2⟩, hO'⟩
  have C := e_X11_loss a1 a2 w
  simp only [M_noFamilyWeek, pb_bI_some, q01, f5, h61, if_neg k1] at C
  have R := fun v : pb_W => e_X12_loss a1 a2 v
  simp only [M_isFamily, M_isWeek, pb_bI_some, ite_ref, q01, q10] at R
  by_cases h1 : ¬ a1 < 0 ∧ a1 < nI f
  · by_cases h2 : a2 < 0 ∨ 519 < a2
    · rw [if_neg (not_not_intro (Or.inr h2))] at C
      have R1 := R (pb_wI w 0 0 1)
      rw [show (pb_wI w 0 0 (1 : Int32)).1 64 6 = nI f from f6, if_neg (not_not_intro h1), if_pos h2] at R1
      exact ⟨-1, _, _, C, R1, refuse 1⟩
    · rw [if_pos (fun q => q.elim (fun z => z h1) h2)] at C
      by_cases e : n = 12
      · subst e
        rw [if_neg (show ¬ nI 12 < (12 : Int32) by decide), r_X11_loss_35, if_neg k4] at C
        have R4 := R (pb_wI w 0 0 4)
        rw [show (pb_wI w 0 0 (4 : Int32)).1 64 6 = nI f from f6, if_neg (not_not_intro h1), if_neg h2, if_pos (show (pb_wI w 0 0 (4 : Int32)).1 64 98 = (12 : Int32) from h98)] at R4
        exact ⟨-1, _, _, C, R4, refuse 4⟩
      · have i12 : pb_in (nI n) 12 := pn_in (by omega) (by decide)
        have e61 : (pb_wI w 0 0 (0 : Int32)).1 61 2 = nI n := h61
        rw [if_pos (show nI n < (12 : Int32) from nI_lt (b := 12) (by omega) (by decide)), r_X11_loss_35, if_pos rfl, e_X2_addLoss, e61, if_pos i12, if_pos i12, pb_bI_some, nI_1, nI_pred, nI_clamp (show n < 2 ^ 31 by omega)] at C
        have R0 := R (pb_wI (pb_wI (pb_wI (pb_wI w 0 0 0) 62 n a1) 63 n a2) 61 2 (nI (n + 1)))
        rw [show (pb_wI (pb_wI (pb_wI (pb_wI w 0 0 0) 62 n a1) 63 n a2) 61 2 (nI (n + 1))).1 64 6 = nI f from f6, if_neg (not_not_intro h1), if_neg h2, show (pb_wI (pb_wI (pb_wI (pb_wI w 0 0 0) 62 n a1) 63 n a2) 61 2 (nI (n + 1))).1 64 98 = nI n from h98, if_neg (show ¬ nI n = (12 : Int32) from fun q => e ((nI_eq (b := 12) (by omega) (by decide)).mp q)), if_pos i12, if_pos i12, e_X12_gives, pb_bI_some, nI_1, nI_pred, nI_clamp (show n < 2 ^ 31 by omega)] at R0
        obtain ⟨c1, l1, e1⟩ := nI_of h1.1
        have l1' : c1 < 12 := by
          have q := h1.2
          rw [e1] at q
          have := (nI_ltI l1 (by omega)).mp q
          omega
        obtain ⟨c2, l2, e2⟩ := px_to (N := 519) (by decide) (show ¬ (a2 < 0 ∨ nI 519 < a2) from h2)
        refine ⟨_, _, _, C, R0, ?_, ⟨rfl, hH.2.1, hH.2.2⟩, n + 1, by omega, rfl, rfl, congrArg (fun g => upd g n a1) g1, congrArg (fun g => upd g n a2) g2, ?_⟩
        · exact fr_I (fr_I (fr_I (fr_I (fr_I (fr_I (fr_I (fr_I (fr_rf w) (by simp [fI_O])) (by simp [fI_O])) (by simp [fI_O])) (by simp [fI_O])) (by simp [fI_O])) (by simp [fI_O])) (by simp [fI_O])) (by simp [fI_O])
        · intro k hk
          show (∃ c, c < 12 ∧ upd (w.1 62) n a1 k = nI c) ∧ ∃ c, c < 520 ∧ upd (w.1 63) n a2 k = nI c
          rw [pu_at, pu_at]
          by_cases q : k = n
          · rw [if_pos q, if_pos q]
            exact ⟨⟨c1, l1', e1⟩, c2, by omega, e2⟩
          · rw [if_neg q, if_neg q]
            exact g3 k (by omega)
  · rw [if_neg (not_not_intro (Or.inl h1))] at C
    have R1 := R (pb_wI w 0 0 1)
    rw [show (pb_wI w 0 0 (1 : Int32)).1 64 6 = nI f from f6, if_pos h1] at R1
    exact ⟨-1, _, _, C, R1, refuse 1⟩
