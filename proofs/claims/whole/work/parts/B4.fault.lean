/-! ===== FAULT ===== -/
theorem x_fault (a1 : Int32) (w : pb_W) (hQ : iv_Q w) : ∃ x, M_X11_fault [.ref 0, .int a1] w = some (some (.int x), w) ∧ M_X12_fault [.ref 64, .int a1] w = some (some (.int x), w) := by
  have C := e_X11_fault a1 w
  have R := e_X12_fault a1 w
  rw [e_X5_report] at C
  rcases hQ with ⟨q1, q2, q3, q4⟩ | ⟨q1, q2, q3, q4⟩
  · rw [if_pos q1, pb_bI_some] at C
    refine ⟨-1, C, ?_⟩
    rw [R, q2, q3, q4]
    split
    · rfl
    · split
      · rfl
      · split <;> rfl
  · rw [if_neg (show ¬ w.1 21 15 = 0 by rw [q1]; decide), M_outside, pb_bI_some] at C
    rw [q2, q3, q4] at R
    by_cases q : a1 < 0 ∨ (2 : Int32) < a1
    · rw [if_pos q, if_neg (show ¬ (1 : Int32) = 0 by decide), pb_bI_some] at C
      have n0 : ¬ a1 = 0 := fun z => by rw [z] at q; exact absurd q (by decide)
      have n1 : ¬ a1 = 1 := fun z => by rw [z] at q; exact absurd q (by decide)
      have n2 : ¬ a1 = 2 := fun z => by rw [z] at q; exact absurd q (by decide)
      rw [if_neg n0, if_neg n1, if_neg n2] at R
      exact ⟨-1, C, R⟩
    · obtain ⟨m, hm, rfl⟩ := pn_of (N := 2) (fun z => q (Or.inl z)) (fun z => q (Or.inr z)) (by decide)
      rw [if_neg q, if_pos rfl] at C
      have : m = 0 ∨ m = 1 ∨ m = 2 := by omega
      rcases this with rfl | rfl | rfl
      · rw [if_neg (show ¬ nI 0 = (2 : Int32) by decide), if_pos (show nI 0 = (0 : Int32) from rfl), pb_bI_some] at C
        rw [if_pos (show nI 0 = (0 : Int32) from rfl)] at R
        exact ⟨_, C, R⟩
      · rw [if_neg (show ¬ nI 1 = (2 : Int32) by decide), if_neg (show ¬ nI 1 = (0 : Int32) by decide), pb_bI_some] at C
        rw [if_neg (show ¬ nI 1 = (0 : Int32) by decide), if_pos (show nI 1 = (1 : Int32) from rfl)] at R
        exact ⟨_, C, R⟩
      · rw [if_pos (show nI 2 = (2 : Int32) from rfl), pb_bI_some] at C
        rw [if_neg (show ¬ nI 2 = (0 : Int32) by decide), if_neg (show ¬ nI 2 = (1 : Int32) by decide), if_pos (show nI 2 = (2 : Int32) from rfl)] at R
        exact ⟨_, C, R⟩
