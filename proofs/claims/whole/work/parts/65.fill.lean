/-! ===== FILLS ===== -/
theorem pw_F_self (w : pb_W) (c : Nat) : pb_wF w c (w.1 c) = w := by
  refine Prod.ext (funext fun d => ?_) rfl
  rw [pw_F1]
  split
  · rename_i e; rw [e]
  · rfl
theorem pw_G_self (w : pb_W) (c : Nat) : pb_wG w c (w.2 c) = w := by
  refine Prod.ext rfl (funext fun d => ?_)
  rw [pw_G2]
  split
  · rename_i e; rw [e]
  · rfl
theorem lp_fill40 (v : Int32) : ∀ (m k : Nat) (w : pb_W), k + m = 16 → pb_run T_J7_fill_53178_40 (5, [some (.ref 40), some (.int v), some (.int (nI k)), some (.int (Int32.ofNat 16))], [], w) = some (none, pb_wF w 40 (fun j => if k ≤ j ∧ j < 16 then v else w.1 40 j)) := by
  intro m
  induction m with
  | zero =>
    intro k w h
    have e : (fun j => if k ≤ j ∧ j < 16 then v else w.1 40 j) = w.1 40 := by
      funext j
      rw [if_neg (by omega)]
    rw [r_J7_fill_53178_40_5, if_neg (show ¬ nI k < Int32.ofNat 16 from nI_nlt (b := 16) (by omega) (by omega)), e, pw_F_self]
  | succ m ih =>
    intro k w h
    rw [r_J7_fill_53178_40_5, if_pos (show nI k < Int32.ofNat 16 from nI_lt (b := 16) (by omega) (by omega)), if_pos (pn_in (by omega) (by omega)), nI_1, nI_clamp (by omega), ih (k + 1) _ (by omega)]
    congr 2
    refine Prod.ext (funext fun d => ?_) rfl
    simp only [pw_F1, pw_I1]
    split
    · funext j
      simp only [if_true, pu_at]
      by_cases h1 : j = k
      · rw [if_neg (by omega), if_pos h1, if_pos (by omega)]
      · rw [if_neg h1]
        by_cases h2 : k + 1 ≤ j ∧ j < 16
        · rw [if_pos h2, if_pos (by omega)]
        · rw [if_neg h2, if_neg (by omega)]
    · rfl
theorem M_fill40 (v : Int32) (w : pb_W) : M_J7_fill_53178_40 [.ref 40, .int v] w = some (none, pb_wF w 40 (fun j => if j < 16 then v else w.1 40 j)) := by
  have := lp_fill40 v 16 0 w (by omega)
  rw [e_J7_fill_53178_40]
  simp only [Nat.zero_le, true_and] at this
  exact this
theorem lp_fill42 (v : Int32) : ∀ (m k : Nat) (w : pb_W), k + m = 16 → pb_run T_J7_fill_53178_42 (5, [some (.ref 42), some (.int v), some (.int (nI k)), some (.int (Int32.ofNat 16))], [], w) = some (none, pb_wF w 42 (fun j => if k ≤ j ∧ j < 16 then v else w.1 42 j)) := by
  intro m
  induction m with
  | zero =>
    intro k w h
    have e : (fun j => if k ≤ j ∧ j < 16 then v else w.1 42 j) = w.1 42 := by
      funext j
      rw [if_neg (by omega)]
    rw [r_J7_fill_53178_42_5, if_neg (show ¬ nI k < Int32.ofNat 16 from nI_nlt (b := 16) (by omega) (by omega)), e, pw_F_self]
  | succ m ih =>
    intro k w h
    rw [r_J7_fill_53178_42_5, if_pos (show nI k < Int32.ofNat 16 from nI_lt (b := 16) (by omega) (by omega)), if_pos (pn_in (by omega) (by omega)), nI_1, nI_clamp (by omega), ih (k + 1) _ (by omega)]
    congr 2
    refine Prod.ext (funext fun d => ?_) rfl
    simp only [pw_F1, pw_I1]
    split
    · funext j
      simp only [if_true, pu_at]
      by_cases h1 : j = k
      · rw [if_neg (by omega), if_pos h1, if_pos (by omega)]
      · rw [if_neg h1]
        by_cases h2 : k + 1 ≤ j ∧ j < 16
        · rw [if_pos h2, if_pos (by omega)]
        · rw [if_neg h2, if_neg (by omega)]
    · rfl
theorem M_fill42 (v : Int32) (w : pb_W) : M_J7_fill_53178_42 [.ref 42, .int v] w = some (none, pb_wF w 42 (fun j => if j < 16 then v else w.1 42 j)) := by
  have := lp_fill42 v 16 0 w (by omega)
  rw [e_J7_fill_53178_42]
  simp only [Nat.zero_le, true_and] at this
  exact this
theorem lp_fill43 (v : Int32) : ∀ (m k : Nat) (w : pb_W), k + m = 1936 → pb_run T_J7_fill_53178_43 (5, [some (.ref 43), some (.int v), some (.int (nI k)), some (.int (Int32.ofNat 1936))], [], w) = some (none, pb_wF w 43 (fun j => if k ≤ j ∧ j < 1936 then v else w.1 43 j)) := by
  intro m
  induction m with
  | zero =>
    intro k w h
    have e : (fun j => if k ≤ j ∧ j < 1936 then v else w.1 43 j) = w.1 43 := by
      funext j
      rw [if_neg (by omega)]
    rw [r_J7_fill_53178_43_5, if_neg (show ¬ nI k < Int32.ofNat 1936 from nI_nlt (b := 1936) (by omega) (by omega)), e, pw_F_self]
  | succ m ih =>
    intro k w h
    rw [r_J7_fill_53178_43_5, if_pos (show nI k < Int32.ofNat 1936 from nI_lt (b := 1936) (by omega) (by omega)), if_pos (pn_in (by omega) (by omega)), nI_1, nI_clamp (by omega), ih (k + 1) _ (by omega)]
    congr 2
    refine Prod.ext (funext fun d => ?_) rfl
    simp only [pw_F1, pw_I1]
    split
    · funext j
      simp only [if_true, pu_at]
      by_cases h1 : j = k
      · rw [if_neg (by omega), if_pos h1, if_pos (by omega)]
      · rw [if_neg h1]
        by_cases h2 : k + 1 ≤ j ∧ j < 1936
        · rw [if_pos h2, if_pos (by omega)]
        · rw [if_neg h2, if_neg (by omega)]
    · rfl
theorem M_fill43 (v : Int32) (w : pb_W) : M_J7_fill_53178_43 [.ref 43, .int v] w = some (none, pb_wF w 43 (fun j => if j < 1936 then v else w.1 43 j)) := by
  have := lp_fill43 v 1936 0 w (by omega)
  rw [e_J7_fill_53178_43]
  simp only [Nat.zero_le, true_and] at this
  exact this
theorem lp_fill55 (v : Int32) : ∀ (m k : Nat) (w : pb_W), k + m = 8 → pb_run T_J7_fill_53178_55 (5, [some (.ref 55), some (.int v), some (.int (nI k)), some (.int (Int32.ofNat 8))], [], w) = some (none, pb_wF w 55 (fun j => if k ≤ j ∧ j < 8 then v else w.1 55 j)) := by
  intro m
  induction m with
  | zero =>
    intro k w h
    have e : (fun j => if k ≤ j ∧ j < 8 then v else w.1 55 j) = w.1 55 := by
      funext j
      rw [if_neg (by omega)]
    rw [r_J7_fill_53178_55_5, if_neg (show ¬ nI k < Int32.ofNat 8 from nI_nlt (b := 8) (by omega) (by omega)), e, pw_F_self]
  | succ m ih =>
    intro k w h
    rw [r_J7_fill_53178_55_5, if_pos (show nI k < Int32.ofNat 8 from nI_lt (b := 8) (by omega) (by omega)), if_pos (pn_in (by omega) (by omega)), nI_1, nI_clamp (by omega), ih (k + 1) _ (by omega)]
    congr 2
    refine Prod.ext (funext fun d => ?_) rfl
    simp only [pw_F1, pw_I1]
    split
    · funext j
      simp only [if_true, pu_at]
      by_cases h1 : j = k
      · rw [if_neg (by omega), if_pos h1, if_pos (by omega)]
      · rw [if_neg h1]
        by_cases h2 : k + 1 ≤ j ∧ j < 8
        · rw [if_pos h2, if_pos (by omega)]
        · rw [if_neg h2, if_neg (by omega)]
    · rfl
theorem M_fill55 (v : Int32) (w : pb_W) : M_J7_fill_53178_55 [.ref 55, .int v] w = some (none, pb_wF w 55 (fun j => if j < 8 then v else w.1 55 j)) := by
  have := lp_fill55 v 8 0 w (by omega)
  rw [e_J7_fill_53178_55]
  simp only [Nat.zero_le, true_and] at this
  exact this
theorem lp_fill60 (v : Int32) : ∀ (m k : Nat) (w : pb_W), k + m = 16 → pb_run T_J7_fill_53178_60 (5, [some (.ref 60), some (.int v), some (.int (nI k)), some (.int (Int32.ofNat 16))], [], w) = some (none, pb_wF w 60 (fun j => if k ≤ j ∧ j < 16 then v else w.1 60 j)) := by
  intro m
  induction m with
  | zero =>
    intro k w h
    have e : (fun j => if k ≤ j ∧ j < 16 then v else w.1 60 j) = w.1 60 := by
      funext j
      rw [if_neg (by omega)]
    rw [r_J7_fill_53178_60_5, if_neg (show ¬ nI k < Int32.ofNat 16 from nI_nlt (b := 16) (by omega) (by omega)), e, pw_F_self]
  | succ m ih =>
    intro k w h
    rw [r_J7_fill_53178_60_5, if_pos (show nI k < Int32.ofNat 16 from nI_lt (b := 16) (by omega) (by omega)), if_pos (pn_in (by omega) (by omega)), nI_1, nI_clamp (by omega), ih (k + 1) _ (by omega)]
    congr 2
    refine Prod.ext (funext fun d => ?_) rfl
    simp only [pw_F1, pw_I1]
    split
    · funext j
      simp only [if_true, pu_at]
      by_cases h1 : j = k
      · rw [if_neg (by omega), if_pos h1, if_pos (by omega)]
      · rw [if_neg h1]
        by_cases h2 : k + 1 ≤ j ∧ j < 16
        · rw [if_pos h2, if_pos (by omega)]
        · rw [if_neg h2, if_neg (by omega)]
    · rfl
theorem M_fill60 (v : Int32) (w : pb_W) : M_J7_fill_53178_60 [.ref 60, .int v] w = some (none, pb_wF w 60 (fun j => if j < 16 then v else w.1 60 j)) := by
  have := lp_fill60 v 16 0 w (by omega)
  rw [e_J7_fill_53178_60]
  simp only [Nat.zero_le, true_and] at this
  exact this
theorem lp_fill56 (v : Int32) : ∀ (m k : Nat) (w : pb_W), k + m = 520 → pb_run T_J7_fill_53178_56 (5, [some (.ref 56), some (.int v), some (.int (nI k)), some (.int (Int32.ofNat 520))], [], w) = some (none, pb_wF w 56 (fun j => if k ≤ j ∧ j < 520 then v else w.1 56 j)) := by
  intro m
  induction m with
  | zero =>
    intro k w h
    have e : (fun j => if k ≤ j ∧ j < 520 then v else w.1 56 j) = w.1 56 := by
      funext j
      rw [if_neg (by omega)]
    rw [r_J7_fill_53178_56_5, if_neg (show ¬ nI k < Int32.ofNat 520 from nI_nlt (b := 520) (by omega) (by omega)), e, pw_F_self]
  | succ m ih =>
    intro k w h
    rw [r_J7_fill_53178_56_5, if_pos (show nI k < Int32.ofNat 520 from nI_lt (b := 520) (by omega) (by omega)), if_pos (pn_in (by omega) (by omega)), nI_1, nI_clamp (by omega), ih (k + 1) _ (by omega)]
    congr 2
    refine Prod.ext (funext fun d => ?_) rfl
    simp only [pw_F1, pw_I1]
    split
    · funext j
      simp only [if_true, pu_at]
      by_cases h1 : j = k
      · rw [if_neg (by omega), if_pos h1, if_pos (by omega)]
      · rw [if_neg h1]
        by_cases h2 : k + 1 ≤ j ∧ j < 520
        · rw [if_pos h2, if_pos (by omega)]
        · rw [if_neg h2, if_neg (by omega)]
    · rfl
theorem M_fill56 (v : Int32) (w : pb_W) : M_J7_fill_53178_56 [.ref 56, .int v] w = some (none, pb_wF w 56 (fun j => if j < 520 then v else w.1 56 j)) := by
  have := lp_fill56 v 520 0 w (by omega)
  rw [e_J7_fill_53178_56]
  simp only [Nat.zero_le, true_and] at this
  exact this
theorem lp_fill44 (v : Int64) : ∀ (m k : Nat) (w : pb_W), k + m = 2001 → pb_run T_J7_fill_d0a16_44 (6, [some (.ref 44), some (.long v), none, some (.int (nI k)), some (.int (Int32.ofNat 2001))], [], w) = some (none, pb_wG w 44 (fun j => if k ≤ j ∧ j < 2001 then v else w.2 44 j)) := by
  intro m
  induction m with
  | zero =>
    intro k w h
    have e : (fun j => if k ≤ j ∧ j < 2001 then v else w.2 44 j) = w.2 44 := by
      funext j
      rw [if_neg (by omega)]
    rw [r_J7_fill_d0a16_44_6, if_neg (show ¬ nI k < Int32.ofNat 2001 from nI_nlt (b := 2001) (by omega) (by omega)), e, pw_G_self]
  | succ m ih =>
    intro k w h
    rw [r_J7_fill_d0a16_44_6, if_pos (show nI k < Int32.ofNat 2001 from nI_lt (b := 2001) (by omega) (by omega)), if_pos (pn_in (by omega) (by omega)), nI_1, nI_clamp (by omega), ih (k + 1) _ (by omega)]
    congr 2
    refine Prod.ext rfl (funext fun d => ?_)
    simp only [pw_G2, pw_L2]
    split
    · funext j
      simp only [if_true, pu_atL]
      by_cases h1 : j = k
      · rw [if_neg (by omega), if_pos h1, if_pos (by omega)]
      · rw [if_neg h1]
        by_cases h2 : k + 1 ≤ j ∧ j < 2001
        · rw [if_pos h2, if_pos (by omega)]
        · rw [if_neg h2, if_neg (by omega)]
    · rfl
theorem M_fill44 (v : Int64) (w : pb_W) : M_J7_fill_d0a16_44 [.ref 44, .long v] w = some (none, pb_wG w 44 (fun j => if j < 2001 then v else w.2 44 j)) := by
  have := lp_fill44 v 2001 0 w (by omega)
  rw [e_J7_fill_d0a16_44]
  simp only [Nat.zero_le, true_and] at this
  exact this
