/-! ===== what the two sides ask before they write ===== -/
theorem q01 (P : Prop) [Decidable P] : ((if P then (1 : Int32) else 0) = 0) ↔ ¬ P := by by_cases h : P <;> simp [h]
theorem M_hasFamily (a : Int32) (w : pb_W) : M_X1_hasFamily [.ref 5, .int a] w = some (some (.int (if ¬ a < 0 ∧ a < w.1 5 0 then 1 else 0)), w) := by
  rw [e_X1_hasFamily]
  by_cases h1 : a < 0
  · simp [h1]
  · by_cases h2 : a < w.1 5 0 <;> simp [h1, h2]
theorem M_isFamily (a : Int32) (w : pb_W) : M_X12_isFamily [.ref 64, .int a] w = some (some (.int (if ¬ a < 0 ∧ a < w.1 64 6 then 1 else 0)), w) := by
  rw [e_X12_isFamily]
  by_cases h1 : a < 0
  · simp [h1]
  · by_cases h2 : a < w.1 64 6 <;> simp [h1, h2]
theorem M_hasLine (a : Int32) (w : pb_W) : M_X1_hasLine [.ref 5, .int a] w = some (some (.int (if ¬ a < 0 ∧ a < w.1 5 3 then 1 else 0)), w) := by
  rw [e_X1_hasLine]
  by_cases h1 : a < 0
  · simp [h1]
  · by_cases h2 : a < w.1 5 3 <;> simp [h1, h2]
theorem M_isLine (a : Int32) (w : pb_W) : M_X12_isLine [.ref 64, .int a] w = some (some (.int (if ¬ a < 0 ∧ a < w.1 64 7 then 1 else 0)), w) := by
  rw [e_X12_isLine]
  by_cases h1 : a < 0
  · simp [h1]
  · by_cases h2 : a < w.1 64 7 <;> simp [h1, h2]
theorem c_0 : (0 : Int32).toNatClampNeg = 0 := rfl
theorem M_wordsTold (w : pb_W) : M_X1_wordsTold [.ref 5] w = some (some (.int (if w.2 20 0 = 0 then 0 else 1)), w) := by
  rw [e_X1_wordsTold, c_0]
  by_cases t : w.2 20 0 = 0
  · rw [if_pos ((lg_eq0 _ _).mpr t), if_pos t]
  · rw [if_neg (fun q => t ((lg_eq0 _ _).mp q)), if_neg t]
theorem M_isWeek (a : Int32) (w : pb_W) : M_X12_isWeek [.int a] w = some (some (.int (if a < 0 ∨ 519 < a then 0 else 1)), w) := by
  rw [e_X12_isWeek]
  have e1 : (519 : Int32).toInt = 519 := by decide
  have e2 : (520 : Int32).toInt = 520 := by decide
  have h : a < (520 : Int32) ↔ ¬ (519 : Int32) < a := by
    rw [pn_lt, pn_lt, e1, e2]
    omega
  by_cases h1 : a < 0
  · simp [h1]
  · by_cases h2 : (519 : Int32) < a
    · have : ¬ a < (520 : Int32) := fun q => (h.mp q) h2
      simp [h1, h2, this]
    · have : a < (520 : Int32) := h.mpr h2
      simp [h1, h2, this]
theorem M_isSum (a : Int32) (w : pb_W) : M_X12_isSum [.int a] w = some (some (.int (if a < 1 ∨ 20000 < a then 0 else 1)), w) := by
  rw [e_X12_isSum]
  by_cases h1 : a < 1
  · simp [h1]
  · by_cases h2 : (20000 : Int32) < a <;> simp [h1, h2]
theorem M_isDay (a : Int32) (w : pb_W) : M_X12_isDay [.int a] w = some (some (.int (if a < 0 ∨ 9999 < a then 0 else 1)), w) := by
  rw [e_X12_isDay]
  by_cases h1 : a < 0
  · simp [h1]
  · by_cases h2 : (9999 : Int32) < a <;> simp [h1, h2]
theorem M_badEntry (a b : Int32) (w : pb_W) : M_X11_badEntry [.int a, .int b] w = some (some (.int (if (a < 1 ∨ 20000 < a) ∨ (b < 0 ∨ 9999 < b) then 1 else 0)), w) := by
  rw [e_X11_badEntry, M_outside, pb_bI_some, M_outside, pb_bI_some]
  by_cases h1 : a < 1 ∨ 20000 < a
  · simp [h1]
  · by_cases h2 : b < 0 ∨ 9999 < b <;> simp only [h1, h2] <;> rfl
theorem M_noFamilyWeek (a b : Int32) (w : pb_W) : M_X11_noFamilyWeek [.ref 0, .int a, .int b] w = some (some (.int (if ¬ (¬ a < 0 ∧ a < w.1 5 0) ∨ (b < 0 ∨ 519 < b) then 1 else 0)), w) := by
  rw [e_X11_noFamilyWeek, M_hasFamily, pb_bI_some, M_outside, pb_bI_some]
  by_cases h1 : ¬ a < 0 ∧ a < w.1 5 0
  · by_cases h2 : b < 0 ∨ 519 < b <;> simp only [h1, h2] <;> rfl
  · simp only [h1]
    rfl
/-! the line: what both ask -/
def ln_bad (f a1 a2 a3 a4 a6 a7 : Int32) : Prop := ¬ (¬ a1 < 0 ∧ a1 < f) ∨ (a2 < 0 ∨ 519 < a2) ∨ (a3 < 0 ∨ 9 < a3) ∨ (a6 < 0 ∨ 7 < a6) ∨ (a4 < 1 ∨ 20000 < a4) ∨ (a7 < 0 ∨ 9999 < a7)
theorem c_line_bad {a1 a2 a3 a4 a5 a6 a7 : Int32} {w : pb_W} (h : ln_bad (w.1 5 0) a1 a2 a3 a4 a6 a7) : M_X11_line [.ref 0, .int a1, .int a2, .int a3, .int a4, .int a5, .int a6, .int a7] w = some (some (.int (-1)), pb_wI w 0 0 1) := by
  have s : pb_run T_X11_line (109, [some (.ref 0), some (.int a1), some (.int a2), some (.int a3), some (.int a4), some (.int a5), some (.int a6), some (.int a7)], [], pb_wI w 0 0 1) = some (some (.int (-1)), pb_wI w 0 0 1) := by
    rw [r_X11_line_109, if_neg (show ¬ (pb_wI w 0 0 (1 : Int32)).1 0 0 = 0 from (show ¬ (1 : Int32) = 0 by decide))]
  rw [e_X11_line, M_noFamilyWeek, pb_bI_some, M_outside, pb_bI_some, M_outside, pb_bI_some, M_badEntry, pb_bI_some, s]
  simp only [q01]
  unfold ln_bad at h
  by_cases h1 : ¬ (¬ a1 < 0 ∧ a1 < w.1 5 0) ∨ (a2 < 0 ∨ 519 < a2)
  · rw [if_neg (not_not_intro h1)]
  · rw [if_pos h1]
    by_cases h2 : a3 < 0 ∨ 9 < a3
    · rw [if_neg (not_not_intro h2)]
    · rw [if_pos h2]
      by_cases h3 : a6 < 0 ∨ 7 < a6
      · rw [if_neg (not_not_intro h3)]
      · rw [if_pos h3, if_neg]
        intro h4
        rcases h with h | h | h | h | h | h
        · exact h1 (Or.inl h)
        · exact h1 (Or.inr h)
        · exact h2 h
        · exact h3 h
        · exact h4 (Or.inl h)
        · exact h4 (Or.inr h)
theorem c_line {a1 a2 a3 a4 a5 a6 a7 : Int32} {w : pb_W} (h : ¬ ln_bad (w.1 5 0) a1 a2 a3 a4 a6 a7) : M_X11_line [.ref 0, .int a1, .int a2, .int a3, .int a4, .int a5, .int a6, .int a7] w = if ¬ w.1 5 3 < 200 then some (some (.int (-1)), pb_wI w 0 0 4) else if a7 < w.1 5 18 then some (some (.int (-1)), pb_wI w 0 0 5) else if w.2 20 0 = 0 then some (some (.int (-1)), pb_wI w 0 0 6) else pb_bI (M_X1_addLine [.ref 5, .int a1, .int a2, .int a3, .int a4, .int a5, .int a6, .int a7] (pb_wI w 0 0 0)) fun x w1 => some (some (.int x), w1) := by
  have s : ∀ v : Int32, v ≠ 0 → pb_run T_X11_line (109, [some (.ref 0), some (.int a1), some (.int a2), some (.int a3), some (.int a4), some (.int a5), some (.int a6), some (.int a7)], [], pb_wI w 0 0 v) = some (some (.int (-1)), pb_wI w 0 0 v) := by
    intro v hv
    rw [r_X11_line_109, if_neg (show ¬ (pb_wI w 0 0 v).1 0 0 = 0 from hv)]
  have s0 : pb_run T_X11_line (109, [some (.ref 0), some (.int a1), some (.int a2), some (.int a3), some (.int a4), some (.int a5), some (.int a6), some (.int a7)], [], pb_wI w 0 0 0) = pb_bI (M_X1_addLine [.ref 5, .int a1, .int a2, .int a3, .int a4, .int a5, .int a6, .int a7] (pb_wI w 0 0 0)) fun x w1 => some (some (.int x), w1) := by
    rw [r_X11_line_109, if_pos (show (pb_wI w 0 0 (0 : Int32)).1 0 0 = 0 from rfl)]
  rw [e_X11_line, M_noFamilyWeek, pb_bI_some, M_outside, pb_bI_some, M_outside, pb_bI_some, M_badEntry, pb_bI_some]
  simp only [q01]
  unfold ln_bad at h
  have h1 : ¬ (¬ (¬ a1 < 0 ∧ a1 < w.1 5 0) ∨ (a2 < 0 ∨ 519 < a2)) := fun q => h (q.elim Or.inl fun q => Or.inr (Or.inl q))
  have h2 : ¬ (a3 < 0 ∨ 9 < a3) := fun q => h (Or.inr (Or.inr (Or.inl q)))
  have h3 : ¬ (a6 < 0 ∨ 7 < a6) := fun q => h (Or.inr (Or.inr (Or.inr (Or.inl q))))
  have h4 : ¬ ((a4 < 1 ∨ 20000 < a4) ∨ (a7 < 0 ∨ 9999 < a7)) := fun q => h (Or.inr (Or.inr (Or.inr (Or.inr q))))
  rw [if_pos h1, if_pos h2, if_pos h3, if_pos h4, s 5 (by decide), s 4 (by decide), M_wordsTold, pb_bI_some, s0, s 6 (by decide)]
  by_cases l : w.1 5 3 < 200
  · rw [if_pos l, if_neg (not_not_intro l)]
    by_cases d : a7 < w.1 5 18
    · rw [if_pos d, if_pos d]
    · rw [if_neg d, if_neg d]
      by_cases t : w.2 20 0 = 0
      · simp only [t, if_true, ite_true]
      · simp only [t, if_false, ite_false, show ¬ (1 : Int32) = 0 by decide]
  · rw [if_neg l, if_pos l]
theorem ite_ref (v : Int32) (w : pb_W) : (pb_bI (M_X12_refuse [.ref 64, .int v] w) fun x w1 => some (some (Value.int x), w1)) = some (some (.int (-1)), pb_wI w 64 0 v) := by rw [e_X12_refuse, pb_bI_some]
theorem ite_is (v : Int32) (hv : v ≠ 0) (w : pb_W) : (pb_bI (M_X12_is [.ref 64, .int v] w) fun x w1 => if x = 0 ∨ x = 1 then some (some (Value.int x), w1) else none) = some (some (.int 0), pb_wI w 64 0 v) := by rw [e_X12_is, if_neg hv, pb_bI_some, if_pos (Or.inl rfl)]
theorem ite_is0 (w : pb_W) : (pb_bI (M_X12_is [.ref 64, .int 0] w) fun x w1 => if x = 0 ∨ x = 1 then some (some (Value.int x), w1) else none) = some (some (.int 1), pb_wI w 64 0 0) := by rw [e_X12_is, if_pos rfl, pb_bI_some, if_pos (Or.inr rfl)]
theorem q10 (P : Prop) [Decidable P] : ((if P then (0 : Int32) else 1) = 0) ↔ P := by by_cases h : P <;> simp [h]
theorem m_line_bad {a1 a2 a3 a4 a5 a6 a7 : Int32} {w : pb_W} (h : ln_bad (w.1 64 6) a1 a2 a3 a4 a6 a7) : M_X12_line [.ref 64, .int a1, .int a2, .int a3, .int a4, .int a5, .int a6, .int a7] w = some (some (.int (-1)), pb_wI w 64 0 1) := by
  rw [e_X12_line, M_isFamily, pb_bI_some, M_isWeek, pb_bI_some, M_isSum, pb_bI_some, M_isDay, pb_bI_some]
  simp only [q01, q10, ite_ref]
  unfold ln_bad at h
  by_cases h1 : ¬ a1 < 0 ∧ a1 < w.1 64 6
  · rw [if_neg (not_not_intro h1)]
    by_cases h2 : a2 < 0 ∨ 519 < a2
    · rw [if_pos h2]
    · rw [if_neg h2]
      by_cases h3 : a3 < 0
      · rw [if_pos h3]
      · rw [if_neg h3]
        by_cases h4 : 9 < a3
        · rw [if_pos h4]
        · rw [if_neg h4]
          by_cases h5 : a4 < 1 ∨ 20000 < a4
          · rw [if_pos h5]
          · rw [if_neg h5]
            by_cases h6 : a6 < 0
            · rw [if_pos h6]
            · rw [if_neg h6]
              by_cases h7 : 7 < a6
              · rw [if_pos h7]
              · rw [if_neg h7, if_pos]
                rcases h with h | h | h | h | h | h
                · exact absurd h1 h
                · exact absurd h h2
                · exact absurd h (fun q => q.elim h3 h4)
                · exact absurd h (fun q => q.elim h6 h7)
                · exact absurd h h5
                · exact h
  · rw [if_pos h1]
