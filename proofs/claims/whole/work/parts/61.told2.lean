theorem mx_find {n : Nat} {a1 a2 : Int32} {w : pb_W} (hn : n ≤ 40) (h1 : w.1 31 1 = nI n) (h2 : w.1 64 67 = nI n) (g1 : w.1 104 = w.1 32) (g2 : w.1 105 = w.1 33) : ∀ (m i : Nat), i + m = n → pb_run T_X12_toldOf (2, [some (.ref 64), some (.int a1), some (.int a2), some (.int (nI i))], [], w) = pb_run T_X6_find (2, [some (.ref 31), some (.int a1), some (.int a2), some (.int (nI i))], [], w) := by
  intro m
  induction m with
  | zero =>
    intro i hi
    have q : ¬ nI i < nI n := by rw [nI_ltI (by omega) (by omega)]; omega
    rw [r_X6_find_2, r_X12_toldOf_2, h1, h2, if_neg q, if_neg q]
  | succ m ih =>
    intro i hi
    rw [r_X6_find_2, r_X12_toldOf_2, h1, h2, g1, g2, nI_1, ih (i + 1) (by omega)]
theorem mx_toldOf {n : Nat} {a1 a2 : Int32} {w : pb_W} (hn : n ≤ 40) (h1 : w.1 64 67 = nI n) : ∀ (m i : Nat), i + m = n → (pb_run T_X12_toldOf (2, [some (.ref 64), some (.int a1), some (.int a2), some (.int (nI i))], [], w) = some (some (.int (-1)), w) ∧ ∀ j, i ≤ j → j < n → ¬ (w.1 104 j = a1 ∧ w.1 105 j = a2)) ∨ ∃ j, i ≤ j ∧ j < n ∧ pb_run T_X12_toldOf (2, [some (.ref 64), some (.int a1), some (.int a2), some (.int (nI i))], [], w) = some (some (.int (nI j)), w) ∧ w.1 104 j = a1 ∧ w.1 105 j = a2 ∧ ∀ l, i ≤ l → l < j → ¬ (w.1 104 l = a1 ∧ w.1 105 l = a2) := by
  intro m
  induction m with
  | zero =>
    intro i hi
    refine Or.inl ⟨?_, fun j p q => by omega⟩
    rw [r_X12_toldOf_2, h1, if_neg (show ¬ nI i < nI n by rw [nI_ltI (by omega) (by omega)]; omega)]
  | succ m ih =>
    intro i hi
    have i40 : pb_in (nI i) 40 := pn_in (by omega) (by decide)
    have E := r_X12_toldOf_2 a1 a2 (nI i) w
    rw [h1, if_pos (show nI i < nI n from nI_lt (by omega) (by omega)), if_pos i40, if_pos i40, nI_clamp (show i < 2 ^ 31 by omega), nI_1] at E
    have next : ¬ (w.1 104 i = a1 ∧ w.1 105 i = a2) → pb_run T_X12_toldOf (2, [some (.ref 64), some (.int a1), some (.int a2), some (.int (nI i))], [], w) = pb_run T_X12_toldOf (2, [some (.ref 64), some (.int a1), some (.int a2), some (.int (nI (i + 1)))], [], w) := by
      intro h
      rw [E]
      by_cases p : w.1 104 i = a1
      · rw [if_pos p, if_neg (fun q => h ⟨p, q⟩)]
      · rw [if_neg p]
    by_cases h : w.1 104 i = a1 ∧ w.1 105 i = a2
    · refine Or.inr ⟨i, by omega, by omega, ?_, h.1, h.2, fun l p q => by omega⟩
      rw [E, if_pos h.1, if_pos h.2]
    · rcases ih (i + 1) (by omega) with ⟨r, s⟩ | ⟨j, l1, l2, r, s1, s2, s3⟩
      · refine Or.inl ⟨(next h).trans r, fun j p q => ?_⟩
        by_cases e : j = i
        · rw [e]; exact h
        · exact s j (by omega) q
      · refine Or.inr ⟨j, by omega, l2, (next h).trans r, s1, s2, fun l p q => ?_⟩
        by_cases e : l = i
        · rw [e]; exact h
        · exact s3 l (by omega) q
