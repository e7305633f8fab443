/-! ===== MEMBER ===== -/
def iv_M (w : pb_W) : Prop := ∃ n, n ≤ 40 ∧ w.1 45 0 = nI n ∧ w.1 64 85 = nI n ∧ w.1 117 = w.1 46 ∧ w.1 118 = w.1 47 ∧ w.1 119 = w.1 48 ∧ w.1 120 = w.1 49 ∧ ∀ k, k < n → (∃ c, c < 12 ∧ w.1 46 k = nI c) ∧ (-5200 ≤ (w.1 47 k).toInt ∧ (w.1 47 k).toInt ≤ 519) ∧ (∃ c, c < 520 ∧ w.1 48 k = nI c) ∧ (∃ c, c < 520 ∧ w.1 49 k = nI c) ∧ ¬ w.1 48 k < w.1 47 k ∧ ¬ w.1 49 k < w.1 48 k
abbrev fI_M : Nat → Nat → Prop := fun c k => (c = 0 ∧ k = 0) ∨ (c = 64 ∧ k = 0) ∨ (c = 45 ∧ k = 0) ∨ (c = 64 ∧ k = 85) ∨ c = 46 ∨ c = 47 ∨ c = 48 ∨ c = 49 ∨ c = 117 ∨ c = 118 ∨ c = 119 ∨ c = 120
def mb_bad (f a1 a2 a3 a4 : Int32) : Prop := ¬ (¬ a1 < 0 ∧ a1 < f) ∨ (a2 < -5200 ∨ 519 < a2) ∨ (a3 < 0 ∨ 519 < a3) ∨ (a4 < 0 ∨ 519 < a4) ∨ a3 < a2 ∨ a4 < a3
theorem c_member {a1 a2 a3 a4 : Int32} {w : pb_W} : (mb_bad (w.1 5 0) a1 a2 a3 a4 → M_X11_member [.ref 0, .int a1, .int a2, .int a3, .int a4] w = some (some (.int 0), pb_wI w 0 0 1)) ∧ (¬ mb_bad (w.1 5 0) a1 a2 a3 a4 → M_X11_member [.ref 0, .int a1, .int a2, .int a3, .int a4] w = if w.1 45 0 < (40 : Int32) then pb_run T_X11_member (93, [some (.ref 0), some (.int a1), some (.int a2), some (.int a3), some (.int a4), none], [], pb_wI w 0 0 0) else some (some (.int 0), pb_wI w 0 0 4)) := by
  have s : ∀ v : Int32, v ≠ 0 → pb_run T_X11_member (93, [some (.ref 0), some (.int a1), some (.int a2), some (.int a3), some (.int a4), none], [], pb_wI w 0 0 v) = some (some (.int 0), pb_wI w 0 0 v) := by
    intro v hv
    rw [r_X11_member_93, if_neg (show ¬ (pb_wI w 0 0 v).1 0 0 = 0 from hv), if_neg (show ¬ (pb_wI w 0 0 v).1 0 0 = 0 from hv)]
  have k1 : ¬ (1 : Int32) = 0 := by decide
  have C := e_X11_member a1 a2 a3 a4 w
  have S := fun s0 => r_X11_member_33 a1 a2 a3 a4 s0 w
  simp only [M_hasFamily, M_outside, pb_bI_some, q01, s 1 (by decide), s 4 (by decide)] at S
  simp only [M_outside, pb_bI_some, q01, S, if_neg k1, if_true, ite_true] at C
  have e0 : (0 : Int32).toInt = 0 := by decide
  rw [C]
  unfold mb_bad
  by_cases h1 : ¬ a1 < 0 ∧ a1 < w.1 5 0
  · by_cases h2 : a2 < -5200 ∨ 519 < a2
    · simp only [h1, h2, not_true, not_false_iff, if_true, if_false, ite_self, true_or, or_true, true_implies, implies_true, false_implies, and_self, not_and]
    · by_cases h3 : a3 < 0 ∨ 519 < a3
      · simp [h1, h2, h3]
      · by_cases h4 : a4 < a3 ∨ 519 < a4
        · refine ⟨fun _ => ?_, fun q => absurd ?_ q⟩
          · simp only [h1, h2, h3, h4, not_true, not_false_iff, if_true, if_false, ite_true, ite_false, and_self]
          · rcases h4 with h4 | h4
            · exact Or.inr (Or.inr (Or.inr (Or.inr (Or.inr h4))))
            · exact Or.inr (Or.inr (Or.inr (Or.inl (Or.inr h4))))
        · have h40 : ¬ a4 < 0 := fun q => by
            have b3 : ¬ a3 < 0 := fun z => h3 (Or.inl z)
            have b4 : ¬ a4 < a3 := fun z => h4 (Or.inl z)
            rw [pn_lt, e0] at q b3
            rw [pn_lt] at b4
            omega
          by_cases h5 : a3 < a2
          · refine ⟨fun _ => ?_, fun q => absurd (Or.inr (Or.inr (Or.inr (Or.inr (Or.inl h5))))) q⟩
            simp only [h1, h2, h3, h4, h5, not_true, not_false_iff, if_true, if_false, ite_true, ite_false, and_self]
          · refine ⟨fun q => ?_, fun _ => ?_⟩
            · rcases q with q | q | q | q | q | q
              · exact absurd h1 q
              · exact absurd q h2
              · exact absurd q h3
              · exact absurd q (fun z => z.elim h40 (fun z => h4 (Or.inr z)))
              · exact absurd q h5
              · exact absurd (Or.inl q) h4
            · simp only [h1, h2, h3, h4, h5, k1, not_true, not_false_iff, if_true, if_false, ite_true, ite_false, and_self]
  · refine ⟨fun _ => ?_, fun q => absurd (Or.inl h1) q⟩
    simp only [h1, not_true, not_false_iff, if_true, if_false, ite_true, ite_false, ite_self]
