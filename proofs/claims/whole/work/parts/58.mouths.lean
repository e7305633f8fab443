/-! ===== MOUTHS ===== -/
theorem pn_min3 (e : Nat) (he : e < 2 ^ 31) : pb_min (3 : Int32) (nI e) = nI (min 3 e) := by
  unfold pb_min
  have q : nI e < (3 : Int32) ↔ e < 3 := nI_ltI (b := 3) he (by decide)
  by_cases h : e < 3
  · rw [if_pos (q.mpr h), Nat.min_eq_right (by omega)]
  · rw [if_neg (fun z => h (q.mp z)), Nat.min_eq_left (by omega)]
    rfl
theorem pn_max0 (e : Nat) (he : e < 2 ^ 31) : pb_max (0 : Int32) (nI e) = nI e := by
  unfold pb_max
  have q : (0 : Int32) < nI e ↔ 0 < e := nI_ltI (a := 0) (by decide) he
  by_cases h : 0 < e
  · rw [if_pos (q.mpr h)]
  · rw [if_neg (fun z => h (q.mp z)), show e = 0 by omega]
    rfl
theorem cm_mouths {n wk : Nat} {a1 : Int32} {w : pb_W} (hM : iv_M w) (hS : iv_S w) (hk : wk < 520) (h45 : w.1 45 0 = nI n) (hn : n ≤ 40) : ∀ (m i s : Nat), i + m = n → s + 100 * m ≤ 4000 → ∃ t, t ≤ s + 100 * m ∧ pb_run T_X3_together (5, [some (.ref 45), some (.int a1), some (.int (nI wk)), some (.int (nI s)), some (.int (nI i)), none], [], w) = some (some (.int (nI t)), w) ∧ pb_run T_X12_mouthsOf (5, [some (.ref 64), some (.int a1), some (.int (nI wk)), some (.int (nI s)), some (.int (nI i))], [], w) = some (some (.int (nI t)), w) := by
  obtain ⟨n', hn', h45', h85, g1, g2, g3, g4, gk⟩ := hM
  have nn : n' = n := (nI_eq (by omega) (by omega)).mp (h45'.symm.trans h45)
  subst nn
  intro m
  induction m with
  | zero =>
    intro i s hi hs
    have q : ¬ nI i < nI n' := by rw [nI_ltI (by omega) (by omega)]; omega
    refine ⟨s, by omega, ?_, ?_⟩
    · rw [r_X3_together_5, h45, if_neg q]
    · rw [r_X12_mouthsOf_5, h85, if_neg q]
  | succ m ih =>
    intro i s hi hs
    have i40 : pb_in (nI i) 40 := pn_in (by omega) (by decide)
    have q : nI i < nI n' := nI_lt (by omega) (by omega)
    rw [r_X3_together_5, r_X12_mouthsOf_5, h45, h85, if_pos q, if_pos q]
    simp only [if_pos i40]
    rw [nI_clamp (show i < 2 ^ 31 by omega), nI_1, g1, g2, g3, g4]
    obtain ⟨-, ⟨b1, b2⟩, ⟨c, lc, ec⟩, ⟨d, ld, ed⟩, o1, o2⟩ := gk i (by omega)
    obtain ⟨t0, lt0, x0, y0⟩ := ih (i + 1) s (by omega) (by omega)
    by_cases hf : w.1 46 i = a1
    · rw [if_pos hf, if_pos hf]
      by_cases h1 : nI wk < w.1 48 i
      · rw [if_pos h1, if_pos h1]
        exact ⟨t0, by omega, x0, y0⟩
      · rw [if_neg h1, if_neg h1]
        by_cases h2 : w.1 49 i < nI wk
        · rw [if_pos h2, if_pos h2]
          exact ⟨t0, by omega, x0, y0⟩
        · rw [if_neg h2, if_neg h2]
          rw [pn_lt] at h1 o1
          have ew : (nI wk).toInt = (wk : Int) := nI_toInt (by omega)
          obtain ⟨z, hz⟩ : ∃ z : Nat, (nI wk).toInt - (w.1 47 i).toInt = (z : Int) := ⟨((nI wk).toInt - (w.1 47 i).toInt).toNat, by omega⟩
          have ez : nI wk - w.1 47 i = nI z := by
            apply Int32.toInt_inj.mp
            rw [Int32.toInt_sub, hz, nI_toInt (show z < 2 ^ 31 by omega)]
            exact Int.bmod_eq_of_le (by omega) (by omega)
          have e52 : nI z / (52 : Int32) / (5 : Int32) = nI (z / 52 / 5) := by
            rw [show (52 : Int32) = nI 52 from rfl, show (5 : Int32) = nI 5 from rfl, pk_div (by omega) (by decide) (by decide), pk_div (by omega) (by decide) (by decide)]
          rw [ez, e52, pn_max0 _ (by omega), pn_min3 _ (by omega), if_pos (pn_in (show min 3 (z / 52 / 5) < 4 by omega) (by decide)), if_pos (pn_in (show min 3 (z / 52 / 5) < 4 by omega) (by decide)), nI_clamp (show min 3 (z / 52 / 5) < 2 ^ 31 by omega), hS.1 _ (show min 3 (z / 52 / 5) < 4 by omega)]
          obtain ⟨u, lu, eu⟩ := hS.2 (min 3 (z / 52 / 5)) (by omega)
          rw [eu, nI_add]
          obtain ⟨t1, lt1, x1, y1⟩ := ih (i + 1) (s + u) (by omega) (by omega)
          exact ⟨t1, by omega, x1, y1⟩
    · rw [if_neg hf, if_neg hf]
      exact ⟨t0, by omega, x0, y0⟩
