/-! ===== pour ===== -/
theorem pn_sub {a b : Nat} (h : b ≤ a) : nI a - nI b = nI (a - b) := pk_sub h
/-- the reference's copying, forth or back: after i of m steps -/
def pcp (f : Nat → Int64) (sp dp m i : Nat) (back : Bool) : Nat → Int64 := fun j => if dp ≤ j ∧ j < dp + m ∧ (if back then dp + m - i ≤ j else j < dp + i) then f (sp + (j - dp)) else f j
theorem pG_self (w : pb_W) (c : Nat) : pb_wG w c (w.2 c) = w := by
  refine Prod.ext rfl (funext fun d => ?_)
  rw [pw_G2]
  split
  · rename_i e; rw [e]
  · rfl
theorem pG_G (w : pb_W) (c : Nat) (f g : Nat → Int64) : pb_wG (pb_wG w c f) c g = pb_wG w c g := by
  refine Prod.ext rfl (funext fun d => ?_)
  simp only [pw_G2]
  split <;> rfl
theorem pL_G (w : pb_W) (c : Nat) (f : Nat → Int64) (k : Nat) (v : Int64) : pb_wL (pb_wG w c f) c k v = pb_wG w c (vp_updL f k v) := by
  refine Prod.ext rfl (funext fun d => ?_)
  simp only [pw_G2, pw_L2, if_true, ite_true]
  split <;> rfl
theorem mx_pourLoop (t1 p t2 q m : Nat) (ht1 : t1 < 4) (ht2 : t2 < 4) (hp : p + m ≤ 60) (hq : q + m ≤ 60) (w : pb_W) : ∀ (n i : Nat), i + n = m → pb_run T_X12_pour (118, [some (.ref 64), some (.int (nI t1)), some (.int (nI p)), some (.int (nI t2)), some (.int (nI q)), some (.int (nI m)), some (.int (nI i)), none], [], pb_wG w 67 (pcp (w.2 67) (60 * t1 + p) (60 * t2 + q) m i (decide (p < q)))) = some (some (.int 1), pb_wI (pb_wG w 67 (pcp (w.2 67) (60 * t1 + p) (60 * t2 + q) m m (decide (p < q)))) 64 0 0) := by
  intro n
  induction n with
  | zero =>
    intro i h
    have : i = m := by omega
    subst this
    rw [r_X12_pour_118, if_neg (nI_nlt (by omega) (by omega)), M_is0]
    simp only [pb_bI_some, or_true, if_true, ite_true]
  | succ n ih =>
    intro i h
    rw [r_X12_pour_118, if_pos (nI_lt (by omega) (by omega))]
    have step : ∀ s : Nat, s < m → (s = if p < q then m - 1 - i else i) → pb_run T_X12_pour (143, [some (.ref 64), some (.int (nI t1)), some (.int (nI p)), some (.int (nI t2)), some (.int (nI q)), some (.int (nI m)), some (.int (nI i)), none], [.int (nI s)], pb_wG w 67 (pcp (w.2 67) (60 * t1 + p) (60 * t2 + q) m i (decide (p < q)))) = some (some (.int 1), pb_wI (pb_wG w 67 (pcp (w.2 67) (60 * t1 + p) (60 * t2 + q) m m (decide (p < q)))) 64 0 0) := by
      intro s hs hse
      have e1 : (60 : Int32) * nI t1 + nI p + nI s = nI (60 * t1 + p + s) := by rw [pn_lit 60, pn_mul, nI_add, nI_add]
      have e2 : (60 : Int32) * nI t2 + nI q + nI s = nI (60 * t2 + q + s) := by rw [pn_lit 60, pn_mul, nI_add, nI_add]
      rw [r_X12_pour_143, e1, e2, if_pos (pn_in (by omega) (by decide)), if_pos (pn_in (by omega) (by decide)), nI_1, nI_clamp (by omega), nI_clamp (by omega), pL_G]
      have ef : vp_updL (pcp (w.2 67) (60 * t1 + p) (60 * t2 + q) m i (decide (p < q))) (60 * t2 + q + s) ((pb_wG w 67 (pcp (w.2 67) (60 * t1 + p) (60 * t2 + q) m i (decide (p < q)))).2 67 (60 * t1 + p + s)) = pcp (w.2 67) (60 * t1 + p) (60 * t2 + q) m (i + 1) (decide (p < q)) := by
        have er : (pb_wG w 67 (pcp (w.2 67) (60 * t1 + p) (60 * t2 + q) m i (decide (p < q)))).2 67 (60 * t1 + p + s) = w.2 67 (60 * t1 + p + s) := by
          simp only [pw_G2, if_true, ite_true, pcp]
          by_cases hb : p < q
          · rw [if_pos hb] at hse
            simp only [hb, decide_true, if_true, ite_true]
            rw [if_neg (by omega)]
          · rw [if_neg hb] at hse
            simp only [hb, decide_false, Bool.false_eq_true, if_false, ite_false]
            by_cases hc : 60 * t2 + q ≤ 60 * t1 + p + s ∧ 60 * t1 + p + s < 60 * t2 + q + m ∧ 60 * t1 + p + s < 60 * t2 + q + i
            · rw [if_pos hc]
              have : t1 = t2 ∧ p = q := by omega
              obtain ⟨rfl, rfl⟩ := this
              congr 1
              omega
            · rw [if_neg hc]
        rw [er]
        funext j
        simp only [pu_atL, pcp]
        by_cases hj : j = 60 * t2 + q + s
        · subst hj
          rw [if_pos rfl]
          by_cases hb : p < q
          · rw [if_pos hb] at hse
            simp only [hb, decide_true, if_true, ite_true]
            rw [if_pos (by omega), show 60 * t2 + q + s - (60 * t2 + q) = s by omega]
          · rw [if_neg hb] at hse
            simp only [hb, decide_false, Bool.false_eq_true, if_false, ite_false]
            rw [if_pos (by omega), show 60 * t2 + q + s - (60 * t2 + q) = s by omega]
        · rw [if_neg hj]
          by_cases hb : p < q
          · rw [if_pos hb] at hse
            simp only [hb, decide_true, if_true, ite_true]
            by_cases hc : 60 * t2 + q ≤ j ∧ j < 60 * t2 + q + m ∧ 60 * t2 + q + m - i ≤ j
            · rw [if_pos hc, if_pos (by omega)]
            · rw [if_neg hc, if_neg (by omega)]
          · rw [if_neg hb] at hse
            simp only [hb, decide_false, Bool.false_eq_true, if_false, ite_false]
            by_cases hc : 60 * t2 + q ≤ j ∧ j < 60 * t2 + q + m ∧ j < 60 * t2 + q + i
            · rw [if_pos hc, if_pos (by omega)]
            · rw [if_neg hc, if_neg (by omega)]
      rw [ef]
      exact ih (i + 1) (by omega)
    by_cases hb : p < q
    · rw [if_pos (nI_lt hb (by omega))]
      have e : nI m - (1 : Int32) - nI i = nI (m - 1 - i) := by rw [pn_lit 1, pn_sub (by omega), pn_sub (by omega)]
      rw [e]
      exact step (m - 1 - i) (by omega) (by rw [if_pos hb])
    · rw [if_neg (nI_nlt (by omega) (by omega))]
      exact step i (by omega) (by rw [if_neg hb])
theorem pcp_0 (f : Nat → Int64) (sp dp m : Nat) (b : Bool) : pcp f sp dp m 0 b = f := by
  funext j
  unfold pcp
  cases b
  · simp only [Bool.false_eq_true, if_false, ite_false]
    rw [if_neg (by omega)]
  · simp only [if_true, ite_true]
    rw [if_neg (by omega)]
theorem pcp_m (f : Nat → Int64) (sp dp m : Nat) (b : Bool) : pcp f sp dp m m b = va_cpy f f sp dp m := by
  funext j
  unfold pcp va_cpy
  by_cases h : dp ≤ j ∧ j < dp + m
  · cases b
    · simp only [Bool.false_eq_true, if_false, ite_false]
      rw [if_pos (by omega), if_pos h]
    · simp only [if_true, ite_true]
      rw [if_pos (by omega), if_pos h]
  · cases b
    · simp only [Bool.false_eq_true, if_false, ite_false]
      rw [if_neg (by omega), if_neg h]
    · simp only [if_true, ite_true]
      rw [if_neg (by omega), if_neg h]
/-- pour's status -/
def pq (w : pb_W) (a1 a2 a3 a4 a5 : Int32) : Int32 := if (a1 < 0 ∨ 3 < a1) ∨ (a3 < 0 ∨ 3 < a3) ∨ a2 < 0 ∨ a4 < 0 ∨ a5 < 0 then 1 else if w.1 4 a1.toNatClampNeg = -1 ∨ w.1 4 a3.toNatClampNeg = -1 then 2 else if ¬ w.1 3 a1.toNatClampNeg = w.1 3 a3.toNatClampNeg then 8 else if (w.1 4 a1.toNatClampNeg).toInt < a2.toInt + a5.toInt ∨ (w.1 4 a3.toNatClampNeg).toInt < a4.toInt + a5.toInt then 3 else 0
theorem pn_2l {a : Int32} : a.toInt64.toInt = a.toInt := by
  rw [Int32.toInt_toInt64]
theorem pn_rng (x : Int32) : -2147483648 ≤ x.toInt ∧ x.toInt < 2147483648 := ⟨Int32.le_toInt x, Int32.toInt_lt x⟩
theorem lg_gt (x y : Int64) : 0 < lg_cmp x y ↔ y < x := by
  unfold lg_cmp
  constructor
  · intro h
    by_cases h1 : x > y
    · exact h1
    · rw [if_neg h1] at h
      split at h <;> exact absurd h (by decide)
  · intro h
    rw [if_pos h]
    decide
theorem pn_addL {a b : Int32} : (a.toInt64 + b.toInt64).toInt = a.toInt + b.toInt := by
  have h1 := pn_rng a
  have h2 := pn_rng b
  rw [Int64.toInt_add, pn_2l, pn_2l]
  exact Int.bmod_eq_of_le (by omega) (by omega)
theorem cx_pq (w : pb_W) (a1 a2 a3 a4 a5 : Int32) : M_X8_pourStatus [.ref 1, .int a1, .int a2, .int a3, .int a4, .int a5] w = some (some (.int (pq w a1 a2 a3 a4 a5)), w) := by
  rw [e_X8_pourStatus]
  simp only [M_outside, pb_bI_some]
  unfold pq
  by_cases h1 : a1 < 0 ∨ 3 < a1
  · simp [h1]
  · by_cases h2 : a3 < 0 ∨ 3 < a3
    · simp [h1, h2]
    · obtain ⟨t1, ht1, rfl⟩ := px_in h1
      obtain ⟨t2, ht2, rfl⟩ := px_in h2
      simp only [if_neg h1, if_neg h2, if_true, ite_true, if_pos (pn_in ht1 (by decide)), if_pos (pn_in ht2 (by decide)), nI_clamp (show t1 < 2 ^ 31 by omega), nI_clamp (show t2 < 2 ^ 31 by omega), lg_gt, Int64.lt_iff_toInt_lt, pn_addL, pn_2l, show ¬ (1 : Int32) = 0 by decide, if_false, ite_false, h1, h2, false_or]
      by_cases h3 : a2 < 0
      · simp [h3]
      · by_cases h4 : a4 < 0
        · simp [h3, h4]
        · by_cases h5 : a5 < 0
          · simp [h3, h4, h5]
          · by_cases h6 : w.1 4 t1 = -1
            · simp [h3, h4, h5, h6]
            · by_cases h7 : w.1 4 t2 = -1
              · simp [h3, h4, h5, h6, h7]
              · by_cases h8 : w.1 3 t1 = w.1 3 t2
                · by_cases h9 : (w.1 4 t1).toInt < a2.toInt + a5.toInt
                  · simp [h3, h4, h5, h6, h7, h8, h9]
                  · by_cases h10 : (w.1 4 t2).toInt < a4.toInt + a5.toInt <;> simp [h3, h4, h5, h6, h7, h8, h9, h10]
                · simp [h3, h4, h5, h6, h7, h8]
