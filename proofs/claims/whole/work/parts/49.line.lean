/-! ===== LINES ===== -/
/-- the pence of line k behind the first i readings -/
def pkf (rl rp rk : Nat → Int32) (day : Int32) (k : Nat) (v : Int32) : Nat → Int32
  | 0 => v
  | i + 1 => if rl i = nI k ∧ ¬ day < rk i then rp i else pkf rl rp rk day k v i
def iv_L (w : pb_W) : Prop := ∃ n r, n ≤ 200 ∧ r ≤ 60 ∧ w.1 5 3 = nI n ∧ w.1 64 7 = nI n ∧ w.1 5 13 = nI r ∧ w.1 64 8 = nI r ∧ w.1 64 9 = w.1 5 18 ∧ w.1 64 10 = w.1 5 19
  ∧ (w.1 70 = w.1 8 ∧ w.1 71 = w.1 9 ∧ w.1 72 = w.1 10 ∧ w.1 74 = w.1 11 ∧ w.1 81 = w.1 12 ∧ w.1 75 = w.1 13 ∧ w.2 79 = w.2 14 ∧ w.1 73 = w.1 15 ∧ w.1 76 = w.1 17 ∧ w.1 77 = w.1 18 ∧ w.1 78 = w.1 19)
  ∧ (∀ k, k < n → (∃ c, c < 12 ∧ w.1 8 k = nI c) ∧ (∃ c, c < 520 ∧ w.1 9 k = nI c) ∧ (∃ c, c ≤ 9 ∧ w.1 10 k = nI c) ∧ (∃ c, c ≤ 7 ∧ w.1 11 k = nI c) ∧ (w.1 12 k = 0 ∨ w.1 12 k = 1) ∧ (∃ c, c ≤ 9999 ∧ w.1 13 k = nI c) ∧ (∃ c, 1 ≤ c ∧ c ≤ 20000 ∧ w.1 15 k = nI c))
  ∧ (∀ i, i < r → (∃ c, c < n ∧ w.1 17 i = nI c) ∧ (∃ c, 1 ≤ c ∧ c ≤ 20000 ∧ w.1 18 i = nI c) ∧ (∃ c, c ≤ 9999 ∧ w.1 19 i = nI c))
  ∧ (∀ k, k < n → w.1 16 k = pkf (w.1 17) (w.1 18) (w.1 19) (w.1 5 19) k (w.1 15 k) r)
  ∧ (∃ c, c ≤ 9999 ∧ w.1 5 18 = nI c) ∧ (∃ c, c ≤ 9999 ∧ w.1 5 19 = nI c)
theorem pkf_no {rl rp rk : Nat → Int32} {day : Int32} {k : Nat} {v : Int32} : ∀ r, (∀ i, i < r → rl i ≠ nI k) → pkf rl rp rk day k v r = v
  | 0, _ => rfl
  | i + 1, h => by
    rw [pkf, if_neg (fun q => h i (Nat.lt_succ_self i) q.1)]
    exact pkf_no i (fun j hj => h j (Nat.lt_succ_of_lt hj))
theorem m_line {a1 a2 a3 a4 a5 a6 a7 : Int32} {w : pb_W} (h : ¬ ln_bad (w.1 64 6) a1 a2 a3 a4 a6 a7) {n : Nat} (hn : n ≤ 200) (h7 : w.1 64 7 = nI n) : M_X12_line [.ref 64, .int a1, .int a2, .int a3, .int a4, .int a5, .int a6, .int a7] w = if n = 200 then some (some (.int (-1)), pb_wI w 64 0 4) else if a7 < w.1 64 9 then some (some (.int (-1)), pb_wI w 64 0 5) else if w.1 64 11 = 0 then some (some (.int (-1)), pb_wI w 64 0 6) else pb_run T_X12_line (187, [some (.ref 64), none, none, none, none, none, none, none, some (.int (0 : Int32))], [], (pb_wI (pb_wI (pb_wI (pb_wI (pb_wI (pb_wI (pb_wI (pb_wI w 64 9 a7) 70 n a1) 71 n a2) 72 n a3) 73 n a4) 81 n (vp_nar .boolean a5)) 74 n a6) 75 n a7)) := by
  rw [e_X12_line, M_isFamily, pb_bI_some, M_isWeek, pb_bI_some, M_isSum, pb_bI_some, M_isDay, pb_bI_some]
  simp only [q01, q10, ite_ref]
  unfold ln_bad at h
  have h1 : ¬ a1 < 0 ∧ a1 < w.1 64 6 := Classical.byContradiction fun q => h (Or.inl q)
  have h2 : ¬ (a2 < 0 ∨ 519 < a2) := fun q => h (Or.inr (Or.inl q))
  have h3 : ¬ (a3 < 0 ∨ 9 < a3) := fun q => h (Or.inr (Or.inr (Or.inl q)))
  have h4 : ¬ (a6 < 0 ∨ 7 < a6) := fun q => h (Or.inr (Or.inr (Or.inr (Or.inl q))))
  have h5 : ¬ (a4 < 1 ∨ 20000 < a4) := fun q => h (Or.inr (Or.inr (Or.inr (Or.inr (Or.inl q)))))
  have h6 : ¬ (a7 < 0 ∨ 9999 < a7) := fun q => h (Or.inr (Or.inr (Or.inr (Or.inr (Or.inr q)))))
  rw [if_neg (not_not_intro h1), if_neg h2, if_neg (fun q => h3 (Or.inl q)), if_neg (fun q => h3 (Or.inr q)), if_neg h5, if_neg (fun q => h4 (Or.inl q)), if_neg (fun q => h4 (Or.inr q)), if_neg h6, h7]
  by_cases e : n = 200
  · subst e
    rw [if_pos (show nI 200 = (200 : Int32) from rfl), if_pos rfl]
  · have i : pb_in (nI n) 200 := pn_in (by omega) (by decide)
    rw [if_neg (show ¬ nI n = (200 : Int32) from fun q => e ((nI_eq (b := 200) (by omega) (by decide)).mp q)), if_neg e, if_pos i, if_pos i, if_pos i, if_pos i, if_pos i, if_pos i, if_pos i, nI_clamp (by omega)]
theorem m_line_end {w : pb_W} {n : Nat} (hn : n < 200) (h7 : w.1 64 7 = nI n) : pb_run T_X12_line (187, [some (.ref 64), none, none, none, none, none, none, none, some (.int (0 : Int32))], [], w) = some (some (.int (nI n)), pb_wI (pb_wI (pb_wI (pb_wL (pb_wL (pb_wL w 79 (3 * n) (w.2 80 0)) 79 (3 * n + 1) (w.2 80 1)) 79 (3 * n + 2) (w.2 80 2)) 64 11 0) 64 7 (nI (n + 1))) 64 0 0) := by
  have st : ∀ (j : Nat) (v : pb_W), j < 3 → v.1 64 7 = nI n → pb_run T_X12_line (187, [some (.ref 64), none, none, none, none, none, none, none, some (.int (nI j))], [], v) = pb_run T_X12_line (187, [some (.ref 64), none, none, none, none, none, none, none, some (.int (nI (j + 1)))], [], pb_wL v 79 (3 * n + j) (v.2 80 j)) := by
    intro j v hj hv
    have e : (3 : Int32) * nI n + nI j = nI (3 * n + j) := by
      rw [show (3 : Int32) = nI 3 from rfl, pn_mul, ← nI_add]
    rw [r_X12_line_187, if_pos (show nI j < (3 : Int32) from nI_lt (b := 3) hj (by decide)), if_pos (pn_in hj (by decide)), hv, e, if_pos (pn_in (by omega) (by decide)), nI_1, nI_clamp (show 3 * n + j < 2 ^ 31 by omega), nI_clamp (show j < 2 ^ 31 by omega)]
  rw [show (0 : Int32) = nI 0 from rfl, st 0 w (by decide) h7, st 1 _ (by decide) (by simpa [pw_L1] using h7), st 2 _ (by decide) (by simpa [pw_L1] using h7), r_X12_line_187, if_neg (show ¬ nI (2 + 1) < (3 : Int32) by decide), e_X12_gives, pb_bI_some]
  show some (some (Value.int (w.1 64 7 + 1 - 1)), pb_wI (pb_wI (pb_wI (pb_wL (pb_wL (pb_wL w 79 (3 * n) (w.2 80 0)) 79 (3 * n + 1) (w.2 80 1)) 79 (3 * n + 2) (w.2 80 2)) 64 11 0) 64 7 (w.1 64 7 + 1)) 64 0 0) = _
  rw [h7, nI_1, nI_pred]
  rfl
/-- what a line writes, class side -/
def cw_line (w : pb_W) (n : Nat) (a1 a2 a3 a4 a5 a6 a7 : Int32) : pb_W := pb_wI (pb_wI (pb_wL (pb_wL (pb_wL (pb_wG (pb_wI (pb_wI (pb_wI (pb_wI (pb_wI (pb_wI (pb_wI (pb_wI w 8 n a1) 9 n a2) 10 n a3) 11 n a6) 12 n (vp_nar .boolean a5)) 13 n a7) 15 n a4) 16 n a4) 14 (va_cpy (w.2 20) (w.2 14) 0 (n * 3) 3)) 20 0 0) 20 1 0) 20 2 0) 5 18 a7) 5 3 (nI (n + 1))
theorem M_addLine {a1 a2 a3 a4 a5 a6 a7 : Int32} {w : pb_W} {n : Nat} (hn : n < 200) (h3 : w.1 5 3 = nI n) : M_X1_addLine [.ref 5, .int a1, .int a2, .int a3, .int a4, .int a5, .int a6, .int a7] w = some (some (.int (nI n)), cw_line w n a1 a2 a3 a4 a5 a6 a7) := by
  have i : pb_in (nI n) 200 := pn_in (by omega) (by decide)
  have em : nI n * (3 : Int32) = nI (n * 3) := pn_mul n 3
  have e0 : ((0 : Int32)).toInt = 0 := by decide
  have e3 : ((3 : Int32)).toInt = 3 := by decide
  have et : (nI (n * 3)).toInt = ((n * 3 : Nat) : Int) := nI_toInt (by omega)
  rw [e_X1_addLine, h3, if_pos i, if_pos i, if_pos i, if_pos i, if_pos i, if_pos i, if_pos i, if_pos i, em, if_pos (by rw [e0, e3, et]; omega), e_X1_tellWords, pb_bV_some, nI_clamp (show n < 2 ^ 31 by omega), nI_clamp (show n * 3 < 2 ^ 31 by omega)]
  unfold cw_line
  show some (some (Value.int (nI n)), pb_wI (pb_wI (pb_wL (pb_wL (pb_wL (pb_wG (pb_wI (pb_wI (pb_wI (pb_wI (pb_wI (pb_wI (pb_wI (pb_wI w 8 n a1) 9 n a2) 10 n a3) 11 n a6) 12 n (vp_nar .boolean a5)) 13 n a7) 15 n a4) 16 n a4) 14 (va_cpy (w.2 20) (w.2 14) 0 (n * 3) 3)) 20 0 0) 20 1 0) 20 2 0) 5 18 a7) 5 3 (w.1 5 3 + 1)) = _
  rw [h3, nI_1]
def mw_line (w : pb_W) (n : Nat) (a1 a2 a3 a4 a5 a6 a7 : Int32) : pb_W := pb_wI (pb_wI (pb_wI (pb_wL (pb_wL (pb_wL (pb_wI (pb_wI (pb_wI (pb_wI (pb_wI (pb_wI (pb_wI (pb_wI w 64 9 a7) 70 n a1) 71 n a2) 72 n a3) 73 n a4) 81 n (vp_nar .boolean a5)) 74 n a6) 75 n a7) 79 (3 * n) (w.2 80 0)) 79 (3 * n + 1) (w.2 80 1)) 79 (3 * n + 2) (w.2 80 2)) 64 11 0) 64 7 (nI (n + 1))) 64 0 0
theorem nar_b (a : Int32) : vp_nar .boolean a = 0 ∨ vp_nar .boolean a = 1 := by
  have e : vp_nar .boolean a = a &&& 1 := rfl
  obtain ⟨n, hn, rfl⟩ := wb_of32 a
  have e2 : nI n &&& 1 = nI (n % 2) := by
    apply Int32.toBitVec_inj.mp
    rw [Int32.toBitVec_and]
    show BitVec.ofNat 32 n &&& BitVec.ofNat 32 1 = BitVec.ofNat 32 (n % 2)
    apply BitVec.eq_of_toNat_eq
    rw [BitVec.toNat_and, BitVec.toNat_ofNat, BitVec.toNat_ofNat, BitVec.toNat_ofNat, Nat.mod_eq_of_lt hn, show 1 % 2 ^ 32 = 2 ^ 1 - 1 by decide, Nat.and_two_pow_sub_one_eq_mod, Nat.mod_eq_of_lt (show n % 2 < 2 ^ 32 by omega)]
  rw [e, e2]
  rcases Nat.mod_two_eq_zero_or_one n with h | h
  · rw [h]; exact Or.inl rfl
  · rw [h]; exact Or.inr rfl
