/-! ===== FAMILIES, WORDS ===== -/
def iv_F (w : pb_W) : Prop := ∃ n, n ≤ 12 ∧ w.1 5 0 = nI n ∧ w.1 64 6 = nI n ∧ w.1 68 = w.1 6 ∧ w.1 69 = w.1 7 ∧ ∀ k, k < n → (∃ c, c ≤ 3 ∧ w.1 6 k = nI c) ∧ ∃ c, c ≤ 3 ∧ w.1 7 k = nI c
abbrev fI_F : Nat → Nat → Prop := fun c k => (c = 0 ∧ k = 0) ∨ (c = 64 ∧ k = 0) ∨ (c = 5 ∧ k = 0) ∨ (c = 64 ∧ k = 6) ∨ c = 6 ∨ c = 7 ∨ c = 68 ∨ c = 69
theorem M_isQuarter (a : Int32) (w : pb_W) : M_X12_isQuarter [.int a] w = some (some (.int (if a < 0 ∨ 3 < a then 0 else 1)), w) := by
  rw [e_X12_isQuarter]
  by_cases h1 : a < 0
  · simp [h1]
  · by_cases h2 : 3 < a <;> simp [h1, h2]
theorem pu_cong {f g : Nat → Int32} (h : f = g) (k : Nat) (v : Int32) : upd f k v = upd g k v := by rw [h]
theorem x_family (a1 a2 : Int32) (w : pb_W) (hH : iv_H w) (hF : iv_F w) : ∃ x w1 w2, M_X11_family [.ref 0, .int a1, .int a2] w = some (some (.int x), w1) ∧ M_X12_family [.ref 64, .int a1, .int a2] w1 = some (some (.int x), w2) ∧ fr fI_F fJ_no w w2 ∧ iv_H w2 ∧ iv_F w2 := by
  obtain ⟨n, hn, h5, h6, g1, g2, g3⟩ := hF
  have refuse : ∀ v : Int32, v ≠ 0 → (fr fI_F fJ_no w (pb_wI (pb_wI w 0 0 v) 64 0 v) ∧ iv_H (pb_wI (pb_wI w 0 0 v) 64 0 v) ∧ iv_F (pb_wI (pb_wI w 0 0 v) 64 0 v)) := by
    intro v hv
    refine ⟨fr_I (fr_I (fr_rf w) (by simp [fI_F])) (by simp [fI_F]), ⟨by simp [pw_I1, pu_at], by simpa [pw_I2] using hH.2.1, by simpa [pw_I2] using hH.2.2⟩, n, hn, ?_, ?_, g1, g2, g3⟩
    · simpa [pw_I1, pu_at] using h5
    · simpa [pw_I1, pu_at] using h6
  have n1 : ¬ (1 : Int32) = 0 := by decide
  have n4 : ¬ (4 : Int32) = 0 := by decide
  by_cases h1 : a1 < 0 ∨ 3 < a1
  · refine ⟨-1, pb_wI w 0 0 1, pb_wI (pb_wI w 0 0 1) 64 0 1, ?_, ?_, refuse 1 n1⟩
    · rw [e_X11_family, M_outside, pb_bI_some, if_pos h1, if_neg n1, r_X11_family_18, if_neg n1]
    · rw [e_X12_family, M_isQuarter, pb_bI_some, if_pos h1, if_pos rfl, e_X12_refuse, pb_bI_some]
  · by_cases h2 : a2 < 0 ∨ 3 < a2
    · refine ⟨-1, pb_wI w 0 0 1, pb_wI (pb_wI w 0 0 1) 64 0 1, ?_, ?_, refuse 1 n1⟩
      · rw [e_X11_family, M_outside, pb_bI_some, if_neg h1, if_pos rfl, M_outside, pb_bI_some, if_pos h2, if_neg n1, r_X11_family_18, if_neg n1]
      · rw [e_X12_family, M_isQuarter, pb_bI_some, if_neg h1, if_neg n1, M_isQuarter, pb_bI_some, if_pos h2, if_pos rfl, e_X12_refuse, pb_bI_some]
    · obtain ⟨c1, hc1, rfl⟩ := px_in h1
      obtain ⟨c2, hc2, rfl⟩ := px_in h2
      by_cases h12 : n = 12
      · subst h12
        refine ⟨-1, pb_wI w 0 0 4, pb_wI (pb_wI w 0 0 4) 64 0 4, ?_, ?_, refuse 4 n4⟩
        · rw [e_X11_family, M_outside, pb_bI_some, if_neg h1, if_pos rfl, M_outside, pb_bI_some, if_neg h2, if_pos rfl, h5, if_neg (show ¬ nI 12 < (12 : Int32) by decide), r_X11_family_44, if_neg n4]
        · have e : (pb_wI w 0 0 (4 : Int32)).1 64 6 = (12 : Int32) := h6
          rw [e_X12_family, M_isQuarter, pb_bI_some, if_neg h1, if_neg n1, M_isQuarter, pb_bI_some, if_neg h2, if_neg n1, if_pos e, e_X12_refuse, pb_bI_some]
      · have hlt : n < 12 := by omega
        have i12 : pb_in (nI n) 12 := pn_in hlt (by decide)
        have ea : nI n + (1 : Int32) - (1 : Int32) = nI n := by rw [nI_1, nI_pred]
        refine ⟨nI n, pb_wI (pb_wI (pb_wI (pb_wI w 0 0 0) 6 n (nI c1)) 7 n (nI c2)) 5 0 (nI (n + 1)), pb_wI (pb_wI (pb_wI (pb_wI (pb_wI (pb_wI (pb_wI (pb_wI w 0 0 0) 6 n (nI c1)) 7 n (nI c2)) 5 0 (nI (n + 1))) 68 n (nI c1)) 69 n (nI c2)) 64 6 (nI (n + 1))) 64 0 0, ?_, ?_, ?_, ?_, ?_⟩
        · have e5 : (pb_wI w 0 0 (0 : Int32)).1 5 0 = nI n := h5
          rw [e_X11_family, M_outside, pb_bI_some, if_neg h1, if_pos rfl, M_outside, pb_bI_some, if_neg h2, if_pos rfl, h5, if_pos (show nI n < (12 : Int32) from nI_lt (b := 12) hlt (by decide)), r_X11_family_44, if_pos rfl, e_X1_addFamily, e5, if_pos i12, if_pos i12, pb_bI_some, ea, nI_1, nI_clamp (by omega)]
        · have e6 : (pb_wI (pb_wI (pb_wI (pb_wI w 0 0 0) 6 n (nI c1)) 7 n (nI c2)) 5 0 (nI (n + 1))).1 64 6 = nI n := h6
          rw [e_X12_family, M_isQuarter, pb_bI_some, if_neg h1, if_neg n1, M_isQuarter, pb_bI_some, if_neg h2, if_neg n1, e6, if_neg (show ¬ nI n = (12 : Int32) from fun q => h12 ((nI_eq (b := 12) (by omega) (by decide)).mp q)), if_pos i12, if_pos i12, e_X12_gives, pb_bI_some, ea, nI_1, nI_clamp (by omega)]
        · exact fr_I (fr_I (fr_I (fr_I (fr_I (fr_I (fr_I (fr_I (fr_rf w) (by simp [fI_F])) (by simp [fI_F])) (by simp [fI_F])) (by simp [fI_F])) (by simp [fI_F])) (by simp [fI_F])) (by simp [fI_F])) (by simp [fI_F])
        · exact ⟨by simp [pw_I1, pu_at], by simpa [pw_I2] using hH.2.1, by simpa [pw_I2] using hH.2.2⟩
        · refine ⟨n + 1, by omega, by simp [pw_I1, pu_at], by simp [pw_I1, pu_at], ?_, ?_, fun k hk => ?_⟩
          · simp [pw_I1, g1]
          · simp [pw_I1, g2]
          · simp only [pw_I1]
            simp only [show ¬ (6 : Nat) = 64 by decide, show ¬ (6 : Nat) = 69 by decide, show ¬ (6 : Nat) = 68 by decide, show ¬ (6 : Nat) = 5 by decide, show ¬ (6 : Nat) = 7 by decide, show ¬ (7 : Nat) = 64 by decide, show ¬ (7 : Nat) = 69 by decide, show ¬ (7 : Nat) = 68 by decide, show ¬ (7 : Nat) = 5 by decide, show ¬ (7 : Nat) = 6 by decide, show ¬ (6 : Nat) = 0 by decide, show ¬ (7 : Nat) = 0 by decide, if_false, ite_false, if_true, ite_true, pu_at]
            by_cases hkn : k = n
            · simp only [hkn, if_true, ite_true]
              exact ⟨⟨c1, by omega, rfl⟩, c2, by omega, rfl⟩
            · simp only [hkn, if_false, ite_false]
              exact g3 k (by omega)
/-! words as numbers: at most k letters -/
def wd : Nat → Nat → Bool
  | 0, m => decide (m = 0)
  | k + 1, m => decide (m = 0) || (decide (1 ≤ m % 32 ∧ m % 32 ≤ 26) && wd k (m / 32))
theorem lg_eq0 (x y : Int64) : lg_cmp x y = 0 ↔ x = y := by
  unfold lg_cmp
  by_cases h1 : x > y
  · rw [if_pos h1]
    exact ⟨fun q => absurd q (by decide), fun q => absurd h1 (by rw [q]; exact Int64.lt_irrefl)⟩
  · rw [if_neg h1]
    by_cases h2 : x = y
    · simp [h2]
    · simp [h2]
theorem lg_lt0 (x y : Int64) : lg_cmp x y < 0 ↔ x < y := by
  unfold lg_cmp
  by_cases h1 : x > y
  · rw [if_pos h1]
    refine ⟨fun q => absurd q (by decide), fun q => ?_⟩
    have a := Int64.lt_iff_toInt_lt.mp q
    have b := Int64.lt_iff_toInt_lt.mp (show y < x from h1)
    omega
  · rw [if_neg h1]
    by_cases h2 : x = y
    · rw [if_pos h2, h2]
      exact ⟨fun q => absurd q (by decide), fun q => absurd q (by rw [Int64.lt_iff_toInt_lt]; omega)⟩
    · rw [if_neg h2]
      refine ⟨fun _ => ?_, fun _ => by decide⟩
      rw [Int64.lt_iff_toInt_lt]
      have b : ¬ y.toInt < x.toInt := fun q => h1 (Int64.lt_iff_toInt_lt.mpr q)
      have c : x.toInt ≠ y.toInt := fun q => h2 (Int64.toInt_inj.mp q)
      omega
theorem lN_0 {m : Nat} (h : m < 2 ^ 64) : lN m = 0 ↔ m = 0 := by
  constructor
  · intro q
    have e : (lN m).toBitVec.toNat = (0 : Int64).toBitVec.toNat := by rw [q]
    rw [wb_tn h] at e
    exact e
  · rintro rfl
    rfl
theorem cx_word (w : pb_W) : ∀ (k m : Nat), k ≤ 8 → m < 2 ^ 64 → pb_run T_X1_wordOrNone (5, [none, none, some (.long (lN m)), none, some (.int (nI (8 - k)))], [], w) = some (some (.int (if wd k m = true then 1 else 0)), w) := by
  intro k
  induction k with
  | zero =>
    intro m hk hm
    rw [r_X1_wordOrNone_5, if_neg (show ¬ nI (8 - 0) < (8 : Int32) by decide)]
    by_cases h0 : m = 0
    · rw [if_pos ((lg_eq0 _ _).mpr ((lN_0 hm).mpr h0))]
      simp [wd, h0]
    · rw [if_neg (fun q => h0 ((lN_0 hm).mp ((lg_eq0 _ _).mp q)))]
      simp [wd, h0]
  | succ k ih =>
    intro m hk hm
    rw [r_X1_wordOrNone_5, if_pos (show nI (8 - (k + 1)) < (8 : Int32) from nI_lt (b := 8) (by omega) (by decide))]
    by_cases h0 : m = 0
    · rw [if_pos ((lg_eq0 _ _).mpr ((lN_0 hm).mpr h0)), if_pos ((lg_eq0 _ _).mpr ((lN_0 hm).mpr h0))]
      simp [wd, h0]
    · rw [if_neg (fun q => h0 ((lN_0 hm).mp ((lg_eq0 _ _).mp q)))]
      have e1 : (lN m &&& (31 : Int64)).toInt32 = nI (m % 32) := by
        have : lN m &&& (31 : Int64) = lN (m % 2 ^ 5) := wb_mask (k := 5) hm (by decide)
        rw [this]
        exact lN_i _
      have e2 : ((lN m).toUInt64 >>> ((5 : Int32).toInt64.toUInt64 &&& Int64.toUInt64 63)).toInt64 = lN (m / 32) := wb_shr (k := 5) hm (by decide)
      have e3 : nI (8 - (k + 1)) + (1 : Int32) = nI (8 - k) := by rw [nI_1]; congr 1; omega
      rw [e1, e2, e3, M_outside, pb_bI_some]
      have l1 : nI (m % 32) < (1 : Int32) ↔ m % 32 < 1 := nI_ltI (b := 1) (by omega) (by decide)
      have l2 : (26 : Int32) < nI (m % 32) ↔ 26 < m % 32 := nI_ltI (a := 26) (by decide) (by omega)
      rw [ih (m / 32) (by omega) (by omega)]
      by_cases hv : 1 ≤ m % 32 ∧ m % 32 ≤ 26
      · have : ¬ (nI (m % 32) < (1 : Int32) ∨ (26 : Int32) < nI (m % 32)) := by rw [l1, l2]; omega
        rw [if_neg this, if_pos rfl]
        simp [wd, h0, hv]
      · have : nI (m % 32) < (1 : Int32) ∨ (26 : Int32) < nI (m % 32) := by rw [l1, l2]; omega
        rw [if_pos this, if_neg (by decide)]
        simp only [wd, h0, hv, decide_false, Bool.false_and, Bool.or_false]
        rfl
