/-! ===== WORDS ===== -/
theorem ll_lt {a b : Nat} (ha : a < 2 ^ 63) (hb : b < 2 ^ 63) : lN a < lN b ↔ a < b := by
  rw [Int64.lt_iff_toInt_lt, pf_lI ha, pf_lI hb]
  omega
theorem ll_neg {a : Nat} (ha : ¬ a < 2 ^ 63) (h64 : a < 2 ^ 64) : (lN a).toInt < 0 := by
  show (BitVec.ofNat 64 a).toInt < 0
  rw [BitVec.toInt_eq_toNat_cond, BitVec.toNat_ofNat, Nat.mod_eq_of_lt h64, if_neg (by omega)]
  omega
theorem wd_lt : ∀ k m, wd k m = true → m < 2 ^ (5 * k) := by
  intro k
  induction k with
  | zero => intro m h; simp [wd] at h; simp [h]
  | succ k ih =>
    intro m h
    have e : (2 : Nat) ^ (5 * (k + 1)) = 32 * 2 ^ (5 * k) := by rw [show 5 * (k + 1) = 5 + 5 * k by omega, Nat.pow_add]
    have p : 0 < (2 : Nat) ^ (5 * k) := Nat.pow_pos (by decide)
    rw [e]
    simp only [wd, Bool.or_eq_true, Bool.and_eq_true, decide_eq_true_eq] at h
    rcases h with h | ⟨_, h⟩
    · omega
    · have := ih _ h
      omega
theorem mx_word (w : pb_W) : ∀ (k n : Nat), k ≤ 8 → n < 2 ^ (5 * k) → ∀ b : Bool, pb_run T_X12_isWord (20, [none, none, some (.int (if b = true then 1 else 0)), some (.long (lN n)), none], [], w) = some (some (.int (if (b && wd k n) = true then 1 else 0)), w) := by
  intro k
  induction k with
  | zero =>
    intro n hk hn b
    have h0 : n = 0 := by simp at hn; exact hn
    subst h0
    rw [r_X12_isWord_20, if_neg (show ¬ 0 < lg_cmp (lN 0) (0 : Int64) by decide)]
    cases b <;> rfl
  | succ k ih =>
    intro n hk hn b
    have e : (2 : Nat) ^ (5 * (k + 1)) = 32 * 2 ^ (5 * k) := by rw [show 5 * (k + 1) = 5 + 5 * k by omega, Nat.pow_add]
    have h40 : (2 : Nat) ^ (5 * (k + 1)) ≤ 2 ^ 40 := Nat.pow_le_pow_right (by decide) (by omega)
    have hdiv : n / 32 < 2 ^ (5 * k) := by rw [e] at hn; omega
    have e2 : lN n >>> (((5 : Int32)).toInt64 &&& 63) = lN (n / 32) := pf_shr (d := 5) (by decide) (by omega)
    have e1 : lN n &&& (31 : Int64) = lN (n % 32) := wb_mask (k := 5) (by omega) (by decide)
    rw [r_X12_isWord_20]
    by_cases h0 : n = 0
    · subst h0
      rw [if_neg (show ¬ 0 < lg_cmp (lN 0) (0 : Int64) by decide)]
      cases b <;> simp [wd]
    · have hp : 0 < lg_cmp (lN n) (0 : Int64) := (lg_gt _ _).mpr ((ll_lt (a := 0) (by decide) (by omega)).mpr (by omega))
      rw [if_pos hp, e2, e1]
      have i0 := ih (n / 32) (by omega) hdiv false
      have i1 := ih (n / 32) (by omega) hdiv true
      simp only [if_true, ite_true, if_false, ite_false, Bool.false_and, Bool.true_and, Bool.false_eq_true] at i0 i1
      rw [i0, i1]
      cases b
      · simp
      · rw [if_neg (show ¬ (if true = true then (1 : Int32) else 0) = 0 by decide)]
        have l1 : lg_cmp (lN (n % 32)) (1 : Int64) < 0 ↔ n % 32 < 1 := (lg_lt0 _ _).trans (ll_lt (b := 1) (by omega) (by decide))
        have l2 : 0 < lg_cmp (lN (n % 32)) (26 : Int64) ↔ 26 < n % 32 := (lg_gt _ _).trans (ll_lt (a := 26) (by decide) (by omega))
        by_cases c1 : n % 32 < 1
        · rw [if_pos (l1.mpr c1)]
          have : ¬ (1 ≤ n % 32 ∧ n % 32 ≤ 26) := by omega
          simp [wd, h0, this]
        · rw [if_neg (fun q => c1 (l1.mp q))]
          by_cases c2 : 26 < n % 32
          · rw [if_pos (l2.mpr c2)]
            have : ¬ (1 ≤ n % 32 ∧ n % 32 ≤ 26) := by omega
            simp [wd, h0, this]
          · rw [if_neg (fun q => c2 (l2.mp q))]
            have : 1 ≤ n % 32 ∧ n % 32 ≤ 26 := by omega
            simp [wd, h0, this]
theorem M_isWord (n : Nat) (h64 : n < 2 ^ 64) (w : pb_W) : M_X12_isWord [.long (lN n)] w = some (some (.int (if n ≠ 0 ∧ wd 8 n = true then 1 else 0)), w) := by
  rw [e_X12_isWord]
  have c1 : lg_cmp (lN n) (1 : Int64) < 0 ↔ (n = 0 ∨ 2 ^ 63 ≤ n) := by
    rw [lg_lt0]
    by_cases h : n < 2 ^ 63
    · exact (ll_lt (b := 1) h (by decide)).trans (by omega)
    · have := ll_neg h h64
      have o : (1 : Int64).toInt = 1 := by decide
      rw [Int64.lt_iff_toInt_lt, o]
      omega
  by_cases h : n = 0 ∨ 2 ^ 63 ≤ n
  · rw [if_pos (c1.mpr h), if_neg]
    rintro ⟨a, b⟩
    have := wd_lt 8 n b
    omega
  · rw [if_neg (fun q => h (c1.mp q))]
    have c2 : lg_cmp (lN n) (1099511627776 : Int64) < 0 ↔ n < 2 ^ 40 := (lg_lt0 _ _).trans (ll_lt (b := 1099511627776) (by omega) (by decide))
    by_cases h2 : n < 2 ^ 40
    · rw [if_pos (c2.mpr h2)]
      have := mx_word w 8 n (by decide) h2 true
      simp only [if_true, ite_true, Bool.true_and] at this
      rw [this]
      have n0 : n ≠ 0 := by omega
      simp [n0]
    · rw [if_neg (fun q => h2 (c2.mp q)), if_neg]
      rintro ⟨a, b⟩
      have := wd_lt 8 n b
      omega
theorem M_wordOrNone (n : Nat) (h64 : n < 2 ^ 64) (w : pb_W) : M_X1_wordOrNone [.long (lN n)] w = some (some (.int (if wd 8 n = true then 1 else 0)), w) := by
  rw [e_X1_wordOrNone]
  exact cx_word w 8 n (by decide) h64
def iv_W (w : pb_W) : Prop := (w.1 64 11 = 0 ∧ w.2 20 0 = 0) ∨ (w.1 64 11 = 1 ∧ w.2 20 0 ≠ 0 ∧ w.2 80 0 = w.2 20 0 ∧ w.2 80 1 = w.2 20 1 ∧ w.2 80 2 = w.2 20 2)
abbrev fI_W : Nat → Nat → Prop := fun c k => (c = 0 ∧ k = 0) ∨ (c = 64 ∧ k = 0) ∨ (c = 64 ∧ k = 11)
abbrev fJ_W : Nat → Nat → Prop := fun c k => c = 20 ∨ c = 80
theorem x_words (a1 a3 a5 : Int64) (w : pb_W) (hH : iv_H w) (hW : iv_W w) : ∃ x w1 w2, M_X11_words [.ref 0, .long a1, .long a3, .long a5] w = some (some (.int x), w1) ∧ M_X12_words [.ref 64, .long a1, .long a3, .long a5] w1 = some (some (.int x), w2) ∧ fr fI_W fJ_W w w2 ∧ iv_H w2 ∧ iv_W w2 := by
  obtain ⟨n1, l1, rfl⟩ := wb_of a1
  obtain ⟨n3, l3, rfl⟩ := wb_of a3
  obtain ⟨n5, l5, rfl⟩ := wb_of a5
  have z : ∀ n, n < 2 ^ 64 → (lg_cmp (lN n) (0 : Int64) = 0 ↔ n = 0) := fun n h => (lg_eq0 _ _).trans (lN_0 h)
  have k1 : ¬ (1 : Int32) = 0 := by decide
  by_cases ok : n1 ≠ 0 ∧ wd 8 n1 = true ∧ wd 8 n3 = true ∧ wd 8 n5 = true ∧ (n3 = 0 → n5 = 0)
  · obtain ⟨h1, w1, w3, w5, h35⟩ := ok
    refine ⟨1, pb_wL (pb_wL (pb_wL (pb_wI w 0 0 0) 20 0 (lN n1)) 20 1 (lN n3)) 20 2 (lN n5), pb_wI (pb_wI (pb_wL (pb_wL (pb_wL (pb_wL (pb_wL (pb_wL (pb_wI w 0 0 0) 20 0 (lN n1)) 20 1 (lN n3)) 20 2 (lN n5)) 80 0 (lN n1)) 80 1 (lN n3)) 80 2 (lN n5)) 64 11 1) 64 0 0, ?_, ?_, ?_, ?_, ?_⟩
    · have s : pb_run T_X11_words (24, [some (.ref 0), some (.long (lN n1)), none, some (.long (lN n3)), none, some (.long (lN n5)), none, none, none], [.int (0 : Int32)], w) = some (some (.int 1), pb_wL (pb_wL (pb_wL (pb_wI w 0 0 0) 20 0 (lN n1)) 20 1 (lN n3)) 20 2 (lN n5)) := by
        rw [r_X11_words_24, if_pos rfl, M_wordOrNone n1 l1, pb_bI_some, if_pos w1, if_neg k1, M_wordOrNone n3 l3, pb_bI_some, if_pos w3, if_neg k1, M_wordOrNone n5 l5, pb_bI_some, if_pos w5, if_neg k1, if_pos rfl, r_X11_words_71, if_pos rfl, e_X1_tellWords]
        rfl
      rw [e_X11_words, if_neg (fun q => h1 ((z n1 l1).mp q))]
      by_cases h3 : n3 = 0
      · rw [if_pos ((z n3 l3).mpr h3), if_pos ((z n5 l5).mpr (h35 h3)), s]
      · rw [if_neg (fun q => h3 ((z n3 l3).mp q)), s]
    · generalize pb_wL (pb_wL (pb_wL (pb_wI w 0 0 0) 20 0 (lN n1)) 20 1 (lN n3)) 20 2 (lN n5) = v
      have s54 : pb_run T_X12_words (54, [some (.ref 64), some (.long (lN n1)), none, some (.long (lN n3)), none, some (.long (lN n5)), none], [], v) = some (some (.int 1), pb_wI (pb_wI (pb_wL (pb_wL (pb_wL v 80 0 (lN n1)) 80 1 (lN n3)) 80 2 (lN n5)) 64 11 1) 64 0 0) := by
        rw [r_X12_words_54, e_X12_is, if_pos rfl, pb_bI_some, if_pos (Or.inr rfl)]
        rfl
      have s35 : pb_run T_X12_words (35, [some (.ref 64), some (.long (lN n1)), none, some (.long (lN n3)), none, some (.long (lN n5)), none], [], v) = some (some (.int 1), pb_wI (pb_wI (pb_wL (pb_wL (pb_wL v 80 0 (lN n1)) 80 1 (lN n3)) 80 2 (lN n5)) 64 11 1) 64 0 0) := by
        rw [r_X12_words_35, s54]
        by_cases h5 : n5 = 0
        · rw [if_pos ((z n5 l5).mpr h5)]
        · rw [if_neg (fun q => h5 ((z n5 l5).mp q)), if_neg (fun q => h5 (h35 ((z n3 l3).mp q)))]
      have s20 : pb_run T_X12_words (20, [some (.ref 64), some (.long (lN n1)), none, some (.long (lN n3)), none, some (.long (lN n5)), none], [], v) = some (some (.int 1), pb_wI (pb_wI (pb_wL (pb_wL (pb_wL v 80 0 (lN n1)) 80 1 (lN n3)) 80 2 (lN n5)) 64 11 1) 64 0 0) := by
        rw [r_X12_words_20, M_isWord n5 l5, pb_bI_some, s35]
        by_cases h5 : n5 = 0
        · rw [if_pos ((z n5 l5).mpr h5)]
        · rw [if_neg (fun q => h5 ((z n5 l5).mp q)), if_pos (show n5 ≠ 0 ∧ wd 8 n5 = true from ⟨h5, w5⟩), if_neg k1]
      rw [e_X12_words, M_isWord n1 l1, pb_bI_some, if_pos (show n1 ≠ 0 ∧ wd 8 n1 = true from ⟨h1, w1⟩), if_neg k1, M_isWord n3 l3, pb_bI_some, s20]
      by_cases h3 : n3 = 0
      · rw [if_pos ((z n3 l3).mpr h3)]
      · rw [if_neg (fun q => h3 ((z n3 l3).mp q)), if_pos (show n3 ≠ 0 ∧ wd 8 n3 = true from ⟨h3, w3⟩), if_neg k1]
    · exact fr_I (fr_I (fr_L (fr_L (fr_L (fr_L (fr_L (fr_L (fr_I (fr_rf w) (by simp [fI_W])) (by simp [fJ_W])) (by simp [fJ_W])) (by simp [fJ_W])) (by simp [fJ_W])) (by simp [fJ_W])) (by simp [fJ_W])) (by simp [fI_W])) (by simp [fI_W])
    · exact ⟨by simp [pw_I1, pw_L1, pu_at], by simpa [pw_I2, pw_L2] using hH.2.1, by simpa [pw_I2, pw_L2] using hH.2.2⟩
    · refine Or.inr ⟨by simp [pw_I1, pw_L1, pu_at], ?_, by simp [pw_I2, pw_L2, pu_atL], by simp [pw_I2, pw_L2, pu_atL], by simp [pw_I2, pw_L2, pu_atL]⟩
      have : ¬ lN n1 = 0 := fun q => h1 ((lN_0 l1).mp q)
      simpa [pw_I2, pw_L2, pu_atL] using this
  · refine ⟨0, pb_wI w 0 0 1, pb_wI (pb_wI w 0 0 1) 64 0 1, ?_, ?_, fr_I (fr_I (fr_rf w) (by simp [fI_W])) (by simp [fI_W]), ⟨by simp [pw_I1, pu_at], by simpa [pw_I2] using hH.2.1, by simpa [pw_I2] using hH.2.2⟩, ?_⟩
    · have s71 : pb_run T_X11_words (71, [some (.ref 0), some (.long (lN n1)), none, some (.long (lN n3)), none, some (.long (lN n5)), none, none, none], [.int (1 : Int32), .ref 0], w) = some (some (.int 0), pb_wI w 0 0 1) := by
        rw [r_X11_words_71, if_neg k1, if_neg k1]
      have s1 : pb_run T_X11_words (24, [some (.ref 0), some (.long (lN n1)), none, some (.long (lN n3)), none, some (.long (lN n5)), none, none, none], [.int (1 : Int32)], w) = some (some (.int 0), pb_wI w 0 0 1) := by
        rw [r_X11_words_24, if_neg k1, if_neg k1, s71]
      have s0 : ¬ (wd 8 n1 = true ∧ wd 8 n3 = true ∧ wd 8 n5 = true) → pb_run T_X11_words (24, [some (.ref 0), some (.long (lN n1)), none, some (.long (lN n3)), none, some (.long (lN n5)), none, none, none], [.int (0 : Int32)], w) = some (some (.int 0), pb_wI w 0 0 1) := by
        intro hh
        rw [r_X11_words_24, if_pos rfl, M_wordOrNone n1 l1, pb_bI_some]
        by_cases b1 : wd 8 n1 = true
        · rw [if_pos b1, if_neg k1, M_wordOrNone n3 l3, pb_bI_some]
          by_cases b3 : wd 8 n3 = true
          · rw [if_pos b3, if_neg k1, M_wordOrNone n5 l5, pb_bI_some, if_neg (fun b5 => hh ⟨b1, b3, b5⟩), if_pos rfl, if_neg k1, s71]
          · rw [if_neg b3, if_pos rfl, if_neg k1, s71]
        · rw [if_neg b1, if_pos rfl, if_neg k1, s71]
      rw [e_X11_words]
      by_cases h1 : n1 = 0
      · rw [if_pos ((z n1 l1).mpr h1), s1]
      · rw [if_neg (fun q => h1 ((z n1 l1).mp q))]
        by_cases h3 : n3 = 0
        · rw [if_pos ((z n3 l3).mpr h3)]
          by_cases h5 : n5 = 0
          · rw [if_pos ((z n5 l5).mpr h5), s0 (fun ⟨p, q, r⟩ => ok ⟨h1, p, q, r, fun _ => h5⟩)]
          · rw [if_neg (fun q => h5 ((z n5 l5).mp q)), s1]
        · rw [if_neg (fun q => h3 ((z n3 l3).mp q)), s0 (fun ⟨p, q, r⟩ => ok ⟨h1, p, q, r, fun q => absurd q h3⟩)]
    · generalize pb_wI w 0 0 1 = v
      have i0 : (pb_bI (M_X12_is [.ref 64, .int (1 : Int32)] v) fun x4 w3 => (if x4 = 0 ∨ x4 = 1 then (some (some (Value.int x4), w3)) else none)) = some (some (.int 0), pb_wI v 64 0 1) := by
        rw [e_X12_is, if_neg k1, pb_bI_some, if_pos (Or.inl rfl)]
      have s20 : ¬ (wd 8 n5 = true ∧ (n3 = 0 → n5 = 0)) → pb_run T_X12_words (20, [some (.ref 64), some (.long (lN n1)), none, some (.long (lN n3)), none, some (.long (lN n5)), none], [], v) = some (some (.int 0), pb_wI v 64 0 1) := by
        intro hh
        have h5 : n5 ≠ 0 := fun q => hh ⟨by rw [q]; rfl, fun _ => q⟩
        rw [r_X12_words_20, if_neg (fun q => h5 ((z n5 l5).mp q)), M_isWord n5 l5, pb_bI_some]
        by_cases b5 : wd 8 n5 = true
        · have h3 : n3 = 0 := by
            by_cases h3 : n3 = 0
            · exact h3
            · exact absurd ⟨b5, fun q => absurd q h3⟩ hh
          rw [if_pos (show n5 ≠ 0 ∧ wd 8 n5 = true from ⟨h5, b5⟩), if_neg k1, r_X12_words_35, if_neg (fun q => h5 ((z n5 l5).mp q)), if_pos ((z n3 l3).mpr h3), i0]
        · rw [if_neg (show ¬ (n5 ≠ 0 ∧ wd 8 n5 = true) from fun q => b5 q.2), if_pos rfl, i0]
      rw [e_X12_words, M_isWord n1 l1, pb_bI_some]
      by_cases b1 : n1 ≠ 0 ∧ wd 8 n1 = true
      · rw [if_pos b1, if_neg k1, M_isWord n3 l3, pb_bI_some]
        by_cases h3 : n3 = 0
        · rw [if_pos ((z n3 l3).mpr h3), s20 (fun ⟨p, q⟩ => ok ⟨b1.1, b1.2, by rw [h3]; rfl, p, q⟩)]
        · rw [if_neg (fun q => h3 ((z n3 l3).mp q))]
          by_cases b3 : wd 8 n3 = true
          · rw [if_pos (show n3 ≠ 0 ∧ wd 8 n3 = true from ⟨h3, b3⟩), if_neg k1, s20 (fun ⟨p, q⟩ => ok ⟨b1.1, b1.2, b3, p, q⟩)]
          · rw [if_neg (show ¬ (n3 ≠ 0 ∧ wd 8 n3 = true) from fun q => b3 q.2), if_pos rfl, i0]
      · rw [if_neg b1, if_pos rfl, i0]
    · rcases hW with ⟨a, b⟩ | ⟨a, b, c, d, e⟩
      · exact Or.inl ⟨by simpa [pw_I1, pu_at] using a, b⟩
      · exact Or.inr ⟨by simpa [pw_I1, pu_at] using a, b, c, d, e⟩
