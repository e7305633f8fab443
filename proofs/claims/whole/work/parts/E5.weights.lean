/-! ===== WEIGHTS: the agreement ===== -/
def okM (x : Int64) : Prop := ¬ lg_cmp x 0 < 0 ∧ ¬ 0 < lg_cmp x 100
theorem okM_n {x : Int64} (h : okM x) : ∃ k, k ≤ 100 ∧ x = lN k := by
  have h1 : ¬ x.toInt < 0 := fun z => h.1 ((lg_lt0 x 0).mpr (Int64.lt_iff_toInt_lt.mpr (by rw [show (0 : Int64).toInt = 0 from rfl]; exact z)))
  have h2 : ¬ 100 < x.toInt := fun z => h.2 ((lg_gt x 100).mpr (Int64.lt_iff_toInt_lt.mpr (by rw [show (100 : Int64).toInt = 100 from rfl]; exact z)))
  exact ⟨x.toInt.toNat, by omega, i64_nat (by omega)⟩
theorem M_trAt {t k : Nat} (ht : t < 4) (hk : k < 60) (v : pb_W) : M_X8_at [.ref 1, .int (nI t), .int (nI k)] v = some (some (.long (v.2 2 (60 * t + k))), v) := by
  rw [e_X8_at, show nI t * (60 : Int32) + nI k = nI (60 * t + k) by rw [show (60 : Int32) = nI 60 from rfl, pn_mul, nI_add, Nat.mul_comm], if_pos (pn_in (show 60 * t + k < 240 by omega) (by decide)), nI_clamp (by omega)]
theorem cx_tm {t : Nat} (ht : t < 4) {mN : Nat → Nat} : ∀ r i v, i + r = 8 → (∀ k, k < 8 → v.2 2 (60 * t + k) = lN (mN k) ∧ mN k ≤ 100) → (∀ j, j < i → v.1 59 j = nI (mN j)) → ∃ v', pb_run T_X10_takeMargins_1 (2, [some (.ref 57), some (.ref 1), some (.int (nI t)), some (.int (nI i)), none, none], [], v) = some (some (.int 1), v') ∧ (∀ j, j < 8 → v'.1 59 j = nI (mN j)) ∧ fr (fun c _ => c = 59) fJ_no v v' := by
  intro r
  induction r with
  | zero =>
    intro i v hi h h59
    have hi : i = 8 := by omega
    subst hi
    refine ⟨v, ?_, h59, fr_rf v⟩
    rw [r_X10_takeMargins_1_2, if_neg (show ¬ nI 8 < (8 : Int32) by decide)]
  | succ r ih =>
    intro i v hi h h59
    obtain ⟨h1, h2⟩ := h i (by omega)
    rw [r_X10_takeMargins_1_2, if_pos (show nI i < (8 : Int32) from nI_lt (b := 8) (by omega) (by decide)), M_trAt ht (by omega), pb_bL_some, h1, if_neg (show ¬ lg_cmp (lN (mN i)) 0 < 0 from fun z => by have := (pk_lLT (b := 0) (by omega) (by decide)).mp ((lg_lt0 _ _).mp z); omega), if_neg (show ¬ 0 < lg_cmp (lN (mN i)) 100 from fun z => by have := (pk_lLT (a := 100) (by decide) (by omega)).mp ((lg_gt _ _).mp z); omega), if_pos (pn_in (show i < 8 by omega) (by decide)), nI_clamp (show i < 2 ^ 31 by omega), lN_to32 (by omega), nI_1]
    obtain ⟨v', a1, a2, a3⟩ := ih (i + 1) (pb_wI v 59 i (nI (mN i))) (by omega) h (fun j hj => by
      show upd (v.1 59) i _ j = _
      rw [pu_at]
      by_cases z : j = i
      · rw [if_pos z, z]
      · rw [if_neg z]; exact h59 j (by omega))
    exact ⟨v', a1, a2, fr_tr (fr_I (fr_rf v) rfl) a3⟩
theorem cx_tm_bad {t : Nat} (ht : t < 4) : ∀ r i v, i + r = 8 → (∃ k, i ≤ k ∧ k < 8 ∧ ¬ okM (v.2 2 (60 * t + k))) → ∃ v', pb_run T_X10_takeMargins_1 (2, [some (.ref 57), some (.ref 1), some (.int (nI t)), some (.int (nI i)), none, none], [], v) = some (some (.int 0), v') ∧ fr (fun c _ => c = 59) fJ_no v v' := by
  intro r
  induction r with
  | zero =>
    intro i v hi h
    obtain ⟨k, h1, h2, -⟩ := h
    omega
  | succ r ih =>
    intro i v hi h
    rw [r_X10_takeMargins_1_2, if_pos (show nI i < (8 : Int32) from nI_lt (b := 8) (by omega) (by decide)), M_trAt ht (by omega), pb_bL_some]
    by_cases q1 : lg_cmp (v.2 2 (60 * t + i)) 0 < 0
    · rw [if_pos q1]
      exact ⟨v, rfl, fr_rf v⟩
    · rw [if_neg q1]
      by_cases q2 : 0 < lg_cmp (v.2 2 (60 * t + i)) 100
      · rw [if_pos q2]
        exact ⟨v, rfl, fr_rf v⟩
      · rw [if_neg q2, if_pos (pn_in (show i < 8 by omega) (by decide)), nI_clamp (show i < 2 ^ 31 by omega), nI_1]
        obtain ⟨k, h1, h2, h3⟩ := h
        obtain ⟨v', a1, a2⟩ := ih (i + 1) (pb_wI v 59 i ((v.2 2 (60 * t + i)).toInt32)) (by omega) ⟨k, by
          by_cases z : k = i
          · rw [z] at h3
            exact absurd ⟨q1, q2⟩ h3
          · omega, h2, h3⟩
        exact ⟨v', a1, fr_tr (fr_I (fr_rf v) rfl) a2⟩
theorem mx_78 {t : Nat} (ht : t < 4) (a1 a2 : Int32) {v : pb_W} : ∀ r i, i + r = 8 → (∀ k, k < 8 → okM (v.2 67 (60 * t + k))) → pb_run T_X12_weights (78, [some (.ref 64), some (.int a1), some (.int a2), some (.int (nI t)), some (.int (nI i)), none, none, none, none, none], [], v) = pb_run T_X12_weights (139, [some (.ref 64), some (.int a1), some (.int a2), some (.int (nI t)), some (.int (1 : Int32)), some (.int (0 : Int32)), none, none, none, none], [], v) := by
  intro r
  induction r with
  | zero =>
    intro i hi h
    have hi : i = 8 := by omega
    subst hi
    rw [r_X12_weights_78, if_neg (show ¬ nI 8 < (8 : Int32) by decide)]
  | succ r ih =>
    intro i hi h
    have ix : (60 : Int32) * nI t + nI i = nI (60 * t + i) := by rw [show (60 : Int32) = nI 60 from rfl, pn_mul, nI_add]
    have i2 : pb_in (nI (60 * t + i)) 240 := pn_in (by omega) (by decide)
    obtain ⟨o1, o2⟩ := h i (by omega)
    rw [r_X12_weights_78, if_pos (show nI i < (8 : Int32) from nI_lt (b := 8) (by omega) (by decide)), ix, if_pos i2, if_pos i2, nI_clamp (show 60 * t + i < 2 ^ 31 by omega), if_neg o1, if_neg o2, nI_1]
    exact ih (i + 1) (by omega) h
theorem mx_78_bad {t : Nat} (ht : t < 4) (a1 a2 : Int32) {v : pb_W} : ∀ r i, i + r = 8 → (∃ k, i ≤ k ∧ k < 8 ∧ ¬ okM (v.2 67 (60 * t + k))) → pb_run T_X12_weights (78, [some (.ref 64), some (.int a1), some (.int a2), some (.int (nI t)), some (.int (nI i)), none, none, none, none, none], [], v) = some (some (.int (-1)), pb_wI v 64 0 1) := by
  intro r
  induction r with
  | zero =>
    intro i hi h
    obtain ⟨k, h1, h2, -⟩ := h
    omega
  | succ r ih =>
    intro i hi h
    have ix : (60 : Int32) * nI t + nI i = nI (60 * t + i) := by rw [show (60 : Int32) = nI 60 from rfl, pn_mul, nI_add]
    have i2 : pb_in (nI (60 * t + i)) 240 := pn_in (by omega) (by decide)
    rw [r_X12_weights_78, if_pos (show nI i < (8 : Int32) from nI_lt (b := 8) (by omega) (by decide)), ix, if_pos i2, if_pos i2, nI_clamp (show 60 * t + i < 2 ^ 31 by omega), ite_ref]
    by_cases q1 : lg_cmp (v.2 67 (60 * t + i)) 0 < 0
    · rw [if_pos q1]
    · rw [if_neg q1]
      by_cases q2 : 0 < lg_cmp (v.2 67 (60 * t + i)) 100
      · rw [if_pos q2]
      · rw [if_neg q2, nI_1]
        obtain ⟨k, h1, h2, h3⟩ := h
        exact ih (i + 1) (by omega) ⟨k, by
          by_cases z : k = i
          · rw [z] at h3
            exact absurd ⟨q1, q2⟩ h3
          · omega, h2, h3⟩
theorem pow5 {M n : Nat} (hM : M ≤ 4) (hn : n ≤ 8) : (M + 1) ^ n < 2 ^ 30 := by
  have h1 : (M + 1) ^ n ≤ 5 ^ n := Nat.pow_le_pow_left (by omega) n
  have h2 : 5 ^ n ≤ 5 ^ 8 := Nat.pow_le_pow_right (by decide) hn
  have h3 : (5 : Nat) ^ 8 < 2 ^ 30 := by decide
  omega
theorem mx_139 {n M : Nat} (hn : n ≤ 8) (hM : M ≤ 4) (a3 : Int32) {v : pb_W} : ∀ r i, i + r = n → pb_run T_X12_weights (139, [some (.ref 64), some (.int (nI n)), some (.int (nI M)), some (.int a3), some (.int (nI ((M + 1) ^ i))), some (.int (nI i)), none, none, none, none], [], v) = pb_run T_X12_weights (165, [some (.ref 64), some (.int (nI n)), some (.int (nI M)), some (.int a3), some (.int (nI ((M + 1) ^ n))), some (.int (-1 : Int32)), some (.int (0 : Int32)), none, none, none], [], v) := by
  intro r
  induction r with
  | zero =>
    intro i hi
    rw [r_X12_weights_139, if_neg (show ¬ nI i < nI n from nI_nlt (by omega) (by omega)), show i = n by omega]
  | succ r ih =>
    intro i hi
    have ih := ih (i + 1) (by omega)
    rw [Nat.pow_succ] at ih
    rw [r_X12_weights_139, if_pos (show nI i < nI n from nI_lt (by omega) (by omega)), nI_1, pn_mul, nI_1]
    exact ih
abbrev fI_WT : Nat → Nat → Prop := fun c k => (c = 0 ∧ k = 0) ∨ (c = 64 ∧ k = 0) ∨ (c = 57 ∧ k = 1) ∨ c = 58 ∨ c = 59 ∨ c = 60 ∨ (c = 64 ∧ k = 97) ∨ c = 125 ∨ c = 126 ∨ c = 127
theorem x_weights (a1 a2 a3 : Int32) (w : pb_W) (hH : iv_H w) (hT : iv_T w) (hF : iv_F w) (hG : iv_G w) : ∃ x w1 w2, M_X11_weights [.ref 0, .int a1, .int a2, .int a3] w = some (some (.int x), w1) ∧ M_X12_weights [.ref 64, .int a1, .int a2, .int a3] w1 = some (some (.int x), w2) ∧ fr fI_WT fJ_no w w2 ∧ iv_H w2 ∧ iv_G w2 := by
  obtain ⟨nF, hf, f5, f6, g68, g69, gk⟩ := hF
  obtain ⟨t67, t65, t66, tk⟩ := hT
  have C := e_X11_weights a1 a2 a3 w
  rw [M_outside, pb_bI_some, M_outside, pb_bI_some, f5] at C
  have R : ∀ v : pb_W, v.1 64 6 = nI nF → v.1 66 = w.1 4 → M_X12_weights [.ref 64, .int a1, .int a2, .int a3] v = if a1 < 1 ∨ 8 < a1 then some (some (.int (-1)), pb_wI v 64 0 1) else if nI nF < a1 then some (some (.int (-1)), pb_wI v 64 0 1) else if a2 < 1 ∨ 4 < a2 then some (some (.int (-1)), pb_wI v 64 0 1) else if a3 < 0 ∨ ¬ a3 < 4 then some (some (.int (-1)), pb_wI v 64 0 1) else if pb_in a3 4 then (if w.1 4 a3.toNatClampNeg = (-1 : Int32) then some (some (.int (-1)), pb_wI v 64 0 2) else if pb_in a3 4 then (if w.1 4 a3.toNatClampNeg < (8 : Int32) then some (some (.int (-1)), pb_wI v 64 0 3) else (pb_run T_X12_weights (78, [some (.ref 64), some (.int a1), some (.int a2), some (.int a3), some (.int (0 : Int32)), none, none, none, none, none], [], v))) else none) else none := by
    intro v v6 v66
    have o2 : ∀ (P Q : Prop) [Decidable P] [Decidable Q] (x y : Option pb_R), (if P then x else if Q then x else y) = if P ∨ Q then x else y := by
      intro P Q _ _ x y
      by_cases p : P
      · rw [if_pos p, if_pos (Or.inl p)]
      · rw [if_neg p]
        by_cases q : Q
        · rw [if_pos q, if_pos (Or.inr q)]
        · rw [if_neg q, if_neg (fun z => z.elim p q)]
    rw [e_X12_weights]
    simp only [M_isTray, pb_bI_some, q10, ite_ref, v6, v66]
    rw [o2 (a1 < 1) (8 < a1), o2 (a2 < 1) (4 < a2)]
  have bad : ∀ (u : pb_W) (c : Int32), c ≠ 0 → fr (fun c _ => c = 59) fJ_no w u → M_X11_weights [.ref 0, .int a1, .int a2, .int a3] w = some (some (.int (-1)), pb_wI u 0 0 c) → M_X12_weights [.ref 64, .int a1, .int a2, .int a3] (pb_wI u 0 0 c) = some (some (.int (-1)), pb_wI (pb_wI u 0 0 c) 64 0 c) → ∃ x w1 w2, M_X11_weights [.ref 0, .int a1, .int a2, .int a3] w = some (some (.int x), w1) ∧ M_X12_weights [.ref 64, .int a1, .int a2, .int a3] w1 = some (some (.int x), w2) ∧ fr fI_WT fJ_no w w2 ∧ iv_H w2 ∧ iv_G w2 := by
    intro u c hc F h1 h2
    have F' : fr fI_WT fJ_no w (pb_wI (pb_wI u 0 0 c) 64 0 c) := fr_I (fr_I (fr_mn F (fun c k q => by simp only [fI_WT]; omega) (fun c k q => q)) (by simp [fI_WT])) (by simp [fI_WT])
    refine ⟨-1, _, _, h1, h2, F', ⟨rfl, ?_, ?_⟩, ?_⟩
    · rw [F'.2 64 1 id, F'.2 0 1 id]; exact hH.2.1
    · rw [F'.2 64 2 id, F'.2 0 2 id]; exact hH.2.2
    · obtain ⟨k, g1, g2, g3, g4⟩ := hG
      exact ⟨k, g1, (F.1 57 1 (by simp)).trans g2, (F.1 64 97 (by simp)).trans g3, fun j hj => (F.1 126 j (by simp)).trans ((g4 j hj).trans (F.1 58 j (by simp)).symm)⟩
  have st : ∀ c : Int32, c ≠ 0 → pb_run T_X11_weights (52, [some (.ref 0), some (.int a1), some (.int a2), some (.int a3)], [], pb_wI w 0 0 c) = some (some (.int (-1)), pb_wI w 0 0 c) := by
    intro c hc
    rw [r_X11_weights_52, if_neg (show ¬ (pb_wI w 0 0 c).1 0 0 = 0 from hc), if_neg (show ¬ (pb_wI w 0 0 c).1 0 0 = 0 from hc)]
  have R0 : ∀ c : Int32, M_X12_weights [.ref 64, .int a1, .int a2, .int a3] (pb_wI w 0 0 c) = _ := fun c => R (pb_wI w 0 0 c) f6 t66
  by_cases q1 : a1 < 1 ∨ 8 < a1
  · rw [if_pos q1, if_neg (show ¬ (1 : Int32) = 0 by decide), st 1 (by decide)] at C
    exact bad w 1 (by decide) (fr_rf w) C (by rw [R0, if_pos q1])
  · rw [if_neg q1, if_pos rfl] at C
    by_cases q2 : nI nF < a1
    · rw [if_pos q2, st 1 (by decide)] at C
      exact bad w 1 (by decide) (fr_rf w) C (by rw [R0, if_neg q1, if_pos q2])
    · rw [if_neg q2] at C
      by_cases q3 : a2 < 1 ∨ 4 < a2
      · rw [if_pos q3, if_neg (show ¬ (1 : Int32) = 0 by decide), st 1 (by decide)] at C
        exact bad w 1 (by decide) (fr_rf w) C (by rw [R0, if_neg q1, if_neg q2, if_pos q3])
      · rw [if_neg q3, if_pos rfl, e_X8_placeStatus, M_outside, pb_bI_some] at C
        have t34 : a3 < (4 : Int32) ↔ ¬ (3 : Int32) < a3 := by
          rw [pn_lt, pn_lt, show (4 : Int32).toInt = 4 from rfl, show (3 : Int32).toInt = 3 from rfl]
          omega
        by_cases q4 : a3 < 0 ∨ 3 < a3
        · rw [if_pos q4, if_neg (show ¬ (1 : Int32) = 0 by decide), pb_bI_some, st 1 (by decide)] at C
          refine bad w 1 (by decide) (fr_rf w) C ?_
          rw [R0, if_neg q1, if_neg q2, if_neg q3, if_pos (q4.imp id (fun z y => t34.mp y z))]
        · have q4' : ¬ (a3 < 0 ∨ ¬ a3 < 4) := fun z => z.elim (fun y => q4 (Or.inl y)) (fun y => q4 (Or.inr (Classical.not_not.mp (fun x => y (t34.mpr x)))))
          obtain ⟨t, ht, rfl⟩ := pn_of (x := a3) (N := 3) (fun z => q4 (Or.inl z)) (fun z => q4 (Or.inr z)) (by decide)
          have t4 : pb_in (nI t) 4 := pn_in (by omega) (by decide)
          have tc : (nI t).toNatClampNeg = t := nI_clamp (by omega)
          rw [if_neg q4, if_pos rfl, if_pos t4, if_pos t4, tc] at C
          have R1 : ∀ v : pb_W, v.1 64 6 = nI nF → v.1 66 = w.1 4 → M_X12_weights [.ref 64, .int a1, .int a2, .int (nI t)] v = (if w.1 4 t = (-1 : Int32) then some (some (.int (-1)), pb_wI v 64 0 2) else (if w.1 4 t < (8 : Int32) then some (some (.int (-1)), pb_wI v 64 0 3) else (pb_run T_X12_weights (78, [some (.ref 64), some (.int a1), some (.int a2), some (.int (nI t)), some (.int (0 : Int32)), none, none, none, none, none], [], v)))) := by
            intro v h1 h2
            rw [R v h1 h2, if_neg q1, if_neg q2, if_neg q3, if_neg q4', if_pos t4, if_pos t4, tc]
          rcases tk t (by omega) with e | ⟨s, s1, s2⟩
          · rw [if_pos e, pb_bI_some, st 2 (by decide)] at C
            exact bad w 2 (by decide) (fr_rf w) C (by rw [R1 (pb_wI w 0 0 2) f6 t66, if_pos e])
          · have em : ¬ w.1 4 t = (-1 : Int32) := by rw [s2]; exact pn_m1 s (by omega)
            rw [if_neg em, s2, M_outside, pb_bI_some] at C
            have o7 : ((7 : Int32) < 0 ∨ nI s - 1 < 7) ↔ s < 8 := by
              rw [show nI s - (1 : Int32) = iI ((s : Int) - 1) by rw [iI_n (by omega), show (1 : Int32) = iI 1 from rfl, iI_sub], show (7 : Int32) = iI 7 from rfl, iI_lt (by omega) (by omega) (by omega) (by omega)]
              constructor
              · intro z
                rcases z with z | z
                · exact absurd z (by decide)
                · omega
              · intro z
                exact Or.inr (by omega)
            by_cases q8 : s < 8
            · rw [if_pos (o7.mpr q8), if_neg (show ¬ (1 : Int32) = 0 by decide), pb_bI_some, st 3 (by decide)] at C
              exact bad w 3 (by decide) (fr_rf w) C (by rw [R1 (pb_wI w 0 0 3) f6 t66, if_neg em, s2, if_pos (show nI s < (8 : Int32) from nI_lt (b := 8) q8 (by decide))])
            · have n8 : ¬ w.1 4 t < (8 : Int32) := by rw [s2]; exact nI_nlt (b := 8) (by omega) (by omega)
              rw [if_neg (fun z => q8 (o7.mp z)), if_pos rfl, pb_bI_some, r_X11_weights_52, if_pos (show (pb_wI w 0 0 (0 : Int32)).1 0 0 = 0 from rfl), e_X10_takeMargins_1] at C
              by_cases H : ∀ k, k < 8 → okM (w.2 2 (60 * t + k))
              · obtain ⟨n, n1, n2, rfl⟩ := px_1to (N := 8) (by decide) (show ¬ (a1 < 1 ∨ nI 8 < a1) from q1)
                obtain ⟨M, m1, m2, rfl⟩ := px_1to (N := 4) (by decide) (show ¬ (a2 < 1 ∨ nI 4 < a2) from q3)
                have nn : n ≤ nF := by
                  by_cases z : n ≤ nF
                  · exact z
                  · exact absurd (nI_lt (show nF < n by omega) (by omega)) q2
                have mk : ∀ k, ∃ x, k < 8 → w.2 2 (60 * t + k) = lN x ∧ x ≤ 100 := fun k => by
                  by_cases z : k < 8
                  · obtain ⟨x, x1, x2⟩ := okM_n (H k z)
                    exact ⟨x, fun _ => ⟨x2, x1⟩⟩
                  · exact ⟨0, fun y => absurd y z⟩
                obtain ⟨mN, hmN⟩ := Classical.axiomOfChoice mk
                obtain ⟨v1, c1, c2, c3⟩ := cx_tm (t := t) (by omega) (mN := mN) 8 0 (pb_wI w 0 0 0) (by omega) hmN (fun j hj => absurd hj (Nat.not_lt_zero j))
                have C := C.trans (congrArg (fun z => pb_bI z _) c1)
                rw [pb_bI_some, if_neg (show ¬ (1 : Int32) = 0 by decide), if_pos (show v1.1 0 0 = 0 from c3.1 0 0 (by simp))] at C
                generalize hcl : (fun f => (w.1 6 f).toNatClampNeg) = cl at *
                generalize hld : (fun f => (w.1 7 f).toNatClampNeg) = ld at *
                have FW0 : ∀ f, f < n → w.1 6 f = nI (cl f) ∧ w.1 7 f = nI (ld f) ∧ cl f < 4 ∧ ld f < 4 := fun f hf => by
                  obtain ⟨⟨x, x1, x2⟩, y, y1, y2⟩ := gk f (by omega)
                  rw [← hcl, ← hld]
                  simp only
                  rw [x2, y2, nI_clamp (by omega), nI_clamp (by omega)]
                  exact ⟨rfl, rfl, by omega, by omega⟩
                have FC1 : FC v1 cl ld n := fun f hf => by
                  rw [c3.1 6 f (by simp), c3.1 7 f (by simp)]
                  exact FW0 f hf
                have hm : ∀ k, k < 8 → 0 ≤ (mN k : Int) ∧ (mN k : Int) ≤ 100 := fun k hk => by
                  have := (hmN k hk).2
                  omega
                obtain ⟨v2, d1, d2, d3, d4⟩ := M_nearest (v := v1) (cl := cl) (ld := ld) (m := fun k => (mN k : Int)) (n := n) (M := M) n2 m2 hm FC1 (fun k hk => by
                  have := (hmN k hk).2
                  rw [c2 k hk, iI_n (by omega)])
                rw [d1, pb_bI_some] at C
                have GRx := gr_mk (cl := cl) (ld := ld) (m := fun k => (mN k : Int)) (n := n) (M := M) (V0 := Vw (fun k => (mN k : Int)) (Rr cl ld M n 0)) (fun f hf => (FW0 f hf).2.2) rfl
                have E := gr_end n1 (fun f hf => (FW0 f hf).2.2) GRx rfl
                generalize hV : Vw (fun k => (mN k : Int)) (Rr cl ld M n 0) = V0 at *
                have F2 : fr fI_WT fJ_no w v2 := fr_tr (fr_tr (fr_I (fr_rf w) (by simp [fI_WT])) (fr_mn c3 (fun c k q => by simp only [fI_WT]; omega) (fun c k q => q))) (fr_mn d4 (fun c k q => by simp only [fI_wc] at q; simp only [fI_WT]; omega) (fun c k q => q))
                have z0 : v2.1 0 0 = 0 := (d4.1 0 0 (by simp [fI_wc])).trans (c3.1 0 0 (by simp))
                have e67 : v2.2 67 = w.2 2 := by rw [← t67]; exact funext fun k => F2.2 67 k id
                have e66 : v2.1 66 = w.1 4 := by rw [← t66]; exact funext fun k => F2.1 66 k (by simp [fI_WT])
                have e6 : v2.1 64 6 = nI nF := (F2.1 64 6 (by simp [fI_WT])).trans f6
                obtain ⟨v3, p1, p2, p3⟩ := mx_165 (cl := cl) (ld := ld) (m := fun k => (mN k : Int)) (mN := mN) (n := n) (M := M) (t := t) (N := (M + 1) ^ n) n1 n2 m2 (by omega) (fun k hk => ⟨rfl, (hmN k hk).2⟩) (pow5 m2 n2) ((M + 1) ^ n) 0 v2 (by omega) (fun f hf => by
                  rw [F2.1 68 f (by simp [fI_WT]), F2.1 69 f (by simp [fI_WT]), g68, g69]
                  exact FW0 f hf) (fun k hk => by rw [e67]; exact (hmN k hk).1) trivial
                rw [E] at p1 p2
                refine ⟨_, v2, pb_wI (pb_wI v3 64 97 (nI n)) 64 0 0, C, ?_, ?_, ⟨?_, ?_, ?_⟩, ⟨n, n2, ?_, rfl, fun g hg => ?_⟩⟩
                · rw [R1 v2 e6 e66, if_neg em, if_neg n8]
                  refine (mx_78 (t := t) (by omega) (nI n) (nI M) 8 0 (by omega) (fun k hk => by rw [e67]; exact H k hk)).trans ?_
                  exact (mx_139 n2 m2 (nI t) n 0 (by omega)).trans p1
                · exact fr_I (fr_I (fr_tr F2 (fr_mn p3 (fun c k q => by simp only [fI_wm] at q; simp only [fI_WT]; omega) (fun c k q => q))) (by simp [fI_WT])) (by simp [fI_WT])
                · show (0 : Int32) = v3.1 0 0
                  rw [p3.1 0 0 (by simp [fI_wm]), z0]
                · show v3.2 64 1 = v3.2 0 1
                  rw [p3.2 64 1 id, p3.2 0 1 id, F2.2 64 1 id, F2.2 0 1 id]
                  exact hH.2.1
                · show v3.2 64 2 = v3.2 0 2
                  rw [p3.2 64 2 id, p3.2 0 2 id, F2.2 64 2 id, F2.2 0 2 id]
                  exact hH.2.2
                · show v3.1 57 1 = nI n
                  rw [p3.1 57 1 (by simp [fI_wm]), d3]
                · show v3.1 126 g = v3.1 58 g
                  rw [p3.1 58 g (by simp [fI_wm]), d2 g hg, p2 g hg, gr_dig GRx hg]
              · have H' : ∃ k, 0 ≤ k ∧ k < 8 ∧ ¬ okM (w.2 2 (60 * t + k)) := by
                  have ⟨k, hk⟩ := Classical.not_forall.mp H
                  have ⟨h1, h2⟩ := Classical.not_imp.mp hk
                  exact ⟨k, Nat.zero_le k, h1, h2⟩
                obtain ⟨v1, c1, c2⟩ := cx_tm_bad (t := t) (by omega) 8 0 (pb_wI w 0 0 0) (by omega) H'
                have C := C.trans (congrArg (fun z => pb_bI z _) c1)
                rw [pb_bI_some, if_pos rfl, if_neg (show ¬ (1 : Int32) = 0 by decide)] at C
                have v1e : pb_wI v1 0 0 1 = pb_wI (pb_wF w 59 (v1.1 59)) 0 0 1 := by
                  refine Prod.ext (funext fun d => ?_) (funext fun d => funext fun j => c2.2 d j id)
                  rw [pw_I1, pw_I1]
                  by_cases z : d = 0
                  · rw [if_pos z, if_pos z]
                    funext j
                    rw [pu_at, pu_at]
                    by_cases y : j = 0
                    · rw [if_pos y, if_pos y]
                    · rw [if_neg y, if_neg y, c2.1 0 j (by simp)]
                      show upd (w.1 0) 0 0 j = w.1 0 j
                      rw [pu_at, if_neg y]
                  · rw [if_neg z, if_neg z, pw_F1]
                    by_cases y : d = 59
                    · rw [if_pos y, y]
                    · rw [if_neg y]
                      funext j
                      rw [c2.1 d j y, pw_I1, if_neg z]
                rw [v1e] at C
                refine bad (pb_wF w 59 (v1.1 59)) 1 (by decide) (fr_F (fr_rf w) (fun k => rfl)) C ?_
                rw [R1 (pb_wI (pb_wF w 59 (v1.1 59)) 0 0 1) f6 t66, if_neg em, if_neg n8]
                refine mx_78_bad (t := t) (by omega) a1 a2 8 0 (by omega) ?_
                obtain ⟨k, k1, k2, k3⟩ := H'
                refine ⟨k, k1, k2, ?_⟩
                show ¬ okM (w.2 67 (60 * t + k))
                rw [t67]
                exact k3
