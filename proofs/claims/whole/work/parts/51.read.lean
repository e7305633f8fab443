/-! ===== READINGS, AS OF, PENCE ===== -/
abbrev fI_16 : Nat → Nat → Prop := fun c k => c = 16
/-- the loop of lookFrom: only 16 changes -/
theorem cx_look {day : Int32} {n r : Nat} (hn : n ≤ 200) (hr : r ≤ 60) : ∀ (m i : Nat) (w : pb_W), i + m = r → w.1 5 13 = nI r → (∀ i, i < r → ∃ c, c < n ∧ w.1 17 i = nI c) → ∃ g, pb_run T_X1_lookFrom (24, [some (.ref 5), some (.int day), some (.int (nI i))], [], w) = some (none, pb_wF w 16 g) ∧ ∀ v : Nat → Int32, (∀ k, k < n → w.1 16 k = pkf (w.1 17) (w.1 18) (w.1 19) day k (v k) i) → ∀ k, k < n → g k = pkf (w.1 17) (w.1 18) (w.1 19) day k (v k) r := by
  intro m
  induction m with
  | zero =>
    intro i w hi h13 hl
    refine ⟨w.1 16, ?_, ?_⟩
    · rw [r_X1_lookFrom_24, h13, if_neg (show ¬ nI i < nI r by rw [nI_ltI (by omega) (by omega)]; omega)]
      congr 2
      exact Prod.ext (funext fun d => by rw [pw_F1]; by_cases q : d = 16 <;> simp [q]) rfl
    · intro v hv k hk
      rw [hv k hk, show i = r by omega]
  | succ m ih =>
    intro i w hi h13 hl
    have i60 : pb_in (nI i) 60 := pn_in (by omega) (by decide)
    obtain ⟨c, lc, ec⟩ := hl i (by omega)
    rw [r_X1_lookFrom_24, h13, if_pos (show nI i < nI r from nI_lt (by omega) (by omega)), if_pos i60, if_pos i60, if_pos i60, nI_clamp (show i < 2 ^ 31 by omega), ec, if_pos (pn_in (show c < 200 by omega) (by decide)), nI_clamp (show c < 2 ^ 31 by omega), nI_1]
    by_cases d : day < w.1 19 i
    · rw [if_pos d]
      obtain ⟨g, h1, h2⟩ := ih (i + 1) w (by omega) h13 hl
      refine ⟨g, h1, fun v hv => h2 v (fun k hk => ?_)⟩
      rw [hv k hk, pkf, if_neg (fun q => q.2 d)]
    · rw [if_neg d]
      obtain ⟨g, h1, h2⟩ := ih (i + 1) (pb_wI w 16 c (w.1 18 i)) (by omega) h13 hl
      refine ⟨g, ?_, fun v hv => h2 v (fun k hk => ?_)⟩
      · rw [h1]
        congr 2
        exact Prod.ext (funext fun d => by rw [pw_F1, pw_F1, pw_I1]; by_cases q : d = 16 <;> simp [q]) rfl
      · show upd (w.1 16) c (w.1 18 i) k = pkf (w.1 17) (w.1 18) (w.1 19) day k (v k) (i + 1)
        rw [pu_at, pkf, ec]
        by_cases kc : k = c
        · rw [if_pos kc, if_pos ⟨by rw [kc], d⟩]
        · rw [if_neg kc, if_neg (fun q => kc ((nI_eq (by omega) (by omega)).mp q.1).symm), hv k hk]
theorem M_lookFrom {day : Int32} {w : pb_W} {n r : Nat} (hn : n ≤ 200) (hr : r ≤ 60) (h3 : w.1 5 3 = nI n) (h13 : w.1 5 13 = nI r) (hl : ∀ i, i < r → ∃ c, c < n ∧ w.1 17 i = nI c) : ∃ g, M_X1_lookFrom [.ref 5, .int day] w = some (none, pb_wF (pb_wI w 5 19 day) 16 g) ∧ ∀ k, k < n → g k = pkf (w.1 17) (w.1 18) (w.1 19) day k (w.1 15 k) r := by
  have e0 : ((0 : Int32)).toInt = 0 := by decide
  have et : (nI n).toInt = ((n : Nat) : Int) := nI_toInt (by omega)
  obtain ⟨g, h1, h2⟩ := cx_look (day := day) hn hr r 0 (pb_wF (pb_wI w 5 19 day) 16 (va_cpy (w.1 15) (w.1 16) 0 0 n)) (by omega) h13 hl
  refine ⟨g, ?_, h2 (w.1 15) (fun k hk => ?_)⟩
  · rw [e_X1_lookFrom, h3, if_pos (by rw [e0, et]; omega), nI_clamp (show n < 2 ^ 31 by omega)]
    refine h1.trans ?_
    congr 2
    exact Prod.ext (funext fun d => by rw [pw_F1, pw_F1, pw_F1]; by_cases q : d = 16 <;> simp [q]) rfl
  · show va_cpy (w.1 15) (w.1 16) 0 0 n k = w.1 15 k
    unfold va_cpy
    rw [if_pos (by omega), show 0 + (k - 0) = k by omega]
abbrev fI_R : Nat → Nat → Prop := fun c k => (c = 0 ∧ k = 0) ∨ (c = 64 ∧ k = 0) ∨ (c = 5 ∧ (k = 13 ∨ k = 18 ∨ k = 19)) ∨ (c = 64 ∧ (k = 8 ∨ k = 9 ∨ k = 10)) ∨ c = 16 ∨ c = 17 ∨ c = 18 ∨ c = 19 ∨ c = 76 ∨ c = 77 ∨ c = 78
theorem x_asof (a : Int32) (w : pb_W) (hH : iv_H w) (hL : iv_L w) : ∃ x w1 w2, M_X11_asof [.ref 0, .int a] w = some (some (.int x), w1) ∧ M_X12_asof [.ref 64, .int a] w1 = some (some (.int x), w2) ∧ fr fI_R fJ_no w w2 ∧ iv_H w2 ∧ iv_L w2 := by
  have hL' := hL
  obtain ⟨n, r, hn, hr, n5, n7, r13, r8, d9, d10, gg, gl, gr, gp, hd, ha⟩ := hL
  have k1 : ¬ (1 : Int32) = 0 := by decide
  by_cases h : a < 0 ∨ 9999 < a
  · refine ⟨0, pb_wI w 0 0 1, pb_wI (pb_wI w 0 0 1) 64 0 1, ?_, ?_, fr_I (fr_I (fr_rf w) (by simp [fI_R])) (by simp [fI_R]), ⟨rfl, hH.2.1, hH.2.2⟩, hL'⟩
    · rw [e_X11_asof, M_outside, pb_bI_some, if_pos h, if_neg k1, r_X11_asof_17, if_neg k1, if_neg k1]
    · rw [e_X12_asof, M_isDay, pb_bI_some, if_pos h, if_pos rfl, ite_is 1 k1]
  · obtain ⟨c, lc, ec⟩ := px_to (N := 9999) (by decide) (show ¬ (a < 0 ∨ nI 9999 < a) from h)
    obtain ⟨g, h1, h2⟩ := M_lookFrom (day := a) (w := pb_wI w 0 0 0) hn hr n5 r13 (fun i hi => (gr i hi).1)
    refine ⟨1, pb_wF (pb_wI (pb_wI w 0 0 0) 5 19 a) 16 g, pb_wI (pb_wI (pb_wF (pb_wI (pb_wI w 0 0 0) 5 19 a) 16 g) 64 10 a) 64 0 0, ?_, ?_, ?_, ⟨rfl, hH.2.1, hH.2.2⟩, n, r, hn, hr, n5, n7, r13, r8, d9, rfl, gg, gl, gr, h2, hd, ⟨c, lc, ec⟩⟩
    · rw [e_X11_asof, M_outside, pb_bI_some, if_neg h, if_pos rfl, r_X11_asof_17, if_pos rfl, h1, pb_bV_some]
      rfl
    · rw [e_X12_asof, M_isDay, pb_bI_some, if_neg h, if_neg k1, ite_is0]
    · exact fr_I (fr_I (fr_F (fr_I (fr_I (fr_rf w) (by simp [fI_R])) (by simp [fI_R])) (by simp [fI_R])) (by simp [fI_R])) (by simp [fI_R])
theorem x_reading (a1 a2 a3 : Int32) (w : pb_W) (hH : iv_H w) (hL : iv_L w) : ∃ x w1 w2, M_X11_reading [.ref 0, .int a1, .int a2, .int a3] w = some (some (.int x), w1) ∧ M_X12_reading [.ref 64, .int a1, .int a2, .int a3] w1 = some (some (.int x), w2) ∧ fr fI_R fJ_no w w2 ∧ iv_H w2 ∧ iv_L w2 := by
  have hL' := hL
  obtain ⟨n, r, hn, hr, n5, n7, r13, r8, d9, d10, ⟨g70, g71, g72, g74, g81, g75, g79, g73, g76, g77, g78⟩, gl, gr, gp, hd, ha⟩ := hL
  have k1 : ¬ (1 : Int32) = 0 := by decide
  have refuse : ∀ v : Int32, (fr fI_R fJ_no w (pb_wI (pb_wI w 0 0 v) 64 0 v) ∧ iv_H (pb_wI (pb_wI w 0 0 v) 64 0 v) ∧ iv_L (pb_wI (pb_wI w 0 0 v) 64 0 v)) := fun v => ⟨fr_I (fr_I (fr_rf w) (by simp [fI_R])) (by simp [fI_R]), ⟨rfl, hH.2.1, hH.2.2⟩, hL'⟩
  have s : ∀ v : Int32, v ≠ 0 → pb_run T_X11_reading (67, [some (.ref 0), some (.int a1), some (.int a2), some (.int a3)], [], pb_wI w 0 0 v) = some (some (.int 0), pb_wI w 0 0 v) := by
    intro v hv
    rw [r_X11_reading_67, if_neg (show ¬ (pb_wI w 0 0 v).1 0 0 = 0 from hv), if_neg (show ¬ (pb_wI w 0 0 v).1 0 0 = 0 from hv)]
  have C := e_X11_reading a1 a2 a3 w
  rw [M_hasLine, pb_bI_some, M_badEntry, pb_bI_some, n5, r13, s 1 (by decide), s 4 (by decide), s 5 (by decide)] at C
  have R : ∀ v : pb_W, M_X12_reading [.ref 64, .int a1, .int a2, .int a3] v = _ := fun v => e_X12_reading a1 a2 a3 v
  simp only [M_isLine, pb_bI_some, M_isSum, M_isDay, ite_is0, ite_is 1 (by decide), ite_is 4 (by decide), ite_is 5 (by decide)] at R
  simp only [q01, q10] at C R
  by_cases h1 : ¬ a1 < 0 ∧ a1 < nI n
  · have h1' : ∀ v, ¬ a1 < 0 ∧ a1 < (pb_wI w 0 0 v).1 64 7 := by
      intro v
      show ¬ a1 < 0 ∧ a1 < w.1 64 7
      rw [n7]
      exact h1
    rw [if_neg (not_not_intro h1)] at C
    have R1 := R (pb_wI w 0 0 1)
    rw [if_neg (not_not_intro (h1' 1))] at R1
    by_cases h2 : a2 < 1 ∨ 20000 < a2
    · rw [if_neg (not_not_intro (Or.inl h2))] at C
      rw [if_pos h2] at R1
      exact ⟨0, _, _, C, R1, refuse 1⟩
    · by_cases h3 : a3 < 0 ∨ 9999 < a3
      · rw [if_neg (not_not_intro (Or.inr h3))] at C
        rw [if_neg h2, if_pos h3] at R1
        exact ⟨0, _, _, C, R1, refuse 1⟩
      · rw [if_pos (fun q => q.elim h2 h3)] at C
        by_cases e : r = 60
        · rw [if_neg (show ¬ nI r < (60 : Int32) by rw [e]; decide)] at C
          have R4 := R (pb_wI w 0 0 4)
          rw [if_neg (not_not_intro (h1' 4)), if_neg h2, if_neg h3, if_pos (show (pb_wI w 0 0 (4 : Int32)).1 64 8 = (60 : Int32) by show w.1 64 8 = _; rw [r8, e]; rfl)] at R4
          exact ⟨0, _, _, C, R4, refuse 4⟩
        · rw [if_pos (show nI r < (60 : Int32) from nI_lt (b := 60) (by omega) (by decide))] at C
          have e' : ∀ w' : pb_W, w'.1 64 8 = nI r → ¬ w'.1 64 8 = (60 : Int32) := fun w' q1 q => e ((nI_eq (b := 60) (by omega) (by decide)).mp (q1 ▸ q))
          by_cases d : a3 < w.1 5 18
          · rw [if_pos d] at C
            have R5 := R (pb_wI w 0 0 5)
            rw [if_neg (not_not_intro (h1' 5)), if_neg h2, if_neg h3, if_neg (e' (pb_wI w 0 0 5) r8), if_pos (show a3 < (pb_wI w 0 0 (5 : Int32)).1 64 9 by show a3 < w.1 64 9; rw [d9]; exact d)] at R5
            exact ⟨0, _, _, C, R5, refuse 5⟩
          · rw [if_neg d] at C
            obtain ⟨c1, lc1, ec1⟩ := nI_of h1.1
            have lc1' : c1 < n := by
              have q := h1.2
              rw [ec1] at q
              exact (nI_ltI lc1 (by omega)).mp q
            obtain ⟨c2, l2, l2', e2⟩ := px_ge (N := 20000) (by decide) (show ¬ (a2 < 1 ∨ nI 20000 < a2) from h2)
            obtain ⟨c3, l3, e3⟩ := px_to (N := 9999) (by decide) (show ¬ (a3 < 0 ∨ nI 9999 < a3) from h3)
            have i60 : pb_in (nI r) 60 := pn_in (by omega) (by decide)
            have gr' : ∀ i, i < r + 1 → (∃ c, c < n ∧ upd (w.1 17) r a1 i = nI c) ∧ (∃ c, 1 ≤ c ∧ c ≤ 20000 ∧ upd (w.1 18) r a2 i = nI c) ∧ (∃ c, c ≤ 9999 ∧ upd (w.1 19) r a3 i = nI c) := by
              intro i hi
              rw [pu_at, pu_at, pu_at]
              by_cases q : i = r
              · rw [if_pos q, if_pos q, if_pos q]
                exact ⟨⟨c1, lc1', ec1⟩, ⟨c2, l2, l2', e2⟩, ⟨c3, l3, e3⟩⟩
              · rw [if_neg q, if_neg q, if_neg q]
                exact gr i (by omega)
            obtain ⟨g, m1, m2⟩ := M_lookFrom (day := w.1 5 19) (w := pb_wI (pb_wI (pb_wI (pb_wI (pb_wI (pb_wI w 0 0 0) 17 r a1) 18 r a2) 19 r a3) 5 13 (nI (r + 1))) 5 18 a3) (n := n) (r := r + 1) hn (by omega) n5 rfl (fun i hi => (gr' i hi).1)
            have A : M_X1_addReading [.ref 5, .int a1, .int a2, .int a3] (pb_wI w 0 0 0) = some (none, pb_wF (pb_wI (pb_wI (pb_wI (pb_wI (pb_wI (pb_wI (pb_wI w 0 0 0) 17 r a1) 18 r a2) 19 r a3) 5 13 (nI (r + 1))) 5 18 a3) 5 19 (w.1 5 19)) 16 g) := by
              have q13 : (pb_wI w 0 0 (0 : Int32)).1 5 13 = nI r := r13
              have q19 : (pb_wI w 0 0 (0 : Int32)).1 5 19 = w.1 5 19 := rfl
              rw [e_X1_addReading, q13, if_pos i60, if_pos i60, if_pos i60, nI_clamp (show r < 2 ^ 31 by omega), nI_1, q19, m1, pb_bV_some]
            rw [r_X11_reading_67, if_pos (show (pb_wI w 0 0 (0 : Int32)).1 0 0 = 0 from rfl), A, pb_bV_some, if_pos (show (pb_wF (pb_wI (pb_wI (pb_wI (pb_wI (pb_wI (pb_wI (pb_wI w 0 0 0) 17 r a1) 18 r a2) 19 r a3) 5 13 (nI (r + 1))) 5 18 a3) 5 19 (w.1 5 19)) 16 g).1 0 0 = 0 from rfl)] at C
            have q8 : (pb_wF (pb_wI (pb_wI (pb_wI (pb_wI (pb_wI (pb_wI (pb_wI w 0 0 0) 17 r a1) 18 r a2) 19 r a3) 5 13 (nI (r + 1))) 5 18 a3) 5 19 (w.1 5 19)) 16 g).1 64 8 = nI r := r8
            have q7 : (pb_wF (pb_wI (pb_wI (pb_wI (pb_wI (pb_wI (pb_wI (pb_wI w 0 0 0) 17 r a1) 18 r a2) 19 r a3) 5 13 (nI (r + 1))) 5 18 a3) 5 19 (w.1 5 19)) 16 g).1 64 7 = nI n := n7
            have q9 : (pb_wF (pb_wI (pb_wI (pb_wI (pb_wI (pb_wI (pb_wI (pb_wI w 0 0 0) 17 r a1) 18 r a2) 19 r a3) 5 13 (nI (r + 1))) 5 18 a3) 5 19 (w.1 5 19)) 16 g).1 64 9 = w.1 5 18 := d9
            have RR := R (pb_wF (pb_wI (pb_wI (pb_wI (pb_wI (pb_wI (pb_wI (pb_wI w 0 0 0) 17 r a1) 18 r a2) 19 r a3) 5 13 (nI (r + 1))) 5 18 a3) 5 19 (w.1 5 19)) 16 g)
            rw [q7, if_neg (not_not_intro h1), if_neg h2, if_neg h3, q8, if_neg (show ¬ nI r = (60 : Int32) from fun q => e ((nI_eq (b := 60) (by omega) (by decide)).mp q)), q9, if_neg d, if_pos i60, if_pos i60, if_pos i60, nI_clamp (show r < 2 ^ 31 by omega), nI_1] at RR
            refine ⟨1, _, _, C, RR, ?_, ⟨rfl, hH.2.1, hH.2.2⟩, n, r + 1, hn, by omega, n5, n7, rfl, rfl, rfl, d10, ⟨g70, g71, g72, g74, g81, g75, g79, g73, ?_, ?_, ?_⟩, gl, gr', m2, ⟨c3, l3, e3⟩, ha⟩
            · exact fr_I (fr_I (fr_I (fr_I (fr_I (fr_I (fr_F (fr_I (fr_I (fr_I (fr_I (fr_I (fr_I (fr_I (fr_rf w) (by simp [fI_R])) (by simp [fI_R])) (by simp [fI_R])) (by simp [fI_R])) (by simp [fI_R])) (by simp [fI_R])) (by simp [fI_R])) (by simp [fI_R])) (by simp [fI_R])) (by simp [fI_R])) (by simp [fI_R])) (by simp [fI_R])) (by simp [fI_R])) (by simp [fI_R])
            · exact congrArg (fun g => upd g r a1) g76
            · exact congrArg (fun g => upd g r a2) g77
            · exact congrArg (fun g => upd g r a3) g78
  · rw [if_pos h1] at C
    have R1 := R (pb_wI w 0 0 1)
    rw [if_pos (show ¬ (¬ a1 < 0 ∧ a1 < (pb_wI w 0 0 (1 : Int32)).1 64 7) by show ¬ (¬ a1 < 0 ∧ a1 < w.1 64 7); rw [n7]; exact h1)] at R1
    exact ⟨0, _, _, C, R1, refuse 1⟩
