/-! ===== HEAD AND TRAYS ===== -/
/-- status, top, bottom are alike -/
def iv_H (w : pb_W) : Prop := w.1 64 0 = w.1 0 0 ∧ w.2 64 1 = w.2 0 1 ∧ w.2 64 2 = w.2 0 2
/-- trays: cells, sorts, sizes are alike; a size is -1 or 0 to 60 -/
def iv_T (w : pb_W) : Prop := w.2 67 = w.2 2 ∧ w.1 65 = w.1 3 ∧ w.1 66 = w.1 4 ∧ ∀ k, k < 4 → w.1 4 k = -1 ∨ ∃ n, n ≤ 60 ∧ w.1 4 k = nI n
theorem x_status (w : pb_W) (h : iv_H w) : ∃ x, M_X11_status [.ref 0] w = some (some (.int x), w) ∧ M_X12_status [.ref 64] w = some (some (.int x), w) := ⟨w.1 0 0, e_X11_status w, by rw [e_X12_status, h.1]⟩
theorem x_top (w : pb_W) (h : iv_H w) : ∃ x, M_X11_top [.ref 0] w = some (some (.long x), w) ∧ M_X12_top [.ref 64] w = some (some (.long x), w) := ⟨w.2 0 1, e_X11_top w, by rw [e_X12_top, h.2.1]⟩
theorem x_bottom (w : pb_W) (h : iv_H w) : ∃ x, M_X11_bottom [.ref 0] w = some (some (.long x), w) ∧ M_X12_bottom [.ref 64] w = some (some (.long x), w) := ⟨w.2 0 2, e_X11_bottom w, by rw [e_X12_bottom, h.2.2]⟩
theorem M_is0 (w : pb_W) : M_X12_is [.ref 64, .int 0] w = some (some (.int 1), pb_wI w 64 0 0) := by rw [e_X12_is, if_pos rfl]
theorem M_isN {a : Int32} (h : a ≠ 0) (w : pb_W) : M_X12_is [.ref 64, .int a] w = some (some (.int 0), pb_wI w 64 0 a) := by rw [e_X12_is, if_neg h]
theorem M_isTray (a : Int32) (w : pb_W) : M_X12_isTray [.int a] w = some (some (.int (if a < 0 ∨ ¬ a < 4 then 0 else 1)), w) := by
  rw [e_X12_isTray]
  by_cases h1 : a < 0
  · simp [h1]
  · by_cases h2 : a < 4 <;> simp [h1, h2]
/-- the class's fill of a stretch of the trays' cells -/
theorem M_fill2 (v : Int64) : ∀ (n k m : Nat) (w : pb_W), k + n = m → m ≤ 240 → pb_run T_J7_fill_bad5a_2 (10, [some (.ref 2), none, some (.int (nI m)), some (.long v), none, some (.int (nI k))], [], w) = some (none, pb_wG w 2 (fun j => if k ≤ j ∧ j < m then v else w.2 2 j)) := by
  intro n
  induction n with
  | zero =>
    intro k m w h hm
    rw [r_J7_fill_bad5a_2_10, if_neg (nI_nlt (by omega) (by omega))]
    have : (fun j => if k ≤ j ∧ j < m then v else w.2 2 j) = w.2 2 := by
      funext j
      rw [if_neg (by omega)]
    rw [this]
    have e : pb_wG w 2 (w.2 2) = w := by
      refine Prod.ext rfl (funext fun d => ?_)
      rw [pw_G2]
      split
      · rename_i e; rw [e]
      · rfl
    rw [e]
  | succ n ih =>
    intro k m w h hm
    rw [r_J7_fill_bad5a_2_10, if_pos (nI_lt (by omega) (by omega)), if_pos (pn_in (by omega) (by omega)), nI_1, nI_clamp (by omega), ih (k + 1) m _ (by omega) hm]
    congr 2
    refine Prod.ext rfl (funext fun d => ?_)
    simp only [pw_G2, pw_L2]
    split
    · funext j
      simp only [if_true, pu_atL]
      by_cases h1 : j = k
      · rw [if_neg (by omega), if_pos h1, if_pos (by omega)]
      · rw [if_neg h1]
        by_cases h2 : k + 1 ≤ j ∧ j < m
        · rw [if_pos h2, if_pos (by omega)]
        · rw [if_neg h2, if_neg (by omega)]
    · rfl
/-- the reference's loop over the same -/
theorem M_tray67 (t : Nat) (ht : t < 4) : ∀ (n k m : Nat) (w : pb_W), k + n = m → m ≤ 60 → pb_run T_X12_tray (49, [some (.ref 64), some (.int (nI t)), none, some (.int (nI m)), some (.int (nI k))], [], w) = some (some (.int 1), pb_wI (pb_wG w 67 (fun j => if 60 * t + k ≤ j ∧ j < 60 * t + m then 0 else w.2 67 j)) 64 0 0) := by
  intro n
  induction n with
  | zero =>
    intro k m w h hm
    rw [r_X12_tray_49, if_neg (nI_nlt (by omega) (by omega)), M_is0]
    simp only [pb_bI_some, or_true, if_true, ite_true]
    have : (fun j => if 60 * t + k ≤ j ∧ j < 60 * t + m then 0 else w.2 67 j) = w.2 67 := by
      funext j
      rw [if_neg (by omega)]
    rw [this]
    have e : pb_wG w 67 (w.2 67) = w := by
      refine Prod.ext rfl (funext fun d => ?_)
      rw [pw_G2]
      split
      · rename_i e; rw [e]
      · rfl
    rw [e]
  | succ n ih =>
    intro k m w h hm
    have ei : (60 : Int32) * nI t + nI k = nI (60 * t + k) := by
      rw [pn_lit 60, pn_mul, nI_add]
    rw [r_X12_tray_49, if_pos (nI_lt (by omega) (by omega)), ei, if_pos (pn_in (by omega) (by omega)), nI_1, nI_clamp (by omega), ih (k + 1) m _ (by omega) hm]
    congr 3
    refine Prod.ext rfl (funext fun d => ?_)
    simp only [pw_G2, pw_L2]
    split
    · funext j
      simp only [if_true, pu_atL]
      by_cases h1 : j = 60 * t + k
      · rw [if_neg (by omega), if_pos h1, if_pos (by omega)]
      · rw [if_neg h1]
        by_cases h2 : 60 * t + (k + 1) ≤ j ∧ j < 60 * t + m
        · rw [if_pos h2, if_pos (by omega)]
        · rw [if_neg h2, if_neg (by omega)]
    · rfl
/-! frames -/
def fr (I J : Nat → Nat → Prop) (w w' : pb_W) : Prop := (∀ c k, ¬ I c k → w'.1 c k = w.1 c k) ∧ ∀ c k, ¬ J c k → w'.2 c k = w.2 c k
theorem fr_1 {I J : Nat → Nat → Prop} {w w' : pb_W} (h : fr I J w w') (c : Nat) (hc : ∀ k, ¬ I c k) : w'.1 c = w.1 c := funext fun k => h.1 c k (hc k)
theorem fr_2 {I J : Nat → Nat → Prop} {w w' : pb_W} (h : fr I J w w') (c : Nat) (hc : ∀ k, ¬ J c k) : w'.2 c = w.2 c := funext fun k => h.2 c k (hc k)
theorem fr_rf {I J : Nat → Nat → Prop} (w : pb_W) : fr I J w w := ⟨fun _ _ _ => rfl, fun _ _ _ => rfl⟩
theorem fr_tr {I J : Nat → Nat → Prop} {w w1 w2 : pb_W} (h : fr I J w w1) (h2 : fr I J w1 w2) : fr I J w w2 := ⟨fun c k hc => (h2.1 c k hc).trans (h.1 c k hc), fun c k hc => (h2.2 c k hc).trans (h.2 c k hc)⟩
theorem fr_I {I J : Nat → Nat → Prop} {w w' : pb_W} {c k : Nat} {v : Int32} (h : fr I J w w') (hc : I c k) : fr I J w (pb_wI w' c k v) := ⟨fun d j hd => by
  rw [pw_I1]
  split
  · rename_i e
    subst e
    rw [pu_at, if_neg (fun q => hd (by rw [q]; exact hc))]
    exact h.1 d j hd
  · exact h.1 d j hd, h.2⟩
theorem fr_L {I J : Nat → Nat → Prop} {w w' : pb_W} {c k : Nat} {v : Int64} (h : fr I J w w') (hc : J c k) : fr I J w (pb_wL w' c k v) := ⟨h.1, fun d j hd => by
  rw [pw_L2]
  split
  · rename_i e
    subst e
    rw [pu_atL, if_neg (fun q => hd (by rw [q]; exact hc))]
    exact h.2 d j hd
  · exact h.2 d j hd⟩
theorem fr_F {I J : Nat → Nat → Prop} {w w' : pb_W} {c : Nat} {f : Nat → Int32} (h : fr I J w w') (hc : ∀ k, I c k) : fr I J w (pb_wF w' c f) := ⟨fun d j hd => by
  rw [pw_F1]
  split
  · rename_i e
    subst e
    exact absurd (hc j) hd
  · exact h.1 d j hd, h.2⟩
theorem fr_G {I J : Nat → Nat → Prop} {w w' : pb_W} {c : Nat} {f : Nat → Int64} (h : fr I J w w') (hc : ∀ k, J c k) : fr I J w (pb_wG w' c f) := ⟨h.1, fun d j hd => by
  rw [pw_G2]
  split
  · rename_i e
    subst e
    exact absurd (hc j) hd
  · exact h.2 d j hd⟩
/-- status alone -/
abbrev fI_st : Nat → Nat → Prop := fun c k => (c = 0 ∧ k = 0) ∨ (c = 64 ∧ k = 0)
abbrev fJ_no : Nat → Nat → Prop := fun _ _ => False
abbrev fI_T : Nat → Nat → Prop := fun c k => (c = 0 ∧ k = 0) ∨ (c = 64 ∧ k = 0) ∨ c = 3 ∨ c = 4 ∨ c = 65 ∨ c = 66
abbrev fJ_T : Nat → Nat → Prop := fun c _ => c = 2 ∨ c = 67
theorem cx_tray_bad {a1 a2 a3 : Int32} (w : pb_W) (h : (a1 < 0 ∨ 3 < a1) ∨ (a2 < 0 ∨ 3 < a2) ∨ (a3 < 0 ∨ 60 < a3)) : M_X11_tray [.ref 0, .int a1, .int a2, .int a3] w = some (some (.int 0), pb_wI w 0 0 1) := by
  rw [e_X11_tray]
  simp only [M_outside, pb_bI_some]
  by_cases h1 : a1 < 0 ∨ 3 < a1
  · simp [h1, r_X11_tray_46]
  · by_cases h2 : a2 < 0 ∨ 3 < a2
    · simp [h1, h2, r_X11_tray_46]
    · by_cases h3 : a3 < 0 ∨ 60 < a3
      · simp [h1, h2, h3, r_X11_tray_46]
      · exact absurd h (by simp [h1, h2, h3])
theorem cx_tray_ok (t so m : Nat) (ht : t < 4) (hso : so ≤ 3) (hm : m ≤ 60) (w : pb_W) : M_X11_tray [.ref 0, .int (nI t), .int (nI so), .int (nI m)] w = some (some (.int 1), pb_wG (pb_wI (pb_wI (pb_wI w 0 0 0) 3 t (nI so)) 4 t (nI m)) 2 (fun j => if 60 * t ≤ j ∧ j < 60 * t + m then 0 else w.2 2 j)) := by
  have h1 : ¬ (nI t < 0 ∨ (3 : Int32) < nI t) := by
    rw [pn_lit 3]
    exact fun q => q.elim (nI_pos (by omega)) (nI_nlt (by omega) (by omega))
  have h2 : ¬ (nI so < 0 ∨ (3 : Int32) < nI so) := by
    rw [pn_lit 3]
    exact fun q => q.elim (nI_pos (by omega)) (nI_nlt (by omega) (by omega))
  have h3 : ¬ (nI m < 0 ∨ (60 : Int32) < nI m) := by
    rw [pn_lit 60]
    exact fun q => q.elim (nI_pos (by omega)) (nI_nlt (by omega) (by omega))
  have e1 : nI t * (60 : Int32) = nI (60 * t) := by rw [pn_lit 60, pn_mul, Nat.mul_comm]
  have e2 : nI (60 * t) + nI m = nI (60 * t + m) := nI_add _ _
  have lay : ∀ w : pb_W, M_X8_lay [.ref 1, .int (nI t), .int (nI so), .int (nI m)] w = some (none, pb_wG (pb_wI (pb_wI w 3 t (nI so)) 4 t (nI m)) 2 (fun j => if 60 * t ≤ j ∧ j < 60 * t + m then 0 else w.2 2 j)) := by
    intro w
    rw [e_X8_lay, if_pos (pn_in (by omega) (by omega)), if_pos (pn_in (by omega) (by omega)), e1, e2, e_J7_fill_bad5a_2, e_J7_rangeCheck_23922]
    have g1 : ¬ nI (60 * t + m) < nI (60 * t) := nI_nlt (by omega) (by omega)
    have g2 : ¬ nI (60 * t) < 0 := nI_pos (by omega)
    have g3 : ¬ Int32.ofNat 240 < nI (60 * t + m) := nI_nlt (a := 240) (by omega) (by omega)
    rw [if_neg g1, if_neg g2, if_neg g3, pb_bV_some, M_fill2 0 m (60 * t) (60 * t + m) _ rfl (by omega), pb_bV_some, nI_clamp (by omega)]
    rfl
  rw [e_X11_tray]
  simp only [M_outside, pb_bI_some, if_neg h1, if_neg h2, if_neg h3, if_true, ite_true, r_X11_tray_46, lay, pb_bV_some]
  simp [pw_G1, pw_I1, pu_at, pw_I2]
