/-! ===== PRICE: rows of prices ===== -/
abbrev PU : Type := (Nat → Nat) × (Nat → Nat)
def putP (p u k : Nat) (s : PU) : PU := (fun j => if j = k then p else s.1 j, fun j => if j = k then u else s.2 j)
def insP (p u : Nat) : Nat → PU → PU
  | 0, s => putP p u 0 s
  | k + 1, s => if p * s.2 k < s.1 k * u then insP p u k (putP (s.1 k) (s.2 k) (k + 1) s) else putP p u (k + 1) s
def FR (A B : Nat → Int32) (s : PU) (c : Nat) : Prop := ∀ j, j < c → A j = nI (s.1 j) ∧ B j = nI (s.2 j) ∧ s.1 j ≤ 20000 ∧ 1 ≤ s.2 j ∧ s.2 j ≤ 1000
def HR (A B : Nat → Int32) (s : PU) (c k : Nat) : Prop := ∀ j, j ≤ c → j ≠ k → A j = nI (s.1 j) ∧ B j = nI (s.2 j) ∧ s.1 j ≤ 20000 ∧ 1 ≤ s.2 j ∧ s.2 j ≤ 1000
theorem FR_HR {A B : Nat → Int32} {s : PU} {c : Nat} (h : FR A B s c) : HR A B s c c := fun j h1 h2 => h j (by omega)
theorem HR_shift {A B : Nat → Int32} {s : PU} {c k : Nat} (h : HR A B s c (k + 1)) (hk : k + 1 ≤ c) : HR (upd A (k + 1) (A k)) (upd B (k + 1) (B k)) (putP (s.1 k) (s.2 k) (k + 1) s) c k := by
  intro j h1 h2
  unfold putP
  rw [pu_at, pu_at]
  by_cases q : j = k + 1
  · simp only [if_pos q]
    exact h k (by omega) (by omega)
  · simp only [if_neg q]
    exact h j h1 q
theorem HR_put {A B : Nat → Int32} {s : PU} {c k p u : Nat} (h : HR A B s c k) (hp : p ≤ 20000) (hu : 1 ≤ u) (hu2 : u ≤ 1000) : FR (upd A k (nI p)) (upd B k (nI u)) (putP p u k s) (c + 1) := by
  intro j h1
  unfold putP
  rw [pu_at, pu_at]
  by_cases q : j = k
  · simp only [if_pos q]
    exact ⟨trivial, trivial, hp, hu, hu2⟩
  · simp only [if_neg q]
    exact h j (by omega) q
abbrev fI_pr : Nat → Nat → Prop := fun c k => (c = 51 ∧ k = 3) ∨ c = 52 ∨ c = 53
abbrev fI_pm : Nat → Nat → Prop := fun c k => c = 122 ∨ c = 123
theorem mul_lt31 {a b : Nat} (ha : a ≤ 20000) (hb : b ≤ 1000) : a * b < 2 ^ 31 := by
  have := Nat.mul_le_mul ha hb
  omega
theorem cx_ins {p u c : Nat} (hp : p ≤ 20000) (hu : 1 ≤ u) (hu2 : u ≤ 1000) (hc : c < 200) : ∀ (k : Nat) (s : PU) (w : pb_W), k ≤ c → HR (w.1 52) (w.1 53) s c k → w.1 51 3 = nI c → ∃ w', pb_run T_X4_insert (5, [some (.ref 51), some (.int (nI p)), some (.int (nI u)), some (.int (nI k))], [], w) = some (none, w') ∧ FR (w'.1 52) (w'.1 53) (insP p u k s) (c + 1) ∧ w'.1 51 3 = nI (c + 1) ∧ fr fI_pr fJ_no w w' := by
  have put : ∀ (k : Nat) (s : PU) (w : pb_W), k ≤ c → HR (w.1 52) (w.1 53) s c k → w.1 51 3 = nI c → ∃ w', pb_run T_X4_insert (66, [some (.ref 51), some (.int (nI p)), some (.int (nI u)), some (.int (nI k))], [], w) = some (none, w') ∧ FR (w'.1 52) (w'.1 53) (putP p u k s) (c + 1) ∧ w'.1 51 3 = nI (c + 1) ∧ fr fI_pr fJ_no w w' := by
    intro k s w hk h h3
    have k2 : pb_in (nI k) 200 := pn_in (by omega) (by decide)
    refine ⟨pb_wI (pb_wI (pb_wI w 52 k (nI p)) 53 k (nI u)) 51 3 (nI (c + 1)), ?_, HR_put h hp hu hu2, rfl, fr_I (fr_I (fr_I (fr_rf w) (by simp [fI_pr])) (by simp [fI_pr])) (by simp [fI_pr])⟩
    rw [r_X4_insert_66, if_pos k2, if_pos k2, nI_clamp (by omega), h3, nI_1]
  intro k
  induction k with
  | zero =>
    intro s w hk h h3
    rw [r_X4_insert_5, if_neg (show ¬ (0 : Int32) < nI 0 by decide)]
    exact put 0 s w hk h h3
  | succ k ih =>
    intro s w hk h h3
    have k2 : pb_in (nI k) 200 := pn_in (by omega) (by decide)
    have k3 : pb_in (nI (k + 1)) 200 := pn_in (by omega) (by decide)
    have e1 : nI (k + 1) - (1 : Int32) = nI k := nI_subN (a := k + 1) (b := 1) (by omega)
    obtain ⟨a1, a2, a3, a4, a5⟩ := h k (by omega) (by omega)
    rw [r_X4_insert_5, if_pos (show (0 : Int32) < nI (k + 1) from nI_lt (a := 0) (by omega) (by omega)), e1, if_pos k2, if_pos k2, if_pos k2, if_pos k3, if_pos k2, if_pos k3, nI_clamp (show k < 2 ^ 31 by omega), nI_clamp (show k + 1 < 2 ^ 31 by omega), a1, a2, pn_mul, pn_mul, ite_lt (mul_lt31 hp a5) (mul_lt31 a3 hu2), insP, nI_dec]
    by_cases q : p * s.2 k < s.1 k * u
    · rw [if_pos q, if_pos q]
      have h' := HR_shift h hk
      rw [a1, a2] at h'
      obtain ⟨w', b1, b2, b3, b4⟩ := ih (putP (s.1 k) (s.2 k) (k + 1) s) (pb_wI (pb_wI w 52 (k + 1) (nI (s.1 k))) 53 (k + 1) (nI (s.2 k))) (by omega) h' h3
      exact ⟨w', b1, b2, b3, fr_tr (fr_I (fr_I (fr_rf w) (by simp [fI_pr])) (by simp [fI_pr])) b4⟩
    · rw [if_neg q, if_neg q]
      exact put (k + 1) s w hk h h3
theorem lmul_gt {a b c d : Nat} (ha : a ≤ 20000) (hb : b ≤ 1000) (hc : c ≤ 20000) (hd : d ≤ 1000) : 0 < lg_cmp ((nI a).toInt64 * (nI b).toInt64) ((nI c).toInt64 * (nI d).toInt64) ↔ c * d < a * b := by
  have h1 := mul_lt31 ha hb
  have h2 := mul_lt31 hc hd
  rw [lg_gt, nI_to64 (by omega), nI_to64 (by omega), nI_to64 (by omega), nI_to64 (by omega), lN_mul, lN_mul, pk_lLT (by omega) (by omega)]
theorem mx_ins {p u c i : Nat} (hp : p ≤ 20000) (hu : 1 ≤ u) (hu2 : u ≤ 1000) (hc : c < 200) (hi : i < 200) (a1 a2 a3 a4 a6 : Int32) : ∀ (k : Nat) (s : PU) (w : pb_W), k ≤ c → HR (w.1 122) (w.1 123) s c k → ∃ w', pb_run T_X12_price (125, [some (.ref 64), some (.int a1), some (.int a2), some (.int a3), some (.int a4), some (.int (nI c)), some (.int a6), some (.int (nI i)), some (.int (nI p)), some (.int (nI u)), some (.int (nI k))], [], w) = pb_run T_X12_price (54, [some (.ref 64), some (.int a1), some (.int a2), some (.int a3), some (.int a4), some (.int (nI (c + 1))), some (.int (a6 ||| ((1 : Int32) <<< (w.1 70 i &&& 31)))), some (.int (nI (i + 1))), none, none, none], [], w') ∧ FR (w'.1 122) (w'.1 123) (insP p u k s) (c + 1) ∧ fr fI_pm fJ_no w w' := by
  have i2 : pb_in (nI i) 200 := pn_in (by omega) (by decide)
  have put : ∀ (k : Nat) (s : PU) (w : pb_W), k ≤ c → HR (w.1 122) (w.1 123) s c k → ∃ w', pb_run T_X12_price (200, [some (.ref 64), some (.int a1), some (.int a2), some (.int a3), some (.int a4), some (.int (nI c)), some (.int a6), some (.int (nI i)), some (.int (nI p)), some (.int (nI u)), some (.int (nI k))], [], w) = pb_run T_X12_price (54, [some (.ref 64), some (.int a1), some (.int a2), some (.int a3), some (.int a4), some (.int (nI (c + 1))), some (.int (a6 ||| ((1 : Int32) <<< (w.1 70 i &&& 31)))), some (.int (nI (i + 1))), none, none, none], [], w') ∧ FR (w'.1 122) (w'.1 123) (putP p u k s) (c + 1) ∧ fr fI_pm fJ_no w w' := by
    intro k s w hk h
    have k2 : pb_in (nI k) 200 := pn_in (by omega) (by decide)
    refine ⟨pb_wI (pb_wI w 122 k (nI p)) 123 k (nI u), ?_, HR_put h hp hu hu2, fr_I (fr_I (fr_rf w) (by simp [fI_pm])) (by simp [fI_pm])⟩
    rw [r_X12_price_200, if_pos k2, if_pos k2, if_pos i2, nI_clamp (show k < 2 ^ 31 by omega), nI_clamp (show i < 2 ^ 31 by omega), nI_1, nI_1]
  intro k
  induction k with
  | zero =>
    intro s w hk h
    rw [r_X12_price_125, if_neg (show ¬ (0 : Int32) < nI 0 by decide)]
    exact put 0 s w hk h
  | succ k ih =>
    intro s w hk h
    have k2 : pb_in (nI k) 200 := pn_in (by omega) (by decide)
    have k3 : pb_in (nI (k + 1)) 200 := pn_in (by omega) (by decide)
    have e1 : nI (k + 1) - (1 : Int32) = nI k := nI_subN (a := k + 1) (b := 1) (by omega)
    obtain ⟨b1, b2, b3, b4, b5⟩ := h k (by omega) (by omega)
    rw [r_X12_price_125, if_pos (show (0 : Int32) < nI (k + 1) from nI_lt (a := 0) (by omega) (by omega)), e1, if_pos k2, if_pos k2, if_pos k2, if_pos k3, if_pos k2, if_pos k3, nI_clamp (show k < 2 ^ 31 by omega), nI_clamp (show k + 1 < 2 ^ 31 by omega), b1, b2, insP, nI_dec]
    by_cases q : p * s.2 k < s.1 k * u
    · rw [if_pos q, if_pos ((lmul_gt b3 hu2 hp b5).mpr q)]
      have h' := HR_shift h hk
      rw [b1, b2] at h'
      obtain ⟨w', c1, c2, c3⟩ := ih (putP (s.1 k) (s.2 k) (k + 1) s) (pb_wI (pb_wI w 122 (k + 1) (nI (s.1 k))) 123 (k + 1) (nI (s.2 k))) (by omega) h'
      exact ⟨w', c1, c2, fr_tr (fr_I (fr_I (fr_rf w) (by simp [fI_pm])) (by simp [fI_pm])) c3⟩
    · rw [if_neg q, if_neg (fun z => q ((lmul_gt b3 hu2 hp b5).mp z))]
      exact put (k + 1) s w hk h
