/-! ===== PURE: reading worlds, numbers ===== -/
theorem pw_I1 (w : pb_W) (c k : Nat) (v : Int32) (d : Nat) : (pb_wI w c k v).1 d = if d = c then upd (w.1 c) k v else w.1 d := rfl
theorem pw_I2 (w : pb_W) (c k : Nat) (v : Int32) : (pb_wI w c k v).2 = w.2 := rfl
theorem pw_L1 (w : pb_W) (c k : Nat) (v : Int64) : (pb_wL w c k v).1 = w.1 := rfl
theorem pw_L2 (w : pb_W) (c k : Nat) (v : Int64) (d : Nat) : (pb_wL w c k v).2 d = if d = c then vp_updL (w.2 c) k v else w.2 d := rfl
theorem pw_F1 (w : pb_W) (c : Nat) (f : Nat → Int32) (d : Nat) : (pb_wF w c f).1 d = if d = c then f else w.1 d := rfl
theorem pw_F2 (w : pb_W) (c : Nat) (f : Nat → Int32) : (pb_wF w c f).2 = w.2 := rfl
theorem pw_G1 (w : pb_W) (c : Nat) (f : Nat → Int64) : (pb_wG w c f).1 = w.1 := rfl
theorem pw_G2 (w : pb_W) (c : Nat) (f : Nat → Int64) (d : Nat) : (pb_wG w c f).2 d = if d = c then f else w.2 d := rfl
theorem pu_at (f : Nat → Int32) (k : Nat) (v : Int32) (j : Nat) : upd f k v j = if j = k then v else f j := rfl
theorem pu_atL (f : Nat → Int64) (k : Nat) (v : Int64) (j : Nat) : vp_updL f k v j = if j = k then v else f j := rfl
theorem pn_lt {a b : Int32} : a < b ↔ a.toInt < b.toInt := Int32.lt_iff_toInt_lt
theorem pn_le {a b : Int32} : a ≤ b ↔ a.toInt ≤ b.toInt := Int32.le_iff_toInt_le
theorem pn_in {n N : Nat} (h : n < N) (hN : N < 2 ^ 31) : pb_in (nI n) N := vp_in_iff.mp (vp_in_nI h hN)
theorem pn_inI {x : Int32} {N : Nat} (h : pb_in x N) (hN : N < 2 ^ 31) : ∃ n, n < N ∧ x = nI n := by
  obtain ⟨j, h1, h2⟩ := vp_in_of (pb_in_vp h) hN
  exact ⟨j, h1, h2⟩
/-- a number between two others -/
theorem pn_of {x : Int32} {N : Nat} (h0 : ¬ x < 0) (h1 : ¬ nI N < x) (hN : N < 2 ^ 31) : ∃ n, n ≤ N ∧ x = nI n := by
  obtain ⟨j, hj, rfl⟩ := nI_of h0
  refine ⟨j, ?_, rfl⟩
  rcases Nat.lt_or_ge N j with q | q
  · exact absurd ((nI_ltI hN hj).mpr q) h1
  · exact q
/-- outside(): the test that every face method asks -/
theorem M_outside (a b c : Int32) (w : pb_W) : M_X11_outside [.int a, .int b, .int c] w = some (some (.int (if a < b ∨ c < a then 1 else 0)), w) := by
  rw [e_X11_outside]
  by_cases h1 : a < b
  · simp [h1]
  · by_cases h2 : c < a <;> simp [h1, h2]
theorem pn_neg1 : (-1 : Int32) ≠ 0 := by decide
theorem pn_m1 (n : Nat) (h : n < 2 ^ 31) : nI n ≠ -1 := fun q => by
  have := nI_toInt h
  rw [q] at this
  have e : (-1 : Int32).toInt = -1 := by decide
  rw [e] at this
  omega
theorem pn_mul (a b : Nat) : nI a * nI b = nI (a * b) := pk_mul a b
theorem pn_lit (n : Nat) : (OfNat.ofNat n : Int32) = nI n := rfl
theorem pb_bV_ite {α : Type} (c : Prop) [Decidable c] (a b : Option pb_R) (k : pb_W → Option α) : pb_bV (if c then a else b) k = if c then pb_bV a k else pb_bV b k := by split <;> rfl
