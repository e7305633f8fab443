/-! ===== FEED ===== -/
def iv_A (w : pb_W) : Prop := ∃ n, n ≤ 600 ∧ w.1 21 1 = nI n ∧ w.1 64 28 = nI n ∧ w.1 82 = w.1 22
abbrev by1 (a s : Int32) : Int32 := vp_nar .byte ((a >>> (s &&& 31)).toInt8.toInt32)
abbrev by4 (f : Nat → Int32) (n : Nat) (a : Int32) : Nat → Int32 := upd (upd (upd (upd f n (by1 a 24)) (n + 1) (by1 a 16)) (n + 2) (by1 a 8)) (n + 3) (by1 a 0)
abbrev fI_A : Nat → Nat → Prop := fun c k => (c = 21 ∧ k = 1) ∨ c = 22
abbrev fI_B : Nat → Nat → Prop := fun c k => (c = 64 ∧ k = 28) ∨ c = 82
theorem M_appendFour {a : Int32} {n : Nat} {w : pb_W} (hn : n + 4 ≤ 600) (h : w.1 21 1 = nI n) : ∃ w', M_X5_appendFour [.ref 21, .int a] w = some (none, w') ∧ w'.1 21 1 = nI (n + 4) ∧ w'.1 22 = by4 (w.1 22) n a ∧ fr fI_A fJ_no w w' := by
  have st : ∀ (s : Int32) (v : pb_W) (m : Nat), ¬ s < 0 → m < 600 → v.1 21 1 = nI m → pb_run T_X5_appendFour (3, [some (.ref 21), some (.int a), some (.int s)], [], v) = pb_run T_X5_appendFour (3, [some (.ref 21), some (.int a), some (.int (s + (-8 : Int32)))], [], pb_wI (pb_wI v 22 m (by1 a s)) 21 1 (nI (m + 1))) := by
    intro s v m hs hm hv
    rw [r_X5_appendFour_3, if_neg hs, hv, if_pos (show nI m < (600 : Int32) from nI_lt (b := 600) hm (by decide)), if_pos (pn_in hm (by decide)), nI_clamp (show m < 2 ^ 31 by omega), nI_1]
  refine ⟨pb_wI (pb_wI (pb_wI (pb_wI (pb_wI (pb_wI (pb_wI (pb_wI w 22 n (by1 a 24)) 21 1 (nI (n + 1))) 22 (n + 1) (by1 a 16)) 21 1 (nI (n + 1 + 1))) 22 (n + 2) (by1 a 8)) 21 1 (nI (n + 2 + 1))) 22 (n + 3) (by1 a 0)) 21 1 (nI (n + 3 + 1)), ?_, rfl, rfl, ?_⟩
  · rw [e_X5_appendFour, st 24 w n (by decide) (by omega) h, show (24 : Int32) + -8 = 16 by decide, st 16 _ (n + 1) (by decide) (by omega) rfl, show (16 : Int32) + -8 = 8 by decide, st 8 _ (n + 2) (by decide) (by omega) rfl, show (8 : Int32) + -8 = 0 by decide, st 0 _ (n + 3) (by decide) (by omega) rfl, r_X5_appendFour_3, if_pos (show (0 : Int32) + -8 < 0 by decide)]
  · exact fr_I (fr_I (fr_I (fr_I (fr_I (fr_I (fr_I (fr_I (fr_rf w) (by simp [fI_A])) (by simp [fI_A])) (by simp [fI_A])) (by simp [fI_A])) (by simp [fI_A])) (by simp [fI_A])) (by simp [fI_A])) (by simp [fI_A])
theorem M_four {a : Int32} {n : Nat} {w : pb_W} (hn : n + 4 ≤ 600) (h : w.1 64 28 = nI n) : ∃ w', M_X12_four [.ref 64, .int a] w = some (none, w') ∧ w'.1 64 28 = nI (n + 4) ∧ w'.1 82 = by4 (w.1 82) n a ∧ fr fI_B fJ_no w w' := by
  have st : ∀ (s : Int32) (v : pb_W) (m : Nat), ¬ s < 0 → m < 600 → v.1 64 28 = nI m → pb_run T_X12_four (3, [some (.ref 64), some (.int a), some (.int s)], [], v) = pb_run T_X12_four (3, [some (.ref 64), some (.int a), some (.int (s + (-8 : Int32)))], [], pb_wI (pb_wI v 82 m (by1 a s)) 64 28 (nI (m + 1))) := by
    intro s v m hs hm hv
    rw [r_X12_four_3, if_neg hs, hv, if_pos (pn_in hm (by decide)), nI_clamp (show m < 2 ^ 31 by omega), nI_1]
  refine ⟨pb_wI (pb_wI (pb_wI (pb_wI (pb_wI (pb_wI (pb_wI (pb_wI w 82 n (by1 a 24)) 64 28 (nI (n + 1))) 82 (n + 1) (by1 a 16)) 64 28 (nI (n + 1 + 1))) 82 (n + 2) (by1 a 8)) 64 28 (nI (n + 2 + 1))) 82 (n + 3) (by1 a 0)) 64 28 (nI (n + 3 + 1)), ?_, rfl, rfl, ?_⟩
  · rw [e_X12_four, st 24 w n (by decide) (by omega) h, show (24 : Int32) + -8 = 16 by decide, st 16 _ (n + 1) (by decide) (by omega) rfl, show (16 : Int32) + -8 = 8 by decide, st 8 _ (n + 2) (by decide) (by omega) rfl, show (8 : Int32) + -8 = 0 by decide, st 0 _ (n + 3) (by decide) (by omega) rfl, r_X12_four_3, if_pos (show (0 : Int32) + -8 < 0 by decide)]
  · exact fr_I (fr_I (fr_I (fr_I (fr_I (fr_I (fr_I (fr_I (fr_rf w) (by simp [fI_B])) (by simp [fI_B])) (by simp [fI_B])) (by simp [fI_B])) (by simp [fI_B])) (by simp [fI_B])) (by simp [fI_B])) (by simp [fI_B])
abbrev fI_AB : Nat → Nat → Prop := fun c k => (c = 21 ∧ k = 1) ∨ c = 22 ∨ (c = 64 ∧ k = 28) ∨ c = 82
theorem fr_AB {w w' : pb_W} (h : fr fI_A fJ_no w w') : fr fI_AB fJ_no w w' := ⟨fun c k q => h.1 c k (fun z => q (z.elim Or.inl (fun z => Or.inr (Or.inl z)))), h.2⟩
theorem fr_BB {w w' : pb_W} (h : fr fI_B fJ_no w w') : fr fI_AB fJ_no w w' := ⟨fun c k q => h.1 c k (fun z => q (Or.inr (Or.inr z))), h.2⟩
theorem x_feed (a1 a2 a3 a4 a5 : Int32) (w : pb_W) (hA : iv_A w) : ∃ x w1 w2, M_X11_feed [.ref 0, .int a1, .int a2, .int a3, .int a4, .int a5] w = some (some (.int x), w1) ∧ M_X12_feed [.ref 64, .int a1, .int a2, .int a3, .int a4, .int a5] w1 = some (some (.int x), w2) ∧ fr fI_AB fJ_no w w2 ∧ iv_A w2 := by
  have hA' := hA
  obtain ⟨n, hn, h1, h2, h3⟩ := hA
  have e20 : nI n + (20 : Int32) = nI (n + 20) := nI_add n 20
  by_cases h : 600 < n + 20
  · have q : (600 : Int32) < nI (n + 20) := nI_lt (a := 600) h (by omega)
    refine ⟨-1, w, w, ?_, ?_, fr_rf w, hA'⟩
    · rw [e_X11_feed, e_X5_append, h1, e20, if_pos q, pb_bI_some]
    · rw [e_X12_feed, h2, e20, if_pos q]
  · have q : ¬ (600 : Int32) < nI (n + 20) := fun z => h ((nI_ltI (a := 600) (by decide) (by omega)).mp z)
    obtain ⟨w1, m1, k1, t1, f1⟩ := M_appendFour (a := a1) (n := n) (w := w) (by omega) h1
    obtain ⟨w2, m2, k2, t2, f2⟩ := M_appendFour (a := a2) (n := n + 4) (w := w1) (by omega) k1
    obtain ⟨w3, m3, k3, t3, f3⟩ := M_appendFour (a := a3) (n := n + 4 + 4) (w := w2) (by omega) k2
    obtain ⟨w4, m4, k4, t4, f4⟩ := M_appendFour (a := a4) (n := n + 4 + 4 + 4) (w := w3) (by omega) k3
    obtain ⟨w5, m5, k5, t5, f5⟩ := M_appendFour (a := a5) (n := n + 4 + 4 + 4 + 4) (w := w4) (by omega) k4
    have F := fr_tr (fr_tr (fr_tr (fr_tr f1 f2) f3) f4) f5
    have j0 : w5.1 64 28 = nI n := (F.1 64 28 (by simp [fI_A])).trans h2
    have u0 : w5.1 82 = w.1 22 := (fr_1 F 82 (by simp [fI_A])).trans h3
    obtain ⟨v1, o1, j1, u1, g1⟩ := M_four (a := a1) (n := n) (w := w5) (by omega) j0
    obtain ⟨v2, o2, j2, u2, g2⟩ := M_four (a := a2) (n := n + 4) (w := v1) (by omega) j1
    obtain ⟨v3, o3, j3, u3, g3⟩ := M_four (a := a3) (n := n + 4 + 4) (w := v2) (by omega) j2
    obtain ⟨v4, o4, j4, u4, g4⟩ := M_four (a := a4) (n := n + 4 + 4 + 4) (w := v3) (by omega) j3
    obtain ⟨v5, o5, j5, u5, g5⟩ := M_four (a := a5) (n := n + 4 + 4 + 4 + 4) (w := v4) (by omega) j4
    have G := fr_tr (fr_tr (fr_tr (fr_tr g1 g2) g3) g4) g5
    refine ⟨nI (n + 4 + 4 + 4 + 4 + 4), w5, v5, ?_, ?_, fr_tr (fr_AB F) (fr_BB G), n + 4 + 4 + 4 + 4 + 4, by omega, ?_, j5, ?_⟩
    · rw [e_X11_feed, e_X5_append, h1, e20, if_neg q, m1, pb_bV_some, m2, pb_bV_some, m3, pb_bV_some, m4, pb_bV_some, m5, pb_bV_some, pb_bI_some, k5]
    · rw [e_X12_feed, j0, e20, if_neg q, o1, pb_bV_some, o2, pb_bV_some, o3, pb_bV_some, o4, pb_bV_some, o5, pb_bV_some, j5]
    · exact (G.1 21 1 (by simp [fI_B])).trans k5
    · rw [u5, u4, u3, u2, u1, u0, fr_1 G 22 (by simp [fI_B]), t5, t4, t3, t2, t1]
