/-! ===== EDITION: bytes, the text ===== -/
theorem nar_eq (x : Int32) : vp_nar .byte x = x.toInt8.toInt32 := rfl
theorem nar_bY (x : Int32) : bY (vp_nar .byte x) := by
  rw [nar_eq]
  unfold bY
  rw [Int8.toInt_toInt32]
  have a := Int8.le_toInt x.toInt8
  have b := Int8.toInt_lt x.toInt8
  exact ⟨by omega, by omega⟩
theorem nar_id {x : Int32} (h : bY x) : vp_nar .byte x = x := by
  rw [nar_eq]
  apply Int32.toInt_inj.mp
  rw [Int8.toInt_toInt32, Int32.toInt_toInt8]
  obtain ⟨a, b⟩ := h
  exact Int.bmod_eq_of_le (by omega) (by omega)
def iv_Y (w : pb_W) : Prop := ∀ k, bY (w.1 22 k)
theorem by4_bY {f : Nat → Int32} (h : ∀ k, bY (f k)) (n : Nat) (a : Int32) : ∀ k, bY (by4 f n a k) := by
  intro k
  show bY (upd _ _ _ k)
  rw [pu_at]; split
  · exact nar_bY _
  · rw [pu_at]; split
    · exact nar_bY _
    · rw [pu_at]; split
      · exact nar_bY _
      · rw [pu_at]; split
        · exact nar_bY _
        · exact h k
theorem x_feedY (a1 a2 a3 a4 a5 : Int32) (w : pb_W) (hA : iv_A w) (hY : iv_Y w) : ∃ x w1 w2, M_X11_feed [.ref 0, .int a1, .int a2, .int a3, .int a4, .int a5] w = some (some (.int x), w1) ∧ M_X12_feed [.ref 64, .int a1, .int a2, .int a3, .int a4, .int a5] w1 = some (some (.int x), w2) ∧ fr fI_AB fJ_no w w2 ∧ iv_A w2 ∧ iv_Y w2 := by
  obtain ⟨x, w1, w2, c1, c2, c3, c4⟩ := x_feed a1 a2 a3 a4 a5 w hA
  refine ⟨x, w1, w2, c1, c2, c3, c4, ?_⟩
  have hA' := hA
  obtain ⟨n, hn, h1, h2, h3⟩ := hA
  have e20 : nI n + (20 : Int32) = nI (n + 20) := nI_add n 20
  have t22 : ∀ k, bY (w1.1 22 k) := by
    by_cases h : 600 < n + 20
    · have q : (600 : Int32) < nI (n + 20) := nI_lt (a := 600) h (by omega)
      rw [e_X11_feed, e_X5_append, h1, e20, if_pos q, pb_bI_some] at c1
      injection c1 with c1
      injection c1 with _ c1
      rw [← c1]
      exact hY
    · have q : ¬ (600 : Int32) < nI (n + 20) := fun z => h ((nI_ltI (a := 600) (by decide) (by omega)).mp z)
      obtain ⟨v1, m1, k1, t1, f1⟩ := M_appendFour (a := a1) (n := n) (w := w) (by omega) h1
      obtain ⟨v2, m2, k2, t2, f2⟩ := M_appendFour (a := a2) (n := n + 4) (w := v1) (by omega) k1
      obtain ⟨v3, m3, k3, t3, f3⟩ := M_appendFour (a := a3) (n := n + 4 + 4) (w := v2) (by omega) k2
      obtain ⟨v4, m4, k4, t4, f4⟩ := M_appendFour (a := a4) (n := n + 4 + 4 + 4) (w := v3) (by omega) k3
      obtain ⟨v5, m5, k5, t5, f5⟩ := M_appendFour (a := a5) (n := n + 4 + 4 + 4 + 4) (w := v4) (by omega) k4
      rw [e_X11_feed, e_X5_append, h1, e20, if_neg q, m1, pb_bV_some, m2, pb_bV_some, m3, pb_bV_some, m4, pb_bV_some, m5, pb_bV_some, pb_bI_some] at c1
      injection c1 with c1
      injection c1 with _ c1
      rw [← c1, t5, t4, t3, t2, t1]
      exact by4_bY (by4_bY (by4_bY (by4_bY (by4_bY hY _ _) _ _) _ _) _ _) _ _
  obtain ⟨m, d1, d2, d3, d4⟩ := c4
  intro k
  have E : w2.1 22 k = w1.1 22 k := by
    by_cases h : 600 < n + 20
    · have q : (600 : Int32) < nI (n + 20) := nI_lt (a := 600) h (by omega)
      rw [e_X11_feed, e_X5_append, h1, e20, if_pos q, pb_bI_some] at c1
      injection c1 with c1
      injection c1 with _ c1
      rw [e_X12_feed, ← c1, h2, e20, if_pos q] at c2
      injection c2 with c2
      injection c2 with _ c2
      rw [← c1, ← c2]
    · have q : ¬ (600 : Int32) < nI (n + 20) := fun z => h ((nI_ltI (a := 600) (by decide) (by omega)).mp z)
      have j0 : w1.1 64 28 = nI n := by
        obtain ⟨v1, m1, k1, t1, f1⟩ := M_appendFour (a := a1) (n := n) (w := w) (by omega) h1
        obtain ⟨v2, m2, k2, t2, f2⟩ := M_appendFour (a := a2) (n := n + 4) (w := v1) (by omega) k1
        obtain ⟨v3, m3, k3, t3, f3⟩ := M_appendFour (a := a3) (n := n + 4 + 4) (w := v2) (by omega) k2
        obtain ⟨v4, m4, k4, t4, f4⟩ := M_appendFour (a := a4) (n := n + 4 + 4 + 4) (w := v3) (by omega) k3
        obtain ⟨v5, m5, k5, t5, f5⟩ := M_appendFour (a := a5) (n := n + 4 + 4 + 4 + 4) (w := v4) (by omega) k4
        rw [e_X11_feed, e_X5_append, h1, e20, if_neg q, m1, pb_bV_some, m2, pb_bV_some, m3, pb_bV_some, m4, pb_bV_some, m5, pb_bV_some, pb_bI_some] at c1
        injection c1 with c1
        injection c1 with _ c1
        have F := fr_tr (fr_tr (fr_tr (fr_tr f1 f2) f3) f4) f5
        rw [← c1]
        exact (F.1 64 28 (by simp [fI_A])).trans h2
      obtain ⟨v1, o1, j1, u1, g1⟩ := M_four (a := a1) (n := n) (w := w1) (by omega) j0
      obtain ⟨v2, o2, j2, u2, g2⟩ := M_four (a := a2) (n := n + 4) (w := v1) (by omega) j1
      obtain ⟨v3, o3, j3, u3, g3⟩ := M_four (a := a3) (n := n + 4 + 4) (w := v2) (by omega) j2
      obtain ⟨v4, o4, j4, u4, g4⟩ := M_four (a := a4) (n := n + 4 + 4 + 4) (w := v3) (by omega) j3
      obtain ⟨v5, o5, j5, u5, g5⟩ := M_four (a := a5) (n := n + 4 + 4 + 4 + 4) (w := v4) (by omega) j4
      rw [e_X12_feed, j0, e20, if_neg q, o1, pb_bV_some, o2, pb_bV_some, o3, pb_bV_some, o4, pb_bV_some, o5, pb_bV_some] at c2
      injection c2 with c2
      injection c2 with _ c2
      have G := fr_tr (fr_tr (fr_tr (fr_tr g1 g2) g3) g4) g5
      rw [← c2]
      exact G.1 22 k (by simp [fI_B])
  rw [E]
  exact t22 k
theorem ty_0 {k : Nat} : tyK k = 0 ↔ k = 15 := by
  unfold tyK
  by_cases a : k = 15
  · rw [if_pos a]; omega
  · rw [if_neg a]
    by_cases c : k = 16
    · rw [if_pos c]; omega
    · rw [if_neg c]
      by_cases d : k ≤ 13
      · rw [if_pos d]; omega
      · rw [if_neg d]
        by_cases f : k = 14
        · rw [if_pos f]; omega
        · rw [if_neg f]; omega
theorem pw_Fid (w : pb_W) (c : Nat) : pb_wF w c (w.1 c) = w := by
  refine Prod.ext (funext fun d => ?_) rfl
  rw [pw_F1]
  split
  · rename_i h; rw [h]
  · rfl
theorem pw_IF (w : pb_W) (c k : Nat) (g : Nat → Int32) (v : Int32) : pb_wF (pb_wI w c k v) c g = pb_wF w c g := by
  refine Prod.ext (funext fun d => ?_) rfl
  rw [pw_F1, pw_F1, pw_I1]
  split <;> rfl
theorem ed_copy {n : Nat} (hn : n ≤ 600) : ∀ (m j : Nat) (w : pb_W), j + m = n → (∀ k, bY (w.1 82 k)) → pb_run T_X12_edition (39, [some (.ref 64), some (.int (nI n)), some (.int (nI j)), none, none], [], w) = pb_run T_X12_edition (39, [some (.ref 64), some (.int (nI n)), some (.int (nI n)), none, none], [], pb_wF w 83 (fun k => if j ≤ k ∧ k < n then w.1 82 k else w.1 83 k)) := by
  intro m
  induction m with
  | zero =>
    intro j w h hb
    have : j = n := by omega
    subst this
    rw [show (fun k => if j ≤ k ∧ k < j then w.1 82 k else w.1 83 k) = w.1 83 from funext fun k => if_neg (by omega), pw_Fid]
  | succ m ih =>
    intro j w h hb
    rw [r_X12_edition_39, if_pos (nI_lt (show j < n by omega) (by omega)), if_pos (pn_in (show j < 600 by omega) (by decide)), if_pos (pn_in (show j < 600 by omega) (by decide)), nI_clamp (show j < 2 ^ 31 by omega), nI_1, nar_id (hb j), ih (j + 1) (pb_wI w 83 j (w.1 82 j)) (by omega) (fun k => hb k), pw_IF]
    refine congrArg (fun f => pb_run T_X12_edition (39, [some (.ref 64), some (.int (nI n)), some (.int (nI n)), none, none], [], pb_wF w 83 f)) (funext fun k => ?_)
    show (if j + 1 ≤ k ∧ k < n then w.1 82 k else upd (w.1 83) j (w.1 82 j) k) = _
    rw [pu_at]
    by_cases q : k = j
    · subst q
      rw [if_neg (by omega), if_pos rfl, if_pos (by omega)]
    · rw [if_neg q]
      by_cases z : j + 1 ≤ k ∧ k < n
      · rw [if_pos z, if_pos (by omega)]
      · rw [if_neg z, if_neg (by omega)]
