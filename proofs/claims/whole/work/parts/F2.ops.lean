/-! ===== THE 39 AGREEMENTS UNDER THE INVARIANT ===== -/
/-- the cells of lines and editions -/
abbrev nI_SL : Nat → Nat → Prop := fun c k => (c = 5 ∧ k ≠ 0) ∨ (8 ≤ c ∧ c ≤ 19) ∨ (c = 25 ∧ k = 1) ∨ (27 ≤ c ∧ c ≤ 29) ∨ (c = 64 ∧ ((7 ≤ k ∧ k ≤ 10) ∨ (37 ≤ k ∧ k ≤ 39))) ∨ (70 ≤ c ∧ c ≤ 78) ∨ c = 81 ∨ (84 ≤ c ∧ c ≤ 99)
def SL (w v : pb_W) : Prop := (∀ c k, nI_SL c k → v.1 c k = w.1 c k) ∧ ∀ c k, nJ_BS c k → v.2 c k = w.2 c k
theorem SL_of {I J : Nat → Nat → Prop} {w v : pb_W} (h : fr I J w v) (hi : ∀ c k, I c k → ¬ nI_SL c k) (hj : ∀ c k, J c k → ¬ nJ_BS c k) : SL w v := ⟨fun c k q => h.1 c k (fun z => hi c k z q), fun c k q => h.2 c k (fun z => hj c k z q)⟩
theorem SL_c {w v : pb_W} (h : SL w v) {c : Nat} (hc : 8 ≤ c ∧ c ≤ 19) : v.1 c = w.1 c := funext fun k => h.1 c k (Or.inr (Or.inl hc))
theorem SL_d {w v : pb_W} (h : SL w v) {c : Nat} (hc : 70 ≤ c ∧ c ≤ 78) : v.1 c = w.1 c := funext fun k => h.1 c k (Or.inr (Or.inr (Or.inr (Or.inr (Or.inr (Or.inl hc))))))
theorem SL_5 {w v : pb_W} (h : SL w v) {k : Nat} (hk : k ≠ 0) : v.1 5 k = w.1 5 k := h.1 5 k (Or.inl ⟨rfl, hk⟩)
theorem SL_64 {w v : pb_W} (h : SL w v) {k : Nat} (hk : (7 ≤ k ∧ k ≤ 10) ∨ (37 ≤ k ∧ k ≤ 39)) : v.1 64 k = w.1 64 k := h.1 64 k (Or.inr (Or.inr (Or.inr (Or.inr (Or.inl ⟨rfl, hk⟩)))))
theorem SL_BJ {w v : pb_W} {n : Nat} {Es : List (List Rl)} (h : SL w v) (hB : BS w n Es) (hJ : iv_J w Es n) : BS v n Es ∧ iv_J v Es n := by
  have F : fr (fun c k => ¬ nI_SL c k) (fun c k => ¬ nJ_BS c k) w v := ⟨fun c k q => h.1 c k (Classical.not_not.mp q), fun c k q => h.2 c k (Classical.not_not.mp q)⟩
  have L2 : iv_L v := iv_L_fr F (fun k q z => z (Or.inl ⟨rfl, by omega⟩)) (fun k q z => z (Or.inr (Or.inr (Or.inr (Or.inr (Or.inl ⟨rfl, Or.inl (by omega)⟩)))))) (fun c q k z => z (by
    rcases q with q | q | q
    · exact Or.inr (Or.inl (by omega))
    · exact Or.inr (Or.inr (Or.inr (Or.inr (Or.inr (Or.inl q)))))
    · exact Or.inr (Or.inr (Or.inr (Or.inr (Or.inr (Or.inr (Or.inl q)))))))) (fun c q k z => z (by
    rcases q with q | q
    · exact Or.inr (Or.inl q)
    · exact Or.inl q)) hB.1
  have hN := hB.2.1
  have N2 : LN v n := by
    refine ⟨hN.le, ?_, ?_, ?_, ?_, ?_, ?_, ?_, ?_, ?_, ?_, ?_⟩
    · rw [SL_5 h (by decide)]; exact hN.n5
    · rw [SL_64 h (by decide)]; exact hN.n7
    · rw [SL_d h (by decide), SL_c h (by decide)]; exact hN.g70
    · rw [SL_d h (by decide), SL_c h (by decide)]; exact hN.g71
    · rw [SL_d h (by decide), SL_c h (by decide)]; exact hN.g74
    · rw [SL_d h (by decide), SL_c h (by decide)]; exact hN.g75
    · rw [SL_64 h (by decide), SL_5 h (by decide)]; exact hN.d10
    · unfold wkN; rw [SL_c h (by decide)]; exact hN.wk
    · unfold pcN; rw [SL_c h (by decide)]; exact hN.pc
    · rw [SL_c h (by decide)]; exact hN.hd
    · rw [SL_c h (by decide)]; exact hN.fm
  have E2 : EI v Es := EI_up hB.2.2 (fun c k q => h.1 c k (by
    rcases q with q | q | q | q
    · exact Or.inr (Or.inr (Or.inl q))
    · exact Or.inr (Or.inr (Or.inr (Or.inl (by omega))))
    · obtain ⟨rfl, q⟩ := q
      exact Or.inr (Or.inr (Or.inr (Or.inr (Or.inl ⟨rfl, Or.inr q⟩))))
    · exact Or.inr (Or.inr (Or.inr (Or.inr (Or.inr (Or.inr (Or.inr q)))))))) (fun c k q => h.2 c k (by
    rcases q with q | q
    · exact Or.inr (Or.inr (Or.inl q))
    · exact Or.inr (Or.inr (Or.inr q))))
  refine ⟨⟨L2, N2, E2⟩, fun E l h1 h2 => ?_⟩
  have e28 : v.1 28 = w.1 28 := funext fun k => h.1 28 k (Or.inr (Or.inr (Or.inr (Or.inl (by decide)))))
  have e29 : v.1 29 = w.1 29 := funext fun k => h.1 29 k (Or.inr (Or.inr (Or.inr (Or.inl (by decide)))))
  have e14 : v.2 14 = w.2 14 := funext fun k => h.2 14 k (Or.inl rfl)
  have e : ∀ p, evp v l p = evp w l p := fun p => by
    unfold evp
    rw [SL_c h (c := 9) (by decide), SL_c h (c := 10) (by decide), SL_c h (c := 12) (by decide), e14]
  rw [e28, e29, e]
  exact hJ E l h1 h2
theorem SL_all {w v : pb_W} {n : Nat} {Es : List (List Rl)} (h : SL w v) (hB : BS w n Es) (hJ : iv_J w Es n) (hLF : LF w n) (h50 : v.1 5 0 = w.1 5 0) (h646 : v.1 64 6 = w.1 64 6) : BS v n Es ∧ iv_J v Es n ∧ LF v n := by
  obtain ⟨a, b⟩ := SL_BJ h hB hJ
  refine ⟨a, b, ?_⟩
  unfold LF fmN
  rw [h50, h646, SL_c h (c := 8) (by decide)]
  exact hLF
theorem y_status  : pb_eqI Inv M_X11_status M_X12_status [.ref 0] [.ref 64] := by
  intro w hw
  have hw0 := hw
  obtain ⟨n, Es, hH, hR, hB, hJ, hLF⟩ := hw
  have hR0 := hR
  obtain ⟨hT, hF, hW, hS, hA, hO, hM, hD, hU, hG, hY, hQ⟩ := hR
  obtain ⟨x, e1, e2⟩ := x_status w hH
  exact ⟨x, w, w, e1, e2, hw0⟩
theorem y_top  : pb_eqL Inv M_X11_top M_X12_top [.ref 0] [.ref 64] := by
  intro w hw
  have hw0 := hw
  obtain ⟨n, Es, hH, hR, hB, hJ, hLF⟩ := hw
  have hR0 := hR
  obtain ⟨hT, hF, hW, hS, hA, hO, hM, hD, hU, hG, hY, hQ⟩ := hR
  obtain ⟨x, e1, e2⟩ := x_top w hH
  exact ⟨x, w, w, e1, e2, hw0⟩
theorem y_bottom  : pb_eqL Inv M_X11_bottom M_X12_bottom [.ref 0] [.ref 64] := by
  intro w hw
  have hw0 := hw
  obtain ⟨n, Es, hH, hR, hB, hJ, hLF⟩ := hw
  have hR0 := hR
  obtain ⟨hT, hF, hW, hS, hA, hO, hM, hD, hU, hG, hY, hQ⟩ := hR
  obtain ⟨x, e1, e2⟩ := x_bottom w hH
  exact ⟨x, w, w, e1, e2, hw0⟩
theorem y_fault (b0 : Int32) : pb_eqI Inv M_X11_fault M_X12_fault [.ref 0, .int b0] [.ref 64, .int b0] := by
  intro w hw
  have hw0 := hw
  obtain ⟨n, Es, hH, hR, hB, hJ, hLF⟩ := hw
  have hR0 := hR
  obtain ⟨hT, hF, hW, hS, hA, hO, hM, hD, hU, hG, hY, hQ⟩ := hR
  obtain ⟨x, e1, e2⟩ := x_fault b0 w hQ
  exact ⟨x, w, w, e1, e2, hw0⟩
theorem y_pence (b0 : Int32) : pb_eqI Inv M_X11_pence M_X12_pence [.ref 0, .int b0] [.ref 64, .int b0] := by
  intro w hw
  have hw0 := hw
  obtain ⟨n, Es, hH, hR, hB, hJ, hLF⟩ := hw
  have hR0 := hR
  obtain ⟨hT, hF, hW, hS, hA, hO, hM, hD, hU, hG, hY, hQ⟩ := hR
  obtain ⟨x, w1, w2, e1, e2, F, hH2, -⟩ := x_pence b0 w hH hB.1
  have G : fr fI_X fJ_X w w2 := fr_mn F (fun c k q => by
    rcases q with ⟨rfl, rfl⟩ | ⟨rfl, rfl⟩
    all_goals first | (simp [fI_X]; done) | (simp [fI_X]; omega) | exact Or.inr (Or.inr (Or.inr (Or.inr (Or.inr (Or.inr (Or.inr (Or.inl q)))))))) (fun c k q => q.elim)
  obtain ⟨r1, r2, r3⟩ := X_all G hR0 hB hLF
  exact ⟨x, w1, w2, e1, e2, n, Es, hH2, r1, r2, iv_J_sb (X_SB G) (fr_1 F 28 (fun k => by simp [fI_0])) (fr_1 F 29 (fun k => by simp [fI_0])) hJ, r3⟩
theorem y_mouths (b0 : Int32) (b1 : Int32) : pb_eqI Inv M_X11_mouths M_X12_mouths [.ref 0, .int b0, .int b1] [.ref 64, .int b0, .int b1] := by
  intro w hw
  have hw0 := hw
  obtain ⟨n, Es, hH, hR, hB, hJ, hLF⟩ := hw
  have hR0 := hR
  obtain ⟨hT, hF, hW, hS, hA, hO, hM, hD, hU, hG, hY, hQ⟩ := hR
  obtain ⟨x, w1, w2, e1, e2, F, hH2⟩ := x_mouths b0 b1 w hH hF hM hS
  have G : fr fI_X fJ_X w w2 := fr_mn F (fun c k q => by
    rcases q with ⟨rfl, rfl⟩ | ⟨rfl, rfl⟩
    all_goals first | (simp [fI_X]; done) | (simp [fI_X]; omega) | exact Or.inr (Or.inr (Or.inr (Or.inr (Or.inr (Or.inr (Or.inr (Or.inl q)))))))) (fun c k q => q.elim)
  obtain ⟨r1, r2, r3⟩ := X_all G hR0 hB hLF
  exact ⟨x, w1, w2, e1, e2, n, Es, hH2, r1, r2, iv_J_sb (X_SB G) (fr_1 F 28 (fun k => by simp [fI_0])) (fr_1 F 29 (fun k => by simp [fI_0])) hJ, r3⟩
theorem y_out (b0 : Int32) (b1 : Int32) : pb_eqI Inv M_X11_out M_X12_out [.ref 0, .int b0, .int b1] [.ref 64, .int b0, .int b1] := by
  intro w hw
  have hw0 := hw
  obtain ⟨n, Es, hH, hR, hB, hJ, hLF⟩ := hw
  have hR0 := hR
  obtain ⟨hT, hF, hW, hS, hA, hO, hM, hD, hU, hG, hY, hQ⟩ := hR
  obtain ⟨x, w1, w2, e1, e2, F, hH2⟩ := x_out b0 b1 w hH hF hB.1 hD
  have G : fr fI_X fJ_X w w2 := fr_mn F (fun c k q => by
    rcases q with ⟨rfl, rfl⟩ | ⟨rfl, rfl⟩
    all_goals first | (simp [fI_X]; done) | (simp [fI_X]; omega) | exact Or.inr (Or.inr (Or.inr (Or.inr (Or.inr (Or.inr (Or.inr (Or.inl q)))))))) (fun c k q => q.elim)
  obtain ⟨r1, r2, r3⟩ := X_all G hR0 hB hLF
  exact ⟨x, w1, w2, e1, e2, n, Es, hH2, r1, r2, iv_J_sb (X_SB G) (fr_1 F 28 (fun k => by simp [fI_0])) (fr_1 F 29 (fun k => by simp [fI_0])) hJ, r3⟩
theorem y_weight (b0 : Int32) : pb_eqI Inv M_X11_weight M_X12_weight [.ref 0, .int b0] [.ref 64, .int b0] := by
  intro w hw
  have hw0 := hw
  obtain ⟨n, Es, hH, hR, hB, hJ, hLF⟩ := hw
  have hR0 := hR
  obtain ⟨hT, hF, hW, hS, hA, hO, hM, hD, hU, hG, hY, hQ⟩ := hR
  obtain ⟨x, w1, w2, e1, e2, F, hH2⟩ := x_weight b0 w hH hG
  have G : fr fI_X fJ_X w w2 := fr_mn F (fun c k q => by
    rcases q with ⟨rfl, rfl⟩ | ⟨rfl, rfl⟩
    all_goals first | (simp [fI_X]; done) | (simp [fI_X]; omega) | exact Or.inr (Or.inr (Or.inr (Or.inr (Or.inr (Or.inr (Or.inr (Or.inl q)))))))) (fun c k q => q.elim)
  obtain ⟨r1, r2, r3⟩ := X_all G hR0 hB hLF
  exact ⟨x, w1, w2, e1, e2, n, Es, hH2, r1, r2, iv_J_sb (X_SB G) (fr_1 F 28 (fun k => by simp [fI_0])) (fr_1 F 29 (fun k => by simp [fI_0])) hJ, r3⟩
theorem y_gaps (b0 : Int32) : pb_eqI Inv M_X11_gaps M_X12_gaps [.ref 0, .int b0] [.ref 64, .int b0] := by
  intro w hw
  have hw0 := hw
  obtain ⟨n, Es, hH, hR, hB, hJ, hLF⟩ := hw
  have hR0 := hR
  obtain ⟨hT, hF, hW, hS, hA, hO, hM, hD, hU, hG, hY, hQ⟩ := hR
  obtain ⟨x, w1, w2, e1, e2, F, hH2⟩ := x_gaps b0 w hH hF hB.1
  have G : fr fI_X fJ_X w w2 := fr_mn F (fun c k q => by
    rcases q with ⟨rfl, rfl⟩ | ⟨rfl, rfl⟩ | rfl | rfl
    all_goals first | (simp [fI_X]; done) | (simp [fI_X]; omega) | exact Or.inr (Or.inr (Or.inr (Or.inr (Or.inr (Or.inr (Or.inr (Or.inl q)))))))) (fun c k q => q.elim)
  obtain ⟨r1, r2, r3⟩ := X_all G hR0 hB hLF
  exact ⟨x, w1, w2, e1, e2, n, Es, hH2, r1, r2, iv_J_sb (X_SB G) (fr_1 F 28 (fun k => by simp)) (fr_1 F 29 (fun k => by simp)) hJ, r3⟩
theorem y_bound (b0 : Int32) (b1 : Int32) (b2 : Int32) (b3 : Int32) : pb_eqI Inv M_X11_bound M_X12_bound [.ref 0, .int b0, .int b1, .int b2, .int b3] [.ref 64, .int b0, .int b1, .int b2, .int b3] := by
  intro w hw
  have hw0 := hw
  obtain ⟨n, Es, hH, hR, hB, hJ, hLF⟩ := hw
  have hR0 := hR
  obtain ⟨hT, hF, hW, hS, hA, hO, hM, hD, hU, hG, hY, hQ⟩ := hR
  obtain ⟨x, w1, w2, e1, e2, F, hH2⟩ := x_bound b0 b1 b2 b3 w hH hF hB.1
  have G : fr fI_X fJ_X w w2 := fr_mn F (fun c k q => by
    rcases q with ⟨rfl, rfl⟩ | ⟨rfl, rfl⟩ | rfl | rfl
    all_goals first | (simp [fI_X]; done) | (simp [fI_X]; omega) | exact Or.inr (Or.inr (Or.inr (Or.inr (Or.inr (Or.inr (Or.inr (Or.inl q)))))))) (fun c k q => q.elim)
  obtain ⟨r1, r2, r3⟩ := X_all G hR0 hB hLF
  exact ⟨x, w1, w2, e1, e2, n, Es, hH2, r1, r2, iv_J_sb (X_SB G) (fr_1 F 28 (fun k => by simp [fI_Y])) (fr_1 F 29 (fun k => by simp [fI_Y])) hJ, r3⟩
theorem y_change (b0 : Int32) (b1 : Int32) : pb_eqI Inv M_X11_change M_X12_change [.ref 0, .int b0, .int b1] [.ref 64, .int b0, .int b1] := by
  intro w hw
  have hw0 := hw
  obtain ⟨n, Es, hH, hR, hB, hJ, hLF⟩ := hw
  have hR0 := hR
  obtain ⟨hT, hF, hW, hS, hA, hO, hM, hD, hU, hG, hY, hQ⟩ := hR
  obtain ⟨x, w1, w2, e1, e2, F, hH2⟩ := x_change b0 b1 w hH hF hB.1
  have G : fr fI_X fJ_X w w2 := fr_mn F (fun c k q => by
    rcases q with ⟨rfl, rfl⟩ | ⟨rfl, rfl⟩ | rfl | rfl
    all_goals first | (simp [fI_X]; done) | (simp [fI_X]; omega) | exact Or.inr (Or.inr (Or.inr (Or.inr (Or.inr (Or.inr (Or.inr (Or.inl q)))))))) (fun c k q => q.elim)
  obtain ⟨r1, r2, r3⟩ := X_all G hR0 hB hLF
  exact ⟨x, w1, w2, e1, e2, n, Es, hH2, r1, r2, iv_J_sb (X_SB G) (fr_1 F 28 (fun k => by simp)) (fr_1 F 29 (fun k => by simp)) hJ, r3⟩
theorem y_likes (b0 : Int32) (b1 : Int32) : pb_eqI Inv M_X11_likes M_X12_likes [.ref 0, .int b0, .int b1] [.ref 64, .int b0, .int b1] := by
  intro w hw
  have hw0 := hw
  obtain ⟨n, Es, hH, hR, hB, hJ, hLF⟩ := hw
  have hR0 := hR
  obtain ⟨hT, hF, hW, hS, hA, hO, hM, hD, hU, hG, hY, hQ⟩ := hR
  obtain ⟨x, w1, w2, e1, e2, F, hH2⟩ := x_likes b0 b1 w hH hF hB.1 hO
  have G : fr fI_X fJ_X w w2 := fr_mn F (fun c k q => by
    rcases q with ⟨rfl, rfl⟩ | ⟨rfl, rfl⟩
    all_goals first | (simp [fI_X]; done) | (simp [fI_X]; omega) | exact Or.inr (Or.inr (Or.inr (Or.inr (Or.inr (Or.inr (Or.inr (Or.inl q)))))))) (fun c k q => q.elim)
  obtain ⟨r1, r2, r3⟩ := X_all G hR0 hB hLF
  exact ⟨x, w1, w2, e1, e2, n, Es, hH2, r1, r2, iv_J_sb (X_SB G) (fr_1 F 28 (fun k => by simp [fI_0])) (fr_1 F 29 (fun k => by simp [fI_0])) hJ, r3⟩
theorem y_slips (b0 : Int32) (b1 : Int32) (b2 : Int32) : pb_eqI Inv M_X11_slips M_X12_slips [.ref 0, .int b0, .int b1, .int b2] [.ref 64, .int b0, .int b1, .int b2] := by
  intro w hw
  have hw0 := hw
  obtain ⟨n, Es, hH, hR, hB, hJ, hLF⟩ := hw
  have hR0 := hR
  obtain ⟨hT, hF, hW, hS, hA, hO, hM, hD, hU, hG, hY, hQ⟩ := hR
  obtain ⟨x, w1, w2, e1, e2, F, hH2⟩ := x_slips b0 b1 b2 w hH hF hB.1 hD
  have G : fr fI_X fJ_X w w2 := fr_mn F (fun c k q => by
    rcases q with ⟨rfl, rfl⟩ | ⟨rfl, rfl⟩ | ⟨rfl, q⟩ | rfl | rfl | rfl | rfl | ⟨rfl, q⟩ | rfl | rfl | rfl
    all_goals first | (simp [fI_X]; done) | (simp [fI_X]; omega) | exact Or.inr (Or.inr (Or.inr (Or.inr (Or.inr (Or.inr (Or.inr (Or.inl q)))))))) (fun c k q => q.elim)
  obtain ⟨r1, r2, r3⟩ := X_all G hR0 hB hLF
  exact ⟨x, w1, w2, e1, e2, n, Es, hH2, r1, r2, iv_J_sb (X_SB G) (fr_1 F 28 (fun k => by simp [fI_P])) (fr_1 F 29 (fun k => by simp [fI_P])) hJ, r3⟩
theorem y_slip (b0 : Int32) : pb_eqI Inv M_X11_slip M_X12_slip [.ref 0, .int b0] [.ref 64, .int b0] := by
  intro w hw
  have hw0 := hw
  obtain ⟨n, Es, hH, hR, hB, hJ, hLF⟩ := hw
  have hR0 := hR
  obtain ⟨hT, hF, hW, hS, hA, hO, hM, hD, hU, hG, hY, hQ⟩ := hR
  obtain ⟨x, w1, w2, e1, e2, F, hH2⟩ := x_slip b0 w hH hB.1 hD
  have G : fr fI_X fJ_X w w2 := fr_mn F (fun c k q => by
    rcases q with ⟨rfl, rfl⟩ | ⟨rfl, rfl⟩ | ⟨rfl, q⟩ | rfl | rfl | rfl | rfl | ⟨rfl, q⟩ | rfl | rfl | rfl
    all_goals first | (simp [fI_X]; done) | (simp [fI_X]; omega) | exact Or.inr (Or.inr (Or.inr (Or.inr (Or.inr (Or.inr (Or.inr (Or.inl q)))))))) (fun c k q => q.elim)
  obtain ⟨r1, r2, r3⟩ := X_all G hR0 hB hLF
  exact ⟨x, w1, w2, e1, e2, n, Es, hH2, r1, r2, iv_J_sb (X_SB G) (fr_1 F 28 (fun k => by simp [fI_P])) (fr_1 F 29 (fun k => by simp [fI_P])) hJ, r3⟩
theorem y_kind (b0 : Int32) (b1 : Int32) (b2 : Int32) : pb_eqI Inv M_X11_kind M_X12_kind [.ref 0, .int b0, .int b1, .int b2] [.ref 64, .int b0, .int b1, .int b2] := by
  intro w hw
  have hw0 := hw
  obtain ⟨n, Es, hH, hR, hB, hJ, hLF⟩ := hw
  have hR0 := hR
  obtain ⟨hT, hF, hW, hS, hA, hO, hM, hD, hU, hG, hY, hQ⟩ := hR
  obtain ⟨x, w1, w2, e1, e2, F, hH2, hJ2⟩ := x_kind b0 b1 b2 w hH hB hJ
  have G : fr fI_X fJ_X w w2 := fr_mn F (fun c k q => by
    rcases q with ⟨rfl, rfl⟩ | ⟨rfl, rfl⟩ | ⟨rfl, rfl⟩ | rfl | rfl | ⟨rfl, q⟩
    all_goals first | (simp [fI_X]; done) | (simp [fI_X]; omega) | exact Or.inr (Or.inr (Or.inr (Or.inr (Or.inr (Or.inr (Or.inr (Or.inl q)))))))) (fun c k q => by
    rcases q with rfl | rfl | rfl
    all_goals first | (simp [fJ_X]; done) | (simp [fJ_X]; omega) | exact Or.inr (Or.inr (Or.inr (Or.inr (Or.inr (Or.inr (Or.inr (Or.inl q))))))))
  obtain ⟨r1, r2, r3⟩ := X_all G hR0 hB hLF
  exact ⟨x, w1, w2, e1, e2, n, Es, hH2, r1, r2, hJ2, r3⟩
theorem y_moved (b0 : Int32) (b1 : Int32) : pb_eqI Inv M_X11_moved M_X12_moved [.ref 0, .int b0, .int b1] [.ref 64, .int b0, .int b1] := by
  intro w hw
  have hw0 := hw
  obtain ⟨n, Es, hH, hR, hB, hJ, hLF⟩ := hw
  have hR0 := hR
  obtain ⟨hT, hF, hW, hS, hA, hO, hM, hD, hU, hG, hY, hQ⟩ := hR
  obtain ⟨x, w1, w2, e1, e2, F, hH2, hJ2⟩ := x_moved b0 b1 w hH hB hJ
  have G : fr fI_X fJ_X w w2 := fr_mn F (fun c k q => by
    rcases q with ⟨rfl, rfl⟩ | ⟨rfl, rfl⟩ | ⟨rfl, rfl⟩ | rfl | rfl | ⟨rfl, q⟩
    all_goals first | (simp [fI_X]; done) | (simp [fI_X]; omega) | exact Or.inr (Or.inr (Or.inr (Or.inr (Or.inr (Or.inr (Or.inr (Or.inl q)))))))) (fun c k q => by
    rcases q with rfl | rfl | rfl
    all_goals first | (simp [fJ_X]; done) | (simp [fJ_X]; omega) | exact Or.inr (Or.inr (Or.inr (Or.inr (Or.inr (Or.inr (Or.inr (Or.inl q))))))))
  obtain ⟨r1, r2, r3⟩ := X_all G hR0 hB hLF
  exact ⟨x, w1, w2, e1, e2, n, Es, hH2, r1, r2, hJ2, r3⟩
theorem y_spent (b0 : Int32) (b1 : Int32) (b2 : Int32) (b3 : Int32) : pb_eqI Inv M_X11_spent M_X12_spent [.ref 0, .int b0, .int b1, .int b2, .int b3] [.ref 64, .int b0, .int b1, .int b2, .int b3] := by
  intro w hw
  have hw0 := hw
  obtain ⟨n, Es, hH, hR, hB, hJ, hLF⟩ := hw
  have hR0 := hR
  obtain ⟨hT, hF, hW, hS, hA, hO, hM, hD, hU, hG, hY, hQ⟩ := hR
  obtain ⟨x, w1, w2, e1, e2, F, hH2, hJ2⟩ := x_spent b0 b1 b2 b3 w hH hF hB hJ
  have G : fr fI_X fJ_X w w2 := fr_mn F (fun c k q => by
    rcases q with ⟨rfl, rfl⟩ | ⟨rfl, rfl⟩ | ⟨rfl, rfl⟩ | rfl | rfl | ⟨rfl, q⟩
    all_goals first | (simp [fI_X]; done) | (simp [fI_X]; omega) | exact Or.inr (Or.inr (Or.inr (Or.inr (Or.inr (Or.inr (Or.inr (Or.inl q)))))))) (fun c k q => by
    rcases q with rfl | rfl | rfl
    all_goals first | (simp [fJ_X]; done) | (simp [fJ_X]; omega) | exact Or.inr (Or.inr (Or.inr (Or.inr (Or.inr (Or.inr (Or.inr (Or.inl q))))))))
  obtain ⟨r1, r2, r3⟩ := X_all G hR0 hB hLF
  exact ⟨x, w1, w2, e1, e2, n, Es, hH2, r1, r2, hJ2, r3⟩
theorem y_share (b0 : Int32) (b1 : Int32) (b2 : Int32) (b3 : Int32) : pb_eqI Inv M_X11_share M_X12_share [.ref 0, .int b0, .int b1, .int b2, .int b3] [.ref 64, .int b0, .int b1, .int b2, .int b3] := by
  intro w hw
  have hw0 := hw
  obtain ⟨n, Es, hH, hR, hB, hJ, hLF⟩ := hw
  have hR0 := hR
  obtain ⟨hT, hF, hW, hS, hA, hO, hM, hD, hU, hG, hY, hQ⟩ := hR
  obtain ⟨x, w1, w2, e1, e2, F, hH2, hJ2⟩ := x_share b0 b1 b2 b3 w hH hF hM hS hB hJ
  have G : fr fI_X fJ_X w w2 := fr_mn F (fun c k q => by
    rcases q with ⟨rfl, rfl⟩ | ⟨rfl, rfl⟩ | ⟨rfl, rfl⟩ | rfl | rfl | ⟨rfl, q⟩
    all_goals first | (simp [fI_X]; done) | (simp [fI_X]; omega) | exact Or.inr (Or.inr (Or.inr (Or.inr (Or.inr (Or.inr (Or.inr (Or.inl q)))))))) (fun c k q => by
    rcases q with rfl | rfl | rfl | ⟨rfl | rfl, q⟩
    all_goals first | (simp [fJ_X]; done) | (simp [fJ_X]; omega) | exact Or.inr (Or.inr (Or.inr (Or.inr (Or.inr (Or.inr (Or.inr (Or.inl q))))))))
  obtain ⟨r1, r2, r3⟩ := X_all G hR0 hB hLF
  exact ⟨x, w1, w2, e1, e2, n, Es, hH2, r1, r2, hJ2, r3⟩
theorem y_price (b0 : Int32) (b1 : Int32) (b2 : Int32) (b3 : Int32) : pb_eqI Inv M_X11_price M_X12_price [.ref 0, .int b0, .int b1, .int b2, .int b3] [.ref 64, .int b0, .int b1, .int b2, .int b3] := by
  intro w hw
  have hw0 := hw
  obtain ⟨n, Es, hH, hR, hB, hJ, hLF⟩ := hw
  have hR0 := hR
  obtain ⟨hT, hF, hW, hS, hA, hO, hM, hD, hU, hG, hY, hQ⟩ := hR
  obtain ⟨x, w1, w2, e1, e2, F, hH2, hJ2⟩ := x_price b0 b1 b2 b3 w hH hU hLF hB hJ
  have G : fr fI_X fJ_X w w2 := fr_mn F (fun c k q => by
    rcases q with ⟨rfl, rfl⟩ | ⟨rfl, rfl⟩ | ⟨rfl, rfl⟩ | rfl | rfl | ⟨rfl, q⟩ | ⟨rfl, rfl⟩ | rfl | rfl | rfl | rfl
    all_goals first | (simp [fI_X]; done) | (simp [fI_X]; omega) | exact Or.inr (Or.inr (Or.inr (Or.inr (Or.inr (Or.inr (Or.inr (Or.inl q)))))))) (fun c k q => by
    rcases q with rfl | rfl | rfl | ⟨rfl | rfl, q⟩
    all_goals first | (simp [fJ_X]; done) | (simp [fJ_X]; omega) | exact Or.inr (Or.inr (Or.inr (Or.inr (Or.inr (Or.inr (Or.inr (Or.inl q))))))))
  obtain ⟨r1, r2, r3⟩ := X_all G hR0 hB hLF
  exact ⟨x, w1, w2, e1, e2, n, Es, hH2, r1, r2, hJ2, r3⟩
theorem y_ways (b0 : Int32) (b1 : Int32) : pb_eqL Inv M_X11_ways M_X12_ways [.ref 0, .int b0, .int b1] [.ref 64, .int b0, .int b1] := by
  intro w hw
  have hw0 := hw
  obtain ⟨n, Es, hH, hR, hB, hJ, hLF⟩ := hw
  have hR0 := hR
  obtain ⟨hT, hF, hW, hS, hA, hO, hM, hD, hU, hG, hY, hQ⟩ := hR
  obtain ⟨x, w1, w2, e1, e2, F, hH2, hJ2⟩ := x_ways b0 b1 w hH hU hB hJ
  have G : fr fI_X fJ_X w w2 := fr_mn F (fun c k q => by
    rcases q with ⟨rfl, rfl⟩ | ⟨rfl, rfl⟩ | ⟨rfl, rfl⟩ | rfl | rfl | ⟨rfl, q⟩ | q | ⟨rfl, q⟩ | rfl | rfl | rfl | rfl | rfl
    all_goals first | (simp [fI_X]; done) | (simp [fI_X]; omega) | exact Or.inr (Or.inr (Or.inr (Or.inr (Or.inr (Or.inr (Or.inr (Or.inl q)))))))) (fun c k q => by
    rcases q with rfl | rfl | rfl | rfl | rfl | rfl
    all_goals first | (simp [fJ_X]; done) | (simp [fJ_X]; omega) | exact Or.inr (Or.inr (Or.inr (Or.inr (Or.inr (Or.inr (Or.inr (Or.inl q))))))))
  obtain ⟨r1, r2, r3⟩ := X_all G hR0 hB hLF
  exact ⟨x, w1, w2, e1, e2, n, Es, hH2, r1, r2, hJ2, r3⟩
theorem y_span (b0 : Int32) (b1 : Int32) (b2 : Int32) (b3 : Int32) : pb_eqI Inv M_X11_span M_X12_span [.ref 0, .int b0, .int b1, .int b2, .int b3] [.ref 64, .int b0, .int b1, .int b2, .int b3] := by
  intro w hw
  have hw0 := hw
  obtain ⟨n, Es, hH, hR, hB, hJ, hLF⟩ := hw
  have hR0 := hR
  obtain ⟨hT, hF, hW, hS, hA, hO, hM, hD, hU, hG, hY, hQ⟩ := hR
  obtain ⟨x, w1, w2, e1, e2, F, hH2, hJ2⟩ := x_span b0 b1 b2 b3 w hH hU hB hJ
  have G : fr fI_X fJ_X w w2 := fr_mn F (fun c k q => by
    rcases q with ⟨rfl, rfl⟩ | ⟨rfl, rfl⟩ | ⟨rfl, rfl⟩ | rfl | rfl | ⟨rfl, q⟩ | q | ⟨rfl, q⟩ | rfl | rfl | rfl | rfl | rfl
    all_goals first | (simp [fI_X]; done) | (simp [fI_X]; omega) | exact Or.inr (Or.inr (Or.inr (Or.inr (Or.inr (Or.inr (Or.inr (Or.inl q)))))))) (fun c k q => by
    rcases q with rfl | rfl | rfl | rfl | rfl | rfl
    all_goals first | (simp [fJ_X]; done) | (simp [fJ_X]; omega) | exact Or.inr (Or.inr (Or.inr (Or.inr (Or.inr (Or.inr (Or.inr (Or.inl q))))))))
  obtain ⟨r1, r2, r3⟩ := X_all G hR0 hB hLF
  exact ⟨x, w1, w2, e1, e2, n, Es, hH2, r1, r2, hJ2, r3⟩
theorem y_fell (b0 : Int32) (b1 : Int32) (b2 : Int32) (b3 : Int32) : pb_eqI Inv M_X11_fell M_X12_fell [.ref 0, .int b0, .int b1, .int b2, .int b3] [.ref 64, .int b0, .int b1, .int b2, .int b3] := by
  intro w hw
  have hw0 := hw
  obtain ⟨n, Es, hH, hR, hB, hJ, hLF⟩ := hw
  have hR0 := hR
  obtain ⟨hT, hF, hW, hS, hA, hO, hM, hD, hU, hG, hY, hQ⟩ := hR
  obtain ⟨x, w1, w2, e1, e2, F, hH2, hJ2⟩ := x_fell b0 b1 b2 b3 w hH hF hO hB hJ
  have G : fr fI_X fJ_X w w2 := fr_mn F (fun c k q => by
    rcases q with ⟨rfl, rfl⟩ | ⟨rfl, rfl⟩ | ⟨rfl, rfl⟩ | rfl | rfl | ⟨rfl, q⟩
    all_goals first | (simp [fI_X]; done) | (simp [fI_X]; omega) | exact Or.inr (Or.inr (Or.inr (Or.inr (Or.inr (Or.inr (Or.inr (Or.inl q)))))))) (fun c k q => by
    rcases q with rfl | rfl | rfl | rfl | ⟨rfl | rfl, q⟩
    all_goals first | (simp [fJ_X]; done) | (simp [fJ_X]; omega) | exact Or.inr (Or.inr (Or.inr (Or.inr (Or.inr (Or.inr (Or.inr (Or.inl q))))))))
  obtain ⟨r1, r2, r3⟩ := X_all G hR0 hB hLF
  exact ⟨x, w1, w2, e1, e2, n, Es, hH2, r1, r2, hJ2, r3⟩
theorem y_tray (b0 : Int32) (b1 : Int32) (b2 : Int32) : pb_eqI Inv M_X11_tray M_X12_tray [.ref 0, .int b0, .int b1, .int b2] [.ref 64, .int b0, .int b1, .int b2] := by
  intro w hw
  have hw0 := hw
  obtain ⟨n, Es, hH, hR, hB, hJ, hLF⟩ := hw
  have hR0 := hR
  obtain ⟨hT, hF, hW, hS, hA, hO, hM, hD, hU, hG, hY, hQ⟩ := hR
  obtain ⟨x, w1, w2, e1, e2, F, hH2, hN2⟩ := x_tray b0 b1 b2 w hH hT
  have S : SL w w2 := SL_of F (fun c k q z => by simp only [fI_T] at q; simp only [nI_SL] at z; omega) (fun c k q z => by simp only [fJ_T] at q; simp only [nJ_BS] at z; omega)
  obtain ⟨r2, r3, r4⟩ := SL_all S hB hJ hLF (F.1 5 0 (by simp [fI_T])) (F.1 64 6 (by simp [fI_T]))
  exact ⟨x, w1, w2, e1, e2, n, Es, hH2, ⟨hN2, cg_F (fr_1 F 6 (fun k => by simp [fI_T])) (fr_1 F 7 (fun k => by simp [fI_T])) (fr_1 F 68 (fun k => by simp [fI_T])) (fr_1 F 69 (fun k => by simp [fI_T])) (F.1 5 0 (by simp [fI_T])) (F.1 64 6 (by simp [fI_T])) hF, cg_W (F.1 64 11 (by simp [fI_T])) (fr_2 F 20 (fun k => by simp [fJ_T])) (fr_2 F 80 (fun k => by simp [fJ_T])) hW, cg_S (fr_1 F 50 (fun k => by simp [fI_T])) (fr_1 F 121 (fun k => by simp [fI_T])) hS, cg_A (fr_1 F 22 (fun k => by simp [fI_T])) (fr_1 F 82 (fun k => by simp [fI_T])) (F.1 21 1 (by simp [fI_T])) (F.1 64 28 (by simp [fI_T])) hA, cg_O (fr_1 F 62 (fun k => by simp [fI_T])) (fr_1 F 63 (fun k => by simp [fI_T])) (fr_1 F 128 (fun k => by simp [fI_T])) (fr_1 F 129 (fun k => by simp [fI_T])) (F.1 61 2 (by simp [fI_T])) (F.1 64 98 (by simp [fI_T])) hO, cg_M (fr_1 F 46 (fun k => by simp [fI_T])) (fr_1 F 47 (fun k => by simp [fI_T])) (fr_1 F 48 (fun k => by simp [fI_T])) (fr_1 F 49 (fun k => by simp [fI_T])) (fr_1 F 117 (fun k => by simp [fI_T])) (fr_1 F 118 (fun k => by simp [fI_T])) (fr_1 F 119 (fun k => by simp [fI_T])) (fr_1 F 120 (fun k => by simp [fI_T])) (F.1 45 0 (by simp [fI_T])) (F.1 64 85 (by simp [fI_T])) hM, cg_D (fr_1 F 32 (fun k => by simp [fI_T])) (fr_1 F 33 (fun k => by simp [fI_T])) (fr_1 F 34 (fun k => by simp [fI_T])) (fr_1 F 104 (fun k => by simp [fI_T])) (fr_1 F 105 (fun k => by simp [fI_T])) (fr_1 F 106 (fun k => by simp [fI_T])) (F.1 31 1 (by simp [fI_T])) (F.1 64 67 (by simp [fI_T])) hD, cg_U (F.1 64 76 (by simp [fI_T])) (F.1 39 2 (by simp [fI_T])) (F.1 64 77 (by simp [fI_T])) (F.1 51 2 (by simp [fI_T])) hU, cg_G (fr_1 F 58 (fun k => by simp [fI_T])) (fr_1 F 126 (fun k => by simp [fI_T])) (F.1 57 1 (by simp [fI_T])) (F.1 64 97 (by simp [fI_T])) hG, cg_Y (fr_1 F 22 (fun k => by simp [fI_T])) hY, cg_Q (F.1 21 15 (by simp [fI_T])) (F.1 21 16 (by simp [fI_T])) (F.1 21 17 (by simp [fI_T])) (F.1 21 18 (by simp [fI_T])) (F.1 64 34 (by simp [fI_T])) (F.1 64 35 (by simp [fI_T])) (F.1 64 58 (by simp [fI_T])) hQ⟩, r2, r3, r4⟩
theorem y_write (b0 : Int32) (b1 : Int32) (b2 : Int64) : pb_eqI Inv M_X11_write M_X12_write [.ref 0, .int b0, .int b1, .long b2] [.ref 64, .int b0, .int b1, .long b2] := by
  intro w hw
  have hw0 := hw
  obtain ⟨n, Es, hH, hR, hB, hJ, hLF⟩ := hw
  have hR0 := hR
  obtain ⟨hT, hF, hW, hS, hA, hO, hM, hD, hU, hG, hY, hQ⟩ := hR
  obtain ⟨x, w1, w2, e1, e2, F, hH2, hN2⟩ := x_write b0 b1 b2 w hH hT
  have S : SL w w2 := SL_of F (fun c k q z => by simp only [fI_T] at q; simp only [nI_SL] at z; omega) (fun c k q z => by simp only [fJ_T] at q; simp only [nJ_BS] at z; omega)
  obtain ⟨r2, r3, r4⟩ := SL_all S hB hJ hLF (F.1 5 0 (by simp [fI_T])) (F.1 64 6 (by simp [fI_T]))
  exact ⟨x, w1, w2, e1, e2, n, Es, hH2, ⟨hN2, cg_F (fr_1 F 6 (fun k => by simp [fI_T])) (fr_1 F 7 (fun k => by simp [fI_T])) (fr_1 F 68 (fun k => by simp [fI_T])) (fr_1 F 69 (fun k => by simp [fI_T])) (F.1 5 0 (by simp [fI_T])) (F.1 64 6 (by simp [fI_T])) hF, cg_W (F.1 64 11 (by simp [fI_T])) (fr_2 F 20 (fun k => by simp [fJ_T])) (fr_2 F 80 (fun k => by simp [fJ_T])) hW, cg_S (fr_1 F 50 (fun k => by simp [fI_T])) (fr_1 F 121 (fun k => by simp [fI_T])) hS, cg_A (fr_1 F 22 (fun k => by simp [fI_T])) (fr_1 F 82 (fun k => by simp [fI_T])) (F.1 21 1 (by simp [fI_T])) (F.1 64 28 (by simp [fI_T])) hA, cg_O (fr_1 F 62 (fun k => by simp [fI_T])) (fr_1 F 63 (fun k => by simp [fI_T])) (fr_1 F 128 (fun k => by simp [fI_T])) (fr_1 F 129 (fun k => by simp [fI_T])) (F.1 61 2 (by simp [fI_T])) (F.1 64 98 (by simp [fI_T])) hO, cg_M (fr_1 F 46 (fun k => by simp [fI_T])) (fr_1 F 47 (fun k => by simp [fI_T])) (fr_1 F 48 (fun k => by simp [fI_T])) (fr_1 F 49 (fun k => by simp [fI_T])) (fr_1 F 117 (fun k => by simp [fI_T])) (fr_1 F 118 (fun k => by simp [fI_T])) (fr_1 F 119 (fun k => by simp [fI_T])) (fr_1 F 120 (fun k => by simp [fI_T])) (F.1 45 0 (by simp [fI_T])) (F.1 64 85 (by simp [fI_T])) hM, cg_D (fr_1 F 32 (fun k => by simp [fI_T])) (fr_1 F 33 (fun k => by simp [fI_T])) (fr_1 F 34 (fun k => by simp [fI_T])) (fr_1 F 104 (fun k => by simp [fI_T])) (fr_1 F 105 (fun k => by simp [fI_T])) (fr_1 F 106 (fun k => by simp [fI_T])) (F.1 31 1 (by simp [fI_T])) (F.1 64 67 (by simp [fI_T])) hD, cg_U (F.1 64 76 (by simp [fI_T])) (F.1 39 2 (by simp [fI_T])) (F.1 64 77 (by simp [fI_T])) (F.1 51 2 (by simp [fI_T])) hU, cg_G (fr_1 F 58 (fun k => by simp [fI_T])) (fr_1 F 126 (fun k => by simp [fI_T])) (F.1 57 1 (by simp [fI_T])) (F.1 64 97 (by simp [fI_T])) hG, cg_Y (fr_1 F 22 (fun k => by simp [fI_T])) hY, cg_Q (F.1 21 15 (by simp [fI_T])) (F.1 21 16 (by simp [fI_T])) (F.1 21 17 (by simp [fI_T])) (F.1 21 18 (by simp [fI_T])) (F.1 64 34 (by simp [fI_T])) (F.1 64 35 (by simp [fI_T])) (F.1 64 58 (by simp [fI_T])) hQ⟩, r2, r3, r4⟩
theorem y_read (b0 : Int32) (b1 : Int32) : pb_eqL Inv M_X11_read M_X12_read [.ref 0, .int b0, .int b1] [.ref 64, .int b0, .int b1] := by
  intro w hw
  have hw0 := hw
  obtain ⟨n, Es, hH, hR, hB, hJ, hLF⟩ := hw
  have hR0 := hR
  obtain ⟨hT, hF, hW, hS, hA, hO, hM, hD, hU, hG, hY, hQ⟩ := hR
  obtain ⟨x, w1, w2, e1, e2, F, hH2, hN2⟩ := x_read b0 b1 w hH hT
  have S : SL w w2 := SL_of F (fun c k q z => by simp only [fI_T] at q; simp only [nI_SL] at z; omega) (fun c k q z => by simp only [fJ_T] at q; simp only [nJ_BS] at z; omega)
  obtain ⟨r2, r3, r4⟩ := SL_all S hB hJ hLF (F.1 5 0 (by simp [fI_T])) (F.1 64 6 (by simp [fI_T]))
  exact ⟨x, w1, w2, e1, e2, n, Es, hH2, ⟨hN2, cg_F (fr_1 F 6 (fun k => by simp [fI_T])) (fr_1 F 7 (fun k => by simp [fI_T])) (fr_1 F 68 (fun k => by simp [fI_T])) (fr_1 F 69 (fun k => by simp [fI_T])) (F.1 5 0 (by simp [fI_T])) (F.1 64 6 (by simp [fI_T])) hF, cg_W (F.1 64 11 (by simp [fI_T])) (fr_2 F 20 (fun k => by simp [fJ_T])) (fr_2 F 80 (fun k => by simp [fJ_T])) hW, cg_S (fr_1 F 50 (fun k => by simp [fI_T])) (fr_1 F 121 (fun k => by simp [fI_T])) hS, cg_A (fr_1 F 22 (fun k => by simp [fI_T])) (fr_1 F 82 (fun k => by simp [fI_T])) (F.1 21 1 (by simp [fI_T])) (F.1 64 28 (by simp [fI_T])) hA, cg_O (fr_1 F 62 (fun k => by simp [fI_T])) (fr_1 F 63 (fun k => by simp [fI_T])) (fr_1 F 128 (fun k => by simp [fI_T])) (fr_1 F 129 (fun k => by simp [fI_T])) (F.1 61 2 (by simp [fI_T])) (F.1 64 98 (by simp [fI_T])) hO, cg_M (fr_1 F 46 (fun k => by simp [fI_T])) (fr_1 F 47 (fun k => by simp [fI_T])) (fr_1 F 48 (fun k => by simp [fI_T])) (fr_1 F 49 (fun k => by simp [fI_T])) (fr_1 F 117 (fun k => by simp [fI_T])) (fr_1 F 118 (fun k => by simp [fI_T])) (fr_1 F 119 (fun k => by simp [fI_T])) (fr_1 F 120 (fun k => by simp [fI_T])) (F.1 45 0 (by simp [fI_T])) (F.1 64 85 (by simp [fI_T])) hM, cg_D (fr_1 F 32 (fun k => by simp [fI_T])) (fr_1 F 33 (fun k => by simp [fI_T])) (fr_1 F 34 (fun k => by simp [fI_T])) (fr_1 F 104 (fun k => by simp [fI_T])) (fr_1 F 105 (fun k => by simp [fI_T])) (fr_1 F 106 (fun k => by simp [fI_T])) (F.1 31 1 (by simp [fI_T])) (F.1 64 67 (by simp [fI_T])) hD, cg_U (F.1 64 76 (by simp [fI_T])) (F.1 39 2 (by simp [fI_T])) (F.1 64 77 (by simp [fI_T])) (F.1 51 2 (by simp [fI_T])) hU, cg_G (fr_1 F 58 (fun k => by simp [fI_T])) (fr_1 F 126 (fun k => by simp [fI_T])) (F.1 57 1 (by simp [fI_T])) (F.1 64 97 (by simp [fI_T])) hG, cg_Y (fr_1 F 22 (fun k => by simp [fI_T])) hY, cg_Q (F.1 21 15 (by simp [fI_T])) (F.1 21 16 (by simp [fI_T])) (F.1 21 17 (by simp [fI_T])) (F.1 21 18 (by simp [fI_T])) (F.1 64 34 (by simp [fI_T])) (F.1 64 35 (by simp [fI_T])) (F.1 64 58 (by simp [fI_T])) hQ⟩, r2, r3, r4⟩
theorem y_pour (b0 : Int32) (b1 : Int32) (b2 : Int32) (b3 : Int32) (b4 : Int32) : pb_eqI Inv M_X11_pour M_X12_pour [.ref 0, .int b0, .int b1, .int b2, .int b3, .int b4] [.ref 64, .int b0, .int b1, .int b2, .int b3, .int b4] := by
  intro w hw
  have hw0 := hw
  obtain ⟨n, Es, hH, hR, hB, hJ, hLF⟩ := hw
  have hR0 := hR
  obtain ⟨hT, hF, hW, hS, hA, hO, hM, hD, hU, hG, hY, hQ⟩ := hR
  obtain ⟨x, w1, w2, e1, e2, F, hH2, hN2⟩ := x_pour b0 b1 b2 b3 b4 w hH hT
  have S : SL w w2 := SL_of F (fun c k q z => by simp only [fI_T] at q; simp only [nI_SL] at z; omega) (fun c k q z => by simp only [fJ_T] at q; simp only [nJ_BS] at z; omega)
  obtain ⟨r2, r3, r4⟩ := SL_all S hB hJ hLF (F.1 5 0 (by simp [fI_T])) (F.1 64 6 (by simp [fI_T]))
  exact ⟨x, w1, w2, e1, e2, n, Es, hH2, ⟨hN2, cg_F (fr_1 F 6 (fun k => by simp [fI_T])) (fr_1 F 7 (fun k => by simp [fI_T])) (fr_1 F 68 (fun k => by simp [fI_T])) (fr_1 F 69 (fun k => by simp [fI_T])) (F.1 5 0 (by simp [fI_T])) (F.1 64 6 (by simp [fI_T])) hF, cg_W (F.1 64 11 (by simp [fI_T])) (fr_2 F 20 (fun k => by simp [fJ_T])) (fr_2 F 80 (fun k => by simp [fJ_T])) hW, cg_S (fr_1 F 50 (fun k => by simp [fI_T])) (fr_1 F 121 (fun k => by simp [fI_T])) hS, cg_A (fr_1 F 22 (fun k => by simp [fI_T])) (fr_1 F 82 (fun k => by simp [fI_T])) (F.1 21 1 (by simp [fI_T])) (F.1 64 28 (by simp [fI_T])) hA, cg_O (fr_1 F 62 (fun k => by simp [fI_T])) (fr_1 F 63 (fun k => by simp [fI_T])) (fr_1 F 128 (fun k => by simp [fI_T])) (fr_1 F 129 (fun k => by simp [fI_T])) (F.1 61 2 (by simp [fI_T])) (F.1 64 98 (by simp [fI_T])) hO, cg_M (fr_1 F 46 (fun k => by simp [fI_T])) (fr_1 F 47 (fun k => by simp [fI_T])) (fr_1 F 48 (fun k => by simp [fI_T])) (fr_1 F 49 (fun k => by simp [fI_T])) (fr_1 F 117 (fun k => by simp [fI_T])) (fr_1 F 118 (fun k => by simp [fI_T])) (fr_1 F 119 (fun k => by simp [fI_T])) (fr_1 F 120 (fun k => by simp [fI_T])) (F.1 45 0 (by simp [fI_T])) (F.1 64 85 (by simp [fI_T])) hM, cg_D (fr_1 F 32 (fun k => by simp [fI_T])) (fr_1 F 33 (fun k => by simp [fI_T])) (fr_1 F 34 (fun k => by simp [fI_T])) (fr_1 F 104 (fun k => by simp [fI_T])) (fr_1 F 105 (fun k => by simp [fI_T])) (fr_1 F 106 (fun k => by simp [fI_T])) (F.1 31 1 (by simp [fI_T])) (F.1 64 67 (by simp [fI_T])) hD, cg_U (F.1 64 76 (by simp [fI_T])) (F.1 39 2 (by simp [fI_T])) (F.1 64 77 (by simp [fI_T])) (F.1 51 2 (by simp [fI_T])) hU, cg_G (fr_1 F 58 (fun k => by simp [fI_T])) (fr_1 F 126 (fun k => by simp [fI_T])) (F.1 57 1 (by simp [fI_T])) (F.1 64 97 (by simp [fI_T])) hG, cg_Y (fr_1 F 22 (fun k => by simp [fI_T])) hY, cg_Q (F.1 21 15 (by simp [fI_T])) (F.1 21 16 (by simp [fI_T])) (F.1 21 17 (by simp [fI_T])) (F.1 21 18 (by simp [fI_T])) (F.1 64 34 (by simp [fI_T])) (F.1 64 35 (by simp [fI_T])) (F.1 64 58 (by simp [fI_T])) hQ⟩, r2, r3, r4⟩
theorem y_words (b0 : Int64) (b1 : Int64) (b2 : Int64) : pb_eqI Inv M_X11_words M_X12_words [.ref 0, .long b0, .long b1, .long b2] [.ref 64, .long b0, .long b1, .long b2] := by
  intro w hw
  have hw0 := hw
  obtain ⟨n, Es, hH, hR, hB, hJ, hLF⟩ := hw
  have hR0 := hR
  obtain ⟨hT, hF, hW, hS, hA, hO, hM, hD, hU, hG, hY, hQ⟩ := hR
  obtain ⟨x, w1, w2, e1, e2, F, hH2, hN2⟩ := x_words b0 b1 b2 w hH hW
  have S : SL w w2 := SL_of F (fun c k q z => by simp only [fI_W] at q; simp only [nI_SL] at z; omega) (fun c k q z => by simp only [fJ_W] at q; simp only [nJ_BS] at z; omega)
  obtain ⟨r2, r3, r4⟩ := SL_all S hB hJ hLF (F.1 5 0 (by simp [fI_W])) (F.1 64 6 (by simp [fI_W]))
  exact ⟨x, w1, w2, e1, e2, n, Es, hH2, ⟨cg_T (fr_1 F 3 (fun k => by simp [fI_W])) (fr_1 F 4 (fun k => by simp [fI_W])) (fr_1 F 65 (fun k => by simp [fI_W])) (fr_1 F 66 (fun k => by simp [fI_W])) (fr_2 F 2 (fun k => by simp [fJ_W])) (fr_2 F 67 (fun k => by simp [fJ_W])) hT, cg_F (fr_1 F 6 (fun k => by simp [fI_W])) (fr_1 F 7 (fun k => by simp [fI_W])) (fr_1 F 68 (fun k => by simp [fI_W])) (fr_1 F 69 (fun k => by simp [fI_W])) (F.1 5 0 (by simp [fI_W])) (F.1 64 6 (by simp [fI_W])) hF, hN2, cg_S (fr_1 F 50 (fun k => by simp [fI_W])) (fr_1 F 121 (fun k => by simp [fI_W])) hS, cg_A (fr_1 F 22 (fun k => by simp [fI_W])) (fr_1 F 82 (fun k => by simp [fI_W])) (F.1 21 1 (by simp [fI_W])) (F.1 64 28 (by simp [fI_W])) hA, cg_O (fr_1 F 62 (fun k => by simp [fI_W])) (fr_1 F 63 (fun k => by simp [fI_W])) (fr_1 F 128 (fun k => by simp [fI_W])) (fr_1 F 129 (fun k => by simp [fI_W])) (F.1 61 2 (by simp [fI_W])) (F.1 64 98 (by simp [fI_W])) hO, cg_M (fr_1 F 46 (fun k => by simp [fI_W])) (fr_1 F 47 (fun k => by simp [fI_W])) (fr_1 F 48 (fun k => by simp [fI_W])) (fr_1 F 49 (fun k => by simp [fI_W])) (fr_1 F 117 (fun k => by simp [fI_W])) (fr_1 F 118 (fun k => by simp [fI_W])) (fr_1 F 119 (fun k => by simp [fI_W])) (fr_1 F 120 (fun k => by simp [fI_W])) (F.1 45 0 (by simp [fI_W])) (F.1 64 85 (by simp [fI_W])) hM, cg_D (fr_1 F 32 (fun k => by simp [fI_W])) (fr_1 F 33 (fun k => by simp [fI_W])) (fr_1 F 34 (fun k => by simp [fI_W])) (fr_1 F 104 (fun k => by simp [fI_W])) (fr_1 F 105 (fun k => by simp [fI_W])) (fr_1 F 106 (fun k => by simp [fI_W])) (F.1 31 1 (by simp [fI_W])) (F.1 64 67 (by simp [fI_W])) hD, cg_U (F.1 64 76 (by simp [fI_W])) (F.1 39 2 (by simp [fI_W])) (F.1 64 77 (by simp [fI_W])) (F.1 51 2 (by simp [fI_W])) hU, cg_G (fr_1 F 58 (fun k => by simp [fI_W])) (fr_1 F 126 (fun k => by simp [fI_W])) (F.1 57 1 (by simp [fI_W])) (F.1 64 97 (by simp [fI_W])) hG, cg_Y (fr_1 F 22 (fun k => by simp [fI_W])) hY, cg_Q (F.1 21 15 (by simp [fI_W])) (F.1 21 16 (by simp [fI_W])) (F.1 21 17 (by simp [fI_W])) (F.1 21 18 (by simp [fI_W])) (F.1 64 34 (by simp [fI_W])) (F.1 64 35 (by simp [fI_W])) (F.1 64 58 (by simp [fI_W])) hQ⟩, r2, r3, r4⟩
theorem y_told (b0 : Int32) (b1 : Int32) (b2 : Int32) : pb_eqI Inv M_X11_told M_X12_told [.ref 0, .int b0, .int b1, .int b2] [.ref 64, .int b0, .int b1, .int b2] := by
  intro w hw
  have hw0 := hw
  obtain ⟨n, Es, hH, hR, hB, hJ, hLF⟩ := hw
  have hR0 := hR
  obtain ⟨hT, hF, hW, hS, hA, hO, hM, hD, hU, hG, hY, hQ⟩ := hR
  obtain ⟨x, w1, w2, e1, e2, F, hH2, hN2⟩ := x_told b0 b1 b2 w hH hF hD
  have S : SL w w2 := SL_of F (fun c k q z => by simp only [fI_D] at q; simp only [nI_SL] at z; omega) (fun c k q z => q)
  obtain ⟨r2, r3, r4⟩ := SL_all S hB hJ hLF (F.1 5 0 (by simp [fI_D])) (F.1 64 6 (by simp [fI_D]))
  exact ⟨x, w1, w2, e1, e2, n, Es, hH2, ⟨cg_T (fr_1 F 3 (fun k => by simp [fI_D])) (fr_1 F 4 (fun k => by simp [fI_D])) (fr_1 F 65 (fun k => by simp [fI_D])) (fr_1 F 66 (fun k => by simp [fI_D])) (fr_2 F 2 (fun k => by simp [fJ_no])) (fr_2 F 67 (fun k => by simp [fJ_no])) hT, cg_F (fr_1 F 6 (fun k => by simp [fI_D])) (fr_1 F 7 (fun k => by simp [fI_D])) (fr_1 F 68 (fun k => by simp [fI_D])) (fr_1 F 69 (fun k => by simp [fI_D])) (F.1 5 0 (by simp [fI_D])) (F.1 64 6 (by simp [fI_D])) hF, cg_W (F.1 64 11 (by simp [fI_D])) (fr_2 F 20 (fun k => by simp [fJ_no])) (fr_2 F 80 (fun k => by simp [fJ_no])) hW, cg_S (fr_1 F 50 (fun k => by simp [fI_D])) (fr_1 F 121 (fun k => by simp [fI_D])) hS, cg_A (fr_1 F 22 (fun k => by simp [fI_D])) (fr_1 F 82 (fun k => by simp [fI_D])) (F.1 21 1 (by simp [fI_D])) (F.1 64 28 (by simp [fI_D])) hA, cg_O (fr_1 F 62 (fun k => by simp [fI_D])) (fr_1 F 63 (fun k => by simp [fI_D])) (fr_1 F 128 (fun k => by simp [fI_D])) (fr_1 F 129 (fun k => by simp [fI_D])) (F.1 61 2 (by simp [fI_D])) (F.1 64 98 (by simp [fI_D])) hO, cg_M (fr_1 F 46 (fun k => by simp [fI_D])) (fr_1 F 47 (fun k => by simp [fI_D])) (fr_1 F 48 (fun k => by simp [fI_D])) (fr_1 F 49 (fun k => by simp [fI_D])) (fr_1 F 117 (fun k => by simp [fI_D])) (fr_1 F 118 (fun k => by simp [fI_D])) (fr_1 F 119 (fun k => by simp [fI_D])) (fr_1 F 120 (fun k => by simp [fI_D])) (F.1 45 0 (by simp [fI_D])) (F.1 64 85 (by simp [fI_D])) hM, hN2, cg_U (F.1 64 76 (by simp [fI_D])) (F.1 39 2 (by simp [fI_D])) (F.1 64 77 (by simp [fI_D])) (F.1 51 2 (by simp [fI_D])) hU, cg_G (fr_1 F 58 (fun k => by simp [fI_D])) (fr_1 F 126 (fun k => by simp [fI_D])) (F.1 57 1 (by simp [fI_D])) (F.1 64 97 (by simp [fI_D])) hG, cg_Y (fr_1 F 22 (fun k => by simp [fI_D])) hY, cg_Q (F.1 21 15 (by simp [fI_D])) (F.1 21 16 (by simp [fI_D])) (F.1 21 17 (by simp [fI_D])) (F.1 21 18 (by simp [fI_D])) (F.1 64 34 (by simp [fI_D])) (F.1 64 35 (by simp [fI_D])) (F.1 64 58 (by simp [fI_D])) hQ⟩, r2, r3, r4⟩
theorem y_weights (b0 : Int32) (b1 : Int32) (b2 : Int32) : pb_eqI Inv M_X11_weights M_X12_weights [.ref 0, .int b0, .int b1, .int b2] [.ref 64, .int b0, .int b1, .int b2] := by
  intro w hw
  have hw0 := hw
  obtain ⟨n, Es, hH, hR, hB, hJ, hLF⟩ := hw
  have hR0 := hR
  obtain ⟨hT, hF, hW, hS, hA, hO, hM, hD, hU, hG, hY, hQ⟩ := hR
  obtain ⟨x, w1, w2, e1, e2, F, hH2, hN2⟩ := x_weights b0 b1 b2 w hH hT hF hG
  have S : SL w w2 := SL_of F (fun c k q z => by simp only [fI_WT] at q; simp only [nI_SL] at z; omega) (fun c k q z => q)
  obtain ⟨r2, r3, r4⟩ := SL_all S hB hJ hLF (F.1 5 0 (by simp [fI_WT])) (F.1 64 6 (by simp [fI_WT]))
  exact ⟨x, w1, w2, e1, e2, n, Es, hH2, ⟨cg_T (fr_1 F 3 (fun k => by simp [fI_WT])) (fr_1 F 4 (fun k => by simp [fI_WT])) (fr_1 F 65 (fun k => by simp [fI_WT])) (fr_1 F 66 (fun k => by simp [fI_WT])) (fr_2 F 2 (fun k => by simp [fJ_no])) (fr_2 F 67 (fun k => by simp [fJ_no])) hT, cg_F (fr_1 F 6 (fun k => by simp [fI_WT])) (fr_1 F 7 (fun k => by simp [fI_WT])) (fr_1 F 68 (fun k => by simp [fI_WT])) (fr_1 F 69 (fun k => by simp [fI_WT])) (F.1 5 0 (by simp [fI_WT])) (F.1 64 6 (by simp [fI_WT])) hF, cg_W (F.1 64 11 (by simp [fI_WT])) (fr_2 F 20 (fun k => by simp [fJ_no])) (fr_2 F 80 (fun k => by simp [fJ_no])) hW, cg_S (fr_1 F 50 (fun k => by simp [fI_WT])) (fr_1 F 121 (fun k => by simp [fI_WT])) hS, cg_A (fr_1 F 22 (fun k => by simp [fI_WT])) (fr_1 F 82 (fun k => by simp [fI_WT])) (F.1 21 1 (by simp [fI_WT])) (F.1 64 28 (by simp [fI_WT])) hA, cg_O (fr_1 F 62 (fun k => by simp [fI_WT])) (fr_1 F 63 (fun k => by simp [fI_WT])) (fr_1 F 128 (fun k => by simp [fI_WT])) (fr_1 F 129 (fun k => by simp [fI_WT])) (F.1 61 2 (by simp [fI_WT])) (F.1 64 98 (by simp [fI_WT])) hO, cg_M (fr_1 F 46 (fun k => by simp [fI_WT])) (fr_1 F 47 (fun k => by simp [fI_WT])) (fr_1 F 48 (fun k => by simp [fI_WT])) (fr_1 F 49 (fun k => by simp [fI_WT])) (fr_1 F 117 (fun k => by simp [fI_WT])) (fr_1 F 118 (fun k => by simp [fI_WT])) (fr_1 F 119 (fun k => by simp [fI_WT])) (fr_1 F 120 (fun k => by simp [fI_WT])) (F.1 45 0 (by simp [fI_WT])) (F.1 64 85 (by simp [fI_WT])) hM, cg_D (fr_1 F 32 (fun k => by simp [fI_WT])) (fr_1 F 33 (fun k => by simp [fI_WT])) (fr_1 F 34 (fun k => by simp [fI_WT])) (fr_1 F 104 (fun k => by simp [fI_WT])) (fr_1 F 105 (fun k => by simp [fI_WT])) (fr_1 F 106 (fun k => by simp [fI_WT])) (F.1 31 1 (by simp [fI_WT])) (F.1 64 67 (by simp [fI_WT])) hD, cg_U (F.1 64 76 (by simp [fI_WT])) (F.1 39 2 (by simp [fI_WT])) (F.1 64 77 (by simp [fI_WT])) (F.1 51 2 (by simp [fI_WT])) hU, hN2, cg_Y (fr_1 F 22 (fun k => by simp [fI_WT])) hY, cg_Q (F.1 21 15 (by simp [fI_WT])) (F.1 21 16 (by simp [fI_WT])) (F.1 21 17 (by simp [fI_WT])) (F.1 21 18 (by simp [fI_WT])) (F.1 64 34 (by simp [fI_WT])) (F.1 64 35 (by simp [fI_WT])) (F.1 64 58 (by simp [fI_WT])) hQ⟩, r2, r3, r4⟩
theorem y_scale (b0 : Int32) (b1 : Int32) (b2 : Int32) (b3 : Int32) : pb_eqI Inv M_X11_scale M_X12_scale [.ref 0, .int b0, .int b1, .int b2, .int b3] [.ref 64, .int b0, .int b1, .int b2, .int b3] := by
  intro w hw
  have hw0 := hw
  obtain ⟨n, Es, hH, hR, hB, hJ, hLF⟩ := hw
  have hR0 := hR
  obtain ⟨hT, hF, hW, hS, hA, hO, hM, hD, hU, hG, hY, hQ⟩ := hR
  obtain ⟨x, w1, w2, e1, e2, F, hH2, hN2⟩ := x_scale b0 b1 b2 b3 w hH hS
  have S : SL w w2 := SL_of F (fun c k q z => by simp only [fI_S] at q; simp only [nI_SL] at z; omega) (fun c k q z => q)
  obtain ⟨r2, r3, r4⟩ := SL_all S hB hJ hLF (F.1 5 0 (by simp [fI_S])) (F.1 64 6 (by simp [fI_S]))
  exact ⟨x, w1, w2, e1, e2, n, Es, hH2, ⟨cg_T (fr_1 F 3 (fun k => by simp [fI_S])) (fr_1 F 4 (fun k => by simp [fI_S])) (fr_1 F 65 (fun k => by simp [fI_S])) (fr_1 F 66 (fun k => by simp [fI_S])) (fr_2 F 2 (fun k => by simp [fJ_no])) (fr_2 F 67 (fun k => by simp [fJ_no])) hT, cg_F (fr_1 F 6 (fun k => by simp [fI_S])) (fr_1 F 7 (fun k => by simp [fI_S])) (fr_1 F 68 (fun k => by simp [fI_S])) (fr_1 F 69 (fun k => by simp [fI_S])) (F.1 5 0 (by simp [fI_S])) (F.1 64 6 (by simp [fI_S])) hF, cg_W (F.1 64 11 (by simp [fI_S])) (fr_2 F 20 (fun k => by simp [fJ_no])) (fr_2 F 80 (fun k => by simp [fJ_no])) hW, hN2, cg_A (fr_1 F 22 (fun k => by simp [fI_S])) (fr_1 F 82 (fun k => by simp [fI_S])) (F.1 21 1 (by simp [fI_S])) (F.1 64 28 (by simp [fI_S])) hA, cg_O (fr_1 F 62 (fun k => by simp [fI_S])) (fr_1 F 63 (fun k => by simp [fI_S])) (fr_1 F 128 (fun k => by simp [fI_S])) (fr_1 F 129 (fun k => by simp [fI_S])) (F.1 61 2 (by simp [fI_S])) (F.1 64 98 (by simp [fI_S])) hO, cg_M (fr_1 F 46 (fun k => by simp [fI_S])) (fr_1 F 47 (fun k => by simp [fI_S])) (fr_1 F 48 (fun k => by simp [fI_S])) (fr_1 F 49 (fun k => by simp [fI_S])) (fr_1 F 117 (fun k => by simp [fI_S])) (fr_1 F 118 (fun k => by simp [fI_S])) (fr_1 F 119 (fun k => by simp [fI_S])) (fr_1 F 120 (fun k => by simp [fI_S])) (F.1 45 0 (by simp [fI_S])) (F.1 64 85 (by simp [fI_S])) hM, cg_D (fr_1 F 32 (fun k => by simp [fI_S])) (fr_1 F 33 (fun k => by simp [fI_S])) (fr_1 F 34 (fun k => by simp [fI_S])) (fr_1 F 104 (fun k => by simp [fI_S])) (fr_1 F 105 (fun k => by simp [fI_S])) (fr_1 F 106 (fun k => by simp [fI_S])) (F.1 31 1 (by simp [fI_S])) (F.1 64 67 (by simp [fI_S])) hD, cg_U (F.1 64 76 (by simp [fI_S])) (F.1 39 2 (by simp [fI_S])) (F.1 64 77 (by simp [fI_S])) (F.1 51 2 (by simp [fI_S])) hU, cg_G (fr_1 F 58 (fun k => by simp [fI_S])) (fr_1 F 126 (fun k => by simp [fI_S])) (F.1 57 1 (by simp [fI_S])) (F.1 64 97 (by simp [fI_S])) hG, cg_Y (fr_1 F 22 (fun k => by simp [fI_S])) hY, cg_Q (F.1 21 15 (by simp [fI_S])) (F.1 21 16 (by simp [fI_S])) (F.1 21 17 (by simp [fI_S])) (F.1 21 18 (by simp [fI_S])) (F.1 64 34 (by simp [fI_S])) (F.1 64 35 (by simp [fI_S])) (F.1 64 58 (by simp [fI_S])) hQ⟩, r2, r3, r4⟩
theorem y_loss (b0 : Int32) (b1 : Int32) : pb_eqI Inv M_X11_loss M_X12_loss [.ref 0, .int b0, .int b1] [.ref 64, .int b0, .int b1] := by
  intro w hw
  have hw0 := hw
  obtain ⟨n, Es, hH, hR, hB, hJ, hLF⟩ := hw
  have hR0 := hR
  obtain ⟨hT, hF, hW, hS, hA, hO, hM, hD, hU, hG, hY, hQ⟩ := hR
  obtain ⟨x, w1, w2, e1, e2, F, hH2, hN2⟩ := x_loss b0 b1 w hH hF hO
  have S : SL w w2 := SL_of F (fun c k q z => by simp only [fI_O] at q; simp only [nI_SL] at z; omega) (fun c k q z => q)
  obtain ⟨r2, r3, r4⟩ := SL_all S hB hJ hLF (F.1 5 0 (by simp [fI_O])) (F.1 64 6 (by simp [fI_O]))
  exact ⟨x, w1, w2, e1, e2, n, Es, hH2, ⟨cg_T (fr_1 F 3 (fun k => by simp [fI_O])) (fr_1 F 4 (fun k => by simp [fI_O])) (fr_1 F 65 (fun k => by simp [fI_O])) (fr_1 F 66 (fun k => by simp [fI_O])) (fr_2 F 2 (fun k => by simp [fJ_no])) (fr_2 F 67 (fun k => by simp [fJ_no])) hT, cg_F (fr_1 F 6 (fun k => by simp [fI_O])) (fr_1 F 7 (fun k => by simp [fI_O])) (fr_1 F 68 (fun k => by simp [fI_O])) (fr_1 F 69 (fun k => by simp [fI_O])) (F.1 5 0 (by simp [fI_O])) (F.1 64 6 (by simp [fI_O])) hF, cg_W (F.1 64 11 (by simp [fI_O])) (fr_2 F 20 (fun k => by simp [fJ_no])) (fr_2 F 80 (fun k => by simp [fJ_no])) hW, cg_S (fr_1 F 50 (fun k => by simp [fI_O])) (fr_1 F 121 (fun k => by simp [fI_O])) hS, cg_A (fr_1 F 22 (fun k => by simp [fI_O])) (fr_1 F 82 (fun k => by simp [fI_O])) (F.1 21 1 (by simp [fI_O])) (F.1 64 28 (by simp [fI_O])) hA, hN2, cg_M (fr_1 F 46 (fun k => by simp [fI_O])) (fr_1 F 47 (fun k => by simp [fI_O])) (fr_1 F 48 (fun k => by simp [fI_O])) (fr_1 F 49 (fun k => by simp [fI_O])) (fr_1 F 117 (fun k => by simp [fI_O])) (fr_1 F 118 (fun k => by simp [fI_O])) (fr_1 F 119 (fun k => by simp [fI_O])) (fr_1 F 120 (fun k => by simp [fI_O])) (F.1 45 0 (by simp [fI_O])) (F.1 64 85 (by simp [fI_O])) hM, cg_D (fr_1 F 32 (fun k => by simp [fI_O])) (fr_1 F 33 (fun k => by simp [fI_O])) (fr_1 F 34 (fun k => by simp [fI_O])) (fr_1 F 104 (fun k => by simp [fI_O])) (fr_1 F 105 (fun k => by simp [fI_O])) (fr_1 F 106 (fun k => by simp [fI_O])) (F.1 31 1 (by simp [fI_O])) (F.1 64 67 (by simp [fI_O])) hD, cg_U (F.1 64 76 (by simp [fI_O])) (F.1 39 2 (by simp [fI_O])) (F.1 64 77 (by simp [fI_O])) (F.1 51 2 (by simp [fI_O])) hU, cg_G (fr_1 F 58 (fun k => by simp [fI_O])) (fr_1 F 126 (fun k => by simp [fI_O])) (F.1 57 1 (by simp [fI_O])) (F.1 64 97 (by simp [fI_O])) hG, cg_Y (fr_1 F 22 (fun k => by simp [fI_O])) hY, cg_Q (F.1 21 15 (by simp [fI_O])) (F.1 21 16 (by simp [fI_O])) (F.1 21 17 (by simp [fI_O])) (F.1 21 18 (by simp [fI_O])) (F.1 64 34 (by simp [fI_O])) (F.1 64 35 (by simp [fI_O])) (F.1 64 58 (by simp [fI_O])) hQ⟩, r2, r3, r4⟩
theorem y_member (b0 : Int32) (b1 : Int32) (b2 : Int32) (b3 : Int32) : pb_eqI Inv M_X11_member M_X12_member [.ref 0, .int b0, .int b1, .int b2, .int b3] [.ref 64, .int b0, .int b1, .int b2, .int b3] := by
  intro w hw
  have hw0 := hw
  obtain ⟨n, Es, hH, hR, hB, hJ, hLF⟩ := hw
  have hR0 := hR
  obtain ⟨hT, hF, hW, hS, hA, hO, hM, hD, hU, hG, hY, hQ⟩ := hR
  obtain ⟨x, w1, w2, e1, e2, F, hH2, hN2⟩ := x_member b0 b1 b2 b3 w hH hF hM
  have S : SL w w2 := SL_of F (fun c k q z => by simp only [fI_M] at q; simp only [nI_SL] at z; omega) (fun c k q z => q)
  obtain ⟨r2, r3, r4⟩ := SL_all S hB hJ hLF (F.1 5 0 (by simp [fI_M])) (F.1 64 6 (by simp [fI_M]))
  exact ⟨x, w1, w2, e1, e2, n, Es, hH2, ⟨cg_T (fr_1 F 3 (fun k => by simp [fI_M])) (fr_1 F 4 (fun k => by simp [fI_M])) (fr_1 F 65 (fun k => by simp [fI_M])) (fr_1 F 66 (fun k => by simp [fI_M])) (fr_2 F 2 (fun k => by simp [fJ_no])) (fr_2 F 67 (fun k => by simp [fJ_no])) hT, cg_F (fr_1 F 6 (fun k => by simp [fI_M])) (fr_1 F 7 (fun k => by simp [fI_M])) (fr_1 F 68 (fun k => by simp [fI_M])) (fr_1 F 69 (fun k => by simp [fI_M])) (F.1 5 0 (by simp [fI_M])) (F.1 64 6 (by simp [fI_M])) hF, cg_W (F.1 64 11 (by simp [fI_M])) (fr_2 F 20 (fun k => by simp [fJ_no])) (fr_2 F 80 (fun k => by simp [fJ_no])) hW, cg_S (fr_1 F 50 (fun k => by simp [fI_M])) (fr_1 F 121 (fun k => by simp [fI_M])) hS, cg_A (fr_1 F 22 (fun k => by simp [fI_M])) (fr_1 F 82 (fun k => by simp [fI_M])) (F.1 21 1 (by simp [fI_M])) (F.1 64 28 (by simp [fI_M])) hA, cg_O (fr_1 F 62 (fun k => by simp [fI_M])) (fr_1 F 63 (fun k => by simp [fI_M])) (fr_1 F 128 (fun k => by simp [fI_M])) (fr_1 F 129 (fun k => by simp [fI_M])) (F.1 61 2 (by simp [fI_M])) (F.1 64 98 (by simp [fI_M])) hO, hN2, cg_D (fr_1 F 32 (fun k => by simp [fI_M])) (fr_1 F 33 (fun k => by simp [fI_M])) (fr_1 F 34 (fun k => by simp [fI_M])) (fr_1 F 104 (fun k => by simp [fI_M])) (fr_1 F 105 (fun k => by simp [fI_M])) (fr_1 F 106 (fun k => by simp [fI_M])) (F.1 31 1 (by simp [fI_M])) (F.1 64 67 (by simp [fI_M])) hD, cg_U (F.1 64 76 (by simp [fI_M])) (F.1 39 2 (by simp [fI_M])) (F.1 64 77 (by simp [fI_M])) (F.1 51 2 (by simp [fI_M])) hU, cg_G (fr_1 F 58 (fun k => by simp [fI_M])) (fr_1 F 126 (fun k => by simp [fI_M])) (F.1 57 1 (by simp [fI_M])) (F.1 64 97 (by simp [fI_M])) hG, cg_Y (fr_1 F 22 (fun k => by simp [fI_M])) hY, cg_Q (F.1 21 15 (by simp [fI_M])) (F.1 21 16 (by simp [fI_M])) (F.1 21 17 (by simp [fI_M])) (F.1 21 18 (by simp [fI_M])) (F.1 64 34 (by simp [fI_M])) (F.1 64 35 (by simp [fI_M])) (F.1 64 58 (by simp [fI_M])) hQ⟩, r2, r3, r4⟩
theorem y_rules (b0 : Int32) (b1 : Int32) : pb_eqI Inv M_X11_rules M_X12_rules [.ref 0, .int b0, .int b1] [.ref 64, .int b0, .int b1] := by
  intro w hw
  have hw0 := hw
  obtain ⟨n, Es, hH, hR, hB, hJ, hLF⟩ := hw
  have hR0 := hR
  obtain ⟨hT, hF, hW, hS, hA, hO, hM, hD, hU, hG, hY, hQ⟩ := hR
  obtain ⟨x, w1, w2, e1, e2, F, hH2, hN2⟩ := x_rules b0 b1 w hH hU
  have S : SL w w2 := SL_of F (fun c k q z => by simp only [fI_U] at q; simp only [nI_SL] at z; omega) (fun c k q z => q)
  obtain ⟨r2, r3, r4⟩ := SL_all S hB hJ hLF (F.1 5 0 (by simp [fI_U])) (F.1 64 6 (by simp [fI_U]))
  exact ⟨x, w1, w2, e1, e2, n, Es, hH2, ⟨cg_T (fr_1 F 3 (fun k => by simp [fI_U])) (fr_1 F 4 (fun k => by simp [fI_U])) (fr_1 F 65 (fun k => by simp [fI_U])) (fr_1 F 66 (fun k => by simp [fI_U])) (fr_2 F 2 (fun k => by simp [fJ_no])) (fr_2 F 67 (fun k => by simp [fJ_no])) hT, cg_F (fr_1 F 6 (fun k => by simp [fI_U])) (fr_1 F 7 (fun k => by simp [fI_U])) (fr_1 F 68 (fun k => by simp [fI_U])) (fr_1 F 69 (fun k => by simp [fI_U])) (F.1 5 0 (by simp [fI_U])) (F.1 64 6 (by simp [fI_U])) hF, cg_W (F.1 64 11 (by simp [fI_U])) (fr_2 F 20 (fun k => by simp [fJ_no])) (fr_2 F 80 (fun k => by simp [fJ_no])) hW, cg_S (fr_1 F 50 (fun k => by simp [fI_U])) (fr_1 F 121 (fun k => by simp [fI_U])) hS, cg_A (fr_1 F 22 (fun k => by simp [fI_U])) (fr_1 F 82 (fun k => by simp [fI_U])) (F.1 21 1 (by simp [fI_U])) (F.1 64 28 (by simp [fI_U])) hA, cg_O (fr_1 F 62 (fun k => by simp [fI_U])) (fr_1 F 63 (fun k => by simp [fI_U])) (fr_1 F 128 (fun k => by simp [fI_U])) (fr_1 F 129 (fun k => by simp [fI_U])) (F.1 61 2 (by simp [fI_U])) (F.1 64 98 (by simp [fI_U])) hO, cg_M (fr_1 F 46 (fun k => by simp [fI_U])) (fr_1 F 47 (fun k => by simp [fI_U])) (fr_1 F 48 (fun k => by simp [fI_U])) (fr_1 F 49 (fun k => by simp [fI_U])) (fr_1 F 117 (fun k => by simp [fI_U])) (fr_1 F 118 (fun k => by simp [fI_U])) (fr_1 F 119 (fun k => by simp [fI_U])) (fr_1 F 120 (fun k => by simp [fI_U])) (F.1 45 0 (by simp [fI_U])) (F.1 64 85 (by simp [fI_U])) hM, cg_D (fr_1 F 32 (fun k => by simp [fI_U])) (fr_1 F 33 (fun k => by simp [fI_U])) (fr_1 F 34 (fun k => by simp [fI_U])) (fr_1 F 104 (fun k => by simp [fI_U])) (fr_1 F 105 (fun k => by simp [fI_U])) (fr_1 F 106 (fun k => by simp [fI_U])) (F.1 31 1 (by simp [fI_U])) (F.1 64 67 (by simp [fI_U])) hD, hN2, cg_G (fr_1 F 58 (fun k => by simp [fI_U])) (fr_1 F 126 (fun k => by simp [fI_U])) (F.1 57 1 (by simp [fI_U])) (F.1 64 97 (by simp [fI_U])) hG, cg_Y (fr_1 F 22 (fun k => by simp [fI_U])) hY, cg_Q (F.1 21 15 (by simp [fI_U])) (F.1 21 16 (by simp [fI_U])) (F.1 21 17 (by simp [fI_U])) (F.1 21 18 (by simp [fI_U])) (F.1 64 34 (by simp [fI_U])) (F.1 64 35 (by simp [fI_U])) (F.1 64 58 (by simp [fI_U])) hQ⟩, r2, r3, r4⟩
theorem y_feed (b0 : Int32) (b1 : Int32) (b2 : Int32) (b3 : Int32) (b4 : Int32) : pb_eqI Inv M_X11_feed M_X12_feed [.ref 0, .int b0, .int b1, .int b2, .int b3, .int b4] [.ref 64, .int b0, .int b1, .int b2, .int b3, .int b4] := by
  intro w hw
  have hw0 := hw
  obtain ⟨n, Es, hH, hR, hB, hJ, hLF⟩ := hw
  have hR0 := hR
  obtain ⟨hT, hF, hW, hS, hA, hO, hM, hD, hU, hG, hY, hQ⟩ := hR
  obtain ⟨x, w1, w2, e1, e2, F, hA2, hY2⟩ := x_feedY b0 b1 b2 b3 b4 w hA hY
  have S : SL w w2 := SL_of F (fun c k q z => by simp only [fI_AB] at q; simp only [nI_SL] at z; omega) (fun c k q z => q)
  obtain ⟨r2, r3, r4⟩ := SL_all S hB hJ hLF (F.1 5 0 (by simp [fI_AB])) (F.1 64 6 (by simp [fI_AB]))
  refine ⟨x, w1, w2, e1, e2, n, Es, ⟨?_, ?_, ?_⟩, ⟨cg_T (fr_1 F 3 (fun k => by simp [fI_AB])) (fr_1 F 4 (fun k => by simp [fI_AB])) (fr_1 F 65 (fun k => by simp [fI_AB])) (fr_1 F 66 (fun k => by simp [fI_AB])) (fr_2 F 2 (fun k => by simp [fJ_no])) (fr_2 F 67 (fun k => by simp [fJ_no])) hT, cg_F (fr_1 F 6 (fun k => by simp [fI_AB])) (fr_1 F 7 (fun k => by simp [fI_AB])) (fr_1 F 68 (fun k => by simp [fI_AB])) (fr_1 F 69 (fun k => by simp [fI_AB])) (F.1 5 0 (by simp [fI_AB])) (F.1 64 6 (by simp [fI_AB])) hF, cg_W (F.1 64 11 (by simp [fI_AB])) (fr_2 F 20 (fun k => by simp [fJ_no])) (fr_2 F 80 (fun k => by simp [fJ_no])) hW, cg_S (fr_1 F 50 (fun k => by simp [fI_AB])) (fr_1 F 121 (fun k => by simp [fI_AB])) hS, hA2, cg_O (fr_1 F 62 (fun k => by simp [fI_AB])) (fr_1 F 63 (fun k => by simp [fI_AB])) (fr_1 F 128 (fun k => by simp [fI_AB])) (fr_1 F 129 (fun k => by simp [fI_AB])) (F.1 61 2 (by simp [fI_AB])) (F.1 64 98 (by simp [fI_AB])) hO, cg_M (fr_1 F 46 (fun k => by simp [fI_AB])) (fr_1 F 47 (fun k => by simp [fI_AB])) (fr_1 F 48 (fun k => by simp [fI_AB])) (fr_1 F 49 (fun k => by simp [fI_AB])) (fr_1 F 117 (fun k => by simp [fI_AB])) (fr_1 F 118 (fun k => by simp [fI_AB])) (fr_1 F 119 (fun k => by simp [fI_AB])) (fr_1 F 120 (fun k => by simp [fI_AB])) (F.1 45 0 (by simp [fI_AB])) (F.1 64 85 (by simp [fI_AB])) hM, cg_D (fr_1 F 32 (fun k => by simp [fI_AB])) (fr_1 F 33 (fun k => by simp [fI_AB])) (fr_1 F 34 (fun k => by simp [fI_AB])) (fr_1 F 104 (fun k => by simp [fI_AB])) (fr_1 F 105 (fun k => by simp [fI_AB])) (fr_1 F 106 (fun k => by simp [fI_AB])) (F.1 31 1 (by simp [fI_AB])) (F.1 64 67 (by simp [fI_AB])) hD, cg_U (F.1 64 76 (by simp [fI_AB])) (F.1 39 2 (by simp [fI_AB])) (F.1 64 77 (by simp [fI_AB])) (F.1 51 2 (by simp [fI_AB])) hU, cg_G (fr_1 F 58 (fun k => by simp [fI_AB])) (fr_1 F 126 (fun k => by simp [fI_AB])) (F.1 57 1 (by simp [fI_AB])) (F.1 64 97 (by simp [fI_AB])) hG, hY2, cg_Q (F.1 21 15 (by simp [fI_AB])) (F.1 21 16 (by simp [fI_AB])) (F.1 21 17 (by simp [fI_AB])) (F.1 21 18 (by simp [fI_AB])) (F.1 64 34 (by simp [fI_AB])) (F.1 64 35 (by simp [fI_AB])) (F.1 64 58 (by simp [fI_AB])) hQ⟩, r2, r3, r4⟩
  · rw [F.1 64 0 (by simp [fI_AB]), F.1 0 0 (by simp [fI_AB])]; exact hH.1
  · rw [F.2 64 1 id, F.2 0 1 id]; exact hH.2.1
  · rw [F.2 64 2 id, F.2 0 2 id]; exact hH.2.2
theorem y_edition (b0 : Int32) : pb_eqI Inv M_X11_edition M_X12_edition [.ref 0, .int b0] [.ref 64, .int b0] := by
  intro w hw
  have hw0 := hw
  obtain ⟨n, Es, hH, hR, hB, hJ, hLF⟩ := hw
  have hR0 := hR
  obtain ⟨hT, hF, hW, hS, hA, hO, hM, hD, hU, hG, hY, hQ⟩ := hR
  obtain ⟨x, w1, w2, e1, e2, F, hH2, hA2, hY2, hQ2, Es', hE2, hEs⟩ := x_edition b0 w Es hH hA hY hQ hB.2.2
  have L2 : iv_L w2 := iv_L_fr F (fun k q z => by simp only [fI_E] at z; omega) (fun k q z => by simp only [fI_E] at z; omega) (fun c q k z => by simp only [fI_E] at z; omega) (fun c q k z => by simp only [fJ_E] at z; omega) hB.1
  have c : ∀ c, 5 ≤ c ∧ c ≤ 19 → w2.1 c = w.1 c := fun c hc => fr_1 F c (fun k z => by simp only [fI_E] at z; omega)
  have c7 : ∀ c, 70 ≤ c ∧ c ≤ 75 → w2.1 c = w.1 c := fun c hc => fr_1 F c (fun k z => by simp only [fI_E] at z; omega)
  have N2 : LN w2 n := LN_sv hB.2.1 (c 5 (by decide)) (F.1 64 7 (by simp [fI_E])) (F.1 64 10 (by simp [fI_E])) (c 8 (by decide)) (c 9 (by decide)) (c 11 (by decide)) (c 13 (by decide)) (c 16 (by decide)) (c7 70 (by decide)) (c7 71 (by decide)) (c7 74 (by decide)) (c7 75 (by decide))
  have le : Es.length ≤ Es'.length ∧ ∀ E, E < Es.length → Es'.getD E [] = Es.getD E [] := by
    rcases hEs with rfl | ⟨rs, rfl⟩
    · exact ⟨Nat.le_refl _, fun _ _ => rfl⟩
    · exact ⟨by rw [List.length_append]; omega, fun E hE => gL1 _ _ _ hE⟩
  refine ⟨x, w1, w2, e1, e2, n, Es', hH2, ⟨cg_T (fr_1 F 3 (fun k => by simp [fI_E])) (fr_1 F 4 (fun k => by simp [fI_E])) (fr_1 F 65 (fun k => by simp [fI_E])) (fr_1 F 66 (fun k => by simp [fI_E])) (fr_2 F 2 (fun k => by simp [fJ_E])) (fr_2 F 67 (fun k => by simp [fJ_E])) hT, cg_F (fr_1 F 6 (fun k => by simp [fI_E])) (fr_1 F 7 (fun k => by simp [fI_E])) (fr_1 F 68 (fun k => by simp [fI_E])) (fr_1 F 69 (fun k => by simp [fI_E])) (F.1 5 0 (by simp [fI_E])) (F.1 64 6 (by simp [fI_E])) hF, cg_W (F.1 64 11 (by simp [fI_E])) (fr_2 F 20 (fun k => by simp [fJ_E])) (fr_2 F 80 (fun k => by simp [fJ_E])) hW, cg_S (fr_1 F 50 (fun k => by simp [fI_E])) (fr_1 F 121 (fun k => by simp [fI_E])) hS, hA2, cg_O (fr_1 F 62 (fun k => by simp [fI_E])) (fr_1 F 63 (fun k => by simp [fI_E])) (fr_1 F 128 (fun k => by simp [fI_E])) (fr_1 F 129 (fun k => by simp [fI_E])) (F.1 61 2 (by simp [fI_E])) (F.1 64 98 (by simp [fI_E])) hO, cg_M (fr_1 F 46 (fun k => by simp [fI_E])) (fr_1 F 47 (fun k => by simp [fI_E])) (fr_1 F 48 (fun k => by simp [fI_E])) (fr_1 F 49 (fun k => by simp [fI_E])) (fr_1 F 117 (fun k => by simp [fI_E])) (fr_1 F 118 (fun k => by simp [fI_E])) (fr_1 F 119 (fun k => by simp [fI_E])) (fr_1 F 120 (fun k => by simp [fI_E])) (F.1 45 0 (by simp [fI_E])) (F.1 64 85 (by simp [fI_E])) hM, cg_D (fr_1 F 32 (fun k => by simp [fI_E])) (fr_1 F 33 (fun k => by simp [fI_E])) (fr_1 F 34 (fun k => by simp [fI_E])) (fr_1 F 104 (fun k => by simp [fI_E])) (fr_1 F 105 (fun k => by simp [fI_E])) (fr_1 F 106 (fun k => by simp [fI_E])) (F.1 31 1 (by simp [fI_E])) (F.1 64 67 (by simp [fI_E])) hD, cg_U (F.1 64 76 (by simp [fI_E])) (F.1 39 2 (by simp [fI_E])) (F.1 64 77 (by simp [fI_E])) (F.1 51 2 (by simp [fI_E])) hU, cg_G (fr_1 F 58 (fun k => by simp [fI_E])) (fr_1 F 126 (fun k => by simp [fI_E])) (F.1 57 1 (by simp [fI_E])) (F.1 64 97 (by simp [fI_E])) hG, hY2, hQ2⟩, ⟨L2, N2, hE2⟩, fun E l h1 h2 => ?_, ?_⟩
  · rw [fr_1 F 28 (fun k => by simp [fI_E]), fr_1 F 29 (fun k => by simp [fI_E])]
    rcases hJ E l h1 h2 with z | ⟨z1, z2, z3⟩
    · exact Or.inl z
    · refine Or.inr ⟨by omega, z2, ?_⟩
      rw [le.2 E z1, z3]
      unfold evp
      rw [c 9 (by decide), c 10 (by decide), c 12 (by decide), fr_2 F 14 (fun k => by simp [fJ_E])]
  · unfold LF fmN
    rw [F.1 5 0 (by simp [fI_E]), F.1 64 6 (by simp [fI_E]), c 8 (by decide)]
    exact hLF
theorem y_asof (b0 : Int32) : pb_eqI Inv M_X11_asof M_X12_asof [.ref 0, .int b0] [.ref 64, .int b0] := by
  intro w hw
  have hw0 := hw
  obtain ⟨n, Es, hH, hR, hB, hJ, hLF⟩ := hw
  have hR0 := hR
  obtain ⟨hT, hF, hW, hS, hA, hO, hM, hD, hU, hG, hY, hQ⟩ := hR
  obtain ⟨x, w1, w2, e1, e2, F, hH2, L2⟩ := x_asof b0 w hH hB.1
  obtain ⟨n', N2⟩ := LN_of L2
  have n2 := hB.2.1.le
  have n2' := N2.le
  have en : n' = n := (nI_eq (by omega) (by omega)).mp (N2.n5.symm.trans ((F.1 5 3 (by simp [fI_R])).trans hB.2.1.n5))
  subst en
  have E2 : EI w2 Es := EI_up hB.2.2 (fun c k q => F.1 c k (fun z => by simp only [fI_R] at z; omega)) (fun c k q => F.2 c k id)
  refine ⟨x, w1, w2, e1, e2, n', Es, hH2, ⟨cg_T (fr_1 F 3 (fun k => by simp [fI_R])) (fr_1 F 4 (fun k => by simp [fI_R])) (fr_1 F 65 (fun k => by simp [fI_R])) (fr_1 F 66 (fun k => by simp [fI_R])) (fr_2 F 2 (fun k => by simp [fJ_no])) (fr_2 F 67 (fun k => by simp [fJ_no])) hT, cg_F (fr_1 F 6 (fun k => by simp [fI_R])) (fr_1 F 7 (fun k => by simp [fI_R])) (fr_1 F 68 (fun k => by simp [fI_R])) (fr_1 F 69 (fun k => by simp [fI_R])) (F.1 5 0 (by simp [fI_R])) (F.1 64 6 (by simp [fI_R])) hF, cg_W (F.1 64 11 (by simp [fI_R])) (fr_2 F 20 (fun k => by simp [fJ_no])) (fr_2 F 80 (fun k => by simp [fJ_no])) hW, cg_S (fr_1 F 50 (fun k => by simp [fI_R])) (fr_1 F 121 (fun k => by simp [fI_R])) hS, cg_A (fr_1 F 22 (fun k => by simp [fI_R])) (fr_1 F 82 (fun k => by simp [fI_R])) (F.1 21 1 (by simp [fI_R])) (F.1 64 28 (by simp [fI_R])) hA, cg_O (fr_1 F 62 (fun k => by simp [fI_R])) (fr_1 F 63 (fun k => by simp [fI_R])) (fr_1 F 128 (fun k => by simp [fI_R])) (fr_1 F 129 (fun k => by simp [fI_R])) (F.1 61 2 (by simp [fI_R])) (F.1 64 98 (by simp [fI_R])) hO, cg_M (fr_1 F 46 (fun k => by simp [fI_R])) (fr_1 F 47 (fun k => by simp [fI_R])) (fr_1 F 48 (fun k => by simp [fI_R])) (fr_1 F 49 (fun k => by simp [fI_R])) (fr_1 F 117 (fun k => by simp [fI_R])) (fr_1 F 118 (fun k => by simp [fI_R])) (fr_1 F 119 (fun k => by simp [fI_R])) (fr_1 F 120 (fun k => by simp [fI_R])) (F.1 45 0 (by simp [fI_R])) (F.1 64 85 (by simp [fI_R])) hM, cg_D (fr_1 F 32 (fun k => by simp [fI_R])) (fr_1 F 33 (fun k => by simp [fI_R])) (fr_1 F 34 (fun k => by simp [fI_R])) (fr_1 F 104 (fun k => by simp [fI_R])) (fr_1 F 105 (fun k => by simp [fI_R])) (fr_1 F 106 (fun k => by simp [fI_R])) (F.1 31 1 (by simp [fI_R])) (F.1 64 67 (by simp [fI_R])) hD, cg_U (F.1 64 76 (by simp [fI_R])) (F.1 39 2 (by simp [fI_R])) (F.1 64 77 (by simp [fI_R])) (F.1 51 2 (by simp [fI_R])) hU, cg_G (fr_1 F 58 (fun k => by simp [fI_R])) (fr_1 F 126 (fun k => by simp [fI_R])) (F.1 57 1 (by simp [fI_R])) (F.1 64 97 (by simp [fI_R])) hG, cg_Y (fr_1 F 22 (fun k => by simp [fI_R])) hY, cg_Q (F.1 21 15 (by simp [fI_R])) (F.1 21 16 (by simp [fI_R])) (F.1 21 17 (by simp [fI_R])) (F.1 21 18 (by simp [fI_R])) (F.1 64 34 (by simp [fI_R])) (F.1 64 35 (by simp [fI_R])) (F.1 64 58 (by simp [fI_R])) hQ⟩, ⟨L2, N2, E2⟩, fun E l h1 h2 => ?_, ?_⟩
  · rw [fr_1 F 28 (fun k => by simp [fI_R]), fr_1 F 29 (fun k => by simp [fI_R])]
    have e : ∀ p, evp w2 l p = evp w l p := fun p => by
      unfold evp
      rw [fr_1 F 9 (fun k => by simp [fI_R]), fr_1 F 10 (fun k => by simp [fI_R]), fr_1 F 12 (fun k => by simp [fI_R]), fr_2 F 14 (fun k => id)]
    rw [e]
    exact hJ E l h1 h2
  · unfold LF fmN
    rw [F.1 5 0 (by simp [fI_R]), F.1 64 6 (by simp [fI_R]), fr_1 F 8 (fun k => by simp [fI_R])]
    exact hLF
theorem y_reading (b0 : Int32) (b1 : Int32) (b2 : Int32) : pb_eqI Inv M_X11_reading M_X12_reading [.ref 0, .int b0, .int b1, .int b2] [.ref 64, .int b0, .int b1, .int b2] := by
  intro w hw
  have hw0 := hw
  obtain ⟨n, Es, hH, hR, hB, hJ, hLF⟩ := hw
  have hR0 := hR
  obtain ⟨hT, hF, hW, hS, hA, hO, hM, hD, hU, hG, hY, hQ⟩ := hR
  obtain ⟨x, w1, w2, e1, e2, F, hH2, L2⟩ := x_reading b0 b1 b2 w hH hB.1
  obtain ⟨n', N2⟩ := LN_of L2
  have n2 := hB.2.1.le
  have n2' := N2.le
  have en : n' = n := (nI_eq (by omega) (by omega)).mp (N2.n5.symm.trans ((F.1 5 3 (by simp [fI_R])).trans hB.2.1.n5))
  subst en
  have E2 : EI w2 Es := EI_up hB.2.2 (fun c k q => F.1 c k (fun z => by simp only [fI_R] at z; omega)) (fun c k q => F.2 c k id)
  refine ⟨x, w1, w2, e1, e2, n', Es, hH2, ⟨cg_T (fr_1 F 3 (fun k => by simp [fI_R])) (fr_1 F 4 (fun k => by simp [fI_R])) (fr_1 F 65 (fun k => by simp [fI_R])) (fr_1 F 66 (fun k => by simp [fI_R])) (fr_2 F 2 (fun k => by simp [fJ_no])) (fr_2 F 67 (fun k => by simp [fJ_no])) hT, cg_F (fr_1 F 6 (fun k => by simp [fI_R])) (fr_1 F 7 (fun k => by simp [fI_R])) (fr_1 F 68 (fun k => by simp [fI_R])) (fr_1 F 69 (fun k => by simp [fI_R])) (F.1 5 0 (by simp [fI_R])) (F.1 64 6 (by simp [fI_R])) hF, cg_W (F.1 64 11 (by simp [fI_R])) (fr_2 F 20 (fun k => by simp [fJ_no])) (fr_2 F 80 (fun k => by simp [fJ_no])) hW, cg_S (fr_1 F 50 (fun k => by simp [fI_R])) (fr_1 F 121 (fun k => by simp [fI_R])) hS, cg_A (fr_1 F 22 (fun k => by simp [fI_R])) (fr_1 F 82 (fun k => by simp [fI_R])) (F.1 21 1 (by simp [fI_R])) (F.1 64 28 (by simp [fI_R])) hA, cg_O (fr_1 F 62 (fun k => by simp [fI_R])) (fr_1 F 63 (fun k => by simp [fI_R])) (fr_1 F 128 (fun k => by simp [fI_R])) (fr_1 F 129 (fun k => by simp [fI_R])) (F.1 61 2 (by simp [fI_R])) (F.1 64 98 (by simp [fI_R])) hO, cg_M (fr_1 F 46 (fun k => by simp [fI_R])) (fr_1 F 47 (fun k => by simp [fI_R])) (fr_1 F 48 (fun k => by simp [fI_R])) (fr_1 F 49 (fun k => by simp [fI_R])) (fr_1 F 117 (fun k => by simp [fI_R])) (fr_1 F 118 (fun k => by simp [fI_R])) (fr_1 F 119 (fun k => by simp [fI_R])) (fr_1 F 120 (fun k => by simp [fI_R])) (F.1 45 0 (by simp [fI_R])) (F.1 64 85 (by simp [fI_R])) hM, cg_D (fr_1 F 32 (fun k => by simp [fI_R])) (fr_1 F 33 (fun k => by simp [fI_R])) (fr_1 F 34 (fun k => by simp [fI_R])) (fr_1 F 104 (fun k => by simp [fI_R])) (fr_1 F 105 (fun k => by simp [fI_R])) (fr_1 F 106 (fun k => by simp [fI_R])) (F.1 31 1 (by simp [fI_R])) (F.1 64 67 (by simp [fI_R])) hD, cg_U (F.1 64 76 (by simp [fI_R])) (F.1 39 2 (by simp [fI_R])) (F.1 64 77 (by simp [fI_R])) (F.1 51 2 (by simp [fI_R])) hU, cg_G (fr_1 F 58 (fun k => by simp [fI_R])) (fr_1 F 126 (fun k => by simp [fI_R])) (F.1 57 1 (by simp [fI_R])) (F.1 64 97 (by simp [fI_R])) hG, cg_Y (fr_1 F 22 (fun k => by simp [fI_R])) hY, cg_Q (F.1 21 15 (by simp [fI_R])) (F.1 21 16 (by simp [fI_R])) (F.1 21 17 (by simp [fI_R])) (F.1 21 18 (by simp [fI_R])) (F.1 64 34 (by simp [fI_R])) (F.1 64 35 (by simp [fI_R])) (F.1 64 58 (by simp [fI_R])) hQ⟩, ⟨L2, N2, E2⟩, fun E l h1 h2 => ?_, ?_⟩
  · rw [fr_1 F 28 (fun k => by simp [fI_R]), fr_1 F 29 (fun k => by simp [fI_R])]
    have e : ∀ p, evp w2 l p = evp w l p := fun p => by
      unfold evp
      rw [fr_1 F 9 (fun k => by simp [fI_R]), fr_1 F 10 (fun k => by simp [fI_R]), fr_1 F 12 (fun k => by simp [fI_R]), fr_2 F 14 (fun k => id)]
    rw [e]
    exact hJ E l h1 h2
  · unfold LF fmN
    rw [F.1 5 0 (by simp [fI_R]), F.1 64 6 (by simp [fI_R]), fr_1 F 8 (fun k => by simp [fI_R])]
    exact hLF
theorem y_family (b0 : Int32) (b1 : Int32) : pb_eqI Inv M_X11_family M_X12_family [.ref 0, .int b0, .int b1] [.ref 64, .int b0, .int b1] := by
  intro w hw
  have hw0 := hw
  obtain ⟨n, Es, hH, hR, hB, hJ, hLF⟩ := hw
  have hR0 := hR
  obtain ⟨hT, hF, hW, hS, hA, hO, hM, hD, hU, hG, hY, hQ⟩ := hR
  obtain ⟨x, w1, w2, e1, e2, F, hH2, hF2⟩ := x_family b0 b1 w hH hF
  have S : SL w w2 := SL_of F (fun c k q z => by simp only [fI_F] at q; simp only [nI_SL] at z; omega) (fun c k q z => q)
  have hF2' := hF2
  obtain ⟨m, hm, m5, m6, -⟩ := hF2'
  obtain ⟨nF, f1, f2, f3, f4⟩ := hLF
  have mn : nF ≤ m := by
    rcases fam_old hF e1 e2 with z | ⟨k, k1, k2, k3⟩
    · have := (nI_eq (by omega) (by omega)).mp (m5.symm.trans (z.trans f2))
      omega
    · have a := (nI_eq (by omega) (by omega)).mp (k2.symm.trans f2)
      have b := (nI_eq (by omega) (by omega)).mp (k3.symm.trans m5)
      omega
  obtain ⟨r2, r3⟩ := SL_BJ S hB hJ
  refine ⟨x, w1, w2, e1, e2, n, Es, hH2, ⟨cg_T (fr_1 F 3 (fun k => by simp [fI_F])) (fr_1 F 4 (fun k => by simp [fI_F])) (fr_1 F 65 (fun k => by simp [fI_F])) (fr_1 F 66 (fun k => by simp [fI_F])) (fr_2 F 2 (fun k => by simp [fJ_no])) (fr_2 F 67 (fun k => by simp [fJ_no])) hT, hF2, cg_W (F.1 64 11 (by simp [fI_F])) (fr_2 F 20 (fun k => by simp [fJ_no])) (fr_2 F 80 (fun k => by simp [fJ_no])) hW, cg_S (fr_1 F 50 (fun k => by simp [fI_F])) (fr_1 F 121 (fun k => by simp [fI_F])) hS, cg_A (fr_1 F 22 (fun k => by simp [fI_F])) (fr_1 F 82 (fun k => by simp [fI_F])) (F.1 21 1 (by simp [fI_F])) (F.1 64 28 (by simp [fI_F])) hA, cg_O (fr_1 F 62 (fun k => by simp [fI_F])) (fr_1 F 63 (fun k => by simp [fI_F])) (fr_1 F 128 (fun k => by simp [fI_F])) (fr_1 F 129 (fun k => by simp [fI_F])) (F.1 61 2 (by simp [fI_F])) (F.1 64 98 (by simp [fI_F])) hO, cg_M (fr_1 F 46 (fun k => by simp [fI_F])) (fr_1 F 47 (fun k => by simp [fI_F])) (fr_1 F 48 (fun k => by simp [fI_F])) (fr_1 F 49 (fun k => by simp [fI_F])) (fr_1 F 117 (fun k => by simp [fI_F])) (fr_1 F 118 (fun k => by simp [fI_F])) (fr_1 F 119 (fun k => by simp [fI_F])) (fr_1 F 120 (fun k => by simp [fI_F])) (F.1 45 0 (by simp [fI_F])) (F.1 64 85 (by simp [fI_F])) hM, cg_D (fr_1 F 32 (fun k => by simp [fI_F])) (fr_1 F 33 (fun k => by simp [fI_F])) (fr_1 F 34 (fun k => by simp [fI_F])) (fr_1 F 104 (fun k => by simp [fI_F])) (fr_1 F 105 (fun k => by simp [fI_F])) (fr_1 F 106 (fun k => by simp [fI_F])) (F.1 31 1 (by simp [fI_F])) (F.1 64 67 (by simp [fI_F])) hD, cg_U (F.1 64 76 (by simp [fI_F])) (F.1 39 2 (by simp [fI_F])) (F.1 64 77 (by simp [fI_F])) (F.1 51 2 (by simp [fI_F])) hU, cg_G (fr_1 F 58 (fun k => by simp [fI_F])) (fr_1 F 126 (fun k => by simp [fI_F])) (F.1 57 1 (by simp [fI_F])) (F.1 64 97 (by simp [fI_F])) hG, cg_Y (fr_1 F 22 (fun k => by simp [fI_F])) hY, cg_Q (F.1 21 15 (by simp [fI_F])) (F.1 21 16 (by simp [fI_F])) (F.1 21 17 (by simp [fI_F])) (F.1 21 18 (by simp [fI_F])) (F.1 64 34 (by simp [fI_F])) (F.1 64 35 (by simp [fI_F])) (F.1 64 58 (by simp [fI_F])) hQ⟩, r2, r3, m, hm, m5, m6, fun k hk => ?_⟩
  have e8 : w2.1 8 = w.1 8 := fr_1 F 8 (fun k => by simp [fI_F])
  obtain ⟨g1, g2⟩ := f4 k hk
  unfold fmN at g1 g2 ⊢
  rw [e8]
  exact ⟨by omega, g2⟩
theorem y_line (b0 : Int32) (b1 : Int32) (b2 : Int32) (b3 : Int32) (b4 : Int32) (b5 : Int32) (b6 : Int32) : pb_eqI Inv M_X11_line M_X12_line [.ref 0, .int b0, .int b1, .int b2, .int b3, .int b4, .int b5, .int b6] [.ref 64, .int b0, .int b1, .int b2, .int b3, .int b4, .int b5, .int b6] := by
  intro w hw
  have hw0 := hw
  obtain ⟨n, Es, hH, hR, hB, hJ, hLF⟩ := hw
  have hR0 := hR
  obtain ⟨hT, hF, hW, hS, hA, hO, hM, hD, hU, hG, hY, hQ⟩ := hR
  obtain ⟨x, w1, w2, e1, e2, F, hH2, hW2, L2⟩ := x_line b0 b1 b2 b3 b4 b5 b6 w hH hF hW hB.1
  obtain ⟨n', N2⟩ := LN_of L2
  have n2 := hB.2.1.le
  have n2' := N2.le
  obtain ⟨old, new⟩ := line_old hF hW hB.1 hB.2.1 e1 e2
  obtain ⟨nF, f1, f2, f3, f4⟩ := hLF
  have E2 : EI w2 Es := EI_up hB.2.2 (fun c k q => F.1 c k (fun z => by simp only [fI_N] at z; omega)) (fun c k q => F.2 c k (fun z => by simp only [fJ_N] at z; omega))
  have nn : n ≤ n' ∧ ∀ k, k < n' → k < n ∨ (k = n ∧ w2.1 8 n = b0 ∧ ¬ b0 < 0 ∧ b0 < w.1 5 0) := by
    rcases new with z | ⟨z1, z2, z3, z4, z5⟩
    · have := (nI_eq (by omega) (by omega)).mp (N2.n5.symm.trans (z.trans hB.2.1.n5))
      exact ⟨by omega, fun k hk => Or.inl (by omega)⟩
    · have := (nI_eq (by omega) (by omega)).mp (N2.n5.symm.trans z1)
      exact ⟨by omega, fun k hk => by
        by_cases y : k < n
        · exact Or.inl y
        · exact Or.inr ⟨by omega, z3, z4, z5⟩⟩
  refine ⟨x, w1, w2, e1, e2, n', Es, hH2, ⟨cg_T (fr_1 F 3 (fun k => by simp [fI_N])) (fr_1 F 4 (fun k => by simp [fI_N])) (fr_1 F 65 (fun k => by simp [fI_N])) (fr_1 F 66 (fun k => by simp [fI_N])) (fr_2 F 2 (fun k => by simp [fJ_N])) (fr_2 F 67 (fun k => by simp [fJ_N])) hT, cg_F (fr_1 F 6 (fun k => by simp [fI_N])) (fr_1 F 7 (fun k => by simp [fI_N])) (fr_1 F 68 (fun k => by simp [fI_N])) (fr_1 F 69 (fun k => by simp [fI_N])) (F.1 5 0 (by simp [fI_N])) (F.1 64 6 (by simp [fI_N])) hF, hW2, cg_S (fr_1 F 50 (fun k => by simp [fI_N])) (fr_1 F 121 (fun k => by simp [fI_N])) hS, cg_A (fr_1 F 22 (fun k => by simp [fI_N])) (fr_1 F 82 (fun k => by simp [fI_N])) (F.1 21 1 (by simp [fI_N])) (F.1 64 28 (by simp [fI_N])) hA, cg_O (fr_1 F 62 (fun k => by simp [fI_N])) (fr_1 F 63 (fun k => by simp [fI_N])) (fr_1 F 128 (fun k => by simp [fI_N])) (fr_1 F 129 (fun k => by simp [fI_N])) (F.1 61 2 (by simp [fI_N])) (F.1 64 98 (by simp [fI_N])) hO, cg_M (fr_1 F 46 (fun k => by simp [fI_N])) (fr_1 F 47 (fun k => by simp [fI_N])) (fr_1 F 48 (fun k => by simp [fI_N])) (fr_1 F 49 (fun k => by simp [fI_N])) (fr_1 F 117 (fun k => by simp [fI_N])) (fr_1 F 118 (fun k => by simp [fI_N])) (fr_1 F 119 (fun k => by simp [fI_N])) (fr_1 F 120 (fun k => by simp [fI_N])) (F.1 45 0 (by simp [fI_N])) (F.1 64 85 (by simp [fI_N])) hM, cg_D (fr_1 F 32 (fun k => by simp [fI_N])) (fr_1 F 33 (fun k => by simp [fI_N])) (fr_1 F 34 (fun k => by simp [fI_N])) (fr_1 F 104 (fun k => by simp [fI_N])) (fr_1 F 105 (fun k => by simp [fI_N])) (fr_1 F 106 (fun k => by simp [fI_N])) (F.1 31 1 (by simp [fI_N])) (F.1 64 67 (by simp [fI_N])) hD, cg_U (F.1 64 76 (by simp [fI_N])) (F.1 39 2 (by simp [fI_N])) (F.1 64 77 (by simp [fI_N])) (F.1 51 2 (by simp [fI_N])) hU, cg_G (fr_1 F 58 (fun k => by simp [fI_N])) (fr_1 F 126 (fun k => by simp [fI_N])) (F.1 57 1 (by simp [fI_N])) (F.1 64 97 (by simp [fI_N])) hG, cg_Y (fr_1 F 22 (fun k => by simp [fI_N])) hY, cg_Q (F.1 21 15 (by simp [fI_N])) (F.1 21 16 (by simp [fI_N])) (F.1 21 17 (by simp [fI_N])) (F.1 21 18 (by simp [fI_N])) (F.1 64 34 (by simp [fI_N])) (F.1 64 35 (by simp [fI_N])) (F.1 64 58 (by simp [fI_N])) hQ⟩, ⟨L2, N2, E2⟩, fun E l h1 h2 => ?_, nF, f1, (F.1 5 0 (by simp [fI_N])).trans f2, (F.1 64 6 (by simp [fI_N])).trans f3, fun k hk => ?_⟩
  · rw [fr_1 F 28 (fun k => by simp [fI_N]), fr_1 F 29 (fun k => by simp [fI_N])]
    rcases hJ E l h1 h2 with z | ⟨z1, z2, z3⟩
    · exact Or.inl z
    · obtain ⟨o1, o2, o3, o4, o5⟩ := old l z2
      refine Or.inr ⟨z1, by have := nn.1; omega, ?_⟩
      rw [z3]
      unfold evp
      have o50 := o5 0 (by decide)
      have o51 := o5 1 (by decide)
      have o52 := o5 2 (by decide)
      rw [Nat.add_zero] at o50
      rw [o2, o3, o4, o50, o51, o52]
  · rcases nn.2 k hk with z | ⟨z1, z2, z3, z4⟩
    · have g := f4 k z
      unfold fmN at g ⊢
      rw [(old k z).1]
      exact g
    · subst z1
      rw [f2] at z4
      obtain ⟨c, c1, c2⟩ := in_of (by omega) ⟨z3, z4⟩
      unfold fmN
      rw [z2, c2, nI_clamp (by omega)]
      exact ⟨c1, rfl⟩
