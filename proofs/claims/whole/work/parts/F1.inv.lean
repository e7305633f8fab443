/-! ===== THE INVARIANT ===== -/
theorem cg_T {w v : pb_W} (h3 : v.1 3 = w.1 3) (h4 : v.1 4 = w.1 4) (h65 : v.1 65 = w.1 65) (h66 : v.1 66 = w.1 66) (j2 : v.2 2 = w.2 2) (j67 : v.2 67 = w.2 67) (h : iv_T w) : iv_T v := by
  unfold iv_T
  rw [h3, h4, h65, h66, j2, j67]
  exact h
theorem cg_F {w v : pb_W} (h6 : v.1 6 = w.1 6) (h7 : v.1 7 = w.1 7) (h68 : v.1 68 = w.1 68) (h69 : v.1 69 = w.1 69) (g5_0 : v.1 5 0 = w.1 5 0) (g64_6 : v.1 64 6 = w.1 64 6) (h : iv_F w) : iv_F v := by
  unfold iv_F
  rw [h6, h7, h68, h69, g5_0, g64_6]
  exact h
theorem cg_W {w v : pb_W} (g64_11 : v.1 64 11 = w.1 64 11) (j20 : v.2 20 = w.2 20) (j80 : v.2 80 = w.2 80) (h : iv_W w) : iv_W v := by
  unfold iv_W
  rw [g64_11, j20, j80]
  exact h
theorem cg_S {w v : pb_W} (h50 : v.1 50 = w.1 50) (h121 : v.1 121 = w.1 121) (h : iv_S w) : iv_S v := by
  unfold iv_S
  rw [h50, h121]
  exact h
theorem cg_A {w v : pb_W} (h22 : v.1 22 = w.1 22) (h82 : v.1 82 = w.1 82) (g21_1 : v.1 21 1 = w.1 21 1) (g64_28 : v.1 64 28 = w.1 64 28) (h : iv_A w) : iv_A v := by
  unfold iv_A
  rw [h22, h82, g21_1, g64_28]
  exact h
theorem cg_O {w v : pb_W} (h62 : v.1 62 = w.1 62) (h63 : v.1 63 = w.1 63) (h128 : v.1 128 = w.1 128) (h129 : v.1 129 = w.1 129) (g61_2 : v.1 61 2 = w.1 61 2) (g64_98 : v.1 64 98 = w.1 64 98) (h : iv_O w) : iv_O v := by
  unfold iv_O
  rw [h62, h63, h128, h129, g61_2, g64_98]
  exact h
theorem cg_M {w v : pb_W} (h46 : v.1 46 = w.1 46) (h47 : v.1 47 = w.1 47) (h48 : v.1 48 = w.1 48) (h49 : v.1 49 = w.1 49) (h117 : v.1 117 = w.1 117) (h118 : v.1 118 = w.1 118) (h119 : v.1 119 = w.1 119) (h120 : v.1 120 = w.1 120) (g45_0 : v.1 45 0 = w.1 45 0) (g64_85 : v.1 64 85 = w.1 64 85) (h : iv_M w) : iv_M v := by
  unfold iv_M
  rw [h46, h47, h48, h49, h117, h118, h119, h120, g45_0, g64_85]
  exact h
theorem cg_D {w v : pb_W} (h32 : v.1 32 = w.1 32) (h33 : v.1 33 = w.1 33) (h34 : v.1 34 = w.1 34) (h104 : v.1 104 = w.1 104) (h105 : v.1 105 = w.1 105) (h106 : v.1 106 = w.1 106) (g31_1 : v.1 31 1 = w.1 31 1) (g64_67 : v.1 64 67 = w.1 64 67) (h : iv_D w) : iv_D v := by
  unfold iv_D
  rw [h32, h33, h34, h104, h105, h106, g31_1, g64_67]
  exact h
theorem cg_U {w v : pb_W} (g64_76 : v.1 64 76 = w.1 64 76) (g39_2 : v.1 39 2 = w.1 39 2) (g64_77 : v.1 64 77 = w.1 64 77) (g51_2 : v.1 51 2 = w.1 51 2) (h : iv_U w) : iv_U v := by
  unfold iv_U
  rw [g64_76, g39_2, g64_77, g51_2]
  exact h
theorem cg_G {w v : pb_W} (h58 : v.1 58 = w.1 58) (h126 : v.1 126 = w.1 126) (g57_1 : v.1 57 1 = w.1 57 1) (g64_97 : v.1 64 97 = w.1 64 97) (h : iv_G w) : iv_G v := by
  unfold iv_G
  rw [h58, h126, g57_1, g64_97]
  exact h
theorem cg_Y {w v : pb_W} (h22 : v.1 22 = w.1 22) (h : iv_Y w) : iv_Y v := by
  unfold iv_Y
  rw [h22]
  exact h
theorem cg_Q {w v : pb_W} (g21_15 : v.1 21 15 = w.1 21 15) (g21_16 : v.1 21 16 = w.1 21 16) (g21_17 : v.1 21 17 = w.1 21 17) (g21_18 : v.1 21 18 = w.1 21 18) (g64_34 : v.1 64 34 = w.1 64 34) (g64_35 : v.1 64 35 = w.1 64 35) (g64_58 : v.1 64 58 = w.1 64 58) (h : iv_Q w) : iv_Q v := by
  unfold iv_Q
  rw [g21_15, g21_16, g21_17, g21_18, g64_34, g64_35, g64_58]
  exact h
def IvR (w : pb_W) : Prop := iv_T w ∧ iv_F w ∧ iv_W w ∧ iv_S w ∧ iv_A w ∧ iv_O w ∧ iv_M w ∧ iv_D w ∧ iv_U w ∧ iv_G w ∧ iv_Y w ∧ iv_Q w
def Inv (w : pb_W) : Prop := ∃ n Es, iv_H w ∧ IvR w ∧ BS w n Es ∧ iv_J w Es n ∧ LF w n
abbrev fI_X : Nat → Nat → Prop := fun c k => (c = 0 ∧ k = 0) ∨ (c = 25 ∧ k = 7) ∨ c = 28 ∨ c = 29 ∨ (c = 31 ∧ (k = 5 ∨ k = 10 ∨ k = 11 ∨ k = 12)) ∨ (35 ≤ c ∧ c ≤ 38) ∨ (c = 39 ∧ (k = 8 ∨ k = 9)) ∨ (40 ≤ c ∧ c ≤ 43) ∨ (c = 51 ∧ k = 3) ∨ (52 ≤ c ∧ c ≤ 56) ∨ (c = 64 ∧ (k = 0 ∨ (61 ≤ k ∧ k ≤ 63) ∨ (71 ≤ k ∧ k ≤ 75))) ∨ (107 ≤ c ∧ c ≤ 112) ∨ (115 ≤ c ∧ c ≤ 116) ∨ (122 ≤ c ∧ c ≤ 124)
abbrev fJ_X : Nat → Nat → Prop := fun c k => c = 30 ∨ c = 44 ∨ c = 61 ∨ c = 102 ∨ c = 103 ∨ c = 113 ∨ c = 114 ∨ (c = 0 ∧ (k = 1 ∨ k = 2)) ∨ (c = 64 ∧ (k = 1 ∨ k = 2))
theorem X_SB {w v : pb_W} (h : fr fI_X fJ_X w v) : SB w v := SB_of h (fun c k q z => by simp only [fI_X] at q; simp only [nI_BS] at z; omega) (fun c k q z => by simp only [fJ_X] at q; simp only [nJ_BS] at z; omega)
theorem X_R {w v : pb_W} (F : fr fI_X fJ_X w v) (hR : IvR w) : IvR v := by
  obtain ⟨hT, hF, hW, hS, hA, hO, hM, hD, hU, hG, hY, hQ⟩ := hR
  exact ⟨cg_T (fr_1 F 3 (fun k => by simp [fI_X])) (fr_1 F 4 (fun k => by simp [fI_X])) (fr_1 F 65 (fun k => by simp [fI_X])) (fr_1 F 66 (fun k => by simp [fI_X])) (fr_2 F 2 (fun k => by simp [fJ_X])) (fr_2 F 67 (fun k => by simp [fJ_X])) hT, cg_F (fr_1 F 6 (fun k => by simp [fI_X])) (fr_1 F 7 (fun k => by simp [fI_X])) (fr_1 F 68 (fun k => by simp [fI_X])) (fr_1 F 69 (fun k => by simp [fI_X])) (F.1 5 0 (by simp [fI_X])) (F.1 64 6 (by simp [fI_X])) hF, cg_W (F.1 64 11 (by simp [fI_X])) (fr_2 F 20 (fun k => by simp [fJ_X])) (fr_2 F 80 (fun k => by simp [fJ_X])) hW, cg_S (fr_1 F 50 (fun k => by simp [fI_X])) (fr_1 F 121 (fun k => by simp [fI_X])) hS, cg_A (fr_1 F 22 (fun k => by simp [fI_X])) (fr_1 F 82 (fun k => by simp [fI_X])) (F.1 21 1 (by simp [fI_X])) (F.1 64 28 (by simp [fI_X])) hA, cg_O (fr_1 F 62 (fun k => by simp [fI_X])) (fr_1 F 63 (fun k => by simp [fI_X])) (fr_1 F 128 (fun k => by simp [fI_X])) (fr_1 F 129 (fun k => by simp [fI_X])) (F.1 61 2 (by simp [fI_X])) (F.1 64 98 (by simp [fI_X])) hO, cg_M (fr_1 F 46 (fun k => by simp [fI_X])) (fr_1 F 47 (fun k => by simp [fI_X])) (fr_1 F 48 (fun k => by simp [fI_X])) (fr_1 F 49 (fun k => by simp [fI_X])) (fr_1 F 117 (fun k => by simp [fI_X])) (fr_1 F 118 (fun k => by simp [fI_X])) (fr_1 F 119 (fun k => by simp [fI_X])) (fr_1 F 120 (fun k => by simp [fI_X])) (F.1 45 0 (by simp [fI_X])) (F.1 64 85 (by simp [fI_X])) hM, cg_D (fr_1 F 32 (fun k => by simp [fI_X])) (fr_1 F 33 (fun k => by simp [fI_X])) (fr_1 F 34 (fun k => by simp [fI_X])) (fr_1 F 104 (fun k => by simp [fI_X])) (fr_1 F 105 (fun k => by simp [fI_X])) (fr_1 F 106 (fun k => by simp [fI_X])) (F.1 31 1 (by simp [fI_X])) (F.1 64 67 (by simp [fI_X])) hD, cg_U (F.1 64 76 (by simp [fI_X])) (F.1 39 2 (by simp [fI_X])) (F.1 64 77 (by simp [fI_X])) (F.1 51 2 (by simp [fI_X])) hU, cg_G (fr_1 F 58 (fun k => by simp [fI_X])) (fr_1 F 126 (fun k => by simp [fI_X])) (F.1 57 1 (by simp [fI_X])) (F.1 64 97 (by simp [fI_X])) hG, cg_Y (fr_1 F 22 (fun k => by simp [fI_X])) hY, cg_Q (F.1 21 15 (by simp [fI_X])) (F.1 21 16 (by simp [fI_X])) (F.1 21 17 (by simp [fI_X])) (F.1 21 18 (by simp [fI_X])) (F.1 64 34 (by simp [fI_X])) (F.1 64 35 (by simp [fI_X])) (F.1 64 58 (by simp [fI_X])) hQ⟩
theorem X_all {w v : pb_W} {n : Nat} {Es : List (List Rl)} (F : fr fI_X fJ_X w v) (hR : IvR w) (hB : BS w n Es) (hLF : LF w n) : IvR v ∧ BS v n Es ∧ LF v n := ⟨X_R F hR, SB_B (X_SB F) hB, SB_LF (X_SB F) hLF⟩
