/-! ===== FELL: the agreement ===== -/
noncomputable def flS (w : pb_W) (Es : List (List Rl)) (E : Nat) (kd : Int32) (nL nO l k0 m : Nat) : Nat → Nat × Int
  | 0 => (0, 0)
  | j + 1 => @ite _ (lkP w nL nO l j k0 m) (Classical.propDecidable _) ((flS w Es E kd nL nO l k0 m j).1 + 1, (flS w Es E kd nL nO l k0 m j).2 + tnS w Es E kd (nI j) (k0 - m) m nL) (flS w Es E kd nL nO l k0 m j)
theorem fl_in {w : pb_W} {nL : Nat} (hN : LN w nL) (Es : List (List Rl)) (E : Nat) (kd : Int32) (nO l k0 m : Nat) : ∀ j, (flS w Es E kd nL nO l k0 m j).1 ≤ j ∧ -(4000000 * j : Int) ≤ (flS w Es E kd nL nO l k0 m j).2 ∧ (flS w Es E kd nL nO l k0 m j).2 ≤ 4000000 * j
  | 0 => ⟨Nat.le_refl 0, by simp [flS], by simp [flS]⟩
  | j + 1 => by
    obtain ⟨a, b, c⟩ := fl_in hN Es E kd nO l k0 m j
    obtain ⟨d, e⟩ := tn_le hN Es E kd (nI j) (k0 - m) m nL (Nat.le_refl nL)
    have n2 := hN.le
    rw [flS]
    by_cases q : lkP w nL nO l j k0 m
    · rw [if_pos q]
      refine ⟨Nat.succ_le_succ a, ?_, ?_⟩
      · show _ ≤ (flS w Es E kd nL nO l k0 m j).2 + _
        omega
      · show (flS w Es E kd nL nO l k0 m j).2 + _ ≤ _
        omega
    · rw [if_neg q]
      exact ⟨by omega, by omega, by omega⟩
theorem fl_sb {w v : pb_W} (h : SB w v) (Es : List (List Rl)) (E : Nat) (kd : Int32) (nL nO l k0 m : Nat) : ∀ j, flS v Es E kd nL nO l k0 m j = flS w Es E kd nL nO l k0 m j
  | 0 => rfl
  | j + 1 => by
    have e := lkP_sv (SB_S h) (h.c 6 (fun k => by simp [nI_BS])) (h.c 62 (fun k => by simp [nI_BS])) (h.c 63 (fun k => by simp [nI_BS])) nL nO l j k0 m
    rw [flS, flS, fl_sb h Es E kd nL nO l k0 m j, tn_sb h]
    by_cases q : lkP w nL nO l j k0 m
    · rw [if_pos q, if_pos (e.mpr q)]
    · rw [if_neg q, if_neg (fun z => q (e.mp z))]
theorem SB_O {w v : pb_W} (h : SB w v) (hO : iv_O w) : iv_O v := by
  unfold iv_O
  rw [h.1 61 2 (by simp [nI_BS]), h.1 64 98 (by simp [nI_BS]), h.c 62 (fun k => by simp [nI_BS]), h.c 63 (fun k => by simp [nI_BS]), h.c 128 (fun k => by simp [nI_BS]), h.c 129 (fun k => by simp [nI_BS])]
  exact hO
theorem cx_meas {u : pb_W} {n E nF nO : Nat} {Es : List (List Rl)} (hB : BS u n Es) (hE : E < Es.length) (V : JV u Es n E) (kd : Int32) (hO : nO ≤ 12) (h61 : u.1 61 2 = nI nO) (hF : nF ≤ 12) (f5 : u.1 5 0 = nI nF) {l o k0 m : Nat} (hl : l < 12) (ho : o < 12) (e62 : u.1 62 l = nI o) (e63 : u.1 63 l = nI k0) (hm : 1 ≤ m) (hm2 : m ≤ 26) (hk : m ≤ k0) (hk2 : k0 + m ≤ 520) : ∀ r j, j + r = nF → pb_run T_X2_measure (17, [some (.ref 61), some (.int (nI l)), some (.int kd), some (.int (nI E)), some (.int (nI m)), some (.int (nI k0)), some (.long (lN (flS u Es E kd n nO l k0 m j).1)), none, some (.long (lI (flS u Es E kd n nO l k0 m j).2)), none, some (.int (nI j))], [], u) = some (some (.int (@ite Int32 ((flS u Es E kd n nO l k0 m nF).1 ≠ 0 ∧ alP u (nI o) (k0 - m) (2 * m) n) (Classical.propDecidable _) 1 0)), pb_wL (pb_wL u 61 5 (lI (tnS u Es E kd (nI o) (k0 - m) m n * (flS u Es E kd n nO l k0 m nF).1 - (flS u Es E kd n nO l k0 m nF).2))) 61 6 (lN (flS u Es E kd n nO l k0 m nF).1)) := by
  have l12 : pb_in (nI l) 12 := pn_in hl (by decide)
  have lc : (nI l).toNatClampNeg = l := nI_clamp (by omega)
  have ek : k0 = k0 - m + m := by omega
  have T : ∀ f, M_X2_turn [.ref 61, .int f, .int (nI k0), .int kd, .int (nI E), .int (nI m)] u = some (some (.long (lI (tnS u Es E kd f (k0 - m) m n))), u) := fun f => by
    have := M_turn hB hE V kd f (lo := k0 - m) hm hm2 (by omega)
    rw [← ek] at this
    exact this
  intro r
  induction r with
  | zero =>
    intro j hj
    have hj : j = nF := by omega
    subst hj
    obtain ⟨a, -, -⟩ := fl_in hB.2.1 Es E kd nO l k0 m j
    generalize flS u Es E kd n nO l k0 m j = P at *
    have S : SB u (pb_wL (pb_wL u 61 5 (lI (tnS u Es E kd (nI o) (k0 - m) m n * P.1 - P.2))) 61 6 (lN P.1)) := ⟨fun _ _ _ => rfl, fun c k q => by
      have c61 : ¬ c = 61 := by simp only [nJ_BS] at q; omega
      rw [pw_L2, if_neg c61, pw_L2, if_neg c61]⟩
    rw [r_X2_measure_17, f5, if_neg (show ¬ nI j < nI j from nI_nlt (Nat.le_refl _) (by omega)), if_pos l12, lc, e62, T, pb_bL_some, if_pos l12, e62, lI_n (show P.1 < 2 ^ 63 by omega), lI_mul, lI_sub, ← lI_n (show P.1 < 2 ^ 63 by omega), M_each (SB_N S hB.2.1) (nI o) hm hm2 hk hk2, pb_bI_some]
    have cg : 0 < lg_cmp (lN P.1) 0 ↔ 0 < P.1 := by rw [lg_gt, show (0 : Int64) = lN 0 from rfl, pk_lLT (by decide) (by omega)]
    have al := alP_sv (SB_S S) (nI o) (k0 - m) (2 * m) n
    by_cases q : P.1 = 0
    · rw [if_neg (fun z => by have := cg.mp z; omega), if_neg (fun z => z.1 q)]
    · rw [if_pos (cg.mpr (by omega))]
      by_cases z : alP u (nI o) (k0 - m) (2 * m) n
      · rw [b1_pos (al.mpr z), if_neg (show ¬ (1 : Int32) = 0 by decide), if_pos ⟨q, z⟩]
      · rw [b1_neg (fun y => z (al.mp y)), if_pos rfl, if_neg (fun y => z y.2)]
  | succ r ih =>
    intro j hj
    have ih := ih (j + 1) (by omega)
    rw [flS] at ih
    rw [r_X2_measure_17, f5, if_pos (show nI j < nI nF from nI_lt (by omega) (by omega)), M_isLike1 hB.2.1 hO h61 hl ho e62 e63 (show j < 12 by omega) hm hm2 hk hk2, pb_bI_some, nI_1]
    by_cases q : lkP u n nO l j k0 m
    · rw [if_pos q] at ih
      rw [b1_pos q, if_neg (show ¬ (1 : Int32) = 0 by decide), T, pb_bL_some, lN_1, lI_add]
      exact ih
    · rw [if_neg q] at ih
      rw [b1_neg q, if_pos rfl]
      exact ih
theorem mx_fell {u : pb_W} {n E nF nO : Nat} {Es : List (List Rl)} (hB : BS u n Es) (hE : E < Es.length) (kd : Int32) (hO : nO ≤ 12) (h98 : u.1 64 98 = nI nO) (g128 : u.1 128 = u.1 62) (g129 : u.1 129 = u.1 63) (g68 : u.1 68 = u.1 6) (hF : nF ≤ 12) (f6 : u.1 64 6 = nI nF) {l o k0 m : Nat} (hl : l < 12) (ho : o < 12) (e62 : u.1 62 l = nI o) (e63 : u.1 63 l = nI k0) (hm : 1 ≤ m) (hm2 : m ≤ 26) (hk : m ≤ k0) (hk2 : k0 + m ≤ 520) : ∀ r j v, j + r = nF → SB u v → ∃ v', pb_run T_X12_fell (103, [some (.ref 64), some (.int (nI l)), some (.int kd), some (.int (nI E)), some (.int (nI m)), some (.int (nI (flS u Es E kd n nO l k0 m j).1)), some (.long (lI (flS u Es E kd n nO l k0 m j).2)), none, some (.int (nI j))], [], v) = (if (flS u Es E kd n nO l k0 m nF).1 = 0 then some (some (.int (-1)), pb_wI v' 64 0 6) else pb_bI (M_X12_fraction [.ref 64, .long (lI (tnS u Es E kd (nI o) (k0 - m) m n * (flS u Es E kd n nO l k0 m nF).1 - (flS u Es E kd n nO l k0 m nF).2)), .long (lN (flS u Es E kd n nO l k0 m nF).1)] v') fun x4 w3 => some (some (.int x4), w3)) ∧ fr fI_so fJ_so v v' := by
  have l12 : pb_in (nI l) 12 := pn_in hl (by decide)
  have lc : (nI l).toNatClampNeg = l := nI_clamp (by omega)
  have ek : k0 = k0 - m + m := by omega
  have D : ∀ f v, SB u v → ∃ v', M_X12_differs [.ref 64, .int f, .int (nI k0), .int kd, .int (nI E), .int (nI m)] v = some (some (.long (lI (tnS u Es E kd f (k0 - m) m n))), v') ∧ fr fI_so fJ_so v v' := fun f v S => by
    have := M_differs hB hE S kd f (lo := k0 - m) hm2 (by omega)
    rw [← ek] at this
    exact this
  have c128 : ∀ v, SB u v → v.1 128 l = nI o := fun v S => by rw [S.c 128 (fun k => by simp [nI_BS]), g128]; exact e62
  have c129 : ∀ v, SB u v → v.1 129 l = nI k0 := fun v S => by rw [S.c 129 (fun k => by simp [nI_BS]), g129]; exact e63
  intro r
  induction r with
  | zero =>
    intro j v hj S
    have hj : j = nF := by omega
    subst hj
    obtain ⟨a, -, -⟩ := fl_in hB.2.1 Es E kd nO l k0 m j
    generalize flS u Es E kd n nO l k0 m j = P at *
    rw [r_X12_fell_103, (S.1 64 6 (by simp [nI_BS])).trans f6, if_neg (show ¬ nI j < nI j from nI_nlt (Nat.le_refl _) (by omega)), ite_ref, if_pos l12, if_pos l12, lc, c128 v S, c129 v S]
    by_cases q : P.1 = 0
    · refine ⟨v, ?_, fr_rf v⟩
      rw [if_pos (show nI P.1 = (0 : Int32) by rw [q]; rfl), if_pos q]
    · obtain ⟨v', b1, b2⟩ := D (nI o) v S
      refine ⟨v', ?_, b2⟩
      rw [if_neg (show ¬ nI P.1 = (0 : Int32) from fun z => q ((nI_eq (b := 0) (by omega) (by decide)).mp z)), if_neg q, b1, pb_bL_some, nI_to64 (by omega), lI_n (show P.1 < 2 ^ 63 by omega), lI_mul, lI_sub]
  | succ r ih =>
    intro j v hj S
    have ih0 := ih (j + 1)
    rw [flS] at ih0
    have hv := SB_B S hB
    rw [r_X12_fell_103, (S.1 64 6 (by simp [nI_BS])).trans f6, if_pos (show nI j < nI nF from nI_lt (by omega) (by omega)), M_isLike2 hv.1 hv.2.1 hO ((S.1 64 98 (by simp [nI_BS])).trans h98) (by rw [S.c 128 (fun k => by simp [nI_BS]), S.c 62 (fun k => by simp [nI_BS])]; exact g128) (by rw [S.c 129 (fun k => by simp [nI_BS]), S.c 63 (fun k => by simp [nI_BS])]; exact g129) (by rw [S.c 68 (fun k => by simp [nI_BS]), S.c 6 (fun k => by simp [nI_BS])]; exact g68) hl ho (by rw [S.c 62 (fun k => by simp [nI_BS])]; exact e62) (by rw [S.c 63 (fun k => by simp [nI_BS])]; exact e63) (show j < 12 by omega) hm hm2 hk hk2, pb_bI_some, if_pos l12, lc, c129 v S, nI_1]
    have e := lkP_sv (SB_S S) (S.c 6 (fun k => by simp [nI_BS])) (S.c 62 (fun k => by simp [nI_BS])) (S.c 63 (fun k => by simp [nI_BS])) n nO l j k0 m
    by_cases q : lkP u n nO l j k0 m
    · rw [if_pos q] at ih0
      obtain ⟨v1, b1, b2⟩ := D (nI j) v S
      rw [b1_pos (e.mpr q), if_neg (show ¬ (1 : Int32) = 0 by decide), b1, pb_bL_some, nI_1, lI_add]
      obtain ⟨v', c1, c2⟩ := ih0 v1 (by omega) (SB_tr S (so_SB b2))
      exact ⟨v', c1, fr_tr b2 c2⟩
    · rw [if_neg q] at ih0
      rw [b1_neg (fun z => q (e.mp z)), if_pos rfl]
      exact ih0 v (by omega) S
abbrev fI_L1 : Nat → Nat → Prop := fun c k => (c = 0 ∧ k = 0) ∨ (c = 25 ∧ k = 7) ∨ c = 28 ∨ c = 29
abbrev fJ_L1 : Nat → Nat → Prop := fun c _ => c = 30 ∨ c = 61
abbrev fJ_L : Nat → Nat → Prop := fun c k => c = 30 ∨ c = 61 ∨ c = 102 ∨ c = 103 ∨ ((c = 0 ∨ c = 64) ∧ (k = 1 ∨ k = 2))
theorem L_fin {w u v : pb_W} {n : Nat} {Es : List (List Rl)} {c : Int32} (hH : iv_H w) (F1 : fr fI_L1 fJ_L1 w u) (hJ : iv_J u Es n) (F2 : fr fI_so fJ_so (pb_wI u 0 0 c) v) : fr fI_K fJ_L w (pb_wI v 64 0 c) ∧ iv_H (pb_wI v 64 0 c) ∧ iv_J (pb_wI v 64 0 c) Es n :=
  G_fin hH F1 hJ F2 (fun c k q => by simp only [fI_L1] at q; simp only [fI_K]; omega) (fun c k q => by simp only [fI_so] at q; simp only [fI_K, nI_BS]; omega) (by simp [fI_K]) (fun c k q => by simp only [fJ_L1] at q; simp only [fJ_L]; omega) (fun c k q => by simp only [fJ_so] at q; simp only [fJ_L, nJ_BS]; omega)
theorem L_fin2 {w u v : pb_W} {n : Nat} {Es : List (List Rl)} {t o : Int64} (F1 : fr fI_L1 fJ_L1 w u) (hJ : iv_J u Es n) (F2 : fr fI_so fJ_so (pb_wL (pb_wL (pb_wI u 0 0 0) 0 1 t) 0 2 o) v) : fr fI_K fJ_L w (pb_wI (pb_wL (pb_wL v 64 1 t) 64 2 o) 64 0 0) ∧ iv_H (pb_wI (pb_wL (pb_wL v 64 1 t) 64 2 o) 64 0 0) ∧ iv_J (pb_wI (pb_wL (pb_wL v 64 1 t) 64 2 o) 64 0 0) Es n :=
  G_fin2 F1 hJ F2 (fun c k q => by simp only [fI_L1] at q; simp only [fI_K]; omega) (fun c k q => by simp only [fI_so] at q; simp only [fI_K, nI_BS]; omega) (by simp [fI_K]) (fun c k q => by simp only [fJ_L1] at q; simp only [fJ_L]; omega) (fun c k q => by simp only [fJ_so] at q; simp only [fJ_L, nJ_BS]; omega) (by simp [fJ_L])
theorem jb_L1 {w v : pb_W} (h : fr fI_jb fJ_ju w v) : fr fI_L1 fJ_L1 w v := fr_mn h (fun c k q => by simp only [fI_jb] at q; simp only [fI_L1]; omega) (fun c k q => Or.inl q)
theorem x_fell (a1 a2 a3 a4 : Int32) (w : pb_W) {n : Nat} {Es : List (List Rl)} (hH : iv_H w) (hF : iv_F w) (hO : iv_O w) (hB : BS w n Es) (hJ : iv_J w Es n) : ∃ x w1 w2, M_X11_fell [.ref 0, .int a1, .int a2, .int a3, .int a4] w = some (some (.int x), w1) ∧ M_X12_fell [.ref 64, .int a1, .int a2, .int a3, .int a4] w1 = some (some (.int x), w2) ∧ fr fI_K fJ_L w w2 ∧ iv_H w2 ∧ iv_J w2 Es n := by
  have n2 := hB.2.1.le
  have e5 := BS_5 hB
  obtain ⟨nF, hf, f5, f6, g68, -⟩ := hF
  obtain ⟨nO, hn, h61, h98, g128, g129, gk⟩ := hO
  have C := e_X11_fell a1 a2 a3 a4 w
  rw [M_outside, pb_bI_some] at C
  have R : ∀ v, SB w v → M_X12_fell [.ref 64, .int a1, .int a2, .int a3, .int a4] v = if ¬ (¬ a1 < 0 ∧ a1 < nI nO) then some (some (.int (-1)), pb_wI v 64 0 1) else if a2 < -1 ∨ 15 < a2 then some (some (.int (-1)), pb_wI v 64 0 1) else if ¬ (¬ a3 < 0 ∧ a3 < nI Es.length) then some (some (.int (-1)), pb_wI v 64 0 1) else if a4 < 1 ∨ 26 < a4 then some (some (.int (-1)), pb_wI v 64 0 1) else (pb_bI (M_X12_areWeeks [.ref 64, .int a1, .int a4] v) fun x16 w15 => (if x16 = 0 then some (some (.int (-1)), pb_wI w15 64 0 6) else (if pb_in a1 12 then (if pb_in a1 12 then (if pb_in a1 12 then (pb_bI (M_X12_hasAll [.ref 64, .int (w15.1 128 (a1).toNatClampNeg), .int ((w15.1 129 (a1).toNatClampNeg) - a4), .int ((w15.1 129 (a1).toNatClampNeg) + a4)] w15) fun x20 w19 => (if x20 = 0 then some (some (.int (-1)), pb_wI w19 64 0 6) else (pb_run T_X12_fell (103, [some (.ref 64), some (.int a1), some (.int a2), some (.int a3), some (.int a4), some (.int (0 : Int32)), some (.long (0 : Int64)), none, some (.int (0 : Int32))], [], w19)))) else none) else none) else none))) := by
    intro v hv
    have hBv := SB_B hv hB
    have h98' : v.1 64 98 = nI nO := (hv.1 64 98 (by simp [nI_BS])).trans h98
    have o2 : ∀ (P Q : Prop) [Decidable P] [Decidable Q] (x y : Option pb_R), (if P then x else if Q then x else y) = if P ∨ Q then x else y := by
      intro P Q _ _ x y
      by_cases p : P
      · rw [if_pos p, if_pos (Or.inl p)]
      · rw [if_neg p]
        by_cases q : Q
        · rw [if_pos q, if_pos (Or.inr q)]
        · rw [if_neg q, if_neg (fun z => z.elim p q)]
    have o3 : ∀ (x y : Option pb_R), (if a1 < 0 then y else if a1 < nI nO then x else y) = if ¬ (¬ a1 < 0 ∧ a1 < nI nO) then y else x := by
      intro x y
      by_cases p : a1 < 0
      · rw [if_pos p, if_pos (fun z => z.1 p)]
      · rw [if_neg p]
        by_cases q : a1 < nI nO
        · rw [if_pos q, if_neg (fun z => z ⟨p, q⟩)]
        · rw [if_neg q, if_pos (fun z => q z.2)]
    rw [e_X12_fell]
    simp only [M_isKind, M_isEdition, pb_bI_some, q01, q10, ite_ref, EI_37 hBv.2.2, h98']
    rw [o3, o2 (a4 < 1) (26 < a4)]
  have bad : ∀ (u : pb_W) (c : Int32), c ≠ 0 → fr fI_jb fJ_ju w u → iv_J u Es n → M_X11_fell [.ref 0, .int a1, .int a2, .int a3, .int a4] w = pb_run T_X11_fell (48, [some (.ref 0), some (.int a1), some (.int a2), some (.int a3), some (.int a4), none], [.int c, .ref 0], u) → M_X12_fell [.ref 64, .int a1, .int a2, .int a3, .int a4] (pb_wI u 0 0 c) = some (some (.int (-1)), pb_wI (pb_wI u 0 0 c) 64 0 c) → ∃ x w1 w2, M_X11_fell [.ref 0, .int a1, .int a2, .int a3, .int a4] w = some (some (.int x), w1) ∧ M_X12_fell [.ref 64, .int a1, .int a2, .int a3, .int a4] w1 = some (some (.int x), w2) ∧ fr fI_K fJ_L w w2 ∧ iv_H w2 ∧ iv_J w2 Es n := by
    intro u c hc F hJ' h1 h2
    refine ⟨-1, _, _, ?_, h2, L_fin hH (jb_L1 F) hJ' (fr_rf _)⟩
    rw [h1, r_X11_fell_48, if_neg hc, r_X11_fell_79, if_neg (show ¬ (pb_wI u 0 0 c).1 0 0 = 0 from hc)]
  by_cases q2 : a2 < -1 ∨ 15 < a2
  · rw [if_pos q2, if_neg (show ¬ (1 : Int32) = 0 by decide), r_X11_fell_26, if_neg (show ¬ (1 : Int32) = 0 by decide)] at C
    refine bad w 1 (by decide) (fr_rf w) hJ C ?_
    rw [R _ (S_00 w 1)]
    by_cases z : ¬ a1 < 0 ∧ a1 < nI nO
    · rw [if_neg (fun y => y z), if_pos q2]
    · rw [if_pos z]
  · rw [if_neg q2, if_pos rfl] at C
    rcases M_judgeBy a3 hB hJ with ⟨b1, b2⟩ | ⟨E, hE, rfl, u, b2, F, J', V, -⟩
    · rw [b2, pb_bI_some, if_pos rfl, r_X11_fell_26, if_neg (show ¬ (1 : Int32) = 0 by decide)] at C
      refine bad w 1 (by decide) (fr_rf w) hJ C ?_
      rw [R _ (S_00 w 1)]
      by_cases z : ¬ a1 < 0 ∧ a1 < nI nO
      · rw [if_neg (fun y => y z), if_neg q2, if_pos b1]
      · rw [if_pos z]
    · have eo := ed_ok hE e5
      have Su := jb_SB F
      have hBu := SB_B Su hB
      have u61 : u.1 61 2 = nI nO := (Su.1 61 2 (by simp [nI_BS])).trans h61
      rw [b2, pb_bI_some, if_neg (show ¬ (1 : Int32) = 0 by decide), r_X11_fell_26, if_pos rfl] at C
      by_cases h1 : ¬ (¬ a1 < 0 ∧ a1 < nI nO) ∨ (a4 < 1 ∨ 26 < a4)
      · rw [M_span_bad hn u61 h1, pb_bI_some] at C
        refine bad u 1 (by decide) F J' C ?_
        rw [R _ (SB_tr Su (S_00 u 1))]
        by_cases z : ¬ a1 < 0 ∧ a1 < nI nO
        · rw [if_neg (fun y => y z), if_neg q2, if_neg (fun y => y eo), if_pos (h1.resolve_left (fun y => y z))]
        · rw [if_pos z]
      · have h1a : ¬ a1 < 0 ∧ a1 < nI nO := Classical.not_not.mp (fun z => h1 (Or.inl z))
        have h1b : ¬ (a4 < 1 ∨ 26 < a4) := fun z => h1 (Or.inr z)
        obtain ⟨l, ll, rfl⟩ := in_of (by omega) h1a
        obtain ⟨m, m1, m2, rfl⟩ := px_1to (N := 26) (by decide) (show ¬ (a4 < 1 ∨ nI 26 < a4) from h1b)
        obtain ⟨⟨o, lo, eo62⟩, k0, lk, ek63⟩ := gk l ll
        have l12 : pb_in (nI l) 12 := pn_in (by omega) (by decide)
        have lc : (nI l).toNatClampNeg = l := nI_clamp (by omega)
        have u62 : u.1 62 l = nI o := by rw [Su.c 62 (fun k => by simp [nI_BS])]; exact eo62
        have u63 : u.1 63 l = nI k0 := by rw [Su.c 63 (fun k => by simp [nI_BS])]; exact ek63
        rw [M_span hn u61 ll m1 m2 u63 lk, pb_bI_some] at C
        have v128 : ∀ v, SB w v → v.1 128 l = nI o := fun v S => by rw [S.c 128 (fun k => by simp [nI_BS]), g128]; exact eo62
        have v129 : ∀ v, SB w v → v.1 129 l = nI k0 := fun v S => by rw [S.c 129 (fun k => by simp [nI_BS]), g129]; exact ek63
        have R1 : ∀ v, SB w v → M_X12_fell [.ref 64, .int (nI l), .int a2, .int (nI E), .int (nI m)] v = if m ≤ k0 ∧ k0 + m ≤ 520 then (pb_bI (M_X12_hasAll [.ref 64, .int (nI o), .int (nI k0 - nI m), .int (nI k0 + nI m)] v) fun x20 w19 => (if x20 = 0 then some (some (.int (-1)), pb_wI w19 64 0 6) else (pb_run T_X12_fell (103, [some (.ref 64), some (.int (nI l)), some (.int a2), some (.int (nI E)), some (.int (nI m)), some (.int (0 : Int32)), some (.long (0 : Int64)), none, some (.int (0 : Int32))], [], w19)))) else some (some (.int (-1)), pb_wI v 64 0 6) := by
          intro v S
          rw [R v S, if_neg (fun y => y h1a), if_neg q2, if_neg (fun y => y eo), if_neg h1b, M_areWeeks (show l < 12 by omega) m2 (v129 v S) lk, pb_bI_some]
          by_cases z : m ≤ k0 ∧ k0 + m ≤ 520
          · rw [if_pos z, if_pos z, if_neg (show ¬ (1 : Int32) = 0 by decide), if_pos l12, if_pos l12, if_pos l12, lc, v128 v S, v129 v S]
          · rw [if_neg z, if_neg z, if_pos rfl]
        by_cases q : m ≤ k0 ∧ k0 + m ≤ 520
        · have S0 := S_00 u 0
          have SW0 := SB_tr Su S0
          have hB0 := SB_B S0 hBu
          have V0 : JV (pb_wI u 0 0 0) Es n E := JV_tr S0 (fun l hl => rfl) V
          have h0_61 : (pb_wI u 0 0 (0 : Int32)).1 61 2 = nI nO := u61
          have h0_5 : (pb_wI u 0 0 (0 : Int32)).1 5 0 = nI nF := (Su.1 5 0 (by simp [nI_BS])).trans f5
          have cm := cx_meas hB0 hE V0 a2 hn h0_61 hf h0_5 (show l < 12 by omega) lo u62 u63 m1 m2 q.1 q.2 nF 0 (by omega)
          obtain ⟨c1, c2, c3⟩ := fl_in hB0.2.1 Es E a2 nO l k0 m nF
          obtain ⟨t1, t2⟩ := tn_le hB0.2.1 Es E a2 (nI o) (k0 - m) m n (Nat.le_refl n)
          rw [if_pos q, r_X11_fell_48, if_pos rfl, e_X2_measure, if_pos l12, lc, show (pb_wI u 0 0 (0 : Int32)).1 63 l = nI k0 from u63] at C
          have C := C.trans (congrArg (fun z => pb_bI z _) cm)
          rw [pb_bI_some] at C
          have F0 : flS (pb_wI u 0 0 0) Es E a2 n nO l k0 m 0 = (0, 0) := rfl
          generalize hP : flS (pb_wI u 0 0 0) Es E a2 n nO l k0 m nF = P at *
          generalize hT : tnS (pb_wI u 0 0 0) Es E a2 (nI o) (k0 - m) m n = T at *
          generalize hX : pb_wL (pb_wL (pb_wI u 0 0 0) 61 5 (lI (T * P.1 - P.2))) 61 6 (lN P.1) = X at *
          have FX : fr fI_L1 fJ_L1 w X := by
            rw [← hX]
            exact fr_L (fr_L (fr_I (jb_L1 F) (by simp [fI_L1])) (by simp [fJ_L1])) (by simp [fJ_L1])
          have SX : SB (pb_wI u 0 0 0) X := by
            rw [← hX]
            exact ⟨fun _ _ _ => rfl, fun c k q => by
              have c61 : ¬ c = 61 := by simp only [nJ_BS] at q; omega
              rw [pw_L2, if_neg c61, pw_L2, if_neg c61]⟩
          have JX : iv_J X Es n := iv_J_sb (SB_tr S0 SX) (by rw [← hX]; rfl) (by rw [← hX]; rfl) J'
          have X0 : X.1 0 0 = 0 := by rw [← hX]; rfl
          have X5 : X.2 61 5 = lI (T * P.1 - P.2) := by rw [← hX]; rfl
          have X6 : X.2 61 6 = lN P.1 := by rw [← hX]; rfl
          have RR : ∀ v, SB X v → ∃ v', M_X12_fell [.ref 64, .int (nI l), .int a2, .int (nI E), .int (nI m)] v = (@ite _ (P.1 ≠ 0 ∧ alP (pb_wI u 0 0 0) (nI o) (k0 - m) (2 * m) n) (Classical.propDecidable _) (pb_bI (M_X12_fraction [.ref 64, .long (lI (T * P.1 - P.2)), .long (lN P.1)] v') fun x4 w3 => some (some (.int x4), w3)) (some (some (.int (-1)), pb_wI v' 64 0 6))) ∧ fr fI_so fJ_so v v' := by
            intro v S
            have Sv := SB_tr SX S
            have hv := SB_B Sv hB0
            have al := alP_sv (SB_S Sv) (nI o) (k0 - m) (2 * m) n
            rw [R1 v (SB_tr SW0 Sv), if_pos q, nI_subN q.1, nI_add, show k0 + m = k0 - m + 2 * m by omega, M_hasAll hv.1 hv.2.1 (nI o) (show k0 - m + 2 * m ≤ 520 by omega), pb_bI_some]
            by_cases z : alP (pb_wI u 0 0 0) (nI o) (k0 - m) (2 * m) n
            · rw [b1_pos (al.mpr z), if_neg (show ¬ (1 : Int32) = 0 by decide)]
              obtain ⟨v', d1, d2⟩ := mx_fell hB0 hE a2 hn ((Su.1 64 98 (by simp [nI_BS])).trans h98) (by show u.1 128 = u.1 62; rw [Su.c 128 (fun k => by simp [nI_BS]), Su.c 62 (fun k => by simp [nI_BS])]; exact g128) (by show u.1 129 = u.1 63; rw [Su.c 129 (fun k => by simp [nI_BS]), Su.c 63 (fun k => by simp [nI_BS])]; exact g129) (by show u.1 68 = u.1 6; rw [Su.c 68 (fun k => by simp [nI_BS]), Su.c 6 (fun k => by simp [nI_BS])]; exact g68) hf ((Su.1 64 6 (by simp [nI_BS])).trans f6) (show l < 12 by omega) lo u62 u63 m1 m2 q.1 q.2 nF 0 v (by omega) Sv
              rw [hP, hT] at d1
              refine ⟨v', ?_, d2⟩
              refine Eq.trans d1 ?_
              by_cases y : P.1 = 0
              · rw [if_pos y, if_neg (fun x => x.1 y)]
              · rw [if_neg y, if_pos ⟨y, z⟩]
            · rw [b1_neg (fun y => z (al.mp y)), if_pos rfl]
              refine ⟨v, ?_, fr_rf v⟩
              rw [if_neg (fun x => z x.2)]
          by_cases z : P.1 ≠ 0 ∧ alP (pb_wI u 0 0 0) (nI o) (k0 - m) (2 * m) n
          · have mb : -(600000000 : Int) ≤ T * P.1 ∧ T * P.1 ≤ 600000000 := by
              have p12 : P.1 ≤ 12 := by omega
              have e1 : T ≤ 4000000 ∧ -4000000 ≤ T := by omega
              constructor
              · have : -(4000000 * 12 : Int) ≤ T * P.1 := by
                  have h1 : (-4000000 : Int) * P.1 ≤ T * P.1 := Int.mul_le_mul_of_nonneg_right e1.2 (by omega)
                  omega
                omega
              · have h1 : T * P.1 ≤ (4000000 : Int) * P.1 := Int.mul_le_mul_of_nonneg_right e1.1 (by omega)
                omega
            obtain ⟨x, tp, bo, hx⟩ := M_frac (a := lI (T * P.1 - P.2)) (b := P.1) (by rw [lI_toInt (by omega) (by omega)]; omega) (by rw [lI_toInt (by omega) (by omega)]; omega) (by omega) (by omega)
            rw [if_pos z, if_neg (show ¬ (1 : Int32) = 0 by decide), r_X11_fell_79, if_pos X0, X5, X6, (hx X w).1, pb_bI_some] at C
            obtain ⟨v', d1, d2⟩ := RR (pb_wL (pb_wL X 0 1 tp) 0 2 bo) (K2_SB (fr_L (fr_L (fr_rf X) (by simp [fJ_K2])) (by simp [fJ_K2])))
            rw [if_pos z, (hx w v').2, pb_bI_some] at d1
            exact ⟨x, _, _, C, d1, L_fin2 FX JX (by rw [pw_I_sf X0]; exact d2)⟩
          · rw [if_neg z, if_pos rfl, r_X11_fell_79, if_neg (show ¬ (pb_wI X 0 0 (6 : Int32)).1 0 0 = 0 by show ¬ (6 : Int32) = 0; decide)] at C
            obtain ⟨v', d1, d2⟩ := RR (pb_wI X 0 0 6) (S_00 X 6)
            rw [if_neg z] at d1
            exact ⟨-1, _, _, C, d1, L_fin hH FX JX d2⟩
        · rw [if_neg q] at C
          refine bad u 6 (by decide) F J' C ?_
          rw [R1 _ (SB_tr Su (S_00 u 6)), if_neg q]
