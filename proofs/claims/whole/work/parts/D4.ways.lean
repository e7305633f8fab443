/-! ===== WAYS: the agreement ===== -/
def prO (w : pb_W) (Es : List (List Rl)) (E : Nat) (s : TSt) (k : Nat) : Option Nat := (s.1 k).map (prN w Es E)
theorem prN_in {w : pb_W} {n : Nat} (hN : LN w n) (Es : List (List Rl)) (E : Nat) {j : Nat} (hj : j < n) : 1 ≤ prN w Es E j ∧ prN w Es E j ≤ 20000 := by
  obtain ⟨q1, q2, q3⟩ := hN.pc j hj
  have := Nat.div_le_self (pcN w j) (unN w Es E j)
  unfold prN
  omega
theorem RC_TH {u v : pb_W} {Es : List (List Rl)} {E n wl : Nat} {s : TSt} (hN : LN u n) (h : RC u Es E n wl (v.1 40) (v.1 41) (v.1 42) (v.1 43) s) (h20 : ∀ k, s.2.2 k ≤ 20) : TH1 v (prO u Es E s) s.2.2 := by
  have n2 := hN.le
  intro k hk
  obtain ⟨g1, g2, g3⟩ := h k hk
  refine ⟨?_, g2, h20 k⟩
  unfold prO
  rcases g1 with ⟨a, b⟩ | ⟨j, a, b, c, d⟩
  · exact Or.inl ⟨by rw [a]; rfl, b⟩
  · obtain ⟨p1, p2⟩ := prN_in hN Es E b
    exact Or.inr ⟨prN u Es E j, j, by rw [a]; rfl, p1, p2, by omega, c, d⟩
theorem RM_TH {u v : pb_W} {Es : List (List Rl)} {E n l : Nat} {s : TSt} (hN : LN u n) (h : RM u Es E n l (v.1 110) (v.1 111) (v.1 112) (v.1 115) (v.1 116) s) (h20 : ∀ k, s.2.2 k ≤ 20) : TH2 v (prO u Es E s) s.2.2 := by
  intro k hk
  obtain ⟨g1, g2, g3⟩ := h k hk
  refine ⟨?_, g2, h20 k⟩
  unfold prO
  rcases g1 with ⟨a, b⟩ | ⟨j, a, b, c, d⟩
  · exact Or.inl ⟨by rw [a]; rfl, b⟩
  · obtain ⟨p1, p2⟩ := prN_in hN Es E b
    exact Or.inr ⟨prN u Es E j, by rw [a]; rfl, p1, p2, c⟩
abbrev suP (u : pb_W) (Es : List (List Rl)) (E l : Nat) : Prop := (¬ u.1 5 19 < u.1 13 l ∧ u.1 12 l = 0) ∧ pcN u l ≤ 2000 ∧ kdN u Es E l = 0
theorem suP_sb {w v : pb_W} (h : SB w v) (Es : List (List Rl)) (E l : Nat) : suP v Es E l ↔ suP w Es E l := by
  unfold suP kdN
  rw [SB_vv h, pcN_sv (SB_S h), (SB_S h).s19, (SB_S h).s13, (SB_S h).s12]
abbrev gdP (a1 a2 : Int32) (n : Nat) (Es : List (List Rl)) : Prop := (¬ a1 < 0 ∧ a1 < nI n) ∧ (¬ a2 < 0 ∧ a2 < nI Es.length)
theorem M_sund {w : pb_W} {n : Nat} {Es : List (List Rl)} (a1 a2 : Int32) (hB : BS w n Es) (hJ : iv_J w Es n) : (¬ gdP a1 a2 n Es ∧ M_X11_sundriesStatus [.ref 0, .int a1, .int a2] w = some (some (.int 1), w)) ∨ ∃ l E, l < n ∧ E < Es.length ∧ a1 = nI l ∧ a2 = nI E ∧ ∃ u, M_X11_sundriesStatus [.ref 0, .int a1, .int a2] w = some (some (.int (if suP u Es E l then 0 else 6)), u) ∧ fr fI_jb fJ_ju w u ∧ iv_J u Es n ∧ JV u Es n E := by
  have n2 := hB.2.1.le
  have e5 := BS_5 hB
  have C := e_X11_sundriesStatus a1 a2 w
  rw [M_hasLine, pb_bI_some, hB.2.1.n5] at C
  by_cases hl : ¬ a1 < 0 ∧ a1 < nI n
  · rw [if_pos hl, if_neg (show ¬ (1 : Int32) = 0 by decide)] at C
    obtain ⟨l, hln, rfl⟩ := in_of (by omega) hl
    rcases M_judgeBy a2 hB hJ with ⟨b1, b2⟩ | ⟨E, hE, rfl, u, b2, F, J', V, -⟩
    · rw [b2, pb_bI_some, if_pos rfl] at C
      exact Or.inl ⟨fun z => b1 z.2, C⟩
    · refine Or.inr ⟨l, E, hln, hE, rfl, rfl, u, ?_, F, J', V⟩
      have hBu := SB_B (jb_SB F) hB
      obtain ⟨k1, k2⟩ := kd_in hBu hE l
      obtain ⟨p1, p2, p3⟩ := hBu.2.1.pc l hln
      have l2 : pb_in (nI l) 200 := pn_in (by omega) (by decide)
      rw [C, b2, pb_bI_some, if_neg (show ¬ (1 : Int32) = 0 by decide), e_X7_isSundries, M_went1 (show l < 200 by omega), pb_bI_some, if_pos l2, nI_clamp (show l < 2 ^ 31 by omega), M_kindOf0 (by omega) (by omega) (vv_VF hBu hE l) (V l hln), pb_bI_some, k1, p1]
      by_cases q : ¬ u.1 5 19 < u.1 13 l ∧ u.1 12 l = 0
      · rw [if_pos q, if_neg (show ¬ (1 : Int32) = 0 by decide)]
        by_cases p : pcN u l ≤ 2000
        · rw [if_neg (show ¬ (2000 : Int32) < nI (pcN u l) from nI_nlt (a := 2000) p (by decide))]
          by_cases r : kdN u Es E l = 0
          · rw [if_pos (show nI (kdN u Es E l) = (0 : Int32) by rw [r]; rfl), pb_bI_some, if_neg (show ¬ (1 : Int32) = 0 by decide), if_pos ⟨q, p, r⟩]
          · rw [if_neg (show ¬ nI (kdN u Es E l) = (0 : Int32) from fun z => r ((nI_eq (b := 0) (by omega) (by decide)).mp z)), pb_bI_some, if_pos rfl, if_neg (fun z => r z.2.2)]
        · rw [if_pos (show (2000 : Int32) < nI (pcN u l) from nI_lt (a := 2000) (by omega) (by omega)), pb_bI_some, if_pos rfl, if_neg (fun z => p z.2.1)]
      · rw [if_neg q, if_pos rfl, pb_bI_some, if_pos rfl, if_neg (fun z => q z.1)]
  · rw [if_neg hl, if_pos rfl] at C
    exact Or.inl ⟨fun z => hl z.1, C⟩
theorem M_wrong_bad {w v : pb_W} {n : Nat} {Es : List (List Rl)} {a1 a2 : Int32} (hB : BS w n Es) (S : SB w v) (h : ¬ gdP a1 a2 n Es) : M_X12_wrongSundry [.ref 64, .int a1, .int a2] v = some (some (.int 1), v) := by
  have hv := SB_B S hB
  rw [e_X12_wrongSundry, M_isLine, pb_bI_some, hv.2.1.n7]
  by_cases q : ¬ a1 < 0 ∧ a1 < nI n
  · rw [if_pos q, if_neg (show ¬ (1 : Int32) = 0 by decide), M_isEdition, pb_bI_some, EI_37 hv.2.2, if_neg (fun z => h ⟨q, z⟩), if_pos rfl]
  · rw [if_neg q, if_pos rfl]
theorem M_wrong {w v : pb_W} {n l E : Nat} {Es : List (List Rl)} (hB : BS w n Es) (S : SB w v) (hl : l < n) (hE : E < Es.length) : ∃ v', M_X12_wrongSundry [.ref 64, .int (nI l), .int (nI E)] v = some (some (.int (if suP w Es E l then 0 else 6)), v') ∧ fr fI_so fJ_so v v' := by
  have n2 := hB.2.1.le
  have e5 := BS_5 hB
  have hv := SB_B S hB
  have l2 : pb_in (nI l) 200 := pn_in (by omega) (by decide)
  have s5 := (LSo_of hv.1 hv.2.1).2.2.1
  rw [e_X12_wrongSundry, M_isLine, pb_bI_some, hv.2.1.n7, if_pos (show ¬ nI l < 0 ∧ nI l < nI n from ⟨nI_nlt (b := 0) (by omega) (by omega), nI_lt hl (by omega)⟩), if_neg (show ¬ (1 : Int32) = 0 by decide), M_isEdition, pb_bI_some, EI_37 hv.2.2, if_pos (ed_ok hE e5), if_neg (show ¬ (1 : Int32) = 0 by decide), k_known2 hv.2.1 hl, pb_bI_some, if_pos l2, nI_clamp (show l < 2 ^ 31 by omega), s5, (SB_S S).s19, (SB_S S).s13, (SB_S S).s12]
  by_cases q : w.1 5 19 < w.1 13 l
  · rw [if_pos q, if_pos rfl, if_neg (fun z => z.1.1 q)]
    exact ⟨v, rfl, fr_rf v⟩
  · rw [if_neg q, if_neg (show ¬ (1 : Int32) = 0 by decide)]
    by_cases r : w.1 12 l = 0
    · obtain ⟨v1, a1, -, a3⟩ := mx_kindOf hv hl hE
      have S1 := SB_tr S (so_SB a3)
      obtain ⟨k1, k2⟩ := kd_in hB hE l
      obtain ⟨p1, p2, p3⟩ := hB.2.1.pc l hl
      rw [SB_vv S, k1] at a1
      rw [if_pos r, a1, pb_bI_some, M_pence12 (SB_B S1 hB) hl, pb_bI_some, (SB_S S1).s16, p1]
      by_cases z : kdN w Es E l = 0
      · rw [if_pos (show nI (kdN w Es E l) = (0 : Int32) by rw [z]; rfl)]
        by_cases y : pcN w l ≤ 2000
        · rw [if_neg (show ¬ (2000 : Int32) < nI (pcN w l) from nI_nlt (a := 2000) y (by decide)), if_pos ⟨⟨q, r⟩, y, z⟩]
          exact ⟨v1, rfl, a3⟩
        · rw [if_pos (show (2000 : Int32) < nI (pcN w l) from nI_lt (a := 2000) (by omega) (by omega)), if_neg (fun x => y x.2.1)]
          exact ⟨v1, rfl, a3⟩
      · rw [if_neg (show ¬ nI (kdN w Es E l) = (0 : Int32) from fun x => z ((nI_eq (b := 0) (by omega) (by decide)).mp x)), if_neg (fun x => z x.2.2)]
        exact ⟨v1, rfl, a3⟩
    · rw [if_neg r, if_neg (fun x => r x.1.2)]
      exact ⟨v, rfl, fr_rf v⟩
theorem pw_I_sf {w : pb_W} {c k : Nat} {v : Int32} (h : w.1 c k = v) : pb_wI w c k v = w := by
  rw [← h]
  exact pw_I_self w c k
abbrev fI_W1 : Nat → Nat → Prop := fun c k => (c = 0 ∧ k = 0) ∨ (c = 25 ∧ k = 7) ∨ c = 28 ∨ c = 29 ∨ (c = 39 ∧ (k = 8 ∨ k = 9)) ∨ (40 ≤ c ∧ c ≤ 43)
abbrev fJ_W1 : Nat → Nat → Prop := fun c _ => c = 30 ∨ c = 44
abbrev fJ_W2 : Nat → Nat → Prop := fun c _ => c = 102 ∨ c = 103 ∨ c = 113 ∨ c = 114
abbrev fI_WS : Nat → Nat → Prop := fun c k => (c = 0 ∧ k = 0) ∨ (c = 64 ∧ k = 0) ∨ (c = 25 ∧ k = 7) ∨ c = 28 ∨ c = 29 ∨ (c = 39 ∧ (k = 8 ∨ k = 9)) ∨ (40 ≤ c ∧ c ≤ 43) ∨ (c = 64 ∧ 61 ≤ k ∧ k ≤ 63) ∨ c = 110 ∨ c = 111 ∨ c = 112 ∨ c = 115 ∨ c = 116
abbrev fJ_WS : Nat → Nat → Prop := fun c _ => c = 30 ∨ c = 44 ∨ c = 102 ∨ c = 103 ∨ c = 113 ∨ c = 114
theorem W_fin {w u v : pb_W} {n : Nat} {Es : List (List Rl)} {c : Int32} (hH : iv_H w) (F1 : fr fI_W1 fJ_W1 w u) (hJ : iv_J u Es n) (F2 : fr fI_t fJ_W2 (pb_wI u 0 0 c) v) : fr fI_WS fJ_WS w (pb_wI v 64 0 c) ∧ iv_H (pb_wI v 64 0 c) ∧ iv_J (pb_wI v 64 0 c) Es n :=
  G_fin hH F1 hJ F2 (fun c k q => by simp only [fI_W1] at q; simp only [fI_WS]; omega) (fun c k q => by simp only [fI_t] at q; simp only [fI_WS, nI_BS]; omega) (by simp [fI_WS]) (fun c k q => by simp only [fJ_W1] at q; simp only [fJ_WS]; omega) (fun c k q => by simp only [fJ_W2] at q; simp only [fJ_WS, nJ_BS]; omega)
theorem jb_W1 {w v : pb_W} (h : fr fI_jb fJ_ju w v) : fr fI_W1 fJ_W1 w v := fr_mn h (fun c k q => by simp only [fI_jb] at q; simp only [fI_W1]; omega) (fun c k q => Or.inl q)
theorem g_W1 {w v : pb_W} (h : fr fI_g fJ_no w v) : fr fI_W1 fJ_W1 w v := fr_mn h (fun c k q => by simp only [fI_g] at q; simp only [fI_W1]; omega) (fun c k q => q.elim)
theorem c_W1 {w v : pb_W} (h : fr fJ_no fJ_44 w v) : fr fI_W1 fJ_W1 w v := fr_mn h (fun c k q => q.elim) (fun c k q => Or.inr q)
theorem so_W2 {w v : pb_W} (h : fr fI_so fJ_so w v) : fr fI_t fJ_W2 w v := fr_mn h (fun c k q => Or.inl q) (fun c k q => by simp only [fJ_so] at q; simp only [fJ_W2]; omega)
theorem t_W2 {w v : pb_W} (h : fr fI_t fJ_so w v) : fr fI_t fJ_W2 w v := fr_mn h (fun c k q => q) (fun c k q => by simp only [fJ_so] at q; simp only [fJ_W2]; omega)
theorem n_W2 {w v : pb_W} (h : fr fJ_no fJ_13 w v) : fr fI_t fJ_W2 w v := fr_mn h (fun c k q => q.elim) (fun c k q => by simp only [fJ_13] at q; simp only [fJ_W2]; omega)
theorem W1_SB {w v : pb_W} (h : fr fI_W1 fJ_W1 w v) : SB w v := SB_of h (fun c k q z => by simp only [fI_W1] at q; simp only [nI_BS] at z; omega) (fun c k q z => by simp only [fJ_W1] at q; simp only [nJ_BS] at z; omega)
theorem W2_SB {w v : pb_W} (h : fr fI_t fJ_W2 w v) : SB w v := SB_of h (fun c k q z => by simp only [fI_t] at q; simp only [nI_BS] at z; omega) (fun c k q z => by simp only [fJ_W2] at q; simp only [nJ_BS] at z; omega)
theorem iv_J_g {u v : pb_W} {n : Nat} {Es : List (List Rl)} (S : SB u v) (h28 : v.1 28 = u.1 28) (h29 : v.1 29 = u.1 29) (hJ : iv_J u Es n) : iv_J v Es n := iv_J_sb S h28 h29 hJ
theorem wo_neg : ∀ k, 1 ≤ k → k ≤ 15 → (nI k = (-1 : Int32) ↔ k = 0) := fun k h1 h2 => ⟨fun z => absurd z (pn_m1 k (by omega)), fun z => by omega⟩
theorem iv_U_n {w : pb_W} (hU : iv_U w) : ∃ nr, nr ≤ 60 ∧ w.1 39 2 = nI nr ∧ w.1 64 76 = nI nr := by
  obtain ⟨h1, h2, ⟨c, c1, c2, c3⟩, h4⟩ := hU
  exact ⟨c, c2, c3, h1.trans c3⟩
theorem x_ways (a1 a2 : Int32) (w : pb_W) {n : Nat} {Es : List (List Rl)} (hH : iv_H w) (hU : iv_U w) (hB : BS w n Es) (hJ : iv_J w Es n) : ∃ x w1 w2, M_X11_ways [.ref 0, .int a1, .int a2] w = some (some (.long x), w1) ∧ M_X12_ways [.ref 64, .int a1, .int a2] w1 = some (some (.long x), w2) ∧ fr fI_WS fJ_WS w w2 ∧ iv_H w2 ∧ iv_J w2 Es n := by
  have n2 := hB.2.1.le
  have e5 := BS_5 hB
  obtain ⟨nr, hnr, h39, h76⟩ := iv_U_n hU
  have C := e_X11_ways a1 a2 w
  rcases M_sund a1 a2 hB hJ with ⟨b1, b2⟩ | ⟨l, E, hl, hE, rfl, rfl, u, b2, F, J', V⟩
  · rw [b2, pb_bI_some, if_neg (show ¬ (1 : Int32) = 0 by decide)] at C
    refine ⟨-1, _, _, C, ?_, W_fin (c := 1) hH (fr_rf w) hJ (fr_rf _)⟩
    rw [e_X12_ways, M_wrong_bad hB (S_00 w 1) b1, pb_bI_some, if_pos (show (0 : Int32) < 1 by decide), e_X12_refuse, pb_bI_some]
    rfl
  · have Su := jb_SB F
    have hBu := SB_B Su hB
    rw [b2, pb_bI_some] at C
    by_cases q : suP u Es E l
    · rw [if_pos q, if_pos rfl, e_X7_waysOf] at C
      have S0 := S_00 u 0
      have hB0 := SB_B S0 hBu
      have V0 : JV (pb_wI u 0 0 0) Es n E := JV_tr S0 (fun l hl => rfl) V
      have e39 : (pb_wI u 0 0 (0 : Int32)).1 39 2 = nI nr := (Su.1 39 2 (by simp [nI_BS])).trans h39
      have e76 : (pb_wI u 0 0 (0 : Int32)).1 64 76 = nI nr := (Su.1 64 76 (by simp [nI_BS])).trans h76
      obtain ⟨v1, c1, c2, c3⟩ := cx_th hB0 hE V0 hl hnr e39
      have S1 := SB_tr S0 (g_SB c2)
      obtain ⟨p1, p2, p3⟩ := hBu.2.1.pc l hl
      have pl := q.2.1
      have l2 : pb_in (nI l) 200 := pn_in (by omega) (by decide)
      have lc : (nI l).toNatClampNeg = l := nI_clamp (by omega)
      obtain ⟨v2, d1, d2, d3⟩ := cx_cnt (pn := pcN u l) (wo := 0) pl (by decide) (RC_TH hB0.2.1 c3 (ths_20 _ Es E l nr n))
      have S2 := SB_tr S1 (W1_SB (c_W1 d3))
      rw [c1, pb_bV_some, if_pos l2, lc, (SB_S S1).s16, p1] at C
      have C := C.trans (congrArg (fun z => pb_bL (pb_bV z _) _) d1)
      rw [pb_bV_some, if_pos l2, (SB_S S2).s16, p1, if_pos (pn_in (show pcN u l < 2001 by omega) (by decide)), pb_bL_some, nI_clamp (show pcN u l < 2 ^ 31 by omega), d2 _ (Nat.le_refl _)] at C
      have F2 : fr fI_W1 fJ_W1 w v2 := fr_tr (fr_tr (fr_I (jb_W1 F) (by simp [fI_W1])) (g_W1 c2)) (c_W1 d3)
      have z0 : v2.1 0 0 = 0 := (d3.1 0 0 id).trans (c2.1 0 0 (by simp [fI_g]))
      have J2 : iv_J v2 Es n := iv_J_sb S2 (funext fun s => (d3.1 28 s id).trans (c2.1 28 s (by simp [fI_g]))) (funext fun s => (d3.1 29 s id).trans (c2.1 29 s (by simp [fI_g]))) J'
      have T0 : SB (pb_wI u 0 0 0) v2 := SB_tr (g_SB c2) (W1_SB (c_W1 d3))
      obtain ⟨v3, f1, f2⟩ := M_wrong hBu S2 hl hE
      obtain ⟨v4, g1, g2, g3⟩ := mx_th hB0 hE hl hnr e76 (SB_tr T0 (so_SB f2))
      obtain ⟨v5, k1, k2, k3⟩ := mx_cnt wo_neg (RM_TH hB0.2.1 g3 (ths_20 _ Es E l nr n))
      have FR2 : fr fI_t fJ_W2 v2 v5 := fr_tr (fr_tr (so_W2 f2) (t_W2 g2)) (n_W2 k3)
      have S5 := SB_tr S2 (W2_SB FR2)
      have S6 : SB u (pb_wI v5 64 0 0) := SB_tr S5 (K_SB (fr_I (fr_rf v5) (by simp [fI_K])))
      refine ⟨_, v2, pb_wI v5 64 0 0, C, ?_, W_fin hH F2 J2 (by rw [pw_I_sf z0]; exact FR2)⟩
      rw [e_X12_ways, f1, pb_bI_some, if_pos q, if_neg (show ¬ (0 : Int32) < 0 by decide), g1, pb_bV_some, k1, pb_bV_some, M_pence12 (SB_B S6 hBu) hl, pb_bI_some, (SB_S S6).s16, p1, if_pos (pn_in (show pcN u l < 2001 by omega) (by decide)), nI_clamp (show pcN u l < 2 ^ 31 by omega), show (pb_wI v5 64 0 (0 : Int32)).2 113 (pcN u l) = _ from k2 _ pl]
    · rw [if_neg q, if_neg (show ¬ (6 : Int32) = 0 by decide)] at C
      obtain ⟨v', f1, f2⟩ := M_wrong hBu (S_00 u 6) hl hE
      refine ⟨-1, _, _, C, ?_, W_fin hH (jb_W1 F) J' (so_W2 f2)⟩
      rw [e_X12_ways, f1, pb_bI_some, if_neg q, if_pos (show (0 : Int32) < 6 by decide), e_X12_refuse, pb_bI_some]
      rfl
