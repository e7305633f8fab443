/-! ===== SHARE ===== -/
theorem tog_eq {w v : pb_W} (h45 : v.1 45 = w.1 45) (h46 : v.1 46 = w.1 46) (h47 : v.1 47 = w.1 47) (h48 : v.1 48 = w.1 48) (h49 : v.1 49 = w.1 49) (h50 : v.1 50 = w.1 50) {n : Nat} (hn : n ≤ 40) (hw : w.1 45 0 = nI n) (a1 a2 : Int32) : ∀ (m i : Nat) (s x : Int32), i + m = n → pb_run T_X3_together (5, [some (.ref 45), some (.int a1), some (.int a2), some (.int s), some (.int (nI i)), none], [], w) = some (some (.int x), w) → pb_run T_X3_together (5, [some (.ref 45), some (.int a1), some (.int a2), some (.int s), some (.int (nI i)), none], [], v) = some (some (.int x), v) := by
  intro m
  induction m with
  | zero =>
    intro i s x hi h
    have q : ¬ nI i < nI n := nI_nlt (by omega) (by omega)
    rw [r_X3_together_5, hw, if_neg q] at h
    rw [r_X3_together_5, h45, hw, if_neg q]
    injection h with h
    injection h with h
    injection h with h
    injection h with h
    rw [h]
  | succ m ih =>
    intro i s x hi h
    have i40 : pb_in (nI i) 40 := pn_in (by omega) (by decide)
    have q : nI i < nI n := nI_lt (by omega) (by omega)
    rw [r_X3_together_5, hw, if_pos q] at h
    rw [r_X3_together_5, h45, h46, h47, h48, h49, h50, hw, if_pos q]
    simp only [if_pos i40] at h ⊢
    rw [nI_1] at h ⊢
    by_cases hf : w.1 46 (nI i).toNatClampNeg = a1
    · rw [if_pos hf] at h ⊢
      by_cases h1 : a2 < w.1 48 (nI i).toNatClampNeg
      · rw [if_pos h1] at h ⊢
        exact ih (i + 1) _ _ (by omega) h
      · rw [if_neg h1] at h ⊢
        by_cases h2 : w.1 49 (nI i).toNatClampNeg < a2
        · rw [if_pos h2] at h ⊢
          exact ih (i + 1) _ _ (by omega) h
        · rw [if_neg h2] at h ⊢
          by_cases h3 : pb_in (pb_min (3 : Int32) (pb_max (0 : Int32) (((a2 - (w.1 47 (nI i).toNatClampNeg)) / (52 : Int32)) / (5 : Int32)))) 4
          · rw [if_pos h3] at h ⊢
            exact ih (i + 1) _ _ (by omega) h
          · rw [if_neg h3] at h
            cases h
    · rw [if_neg hf] at h ⊢
      exact ih (i + 1) _ _ (by omega) h
theorem SB_M {w v : pb_W} (h : SB w v) (hM : iv_M w) : iv_M v := by
  unfold iv_M
  rw [h.1 45 0 (by simp [nI_BS]), h.1 64 85 (by simp [nI_BS]), h.c 46 (fun k => by simp [nI_BS]), h.c 47 (fun k => by simp [nI_BS]), h.c 48 (fun k => by simp [nI_BS]), h.c 49 (fun k => by simp [nI_BS]), h.c 117 (fun k => by simp [nI_BS]), h.c 118 (fun k => by simp [nI_BS]), h.c 119 (fun k => by simp [nI_BS]), h.c 120 (fun k => by simp [nI_BS])]
  exact hM
theorem SB_Sc {w v : pb_W} (h : SB w v) (hS : iv_S w) : iv_S v := by
  unfold iv_S
  rw [h.c 50 (fun k => by simp [nI_BS]), h.c 121 (fun k => by simp [nI_BS])]
  exact hS
theorem M_tog {w : pb_W} (hM : iv_M w) (hS : iv_S w) {wk : Nat} (hk : wk < 520) (a1 : Int32) : ∃ t, t ≤ 4000 ∧ ∀ v, SB w v → M_X3_together [.ref 45, .int a1, .int (nI wk)] v = some (some (.int (nI t)), v) ∧ M_X12_mouthsOf [.ref 64, .int a1, .int (nI wk)] v = some (some (.int (nI t)), v) := by
  have hM' := hM
  obtain ⟨n, hn, h45, -⟩ := hM
  obtain ⟨t, t1, t2, -⟩ := cm_mouths (a1 := a1) hM' hS hk h45 hn n 0 0 (by omega) (by omega)
  refine ⟨t, by omega, fun v S => ?_⟩
  have e := tog_eq (S.c 45 (fun k => by simp [nI_BS])) (S.c 46 (fun k => by simp [nI_BS])) (S.c 47 (fun k => by simp [nI_BS])) (S.c 48 (fun k => by simp [nI_BS])) (S.c 49 (fun k => by simp [nI_BS])) (S.c 50 (fun k => by simp [nI_BS])) hn h45 a1 (nI wk) n 0 _ _ (by omega) t2
  obtain ⟨s, s1, s2, s3⟩ := cm_mouths (a1 := a1) (SB_M S hM') (SB_Sc S hS) hk ((S.1 45 0 (by simp [nI_BS])).trans h45) hn n 0 0 (by omega) (by omega)
  have st : nI s = nI t := by
    rw [s2] at e
    injection e with e
    injection e with e
    injection e with e
    injection e
  rw [e_X3_together, e_X12_mouthsOf]
  rw [st] at s3
  exact ⟨e, s3⟩
theorem spk_N {w : pb_W} {n : Nat} (hN : LN w n) (Es : List (List Rl)) (E : Nat) (kd f wk : Int32) : ∀ i, i ≤ n → ∃ s, s ≤ 20000 * i ∧ spk w Es E kd f wk i = nI s
  | 0, _ => ⟨0, by decide, rfl⟩
  | i + 1, h => by
    obtain ⟨s, s1, s2⟩ := spk_N hN Es E kd f wk i (by omega)
    obtain ⟨p1, p2, p3⟩ := hN.pc i (by omega)
    rw [spk]
    split
    · exact ⟨s + pcN w i, by omega, by rw [s2, p1, nI_add]⟩
    · exact ⟨s, by omega, s2⟩
abbrev fJ_K2 : Nat → Nat → Prop := fun c k => c = 30 ∨ c = 102 ∨ c = 103 ∨ ((c = 0 ∨ c = 64) ∧ (k = 1 ∨ k = 2))
theorem K2_SB {w v : pb_W} (h : fr fI_K fJ_K2 w v) : SB w v := SB_of h (fun c k q z => by simp only [fI_K] at q; simp only [nI_BS] at z; omega) (fun c k q z => by simp only [fJ_K2] at q; simp only [nJ_BS] at z; omega)
theorem K_to2 {w v : pb_W} (h : fr fI_K fJ_K w v) : fr fI_K fJ_K2 w v := fr_mn h (fun c k q => q) (fun c k q => by simp only [fJ_K] at q; show _ ∨ _; omega)
theorem K_fin2 {w u v : pb_W} {n : Nat} {Es : List (List Rl)} {t o : Int64} (F1 : fr fI_jb fJ_ju w u) (hJ : iv_J u Es n) (F2 : fr fI_so fJ_so (pb_wL (pb_wL (pb_wI u 0 0 0) 0 1 t) 0 2 o) v) : fr fI_K fJ_K2 w (pb_wI (pb_wL (pb_wL v 64 1 t) 64 2 o) 64 0 0) ∧ iv_H (pb_wI (pb_wL (pb_wL v 64 1 t) 64 2 o) 64 0 0) ∧ iv_J (pb_wI (pb_wL (pb_wL v 64 1 t) 64 2 o) 64 0 0) Es n := by
  have G1 : fr fI_K fJ_K2 w u := fr_mn F1 (fun c k q => by simp only [fI_jb] at q; show _ ∨ _; omega) (fun c k q => Or.inl q)
  have G2 : fr fI_K fJ_K2 (pb_wL (pb_wL (pb_wI u 0 0 0) 0 1 t) 0 2 o) v := fr_mn F2 (fun c k q => by simp only [fI_so] at q; show _ ∨ _; omega) (fun c k q => by simp only [fJ_so] at q; show _ ∨ _; omega)
  have G : fr fI_K fJ_K2 u (pb_wI (pb_wL (pb_wL v 64 1 t) 64 2 o) 64 0 0) := fr_I (fr_L (fr_L (fr_tr (fr_L (fr_L (fr_I (fr_rf u) (by simp [fI_K])) (by simp [fJ_K2])) (by simp [fJ_K2])) G2) (by simp [fJ_K2])) (by simp [fJ_K2])) (by simp [fI_K])
  refine ⟨fr_tr G1 G, ⟨?_, ?_, ?_⟩, ?_⟩
  · show (0 : Int32) = v.1 0 0
    rw [F2.1 0 0 (by simp [fI_so])]
    rfl
  · show t = v.2 0 1
    rw [F2.2 0 1 (by simp [fJ_so])]
    rfl
  · show o = v.2 0 2
    rw [F2.2 0 2 (by simp [fJ_so])]
    rfl
  · exact iv_J_sb (K2_SB G) (funext fun s => F2.1 28 s (by simp [fI_so])) (funext fun s => F2.1 29 s (by simp [fI_so])) hJ
theorem ns_wk {F a1 a2 a3 a4 : Int32} {m : Nat} (h : ¬ nsP F a1 a2 a3 a4 m) : ∃ wk, wk < 520 ∧ a2 = nI wk := by
  have h2 : ¬ (a2 < 0 ∨ 519 < a2) := fun z => h (Or.inr (Or.inl z))
  obtain ⟨wk, h3, h4⟩ := pn_of (x := a2) (N := 519) (fun z => h2 (Or.inl z)) (fun z => h2 (Or.inr z)) (by decide)
  exact ⟨wk, by omega, h4⟩
theorem x_share (a1 a2 a3 a4 : Int32) (w : pb_W) {n : Nat} {Es : List (List Rl)} (hH : iv_H w) (hF : iv_F w) (hM : iv_M w) (hS : iv_S w) (hB : BS w n Es) (hJ : iv_J w Es n) : ∃ x w1 w2, M_X11_share [.ref 0, .int a1, .int a2, .int a3, .int a4] w = some (some (.int x), w1) ∧ M_X12_share [.ref 64, .int a1, .int a2, .int a3, .int a4] w1 = some (some (.int x), w2) ∧ fr fI_K fJ_K2 w w2 ∧ iv_H w2 ∧ iv_J w2 Es n := by
  classical
  have n2 := hB.2.1.le
  have C := e_X11_share a1 a2 a3 a4 w
  have R : ∀ v, SB w v → M_X12_share [.ref 64, .int a1, .int a2, .int a3, .int a4] v = if nsP (w.1 5 0) a1 a2 a3 a4 Es.length then some (some (.int (-1)), pb_wI v 64 0 1) else (pb_bI (M_X12_mouthsOf [.ref 64, .int a1, .int a2] v) fun x16 w15 => (if x16 = 0 then some (some (.int (-1)), pb_wI w15 64 0 6) else (pb_bI (M_X12_spentOf [.ref 64, .int a1, .int a2, .int a3, .int a4] w15) fun x18 w17 => (pb_bI (M_X12_fraction [.ref 64, .long ((100 : Int64) * ((x18).toInt64)), .long ((x16).toInt64)] w17) fun x20 w19 => (some (some (.int x20), w19)))))) := by
    intro v hv
    have hBv := SB_B hv hB
    rw [e_X12_share, ← ns_chain]
    simp only [M_isFamily, M_isWeek, M_isKind, M_isEdition, pb_bI_some, q01, q10, ite_ref, EI_37 hBv.2.2, iv_F6 (SB_F hv hF), hv.1 5 0 (by simp [nI_BS])]
  rcases M_noSpend a1 a2 a3 a4 hB hJ with ⟨b1, b2⟩ | ⟨b1, E, hE, rfl, u, b2, F, J', V⟩
  · rw [b2, pb_bI_some, if_neg (show ¬ (1 : Int32) = 0 by decide), r_X11_share_42, if_neg (show ¬ (pb_wI w 0 0 (1 : Int32)).1 0 0 = 0 by show ¬ (1 : Int32) = 0; decide)] at C
    obtain ⟨k1, k2, k3⟩ := K_fin (c := 1) hH (fr_rf w) hJ (fr_rf _)
    refine ⟨-1, _, _, C, ?_, K_to2 k1, k2, k3⟩
    rw [R _ (S_00 w 1), if_pos b1]
  · obtain ⟨wk, hwk, rfl⟩ := ns_wk b1
    obtain ⟨t, ht, hT⟩ := M_tog hM hS hwk a1
    have S := S_00 u 0
    have SF := SB_tr (jb_SB F) S
    have hB3 := SB_B SF hB
    rw [b2, pb_bI_some, if_pos rfl, (hT u (jb_SB F)).1, pb_bI_some] at C
    by_cases t0 : t = 0
    · subst t0
      rw [if_neg (show ¬ (0 : Int32) < nI 0 by decide), r_X11_share_42, if_neg (show ¬ (pb_wI u 0 0 (6 : Int32)).1 0 0 = 0 by show ¬ (6 : Int32) = 0; decide)] at C
      obtain ⟨k1, k2, k3⟩ := K_fin (c := 6) hH F J' (fr_rf _)
      refine ⟨-1, _, _, C, ?_, K_to2 k1, k2, k3⟩
      have S6 := SB_tr (jb_SB F) (S_00 u 6)
      rw [R _ S6, if_neg b1, (hT _ S6).2, pb_bI_some, if_pos (show nI 0 = (0 : Int32) from rfl)]
    · have tn : ¬ nI t = (0 : Int32) := fun z => t0 ((nI_eq (b := 0) (by omega) (by decide)).mp z)
      obtain ⟨s, s1, s2⟩ := spk_N hB3.2.1 Es E a3 a1 (nI wk) n (Nat.le_refl _)
      have e100 : (100 : Int64) * (nI s).toInt64 = lN (100 * s) := by rw [nI_to64 (by omega), show (100 : Int64) = lN 100 from rfl, lN_mul]
      obtain ⟨x, tp, bo, hx⟩ := M_frac (a := lN (100 * s)) (b := t) (by rw [pf_lI (by omega)]; omega) (by rw [pf_lI (by omega)]; omega) (by omega) ht
      rw [if_pos (show (0 : Int32) < nI t from nI_lt (a := 0) (by omega) (by omega)), r_X11_share_42, if_pos (show (pb_wI u 0 0 (0 : Int32)).1 0 0 = 0 from rfl), M_spentOn hB3 hE (JV_tr S (fun l hl => rfl) V), pb_bI_some, (hT _ SF).1, pb_bI_some, s2, e100, nI_to64 (show t < 2 ^ 31 by omega), (hx (pb_wI u 0 0 0) w).1, pb_bI_some] at C
      have S2 : SB (pb_wI u 0 0 0) (pb_wL (pb_wL (pb_wI u 0 0 0) 0 1 tp) 0 2 bo) := K2_SB (fr_L (fr_L (fr_rf _) (by simp [fJ_K2])) (by simp [fJ_K2]))
      obtain ⟨v', d1, d2⟩ := M_spentOf12 hB3 hE S2 a3 a1 (nI wk)
      refine ⟨x, _, _, C, ?_, K_fin2 F J' d2⟩
      rw [R _ (SB_tr SF S2), if_neg b1, (hT _ (SB_tr SF S2)).2, pb_bI_some, if_neg tn, d1, pb_bI_some, s2, e100, nI_to64 (show t < 2 ^ 31 by omega), (hx w v').2, pb_bI_some]
