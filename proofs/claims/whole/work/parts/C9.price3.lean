/-! ===== PRICE: the agreement ===== -/
theorem G_fin {I1 J1 I2 J2 I J : Nat → Nat → Prop} {w u v : pb_W} {n : Nat} {Es : List (List Rl)} {c : Int32} (hH : iv_H w) (F1 : fr I1 J1 w u) (hJ : iv_J u Es n) (F2 : fr I2 J2 (pb_wI u 0 0 c) v) (i1 : ∀ c k, I1 c k → I c k) (i2 : ∀ c k, I2 c k → I c k ∧ c ≠ 0 ∧ c ≠ 28 ∧ c ≠ 29 ∧ ¬ nI_BS c k) (i0 : I 0 0 ∧ I 64 0) (j1 : ∀ c k, J1 c k → J c k ∧ c ≠ 0 ∧ c ≠ 64) (j2 : ∀ c k, J2 c k → J c k ∧ c ≠ 0 ∧ c ≠ 64 ∧ ¬ nJ_BS c k) : fr I J w (pb_wI v 64 0 c) ∧ iv_H (pb_wI v 64 0 c) ∧ iv_J (pb_wI v 64 0 c) Es n := by
  have G1 : fr I J w u := fr_mn F1 i1 (fun c k q => (j1 c k q).1)
  have G2 : fr I J (pb_wI u 0 0 c) v := fr_mn F2 (fun c k q => (i2 c k q).1) (fun c k q => (j2 c k q).1)
  have G : fr I J w (pb_wI v 64 0 c) := fr_I (fr_tr (fr_I G1 i0.1) G2) i0.2
  have E2 : ∀ c' k, c' = 0 ∨ c' = 64 → v.2 c' k = w.2 c' k := fun c' k q => (F2.2 c' k (fun z => by have := j2 c' k z; omega)).trans (F1.2 c' k (fun z => by have := j1 c' k z; omega))
  refine ⟨G, ⟨?_, ?_, ?_⟩, ?_⟩
  · show c = v.1 0 0
    rw [F2.1 0 0 (fun z => (i2 0 0 z).2.1 rfl)]
    rfl
  · show v.2 64 1 = v.2 0 1
    rw [E2 64 1 (by omega), E2 0 1 (by omega)]
    exact hH.2.1
  · show v.2 64 2 = v.2 0 2
    rw [E2 64 2 (by omega), E2 0 2 (by omega)]
    exact hH.2.2
  · have S1 : SB u (pb_wI u 0 0 c) := S_00 u c
    have S2 : SB (pb_wI u 0 0 c) v := SB_of F2 (fun c k q => (i2 c k q).2.2.2.2) (fun c k q => (j2 c k q).2.2.2)
    have S3 : SB v (pb_wI v 64 0 c) := K_SB (fr_I (fr_rf v) (by simp [fI_K]))
    exact iv_J_sb (SB_tr S1 (SB_tr S2 S3)) (funext fun s => F2.1 28 s (fun z => (i2 _ _ z).2.2.1 rfl)) (funext fun s => F2.1 29 s (fun z => (i2 _ _ z).2.2.2.1 rfl)) hJ
theorem G_fin2 {I1 J1 I2 J2 I J : Nat → Nat → Prop} {w u v : pb_W} {n : Nat} {Es : List (List Rl)} {t o : Int64} (F1 : fr I1 J1 w u) (hJ : iv_J u Es n) (F2 : fr I2 J2 (pb_wL (pb_wL (pb_wI u 0 0 0) 0 1 t) 0 2 o) v) (i1 : ∀ c k, I1 c k → I c k) (i2 : ∀ c k, I2 c k → I c k ∧ c ≠ 0 ∧ c ≠ 28 ∧ c ≠ 29 ∧ ¬ nI_BS c k) (i0 : I 0 0 ∧ I 64 0) (j1 : ∀ c k, J1 c k → J c k) (j2 : ∀ c k, J2 c k → J c k ∧ c ≠ 0 ∧ c ≠ 64 ∧ ¬ nJ_BS c k) (j0 : J 0 1 ∧ J 0 2 ∧ J 64 1 ∧ J 64 2) : fr I J w (pb_wI (pb_wL (pb_wL v 64 1 t) 64 2 o) 64 0 0) ∧ iv_H (pb_wI (pb_wL (pb_wL v 64 1 t) 64 2 o) 64 0 0) ∧ iv_J (pb_wI (pb_wL (pb_wL v 64 1 t) 64 2 o) 64 0 0) Es n := by
  have G1 : fr I J w u := fr_mn F1 i1 j1
  have G2 : fr I J (pb_wL (pb_wL (pb_wI u 0 0 0) 0 1 t) 0 2 o) v := fr_mn F2 (fun c k q => (i2 c k q).1) (fun c k q => (j2 c k q).1)
  have G : fr I J w (pb_wI (pb_wL (pb_wL v 64 1 t) 64 2 o) 64 0 0) := fr_I (fr_L (fr_L (fr_tr (fr_L (fr_L (fr_I G1 i0.1) j0.1) j0.2.1) G2) j0.2.2.1) j0.2.2.2) i0.2
  refine ⟨G, ⟨?_, ?_, ?_⟩, ?_⟩
  · show (0 : Int32) = v.1 0 0
    rw [F2.1 0 0 (fun z => (i2 0 0 z).2.1 rfl)]
    rfl
  · show t = v.2 0 1
    rw [F2.2 0 1 (fun z => (j2 0 1 z).2.1 rfl)]
    rfl
  · show o = v.2 0 2
    rw [F2.2 0 2 (fun z => (j2 0 2 z).2.1 rfl)]
    rfl
  · have S1 : SB u (pb_wL (pb_wL (pb_wI u 0 0 0) 0 1 t) 0 2 o) := K2_SB (fr_L (fr_L (fr_I (fr_rf u) (by simp [fI_K])) (by simp [fJ_K2])) (by simp [fJ_K2]))
    have S2 : SB (pb_wL (pb_wL (pb_wI u 0 0 0) 0 1 t) 0 2 o) v := SB_of F2 (fun c k q => (i2 c k q).2.2.2.2) (fun c k q => (j2 c k q).2.2.2)
    have S3 : SB v (pb_wI (pb_wL (pb_wL v 64 1 t) 64 2 o) 64 0 0) := K2_SB (fr_I (fr_L (fr_L (fr_rf v) (by simp [fJ_K2])) (by simp [fJ_K2])) (by simp [fI_K]))
    exact iv_J_sb (SB_tr S1 (SB_tr S2 S3)) (funext fun s => F2.1 28 s (fun z => (i2 _ _ z).2.2.1 rfl)) (funext fun s => F2.1 29 s (fun z => (i2 _ _ z).2.2.2.1 rfl)) hJ
abbrev fI_V : Nat → Nat → Prop := fun c k => (c = 0 ∧ k = 0) ∨ (c = 64 ∧ k = 0) ∨ (c = 25 ∧ k = 7) ∨ c = 28 ∨ c = 29 ∨ (c = 64 ∧ 61 ≤ k ∧ k ≤ 63) ∨ (c = 51 ∧ k = 3) ∨ c = 52 ∨ c = 53 ∨ c = 122 ∨ c = 123
abbrev fI_jp : Nat → Nat → Prop := fun c k => (c = 25 ∧ k = 7) ∨ c = 28 ∨ c = 29 ∨ (c = 51 ∧ k = 3) ∨ c = 52 ∨ c = 53
theorem V_fin {w u v : pb_W} {n : Nat} {Es : List (List Rl)} {c : Int32} (hH : iv_H w) (F1 : fr fI_jp fJ_ju w u) (hJ : iv_J u Es n) (F2 : fr fI_pq fJ_so (pb_wI u 0 0 c) v) : fr fI_V fJ_K2 w (pb_wI v 64 0 c) ∧ iv_H (pb_wI v 64 0 c) ∧ iv_J (pb_wI v 64 0 c) Es n :=
  G_fin hH F1 hJ F2 (fun c k q => by simp only [fI_jp] at q; simp only [fI_V]; omega) (fun c k q => by simp only [fI_pq] at q; simp only [fI_V, nI_BS]; omega) (by simp [fI_V]) (fun c k q => by simp only [fJ_ju] at q; simp only [fJ_K2]; omega) (fun c k q => by simp only [fJ_so] at q; simp only [fJ_K2, nJ_BS]; omega)
theorem V_fin2 {w u v : pb_W} {n : Nat} {Es : List (List Rl)} {t o : Int64} (F1 : fr fI_jp fJ_ju w u) (hJ : iv_J u Es n) (F2 : fr fI_pq fJ_so (pb_wL (pb_wL (pb_wI u 0 0 0) 0 1 t) 0 2 o) v) : fr fI_V fJ_K2 w (pb_wI (pb_wL (pb_wL v 64 1 t) 64 2 o) 64 0 0) ∧ iv_H (pb_wI (pb_wL (pb_wL v 64 1 t) 64 2 o) 64 0 0) ∧ iv_J (pb_wI (pb_wL (pb_wL v 64 1 t) 64 2 o) 64 0 0) Es n :=
  G_fin2 F1 hJ F2 (fun c k q => by simp only [fI_jp] at q; simp only [fI_V]; omega) (fun c k q => by simp only [fI_pq] at q; simp only [fI_V, nI_BS]; omega) (by simp [fI_V]) (fun c k q => by simp only [fJ_ju] at q; simp only [fJ_K2]; omega) (fun c k q => by simp only [fJ_so] at q; simp only [fJ_K2, nJ_BS]; omega) (by simp [fJ_K2])
theorem SB_LF {w v : pb_W} {n : Nat} (h : SB w v) (hL : LF w n) : LF v n := by
  unfold LF fmN
  rw [h.1 5 0 (by simp [nI_BS]), h.1 64 6 (by simp [nI_BS]), h.c 8 (fun k => by simp [nI_BS])]
  exact hL
theorem SB_U {w v : pb_W} (h : SB w v) (hU : iv_U w) : iv_U v := by
  unfold iv_U
  rw [h.1 64 76 (by simp [nI_BS]), h.1 39 2 (by simp [nI_BS]), h.1 64 77 (by simp [nI_BS]), h.1 51 2 (by simp [nI_BS])]
  exact hU
theorem M_placeOf {w : pb_W} {c : Nat} (hc : 1 ≤ c) (hc2 : c ≤ 200) (h3 : w.1 51 3 = nI c) (a4 : Int32) : M_X4_placeOf [.ref 51, .int a4] w = some (some (.int (nI (plc a4 c))), w) := by
  have e1 : nI c - (1 : Int32) = nI (c - 1) := nI_subN (a := c) (b := 1) hc
  have e2 : nI (c - 1) / (2 : Int32) = nI ((c - 1) / 2) := pk_div (d := 2) (by omega) (by decide) (by decide)
  rw [e_X4_placeOf, h3, e1, e2, pn_max0 _ (by omega), pn_max0 _ (by omega)]
  unfold plc
  by_cases q0 : a4 = 0
  · rw [if_pos q0, if_pos q0]; rfl
  · rw [if_neg q0, if_neg q0]
    by_cases q1 : a4 = 1
    · rw [if_pos q1, if_pos q1]
    · rw [if_neg q1, if_neg q1]
theorem plc_lt {a4 : Int32} {c : Nat} (hc : 1 ≤ c) : plc a4 c < c := by
  unfold plc
  split
  · omega
  · split
    · have := Nat.div_le_self (c - 1) 2
      omega
    · omega
theorem x_price (a1 a2 a3 a4 : Int32) (w : pb_W) {n : Nat} {Es : List (List Rl)} (hH : iv_H w) (hU : iv_U w) (hLF : LF w n) (hB : BS w n Es) (hJ : iv_J w Es n) : ∃ x w1 w2, M_X11_price [.ref 0, .int a1, .int a2, .int a3, .int a4] w = some (some (.int x), w1) ∧ M_X12_price [.ref 64, .int a1, .int a2, .int a3, .int a4] w1 = some (some (.int x), w2) ∧ fr fI_V fJ_K2 w w2 ∧ iv_H w2 ∧ iv_J w2 Es n := by
  have n2 := hB.2.1.le
  have e5 := BS_5 hB
  have C := e_X11_price a1 a2 a3 a4 w
  rw [M_outside, pb_bI_some, M_outside, pb_bI_some] at C
  have jj : ∀ u, fr fI_jb fJ_ju w u → fr fI_jp fJ_ju w u := fun u F => fr_mn F (fun c k q => by simp only [fI_jb] at q; simp only [fI_jp]; omega) (fun c k q => q)
  have bad : ∀ (u : pb_W), fr fI_jb fJ_ju w u → iv_J u Es n → M_X11_price [.ref 0, .int a1, .int a2, .int a3, .int a4] w = pb_run T_X11_price (75, [some (.ref 0), none, none, none, some (.int a4), none, none], [], pb_wI u 0 0 1) → M_X12_price [.ref 64, .int a1, .int a2, .int a3, .int a4] (pb_wI u 0 0 1) = some (some (.int (-1)), pb_wI (pb_wI u 0 0 1) 64 0 1) → ∃ x w1 w2, M_X11_price [.ref 0, .int a1, .int a2, .int a3, .int a4] w = some (some (.int x), w1) ∧ M_X12_price [.ref 64, .int a1, .int a2, .int a3, .int a4] w1 = some (some (.int x), w2) ∧ fr fI_V fJ_K2 w w2 ∧ iv_H w2 ∧ iv_J w2 Es n := by
    intro u F hJ' h1 h2
    refine ⟨-1, _, _, ?_, h2, V_fin hH (jj u F) hJ' (fr_rf _)⟩
    rw [h1, r_X11_price_75, if_neg (show ¬ (pb_wI u 0 0 (1 : Int32)).1 0 0 = 0 by show ¬ (1 : Int32) = 0; decide)]
  have R : ∀ v, SB w v → M_X12_price [.ref 64, .int a1, .int a2, .int a3, .int a4] v = if a1 < 0 ∨ 15 < a1 then some (some (.int (-1)), pb_wI v 64 0 1) else if a2 < 0 ∨ 9 < a2 then some (some (.int (-1)), pb_wI v 64 0 1) else if ¬ (¬ a3 < 0 ∧ a3 < nI Es.length) then some (some (.int (-1)), pb_wI v 64 0 1) else if a4 < 0 ∨ 2 < a4 then some (some (.int (-1)), pb_wI v 64 0 1) else pb_run T_X12_price (54, [some (.ref 64), some (.int a1), some (.int a2), some (.int a3), some (.int a4), some (.int (0 : Int32)), some (.int (0 : Int32)), some (.int (0 : Int32)), none, none, none], [], v) := by
    intro v hv
    have hBv := SB_B hv hB
    have o2 : ∀ (P Q : Prop) [Decidable P] [Decidable Q] (x y : Option pb_R), (if P then x else if Q then x else y) = if P ∨ Q then x else y := by
      intro P Q _ _ x y
      by_cases p : P
      · rw [if_pos p, if_pos (Or.inl p)]
      · rw [if_neg p]
        by_cases q : Q
        · rw [if_pos q, if_pos (Or.inr q)]
        · rw [if_neg q, if_neg (fun z => z.elim p q)]
    have o3 : ∀ (x y : Option pb_R), (if a1 < (16 : Int32) then x else y) = if 15 < a1 then y else x := by
      intro x y
      by_cases p : (15 : Int32) < a1
      · rw [if_pos p, if_neg (fun z => (lt16 a1).mp z p)]
      · rw [if_neg p, if_pos ((lt16 a1).mpr p)]
    rw [e_X12_price]
    simp only [M_isEdition, pb_bI_some, q01, ite_ref, EI_37 hBv.2.2]
    rw [o3, o2 (a1 < 0) (15 < a1), o2 (a2 < 0) (9 < a2), o2 (a4 < 0) (2 < a4)]
  by_cases q1 : a1 < 0 ∨ 15 < a1
  · rw [if_pos q1, if_neg (show ¬ (1 : Int32) = 0 by decide), r_X11_price_25, if_neg (show ¬ (1 : Int32) = 0 by decide)] at C
    exact bad w (fr_rf w) hJ C (by rw [R _ (S_00 w 1), if_pos q1])
  · rw [if_neg q1, if_pos rfl] at C
    by_cases q2 : a2 < 0 ∨ 9 < a2
    · rw [if_pos q2, if_neg (show ¬ (1 : Int32) = 0 by decide), r_X11_price_25, if_neg (show ¬ (1 : Int32) = 0 by decide)] at C
      exact bad w (fr_rf w) hJ C (by rw [R _ (S_00 w 1), if_neg q1, if_pos q2])
    · rw [if_neg q2, if_pos rfl, r_X11_price_25, if_pos rfl] at C
      rcases M_judgeBy a3 hB hJ with ⟨b1, b2⟩ | ⟨E, hE, rfl, u, b2, F, J', V, -⟩
      · rw [b2, pb_bI_some, if_pos rfl] at C
        exact bad w (fr_rf w) hJ C (by rw [R _ (S_00 w 1), if_neg q1, if_neg q2, if_pos b1])
      · have eo := ed_ok hE e5
        rw [b2, pb_bI_some, if_neg (show ¬ (1 : Int32) = 0 by decide), M_outside, pb_bI_some] at C
        by_cases q4 : a4 < 0 ∨ 2 < a4
        · rw [if_pos q4, if_neg (show ¬ (1 : Int32) = 0 by decide)] at C
          exact bad u F J' C (by rw [R _ (SB_tr (jb_SB F) (S_00 u 1)), if_neg q1, if_neg q2, if_neg (fun z => z eo), if_pos q4])
        · rw [if_neg q4, if_pos rfl, e_X4_gather] at C
          have Su := jb_SB F
          have hBu := SB_B Su hB
          have F3 : fr fI_pr fJ_no u (pb_wI u 51 3 0) := fr_I (fr_rf u) (by simp [fI_pr])
          obtain ⟨v, g1, g2, g3, g4⟩ := cx_gthr hBu hE V (SB_LF Su hLF) a1 a2 n 0 (pb_wI u 51 3 0) (by omega) F3 (fun j hj => absurd hj (Nat.not_lt_zero j)) rfl
          have C := C.trans ((congrArg (fun z => pb_bI z fun x6 w5 => (pb_run T_X11_price (75, [some (.ref 0), none, none, none, some (.int a4), none, none], [], (pb_wI w5 0 0 x6)))) g1).trans rfl)
          have Sv := SB_tr Su (pr_SB g2)
          have Fv : fr fI_jp fJ_ju w v := fr_tr (jj u F) (fr_mn g2 (fun c k q => by simp only [fI_pr] at q; simp only [fI_jp]; omega) (fun c k q => q.elim))
          have Jv : iv_J v Es n := iv_J_sb (pr_SB g2) (funext fun s => g2.1 28 s (by simp [fI_pr])) (funext fun s => g2.1 29 s (by simp [fI_pr])) J'
          generalize hP : prs u Es E a1 a2 n = P at g1 g3 g4 C
          have cl : P.2.1 ≤ n := by rw [← hP]; exact prs_le u Es E a1 a2 n
          obtain ⟨nF, f1, f2, f3, f4⟩ := hLF
          have sl : P.2.2 < 2 ^ nF := by
            rw [← hP]
            exact prs_lt u Es E a1 a2 (nF := nF) n (fun k hk => by have := (f4 k hk).1; unfold fmN at this ⊢; rw [(SB_S Su).s8]; exact this)
          have ush : u.1 51 2 = w.1 51 2 := Su.1 51 2 (by simp [nI_BS])
          rw [ush] at C
          have RR : ∀ v1, SB v v1 → ∃ v', M_X12_price [.ref 64, .int a1, .int a2, .int (nI E), .int a4] v1 = (if P.2.1 = 0 then some (some (.int (-1)), pb_wI v' 64 0 6) else if nI (pcn P.2.2 12) < w.1 51 2 then some (some (.int (-1)), pb_wI v' 64 0 7) else pb_run T_X12_price (330, [some (.ref 64), none, none, none, none, none, none, none, none, none, none], [.int (nI (plc a4 P.2.1))], v')) ∧ fr fI_pq fJ_so v1 v' ∧ FR (v'.1 122) (v'.1 123) P.1 P.2.1 := by
            intro v1 S1
            have Sw := SB_tr Sv S1
            obtain ⟨v', c1, c2, c3⟩ := mx_gthr (SB_B Sw hB) hE (SB_LF Sw ⟨nF, f1, f2, f3, f4⟩) a1 a2 a4 n 0 v1 (by omega) (SB_rf _) (fun j hj => absurd hj (Nat.not_lt_zero j))
            rw [prs_sb (SB_tr (pr_SB g2) S1) Es E a1 a2 n, hP] at c1 c3
            refine ⟨v', ?_, c2, c3⟩
            rw [R _ Sw, if_neg q1, if_neg q2, if_neg (fun z => z eo), if_neg q4]
            refine Eq.trans c1 ?_
            have S' := SB_tr Sw (pq_SB c2)
            by_cases q0 : P.2.1 = 0
            · rw [if_pos q0, if_pos q0]
            · rw [if_neg q0, if_neg q0]
              have := mx_fam (u := v') (nF := nF) (S := P.2.2) (c := P.2.1) f1 ((S'.1 64 6 (by simp [nI_BS])).trans f3) sl (by omega) (by omega) a4 nF 0 (by omega)
              rw [show v'.1 64 77 = w.1 51 2 from (S'.1 64 77 (by simp [nI_BS])).trans hU.2.1] at this
              exact this
          by_cases q0 : P.2.1 = 0
          · rw [if_pos q0, pb_bI_some, r_X11_price_75, if_neg (show ¬ (pb_wI v 0 0 (6 : Int32)).1 0 0 = 0 by show ¬ (6 : Int32) = 0; decide)] at C
            obtain ⟨v', d1, d2, d3⟩ := RR _ (S_00 v 6)
            rw [if_pos q0] at d1
            exact ⟨-1, _, _, C, d1, V_fin hH Fv Jv d2⟩
          · rw [if_neg q0] at C
            by_cases q7 : nI (pcn P.2.2 12) < w.1 51 2
            · rw [if_pos q7, pb_bI_some, r_X11_price_75, if_neg (show ¬ (pb_wI v 0 0 (7 : Int32)).1 0 0 = 0 by show ¬ (7 : Int32) = 0; decide)] at C
              obtain ⟨v', d1, d2, d3⟩ := RR _ (S_00 v 7)
              rw [if_neg q0, if_pos q7] at d1
              exact ⟨-1, _, _, C, d1, V_fin hH Fv Jv d2⟩
            · have pl := plc_lt (a4 := a4) (c := P.2.1) (by omega)
              have p2 : pb_in (nI (plc a4 P.2.1)) 200 := pn_in (by omega) (by decide)
              obtain ⟨h1, h2, h3, h4, h5⟩ := g3 _ pl
              obtain ⟨x, tp, bo, hx⟩ := M_frac (a := lN (P.1.1 (plc a4 P.2.1))) (b := P.1.2 (plc a4 P.2.1)) (by rw [pf_lI (by omega)]; omega) (by rw [pf_lI (by omega)]; omega) h4 (by omega)
              rw [if_neg q7, pb_bI_some, r_X11_price_75, if_pos (show (pb_wI v 0 0 (0 : Int32)).1 0 0 = 0 from rfl), M_placeOf (w := pb_wI v 0 0 0) (c := P.2.1) (by omega) (by omega) g4, pb_bI_some, if_pos p2, if_pos p2, nI_clamp (show plc a4 P.2.1 < 2 ^ 31 by omega), show (pb_wI v 0 0 (0 : Int32)).1 52 (plc a4 P.2.1) = _ from h1, show (pb_wI v 0 0 (0 : Int32)).1 53 (plc a4 P.2.1) = _ from h2, nI_to64 (by omega), nI_to64 (by omega), (hx (pb_wI v 0 0 0) w).1, pb_bI_some] at C
              obtain ⟨v', d1, d2, d3⟩ := RR (pb_wL (pb_wL (pb_wI v 0 0 0) 0 1 tp) 0 2 bo) (K2_SB (fr_L (fr_L (fr_I (fr_rf v) (by simp [fI_K])) (by simp [fJ_K2])) (by simp [fJ_K2])))
              obtain ⟨k1, k2, k3, k4, k5⟩ := d3 _ pl
              rw [if_neg q0, if_neg q7, r_X12_price_330, if_pos p2, if_pos p2, nI_clamp (show plc a4 P.2.1 < 2 ^ 31 by omega), k1, k2, nI_to64 (by omega), nI_to64 (by omega), (hx w v').2, pb_bI_some] at d1
              exact ⟨x, _, _, C, d1, V_fin2 Fv Jv d2⟩
