/-! ===== KIND, MOVED, SPENT ===== -/
abbrev fI_K : Nat → Nat → Prop := fun c k => (c = 0 ∧ k = 0) ∨ (c = 64 ∧ k = 0) ∨ (c = 25 ∧ k = 7) ∨ c = 28 ∨ c = 29 ∨ (c = 64 ∧ 61 ≤ k ∧ k ≤ 63)
abbrev fJ_K : Nat → Nat → Prop := fun c _ => c = 30 ∨ c = 102 ∨ c = 103
theorem K_SB {w v : pb_W} (h : fr fI_K fJ_K w v) : SB w v := SB_of h (fun c k q z => by simp only [fI_K] at q; simp only [nI_BS] at z; omega) (fun c k q z => by simp only [fJ_K] at q; simp only [nJ_BS] at z; omega)
theorem iv_J_sb {w v : pb_W} {Es : List (List Rl)} {n : Nat} (h : SB w v) (h28 : v.1 28 = w.1 28) (h29 : v.1 29 = w.1 29) (hJ : iv_J w Es n) : iv_J v Es n := fun E l h1 h2 => by
  rw [h28, h29, SB_ev h]
  exact hJ E l h1 h2
theorem K_fin {w u v : pb_W} {n : Nat} {Es : List (List Rl)} {c : Int32} (hH : iv_H w) (F1 : fr fI_jb fJ_ju w u) (hJ : iv_J u Es n) (F2 : fr fI_so fJ_so (pb_wI u 0 0 c) v) : fr fI_K fJ_K w (pb_wI v 64 0 c) ∧ iv_H (pb_wI v 64 0 c) ∧ iv_J (pb_wI v 64 0 c) Es n := by
  have G1 : fr fI_K fJ_K w u := fr_mn F1 (fun c k q => by simp only [fI_jb] at q; show _ ∨ _; omega) (fun c k q => Or.inl q)
  have G2 : fr fI_K fJ_K (pb_wI u 0 0 c) v := fr_mn F2 (fun c k q => by simp only [fI_so] at q; show _ ∨ _; omega) (fun c k q => Or.inr q)
  have G : fr fI_K fJ_K u (pb_wI v 64 0 c) := fr_I (fr_tr (fr_I (fr_rf u) (by simp [fI_K])) G2) (by simp [fI_K])
  refine ⟨fr_tr G1 G, ⟨?_, ?_, ?_⟩, ?_⟩
  · show c = v.1 0 0
    rw [F2.1 0 0 (by simp [fI_so])]
    rfl
  · have := (fr_tr G1 G).2
    rw [this 64 1 (by simp [fJ_K]), this 0 1 (by simp [fJ_K])]
    exact hH.2.1
  · have := (fr_tr G1 G).2
    rw [this 64 2 (by simp [fJ_K]), this 0 2 (by simp [fJ_K])]
    exact hH.2.2
  · exact iv_J_sb (K_SB G) (funext fun s => F2.1 28 s (by simp [fI_so])) (funext fun s => F2.1 29 s (by simp [fI_so])) hJ
theorem ite_gv (x : Int32) (w : pb_W) : (pb_bI (M_X12_gives [.ref 64, .int x] w) fun x6 w5 => some (some (Value.int x6), w5)) = some (some (.int x), pb_wI w 64 0 0) := by rw [e_X12_gives, pb_bI_some]
theorem M_isEdition (a : Int32) (w : pb_W) : M_X12_isEdition [.ref 64, .int a] w = some (some (.int (if ¬ a < 0 ∧ a < w.1 64 37 then 1 else 0)), w) := by
  rw [e_X12_isEdition]
  by_cases q : a < 0
  · rw [if_pos q, if_neg (fun z => z.1 q)]
  · rw [if_neg q]
    by_cases p : a < w.1 64 37
    · rw [if_pos p, if_pos ⟨q, p⟩]
    · rw [if_neg p, if_neg (fun z => p z.2)]
theorem lt16 (a : Int32) : a < (16 : Int32) ↔ ¬ (15 : Int32) < a := by
  rw [pn_lt, pn_lt, show (16 : Int32).toInt = 16 from rfl, show (15 : Int32).toInt = 15 from rfl]
  omega
theorem M_isKind (a : Int32) (w : pb_W) : M_X12_isKind [.int a] w = some (some (.int (if a < -1 ∨ 15 < a then 0 else 1)), w) := by
  rw [e_X12_isKind]
  by_cases q : a < -1
  · rw [if_pos q, if_pos (Or.inl q)]
  · rw [if_neg q]
    by_cases p : (15 : Int32) < a
    · rw [if_neg (fun z => (lt16 a).mp z p), if_pos (Or.inr p)]
    · rw [if_pos ((lt16 a).mpr p), if_neg (fun z => z.elim q p)]
theorem k_known1 {w : pb_W} {l : Nat} (hl : l < 200) : M_X1_isKnown [.ref 5, .int (nI l)] w = some (some (.int (if w.1 5 19 < w.1 13 l then 0 else 1)), w) := by
  rw [e_X1_isKnown, if_pos (pn_in hl (by decide)), nI_clamp (by omega)]
  by_cases q : w.1 5 19 < w.1 13 l
  · rw [if_pos q, if_pos q]
  · rw [if_neg q, if_neg q]
theorem k_known2 {w : pb_W} {n l : Nat} (hN : LN w n) (hl : l < n) : M_X12_isKnown [.ref 64, .int (nI l)] w = some (some (.int (if w.1 5 19 < w.1 13 l then 0 else 1)), w) := by
  have n2 := hN.le
  rw [e_X12_isKnown, if_pos (pn_in (show l < 200 by omega) (by decide)), nI_clamp (by omega), hN.d10, hN.g75]
  by_cases q : w.1 5 19 < w.1 13 l
  · rw [if_pos q, if_pos q]
  · rw [if_neg q, if_neg q]
theorem EI_37 {w : pb_W} {Es : List (List Rl)} (h : EI w Es) : w.1 64 37 = nI Es.length := by
  obtain ⟨k, g, b1, b2, b3, -⟩ := h
  exact b3
theorem ed_ok {Es : List (List Rl)} {E : Nat} (hE : E < Es.length) (h5 : Es.length ≤ 5) : ¬ nI E < 0 ∧ nI E < nI Es.length := ⟨nI_nlt (b := 0) (by omega) (by omega), nI_lt hE (by omega)⟩
theorem x_kind (a1 a2 a3 : Int32) (w : pb_W) {n : Nat} {Es : List (List Rl)} (hH : iv_H w) (hB : BS w n Es) (hJ : iv_J w Es n) : ∃ x w1 w2, M_X11_kind [.ref 0, .int a1, .int a2, .int a3] w = some (some (.int x), w1) ∧ M_X12_kind [.ref 64, .int a1, .int a2, .int a3] w1 = some (some (.int x), w2) ∧ fr fI_K fJ_K w w2 ∧ iv_H w2 ∧ iv_J w2 Es n := by
  have n2 := hB.2.1.le
  have e5 := BS_5 hB
  have C := e_X11_kind a1 a2 a3 w
  rw [M_hasLine, pb_bI_some, hB.2.1.n5] at C
  have R : ∀ v, SB w v → M_X12_kind [.ref 64, .int a1, .int a2, .int a3] v = _ := fun v _ => e_X12_kind a1 a2 a3 v
  have bad : ∀ (u : pb_W) (c : Int32), c ≠ 0 → fr fI_jb fJ_ju w u → iv_J u Es n → M_X11_kind [.ref 0, .int a1, .int a2, .int a3] w = pb_run T_X11_kind (82, [some (.ref 0), some (.int a1), some (.int a2), some (.int a3)], [], pb_wI u 0 0 c) → (∃ v, M_X12_kind [.ref 64, .int a1, .int a2, .int a3] (pb_wI u 0 0 c) = some (some (.int (-1 : Int32)), pb_wI v 64 0 c) ∧ fr fI_so fJ_so (pb_wI u 0 0 c) v) → ∃ x w1 w2, M_X11_kind [.ref 0, .int a1, .int a2, .int a3] w = some (some (.int x), w1) ∧ M_X12_kind [.ref 64, .int a1, .int a2, .int a3] w1 = some (some (.int x), w2) ∧ fr fI_K fJ_K w w2 ∧ iv_H w2 ∧ iv_J w2 Es n := by
    intro u c hc F hJ' h1 h2
    obtain ⟨v, h2, h3⟩ := h2
    refine ⟨-1, _, _, ?_, h2, K_fin hH F hJ' h3⟩
    rw [h1, r_X11_kind_82, if_neg (show ¬ (pb_wI u 0 0 c).1 0 0 = 0 from hc)]
  have S0 : ∀ (u : pb_W) (c : Int32), fr fI_jb fJ_ju w u → SB w (pb_wI u 0 0 c) := fun u c F => SB_tr (jb_SB F) (K_SB (fr_I (fr_rf u) (by simp [fI_K])))
  by_cases hl : ¬ a1 < 0 ∧ a1 < nI n
  · rw [if_pos hl, if_neg (show ¬ (1 : Int32) = 0 by decide)] at C
    obtain ⟨l, hln, rfl⟩ := in_of (n := n) (by omega) hl
    have R1 : ∀ v, SB w v → M_X12_kind [.ref 64, .int (nI l), .int a2, .int a3] v = if ¬ (¬ a2 < 0 ∧ a2 < nI Es.length) then some (some (.int (-1)), pb_wI v 64 0 1) else if a3 < 0 then some (some (.int (-1)), pb_wI v 64 0 1) else if (2 : Int32) < a3 then some (some (.int (-1)), pb_wI v 64 0 1) else if v.1 5 19 < v.1 13 l then some (some (.int (-1)), pb_wI v 64 0 6) else (pb_bV (M_X12_sortOut [.ref 64, .int (nI l), .int a2] v) fun w13 => (if a3 = (2 : Int32) then (if (w13.1 64 61) = (-1 : Int32) then some (some (.int (-1)), pb_wI w13 64 0 6) else (pb_run T_X12_kind (72, [some (.ref 64), none, none, some (.int a3)], [], w13))) else (pb_run T_X12_kind (72, [some (.ref 64), none, none, some (.int a3)], [], w13)))) := by
      intro v hv
      have hBv := SB_B hv hB
      rw [e_X12_kind]
      simp only [M_isLine, M_isEdition, pb_bI_some, q01, ite_ref, hBv.2.1.n7, EI_37 hBv.2.2, k_known2 hBv.2.1 hln, q10]
      rw [if_neg (fun z => z hl)]
    rcases M_judgeBy a2 hB hJ with ⟨b1, b2⟩ | ⟨E, hE, rfl, u, b2, F, J', V, -⟩
    · rw [b2, pb_bI_some, if_pos rfl] at C
      refine bad w 1 (by decide) (fr_rf w) hJ C ⟨_, ?_, fr_rf _⟩
      rw [R1 _ (S0 w 1 (fr_rf w)), if_pos b1]
    · rw [b2, pb_bI_some, if_neg (show ¬ (1 : Int32) = 0 by decide), M_outside, pb_bI_some] at C
      have eo := ed_ok hE e5
      have hBu := SB_B (jb_SB F) hB
      by_cases q : a3 < 0 ∨ (2 : Int32) < a3
      · rw [if_pos q, if_neg (show ¬ (1 : Int32) = 0 by decide)] at C
        refine bad u 1 (by decide) F J' C ⟨_, ?_, fr_rf _⟩
        rw [R1 _ (S0 u 1 F), if_neg (fun z => z eo)]
        by_cases z : a3 < 0
        · rw [if_pos z]
        · rw [if_neg z, if_pos (q.resolve_left z)]
      · rw [if_neg q, if_pos rfl, k_known1 (show l < 200 by omega), pb_bI_some] at C
        have qa : ¬ a3 < 0 := fun z => q (Or.inl z)
        have qb : ¬ (2 : Int32) < a3 := fun z => q (Or.inr z)
        by_cases kn : u.1 5 19 < u.1 13 l
        · rw [if_pos kn, if_pos rfl] at C
          refine bad u 6 (by decide) F J' C ⟨_, ?_, fr_rf _⟩
          rw [R1 _ (S0 u 6 F), if_neg (fun z => z eo), if_neg qa, if_neg qb, if_pos (show (pb_wI u 0 0 (6 : Int32)).1 5 19 < (pb_wI u 0 0 (6 : Int32)).1 13 l from kn)]
        · rw [if_neg kn, if_neg (show ¬ (1 : Int32) = 0 by decide)] at C
          have vf := vv_VF hBu hE l
          have R2 : ∀ c : Int32, ∃ v, M_X12_sortOut [.ref 64, .int (nI l), .int (nI E)] (pb_wI u 0 0 c) = some (none, v) ∧ v.1 64 61 = (vv u Es E l).1 ∧ v.1 64 62 = (vv u Es E l).2.1 ∧ v.1 64 63 = (vv u Es E l).2.2 ∧ fr fI_so fJ_so (pb_wI u 0 0 c) v := fun c => by
            have := mx_sort (w := pb_wI u 0 0 c) (E := E) (l := l) (SB_B (S0 u c F) hB) hln hE
            rw [SB_vv (w := u) (v := pb_wI u 0 0 c) (K_SB (fr_I (fr_rf u) (by simp [fI_K])))] at this
            exact this
          have R3 : ∀ c : Int32, M_X12_kind [.ref 64, .int (nI l), .int (nI E), .int a3] (pb_wI u 0 0 c) = _ := fun c => (R1 _ (S0 u c F)).trans (by rw [if_neg (fun z => z eo), if_neg qa, if_neg qb, if_neg (show ¬ (pb_wI u 0 0 c).1 5 19 < (pb_wI u 0 0 c).1 13 l from kn)])
          have fin : ∀ x, M_X11_kind [.ref 0, .int (nI l), .int (nI E), .int a3] w = some (some (.int x), pb_wI u 0 0 0) → (∃ v, M_X12_kind [.ref 64, .int (nI l), .int (nI E), .int a3] (pb_wI u 0 0 0) = some (some (.int x), pb_wI v 64 0 0) ∧ fr fI_so fJ_so (pb_wI u 0 0 0) v) → ∃ x w1 w2, M_X11_kind [.ref 0, .int (nI l), .int (nI E), .int a3] w = some (some (.int x), w1) ∧ M_X12_kind [.ref 64, .int (nI l), .int (nI E), .int a3] w1 = some (some (.int x), w2) ∧ fr fI_K fJ_K w w2 ∧ iv_H w2 ∧ iv_J w2 Es n := by
            intro x h1 h2
            obtain ⟨v, h2, h3⟩ := h2
            exact ⟨x, _, _, h1, h2, K_fin hH F J' h3⟩
          have Vl := V l hln
          by_cases z2 : a3 = 2
          · rw [if_pos z2, M_ruleOf0 (by omega) (by omega) vf Vl, pb_bI_some] at C
            by_cases zr : (vv u Es E l).1 = -1
            · rw [if_pos zr] at C
              obtain ⟨v, v1, v2, v3, v4, v5⟩ := R2 6
              refine bad u 6 (by decide) F J' C ⟨v, ?_, v5⟩
              rw [R3, v1, pb_bV_some, if_pos z2, if_pos (v2.trans zr)]
            · rw [if_neg zr, r_X11_kind_82, if_pos (show (pb_wI u 0 0 (0 : Int32)).1 0 0 = 0 from rfl), if_pos z2, M_ruleOf0 (w := pb_wI u 0 0 0) (by omega) (by omega) vf Vl, pb_bI_some] at C
              obtain ⟨v, v1, v2, v3, v4, v5⟩ := R2 0
              refine fin _ C ⟨v, ?_, v5⟩
              rw [R3, v1, pb_bV_some, if_pos z2, if_neg (fun y => zr (v2.symm.trans y)), r_X12_kind_72, z2, if_neg (show ¬ (2 : Int32) = 0 by decide), if_neg (show ¬ (2 : Int32) = 1 by decide), ite_gv, v2]
          · rw [if_neg z2, r_X11_kind_82, if_pos (show (pb_wI u 0 0 (0 : Int32)).1 0 0 = 0 from rfl), if_neg z2, M_kindOf0 (w := pb_wI u 0 0 0) (by omega) (by omega) vf Vl, M_unitsOf0 (w := pb_wI u 0 0 0) (by omega) (by omega) vf Vl, pb_bI_some, pb_bI_some] at C
            obtain ⟨v, v1, v2, v3, v4, v5⟩ := R2 0
            obtain ⟨m, hm, rfl⟩ := pn_of (N := 2) qa qb (by decide)
            have m01 : m = 0 ∨ m = 1 := by
              have : m ≠ 2 := fun y => z2 (by rw [y]; rfl)
              omega
            rcases m01 with rfl | rfl
            · rw [if_pos (show nI 0 = (0 : Int32) from rfl)] at C
              refine fin _ C ⟨v, ?_, v5⟩
              rw [R3, v1, pb_bV_some, if_neg z2, r_X12_kind_72, if_pos (show nI 0 = (0 : Int32) from rfl), ite_gv, v3]
            · rw [if_neg (show ¬ nI 1 = (0 : Int32) by decide)] at C
              refine fin _ C ⟨v, ?_, v5⟩
              rw [R3, v1, pb_bV_some, if_neg z2, r_X12_kind_72, if_neg (show ¬ nI 1 = (0 : Int32) by decide), if_pos (show nI 1 = (1 : Int32) from rfl), ite_gv, v4]
  · rw [if_neg hl, if_pos rfl] at C
    refine bad w 1 (by decide) (fr_rf w) hJ C ⟨_, ?_, fr_rf _⟩
    have hBv := SB_B (S0 w 1 (fr_rf w)) hB
    rw [e_X12_kind, M_isLine, pb_bI_some, hBv.2.1.n7, if_neg hl, if_pos rfl, ite_ref]
