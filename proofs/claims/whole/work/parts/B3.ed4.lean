/-! ===== EDITION: the agreement ===== -/
def EdI (w : pb_W) (k g E : Nat) (rs : List Rl) : Prop := rs.length ≤ 30 ∧ (rcs rs).length ≤ 600 ∧ w.1 27 E = nI (rcs rs).length ∧ (∀ i, i < (rcs rs).length → w.2 26 (600 * E + i) = (rcs rs).getD i 0) ∧ w.1 84 E = nI rs.length ∧ ∀ r, r < rs.length → RRep w (w.1 98) (w.1 99) (30 * E + r) (rs.getD r dR) k g
/-- the editions of both -/
def EI (w : pb_W) (Es : List (List Rl)) : Prop := ∃ k g, Es.length ≤ 5 ∧ w.1 25 1 = nI Es.length ∧ w.1 64 37 = nI Es.length ∧ w.1 64 39 = nI k ∧ w.1 64 38 = nI g ∧ k ≤ 300 * Es.length ∧ g ≤ 600 * Es.length ∧ ∀ E, E < Es.length → EdI w k g E (Es.getD E [])
/-- what was last at fault -/
def iv_Q (w : pb_W) : Prop := (w.1 21 15 = 0 ∧ w.1 64 34 = -1 ∧ w.1 64 35 = -1 ∧ w.1 64 58 = -1) ∨ (w.1 21 15 = 1 ∧ w.1 64 34 = w.1 21 16 ∧ w.1 64 35 = w.1 21 17 ∧ w.1 64 58 = w.1 21 18)
abbrev fI_E : Nat → Nat → Prop := fun c k => (c = 0 ∧ k = 0) ∨ c = 21 ∨ c = 23 ∨ (c = 25 ∧ k = 1) ∨ c = 27 ∨ (c = 64 ∧ (k = 0 ∨ (28 ≤ k ∧ k ≤ 39) ∨ k = 58)) ∨ (83 ≤ c ∧ c ≤ 101)
abbrev fJ_E : Nat → Nat → Prop := fun c _ => c = 21 ∨ c = 24 ∨ c = 26 ∨ c = 95
theorem EI_up {w w' : pb_W} {Es : List (List Rl)} (h : EI w Es) (h1 : ∀ c k, (c = 25 ∧ k = 1) ∨ c = 27 ∨ (c = 64 ∧ 37 ≤ k ∧ k ≤ 39) ∨ (84 ≤ c ∧ c ≤ 99) → w'.1 c k = w.1 c k) (h2 : ∀ c k, c = 26 ∨ c = 95 → w'.2 c k = w.2 c k) : EI w' Es := by
  obtain ⟨k, g, a1, a2, a3, a4, a5, a6, a7, a8⟩ := h
  refine ⟨k, g, a1, (h1 25 1 (by omega)).trans a2, (h1 64 37 (by omega)).trans a3, (h1 64 39 (by omega)).trans a4, (h1 64 38 (by omega)).trans a5, a6, a7, fun E hE => ?_⟩
  obtain ⟨b1, b2, b3, b4, b5, b6⟩ := a8 E hE
  refine ⟨b1, b2, (h1 27 E (by omega)).trans b3, fun i hi => (h2 26 _ (by omega)).trans (b4 i hi), (h1 84 E (by omega)).trans b5, fun r hr => ?_⟩
  exact RRep_fr (b6 r hr) (fun c c1 c2 => h1 c _ (by omega)) (fun c j c1 c2 _ => h1 c j (by omega)) (fun j _ => h2 95 j (by omega)) (Nat.le_refl _) (Nat.le_refl _) (fun j _ => ⟨h1 98 j (by omega), h1 99 j (by omega)⟩)
theorem qw_id (w : pb_W) : w = qw w (w.1 21) (w.1 23) (w.2 24) (w.2 21 6) := by
  unfold qw
  rw [pw_Fid, pw_Fid]
  refine Prod.ext rfl (funext fun d => ?_)
  rw [pw_L2]
  by_cases q : d = 21
  · subst q
    rw [if_pos rfl]
    funext j
    rw [pu_atL]
    by_cases z : j = 6
    · subst z; rw [if_pos rfl]
    · rw [if_neg z]; rfl
  · rw [if_neg q, pw_G2]
    by_cases z : d = 24
    · subst z; rw [if_pos rfl]
    · rw [if_neg z]
theorem qw_fr (w : pb_W) (A WT : Nat → Int32) (CD : Nat → Int64) (v : Int64) : fr fI_E fJ_E w (qw w A WT CD v) := by
  unfold qw
  exact fr_L (fr_G (fr_F (fr_F (fr_rf w) (fun k => by simp [fI_E])) (fun k => by simp [fI_E])) (fun k => by simp [fJ_E])) (by simp [fJ_E])
abbrev lo6 : Nat → Nat → Prop := fun c _ => c < 64
theorem qw_lo (w : pb_W) (A WT : Nat → Int32) (CD : Nat → Int64) (v : Int64) : fr lo6 lo6 w (qw w A WT CD v) := by
  unfold qw
  exact fr_L (fr_G (fr_F (fr_F (fr_rf w) (fun k => by simp [lo6])) (fun k => by simp [lo6])) (fun k => by simp [lo6])) (by simp [lo6])
theorem FE_fr {kE gE E : Nat} {u u' : pb_W} (h : FE kE gE E u u') : fr fI_E fJ_E u u' := by
  refine ⟨fun c k q => h.1 c k (fun z => q ?_), fun c k q => h.2 c k (fun z => q ?_)⟩
  · unfold FEi at z
    show _ ∨ _
    omega
  · show _ ∨ _
    omega
/-- the class reads the text: it comes to an end -/
theorem cl_read {w : pb_W} {n : Nat} (hn : n ≤ 600) (hY : iv_Y w) : ∃ w0 su br te, M_X5_readText [.ref 21, .int (nI n)] w = crun 0 w0 ∧ CW w (w.1 22) n 0 w0 0 su br te [] [] 0 := by
  have h := qw_id w
  have W : pb_wI (pb_wI (pb_wI (pb_wI (pb_wI (pb_wI (pb_wI (pb_wI w 21 2 (nI n)) 21 5 (0 : Int32)) 21 7 (0 : Int32)) 21 11 (0 : Int32)) 21 13 (0 : Int32)) 21 16 (0 : Int32)) 21 17 (-1 : Int32)) 21 18 (0 : Int32) = qw w (upd (upd (upd (upd (upd (upd (upd (upd (w.1 21) 2 (nI n)) 5 0) 7 0) 11 0) 13 0) 16 0) 17 (-1)) 18 0) (w.1 23) (w.2 24) (w.2 21 6) := by
    rw [show pb_wI w 21 2 (nI n) = qw w (upd (w.1 21) 2 (nI n)) (w.1 23) (w.2 24) (w.2 21 6) by
      conv => lhs; rw [h]
      rw [qw_A], qw_A, qw_A, qw_A, qw_A, qw_A, qw_A, qw_A]
  generalize hA : upd (upd (upd (upd (upd (upd (upd (upd (w.1 21) 2 (nI n)) 5 0) 7 0) 11 0) 13 0) 16 0) 17 (-1)) 18 0 = A at W
  have A2 : A 2 = nI n := by rw [← hA]; rfl
  have A5 : A 5 = nI 0 := by rw [← hA]; rfl
  obtain ⟨v', z1, z2, z3⟩ := cx_next (b := qw w A (w.1 23) (w.2 24) (w.2 21 6)) (T := w.1 22) hn A2 rfl hY (A 3) (A 4) (w.2 21 6) (Nat.zero_le n)
  rw [← A5, ← qw_self, qw_r] at z1
  refine ⟨qw w (upd (upd (upd A 3 (nI (tK (w.1 22) n 0))) 4 (nI (tS (w.1 22) n 0))) 5 (nI (tE (w.1 22) n 0))) (w.1 23) (w.2 24) v', A 8, A 9, A 14, ?_, ⟨(upd (upd (upd A 3 (nI (tK (w.1 22) n 0))) 4 (nI (tS (w.1 22) n 0))) 5 (nI (tE (w.1 22) n 0))), w.1 23, w.2 24, v', rfl, ⟨rfl, rfl, rfl, z2, z3⟩, A2, ?_, rfl, rfl, rfl, ⟨?_, Nat.zero_le _, fun i hi => absurd hi (Nat.not_lt_zero i)⟩, ⟨?_, Nat.zero_le _, fun i hi => absurd hi (Nat.not_lt_zero i)⟩, ?_, ?_, ?_⟩⟩
  · rw [e_X5_readText, show pb_min (nI n) (600 : Int32) = nI n by rw [show (600 : Int32) = nI 600 from rfl, pn_min (by omega) (by decide), Nat.min_eq_left hn], W]
    exact rd_50 (i := 0) (by omega) z1
  all_goals (rw [← hA]; rfl)
theorem x_edition (a1 : Int32) (w : pb_W) (Es : List (List Rl)) (hH : iv_H w) (hA : iv_A w) (hY : iv_Y w) (hQ : iv_Q w) (hE : EI w Es) : ∃ x w1 w2, M_X11_edition [.ref 0, .int a1] w = some (some (.int x), w1) ∧ M_X12_edition [.ref 64, .int a1] w1 = some (some (.int x), w2) ∧ fr fI_E fJ_E w w2 ∧ iv_H w2 ∧ iv_A w2 ∧ iv_Y w2 ∧ iv_Q w2 ∧ ∃ Es', EI w2 Es' ∧ (Es' = Es ∨ ∃ rs, Es' = Es ++ [rs]) := by
  have hA' := hA
  have hE' := hE
  obtain ⟨n0, hn0, t1, t2, t3⟩ := hA
  obtain ⟨kE, gE, a_1, a_2, a_3, a_4, a_5, a_6, a_7, a_8⟩ := hE
  have fr1 : ∀ (x y : Int32) , fr fI_E fJ_E w (pb_wI (pb_wI w 0 0 x) 64 0 y) := fun x y => fr_I (fr_I (fr_rf w) (by simp [fI_E])) (by simp [fI_E])
  have C := e_X11_edition a1 w
  rw [M_outside, pb_bI_some, t1] at C
  have bad : ∀ c : Int32, c ≠ 0 → M_X11_edition [.ref 0, .int a1] w = pb_run T_X11_edition (63, [some (.ref 0), none], [], pb_wI w 0 0 c) → M_X12_edition [.ref 64, .int a1] (pb_wI w 0 0 c) = some (some (.int (-1 : Int32)), pb_wI (pb_wI w 0 0 c) 64 0 c) → ∃ x w1 w2, M_X11_edition [.ref 0, .int a1] w = some (some (.int x), w1) ∧ M_X12_edition [.ref 64, .int a1] w1 = some (some (.int x), w2) ∧ fr fI_E fJ_E w w2 ∧ iv_H w2 ∧ iv_A w2 ∧ iv_Y w2 ∧ iv_Q w2 ∧ ∃ Es', EI w2 Es' ∧ (Es' = Es ∨ ∃ rs, Es' = Es ++ [rs]) := by
    intro c hc h1 h2
    refine ⟨-1, pb_wI w 0 0 c, pb_wI (pb_wI w 0 0 c) 64 0 c, ?_, h2, fr1 c c, ⟨rfl, hH.2⟩, ⟨n0, hn0, t1, t2, t3⟩, hY, hQ, Es, ⟨kE, gE, a_1, a_2, a_3, a_4, a_5, a_6, a_7, a_8⟩, Or.inl rfl⟩
    rw [h1, r_X11_edition_63, if_neg (show ¬ (pb_wI w 0 0 c).1 0 0 = 0 from hc)]
  by_cases q : a1 < 0 ∨ nI n0 < a1
  · rw [if_pos q, if_neg (show ¬ (1 : Int32) = 0 by decide)] at C
    refine bad 1 (by decide) C ?_
    rw [e_X12_edition, show (pb_wI w 0 0 (1 : Int32)).1 64 28 = nI n0 from t2]
    by_cases z : a1 < 0
    · rw [if_pos z, e_X12_refuse, pb_bI_some]
    · rw [if_neg z, if_pos (q.resolve_left z), e_X12_refuse, pb_bI_some]
  · rw [if_neg q, if_pos rfl, a_2] at C
    have q1 : ¬ a1 < 0 := fun z => q (Or.inl z)
    have q2 : ¬ nI n0 < a1 := fun z => q (Or.inr z)
    obtain ⟨n, hn, rfl⟩ := pn_of q1 q2 (by omega)
    by_cases q5 : Es.length = 5
    · rw [if_neg (show ¬ nI Es.length < (5 : Int32) from nI_nlt (b := 5) (by omega) (by omega))] at C
      refine bad 4 (by decide) C ?_
      rw [e_X12_edition, if_neg q1, show (pb_wI w 0 0 (4 : Int32)).1 64 28 = nI n0 from t2, if_neg q2, show (pb_wI w 0 0 (4 : Int32)).1 64 37 = nI Es.length from a_3, if_pos (show nI Es.length = (5 : Int32) by rw [q5]; rfl), e_X12_refuse, pb_bI_some]
    · rw [if_pos (show nI Es.length < (5 : Int32) from nI_lt (b := 5) (by omega) (by decide))] at C
      obtain ⟨w0, su, br, te, c0, hCW⟩ := cl_read (w := w) (show n ≤ 600 by omega) hY
      rw [c0] at C
      have ER : ∀ u, u.1 82 = w.1 22 → u.1 64 28 = nI n0 → u.1 64 37 = nI Es.length → u.1 64 38 = nI gE → u.1 64 39 = nI kE → EdOut w u Es.length kE gE (crun 0 w0) (M_X12_edition [.ref 64, .int (nI n)] u) := fun u b1 b2 b3 b4 b5 => ed_ref rfl hY hCW b1 b2 hn hn0 (by omega) (by omega) (by omega) b3 b4 b5
      have E5 : pb_in (nI Es.length) 5 := pn_in (by omega) (by decide)
      have Ec : (nI Es.length).toNatClampNeg = Es.length := nI_clamp (by omega)
      rcases ER w t3 t2 a_3 a_5 a_4 with ⟨kd, p, u', b1, b2, ⟨A, WT, CD, v, f1, f2, f3, f4, f5, f6⟩, -⟩ | ⟨rs, k', g', u', ⟨A, WT, CD, v, f1, f2, f3, f4, f5, f6, f7⟩, -⟩
      · rw [f1, pb_bI_some, if_pos rfl, r_X11_edition_63, if_neg (show ¬ (pb_wI (qw w A WT CD v) 0 0 (9 : Int32)).1 0 0 = 0 by show ¬ (9 : Int32) = 0; decide)] at C
        rcases ER (pb_wI (qw w A WT CD v) 0 0 9) t3 t2 a_3 a_5 a_4 with ⟨kd', p', u2, d1, d2, ⟨A', WT', CD', v', g1, g2, g3, g4, g5, g6⟩, d4, d5, d6, d7, d8, d9, d10, d11, d12, d13⟩ | ⟨rs', k2, g2', u2, ⟨A', WT', CD', v', g1, -⟩, -⟩
        · have qe : qw w A WT CD v = qw w A' WT' CD' v' := by
            rw [f1] at g1
            injection g1 with g1
            injection g1
          have Ae : A = A' := congrArg (fun u : pb_W => u.1 21) qe
          subst Ae
          have F := fr_tr (fr_I (qw_fr w A WT CD v) (c := 0) (k := 0) (v := 9) (by simp [fI_E])) (FE_fr d13)
          have z22 : u2.1 22 = w.1 22 := fr_1 F 22 (fun k => by simp [fI_E])
          have z21 : ∀ j, u2.1 21 j = A j := fun j => d13.1 21 j (fun y => by unfold FEi at y; omega)
          refine ⟨-1, _, u2, C, d4, F, ⟨?_, ?_, ?_⟩, ⟨0, Nat.zero_le _, (z21 1).trans f6, d12, ?_⟩, ?_, Or.inr ⟨(z21 15).trans f5, ?_, ?_, ?_⟩, Es, ?_, Or.inl rfl⟩
          · rw [d5]; exact ((d13.1 0 0 (fun y => by unfold FEi at y; omega)).symm)
          · exact (F.2 64 1 (by simp [fJ_E])).trans (hH.2.1.trans (F.2 0 1 (by simp [fJ_E])).symm)
          · exact (F.2 64 2 (by simp [fJ_E])).trans (hH.2.2.trans (F.2 0 2 (by simp [fJ_E])).symm)
          · rw [z22, ← t3]; exact fr_1 F 82 (fun k => by simp [fI_E])
          · intro k; rw [z22]; exact hY k
          · rw [d6, z21, g2]
          · rw [d7, z21, g3]
          · rw [d8, z21, g4]
          · refine ⟨kE, gE, a_1, (d13.1 25 1 (fun y => by unfold FEi at y; omega)).trans a_2, d9, d11, d10, a_6, a_7, fun E hE => ?_⟩
            obtain ⟨e1, e2, e3, e4, e5, e6⟩ := a_8 E hE
            refine ⟨e1, e2, (d13.1 27 E (fun y => by unfold FEi at y; omega)).trans e3, fun i hi => (d13.2 26 _ (fun y => by omega)).trans (e4 i hi), (d13.1 84 E (fun y => by unfold FEi at y; omega)).trans e5, fun r hr => ?_⟩
            have HL : fr lo6 lo6 w (pb_wI (qw w A WT CD v) 0 0 9) := fr_I (qw_lo w A WT CD v) (by simp [lo6])
            exact RRep_fr (e6 r hr) (fun c c1 c2 => (d13.1 c (30 * E + r) (fun y => by unfold FEi at y; omega)).trans (HL.1 c _ (by omega))) (fun c j c1 c2 hj => (d13.1 c j (fun y => by unfold FEi at y; omega)).trans (HL.1 c _ (by omega))) (fun j hj => (d13.2 95 j (fun y => by omega)).trans (HL.2 95 j (by simp [lo6]))) (Nat.le_refl _) (Nat.le_refl _) (fun j hj => ⟨(d13.1 98 j (fun y => by unfold FEi at y; omega)).trans (HL.1 98 j (by simp [lo6])), (d13.1 99 j (fun y => by unfold FEi at y; omega)).trans (HL.1 99 j (by simp [lo6]))⟩)
        · rw [f1] at g1
          injection g1 with g1
          injection g1 with g1
          injection g1 with g1
          injection g1 with g1
          exact absurd g1 (by decide)
      · rw [f1, pb_bI_some, if_neg (show ¬ (1 : Int32) = 0 by decide), r_X11_edition_63, if_pos (show (pb_wI (qw w A WT CD v) 0 0 (0 : Int32)).1 0 0 = 0 from rfl), e_X0_addEdition_24, show (pb_wI (qw w A WT CD v) 0 0 (0 : Int32)).1 25 1 = nI Es.length from a_2, show (pb_wI (qw w A WT CD v) 0 0 (0 : Int32)).1 21 13 = nI (rcs rs).length from f2.1, show nI Es.length * (600 : Int32) = nI (600 * Es.length) by rw [show (600 : Int32) = nI 600 from rfl, pn_mul, Nat.mul_comm]] at C
        have L600 := f2.2.1
        rw [if_pos ⟨by decide, by rw [nI_toInt (by omega)]; omega, by rw [nI_toInt (by omega)]; omega, by rw [nI_toInt (by omega), show (0 : Int32).toInt = 0 from rfl]; omega, by rw [nI_toInt (by omega), nI_toInt (by omega)]; omega⟩, if_pos E5, Ec, nI_1, show nI (Es.length + 1) - (1 : Int32) = nI Es.length from nI_subN (a := Es.length + 1) (b := 1) (by omega), pb_bI_some, nI_clamp (show 600 * Es.length < 2 ^ 31 by omega), nI_clamp (show (rcs rs).length < 2 ^ 31 by omega), show ((0 : Int32)).toNatClampNeg = 0 from rfl] at C
        rcases ER (pb_wI (pb_wI (pb_wG (pb_wI (qw w A WT CD v) 0 0 0) 26 (va_cpy ((pb_wI (qw w A WT CD v) 0 0 (0 : Int32)).2 24) ((pb_wI (qw w A WT CD v) 0 0 (0 : Int32)).2 26) 0 (600 * Es.length) (rcs rs).length)) 27 Es.length (nI (rcs rs).length)) 25 1 (nI (Es.length + 1))) t3 t2 a_3 a_5 a_4 with ⟨kd', p', u2, d1, d2, ⟨A', WT', CD', v', g1, -⟩, -⟩ | ⟨rs', k2, g2, u2, ⟨A', WT', CD', v', g1, g2', g3, g4, g5, g6, g7⟩, d4, d5, d6, d7, d8, d9, d10, d11, d12, d14, d15, d16, d17, d18, d19, d20, d21, d13⟩
        · rw [f1] at g1
          injection g1 with g1
          injection g1 with g1
          injection g1 with g1
          injection g1 with g1
          exact absurd g1 (by decide)
        · have qe : qw w A WT CD v = qw w A' WT' CD' v' := by
            rw [f1] at g1
            injection g1 with g1
            injection g1
          have Ae : A = A' := congrArg (fun u : pb_W => u.1 21) qe
          have Ce : CD = CD' := congrArg (fun u : pb_W => u.2 24) qe
          subst Ae Ce
          have le : (rcs rs).length = (rcs rs').length := (nI_eq (by omega) (by omega)).mp (f2.1.symm.trans g2'.1)
          have F := fr_tr (fr_I (fr_I (fr_G (fr_I (qw_fr w A WT CD v) (c := 0) (k := 0) (v := 0) (by simp [fI_E])) (c := 26) (f := va_cpy ((pb_wI (qw w A WT CD v) 0 0 (0 : Int32)).2 24) ((pb_wI (qw w A WT CD v) 0 0 (0 : Int32)).2 26) 0 (600 * Es.length) (rcs rs).length) (fun k => by simp [fJ_E])) (c := 27) (k := Es.length) (v := nI (rcs rs).length) (by simp [fI_E])) (c := 25) (k := 1) (v := nI (Es.length + 1)) (by simp [fI_E])) (FE_fr d13)
          have z22 : u2.1 22 = w.1 22 := fr_1 F 22 (fun k => by simp [fI_E])
          have z21 : ∀ j, u2.1 21 j = A j := fun j => d13.1 21 j (fun y => by unfold FEi at y; omega)
          have z26 : ∀ j, u2.2 26 j = if 600 * Es.length ≤ j ∧ j < 600 * Es.length + (rcs rs).length then CD (0 + (j - 600 * Es.length)) else w.2 26 j := fun j => d13.2 26 j (fun y => by omega)
          have z27 : ∀ j, u2.1 27 j = if j = Es.length then nI (rcs rs).length else w.1 27 j := fun j => d13.1 27 j (fun y => by unfold FEi at y; omega)
          have lE : (Es ++ [rs']).length = Es.length + 1 := by rw [List.length_append, List.length_singleton]
          refine ⟨nI Es.length, _, u2, C, d4, F, ⟨?_, ?_, ?_⟩, ⟨0, Nat.zero_le _, (z21 1).trans f7, d12, ?_⟩, ?_, Or.inr ⟨(z21 15).trans f6, ?_, ?_, ?_⟩, Es ++ [rs'], ⟨k2, g2, ?_, ?_, ?_, d11, d10, ?_, ?_, fun E hE => ?_⟩, Or.inr ⟨rs', rfl⟩⟩
          · rw [d5]; exact ((d13.1 0 0 (fun y => by unfold FEi at y; omega)).symm)
          · exact (F.2 64 1 (by simp [fJ_E])).trans (hH.2.1.trans (F.2 0 1 (by simp [fJ_E])).symm)
          · exact (F.2 64 2 (by simp [fJ_E])).trans (hH.2.2.trans (F.2 0 2 (by simp [fJ_E])).symm)
          · rw [z22, ← t3]; exact fr_1 F 82 (fun k => by simp [fI_E])
          · intro k; rw [z22]; exact hY k
          · rw [d6, z21, f3]
          · rw [d7, z21, f4]
          · rw [d8, z21, g5]
          · omega
          · rw [lE]; exact d13.1 25 1 (fun y => by unfold FEi at y; omega)
          · rw [lE]; exact d9
          · omega
          · omega
          · rw [lE] at hE
            by_cases z : E < Es.length
            · rw [gL1 _ _ _ z]
              obtain ⟨e1, e2, e3, e4, e5, e6⟩ := a_8 E z
              refine ⟨e1, e2, (z27 E).trans ((if_neg (by omega)).trans e3), fun i hi => (z26 _).trans ((if_neg (by omega)).trans (e4 i hi)), (d13.1 84 E (fun y => by unfold FEi at y; omega)).trans e5, fun r hr => ?_⟩
              have HL := fr_I (fr_I (fr_G (fr_I (qw_lo w A WT CD v) (c := 0) (k := 0) (v := 0) (by simp [lo6])) (c := 26) (f := va_cpy ((pb_wI (qw w A WT CD v) 0 0 (0 : Int32)).2 24) ((pb_wI (qw w A WT CD v) 0 0 (0 : Int32)).2 26) 0 (600 * Es.length) (rcs rs).length) (fun k => by simp [lo6])) (c := 27) (k := Es.length) (v := nI (rcs rs).length) (by simp [lo6])) (c := 25) (k := 1) (v := nI (Es.length + 1)) (by simp [lo6])
              exact RRep_fr (e6 r hr) (fun c c1 c2 => (d13.1 c (30 * E + r) (fun y => by unfold FEi at y; omega)).trans (HL.1 c _ (by omega))) (fun c j c1 c2 hj => (d13.1 c j (fun y => by unfold FEi at y; omega)).trans (HL.1 c _ (by omega))) (fun j hj => (d13.2 95 j (fun y => by omega)).trans (HL.2 95 j (by simp [lo6]))) (by omega) (by omega) (fun j hj => ⟨(d13.1 98 j (fun y => by unfold FEi at y; omega)).trans (HL.1 98 j (by simp [lo6])), (d13.1 99 j (fun y => by unfold FEi at y; omega)).trans (HL.1 99 j (by simp [lo6]))⟩)
            · have : E = Es.length := by omega
              subst this
              rw [gL2 _ _ _ (Nat.le_refl _), Nat.sub_self]
              refine ⟨d18, d19, ?_, ?_, d20, d21⟩
              · show u2.1 27 Es.length = nI (rcs rs').length
                rw [z27, if_pos rfl, le]
              · intro i hi
                have hi : i < (rcs rs').length := hi
                rw [z26, if_pos (by omega), show 0 + (600 * Es.length + i - 600 * Es.length) = i by omega]
                exact g2'.2.2 i hi
