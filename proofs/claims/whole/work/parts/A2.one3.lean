theorem tk_m12 {b : pb_W} {T : Nat → Int32} {n e : Nat} {A WT : Nat → Int32} {CD : Nat → Int64} {v : Int64} {md : Nat} (hT : CT T n e A v) (h7 : A 7 = nI md) (hmd : md = 1 ∨ md = 2) (h16 : tK T n e ≠ 16) (hno : ¬ (md = 1 ∧ tK T n e = 6)) : M_X5_takeToken [.ref 21] (qw b A WT CD v) = pb_bV (pb_run T_X5_takeAtOne (31, [some (.ref 21)], [], qw b A WT CD v)) fun w => some (none, w) := by
  have klt := tK_lt T n e
  rw [tk_mode hT h7 (by omega) (tk_lt_of T n e) h16, if_neg (by omega), if_pos hmd, e_X5_takeAtOne, show (qw b A WT CD v).1 21 3 = nI (tK T n e) from hT.1, show (qw b A WT CD v).1 21 7 = nI md from h7]
  by_cases q : tK T n e = 6
  · rw [if_pos (show nI (tK T n e) = (6 : Int32) by rw [q]; rfl), if_neg (show ¬ nI md = (1 : Int32) from fun y => hno ⟨(nI_eq (b := 1) (by omega) (by decide)).mp y, q⟩)]
  · rw [if_neg (show ¬ nI (tK T n e) = (6 : Int32) from fun y => q ((nI_eq (b := 6) (by omega) (by decide)).mp y))]
/-- not -/
theorem c_not {cb : pb_W} {T : Nat → Int32} {n e i : Nat} {w : pb_W} {su br te : Int32} {bs : List Nat} {C : List Int64} {ru : Nat} (hn : n ≤ 600) (hc22 : cb.1 22 = T) (hb : ∀ k, bY (T k)) (he : e ≤ n) (hi : i ≤ e) (hbl : bs.length ≤ 2) (h6 : tK T n e = 6) (h : CW cb T n e w 1 su br te bs C ru) : ∃ w', crun i w = crun (i + 1) w' ∧ CW cb T n (tE T n e) w' 2 su br te (30 :: bs) C ru := by
  obtain ⟨A, WT, CD, v, rfl, hT, b2, b7, b8, b9, b14, bK, bC, b16, b17, b18⟩ := h
  obtain ⟨w', c1, c2, -⟩ := crun_go (b := cb) (i := i) (md := 2) (su := su) (br := br) (te := te) (s := 30 :: bs) (c := C) (ru := ru) (w := qw cb A WT CD v) hn hc22 hb he hi (by omega) (by
    rw [tk_mode hT b7 (by decide) (tk_lt_of T n e) (by omega), if_neg (by decide), if_pos (Or.inl rfl)]
    refine TO_bV ⟨upd (upd A 11 (nI (bs.length + 1))) 7 (nI 2), upd WT bs.length (nI 30), CD, v, ?_, hT, b2, rfl, b8, b9, b14, SK_A (SK_push bK (by omega) 30) rfl, SC_A bC rfl, b16, b17, b18⟩
    rw [e_X5_takeAtOne, show (qw cb A WT CD v).1 21 3 = nI (tK T n e) from hT.1, h6, if_pos (show nI 6 = (6 : Int32) from rfl), show (qw cb A WT CD v).1 21 7 = nI 1 from b7, if_pos (show nI 1 = (1 : Int32) from rfl), show (30 : Int32) = nI 30 from rfl, M_hold bK (by omega), pb_bV_some, qw_A]
    rfl)
  exact ⟨w', c1, c2⟩
/-- word, and its name -/
theorem c_word {cb : pb_W} {T : Nat → Int32} {n e i : Nat} {w : pb_W} {md : Nat} {su br te : Int32} {s : List Nat} {C : List Int64} {ru : Nat} (hn : n ≤ 600) (hc22 : cb.1 22 = T) (hb : ∀ k, bY (T k)) (he : e ≤ n) (hi : i ≤ e) (hmd : md = 1 ∨ md = 2) (h7 : tK T n e = 7) (h : CW cb T n e w md su br te s C ru) : ∃ w', crun i w = crun (i + 1) w' ∧ CW cb T n (tE T n e) w' 3 su br te s C ru := by
  obtain ⟨A, WT, CD, v, rfl, hT, b2, b7, b8, b9, b14, bK, bC, b16, b17, b18⟩ := h
  obtain ⟨w', c1, c2, -⟩ := crun_go (b := cb) (i := i) (md := 3) (su := su) (br := br) (te := te) (s := s) (c := C) (ru := ru) (w := qw cb A WT CD v) hn hc22 hb he hi (by omega) (by
    rw [tk_m12 hT b7 hmd (by omega) (by omega)]
    refine TO_bV ⟨upd A 7 (nI 3), WT, CD, v, ?_, hT, b2, rfl, b8, b9, b14, SK_A bK rfl, SC_A bC rfl, b16, b17, b18⟩
    rw [r_X5_takeAtOne_31, show (qw cb A WT CD v).1 21 3 = nI (tK T n e) from hT.1, h7, if_pos (show nI 7 = (7 : Int32) from rfl), qw_A]
    rfl)
  exact ⟨w', c1, c2⟩
theorem c_name {cb : pb_W} {T : Nat → Int32} {n e i : Nat} {w : pb_W} {su br te : Int32} {s : List Nat} {C : List Int64} {ru : Nat} (hn : n ≤ 600) (hc22 : cb.1 22 = T) (hb : ∀ k, bY (T k)) (he : e ≤ n) (hi : i ≤ e) (hC : C.length ≤ e) (h : CW cb T n e w 3 su br te s C ru) : (13 < tK T n e → Fail cb (crun i w) (fk (tK T n e) 2) (tS T n e)) ∧ (tK T n e ≤ 13 → 8 < tE T n e - tS T n e → Fail cb (crun i w) 3 (tS T n e)) ∧ (tK T n e ≤ 13 → tE T n e - tS T n e ≤ 8 → tV T n e < 2 ^ 40 ∧ ∃ w', crun i w = crun (i + 1) w' ∧ CW cb T n (tE T n e) w' 4 su br te s (C ++ [stp 6 (tV T n e)]) ru) := by
  obtain ⟨A, WT, CD, v, rfl, hT, b2, b7, b8, b9, b14, bK, bC, b16, b17, b18⟩ := h
  have klt := tK_lt T n e
  have e3 : (qw cb A WT CD v).1 21 3 = nI (tK T n e) := hT.1
  have md3 : tK T n e ≠ 16 → M_X5_takeToken [.ref 21] (qw cb A WT CD v) = pb_bV (M_X5_takeName [.ref 21] (qw cb A WT CD v)) fun w => some (none, w) := fun h16 => tk_mode hT b7 (by decide) (tk_lt_of T n e) h16
  have lw : tS T n e ≤ tE T n e → tE T n e ≤ n → M_X5_isLongWord [.ref 21] (qw cb A WT CD v) = some (some (.int (if 8 < tE T n e - tS T n e then 1 else 0)), qw cb A WT CD v) := by
    intro l1 l2
    rw [e_X5_isLongWord, show (qw cb A WT CD v).1 21 5 = nI (tE T n e) from hT.2.2.1, show (qw cb A WT CD v).1 21 4 = nI (tS T n e) from hT.2.1, nI_subN l1, show (8 : Int32) = nI 8 from rfl, ite_lt (by omega) (by omega)]
    split <;> rfl
  refine ⟨fun q => ?_, fun q1 q2 => ?_, fun q1 q2 => ?_⟩
  · unfold fk
    by_cases q16 : tK T n e = 16
    · rw [if_pos q16]
      exact crun_fail (by decide) (by decide) (tk_unk hT q16)
    · rw [if_neg q16]
      refine crun_fail (by decide) (by decide) ?_
      rw [md3 q16, e_X5_takeName, e3, if_pos (show (13 : Int32) < nI (tK T n e) from nI_lt (a := 13) q (by omega))]
      exact TF_bV (tk_fail hT 2)
  · obtain ⟨w1, w2, w3, -⟩ := tok_word he q1
    refine crun_fail (by decide) (by decide) ?_
    rw [md3 (by omega), e_X5_takeName, e3, if_neg (show ¬ (13 : Int32) < nI (tK T n e) from nI_nlt (a := 13) q1 (by decide)), lw w3 w2, pb_bI_some, if_pos q2, if_neg (show ¬ (1 : Int32) = 0 by decide)]
    exact TF_bV (tk_fail hT 3)
  · obtain ⟨w1, w2, w3, w4, w5, w6⟩ := tok_word he q1
    obtain ⟨u1, u2, u3⟩ := tok_up he (show tK T n e ≠ 15 by omega)
    have lt := enc_lt (T := T) (s := tS T n e) (tE T n e - tS T n e) (fun j a c => w4 j a (by omega))
    have p8 : 32 ^ (tE T n e - tS T n e) ≤ 32 ^ 8 := Nat.pow_le_pow_right (by decide) q2
    have p : (32 : Nat) ^ 8 = 2 ^ 40 := by decide
    have v40 : tV T n e < 2 ^ 40 := by rw [w6]; omega
    refine ⟨v40, ?_⟩
    obtain ⟨w', c1, c2, -⟩ := crun_go (b := cb) (i := i) (md := 4) (su := su) (br := br) (te := te) (s := s) (c := C ++ [stp 6 (tV T n e)]) (ru := ru) (w := qw cb A WT CD v) hn hc22 hb he hi (by omega) (by
      rw [md3 (by omega), e_X5_takeName, e3, if_neg (show ¬ (13 : Int32) < nI (tK T n e) from nI_nlt (a := 13) q1 (by decide)), lw w3 w2, pb_bI_some, if_neg (show ¬ 8 < tE T n e - tS T n e by omega), if_pos rfl, show (qw cb A WT CD v).2 21 6 = lN (tV T n e) from hT.2.2.2.1 q1 q2, show (6 : Int32) = nI 6 from rfl, M_emit bC (by omega) (by decide) (by omega), pb_bV_some, qw_A]
      exact TO_bV ⟨_, WT, _, v, rfl, hT, b2, rfl, b8, b9, b14, SK_A bK rfl, SC_A (SC_push bC (by omega) _) rfl, b16, b17, b18⟩)
    exact ⟨w', c1, c2⟩
theorem c_came {cb : pb_W} {T : Nat → Int32} {n e i : Nat} {w : pb_W} {md : Nat} {su br te : Int32} {s : List Nat} {C : List Int64} {ru : Nat} (hn : n ≤ 600) (hc22 : cb.1 22 = T) (hb : ∀ k, bY (T k)) (he : e ≤ n) (hi : i ≤ e) (hmd : md = 1 ∨ md = 2) (hC : C.length ≤ e) (h8 : tK T n e = 8) (h : CW cb T n e w md su br te s C ru) : ∃ w', crun i w = crun (i + 1) w' ∧ CW cb T n (tE T n e) w' 4 su br te s (C ++ [stp 7 0]) ru := by
  obtain ⟨A, WT, CD, v, rfl, hT, b2, b7, b8, b9, b14, bK, bC, b16, b17, b18⟩ := h
  obtain ⟨u1, u2, u3⟩ := tok_up he (show tK T n e ≠ 15 by omega)
  obtain ⟨w', c1, c2, -⟩ := crun_go (b := cb) (i := i) (md := 4) (su := su) (br := br) (te := te) (s := s) (c := C ++ [stp 7 0]) (ru := ru) (w := qw cb A WT CD v) hn hc22 hb he hi (by omega) (by
    rw [tk_m12 hT b7 hmd (by omega) (by omega), r_X5_takeAtOne_31, show (qw cb A WT CD v).1 21 3 = nI (tK T n e) from hT.1, h8, if_neg (show ¬ nI 8 = (7 : Int32) by decide), if_pos (show nI 8 = (8 : Int32) from rfl), show (7 : Int32) = nI 7 from rfl, show (0 : Int64) = lN 0 from rfl, M_emit bC (by omega) (by decide) (by decide), pb_bV_some, qw_A]
    exact TO_bV ⟨_, WT, _, v, rfl, hT, b2, rfl, b8, b9, b14, SK_A bK rfl, SC_A (SC_push bC (by omega) _) rfl, b16, b17, b18⟩)
  exact ⟨w', c1, c2⟩
/-- a comparison begins: the class is at its left sum -/
theorem c_open {cb : pb_W} {T : Nat → Int32} {n e i : Nat} {w : pb_W} {md : Nat} {su br te : Int32} {s : List Nat} {C : List Int64} {ru : Nat} (hmd : md = 1 ∨ md = 2) (h16 : tK T n e ≠ 16) (h6 : ¬ (md = 1 ∧ tK T n e = 6)) (h7 : tK T n e ≠ 7) (h8 : tK T n e ≠ 8) (h : CW cb T n e w md su br te s C ru) : ∃ w', crun i w = crun i w' ∧ CW cb T n e w' 6 0 0 te s C ru := by
  obtain ⟨A, WT, CD, v, rfl, hT, b2, b7, b8, b9, b14, bK, bC, b16, b17, b18⟩ := h
  have klt := tK_lt T n e
  refine ⟨qw cb (upd (upd (upd A 8 0) 9 0) 7 (nI 6)) WT CD v, ?_, ⟨_, WT, CD, v, rfl, hT, b2, rfl, rfl, rfl, b14, SK_A bK rfl, SC_A bC rfl, b16, b17, b18⟩⟩
  have E : M_X5_takeToken [.ref 21] (qw cb A WT CD v) = M_X5_takeToken [.ref 21] (qw cb (upd (upd (upd A 8 0) 9 0) 7 (nI 6)) WT CD v) := by
    rw [tk_m12 hT b7 hmd h16 h6, tk_m6 (A := upd (upd (upd A 8 0) 9 0) 7 (nI 6)) hT rfl h16, r_X5_takeAtOne_31, show (qw cb A WT CD v).1 21 3 = nI (tK T n e) from hT.1, if_neg (show ¬ nI (tK T n e) = (7 : Int32) from fun y => h7 ((nI_eq (b := 7) (by omega) (by decide)).mp y)), if_neg (show ¬ nI (tK T n e) = (8 : Int32) from fun y => h8 ((nI_eq (b := 8) (by omega) (by decide)).mp y)), e_X5_openSum, pb_bV_some, qw_A, qw_A, qw_A, show upd (upd (upd A 8 (0 : Int32)) 9 (0 : Int32)) 7 (6 : Int32) = upd (upd (upd A 8 0) 9 0) 7 (nI 6) from rfl]
    cases hr : M_X5_takeAtom [.ref 21] (qw cb (upd (upd (upd A 8 0) 9 0) 7 (nI 6)) WT CD v) with
    | none => rfl
    | some p =>
      obtain ⟨o, w1⟩ := p
      cases o with
      | none => rfl
      | some x => rfl
  unfold crun
  rw [E]
