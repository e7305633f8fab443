/-! ===== READER: what the class does with a token ===== -/
def CT (T : Nat → Int32) (n e : Nat) (A : Nat → Int32) (v : Int64) : Prop := A 3 = nI (tK T n e) ∧ A 4 = nI (tS T n e) ∧ A 5 = nI (tE T n e) ∧ (tK T n e ≤ 13 → tE T n e - tS T n e ≤ 8 → v = lN (tV T n e)) ∧ (tK T n e = 14 → v = lN (tV T n e))
def CB (n : Nat) (A WT : Nat → Int32) (CD : Nat → Int64) (md : Nat) (su br te : Int32) (s : List Nat) (c : List Int64) (ru : Nat) : Prop := A 2 = nI n ∧ A 7 = nI md ∧ A 8 = su ∧ A 9 = br ∧ A 14 = te ∧ SK A WT s ∧ SC A CD c ∧ A 16 = 0 ∧ A 17 = -1 ∧ A 18 = nI ru
def TF (b : pb_W) (T : Nat → Int32) (n e : Nat) (r : Option pb_R) (k : Nat) : Prop := ∃ A' WT' CD' v', r = some (none, qw b A' WT' CD' v') ∧ A' 16 = nI k ∧ A' 17 = nI (tS T n e)
def TO (b : pb_W) (T : Nat → Int32) (n e : Nat) (r : Option pb_R) (md : Nat) (su br te : Int32) (s : List Nat) (c : List Int64) (ru : Nat) : Prop := ∃ A' WT' CD' v', r = some (none, qw b A' WT' CD' v') ∧ CT T n e A' v' ∧ CB n A' WT' CD' md su br te s c ru
theorem tk_fail {b : pb_W} {T : Nat → Int32} {n e : Nat} {A WT : Nat → Int32} {CD : Nat → Int64} {v : Int64} (hT : CT T n e A v) (k : Nat) : TF b T n e (pb_bV (M_X5_refuse [.ref 21, .int (nI k)] (qw b A WT CD v)) fun w => some (none, w)) k := by
  refine ⟨upd (upd A 16 (nI k)) 17 (A 4), WT, CD, v, ?_, rfl, hT.2.1⟩
  rw [e_X5_refuse, pb_bV_some, qw_A, qw_A]
  rfl
theorem bV_id (r : Option pb_R) (h : ∃ w, r = some (none, w)) : (pb_bV r fun w => some (none, w)) = r := by
  obtain ⟨w, e⟩ := h
  rw [e, pb_bV_some]
theorem TF_bV {b : pb_W} {T : Nat → Int32} {n e k : Nat} {r : Option pb_R} (h : TF b T n e r k) : TF b T n e (pb_bV r fun w => some (none, w)) k := by
  obtain ⟨A', WT', CD', v', e1, h1⟩ := h
  exact ⟨A', WT', CD', v', by rw [e1, pb_bV_some], h1⟩
theorem TO_bV {b : pb_W} {T : Nat → Int32} {n e : Nat} {r : Option pb_R} {md : Nat} {su br te : Int32} {s : List Nat} {c : List Int64} {ru : Nat} (h : TO b T n e r md su br te s c ru) : TO b T n e (pb_bV r fun w => some (none, w)) md su br te s c ru := by
  obtain ⟨A', WT', CD', v', e1, h1⟩ := h
  exact ⟨A', WT', CD', v', by rw [e1, pb_bV_some], h1⟩
/-- takeAtom -/
theorem tk_atom {b : pb_W} {T : Nat → Int32} {n e : Nat} {A WT : Nat → Int32} {CD : Nat → Int64} {v : Int64} {md : Nat} {su te : Int32} {br : Nat} {s : List Nat} {c : List Int64} {ru : Nat} (hT : CT T n e A v) (hB : CB n A WT CD md su (nI br) te s c ru) (hbr : br ≤ 6) (hk : tK T n e < 2 ^ 31) (hs : s.length < 32) (hc : c.length < 600) (hv : tK T n e = 14 → tV T n e < 2 ^ 50) (hmd : md = 6) :
    (tK T n e = 40 → br < 6 → TO b T n e (M_X5_takeAtom [.ref 21] (qw b A WT CD v)) 6 su (nI (br + 1)) te (0 :: s) c ru) ∧ (tK T n e = 40 → br = 6 → TF b T n e (M_X5_takeAtom [.ref 21] (qw b A WT CD v)) 5) ∧ (tK T n e = 14 → TO b T n e (M_X5_takeAtom [.ref 21] (qw b A WT CD v)) 7 su (nI br) te s (c ++ [stp 1 (tV T n e)]) ru) ∧ (9 ≤ tK T n e → tK T n e ≤ 12 → TO b T n e (M_X5_takeAtom [.ref 21] (qw b A WT CD v)) 7 su (nI br) te s (c ++ [stp (tK T n e - 7) 0]) ru) ∧ (tK T n e ≠ 40 → tK T n e ≠ 14 → ¬ (9 ≤ tK T n e ∧ tK T n e ≤ 12) → TF b T n e (M_X5_takeAtom [.ref 21] (qw b A WT CD v)) 2) := by
  obtain ⟨b2, b7, b8, b9, b14, bK, bC, b16, b17, b18⟩ := hB
  subst hmd
  have e3 : (qw b A WT CD v).1 21 3 = nI (tK T n e) := hT.1
  have e9 : (qw b A WT CD v).1 21 9 = nI br := b9
  have z : ∀ L : Nat, L < 2 ^ 31 → ((nI (tK T n e) = nI L) ↔ tK T n e = L) := fun L hL => nI_eq hk hL
  have at26 : tK T n e ≠ 40 → M_X5_takeAtom [.ref 21] (qw b A WT CD v) = pb_run T_X5_takeAtom (26, [some (.ref 21)], [], qw b A WT CD v) := by
    intro q
    rw [e_X5_takeAtom, e3, if_neg (show ¬ nI (tK T n e) = (40 : Int32) from fun y => q ((z 40 (by decide)).mp y))]
  have step : ∀ L, 9 ≤ L → L ≤ 14 → L ≠ 13 → tK T n e = L → M_X5_atomStep [.ref 21] (qw b A WT CD v) = some (some (.int (nI (if L = 14 then 1 else L - 7))), qw b A WT CD v) := by
    intro L l1 l2 l3 q
    rw [e_X5_atomStep, e3, q]
    have : L = 9 ∨ L = 10 ∨ L = 11 ∨ L = 12 ∨ L = 14 := by omega
    rcases this with y | y | y | y | y <;> subst y <;> rfl
  refine ⟨?_, ?_, ?_, ?_, ?_⟩
  · intro q h6
    refine ⟨upd (upd A 9 (nI (br + 1))) 11 (nI (s.length + 1)), upd WT s.length (nI 0), CD, v, ?_, hT, b2, b7, b8, rfl, b14, ?_, SC_A bC rfl, b16, b17, b18⟩
    · rw [e_X5_takeAtom, e3, q, if_pos (show nI 40 = (40 : Int32) from rfl), e9, if_pos (show nI br < (6 : Int32) from nI_lt (b := 6) h6 (by decide)), r_X5_takeAtom_26, e3, q, if_pos (show nI 40 = (40 : Int32) from rfl), e9, nI_1, qw_A, M_hold (SK_A (A' := upd A 9 (nI (br + 1))) bK rfl) hs, pb_bV_some]
      rfl
    · exact SK_push (SK_A bK rfl) hs 0
  · intro q h6
    rw [e_X5_takeAtom, e3, q, if_pos (show nI 40 = (40 : Int32) from rfl), e9, if_neg (show ¬ nI br < (6 : Int32) from nI_nlt (b := 6) (by omega) (by omega))]
    exact tk_fail hT 5
  · intro q
    have hv14 := hT.2.2.2.2 q
    refine ⟨upd (upd A 13 (nI (c.length + 1))) 7 (nI 7), WT, vp_updL CD c.length (stp 1 (tV T n e)), v, ?_, hT, b2, rfl, b8, b9, b14, SK_A bK rfl, SC_A (SC_push bC hc _) rfl, b16, b17, b18⟩
    rw [at26 (by omega), r_X5_takeAtom_26, e3, q, if_neg (show ¬ nI 14 = (40 : Int32) by decide), step 14 (by omega) (by omega) (by omega) q, pb_bI_some, if_neg (show ¬ nI (if 14 = 14 then 1 else 14 - 7) = (-1 : Int32) by decide), step 14 (by omega) (by omega) (by omega) q, pb_bI_some, e3, q, if_pos (show nI 14 = (14 : Int32) from rfl), show (qw b A WT CD v).2 21 6 = lN (tV T n e) from hv14, if_pos rfl, M_emit bC hc (by decide) (hv q), pb_bV_some, qw_A]
    rfl
  · intro q1 q2
    have st := step (tK T n e) q1 (by omega) (by omega) rfl
    rw [if_neg (by omega)] at st
    refine ⟨upd (upd A 13 (nI (c.length + 1))) 7 (nI 7), WT, vp_updL CD c.length (stp (tK T n e - 7) 0), v, ?_, hT, b2, rfl, b8, b9, b14, SK_A bK rfl, SC_A (SC_push bC hc _) rfl, b16, b17, b18⟩
    rw [at26 (by omega), r_X5_takeAtom_26, e3, if_neg (show ¬ nI (tK T n e) = (40 : Int32) from fun y => by have := (z 40 (by decide)).mp y; omega), st, pb_bI_some, if_neg (pn_m1 _ (by omega)), st, pb_bI_some, e3, if_neg (show ¬ nI (tK T n e) = (14 : Int32) from fun y => by have := (z 14 (by decide)).mp y; omega), show (0 : Int64) = lN 0 from rfl, M_emit bC hc (by omega) (by decide), pb_bV_some, qw_A]
    rfl
  · intro q1 q2 q3
    have st : M_X5_atomStep [.ref 21] (qw b A WT CD v) = some (some (.int (-1)), qw b A WT CD v) := by
      rw [e_X5_atomStep, e3, if_neg (show ¬ nI (tK T n e) = (9 : Int32) from fun y => by have := (z 9 (by decide)).mp y; omega), if_neg (show ¬ nI (tK T n e) = (9 : Int32) + 1 from fun y => by have := (z 10 (by decide)).mp y; omega), if_neg (show ¬ nI (tK T n e) = (9 : Int32) + 1 + 1 from fun y => by have := (z 11 (by decide)).mp y; omega), if_neg (show ¬ nI (tK T n e) = (9 : Int32) + 1 + 1 + 1 from fun y => by have := (z 12 (by decide)).mp y; omega), if_neg (show ¬ nI (tK T n e) = (9 : Int32) + 1 + 1 + 1 + 1 + 1 from fun y => by have := (z 14 (by decide)).mp y; omega)]
      exact ite_self _
    rw [at26 q1, r_X5_takeAtom_26, e3, if_neg (show ¬ nI (tK T n e) = (40 : Int32) from fun y => q1 ((z 40 (by decide)).mp y)), st, pb_bI_some, if_pos rfl]
    exact tk_fail hT 2
/-- takeBehindOne -/
theorem tk_behind {b : pb_W} {T : Nat → Int32} {n e : Nat} {A WT : Nat → Int32} {CD : Nat → Int64} {v : Int64} {md : Nat} {su br te : Int32} {s : List Nat} {c : List Int64} {ru : Nat} (hT : CT T n e A v) (hB : CB n A WT CD md su br te s c ru) (hk : tK T n e < 2 ^ 31) (hx : ∀ x, x ∈ s → x < 100) (hr2 : (rlk 2 s).length < 32) (hr1 : (rlk 1 s).length < 32) (hc2 : c.length + (rlo 2 s).length ≤ 600) (hc1 : c.length + (rlo 1 s).length ≤ 600) (hc0 : c.length + (rlo 0 s).length < 600) :
    (tK T n e = 5 → TO b T n e (M_X5_takeBehindOne [.ref 21] (qw b A WT CD v)) 1 su br te (20 :: rlk 2 s) (c ++ (rlo 2 s).map (fun x => stp x 0)) ru) ∧ (tK T n e = 4 → TO b T n e (M_X5_takeBehindOne [.ref 21] (qw b A WT CD v)) 1 su br te (10 :: rlk 1 s) (c ++ (rlo 1 s).map (fun x => stp x 0)) ru) ∧ (tK T n e = 1 → TO b T n e (M_X5_takeBehindOne [.ref 21] (qw b A WT CD v)) 5 su br (nI (c.length + (rlo 0 s).length)) (rlk 0 s) (c ++ (rlo 0 s).map (fun x => stp x 0) ++ [stp 70 0]) ru) ∧ (tK T n e ≠ 5 → tK T n e ≠ 4 → tK T n e ≠ 1 → TF b T n e (M_X5_takeBehindOne [.ref 21] (qw b A WT CD v)) 2) := by
  obtain ⟨b2, b7, b8, b9, b14, bK, bC, b16, b17, b18⟩ := hB
  have e3 : (qw b A WT CD v).1 21 3 = nI (tK T n e) := hT.1
  have z : ∀ L : Nat, L < 2 ^ 31 → ((nI (tK T n e) = nI L) ↔ tK T n e = L) := fun L hL => nI_eq hk hL
  have keepT : ∀ A' : Nat → Int32, (∀ k, k ≠ 11 → k ≠ 13 → A' k = A k) → A' 3 = nI (tK T n e) ∧ A' 4 = nI (tS T n e) ∧ A' 5 = nI (tE T n e) := fun A' h => ⟨(h 3 (by decide) (by decide)).trans hT.1, (h 4 (by decide) (by decide)).trans hT.2.1, (h 5 (by decide) (by decide)).trans hT.2.2.1⟩
  refine ⟨?_, ?_, ?_, ?_⟩
  · intro q
    obtain ⟨A', WT', CD', y1, y2, y3, y4⟩ := M_rel (b := b) (v := v) (n := 2) (by decide) bK bC hx hc2
    obtain ⟨t1, t2, t3⟩ := keepT A' y4
    refine ⟨upd (upd A' 11 (nI ((rlk 2 s).length + 1))) 7 (nI 1), upd WT' (rlk 2 s).length (nI 20), CD', v, ?_, ⟨t1, t2, t3, hT.2.2.2⟩, (y4 2 (by decide) (by decide)).trans b2, rfl, (y4 8 (by decide) (by decide)).trans b8, (y4 9 (by decide) (by decide)).trans b9, (y4 14 (by decide) (by decide)).trans b14, SK_A (SK_push y2 hr2 20) rfl, SC_A y3 rfl, (y4 16 (by decide) (by decide)).trans b16, (y4 17 (by decide) (by decide)).trans b17, (y4 18 (by decide) (by decide)).trans b18⟩
    rw [e_X5_takeBehindOne, e3, q, if_pos (show nI 5 = (5 : Int32) from rfl), if_pos (show nI 5 = (5 : Int32) from rfl), r_X5_takeBehindOne_31, e_X0_bindingOf, pb_bI_some, show (20 : Int32) / (10 : Int32) = nI 2 by decide, y1, pb_bV_some, show (20 : Int32) = nI 20 from rfl, M_hold y2 hr2, pb_bV_some, qw_A]
    rfl
  · intro q
    obtain ⟨A', WT', CD', y1, y2, y3, y4⟩ := M_rel (b := b) (v := v) (n := 1) (by decide) bK bC hx hc1
    obtain ⟨t1, t2, t3⟩ := keepT A' y4
    refine ⟨upd (upd A' 11 (nI ((rlk 1 s).length + 1))) 7 (nI 1), upd WT' (rlk 1 s).length (nI 10), CD', v, ?_, ⟨t1, t2, t3, hT.2.2.2⟩, (y4 2 (by decide) (by decide)).trans b2, rfl, (y4 8 (by decide) (by decide)).trans b8, (y4 9 (by decide) (by decide)).trans b9, (y4 14 (by decide) (by decide)).trans b14, SK_A (SK_push y2 hr1 10) rfl, SC_A y3 rfl, (y4 16 (by decide) (by decide)).trans b16, (y4 17 (by decide) (by decide)).trans b17, (y4 18 (by decide) (by decide)).trans b18⟩
    rw [e_X5_takeBehindOne, e3, q, if_neg (show ¬ nI 4 = (5 : Int32) by decide), if_pos (show nI 4 = (4 : Int32) from rfl), if_neg (show ¬ nI 4 = (5 : Int32) by decide), r_X5_takeBehindOne_31, e_X0_bindingOf, pb_bI_some, show (10 : Int32) / (10 : Int32) = nI 1 by decide, y1, pb_bV_some, show (10 : Int32) = nI 10 from rfl, M_hold y2 hr1, pb_bV_some, qw_A]
    rfl
  · intro q
    obtain ⟨A', WT', CD', y1, y2, y3, y4⟩ := M_rel (b := b) (v := v) (n := 0) (by decide) bK bC hx (by omega)
    obtain ⟨t1, t2, t3⟩ := keepT A' y4
    have len : (c ++ (rlo 0 s).map (fun x => stp x 0)).length = c.length + (rlo 0 s).length := by rw [List.length_append, List.length_map]
    have a13 : A' 13 = nI (c.length + (rlo 0 s).length) := by rw [y3.1, len]
    refine ⟨upd (upd (upd A' 14 (nI (c.length + (rlo 0 s).length))) 13 (nI ((c ++ (rlo 0 s).map (fun x => stp x 0)).length + 1))) 7 (nI 5), WT', vp_updL CD' (c ++ (rlo 0 s).map (fun x => stp x 0)).length (stp 70 0), v, ?_, ⟨t1, t2, t3, hT.2.2.2⟩, (y4 2 (by decide) (by decide)).trans b2, rfl, (y4 8 (by decide) (by decide)).trans b8, (y4 9 (by decide) (by decide)).trans b9, rfl, SK_A y2 rfl, SC_A (SC_push (SC_A (A' := upd A' 14 (nI (c.length + (rlo 0 s).length))) y3 rfl) (by omega) _) rfl, (y4 16 (by decide) (by decide)).trans b16, (y4 17 (by decide) (by decide)).trans b17, (y4 18 (by decide) (by decide)).trans b18⟩
    rw [e_X5_takeBehindOne, e3, q, if_neg (show ¬ nI 1 = (5 : Int32) by decide), if_neg (show ¬ nI 1 = (4 : Int32) by decide), if_pos (show nI 1 = (1 : Int32) from rfl), show M_X5_release [.ref 21, .int (0 : Int32)] (qw b A WT CD v) = _ from y1, pb_bV_some, show (qw b A' WT' CD' v).1 21 13 = nI (c.length + (rlo 0 s).length) from a13, qw_A, show (70 : Int32) = nI 70 from rfl, show (0 : Int64) = lN 0 from rfl, M_emit (SC_A (A' := upd A' 14 (nI (c.length + (rlo 0 s).length))) y3 rfl) (by omega) (by decide) (by decide), pb_bV_some, qw_A]
    rfl
  · intro q5 q4 q1
    rw [e_X5_takeBehindOne, e3, if_neg (show ¬ nI (tK T n e) = (5 : Int32) from fun y => q5 ((z 5 (by decide)).mp y)), if_neg (show ¬ nI (tK T n e) = (4 : Int32) from fun y => q4 ((z 4 (by decide)).mp y)), if_neg (show ¬ nI (tK T n e) = (1 : Int32) from fun y => q1 ((z 1 (by decide)).mp y))]
    exact tk_fail hT 2
