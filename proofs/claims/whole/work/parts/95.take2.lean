/-- takeBehindAtom -/
theorem tk_oper {b : pb_W} {T : Nat → Int32} {n e : Nat} {A WT : Nat → Int32} {CD : Nat → Int64} {v : Int64} (hT : CT T n e A v) (hk : tK T n e < 2 ^ 31) : M_X5_operatorStep [.ref 21] (qw b A WT CD v) = some (some (.int (if tK T n e = 42 then nI 60 else if tK T n e = 43 then nI 50 else if tK T n e = 45 then nI 51 else if tK T n e = 47 then nI 61 else -1)), qw b A WT CD v) := by
  have e3 : (qw b A WT CD v).1 21 3 = nI (tK T n e) := hT.1
  rw [e_X5_operatorStep, e3, show (42 : Int32) = nI 42 from rfl, show nI 42 + 1 = nI 43 from rfl, show nI 43 + 1 = nI 44 from rfl, show nI 44 + 1 = nI 45 from rfl, show nI 45 + 1 = nI 46 from rfl, show nI 46 + 1 = nI 47 from rfl, ite_eqN hk (by decide), ite_eqN hk (by decide), ite_eqN hk (by decide), ite_eqN hk (by decide), ite_eqN hk (by decide), ite_eqN hk (by decide)]
  by_cases q1 : tK T n e = 42
  · rw [if_pos q1, if_pos q1]; rfl
  · rw [if_neg q1, if_neg q1]
    by_cases q2 : tK T n e = 43
    · rw [if_pos q2, if_pos q2]; rfl
    · rw [if_neg q2, if_neg q2]
      by_cases q3 : tK T n e = 45
      · rw [if_neg (show ¬ tK T n e = 44 by omega), if_pos q3, if_pos q3]; rfl
      · rw [if_neg q3, if_neg q3]
        by_cases q4 : tK T n e = 47
        · rw [if_neg (show ¬ tK T n e = 44 by omega), if_neg (show ¬ tK T n e = 46 by omega), if_pos q4, if_pos q4]; rfl
        · rw [if_neg q4, if_neg q4, ite_self, ite_self]
def opc (c : Nat) : Nat := if c = 42 then 60 else if c = 43 then 50 else if c = 45 then 51 else 61
theorem tk_op {b : pb_W} {T : Nat → Int32} {n e : Nat} {A WT : Nat → Int32} {CD : Nat → Int64} {v : Int64} {md : Nat} {su br te : Int32} {s : List Nat} {c : List Int64} {ru : Nat} (hT : CT T n e A v) (hB : CB n A WT CD md su br te s c ru) (hx : ∀ x, x ∈ s → x < 100) (hop : tK T n e = 42 ∨ tK T n e = 43 ∨ tK T n e = 45 ∨ tK T n e = 47) (hr : (rlk (opc (tK T n e) / 10) s).length < 32) (hc : c.length + (rlo (opc (tK T n e) / 10) s).length ≤ 600) : TO b T n e (M_X5_takeBehindAtom [.ref 21] (qw b A WT CD v)) 6 su br te (opc (tK T n e) :: rlk (opc (tK T n e) / 10) s) (c ++ (rlo (opc (tK T n e) / 10) s).map (fun x => stp x 0)) ru := by
  obtain ⟨b2, b7, b8, b9, b14, bK, bC, b16, b17, b18⟩ := hB
  have o := tk_oper (b := b) (WT := WT) (CD := CD) hT (by omega)
  have oE : (if tK T n e = 42 then nI 60 else if tK T n e = 43 then nI 50 else if tK T n e = 45 then nI 51 else if tK T n e = 47 then nI 61 else -1) = nI (opc (tK T n e)) := by
    unfold opc
    rcases hop with q | q | q | q <;> rw [q] <;> rfl
  rw [oE] at o
  have o100 : opc (tK T n e) < 100 := by
    unfold opc
    split
    · omega
    · split
      · omega
      · split <;> omega
  have ed : nI (opc (tK T n e)) / (10 : Int32) = nI (opc (tK T n e) / 10) := by rw [show (10 : Int32) = nI 10 from rfl, pk_div (by omega) (by decide) (by decide)]
  obtain ⟨A', WT', CD', y1, y2, y3, y4⟩ := M_rel (b := b) (v := v) (n := opc (tK T n e) / 10) (by omega) bK bC hx hc
  refine ⟨upd (upd A' 11 (nI ((rlk (opc (tK T n e) / 10) s).length + 1))) 7 (nI 6), upd WT' (rlk (opc (tK T n e) / 10) s).length (nI (opc (tK T n e))), CD', v, ?_, ⟨(y4 3 (by decide) (by decide)).trans hT.1, (y4 4 (by decide) (by decide)).trans hT.2.1, (y4 5 (by decide) (by decide)).trans hT.2.2.1, hT.2.2.2⟩, (y4 2 (by decide) (by decide)).trans b2, rfl, (y4 8 (by decide) (by decide)).trans b8, (y4 9 (by decide) (by decide)).trans b9, (y4 14 (by decide) (by decide)).trans b14, SK_A (SK_push y2 hr _) rfl, SC_A y3 rfl, (y4 16 (by decide) (by decide)).trans b16, (y4 17 (by decide) (by decide)).trans b17, (y4 18 (by decide) (by decide)).trans b18⟩
  rw [e_X5_takeBehindAtom, o, pb_bI_some, if_neg (pn_m1 _ (by omega)), e_X0_bindingOf, pb_bI_some, ed, y1, pb_bV_some, M_hold y2 hr, pb_bV_some, qw_A]
  rfl
abbrev notOp (k : Nat) : Prop := k ≠ 42 ∧ k ≠ 43 ∧ k ≠ 45 ∧ k ≠ 47
theorem tk_noop {b : pb_W} {T : Nat → Int32} {n e : Nat} {A WT : Nat → Int32} {CD : Nat → Int64} {v : Int64} (hT : CT T n e A v) (hk : tK T n e < 2 ^ 31) (h : notOp (tK T n e)) : M_X5_operatorStep [.ref 21] (qw b A WT CD v) = some (some (.int (-1)), qw b A WT CD v) := by
  rw [tk_oper hT hk, if_neg h.1, if_neg h.2.1, if_neg h.2.2.1, if_neg h.2.2.2]
theorem tk_close {b : pb_W} {T : Nat → Int32} {n e : Nat} {A WT : Nat → Int32} {CD : Nat → Int64} {v : Int64} {md : Nat} {su te : Int32} {br : Nat} {s s' : List Nat} {c : List Int64} {ru : Nat} (hT : CT T n e A v) (hB : CB n A WT CD md su (nI (br + 1)) te s c ru) (hbr : br < 100) (hk : tK T n e < 2 ^ 31) (hno : notOp (tK T n e)) (hx : ∀ x, x ∈ s → x < 100) (hr : rlk 1 s = 0 :: s') (hc : c.length + (rlo 1 s).length ≤ 600) : (tK T n e = 41 → TO b T n e (M_X5_takeBehindAtom [.ref 21] (qw b A WT CD v)) md su (nI br) te s' (c ++ (rlo 1 s).map (fun x => stp x 0)) ru) ∧ (tK T n e ≠ 41 → TF b T n e (M_X5_takeBehindAtom [.ref 21] (qw b A WT CD v)) 2) := by
  obtain ⟨b2, b7, b8, b9, b14, bK, bC, b16, b17, b18⟩ := hB
  have e3 : (qw b A WT CD v).1 21 3 = nI (tK T n e) := hT.1
  have E : M_X5_takeBehindAtom [.ref 21] (qw b A WT CD v) = pb_bV (M_X5_closeBracket [.ref 21] (qw b A WT CD v)) fun w6 => some (none, w6) := by
    rw [e_X5_takeBehindAtom, tk_noop hT hk hno, pb_bI_some, if_pos rfl, show (qw b A WT CD v).1 21 9 = nI (br + 1) from b9, if_pos (show (0 : Int32) < nI (br + 1) from nI_lt (a := 0) (by omega) (by omega))]
  rw [E]
  constructor
  · intro q
    obtain ⟨A', WT', CD', y1, y2, y3, y4⟩ := M_rel (b := b) (v := v) (n := 1) (by decide) bK bC hx hc
    rw [hr] at y2
    obtain ⟨p1, p2⟩ := SK_pop y2
    have a11 : A' 11 = nI (s'.length + 1) := by rw [y2.1, List.length_cons]
    have l32 : s'.length + 1 ≤ 32 := by have := y2.2.1; rw [List.length_cons] at this; exact this
    refine TO_bV ⟨upd (upd A' 11 (nI s'.length)) 9 (nI br), WT', CD', v, ?_, ⟨(y4 3 (by decide) (by decide)).trans hT.1, (y4 4 (by decide) (by decide)).trans hT.2.1, (y4 5 (by decide) (by decide)).trans hT.2.2.1, hT.2.2.2⟩, (y4 2 (by decide) (by decide)).trans b2, (y4 7 (by decide) (by decide)).trans b7, (y4 8 (by decide) (by decide)).trans b8, rfl, (y4 14 (by decide) (by decide)).trans b14, SK_A p2 rfl, SC_A y3 rfl, (y4 16 (by decide) (by decide)).trans b16, (y4 17 (by decide) (by decide)).trans b17, (y4 18 (by decide) (by decide)).trans b18⟩
    rw [e_X5_closeBracket, e3, q, if_pos (show nI 41 = (41 : Int32) from rfl), show M_X5_release [.ref 21, .int (1 : Int32)] (qw b A WT CD v) = _ from y1, pb_bV_some, show (qw b A' WT' CD' v).1 21 11 = nI (s'.length + 1) from a11, show (qw b A' WT' CD' v).1 21 9 = nI (br + 1) from (y4 9 (by decide) (by decide)).trans b9, show pb_max (0 : Int32) (nI (s'.length + 1) - 1) = nI (s'.length + 1 - 1) from mx0_sub (b := 1) (by omega) (by decide), show nI (br + 1) - (1 : Int32) = nI (br + 1 - 1) from nI_subN (b := 1) (by omega), show s'.length + 1 - 1 = s'.length from rfl, show br + 1 - 1 = br from rfl, qw_A, qw_A]
  · intro q
    rw [e_X5_closeBracket, e3, if_neg (show ¬ nI (tK T n e) = (41 : Int32) from fun y => q ((nI_eq (b := 41) hk (by decide)).mp y))]
    exact TF_bV (tk_fail hT 2)
def cmpc (k : Nat) : Nat := if k = 60 then 40 else if k = 61 then 42 else 41
theorem tk_comp {b : pb_W} {T : Nat → Int32} {n e : Nat} {A WT : Nat → Int32} {CD : Nat → Int64} {v : Int64} {md : Nat} {te : Int32} {s : List Nat} {c : List Int64} {ru : Nat} (hT : CT T n e A v) (hB : CB n A WT CD md 0 0 te s c ru) (hk : tK T n e < 2 ^ 31) (hno : notOp (tK T n e)) (hx : ∀ x, x ∈ s → x < 100) (hr : (rlk 4 s).length < 32) (hc : c.length + (rlo 4 s).length ≤ 600) : (tK T n e = 60 ∨ tK T n e = 61 ∨ tK T n e = 62 → TO b T n e (M_X5_takeBehindAtom [.ref 21] (qw b A WT CD v)) 6 1 0 te (cmpc (tK T n e) :: rlk 4 s) (c ++ (rlo 4 s).map (fun x => stp x 0)) ru) ∧ (tK T n e ≠ 60 → tK T n e ≠ 61 → tK T n e ≠ 62 → TF b T n e (M_X5_takeBehindAtom [.ref 21] (qw b A WT CD v)) 2) := by
  obtain ⟨b2, b7, b8, b9, b14, bK, bC, b16, b17, b18⟩ := hB
  have e3 : (qw b A WT CD v).1 21 3 = nI (tK T n e) := hT.1
  have E : M_X5_takeBehindAtom [.ref 21] (qw b A WT CD v) = pb_bV (M_X5_takeComparison [.ref 21] (qw b A WT CD v)) fun w6 => some (none, w6) := by
    rw [e_X5_takeBehindAtom, tk_noop hT hk hno, pb_bI_some, if_pos rfl, show (qw b A WT CD v).1 21 9 = 0 from b9, if_neg (show ¬ (0 : Int32) < 0 by decide), show (qw b A WT CD v).1 21 8 = 0 from b8, if_pos rfl]
  have cs : M_X5_comparisonStep [.ref 21] (qw b A WT CD v) = some (some (.int (if tK T n e = 60 then nI 40 else if tK T n e = 61 then nI 42 else if tK T n e = 62 then nI 41 else -1)), qw b A WT CD v) := by
    rw [e_X5_comparisonStep, e3, show (60 : Int32) = nI 60 from rfl, show nI 60 + 1 = nI 61 from rfl, show nI 61 + 1 = nI 62 from rfl, ite_eqN hk (by decide), ite_eqN hk (by decide), ite_eqN hk (by decide)]
    by_cases q1 : tK T n e = 60
    · rw [if_pos q1, if_pos q1]; rfl
    · rw [if_neg q1, if_neg q1]
      by_cases q2 : tK T n e = 61
      · rw [if_pos q2, if_pos q2]; rfl
      · rw [if_neg q2, if_neg q2]
        by_cases q3 : tK T n e = 62
        · rw [if_pos q3, if_pos q3]; rfl
        · rw [if_neg q3, if_neg q3]
  rw [E, e_X5_takeComparison, cs, pb_bI_some]
  constructor
  · intro q
    have oE : (if tK T n e = 60 then nI 40 else if tK T n e = 61 then nI 42 else if tK T n e = 62 then nI 41 else -1) = nI (cmpc (tK T n e)) := by
      unfold cmpc
      rcases q with q | q | q <;> rw [q] <;> rfl
    have o50 : 40 ≤ cmpc (tK T n e) ∧ cmpc (tK T n e) < 50 := by
      unfold cmpc
      split
      · omega
      · split <;> omega
    have ed : nI (cmpc (tK T n e)) / (10 : Int32) = nI 4 := by
      rw [show (10 : Int32) = nI 10 from rfl, pk_div (by omega) (by decide) (by decide)]
      congr 1
      omega
    obtain ⟨A', WT', CD', y1, y2, y3, y4⟩ := M_rel (b := b) (v := v) (n := 4) (by decide) bK bC hx hc
    refine TO_bV ⟨upd (upd (upd (upd A' 11 (nI ((rlk 4 s).length + 1))) 8 1) 9 0) 7 (nI 6), upd WT' (rlk 4 s).length (nI (cmpc (tK T n e))), CD', v, ?_, ⟨(y4 3 (by decide) (by decide)).trans hT.1, (y4 4 (by decide) (by decide)).trans hT.2.1, (y4 5 (by decide) (by decide)).trans hT.2.2.1, hT.2.2.2⟩, (y4 2 (by decide) (by decide)).trans b2, rfl, rfl, rfl, (y4 14 (by decide) (by decide)).trans b14, SK_A (SK_push y2 hr _) rfl, SC_A y3 rfl, (y4 16 (by decide) (by decide)).trans b16, (y4 17 (by decide) (by decide)).trans b17, (y4 18 (by decide) (by decide)).trans b18⟩
    rw [oE, if_neg (pn_m1 _ (by omega)), e_X0_bindingOf, pb_bI_some, ed, y1, pb_bV_some, M_hold y2 hr, pb_bV_some, e_X5_openSum, pb_bV_some, qw_A, qw_A, qw_A]
    rfl
  · intro q1 q2 q3
    rw [if_neg q1, if_neg q2, if_neg q3, if_pos rfl]
    exact TF_bV (tk_fail hT 2)
theorem vp_set (c : List Int64) (CD : Nat → Int64) (h : ∀ i, i < c.length → CD i = c.getD i 0) (t : Nat) (x : Int64) : ∀ i, i < (c.set t x).length → vp_updL CD t x i = (c.set t x).getD i 0 := by
  intro i hi
  rw [List.length_set] at hi
  rw [pu_atL, List.getD_eq_getElem?_getD, List.getElem?_set]
  by_cases q : i = t
  · subst q
    rw [if_pos rfl, if_pos rfl, if_pos hi]
    rfl
  · rw [if_neg q, if_neg (fun z => q z.symm), ← List.getD_eq_getElem?_getD]
    exact h i hi
/-- takeBehindResult: su is 2 or 3 -/
theorem tk_result {b : pb_W} {T : Nat → Int32} {n e : Nat} {A WT : Nat → Int32} {CD : Nat → Int64} {v : Int64} {md su te : Nat} {s : List Nat} {c : List Int64} {ru : Nat} (hT : CT T n e A v) (hB : CB n A WT CD md (nI su) 0 (nI te) s c ru) (hsu : su = 2 ∨ su = 3) (hk : tK T n e < 2 ^ 31) (hno : notOp (tK T n e)) (hx : ∀ x, x ∈ s → x < 100) (hr : rlk 0 s = []) (hc : c.length + (rlo 0 s).length + 2 ≤ 600) (hte : te < c.length) :
    (tK T n e = 3 → su = 2 → TO b T n e (M_X5_takeBehindAtom [.ref 21] (qw b A WT CD v)) 6 3 0 (nI te) [] (c ++ (rlo 0 s).map (fun x => stp x 0) ++ [stp 71 0]) ru) ∧ (tK T n e = 59 → TO b T n e (M_X5_takeBehindAtom [.ref 21] (qw b A WT CD v)) 0 (nI su) 0 (nI te) [] ((c ++ (rlo 0 s).map (fun x => stp x 0) ++ [stp (if su = 2 then 71 else 72) 0]).set te (stp 70 (c.length + (rlo 0 s).length + 1)) ++ [stp 73 0]) (ru + 1)) ∧ (¬ (tK T n e = 3 ∧ su = 2) → tK T n e ≠ 59 → TF b T n e (M_X5_takeBehindAtom [.ref 21] (qw b A WT CD v)) 2) := by
  obtain ⟨b2, b7, b8, b9, b14, bK, bC, b16, b17, b18⟩ := hB
  have e3 : (qw b A WT CD v).1 21 3 = nI (tK T n e) := hT.1
  have e8 : (qw b A WT CD v).1 21 8 = nI su := b8
  have su0 : ¬ nI su = (0 : Int32) := nI_ne0 (by omega) (by omega)
  have su1 : ¬ nI su = (1 : Int32) := fun y => by have := (nI_eq (b := 1) (show su < 2 ^ 31 by omega) (by decide)).mp y; omega
  have su2 : (nI su = (2 : Int32)) ↔ su = 2 := nI_eq (b := 2) (by omega) (by decide)
  have E : M_X5_takeBehindAtom [.ref 21] (qw b A WT CD v) = pb_bV (M_X5_takeBehindResult [.ref 21] (qw b A WT CD v)) fun w6 => some (none, w6) := by
    rw [e_X5_takeBehindAtom, tk_noop hT hk hno, pb_bI_some, if_pos rfl, show (qw b A WT CD v).1 21 9 = 0 from b9, if_neg (show ¬ (0 : Int32) < 0 by decide), e8, if_neg su0, if_neg su1]
  have z3 : (nI (tK T n e) = (3 : Int32)) ↔ tK T n e = 3 := nI_eq (b := 3) hk (by decide)
  have z59 : (nI (tK T n e) = (59 : Int32)) ↔ tK T n e = 59 := nI_eq (b := 59) hk (by decide)
  have R : M_X5_takeBehindResult [.ref 21] (qw b A WT CD v) = if tK T n e = 3 ∧ su = 2 then pb_run T_X5_takeBehindResult (21, [some (.ref 21), none], [.int (1 : Int32)], qw b A WT CD v) else pb_run T_X5_takeBehindResult (21, [some (.ref 21), none], [.int (0 : Int32)], qw b A WT CD v) := by
    rw [e_X5_takeBehindResult, e3, e8]
    by_cases q : tK T n e = 3
    · rw [if_pos (z3.mpr q)]
      by_cases q2 : su = 2
      · rw [if_pos (su2.mpr q2), if_pos ⟨q, q2⟩]
      · rw [if_neg (fun y => q2 (su2.mp y)), if_neg (fun y => q2 y.2)]
    · rw [if_neg (fun y => q (z3.mp y)), if_neg (fun y => q y.1)]
  rw [E, R]
  obtain ⟨A', WT', CD', y1, y2, y3, y4⟩ := M_rel (b := b) (v := v) (n := 0) (by decide) bK bC hx (by omega)
  rw [hr] at y2
  have len : (c ++ (rlo 0 s).map (fun x => stp x 0)).length = c.length + (rlo 0 s).length := by rw [List.length_append, List.length_map]
  have keep : ∀ k, k ≠ 11 → k ≠ 13 → A' k = A k := y4
  refine ⟨?_, ?_, ?_⟩
  · intro q1 q2
    subst q2
    rw [if_pos ⟨q1, rfl⟩, r_X5_takeBehindResult_21, if_neg (show ¬ (1 : Int32) = 0 by decide), r_X5_takeBehindResult_41, show M_X5_release [.ref 21, .int (0 : Int32)] (qw b A WT CD v) = _ from y1, pb_bV_some, show (qw b A' WT' CD' v).1 21 8 = nI 2 from (y4 8 (by decide) (by decide)).trans b8, if_pos (show nI 2 = (2 : Int32) from rfl), show (71 : Int32) = nI 71 from rfl, show (0 : Int64) = lN 0 from rfl, M_emit y3 (by omega) (by decide) (by decide), pb_bV_some, if_neg (show ¬ (1 : Int32) = 0 by decide), e_X5_openSum, pb_bV_some, qw_A, qw_A, qw_A, pb_bV_some]
    exact ⟨_, _, _, _, rfl, ⟨(y4 3 (by decide) (by decide)).trans hT.1, (y4 4 (by decide) (by decide)).trans hT.2.1, (y4 5 (by decide) (by decide)).trans hT.2.2.1, hT.2.2.2⟩, (y4 2 (by decide) (by decide)).trans b2, rfl, rfl, rfl, (y4 14 (by decide) (by decide)).trans b14, SK_A y2 rfl, SC_A (SC_push y3 (by omega) _) rfl, (y4 16 (by decide) (by decide)).trans b16, (y4 17 (by decide) (by decide)).trans b17, (y4 18 (by decide) (by decide)).trans b18⟩
  · intro q1
    have emitK : ∀ S : Nat, S < 256 → M_X5_emit [.ref 21, .int (nI S), .long (0 : Int64)] (qw b A' WT' CD' v) = some (none, qw b (upd A' 13 (nI (c.length + (rlo 0 s).length + 1))) WT' (vp_updL CD' (c.length + (rlo 0 s).length) (stp S 0)) v) := by
      intro S hS
      rw [show (0 : Int64) = lN 0 from rfl, M_emit y3 (by omega) hS (by decide), len]
    have fin : ∀ S : Nat, S < 256 → TO b T n e (pb_bV (M_X5_endRule [.ref 21] (qw b (upd A' 13 (nI (c.length + (rlo 0 s).length + 1))) WT' (vp_updL CD' (c.length + (rlo 0 s).length) (stp S 0)) v)) fun w => some (none, w)) 0 (nI su) 0 (nI te) [] ((c ++ (rlo 0 s).map (fun x => stp x 0) ++ [stp S 0]).set te (stp 70 (c.length + (rlo 0 s).length + 1)) ++ [stp 73 0]) (ru + 1) := by
      intro S hS
      have C1 := SC_push y3 (by omega) (stp S 0)
      rw [len] at C1
      have j : (((nI (c.length + (rlo 0 s).length + 1)).toInt64) <<< (((8 : Int32)).toInt64 &&& 63)) ||| (70 : Int64) = stp 70 (c.length + (rlo 0 s).length + 1) := by
        have o := Nat.two_pow_add_eq_or_of_lt (i := 8) (show 70 < 2 ^ 8 by decide) (c.length + (rlo 0 s).length + 1)
        rw [show ((8 : Int32)).toInt64 &&& 63 = (nI 8).toInt64 &&& 63 from rfl, nI_to64 (by omega), wb_shl _ (by decide), show (70 : Int64) = lN 70 from rfl, wb_or (by omega) (by omega), Nat.mul_comm (c.length + (rlo 0 s).length + 1), ← o]
        unfold stp
        rw [Nat.mul_comm (c.length + (rlo 0 s).length + 1) 256]
      have C2 : SC (upd A' 13 (nI (c.length + (rlo 0 s).length + 1))) (vp_updL (vp_updL CD' (c.length + (rlo 0 s).length) (stp S 0)) te (stp 70 (c.length + (rlo 0 s).length + 1))) ((c ++ (rlo 0 s).map (fun x => stp x 0) ++ [stp S 0]).set te (stp 70 (c.length + (rlo 0 s).length + 1))) := ⟨by rw [List.length_set]; exact C1.1, by rw [List.length_set]; exact C1.2.1, vp_set _ _ C1.2.2 te _⟩
      have l2 : ((c ++ (rlo 0 s).map (fun x => stp x 0) ++ [stp S 0]).set te (stp 70 (c.length + (rlo 0 s).length + 1))).length = c.length + (rlo 0 s).length + 1 := by rw [List.length_set, List.length_append, len, List.length_singleton]
      have a14 : (qw b (upd A' 13 (nI (c.length + (rlo 0 s).length + 1))) WT' (vp_updL CD' (c.length + (rlo 0 s).length) (stp S 0)) v).1 21 14 = nI te := (y4 14 (by decide) (by decide)).trans b14
      rw [e_X5_endRule, a14, if_pos (show nI te < (600 : Int32) from nI_lt (b := 600) (by omega) (by decide)), if_pos (pn_in (show te < 600 by omega) (by decide)), nI_clamp (show te < 2 ^ 31 by omega), show (qw b (upd A' 13 (nI (c.length + (rlo 0 s).length + 1))) WT' (vp_updL CD' (c.length + (rlo 0 s).length) (stp S 0)) v).1 21 13 = nI (c.length + (rlo 0 s).length + 1) from rfl, j, qw_C, r_X5_endRule_31, show (73 : Int32) = nI 73 from rfl, show (0 : Int64) = lN 0 from rfl, M_emit C2 (by omega) (by decide) (by decide), pb_bV_some, pb_bV_some, show (qw b (upd (upd A' 13 (nI (c.length + (rlo 0 s).length + 1))) 13 (nI (((c ++ (rlo 0 s).map (fun x => stp x 0) ++ [stp S 0]).set te (stp 70 (c.length + (rlo 0 s).length + 1))).length + 1))) WT' (vp_updL (vp_updL (vp_updL CD' (c.length + (rlo 0 s).length) (stp S 0)) te (stp 70 (c.length + (rlo 0 s).length + 1))) ((c ++ (rlo 0 s).map (fun x => stp x 0) ++ [stp S 0]).set te (stp 70 (c.length + (rlo 0 s).length + 1))).length (stp 73 0)) v).1 21 18 = nI ru from (y4 18 (by decide) (by decide)).trans b18, nI_1, qw_A, qw_A]
      exact ⟨_, _, _, _, rfl, ⟨(y4 3 (by decide) (by decide)).trans hT.1, (y4 4 (by decide) (by decide)).trans hT.2.1, (y4 5 (by decide) (by decide)).trans hT.2.2.1, hT.2.2.2⟩, (y4 2 (by decide) (by decide)).trans b2, rfl, (y4 8 (by decide) (by decide)).trans b8, (y4 9 (by decide) (by decide)).trans b9, (y4 14 (by decide) (by decide)).trans b14, SK_A y2 rfl, SC_A (SC_push C2 (by omega) _) rfl, (y4 16 (by decide) (by decide)).trans b16, (y4 17 (by decide) (by decide)).trans b17, rfl⟩
    rw [if_neg (fun y => by omega), r_X5_takeBehindResult_21, if_pos rfl, e3, if_pos (z59.mpr q1), r_X5_takeBehindResult_41, show M_X5_release [.ref 21, .int (0 : Int32)] (qw b A WT CD v) = _ from y1, pb_bV_some, show (qw b A' WT' CD' v).1 21 8 = nI su from (y4 8 (by decide) (by decide)).trans b8]
    by_cases q2 : su = 2
    · rw [if_pos (su2.mpr q2), show (71 : Int32) = nI 71 from rfl, emitK 71 (by decide), pb_bV_some, if_pos rfl, if_pos q2]
      exact TO_bV (fin 71 (by decide))
    · rw [if_neg (fun y => q2 (su2.mp y)), show (72 : Int32) = nI 72 from rfl, emitK 72 (by decide), pb_bV_some, if_pos rfl, if_neg q2]
      exact TO_bV (fin 72 (by decide))
  · intro q1 q2
    rw [if_neg q1, r_X5_takeBehindResult_21, if_pos rfl, e3, if_neg (fun y => q2 (z59.mp y))]
    exact TF_bV (tk_fail hT 2)
