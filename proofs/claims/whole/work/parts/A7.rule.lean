/-! ===== READER: a rule in step ===== -/
abbrev Rl : Type := List On × List (Nat × Nat) × List (Nat × Nat)
def r_u (r : Rl) : List Int64 := if r.2.2 = [] then [] else r.2.2.map ic ++ [stp 72 0]
def r_end (r : Rl) (off : Nat) : Nat := off + (cmpT r.1 []).length + 1 + r.2.1.length + 1 + (r_u r).length
def rcode (r : Rl) (off : Nat) : List Int64 := cmpT r.1 [] ++ [stp 70 (r_end r off)] ++ r.2.1.map ic ++ [stp 71 0] ++ r_u r ++ [stp 73 0]
def rcs (rs : List Rl) : List Int64 := rs.foldl (fun c r => c ++ rcode r c.length) []
theorem rcs_sn (rs : List Rl) (r : Rl) : rcs (rs ++ [r]) = rcs rs ++ rcode r (rcs rs).length := by simp [rcs]
def dR : Rl := ([], [], [])
/-- where a rule lies -/
def RRep (b : pb_W) (S O : Nat → Int32) (x : Nat) (r : Rl) (km gm : Nat) : Prop := ∃ f h, b.1 85 x = nI f ∧ b.1 86 x = nI (f + r.1.length) ∧ b.1 87 x = nI h ∧ b.1 88 x = nI (h + r.2.1.length) ∧ b.1 89 x = nI (h + r.2.1.length + r.2.2.length) ∧ f + r.1.length ≤ km ∧ h + r.2.1.length + r.2.2.length ≤ gm ∧ (∀ j, j < r.1.length → ORep b S O (f + j) (r.1.getD j dO) gm) ∧ seg S O h r.2.1 ∧ seg S O (h + r.2.1.length) r.2.2 ∧ hgt r.2.1 0 = some 1 ∧ (r.2.2 = [] ∨ hgt r.2.2 0 = some 1) ∧ 1 ≤ r.1.length ∧ o_beg (r.1.getD 0 dO) = 1
theorem c_rule {cb : pb_W} {T : Nat → Int32} {n e i : Nat} {w : pb_W} {su br te : Int32} {s : List Nat} {C : List Int64} {ru : Nat} (hn : n ≤ 600) (hc22 : cb.1 22 = T) (hb : ∀ k, bY (T k)) (he : e ≤ n) (hi : i ≤ e) (hru : ru < 2 ^ 31) (h : CW cb T n e w 0 su br te s C ru) : (tK T n e = 0 → ru < 30 → ∃ w', crun i w = crun (i + 1) w' ∧ CW cb T n (tE T n e) w' 1 su br te s C ru) ∧ (tK T n e = 0 → 30 ≤ ru → Fail cb (crun i w) 4 (tS T n e)) ∧ (tK T n e ≠ 0 → tK T n e ≠ 15 → Fail cb (crun i w) (fk (tK T n e) 2) (tS T n e)) ∧ (tK T n e = 15 → Done cb (crun i w) C ru) := by
  obtain ⟨A, WT, CD, v, rfl, hT, b2, b7, b8, b9, b14, bK, bC, b16, b17, b18⟩ := h
  have klt := tK_lt T n e
  have e3 : (qw cb A WT CD v).1 21 3 = nI (tK T n e) := hT.1
  have e18 : (qw cb A WT CD v).1 21 18 = nI ru := b18
  have md0 : tK T n e ≠ 16 → M_X5_takeToken [.ref 21] (qw cb A WT CD v) = pb_bV (M_X5_takeAtRule [.ref 21] (qw cb A WT CD v)) fun w => some (none, w) := fun h16 => tk_mode hT b7 (by decide) (tk_lt_of T n e) h16
  refine ⟨fun q0 q30 => ?_, fun q0 q30 => ?_, fun q0 q15 => ?_, fun q15 => ?_⟩
  · obtain ⟨w', c1, c2, -⟩ := crun_go (b := cb) (i := i) (md := 1) (su := su) (br := br) (te := te) (s := s) (c := C) (ru := ru) (w := qw cb A WT CD v) hn hc22 hb he hi (by omega) (by
      rw [md0 (by omega), e_X5_takeAtRule, e3, q0, if_pos (show nI 0 = (0 : Int32) from rfl), e18, if_pos (show nI ru < (30 : Int32) from nI_lt (b := 30) q30 (by decide)), r_X5_takeAtRule_24, e3, q0, if_pos (show nI 0 = (0 : Int32) from rfl), qw_A]
      exact TO_bV ⟨_, WT, CD, v, rfl, hT, b2, rfl, b8, b9, b14, SK_A bK rfl, SC_A bC rfl, b16, b17, b18⟩)
    exact ⟨w', c1, c2⟩
  · refine crun_fail (by decide) (by decide) ?_
    rw [md0 (by omega), e_X5_takeAtRule, e3, q0, if_pos (show nI 0 = (0 : Int32) from rfl), e18, if_neg (show ¬ nI ru < (30 : Int32) from nI_nlt (b := 30) q30 hru)]
    exact TF_bV (tk_fail hT 4)
  · unfold fk
    by_cases q16 : tK T n e = 16
    · rw [if_pos q16]
      exact crun_fail (by decide) (by decide) (tk_unk hT q16)
    · rw [if_neg q16]
      refine crun_fail (by decide) (by decide) ?_
      have n0 : ¬ nI (tK T n e) = (0 : Int32) := nI_ne0 (by omega) (by omega)
      rw [md0 q16, e_X5_takeAtRule, e3, if_neg n0, r_X5_takeAtRule_24, e3, if_neg n0, if_neg (show ¬ nI (tK T n e) = (15 : Int32) from fun y => q15 ((nI_eq (b := 15) (by omega) (by decide)).mp y))]
      exact TF_bV (tk_fail hT 2)
  · refine crun_end (T := T) (n := n) (e := e) (md := 0) (su := su) (br := br) (te := te) (s := s) q15 ?_
    rw [md0 (by omega), e_X5_takeAtRule, e3, q15, if_neg (show ¬ nI 15 = (0 : Int32) by decide), r_X5_takeAtRule_24, e3, q15, if_neg (show ¬ nI 15 = (0 : Int32) by decide), if_pos (show nI 15 = (15 : Int32) from rfl)]
    exact TO_bV ⟨A, WT, CD, v, rfl, hT, b2, b7, b8, b9, b14, bK, bC, b16, b17, b18⟩
theorem c_kind {cb : pb_W} {T : Nat → Int32} {n e i : Nat} {w : pb_W} {su br te : Int32} {s : List Nat} {C : List Int64} {ru : Nat} (hn : n ≤ 600) (hc22 : cb.1 22 = T) (hb : ∀ k, bY (T k)) (he : e ≤ n) (hi : i ≤ e) (h : CW cb T n e w 5 su br te s C ru) : (tK T n e = 2 → ∃ w', crun i w = crun (i + 1) w' ∧ CW cb T n (tE T n e) w' 6 2 0 te s C ru) ∧ (tK T n e ≠ 2 → Fail cb (crun i w) (fk (tK T n e) 2) (tS T n e)) := by
  obtain ⟨A, WT, CD, v, rfl, hT, b2, b7, b8, b9, b14, bK, bC, b16, b17, b18⟩ := h
  have klt := tK_lt T n e
  have e3 : (qw cb A WT CD v).1 21 3 = nI (tK T n e) := hT.1
  have md5 : tK T n e ≠ 16 → M_X5_takeToken [.ref 21] (qw cb A WT CD v) = pb_bV (M_X5_takeBehindThen [.ref 21] (qw cb A WT CD v)) fun w => some (none, w) := fun h16 => tk_mode hT b7 (by decide) (tk_lt_of T n e) h16
  refine ⟨fun q => ?_, fun q => ?_⟩
  · obtain ⟨w', c1, c2, -⟩ := crun_go (b := cb) (i := i) (md := 6) (su := 2) (br := 0) (te := te) (s := s) (c := C) (ru := ru) (w := qw cb A WT CD v) hn hc22 hb he hi (by omega) (by
      rw [md5 (by omega), e_X5_takeBehindThen, e3, q, if_pos (show nI 2 = (2 : Int32) from rfl), e_X5_openSum, pb_bV_some, qw_A, qw_A, qw_A]
      exact TO_bV ⟨_, WT, CD, v, rfl, hT, b2, rfl, rfl, rfl, b14, SK_A bK rfl, SC_A bC rfl, b16, b17, b18⟩)
    exact ⟨w', c1, c2⟩
  · unfold fk
    by_cases q16 : tK T n e = 16
    · rw [if_pos q16]
      exact crun_fail (by decide) (by decide) (tk_unk hT q16)
    · rw [if_neg q16]
      refine crun_fail (by decide) (by decide) ?_
      rw [md5 q16, e_X5_takeBehindThen, e3, if_neg (show ¬ nI (tK T n e) = (2 : Int32) from fun y => q ((nI_eq (b := 2) (by omega) (by decide)).mp y))]
      exact TF_bV (tk_fail hT 2)
/-- behind the sum of a kind or of units -/
theorem c_res {cb : pb_W} {T : Nat → Int32} {n e i : Nat} {w : pb_W} {su te a it : Nat} {cur : List (Nat × Nat)} {C : List Int64} {ru : Nat} (hn : n ≤ 600) (hc22 : cb.1 22 = T) (hb : ∀ k, bY (T k)) (he : e ≤ n) (hi : i ≤ e) (hsu : su = 2 ∨ su = 3) (hok : lvok [(a, it)]) (hno : notOp (tK T n e)) (hte : te < C.length) (hpot : C.length + (cur ++ fl it ++ fl a).length + 1 ≤ e) (h : CW cb T n e w 7 (nI su) 0 (nI te) (itm it ++ (itm a ++ [])) (C ++ cur.map ic) ru) :
    (tK T n e = 3 → su = 2 → ∃ w', crun i w = crun (i + 1) w' ∧ CW cb T n (tE T n e) w' 6 3 0 (nI te) [] (C ++ (cur ++ fl it ++ fl a).map ic ++ [stp 71 0]) ru) ∧ (tK T n e = 59 → ∃ w', crun i w = crun (i + 1) w' ∧ CW cb T n (tE T n e) w' 0 (nI su) 0 (nI te) [] ((C ++ (cur ++ fl it ++ fl a).map ic ++ [stp (if su = 2 then 71 else 72) 0]).set te (stp 70 (C.length + (cur ++ fl it ++ fl a).length + 1)) ++ [stp 73 0]) (ru + 1)) ∧ (¬ (tK T n e = 3 ∧ su = 2) → tK T n e ≠ 59 → Fail cb (crun i w) (fk (tK T n e) 2) (tS T n e)) := by
  obtain ⟨A, WT, CD, v, rfl, hT, hB⟩ := h
  obtain ⟨oa, oi⟩ := hok (a, it) (by simp)
  have oa : a = 0 ∨ a = 43 ∨ a = 45 := oa
  have oi : it = 0 ∨ it = 42 ∨ it = 47 := oi
  have klt := tK_lt T n e
  have x1 := rl_app (m := 0) (itm it) (itm a ++ []) (fun x hx => by omega)
  have x2 := rl_app (m := 0) (itm a) [] (fun x hx => by omega)
  have rk0 : rlk 0 (itm it ++ (itm a ++ [])) = [] := by rw [x1.1, x2.1]; rfl
  have ro0 : rlo 0 (itm it ++ (itm a ++ [])) = itm it ++ itm a := by rw [x1.2, x2.2]; show itm it ++ (itm a ++ []) = _; rw [List.append_nil]
  have li := itm_len it
  have la := itm_len a
  have fi := fl_len it
  have fa := fl_len a
  have ll : (cur ++ fl it ++ fl a).length = cur.length + one01 it + one01 a := by rw [List.length_append, List.length_append, fi, fa]
  have lic : (C ++ cur.map ic).length = C.length + cur.length := by rw [List.length_append, List.length_map]
  have lro : (itm it ++ itm a).length = one01 it + one01 a := by rw [List.length_append, li, la]
  have m2 : (C ++ cur.map ic) ++ (itm it ++ itm a).map (fun x => stp x 0) = C ++ (cur ++ fl it ++ fl a).map ic := by rw [List.map_append, List.map_append, List.map_append, map_ic_fl (by omega), map_ic_fl (by omega), List.append_assoc, List.append_assoc]
  have sx : ∀ x, x ∈ itm it ++ (itm a ++ []) → x < 100 := by
    intro x hx
    rw [List.append_nil, List.mem_append] at hx
    rcases hx with q | q
    · exact ((itm_i oi).1 x q).2.1
    · exact ((itm_a oa).1 x q).2.2.1
  by_cases q15 : tK T n e = 15 ∨ tK T n e = 16
  · refine ⟨fun q => by omega, fun q => by omega, fun _ _ => ?_⟩
    unfold fk
    by_cases q16 : tK T n e = 16
    · rw [if_pos q16]
      exact crun_fail (by decide) (by decide) (tk_unk hT q16)
    · rw [if_neg q16]
      refine crun_fail (by decide) (by decide) ?_
      have e3 : (qw cb A WT CD v).1 21 3 = nI (tK T n e) := hT.1
      have su0 : ¬ nI su = (0 : Int32) := nI_ne0 (by omega) (by omega)
      have su1 : ¬ nI su = (1 : Int32) := fun y => by have := (nI_eq (b := 1) (show su < 2 ^ 31 by omega) (by decide)).mp y; omega
      have k15 : tK T n e = 15 := by omega
      rw [tk_m7 hT hB.2.1 q16, e_X5_takeBehindAtom, tk_noop hT (tk_lt_of T n e) hno, pb_bI_some, if_pos rfl, show (qw cb A WT CD v).1 21 9 = 0 from hB.2.2.2.1, if_neg (show ¬ (0 : Int32) < 0 by decide), show (qw cb A WT CD v).1 21 8 = nI su from hB.2.2.1, if_neg su0, if_neg su1, e_X5_takeBehindResult, e3, k15, if_neg (show ¬ nI 15 = (3 : Int32) by decide), r_X5_takeBehindResult_21, if_pos rfl, e3, k15, if_neg (show ¬ nI 15 = (59 : Int32) by decide)]
      exact TF_bV (TF_bV (tk_fail hT 2))
  · have n15 : tK T n e ≠ 15 := by omega
    obtain ⟨u1, u2, u3⟩ := tok_up he n15
    have R := tk_result (b := cb) hT hB hsu (tk_lt_of T n e) hno sx rk0 (by rw [ro0, lic, lro]; omega) (by rw [lic]; omega)
    rw [ro0, m2, lic, lro] at R
    have eL : C.length + cur.length + (one01 it + one01 a) + 1 = C.length + (cur ++ fl it ++ fl a).length + 1 := by omega
    rw [eL] at R
    have M7 := tk_m7 (b := cb) (WT := WT) (CD := CD) hT hB.2.1 (show tK T n e ≠ 16 by omega)
    refine ⟨fun q1 q2 => ?_, fun q => ?_, fun q1 q2 => ?_⟩
    · obtain ⟨w', c1, c2, -⟩ := crun_go (i := i) hn hc22 hb he hi n15 (by rw [M7]; exact TO_bV (R.1 q1 q2))
      exact ⟨w', c1, c2⟩
    · obtain ⟨w', c1, c2, -⟩ := crun_go (i := i) hn hc22 hb he hi n15 (by rw [M7]; exact TO_bV (R.2.1 q))
      exact ⟨w', c1, c2⟩
    · unfold fk
      rw [if_neg (by omega)]
      refine crun_fail (by decide) (by decide) ?_
      rw [M7]
      exact TF_bV (R.2.2 q1 q2)
