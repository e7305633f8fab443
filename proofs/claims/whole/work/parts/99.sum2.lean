theorem tk_lt_of (T : Nat → Int32) (n e : Nat) : tK T n e < 2 ^ 31 := by have := tK_lt T n e; omega
theorem tk_m6 {b : pb_W} {T : Nat → Int32} {n e : Nat} {A WT : Nat → Int32} {CD : Nat → Int64} {v : Int64} (hT : CT T n e A v) (h7 : A 7 = nI 6) (h16 : tK T n e ≠ 16) : M_X5_takeToken [.ref 21] (qw b A WT CD v) = pb_bV (M_X5_takeAtom [.ref 21] (qw b A WT CD v)) fun w => some (none, w) := by
  have := tk_lt_of T n e
  exact tk_mode hT h7 (by decide) this h16
theorem tk_m7 {b : pb_W} {T : Nat → Int32} {n e : Nat} {A WT : Nat → Int32} {CD : Nat → Int64} {v : Int64} (hT : CT T n e A v) (h7 : A 7 = nI 7) (h16 : tK T n e ≠ 16) : M_X5_takeToken [.ref 21] (qw b A WT CD v) = pb_bV (M_X5_takeBehindAtom [.ref 21] (qw b A WT CD v)) fun w => some (none, w) := by
  have := tk_lt_of T n e
  exact tk_mode hT h7 (by decide) this h16
theorem fl_len (c : Nat) : (fl c).length = one01 c := by
  unfold fl one01
  by_cases q : c = 0
  · rw [if_pos q, if_pos q]; rfl
  · rw [if_neg q, if_neg q]; rfl
theorem tok_num {T : Nat → Int32} {n e : Nat} (h : tK T n e = 14) : tV T n e < 100000 := by
  by_cases q : n ≤ tS T n e
  · unfold tK at h
    rw [ite_p q] at h
    omega
  · by_cases le : isLe (T (tS T n e))
    · unfold tK at h
      rw [ite_n q, ite_p le] at h
      have := kw_le (wls T (tS T n e) (tL isLe T n e - tS T n e))
      omega
    · by_cases di : isDi (T (tS T n e))
      · unfold tK at h
        rw [ite_n q, ite_n le, ite_p di] at h
        have l5 : tL isDi T n e - tS T n e ≤ 5 := by
          revert h
          split <;> intro h <;> omega
        have A := adv_le isDi T n (n - tS T n e) (tS T n e)
        have a1 : tS T n e ≤ tL isDi T n e := A.1
        have := dval_lt (T := T) (s := tS T n e) (tL isDi T n e - tS T n e) (fun j h1 h2 => (A.2.2 j h1 (by unfold tL at h2 a1; omega)).2)
        have p5 : 10 ^ (tL isDi T n e - tS T n e) ≤ 10 ^ 5 := Nat.pow_le_pow_right (by decide) l5
        have : (10 : Nat) ^ 5 = 100000 := by decide
        unfold tV
        rw [ite_n le]
        omega
      · unfold tK at h
        rw [ite_n q, ite_n le, ite_n di] at h
        by_cases sg : (T (tS T n e)).toNatClampNeg ∈ sgnl
        · rw [if_pos sg] at h
          have : ∀ c, c ∈ sgnl → 40 ≤ c := by decide
          have := this _ sg
          omega
        · rw [if_neg sg] at h; omega
/-- how a sum ends: both with one fault, or both at one token behind it -/
def SumOut (cb rb : pb_W) (T : Nat → Int32) (n : Nat) (su te : Int32) (ru : Nat) (bs : List Nat) (C0 : List Int64) (g0 sl e i : Nat) (w : pb_W) (B S O : Nat → Int32) (R : Option pb_R) : Prop :=
    (∃ k p B' S' O' P' Q', 1 ≤ k ∧ k ≤ 5 ∧ Fail cb (crun i w) k p ∧ R = some (some (.int 0), ms rb B' S' O' P' Q') ∧ B' 36 = nI k ∧ B' 35 = nI p ∧ frB B B' ∧ ∀ j, j < g0 → S' j = S j ∧ O' j = O j) ∨
    (∃ e' i' w' B' S' O' P' Q' a it cur', crun i w = crun i' w' ∧ i' ≤ e' ∧ e ≤ e' ∧ e' ≤ n ∧ CW cb T n e' w' 7 su 0 te (itm it ++ (itm a ++ bs)) (C0 ++ cur'.map ic) ru ∧ notOp (tK T n e') ∧ R = some (some (.int 1), ms rb B' S' O' P' Q') ∧ MT T n e' B' ∧ B' 38 = nI (g0 + (cur' ++ fl it ++ fl a).length) ∧ seg S' O' g0 (cur' ++ fl it ++ fl a) ∧ (∀ j, j < g0 → S' j = S j ∧ O' j = O j) ∧ hgt (cur' ++ fl it ++ fl a) 0 = some 1 ∧ C0.length + (cur' ++ fl it ++ fl a).length + bs.length + sl ≤ e' ∧ lvok [(a, it)] ∧ frB B B')
def SimP (cb rb : pb_W) (T : Nat → Int32) (n : Nat) (su te : Int32) (ru : Nat) (bs : List Nat) (C0 : List Int64) (g0 sl : Nat) (atom : Bool) (m : Nat) : Prop := ∀ (e i : Nat) (w : pb_W) (lv cur : List (Nat × Nat)) (B S O P Q : Nat → Int32), n - e = m → e ≤ n → i ≤ e → lv ≠ [] → lv.length ≤ 7 → lvok lv → CW cb T n e w (if atom then 6 else 7) su (nI (lv.length - 1)) te (stkL lv ++ bs) (C0 ++ cur.map ic) ru → C0.length + cur.length + pnd lv + bs.length + sl ≤ e → MT T n e B → B 38 = nI (g0 + cur.length) → seg S O g0 cur → lvs P Q lv → hgt cur 0 = some (pnd lv + if atom then 0 else 1) → SumOut cb rb T n su te ru bs C0 g0 sl e i w B S O (pb_run T_X12_sum (18, [some (.ref 64), some (.int (nI (lv.length - 1))), some (.int (if atom then 1 else 0)), none], [], ms rb B S O P Q))
/-- on from a later state -/
theorem SumOut_on {cb rb : pb_W} {T : Nat → Int32} {n : Nat} {su te : Int32} {ru : Nat} {bs : List Nat} {C0 : List Int64} {g0 sl e i e1 i1 : Nat} {w w1 : pb_W} {B S O B1 S1 O1 : Nat → Int32} {R : Option pb_R} (hc : crun i w = crun i1 w1) (he : e ≤ e1) (hB : ∀ k, k ≠ 30 → k ≠ 31 → k ≠ 32 → k ≠ 33 → k ≠ 38 → B1 k = B k) (hS : ∀ j, j < g0 → S1 j = S j ∧ O1 j = O j) (h : SumOut cb rb T n su te ru bs C0 g0 sl e1 i1 w1 B1 S1 O1 R) : SumOut cb rb T n su te ru bs C0 g0 sl e i w B S O R := by
  rcases h with ⟨k, pp, B2, S2, O2, P2, Q2, k1, k5, F1, F2, F3, F4, F5, F6⟩ | ⟨e', i', w2, B2, S2, O2, P2, Q2, a, it, cur', r1, r2, r3, r4, r5, r6, r7, r8, r9, r10, r11, r12, r13, r14, r15⟩
  · exact Or.inl ⟨k, pp, B2, S2, O2, P2, Q2, k1, k5, by rw [hc]; exact F1, F2, F3, F4, fun k a0 a1 a2 a3 a5 a6 a8 => (F5 k a0 a1 a2 a3 a5 a6 a8).trans (hB k a0 a1 a2 a3 a8), fun j hj => ⟨(F6 j hj).1.trans (hS j hj).1, (F6 j hj).2.trans (hS j hj).2⟩⟩
  · exact Or.inr ⟨e', i', w2, B2, S2, O2, P2, Q2, a, it, cur', hc.trans r1, r2, Nat.le_trans he r3, r4, r5, r6, r7, r8, r9, r10, fun j hj => ⟨(r11 j hj).1.trans (hS j hj).1, (r11 j hj).2.trans (hS j hj).2⟩, r12, r13, r14, fun k a0 a1 a2 a3 a5 a6 a8 => (r15 k a0 a1 a2 a3 a5 a6 a8).trans (hB k a0 a1 a2 a3 a8)⟩
theorem sim_true {cb rb : pb_W} {T : Nat → Int32} {n : Nat} (hX : TX rb T n) (hc22 : cb.1 22 = T) {su te : Int32} {ru : Nat} {bs : List Nat} (hbs : ∀ x, x ∈ bs → x / 10 < 5 ∧ x < 100) (hbl : bs.length ≤ 4) {C0 : List Int64} {g0 sl : Nat} (hg0 : g0 ≤ 3000) (m : Nat) (ih : ∀ m', m' < m → ∀ atom, SimP cb rb T n su te ru bs C0 g0 sl atom m') : SimP cb rb T n su te ru bs C0 g0 sl true m := by
  have hn := hX.1
  intro e i w lv cur B S O P Q hm he hi hlv hl7 hok hC hpot hM h38 hseg hlvs hh
  obtain ⟨A, WT, CD, v, ew, hT, hB⟩ := hC
  have hB' := hB
  obtain ⟨b2, b7, b8, b9, b14, bK, bC, b16, b17, b18⟩ := hB'
  have kr := tok_rng T n e
  have klt := tK_lt T n e
  have t4 := ty_le (tK T n e)
  have h36 : (ms rb B S O P Q).1 64 36 = 0 := hM.2.2.2.2.2.2.1
  have sl100 : ∀ x, x ∈ stkL lv ++ bs → x < 100 := by
    intro x hx
    rw [List.mem_append] at hx
    rcases hx with q | q
    · exact (stkL_len lv hok).2 x q
    · exact (hbs x q).2
  have slen : (stkL lv ++ bs).length ≤ 25 := by
    have := (stkL_len lv hok).1
    rw [List.length_append]
    omega
  have lm : (C0 ++ cur.map ic).length = C0.length + cur.length := by rw [List.length_append, List.length_map]
  subst ew
  simp only [if_true, ite_true] at b7 hB hh ⊢
  have E18 : pb_run T_X12_sum (18, [some (.ref 64), some (.int (nI (lv.length - 1))), some (.int (1 : Int32)), none], [], ms rb B S O P Q) = if tK T n e = 14 then pb_run T_X12_sum (61, [some (.ref 64), some (.int (nI (lv.length - 1))), none, some (.int (-1))], [.int (0 : Int32), .ref 64], ms rb B S O P Q) else if 9 ≤ tK T n e ∧ tK T n e < 13 then pb_run T_X12_sum (61, [some (.ref 64), some (.int (nI (lv.length - 1))), none, some (.int (nI (tK T n e - 9)))], [.int (1 : Int32), .ref 64], ms rb B S O P Q) else (if tK T n e = 40 then (if lv.length = 7 then (pb_bI (M_X12_fails [.ref 64, .int (nI 5)] (ms rb B S O P Q)) fun x8 w7 => (if x8 = 0 ∨ x8 = 1 then (some (some (Value.int x8), w7)) else none)) else (pb_bV (M_X12_next [.ref 64] (ms rb B S O P Q)) fun w6 => (pb_run T_X12_sum (18, [some (.ref 64), some (.int (nI lv.length)), some (.int (1 : Int32)), none], [], (pb_wI (pb_wI w6 100 lv.length (0 : Int32)) 101 lv.length (0 : Int32)))))) else (pb_bI (M_X12_fails [.ref 64, .int (nI 2)] (ms rb B S O P Q)) fun x10 w9 => (if x10 = 0 ∨ x10 = 1 then (some (some (Value.int x10), w9)) else none))) := by
    have l1 : 1 ≤ lv.length := by
      cases lv with
      | nil => exact absurd rfl hlv
      | cons _ _ => rw [List.length_cons]; omega
    have el : nI (lv.length - 1) + (1 : Int32) = nI lv.length := by
      rw [nI_1]
      congr 1
      omega
    rw [r_X12_sum_18, h36, if_pos rfl, if_neg (show ¬ (1 : Int32) = 0 by decide), ms_vars hX he hM, pb_bI_some, show (ms rb B S O P Q).1 64 30 = nI (tyK (tK T n e)) from hM.2.1, show (40 : Int32) = nI 40 from rfl, ms_sign hM (by decide) (by decide), pb_bI_some, el]
    simp only [if_pos (pn_in (show lv.length < 8 by omega) (by decide)), nI_clamp (show lv.length < 2 ^ 31 by omega)]
    by_cases q14 : tK T n e = 14
    · rw [if_pos (show nI (tyK (tK T n e)) = (3 : Int32) by rw [ty_3.mpr q14]; rfl), if_neg (show ¬ (9 ≤ tK T n e ∧ tK T n e < 13) by omega), if_pos rfl, if_pos q14]
    · rw [if_neg (show ¬ nI (tyK (tK T n e)) = (3 : Int32) from fun y => q14 (ty_3.mp ((nI_eq (b := 3) (by omega) (by decide)).mp y))), if_neg q14]
      by_cases q9 : 9 ≤ tK T n e ∧ tK T n e < 13
      · rw [if_pos q9, if_neg (pn_m1 _ (by omega)), if_neg (pn_m1 _ (by omega)), if_pos q9]
      · rw [if_neg q9, if_pos rfl, if_neg q9]
        by_cases q40 : tK T n e = 40
        · rw [if_pos q40, if_neg (show ¬ (1 : Int32) = 0 by decide), if_pos q40]
          by_cases q7 : lv.length = 7
          · rw [if_pos q7, if_pos (show nI (lv.length - 1) = (6 : Int32) by rw [q7]; rfl)]
            rfl
          · rw [if_neg q7, if_neg (show ¬ nI (lv.length - 1) = (6 : Int32) from fun y => by have := (nI_eq (b := 6) (show lv.length - 1 < 2 ^ 31 by omega) (by decide)).mp y; omega)]
        · rw [if_neg q40, if_pos rfl, if_neg q40]
          rfl
  have l1 : 1 ≤ lv.length := by
    cases lv with
    | nil => exact absurd rfl hlv
    | cons _ _ => rw [List.length_cons]; omega
  rw [E18]
  have AT := tk_atom (b := cb) (WT := WT) (CD := CD) (br := lv.length - 1) hT hB (by omega) (by omega) (by omega)
  by_cases q15 : tK T n e = 16 ∨ (tK T n e ≠ 40 ∧ tK T n e ≠ 14 ∧ ¬ (9 ≤ tK T n e ∧ tK T n e ≤ 12))
  · -- what cannot stand here
    have n40 : tK T n e ≠ 40 := by omega
    refine Or.inl ⟨fk (tK T n e) 2, tS T n e, upd (upd B 36 (nI (fk (tK T n e) 2))) 35 (nI (tS T n e)), S, O, P, Q, ?_, ?_, ?_, ?_, rfl, rfl, ?_, fun j _ => ⟨rfl, rfl⟩⟩
    · unfold fk; split <;> omega
    · unfold fk; split <;> omega
    · unfold fk
      by_cases q16 : tK T n e = 16
      · rw [if_pos q16]
        exact crun_fail (by decide) (by decide) (tk_unk hT q16)
      · rw [if_neg q16]
        have h3 := q15.resolve_left q16
        by_cases h6 : (C0 ++ cur.map ic).length < 600
        · have F := (AT h6 (fun y => absurd y h3.2.1) rfl).2.2.2.2 h3.1 h3.2.1 h3.2.2
          refine crun_fail (by decide) (by decide) ?_
          rw [tk_m6 hT b7 q16]
          exact TF_bV F
        · refine crun_fail (by decide) (by decide) ?_
          rw [tk_m6 hT b7 q16]
          have e3 : (qw cb A WT CD v).1 21 3 = nI (tK T n e) := hT.1
          have z : ∀ L : Nat, L < 2 ^ 31 → ((nI (tK T n e) = nI L) ↔ tK T n e = L) := fun L hL => nI_eq (by omega) hL
          have st : M_X5_atomStep [.ref 21] (qw cb A WT CD v) = some (some (.int (-1)), qw cb A WT CD v) := by
            rw [e_X5_atomStep, e3, if_neg (show ¬ nI (tK T n e) = (9 : Int32) from fun y => by have := (z 9 (by decide)).mp y; omega), if_neg (show ¬ nI (tK T n e) = (9 : Int32) + 1 from fun y => by have := (z 10 (by decide)).mp y; omega), if_neg (show ¬ nI (tK T n e) = (9 : Int32) + 1 + 1 from fun y => by have := (z 11 (by decide)).mp y; omega), if_neg (show ¬ nI (tK T n e) = (9 : Int32) + 1 + 1 + 1 from fun y => by have := (z 12 (by decide)).mp y; omega), if_neg (show ¬ nI (tK T n e) = (9 : Int32) + 1 + 1 + 1 + 1 + 1 from fun y => by have := (z 14 (by decide)).mp y; omega)]
            exact ite_self _
          rw [e_X5_takeAtom, e3, if_neg (show ¬ nI (tK T n e) = (40 : Int32) from fun y => n40 ((z 40 (by decide)).mp y)), r_X5_takeAtom_26, e3, if_neg (show ¬ nI (tK T n e) = (40 : Int32) from fun y => n40 ((z 40 (by decide)).mp y)), st, pb_bI_some, if_pos rfl]
          exact TF_bV (tk_fail hT 2)
    · rw [if_neg (by omega), if_neg (by omega), if_neg n40, ms_fail hM 2]
    · intro k _ _ _ _ k5 k6 _
      rw [pu_at, if_neg k5, pu_at, if_neg k6]
  · have n15 : tK T n e ≠ 15 := by omega
    have n16 : tK T n e ≠ 16 := by omega
    obtain ⟨u1, u2, u3⟩ := tok_up he n15
    have AT := AT (by omega) (fun y => by have := tok_num y; omega) rfl
    have M6 := tk_m6 (b := cb) (WT := WT) (CD := CD) hT b7 n16
    by_cases q40 : tK T n e = 40
    · rw [if_neg (by omega), if_neg (by omega), if_pos q40]
      by_cases q7 : lv.length = 7
      · refine Or.inl ⟨5, tS T n e, upd (upd B 36 (nI (fk (tK T n e) 5))) 35 (nI (tS T n e)), S, O, P, Q, by decide, by decide, ?_, ?_, ?_, rfl, ?_, fun j _ => ⟨rfl, rfl⟩⟩
        · refine crun_fail (by decide) (by decide) ?_
          rw [M6]
          exact TF_bV (AT.2.1 q40 (by omega))
        · rw [if_pos q7, ms_fail hM 5]
        · show nI (fk (tK T n e) 5) = nI 5
          unfold fk
          rw [if_neg n16]
        · intro k _ _ _ _ k5 k6 _
          rw [pu_at, if_neg k5, pu_at, if_neg k6]
      · obtain ⟨w', c1, c2, c3, c4⟩ := crun_go (i := i) hn hc22 hX.2.2 he hi n15 (by rw [M6]; exact TO_bV (AT.1 q40 (by omega)))
        obtain ⟨B', y1, y2, y3⟩ := ms_next (S := S) (O := O) (P := P) (Q := Q) hX hM.1 hM.2.2.2.1 hM.2.2.2.2.2.2 u2
        have stE : stkL ((0, 0) :: lv) ++ bs = 0 :: (stkL lv ++ bs) := by
          cases lv with
          | nil => exact absurd rfl hlv
          | cons p r => rfl
        have IH := ih (n - tE T n e) (by omega) true (tE T n e) (i + 1) w' ((0, 0) :: lv) cur B' S O (upd P lv.length (nI 0)) (upd Q lv.length (nI 0)) rfl c4 c3 (by simp) (by rw [List.length_cons]; omega) (fun p hp => by
          rw [List.mem_cons] at hp
          rcases hp with q | q
          · rw [q]; exact ⟨Or.inl rfl, Or.inl rfl⟩
          · exact hok p q) (by
          rw [stE, List.length_cons, show lv.length + 1 - 1 = lv.length - 1 + 1 by omega]
          exact c2) (by
          have : pnd ((0, 0) :: lv) = pnd lv := by rw [pnd]; show 0 + 0 + pnd lv = _; omega
          omega) y2 ((y3 38 (by decide) (by decide) (by decide) (by decide)).trans h38) hseg (lvs_set (p := (0, 0)) (lvs_up hlvs (fun d hd => by rw [pu_at, pu_at, if_neg (by omega), if_neg (by omega)]; exact ⟨rfl, rfl⟩)) 0 0 (by rw [pu_at, if_pos rfl]) (by rw [pu_at, if_pos rfl])) (by
          have : pnd ((0, 0) :: lv) = pnd lv := by rw [pnd]; show 0 + 0 + pnd lv = _; omega
          rw [this]
          exact hh)
        rw [if_neg q7, y1, pb_bV_some, ms_P, ms_Q]
        rw [List.length_cons, show lv.length + 1 - 1 = lv.length from rfl] at IH
        exact SumOut_on c1 (Nat.le_of_lt u1) (fun k a0 a1 a2 a3 _ => y3 k a0 a1 a2 a3) (fun j _ => ⟨rfl, rfl⟩) IH
    · -- an atom
      have go : ∀ (p : Nat × Nat), p.1 < 2 → (p.2 < 100000 ∧ (p.1 = 0 ∨ p.2 < 4)) → TO cb T n e (M_X5_takeAtom [.ref 21] (qw cb A WT CD v)) 7 su (nI (lv.length - 1)) te (stkL lv ++ bs) ((C0 ++ cur.map ic) ++ [ic p]) ru → ∀ R : Option pb_R, (∃ B1, MT T n (tE T n e) B1 ∧ sameB (upd B 38 (nI (g0 + cur.length + 1))) B1 ∧ R = pb_run T_X12_sum (18, [some (.ref 64), some (.int (nI (lv.length - 1))), some (.int (0 : Int32)), none], [], ms rb B1 (upd S (g0 + cur.length) (nI p.1)) (upd O (g0 + cur.length) (nI p.2)) P Q)) → SumOut cb rb T n su te ru bs C0 g0 sl e i (qw cb A WT CD v) B S O R := by
        intro p hp hp2 hTO R hR
        have pl := pnd_le lv
        obtain ⟨B1, y2, y3, rfl⟩ := hR
        obtain ⟨w', c1, c2, c3, c4⟩ := crun_go (i := i) hn hc22 hX.2.2 he hi n15 (by rw [M6]; exact TO_bV hTO)
        have IH := ih (n - tE T n e) (by omega) false (tE T n e) (i + 1) w' lv (cur ++ [p]) B1 (upd S (g0 + cur.length) (nI p.1)) (upd O (g0 + cur.length) (nI p.2)) P Q rfl c4 c3 hlv hl7 hok (by
          rw [List.map_append, ← List.append_assoc]
          exact c2) (by rw [List.length_append, List.length_singleton]; omega) y2 (by
          rw [y3 38 (by decide) (by decide) (by decide) (by decide), List.length_append, List.length_singleton]
          rfl) (seg_push hseg p.1 p.2) hlvs (by
          rw [hgt_app, hh]
          show hgt [p] (pnd lv + 0) = some (pnd lv + 1)
          rw [hgt, if_pos hp, if_pos ⟨by omega, hp2⟩, hgt])
        have fr1 : ∀ k, k ≠ 30 → k ≠ 31 → k ≠ 32 → k ≠ 33 → k ≠ 38 → B1 k = B k := fun k a0 a1 a2 a3 a8 => by
          rw [y3 k a0 a1 a2 a3, pu_at, if_neg a8]
        refine SumOut_on c1 (Nat.le_of_lt u1) fr1 (fun j hj => ?_) IH
        rw [pu_at, pu_at, if_neg (by omega), if_neg (by omega)]
        exact ⟨rfl, rfl⟩
      by_cases q14 : tK T n e = 14
      · rw [if_pos q14]
        refine go (0, tV T n e) (show 0 < 2 by decide) ⟨tok_num q14, Or.inl rfl⟩ (AT.2.2.1 q14) _ ?_
        obtain ⟨B1, y1, y2, y3⟩ := ms_next (B := upd B 38 (nI (g0 + cur.length + 1))) (S := upd S (g0 + cur.length) (nI 0)) (O := upd O (g0 + cur.length) (nI (tV T n e))) (P := P) (Q := Q) hX hM.1 hM.2.2.2.1 hM.2.2.2.2.2.2 u2
        refine ⟨B1, y2, y3, ?_⟩
        rw [r_X12_sum_61, if_pos rfl, show (ms rb B S O P Q).1 64 33 = nI (tV T n e) from hM.2.2.2.2.1 q14, show (0 : Int32) = nI 0 from rfl, ms_puts h38 (by omega), pb_bV_some, y1, pb_bV_some]
      · have q9 : 9 ≤ tK T n e ∧ tK T n e < 13 := by omega
        rw [if_neg q14, if_pos q9]
        refine go (1, tK T n e - 9) (show 1 < 2 by decide) ⟨by show tK T n e - 9 < 100000; omega, Or.inr (by show tK T n e - 9 < 4; omega)⟩ ?_ _ ?_
        · have := AT.2.2.2.1 q9.1 (by omega)
          have e7 : ic (1, tK T n e - 9) = stp (tK T n e - 7) 0 := by
            show stp (tK T n e - 9 + 2) 0 = stp (tK T n e - 7) 0
            congr 1
            omega
          rw [e7]
          exact this
        · obtain ⟨B1, y1, y2, y3⟩ := ms_next (B := upd B 38 (nI (g0 + cur.length + 1))) (S := upd S (g0 + cur.length) (nI 1)) (O := upd O (g0 + cur.length) (nI (tK T n e - 9))) (P := P) (Q := Q) hX hM.1 hM.2.2.2.1 hM.2.2.2.2.2.2 u2
          refine ⟨B1, y2, y3, ?_⟩
          rw [r_X12_sum_61, if_neg (pn_m1 _ (by omega)), show (1 : Int32) = nI 1 from rfl, ms_puts h38 (by omega), pb_bV_some, y1, pb_bV_some]
