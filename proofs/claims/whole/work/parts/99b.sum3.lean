theorem MT_up {T : Nat → Int32} {n e : Nat} {B B1 : Nat → Int32} (h : MT T n e B) (q : ∀ k, k ≠ 38 → B1 k = B k) : MT T n e B1 := ⟨(q 29 (by decide)).trans h.1, (q 30 (by decide)).trans h.2.1, (q 31 (by decide)).trans h.2.2.1, (q 32 (by decide)).trans h.2.2.2.1, fun z => (q 33 (by decide)).trans (h.2.2.2.2.1 z), fun z => (q 33 (by decide)).trans (h.2.2.2.2.2.1 z), (q 36 (by decide)).trans h.2.2.2.2.2.2.1, (q 35 (by decide)).trans h.2.2.2.2.2.2.2⟩
theorem ms_flush {rb : pb_W} {B S O P Q : Nat → Int32} {g0 c : Nat} {cur : List (Nat × Nat)} (hc : c = 0 ∨ 2 ≤ c) (hc2 : c < 100) (h38 : B 38 = nI (g0 + cur.length)) (hseg : seg S O g0 cur) (hl : g0 + cur.length < 4000) (K : pb_W → Option pb_R) : ∃ B1 S1 O1, (if nI c = (0 : Int32) then K (ms rb B S O P Q) else pb_bV (M_X12_puts [.ref 64, .int (nI c), .int (0 : Int32)] (ms rb B S O P Q)) K) = K (ms rb B1 S1 O1 P Q) ∧ B1 38 = nI (g0 + (cur ++ fl c).length) ∧ (∀ k, k ≠ 38 → B1 k = B k) ∧ seg S1 O1 g0 (cur ++ fl c) ∧ ∀ j, j < g0 → S1 j = S j ∧ O1 j = O j := by
  by_cases q : c = 0
  · subst q
    refine ⟨B, S, O, by rw [if_pos (show nI 0 = (0 : Int32) from rfl)], ?_, fun _ _ => rfl, ?_, fun _ _ => ⟨rfl, rfl⟩⟩
    · rw [show cur ++ fl 0 = cur by simp [fl]]; exact h38
    · rw [show cur ++ fl 0 = cur by simp [fl]]; exact hseg
  · have f : fl c = [(c, 0)] := if_neg q
    rw [f]
    refine ⟨upd B 38 (nI (g0 + cur.length + 1)), upd S (g0 + cur.length) (nI c), upd O (g0 + cur.length) (nI 0), ?_, ?_, fun k hk => ?_, seg_push hseg c 0, fun j hj => ?_⟩
    · rw [if_neg (nI_ne0 (by omega) (by omega)), ms_puts h38 hl, pb_bV_some]
      rfl
    · rw [List.length_append, List.length_singleton]
      rfl
    · rw [pu_at, if_neg hk]
    · rw [pu_at, pu_at, if_neg (by omega), if_neg (by omega)]
      exact ⟨rfl, rfl⟩
theorem rl_head {m : Nat} {l : List Nat} (h : ∀ x, l.head? = some x → x / 10 < m) : rlk m l = l ∧ rlo m l = [] := by
  cases l with
  | nil => exact ⟨rfl, rfl⟩
  | cons x t => exact rl_stop (h x rfl)
theorem itm_len (c : Nat) : (itm c).length = one01 c := by
  unfold itm one01
  by_cases q : c = 0
  · rw [if_pos q, if_pos q]; rfl
  · rw [if_neg q, if_neg q]; rfl
theorem opc_i {k : Nat} (h : k = 42 ∨ k = 47) : opc k / 10 = 6 ∧ itm k = [opc k] := by
  rcases h with h | h <;> subst h <;> decide
theorem opc_a {k : Nat} (h : k = 43 ∨ k = 45) : opc k / 10 = 5 ∧ itm k = [opc k] := by
  rcases h with h | h <;> subst h <;> decide
/-- what the stack gives where a number stands behind it -/
theorem stk_rel {a it : Nat} {r : List (Nat × Nat)} {bs : List Nat} (ha : a = 0 ∨ a = 43 ∨ a = 45) (hi : it = 0 ∨ it = 42 ∨ it = 47) (hbs : ∀ x, x ∈ bs → x / 10 < 5 ∧ x < 100) : ∃ t, stkL ((a, it) :: r) ++ bs = itm it ++ (itm a ++ t) ∧ (r = [] → t = bs) ∧ (r ≠ [] → t = 0 :: (stkL r ++ bs)) ∧ rlk 6 (itm it ++ (itm a ++ t)) = itm a ++ t ∧ rlo 6 (itm it ++ (itm a ++ t)) = itm it ∧ rlk 5 (itm it ++ (itm a ++ t)) = t ∧ rlo 5 (itm it ++ (itm a ++ t)) = itm it ++ itm a := by
  obtain ⟨t, t1, t2, t3⟩ := stk_top (a := a) (i := it) (r := r) bs
  have th : ∀ x, t.head? = some x → x / 10 < 5 := by
    intro x hx
    by_cases q : r = []
    · rw [t2 q] at hx
      exact (hbs x (List.mem_of_mem_head? hx)).1
    · rw [t3 q] at hx
      have : x = 0 := by simpa using hx.symm
      omega
  obtain ⟨i1, -⟩ := itm_i hi
  obtain ⟨a1, -⟩ := itm_a ha
  have h6 := rl_app (m := 6) (itm it) (itm a ++ t) (fun x hx => (i1 x hx).1)
  have h5 := rl_app (m := 5) (itm it) (itm a ++ t) (fun x hx => by have := (i1 x hx).1; omega)
  have h5a := rl_app (m := 5) (itm a) t (fun x hx => (a1 x hx).1)
  have e6 := rl_head (m := 6) (l := itm a ++ t) (by
    intro x hx
    cases ia : itm a with
    | nil =>
      rw [ia, List.nil_append] at hx
      have := th x hx
      omega
    | cons y ys =>
      rw [ia] at hx
      have xy : y = x := by simpa using hx
      have := (a1 y (by rw [ia]; simp)).2.1
      omega)
  have e5 := rl_head (m := 5) (l := t) th
  refine ⟨t, t1, t2, t3, ?_, ?_, ?_, ?_⟩
  · rw [h6.1, e6.1]
  · rw [h6.2, e6.2, List.append_nil]
  · rw [h5.1, h5a.1, e5.1]
  · rw [h5.2, h5a.2, e5.2, List.append_nil]
theorem stk_cons {a it : Nat} {r : List (Nat × Nat)} {bs t : List Nat} (h2 : r = [] → t = bs) (h3 : r ≠ [] → t = 0 :: (stkL r ++ bs)) : stkL ((a, it) :: r) ++ bs = itm it ++ (itm a ++ t) := by
  obtain ⟨t', t1, t2, t3⟩ := stk_top (a := a) (i := it) (r := r) bs
  rw [t1]
  by_cases q : r = []
  · rw [t2 q, h2 q]
  · rw [t3 q, h3 q]
theorem sim_false {cb rb : pb_W} {T : Nat → Int32} {n : Nat} (hX : TX rb T n) (hc22 : cb.1 22 = T) {su te : Int32} {ru : Nat} {bs : List Nat} (hbs : ∀ x, x ∈ bs → x / 10 < 5 ∧ x < 100) (hbl : bs.length ≤ 4) {C0 : List Int64} {g0 sl : Nat} (hg0 : g0 ≤ 3000) (m : Nat) (ih : ∀ m', m' < m → ∀ atom, SimP cb rb T n su te ru bs C0 g0 sl atom m') : SimP cb rb T n su te ru bs C0 g0 sl false m := by
  have hn := hX.1
  intro e i w lv cur B S O P Q hm he hi hlv hl7 hok hC hpot hM h38 hseg hlvs hh
  obtain ⟨A, WT, CD, v, ew, hT, hB⟩ := hC
  have b7 : A 7 = nI 7 := hB.2.1
  have kr := tok_rng T n e
  have klt := tK_lt T n e
  have sl100 : ∀ x, x ∈ stkL lv ++ bs → x < 100 := by
    intro x hx
    rw [List.mem_append] at hx
    rcases hx with q | q
    · exact (stkL_len lv hok).2 x q
    · exact (hbs x q).2
  have slen : (stkL lv ++ bs).length ≤ 25 := by
    have := (stkL_len lv hok).1
    rw [List.length_append]
    omega
  have lm : (C0 ++ cur.map ic).length = C0.length + cur.length := by rw [List.length_append, List.length_map]
  subst ew
  cases lv with
  | nil => exact absurd rfl hlv
  | cons pr r =>
  obtain ⟨a, it⟩ := pr
  obtain ⟨oa, oi⟩ := hok (a, it) (by simp)
  have oa : a = 0 ∨ a = 43 ∨ a = 45 := oa
  have oi : it = 0 ∨ it = 42 ∨ it = 47 := oi
  have okr : lvok r := fun p hp => hok p (by simp [hp])
  obtain ⟨p1, p2, p3⟩ := lvs_top hlvs
  have p1 : P r.length = nI a := p1
  have p2 : Q r.length = nI it := p2
  obtain ⟨t, t1, t2, t3, rk6, ro6, rk5, ro5⟩ := stk_rel (r := r) oa oi hbs
  rw [t1] at hB sl100 slen
  have pe : pnd ((a, it) :: r) = one01 a + one01 it + pnd r := rfl
  rw [pe] at hpot hh
  have lc : ((a, it) :: r).length - 1 = r.length := rfl
  rw [lc] at hB ⊢
  rw [List.length_cons] at hl7
  have d8 : pb_in (nI r.length) 8 := pn_in (by omega) (by decide)
  have li := itm_len it
  have la := itm_len a
  have fi := fl_len it
  have fa := fl_len a
  have ll : (itm it ++ (itm a ++ t)).length = one01 it + (one01 a + t.length) := by rw [List.length_append, List.length_append, li, la]
  -- what waits for an item is put
  obtain ⟨B1, S1, O1, f1, f2, f3, f4, f5⟩ := ms_flush (rb := rb) (B := B) (S := S) (O := O) (P := P) (Q := Q) (c := it) (by omega) (by omega) h38 hseg (by omega) (fun w => pb_run T_X12_sum (157, [some (.ref 64), some (.int (nI r.length)), some (.int (0 : Int32)), none], [], w))
  have E18 : pb_run T_X12_sum (18, [some (.ref 64), some (.int (nI r.length)), some (.int (0 : Int32)), none], [], ms rb B S O P Q) = pb_run T_X12_sum (157, [some (.ref 64), some (.int (nI r.length)), some (.int (0 : Int32)), none], [], ms rb B1 S1 O1 P Q) := by
    rw [← f1, r_X12_sum_18, show (ms rb B S O P Q).1 64 36 = 0 from hM.2.2.2.2.2.2.1, if_pos rfl, if_pos rfl, if_pos d8, if_pos d8, nI_clamp (show r.length < 2 ^ 31 by omega), show (ms rb B S O P Q).1 101 r.length = nI it from p2]
  have hM1 := MT_up hM f3
  have l1 : (cur ++ fl it).length = cur.length + one01 it := by rw [List.length_append, fi]
  have m1 : (C0 ++ cur.map ic) ++ (itm it).map (fun x => stp x 0) = C0 ++ (cur ++ fl it).map ic := by rw [List.map_append, map_ic_fl (by omega), List.append_assoc]
  have m2 : (C0 ++ cur.map ic) ++ (itm it ++ itm a).map (fun x => stp x 0) = C0 ++ (cur ++ fl it ++ fl a).map ic := by rw [List.map_append, List.map_append, List.map_append, map_ic_fl (by omega), map_ic_fl (by omega), List.append_assoc, List.append_assoc]
  have h1 : hgt (cur ++ fl it) 0 = some (1 + (one01 a + pnd r)) := hgt_fl (by rw [hh]; show some (one01 a + one01 it + pnd r + 1) = _; congr 1; omega) (by omega)
  have h2 : hgt (cur ++ fl it ++ fl a) 0 = some (1 + pnd r) := hgt_fl (by rw [h1]; congr 1; omega) (by omega)
  have S42 := ms_sign (b := rb) (S := S1) (O := O1) (P := P) (Q := upd Q r.length (nI 0)) hM1 (c := 42) (by decide) (by decide)
  have S47 := ms_sign (b := rb) (S := S1) (O := O1) (P := P) (Q := upd Q r.length (nI 0)) hM1 (c := 47) (by decide) (by decide)
  show SumOut cb rb T n su te ru bs C0 g0 sl e i (qw cb A WT CD v) B S O (pb_run T_X12_sum (18, [some (.ref 64), some (.int (nI r.length)), some (.int (0 : Int32)), none], [], ms rb B S O P Q))
  rw [E18]
  by_cases qi : tK T n e = 42 ∨ tK T n e = 47
  · have n15 : tK T n e ≠ 15 := by omega
    obtain ⟨u1, u2, u3⟩ := tok_up he n15
    obtain ⟨o6, ot⟩ := opc_i qi
    have tOp := tk_op (b := cb) hT hB sl100 (by omega) (by rw [o6, rk6, List.length_append]; omega) (by rw [o6, ro6, li, lm]; omega)
    rw [o6, rk6, ro6, m1] at tOp
    obtain ⟨w', c1, c2, c3, c4⟩ := crun_go (i := i) hn hc22 hX.2.2 he hi n15 (by rw [tk_m7 hT b7 (by omega)]; exact TO_bV tOp)
    have ev : B1 33 = nI (tK T n e) := hM1.2.2.2.2.2.1 (by omega)
    obtain ⟨B2, y1, y2, y3⟩ := ms_next (S := S1) (O := O1) (P := P) (Q := upd (upd Q r.length (nI 0)) r.length (nI (tK T n e))) hX hM1.1 hM1.2.2.2.1 hM1.2.2.2.2.2.2 u2
    have Er : pb_run T_X12_sum (157, [some (.ref 64), some (.int (nI r.length)), some (.int (0 : Int32)), none], [], ms rb B1 S1 O1 P Q) = pb_run T_X12_sum (18, [some (.ref 64), some (.int (nI r.length)), some (.int (1 : Int32)), none], [], ms rb B2 S1 O1 P (upd (upd Q r.length (nI 0)) r.length (nI (tK T n e)))) := by
      rw [r_X12_sum_157, if_pos d8, nI_clamp (show r.length < 2 ^ 31 by omega), ms_Q, show (42 : Int32) = nI 42 from rfl, show upd Q r.length (0 : Int32) = upd Q r.length (nI 0) from rfl, S42, pb_bI_some]
      by_cases q42 : tK T n e = 42
      · rw [if_pos q42, if_neg (show ¬ (1 : Int32) = 0 by decide), if_pos d8, show (ms rb B1 S1 O1 P (upd Q r.length (nI 0))).1 64 33 = nI (tK T n e) from ev, ms_Q, y1, pb_bV_some]
      · rw [if_neg q42, if_pos rfl, show (47 : Int32) = nI 47 from rfl, S47, pb_bI_some, if_pos (show tK T n e = 47 by omega), if_neg (show ¬ (1 : Int32) = 0 by decide), if_pos d8, show (ms rb B1 S1 O1 P (upd Q r.length (nI 0))).1 64 33 = nI (tK T n e) from ev, ms_Q, y1, pb_bV_some]
    rw [Er]
    have k0 : one01 (tK T n e) = 1 := if_neg (by omega)
    have IH := ih (n - tE T n e) (by omega) true (tE T n e) (i + 1) w' ((a, tK T n e) :: r) (cur ++ fl it) B2 S1 O1 P (upd (upd Q r.length (nI 0)) r.length (nI (tK T n e))) rfl c4 c3 (by simp) (by rw [List.length_cons]; omega) (fun p hp => by
      rw [List.mem_cons] at hp
      rcases hp with q | q
      · rw [q]; exact ⟨oa, by show tK T n e = 0 ∨ tK T n e = 42 ∨ tK T n e = 47; omega⟩
      · exact okr p q) (by
      rw [stk_cons t2 t3, ot]
      exact c2) (by
      have : pnd ((a, tK T n e) :: r) = one01 a + one01 (tK T n e) + pnd r := rfl
      rw [this, l1]
      omega) y2 (by rw [y3 38 (by decide) (by decide) (by decide) (by decide)]; exact f2) f4 (lvs_set (p := (0, 0)) (lvs_up p3 (fun d hd => by rw [pu_at, pu_at, if_neg (by omega), if_neg (by omega)]; exact ⟨rfl, rfl⟩)) a (tK T n e) p1 (by rw [pu_at, if_pos rfl])) (by
      have : pnd ((a, tK T n e) :: r) = one01 a + one01 (tK T n e) + pnd r := rfl
      rw [this, h1, k0]
      show some _ = some (_ + 0)
      congr 1
      omega)
    exact SumOut_on c1 (Nat.le_of_lt u1) (fun k a0 a1 a2 a3 a8 => (y3 k a0 a1 a2 a3).trans (f3 k a8)) f5 IH
  · -- what waits for a sum is put
    have o1 : one01 it ≤ 1 := by unfold one01; split <;> omega
    have o2 : one01 a ≤ 1 := by unfold one01; split <;> omega
    obtain ⟨B2, S2, O2, g1, g2, g3, g4, g5⟩ := ms_flush (rb := rb) (B := B1) (S := S1) (O := O1) (P := P) (Q := upd Q r.length (nI 0)) (c := a) (by omega) (by omega) f2 f4 (by rw [l1]; omega) (fun w => pb_run T_X12_sum (221, [some (.ref 64), some (.int (nI r.length)), some (.int (0 : Int32)), none], [], w))
    have hM2 := MT_up hM1 g3
    have E157 : pb_run T_X12_sum (157, [some (.ref 64), some (.int (nI r.length)), some (.int (0 : Int32)), none], [], ms rb B1 S1 O1 P Q) = pb_run T_X12_sum (221, [some (.ref 64), some (.int (nI r.length)), some (.int (0 : Int32)), none], [], ms rb B2 S2 O2 P (upd Q r.length (nI 0))) := by
      rw [← g1, r_X12_sum_157, if_pos d8, nI_clamp (show r.length < 2 ^ 31 by omega), ms_Q, show (42 : Int32) = nI 42 from rfl, show upd Q r.length (0 : Int32) = upd Q r.length (nI 0) from rfl, S42, pb_bI_some, if_neg (show ¬ tK T n e = 42 by omega), if_pos rfl, show (47 : Int32) = nI 47 from rfl, S47, pb_bI_some, if_neg (show ¬ tK T n e = 47 by omega), if_pos rfl, if_pos d8, if_pos d8, show (ms rb B1 S1 O1 P (upd Q r.length (nI 0))).1 100 r.length = nI a from p1]
    rw [E157]
    have l2 : (cur ++ fl it ++ fl a).length = cur.length + one01 it + one01 a := by rw [List.length_append, l1, fa]
    have fr2 : ∀ k, k ≠ 38 → B2 k = B k := fun k hk => (g3 k hk).trans (f3 k hk)
    have sm2 : ∀ j, j < g0 → S2 j = S j ∧ O2 j = O j := fun j hj => ⟨(g5 j hj).1.trans (f5 j hj).1, (g5 j hj).2.trans (f5 j hj).2⟩
    have S43 := ms_sign (b := rb) (S := S2) (O := O2) (P := upd P r.length (nI 0)) (Q := upd Q r.length (nI 0)) hM2 (c := 43) (by decide) (by decide)
    have S45 := ms_sign (b := rb) (S := S2) (O := O2) (P := upd P r.length (nI 0)) (Q := upd Q r.length (nI 0)) hM2 (c := 45) (by decide) (by decide)
    have S41 := ms_sign (b := rb) (S := S2) (O := O2) (P := upd P r.length (nI 0)) (Q := upd Q r.length (nI 0)) hM2 (c := 41) (by decide) (by decide)
    by_cases qa : tK T n e = 43 ∨ tK T n e = 45
    · have n15 : tK T n e ≠ 15 := by omega
      obtain ⟨u1, u2, u3⟩ := tok_up he n15
      obtain ⟨o5, ot⟩ := opc_a qa
      have tOp := tk_op (b := cb) hT hB sl100 (by omega) (by rw [o5, rk5]; omega) (by rw [o5, ro5, lm, List.length_append (as := itm it), li, la]; omega)
      rw [o5, rk5, ro5, m2] at tOp
      obtain ⟨w', c1, c2, c3, c4⟩ := crun_go (i := i) hn hc22 hX.2.2 he hi n15 (by rw [tk_m7 hT b7 (by omega)]; exact TO_bV tOp)
      have ev : B2 33 = nI (tK T n e) := hM2.2.2.2.2.2.1 (by omega)
      obtain ⟨B3, y1, y2, y3⟩ := ms_next (S := S2) (O := O2) (P := upd (upd P r.length (nI 0)) r.length (nI (tK T n e))) (Q := upd Q r.length (nI 0)) hX hM2.1 hM2.2.2.2.1 hM2.2.2.2.2.2.2 u2
      have Er : pb_run T_X12_sum (221, [some (.ref 64), some (.int (nI r.length)), some (.int (0 : Int32)), none], [], ms rb B2 S2 O2 P (upd Q r.length (nI 0))) = pb_run T_X12_sum (18, [some (.ref 64), some (.int (nI r.length)), some (.int (1 : Int32)), none], [], ms rb B3 S2 O2 (upd (upd P r.length (nI 0)) r.length (nI (tK T n e))) (upd Q r.length (nI 0))) := by
        rw [r_X12_sum_221, if_pos d8, nI_clamp (show r.length < 2 ^ 31 by omega), ms_P, show (43 : Int32) = nI 43 from rfl, show upd P r.length (0 : Int32) = upd P r.length (nI 0) from rfl, S43, pb_bI_some]
        by_cases q43 : tK T n e = 43
        · rw [if_pos q43, if_neg (show ¬ (1 : Int32) = 0 by decide), if_pos d8, show (ms rb B2 S2 O2 (upd P r.length (nI 0)) (upd Q r.length (nI 0))).1 64 33 = nI (tK T n e) from ev, ms_P, y1, pb_bV_some]
        · rw [if_neg q43, if_pos rfl, show (45 : Int32) = nI 45 from rfl, S45, pb_bI_some, if_pos (show tK T n e = 45 by omega), if_neg (show ¬ (1 : Int32) = 0 by decide), if_pos d8, show (ms rb B2 S2 O2 (upd P r.length (nI 0)) (upd Q r.length (nI 0))).1 64 33 = nI (tK T n e) from ev, ms_P, y1, pb_bV_some]
      rw [Er]
      have k0 : one01 (tK T n e) = 1 := if_neg (by omega)
      have pe2 : pnd ((tK T n e, 0) :: r) = one01 (tK T n e) + 0 + pnd r := rfl
      have IH := ih (n - tE T n e) (by omega) true (tE T n e) (i + 1) w' ((tK T n e, 0) :: r) (cur ++ fl it ++ fl a) B3 S2 O2 (upd (upd P r.length (nI 0)) r.length (nI (tK T n e))) (upd Q r.length (nI 0)) rfl c4 c3 (by simp) (by rw [List.length_cons]; omega) (fun p hp => by
        rw [List.mem_cons] at hp
        rcases hp with q | q
        · rw [q]; exact ⟨by show tK T n e = 0 ∨ tK T n e = 43 ∨ tK T n e = 45; omega, Or.inl rfl⟩
        · exact okr p q) (by
        rw [stk_cons t2 t3, ot]
        exact c2) (by rw [pe2, l2]; omega) y2 (by rw [y3 38 (by decide) (by decide) (by decide) (by decide)]; exact g2) g4 (lvs_set (p := (0, 0)) (lvs_up p3 (fun d hd => by rw [pu_at, pu_at, pu_at, if_neg (by omega), if_neg (by omega), if_neg (by omega)]; exact ⟨rfl, rfl⟩)) (tK T n e) 0 (by rw [pu_at, if_pos rfl]) (by rw [pu_at, if_pos rfl])) (by
        rw [pe2, h2, k0]
        show some (1 + pnd r) = some (1 + 0 + pnd r + 0)
        rfl)
      exact SumOut_on c1 (Nat.le_of_lt u1) (fun k a0 a1 a2 a3 a8 => (y3 k a0 a1 a2 a3).trans (fr2 k a8)) sm2 IH
    · have hno : notOp (tK T n e) := by unfold notOp; omega
      have E221 : pb_run T_X12_sum (221, [some (.ref 64), some (.int (nI r.length)), some (.int (0 : Int32)), none], [], ms rb B2 S2 O2 P (upd Q r.length (nI 0))) = (if nI r.length = 0 then (some (some (.int (1 : Int32)), ms rb B2 S2 O2 (upd P r.length (nI 0)) (upd Q r.length (nI 0)))) else (if tK T n e = 41 then (pb_bV (M_X12_next [.ref 64] (ms rb B2 S2 O2 (upd P r.length (nI 0)) (upd Q r.length (nI 0)))) fun w8 => (pb_run T_X12_sum (18, [some (.ref 64), some (.int (nI r.length + (-1 : Int32))), some (.int (0 : Int32)), none], [], w8))) else (pb_bI (M_X12_fails [.ref 64, .int (nI 2)] (ms rb B2 S2 O2 (upd P r.length (nI 0)) (upd Q r.length (nI 0)))) fun x10 w9 => (if x10 = 0 ∨ x10 = 1 then (some (some (Value.int x10), w9)) else none)))) := by
        rw [r_X12_sum_221, if_pos d8, nI_clamp (show r.length < 2 ^ 31 by omega), ms_P, show (43 : Int32) = nI 43 from rfl, show upd P r.length (0 : Int32) = upd P r.length (nI 0) from rfl, S43, pb_bI_some, if_neg (show ¬ tK T n e = 43 by omega), if_pos rfl, show (45 : Int32) = nI 45 from rfl, S45, pb_bI_some, if_neg (show ¬ tK T n e = 45 by omega), if_pos rfl, show (41 : Int32) = nI 41 from rfl, S41, pb_bI_some]
        by_cases q : nI r.length = 0
        · rw [if_pos q, if_pos q]
        · rw [if_neg q, if_neg q]
          by_cases q41 : tK T n e = 41
          · rw [if_pos q41, if_neg (show ¬ (1 : Int32) = 0 by decide), if_pos q41]
          · rw [if_neg q41, if_pos rfl, if_neg q41]
            rfl
      rw [E221]
      cases r with
      | nil =>
        rw [if_pos (show nI ([] : List (Nat × Nat)).length = 0 from rfl)]
        have et : t = bs := t2 rfl
        subst et
        have pot : C0.length + (cur ++ fl it ++ fl a).length + t.length + sl ≤ e := by
          have : pnd ([] : List (Nat × Nat)) = 0 := rfl
          rw [l2]
          omega
        have ok1 : lvok [(a, it)] := by
          intro p hp
          have : p = (a, it) := by simpa using hp
          rw [this]
          exact ⟨oa, oi⟩
        exact Or.inr ⟨e, i, qw cb A WT CD v, B2, S2, O2, _, _, a, it, cur, rfl, hi, Nat.le_refl e, he, ⟨A, WT, CD, v, rfl, hT, hB⟩, hno, rfl, hM2, g2, g4, sm2, h2, pot, ok1, fun k _ _ _ _ _ _ a8 => fr2 k a8⟩
      | cons p' r' =>
        have et : t = 0 :: (stkL (p' :: r') ++ bs) := t3 (by simp)
        subst et
        rw [List.length_cons] at hB hl7 d8 ⊢
        rw [if_neg (nI_ne0 (n := r'.length + 1) (by omega) (by omega))]
        have rk1 : rlk 1 (itm it ++ (itm a ++ 0 :: (stkL (p' :: r') ++ bs))) = 0 :: (stkL (p' :: r') ++ bs) ∧ rlo 1 (itm it ++ (itm a ++ 0 :: (stkL (p' :: r') ++ bs))) = itm it ++ itm a := by
          have x1 := rl_app (m := 1) (itm it) (itm a ++ 0 :: (stkL (p' :: r') ++ bs)) (fun x hx => by have := ((itm_i oi).1 x hx).1; omega)
          have x2 := rl_app (m := 1) (itm a) (0 :: (stkL (p' :: r') ++ bs)) (fun x hx => by have := ((itm_a oa).1 x hx).1; omega)
          have x3 := rl_stop (m := 1) (x := 0) (t := stkL (p' :: r') ++ bs) (by decide)
          rw [x1.1, x2.1, x3.1, x1.2, x2.2, x3.2, List.append_nil]
          exact ⟨rfl, rfl⟩
        have tCl := tk_close (b := cb) (br := r'.length) hT hB (by omega) (by omega) hno sl100 rk1.1 (by rw [rk1.2, lm, List.length_append (as := itm it), li, la]; omega)
        rw [rk1.2, m2] at tCl
        by_cases q41 : tK T n e = 41
        · have n15 : tK T n e ≠ 15 := by omega
          obtain ⟨u1, u2, u3⟩ := tok_up he n15
          obtain ⟨w', c1, c2, c3, c4⟩ := crun_go (i := i) hn hc22 hX.2.2 he hi n15 (by rw [tk_m7 hT b7 (by omega)]; exact TO_bV (tCl.1 q41))
          obtain ⟨B3, y1, y2, y3⟩ := ms_next (S := S2) (O := O2) (P := upd P (r'.length + 1) (nI 0)) (Q := upd Q (r'.length + 1) (nI 0)) hX hM2.1 hM2.2.2.2.1 hM2.2.2.2.2.2.2 u2
          have em : nI (r'.length + 1) + (-1 : Int32) = nI r'.length := by
            rw [show nI (r'.length + 1) + (-1 : Int32) = nI (r'.length + 1) - 1 by rw [Int32.sub_eq_add_neg], show nI (r'.length + 1) - (1 : Int32) = nI (r'.length + 1 - 1) from nI_subN (b := 1) (by omega)]
            congr 1
          rw [if_pos q41, y1, pb_bV_some, em]
          have IH := ih (n - tE T n e) (by omega) false (tE T n e) (i + 1) w' (p' :: r') (cur ++ fl it ++ fl a) B3 S2 O2 (upd P (r'.length + 1) (nI 0)) (upd Q (r'.length + 1) (nI 0)) rfl c4 c3 (by simp) (by rw [List.length_cons]; omega) okr c2 (by rw [l2]; omega) y2 (by rw [y3 38 (by decide) (by decide) (by decide) (by decide)]; exact g2) g4 (lvs_up p3 (fun d hd => by rw [List.length_cons] at hd; rw [pu_at, pu_at, if_neg (by omega), if_neg (by omega)]; exact ⟨rfl, rfl⟩)) (by
            rw [h2]
            show some _ = some (_ + 1)
            congr 1
            omega)
          exact SumOut_on c1 (Nat.le_of_lt u1) (fun k a0 a1 a2 a3 a8 => (y3 k a0 a1 a2 a3).trans (fr2 k a8)) sm2 IH
        · rw [if_neg q41, ms_fail hM2 2]
          refine Or.inl ⟨fk (tK T n e) 2, tS T n e, _, S2, O2, _, _, ?_, ?_, ?_, rfl, rfl, rfl, ?_, sm2⟩
          · unfold fk; split <;> omega
          · unfold fk; split <;> omega
          · unfold fk
            by_cases q16 : tK T n e = 16
            · rw [if_pos q16]
              exact crun_fail (by decide) (by decide) (tk_unk hT q16)
            · rw [if_neg q16]
              refine crun_fail (by decide) (by decide) ?_
              rw [tk_m7 hT b7 q16]
              exact TF_bV (tCl.2 q41)
          · intro k _ _ _ _ k5 k6 k8
            rw [pu_at, if_neg k5, pu_at, if_neg k6]
            exact fr2 k k8
theorem sim_sum {cb rb : pb_W} {T : Nat → Int32} {n : Nat} (hX : TX rb T n) (hc22 : cb.1 22 = T) {su te : Int32} {ru : Nat} {bs : List Nat} (hbs : ∀ x, x ∈ bs → x / 10 < 5 ∧ x < 100) (hbl : bs.length ≤ 4) {C0 : List Int64} {g0 sl : Nat} (hg0 : g0 ≤ 3000) : ∀ m atom, SimP cb rb T n su te ru bs C0 g0 sl atom m := by
  intro m
  induction m using Nat.strongRecOn with
  | ind m ih =>
    intro atom
    cases atom with
    | true => exact sim_true hX hc22 hbs hbl hg0 m ih
    | false => exact sim_false hX hc22 hbs hbl hg0 m ih
