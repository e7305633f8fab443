theorem ng_len {neg : Nat} (h : neg ≤ 1) : (ng neg).length = neg := by
  unfold ng
  by_cases q : neg = 1
  · rw [if_pos q, q]; rfl
  · rw [if_neg q]
    show 0 = neg
    omega
theorem sim_came {cb rb : pb_W} {T : Nat → Int32} {n : Nat} (hX : TX rb T n) (hc22 : cb.1 22 = T) {ru md neg beg k g e i : Nat} {w : pb_W} {su br te : Int32} {bs : List Nat} {C : List Int64} {B S O P Q : Nat → Int32} (he : e ≤ n) (hi : i ≤ e) (hmd : md = 1 ∨ md = 2) (hneg : neg ≤ 1) (hbeg : beg ≤ 1) (hk : k < 1500) (h8 : tK T n e = 8) (hC : CW cb T n e w md su br te (ng neg ++ bs) C ru) (hpot : C.length + neg + bs.length + 1 ≤ e) (hM : MT T n e B) (h38 : B 38 = nI g) (h39 : B 39 = nI k) (h97 : rb.1 97 k = nI beg) (h96 : rb.1 96 k = nI neg) : OneOut cb rb T n ru bs C g k beg e i w B S O (pb_run T_X12_one (37, [some (.ref 64), none, some (.int (nI k)), none], [], ms rb B S O P Q)) := by
  have hn := hX.1
  have lng := ng_len hneg
  obtain ⟨w1, c1, c2⟩ := c_came (i := i) hn hc22 hX.2.2 he hi hmd (by omega) h8 hC
  obtain ⟨u1, u2, u3⟩ := tok_up he (show tK T n e ≠ 15 by omega)
  have fk1 : frk k rb (pb_wI (pb_wI rb 90 k (nI 2)) 91 k (nI g)) := frk_I (frk_I (frk_rf k rb) (by decide) _) (by decide) _
  have hX1 := frk_TX fk1 hX
  obtain ⟨B1, y1, y2, y3⟩ := ms_next (b := pb_wI (pb_wI rb 90 k (nI 2)) 91 k (nI g)) (S := S) (O := O) (P := P) (Q := Q) hX1 hM.1 hM.2.2.2.1 hM.2.2.2.2.2.2 u2
  have b39 : B1 39 = nI k := (y3 39 (by decide) (by decide) (by decide) (by decide)).trans h39
  have b38 : B1 38 = nI g := (y3 38 (by decide) (by decide) (by decide) (by decide)).trans h38
  have bodE : bod (beg, neg, 2, [], 0, [], 0) = [stp 7 0] ++ (ng neg).map st0 := rfl
  have bl : (bod (beg, neg, 2, [], 0, [], 0)).length = 1 + neg := by rw [bodE, List.length_append, List.length_map, lng]; rfl
  refine Or.inr ⟨(beg, neg, 2, [], 0, [], 0), tE T n e, i + 1, w1, pb_wI (pb_wI rb 90 k (nI 2)) 91 k (nI g), upd B1 39 (nI (k + 1)), S, O, P, Q, c1, by omega, by omega, u2, ⟨4, su, br, te, ng neg, [stp 7 0], c2, Or.inl rfl, ng_ok neg, bodE.symm, by omega⟩, rfl, ?_, MT_set39 y2 _, rfl, ⟨g, Nat.le_refl g, b38, by omega, h97, h96, ?_, hbeg, hneg, (by decide : 2 ≤ 2), fun q => absurd q (by decide : ¬ (2 : Nat) = 1), fun q => absurd q (by decide : ¬ (2 : Nat) = 0)⟩, ?_, fk1, fun _ _ => ⟨rfl, rfl⟩, by rw [bl]; omega⟩
  · rw [r_X12_one_37, show (7 : Int32) = nI 7 from rfl, ms_key hX he hM (by decide), pb_bI_some, if_neg (show ¬ tK T n e = 7 by omega), if_pos rfl, show (8 : Int32) = nI 8 from rfl, ms_key hX he hM (by decide), pb_bI_some, if_pos h8, if_neg (show ¬ (1 : Int32) = 0 by decide), show (2 : Int32) = nI 2 from rfl, one_69 hk h38 2 (by decide), if_neg (by decide), if_pos rfl, e_X12_wantKey, show (8 : Int32) = nI 8 from rfl, ms_key hX1 he hM (by decide), pb_bI_some, if_pos h8, if_neg (show ¬ (1 : Int32) = 0 by decide), y1, pb_bV_some, pb_bI_some, (one_122 b39).1]
  · show (if k = k then nI 2 else rb.1 90 k) = nI 2
    exact if_pos rfl
  · intro j a0 a1 a2 a3 a5 a6 a8 a9
    rw [pu_at, if_neg a9, y3 j a0 a1 a2 a3]
/-- sum() as it is called -/
theorem sum_call {cb rb : pb_W} {T : Nat → Int32} {n : Nat} (hX : TX rb T n) (hc22 : cb.1 22 = T) {su te : Int32} {ru : Nat} {bs : List Nat} (hbs : ∀ x, x ∈ bs → x / 10 < 5 ∧ x < 100) (hbl : bs.length ≤ 4) {C0 : List Int64} {g0 sl e i : Nat} (hg0 : g0 ≤ 3000) {w : pb_W} {B S O P Q : Nat → Int32} (he : e ≤ n) (hi : i ≤ e) (hC : CW cb T n e w 6 su 0 te bs C0 ru) (hpot : C0.length + bs.length + sl ≤ e) (hM : MT T n e B) (h38 : B 38 = nI g0) : SumOut cb rb T n su te ru bs C0 g0 sl e i w B S O (M_X12_sum [.ref 64] (ms rb B S O P Q)) := by
  have Z := sim_sum (cb := cb) (su := su) (te := te) (ru := ru) (C0 := C0) (g0 := g0) (sl := sl) hX hc22 hbs hbl hg0 (n - e) true e i w [(0, 0)] [] B S O (upd P 0 (nI 0)) (upd Q 0 (nI 0)) rfl he hi (by simp) (by decide) (fun p hp => by
    have : p = (0, 0) := by simpa using hp
    rw [this]; exact ⟨Or.inl rfl, Or.inl rfl⟩) (by
    have e1 : stkL [(0, 0)] ++ bs = bs := rfl
    have e2 : C0 ++ ([] : List (Nat × Nat)).map ic = C0 := List.append_nil _
    rw [e1, e2]
    exact hC) (by
    have : pnd [(0, 0)] = 0 := rfl
    have l0 : ([] : List (Nat × Nat)).length = 0 := rfl
    omega) hM h38 (fun j hj => by simp at hj) (fun d hd => by
    have : d = 0 := by simpa using hd
    subst this
    exact ⟨rfl, rfl⟩) rfl
  rw [e_X12_sum, c_0, ms_P, ms_Q]
  exact Z
theorem cmpc_b {c : Nat} (h : c = 60 ∨ c = 61 ∨ c = 62) : 40 ≤ cmpc c ∧ cmpc c < 50 := by
  unfold cmpc
  split
  · omega
  · split <;> omega
theorem one_fail {cb rb rb' : pb_W} {T : Nat → Int32} {n ru k g beg e i kd p : Nat} {bs : List Nat} {C : List Int64} {w : pb_W} {B S O B' S' O' P' Q' : Nat → Int32} (h1 : 1 ≤ kd) (h2 : kd ≤ 5) (hF : Fail cb (crun i w) kd p) (b36 : B' 36 = nI kd) (b35 : B' 35 = nI p) (b39 : B' 39 = nI k) (fB : frO B B') (fk1 : frk k rb rb') (sm : ∀ j, j < g → S' j = S j ∧ O' j = O j) : OneOut cb rb T n ru bs C g k beg e i w B S O (pb_run T_X12_one (122, [some (.ref 64), none, none, none], [.int (0 : Int32)], ms rb' B' S' O' P' Q')) := by
  rw [(one_122 b39).2]
  exact Or.inl ⟨kd, p, rb', B', S', O', P', Q', h1, h2, hF, rfl, b36, b35, fB, fk1, sm⟩
theorem sim_cmp {cb rb : pb_W} {T : Nat → Int32} {n : Nat} (hX : TX rb T n) (hc22 : cb.1 22 = T) {ru md neg beg k g e i : Nat} {w : pb_W} {su br te : Int32} {bs : List Nat} {C : List Int64} {B S O P Q : Nat → Int32} (he : e ≤ n) (hi : i ≤ e) (hmd : md = 1 ∨ md = 2) (hneg : neg ≤ 1) (hbeg : beg ≤ 1) (hk : k < 1500) (hg : g ≤ 2400 + C.length) (hbs : ∀ x, x ∈ bs → x / 10 < 3 ∧ x < 100) (hbl : bs.length ≤ 2) (h6 : ¬ (md = 1 ∧ tK T n e = 6)) (h7 : tK T n e ≠ 7) (h8 : tK T n e ≠ 8) (h16 : tK T n e ≠ 16) (hC : CW cb T n e w md su br te (ng neg ++ bs) C ru) (hpot : C.length + neg + bs.length + 1 ≤ e) (hM : MT T n e B) (h38 : B 38 = nI g) (h39 : B 39 = nI k) (h97 : rb.1 97 k = nI beg) (h96 : rb.1 96 k = nI neg) : OneOut cb rb T n ru bs C g k beg e i w B S O (pb_run T_X12_one (37, [some (.ref 64), none, some (.int (nI k)), none], [], ms rb B S O P Q)) := by
  have hn := hX.1
  have lng := ng_len hneg
  have i1500 : pb_in (nI k) 1500 := pn_in hk (by decide)
  have kc : (nI k).toNatClampNeg = k := nI_clamp (by omega)
  have bs1 : ∀ x, x ∈ ng neg ++ bs → x / 10 < 4 ∧ x < 100 := by
    intro x hx
    rw [List.mem_append] at hx
    rcases hx with q | q
    · unfold ng at q
      by_cases z : neg = 1
      · rw [if_pos z] at q
        have : x = 30 := by simpa using q
        omega
      · rw [if_neg z] at q
        simp at q
    · have := hbs x q
      omega
  have len1 : (ng neg ++ bs).length = neg + bs.length := by rw [List.length_append, lng]
  obtain ⟨w0, c0, c1⟩ := c_open (i := i) hmd h16 h6 h7 h8 hC
  have fk1 : frk k rb (pb_wI (pb_wI rb 90 k (nI 0)) 91 k (nI g)) := frk_I (frk_I (frk_rf k rb) (by decide) _) (by decide) _
  have hX1 := frk_TX fk1 hX
  have E37 : pb_run T_X12_one (37, [some (.ref 64), none, some (.int (nI k)), none], [], ms rb B S O P Q) = pb_bI (M_X12_comparing [.ref 64, .int (nI k)] (ms (pb_wI (pb_wI rb 90 k (nI 0)) 91 k (nI g)) B S O P Q)) fun x6 w5 => (pb_run T_X12_one (122, [some (.ref 64), none, none, none], [.int x6], w5)) := by
    rw [r_X12_one_37, show (7 : Int32) = nI 7 from rfl, ms_key hX he hM (by decide), pb_bI_some, if_neg h7, if_pos rfl, show (8 : Int32) = nI 8 from rfl, ms_key hX he hM (by decide), pb_bI_some, if_neg h8, if_pos rfl, show (0 : Int32) = nI 0 from rfl, one_69 hk h38 0 (by decide), if_neg (by decide), if_neg (by decide)]
  rw [E37, e_X12_comparing]
  have L := sum_call (cb := cb) (su := 0) (te := te) (ru := ru) (bs := ng neg ++ bs) (C0 := C) (g0 := g) (sl := 1) (i := i) (w := w0) (S := S) (O := O) (P := P) (Q := Q) hX1 hc22 (fun x hx => by have := bs1 x hx; omega) (by omega) (by omega) he hi c1 (by omega) hM h38
  rcases L with ⟨kd, p, B1, S1, O1, P1, Q1, k1, k5, F1, F2, F3, F4, F5, F6⟩ | ⟨e1, i1, w1, B1, S1, O1, P1, Q1, a1, t1, u1, r1, r2, r3, r4, r5, r6, r7, r8, r9, r10, r11, r12, r13, r14, r15⟩
  · rw [F2, pb_bI_some, if_pos rfl, pb_bI_some]
    exact one_fail k1 k5 (by rw [c0]; exact F1) F3 F4 ((F5 39 (by decide) (by decide) (by decide) (by decide) (by decide) (by decide) (by decide)).trans h39) (frO_of F5) fk1 F6
  · have b39 : B1 39 = nI k := (r15 39 (by decide) (by decide) (by decide) (by decide) (by decide) (by decide) (by decide)).trans h39
    obtain ⟨oa, oi⟩ := r14 (a1, t1) (by simp)
    have oa : a1 = 0 ∨ a1 = 43 ∨ a1 = 45 := oa
    have oi : t1 = 0 ∨ t1 = 42 ∨ t1 = 47 := oi
    have fk2 : frk k rb (pb_wI (pb_wI (pb_wI rb 90 k (nI 0)) 91 k (nI g)) 92 k (nI (g + (u1 ++ fl t1 ++ fl a1).length))) := frk_I fk1 (by decide) _
    have hX2 := frk_TX fk2 hX
    have kr := tok_rng T n e1
    rw [r7, pb_bI_some, if_neg (show ¬ (1 : Int32) = 0 by decide), if_pos i1500, kc, show (ms (pb_wI (pb_wI rb 90 k (nI 0)) 91 k (nI g)) B1 S1 O1 P1 Q1).1 64 38 = nI (g + (u1 ++ fl t1 ++ fl a1).length) from r9, ms_b _ _ _ _ _ _ 92 _ _ (by decide), show (60 : Int32) = nI 60 from rfl, ms_sign r8 (by decide) (by decide), pb_bI_some, show (62 : Int32) = nI 62 from rfl, ms_sign r8 (by decide) (by decide), pb_bI_some, show (61 : Int32) = nI 61 from rfl, ms_sign r8 (by decide) (by decide), pb_bI_some]
    -- the class: its stack and what it releases
    obtain ⟨A, WT, CD, v, ew, hT, hB⟩ := r5
    have lic : (C ++ u1.map ic).length = C.length + u1.length := by rw [List.length_append, List.length_map]
    have li := itm_len t1
    have la := itm_len a1
    have fi := fl_len t1
    have fa := fl_len a1
    have ll : (u1 ++ fl t1 ++ fl a1).length = u1.length + one01 t1 + one01 a1 := by rw [List.length_append, List.length_append, fi, fa]
    have x1 := rl_app (m := 4) (itm t1) (itm a1 ++ (ng neg ++ bs)) (fun x hx => by have := ((itm_i oi).1 x hx).1; omega)
    have x2 := rl_app (m := 4) (itm a1) (ng neg ++ bs) (fun x hx => by have := ((itm_a oa).1 x hx).1; omega)
    have x3 := rl_head (m := 4) (l := ng neg ++ bs) (fun x hx => (bs1 x (List.mem_of_mem_head? hx)).1)
    have rk4 : rlk 4 (itm t1 ++ (itm a1 ++ (ng neg ++ bs))) = ng neg ++ bs := by rw [x1.1, x2.1, x3.1]
    have ro4 : rlo 4 (itm t1 ++ (itm a1 ++ (ng neg ++ bs))) = itm t1 ++ itm a1 := by rw [x1.2, x2.2, x3.2, List.append_nil]
    have lro : (itm t1 ++ itm a1).length = one01 t1 + one01 a1 := by rw [List.length_append, li, la]
    have sx : ∀ x, x ∈ itm t1 ++ (itm a1 ++ (ng neg ++ bs)) → x < 100 := by
      intro x hx
      rw [List.mem_append, List.mem_append] at hx
      rcases hx with q | q | q
      · exact ((itm_i oi).1 x q).2.1
      · exact ((itm_a oa).1 x q).2.2.1
      · exact (bs1 x q).2
    have m2 : (C ++ u1.map ic) ++ (itm t1 ++ itm a1).map (fun x => stp x 0) = C ++ (u1 ++ fl t1 ++ fl a1).map ic := by rw [List.map_append, List.map_append, List.map_append, map_ic_fl (by omega), map_ic_fl (by omega), List.append_assoc, List.append_assoc]
    have TC := tk_comp (b := cb) hT hB (tk_lt_of T n e1) r6 sx (by rw [rk4, len1]; omega) (by rw [ro4, lic, lro]; omega)
    rw [rk4, ro4, m2] at TC
    subst ew
    by_cases qc : tK T n e1 = 60 ∨ tK T n e1 = 61 ∨ tK T n e1 = 62
    · have n15 : tK T n e1 ≠ 15 := by omega
      obtain ⟨v1, v2, v3⟩ := tok_up r4 n15
      obtain ⟨w2, d1, d2, d3, d4⟩ := crun_go (i := i1) hn hc22 hX.2.2 r4 r2 n15 (by rw [tk_m7 hT hB.2.1 (by omega)]; exact TO_bV (TC.1 qc))
      have ev : B1 33 = nI (tK T n e1) := r8.2.2.2.2.2.1 (by omega)
      have cb2 := cmpc_b qc
      have fk3 : frk k rb (pb_wI (pb_wI (pb_wI (pb_wI rb 90 k (nI 0)) 91 k (nI g)) 92 k (nI (g + (u1 ++ fl t1 ++ fl a1).length))) 94 k (nI (tK T n e1))) := frk_I fk2 (by decide) _
      have hX3 := frk_TX fk3 hX
      obtain ⟨B2, z1, z2, z3⟩ := ms_next (b := pb_wI (pb_wI (pb_wI (pb_wI rb 90 k (nI 0)) 91 k (nI g)) 92 k (nI (g + (u1 ++ fl t1 ++ fl a1).length))) 94 k (nI (tK T n e1))) (S := S1) (O := O1) (P := P1) (Q := Q1) hX3 r8.1 r8.2.2.2.1 r8.2.2.2.2.2.2 v2
      have E52 : (if (if tK T n e1 = 60 then (1 : Int32) else 0) = 0 then (if (if tK T n e1 = 62 then (1 : Int32) else 0) = 0 then (if (if tK T n e1 = 61 then (1 : Int32) else 0) = 0 then (pb_bI (M_X12_fails [.ref 64, .int (2 : Int32)] (ms (pb_wI (pb_wI (pb_wI rb 90 k (nI 0)) 91 k (nI g)) 92 k (nI (g + (u1 ++ fl t1 ++ fl a1).length))) B1 S1 O1 P1 Q1)) fun x10 w9 => (if x10 = 0 ∨ x10 = 1 then (some (some (Value.int x10), w9)) else none)) else (pb_run T_X12_comparing (52, [some (.ref 64), some (.int (nI k))], [], ms (pb_wI (pb_wI (pb_wI rb 90 k (nI 0)) 91 k (nI g)) 92 k (nI (g + (u1 ++ fl t1 ++ fl a1).length))) B1 S1 O1 P1 Q1))) else (pb_run T_X12_comparing (52, [some (.ref 64), some (.int (nI k))], [], ms (pb_wI (pb_wI (pb_wI rb 90 k (nI 0)) 91 k (nI g)) 92 k (nI (g + (u1 ++ fl t1 ++ fl a1).length))) B1 S1 O1 P1 Q1))) else (pb_run T_X12_comparing (52, [some (.ref 64), some (.int (nI k))], [], ms (pb_wI (pb_wI (pb_wI rb 90 k (nI 0)) 91 k (nI g)) 92 k (nI (g + (u1 ++ fl t1 ++ fl a1).length))) B1 S1 O1 P1 Q1))) = (pb_bI (M_X12_sum [.ref 64] (ms (pb_wI (pb_wI (pb_wI (pb_wI rb 90 k (nI 0)) 91 k (nI g)) 92 k (nI (g + (u1 ++ fl t1 ++ fl a1).length))) 94 k (nI (tK T n e1))) B2 S1 O1 P1 Q1)) fun x3 w2 => (if x3 = 0 then (some (some (.int (0 : Int32)), w2)) else (if pb_in (nI k) 1500 then (some (some (.int (1 : Int32)), (pb_wI w2 93 (nI k).toNatClampNeg (w2.1 64 38)))) else none))) := by
        have E0 : pb_run T_X12_comparing (52, [some (.ref 64), some (.int (nI k))], [], ms (pb_wI (pb_wI (pb_wI rb 90 k (nI 0)) 91 k (nI g)) 92 k (nI (g + (u1 ++ fl t1 ++ fl a1).length))) B1 S1 O1 P1 Q1) = (pb_bI (M_X12_sum [.ref 64] (ms (pb_wI (pb_wI (pb_wI (pb_wI rb 90 k (nI 0)) 91 k (nI g)) 92 k (nI (g + (u1 ++ fl t1 ++ fl a1).length))) 94 k (nI (tK T n e1))) B2 S1 O1 P1 Q1)) fun x3 w2 => (if x3 = 0 then (some (some (.int (0 : Int32)), w2)) else (if pb_in (nI k) 1500 then (some (some (.int (1 : Int32)), (pb_wI w2 93 (nI k).toNatClampNeg (w2.1 64 38)))) else none))) := by
          rw [r_X12_comparing_52, if_pos i1500, kc, show (ms (pb_wI (pb_wI (pb_wI rb 90 k (nI 0)) 91 k (nI g)) 92 k (nI (g + (u1 ++ fl t1 ++ fl a1).length))) B1 S1 O1 P1 Q1).1 64 33 = nI (tK T n e1) from ev, ms_b _ _ _ _ _ _ 94 _ _ (by decide), z1, pb_bV_some]
        rw [E0]
        rcases qc with q | q | q <;> rw [q] <;> rfl
      rw [E52]
      have sz2 : (cmpc (tK T n e1) :: (ng neg ++ bs)).length = 1 + neg + bs.length := by rw [List.length_cons, len1]; omega
      have L2 := sum_call (cb := cb) (su := 1) (te := te) (ru := ru) (bs := cmpc (tK T n e1) :: (ng neg ++ bs)) (C0 := C ++ (u1 ++ fl t1 ++ fl a1).map ic) (g0 := g + (u1 ++ fl t1 ++ fl a1).length) (sl := 1) (i := i1 + 1) (w := w2) (S := S1) (O := O1) (P := P1) (Q := Q1) hX3 hc22 (fun x hx => by
        rw [List.mem_cons] at hx
        rcases hx with q | q
        · rw [q]; omega
        · have := bs1 x q; omega) (by omega) (by omega) v2 d3 d2 (by rw [List.length_append, List.length_map, sz2]; omega) z2 (by rw [z3 38 (by decide) (by decide) (by decide) (by decide)]; exact r9)
      have b39' : B2 39 = nI k := (z3 39 (by decide) (by decide) (by decide) (by decide)).trans b39
      rcases L2 with ⟨kd, p, B3, S3, O3, P3, Q3, k1, k5, F1, F2, F3, F4, F5, F6⟩ | ⟨e3, i3, w3, B3, S3, O3, P3, Q3, a3, t3, u3, s1, s2, s3, s4, s5, s6, s7, s8, s9, s10, s11, s12, s13, s14, s15⟩
      · rw [F2, pb_bI_some, if_pos rfl, pb_bI_some]
        refine one_fail k1 k5 (by rw [c0, r1, d1]; exact F1) F3 F4 ((F5 39 (by decide) (by decide) (by decide) (by decide) (by decide) (by decide) (by decide)).trans b39') (frO_tr (frO_of r15) (frO_tr (sameO z3) (frO_of F5))) fk3 (fun j hj => ?_)
        obtain ⟨f1, f2⟩ := F6 j (by omega)
        obtain ⟨f3, f4⟩ := r11 j hj
        exact ⟨f1.trans f3, f2.trans f4⟩
      · obtain ⟨pa, pi⟩ := s14 (a3, t3) (by simp)
        have pa : a3 = 0 ∨ a3 = 43 ∨ a3 = 45 := pa
        have pi : t3 = 0 ∨ t3 = 42 ∨ t3 = 47 := pi
        have b39'' : B3 39 = nI k := (s15 39 (by decide) (by decide) (by decide) (by decide) (by decide) (by decide) (by decide)).trans b39'
        have li3 := itm_len t3
        have la3 := itm_len a3
        have o13 : one01 t3 ≤ 1 ∧ one01 a3 ≤ 1 := by unfold one01; constructor <;> split <;> omega
        have bodE : bod (beg, neg, 0, u1 ++ fl t1 ++ fl a1, tK T n e1, u3 ++ fl t3 ++ fl a3, 0) = (u1 ++ fl t1 ++ fl a1).map ic ++ (u3 ++ fl t3 ++ fl a3).map ic ++ [st0 (cmpc (tK T n e1))] ++ (ng neg).map st0 := rfl
        have bl : (bod (beg, neg, 0, u1 ++ fl t1 ++ fl a1, tK T n e1, u3 ++ fl t3 ++ fl a3, 0)).length = (u1 ++ fl t1 ++ fl a1).length + (u3 ++ fl t3 ++ fl a3).length + 1 + neg := by
          rw [bodE, List.length_append (bs := (ng neg).map st0), List.length_append (bs := [st0 (cmpc (tK T n e1))]), List.length_append (as := (u1 ++ fl t1 ++ fl a1).map ic), List.length_map, List.length_map, List.length_map, lng]
          rfl
        have fk4 : frk k rb (pb_wI (pb_wI (pb_wI (pb_wI (pb_wI rb 90 k (nI 0)) 91 k (nI g)) 92 k (nI (g + (u1 ++ fl t1 ++ fl a1).length))) 94 k (nI (tK T n e1))) 93 k (nI (g + (u1 ++ fl t1 ++ fl a1).length + (u3 ++ fl t3 ++ fl a3).length))) := frk_I fk3 (by decide) _
        have s13' : (C ++ (u1 ++ fl t1 ++ fl a1).map ic).length + (u3 ++ fl t3 ++ fl a3).length + (cmpc (tK T n e1) :: (ng neg ++ bs)).length + 1 ≤ e3 := s13
        rw [List.length_append (as := C), List.length_map, sz2] at s13'
        rw [s7, pb_bI_some, if_neg (show ¬ (1 : Int32) = 0 by decide), if_pos i1500, kc, show (ms (pb_wI (pb_wI (pb_wI (pb_wI rb 90 k (nI 0)) 91 k (nI g)) 92 k (nI (g + (u1 ++ fl t1 ++ fl a1).length))) 94 k (nI (tK T n e1))) B3 S3 O3 P3 Q3).1 64 38 = nI (g + (u1 ++ fl t1 ++ fl a1).length + (u3 ++ fl t3 ++ fl a3).length) from s9, ms_b _ _ _ _ _ _ 93 _ _ (by decide), pb_bI_some, (one_122 b39'').1]
        refine Or.inr ⟨(beg, neg, 0, u1 ++ fl t1 ++ fl a1, tK T n e1, u3 ++ fl t3 ++ fl a3, 0), e3, i3, w3, _, upd B3 39 (nI (k + 1)), S3, O3, P3, Q3, by rw [c0, r1, d1]; exact s1, s2, by omega, s4, ?_, rfl, rfl, MT_set39 s8 _, rfl, ⟨g + (u1 ++ fl t1 ++ fl a1).length + (u3 ++ fl t3 ++ fl a3).length, by omega, s9, by rw [bl]; omega, ?_⟩, ?_, fk4, ?_, by rw [bl]; omega⟩
        · refine ⟨7, 1, 0, te, itm t3 ++ (itm a3 ++ (cmpc (tK T n e1) :: ng neg)), (u1 ++ fl t1 ++ fl a1).map ic ++ u3.map ic, ?_, Or.inr ⟨rfl, rfl, rfl, s6⟩, ?_, ?_, ?_⟩
          · have e1' : (itm t3 ++ (itm a3 ++ (cmpc (tK T n e1) :: ng neg))) ++ bs = itm t3 ++ (itm a3 ++ (cmpc (tK T n e1) :: (ng neg ++ bs))) := by simp [List.append_assoc]
            have e2' : C ++ ((u1 ++ fl t1 ++ fl a1).map ic ++ u3.map ic) = C ++ (u1 ++ fl t1 ++ fl a1).map ic ++ u3.map ic := (List.append_assoc _ _ _).symm
            rw [e1', e2']
            exact s5
          · intro x hx
            rw [List.mem_append, List.mem_append, List.mem_cons] at hx
            rcases hx with q | q | q | q
            · have := (itm_i pi).1 x q; omega
            · have := (itm_a pa).1 x q; omega
            · rw [q]; omega
            · exact ng_ok neg x q
          · have eT : (fl t3).map ic = (itm t3).map st0 := map_ic_fl (by omega)
            have eA : (fl a3).map ic = (itm a3).map st0 := map_ic_fl (by omega)
            rw [bodE]
            simp only [List.map_append, List.map_cons, eT, eA, List.append_assoc, List.cons_append, List.nil_append]
          · rw [List.length_append, List.length_append, List.length_cons, lng, li3, la3]
            omega
        · refine ⟨h97, h96, ?_, hbeg, hneg, (by decide : 0 ≤ 2), fun q => absurd q (by decide : ¬ (0 : Nat) = 1), fun _ => ⟨g, ?_, ?_, ?_, ?_, qc, Nat.le_refl _, ?_, s10, r12, s12⟩⟩
          · show (if k = k then nI 0 else rb.1 90 k) = nI 0
            exact if_pos rfl
          · show (if k = k then nI g else rb.1 91 k) = nI g
            exact if_pos rfl
          · show (if k = k then nI (g + (u1 ++ fl t1 ++ fl a1).length) else rb.1 92 k) = nI (g + (u1 ++ fl t1 ++ fl a1).length)
            exact if_pos rfl
          · show (if k = k then nI (g + (u1 ++ fl t1 ++ fl a1).length + (u3 ++ fl t3 ++ fl a3).length) else rb.1 93 k) = nI (g + (u1 ++ fl t1 ++ fl a1).length + (u3 ++ fl t3 ++ fl a3).length)
            exact if_pos rfl
          · show (if k = k then nI (tK T n e1) else rb.1 94 k) = nI (tK T n e1)
            exact if_pos rfl
          · intro j hj
            have hj' : j < (u1 ++ fl t1 ++ fl a1).length := hj
            obtain ⟨f1, f2⟩ := s11 (g + j) (by omega)
            rw [f1, f2]
            exact r10 j hj
        · intro j a0 a1' a2 a3' a5 a6 a8 a9
          rw [pu_at, if_neg a9, s15 j a0 a1' a2 a3' a5 a6 a8, z3 j a0 a1' a2 a3', r15 j a0 a1' a2 a3' a5 a6 a8]
        · intro j hj
          obtain ⟨f1, f2⟩ := s11 j (by omega)
          obtain ⟨f3, f4⟩ := r11 j hj
          exact ⟨f1.trans f3, f2.trans f4⟩
    · rw [if_neg (show ¬ tK T n e1 = 60 by omega), if_neg (show ¬ tK T n e1 = 62 by omega), if_neg (show ¬ tK T n e1 = 61 by omega), if_pos rfl, if_pos rfl, if_pos rfl, show (2 : Int32) = nI 2 from rfl, ms_fail r8 2, pb_bI_some]
      refine one_fail (kd := fk (tK T n e1) 2) (p := tS T n e1) ?_ ?_ ?_ rfl rfl b39 (frO_tr (frO_of r15) (frO_fail _ _)) fk2 r11
      · unfold fk; split <;> omega
      · unfold fk; split <;> omega
      · rw [c0, r1]
        unfold fk
        by_cases q16 : tK T n e1 = 16
        · rw [if_pos q16]
          exact crun_fail (by decide) (by decide) (tk_unk hT q16)
        · rw [if_neg q16]
          refine crun_fail (by decide) (by decide) ?_
          rw [tk_m7 hT hB.2.1 q16]
          exact TF_bV (TC.2 (by omega) (by omega) (by omega))
