theorem MT_set39 {T : Nat → Int32} {n e : Nat} {B : Nat → Int32} (h : MT T n e B) (x : Int32) : MT T n e (upd B 39 x) := h
theorem ng_ok (neg : Nat) : ∀ x, x ∈ ng neg → 3 ≤ x / 10 ∧ x < 100 := by
  intro x hx
  unfold ng at hx
  by_cases q : neg = 1
  · rw [if_pos q] at hx
    have : x = 30 := by simpa using hx
    omega
  · rw [if_neg q] at hx
    simp at hx
theorem frO_of {B B' : Nat → Int32} (h : frB B B') : frO B B' := fun k a0 a1 a2 a3 a5 a6 a8 _ => h k a0 a1 a2 a3 a5 a6 a8
theorem sameO {B B' : Nat → Int32} (h : sameB B B') : frO B B' := fun k a0 a1 a2 a3 _ _ _ _ => h k a0 a1 a2 a3
theorem frO_tr {B B' B'' : Nat → Int32} (h : frO B B') (h2 : frO B' B'') : frO B B'' := fun k a0 a1 a2 a3 a5 a6 a8 a9 => (h2 k a0 a1 a2 a3 a5 a6 a8 a9).trans (h k a0 a1 a2 a3 a5 a6 a8 a9)
theorem frO_fail {B : Nat → Int32} (x y : Int32) : frO B (upd (upd B 36 x) 35 y) := fun k _ _ _ _ a5 a6 _ _ => by rw [pu_at, if_neg a5, pu_at, if_neg a6]
/-- the start of one, in the reference: it is known which it is -/
theorem one_69 {rb : pb_W} {B S O P Q : Nat → Int32} {k g : Nat} (hk : k < 1500) (h38 : B 38 = nI g) (s2 : Nat) (hs : s2 ≤ 2) : pb_run T_X12_one (69, [some (.ref 64), none, some (.int (nI k)), none], [.int (nI s2), .int (nI k), .ref 90], ms rb B S O P Q) = (if s2 = 1 then (pb_bI (M_X12_name [.ref 64, .int (nI k)] (ms (pb_wI (pb_wI rb 90 k (nI s2)) 91 k (nI g)) B S O P Q)) fun x6 w5 => (pb_run T_X12_one (122, [some (.ref 64), none, none, none], [.int x6], w5))) else if s2 = 2 then (pb_bI (M_X12_wantKey [.ref 64, .int (8 : Int32)] (ms (pb_wI (pb_wI rb 90 k (nI s2)) 91 k (nI g)) B S O P Q)) fun x4 w3 => (pb_run T_X12_one (122, [some (.ref 64), none, none, none], [.int x4], w3))) else (pb_bI (M_X12_comparing [.ref 64, .int (nI k)] (ms (pb_wI (pb_wI rb 90 k (nI s2)) 91 k (nI g)) B S O P Q)) fun x2 w1 => (pb_run T_X12_one (122, [some (.ref 64), none, none, none], [.int x2], w1)))) := by
  have i1 : pb_in (nI k) 1500 := pn_in hk (by decide)
  have e90 : (ms (pb_wI (pb_wI rb 90 k (nI s2)) 91 k (nI g)) B S O P Q).1 90 k = nI s2 := by
    show (if k = k then nI s2 else rb.1 90 k) = nI s2
    exact if_pos rfl
  rw [r_X12_one_69, if_pos i1, if_pos i1, if_pos i1, if_pos i1, nI_clamp (show k < 2 ^ 31 by omega), show (ms rb B S O P Q).1 64 38 = nI g from h38, ms_b _ _ _ _ _ _ 90 _ _ (by decide), ms_b _ _ _ _ _ _ 91 _ _ (by decide), e90, show (1 : Int32) = nI 1 from rfl, show (2 : Int32) = nI 2 from rfl, ite_eqN (by omega) (by decide), ite_eqN (by omega) (by decide)]
theorem sim_word {cb rb : pb_W} {T : Nat → Int32} {n : Nat} (hX : TX rb T n) (hc22 : cb.1 22 = T) {ru md neg beg k g e i : Nat} {w : pb_W} {su br te : Int32} {bs : List Nat} {C : List Int64} {B S O P Q : Nat → Int32} (he : e ≤ n) (hi : i ≤ e) (hmd : md = 1 ∨ md = 2) (hneg : neg ≤ 1) (hbeg : beg ≤ 1) (hk : k < 1500) (h7 : tK T n e = 7) (hC : CW cb T n e w md su br te (ng neg ++ bs) C ru) (hpot : C.length + neg + bs.length + 1 ≤ e) (hM : MT T n e B) (h38 : B 38 = nI g) (h39 : B 39 = nI k) (h97 : rb.1 97 k = nI beg) (h96 : rb.1 96 k = nI neg) : OneOut cb rb T n ru bs C g k beg e i w B S O (pb_run T_X12_one (37, [some (.ref 64), none, some (.int (nI k)), none], [], ms rb B S O P Q)) := by
  have hn := hX.1
  have lng : (ng neg).length = neg := by
    unfold ng
    by_cases q : neg = 1
    · rw [if_pos q, q]; rfl
    · rw [if_neg q]
      show 0 = neg
      omega
  obtain ⟨w1, c1, c2⟩ := c_word (i := i) hn hc22 hX.2.2 he hi hmd h7 hC
  obtain ⟨u1, u2, u3⟩ := tok_up he (show tK T n e ≠ 15 by omega)
  obtain ⟨n1, n2, n3⟩ := c_name (i := i + 1) hn hc22 hX.2.2 u2 (by omega) (by omega) c2
  have fk1 : frk k rb (pb_wI (pb_wI rb 90 k (nI 1)) 91 k (nI g)) := frk_I (frk_I (frk_rf k rb) (by decide) _) (by decide) _
  have hX1 := frk_TX fk1 hX
  obtain ⟨B1, y1, y2, y3⟩ := ms_next (b := pb_wI (pb_wI rb 90 k (nI 1)) 91 k (nI g)) (S := S) (O := O) (P := P) (Q := Q) hX1 hM.1 hM.2.2.2.1 hM.2.2.2.2.2.2 u2
  have t4 := ty_le (tK T n (tE T n e))
  have E37 : pb_run T_X12_one (37, [some (.ref 64), none, some (.int (nI k)), none], [], ms rb B S O P Q) = pb_bI (M_X12_name [.ref 64, .int (nI k)] (ms (pb_wI (pb_wI rb 90 k (nI 1)) 91 k (nI g)) B S O P Q)) fun x6 w5 => (pb_run T_X12_one (122, [some (.ref 64), none, none, none], [.int x6], w5)) := by
    rw [r_X12_one_37, show (7 : Int32) = nI 7 from rfl, ms_key hX he hM (by decide), pb_bI_some, if_pos h7, if_neg (show ¬ (1 : Int32) = 0 by decide), show (1 : Int32) = nI 1 from rfl, one_69 hk h38 1 (by decide), if_pos rfl]
  rw [E37, e_X12_name, y1, pb_bV_some, show (ms (pb_wI (pb_wI rb 90 k (nI 1)) 91 k (nI g)) B1 S O P Q).1 64 30 = nI (tyK (tK T n (tE T n e))) from y2.2.1]
  have b39 : B1 39 = nI k := (y3 39 (by decide) (by decide) (by decide) (by decide)).trans h39
  have b38 : B1 38 = nI g := (y3 38 (by decide) (by decide) (by decide) (by decide)).trans h38
  by_cases q13 : tK T n (tE T n e) ≤ 13
  · obtain ⟨x1, x2, x3, x4, x5, x6⟩ := tok_word u2 q13
    rw [if_pos (show nI (tyK (tK T n (tE T n e))) = (2 : Int32) by rw [ty_word.mpr q13]; rfl), show (ms (pb_wI (pb_wI rb 90 k (nI 1)) 91 k (nI g)) B1 S O P Q).1 64 32 = nI (tE T n (tE T n e)) from y2.2.2.2.1, show (ms (pb_wI (pb_wI rb 90 k (nI 1)) 91 k (nI g)) B1 S O P Q).1 64 31 = nI (tS T n (tE T n e)) from y2.2.2.1, nI_subN x3]
    by_cases q8 : tE T n (tE T n e) - tS T n (tE T n e) ≤ 8
    · obtain ⟨v40, w2, d1, d2⟩ := n3 q13 q8
      obtain ⟨v1, v2, v3⟩ := tok_up u2 (show tK T n (tE T n e) ≠ 15 by omega)
      have NM := mx_name (b := ms (pb_wI (pb_wI rb 90 k (nI 1)) 91 k (nI g)) B1 S O P Q) (T := T) (n := n) ⟨hn, hX1.2.1, hX1.2.2⟩ x3 x2 x4 q8 hk (B1 30) (B1 33) y2.1 (tE T n (tE T n e) - tS T n (tE T n e)) 0 (by omega)
      have mE : mrd (ms (pb_wI (pb_wI rb 90 k (nI 1)) 91 k (nI g)) B1 S O P Q) (B1 30) (nI (tS T n (tE T n e))) (nI (tE T n (tE T n e))) (B1 33) = ms (pb_wI (pb_wI rb 90 k (nI 1)) 91 k (nI g)) B1 S O P Q := by
        rw [← y2.2.2.1, ← y2.2.2.2.1, ← ms_self]
      rw [mE, ms_L] at NM
      obtain ⟨B2, z1, z2, z3⟩ := ms_next (b := pb_wL (pb_wI (pb_wI rb 90 k (nI 1)) 91 k (nI g)) 95 k (lN (enc (wls T (tS T n (tE T n e)) (tE T n (tE T n e) - tS T n (tE T n e)))))) (S := S) (O := O) (P := P) (Q := Q) hX1 y2.1 y2.2.2.2.1 y2.2.2.2.2.2.2 v2
      have b39' : B2 39 = nI k := (z3 39 (by decide) (by decide) (by decide) (by decide)).trans b39
      have bodE : bod (beg, neg, 1, [], 0, [], tV T n (tE T n e)) = [stp 6 (tV T n (tE T n e))] ++ (ng neg).map st0 := rfl
      have bl : (bod (beg, neg, 1, [], 0, [], tV T n (tE T n e))).length = 1 + neg := by rw [bodE, List.length_append, List.length_map, lng]; rfl
      refine Or.inr ⟨(beg, neg, 1, [], 0, [], tV T n (tE T n e)), tE T n (tE T n e), i + 1 + 1, w2, pb_wL (pb_wI (pb_wI rb 90 k (nI 1)) 91 k (nI g)) 95 k (lN (enc (wls T (tS T n (tE T n e)) (tE T n (tE T n e) - tS T n (tE T n e))))), upd B2 39 (nI (k + 1)), S, O, P, Q, c1.trans d1, by omega, by omega, v2, ?_, rfl, ?_, MT_set39 z2 _, rfl, ⟨g, Nat.le_refl g, (z3 38 (by decide) (by decide) (by decide) (by decide)).trans b38, by omega, ?_⟩, ?_, frk_L fk1 _, fun _ _ => ⟨rfl, rfl⟩, by rw [bl]; omega⟩
      · exact ⟨4, su, br, te, ng neg, [stp 6 (tV T n (tE T n e))], d2, Or.inl rfl, ng_ok neg, bodE.symm, by omega⟩
      · rw [if_neg (show ¬ (8 : Int32) < nI (tE T n (tE T n e) - tS T n (tE T n e)) from nI_nlt (a := 8) q8 (by decide)), show pb_run T_X12_name (46, [some (.ref 64), some (.int (nI k)), some (.long (0 : Int64)), none, some (.int (nI (tS T n (tE T n e))))], [], ms (pb_wI (pb_wI rb 90 k (nI 1)) 91 k (nI g)) B1 S O P Q) = _ from NM, z1, pb_bV_some, pb_bI_some, (one_122 b39').1]
      · refine ⟨h97, h96, ?_, hbeg, hneg, (by decide : 1 ≤ 2), fun _ => ⟨?_, v40⟩, fun q => absurd q (by decide : ¬ (1 : Nat) = 0)⟩
        · show (if k = k then nI 1 else rb.1 90 k) = nI 1
          exact if_pos rfl
        · show (if k = k then lN (enc (wls T (tS T n (tE T n e)) (tE T n (tE T n e) - tS T n (tE T n e)))) else rb.2 95 k) = lN (tV T n (tE T n e))
          rw [if_pos rfl, x6]
      · intro j a0 a1 a2 a3 a5 a6 a8 a9
        rw [pu_at, if_neg a9, z3 j a0 a1 a2 a3, y3 j a0 a1 a2 a3]
    · rw [if_pos (show (8 : Int32) < nI (tE T n (tE T n e) - tS T n (tE T n e)) from nI_lt (a := 8) (by omega) (by omega)), show (3 : Int32) = nI 3 from rfl, ms_fail y2 3, pb_bI_some, (one_122 (B := upd (upd B1 36 (nI (fk (tK T n (tE T n e)) 3))) 35 (nI (tS T n (tE T n e)))) b39).2]
      refine Or.inl ⟨3, tS T n (tE T n e), _, _, S, O, P, Q, by decide, by decide, ?_, rfl, ?_, rfl, frO_tr (sameO y3) (frO_fail _ _), fk1, fun _ _ => ⟨rfl, rfl⟩⟩
      · rw [c1]
        exact n2 q13 (by omega)
      · show nI (fk (tK T n (tE T n e)) 3) = nI 3
        unfold fk
        rw [if_neg (by omega)]
  · rw [if_neg (show ¬ nI (tyK (tK T n (tE T n e))) = (2 : Int32) from fun z => q13 (ty_word.mp ((nI_eq (b := 2) (by omega) (by decide)).mp z))), show (2 : Int32) = nI 2 from rfl, ms_fail y2 2, pb_bI_some, (one_122 (B := upd (upd B1 36 (nI (fk (tK T n (tE T n e)) 2))) 35 (nI (tS T n (tE T n e)))) b39).2]
    refine Or.inl ⟨fk (tK T n (tE T n e)) 2, tS T n (tE T n e), _, _, S, O, P, Q, ?_, ?_, ?_, rfl, rfl, rfl, frO_tr (sameO y3) (frO_fail _ _), fk1, fun _ _ => ⟨rfl, rfl⟩⟩
    · unfold fk; split <;> omega
    · unfold fk; split <;> omega
    · rw [c1]
      exact n1 (by omega)
