theorem sum_bad {rb : pb_W} {T : Nat → Int32} {n e : Nat} (hX : TX rb T n) (he : e ≤ n) {B S O P Q : Nat → Int32} (hM : MT T n e B) (h16 : tK T n e = 16) : M_X12_sum [.ref 64] (ms rb B S O P Q) = some (some (.int 0), ms rb (upd (upd B 36 (nI 1)) 35 (nI (tS T n e))) S O (upd P 0 (nI 0)) (upd Q 0 (nI 0))) := by
  rw [e_X12_sum, c_0, ms_P, ms_Q, r_X12_sum_18, show (ms rb B S O (upd P 0 (0 : Int32)) (upd Q 0 (0 : Int32))).1 64 36 = 0 from hM.2.2.2.2.2.2.1, if_pos rfl, if_neg (show ¬ (1 : Int32) = 0 by decide), ms_vars hX he hM, pb_bI_some, if_neg (show ¬ (9 ≤ tK T n e ∧ tK T n e < 13) by omega), show (ms rb B S O (upd P 0 (0 : Int32)) (upd Q 0 (0 : Int32))).1 64 30 = nI (tyK (tK T n e)) from hM.2.1, h16, if_neg (show ¬ nI (tyK 16) = (3 : Int32) by decide), if_pos rfl, show (40 : Int32) = nI 40 from rfl, ms_sign hM (by decide) (by decide), pb_bI_some, if_neg (show ¬ tK T n e = 40 by omega), if_pos rfl, show (2 : Int32) = nI 2 from rfl, ms_fail hM 2, h16]
  rfl
theorem sim_bad {cb rb : pb_W} {T : Nat → Int32} {n : Nat} (hX : TX rb T n) {ru md beg k g e i : Nat} {w : pb_W} {su br te : Int32} {bs s : List Nat} {C : List Int64} {B S O P Q : Nat → Int32} (he : e ≤ n) (hk : k < 1500) (h16 : tK T n e = 16) (hC : CW cb T n e w md su br te s C ru) (hM : MT T n e B) (h38 : B 38 = nI g) (h39 : B 39 = nI k) : OneOut cb rb T n ru bs C g k beg e i w B S O (pb_run T_X12_one (37, [some (.ref 64), none, some (.int (nI k)), none], [], ms rb B S O P Q)) := by
  obtain ⟨A, WT, CD, v, rfl, hT, hB⟩ := hC
  have fk1 : frk k rb (pb_wI (pb_wI rb 90 k (nI 0)) 91 k (nI g)) := frk_I (frk_I (frk_rf k rb) (by decide) _) (by decide) _
  have hX1 := frk_TX fk1 hX
  rw [r_X12_one_37, show (7 : Int32) = nI 7 from rfl, ms_key hX he hM (by decide), pb_bI_some, if_neg (show ¬ tK T n e = 7 by omega), if_pos rfl, show (8 : Int32) = nI 8 from rfl, ms_key hX he hM (by decide), pb_bI_some, if_neg (show ¬ tK T n e = 8 by omega), if_pos rfl, show (0 : Int32) = nI 0 from rfl, one_69 hk h38 0 (by decide), if_neg (by decide), if_neg (by decide), e_X12_comparing, sum_bad hX1 he hM h16, pb_bI_some, if_pos rfl, pb_bI_some]
  exact one_fail (by decide) (by decide) (crun_fail (by decide) (by decide) (tk_unk hT h16)) rfl rfl h39 (frO_fail _ _) fk1 (fun _ _ => ⟨rfl, rfl⟩)
theorem frk_tr {k : Nat} {b b1 b2 : pb_W} (h : frk k b b1) (h2 : frk k b1 b2) : frk k b b2 := ⟨fun c j q => (h2.1 c j q).trans (h.1 c j q), fun c j q => (h2.2 c j q).trans (h.2 c j q)⟩
theorem OneOut_on {cb rb rb1 : pb_W} {T : Nat → Int32} {n ru : Nat} {bs : List Nat} {C : List Int64} {g k beg e i e1 i1 : Nat} {w w1 : pb_W} {B S O B1 : Nat → Int32} {R : Option pb_R} (hc : crun i w = crun i1 w1) (he : e ≤ e1) (hB : frO B B1) (hf : frk k rb rb1) (h : OneOut cb rb1 T n ru bs C g k beg e1 i1 w1 B1 S O R) : OneOut cb rb T n ru bs C g k beg e i w B S O R := by
  rcases h with ⟨kd, p, rb', B', S', O', P', Q', k1, k5, F1, F2, F3, F4, F5, F6, F7⟩ | ⟨o, e', i', w', rb', B', S', O', P', Q', r1, r2, r3, r4, r5, r6, r7, r8, r9, r10, r11, r12, r13, r14⟩
  · exact Or.inl ⟨kd, p, rb', B', S', O', P', Q', k1, k5, by rw [hc]; exact F1, F2, F3, F4, frO_tr hB F5, frk_tr hf F6, F7⟩
  · exact Or.inr ⟨o, e', i', w', rb', B', S', O', P', Q', hc.trans r1, r2, Nat.le_trans he r3, r4, r5, r6, r7, r8, r9, r10, frO_tr hB r11, frk_tr hf r12, r13, r14⟩
/-- one, all in all -/
theorem sim_one {cb rb : pb_W} {T : Nat → Int32} {n : Nat} (hX : TX rb T n) (hc22 : cb.1 22 = T) {ru beg k g e i : Nat} {w : pb_W} {su br te : Int32} {bs : List Nat} {C : List Int64} {B S O P Q : Nat → Int32} (he : e ≤ n) (hi : i ≤ e) (hbeg : beg ≤ 1) (hk : k < 1500) (hg : g ≤ 2400 + C.length) (hbs : ∀ x, x ∈ bs → x / 10 < 3 ∧ x < 100) (hbl : bs.length ≤ 2) (hC : CW cb T n e w 1 su br te bs C ru) (hpot : C.length + bs.length + 1 ≤ e) (hM : MT T n e B) (h38 : B 38 = nI g) (h39 : B 39 = nI k) : OneOut cb rb T n ru bs C g k beg e i w B S O (M_X12_one [.ref 64, .int (nI beg)] (ms rb B S O P Q)) := by
  have hn := hX.1
  have i1500 : pb_in (nI k) 1500 := pn_in hk (by decide)
  have kc : (nI k).toNatClampNeg = k := nI_clamp (by omega)
  have nb : vp_nar .boolean (nI beg) = nI beg := by
    have : beg = 0 ∨ beg = 1 := by omega
    rcases this with q | q <;> subst q <;> decide
  have fk0 : frk k rb (pb_wI rb 97 k (nI beg)) := frk_I (frk_rf k rb) (by decide) _
  have hX0 := frk_TX fk0 hX
  have fk1 : ∀ neg : Nat, frk k rb (pb_wI (pb_wI rb 97 k (nI beg)) 96 k (nI neg)) := fun neg => frk_I fk0 (by decide) _
  have a97 : ∀ neg : Nat, (pb_wI (pb_wI rb 97 k (nI beg)) 96 k (nI neg)).1 97 k = nI beg := fun neg => by
    show (if k = k then nI beg else rb.1 97 k) = nI beg
    exact if_pos rfl
  have a96 : ∀ neg : Nat, (pb_wI (pb_wI rb 97 k (nI beg)) 96 k (nI neg)).1 96 k = nI neg := fun neg => by
    show (if k = k then nI neg else rb.1 96 k) = nI neg
    exact if_pos rfl
  have E : M_X12_one [.ref 64, .int (nI beg)] (ms rb B S O P Q) = if tK T n e = 6 then (pb_bV (M_X12_next [.ref 64] (ms (pb_wI (pb_wI rb 97 k (nI beg)) 96 k (nI 1)) B S O P Q)) fun w3 => (pb_run T_X12_one (37, [some (.ref 64), none, some (.int (nI k)), none], [], w3))) else pb_run T_X12_one (37, [some (.ref 64), none, some (.int (nI k)), none], [], ms (pb_wI (pb_wI rb 97 k (nI beg)) 96 k (nI 0)) B S O P Q) := by
    rw [e_X12_one, show (ms rb B S O P Q).1 64 39 = nI k from h39, if_pos i1500, kc, nb, ms_b _ _ _ _ _ _ 97 _ _ (by decide), show (6 : Int32) = nI 6 from rfl, ms_key hX0 he hM (by decide), pb_bI_some, if_pos i1500, if_pos i1500]
    by_cases q : tK T n e = 6
    · rw [if_pos q, if_pos q, show vp_nar .boolean (1 : Int32) = nI 1 by decide, ms_b _ _ _ _ _ _ 96 _ _ (by decide), show (ms (pb_wI (pb_wI rb 97 k (nI beg)) 96 k (nI 1)) B S O P Q).1 96 k = nI 1 from a96 1, if_neg (show ¬ nI 1 = (0 : Int32) by decide)]
    · rw [if_neg q, if_neg q, show vp_nar .boolean (0 : Int32) = nI 0 by decide, ms_b _ _ _ _ _ _ 96 _ _ (by decide), show (ms (pb_wI (pb_wI rb 97 k (nI beg)) 96 k (nI 0)) B S O P Q).1 96 k = nI 0 from a96 0, if_pos (show nI 0 = (0 : Int32) from rfl)]
  rw [E]
  by_cases q6 : tK T n e = 6
  · rw [if_pos q6]
    obtain ⟨u1, u2, u3⟩ := tok_up he (show tK T n e ≠ 15 by omega)
    obtain ⟨w1, c1, c2⟩ := c_not (i := i) hn hc22 hX.2.2 he hi hbl q6 hC
    have hX1 := frk_TX (fk1 1) hX
    obtain ⟨B1, y1, y2, y3⟩ := ms_next (b := pb_wI (pb_wI rb 97 k (nI beg)) 96 k (nI 1)) (S := S) (O := O) (P := P) (Q := Q) hX1 hM.1 hM.2.2.2.1 hM.2.2.2.2.2.2 u2
    have b39 : B1 39 = nI k := (y3 39 (by decide) (by decide) (by decide) (by decide)).trans h39
    have b38 : B1 38 = nI g := (y3 38 (by decide) (by decide) (by decide) (by decide)).trans h38
    have c2' : CW cb T n (tE T n e) w1 2 su br te (ng 1 ++ bs) C ru := c2
    rw [y1, pb_bV_some]
    refine OneOut_on c1 (Nat.le_of_lt u1) (sameO y3) (fk1 1) ?_
    by_cases q16 : tK T n (tE T n e) = 16
    · exact sim_bad hX1 u2 hk q16 c2 y2 b38 b39
    · by_cases q7 : tK T n (tE T n e) = 7
      · exact sim_word hX1 hc22 u2 (by omega) (Or.inr rfl) (by decide) hbeg hk q7 c2' (by omega) y2 b38 b39 (a97 1) (a96 1)
      · by_cases q8 : tK T n (tE T n e) = 8
        · exact sim_came hX1 hc22 u2 (by omega) (Or.inr rfl) (by decide) hbeg hk q8 c2' (by omega) y2 b38 b39 (a97 1) (a96 1)
        · exact sim_cmp hX1 hc22 u2 (by omega) (Or.inr rfl) (by decide) hbeg hk hg hbs hbl (fun z => absurd z.1 (by decide)) q7 q8 q16 c2' (by omega) y2 b38 b39 (a97 1) (a96 1)
  · rw [if_neg q6]
    have hX1 := frk_TX (fk1 0) hX
    have c2' : CW cb T n e w 1 su br te (ng 0 ++ bs) C ru := hC
    refine OneOut_on rfl (Nat.le_refl e) (fun k _ _ _ _ _ _ _ _ => rfl) (fk1 0) ?_
    by_cases q16 : tK T n e = 16
    · exact sim_bad hX1 he hk q16 hC hM h38 h39
    · by_cases q7 : tK T n e = 7
      · exact sim_word hX1 hc22 he hi (Or.inl rfl) (by decide) hbeg hk q7 c2' (by omega) hM h38 h39 (a97 0) (a96 0)
      · by_cases q8 : tK T n e = 8
        · exact sim_came hX1 hc22 he hi (Or.inl rfl) (by decide) hbeg hk q8 c2' (by omega) hM h38 h39 (a97 0) (a96 0)
        · exact sim_cmp hX1 hc22 he hi (Or.inl rfl) (by decide) hbeg hk hg hbs hbl (fun z => q6 z.2) q7 q8 q16 c2' (by omega) hM h38 h39 (a97 0) (a96 0)
