theorem ms_key0 {b : pb_W} {T : Nat → Int32} {n e : Nat} (hX : TX b T n) (he : e ≤ n) {B S O P Q : Nat → Int32} (hM : MT T n e B) : M_X12_isKey [.ref 64, .int (0 : Int32)] (ms b B S O P Q) = some (some (.int (if tK T n e = 0 then 1 else 0)), ms b B S O P Q) := ms_key hX he hM (c := 0) (by decide)
theorem ms_key1 {b : pb_W} {T : Nat → Int32} {n e : Nat} (hX : TX b T n) (he : e ≤ n) {B S O P Q : Nat → Int32} (hM : MT T n e B) : M_X12_isKey [.ref 64, .int (1 : Int32)] (ms b B S O P Q) = some (some (.int (if tK T n e = 1 then 1 else 0)), ms b B S O P Q) := ms_key hX he hM (c := 1) (by decide)
theorem ms_key2 {b : pb_W} {T : Nat → Int32} {n e : Nat} (hX : TX b T n) (he : e ≤ n) {B S O P Q : Nat → Int32} (hM : MT T n e B) : M_X12_isKey [.ref 64, .int (2 : Int32)] (ms b B S O P Q) = some (some (.int (if tK T n e = 2 then 1 else 0)), ms b B S O P Q) := ms_key hX he hM (c := 2) (by decide)
theorem ms_key3 {b : pb_W} {T : Nat → Int32} {n e : Nat} (hX : TX b T n) (he : e ≤ n) {B S O P Q : Nat → Int32} (hM : MT T n e B) : M_X12_isKey [.ref 64, .int (3 : Int32)] (ms b B S O P Q) = some (some (.int (if tK T n e = 3 then 1 else 0)), ms b B S O P Q) := ms_key hX he hM (c := 3) (by decide)
theorem ms_fail2 {b : pb_W} {T : Nat → Int32} {n e : Nat} {B S O P Q : Nat → Int32} (hM : MT T n e B) : (pb_bI (M_X12_fails [.ref 64, .int (2 : Int32)] (ms b B S O P Q)) fun x w => (if x = 0 ∨ x = 1 then (some (some (Value.int x), w)) else none)) = some (some (Value.int 0), ms b (upd (upd B 36 (nI (fk (tK T n e) 2))) 35 (nI (tS T n e))) S O P Q) := ms_fail hM 2
theorem ms_fail4 {b : pb_W} {T : Nat → Int32} {n e : Nat} {B S O P Q : Nat → Int32} (hM : MT T n e B) : (pb_bI (M_X12_fails [.ref 64, .int (4 : Int32)] (ms b B S O P Q)) fun x w => (if x = 0 ∨ x = 1 then (some (some (Value.int x), w)) else none)) = some (some (Value.int 0), ms b (upd (upd B 36 (nI (fk (tK T n e) 4))) 35 (nI (tS T n e))) S O P Q) := ms_fail hM 4
theorem ORep_c {b : pb_W} {S O : Nat → Int32} {k g : Nat} {o : On} {c x : Nat} {v : Int32} (h : ORep b S O k o g) (hc : c < 90) : ORep (pb_wI b c x v) S O k o g := by
  refine ORep_up h (fun d d1 d2 => ?_) rfl (Nat.le_refl g) (fun _ _ => ⟨rfl, rfl⟩)
  rw [pw_I1, if_neg (by omega)]
theorem sim_rule {cb rb : pb_W} {T : Nat → Int32} {n : Nat} (hX : TX rb T n) (hc22 : cb.1 22 = T) {ru g k kE gE E e i : Nat} {w : pb_W} {su br te : Int32} {C : List Int64} {B S O P Q : Nat → Int32} (he : e ≤ n) (hi : i ≤ e) (hE : E ≤ 4) (hru : ru ≤ 30) (hgE : gE ≤ 2400) (hkE : kE ≤ 1200) (hk : kE ≤ k) (hk2 : 2 * (k - kE) ≤ C.length) (hg : g ≤ gE + C.length) (hC : CW cb T n e w 0 su br te [] C ru) (hpot : C.length ≤ e) (hM : MT T n e B) (h37 : B 37 = nI E) (h38 : B 38 = nI g) (h39 : B 39 = nI k) (h84 : rb.1 84 E = nI ru) (h15 : tK T n e ≠ 15) : RuleOut cb rb T n ru C g k kE gE E (30 * E + ru) e i w B S O (M_X12_rule [.ref 64] (ms rb B S O P Q)) := by
  have hn := hX.1
  have klt := tK_lt T n e
  have E6 : pb_in (nI E) 6 := pn_in (by omega) (by decide)
  have Ec : (nI E).toNatClampNeg = E := nI_clamp (by omega)
  obtain ⟨R1, R2, R3, -⟩ := c_rule (i := i) hn hc22 hX.2.2 he hi (by omega) hC
  rw [e_X12_rule, ms_key0 hX he hM, pb_bI_some]
  by_cases q0 : tK T n e = 0
  · rw [if_pos q0, if_neg (show ¬ (1 : Int32) = 0 by decide), show (ms rb B S O P Q).1 64 37 = nI E from h37, if_pos E6, Ec, show (ms rb B S O P Q).1 84 E = nI ru from h84]
    by_cases q30 : ru = 30
    · rw [if_pos (show nI ru = (30 : Int32) by rw [q30]; rfl), ms_fail4 hM]
      refine Or.inl ⟨4, tS T n e, rb, _, S, O, P, Q, by decide, by decide, R2 q0 (by omega), rfl, ?_, rfl, frO_fail _ _, frR_rf _ _ _ _, fun _ _ => ⟨rfl, rfl⟩⟩
      show nI (fk (tK T n e) 4) = nI 4
      unfold fk
      rw [if_neg (by omega)]
    · have x186 : pb_in (nI (30 * E + ru)) 186 := pn_in (by omega) (by decide)
      have xe : (30 : Int32) * nI E + nI ru = nI (30 * E + ru) := by rw [show (30 : Int32) * nI E = nI (30 * E) from pn_mul 30 E, nI_add]
      have xc : (nI (30 * E + ru)).toNatClampNeg = 30 * E + ru := nI_clamp (by omega)
      obtain ⟨w1, c1, c2⟩ := R1 q0 (by omega)
      obtain ⟨u1, u2, u3⟩ := tok_up he h15
      obtain ⟨B1, y1, y2, y3⟩ := ms_next (S := S) (O := O) (P := P) (Q := Q) hX hM.1 hM.2.2.2.1 hM.2.2.2.2.2.2 u2
      have b39 : B1 39 = nI k := (y3 39 (by decide) (by decide) (by decide) (by decide)).trans h39
      have b38 : B1 38 = nI g := (y3 38 (by decide) (by decide) (by decide) (by decide)).trans h38
      rw [if_neg (show ¬ nI ru = (30 : Int32) from fun y => q30 ((nI_eq (b := 30) (by omega) (by decide)).mp y)), if_pos E6, y1, pb_bV_some, xe, if_pos x186, xc, show (ms rb B1 S O P Q).1 64 39 = nI k from b39, ms_b _ _ _ _ _ _ 85 _ _ (by decide)]
      simp only [if_pos x186]
      have fR0 : frR k (30 * E + ru) E rb (pb_wI rb 85 (30 * E + ru) (nI k)) := frR_I (frR_rf _ _ _ _) (by decide) _
      have hX0 := frR_TX fR0 hX
      -- the test
      have TT : TestOut cb (pb_wI rb 85 (30 * E + ru) (nI k)) T n ru C g k kE gE (tE T n e) (i + 1) w1 B1 S O (M_X12_test [.ref 64] (ms (pb_wI rb 85 (30 * E + ru) (nI k)) B1 S O P Q)) := by
        have Z := sim_one (i := i + 1) (beg := 1) (k := k) (g := g) (S := S) (O := O) (P := P) (Q := Q) hX0 hc22 u2 (by omega) (by decide) (by omega) (Nat.le_trans hg (Nat.add_le_add_right hgE _)) (fun x hx => by simp at hx) (by decide) c2 (by show C.length + 0 + 1 ≤ _; omega) y2 b38 b39
        rw [e_X12_test]
        rcases Z with ⟨kd, p, rb2, B2, S2, O2, P2, Q2, k1, k5, F1, F2, F3, F4, F5, F6, F7⟩ | ⟨o2, e2, i2, w2, rb2, B2, S2, O2, P2, Q2, r1, r2, r3, r4, r5, r6, r7, r8, r9, ⟨g2, q1, q2, q3, q4⟩, r11, r12, r13, r14⟩
        · rw [show M_X12_one [.ref 64, .int (1 : Int32)] (ms (pb_wI rb 85 (30 * E + ru) (nI k)) B1 S O P Q) = _ from F2, pb_bI_some, r_X12_test_6, if_pos rfl, if_pos (Or.inl rfl)]
          exact Or.inl ⟨kd, p, rb2, B2, S2, O2, P2, Q2, k1, k5, F1, rfl, F3, F4, F5, frK_k (Nat.le_refl k) F6, F7⟩
        · rw [show M_X12_one [.ref 64, .int (1 : Int32)] (ms (pb_wI rb 85 (30 * E + ru) (nI k)) B1 S O P Q) = _ from r7, pb_bI_some]
          refine sim_test hX0 hc22 hgE hkE hk (n - e2) [] o2 [] C e2 i2 w2 rb2 B2 S2 O2 P2 Q2 g2 rfl r1 r2 r3 r4 (Or.inl rfl) r5 (fun r => rfl) r8 r9 q2 q1 ?_ r11 (frK_k (Nat.le_refl k) r12) r13 r14 (by show 2 * (k + 0 - kE) ≤ C.length + 0; omega) (by omega) (Nat.le_refl _) r6
          intro j hj
          have : j = 0 := by simpa using hj
          subst this
          exact q4
      rcases TT with ⟨kd, p, rb2, B2, S2, O2, P2, Q2, k1, k5, F1, F2, F3, F4, F5, F6, F7⟩ | ⟨os, o, bs, C2, e2, i2, w2, rb2, B2, S2, O2, P2, Q2, g2, t1, t2, t3, t4, t5, t6, t7, t8, t9, t10, t11, t12, t13, t14, t15, t16, t17, t18, t19, t20, t21, t22, t23⟩
      · rw [F2, pb_bI_some, if_pos rfl]
        exact Or.inl ⟨kd, p, rb2, B2, S2, O2, P2, Q2, k1, k5, by rw [c1]; exact F1, rfl, F3, F4, frO_tr (sameO y3) F5, frR_tr fR0 (frR_K F6), F7⟩
      · have fR2 : frR k (30 * E + ru) E rb rb2 := frR_tr fR0 (frR_K t17)
        have fR3 : frR k (30 * E + ru) E rb (pb_wI rb2 86 (30 * E + ru) (nI (k + os.length + 1))) := frR_I fR2 (by decide) _
        have hX2 := frR_TX fR3 hX
        have fB2 : frO B B2 := frO_tr (sameO y3) t16
        obtain ⟨bb1, bb2, -, -, bb5, -, -, bb8⟩ := bs_f t5
        have BS := bo_step (i := i2) hn hc22 hX.2.2 t4 t2 (fun x hx => (bb1 x hx).2) (by omega) (by omega) t6
        rw [t10, pb_bI_some, if_neg (show ¬ (1 : Int32) = 0 by decide), show (ms rb2 B2 S2 O2 P2 Q2).1 64 39 = nI (k + os.length + 1) from t12, ms_b _ _ _ _ _ _ 86 _ _ (by decide), e_X12_wantKey, ms_key1 hX2 t4 t11, pb_bI_some]
        by_cases qt : tK T n e2 = 1
        · obtain ⟨w3, d1, su3, br3, d2⟩ := BS.2.2.1 qt
          obtain ⟨v1, v2, v3⟩ := tok_up t4 (show tK T n e2 ≠ 15 by omega)
          rw [t9, bb5] at d2
          obtain ⟨B3, z1, z2, z3⟩ := ms_next (b := pb_wI rb2 86 (30 * E + ru) (nI (k + os.length + 1))) (S := S2) (O := O2) (P := P2) (Q := Q2) hX2 t11.1 t11.2.2.2.1 t11.2.2.2.2.2.2 v2
          have fB3 : frO B B3 := frO_tr fB2 (sameO z3)
          obtain ⟨K1, K2⟩ := c_kind (i := i2 + 1) hn hc22 hX.2.2 v2 (by omega) d2
          have c39 : B3 39 = nI (k + os.length + 1) := (z3 39 (by decide) (by decide) (by decide) (by decide)).trans t12
          have c38 : B3 38 = nI g2 := (z3 38 (by decide) (by decide) (by decide) (by decide)).trans t13
          have lenT : (C ++ cmpT (os ++ [o]) []).length = C2.length + (bod o).length + bs.length := by rw [← t9, List.length_append, List.length_append, List.length_map, bb8]; omega
          have bp := bod_pos o
          have lenT2 : (C ++ cmpT (os ++ [o]) []).length = C.length + (cmpT (os ++ [o]) []).length := List.length_append
          rw [if_pos qt, if_neg (show ¬ (1 : Int32) = 0 by decide), z1, pb_bV_some, pb_bI_some, if_neg (show ¬ (1 : Int32) = 0 by decide), e_X12_wantKey, ms_key2 hX2 v2 z2, pb_bI_some]
          by_cases qk : tK T n (tE T n e2) = 2
          · obtain ⟨w4, f1, f2⟩ := K1 qk
            obtain ⟨x1, x2, x3⟩ := tok_up v2 (show tK T n (tE T n e2) ≠ 15 by omega)
            obtain ⟨B4, a1, a2, a3⟩ := ms_next (b := pb_wI rb2 86 (30 * E + ru) (nI (k + os.length + 1))) (S := S2) (O := O2) (P := P2) (Q := Q2) hX2 z2.1 z2.2.2.2.1 z2.2.2.2.2.2.2 x2
            have fB4 : frO B B4 := frO_tr fB3 (sameO a3)
            have d38 : B4 38 = nI g2 := (a3 38 (by decide) (by decide) (by decide) (by decide)).trans c38
            have d39 : B4 39 = nI (k + os.length + 1) := (a3 39 (by decide) (by decide) (by decide) (by decide)).trans c39
            have fR4 : frR k (30 * E + ru) E rb (pb_wI (pb_wI rb2 86 (30 * E + ru) (nI (k + os.length + 1))) 87 (30 * E + ru) (nI g2)) := frR_I fR3 (by decide) _
            have hX4 := frR_TX fR4 hX
            have cth : (C ++ cmpT (os ++ [o]) [] ++ [stp 70 0]).length = C2.length + (bod o).length + bs.length + 1 := by rw [List.length_append, lenT, List.length_singleton]
            rw [if_pos qk, if_neg (show ¬ (1 : Int32) = 0 by decide), a1, pb_bV_some, pb_bI_some, if_neg (show ¬ (1 : Int32) = 0 by decide), show (ms (pb_wI rb2 86 (30 * E + ru) (nI (k + os.length + 1))) B4 S2 O2 P2 Q2).1 64 38 = nI g2 from d38, ms_b _ _ _ _ _ _ 87 _ _ (by decide)]
            have L := sum_call (cb := cb) (su := 2) (te := nI (C ++ cmpT (os ++ [o]) []).length) (ru := ru) (bs := []) (C0 := C ++ cmpT (os ++ [o]) [] ++ [stp 70 0]) (g0 := g2) (sl := 2) (i := i2 + 1 + 1) (w := w4) (S := S2) (O := O2) (P := P2) (Q := Q2) hX4 hc22 (fun x hx => by simp at hx) (by decide) (by omega) x2 (by omega) f2 (by rw [cth]; show _ + 0 + 2 ≤ _; omega) a2 d38
            have lo : (os ++ [o]).length = os.length + 1 := by rw [List.length_append, List.length_singleton]
            rcases L with ⟨kd, p, B5, S5, O5, P5, Q5, k1, k5, F1, F2, F3, F4, F5, F6⟩ | ⟨e5, i5, w5, B5, S5, O5, P5, Q5, ka, kt, kc, s1, s2, s3, s4, s5, s6, s7, s8, s9, s10, s11, s12, s13, s14, s15⟩
            · rw [F2, pb_bI_some, if_pos rfl]
              refine Or.inl ⟨kd, p, _, B5, S5, O5, P5, Q5, k1, k5, by rw [c1, t1, d1, f1]; exact F1, rfl, F3, F4, frO_tr fB4 (frO_of F5), fR4, fun j hj => ?_⟩
              obtain ⟨h1, h2⟩ := F6 j (by omega)
              obtain ⟨h3, h4⟩ := t18 j hj
              exact ⟨h1.trans h3, h2.trans h4⟩
            · have fB5 : frO B B5 := frO_tr fB4 (frO_of s15)
              have fR5 : frR k (30 * E + ru) E rb (pb_wI (pb_wI (pb_wI rb2 86 (30 * E + ru) (nI (k + os.length + 1))) 87 (30 * E + ru) (nI g2)) 88 (30 * E + ru) (nI (g2 + (kc ++ fl kt ++ fl ka).length))) := frR_I fR4 (by decide) _
              have hX5 := frR_TX fR5 hX
              have s13' : (C ++ cmpT (os ++ [o]) [] ++ [stp 70 0]).length + (kc ++ fl kt ++ fl ka).length + 0 + 2 ≤ e5 := s13
              have e37 : B5 37 = nI E := (fB5 37 (by decide) (by decide) (by decide) (by decide) (by decide) (by decide) (by decide) (by decide)).trans h37
              have e39 : B5 39 = nI (k + os.length + 1) := (s15 39 (by decide) (by decide) (by decide) (by decide) (by decide) (by decide) (by decide)).trans d39
              have sm5 : ∀ j, j < g → S5 j = S j ∧ O5 j = O j := fun j hj => ⟨(s11 j (by omega)).1.trans (t18 j hj).1, (s11 j (by omega)).2.trans (t18 j hj).2⟩
              have crE : crun i w = crun i5 w5 := by rw [c1, t1, d1, f1]; exact s1
              have a84 : (pb_wI (pb_wI (pb_wI rb2 86 (30 * E + ru) (nI (k + os.length + 1))) 87 (30 * E + ru) (nI g2)) 88 (30 * E + ru) (nI (g2 + (kc ++ fl kt ++ fl ka).length))).1 84 E = nI ru := by
                show rb2.1 84 E = nI ru
                have := t17.1 84 E (fun z => by omega)
                rw [this]
                exact h84
              have a85 : (pb_wI (pb_wI (pb_wI rb2 86 (30 * E + ru) (nI (k + os.length + 1))) 87 (30 * E + ru) (nI g2)) 88 (30 * E + ru) (nI (g2 + (kc ++ fl kt ++ fl ka).length))).1 85 (30 * E + ru) = nI k := by
                show rb2.1 85 (30 * E + ru) = nI k
                have := t17.1 85 (30 * E + ru) (fun z => by omega)
                rw [this]
                show (if 30 * E + ru = 30 * E + ru then nI k else rb.1 85 (30 * E + ru)) = nI k
                exact if_pos rfl
              have onr : ∀ S6 O6 g6, g2 ≤ g6 → (∀ j, j < g2 → S6 j = S2 j ∧ O6 j = O2 j) → ∀ j, j < (os ++ [o]).length → ORep (pb_wI (pb_wI (pb_wI rb2 86 (30 * E + ru) (nI (k + os.length + 1))) 87 (30 * E + ru) (nI g2)) 88 (30 * E + ru) (nI (g2 + (kc ++ fl kt ++ fl ka).length))) S6 O6 (k + j) ((os ++ [o]).getD j dO) g6 := by
                intro S6 O6 g6 hg6 hS6 j hj
                rw [lo] at hj
                exact ORep_c (ORep_c (ORep_c (ORep_up (t15 j hj) (fun _ _ _ => rfl) rfl hg6 hS6) (by decide)) (by decide)) (by decide)
              rw [s7, pb_bI_some, if_neg (show ¬ (1 : Int32) = 0 by decide), show (ms (pb_wI (pb_wI rb2 86 (30 * E + ru) (nI (k + os.length + 1))) 87 (30 * E + ru) (nI g2)) B5 S5 O5 P5 Q5).1 64 38 = nI (g2 + (kc ++ fl kt ++ fl ka).length) from s9, ms_b _ _ _ _ _ _ 88 _ _ (by decide), ms_key3 hX5 s4 s8, pb_bI_some]
              by_cases q3 : tK T n e5 = 3
              · rw [if_pos q3, if_neg (show ¬ (1 : Int32) = 0 by decide)]
                have CR := c_res (i := i5) (su := 2) (te := (C ++ cmpT (os ++ [o]) []).length) hn hc22 hX.2.2 s4 s2 (Or.inl rfl) s14 s6 (by rw [cth, lenT]; omega) (by omega) s5
                obtain ⟨w6, m1, m2⟩ := CR.1 q3 rfl
                obtain ⟨y5, y6, y7⟩ := tok_up s4 (show tK T n e5 ≠ 15 by omega)
                obtain ⟨B6, n1, n2, n3⟩ := ms_next (b := pb_wI (pb_wI (pb_wI rb2 86 (30 * E + ru) (nI (k + os.length + 1))) 87 (30 * E + ru) (nI g2)) 88 (30 * E + ru) (nI (g2 + (kc ++ fl kt ++ fl ka).length))) (S := S5) (O := O5) (P := P5) (Q := Q5) hX5 s8.1 s8.2.2.2.1 s8.2.2.2.2.2.2 y6
                have fB6 : frO B B6 := frO_tr fB5 (sameO n3)
                have cku : (C ++ cmpT (os ++ [o]) [] ++ [stp 70 0] ++ (kc ++ fl kt ++ fl ka).map ic ++ [stp 71 0]).length = (C ++ cmpT (os ++ [o]) [] ++ [stp 70 0]).length + (kc ++ fl kt ++ fl ka).length + 1 := by rw [List.length_append, List.length_append (as := C ++ cmpT (os ++ [o]) [] ++ [stp 70 0]), List.length_map, List.length_singleton]
                have L2 := sum_call (cb := cb) (su := 3) (te := nI (C ++ cmpT (os ++ [o]) []).length) (ru := ru) (bs := []) (C0 := C ++ cmpT (os ++ [o]) [] ++ [stp 70 0] ++ (kc ++ fl kt ++ fl ka).map ic ++ [stp 71 0]) (g0 := g2 + (kc ++ fl kt ++ fl ka).length) (sl := 2) (i := i5 + 1) (w := w6) (S := S5) (O := O5) (P := P5) (Q := Q5) hX5 hc22 (fun x hx => by simp at hx) (by decide) (by omega) y6 (by omega) m2 (by rw [cku]; show _ + 0 + 2 ≤ _; omega) n2 ((n3 38 (by decide) (by decide) (by decide) (by decide)).trans s9)
                rw [n1, pb_bV_some]
                rcases L2 with ⟨kd, p, B7, S7, O7, P7, Q7, k1, k5, F1, F2, F3, F4, F5, F6⟩ | ⟨e7, i7, w7, B7, S7, O7, P7, Q7, ua, ut, uc, v1', v2', v3', v4', v5', v6', v7', v8', v9', v10', v11', v12', v13', v14', v15'⟩
                · rw [F2, pb_bI_some, if_pos rfl]
                  refine Or.inl ⟨kd, p, _, B7, S7, O7, P7, Q7, k1, k5, by rw [crE, m1]; exact F1, rfl, F3, F4, frO_tr fB6 (frO_of F5), fR5, fun j hj => ?_⟩
                  obtain ⟨h1, h2⟩ := F6 j (by omega)
                  obtain ⟨h3, h4⟩ := sm5 j hj
                  exact ⟨h1.trans h3, h2.trans h4⟩
                · rw [v7', pb_bI_some, if_neg (show ¬ (1 : Int32) = 0 by decide)]
                  have fB7 : frO B B7 := frO_tr fB6 (frO_of v15')
                  have v13'' : (C ++ cmpT (os ++ [o]) [] ++ [stp 70 0] ++ (kc ++ fl kt ++ fl ka).map ic ++ [stp 71 0]).length + (uc ++ fl ut ++ fl ua).length + 0 + 2 ≤ e7 := v13'
                  refine sim_end (un := true) (su := 3) (f := k) (h := g2) (ones := os ++ [o]) (kind := kc ++ fl kt ++ fl ka) (k1 := k + os.length + 1) (g1 := g2 + (kc ++ fl kt ++ fl ka).length + (uc ++ fl ut ++ fl ua).length) hX hc22 hgE (crE.trans (m1.trans v1')) v2' (by omega) v4' hE (by omega) (by omega) rfl v5' v14' v6' (fun z => by cases z) rfl rfl (fun z => by cases z) (by omega) v8' ((fB7 37 (by decide) (by decide) (by decide) (by decide) (by decide) (by decide) (by decide) (by decide)).trans h37) v9' ?_ a84 (by omega) (by omega) (by rw [lenT2] at lenT; omega) (by rw [cku, cth]; omega) a85 ?_ ?_ ?_ rfl (by rw [lo]; omega) ?_ ?_ (fun _ => v10') s12 (fun _ => v12') (by rw [lo]; omega) t23 fB7 fR5 ?_
                  · exact ((v15' 39 (by decide) (by decide) (by decide) (by decide) (by decide) (by decide) (by decide)).trans (n3 39 (by decide) (by decide) (by decide) (by decide))).trans e39
                  · rw [lo]
                    show (if 30 * E + ru = 30 * E + ru then nI (k + os.length + 1) else rb2.1 86 (30 * E + ru)) = nI (k + (os.length + 1))
                    rw [if_pos rfl]
                    rfl
                  · show (if 30 * E + ru = 30 * E + ru then nI g2 else rb2.1 87 (30 * E + ru)) = nI g2
                    exact if_pos rfl
                  · show (if 30 * E + ru = 30 * E + ru then nI (g2 + (kc ++ fl kt ++ fl ka).length) else rb2.1 88 (30 * E + ru)) = _
                    exact if_pos rfl
                  · refine onr S7 O7 _ (by omega) (fun j hj => ?_)
                    obtain ⟨h1, h2⟩ := v11' j (by omega)
                    obtain ⟨h3, h4⟩ := s11 j hj
                    exact ⟨h1.trans h3, h2.trans h4⟩
                  · intro j hj
                    obtain ⟨h1, h2⟩ := v11' (g2 + j) (by omega)
                    rw [h1, h2]
                    exact s10 j hj
                  · intro j hj
                    obtain ⟨h1, h2⟩ := v11' j (by omega)
                    obtain ⟨h3, h4⟩ := sm5 j hj
                    exact ⟨h1.trans h3, h2.trans h4⟩
              · rw [if_neg q3, if_pos rfl]
                refine sim_end (un := false) (su := 2) (f := k) (h := g2) (ones := os ++ [o]) (kind := kc ++ fl kt ++ fl ka) (k1 := k + os.length + 1) (g1 := g2 + (kc ++ fl kt ++ fl ka).length) hX hc22 hgE crE s2 (by omega) s4 hE (by omega) (by omega) rfl s5 s14 s6 (fun _ => q3) rfl rfl (fun _ => rfl) (by omega) s8 e37 s9 e39 a84 (by omega) (by omega) (by rw [lenT2] at lenT; omega) (by rw [cth]; omega) a85 ?_ ?_ ?_ rfl (by rw [lo]; omega) ?_ s10 (fun z => by cases z) s12 (fun z => by cases z) (by rw [lo]; omega) t23 fB5 fR5 sm5
                · rw [lo]
                  show (if 30 * E + ru = 30 * E + ru then nI (k + os.length + 1) else rb2.1 86 (30 * E + ru)) = nI (k + (os.length + 1))
                  rw [if_pos rfl]
                  rfl
                · show (if 30 * E + ru = 30 * E + ru then nI g2 else rb2.1 87 (30 * E + ru)) = nI g2
                  exact if_pos rfl
                · show (if 30 * E + ru = 30 * E + ru then nI (g2 + (kc ++ fl kt ++ fl ka).length) else rb2.1 88 (30 * E + ru)) = _
                  exact if_pos rfl
                · exact onr S5 O5 _ (by omega) s11
          · rw [if_neg qk, if_pos rfl, ms_fail2 z2, pb_bI_some, if_pos rfl]
            refine Or.inl ⟨fk (tK T n (tE T n e2)) 2, tS T n (tE T n e2), _, _, S2, O2, P2, Q2, ?_, ?_, by rw [c1, t1, d1]; exact K2 qk, rfl, rfl, rfl, frO_tr fB3 (frO_fail _ _), fR3, t18⟩
            · unfold fk; split <;> omega
            · unfold fk; split <;> omega
        · rw [if_neg qt, if_pos rfl, ms_fail2 t11, pb_bI_some, if_pos rfl]
          refine Or.inl ⟨fk (tK T n e2) 2, tS T n e2, _, _, S2, O2, P2, Q2, ?_, ?_, by rw [c1, t1]; exact BS.2.2.2 t8 t7 qt, rfl, rfl, rfl, frO_tr fB2 (frO_fail _ _), fR3, t18⟩
          · unfold fk; split <;> omega
          · unfold fk; split <;> omega
  · rw [if_neg q0, if_pos rfl]
    exact rule_fail rfl hM (R3 q0 h15) (fun _ _ _ _ _ _ _ _ _ => rfl) (frR_rf _ _ _ _) (fun _ _ => ⟨rfl, rfl⟩)
