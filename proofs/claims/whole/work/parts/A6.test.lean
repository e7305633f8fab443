/-! ===== READER: a test in step ===== -/
def dO : On := (0, 0, 0, [], 0, [], 0)
/-- the code of a test -/
def cmpT : List On → List Nat → List Int64
  | [], bs => (rlo 0 bs).map st0
  | [o], bs => bod o ++ (rlo 0 bs).map st0
  | o :: o' :: os, bs => bod o ++ (if o_beg o' = 1 then (rlo 1 bs).map st0 ++ cmpT (o' :: os) (10 :: rlk 1 bs) else (rlo 2 bs).map st0 ++ cmpT (o' :: os) (20 :: rlk 2 bs))
def bsok (bs : List Nat) : Prop := bs = [] ∨ bs = [20] ∨ bs = [10] ∨ bs = [20, 10]
theorem bs_f {bs : List Nat} (h : bsok bs) : (∀ x, x ∈ bs → x / 10 < 3 ∧ x < 100) ∧ bs.length ≤ 2 ∧ bsok (20 :: rlk 2 bs) ∧ bsok (10 :: rlk 1 bs) ∧ rlk 0 bs = [] ∧ (rlk 2 bs).length + (rlo 2 bs).length = bs.length ∧ (rlk 1 bs).length + (rlo 1 bs).length = bs.length ∧ (rlo 0 bs).length = bs.length := by
  unfold bsok
  rcases h with h | h | h | h <;> subst h <;> decide
/-- the base of the reference but for ones from k0 on -/
def frK (k0 : Nat) (b b' : pb_W) : Prop := (∀ c j, ¬ (90 ≤ c ∧ c ≤ 97 ∧ k0 ≤ j) → b'.1 c j = b.1 c j) ∧ ∀ c j, ¬ (c = 95 ∧ k0 ≤ j) → b'.2 c j = b.2 c j
theorem frK_k {k0 k : Nat} {b b' : pb_W} (hk : k0 ≤ k) (h : frk k b b') : frK k0 b b' := ⟨fun c j q => h.1 c j (fun z => q ⟨z.1, z.2.1, by omega⟩), fun c j q => h.2 c j (fun z => q ⟨z.1, by omega⟩)⟩
theorem frK_tr {k0 : Nat} {b b1 b2 : pb_W} (h : frK k0 b b1) (h2 : frK k0 b1 b2) : frK k0 b b2 := ⟨fun c j q => (h2.1 c j q).trans (h.1 c j q), fun c j q => (h2.2 c j q).trans (h.2 c j q)⟩
theorem frK_TX {k n : Nat} {b b' : pb_W} {T : Nat → Int32} (h : frK k b b') (hX : TX b T n) : TX b' T n := ⟨hX.1, fun j hj => (h.1 83 j (fun z => by omega)).trans (hX.2.1 j hj), hX.2.2⟩
/-- what lies below stays -/
theorem ORep_up {b b' : pb_W} {S O S' O' : Nat → Int32} {k g g' : Nat} {o : On} (h : ORep b S O k o g) (hb1 : ∀ c, 90 ≤ c → c ≤ 97 → b'.1 c k = b.1 c k) (hb2 : b'.2 95 k = b.2 95 k) (hg : g ≤ g') (hS : ∀ j, j < g → S' j = S j ∧ O' j = O j) : ORep b' S' O' k o g' := by
  obtain ⟨h1, h2, h3, h4, h5, h6, h7, h8⟩ := h
  refine ⟨(hb1 97 (by decide) (by decide)).trans h1, (hb1 96 (by decide) (by decide)).trans h2, (hb1 90 (by decide) (by decide)).trans h3, h4, h5, h6, fun q => ⟨hb2.trans (h7 q).1, (h7 q).2⟩, fun q => ?_⟩
  obtain ⟨f, f1, f2, f3, f4, f5, f6, f7, f8, f9, f10⟩ := h8 q
  refine ⟨f, (hb1 91 (by decide) (by decide)).trans f1, (hb1 92 (by decide) (by decide)).trans f2, (hb1 93 (by decide) (by decide)).trans f3, (hb1 94 (by decide) (by decide)).trans f4, f5, by omega, fun j hj => ?_, fun j hj => ?_, f9, f10⟩
  · obtain ⟨s1, s2⟩ := hS (f + j) (by omega)
    rw [s1, s2]
    exact f7 j hj
  · obtain ⟨s1, s2⟩ := hS (f + (o_l o).length + j) (by omega)
    rw [s1, s2]
    exact f8 j hj
/-- how a test ends -/
def TestOut (cb rb : pb_W) (T : Nat → Int32) (n : Nat) (ru : Nat) (C0 : List Int64) (g0 k0 kE gE e i : Nat) (w : pb_W) (B S O : Nat → Int32) (R : Option pb_R) : Prop :=
    (∃ kd p rb' B' S' O' P' Q', 1 ≤ kd ∧ kd ≤ 5 ∧ Fail cb (crun i w) kd p ∧ R = some (some (.int 0), ms rb' B' S' O' P' Q') ∧ B' 36 = nI kd ∧ B' 35 = nI p ∧ frO B B' ∧ frK k0 rb rb' ∧ ∀ j, j < g0 → S' j = S j ∧ O' j = O j) ∨
    (∃ os o bs' C' e' i' w' rb' B' S' O' P' Q' g', crun i w = crun i' w' ∧ i' ≤ e' ∧ e ≤ e' ∧ e' ≤ n ∧ bsok bs' ∧ BO cb T n e' w' bs' C' o ru ∧ tK T n e' ≠ 4 ∧ tK T n e' ≠ 5 ∧ C' ++ (bod o ++ (rlo 0 bs').map st0) = C0 ++ cmpT (os ++ [o]) [] ∧ R = some (some (.int 1), ms rb' B' S' O' P' Q') ∧ MT T n e' B' ∧ B' 39 = nI (k0 + os.length + 1) ∧ B' 38 = nI g' ∧ g0 ≤ g' ∧ (∀ j, j < os.length + 1 → ORep rb' S' O' (k0 + j) ((os ++ [o]).getD j dO) g') ∧ frO B B' ∧ frK k0 rb rb' ∧ (∀ j, j < g0 → S' j = S j ∧ O' j = O j) ∧ C'.length + (bod o).length + bs'.length + 1 ≤ e' ∧ 2 * (k0 + os.length - kE) ≤ C'.length + bs'.length ∧ g' ≤ gE + C'.length + (bod o).length ∧ C0.length ≤ C'.length ∧ o_beg ((os ++ [o]).getD 0 dO) = 1)
theorem bod_pos (o : On) : 1 ≤ (bod o).length := by
  unfold bod
  rw [List.length_append]
  split
  · rw [List.length_singleton]; omega
  · split
    · rw [List.length_singleton]; omega
    · rw [List.length_append, List.length_append, List.length_singleton]; omega
/-- the loop of test(), behind a one -/
theorem sim_test {cb rb : pb_W} {T : Nat → Int32} {n : Nat} (hX : TX rb T n) (hc22 : cb.1 22 = T) {ru : Nat} {C0 : List Int64} {g0 k0 kE gE : Nat} (hgE : gE ≤ 2400) (hkE : kE ≤ 1200) (hk0 : kE ≤ k0) {e0 i0 : Nat} {w0 : pb_W} {B0 S0 O0 : Nat → Int32} : ∀ (m : Nat) (os : List On) (o : On) (bs : List Nat) (C : List Int64) (e i : Nat) (w rb' : pb_W) (B S O P Q : Nat → Int32) (g : Nat), n - e = m → crun i0 w0 = crun i w → i ≤ e → e0 ≤ e → e ≤ n → bsok bs → BO cb T n e w bs C o ru → (∀ r : List On, C ++ cmpT (o :: r) bs = C0 ++ cmpT (os ++ o :: r) []) → MT T n e B → B 39 = nI (k0 + os.length + 1) → B 38 = nI g → g0 ≤ g → (∀ j, j < os.length + 1 → ORep rb' S O (k0 + j) ((os ++ [o]).getD j dO) g) → frO B0 B → frK k0 rb rb' → (∀ j, j < g0 → S j = S0 j ∧ O j = O0 j) → C.length + (bod o).length + bs.length + 1 ≤ e → 2 * (k0 + os.length - kE) ≤ C.length + bs.length → g ≤ gE + C.length + (bod o).length → C0.length ≤ C.length → o_beg ((os ++ [o]).getD 0 dO) = 1 → TestOut cb rb T n ru C0 g0 k0 kE gE e0 i0 w0 B0 S0 O0 (pb_run T_X12_test (6, [some (.ref 64), some (.int (1 : Int32)), none], [], ms rb' B S O P Q)) := by
  have hn := hX.1
  intro m
  induction m using Nat.strongRecOn with
  | ind m ih =>
  intro os o bs C e i w rb' B S O P Q g hm hc hi he0 he hbs hBO hcode hM h39 h38 hg0 hrep hfB hfK hS hpot hones hg hC0 hb0
  have hX' := frK_TX hfK hX
  obtain ⟨b1, b2, b3, b4, b5, b6, b7, b8⟩ := bs_f hbs
  have BS := bo_step (i := i) hn hc22 hX.2.2 he hi (fun x hx => (b1 x hx).2) (by omega) (by omega) hBO
  have key : ∀ c : Nat, c ≤ 8 → M_X12_isKey [.ref 64, .int (nI c)] (ms rb' B S O P Q) = some (some (.int (if tK T n e = c then 1 else 0)), ms rb' B S O P Q) := fun c hc => ms_key hX' he hM hc
  have more : ∀ (beg : Nat) (w1 : pb_W) (bs1 : List Nat) (C1 : List Int64), beg ≤ 1 → tK T n e ≠ 15 → crun i w = crun (i + 1) w1 → (∃ su br te, CW cb T n (tE T n e) w1 1 su br te bs1 C1 ru) → bsok bs1 → C1.length + bs1.length = C.length + (bod o).length + bs.length + 1 → C.length + (bod o).length ≤ C1.length → (∀ (o' : On) (r : List On), o_beg o' = beg → C1 ++ cmpT (o' :: r) bs1 = C0 ++ cmpT ((os ++ [o]) ++ o' :: r) []) → TestOut cb rb T n ru C0 g0 k0 kE gE e0 i0 w0 B0 S0 O0 (pb_bV (M_X12_next [.ref 64] (ms rb' B S O P Q)) fun w5 => (pb_bI (M_X12_one [.ref 64, .int (nI beg)] w5) fun x7 w6 => (pb_run T_X12_test (6, [some (.ref 64), some (.int x7), none], [], w6)))) := by
    intro beg w1 bs1 C1 hbeg n15 c1 c2 hb1 hl1 hl2 hco
    obtain ⟨su, br, te, c2⟩ := c2
    obtain ⟨u1, u2, u3⟩ := tok_up he n15
    obtain ⟨B1, y1, y2, y3⟩ := ms_next (S := S) (O := O) (P := P) (Q := Q) hX' hM.1 hM.2.2.2.1 hM.2.2.2.2.2.2 u2
    obtain ⟨d1, d2, -⟩ := bs_f hb1
    have bp := bod_pos o
    have b39 : B1 39 = nI (k0 + os.length + 1) := (y3 39 (by decide) (by decide) (by decide) (by decide)).trans h39
    have b38 : B1 38 = nI g := (y3 38 (by decide) (by decide) (by decide) (by decide)).trans h38
    have Z := sim_one (i := i + 1) (beg := beg) (k := k0 + os.length + 1) (g := g) (S := S) (O := O) (P := P) (Q := Q) hX' hc22 u2 (by omega) hbeg (by omega) (by omega) d1 d2 c2 (by omega) y2 b38 b39
    rw [y1, pb_bV_some]
    rcases Z with ⟨kd, p, rb2, B2, S2, O2, P2, Q2, k1, k5, F1, F2, F3, F4, F5, F6, F7⟩ | ⟨o2, e2, i2, w2, rb2, B2, S2, O2, P2, Q2, r1, r2, r3, r4, r5, r6, r7, r8, r9, ⟨g2, q1, q2, q3, q4⟩, r11, r12, r13, r14⟩
    · rw [F2, pb_bI_some, r_X12_test_6, if_pos rfl, if_pos (Or.inl rfl)]
      refine Or.inl ⟨kd, p, rb2, B2, S2, O2, P2, Q2, k1, k5, by rw [hc, c1]; exact F1, rfl, F3, F4, frO_tr hfB (frO_tr (sameO y3) F5), frK_tr hfK (frK_k (by omega) F6), fun j hj => ?_⟩
      obtain ⟨f1, f2⟩ := F7 j (by omega)
      obtain ⟨f3, f4⟩ := hS j hj
      exact ⟨f1.trans f3, f2.trans f4⟩
    · rw [r7, pb_bI_some]
      have lo : (os ++ [o]).length = os.length + 1 := by rw [List.length_append, List.length_singleton]
      refine ih (n - e2) (by omega) (os ++ [o]) o2 bs1 C1 e2 i2 w2 rb2 B2 S2 O2 P2 Q2 g2 rfl ((hc.trans c1).trans r1) r2 (by omega) r4 hb1 r5 (fun r => hco o2 r r6) r8 (by rw [lo]; exact r9) q2 (by omega) ?_ (frO_tr hfB (frO_tr (sameO y3) r11)) (frK_tr hfK (frK_k (by omega) r12)) ?_ r14 (by rw [lo]; omega) (by omega) (by omega) ?_
      · intro j hj
        rw [lo] at hj
        by_cases z : j = os.length + 1
        · rw [gL2 _ _ _ (by omega), lo, show j - (os.length + 1) = 0 by omega, show k0 + j = k0 + os.length + 1 by omega]
          exact q4
        · rw [gL1 _ _ _ (by omega)]
          exact ORep_up (hrep j (by omega)) (fun c _ _ => r12.1 c (k0 + j) (fun y => by omega)) (r12.2 95 (k0 + j) (fun y => by omega)) q1 r13
      · intro j hj
        obtain ⟨f1, f2⟩ := r13 j (by omega)
        obtain ⟨f3, f4⟩ := hS j hj
        exact ⟨f1.trans f3, f2.trans f4⟩
      · rw [gL1 _ _ _ (by omega)]
        exact hb0
  rw [r_X12_test_6, if_neg (show ¬ (1 : Int32) = 0 by decide), show (4 : Int32) = nI 4 from rfl, key 4 (by decide), pb_bI_some, show (5 : Int32) = nI 5 from rfl, key 5 (by decide), pb_bI_some, key 4 (by decide), pb_bI_some]
  by_cases q4 : tK T n e = 4
  · rw [if_pos q4, if_neg (show ¬ (1 : Int32) = 0 by decide)]
    obtain ⟨w1, c1, c2⟩ := BS.2.1 q4
    refine more 1 w1 _ _ (by decide) (by omega) c1 c2 b4 ?_ ?_ ?_
    · rw [List.length_append, List.length_append, List.length_map, List.length_cons]; omega
    · rw [List.length_append, List.length_append]; omega
    · intro o' r h1
      have := hcode (o' :: r)
      rw [cmpT, if_pos h1] at this
      rw [List.append_assoc os]
      show _ = C0 ++ cmpT (os ++ o :: o' :: r) []
      rw [← this]
      simp only [List.append_assoc]
  · rw [if_neg q4, if_pos rfl]
    by_cases q5 : tK T n e = 5
    · rw [if_pos q5, if_neg (show ¬ (1 : Int32) = 0 by decide)]
      obtain ⟨w1, c1, c2⟩ := BS.1 q5
      refine more 0 w1 _ _ (by decide) (by omega) c1 c2 b3 ?_ ?_ ?_
      · rw [List.length_append, List.length_append, List.length_map, List.length_cons]; omega
      · rw [List.length_append, List.length_append]; omega
      · intro o' r h1
        have := hcode (o' :: r)
        rw [cmpT, if_neg (show ¬ o_beg o' = 1 by omega)] at this
        rw [List.append_assoc os]
        show _ = C0 ++ cmpT (os ++ o :: o' :: r) []
        rw [← this]
        simp only [List.append_assoc]
    · rw [if_neg q5, if_pos rfl, if_pos (Or.inr rfl)]
      refine Or.inr ⟨os, o, bs, C, e, i, w, rb', B, S, O, P, Q, g, hc, hi, he0, he, hbs, hBO, q4, q5, ?_, rfl, hM, h39, h38, hg0, hrep, hfB, hfK, hS, hpot, hones, hg, hC0, hb0⟩
      exact hcode []
