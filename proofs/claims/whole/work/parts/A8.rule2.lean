theorem set_mid : ∀ (p q : List Int64) (x y : Int64), (p ++ x :: q).set p.length y = p ++ y :: q
  | [], q, x, y => rfl
  | a :: p, q, x, y => by
    show a :: ((p ++ x :: q).set p.length y) = _
    rw [set_mid p q x y]
    rfl
/-- the base of the reference but for one rule and its ones -/
def frR (k x E : Nat) (b b' : pb_W) : Prop := (∀ c j, ¬ ((90 ≤ c ∧ c ≤ 97 ∧ k ≤ j) ∨ (85 ≤ c ∧ c ≤ 89 ∧ j = x) ∨ (c = 84 ∧ j = E)) → b'.1 c j = b.1 c j) ∧ ∀ c j, ¬ (c = 95 ∧ k ≤ j) → b'.2 c j = b.2 c j
theorem frR_rf (k x E : Nat) (b : pb_W) : frR k x E b b := ⟨fun _ _ _ => rfl, fun _ _ _ => rfl⟩
theorem frR_tr {k x E : Nat} {b b1 b2 : pb_W} (h : frR k x E b b1) (h2 : frR k x E b1 b2) : frR k x E b b2 := ⟨fun c j q => (h2.1 c j q).trans (h.1 c j q), fun c j q => (h2.2 c j q).trans (h.2 c j q)⟩
theorem frR_K {k x E : Nat} {b b' : pb_W} (h : frK k b b') : frR k x E b b' := ⟨fun c j q => h.1 c j (fun z => q (Or.inl z)), fun c j q => h.2 c j q⟩
theorem frR_I {k x E c : Nat} {b b' : pb_W} (h : frR k x E b b') (hc : 85 ≤ c ∧ c ≤ 89) (v : Int32) : frR k x E b (pb_wI b' c x v) := by
  refine ⟨fun d j hd => ?_, h.2⟩
  rw [pw_I1]
  by_cases q : d = c
  · subst q
    rw [if_pos rfl, pu_at, if_neg (fun z => hd (Or.inr (Or.inl ⟨hc.1, hc.2, z⟩)))]
    exact h.1 d j hd
  · rw [if_neg q]
    exact h.1 d j hd
theorem frR_E {k x E : Nat} {b b' : pb_W} (h : frR k x E b b') (v : Int32) : frR k x E b (pb_wI b' 84 E v) := by
  refine ⟨fun d j hd => ?_, h.2⟩
  rw [pw_I1]
  by_cases q : d = 84
  · subst q
    rw [if_pos rfl, pu_at, if_neg (fun z => hd (Or.inr (Or.inr ⟨rfl, z⟩)))]
    exact h.1 84 j hd
  · rw [if_neg q]
    exact h.1 d j hd
theorem frR_TX {k x E n : Nat} {b b' : pb_W} {T : Nat → Int32} (h : frR k x E b b') (hX : TX b T n) : TX b' T n := ⟨hX.1, fun j hj => (h.1 83 j (fun z => by omega)).trans (hX.2.1 j hj), hX.2.2⟩
/-- how a rule ends -/
def RuleOut (cb rb : pb_W) (T : Nat → Int32) (n : Nat) (ru : Nat) (C : List Int64) (g k kE gE E x e i : Nat) (w : pb_W) (B S O : Nat → Int32) (R : Option pb_R) : Prop :=
    (∃ kd p rb' B' S' O' P' Q', 1 ≤ kd ∧ kd ≤ 5 ∧ Fail cb (crun i w) kd p ∧ R = some (some (.int 0), ms rb' B' S' O' P' Q') ∧ B' 36 = nI kd ∧ B' 35 = nI p ∧ frO B B' ∧ frR k x E rb rb' ∧ ∀ j, j < g → S' j = S j ∧ O' j = O j) ∨
    (∃ r e' i' w' su br te rb' B' S' O' P' Q' k' g', crun i w = crun i' w' ∧ i' ≤ e' ∧ e < e' ∧ e' ≤ n ∧ CW cb T n e' w' 0 su br te [] (C ++ rcode r C.length) (ru + 1) ∧ R = some (some (.int 1), ms rb' B' S' O' P' Q') ∧ MT T n e' B' ∧ B' 39 = nI k' ∧ B' 38 = nI g' ∧ k ≤ k' ∧ g ≤ g' ∧ RRep rb' S' O' x r k' g' ∧ rb'.1 84 E = nI (ru + 1) ∧ frO B B' ∧ frR k x E rb rb' ∧ (∀ j, j < g → S' j = S j ∧ O' j = O j) ∧ (C ++ rcode r C.length).length ≤ e' ∧ 2 * (k' - kE) ≤ (C ++ rcode r C.length).length ∧ g' ≤ gE + (C ++ rcode r C.length).length ∧ ru < 30)
theorem rule_fail {cb rb rb' : pb_W} {T : Nat → Int32} {n ru g k kE gE E x e i e1 i1 : Nat} {C : List Int64} {w w1 : pb_W} {B S O B' S' O' P' Q' : Nat → Int32} (hc : crun i w = crun i1 w1) (hM : MT T n e1 B') (hF : Fail cb (crun i1 w1) (fk (tK T n e1) 2) (tS T n e1)) (hB : frO B B') (hR : frR k x E rb rb') (hS : ∀ j, j < g → S' j = S j ∧ O' j = O j) : RuleOut cb rb T n ru C g k kE gE E x e i w B S O (pb_bI (M_X12_fails [.ref 64, .int (2 : Int32)] (ms rb' B' S' O' P' Q')) fun x20 w19 => (if x20 = 0 ∨ x20 = 1 then (some (some (.int x20), w19)) else none)) := by
  rw [show (2 : Int32) = nI 2 from rfl, ms_fail hM 2]
  refine Or.inl ⟨fk (tK T n e1) 2, tS T n e1, rb', _, S', O', P', Q', ?_, ?_, by rw [hc]; exact hF, rfl, rfl, rfl, frO_tr hB (frO_fail _ _), hR, hS⟩
  · unfold fk; split <;> omega
  · unfold fk; split <;> omega
/-- behind the sums of a rule: its end -/
theorem sim_end {cb rb rb1 : pb_W} {T : Nat → Int32} {n : Nat} (hX : TX rb T n) (hc22 : cb.1 22 = T) {ru g k kE gE E x e i e1 i1 su te k1 g1 f h a it : Nat} {w w1 : pb_W} {C Cx : List Int64} {ones : List On} {kind cur : List (Nat × Nat)} {B S O B1 S1 O1 P1 Q1 : Nat → Int32} {un : Bool}
    (hgl : gE ≤ 2400) (hc : crun i w = crun i1 w1) (hi1 : i1 ≤ e1) (he1 : e < e1) (hen : e1 ≤ n) (hE : E ≤ 4) (hx : x < 186) (hru : ru < 30) (hsu : su = if un then 3 else 2)
    (hCW : CW cb T n e1 w1 7 (nI su) 0 (nI te) (itm it ++ (itm a ++ [])) (Cx ++ cur.map ic) ru) (hok : lvok [(a, it)]) (hno : notOp (tK T n e1)) (h3 : un = false → tK T n e1 ≠ 3)
    (hte : te = (C ++ cmpT ones []).length) (hCx : Cx = if un then C ++ cmpT ones [] ++ [stp 70 0] ++ kind.map ic ++ [stp 71 0] else C ++ cmpT ones [] ++ [stp 70 0]) (hkd : un = false → kind = cur ++ fl it ++ fl a)
    (hpot : Cx.length + (cur ++ fl it ++ fl a).length + 2 ≤ e1) (hM : MT T n e1 B1) (h37 : B1 37 = nI E) (h38 : B1 38 = nI g1) (h39 : B1 39 = nI k1) (h84 : rb1.1 84 E = nI ru) (hk : k ≤ k1) (hg : g ≤ g1) (hkE : 2 * (k1 - kE) ≤ (cmpT ones []).length + C.length + 1) (hg2 : g1 ≤ gE + Cx.length + (cur ++ fl it ++ fl a).length)
    (h85 : rb1.1 85 x = nI f) (h86 : rb1.1 86 x = nI (f + ones.length)) (h87 : rb1.1 87 x = nI h) (h88 : rb1.1 88 x = nI (h + kind.length)) (hgE : g1 = h + kind.length + (if un then (cur ++ fl it ++ fl a).length else 0)) (hf : f + ones.length ≤ k1) (hon : ∀ j, j < ones.length → ORep rb1 S1 O1 (f + j) (ones.getD j dO) g1) (hs1 : seg S1 O1 h kind) (hs2 : un = true → seg S1 O1 (h + kind.length) (cur ++ fl it ++ fl a)) (hh1 : hgt kind 0 = some 1) (hh2 : un = true → hgt (cur ++ fl it ++ fl a) 0 = some 1) (ho1 : 1 ≤ ones.length) (hob : o_beg (ones.getD 0 dO) = 1) (hB : frO B B1) (hR : frR k x E rb rb1) (hS : ∀ j, j < g → S1 j = S j ∧ O1 j = O j) :
    RuleOut cb rb T n ru C g k kE gE E x e i w B S O (pb_run T_X12_rule (153, [some (.ref 64), some (.int (nI x))], [], ms rb1 B1 S1 O1 P1 Q1)) := by
  have hn := hX.1
  have x186 : pb_in (nI x) 186 := pn_in hx (by decide)
  have E6 : pb_in (nI E) 6 := pn_in (by omega) (by decide)
  have hX1 := frR_TX hR hX
  have hsu' : su = 2 ∨ su = 3 := by rw [hsu]; split <;> omega
  have hteC : te < Cx.length := by
    rw [hCx, hte]
    split
    · simp only [List.length_append, List.length_singleton]; omega
    · simp only [List.length_append, List.length_singleton]; omega
  have CR := c_res (i := i1) hn hc22 hX.2.2 hen hi1 hsu' hok hno hteC (by omega) hCW
  have no3 : ¬ (tK T n e1 = 3 ∧ su = 2) := by
    intro z
    cases un with
    | true => rw [hsu] at z; exact absurd z.2 (by decide)
    | false => exact h3 rfl z.1
  have fR1 : frR k x E rb (pb_wI rb1 89 x (nI g1)) := frR_I hR (by decide) _
  have hX2 := frR_TX fR1 hX
  rw [r_X12_rule_153, if_pos x186, nI_clamp (show x < 2 ^ 31 by omega), show (ms rb1 B1 S1 O1 P1 Q1).1 64 38 = nI g1 from h38, ms_b _ _ _ _ _ _ 89 _ _ (by decide), show (59 : Int32) = nI 59 from rfl, ms_sign hM (by decide) (by decide), pb_bI_some]
  by_cases q59 : tK T n e1 = 59
  · rw [if_pos q59, if_neg (show ¬ (1 : Int32) = 0 by decide)]
    obtain ⟨w2, c1, c2⟩ := CR.2.1 q59
    obtain ⟨u1, u2, u3⟩ := tok_up hen (show tK T n e1 ≠ 15 by omega)
    obtain ⟨B2, y1, y2, y3⟩ := ms_next (b := pb_wI rb1 89 x (nI g1)) (S := S1) (O := O1) (P := P1) (Q := Q1) hX2 hM.1 hM.2.2.2.1 hM.2.2.2.2.2.2 u2
    have b37 : B2 37 = nI E := (y3 37 (by decide) (by decide) (by decide) (by decide)).trans h37
    have r : Rl := (ones, kind, if un then cur ++ fl it ++ fl a else [])
    have une : un = true → (cur ++ fl it ++ fl a) ≠ [] := fun q z => by
      have := hh2 q
      rw [z, hgt] at this
      cases this
    have ruE : r_u (ones, kind, if un then cur ++ fl it ++ fl a else []) = if un then (cur ++ fl it ++ fl a).map ic ++ [stp 72 0] else [] := by
      unfold r_u
      cases un with
      | true =>
        simp only [if_true, ite_true]
        rw [if_neg (une rfl)]
      | false => rfl
    have codeE : (Cx ++ (cur ++ fl it ++ fl a).map ic ++ [stp (if su = 2 then 71 else 72) 0]).set te (stp 70 (Cx.length + (cur ++ fl it ++ fl a).length + 1)) ++ [stp 73 0] = C ++ rcode (ones, kind, if un then cur ++ fl it ++ fl a else []) C.length := by
      unfold rcode r_end
      rw [ruE]
      cases un with
      | true =>
        simp only [if_true, ite_true] at hCx hsu ⊢
        subst hsu
        have e1' : Cx ++ (cur ++ fl it ++ fl a).map ic ++ [stp (if 3 = 2 then 71 else 72) 0] = (C ++ cmpT ones []) ++ stp 70 0 :: (kind.map ic ++ [stp 71 0] ++ (cur ++ fl it ++ fl a).map ic ++ [stp 72 0]) := by
          rw [hCx]
          simp
        rw [e1', hte, set_mid]
        have e2' : Cx.length + (cur ++ fl it ++ fl a).length + 1 = C.length + (cmpT ones []).length + 1 + kind.length + 1 + ((cur ++ fl it ++ fl a).map ic ++ [stp 72 0]).length := by
          rw [hCx]
          simp only [List.length_append, List.length_singleton, List.length_map]
          omega
        rw [e2']
        simp only [List.append_assoc, List.cons_append, List.nil_append]
      | false =>
        simp only [Bool.false_eq_true, if_false, ite_false] at hCx hsu ⊢
        subst hsu
        have kE := hkd rfl
        have e1' : Cx ++ (cur ++ fl it ++ fl a).map ic ++ [stp (if 2 = 2 then 71 else 72) 0] = (C ++ cmpT ones []) ++ stp 70 0 :: (kind.map ic ++ [stp 71 0]) := by
          rw [hCx, kE]
          simp
        rw [e1', hte, set_mid]
        have e2' : Cx.length + (cur ++ fl it ++ fl a).length + 1 = C.length + (cmpT ones []).length + 1 + kind.length + 1 + ([] : List Int64).length := by
          rw [hCx, kE]
          simp only [List.length_append, List.length_singleton, List.length_nil]
        rw [e2']
        simp only [List.append_assoc, List.cons_append, List.nil_append]
    have lenE : (C ++ rcode (ones, kind, if un then cur ++ fl it ++ fl a else []) C.length).length = Cx.length + (cur ++ fl it ++ fl a).length + 2 := by
      rw [← codeE, List.length_append, List.length_set, List.length_append, List.length_append, List.length_map, List.length_singleton, List.length_singleton]
    have cxl : (cmpT ones []).length + C.length + 1 ≤ Cx.length := by
      rw [hCx]
      split
      · simp only [List.length_append, List.length_singleton]; omega
      · simp only [List.length_append, List.length_singleton]; omega
    rw [codeE] at c2
    rw [y1, pb_bV_some, show (ms (pb_wI rb1 89 x (nI g1)) B2 S1 O1 P1 Q1).1 64 37 = nI E from b37, if_pos E6, if_pos E6, nI_clamp (show E < 2 ^ 31 by omega), show (ms (pb_wI rb1 89 x (nI g1)) B2 S1 O1 P1 Q1).1 84 E = nI ru from h84, nI_1, ms_b _ _ _ _ _ _ 84 _ _ (by decide)]
    refine Or.inr ⟨(ones, kind, if un then cur ++ fl it ++ fl a else []), tE T n e1, i1 + 1, w2, nI su, 0, nI te, _, B2, S1, O1, P1, Q1, k1, g1, hc.trans c1, by omega, by omega, u2, c2, rfl, y2, (y3 39 (by decide) (by decide) (by decide) (by decide)).trans h39, (y3 38 (by decide) (by decide) (by decide) (by decide)).trans h38, hk, hg, ⟨f, h, h85, h86, h87, h88, ?_, hf, ?_, fun j hj => hon j hj, hs1, ?_, hh1, ?_, ho1, hob⟩, ?_, frO_tr hB (sameO y3), frR_E fR1 _, hS, by rw [lenE]; omega, by rw [lenE]; omega, by rw [lenE]; omega, hru⟩
    · show (if x = x then nI g1 else rb1.1 89 x) = _
      rw [if_pos rfl, hgE]
      cases un with
      | true => rfl
      | false => rfl
    · show h + kind.length + (if un then cur ++ fl it ++ fl a else []).length ≤ g1
      rw [hgE]
      cases un with
      | true => exact Nat.le_refl _
      | false => exact Nat.le_refl _
    · cases un with
      | true => exact hs2 rfl
      | false => exact fun j hj => absurd hj (Nat.not_lt_zero j)
    · cases un with
      | true => exact Or.inr (hh2 rfl)
      | false => exact Or.inl rfl
    · show (if E = E then nI (ru + 1) else rb1.1 84 E) = _
      exact if_pos rfl
  · rw [if_neg q59, if_pos rfl]
    exact rule_fail hc hM (CR.2.2 no3 q59) hB fR1 hS
