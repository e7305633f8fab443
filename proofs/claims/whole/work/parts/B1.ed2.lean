/-! ===== EDITION: all rules in step ===== -/
def FEi (kE gE E c j : Nat) : Prop := (c = 64 ∧ (j = 0 ∨ (28 ≤ j ∧ j ≤ 39) ∨ j = 58)) ∨ c = 83 ∨ (c = 84 ∧ j = E) ∨ (85 ≤ c ∧ c ≤ 89 ∧ 30 * E ≤ j) ∨ (90 ≤ c ∧ c ≤ 97 ∧ kE ≤ j) ∨ ((c = 98 ∨ c = 99) ∧ gE ≤ j) ∨ c = 100 ∨ c = 101
def FE (kE gE E : Nat) (u u' : pb_W) : Prop := (∀ c j, ¬ FEi kE gE E c j → u'.1 c j = u.1 c j) ∧ ∀ c j, ¬ (c = 95 ∧ kE ≤ j) → u'.2 c j = u.2 c j
theorem FE_tr {kE gE E : Nat} {u u1 u2 : pb_W} (h : FE kE gE E u u1) (h2 : FE kE gE E u1 u2) : FE kE gE E u u2 := ⟨fun c j q => (h2.1 c j q).trans (h.1 c j q), fun c j q => (h2.2 c j q).trans (h.2 c j q)⟩
def EdOut (cb u : pb_W) (E kE gE : Nat) (cr R : Option pb_R) : Prop :=
    (∃ kd p u', 1 ≤ kd ∧ kd ≤ 5 ∧ Fail cb cr kd p ∧ R = some (some (.int (-1 : Int32)), u') ∧ u'.1 64 0 = 9 ∧ u'.1 64 34 = nI kd ∧ u'.1 64 35 = nI p ∧ u'.1 64 58 = 0 ∧ u'.1 64 37 = nI E ∧ u'.1 64 38 = nI gE ∧ u'.1 64 39 = nI kE ∧ u'.1 64 28 = 0 ∧ FE kE gE E u u') ∨
    (∃ rs k' g' u', Done cb cr (rcs rs) rs.length ∧ R = some (some (.int (nI E)), u') ∧ u'.1 64 0 = 0 ∧ u'.1 64 34 = 0 ∧ u'.1 64 35 = -1 ∧ u'.1 64 58 = nI rs.length ∧ u'.1 64 37 = nI (E + 1) ∧ u'.1 64 38 = nI g' ∧ u'.1 64 39 = nI k' ∧ u'.1 64 28 = 0 ∧ kE ≤ k' ∧ gE ≤ g' ∧ 2 * (k' - kE) ≤ (rcs rs).length ∧ g' ≤ gE + (rcs rs).length ∧ rs.length ≤ 30 ∧ (rcs rs).length ≤ 600 ∧ u'.1 84 E = nI rs.length ∧ (∀ r, r < rs.length → RRep u' (u'.1 98) (u'.1 99) (30 * E + r) (rs.getD r dR) k' g') ∧ FE kE gE E u u')
theorem seg_up {S O S' O' : Nat → Int32} {f m : Nat} {l : List (Nat × Nat)} (h : seg S O f l) (hl : f + l.length ≤ m) (hS : ∀ j, j < m → S' j = S j ∧ O' j = O j) : seg S' O' f l := by
  intro j hj
  rw [(hS (f + j) (by omega)).1, (hS (f + j) (by omega)).2]
  exact h j hj
theorem ORep_fr {b b' : pb_W} {S O S' O' : Nat → Int32} {k gm gm' km : Nat} {o : On} (h : ORep b S O k o gm) (hk : k < km) (hb : ∀ c j, 90 ≤ c → c ≤ 97 → j < km → b'.1 c j = b.1 c j) (hb2 : ∀ j, j < km → b'.2 95 j = b.2 95 j) (hg : gm ≤ gm') (hS : ∀ j, j < gm → S' j = S j ∧ O' j = O j) : ORep b' S' O' k o gm' := by
  obtain ⟨h1, h2, h3, h4, h5, h6, h7, h8⟩ := h
  refine ⟨(hb 97 k (by decide) (by decide) hk).trans h1, (hb 96 k (by decide) (by decide) hk).trans h2, (hb 90 k (by decide) (by decide) hk).trans h3, h4, h5, h6, fun q => ⟨(hb2 k hk).trans (h7 q).1, (h7 q).2⟩, fun q => ?_⟩
  obtain ⟨f, a1, a2, a3, a4, a5, a6, a7, a8, a9, a10⟩ := h8 q
  exact ⟨f, (hb 91 k (by decide) (by decide) hk).trans a1, (hb 92 k (by decide) (by decide) hk).trans a2, (hb 93 k (by decide) (by decide) hk).trans a3, (hb 94 k (by decide) (by decide) hk).trans a4, a5, by omega, seg_up a7 (by omega) hS, seg_up a8 (by omega) hS, a9, a10⟩
theorem RRep_fr {b b' : pb_W} {S O S' O' : Nat → Int32} {x km gm km' gm' : Nat} {r : Rl} (h : RRep b S O x r km gm) (hx : ∀ c, 85 ≤ c → c ≤ 89 → b'.1 c x = b.1 c x) (hb : ∀ c j, 90 ≤ c → c ≤ 97 → j < km → b'.1 c j = b.1 c j) (hb2 : ∀ j, j < km → b'.2 95 j = b.2 95 j) (hk : km ≤ km') (hg : gm ≤ gm') (hS : ∀ j, j < gm → S' j = S j ∧ O' j = O j) : RRep b' S' O' x r km' gm' := by
  obtain ⟨f, h, a1, a2, a3, a4, a5, a6, a7, a8, a9, a10, a11, a12, a13, a14⟩ := h
  refine ⟨f, h, (hx 85 (by decide) (by decide)).trans a1, (hx 86 (by decide) (by decide)).trans a2, (hx 87 (by decide) (by decide)).trans a3, (hx 88 (by decide) (by decide)).trans a4, (hx 89 (by decide) (by decide)).trans a5, by omega, by omega, fun j hj => ORep_fr (a8 j hj) (km := km) (by omega) hb hb2 hg hS, seg_up a9 (by omega) hS, seg_up a10 (by omega) hS, a11, a12, a13, a14⟩
/-- the base behind rules of one edition -/
def frX (kE E : Nat) (b b' : pb_W) : Prop := (∀ c j, ¬ ((90 ≤ c ∧ c ≤ 97 ∧ kE ≤ j) ∨ (85 ≤ c ∧ c ≤ 89 ∧ 30 * E ≤ j) ∨ (c = 84 ∧ j = E)) → b'.1 c j = b.1 c j) ∧ ∀ c j, ¬ (c = 95 ∧ kE ≤ j) → b'.2 c j = b.2 c j
theorem frX_R {kE k x E : Nat} {b b1 b2 : pb_W} (h : frX kE E b b1) (h2 : frR k x E b1 b2) (hk : kE ≤ k) (hx : 30 * E ≤ x) : frX kE E b b2 := ⟨fun c j q => (h2.1 c j (fun z => q (z.elim (fun z => Or.inl ⟨z.1, z.2.1, by omega⟩) (fun z => z.elim (fun z => Or.inr (Or.inl ⟨z.1, z.2.1, by omega⟩)) (fun z => Or.inr (Or.inr z)))))).trans (h.1 c j q), fun c j q => (h2.2 c j (fun z => q ⟨z.1, by omega⟩)).trans (h.2 c j q)⟩
theorem FE_of {rb0 rb : pb_W} {B0 S0 O0 P0 Q0 B S O P Q : Nat → Int32} {kE gE E : Nat} (hX : frX kE E rb0 rb) (hB : ∀ j, ¬ (j = 0 ∨ (28 ≤ j ∧ j ≤ 39) ∨ j = 58) → B j = B0 j) (hS : ∀ j, j < gE → S j = S0 j ∧ O j = O0 j) : FE kE gE E (ms rb0 B0 S0 O0 P0 Q0) (ms rb B S O P Q) := by
  refine ⟨fun c j q => ?_, hX.2⟩
  unfold FEi at q
  unfold ms
  rw [pw_F1, pw_F1, pw_F1, pw_F1, pw_F1, pw_F1, pw_F1, pw_F1, pw_F1, pw_F1]
  by_cases c1 : c = 101
  · exact absurd (by omega) q
  · rw [if_neg c1, if_neg c1]
    by_cases c2 : c = 100
    · exact absurd (by omega) q
    · rw [if_neg c2, if_neg c2]
      by_cases c3 : c = 99
      · rw [if_pos c3, if_pos c3]
        exact (hS j (by omega)).2
      · rw [if_neg c3, if_neg c3]
        by_cases c4 : c = 98
        · rw [if_pos c4, if_pos c4]
          exact (hS j (by omega)).1
        · rw [if_neg c4, if_neg c4]
          by_cases c5 : c = 64
          · rw [if_pos c5, if_pos c5]
            exact hB j (by omega)
          · rw [if_neg c5, if_neg c5]
            exact hX.1 c j (by omega)
theorem frO_out {B B' : Nat → Int32} (h : frO B B') (j : Nat) (q : ¬ (j = 0 ∨ (28 ≤ j ∧ j ≤ 39) ∨ j = 58)) : B' j = B j := h j (by omega) (by omega) (by omega) (by omega) (by omega) (by omega) (by omega) (by omega)
theorem sim_rules {cb rb0 : pb_W} {T : Nat → Int32} {n : Nat} (hX : TX rb0 T n) (hc22 : cb.1 22 = T) {E kE gE i0 : Nat} {w0 : pb_W} {B0 S0 O0 P0 Q0 : Nat → Int32} (hE : E ≤ 4) (hkE : kE ≤ 1200) (hgE : gE ≤ 2400) (h37 : B0 37 = nI E) (h28 : B0 28 = 0) : ∀ (m : Nat) (rs : List Rl) (e i k g : Nat) (w rb : pb_W) (su br te : Int32) (B S O P Q : Nat → Int32), n - e = m → crun i0 w0 = crun i w → e ≤ n → i ≤ e → CW cb T n e w 0 su br te [] (rcs rs) rs.length → (rcs rs).length ≤ e → MT T n e B → B 38 = nI g → B 39 = nI k → gE ≤ g → kE ≤ k → 2 * (k - kE) ≤ (rcs rs).length → g ≤ gE + (rcs rs).length → rb.1 84 E = nI rs.length → rs.length ≤ 30 → frO B0 B → frX kE E rb0 rb → (∀ j, j < gE → S j = S0 j ∧ O j = O0 j) → (∀ r, r < rs.length → RRep rb S O (30 * E + r) (rs.getD r dR) k g) → EdOut cb (ms rb0 B0 S0 O0 P0 Q0) E kE gE (crun i0 w0) (pb_run T_X12_edition (120, [some (.ref 64), none, some (.int (nI gE)), some (.int (nI kE)), some (.int (if tK T n e = 15 then 0 else 1))], [], ms rb B S O P Q)) := by
  intro m
  induction m using Nat.strongRecOn with
  | _ m ih =>
  intro rs e i k g w rb su br te B S O P Q hm hc he hi hC hpot hM h38 h39 hg hk hk2 hg2 h84 hru hB hR hS hRR
  have hn := hX.1
  have E6 : pb_in (nI E) 6 := pn_in (by omega) (by decide)
  have Ec : (nI E).toNatClampNeg = E := nI_clamp (by omega)
  have b37 : B 37 = nI E := (hB 37 (by decide) (by decide) (by decide) (by decide) (by decide) (by decide) (by decide) (by decide)).trans h37
  have b28 : B 28 = 0 := (hB 28 (by decide) (by decide) (by decide) (by decide) (by decide) (by decide) (by decide) (by decide)).trans h28
  have hXr : TX rb T n := ⟨hX.1, fun j hj => (hR.1 83 j (fun z => by omega)).trans (hX.2.1 j hj), hX.2.2⟩
  by_cases q15 : tK T n e = 15
  · have D := (c_rule (i := i) hn hc22 hX.2.2 he hi (by omega) hC).2.2.2 q15
    rw [← hc] at D
    have m36 : (ms rb B S O P Q).1 64 36 = 0 := hM.2.2.2.2.2.2.1
    have m35 : B 35 = -1 := hM.2.2.2.2.2.2.2
    rw [if_pos q15, r_X12_edition_120, if_pos rfl, m36, if_neg (show ¬ (0 : Int32) < 0 by decide), show (ms rb B S O P Q).1 64 37 = nI E from b37, if_pos E6, Ec, show (ms rb B S O P Q).1 84 E = nI rs.length from h84, ms_B, r_X12_edition_178]
    have n36 : (ms rb (upd B 34 0) S O P Q).1 64 36 = 0 := m36
    rw [n36, if_neg (show ¬ (0 : Int32) < 0 by decide), show (ms rb (upd B 34 0) S O P Q).1 64 37 = nI E from b37, ms_B, ms_B, nI_1, e_X12_gives, ms_B, pb_bI_some, show nI (E + 1) - (1 : Int32) = nI E from nI_subN (a := E + 1) (b := 1) (by omega)]
    refine Or.inr ⟨rs, k, g, _, D, rfl, rfl, rfl, m35, rfl, rfl, h38, h39, b28, hk, hg, hk2, hg2, hru, by omega, h84, hRR, FE_of hR (fun j q => ?_) hS⟩
    rw [pu_at, if_neg (by omega), pu_at, if_neg (by omega), pu_at, if_neg (by omega), pu_at, if_neg (by omega)]
    exact frO_out hB j q
  · rw [if_neg q15, r_X12_edition_120, if_neg (show ¬ (1 : Int32) = 0 by decide)]
    rcases sim_rule (gE := gE) (kE := kE) (P := P) (Q := Q) hXr hc22 he hi hE hru hgE hkE hk hk2 hg2 hC hpot hM b37 h38 h39 h84 q15 with ⟨kd, p, rb', B', S', O', P', Q', k1, k5, F1, F2, F3, F4, F5, F6, F7⟩ | ⟨r, e', i', w', su', br', te', rb', B', S', O', P', Q', k', g', s1, s2, s3, s4, s5, s6, s7, s8, s9, s10, s11, s12, s13, s14, s15, s16, s17, s18, s19, s20⟩
    · have m36 : (ms rb' B' S' O' P' Q').1 64 36 = nI kd := F3
      have z36 : (0 : Int32) < nI kd := nI_lt (a := 0) (by omega) (by omega)
      rw [F2, pb_bI_some, if_pos rfl, r_X12_edition_120, if_pos rfl, m36, if_pos z36, ms_B, r_X12_edition_178]
      have n36 : (ms rb' (upd B' 34 (nI kd)) S' O' P' Q').1 64 36 = nI kd := F3
      rw [n36, if_pos z36, ms_B, ms_B, ms_B, e_X12_refuse, ms_B, pb_bI_some]
      rw [← hc] at F1
      have b37' : B' 37 = nI E := (F5 37 (by decide) (by decide) (by decide) (by decide) (by decide) (by decide) (by decide) (by decide)).trans b37
      have b28' : B' 28 = 0 := (F5 28 (by decide) (by decide) (by decide) (by decide) (by decide) (by decide) (by decide) (by decide)).trans b28
      refine Or.inl ⟨kd, p, _, k1, k5, F1, rfl, rfl, rfl, F4, rfl, b37', rfl, rfl, b28', FE_of (frX_R hR F6 hk (by omega)) (fun j q => ?_) (fun j hj => ⟨(F7 j (by omega)).1.trans (hS j hj).1, (F7 j (by omega)).2.trans (hS j hj).2⟩)⟩
      rw [pu_at, if_neg (by omega), pu_at, if_neg (by omega), pu_at, if_neg (by omega), pu_at, if_neg (by omega), pu_at, if_neg (by omega)]
      exact (frO_out F5 j q).trans (frO_out hB j q)
    · rw [s6, pb_bI_some, if_neg (show ¬ (1 : Int32) = 0 by decide), show (ms rb' B' S' O' P' Q').1 64 30 = nI (tyK (tK T n e')) from s7.2.1]
      have eL : rcs (rs ++ [r]) = rcs rs ++ rcode r (rcs rs).length := rcs_sn rs r
      have lL : (rs ++ [r]).length = rs.length + 1 := by rw [List.length_append, List.length_singleton]
      have IH := ih (n - e') (by omega) (rs ++ [r]) e' i' k' g' w' rb' su' br' te' B' S' O' P' Q' rfl (hc.trans s1) s4 s2 (by rw [eL, lL]; exact s5) (by rw [eL]; exact s17) s7 s9 s8 (by omega) (by omega) (by rw [eL]; exact s18) (by rw [eL]; exact s19) (by rw [lL]; exact s13) (by rw [lL]; omega) (frO_tr hB s14) (frX_R hR s15 hk (by omega)) (fun j hj => ⟨(s16 j (by omega)).1.trans (hS j hj).1, (s16 j (by omega)).2.trans (hS j hj).2⟩) (by
        intro x hx
        rw [lL] at hx
        by_cases z : x < rs.length
        · rw [gL1 _ _ _ z]
          refine RRep_fr (hRR x z) (fun c c1 c2 => s15.1 c _ (fun y => ?_)) (fun c j c1 c2 hj => s15.1 c j (fun y => ?_)) (fun j hj => s15.2 95 j (fun y => ?_)) s10 s11 s16
          · omega
          · omega
          · omega
        · have : x = rs.length := by omega
          subst this
          rw [gL2 _ _ _ (Nat.le_refl _), Nat.sub_self]
          exact s12)
      by_cases z : tK T n e' = 15
      · rw [if_pos z] at IH
        rw [if_pos (show nI (tyK (tK T n e')) = 0 by rw [ty_0.mpr z]; rfl)]
        exact IH
      · rw [if_neg z] at IH
        have ty4 : tyK (tK T n e') ≤ 4 := by unfold tyK; split; omega; split; omega; split; omega; split <;> omega
        rw [if_neg (show ¬ nI (tyK (tK T n e')) = 0 from nI_ne0 (Nat.pos_of_ne_zero (fun y => z (ty_0.mp y))) (by omega))]
        exact IH
