/-! ===== SLIPS: gathering, and both explain ===== -/
def gst (w : pb_W) (H : Int32) (Q1 Q2 : Nat → Int32) : pb_W := pb_wF (pb_wF (pb_wI w 31 5 H) 35 Q1) 36 Q2
theorem gst_step (w : pb_W) (H H' : Int32) (Q1 Q2 Q2' : Nat → Int32) (p : Nat) (v : Int32) : pb_wI (pb_wF (pb_wI (gst w H Q1 Q2) 35 p v) 36 Q2') 31 5 H' = gst w H' (upd Q1 p v) Q2' := by
  refine Prod.ext (funext fun d => funext fun k => ?_) rfl
  by_cases d1 : d = 31
  · subst d1
    show (if k = 5 then H' else if k = 5 then H else w.1 31 k) = if k = 5 then H' else w.1 31 k
    by_cases q : k = 5
    · simp only [if_pos q]
    · simp only [if_neg q]
  · by_cases d2 : d = 35
    · subst d2; rfl
    · by_cases d3 : d = 36
      · subst d3; rfl
      · simp [gst, pw_I1, pw_F1, d1, d2, d3]
/-- the slips of the lines of a week -/
def gfa (w : pb_W) (l : List Nat) (Q1 Q2 : Nat → Int32) : Prop := ∀ j, j < l.length → Q1 j = nI (l.getD j 0) ∧ ∀ x, 1 ≤ x → x ≤ 6 → Q2 (j * 7 + x) = iI (sv (pcN w (l.getD j 0)) x)
theorem cx_gath {w : pb_W} {n : Nat} (hN : LN w n) (f wk : Int32) : ∀ m i Q1 Q2, i + m = n → (gat w f wk i).length ≤ 9 → gfa w (gat w f wk i) Q1 Q2 → ∃ x H Q1' Q2', pb_run T_X6_gather (7, [some (.ref 31), some (.int f), some (.int wk), some (.int (nI i))], [], gst w (nI (gat w f wk i).length) Q1 Q2) = some (some (.int x), gst w H Q1' Q2') ∧ (9 < (gat w f wk n).length → x = 0) ∧ ((gat w f wk n).length ≤ 9 → x = 1 ∧ H = nI (gat w f wk n).length ∧ gfa w (gat w f wk n) Q1' Q2') := by
  have hn := hN.le
  intro m
  induction m with
  | zero =>
    intro i Q1 Q2 hi h9 hg
    have e : i = n := by omega
    subst e
    refine ⟨1, _, Q1, Q2, ?_, fun q => by omega, fun _ => ⟨rfl, rfl, hg⟩⟩
    rw [r_X6_gather_7, show (gst w (nI (gat w f wk i).length) Q1 Q2).1 5 3 = nI i from hN.n5, if_neg (show ¬ nI i < nI i from fun q => by rw [nI_ltI (by omega) (by omega)] at q; omega)]
  | succ m ih =>
    intro i Q1 Q2 hi h9 hg
    have i200 : pb_in (nI i) 200 := pn_in (by omega) (by decide)
    rw [r_X6_gather_7, show (gst w (nI (gat w f wk i).length) Q1 Q2).1 5 3 = nI n from hN.n5, if_pos (show nI i < nI n from nI_lt (by omega) (by omega)), M_wentFrom_ (show i < 200 by omega), pb_bI_some, if_pos i200, nI_clamp (show i < 2 ^ 31 by omega), nI_1, show (gst w (nI (gat w f wk i).length) Q1 Q2).1 31 5 = nI (gat w f wk i).length from rfl, nI_clamp (show (gat w f wk i).length < 2 ^ 31 by omega)]
    simp only [q01]
    by_cases t : wn w i f wk
    · rw [if_neg (show ¬ ¬ wn (gst w (nI (gat w f wk i).length) Q1 Q2) i f wk from not_not_intro t)]
      have gE : gat w f wk (i + 1) = gat w f wk i ++ [i] := by rw [gat, if_pos t]
      by_cases p9 : (gat w f wk i).length < 9
      · obtain ⟨ep, -, lp⟩ := hN.pc i (by omega)
        rw [if_pos (show nI (gat w f wk i).length < (9 : Int32) from nI_lt (b := 9) p9 (by decide)), if_pos (pn_in p9 (by decide)), show nI (gat w f wk i).length * (7 : Int32) = nI ((gat w f wk i).length * 7) from pn_mul _ 7, show (gst w (nI (gat w f wk i).length) Q1 Q2).1 16 i = nI (pcN w i) from ep, M_listSlips (by omega) lp, pb_bV_some, show (pb_wF (pb_wI (gst w (nI (gat w f wk i).length) Q1 Q2) 35 (gat w f wk i).length (nI i)) 36 (lsQ ((pb_wI (gst w (nI (gat w f wk i).length) Q1 Q2) 35 (gat w f wk i).length (nI i)).1 36) ((gat w f wk i).length * 7) (pcN w i))).1 31 5 = nI (gat w f wk i).length from rfl, nI_1, gst_step]
        have L : (gat w f wk (i + 1)).length = (gat w f wk i).length + 1 := by rw [gE, List.length_append, List.length_singleton]
        obtain ⟨l1, l2⟩ := lsQ_at Q2 ((gat w f wk i).length * 7) (pcN w i)
        have := ih (i + 1) (upd Q1 (gat w f wk i).length (nI i)) (lsQ Q2 ((gat w f wk i).length * 7) (pcN w i)) (by omega) (by omega) (by
          intro j hj
          rw [L] at hj
          rw [gE, pu_at]
          by_cases q : j = (gat w f wk i).length
          · rw [if_pos q, gD2 _ _ (by omega), show j - (gat w f wk i).length = 0 by omega]
            refine ⟨rfl, fun x x1 x6 => ?_⟩
            rw [q]
            exact l1 x x1 x6
          · rw [if_neg q, gD1 _ _ (by omega)]
            refine ⟨(hg j (by omega)).1, fun x x1 x6 => ?_⟩
            rw [l2 _ (by omega)]
            exact (hg j (by omega)).2 x x1 x6)
        rw [L] at this
        exact this
      · rw [if_neg (show ¬ nI (gat w f wk i).length < (9 : Int32) from nI_nlt (b := 9) (by omega) (by omega))]
        refine ⟨0, _, Q1, Q2, rfl, fun _ => rfl, fun q => ?_⟩
        have := gat_mono w f wk (i + 1) (n - (i + 1))
        rw [show i + 1 + (n - (i + 1)) = n by omega, gE, List.length_append, List.length_singleton] at this
        omega
    · rw [if_pos (show ¬ wn (gst w (nI (gat w f wk i).length) Q1 Q2) i f wk from t)]
      have gE : gat w f wk (i + 1) = gat w f wk i := by rw [gat, if_neg t]
      have := ih (i + 1) Q1 Q2 (by omega)
      rw [gE] at this
      exact this h9 hg
def slA (w : pb_W) (l : List Nat) : Nat → Nat → Int := fun i x => if i < l.length ∧ 1 ≤ x ∧ x ≤ 6 then sv (pcN w (l.getD i 0)) x else 0
theorem slA_in {w : pb_W} {l : List Nat} {i x : Nat} (h : i < l.length ∧ 1 ≤ x ∧ x ≤ 6) : slA w l i x = sv (pcN w (l.getD i 0)) x := if_pos h
theorem slA_b {w : pb_W} {n : Nat} (hN : LN w n) (f wk : Int32) : ∀ i x, -90000 ≤ slA w (gat w f wk n) i x ∧ slA w (gat w f wk n) i x ≤ 90000 := by
  intro i x
  unfold slA
  split
  · rename_i h
    have := gat_get w f wk n i h.1
    exact sv_b (hN.pc _ this.1).2.2 h.2.1 h.2.2
  · omega
def slO (w : pb_W) (f wk : Int32) (n : Nat) : Int := (w.1 34 (td w f wk).toNatClampNeg).toInt - (spN w f wk n : Int)
theorem slO_b {w : pb_W} (hD : iv_D w) {n : Nat} (hN : LN w n) (f wk : Int32) (h : td w f wk ≠ -1) : (-5000000 ≤ slO w f wk n ∧ slO w f wk n ≤ 5000000) ∧ pb_in (td w f wk) 40 ∧ w.1 34 (td w f wk).toNatClampNeg - nI (spN w f wk n) = iI (slO w f wk n) := by
  rcases td_spec hD f wk with t | ⟨j, m, lj, lm, e31, t, -, -⟩
  · exact absurd t h
  · obtain ⟨m', hm', h31, -, -, -, -, gk⟩ := hD
    have em : m = m' := by
      rw [e31] at h31
      exact (nI_eq (by omega) (by omega)).mp h31
    obtain ⟨-, -, c, lc, ec⟩ := gk j (by omega)
    have hn := hN.le
    obtain ⟨-, s2⟩ := spn_N hN f wk n (Nat.le_refl n)
    have ej : (td w f wk).toNatClampNeg = j := by rw [t]; exact nI_clamp (by omega)
    unfold slO
    rw [ej, ec, nI_toInt (by omega)]
    refine ⟨by omega, by rw [t]; exact pn_in (by omega) (by decide), ?_⟩
    rw [iI_n (by omega), iI_n (by omega), iI_sub]
abbrev fI_P : Nat → Nat → Prop := fun c k => (c = 0 ∧ k = 0) ∨ (c = 64 ∧ k = 0) ∨ (c = 31 ∧ (k = 5 ∨ k = 10 ∨ k = 11 ∨ k = 12)) ∨ c = 35 ∨ c = 36 ∨ c = 37 ∨ c = 38 ∨ (c = 64 ∧ (k = 71 ∨ k = 72 ∨ k = 73 ∨ k = 74 ∨ k = 75)) ∨ c = 107 ∨ c = 108 ∨ c = 109
theorem cst_0 (b : pb_W) (v : Int32) : pb_wI b 31 11 v = cst b (b.1 37) (b.1 38) v (b.1 31 12) := by
  refine Prod.ext (funext fun d => funext fun k => ?_) rfl
  by_cases d1 : d = 31
  · subst d1
    show (if k = 11 then v else b.1 31 k) = if k = 12 then b.1 31 12 else if k = 11 then v else b.1 31 k
    by_cases q : k = 12
    · subst q; rfl
    · simp only [if_neg q]
  · by_cases d2 : d = 37
    · subst d2; rfl
    · by_cases d3 : d = 38
      · subst d3; rfl
      · simp [cst, pw_I1, pw_F1, d1, d2, d3]
theorem M_explain {w : pb_W} (hL : iv_L w) (hD : iv_D w) {n : Nat} (hN : LN w n) (f wk : Int32) : ∃ x w1, M_X6_explain [.ref 31, .int f, .int wk] w = some (some (.int x), w1) ∧ fr fI_P fJ_no w w1 ∧ w1.1 0 0 = w.1 0 0 ∧ (td w f wk = -1 ∨ 9 < (gat w f wk n).length → x = 0) ∧ (td w f wk ≠ -1 → (gat w f wk n).length ≤ 9 → (x = 0 ∧ ∀ k', k' ≤ 3 → cC (slA w (gat w f wk n)) (gat w f wk n).length 0 k' (slO w f wk n) = 0) ∨ (x = 1 ∧ ∃ k0 fv, k0 ≤ 3 ∧ w1.1 31 10 = nI k0 ∧ w1.1 31 11 = nI (cC (slA w (gat w f wk n)) (gat w f wk n).length 0 k0 (slO w f wk n)) ∧ cC (slA w (gat w f wk n)) (gat w f wk n).length 0 k0 (slO w f wk n) ≠ 0 ∧ (∀ k', k' < k0 → cC (slA w (gat w f wk n)) (gat w f wk n).length 0 k' (slO w f wk n) = 0) ∧ Fnd (slA w (gat w f wk n)) (gat w f wk n).length (slO w f wk n) k0 (fun _ => 0) 0 (w1.1 38) (w1.1 31 12) fv ∧ w1.1 31 5 = nI (gat w f wk n).length ∧ ∀ j, j < (gat w f wk n).length → w1.1 35 j = nI ((gat w f wk n).getD j 0))) := by
  have hn := hN.le
  rw [e_X6_explain, e_X6_isTold, M_find hD, pb_bI_some]
  by_cases t : td w f wk = -1
  · rw [if_pos t, pb_bI_some, if_pos rfl]
    exact ⟨0, w, rfl, fr_rf w, rfl, fun _ => rfl, fun q => absurd t q⟩
  · rw [if_neg t, pb_bI_some, if_neg (show ¬ (1 : Int32) = 0 by decide), e_X6_gather]
    have g0 : pb_wI w 31 5 (0 : Int32) = gst w (nI (gat w f wk 0).length) (w.1 35) (w.1 36) := by
      refine Prod.ext (funext fun d => funext fun k => ?_) rfl
      by_cases d2 : d = 35
      · subst d2; rfl
      · by_cases d3 : d = 36
        · subst d3; rfl
        · simp [gst, pw_I1, pw_F1, d2, d3, gat]
          rfl
    obtain ⟨x, H, Q1, Q2, y1, y2, y3⟩ := cx_gath hN f wk n 0 (w.1 35) (w.1 36) (by omega) (by rw [gat]; decide) (fun j hj => by simp [gat] at hj)
    rw [g0, show pb_run T_X6_gather (7, [some (.ref 31), some (.int f), some (.int wk), some (.int (0 : Int32))], [], gst w (nI (gat w f wk 0).length) (w.1 35) (w.1 36)) = _ from y1, pb_bI_some]
    have frg : fr fI_P fJ_no w (gst w H Q1 Q2) := fr_F (fr_F (fr_I (fr_rf w) (by simp [fI_P])) (by simp [fI_P])) (by simp [fI_P])
    by_cases l9 : (gat w f wk n).length ≤ 9
    · obtain ⟨z1, z2, z3⟩ := y3 l9
      subst z1
      obtain ⟨⟨o1, o2⟩, o3, o4⟩ := slO_b hD hN f wk t
      have sv1 : SV (gst w H Q1 Q2) w := ⟨rfl, rfl, rfl, rfl, rfl, rfl⟩
      have sp : spn (gst w H Q1 Q2) f wk n = nI (spN w f wk n) := (spn_eq (v := gst w H Q1 Q2) (w := w) rfl rfl rfl rfl rfl rfl f wk n).trans (spn_N hN f wk n (Nat.le_refl n)).1
      have tE : td (gst w H Q1 Q2) f wk = td w f wk := rfl
      obtain ⟨T', Fi', c', k1, r, x, e1, e2⟩ := cx_expl (A := slA w (gat w f wk n)) (g := (gat w f wk n).length) (out := slO w f wk n) l9 (slA_b hN f wk) o1 o2 4 0 (gst w H Q1 Q2) (w.1 37) (w.1 38) (w.1 31 12) z2 (fun i x i1 x1 x6 => by
        rw [slA_in ⟨i1, x1, x6⟩]
        exact (z3 i i1).2 x x1 x6) (by omega) (fun k' h => by omega)
      have E : (pb_bI (M_X6_outBy [.ref 31, .int f, .int wk] (gst w H Q1 Q2)) fun x6 w5 => (pb_run T_X6_explain (35, [some (.ref 31), none, none, some (.int x6), some (.int (0 : Int32))], [], (pb_wI w5 31 11 (0 : Int32))))) = some (some (.int x), cst (pb_wI (gst w H Q1 Q2) 31 10 k1) T' Fi' (nI r) c') := by
        rw [e_X6_outBy, M_find (w := gst w H Q1 Q2) hD, pb_bI_some, tE, if_neg t, if_pos o3, M_spentOnAll (w := gst w H Q1 Q2) hL hn hN.n5, pb_bI_some, pb_bI_some, sp, show (gst w H Q1 Q2).1 34 = w.1 34 from rfl, o4, cst_0]
        exact e1
      rw [if_neg (show ¬ (1 : Int32) = 0 by decide), E]
      refine ⟨x, _, rfl, fr_I (fr_I (fr_F (fr_F (fr_I frg (by simp [fI_P])) (by simp [fI_P])) (by simp [fI_P])) (by simp [fI_P])) (by simp [fI_P]), rfl, fun q => ?_, fun _ _ => ?_⟩
      · rcases q with q | q
        · exact absurd q t
        · omega
      · rcases e2 with e2 | ⟨q1, k0, fv, q2, q3, q4, q5, q6, q7⟩
        · exact Or.inl e2
        · exact Or.inr ⟨q1, k0, fv, q2, q3, by rw [← q4]; rfl, by rw [← q4]; exact q5, q6, q7, z2, fun j hj => (z3 j hj).1⟩
    · rw [y2 (by omega), if_pos rfl]
      exact ⟨0, _, rfl, frg, rfl, fun _ => rfl, fun _ q => absurd q l9⟩
