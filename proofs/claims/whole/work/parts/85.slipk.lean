/-! the reference: brings, its gathering, explains -/
theorem mx_ten {p x : Nat} (hp : p ≤ 20000) (h3 : 3 ≤ x) (h6 : x ≤ 6) (w : pb_W) : pb_run T_X12_brings (32, [none, none, some (.int (nI x)), some (.int (nI p)), some (.int (1 : Int32)), some (.int (3 : Int32)), none], [], w) = some (some (.int (iI (sv p x))), w) := by
  have up : ∀ t k, k < x → pb_run T_X12_brings (32, [none, none, some (.int (nI x)), some (.int (nI p)), some (.int (nI t)), some (.int (nI k)), none], [], w) = pb_run T_X12_brings (32, [none, none, some (.int (nI x)), some (.int (nI p)), some (.int (nI (t * 10))), some (.int (nI (k + 1))), none], [], w) := by
    intro t k hk
    rw [r_X12_brings_32, if_pos (show nI k < nI x from nI_lt hk (by omega)), show nI t * (10 : Int32) = nI (t * 10) from pn_mul t 10, nI_1]
  have fin : ∀ t, 1 ≤ t → t ≤ 1000 → pb_run T_X12_brings (32, [none, none, some (.int (nI x)), some (.int (nI p)), some (.int (nI t)), some (.int (nI x)), none], [], w) = some (some (.int (iI (svt p t))), w) := by
    intro t t1 t2
    have d1 : p / t ≤ p := Nat.div_le_self _ _
    have dd : p / t / 10 = p / (t * 10) := Nat.div_div_eq_div_mul p t 10
    have d2 : p / (t * 10) ≤ p := Nat.div_le_self _ _
    have e10 : nI (p / t) / (10 : Int32) = nI (p / (t * 10)) := by rw [show (10 : Int32) = nI 10 from rfl, pk_div (by omega) (by decide) (by decide), dd]
    rw [r_X12_brings_32, if_neg (show ¬ nI x < nI x from fun q => by rw [nI_ltI (by omega) (by omega)] at q; omega), if_neg (nI_ne0 (by omega) (by omega)), pk_div (by omega) (by omega) (by omega)]
    have lt10 : (nI (p / t) < (10 : Int32)) ↔ p < t * 10 := by
      rw [show (10 : Int32) = nI 10 from rfl, nI_ltI (by omega) (by decide)]
      rw [Nat.div_lt_iff_lt_mul (by omega), Nat.mul_comm 10 t]
    by_cases q : p < t * 10
    · rw [if_pos (lt10.mpr q)]
      unfold svt
      rw [if_pos q]
      rfl
    · rw [if_neg (fun z => q (lt10.mp z)), if_neg (nI_ne0 (by omega) (by omega)), if_neg (nI_ne0 (by omega) (by omega)), md10 (by omega), e10, md10 (by omega), sv_e hp t1 t2 q]
  have s3 : sv p x = svt p (10 ^ (x - 3)) := by unfold sv; rw [if_neg (by omega), if_neg (by omega)]
  rw [s3]
  have : x = 3 ∨ x = 4 ∨ x = 5 ∨ x = 6 := by omega
  rcases this with e | e | e | e
  · subst e
    exact fin 1 (by decide) (by decide)
  · subst e
    exact (up 1 3 (by decide)).trans (fin 10 (by decide) (by decide))
  · subst e
    exact (up 1 3 (by decide)).trans ((up 10 4 (by decide)).trans (fin 100 (by decide) (by decide)))
  · subst e
    exact (up 1 3 (by decide)).trans ((up 10 4 (by decide)).trans ((up 100 5 (by decide)).trans (fin 1000 (by decide) (by decide))))
theorem M_brings {w : pb_W} (hL : iv_L w) {n : Nat} (hN : LN w n) {i l x : Nat} (hi : i < 200) (e : w.1 107 i = nI l) (hl : l < n) (h1 : 1 ≤ x) (h6 : x ≤ 6) : M_X12_brings [.ref 64, .int (nI i), .int (nI x)] w = some (some (.int (iI (sv (pcN w l) x))), w) := by
  obtain ⟨ep, -, lp⟩ := hN.pc l hl
  have hn := hN.le
  have P : M_X12_penceOf [.ref 64, .int (nI l)] w = some (some (.int (w.1 16 l)), w) := M_penceOf hL (fun n' e l' => by
    rw [hN.n5] at e
    have := (nI_eq (show n < 2 ^ 31 by omega) (show n' < 2 ^ 31 by omega)).mp e
    omega)
  have ng : -nI (pcN w l) = iI (-(pcN w l : Int)) := by rw [iI_n (by omega)]; exact (Int32.ofInt_neg _).symm
  rw [e_X12_brings, if_pos (pn_in hi (by decide)), nI_clamp (show i < 2 ^ 31 by omega), e, P, pb_bI_some, ep]
  by_cases x1 : x = 1
  · subst x1
    rw [if_pos (show nI 1 = (1 : Int32) from rfl), ng]
    rfl
  · rw [if_neg (show ¬ nI x = (1 : Int32) from fun q => x1 ((nI_eq (b := 1) (by omega) (by decide)).mp q))]
    by_cases x2 : x = 2
    · subst x2
      rw [if_pos (show nI 2 = (2 : Int32) from rfl), iI_n (show pcN w l < 2 ^ 31 by omega)]
      rfl
    · rw [if_neg (show ¬ nI x = (2 : Int32) from fun q => x2 ((nI_eq (b := 2) (by omega) (by decide)).mp q))]
      exact mx_ten lp (by omega) h6 w
def rgt (w : pb_W) (H : Int32) (Q : Nat → Int32) : pb_W := pb_wI (pb_wF w 107 Q) 64 71 H
theorem rgt_step (w : pb_W) (H H' : Int32) (Q : Nat → Int32) (p : Nat) (v : Int32) : pb_wI (pb_wI (rgt w H Q) 107 p v) 64 71 H' = rgt w H' (upd Q p v) := by
  refine Prod.ext (funext fun d => funext fun k => ?_) rfl
  by_cases d1 : d = 64
  · subst d1
    show (if k = 71 then H' else if k = 71 then H else w.1 64 k) = if k = 71 then H' else w.1 64 k
    by_cases q : k = 71
    · simp only [if_pos q]
    · simp only [if_neg q]
  · by_cases d2 : d = 107
    · subst d2; rfl
    · simp [rgt, pw_I1, pw_F1, d1, d2]
theorem mx_gath {w : pb_W} (hL : iv_L w) {n : Nat} (hN : LN w n) (f wk a3 : Int32) : ∀ m i Q, i + m = n → (∀ j, j < (gat w f wk i).length → Q j = nI ((gat w f wk i).getD j 0)) → ∃ Q', (∀ j, j < (gat w f wk n).length → Q' j = nI ((gat w f wk n).getD j 0)) ∧ pb_run T_X12_explains (22, [some (.ref 64), some (.int f), some (.int wk), some (.int a3), some (.int (nI i))], [], rgt w (nI (gat w f wk i).length) Q) = (if (9 : Int32) < nI (gat w f wk n).length then (some (some (.int (0 : Int32)), rgt w (nI (gat w f wk n).length) Q')) else (if pb_in a3 40 then (pb_bI (M_X12_spentOf [.ref 64, .int f, .int wk, .int (-1 : Int32), .int (0 : Int32)] (rgt w (nI (gat w f wk n).length) Q')) fun x2 w1 => (pb_bV (M_X12_slipsOf [.ref 64, .int f, .int wk] (pb_wI w1 64 72 ((w.1 106 (a3).toNatClampNeg) - x2))) fun w3 => (if (3 : Int32) < (w3.1 64 73) then (some (some (.int (0 : Int32)), w3)) else (some (some (.int (1 : Int32)), w3))))) else none)) := by
  have hn := hN.le
  intro m
  induction m with
  | zero =>
    intro i Q hi hQ
    have e : i = n := by omega
    subst e
    refine ⟨Q, hQ, ?_⟩
    rw [r_X12_explains_22, show (rgt w (nI (gat w f wk i).length) Q).1 64 7 = nI i from hN.n7, if_neg (show ¬ nI i < nI i from fun q => by rw [nI_ltI (by omega) (by omega)] at q; omega)]
    rfl
  | succ m ih =>
    intro i Q hi hQ
    have i200 : pb_in (nI i) 200 := pn_in (by omega) (by decide)
    have le := gat_len w f wk i
    rw [r_X12_explains_22, show (rgt w (nI (gat w f wk i).length) Q).1 64 7 = nI n from hN.n7, if_pos (show nI i < nI n from nI_lt (by omega) (by omega)), if_pos i200, nI_clamp (show i < 2 ^ 31 by omega), M_went (w := rgt w (nI (gat w f wk i).length) Q) hL (show i < 200 by omega), pb_bI_some, nI_1, show (rgt w (nI (gat w f wk i).length) Q).1 64 71 = nI (gat w f wk i).length from rfl, if_pos (pn_in (show (gat w f wk i).length < 200 by omega) (by decide)), nI_clamp (show (gat w f wk i).length < 2 ^ 31 by omega), nI_1, rgt_step, show (rgt w (nI (gat w f wk i).length) Q).1 71 i = w.1 9 i from congrFun hN.g71 i]
    simp only [q01]
    by_cases t : wn w i f wk
    · have gE : gat w f wk (i + 1) = gat w f wk i ++ [i] := by rw [gat, if_pos t]
      have L : (gat w f wk (i + 1)).length = (gat w f wk i).length + 1 := by rw [gE, List.length_append, List.length_singleton]
      rw [if_pos t.1, if_neg (show ¬ ¬ wf (rgt w (nI (gat w f wk i).length) Q) i f from not_not_intro t.2)]
      have := ih (i + 1) (upd Q (gat w f wk i).length (nI i)) (by omega) (by
        intro j hj
        rw [L] at hj
        rw [gE, pu_at]
        by_cases q : j = (gat w f wk i).length
        · rw [if_pos q, gD2 _ _ (by omega), show j - (gat w f wk i).length = 0 by omega]
          rfl
        · rw [if_neg q, gD1 _ _ (by omega)]
          exact hQ j (by omega))
      rw [L] at this
      exact this
    · have gE : gat w f wk (i + 1) = gat w f wk i := by rw [gat, if_neg t]
      have := ih (i + 1) Q (by omega)
      rw [gE] at this
      by_cases q : w.1 9 i = wk
      · rw [if_pos q, if_pos (show ¬ wf (rgt w (nI (gat w f wk i).length) Q) i f from fun z => t ⟨q, z⟩)]
        exact this hQ
      · rw [if_neg q]
        exact this hQ
theorem M_explains {w : pb_W} (hL : iv_L w) (hD : iv_D w) {n : Nat} (hN : LN w n) (f wk : Int32) : ∃ x w1, M_X12_explains [.ref 64, .int f, .int wk] w = some (some (.int x), w1) ∧ fr fI_P fJ_no w w1 ∧ w1.1 0 0 = w.1 0 0 ∧ (td w f wk = -1 ∨ 9 < (gat w f wk n).length → x = 0) ∧ (td w f wk ≠ -1 → (gat w f wk n).length ≤ 9 → ∃ s : Sst, RS (slA w (gat w f wk n)) (gat w f wk n).length (slO w f wk n) s (fun k => cC (slA w (gat w f wk n)) (gat w f wk n).length 0 k (slO w f wk n)) ∧ (∀ v k, k ≤ 3 → Mem (slA w (gat w f wk n)) (gat w f wk n).length (slO w f wk n) k v → Cov (gat w f wk n).length s v k) ∧ x = (if s.1 ≤ 3 then 1 else 0) ∧ w1.1 64 73 = nI s.1 ∧ w1.1 64 74 = nI s.2.1 ∧ w1.1 64 75 = s.2.2.2.1 ∧ w1.1 109 = s.2.2.1 ∧ w1.1 64 71 = nI (gat w f wk n).length ∧ ∀ j, j < (gat w f wk n).length → w1.1 107 j = nI ((gat w f wk n).getD j 0)) := by
  have hn := hN.le
  have le := gat_len w f wk n
  rw [e_X12_explains, M_toldOf hD, pb_bI_some]
  by_cases t : td w f wk = -1
  · rw [if_pos t]
    exact ⟨0, w, rfl, fr_rf w, rfl, fun _ => rfl, fun q => absurd t q⟩
  · rw [if_neg t]
    have g0 : pb_wI w 64 71 (0 : Int32) = rgt w (nI (gat w f wk 0).length) (w.1 107) := by
      refine Prod.ext (funext fun d => funext fun k => ?_) rfl
      by_cases d2 : d = 107
      · subst d2; rfl
      · by_cases d1 : d = 64
        · subst d1; rfl
        · simp [rgt, pw_I1, pw_F1, d1, d2]
    obtain ⟨Q, hQ, y⟩ := mx_gath hL hN f wk (td w f wk) n 0 (w.1 107) (by omega) (fun j hj => by simp [gat] at hj)
    have frg : fr fI_P fJ_no w (rgt w (nI (gat w f wk n).length) Q) := fr_I (fr_F (fr_rf w) (by simp [fI_P])) (by simp [fI_P])
    rw [g0, show pb_run T_X12_explains (22, [some (.ref 64), some (.int f), some (.int wk), some (.int (td w f wk)), some (.int (0 : Int32))], [], rgt w (nI (gat w f wk 0).length) (w.1 107)) = _ from y]
    by_cases l9 : (gat w f wk n).length ≤ 9
    · obtain ⟨⟨o1, o2⟩, o3, o4⟩ := slO_b hD hN f wk t
      obtain ⟨-, -, -, -, -, -, g106, -⟩ := id hD
      have sp : spn (rgt w (nI (gat w f wk n).length) Q) f wk n = nI (spN w f wk n) := (spn_eq (v := rgt w (nI (gat w f wk n).length) Q) (w := w) rfl rfl rfl rfl rfl rfl f wk n).trans (spn_N hN f wk n (Nat.le_refl n)).1
      rw [if_neg (show ¬ (9 : Int32) < nI (gat w f wk n).length from nI_nlt (a := 9) l9 (by decide)), if_pos o3, M_spentOf (w := rgt w (nI (gat w f wk n).length) Q) hL hn hN.n5, pb_bI_some, sp, g106, o4]
      have hbr : Brg (pb_wI (rgt w (nI (gat w f wk n).length) Q) 64 72 (iI (slO w f wk n))) (slA w (gat w f wk n)) (gat w f wk n).length := by
        intro i x U s i1 x1 x6
        have gg := gat_get w f wk n i i1
        have hN' : LN (mS (pb_wI (rgt w (nI (gat w f wk n).length) Q) 64 72 (iI (slO w f wk n))) U s) n := LN_sv hN rfl rfl rfl rfl rfl rfl rfl rfl rfl rfl rfl rfl
        have B := M_brings (w := mS (pb_wI (rgt w (nI (gat w f wk n).length) Q) 64 72 (iI (slO w f wk n))) U s) hL hN' (i := i) (x := x) (by omega) (hQ i i1) gg.1 x1 x6
        rw [slA_in ⟨i1, x1, x6⟩]
        exact B
      obtain ⟨U', s, z1, z2, z3⟩ := mx_slipsOf (b := pb_wI (rgt w (nI (gat w f wk n).length) Q) 64 72 (iI (slO w f wk n))) l9 rfl rfl (slA_b hN f wk) hbr o1 o2 f wk
      rw [z1, pb_bV_some, show (mS (pb_wI (rgt w (nI (gat w f wk n).length) Q) 64 72 (iI (slO w f wk n))) U' s).1 64 73 = nI s.1 from rfl]
      have s4 : s.1 ≤ 4 := z2.1
      refine ⟨if s.1 ≤ 3 then 1 else 0, mS (pb_wI (rgt w (nI (gat w f wk n).length) Q) 64 72 (iI (slO w f wk n))) U' s, ?_, fr_I (fr_I (fr_I (fr_F (fr_F (fr_I frg (by simp [fI_P])) (by simp [fI_P])) (by simp [fI_P])) (by simp [fI_P])) (by simp [fI_P])) (by simp [fI_P]), rfl, fun q => ?_, fun _ _ => ⟨s, z2, z3, rfl, rfl, rfl, rfl, rfl, rfl, hQ⟩⟩
      · by_cases q : s.1 ≤ 3
        · rw [if_pos q, if_neg (show ¬ (3 : Int32) < nI s.1 from nI_nlt (a := 3) q (by decide))]
        · rw [if_neg q, if_pos (show (3 : Int32) < nI s.1 from nI_lt (a := 3) (by omega) (by omega))]
      · rcases q with q | q
        · exact absurd q t
        · omega
    · rw [if_pos (show (9 : Int32) < nI (gat w f wk n).length from nI_lt (a := 9) (by omega) (by omega))]
      exact ⟨0, _, rfl, frg, rfl, fun _ => rfl, fun _ q => absurd q l9⟩
