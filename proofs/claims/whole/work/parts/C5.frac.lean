/-! ===== FRACTIONS; SPENT, SHARE ===== -/
theorem lN_div {a b : Nat} (ha : a < 2 ^ 63) (hb : b < 2 ^ 63) (h0 : 0 < b) : lN a / lN b = lN (a / b) := by
  apply Int64.toInt_inj.mp
  have := Nat.div_le_self a b
  rw [lg_ldiv_nonneg (by rw [pf_lI ha]; omega) (by rw [pf_lI hb]; omega), pf_lI ha, pf_lI hb, pf_lI (by omega)]
  rfl
theorem lN_rem {a b : Nat} (ha : a < 2 ^ 63) (hb : b < 2 ^ 63) (h0 : 0 < b) : lN a - lN a / lN b * lN b = lN (a % b) := by
  have e := Nat.div_add_mod a b
  have l := Nat.div_mul_le_self a b
  rw [lN_div ha hb h0, lN_mul, lN_sub l, Nat.mul_comm, show a - b * (a / b) = a % b by omega]
theorem mod_half {b r : Nat} (h0 : 0 < r) (h : r < b) : 2 * (b % r) < b := by
  have h1 := Nat.mod_lt b h0
  have h2 := Nat.mod_add_div b r
  have h3 : 1 ≤ b / r := (Nat.le_div_iff_mul_le h0).mpr (by omega)
  have h4 : r * 1 ≤ r * (b / r) := Nat.mul_le_mul_left r h3
  omega
/-- Euclid's way, both -/
theorem gcd_both (a1 a3 : Int64) (w v : pb_W) : ∀ (k a b s : Nat), b < 2 ^ k → a < 2 ^ 63 → b < 2 ^ 63 → s + 2 * k ≤ 120 → pb_run T_X11_commonDivisor (9, [none, none, none, none, some (.long (lN a)), none, some (.long (lN b)), none, some (.int (nI s)), none, none], [], w) = some (some (.long (lN (Nat.gcd b a))), w) ∧ pb_run T_X12_fraction (17, [some (.ref 64), some (.long a1), none, some (.long a3), none, some (.long (lN a)), none, some (.long (lN b)), none, none, none], [], v) = pb_run T_X12_fraction (17, [some (.ref 64), some (.long a1), none, some (.long a3), none, some (.long (lN (Nat.gcd b a))), none, some (.long (lN 0)), none, none, none], [], v) := by
  have z : ∀ (a s : Nat), s ≤ 120 → pb_run T_X11_commonDivisor (9, [none, none, none, none, some (.long (lN a)), none, some (.long (lN 0)), none, some (.int (nI s)), none, none], [], w) = some (some (.long (lN a)), w) := by
    intro a s hs
    rw [r_X11_commonDivisor_9, if_pos (show nI s < (128 : Int32) from nI_lt (b := 128) (by omega) (by decide)), if_pos ((lg_eq0 (lN 0) 0).mpr rfl)]
  have st : ∀ (a b s : Nat), 0 < b → a < 2 ^ 63 → b < 2 ^ 63 → s ≤ 120 → pb_run T_X11_commonDivisor (9, [none, none, none, none, some (.long (lN a)), none, some (.long (lN b)), none, some (.int (nI s)), none, none], [], w) = pb_run T_X11_commonDivisor (9, [none, none, none, none, some (.long (lN b)), none, some (.long (lN (a % b))), none, some (.int (nI (s + 1))), none, none], [], w) ∧ pb_run T_X12_fraction (17, [some (.ref 64), some (.long a1), none, some (.long a3), none, some (.long (lN a)), none, some (.long (lN b)), none, none, none], [], v) = pb_run T_X12_fraction (17, [some (.ref 64), some (.long a1), none, some (.long a3), none, some (.long (lN b)), none, some (.long (lN (a % b))), none, none, none], [], v) := by
    intro a b s hb ha hb2 hs
    have nb : ¬ lN b = 0 := fun q => by have := (lN_0 (by omega)).mp q; omega
    have nb' : ¬ lg_cmp (lN b) 0 = 0 := fun q => nb ((lg_eq0 _ _).mp q)
    constructor
    · rw [r_X11_commonDivisor_9, if_pos (show nI s < (128 : Int32) from nI_lt (b := 128) (by omega) (by decide)), if_neg nb', if_neg nb, lN_rem ha hb2 hb, nI_1]
    · rw [r_X12_fraction_17, if_neg nb', if_neg nb, lN_rem ha hb2 hb]
  intro k
  induction k with
  | zero =>
    intro a b s hb ha hb2 hs
    have : b = 0 := by omega
    subst this
    rw [Nat.gcd_zero_left]
    exact ⟨z a s (by omega), rfl⟩
  | succ k ih =>
    intro a b s hb ha hb2 hs
    by_cases q : b = 0
    · subst q
      rw [Nat.gcd_zero_left]
      exact ⟨z a s (by omega), rfl⟩
    · obtain ⟨s1, s2⟩ := st a b s (by omega) ha hb2 (by omega)
      have r1 := Nat.mod_lt a (show 0 < b by omega)
      rw [s1, s2, Nat.gcd_rec b a]
      by_cases p : a % b = 0
      · rw [p, Nat.gcd_zero_left]
        exact ⟨z b (s + 1) (by omega), rfl⟩
      · obtain ⟨t1, t2⟩ := st b (a % b) (s + 1) (by omega) hb2 (by omega) (by omega)
        have h := mod_half (b := b) (r := a % b) (by omega) r1
        rw [t1, t2, Nat.gcd_rec (a % b) b]
        refine ih (a % b) (b % (a % b)) (s + 1 + 1) ?_ (by omega) (by omega) (by omega)
        rw [Nat.pow_succ] at hb
        omega
theorem absL_nat {a : Int64} (h1 : -2 ^ 62 ≤ a.toInt) (h2 : a.toInt ≤ 2 ^ 62) : ∃ m : Nat, m < 2 ^ 63 ∧ pb_absL a = lN m ∧ (if lg_cmp a 0 < 0 then -a else a) = lN m := by
  have l0 : lg_cmp a 0 < 0 ↔ a.toInt < 0 := (lg_lt0 a 0).trans (Int64.lt_iff_toInt_lt.trans (by rw [show (0 : Int64).toInt = 0 from rfl]))
  have g0 : (0 : Int64) < a ↔ 0 < a.toInt := Int64.lt_iff_toInt_lt.trans (by rw [show (0 : Int64).toInt = 0 from rfl])
  have ng : (-a).toInt = - a.toInt := by
    rw [Int64.toInt_neg, Int.bmod_def]
    split <;> omega
  unfold pb_absL
  by_cases q : a.toInt < 0
  · refine ⟨(-a.toInt).toNat, by omega, ?_, ?_⟩
    · rw [if_neg (fun z => by have := g0.mp z; omega), ← ng]
      exact i64_nat (by omega)
    · rw [if_pos (l0.mpr q), ← ng]
      exact i64_nat (by omega)
  · refine ⟨a.toInt.toNat, by omega, ?_, ?_⟩
    · by_cases p : 0 < a.toInt
      · rw [if_pos (g0.mpr p)]
        exact i64_nat (by omega)
      · rw [if_neg (fun z => p (g0.mp z))]
        have : a = 0 := Int64.toInt_inj.mp (by rw [show (0 : Int64).toInt = 0 from rfl]; omega)
        rw [this]
        rfl
    · rw [if_neg (fun z => by have := l0.mp z; omega)]
      exact i64_nat (by omega)
theorem M_frac {a : Int64} {b : Nat} (h1 : -2 ^ 62 ≤ a.toInt) (h2 : a.toInt ≤ 2 ^ 62) (hb : 1 ≤ b) (hb2 : b ≤ 4000) : ∃ x t o, ∀ w v, M_X11_tellFraction [.ref 0, .long a, .long (lN b)] w = some (some (.int x), pb_wL (pb_wL w 0 1 t) 0 2 o) ∧ M_X12_fraction [.ref 64, .long a, .long (lN b)] v = some (some (.int x), pb_wI (pb_wL (pb_wL v 64 1 t) 64 2 o) 64 0 0) := by
  obtain ⟨m, m1, m2, m3⟩ := absL_nat h1 h2
  have g1 : 1 ≤ Nat.gcd b m := Nat.gcd_pos_of_pos_left m (by omega)
  have g2 : Nat.gcd b m ≤ b := Nat.gcd_le_left m (by omega)
  have gm : pb_maxL (1 : Int64) (lN (Nat.gcd b m)) = lN (Nat.gcd b m) := by
    unfold pb_maxL
    rw [show (1 : Int64) = lN 1 from rfl, if_neg (fun z => by have := (pk_lLT (by omega) (by decide)).mp z; omega)]
  have d1 : 1 ≤ b / Nat.gcd b m := (Nat.le_div_iff_mul_le (by omega)).mpr (by omega)
  have d2 := Nat.div_le_self b (Nat.gcd b m)
  have gd : pb_maxL (1 : Int64) (lN b / lN (Nat.gcd b m)) = lN b / lN (Nat.gcd b m) := by
    rw [lN_div (by omega) (by omega) (by omega)]
    unfold pb_maxL
    rw [show (1 : Int64) = lN 1 from rfl, if_neg (fun z => by have := (pk_lLT (by omega) (by decide)).mp z; omega)]
  have ng : ¬ lN (Nat.gcd b m) = 0 := fun z => by have := (lN_0 (by omega)).mp z; omega
  refine ⟨if 0 < lg_cmp a 0 then 1 else if lg_cmp a 0 < 0 then -1 else 0, a / lN (Nat.gcd b m), lN b / lN (Nat.gcd b m), fun w v => ?_⟩
  obtain ⟨r1, r2⟩ := gcd_both a (lN b) w v 12 m b 0 (by omega) m1 (by omega) (by omega)
  constructor
  · have r1 : pb_run T_X11_commonDivisor (9, [none, none, none, none, some (.long (lN m)), none, some (.long (lN b)), none, some (.int (0 : Int32)), none, none], [], w) = some (some (.long (lN (Nat.gcd b m))), w) := r1
    rw [e_X11_tellFraction, e_X11_commonDivisor, m2, r1, pb_bL_some, gm, gd, if_neg ng, if_neg ng]
    by_cases q : a = 0
    · rw [if_pos ((lg_eq0 a 0).mpr q), if_neg (fun z => by have := (lg_gt a 0).mp z; rw [q] at this; exact absurd this (by decide)), if_neg (fun z => by have := (lg_lt0 a 0).mp z; rw [q] at this; exact absurd this (by decide))]
    · rw [if_neg (fun z => q ((lg_eq0 a 0).mp z))]
      by_cases p : 0 < lg_cmp a 0
      · rw [if_pos p, if_pos p]
      · rw [if_neg p, if_neg p, if_pos]
        rcases lg_tri a 0 with z | z | z
        · exact (lg_lt0 a 0).mpr z
        · exact absurd z q
        · exact absurd ((lg_gt a 0).mpr z) p
  · have e : M_X12_fraction [.ref 64, .long a, .long (lN b)] v = pb_run T_X12_fraction (17, [some (.ref 64), some (.long a), none, some (.long (lN b)), none, some (.long (lN m)), none, some (.long (lN b)), none, none, none], [], v) := by
      rw [e_X12_fraction, ← m3]
      by_cases q : lg_cmp a 0 < 0
      · rw [if_pos q, if_pos q]
      · rw [if_neg q, if_neg q]
    rw [e, r2, r_X12_fraction_17, if_pos ((lg_eq0 (lN 0) 0).mpr rfl), if_neg ng, if_neg ng, ite_gv, ite_gv, ite_gv]
    by_cases p : 0 < lg_cmp a 0
    · rw [if_pos p, if_pos p]
    · rw [if_neg p, if_neg p]
      by_cases q : lg_cmp a 0 < 0
      · rw [if_pos q, if_pos q]
      · rw [if_neg q, if_neg q]
/-- what may not be spent on -/
def nsP (F a1 a2 a3 a4 : Int32) (m : Nat) : Prop := ¬ (¬ a1 < 0 ∧ a1 < F) ∨ (a2 < 0 ∨ 519 < a2) ∨ (a3 < -1 ∨ 15 < a3) ∨ ¬ (¬ a4 < 0 ∧ a4 < nI m)
theorem M_noSpend {w : pb_W} {n : Nat} {Es : List (List Rl)} (a1 a2 a3 a4 : Int32) (hB : BS w n Es) (hJ : iv_J w Es n) : (nsP (w.1 5 0) a1 a2 a3 a4 Es.length ∧ M_X11_noSpending [.ref 0, .int a1, .int a2, .int a3, .int a4] w = some (some (.int 1), w)) ∨ (¬ nsP (w.1 5 0) a1 a2 a3 a4 Es.length ∧ ∃ E, E < Es.length ∧ a4 = nI E ∧ ∃ u, M_X11_noSpending [.ref 0, .int a1, .int a2, .int a3, .int a4] w = some (some (.int 0), u) ∧ fr fI_jb fJ_ju w u ∧ iv_J u Es n ∧ JV u Es n E) := by
  have e5 := BS_5 hB
  have C := e_X11_noSpending a1 a2 a3 a4 w
  rw [M_noFamilyWeek, pb_bI_some] at C
  by_cases q1 : ¬ (¬ a1 < 0 ∧ a1 < w.1 5 0) ∨ (a2 < 0 ∨ 519 < a2)
  · rw [if_pos q1, if_neg (show ¬ (1 : Int32) = 0 by decide)] at C
    exact Or.inl ⟨q1.elim (fun z => Or.inl z) (fun z => Or.inr (Or.inl z)), C⟩
  · rw [if_neg q1, if_pos rfl, M_outside, pb_bI_some] at C
    by_cases q2 : a3 < -1 ∨ 15 < a3
    · rw [if_pos q2, if_neg (show ¬ (1 : Int32) = 0 by decide)] at C
      exact Or.inl ⟨Or.inr (Or.inr (Or.inl q2)), C⟩
    · rw [if_neg q2, if_pos rfl] at C
      rcases M_judgeBy a4 hB hJ with ⟨b1, b2⟩ | ⟨E, hE, rfl, u, b2, F, J', V, -⟩
      · rw [b2, pb_bI_some, if_pos rfl] at C
        exact Or.inl ⟨Or.inr (Or.inr (Or.inr b1)), C⟩
      · rw [b2, pb_bI_some, if_neg (show ¬ (1 : Int32) = 0 by decide)] at C
        refine Or.inr ⟨fun z => ?_, E, hE, rfl, u, C, F, J', V⟩
        rcases z with z | z | z | z
        · exact q1 (Or.inl z)
        · exact q1 (Or.inr z)
        · exact q2 z
        · exact z (ed_ok hE e5)
theorem ns_chain {α : Type} (F a1 a2 a3 a4 : Int32) (m : Nat) (x y : α) [Decidable (nsP F a1 a2 a3 a4 m)] : (if ¬ (¬ a1 < 0 ∧ a1 < F) then x else if (a2 < 0 ∨ 519 < a2) then x else if (a3 < -1 ∨ 15 < a3) then x else if ¬ (¬ a4 < 0 ∧ a4 < nI m) then x else y) = if nsP F a1 a2 a3 a4 m then x else y := by
  by_cases q1 : ¬ (¬ a1 < 0 ∧ a1 < F)
  · rw [if_pos q1, if_pos (show nsP F a1 a2 a3 a4 m from Or.inl q1)]
  · rw [if_neg q1]
    by_cases q2 : (a2 < 0 ∨ 519 < a2)
    · rw [if_pos q2, if_pos (show nsP F a1 a2 a3 a4 m from Or.inr (Or.inl q2))]
    · rw [if_neg q2]
      by_cases q3 : (a3 < -1 ∨ 15 < a3)
      · rw [if_pos q3, if_pos (show nsP F a1 a2 a3 a4 m from Or.inr (Or.inr (Or.inl q3)))]
      · rw [if_neg q3]
        by_cases q4 : ¬ (¬ a4 < 0 ∧ a4 < nI m)
        · rw [if_pos q4, if_pos (show nsP F a1 a2 a3 a4 m from Or.inr (Or.inr (Or.inr q4)))]
        · rw [if_neg q4, if_neg]
          intro z
          rcases z with z | z | z | z
          · exact q1 z
          · exact q2 z
          · exact q3 z
          · exact q4 z
theorem SB_F {w v : pb_W} (h : SB w v) (hF : iv_F w) : iv_F v := by
  unfold iv_F
  rw [h.1 5 0 (by simp [nI_BS]), h.1 64 6 (by simp [nI_BS]), h.c 6 (fun k => by simp [nI_BS]), h.c 7 (fun k => by simp [nI_BS]), h.c 68 (fun k => by simp [nI_BS]), h.c 69 (fun k => by simp [nI_BS])]
  exact hF
theorem iv_F6 {w : pb_W} (hF : iv_F w) : w.1 64 6 = w.1 5 0 := by
  obtain ⟨n, h1, h2, h3, -⟩ := hF
  rw [h2, h3]
theorem x_spent (a1 a2 a3 a4 : Int32) (w : pb_W) {n : Nat} {Es : List (List Rl)} (hH : iv_H w) (hF : iv_F w) (hB : BS w n Es) (hJ : iv_J w Es n) : ∃ x w1 w2, M_X11_spent [.ref 0, .int a1, .int a2, .int a3, .int a4] w = some (some (.int x), w1) ∧ M_X12_spent [.ref 64, .int a1, .int a2, .int a3, .int a4] w1 = some (some (.int x), w2) ∧ fr fI_K fJ_K w w2 ∧ iv_H w2 ∧ iv_J w2 Es n := by
  classical
  have C := e_X11_spent a1 a2 a3 a4 w
  have R : ∀ v, SB w v → M_X12_spent [.ref 64, .int a1, .int a2, .int a3, .int a4] v = if nsP (w.1 5 0) a1 a2 a3 a4 Es.length then some (some (.int (-1)), pb_wI v 64 0 1) else (pb_bI (M_X12_spentOf [.ref 64, .int a1, .int a2, .int a3, .int a4] v) fun x16 w15 => some (some (.int x16), pb_wI w15 64 0 0)) := by
    intro v hv
    have hBv := SB_B hv hB
    rw [e_X12_spent, ← ns_chain]
    simp only [M_isFamily, M_isWeek, M_isKind, M_isEdition, pb_bI_some, q01, q10, ite_ref, ite_gv, EI_37 hBv.2.2, iv_F6 (SB_F hv hF), hv.1 5 0 (by simp [nI_BS])]
  rcases M_noSpend a1 a2 a3 a4 hB hJ with ⟨b1, b2⟩ | ⟨b1, E, hE, rfl, u, b2, F, J', V⟩
  · rw [b2, pb_bI_some, if_neg (show ¬ (1 : Int32) = 0 by decide), r_X11_spent_18, if_neg (show ¬ (1 : Int32) = 0 by decide)] at C
    refine ⟨-1, _, _, C, ?_, K_fin (c := 1) hH (fr_rf w) hJ (fr_rf _)⟩
    rw [R _ (S_00 w 1), if_pos b1]
  · have S := S_00 u 0
    have SF := SB_tr (jb_SB F) S
    have hB3 := SB_B SF hB
    obtain ⟨v', d1, d2⟩ := M_spentOf12 hB3 hE (SB_rf _) a3 a1 a2
    rw [b2, pb_bI_some, if_pos rfl, r_X11_spent_18, if_pos rfl, M_spentOn hB3 hE (JV_tr S (fun l hl => rfl) V), pb_bI_some] at C
    refine ⟨_, _, pb_wI v' 64 0 0, C, ?_, K_fin hH F J' d2⟩
    rw [R _ SF, if_neg b1, d1, pb_bI_some]
