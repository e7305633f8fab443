/-! ===== WAYS: both count ===== -/
abbrev fJ_44 : Nat → Nat → Prop := fun c _ => c = 44
abbrev fJ_13 : Nat → Nat → Prop := fun c _ => c = 113 ∨ c = 114
theorem cx_any {pn p : Nat} {a : Nat → Nat} (hpn : pn ≤ 2000) (hp : 1 ≤ p) : ∀ (m c : Nat) (w : pb_W), pn + 1 ≤ c + m → p ≤ c → c ≤ 21000 → (∀ s, s ≤ pn → w.2 44 s = if s < c then lN (fu a p s) else lN (a s)) → ∃ w', pb_run T_X7_addAnyNumber (2, [some (.ref 39), some (.int (nI pn)), some (.int (nI p)), some (.int (nI c))], [], w) = some (none, w') ∧ (∀ s, s ≤ pn → w'.2 44 s = lN (fu a p s)) ∧ fr fJ_no fJ_44 w w' := by
  intro m
  induction m with
  | zero =>
    intro c w hm hc hc2 h
    refine ⟨w, ?_, fun s hs => ?_, fr_rf w⟩
    · rw [r_X7_addAnyNumber_2, if_pos (show nI pn < nI c from nI_lt (by omega) (by omega))]
    · rw [h s hs, if_pos (by omega)]
  | succ m ih =>
    intro c w hm hc hc2 h
    by_cases q : pn < c
    · refine ⟨w, ?_, fun s hs => ?_, fr_rf w⟩
      · rw [r_X7_addAnyNumber_2, if_pos (show nI pn < nI c from nI_lt q (by omega))]
      · rw [h s hs, if_pos (by omega)]
    · have c2 : pb_in (nI c) 2001 := pn_in (by omega) (by decide)
      have d2 : pb_in (nI (c - p)) 2001 := pn_in (by omega) (by decide)
      rw [r_X7_addAnyNumber_2, if_neg (show ¬ nI pn < nI c from nI_nlt (by omega) (by omega)), nI_subN hc, if_pos c2, if_pos d2, if_pos c2, nI_clamp (show c < 2 ^ 31 by omega), nI_clamp (show c - p < 2 ^ 31 by omega), nI_1, h c (by omega), if_neg (Nat.lt_irrefl c), h (c - p) (by omega), if_pos (show c - p < c by omega), lN_add, ← fu_rec a hp hc]
      obtain ⟨w', b1, b2, b3⟩ := ih (c + 1) (pb_wL w 44 c (lN (fu a p c))) (by omega) (by omega) (by omega) (fun s hs => by
        rw [pw_L2, if_pos rfl, pu_atL]
        by_cases z : s = c
        · rw [if_pos z, if_pos (by omega), z]
        · rw [if_neg z, h s hs]
          by_cases y : s < c
          · rw [if_pos y, if_pos (by omega)]
          · rw [if_neg y, if_neg (by omega)])
      exact ⟨w', b1, b2, fr_tr (fr_L (fr_rf w) (by simp [fJ_44])) b3⟩
theorem lN_ab (a b : Nat) : lN (a + b) - lN b = lN a := by rw [lN_sub (by omega), Nat.add_sub_cancel]
theorem cx_take {pn p M T : Nat} {a : Nat → Nat} (hpn : pn ≤ 2000) (hp : 1 ≤ p) (hT : T = (M + 1) * p) (hT2 : T < 2 ^ 30) : ∀ (c : Nat) (w : pb_W), c ≤ pn → (∀ s, s ≤ pn → w.2 44 s = if c < s then lN (sw a p M s) else lN (fu a p s)) → ∃ w', pb_run T_X7_takeThoseAbove (2, [some (.ref 39), none, some (.int (nI T)), some (.int (nI c))], [], w) = some (none, w') ∧ (∀ s, s ≤ pn → w'.2 44 s = lN (sw a p M s)) ∧ fr fJ_no fJ_44 w w' := by
  have done : ∀ (c : Nat) (w : pb_W), c ≤ pn → c < T → (∀ s, s ≤ pn → w.2 44 s = if c < s then lN (sw a p M s) else lN (fu a p s)) → ∃ w', pb_run T_X7_takeThoseAbove (2, [some (.ref 39), none, some (.int (nI T)), some (.int (nI c))], [], w) = some (none, w') ∧ (∀ s, s ≤ pn → w'.2 44 s = lN (sw a p M s)) ∧ fr fJ_no fJ_44 w w' := by
    intro c w hc hcT h
    refine ⟨w, ?_, fun s hs => ?_, fr_rf w⟩
    · rw [r_X7_takeThoseAbove_2, if_pos (show nI c < nI T from nI_lt hcT (by omega))]
    · rw [h s hs]
      by_cases q : c < s
      · rw [if_pos q]
      · rw [if_neg q, fu_sw a hp M s, if_neg (by omega), Nat.add_zero]
  have T1 : 1 ≤ T := by
    rw [hT]
    have := Nat.mul_le_mul (show 1 ≤ M + 1 by omega) hp
    omega
  intro c
  induction c with
  | zero =>
    intro w hc h
    exact done 0 w hc (by omega) h
  | succ c ih =>
    intro w hc h
    by_cases q : c + 1 < T
    · exact done (c + 1) w hc q h
    · have c2 : pb_in (nI (c + 1)) 2001 := pn_in (by omega) (by decide)
      have d2 : pb_in (nI (c + 1 - T)) 2001 := pn_in (by omega) (by decide)
      have e := fu_sw a hp M (c + 1)
      rw [if_pos (by omega), ← hT] at e
      rw [r_X7_takeThoseAbove_2, if_neg (show ¬ nI (c + 1) < nI T from nI_nlt (by omega) (by omega)), nI_subN (show T ≤ c + 1 by omega), if_pos c2, if_pos d2, if_pos c2, nI_clamp (show c + 1 < 2 ^ 31 by omega), nI_clamp (show c + 1 - T < 2 ^ 31 by omega), nI_dec, h (c + 1) hc, if_neg (Nat.lt_irrefl (c + 1)), h (c + 1 - T) (by omega), if_neg (show ¬ c + 1 < c + 1 - T by omega), e, lN_ab]
      obtain ⟨w', b1, b2, b3⟩ := ih (pb_wL w 44 (c + 1) (lN (sw a p M (c + 1)))) (by omega) (fun s hs => by
        rw [pw_L2, if_pos rfl, pu_atL]
        by_cases z : s = c + 1
        · rw [if_pos z, if_pos (by omega), z]
        · rw [if_neg z, h s hs]
          by_cases y : c + 1 < s
          · rw [if_pos y, if_pos (by omega)]
          · rw [if_neg y, if_neg (by omega)])
      exact ⟨w', b1, b2, fr_tr (fr_L (fr_rf w) (by simp [fJ_44])) b3⟩
/-- what the class has gathered -/
def TH1 (w : pb_W) (pr : Nat → Option Nat) (mo : Nat → Nat) : Prop := ∀ k, k < 16 → ((pr k = none ∧ w.1 40 k = -1) ∨ ∃ p j, pr k = some p ∧ 1 ≤ p ∧ p ≤ 20000 ∧ j < 200 ∧ w.1 40 k = nI j ∧ w.1 41 k = nI p) ∧ w.1 42 k = nI (mo k) ∧ mo k ≤ 20
/-- what the reference has gathered -/
def TH2 (w : pb_W) (pr : Nat → Option Nat) (mo : Nat → Nat) : Prop := ∀ k, k < 16 → ((pr k = none ∧ w.1 110 k = -1) ∨ ∃ p, pr k = some p ∧ 1 ≤ p ∧ p ≤ 20000 ∧ w.1 110 k = nI p) ∧ w.1 111 k = nI (mo k) ∧ mo k ≤ 20
theorem cx_cnt_go {pn wo : Nat} {pr : Nat → Option Nat} {mo : Nat → Nat} (hpn : pn ≤ 2000) (hwo : wo ≤ 15) : ∀ (m k : Nat) (w : pb_W), k + m = 15 → TH1 w pr mo → (∀ s, s ≤ pn → w.2 44 s = lN (cws pr mo wo k s)) → ∃ w', pb_run T_X7_countWays (17, [some (.ref 39), some (.int (nI pn)), some (.int (nI wo)), some (.int (nI (k + 1)))], [], w) = some (none, w') ∧ (∀ s, s ≤ pn → w'.2 44 s = lN (cws pr mo wo 15 s)) ∧ fr fJ_no fJ_44 w w' := by
  intro m
  induction m with
  | zero =>
    intro k w hk hT h
    have hk : k = 15 := by omega
    subst hk
    refine ⟨w, ?_, h, fr_rf w⟩
    rw [r_X7_countWays_17, if_pos (show (15 : Int32) < nI (15 + 1) by decide)]
  | succ m ih =>
    intro k w hk hT h
    have k16 : pb_in (nI (k + 1)) 16 := pn_in (by omega) (by decide)
    have kc : (nI (k + 1)).toNatClampNeg = k + 1 := nI_clamp (by omega)
    have ih0 := ih (k + 1)
    obtain ⟨t1, t2, t3⟩ := hT (k + 1) (by omega)
    rw [r_X7_countWays_17, if_neg (show ¬ (15 : Int32) < nI (k + 1) from nI_nlt (b := k + 1) (a := 15) (by omega) (by decide)), if_pos k16, if_pos k16, kc, nI_1]
    by_cases q : k + 1 = wo
    · rw [if_pos (show nI (k + 1) = nI wo by rw [q])]
      exact ih0 w (by omega) hT (fun s hs => by rw [h s hs, cws, if_pos q])
    · rw [if_neg (show ¬ nI (k + 1) = nI wo from fun z => q ((nI_eq (by omega) (by omega)).mp z))]
      rcases t1 with ⟨t1, t4⟩ | ⟨p, j, t1, p1, p2, j2, t4, t5⟩
      · rw [if_pos t4]
        exact ih0 w (by omega) hT (fun s hs => by rw [h s hs, cws, if_neg q, t1])
      · rw [if_neg (show ¬ w.1 40 (k + 1) = -1 by rw [t4]; exact pn_m1 j (by omega)), t5, e_X7_addAnyNumber]
        obtain ⟨w1, b1, b2, b3⟩ := cx_any (a := cws pr mo wo k) hpn p1 (pn + 1) p w (by omega) (Nat.le_refl p) (by omega) (fun s hs => by
          rw [h s hs]
          by_cases z : s < p
          · rw [if_pos z, fu_small _ z]
          · rw [if_neg z])
        have hm := Nat.mul_le_mul (show mo (k + 1) + 1 ≤ 21 by omega) p2
        obtain ⟨w2, c1, c2, c3⟩ := cx_take (a := cws pr mo wo k) (p := p) (M := mo (k + 1)) hpn p1 rfl (by omega) pn w1 (Nat.le_refl pn) (fun s hs => by rw [b2 s hs, if_neg (by omega)])
        have e1 : w1.1 41 (k + 1) = nI p := (b3.1 41 _ id).trans t5
        have e2 : w1.1 42 (k + 1) = nI (mo (k + 1)) := (b3.1 42 _ id).trans t2
        have F := fr_tr b3 c3
        rw [b1, pb_bV_some, if_pos k16, if_pos k16, e1, e2, nI_1, pn_mul, e_X7_takeThoseAbove, Nat.mul_comm p, c1, pb_bV_some]
        obtain ⟨w', d1, d2, d3⟩ := ih0 w2 (by omega) (fun k' hk' => by
          rw [F.1 40 _ id, F.1 41 _ id, F.1 42 _ id]
          exact hT k' hk') (fun s hs => by rw [c2 s hs, cws, if_neg q, t1])
        exact ⟨w', d1, d2, fr_tr F d3⟩
theorem cx_cnt {pn wo : Nat} {pr : Nat → Option Nat} {mo : Nat → Nat} (hpn : pn ≤ 2000) (hwo : wo ≤ 15) {w : pb_W} (hT : TH1 w pr mo) : ∃ w', M_X7_countWays [.ref 39, .int (nI pn), .int (nI wo)] w = some (none, w') ∧ (∀ s, s ≤ pn → w'.2 44 s = lN (cws pr mo wo 15 s)) ∧ fr fJ_no fJ_44 w w' := by
  rw [e_X7_countWays, M_fill44, pb_bV_some, c_0]
  obtain ⟨w', a1, a2, a3⟩ := cx_cnt_go (pr := pr) (mo := mo) hpn hwo 15 0 (pb_wL (pb_wG w 44 (fun j => if j < 2001 then 0 else w.2 44 j)) 44 0 1) (by omega) hT (fun s hs => by
    rw [pw_L2, if_pos rfl, pu_atL, cws]
    by_cases q : s = 0
    · rw [if_pos q, if_pos q]; rfl
    · rw [if_neg q, if_neg q, pw_G2, if_pos rfl, if_pos (by omega)]; rfl)
  exact ⟨w', a1, a2, fr_tr (fr_L (fr_G (fr_rf w) (fun k => by simp [fJ_44])) (by simp [fJ_44])) a3⟩
theorem sw_stop (a : Nat → Nat) {p s m : Nat} (h : s < (m + 1) * p) : ∀ r, sw a p (m + r) s = sw a p m s
  | 0 => rfl
  | r + 1 => by
    have : ¬ (m + r + 1) * p ≤ s := fun z => by
      have := Nat.mul_le_mul_right p (show m + 1 ≤ m + r + 1 by omega)
      omega
    show sw a p (m + r) s + (if (m + r + 1) * p ≤ s then a (s - (m + r + 1) * p) else 0) = _
    rw [if_neg this, sw_stop a h r, Nat.add_zero]
theorem mx_in {a1 : Int32} {k s p M : Nat} {a : Nat → Nat} (hk : k < 16) (hs : s ≤ 2000) (hp : 1 ≤ p) (hp2 : p ≤ 20000) (hM : M ≤ 20) : ∀ (r m : Nat) (w : pb_W), m + r = M → w.1 110 k = nI p → w.1 111 k = nI M → (∀ t, t ≤ 2000 → w.2 113 t = lN (a t)) → w.2 114 s = lN (sw a p m s) → ∃ w', pb_run T_X12_count (75, [some (.ref 64), some (.int a1), some (.int (nI k)), some (.int (nI s)), some (.int (nI (m + 1)))], [], w) = pb_run T_X12_count (58, [some (.ref 64), some (.int a1), some (.int (nI k)), some (.int (nI (s + 1))), none], [], w') ∧ w'.2 114 s = lN (sw a p M s) ∧ fr fJ_no (fun c j => c = 114 ∧ j = s) w w' := by
  have k16 : pb_in (nI k) 16 := pn_in hk (by decide)
  have kc : (nI k).toNatClampNeg = k := nI_clamp (by omega)
  have s2 : pb_in (nI s) 2001 := pn_in (by omega) (by decide)
  have sc : (nI s).toNatClampNeg = s := nI_clamp (by omega)
  intro r
  induction r with
  | zero =>
    intro m w hm h1 h2 h3 h4
    have hm : m = M := by omega
    subst hm
    refine ⟨w, ?_, h4, fr_rf w⟩
    rw [r_X12_count_75, if_pos k16, kc, h2, if_pos (show nI m < nI (m + 1) from nI_lt (by omega) (by omega)), nI_1]
  | succ r ih =>
    intro m w hm h1 h2 h3 h4
    have mp := Nat.mul_le_mul (show m + 1 ≤ 21 by omega) hp2
    rw [r_X12_count_75, if_pos k16, if_pos k16, if_pos k16, if_pos s2, if_pos s2, kc, sc, h2, h1, if_neg (show ¬ nI M < nI (m + 1) from nI_nlt (by omega) (by omega)), pn_mul, nI_1, nI_1]
    by_cases q : s < (m + 1) * p
    · rw [if_pos (show nI s < nI ((m + 1) * p) from nI_lt q (by omega))]
      refine ⟨w, rfl, ?_, fr_rf w⟩
      rw [h4, ← hm, sw_stop a q (r + 1)]
    · have d2 : pb_in (nI (s - (m + 1) * p)) 2001 := pn_in (by omega) (by decide)
      rw [if_neg (show ¬ nI s < nI ((m + 1) * p) from nI_nlt (by omega) (by omega)), nI_subN (show (m + 1) * p ≤ s by omega), if_pos d2, nI_clamp (show s - (m + 1) * p < 2 ^ 31 by omega), h3 _ (by omega), h4, lN_add]
      obtain ⟨w', b1, b2, b3⟩ := ih (m + 1) (pb_wL w 114 s (lN (sw a p m s + a (s - (m + 1) * p)))) (by omega) h1 h2 h3 (by
        rw [pw_L2, if_pos rfl, pu_atL, if_pos rfl]
        show _ = lN (sw a p m s + if (m + 1) * p ≤ s then a (s - (m + 1) * p) else 0)
        rw [if_pos (by omega)])
      exact ⟨w', b1, b2, fr_tr (fr_L (fr_rf w) ⟨rfl, rfl⟩) b3⟩
theorem mx_58 {a1 : Int32} {k p M : Nat} {a : Nat → Nat} (hk : k < 16) (hp : 1 ≤ p) (hp2 : p ≤ 20000) (hM : M ≤ 20) : ∀ (r s : Nat) (w : pb_W), s + r = 2001 → w.1 110 k = nI p → w.1 111 k = nI M → (∀ t, t ≤ 2000 → w.2 113 t = lN (a t)) → (∀ t, t < s → w.2 114 t = lN (sw a p M t)) → ∃ w', pb_run T_X12_count (58, [some (.ref 64), some (.int a1), some (.int (nI k)), some (.int (nI s)), none], [], w) = pb_run T_X12_count (138, [some (.ref 64), some (.int a1), some (.int (nI k)), some (.int (0 : Int32)), none], [], w') ∧ (∀ t, t ≤ 2000 → w'.2 114 t = lN (sw a p M t)) ∧ fr fJ_no (fun c _ => c = 114) w w' := by
  have k16 : pb_in (nI k) 16 := pn_in hk (by decide)
  have kc : (nI k).toNatClampNeg = k := nI_clamp (by omega)
  intro r
  induction r with
  | zero =>
    intro s w hs h1 h2 h3 h4
    have hs : s = 2001 := by omega
    subst hs
    refine ⟨w, ?_, fun t ht => h4 t (by omega), fr_rf w⟩
    rw [r_X12_count_58, if_pos (show (2000 : Int32) < nI 2001 by decide)]
  | succ r ih =>
    intro s w hs h1 h2 h3 h4
    have s2 : pb_in (nI s) 2001 := pn_in (by omega) (by decide)
    have sc : (nI s).toNatClampNeg = s := nI_clamp (by omega)
    rw [r_X12_count_58, if_neg (show ¬ (2000 : Int32) < nI s from nI_nlt (a := 2000) (by omega) (by decide)), if_pos s2, sc]
    have e75 : pb_run T_X12_count (75, [some (.ref 64), some (.int a1), some (.int (nI k)), some (.int (nI s)), some (.int (0 : Int32))], [], pb_wL w 114 s 0) = pb_run T_X12_count (75, [some (.ref 64), some (.int a1), some (.int (nI k)), some (.int (nI s)), some (.int (nI (0 + 1)))], [], pb_wL (pb_wL w 114 s 0) 114 s (lN (a s))) := by
      have h2' : (pb_wL w 114 s 0).1 111 k = nI M := h2
      have h1' : (pb_wL w 114 s 0).1 110 k = nI p := h1
      rw [r_X12_count_75, if_pos k16, if_pos k16, if_pos k16, if_pos s2, if_pos s2, kc, sc, h2', h1', show (0 : Int32) = nI 0 from rfl, if_neg (show ¬ nI M < nI 0 from nI_nlt (by omega) (by omega)), pn_mul, Nat.zero_mul, if_neg (show ¬ nI s < nI 0 from nI_nlt (by omega) (by omega)), nI_subN (show 0 ≤ s by omega), Nat.sub_zero, if_pos s2, sc, nI_1, show (pb_wL w 114 s (0 : Int64)).2 113 s = lN (a s) from h3 s (by omega), show (pb_wL w 114 s (0 : Int64)).2 114 s = lN 0 by rw [pw_L2, if_pos rfl, pu_atL, if_pos rfl]; rfl, lN_add, Nat.zero_add (a s)]
    rw [e75]
    obtain ⟨w1, b1, b2, b3⟩ := mx_in (a1 := a1) (s := s) (a := a) hk (by omega) hp hp2 hM M 0 (pb_wL (pb_wL w 114 s 0) 114 s (lN (a s))) (by omega) h1 h2 h3 (by rw [pw_L2, if_pos rfl, pu_atL, if_pos rfl]; rfl)
    rw [b1]
    have F : fr fJ_no (fun c _ => c = 114) w w1 := fr_tr (fr_L (fr_L (fr_rf w) rfl) rfl) (fr_mn b3 (fun c k q => q) (fun c k q => q.1))
    obtain ⟨w', c1, c2, c3⟩ := ih (s + 1) w1 (by omega) ((F.1 110 k id).trans h1) ((F.1 111 k id).trans h2) (fun t ht => (F.2 113 t (by simp)).trans (h3 t ht)) (fun t ht => by
      by_cases z : t = s
      · rw [z]; exact b2
      · rw [b3.2 114 t (fun y => z y.2), pw_L2, if_pos rfl, pu_atL, if_neg z, pw_L2, if_pos rfl, pu_atL, if_neg z]
        exact h4 t (by omega))
    exact ⟨w', c1, c2, fr_tr F c3⟩
theorem mx_138 {a1 : Int32} {k : Nat} {b : Nat → Nat} (hk : k < 16) : ∀ (r s : Nat) (w : pb_W), s + r = 2001 → (∀ t, t ≤ 2000 → w.2 114 t = lN (b t)) → (∀ t, t < s → w.2 113 t = lN (b t)) → ∃ w', pb_run T_X12_count (138, [some (.ref 64), some (.int a1), some (.int (nI k)), some (.int (nI s)), none], [], w) = pb_run T_X12_count (32, [some (.ref 64), some (.int a1), some (.int (nI (k + 1))), none, none], [], w') ∧ (∀ t, t ≤ 2000 → w'.2 113 t = lN (b t)) ∧ fr fJ_no fJ_13 w w' := by
  intro r
  induction r with
  | zero =>
    intro s w hs h1 h2
    have hs : s = 2001 := by omega
    subst hs
    refine ⟨w, ?_, fun t ht => h2 t (by omega), fr_rf w⟩
    rw [r_X12_count_138, if_pos (show (2000 : Int32) < nI 2001 by decide), nI_1]
  | succ r ih =>
    intro s w hs h1 h2
    have s2 : pb_in (nI s) 2001 := pn_in (by omega) (by decide)
    have sc : (nI s).toNatClampNeg = s := nI_clamp (by omega)
    rw [r_X12_count_138, if_neg (show ¬ (2000 : Int32) < nI s from nI_nlt (a := 2000) (by omega) (by decide)), if_pos s2, if_pos s2, sc, nI_1]
    obtain ⟨w', c1, c2, c3⟩ := ih (s + 1) (pb_wL w 113 s (w.2 114 s)) (by omega) h1 (fun t ht => by
      rw [pw_L2, if_pos rfl, pu_atL]
      by_cases z : t = s
      · rw [if_pos z, z]; exact h1 s (by omega)
      · rw [if_neg z]; exact h2 t (by omega))
    exact ⟨w', c1, c2, fr_tr (fr_L (fr_rf w) (by simp [fJ_13])) c3⟩
theorem mx_cnt_go {wo : Nat} {a1 : Int32} (hwo : ∀ k, 1 ≤ k → k ≤ 15 → (nI k = a1 ↔ k = wo)) {pr : Nat → Option Nat} {mo : Nat → Nat} : ∀ (m k : Nat) (w : pb_W), k + m = 15 → TH2 w pr mo → (∀ s, s ≤ 2000 → w.2 113 s = lN (cws pr mo wo k s)) → ∃ w', pb_run T_X12_count (32, [some (.ref 64), some (.int a1), some (.int (nI (k + 1))), none, none], [], w) = some (none, w') ∧ (∀ s, s ≤ 2000 → w'.2 113 s = lN (cws pr mo wo 15 s)) ∧ fr fJ_no fJ_13 w w' := by
  intro m
  induction m with
  | zero =>
    intro k w hk hT h
    have hk : k = 15 := by omega
    subst hk
    refine ⟨w, ?_, h, fr_rf w⟩
    rw [r_X12_count_32, if_neg (show ¬ nI (15 + 1) < (16 : Int32) by decide)]
  | succ m ih =>
    intro k w hk hT h
    have k16 : pb_in (nI (k + 1)) 16 := pn_in (by omega) (by decide)
    have kc : (nI (k + 1)).toNatClampNeg = k + 1 := nI_clamp (by omega)
    have ih0 := ih (k + 1)
    obtain ⟨t1, t2, t3⟩ := hT (k + 1) (by omega)
    rw [r_X12_count_32, if_pos (show nI (k + 1) < (16 : Int32) from nI_lt (b := 16) (by omega) (by decide)), if_pos k16, kc, nI_1]
    rcases t1 with ⟨t1, t4⟩ | ⟨p, t1, p1, p2, t4⟩
    · rw [if_pos t4]
      refine ih0 w (by omega) hT (fun s hs => ?_)
      rw [h s hs, cws, t1]
      by_cases q : k + 1 = wo
      · rw [if_pos q]
      · rw [if_neg q]
    · rw [if_neg (show ¬ w.1 110 (k + 1) = -1 by rw [t4]; exact pn_m1 p (by omega))]
      by_cases q : k + 1 = wo
      · rw [if_pos ((hwo (k + 1) (by omega) (by omega)).mpr q)]
        exact ih0 w (by omega) hT (fun s hs => by rw [h s hs, cws, if_pos q])
      · rw [if_neg (fun z => q ((hwo (k + 1) (by omega) (by omega)).mp z))]
        obtain ⟨w1, b1, b2, b3⟩ := mx_58 (a1 := a1) (k := k + 1) (p := p) (M := mo (k + 1)) (a := cws pr mo wo k) (by omega) p1 p2 t3 2001 0 w (by omega) t4 t2 h (fun t ht => absurd ht (Nat.not_lt_zero t))
        obtain ⟨w2, c1, c2, c3⟩ := mx_138 (a1 := a1) (k := k + 1) (by omega) 2001 0 w1 (by omega) b2 (fun t ht => absurd ht (Nat.not_lt_zero t))
        have F : fr fJ_no fJ_13 w w2 := fr_tr (fr_mn b3 (fun c k q => q) (fun c k q => Or.inr q)) c3
        obtain ⟨w', d1, d2, d3⟩ := ih0 w2 (by omega) (fun k' hk' => by
          rw [F.1 110 _ id, F.1 111 _ id]
          exact hT k' hk') (fun s hs => by rw [c2 s hs, cws, if_neg q, t1])
        refine ⟨w', ?_, d2, fr_tr F d3⟩
        exact b1.trans (c1.trans d1)
theorem mx_cnt0 {a1 : Int32} : ∀ (r s : Nat) (w : pb_W), s + r = 2001 → (∀ t, t < s → w.2 113 t = lN (if t = 0 then 1 else 0)) → ∃ w', pb_run T_X12_count (2, [some (.ref 64), some (.int a1), some (.int (nI s)), none, none], [], w) = pb_run T_X12_count (32, [some (.ref 64), some (.int a1), some (.int (nI (0 + 1))), none, none], [], w') ∧ (∀ t, t ≤ 2000 → w'.2 113 t = lN (if t = 0 then 1 else 0)) ∧ fr fJ_no fJ_13 w w' := by
  intro r
  induction r with
  | zero =>
    intro s w hs h
    have hs : s = 2001 := by omega
    subst hs
    refine ⟨w, ?_, fun t ht => h t (by omega), fr_rf w⟩
    rw [r_X12_count_2, if_pos (show (2000 : Int32) < nI 2001 by decide)]
    rfl
  | succ r ih =>
    intro s w hs h
    have s2 : pb_in (nI s) 2001 := pn_in (by omega) (by decide)
    have sc : (nI s).toNatClampNeg = s := nI_clamp (by omega)
    have st : ∀ v : Int64, v = lN (if s = 0 then 1 else 0) → ∃ w', pb_run T_X12_count (2, [some (.ref 64), some (.int a1), some (.int (nI (s + 1))), none, none], [], pb_wL w 113 s v) = pb_run T_X12_count (32, [some (.ref 64), some (.int a1), some (.int (nI (0 + 1))), none, none], [], w') ∧ (∀ t, t ≤ 2000 → w'.2 113 t = lN (if t = 0 then 1 else 0)) ∧ fr fJ_no fJ_13 w w' := by
      intro v hv
      obtain ⟨w', c1, c2, c3⟩ := ih (s + 1) (pb_wL w 113 s v) (by omega) (fun t ht => by
        rw [pw_L2, if_pos rfl, pu_atL]
        by_cases z : t = s
        · rw [if_pos z, z, hv]
        · rw [if_neg z]; exact h t (by omega))
      exact ⟨w', c1, c2, fr_tr (fr_L (fr_rf w) (by simp [fJ_13])) c3⟩
    rw [r_X12_count_2, if_neg (show ¬ (2000 : Int32) < nI s from nI_nlt (a := 2000) (by omega) (by decide)), if_pos s2, if_pos s2, sc, nI_1]
    by_cases q : s = 0
    · rw [if_pos (show nI s = (0 : Int32) by rw [q]; rfl)]
      exact st 1 (by rw [if_pos q]; rfl)
    · rw [if_neg (show ¬ nI s = (0 : Int32) from fun z => q ((nI_eq (b := 0) (by omega) (by decide)).mp z))]
      exact st 0 (by rw [if_neg q]; rfl)
theorem mx_cnt {wo : Nat} {a1 : Int32} (hwo : ∀ k, 1 ≤ k → k ≤ 15 → (nI k = a1 ↔ k = wo)) {pr : Nat → Option Nat} {mo : Nat → Nat} {w : pb_W} (hT : TH2 w pr mo) : ∃ w', M_X12_count [.ref 64, .int a1] w = some (none, w') ∧ (∀ s, s ≤ 2000 → w'.2 113 s = lN (cws pr mo wo 15 s)) ∧ fr fJ_no fJ_13 w w' := by
  rw [e_X12_count]
  obtain ⟨w1, b1, b2, b3⟩ := mx_cnt0 (a1 := a1) 2001 0 w (by omega) (fun t ht => absurd ht (Nat.not_lt_zero t))
  obtain ⟨w', c1, c2, c3⟩ := mx_cnt_go hwo 15 0 w1 (by omega) (fun k hk => by
    rw [b3.1 110 _ id, b3.1 111 _ id]
    exact hT k hk) (fun s hs => by rw [b2 s hs]; rfl)
  exact ⟨w', b1.trans c1, c2, fr_tr b3 c3⟩
