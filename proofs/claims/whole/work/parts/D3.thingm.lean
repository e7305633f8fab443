/-! ===== WAYS: things, the reference ===== -/
def RM (w : pb_W) (Es : List (List Rl)) (E n l : Nat) (P M U A N : Nat → Int32) (s : TSt) : Prop := ∀ k, k < 16 → ((s.1 k = none ∧ P k = -1) ∨ ∃ j, s.1 k = some j ∧ j < n ∧ P k = nI (prN w Es E j) ∧ A k = nI (dsN w l j) ∧ N k = nI (wkN w j)) ∧ M k = nI (s.2.2 k) ∧ ∀ x, x < 520 → U (520 * k + x) = nI (s.2.1 k x)
theorem RM_step {w : pb_W} {Es : List (List Rl)} {E n l i : Nat} {P M U A N P' A' N' : Nat → Int32} {s : TSt} (h : RM w Es E n l P M U A N s) (hi : i < n) (hw : wkN w i < 520) (hA : (P' = upd P (kdN w Es E i) (nI (prN w Es E i)) ∧ A' = upd A (kdN w Es E i) (nI (dsN w l i)) ∧ N' = upd N (kdN w Es E i) (nI (wkN w i)) ∧ nlT w l i (s.1 (kdN w Es E i)) = some i) ∨ (P' = P ∧ A' = A ∧ N' = N ∧ nlT w l i (s.1 (kdN w Es E i)) = s.1 (kdN w Es E i))) : RM w Es E n l P' (upd M (kdN w Es E i) (nI (min 20 (max (s.2.2 (kdN w Es E i)) (s.2.1 (kdN w Es E i) (wkN w i) + unN w Es E i))))) (upd U (520 * kdN w Es E i + wkN w i) (nI (s.2.1 (kdN w Es E i) (wkN w i) + unN w Es E i))) A' N' (stT w Es E l i s) := by
  intro k hk
  obtain ⟨g1, g2, g3⟩ := h k hk
  unfold stT
  refine ⟨?_, ?_, fun x hx => ?_⟩
  · by_cases q : k = kdN w Es E i
    · rcases hA with ⟨a1, a2, a3, a4⟩ | ⟨a1, a2, a3, a4⟩
      · refine Or.inr ⟨i, ?_, hi, ?_, ?_, ?_⟩
        · simp only [if_pos q]
          rw [q]; exact a4
        · rw [a1, pu_at, if_pos q]
        · rw [a2, pu_at, if_pos q]
        · rw [a3, pu_at, if_pos q]
      · simp only [if_pos q]
        rw [q, a4, a1, a2, a3, ← q]
        exact g1
    · have e1 : P' k = P k ∧ A' k = A k ∧ N' k = N k := by
        rcases hA with ⟨a1, a2, a3, a4⟩ | ⟨a1, a2, a3, a4⟩
        · rw [a1, a2, a3, pu_at, pu_at, pu_at, if_neg q, if_neg q, if_neg q]
          exact ⟨rfl, rfl, rfl⟩
        · rw [a1, a2, a3]
          exact ⟨rfl, rfl, rfl⟩
      simp only [if_neg q]
      rw [e1.1, e1.2.1, e1.2.2]
      exact g1
  · rw [pu_at]
    by_cases q : k = kdN w Es E i
    · simp only [if_pos q]
      rw [q]
    · simp only [if_neg q]
      exact g2
  · rw [pu_at]
    by_cases q : k = kdN w Es E i ∧ x = wkN w i
    · simp only [if_pos q]
      rw [if_pos (by rw [q.1, q.2]), q.1, q.2]
    · simp only [if_neg q]
      rw [if_neg (fun z => q (by omega))]
      exact g3 x hx
abbrev fI_t : Nat → Nat → Prop := fun c k => (c = 64 ∧ 61 ≤ k ∧ k ≤ 63) ∨ c = 110 ∨ c = 111 ∨ c = 112 ∨ c = 115 ∨ c = 116
theorem t_SB {w v : pb_W} (h : fr fI_t fJ_so w v) : SB w v := SB_of h (fun c k q z => by simp only [fI_t] at q; simp only [nI_BS] at z; omega) (fun c k q z => by simp only [fJ_so] at q; simp only [nJ_BS] at z; omega)
theorem so_t {w v : pb_W} (h : fr fI_so fJ_so w v) : fr fI_t fJ_so w v := fr_mn h (fun c k q => Or.inl q) (fun c k q => q)
theorem mx_254 {u x : pb_W} {n E i : Nat} {Es : List (List Rl)} (hB : BS u n Es) (hE : E < Es.length) (S : SB u x) (hi : i < n) (hun : x.1 64 63 = nI (unN u Es E i)) {s : TSt} (hM : x.1 111 (kdN u Es E i) = nI (s.2.2 (kdN u Es E i))) (hU : x.1 112 (520 * kdN u Es E i + wkN u i) = nI (s.2.1 (kdN u Es E i) (wkN u i))) (hs20 : ∀ k, s.2.2 k ≤ 20) (hsu : ∀ k x, s.2.1 k x ≤ 1000 * 200) (a1 a2 a3 : Int32) : pb_run T_X12_things (254, [some (.ref 64), some (.int a1), some (.int a2), some (.int a3), some (.ref 115), some (.ref 116), some (.int (nI i)), none, some (.int (nI (kdN u Es E i))), none], [], x) = pb_run T_X12_things (79, [some (.ref 64), some (.int a1), some (.int a2), some (.int a3), some (.ref 115), some (.ref 116), some (.int (nI (i + 1))), none, none, none], [], pb_wI (pb_wI x 112 (520 * kdN u Es E i + wkN u i) (nI (s.2.1 (kdN u Es E i) (wkN u i) + unN u Es E i))) 111 (kdN u Es E i) (nI (min 20 (max (s.2.2 (kdN u Es E i)) (s.2.1 (kdN u Es E i) (wkN u i) + unN u Es E i))))) := by
  have n2 := hB.2.1.le
  have hx := SB_B S hB
  obtain ⟨k1, k2⟩ := kd_in hB hE i
  obtain ⟨u1, u2, u3⟩ := un_in hB hE i
  obtain ⟨w1, w2⟩ := hB.2.1.wk i hi
  have i2 : pb_in (nI i) 200 := pn_in (by omega) (by decide)
  have ic : (nI i).toNatClampNeg = i := nI_clamp (by omega)
  have k16 : pb_in (nI (kdN u Es E i)) 16 := pn_in (by omega) (by decide)
  have kc : (nI (kdN u Es E i)).toNatClampNeg = kdN u Es E i := nI_clamp (by omega)
  have s20 := hs20 (kdN u Es E i)
  have su := hsu (kdN u Es E i) (wkN u i)
  have ix : (520 : Int32) * nI (kdN u Es E i) + x.1 71 i = nI (520 * kdN u Es E i + wkN u i) := by
    rw [hx.2.1.g71, (SB_S S).s9, w1, show (520 : Int32) = nI 520 from rfl, pn_mul, nI_add]
  have ixi : pb_in (nI (520 * kdN u Es E i + wkN u i)) 8320 := pn_in (by omega) (by decide)
  have ixc : (nI (520 * kdN u Es E i + wkN u i)).toNatClampNeg = 520 * kdN u Es E i + wkN u i := nI_clamp (by omega)
  generalize hK : kdN u Es E i = K at *
  generalize hX : 520 * K + wkN u i = X at *
  generalize hV : s.2.1 K (wkN u i) + unN u Es E i = V at *
  have eC : pb_min (20 : Int32) (pb_max (x.1 111 K) ((pb_wI x 112 X (nI V)).1 112 X)) = nI (min 20 (max (s.2.2 K) V)) := by
    rw [pw_I1, if_pos rfl, pu_at, if_pos rfl, hM, pn_max (by omega) (by omega), show (20 : Int32) = nI 20 from rfl, pn_min (by decide) (by omega)]
  rw [r_X12_things_254, ic, ix]
  simp only [if_pos i2, if_pos ixi, if_pos k16, kc, ixc]
  rw [hU, hun, nI_add, hV, eC, nI_1]
theorem mx_th_go {u : pb_W} {n E l nr : Nat} {Es : List (List Rl)} (hB : BS u n Es) (hE : E < Es.length) (hl : l < n) (hnr : nr ≤ 60) (h76 : u.1 64 76 = nI nr) : ∀ m i v, i + m = n → SB u v → RM u Es E n l (v.1 110) (v.1 111) (v.1 112) (v.1 115) (v.1 116) (ths u Es E l nr i) → ∃ v', pb_run T_X12_things (79, [some (.ref 64), some (.int (nI l)), some (.int (nI E)), some (.int (nI (wkN u l))), some (.ref 115), some (.ref 116), some (.int (nI i)), none, none, none], [], v) = some (none, v') ∧ fr fI_t fJ_so v v' ∧ RM u Es E n l (v'.1 110) (v'.1 111) (v'.1 112) (v'.1 115) (v'.1 116) (ths u Es E l nr n) := by
  have n2 := hB.2.1.le
  have e5 := BS_5 hB
  have l2 : pb_in (nI l) 200 := pn_in (by omega) (by decide)
  have lc : (nI l).toNatClampNeg = l := nI_clamp (by omega)
  obtain ⟨w3, w4⟩ := hB.2.1.wk l hl
  intro m
  induction m with
  | zero =>
    intro i v hi S R
    have hi : i = n := by omega
    subst hi
    refine ⟨v, ?_, fr_rf v, R⟩
    rw [r_X12_things_79, (SB_N S hB.2.1).n7, if_neg (show ¬ nI i < nI i from nI_nlt (Nat.le_refl _) (by omega))]
  | succ m ih =>
    intro i v hi S R
    have hv := SB_B S hB
    have i2 : pb_in (nI i) 200 := pn_in (by omega) (by decide)
    have ic : (nI i).toNatClampNeg = i := nI_clamp (by omega)
    obtain ⟨d1, d2⟩ := ds_abs hB.2.1 hl (show i < n by omega)
    rw [w3] at d1
    obtain ⟨w1, w2⟩ := hB.2.1.wk i (by omega)
    have ih0 := ih (i + 1)
    rw [ths] at ih0
    have skip : ¬ thP u Es E l nr i → ∀ v1, fr fI_so fJ_so v v1 → ∃ v', pb_run T_X12_things (79, [some (.ref 64), some (.int (nI l)), some (.int (nI E)), some (.int (nI (wkN u l))), some (.ref 115), some (.ref 116), some (.int (nI (i + 1))), none, none, none], [], v1) = some (none, v') ∧ fr fI_t fJ_so v v' ∧ RM u Es E n l (v'.1 110) (v'.1 111) (v'.1 112) (v'.1 115) (v'.1 116) (ths u Es E l nr n) := by
      intro z v1 F1
      rw [if_neg z] at ih0
      obtain ⟨v', c1, c2, c3⟩ := ih0 v1 (by omega) (SB_tr S (so_SB F1)) (by
        rw [fr_1 F1 110 (fun k => by simp [fI_so]), fr_1 F1 111 (fun k => by simp [fI_so]), fr_1 F1 112 (fun k => by simp [fI_so]), fr_1 F1 115 (fun k => by simp [fI_so]), fr_1 F1 116 (fun k => by simp [fI_so])]
        exact R)
      exact ⟨v', c1, fr_tr (so_t F1) c2, c3⟩
    rw [r_X12_things_79, hv.2.1.n7, if_pos (show nI i < nI n from nI_lt (by omega) (by omega)), if_pos i2, if_pos l2, ic, lc, hv.2.1.g70, (SB_S S).s8, M_went hv.1 (show i < 200 by omega), pb_bI_some, hv.2.1.g71, (SB_S S).s9, d1, S.1 64 76 (by simp [nI_BS]), h76, nI_1]
    simp only [wf_sv (SB_S S)]
    by_cases qf : wf u i (u.1 8 l)
    · rw [if_pos qf, if_neg (show ¬ (1 : Int32) = 0 by decide)]
      by_cases q0 : dsN u l i = 0
      · rw [if_pos (show nI (dsN u l i) = (0 : Int32) by rw [q0]; rfl)]
        exact skip (fun z => by have := z.2.1.1; omega) v (fr_rf v)
      · rw [if_neg (show ¬ nI (dsN u l i) = (0 : Int32) from fun z => q0 ((nI_eq (b := 0) (by omega) (by decide)).mp z)), ite_lt (by omega) (by omega)]
        by_cases q1 : nr < dsN u l i
        · rw [if_pos q1]
          exact skip (fun z => by have := z.2.1.2; omega) v (fr_rf v)
        · rw [if_neg q1]
          obtain ⟨v3, a1, a2, a3, a4, a5⟩ := mx_sort hv (show i < n by omega) hE
          rw [SB_vv S] at a2 a3 a4
          obtain ⟨k1, k2⟩ := kd_in hB hE i
          obtain ⟨u1, u2, u3⟩ := un_in hB hE i
          obtain ⟨p1, p2, p3⟩ := hB.2.1.pc i (by omega)
          rw [k1] at a3
          rw [u1] at a4
          rw [a1, pb_bV_some, a3]
          by_cases qk : kdN u Es E i = 0
          · rw [if_pos (show nI (kdN u Es E i) = (0 : Int32) by rw [qk]; rfl)]
            exact skip (fun z => by have := z.2.2; omega) v3 a5
          · have S3 := SB_tr S (so_SB a5)
            have hv3 := SB_B S3 hB
            have tp : thP u Es E l nr i := ⟨qf, ⟨by omega, by omega⟩, by omega⟩
            rw [if_pos tp] at ih0
            have k16 : pb_in (nI (kdN u Es E i)) 16 := pn_in (by omega) (by decide)
            have kc : (nI (kdN u Es E i)).toNatClampNeg = kdN u Es E i := nI_clamp (by omega)
            have R3 : RM u Es E n l (v3.1 110) (v3.1 111) (v3.1 112) (v3.1 115) (v3.1 116) (ths u Es E l nr i) := by
              rw [fr_1 a5 110 (fun k => by simp [fI_so]), fr_1 a5 111 (fun k => by simp [fI_so]), fr_1 a5 112 (fun k => by simp [fI_so]), fr_1 a5 115 (fun k => by simp [fI_so]), fr_1 a5 116 (fun k => by simp [fI_so])]
              exact R
            obtain ⟨g1, g2, g3⟩ := R3 (kdN u Es E i) (by omega)
            have s20 := ths_20 u Es E l nr i
            have su : ∀ k x, (ths u Es E l nr i).2.1 k x ≤ 1000 * 200 := fun k x => by have := ths_u hB hE l nr i k x; omega
            have keep : nlT u l i ((ths u Es E l nr i).1 (kdN u Es E i)) = (ths u Es E l nr i).1 (kdN u Es E i) → ∃ v', pb_run T_X12_things (206, [some (.ref 64), some (.int (nI l)), some (.int (nI E)), some (.int (nI (wkN u l))), some (.ref 115), some (.ref 116), some (.int (nI i)), some (.int (nI (dsN u l i))), some (.int (nI (kdN u Es E i))), none], [.int (0 : Int32)], v3) = some (none, v') ∧ fr fI_t fJ_so v v' ∧ RM u Es E n l (v'.1 110) (v'.1 111) (v'.1 112) (v'.1 115) (v'.1 116) (ths u Es E l nr n) := by
              intro hk
              rw [r_X12_things_206, if_pos rfl, mx_254 hB hE S3 (show i < n by omega) a4 g2 (g3 _ w2) s20 su]
              have F4 : fr fI_t fJ_so v (pb_wI (pb_wI v3 112 (520 * kdN u Es E i + wkN u i) (nI ((ths u Es E l nr i).2.1 (kdN u Es E i) (wkN u i) + unN u Es E i))) 111 (kdN u Es E i) (nI (min 20 (max ((ths u Es E l nr i).2.2 (kdN u Es E i)) ((ths u Es E l nr i).2.1 (kdN u Es E i) (wkN u i) + unN u Es E i))))) := fr_I (fr_I (so_t a5) (by simp [fI_t])) (by simp [fI_t])
              obtain ⟨v', c1, c2, c3⟩ := ih0 _ (by omega) (SB_tr S (t_SB F4)) (RM_step R3 (show i < n by omega) w2 (Or.inr ⟨rfl, rfl, rfl, hk⟩))
              exact ⟨v', c1, fr_tr F4 c2, c3⟩
            have take : nlT u l i ((ths u Es E l nr i).1 (kdN u Es E i)) = some i → ∃ v', pb_run T_X12_things (206, [some (.ref 64), some (.int (nI l)), some (.int (nI E)), some (.int (nI (wkN u l))), some (.ref 115), some (.ref 116), some (.int (nI i)), some (.int (nI (dsN u l i))), some (.int (nI (kdN u Es E i))), none], [.int (1 : Int32)], v3) = some (none, v') ∧ fr fI_t fJ_so v v' ∧ RM u Es E n l (v'.1 110) (v'.1 111) (v'.1 112) (v'.1 115) (v'.1 116) (ths u Es E l nr n) := by
              intro hk
              have dl := Nat.div_le_self (pcN u i) (unN u Es E i)
              have ep : pb_max (1 : Int32) (nI (pcN u i) / nI (unN u Es E i)) = nI (prN u Es E i) := by
                rw [pk_div (by omega) (by omega) (by omega), show (1 : Int32) = nI 1 from rfl, pn_max (by decide) (by omega)]
                rfl
              have F5 : fr fI_t fJ_so v (pb_wI (pb_wI (pb_wI v3 110 (kdN u Es E i) (nI (prN u Es E i))) 115 (kdN u Es E i) (nI (dsN u l i))) 116 (kdN u Es E i) (nI (wkN u i))) := fr_I (fr_I (fr_I (so_t a5) (by simp [fI_t])) (by simp [fI_t])) (by simp [fI_t])
              have S5 := SB_tr S (t_SB F5)
              rw [r_X12_things_206, if_neg (show ¬ (1 : Int32) = 0 by decide), M_pence12 hv3 (show i < n by omega), pb_bI_some, a4, if_neg (show ¬ nI (unN u Es E i) = (0 : Int32) from fun z => by have := (nI_eq (b := 0) (by omega) (by decide)).mp z; omega), if_pos k16, if_pos k16, if_pos i2, if_pos k16, kc, ic, (SB_S S3).s16, p1, ep, hv3.2.1.g71, (SB_S S3).s9, w1, mx_254 hB hE S5 (show i < n by omega) a4 g2 (g3 _ w2) s20 su]
              have F4 := fr_I (c := 111) (k := kdN u Es E i) (v := nI (min 20 (max ((ths u Es E l nr i).2.2 (kdN u Es E i)) ((ths u Es E l nr i).2.1 (kdN u Es E i) (wkN u i) + unN u Es E i)))) (fr_I (c := 112) (k := 520 * kdN u Es E i + wkN u i) (v := nI ((ths u Es E l nr i).2.1 (kdN u Es E i) (wkN u i) + unN u Es E i)) F5 (by simp [fI_t])) (by simp [fI_t])
              obtain ⟨v', c1, c2, c3⟩ := ih0 _ (by omega) (SB_tr S (t_SB F4)) (RM_step R3 (show i < n by omega) w2 (Or.inl ⟨rfl, rfl, rfl, hk⟩))
              exact ⟨v', c1, fr_tr F4 c2, c3⟩
            rw [if_neg (show ¬ nI (kdN u Es E i) = (0 : Int32) from fun z => qk ((nI_eq (b := 0) (by omega) (by decide)).mp z))]
            simp only [if_pos k16, kc, if_pos i2]
            rcases g1 with ⟨g1, g4⟩ | ⟨j, g1, g4, g5, g6, g7⟩
            · rw [if_pos g4]
              exact take (by rw [g1]; rfl)
            · have pj : prN u Es E j < 2 ^ 31 := by
                obtain ⟨q1, q2, q3⟩ := hB.2.1.pc j g4
                have := Nat.div_le_self (pcN u j) (unN u Es E j)
                unfold prN
                omega
              obtain ⟨e1, e2⟩ := ds_abs hB.2.1 hl g4
              obtain ⟨y1, y2⟩ := hB.2.1.wk j g4
              rw [if_neg (show ¬ v3.1 110 (kdN u Es E i) = -1 by rw [g5]; exact pn_m1 _ pj), g6, g7, hv3.2.1.g71, (SB_S S3).s9, w1, ite_lt (by omega) (by omega), ite_lt (by omega) (by omega)]
              have eq : nI (dsN u l i) = nI (dsN u l j) ↔ dsN u l i = dsN u l j := nI_eq (by omega) (by omega)
              by_cases z1 : dsN u l i < dsN u l j
              · rw [if_pos z1]
                exact take (by rw [g1]; exact if_pos (Or.inl z1))
              · rw [if_neg z1]
                by_cases z2 : dsN u l i = dsN u l j
                · rw [if_pos (eq.mpr z2)]
                  by_cases z3 : wkN u i < wkN u j
                  · rw [if_pos z3]
                    exact take (by rw [g1]; exact if_pos (Or.inr ⟨z2, z3⟩))
                  · rw [if_neg z3]
                    exact keep (by rw [g1]; exact if_neg (fun y => y.elim z1 (fun y => z3 y.2)))
                · rw [if_neg (fun y => z2 (eq.mp y))]
                  exact keep (by rw [g1]; exact if_neg (fun y => y.elim z1 (fun y => z2 y.1)))
    · rw [if_neg qf, if_pos rfl]
      exact skip (fun z => qf z.1) v (fr_rf v)
theorem mx_t10 {a1 a2 a3 : Int32} : ∀ (r k : Nat) (w : pb_W), k + r = 16 → (∀ j, j < k → w.1 110 j = -1 ∧ w.1 111 j = 0) → ∃ w', pb_run T_X12_things (10, [some (.ref 64), some (.int a1), some (.int a2), some (.int a3), some (.int (nI k)), none, none, none, none, none], [], w) = pb_run T_X12_things (42, [some (.ref 64), some (.int a1), some (.int a2), some (.int a3), some (.int (nI 0)), none, none, none, none, none], [], w') ∧ (∀ j, j < 16 → w'.1 110 j = -1 ∧ w'.1 111 j = 0) ∧ fr fI_t fJ_so w w' := by
  intro r
  induction r with
  | zero =>
    intro k w hk h
    have hk : k = 16 := by omega
    subst hk
    refine ⟨w, ?_, h, fr_rf w⟩
    rw [r_X12_things_10, if_neg (show ¬ nI 16 < (16 : Int32) by decide)]
    rfl
  | succ r ih =>
    intro k w hk h
    have k2 : pb_in (nI k) 16 := pn_in (by omega) (by decide)
    rw [r_X12_things_10, if_pos (show nI k < (16 : Int32) from nI_lt (b := 16) (by omega) (by decide)), if_pos k2, if_pos k2, nI_clamp (by omega), nI_1]
    obtain ⟨w', c1, c2, c3⟩ := ih (k + 1) (pb_wI (pb_wI w 110 k (-1)) 111 k 0) (by omega) (fun j hj => by
      show upd (w.1 110) k (-1) j = -1 ∧ upd (w.1 111) k 0 j = 0
      rw [pu_at, pu_at]
      by_cases z : j = k
      · rw [if_pos z, if_pos z]; exact ⟨rfl, rfl⟩
      · rw [if_neg z, if_neg z]; exact h j (by omega))
    exact ⟨w', c1, c2, fr_tr (fr_I (fr_I (fr_rf w) (by simp [fI_t])) (by simp [fI_t])) c3⟩
theorem mx_t42 {a1 a2 a3 : Int32} : ∀ (r k : Nat) (w : pb_W), k + r = 8320 → (∀ j, j < k → w.1 112 j = 0) → ∃ w', pb_run T_X12_things (42, [some (.ref 64), some (.int a1), some (.int a2), some (.int a3), some (.int (nI k)), none, none, none, none, none], [], w) = pb_run T_X12_things (79, [some (.ref 64), some (.int a1), some (.int a2), some (.int a3), some (.ref 115), some (.ref 116), some (.int (nI 0)), none, none, none], [], w') ∧ (∀ j, j < 8320 → w'.1 112 j = 0) ∧ fr (fun c _ => c = 112) fJ_no w w' := by
  intro r
  induction r with
  | zero =>
    intro k w hk h
    have hk : k = 8320 := by omega
    subst hk
    refine ⟨w, ?_, h, fr_rf w⟩
    rw [r_X12_things_42, if_neg (show ¬ nI 8320 < (8320 : Int32) by decide)]
    rfl
  | succ r ih =>
    intro k w hk h
    have k2 : pb_in (nI k) 8320 := pn_in (by omega) (by decide)
    rw [r_X12_things_42, if_pos (show nI k < (8320 : Int32) from nI_lt (b := 8320) (by omega) (by decide)), if_pos k2, nI_clamp (by omega), nI_1]
    obtain ⟨w', c1, c2, c3⟩ := ih (k + 1) (pb_wI w 112 k 0) (by omega) (fun j hj => by
      show upd (w.1 112) k 0 j = 0
      rw [pu_at]
      by_cases z : j = k
      · rw [if_pos z]
      · rw [if_neg z]; exact h j (by omega))
    exact ⟨w', c1, c2, fr_tr (fr_I (fr_rf w) rfl) c3⟩
theorem mx_th {u v : pb_W} {n E l nr : Nat} {Es : List (List Rl)} (hB : BS u n Es) (hE : E < Es.length) (hl : l < n) (hnr : nr ≤ 60) (h76 : u.1 64 76 = nI nr) (S : SB u v) : ∃ v', M_X12_things [.ref 64, .int (nI l), .int (nI E)] v = some (none, v') ∧ fr fI_t fJ_so v v' ∧ RM u Es E n l (v'.1 110) (v'.1 111) (v'.1 112) (v'.1 115) (v'.1 116) (ths u Es E l nr n) := by
  have n2 := hB.2.1.le
  have hv := SB_B S hB
  rw [e_X12_things, if_pos (pn_in (show l < 200 by omega) (by decide)), nI_clamp (by omega), hv.2.1.g71, (SB_S S).s9, (hB.2.1.wk l hl).1]
  obtain ⟨v1, b1, b2, b3⟩ := mx_t10 (a1 := nI l) (a2 := nI E) (a3 := nI (wkN u l)) 16 0 v (by omega) (fun j hj => absurd hj (Nat.not_lt_zero j))
  obtain ⟨v2, c1, c2, c3⟩ := mx_t42 (a1 := nI l) (a2 := nI E) (a3 := nI (wkN u l)) 8320 0 v1 (by omega) (fun j hj => absurd hj (Nat.not_lt_zero j))
  have c3' : fr fI_t fJ_so v1 v2 := fr_mn c3 (fun c k q => by simp only [fI_t]; omega) (fun c k q => q.elim)
  have F := fr_tr b3 c3'
  obtain ⟨v', d1, d2, d3⟩ := mx_th_go hB hE hl hnr h76 n 0 v2 (by omega) (SB_tr S (t_SB F)) (fun k hk => by
    refine ⟨Or.inl ⟨rfl, ?_⟩, ?_, fun x hx => ?_⟩
    · rw [c3.1 110 k (by simp)]; exact (b2 k hk).1
    · rw [c3.1 111 k (by simp)]; exact (b2 k hk).2
    · exact c2 _ (by omega))
  exact ⟨v', b1.trans (c1.trans d1), fr_tr F d2, d3⟩
