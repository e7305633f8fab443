/-! ===== SPAN ===== -/
def fwS (f : Nat → Nat) : Nat → Int32
  | 0 => -1
  | m + 1 => if f m = 0 then fwS f m else if fwS f m = -1 then nI m else fwS f m
def lwS (f : Nat → Nat) : Nat → Int32
  | 0 => -1
  | m + 1 => if f m = 0 then lwS f m else nI m
theorem fl_iff (f : Nat → Nat) : ∀ m, m ≤ 1000 → (fwS f m = -1 ↔ lwS f m = -1)
  | 0, _ => ⟨fun _ => rfl, fun _ => rfl⟩
  | m + 1, h => by
    have ih := fl_iff f m (by omega)
    have nm := pn_m1 m (by omega)
    rw [fwS, lwS]
    by_cases q : f m = 0
    · rw [if_pos q, if_pos q]
      exact ih
    · rw [if_neg q, if_neg q]
      by_cases p : fwS f m = -1
      · rw [if_pos p]
      · rw [if_neg p]
        exact ⟨fun z => absurd z p, fun z => absurd z nm⟩
/-- where the loop ends -/
def enS (pn p : Nat) : Nat → Nat → Nat
  | 0, m => m
  | r + 1, m => if pn < m * p then m else enS pn p r (m + 1)
theorem enS_le (pn p : Nat) : ∀ r m, enS pn p r m ≤ m + r
  | 0, m => Nat.le_refl m
  | r + 1, m => by
    rw [enS]
    split
    · omega
    · have := enS_le pn p r (m + 1)
      omega
abbrev fI_39 : Nat → Nat → Prop := fun c k => c = 39 ∧ (k = 8 ∨ k = 9)
theorem cx_span {K p M pn : Nat} {f : Nat → Nat} (hK : K < 16) (hp : 1 ≤ p) (hp2 : p ≤ 20000) (hM : M ≤ 20) (hpn : pn ≤ 2000) : ∀ (r m : Nat) (v : pb_W), m + r = M + 1 → v.1 42 K = nI M → v.1 41 K = nI p → (∀ m, m * p ≤ pn → (v.2 44 (pn - m * p) = 0 ↔ f m = 0)) → v.1 39 8 = fwS f m → (lwS f m ≠ -1 → v.1 39 9 = lwS f m) → ∃ v', pb_run T_X7_findSpan (44, [some (.ref 39), none, none, some (.int (nI K)), some (.int (iI ((pn : Int) - (m * p : Nat)))), some (.int (nI m))], [], v) = some (some (.int (if fwS f (enS pn p r m) = -1 then 0 else 1)), v') ∧ v'.1 39 8 = fwS f (enS pn p r m) ∧ (lwS f (enS pn p r m) ≠ -1 → v'.1 39 9 = lwS f (enS pn p r m)) ∧ fr fI_39 fJ_no v v' := by
  have k16 : pb_in (nI K) 16 := pn_in hK (by decide)
  have kc : (nI K).toNatClampNeg = K := nI_clamp (by omega)
  have fin : ∀ (m : Nat) (v : pb_W), v.1 39 8 = fwS f m → (if v.1 39 8 = (-1 : Int32) then some (some (Value.int (0 : Int32)), v) else some (some (.int (1 : Int32)), v)) = some (some (.int (if fwS f m = -1 then 0 else 1)), v) := by
    intro m v h
    rw [h]
    by_cases q : fwS f m = -1
    · rw [if_pos q, if_pos q]
    · rw [if_neg q, if_neg q]
  intro r
  induction r with
  | zero =>
    intro m v hm h42 h41 h44 h8 h9
    refine ⟨v, ?_, h8, h9, fr_rf v⟩
    rw [r_X7_findSpan_44, if_pos k16, kc, h42, if_pos (show nI M < nI m from nI_lt (by omega) (by omega)), fin m v h8]
    rfl
  | succ r ih =>
    intro m v hm h42 h41 h44 h8 h9
    have mp := Nat.mul_le_mul (show m ≤ 21 by omega) hp2
    have sm : (m + 1) * p = m * p + p := Nat.succ_mul m p
    rw [r_X7_findSpan_44, if_pos k16, if_pos k16, kc, h42, if_neg (show ¬ nI M < nI m from nI_nlt (by omega) (by omega)), enS]
    have lt : iI ((pn : Int) - (m * p : Nat)) < 0 ↔ pn < m * p := by
      rw [pn_lt, iI_toInt (by omega) (by omega), show (0 : Int32).toInt = 0 from rfl]
      omega
    by_cases q : pn < m * p
    · rw [if_pos (lt.mpr q), if_pos q, fin m v h8]
      exact ⟨v, rfl, h8, h9, fr_rf v⟩
    · have en : iI ((pn : Int) - (m * p : Nat)) = nI (pn - m * p) := by
        rw [iI_n (by omega)]
        congr 1
        omega
      have e1 : nI (pn - m * p) - nI p = iI ((pn : Int) - ((m + 1) * p : Nat)) := by
        rw [iI_n (show pn - m * p < 2 ^ 31 by omega), iI_n (show p < 2 ^ 31 by omega), iI_sub]
        congr 1
        omega
      have h4 := h44 m (by omega)
      rw [if_neg (fun z => q (lt.mp z)), if_neg q, en, if_pos (pn_in (show pn - m * p < 2001 by omega) (by decide)), nI_clamp (show pn - m * p < 2 ^ 31 by omega), h41, e1, nI_1]
      have ih0 := ih (m + 1)
      rw [fwS, lwS] at ih0
      by_cases z : f m = 0
      · rw [if_pos z, if_pos z] at ih0
        rw [if_pos ((lg_eq0 _ _).mpr (h4.mpr z))]
        exact ih0 v (by omega) h42 h41 h44 h8 h9
      · rw [if_neg z, if_neg z] at ih0
        rw [if_neg (fun y => z (h4.mp ((lg_eq0 _ _).mp y)))]
        have st : ∀ s1 : Int32, s1 = (if fwS f m = -1 then nI m else fwS f m) → ∃ v', pb_run T_X7_findSpan (90, [some (.ref 39), none, none, some (.int (nI K)), some (.int (nI (pn - m * p))), some (.int (nI m))], [.int s1, .ref 39], v) = some (some (.int (if fwS f (enS pn p r (m + 1)) = -1 then 0 else 1)), v') ∧ v'.1 39 8 = fwS f (enS pn p r (m + 1)) ∧ (lwS f (enS pn p r (m + 1)) ≠ -1 → v'.1 39 9 = lwS f (enS pn p r (m + 1))) ∧ fr fI_39 fJ_no v v' := by
          intro s1 hs
          rw [r_X7_findSpan_90, if_pos k16, kc, h41, e1, nI_1]
          obtain ⟨v', c1, c2, c3, c4⟩ := ih0 (pb_wI (pb_wI v 39 8 s1) 39 9 (nI m)) (by omega) h42 h41 h44 hs (fun _ => rfl)
          exact ⟨v', c1, c2, c3, fr_tr (fr_I (fr_I (fr_rf v) (by simp [fI_39])) (by simp [fI_39])) c4⟩
        rw [h8]
        by_cases y : fwS f m = -1
        · rw [if_pos y]
          exact st _ (by rw [if_pos y])
        · rw [if_neg y]
          exact st _ (by rw [if_neg y])
def bsS (f : Nat → Nat) (a4 : Int32) (m : Nat) : Int32 := if a4 = 1 then lwS f m else fwS f m
theorem mx_span {K p M pn : Nat} {f : Nat → Nat} (hK : K < 16) (hp : 1 ≤ p) (hp2 : p ≤ 20000) (hM : M ≤ 20) (hpn : pn ≤ 2000) (a4 : Int32) {v : pb_W} (h111 : v.1 111 K = nI M) (h110 : v.1 110 K = nI p) (h113 : ∀ m, m * p ≤ pn → (0 < lg_cmp (v.2 113 (pn - m * p)) 0 ↔ f m ≠ 0)) : ∀ (r m : Nat), m + r = M + 1 → pb_run T_X12_span (89, [some (.ref 64), none, none, some (.int (nI K)), some (.int a4), none, some (.int (nI pn)), some (.int (bsS f a4 m)), some (.int (nI m))], [], v) = if bsS f a4 (enS pn p r m) = -1 then some (some (.int (-1)), pb_wI v 64 0 6) else some (some (.int (bsS f a4 (enS pn p r m))), pb_wI v 64 0 0) := by
  have k16 : pb_in (nI K) 16 := pn_in hK (by decide)
  have kc : (nI K).toNatClampNeg = K := nI_clamp (by omega)
  intro r
  induction r with
  | zero =>
    intro m hm
    rw [r_X12_span_89, if_pos k16, kc, h111, if_pos (show nI M < nI m from nI_lt (by omega) (by omega)), ite_ref, ite_gv]
    rfl
  | succ r ih =>
    intro m hm
    have mp := Nat.mul_le_mul (show m ≤ 21 by omega) hp2
    have ih := ih (m + 1) (by omega)
    rw [r_X12_span_89, if_pos k16, if_pos k16, if_pos k16, kc, h111, if_neg (show ¬ nI M < nI m from nI_nlt (by omega) (by omega)), h110, pn_mul, enS, ite_lt (by omega) (by omega), ite_ref, ite_gv]
    by_cases q : pn < m * p
    · rw [if_pos q, if_pos q]
    · have h1 := h113 m (by omega)
      rw [if_neg q, if_neg q, nI_subN (show m * p ≤ pn by omega), if_pos (pn_in (show pn - m * p < 2001 by omega) (by decide)), nI_clamp (show pn - m * p < 2 ^ 31 by omega), nI_1]
      by_cases z : f m = 0
      · rw [if_neg (fun y => h1.mp y z)]
        rw [show bsS f a4 (m + 1) = bsS f a4 m by unfold bsS; rw [lwS, fwS, if_pos z, if_pos z]] at ih
        exact ih
      · rw [if_pos (h1.mpr z)]
        by_cases y : a4 = 1
        · rw [show bsS f a4 (m + 1) = nI m by unfold bsS; rw [if_pos y, lwS, if_neg z]] at ih
          rw [if_pos y]
          by_cases x : bsS f a4 m = -1
          · rw [if_pos x]; exact ih
          · rw [if_neg x]; exact ih
        · rw [if_neg y]
          by_cases x : bsS f a4 m = -1
          · rw [show bsS f a4 (m + 1) = nI m by
              unfold bsS at x ⊢
              rw [if_neg y] at x
              rw [if_neg y, fwS, if_neg z, if_pos x]] at ih
            rw [if_pos x]; exact ih
          · rw [show bsS f a4 (m + 1) = bsS f a4 m by
              unfold bsS at x ⊢
              rw [if_neg y] at x
              rw [if_neg y, if_neg y, fwS, if_neg z, if_neg x]] at ih
            rw [if_neg x]; exact ih
theorem n39_W1 {w v : pb_W} (h : fr fI_39 fJ_no w v) : fr fI_W1 fJ_W1 w v := fr_mn h (fun c k q => by simp only [fI_39] at q; simp only [fI_W1]; omega) (fun c k q => q.elim)
theorem x_span (a1 a2 a3 a4 : Int32) (w : pb_W) {n : Nat} {Es : List (List Rl)} (hH : iv_H w) (hU : iv_U w) (hB : BS w n Es) (hJ : iv_J w Es n) : ∃ x w1 w2, M_X11_span [.ref 0, .int a1, .int a2, .int a3, .int a4] w = some (some (.int x), w1) ∧ M_X12_span [.ref 64, .int a1, .int a2, .int a3, .int a4] w1 = some (some (.int x), w2) ∧ fr fI_WS fJ_WS w w2 ∧ iv_H w2 ∧ iv_J w2 Es n := by
  have n2 := hB.2.1.le
  have e5 := BS_5 hB
  obtain ⟨nr, hnr, h39, h76⟩ := iv_U_n hU
  have C := e_X11_span a1 a2 a3 a4 w
  rw [M_outside, pb_bI_some, M_outside, pb_bI_some, if_pos (show (0 : Int32) = 0 from rfl)] at C
  have R : ∀ v, M_X12_span [.ref 64, .int a1, .int a2, .int a3, .int a4] v = if a3 < 1 ∨ 15 < a3 then some (some (.int (-1)), pb_wI v 64 0 1) else if a4 < 0 ∨ 1 < a4 then some (some (.int (-1)), pb_wI v 64 0 1) else (pb_bI (M_X12_wrongSundry [.ref 64, .int a1, .int a2] v) fun x8 w7 => (if 0 < x8 then some (some (.int (-1)), pb_wI w7 64 0 x8) else (pb_bV (M_X12_things [.ref 64, .int a1, .int a2] w7) fun w9 => (if pb_in a3 16 then (if (w9.1 110 (a3).toNatClampNeg) = (-1 : Int32) then some (some (.int (-1)), pb_wI w9 64 0 6) else (pb_bV (M_X12_count [.ref 64, .int a3] w9) fun w10 => (pb_bI (M_X12_penceOf [.ref 64, .int a1] w10) fun x12 w11 => (pb_run T_X12_span (89, [some (.ref 64), none, none, some (.int a3), some (.int a4), none, some (.int x12), some (.int (-1 : Int32)), some (.int (0 : Int32))], [], w11))))) else none)))) := by
    intro v
    have o2 : ∀ (P Q : Prop) [Decidable P] [Decidable Q] (x y : Option pb_R), (if P then x else if Q then x else y) = if P ∨ Q then x else y := by
      intro P Q _ _ x y
      by_cases p : P
      · rw [if_pos p, if_pos (Or.inl p)]
      · rw [if_neg p]
        by_cases q : Q
        · rw [if_pos q, if_pos (Or.inr q)]
        · rw [if_neg q, if_neg (fun z => z.elim p q)]
    have o3 : ∀ (x y : Option pb_R), (if a3 < (16 : Int32) then x else y) = if 15 < a3 then y else x := by
      intro x y
      by_cases p : (15 : Int32) < a3
      · rw [if_pos p, if_neg (fun z => (lt16 a3).mp z p)]
      · rw [if_neg p, if_pos ((lt16 a3).mpr p)]
    rw [e_X12_span]
    simp only [ite_ref]
    rw [o3, o2 (a3 < 1) (15 < a3), o2 (a4 < 0) (1 < a4)]
  have bad : ∀ (u : pb_W) (c : Int32), c ≠ 0 → fr fI_jb fJ_ju w u → iv_J u Es n → M_X11_span [.ref 0, .int a1, .int a2, .int a3, .int a4] w = pb_run T_X11_span (43, [some (.ref 0), some (.int a1), some (.int a2), some (.int a3), some (.int a4), none], [.int c, .ref 0], u) → (∃ v, M_X12_span [.ref 64, .int a1, .int a2, .int a3, .int a4] (pb_wI u 0 0 c) = some (some (.int (-1)), pb_wI v 64 0 c) ∧ fr fI_so fJ_so (pb_wI u 0 0 c) v) → ∃ x w1 w2, M_X11_span [.ref 0, .int a1, .int a2, .int a3, .int a4] w = some (some (.int x), w1) ∧ M_X12_span [.ref 64, .int a1, .int a2, .int a3, .int a4] w1 = some (some (.int x), w2) ∧ fr fI_WS fJ_WS w w2 ∧ iv_H w2 ∧ iv_J w2 Es n := by
    intro u c hc F hJ' h1 h2
    obtain ⟨v, h2, h3⟩ := h2
    refine ⟨-1, _, _, ?_, h2, W_fin hH (jb_W1 F) hJ' (so_W2 h3)⟩
    rw [h1, r_X11_span_43, if_neg hc, r_X11_span_72, if_neg (show ¬ (pb_wI u 0 0 c).1 0 0 = 0 from hc)]
  by_cases q3 : a3 < 1 ∨ 15 < a3
  · rw [if_pos q3, if_neg (show ¬ (1 : Int32) = 0 by decide), r_X11_span_20, if_neg (show ¬ (1 : Int32) = 0 by decide)] at C
    exact bad w 1 (by decide) (fr_rf w) hJ C ⟨_, by rw [R, if_pos q3], fr_rf _⟩
  · rw [if_neg q3, if_pos rfl] at C
    by_cases q4 : a4 < 0 ∨ 1 < a4
    · rw [if_pos q4, if_neg (show ¬ (1 : Int32) = 0 by decide), r_X11_span_20, if_neg (show ¬ (1 : Int32) = 0 by decide)] at C
      exact bad w 1 (by decide) (fr_rf w) hJ C ⟨_, by rw [R, if_neg q3, if_pos q4], fr_rf _⟩
    · rw [if_neg q4, if_pos rfl] at C
      rcases M_sund a1 a2 hB hJ with ⟨b1, b2⟩ | ⟨l, E, hl, hE, rfl, rfl, u, b2, F, J', V⟩
      · rw [b2, pb_bI_some] at C
        refine bad w 1 (by decide) (fr_rf w) hJ C ⟨_, ?_, fr_rf _⟩
        rw [R, if_neg q3, if_neg q4, M_wrong_bad hB (S_00 w 1) b1, pb_bI_some, if_pos (show (0 : Int32) < 1 by decide)]
      · have Su := jb_SB F
        have hBu := SB_B Su hB
        rw [b2, pb_bI_some] at C
        by_cases q : suP u Es E l
        · obtain ⟨K, hK, rfl⟩ := pn_of (x := a3) (N := 15) (fun z => q3 (Or.inl (by rw [pn_lt] at z ⊢; rw [show (0 : Int32).toInt = 0 from rfl] at z; rw [show (1 : Int32).toInt = 1 from rfl]; omega))) (fun z => q3 (Or.inr z)) (by decide)
          have K1 : 1 ≤ K := by
            have := fun z => q3 (Or.inl z)
            by_cases z : 1 ≤ K
            · exact z
            · exact absurd (show nI K < (1 : Int32) by rw [show K = 0 by omega]; decide) this
          have k16 : pb_in (nI K) 16 := pn_in (by omega) (by decide)
          have kc : (nI K).toNatClampNeg = K := nI_clamp (by omega)
          have S0 := S_00 u 0
          have hB0 := SB_B S0 hBu
          have V0 : JV (pb_wI u 0 0 0) Es n E := JV_tr S0 (fun l hl => rfl) V
          have e39 : (pb_wI u 0 0 (0 : Int32)).1 39 2 = nI nr := (Su.1 39 2 (by simp [nI_BS])).trans h39
          have e76 : (pb_wI u 0 0 (0 : Int32)).1 64 76 = nI nr := (Su.1 64 76 (by simp [nI_BS])).trans h76
          obtain ⟨v1, c1, c2, c3⟩ := cx_th hB0 hE V0 hl hnr e39
          have S1 := SB_tr S0 (g_SB c2)
          obtain ⟨p1, p2, p3⟩ := hBu.2.1.pc l hl
          have pl := q.2.1
          have l2 : pb_in (nI l) 200 := pn_in (by omega) (by decide)
          have lc : (nI l).toNatClampNeg = l := nI_clamp (by omega)
          have t20 := ths_20 (pb_wI u 0 0 0) Es E l nr n
          have th1 := RC_TH hB0.2.1 c3 t20
          generalize hs : ths (pb_wI u 0 0 0) Es E l nr n = s at c3 th1 t20
          rw [if_pos q, r_X11_span_43, if_pos rfl, e_X7_findSpan, c1, pb_bV_some, if_pos k16, kc, if_pos l2, lc, (SB_S S1).s16, p1] at C
          have Fv1 : fr fI_W1 fJ_W1 w v1 := fr_tr (fr_I (jb_W1 F) (by simp [fI_W1])) (g_W1 c2)
          have Jv1 : iv_J v1 Es n := iv_J_sb S1 (funext fun s => c2.1 28 s (by simp [fI_g])) (funext fun s => c2.1 29 s (by simp [fI_g])) J'
          have T1 := g_SB c2
          have RR : ∀ v, SB (pb_wI u 0 0 0) v → ∃ v4, M_X12_span [.ref 64, .int (nI l), .int (nI E), .int (nI K), .int a4] v = (if (v4.1 110 K) = (-1 : Int32) then some (some (.int (-1)), pb_wI v4 64 0 6) else (pb_bV (M_X12_count [.ref 64, .int (nI K)] v4) fun w10 => (pb_bI (M_X12_penceOf [.ref 64, .int (nI l)] w10) fun x12 w11 => (pb_run T_X12_span (89, [some (.ref 64), none, none, some (.int (nI K)), some (.int a4), none, some (.int x12), some (.int (-1 : Int32)), some (.int (0 : Int32))], [], w11))))) ∧ fr fI_t fJ_W2 v v4 ∧ TH2 v4 (prO (pb_wI u 0 0 0) Es E s) s.2.2 := by
            intro v Sv
            obtain ⟨v3, f1, f2⟩ := M_wrong hBu (SB_tr S0 Sv) hl hE
            obtain ⟨v4, g1, g2, g3⟩ := mx_th hB0 hE hl hnr e76 (SB_tr Sv (so_SB f2))
            rw [hs] at g3
            refine ⟨v4, ?_, fr_tr (so_W2 f2) (t_W2 g2), RM_TH hB0.2.1 g3 t20⟩
            rw [R, if_neg q3, if_neg q4, f1, pb_bI_some, if_pos q, if_neg (show ¬ (0 : Int32) < 0 by decide), g1, pb_bV_some, if_pos k16, kc]
          obtain ⟨y1, y2, y3⟩ := th1 K (by omega)
          rcases y1 with ⟨y1, y4⟩ | ⟨p, j, y1, pp1, pp2, j2, y4, y5⟩
          · rw [if_pos y4, pb_bI_some, if_pos rfl, r_X11_span_72, if_neg (show ¬ (pb_wI (pb_wI v1 39 8 (-1 : Int32)) 0 0 (6 : Int32)).1 0 0 = 0 by show ¬ (6 : Int32) = 0; decide)] at C
            have Fv : fr fI_W1 fJ_W1 w (pb_wI v1 39 8 (-1)) := fr_I Fv1 (by simp [fI_W1])
            have S39 : SB v1 (pb_wI v1 39 8 (-1)) := W1_SB (fr_I (fr_rf v1) (by simp [fI_W1]))
            obtain ⟨v4, r1, r2, r3⟩ := RR (pb_wI (pb_wI v1 39 8 (-1)) 0 0 6) (SB_tr T1 (SB_tr S39 (S_00 _ 6)))
            have r4 : v4.1 110 K = -1 := by
              rcases (r3 K (by omega)).1 with ⟨_, z⟩ | ⟨p', z, _⟩
              · exact z
              · rw [y1] at z; cases z
            rw [if_pos r4] at r1
            exact ⟨-1, _, _, C, r1, W_fin hH Fv (iv_J_sb S39 rfl rfl Jv1) r2⟩
          · have th1' : TH1 (pb_wI v1 39 8 (-1)) (prO (pb_wI u 0 0 0) Es E s) s.2.2 := th1
            obtain ⟨v2, d1, d2, d3⟩ := cx_cnt (pn := pcN u l) (wo := K) pl (by omega) th1'
            rw [if_neg (show ¬ v1.1 40 K = -1 by rw [y4]; exact pn_m1 j (by omega)), d1, pb_bV_some] at C
            generalize hf : (fun m : Nat => cws (prO (pb_wI u 0 0 0) Es E s) s.2.2 K 15 (pcN u l - m * p)) = f at *
            have c63 : ∀ m, f m < 2 ^ 63 := fun m => by rw [← hf]; exact cws_63 t20 K1 hK _
            have h44 : ∀ m, m * p ≤ pcN u l → (v2.2 44 (pcN u l - m * p) = 0 ↔ f m = 0) := fun m hm => by
              have := c63 m
              rw [d2 _ (Nat.sub_le _ _), ← hf, lN_0 (by rw [← hf] at this; simp only at this; omega)]
            obtain ⟨v3, k1, k2, k3, k4⟩ := cx_span (K := K) (p := p) (M := s.2.2 K) (pn := pcN u l) (f := f) (by omega) pp1 pp2 y3 pl (s.2.2 K + 1) 0 v2 (by omega) ((d3.1 42 K id).trans y2) ((d3.1 41 K id).trans y5) h44 ((d3.1 39 8 id).trans rfl) (fun z => absurd rfl z)
            rw [show iI (((pcN u l : Nat) : Int) - ((0 * p : Nat) : Int)) = nI (pcN u l) by rw [iI_n (by omega)]; congr 1; omega] at k1
            have N20 : enS (pcN u l) p (s.2.2 K + 1) 0 ≤ 1000 := by
              have := enS_le (pcN u l) p (s.2.2 K + 1) 0
              omega
            generalize hN : enS (pcN u l) p (s.2.2 K + 1) 0 = N at *
            have C := C.trans (congrArg (fun z => pb_bI z _) k1)
            rw [pb_bI_some] at C
            have Fv3 : fr fI_W1 fJ_W1 w v3 := fr_tr (fr_tr (fr_I Fv1 (by simp [fI_W1])) (c_W1 d3)) (n39_W1 k4)
            have F13 : fr fI_W1 fJ_W1 v1 v3 := fr_tr (fr_tr (fr_I (fr_rf v1) (by simp [fI_W1])) (c_W1 d3)) (n39_W1 k4)
            have S13 := W1_SB F13
            have J3 : iv_J v3 Es n := iv_J_sb S13 (funext fun s => (k4.1 28 s (by simp [fI_39])).trans (d3.1 28 s id)) (funext fun s => (k4.1 29 s (by simp [fI_39])).trans (d3.1 29 s id)) Jv1
            have z0 : v3.1 0 0 = 0 := (k4.1 0 0 (by simp [fI_39])).trans ((d3.1 0 0 id).trans (c2.1 0 0 (by simp [fI_g])))
            have RS : ∀ v, SB v3 v → ∃ v5, M_X12_span [.ref 64, .int (nI l), .int (nI E), .int (nI K), .int a4] v = (if bsS f a4 N = -1 then some (some (.int (-1)), pb_wI v5 64 0 6) else some (some (.int (bsS f a4 N)), pb_wI v5 64 0 0)) ∧ fr fI_t fJ_W2 v v5 := by
              intro v Sv
              have Sv0 : SB (pb_wI u 0 0 0) v := SB_tr T1 (SB_tr S13 Sv)
              obtain ⟨v4, r1, r2, r3⟩ := RR v Sv0
              obtain ⟨x1, x2, x3⟩ := r3 K (by omega)
              have x4 : v4.1 110 K = nI p := by
                rcases x1 with ⟨z, _⟩ | ⟨p', z, _, _, z4⟩
                · rw [y1] at z; cases z
                · rw [y1] at z
                  injection z with z
                  rw [z]; exact z4
              obtain ⟨v5, m1, m2, m3⟩ := mx_cnt (wo := K) (a1 := nI K) (fun k h1 h2 => nI_eq (by omega) (by omega)) r3
              have F5 := fr_tr r2 (n_W2 m3)
              have S5 := SB_tr S0 (SB_tr Sv0 (W2_SB F5))
              refine ⟨v5, ?_, F5⟩
              rw [r1, if_neg (show ¬ v4.1 110 K = -1 by rw [x4]; exact pn_m1 p (by omega)), m1, pb_bV_some, M_pence12 (SB_B S5 hBu) hl, pb_bI_some, (SB_S S5).s16, p1]
              have := mx_span (K := K) (p := p) (M := s.2.2 K) (pn := pcN u l) (f := f) (by omega) pp1 pp2 y3 pl a4 (v := v5) ((m3.1 111 K id).trans x2) ((m3.1 110 K id).trans x4) (fun m hm => by
                have c6 := c63 m
                rw [← hf] at c6
                simp only at c6
                rw [m2 _ (by omega), lg_gt, show (0 : Int64) = lN 0 from rfl, pk_lLT (by decide) c6, ← hf]
                simp only
                omega) (s.2.2 K + 1) 0 (by omega)
              rw [hN] at this
              refine Eq.trans ?_ this
              congr 1
              unfold bsS
              by_cases z : a4 = 1
              · rw [if_pos z]; rfl
              · rw [if_neg z]; rfl
            have bsf : bsS f a4 N = -1 ↔ fwS f N = -1 := by
              unfold bsS
              by_cases z : a4 = 1
              · rw [if_pos z]; exact (fl_iff f N N20).symm
              · rw [if_neg z]
            by_cases z : fwS f N = -1
            · rw [if_pos z, if_pos rfl, r_X11_span_72, if_neg (show ¬ (pb_wI v3 0 0 (6 : Int32)).1 0 0 = 0 by show ¬ (6 : Int32) = 0; decide)] at C
              obtain ⟨v5, t1, t2⟩ := RS (pb_wI v3 0 0 6) (S_00 v3 6)
              rw [if_pos (bsf.mpr z)] at t1
              exact ⟨-1, _, _, C, t1, W_fin hH Fv3 J3 t2⟩
            · rw [if_neg z, if_neg (show ¬ (1 : Int32) = 0 by decide), r_X11_span_72, if_pos z0, k2, k3 (fun y => z ((fl_iff f N N20).mpr y))] at C
              obtain ⟨v5, t1, t2⟩ := RS v3 (SB_rf v3)
              rw [if_neg (fun y => z (bsf.mp y))] at t1
              have ea : (if a4 = 0 then some (some (Value.int (fwS f N)), v3) else some (some (.int (lwS f N)), v3)) = some (some (.int (bsS f a4 N)), v3) := by
                unfold bsS
                obtain ⟨m, hm, rfl⟩ := pn_of (x := a4) (N := 1) (fun z => q4 (Or.inl z)) (fun z => q4 (Or.inr z)) (by decide)
                have : m = 0 ∨ m = 1 := by omega
                rcases this with rfl | rfl
                · rw [if_pos (show nI 0 = (0 : Int32) from rfl), if_neg (show ¬ nI 0 = (1 : Int32) by decide)]
                · rw [if_neg (show ¬ nI 1 = (0 : Int32) by decide), if_pos (show nI 1 = (1 : Int32) from rfl)]
              rw [ea] at C
              exact ⟨_, _, _, C, t1, W_fin hH Fv3 J3 (by rw [pw_I_sf z0]; exact t2)⟩
        · rw [if_neg q] at C
          refine bad u 6 (by decide) F J' C ?_
          obtain ⟨v', f1, f2⟩ := M_wrong hBu (S_00 u 6) hl hE
          refine ⟨v', ?_, f2⟩
          rw [R, if_neg q3, if_neg q4, f1, pb_bI_some, if_neg q, if_pos (show (0 : Int32) < 6 by decide)]
