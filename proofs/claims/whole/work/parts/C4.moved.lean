/-! ===== MOVED, SPENT ===== -/
def mvP (w : pb_W) (Es : List (List Rl)) (E1 E2 i : Nat) : Prop := ¬ w.1 5 19 < w.1 13 i ∧ (vv w Es E1 i).2.1 ≠ (vv w Es E2 i).2.1
def mvn (w : pb_W) (Es : List (List Rl)) (E1 E2 : Nat) : Nat → Int32
  | 0 => 0
  | i + 1 => if ¬ w.1 5 19 < w.1 13 i ∧ (vv w Es E1 i).2.1 ≠ (vv w Es E2 i).2.1 then mvn w Es E1 E2 i + 1 else mvn w Es E1 E2 i
theorem cx_moved {u : pb_W} {n E1 E2 : Nat} {Es : List (List Rl)} (hB : BS u n Es) (h1 : E1 < Es.length) (h2 : E2 < Es.length) (V1 : JV u Es n E1) (V2 : JV u Es n E2) : ∀ m i, i + m = n → pb_run T_X0_unlikeKinds (5, [some (.ref 25), some (.int (nI E1)), some (.int (nI E2)), some (.int (mvn u Es E1 E2 i)), some (.int (nI i))], [], u) = some (some (.int (mvn u Es E1 E2 n)), u) := by
  have n2 := hB.2.1.le
  have e5 := BS_5 hB
  intro m
  induction m with
  | zero =>
    intro i hi
    rw [r_X0_unlikeKinds_5, hB.2.1.n5, if_neg (show ¬ nI i < nI n from nI_nlt (by omega) (by omega)), show i = n by omega]
  | succ m ih =>
    intro i hi
    rw [r_X0_unlikeKinds_5, hB.2.1.n5, if_pos (show nI i < nI n from nI_lt (by omega) (by omega)), k_known1 (show i < 200 by omega), pb_bI_some, nI_1]
    have ih := ih (i + 1) (by omega)
    rw [mvn] at ih
    by_cases q : u.1 5 19 < u.1 13 i
    · rw [if_neg (fun z => z.1 q)] at ih
      rw [if_pos q, if_pos rfl]
      exact ih
    · rw [if_neg q, if_neg (show ¬ (1 : Int32) = 0 by decide), M_kindOf0 (by omega) (by omega) (vv_VF hB h1 i) (V1 i (by omega)), pb_bI_some, M_kindOf0 (by omega) (by omega) (vv_VF hB h2 i) (V2 i (by omega)), pb_bI_some]
      by_cases p : (vv u Es E1 i).2.1 = (vv u Es E2 i).2.1
      · rw [if_neg (fun z => z.2 p)] at ih
        rw [if_pos p]
        exact ih
      · rw [if_pos ⟨q, p⟩] at ih
        rw [if_neg p]
        exact ih
theorem mx_moved {u : pb_W} {n E1 E2 : Nat} {Es : List (List Rl)} (hB : BS u n Es) (h1 : E1 < Es.length) (h2 : E2 < Es.length) : ∀ m i v, i + m = n → SB u v → ∃ v', pb_run T_X12_moved (27, [some (.ref 64), some (.int (nI E1)), some (.int (nI E2)), some (.int (mvn u Es E1 E2 i)), some (.int (nI i))], [], v) = some (some (.int (mvn u Es E1 E2 n)), pb_wI v' 64 0 0) ∧ fr fI_so fJ_so v v' := by
  have n2 := hB.2.1.le
  intro m
  induction m with
  | zero =>
    intro i v hi S
    refine ⟨v, ?_, fr_rf v⟩
    rw [r_X12_moved_27, (SB_N S hB.2.1).n7, if_neg (show ¬ nI i < nI n from nI_nlt (by omega) (by omega)), show i = n by omega, ite_gv]
  | succ m ih =>
    intro i v hi S
    have hv := SB_B S hB
    have ih0 := ih (i + 1)
    rw [mvn] at ih0
    rw [r_X12_moved_27, hv.2.1.n7, if_pos (show nI i < nI n from nI_lt (by omega) (by omega)), k_known2 hv.2.1 (show i < n by omega), pb_bI_some, nI_1, Int32.add_zero, (SB_S S).s19, (SB_S S).s13]
    by_cases q : u.1 5 19 < u.1 13 i
    · rw [if_neg (fun z => z.1 q)] at ih0
      rw [if_pos q, if_pos rfl]
      exact ih0 v (by omega) S
    · obtain ⟨v1, a1, -, a3⟩ := mx_kindOf hv (show i < n by omega) h1
      obtain ⟨v2, b1, -, b3⟩ := mx_kindOf (SB_B (so_SB a3) hv) (show i < n by omega) h2
      rw [SB_vv S] at a1
      rw [SB_vv (SB_tr S (so_SB a3))] at b1
      rw [if_neg q, if_neg (show ¬ (1 : Int32) = 0 by decide), a1, pb_bI_some, b1, pb_bI_some]
      have S2 := SB_tr S (SB_tr (so_SB a3) (so_SB b3))
      by_cases p : (vv u Es E1 i).2.1 = (vv u Es E2 i).2.1
      · rw [if_neg (fun z => z.2 p)] at ih0
        rw [if_pos p]
        obtain ⟨v', c1, c2⟩ := ih0 v2 (by omega) S2
        exact ⟨v', c1, fr_tr (fr_tr a3 b3) c2⟩
      · rw [if_pos ⟨q, p⟩] at ih0
        rw [if_neg p]
        obtain ⟨v', c1, c2⟩ := ih0 v2 (by omega) S2
        exact ⟨v', c1, fr_tr (fr_tr a3 b3) c2⟩
theorem mvn_sb {w v : pb_W} (h : SB w v) (Es : List (List Rl)) (E1 E2 : Nat) : ∀ i, mvn v Es E1 E2 i = mvn w Es E1 E2 i
  | 0 => rfl
  | i + 1 => by rw [mvn, mvn, mvn_sb h Es E1 E2 i, SB_vv h, SB_vv h, (SB_S h).s19, (SB_S h).s13]
theorem JV_tr {w v : pb_W} {Es : List (List Rl)} {n E : Nat} (S : SB w v) (h : ∀ l, l < n → v.1 29 (200 * E + l) = w.1 29 (200 * E + l)) (V : JV w Es n E) : JV v Es n E := fun l hl => by
  rw [h l hl, V l hl, SB_vv S]
theorem S_00 (u : pb_W) (c : Int32) : SB u (pb_wI u 0 0 c) := K_SB (fr_I (fr_rf u) (by simp [fI_K]))
theorem x_moved (a1 a2 : Int32) (w : pb_W) {n : Nat} {Es : List (List Rl)} (hH : iv_H w) (hB : BS w n Es) (hJ : iv_J w Es n) : ∃ x w1 w2, M_X11_moved [.ref 0, .int a1, .int a2] w = some (some (.int x), w1) ∧ M_X12_moved [.ref 64, .int a1, .int a2] w1 = some (some (.int x), w2) ∧ fr fI_K fJ_K w w2 ∧ iv_H w2 ∧ iv_J w2 Es n := by
  have n2 := hB.2.1.le
  have e5 := BS_5 hB
  have C := e_X11_moved a1 a2 w
  have R : ∀ v, SB w v → M_X12_moved [.ref 64, .int a1, .int a2] v = if ¬ (¬ a1 < 0 ∧ a1 < nI Es.length) then some (some (.int (-1)), pb_wI v 64 0 1) else if ¬ (¬ a2 < 0 ∧ a2 < nI Es.length) then some (some (.int (-1)), pb_wI v 64 0 1) else (pb_run T_X12_moved (27, [some (.ref 64), some (.int a1), some (.int a2), some (.int (0 : Int32)), some (.int (0 : Int32))], [], v)) := by
    intro v hv
    have hBv := SB_B hv hB
    rw [e_X12_moved]
    simp only [M_isEdition, pb_bI_some, q01, ite_ref, EI_37 hBv.2.2]
  have bad : ∀ (u : pb_W), fr fI_jb fJ_ju w u → iv_J u Es n → M_X11_moved [.ref 0, .int a1, .int a2] w = pb_run T_X11_moved (28, [some (.ref 0), some (.int a1), some (.int a2)], [.int (1 : Int32), .ref 0], u) → (¬ (¬ a1 < 0 ∧ a1 < nI Es.length) ∨ ¬ (¬ a2 < 0 ∧ a2 < nI Es.length)) → ∃ x w1 w2, M_X11_moved [.ref 0, .int a1, .int a2] w = some (some (.int x), w1) ∧ M_X12_moved [.ref 64, .int a1, .int a2] w1 = some (some (.int x), w2) ∧ fr fI_K fJ_K w w2 ∧ iv_H w2 ∧ iv_J w2 Es n := by
    intro u F hJ' h1 h2
    refine ⟨-1, pb_wI u 0 0 1, pb_wI (pb_wI u 0 0 1) 64 0 1, ?_, ?_, K_fin hH F hJ' (fr_rf _)⟩
    · rw [h1, r_X11_moved_28, if_neg (show ¬ (1 : Int32) = 0 by decide)]
    · rw [R _ (SB_tr (jb_SB F) (S_00 u 1))]
      by_cases q : (¬ a1 < 0 ∧ a1 < nI Es.length)
      · rw [if_neg (fun z => z q), if_pos (h2.resolve_left (fun z => z q))]
      · rw [if_pos q]
  rcases M_judgeBy a1 hB hJ with ⟨b1, b2⟩ | ⟨E1, h1, rfl, u1, b2, F1, J1, V1, -⟩
  · rw [b2, pb_bI_some, if_pos rfl] at C
    exact bad w (fr_rf w) hJ C (Or.inl b1)
  · have hB1 := SB_B (jb_SB F1) hB
    rw [b2, pb_bI_some, if_neg (show ¬ (1 : Int32) = 0 by decide)] at C
    rcases M_judgeBy a2 hB1 J1 with ⟨c1, c2⟩ | ⟨E2, h2, rfl, u2, c2, F2, J2, V2, K2⟩
    · rw [c2, pb_bI_some, if_pos rfl] at C
      exact bad u1 F1 J1 C (Or.inr c1)
    · have hB2 := SB_B (jb_SB F2) hB1
      have V1' : JV u2 Es n E1 := by
        by_cases q : E1 = E2
        · rw [q]; exact V2
        · exact JV_tr (jb_SB F2) (fun l hl => K2 E1 l q (by omega)) V1
      have F := fr_tr F1 F2
      have S := S_00 u2 0
      have hB3 := SB_B S hB2
      have V1'' : JV (pb_wI u2 0 0 0) Es n E1 := JV_tr S (fun l hl => rfl) V1'
      have V2'' : JV (pb_wI u2 0 0 0) Es n E2 := JV_tr S (fun l hl => rfl) V2
      rw [c2, pb_bI_some, if_neg (show ¬ (1 : Int32) = 0 by decide), r_X11_moved_28, if_pos rfl, e_X0_unlikeKinds] at C
      have C1 := cx_moved hB3 h1 h2 V1'' V2'' n 0 (by omega)
      obtain ⟨v', d1, d2⟩ := mx_moved hB3 h1 h2 n 0 (pb_wI u2 0 0 0) (by omega) (SB_rf _)
      refine ⟨mvn (pb_wI u2 0 0 0) Es E1 E2 n, pb_wI u2 0 0 0, pb_wI v' 64 0 0, ?_, ?_, K_fin hH F J2 d2⟩
      · rw [C]
        exact congrArg (fun z => pb_bI z fun x2 w1 => some (some (Value.int x2), w1)) C1
      · rw [R _ (SB_tr (jb_SB F) S), if_neg (fun z => z (ed_ok h1 e5)), if_neg (fun z => z (ed_ok h2 e5))]
        exact d1
/-- spent on a kind -/
def spk (w : pb_W) (Es : List (List Rl)) (E : Nat) (kd f wk : Int32) : Nat → Int32
  | 0 => 0
  | i + 1 => if wn w i f wk ∧ (kd = -1 ∨ (vv w Es E i).2.1 = kd) then spk w Es E kd f wk i + w.1 16 i else spk w Es E kd f wk i
theorem spk_sb {w v : pb_W} (h : SB w v) (Es : List (List Rl)) (E : Nat) (kd f wk : Int32) : ∀ i, spk v Es E kd f wk i = spk w Es E kd f wk i
  | 0 => rfl
  | i + 1 => by
    rw [spk, spk, spk_sb h Es E kd f wk i, SB_vv h, (SB_S h).s16]
    simp only [wn_sv (SB_S h)]
theorem M_isOn {u : pb_W} {n E l : Nat} {Es : List (List Rl)} (hB : BS u n Es) (hE : E < Es.length) (V : JV u Es n E) (hl : l < n) (kd : Int32) : M_X0_isOn [.ref 25, .int (nI l), .int kd, .int (nI E)] u = some (some (.int (if kd = -1 ∨ (vv u Es E l).2.1 = kd then 1 else 0)), u) := by
  have n2 := hB.2.1.le
  have e5 := BS_5 hB
  rw [e_X0_isOn, M_kindOf0 (by omega) (by omega) (vv_VF hB hE l) (V l hl), pb_bI_some]
  by_cases q : kd = -1
  · rw [if_pos q, if_pos (Or.inl q)]
  · rw [if_neg q]
    by_cases p : (vv u Es E l).2.1 = kd
    · rw [if_pos p, if_pos (Or.inr p)]
    · rw [if_neg p, if_neg (fun z => z.elim q p)]
theorem cx_spk {u : pb_W} {n E : Nat} {Es : List (List Rl)} (hB : BS u n Es) (hE : E < Es.length) (V : JV u Es n E) (kd f wk : Int32) : ∀ m i, i + m = n → pb_run T_X0_spentOn (6, [some (.ref 25), some (.int f), some (.int wk), some (.int kd), some (.int (nI E)), some (.int (spk u Es E kd f wk i)), some (.int (nI i))], [], u) = some (some (.int (spk u Es E kd f wk n)), u) := by
  have n2 := hB.2.1.le
  intro m
  induction m with
  | zero =>
    intro i hi
    rw [r_X0_spentOn_6, hB.2.1.n5, if_neg (show ¬ nI i < nI n from nI_nlt (by omega) (by omega)), show i = n by omega]
  | succ m ih =>
    intro i hi
    have ih := ih (i + 1) (by omega)
    rw [spk] at ih
    rw [r_X0_spentOn_6, hB.2.1.n5, if_pos (show nI i < nI n from nI_lt (by omega) (by omega)), M_wentFrom_ (show i < 200 by omega), pb_bI_some, nI_1]
    by_cases q : wn u i f wk
    · rw [if_pos q, if_neg (show ¬ (1 : Int32) = 0 by decide), M_isOn hB hE V (by omega), pb_bI_some]
      by_cases p : kd = -1 ∨ (vv u Es E i).2.1 = kd
      · rw [if_pos ⟨q, p⟩] at ih
        rw [if_pos p, if_neg (show ¬ (1 : Int32) = 0 by decide), if_pos (pn_in (show i < 200 by omega) (by decide)), nI_clamp (by omega)]
        exact ih
      · rw [if_neg (fun z => p z.2)] at ih
        rw [if_neg p, if_pos rfl]
        exact ih
    · rw [if_neg (fun z => q z.1)] at ih
      rw [if_neg q, if_pos rfl]
      exact ih
theorem M_spentOn {u : pb_W} {n E : Nat} {Es : List (List Rl)} (hB : BS u n Es) (hE : E < Es.length) (V : JV u Es n E) (kd f wk : Int32) : M_X0_spentOn [.ref 25, .int f, .int wk, .int kd, .int (nI E)] u = some (some (.int (spk u Es E kd f wk n)), u) := by
  rw [e_X0_spentOn]
  exact cx_spk hB hE V kd f wk n 0 (by omega)
theorem mx_spk {u : pb_W} {n E : Nat} {Es : List (List Rl)} (hB : BS u n Es) (hE : E < Es.length) (kd f wk : Int32) : ∀ m i v, i + m = n → SB u v → ∃ v', pb_run T_X12_spentOf (6, [some (.ref 64), some (.int f), some (.int wk), some (.int kd), some (.int (nI E)), some (.int (spk u Es E kd f wk i)), some (.int (nI i))], [], v) = some (some (.int (spk u Es E kd f wk n)), v') ∧ fr fI_so fJ_so v v' := by
  have n2 := hB.2.1.le
  intro m
  induction m with
  | zero =>
    intro i v hi S
    refine ⟨v, ?_, fr_rf v⟩
    rw [r_X12_spentOf_6, (SB_N S hB.2.1).n7, if_neg (show ¬ nI i < nI n from nI_nlt (by omega) (by omega)), show i = n by omega]
  | succ m ih =>
    intro i v hi S
    have hv := SB_B S hB
    have ih0 := ih (i + 1)
    rw [spk] at ih0
    have p16 : ∀ x, SB u x → x.1 16 i = u.1 16 i := fun x hx => by rw [(SB_S hx).s16]
    rw [r_X12_spentOf_6, hv.2.1.n7, if_pos (show nI i < nI n from nI_lt (by omega) (by omega)), if_pos (pn_in (show i < 200 by omega) (by decide)), nI_clamp (by omega), hv.2.1.g71, (SB_S S).s9, nI_1]
    by_cases q9 : u.1 9 i = wk
    · rw [if_pos q9, M_went hv.1 (show i < 200 by omega), pb_bI_some]
      simp only [wf_sv (SB_S S)]
      by_cases qf : wf u i f
      · have q : wn u i f wk := ⟨q9, qf⟩
        rw [if_pos qf, if_neg (show ¬ (1 : Int32) = 0 by decide)]
        by_cases qk : kd = -1
        · rw [if_pos ⟨q, Or.inl qk⟩] at ih0
          rw [if_pos qk, M_pence12 hv (show i < n by omega), pb_bI_some, p16 v S]
          exact ih0 v (by omega) S
        · obtain ⟨v1, a1, -, a3⟩ := mx_kindOf hv (show i < n by omega) hE
          have S1 := SB_tr S (so_SB a3)
          rw [SB_vv S] at a1
          rw [if_neg qk, a1, pb_bI_some]
          by_cases p : (vv u Es E i).2.1 = kd
          · rw [if_pos ⟨q, Or.inr p⟩] at ih0
            rw [if_pos p, M_pence12 (SB_B S1 hB) (show i < n by omega), pb_bI_some, p16 v1 S1]
            obtain ⟨v', c1, c2⟩ := ih0 v1 (by omega) S1
            exact ⟨v', c1, fr_tr a3 c2⟩
          · rw [if_neg (fun z => z.2.elim qk p)] at ih0
            rw [if_neg p]
            obtain ⟨v', c1, c2⟩ := ih0 v1 (by omega) S1
            exact ⟨v', c1, fr_tr a3 c2⟩
      · rw [if_neg (fun z => qf z.1.2)] at ih0
        rw [if_neg qf, if_pos rfl]
        exact ih0 v (by omega) S
    · rw [if_neg (fun z => q9 z.1.1)] at ih0
      rw [if_neg q9]
      exact ih0 v (by omega) S
theorem M_spentOf12 {u v : pb_W} {n E : Nat} {Es : List (List Rl)} (hB : BS u n Es) (hE : E < Es.length) (S : SB u v) (kd f wk : Int32) : ∃ v', M_X12_spentOf [.ref 64, .int f, .int wk, .int kd, .int (nI E)] v = some (some (.int (spk u Es E kd f wk n)), v') ∧ fr fI_so fJ_so v v' := by
  rw [e_X12_spentOf]
  exact mx_spk hB hE kd f wk n 0 v (by omega) S
