theorem iI_ne0 {a : Int} (a1 : -2 ^ 31 ≤ a) (a2 : a < 2 ^ 31) (h : a ≠ 0) : ¬ iI a = (0 : Int32) := fun q => h ((iI_eq (b := 0) a1 a2 (by omega) (by omega)).mp q)
theorem nzm_zero {w : Nat → Nat} {i : Nat} : ∀ j, (∀ k, i ≤ k → k < i + j → w k = 0) → nzm w (i + j) = nzm w i
  | 0, _ => rfl
  | j + 1, h => by
    show nzm w ((i + j) + 1) = _
    rw [nzm, if_pos (h (i + j) (by omega) (by omega)), Nat.add_zero]
    exact nzm_zero j (fun k a b => h k a (by omega))
theorem flat_ex {v w : Nat → Nat} {c g : Nat} (hc : c ≤ g) (e : exv v w c) (hw : ∀ i, c ≤ i → i < g → w i = 0) (h : nzm v g ≤ nzm w g) : exv v w g := by
  have z := nzm_zero (w := w) (i := c) (g - c) (fun k a b => hw k a (by omega))
  rw [show c + (g - c) = g by omega] at z
  have s := (svm_ex (A := fun _ _ => 0) c e).2
  have f := nzm_flat (v := v) (i := c) (g - c) (by rw [show c + (g - c) = g by omega]; omega)
  intro i hi
  rcases Nat.lt_or_ge i c with q | q
  · exact e i q
  · rw [f i q (by omega), hw i q hi]
/-- brings, as the loops meet it -/
abbrev Brg (b : pb_W) (A : Nat → Nat → Int) (g : Nat) : Prop := ∀ i x U s, i < g → 1 ≤ x → x ≤ 6 → M_X12_brings [.ref 64, .int (nI i), .int (nI x)] (mS b U s) = some (some (.int (iI (A i x))), mS b U s)
theorem mS_U (b : pb_W) (U : Nat → Int32) (s : Sst) (k : Nat) (v : Int32) : pb_wI (mS b U s) 108 k v = mS b (upd U k v) s := mst_U ..
theorem mx_third {b : pb_W} {A : Nat → Nat → Int} {g : Nat} {out : Int} (hg : g ≤ 9) (h71 : b.1 64 71 = nI g) (h72 : b.1 64 72 = iI out) (hB : ∀ i x, -90000 ≤ A i x ∧ A i x ≤ 90000) (hbr : Brg b A g) (b1 : -5000000 ≤ out) (b2 : out ≤ 5000000) (sum : Int) (u : Nat → Nat) (hu : okv A u g) (hj : nzm u g = 2) (hs : svm A u g = sum) (bs1 : -180000 ≤ sum) (bs2 : sum ≤ 180000) (st : Nat) (hu0 : ∀ i, st ≤ i → i < 9 → u i = 0) : ∀ m c U s K, c + m = g → st ≤ c → (∀ i, i < 9 → U i = nI (u i)) → RS A g out s K → ∃ U' s', pb_run T_X12_third (4, [some (.ref 64), none, some (.int (iI sum)), some (.int (nI c)), none, none], [], mS b U s) = some (none, mS b U' s') ∧ (∀ i, i < 9 → U' i = nI (u i)) ∧ RS A g out s' (fun k => K k + kN A out k 1 m c 2 sum) ∧ mono g s s' ∧ ∀ v k, k ≤ 3 → exv v u c → Mem A g out k v → ¬ exv v u g → nzm v g ≤ 2 + 1 + 0 → Cov g s' v k := by
  refine mx_node hg 0 2 st sum u (fun c w => pb_run T_X12_third (4, [some (.ref 64), none, some (.int (iI sum)), some (.int (nI c)), none, none], [], w)) (fun c x w => pb_run T_X12_third (15, [some (.ref 64), none, some (.int (iI sum)), some (.int (nI c)), some (.int (nI x)), none], [], w)) (fun w => some (none, w)) hu0 ?_ ?_ ?_ ?_ ?_
  · intro c U s h1 h2
    show pb_run T_X12_third _ = _
    rw [r_X12_third_4, show (mS b U s).1 64 71 = nI g from h71, if_pos (show nI c < nI g from nI_lt (by omega) (by omega))]
    rfl
  · intro U s
    show pb_run T_X12_third _ = _
    rw [r_X12_third_4, show (mS b U s).1 64 71 = nI g from h71, if_neg (show ¬ nI g < nI g from fun q => by rw [nI_ltI (by omega) (by omega)] at q; omega)]
  · intro c U s h1 h2
    show pb_run T_X12_third _ = _
    rw [r_X12_third_15, if_pos (show (6 : Int32) < nI 7 by decide), if_pos (pn_in (show c < 9 by omega) (by decide)), nI_1, nI_clamp (show c < 2 ^ 31 by omega), mS_U]
    rfl
  · intro c x U s h1 h2 h3 h4 h5
    show pb_run T_X12_third _ = _
    rw [r_X12_third_15, if_neg (show ¬ (6 : Int32) < nI x from nI_nlt (a := 6) h4 (by decide)), hbr c x U s h2 h3 h4, pb_bI_some, h5, if_pos (show iI 0 = (0 : Int32) from rfl), nI_1]
  · intro c x U s K h1 h2 h3 h4 h5 hU hR
    have bA := hB c x
    have B := mx_body hg h71 h72 hB 0 2 sum u hu hj (by omega) hs b1 b2 (by omega) (by omega) c x U s K h2 h3 h4 h5 (fun i a => hu0 i (by omega)) hU hR (fun w => pb_run T_X12_third (15, [some (.ref 64), none, some (.int (iI sum)), some (.int (nI c)), some (.int (nI (x + 1))), none], [], w)) (fun w => pb_run T_X12_third (15, [some (.ref 64), none, some (.int (iI sum)), some (.int (nI c)), some (.int (nI (x + 1))), none], [], w)) (by
      intro s1 K1 hR1
      refine ⟨upd U c (nI x), s1, rfl, ?_, RS_K hR1 (fun k _ => by show K1 k + kN A out k 0 (g - (c + 1)) (c + 1) (2 + 1) (sum + A c x) = K1 k; cases g - (c + 1) <;> rw [kN] <;> rfl), fun v k _ h => h, ?_⟩
      · intro i hi
        rw [pu_at]
        by_cases z : i = c
        · rw [if_pos z, z, upv_at]
        · rw [if_neg z, hU i hi z, show upv u c x i = u i from if_neg z]
      · intro v k hk e1 e2 e3 e4
        refine absurd (flat_ex (by omega) e1 (fun i a b => ?_) ?_) e3
        · rw [show upv u c x i = u i from if_neg (by omega)]
          exact hu0 i (by omega) (by omega)
        · rw [(upv_full A u (hu0 c h1 (by omega)) (show x ≠ 0 by omega) g h2).2, hj]
          exact e4)
    obtain ⟨U', s', y1, y⟩ := B
    refine ⟨U', s', ?_, y⟩
    rw [← y1]
    show pb_run T_X12_third _ = _
    rw [r_X12_third_15, if_neg (show ¬ (6 : Int32) < nI x from nI_nlt (a := 6) h4 (by decide)), hbr c x U s h2 h3 h4, pb_bI_some, if_neg (iI_ne0 (by omega) (by omega) h5), if_pos (pn_in (show c < 9 by omega) (by decide)), nI_1, nI_clamp (show c < 2 ^ 31 by omega), mS_U, iI_add]
    rfl
theorem mx_second {b : pb_W} {A : Nat → Nat → Int} {g : Nat} {out : Int} (hg : g ≤ 9) (h71 : b.1 64 71 = nI g) (h72 : b.1 64 72 = iI out) (hB : ∀ i x, -90000 ≤ A i x ∧ A i x ≤ 90000) (hbr : Brg b A g) (b1 : -5000000 ≤ out) (b2 : out ≤ 5000000) (sum : Int) (u : Nat → Nat) (hu : okv A u g) (hj : nzm u g = 1) (hs : svm A u g = sum) (bs1 : -90000 ≤ sum) (bs2 : sum ≤ 90000) (st : Nat) (hu0 : ∀ i, st ≤ i → i < 9 → u i = 0) (a3 : Int32) (x0 : Nat) : ∀ m c U s K, c + m = g → st ≤ c → (∀ i, i < 9 → U i = nI (u i)) → RS A g out s K → ∃ U' s', pb_run T_X12_slipsOf (94, [some (.ref 64), none, none, some (.int a3), some (.int (nI x0)), some (.int (iI sum)), some (.int (nI c)), none, none], [], mS b U s) = pb_run T_X12_slipsOf (50, [some (.ref 64), none, none, some (.int a3), some (.int (nI (x0 + 1))), none, none, none, none], [], mS b U' s') ∧ (∀ i, i < 9 → U' i = nI (u i)) ∧ RS A g out s' (fun k => K k + kN A out k 2 m c 1 sum) ∧ mono g s s' ∧ ∀ v k, k ≤ 3 → exv v u c → Mem A g out k v → ¬ exv v u g → nzm v g ≤ 1 + 1 + 1 → Cov g s' v k := by
  refine mx_node hg 1 1 st sum u (fun c w => pb_run T_X12_slipsOf (94, [some (.ref 64), none, none, some (.int a3), some (.int (nI x0)), some (.int (iI sum)), some (.int (nI c)), none, none], [], w)) (fun c x w => pb_run T_X12_slipsOf (106, [some (.ref 64), none, none, some (.int a3), some (.int (nI x0)), some (.int (iI sum)), some (.int (nI c)), some (.int (nI x)), none], [], w)) (fun w => pb_run T_X12_slipsOf (50, [some (.ref 64), none, none, some (.int a3), some (.int (nI (x0 + 1))), none, none, none, none], [], w)) hu0 ?_ ?_ ?_ ?_ ?_
  · intro c U s h1 h2
    show pb_run T_X12_slipsOf _ = _
    rw [r_X12_slipsOf_94, show (mS b U s).1 64 71 = nI g from h71, if_pos (show nI c < nI g from nI_lt (by omega) (by omega))]
    rfl
  · intro U s
    show pb_run T_X12_slipsOf _ = _
    rw [r_X12_slipsOf_94, show (mS b U s).1 64 71 = nI g from h71, if_neg (show ¬ nI g < nI g from fun q => by rw [nI_ltI (by omega) (by omega)] at q; omega), nI_1]
  · intro c U s h1 h2
    show pb_run T_X12_slipsOf _ = _
    rw [r_X12_slipsOf_106, if_pos (show (6 : Int32) < nI 7 by decide), if_pos (pn_in (show c < 9 by omega) (by decide)), nI_1, nI_clamp (show c < 2 ^ 31 by omega), mS_U]
    rfl
  · intro c x U s h1 h2 h3 h4 h5
    show pb_run T_X12_slipsOf _ = _
    rw [r_X12_slipsOf_106, if_neg (show ¬ (6 : Int32) < nI x from nI_nlt (a := 6) h4 (by decide)), hbr c x U s h2 h3 h4, pb_bI_some, h5, if_pos (show iI 0 = (0 : Int32) from rfl), nI_1]
  · intro c x U s K h1 h2 h3 h4 h5 hU hR
    have bA := hB c x
    obtain ⟨f1, f2⟩ := upv_full A u (hu0 c h1 (by omega)) (show x ≠ 0 by omega) g h2
    rw [hs] at f1
    rw [hj] at f2
    have B := mx_body hg h71 h72 hB 1 1 sum u hu hj (by omega) hs b1 b2 (by omega) (by omega) c x U s K h2 h3 h4 h5 (fun i a => hu0 i (by omega)) hU hR (fun w => pb_bV (M_X12_third [.ref 64, .int (nI c), .int (iI (sum + A c x))] w) fun w4 => pb_run T_X12_slipsOf (106, [some (.ref 64), none, none, some (.int a3), some (.int (nI x0)), some (.int (iI sum)), some (.int (nI c)), some (.int (nI (x + 1))), none], [], w4)) (fun w => pb_run T_X12_slipsOf (106, [some (.ref 64), none, none, some (.int a3), some (.int (nI x0)), some (.int (iI sum)), some (.int (nI c)), some (.int (nI (x + 1))), none], [], w)) (by
      intro s1 K1 hR1
      obtain ⟨U', s', y1, y⟩ := mx_third hg h71 h72 hB hbr b1 b2 (sum + A c x) (upv u c x) (upv_okg hu ⟨h4, h5⟩) f2 f1 (by omega) (by omega) (c + 1) (fun i a b => by rw [show upv u c x i = u i from if_neg (by omega)]; exact hu0 i (by omega) b) (g - (c + 1)) (c + 1) (upd U c (nI x)) s1 K1 (by omega) (Nat.le_refl _) (fun i hi => by
        rw [pu_at]
        by_cases z : i = c
        · rw [if_pos z, z, upv_at]
        · rw [if_neg z, hU i hi z, show upv u c x i = u i from if_neg z]) hR1
      refine ⟨U', s', ?_, y⟩
      rw [e_X12_third, nI_1, y1, pb_bV_some])
    obtain ⟨U', s', y1, y⟩ := B
    refine ⟨U', s', ?_, y⟩
    rw [← y1]
    show pb_run T_X12_slipsOf _ = _
    rw [r_X12_slipsOf_106, if_neg (show ¬ (6 : Int32) < nI x from nI_nlt (a := 6) h4 (by decide)), hbr c x U s h2 h3 h4, pb_bI_some, if_neg (iI_ne0 (by omega) (by omega) h5), if_pos (pn_in (show c < 9 by omega) (by decide)), nI_1, nI_clamp (show c < 2 ^ 31 by omega), mS_U, iI_add]
    rfl
theorem mx_first {b : pb_W} {A : Nat → Nat → Int} {g : Nat} {out : Int} (hg : g ≤ 9) (h71 : b.1 64 71 = nI g) (h72 : b.1 64 72 = iI out) (hB : ∀ i x, -90000 ≤ A i x ∧ A i x ≤ 90000) (hbr : Brg b A g) (b1 : -5000000 ≤ out) (b2 : out ≤ 5000000) : ∀ m c U s K, c + m = g → 0 ≤ c → (∀ i, i < 9 → U i = nI 0) → RS A g out s K → ∃ U' s', pb_run T_X12_slipsOf (39, [some (.ref 64), none, none, some (.int (nI c)), none, none, none, none, none], [], mS b U s) = some (none, mS b U' s') ∧ (∀ i, i < 9 → U' i = nI 0) ∧ RS A g out s' (fun k => K k + kN A out k 3 m c 0 0) ∧ mono g s s' ∧ ∀ v k, k ≤ 3 → exv v (fun _ => 0) c → Mem A g out k v → ¬ exv v (fun _ => 0) g → nzm v g ≤ 0 + 1 + 2 → Cov g s' v k := by
  have z0 : ∀ n, svm A (fun _ => 0) n = 0 ∧ nzm (fun _ => 0) n = 0 := by
    intro n
    induction n with
    | zero => exact ⟨rfl, rfl⟩
    | succ n ih =>
      rw [svm, nzm, ih.1, ih.2, if_pos rfl, if_pos rfl]
      exact ⟨rfl, rfl⟩
  refine mx_node hg 2 0 0 0 (fun _ => 0) (fun c w => pb_run T_X12_slipsOf (39, [some (.ref 64), none, none, some (.int (nI c)), none, none, none, none, none], [], w)) (fun c x w => pb_run T_X12_slipsOf (50, [some (.ref 64), none, none, some (.int (nI c)), some (.int (nI x)), none, none, none, none], [], w)) (fun w => some (none, w)) (fun _ _ _ => rfl) ?_ ?_ ?_ ?_ ?_
  · intro c U s h1 h2
    show pb_run T_X12_slipsOf _ = _
    rw [r_X12_slipsOf_39, show (mS b U s).1 64 71 = nI g from h71, if_pos (show nI c < nI g from nI_lt (by omega) (by omega))]
    rfl
  · intro U s
    show pb_run T_X12_slipsOf _ = _
    rw [r_X12_slipsOf_39, show (mS b U s).1 64 71 = nI g from h71, if_neg (show ¬ nI g < nI g from fun q => by rw [nI_ltI (by omega) (by omega)] at q; omega)]
  · intro c U s h1 h2
    show pb_run T_X12_slipsOf _ = _
    rw [r_X12_slipsOf_50, if_pos (show (6 : Int32) < nI 7 by decide), if_pos (pn_in (show c < 9 by omega) (by decide)), nI_1, nI_clamp (show c < 2 ^ 31 by omega), mS_U]
    rfl
  · intro c x U s h1 h2 h3 h4 h5
    show pb_run T_X12_slipsOf _ = _
    rw [r_X12_slipsOf_50, if_neg (show ¬ (6 : Int32) < nI x from nI_nlt (a := 6) h4 (by decide)), hbr c x U s h2 h3 h4, pb_bI_some, h5, if_pos (show iI 0 = (0 : Int32) from rfl), nI_1]
  · intro c x U s K h1 h2 h3 h4 h5 hU hR
    have bA := hB c x
    obtain ⟨f1, f2⟩ := upv_full A (fun _ => 0) (c := c) rfl (show x ≠ 0 by omega) g h2
    rw [(z0 g).1] at f1
    rw [(z0 g).2] at f2
    have B := mx_body hg h71 h72 hB 2 0 0 (fun _ => 0) (fun i hi => Or.inl rfl) (z0 g).2 (by omega) (z0 g).1 b1 b2 (by omega) (by omega) c x U s K h2 h3 h4 h5 (fun i a _ => rfl) hU hR (fun w => pb_run T_X12_slipsOf (94, [some (.ref 64), none, none, some (.int (nI c)), some (.int (nI x)), some (.int (iI (0 + A c x))), some (.int (nI (c + 1))), none, none], [], w)) (fun w => pb_run T_X12_slipsOf (50, [some (.ref 64), none, none, some (.int (nI c)), some (.int (nI (x + 1))), none, none, none, none], [], w)) (by
      intro s1 K1 hR1
      exact mx_second hg h71 h72 hB hbr b1 b2 (0 + A c x) (upv (fun _ => 0) c x) (upv_okg (fun i hi => Or.inl rfl) ⟨h4, h5⟩) f2 f1 (by omega) (by omega) (c + 1) (fun i a b => if_neg (by omega)) (nI c) x (g - (c + 1)) (c + 1) (upd U c (nI x)) s1 K1 (by omega) (Nat.le_refl _) (fun i hi => by
        rw [pu_at]
        by_cases z : i = c
        · rw [if_pos z, z, upv_at]
        · rw [if_neg z, hU i hi z, show upv (fun _ => 0) c x i = 0 from if_neg z]) hR1)
    obtain ⟨U', s', y1, y⟩ := B
    refine ⟨U', s', ?_, y⟩
    rw [← y1, Int.zero_add]
    show pb_run T_X12_slipsOf _ = _
    rw [r_X12_slipsOf_50, if_neg (show ¬ (6 : Int32) < nI x from nI_nlt (a := 6) h4 (by decide)), hbr c x U s h2 h3 h4, pb_bI_some, if_neg (iI_ne0 (by omega) (by omega) h5), if_pos (pn_in (show c < 9 by omega) (by decide)), nI_1, nI_clamp (show c < 2 ^ 31 by omega), mS_U]
    rfl
