theorem pw_I_self (w : pb_W) (c k : Nat) : pb_wI w c k (w.1 c k) = w := by
  refine Prod.ext (funext fun d => funext fun j => ?_) rfl
  rw [pw_I1]
  by_cases q : d = c
  · subst q
    rw [if_pos rfl, pu_at]
    by_cases z : j = k
    · rw [if_pos z, z]
    · rw [if_neg z]
  · rw [if_neg q]
theorem pw_I_I (w : pb_W) (c k : Nat) (x y : Int32) : pb_wI (pb_wI w c k x) c k y = pb_wI w c k y := by
  refine Prod.ext (funext fun d => funext fun j => ?_) rfl
  simp only [pw_I1]
  by_cases q : d = c
  · simp only [if_pos q, if_true, ite_true, pu_at]
    by_cases z : j = k
    · simp only [if_pos z]
    · simp only [if_neg z]
  · simp only [if_neg q]
theorem cst_10 (b : pb_W) (T Fi : Nat → Int32) (r c v : Int32) : pb_wI (cst b T Fi r c) 31 10 v = cst (pb_wI b 31 10 v) T Fi r c := by
  refine Prod.ext (funext fun d => funext fun k => ?_) rfl
  by_cases d31 : d = 31
  · subst d31
    show (if k = 10 then v else if k = 12 then c else if k = 11 then r else b.1 31 k) = if k = 12 then c else if k = 11 then r else if k = 10 then v else b.1 31 k
    by_cases q : k = 10
    · subst q; rfl
    · simp only [if_neg q]
  · simp [cst, pw_I1, pw_F1, d31]
theorem cx_expl {A : Nat → Nat → Int} {g : Nat} {out : Int} (hg : g ≤ 9) (hB : ∀ i x, -90000 ≤ A i x ∧ A i x ≤ 90000) (b1 : -5000000 ≤ out) (b2 : out ≤ 5000000) : ∀ q k (b : pb_W) T Fi c, b.1 31 5 = nI g → (∀ i x, i < g → 1 ≤ x → x ≤ 6 → b.1 36 (i * 7 + x) = iI (A i x)) → k + q = 4 → (∀ k', k' < k → cC A g 0 k' out = 0) → ∃ T' Fi' c' k1 r x, pb_run T_X6_explain (35, [some (.ref 31), none, none, some (.int (iI out)), some (.int (nI k))], [], cst b T Fi (nI 0) c) = some (some (.int x), cst (pb_wI b 31 10 k1) T' Fi' (nI r) c') ∧ ((x = 0 ∧ ∀ k', k' ≤ 3 → cC A g 0 k' out = 0) ∨ (x = 1 ∧ ∃ k0 fv, k0 ≤ 3 ∧ k1 = nI k0 ∧ r = cC A g 0 k0 out ∧ r ≠ 0 ∧ (∀ k', k' < k0 → cC A g 0 k' out = 0) ∧ Fnd A g out k0 (fun _ => 0) 0 Fi' c' fv)) := by
  intro q
  induction q with
  | zero =>
    intro k b T Fi c h5 hA hk h0
    have e : k = 4 := by omega
    subst e
    refine ⟨T, Fi, c, b.1 31 10, 0, 0, ?_, Or.inl ⟨rfl, fun k' hk' => h0 k' (by omega)⟩⟩
    rw [r_X6_explain_35, if_pos (show (3 : Int32) < nI 4 by decide), show (cst b T Fi (nI 0) c).1 31 11 = nI 0 from rfl, if_neg (show ¬ (0 : Int32) < nI 0 by decide), pw_I_self]
  | succ q ih =>
    intro k b T Fi c h5 hA hk h0
    have l9 := cC_le A g 0 k out
    have l79 : 7 ^ g ≤ 7 ^ 9 := Nat.pow_le_pow_right (by decide) hg
    have c79 : 7 ^ 9 < 2 ^ 31 := by decide
    have zs : out - svm A (fun _ => 0) 0 = out := Int.sub_zero out
    obtain ⟨T', Fi', c', fv', y1, -, -, y4, y5⟩ := cx_try (b := pb_wI b 31 10 (nI k)) (A := A) (g := g) (k := k) (out := out) hg h5 hA hB (by omega) g 0 11 k (fun _ => 0) (fun _ => 0) T Fi 0 c (by omega) (by omega) (fun i hi => by omega) (by show 0 + k = k; omega) (by rw [zs]; omega) (by rw [zs]; omega) (fun i hi => by omega) (by rw [zs]; omega)
    rw [zs, Nat.zero_add] at y1
    rw [zs] at y4 y5
    rw [r_X6_explain_35, if_neg (show ¬ (3 : Int32) < nI k from nI_nlt (a := 3) (by omega) (by omega)), show (cst b T Fi (nI 0) c).1 31 11 = nI 0 from rfl, if_pos (show nI 0 = (0 : Int32) from rfl), cst_10, show M_X6_tryFrom [.ref 31, .int (0 : Int32), .int (nI k), .int (iI out)] (cst (pb_wI b 31 10 (nI k)) T Fi (nI 0) c) = _ from y1, pb_bV_some, nI_1]
    by_cases z : cC A g 0 k out = 0
    · rw [z]
      obtain ⟨T2, Fi2, c2, k1, r, x, e1, e2⟩ := ih (k + 1) (pb_wI b 31 10 (nI k)) T' Fi' c' h5 hA (by omega) (fun k' hk' => by
        by_cases w : k' = k
        · rw [w]; exact z
        · exact h0 k' (by omega))
      rw [pw_I_I] at e1
      exact ⟨T2, Fi2, c2, k1, r, x, e1, e2⟩
    · have pos : (0 : Int32) < nI (cC A g 0 k out) := nI_lt (a := 0) (by omega) (by omega)
      have ne : ¬ nI (cC A g 0 k out) = (0 : Int32) := nI_ne0 (by omega) (by omega)
      refine ⟨T', Fi', c', nI k, cC A g 0 k out, 1, ?_, Or.inr ⟨rfl, k, fv', by omega, rfl, rfl, z, h0, y5 rfl z⟩⟩
      rw [r_X6_explain_35, show (cst (pb_wI b 31 10 (nI k)) T' Fi' (nI (cC A g 0 k out)) c').1 31 11 = nI (cC A g 0 k out) from rfl, if_pos pos, if_neg ne]
      split <;> rfl
/-- the reference's whole search -/
theorem mx_zero : ∀ m i (w : pb_W) U Fi few riv c, i + m = 9 → (∀ k, k < i → U k = nI 0) → ∃ U', (∀ k, k < 9 → U' k = nI 0) ∧ pb_run T_X12_slipsOf (12, [some (.ref 64), none, none, some (.int (nI i)), none, none, none, none, none], [], mst w U Fi few riv c) = pb_bV (M_X12_look [.ref 64, .int (0 : Int32), .int (0 : Int32)] (mst w U' Fi few riv c)) fun w1 => pb_run T_X12_slipsOf (39, [some (.ref 64), none, none, some (.int (0 : Int32)), none, none, none, none, none], [], w1) := by
  intro m
  induction m with
  | zero =>
    intro i w U Fi few riv c hi h
    have e : i = 9 := by omega
    subst e
    refine ⟨U, h, ?_⟩
    rw [r_X12_slipsOf_12, if_neg (show ¬ nI 9 < (9 : Int32) by decide)]
  | succ m ih =>
    intro i w U Fi few riv c hi h
    obtain ⟨U', p, q⟩ := ih (i + 1) w (upd U i (nI 0)) Fi few riv c (by omega) (fun k hk => by
      rw [pu_at]
      by_cases z : k = i
      · rw [if_pos z]
      · rw [if_neg z]; exact h k (by omega))
    refine ⟨U', p, ?_⟩
    rw [r_X12_slipsOf_12, if_pos (show nI i < (9 : Int32) from nI_lt (b := 9) (by omega) (by decide)), if_pos (pn_in (show i < 9 by omega) (by decide)), nI_clamp (show i < 2 ^ 31 by omega), nI_1, mst_U]
    exact q
theorem mx_slipsOf {b : pb_W} {A : Nat → Nat → Int} {g : Nat} {out : Int} (hg : g ≤ 9) (h71 : b.1 64 71 = nI g) (h72 : b.1 64 72 = iI out) (hB : ∀ i x, -90000 ≤ A i x ∧ A i x ≤ 90000) (hbr : Brg b A g) (b1 : -5000000 ≤ out) (b2 : out ≤ 5000000) (a1 a2 : Int32) : ∃ U' s', M_X12_slipsOf [.ref 64, .int a1, .int a2] b = some (none, mS b U' s') ∧ RS A g out s' (fun k => cC A g 0 k out) ∧ ∀ v k, k ≤ 3 → Mem A g out k v → Cov g s' v k := by
  have e0 : pb_wI (pb_wI b 64 73 (4 : Int32)) 64 74 (0 : Int32) = mst b (b.1 108) (b.1 109) 4 0 (b.1 64 75) := by
    refine Prod.ext (funext fun d => funext fun k => ?_) rfl
    by_cases d1 : d = 64
    · subst d1
      show (if k = 74 then (0 : Int32) else if k = 73 then 4 else b.1 64 k) = if k = 75 then b.1 64 75 else if k = 74 then 0 else if k = 73 then 4 else b.1 64 k
      by_cases q : k = 75
      · subst q; rfl
      · simp only [if_neg q]
    · by_cases d2 : d = 108
      · subst d2; rfl
      · by_cases d3 : d = 109
        · subst d3; rfl
        · simp [mst, pw_I1, pw_F1, d1, d2, d3]
  obtain ⟨U0, hU0, y0⟩ := mx_zero 9 0 b (b.1 108) (b.1 109) 4 0 (b.1 64 75) (by omega) (fun k hk => by omega)
  have z0 : ∀ n, svm A (fun _ => 0) n = 0 ∧ nzm (fun _ => 0) n = 0 := by
    intro n
    induction n with
    | zero => exact ⟨rfl, rfl⟩
    | succ n ih =>
      rw [svm, nzm, ih.1, ih.2, if_pos rfl, if_pos rfl]
      exact ⟨rfl, rfl⟩
  have R0 : RS A g out (4, 0, b.1 109, b.1 64 75, fun _ => 0) (fun _ => 0) := ⟨Nat.le_refl 4, fun _ => ⟨rfl, fun _ _ => rfl⟩, fun q => absurd q (show ¬ 4 ≤ 3 by decide)⟩
  obtain ⟨s1, l1, l2, l3, l4⟩ := mx_look hg h71 h72 (fun _ => 0) U0 (4, 0, b.1 109, b.1 64 75, fun _ => 0) (fun _ => 0) hU0 (fun i hi => Or.inl rfl) (by rw [(z0 g).2]; omega) (by rw [(z0 g).1]; omega) (by rw [(z0 g).1]; omega) R0
  rw [(z0 g).1, (z0 g).2] at l1 l2 l4
  obtain ⟨U', s', n1, n2, n3, n4, n5⟩ := mx_first hg h71 h72 hB hbr b1 b2 g 0 U0 s1 _ (by omega) (Nat.le_refl 0) hU0 l2
  refine ⟨U', s', ?_, RS_K n3 (fun k hk => ?_), ?_⟩
  · rw [e_X12_slipsOf, e0]
    refine y0.trans ?_
    rw [show M_X12_look [.ref 64, .int (0 : Int32), .int (0 : Int32)] (mst b U0 (b.1 109) 4 0 (b.1 64 75)) = _ from l1, pb_bV_some]
    exact n1
  · have := kN_cC A out (k := k) g 3 0 0 0 (by omega) (by omega)
    rw [Int.sub_zero, Nat.sub_zero] at this
    show cC A g 0 k out = 0 + t1 (tot out 0 0 k) + kN A out k 3 g 0 0 0
    omega
  · intro v k hk hm
    obtain ⟨-, c, c1, c2⟩ := id hm
    by_cases e : exv v (fun _ => 0) g
    · refine n4 v k hk (Cov_ex (l4 k hk ?_) e)
      have := tot_of hm e
      rw [(z0 g).1, (z0 g).2] at this
      exact this
    · exact n5 v k hk (fun i hi => by omega) hm e (by omega)
theorem slip_none {A : Nat → Nat → Int} {g : Nat} {out : Int} {s : Sst} (hR : RS A g out s (fun k => cC A g 0 k out)) (h : ∀ k', k' ≤ 3 → cC A g 0 k' out = 0) : s.1 = 4 := by
  rcases Nat.lt_or_ge 3 s.1 with q | q
  · have := hR.1
    omega
  · obtain ⟨p1, p2, -⟩ := hR.2.2 q
    exact absurd (p1.trans (h s.1 q)) p2
theorem slip_same {A : Nat → Nat → Int} {g : Nat} {out : Int} {s : Sst} (hg : g ≤ 9) (hR : RS A g out s (fun k => cC A g 0 k out)) (hC : ∀ v k, k ≤ 3 → Mem A g out k v → Cov g s v k) {k0 : Nat} {fv : Nat → Nat} {Fi : Nat → Int32} {c : Int32} (hk : k0 ≤ 3) (hr : cC A g 0 k0 out ≠ 0) (hl : ∀ k', k' < k0 → cC A g 0 k' out = 0) (hF : Fnd A g out k0 (fun _ => 0) 0 Fi c fv) : s.1 = k0 ∧ s.2.1 = cC A g 0 k0 out ∧ (∀ i, i < g → s.2.2.1 i = Fi i) ∧ s.2.2.2.1 = c := by
  have s3 : s.1 ≤ 3 := by
    rcases Nat.lt_or_ge 3 s.1 with q | q
    · have := hR.1
      exact absurd ((hR.2.1 (by omega)).2 k0 hk) hr
    · exact q
  obtain ⟨p1, p2, p3, p4, p5, z, p6, p7⟩ := hR.2.2 s3
  have e : s.1 = k0 := by
    rcases Nat.lt_trichotomy s.1 k0 with q | q | q
    · exact absurd (p1.trans (hl s.1 q)) p2
    · exact q
    · exact absurd (p3 k0 q) hr
  obtain ⟨f1, f2, f3, ⟨z', f4, f5⟩, f6⟩ := hF
  have l1 : lxe s.2.2.2.2 fv g := by
    rcases hC fv k0 hk f3 with q | q
    · omega
    · exact q.2
  have l2 : lxe fv s.2.2.2.2 g := f6 _ (fun i hi => by omega) (by rw [← e]; exact p5)
  have ex := lxe_as l1 l2
  refine ⟨e, by rw [p1, e], fun i hi => by rw [p4 i (by omega), f1 i hi, ex i hi], ?_⟩
  have sv := (svm_ex (A := A) g ex).1
  rw [p6, f4, show z = z' by omega]
