def upv (u : Nat → Nat) (a x : Nat) : Nat → Nat := fun i => if i = a then x else u i
theorem upv_ex (u : Nat → Nat) (a x : Nat) : exv (upv u a x) u a := fun i hi => if_neg (by omega)
theorem upv_at (u : Nat → Nat) (a x : Nat) : upv u a x a = x := if_pos rfl
theorem upv_sv (A : Nat → Nat → Int) (u : Nat → Nat) (a x : Nat) : svm A (upv u a x) (a + 1) = svm A u a + (if x = 0 then 0 else A a x) ∧ nzm (upv u a x) (a + 1) = nzm u a + (if x = 0 then 0 else 1) := by
  obtain ⟨p, q⟩ := svm_ex (A := A) a (upv_ex u a x)
  rw [svm, nzm, p, q, upv_at]
  exact ⟨rfl, rfl⟩
theorem upv_ok {A : Nat → Nat → Int} {u : Nat → Nat} {a x : Nat} (h : okv A u a) (hx : x = 0 ∨ (x ≤ 6 ∧ A a x ≠ 0)) : okv A (upv u a x) (a + 1) := by
  intro i hi
  by_cases q : i = a
  · rw [q, upv_at]; exact hx
  · rw [upv_ex u a x i (by omega)]
    exact h i (by omega)
theorem upv_T {T : Nat → Int32} {u : Nat → Nat} {a : Nat} (h : ∀ i, i < a → T i = nI (u i)) (x : Nat) : ∀ i, i < a + 1 → upd T a (nI x) i = nI (upv u a x i) := by
  intro i hi
  rw [pu_at]
  by_cases q : i = a
  · rw [if_pos q, q, upv_at]
  · rw [if_neg q, upv_ex u a x i (by omega)]
    exact h i (by omega)
theorem exv_up {v u : Nat → Nat} {a x : Nat} (h : exv v (upv u a x) (a + 1)) : exv v u a ∧ v a = x := ⟨fun i hi => (h i (by omega)).trans (upv_ex u a x i hi), (h a (by omega)).trans (upv_at u a x)⟩
theorem exv_up2 {v u : Nat → Nat} {a : Nat} (h : exv v u a) : exv v (upv u a (v a)) (a + 1) := by
  intro i hi
  by_cases q : i = a
  · rw [q, upv_at]
  · rw [upv_ex u a _ i (by omega)]
    exact h i (by omega)
/-- found in the branch x, with nothing found before it: first of all behind u -/
theorem Fnd_up {A : Nat → Nat → Int} {g : Nat} {out : Int} {k : Nat} {u : Nat → Nat} {a x m left : Nat} {Fi : Nat → Int32} {c : Int32} {fv : Nat → Nat} (hag : a + (m + 1) = g) (hn : nzm u a + left = k) (h : Fnd A g out k (upv u a x) (a + 1) Fi c fv) (h0 : x ≠ 0 → cC A m (a + 1) left (out - svm A u a) = 0) (hx : ∀ y, 1 ≤ y → y < x → A a y ≠ 0 → left ≠ 0 → cC A m (a + 1) (left - 1) (out - svm A u a - A a y) = 0) : Fnd A g out k u a Fi c fv := by
  obtain ⟨f1, f2, f3, f4, f5⟩ := h
  obtain ⟨e1, e2⟩ := exv_up f2
  refine ⟨f1, e1, f3, f4, fun v hv hm => ?_⟩
  rcases Nat.lt_trichotomy (v a) x with q | q | q
  · exfalso
    obtain ⟨s1, s2⟩ := upv_sv A u a (v a)
    obtain ⟨t1, t2⟩ := svm_ex (A := A) (a + 1) (exv_up2 hv)
    rw [s1] at t1
    rw [s2] at t2
    by_cases z : v a = 0
    · rw [if_pos z] at t1 t2
      have := cC_mem hm m (a + 1) left (by omega) (by omega)
      rw [t1, Int.add_zero, h0 (by omega)] at this
      omega
    · rw [if_neg z] at t1 t2
      have mo := nzm_mono v (a + 1) m
      rw [show a + 1 + m = g by omega] at mo
      obtain ⟨-, c', c1, c2⟩ := id hm
      have o := (hm.1 a (by omega)).resolve_left z
      have := cC_mem hm m (a + 1) (left - 1) (by omega) (by omega)
      rw [t1, show out - (svm A u a + A a (v a)) = out - svm A u a - A a (v a) by omega, hx (v a) (by omega) q o.2 (by omega)] at this
      omega
  · refine f5 v ?_ hm
    have := exv_up2 hv
    rw [q] at this
    exact this
  · exact Or.inr ⟨a, by omega, fun i hi => (e1 i hi).trans (hv i hi).symm, by rw [e2]; exact q⟩
theorem cx_try {b : pb_W} {A : Nat → Nat → Int} {g k : Nat} {out : Int} (hg : g ≤ 9) (h5 : b.1 31 5 = nI g) (hA : ∀ i x, i < g → 1 ≤ x → x ≤ 6 → b.1 36 (i * 7 + x) = iI (A i x)) (hB : ∀ i x, -90000 ≤ A i x ∧ A i x ≤ 90000) (hk : k ≤ 3) : ∀ m a N left u fv T Fi r c, a + m = g → m ≤ N → okv A u a → nzm u a + left = k → -5000000 - 90000 * (a : Int) ≤ out - svm A u a → out - svm A u a ≤ 5000000 + 90000 * (a : Int) → (∀ i, i < a → T i = nI (u i)) → r + cC A m a left (out - svm A u a) < 2 ^ 31 → ∃ T' Fi' c' fv', M_X6_tryFrom_ (N + 1) [.ref 31, .int (nI a), .int (nI left), .int (iI (out - svm A u a))] (cst b T Fi (nI r) c) = some (none, cst b T' Fi' (nI (r + cC A m a left (out - svm A u a))) c') ∧ (∀ i, i < a → T' i = nI (u i)) ∧ (r ≠ 0 → Fi' = Fi ∧ c' = c ∧ fv' = fv) ∧ (r = 0 → cC A m a left (out - svm A u a) = 0 → Fi' = Fi ∧ c' = c) ∧ (r = 0 → cC A m a left (out - svm A u a) ≠ 0 → Fnd A g out k u a Fi' c' fv') := by
  intro m
  induction m with
  | zero =>
    intro a N left u fv T Fi r c ha hN ho hn b1 b2 hT hr
    have e : a = g := by omega
    subst e
    obtain ⟨Fi', c', fv', y1, y2, y3, y4⟩ := cx_leaf (b := b) hg h5 hk left u fv T Fi r c ho hn (by omega) (by omega) hT hr
    refine ⟨T, Fi', c', fv', ?_, hT, y2, y3, y4⟩
    rw [e_X6_tryFrom, r_X6_tryFrom_0, show (cst b T Fi (nI r) c).1 31 5 = nI a from h5, if_neg (show ¬ nI a < nI a from fun q => by rw [nI_ltI (by omega) (by omega)] at q; omega), y1, pb_bV_some]
  | succ m ih =>
    intro a N left u fv T Fi r c ha hN ho hn b1 b2 hT hr
    obtain ⟨N', rfl⟩ : ∃ N', N = N' + 1 := ⟨N - 1, by omega⟩
    have a9 : pb_in (nI a) 9 := pn_in (by omega) (by decide)
    have l3 : left ≤ 3 := by omega
    have z0 : (iI (out - svm A u a) = (0 : Int32)) ↔ out - svm A u a = 0 := iI_eq (b := 0) (by omega) (by omega) (by omega) (by omega)
    have zl : (nI left = (0 : Int32)) ↔ left = 0 := nI_eq (b := 0) (by omega) (by omega)
    rw [e_X6_tryFrom, r_X6_tryFrom_0, show (cst b T Fi (nI r) c).1 31 5 = nI g from h5, if_pos (show nI a < nI g from nI_lt (by omega) (by omega)), if_pos a9, nI_clamp (show a < 2 ^ 31 by omega), cst_T]
    by_cases pr : left = 0 ∧ out - svm A u a ≠ 0
    · have c0 : cC A (m + 1) a left (out - svm A u a) = 0 := by rw [pr.1]; exact cC_00 A (m + 1) a _ pr.2
      rw [c0, if_pos (zl.mpr pr.1), if_neg (fun q => pr.2 (z0.mp q))]
      refine ⟨_, _, _, fv, rfl, ?_, fun _ => ⟨rfl, rfl, rfl⟩, fun _ _ => ⟨rfl, rfl⟩, fun _ q => absurd rfl q⟩
      intro i hi
      rw [pu_at, if_neg (by omega)]
      exact hT i hi
    · obtain ⟨s1, s2⟩ := upv_sv A u a 0
      rw [if_pos rfl, Int.add_zero] at s1
      rw [if_pos rfl, Nat.add_zero] at s2
      have cE : cC A (m + 1) a left (out - svm A u a) = cC A m (a + 1) left (out - svm A u a) + (if left = 0 then 0 else sm6 (fun x => if A a x = 0 then 0 else cC A m (a + 1) (left - 1) (out - svm A u a - A a x)) 6 1) := by rw [cC]
      rw [cE] at hr ⊢
      generalize hf : (fun x => if A a x = 0 then 0 else cC A m (a + 1) (left - 1) (out - svm A u a - A a x)) = f at hr ⊢
      have fE : ∀ x, f x = if A a x = 0 then 0 else cC A m (a + 1) (left - 1) (out - svm A u a - A a x) := fun x => by rw [← hf]
      obtain ⟨T0, Fi0, c0, fv0, y1, y2, y3, y4, y5⟩ := ih (a + 1) N' left (upv u a 0) fv (upd T a (nI 0)) Fi r c (by omega) (by omega) (upv_ok ho (Or.inl rfl)) (by omega) (by rw [s1]; omega) (by rw [s1]; omega) (upv_T hT 0) (by rw [s1]; omega)
      rw [s1] at y1 y4 y5
      have hT0 : ∀ i, i < a → T0 i = nI (u i) := fun i hi => by rw [y2 i (by omega), upv_ex u a 0 i hi]
      have y5' : r = 0 → cC A m (a + 1) left (out - svm A u a) ≠ 0 → Fnd A g out k u a Fi0 c0 fv0 := fun p q => Fnd_up ha hn (y5 p q) (fun z => absurd rfl z) (fun y l1 l2 => by omega)
      have E1 : (if nI left = 0 then (if iI (out - svm A u a) = 0 then (pb_bV (M_X6_tryFrom_ (N' + 1) [.ref 31, .int (nI a + (1 : Int32)), .int (nI left), .int (iI (out - svm A u a))] (cst b (upd T a (0 : Int32)) Fi (nI r) c)) fun w2 => (pb_run (T_X6_tryFrom (M_X6_tryFrom_ (N' + 1))) (43, [some (.ref 31), some (.int (nI a)), some (.int (nI left)), some (.int (iI (out - svm A u a))), some (.int (1 : Int32)), none], [], w2))) else (some (none, cst b (upd T a (0 : Int32)) Fi (nI r) c))) else (pb_bV (M_X6_tryFrom_ (N' + 1) [.ref 31, .int (nI a + (1 : Int32)), .int (nI left), .int (iI (out - svm A u a))] (cst b (upd T a (0 : Int32)) Fi (nI r) c)) fun w1 => (pb_run (T_X6_tryFrom (M_X6_tryFrom_ (N' + 1))) (43, [some (.ref 31), some (.int (nI a)), some (.int (nI left)), some (.int (iI (out - svm A u a))), some (.int (1 : Int32)), none], [], w1)))) = pb_run (T_X6_tryFrom (M_X6_tryFrom_ (N' + 1))) (43, [some (.ref 31), some (.int (nI a)), some (.int (nI left)), some (.int (iI (out - svm A u a))), some (.int (1 : Int32)), none], [], cst b T0 Fi0 (nI (r + cC A m (a + 1) left (out - svm A u a))) c0) := by
        rw [nI_1, show (upd T a (0 : Int32)) = upd T a (nI 0) from rfl, y1, pb_bV_some]
        by_cases q : left = 0
        · rw [if_pos (zl.mpr q), if_pos (z0.mpr (Classical.byContradiction fun z => pr ⟨q, z⟩))]
        · rw [if_neg (fun z => q (zl.mp z))]
      rw [E1]
      by_cases q : left = 0
      · rw [if_pos q, Nat.add_zero, r_X6_tryFrom_43, if_pos (show (1 : Int32) < 7 by decide), if_neg (show ¬ (0 : Int32) < nI left from fun z => by rw [q] at z; exact absurd z (by decide))]
        exact ⟨T0, Fi0, c0, fv0, rfl, hT0, y3, y4, y5'⟩
      · rw [if_neg q] at hr ⊢
        have lp : (0 : Int32) < nI left := nI_lt (a := 0) (by omega) (by omega)
        have loop : ∀ q' x T1 Fi1 c1 fv1, x + q' = 7 → 1 ≤ x → (∀ i, i < a → T1 i = nI (u i)) → (r ≠ 0 → Fi1 = Fi ∧ c1 = c ∧ fv1 = fv) → (r = 0 → cC A m (a + 1) left (out - svm A u a) + sm6 f (x - 1) 1 = 0 → Fi1 = Fi ∧ c1 = c) → (r = 0 → cC A m (a + 1) left (out - svm A u a) + sm6 f (x - 1) 1 ≠ 0 → Fnd A g out k u a Fi1 c1 fv1) → ∃ T' Fi' c' fv', pb_run (T_X6_tryFrom (M_X6_tryFrom_ (N' + 1))) (43, [some (.ref 31), some (.int (nI a)), some (.int (nI left)), some (.int (iI (out - svm A u a))), some (.int (nI x)), none], [], cst b T1 Fi1 (nI (r + (cC A m (a + 1) left (out - svm A u a) + sm6 f (x - 1) 1))) c1) = some (none, cst b T' Fi' (nI (r + (cC A m (a + 1) left (out - svm A u a) + sm6 f 6 1))) c') ∧ (∀ i, i < a → T' i = nI (u i)) ∧ (r ≠ 0 → Fi' = Fi ∧ c' = c ∧ fv' = fv) ∧ (r = 0 → cC A m (a + 1) left (out - svm A u a) + sm6 f 6 1 = 0 → Fi' = Fi ∧ c' = c) ∧ (r = 0 → cC A m (a + 1) left (out - svm A u a) + sm6 f 6 1 ≠ 0 → Fnd A g out k u a Fi' c' fv') := by
          intro q'
          induction q' with
          | zero =>
            intro x T1 Fi1 c1 fv1 hx _ p1 p2 p3 p4
            have e : x = 7 := by omega
            subst e
            rw [r_X6_tryFrom_43, if_neg (show ¬ nI 7 < (7 : Int32) by decide)]
            exact ⟨T1, Fi1, c1, fv1, rfl, p1, p2, p3, p4⟩
          | succ q' ihq =>
            intro x T1 Fi1 c1 fv1 hx hx1 p1 p2 p3 p4
            have ei : nI a * (7 : Int32) + nI x = nI (a * 7 + x) := by
              rw [show (7 : Int32) = nI 7 from rfl, pn_mul, nI_add]
            have sn : sm6 f x 1 = sm6 f (x - 1) 1 + f x := by
              have := sm6_sn f (x - 1) 1
              rw [show x - 1 + 1 = x by omega, show 1 + (x - 1) = x by omega] at this
              exact this
            have sl : sm6 f x 1 ≤ sm6 f 6 1 := by
              have : ∀ d, sm6 f x 1 ≤ sm6 f (x + d) 1 := by
                intro d
                induction d with
                | zero => exact Nat.le_refl _
                | succ d ihd =>
                  have := sm6_sn f (x + d) 1
                  show _ ≤ sm6 f ((x + d) + 1) 1
                  omega
              have := this (6 - x)
              rw [show x + (6 - x) = 6 by omega] at this
              exact this
            rw [r_X6_tryFrom_43, if_pos (show nI x < (7 : Int32) from nI_lt (b := 7) (by omega) (by decide)), if_pos lp, ei, if_pos (pn_in (show a * 7 + x < 63 by omega) (by decide)), nI_clamp (show a * 7 + x < 2 ^ 31 by omega), show (cst b T1 Fi1 (nI (r + (cC A m (a + 1) left (out - svm A u a) + sm6 f (x - 1) 1))) c1).1 36 (a * 7 + x) = iI (A a x) from hA a x (by omega) hx1 (by omega), nI_1]
            have bA := hB a x
            have zA : (iI (A a x) = (0 : Int32)) ↔ A a x = 0 := iI_eq (b := 0) (by omega) (by omega) (by omega) (by omega)
            by_cases w0 : A a x = 0
            · have fx : f x = 0 := by rw [fE, if_pos w0]
              rw [fx, Nat.add_zero] at sn
              rw [if_pos (zA.mpr w0)]
              have := ihq (x + 1) T1 Fi1 c1 fv1 (by omega) (by omega) p1 p2
              rw [show x + 1 - 1 = x by omega, sn] at this
              exact this p3 p4
            · have fx : f x = cC A m (a + 1) (left - 1) (out - svm A u a - A a x) := by rw [fE, if_neg w0]
              obtain ⟨t1, t2⟩ := upv_sv A u a x
              rw [if_neg (show ¬ x = 0 by omega)] at t1 t2
              obtain ⟨T2, Fi2, c2, fv2, z1, z2, z3, z4, z5⟩ := ih (a + 1) N' (left - 1) (upv u a x) fv1 (upd T1 a (nI x)) Fi1 (r + (cC A m (a + 1) left (out - svm A u a) + sm6 f (x - 1) 1)) c1 (by omega) (by omega) (upv_ok ho (Or.inr ⟨by omega, w0⟩)) (by omega) (by rw [t1]; omega) (by rw [t1]; omega) (upv_T p1 x) (by rw [t1, show out - (svm A u a + A a x) = out - svm A u a - A a x by omega, ← fx]; omega)
              rw [t1, show out - (svm A u a + A a x) = out - svm A u a - A a x by omega, ← fx] at z1 z4 z5
              rw [if_neg (fun z => w0 (zA.mp z)), if_pos a9, nI_clamp (show a < 2 ^ 31 by omega), cst_T, nI_1, show nI left - (1 : Int32) = nI (left - 1) from nI_subN (b := 1) (by omega), iI_sub, z1, pb_bV_some, show r + (cC A m (a + 1) left (out - svm A u a) + sm6 f (x - 1) 1) + f x = r + (cC A m (a + 1) left (out - svm A u a) + sm6 f x 1) by omega]
              have hT2 : ∀ i, i < a → T2 i = nI (u i) := fun i hi => by rw [z2 i (by omega), upv_ex u a x i hi]
              have := ihq (x + 1) T2 Fi2 c2 fv2 (by omega) (by omega) hT2
              rw [show x + 1 - 1 = x by omega] at this
              refine this ?_ ?_ ?_
              · intro hr0
                obtain ⟨i1, i2, i3⟩ := z3 (by omega)
                obtain ⟨j1, j2, j3⟩ := p2 hr0
                exact ⟨i1.trans j1, i2.trans j2, i3.trans j3⟩
              · intro hr0 hs
                obtain ⟨i1, i2⟩ := z4 (by omega) (by omega)
                obtain ⟨j1, j2⟩ := p3 hr0 (by omega)
                exact ⟨i1.trans j1, i2.trans j2⟩
              · intro hr0 hs
                by_cases pz : cC A m (a + 1) left (out - svm A u a) + sm6 f (x - 1) 1 = 0
                · refine Fnd_up ha hn (z5 (by omega) (by omega)) (fun _ => by omega) ?_
                  intro y l1 l2 l3 _
                  have := sm6_ge (f := f) (x - 1) 1 y l1 (by omega)
                  rw [fE, if_neg l3] at this
                  omega
                · obtain ⟨i1, i2, i3⟩ := z3 (by omega)
                  rw [i1, i2, i3]
                  exact p4 hr0 pz
        have L := loop 6 1 T0 Fi0 c0 fv0 (by omega) (by omega) hT0 y3
        rw [show sm6 f (1 - 1) 1 = 0 from rfl, Nat.add_zero] at L
        exact L y4 y5'
