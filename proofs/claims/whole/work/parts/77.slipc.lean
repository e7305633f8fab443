/-! ===== SLIPS: the class's search ===== -/
theorem nzm_mono (v : Nat → Nat) (i : Nat) : ∀ j, nzm v i ≤ nzm v (i + j)
  | 0 => Nat.le_refl _
  | j + 1 => by
    have := nzm_mono v i j
    show _ ≤ nzm v ((i + j) + 1)
    rw [nzm]
    omega
theorem sm6_ge {f : Nat → Nat} : ∀ m x y, x ≤ y → y < x + m → f y ≤ sm6 f m x
  | 0, x, y, h1, h2 => by omega
  | m + 1, x, y, h1, h2 => by
    rw [sm6]
    by_cases q : y = x
    · rw [q]; omega
    · have := sm6_ge (f := f) m (x + 1) y (by omega) (by omega)
      omega
theorem sm6_sn (f : Nat → Nat) : ∀ m x, sm6 f (m + 1) x = sm6 f m x + f (x + m)
  | 0, x => by
    show f x + 0 = 0 + f x
    omega
  | m + 1, x => by
    rw [sm6, sm6_sn f m (x + 1), sm6, show x + 1 + m = x + (m + 1) by omega]
    omega
theorem sm6_le {f : Nat → Nat} {B : Nat} : ∀ m x, (∀ y, f y ≤ B) → sm6 f m x ≤ m * B
  | 0, x, _ => by rw [sm6]; omega
  | m + 1, x, h => by
    have := sm6_le m (x + 1) h
    have := h x
    rw [sm6, Nat.succ_mul]
    omega
theorem cC_le (A : Nat → Nat → Int) : ∀ m a l r, cC A m a l r ≤ 7 ^ m
  | 0, a, l, r => by
    rw [cC]
    split <;> decide
  | m + 1, a, l, r => by
    have h1 := cC_le A m (a + 1) l r
    have h2 := sm6_le (f := fun x => if A a x = 0 then 0 else cC A m (a + 1) (l - 1) (r - A a x)) (B := 7 ^ m) 6 1 (fun y => by
      show (if A a y = 0 then 0 else cC A m (a + 1) (l - 1) (r - A a y)) ≤ 7 ^ m
      split
      · exact Nat.zero_le _
      · exact cC_le A m (a + 1) _ _)
    rw [cC, Nat.pow_succ]
    split
    · omega
    · omega
theorem cC_mem {A : Nat → Nat → Int} {g : Nat} {out : Int} {k : Nat} {v : Nat → Nat} (h : Mem A g out k v) : ∀ m a left, a + m = g → nzm v a + left = k → 0 < cC A m a left (out - svm A v a) := by
  intro m
  induction m with
  | zero =>
    intro a left ha hl
    obtain ⟨-, c, c1, c2⟩ := h
    have e : a = g := by omega
    subst e
    rw [cC, if_pos (by omega)]
    decide
  | succ m ih =>
    intro a left ha hl
    rw [cC]
    by_cases z : v a = 0
    · have n1 : nzm v (a + 1) = nzm v a := by rw [nzm, if_pos z, Nat.add_zero]
      have s1 : svm A v (a + 1) = svm A v a := by rw [svm, if_pos z, Int.add_zero]
      have := ih (a + 1) left (by omega) (by omega)
      rw [s1] at this
      omega
    · have n1 : nzm v (a + 1) = nzm v a + 1 := by rw [nzm, if_neg z]
      have s1 : svm A v (a + 1) = svm A v a + A a (v a) := by rw [svm, if_neg z]
      have mo := nzm_mono v (a + 1) m
      rw [show a + 1 + m = g by omega] at mo
      obtain ⟨-, c, c1, c2⟩ := id h
      have l0 : left ≠ 0 := by omega
      have o := (h.1 a (by omega)).resolve_left z
      have := ih (a + 1) (left - 1) (by omega) (by omega)
      rw [s1, show out - (svm A v a + A a (v a)) = out - svm A v a - A a (v a) by omega] at this
      have ge := sm6_ge (f := fun x => if A a x = 0 then 0 else cC A m (a + 1) (left - 1) (out - svm A v a - A a x)) 6 1 (v a) (by omega) (by omega)
      simp only [if_neg o.2] at ge
      rw [if_neg l0]
      omega
/-- the class's world in the search -/
def cst (b : pb_W) (T Fi : Nat → Int32) (r c : Int32) : pb_W := pb_wI (pb_wI (pb_wF (pb_wF b 37 T) 38 Fi) 31 11 r) 31 12 c
theorem cst_T (b : pb_W) (T Fi : Nat → Int32) (r c : Int32) (k : Nat) (v : Int32) : pb_wI (cst b T Fi r c) 37 k v = cst b (upd T k v) Fi r c := by
  refine Prod.ext (funext fun d => ?_) rfl
  by_cases d37 : d = 37
  · subst d37; rfl
  · simp [cst, pw_I1, pw_F1, d37]
theorem cst_r (b : pb_W) (T Fi : Nat → Int32) (r c r' : Int32) : pb_wI (cst b T Fi r c) 31 11 r' = cst b T Fi r' c := by
  refine Prod.ext (funext fun d => funext fun k => ?_) rfl
  by_cases d31 : d = 31
  · subst d31
    show (if k = 11 then r' else if k = 12 then c else if k = 11 then r else b.1 31 k) = if k = 12 then c else if k = 11 then r' else b.1 31 k
    by_cases q : k = 11
    · subst q; rfl
    · simp only [if_neg q]
  · simp [cst, pw_I1, pw_F1, d31]
theorem cst_f (b : pb_W) (T Fi Fi' : Nat → Int32) (r c r' c' : Int32) : pb_wI (pb_wF (pb_wI (cst b T Fi r c) 31 12 c') 38 Fi') 31 11 r' = cst b T Fi' r' c' := by
  refine Prod.ext (funext fun d => funext fun k => ?_) rfl
  by_cases d31 : d = 31
  · subst d31
    show (if k = 11 then r' else if k = 12 then c' else if k = 12 then c else if k = 11 then r else b.1 31 k) = if k = 12 then c' else if k = 11 then r' else b.1 31 k
    by_cases q : k = 11
    · subst q; rfl
    · simp only [if_neg q]
      by_cases q2 : k = 12
      · simp only [if_pos q2]
      · simp only [if_neg q2]
  · by_cases d38 : d = 38
    · subst d38; rfl
    · simp [cst, pw_I1, pw_F1, d31, d38]
def Fnd (A : Nat → Nat → Int) (g : Nat) (out : Int) (k : Nat) (u : Nat → Nat) (a : Nat) (Fi : Nat → Int32) (c : Int32) (fv : Nat → Nat) : Prop := (∀ i, i < g → Fi i = nI (fv i)) ∧ exv fv u a ∧ Mem A g out k fv ∧ (∃ z : Int, c = iI z ∧ out = svm A fv g + 12 * z) ∧ ∀ v, exv v u a → Mem A g out k v → lxe fv v g
theorem M_found_0 {b : pb_W} {g : Nat} (hg : g ≤ 9) (h5 : b.1 31 5 = nI g) (T Fi : Nat → Int32) (c c' : Int32) : M_X6_found [.ref 31, .int c'] (cst b T Fi (nI 0) c) = some (none, cst b T (va_cpy T Fi 0 0 g) (nI 1) c') := by
  have e0 : ((0 : Int32)).toInt = 0 := by decide
  have eg : (nI g).toInt = (g : Int) := nI_toInt (by omega)
  rw [e_X6_found, if_pos (show (cst b T Fi (nI 0) c).1 31 11 = 0 from rfl), show (cst b T Fi (nI 0) c).1 31 5 = nI g from h5, if_pos (by rw [e0, eg]; omega), cst_f, nI_clamp (show g < 2 ^ 31 by omega)]
  rfl
theorem M_found_r {b : pb_W} {r : Nat} (hr : r ≠ 0) (hr2 : r < 2 ^ 31) (T Fi : Nat → Int32) (c c' : Int32) : M_X6_found [.ref 31, .int c'] (cst b T Fi (nI r) c) = some (none, cst b T Fi (nI (r + 1)) c) := by
  rw [e_X6_found, if_neg (show ¬ (cst b T Fi (nI r) c).1 31 11 = 0 from fun q => hr ((nI_eq (b := 0) hr2 (by decide)).mp q)), show (cst b T Fi (nI r) c).1 31 11 = nI r from rfl, nI_1, cst_r]
theorem va_at0 (s d : Nat → Int32) (n i : Nat) : va_cpy s d 0 0 n i = if i < n then s i else d i := by
  unfold va_cpy
  simp
theorem iI_mulN (a : Int) (n : Nat) (hn : n < 2 ^ 31) : iI a * nI n = iI (a * n) := by rw [iI_n hn, iI_mul]
theorem cx_leaf {b : pb_W} {A : Nat → Nat → Int} {g k : Nat} {out : Int} (hg : g ≤ 9) (h5 : b.1 31 5 = nI g) (hk : k ≤ 3) (left : Nat) (u fv : Nat → Nat) (T Fi : Nat → Int32) (r : Nat) (c : Int32) (ho : okv A u g) (hn : nzm u g + left = k) (b1 : -6000000 ≤ out - svm A u g) (b2 : out - svm A u g ≤ 6000000) (hT : ∀ i, i < g → T i = nI (u i)) (hr : r + cC A 0 g left (out - svm A u g) < 2 ^ 31) : ∃ Fi' c' fv', M_X6_tryCarry [.ref 31, .int (nI left), .int (iI (out - svm A u g))] (cst b T Fi (nI r) c) = some (none, cst b T Fi' (nI (r + cC A 0 g left (out - svm A u g))) c') ∧ (r ≠ 0 → Fi' = Fi ∧ c' = c ∧ fv' = fv) ∧ (r = 0 → cC A 0 g left (out - svm A u g) = 0 → Fi' = Fi ∧ c' = c) ∧ (r = 0 → cC A 0 g left (out - svm A u g) ≠ 0 → Fnd A g out k u g Fi' c' fv') := by
  have m12 : (-12 : Int32) * nI left = iI (-12 * (left : Int)) := by
    rw [show (-12 : Int32) = iI (-12) by decide, iI_mulN _ _ (by omega)]
  have p12 : (12 : Int32) * nI left = iI (12 * (left : Int)) := by
    rw [show (12 : Int32) = iI 12 by decide, iI_mulN _ _ (by omega)]
  have q1 : (iI (out - svm A u g) = iI (-12 * (left : Int))) ↔ out - svm A u g = -12 * (left : Int) := iI_eq (by omega) (by omega) (by omega) (by omega)
  have q2 : (iI (out - svm A u g) = iI (12 * (left : Int))) ↔ out - svm A u g = 12 * (left : Int) := iI_eq (by omega) (by omega) (by omega) (by omega)
  have ng : -nI left = iI (-(left : Int)) := by rw [iI_n (by omega)]; exact (Int32.ofInt_neg _).symm
  rw [cC] at hr ⊢
  have fnd : ∀ z : Int, (out - svm A u g = 12 * z) → z.natAbs = left → Fnd A g out k u g (va_cpy T Fi 0 0 g) (iI z) u := by
    intro z hz hl
    refine ⟨fun i hi => ?_, fun i hi => rfl, ⟨ho, z, by omega, by omega⟩, ⟨z, rfl, by omega⟩, fun v hv _ => Or.inl fun i hi => (hv i hi).symm⟩
    rw [va_at0, if_pos hi]
    exact hT i hi
  rw [e_X6_tryCarry, m12, p12]
  by_cases t1 : out - svm A u g = -12 * (left : Int)
  · rw [if_pos (q1.mpr t1), if_pos (Or.inl t1)]
    rw [if_pos (Or.inl t1)] at hr
    by_cases z : r = 0
    · subst z
      rw [M_found_0 hg h5, pb_bV_some, ng]
      exact ⟨_, _, u, rfl, fun q => absurd rfl q, fun _ q => by omega, fun _ _ => fnd (-(left : Int)) (by omega) (by omega)⟩
    · rw [M_found_r z (by omega), pb_bV_some]
      exact ⟨_, _, fv, rfl, fun _ => ⟨rfl, rfl, rfl⟩, fun q => absurd q z, fun q => absurd q z⟩
  · rw [if_neg (fun q => t1 (q1.mp q))]
    by_cases t2 : out - svm A u g = 12 * (left : Int)
    · rw [if_pos (q2.mpr t2), if_pos (Or.inr t2)]
      rw [if_pos (Or.inr t2)] at hr
      by_cases z : r = 0
      · subst z
        rw [M_found_0 hg h5, pb_bV_some]
        refine ⟨_, _, u, rfl, fun q => absurd rfl q, fun _ q => by omega, fun _ _ => ?_⟩
        have := fnd (left : Int) t2 (by omega)
        rw [← iI_n (by omega)] at this
        exact this
      · rw [M_found_r z (by omega), pb_bV_some]
        exact ⟨_, _, fv, rfl, fun _ => ⟨rfl, rfl, rfl⟩, fun q => absurd q z, fun q => absurd q z⟩
    · rw [if_neg (fun q => t2 (q2.mp q)), if_neg (fun q => q.elim t1 t2)]
      exact ⟨_, _, fv, rfl, fun _ => ⟨rfl, rfl, rfl⟩, fun _ _ => ⟨rfl, rfl⟩, fun _ q => absurd rfl q⟩
