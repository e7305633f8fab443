/-! ===== LIKES ===== -/
noncomputable def b1 (P : Prop) : Int32 := @ite Int32 P (Classical.propDecidable P) 1 0
theorem b1_pos {P : Prop} (h : P) : b1 P = 1 := if_pos h
theorem b1_neg {P : Prop} (h : ¬ P) : b1 P = 0 := if_neg h
theorem ite_b1 {α : Type} {P : Prop} (x y : α) : (if b1 P = 0 then x else y) = @ite α P (Classical.propDecidable P) y x := by
  by_cases h : P
  · rw [b1_pos h, if_neg (show ¬ (1 : Int32) = 0 by decide), if_pos h]
  · rw [b1_neg h, if_pos rfl, if_neg h]
theorem pcn_le (x : Nat) : ∀ i, pcn x i ≤ i ∧ (pcn x i = i ↔ ∀ b, b < i → x / 2 ^ b % 2 = 1)
  | 0 => ⟨Nat.le_refl 0, fun _ b h => by omega, fun _ => rfl⟩
  | i + 1 => by
    obtain ⟨a, b⟩ := pcn_le x i
    have m2 := Nat.mod_lt (x / 2 ^ i) (show 2 > 0 by decide)
    rw [pcn]
    refine ⟨by omega, ?_, ?_⟩
    · intro h k hk
      by_cases q : k = i
      · rw [q]; omega
      · exact b.mp (by omega) k (by omega)
    · intro h
      have := b.mpr (fun k hk => h k (by omega))
      have := h i (by omega)
      omega
theorem pcn_hi (x i : Nat) : ∀ m, (∀ b, i ≤ b → b < i + m → x / 2 ^ b % 2 = 0) → pcn x (i + m) = pcn x i
  | 0, _ => rfl
  | m + 1, h => by
    show pcn x ((i + m) + 1) = _
    rw [pcn, h (i + m) (by omega) (by omega)]
    exact pcn_hi x i m (fun b p q => h b p (by omega))
theorem tb_eq (x b : Nat) : (x / 2 ^ b % 2 = 1) ↔ x.testBit b = true := by
  rw [Nat.testBit_eq_decide_div_mod_eq]
  simp
/-- the weeks of a span in which a line went, as bits -/
abbrev wmP (w : pb_W) (f : Int32) (lo n2 k : Nat) : Prop := wf w k f ∧ lo ≤ wkN w k ∧ wkN w k < lo + n2
def wm (w : pb_W) (f : Int32) (lo n2 : Nat) : Nat → Nat
  | 0 => 0
  | i + 1 => if wmP w f lo n2 i then wm w f lo n2 i ||| 2 ^ (wkN w i - lo) else wm w f lo n2 i
theorem wm_bit (w : pb_W) (f : Int32) (lo n2 : Nat) : ∀ i b, (wm w f lo n2 i).testBit b = true ↔ ∃ k, k < i ∧ wmP w f lo n2 k ∧ wkN w k - lo = b
  | 0, b => by
    rw [wm]
    simp
  | i + 1, b => by
    have ih := wm_bit w f lo n2 i b
    rw [wm]
    by_cases t : wmP w f lo n2 i
    · rw [if_pos t, Nat.testBit_or, Bool.or_eq_true, ih, Nat.testBit_two_pow, decide_eq_true_iff]
      refine ⟨?_, ?_⟩
      · rintro (⟨k, a, c, d⟩ | q)
        · exact ⟨k, by omega, c, d⟩
        · exact ⟨i, by omega, t, q⟩
      · rintro ⟨k, a, c, d⟩
        by_cases q : k = i
        · rw [q] at d; exact Or.inr d
        · exact Or.inl ⟨k, by omega, c, d⟩
    · rw [if_neg t, ih]
      refine ⟨?_, ?_⟩
      · rintro ⟨k, a, c, d⟩
        exact ⟨k, by omega, c, d⟩
      · rintro ⟨k, a, c, d⟩
        by_cases q : k = i
        · rw [q] at c; exact absurd c t
        · exact ⟨k, by omega, c, d⟩
theorem wm_lt (w : pb_W) (f : Int32) (lo n2 i : Nat) (h : n2 ≤ 64) : wm w f lo n2 i < 2 ^ 64 := by
  refine Nat.lt_pow_two_of_testBit _ (fun b hb => ?_)
  rcases e : (wm w f lo n2 i).testBit b with _ | _
  · rfl
  · obtain ⟨k, a, c, d⟩ := (wm_bit w f lo n2 i b).mp e
    have := c.2
    omega
/-- a line went in each week of a span -/
def alP (w : pb_W) (f : Int32) (lo n2 n : Nat) : Prop := ∀ b, b < n2 → spN w f (nI (lo + b)) n ≠ 0
theorem wm_all {w : pb_W} {n : Nat} (hN : LN w n) (f : Int32) (lo n2 : Nat) (h : n2 ≤ 64) (hlo : lo + n2 ≤ 520) : pcn (wm w f lo n2 n) 64 = n2 ↔ alP w f lo n2 n := by
  have hi : pcn (wm w f lo n2 n) 64 = pcn (wm w f lo n2 n) n2 := by
    have := pcn_hi (wm w f lo n2 n) n2 (64 - n2) (fun b p q => by
      rcases e : (wm w f lo n2 n).testBit b with _ | _
      · have m2 := Nat.mod_lt (wm w f lo n2 n / 2 ^ b) (show 2 > 0 by decide)
        rcases Nat.lt_or_ge (wm w f lo n2 n / 2 ^ b % 2) 1 with z | z
        · omega
        · have := (tb_eq (wm w f lo n2 n) b).mp (by omega)
          rw [e] at this
          cases this
      · obtain ⟨k, a, c, d⟩ := (wm_bit w f lo n2 n b).mp e
        have := c.2
        omega)
    rw [show n2 + (64 - n2) = 64 by omega] at this
    exact this
  rw [hi, (pcn_le _ n2).2]
  refine ⟨fun H b hb q => ?_, fun H b hb => ?_⟩
  · obtain ⟨k, a, c, d⟩ := (wm_bit w f lo n2 n b).mp ((tb_eq _ b).mp (H b hb))
    have := spN_pos hN f (nI (lo + b)) a (Nat.le_refl n) ⟨by rw [(hN.wk k a).1]; congr 1; have := c.2; omega, c.1⟩
    omega
  · refine (tb_eq _ b).mpr ((wm_bit w f lo n2 n b).mpr (Classical.byContradiction fun q => H b hb (spN_0 f _ n (fun k hk z => q ?_))))
    have e : wkN w k = lo + b := by
      have := z.1
      rw [(hN.wk k hk).1] at this
      have l := (hN.wk k hk).2
      exact (nI_eq (by omega) (by omega)).mp this
    exact ⟨k, hk, ⟨z.2, by omega, by omega⟩, by omega⟩
theorem out_in {a lo n2 : Nat} (ha : a < 2 ^ 30) (hl : lo < 2 ^ 30) (hn : 1 ≤ n2) (hn2 : n2 < 2 ^ 30) : (nI a - nI lo < 0 ∨ nI (n2 - 1) < nI a - nI lo) ↔ ¬ (lo ≤ a ∧ a < lo + n2) := by
  have e : nI a - nI lo = iI ((a : Int) - lo) := by rw [iI_n (by omega), iI_n (by omega), iI_sub]
  rw [e, show (0 : Int32) = iI 0 from rfl, iI_n (show n2 - 1 < 2 ^ 31 by omega), iI_lt (by omega) (by omega) (by omega) (by omega), iI_lt (by omega) (by omega) (by omega) (by omega)]
  omega
theorem cx_each {w : pb_W} {n : Nat} (hN : LN w n) (f : Int32) {k0 m : Nat} (hm : 1 ≤ m) (hm2 : m ≤ 26) (hk : m ≤ k0) (hk2 : k0 + m ≤ 520) : ∀ r i, i + r = n → pb_run T_X2_wentInEach (6, [some (.ref 61), some (.int f), some (.int (nI k0)), some (.int (nI m)), some (.long (lN (wm w f (k0 - m) (2 * m) i))), none, some (.int (nI i)), none], [], w) = some (some (.int (if pcn (wm w f (k0 - m) (2 * m) n) 64 = 2 * m then 1 else 0)), w) := by
  have hn := hN.le
  have e2 : (2 : Int32) * nI m = nI (2 * m) := pn_mul 2 m
  intro r
  induction r with
  | zero =>
    intro i hi
    have e : i = n := by omega
    subst e
    have := (pcn_le (wm w f (k0 - m) (2 * m) i) 64).1
    rw [r_X2_wentInEach_6, hN.n5, if_neg (show ¬ nI i < nI i from fun q => by rw [nI_ltI (by omega) (by omega)] at q; omega), M_bitCount (wm_lt w f _ _ _ (by omega)), pb_bI_some, e2]
    by_cases q : pcn (wm w f (k0 - m) (2 * m) i) 64 = 2 * m
    · rw [if_pos q, if_pos (by rw [q])]
    · rw [if_neg q, if_neg (fun z => q ((nI_eq (by omega) (by omega)).mp z))]
  | succ r ih =>
    intro i hi
    have i200 : pb_in (nI i) 200 := pn_in (by omega) (by decide)
    obtain ⟨ew, lw⟩ := hN.wk i (by omega)
    have N := ih (i + 1) (by omega)
    rw [wm] at N
    rw [r_X2_wentInEach_6, hN.n5, if_pos (show nI i < nI n from nI_lt (by omega) (by omega)), if_pos i200, nI_clamp (show i < 2 ^ 31 by omega), ew, nI_subN hk, e2, show nI (2 * m) - (1 : Int32) = nI (2 * m - 1) from nI_subN (b := 1) (by omega), M_outside, pb_bI_some, M_wentFrom2 (show i < 200 by omega), pb_bI_some, nI_1]
    simp only [q01]
    have O := out_in (a := wkN w i) (lo := k0 - m) (n2 := 2 * m) (by omega) (by omega) (by omega) (by omega)
    by_cases t : wmP w f (k0 - m) (2 * m) i
    · rw [if_pos t] at N
      rw [if_pos (fun q => O.mp q ⟨t.2.1, t.2.2⟩), if_neg (not_not_intro t.1), nI_subN t.2.1, show (1 : Int64) = lN 1 from rfl, wb_shl 1 (by have := t.2; omega), Nat.one_mul, wb_or (wm_lt w f _ _ _ (by omega)) (wb_lt2 (by have := t.2; omega))]
      exact N
    · rw [if_neg t] at N
      by_cases q : k0 - m ≤ wkN w i ∧ wkN w i < k0 - m + 2 * m
      · rw [if_pos (fun z => O.mp z q), if_pos (fun z => t ⟨z, q⟩)]
        exact N
      · rw [if_neg (not_not_intro (O.mpr q))]
        exact N
theorem M_each {w : pb_W} {n : Nat} (hN : LN w n) (f : Int32) {k0 m : Nat} (hm : 1 ≤ m) (hm2 : m ≤ 26) (hk : m ≤ k0) (hk2 : k0 + m ≤ 520) : M_X2_wentInEach [.ref 61, .int f, .int (nI k0), .int (nI m)] w = some (some (.int (b1 (alP w f (k0 - m) (2 * m) n))), w) := by
  rw [e_X2_wentInEach]
  refine (cx_each hN f hm hm2 hk hk2 n 0 (by omega)).trans ?_
  have := wm_all hN f (k0 - m) (2 * m) (by omega) (by omega)
  by_cases q : alP w f (k0 - m) (2 * m) n
  · rw [b1_pos q, if_pos (this.mpr q)]
  · rw [b1_neg q, if_neg (fun z => q (this.mp z))]
theorem mx_all {w : pb_W} (hL : iv_L w) {n : Nat} (hN : LN w n) (f : Int32) {lo n2 : Nat} (h : lo + n2 ≤ 520) : ∀ r j, j + r = n2 → (∀ b, b < j → spN w f (nI (lo + b)) n ≠ 0) → pb_run T_X12_hasAll (3, [some (.ref 64), some (.int f), none, some (.int (nI (lo + n2))), some (.int (nI (lo + j)))], [], w) = some (some (.int (b1 (alP w f lo n2 n))), w) := by
  intro r
  induction r with
  | zero =>
    intro j hj H
    rw [r_X12_hasAll_3, if_neg (show ¬ nI (lo + j) < nI (lo + n2) by rw [nI_ltI (by omega) (by omega)]; omega), b1_pos (show alP w f lo n2 n from fun b hb => H b (by omega))]
  | succ r ih =>
    intro j hj H
    rw [r_X12_hasAll_3, if_pos (show nI (lo + j) < nI (lo + n2) from nI_lt (by omega) (by omega)), M_hasLine12 hL hN, pb_bI_some, nI_1]
    by_cases t : spN w f (nI (lo + j)) n = 0
    · rw [if_pos t, if_pos rfl, b1_neg (fun z => z j (by omega) t)]
    · rw [if_neg t, if_neg (show ¬ (1 : Int32) = 0 by decide)]
      refine ih (j + 1) (by omega) (fun b hb => ?_)
      by_cases q : b = j
      · rw [q]; exact t
      · exact H b (by omega)
theorem M_hasAll {w : pb_W} (hL : iv_L w) {n : Nat} (hN : LN w n) (f : Int32) {lo n2 : Nat} (h : lo + n2 ≤ 520) : M_X12_hasAll [.ref 64, .int f, .int (nI lo), .int (nI (lo + n2))] w = some (some (.int (b1 (alP w f lo n2 n))), w) := by
  rw [e_X12_hasAll]
  exact mx_all hL hN f h n2 0 (by omega) (fun b hb => by omega)
/-- a loss of that family in the span -/
def lsP (w : pb_W) (f : Int32) (lo hi k : Nat) : Prop := w.1 62 k = f ∧ ¬ w.1 63 k < nI lo ∧ w.1 63 k < nI hi
def lst (w : pb_W) (f : Int32) (lo hi n : Nat) : Prop := ∃ k, k < n ∧ lsP w f lo hi k
theorem out_hi {x : Int32} {hi : Nat} (h1 : 1 ≤ hi) (h2 : hi < 2 ^ 31) : (nI (hi - 1) < x) ↔ ¬ x < nI hi := by
  rw [pn_lt, pn_lt, nI_toInt (by omega), nI_toInt h2]
  omega
theorem cx_lost {w : pb_W} {n : Nat} (hn : n ≤ 12) (h61 : w.1 61 2 = nI n) (f : Int32) {k0 m : Nat} (hm : 1 ≤ m) (hm2 : m ≤ 26) (hk : m ≤ k0) (hk2 : k0 + m ≤ 520) : ∀ r i, i + r = n → (∀ k, k < i → ¬ lsP w f (k0 - m) (k0 + m) k) → pb_run T_X2_lostNear (3, [some (.ref 61), some (.int f), some (.int (nI k0)), some (.int (nI m)), some (.int (nI i))], [], w) = some (some (.int (b1 (lst w f (k0 - m) (k0 + m) n))), w) := by
  intro r
  induction r with
  | zero =>
    intro i hi H
    rw [r_X2_lostNear_3, h61, if_neg (show ¬ nI i < nI n by rw [nI_ltI (by omega) (by omega)]; omega), b1_neg]
    rintro ⟨k, a, b⟩
    exact H k (by omega) b
  | succ r ih =>
    intro i hi H
    have i12 : pb_in (nI i) 12 := pn_in (by omega) (by decide)
    rw [r_X2_lostNear_3, h61, if_pos (show nI i < nI n from nI_lt (by omega) (by omega)), if_pos i12, if_pos i12, nI_clamp (show i < 2 ^ 31 by omega), nI_subN hk, nI_add, show nI (k0 + m) - (1 : Int32) = nI (k0 + m - 1) from nI_subN (b := 1) (by omega), M_outside, pb_bI_some, nI_1]
    simp only [q01, out_hi (x := w.1 63 i) (show 1 ≤ k0 + m by omega) (show k0 + m < 2 ^ 31 by omega)]
    by_cases t : lsP w f (k0 - m) (k0 + m) i
    · rw [if_pos t.1, if_pos (fun z => z.elim t.2.1 (fun z => z t.2.2)), b1_pos ⟨i, by omega, t⟩]
    · have N := ih (i + 1) (by omega) (fun k hk' => by
        by_cases q : k = i
        · rw [q]; exact t
        · exact H k (by omega))
      by_cases q : w.1 62 i = f
      · rw [if_pos q, if_neg]
        · exact N
        · intro z
          refine t ⟨q, fun y => z (Or.inl y), Classical.byContradiction fun y => z (Or.inr y)⟩
      · rw [if_neg q]
        exact N
/-- alike: another family of its class, with lines in each week, and no loss there -/
abbrev lkP (w : pb_W) (nL nO l : Nat) (j k0 m : Nat) : Prop := ¬ nI j = w.1 62 l ∧ w.1 6 j = w.1 6 (w.1 62 l).toNatClampNeg ∧ alP w (nI j) (k0 - m) (2 * m) nL ∧ ¬ lst w (nI j) (k0 - m) (k0 + m) nO
theorem M_isLike1 {w : pb_W} {nL nO : Nat} (hN : LN w nL) (hO : nO ≤ 12) (h61 : w.1 61 2 = nI nO) {l o k0 m j : Nat} (hl : l < 12) (ho : o < 12) (e62 : w.1 62 l = nI o) (e63 : w.1 63 l = nI k0) (hj : j < 12) (hm : 1 ≤ m) (hm2 : m ≤ 26) (hk : m ≤ k0) (hk2 : k0 + m ≤ 520) : M_X2_isLike [.ref 61, .int (nI l), .int (nI j), .int (nI m)] w = some (some (.int (b1 (lkP w nL nO l j k0 m))), w) := by
  have l12 : pb_in (nI l) 12 := pn_in hl (by decide)
  have k1 : ¬ (1 : Int32) = 0 := by decide
  rw [e_X2_isLike, if_pos l12, if_pos (pn_in hj (by decide)), nI_clamp (show l < 2 ^ 31 by omega), nI_clamp (show j < 2 ^ 31 by omega), if_pos (show pb_in (w.1 62 l) 12 by rw [e62]; exact pn_in ho (by decide))]
  simp only [r_X2_isLike_41, if_pos l12, nI_clamp (show l < 2 ^ 31 by omega), e63, M_each hN (nI j) hm hm2 hk hk2, pb_bI_some, if_neg k1, if_true, ite_true, e_X2_lostNear]
  rw [show pb_run T_X2_lostNear (3, [some (.ref 61), some (.int (nI j)), some (.int (nI k0)), some (.int (nI m)), some (.int (0 : Int32))], [], w) = _ from cx_lost hO h61 (nI j) hm hm2 hk hk2 nO 0 (by omega) (fun k hk => by omega), pb_bI_some]
  by_cases p1 : nI j = w.1 62 l
  · rw [if_pos p1, b1_neg (show ¬ lkP w nL nO l j k0 m from fun z => z.1 p1)]
  · rw [if_neg p1]
    by_cases p2 : w.1 6 j = w.1 6 (w.1 62 l).toNatClampNeg
    · rw [if_pos p2]
      by_cases p3 : alP w (nI j) (k0 - m) (2 * m) nL
      · rw [b1_pos p3, if_neg k1]
        by_cases p4 : lst w (nI j) (k0 - m) (k0 + m) nO
        · rw [b1_pos p4, if_neg k1, b1_neg (show ¬ lkP w nL nO l j k0 m from fun z => z.2.2.2 p4)]
        · rw [b1_neg p4, if_pos rfl, b1_pos (show lkP w nL nO l j k0 m from ⟨p1, p2, p3, p4⟩)]
      · rw [b1_neg p3, if_pos rfl, b1_neg (show ¬ lkP w nL nO l j k0 m from fun z => p3 z.2.2.1)]
    · rw [if_neg p2, b1_neg (show ¬ lkP w nL nO l j k0 m from fun z => p2 z.2.1)]
theorem mx_lost {w : pb_W} (hL : iv_L w) {nL nO : Nat} (hN : LN w nL) (hn : nO ≤ 12) (h98 : w.1 64 98 = nI nO) (g128 : w.1 128 = w.1 62) (g129 : w.1 129 = w.1 63) (f : Int32) {l k0 m : Nat} (hl : l < 12) (e63 : w.1 63 l = nI k0) (hm : 1 ≤ m) (hm2 : m ≤ 26) (hk : m ≤ k0) (hk2 : k0 + m ≤ 520) : ∀ r i, i + r = nO → (∀ k, k < i → ¬ lsP w f (k0 - m) (k0 + m) k) → pb_run T_X12_isLike (35, [some (.ref 64), some (.int (nI l)), some (.int f), some (.int (nI m)), some (.int (nI i))], [], w) = some (some (.int (b1 (¬ lst w f (k0 - m) (k0 + m) nO ∧ alP w f (k0 - m) (2 * m) nL))), w) := by
  have l12 : pb_in (nI l) 12 := pn_in hl (by decide)
  intro r
  induction r with
  | zero =>
    intro i hi H
    have A := M_hasAll hL hN f (lo := k0 - m) (n2 := 2 * m) (by omega)
    rw [show k0 - m + 2 * m = k0 + m by omega] at A
    rw [r_X12_isLike_35, h98, if_neg (show ¬ nI i < nI nO by rw [nI_ltI (by omega) (by omega)]; omega), if_pos l12, if_pos l12, nI_clamp (show l < 2 ^ 31 by omega), g129, e63, nI_subN hk, nI_add, A, pb_bI_some]
    have nl : ¬ lst w f (k0 - m) (k0 + m) nO := fun ⟨k, a, b⟩ => H k (by omega) b
    by_cases p3 : alP w f (k0 - m) (2 * m) nL
    · rw [b1_pos p3, if_pos (Or.inr rfl), b1_pos ⟨nl, p3⟩]
    · rw [b1_neg p3, if_pos (Or.inl rfl), b1_neg (fun z => p3 z.2)]
  | succ r ih =>
    intro i hi H
    have i12 : pb_in (nI i) 12 := pn_in (by omega) (by decide)
    rw [r_X12_isLike_35, h98, if_pos (show nI i < nI nO from nI_lt (by omega) (by omega)), if_pos i12, if_pos i12, if_pos l12, if_pos i12, if_pos l12, nI_clamp (show i < 2 ^ 31 by omega), nI_clamp (show l < 2 ^ 31 by omega), g128, g129, e63, nI_subN hk, nI_add, nI_1]
    by_cases t : lsP w f (k0 - m) (k0 + m) i
    · rw [if_pos t.1, if_neg t.2.1, if_pos t.2.2, b1_neg (fun z => z.1 ⟨i, by omega, t⟩)]
    · have N := ih (i + 1) (by omega) (fun k hk' => by
        by_cases q : k = i
        · rw [q]; exact t
        · exact H k (by omega))
      by_cases q : w.1 62 i = f
      · rw [if_pos q]
        by_cases q2 : w.1 63 i < nI (k0 - m)
        · rw [if_pos q2]
          exact N
        · rw [if_neg q2, if_neg (fun z => t ⟨q, q2, z⟩)]
          exact N
      · rw [if_neg q]
        exact N
theorem M_isLike2 {w : pb_W} (hL : iv_L w) {nL nO : Nat} (hN : LN w nL) (hO : nO ≤ 12) (h98 : w.1 64 98 = nI nO) (g128 : w.1 128 = w.1 62) (g129 : w.1 129 = w.1 63) (g68 : w.1 68 = w.1 6) {l o k0 m j : Nat} (hl : l < 12) (ho : o < 12) (e62 : w.1 62 l = nI o) (e63 : w.1 63 l = nI k0) (hj : j < 12) (hm : 1 ≤ m) (hm2 : m ≤ 26) (hk : m ≤ k0) (hk2 : k0 + m ≤ 520) : M_X12_isLike [.ref 64, .int (nI l), .int (nI j), .int (nI m)] w = some (some (.int (b1 (lkP w nL nO l j k0 m))), w) := by
  have l12 : pb_in (nI l) 12 := pn_in hl (by decide)
  rw [e_X12_isLike, if_pos l12, if_pos l12, if_pos (pn_in hj (by decide)), nI_clamp (show l < 2 ^ 31 by omega), nI_clamp (show j < 2 ^ 31 by omega), g128, g68, if_pos (show pb_in (w.1 62 l) 12 by rw [e62]; exact pn_in ho (by decide)), show pb_run T_X12_isLike (35, [some (.ref 64), some (.int (nI l)), some (.int (nI j)), some (.int (nI m)), some (.int (0 : Int32))], [], w) = _ from mx_lost hL hN hO h98 g128 g129 (nI j) hl e63 hm hm2 hk hk2 nO 0 (by omega) (fun k hk => by omega)]
  by_cases p1 : nI j = w.1 62 l
  · rw [if_pos p1, b1_neg (show ¬ lkP w nL nO l j k0 m from fun z => z.1 p1)]
  · rw [if_neg p1]
    by_cases p2 : w.1 6 j = w.1 6 (w.1 62 l).toNatClampNeg
    · rw [if_pos p2]
      by_cases p4 : ¬ lst w (nI j) (k0 - m) (k0 + m) nO ∧ alP w (nI j) (k0 - m) (2 * m) nL
      · rw [b1_pos p4, b1_pos (show lkP w nL nO l j k0 m from ⟨p1, p2, p4.2, p4.1⟩)]
      · rw [b1_neg p4, b1_neg (show ¬ lkP w nL nO l j k0 m from fun z => p4 ⟨z.2.2.2, z.2.2.1⟩)]
    · rw [if_neg p2, b1_neg (show ¬ lkP w nL nO l j k0 m from fun z => p2 z.2.1)]
