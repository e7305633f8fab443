/-! ===== GAPS: what the weeks of a family hold ===== -/
theorem pn_min {a b : Nat} (ha : a < 2 ^ 31) (hb : b < 2 ^ 31) : pb_min (nI a) (nI b) = nI (min a b) := by
  unfold pb_min
  by_cases h : b < a
  · rw [if_pos ((nI_ltI hb ha).mpr h), Nat.min_eq_right (by omega)]
  · rw [if_neg (fun q => h ((nI_ltI hb ha).mp q)), Nat.min_eq_left (by omega)]
theorem pn_max {a b : Nat} (ha : a < 2 ^ 31) (hb : b < 2 ^ 31) : pb_max (nI a) (nI b) = nI (max a b) := by
  unfold pb_max
  by_cases h : a < b
  · rw [if_pos ((nI_ltI ha hb).mpr h), Nat.max_eq_right (by omega)]
  · rw [if_neg (fun q => h ((nI_ltI ha hb).mp q)), Nat.max_eq_left (by omega)]
theorem ite_lt {α : Type} {a b : Nat} (ha : a < 2 ^ 31) (hb : b < 2 ^ 31) (x y : α) : (if nI a < nI b then x else y) = if a < b then x else y := by
  by_cases h : a < b
  · rw [if_pos h, if_pos ((nI_ltI ha hb).mpr h)]
  · rw [if_neg h, if_neg (fun q => h ((nI_ltI ha hb).mp q))]
theorem ite_nout {α : Type} {a lo to : Nat} (ha : a < 2 ^ 31) (hl : lo < 2 ^ 31) (ht : to < 2 ^ 31) (x y : α) : (if ¬ (nI a < nI lo ∨ nI to < nI a) then x else y) = if ¬ (a < lo ∨ to < a) then x else y := by
  have e : (nI a < nI lo ∨ nI to < nI a) ↔ (a < lo ∨ to < a) := by rw [nI_ltI ha hl, nI_ltI ht ha]
  by_cases h : ¬ (a < lo ∨ to < a)
  · rw [if_pos h, if_pos (fun q => h (e.mp q))]
  · rw [if_neg h, if_neg (fun q => h (fun z => q (e.mpr z)))]
def wkN (w : pb_W) (k : Nat) : Nat := (w.1 9 k).toNatClampNeg
def pcN (w : pb_W) (k : Nat) : Nat := (w.1 16 k).toNatClampNeg
/-- what the lines are, in naturals -/
abbrev LN (w : pb_W) (n : Nat) : Prop := (n ≤ 200) ∧ (w.1 5 3 = nI n) ∧ (w.1 64 7 = nI n) ∧ (w.1 70 = w.1 8) ∧ (w.1 71 = w.1 9) ∧ (w.1 74 = w.1 11) ∧ (w.1 75 = w.1 13) ∧ (w.1 64 10 = w.1 5 19) ∧ (∀ k, k < n → w.1 9 k = nI (wkN w k) ∧ wkN w k < 520) ∧ (∀ k, k < n → w.1 16 k = nI (pcN w k) ∧ 1 ≤ pcN w k ∧ pcN w k ≤ 20000) ∧ (∀ k, k < n → ∃ c, c ≤ 7 ∧ w.1 11 k = nI c) ∧ (∀ k, k < n → ∃ c, c < 12 ∧ w.1 8 k = nI c)
theorem LN.le {w : pb_W} {n : Nat} (h : LN w n) : n ≤ 200 := h.1
theorem LN.n5 {w : pb_W} {n : Nat} (h : LN w n) : w.1 5 3 = nI n := h.2.1
theorem LN.n7 {w : pb_W} {n : Nat} (h : LN w n) : w.1 64 7 = nI n := h.2.2.1
theorem LN.g70 {w : pb_W} {n : Nat} (h : LN w n) : w.1 70 = w.1 8 := h.2.2.2.1
theorem LN.g71 {w : pb_W} {n : Nat} (h : LN w n) : w.1 71 = w.1 9 := h.2.2.2.2.1
theorem LN.g74 {w : pb_W} {n : Nat} (h : LN w n) : w.1 74 = w.1 11 := h.2.2.2.2.2.1
theorem LN.g75 {w : pb_W} {n : Nat} (h : LN w n) : w.1 75 = w.1 13 := h.2.2.2.2.2.2.1
theorem LN.d10 {w : pb_W} {n : Nat} (h : LN w n) : w.1 64 10 = w.1 5 19 := h.2.2.2.2.2.2.2.1
theorem LN.wk {w : pb_W} {n : Nat} (h : LN w n) : ∀ k, k < n → w.1 9 k = nI (wkN w k) ∧ wkN w k < 520 := h.2.2.2.2.2.2.2.2.1
theorem LN.pc {w : pb_W} {n : Nat} (h : LN w n) : ∀ k, k < n → w.1 16 k = nI (pcN w k) ∧ 1 ≤ pcN w k ∧ pcN w k ≤ 20000 := h.2.2.2.2.2.2.2.2.2.1
theorem LN.hd {w : pb_W} {n : Nat} (h : LN w n) : ∀ k, k < n → ∃ c, c ≤ 7 ∧ w.1 11 k = nI c := h.2.2.2.2.2.2.2.2.2.2.1
theorem LN.fm {w : pb_W} {n : Nat} (h : LN w n) : ∀ k, k < n → ∃ c, c < 12 ∧ w.1 8 k = nI c := h.2.2.2.2.2.2.2.2.2.2.2
theorem pkf_in {rl rp rk : Nat → Int32} {day : Int32} {k : Nat} {v : Int32} (hv : ∃ c, 1 ≤ c ∧ c ≤ 20000 ∧ v = nI c) : ∀ r, (∀ i, i < r → ∃ c, 1 ≤ c ∧ c ≤ 20000 ∧ rp i = nI c) → ∃ c, 1 ≤ c ∧ c ≤ 20000 ∧ pkf rl rp rk day k v r = nI c
  | 0, _ => hv
  | i + 1, h => by
    rw [pkf]
    split
    · exact h i (Nat.lt_succ_self i)
    · exact pkf_in hv i (fun j hj => h j (Nat.lt_succ_of_lt hj))
theorem LN_of {w : pb_W} (hL : iv_L w) : ∃ n, LN w n := by
  obtain ⟨n, r, hn, hr, n5, n7, r13, r8, d9, d10, ⟨g70, g71, g72, g74, g81, g75, g79, g73, g76, g77, g78⟩, gl, gr, gp, hd, ha⟩ := hL
  refine ⟨n, hn, n5, n7, g70, g71, g74, g75, d10, ?_, ?_, ?_, ?_⟩
  · intro k hk
    obtain ⟨-, ⟨c, lc, ec⟩, -⟩ := gl k hk
    have : wkN w k = c := by unfold wkN; rw [ec]; exact nI_clamp (by omega)
    rw [this]
    exact ⟨ec, lc⟩
  · intro k hk
    obtain ⟨-, -, -, -, -, -, hp⟩ := gl k hk
    obtain ⟨c, l1, l2, ec⟩ := pkf_in (rl := w.1 17) (rk := w.1 19) (day := w.1 5 19) (k := k) hp r (fun i hi => (gr i hi).2.1)
    have e : w.1 16 k = nI c := (gp k hk).trans ec
    have : pcN w k = c := by unfold pcN; rw [e]; exact nI_clamp (by omega)
    rw [this]
    exact ⟨e, l1, l2⟩
  · intro k hk
    exact (gl k hk).2.2.2.1
  · intro k hk
    exact (gl k hk).1
def spN (w : pb_W) (f wk : Int32) : Nat → Nat
  | 0 => 0
  | i + 1 => if wn w i f wk then spN w f wk i + pcN w i else spN w f wk i
theorem spn_N {w : pb_W} {n : Nat} (hN : LN w n) (f wk : Int32) : ∀ i, i ≤ n → spn w f wk i = nI (spN w f wk i) ∧ spN w f wk i ≤ 20000 * i
  | 0, _ => ⟨rfl, Nat.le_refl 0⟩
  | i + 1, h => by
    obtain ⟨a, b⟩ := spn_N hN f wk i (by omega)
    obtain ⟨p, -, q⟩ := hN.pc i (by omega)
    rw [spn, spN]
    by_cases t : wn w i f wk
    · rw [if_pos t, if_pos t, a, p, nI_add]
      exact ⟨rfl, by omega⟩
    · rw [if_neg t, if_neg t]
      exact ⟨a, by omega⟩
theorem spN_mono (w : pb_W) (f wk : Int32) (i : Nat) : ∀ j, spN w f wk i ≤ spN w f wk (i + j)
  | 0 => Nat.le_refl _
  | j + 1 => by
    have := spN_mono w f wk i j
    show _ ≤ spN w f wk ((i + j) + 1)
    rw [spN]
    split <;> omega
theorem spN_pos {w : pb_W} {n : Nat} (hN : LN w n) (f wk : Int32) {k i : Nat} (hk : k < i) (hi : i ≤ n) (h : wn w k f wk) : 0 < spN w f wk i := by
  have := spN_mono w f wk (k + 1) (i - (k + 1))
  rw [show k + 1 + (i - (k + 1)) = i by omega, spN, if_pos h] at this
  have := (hN.pc k (by omega)).2.1
  omega
theorem spN_0 {w : pb_W} (f wk : Int32) : ∀ i, (∀ k, k < i → ¬ wn w k f wk) → spN w f wk i = 0
  | 0, _ => rfl
  | i + 1, h => by
    rw [spN, if_neg (h i (by omega))]
    exact spN_0 f wk i (fun k hk => h k (by omega))
theorem M_wentFrom2 {w : pb_W} {k : Nat} (hk : k < 200) (f : Int32) : M_X1_wentFrom [.ref 5, .int (nI k), .int f] w = some (some (.int (if wf w k f then 1 else 0)), w) := by
  have i200 : pb_in (nI k) 200 := pn_in hk (by decide)
  rw [e_X1_wentFrom, if_pos i200, nI_clamp (show k < 2 ^ 31 by omega), M_went1 hk, pb_bI_some]
  simp only [q01]
  unfold wf
  by_cases q : w.1 8 k = f
  · by_cases r : ¬ w.1 5 19 < w.1 13 k ∧ w.1 12 k = 0
    · rw [if_pos q, if_neg (not_not_intro r), if_pos ⟨q, r⟩]
    · rw [if_pos q, if_pos r, if_neg (fun z => r z.2)]
  · rw [if_neg q, if_neg (fun z => q z.1)]
theorem mx_hasl {w : pb_W} (hL : iv_L w) {n : Nat} (hN : LN w n) (f wk : Int32) : ∀ m i, i + m = n → spN w f wk i = 0 → pb_run T_X12_hasLine (2, [some (.ref 64), some (.int f), some (.int wk), some (.int (nI i))], [], w) = some (some (.int (if spN w f wk n = 0 then 0 else 1)), w) := by
  have hn := hN.le
  intro m
  induction m with
  | zero =>
    intro i hi h
    rw [r_X12_hasLine_2, hN.n7, if_neg (show ¬ nI i < nI n by rw [nI_ltI (by omega) (by omega)]; omega), if_pos (show spN w f wk n = 0 by rw [← show i = n by omega]; exact h)]
  | succ m ih =>
    intro i hi h
    have i200 : pb_in (nI i) 200 := pn_in (by omega) (by decide)
    rw [r_X12_hasLine_2, hN.n7, if_pos (show nI i < nI n from nI_lt (by omega) (by omega)), M_went hL (show i < 200 by omega), pb_bI_some, if_pos i200, nI_clamp (show i < 2 ^ 31 by omega), nI_1, hN.g71]
    simp only [q01]
    by_cases p : wn w i f wk
    · rw [if_pos p.1, if_neg (not_not_intro p.2), if_neg]
      have := spN_pos hN f wk (show i < n by omega) (Nat.le_refl n) p
      omega
    · have N := ih (i + 1) (by omega) (by rw [spN, if_neg p]; exact h)
      by_cases q : w.1 9 i = wk
      · rw [if_pos q, if_pos (fun z => p ⟨q, z⟩)]
        exact N
      · rw [if_neg q]
        exact N
theorem M_hasLine12 {w : pb_W} (hL : iv_L w) {n : Nat} (hN : LN w n) (f wk : Int32) : M_X12_hasLine [.ref 64, .int f, .int wk] w = some (some (.int (if spN w f wk n = 0 then 0 else 1)), w) := by
  rw [e_X12_hasLine]
  exact mx_hasl hL hN f wk n 0 (by omega) rfl
def anyb (w : pb_W) (f : Int32) : Nat → Bool
  | 0 => false
  | i + 1 => if wf w i f then true else anyb w f i
def mnN (w : pb_W) (f : Int32) : Nat → Nat
  | 0 => 519
  | i + 1 => if wf w i f then min (mnN w f i) (wkN w i) else mnN w f i
def mxN (w : pb_W) (f : Int32) : Nat → Nat
  | 0 => 0
  | i + 1 => if wf w i f then max (mxN w f i) (wkN w i) else mxN w f i
theorem mnx {w : pb_W} {n : Nat} (hN : LN w n) (f : Int32) : ∀ i, i ≤ n → mnN w f i ≤ 519 ∧ mxN w f i ≤ 519 ∧ (∀ k, k < i → wf w k f → mnN w f i ≤ wkN w k ∧ wkN w k ≤ mxN w f i ∧ anyb w f i = true) ∧ (anyb w f i = true → (∃ k, k < i ∧ wf w k f ∧ wkN w k = mnN w f i) ∧ ∃ k, k < i ∧ wf w k f ∧ wkN w k = mxN w f i) ∧ (anyb w f i = false → mnN w f i = 519 ∧ mxN w f i = 0)
  | 0, _ => ⟨Nat.le_refl _, Nat.zero_le _, fun k h => by omega, fun h => by simp [anyb] at h, fun _ => ⟨rfl, rfl⟩⟩
  | i + 1, h => by
    obtain ⟨a, b, c, d, e⟩ := mnx hN f i (by omega)
    have lw := (hN.wk i (by omega)).2
    rw [mnN, mxN, anyb]
    by_cases t : wf w i f
    · rw [if_pos t, if_pos t, if_pos t]
      refine ⟨by omega, by omega, ?_, ?_, fun q => by cases q⟩
      · intro k hk hw
        by_cases q : k = i
        · subst q
          exact ⟨by omega, by omega, rfl⟩
        · obtain ⟨c1, c2, -⟩ := c k (by omega) hw
          exact ⟨by omega, by omega, rfl⟩
      · intro _
        cases an : anyb w f i with
        | true =>
          obtain ⟨⟨k1, l1, m1, n1⟩, k2, l2, m2, n2⟩ := d an
          constructor
          · by_cases q : mnN w f i ≤ wkN w i
            · exact ⟨k1, by omega, m1, by omega⟩
            · exact ⟨i, by omega, t, by omega⟩
          · by_cases q : wkN w i ≤ mxN w f i
            · exact ⟨k2, by omega, m2, by omega⟩
            · exact ⟨i, by omega, t, by omega⟩
        | false =>
          obtain ⟨e1, e2⟩ := e an
          exact ⟨⟨i, by omega, t, by omega⟩, i, by omega, t, by omega⟩
    · rw [if_neg t, if_neg t, if_neg t]
      refine ⟨a, b, ?_, ?_, e⟩
      · intro k hk hw
        by_cases q : k = i
        · subst q
          exact absurd hw t
        · exact c k (by omega) hw
      · intro an
        obtain ⟨⟨k1, l1, m1, n1⟩, k2, l2, m2, n2⟩ := d an
        exact ⟨⟨k1, by omega, m1, n1⟩, k2, by omega, m2, n2⟩
/-- the edge as the reference goes for it -/
def edg (w : pb_W) (f : Int32) (l : Bool) (i : Nat) : Int32 := if anyb w f i = true then nI (if l then mxN w f i else mnN w f i) else -1
theorem mx_edge {w : pb_W} (hL : iv_L w) {n : Nat} (hN : LN w n) (f : Int32) (l : Bool) : ∀ m i, i + m = n → pb_run T_X12_edge (5, [some (.ref 64), some (.int f), some (.int (if l then 1 else 0)), some (.int (edg w f l i)), some (.int (nI i))], [], w) = some (some (.int (edg w f l n)), w) := by
  have hn := hN.le
  intro m
  induction m with
  | zero =>
    intro i hi
    rw [r_X12_edge_5, hN.n7, if_neg (show ¬ nI i < nI n by rw [nI_ltI (by omega) (by omega)]; omega), show i = n by omega]
  | succ m ih =>
    intro i hi
    have i200 : pb_in (nI i) 200 := pn_in (by omega) (by decide)
    have N := ih (i + 1) (by omega)
    obtain ⟨ew, lw⟩ := hN.wk i (by omega)
    obtain ⟨a, b, c, d, e⟩ := mnx hN f i (by omega)
    rw [r_X12_edge_5, hN.n7, if_pos (show nI i < nI n from nI_lt (by omega) (by omega)), M_went hL (show i < 200 by omega), pb_bI_some, if_pos i200, if_pos i200, if_pos i200, nI_clamp (show i < 2 ^ 31 by omega), nI_1, hN.g71, ew]
    simp only [q01]
    by_cases t : wf w i f
    · have E : edg w f l (i + 1) = nI (if l then max (mxN w f i) (wkN w i) else min (mnN w f i) (wkN w i)) := by
        unfold edg
        rw [anyb, mxN, mnN, if_pos t, if_pos t, if_pos t, if_pos rfl]
      rw [E] at N
      rw [if_neg (not_not_intro t)]
      cases an : anyb w f i with
      | false =>
        obtain ⟨e1, e2⟩ := e an
        have E0 : edg w f l i = -1 := by unfold edg; rw [an]; rfl
        rw [E0, if_pos rfl]
        rw [e1, e2, show max 0 (wkN w i) = wkN w i by omega, show min 519 (wkN w i) = wkN w i by omega] at N
        simpa using N
      | true =>
        have E0 : edg w f l i = nI (if l then mxN w f i else mnN w f i) := by unfold edg; rw [an]; rfl
        rw [E0]
        cases l with
        | false =>
          simp only [Bool.false_eq_true, if_false, ite_false] at N ⊢
          rw [if_neg (pn_m1 _ (by omega)), if_pos (show ¬ False from id)]
          by_cases q : wkN w i < mnN w f i
          · rw [if_pos ((nI_ltI (by omega) (by omega)).mpr q)]
            rw [Nat.min_eq_right (by omega)] at N
            exact N
          · rw [if_neg (fun z => q ((nI_ltI (by omega) (by omega)).mp z))]
            rw [Nat.min_eq_left (by omega)] at N
            exact N
        | true =>
          simp only [if_true, ite_true] at N ⊢
          rw [if_neg (pn_m1 _ (by omega)), if_neg (not_not_intro trivial)]
          by_cases q : mxN w f i < wkN w i
          · rw [if_pos ((nI_ltI (by omega) (by omega)).mpr q)]
            rw [Nat.max_eq_right (by omega)] at N
            exact N
          · rw [if_neg (fun z => q ((nI_ltI (by omega) (by omega)).mp z))]
            rw [Nat.max_eq_left (by omega)] at N
            exact N
    · rw [if_pos t]
      have E : edg w f l (i + 1) = edg w f l i := by
        unfold edg
        rw [anyb, mxN, mnN, if_neg t, if_neg t, if_neg t]
      rw [E] at N
      exact N
theorem M_edge0 {w : pb_W} (hL : iv_L w) {n : Nat} (hN : LN w n) (f : Int32) : M_X12_edge [.ref 64, .int f, .int 0] w = some (some (.int (edg w f false n)), w) := by
  rw [e_X12_edge]
  exact mx_edge hL hN f false n 0 (by omega)
theorem M_edge1 {w : pb_W} (hL : iv_L w) {n : Nat} (hN : LN w n) (f : Int32) : M_X12_edge [.ref 64, .int f, .int 1] w = some (some (.int (edg w f true n)), w) := by
  rw [e_X12_edge]
  exact mx_edge hL hN f true n 0 (by omega)
/-- a gap -/
abbrev gpP (w : pb_W) (f : Int32) (n j : Nat) : Prop := spN w f (nI j) n = 0 ∧ anyb w f n = true ∧ mnN w f n < j ∧ j < mxN w f n
theorem M_isGap {w : pb_W} (hL : iv_L w) {n : Nat} (hN : LN w n) (f : Int32) {j : Nat} (hj : j < 2 ^ 31) : M_X12_isGap [.ref 64, .int f, .int (nI j)] w = some (some (.int (if gpP w f n j then 1 else 0)), w) := by
  obtain ⟨a, b, -⟩ := mnx hN f n (Nat.le_refl n)
  rw [e_X12_isGap, M_hasLine12 hL hN, pb_bI_some, M_edge0 hL hN, pb_bI_some, M_edge0 hL hN, pb_bI_some, M_edge1 hL hN, pb_bI_some]
  unfold gpP
  by_cases p : spN w f (nI j) n = 0
  · rw [if_pos p, if_pos rfl]
    cases an : anyb w f n with
    | false =>
      have E : edg w f false n = -1 := by unfold edg; rw [an]; rfl
      rw [E, if_pos rfl, if_neg (fun z => by simp at z)]
    | true =>
      have E : edg w f false n = nI (mnN w f n) := by unfold edg; rw [an]; rfl
      have E2 : edg w f true n = nI (mxN w f n) := by unfold edg; rw [an]; rfl
      rw [E, E2, if_neg (pn_m1 _ (by omega)), ite_lt (by omega) hj, ite_lt hj (by omega)]
      by_cases q : mnN w f n < j
      · rw [if_pos q]
        by_cases r : j < mxN w f n
        · rw [if_pos r, if_pos ⟨p, rfl, q, r⟩]
        · rw [if_neg r, if_neg (fun z => r z.2.2.2)]
      · rw [if_neg q, if_neg (fun z => q z.2.2.1)]
  · rw [if_neg p, if_neg (show ¬ (1 : Int32) = 0 by decide), if_neg (fun z => p z.1)]
/-- two worlds in which the lines look alike -/
abbrev SV (v w : pb_W) : Prop := (v.1 5 19 = w.1 5 19) ∧ (v.1 8 = w.1 8) ∧ (v.1 9 = w.1 9) ∧ (v.1 12 = w.1 12) ∧ (v.1 13 = w.1 13) ∧ (v.1 16 = w.1 16)
theorem SV.s19 {v w : pb_W} (h : SV v w) : v.1 5 19 = w.1 5 19 := h.1
theorem SV.s8 {v w : pb_W} (h : SV v w) : v.1 8 = w.1 8 := h.2.1
theorem SV.s9 {v w : pb_W} (h : SV v w) : v.1 9 = w.1 9 := h.2.2.1
theorem SV.s12 {v w : pb_W} (h : SV v w) : v.1 12 = w.1 12 := h.2.2.2.1
theorem SV.s13 {v w : pb_W} (h : SV v w) : v.1 13 = w.1 13 := h.2.2.2.2.1
theorem SV.s16 {v w : pb_W} (h : SV v w) : v.1 16 = w.1 16 := h.2.2.2.2.2
theorem wf_sv {v w : pb_W} (h : SV v w) (k : Nat) (f : Int32) : wf v k f ↔ wf w k f := by unfold wf; rw [h.s19, h.s8, h.s12, h.s13]
theorem wn_sv {v w : pb_W} (h : SV v w) (k : Nat) (f wk : Int32) : wn v k f wk ↔ wn w k f wk := by unfold wn; rw [h.s19, h.s8, h.s12, h.s13, h.s9]
theorem wkN_sv {v w : pb_W} (h : SV v w) (k : Nat) : wkN v k = wkN w k := by unfold wkN; rw [h.s9]
theorem pcN_sv {v w : pb_W} (h : SV v w) (k : Nat) : pcN v k = pcN w k := by unfold pcN; rw [h.s16]
theorem spN_sv {v w : pb_W} (h : SV v w) (f wk : Int32) : ∀ i, spN v f wk i = spN w f wk i
  | 0 => rfl
  | i + 1 => by
    rw [spN, spN, spN_sv h f wk i, pcN_sv h]
    by_cases p : wn w i f wk
    · rw [if_pos p, if_pos ((wn_sv h _ _ _).mpr p)]
    · rw [if_neg p, if_neg (fun q => p ((wn_sv h _ _ _).mp q))]
theorem any_sv {v w : pb_W} (h : SV v w) (f : Int32) : ∀ i, anyb v f i = anyb w f i ∧ mnN v f i = mnN w f i ∧ mxN v f i = mxN w f i
  | 0 => ⟨rfl, rfl, rfl⟩
  | i + 1 => by
    obtain ⟨a, b, c⟩ := any_sv h f i
    rw [anyb, anyb, mnN, mnN, mxN, mxN, a, b, c, wkN_sv h]
    by_cases p : wf w i f
    · have q := (wf_sv h i f).mpr p
      simp only [if_pos p, if_pos q]
      exact ⟨trivial, trivial, trivial⟩
    · have q := fun z => p ((wf_sv h i f).mp z)
      simp only [if_neg p, if_neg q]
      exact ⟨trivial, trivial, trivial⟩
theorem gpP_sv {v w : pb_W} (h : SV v w) (f : Int32) (n j : Nat) : gpP v f n j ↔ gpP w f n j := by
  obtain ⟨a, b, c⟩ := any_sv h f n
  unfold gpP
  rw [a, b, c, spN_sv h]
