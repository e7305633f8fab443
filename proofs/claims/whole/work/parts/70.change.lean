/-! ===== CHANGE ===== -/
abbrev uf (w : pb_W) (k : Nat) (f : Int32) : Prop := w.1 8 k = f ∧ ¬ w.1 5 19 < w.1 13 k
abbrev hin (w : pb_W) (f : Int32) (lo hi k : Nat) : Prop := uf w k f ∧ lo ≤ wkN w k ∧ wkN w k < hi
def hdN (w : pb_W) (k : Nat) : Nat := (w.1 11 k).toNatClampNeg
theorem hdN_of {w : pb_W} {n : Nat} (hN : LN w n) {k : Nat} (hk : k < n) : w.1 11 k = nI (hdN w k) ∧ hdN w k < 8 := by
  obtain ⟨c, lc, ec⟩ := hN.hd k hk
  have : hdN w k = c := by unfold hdN; rw [ec]; exact nI_clamp (by omega)
  rw [this]
  exact ⟨ec, by omega⟩
def hc (w : pb_W) (f : Int32) (lo hi h : Nat) : Nat → Nat
  | 0 => 0
  | i + 1 => if hin w f lo hi i ∧ hdN w i = h then hc w f lo hi h i + 1 else hc w f lo hi h i
def htot (w : pb_W) (f : Int32) (lo hi : Nat) : Nat → Nat
  | 0 => 0
  | i + 1 => if hin w f lo hi i then htot w f lo hi i + 1 else htot w f lo hi i
def hmx (w : pb_W) (f : Int32) (lo hi : Nat) : Nat → Nat
  | 0 => 0
  | i + 1 => if hin w f lo hi i then max (hmx w f lo hi i) (hc w f lo hi (hdN w i) i + 1) else hmx w f lo hi i
theorem hc_fact {w : pb_W} {n : Nat} (hN : LN w n) (f : Int32) (lo hi : Nat) : ∀ i, i ≤ n → htot w f lo hi i ≤ i ∧ hmx w f lo hi i ≤ htot w f lo hi i ∧ (∀ h, hc w f lo hi h i ≤ hmx w f lo hi i) ∧ ∃ h, h < 8 ∧ hc w f lo hi h i = hmx w f lo hi i
  | 0, _ => ⟨Nat.le_refl 0, Nat.le_refl 0, fun _ => Nat.le_refl 0, 0, by decide, rfl⟩
  | i + 1, hle => by
    obtain ⟨a, b, c, h, d, e⟩ := hc_fact hN f lo hi i (by omega)
    obtain ⟨-, l8⟩ := hdN_of hN (show i < n by omega)
    rw [htot, hmx]
    by_cases t : hin w f lo hi i
    · rw [if_pos t, if_pos t]
      refine ⟨by omega, ?_, ?_, ?_⟩
      · have := c (hdN w i)
        omega
      · intro h'
        rw [hc]
        by_cases q : hdN w i = h'
        · rw [if_pos ⟨t, q⟩, q]
          omega
        · rw [if_neg (fun z => q z.2)]
          have := c h'
          omega
      · by_cases q : hmx w f lo hi i ≤ hc w f lo hi (hdN w i) i + 1
        · refine ⟨hdN w i, l8, ?_⟩
          rw [hc, if_pos ⟨t, rfl⟩]
          omega
        · refine ⟨h, d, ?_⟩
          rw [hc]
          by_cases q2 : hdN w i = h
          · rw [if_pos ⟨t, q2⟩]
            rw [q2] at q
            omega
          · rw [if_neg (fun z => q2 z.2)]
            omega
    · rw [if_neg t, if_neg t]
      have E : ∀ h', hc w f lo hi h' (i + 1) = hc w f lo hi h' i := fun h' => by rw [hc, if_neg (fun z => t z.1)]
      exact ⟨by omega, b, fun h' => by rw [E]; exact c h', h, d, by rw [E]; exact e⟩
/-- how many hands are unlike the most -/
def ulk (w : pb_W) (f : Int32) (lo hi n : Nat) : Int32 := if htot w f lo hi n = 0 then -1 else nI (htot w f lo hi n - hmx w f lo hi n)
/-- the counts as they lie in a cell -/
def hcF (w : pb_W) (f : Int32) (lo hi : Nat) (g : Nat → Int32) (i : Nat) : Nat → Int32 := fun j => if j < 8 then nI (hc w f lo hi j i) else g j
theorem hcF_skip {w : pb_W} {f : Int32} {lo hi i : Nat} (g : Nat → Int32) (h : ¬ hin w f lo hi i) : hcF w f lo hi g (i + 1) = hcF w f lo hi g i := by
  funext j
  unfold hcF
  rw [show hc w f lo hi j (i + 1) = hc w f lo hi j i by rw [hc, if_neg (fun z : hin w f lo hi i ∧ hdN w i = j => h z.1)]]
theorem hcF_step {w : pb_W} {f : Int32} {lo hi i : Nat} (g : Nat → Int32) (h : hin w f lo hi i) (l8 : hdN w i < 8) : upd (hcF w f lo hi g i) (hdN w i) (nI (hc w f lo hi (hdN w i) i + 1)) = hcF w f lo hi g (i + 1) := by
  funext j
  rw [pu_at]
  unfold hcF
  by_cases q : j = hdN w i
  · rw [if_pos q, if_pos (by omega), hc, if_pos ⟨h, q.symm⟩, q]
  · rw [if_neg q, show hc w f lo hi j (i + 1) = hc w f lo hi j i by rw [hc, if_neg (fun z : hin w f lo hi i ∧ hdN w i = j => q z.2.symm)]]
theorem M_isKnown1 {w : pb_W} {k : Nat} (hk : k < 200) : M_X1_isKnown [.ref 5, .int (nI k)] w = some (some (.int (if w.1 5 19 < w.1 13 k then 0 else 1)), w) := by
  have i200 : pb_in (nI k) 200 := pn_in hk (by decide)
  rw [e_X1_isKnown, if_pos i200, nI_clamp (show k < 2 ^ 31 by omega)]
  split <;> rfl
theorem M_isKnown2 {w : pb_W} {n : Nat} (hN : LN w n) {k : Nat} (hk : k < 200) : M_X12_isKnown [.ref 64, .int (nI k)] w = some (some (.int (if w.1 5 19 < w.1 13 k then 0 else 1)), w) := by
  have i200 : pb_in (nI k) 200 := pn_in hk (by decide)
  rw [e_X12_isKnown, if_pos i200, nI_clamp (show k < 2 ^ 31 by omega), hN.d10, hN.g75]
  split <;> rfl
theorem pw_FI (w : pb_W) (c k : Nat) (g : Nat → Int32) (v : Int32) : pb_wI (pb_wF w c g) c k v = pb_wF w c (upd g k v) := by
  refine Prod.ext (funext fun d => ?_) rfl
  rw [pw_I1, pw_F1, pw_F1, pw_F1]
  by_cases q : d = c
  · rw [if_pos q, if_pos q, if_pos rfl]
  · rw [if_neg q, if_neg q, if_neg q]
theorem pw_FF (w : pb_W) (c : Nat) (g g' : Nat → Int32) : pb_wF (pb_wF w c g) c g' = pb_wF w c g' := by
  refine Prod.ext (funext fun d => ?_) rfl
  rw [pw_F1, pw_F1, pw_F1]
  by_cases q : d = c
  · rw [if_pos q, if_pos q]
  · rw [if_neg q, if_neg q, if_neg q]
theorem cx_unl {w : pb_W} {n : Nat} (hN : LN w n) (f : Int32) {lo to : Nat} (g : Nat → Int32) (l1 : lo ≤ 600) (l2 : to ≤ 600) : ∀ m i, i + m = n → pb_run T_X9_unlikeHands (17, [some (.ref 54), some (.int f), some (.int (nI lo)), some (.int (nI to)), some (.int (nI (htot w f lo (to + 1) i))), some (.int (nI (hmx w f lo (to + 1) i))), some (.int (nI i)), none, none], [], pb_wF w 55 (hcF w f lo (to + 1) g i)) = some (some (.int (ulk w f lo (to + 1) n)), pb_wF w 55 (hcF w f lo (to + 1) g n)) := by
  have hn := hN.le
  intro m
  induction m with
  | zero =>
    intro i hi
    have e : i = n := by omega
    subst e
    obtain ⟨a, b, -⟩ := hc_fact hN f lo (to + 1) i (Nat.le_refl _)
    rw [r_X9_unlikeHands_17, show (pb_wF w 55 (hcF w f lo (to + 1) g i)).1 5 3 = nI i from hN.n5, if_neg (show ¬ nI i < nI i from fun q => by rw [nI_ltI (by omega) (by omega)] at q; omega), nI_subN b]
    unfold ulk
    by_cases t : htot w f lo (to + 1) i = 0
    · rw [if_pos t, if_pos (show nI (htot w f lo (to + 1) i) = 0 by rw [t]; rfl)]
    · rw [if_neg t, if_neg (nI_ne0 (by omega) (by omega))]
  | succ m ih =>
    intro i hi
    have i200 : pb_in (nI i) 200 := pn_in (by omega) (by decide)
    have N := ih (i + 1) (by omega)
    obtain ⟨ew, lw⟩ := hN.wk i (by omega)
    obtain ⟨eh, lh⟩ := hdN_of hN (show i < n by omega)
    obtain ⟨a, b, c, -⟩ := hc_fact hN f lo (to + 1) i (by omega)
    have c1 := c (hdN w i)
    have i8 : pb_in (nI (hdN w i)) 8 := pn_in lh (by decide)
    rw [r_X9_unlikeHands_17, show (pb_wF w 55 (hcF w f lo (to + 1) g i)).1 5 3 = nI n from hN.n5, if_pos (show nI i < nI n from nI_lt (by omega) (by omega)), if_pos i200, nI_clamp (show i < 2 ^ 31 by omega), show (pb_wF w 55 (hcF w f lo (to + 1) g i)).1 9 i = nI (wkN w i) from ew, M_outside, pb_bI_some]
    simp only [r_X9_unlikeHands_52, if_neg (show ¬ (1 : Int32) = 0 by decide), if_pos (show (0 : Int32) = 0 from rfl), if_pos i200, nI_clamp (show i < 2 ^ 31 by omega), M_isKnown1 (show i < 200 by omega), pb_bI_some, nI_1, show (pb_wF w 55 (hcF w f lo (to + 1) g i)).1 11 i = nI (hdN w i) from eh, if_pos i8, nI_clamp (show hdN w i < 2 ^ 31 by omega), show (pb_wF w 55 (hcF w f lo (to + 1) g i)).1 55 (hdN w i) = nI (hc w f lo (to + 1) (hdN w i) i) from if_pos lh, pw_FI, show (pb_wF w 55 (upd (hcF w f lo (to + 1) g i) (hdN w i) (nI (hc w f lo (to + 1) (hdN w i) i + 1)))).1 55 (hdN w i) = nI (hc w f lo (to + 1) (hdN w i) i + 1) from if_pos rfl, pn_max (show hmx w f lo (to + 1) i < 2 ^ 31 by omega) (show hc w f lo (to + 1) (hdN w i) i + 1 < 2 ^ 31 by omega)]
    simp only [q01, q10]
    rw [ite_nout (by omega) (by omega) (by omega)]
    rw [htot, hmx] at N
    by_cases t : hin w f lo (to + 1) i
    · rw [if_pos t, if_pos t, ← hcF_step g t lh] at N
      rw [if_pos (show ¬ (wkN w i < lo ∨ to < wkN w i) by have := t.2; omega), if_pos (show (pb_wF w 55 (hcF w f lo (to + 1) g i)).1 8 i = f from t.1.1), if_neg (show ¬ (pb_wF w 55 (hcF w f lo (to + 1) g i)).1 5 19 < (pb_wF w 55 (hcF w f lo (to + 1) g i)).1 13 i from t.1.2)]
      exact N
    · rw [if_neg t, if_neg t, hcF_skip g t] at N
      by_cases q : wkN w i < lo ∨ to < wkN w i
      · rw [if_neg (not_not_intro q)]
        exact N
      · rw [if_pos q]
        by_cases q2 : w.1 8 i = f
        · rw [if_pos (show (pb_wF w 55 (hcF w f lo (to + 1) g i)).1 8 i = f from q2)]
          by_cases q3 : w.1 5 19 < w.1 13 i
          · rw [if_pos (show (pb_wF w 55 (hcF w f lo (to + 1) g i)).1 5 19 < (pb_wF w 55 (hcF w f lo (to + 1) g i)).1 13 i from q3)]
            exact N
          · exact absurd ⟨⟨q2, q3⟩, by omega, by omega⟩ t
        · rw [if_neg (show ¬ (pb_wF w 55 (hcF w f lo (to + 1) g i)).1 8 i = f from q2)]
          exact N
theorem M_unl_c {w : pb_W} {n : Nat} (hN : LN w n) (f : Int32) {lo to : Nat} (l1 : lo ≤ 600) (l2 : to ≤ 600) : ∃ g, M_X9_unlikeHands [.ref 54, .int f, .int (nI lo), .int (nI to)] w = some (some (.int (ulk w f lo (to + 1) n)), pb_wF w 55 g) := by
  refine ⟨hcF w f lo (to + 1) (w.1 55) n, ?_⟩
  rw [e_X9_unlikeHands, M_fill55, pb_bV_some]
  exact cx_unl hN f (w.1 55) l1 l2 n 0 (by omega)
/-! the reference's -/
theorem mx_unl1 {w : pb_W} {f a2 a3 : Int32} : ∀ (m k : Nat) (v : pb_W), k + m = 8 → pb_run T_X12_unlike (3, [some (.ref 64), some (.int f), some (.int a2), some (.int a3), some (.int (nI k)), none, none], [], v) = pb_run T_X12_unlike (30, [some (.ref 64), some (.int f), some (.int a2), some (.int a3), some (.int (0 : Int32)), some (.int (0 : Int32)), none], [], pb_wF v 124 (fun j => if k ≤ j ∧ j < 8 then 0 else v.1 124 j)) := by
  intro m
  induction m with
  | zero =>
    intro k v h
    have e : (fun j => if k ≤ j ∧ j < 8 then 0 else v.1 124 j) = v.1 124 := by
      funext j
      rw [if_neg (by omega)]
    rw [r_X12_unlike_3, if_neg (show ¬ nI k < (8 : Int32) from nI_nlt (b := 8) (by omega) (by omega)), e, pw_F_self]
  | succ m ih =>
    intro k v h
    rw [r_X12_unlike_3, if_pos (show nI k < (8 : Int32) from nI_lt (b := 8) (by omega) (by omega)), if_pos (pn_in (by omega) (by omega)), nI_1, nI_clamp (by omega), ih (k + 1) _ (by omega)]
    congr 4
    refine Prod.ext (funext fun d => ?_) rfl
    simp only [pw_F1, pw_I1]
    split
    · funext j
      simp only [if_true, pu_at]
      by_cases h1 : j = k
      · rw [if_neg (by omega), if_pos h1, if_pos (by omega)]
      · rw [if_neg h1]
        by_cases h2 : k + 1 ≤ j ∧ j < 8
        · rw [if_pos h2, if_pos (by omega)]
        · rw [if_neg h2, if_neg (by omega)]
    · rfl
theorem mx_unl3 {w : pb_W} {n : Nat} (hN : LN w n) (f : Int32) {lo hi : Nat} (g : Nat → Int32) : ∀ m k h0, k + m = 8 → h0 < 8 → (∀ h, h < k → hc w f lo hi h n ≤ hc w f lo hi h0 n) → pb_run T_X12_unlike (115, [some (.ref 64), none, none, none, some (.int (nI (htot w f lo hi n))), some (.int (nI h0)), some (.int (nI k))], [], pb_wF w 124 (hcF w f lo hi g n)) = some (some (.int (ulk w f lo hi n)), pb_wF w 124 (hcF w f lo hi g n)) := by
  have hn := hN.le
  obtain ⟨a, b, c, h9, d, e⟩ := hc_fact hN f lo hi n (Nat.le_refl _)
  intro m
  induction m with
  | zero =>
    intro k h0 hk l0 H
    have E : hc w f lo hi h0 n = hmx w f lo hi n := by
      have := H h9 (by omega)
      have := c h0
      omega
    rw [r_X12_unlike_115, if_neg (show ¬ nI k < (8 : Int32) from nI_nlt (b := 8) (by omega) (by omega)), if_pos (pn_in l0 (by decide)), nI_clamp (by omega), show (pb_wF w 124 (hcF w f lo hi g n)).1 124 h0 = if h0 < 8 then nI (hc w f lo hi h0 n) else g h0 from rfl, if_pos l0, E, nI_subN b]
    unfold ulk
    by_cases t : htot w f lo hi n = 0
    · rw [if_pos t, if_pos (show nI (htot w f lo hi n) = 0 by rw [t]; rfl)]
    · rw [if_neg t, if_neg (nI_ne0 (by omega) (by omega))]
  | succ m ih =>
    intro k h0 hk l0 H
    have c0 := c h0
    have ck := c k
    rw [r_X12_unlike_115, if_pos (show nI k < (8 : Int32) from nI_lt (b := 8) (by omega) (by omega)), if_pos (pn_in (by omega) (by omega)), if_pos (pn_in l0 (by decide)), nI_clamp (show h0 < 2 ^ 31 by omega), nI_clamp (show k < 2 ^ 31 by omega), nI_1, show (pb_wF w 124 (hcF w f lo hi g n)).1 124 h0 = if h0 < 8 then nI (hc w f lo hi h0 n) else g h0 from rfl, if_pos l0, show (pb_wF w 124 (hcF w f lo hi g n)).1 124 k = if k < 8 then nI (hc w f lo hi k n) else g k from rfl, if_pos (show k < 8 by omega), ite_lt (by omega) (by omega)]
    by_cases t : hc w f lo hi h0 n < hc w f lo hi k n
    · rw [if_pos t]
      refine ih (k + 1) k (by omega) (by omega) (fun h hh => ?_)
      by_cases q : h = k
      · rw [q]; exact Nat.le_refl _
      · have := H h (by omega)
        omega
    · rw [if_neg t]
      refine ih (k + 1) h0 (by omega) l0 (fun h hh => ?_)
      by_cases q : h = k
      · rw [q]; omega
      · exact H h (by omega)
theorem mx_unl2 {w : pb_W} {n : Nat} (hN : LN w n) (f : Int32) {lo hi : Nat} (g : Nat → Int32) (l1 : lo ≤ 600) (l2 : hi ≤ 600) : ∀ m i, i + m = n → pb_run T_X12_unlike (30, [some (.ref 64), some (.int f), some (.int (nI lo)), some (.int (nI hi)), some (.int (nI (htot w f lo hi i))), some (.int (nI i)), none], [], pb_wF w 124 (hcF w f lo hi g i)) = some (some (.int (ulk w f lo hi n)), pb_wF w 124 (hcF w f lo hi g n)) := by
  have hn := hN.le
  intro m
  induction m with
  | zero =>
    intro i hi'
    have e : i = n := by omega
    subst e
    rw [r_X12_unlike_30, show (pb_wF w 124 (hcF w f lo hi g i)).1 64 7 = nI i from hN.n7, if_neg (show ¬ nI i < nI i from fun q => by rw [nI_ltI (by omega) (by omega)] at q; omega)]
    exact mx_unl3 hN f g 7 1 0 (by omega) (by omega) (fun h hh => by rw [show h = 0 by omega]; exact Nat.le_refl _)
  | succ m ih =>
    intro i hi'
    have i200 : pb_in (nI i) 200 := pn_in (by omega) (by decide)
    have N := ih (i + 1) (by omega)
    obtain ⟨ew, lw⟩ := hN.wk i (by omega)
    obtain ⟨eh, lh⟩ := hdN_of hN (show i < n by omega)
    have i8 : pb_in (nI (hdN w i)) 8 := pn_in lh (by decide)
    have hN' : LN (pb_wF w 124 (hcF w f lo hi g i)) n := LN_sv hN rfl rfl rfl rfl rfl rfl rfl rfl rfl rfl rfl rfl
    rw [r_X12_unlike_30, show (pb_wF w 124 (hcF w f lo hi g i)).1 64 7 = nI n from hN.n7, if_pos (show nI i < nI n from nI_lt (by omega) (by omega))]
    simp only [if_pos i200, nI_clamp (show i < 2 ^ 31 by omega), M_isKnown2 hN' (show i < 200 by omega), pb_bI_some, nI_1, show (pb_wF w 124 (hcF w f lo hi g i)).1 71 i = nI (wkN w i) from (congrFun hN.g71 i).trans ew, show (pb_wF w 124 (hcF w f lo hi g i)).1 74 i = nI (hdN w i) from (congrFun hN.g74 i).trans eh, if_pos i8, nI_clamp (show hdN w i < 2 ^ 31 by omega), show (pb_wF w 124 (hcF w f lo hi g i)).1 124 (hdN w i) = nI (hc w f lo hi (hdN w i) i) from if_pos lh, pw_FI, show (pb_wF w 124 (hcF w f lo hi g i)).1 70 i = w.1 8 i from congrFun hN.g70 i]
    simp only [q01, q10]
    rw [ite_lt (by omega) (by omega), ite_lt (by omega) (by omega)]
    rw [htot] at N
    by_cases t : hin w f lo hi i
    · rw [if_pos t, ← hcF_step g t lh] at N
      rw [if_pos t.1.1, if_neg (show ¬ (pb_wF w 124 (hcF w f lo hi g i)).1 5 19 < (pb_wF w 124 (hcF w f lo hi g i)).1 13 i from t.1.2), if_neg (show ¬ wkN w i < lo by have := t.2.1; omega), if_pos t.2.2]
      exact N
    · rw [if_neg t, hcF_skip g t] at N
      by_cases q2 : w.1 8 i = f
      · rw [if_pos q2]
        by_cases q3 : w.1 5 19 < w.1 13 i
        · rw [if_pos (show (pb_wF w 124 (hcF w f lo hi g i)).1 5 19 < (pb_wF w 124 (hcF w f lo hi g i)).1 13 i from q3)]
          exact N
        · rw [if_neg (show ¬ (pb_wF w 124 (hcF w f lo hi g i)).1 5 19 < (pb_wF w 124 (hcF w f lo hi g i)).1 13 i from q3)]
          by_cases q4 : wkN w i < lo
          · rw [if_pos q4]
            exact N
          · rw [if_neg q4, if_neg (fun z => t ⟨⟨q2, q3⟩, by omega, z⟩)]
            exact N
      · rw [if_neg q2]
        exact N
theorem M_unl_m {w : pb_W} {n : Nat} (hN : LN w n) (f : Int32) {lo hi : Nat} (l1 : lo ≤ 600) (l2 : hi ≤ 600) : ∃ g, M_X12_unlike [.ref 64, .int f, .int (nI lo), .int (nI hi)] w = some (some (.int (ulk w f lo hi n)), pb_wF w 124 g) := by
  refine ⟨hcF w f lo hi (w.1 124) n, ?_⟩
  rw [e_X12_unlike]
  refine (mx_unl1 (w := w) 8 0 w (by omega)).trans ?_
  have e : (fun j => if 0 ≤ j ∧ j < 8 then 0 else w.1 124 j) = hcF w f lo hi (w.1 124) 0 := by
    funext j
    unfold hcF
    simp only [Nat.zero_le, true_and]
    rfl
  rw [e]
  exact mx_unl2 hN f (w.1 124) l1 l2 n 0 (by omega)
