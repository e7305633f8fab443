/-! ===== BOUND ===== -/
abbrev iI (z : Int) : Int32 := Int32.ofInt z
theorem iI_toInt {z : Int} (h1 : -2 ^ 31 ≤ z) (h2 : z < 2 ^ 31) : (iI z).toInt = z := by
  rw [Int32.toInt_ofInt, show Int32.size = 4294967296 from rfl]
  exact Int.bmod_eq_of_le (by omega) (by omega)
theorem iI_of (x : Int32) : x = iI x.toInt := by
  apply Int32.toInt_inj.mp
  have := pn_rng x
  rw [iI_toInt (by omega) (by omega)]
theorem iI_n {n : Nat} (h : n < 2 ^ 31) : nI n = iI n := by
  apply Int32.toInt_inj.mp
  rw [iI_toInt (by omega) (by omega), nI_toInt h]
theorem iI_add (a b : Int) : iI a + iI b = iI (a + b) := (Int32.ofInt_add a b).symm
theorem iI_sub (a b : Int) : iI a - iI b = iI (a - b) := (Int32.ofInt_sub a b).symm
theorem iI_mul (a b : Int) : iI a * iI b = iI (a * b) := (Int32.ofInt_mul a b).symm
theorem iI_lt {a b : Int} (a1 : -2 ^ 31 ≤ a) (a2 : a < 2 ^ 31) (b1 : -2 ^ 31 ≤ b) (b2 : b < 2 ^ 31) : iI a < iI b ↔ a < b := by
  rw [pn_lt, iI_toInt a1 a2, iI_toInt b1 b2]
theorem iI_eq {a b : Int} (a1 : -2 ^ 31 ≤ a) (a2 : a < 2 ^ 31) (b1 : -2 ^ 31 ≤ b) (b2 : b < 2 ^ 31) : iI a = iI b ↔ a = b := by
  refine ⟨fun h => ?_, fun h => by rw [h]⟩
  have := congrArg Int32.toInt h
  rw [iI_toInt a1 a2, iI_toInt b1 b2] at this
  exact this
theorem nI_subN {a b : Nat} (h : b ≤ a) : nI a - nI b = nI (a - b) := by
  have : nI a = nI (a - b) + nI b := by rw [nI_add, Nat.sub_add_cancel h]
  rw [this, Int32.add_sub_cancel]
theorem mx0_sub {a b : Nat} (ha : a < 2 ^ 31) (hb : b < 2 ^ 31) : pb_max (0 : Int32) (nI a - nI b) = nI (a - b) := by
  by_cases h : b ≤ a
  · rw [nI_subN h, pn_max0 _ (by omega)]
  · have e : nI a - nI b = iI ((a : Int) - b) := by rw [iI_n ha, iI_n hb, iI_sub]
    have z : (0 : Int32) = iI 0 := rfl
    unfold pb_max
    rw [e, z, if_neg (by rw [iI_lt (by omega) (by omega) (by omega) (by omega)]; omega), show a - b = 0 by omega]
    rfl
/-- the least and the greatest sum of weeks lo up to lo + m -/
def blo (w : pb_W) (f : Int32) (n lo : Nat) : Nat → Int32
  | 0 => -1
  | m + 1 => if spN w f (nI (lo + m)) n = 0 then blo w f n lo m else if blo w f n lo m = -1 then nI (spN w f (nI (lo + m)) n) else pb_min (blo w f n lo m) (nI (spN w f (nI (lo + m)) n))
def bgr (w : pb_W) (f : Int32) (n lo : Nat) : Nat → Int32
  | 0 => -1
  | m + 1 => if spN w f (nI (lo + m)) n = 0 then bgr w f n lo m else pb_max (bgr w f n lo m) (nI (spN w f (nI (lo + m)) n))
theorem blg {w : pb_W} {n : Nat} (hN : LN w n) (f : Int32) (lo : Nat) : ∀ m, (blo w f n lo m = -1 ∧ bgr w f n lo m = -1) ∨ ∃ a b, a < 2 ^ 31 ∧ b < 2 ^ 31 ∧ blo w f n lo m = nI a ∧ bgr w f n lo m = nI b
  | 0 => Or.inl ⟨rfl, rfl⟩
  | m + 1 => by
    have hn := hN.le
    obtain ⟨-, s2⟩ := spn_N hN f (nI (lo + m)) n (Nat.le_refl n)
    rw [blo, bgr]
    by_cases t : spN w f (nI (lo + m)) n = 0
    · rw [if_pos t, if_pos t]
      exact blg hN f lo m
    · rw [if_neg t, if_neg t]
      rcases blg hN f lo m with ⟨a, b⟩ | ⟨a, b, la, lb, ea, eb⟩
      · rw [a, b, if_pos rfl]
        refine Or.inr ⟨spN w f (nI (lo + m)) n, spN w f (nI (lo + m)) n, by omega, by omega, rfl, ?_⟩
        unfold pb_max
        rw [if_pos (show (-1 : Int32) < nI (spN w f (nI (lo + m)) n) by rw [pn_lt, nI_toInt (by omega)]; have : (-1 : Int32).toInt = -1 := by decide
                                                                        omega)]
      · rw [ea, eb, if_neg (pn_m1 a la), pn_min la (by omega), pn_max lb (by omega)]
        exact Or.inr ⟨_, _, by omega, by omega, rfl, rfl⟩
theorem w_56 (v : pb_W) (l g l' g' : Int32) : pb_wI (pb_wI (pb_wI (pb_wI v 54 5 l) 54 6 g) 54 5 l') 54 6 g' = pb_wI (pb_wI v 54 5 l') 54 6 g' := by
  refine Prod.ext (funext fun d => funext fun k => ?_) rfl
  by_cases d54 : d = 54
  · subst d54
    show (if k = 6 then g' else if k = 5 then l' else if k = 6 then g else if k = 5 then l else v.1 54 k) = if k = 6 then g' else if k = 5 then l' else v.1 54 k
    by_cases q : k = 6
    · rw [if_pos q, if_pos q]
    · rw [if_neg q, if_neg q, if_neg q]
      by_cases r : k = 5
      · rw [if_pos r, if_pos r]
      · rw [if_neg r, if_neg r, if_neg r]
  · simp [pw_I1, d54]
theorem cx_bound {w : pb_W} {n : Nat} (hN : LN w n) (f : Int32) {a2 a3 : Int32} {lo hi : Nat} (hh : pb_min (519 : Int32) (a2 + a3) = nI hi) (h519 : hi ≤ 519) (hlo : lo ≤ hi + 1) : ∀ r m, lo + m + r = hi + 1 → pb_run T_X9_findBounds (51, [some (.ref 54), none, some (.int a2), some (.int a3), some (.int (nI (lo + m)))], [], pb_wI (pb_wI (lay w f n) 54 5 (blo w f n lo m)) 54 6 (bgr w f n lo m)) = some (some (.int (if blo w f n lo (hi + 1 - lo) = -1 then 0 else 1)), pb_wI (pb_wI (lay w f n) 54 5 (blo w f n lo (hi + 1 - lo))) 54 6 (bgr w f n lo (hi + 1 - lo))) := by
  have hn := hN.le
  intro r
  induction r with
  | zero =>
    intro m hm
    rw [r_X9_findBounds_51, hh, if_pos (nI_lt (by omega) (by omega)), show hi + 1 - lo = m by omega, show (pb_wI (pb_wI (lay w f n) 54 5 (blo w f n lo m)) 54 6 (bgr w f n lo m)).1 54 5 = blo w f n lo m from rfl]
    by_cases t : blo w f n lo m = -1
    · rw [if_pos t, if_pos t]
    · rw [if_neg t, if_neg t]
  | succ r ih =>
    intro m hm
    have N := ih (m + 1) (by omega)
    have i520 : pb_in (nI (lo + m)) 520 := pn_in (by omega) (by decide)
    obtain ⟨s1, s2⟩ := spn_N hN f (nI (lo + m)) n (Nat.le_refl n)
    have z : ((0 : Int32) < nI (spN w f (nI (lo + m)) n)) ↔ ¬ spN w f (nI (lo + m)) n = 0 := by
      rw [show (0 : Int32) = nI 0 from rfl, nI_ltI (by omega) (by omega)]
      omega
    rw [r_X9_findBounds_51, hh, if_neg (show ¬ nI hi < nI (lo + m) by rw [nI_ltI (by omega) (by omega)]; omega), if_pos i520, if_pos i520, if_pos i520, nI_clamp (show lo + m < 2 ^ 31 by omega), nI_1, show (pb_wI (pb_wI (lay w f n) 54 5 (blo w f n lo m)) 54 6 (bgr w f n lo m)).1 54 5 = blo w f n lo m from rfl, show (pb_wI (pb_wI (lay w f n) 54 5 (blo w f n lo m)) 54 6 (bgr w f n lo m)).1 56 (lo + m) = if lo + m < 520 then spn w f (nI (lo + m)) n else w.1 56 (lo + m) from rfl, if_pos (show lo + m < 520 by omega), s1, r_X9_findBounds_108, r_X9_findBounds_108, if_pos i520, if_pos i520, nI_clamp (show lo + m < 2 ^ 31 by omega), nI_1, show (pb_wI (pb_wI (lay w f n) 54 5 (blo w f n lo m)) 54 6 (bgr w f n lo m)).1 54 6 = bgr w f n lo m from rfl, show (pb_wI (pb_wI (lay w f n) 54 5 (blo w f n lo m)) 54 6 (bgr w f n lo m)).1 56 (lo + m) = if lo + m < 520 then spn w f (nI (lo + m)) n else w.1 56 (lo + m) from rfl, if_pos (show lo + m < 520 by omega), s1, w_56, w_56]
    rw [blo, bgr] at N
    by_cases t : spN w f (nI (lo + m)) n = 0
    · rw [if_pos t, if_pos t] at N
      rw [if_neg (fun q => (z.mp q) t)]
      exact N
    · rw [if_neg t, if_neg t] at N
      rw [if_pos (z.mpr t)]
      by_cases u : blo w f n lo m = -1
      · rw [if_pos u] at N
        rw [if_pos u]
        exact N
      · rw [if_neg u] at N
        rw [if_neg u]
        exact N
/-- what the reference has found so far -/
def bst (w : pb_W) (f : Int32) (n lo : Nat) (a4 : Int32) (m : Nat) : Int32 := if a4 = 0 then blo w f n lo m else bgr w f n lo m
theorem mx_bound {w : pb_W} (hL : iv_L w) {n : Nat} (hN : LN w n) (f : Int32) {a2 a3 a4 : Int32} {lo hi : Nat} (hh : pb_min (519 : Int32) (a2 + a3) = nI hi) (h519 : hi ≤ 519) (hlo : lo ≤ hi + 1) : ∀ r m, lo + m + r = hi + 1 → pb_run T_X12_bound (71, [some (.ref 64), some (.int f), some (.int a2), some (.int a3), some (.int a4), some (.int (bst w f n lo a4 m)), some (.int (nI (lo + m))), none], [], w) = if bst w f n lo a4 (hi + 1 - lo) = -1 then some (some (.int (-1)), pb_wI w 64 0 6) else some (some (.int (bst w f n lo a4 (hi + 1 - lo))), pb_wI w 64 0 0) := by
  have hn := hN.le
  intro r
  induction r with
  | zero =>
    intro m hm
    rw [r_X12_bound_71, hh, if_pos (nI_lt (by omega) (by omega)), show hi + 1 - lo = m by omega, ite_ref, e_X12_gives, pb_bI_some]
  | succ r ih =>
    intro m hm
    have N := ih (m + 1) (by omega)
    obtain ⟨s1, s2⟩ := spn_N hN f (nI (lo + m)) n (Nat.le_refl n)
    rw [r_X12_bound_71, hh, if_neg (show ¬ nI hi < nI (lo + m) by rw [nI_ltI (by omega) (by omega)]; omega), M_hasLine12 hL hN, pb_bI_some, M_spentOf hL hn hN.n5, pb_bI_some, nI_1, s1]
    by_cases t : spN w f (nI (lo + m)) n = 0
    · have E : bst w f n lo a4 (m + 1) = bst w f n lo a4 m := by
        unfold bst
        rw [blo, bgr, if_pos t, if_pos t]
      rw [E] at N
      rw [if_pos t, if_pos rfl]
      exact N
    · rw [if_neg t, if_neg (show ¬ (1 : Int32) = 0 by decide)]
      have p1 : (-1 : Int32) < nI (spN w f (nI (lo + m)) n) := by
        rw [pn_lt, nI_toInt (by omega)]
        have : (-1 : Int32).toInt = -1 := by decide
        omega
      have E : bst w f n lo a4 (m + 1) = if bst w f n lo a4 m = -1 then nI (spN w f (nI (lo + m)) n) else if a4 = 0 then pb_min (bst w f n lo a4 m) (nI (spN w f (nI (lo + m)) n)) else pb_max (bst w f n lo a4 m) (nI (spN w f (nI (lo + m)) n)) := by
        unfold bst
        rw [blo, bgr, if_neg t, if_neg t]
        by_cases q : a4 = 0
        · simp only [if_pos q]
        · simp only [if_neg q]
          by_cases u : bgr w f n lo m = -1
          · rw [if_pos u, u]
            unfold pb_max
            rw [if_pos p1]
          · rw [if_neg u]
      rw [E] at N
      by_cases u : bst w f n lo a4 m = -1
      · rw [if_pos u] at N
        rw [if_pos u]
        exact N
      · rw [if_neg u] at N
        rw [if_neg u]
        by_cases q : a4 = 0
        · rw [if_pos q] at N
          rw [if_pos q]
          unfold pb_min at N
          by_cases v : nI (spN w f (nI (lo + m)) n) < bst w f n lo a4 m
          · rw [if_pos v] at N
            rw [if_pos v]
            exact N
          · rw [if_neg v] at N
            rw [if_neg v]
            exact N
        · rw [if_neg q] at N
          rw [if_neg q]
          unfold pb_max at N
          by_cases v : bst w f n lo a4 m < nI (spN w f (nI (lo + m)) n)
          · rw [if_pos v] at N
            rw [if_pos v]
            exact N
          · rw [if_neg v] at N
            rw [if_neg v]
            exact N
theorem blo_sv {v w : pb_W} (h : SV v w) (f : Int32) (n lo : Nat) : ∀ m, blo v f n lo m = blo w f n lo m ∧ bgr v f n lo m = bgr w f n lo m
  | 0 => ⟨rfl, rfl⟩
  | m + 1 => by
    obtain ⟨a, b⟩ := blo_sv h f n lo m
    rw [blo, blo, bgr, bgr, a, b, spN_sv h]
    exact ⟨rfl, rfl⟩
theorem LN_sv {v w : pb_W} {n : Nat} (hN : LN w n) (h : v.1 5 = w.1 5) (h64 : v.1 64 7 = w.1 64 7) (h10 : v.1 64 10 = w.1 64 10) (h8 : v.1 8 = w.1 8) (h9 : v.1 9 = w.1 9) (h11 : v.1 11 = w.1 11) (h13 : v.1 13 = w.1 13) (h16 : v.1 16 = w.1 16) (h70 : v.1 70 = w.1 70) (h71 : v.1 71 = w.1 71) (h74 : v.1 74 = w.1 74) (h75 : v.1 75 = w.1 75) : LN v n := by
  refine ⟨hN.le, ?_, ?_, ?_, ?_, ?_, ?_, ?_, ?_, ?_, ?_, ?_⟩
  · rw [h]; exact hN.n5
  · rw [h64]; exact hN.n7
  · rw [h70, h8]; exact hN.g70
  · rw [h71, h9]; exact hN.g71
  · rw [h74, h11]; exact hN.g74
  · rw [h75, h13]; exact hN.g75
  · rw [h10, h]; exact hN.d10
  · unfold wkN; rw [h9]; exact hN.wk
  · unfold pcN; rw [h16]; exact hN.pc
  · rw [h11]; exact hN.hd
  · rw [h8]; exact hN.fm
