/-! ===== TEXT: the class's nextToken ===== -/
def rdr (b : pb_W) (tk st en : Int32) (v : Int64) : pb_W := pb_wL (pb_wI (pb_wI (pb_wI b 21 3 tk) 21 4 st) 21 5 en) 21 6 v
theorem rdr_3 (b : pb_W) (tk st en : Int32) (v : Int64) (x : Int32) : pb_wI (rdr b tk st en v) 21 3 x = rdr b x st en v := by
  refine Prod.ext (funext fun d => funext fun k => ?_) rfl
  by_cases d1 : d = 21
  · subst d1
    show (if k = 3 then x else if k = 5 then en else if k = 4 then st else if k = 3 then tk else b.1 21 k) = if k = 5 then en else if k = 4 then st else if k = 3 then x else b.1 21 k
    by_cases q : k = 3
    · subst q; rfl
    · simp only [if_neg q]
  · simp [rdr, pw_I1, pw_L1, d1]
theorem rdr_4 (b : pb_W) (tk st en : Int32) (v : Int64) (x : Int32) : pb_wI (rdr b tk st en v) 21 4 x = rdr b tk x en v := by
  refine Prod.ext (funext fun d => funext fun k => ?_) rfl
  by_cases d1 : d = 21
  · subst d1
    show (if k = 4 then x else if k = 5 then en else if k = 4 then st else if k = 3 then tk else b.1 21 k) = if k = 5 then en else if k = 4 then x else if k = 3 then tk else b.1 21 k
    by_cases q : k = 4
    · subst q; rfl
    · simp only [if_neg q]
  · simp [rdr, pw_I1, pw_L1, d1]
theorem rdr_5 (b : pb_W) (tk st en : Int32) (v : Int64) (x : Int32) : pb_wI (rdr b tk st en v) 21 5 x = rdr b tk st x v := by
  refine Prod.ext (funext fun d => funext fun k => ?_) rfl
  by_cases d1 : d = 21
  · subst d1
    show (if k = 5 then x else if k = 5 then en else if k = 4 then st else if k = 3 then tk else b.1 21 k) = if k = 5 then x else if k = 4 then st else if k = 3 then tk else b.1 21 k
    by_cases q : k = 5
    · simp only [if_pos q]
    · simp only [if_neg q]
  · simp [rdr, pw_I1, pw_L1, d1]
theorem rdr_6 (b : pb_W) (tk st en : Int32) (v x : Int64) : pb_wL (rdr b tk st en v) 21 6 x = rdr b tk st en x := by
  refine Prod.ext rfl (funext fun d => funext fun k => ?_)
  by_cases d1 : d = 21
  · subst d1
    show (if k = 6 then x else if k = 6 then v else b.2 21 k) = if k = 6 then x else b.2 21 k
    by_cases q : k = 6
    · simp only [if_pos q]
    · simp only [if_neg q]
  · simp [rdr, pw_L2, pw_I2, d1]
theorem M_isLetter (a : Int32) (w : pb_W) : M_X5_isLetter [.int a] w = some (some (.int (b1 (isLe a))), w) := by
  rw [e_X5_isLetter]
  by_cases h1 : a < 97
  · rw [if_pos h1, b1_neg (fun q => q.1 h1)]
  · rw [if_neg h1]
    by_cases h2 : 122 < a
    · rw [if_pos h2, b1_neg (fun q => q.2 h2)]
    · rw [if_neg h2, b1_pos ⟨h1, h2⟩]
theorem M_isDigit (a : Int32) (w : pb_W) : M_X5_isDigit [.int a] w = some (some (.int (b1 (isDi a))), w) := by
  rw [e_X5_isDigit]
  by_cases h1 : a < 48
  · rw [if_pos h1, b1_neg (fun q => q.1 h1)]
  · rw [if_neg h1]
    by_cases h2 : 57 < a
    · rw [if_pos h2, b1_neg (fun q => q.2 h2)]
    · rw [if_neg h2, b1_pos ⟨h1, h2⟩]
theorem isLe_n {x : Int32} (h : isLe x) : ∃ c, 97 ≤ c ∧ c ≤ 122 ∧ x = nI c := by
  have h1 := h.1
  have h2 := h.2
  rw [pn_lt, show (97 : Int32).toInt = 97 by decide] at h1
  rw [pn_lt, show (122 : Int32).toInt = 122 by decide] at h2
  refine ⟨x.toInt.toNat, by omega, by omega, ?_⟩
  apply Int32.toInt_inj.mp
  rw [nI_toInt (by omega)]
  omega
theorem isDi_n {x : Int32} (h : isDi x) : ∃ c, 48 ≤ c ∧ c ≤ 57 ∧ x = nI c := by
  have h1 := h.1
  have h2 := h.2
  rw [pn_lt, show (48 : Int32).toInt = 48 by decide] at h1
  rw [pn_lt, show (57 : Int32).toInt = 57 by decide] at h2
  refine ⟨x.toInt.toNat, by omega, by omega, ?_⟩
  apply Int32.toInt_inj.mp
  rw [nI_toInt (by omega)]
  omega
theorem lc_n {x : Int32} (h : isLe x) : 1 ≤ lc x ∧ lc x ≤ 26 ∧ x - 97 + 1 = nI (lc x) := by
  obtain ⟨c, c1, c2, e⟩ := isLe_n h
  subst e
  have : lc (nI c) = c - 96 := by unfold lc; rw [nI_clamp (by omega)]
  rw [this, show nI c - (97 : Int32) = nI (c - 97) from nI_subN (b := 97) (by omega), nI_1]
  exact ⟨by omega, by omega, by congr 1; omega⟩
theorem nI_to64 {x : Nat} (h : x < 2 ^ 31) : (nI x).toInt64 = lN x := by
  apply Int64.toInt_inj.mp
  rw [Int32.toInt_toInt64, nI_toInt h, pf_lI (by omega)]
theorem wls_in {T : Nat → Int32} {s : Nat} : ∀ m, (∀ j, s ≤ j → j < s + m → isLe (T j)) → ∀ d, d ∈ wls T s m → 1 ≤ d ∧ d ≤ 26
  | 0, _, d, hd => by simp [wls] at hd
  | m + 1, h, d, hd => by
    rw [wls, List.mem_append, List.mem_singleton] at hd
    rcases hd with q | q
    · exact wls_in m (fun j a b => h j a (by omega)) d q
    · obtain ⟨a, b, -⟩ := lc_n (h (s + m) (by omega) (by omega))
      rw [q]
      exact ⟨a, b⟩
theorem enc_lt {T : Nat → Int32} {s : Nat} : ∀ m, (∀ j, s ≤ j → j < s + m → isLe (T j)) → enc (wls T s m) < 32 ^ m
  | 0, _ => by show 0 < 1; decide
  | m + 1, h => by
    have := enc_lt m (fun j a b => h j a (by omega))
    obtain ⟨a, b, -⟩ := lc_n (h (s + m) (by omega) (by omega))
    rw [wls, enc_sn, Nat.pow_succ]
    omega
theorem or5 {a b : Nat} (hb : b < 32) : a * 2 ^ 5 ||| b = a * 32 + b := by
  have := Nat.two_pow_add_eq_or_of_lt (i := 5) hb a
  rw [Nat.mul_comm] at this
  rw [← this]
theorem cx_skip {b : pb_W} {T : Nat → Int32} {n : Nat} (hn : n ≤ 600) (h2 : b.1 21 2 = nI n) (hT : b.1 22 = T) (tk en : Int32) (v : Int64) : ∀ f s, n ≤ s + f → s ≤ n → pb_run T_X5_nextToken (8, [some (.ref 21)], [], rdr b tk (nI s) en v) = pb_run T_X5_nextToken (60, [some (.ref 21)], [], rdr b tk (nI (adv isWs T n f s)) en v) := by
  intro f
  induction f with
  | zero =>
    intro s h1 h3
    rw [r_X5_nextToken_8, show (rdr b tk (nI s) en v).1 21 4 = nI s from rfl, show (rdr b tk (nI s) en v).1 21 2 = nI n from h2, if_neg (nI_nlt (by omega) (by omega))]
    rfl
  | succ f ih =>
    intro s h1 h3
    rw [r_X5_nextToken_8, show (rdr b tk (nI s) en v).1 21 4 = nI s from rfl, show (rdr b tk (nI s) en v).1 21 2 = nI n from h2]
    by_cases q : s < n
    · rw [if_pos (nI_lt q (by omega)), if_pos (pn_in (show s < 600 by omega) (by decide)), if_pos (pn_in (show s < 600 by omega) (by decide)), nI_clamp (show s < 2 ^ 31 by omega), nI_1, rdr_4, show (rdr b tk (nI s) en v).1 22 s = T s from congrFun hT s, ih (s + 1) (by omega) (by omega)]
      by_cases z : isWs (T s)
      · rw [adv_go ⟨q, z⟩]
        by_cases z1 : T s = 10
        · rw [if_pos z1]
        · rw [if_neg z1, if_pos (z.resolve_left z1)]
      · rw [adv_no (fun y => z y.2), if_neg (fun y => z (Or.inl y)), if_neg (fun y => z (Or.inr y))]
    · rw [if_neg (nI_nlt (by omega) (by omega)), adv_no (fun y => q y.1)]
theorem cx_wrd {b : pb_W} {T : Nat → Int32} {n : Nat} (hn : n ≤ 600) (h2 : b.1 21 2 = nI n) (hT : b.1 22 = T) (tk : Int32) (s : Nat) : ∀ f m (v : Int64), n ≤ s + m + f → s + m ≤ n → (∀ j, s ≤ j → j < s + m → isLe (T j)) → (m ≤ 8 → v = lN (enc (wls T s m))) → ∃ v', pb_run T_X5_nextWord (5, [some (.ref 21), none], [], rdr b tk (nI s) (nI (s + m)) v) = pb_run T_X5_nextWord (78, [some (.ref 21), some (.int (0 : Int32))], [], rdr b 13 (nI s) (nI (adv isLe T n f (s + m))) v') ∧ (adv isLe T n f (s + m) - s ≤ 8 → v' = lN (enc (wls T s (adv isLe T n f (s + m) - s)))) := by
  intro f
  induction f with
  | zero =>
    intro m v h1 h3 hl hv
    refine ⟨v, ?_, ?_⟩
    · rw [r_X5_nextWord_5, show (rdr b tk (nI s) (nI (s + m)) v).1 21 5 = nI (s + m) from rfl, show (rdr b tk (nI s) (nI (s + m)) v).1 21 2 = nI n from h2, if_neg (nI_nlt (by omega) (by omega)), rdr_3]
      rfl
    · rw [adv, show s + m - s = m by omega]
      exact hv
  | succ f ih =>
    intro m v h1 h3 hl hv
    rw [r_X5_nextWord_5, show (rdr b tk (nI s) (nI (s + m)) v).1 21 5 = nI (s + m) from rfl, show (rdr b tk (nI s) (nI (s + m)) v).1 21 2 = nI n from h2]
    by_cases q : s + m < n ∧ isLe (T (s + m))
    · obtain ⟨l1, l2, l3⟩ := lc_n q.2
      obtain ⟨v', y1, y2⟩ := ih (m + 1) ((v <<< (((5 : Int32)).toInt64 &&& 63)) ||| (((T (s + m) - (97 : Int32)) + (1 : Int32))).toInt64) (by omega) (by omega) (fun j a c => by
        by_cases e : j = s + m
        · rw [e]; exact q.2
        · exact hl j a (by omega)) (fun m8 => by
        have lt := enc_lt m hl
        have p8 : 32 ^ m ≤ 32 ^ 7 := Nat.pow_le_pow_right (by decide) (by omega)
        have p : (32 : Nat) ^ 7 = 34359738368 := by decide
        rw [l3, hv (by omega), nI_to64 (by omega), show ((5 : Int32)).toInt64 &&& 63 = (nI 5).toInt64 &&& 63 from rfl, wb_shl _ (by decide), wb_or (by omega) (by omega), or5 (by omega), wls, enc_sn])
      refine ⟨v', ?_, ?_⟩
      · rw [if_pos (nI_lt q.1 (by omega)), if_pos (pn_in (show s + m < 600 by omega) (by decide)), nI_clamp (show s + m < 2 ^ 31 by omega), show (rdr b tk (nI s) (nI (s + m)) v).1 22 (s + m) = T (s + m) from congrFun hT (s + m), M_isLetter, pb_bI_some, b1_pos q.2, if_neg (show ¬ (1 : Int32) = 0 by decide), show (rdr b tk (nI s) (nI (s + m)) v).1 21 5 = nI (s + m) from rfl, if_pos (pn_in (show s + m < 600 by omega) (by decide)), nI_clamp (show s + m < 2 ^ 31 by omega), show (rdr b tk (nI s) (nI (s + m)) v).1 22 (s + m) = T (s + m) from congrFun hT (s + m), show (rdr b tk (nI s) (nI (s + m)) v).2 21 6 = v from rfl, rdr_6, rdr_5, nI_1, adv_go q]
        exact y1
      · rw [adv_go q]
        exact y2
    · refine ⟨v, ?_, ?_⟩
      · rw [adv_no q]
        by_cases z : s + m < n
        · rw [if_pos (nI_lt z (by omega)), if_pos (pn_in (show s + m < 600 by omega) (by decide)), nI_clamp (show s + m < 2 ^ 31 by omega), show (rdr b tk (nI s) (nI (s + m)) v).1 22 (s + m) = T (s + m) from congrFun hT (s + m), M_isLetter, pb_bI_some, b1_neg (fun y => q ⟨z, y⟩), if_pos rfl, rdr_3]
        · rw [if_neg (nI_nlt (by omega) (by omega)), rdr_3]
      · rw [adv_no q, show s + m - s = m by omega]
        exact hv
theorem cx_keys {b : pb_W} {s m : Nat} (hm : m ≤ 600) (hs : s ≤ 600) {l : List Nat} (hl : l.length = m) (hin : ∀ d, d ∈ l → 1 ≤ d ∧ d ≤ 26) (hlt : m ≤ 8 → enc l < 2 ^ 40) {v : Int64} (hv : m ≤ 8 → v = lN (enc l)) : ∀ f i (tk : Int32), i + f = 13 → pb_run T_X5_nextWord (78, [some (.ref 21), some (.int (nI i))], [], rdr b tk (nI s) (nI (s + m)) v) = some (none, rdr b (if kwi l f i < 13 then nI (kwi l f i) else tk) (nI s) (nI (s + m)) v) := by
  intro f
  induction f with
  | zero =>
    intro i tk hi
    rw [r_X5_nextWord_78, if_neg (show ¬ nI i < Int32.ofNat 13 from nI_nlt (b := 13) (by omega) (by omega)), kwi, if_neg (by omega)]
  | succ f ih =>
    intro i tk hi
    obtain ⟨k1, k2, k3, k4⟩ := KL_enc i (by omega)
    have e : nI (s + m) - nI s = nI m := by rw [nI_subN (by omega)]; congr 1; omega
    rw [r_X5_nextWord_78, if_pos (show nI i < Int32.ofNat 13 from nI_lt (b := 13) (by omega) (by omega)), if_pos (pn_in (show i < 13 by omega) (by decide)), nI_clamp (show i < 2 ^ 31 by omega), e_X5_isLongWord, show (rdr b tk (nI s) (nI (s + m)) v).1 21 5 = nI (s + m) from rfl, show (rdr b tk (nI s) (nI (s + m)) v).1 21 4 = nI s from rfl, e, show (rdr b tk (nI s) (nI (s + m)) v).2 21 6 = v from rfl, k1, nI_1, ih (i + 1) tk (by omega), kwi]
    by_cases m8 : m ≤ 8
    · rw [if_neg (show ¬ (8 : Int32) < nI m from nI_nlt (a := 8) m8 (by decide)), pb_bI_some, if_pos rfl, rdr_3, ih (i + 1) (nI i) (by omega), hv m8]
      by_cases q : KL.getD i [] = l
      · rw [if_pos q, if_pos ((lg_eq0 _ _).mpr (by rw [q])), if_pos (show i < 13 by omega)]
        rcases kwi_spec l f (i + 1) (by omega) with ⟨a, -⟩ | ⟨a, c, d⟩
        · rw [if_neg (by omega)]
        · have := KL_ne i (by omega) _ c (q.trans d.symm)
          omega
      · rw [if_neg q, if_neg]
        intro z
        have z' := (lg_eq0 _ _).mp z
        have : enc l = enc (KL.getD i []) := by
          have t := congrArg (fun x : Int64 => x.toBitVec.toNat) z'
          have lt := hlt m8
          simp only [wb_tn (show enc l < 2 ^ 64 by omega), wb_tn (show enc (KL.getD i []) < 2 ^ 64 by omega)] at t
          exact t
        exact q (enc_inj _ _ l (KL.getD i []) rfl rfl hin k3 this).symm
    · have nk : KL.getD i [] ≠ l := fun q => by
        rw [q, hl] at k4
        omega
      rw [if_pos (show (8 : Int32) < nI m from nI_lt (a := 8) (by omega) (by omega)), pb_bI_some, if_neg (show ¬ (1 : Int32) = 0 by decide), if_neg nk, ih (i + 1) tk (by omega)]
      exact ite_self _
