/-! ===== TEXT: which word it is, as the reference asks ===== -/
theorem wls_get (T : Nat → Int32) (s : Nat) : ∀ m t, t < m → (wls T s m).getD t 0 = lc (T (s + t))
  | 0, t, h => by omega
  | m + 1, t, h => by
    have L := wls_len T s m
    rw [wls]
    by_cases q : t < m
    · rw [gD1 _ _ (by omega)]
      exact wls_get T s m t q
    · rw [gD2 _ _ (by omega), L, show t - m = 0 by omega, show t = m by omega]
      rfl
theorem l_ext {a b : List Nat} (hl : a.length = b.length) (h : ∀ t, t < a.length → a.getD t 0 = b.getD t 0) : a = b := by
  apply List.ext_getElem hl
  intro i h1 h2
  have := h i h1
  rw [List.getD_eq_getElem?_getD, List.getD_eq_getElem?_getD, List.getElem?_eq_getElem h1, List.getElem?_eq_getElem h2] at this
  exact this
theorem le_bc {x : Int32} (hb : bY x) (h : isLe x) : nI (bc x) = nI (96 + lc x) := by
  obtain ⟨c, c1, c2, e⟩ := isLe_n h
  obtain ⟨-, -, -, -, -, b6⟩ := bc_is hb
  have h48 : ¬ x < 48 := fun q => h.1 (pn_lt.mpr (by
    have := pn_lt.mp q
    rw [show (48 : Int32).toInt = 48 by decide] at this
    rw [show (97 : Int32).toInt = 97 by decide]
    omega))
  rw [b6 h48]
  unfold lc
  rw [e, nI_clamp (by omega)]
  congr 1
  omega
def kp301 : List Nat := [1, 4, 9, 14, 20, 23, 27, 31, 36, 41]
theorem kp301_ok : ∀ i, i < 9 → (∀ j, j < (KL.getD (0 + i) []).length → (pb_strs.getD 1 []).getD (kp301.getD i 0 + j) 0 = nI (96 + (KL.getD (0 + i) []).getD j 0) ∧ (pb_strs.getD 1 []).getD (kp301.getD i 0 + j) 0 ≠ 32) ∧ (pb_strs.getD 1 []).getD (kp301.getD i 0 + (KL.getD (0 + i) []).length) 0 = 32 ∧ kp301.getD (i + 1) 0 = kp301.getD i 0 + (KL.getD (0 + i) []).length + 1 ∧ kp301.getD i 0 + (KL.getD (0 + i) []).length < 41 ∧ 1 ≤ (KL.getD (0 + i) []).length := by decide +kernel
theorem ch301 : ∀ k, k < 41 → (((((pb_strs.getD 1 []).getD k 0 &&& (255 : Int32))).toUInt32 % 65536).toInt32) = (pb_strs.getD 1 []).getD k 0 ∧ ((((pb_strs.getD 1 []).getD k 0)).toUInt32 % 65536).toInt32 = (pb_strs.getD 1 []).getD k 0 := by decide +kernel
theorem M_charAt301 {k : Nat} (hk : k < 41) (w : pb_W) : M_J0_charAt_5068e_301 [.ref 301, .int (nI k)] w = some (some (.int ((pb_strs.getD 1 []).getD k 0)), w) := by
  obtain ⟨c1, c2⟩ := ch301 k hk
  have e1 : (nI k).toInt = (k : Int) := nI_toInt (by omega)
  have C : M_J0_checkIndex_df160 [.int (nI k), .int (Int32.ofNat 41)] w = some (none, w) := by
    show (if 0 ≤ (nI k).toInt ∧ (nI k).toInt < (Int32.ofNat 41).toInt then some (none, w) else none) = _
    rw [if_pos]
    rw [e1, show (Int32.ofNat 41).toInt = 41 by decide]
    omega
  rw [e_J0_charAt_5068e_301, e_J0_isLatin1_aae02_301, if_neg (show ¬ (1 : Int32) = 0 by decide), if_pos rfl, pb_bI_some, if_neg (show ¬ (1 : Int32) = 0 by decide), e_J1_charAt_3b067_311, C, pb_bV_some, if_pos (pn_in hk (by decide)), nI_clamp (show k < 2 ^ 31 by omega), c1, c2, if_pos rfl, pb_bI_some, c2, if_pos rfl]
theorem M_length301 (w : pb_W) : M_J0_length_8abf5_301 [.ref 301] w = some (some (.int (nI 41)), w) := by
  rw [e_J0_length_8abf5_301, e_J0_coder_7d493_301, if_neg (show ¬ (1 : Int32) = 0 by decide), if_pos (by decide), pb_bI_some]
  rfl
theorem sp301 (a2 a3 : Int32) (w : pb_W) : ∀ m k, k + m < 41 → (∀ j, j < m → (pb_strs.getD 1 []).getD (k + j) 0 ≠ 32) → pb_run T_X12_inWords_301 (25, [some (.ref 64), some (.ref 301), some (.int a2), some (.int a3), some (.int (nI k)), none, none], [], w) = pb_run T_X12_inWords_301 (25, [some (.ref 64), some (.ref 301), some (.int a2), some (.int a3), some (.int (nI (k + m))), none, none], [], w) := by
  intro m
  induction m with
  | zero => intro k _ _; rfl
  | succ m ih =>
    intro k hk h
    rw [r_X12_inWords_301_25, M_charAt301 (show k < 41 by omega), pb_bI_some, if_neg (show ¬ (pb_strs.getD 1 []).getD k 0 = 32 from h 0 (by omega)), nI_1, ih (k + 1) (by omega) (fun j hj => by rw [show k + 1 + j = k + (j + 1) by omega]; exact h (j + 1) (by omega)), show k + 1 + m = k + (m + 1) by omega]
theorem cm301 {b : pb_W} {T : Nat → Int32} {n : Nat} (hn : n ≤ 600) (h29 : b.1 64 29 = nI n) (hT : ∀ k, k < n → b.1 83 k = T k) (hb : ∀ k, bY (T k)) {s en : Nat} (hs : s ≤ en) (hen : en ≤ n) (hl : ∀ j, s ≤ j → j < en → isLe (T j)) (tk v : Int32) {i p : Nat} {K : List Nat} (hi : i < 20) (hK : K.length = en - s) (hp : p + K.length < 41) (hS : ∀ j, j < K.length → (pb_strs.getD 1 []).getD (p + j) 0 = nI (96 + K.getD j 0)) (hK2 : ∀ d, d ∈ K → 1 ≤ d ∧ d ≤ 26) : ∀ m j, j + m = K.length → (∀ t, t < j → lc (T (s + t)) = K.getD t 0) → pb_run T_X12_inWords_301 (68, [some (.ref 64), some (.ref 301), some (.int (nI i)), some (.int (nI p)), some (.int (nI (p + K.length))), some (.int (1 : Int32)), some (.int (nI (p + j)))], [], mrd b tk (nI s) (nI en) v) = if K = wls T s (en - s) then some (some (.int (nI i)), mrd b tk (nI s) (nI en) v) else pb_run T_X12_inWords_301 (14, [some (.ref 64), some (.ref 301), some (.int (nI (i + 1))), some (.int (nI (p + K.length + 1))), none, none, none], [], mrd b tk (nI s) (nI en) v) := by
  have wl := wls_len T s (en - s)
  have kin : ∀ t, t < K.length → K.getD t 0 ≤ 26 := fun t ht => by
    rw [List.getD_eq_getElem?_getD, List.getElem?_eq_getElem ht]
    exact (hK2 _ (List.getElem_mem ht)).2
  intro m
  induction m with
  | zero =>
    intro j hj h
    rw [r_X12_inWords_301_68, if_neg (nI_nlt (show p + K.length ≤ p + j by omega) (by omega)), if_neg (show ¬ (1 : Int32) = 0 by decide), if_pos]
    exact l_ext (by omega) (fun t ht => by rw [wls_get T s (en - s) t (by omega), h t (by omega)])
  | succ m ih =>
    intro j hj h
    have ea : atv T n (s + j) = nI (96 + lc (T (s + j))) := by
      unfold atv
      rw [if_pos (by omega)]
      exact le_bc (hb _) (hl (s + j) (by omega) (by omega))
    obtain ⟨lc1, lc2, -⟩ := lc_n (hl (s + j) (by omega) (by omega))
    have eix : nI s + nI (p + j) - nI p = nI (s + j) := by
      rw [nI_add, nI_subN (by omega)]
      congr 1
      omega
    rw [r_X12_inWords_301_68, if_pos (nI_lt (show p + j < p + K.length by omega) (by omega)), if_neg (show ¬ (1 : Int32) = 0 by decide), M_charAt301 (show p + j < 41 by omega), pb_bI_some, show (mrd b tk (nI s) (nI en) v).1 64 31 = nI s from rfl, eix, M_at hn h29 hT hb tk (nI s) (nI en) v (by omega), pb_bI_some, ea, hS j (by omega), nI_1]
    have kj := kin j (by omega)
    rw [ite_eqN (by omega) (by omega)]
    by_cases q : K.getD j 0 = lc (T (s + j))
    · rw [if_pos (by omega)]
      exact ih (j + 1) (by omega) (fun t ht => by
        by_cases z : t = j
        · rw [z]; exact q.symm
        · exact h t (by omega))
    · have ne : ¬ K = wls T s (en - s) := fun z => q (by rw [z, wls_get T s (en - s) j (by omega)])
      rw [if_neg (by omega), if_neg ne, r_X12_inWords_301_68, if_pos (show (0 : Int32) = 0 from rfl), nI_1, nI_1]
      exact ite_self _
theorem lp301 {b : pb_W} {T : Nat → Int32} {n : Nat} (hn : n ≤ 600) (h29 : b.1 64 29 = nI n) (hT : ∀ k, k < n → b.1 83 k = T k) (hb : ∀ k, bY (T k)) {s en : Nat} (hs : s ≤ en) (hen : en ≤ n) (hl : ∀ j, s ≤ j → j < en → isLe (T j)) (tk v : Int32) : ∀ f i, i + f = 9 → (∀ j, j < i → KL.getD (0 + j) [] ≠ wls T s (en - s)) → pb_run T_X12_inWords_301 (14, [some (.ref 64), some (.ref 301), some (.int (nI i)), some (.int (nI (kp301.getD i 0))), none, none, none], [], mrd b tk (nI s) (nI en) v) = some (some (.int (if 0 ≤ kw (wls T s (en - s)) ∧ kw (wls T s (en - s)) < 9 then nI (kw (wls T s (en - s)) - 0) else -1)), mrd b tk (nI s) (nI en) v) := by
  intro f
  induction f with
  | zero =>
    intro i hi h
    have e : i = 9 := by omega
    subst e
    rw [r_X12_inWords_301_14, M_length301, pb_bI_some, if_neg (show ¬ nI (kp301.getD 9 0) < nI 41 by decide), if_neg]
    rintro ⟨q1, q2⟩
    rcases kw_spec (wls T s (en - s)) with ⟨a, -⟩ | ⟨a, c⟩
    · omega
    · refine h (kw (wls T s (en - s)) - 0) (by omega) ?_
      rw [show 0 + (kw (wls T s (en - s)) - 0) = kw (wls T s (en - s)) by omega]
      exact c
  | succ f ih =>
    intro i hi h
    obtain ⟨p1, p2, p3, p4, p5⟩ := kp301_ok i (by omega)
    obtain ⟨-, -, k3, k4⟩ := KL_enc (0 + i) (by omega)
    have step : pb_run T_X12_inWords_301 (14, [some (.ref 64), some (.ref 301), some (.int (nI i)), some (.int (nI (kp301.getD i 0))), none, none, none], [], mrd b tk (nI s) (nI en) v) = if KL.getD (0 + i) [] = wls T s (en - s) then some (some (.int (nI i)), mrd b tk (nI s) (nI en) v) else pb_run T_X12_inWords_301 (14, [some (.ref 64), some (.ref 301), some (.int (nI (i + 1))), some (.int (nI (kp301.getD (i + 1) 0))), none, none, none], [], mrd b tk (nI s) (nI en) v) := by
      have eL : nI (kp301.getD i 0 + (KL.getD (0 + i) []).length) - nI (kp301.getD i 0) = nI (KL.getD (0 + i) []).length := by
        rw [nI_subN (by omega)]
        congr 1
        omega
      rw [r_X12_inWords_301_14, M_length301, pb_bI_some, if_pos (nI_lt (show kp301.getD i 0 < 41 by omega) (by omega)), sp301 (nI i) _ _ (KL.getD (0 + i) []).length (kp301.getD i 0) p4 (fun j hj => (p1 j hj).2), r_X12_inWords_301_25, M_charAt301 p4, pb_bI_some, if_pos p2, show (mrd b tk (nI s) (nI en) v).1 64 32 = nI en from rfl, show (mrd b tk (nI s) (nI en) v).1 64 31 = nI s from rfl, nI_subN hs, eL, ite_eqN (by omega) (by omega), p3]
      by_cases q : (KL.getD (0 + i) []).length = en - s
      · rw [if_pos q]
        exact cm301 hn h29 hT hb hs hen hl tk v (i := i) (p := kp301.getD i 0) (K := KL.getD (0 + i) []) (by omega) q p4 (fun j hj => (p1 j hj).1) k3 (KL.getD (0 + i) []).length 0 (by omega) (fun t ht => by omega)
      · rw [if_neg q, if_neg (fun z => q (by rw [z, wls_len])), r_X12_inWords_301_68, if_pos (show (0 : Int32) = 0 from rfl), if_pos (show (0 : Int32) = 0 from rfl), nI_1, nI_1]
        exact ite_self _
    rw [step]
    by_cases q : KL.getD (0 + i) [] = wls T s (en - s)
    · have e : kw (wls T s (en - s)) = 0 + i := by
        rcases kw_spec (wls T s (en - s)) with ⟨-, c⟩ | ⟨a, c⟩
        · exact absurd q (c (0 + i) (by omega))
        · exact KL_ne _ a _ (by omega) (c.trans q.symm)
      rw [if_pos q, if_pos (by omega), e, show 0 + i - 0 = i by omega]
    · rw [if_neg q]
      exact ih (i + 1) (by omega) (fun j hj => by
        by_cases z : j = i
        · rw [z]; exact q
        · exact h j (by omega))
def kp302 : List Nat := [1, 7, 12, 17, 22]
theorem kp302_ok : ∀ i, i < 4 → (∀ j, j < (KL.getD (9 + i) []).length → (pb_strs.getD 2 []).getD (kp302.getD i 0 + j) 0 = nI (96 + (KL.getD (9 + i) []).getD j 0) ∧ (pb_strs.getD 2 []).getD (kp302.getD i 0 + j) 0 ≠ 32) ∧ (pb_strs.getD 2 []).getD (kp302.getD i 0 + (KL.getD (9 + i) []).length) 0 = 32 ∧ kp302.getD (i + 1) 0 = kp302.getD i 0 + (KL.getD (9 + i) []).length + 1 ∧ kp302.getD i 0 + (KL.getD (9 + i) []).length < 22 ∧ 1 ≤ (KL.getD (9 + i) []).length := by decide +kernel
theorem ch302 : ∀ k, k < 22 → (((((pb_strs.getD 2 []).getD k 0 &&& (255 : Int32))).toUInt32 % 65536).toInt32) = (pb_strs.getD 2 []).getD k 0 ∧ ((((pb_strs.getD 2 []).getD k 0)).toUInt32 % 65536).toInt32 = (pb_strs.getD 2 []).getD k 0 := by decide +kernel
theorem M_charAt302 {k : Nat} (hk : k < 22) (w : pb_W) : M_J0_charAt_5068e_302 [.ref 302, .int (nI k)] w = some (some (.int ((pb_strs.getD 2 []).getD k 0)), w) := by
  obtain ⟨c1, c2⟩ := ch302 k hk
  have e1 : (nI k).toInt = (k : Int) := nI_toInt (by omega)
  have C : M_J0_checkIndex_df160 [.int (nI k), .int (Int32.ofNat 22)] w = some (none, w) := by
    show (if 0 ≤ (nI k).toInt ∧ (nI k).toInt < (Int32.ofNat 22).toInt then some (none, w) else none) = _
    rw [if_pos]
    rw [e1, show (Int32.ofNat 22).toInt = 22 by decide]
    omega
  rw [e_J0_charAt_5068e_302, e_J0_isLatin1_aae02_302, if_neg (show ¬ (1 : Int32) = 0 by decide), if_pos rfl, pb_bI_some, if_neg (show ¬ (1 : Int32) = 0 by decide), e_J1_charAt_3b067_312, C, pb_bV_some, if_pos (pn_in hk (by decide)), nI_clamp (show k < 2 ^ 31 by omega), c1, c2, if_pos rfl, pb_bI_some, c2, if_pos rfl]
theorem M_length302 (w : pb_W) : M_J0_length_8abf5_302 [.ref 302] w = some (some (.int (nI 22)), w) := by
  rw [e_J0_length_8abf5_302, e_J0_coder_7d493_302, if_neg (show ¬ (1 : Int32) = 0 by decide), if_pos (by decide), pb_bI_some]
  rfl
theorem sp302 (a2 a3 : Int32) (w : pb_W) : ∀ m k, k + m < 22 → (∀ j, j < m → (pb_strs.getD 2 []).getD (k + j) 0 ≠ 32) → pb_run T_X12_inWords_302 (25, [some (.ref 64), some (.ref 302), some (.int a2), some (.int a3), some (.int (nI k)), none, none], [], w) = pb_run T_X12_inWords_302 (25, [some (.ref 64), some (.ref 302), some (.int a2), some (.int a3), some (.int (nI (k + m))), none, none], [], w) := by
  intro m
  induction m with
  | zero => intro k _ _; rfl
  | succ m ih =>
    intro k hk h
    rw [r_X12_inWords_302_25, M_charAt302 (show k < 22 by omega), pb_bI_some, if_neg (show ¬ (pb_strs.getD 2 []).getD k 0 = 32 from h 0 (by omega)), nI_1, ih (k + 1) (by omega) (fun j hj => by rw [show k + 1 + j = k + (j + 1) by omega]; exact h (j + 1) (by omega)), show k + 1 + m = k + (m + 1) by omega]
theorem cm302 {b : pb_W} {T : Nat → Int32} {n : Nat} (hn : n ≤ 600) (h29 : b.1 64 29 = nI n) (hT : ∀ k, k < n → b.1 83 k = T k) (hb : ∀ k, bY (T k)) {s en : Nat} (hs : s ≤ en) (hen : en ≤ n) (hl : ∀ j, s ≤ j → j < en → isLe (T j)) (tk v : Int32) {i p : Nat} {K : List Nat} (hi : i < 20) (hK : K.length = en - s) (hp : p + K.length < 22) (hS : ∀ j, j < K.length → (pb_strs.getD 2 []).getD (p + j) 0 = nI (96 + K.getD j 0)) (hK2 : ∀ d, d ∈ K → 1 ≤ d ∧ d ≤ 26) : ∀ m j, j + m = K.length → (∀ t, t < j → lc (T (s + t)) = K.getD t 0) → pb_run T_X12_inWords_302 (68, [some (.ref 64), some (.ref 302), some (.int (nI i)), some (.int (nI p)), some (.int (nI (p + K.length))), some (.int (1 : Int32)), some (.int (nI (p + j)))], [], mrd b tk (nI s) (nI en) v) = if K = wls T s (en - s) then some (some (.int (nI i)), mrd b tk (nI s) (nI en) v) else pb_run T_X12_inWords_302 (14, [some (.ref 64), some (.ref 302), some (.int (nI (i + 1))), some (.int (nI (p + K.length + 1))), none, none, none], [], mrd b tk (nI s) (nI en) v) := by
  have wl := wls_len T s (en - s)
  have kin : ∀ t, t < K.length → K.getD t 0 ≤ 26 := fun t ht => by
    rw [List.getD_eq_getElem?_getD, List.getElem?_eq_getElem ht]
    exact (hK2 _ (List.getElem_mem ht)).2
  intro m
  induction m with
  | zero =>
    intro j hj h
    rw [r_X12_inWords_302_68, if_neg (nI_nlt (show p + K.length ≤ p + j by omega) (by omega)), if_neg (show ¬ (1 : Int32) = 0 by decide), if_pos]
    exact l_ext (by omega) (fun t ht => by rw [wls_get T s (en - s) t (by omega), h t (by omega)])
  | succ m ih =>
    intro j hj h
    have ea : atv T n (s + j) = nI (96 + lc (T (s + j))) := by
      unfold atv
      rw [if_pos (by omega)]
      exact le_bc (hb _) (hl (s + j) (by omega) (by omega))
    obtain ⟨lc1, lc2, -⟩ := lc_n (hl (s + j) (by omega) (by omega))
    have eix : nI s + nI (p + j) - nI p = nI (s + j) := by
      rw [nI_add, nI_subN (by omega)]
      congr 1
      omega
    rw [r_X12_inWords_302_68, if_pos (nI_lt (show p + j < p + K.length by omega) (by omega)), if_neg (show ¬ (1 : Int32) = 0 by decide), M_charAt302 (show p + j < 22 by omega), pb_bI_some, show (mrd b tk (nI s) (nI en) v).1 64 31 = nI s from rfl, eix, M_at hn h29 hT hb tk (nI s) (nI en) v (by omega), pb_bI_some, ea, hS j (by omega), nI_1]
    have kj := kin j (by omega)
    rw [ite_eqN (by omega) (by omega)]
    by_cases q : K.getD j 0 = lc (T (s + j))
    · rw [if_pos (by omega)]
      exact ih (j + 1) (by omega) (fun t ht => by
        by_cases z : t = j
        · rw [z]; exact q.symm
        · exact h t (by omega))
    · have ne : ¬ K = wls T s (en - s) := fun z => q (by rw [z, wls_get T s (en - s) j (by omega)])
      rw [if_neg (by omega), if_neg ne, r_X12_inWords_302_68, if_pos (show (0 : Int32) = 0 from rfl), nI_1, nI_1]
      exact ite_self _
theorem lp302 {b : pb_W} {T : Nat → Int32} {n : Nat} (hn : n ≤ 600) (h29 : b.1 64 29 = nI n) (hT : ∀ k, k < n → b.1 83 k = T k) (hb : ∀ k, bY (T k)) {s en : Nat} (hs : s ≤ en) (hen : en ≤ n) (hl : ∀ j, s ≤ j → j < en → isLe (T j)) (tk v : Int32) : ∀ f i, i + f = 4 → (∀ j, j < i → KL.getD (9 + j) [] ≠ wls T s (en - s)) → pb_run T_X12_inWords_302 (14, [some (.ref 64), some (.ref 302), some (.int (nI i)), some (.int (nI (kp302.getD i 0))), none, none, none], [], mrd b tk (nI s) (nI en) v) = some (some (.int (if 9 ≤ kw (wls T s (en - s)) ∧ kw (wls T s (en - s)) < 13 then nI (kw (wls T s (en - s)) - 9) else -1)), mrd b tk (nI s) (nI en) v) := by
  intro f
  induction f with
  | zero =>
    intro i hi h
    have e : i = 4 := by omega
    subst e
    rw [r_X12_inWords_302_14, M_length302, pb_bI_some, if_neg (show ¬ nI (kp302.getD 4 0) < nI 22 by decide), if_neg]
    rintro ⟨q1, q2⟩
    rcases kw_spec (wls T s (en - s)) with ⟨a, -⟩ | ⟨a, c⟩
    · omega
    · refine h (kw (wls T s (en - s)) - 9) (by omega) ?_
      rw [show 9 + (kw (wls T s (en - s)) - 9) = kw (wls T s (en - s)) by omega]
      exact c
  | succ f ih =>
    intro i hi h
    obtain ⟨p1, p2, p3, p4, p5⟩ := kp302_ok i (by omega)
    obtain ⟨-, -, k3, k4⟩ := KL_enc (9 + i) (by omega)
    have step : pb_run T_X12_inWords_302 (14, [some (.ref 64), some (.ref 302), some (.int (nI i)), some (.int (nI (kp302.getD i 0))), none, none, none], [], mrd b tk (nI s) (nI en) v) = if KL.getD (9 + i) [] = wls T s (en - s) then some (some (.int (nI i)), mrd b tk (nI s) (nI en) v) else pb_run T_X12_inWords_302 (14, [some (.ref 64), some (.ref 302), some (.int (nI (i + 1))), some (.int (nI (kp302.getD (i + 1) 0))), none, none, none], [], mrd b tk (nI s) (nI en) v) := by
      have eL : nI (kp302.getD i 0 + (KL.getD (9 + i) []).length) - nI (kp302.getD i 0) = nI (KL.getD (9 + i) []).length := by
        rw [nI_subN (by omega)]
        congr 1
        omega
      rw [r_X12_inWords_302_14, M_length302, pb_bI_some, if_pos (nI_lt (show kp302.getD i 0 < 22 by omega) (by omega)), sp302 (nI i) _ _ (KL.getD (9 + i) []).length (kp302.getD i 0) p4 (fun j hj => (p1 j hj).2), r_X12_inWords_302_25, M_charAt302 p4, pb_bI_some, if_pos p2, show (mrd b tk (nI s) (nI en) v).1 64 32 = nI en from rfl, show (mrd b tk (nI s) (nI en) v).1 64 31 = nI s from rfl, nI_subN hs, eL, ite_eqN (by omega) (by omega), p3]
      by_cases q : (KL.getD (9 + i) []).length = en - s
      · rw [if_pos q]
        exact cm302 hn h29 hT hb hs hen hl tk v (i := i) (p := kp302.getD i 0) (K := KL.getD (9 + i) []) (by omega) q p4 (fun j hj => (p1 j hj).1) k3 (KL.getD (9 + i) []).length 0 (by omega) (fun t ht => by omega)
      · rw [if_neg q, if_neg (fun z => q (by rw [z, wls_len])), r_X12_inWords_302_68, if_pos (show (0 : Int32) = 0 from rfl), if_pos (show (0 : Int32) = 0 from rfl), nI_1, nI_1]
        exact ite_self _
    rw [step]
    by_cases q : KL.getD (9 + i) [] = wls T s (en - s)
    · have e : kw (wls T s (en - s)) = 9 + i := by
        rcases kw_spec (wls T s (en - s)) with ⟨-, c⟩ | ⟨a, c⟩
        · exact absurd q (c (9 + i) (by omega))
        · exact KL_ne _ a _ (by omega) (c.trans q.symm)
      rw [if_pos q, if_pos (by omega), e, show 9 + i - 9 = i by omega]
    · rw [if_neg q]
      exact ih (i + 1) (by omega) (fun j hj => by
        by_cases z : j = i
        · rw [z]; exact q
        · exact h j (by omega))
/-- a token of words is one of letters -/
theorem tok_word {T : Nat → Int32} {n e : Nat} (he : e ≤ n) (h : tK T n e ≤ 13) : tS T n e < n ∧ tE T n e ≤ n ∧ tS T n e ≤ tE T n e ∧ (∀ j, tS T n e ≤ j → j < tE T n e → isLe (T j)) ∧ tK T n e = kw (wls T (tS T n e) (tE T n e - tS T n e)) ∧ tV T n e = enc (wls T (tS T n e) (tE T n e - tS T n e)) := by
  by_cases q : n ≤ tS T n e
  · exfalso
    unfold tK at h
    rw [ite_p q] at h
    omega
  · by_cases le : isLe (T (tS T n e))
    · have E : tE T n e = tL isLe T n e := by unfold tE; rw [ite_n q, ite_p le]
      have A := adv_le isLe T n (n - tS T n e) (tS T n e)
      have K : tK T n e = kw (wls T (tS T n e) (tL isLe T n e - tS T n e)) := by unfold tK; rw [ite_n q, ite_p le]
      have V : tV T n e = enc (wls T (tS T n e) (tL isLe T n e - tS T n e)) := by unfold tV; rw [ite_p le]
      rw [E]
      exact ⟨by omega, A.2.1 (by omega), A.1, fun j h1 h2 => (A.2.2 j h1 h2).2, K, V⟩
    · exfalso
      unfold tK at h
      rw [ite_n q, ite_n le] at h
      by_cases di : isDi (T (tS T n e))
      · rw [ite_p di] at h
        revert h
        split <;> intro h <;> omega
      · rw [ite_n di] at h
        by_cases sg : (T (tS T n e)).toNatClampNeg ∈ sgnl
        · rw [if_pos sg] at h
          have : ∀ c, c ∈ sgnl → 40 ≤ c := by decide
          have := this _ sg
          omega
        · rw [if_neg sg] at h
          omega
theorem ty_word {k : Nat} : tyK k = 2 ↔ k ≤ 13 := by
  unfold tyK
  by_cases a : k = 15
  · rw [if_pos a]; omega
  · rw [if_neg a]
    by_cases c : k = 16
    · rw [if_pos c]; omega
    · rw [if_neg c]
      by_cases d : k ≤ 13
      · rw [if_pos d]; omega
      · rw [if_neg d]
        by_cases f : k = 14
        · rw [if_pos f]; omega
        · rw [if_neg f]; omega
theorem ty_le (k : Nat) : tyK k ≤ 4 := by
  unfold tyK
  split
  · omega
  · split
    · omega
    · split
      · omega
      · split <;> omega
theorem M_inKeys {b : pb_W} {T : Nat → Int32} {n : Nat} (hn : n ≤ 600) (h29 : b.1 64 29 = nI n) (hT : ∀ k, k < n → b.1 83 k = T k) (hb : ∀ k, bY (T k)) {e : Nat} (he : e ≤ n) (v : Int32) : M_X12_inWords_301 [.ref 64, .ref 301] (mrd b (nI (tyK (tK T n e))) (nI (tS T n e)) (nI (tE T n e)) v) = some (some (.int (if tK T n e < 9 then nI (tK T n e) else -1)), mrd b (nI (tyK (tK T n e))) (nI (tS T n e)) (nI (tE T n e)) v) := by
  have t4 := ty_le (tK T n e)
  rw [e_X12_inWords_301, show (mrd b (nI (tyK (tK T n e))) (nI (tS T n e)) (nI (tE T n e)) v).1 64 30 = nI (tyK (tK T n e)) from rfl]
  by_cases q : tK T n e ≤ 13
  · obtain ⟨w1, w2, w3, w4, w5, -⟩ := tok_word he q
    rw [if_pos (show nI (tyK (tK T n e)) = (2 : Int32) by rw [ty_word.mpr q]; rfl)]
    have := lp301 hn h29 hT hb w3 w2 w4 (nI (tyK (tK T n e))) v 9 0 (by omega) (fun j hj => by omega)
    rw [← w5] at this
    refine Eq.trans this ?_
    simp only [Nat.zero_le, true_and, Nat.sub_zero, Nat.zero_add]
  · rw [if_neg (show ¬ nI (tyK (tK T n e)) = (2 : Int32) from fun z => q (ty_word.mp ((nI_eq (b := 2) (by omega) (by decide)).mp z))), if_neg (by omega)]
theorem M_inVars {b : pb_W} {T : Nat → Int32} {n : Nat} (hn : n ≤ 600) (h29 : b.1 64 29 = nI n) (hT : ∀ k, k < n → b.1 83 k = T k) (hb : ∀ k, bY (T k)) {e : Nat} (he : e ≤ n) (v : Int32) : M_X12_inWords_302 [.ref 64, .ref 302] (mrd b (nI (tyK (tK T n e))) (nI (tS T n e)) (nI (tE T n e)) v) = some (some (.int (if 9 ≤ tK T n e ∧ tK T n e < 13 then nI (tK T n e - 9) else -1)), mrd b (nI (tyK (tK T n e))) (nI (tS T n e)) (nI (tE T n e)) v) := by
  have t4 := ty_le (tK T n e)
  rw [e_X12_inWords_302, show (mrd b (nI (tyK (tK T n e))) (nI (tS T n e)) (nI (tE T n e)) v).1 64 30 = nI (tyK (tK T n e)) from rfl]
  by_cases q : tK T n e ≤ 13
  · obtain ⟨w1, w2, w3, w4, w5, -⟩ := tok_word he q
    rw [if_pos (show nI (tyK (tK T n e)) = (2 : Int32) by rw [ty_word.mpr q]; rfl)]
    have := lp302 hn h29 hT hb w3 w2 w4 (nI (tyK (tK T n e))) v 4 0 (by omega) (fun j hj => by omega)
    rw [← w5] at this
    exact this
  · rw [if_neg (show ¬ nI (tyK (tK T n e)) = (2 : Int32) from fun z => q (ty_word.mp ((nI_eq (b := 2) (by omega) (by decide)).mp z))), if_neg (by omega)]
