/-! bytes -/
def bc (x : Int32) : Nat := if x.toInt < 0 then (x.toInt + 256).toNat else x.toInt.toNat
theorem bc_all : ∀ i : Nat, i < 256 → (iI ((i : Int) - 128)) &&& 255 = nI (bc (iI ((i : Int) - 128))) ∧ bc (iI ((i : Int) - 128)) < 256 ∧ (bc (iI ((i : Int) - 128)) ∈ sgnl ↔ (iI ((i : Int) - 128)).toNatClampNeg ∈ sgnl) ∧ ((iI ((i : Int) - 128)).toNatClampNeg ∈ sgnl → iI ((i : Int) - 128) = nI ((iI ((i : Int) - 128)).toNatClampNeg)) := by decide +kernel
theorem bY_i {x : Int32} (h : bY x) : ∃ i : Nat, i < 256 ∧ x = iI ((i : Int) - 128) := ⟨(x.toInt + 128).toNat, by have := h.1; have := h.2; omega, by
  have h1 := h.1
  have h2 := h.2
  rw [show (((x.toInt + 128).toNat : Nat) : Int) - 128 = x.toInt by omega]
  exact iI_of x⟩
theorem bc_and {x : Int32} (h : bY x) : x &&& 255 = nI (bc x) ∧ bc x < 256 ∧ (bc x ∈ sgnl ↔ x.toNatClampNeg ∈ sgnl) ∧ (x.toNatClampNeg ∈ sgnl → x = nI x.toNatClampNeg) := by
  obtain ⟨i, hi, e⟩ := bY_i h
  rw [e]
  exact bc_all i hi
theorem ch_all : ∀ c, c < 256 → ((nI c).toUInt32 % 65536).toInt32 = nI c ∧ ((∃ j, j < 10 ∧ (pb_strs.getD 0 []).getD j 0 = (nI c).toInt8.toInt32) ↔ c ∈ sgnl) := by decide +kernel
theorem jx_char (a4 : Int32) (w : pb_W) : ∀ f i, i + f = 10 → (pb_run T_J1_indexOfChar_4cfef_310 (7, [some (.ref 310), none, none, some (.int (10 : Int32)), some (.int a4), some (.int (nI i))], [], w) = some (some (.int (-1)), w) ∧ ∀ j, i ≤ j → j < 10 → (pb_strs.getD 0 []).getD j 0 ≠ a4) ∨ ∃ j, j < 10 ∧ pb_run T_J1_indexOfChar_4cfef_310 (7, [some (.ref 310), none, none, some (.int (10 : Int32)), some (.int a4), some (.int (nI i))], [], w) = some (some (.int (nI j)), w) ∧ (pb_strs.getD 0 []).getD j 0 = a4 := by
  intro f
  induction f with
  | zero =>
    intro i hi
    rw [r_J1_indexOfChar_4cfef_310_7, if_neg (show ¬ nI i < (10 : Int32) from nI_nlt (b := 10) (by omega) (by omega))]
    exact Or.inl ⟨rfl, fun j a b => by omega⟩
  | succ f ih =>
    intro i hi
    rw [r_J1_indexOfChar_4cfef_310_7, if_pos (show nI i < (10 : Int32) from nI_lt (b := 10) (by omega) (by omega)), if_pos (pn_in (show i < 10 by omega) (by decide)), nI_clamp (show i < 2 ^ 31 by omega), nI_1]
    by_cases q : (pb_strs.getD 0 []).getD i 0 = a4
    · rw [if_pos q]
      exact Or.inr ⟨i, by omega, rfl, q⟩
    · rw [if_neg q]
      rcases ih (i + 1) (by omega) with ⟨a, b⟩ | ⟨j, a, b, c⟩
      · refine Or.inl ⟨a, fun j h1 h2 => ?_⟩
        by_cases e : j = i
        · rw [e]; exact q
        · exact b j (by omega) h2
      · exact Or.inr ⟨j, a, b, c⟩
theorem M_signIn {c : Nat} (hc : c < 256) (w : pb_W) : ∃ x, M_J0_indexOf_0f7a4_300 [.ref 300, .int (nI c)] w = some (some (.int x), w) ∧ (x < 0 ↔ c ∉ sgnl) := by
  have hL : M_J0_length_8abf5_300 [.ref 300] w = some (some (.int 10), w) := by
    rw [e_J0_length_8abf5_300, e_J0_coder_7d493_300, if_neg (show ¬ (1 : Int32) = 0 by decide), if_pos (by decide), pb_bI_some]
    rfl
  obtain ⟨-, c2⟩ := ch_all c hc
  rw [e_J0_indexOf_0f7a4_300, e_J0_indexOf_7cf53_300, e_J0_isLatin1_aae02_300, if_neg (show ¬ (1 : Int32) = 0 by decide), if_pos rfl, pb_bI_some, if_neg (show ¬ (1 : Int32) = 0 by decide), hL, pb_bI_some, e_J1_indexOf_4cfef_310, e_J1_canEncode_9a6ad, if_neg (nI_pos (show c < 2 ^ 31 by omega)), if_neg (show ¬ (255 : Int32) < nI c from nI_nlt (a := 255) (by omega) (by decide)), pb_bI_some, if_neg (show ¬ (1 : Int32) = 0 by decide), show pb_max (0 : Int32) (0 : Int32) = 0 from rfl, show pb_min (10 : Int32) (Int32.ofNat 10) = 10 from rfl, if_pos (show (0 : Int32) < 10 by decide), e_J1_indexOfChar_4cfef_310]
  rcases jx_char ((nI c).toInt8.toInt32) w 10 0 (by omega) with ⟨a, b⟩ | ⟨j, a, b, d⟩
  · refine ⟨-1, ?_, fun _ q => ?_, fun _ => by decide⟩
    · rw [show pb_run T_J1_indexOfChar_4cfef_310 (7, [some (.ref 310), none, none, some (.int (10 : Int32)), some (.int ((nI c).toInt8.toInt32)), some (.int (0 : Int32))], [], w) = _ from a, pb_bI_some, pb_bI_some, pb_bI_some]
    · obtain ⟨j, h1, h2⟩ := c2.mpr q
      exact b j (by omega) h1 h2
  · refine ⟨nI j, ?_, fun q => absurd q (nI_pos (by omega)), fun q => absurd (c2.mp ⟨j, a, d⟩) q⟩
    rw [show pb_run T_J1_indexOfChar_4cfef_310 (7, [some (.ref 310), none, none, some (.int (10 : Int32)), some (.int ((nI c).toInt8.toInt32)), some (.int (0 : Int32))], [], w) = _ from b, pb_bI_some, pb_bI_some, pb_bI_some]
theorem wb_mul (a b : Nat) : lN a * lN b = lN (a * b) := by
  apply wb_inj
  rw [Int64.toBitVec_mul, wb_tb, wb_tb, wb_tb, ← BitVec.ofNat_mul]
theorem dval_lt {T : Nat → Int32} {s : Nat} : ∀ m, (∀ j, s ≤ j → j < s + m → isDi (T j)) → dval T s m < 10 ^ m
  | 0, _ => by show 0 < 1; decide
  | m + 1, h => by
    have := dval_lt m (fun j a b => h j a (by omega))
    obtain ⟨c, c1, c2, e⟩ := isDi_n (h (s + m) (by omega) (by omega))
    rw [dval, e, nI_clamp (by omega), Nat.pow_succ]
    omega
theorem cx_num {b : pb_W} {T : Nat → Int32} {n : Nat} (hn : n ≤ 600) (h2 : b.1 21 2 = nI n) (hT : b.1 22 = T) (tk : Int32) (s : Nat) : ∀ f m (v : Int64), n ≤ s + m + f → s + m ≤ n → (∀ j, s ≤ j → j < s + m → isDi (T j)) → (m ≤ 5 → v = lN (dval T s m)) → ∃ v', pb_run T_X5_nextNumber (5, [some (.ref 21)], [], rdr b tk (nI s) (nI (s + m)) v) = some (none, rdr b (nI (if 5 < adv isDi T n f (s + m) - s then 16 else 14)) (nI s) (nI (adv isDi T n f (s + m))) v') ∧ (adv isDi T n f (s + m) - s ≤ 5 → v' = lN (dval T s (adv isDi T n f (s + m) - s))) := by
  have fin : ∀ m (v : Int64), s + m ≤ n → pb_run T_X5_nextNumber (71, [some (.ref 21)], [], rdr b tk (nI s) (nI (s + m)) v) = some (none, rdr b (nI (if 5 < m then 16 else 14)) (nI s) (nI (s + m)) v) := by
    intro m v h
    rw [r_X5_nextNumber_71, show (rdr b tk (nI s) (nI (s + m)) v).1 21 5 = nI (s + m) from rfl, show (rdr b tk (nI s) (nI (s + m)) v).1 21 4 = nI s from rfl, nI_subN (show s ≤ s + m by omega), show s + m - s = m by omega, rdr_3, rdr_3]
    by_cases q : 5 < m
    · rw [if_pos q, if_pos (show (5 : Int32) < nI m from nI_lt (a := 5) q (by omega))]
      rfl
    · rw [if_neg q, if_neg (show ¬ (5 : Int32) < nI m from nI_nlt (a := 5) (by omega) (by decide))]
      rfl
  intro f
  induction f with
  | zero =>
    intro m v h1 h3 hl hv
    refine ⟨v, ?_, ?_⟩
    · rw [r_X5_nextNumber_5, show (rdr b tk (nI s) (nI (s + m)) v).1 21 5 = nI (s + m) from rfl, show (rdr b tk (nI s) (nI (s + m)) v).1 21 2 = nI n from h2, if_neg (nI_nlt (by omega) (by omega)), fin m v h3, adv, show s + m - s = m by omega]
    · rw [adv, show s + m - s = m by omega]
      exact hv
  | succ f ih =>
    intro m v h1 h3 hl hv
    rw [r_X5_nextNumber_5, show (rdr b tk (nI s) (nI (s + m)) v).1 21 5 = nI (s + m) from rfl, show (rdr b tk (nI s) (nI (s + m)) v).1 21 2 = nI n from h2]
    by_cases q : s + m < n ∧ isDi (T (s + m))
    · obtain ⟨c, c1, c2, ec⟩ := isDi_n q.2
      obtain ⟨v', y1, y2⟩ := ih (m + 1) ((v * (10 : Int64) + (T (s + m)).toInt64) - (48 : Int64)) (by omega) (by omega) (fun j a c => by
        by_cases e : j = s + m
        · rw [e]; exact q.2
        · exact hl j a (by omega)) (fun m5 => by
        rw [hv (by omega), ec, nI_to64 (by omega), show (10 : Int64) = lN 10 from rfl, show (48 : Int64) = lN 48 from rfl, wb_mul, wb_add, wb_sub (by omega), dval, ec, nI_clamp (by omega)]
        congr 1
        omega)
      refine ⟨v', ?_, ?_⟩
      · rw [if_pos (nI_lt q.1 (by omega)), if_pos (pn_in (show s + m < 600 by omega) (by decide)), nI_clamp (show s + m < 2 ^ 31 by omega), show (rdr b tk (nI s) (nI (s + m)) v).1 22 (s + m) = T (s + m) from congrFun hT (s + m), M_isDigit, pb_bI_some, b1_pos q.2, if_neg (show ¬ (1 : Int32) = 0 by decide), show (rdr b tk (nI s) (nI (s + m)) v).1 21 5 = nI (s + m) from rfl, if_pos (pn_in (show s + m < 600 by omega) (by decide)), nI_clamp (show s + m < 2 ^ 31 by omega), show (rdr b tk (nI s) (nI (s + m)) v).1 22 (s + m) = T (s + m) from congrFun hT (s + m), show (rdr b tk (nI s) (nI (s + m)) v).2 21 6 = v from rfl, rdr_6, rdr_5, nI_1, adv_go q]
        exact y1
      · rw [adv_go q]
        exact y2
    · refine ⟨v, ?_, ?_⟩
      · rw [adv_no q, show s + m - s = m by omega]
        by_cases z : s + m < n
        · rw [if_pos (nI_lt z (by omega)), if_pos (pn_in (show s + m < 600 by omega) (by decide)), nI_clamp (show s + m < 2 ^ 31 by omega), show (rdr b tk (nI s) (nI (s + m)) v).1 22 (s + m) = T (s + m) from congrFun hT (s + m), M_isDigit, pb_bI_some, b1_neg (fun y => q ⟨z, y⟩), if_pos rfl, fin m v h3]
        · rw [if_neg (nI_nlt (by omega) (by omega)), fin m v h3]
      · rw [adv_no q, show s + m - s = m by omega]
        exact hv
theorem ite_p {α : Type} {P : Prop} (h : P) (x y : α) : @ite α P (Classical.propDecidable P) x y = x := if_pos h
theorem ite_n {α : Type} {P : Prop} (h : ¬ P) (x y : α) : @ite α P (Classical.propDecidable P) x y = y := if_neg h
theorem LeDi {x : Int32} (h : isLe x) : ¬ isDi x := by
  obtain ⟨c, c1, c2, e⟩ := isLe_n h
  intro q
  obtain ⟨d, d1, d2, e2⟩ := isDi_n q
  rw [e] at e2
  have := (nI_eq (by omega) (by omega)).mp e2
  omega
theorem kw_le (l : List Nat) : kw l ≤ 13 := by
  rcases kw_spec l with ⟨a, -⟩ | ⟨a, -⟩ <;> omega
/-- the class reads a token -/
theorem cx_next {b : pb_W} {T : Nat → Int32} {n : Nat} (hn : n ≤ 600) (h2 : b.1 21 2 = nI n) (hT : b.1 22 = T) (hb : ∀ k, bY (T k)) (tk st : Int32) (v : Int64) {e : Nat} (he : e ≤ n) : ∃ v', M_X5_nextToken [.ref 21] (rdr b tk st (nI e) v) = some (none, rdr b (nI (tK T n e)) (nI (tS T n e)) (nI (tE T n e)) v') ∧ (tK T n e ≤ 13 → tE T n e - tS T n e ≤ 8 → v' = lN (tV T n e)) ∧ (tK T n e = 14 → v' = lN (tV T n e)) := by
  have S := adv_le isWs T n (n - e) e
  have s1 : e ≤ tS T n e := S.1
  have s2 : tS T n e ≤ n := S.2.1 he
  have E : M_X5_nextToken [.ref 21] (rdr b tk st (nI e) v) = pb_run T_X5_nextToken (60, [some (.ref 21)], [], rdr b tk (nI (tS T n e)) (nI e) v) := by
    rw [e_X5_nextToken, show (rdr b tk st (nI e) v).1 21 5 = nI e from rfl, rdr_4]
    exact cx_skip hn h2 hT tk (nI e) v (n - e) e (by omega) he
  rw [E]
  unfold tK tE tV
  generalize hs : tS T n e = s at *
  rw [r_X5_nextToken_60, show (rdr b tk (nI s) (nI e) v).1 21 4 = nI s from rfl, show (rdr b tk (nI s) (nI e) v).1 21 2 = nI n from h2, rdr_5]
  by_cases q : n ≤ s
  · rw [ite_p q, ite_p q, if_neg (nI_nlt q (by omega)), rdr_3]
    exact ⟨v, rfl, fun z => by omega, fun z => by omega⟩
  · rw [ite_n q, ite_n q, if_pos (nI_lt (by omega) (by omega)), if_pos (pn_in (show s < 600 by omega) (by decide)), nI_clamp (show s < 2 ^ 31 by omega), show (rdr b tk (nI s) (nI e) v).1 22 s = T s from congrFun hT s, M_isLetter, pb_bI_some]
    have L1 : tL isLe T n e = adv isLe T n (n - s) s := by unfold tL; rw [hs]
    have D1 : tL isDi T n e = adv isDi T n (n - s) s := by unfold tL; rw [hs]
    by_cases le : isLe (T s)
    · rw [b1_pos le, if_neg (show ¬ (1 : Int32) = 0 by decide), ite_p le, ite_p le, ite_p le, L1, e_X5_nextWord, rdr_6]
      have A := adv_le isLe T n (n - s) s
      obtain ⟨v', y1, y2⟩ := cx_wrd hn h2 hT tk s (n - s) 0 (0 : Int64) (by omega) (by omega) (fun j a c => by omega) (fun _ => rfl)
      rw [Nat.add_zero] at y1 y2
      have a1 := A.1
      have a2 := A.2.1 (by omega)
      have en : s + (adv isLe T n (n - s) s - s) = adv isLe T n (n - s) s := by omega
      have all : ∀ j, s ≤ j → j < s + (adv isLe T n (n - s) s - s) → isLe (T j) := fun j h1 h3 => (A.2.2 j h1 (by omega)).2
      have K := cx_keys (b := b) (s := s) (m := adv isLe T n (n - s) s - s) (by omega) (by omega) (wls_len T s _) (wls_in _ all) (fun m8 => by
        have := enc_lt _ all
        have p8 : 32 ^ (adv isLe T n (n - s) s - s) ≤ 32 ^ 8 := Nat.pow_le_pow_right (by decide) m8
        have : (32 : Nat) ^ 8 = 2 ^ 40 := by decide
        omega) (v := v') y2 13 0 13 (by omega)
      rw [en] at K
      refine ⟨v', ?_, fun _ m8 => y2 m8, fun z => ?_⟩
      · rw [show pb_run T_X5_nextWord (5, [some (.ref 21), none], [], rdr b tk (nI s) (nI s) (0 : Int64)) = _ from y1, show pb_run T_X5_nextWord (78, [some (.ref 21), some (.int (0 : Int32))], [], rdr b 13 (nI s) (nI (adv isLe T n (n - s) s)) v') = _ from K, pb_bV_some]
        congr 3
        unfold kw
        rcases kwi_spec (wls T s (adv isLe T n (n - s) s - s)) 13 0 (by omega) with ⟨c, -⟩ | ⟨-, c, -⟩
        · rw [if_neg (by omega), c]
          rfl
        · rw [if_pos c]
      · have := kw_le (wls T s (adv isLe T n (n - s) s - s))
        omega
    · rw [b1_neg le, if_pos rfl, ite_n le, ite_n le, ite_n le, show (rdr b tk (nI s) (nI s) v).1 21 4 = nI s from rfl, if_pos (pn_in (show s < 600 by omega) (by decide)), nI_clamp (show s < 2 ^ 31 by omega), show (rdr b tk (nI s) (nI s) v).1 22 s = T s from congrFun hT s, M_isDigit, pb_bI_some]
      by_cases di : isDi (T s)
      · rw [b1_pos di, if_neg (show ¬ (1 : Int32) = 0 by decide), ite_p di, ite_p di, D1, e_X5_nextNumber, rdr_6]
        obtain ⟨v', y1, y2⟩ := cx_num hn h2 hT tk s (n - s) 0 (0 : Int64) (by omega) (by omega) (fun j a c => by omega) (fun _ => rfl)
        rw [Nat.add_zero] at y1 y2
        refine ⟨v', ?_, fun z => ?_, fun z => y2 ?_⟩
        · rw [y1, pb_bV_some]
        · exfalso
          revert z
          split <;> intro z <;> omega
        · revert z
          split <;> intro z <;> omega
      · obtain ⟨c1, c2, c3, c4⟩ := bc_and (hb s)
        obtain ⟨x, x1, x2⟩ := M_signIn c2 (rdr b tk (nI s) (nI s) v)
        rw [b1_neg di, if_pos rfl, ite_n di, ite_n di, show (rdr b tk (nI s) (nI s) v).1 21 4 = nI s from rfl, if_pos (pn_in (show s < 600 by omega) (by decide)), nI_clamp (show s < 2 ^ 31 by omega), show (rdr b tk (nI s) (nI s) v).1 22 s = T s from congrFun hT s, c1, (ch_all _ c2).1, x1, pb_bI_some, show (rdr b tk (nI s) (nI s) v).1 21 4 = nI s from rfl, if_pos (pn_in (show s < 600 by omega) (by decide)), nI_clamp (show s < 2 ^ 31 by omega), show (rdr b tk (nI s) (nI s) v).1 22 s = T s from congrFun hT s, rdr_3, rdr_3, show (rdr b tk (nI s) (nI s) v).1 21 5 = nI s from rfl, rdr_5, rdr_5, nI_1]
        by_cases sg : (T s).toNatClampNeg ∈ sgnl
        · have s40 : 40 ≤ (T s).toNatClampNeg := by
            have : ∀ c, c ∈ sgnl → 40 ≤ c := by decide
            exact this _ sg
          rw [if_pos sg, if_neg (fun z => (x2.mp z) (c3.mpr sg)), ← c4 sg]
          exact ⟨v, rfl, fun z => by omega, fun z => by omega⟩
        · rw [if_neg sg, if_pos (x2.mpr (fun z => sg (c3.mp z)))]
          exact ⟨v, rfl, fun z => by omega, fun z => by omega⟩
