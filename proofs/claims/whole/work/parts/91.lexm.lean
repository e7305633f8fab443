/-! ===== TEXT: the reference's next ===== -/
def mrd (b : pb_W) (tk fr en v : Int32) : pb_W := pb_wI (pb_wI (pb_wI (pb_wI b 64 30 tk) 64 31 fr) 64 32 en) 64 33 v
theorem mrd_30 (b : pb_W) (tk fr en v x : Int32) : pb_wI (mrd b tk fr en v) 64 30 x = mrd b x fr en v := by
  refine Prod.ext (funext fun d => funext fun k => ?_) rfl
  by_cases d1 : d = 64
  · subst d1
    show (if k = 30 then x else if k = 33 then v else if k = 32 then en else if k = 31 then fr else if k = 30 then tk else b.1 64 k) = if k = 33 then v else if k = 32 then en else if k = 31 then fr else if k = 30 then x else b.1 64 k
    by_cases q : k = 30
    · subst q; rfl
    · simp only [if_neg q]
  · simp [mrd, pw_I1, d1]
theorem mrd_31 (b : pb_W) (tk fr en v x : Int32) : pb_wI (mrd b tk fr en v) 64 31 x = mrd b tk x en v := by
  refine Prod.ext (funext fun d => funext fun k => ?_) rfl
  by_cases d1 : d = 64
  · subst d1
    show (if k = 31 then x else if k = 33 then v else if k = 32 then en else if k = 31 then fr else if k = 30 then tk else b.1 64 k) = if k = 33 then v else if k = 32 then en else if k = 31 then x else if k = 30 then tk else b.1 64 k
    by_cases q : k = 31
    · subst q; rfl
    · simp only [if_neg q]
  · simp [mrd, pw_I1, d1]
theorem mrd_32 (b : pb_W) (tk fr en v x : Int32) : pb_wI (mrd b tk fr en v) 64 32 x = mrd b tk fr x v := by
  refine Prod.ext (funext fun d => funext fun k => ?_) rfl
  by_cases d1 : d = 64
  · subst d1
    show (if k = 32 then x else if k = 33 then v else if k = 32 then en else if k = 31 then fr else if k = 30 then tk else b.1 64 k) = if k = 33 then v else if k = 32 then x else if k = 31 then fr else if k = 30 then tk else b.1 64 k
    by_cases q : k = 32
    · subst q; rfl
    · simp only [if_neg q]
  · simp [mrd, pw_I1, d1]
theorem mrd_33 (b : pb_W) (tk fr en v x : Int32) : pb_wI (mrd b tk fr en v) 64 33 x = mrd b tk fr en x := by
  refine Prod.ext (funext fun d => funext fun k => ?_) rfl
  by_cases d1 : d = 64
  · subst d1
    show (if k = 33 then x else if k = 33 then v else if k = 32 then en else if k = 31 then fr else if k = 30 then tk else b.1 64 k) = if k = 33 then x else if k = 32 then en else if k = 31 then fr else if k = 30 then tk else b.1 64 k
    by_cases q : k = 33
    · simp only [if_pos q]
    · simp only [if_neg q]
  · simp [mrd, pw_I1, d1]
theorem bc_cls : ∀ i : Nat, i < 256 → ((¬ nI (bc (iI ((i : Int) - 128))) < 97 ∧ ¬ 122 < nI (bc (iI ((i : Int) - 128)))) ↔ (¬ iI ((i : Int) - 128) < 97 ∧ ¬ 122 < iI ((i : Int) - 128))) ∧ ((¬ nI (bc (iI ((i : Int) - 128))) < 48 ∧ ¬ 57 < nI (bc (iI ((i : Int) - 128)))) ↔ (¬ iI ((i : Int) - 128) < 48 ∧ ¬ 57 < iI ((i : Int) - 128))) ∧ (nI (bc (iI ((i : Int) - 128))) = 32 ↔ iI ((i : Int) - 128) = 32) ∧ (nI (bc (iI ((i : Int) - 128))) = 10 ↔ iI ((i : Int) - 128) = 10) ∧ ((iI ((i : Int) - 128)).toNatClampNeg ∈ sgnl → bc (iI ((i : Int) - 128)) = (iI ((i : Int) - 128)).toNatClampNeg) ∧ (¬ iI ((i : Int) - 128) < 48 → bc (iI ((i : Int) - 128)) = (iI ((i : Int) - 128)).toNatClampNeg) := by decide +kernel
theorem bc_is {x : Int32} (h : bY x) : (isLe (nI (bc x)) ↔ isLe x) ∧ (isDi (nI (bc x)) ↔ isDi x) ∧ (nI (bc x) = 32 ↔ x = 32) ∧ (nI (bc x) = 10 ↔ x = 10) ∧ (x.toNatClampNeg ∈ sgnl → bc x = x.toNatClampNeg) ∧ (¬ x < 48 → bc x = x.toNatClampNeg) := by
  obtain ⟨i, hi, e⟩ := bY_i h
  rw [e]
  exact bc_cls i hi
/-- at() -/
def atv (T : Nat → Int32) (n k : Nat) : Int32 := if k < n then nI (bc (T k)) else -1
theorem M_at {b : pb_W} {T : Nat → Int32} {n : Nat} (hn : n ≤ 600) (h29 : b.1 64 29 = nI n) (hT : ∀ k, k < n → b.1 83 k = T k) (hb : ∀ k, bY (T k)) (tk fr en v : Int32) {k : Nat} (hk : k < 2 ^ 31) : M_X12_at [.ref 64, .int (nI k)] (mrd b tk fr en v) = some (some (.int (atv T n k)), mrd b tk fr en v) := by
  rw [e_X12_at, show (mrd b tk fr en v).1 64 29 = nI n from h29]
  unfold atv
  by_cases q : k < n
  · rw [if_pos q, if_pos (nI_lt q (by omega)), if_pos (pn_in (show k < 600 by omega) (by decide)), nI_clamp hk, show (mrd b tk fr en v).1 83 k = T k from hT k q, (bc_and (hb k)).1]
  · rw [if_neg q, if_neg (nI_nlt (by omega) hk)]
theorem M_isSmall (a : Int32) (w : pb_W) : M_X12_isSmall [.int a] w = some (some (.int (b1 (isLe a))), w) := by
  rw [e_X12_isSmall, ← e_X5_isLetter]
  exact M_isLetter a w
theorem M_isDigit2 (a : Int32) (w : pb_W) : M_X12_isDigit [.int a] w = some (some (.int (b1 (isDi a))), w) := by
  rw [e_X12_isDigit, ← e_X5_isDigit]
  exact M_isDigit a w
theorem atv_is {T : Nat → Int32} (hb : ∀ k, bY (T k)) (n k : Nat) : (isLe (atv T n k) ↔ k < n ∧ isLe (T k)) ∧ (isDi (atv T n k) ↔ k < n ∧ isDi (T k)) ∧ (atv T n k = 32 ↔ k < n ∧ T k = 32) ∧ (atv T n k = 10 ↔ k < n ∧ T k = 10) ∧ (atv T n k = -1 ↔ ¬ k < n) := by
  obtain ⟨h1, h2, h3, h4, -⟩ := bc_is (hb k)
  obtain ⟨-, c2, -⟩ := bc_and (hb k)
  by_cases q : k < n
  · have e : atv T n k = nI (bc (T k)) := if_pos q
    rw [e, h1, h2, h3, h4]
    refine ⟨⟨fun z => ⟨q, z⟩, fun z => z.2⟩, ⟨fun z => ⟨q, z⟩, fun z => z.2⟩, ⟨fun z => ⟨q, z⟩, fun z => z.2⟩, ⟨fun z => ⟨q, z⟩, fun z => z.2⟩, fun z => absurd z (pn_m1 _ (by omega)), fun z => absurd q z⟩
  · have e : atv T n k = -1 := if_neg q
    rw [e]
    refine ⟨⟨fun z => absurd (show (-1 : Int32) < 97 by decide) z.1, fun z => absurd z.1 q⟩, ⟨fun z => absurd (show (-1 : Int32) < 48 by decide) z.1, fun z => absurd z.1 q⟩, ⟨fun z => absurd z (by decide), fun z => absurd z.1 q⟩, ⟨fun z => absurd z (by decide), fun z => absurd z.1 q⟩, fun _ => q, fun _ => rfl⟩
theorem mx_skip {b : pb_W} {T : Nat → Int32} {n : Nat} (hn : n ≤ 600) (h29 : b.1 64 29 = nI n) (hT : ∀ k, k < n → b.1 83 k = T k) (hb : ∀ k, bY (T k)) (tk fr v : Int32) : ∀ f e, n ≤ e + f → e ≤ n → pb_run T_X12_next (0, [some (.ref 64), none, none], [], mrd b tk fr (nI e) v) = pb_run T_X12_next (0, [some (.ref 64), none, none], [], mrd b tk fr (nI (adv isWs T n f e)) v) := by
  intro f
  induction f with
  | zero => intro e _ _; rfl
  | succ f ih =>
    intro e h1 h2
    by_cases q : e < n ∧ isWs (T e)
    · obtain ⟨-, -, a3, a4, -⟩ := atv_is hb n e
      rw [adv_go q, ← ih (e + 1) (by omega) (by omega)]
      rw [r_X12_next_0, show (mrd b tk fr (nI e) v).1 64 32 = nI e from rfl, M_at hn h29 hT hb tk fr (nI e) v (by omega), pb_bI_some]
      by_cases z : T e = 32
      · rw [if_pos (a3.mpr ⟨q.1, z⟩), show (mrd b tk fr (nI e) v).1 64 32 = nI e from rfl, nI_1, mrd_32]
      · rw [if_neg (fun y => z (a3.mp y).2), show (mrd b tk fr (nI e) v).1 64 32 = nI e from rfl, M_at hn h29 hT hb tk fr (nI e) v (by omega), pb_bI_some, if_pos (a4.mpr ⟨q.1, q.2.resolve_right z⟩), show (mrd b tk fr (nI e) v).1 64 32 = nI e from rfl, nI_1, mrd_32]
    · rw [adv_no q]
theorem mx_wrd {b : pb_W} {T : Nat → Int32} {n : Nat} (hn : n ≤ 600) (h29 : b.1 64 29 = nI n) (hT : ∀ k, k < n → b.1 83 k = T k) (hb : ∀ k, bY (T k)) (tk fr v : Int32) : ∀ f e, n ≤ e + f → e ≤ n → pb_run T_X12_next (81, [some (.ref 64), none, none], [], mrd b tk fr (nI e) v) = some (none, mrd b 2 fr (nI (adv isLe T n f e)) v) := by
  intro f
  induction f with
  | zero =>
    intro e h1 h2
    obtain ⟨a1, -⟩ := atv_is hb n e
    rw [r_X12_next_81, show (mrd b tk fr (nI e) v).1 64 32 = nI e from rfl, M_at hn h29 hT hb tk fr (nI e) v (by omega), pb_bI_some, M_isSmall, pb_bI_some, b1_neg (fun z => by have := (a1.mp z).1; omega), if_pos rfl, mrd_30]
    rfl
  | succ f ih =>
    intro e h1 h2
    obtain ⟨a1, -⟩ := atv_is hb n e
    rw [r_X12_next_81, show (mrd b tk fr (nI e) v).1 64 32 = nI e from rfl, M_at hn h29 hT hb tk fr (nI e) v (by omega), pb_bI_some, M_isSmall, pb_bI_some]
    by_cases q : e < n ∧ isLe (T e)
    · rw [b1_pos (a1.mpr q), if_neg (show ¬ (1 : Int32) = 0 by decide), show (mrd b tk fr (nI e) v).1 64 32 = nI e from rfl, nI_1, mrd_32, adv_go q]
      exact ih (e + 1) (by omega) (by omega)
    · rw [b1_neg (fun z => q (a1.mp z)), if_pos rfl, mrd_30, adv_no q]
theorem mx_num {b : pb_W} {T : Nat → Int32} {n : Nat} (hn : n ≤ 600) (h29 : b.1 64 29 = nI n) (hT : ∀ k, k < n → b.1 83 k = T k) (hb : ∀ k, bY (T k)) (tk : Int32) (s : Nat) : ∀ f m v, n ≤ s + m + f → s + m ≤ n → (∀ j, s ≤ j → j < s + m → isDi (T j)) → (m ≤ 5 → v = nI (dval T s m)) → ∃ v', pb_run T_X12_next (128, [some (.ref 64), none, none], [], mrd b tk (nI s) (nI (s + m)) v) = some (none, mrd b (nI (if 5 < adv isDi T n f (s + m) - s then 1 else 3)) (nI s) (nI (adv isDi T n f (s + m))) v') ∧ (adv isDi T n f (s + m) - s ≤ 5 → v' = nI (dval T s (adv isDi T n f (s + m) - s))) := by
  have fin : ∀ m v, s + m ≤ n → ¬ (s + m < n ∧ isDi (T (s + m))) → pb_run T_X12_next (128, [some (.ref 64), none, none], [], mrd b tk (nI s) (nI (s + m)) v) = some (none, mrd b (nI (if 5 < m then 1 else 3)) (nI s) (nI (s + m)) v) := by
    intro m v h q
    obtain ⟨-, a2, -⟩ := atv_is hb n (s + m)
    rw [r_X12_next_128, show (mrd b tk (nI s) (nI (s + m)) v).1 64 32 = nI (s + m) from rfl, M_at hn h29 hT hb tk (nI s) (nI (s + m)) v (by omega), pb_bI_some, M_isDigit2, pb_bI_some, b1_neg (fun z => q (a2.mp z)), if_pos rfl, show (mrd b tk (nI s) (nI (s + m)) v).1 64 32 = nI (s + m) from rfl, show (mrd b tk (nI s) (nI (s + m)) v).1 64 31 = nI s from rfl, nI_subN (show s ≤ s + m by omega), show s + m - s = m by omega, mrd_30, mrd_30]
    by_cases z : 5 < m
    · rw [if_pos z, if_pos (show (5 : Int32) < nI m from nI_lt (a := 5) z (by omega))]
      rfl
    · rw [if_neg z, if_neg (show ¬ (5 : Int32) < nI m from nI_nlt (a := 5) (by omega) (by decide))]
      rfl
  intro f
  induction f with
  | zero =>
    intro m v h1 h3 hl hv
    refine ⟨v, ?_, ?_⟩
    · rw [fin m v h3 (fun z => by omega), adv, show s + m - s = m by omega]
    · rw [adv, show s + m - s = m by omega]
      exact hv
  | succ f ih =>
    intro m v h1 h3 hl hv
    by_cases q : s + m < n ∧ isDi (T (s + m))
    · obtain ⟨-, a2, -⟩ := atv_is hb n (s + m)
      obtain ⟨c, c1, c2, ec⟩ := isDi_n q.2
      have ea : atv T n (s + m) = nI c := by
        unfold atv
        rw [if_pos q.1]
        obtain ⟨-, -, -, -, -, b6⟩ := bc_is (hb (s + m))
        rw [b6 q.2.1, ec, nI_clamp (by omega)]
      obtain ⟨v', y1, y2⟩ := ih (m + 1) (pb_min (1000000 : Int32) ((((10 : Int32) * v) + nI c) - (48 : Int32))) (by omega) (by omega) (fun j a c => by
        by_cases e : j = s + m
        · rw [e]; exact q.2
        · exact hl j a (by omega)) (fun m5 => by
        have lt := dval_lt m hl
        have p8 : 10 ^ m ≤ 10 ^ 4 := Nat.pow_le_pow_right (by decide) (by omega)
        have p : (10 : Nat) ^ 4 = 10000 := by decide
        have e1 : (10 : Int32) * v + nI c - (48 : Int32) = nI (dval T s m * 10 + (c - 48)) := by
          rw [hv (by omega), show (10 : Int32) * nI (dval T s m) = nI (10 * dval T s m) from pn_mul 10 _, nI_add, show nI (10 * dval T s m + c) - (48 : Int32) = nI (10 * dval T s m + c - 48) from nI_subN (b := 48) (by omega)]
          congr 1
          omega
        rw [e1, show pb_min (1000000 : Int32) (nI (dval T s m * 10 + (c - 48))) = nI (min 1000000 (dval T s m * 10 + (c - 48))) from pn_min (a := 1000000) (by omega) (by omega), Nat.min_eq_right (by omega), dval, ec, nI_clamp (by omega)])
      refine ⟨v', ?_, ?_⟩
      · rw [r_X12_next_128, show (mrd b tk (nI s) (nI (s + m)) v).1 64 32 = nI (s + m) from rfl, M_at hn h29 hT hb tk (nI s) (nI (s + m)) v (by omega), pb_bI_some, M_isDigit2, pb_bI_some, b1_pos (a2.mpr q), if_neg (show ¬ (1 : Int32) = 0 by decide), show (mrd b tk (nI s) (nI (s + m)) v).1 64 32 = nI (s + m) from rfl, M_at hn h29 hT hb tk (nI s) (nI (s + m)) v (by omega), pb_bI_some, show (mrd b tk (nI s) (nI (s + m)) v).1 64 33 = v from rfl, ea, show (mrd b tk (nI s) (nI (s + m)) v).1 64 32 = nI (s + m) from rfl, nI_1, mrd_33, mrd_32, adv_go q]
        exact y1
      · rw [adv_go q]
        exact y2
    · refine ⟨v, ?_, ?_⟩
      · rw [fin m v h3 q, adv_no q, show s + m - s = m by omega]
      · rw [adv_no q, show s + m - s = m by omega]
        exact hv
/-- the reference's sort of a token -/
def tyK (k : Nat) : Nat := if k = 15 then 0 else if k = 16 then 1 else if k ≤ 13 then 2 else if k = 14 then 3 else 4
theorem mx_next {b : pb_W} {T : Nat → Int32} {n : Nat} (hn : n ≤ 600) (h29 : b.1 64 29 = nI n) (hT : ∀ k, k < n → b.1 83 k = T k) (hb : ∀ k, bY (T k)) (tk fr v : Int32) {e : Nat} (he : e ≤ n) : ∃ v', M_X12_next [.ref 64] (mrd b tk fr (nI e) v) = some (none, mrd b (nI (tyK (tK T n e))) (nI (tS T n e)) (nI (tE T n e)) v') ∧ (tK T n e = 14 → v' = nI (tV T n e)) ∧ (40 ≤ tK T n e → v' = nI (tK T n e)) := by
  have S := adv_le isWs T n (n - e) e
  have s1 : e ≤ tS T n e := S.1
  have s2 : tS T n e ≤ n := S.2.1 he
  have s3 : ¬ (tS T n e < n ∧ isWs (T (tS T n e))) := adv_end isWs T n (n - e) e (by omega)
  have E : M_X12_next [.ref 64] (mrd b tk fr (nI e) v) = pb_run T_X12_next (0, [some (.ref 64), none, none], [], mrd b tk fr (nI (tS T n e)) v) := by
    refine Eq.trans ?_ (mx_skip hn h29 hT hb tk fr v (n - e) e (by omega) he)
    rw [e_X12_next, r_X12_next_0]
  rw [E]
  unfold tK tE tV
  generalize hs : tS T n e = s at *
  obtain ⟨a1, a2, a3, a4, a5⟩ := atv_is hb n s
  rw [r_X12_next_0, show (mrd b tk fr (nI s) v).1 64 32 = nI s from rfl, M_at hn h29 hT hb tk fr (nI s) v (by omega), pb_bI_some, if_neg (fun z => s3 ⟨(a3.mp z).1, Or.inr (a3.mp z).2⟩), show (mrd b tk fr (nI s) v).1 64 32 = nI s from rfl, M_at hn h29 hT hb tk fr (nI s) v (by omega), pb_bI_some, if_neg (fun z => s3 ⟨(a4.mp z).1, Or.inl (a4.mp z).2⟩), show (mrd b tk fr (nI s) v).1 64 32 = nI s from rfl, mrd_31, M_at hn h29 hT hb tk (nI s) (nI s) v (by omega), pb_bI_some]
  by_cases q : n ≤ s
  · rw [ite_p q, ite_p q, if_pos (a5.mpr (by omega)), mrd_33, mrd_30]
    exact ⟨_, rfl, fun z => by omega, fun z => by omega⟩
  · have L1 : tL isLe T n e = adv isLe T n (n - s) s := by unfold tL; rw [hs]
    have D1 : tL isDi T n e = adv isDi T n (n - s) s := by unfold tL; rw [hs]
    have sn : s < n := by omega
    rw [ite_n q, ite_n q, if_neg (fun z => (a5.mp z) sn), mrd_33, M_isSmall, pb_bI_some]
    by_cases le : isLe (T s)
    · rw [b1_pos (a1.mpr ⟨sn, le⟩), if_neg (show ¬ (1 : Int32) = 0 by decide), ite_p le, ite_p le, ite_p le, L1, mx_wrd hn h29 hT hb tk (nI s) (atv T n s) (n - s) s (by omega) (by omega)]
      have k13 := kw_le (wls T s (adv isLe T n (n - s) s - s))
      refine ⟨atv T n s, ?_, fun z => by omega, fun z => by omega⟩
      unfold tyK
      rw [if_neg (by omega), if_neg (by omega), if_pos k13]
      rfl
    · rw [b1_neg (fun z => le (a1.mp z).2), if_pos rfl, ite_n le, ite_n le, ite_n le, M_isDigit2, pb_bI_some]
      by_cases di : isDi (T s)
      · rw [b1_pos (a2.mpr ⟨sn, di⟩), if_neg (show ¬ (1 : Int32) = 0 by decide), ite_p di, ite_p di, D1, mrd_33]
        obtain ⟨v', y1, y2⟩ := mx_num hn h29 hT hb tk s (n - s) 0 (0 : Int32) (by omega) (by omega) (fun j a c => by omega) (fun _ => rfl)
        rw [Nat.add_zero] at y1 y2
        refine ⟨v', ?_, fun z => y2 ?_, fun z => ?_⟩
        · rw [y1]
          by_cases w5 : 5 < adv isDi T n (n - s) s - s
          · rw [if_pos w5, if_pos w5]
            rfl
          · rw [if_neg w5, if_neg w5]
            rfl
        · revert z
          split <;> intro z <;> omega
        · exfalso
          revert z
          split <;> intro z <;> omega
      · obtain ⟨c1, c2, c3, c4⟩ := bc_and (hb s)
        obtain ⟨-, -, -, -, b5, -⟩ := bc_is (hb s)
        have ea : atv T n s = nI (bc (T s)) := if_pos sn
        rw [b1_neg (fun z => di (a2.mp z).2), if_pos rfl, ite_n di, ite_n di, ea]
        simp only [r_X12_next_279, if_neg (show ¬ (1 : Int32) = 0 by decide), show (mrd b tk (nI s) (nI s) (nI (bc (T s)))).1 64 32 = nI s from rfl, nI_1, mrd_32, mrd_30, if_true, ite_true]
        simp only [show (59 : Int32) = nI 59 from rfl, show (60 : Int32) = nI 60 from rfl, show (62 : Int32) = nI 62 from rfl, show (61 : Int32) = nI 61 from rfl, show (43 : Int32) = nI 43 from rfl, show (45 : Int32) = nI 45 from rfl, show (42 : Int32) = nI 42 from rfl, show (47 : Int32) = nI 47 from rfl, show (40 : Int32) = nI 40 from rfl, show (41 : Int32) = nI 41 from rfl]
        rw [ite_eqN (by omega) (by omega), ite_eqN (by omega) (by omega), ite_eqN (by omega) (by omega), ite_eqN (by omega) (by omega), ite_eqN (by omega) (by omega), ite_eqN (by omega) (by omega), ite_eqN (by omega) (by omega), ite_eqN (by omega) (by omega), ite_eqN (by omega) (by omega), ite_eqN (by omega) (by omega)]
        by_cases sg : (T s).toNatClampNeg ∈ sgnl
        · have s40 : 40 ≤ (T s).toNatClampNeg ∧ (T s).toNatClampNeg ≠ 15 ∧ (T s).toNatClampNeg ≠ 16 := by
            have : ∀ c, c ∈ sgnl → 40 ≤ c ∧ c ≠ 15 ∧ c ≠ 16 := by decide
            exact this _ sg
          have tyE : tyK (T s).toNatClampNeg = 4 := by
            unfold tyK
            rw [if_neg s40.2.1, if_neg s40.2.2, if_neg (by omega), if_neg (by omega)]
          rw [if_pos sg, tyE, b5 sg]
          refine ⟨nI (T s).toNatClampNeg, ?_, fun z => by omega, fun _ => rfl⟩
          simp only [sgnl, List.mem_cons, List.not_mem_nil, or_false] at sg
          rcases sg with h | h | h | h | h | h | h | h | h | h <;> rw [h] <;> rfl
        · rw [if_neg sg]
          have sg' : bc (T s) ∉ sgnl := fun z => sg (c3.mp z)
          simp only [sgnl, List.mem_cons, List.not_mem_nil, or_false, not_or] at sg'
          obtain ⟨g1, g2, g3, g4, g5, g6, g7, g8, g9, g10⟩ := sg'
          rw [if_neg g1, if_neg g2, if_neg g3, if_neg g4, if_neg g5, if_neg g6, if_neg g7, if_neg g8, if_neg g9, if_neg g10]
          exact ⟨_, rfl, fun z => by omega, fun z => by omega⟩
