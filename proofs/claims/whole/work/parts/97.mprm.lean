/-! ===== READER: the reference's world while it reads ===== -/
def ms (b : pb_W) (B S O P Q : Nat → Int32) : pb_W := pb_wF (pb_wF (pb_wF (pb_wF (pb_wF b 64 B) 98 S) 99 O) 100 P) 101 Q
theorem ms_B (b : pb_W) (B S O P Q : Nat → Int32) (k : Nat) (x : Int32) : pb_wI (ms b B S O P Q) 64 k x = ms b (upd B k x) S O P Q := by
  refine Prod.ext (funext fun d => ?_) rfl
  by_cases d1 : d = 64
  · subst d1; rfl
  · simp [ms, pw_I1, pw_F1, d1]
theorem ms_S (b : pb_W) (B S O P Q : Nat → Int32) (k : Nat) (x : Int32) : pb_wI (ms b B S O P Q) 98 k x = ms b B (upd S k x) O P Q := by
  refine Prod.ext (funext fun d => ?_) rfl
  by_cases d1 : d = 98
  · subst d1; rfl
  · simp [ms, pw_I1, pw_F1, d1]
theorem ms_O (b : pb_W) (B S O P Q : Nat → Int32) (k : Nat) (x : Int32) : pb_wI (ms b B S O P Q) 99 k x = ms b B S (upd O k x) P Q := by
  refine Prod.ext (funext fun d => ?_) rfl
  by_cases d1 : d = 99
  · subst d1; rfl
  · simp [ms, pw_I1, pw_F1, d1]
theorem ms_P (b : pb_W) (B S O P Q : Nat → Int32) (k : Nat) (x : Int32) : pb_wI (ms b B S O P Q) 100 k x = ms b B S O (upd P k x) Q := by
  refine Prod.ext (funext fun d => ?_) rfl
  by_cases d1 : d = 100
  · subst d1; rfl
  · simp [ms, pw_I1, pw_F1, d1]
theorem ms_Q (b : pb_W) (B S O P Q : Nat → Int32) (k : Nat) (x : Int32) : pb_wI (ms b B S O P Q) 101 k x = ms b B S O P (upd Q k x) := by
  refine Prod.ext (funext fun d => ?_) rfl
  by_cases d1 : d = 101
  · subst d1; rfl
  · simp [ms, pw_I1, pw_F1, d1]
theorem ms_b (b : pb_W) (B S O P Q : Nat → Int32) (c k : Nat) (x : Int32) (h : c ≠ 64 ∧ c ≠ 98 ∧ c ≠ 99 ∧ c ≠ 100 ∧ c ≠ 101) : pb_wI (ms b B S O P Q) c k x = ms (pb_wI b c k x) B S O P Q := by
  obtain ⟨h1, h2, h3, h4, h5⟩ := h
  refine Prod.ext (funext fun d => funext fun j => ?_) rfl
  by_cases dc : d = c
  · subst dc
    simp [ms, pw_I1, pw_F1, h1, h2, h3, h4, h5]
  · simp [ms, pw_I1, pw_F1, dc]
theorem ms_L (b : pb_W) (B S O P Q : Nat → Int32) (c k : Nat) (x : Int64) : pb_wL (ms b B S O P Q) c k x = ms (pb_wL b c k x) B S O P Q := Prod.ext rfl rfl
theorem ms_r (b : pb_W) (B S O P Q : Nat → Int32) (tk fr en v : Int32) : mrd (ms b B S O P Q) tk fr en v = ms b (upd (upd (upd (upd B 30 tk) 31 fr) 32 en) 33 v) S O P Q := by
  unfold mrd
  rw [ms_B, ms_B, ms_B, ms_B]
theorem ms_self (b : pb_W) (B S O P Q : Nat → Int32) : ms b B S O P Q = mrd (ms b B S O P Q) (B 30) (B 31) (B 32) (B 33) := by
  rw [ms_r]
  congr 1
  funext k
  rw [pu_at, pu_at, pu_at, pu_at]
  by_cases q3 : k = 33
  · rw [if_pos q3, q3]
  · rw [if_neg q3]
    by_cases q2 : k = 32
    · rw [if_pos q2, q2]
    · rw [if_neg q2]
      by_cases q1 : k = 31
      · rw [if_pos q1, q1]
      · rw [if_neg q1]
        by_cases q0 : k = 30
        · rw [if_pos q0, q0]
        · rw [if_neg q0]
/-- the text as the reference holds it, and its token -/
def TX (b : pb_W) (T : Nat → Int32) (n : Nat) : Prop := n ≤ 600 ∧ (∀ k, k < n → b.1 83 k = T k) ∧ ∀ k, bY (T k)
def MT (T : Nat → Int32) (n e : Nat) (B : Nat → Int32) : Prop := B 29 = nI n ∧ B 30 = nI (tyK (tK T n e)) ∧ B 31 = nI (tS T n e) ∧ B 32 = nI (tE T n e) ∧ (tK T n e = 14 → B 33 = nI (tV T n e)) ∧ (40 ≤ tK T n e → B 33 = nI (tK T n e)) ∧ B 36 = 0 ∧ B 35 = -1
def sameB (B B' : Nat → Int32) : Prop := ∀ k, k ≠ 30 → k ≠ 31 → k ≠ 32 → k ≠ 33 → B' k = B k
theorem tE_le {T : Nat → Int32} {n e : Nat} (he : e ≤ n) : tE T n e ≤ n := by
  rcases tok_adv (T := T) he with q | q
  · exact q
  · have S := adv_le isWs T n (n - e) e
    have s2 : tS T n e ≤ n := S.2.1 he
    by_cases z : n ≤ tS T n e
    · unfold tE
      rw [ite_p z]
      exact s2
    · exfalso
      unfold tK at q
      rw [ite_n z] at q
      by_cases le : isLe (T (tS T n e))
      · rw [ite_p le] at q
        have := kw_le (wls T (tS T n e) (tL isLe T n e - tS T n e))
        omega
      · rw [ite_n le] at q
        by_cases di : isDi (T (tS T n e))
        · rw [ite_p di] at q
          revert q
          split <;> intro q <;> omega
        · rw [ite_n di] at q
          by_cases sg : (T (tS T n e)).toNatClampNeg ∈ sgnl
          · rw [if_pos sg] at q
            have : ∀ c, c ∈ sgnl → 40 ≤ c := by decide
            have := this _ sg
            omega
          · rw [if_neg sg] at q; omega
theorem ms_next {b : pb_W} {T : Nat → Int32} {n e : Nat} (hX : TX b T n) {B S O P Q : Nat → Int32} (h29 : B 29 = nI n) (h32 : B 32 = nI e) (h36 : B 36 = 0 ∧ B 35 = -1) (he : e ≤ n) : ∃ B', M_X12_next [.ref 64] (ms b B S O P Q) = some (none, ms b B' S O P Q) ∧ MT T n e B' ∧ sameB B B' := by
  obtain ⟨v', y1, y2, y3⟩ := mx_next (b := ms b B S O P Q) hX.1 h29 hX.2.1 hX.2.2 (B 30) (B 31) (B 33) he
  rw [← h32, ← ms_self, ms_r] at y1
  refine ⟨_, y1, ⟨h29, rfl, rfl, rfl, y2, y3, h36⟩, fun k k0 k1 k2 k3 => ?_⟩
  rw [pu_at, if_neg k3, pu_at, if_neg k2, pu_at, if_neg k1, pu_at, if_neg k0]
theorem tok_rng (T : Nat → Int32) (n e : Nat) : tK T n e ≤ 16 ∨ (40 ≤ tK T n e ∧ tK T n e < 100) := by
  have := tK_lt T n e
  rcases Nat.lt_or_ge (tK T n e) 40 with q | q
  · refine Or.inl ?_
    unfold tK at q ⊢
    by_cases z : n ≤ tS T n e
    · rw [ite_p z]; omega
    · rw [ite_n z] at q ⊢
      by_cases le : isLe (T (tS T n e))
      · rw [ite_p le]
        have := kw_le (wls T (tS T n e) (tL isLe T n e - tS T n e))
        omega
      · rw [ite_n le] at q ⊢
        by_cases di : isDi (T (tS T n e))
        · rw [ite_p di]
          split <;> omega
        · rw [ite_n di] at q ⊢
          by_cases sg : (T (tS T n e)).toNatClampNeg ∈ sgnl
          · rw [if_pos sg] at q
            have : ∀ c, c ∈ sgnl → 40 ≤ c := by decide
            have := this _ sg
            omega
          · rw [if_neg sg]; omega
  · exact Or.inr ⟨q, this⟩
theorem ty_4 {k : Nat} (h : k ≤ 16 ∨ (40 ≤ k ∧ k < 100)) : tyK k = 4 ↔ 40 ≤ k := by
  unfold tyK
  by_cases a : k = 15
  · rw [if_pos a]; omega
  · rw [if_neg a]
    by_cases c : k = 16
    · rw [if_pos c]; omega
    · rw [if_neg c]
      by_cases d : k ≤ 13
      · rw [if_pos d]; omega
      · rw [if_neg d]
        by_cases f : k = 14
        · rw [if_pos f]; omega
        · rw [if_neg f]; omega
theorem ty_3 {k : Nat} : tyK k = 3 ↔ k = 14 := by
  unfold tyK
  by_cases a : k = 15
  · rw [if_pos a]; omega
  · rw [if_neg a]
    by_cases c : k = 16
    · rw [if_pos c]; omega
    · rw [if_neg c]
      by_cases d : k ≤ 13
      · rw [if_pos d]; omega
      · rw [if_neg d]
        by_cases f : k = 14
        · rw [if_pos f]; omega
        · rw [if_neg f]; omega
theorem ty_1 {k : Nat} : tyK k = 1 ↔ k = 16 := by
  unfold tyK
  by_cases a : k = 15
  · rw [if_pos a]; omega
  · rw [if_neg a]
    by_cases c : k = 16
    · rw [if_pos c]; omega
    · rw [if_neg c]
      by_cases d : k ≤ 13
      · rw [if_pos d]; omega
      · rw [if_neg d]
        by_cases f : k = 14
        · rw [if_pos f]; omega
        · rw [if_neg f]; omega
theorem ms_sign {b : pb_W} {T : Nat → Int32} {n e : Nat} {B S O P Q : Nat → Int32} (hM : MT T n e B) {c : Nat} (hc : 40 ≤ c) (hc2 : c < 100) : M_X12_isSign [.ref 64, .int (nI c)] (ms b B S O P Q) = some (some (.int (if tK T n e = c then 1 else 0)), ms b B S O P Q) := by
  have r := tok_rng T n e
  have t4 := ty_le (tK T n e)
  rw [e_X12_isSign, show (ms b B S O P Q).1 64 30 = nI (tyK (tK T n e)) from hM.2.1]
  by_cases q : 40 ≤ tK T n e
  · rw [if_pos (show nI (tyK (tK T n e)) = (4 : Int32) by rw [(ty_4 r).mpr q]; rfl), show (ms b B S O P Q).1 64 33 = nI (tK T n e) from hM.2.2.2.2.2.1 q, ite_eqN (by omega) (by omega)]
    by_cases z : tK T n e = c
    · rw [if_pos z, if_pos z]
    · rw [if_neg z, if_neg z]
  · rw [if_neg (show ¬ nI (tyK (tK T n e)) = (4 : Int32) from fun y => q ((ty_4 r).mp ((nI_eq (b := 4) (by omega) (by decide)).mp y))), if_neg (by omega)]
theorem ms_key {b : pb_W} {T : Nat → Int32} {n e : Nat} (hX : TX b T n) (he : e ≤ n) {B S O P Q : Nat → Int32} (hM : MT T n e B) {c : Nat} (hc : c ≤ 8) : M_X12_isKey [.ref 64, .int (nI c)] (ms b B S O P Q) = some (some (.int (if tK T n e = c then 1 else 0)), ms b B S O P Q) := by
  have K := M_inKeys (b := ms b B S O P Q) hX.1 hM.1 hX.2.1 hX.2.2 he (B 33)
  have E : mrd (ms b B S O P Q) (nI (tyK (tK T n e))) (nI (tS T n e)) (nI (tE T n e)) (B 33) = ms b B S O P Q := by
    rw [← hM.2.1, ← hM.2.2.1, ← hM.2.2.2.1, ← ms_self]
  rw [E] at K
  rw [e_X12_isKey, K, pb_bI_some]
  by_cases q : tK T n e < 9
  · rw [if_pos q, ite_eqN (by omega) (by omega)]
    by_cases z : tK T n e = c
    · rw [if_pos z, if_pos z]
    · rw [if_neg z, if_neg z]
  · rw [if_neg q, if_neg (show ¬ (-1 : Int32) = nI c from fun y => pn_m1 c (by omega) y.symm), if_neg (by omega)]
theorem ms_vars {b : pb_W} {T : Nat → Int32} {n e : Nat} (hX : TX b T n) (he : e ≤ n) {B S O P Q : Nat → Int32} (hM : MT T n e B) : M_X12_inWords_302 [.ref 64, .ref 302] (ms b B S O P Q) = some (some (.int (if 9 ≤ tK T n e ∧ tK T n e < 13 then nI (tK T n e - 9) else -1)), ms b B S O P Q) := by
  have K := M_inVars (b := ms b B S O P Q) hX.1 hM.1 hX.2.1 hX.2.2 he (B 33)
  have E : mrd (ms b B S O P Q) (nI (tyK (tK T n e))) (nI (tS T n e)) (nI (tE T n e)) (B 33) = ms b B S O P Q := by
    rw [← hM.2.1, ← hM.2.2.1, ← hM.2.2.2.1, ← ms_self]
  rw [E] at K
  exact K
/-- which fault it is -/
def fk (k kind : Nat) : Nat := if k = 16 then 1 else kind
theorem ms_fail {b : pb_W} {T : Nat → Int32} {n e : Nat} {B S O P Q : Nat → Int32} (hM : MT T n e B) (kind : Nat) : (pb_bI (M_X12_fails [.ref 64, .int (nI kind)] (ms b B S O P Q)) fun x w => (if x = 0 ∨ x = 1 then (some (some (Value.int x), w)) else none)) = some (some (Value.int 0), ms b (upd (upd B 36 (nI (fk (tK T n e) kind))) 35 (nI (tS T n e))) S O P Q) := by
  have t4 := ty_le (tK T n e)
  rw [e_X12_fails, show (ms b B S O P Q).1 64 36 = 0 from hM.2.2.2.2.2.2.1, if_pos rfl, show (ms b B S O P Q).1 64 30 = nI (tyK (tK T n e)) from hM.2.1, show (ms b B S O P Q).1 64 31 = nI (tS T n e) from hM.2.2.1, ms_B, ms_B, ms_B, ms_B]
  unfold fk
  by_cases q : tK T n e = 16
  · rw [if_pos (show nI (tyK (tK T n e)) = (1 : Int32) by rw [ty_1.mpr q]; rfl), pb_bI_some, if_pos (Or.inl rfl), if_pos q]
    rfl
  · rw [if_neg (show ¬ nI (tyK (tK T n e)) = (1 : Int32) from fun y => q (ty_1.mp ((nI_eq (b := 1) (by omega) (by decide)).mp y))), pb_bI_some, if_pos (Or.inl rfl), if_neg q]
theorem ms_puts {b : pb_W} {B S O P Q : Nat → Int32} {g : Nat} (h38 : B 38 = nI g) (hg : g < 4000) (x y : Int32) : M_X12_puts [.ref 64, .int x, .int y] (ms b B S O P Q) = some (none, ms b (upd B 38 (nI (g + 1))) (upd S g x) (upd O g y) P Q) := by
  rw [e_X12_puts, show (ms b B S O P Q).1 64 38 = nI g from h38, if_pos (pn_in hg (by decide)), if_pos (pn_in hg (by decide)), nI_clamp (show g < 2 ^ 31 by omega), nI_1, ms_S, ms_O, ms_B]
