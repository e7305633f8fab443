/-! ===== WEIGHTS: the reference, row by row ===== -/
theorem nI_rem {a b : Nat} (ha : a < 2 ^ 31) (hb : b < 2 ^ 31) (h0 : 0 < b) : nI a - nI a / nI b * nI b = nI (a % b) := by
  have e := Nat.div_add_mod a b
  have l := Nat.div_mul_le_self a b
  rw [pk_div ha h0 hb, pn_mul, nI_subN l, Nat.mul_comm, show a - b * (a / b) = a % b by omega]
theorem dig_le (n M f r : Nat) : dig n (M + 1) f r ≤ M := by
  have := Nat.mod_lt (r / (M + 1) ^ (n - 1 - f)) (show 0 < M + 1 by omega)
  unfold dig
  omega
theorem La_b {cl ld : Nat → Nat} {m : Nat → Int} {n M : Nat} (hM : M ≤ 4) (r : Nat) : ∀ f k, m k - 8 * f ≤ La cl ld m n (M + 1) r f k ∧ La cl ld m n (M + 1) r f k ≤ m k
  | 0, k => ⟨by simp [La], Int.le_refl _⟩
  | f + 1, k => by
    obtain ⟨a, b⟩ := La_b (cl := cl) (ld := ld) (m := m) (n := n) hM r f k
    have g := dig_le n M f r
    rw [La]
    unfold dl
    split <;> split <;> omega
theorem mx_181 {n M r0 : Nat} (hn : n ≤ 8) (hM : M ≤ 4) (hr : r0 < 2 ^ 30) (a3 a4 a5 : Int32) : ∀ rem v, rem ≤ n → (∀ g, rem ≤ g → g < n → v.1 125 g = nI (dig n (M + 1) g r0)) → ∃ v', pb_run T_X12_weights (181, [some (.ref 64), some (.int (nI n)), some (.int (nI M)), some (.int a3), some (.int a4), some (.int a5), some (.int (nI r0)), some (.int (nI (r0 / (M + 1) ^ (n - rem)))), some (.int (iI ((rem : Int) - 1))), none], [], v) = pb_run T_X12_weights (216, [some (.ref 64), some (.int (nI n)), some (.int (nI M)), some (.int a3), some (.int a4), some (.int a5), some (.int (nI r0)), none, some (.int (nI 0)), none], [], v') ∧ (∀ g, g < n → v'.1 125 g = nI (dig n (M + 1) g r0)) ∧ fr (fun c _ => c = 125) fJ_no v v' := by
  intro rem
  induction rem with
  | zero =>
    intro v hr h
    refine ⟨v, ?_, fun g hg => h g (by omega) hg, fr_rf v⟩
    rw [r_X12_weights_181, if_pos (show iI (((0 : Nat) : Int) - 1) < 0 by decide)]
    rfl
  | succ rem ih =>
    intro v hr h
    have ea : iI (((rem + 1 : Nat) : Int) - 1) = nI rem := by
      rw [iI_n (by omega)]
      congr 1
      omega
    have eb : nI rem + (-1 : Int32) = iI ((rem : Int) - 1) := by
      rw [iI_n (by omega), show (-1 : Int32) = iI (-1) from rfl, iI_add]
      rfl
    have q8 : pb_in (nI rem) 8 := pn_in (by omega) (by decide)
    have qb : ¬ nI (M + 1) = (0 : Int32) := fun z => by have := (nI_eq (b := 0) (by omega) (by decide)).mp z; omega
    have dl := Nat.div_le_self r0 ((M + 1) ^ (n - (rem + 1)))
    have ds := div_s (n := n) (f := rem) (B := M + 1) (r := r0) (by omega)
    rw [show n - 1 - rem = n - (rem + 1) by omega] at ds
    rw [r_X12_weights_181, ea, if_neg (show ¬ nI rem < (0 : Int32) from nI_nlt (b := 0) (by omega) (by omega)), nI_1, if_neg qb, if_neg qb, if_pos q8, nI_clamp (show rem < 2 ^ 31 by omega), nI_rem (by omega) (by omega) (by omega), pk_div (by omega) (by omega) (by omega), ds, eb]
    obtain ⟨v', a1, a2, a3⟩ := ih (pb_wI v 125 rem (nI (r0 / (M + 1) ^ (n - (rem + 1)) % (M + 1)))) (by omega) (fun g h1 h2 => by
      show upd (v.1 125) rem _ g = _
      rw [pu_at]
      by_cases z : g = rem
      · rw [if_pos z, z]
        unfold dig
        rw [show n - 1 - rem = n - (rem + 1) by omega]
      · rw [if_neg z]
        exact h g (by omega) h2)
    exact ⟨v', a1, a2, fr_tr (fr_I (fr_rf v) rfl) a3⟩
theorem mx_216 (a1 a2 a3 a4 a5 a6 : Int32) : ∀ r k v, k + r = 8 → (∀ j, j < k → v.1 127 j = 0) → ∃ v', pb_run T_X12_weights (216, [some (.ref 64), some (.int a1), some (.int a2), some (.int a3), some (.int a4), some (.int a5), some (.int a6), none, some (.int (nI k)), none], [], v) = pb_run T_X12_weights (240, [some (.ref 64), some (.int a1), some (.int a2), some (.int a3), some (.int a4), some (.int a5), some (.int a6), none, some (.int (nI 0)), none], [], v') ∧ (∀ j, j < 8 → v'.1 127 j = 0) ∧ fr (fun c _ => c = 127) fJ_no v v' := by
  intro r
  induction r with
  | zero =>
    intro k v hk h
    have hk : k = 8 := by omega
    subst hk
    refine ⟨v, ?_, h, fr_rf v⟩
    rw [r_X12_weights_216, if_neg (show ¬ nI 8 < (8 : Int32) by decide)]
    rfl
  | succ r ih =>
    intro k v hk h
    rw [r_X12_weights_216, if_pos (show nI k < (8 : Int32) from nI_lt (b := 8) (by omega) (by decide)), if_pos (pn_in (show k < 8 by omega) (by decide)), nI_clamp (show k < 2 ^ 31 by omega), nI_1]
    obtain ⟨v', b1, b2, b3⟩ := ih (k + 1) (pb_wI v 127 k 0) (by omega) (fun j hj => by
      show upd (v.1 127) k 0 j = 0
      rw [pu_at]
      by_cases z : j = k
      · rw [if_pos z]
      · rw [if_neg z]; exact h j (by omega))
    exact ⟨v', b1, b2, fr_tr (fr_I (fr_rf v) rfl) b3⟩
def FM (w : pb_W) (cl ld : Nat → Nat) (n : Nat) : Prop := ∀ f, f < n → w.1 68 f = nI (cl f) ∧ w.1 69 f = nI (ld f) ∧ cl f < 4 ∧ ld f < 4
theorem mx_240 {cl ld : Nat → Nat} {m : Nat → Int} {n M r0 : Nat} (hn : n ≤ 8) (hM : M ≤ 4) (a2 a3 a4 a5 a6 : Int32) : ∀ r f v, f + r = n → FM v cl ld n → (∀ g, g < n → v.1 125 g = nI (dig n (M + 1) g r0)) → (∀ k, k < 8 → v.1 127 k = iI (m k - La cl ld m n (M + 1) r0 f k)) → ∃ v', pb_run T_X12_weights (240, [some (.ref 64), some (.int (nI n)), some (.int a2), some (.int a3), some (.int a4), some (.int a5), some (.int a6), none, some (.int (nI f)), none], [], v) = pb_run T_X12_weights (304, [some (.ref 64), some (.int (nI n)), some (.int a2), some (.int a3), some (.int a4), some (.int a5), some (.int a6), none, some (.int (iI 0)), some (.int (nI 0))], [], v') ∧ (∀ k, k < 8 → v'.1 127 k = iI (m k - La cl ld m n (M + 1) r0 n k)) ∧ fr (fun c _ => c = 127) fJ_no v v' := by
  intro r
  induction r with
  | zero =>
    intro f v hf hF h125 h
    have hf : f = n := by omega
    subst hf
    refine ⟨v, ?_, h, fr_rf v⟩
    rw [r_X12_weights_240, if_neg (show ¬ nI f < nI f from nI_nlt (Nat.le_refl _) (by omega))]
    rfl
  | succ r ih =>
    intro f v hf hF h125 h
    obtain ⟨c1, c2, c3, c4⟩ := hF f (by omega)
    have f8 : pb_in (nI f) 8 := pn_in (by omega) (by decide)
    have f12 : pb_in (nI f) 12 := pn_in (by omega) (by decide)
    have c8 : pb_in (nI (cl f)) 8 := pn_in (by omega) (by decide)
    have l8 : pb_in (nI (4 + ld f)) 8 := pn_in (by omega) (by decide)
    have el : (4 : Int32) + nI (ld f) = nI (4 + ld f) := nI_add 4 (ld f)
    have dg := dig_le n M f r0
    rw [r_X12_weights_240, if_pos (show nI f < nI n from nI_lt (by omega) (by omega)), nI_clamp (show f < 2 ^ 31 by omega), c1, c2, el]
    simp only [if_pos f8, if_pos f12, if_pos c8, if_pos l8, nI_clamp (show cl f < 2 ^ 31 by omega), nI_clamp (show 4 + ld f < 2 ^ 31 by omega), nI_1, h125 f (by omega)]
    generalize hv1 : pb_wI (pb_wI v 127 (cl f) (v.1 127 (cl f) + nI (dig n (M + 1) f r0))) 127 (4 + ld f) ((pb_wI v 127 (cl f) (v.1 127 (cl f) + nI (dig n (M + 1) f r0))).1 127 (4 + ld f) + nI (dig n (M + 1) f r0)) = v1
    have F : fr (fun c _ => c = 127) fJ_no v v1 := by
      rw [← hv1]
      exact fr_I (fr_I (fr_rf v) rfl) rfl
    have e127 : ∀ k, v1.1 127 k = if k = 4 + ld f then v.1 127 (4 + ld f) + nI (dig n (M + 1) f r0) else if k = cl f then v.1 127 (cl f) + nI (dig n (M + 1) f r0) else v.1 127 k := by
      intro k
      rw [← hv1]
      show upd (upd (v.1 127) (cl f) _) (4 + ld f) (upd (v.1 127) (cl f) _ (4 + ld f) + _) k = _
      rw [pu_at, pu_at, pu_at, if_neg (show ¬ 4 + ld f = cl f by omega)]
    obtain ⟨v', b1, b2, b3⟩ := ih (f + 1) v1 (by omega) (fun g hg => by
      rw [F.1 68 g (by simp), F.1 69 g (by simp)]
      exact hF g hg) (fun g hg => by rw [F.1 125 g (by simp)]; exact h125 g hg) (fun k hk => by
      rw [e127, iI_n (show dig n (M + 1) f r0 < 2 ^ 31 by omega), La]
      unfold dl
      by_cases z1 : k = 4 + ld f
      · rw [if_pos z1, if_neg (show ¬ k = cl f by omega), if_pos z1, ← z1, h k hk, iI_add]
        congr 1
        omega
      · rw [if_neg z1, if_neg z1]
        by_cases z2 : k = cl f
        · rw [if_pos z2, if_pos z2, ← z2, h k hk, iI_add]
          congr 1
          omega
        · rw [if_neg z2, if_neg z2, h k hk]
          congr 1
          omega)
    exact ⟨v', b1, b2, fr_tr F b3⟩
theorem mx_304 {L m : Nat → Int} {mN : Nat → Nat} {t : Nat} (ht : t < 4) (hm : ∀ k, k < 8 → m k = mN k ∧ mN k ≤ 100) (hL : ∀ k, k < 8 → -200 ≤ L k ∧ L k ≤ 200) (a1 a2 a4 a5 a6 : Int32) {v : pb_W} (h67 : ∀ k, k < 8 → v.2 67 (60 * t + k) = lN (mN k)) (h127 : ∀ k, k < 8 → v.1 127 k = iI (m k - L k)) : ∀ r k, k + r = 8 → pb_run T_X12_weights (304, [some (.ref 64), some (.int a1), some (.int a2), some (.int (nI t)), some (.int a4), some (.int a5), some (.int a6), none, some (.int (iI (pS (fun k => ((L k).natAbs : Int)) k))), some (.int (nI k))], [], v) = (if a5 = (-1 : Int32) then (pb_run T_X12_weights (369, [some (.ref 64), some (.int a1), some (.int a2), some (.int (nI t)), some (.int a4), some (.int (iI (ap8 L))), some (.int a6), none, none, some (.int (0 : Int32))], [], v)) else (if iI (ap8 L) < a5 then (pb_run T_X12_weights (369, [some (.ref 64), some (.int a1), some (.int a2), some (.int (nI t)), some (.int a4), some (.int (iI (ap8 L))), some (.int a6), none, none, some (.int (0 : Int32))], [], v)) else (pb_run T_X12_weights (165, [some (.ref 64), some (.int a1), some (.int a2), some (.int (nI t)), some (.int a4), some (.int a5), some (.int (a6 + (1 : Int32))), none, none, none], [], v)))) := by
  intro r
  induction r with
  | zero =>
    intro k hk
    have hk : k = 8 := by omega
    subst hk
    rw [r_X12_weights_304, if_neg (show ¬ nI 8 < (8 : Int32) by decide), ap8_p]
  | succ r ih =>
    intro k hk
    have ih := ih (k + 1) (by omega)
    rw [pS] at ih
    obtain ⟨m1, m2⟩ := hm k (by omega)
    obtain ⟨l1, l2⟩ := hL k (by omega)
    have k8 : pb_in (nI k) 8 := pn_in (by omega) (by decide)
    have ix : (60 : Int32) * nI t + nI k = nI (60 * t + k) := by rw [show (60 : Int32) = nI 60 from rfl, pn_mul, nI_add]
    rw [r_X12_weights_304, if_pos (show nI k < (8 : Int32) from nI_lt (b := 8) (by omega) (by decide)), if_pos k8, ix, if_pos (pn_in (show 60 * t + k < 240 by omega) (by decide)), nI_clamp (show k < 2 ^ 31 by omega), nI_clamp (show 60 * t + k < 2 ^ 31 by omega), h67 k (by omega), h127 k (by omega), lN_to32 (by omega), iI_n (show mN k < 2 ^ 31 by omega), iI_sub, iI_abs (by omega) (by omega), iI_add, nI_1]
    refine Eq.trans ?_ ih
    congr 1
    have : ((m k - L k - (mN k : Int)).natAbs : Int) = ((L k).natAbs : Int) := by omega
    rw [this]
theorem mx_369 {n : Nat} (hn : n ≤ 8) (a2 a3 a4 a5 a6 : Int32) : ∀ r f v, f + r = n → (∀ g, g < f → v.1 126 g = v.1 125 g) → ∃ v', pb_run T_X12_weights (369, [some (.ref 64), some (.int (nI n)), some (.int a2), some (.int a3), some (.int a4), some (.int a5), some (.int a6), none, none, some (.int (nI f))], [], v) = pb_run T_X12_weights (165, [some (.ref 64), some (.int (nI n)), some (.int a2), some (.int a3), some (.int a4), some (.int a5), some (.int (a6 + (1 : Int32))), none, none, none], [], v') ∧ (∀ g, g < n → v'.1 126 g = v.1 125 g) ∧ fr (fun c _ => c = 126) fJ_no v v' := by
  intro r
  induction r with
  | zero =>
    intro f v hf h
    have hf : f = n := by omega
    subst hf
    refine ⟨v, ?_, h, fr_rf v⟩
    rw [r_X12_weights_369, if_neg (show ¬ nI f < nI f from nI_nlt (Nat.le_refl _) (by omega))]
  | succ r ih =>
    intro f v hf h
    have f8 : pb_in (nI f) 8 := pn_in (by omega) (by decide)
    rw [r_X12_weights_369, if_pos (show nI f < nI n from nI_lt (by omega) (by omega)), if_pos f8, if_pos f8, nI_clamp (show f < 2 ^ 31 by omega), nI_1]
    obtain ⟨v', b1, b2, b3⟩ := ih (f + 1) (pb_wI v 126 f (v.1 125 f)) (by omega) (fun g hg => by
      show upd (v.1 126) f (v.1 125 f) g = v.1 125 g
      rw [pu_at]
      by_cases z : g = f
      · rw [if_pos z, z]
      · rw [if_neg z]; exact h g (by omega))
    exact ⟨v', b1, b2, fr_tr (fr_I (fr_rf v) rfl) b3⟩
def encW : Option (Int × Nat) → Int32
  | none => -1
  | some b => iI b.1
def FW (v : pb_W) (n B : Nat) : Option (Int × Nat) → Prop
  | none => True
  | some b => ∀ g, g < n → v.1 126 g = nI (dig n B g b.2)
abbrev fI_wm : Nat → Nat → Prop := fun c _ => c = 125 ∨ c = 126 ∨ c = 127
theorem bsw_b {U : Nat → Int} (hU : ∀ r, 0 ≤ U r ∧ U r ≤ 1600) : ∀ r b, bsw U r = some b → 0 ≤ b.1 ∧ b.1 ≤ 1600
  | 0, b, h => by cases h
  | r + 1, b, h => by
    rw [bsw] at h
    cases q : bsw U r with
    | none =>
      rw [q] at h
      injection h with h
      rw [← h]
      exact hU r
    | some b' =>
      rw [q] at h
      have h : (if U r < b'.1 then some (U r, r) else some b') = some b := h
      split at h
      · injection h with h
        rw [← h]
        exact hU r
      · injection h with h
        rw [← h]
        exact bsw_b hU r b' q
theorem mx_165 {cl ld : Nat → Nat} {m : Nat → Int} {mN : Nat → Nat} {n M t N : Nat} (hn1 : 1 ≤ n) (hn : n ≤ 8) (hM : M ≤ 4) (ht : t < 4) (hm : ∀ k, k < 8 → m k = mN k ∧ mN k ≤ 100) (hN : N < 2 ^ 30) : ∀ r0 r v, r + r0 = N → FM v cl ld n → (∀ k, k < 8 → v.2 67 (60 * t + k) = lN (mN k)) → FW v n (M + 1) (bsw (Uw cl ld m n (M + 1)) r) → ∃ v', pb_run T_X12_weights (165, [some (.ref 64), some (.int (nI n)), some (.int (nI M)), some (.int (nI t)), some (.int (nI N)), some (.int (encW (bsw (Uw cl ld m n (M + 1)) r))), some (.int (nI r)), none, none, none], [], v) = some (some (.int (encW (bsw (Uw cl ld m n (M + 1)) N))), pb_wI (pb_wI v' 64 97 (nI n)) 64 0 0) ∧ FW v' n (M + 1) (bsw (Uw cl ld m n (M + 1)) N) ∧ fr fI_wm fJ_no v v' := by
  have Lb : ∀ r k, k < 8 → -200 ≤ La cl ld m n (M + 1) r n k ∧ La cl ld m n (M + 1) r n k ≤ 200 := fun r k hk => by
    have a := La_b (cl := cl) (ld := ld) (m := m) (n := n) hM r n k
    have b := hm k hk
    omega
  have hU : ∀ r, 0 ≤ Uw cl ld m n (M + 1) r ∧ Uw cl ld m n (M + 1) r ≤ 1600 := fun r => ap8_b (Lb r)
  intro r0
  induction r0 with
  | zero =>
    intro r v hr hF h67 hW
    have hr : r = N := by omega
    subst hr
    refine ⟨v, ?_, hW, fr_rf v⟩
    rw [r_X12_weights_165, if_neg (show ¬ nI r < nI r from nI_nlt (Nat.le_refl _) (by omega)), ite_gv]
  | succ r0 ih =>
    intro r v hr hF h67 hW
    have eb : nI n - (1 : Int32) = iI ((n : Int) - 1) := by rw [iI_n (by omega), show (1 : Int32) = iI 1 from rfl, iI_sub]
    obtain ⟨v1, a1, a2, a3⟩ := mx_181 (n := n) (M := M) (r0 := r) hn hM (by omega) (nI t) (nI N) (encW (bsw (Uw cl ld m n (M + 1)) r)) n v (Nat.le_refl n) (fun g h1 h2 => by omega)
    rw [Nat.sub_self, Nat.pow_zero, Nat.div_one] at a1
    obtain ⟨v2, b1, b2, b3⟩ := mx_216 (nI n) (nI M) (nI t) (nI N) (encW (bsw (Uw cl ld m n (M + 1)) r)) (nI r) 8 0 v1 (by omega) (fun j hj => absurd hj (Nat.not_lt_zero j))
    have F2 : fr fI_wm fJ_no v v2 := fr_tr (fr_mn a3 (fun c k q => Or.inl q) (fun c k q => q)) (fr_mn b3 (fun c k q => Or.inr (Or.inr q)) (fun c k q => q))
    obtain ⟨v3, c1, c2, c3⟩ := mx_240 (cl := cl) (ld := ld) (m := m) (n := n) (M := M) (r0 := r) hn hM (nI M) (nI t) (nI N) (encW (bsw (Uw cl ld m n (M + 1)) r)) (nI r) n 0 v2 (by omega) (fun f hf => by
      rw [F2.1 68 f (by simp [fI_wm]), F2.1 69 f (by simp [fI_wm])]
      exact hF f hf) (fun g hg => (b3.1 125 g (by simp)).trans (a2 g hg)) (fun k hk => by
      rw [b2 k hk, La, Int.sub_self]
      rfl)
    have F3 : fr fI_wm fJ_no v v3 := fr_tr F2 (fr_mn c3 (fun c k q => Or.inr (Or.inr q)) (fun c k q => q))
    have e125 : ∀ g, g < n → v3.1 125 g = nI (dig n (M + 1) g r) := fun g hg => (c3.1 125 g (by simp)).trans ((b3.1 125 g (by simp)).trans (a2 g hg))
    have d1 := mx_304 (L := La cl ld m n (M + 1) r n) (m := m) (mN := mN) (t := t) ht hm (Lb r) (nI n) (nI M) (nI N) (encW (bsw (Uw cl ld m n (M + 1)) r)) (nI r) (v := v3) (fun k hk => by rw [F3.2 67 _ id]; exact h67 k hk) c2 8 0 (by omega)
    have hF3 : FM v3 cl ld n := fun f hf => by
      rw [F3.1 68 f (by simp [fI_wm]), F3.1 69 f (by simp [fI_wm])]
      exact hF f hf
    have h673 : ∀ k, k < 8 → v3.2 67 (60 * t + k) = lN (mN k) := fun k hk => by rw [F3.2 67 _ id]; exact h67 k hk
    have ih0 := ih (r + 1)
    have ub := hU r
    have take : bsw (Uw cl ld m n (M + 1)) (r + 1) = some (Uw cl ld m n (M + 1) r, r) → ∃ v', pb_run T_X12_weights (369, [some (.ref 64), some (.int (nI n)), some (.int (nI M)), some (.int (nI t)), some (.int (nI N)), some (.int (iI (ap8 (La cl ld m n (M + 1) r n)))), some (.int (nI r)), none, none, some (.int (0 : Int32))], [], v3) = some (some (.int (encW (bsw (Uw cl ld m n (M + 1)) N))), pb_wI (pb_wI v' 64 97 (nI n)) 64 0 0) ∧ FW v' n (M + 1) (bsw (Uw cl ld m n (M + 1)) N) ∧ fr fI_wm fJ_no v v' := by
      intro e
      obtain ⟨v4, f1, f2, f3⟩ := mx_369 hn (nI M) (nI t) (nI N) (iI (ap8 (La cl ld m n (M + 1) r n))) (nI r) n 0 v3 (by omega) (fun g hg => absurd hg (Nat.not_lt_zero g))
      have F4 : fr fI_wm fJ_no v v4 := fr_tr F3 (fr_mn f3 (fun c k q => Or.inr (Or.inl q)) (fun c k q => q))
      obtain ⟨v', g1, g2, g3⟩ := ih0 v4 (by omega) (fun f hf => by
        rw [F4.1 68 f (by simp [fI_wm]), F4.1 69 f (by simp [fI_wm])]
        exact hF f hf) (fun k hk => by rw [F4.2 67 _ id]; exact h67 k hk) (by
        rw [e]
        intro g hg
        rw [f2 g hg, e125 g hg])
      refine ⟨v', ?_, g2, fr_tr F4 g3⟩
      rw [e] at g1
      rw [nI_1] at f1
      exact f1.trans g1
    have keep : bsw (Uw cl ld m n (M + 1)) (r + 1) = bsw (Uw cl ld m n (M + 1)) r → ∃ v', pb_run T_X12_weights (165, [some (.ref 64), some (.int (nI n)), some (.int (nI M)), some (.int (nI t)), some (.int (nI N)), some (.int (encW (bsw (Uw cl ld m n (M + 1)) r))), some (.int (nI r + (1 : Int32))), none, none, none], [], v3) = some (some (.int (encW (bsw (Uw cl ld m n (M + 1)) N))), pb_wI (pb_wI v' 64 97 (nI n)) 64 0 0) ∧ FW v' n (M + 1) (bsw (Uw cl ld m n (M + 1)) N) ∧ fr fI_wm fJ_no v v' := by
      intro e
      have e126 : ∀ g, v3.1 126 g = v.1 126 g := fun g => (c3.1 126 g (by simp)).trans ((b3.1 126 g (by simp)).trans (a3.1 126 g (by simp)))
      rw [e] at ih0
      obtain ⟨v', g1, g2, g3⟩ := ih0 v3 (by omega) hF3 h673 (by
        cases q : bsw (Uw cl ld m n (M + 1)) r with
        | none => exact trivial
        | some b =>
          rw [q] at hW
          intro g hg
          rw [e126 g]
          exact hW g hg)
      rw [nI_1]
      exact ⟨v', g1, g2, fr_tr F3 g3⟩
    rw [r_X12_weights_165, if_pos (show nI r < nI N from nI_lt (by omega) (by omega)), eb]
    have D : pb_run T_X12_weights (181, [some (.ref 64), some (.int (nI n)), some (.int (nI M)), some (.int (nI t)), some (.int (nI N)), some (.int (encW (bsw (Uw cl ld m n (M + 1)) r))), some (.int (nI r)), some (.int (nI r)), some (.int (iI ((n : Int) - 1))), none], [], v) = _ := a1.trans (b1.trans (c1.trans d1))
    rw [D]
    cases q : bsw (Uw cl ld m n (M + 1)) r with
    | none =>
      rw [if_pos (show encW none = (-1 : Int32) from rfl)]
      exact take (by rw [bsw, q])
    | some b =>
      have bb := bsw_b hU r b q
      have eb' : encW (some b) = iI b.1 := rfl
      rw [q] at keep
      rw [eb'] at keep ⊢
      rw [if_neg (show ¬ iI b.1 = (-1 : Int32) from fun z => by
        rw [show (-1 : Int32) = iI (-1) from rfl, iI_eq (by omega) (by omega) (by omega) (by omega)] at z
        omega)]
      have lt : iI (ap8 (La cl ld m n (M + 1) r n)) < iI b.1 ↔ Uw cl ld m n (M + 1) r < b.1 := iI_lt (show -2 ^ 31 ≤ Uw cl ld m n (M + 1) r by omega) (show Uw cl ld m n (M + 1) r < 2 ^ 31 by omega) (by omega) (by omega)
      by_cases z : Uw cl ld m n (M + 1) r < b.1
      · rw [if_pos (lt.mpr z)]
        refine take ?_
        rw [bsw, q]
        exact if_pos z
      · rw [if_neg (fun y => z (lt.mp y))]
        refine keep ?_
        rw [bsw, q]
        exact if_neg z
