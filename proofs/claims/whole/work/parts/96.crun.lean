/-! ===== READER: on from token to token ===== -/
theorem tk_mode {b : pb_W} {T : Nat → Int32} {n e : Nat} {A WT : Nat → Int32} {CD : Nat → Int64} {v : Int64} {md : Nat} (hT : CT T n e A v) (h7 : A 7 = nI md) (hmd : md ≤ 7) (hk : tK T n e < 2 ^ 31) (h16 : tK T n e ≠ 16) : M_X5_takeToken [.ref 21] (qw b A WT CD v) = pb_bV (if md = 0 then M_X5_takeAtRule [.ref 21] (qw b A WT CD v) else if md = 1 ∨ md = 2 then M_X5_takeAtOne [.ref 21] (qw b A WT CD v) else if md = 3 then M_X5_takeName [.ref 21] (qw b A WT CD v) else if md = 4 then M_X5_takeBehindOne [.ref 21] (qw b A WT CD v) else if md = 5 then M_X5_takeBehindThen [.ref 21] (qw b A WT CD v) else if md = 6 then M_X5_takeAtom [.ref 21] (qw b A WT CD v) else M_X5_takeBehindAtom [.ref 21] (qw b A WT CD v)) fun w => some (none, w) := by
  have e3 : (qw b A WT CD v).1 21 3 = nI (tK T n e) := hT.1
  have e7 : (qw b A WT CD v).1 21 7 = nI md := h7
  rw [e_X5_takeToken, e3, if_neg (show ¬ nI (tK T n e) = (16 : Int32) from fun y => h16 ((nI_eq (b := 16) hk (by decide)).mp y)), e7]
  have : md = 0 ∨ md = 1 ∨ md = 2 ∨ md = 3 ∨ md = 4 ∨ md = 5 ∨ md = 6 ∨ md = 7 := by omega
  rcases this with q | q | q | q | q | q | q | q <;> subst q <;> rfl
theorem tk_unk {b : pb_W} {T : Nat → Int32} {n e : Nat} {A WT : Nat → Int32} {CD : Nat → Int64} {v : Int64} (hT : CT T n e A v) (h16 : tK T n e = 16) : TF b T n e (M_X5_takeToken [.ref 21] (qw b A WT CD v)) 1 := by
  rw [e_X5_takeToken, show (qw b A WT CD v).1 21 3 = nI (tK T n e) from hT.1, h16, if_pos (show nI 16 = (16 : Int32) from rfl)]
  exact tk_fail hT 1
/-- a state of the class's reading -/
def CW (b : pb_W) (T : Nat → Int32) (n e : Nat) (w : pb_W) (md : Nat) (su br te : Int32) (s : List Nat) (c : List Int64) (ru : Nat) : Prop := ∃ A WT CD v, w = qw b A WT CD v ∧ CT T n e A v ∧ CB n A WT CD md su br te s c ru
def Fail (b : pb_W) (r : Option pb_R) (k p : Nat) : Prop := ∃ A WT CD v, r = some (some (.int 0), qw b A WT CD v) ∧ A 16 = nI k ∧ A 17 = nI p ∧ A 18 = 0 ∧ A 15 = 1 ∧ A 1 = 0
def Done (b : pb_W) (r : Option pb_R) (c : List Int64) (ru : Nat) : Prop := ∃ A WT CD v, r = some (some (.int 1), qw b A WT CD v) ∧ SC A CD c ∧ A 16 = 0 ∧ A 17 = -1 ∧ A 18 = nI ru ∧ A 15 = 1 ∧ A 1 = 0
theorem crun_fail {b : pb_W} {T : Nat → Int32} {n e i k : Nat} {w : pb_W} (hk0 : k ≠ 0) (hk : k < 100) (h : TF b T n e (M_X5_takeToken [.ref 21] w) k) : Fail b (crun i w) k (tS T n e) := by
  obtain ⟨A, WT, CD, v, y1, y2, y3⟩ := h
  have ne : ¬ nI k = (0 : Int32) := nI_ne0 (by omega) (by omega)
  refine ⟨upd (upd (upd A 18 0) 15 1) 1 0, WT, CD, v, ?_, y2, y3, rfl, rfl, rfl⟩
  unfold crun
  rw [y1, pb_bV_some, show (qw b A WT CD v).1 21 16 = nI k from y2, if_neg ne, rd_end, show (qw b A WT CD v).1 21 16 = nI k from y2, if_neg ne, qw_A, show (qw b (upd A 18 (0 : Int32)) WT CD v).1 21 16 = nI k from y2, if_neg ne, qw_A, qw_A]
theorem tok_adv {T : Nat → Int32} {n e : Nat} (he : e ≤ n) : tE T n e ≤ n ∨ tK T n e = 15 := by
  have S := adv_le isWs T n (n - e) e
  have s2 : tS T n e ≤ n := S.2.1 he
  unfold tE tK
  by_cases q : n ≤ tS T n e
  · rw [ite_p q, ite_p q]
    exact Or.inr rfl
  · rw [ite_n q, ite_n q]
    by_cases le : isLe (T (tS T n e))
    · rw [ite_p le, ite_p le]
      exact Or.inl ((adv_le isLe T n (n - tS T n e) (tS T n e)).2.1 (by omega))
    · rw [ite_n le, ite_n le]
      by_cases di : isDi (T (tS T n e))
      · rw [ite_p di, ite_p di]
        exact Or.inl ((adv_le isDi T n (n - tS T n e) (tS T n e)).2.1 (by omega))
      · rw [ite_n di, ite_n di]
        exact Or.inl (by omega)
theorem tok_up {T : Nat → Int32} {n e : Nat} (he : e ≤ n) (h : tK T n e ≠ 15) : e < tE T n e ∧ tE T n e ≤ n ∧ e < n := by
  have S := adv_le isWs T n (n - e) e
  have s1 : e ≤ tS T n e := S.1
  have s2 : tS T n e ≤ n := S.2.1 he
  have en := (tok_adv (T := T) he).resolve_right h
  have q : ¬ n ≤ tS T n e := fun q => h (by unfold tK; rw [ite_p q])
  refine ⟨?_, en, by omega⟩
  unfold tE
  rw [ite_n q]
  by_cases le : isLe (T (tS T n e))
  · rw [ite_p le]
    unfold tL
    obtain ⟨f, hf⟩ : ∃ f, n - tS T n e = f + 1 := ⟨n - tS T n e - 1, by omega⟩
    rw [hf, adv_go ⟨by omega, le⟩]
    have := (adv_le isLe T n f (tS T n e + 1)).1
    omega
  · rw [ite_n le]
    by_cases di : isDi (T (tS T n e))
    · rw [ite_p di]
      unfold tL
      obtain ⟨f, hf⟩ : ∃ f, n - tS T n e = f + 1 := ⟨n - tS T n e - 1, by omega⟩
      rw [hf, adv_go ⟨by omega, di⟩]
      have := (adv_le isDi T n f (tS T n e + 1)).1
      omega
    · rw [ite_n di]
      omega
theorem tK_lt (T : Nat → Int32) (n e : Nat) : tK T n e < 100 := by
  unfold tK
  by_cases q : n ≤ tS T n e
  · rw [ite_p q]; omega
  · rw [ite_n q]
    by_cases le : isLe (T (tS T n e))
    · rw [ite_p le]
      have := kw_le (wls T (tS T n e) (tL isLe T n e - tS T n e))
      omega
    · rw [ite_n le]
      by_cases di : isDi (T (tS T n e))
      · rw [ite_p di]
        split <;> omega
      · rw [ite_n di]
        by_cases sg : (T (tS T n e)).toNatClampNeg ∈ sgnl
        · rw [if_pos sg]
          have : ∀ c, c ∈ sgnl → c < 100 := by decide
          exact this _ sg
        · rw [if_neg sg]; omega
theorem crun_go {b : pb_W} {T : Nat → Int32} {n e i : Nat} {w : pb_W} {md : Nat} {su br te : Int32} {s : List Nat} {c : List Int64} {ru : Nat} (hn : n ≤ 600) (hb22 : b.1 22 = T) (hb : ∀ k, bY (T k)) (he : e ≤ n) (hi : i ≤ e) (h15 : tK T n e ≠ 15) (h : TO b T n e (M_X5_takeToken [.ref 21] w) md su br te s c ru) : ∃ w', crun i w = crun (i + 1) w' ∧ CW b T n (tE T n e) w' md su br te s c ru ∧ i + 1 ≤ tE T n e ∧ tE T n e ≤ n := by
  obtain ⟨A, WT, CD, v, y1, yT, b2, b7, b8, b9, b14, bK, bC, b16, b17, b18⟩ := h
  obtain ⟨u1, u2, u3⟩ := tok_up he h15
  have kl := tK_lt T n e
  obtain ⟨v', z1, z2, z3⟩ := cx_next (b := qw b A WT CD v) hn b2 hb22 hb (A 3) (A 4) v u2
  have E : M_X5_nextToken [.ref 21] (qw b A WT CD v) = some (none, qw b (upd (upd (upd A 3 (nI (tK T n (tE T n e)))) 4 (nI (tS T n (tE T n e)))) 5 (nI (tE T n (tE T n e)))) WT CD v') := by
    rw [qw_self b A WT CD v, yT.2.2.1, z1, qw_r]
  refine ⟨qw b (upd (upd (upd A 3 (nI (tK T n (tE T n e)))) 4 (nI (tS T n (tE T n e)))) 5 (nI (tE T n (tE T n e)))) WT CD v', ?_, ⟨upd (upd (upd A 3 (nI (tK T n (tE T n e)))) 4 (nI (tS T n (tE T n e)))) 5 (nI (tE T n (tE T n e))), WT, CD, v', rfl, ⟨rfl, rfl, rfl, z2, z3⟩, b2, b7, b8, b9, b14, SK_A bK rfl, SC_A bC rfl, b16, b17, b18⟩, by omega, u2⟩
  show crun i w = crun (i + 1) (qw b (upd (upd (upd A 3 (nI (tK T n (tE T n e)))) 4 (nI (tS T n (tE T n e)))) 5 (nI (tE T n (tE T n e)))) WT CD v')
  rw [← rd_50 (by omega) E]
  unfold crun
  rw [y1, pb_bV_some, show (qw b A WT CD v).1 21 16 = 0 from b16, if_pos rfl, show (qw b A WT CD v).1 21 3 = nI (tK T n e) from yT.1, if_neg (show ¬ nI (tK T n e) = (15 : Int32) from fun y => h15 ((nI_eq (b := 15) (by omega) (by decide)).mp y))]
theorem crun_end {b : pb_W} {T : Nat → Int32} {n e i : Nat} {w : pb_W} {md : Nat} {su br te : Int32} {s : List Nat} {c : List Int64} {ru : Nat} (h15 : tK T n e = 15) (h : TO b T n e (M_X5_takeToken [.ref 21] w) md su br te s c ru) : Done b (crun i w) c ru := by
  obtain ⟨A, WT, CD, v, y1, yT, b2, b7, b8, b9, b14, bK, bC, b16, b17, b18⟩ := h
  refine ⟨upd (upd A 15 1) 1 0, WT, CD, v, ?_, SC_A bC rfl, b16, b17, b18, rfl, rfl⟩
  unfold crun
  rw [y1, pb_bV_some, show (qw b A WT CD v).1 21 16 = 0 from b16, if_pos rfl, show (qw b A WT CD v).1 21 3 = nI (tK T n e) from yT.1, h15, if_pos (show nI 15 = (15 : Int32) from rfl), rd_end, show (qw b A WT CD v).1 21 16 = 0 from b16, if_pos rfl, qw_A, qw_A]
/-! what the stack releases -/
theorem rl_app {m : Nat} : ∀ (p t : List Nat), (∀ x, x ∈ p → m ≤ x / 10) → rlk m (p ++ t) = rlk m t ∧ rlo m (p ++ t) = p ++ rlo m t
  | [], t, _ => ⟨rfl, rfl⟩
  | x :: p, t, h => by
    obtain ⟨a, b⟩ := rl_app p t (fun y hy => h y (by simp [hy]))
    rw [List.cons_append, rlk, rlo, if_pos (h x (by simp)), if_pos (h x (by simp)), a, b]
    exact ⟨rfl, rfl⟩
theorem rl_stop {m : Nat} {x : Nat} {t : List Nat} (h : x / 10 < m) : rlk m (x :: t) = x :: t ∧ rlo m (x :: t) = [] := by
  rw [rlk, rlo, if_neg (by omega), if_neg (by omega)]
  exact ⟨rfl, rfl⟩
def itm (i : Nat) : List Nat := if i = 0 then [] else [opc i]
/-- the levels of brackets, the deepest first; what waits there -/
def stkL : List (Nat × Nat) → List Nat
  | [] => []
  | [(a, i)] => itm i ++ itm a
  | (a, i) :: r :: rest => itm i ++ itm a ++ 0 :: stkL (r :: rest)
def lvok (l : List (Nat × Nat)) : Prop := ∀ p, p ∈ l → (p.1 = 0 ∨ p.1 = 43 ∨ p.1 = 45) ∧ (p.2 = 0 ∨ p.2 = 42 ∨ p.2 = 47)
theorem itm_i {i : Nat} (h : i = 0 ∨ i = 42 ∨ i = 47) : (∀ x, x ∈ itm i → 6 ≤ x / 10 ∧ x < 100 ∧ x ≠ 0) ∧ (itm i).length ≤ 1 := by
  unfold itm opc
  rcases h with h | h | h <;> subst h <;> simp
theorem itm_a {a : Nat} (h : a = 0 ∨ a = 43 ∨ a = 45) : (∀ x, x ∈ itm a → 5 ≤ x / 10 ∧ x / 10 < 6 ∧ x < 100 ∧ x ≠ 0) ∧ (itm a).length ≤ 1 := by
  unfold itm opc
  rcases h with h | h | h <;> subst h <;> simp
theorem stkL_len : ∀ (l : List (Nat × Nat)), lvok l → (stkL l).length ≤ 3 * l.length ∧ ∀ x, x ∈ stkL l → x < 100
  | [], _ => ⟨Nat.le_refl 0, fun x hx => by simp [stkL] at hx⟩
  | [(a, i)], h => by
    obtain ⟨p1, p2⟩ := h (a, i) (by simp)
    obtain ⟨i1, i2⟩ := itm_i (i := i) p2
    obtain ⟨a1, a2⟩ := itm_a (a := a) p1
    rw [stkL, List.length_append]
    refine ⟨by rw [List.length_singleton]; omega, fun x hx => ?_⟩
    rw [List.mem_append] at hx
    rcases hx with q | q
    · exact (i1 x q).2.1
    · exact (a1 x q).2.2.1
  | (a, i) :: r :: rest, h => by
    obtain ⟨p1, p2⟩ := h (a, i) (by simp)
    obtain ⟨i1, i2⟩ := itm_i (i := i) p2
    obtain ⟨a1, a2⟩ := itm_a (a := a) p1
    obtain ⟨q1, q2⟩ := stkL_len (r :: rest) (fun p hp => h p (by simp only [List.mem_cons] at hp ⊢; exact Or.inr hp))
    rw [stkL, List.length_append, List.length_append, List.length_cons, List.length_cons]
    refine ⟨by omega, fun x hx => ?_⟩
    rw [List.mem_append, List.mem_append, List.mem_cons] at hx
    rcases hx with (q | q) | q | q
    · exact (i1 x q).2.1
    · exact (a1 x q).2.2.1
    · omega
    · exact q2 x q
