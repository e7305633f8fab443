/-! ===== READER: the class's world while it reads ===== -/
def qw (b : pb_W) (A WT : Nat → Int32) (CD : Nat → Int64) (v : Int64) : pb_W := pb_wL (pb_wG (pb_wF (pb_wF b 21 A) 23 WT) 24 CD) 21 6 v
theorem qw_A (b : pb_W) (A WT : Nat → Int32) (CD : Nat → Int64) (v : Int64) (k : Nat) (x : Int32) : pb_wI (qw b A WT CD v) 21 k x = qw b (upd A k x) WT CD v := by
  refine Prod.ext (funext fun d => ?_) rfl
  by_cases d1 : d = 21
  · subst d1; rfl
  · simp [qw, pw_I1, pw_F1, pw_L1, pw_G1, d1]
theorem qw_W (b : pb_W) (A WT : Nat → Int32) (CD : Nat → Int64) (v : Int64) (k : Nat) (x : Int32) : pb_wI (qw b A WT CD v) 23 k x = qw b A (upd WT k x) CD v := by
  refine Prod.ext (funext fun d => ?_) rfl
  by_cases d1 : d = 23
  · subst d1; rfl
  · simp [qw, pw_I1, pw_F1, pw_L1, pw_G1, d1]
theorem qw_C (b : pb_W) (A WT : Nat → Int32) (CD : Nat → Int64) (v : Int64) (k : Nat) (x : Int64) : pb_wL (qw b A WT CD v) 24 k x = qw b A WT (vp_updL CD k x) v := by
  refine Prod.ext rfl (funext fun d => ?_)
  by_cases d1 : d = 24
  · subst d1; rfl
  · by_cases d2 : d = 21
    · subst d2; rfl
    · simp [qw, pw_L2, pw_G2, pw_F2, d1, d2]
theorem qw_r (b : pb_W) (A WT : Nat → Int32) (CD : Nat → Int64) (v : Int64) (tk st en : Int32) (v' : Int64) : rdr (qw b A WT CD v) tk st en v' = qw b (upd (upd (upd A 3 tk) 4 st) 5 en) WT CD v' := by
  unfold rdr
  rw [qw_A, qw_A, qw_A]
  refine Prod.ext rfl (funext fun d => funext fun k => ?_)
  by_cases d2 : d = 21
  · subst d2
    show (if k = 6 then v' else if k = 6 then v else b.2 21 k) = if k = 6 then v' else b.2 21 k
    by_cases q : k = 6
    · simp only [if_pos q]
    · simp only [if_neg q]
  · simp [qw, pw_L2, pw_G2, pw_F2, d2]
theorem qw_self (b : pb_W) (A WT : Nat → Int32) (CD : Nat → Int64) (v : Int64) : qw b A WT CD v = rdr (qw b A WT CD v) (A 3) (A 4) (A 5) v := by
  rw [qw_r]
  congr 1
  funext k
  rw [pu_at, pu_at, pu_at]
  by_cases q5 : k = 5
  · rw [if_pos q5, q5]
  · rw [if_neg q5]
    by_cases q4 : k = 4
    · rw [if_pos q4, q4]
    · rw [if_neg q4]
      by_cases q3 : k = 3
      · rw [if_pos q3, q3]
      · rw [if_neg q3]
/-- what waits, its top first; the code so far -/
def SK (A WT : Nat → Int32) (s : List Nat) : Prop := A 11 = nI s.length ∧ s.length ≤ 32 ∧ ∀ i, i < s.length → WT i = nI (s.reverse.getD i 0)
def SC (A : Nat → Int32) (CD : Nat → Int64) (c : List Int64) : Prop := A 13 = nI c.length ∧ c.length ≤ 600 ∧ ∀ i, i < c.length → CD i = c.getD i 0
theorem gL1 {α : Type} (l r : List α) (d : α) {j : Nat} (h : j < l.length) : (l ++ r).getD j d = l.getD j d := by rw [List.getD_eq_getElem?_getD, List.getD_eq_getElem?_getD, List.getElem?_append_left h]
theorem gL2 {α : Type} (l r : List α) (d : α) {j : Nat} (h : l.length ≤ j) : (l ++ r).getD j d = r.getD (j - l.length) d := by rw [List.getD_eq_getElem?_getD, List.getD_eq_getElem?_getD, List.getElem?_append_right h]
theorem SK_push {A WT : Nat → Int32} {s : List Nat} (h : SK A WT s) (hl : s.length < 32) (x : Nat) : SK (upd A 11 (nI (s.length + 1))) (upd WT s.length (nI x)) (x :: s) := by
  refine ⟨rfl, by rw [List.length_cons]; omega, fun i hi => ?_⟩
  rw [List.length_cons] at hi
  rw [List.reverse_cons, pu_at]
  by_cases q : i = s.length
  · rw [if_pos q, gL2 _ _ _ (by rw [List.length_reverse]; omega), List.length_reverse, show i - s.length = 0 by omega]
    rfl
  · rw [if_neg q, gL1 _ _ _ (by rw [List.length_reverse]; omega)]
    exact h.2.2 i (by omega)
theorem SK_pop {A WT : Nat → Int32} {s : List Nat} {x : Nat} (h : SK A WT (x :: s)) : WT s.length = nI x ∧ SK (upd A 11 (nI s.length)) WT s := by
  obtain ⟨h1, h2, h3⟩ := h
  rw [List.length_cons] at h1 h2 h3
  constructor
  · rw [h3 s.length (by omega), List.reverse_cons, gL2 _ _ _ (by rw [List.length_reverse]; omega), List.length_reverse, Nat.sub_self]
    rfl
  · refine ⟨rfl, by omega, fun i hi => ?_⟩
    rw [h3 i (by omega), List.reverse_cons, gL1 _ _ _ (by rw [List.length_reverse]; omega)]
theorem SC_push {A : Nat → Int32} {CD : Nat → Int64} {c : List Int64} (h : SC A CD c) (hl : c.length < 600) (x : Int64) : SC (upd A 13 (nI (c.length + 1))) (vp_updL CD c.length x) (c ++ [x]) := by
  refine ⟨by rw [List.length_append, List.length_singleton]; rfl, by rw [List.length_append, List.length_singleton]; omega, fun i hi => ?_⟩
  rw [List.length_append, List.length_singleton] at hi
  rw [pu_atL]
  by_cases q : i = c.length
  · rw [if_pos q, gL2 _ _ _ (by omega), show i - c.length = 0 by omega]
    rfl
  · rw [if_neg q, gL1 _ _ _ (by omega)]
    exact h.2.2 i (by omega)
theorem SC_A {A A' : Nat → Int32} {CD : Nat → Int64} {c : List Int64} (h : SC A CD c) (e : A' 13 = A 13) : SC A' CD c := ⟨e.trans h.1, h.2⟩
theorem SK_A {A A' WT : Nat → Int32} {s : List Nat} (h : SK A WT s) (e : A' 11 = A 11) : SK A' WT s := ⟨e.trans h.1, h.2⟩
/-- a step of the code -/
def stp (s m : Nat) : Int64 := lN (m * 256 + s)
theorem M_emit {b : pb_W} {A WT : Nat → Int32} {CD : Nat → Int64} {v : Int64} {c : List Int64} (h : SC A CD c) (hl : c.length < 600) {s m : Nat} (hs : s < 256) (hm : m < 2 ^ 50) : M_X5_emit [.ref 21, .int (nI s), .long (lN m)] (qw b A WT CD v) = some (none, qw b (upd A 13 (nI (c.length + 1))) WT (vp_updL CD c.length (stp s m)) v) := by
  have e : lN m <<< (((8 : Int32)).toInt64 &&& 63) ||| (nI s).toInt64 = stp s m := by
    have o := Nat.two_pow_add_eq_or_of_lt (i := 8) (show s < 2 ^ 8 from hs) m
    rw [show ((8 : Int32)).toInt64 &&& 63 = (nI 8).toInt64 &&& 63 from rfl, wb_shl _ (by decide), nI_to64 (by omega), wb_or (by omega) (by omega), Nat.mul_comm m, ← o]
    unfold stp
    rw [Nat.mul_comm m 256]
  rw [e_X5_emit, show (qw b A WT CD v).1 21 13 = nI c.length from h.1, if_pos (show nI c.length < (600 : Int32) from nI_lt (b := 600) hl (by decide)), if_pos (pn_in hl (by decide)), nI_clamp (show c.length < 2 ^ 31 by omega), nI_1, e, qw_C, qw_A]
theorem M_hold {b : pb_W} {A WT : Nat → Int32} {CD : Nat → Int64} {v : Int64} {s : List Nat} (h : SK A WT s) (hl : s.length < 32) (x : Int32) : M_X5_hold [.ref 21, .int x] (qw b A WT CD v) = some (none, qw b (upd A 11 (nI (s.length + 1))) (upd WT s.length x) CD v) := by
  rw [e_X5_hold, show (qw b A WT CD v).1 21 11 = nI s.length from h.1, if_pos (show nI s.length < (32 : Int32) from nI_lt (b := 32) hl (by decide)), if_pos (pn_in hl (by decide)), nI_clamp (show s.length < 2 ^ 31 by omega), nI_1, qw_W, qw_A]
/-- what is released, and what stays -/
def rlk (n : Nat) : List Nat → List Nat
  | [] => []
  | x :: s => if n ≤ x / 10 then rlk n s else x :: s
def rlo (n : Nat) : List Nat → List Nat
  | [] => []
  | x :: s => if n ≤ x / 10 then x :: rlo n s else []
theorem M_release {b : pb_W} {v : Int64} {n : Nat} (hn : n ≤ 10) : ∀ (s : List Nat) (A WT : Nat → Int32) (CD : Nat → Int64) (c : List Int64), SK A WT s → SC A CD c → (∀ x, x ∈ s → x < 100) → c.length + (rlo n s).length ≤ 600 → ∃ A' WT' CD', pb_run T_X5_release (0, [some (.ref 21), some (.int (nI n))], [], qw b A WT CD v) = some (none, qw b A' WT' CD' v) ∧ SK A' WT' (rlk n s) ∧ SC A' CD' (c ++ (rlo n s).map (fun x => stp x 0)) ∧ ∀ k, k ≠ 11 → k ≠ 13 → A' k = A k := by
  intro s
  induction s with
  | nil =>
    intro A WT CD c hK hC _ _
    refine ⟨A, WT, CD, ?_, hK, by simpa [rlo] using hC, fun k _ _ => rfl⟩
    rw [r_X5_release_0, show (qw b A WT CD v).1 21 11 = nI 0 from hK.1, if_neg (show ¬ (0 : Int32) < nI 0 by decide)]
  | cons x s ih =>
    intro A WT CD c hK hC hx hl
    obtain ⟨p1, p2⟩ := SK_pop hK
    have x1 := hx x (by simp)
    have l32 : s.length + 1 ≤ 32 := by have := hK.2.1; rw [List.length_cons] at this; exact this
    have e11 : (qw b A WT CD v).1 21 11 = nI (s.length + 1) := by have := hK.1; rw [List.length_cons] at this; exact this
    have em : nI (s.length + 1) - (1 : Int32) = nI s.length := by
      rw [show nI (s.length + 1) - (1 : Int32) = nI (s.length + 1 - 1) from nI_subN (b := 1) (by omega)]
      congr 1
    have ed : nI x / (10 : Int32) = nI (x / 10) := by rw [show (10 : Int32) = nI 10 from rfl, pk_div (by omega) (by decide) (by decide)]
    rw [r_X5_release_0, e11, if_pos (show (0 : Int32) < nI (s.length + 1) from nI_lt (a := 0) (by omega) (by omega)), em, if_pos (pn_in (show s.length < 32 by omega) (by decide)), nI_clamp (show s.length < 2 ^ 31 by omega), show (qw b A WT CD v).1 23 s.length = nI x from p1, e_X0_bindingOf, pb_bI_some, ed, e11, em, if_pos (pn_in (show s.length < 32 by omega) (by decide)), nI_clamp (show s.length < 2 ^ 31 by omega), show (qw b A WT CD v).1 23 s.length = nI x from p1, qw_A, ite_lt (by omega) (by omega)]
    rw [rlk, rlo]
    rw [rlo] at hl
    by_cases q : n ≤ x / 10
    · rw [if_pos q, if_pos q, if_neg (by omega)]
      rw [if_pos q, List.length_cons] at hl
      have hC' : SC (upd A 11 (nI s.length)) CD c := SC_A hC rfl
      rw [show (0 : Int64) = lN 0 from rfl, M_emit hC' (by omega) (by omega) (by decide), pb_bV_some]
      obtain ⟨A', WT', CD', y1, y2, y3, y4⟩ := ih (upd (upd A 11 (nI s.length)) 13 (nI (c.length + 1))) WT (vp_updL CD c.length (stp x 0)) (c ++ [stp x 0]) (SK_A p2 rfl) (SC_push hC' (by omega) (stp x 0)) (fun y hy => hx y (by simp [hy])) (by rw [List.length_append, List.length_singleton]; omega)
      refine ⟨A', WT', CD', y1, y2, ?_, fun k k1 k2 => ?_⟩
      · rw [List.map_cons]
        simpa [List.append_assoc] using y3
      · rw [y4 k k1 k2, pu_at, if_neg k2, pu_at, if_neg k1]
    · rw [if_neg q, if_neg q, if_pos (by omega)]
      exact ⟨A, WT, CD, rfl, hK, by simpa using hC, fun k _ _ => rfl⟩
theorem M_rel {b : pb_W} {v : Int64} {n : Nat} (hn : n ≤ 10) {s : List Nat} {A WT : Nat → Int32} {CD : Nat → Int64} {c : List Int64} (hK : SK A WT s) (hC : SC A CD c) (hx : ∀ x, x ∈ s → x < 100) (hl : c.length + (rlo n s).length ≤ 600) : ∃ A' WT' CD', M_X5_release [.ref 21, .int (nI n)] (qw b A WT CD v) = some (none, qw b A' WT' CD' v) ∧ SK A' WT' (rlk n s) ∧ SC A' CD' (c ++ (rlo n s).map (fun x => stp x 0)) ∧ ∀ k, k ≠ 11 → k ≠ 13 → A' k = A k := by
  have := M_release (b := b) (v := v) hn s A WT CD c hK hC hx hl
  rw [e_X5_release, ← r_X5_release_0]
  exact this
theorem rlo_le (n : Nat) : ∀ s : List Nat, (rlo n s).length ≤ s.length
  | [] => Nat.le_refl 0
  | x :: s => by
    have := rlo_le n s
    rw [rlo]
    split
    · rw [List.length_cons, List.length_cons]; omega
    · exact Nat.zero_le _
/-- the rest of the reading, from behind a nextToken -/
noncomputable def crun (i : Nat) (w : pb_W) : Option pb_R := pb_bV (M_X5_takeToken [.ref 21] w) fun w2 => (if (w2.1 21 16) = 0 then (if (w2.1 21 3) = (15 : Int32) then (pb_run T_X5_readText (50, [some (.ref 21), none, some (.int (0 : Int32)), some (.int (nI (i + 1)))], [], w2)) else (pb_run T_X5_readText (50, [some (.ref 21), none, some (.int (1 : Int32)), some (.int (nI (i + 1)))], [], w2))) else (pb_run T_X5_readText (50, [some (.ref 21), none, some (.int (0 : Int32)), some (.int (nI (i + 1)))], [], w2)))
theorem rd_50 {i : Nat} (hi : i ≤ 600) {w w1 : pb_W} (h : M_X5_nextToken [.ref 21] w = some (none, w1)) : pb_run T_X5_readText (50, [some (.ref 21), none, some (.int (1 : Int32)), some (.int (nI i))], [], w) = crun i w1 := by
  rw [r_X5_readText_50, if_neg (show ¬ (600 : Int32) < nI i from nI_nlt (a := 600) hi (by decide)), if_neg (show ¬ (1 : Int32) = 0 by decide), h, pb_bV_some, nI_1]
  rfl
theorem rd_end {i : Nat} (w : pb_W) : pb_run T_X5_readText (50, [some (.ref 21), none, some (.int (0 : Int32)), some (.int (nI i))], [], w) = if w.1 21 16 = 0 then some (some (.int (1 : Int32)), pb_wI (pb_wI w 21 15 (1 : Int32)) 21 1 (0 : Int32)) else (if (pb_wI w 21 18 (0 : Int32)).1 21 16 = 0 then some (some (.int (1 : Int32)), pb_wI (pb_wI (pb_wI w 21 18 (0 : Int32)) 21 15 (1 : Int32)) 21 1 (0 : Int32)) else some (some (.int (0 : Int32)), pb_wI (pb_wI (pb_wI w 21 18 (0 : Int32)) 21 15 (1 : Int32)) 21 1 (0 : Int32))) := by
  rw [r_X5_readText_50]
  simp only [r_X5_readText_109, if_pos (show (0 : Int32) = 0 from rfl), if_true, ite_true, ite_self]
  by_cases q : w.1 21 16 = 0
  · simp only [if_pos q]
  · simp only [if_neg q]
