/-! ===== READER: one comparison, word or came, in step ===== -/
abbrev On : Type := Nat × Nat × Nat × List (Nat × Nat) × Nat × List (Nat × Nat) × Nat
def o_beg (o : On) : Nat := o.1
def o_neg (o : On) : Nat := o.2.1
def o_kind (o : On) : Nat := o.2.2.1
def o_l (o : On) : List (Nat × Nat) := o.2.2.2.1
def o_cm (o : On) : Nat := o.2.2.2.2.1
def o_r (o : On) : List (Nat × Nat) := o.2.2.2.2.2.1
def o_wd (o : On) : Nat := o.2.2.2.2.2.2
def ng (k : Nat) : List Nat := if k = 1 then [30] else []
def st0 (x : Nat) : Int64 := stp x 0
/-- the code of one -/
def bod (o : On) : List Int64 := (if o_kind o = 1 then [stp 6 (o_wd o)] else if o_kind o = 2 then [stp 7 0] else (o_l o).map ic ++ (o_r o).map ic ++ [st0 (cmpc (o_cm o))]) ++ (ng (o_neg o)).map st0
/-- behind one: what is left of its code waits -/
def BO (cb : pb_W) (T : Nat → Int32) (n e : Nat) (w : pb_W) (bs : List Nat) (C : List Int64) (o : On) (ru : Nat) : Prop := ∃ (md : Nat) (su br te : Int32) (ps : List Nat) (c : List Int64), CW cb T n e w md su br te (ps ++ bs) (C ++ c) ru ∧ (md = 4 ∨ (md = 7 ∧ su = 1 ∧ br = 0 ∧ notOp (tK T n e))) ∧ (∀ x, x ∈ ps → 3 ≤ x / 10 ∧ x < 100) ∧ c ++ ps.map st0 = bod o ∧ ps.length ≤ 8
theorem tk_m4 {b : pb_W} {T : Nat → Int32} {n e : Nat} {A WT : Nat → Int32} {CD : Nat → Int64} {v : Int64} (hT : CT T n e A v) (h7 : A 7 = nI 4) (h16 : tK T n e ≠ 16) : M_X5_takeToken [.ref 21] (qw b A WT CD v) = pb_bV (M_X5_takeBehindOne [.ref 21] (qw b A WT CD v)) fun w => some (none, w) := tk_mode hT h7 (by decide) (tk_lt_of T n e) h16
theorem bo_tok {cb : pb_W} {T : Nat → Int32} {n e : Nat} {A WT : Nat → Int32} {CD : Nat → Int64} {v : Int64} {md : Nat} {su br : Int32} (hT : CT T n e A v) (h7 : A 7 = nI md) (h8 : A 8 = su) (h9 : A 9 = br) (hm : md = 4 ∨ (md = 7 ∧ su = 1 ∧ br = 0 ∧ notOp (tK T n e))) (h16 : tK T n e ≠ 16) (hr : ∃ w, M_X5_takeBehindOne [.ref 21] (qw cb A WT CD v) = some (none, w)) : M_X5_takeToken [.ref 21] (qw cb A WT CD v) = M_X5_takeBehindOne [.ref 21] (qw cb A WT CD v) := by
  rcases hm with q | ⟨q, q1, q0, qn⟩
  · subst q
    rw [tk_m4 hT h7 h16]
    exact bV_id _ hr
  · subst q
    rw [tk_m7 hT h7 h16, e_X5_takeBehindAtom, tk_noop hT (tk_lt_of T n e) qn, pb_bI_some, if_pos rfl, show (qw cb A WT CD v).1 21 9 = 0 from h9.trans q0, if_neg (show ¬ (0 : Int32) < 0 by decide), show (qw cb A WT CD v).1 21 8 = 1 from h8.trans q1, if_neg (show ¬ (1 : Int32) = 0 by decide), if_pos rfl]
    rw [bV_id _ hr]
    exact bV_id _ hr
theorem ps_rel {ps bs : List Nat} {m : Nat} (hm : m ≤ 3) (hp : ∀ x, x ∈ ps → 3 ≤ x / 10 ∧ x < 100) : rlk m (ps ++ bs) = rlk m bs ∧ rlo m (ps ++ bs) = ps ++ rlo m bs := rl_app ps bs (fun x hx => by have := (hp x hx).1; omega)
/-- behind one, the next token -/
theorem bo_step {cb : pb_W} {T : Nat → Int32} {n e i : Nat} {w : pb_W} {bs : List Nat} {C : List Int64} {o : On} {ru : Nat} (hn : n ≤ 600) (hc22 : cb.1 22 = T) (hb : ∀ k, bY (T k)) (he : e ≤ n) (hi : i ≤ e) (hbs : ∀ x, x ∈ bs → x < 100) (hbl : bs.length ≤ 4) (hpot : C.length + (bod o).length + bs.length ≤ e) (h : BO cb T n e w bs C o ru) :
    (tK T n e = 5 → ∃ w', crun i w = crun (i + 1) w' ∧ (∃ su br te, CW cb T n (tE T n e) w' 1 su br te (20 :: rlk 2 bs) (C ++ (bod o ++ (rlo 2 bs).map st0)) ru)) ∧
    (tK T n e = 4 → ∃ w', crun i w = crun (i + 1) w' ∧ (∃ su br te, CW cb T n (tE T n e) w' 1 su br te (10 :: rlk 1 bs) (C ++ (bod o ++ (rlo 1 bs).map st0)) ru)) ∧
    (tK T n e = 1 → ∃ w', crun i w = crun (i + 1) w' ∧ (∃ su br, CW cb T n (tE T n e) w' 5 su br (nI (C ++ (bod o ++ (rlo 0 bs).map st0)).length) (rlk 0 bs) (C ++ (bod o ++ (rlo 0 bs).map st0) ++ [stp 70 0]) ru)) ∧
    (tK T n e ≠ 5 → tK T n e ≠ 4 → tK T n e ≠ 1 → Fail cb (crun i w) (fk (tK T n e) 2) (tS T n e)) := by
  obtain ⟨md, su, br, te, ps, c, ⟨A, WT, CD, v, rfl, hT, hB⟩, hm, hp, hcb, hpl⟩ := h
  have klt := tK_lt T n e
  have hx : ∀ x, x ∈ ps ++ bs → x < 100 := by
    intro x hx
    rw [List.mem_append] at hx
    rcases hx with q | q
    · exact (hp x q).2
    · exact hbs x q
  have lenb : c.length + ps.length = (bod o).length := by rw [← hcb, List.length_append, List.length_map]
  have lc : (C ++ c).length = C.length + c.length := List.length_append
  have r2 := ps_rel (bs := bs) (m := 2) (by decide) hp
  have r1 := ps_rel (bs := bs) (m := 1) (by decide) hp
  have r0 := ps_rel (bs := bs) (m := 0) (by decide) hp
  have rl2 := rlo_le 2 bs
  have rl1 := rlo_le 1 bs
  have rl0 := rlo_le 0 bs
  have kl : ∀ m, (rlk m bs).length ≤ bs.length := by
    intro m
    clear hbs hbl hpot hx r2 r1 r0 rl2 rl1 rl0 hB
    induction bs with
    | nil => exact Nat.le_refl 0
    | cons x t ih =>
      rw [rlk]
      split
      · rw [List.length_cons]; omega
      · exact Nat.le_refl _
  have k2 := kl 2
  have k1 := kl 1
  have mcat : ∀ l : List Nat, C ++ c ++ (ps ++ l).map (fun x => stp x 0) = C ++ (bod o ++ l.map st0) := by
    intro l
    rw [List.map_append, ← hcb]
    simp only [List.append_assoc]
    rfl
  by_cases q15 : tK T n e = 15 ∨ tK T n e = 16
  · refine ⟨fun q => by omega, fun q => by omega, fun q => by omega, fun _ _ _ => ?_⟩
    unfold fk
    by_cases q16 : tK T n e = 16
    · rw [if_pos q16]
      exact crun_fail (by decide) (by decide) (tk_unk hT q16)
    · rw [if_neg q16]
      have F : TF cb T n e (M_X5_takeBehindOne [.ref 21] (qw cb A WT CD v)) 2 := by
        have z : ∀ L : Nat, L < 2 ^ 31 → ((nI (tK T n e) = nI L) ↔ tK T n e = L) := fun L hL => nI_eq (by omega) hL
        rw [e_X5_takeBehindOne, show (qw cb A WT CD v).1 21 3 = nI (tK T n e) from hT.1, if_neg (show ¬ nI (tK T n e) = (5 : Int32) from fun y => by have := (z 5 (by decide)).mp y; omega), if_neg (show ¬ nI (tK T n e) = (4 : Int32) from fun y => by have := (z 4 (by decide)).mp y; omega), if_neg (show ¬ nI (tK T n e) = (1 : Int32) from fun y => by have := (z 1 (by decide)).mp y; omega)]
        exact tk_fail hT 2
      refine crun_fail (by decide) (by decide) ?_
      rw [bo_tok hT hB.2.1 hB.2.2.1 hB.2.2.2.1 hm q16 ⟨_, F.choose_spec.choose_spec.choose_spec.choose_spec.1⟩]
      exact F
  · have n15 : tK T n e ≠ 15 := by omega
    have n16 : tK T n e ≠ 16 := by omega
    obtain ⟨u1, u2, u3⟩ := tok_up he n15
    have TB := tk_behind (b := cb) hT hB (by omega) hx (by rw [r2.1]; omega) (by rw [r1.1]; omega) (by rw [r2.2, lc, List.length_append]; omega) (by rw [r1.2, lc, List.length_append]; omega) (by rw [r0.2, lc, List.length_append]; omega)
    rw [r2.1, r2.2, r1.1, r1.2, r0.1, r0.2, mcat, mcat, mcat] at TB
    have tok := bo_tok (cb := cb) (WT := WT) (CD := CD) hT hB.2.1 hB.2.2.1 hB.2.2.2.1 hm n16
    refine ⟨fun q => ?_, fun q => ?_, fun q => ?_, fun q5 q4 q1 => ?_⟩
    · have F := TB.1 q
      obtain ⟨w', c1, c2, -⟩ := crun_go (i := i) hn hc22 hb he hi n15 (by rw [tok ⟨_, F.choose_spec.choose_spec.choose_spec.choose_spec.1⟩]; exact F)
      exact ⟨w', c1, su, br, te, c2⟩
    · have F := TB.2.1 q
      obtain ⟨w', c1, c2, -⟩ := crun_go (i := i) hn hc22 hb he hi n15 (by rw [tok ⟨_, F.choose_spec.choose_spec.choose_spec.choose_spec.1⟩]; exact F)
      exact ⟨w', c1, su, br, te, c2⟩
    · have F := TB.2.2.1 q
      obtain ⟨w', c1, c2, -⟩ := crun_go (i := i) hn hc22 hb he hi n15 (by rw [tok ⟨_, F.choose_spec.choose_spec.choose_spec.choose_spec.1⟩]; exact F)
      have le : (C ++ c).length + (ps ++ rlo 0 bs).length = (C ++ (bod o ++ (rlo 0 bs).map st0)).length := by
        rw [← mcat, List.length_append (as := C ++ c), List.length_map]
      rw [le] at c2
      exact ⟨w', c1, su, br, c2⟩
    · have F := TB.2.2.2 q5 q4 q1
      unfold fk
      rw [if_neg n16]
      refine crun_fail (by decide) (by decide) ?_
      rw [tok ⟨_, F.choose_spec.choose_spec.choose_spec.choose_spec.1⟩]
      exact F
