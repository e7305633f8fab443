/-! ===== EVALUATION: what sums and tests are worth ===== -/
def opv (c : Nat) (x y : Int64) : Int64 := if c = 43 then x + y else if c = 45 then x - y else if c = 42 then x * y else if y = 0 then 0 else x / y
def stv (V : Nat → Int64) (st : List Int64) (p : Nat × Nat) : List Int64 := if p.1 = 0 then lN p.2 :: st else if p.1 = 1 then V p.2 :: st else match st with
  | y :: x :: r => opv p.1 x y :: r
  | _ => st
def wst (V : Nat → Int64) (l : List (Nat × Nat)) (st : List Int64) : List Int64 := l.foldl (stv V) st
def wv (V : Nat → Int64) (l : List (Nat × Nat)) : Int64 := (wst V l []).headD 0
theorem wst_cons (V : Nat → Int64) (p : Nat × Nat) (l : List (Nat × Nat)) (st : List Int64) : wst V (p :: l) st = wst V l (stv V st p) := rfl
/-- one item: what is known of it, what it leaves -/
theorem hgt_cons {p : Nat × Nat} {l : List (Nat × Nat)} {d h : Nat} (hh : hgt (p :: l) d = some h) : (p.1 = 0 ∧ p.2 < 100000 ∧ d < 20 ∧ hgt l (d + 1) = some h) ∨ (p.1 = 1 ∧ p.2 < 4 ∧ d < 20 ∧ hgt l (d + 1) = some h) ∨ (2 ≤ p.1 ∧ p.1 < 100 ∧ 2 ≤ d ∧ hgt l (d - 1) = some h) := by
  rw [hgt] at hh
  by_cases q : p.1 < 2
  · rw [if_pos q] at hh
    by_cases z : d < 20 ∧ p.2 < 100000 ∧ (p.1 = 0 ∨ p.2 < 4)
    · rw [if_pos z] at hh
      by_cases y : p.1 = 0
      · exact Or.inl ⟨y, z.2.1, z.1, hh⟩
      · exact Or.inr (Or.inl ⟨by omega, by omega, z.1, hh⟩)
    · rw [if_neg z] at hh
      cases hh
  · rw [if_neg q] at hh
    by_cases z : 2 ≤ d ∧ p.1 < 100
    · rw [if_pos z] at hh
      exact Or.inr (Or.inr ⟨by omega, z.2, z.1, hh⟩)
    · rw [if_neg z] at hh
      cases hh
theorem wst_len {V : Nat → Int64} : ∀ (l : List (Nat × Nat)) (st : List Int64) (h : Nat), hgt l st.length = some h → (wst V l st).length = h
  | [], st, h, hh => by
    rw [hgt] at hh
    injection hh
  | p :: l, st, h, hh => by
    rw [wst_cons]
    rcases hgt_cons hh with ⟨a, b, c, d⟩ | ⟨a, b, c, d⟩ | ⟨a, b, c, d⟩
    · exact wst_len l _ h (by unfold stv; rw [if_pos a]; exact d)
    · exact wst_len l _ h (by unfold stv; rw [if_neg (by omega), if_pos a]; exact d)
    · refine wst_len l _ h ?_
      unfold stv
      rw [if_neg (by omega), if_neg (by omega)]
      match st, c with
      | y :: x :: r, _ => exact d
/-- a stack as it lies -/
def KS (K : Nat → Int64) (st : List Int64) : Prop := ∀ i, i < st.length → K i = st.reverse.getD i 0
theorem KS_push {K : Nat → Int64} {st : List Int64} (h : KS K st) (x : Int64) : KS (vp_updL K st.length x) (x :: st) := by
  intro i hi
  rw [List.length_cons] at hi
  rw [pu_atL, List.reverse_cons]
  by_cases q : i = st.length
  · rw [if_pos q, gL2 _ _ _ (by rw [List.length_reverse]; omega), List.length_reverse, show i - st.length = 0 by omega]
    rfl
  · rw [if_neg q, gL1 _ _ _ (by rw [List.length_reverse]; omega)]
    exact h i (by omega)
theorem KS_top {K : Nat → Int64} {st : List Int64} {x : Int64} (h : KS K (x :: st)) : K st.length = x ∧ KS K st := by
  constructor
  · rw [h st.length (by rw [List.length_cons]; omega), List.reverse_cons, gL2 _ _ _ (by rw [List.length_reverse]; omega), List.length_reverse, Nat.sub_self]
    rfl
  · intro i hi
    rw [h i (by rw [List.length_cons]; omega), List.reverse_cons, gL1 _ _ _ (by rw [List.length_reverse]; omega)]
theorem pw_GL (w : pb_W) (c k : Nat) (K : Nat → Int64) (x : Int64) : pb_wL (pb_wG w c K) c k x = pb_wG w c (vp_updL K k x) := by
  refine Prod.ext rfl (funext fun d => ?_)
  rw [pw_L2, pw_G2, pw_G2, pw_G2]
  by_cases q : d = c
  · rw [if_pos q, if_pos q, if_pos rfl]
  · rw [if_neg q, if_neg q, if_neg q]
theorem nI_dec (n : Nat) : nI (n + 1) + (-1 : Int32) = nI n := by
  rw [← nI_1, Int32.add_assoc, show (1 : Int32) + -1 = 0 from rfl, Int32.add_zero]
theorem seg_tl {S O : Nat → Int32} {f : Nat} {p : Nat × Nat} {l : List (Nat × Nat)} (h : seg S O f (p :: l)) : S f = nI p.1 ∧ O f = nI p.2 ∧ seg S O (f + 1) l := by
  have h0 := h 0 (by rw [List.length_cons]; omega)
  refine ⟨h0.1, h0.2, fun j hj => ?_⟩
  have := h (j + 1) (by rw [List.length_cons]; omega)
  rw [show f + 1 + j = f + (j + 1) by omega]
  exact this
theorem len_two {st : List Int64} (h : 2 ≤ st.length) : ∃ y x r, st = y :: x :: r := by
  match st, h with
  | y :: x :: r, _ => exact ⟨y, x, r, rfl⟩
  | [_], h => exact absurd h (by simp)
  | [], h => exact absurd h (by decide)
/-- the reference works a sum out -/
theorem mx_work_go {w : pb_W} {V : Nat → Int64} (hV : ∀ i, i < 4 → w.2 102 i = V i) : ∀ (l : List (Nat × Nat)) (st : List Int64) (f h : Nat) (K : Nat → Int64), hgt l st.length = some h → seg (w.1 98) (w.1 99) f l → f + l.length < 4000 → KS K st → st.length ≤ 20 → ∃ K', pb_run T_X12_work (5, [some (.ref 64), none, some (.int (nI (f + l.length))), some (.int (nI st.length)), some (.int (nI f)), none, none, none, none, none], [], pb_wG w 103 K) = some (some (.long (K' 0)), pb_wG w 103 K') ∧ KS K' (wst V l st)
  | [], st, f, h, K, hh, hs, hf, hK, hl => by
    refine ⟨K, ?_, hK⟩
    rw [r_X12_work_5, if_neg (show ¬ nI f < nI (f + [].length) from nI_nlt (Nat.le_refl _) (by rw [List.length_nil] at hf; omega))]
    rfl
  | p :: l, st, f, h, K, hh, hs, hf, hK, hl => by
    obtain ⟨s1, s2, s3⟩ := seg_tl hs
    rw [List.length_cons] at hf
    have lt : nI f < nI (f + (p :: l).length) := nI_lt (by rw [List.length_cons]; omega) (by rw [List.length_cons]; omega)
    have f4 : pb_in (nI f) 4000 := pn_in (by omega) (by decide)
    have fc : (nI f).toNatClampNeg = f := nI_clamp (by omega)
    have e98 : (pb_wG w 103 K).1 98 f = nI p.1 := s1
    have e99 : (pb_wG w 103 K).1 99 f = nI p.2 := s2
    have eL : f + (p :: l).length = f + 1 + l.length := by rw [List.length_cons]; omega
    have s7 : pb_in (nI st.length) 700 := pn_in (by omega) (by decide)
    have sc : (nI st.length).toNatClampNeg = st.length := nI_clamp (by omega)
    rw [r_X12_work_5, if_pos lt, if_pos f4, fc, e98, wst_cons]
    rcases hgt_cons hh with ⟨a, b, c, d⟩ | ⟨a, b, c, d⟩ | ⟨a, b, c, d⟩
    · have E : stv V st p = lN p.2 :: st := by unfold stv; rw [if_pos a]
      obtain ⟨K', k1, k2⟩ := mx_work_go hV l (lN p.2 :: st) (f + 1) h (vp_updL K st.length (lN p.2)) d s3 (by omega) (KS_push hK _) (by rw [List.length_cons]; omega)
      refine ⟨K', ?_, by rw [E]; exact k2⟩
      rw [a, if_pos (show nI 0 < (2 : Int32) by decide), r_X12_work_26, if_pos (show nI 0 = (0 : Int32) from rfl), if_pos f4, fc, e99, r_X12_work_59, if_pos s7, sc, nI_to64 (by omega), pw_GL, nI_1, r_X12_work_158, nI_1, eL]
      exact k1
    · have E : stv V st p = V p.2 :: st := by unfold stv; rw [if_neg (by omega), if_pos a]
      obtain ⟨K', k1, k2⟩ := mx_work_go hV l (V p.2 :: st) (f + 1) h (vp_updL K st.length (V p.2)) d s3 (by omega) (KS_push hK _) (by rw [List.length_cons]; omega)
      refine ⟨K', ?_, by rw [E]; exact k2⟩
      have v4 : pb_in (nI p.2) 4 := pn_in b (by decide)
      rw [a, if_pos (show nI 1 < (2 : Int32) by decide), r_X12_work_26, if_neg (show ¬ nI 1 = (0 : Int32) by decide), if_pos f4, fc, e99, if_pos v4, nI_clamp (show p.2 < 2 ^ 31 by omega), show (pb_wG w 103 K).2 102 p.2 = V p.2 from hV p.2 b, r_X12_work_59, if_pos s7, sc, pw_GL, nI_1, r_X12_work_158, nI_1, eL]
      exact k1
    · obtain ⟨y, x, r, rfl⟩ := len_two c
      have E : stv V (y :: x :: r) p = opv p.1 x y :: r := by unfold stv; rw [if_neg (by omega), if_neg (by omega)]
      obtain ⟨t1, hK1⟩ := KS_top hK
      obtain ⟨t2, hK2⟩ := KS_top hK1
      rw [List.length_cons] at t1
      rw [List.length_cons, List.length_cons] at hl
      obtain ⟨K', k1, k2⟩ := mx_work_go hV l (opv p.1 x y :: r) (f + 1) h (vp_updL K r.length (opv p.1 x y)) d s3 (by omega) (KS_push hK2 _) (by rw [List.length_cons]; omega)
      refine ⟨K', ?_, by rw [E]; exact k2⟩
      have r7 : pb_in (nI r.length) 700 := pn_in (by omega) (by decide)
      have r71 : pb_in (nI (r.length + 1)) 700 := pn_in (by omega) (by decide)
      have rc : (nI r.length).toNatClampNeg = r.length := nI_clamp (by omega)
      have rc1 : (nI (r.length + 1)).toNatClampNeg = r.length + 1 := nI_clamp (by omega)
      have m2 : nI (y :: x :: r).length - (2 : Int32) = nI r.length := nI_subN (a := r.length + 1 + 1) (b := 2) (by omega)
      have m1 : nI (y :: x :: r).length - (1 : Int32) = nI (r.length + 1) := nI_subN (a := r.length + 1 + 1) (b := 1) (by omega)
      have m0 : nI (r.length + 1) - (1 : Int32) = nI r.length := nI_subN (a := r.length + 1) (b := 1) (by omega)
      have md : nI (y :: x :: r).length + (-1 : Int32) = nI (r.length + 1) := nI_dec (r.length + 1)
      have e1 : (pb_wG w 103 K).2 103 r.length = x := t2
      have e2 : (pb_wG w 103 K).2 103 (r.length + 1) = y := t1
      have fin : ∀ v, v = opv p.1 x y → pb_run T_X12_work (158, [some (.ref 64), none, some (.int (nI (f + (p :: l).length))), some (.int (nI (r.length + 1))), some (.int (nI f)), none, none, none, none, none], [], pb_wL (pb_wG w 103 K) 103 r.length v) = some (some (.long (K' 0)), pb_wG w 103 K') := by
        intro v hv
        rw [r_X12_work_158, nI_1, pw_GL, eL, hv]
        exact k1
      have n43 : ∀ c : Nat, c < 100 → (nI p.1 = nI c ↔ p.1 = c) := fun c hc => nI_eq (by omega) (by omega)
      rw [if_neg (show ¬ nI p.1 < (2 : Int32) from nI_nlt (b := 2) a (by omega)), r_X12_work_66, m2, m1, if_pos r7, if_pos r71, rc, rc1, e1, e2, md, r_X12_work_89, m0, rc]
      unfold opv at fin
      by_cases q43 : p.1 = 43
      · rw [if_pos (show nI p.1 = (43 : Int32) from (n43 43 (by decide)).mpr q43), if_pos r7]
        exact fin _ (by rw [if_pos q43])
      · rw [if_neg (show ¬ nI p.1 = (43 : Int32) from fun z => q43 ((n43 43 (by decide)).mp z))]
        by_cases q45 : p.1 = 45
        · rw [if_pos (show nI p.1 = (45 : Int32) from (n43 45 (by decide)).mpr q45), if_pos r7]
          exact fin _ (by rw [if_neg q43, if_pos q45])
        · rw [if_neg (show ¬ nI p.1 = (45 : Int32) from fun z => q45 ((n43 45 (by decide)).mp z))]
          by_cases q42 : p.1 = 42
          · rw [if_pos (show nI p.1 = (42 : Int32) from (n43 42 (by decide)).mpr q42), if_pos r7]
            exact fin _ (by rw [if_neg q43, if_neg q45, if_pos q42])
          · rw [if_neg (show ¬ nI p.1 = (42 : Int32) from fun z => q42 ((n43 42 (by decide)).mp z))]
            by_cases q0 : y = 0
            · rw [if_pos ((lg_eq0 y 0).mpr q0), if_pos r7]
              exact fin _ (by rw [if_neg q43, if_neg q45, if_neg q42, if_pos q0])
            · rw [if_neg (fun z => q0 ((lg_eq0 y 0).mp z)), if_neg q0, if_pos r7]
              exact fin _ (by rw [if_neg q43, if_neg q45, if_neg q42, if_neg q0])
theorem len_one {st : List Int64} (h : st.length = 1) : st.reverse.getD 0 0 = st.headD 0 := by
  match st, h with
  | [x], _ => rfl
theorem mx_work {w : pb_W} {V : Nat → Int64} (hV : ∀ i, i < 4 → w.2 102 i = V i) {l : List (Nat × Nat)} {f : Nat} (hh : hgt l 0 = some 1) (hs : seg (w.1 98) (w.1 99) f l) (hf : f + l.length < 4000) (K : Nat → Int64) : ∃ K', M_X12_work [.ref 64, .int (nI f), .int (nI (f + l.length))] (pb_wG w 103 K) = some (some (.long (wv V l)), pb_wG w 103 K') := by
  obtain ⟨K', k1, k2⟩ := mx_work_go hV l [] f 1 K hh hs hf (fun i hi => absurd hi (Nat.not_lt_zero i)) (Nat.zero_le _)
  have L := wst_len (V := V) l [] 1 hh
  refine ⟨K', ?_⟩
  rw [e_X12_work]
  have e : K' 0 = wv V l := by
    rw [k2 0 (by omega)]
    exact len_one L
  rw [← e]
  exact k1
