/-! ===== EVALUATION: tests and editions ===== -/
abbrev Ev : Type := (Nat → Int64) × (Nat → Bool) × Bool
def cmpv (c : Nat) (x y : Int64) : Bool := if c = 60 then decide (x < y) else if c = 62 then decide (y < x) else decide (x = y)
def rawv (ev : Ev) (o : On) : Bool := if o_kind o = 2 then ev.2.2 else if o_kind o = 1 then ev.2.1 (o_wd o) else cmpv (o_cm o) (wv ev.1 (o_l o)) (wv ev.1 (o_r o))
def onv (ev : Ev) (o : On) : Bool := if o_neg o = 1 then !(rawv ev o) else rawv ev o
def tgo (ev : Ev) : List On → Bool → Bool
  | [], p => p
  | o :: os, p => if o_beg o = 1 then (if p then true else tgo ev os (onv ev o)) else tgo ev os (p && onv ev o)
def tv (ev : Ev) : List On → Bool
  | [] => true
  | o :: os => tgo ev os (onv ev o)
def clK (x : Int64) : Int32 := (pb_maxL (0 : Int64) (pb_minL (15 : Int64) x)).toInt32
def clU (x : Int64) : Int32 := (pb_maxL (1 : Int64) (pb_minL (1000 : Int64) x)).toInt32
/-- the verdict of an edition: rule, kind, units -/
def vrd (ev : Ev) : List Rl → Nat → Int32 × Int32 × Int32
  | [], _ => (-1, 0, 1)
  | r :: rs, i => if tv ev r.1 then (nI i, clK (wv ev.1 r.2.1), if r.2.2 = [] then 1 else clU (wv ev.1 r.2.2)) else vrd ev rs (i + 1)
def b01 (b : Bool) : Int32 := if b then 1 else 0
/-- what the reference sees of a line -/
def EvR (w : pb_W) (l : Nat) (ev : Ev) : Prop := (∀ i, i < 4 → w.2 102 i = ev.1 i) ∧ (∀ n, ev.2.1 n = decide (w.2 79 (3 * l) = lN n ∨ w.2 79 (3 * l + 1) = lN n ∨ w.2 79 (3 * l + 2) = lN n)) ∧ w.1 81 l = b01 ev.2.2
theorem mx_isOne {w : pb_W} {ev : Ev} {k l g : Nat} {o : On} (hl : l < 200) (hk : k < 1500) (hE : EvR w l ev) (hO : ORep w (w.1 98) (w.1 99) k o g) (hg : g < 4000) (K : Nat → Int64) : ∃ K', M_X12_isOne [.ref 64, .int (nI k), .int (nI l)] (pb_wG w 103 K) = some (some (.int (b01 (rawv ev o))), pb_wG w 103 K') := by
  obtain ⟨o1, o2, o3, o4, o5, o6, o7, o8⟩ := hO
  obtain ⟨v1, v2, v3⟩ := hE
  have k15 : pb_in (nI k) 1500 := pn_in hk (by decide)
  have kc : (nI k).toNatClampNeg = k := nI_clamp (by omega)
  have e90 : (pb_wG w 103 K).1 90 k = nI (o_kind o) := o3
  rw [e_X12_isOne]
  simp only [if_pos k15, kc]
  rw [e90]
  have n : ∀ c : Nat, c < 3 → (nI (o_kind o) = nI c ↔ o_kind o = c) := fun c hc => nI_eq (by omega) (by omega)
  unfold rawv
  by_cases q2 : o_kind o = 2
  · rw [if_pos (show nI (o_kind o) = (2 : Int32) from (n 2 (by decide)).mpr q2), if_pos (pn_in hl (by decide)), nI_clamp (show l < 2 ^ 31 by omega), show (pb_wG w 103 K).1 81 l = b01 ev.2.2 from v3, if_pos q2]
    refine ⟨K, if_pos ?_⟩
    unfold b01
    split
    · exact Or.inr rfl
    · exact Or.inl rfl
  · rw [if_neg (show ¬ nI (o_kind o) = (2 : Int32) from fun z => q2 ((n 2 (by decide)).mp z)), if_neg q2]
    by_cases q1 : o_kind o = 1
    · obtain ⟨w1, w2⟩ := o7 q1
      have e3 : (3 : Int32) * nI l = nI (3 * l) := pn_mul 3 l
      have e31 : nI (3 * l) + (1 : Int32) = nI (3 * l + 1) := nI_add (3 * l) 1
      have e32 : nI (3 * l) + (2 : Int32) = nI (3 * l + 2) := nI_add (3 * l) 2
      refine ⟨K, ?_⟩
      rw [if_pos (show nI (o_kind o) = (1 : Int32) from (n 1 (by decide)).mpr q1), if_pos q1, e3, e31, e32, if_pos (pn_in (show 3 * l < 600 by omega) (by decide)), if_pos (pn_in (show 3 * l + 1 < 600 by omega) (by decide)), if_pos (pn_in (show 3 * l + 2 < 600 by omega) (by decide)), nI_clamp (show 3 * l < 2 ^ 31 by omega), nI_clamp (show 3 * l + 1 < 2 ^ 31 by omega), nI_clamp (show 3 * l + 2 < 2 ^ 31 by omega), show (pb_wG w 103 K).2 95 k = lN (o_wd o) from w1, show (pb_wG w 103 K).2 79 (3 * l) = w.2 79 (3 * l) from rfl, show (pb_wG w 103 K).2 79 (3 * l + 1) = w.2 79 (3 * l + 1) from rfl, show (pb_wG w 103 K).2 79 (3 * l + 2) = w.2 79 (3 * l + 2) from rfl, v2]
      unfold b01
      by_cases a1 : w.2 79 (3 * l) = lN (o_wd o)
      · rw [if_pos ((lg_eq0 _ _).mpr a1), if_pos (decide_eq_true (Or.inl a1))]
      · rw [if_neg (fun z => a1 ((lg_eq0 _ _).mp z))]
        by_cases a2 : w.2 79 (3 * l + 1) = lN (o_wd o)
        · rw [if_pos ((lg_eq0 _ _).mpr a2), if_pos (decide_eq_true (Or.inr (Or.inl a2)))]
        · rw [if_neg (fun z => a2 ((lg_eq0 _ _).mp z))]
          by_cases a3 : w.2 79 (3 * l + 2) = lN (o_wd o)
          · rw [if_pos ((lg_eq0 _ _).mpr a3), if_pos (decide_eq_true (Or.inr (Or.inr a3)))]
          · rw [if_neg (fun z => a3 ((lg_eq0 _ _).mp z)), if_neg (fun z => by
              rcases of_decide_eq_true z with z | z | z
              · exact a1 z
              · exact a2 z
              · exact a3 z)]
    · have q0 : o_kind o = 0 := by omega
      obtain ⟨f, a1, a2, a3, a4, a5, a6, a7, a8, a9, a10⟩ := o8 q0
      obtain ⟨K1, m1⟩ := mx_work (w := w) v1 a9 a7 (by omega) K
      obtain ⟨K2, m2⟩ := mx_work (w := w) v1 a10 a8 (by omega) K1
      refine ⟨K2, ?_⟩
      rw [if_neg (show ¬ nI (o_kind o) = (1 : Int32) from fun z => q1 ((n 1 (by decide)).mp z)), if_neg q1, show (pb_wG w 103 K).1 91 k = nI f from a1, show (pb_wG w 103 K).1 92 k = nI (f + (o_l o).length) from a2, m1, pb_bL_some, show (pb_wG w 103 K1).1 92 k = nI (f + (o_l o).length) from a2, show (pb_wG w 103 K1).1 93 k = nI (f + (o_l o).length + (o_r o).length) from a3, m2, pb_bL_some, show (pb_wG w 103 K2).1 94 k = nI (o_cm o) from a4]
      unfold cmpv b01
      rcases a5 with q | q | q
      · rw [q, if_pos (show nI 60 = (60 : Int32) from rfl), if_pos rfl]
        by_cases z : wv ev.1 (o_l o) < wv ev.1 (o_r o)
        · rw [if_pos ((lg_lt0 _ _).mpr z), if_pos (decide_eq_true z)]
        · rw [if_neg (fun y => z ((lg_lt0 _ _).mp y)), if_neg (fun y => z (of_decide_eq_true y))]
      · rw [q, if_neg (show ¬ nI 61 = (60 : Int32) by decide), if_neg (show ¬ nI 61 = (62 : Int32) by decide), if_neg (show ¬ (61 : Nat) = 60 by decide), if_neg (show ¬ (61 : Nat) = 62 by decide)]
        by_cases z : wv ev.1 (o_l o) = wv ev.1 (o_r o)
        · rw [if_pos ((lg_eq0 _ _).mpr z), if_pos (decide_eq_true z)]
        · rw [if_neg (fun y => z ((lg_eq0 _ _).mp y)), if_neg (fun y => z (of_decide_eq_true y))]
      · rw [q, if_neg (show ¬ nI 62 = (60 : Int32) by decide), if_pos (show nI 62 = (62 : Int32) from rfl), if_neg (show ¬ (62 : Nat) = 60 by decide), if_pos rfl]
        by_cases z : wv ev.1 (o_r o) < wv ev.1 (o_l o)
        · rw [if_pos ((lg_gt _ _).mpr z), if_pos (decide_eq_true z)]
        · rw [if_neg (fun y => z ((lg_gt _ _).mp y)), if_neg (fun y => z (of_decide_eq_true y))]
theorem mx_part {w : pb_W} {ev : Ev} {k l g f N : Nat} {o : On} (hl : l < 200) (hk : k < 1500) (hE : EvR w l ev) (hO : ORep w (w.1 98) (w.1 99) k o g) (hg : g < 4000) (K : Nat → Int64) (p : Bool) : ∃ K', pb_run T_X12_holds (38, [some (.ref 64), some (.int (nI f)), some (.int (nI N)), some (.int (nI l)), some (.int (b01 p)), some (.int (nI k))], [], pb_wG w 103 K) = pb_run T_X12_holds (6, [some (.ref 64), some (.int (nI f)), some (.int (nI N)), some (.int (nI l)), some (.int (b01 (p && onv ev o))), some (.int (nI (k + 1)))], [], pb_wG w 103 K') := by
  have k15 : pb_in (nI k) 1500 := pn_in hk (by decide)
  have kc : (nI k).toNatClampNeg = k := nI_clamp (by omega)
  rw [r_X12_holds_38]
  cases p with
  | false =>
    refine ⟨K, ?_⟩
    rw [if_pos (show b01 false = 0 from rfl), nI_1, Bool.false_and]
    rfl
  | true =>
    obtain ⟨K', m⟩ := mx_isOne hl hk hE hO hg K
    refine ⟨K', ?_⟩
    have n96 : (pb_wG w 103 K').1 96 k = nI (o_neg o) := hO.2.1
    have o5 := hO.2.2.2.2.1
    rw [if_neg (show ¬ b01 true = 0 by decide), m, pb_bI_some, if_pos k15, kc, n96, nI_1, Bool.true_and]
    unfold onv
    by_cases q : o_neg o = 1
    · rw [q, if_pos rfl]
      cases rawv ev o with
      | true => rw [if_pos (show b01 true = nI 1 from rfl)]; rfl
      | false => rw [if_neg (show ¬ b01 false = nI 1 by decide)]; rfl
    · have : o_neg o = 0 := by omega
      rw [this, if_neg (show ¬ (0 : Nat) = 1 by decide)]
      cases rawv ev o with
      | true => rw [if_neg (show ¬ b01 true = nI 0 by decide)]; rfl
      | false => rw [if_pos (show b01 false = nI 0 from rfl)]; rfl
theorem mx_holds_go {w : pb_W} {ev : Ev} {l g f : Nat} (hl : l < 200) (hE : EvR w l ev) (hg : g < 4000) : ∀ (os : List On) (p : Bool) (k : Nat) (K : Nat → Int64), f < k → k + os.length ≤ 1500 → (∀ j, j < os.length → ORep w (w.1 98) (w.1 99) (k + j) (os.getD j dO) g) → ∃ K', pb_run T_X12_holds (6, [some (.ref 64), some (.int (nI f)), some (.int (nI (k + os.length))), some (.int (nI l)), some (.int (b01 p)), some (.int (nI k))], [], pb_wG w 103 K) = some (some (.int (b01 (tgo ev os p))), pb_wG w 103 K')
  | [], p, k, K, hk, hN, hO => by
    refine ⟨K, ?_⟩
    rw [r_X12_holds_6, if_neg (show ¬ nI k < nI (k + [].length) from nI_nlt (Nat.le_refl _) (by rw [List.length_nil] at hN; omega)), tgo]
    refine if_pos ?_
    unfold b01
    split
    · exact Or.inr rfl
    · exact Or.inl rfl
  | o :: os, p, k, K, hk, hN, hO => by
    rw [List.length_cons] at hN
    have k15 : pb_in (nI k) 1500 := pn_in (by omega) (by decide)
    have kc : (nI k).toNatClampNeg = k := nI_clamp (by omega)
    have O0 := hO 0 (by rw [List.length_cons]; omega)
    have O0 : ORep w (w.1 98) (w.1 99) k o g := O0
    have eL : k + (o :: os).length = k + 1 + os.length := by rw [List.length_cons]; omega
    have rest : ∀ j, j < os.length → ORep w (w.1 98) (w.1 99) (k + 1 + j) (os.getD j dO) g := fun j hj => by
      have := hO (j + 1) (by rw [List.length_cons]; omega)
      rw [show k + 1 + j = k + (j + 1) by omega]
      exact this
    have n97 : (pb_wG w 103 K).1 97 k = nI (o_beg o) := O0.1
    have ob := O0.2.2.2.1
    rw [r_X12_holds_6, if_pos (show nI k < nI (k + (o :: os).length) from nI_lt (by rw [List.length_cons]; omega) (by rw [List.length_cons]; omega)), if_pos k15, kc, n97, tgo]
    by_cases q : o_beg o = 1
    · rw [q, if_neg (show ¬ nI 1 = (0 : Int32) by decide), if_pos (nI_lt hk (by omega)), if_pos rfl]
      cases p with
      | true =>
        refine ⟨K, ?_⟩
        rw [if_neg (show ¬ b01 true = 0 by decide), if_pos rfl]
        rfl
      | false =>
        obtain ⟨K1, m1⟩ := mx_part (f := f) (N := k + (o :: os).length) hl (by omega) hE O0 hg K true
        obtain ⟨K2, m2⟩ := mx_holds_go (f := f) hl hE hg os (onv ev o) (k + 1) K1 (by omega) (by omega) rest
        refine ⟨K2, ?_⟩
        rw [if_pos (show b01 false = 0 from rfl)]
        rw [eL, Bool.true_and] at m1
        rw [eL]
        exact m1.trans m2
    · have : o_beg o = 0 := by omega
      obtain ⟨K1, m1⟩ := mx_part (f := f) (N := k + (o :: os).length) hl (by omega) hE O0 hg K p
      obtain ⟨K2, m2⟩ := mx_holds_go (f := f) hl hE hg os (p && onv ev o) (k + 1) K1 (by omega) (by omega) rest
      refine ⟨K2, ?_⟩
      rw [this, if_pos (show nI 0 = (0 : Int32) from rfl), if_neg (show ¬ (0 : Nat) = 1 by decide), eL]
      rw [eL] at m1
      exact m1.trans m2
theorem mx_holds {w : pb_W} {ev : Ev} {l g f : Nat} (hl : l < 200) (hE : EvR w l ev) (hg : g < 4000) {os : List On} (h1 : 1 ≤ os.length) (hN : f + os.length ≤ 1500) (hO : ∀ j, j < os.length → ORep w (w.1 98) (w.1 99) (f + j) (os.getD j dO) g) (K : Nat → Int64) : ∃ K', M_X12_holds [.ref 64, .int (nI f), .int (nI (f + os.length)), .int (nI l)] (pb_wG w 103 K) = some (some (.int (b01 (tv ev os))), pb_wG w 103 K') := by
  match os, h1, hN, hO with
  | o :: os, _, hN, hO =>
    rw [List.length_cons] at hN
    have k15 : pb_in (nI f) 1500 := pn_in (by omega) (by decide)
    have kc : (nI f).toNatClampNeg = f := nI_clamp (by omega)
    have O0 := hO 0 (by rw [List.length_cons]; omega)
    have O0 : ORep w (w.1 98) (w.1 99) f o g := O0
    have eL : f + (o :: os).length = f + 1 + os.length := by rw [List.length_cons]; omega
    have rest : ∀ j, j < os.length → ORep w (w.1 98) (w.1 99) (f + 1 + j) (os.getD j dO) g := fun j hj => by
      have := hO (j + 1) (by rw [List.length_cons]; omega)
      rw [show f + 1 + j = f + (j + 1) by omega]
      exact this
    obtain ⟨K1, m1⟩ := mx_part (f := f) (N := f + (o :: os).length) hl (by omega) hE O0 hg K true
    obtain ⟨K2, m2⟩ := mx_holds_go (f := f) hl hE hg os (onv ev o) (f + 1) K1 (by omega) (by omega) rest
    refine ⟨K2, ?_⟩
    rw [e_X12_holds, r_X12_holds_6, if_pos (show nI f < nI (f + (o :: os).length) from nI_lt (by rw [List.length_cons]; omega) (by rw [List.length_cons]; omega)), if_pos k15, if_neg (show ¬ nI f < nI f from nI_nlt (Nat.le_refl f) (by omega)), ite_self, eL]
    rw [eL, Bool.true_and] at m1
    exact m1.trans m2
