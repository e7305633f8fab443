/-! ===== JUDGE: rules, an edition ===== -/
/-- what is known of a rule -/
def ROK (r : Rl) : Prop := 1 ≤ r.1.length ∧ (∀ o, o ∈ r.1 → OK o) ∧ hgt r.2.1 0 = some 1 ∧ (r.2.2 = [] ∨ hgt r.2.2 0 = some 1)
theorem mem_getD {α : Type} {d : α} : ∀ {l : List α} {x : α}, x ∈ l → ∃ j, j < l.length ∧ l.getD j d = x
  | a :: l, x, h => by
    rcases List.mem_cons.mp h with q | q
    · exact ⟨0, by rw [List.length_cons]; omega, by rw [q]; rfl⟩
    · obtain ⟨j, h1, h2⟩ := mem_getD (d := d) q
      exact ⟨j + 1, by rw [List.length_cons]; omega, h2⟩
theorem ROK_of {b : pb_W} {S O : Nat → Int32} {x km gm : Nat} {r : Rl} (h : RRep b S O x r km gm) : ROK r := by
  obtain ⟨f, h, a1, a2, a3, a4, a5, a6, a7, a8, a9, a10, a11, a12, a13, a14⟩ := h
  refine ⟨a13, fun o ho => ?_, a11, a12⟩
  obtain ⟨j, h1, h2⟩ := mem_getD (d := dO) ho
  rw [← h2]
  exact OK_of (a8 j h1)
def pkv (t : Int32 × Int32 × Int32) : Int32 := (((t.1 + 1) <<< ((14 : Int32) &&& 31)) ||| (t.2.2 <<< ((4 : Int32) &&& 31))) ||| t.2.1
theorem i64_min_max (a b x : Int64) (h : a ≤ b) : pb_minL b (pb_maxL a x) = pb_maxL a (pb_minL b x) := by
  unfold pb_minL pb_maxL
  have h := Int64.le_iff_toInt_le.mp h
  by_cases q1 : x < a
  · have q1' := Int64.lt_iff_toInt_lt.mp q1
    have n1 : ¬ a < x := fun z => by have := Int64.lt_iff_toInt_lt.mp z; omega
    by_cases q2 : x < b
    · rw [if_pos q1, if_pos q2, if_pos q1]
      by_cases q3 : a < b
      · rw [if_pos q3]
      · rw [if_neg q3]
        have : ¬ a.toInt < b.toInt := fun z => q3 (Int64.lt_iff_toInt_lt.mpr z)
        exact Int64.toInt_inj.mp (by omega)
    · exact absurd (Int64.lt_iff_toInt_lt.mpr (by omega)) q2
  · have q1' : ¬ x.toInt < a.toInt := fun z => q1 (Int64.lt_iff_toInt_lt.mpr z)
    rw [if_neg q1]
    by_cases q2 : x < b
    · rw [if_pos q2, if_neg q1]
    · rw [if_neg q2]
      by_cases q3 : b < a
      · have := Int64.lt_iff_toInt_lt.mp q3
        omega
      · rw [if_neg q3]
theorem j_pack (ru : Int32) (kd un : Int64) (w : pb_W) : M_X0_packed [.int ru, .long kd, .long un] w = some (some (.int (pkv (ru, clK kd, clU un))), w) := by
  rw [e_X0_packed, i64_min_max 1 1000 un (by decide), i64_min_max 0 15 kd (by decide)]
  rfl
theorem j_then {b : pb_W} {l F L ru p m : Nat} {kd un x : Int64} {K : Nat → Int64} (hp : p < L) (hL : L ≤ 3000) (hc : b.2 26 p = stp 70 m) (hm : p ≤ F + m) (hm2 : F + m ≤ 3000) (hK : KS K [x]) : jrun l F L ru kd un p (jw b K [x]) = if x = 0 then jrun l F L (ru + 1) kd un (F + m + 1) (jw b K []) else jrun l F L ru kd un (p + 1) (jw b K []) := by
  unfold jrun
  rw [r_X0_judgeAnew_33, if_pos (nI_lt hp (by omega)), if_pos (pn_in (show p < 3000 by omega) (by decide)), if_pos (pn_in (show p < 3000 by omega) (by decide)), nI_clamp (show p < 2 ^ 31 by omega), show (jw b K [x]).2 26 p = stp 70 m from hc, stp_lo (by decide) (by omega), stp_hi (by decide) (by omega), if_pos (show nI 70 = (70 : Int32) from rfl), j_pop (by decide) hK, pb_bL_some, lN_to32 (by omega), nI_add, pn_max (by omega) (by omega), Nat.max_eq_right hm, nI_1, nI_1, nI_1]
  by_cases q : x = 0
  · rw [if_pos ((lg_eq0 _ _).mpr q), if_pos q]
  · rw [if_neg (fun z => q ((lg_eq0 _ _).mp z)), if_neg q]
theorem j_kind {b : pb_W} {l F L ru p : Nat} {kd un x : Int64} {K : Nat → Int64} (hp : p < L) (hL : L ≤ 3000) (hc : b.2 26 p = stp 71 0) (hK : KS K [x]) : jrun l F L ru kd un p (jw b K [x]) = jrun l F L ru x un (p + 1) (jw b K []) := by
  unfold jrun
  rw [r_X0_judgeAnew_33, if_pos (nI_lt hp (by omega)), if_pos (pn_in (show p < 3000 by omega) (by decide)), if_pos (pn_in (show p < 3000 by omega) (by decide)), nI_clamp (show p < 2 ^ 31 by omega), show (jw b K [x]).2 26 p = stp 71 0 from hc, stp_lo (by decide) (by omega), if_neg (show ¬ nI 71 = (70 : Int32) by decide), if_pos (show nI 71 = (71 : Int32) from rfl), j_pop (by decide) hK, pb_bL_some, nI_1]
theorem j_units {b : pb_W} {l F L ru p : Nat} {kd un x : Int64} {K : Nat → Int64} (hp : p < L) (hL : L ≤ 3000) (hc : b.2 26 p = stp 72 0) (hK : KS K [x]) : jrun l F L ru kd un p (jw b K [x]) = jrun l F L ru kd x (p + 1) (jw b K []) := by
  unfold jrun
  rw [r_X0_judgeAnew_33, if_pos (nI_lt hp (by omega)), if_pos (pn_in (show p < 3000 by omega) (by decide)), if_pos (pn_in (show p < 3000 by omega) (by decide)), nI_clamp (show p < 2 ^ 31 by omega), show (jw b K [x]).2 26 p = stp 72 0 from hc, stp_lo (by decide) (by omega), if_neg (show ¬ nI 72 = (70 : Int32) by decide), if_neg (show ¬ nI 72 = (71 : Int32) by decide), if_pos (show nI 72 = (72 : Int32) from rfl), j_pop (by decide) hK, pb_bL_some, nI_1]
theorem j_end {b : pb_W} {l F L ru p : Nat} {kd un : Int64} {K : Nat → Int64} {st : List Int64} (hp : p < L) (hL : L ≤ 3000) (hc : b.2 26 p = stp 73 0) : jrun l F L ru kd un p (jw b K st) = some (some (.int (pkv (nI ru, clK kd, clU un))), jw b K st) := by
  unfold jrun
  rw [r_X0_judgeAnew_33, if_pos (nI_lt hp (by omega)), if_pos (pn_in (show p < 3000 by omega) (by decide)), if_pos (pn_in (show p < 3000 by omega) (by decide)), nI_clamp (show p < 2 ^ 31 by omega), show (jw b K st).2 26 p = stp 73 0 from hc, stp_lo (by decide) (by omega), if_neg (show ¬ nI 73 = (70 : Int32) by decide), if_neg (show ¬ nI 73 = (71 : Int32) by decide), if_neg (show ¬ nI 73 = (72 : Int32) by decide), if_pos (show nI 73 = (73 : Int32) from rfl), j_pack, pb_bI_some]
theorem j_rule {b : pb_W} {l F L ru off : Nat} (hl : l < 200) (hL : L ≤ 3000) {r : Rl} (hr : ROK r) {K : Nat → Int64} (hc : cat b (F + off) (rcode r off)) (hp : F + off + (rcode r off).length ≤ L) : ∃ K', jrun l F L ru 0 1 (F + off) (jw b K []) = if tv (evp b l (b.1 16 l)) r.1 then some (some (.int (pkv (nI ru, clK (wv (evp b l (b.1 16 l)).1 r.2.1), if r.2.2 = [] then 1 else clU (wv (evp b l (b.1 16 l)).1 r.2.2)))), jw b K' []) else jrun l F L (ru + 1) 0 1 (F + off + (rcode r off).length) (jw b K' []) := by
  obtain ⟨r1, r2, r3, r4⟩ := hr
  have ne : KS K [] := fun i hi => absurd hi (Nat.not_lt_zero i)
  unfold rcode at hc hp
  unfold rcode
  rw [List.length_append, List.length_append, List.length_append, List.length_append, List.length_append, List.length_map, List.length_singleton, List.length_singleton, List.length_singleton] at hp
  rw [List.length_append, List.length_append, List.length_append, List.length_append, List.length_append, List.length_map, List.length_singleton, List.length_singleton, List.length_singleton]
  obtain ⟨hc, c6⟩ := cat_app hc
  obtain ⟨hc, c5⟩ := cat_app hc
  obtain ⟨hc, c4⟩ := cat_app hc
  obtain ⟨hc, c3⟩ := cat_app hc
  obtain ⟨c1, c2⟩ := cat_app hc
  rw [List.length_append, List.length_append, List.length_append, List.length_append, List.length_map, List.length_singleton, List.length_singleton] at c6
  rw [List.length_append, List.length_append, List.length_append, List.length_map, List.length_singleton, List.length_singleton] at c5
  rw [List.length_append, List.length_append, List.length_map, List.length_singleton] at c4
  rw [List.length_append, List.length_singleton] at c3
  obtain ⟨c2, -⟩ := cat_cons c2
  obtain ⟨c4, -⟩ := cat_cons c4
  obtain ⟨c6, -⟩ := cat_cons c6
  obtain ⟨o, os, ho⟩ : ∃ o os, r.1 = o :: os := by
    match r.1, r1 with
    | o :: os, _ => exact ⟨o, os, rfl⟩
  have T : ∃ K1, jrun l F L ru 0 1 (F + off) (jw b K []) = jrun l F L ru 0 1 (F + off + (cmpT r.1 []).length) (jw b K1 [b2l (tv (evp b l (b.1 16 l)) r.1)]) ∧ KS K1 [b2l (tv (evp b l (b.1 16 l)) r.1)] := by
    rw [ho] at c1 r2 ⊢
    rw [ho] at hp
    obtain ⟨K1, m1, m2⟩ := j_test (b := b) (l := l) (F := F) (L := L) (ru := ru) (kd := 0) (un := 1) (st := []) hl hL (by decide) os o false true false true (F + off) K (r2 o List.mem_cons_self) (fun q hq => r2 q (List.mem_cons_of_mem _ hq)) ne c1 (by show F + off + (cmpT (o :: os) []).length ≤ L; omega)
    rw [Bool.false_and, Bool.false_or, Bool.not_false, Bool.true_or, Bool.true_and] at m1 m2
    exact ⟨K1, m1, m2⟩
  obtain ⟨K1, m1, m2⟩ := T
  have re : r_end r off = off + (cmpT r.1 []).length + 1 + r.2.1.length + 1 + (r_u r).length := rfl
  rw [m1, j_then (by omega) hL c2 (by omega) (by omega) m2]
  cases ht : tv (evp b l (b.1 16 l)) r.1 with
  | false =>
    refine ⟨K1, ?_⟩
    rw [if_pos (show b2l false = 0 from rfl), if_neg (show ¬ false = true by decide), re, show F + (off + (cmpT r.1 []).length + 1 + r.2.1.length + 1 + (r_u r).length) + 1 = F + off + ((cmpT r.1 []).length + 1 + r.2.1.length + 1 + (r_u r).length + 1) by omega]
  | true =>
    obtain ⟨K2, m3, m4⟩ := j_sum (b := b) (l := l) (F := F) (L := L) (ru := ru) (kd := 0) (un := 1) hl hL (st0 := []) (by decide) r.2.1 [] (F + off + (cmpT r.1 []).length + 1) 1 K1 r3 c3 (by omega) (fun i hi => absurd hi (Nat.not_lt_zero i)) (Nat.zero_le _)
    rw [wst_one r3] at m3 m4
    simp only [if_neg (show ¬ b2l true = 0 by decide), ↓reduceIte]
    have m3 : jrun l F L ru 0 1 (F + off + (cmpT r.1 []).length + 1) (jw b K1 []) = jrun l F L ru 0 1 (F + off + (cmpT r.1 []).length + 1 + r.2.1.length) (jw b K2 [wv (evp b l (b.1 16 l)).1 r.2.1]) := m3
    rw [m3, j_kind (b := b) (p := F + off + (cmpT r.1 []).length + 1 + r.2.1.length) (by omega) hL (Eq.trans (congrArg (b.2 26) (by omega)) c4) m4]
    unfold r_u at c5 hp c6
    by_cases qu : r.2.2 = []
    · rw [if_pos qu] at c6 hp
      rw [if_pos qu]
      refine ⟨K2, ?_⟩
      rw [j_end (b := b) (p := F + off + (cmpT r.1 []).length + 1 + r.2.1.length + 1) (by rw [List.length_nil] at hp; omega) hL (Eq.trans (congrArg (b.2 26) (by rw [List.length_nil]; omega)) c6)]
      rfl
    · rw [if_neg qu] at c5 c6 hp
      rw [if_neg qu]
      have r4 := r4.resolve_left qu
      obtain ⟨c5, c7⟩ := cat_app c5
      obtain ⟨c7, -⟩ := cat_cons c7
      rw [List.length_map] at c7
      rw [List.length_append, List.length_map, List.length_singleton] at c6 hp
      obtain ⟨K3, m5, m6⟩ := j_sum (b := b) (l := l) (F := F) (L := L) (ru := ru) (kd := wv (evp b l (b.1 16 l)).1 r.2.1) (un := 1) hl hL (st0 := []) (by decide) r.2.2 [] (F + off + (cmpT r.1 []).length + 1 + r.2.1.length + 1) 1 K2 r4 (by rw [show F + off + (cmpT r.1 []).length + 1 + r.2.1.length + 1 = F + off + ((cmpT r.1 []).length + 1 + r.2.1.length + 1) by omega]; exact c5) (by omega) (fun i hi => absurd hi (Nat.not_lt_zero i)) (Nat.zero_le _)
      rw [wst_one r4] at m5 m6
      have m5 : jrun l F L ru (wv (evp b l (b.1 16 l)).1 r.2.1) 1 (F + off + (cmpT r.1 []).length + 1 + r.2.1.length + 1) (jw b K2 []) = jrun l F L ru (wv (evp b l (b.1 16 l)).1 r.2.1) 1 (F + off + (cmpT r.1 []).length + 1 + r.2.1.length + 1 + r.2.2.length) (jw b K3 [wv (evp b l (b.1 16 l)).1 r.2.2]) := m5
      refine ⟨K3, ?_⟩
      rw [m5, j_units (b := b) (p := F + off + (cmpT r.1 []).length + 1 + r.2.1.length + 1 + r.2.2.length) (by omega) hL (Eq.trans (congrArg (b.2 26) (by omega)) c7) m6, j_end (b := b) (p := F + off + (cmpT r.1 []).length + 1 + r.2.1.length + 1 + r.2.2.length + 1) (by omega) hL (Eq.trans (congrArg (b.2 26) (by omega)) c6)]
theorem rcs_pre (a : List Rl) : ∀ b : List Rl, ∃ t, rcs (a ++ b) = rcs a ++ t := by
  intro b
  induction b generalizing a with
  | nil => exact ⟨[], by rw [List.append_nil, List.append_nil]⟩
  | cons r b ih =>
    obtain ⟨t, h⟩ := ih (a ++ [r])
    refine ⟨rcode r (rcs a).length ++ t, ?_⟩
    rw [← List.append_assoc, ← rcs_sn, ← h, List.append_assoc]
    rfl
theorem j_all {b : pb_W} {l F L : Nat} (hl : l < 200) (hL : L ≤ 3000) (all : List Rl) (hc : cat b F (rcs all)) (hLe : L = F + (rcs all).length) : ∀ (rs pre : List Rl) (K : Nat → Int64), all = pre ++ rs → (∀ r, r ∈ rs → ROK r) → ∃ K', jrun l F L pre.length 0 1 (F + (rcs pre).length) (jw b K []) = some (some (.int (pkv (vrd (evp b l (b.1 16 l)) rs pre.length))), jw b K' []) := by
  intro rs
  induction rs with
  | nil =>
    intro pre K hall hR
    rw [List.append_nil] at hall
    subst hall
    refine ⟨K, ?_⟩
    unfold jrun
    rw [r_X0_judgeAnew_33, if_neg (show ¬ nI (F + (rcs all).length) < nI L from nI_nlt (by omega) (by omega)), j_pack, pb_bI_some]
    rfl
  | cons r rs ih =>
    intro pre K hall hR
    obtain ⟨t, ht⟩ := rcs_pre (pre ++ [r]) rs
    have e : rcs all = rcs pre ++ (rcode r (rcs pre).length ++ t) := by
      rw [hall, show pre ++ r :: rs = (pre ++ [r]) ++ rs by rw [List.append_assoc]; rfl, ht, rcs_sn, List.append_assoc]
    have hc' := hc
    rw [e] at hc'
    obtain ⟨-, hc'⟩ := cat_app hc'
    obtain ⟨hc', -⟩ := cat_app hc'
    have le : (rcs all).length = (rcs pre).length + ((rcode r (rcs pre).length).length + t.length) := by rw [e, List.length_append, List.length_append]
    obtain ⟨K1, m⟩ := j_rule (b := b) (l := l) (F := F) (L := L) (ru := pre.length) (off := (rcs pre).length) (K := K) hl hL (hR r List.mem_cons_self) hc' (by omega)
    rw [m, vrd]
    cases htv : tv (evp b l (b.1 16 l)) r.1 with
    | true => exact ⟨K1, rfl⟩
    | false =>
      rw [if_neg (show ¬ false = true by decide), if_neg (show ¬ false = true by decide)]
      obtain ⟨K2, m2⟩ := ih (pre ++ [r]) K1 (by rw [hall, List.append_assoc]; rfl) (fun q hq => hR q (List.mem_cons_of_mem _ hq))
      refine ⟨K2, ?_⟩
      rw [rcs_sn, List.length_append, List.length_append, List.length_singleton, ← Nat.add_assoc] at m2
      exact m2
abbrev fI_ju : Nat → Nat → Prop := fun c k => c = 25 ∧ k = 7
abbrev fJ_ju : Nat → Nat → Prop := fun c _ => c = 30
theorem jw_fr (b : pb_W) (K : Nat → Int64) (st : List Int64) : fr fI_ju fJ_ju b (jw b K st) := fr_I (fr_G (fr_rf b) (fun k => by simp [fJ_ju])) (by simp [fI_ju])
theorem cx_judgeAnew {w : pb_W} {l E : Nat} {Es : List (List Rl)} (hl : l < 200) (hE : EI w Es) (hEl : E < Es.length) : ∃ w', M_X0_judgeAnew [.ref 25, .int (nI l), .int (nI E)] w = some (some (.int (pkv (vrd (evp w l (w.1 16 l)) (Es.getD E []) 0))), w') ∧ fr fI_ju fJ_ju w w' := by
  obtain ⟨k, g, b1, b2, b3, b4, b5, b6, b7, b8⟩ := hE
  obtain ⟨c1, c2, c3, c4, c5, c6⟩ := b8 E hEl
  have R : ∀ r, r ∈ Es.getD E [] → ROK r := fun r hr => by
    obtain ⟨j, h1, h2⟩ := mem_getD (d := dR) hr
    rw [← h2]
    exact ROK_of (c6 j h1)
  obtain ⟨K', m⟩ := j_all (b := w) (l := l) (F := 600 * E) (L := 600 * E + (rcs (Es.getD E [])).length) hl (by omega) (Es.getD E []) c4 rfl (Es.getD E []) [] (w.2 30) rfl R
  refine ⟨_, ?_, jw_fr w K' []⟩
  refine Eq.trans ?_ m
  rw [e_X0_judgeAnew, if_pos (pn_in (show E < 5 by omega) (by decide)), nI_clamp (show E < 2 ^ 31 by omega), c3, show nI E * (600 : Int32) = nI (600 * E) by rw [show (600 : Int32) = nI 600 from rfl, pn_mul, Nat.mul_comm], nI_add]
  unfold jrun jw
  rw [pw_G_self]
  rfl
