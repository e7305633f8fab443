/-! ===== JUDGE: sums, ones, tests ===== -/
/-- code from a place on -/
def cat (b : pb_W) (p : Nat) (c : List Int64) : Prop := ∀ i, i < c.length → b.2 26 (p + i) = c.getD i 0
theorem cat_cons {b : pb_W} {p : Nat} {x : Int64} {c : List Int64} (h : cat b p (x :: c)) : b.2 26 p = x ∧ cat b (p + 1) c := by
  refine ⟨h 0 (by rw [List.length_cons]; omega), fun i hi => ?_⟩
  have := h (i + 1) (by rw [List.length_cons]; omega)
  rw [show p + 1 + i = p + (i + 1) by omega]
  exact this
theorem cat_app {b : pb_W} {p : Nat} {c d : List Int64} (h : cat b p (c ++ d)) : cat b p c ∧ cat b (p + c.length) d := by
  refine ⟨fun i hi => ?_, fun i hi => ?_⟩
  · rw [h i (by rw [List.length_append]; omega), gL1 _ _ _ hi]
  · rw [show p + c.length + i = p + (c.length + i) by omega, h (c.length + i) (by rw [List.length_append]; omega), gL2 _ _ _ (by omega), show c.length + i - c.length = i by omega]
theorem evp_jw {b : pb_W} {K : Nat → Int64} {st : List Int64} {l : Nat} : evp (jw b K st) l ((jw b K st).1 16 l) = evp b l (b.1 16 l) := rfl
theorem j_stepj {b : pb_W} {K : Nat → Int64} {st : List Int64} {l F L ru p : Nat} {kd un : Int64} {s m : Nat} (hp : p < L) (hL : L ≤ 3000) (hc : b.2 26 p = stp s m) (hs : s < 70) (hm : m < 2 ^ 50) : jrun l F L ru kd un p (jw b K st) = pb_bV (M_X0_take [.ref 25, .int (nI s), .long (lN m), .int (nI l)] (jw b K st)) fun w3 => jrun l F L ru kd un (p + 1) w3 := j_step (w := jw b K st) hp hL hc hs hm
theorem j_bin {b : pb_W} {l F L ru p : Nat} {kd un : Int64} {K : Nat → Int64} {x y : Int64} {r : List Int64} {s : Nat} (hs : isJ s) (hp : p < L) (hL : L ≤ 3000) (hc : b.2 26 p = stp s 0) (hr : r.length < 60) (hK : KS K (y :: x :: r)) : ∃ K', jrun l F L ru kd un p (jw b K (y :: x :: r)) = jrun l F L ru kd un (p + 1) (jw b K' (jv s x y :: r)) ∧ KS K' (jv s x y :: r) := by
  obtain ⟨-, k1⟩ := KS_top hK
  obtain ⟨-, k2⟩ := KS_top k1
  refine ⟨vp_updL K r.length (jv s x y), ?_, KS_push k2 _⟩
  rw [j_stepj hp hL hc (by rcases hs with h | h | h | h | h | h | h | h | h <;> omega) (by decide), j_tk_join hs, j_pop (by rw [List.length_cons]; omega) hK, pb_bL_some, j_pop (by omega) k1, pb_bL_some, j_joined hs, pb_bL_some, j_push (by omega), pb_bV_some, pb_bV_some]
theorem j_not {b : pb_W} {l F L ru p : Nat} {kd un : Int64} {K : Nat → Int64} {x : Int64} {r : List Int64} (hp : p < L) (hL : L ≤ 3000) (hc : b.2 26 p = stp 30 0) (hr : r.length < 60) (hK : KS K (x :: r)) : ∃ K', jrun l F L ru kd un p (jw b K (x :: r)) = jrun l F L ru kd un (p + 1) (jw b K' ((1 - x) :: r)) ∧ KS K' ((1 - x) :: r) := by
  obtain ⟨-, k1⟩ := KS_top hK
  refine ⟨vp_updL K r.length (1 - x), ?_, KS_push k1 _⟩
  rw [j_stepj hp hL hc (by decide) (by decide), j_tk_not, j_pop (by omega) hK, pb_bL_some, j_push (by omega), pb_bV_some, pb_bV_some]
theorem opc_J (c : Nat) : isJ (opc c) := by
  unfold opc
  split
  · decide
  · split
    · decide
    · split <;> decide
theorem jv_opc {c : Nat} (h : 2 ≤ c) (x y : Int64) : jv (opc c) x y = opv c x y := by
  unfold opc opv
  by_cases q42 : c = 42
  · subst q42; rfl
  · rw [if_neg q42]
    by_cases q43 : c = 43
    · subst q43; rfl
    · rw [if_neg q43, if_neg q43]
      by_cases q45 : c = 45
      · subst q45; rfl
      · rw [if_neg q45, if_neg q45, if_neg q42]
        rfl
theorem j_sum {b : pb_W} {l F L ru : Nat} {kd un : Int64} (hl : l < 200) (hL : L ≤ 3000) {st0 : List Int64} (h0 : st0.length ≤ 10) : ∀ (c : List (Nat × Nat)) (st : List Int64) (p h : Nat) (K : Nat → Int64), hgt c st.length = some h → cat b p (c.map ic) → p + c.length ≤ L → KS K (st ++ st0) → st.length ≤ 20 → ∃ K', jrun l F L ru kd un p (jw b K (st ++ st0)) = jrun l F L ru kd un (p + c.length) (jw b K' (wst (evp b l (b.1 16 l)).1 c st ++ st0)) ∧ KS K' (wst (evp b l (b.1 16 l)).1 c st ++ st0)
  | [], st, p, h, K, hh, hc, hp, hK, hs => ⟨K, rfl, hK⟩
  | q :: c, st, p, h, K, hh, hc, hp, hK, hs => by
    obtain ⟨c1, c2⟩ := cat_cons (x := ic q) (c := c.map ic) hc
    rw [List.length_cons] at hp
    have eL : p + (q :: c).length = p + 1 + c.length := by rw [List.length_cons]; omega
    have sl : (st ++ st0).length = st.length + st0.length := List.length_append
    rw [wst_cons, eL]
    rcases hgt_cons hh with ⟨a, d, e, g⟩ | ⟨a, d, e, g⟩ | ⟨a, d, e, g⟩
    · have E : stv (evp b l (b.1 16 l)).1 st q = lN q.2 :: st := by unfold stv; rw [if_pos a]
      have C : b.2 26 p = stp 1 q.2 := by rw [c1]; unfold ic; rw [if_pos a]
      obtain ⟨K', k1, k2⟩ := j_sum (b := b) (ru := ru) (kd := kd) (un := un) (F := F) hl hL h0 c (lN q.2 :: st) (p + 1) h (vp_updL K (st ++ st0).length (lN q.2)) g c2 (by omega) (KS_push hK _) (by rw [List.length_cons]; omega)
      rw [E]
      refine ⟨K', ?_, k2⟩
      rw [← k1, j_stepj (by omega) hL C (by decide) (by omega), j_tk_num, j_push (by omega), pb_bV_some, pb_bV_some]
      rfl
    · have E : stv (evp b l (b.1 16 l)).1 st q = (evp b l (b.1 16 l)).1 q.2 :: st := by unfold stv; rw [if_neg (by omega), if_pos a]
      have C : b.2 26 p = stp (q.2 + 2) 0 := by rw [c1]; unfold ic; rw [if_neg (by omega), if_pos a]
      obtain ⟨K', k1, k2⟩ := j_sum (b := b) (ru := ru) (kd := kd) (un := un) (F := F) hl hL h0 c ((evp b l (b.1 16 l)).1 q.2 :: st) (p + 1) h (vp_updL K (st ++ st0).length ((evp b l (b.1 16 l)).1 q.2)) g c2 (by omega) (KS_push hK _) (by rw [List.length_cons]; omega)
      rw [E]
      refine ⟨K', ?_, k2⟩
      rw [← k1, j_stepj (by omega) hL C (by omega) (by decide), j_tk_var hl d, evp_jw, j_push (by omega), pb_bV_some, pb_bV_some]
      rfl
    · obtain ⟨y, x, r, rfl⟩ := len_two e
      have E : stv (evp b l (b.1 16 l)).1 (y :: x :: r) q = opv q.1 x y :: r := by unfold stv; rw [if_neg (by omega), if_neg (by omega)]
      have C : b.2 26 p = stp (opc q.1) 0 := by rw [c1]; unfold ic; rw [if_neg (by omega), if_neg (by omega)]
      rw [List.length_cons, List.length_cons] at hs
      have rl : (r ++ st0).length = r.length + st0.length := List.length_append
      obtain ⟨K1, m1, m2⟩ := j_bin (b := b) (l := l) (F := F) (L := L) (ru := ru) (kd := kd) (un := un) (r := r ++ st0) (opc_J q.1) (by omega) hL C (by omega) hK
      rw [jv_opc a] at m1 m2
      obtain ⟨K', k1, k2⟩ := j_sum (b := b) (ru := ru) (kd := kd) (un := un) (F := F) hl hL h0 c (opv q.1 x y :: r) (p + 1) h K1 g c2 (by omega) m2 (by rw [List.length_cons]; omega)
      rw [E]
      exact ⟨K', m1.trans k1, k2⟩
theorem wst_one {V : Nat → Int64} {c : List (Nat × Nat)} (h : hgt c 0 = some 1) : wst V c [] = [wv V c] := by
  have L := wst_len (V := V) c [] 1 h
  unfold wv
  match hq : wst V c [], L with
  | [x], _ => rfl
/-- what is known of a one -/
def OK (o : On) : Prop := o_beg o ≤ 1 ∧ o_neg o ≤ 1 ∧ o_kind o ≤ 2 ∧ (o_kind o = 1 → o_wd o < 2 ^ 40) ∧ (o_kind o = 0 → (o_cm o = 60 ∨ o_cm o = 61 ∨ o_cm o = 62) ∧ hgt (o_l o) 0 = some 1 ∧ hgt (o_r o) 0 = some 1)
theorem OK_of {b : pb_W} {S O : Nat → Int32} {k g : Nat} {o : On} (h : ORep b S O k o g) : OK o := by
  obtain ⟨h1, h2, h3, h4, h5, h6, h7, h8⟩ := h
  refine ⟨h4, h5, h6, fun q => (h7 q).2, fun q => ?_⟩
  obtain ⟨f, a1, a2, a3, a4, a5, a6, a7, a8, a9, a10⟩ := h8 q
  exact ⟨a5, a9, a10⟩
theorem j_raw {b : pb_W} {l F L ru p : Nat} {kd un : Int64} (hl : l < 200) (hL : L ≤ 3000) {st : List Int64} (h0 : st.length ≤ 8) {o : On} (ho : OK o) {K : Nat → Int64} (hK : KS K st) (hc : cat b p (if o_kind o = 1 then [stp 6 (o_wd o)] else if o_kind o = 2 then [stp 7 0] else (o_l o).map ic ++ (o_r o).map ic ++ [st0 (cmpc (o_cm o))])) (hp : p + (if o_kind o = 1 then [stp 6 (o_wd o)] else if o_kind o = 2 then [stp 7 0] else (o_l o).map ic ++ (o_r o).map ic ++ [st0 (cmpc (o_cm o))]).length ≤ L) : ∃ K', jrun l F L ru kd un p (jw b K st) = jrun l F L ru kd un (p + (if o_kind o = 1 then [stp 6 (o_wd o)] else if o_kind o = 2 then [stp 7 0] else (o_l o).map ic ++ (o_r o).map ic ++ [st0 (cmpc (o_cm o))]).length) (jw b K' (b2l (rawv (evp b l (b.1 16 l)) o) :: st)) ∧ KS K' (b2l (rawv (evp b l (b.1 16 l)) o) :: st) := by
  obtain ⟨o1, o2, o3, o4, o5⟩ := ho
  unfold rawv
  by_cases q1 : o_kind o = 1
  · rw [if_pos q1] at hc hp
    rw [if_pos q1, if_neg (by omega), if_pos q1]
    obtain ⟨c1, -⟩ := cat_cons hc
    rw [List.length_singleton] at hp
    have w40 := o4 q1
    refine ⟨vp_updL K st.length (b2l ((evp b l (b.1 16 l)).2.1 (o_wd o))), ?_, KS_push hK _⟩
    rw [j_stepj (by omega) hL c1 (by decide) (by omega), j_tk_word hl, evp_jw, j_push (by omega), pb_bV_some, pb_bV_some]
    rfl
  · rw [if_neg q1] at hc hp
    rw [if_neg q1]
    by_cases q2 : o_kind o = 2
    · rw [if_pos q2] at hc hp
      rw [if_pos q2, if_pos q2]
      obtain ⟨c1, -⟩ := cat_cons hc
      rw [List.length_singleton] at hp
      refine ⟨vp_updL K st.length (b2l (evp b l (b.1 16 l)).2.2), ?_, KS_push hK _⟩
      rw [j_stepj (by omega) hL c1 (by decide) (by decide), j_tk_came hl, evp_jw, j_push (by omega), pb_bV_some, pb_bV_some]
      rfl
    · rw [if_neg q2] at hc hp
      rw [if_neg q2, if_neg q2, if_neg q1]
      obtain ⟨cm, hl1, hr1⟩ := o5 (by omega)
      obtain ⟨c1, c3⟩ := cat_app hc
      obtain ⟨c1, c2⟩ := cat_app c1
      obtain ⟨c3, -⟩ := cat_cons c3
      rw [List.length_append, List.length_append, List.length_map, List.length_map, List.length_singleton] at hp
      rw [List.length_append, List.length_map, List.length_map] at c3
      rw [List.length_map] at c2
      obtain ⟨K1, m1, m2⟩ := j_sum (b := b) (l := l) (F := F) (L := L) (ru := ru) (kd := kd) (un := un) hl hL (st0 := st) (by omega) (o_l o) [] p 1 K hl1 c1 (by omega) hK (Nat.zero_le _)
      rw [wst_one hl1] at m1 m2
      obtain ⟨K2, m3, m4⟩ := j_sum (b := b) (l := l) (F := F) (L := L) (ru := ru) (kd := kd) (un := un) hl hL (st0 := [wv (evp b l (b.1 16 l)).1 (o_l o)] ++ st) (by rw [List.length_append, List.length_singleton]; omega) (o_r o) [] (p + (o_l o).length) 1 K1 hr1 c2 (by omega) m2 (Nat.zero_le _)
      rw [wst_one hr1] at m3 m4
      have J : isJ (cmpc (o_cm o)) := by
        rcases cm with q | q | q <;> rw [q] <;> decide
      obtain ⟨K3, m5, m6⟩ := j_bin (b := b) (l := l) (F := F) (L := L) (ru := ru) (kd := kd) (un := un) (r := st) (x := wv (evp b l (b.1 16 l)).1 (o_l o)) (y := wv (evp b l (b.1 16 l)).1 (o_r o)) J (p := p + (o_l o).length + (o_r o).length) (by omega) hL (by rw [show p + (o_l o).length + (o_r o).length = p + ((o_l o).length + (o_r o).length) by omega]; exact c3) (by omega) m4
      have V : jv (cmpc (o_cm o)) (wv (evp b l (b.1 16 l)).1 (o_l o)) (wv (evp b l (b.1 16 l)).1 (o_r o)) = b2l (cmpv (o_cm o) (wv (evp b l (b.1 16 l)).1 (o_l o)) (wv (evp b l (b.1 16 l)).1 (o_r o))) := by
        rcases cm with q | q | q <;> rw [q] <;> rfl
      rw [V] at m5 m6
      refine ⟨K3, ?_, m6⟩
      rw [List.length_append, List.length_append, List.length_map, List.length_map, List.length_singleton, show p + ((o_l o).length + (o_r o).length + 1) = p + (o_l o).length + (o_r o).length + 1 by omega]
      exact m1.trans (m3.trans m5)
theorem j_one {b : pb_W} {l F L ru p : Nat} {kd un : Int64} (hl : l < 200) (hL : L ≤ 3000) {st : List Int64} (h0 : st.length ≤ 8) {o : On} (ho : OK o) {K : Nat → Int64} (hK : KS K st) (hc : cat b p (bod o)) (hp : p + (bod o).length ≤ L) : ∃ K', jrun l F L ru kd un p (jw b K st) = jrun l F L ru kd un (p + (bod o).length) (jw b K' (b2l (onv (evp b l (b.1 16 l)) o) :: st)) ∧ KS K' (b2l (onv (evp b l (b.1 16 l)) o) :: st) := by
  unfold bod at hc hp
  unfold bod
  obtain ⟨c1, c2⟩ := cat_app hc
  rw [List.length_append] at hp
  rw [List.length_append]
  obtain ⟨K1, m1, m2⟩ := j_raw (b := b) (l := l) (F := F) (L := L) (ru := ru) (kd := kd) (un := un) hl hL h0 ho hK c1 (by omega)
  unfold onv
  unfold ng at c2 hp
  unfold ng
  by_cases q : o_neg o = 1
  · rw [if_pos q] at c2 hp
    rw [if_pos q, if_pos q]
    obtain ⟨c2, -⟩ := cat_cons c2
    have hp' : ∀ X : Nat, p + (X + 1) ≤ L → p + X < L := fun X h => by omega
    obtain ⟨K2, m3, m4⟩ := j_not (b := b) (l := l) (F := F) (L := L) (ru := ru) (kd := kd) (un := un) (r := st) (hp' _ hp) hL c2 (by omega) m2
    have V : ∀ x : Bool, (1 : Int64) - b2l x = b2l (!x) := by decide
    rw [V] at m3 m4
    exact ⟨K2, m1.trans m3, m4⟩
  · rw [if_neg q, if_neg q]
    exact ⟨K1, m1, m2⟩
