/-! ===== JUDGE: tests and rules ===== -/
def bsl (ha hb : Bool) : List Nat := (if ha then [20] else []) ++ (if hb then [10] else [])
def stl (ha x hb y : Bool) : List Int64 := (if ha then [b2l x] else []) ++ (if hb then [b2l y] else [])
theorem jv_and : ∀ x y : Bool, jv 20 (b2l x) (b2l y) = b2l (x && y) := by decide
theorem jv_or : ∀ x y : Bool, jv 10 (b2l x) (b2l y) = b2l (x || y) := by decide
theorem j_rel {b : pb_W} {l F L ru p : Nat} {kd un : Int64} (hL : L ≤ 3000) {st : List Int64} (h0 : st.length ≤ 8) (ha x hb y v : Bool) {K : Nat → Int64} (hK : KS K (b2l v :: (stl ha x hb y ++ st))) (hc : cat b p ((bsl ha hb).map st0)) (hp : p + (bsl ha hb).length ≤ L) : ∃ K', jrun l F L ru kd un p (jw b K (b2l v :: (stl ha x hb y ++ st))) = jrun l F L ru kd un (p + (bsl ha hb).length) (jw b K' (b2l ((hb && y) || ((!ha || x) && v)) :: st)) ∧ KS K' (b2l ((hb && y) || ((!ha || x) && v)) :: st) := by
  cases ha with
  | false =>
    cases hb with
    | false =>
      refine ⟨K, ?_, ?_⟩
      · cases v <;> rfl
      · cases v <;> exact hK
    | true =>
      obtain ⟨c1, -⟩ := cat_cons (x := st0 10) (c := []) hc
      have hp : p + 1 ≤ L := hp
      obtain ⟨K1, m1, m2⟩ := j_bin (b := b) (l := l) (F := F) (L := L) (ru := ru) (kd := kd) (un := un) (r := st) (x := b2l y) (y := b2l v) (s := 10) (by decide) (by omega) hL c1 (by omega) hK
      rw [jv_or] at m1 m2
      refine ⟨K1, ?_, ?_⟩
      · cases y <;> cases v <;> exact m1
      · cases y <;> cases v <;> exact m2
  | true =>
    cases hb with
    | false =>
      obtain ⟨c1, -⟩ := cat_cons (x := st0 20) (c := []) hc
      have hp : p + 1 ≤ L := hp
      obtain ⟨K1, m1, m2⟩ := j_bin (b := b) (l := l) (F := F) (L := L) (ru := ru) (kd := kd) (un := un) (r := st) (x := b2l x) (y := b2l v) (s := 20) (by decide) (by omega) hL c1 (by omega) hK
      rw [jv_and] at m1 m2
      refine ⟨K1, ?_, ?_⟩
      · cases x <;> cases v <;> exact m1
      · cases x <;> cases v <;> exact m2
    | true =>
      obtain ⟨c1, c2⟩ := cat_cons (x := st0 20) (c := [st0 10]) hc
      obtain ⟨c2, -⟩ := cat_cons c2
      have hp : p + 2 ≤ L := hp
      obtain ⟨K1, m1, m2⟩ := j_bin (b := b) (l := l) (F := F) (L := L) (ru := ru) (kd := kd) (un := un) (r := b2l y :: st) (x := b2l x) (y := b2l v) (s := 20) (by decide) (by omega) hL c1 (by rw [List.length_cons]; omega) hK
      rw [jv_and] at m1 m2
      obtain ⟨K2, m3, m4⟩ := j_bin (b := b) (l := l) (F := F) (L := L) (ru := ru) (kd := kd) (un := un) (r := st) (x := b2l y) (y := b2l (x && v)) (s := 10) (by decide) (by omega) hL c2 (by omega) m2
      rw [jv_or] at m3 m4
      refine ⟨K2, ?_, ?_⟩
      · have := m1.trans m3
        cases x <;> cases y <;> cases v <;> exact this
      · cases x <;> cases y <;> cases v <;> exact m4
theorem bsl_r0 (ha hb : Bool) : rlo 0 (bsl ha hb) = bsl ha hb := by cases ha <;> cases hb <;> decide
theorem bsl_r1 (ha hb : Bool) : rlo 1 (bsl ha hb) = bsl ha hb ∧ 10 :: rlk 1 (bsl ha hb) = bsl false true := by cases ha <;> cases hb <;> decide
theorem bsl_r2 (ha hb : Bool) : rlo 2 (bsl ha hb) = bsl ha false ∧ 20 :: rlk 2 (bsl ha hb) = bsl true hb := by cases ha <;> cases hb <;> decide
theorem stl_sp (ha x hb y : Bool) (st : List Int64) : stl ha x hb y ++ st = stl ha x false y ++ (stl false x hb y ++ st) := by cases ha <;> cases hb <;> rfl
theorem stl_le (ha x hb y : Bool) : (stl ha x hb y).length ≤ 2 := by cases ha <;> cases hb <;> decide +revert
theorem j_test {b : pb_W} {l F L ru : Nat} {kd un : Int64} (hl : l < 200) (hL : L ≤ 3000) {st : List Int64} (h0 : st.length ≤ 5) : ∀ (os : List On) (o : On) (ha x hb y : Bool) (p : Nat) (K : Nat → Int64), OK o → (∀ q, q ∈ os → OK q) → KS K (stl ha x hb y ++ st) → cat b p (cmpT (o :: os) (bsl ha hb)) → p + (cmpT (o :: os) (bsl ha hb)).length ≤ L → ∃ K', jrun l F L ru kd un p (jw b K (stl ha x hb y ++ st)) = jrun l F L ru kd un (p + (cmpT (o :: os) (bsl ha hb)).length) (jw b K' (b2l ((hb && y) || tgo (evp b l (b.1 16 l)) os ((!ha || x) && onv (evp b l (b.1 16 l)) o)) :: st)) ∧ KS K' (b2l ((hb && y) || tgo (evp b l (b.1 16 l)) os ((!ha || x) && onv (evp b l (b.1 16 l)) o)) :: st)
  | [], o, ha, x, hb, y, p, K, ho, _, hK, hc, hp => by
    rw [cmpT, bsl_r0] at hc hp
    rw [cmpT, bsl_r0, tgo]
    obtain ⟨c1, c2⟩ := cat_app hc
    rw [List.length_append, List.length_map] at hp
    rw [List.length_append, List.length_map, ← Nat.add_assoc]
    have sl := stl_le ha x hb y
    have al : (stl ha x hb y ++ st).length = (stl ha x hb y).length + st.length := List.length_append
    obtain ⟨K1, m1, m2⟩ := j_one (b := b) (l := l) (F := F) (L := L) (ru := ru) (kd := kd) (un := un) hl hL (by omega) ho hK c1 (by omega)
    obtain ⟨K2, m3, m4⟩ := j_rel (b := b) (l := l) (F := F) (L := L) (ru := ru) (kd := kd) (un := un) (st := st) hL (by omega) ha x hb y _ m2 c2 (by omega)
    exact ⟨K2, m1.trans m3, m4⟩
  | o' :: os, o, ha, x, hb, y, p, K, ho, hos, hK, hc, hp => by
    rw [cmpT] at hc hp
    rw [cmpT, tgo]
    obtain ⟨c1, c2⟩ := cat_app hc
    rw [List.length_append] at hp
    rw [List.length_append]
    have sl := stl_le ha x hb y
    have al : (stl ha x hb y ++ st).length = (stl ha x hb y).length + st.length := List.length_append
    obtain ⟨K1, m1, m2⟩ := j_one (b := b) (l := l) (F := F) (L := L) (ru := ru) (kd := kd) (un := un) hl hL (by omega) ho hK c1 (by omega)
    generalize onv (evp b l (b.1 16 l)) o = v at m1 m2 ⊢
    by_cases q : o_beg o' = 1
    · rw [if_pos q, (bsl_r1 ha hb).1, (bsl_r1 ha hb).2] at c2 hp
      rw [if_pos q, if_pos q, (bsl_r1 ha hb).1, (bsl_r1 ha hb).2]
      obtain ⟨c2, c3⟩ := cat_app c2
      rw [List.length_append, List.length_map] at hp
      rw [List.length_append, List.length_map]
      rw [List.length_map] at c3
      obtain ⟨K2, m3, m4⟩ := j_rel (b := b) (l := l) (F := F) (L := L) (ru := ru) (kd := kd) (un := un) (st := st) hL (by omega) ha x hb y v m2 c2 (by omega)
      obtain ⟨K3, m5, m6⟩ := j_test (b := b) (F := F) (ru := ru) (kd := kd) (un := un) hl hL h0 os o' false x true ((hb && y) || ((!ha || x) && v)) (p + (bod o).length + (bsl ha hb).length) K2 (hos o' (List.mem_cons_self)) (fun q hq => hos q (List.mem_cons_of_mem _ hq)) m4 c3 (by omega)
      have V : (true && ((hb && y) || ((!ha || x) && v)) || tgo (evp b l (b.1 16 l)) os ((!false || x) && onv (evp b l (b.1 16 l)) o')) = ((hb && y) || (if ((!ha || x) && v) = true then true else tgo (evp b l (b.1 16 l)) os (onv (evp b l (b.1 16 l)) o'))) := by
        rw [Bool.not_false, Bool.true_or, Bool.true_and, Bool.true_and]
        generalize tgo (evp b l (b.1 16 l)) os (onv (evp b l (b.1 16 l)) o') = t
        cases ha <;> cases x <;> cases hb <;> cases y <;> cases v <;> cases t <;> rfl
      rw [V] at m5 m6
      refine ⟨K3, ?_, m6⟩
      rw [show p + ((bod o).length + ((bsl ha hb).length + (cmpT (o' :: os) (bsl false true)).length)) = p + (bod o).length + (bsl ha hb).length + (cmpT (o' :: os) (bsl false true)).length by omega]
      exact m1.trans (m3.trans m5)
    · rw [if_neg q, (bsl_r2 ha hb).1, (bsl_r2 ha hb).2] at c2 hp
      rw [if_neg q, if_neg q, (bsl_r2 ha hb).1, (bsl_r2 ha hb).2]
      obtain ⟨c2, c3⟩ := cat_app c2
      rw [List.length_append, List.length_map] at hp
      rw [List.length_append, List.length_map]
      rw [List.length_map] at c3
      rw [stl_sp ha x hb y st] at m1 m2
      have sl2 := stl_le false x hb y
      obtain ⟨K2, m3, m4⟩ := j_rel (b := b) (l := l) (F := F) (L := L) (ru := ru) (kd := kd) (un := un) (st := stl false x hb y ++ st) hL (by rw [List.length_append]; omega) ha x false y v m2 c2 (by omega)
      have W : (false && y || (!ha || x) && v) = ((!ha || x) && v) := by cases ha <;> cases x <;> cases y <;> cases v <;> rfl
      rw [W] at m3 m4
      have S : b2l ((!ha || x) && v) :: (stl false x hb y ++ st) = stl true ((!ha || x) && v) hb y ++ st := by cases hb <;> rfl
      rw [S] at m3 m4
      obtain ⟨K3, m5, m6⟩ := j_test (b := b) (F := F) (ru := ru) (kd := kd) (un := un) hl hL h0 os o' true ((!ha || x) && v) hb y (p + (bod o).length + (bsl ha false).length) K2 (hos o' (List.mem_cons_self)) (fun q hq => hos q (List.mem_cons_of_mem _ hq)) m4 c3 (by omega)
      rw [Bool.not_true, Bool.false_or] at m5 m6
      refine ⟨K3, ?_, m6⟩
      rw [show p + ((bod o).length + ((bsl ha false).length + (cmpT (o' :: os) (bsl true hb)).length)) = p + (bod o).length + (bsl ha false).length + (cmpT (o' :: os) (bsl true hb)).length by omega]
      rw [← stl_sp ha x hb y st] at m1
      rw [← stl_sp ha x hb y st] at m3
      exact m1.trans (m3.trans m5)
