/-! ===== THE PURE MACHINE: a world of numbers, instructions as functions, a method as a step function over cut points ===== -/
abbrev pb_W : Type := (Nat → Nat → Int32) × (Nat → Nat → Int64)
abbrev pb_L : Type := List (Option Value)
abbrev pb_R : Type := Option Value × pb_W
abbrev pb_S : Type := Nat × pb_L × List Value × pb_W
abbrev pb_O : Type := Option (pb_R ⊕ pb_S)
abbrev pb_C : Type := pb_L → List Value → pb_W → pb_O
def pb_wF (w : pb_W) (c : Nat) (f : Nat → Int32) : pb_W := (va_up w.1 c f, w.2)
def pb_wG (w : pb_W) (c : Nat) (f : Nat → Int64) : pb_W := (w.1, va_up w.2 c f)
def pb_wI (w : pb_W) (c k : Nat) (v : Int32) : pb_W := pb_wF w c (upd (w.1 c) k v)
def pb_wL (w : pb_W) (c k : Nat) (v : Int64) : pb_W := pb_wG w c (vp_updL (w.2 c) k v)
/-- a cell's value out of the world: an array of a kind (0 int, 1 boolean, 2 byte, 3 long), or an object of a class with fields (a reference, an int, a long) -/
def pb_fv (ad : Nat → Nat) (w : pb_W) (i k : Nat) (f : Nat ⊕ Bool) : Value := match f with
  | .inl t => .ref (ad t)
  | .inr true => .int (w.1 i k)
  | .inr false => .long (w.2 i k)
def pb_ent (cs : Nat → ClassId) (ad : Nat → Nat) (w : pb_W) (i : Nat) (x : pb_Sh) : va_E := match x with
  | .inl (t, n) => .inl (cs t, n, if t = 3 then .inr (.inl (w.2 i)) else .inl (w.1 i))
  | .inr (ci, fs) => .inr (ci, fs.mapIdx (pb_fv ad w i))
def pb_mk (cs : Nat → ClassId) (ad : Nat → Nat) (w : pb_W) : va_W := pb_sh.mapIdx fun i x => (ad i, pb_ent cs ad w i x)
abbrev pb_tys (cs : Nat → ClassId) : List (ClassId × FieldType) := [(cs 0, .int), (cs 1, .boolean), (cs 2, .byte), (cs 3, .long)]
theorem pb_mk_at {cs : Nat → ClassId} {ad : Nat → Nat} (w : pb_W) {i : Nat} {x : pb_Sh} (h : pb_sh[i]? = some x) : (pb_mk cs ad w)[i]? = some (ad i, pb_ent cs ad w i x) := by
  simp [pb_mk, h]
theorem pb_ent_cong {cs : Nat → ClassId} {ad : Nat → Nat} {w w' : pb_W} {i : Nat} {x : pb_Sh} (h1 : w'.1 i = w.1 i) (h2 : w'.2 i = w.2 i) : pb_ent cs ad w' i x = pb_ent cs ad w i x := by
  have e : pb_fv ad w' i = pb_fv ad w i := by
    funext k f
    rcases f with t | b
    · rfl
    · cases b
      · simp only [pb_fv, h2]
      · simp only [pb_fv, h1]
  unfold pb_ent
  rw [h1, h2, e]
theorem pb_mk_set {cs : Nat → ClassId} {ad : Nat → Nat} {w w' : pb_W} {i : Nat} {x : pb_Sh} (h1 : ∀ j, j ≠ i → w'.1 j = w.1 j) (h2 : ∀ j, j ≠ i → w'.2 j = w.2 j) (hi : pb_sh[i]? = some x) : (pb_mk cs ad w).set i (ad i, pb_ent cs ad w' i x) = pb_mk cs ad w' := by
  apply List.ext_getElem?
  intro j
  have hlen : i < (pb_mk cs ad w).length := (List.getElem?_eq_some_iff.mp (pb_mk_at w hi)).1
  by_cases hj : i = j
  · subst hj
    rw [List.getElem?_set_self hlen, pb_mk_at w' hi]
  · rw [List.getElem?_set_ne hj]
    simp only [pb_mk, List.getElem?_mapIdx]
    cases hx : pb_sh[j]? with
    | none => rfl
    | some y =>
      simp only [Option.map_some]
      rw [pb_ent_cong (w' := w') (w := w) (h1 j (fun q => hj q.symm)) (h2 j (fun q => hj q.symm))]
theorem pb_wF_o (w : pb_W) {c : Nat} (f : Nat → Int32) : (∀ j, j ≠ c → (pb_wF w c f).1 j = w.1 j) ∧ (∀ j, j ≠ c → (pb_wF w c f).2 j = w.2 j) := ⟨fun j hj => by simp [pb_wF, va_up, hj], fun j hj => rfl⟩
theorem pb_wG_o (w : pb_W) {c : Nat} (f : Nat → Int64) : (∀ j, j ≠ c → (pb_wG w c f).1 j = w.1 j) ∧ (∀ j, j ≠ c → (pb_wG w c f).2 j = w.2 j) := ⟨fun j hj => rfl, fun j hj => by simp [pb_wG, va_up, hj]⟩
theorem pb_wF_s (w : pb_W) (c : Nat) (f : Nat → Int32) : (pb_wF w c f).1 c = f := by simp [pb_wF, va_up]
theorem pb_wG_s (w : pb_W) (c : Nat) (f : Nat → Int64) : (pb_wG w c f).2 c = f := by simp [pb_wG, va_up]
theorem pb_setF {cs : Nat → ClassId} {ad : Nat → Nat} {w : pb_W} {i t n : Nat} (f : Nat → Int32) (h : pb_sh[i]? = some (.inl (t, n))) (ht : t ≠ 3) : (pb_mk cs ad w).set i (ad i, .inl (cs t, n, .inl f)) = pb_mk cs ad (pb_wF w i f) := by
  rw [← pb_mk_set (w := w) (pb_wF_o w f).1 (pb_wF_o w f).2 h]
  simp only [pb_ent, if_neg ht, pb_wF_s]
theorem pb_setG {cs : Nat → ClassId} {ad : Nat → Nat} {w : pb_W} {i n : Nat} (f : Nat → Int64) (h : pb_sh[i]? = some (.inl (3, n))) : (pb_mk cs ad w).set i (ad i, .inl (cs 3, n, .inr (.inl f))) = pb_mk cs ad (pb_wG w i f) := by
  rw [← pb_mk_set (w := w) (pb_wG_o w f).1 (pb_wG_o w f).2 h]
  simp only [pb_ent, pb_wG_s, if_true]
theorem pb_setFI {cs : Nat → ClassId} {ad : Nat → Nat} {w : pb_W} {i ci k : Nat} {fs : List (Nat ⊕ Bool)} (v : Int32) (h : pb_sh[i]? = some (.inr (ci, fs))) (hk : fs[k]? = some (.inr true)) : (pb_mk cs ad w).set i (ad i, .inr (ci, (fs.mapIdx (pb_fv ad w i)).set k (.int v))) = pb_mk cs ad (pb_wI w i k v) := by
  rw [← pb_mk_set (w := w) (w' := pb_wI w i k v) (pb_wF_o w _).1 (pb_wF_o w _).2 h]
  congr 3
  show (ci, _) = (ci, fs.mapIdx (pb_fv ad (pb_wI w i k v) i))
  congr 1
  apply List.ext_getElem?
  intro j
  by_cases hj : k = j
  · subst hj
    have hl : k < (fs.mapIdx (pb_fv ad w i)).length := by
      rw [List.length_mapIdx]
      exact (List.getElem?_eq_some_iff.mp hk).1
    rw [List.getElem?_set_self hl, List.getElem?_mapIdx, hk]
    simp [pb_fv, pb_wI, pb_wF, va_up, upd]
  · rw [List.getElem?_set_ne hj, List.getElem?_mapIdx, List.getElem?_mapIdx]
    cases hx : fs[j]? with
    | none => rfl
    | some y =>
      rcases y with t | b
      · rfl
      · cases b
        · rfl
        · simp [pb_fv, pb_wI, pb_wF, va_up, upd, Ne.symm hj]
theorem pb_setFL {cs : Nat → ClassId} {ad : Nat → Nat} {w : pb_W} {i ci k : Nat} {fs : List (Nat ⊕ Bool)} (v : Int64) (h : pb_sh[i]? = some (.inr (ci, fs))) (hk : fs[k]? = some (.inr false)) : (pb_mk cs ad w).set i (ad i, .inr (ci, (fs.mapIdx (pb_fv ad w i)).set k (.long v))) = pb_mk cs ad (pb_wL w i k v) := by
  rw [← pb_mk_set (w := w) (w' := pb_wL w i k v) (pb_wG_o w _).1 (pb_wG_o w _).2 h]
  congr 3
  show (ci, _) = (ci, fs.mapIdx (pb_fv ad (pb_wL w i k v) i))
  congr 1
  apply List.ext_getElem?
  intro j
  by_cases hj : k = j
  · subst hj
    have hl : k < (fs.mapIdx (pb_fv ad w i)).length := by
      rw [List.length_mapIdx]
      exact (List.getElem?_eq_some_iff.mp hk).1
    rw [List.getElem?_set_self hl, List.getElem?_mapIdx, hk]
    simp [pb_fv, pb_wL, pb_wG, va_up, vp_updL]
  · rw [List.getElem?_set_ne hj, List.getElem?_mapIdx, List.getElem?_mapIdx]
    cases hx : fs[j]? with
    | none => rfl
    | some y =>
      rcases y with t | b
      · rfl
      · cases b
        · simp [pb_fv, pb_wL, pb_wG, va_up, vp_updL, Ne.symm hj]
        · rfl
/-! values, locals -/
def pb_cv (ad : Nat → Nat) (v : Value) : Value := match v with
  | .ref a => .ref (ad a)
  | v => v
theorem pb_cv_cat (ad : Nat → Nat) (v : Value) : (pb_cv ad v).category = v.category := by cases v <;> rfl
theorem pb_cv_sum (ad : Nat → Nat) (st : List Value) : ((st.map (pb_cv ad)).map fun v => v.category).sum = (st.map fun v => v.category).sum := by
  induction st with
  | nil => rfl
  | cons a t ih => simp only [List.map_cons, List.sum_cons, ih, pb_cv_cat]
def pb_lv (ad : Nat → Nat) (ls : Array Slot) (nL : Nat) (lv : pb_L) : Prop := ls.size = nL ∧ lv_wf ls ∧ ∀ (i : Nat) (v : Value), lv[i]? = some (some v) → ls[i]? = some (.val (pb_cv ad v))
def pb_as (ad : Nat → Nat) (nL : Nat) (lv : pb_L) : List (Nat × Value) := (List.range nL).filterMap fun i => match lv[i]? with
  | some (some v) => some (i, pb_cv ad v)
  | _ => none
theorem pb_as_mem {ad : Nat → Nat} {nL : Nat} {lv : pb_L} {i : Nat} {v : Value} (hi : i < nL) (h : lv[i]? = some (some v)) : (i, pb_cv ad v) ∈ pb_as ad nL lv :=
  List.mem_filterMap.mpr ⟨i, List.mem_range.mpr hi, by simp [h]⟩
theorem pb_lv_has {ad : Nat → Nat} {ls : Array Slot} {nL : Nat} {lv : pb_L} (h : pb_lv ad ls nL lv) : lv_has ls nL (pb_as ad nL lv) := by
  refine ⟨h.1, h.2.1, fun q hq => ?_⟩
  obtain ⟨i, -, hi⟩ := List.mem_filterMap.mp hq
  split at hi
  · rename_i v hv
    cases hi
    exact h.2.2 i v hv
  · cases hi
theorem pb_lv_lt {ad : Nat → Nat} {ls : Array Slot} {nL : Nat} {lv : pb_L} (h : pb_lv ad ls nL lv) {i : Nat} {v : Value} (hv : lv[i]? = some (some v)) : i < nL := by
  have := lv_lt (h.2.2 i v hv)
  rw [h.1] at this
  exact this
/-- storing over the second half of a long takes the long away -/
def pb_dr (lv : pb_L) (i : Nat) : pb_L := match i with
  | 0 => lv
  | j + 1 => match lv[j]? with
    | some (some (.long _)) => lv.set j none
    | some (some (.double _)) => lv.set j none
    | _ => lv
def pb_set1 (lv : pb_L) (i : Nat) (v : Value) : pb_L := (pb_dr lv i).set i (some v)
def pb_set2 (lv : pb_L) (i : Nat) (v : Value) : pb_L := ((pb_dr lv i).set i (some v)).set (i + 1) none
theorem pb_dr_at {lv : pb_L} {i j : Nat} {v : Value} (h : (pb_dr lv i)[j]? = some (some v)) : lv[j]? = some (some v) ∧ ¬ (j + 1 = i ∧ v.category = 2) := by
  cases i with
  | zero => exact ⟨h, fun q => by omega⟩
  | succ k =>
    have key : ∀ x : Value, lv[k]? = some (some x) → (pb_dr lv (k + 1) = lv.set k none) → lv[j]? = some (some v) ∧ ¬ (j + 1 = k + 1 ∧ v.category = 2) := by
      intro x hx e
      rw [e] at h
      by_cases hj : k = j
      · subst hj
        rw [List.getElem?_set_self (List.getElem?_eq_some_iff.mp hx).1] at h
        cases h
      · rw [List.getElem?_set_ne hj] at h
        exact ⟨h, fun q => hj (by omega)⟩
    cases hx : lv[k]? with
    | none =>
      have e : pb_dr lv (k + 1) = lv := by simp [pb_dr, hx]
      rw [e] at h
      refine ⟨h, fun q => ?_⟩
      have : j = k := by omega
      rw [this, hx] at h
      cases h
    | some o =>
      cases o with
      | none =>
        have e : pb_dr lv (k + 1) = lv := by simp [pb_dr, hx]
        rw [e] at h
        refine ⟨h, fun q => ?_⟩
        have : j = k := by omega
        rw [this, hx] at h
        cases h
      | some x =>
        by_cases hc : x.category = 2
        · refine key x hx ?_
          cases x <;> simp [Value.category] at hc <;> simp [pb_dr, hx]
        · have e : pb_dr lv (k + 1) = lv := by cases x <;> simp [Value.category] at hc <;> simp [pb_dr, hx]
          rw [e] at h
          refine ⟨h, fun q => ?_⟩
          have : j = k := by omega
          rw [this, hx] at h
          cases h
          exact hc q.2
theorem pb_lv_set1 {ad : Nat → Nat} {ls ls' : Array Slot} {nL i : Nat} {lv : pb_L} {v : Value} (h : pb_lv ad ls nL lv) (h' : lv_has ls' nL ((i, pb_cv ad v) :: (pb_as ad nL lv).filter (fun q => !(q.1 == i) && !(q.1 + 1 == i && q.2.category == 2)))) : pb_lv ad ls' nL (pb_set1 lv i v) := by
  refine ⟨h'.1, h'.2.1, fun j x hj => ?_⟩
  by_cases e : i = j
  · subst e
    have hl : i < (pb_dr lv i).length := by
      rcases Nat.lt_or_ge i (pb_dr lv i).length with q | q
      · exact q
      · rw [pb_set1, List.getElem?_eq_none (by rw [List.length_set]; exact q)] at hj
        cases hj
    rw [pb_set1, List.getElem?_set_self hl] at hj
    cases hj
    exact h'.2.2 (i, pb_cv ad v) List.mem_cons_self
  · rw [pb_set1, List.getElem?_set_ne e] at hj
    obtain ⟨h1, h2⟩ := pb_dr_at hj
    refine h'.2.2 (j, pb_cv ad x) (List.mem_cons_of_mem _ (List.mem_filter.mpr ⟨pb_as_mem (pb_lv_lt h h1) h1, ?_⟩))
    simp only [Bool.and_eq_true, Bool.not_eq_true', beq_eq_false_iff_ne, ne_eq, Bool.and_eq_false_iff]
    refine ⟨fun q => e q.symm, ?_⟩
    by_cases q : j + 1 = i
    · right
      rw [pb_cv_cat]
      exact fun z => h2 ⟨q, z⟩
    · left
      exact q
theorem pb_lv_set2 {ad : Nat → Nat} {ls ls' : Array Slot} {nL i : Nat} {lv : pb_L} {v : Value} (h : pb_lv ad ls nL lv) (h' : lv_has ls' nL ((i, pb_cv ad v) :: (pb_as ad nL lv).filter (fun q => !(q.1 == i) && (!(q.1 == i + 1) && !(q.1 + 1 == i && q.2.category == 2))))) : pb_lv ad ls' nL (pb_set2 lv i v) := by
  refine ⟨h'.1, h'.2.1, fun j x hj => ?_⟩
  have n1 : ¬ i + 1 = j := by
    intro q
    subst q
    rcases Nat.lt_or_ge (i + 1) ((pb_dr lv i).set i (some v)).length with q | q
    · rw [pb_set2, List.getElem?_set_self q] at hj
      cases hj
    · rw [pb_set2, List.getElem?_eq_none (by rw [List.length_set]; exact q)] at hj
      cases hj
  rw [pb_set2, List.getElem?_set_ne n1] at hj
  by_cases e : i = j
  · subst e
    have hl : i < (pb_dr lv i).length := by
      rcases Nat.lt_or_ge i (pb_dr lv i).length with q | q
      · exact q
      · rw [List.getElem?_eq_none (by rw [List.length_set]; exact q)] at hj
        cases hj
    rw [List.getElem?_set_self hl] at hj
    cases hj
    exact h'.2.2 (i, pb_cv ad v) List.mem_cons_self
  · rw [List.getElem?_set_ne e] at hj
    obtain ⟨h1, h2⟩ := pb_dr_at hj
    refine h'.2.2 (j, pb_cv ad x) (List.mem_cons_of_mem _ (List.mem_filter.mpr ⟨pb_as_mem (pb_lv_lt h h1) h1, ?_⟩))
    simp only [Bool.and_eq_true, Bool.not_eq_true', beq_eq_false_iff_ne, ne_eq, Bool.and_eq_false_iff]
    refine ⟨fun q => e q.symm, fun q => n1 q.symm, ?_⟩
    by_cases q : j + 1 = i
    · right
      rw [pb_cv_cat]
      exact fun z => h2 ⟨q, z⟩
    · left
      exact q
/-- fewer locals -/
def pb_mask : List Bool → pb_L → pb_L
  | b :: bs, x :: xs => (if b then x else none) :: pb_mask bs xs
  | _, _ => []
theorem pb_mask_at : ∀ (bs : List Bool) (lv : pb_L) (i : Nat) (v : Value), (pb_mask bs lv)[i]? = some (some v) → lv[i]? = some (some v)
  | [], lv, i, v, h => by simp [pb_mask] at h
  | _ :: _, [], i, v, h => by simp [pb_mask] at h
  | b :: bs, x :: xs, 0, v, h => by
    simp only [pb_mask, List.getElem?_cons_zero] at h ⊢
    cases b
    · simp at h
    · simpa using h
  | b :: bs, x :: xs, i + 1, v, h => by
    simp only [pb_mask, List.getElem?_cons_succ] at h ⊢
    exact pb_mask_at bs xs i v h
theorem pb_lv_mask {ad : Nat → Nat} {ls : Array Slot} {nL : Nat} {lv : pb_L} (h : pb_lv ad ls nL lv) (bs : List Bool) : pb_lv ad ls nL (pb_mask bs lv) := ⟨h.1, h.2.1, fun i v hv => h.2.2 i v (pb_mask_at bs lv i v hv)⟩
/-- the locals at a method's entry: its arguments, a long with its second half, the rest unset -/
def pb_ini : Nat → List Value → pb_L
  | n, [] => List.replicate n none
  | n, v :: vs => if v.category = 2 then some v :: none :: pb_ini (n - 2) vs else some v :: pb_ini (n - 1) vs
theorem pb_ini_at (ad : Nat → Nat) : ∀ (vs : List Value) (n k i : Nat) (v : Value), (pb_ini n vs)[i]? = some (some v) → (k + i, pb_cv ad v) ∈ lv_args k (vs.map (pb_cv ad))
  | [], n, k, i, v, h => by
    simp only [pb_ini, List.getElem?_replicate] at h
    split at h <;> cases h
  | x :: vs, n, k, i, v, h => by
    simp only [List.map_cons, lv_args, pb_cv_cat]
    by_cases hc : x.category = 2
    · simp only [pb_ini, if_pos hc] at h
      simp only [if_pos hc]
      match i, h with
      | 0, h =>
        simp only [List.getElem?_cons_zero] at h
        cases h
        exact List.mem_cons_self
      | 1, h =>
        simp at h
      | j + 2, h =>
        simp only [List.getElem?_cons_succ] at h
        have := pb_ini_at ad vs (n - 2) (k + 2) j v h
        exact List.mem_cons_of_mem _ (by rw [show k + (j + 2) = k + 2 + j by omega]; exact this)
    · simp only [pb_ini, if_neg hc] at h
      simp only [if_neg hc]
      match i, h with
      | 0, h =>
        simp only [List.getElem?_cons_zero] at h
        cases h
        exact List.mem_cons_self
      | j + 1, h =>
        simp only [List.getElem?_cons_succ] at h
        have := pb_ini_at ad vs (n - 1) (k + 1) j v h
        exact List.mem_cons_of_mem _ (by rw [show k + (j + 1) = k + 1 + j by omega]; exact this)
/-! runs of a step function -/
def pb_it (T : Nat → pb_C) : Nat → pb_S → Option pb_R
  | 0, _ => none
  | n + 1, s => match T s.1 s.2.1 s.2.2.1 s.2.2.2 with
    | none => none
    | some (.inl r) => some r
    | some (.inr s') => pb_it T n s'
theorem pb_it_mono (T : Nat → pb_C) : ∀ (n : Nat) (s : pb_S) (r : pb_R), pb_it T n s = some r → pb_it T (n + 1) s = some r
  | 0, _, _, h => by cases h
  | n + 1, s, r, h => by
    rw [pb_it] at h ⊢
    split at h
    · cases h
    · exact h
    · rename_i s' e; exact pb_it_mono T n s' r h
theorem pb_it_le (T : Nat → pb_C) {n : Nat} (k : Nat) {s : pb_S} {r : pb_R} (h : pb_it T n s = some r) : pb_it T (n + k) s = some r := by
  induction k with
  | zero => exact h
  | succ k ih => exact pb_it_mono T _ s r ih
theorem pb_it_one (T : Nat → pb_C) {n k : Nat} {s : pb_S} {r q : pb_R} (h : pb_it T n s = some r) (h2 : pb_it T k s = some q) : r = q := by
  have a := pb_it_le T k h
  have b := pb_it_le T n h2
  rw [Nat.add_comm] at b
  exact Option.some.inj (a.symm.trans b)
noncomputable def pb_run (T : Nat → pb_C) (s : pb_S) : Option pb_R := by
  classical
  exact if h : ∃ r, ∃ n, pb_it T n s = some r then some h.choose else none
theorem pb_run_iff {T : Nat → pb_C} {s : pb_S} {r : pb_R} : pb_run T s = some r ↔ ∃ n, pb_it T n s = some r := by
  unfold pb_run
  constructor
  · intro h
    split at h
    · rename_i q
      cases h
      exact q.choose_spec
    · cases h
  · rintro ⟨n, h⟩
    have q : ∃ r, ∃ n, pb_it T n s = some r := ⟨r, n, h⟩
    rw [dif_pos q]
    obtain ⟨k, hk⟩ := q.choose_spec
    rw [pb_it_one T hk h]
/-- what comes of an outcome -/
noncomputable def pb_fin (T : Nat → pb_C) (o : pb_O) : Option pb_R := match o with
  | none => none
  | some (.inl r) => some r
  | some (.inr s) => pb_run T s
theorem pb_run_step (T : Nat → pb_C) (pc : Nat) (ls : pb_L) (st : List Value) (w : pb_W) : pb_run T (pc, ls, st, w) = pb_fin T (T pc ls st w) := by
  cases e : T pc ls st w with
  | none =>
    cases h : pb_run T (pc, ls, st, w) with
    | none => rfl
    | some r =>
      obtain ⟨n, hn⟩ := pb_run_iff.mp h
      cases n with
      | zero => cases hn
      | succ n =>
        rw [pb_it] at hn
        simp only [e] at hn
        cases hn
  | some o =>
    rcases o with r | s
    · exact pb_run_iff.mpr ⟨1, by rw [pb_it]; simp only [e]⟩
    · show _ = pb_run T s
      cases h : pb_run T s with
      | some r =>
        obtain ⟨n, hn⟩ := pb_run_iff.mp h
        exact pb_run_iff.mpr ⟨n + 1, by rw [pb_it]; simp only [e]; exact hn⟩
      | none =>
        cases h2 : pb_run T (pc, ls, st, w) with
        | none => rfl
        | some r =>
          obtain ⟨n, hn⟩ := pb_run_iff.mp h2
          cases n with
          | zero => cases hn
          | succ n =>
            rw [pb_it] at hn
            simp only [e] at hn
            rw [pb_run_iff.mpr ⟨n, hn⟩] at h
            cases h
def pb_cat (st : List Value) : Nat := (st.map fun v => v.category).sum
theorem pb_cat_len (ad : Nat → Nat) : ∀ vs : List Value, (lg_sl (vs.map (pb_cv ad))).length = pb_cat vs
  | [] => rfl
  | v :: t => by
    have ih := pb_cat_len ad t
    simp only [lg_sl, pb_cat, List.map_cons, List.flatMap_cons, List.length_append, List.sum_cons, pb_cv_cat] at ih ⊢
    rw [ih]
    rcases lv_cat v with h | h <;> simp [h]
noncomputable def pb_M (T : Nat → pb_C) (nL : Nat) (av : List Value) (w : pb_W) : Option pb_R := bif Nat.ble (pb_cat av) nL then pb_run T (0, pb_ini nL av, [], w) else none
theorem pb_fin_none (T : Nat → pb_C) : pb_fin T none = none := rfl
theorem pb_fin_inl (T : Nat → pb_C) (r : pb_R) : pb_fin T (some (.inl r)) = some r := rfl
theorem pb_fin_inr (T : Nat → pb_C) (s : pb_S) : pb_fin T (some (.inr s)) = pb_run T s := rfl
theorem pb_fin_ite (T : Nat → pb_C) (c : Prop) [Decidable c] (a b : pb_O) : pb_fin T (if c then a else b) = if c then pb_fin T a else pb_fin T b := by split <;> rfl
theorem pb_fin_bind (T : Nat → pb_C) {α : Type} (x : Option α) (f : α → pb_O) : pb_fin T (x.bind f) = x.bind (fun a => pb_fin T (f a)) := by cases x <;> rfl
/-! the instructions -/
def pb_pI (st : List Value) (k : Int32 → List Value → pb_O) : pb_O := match st with
  | .int a :: r => k a r
  | _ => none
def pb_pL (st : List Value) (k : Int64 → List Value → pb_O) : pb_O := match st with
  | .long a :: r => k a r
  | _ => none
def pb_pR (st : List Value) (k : Nat → List Value → pb_O) : pb_O := match st with
  | .ref a :: r => k a r
  | _ => none
theorem pb_pI_e {st : List Value} {k : Int32 → List Value → pb_O} {o : pb_R ⊕ pb_S} (h : pb_pI st k = some o) : ∃ a r, st = .int a :: r ∧ k a r = some o := by
  unfold pb_pI at h
  split at h
  · exact ⟨_, _, rfl, h⟩
  · cases h
theorem pb_pL_e {st : List Value} {k : Int64 → List Value → pb_O} {o : pb_R ⊕ pb_S} (h : pb_pL st k = some o) : ∃ a r, st = .long a :: r ∧ k a r = some o := by
  unfold pb_pL at h
  split at h
  · exact ⟨_, _, rfl, h⟩
  · cases h
theorem pb_pR_e {st : List Value} {k : Nat → List Value → pb_O} {o : pb_R ⊕ pb_S} (h : pb_pR st k = some o) : ∃ a r, st = .ref a :: r ∧ k a r = some o := by
  unfold pb_pR at h
  split at h
  · exact ⟨_, _, rfl, h⟩
  · cases h
def i_fail : pb_C := fun _ _ _ => none
def i_jmp (pc : Nat) (mask : List Bool) : pb_C := fun ls st w => some (.inr (pc, pb_mask mask ls, st, w))
def i_const (v : Value) (κ : pb_C) : pb_C := fun ls st w => κ ls (v :: st) w
def i_iload (i : Nat) (κ : pb_C) : pb_C := fun ls st w => match ls[i]? with
  | some (some (.int x)) => κ ls (.int x :: st) w
  | _ => none
def i_lload (i : Nat) (κ : pb_C) : pb_C := fun ls st w => match ls[i]? with
  | some (some (.long x)) => κ ls (.long x :: st) w
  | _ => none
def i_aload (i : Nat) (κ : pb_C) : pb_C := fun ls st w => match ls[i]? with
  | some (some (.ref x)) => κ ls (.ref x :: st) w
  | _ => none
def i_istore (i : Nat) (κ : pb_C) : pb_C := fun ls st w => pb_pI st fun x st => κ (pb_set1 ls i (.int x)) st w
def i_lstore (i : Nat) (κ : pb_C) : pb_C := fun ls st w => pb_pL st fun x st => κ (pb_set2 ls i (.long x)) st w
def i_astore (i : Nat) (κ : pb_C) : pb_C := fun ls st w => pb_pR st fun x st => κ (pb_set1 ls i (.ref x)) st w
def i_iinc (i : Nat) (n : Int32) (κ : pb_C) : pb_C := fun ls st w => match ls[i]? with
  | some (some (.int x)) => κ (pb_set1 ls i (.int (x + n))) st w
  | _ => none
def i_ibin (f : Int32 → Int32 → Int32) (κ : pb_C) : pb_C := fun ls st w => pb_pI st fun y st => pb_pI st fun x st => κ ls (.int (f x y) :: st) w
def i_idivr (f : Int32 → Int32 → Int32) (κ : pb_C) : pb_C := fun ls st w => pb_pI st fun y st => pb_pI st fun x st => if y = 0 then none else κ ls (.int (f x y) :: st) w
def i_iun (f : Int32 → Int32) (κ : pb_C) : pb_C := fun ls st w => pb_pI st fun x st => κ ls (.int (f x) :: st) w
def i_lbin (f : Int64 → Int64 → Int64) (κ : pb_C) : pb_C := fun ls st w => pb_pL st fun y st => pb_pL st fun x st => κ ls (.long (f x y) :: st) w
def i_ldivr (f : Int64 → Int64 → Int64) (κ : pb_C) : pb_C := fun ls st w => pb_pL st fun y st => pb_pL st fun x st => if y = 0 then none else κ ls (.long (f x y) :: st) w
def i_lun (f : Int64 → Int64) (κ : pb_C) : pb_C := fun ls st w => pb_pL st fun x st => κ ls (.long (f x) :: st) w
def i_lsh (f : Int64 → Int32 → Int64) (κ : pb_C) : pb_C := fun ls st w => pb_pI st fun y st => pb_pL st fun x st => κ ls (.long (f x y) :: st) w
def i_lcmp (κ : pb_C) : pb_C := fun ls st w => pb_pL st fun y st => pb_pL st fun x st => κ ls (.int (lg_cmp x y) :: st) w
def i_i2l (κ : pb_C) : pb_C := fun ls st w => pb_pI st fun x st => κ ls (.long x.toInt64 :: st) w
def i_l2i (κ : pb_C) : pb_C := fun ls st w => pb_pL st fun x st => κ ls (.int x.toInt32 :: st) w
def i_dupI (κ : pb_C) : pb_C := fun ls st w => pb_pI st fun x st => κ ls (.int x :: .int x :: st) w
def i_dupR (κ : pb_C) : pb_C := fun ls st w => pb_pR st fun x st => κ ls (.ref x :: .ref x :: st) w
def i_dup2 (κ : pb_C) : pb_C := fun ls st w => pb_pI st fun y st => pb_pR st fun x st => κ ls (.int y :: .ref x :: .int y :: .ref x :: st) w

/-! branches: only < and = -/
def i_ic_eq (κt κf : pb_C) : pb_C := fun ls st w => pb_pI st fun y st => pb_pI st fun x st => if x = y then κt ls st w else κf ls st w
def i_if_eq (κt κf : pb_C) : pb_C := fun ls st w => pb_pI st fun x st => if x = 0 then κt ls st w else κf ls st w
def i_ic_ne (κt κf : pb_C) : pb_C := fun ls st w => pb_pI st fun y st => pb_pI st fun x st => if x = y then κf ls st w else κt ls st w
def i_if_ne (κt κf : pb_C) : pb_C := fun ls st w => pb_pI st fun x st => if x = 0 then κf ls st w else κt ls st w
def i_ic_lt (κt κf : pb_C) : pb_C := fun ls st w => pb_pI st fun y st => pb_pI st fun x st => if x < y then κt ls st w else κf ls st w
def i_if_lt (κt κf : pb_C) : pb_C := fun ls st w => pb_pI st fun x st => if x < 0 then κt ls st w else κf ls st w
def i_ic_ge (κt κf : pb_C) : pb_C := fun ls st w => pb_pI st fun y st => pb_pI st fun x st => if x < y then κf ls st w else κt ls st w
def i_if_ge (κt κf : pb_C) : pb_C := fun ls st w => pb_pI st fun x st => if x < 0 then κf ls st w else κt ls st w
def i_ic_gt (κt κf : pb_C) : pb_C := fun ls st w => pb_pI st fun y st => pb_pI st fun x st => if y < x then κt ls st w else κf ls st w
def i_if_gt (κt κf : pb_C) : pb_C := fun ls st w => pb_pI st fun x st => if 0 < x then κt ls st w else κf ls st w
def i_ic_le (κt κf : pb_C) : pb_C := fun ls st w => pb_pI st fun y st => pb_pI st fun x st => if y < x then κf ls st w else κt ls st w
def i_if_le (κt κf : pb_C) : pb_C := fun ls st w => pb_pI st fun x st => if 0 < x then κf ls st w else κt ls st w
def i_sw (cases : List (Int32 × pb_C)) (dflt : pb_C) : pb_C := match cases with
  | [] => fun ls st w => pb_pI st fun _ st => dflt ls st w
  | (k, κ) :: r => fun ls st w => pb_pI st fun x st2 => if x = k then κ ls st2 w else i_sw r dflt ls st w
/-! fields, arrays: o is the cell that must lie there -/
def i_getR (o t : Nat) (κ : pb_C) : pb_C := fun ls st w => pb_pR st fun a st => if a = o then κ ls (.ref t :: st) w else none
def i_getI (o k : Nat) (κ : pb_C) : pb_C := fun ls st w => pb_pR st fun a st => if a = o then κ ls (.int (w.1 o k) :: st) w else none
def i_getL (o k : Nat) (κ : pb_C) : pb_C := fun ls st w => pb_pR st fun a st => if a = o then κ ls (.long (w.2 o k) :: st) w else none
def i_putI (o k : Nat) (κ : pb_C) : pb_C := fun ls st w => pb_pI st fun x st => pb_pR st fun a st => if a = o then κ ls st (pb_wI w o k x) else none
def i_putZ (o k : Nat) (κ : pb_C) : pb_C := fun ls st w => pb_pI st fun x st => pb_pR st fun a st => if a = o then (if x = 0 ∨ x = 1 then κ ls st (pb_wI w o k x) else none) else none
def i_putL (o k : Nat) (κ : pb_C) : pb_C := fun ls st w => pb_pL st fun x st => pb_pR st fun a st => if a = o then κ ls st (pb_wL w o k x) else none
abbrev pb_in (i : Int32) (n : Nat) : Prop := 0 ≤ i.toInt ∧ i.toInt < (n : Int)
def i_ald (o n : Nat) (κ : pb_C) : pb_C := fun ls st w => pb_pI st fun i st => pb_pR st fun a st => if a = o then (if pb_in i n then κ ls (.int (w.1 o i.toNatClampNeg) :: st) w else none) else none
def i_lald (o n : Nat) (κ : pb_C) : pb_C := fun ls st w => pb_pI st fun i st => pb_pR st fun a st => if a = o then (if pb_in i n then κ ls (.long (w.2 o i.toNatClampNeg) :: st) w else none) else none
def i_ast (o n : Nat) (f : Int32 → Int32) (κ : pb_C) : pb_C := fun ls st w => pb_pI st fun x st => pb_pI st fun i st => pb_pR st fun a st => if a = o then (if pb_in i n then κ ls st (pb_wI w o i.toNatClampNeg (f x)) else none) else none
def i_last (o n : Nat) (κ : pb_C) : pb_C := fun ls st w => pb_pL st fun x st => pb_pI st fun i st => pb_pR st fun a st => if a = o then (if pb_in i n then κ ls st (pb_wL w o i.toNatClampNeg x) else none) else none
def i_alen (o n : Nat) (κ : pb_C) : pb_C := fun ls st w => pb_pR st fun a st => if a = o then κ ls (.int (Int32.ofNat n) :: st) w else none
/-! what nobody writes: String constants (300 + i; their bytes 310 + i), the row of keywords (320) -/
def i_cald (o n : Nat) (f : Nat → Int32) (κ : pb_C) : pb_C := fun ls st w => pb_pI st fun i st => pb_pR st fun a st => if a = o then (if pb_in i n then κ ls (.int (f i.toNatClampNeg) :: st) w else none) else none
def i_clald (o n : Nat) (f : Nat → Int64) (κ : pb_C) : pb_C := fun ls st w => pb_pI st fun i st => pb_pR st fun a st => if a = o then (if pb_in i n then κ ls (.long (f i.toNatClampNeg) :: st) w else none) else none
def i_getC (o : Nat) (v : Value) (κ : pb_C) : pb_C := fun ls st w => pb_pR st fun a st => if a = o then κ ls (v :: st) w else none
/-! copies: from cell o to cell q -/
def i_copy (o n q k : Nat) (κ : pb_C) : pb_C := fun ls st w => pb_pI st fun m st => pb_pI st fun dp st => pb_pR st fun b st => pb_pI st fun sp st => pb_pR st fun a st => if a = o then (if b = q then (if 0 ≤ sp.toInt ∧ 0 ≤ dp.toInt ∧ 0 ≤ m.toInt ∧ sp.toInt + m.toInt ≤ (n : Int) ∧ dp.toInt + m.toInt ≤ (k : Int) then (bif Nat.ble (pb_cat st) 8 then κ ls st (pb_wF w q (va_cpy (w.1 o) (w.1 q) sp.toNatClampNeg dp.toNatClampNeg m.toNatClampNeg)) else none) else none) else none) else none
def i_copyL (o n q k : Nat) (κ : pb_C) : pb_C := fun ls st w => pb_pI st fun m st => pb_pI st fun dp st => pb_pR st fun b st => pb_pI st fun sp st => pb_pR st fun a st => if a = o then (if b = q then (if 0 ≤ sp.toInt ∧ 0 ≤ dp.toInt ∧ 0 ≤ m.toInt ∧ sp.toInt + m.toInt ≤ (n : Int) ∧ dp.toInt + m.toInt ≤ (k : Int) then (bif Nat.ble (pb_cat st) 8 then κ ls st (pb_wG w q (va_cpy (w.2 o) (w.2 q) sp.toNatClampNeg dp.toNatClampNeg m.toNatClampNeg)) else none) else none) else none) else none
/-! Math -/
def pb_max (x y : Int32) : Int32 := if x < y then y else x
def pb_min (x y : Int32) : Int32 := if y < x then y else x
def pb_abs (x : Int32) : Int32 := if 0 ≤ x then x else 0 - x
def pb_maxL (x y : Int64) : Int64 := if y < x then x else y
def pb_minL (x y : Int64) : Int64 := if y < x then y else x
def pb_absL (x : Int64) : Int64 := if 0 < x then x else -x
def i_mI2 (f : Int32 → Int32 → Int32) (κ : pb_C) : pb_C := fun ls st w => pb_pI st fun y st => pb_pI st fun x st => bif Nat.ble (pb_cat st) 8 then κ ls (.int (f x y) :: st) w else none
def i_mI1 (f : Int32 → Int32) (κ : pb_C) : pb_C := fun ls st w => pb_pI st fun x st => bif Nat.ble (pb_cat st) 8 then κ ls (.int (f x) :: st) w else none
def i_mL2 (f : Int64 → Int64 → Int64) (κ : pb_C) : pb_C := fun ls st w => pb_pL st fun y st => pb_pL st fun x st => bif Nat.ble (pb_cat st) 8 then κ ls (.long (f x y) :: st) w else none
def i_mL1 (f : Int64 → Int64) (κ : pb_C) : pb_C := fun ls st w => pb_pL st fun x st => bif Nat.ble (pb_cat st) 8 then κ ls (.long (f x) :: st) w else none
/-! calls -/
abbrev pb_F : Type := List Value → pb_W → Option pb_R
def pb_bI {α : Type} (o : Option pb_R) (k : Int32 → pb_W → Option α) : Option α := match o with
  | some (some (.int x), w) => k x w
  | _ => none
def pb_bL {α : Type} (o : Option pb_R) (k : Int64 → pb_W → Option α) : Option α := match o with
  | some (some (.long x), w) => k x w
  | _ => none
def pb_bV {α : Type} (o : Option pb_R) (k : pb_W → Option α) : Option α := match o with
  | some (none, w) => k w
  | _ => none
theorem pb_bI_some {α : Type} (x : Int32) (w : pb_W) (k : Int32 → pb_W → Option α) : pb_bI (some (some (.int x), w)) k = k x w := rfl
theorem pb_bL_some {α : Type} (x : Int64) (w : pb_W) (k : Int64 → pb_W → Option α) : pb_bL (some (some (.long x), w)) k = k x w := rfl
theorem pb_bV_some {α : Type} (w : pb_W) (k : pb_W → Option α) : pb_bV (some (none, w)) k = k w := rfl
theorem pb_fin_bI (T : Nat → pb_C) (o : Option pb_R) (k : Int32 → pb_W → pb_O) : pb_fin T (pb_bI o k) = pb_bI o (fun x w => pb_fin T (k x w)) := by
  unfold pb_bI
  split <;> rfl
theorem pb_fin_bL (T : Nat → pb_C) (o : Option pb_R) (k : Int64 → pb_W → pb_O) : pb_fin T (pb_bL o k) = pb_bL o (fun x w => pb_fin T (k x w)) := by
  unfold pb_bL
  split <;> rfl
theorem pb_fin_bV (T : Nat → pb_C) (o : Option pb_R) (k : pb_W → pb_O) : pb_fin T (pb_bV o k) = pb_bV o (fun w => pb_fin T (k w)) := by
  unfold pb_bV
  split <;> rfl
theorem pb_bI_ite {α : Type} (c : Prop) [Decidable c] (a b : Option pb_R) (k : Int32 → pb_W → Option α) : pb_bI (if c then a else b) k = if c then pb_bI a k else pb_bI b k := by split <;> rfl
theorem pb_bL_ite {α : Type} (c : Prop) [Decidable c] (a b : Option pb_R) (k : Int64 → pb_W → Option α) : pb_bL (if c then a else b) k = if c then pb_bL a k else pb_bL b k := by split <;> rfl
def pb_bR (kd : Nat) (o : Option pb_R) (rest : List Value) (k : List Value → pb_W → pb_O) : pb_O := match kd with
  | 0 => pb_bV o (fun w => k rest w)
  | 1 => pb_bI o (fun x w => k (.int x :: rest) w)
  | _ => pb_bL o (fun x w => k (.long x :: rest) w)
theorem pb_bR_e {kd : Nat} {o : Option pb_R} {rest : List Value} {k : List Value → pb_W → pb_O} {q : pb_R ⊕ pb_S} (h : pb_bR kd o rest k = some q) : ∃ r, o = some r ∧ k (r.1.toList ++ rest) r.2 = some q := by
  unfold pb_bR at h
  split at h
  · unfold pb_bV at h
    split at h
    · exact ⟨_, rfl, h⟩
    · cases h
  · unfold pb_bI at h
    split at h
    · exact ⟨_, rfl, h⟩
    · cases h
  · unfold pb_bL at h
    split at h
    · exact ⟨_, rfl, h⟩
    · cases h
def i_callS (n kd : Nat) (F : pb_F) (κ : pb_C) : pb_C := fun ls st w => bif Nat.ble n st.length && Nat.ble (pb_cat (st.drop n)) 8 then pb_bR kd (F (st.take n).reverse w) (st.drop n) (fun st w => κ ls st w) else none
def i_callV (o n kd : Nat) (F : pb_F) (κ : pb_C) : pb_C := fun ls st w => bif Nat.ble n st.length then (pb_pR (st.drop n) fun a rest => if a = o then (bif Nat.ble (pb_cat rest) 8 then pb_bR kd (F (.ref o :: (st.take n).reverse) w) rest (fun st w => κ ls st w) else none) else none) else none
/-! returns -/
def i_iret : pb_C := fun _ st w => pb_pI st fun x st => match st with
  | [] => some (.inl (some (.int x), w))
  | _ => none
def i_zret : pb_C := fun _ st w => pb_pI st fun x st => match st with
  | [] => if x = 0 ∨ x = 1 then some (.inl (some (.int x), w)) else none
  | _ => none
def i_nret (f : Int32 → Int32) : pb_C := fun _ st w => pb_pI st fun x st => match st with
  | [] => if f x = x then some (.inl (some (.int x), w)) else none
  | _ => none
def i_lret : pb_C := fun _ st w => pb_pL st fun x st => match st with
  | [] => some (.inl (some (.long x), w))
  | _ => none
def i_vret : pb_C := fun _ st w => match st with
  | [] => some (.inl (none, w))
  | _ => none
/-! ===== SOUNDNESS: a step of the pure machine is a step of the machine ===== -/
def pb_isNest : Cond → Bool
  | .fieldLinkNest .. => true
  | .methodLinkNest .. => true
  | _ => false
def pb_tbl : List Cond := lw_tbl.filter goodWord
def pb_nests : List Cond := lw_tbl.filter pb_isNest
theorem pb_tbl_good : ∀ w ∈ pb_tbl, w ∈ pb_tbl ∧ ((w.onTables && w.keeps) = true ∨ ∃ ty, w = .arrayClass ty) := fun w h => ⟨h, good_of_word (List.mem_filter.mp h).2⟩
theorem pb_nest_keep {w : Cond} (h : w ∈ pb_nests) {s U : State} (hW : s.WarmedH U.vm) (hz : va_Nw w s) : va_Nw w U := by
  have h2 := (List.mem_filter.mp h).2
  cases w <;> simp [pb_isNest] at h2
  · exact va_Nw.warmM hW hz
  · exact va_Nw.warmF hW hz
theorem pb_nest_same {w : Cond} (h : w ∈ pb_nests) {s U : State} (hv : s.vm = U.vm) (hz : va_Nw w s) : va_Nw w U := by
  have h2 := (List.mem_filter.mp h).2
  cases w <;> simp [pb_isNest] at h2 <;> exact va_tabs rfl hv hz
def pb_jsN : List Nat := pb_strs.map fun b => b.length
/-- what nobody writes -/
def pb_stat (ad : Nat → Nat) (A : Nat → Prop) (U : State) (H : Heap) : Prop :=
  vk_S pb_strs.length pb_jsN pb_strs (fun i => ad (300 + i)) (fun i => ad (310 + i)) A U H ∧
  (∀ q ∈ pb_srefs, vk_R q.1 q.2.1 q.2.2.1 (ad (300 + q.2.2.2)) U) ∧
  va_Z "PennyBooks$Reader" "KEYWORDS" "[J" (.ref (ad 320)) A U H ∧ va_T .long (ad 320) 13 (fun j => .long (pb_keys.getD j 0)) A U H ∧
  va_Z "java/lang/String" "COMPACT_STRINGS" "Z" (.int 1) A U H ∧ va_Zq "jdk/internal/util/Preconditions" "SIOOBE_FORMATTER" "Ljava/util/function/BiFunction;" A U H
theorem pb_stat_moved {ad : Nat → Nat} {A : Nat → Prop} {u U : State} {H : Heap} (hW : u.WarmedH U.vm) (h : pb_stat ad A u H) : pb_stat ad A U H :=
  ⟨h.1.moved hW.alike, fun q hq => (h.2.1 q hq).warm hW, h.2.2.1.moved hW.alike, h.2.2.2.1.moved hW.alike, h.2.2.2.2.1.moved hW.alike, h.2.2.2.2.2.moved hW.alike⟩
theorem pb_stat_same {ad : Nat → Nat} {A : Nat → Prop} {u U : State} {H : Heap} (hv : U.vm = u.vm) (h : pb_stat ad A u H) : pb_stat ad A U H := by
  have ha : u.vm.Alike U.vm := by rw [hv]; exact Vm.Alike.refl _
  exact ⟨h.1.moved ha, fun q hq => (h.2.1 q hq).same hv, h.2.2.1.moved ha, h.2.2.2.1.moved ha, h.2.2.2.2.1.moved ha, h.2.2.2.2.2.moved ha⟩
theorem pb_stat_kept {ad : Nat → Nat} {A : Nat → Prop} {U : State} {H H1 : Heap} (hq : ∀ a : Nat, a < H.size → ¬ A a → H1[a]? = H[a]?) (h : pb_stat ad A U H) : pb_stat ad A U H1 :=
  ⟨h.1.kept hq, h.2.1, h.2.2.1.kept hq, h.2.2.2.1.kept hq, h.2.2.2.2.1.kept hq, h.2.2.2.2.2.kept hq⟩
abbrev pb_G : Type := Program × Launch × Env × Room × State × MethodId × Array Value × List Frame × Method × Code × (State → Prop) × Nat × va_G × (Nat → Nat) × (Nat → ClassId) × (Nat → Prop) × (pb_R ⊕ pb_S → Prop) × Nat × Nat
def pb_X (Γ : pb_G) (cc : ByteArray) (own : String) : Prop := match Γ with
  | (p, _, _, R, s, m, args, _, _, c, _, nL, D, ad, cs, A, _, kc, ks) => p.tables.exec = Jvm.exec ∧ c.code = cc ∧ c.maxLocals = nL ∧ s.vm.findClass own = some m.cls ∧ (∀ w ∈ pb_tbl, w.before args s = true) ∧ va_K D vwCl (pb_tys cs) s ∧ (∀ w ∈ pb_nests, va_Nw w s) ∧ (∀ q, s.heap.size ≤ q → A q) ∧ pb_stat ad A s s.heap ∧ (kc ≤ R.cells ∧ ks ≤ R.slots)
def pb_Snd (Γ : pb_G) (pc : Nat) (κ : pb_C) : Prop := match Γ with
  | (p, l, e, R, s, m, args, below, meth, c, Q, nL, D, ad, cs, A, good, kc, ks) => ∀ (lv : pb_L) (st : List Value) (w : pb_W) (o : pb_R ⊕ pb_S) (ls : Array Slot) (H : Heap) (locs : List Loc), κ lv st w = some o → good o → pb_lv ad ls nL lv → va_P D vwCl (pb_mk cs ad w) H → va_D A (pb_mk cs ad w) → va_S A s.heap H locs → W p l e R s m args below meth c H locs kc ks Q (F0 m pc ls (st.map (pb_cv ad)))
def pb_J (Γ : pb_G) : Prop := match Γ with
  | (p, l, e, R, s, m, args, below, meth, c, Q, nL, D, ad, cs, A, good, kc, ks) => ∀ (pc : Nat) (lv : pb_L) (st : List Value) (w : pb_W) (ls : Array Slot) (H : Heap) (locs : List Loc), good (.inr (pc, lv, st, w)) → pb_lv ad ls nL lv → va_P D vwCl (pb_mk cs ad w) H → va_D A (pb_mk cs ad w) → va_S A s.heap H locs → W p l e R s m args below meth c H locs kc ks Q (F0 m pc ls (st.map (pb_cv ad)))
section PBS
variable {Γ : pb_G} {cc : ByteArray} {own : String} {pc : Nat} {κ κt κf : pb_C}
theorem s_fail : pb_Snd Γ pc i_fail := by
  obtain ⟨p, l, e, R, s, m, args, below, meth, c, Q, nL, D, ad, cs, A, good, kc, ks⟩ := Γ
  intro lv st w o ls H locs h
  cases h
theorem s_jmp (J : pb_J Γ) (mask : List Bool) : pb_Snd Γ pc (i_jmp pc mask) := by
  obtain ⟨p, l, e, R, s, m, args, below, meth, c, Q, nL, D, ad, cs, A, good, kc, ks⟩ := Γ
  intro lv st w o ls H locs h hg hl hP hD hS
  cases h
  exact J pc _ st w ls H locs hg (pb_lv_mask hl mask) hP hD hS
theorem s_iconst (X : pb_X Γ cc own) {n : Int} {v : Int32} (hd : decode cc pc = .ok (.iconst n, 1)) (hv : Int32.ofInt n = v) (k : pb_Snd Γ (pc + 1) κ) : pb_Snd Γ pc (i_const (.int v) κ) := by
  obtain ⟨p, l, e, R, s, m, args, below, meth, c, Q, nL, D, ad, cs, A, good, kc, ks⟩ := Γ
  obtain ⟨hx, hb, hml, hown, hts, hK, hN, hA, hZ, hkc⟩ := X
  intro lv st w o ls H locs h hg hl hP hD hS
  exact lv_iconst hx hb hd hv (k lv (.int v :: st) w o ls H locs h hg hl hP hD hS)
theorem s_bipush (X : pb_X Γ cc own) {n : Int} {v : Int32} (hd : decode cc pc = .ok (.bipush n, 2)) (hv : (Int8.ofInt n).toInt32 = v) (k : pb_Snd Γ (pc + 2) κ) : pb_Snd Γ pc (i_const (.int v) κ) := by
  obtain ⟨p, l, e, R, s, m, args, below, meth, c, Q, nL, D, ad, cs, A, good, kc, ks⟩ := Γ
  obtain ⟨hx, hb, hml, hown, hts, hK, hN, hA, hZ, hkc⟩ := X
  intro lv st w o ls H locs h hg hl hP hD hS
  exact lv_bipush hx hb hd hv (k lv (.int v :: st) w o ls H locs h hg hl hP hD hS)
theorem s_sipush (X : pb_X Γ cc own) {n : Int} {v : Int32} (hd : decode cc pc = .ok (.sipush n, 3)) (hv : (Int16.ofInt n).toInt32 = v) (k : pb_Snd Γ (pc + 3) κ) : pb_Snd Γ pc (i_const (.int v) κ) := by
  obtain ⟨p, l, e, R, s, m, args, below, meth, c, Q, nL, D, ad, cs, A, good, kc, ks⟩ := Γ
  obtain ⟨hx, hb, hml, hown, hts, hK, hN, hA, hZ, hkc⟩ := X
  intro lv st w o ls H locs h hg hl hP hD hS
  exact lv_sipush hx hb hd hv (k lv (.int v :: st) w o ls H locs h hg hl hP hD hS)
theorem s_lconst (X : pb_X Γ cc own) {n : Fin 2} {v : Int64} (hd : decode cc pc = .ok (.lconst n, 1)) (hv : Int64.ofNat (n : Nat) = v) (k : pb_Snd Γ (pc + 1) κ) : pb_Snd Γ pc (i_const (.long v) κ) := by
  obtain ⟨p, l, e, R, s, m, args, below, meth, c, Q, nL, D, ad, cs, A, good, kc, ks⟩ := Γ
  obtain ⟨hx, hb, hml, hown, hts, hK, hN, hA, hZ, hkc⟩ := X
  intro lv st w o ls H locs h hg hl hP hD hS
  exact lv_lconst hx hb hd hv (k lv (.long v :: st) w o ls H locs h hg hl hP hD hS)
theorem s_ldc (X : pb_X Γ cc own) {n : Nat} {v : Int32} (hd : decode cc pc = .ok (.ldc n, 2)) (hc : Cond.constant own n v ∈ pb_tbl) (k : pb_Snd Γ (pc + 2) κ) : pb_Snd Γ pc (i_const (.int v) κ) := by
  obtain ⟨p, l, e, R, s, m, args, below, meth, c, Q, nL, D, ad, cs, A, good, kc, ks⟩ := Γ
  obtain ⟨hx, hb, hml, hown, hts, hK, hN, hA, hZ, hkc⟩ := X
  intro lv st w o ls H locs h hg hl hP hD hS
  exact lv_ldc hx hb hown (hts _ hc) hd (k lv (.int v :: st) w o ls H locs h hg hl hP hD hS)
theorem s_ldc_w (X : pb_X Γ cc own) {n : Nat} {v : Int32} (hd : decode cc pc = .ok (.ldc_w n, 3)) (hc : Cond.constant own n v ∈ pb_tbl) (k : pb_Snd Γ (pc + 3) κ) : pb_Snd Γ pc (i_const (.int v) κ) := by
  obtain ⟨p, l, e, R, s, m, args, below, meth, c, Q, nL, D, ad, cs, A, good, kc, ks⟩ := Γ
  obtain ⟨hx, hb, hml, hown, hts, hK, hN, hA, hZ, hkc⟩ := X
  intro lv st w o ls H locs h hg hl hP hD hS
  exact lv_ldcw hx hb hown (hts _ hc) hd (k lv (.int v :: st) w o ls H locs h hg hl hP hD hS)
theorem s_ldc2 (X : pb_X Γ cc own) {n : Nat} {v : Int64} (hd : decode cc pc = .ok (.ldc2_w n, 3)) (hc : Cond.constantLong own n v ∈ pb_tbl) (k : pb_Snd Γ (pc + 3) κ) : pb_Snd Γ pc (i_const (.long v) κ) := by
  obtain ⟨p, l, e, R, s, m, args, below, meth, c, Q, nL, D, ad, cs, A, good, kc, ks⟩ := Γ
  obtain ⟨hx, hb, hml, hown, hts, hK, hN, hA, hZ, hkc⟩ := X
  intro lv st w o ls H locs h hg hl hP hD hS
  exact lv_ldc2 hx hb hown (hts _ hc) hd (k lv (.long v :: st) w o ls H locs h hg hl hP hD hS)
theorem s_ldcS (X : pb_X Γ cc own) {n i : Nat} {tx : String} (hd : decode cc pc = .ok (.ldc n, 2)) (hc : (own, n, tx, i) ∈ pb_srefs) (k : pb_Snd Γ (pc + 2) κ) : pb_Snd Γ pc (i_const (.ref (300 + i)) κ) := by
  obtain ⟨p, l, e, R, s, m, args, below, meth, c, Q, nL, D, ad, cs, A, good, kc, ks⟩ := Γ
  obtain ⟨hx, hb, hml, hown, hts, hK, hN, hA, hZ, hkc⟩ := X
  intro lv st w o ls H locs h hg hl hP hD hS
  exact va_ldcS hx hb hown (hZ.2.1 _ hc) hd (k lv (.ref (300 + i) :: st) w o ls H locs h hg hl hP hD hS)
theorem s_iload_n (X : pb_X Γ cc own) {j : Fin 4} {i : Nat} (hd : decode cc pc = .ok (.iload_n j, 1)) (hi : (j : Nat) = i) (k : pb_Snd Γ (pc + 1) κ) : pb_Snd Γ pc (i_iload i κ) := by
  obtain ⟨p, l, e, R, s, m, args, below, meth, c, Q, nL, D, ad, cs, A, good, kc, ks⟩ := Γ
  obtain ⟨hx, hb, hml, hown, hts, hK, hN, hA, hZ, hkc⟩ := X
  intro lv st w o ls H locs h hg hl hP hD hS
  subst hi
  unfold i_iload at h
  split at h
  · rename_i x hi
    exact lv_iload_n hx hb hd rfl (hl.2.2 _ _ hi) (k lv (.int x :: st) w o ls H locs h hg hl hP hD hS)
  · cases h
theorem s_iload (X : pb_X Γ cc own) {j : Nat} (hd : decode cc pc = .ok (.iload j, 2)) (k : pb_Snd Γ (pc + 2) κ) : pb_Snd Γ pc (i_iload j κ) := by
  obtain ⟨p, l, e, R, s, m, args, below, meth, c, Q, nL, D, ad, cs, A, good, kc, ks⟩ := Γ
  obtain ⟨hx, hb, hml, hown, hts, hK, hN, hA, hZ, hkc⟩ := X
  intro lv st w o ls H locs h hg hl hP hD hS
  unfold i_iload at h
  split at h
  · rename_i x hi
    exact lv_iload hx hb hd (hl.2.2 _ _ hi) (k lv (.int x :: st) w o ls H locs h hg hl hP hD hS)
  · cases h
theorem s_lload_n (X : pb_X Γ cc own) {j : Fin 4} {i : Nat} (hd : decode cc pc = .ok (.lload_n j, 1)) (hi : (j : Nat) = i) (k : pb_Snd Γ (pc + 1) κ) : pb_Snd Γ pc (i_lload i κ) := by
  obtain ⟨p, l, e, R, s, m, args, below, meth, c, Q, nL, D, ad, cs, A, good, kc, ks⟩ := Γ
  obtain ⟨hx, hb, hml, hown, hts, hK, hN, hA, hZ, hkc⟩ := X
  intro lv st w o ls H locs h hg hl hP hD hS
  subst hi
  unfold i_lload at h
  split at h
  · rename_i x hi
    exact lv_lload_n hx hb hd rfl (hl.2.2 _ _ hi) (k lv (.long x :: st) w o ls H locs h hg hl hP hD hS)
  · cases h
theorem s_lload (X : pb_X Γ cc own) {j : Nat} (hd : decode cc pc = .ok (.lload j, 2)) (k : pb_Snd Γ (pc + 2) κ) : pb_Snd Γ pc (i_lload j κ) := by
  obtain ⟨p, l, e, R, s, m, args, below, meth, c, Q, nL, D, ad, cs, A, good, kc, ks⟩ := Γ
  obtain ⟨hx, hb, hml, hown, hts, hK, hN, hA, hZ, hkc⟩ := X
  intro lv st w o ls H locs h hg hl hP hD hS
  unfold i_lload at h
  split at h
  · rename_i x hi
    exact lv_lload hx hb hd (hl.2.2 _ _ hi) (k lv (.long x :: st) w o ls H locs h hg hl hP hD hS)
  · cases h
theorem s_aload_n (X : pb_X Γ cc own) {j : Fin 4} {i : Nat} (hd : decode cc pc = .ok (.aload_n j, 1)) (hi : (j : Nat) = i) (k : pb_Snd Γ (pc + 1) κ) : pb_Snd Γ pc (i_aload i κ) := by
  obtain ⟨p, l, e, R, s, m, args, below, meth, c, Q, nL, D, ad, cs, A, good, kc, ks⟩ := Γ
  obtain ⟨hx, hb, hml, hown, hts, hK, hN, hA, hZ, hkc⟩ := X
  intro lv st w o ls H locs h hg hl hP hD hS
  subst hi
  unfold i_aload at h
  split at h
  · rename_i x hi
    exact lv_aload_n hx hb hd rfl (hl.2.2 _ _ hi) (k lv (.ref x :: st) w o ls H locs h hg hl hP hD hS)
  · cases h
theorem s_aload (X : pb_X Γ cc own) {j : Nat} (hd : decode cc pc = .ok (.aload j, 2)) (k : pb_Snd Γ (pc + 2) κ) : pb_Snd Γ pc (i_aload j κ) := by
  obtain ⟨p, l, e, R, s, m, args, below, meth, c, Q, nL, D, ad, cs, A, good, kc, ks⟩ := Γ
  obtain ⟨hx, hb, hml, hown, hts, hK, hN, hA, hZ, hkc⟩ := X
  intro lv st w o ls H locs h hg hl hP hD hS
  unfold i_aload at h
  split at h
  · rename_i x hi
    exact lv_aload hx hb hd (hl.2.2 _ _ hi) (k lv (.ref x :: st) w o ls H locs h hg hl hP hD hS)
  · cases h
theorem s_istore_n (X : pb_X Γ cc own) {j : Fin 4} {i : Nat} (hd : decode cc pc = .ok (.istore_n j, 1)) (hi : (j : Nat) = i) (hn : i < Γ.2.2.2.2.2.2.2.2.2.2.2.1) (k : pb_Snd Γ (pc + 1) κ) : pb_Snd Γ pc (i_istore i κ) := by
  obtain ⟨p, l, e, R, s, m, args, below, meth, c, Q, nL, D, ad, cs, A, good, kc, ks⟩ := Γ
  obtain ⟨hx, hb, hml, hown, hts, hK, hN, hA, hZ, hkc⟩ := X
  intro lv st w o ls H locs h hg hl hP hD hS
  subst hi
  obtain ⟨x, r, rfl, h1⟩ := pb_pI_e h
  clear h
  have h := h1
  clear h1
  try dsimp only at h
  exact lv_istore_n hx hb hd rfl (pb_lv_has hl) hn rfl (fun ls' hl' => k (pb_set1 lv _ (.int x)) r w o ls' H locs h hg (pb_lv_set1 (v := .int x) hl hl') hP hD hS)
theorem s_istore (X : pb_X Γ cc own) {j : Nat} (hd : decode cc pc = .ok (.istore j, 2)) (hn : j < Γ.2.2.2.2.2.2.2.2.2.2.2.1) (k : pb_Snd Γ (pc + 2) κ) : pb_Snd Γ pc (i_istore j κ) := by
  obtain ⟨p, l, e, R, s, m, args, below, meth, c, Q, nL, D, ad, cs, A, good, kc, ks⟩ := Γ
  obtain ⟨hx, hb, hml, hown, hts, hK, hN, hA, hZ, hkc⟩ := X
  intro lv st w o ls H locs h hg hl hP hD hS
  obtain ⟨x, r, rfl, h1⟩ := pb_pI_e h
  clear h
  have h := h1
  clear h1
  try dsimp only at h
  exact lv_istore hx hb hd (pb_lv_has hl) hn rfl (fun ls' hl' => k (pb_set1 lv _ (.int x)) r w o ls' H locs h hg (pb_lv_set1 (v := .int x) hl hl') hP hD hS)
theorem s_lstore_n (X : pb_X Γ cc own) {j : Fin 4} {i : Nat} (hd : decode cc pc = .ok (.lstore_n j, 1)) (hi : (j : Nat) = i) (hn : i + 1 < Γ.2.2.2.2.2.2.2.2.2.2.2.1) (k : pb_Snd Γ (pc + 1) κ) : pb_Snd Γ pc (i_lstore i κ) := by
  obtain ⟨p, l, e, R, s, m, args, below, meth, c, Q, nL, D, ad, cs, A, good, kc, ks⟩ := Γ
  obtain ⟨hx, hb, hml, hown, hts, hK, hN, hA, hZ, hkc⟩ := X
  intro lv st w o ls H locs h hg hl hP hD hS
  subst hi
  obtain ⟨x, r, rfl, h1⟩ := pb_pL_e h
  clear h
  have h := h1
  clear h1
  try dsimp only at h
  exact lv_lstore_n hx hb hd rfl (pb_lv_has hl) hn rfl (fun ls' hl' => k (pb_set2 lv _ (.long x)) r w o ls' H locs h hg (pb_lv_set2 (v := .long x) hl hl') hP hD hS)
theorem s_lstore (X : pb_X Γ cc own) {j : Nat} (hd : decode cc pc = .ok (.lstore j, 2)) (hn : j + 1 < Γ.2.2.2.2.2.2.2.2.2.2.2.1) (k : pb_Snd Γ (pc + 2) κ) : pb_Snd Γ pc (i_lstore j κ) := by
  obtain ⟨p, l, e, R, s, m, args, below, meth, c, Q, nL, D, ad, cs, A, good, kc, ks⟩ := Γ
  obtain ⟨hx, hb, hml, hown, hts, hK, hN, hA, hZ, hkc⟩ := X
  intro lv st w o ls H locs h hg hl hP hD hS
  obtain ⟨x, r, rfl, h1⟩ := pb_pL_e h
  clear h
  have h := h1
  clear h1
  try dsimp only at h
  exact lv_lstore hx hb hd (pb_lv_has hl) hn rfl (fun ls' hl' => k (pb_set2 lv _ (.long x)) r w o ls' H locs h hg (pb_lv_set2 (v := .long x) hl hl') hP hD hS)
theorem s_astore_n (X : pb_X Γ cc own) {j : Fin 4} {i : Nat} (hd : decode cc pc = .ok (.astore_n j, 1)) (hi : (j : Nat) = i) (hn : i < Γ.2.2.2.2.2.2.2.2.2.2.2.1) (k : pb_Snd Γ (pc + 1) κ) : pb_Snd Γ pc (i_astore i κ) := by
  obtain ⟨p, l, e, R, s, m, args, below, meth, c, Q, nL, D, ad, cs, A, good, kc, ks⟩ := Γ
  obtain ⟨hx, hb, hml, hown, hts, hK, hN, hA, hZ, hkc⟩ := X
  intro lv st w o ls H locs h hg hl hP hD hS
  subst hi
  obtain ⟨x, r, rfl, h1⟩ := pb_pR_e h
  clear h
  have h := h1
  clear h1
  try dsimp only at h
  exact lv_astore_n hx hb hd rfl (pb_lv_has hl) hn rfl (fun ls' hl' => k (pb_set1 lv _ (.ref x)) r w o ls' H locs h hg (pb_lv_set1 (v := .ref x) hl hl') hP hD hS)
theorem s_astore (X : pb_X Γ cc own) {j : Nat} (hd : decode cc pc = .ok (.astore j, 2)) (hn : j < Γ.2.2.2.2.2.2.2.2.2.2.2.1) (k : pb_Snd Γ (pc + 2) κ) : pb_Snd Γ pc (i_astore j κ) := by
  obtain ⟨p, l, e, R, s, m, args, below, meth, c, Q, nL, D, ad, cs, A, good, kc, ks⟩ := Γ
  obtain ⟨hx, hb, hml, hown, hts, hK, hN, hA, hZ, hkc⟩ := X
  intro lv st w o ls H locs h hg hl hP hD hS
  obtain ⟨x, r, rfl, h1⟩ := pb_pR_e h
  clear h
  have h := h1
  clear h1
  try dsimp only at h
  exact lv_astore hx hb hd (pb_lv_has hl) hn rfl (fun ls' hl' => k (pb_set1 lv _ (.ref x)) r w o ls' H locs h hg (pb_lv_set1 (v := .ref x) hl hl') hP hD hS)
theorem s_iinc (X : pb_X Γ cc own) {j : Nat} {n : Int} {v : Int32} (hd : decode cc pc = .ok (.iinc j n, 3)) (hv : Int32.ofInt n = v) (k : pb_Snd Γ (pc + 3) κ) : pb_Snd Γ pc (i_iinc j v κ) := by
  obtain ⟨p, l, e, R, s, m, args, below, meth, c, Q, nL, D, ad, cs, A, good, kc, ks⟩ := Γ
  obtain ⟨hx, hb, hml, hown, hts, hK, hN, hA, hZ, hkc⟩ := X
  intro lv st w o ls H locs h hg hl hP hD hS
  unfold i_iinc at h
  split at h
  · rename_i x hi
    obtain ⟨q, hq⟩ := List.getElem?_of_mem (pb_as_mem (ad := ad) (pb_lv_lt hl hi) hi)
    exact lv_iinc hx hb hd (pb_lv_has hl) hq (by rw [hv]) (pb_lv_lt hl hi) rfl (fun ls' hl' => k (pb_set1 lv j (.int (x + v))) st w o ls' H locs h hg (pb_lv_set1 (v := .int (x + v)) hl hl') hP hD hS)
  · cases h
theorem s_iadd (X : pb_X Γ cc own) (hd : decode cc pc = .ok (.iadd, 1)) (k : pb_Snd Γ (pc + 1) κ) : pb_Snd Γ pc (i_ibin (· + ·) κ) := by
  obtain ⟨p, l, e, R, s, m, args, below, meth, c, Q, nL, D, ad, cs, A, good, kc, ks⟩ := Γ
  obtain ⟨hx, hb, hml, hown, hts, hK, hN, hA, hZ, hkc⟩ := X
  intro lv st w o ls H locs h hg hl hP hD hS
  obtain ⟨y, r, rfl, h1⟩ := pb_pI_e h
  clear h
  have h := h1
  clear h1
  try dsimp only at h
  obtain ⟨x, r, rfl, h1⟩ := pb_pI_e h
  clear h
  have h := h1
  clear h1
  try dsimp only at h
  exact lv_iadd hx hb hd (k lv _ w o ls H locs h hg hl hP hD hS)
theorem s_isub (X : pb_X Γ cc own) (hd : decode cc pc = .ok (.isub, 1)) (k : pb_Snd Γ (pc + 1) κ) : pb_Snd Γ pc (i_ibin (· - ·) κ) := by
  obtain ⟨p, l, e, R, s, m, args, below, meth, c, Q, nL, D, ad, cs, A, good, kc, ks⟩ := Γ
  obtain ⟨hx, hb, hml, hown, hts, hK, hN, hA, hZ, hkc⟩ := X
  intro lv st w o ls H locs h hg hl hP hD hS
  obtain ⟨y, r, rfl, h1⟩ := pb_pI_e h
  clear h
  have h := h1
  clear h1
  try dsimp only at h
  obtain ⟨x, r, rfl, h1⟩ := pb_pI_e h
  clear h
  have h := h1
  clear h1
  try dsimp only at h
  exact lv_isub hx hb hd (k lv _ w o ls H locs h hg hl hP hD hS)
theorem s_imul (X : pb_X Γ cc own) (hd : decode cc pc = .ok (.imul, 1)) (k : pb_Snd Γ (pc + 1) κ) : pb_Snd Γ pc (i_ibin (· * ·) κ) := by
  obtain ⟨p, l, e, R, s, m, args, below, meth, c, Q, nL, D, ad, cs, A, good, kc, ks⟩ := Γ
  obtain ⟨hx, hb, hml, hown, hts, hK, hN, hA, hZ, hkc⟩ := X
  intro lv st w o ls H locs h hg hl hP hD hS
  obtain ⟨y, r, rfl, h1⟩ := pb_pI_e h
  clear h
  have h := h1
  clear h1
  try dsimp only at h
  obtain ⟨x, r, rfl, h1⟩ := pb_pI_e h
  clear h
  have h := h1
  clear h1
  try dsimp only at h
  exact lv_imul hx hb hd (k lv _ w o ls H locs h hg hl hP hD hS)
theorem s_iand (X : pb_X Γ cc own) (hd : decode cc pc = .ok (.iand, 1)) (k : pb_Snd Γ (pc + 1) κ) : pb_Snd Γ pc (i_ibin (· &&& ·) κ) := by
  obtain ⟨p, l, e, R, s, m, args, below, meth, c, Q, nL, D, ad, cs, A, good, kc, ks⟩ := Γ
  obtain ⟨hx, hb, hml, hown, hts, hK, hN, hA, hZ, hkc⟩ := X
  intro lv st w o ls H locs h hg hl hP hD hS
  obtain ⟨y, r, rfl, h1⟩ := pb_pI_e h
  clear h
  have h := h1
  clear h1
  try dsimp only at h
  obtain ⟨x, r, rfl, h1⟩ := pb_pI_e h
  clear h
  have h := h1
  clear h1
  try dsimp only at h
  exact lv_iand hx hb hd (k lv _ w o ls H locs h hg hl hP hD hS)
theorem s_ior (X : pb_X Γ cc own) (hd : decode cc pc = .ok (.ior, 1)) (k : pb_Snd Γ (pc + 1) κ) : pb_Snd Γ pc (i_ibin (· ||| ·) κ) := by
  obtain ⟨p, l, e, R, s, m, args, below, meth, c, Q, nL, D, ad, cs, A, good, kc, ks⟩ := Γ
  obtain ⟨hx, hb, hml, hown, hts, hK, hN, hA, hZ, hkc⟩ := X
  intro lv st w o ls H locs h hg hl hP hD hS
  obtain ⟨y, r, rfl, h1⟩ := pb_pI_e h
  clear h
  have h := h1
  clear h1
  try dsimp only at h
  obtain ⟨x, r, rfl, h1⟩ := pb_pI_e h
  clear h
  have h := h1
  clear h1
  try dsimp only at h
  exact lv_ior hx hb hd (k lv _ w o ls H locs h hg hl hP hD hS)
theorem s_ixor (X : pb_X Γ cc own) (hd : decode cc pc = .ok (.ixor, 1)) (k : pb_Snd Γ (pc + 1) κ) : pb_Snd Γ pc (i_ibin (· ^^^ ·) κ) := by
  obtain ⟨p, l, e, R, s, m, args, below, meth, c, Q, nL, D, ad, cs, A, good, kc, ks⟩ := Γ
  obtain ⟨hx, hb, hml, hown, hts, hK, hN, hA, hZ, hkc⟩ := X
  intro lv st w o ls H locs h hg hl hP hD hS
  obtain ⟨y, r, rfl, h1⟩ := pb_pI_e h
  clear h
  have h := h1
  clear h1
  try dsimp only at h
  obtain ⟨x, r, rfl, h1⟩ := pb_pI_e h
  clear h
  have h := h1
  clear h1
  try dsimp only at h
  exact lv_ixor hx hb hd (k lv _ w o ls H locs h hg hl hP hD hS)
theorem s_ishl (X : pb_X Γ cc own) (hd : decode cc pc = .ok (.ishl, 1)) (k : pb_Snd Γ (pc + 1) κ) : pb_Snd Γ pc (i_ibin (fun x y => x <<< (y &&& 31)) κ) := by
  obtain ⟨p, l, e, R, s, m, args, below, meth, c, Q, nL, D, ad, cs, A, good, kc, ks⟩ := Γ
  obtain ⟨hx, hb, hml, hown, hts, hK, hN, hA, hZ, hkc⟩ := X
  intro lv st w o ls H locs h hg hl hP hD hS
  obtain ⟨y, r, rfl, h1⟩ := pb_pI_e h
  clear h
  have h := h1
  clear h1
  try dsimp only at h
  obtain ⟨x, r, rfl, h1⟩ := pb_pI_e h
  clear h
  have h := h1
  clear h1
  try dsimp only at h
  exact lv_ishl hx hb hd (k lv _ w o ls H locs h hg hl hP hD hS)
theorem s_ishr (X : pb_X Γ cc own) (hd : decode cc pc = .ok (.ishr, 1)) (k : pb_Snd Γ (pc + 1) κ) : pb_Snd Γ pc (i_ibin (fun x y => x >>> (y &&& 31)) κ) := by
  obtain ⟨p, l, e, R, s, m, args, below, meth, c, Q, nL, D, ad, cs, A, good, kc, ks⟩ := Γ
  obtain ⟨hx, hb, hml, hown, hts, hK, hN, hA, hZ, hkc⟩ := X
  intro lv st w o ls H locs h hg hl hP hD hS
  obtain ⟨y, r, rfl, h1⟩ := pb_pI_e h
  clear h
  have h := h1
  clear h1
  try dsimp only at h
  obtain ⟨x, r, rfl, h1⟩ := pb_pI_e h
  clear h
  have h := h1
  clear h1
  try dsimp only at h
  exact lv_ishr hx hb hd (k lv _ w o ls H locs h hg hl hP hD hS)
theorem s_iushr (X : pb_X Γ cc own) (hd : decode cc pc = .ok (.iushr, 1)) (k : pb_Snd Γ (pc + 1) κ) : pb_Snd Γ pc (i_ibin (fun x y => (x.toUInt32 >>> (y.toUInt32 &&& Int32.toUInt32 31)).toInt32) κ) := by
  obtain ⟨p, l, e, R, s, m, args, below, meth, c, Q, nL, D, ad, cs, A, good, kc, ks⟩ := Γ
  obtain ⟨hx, hb, hml, hown, hts, hK, hN, hA, hZ, hkc⟩ := X
  intro lv st w o ls H locs h hg hl hP hD hS
  obtain ⟨y, r, rfl, h1⟩ := pb_pI_e h
  clear h
  have h := h1
  clear h1
  try dsimp only at h
  obtain ⟨x, r, rfl, h1⟩ := pb_pI_e h
  clear h
  have h := h1
  clear h1
  try dsimp only at h
  exact lv_iushr hx hb hd rfl (k lv _ w o ls H locs h hg hl hP hD hS)
theorem s_idiv (X : pb_X Γ cc own) (hd : decode cc pc = .ok (.idiv, 1)) (k : pb_Snd Γ (pc + 1) κ) : pb_Snd Γ pc (i_idivr (· / ·) κ) := by
  obtain ⟨p, l, e, R, s, m, args, below, meth, c, Q, nL, D, ad, cs, A, good, kc, ks⟩ := Γ
  obtain ⟨hx, hb, hml, hown, hts, hK, hN, hA, hZ, hkc⟩ := X
  intro lv st w o ls H locs h hg hl hP hD hS
  obtain ⟨y, r, rfl, h1⟩ := pb_pI_e h
  clear h
  have h := h1
  clear h1
  try dsimp only at h
  obtain ⟨x, r, rfl, h1⟩ := pb_pI_e h
  clear h
  have h := h1
  clear h1
  try dsimp only at h
  split at h
  · cases h
  · rename_i hne
    exact lv_idiv hx hb hd hne (k lv _ w o ls H locs h hg hl hP hD hS)
theorem s_irem (X : pb_X Γ cc own) (hd : decode cc pc = .ok (.irem, 1)) (k : pb_Snd Γ (pc + 1) κ) : pb_Snd Γ pc (i_idivr (fun x y => x - x / y * y) κ) := by
  obtain ⟨p, l, e, R, s, m, args, below, meth, c, Q, nL, D, ad, cs, A, good, kc, ks⟩ := Γ
  obtain ⟨hx, hb, hml, hown, hts, hK, hN, hA, hZ, hkc⟩ := X
  intro lv st w o ls H locs h hg hl hP hD hS
  obtain ⟨y, r, rfl, h1⟩ := pb_pI_e h
  clear h
  have h := h1
  clear h1
  try dsimp only at h
  obtain ⟨x, r, rfl, h1⟩ := pb_pI_e h
  clear h
  have h := h1
  clear h1
  try dsimp only at h
  split at h
  · cases h
  · rename_i hne
    exact lv_irem hx hb hd hne (k lv _ w o ls H locs h hg hl hP hD hS)
theorem s_ineg (X : pb_X Γ cc own) (hd : decode cc pc = .ok (.ineg, 1)) (k : pb_Snd Γ (pc + 1) κ) : pb_Snd Γ pc (i_iun (fun x => -x) κ) := by
  obtain ⟨p, l, e, R, s, m, args, below, meth, c, Q, nL, D, ad, cs, A, good, kc, ks⟩ := Γ
  obtain ⟨hx, hb, hml, hown, hts, hK, hN, hA, hZ, hkc⟩ := X
  intro lv st w o ls H locs h hg hl hP hD hS
  obtain ⟨x, r, rfl, h1⟩ := pb_pI_e h
  clear h
  have h := h1
  clear h1
  try dsimp only at h
  exact lv_ineg hx hb hd (k lv _ w o ls H locs h hg hl hP hD hS)
theorem s_i2b (X : pb_X Γ cc own) (hd : decode cc pc = .ok (.i2b, 1)) (k : pb_Snd Γ (pc + 1) κ) : pb_Snd Γ pc (i_iun (fun x => x.toInt8.toInt32) κ) := by
  obtain ⟨p, l, e, R, s, m, args, below, meth, c, Q, nL, D, ad, cs, A, good, kc, ks⟩ := Γ
  obtain ⟨hx, hb, hml, hown, hts, hK, hN, hA, hZ, hkc⟩ := X
  intro lv st w o ls H locs h hg hl hP hD hS
  obtain ⟨x, r, rfl, h1⟩ := pb_pI_e h
  clear h
  have h := h1
  clear h1
  try dsimp only at h
  exact lv_i2b hx hb hd rfl (k lv _ w o ls H locs h hg hl hP hD hS)
theorem s_i2s (X : pb_X Γ cc own) (hd : decode cc pc = .ok (.i2s, 1)) (k : pb_Snd Γ (pc + 1) κ) : pb_Snd Γ pc (i_iun (fun x => x.toInt16.toInt32) κ) := by
  obtain ⟨p, l, e, R, s, m, args, below, meth, c, Q, nL, D, ad, cs, A, good, kc, ks⟩ := Γ
  obtain ⟨hx, hb, hml, hown, hts, hK, hN, hA, hZ, hkc⟩ := X
  intro lv st w o ls H locs h hg hl hP hD hS
  obtain ⟨x, r, rfl, h1⟩ := pb_pI_e h
  clear h
  have h := h1
  clear h1
  try dsimp only at h
  exact lv_i2s hx hb hd rfl (k lv _ w o ls H locs h hg hl hP hD hS)
theorem s_i2c (X : pb_X Γ cc own) (hd : decode cc pc = .ok (.i2c, 1)) (k : pb_Snd Γ (pc + 1) κ) : pb_Snd Γ pc (i_iun (fun x => (x.toUInt32 % 65536).toInt32) κ) := by
  obtain ⟨p, l, e, R, s, m, args, below, meth, c, Q, nL, D, ad, cs, A, good, kc, ks⟩ := Γ
  obtain ⟨hx, hb, hml, hown, hts, hK, hN, hA, hZ, hkc⟩ := X
  intro lv st w o ls H locs h hg hl hP hD hS
  obtain ⟨x, r, rfl, h1⟩ := pb_pI_e h
  clear h
  have h := h1
  clear h1
  try dsimp only at h
  exact lv_i2c hx hb hd rfl (k lv _ w o ls H locs h hg hl hP hD hS)
theorem s_ladd (X : pb_X Γ cc own) (hd : decode cc pc = .ok (.ladd, 1)) (k : pb_Snd Γ (pc + 1) κ) : pb_Snd Γ pc (i_lbin (· + ·) κ) := by
  obtain ⟨p, l, e, R, s, m, args, below, meth, c, Q, nL, D, ad, cs, A, good, kc, ks⟩ := Γ
  obtain ⟨hx, hb, hml, hown, hts, hK, hN, hA, hZ, hkc⟩ := X
  intro lv st w o ls H locs h hg hl hP hD hS
  obtain ⟨y, r, rfl, h1⟩ := pb_pL_e h
  clear h
  have h := h1
  clear h1
  try dsimp only at h
  obtain ⟨x, r, rfl, h1⟩ := pb_pL_e h
  clear h
  have h := h1
  clear h1
  try dsimp only at h
  exact lv_ladd hx hb hd (k lv _ w o ls H locs h hg hl hP hD hS)
theorem s_lsub (X : pb_X Γ cc own) (hd : decode cc pc = .ok (.lsub, 1)) (k : pb_Snd Γ (pc + 1) κ) : pb_Snd Γ pc (i_lbin (· - ·) κ) := by
  obtain ⟨p, l, e, R, s, m, args, below, meth, c, Q, nL, D, ad, cs, A, good, kc, ks⟩ := Γ
  obtain ⟨hx, hb, hml, hown, hts, hK, hN, hA, hZ, hkc⟩ := X
  intro lv st w o ls H locs h hg hl hP hD hS
  obtain ⟨y, r, rfl, h1⟩ := pb_pL_e h
  clear h
  have h := h1
  clear h1
  try dsimp only at h
  obtain ⟨x, r, rfl, h1⟩ := pb_pL_e h
  clear h
  have h := h1
  clear h1
  try dsimp only at h
  exact lv_lsub hx hb hd (k lv _ w o ls H locs h hg hl hP hD hS)
theorem s_lmul (X : pb_X Γ cc own) (hd : decode cc pc = .ok (.lmul, 1)) (k : pb_Snd Γ (pc + 1) κ) : pb_Snd Γ pc (i_lbin (· * ·) κ) := by
  obtain ⟨p, l, e, R, s, m, args, below, meth, c, Q, nL, D, ad, cs, A, good, kc, ks⟩ := Γ
  obtain ⟨hx, hb, hml, hown, hts, hK, hN, hA, hZ, hkc⟩ := X
  intro lv st w o ls H locs h hg hl hP hD hS
  obtain ⟨y, r, rfl, h1⟩ := pb_pL_e h
  clear h
  have h := h1
  clear h1
  try dsimp only at h
  obtain ⟨x, r, rfl, h1⟩ := pb_pL_e h
  clear h
  have h := h1
  clear h1
  try dsimp only at h
  exact lv_lmul hx hb hd (k lv _ w o ls H locs h hg hl hP hD hS)
theorem s_land (X : pb_X Γ cc own) (hd : decode cc pc = .ok (.land, 1)) (k : pb_Snd Γ (pc + 1) κ) : pb_Snd Γ pc (i_lbin (· &&& ·) κ) := by
  obtain ⟨p, l, e, R, s, m, args, below, meth, c, Q, nL, D, ad, cs, A, good, kc, ks⟩ := Γ
  obtain ⟨hx, hb, hml, hown, hts, hK, hN, hA, hZ, hkc⟩ := X
  intro lv st w o ls H locs h hg hl hP hD hS
  obtain ⟨y, r, rfl, h1⟩ := pb_pL_e h
  clear h
  have h := h1
  clear h1
  try dsimp only at h
  obtain ⟨x, r, rfl, h1⟩ := pb_pL_e h
  clear h
  have h := h1
  clear h1
  try dsimp only at h
  exact lv_land hx hb hd (k lv _ w o ls H locs h hg hl hP hD hS)
theorem s_lor (X : pb_X Γ cc own) (hd : decode cc pc = .ok (.lor, 1)) (k : pb_Snd Γ (pc + 1) κ) : pb_Snd Γ pc (i_lbin (· ||| ·) κ) := by
  obtain ⟨p, l, e, R, s, m, args, below, meth, c, Q, nL, D, ad, cs, A, good, kc, ks⟩ := Γ
  obtain ⟨hx, hb, hml, hown, hts, hK, hN, hA, hZ, hkc⟩ := X
  intro lv st w o ls H locs h hg hl hP hD hS
  obtain ⟨y, r, rfl, h1⟩ := pb_pL_e h
  clear h
  have h := h1
  clear h1
  try dsimp only at h
  obtain ⟨x, r, rfl, h1⟩ := pb_pL_e h
  clear h
  have h := h1
  clear h1
  try dsimp only at h
  exact lv_lor hx hb hd (k lv _ w o ls H locs h hg hl hP hD hS)
theorem s_ldiv (X : pb_X Γ cc own) (hd : decode cc pc = .ok (.ldiv, 1)) (k : pb_Snd Γ (pc + 1) κ) : pb_Snd Γ pc (i_ldivr (· / ·) κ) := by
  obtain ⟨p, l, e, R, s, m, args, below, meth, c, Q, nL, D, ad, cs, A, good, kc, ks⟩ := Γ
  obtain ⟨hx, hb, hml, hown, hts, hK, hN, hA, hZ, hkc⟩ := X
  intro lv st w o ls H locs h hg hl hP hD hS
  obtain ⟨y, r, rfl, h1⟩ := pb_pL_e h
  clear h
  have h := h1
  clear h1
  try dsimp only at h
  obtain ⟨x, r, rfl, h1⟩ := pb_pL_e h
  clear h
  have h := h1
  clear h1
  try dsimp only at h
  split at h
  · cases h
  · rename_i hne
    exact lv_ldiv hx hb hd hne (k lv _ w o ls H locs h hg hl hP hD hS)
theorem s_lrem (X : pb_X Γ cc own) (hd : decode cc pc = .ok (.lrem, 1)) (k : pb_Snd Γ (pc + 1) κ) : pb_Snd Γ pc (i_ldivr (fun x y => x - x / y * y) κ) := by
  obtain ⟨p, l, e, R, s, m, args, below, meth, c, Q, nL, D, ad, cs, A, good, kc, ks⟩ := Γ
  obtain ⟨hx, hb, hml, hown, hts, hK, hN, hA, hZ, hkc⟩ := X
  intro lv st w o ls H locs h hg hl hP hD hS
  obtain ⟨y, r, rfl, h1⟩ := pb_pL_e h
  clear h
  have h := h1
  clear h1
  try dsimp only at h
  obtain ⟨x, r, rfl, h1⟩ := pb_pL_e h
  clear h
  have h := h1
  clear h1
  try dsimp only at h
  split at h
  · cases h
  · rename_i hne
    exact lv_lrem hx hb hd hne (k lv _ w o ls H locs h hg hl hP hD hS)
theorem s_lneg (X : pb_X Γ cc own) (hd : decode cc pc = .ok (.lneg, 1)) (k : pb_Snd Γ (pc + 1) κ) : pb_Snd Γ pc (i_lun (fun x => -x) κ) := by
  obtain ⟨p, l, e, R, s, m, args, below, meth, c, Q, nL, D, ad, cs, A, good, kc, ks⟩ := Γ
  obtain ⟨hx, hb, hml, hown, hts, hK, hN, hA, hZ, hkc⟩ := X
  intro lv st w o ls H locs h hg hl hP hD hS
  obtain ⟨x, r, rfl, h1⟩ := pb_pL_e h
  clear h
  have h := h1
  clear h1
  try dsimp only at h
  exact lv_lneg hx hb hd (k lv _ w o ls H locs h hg hl hP hD hS)
theorem s_lshl (X : pb_X Γ cc own) (hd : decode cc pc = .ok (.lshl, 1)) (k : pb_Snd Γ (pc + 1) κ) : pb_Snd Γ pc (i_lsh (fun x y => x <<< (y.toInt64 &&& 63)) κ) := by
  obtain ⟨p, l, e, R, s, m, args, below, meth, c, Q, nL, D, ad, cs, A, good, kc, ks⟩ := Γ
  obtain ⟨hx, hb, hml, hown, hts, hK, hN, hA, hZ, hkc⟩ := X
  intro lv st w o ls H locs h hg hl hP hD hS
  obtain ⟨y, r, rfl, h1⟩ := pb_pI_e h
  clear h
  have h := h1
  clear h1
  try dsimp only at h
  obtain ⟨x, r, rfl, h1⟩ := pb_pL_e h
  clear h
  have h := h1
  clear h1
  try dsimp only at h
  exact lv_lshl hx hb hd rfl (k lv _ w o ls H locs h hg hl hP hD hS)
theorem s_lshr (X : pb_X Γ cc own) (hd : decode cc pc = .ok (.lshr, 1)) (k : pb_Snd Γ (pc + 1) κ) : pb_Snd Γ pc (i_lsh (fun x y => x >>> (y.toInt64 &&& 63)) κ) := by
  obtain ⟨p, l, e, R, s, m, args, below, meth, c, Q, nL, D, ad, cs, A, good, kc, ks⟩ := Γ
  obtain ⟨hx, hb, hml, hown, hts, hK, hN, hA, hZ, hkc⟩ := X
  intro lv st w o ls H locs h hg hl hP hD hS
  obtain ⟨y, r, rfl, h1⟩ := pb_pI_e h
  clear h
  have h := h1
  clear h1
  try dsimp only at h
  obtain ⟨x, r, rfl, h1⟩ := pb_pL_e h
  clear h
  have h := h1
  clear h1
  try dsimp only at h
  exact lv_lshr hx hb hd rfl (k lv _ w o ls H locs h hg hl hP hD hS)
theorem s_lushr (X : pb_X Γ cc own) (hd : decode cc pc = .ok (.lushr, 1)) (k : pb_Snd Γ (pc + 1) κ) : pb_Snd Γ pc (i_lsh (fun x y => (x.toUInt64 >>> (y.toInt64.toUInt64 &&& Int64.toUInt64 63)).toInt64) κ) := by
  obtain ⟨p, l, e, R, s, m, args, below, meth, c, Q, nL, D, ad, cs, A, good, kc, ks⟩ := Γ
  obtain ⟨hx, hb, hml, hown, hts, hK, hN, hA, hZ, hkc⟩ := X
  intro lv st w o ls H locs h hg hl hP hD hS
  obtain ⟨y, r, rfl, h1⟩ := pb_pI_e h
  clear h
  have h := h1
  clear h1
  try dsimp only at h
  obtain ⟨x, r, rfl, h1⟩ := pb_pL_e h
  clear h
  have h := h1
  clear h1
  try dsimp only at h
  exact lv_lushr hx hb hd rfl (k lv _ w o ls H locs h hg hl hP hD hS)
theorem s_lcmp (X : pb_X Γ cc own) (hd : decode cc pc = .ok (.lcmp, 1)) (k : pb_Snd Γ (pc + 1) κ) : pb_Snd Γ pc (i_lcmp κ) := by
  obtain ⟨p, l, e, R, s, m, args, below, meth, c, Q, nL, D, ad, cs, A, good, kc, ks⟩ := Γ
  obtain ⟨hx, hb, hml, hown, hts, hK, hN, hA, hZ, hkc⟩ := X
  intro lv st w o ls H locs h hg hl hP hD hS
  obtain ⟨y, r, rfl, h1⟩ := pb_pL_e h
  clear h
  have h := h1
  clear h1
  try dsimp only at h
  obtain ⟨x, r, rfl, h1⟩ := pb_pL_e h
  clear h
  have h := h1
  clear h1
  try dsimp only at h
  exact W.lcmp hx hb hd (k lv _ w o ls H locs h hg hl hP hD hS)
theorem s_i2l (X : pb_X Γ cc own) (hd : decode cc pc = .ok (.i2l, 1)) (k : pb_Snd Γ (pc + 1) κ) : pb_Snd Γ pc (i_i2l κ) := by
  obtain ⟨p, l, e, R, s, m, args, below, meth, c, Q, nL, D, ad, cs, A, good, kc, ks⟩ := Γ
  obtain ⟨hx, hb, hml, hown, hts, hK, hN, hA, hZ, hkc⟩ := X
  intro lv st w o ls H locs h hg hl hP hD hS
  obtain ⟨x, r, rfl, h1⟩ := pb_pI_e h
  clear h
  have h := h1
  clear h1
  try dsimp only at h
  exact lv_i2l hx hb hd rfl (k lv _ w o ls H locs h hg hl hP hD hS)
theorem s_l2i (X : pb_X Γ cc own) (hd : decode cc pc = .ok (.l2i, 1)) (k : pb_Snd Γ (pc + 1) κ) : pb_Snd Γ pc (i_l2i κ) := by
  obtain ⟨p, l, e, R, s, m, args, below, meth, c, Q, nL, D, ad, cs, A, good, kc, ks⟩ := Γ
  obtain ⟨hx, hb, hml, hown, hts, hK, hN, hA, hZ, hkc⟩ := X
  intro lv st w o ls H locs h hg hl hP hD hS
  obtain ⟨x, r, rfl, h1⟩ := pb_pL_e h
  clear h
  have h := h1
  clear h1
  try dsimp only at h
  exact lv_l2i hx hb hd rfl (k lv _ w o ls H locs h hg hl hP hD hS)
theorem s_dupI (X : pb_X Γ cc own) (hd : decode cc pc = .ok (.dup, 1)) (k : pb_Snd Γ (pc + 1) κ) : pb_Snd Γ pc (i_dupI κ) := by
  obtain ⟨p, l, e, R, s, m, args, below, meth, c, Q, nL, D, ad, cs, A, good, kc, ks⟩ := Γ
  obtain ⟨hx, hb, hml, hown, hts, hK, hN, hA, hZ, hkc⟩ := X
  intro lv st w o ls H locs h hg hl hP hD hS
  obtain ⟨x, r, rfl, h1⟩ := pb_pI_e h
  clear h
  have h := h1
  clear h1
  try dsimp only at h
  exact lv_dup hx hb hd rfl (k lv _ w o ls H locs h hg hl hP hD hS)
theorem s_dupR (X : pb_X Γ cc own) (hd : decode cc pc = .ok (.dup, 1)) (k : pb_Snd Γ (pc + 1) κ) : pb_Snd Γ pc (i_dupR κ) := by
  obtain ⟨p, l, e, R, s, m, args, below, meth, c, Q, nL, D, ad, cs, A, good, kc, ks⟩ := Γ
  obtain ⟨hx, hb, hml, hown, hts, hK, hN, hA, hZ, hkc⟩ := X
  intro lv st w o ls H locs h hg hl hP hD hS
  obtain ⟨x, r, rfl, h1⟩ := pb_pR_e h
  clear h
  have h := h1
  clear h1
  try dsimp only at h
  exact lv_dup hx hb hd rfl (k lv _ w o ls H locs h hg hl hP hD hS)
theorem s_dup2 (X : pb_X Γ cc own) (hd : decode cc pc = .ok (.dup2, 1)) (k : pb_Snd Γ (pc + 1) κ) : pb_Snd Γ pc (i_dup2 κ) := by
  obtain ⟨p, l, e, R, s, m, args, below, meth, c, Q, nL, D, ad, cs, A, good, kc, ks⟩ := Γ
  obtain ⟨hx, hb, hml, hown, hts, hK, hN, hA, hZ, hkc⟩ := X
  intro lv st w o ls H locs h hg hl hP hD hS
  obtain ⟨x, r, rfl, h1⟩ := pb_pI_e h
  clear h
  have h := h1
  clear h1
  try dsimp only at h
  obtain ⟨y, r, rfl, h1⟩ := pb_pR_e h
  clear h
  have h := h1
  clear h1
  try dsimp only at h
  exact lv_dup2_11 hx hb hd rfl rfl (k lv _ w o ls H locs h hg hl hP hD hS)
theorem s_ic_eq (X : pb_X Γ cc own) {off : Int} {tgt : Nat} (hd : decode cc pc = .ok (.if_icmp .eq off, 3)) (ht : (pc : Int) + off = (tgt : Int)) (kt : pb_Snd Γ tgt κt) (kf : pb_Snd Γ (pc + 3) κf) : pb_Snd Γ pc (i_ic_eq κt κf) := by
  obtain ⟨p, l, e, R, s, m, args, below, meth, c, Q, nL, D, ad, cs, A, good, kc, ks⟩ := Γ
  obtain ⟨hx, hb, hml, hown, hts, hK, hN, hA, hZ, hkc⟩ := X
  intro lv st w o ls H locs h hg hl hP hD hS
  obtain ⟨y, r, rfl, h1⟩ := pb_pI_e h
  clear h
  have h := h1
  clear h1
  try dsimp only at h
  obtain ⟨x, r, rfl, h1⟩ := pb_pI_e h
  clear h
  have h := h1
  clear h1
  try dsimp only at h
  exact lv_icmp_eq hx hb hd ht (fun hc => (kt lv r w o ls H locs (by rw [if_pos hc] at h; exact h) hg hl hP hD hS)) (fun hc => (kf lv r w o ls H locs (by rw [if_neg hc] at h; exact h) hg hl hP hD hS))
theorem s_if_eq (X : pb_X Γ cc own) {off : Int} {tgt : Nat} (hd : decode cc pc = .ok (.ifCond .eq off, 3)) (ht : (pc : Int) + off = (tgt : Int)) (kt : pb_Snd Γ tgt κt) (kf : pb_Snd Γ (pc + 3) κf) : pb_Snd Γ pc (i_if_eq κt κf) := by
  obtain ⟨p, l, e, R, s, m, args, below, meth, c, Q, nL, D, ad, cs, A, good, kc, ks⟩ := Γ
  obtain ⟨hx, hb, hml, hown, hts, hK, hN, hA, hZ, hkc⟩ := X
  intro lv st w o ls H locs h hg hl hP hD hS
  obtain ⟨x, r, rfl, h1⟩ := pb_pI_e h
  clear h
  have h := h1
  clear h1
  try dsimp only at h
  exact lv_if_eq hx hb hd ht (fun hc => (kt lv r w o ls H locs (by rw [if_pos hc] at h; exact h) hg hl hP hD hS)) (fun hc => (kf lv r w o ls H locs (by rw [if_neg hc] at h; exact h) hg hl hP hD hS))
theorem s_ic_ne (X : pb_X Γ cc own) {off : Int} {tgt : Nat} (hd : decode cc pc = .ok (.if_icmp .ne off, 3)) (ht : (pc : Int) + off = (tgt : Int)) (kt : pb_Snd Γ tgt κt) (kf : pb_Snd Γ (pc + 3) κf) : pb_Snd Γ pc (i_ic_ne κt κf) := by
  obtain ⟨p, l, e, R, s, m, args, below, meth, c, Q, nL, D, ad, cs, A, good, kc, ks⟩ := Γ
  obtain ⟨hx, hb, hml, hown, hts, hK, hN, hA, hZ, hkc⟩ := X
  intro lv st w o ls H locs h hg hl hP hD hS
  obtain ⟨y, r, rfl, h1⟩ := pb_pI_e h
  clear h
  have h := h1
  clear h1
  try dsimp only at h
  obtain ⟨x, r, rfl, h1⟩ := pb_pI_e h
  clear h
  have h := h1
  clear h1
  try dsimp only at h
  exact lv_icmp_ne hx hb hd ht (fun hc => (kt lv r w o ls H locs (by rw [if_neg hc] at h; exact h) hg hl hP hD hS)) (fun hc => (kf lv r w o ls H locs (by rw [if_pos hc] at h; exact h) hg hl hP hD hS))
theorem s_if_ne (X : pb_X Γ cc own) {off : Int} {tgt : Nat} (hd : decode cc pc = .ok (.ifCond .ne off, 3)) (ht : (pc : Int) + off = (tgt : Int)) (kt : pb_Snd Γ tgt κt) (kf : pb_Snd Γ (pc + 3) κf) : pb_Snd Γ pc (i_if_ne κt κf) := by
  obtain ⟨p, l, e, R, s, m, args, below, meth, c, Q, nL, D, ad, cs, A, good, kc, ks⟩ := Γ
  obtain ⟨hx, hb, hml, hown, hts, hK, hN, hA, hZ, hkc⟩ := X
  intro lv st w o ls H locs h hg hl hP hD hS
  obtain ⟨x, r, rfl, h1⟩ := pb_pI_e h
  clear h
  have h := h1
  clear h1
  try dsimp only at h
  exact lv_if_ne hx hb hd ht (fun hc => (kt lv r w o ls H locs (by rw [if_neg hc] at h; exact h) hg hl hP hD hS)) (fun hc => (kf lv r w o ls H locs (by rw [if_pos hc] at h; exact h) hg hl hP hD hS))
theorem s_ic_lt (X : pb_X Γ cc own) {off : Int} {tgt : Nat} (hd : decode cc pc = .ok (.if_icmp .lt off, 3)) (ht : (pc : Int) + off = (tgt : Int)) (kt : pb_Snd Γ tgt κt) (kf : pb_Snd Γ (pc + 3) κf) : pb_Snd Γ pc (i_ic_lt κt κf) := by
  obtain ⟨p, l, e, R, s, m, args, below, meth, c, Q, nL, D, ad, cs, A, good, kc, ks⟩ := Γ
  obtain ⟨hx, hb, hml, hown, hts, hK, hN, hA, hZ, hkc⟩ := X
  intro lv st w o ls H locs h hg hl hP hD hS
  obtain ⟨y, r, rfl, h1⟩ := pb_pI_e h
  clear h
  have h := h1
  clear h1
  try dsimp only at h
  obtain ⟨x, r, rfl, h1⟩ := pb_pI_e h
  clear h
  have h := h1
  clear h1
  try dsimp only at h
  exact lv_icmp_lt hx hb hd ht (fun hc => (kt lv r w o ls H locs (by rw [if_pos hc] at h; exact h) hg hl hP hD hS)) (fun hc => (kf lv r w o ls H locs (by rw [if_neg hc] at h; exact h) hg hl hP hD hS))
theorem s_if_lt (X : pb_X Γ cc own) {off : Int} {tgt : Nat} (hd : decode cc pc = .ok (.ifCond .lt off, 3)) (ht : (pc : Int) + off = (tgt : Int)) (kt : pb_Snd Γ tgt κt) (kf : pb_Snd Γ (pc + 3) κf) : pb_Snd Γ pc (i_if_lt κt κf) := by
  obtain ⟨p, l, e, R, s, m, args, below, meth, c, Q, nL, D, ad, cs, A, good, kc, ks⟩ := Γ
  obtain ⟨hx, hb, hml, hown, hts, hK, hN, hA, hZ, hkc⟩ := X
  intro lv st w o ls H locs h hg hl hP hD hS
  obtain ⟨x, r, rfl, h1⟩ := pb_pI_e h
  clear h
  have h := h1
  clear h1
  try dsimp only at h
  exact lv_if_lt hx hb hd ht (fun hc => (kt lv r w o ls H locs (by rw [if_pos hc] at h; exact h) hg hl hP hD hS)) (fun hc => (kf lv r w o ls H locs (by rw [if_neg hc] at h; exact h) hg hl hP hD hS))
theorem s_ic_ge (X : pb_X Γ cc own) {off : Int} {tgt : Nat} (hd : decode cc pc = .ok (.if_icmp .ge off, 3)) (ht : (pc : Int) + off = (tgt : Int)) (kt : pb_Snd Γ tgt κt) (kf : pb_Snd Γ (pc + 3) κf) : pb_Snd Γ pc (i_ic_ge κt κf) := by
  obtain ⟨p, l, e, R, s, m, args, below, meth, c, Q, nL, D, ad, cs, A, good, kc, ks⟩ := Γ
  obtain ⟨hx, hb, hml, hown, hts, hK, hN, hA, hZ, hkc⟩ := X
  intro lv st w o ls H locs h hg hl hP hD hS
  obtain ⟨y, r, rfl, h1⟩ := pb_pI_e h
  clear h
  have h := h1
  clear h1
  try dsimp only at h
  obtain ⟨x, r, rfl, h1⟩ := pb_pI_e h
  clear h
  have h := h1
  clear h1
  try dsimp only at h
  exact lv_icmp_ge hx hb hd ht (fun hc => (kt lv r w o ls H locs (by rw [if_neg (Int32.not_lt.mpr hc)] at h; exact h) hg hl hP hD hS)) (fun hc => (kf lv r w o ls H locs (by rw [if_pos (Int32.not_le.mp hc)] at h; exact h) hg hl hP hD hS))
theorem s_if_ge (X : pb_X Γ cc own) {off : Int} {tgt : Nat} (hd : decode cc pc = .ok (.ifCond .ge off, 3)) (ht : (pc : Int) + off = (tgt : Int)) (kt : pb_Snd Γ tgt κt) (kf : pb_Snd Γ (pc + 3) κf) : pb_Snd Γ pc (i_if_ge κt κf) := by
  obtain ⟨p, l, e, R, s, m, args, below, meth, c, Q, nL, D, ad, cs, A, good, kc, ks⟩ := Γ
  obtain ⟨hx, hb, hml, hown, hts, hK, hN, hA, hZ, hkc⟩ := X
  intro lv st w o ls H locs h hg hl hP hD hS
  obtain ⟨x, r, rfl, h1⟩ := pb_pI_e h
  clear h
  have h := h1
  clear h1
  try dsimp only at h
  exact lv_if_ge hx hb hd ht (fun hc => (kt lv r w o ls H locs (by rw [if_neg (Int32.not_lt.mpr hc)] at h; exact h) hg hl hP hD hS)) (fun hc => (kf lv r w o ls H locs (by rw [if_pos (Int32.not_le.mp hc)] at h; exact h) hg hl hP hD hS))
theorem s_ic_gt (X : pb_X Γ cc own) {off : Int} {tgt : Nat} (hd : decode cc pc = .ok (.if_icmp .gt off, 3)) (ht : (pc : Int) + off = (tgt : Int)) (kt : pb_Snd Γ tgt κt) (kf : pb_Snd Γ (pc + 3) κf) : pb_Snd Γ pc (i_ic_gt κt κf) := by
  obtain ⟨p, l, e, R, s, m, args, below, meth, c, Q, nL, D, ad, cs, A, good, kc, ks⟩ := Γ
  obtain ⟨hx, hb, hml, hown, hts, hK, hN, hA, hZ, hkc⟩ := X
  intro lv st w o ls H locs h hg hl hP hD hS
  obtain ⟨y, r, rfl, h1⟩ := pb_pI_e h
  clear h
  have h := h1
  clear h1
  try dsimp only at h
  obtain ⟨x, r, rfl, h1⟩ := pb_pI_e h
  clear h
  have h := h1
  clear h1
  try dsimp only at h
  exact lv_icmp_gt hx hb hd ht (fun hc => (kt lv r w o ls H locs (by rw [if_pos hc] at h; exact h) hg hl hP hD hS)) (fun hc => (kf lv r w o ls H locs (by rw [if_neg hc] at h; exact h) hg hl hP hD hS))
theorem s_if_gt (X : pb_X Γ cc own) {off : Int} {tgt : Nat} (hd : decode cc pc = .ok (.ifCond .gt off, 3)) (ht : (pc : Int) + off = (tgt : Int)) (kt : pb_Snd Γ tgt κt) (kf : pb_Snd Γ (pc + 3) κf) : pb_Snd Γ pc (i_if_gt κt κf) := by
  obtain ⟨p, l, e, R, s, m, args, below, meth, c, Q, nL, D, ad, cs, A, good, kc, ks⟩ := Γ
  obtain ⟨hx, hb, hml, hown, hts, hK, hN, hA, hZ, hkc⟩ := X
  intro lv st w o ls H locs h hg hl hP hD hS
  obtain ⟨x, r, rfl, h1⟩ := pb_pI_e h
  clear h
  have h := h1
  clear h1
  try dsimp only at h
  exact lv_if_gt hx hb hd ht (fun hc => (kt lv r w o ls H locs (by rw [if_pos hc] at h; exact h) hg hl hP hD hS)) (fun hc => (kf lv r w o ls H locs (by rw [if_neg hc] at h; exact h) hg hl hP hD hS))
theorem s_ic_le (X : pb_X Γ cc own) {off : Int} {tgt : Nat} (hd : decode cc pc = .ok (.if_icmp .le off, 3)) (ht : (pc : Int) + off = (tgt : Int)) (kt : pb_Snd Γ tgt κt) (kf : pb_Snd Γ (pc + 3) κf) : pb_Snd Γ pc (i_ic_le κt κf) := by
  obtain ⟨p, l, e, R, s, m, args, below, meth, c, Q, nL, D, ad, cs, A, good, kc, ks⟩ := Γ
  obtain ⟨hx, hb, hml, hown, hts, hK, hN, hA, hZ, hkc⟩ := X
  intro lv st w o ls H locs h hg hl hP hD hS
  obtain ⟨y, r, rfl, h1⟩ := pb_pI_e h
  clear h
  have h := h1
  clear h1
  try dsimp only at h
  obtain ⟨x, r, rfl, h1⟩ := pb_pI_e h
  clear h
  have h := h1
  clear h1
  try dsimp only at h
  exact lv_icmp_le hx hb hd ht (fun hc => (kt lv r w o ls H locs (by rw [if_neg (Int32.not_lt.mpr hc)] at h; exact h) hg hl hP hD hS)) (fun hc => (kf lv r w o ls H locs (by rw [if_pos (Int32.not_le.mp hc)] at h; exact h) hg hl hP hD hS))
theorem s_if_le (X : pb_X Γ cc own) {off : Int} {tgt : Nat} (hd : decode cc pc = .ok (.ifCond .le off, 3)) (ht : (pc : Int) + off = (tgt : Int)) (kt : pb_Snd Γ tgt κt) (kf : pb_Snd Γ (pc + 3) κf) : pb_Snd Γ pc (i_if_le κt κf) := by
  obtain ⟨p, l, e, R, s, m, args, below, meth, c, Q, nL, D, ad, cs, A, good, kc, ks⟩ := Γ
  obtain ⟨hx, hb, hml, hown, hts, hK, hN, hA, hZ, hkc⟩ := X
  intro lv st w o ls H locs h hg hl hP hD hS
  obtain ⟨x, r, rfl, h1⟩ := pb_pI_e h
  clear h
  have h := h1
  clear h1
  try dsimp only at h
  exact lv_if_le hx hb hd ht (fun hc => (kt lv r w o ls H locs (by rw [if_neg (Int32.not_lt.mpr hc)] at h; exact h) hg hl hP hD hS)) (fun hc => (kf lv r w o ls H locs (by rw [if_pos (Int32.not_le.mp hc)] at h; exact h) hg hl hP hD hS))
theorem s_goto (X : pb_X Γ cc own) {off : Int} {tgt : Nat} (hd : decode cc pc = .ok (.goto off, 3)) (ht : (pc : Int) + off = (tgt : Int)) (k : pb_Snd Γ tgt κ) : pb_Snd Γ pc (κ) := by
  obtain ⟨p, l, e, R, s, m, args, below, meth, c, Q, nL, D, ad, cs, A, good, kc, ks⟩ := Γ
  obtain ⟨hx, hb, hml, hown, hts, hK, hN, hA, hZ, hkc⟩ := X
  intro lv st w o ls H locs h hg hl hP hD hS
  exact lv_goto hx hb hd ht (k lv st w o ls H locs h hg hl hP hD hS)
/-! fields: what the tables say of field k of the cell o, by the constant idx of the class own -/
def pb_fl (own : String) (idx : Nat) (T : u_T) (k : Nat) : Prop := Cond.fieldLink own idx (T k).1 (T k).2.1 (T k).2.2.1 ∈ pb_tbl ∨ ∃ host, Cond.fieldLinkNest own idx (T k).1 (T k).2.1 (T k).2.2.1 host ∈ pb_nests
def pb_fd (o k : Nat) (f : Nat ⊕ Bool) (own : String) (idx : Nat) : Prop := ∃ (ci : Nat) (fs : List (Nat ⊕ Bool)) (C : String) (T : u_T) (N : Nat), pb_sh[o]? = some (.inr (ci, fs)) ∧ fs[k]? = some f ∧ vwCl[ci]? = some (C, T, N) ∧ k < N ∧ (∀ w ∈ u_ws C T N, w ∈ pb_tbl) ∧ pb_fl own idx T k
def pb_fp (o k : Nat) (f : Nat ⊕ Bool) (ty : FieldType) (own : String) (idx : Nat) : Prop := ∃ (ci : Nat) (fs : List (Nat ⊕ Bool)) (C : String) (T : u_T) (N : Nat) (ty0 : Nat → FieldType), pb_sh[o]? = some (.inr (ci, fs)) ∧ fs[k]? = some f ∧ vwCl[ci]? = some (C, T, N) ∧ k < N ∧ (∀ w ∈ u_ws C T N, w ∈ pb_tbl) ∧ pb_fl own idx T k ∧ (∀ j, j < N → parseFieldDescriptor (T j).2.2.1 = some (ty0 j)) ∧ (∀ a, a < N → ∀ b, b < N → a ≠ b → (T a).2.1 ≠ (T b).2.1) ∧ (T k).2.2.2 = false ∧ ty0 k = ty
theorem pb_fs_at {ad : Nat → Nat} {w : pb_W} {o k : Nat} {fs : List (Nat ⊕ Bool)} {f : Nat ⊕ Bool} (h : fs[k]? = some f) : (fs.mapIdx (pb_fv ad w o))[k]? = some (pb_fv ad w o k f) := by simp [h]
theorem pb_get {Γ : pb_G} {cc : ByteArray} {own : String} {pc o k idx : Nat} {f : Nat ⊕ Bool} (X : pb_X Γ cc own) (hd : decode cc pc = .ok (.getfield idx, 3)) (hf : pb_fd o k f own idx) : match Γ with
  | (p, l, e, R, s, m, args, below, meth, c, Q, nL, D, ad, cs, A, good, kc, ks) => ∀ (w : pb_W) (ls : Array Slot) (H : Heap) (locs : List Loc) (rest : List Value), va_P D vwCl (pb_mk cs ad w) H → W p l e R s m args below meth c H locs kc ks Q (F0 m (pc + 3) ls (pb_fv ad w o k f :: rest)) → W p l e R s m args below meth c H locs kc ks Q (F0 m pc ls (.ref (ad o) :: rest)) := by
  obtain ⟨p, l, e, R, s, m, args, below, meth, c, Q, nL, D, ad, cs, A, good, kc, ks⟩ := Γ
  obtain ⟨hx, hb, hml, hown, hts, hK, hN, hA, hZ, hkc⟩ := X
  obtain ⟨ci, fs, C, T, N, h1, h2, h3, h4, h5, h6⟩ := hf
  intro w ls H locs rest hP kk
  rcases h6 with h6 | ⟨host, h6⟩
  · exact va_get hx hb hts h5 hown hK hP o (pb_mk_at w h1) h3 k h4 (hts _ h6) (fun _ q => q) (pb_fs_at h2) hd kk
  · exact va_getN hx hb hts h5 hown hK hP o (pb_mk_at w h1) h3 k h4 (va_Nw.use rfl (hN _ h6)) (fun _ q => q) (pb_fs_at h2) hd kk
theorem pb_put {Γ : pb_G} {cc : ByteArray} {own : String} {pc o k idx : Nat} {f : Nat ⊕ Bool} {ty : FieldType} (X : pb_X Γ cc own) (hd : decode cc pc = .ok (.putfield idx, 3)) (hf : pb_fp o k f ty own idx) : match Γ with
  | (p, l, e, R, s, m, args, below, meth, c, Q, nL, D, ad, cs, A, good, kc, ks) => ∀ (w w' : pb_W) (v : Value) (ls : Array Slot) (H : Heap) (locs : List Loc) (rest : List Value), (∀ (ci : Nat) (fs : List (Nat ⊕ Bool)), pb_sh[o]? = some (.inr (ci, fs)) → fs[k]? = some f → (pb_mk cs ad w).set o (ad o, .inr (ci, (fs.mapIdx (pb_fv ad w o)).set k v)) = pb_mk cs ad w') → narrow ty v = v → fits ty v = true → va_P D vwCl (pb_mk cs ad w) H → va_D A (pb_mk cs ad w) → va_S A s.heap H locs → (∀ (H1 : Heap) (locs1 : List Loc), va_P D vwCl (pb_mk cs ad w') H1 → va_D A (pb_mk cs ad w') → va_S A s.heap H1 locs1 → W p l e R s m args below meth c H1 locs1 kc ks Q (F0 m (pc + 3) ls rest)) → W p l e R s m args below meth c H locs kc ks Q (F0 m pc ls (v :: .ref (ad o) :: rest)) := by
  obtain ⟨p, l, e, R, s, m, args, below, meth, c, Q, nL, D, ad, cs, A, good, kc, ks⟩ := Γ
  obtain ⟨hx, hb, hml, hown, hts, hK, hN, hA, hZ, hkc⟩ := X
  obtain ⟨ci, fs, C, T, N, ty0, h1, h2, h3, h4, h5, h6, h7, h8, h9, rfl⟩ := hf
  intro w w' v ls H locs rest hset hn hfit hP hD hS kk
  have hl : k < (fs.mapIdx (pb_fv ad w o)).length := by
    rw [List.length_mapIdx]
    exact (List.getElem?_eq_some_iff.mp h2).1
  have e := hset ci fs h1 h2
  rcases h6 with h6 | ⟨host, h6⟩
  · refine va_put hx hb hts h5 ty0 h7 h8 hown hK hP hD hS o (pb_mk_at w h1) h3 k h4 (hts _ h6) (fun _ q => q) h9 (h7 k h4) hn hfit hl hd (fun H1 locs1 a1 a2 a3 => ?_)
    rw [e] at a1 a2
    exact kk H1 locs1 a1 a2 a3
  · refine va_putN hx hb hts h5 ty0 h7 h8 hown hK hP hD hS o (pb_mk_at w h1) h3 k h4 (va_Nw.use rfl (hN _ h6)) (fun _ q => q) h9 (h7 k h4) hn hfit hl hd (fun H1 locs1 a1 a2 a3 => ?_)
    rw [e] at a1 a2
    exact kk H1 locs1 a1 a2 a3
theorem s_getR (X : pb_X Γ cc own) {o k t idx : Nat} (hd : decode cc pc = .ok (.getfield idx, 3)) (hf : pb_fd o k (.inl t) own idx) (k0 : pb_Snd Γ (pc + 3) κ) : pb_Snd Γ pc (i_getR o t κ) := by
  obtain ⟨p, l, e, R, s, m, args, below, meth, c, Q, nL, D, ad, cs, A, good, kc, ks⟩ := Γ
  obtain ⟨hx, hb, hml, hown, hts, hK, hN, hA, hZ, hkc⟩ := X
  intro lv st w o' ls H locs h hg hl hP hD hS
  obtain ⟨a, r, rfl, h1⟩ := pb_pR_e h
  clear h
  have h := h1
  clear h1
  try dsimp only at h
  split at h
  · rename_i ha
    subst ha
    exact pb_get (Γ := (p, l, e, R, s, m, args, below, meth, c, Q, nL, D, ad, cs, A, good, kc, ks)) ⟨hx, hb, hml, hown, hts, hK, hN, hA, hZ, hkc⟩ hd hf w ls H locs _ hP (k0 lv _ w o' ls H locs h hg hl hP hD hS)
  · cases h
theorem s_getI (X : pb_X Γ cc own) {o k idx : Nat} (hd : decode cc pc = .ok (.getfield idx, 3)) (hf : pb_fd o k (.inr true) own idx) (k0 : pb_Snd Γ (pc + 3) κ) : pb_Snd Γ pc (i_getI o k κ) := by
  obtain ⟨p, l, e, R, s, m, args, below, meth, c, Q, nL, D, ad, cs, A, good, kc, ks⟩ := Γ
  obtain ⟨hx, hb, hml, hown, hts, hK, hN, hA, hZ, hkc⟩ := X
  intro lv st w o' ls H locs h hg hl hP hD hS
  obtain ⟨a, r, rfl, h1⟩ := pb_pR_e h
  clear h
  have h := h1
  clear h1
  try dsimp only at h
  split at h
  · rename_i ha
    subst ha
    exact pb_get (Γ := (p, l, e, R, s, m, args, below, meth, c, Q, nL, D, ad, cs, A, good, kc, ks)) ⟨hx, hb, hml, hown, hts, hK, hN, hA, hZ, hkc⟩ hd hf w ls H locs _ hP (k0 lv _ w o' ls H locs h hg hl hP hD hS)
  · cases h
theorem s_getL (X : pb_X Γ cc own) {o k idx : Nat} (hd : decode cc pc = .ok (.getfield idx, 3)) (hf : pb_fd o k (.inr false) own idx) (k0 : pb_Snd Γ (pc + 3) κ) : pb_Snd Γ pc (i_getL o k κ) := by
  obtain ⟨p, l, e, R, s, m, args, below, meth, c, Q, nL, D, ad, cs, A, good, kc, ks⟩ := Γ
  obtain ⟨hx, hb, hml, hown, hts, hK, hN, hA, hZ, hkc⟩ := X
  intro lv st w o' ls H locs h hg hl hP hD hS
  obtain ⟨a, r, rfl, h1⟩ := pb_pR_e h
  clear h
  have h := h1
  clear h1
  try dsimp only at h
  split at h
  · rename_i ha
    subst ha
    exact pb_get (Γ := (p, l, e, R, s, m, args, below, meth, c, Q, nL, D, ad, cs, A, good, kc, ks)) ⟨hx, hb, hml, hown, hts, hK, hN, hA, hZ, hkc⟩ hd hf w ls H locs _ hP (k0 lv _ w o' ls H locs h hg hl hP hD hS)
  · cases h
theorem s_putI (X : pb_X Γ cc own) {o k idx : Nat} (hd : decode cc pc = .ok (.putfield idx, 3)) (hf : pb_fp o k (.inr true) .int own idx) (k0 : pb_Snd Γ (pc + 3) κ) : pb_Snd Γ pc (i_putI o k κ) := by
  obtain ⟨p, l, e, R, s, m, args, below, meth, c, Q, nL, D, ad, cs, A, good, kc, ks⟩ := Γ
  obtain ⟨hx, hb, hml, hown, hts, hK, hN, hA, hZ, hkc⟩ := X
  intro lv st w o' ls H locs h hg hl hP hD hS
  obtain ⟨x, r, rfl, h1⟩ := pb_pI_e h
  clear h
  have h := h1
  clear h1
  try dsimp only at h
  obtain ⟨a, r, rfl, h1⟩ := pb_pR_e h
  clear h
  have h := h1
  clear h1
  try dsimp only at h
  split at h
  · rename_i ha
    subst ha
    exact pb_put (Γ := (p, l, e, R, s, m, args, below, meth, c, Q, nL, D, ad, cs, A, good, kc, ks)) ⟨hx, hb, hml, hown, hts, hK, hN, hA, hZ, hkc⟩ hd hf w (pb_wI w a k x) (.int x) ls H locs _ (fun ci fs q1 q2 => pb_setFI x q1 q2) rfl rfl hP hD hS (fun H1 locs1 a1 a2 a3 => k0 lv _ _ o' ls H1 locs1 h hg hl a1 a2 a3)
  · cases h
theorem s_putZ (X : pb_X Γ cc own) {o k idx : Nat} (hd : decode cc pc = .ok (.putfield idx, 3)) (hf : pb_fp o k (.inr true) .boolean own idx) (k0 : pb_Snd Γ (pc + 3) κ) : pb_Snd Γ pc (i_putZ o k κ) := by
  obtain ⟨p, l, e, R, s, m, args, below, meth, c, Q, nL, D, ad, cs, A, good, kc, ks⟩ := Γ
  obtain ⟨hx, hb, hml, hown, hts, hK, hN, hA, hZ, hkc⟩ := X
  intro lv st w o' ls H locs h hg hl hP hD hS
  obtain ⟨x, r, rfl, h1⟩ := pb_pI_e h
  clear h
  have h := h1
  clear h1
  try dsimp only at h
  obtain ⟨a, r, rfl, h1⟩ := pb_pR_e h
  clear h
  have h := h1
  clear h1
  try dsimp only at h
  split at h
  · rename_i ha
    subst ha
    split at h
    · rename_i hx01
      have hn : narrow .boolean (.int x) = .int x := by rcases hx01 with rfl | rfl <;> rfl
      have hfit : fits .boolean (.int x) = true := by rcases hx01 with rfl | rfl <;> rfl
      exact pb_put (Γ := (p, l, e, R, s, m, args, below, meth, c, Q, nL, D, ad, cs, A, good, kc, ks)) ⟨hx, hb, hml, hown, hts, hK, hN, hA, hZ, hkc⟩ hd hf w (pb_wI w a k x) (.int x) ls H locs _ (fun ci fs q1 q2 => pb_setFI x q1 q2) hn hfit hP hD hS (fun H1 locs1 a1 a2 a3 => k0 lv _ _ o' ls H1 locs1 h hg hl a1 a2 a3)
    · cases h
  · cases h
theorem s_putL (X : pb_X Γ cc own) {o k idx : Nat} (hd : decode cc pc = .ok (.putfield idx, 3)) (hf : pb_fp o k (.inr false) .long own idx) (k0 : pb_Snd Γ (pc + 3) κ) : pb_Snd Γ pc (i_putL o k κ) := by
  obtain ⟨p, l, e, R, s, m, args, below, meth, c, Q, nL, D, ad, cs, A, good, kc, ks⟩ := Γ
  obtain ⟨hx, hb, hml, hown, hts, hK, hN, hA, hZ, hkc⟩ := X
  intro lv st w o' ls H locs h hg hl hP hD hS
  obtain ⟨x, r, rfl, h1⟩ := pb_pL_e h
  clear h
  have h := h1
  clear h1
  try dsimp only at h
  obtain ⟨a, r, rfl, h1⟩ := pb_pR_e h
  clear h
  have h := h1
  clear h1
  try dsimp only at h
  split at h
  · rename_i ha
    subst ha
    exact pb_put (Γ := (p, l, e, R, s, m, args, below, meth, c, Q, nL, D, ad, cs, A, good, kc, ks)) ⟨hx, hb, hml, hown, hts, hK, hN, hA, hZ, hkc⟩ hd hf w (pb_wL w a k x) (.long x) ls H locs _ (fun ci fs q1 q2 => pb_setFL x q1 q2) rfl rfl hP hD hS (fun H1 locs1 a1 a2 a3 => k0 lv _ _ o' ls H1 locs1 h hg hl a1 a2 a3)
  · cases h
theorem pb_in_vp {i : Int32} {n : Nat} (h : pb_in i n) : vp_in i n := vp_in_iff.mpr h
theorem pb_at0 {cs : Nat → ClassId} {ad : Nat → Nat} (w : pb_W) {o t n : Nat} (h : pb_sh[o]? = some (.inl (t, n))) (ht : t ≠ 3) : (pb_mk cs ad w)[o]? = some (ad o, .inl (cs t, n, .inl (w.1 o))) := by
  rw [pb_mk_at w h]
  simp only [pb_ent, if_neg ht]
theorem pb_at3 {cs : Nat → ClassId} {ad : Nat → Nat} (w : pb_W) {o n : Nat} (h : pb_sh[o]? = some (.inl (3, n))) : (pb_mk cs ad w)[o]? = some (ad o, .inl (cs 3, n, .inr (.inl (w.2 o)))) := by
  rw [pb_mk_at w h]
  simp only [pb_ent, if_true]
theorem s_iald (X : pb_X Γ cc own) {o n : Nat} (hd : decode cc pc = .ok (.iaload, 1)) (hs : pb_sh[o]? = some (.inl (0, n))) (k0 : pb_Snd Γ (pc + 1) κ) : pb_Snd Γ pc (i_ald o n κ) := by
  obtain ⟨p, l, e, R, s, m, args, below, meth, c, Q, nL, D, ad, cs, A, good, kc, ks⟩ := Γ
  obtain ⟨hx, hb, hml, hown, hts, hK, hN, hA, hZ, hkc⟩ := X
  intro lv st w o' ls H locs h hg hl hP hD hS
  obtain ⟨i, r, rfl, h1⟩ := pb_pI_e h
  clear h
  have h := h1
  clear h1
  try dsimp only at h
  obtain ⟨a, r, rfl, h1⟩ := pb_pR_e h
  clear h
  have h := h1
  clear h1
  try dsimp only at h
  split at h
  · rename_i ha
    subst ha
    split at h
    · rename_i hi
      exact va_iald hx hb hK hP a 0 (pb_at0 w hs (by decide)) rfl (pb_in_vp hi) hd (k0 lv _ w o' ls H locs h hg hl hP hD hS)
    · cases h
  · cases h
theorem s_zald (X : pb_X Γ cc own) {o n : Nat} (hd : decode cc pc = .ok (.baload, 1)) (hs : pb_sh[o]? = some (.inl (1, n))) (k0 : pb_Snd Γ (pc + 1) κ) : pb_Snd Γ pc (i_ald o n κ) := by
  obtain ⟨p, l, e, R, s, m, args, below, meth, c, Q, nL, D, ad, cs, A, good, kc, ks⟩ := Γ
  obtain ⟨hx, hb, hml, hown, hts, hK, hN, hA, hZ, hkc⟩ := X
  intro lv st w o' ls H locs h hg hl hP hD hS
  obtain ⟨i, r, rfl, h1⟩ := pb_pI_e h
  clear h
  have h := h1
  clear h1
  try dsimp only at h
  obtain ⟨a, r, rfl, h1⟩ := pb_pR_e h
  clear h
  have h := h1
  clear h1
  try dsimp only at h
  split at h
  · rename_i ha
    subst ha
    split at h
    · rename_i hi
      exact va_zald hx hb hK hP a 1 (pb_at0 w hs (by decide)) rfl (pb_in_vp hi) hd (k0 lv _ w o' ls H locs h hg hl hP hD hS)
    · cases h
  · cases h
theorem s_bald (X : pb_X Γ cc own) {o n : Nat} (hd : decode cc pc = .ok (.baload, 1)) (hs : pb_sh[o]? = some (.inl (2, n))) (k0 : pb_Snd Γ (pc + 1) κ) : pb_Snd Γ pc (i_ald o n κ) := by
  obtain ⟨p, l, e, R, s, m, args, below, meth, c, Q, nL, D, ad, cs, A, good, kc, ks⟩ := Γ
  obtain ⟨hx, hb, hml, hown, hts, hK, hN, hA, hZ, hkc⟩ := X
  intro lv st w o' ls H locs h hg hl hP hD hS
  obtain ⟨i, r, rfl, h1⟩ := pb_pI_e h
  clear h
  have h := h1
  clear h1
  try dsimp only at h
  obtain ⟨a, r, rfl, h1⟩ := pb_pR_e h
  clear h
  have h := h1
  clear h1
  try dsimp only at h
  split at h
  · rename_i ha
    subst ha
    split at h
    · rename_i hi
      exact va_bald hx hb hK hP a 2 (pb_at0 w hs (by decide)) rfl (pb_in_vp hi) hd (k0 lv _ w o' ls H locs h hg hl hP hD hS)
    · cases h
  · cases h
theorem s_lald (X : pb_X Γ cc own) {o n : Nat} (hd : decode cc pc = .ok (.laload, 1)) (hs : pb_sh[o]? = some (.inl (3, n))) (k0 : pb_Snd Γ (pc + 1) κ) : pb_Snd Γ pc (i_lald o n κ) := by
  obtain ⟨p, l, e, R, s, m, args, below, meth, c, Q, nL, D, ad, cs, A, good, kc, ks⟩ := Γ
  obtain ⟨hx, hb, hml, hown, hts, hK, hN, hA, hZ, hkc⟩ := X
  intro lv st w o' ls H locs h hg hl hP hD hS
  obtain ⟨i, r, rfl, h1⟩ := pb_pI_e h
  clear h
  have h := h1
  clear h1
  try dsimp only at h
  obtain ⟨a, r, rfl, h1⟩ := pb_pR_e h
  clear h
  have h := h1
  clear h1
  try dsimp only at h
  split at h
  · rename_i ha
    subst ha
    split at h
    · rename_i hi
      exact va_lald hx hb hK hP a 3 (pb_at3 w hs) rfl (pb_in_vp hi) hd (k0 lv _ w o' ls H locs h hg hl hP hD hS)
    · cases h
  · cases h
theorem s_iast (X : pb_X Γ cc own) {o n : Nat} (hd : decode cc pc = .ok (.iastore, 1)) (hs : pb_sh[o]? = some (.inl (0, n))) (k0 : pb_Snd Γ (pc + 1) κ) : pb_Snd Γ pc (i_ast o n (fun x => x) κ) := by
  obtain ⟨p, l, e, R, s, m, args, below, meth, c, Q, nL, D, ad, cs, A, good, kc, ks⟩ := Γ
  obtain ⟨hx, hb, hml, hown, hts, hK, hN, hA, hZ, hkc⟩ := X
  intro lv st w o' ls H locs h hg hl hP hD hS
  obtain ⟨x, r, rfl, h1⟩ := pb_pI_e h
  clear h
  have h := h1
  clear h1
  try dsimp only at h
  obtain ⟨i, r, rfl, h1⟩ := pb_pI_e h
  clear h
  have h := h1
  clear h1
  try dsimp only at h
  obtain ⟨a, r, rfl, h1⟩ := pb_pR_e h
  clear h
  have h := h1
  clear h1
  try dsimp only at h
  split at h
  · rename_i ha
    subst ha
    split at h
    · rename_i hi
      refine va_iast hx hb hK hP hD hS a 0 (pb_at0 w hs (by decide)) rfl (pb_in_vp hi) hd (fun H1 locs1 a1 a2 a3 => ?_)
      rw [pb_setF _ hs (by decide)] at a1 a2
      exact k0 lv _ _ o' ls H1 locs1 h hg hl a1 a2 a3
    · cases h
  · cases h
theorem s_zast (X : pb_X Γ cc own) {o n : Nat} (hd : decode cc pc = .ok (.bastore, 1)) (hs : pb_sh[o]? = some (.inl (1, n))) (k0 : pb_Snd Γ (pc + 1) κ) : pb_Snd Γ pc (i_ast o n (vp_nar .boolean) κ) := by
  obtain ⟨p, l, e, R, s, m, args, below, meth, c, Q, nL, D, ad, cs, A, good, kc, ks⟩ := Γ
  obtain ⟨hx, hb, hml, hown, hts, hK, hN, hA, hZ, hkc⟩ := X
  intro lv st w o' ls H locs h hg hl hP hD hS
  obtain ⟨x, r, rfl, h1⟩ := pb_pI_e h
  clear h
  have h := h1
  clear h1
  try dsimp only at h
  obtain ⟨i, r, rfl, h1⟩ := pb_pI_e h
  clear h
  have h := h1
  clear h1
  try dsimp only at h
  obtain ⟨a, r, rfl, h1⟩ := pb_pR_e h
  clear h
  have h := h1
  clear h1
  try dsimp only at h
  split at h
  · rename_i ha
    subst ha
    split at h
    · rename_i hi
      refine va_zast hx hb hK hP hD hS a 1 (pb_at0 w hs (by decide)) rfl (pb_in_vp hi) hd (fun H1 locs1 a1 a2 a3 => ?_)
      rw [pb_setF _ hs (by decide)] at a1 a2
      exact k0 lv _ _ o' ls H1 locs1 h hg hl a1 a2 a3
    · cases h
  · cases h
theorem s_bast (X : pb_X Γ cc own) {o n : Nat} (hd : decode cc pc = .ok (.bastore, 1)) (hs : pb_sh[o]? = some (.inl (2, n))) (k0 : pb_Snd Γ (pc + 1) κ) : pb_Snd Γ pc (i_ast o n (vp_nar .byte) κ) := by
  obtain ⟨p, l, e, R, s, m, args, below, meth, c, Q, nL, D, ad, cs, A, good, kc, ks⟩ := Γ
  obtain ⟨hx, hb, hml, hown, hts, hK, hN, hA, hZ, hkc⟩ := X
  intro lv st w o' ls H locs h hg hl hP hD hS
  obtain ⟨x, r, rfl, h1⟩ := pb_pI_e h
  clear h
  have h := h1
  clear h1
  try dsimp only at h
  obtain ⟨i, r, rfl, h1⟩ := pb_pI_e h
  clear h
  have h := h1
  clear h1
  try dsimp only at h
  obtain ⟨a, r, rfl, h1⟩ := pb_pR_e h
  clear h
  have h := h1
  clear h1
  try dsimp only at h
  split at h
  · rename_i ha
    subst ha
    split at h
    · rename_i hi
      refine va_bast hx hb hK hP hD hS a 2 (pb_at0 w hs (by decide)) rfl (pb_in_vp hi) hd (fun H1 locs1 a1 a2 a3 => ?_)
      rw [pb_setF _ hs (by decide)] at a1 a2
      exact k0 lv _ _ o' ls H1 locs1 h hg hl a1 a2 a3
    · cases h
  · cases h
theorem s_last (X : pb_X Γ cc own) {o n : Nat} (hd : decode cc pc = .ok (.lastore, 1)) (hs : pb_sh[o]? = some (.inl (3, n))) (k0 : pb_Snd Γ (pc + 1) κ) : pb_Snd Γ pc (i_last o n κ) := by
  obtain ⟨p, l, e, R, s, m, args, below, meth, c, Q, nL, D, ad, cs, A, good, kc, ks⟩ := Γ
  obtain ⟨hx, hb, hml, hown, hts, hK, hN, hA, hZ, hkc⟩ := X
  intro lv st w o' ls H locs h hg hl hP hD hS
  obtain ⟨x, r, rfl, h1⟩ := pb_pL_e h
  clear h
  have h := h1
  clear h1
  try dsimp only at h
  obtain ⟨i, r, rfl, h1⟩ := pb_pI_e h
  clear h
  have h := h1
  clear h1
  try dsimp only at h
  obtain ⟨a, r, rfl, h1⟩ := pb_pR_e h
  clear h
  have h := h1
  clear h1
  try dsimp only at h
  split at h
  · rename_i ha
    subst ha
    split at h
    · rename_i hi
      refine va_last hx hb hK hP hD hS a 3 (pb_at3 w hs) rfl (pb_in_vp hi) hd (fun H1 locs1 a1 a2 a3 => ?_)
      rw [pb_setG _ hs] at a1 a2
      exact k0 lv _ _ o' ls H1 locs1 h hg hl a1 a2 a3
    · cases h
  · cases h
theorem s_alen (X : pb_X Γ cc own) {o t n : Nat} {ty : FieldType} (hd : decode cc pc = .ok (.arraylength, 1)) (hs : pb_sh[o]? = some (.inl (t, n))) (ht : ∀ cs : Nat → ClassId, (pb_tys cs)[t]? = some (cs t, ty)) (k0 : pb_Snd Γ (pc + 1) κ) : pb_Snd Γ pc (i_alen o n κ) := by
  obtain ⟨p, l, e, R, s, m, args, below, meth, c, Q, nL, D, ad, cs, A, good, kc, ks⟩ := Γ
  obtain ⟨hx, hb, hml, hown, hts, hK, hN, hA, hZ, hkc⟩ := X
  intro lv st w o' ls H locs h hg hl hP hD hS
  obtain ⟨a, r, rfl, h1⟩ := pb_pR_e h
  clear h
  have h := h1
  clear h1
  try dsimp only at h
  split at h
  · rename_i ha
    subst ha
    exact va_alen hx hb hK hP a t (pb_mk_at w hs) (ht cs) rfl hd (k0 lv _ w o' ls H locs h hg hl hP hD hS)
  · cases h
theorem s_lookup (X : pb_X Γ cc own) {dflt : Int} {ps : Array (Int × Int)} {len : Nat} {cases : List (Int32 × pb_C)} {κd : pb_C} (hd : decode cc pc = .ok (.lookupswitch dflt ps, len)) (hp : (ps.toList.zip (ps.toList.drop 1)).all (fun (a, next) => a.1 < next.1) = true) (tgts : List Nat) (td : Nat) (hdt : (pc : Int) + dflt = (td : Int)) (kd : pb_Snd Γ td κd) (hc : ∀ (x : Int32), (∃ (j : Nat) (q : Int32 × pb_C) (t : Nat), cases[j]? = some q ∧ tgts[j]? = some t ∧ x = q.1 ∧ (∀ i, i < j → ∀ q', cases[i]? = some q' → x ≠ q'.1) ∧ (pc : Int) + Op.lookupswitch.offset ps.toList dflt x.toInt = (t : Int)) ∨ ((∀ q ∈ cases, x ≠ q.1) ∧ Op.lookupswitch.offset ps.toList dflt x.toInt = dflt)) (kc : ∀ (j : Nat) (q : Int32 × pb_C) (t : Nat), cases[j]? = some q → tgts[j]? = some t → pb_Snd Γ t q.2) : pb_Snd Γ pc (i_sw cases κd) := by
  obtain ⟨p, l, e, R, s, m, args, below, meth, c, Q, nL, D, ad, cs, A, good, kc, ks⟩ := Γ
  obtain ⟨hx, hb, hml, hown, hts, hK, hN, hA, hZ, hkc⟩ := X
  intro lv st w o' ls H locs h hg hl hP hD hS
  have key : ∀ (cs' : List (Int32 × pb_C)), i_sw cs' κd lv st w = some o' → ∃ x r, st = .int x :: r ∧ ((∃ (j : Nat) (q : Int32 × pb_C), cs'[j]? = some q ∧ x = q.1 ∧ (∀ i, i < j → ∀ q', cs'[i]? = some q' → x ≠ q'.1) ∧ q.2 lv r w = some o') ∨ ((∀ q ∈ cs', x ≠ q.1) ∧ κd lv r w = some o')) := by
    intro cs'
    induction cs' with
    | nil =>
      intro h
      obtain ⟨x, r, rfl, h1⟩ := pb_pI_e h
      clear h
      have h := h1
      clear h1
      try dsimp only at h
      exact ⟨x, r, rfl, Or.inr ⟨fun q hq => absurd hq List.not_mem_nil, h⟩⟩
    | cons q t ih =>
      intro h
      obtain ⟨k, κ⟩ := q
      unfold i_sw at h
      obtain ⟨x, r, rfl, h1⟩ := pb_pI_e h
      clear h
      have h := h1
      clear h1
      try dsimp only at h
      refine ⟨x, r, rfl, ?_⟩
      by_cases hk : x = k
      · rw [if_pos hk] at h
        exact Or.inl ⟨0, (k, κ), rfl, hk, fun i hi => absurd hi (Nat.not_lt_zero i), h⟩
      · rw [if_neg hk] at h
        obtain ⟨x2, r2, e2, h2⟩ := ih h
        cases e2
        rcases h2 with ⟨j, q, g1, g2, g3, g4⟩ | ⟨g1, g2⟩
        · refine Or.inl ⟨j + 1, q, g1, g2, fun i hi q' hq' => ?_, g4⟩
          cases i with
          | zero =>
            simp only [List.getElem?_cons_zero] at hq'
            cases hq'
            exact hk
          | succ i => exact g3 i (by omega) q' (by simpa using hq')
        · refine Or.inr ⟨fun q hq => ?_, g2⟩
          rcases List.mem_cons.mp hq with rfl | hq
          · exact hk
          · exact g1 q hq
  obtain ⟨x, r, rfl, h2⟩ := key cases h
  rcases hc x with ⟨j, q, t, g1, g2, g3, g4, g5⟩ | ⟨g1, g2⟩
  · rcases h2 with ⟨j', q', f1, f2, f3, f4⟩ | ⟨f1, f2⟩
    · have ej : j' = j := by
        rcases Nat.lt_trichotomy j' j with z | z | z
        · exact absurd f2 (g4 j' z q' f1)
        · exact z
        · exact absurd g3 (f3 j z q g1)
      subst ej
      cases g1.symm.trans f1
      exact lv_lookup hx hb hd hp rfl g5 (kc j' q t g1 g2 lv r w o' ls H locs f4 hg hl hP hD hS)
    · exact absurd g3 (f1 q (List.mem_of_getElem? g1))
  · rcases h2 with ⟨j', q', f1, f2, f3, f4⟩ | ⟨f1, f2⟩
    · exact absurd f2 (g1 q' (List.mem_of_getElem? f1))
    · exact lv_lookup hx hb hd hp g2 hdt (kd lv r w o' ls H locs f2 hg hl hP hD hS)
/-- a table: the places of a tableswitch one behind another -/
def i_tb (lo : Int32) (cases : List pb_C) (dflt : pb_C) : pb_C := match cases with
  | [] => fun ls st w => pb_pI st fun _ st => dflt ls st w
  | κ :: r => fun ls st w => pb_pI st fun x st2 => if x = lo then κ ls st2 w else i_tb (lo + 1) r dflt ls st w
theorem i_tb_e {κd : pb_C} {lv : pb_L} {st : List Value} {w : pb_W} {o : pb_R ⊕ pb_S} : ∀ (cases : List pb_C) (lo : Int32), i_tb lo cases κd lv st w = some o → ∃ x r, st = .int x :: r ∧ ((∃ (j : Nat) (κ : pb_C), cases[j]? = some κ ∧ x = lo + Int32.ofNat j ∧ κ lv r w = some o) ∨ ((∀ j, j < cases.length → x ≠ lo + Int32.ofNat j) ∧ κd lv r w = some o))
  | [], lo, h => by
    obtain ⟨x, r, rfl, h1⟩ := pb_pI_e h
    clear h
    have h := h1
    clear h1
    try dsimp only at h
    exact ⟨x, r, rfl, Or.inr ⟨fun j hj => absurd hj (Nat.not_lt_zero j), h⟩⟩
  | κ :: t, lo, h => by
    unfold i_tb at h
    obtain ⟨x, r, rfl, h1⟩ := pb_pI_e h
    clear h
    have h := h1
    clear h1
    try dsimp only at h
    refine ⟨x, r, rfl, ?_⟩
    by_cases hk : x = lo
    · rw [if_pos hk] at h
      exact Or.inl ⟨0, κ, rfl, by rw [hk]; simp, h⟩
    · rw [if_neg hk] at h
      obtain ⟨x2, r2, e2, h2⟩ := i_tb_e t (lo + 1) h
      cases e2
      have ej : ∀ j : Nat, lo + 1 + Int32.ofNat j = lo + Int32.ofNat (j + 1) := fun j => by
        have : Int32.ofNat (j + 1) = Int32.ofNat j + 1 := nI_succ j
        rw [this, Int32.add_assoc, Int32.add_comm 1]
      rcases h2 with ⟨j, q, g1, g2, g4⟩ | ⟨g1, g2⟩
      · exact Or.inl ⟨j + 1, q, by simpa using g1, by rw [g2, ej], g4⟩
      · refine Or.inr ⟨fun j hj => ?_, g2⟩
        cases j with
        | zero => simpa using hk
        | succ j =>
          rw [← ej]
          exact g1 j (by simpa using hj)
theorem s_table (X : pb_X Γ cc own) {dflt lo hi : Int} {offs : Array Int} {len : Nat} {cases : List pb_C} {κd : pb_C} (hd : decode cc pc = .ok (.tableswitch dflt lo hi offs, len)) (n : Nat) (lo' : Int32) (hlo : lo'.toInt = lo) (hn : cases.length = n) (hhi : lo + n = hi + 1) (hsm : 0 ≤ lo ∧ hi < 1000) (td : Nat) (hdt : (pc : Int) + dflt = (td : Int)) (kd : pb_Snd Γ td κd) (tgts : List Nat) (hofb : (List.range n).all (fun j => match offs[j]?, tgts[j]? with | some o, some t => decide ((pc : Int) + o = (t : Int)) | _, _ => false) = true) (kc : ∀ (j : Nat) (κ : pb_C) (t : Nat), cases[j]? = some κ → tgts[j]? = some t → pb_Snd Γ t κ) : pb_Snd Γ pc (i_tb lo' cases κd) := by
  have hof : ∀ j : Nat, j < n → ∃ (off : Int) (t : Nat), offs[j]? = some off ∧ tgts[j]? = some t ∧ (pc : Int) + off = (t : Int) := by
    intro j hj
    have h := List.all_eq_true.mp hofb j (List.mem_range.mpr hj)
    cases ho : offs[j]? with
    | none => simp [ho] at h
    | some o =>
      cases ht : tgts[j]? with
      | none => simp [ho, ht] at h
      | some t =>
        simp only [ho, ht, decide_eq_true_eq] at h
        exact ⟨o, t, rfl, rfl, h⟩
  obtain ⟨p, l, e, R, s, m, args, below, meth, c, Q, nL, D, ad, cs, A, good, kc, ks⟩ := Γ
  obtain ⟨hx, hb, hml, hown, hts, hK, hN, hA, hZ, hkc⟩ := X
  intro lv st w o' ls H locs h hg hl hP hD hS
  obtain ⟨x, r, rfl, h2⟩ := i_tb_e cases lo' h
  have hv : ∀ j : Nat, j < n → (lo' + Int32.ofNat j).toInt = lo + j := by
    intro j hj
    have e1 : (Int32.ofNat j).toInt = (j : Int) := nI_toInt (n := j) (by omega)
    rw [Int32.toInt_add, hlo, e1]
    exact Int.bmod_eq_of_le (by omega) (by omega)
  rcases h2 with ⟨j, κ, g1, g2, g3⟩ | ⟨g1, g2⟩
  · have hj : j < n := by rw [← hn]; exact (List.getElem?_eq_some_iff.mp g1).1
    obtain ⟨off, t, f1, f2, f3⟩ := hof j hj
    have ex : x.toInt = lo + j := by rw [g2]; exact hv j hj
    exact lv_tableIn hx hb hd (by omega) (by omega) (off := off) (by rw [ex, show (lo + (j : Int) - lo).toNat = j from (by omega)]; exact f1) f3 (kc j κ t g1 f2 lv r w o' ls H locs g3 hg hl hP hD hS)
  · refine lv_tableOut hx hb hd ?_ hdt (kd lv r w o' ls H locs g2 hg hl hP hD hS)
    by_cases z : x.toInt < lo
    · exact Or.inl z
    · by_cases z2 : hi < x.toInt
      · exact Or.inr z2
      · have hj : (x.toInt - lo).toNat < n := by omega
        refine absurd ?_ (g1 _ (by rw [hn]; exact hj))
        apply Int32.toInt_inj.mp
        rw [hv _ hj]
        omega
/-! calls: the contract of a method out of its pure function -/
def pb_WOK (D : va_G) (ad : Nat → Nat) (cs : Nat → ClassId) (A : Nat → Prop) (w : pb_W) (U : State) : Prop := va_K D vwCl (pb_tys cs) U ∧ (∀ x ∈ pb_nests, va_Nw x U) ∧ (∀ q, U.heap.size ≤ q → A q) ∧ pb_stat ad A U U.heap ∧ va_P D vwCl (pb_mk cs ad w) U.heap ∧ va_D A (pb_mk cs ad w)
def pb_rm (d : Nat) : Room := { frames := d, cells := 0, slots := 0, locals := d * 64 }
def pb_Pc (D : va_G) (ad : Nat → Nat) (cs : Nat → ClassId) (A : Nat → Prop) (av : List Value) (w : pb_W) : Array Value → State → Prop := fun v U => v = (av.map (pb_cv ad)).toArray ∧ pb_WOK D ad cs A w U
def pb_Qc (D : va_G) (ad : Nat → Nat) (cs : Nat → ClassId) (A : Nat → Prop) (r : pb_R) : Array Value → State → Outcome → State → Prop := fun _ st o t => o = .returned (r.1.map (pb_cv ad)) ∧ pb_WOK D ad cs A r.2 t ∧ va_F A st t
def pb_Sound (l : Launch) (y : MethodName) (cc : ByteArray) (maxL : Nat) (ret : Option FieldType) (d : Nat) (F : pb_F) : Prop := Cond.code y cc maxL ret ∈ pb_tbl ∧ ∀ (D : va_G) (ad : Nat → Nat) (cs : Nat → ClassId) (A : Nat → Prop) (av : List Value) (w : pb_W) (r : pb_R), F av w = some r → Met l y (.code y cc maxL ret :: pb_tbl) (pb_rm d) (pb_Pc D ad cs A av w) (pb_Qc D ad cs A r) 0 0 A
theorem pb_WOK_same {D : va_G} {ad : Nat → Nat} {cs : Nat → ClassId} {A : Nat → Prop} {w : pb_W} {u U : State} (hv : U.vm = u.vm) (hh : U.heap = u.heap) (h : pb_WOK D ad cs A w u) : pb_WOK D ad cs A w U := by
  obtain ⟨h1, h2, h3, h4, h5, h6⟩ := h
  refine ⟨va_K.moved (by rw [hv]; exact Vm.Alike.refl _) h1, fun x hx => pb_nest_same hx hv.symm (h2 x hx), by rw [hh]; exact h3, by rw [hh]; exact pb_stat_same hv h4, by rw [hh]; exact h5, h6⟩
theorem pb_blind {D : va_G} {ad : Nat → Nat} {cs : Nat → ClassId} {A : Nat → Prop} {av : List Value} {w : pb_W} : FrameBlind (pb_Pc D ad cs A av w) := fun a U g mk h => ⟨h.1, pb_WOK_same (u := U) (U := U.calling g mk a) rfl rfl h.2⟩
def pb_cs (own : String) (idx : Nat) (y : MethodName) (n : Nat) : Prop := (Cond.methodLink own idx y ∈ pb_tbl ∨ ∃ host, Cond.methodLinkNest own idx y host ∈ pb_nests) ∧ Cond.static y ∈ pb_tbl ∧ Cond.initialized y.cls ∈ pb_tbl ∧ (y.cls ≠ "java/lang/invoke/MethodHandle" ∧ y.cls ≠ "java/lang/invoke/VarHandle" ∧ (parseMethodDescriptor y.desc).map (fun d => d.parameters.length) = some n)
def pb_ci (own : String) (idx : Nat) (y : MethodName) (n : Nat) : Prop := (Cond.methodLink own idx y ∈ pb_tbl ∨ ∃ host, Cond.methodLinkNest own idx y host ∈ pb_nests) ∧ Cond.instanceMethod y ∈ pb_tbl ∧ Cond.selects y.cls y y ∈ pb_tbl ∧ Cond.initialized y.cls ∈ pb_tbl ∧ (y.cls ≠ "java/lang/invoke/MethodHandle" ∧ y.cls ≠ "java/lang/invoke/VarHandle" ∧ (parseMethodDescriptor y.desc).map (fun d => d.parameters.length) = some n)
theorem pb_good {y : MethodName} {cc : ByteArray} {maxL : Nat} {ret : Option FieldType} (h : Cond.code y cc maxL ret ∈ pb_tbl) : GoodIn pb_tbl (.code y cc maxL ret :: pb_tbl) := fun w hw => by
  rcases List.mem_cons.mp hw with rfl | hw
  · exact pb_tbl_good _ h
  · exact pb_tbl_good _ hw
/-- what a call's run gives: behind it the world is the new one -/
theorem pb_after {Γ : pb_G} {pc : Nat} {κ : pb_C} (k0 : pb_Snd Γ (pc + 3) κ) : match Γ with
  | (p, l, e, R, s, m, args, below, meth, c, Q, nL, D, ad, cs, A, good, kc, ks) => ∀ (lv : pb_L) (w : pb_W) (r : pb_R) (o' : pb_R ⊕ pb_S) (ls : Array Slot) (H : Heap) (locs : List Loc) (st0 rest : List Value) (a : Array Value), va_Run p l e R s m args below meth c H locs kc ks 0 0 (F0 m pc ls st0) (rest.map (pb_cv ad)) (pb_Qc D ad cs A r a) A → κ lv (r.1.toList ++ rest) r.2 = some o' → good o' → pb_lv ad ls nL lv → va_S A s.heap H locs → W p l e R s m args below meth c H locs kc ks Q (F0 m pc ls st0) := by
  obtain ⟨p, l, e, R, s, m, args, below, meth, c, Q, nL, D, ad, cs, A, good, kc, ks⟩ := Γ
  intro lv w r o' ls H locs st0 rest a hr h hg hl hS T hT X
  obtain ⟨v, st₀, t, T', L, h0, X', hL, e1, e2, ⟨hv, ⟨hK1, hN1, hA1, hZ1, hP1, hD1⟩, hF⟩, st⟩ := hr T hT X
  cases hv
  have hz := hF.1
  have hk := hF.2
  rw [h0] at hz hk
  have hS1 : va_S A s.heap T'.heap (locs ++ L) := ⟨Nat.le_trans hS.1 (by rw [e1]; exact hz), fun q g1 g2 => by rw [e1, hk q (Nat.lt_of_lt_of_le g1 hS.1) g2]; exact hS.2.1 q g1 g2, fun q hq => by
    rcases List.mem_append.mp hq with g | g
    · exact hS.2.2 q g
    · exact hL q g⟩
  have em : (r.1.toList ++ rest).map (pb_cv ad) = (r.1.map (pb_cv ad)).toList ++ rest.map (pb_cv ad) := by
    rw [List.map_append]
    cases r.1 <;> rfl
  have W1 := k0 lv (r.1.toList ++ rest) r.2 o' ls T'.heap (locs ++ L) h hg hl (by rw [e1]; exact hP1) hD1 hS1
  rw [em] at W1
  obtain ⟨t2, a1, b1⟩ := W1 T' rfl X'
  exact ⟨t2, st t2 a1, b1⟩
theorem pb_take_drop {st : List Value} {n : Nat} (ad : Nat → Nat) (h : n ≤ st.length) : st.map (pb_cv ad) = ((st.take n).reverse.map (pb_cv ad)).reverse ++ (st.drop n).map (pb_cv ad) := by
  rw [← List.map_reverse, List.reverse_reverse, ← List.map_append, List.take_append_drop]
theorem s_callS (X : pb_X Γ cc own) {n kd idx maxL d : Nat} {y : MethodName} {bytes : ByteArray} {ret : Option FieldType} {F : pb_F} (hd : decode cc pc = .ok (.invokestatic idx, 3)) (hF : pb_Sound Γ.2.1 y bytes maxL ret d F) (hcs : pb_cs own idx y n) (hR : (pb_rm d).frames + 1 ≤ Γ.2.2.2.1.frames ∧ 8 + (maxL + 11) + (pb_rm d).locals ≤ Γ.2.2.2.1.locals) (k0 : pb_Snd Γ (pc + 3) κ) : pb_Snd Γ pc (i_callS n kd F κ) := by
  obtain ⟨p, l, e, R, s, m, args, below, meth, c, Q, nL, D, ad, cs, A, good, kc, ks⟩ := Γ
  obtain ⟨hx, hb, hml, hown, hts, hK, hN, hA, hZ, hkc⟩ := X
  intro lv st w o' ls H locs h hg hl hP hD hS
  unfold i_callS at h
  cases hc : (Nat.ble n st.length && Nat.ble (pb_cat (st.drop n)) 8) with
  | false => rw [hc] at h; cases h
  | true =>
    rw [hc] at h
    obtain ⟨hn, h8⟩ := Bool.and_eq_true_iff.mp hc
    have hn := Nat.le_of_ble_eq_true hn
    have h8 := Nat.le_of_ble_eq_true h8
    obtain ⟨r, hr, h⟩ := pb_bR_e h
    obtain ⟨hcode, hM⟩ := hF
    have hM := hM D ad cs A _ w r hr
    have hpre : PreS s H (pb_Pc D ad cs A (st.take n).reverse w) ((st.take n).reverse.map (pb_cv ad)) := ⟨pb_blind, fun U hU hW => ⟨rfl, va_K.moved hW.alike hK, fun x hx => pb_nest_keep hx hW (hN x hx), by rw [hU]; exact fun q hq => hA q (Nat.le_trans hS.1 hq), by rw [hU]; exact pb_stat_moved hW (pb_stat_kept hS.2.1 hZ), by rw [hU]; exact hP, hD⟩⟩
    have hlen : ((st.take n).reverse.map (pb_cv ad)).length = n := by simp [hn]
    have hst := pb_take_drop ad hn
    have hroom : 2 * (F0 m pc ls (st.map (pb_cv ad))).monitorRoom + (((st.drop n).map (pb_cv ad)).map fun v => v.category).sum ≤ 8 := lv_room (by rw [pb_cv_sum]; exact h8)
    obtain ⟨hlk, hsta, hini, hdd⟩ := hcs
    rcases hlk with hlk | ⟨host, hlk⟩
    · exact pb_after (Γ := (p, l, e, R, s, m, args, below, meth, c, Q, nL, D, ad, cs, A, good, kc, ks)) k0 lv w r o' ls H locs _ (st.drop n) _ (va_runS (n := n) ⟨hx, hb, hml, hown, hts⟩ hM ⟨callB_of n hts (pb_good hcode) rfl rfl rfl (hts _ hini) (hts _ hlk) hdd hR, hts _ hsta⟩ hpre rfl hlen hl.1 hst hroom hd ⟨hkc.1, hkc.2⟩) h hg hl hS
    · exact pb_after (Γ := (p, l, e, R, s, m, args, below, meth, c, Q, nL, D, ad, cs, A, good, kc, ks)) k0 lv w r o' ls H locs _ (st.drop n) _ (va_runSN (n := n) ⟨hx, hb, hml, hown, hts⟩ hM ⟨va_cnB n hts (pb_good hcode) rfl rfl rfl (hN _ hlk) (hts _ hini) hdd hR, hts _ hsta, trivial⟩ hpre rfl hlen hl.1 hst hroom hd ⟨hkc.1, hkc.2⟩) h hg hl hS
theorem s_callV (X : pb_X Γ cc own) {o n kd idx maxL d ci : Nat} {y : MethodName} {bytes : ByteArray} {ret : Option FieldType} {F : pb_F} {fs : List (Nat ⊕ Bool)} {T : u_T} {N : Nat} (hd : decode cc pc = .ok (.invokevirtual idx, 3)) (hF : pb_Sound Γ.2.1 y bytes maxL ret d F) (hci : pb_ci own idx y n) (hsh : pb_sh[o]? = some (.inr (ci, fs))) (hcl : vwCl[ci]? = some (y.cls, T, N)) (hR : (pb_rm d).frames + 1 ≤ Γ.2.2.2.1.frames ∧ 8 + (maxL + 11) + (pb_rm d).locals ≤ Γ.2.2.2.1.locals) (k0 : pb_Snd Γ (pc + 3) κ) : pb_Snd Γ pc (i_callV o n kd F κ) := by
  obtain ⟨p, l, e, R, s, m, args, below, meth, c, Q, nL, D, ad, cs, A, good, kc, ks⟩ := Γ
  obtain ⟨hx, hb, hml, hown, hts, hK, hN, hA, hZ, hkc⟩ := X
  intro lv st w o' ls H locs h hg hl hP hD hS
  unfold i_callV at h
  cases hc : Nat.ble n st.length with
  | false => rw [hc] at h; cases h
  | true =>
    rw [hc] at h
    have hn := Nat.le_of_ble_eq_true hc
    obtain ⟨a, rest, hdr, h1⟩ := pb_pR_e h
    clear h
    have h := h1
    clear h1
    try dsimp only at h
    split at h
    · rename_i ha
      subst ha
      cases hc8 : Nat.ble (pb_cat rest) 8 with
      | false => rw [hc8] at h; cases h
      | true =>
        rw [hc8] at h
        have h8 := Nat.le_of_ble_eq_true hc8
        obtain ⟨r, hr, h⟩ := pb_bR_e h
        obtain ⟨hcode, hM⟩ := hF
        have hM := hM D ad cs A _ w r hr
        have hrec : ∃ cellB : Cell, H[ad a]? = some cellB ∧ cellB.vm.isStatics = false ∧ s.vm.findClass y.cls = some cellB.cls := va_recv (q0 := a) hK hP hcl (pb_mk_at w hsh)
        have hpre : PreV s H y.cls (ad a) (pb_Pc D ad cs A (.ref a :: (st.take n).reverse) w) ((st.take n).reverse.map (pb_cv ad)) := ⟨pb_blind, hrec, fun U hU hW => ⟨rfl, va_K.moved hW.alike hK, fun x hx => pb_nest_keep hx hW (hN x hx), by rw [hU]; exact fun q hq => hA q (Nat.le_trans hS.1 hq), by rw [hU]; exact pb_stat_moved hW (pb_stat_kept hS.2.1 hZ), by rw [hU]; exact hP, hD⟩⟩
        have hlen : ((st.take n).reverse.map (pb_cv ad)).length = n := by simp [hn]
        have hst : st.map (pb_cv ad) = ((st.take n).reverse.map (pb_cv ad)).reverse ++ .ref (ad a) :: rest.map (pb_cv ad) := by
          rw [pb_take_drop ad hn, hdr]
          rfl
        have hroom : 2 * (F0 m pc ls (st.map (pb_cv ad))).monitorRoom + ((rest.map (pb_cv ad)).map fun v => v.category).sum ≤ 8 := lv_room (by rw [pb_cv_sum]; exact h8)
        obtain ⟨hlk, hin, hsel, hini, hdd⟩ := hci
        rcases hlk with hlk | ⟨host, hlk⟩
        · exact pb_after (Γ := (p, l, e, R, s, m, args, below, meth, c, Q, nL, D, ad, cs, A, good, kc, ks)) k0 lv w r o' ls H locs _ rest _ (va_runV (n := n) ⟨hx, hb, hml, hown, hts⟩ hM ⟨callB_of n hts (pb_good hcode) rfl rfl rfl (hts _ hini) (hts _ hlk) hdd hR, hts _ hin, hts _ hsel⟩ hpre rfl hlen hl.1 hst hroom hd ⟨hkc.1, hkc.2⟩) h hg hl hS
        · exact pb_after (Γ := (p, l, e, R, s, m, args, below, meth, c, Q, nL, D, ad, cs, A, good, kc, ks)) k0 lv w r o' ls H locs _ rest _ (va_runVN (n := n) ⟨hx, hb, hml, hown, hts⟩ hM ⟨va_cnB n hts (pb_good hcode) rfl rfl rfl (hN _ hlk) (hts _ hini) hdd hR, hts _ hin, hts _ hsel⟩ hpre rfl hlen hl.1 hst hroom hd ⟨hkc.1, hkc.2⟩) h hg hl hS
    · cases h
theorem s_callT (X : pb_X Γ cc own) {i n kd idx maxL d : Nat} {y : MethodName} {bytes : ByteArray} {ret : Option FieldType} {F : pb_F} (hd : decode cc pc = .ok (.invokevirtual idx, 3)) (hF : pb_Sound Γ.2.1 y bytes maxL ret d F) (hci : pb_ci own idx y n) (hi : i < 3) (hy : y.cls = "java/lang/String") (hR : (pb_rm d).frames + 1 ≤ Γ.2.2.2.1.frames ∧ 8 + (maxL + 11) + (pb_rm d).locals ≤ Γ.2.2.2.1.locals) (k0 : pb_Snd Γ (pc + 3) κ) : pb_Snd Γ pc (i_callV (300 + i) n kd F κ) := by
  obtain ⟨p, l, e, R, s, m, args, below, meth, c, Q, nL, D, ad, cs, A, good, kc, ks⟩ := Γ
  obtain ⟨hx, hb, hml, hown, hts, hK, hN, hA, hZ, hkc⟩ := X
  intro lv st w o' ls H locs h hg hl hP hD hS
  unfold i_callV at h
  cases hc : Nat.ble n st.length with
  | false => rw [hc] at h; cases h
  | true =>
    rw [hc] at h
    have hn := Nat.le_of_ble_eq_true hc
    obtain ⟨a, rest, hdr, h1⟩ := pb_pR_e h
    clear h
    have h := h1
    clear h1
    try dsimp only at h
    split at h
    · rename_i ha
      subst ha
      cases hc8 : Nat.ble (pb_cat rest) 8 with
      | false => rw [hc8] at h; cases h
      | true =>
        rw [hc8] at h
        have h8 := Nat.le_of_ble_eq_true hc8
        obtain ⟨r, hr, h⟩ := pb_bR_e h
        obtain ⟨hcode, hM⟩ := hF
        have hM := hM D ad cs A _ w r hr
        have hrec : ∃ cellB : Cell, H[ad (300 + i)]? = some cellB ∧ cellB.vm.isStatics = false ∧ s.vm.findClass y.cls = some cellB.cls := by rw [hy]; exact vk_recv (i := i) hZ.1 (show i < pb_strs.length from hi) hS
        have hpre : PreV s H y.cls (ad (300 + i)) (pb_Pc D ad cs A (.ref (300 + i) :: (st.take n).reverse) w) ((st.take n).reverse.map (pb_cv ad)) := ⟨pb_blind, hrec, fun U hU hW => ⟨rfl, va_K.moved hW.alike hK, fun x hx => pb_nest_keep hx hW (hN x hx), by rw [hU]; exact fun q hq => hA q (Nat.le_trans hS.1 hq), by rw [hU]; exact pb_stat_moved hW (pb_stat_kept hS.2.1 hZ), by rw [hU]; exact hP, hD⟩⟩
        have hlen : ((st.take n).reverse.map (pb_cv ad)).length = n := by simp [hn]
        have hst : st.map (pb_cv ad) = ((st.take n).reverse.map (pb_cv ad)).reverse ++ .ref (ad (300 + i)) :: rest.map (pb_cv ad) := by
          rw [pb_take_drop ad hn, hdr]
          rfl
        have hroom : 2 * (F0 m pc ls (st.map (pb_cv ad))).monitorRoom + ((rest.map (pb_cv ad)).map fun v => v.category).sum ≤ 8 := lv_room (by rw [pb_cv_sum]; exact h8)
        obtain ⟨hlk, hin, hsel, hini, hdd⟩ := hci
        rcases hlk with hlk | ⟨host, hlk⟩
        · exact pb_after (Γ := (p, l, e, R, s, m, args, below, meth, c, Q, nL, D, ad, cs, A, good, kc, ks)) k0 lv w r o' ls H locs _ rest _ (va_runV (n := n) ⟨hx, hb, hml, hown, hts⟩ hM ⟨callB_of n hts (pb_good hcode) rfl rfl rfl (hts _ hini) (hts _ hlk) hdd hR, hts _ hin, hts _ hsel⟩ hpre rfl hlen hl.1 hst hroom hd ⟨hkc.1, hkc.2⟩) h hg hl hS
        · exact pb_after (Γ := (p, l, e, R, s, m, args, below, meth, c, Q, nL, D, ad, cs, A, good, kc, ks)) k0 lv w r o' ls H locs _ rest _ (va_runVN (n := n) ⟨hx, hb, hml, hown, hts⟩ hM ⟨va_cnB n hts (pb_good hcode) rfl rfl rfl (hN _ hlk) (hts _ hini) hdd hR, hts _ hin, hts _ hsel⟩ hpre rfl hlen hl.1 hst hroom hd ⟨hkc.1, hkc.2⟩) h hg hl hS
    · cases h
theorem s_gets (X : pb_X Γ cc own) {idx : Nat} {C n d : String} {v : Value} (hd : decode cc pc = .ok (.getstatic idx, 3)) (hc : Cond.fieldLink own idx C n d ∈ pb_tbl) (hz : ∀ (ad : Nat → Nat) (A : Nat → Prop) (U : State) (H : Heap), pb_stat ad A U H → va_Z C n d (pb_cv ad v) A U H) (k0 : pb_Snd Γ (pc + 3) κ) : pb_Snd Γ pc (i_const v κ) := by
  obtain ⟨p, l, e, R, s, m, args, below, meth, c, Q, nL, D, ad, cs, A, good, kc, ks⟩ := Γ
  obtain ⟨hx, hb, hml, hown, hts, hK, hN, hA, hZ, hkc⟩ := X
  intro lv st w o' ls H locs h hg hl hP hD hS
  exact va_gets hx hb (hz ad A s s.heap hZ) hS hown (hts _ hc) (fun _ q => q) hd (k0 lv (v :: st) w o' ls H locs h hg hl hP hD hS)
theorem s_getsN (X : pb_X Γ cc own) {idx : Nat} {C n d host : String} {v : Value} (hd : decode cc pc = .ok (.getstatic idx, 3)) (hc : Cond.fieldLinkNest own idx C n d host ∈ pb_nests) (hz : ∀ (ad : Nat → Nat) (A : Nat → Prop) (U : State) (H : Heap), pb_stat ad A U H → va_Z C n d (pb_cv ad v) A U H) (k0 : pb_Snd Γ (pc + 3) κ) : pb_Snd Γ pc (i_const v κ) := by
  obtain ⟨p, l, e, R, s, m, args, below, meth, c, Q, nL, D, ad, cs, A, good, kc, ks⟩ := Γ
  obtain ⟨hx, hb, hml, hown, hts, hK, hN, hA, hZ, hkc⟩ := X
  intro lv st w o' ls H locs h hg hl hP hD hS
  exact va_getsN hx hb (hz ad A s s.heap hZ) hS hown (va_Nw.use rfl (hN _ hc)) (fun _ q => q) hd (k0 lv (v :: st) w o' ls H locs h hg hl hP hD hS)
theorem s_getC (X : pb_X Γ cc own) {o idx : Nat} {C n d : String} {v : Value} (hd : decode cc pc = .ok (.getfield idx, 3)) (hc : Cond.fieldLink own idx C n d ∈ pb_tbl) (hz : ∀ (ad : Nat → Nat) (A : Nat → Prop) (U : State) (H : Heap), pb_stat ad A U H → va_OF C n d (pb_cv ad v) (ad o) A U H) (k0 : pb_Snd Γ (pc + 3) κ) : pb_Snd Γ pc (i_getC o v κ) := by
  obtain ⟨p, l, e, R, s, m, args, below, meth, c, Q, nL, D, ad, cs, A, good, kc, ks⟩ := Γ
  obtain ⟨hx, hb, hml, hown, hts, hK, hN, hA, hZ, hkc⟩ := X
  intro lv st w o' ls H locs h hg hl hP hD hS
  obtain ⟨a, r, rfl, h1⟩ := pb_pR_e h
  clear h
  have h := h1
  clear h1
  try dsimp only at h
  split at h
  · rename_i ha
    subst ha
    exact vk_getf hx hb (hz ad A s s.heap hZ) hS hown (hts _ hc) (fun _ q => q) hd (k0 lv _ w o' ls H locs h hg hl hP hD hS)
  · cases h
theorem s_cald (X : pb_X Γ cc own) {o n : Nat} {f : Nat → Int32} (hd : decode cc pc = .ok (.baload, 1)) (hz : ∀ (ad : Nat → Nat) (A : Nat → Prop) (U : State) (H : Heap), pb_stat ad A U H → va_T .byte (ad o) n (fun j => .int (f j)) A U H) (k0 : pb_Snd Γ (pc + 1) κ) : pb_Snd Γ pc (i_cald o n f κ) := by
  obtain ⟨p, l, e, R, s, m, args, below, meth, c, Q, nL, D, ad, cs, A, good, kc, ks⟩ := Γ
  obtain ⟨hx, hb, hml, hown, hts, hK, hN, hA, hZ, hkc⟩ := X
  intro lv st w o' ls H locs h hg hl hP hD hS
  obtain ⟨i, r, rfl, h1⟩ := pb_pI_e h
  clear h
  have h := h1
  clear h1
  try dsimp only at h
  obtain ⟨a, r, rfl, h1⟩ := pb_pR_e h
  clear h
  have h := h1
  clear h1
  try dsimp only at h
  split at h
  · rename_i ha
    subst ha
    split at h
    · rename_i hi
      obtain ⟨cell, c1, c2, c3, c4, c5, c6, c7⟩ := (hz ad A s s.heap hZ).kept hS.2.1
      have hlt : i.toNatClampNeg < n := by
        have := pb_in_vp hi
        exact Nat.not_le.mp fun q => this (Or.inr q)
      exact W.bald (v := .int (f i.toNatClampNeg)) hx hb c1 c2 c3 (fun q => by
        rcases q with q | q
        · exact (pb_in_vp hi) (Or.inl q)
        · omega) (c6 _ hlt) rfl rfl hd (k0 lv _ w o' ls H locs h hg hl hP hD hS)
    · cases h
  · cases h
theorem s_clald (X : pb_X Γ cc own) {o n : Nat} {f : Nat → Int64} (hd : decode cc pc = .ok (.laload, 1)) (hz : ∀ (ad : Nat → Nat) (A : Nat → Prop) (U : State) (H : Heap), pb_stat ad A U H → va_T .long (ad o) n (fun j => .long (f j)) A U H) (k0 : pb_Snd Γ (pc + 1) κ) : pb_Snd Γ pc (i_clald o n f κ) := by
  obtain ⟨p, l, e, R, s, m, args, below, meth, c, Q, nL, D, ad, cs, A, good, kc, ks⟩ := Γ
  obtain ⟨hx, hb, hml, hown, hts, hK, hN, hA, hZ, hkc⟩ := X
  intro lv st w o' ls H locs h hg hl hP hD hS
  obtain ⟨i, r, rfl, h1⟩ := pb_pI_e h
  clear h
  have h := h1
  clear h1
  try dsimp only at h
  obtain ⟨a, r, rfl, h1⟩ := pb_pR_e h
  clear h
  have h := h1
  clear h1
  try dsimp only at h
  split at h
  · rename_i ha
    subst ha
    split at h
    · rename_i hi
      obtain ⟨cell, c1, c2, c3, c4, c5, c6, c7⟩ := (hz ad A s s.heap hZ).kept hS.2.1
      have hlt : i.toNatClampNeg < n := by
        have := pb_in_vp hi
        exact Nat.not_le.mp fun q => this (Or.inr q)
      exact W.lald (v := .long (f i.toNatClampNeg)) hx hb c1 c2 c3 (fun q => by
        rcases q with q | q
        · exact (pb_in_vp hi) (Or.inl q)
        · omega) (c6 _ hlt) rfl rfl hd (k0 lv _ w o' ls H locs h hg hl hP hD hS)
    · cases h
  · cases h
theorem s_calen (X : pb_X Γ cc own) {o n : Nat} {ty : FieldType} {f : Nat → Value} (hd : decode cc pc = .ok (.arraylength, 1)) (hz : ∀ (ad : Nat → Nat) (A : Nat → Prop) (U : State) (H : Heap), pb_stat ad A U H → va_T ty (ad o) n f A U H) (k0 : pb_Snd Γ (pc + 1) κ) : pb_Snd Γ pc (i_alen o n κ) := by
  obtain ⟨p, l, e, R, s, m, args, below, meth, c, Q, nL, D, ad, cs, A, good, kc, ks⟩ := Γ
  obtain ⟨hx, hb, hml, hown, hts, hK, hN, hA, hZ, hkc⟩ := X
  intro lv st w o' ls H locs h hg hl hP hD hS
  obtain ⟨a, r, rfl, h1⟩ := pb_pR_e h
  clear h
  have h := h1
  clear h1
  try dsimp only at h
  split at h
  · rename_i ha
    subst ha
    obtain ⟨cell, c1, c2, c3, c4, c5, c6, c7⟩ := (hz ad A s s.heap hZ).kept hS.2.1
    exact W.alen hx hb c1 c2 c5 rfl rfl hd (k0 lv _ w o' ls H locs h hg hl hP hD hS)
  · cases h
theorem s_mmax (X : pb_X Γ cc own) {idx : Nat} (hd : decode cc pc = .ok (.invokestatic idx, 3)) (hlk : Cond.methodLink own idx Lib.Math.max.name ∈ pb_tbl) (hst : Cond.static Lib.Math.max.name ∈ pb_tbl ∧ Cond.initialized "java/lang/Math" ∈ pb_tbl ∧ Cond.code Lib.Math.max.name Lib.Math.max.code 2 (some .int) ∈ pb_tbl) (hRm : 1 ≤ Γ.2.2.2.1.frames ∧ 64 ≤ Γ.2.2.2.1.locals) (k0 : pb_Snd Γ (pc + 3) κ) : pb_Snd Γ pc (i_mI2 pb_max κ) := by
  obtain ⟨p, l, e, R, s, m, args, below, meth, c, Q, nL, D, ad, cs, A, good, kc, ks⟩ := Γ
  obtain ⟨hx, hb, hml, hown, hts, hK, hN, hA, hZ, hkc⟩ := X
  intro lv st w o' ls H locs h hg hl hP hD hS
  obtain ⟨y, r, rfl, h1⟩ := pb_pI_e h
  clear h
  have h := h1
  clear h1
  try dsimp only at h
  obtain ⟨x, r, rfl, h1⟩ := pb_pI_e h
  clear h
  have h := h1
  clear h1
  try dsimp only at h
  cases hc8 : Nat.ble (pb_cat r) 8 with
  | false => rw [hc8] at h; cases h
  | true =>
    rw [hc8] at h
    have h8 : (r.map fun v => v.category).sum ≤ 8 := Nat.le_of_ble_eq_true hc8
    refine va_mmax hx hb (hml.trans hl.1.symm) hown (hts _ hlk) (hts _ hst.1) (hts _ hst.2.1) (hts _ hst.2.2) hRm.1 ?_ hkc.1 hkc.2 hd (k0 lv _ w o' ls H locs h hg hl hP hD hS)
    rw [pb_cv_sum]
    have := hRm.2
    dsimp only at this
    omega
theorem s_mmin (X : pb_X Γ cc own) {idx : Nat} (hd : decode cc pc = .ok (.invokestatic idx, 3)) (hlk : Cond.methodLink own idx Lib.Math.min.name ∈ pb_tbl) (hst : Cond.static Lib.Math.min.name ∈ pb_tbl ∧ Cond.initialized "java/lang/Math" ∈ pb_tbl ∧ Cond.code Lib.Math.min.name Lib.Math.min.code 2 (some .int) ∈ pb_tbl) (hRm : 1 ≤ Γ.2.2.2.1.frames ∧ 64 ≤ Γ.2.2.2.1.locals) (k0 : pb_Snd Γ (pc + 3) κ) : pb_Snd Γ pc (i_mI2 pb_min κ) := by
  obtain ⟨p, l, e, R, s, m, args, below, meth, c, Q, nL, D, ad, cs, A, good, kc, ks⟩ := Γ
  obtain ⟨hx, hb, hml, hown, hts, hK, hN, hA, hZ, hkc⟩ := X
  intro lv st w o' ls H locs h hg hl hP hD hS
  obtain ⟨y, r, rfl, h1⟩ := pb_pI_e h
  clear h
  have h := h1
  clear h1
  try dsimp only at h
  obtain ⟨x, r, rfl, h1⟩ := pb_pI_e h
  clear h
  have h := h1
  clear h1
  try dsimp only at h
  cases hc8 : Nat.ble (pb_cat r) 8 with
  | false => rw [hc8] at h; cases h
  | true =>
    rw [hc8] at h
    have h8 : (r.map fun v => v.category).sum ≤ 8 := Nat.le_of_ble_eq_true hc8
    refine va_mmin hx hb (hml.trans hl.1.symm) hown (hts _ hlk) (hts _ hst.1) (hts _ hst.2.1) (hts _ hst.2.2) hRm.1 ?_ hkc.1 hkc.2 hd (k0 lv _ w o' ls H locs h hg hl hP hD hS)
    rw [pb_cv_sum]
    have := hRm.2
    dsimp only at this
    omega
theorem s_mabs (X : pb_X Γ cc own) {idx : Nat} (hd : decode cc pc = .ok (.invokestatic idx, 3)) (hlk : Cond.methodLink own idx Lib.Math.abs.name ∈ pb_tbl) (hst : Cond.static Lib.Math.abs.name ∈ pb_tbl ∧ Cond.initialized "java/lang/Math" ∈ pb_tbl ∧ Cond.code Lib.Math.abs.name Lib.Math.abs.code 1 (some .int) ∈ pb_tbl) (hRm : 1 ≤ Γ.2.2.2.1.frames ∧ 64 ≤ Γ.2.2.2.1.locals) (k0 : pb_Snd Γ (pc + 3) κ) : pb_Snd Γ pc (i_mI1 pb_abs κ) := by
  obtain ⟨p, l, e, R, s, m, args, below, meth, c, Q, nL, D, ad, cs, A, good, kc, ks⟩ := Γ
  obtain ⟨hx, hb, hml, hown, hts, hK, hN, hA, hZ, hkc⟩ := X
  intro lv st w o' ls H locs h hg hl hP hD hS
  obtain ⟨x, r, rfl, h1⟩ := pb_pI_e h
  clear h
  have h := h1
  clear h1
  try dsimp only at h
  cases hc8 : Nat.ble (pb_cat r) 8 with
  | false => rw [hc8] at h; cases h
  | true =>
    rw [hc8] at h
    have h8 : (r.map fun v => v.category).sum ≤ 8 := Nat.le_of_ble_eq_true hc8
    refine va_mabs hx hb (hml.trans hl.1.symm) hown (hts _ hlk) (hts _ hst.1) (hts _ hst.2.1) (hts _ hst.2.2) hRm.1 ?_ hkc.1 hkc.2 hd (k0 lv _ w o' ls H locs h hg hl hP hD hS)
    rw [pb_cv_sum]
    have := hRm.2
    dsimp only at this
    omega
theorem s_mmaxL (X : pb_X Γ cc own) {idx : Nat} (hd : decode cc pc = .ok (.invokestatic idx, 3)) (hlk : Cond.methodLink own idx Lib.MathLoose.max_long.x ∈ pb_tbl) (hst : Cond.static Lib.MathLoose.max_long.x ∈ pb_tbl ∧ Cond.initialized "java/lang/Math" ∈ pb_tbl ∧ Cond.code Lib.MathLoose.max_long.x Lib.MathLoose.max_long.code 4 (some .long) ∈ pb_tbl) (hRm : 1 ≤ Γ.2.2.2.1.frames ∧ 64 ≤ Γ.2.2.2.1.locals) (k0 : pb_Snd Γ (pc + 3) κ) : pb_Snd Γ pc (i_mL2 pb_maxL κ) := by
  obtain ⟨p, l, e, R, s, m, args, below, meth, c, Q, nL, D, ad, cs, A, good, kc, ks⟩ := Γ
  obtain ⟨hx, hb, hml, hown, hts, hK, hN, hA, hZ, hkc⟩ := X
  intro lv st w o' ls H locs h hg hl hP hD hS
  obtain ⟨y, r, rfl, h1⟩ := pb_pL_e h
  clear h
  have h := h1
  clear h1
  try dsimp only at h
  obtain ⟨x, r, rfl, h1⟩ := pb_pL_e h
  clear h
  have h := h1
  clear h1
  try dsimp only at h
  cases hc8 : Nat.ble (pb_cat r) 8 with
  | false => rw [hc8] at h; cases h
  | true =>
    rw [hc8] at h
    have h8 : (r.map fun v => v.category).sum ≤ 8 := Nat.le_of_ble_eq_true hc8
    refine va_mmax_long hx hb (hml.trans hl.1.symm) hown (hts _ hlk) (hts _ hst.1) (hts _ hst.2.1) (hts _ hst.2.2) hRm.1 ?_ hkc.1 hkc.2 hd (k0 lv _ w o' ls H locs h hg hl hP hD hS)
    rw [pb_cv_sum]
    have := hRm.2
    dsimp only at this
    omega
theorem s_mminL (X : pb_X Γ cc own) {idx : Nat} (hd : decode cc pc = .ok (.invokestatic idx, 3)) (hlk : Cond.methodLink own idx Lib.MathLoose.min_long.x ∈ pb_tbl) (hst : Cond.static Lib.MathLoose.min_long.x ∈ pb_tbl ∧ Cond.initialized "java/lang/Math" ∈ pb_tbl ∧ Cond.code Lib.MathLoose.min_long.x Lib.MathLoose.min_long.code 4 (some .long) ∈ pb_tbl) (hRm : 1 ≤ Γ.2.2.2.1.frames ∧ 64 ≤ Γ.2.2.2.1.locals) (k0 : pb_Snd Γ (pc + 3) κ) : pb_Snd Γ pc (i_mL2 pb_minL κ) := by
  obtain ⟨p, l, e, R, s, m, args, below, meth, c, Q, nL, D, ad, cs, A, good, kc, ks⟩ := Γ
  obtain ⟨hx, hb, hml, hown, hts, hK, hN, hA, hZ, hkc⟩ := X
  intro lv st w o' ls H locs h hg hl hP hD hS
  obtain ⟨y, r, rfl, h1⟩ := pb_pL_e h
  clear h
  have h := h1
  clear h1
  try dsimp only at h
  obtain ⟨x, r, rfl, h1⟩ := pb_pL_e h
  clear h
  have h := h1
  clear h1
  try dsimp only at h
  cases hc8 : Nat.ble (pb_cat r) 8 with
  | false => rw [hc8] at h; cases h
  | true =>
    rw [hc8] at h
    have h8 : (r.map fun v => v.category).sum ≤ 8 := Nat.le_of_ble_eq_true hc8
    refine va_mmin_long hx hb (hml.trans hl.1.symm) hown (hts _ hlk) (hts _ hst.1) (hts _ hst.2.1) (hts _ hst.2.2) hRm.1 ?_ hkc.1 hkc.2 hd (k0 lv _ w o' ls H locs h hg hl hP hD hS)
    rw [pb_cv_sum]
    have := hRm.2
    dsimp only at this
    omega
theorem s_mabsL (X : pb_X Γ cc own) {idx : Nat} (hd : decode cc pc = .ok (.invokestatic idx, 3)) (hlk : Cond.methodLink own idx Lib.MathLoose.abs_long.x ∈ pb_tbl) (hst : Cond.static Lib.MathLoose.abs_long.x ∈ pb_tbl ∧ Cond.initialized "java/lang/Math" ∈ pb_tbl ∧ Cond.code Lib.MathLoose.abs_long.x Lib.MathLoose.abs_long.code 2 (some .long) ∈ pb_tbl) (hRm : 1 ≤ Γ.2.2.2.1.frames ∧ 64 ≤ Γ.2.2.2.1.locals) (k0 : pb_Snd Γ (pc + 3) κ) : pb_Snd Γ pc (i_mL1 pb_absL κ) := by
  obtain ⟨p, l, e, R, s, m, args, below, meth, c, Q, nL, D, ad, cs, A, good, kc, ks⟩ := Γ
  obtain ⟨hx, hb, hml, hown, hts, hK, hN, hA, hZ, hkc⟩ := X
  intro lv st w o' ls H locs h hg hl hP hD hS
  obtain ⟨x, r, rfl, h1⟩ := pb_pL_e h
  clear h
  have h := h1
  clear h1
  try dsimp only at h
  cases hc8 : Nat.ble (pb_cat r) 8 with
  | false => rw [hc8] at h; cases h
  | true =>
    rw [hc8] at h
    have h8 : (r.map fun v => v.category).sum ≤ 8 := Nat.le_of_ble_eq_true hc8
    refine va_mabs_long hx hb (hml.trans hl.1.symm) hown (hts _ hlk) (hts _ hst.1) (hts _ hst.2.1) (hts _ hst.2.2) hRm.1 ?_ hkc.1 hkc.2 hd (k0 lv _ w o' ls H locs h hg hl hP hD hS)
    rw [pb_cv_sum]
    have := hRm.2
    dsimp only at this
    omega
def pb_QE (Γ : pb_G) : Prop := match Γ with
  | (p, l, e, R, s, m, args, below, meth, c, Q, nL, D, ad, cs, A, good, kc, ks) => meth.locks = false ∧ ∃ res : pb_R, (∀ r, good (.inl r) → r = res) ∧ Q = MQ below (pb_Qc D ad cs A res) args s kc ks A
def pb_ty (Γ : pb_G) (t : Option FieldType) : Prop := match Γ with
  | (p, l, e, R, s, m, args, below, meth, c, Q, nL, D, ad, cs, A, good, kc, ks) => meth.sig.returnType = t
theorem s_iret (X : pb_X Γ cc own) (E : pb_QE Γ) (hr : pb_ty Γ (some .int)) (hd : decode cc pc = .ok (.ireturn, 1)) : pb_Snd Γ pc i_iret := by
  obtain ⟨p, l, e, R, s, m, args, below, meth, c, Q, nL, D, ad, cs, A, good, kc, ks⟩ := Γ
  obtain ⟨hx, hb, hml, hown, hts, hK, hN, hA, hZ, hkc⟩ := X
  intro lv st w o' ls H locs h hg hl hP hD hS
  obtain ⟨hlk, res, hres, rfl⟩ := E
  obtain ⟨x, r, rfl, h1⟩ := pb_pI_e h
  clear h
  have h := h1
  clear h1
  try dsimp only at h
  split at h
  · cases h
    cases hres _ hg
    exact W.iret hx hb hr (fun t ht hW => ⟨rfl, ⟨va_K.moved hW.alike hK, fun x hx => pb_nest_keep hx hW (hN x hx), by rw [ht]; exact fun q hq => hA q (Nat.le_trans hS.1 hq), by rw [ht]; exact pb_stat_moved hW (pb_stat_kept hS.2.1 hZ), by rw [ht]; exact hP, hD⟩, hS.F ht⟩) hS.2.2 hd hlk
  · cases h
theorem s_zret (X : pb_X Γ cc own) (E : pb_QE Γ) (hr : pb_ty Γ (some .boolean)) (hd : decode cc pc = .ok (.ireturn, 1)) : pb_Snd Γ pc i_zret := by
  obtain ⟨p, l, e, R, s, m, args, below, meth, c, Q, nL, D, ad, cs, A, good, kc, ks⟩ := Γ
  obtain ⟨hx, hb, hml, hown, hts, hK, hN, hA, hZ, hkc⟩ := X
  intro lv st w o' ls H locs h hg hl hP hD hS
  obtain ⟨hlk, res, hres, rfl⟩ := E
  obtain ⟨x, r, rfl, h1⟩ := pb_pI_e h
  clear h
  have h := h1
  clear h1
  try dsimp only at h
  split at h
  · split at h
    · rename_i h01
      cases h
      cases hres _ hg
      exact W.zret hx hb hr (by rcases h01 with rfl | rfl <;> rfl) (fun t ht hW => ⟨rfl, ⟨va_K.moved hW.alike hK, fun x hx => pb_nest_keep hx hW (hN x hx), by rw [ht]; exact fun q hq => hA q (Nat.le_trans hS.1 hq), by rw [ht]; exact pb_stat_moved hW (pb_stat_kept hS.2.1 hZ), by rw [ht]; exact hP, hD⟩, hS.F ht⟩) hS.2.2 hd hlk
    · cases h
  · cases h
theorem s_cret (X : pb_X Γ cc own) (E : pb_QE Γ) (hr : pb_ty Γ (some .char)) (hd : decode cc pc = .ok (.ireturn, 1)) : pb_Snd Γ pc (i_nret (fun x => (x.toUInt32 % 65536).toInt32)) := by
  obtain ⟨p, l, e, R, s, m, args, below, meth, c, Q, nL, D, ad, cs, A, good, kc, ks⟩ := Γ
  obtain ⟨hx, hb, hml, hown, hts, hK, hN, hA, hZ, hkc⟩ := X
  intro lv st w o' ls H locs h hg hl hP hD hS
  obtain ⟨hlk, res, hres, rfl⟩ := E
  obtain ⟨x, r, rfl, h1⟩ := pb_pI_e h
  clear h
  have h := h1
  clear h1
  try dsimp only at h
  split at h
  · split at h
    · rename_i h01
      cases h
      cases hres _ hg
      have hnx : narrow .char (.int x) = .int x := by rw [← h01]; exact pk_nc x
      exact W.zret hx hb hr hnx (fun t ht hW => ⟨rfl, ⟨va_K.moved hW.alike hK, fun x hx => pb_nest_keep hx hW (hN x hx), by rw [ht]; exact fun q hq => hA q (Nat.le_trans hS.1 hq), by rw [ht]; exact pb_stat_moved hW (pb_stat_kept hS.2.1 hZ), by rw [ht]; exact hP, hD⟩, hS.F ht⟩) hS.2.2 hd hlk
    · cases h
  · cases h
theorem s_bret (X : pb_X Γ cc own) (E : pb_QE Γ) (hr : pb_ty Γ (some .byte)) (hd : decode cc pc = .ok (.ireturn, 1)) : pb_Snd Γ pc (i_nret (fun x => x.toInt8.toInt32)) := by
  obtain ⟨p, l, e, R, s, m, args, below, meth, c, Q, nL, D, ad, cs, A, good, kc, ks⟩ := Γ
  obtain ⟨hx, hb, hml, hown, hts, hK, hN, hA, hZ, hkc⟩ := X
  intro lv st w o' ls H locs h hg hl hP hD hS
  obtain ⟨hlk, res, hres, rfl⟩ := E
  obtain ⟨x, r, rfl, h1⟩ := pb_pI_e h
  clear h
  have h := h1
  clear h1
  try dsimp only at h
  split at h
  · split at h
    · rename_i h01
      cases h
      cases hres _ hg
      have hnx : narrow .byte (.int x) = .int x := by rw [← h01]; exact pk_nb x
      exact W.zret hx hb hr hnx (fun t ht hW => ⟨rfl, ⟨va_K.moved hW.alike hK, fun x hx => pb_nest_keep hx hW (hN x hx), by rw [ht]; exact fun q hq => hA q (Nat.le_trans hS.1 hq), by rw [ht]; exact pb_stat_moved hW (pb_stat_kept hS.2.1 hZ), by rw [ht]; exact hP, hD⟩, hS.F ht⟩) hS.2.2 hd hlk
    · cases h
  · cases h
theorem s_lret (X : pb_X Γ cc own) (E : pb_QE Γ) (hr : pb_ty Γ (some .long)) (hd : decode cc pc = .ok (.lreturn, 1)) : pb_Snd Γ pc i_lret := by
  obtain ⟨p, l, e, R, s, m, args, below, meth, c, Q, nL, D, ad, cs, A, good, kc, ks⟩ := Γ
  obtain ⟨hx, hb, hml, hown, hts, hK, hN, hA, hZ, hkc⟩ := X
  intro lv st w o' ls H locs h hg hl hP hD hS
  obtain ⟨hlk, res, hres, rfl⟩ := E
  obtain ⟨x, r, rfl, h1⟩ := pb_pL_e h
  clear h
  have h := h1
  clear h1
  try dsimp only at h
  split at h
  · cases h
    cases hres _ hg
    exact W.lret hx hb hr (fun t ht hW => ⟨rfl, ⟨va_K.moved hW.alike hK, fun x hx => pb_nest_keep hx hW (hN x hx), by rw [ht]; exact fun q hq => hA q (Nat.le_trans hS.1 hq), by rw [ht]; exact pb_stat_moved hW (pb_stat_kept hS.2.1 hZ), by rw [ht]; exact hP, hD⟩, hS.F ht⟩) hS.2.2 hd hlk
  · cases h
theorem s_vret (X : pb_X Γ cc own) (E : pb_QE Γ) (hr : pb_ty Γ none) (hd : decode cc pc = .ok (.return_, 1)) : pb_Snd Γ pc i_vret := by
  obtain ⟨p, l, e, R, s, m, args, below, meth, c, Q, nL, D, ad, cs, A, good, kc, ks⟩ := Γ
  obtain ⟨hx, hb, hml, hown, hts, hK, hN, hA, hZ, hkc⟩ := X
  intro lv st w o' ls H locs h hg hl hP hD hS
  obtain ⟨hlk, res, hres, rfl⟩ := E
  unfold i_vret at h
  split at h
  · cases h
    cases hres _ hg
    exact W.vret hx hb hr (fun t ht hW => ⟨rfl, ⟨va_K.moved hW.alike hK, fun x hx => pb_nest_keep hx hW (hN x hx), by rw [ht]; exact fun q hq => hA q (Nat.le_trans hS.1 hq), by rw [ht]; exact pb_stat_moved hW (pb_stat_kept hS.2.1 hZ), by rw [ht]; exact hP, hD⟩, hS.F ht⟩) hS.2.2 hd hlk
  · cases h
/-- proofs one behind another, for the places of a switch -/
def pb_al (Γ : pb_G) : List Nat → List pb_C → Prop
  | t :: ts, κ :: ks => pb_Snd Γ t κ ∧ pb_al Γ ts ks
  | _, _ => True
theorem pb_tc_of {Γ : pb_G} : ∀ (tgts : List Nat) (cases : List pb_C), pb_al Γ tgts cases → ∀ (j : Nat) (κ : pb_C) (t : Nat), cases[j]? = some κ → tgts[j]? = some t → pb_Snd Γ t κ
  | [], _, _, j, κ, t, _, h2 => by simp at h2
  | _ :: _, [], _, j, κ, t, h1, _ => by simp at h1
  | t0 :: ts, κ0 :: ks, h, 0, κ, t, h1, h2 => by
    simp only [List.getElem?_cons_zero] at h1 h2
    cases h1
    cases h2
    exact h.1
  | t0 :: ts, κ0 :: ks, h, j + 1, κ, t, h1, h2 => pb_tc_of ts ks h.2 j κ t (by simpa using h1) (by simpa using h2)
def pb_ck (pc : Nat) : List (Int32 × pb_C) → List (Int × Int) → List Nat → Prop
  | [], [], [] => True
  | (k, _) :: cs, (a, o) :: ps, t :: ts => k.toInt = a ∧ (pc : Int) + o = (t : Int) ∧ pb_ck pc cs ps ts
  | _, _, _ => False
theorem pb_lk (pc : Nat) (dflt : Int) : ∀ (cases : List (Int32 × pb_C)) (ps : List (Int × Int)) (tgts : List Nat), pb_ck pc cases ps tgts → ∀ (x : Int32), (∃ (j : Nat) (q : Int32 × pb_C) (t : Nat), cases[j]? = some q ∧ tgts[j]? = some t ∧ x = q.1 ∧ (∀ i, i < j → ∀ q', cases[i]? = some q' → x ≠ q'.1) ∧ (pc : Int) + Op.lookupswitch.offset ps dflt x.toInt = (t : Int)) ∨ ((∀ q ∈ cases, x ≠ q.1) ∧ Op.lookupswitch.offset ps dflt x.toInt = dflt)
  | [], [], [], _, x => Or.inr ⟨fun q hq => absurd hq List.not_mem_nil, rfl⟩
  | (k, κ) :: cs, (a, o) :: ps, t :: ts, h, x => by
    obtain ⟨h1, h2, h3⟩ := h
    rw [Op.lookupswitch.offset_cons]
    by_cases hx : x = k
    · refine Or.inl ⟨0, (k, κ), t, rfl, rfl, hx, fun i hi => absurd hi (Nat.not_lt_zero i), ?_⟩
      rw [if_pos (by rw [hx]; exact h1.symm)]
      exact h2
    · rw [if_neg (fun q => hx (Int32.toInt_inj.mp (by rw [h1]; exact q.symm)))]
      rcases pb_lk pc dflt cs ps ts h3 x with ⟨j, q, t', g1, g2, g3, g4, g5⟩ | ⟨g1, g2⟩
      · refine Or.inl ⟨j + 1, q, t', by simpa using g1, by simpa using g2, g3, fun i hi q' hq' => ?_, g5⟩
        cases i with
        | zero =>
          simp only [List.getElem?_cons_zero] at hq'
          cases hq'
          exact hx
        | succ i => exact g4 i (by omega) q' (by simpa using hq')
      · refine Or.inr ⟨fun q hq => ?_, g2⟩
        rcases List.mem_cons.mp hq with rfl | hq
        · exact hx
        · exact g1 q hq
theorem s_lookup2 (X : pb_X Γ cc own) {dflt : Int} {ps : Array (Int × Int)} {len : Nat} {cases : List (Int32 × pb_C)} {κd : pb_C} (hd : decode cc pc = .ok (.lookupswitch dflt ps, len)) (hp : (ps.toList.zip (ps.toList.drop 1)).all (fun (a, next) => a.1 < next.1) = true) (td : Nat) (hdt : (pc : Int) + dflt = (td : Int)) (kd : pb_Snd Γ td κd) (tgts : List Nat) (hck : pb_ck pc cases ps.toList tgts) (kc : pb_al Γ tgts (cases.map (·.2))) : pb_Snd Γ pc (i_sw cases κd) :=
  s_lookup X hd hp tgts td hdt kd (pb_lk pc dflt cases ps.toList tgts hck) (fun j q t h1 h2 => pb_tc_of tgts _ kc j q.2 t (by rw [List.getElem?_map, h1]; rfl) h2)
theorem pb_nn {z : Int32} (h : 0 ≤ z.toInt) : ¬ z < 0 := fun q => by
  have := Int32.lt_iff_toInt_lt.mp q
  simp at this
  omega
theorem pb_clamp (z : Int32) (h : 0 ≤ z.toInt) : ((z.toNatClampNeg : Nat) : Int) = z.toInt := by
  show ((z.toInt.toNat : Nat) : Int) = z.toInt
  omega
theorem s_copy (X : pb_X Γ cc own) {o n q k idx : Nat} (hd : decode cc pc = .ok (.invokestatic idx, 3)) (hlk : Cond.methodLink own idx arraycopyName ∈ pb_tbl) (hnat : Cond.native arraycopyName ∈ pb_tbl ∧ Cond.static arraycopyName ∈ pb_tbl ∧ Cond.initialized "java/lang/System" ∈ pb_tbl) (h1s : pb_sh[o]? = some (.inl (0, n))) (h2s : pb_sh[q]? = some (.inl (0, k))) (hRm : 1 ≤ Γ.2.2.2.1.frames ∧ 64 ≤ Γ.2.2.2.1.locals) (k0 : pb_Snd Γ (pc + 3) κ) : pb_Snd Γ pc (i_copy o n q k κ) := by
  obtain ⟨p, l, e, R, s, m, args, below, meth, c, Q, nL, D, ad, cs, A, good, kc, ks⟩ := Γ
  obtain ⟨hx, hb, hml, hown, hts, hK, hN, hA, hZ, hkc⟩ := X
  intro lv st w o' ls H locs h hg hl hP hD hS
  obtain ⟨mm, r, rfl, h1⟩ := pb_pI_e h
  clear h
  have h := h1
  clear h1
  try dsimp only at h
  obtain ⟨dp, r, rfl, h1⟩ := pb_pI_e h
  clear h
  have h := h1
  clear h1
  try dsimp only at h
  obtain ⟨b, r, rfl, h1⟩ := pb_pR_e h
  clear h
  have h := h1
  clear h1
  try dsimp only at h
  obtain ⟨sp, r, rfl, h1⟩ := pb_pI_e h
  clear h
  have h := h1
  clear h1
  try dsimp only at h
  obtain ⟨a, r, rfl, h1⟩ := pb_pR_e h
  clear h
  have h := h1
  clear h1
  try dsimp only at h
  split at h
  · rename_i ha
    subst ha
    split at h
    · rename_i hbq
      subst hbq
      split at h
      · rename_i hc
        obtain ⟨g1, g2, g3, g4, g5⟩ := hc
        cases hc8 : Nat.ble (pb_cat r) 8 with
        | false => rw [hc8] at h; cases h
        | true =>
          rw [hc8] at h
          have h8 := Nat.le_of_ble_eq_true hc8
          have e1 := pb_clamp sp g1
          have e2 := pb_clamp dp g2
          have e3 := pb_clamp mm g3
          refine va_copyi hx hb (hml.trans hl.1.symm) hown (hts _ hlk) (hts _ hnat.1) (hts _ hnat.2.1) (hts _ hnat.2.2) hK hP hD hS a b 0 0 (pb_at0 w h1s (by decide)) (pb_at0 w h2s (by decide)) rfl rfl rfl (pb_nn g1) (pb_nn g2) (pb_nn g3) (by omega) (by omega) (fun _ _ => rfl) hRm.1 ?_ hd (fun H1 locs1 a1 a2 a3 => ?_)
          · have hw : nativeFrameWords "java/lang/System" "arraycopy" 5 ≤ 40 := by decide +kernel
            rw [pb_cv_sum]
            have h9 : (r.map fun v => v.category).sum ≤ 8 := h8
            have := hRm.2
            dsimp only at this
            omega
          · rw [pb_setF _ h2s (by decide)] at a1 a2
            exact k0 lv _ _ o' ls H1 locs1 h hg hl a1 a2 a3
      · cases h
    · cases h
  · cases h
theorem s_copyL (X : pb_X Γ cc own) {o n q k idx : Nat} (hd : decode cc pc = .ok (.invokestatic idx, 3)) (hlk : Cond.methodLink own idx arraycopyName ∈ pb_tbl) (hnat : Cond.native arraycopyName ∈ pb_tbl ∧ Cond.static arraycopyName ∈ pb_tbl ∧ Cond.initialized "java/lang/System" ∈ pb_tbl) (h1s : pb_sh[o]? = some (.inl (3, n))) (h2s : pb_sh[q]? = some (.inl (3, k))) (hRm : 1 ≤ Γ.2.2.2.1.frames ∧ 64 ≤ Γ.2.2.2.1.locals) (k0 : pb_Snd Γ (pc + 3) κ) : pb_Snd Γ pc (i_copyL o n q k κ) := by
  obtain ⟨p, l, e, R, s, m, args, below, meth, c, Q, nL, D, ad, cs, A, good, kc, ks⟩ := Γ
  obtain ⟨hx, hb, hml, hown, hts, hK, hN, hA, hZ, hkc⟩ := X
  intro lv st w o' ls H locs h hg hl hP hD hS
  obtain ⟨mm, r, rfl, h1⟩ := pb_pI_e h
  clear h
  have h := h1
  clear h1
  try dsimp only at h
  obtain ⟨dp, r, rfl, h1⟩ := pb_pI_e h
  clear h
  have h := h1
  clear h1
  try dsimp only at h
  obtain ⟨b, r, rfl, h1⟩ := pb_pR_e h
  clear h
  have h := h1
  clear h1
  try dsimp only at h
  obtain ⟨sp, r, rfl, h1⟩ := pb_pI_e h
  clear h
  have h := h1
  clear h1
  try dsimp only at h
  obtain ⟨a, r, rfl, h1⟩ := pb_pR_e h
  clear h
  have h := h1
  clear h1
  try dsimp only at h
  split at h
  · rename_i ha
    subst ha
    split at h
    · rename_i hbq
      subst hbq
      split at h
      · rename_i hc
        obtain ⟨g1, g2, g3, g4, g5⟩ := hc
        cases hc8 : Nat.ble (pb_cat r) 8 with
        | false => rw [hc8] at h; cases h
        | true =>
          rw [hc8] at h
          have h8 := Nat.le_of_ble_eq_true hc8
          have e1 := pb_clamp sp g1
          have e2 := pb_clamp dp g2
          have e3 := pb_clamp mm g3
          refine va_copyl hx hb (hml.trans hl.1.symm) hown (hts _ hlk) (hts _ hnat.1) (hts _ hnat.2.1) (hts _ hnat.2.2) hK hP hD hS a b 3 3 (pb_at3 w h1s) (pb_at3 w h2s) rfl rfl rfl (pb_nn g1) (pb_nn g2) (pb_nn g3) (by omega) (by omega) (fun _ _ => rfl) hRm.1 ?_ hd (fun H1 locs1 a1 a2 a3 => ?_)
          · have hw : nativeFrameWords "java/lang/System" "arraycopy" 5 ≤ 40 := by decide +kernel
            rw [pb_cv_sum]
            have h9 : (r.map fun v => v.category).sum ≤ 8 := h8
            have := hRm.2
            dsimp only at this
            omega
          · rw [pb_setG _ h2s] at a1 a2
            exact k0 lv _ _ o' ls H1 locs1 h hg hl a1 a2 a3
      · cases h
    · cases h
  · cases h
/-- a table of blocks -/
def pb_tt : List (Nat × pb_C) → Nat → pb_C
  | [], _ => i_fail
  | (p, κ) :: r, pc => if pc = p then κ else pb_tt r pc
theorem pb_tt_snd {Γ : pb_G} : ∀ (L : List (Nat × pb_C)), (∀ q ∈ L, pb_Snd Γ q.1 q.2) → ∀ pc, pb_Snd Γ pc (pb_tt L pc)
  | [], _, pc => s_fail
  | (p, κ) :: r, h, pc => by
    unfold pb_tt
    split
    · rename_i e
      rw [e]
      exact h (p, κ) List.mem_cons_self
    · exact pb_tt_snd r (fun q hq => h q (List.mem_cons_of_mem _ hq)) pc
end PBS
/-- a method's contract out of its step function: every block is sound over the others -/
theorem pb_sound_of {l : Launch} {y : MethodName} {cc : ByteArray} {maxL : Nat} {ret : Option FieldType} {d : Nat} {T : Nat → pb_C} (hy : plainName y.cls = true) (hcode : Cond.code y cc maxL ret ∈ pb_tbl)
    (body : ∀ Γ : pb_G, Γ.2.1 = l → Γ.2.2.2.1 = pb_rm d → Γ.2.2.2.2.2.2.2.2.2.2.2.1 = maxL → pb_X Γ cc y.cls → pb_QE Γ → pb_ty Γ ret → pb_J Γ → ∀ pc, pb_Snd Γ pc (T pc)) : pb_Sound l y cc maxL ret d (pb_M T maxL) := by
  refine ⟨hcode, fun D ad cs A av w r hr => ?_⟩
  have hlen : (lg_sl (av.map (pb_cv ad))).length ≤ maxL ∧ pb_run T (0, pb_ini maxL av, [], w) = some r := by
    unfold pb_M at hr
    cases hc : Nat.ble (pb_cat av) maxL with
    | false => rw [hc] at hr; cases hr
    | true =>
      rw [hc] at hr
      exact ⟨by rw [pb_cat_len]; exact Nat.le_of_ble_eq_true hc, hr⟩
  obtain ⟨hlen, hr⟩ := hlen
  refine Met.ofW (cc := cc) (maxL := maxL) (ret := ret) hy rfl ?_
  intro p e s m args below meth c s₁ B hml hv
  obtain ⟨rfl, hK, hN, hA, hZ, hP, hD⟩ := hv
  have hx := B.exec
  have hb := B.bytes
  have hrt := B.returns
  have hts0 := atoms_spec (ws := .code y cc maxL ret :: pb_tbl) B.pre
  have hown : s.vm.findClass y.cls = some m.cls := findClass_of_methodNamed B.named
  have hlk := B.notSynchronized
  obtain ⟨n, hn⟩ := pb_run_iff.mp hr
  have X : ∀ good, pb_X (p, l, e, pb_rm d, s, m, (av.map (pb_cv ad)).toArray, below, meth, c, MQ below (pb_Qc D ad cs A r) (av.map (pb_cv ad)).toArray s 0 0 A, maxL, D, ad, cs, A, good, 0, 0) cc y.cls := fun good => ⟨hx, hb, hml, hown, fun w hw => hts0 w (List.mem_cons_of_mem _ hw), hK, hN, hA, hZ, Nat.zero_le _, Nat.zero_le _⟩
  have key : ∀ (n : Nat) (pc : Nat) (lv : pb_L) (st : List Value) (w : pb_W) (ls : Array Slot) (H : Heap) (locs : List Loc), pb_it T n (pc, lv, st, w) = some r → pb_lv ad ls maxL lv → va_P D vwCl (pb_mk cs ad w) H → va_D A (pb_mk cs ad w) → va_S A s.heap H locs → W p l e (pb_rm d) s m (av.map (pb_cv ad)).toArray below meth c H locs 0 0 (MQ below (pb_Qc D ad cs A r) (av.map (pb_cv ad)).toArray s 0 0 A) (F0 m pc ls (st.map (pb_cv ad))) := by
    intro n
    induction n with
    | zero => intro pc lv st w ls H locs h; cases h
    | succ n ih =>
      intro pc lv st w ls H locs h hl hP hD hS
      rw [pb_it] at h
      dsimp only at h
      have S := body (p, l, e, pb_rm d, s, m, (av.map (pb_cv ad)).toArray, below, meth, c, MQ below (pb_Qc D ad cs A r) (av.map (pb_cv ad)).toArray s 0 0 A, maxL, D, ad, cs, A, (fun o => match o with
        | .inl q => q = r
        | .inr z => pb_it T n z = some r), 0, 0) rfl rfl rfl (X _) ⟨hlk, r, fun q hq => hq, rfl⟩ hrt (fun pc lv st w ls H locs hg hl hP hD hS => ih pc lv st w ls H locs hg hl hP hD hS) pc
      cases hT : T pc lv st w with
      | none => rw [hT] at h; cases h
      | some o =>
        refine S lv st w o ls H locs hT ?_ hl hP hD hS
        rw [hT] at h
        rcases o with q | z
        · exact Option.some.inj h
        · exact h
  have hl := lv_entry (av.map (pb_cv ad)) (n := maxL) hlen
  rw [lg_entry_eq]
  have hl2 : pb_lv ad ((lg_sl (av.map (pb_cv ad)) ++ List.replicate (maxL - (lg_sl (av.map (pb_cv ad))).length) Slot.unset).toArray) maxL (pb_ini maxL av) := ⟨hl.1, hl.2.1, fun i v hi => by
    have := pb_ini_at ad av maxL 0 i v hi
    rw [Nat.zero_add] at this
    exact hl.2.2 _ this⟩
  exact key n 0 (pb_ini maxL av) [] w _ s.heap [] hn hl2 hP hD va_S.rf
