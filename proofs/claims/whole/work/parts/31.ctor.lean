/-! ===== THE MAKING MACHINE: constructors, over a growing list of cells ===== -/
abbrev pb_E : Type := (Nat × Nat × (Nat → Int32) × (Nat → Int64)) ⊕ (Nat × List Value)
def pb_ce (cs : Nat → ClassId) (ad : Nat → Nat) (x : pb_E) : va_E := match x with
  | .inl (t, n, f, g) => .inl (cs t, n, if t = 3 then .inr (.inl g) else .inl f)
  | .inr (ci, vs) => .inr (ci, vs.map (pb_cv ad))
def pb_me (cs : Nat → ClassId) (ad : Nat → Nat) (E : List pb_E) : va_W := E.mapIdx fun i x => (ad i, pb_ce cs ad x)
def pb_vok (k : Nat) (v : Value) : Bool := match v with
  | .ref a => Nat.blt a k || Nat.ble 200 a
  | _ => true
def pb_nor (v : Value) : Bool := match v with
  | .ref _ => false
  | _ => true
def pb_eok (k : Nat) (x : pb_E) : Bool := match x with
  | .inl _ => true
  | .inr (_, vs) => vs.all (pb_vok k)
def pb_look (lv : pb_L) (k : Nat) : Bool := lv.all fun x => match x with
  | none => true
  | some v => pb_vok k v
def pb_ok (lv : pb_L) (st : List Value) (E : List pb_E) : Bool := st.all (pb_vok E.length) && (pb_look lv E.length && E.all (pb_eok E.length))
theorem pb_cv_ag {ad ad' : Nat → Nat} {k : Nat} (h : ∀ i, i < k ∨ 200 ≤ i → ad' i = ad i) {v : Value} (hv : pb_vok k v = true) : pb_cv ad' v = pb_cv ad v := by
  cases v <;> try rfl
  rename_i a
  have : a < k ∨ 200 ≤ a := by simpa [pb_vok, Nat.blt_eq] using hv
  simp only [pb_cv, h a this]
theorem pb_cvs_ag {ad ad' : Nat → Nat} {k : Nat} (h : ∀ i, i < k ∨ 200 ≤ i → ad' i = ad i) {vs : List Value} (hv : vs.all (pb_vok k) = true) : vs.map (pb_cv ad') = vs.map (pb_cv ad) :=
  List.map_congr_left fun v hm => pb_cv_ag h (List.all_eq_true.mp hv v hm)
theorem pb_ce_ag {cs : Nat → ClassId} {ad ad' : Nat → Nat} {k : Nat} (h : ∀ i, i < k ∨ 200 ≤ i → ad' i = ad i) {x : pb_E} (hx : pb_eok k x = true) : pb_ce cs ad' x = pb_ce cs ad x := by
  rcases x with ⟨t, n, f, g⟩ | ⟨ci, vs⟩
  · rfl
  · simp only [pb_ce, pb_cvs_ag h (show vs.all (pb_vok k) = true from hx)]
theorem pb_me_ag {cs : Nat → ClassId} {ad ad' : Nat → Nat} {E : List pb_E} (h : ∀ i, i < E.length ∨ 200 ≤ i → ad' i = ad i) (hE : E.all (pb_eok E.length) = true) : pb_me cs ad' E = pb_me cs ad E := by
  apply List.ext_getElem?
  intro i
  simp only [pb_me, List.getElem?_mapIdx]
  cases hx : E[i]? with
  | none => rfl
  | some x =>
    have hi := List.getElem?_eq_some_iff.mp hx
    have hm : x ∈ E := List.mem_of_getElem? hx
    simp only [Option.map_some]
    rw [h i (Or.inl hi.1), pb_ce_ag h (List.all_eq_true.mp hE x hm)]
theorem pb_lv_ag {ad ad' : Nat → Nat} {ls : Array Slot} {nL k : Nat} {lv : pb_L} (h : ∀ i, i < k ∨ 200 ≤ i → ad' i = ad i) (hl : pb_lv ad ls nL lv) (hk : pb_look lv k = true) : pb_lv ad' ls nL lv := by
  refine ⟨hl.1, hl.2.1, fun i v hi => ?_⟩
  have hm : some v ∈ lv := List.mem_of_getElem? hi
  have := List.all_eq_true.mp hk _ hm
  rw [pb_cv_ag h this]
  exact hl.2.2 i v hi
theorem pb_me_push {cs : Nat → ClassId} {ad : Nat → Nat} {E : List pb_E} {x : pb_E} {q : Nat} (hlt : E.length < 200) (hE : E.all (pb_eok E.length) = true) (hx : pb_eok E.length x = true) : pb_me cs ad E ++ [(q, pb_ce cs ad x)] = pb_me cs (va_up ad E.length q) (E ++ [x]) := by
  have hag : ∀ i, i < E.length ∨ 200 ≤ i → va_up ad E.length q i = ad i := fun i hi => by simp [va_up, show i ≠ E.length by omega]
  rw [← pb_me_ag hag hE]
  show _ = (E ++ [x]).mapIdx _
  rw [List.mapIdx_append]
  congr 1
  simp only [List.mapIdx_cons, List.mapIdx_nil, Nat.zero_add]
  rw [pb_ce_ag hag hx]
  simp [va_up]
theorem pb_me_at {cs : Nat → ClassId} {ad : Nat → Nat} {E : List pb_E} {i : Nat} {x : pb_E} (h : E[i]? = some x) : (pb_me cs ad E)[i]? = some (ad i, pb_ce cs ad x) := by simp [pb_me, h]
theorem pb_me_set {cs : Nat → ClassId} {ad : Nat → Nat} {E : List pb_E} {i : Nat} (x : pb_E) : (pb_me cs ad E).set i (ad i, pb_ce cs ad x) = pb_me cs ad (E.set i x) := by
  apply List.ext_getElem?
  intro j
  by_cases hj : i = j
  · subst hj
    by_cases hl : i < E.length
    · rw [List.getElem?_set_self (by simpa [pb_me] using hl)]
      simp [pb_me, hl]
    · rw [List.getElem?_eq_none (by simp [pb_me]; omega), List.getElem?_eq_none (by simp [pb_me]; omega)]
  · rw [List.getElem?_set_ne hj]
    simp only [pb_me, List.getElem?_mapIdx, List.getElem?_set_ne hj]
abbrev pb_O2 : Type := List pb_E × pb_L × List Value
abbrev pb_C2 : Type := pb_L → List Value → List pb_E → Nat → Nat → Option pb_O2
abbrev pb_F2 : Type := List Value → List pb_E → Option (List pb_E)
abbrev pb_G2 : Type := Program × Launch × Env × Room × State × MethodId × Array Value × List Frame × Method × Code × (State → Prop) × Nat × va_G × (Nat → ClassId) × (Nat → Prop) × (Nat → Nat) × Nat × pb_O2
def pb_X2 (Γ : pb_G2) (cc : ByteArray) (own : String) : Prop := match Γ with
  | (p, _, _, _, s, m, args, _, _, c, _, nL, D, cs, A, _, _, _) => p.tables.exec = Jvm.exec ∧ c.code = cc ∧ c.maxLocals = nL ∧ s.vm.findClass own = some m.cls ∧ (∀ w ∈ pb_tbl, w.before args s = true) ∧ va_K D vwCl (pb_tys cs) s ∧ (∀ w ∈ pb_nests, va_Nw w s) ∧ (∀ q, s.heap.size ≤ q → A q)
def pb_Snd2 (Γ : pb_G2) (pc : Nat) (κ : pb_C2) : Prop := match Γ with
  | (p, l, e, R, s, m, args, below, meth, c, Q, nL, D, cs, A, ad0, n0, res) => ∀ (lv : pb_L) (st : List Value) (E : List pb_E) (kc ks : Nat) (ls : Array Slot) (H : Heap) (locs : List Loc) (ad : Nat → Nat), κ lv st E kc ks = some res → pb_lv ad ls nL lv → va_P D vwCl (pb_me cs ad E) H → va_D A (pb_me cs ad E) → va_S A s.heap H locs → (∀ i, i < n0 ∨ 200 ≤ i → ad i = ad0 i) → n0 ≤ E.length → W p l e R s m args below meth c H locs kc ks Q (F0 m pc ls (st.map (pb_cv ad)))
def c_const (v : Value) (κ : pb_C2) : pb_C2 := fun lv st E kc ks => κ lv (v :: st) E kc ks
def c_aload (i : Nat) (κ : pb_C2) : pb_C2 := fun lv st E kc ks => match lv[i]? with
  | some (some (.ref x)) => κ lv (.ref x :: st) E kc ks
  | _ => none
def c_astore (i : Nat) (κ : pb_C2) : pb_C2 := fun lv st E kc ks => match st with
  | .ref x :: r => κ (pb_set1 lv i (.ref x)) r E kc ks
  | _ => none
def c_istore (i : Nat) (κ : pb_C2) : pb_C2 := fun lv st E kc ks => match st with
  | .int x :: r => κ (pb_set1 lv i (.int x)) r E kc ks
  | _ => none
def c_dup (κ : pb_C2) : pb_C2 := fun lv st E kc ks => match st with
  | .ref x :: r => κ lv (.ref x :: .ref x :: r) E kc ks
  | _ => none
def c_new (ci : Nat) (fs : List Value) (MC MS : Nat) (κ : pb_C2) : pb_C2 := fun lv st E kc ks => bif pb_ok lv st E && (Nat.blt E.length 200 && (fs.all pb_nor && (Nat.ble (kc + 1) MC && Nat.ble (ks + fs.length) MS))) then κ lv (.ref E.length :: st) (E ++ [.inr (ci, fs)]) (kc + 1) (ks + fs.length) else none
def c_newa (t N MC MS : Nat) (κ : pb_C2) : pb_C2 := fun lv st E kc ks => match st with
  | .int n :: r => bif pb_ok lv r E && (Nat.blt E.length 200 && (decide (n = Int32.ofNat N) && (Nat.ble (kc + 1) MC && Nat.ble (ks + N) MS))) then κ lv (.ref E.length :: r) (E ++ [.inl (t, N, fun _ => 0, fun _ => 0)]) (kc + 1) (ks + N) else none
  | _ => none
def c_ast (κ : pb_C2) : pb_C2 := fun lv st E kc ks => match st with
  | .int x :: .int i :: .ref a :: r => match E[a]? with
    | some (.inl (0, n, f, g)) => if pb_in i n then κ lv r (E.set a (.inl (0, n, upd f i.toNatClampNeg x, g))) kc ks else none
    | _ => none
  | _ => none
def c_get (ci k : Nat) (κ : pb_C2) : pb_C2 := fun lv st E kc ks => match st with
  | .ref a :: r => match E[a]? with
    | some (.inr (cj, vs)) => match vs[k]? with
      | some v => if cj = ci then κ lv (v :: r) E kc ks else none
      | none => none
    | _ => none
  | _ => none
def c_put (ci k : Nat) (κ : pb_C2) : pb_C2 := fun lv st E kc ks => match st with
  | v :: .ref a :: r => match E[a]? with
    | some (.inr (cj, vs)) => if cj = ci ∧ k < vs.length then κ lv r (E.set a (.inr (ci, vs.set k v))) kc ks else none
    | _ => none
  | _ => none
theorem c_put_e {ci k : Nat} {κ : pb_C2} {lv : pb_L} {st : List Value} {E : List pb_E} {kc ks : Nat} {res : pb_O2} (h : c_put ci k κ lv st E kc ks = some res) : ∃ v a r vs, st = v :: .ref a :: r ∧ E[a]? = some (.inr (ci, vs)) ∧ k < vs.length ∧ κ lv r (E.set a (.inr (ci, vs.set k v))) kc ks = some res := by
  unfold c_put at h
  split at h
  · split at h
    · rename_i hE
      split at h
      · rename_i hc
        obtain ⟨rfl, hk⟩ := hc
        exact ⟨_, _, _, _, rfl, hE, hk, h⟩
      · cases h
    · cases h
  · cases h
def c_obj (κ : pb_C2) : pb_C2 := fun lv st E kc ks => match st with
  | .ref a :: r => bif Nat.ble (pb_cat r) 8 then κ lv r E kc ks else none
  | _ => none
def c_call (n MC' MS' MC MS : Nat) (F : pb_F2) (κ : pb_C2) : pb_C2 := fun lv st E kc ks => bif Nat.ble n st.length && (pb_ok lv st E && (Nat.ble (kc + MC') MC && Nat.ble (ks + MS') MS)) then (match st.drop n with
  | .ref a :: r => bif Nat.ble (pb_cat r) 8 then (F (.ref a :: (st.take n).reverse) E).bind fun E' => bif Nat.ble E.length E'.length then κ lv r E' (kc + MC') (ks + MS') else none else none
  | _ => none) else none
def c_vret (MC MS : Nat) : pb_C2 := fun lv st E kc ks => match st with
  | [] => bif Nat.ble kc MC && Nat.ble ks MS then some (E, [], []) else none
  | _ => none
def c_end (KC KS : Nat) : pb_C2 := fun lv st E kc ks => bif Nat.ble kc KC && Nat.ble ks KS then some (E, lv, st) else none
def pb_tyk (ty : FieldType) (v : Value) : Bool := match ty, v with
  | .int, .int _ => true
  | .long, .long _ => true
  | .object _, .ref _ => true
  | .array _, .ref _ => true
  | _, _ => false
theorem pb_tyk_ok {ty : FieldType} {v : Value} (ad : Nat → Nat) (h : pb_tyk ty v = true) : narrow ty (pb_cv ad v) = pb_cv ad v ∧ fits ty (pb_cv ad v) = true := by
  cases ty <;> cases v <;> first | (simp [pb_tyk] at h; done) | exact ⟨rfl, rfl⟩
def c_putT (ty : FieldType) (ci k : Nat) (κ : pb_C2) : pb_C2 := fun lv st E kc ks => bif pb_tyk ty (st.headD .null) then c_put ci k κ lv st E kc ks else none
section PB2
variable {Γ : pb_G2} {cc : ByteArray} {own : String} {pc : Nat} {κ : pb_C2}
theorem k_iconst (X : pb_X2 Γ cc own) {n : Int} {v : Int32} (hd : decode cc pc = .ok (.iconst n, 1)) (hv : Int32.ofInt n = v) (k0 : pb_Snd2 Γ (pc + 1) κ) : pb_Snd2 Γ pc (c_const (.int v) κ) := by
  obtain ⟨p, l, e, R, s, m, args, below, meth, c, Q, nL, D, cs, A, ad0, n0, res⟩ := Γ
  obtain ⟨hx, hb, hml, hown, hts, hK, hN, hA⟩ := X
  intro lv st E kc ks ls H locs ad h hl hP hD hS hag hn
  exact lv_iconst hx hb hd hv (k0 lv (.int v :: st) E kc ks ls H locs ad h hl hP hD hS hag hn)
theorem k_lconst (X : pb_X2 Γ cc own) {n : Fin 2} {v : Int64} (hd : decode cc pc = .ok (.lconst n, 1)) (hv : Int64.ofNat (n : Nat) = v) (k0 : pb_Snd2 Γ (pc + 1) κ) : pb_Snd2 Γ pc (c_const (.long v) κ) := by
  obtain ⟨p, l, e, R, s, m, args, below, meth, c, Q, nL, D, cs, A, ad0, n0, res⟩ := Γ
  obtain ⟨hx, hb, hml, hown, hts, hK, hN, hA⟩ := X
  intro lv st E kc ks ls H locs ad h hl hP hD hS hag hn
  exact lv_lconst hx hb hd hv (k0 lv (.long v :: st) E kc ks ls H locs ad h hl hP hD hS hag hn)
theorem k_bipush (X : pb_X2 Γ cc own) {n : Int} {v : Int32} (hd : decode cc pc = .ok (.bipush n, 2)) (hv : (Int8.ofInt n).toInt32 = v) (k0 : pb_Snd2 Γ (pc + 2) κ) : pb_Snd2 Γ pc (c_const (.int v) κ) := by
  obtain ⟨p, l, e, R, s, m, args, below, meth, c, Q, nL, D, cs, A, ad0, n0, res⟩ := Γ
  obtain ⟨hx, hb, hml, hown, hts, hK, hN, hA⟩ := X
  intro lv st E kc ks ls H locs ad h hl hP hD hS hag hn
  exact lv_bipush hx hb hd hv (k0 lv (.int v :: st) E kc ks ls H locs ad h hl hP hD hS hag hn)
theorem k_sipush (X : pb_X2 Γ cc own) {n : Int} {v : Int32} (hd : decode cc pc = .ok (.sipush n, 3)) (hv : (Int16.ofInt n).toInt32 = v) (k0 : pb_Snd2 Γ (pc + 3) κ) : pb_Snd2 Γ pc (c_const (.int v) κ) := by
  obtain ⟨p, l, e, R, s, m, args, below, meth, c, Q, nL, D, cs, A, ad0, n0, res⟩ := Γ
  obtain ⟨hx, hb, hml, hown, hts, hK, hN, hA⟩ := X
  intro lv st E kc ks ls H locs ad h hl hP hD hS hag hn
  exact lv_sipush hx hb hd hv (k0 lv (.int v :: st) E kc ks ls H locs ad h hl hP hD hS hag hn)
theorem k_aload_n (X : pb_X2 Γ cc own) {j : Fin 4} {i : Nat} (hd : decode cc pc = .ok (.aload_n j, 1)) (hi : (j : Nat) = i) (k0 : pb_Snd2 Γ (pc + 1) κ) : pb_Snd2 Γ pc (c_aload i κ) := by
  obtain ⟨p, l, e, R, s, m, args, below, meth, c, Q, nL, D, cs, A, ad0, n0, res⟩ := Γ
  obtain ⟨hx, hb, hml, hown, hts, hK, hN, hA⟩ := X
  intro lv st E kc ks ls H locs ad h hl hP hD hS hag hn
  subst hi
  unfold c_aload at h
  split at h
  · rename_i x hx1
    exact lv_aload_n hx hb hd rfl (hl.2.2 _ _ hx1) (k0 lv (.ref x :: st) E kc ks ls H locs ad h hl hP hD hS hag hn)
  · cases h
theorem k_astore_n (X : pb_X2 Γ cc own) {j : Fin 4} {i : Nat} (hd : decode cc pc = .ok (.astore_n j, 1)) (hi : (j : Nat) = i) (hn1 : i < Γ.2.2.2.2.2.2.2.2.2.2.2.1) (k0 : pb_Snd2 Γ (pc + 1) κ) : pb_Snd2 Γ pc (c_astore i κ) := by
  obtain ⟨p, l, e, R, s, m, args, below, meth, c, Q, nL, D, cs, A, ad0, n0, res⟩ := Γ
  obtain ⟨hx, hb, hml, hown, hts, hK, hN, hA⟩ := X
  intro lv st E kc ks ls H locs ad h hl hP hD hS hag hn
  subst hi
  unfold c_astore at h
  split at h
  · rename_i x r
    exact lv_astore_n hx hb hd rfl (pb_lv_has hl) hn1 rfl (fun ls' hl' => k0 (pb_set1 lv _ (.ref x)) r E kc ks ls' H locs ad h (pb_lv_set1 (v := .ref x) hl hl') hP hD hS hag hn)
  · cases h
theorem k_istore_n (X : pb_X2 Γ cc own) {j : Fin 4} {i : Nat} (hd : decode cc pc = .ok (.istore_n j, 1)) (hi : (j : Nat) = i) (hn1 : i < Γ.2.2.2.2.2.2.2.2.2.2.2.1) (k0 : pb_Snd2 Γ (pc + 1) κ) : pb_Snd2 Γ pc (c_istore i κ) := by
  obtain ⟨p, l, e, R, s, m, args, below, meth, c, Q, nL, D, cs, A, ad0, n0, res⟩ := Γ
  obtain ⟨hx, hb, hml, hown, hts, hK, hN, hA⟩ := X
  intro lv st E kc ks ls H locs ad h hl hP hD hS hag hn
  subst hi
  unfold c_istore at h
  split at h
  · rename_i x r
    exact lv_istore_n hx hb hd rfl (pb_lv_has hl) hn1 rfl (fun ls' hl' => k0 (pb_set1 lv _ (.int x)) r E kc ks ls' H locs ad h (pb_lv_set1 (v := .int x) hl hl') hP hD hS hag hn)
  · cases h
theorem k_dup (X : pb_X2 Γ cc own) (hd : decode cc pc = .ok (.dup, 1)) (k0 : pb_Snd2 Γ (pc + 1) κ) : pb_Snd2 Γ pc (c_dup κ) := by
  obtain ⟨p, l, e, R, s, m, args, below, meth, c, Q, nL, D, cs, A, ad0, n0, res⟩ := Γ
  obtain ⟨hx, hb, hml, hown, hts, hK, hN, hA⟩ := X
  intro lv st E kc ks ls H locs ad h hl hP hD hS hag hn
  unfold c_dup at h
  split at h
  · exact lv_dup hx hb hd rfl (k0 lv _ E kc ks ls H locs ad h hl hP hD hS hag hn)
  · cases h
theorem pb_ok_e {lv : pb_L} {st : List Value} {E : List pb_E} (h : pb_ok lv st E = true) : st.all (pb_vok E.length) = true ∧ pb_look lv E.length = true ∧ E.all (pb_eok E.length) = true := by
  unfold pb_ok at h
  simp only [Bool.and_eq_true] at h
  exact h
theorem pb_up_ag (ad : Nat → Nat) (k q : Nat) : ∀ i, i < k → va_up ad k q i = ad i := fun i hi => by simp [va_up, Nat.ne_of_lt hi]
theorem pb_up_ag2 (ad : Nat → Nat) {k : Nat} (hk : k < 200) (q : Nat) : ∀ i, i < k ∨ 200 ≤ i → va_up ad k q i = ad i := fun i hi => by simp [va_up, show i ≠ k by omega]
theorem pb_eok_nor {ci k : Nat} {fs : List Value} (h : fs.all pb_nor = true) : pb_eok k (.inr (ci, fs)) = true := by
  refine List.all_eq_true.mpr fun v hv => ?_
  have := List.all_eq_true.mp h v hv
  cases v <;> first | rfl | (simp [pb_nor] at this)
theorem k_new (X : pb_X2 Γ cc own) {idx ci N MC MS : Nat} {C : String} {T : u_T} {ty : Nat → FieldType} {fs : List Value} (hd : decode cc pc = .ok (.new idx, 3)) (hcl : vwCl[ci]? = some (C, T, N)) (hu : ∀ w ∈ u_ws C T N, w ∈ pb_tbl) (hty : ∀ k, k < N → parseFieldDescriptor (T k).2.2.1 = some (ty k)) (hck : Cond.classLink own idx C ∈ pb_tbl) (hin : Cond.instantiable C N ∈ pb_tbl) (hini : Cond.initialized C ∈ pb_tbl) (hfs : ∀ j, j < N → defaultValue (ty j) = vp_V fs j) (hlen : fs.length = N) (hR : MC ≤ Γ.2.2.2.1.cells ∧ MS ≤ Γ.2.2.2.1.slots) (k0 : pb_Snd2 Γ (pc + 3) κ) : pb_Snd2 Γ pc (c_new ci fs MC MS κ) := by
  obtain ⟨p, l, e, R, s, m, args, below, meth, c, Q, nL, D, cs, A, ad0, n0, res⟩ := Γ
  obtain ⟨hx, hb, hml, hown, hts, hK, hN, hA⟩ := X
  intro lv st E kc ks ls H locs ad h hl hP hD hS hag hn
  unfold c_new at h
  cases hc : (pb_ok lv st E && (Nat.blt E.length 200 && (fs.all pb_nor && (Nat.ble (kc + 1) MC && Nat.ble (ks + fs.length) MS)))) with
  | false => rw [hc] at h; cases h
  | true =>
    rw [hc] at h
    simp only [Bool.and_eq_true] at hc
    obtain ⟨hok, hlt, hef, h1, h2⟩ := hc
    have hlt : E.length < 200 := by simpa [Nat.blt_eq] using hlt
    have h1 := Nat.le_of_ble_eq_true h1
    have h2 := Nat.le_of_ble_eq_true h2
    obtain ⟨o1, o2, o3⟩ := pb_ok_e hok
    have hconv : fs.map (pb_cv ad) = fs := by
      have e2 : ∀ v ∈ fs, pb_cv ad v = v := fun v hv => by
        have := List.all_eq_true.mp hef v hv
        cases v <;> first | rfl | (simp [pb_nor] at this)
      calc fs.map (pb_cv ad) = fs.map id := List.map_congr_left e2
        _ = fs := List.map_id fs
    refine va_new (ci := ci) (fs := fs) hx hb hts hu ty hty hown (hts _ hck) (hts _ hin) (hts _ hini) hK hP hD hS hA hcl hfs (Nat.le_trans h1 hR.1) (by rw [← hlen]; exact Nat.le_trans h2 hR.2) hd (fun q H1 a1 a2 a3 => ?_)
    have ep : pb_me cs ad E ++ [(q, .inr (ci, fs))] = pb_me cs (va_up ad E.length q) (E ++ [.inr (ci, fs)]) := by
      rw [← pb_me_push hlt o3 (pb_eok_nor hef)]
      simp only [pb_ce, hconv]
    rw [ep] at a1 a2
    have h : κ lv (.ref E.length :: st) (E ++ [.inr (ci, fs)]) (kc + 1) (ks + fs.length) = some res := h
    have w1 := k0 lv (.ref E.length :: st) (E ++ [.inr (ci, fs)]) (kc + 1) (ks + fs.length) ls H1 locs (va_up ad E.length q) h (pb_lv_ag (pb_up_ag2 ad hlt q) hl o2) a1 a2 a3 (fun i hi => by rw [pb_up_ag2 ad hlt q i (hi.imp (fun z => Nat.lt_of_lt_of_le z hn) id)]; exact hag i hi) (by simp; omega)
    have es : (Value.ref E.length :: st).map (pb_cv (va_up ad E.length q)) = .ref q :: st.map (pb_cv ad) := by
      rw [List.map_cons, pb_cvs_ag (pb_up_ag2 ad hlt q) o1]
      simp [pb_cv, va_up]
    rw [es] at w1
    rw [← hlen]
    exact w1
theorem k_newa (X : pb_X2 Γ cc own) {t N MC MS : Nat} {ty : FieldType} {atype : ArrayType} (hd : decode cc pc = .ok (.newarray atype, 2)) (hty : newarray.typeOf atype = ty) (harr : Cond.arrayClass (newarray.typeOf atype) ∈ pb_tbl) (ht : ∀ cs : Nat → ClassId, (pb_tys cs)[t]? = some (cs t, ty)) (hra : ∀ (U : State) (cA : ClassId), va_RA U cA ty ↔ U.vm.findClass ("[" ++ ty.toString) = some cA) (hcell : ∀ cA : ClassId, vp_cell cA (N, if t = 3 then .inr (.inl fun _ => 0) else .inl fun _ => 0) = arrV cA N (fun _ => defaultValue ty)) (hNs : N < 100000) (hby : N * componentBytes ty ≤ 536870912) (hR : MC ≤ Γ.2.2.2.1.cells ∧ MS ≤ Γ.2.2.2.1.slots) (k0 : pb_Snd2 Γ (pc + 2) κ) : pb_Snd2 Γ pc (c_newa t N MC MS κ) := by
  obtain ⟨p, l, e, R, s, m, args, below, meth, c, Q, nL, D, cs, A, ad0, n0, res⟩ := Γ
  obtain ⟨hx, hb, hml, hown, hts, hK, hN, hA⟩ := X
  intro lv st E kc ks ls H locs ad h hl hP hD hS hag hn
  unfold c_newa at h
  split at h
  · rename_i n r
    cases hc : (pb_ok lv r E && (Nat.blt E.length 200 && (decide (n = Int32.ofNat N) && (Nat.ble (kc + 1) MC && Nat.ble (ks + N) MS)))) with
    | false => rw [hc] at h; cases h
    | true =>
      rw [hc] at h
      simp only [Bool.and_eq_true] at hc
      obtain ⟨hok, hlt, hnN, h1, h2⟩ := hc
      have hlt : E.length < 200 := by simpa [Nat.blt_eq] using hlt
      have h1 := Nat.le_of_ble_eq_true h1
      have h2 := Nat.le_of_ble_eq_true h2
      have hnN : n = nI N := of_decide_eq_true hnN
      subst hnN
      obtain ⟨o1, o2, o3⟩ := pb_ok_e hok
      refine va_newa (a0 := (N, if t = 3 then .inr (.inl fun _ => 0) else .inl fun _ => 0)) hx hb (hts _ harr) hty hK hP hD hS hA hcell (nI_pos (by omega)) (nI_clamp (by omega)) hby (Nat.le_trans h1 hR.1) (Nat.le_trans h2 hR.2) hd (fun q cA H1 hK1 a1 a2 a3 => ?_)
      have hcA : cA = cs t := by
        have r1 := (hra s cA).mp (hK1.2 (pb_tys cs).length (cA, ty) (by simp)).2
        have r2 := (hra s (cs t)).mp (hK.2 t (cs t, ty) (ht cs)).2
        rw [r1] at r2
        exact Option.some.inj r2
      subst hcA
      have ep : pb_me cs ad E ++ [(q, .inl (cs t, N, if t = 3 then .inr (.inl fun _ => 0) else .inl fun _ => 0))] = pb_me cs (va_up ad E.length q) (E ++ [.inl (t, N, fun _ => 0, fun _ => 0)]) := by
        rw [← pb_me_push hlt o3 rfl]
        rfl
      rw [ep] at a1 a2
      have h : κ lv (.ref E.length :: r) (E ++ [.inl (t, N, fun _ => 0, fun _ => 0)]) (kc + 1) (ks + N) = some res := h
      have w1 := k0 lv (.ref E.length :: r) (E ++ [.inl (t, N, fun _ => 0, fun _ => 0)]) (kc + 1) (ks + N) ls H1 locs (va_up ad E.length q) h (pb_lv_ag (pb_up_ag2 ad hlt q) hl o2) a1 a2 a3 (fun i hi => by rw [pb_up_ag2 ad hlt q i (hi.imp (fun z => Nat.lt_of_lt_of_le z hn) id)]; exact hag i hi) (by simp; omega)
      have es : (Value.ref E.length :: r).map (pb_cv (va_up ad E.length q)) = .ref q :: r.map (pb_cv ad) := by
        rw [List.map_cons, pb_cvs_ag (pb_up_ag2 ad hlt q) o1]
        simp [pb_cv, va_up]
      rw [es] at w1
      exact w1
  · cases h
theorem k_ast (X : pb_X2 Γ cc own) (hd : decode cc pc = .ok (.iastore, 1)) (k0 : pb_Snd2 Γ (pc + 1) κ) : pb_Snd2 Γ pc (c_ast κ) := by
  obtain ⟨p, l, e, R, s, m, args, below, meth, c, Q, nL, D, cs, A, ad0, n0, res⟩ := Γ
  obtain ⟨hx, hb, hml, hown, hts, hK, hN, hA⟩ := X
  intro lv st E kc ks ls H locs ad h hl hP hD hS hag hn
  unfold c_ast at h
  split at h
  · rename_i x i a r
    split at h
    · rename_i n f g hE
      split at h
      · rename_i hi
        refine va_iast hx hb hK hP hD hS a 0 (cA := cs 0) (n := n) (f := f) (pb_me_at hE) rfl (pb_in_vp hi) hd (fun H1 locs1 a1 a2 a3 => ?_)
        have ep : (pb_me cs ad E).set a (ad a, .inl (cs 0, n, .inl (upd f i.toNatClampNeg x))) = pb_me cs ad (E.set a (.inl (0, n, upd f i.toNatClampNeg x, g))) := by
          rw [← pb_me_set]
          rfl
        rw [ep] at a1 a2
        exact k0 lv r _ kc ks ls H1 locs1 ad h hl a1 a2 a3 hag (by simpa using hn)
      · cases h
    · cases h
  · cases h
theorem k_get (X : pb_X2 Γ cc own) {ci k N idx : Nat} {C : String} {T : u_T} (hd : decode cc pc = .ok (.getfield idx, 3)) (hcl : vwCl[ci]? = some (C, T, N)) (hk : k < N) (hu : ∀ w ∈ u_ws C T N, w ∈ pb_tbl) (hf : Cond.fieldLink own idx (T k).1 (T k).2.1 (T k).2.2.1 ∈ pb_tbl) (k0 : pb_Snd2 Γ (pc + 3) κ) : pb_Snd2 Γ pc (c_get ci k κ) := by
  obtain ⟨p, l, e, R, s, m, args, below, meth, c, Q, nL, D, cs, A, ad0, n0, res⟩ := Γ
  obtain ⟨hx, hb, hml, hown, hts, hK, hN, hA⟩ := X
  intro lv st E kc ks ls H locs ad h hl hP hD hS hag hn
  unfold c_get at h
  split at h
  · rename_i a r
    split at h
    · rename_i cj vs hE
      split at h
      · rename_i v hv
        split at h
        · rename_i hcj
          subst hcj
          exact va_get hx hb hts hu hown hK hP a (pb_me_at hE) hcl k hk (hts _ hf) (fun _ q => q) (v := pb_cv ad v) (by rw [List.getElem?_map, hv]; rfl) hd (k0 lv (v :: r) E kc ks ls H locs ad h hl hP hD hS hag hn)
        · cases h
      · cases h
    · cases h
  · cases h
theorem k_put (X : pb_X2 Γ cc own) {ci k N idx : Nat} {C : String} {T : u_T} {ty0 : Nat → FieldType} (hd : decode cc pc = .ok (.putfield idx, 3)) (hcl : vwCl[ci]? = some (C, T, N)) (hk : k < N) (hu : ∀ w ∈ u_ws C T N, w ∈ pb_tbl) (hf : Cond.fieldLink own idx (T k).1 (T k).2.1 (T k).2.2.1 ∈ pb_tbl) (hty : ∀ j, j < N → parseFieldDescriptor (T j).2.2.1 = some (ty0 j)) (hnm : ∀ a, a < N → ∀ b, b < N → a ≠ b → (T a).2.1 ≠ (T b).2.1) (hfin : (T k).2.2.2 = false) (k0 : pb_Snd2 Γ (pc + 3) κ) : pb_Snd2 Γ pc (c_putT (ty0 k) ci k κ) := by
  obtain ⟨p, l, e, R, s, m, args, below, meth, c, Q, nL, D, cs, A, ad0, n0, res⟩ := Γ
  obtain ⟨hx, hb, hml, hown, hts, hK, hN, hA⟩ := X
  intro lv st E kc ks ls H locs ad h hl hP hD hS hag hn
  unfold c_putT at h
  cases hty1 : pb_tyk (ty0 k) (st.headD .null) with
  | false => rw [hty1] at h; cases h
  | true =>
    rw [hty1] at h
    have h : c_put ci k κ lv st E kc ks = some res := h
    obtain ⟨v, a, r, vs, rfl, hE, hkl, h⟩ := c_put_e h
    have hn2 := pb_tyk_ok ad (show pb_tyk (ty0 k) v = true from hty1)
    refine va_put hx hb hts hu ty0 hty hnm hown hK hP hD hS a (pb_me_at hE) hcl k hk (hts _ hf) (fun _ q => q) hfin (hty k hk) hn2.1 hn2.2 (by simpa using hkl) hd (fun H1 locs1 a1 a2 a3 => ?_)
    have ep : (pb_me cs ad E).set a (ad a, .inr (ci, (vs.map (pb_cv ad)).set k (pb_cv ad v))) = pb_me cs ad (E.set a (.inr (ci, vs.set k v))) := by
      rw [← pb_me_set]
      simp only [pb_ce, List.map_set]
    rw [ep] at a1 a2
    exact k0 lv r _ kc ks ls H1 locs1 ad h hl a1 a2 a3 hag (by simpa using hn)
theorem k_putF (X : pb_X2 Γ cc own) (hini : Γ.2.2.2.2.2.2.2.2.1.name = "<init>") {ci k N idx : Nat} {C : String} {T : u_T} {ty0 : Nat → FieldType} (hd : decode cc pc = .ok (.putfield idx, 3)) (hcl : vwCl[ci]? = some (C, T, N)) (hk : k < N) (hu : ∀ w ∈ u_ws C T N, w ∈ pb_tbl) (hf : Cond.fieldLink own idx (T k).1 (T k).2.1 (T k).2.2.1 ∈ pb_tbl) (hty : ∀ j, j < N → parseFieldDescriptor (T j).2.2.1 = some (ty0 j)) (hnm : ∀ a, a < N → ∀ b, b < N → a ≠ b → (T a).2.1 ≠ (T b).2.1) (hfin : (T k).2.2.2 = true) (hdecl : (T k).1 = own) (k0 : pb_Snd2 Γ (pc + 3) κ) : pb_Snd2 Γ pc (c_putT (ty0 k) ci k κ) := by
  obtain ⟨p, l, e, R, s, m, args, below, meth, c, Q, nL, D, cs, A, ad0, n0, res⟩ := Γ
  obtain ⟨hx, hb, hml, hown, hts, hK, hN, hA⟩ := X
  intro lv st E kc ks ls H locs ad h hl hP hD hS hag hn
  unfold c_putT at h
  cases hty1 : pb_tyk (ty0 k) (st.headD .null) with
  | false => rw [hty1] at h; cases h
  | true =>
    rw [hty1] at h
    have h : c_put ci k κ lv st E kc ks = some res := h
    obtain ⟨v, a, r, vs, rfl, hE, hkl, h⟩ := c_put_e h
    have hn2 := pb_tyk_ok ad (show pb_tyk (ty0 k) v = true from hty1)
    refine va_putF hx hb hts hu ty0 hty hnm hown hK hP hD hS a (pb_me_at hE) hcl k hk (hts _ hf) (fun _ q => q) hfin hini hdecl (hty k hk) hn2.1 hn2.2 (by simpa using hkl) hd (fun H1 locs1 a1 a2 a3 => ?_)
    have ep : (pb_me cs ad E).set a (ad a, .inr (ci, (vs.map (pb_cv ad)).set k (pb_cv ad v))) = pb_me cs ad (E.set a (.inr (ci, vs.set k v))) := by
      rw [← pb_me_set]
      simp only [pb_ce, List.map_set]
    rw [ep] at a1 a2
    exact k0 lv r _ kc ks ls H1 locs1 ad h hl a1 a2 a3 hag (by simpa using hn)
theorem k_obj (X : pb_X2 Γ cc own) {idx : Nat} (hd : decode cc pc = .ok (.invokespecial idx, 3)) (hlk : Cond.methodLink own idx objectInit ∈ pb_tbl) (hin : Cond.instanceMethod objectInit ∈ pb_tbl ∧ Cond.code objectInit ⟨#[0xb1]⟩ 1 none ∈ pb_tbl) (hR : 1 ≤ Γ.2.2.2.1.frames ∧ 64 ≤ Γ.2.2.2.1.locals) (k0 : pb_Snd2 Γ (pc + 3) κ) : pb_Snd2 Γ pc (c_obj κ) := by
  obtain ⟨p, l, e, R, s, m, args, below, meth, c, Q, nL, D, cs, A, ad0, n0, res⟩ := Γ
  obtain ⟨hx, hb, hml, hown, hts, hK, hN, hA⟩ := X
  intro lv st E kc ks ls H locs ad h hl hP hD hS hag hn
  unfold c_obj at h
  split at h
  · rename_i a r
    cases hc8 : Nat.ble (pb_cat r) 8 with
    | false => rw [hc8] at h; cases h
    | true =>
      rw [hc8] at h
      have h8 : (r.map fun v => v.category).sum ≤ 8 := Nat.le_of_ble_eq_true hc8
      refine W.objInit hx hb hown (hts _ hlk) (hts _ hin.1) (hts _ hin.2) rfl (hl.1.trans hml.symm) rfl hd hR.1 ?_ ?_
      · show 2 * 0 + ((r.map (pb_cv ad)).map fun v => v.category).sum + 12 ≤ _
        rw [pb_cv_sum]
        have := hR.2
        dsimp only at this
        omega
      · exact W.eq (g2 := F0 m (pc + 3) ls (r.map (pb_cv ad))) rfl (k0 lv r E kc ks ls H locs ad h hl hP hD hS hag hn)
  · cases h
/-- what a constructor's end is -/
def pb_W2 (D : va_G) (ad : Nat → Nat) (cs : Nat → ClassId) (A : Nat → Prop) (E : List pb_E) (U : State) : Prop := va_K D vwCl (pb_tys cs) U ∧ (∀ x ∈ pb_nests, va_Nw x U) ∧ (∀ q, U.heap.size ≤ q → A q) ∧ va_P D vwCl (pb_me cs ad E) U.heap ∧ va_D A (pb_me cs ad E)
def pb_rm2 (d MC MS : Nat) : Room := { frames := d, cells := MC, slots := MS, locals := d * 64 }
def pb_Pc2 (D : va_G) (ad : Nat → Nat) (cs : Nat → ClassId) (A : Nat → Prop) (av : List Value) (E : List pb_E) : Array Value → State → Prop := fun v U => v = (av.map (pb_cv ad)).toArray ∧ pb_W2 D ad cs A E U
def pb_Qc2 (D : va_G) (ad : Nat → Nat) (cs : Nat → ClassId) (A : Nat → Prop) (n0 : Nat) (E' : List pb_E) : Array Value → State → Outcome → State → Prop := fun _ st o t => o = .returned none ∧ (∃ ad' : Nat → Nat, (∀ i, i < n0 ∨ 200 ≤ i → ad' i = ad i) ∧ pb_W2 D ad' cs A E' t) ∧ va_F A st t
def pb_Sound2 (l : Launch) (y : MethodName) (cc : ByteArray) (maxL d MC MS : Nat) (F : pb_F2) : Prop := Cond.code y cc maxL none ∈ pb_tbl ∧ ∀ (D : va_G) (ad : Nat → Nat) (cs : Nat → ClassId) (A : Nat → Prop) (av : List Value) (E E' : List pb_E), F av E = some E' → Met l y (.code y cc maxL none :: pb_tbl) (pb_rm2 d MC MS) (pb_Pc2 D ad cs A av E) (pb_Qc2 D ad cs A E.length E') MC MS A
theorem pb_W2_same {D : va_G} {ad : Nat → Nat} {cs : Nat → ClassId} {A : Nat → Prop} {E : List pb_E} {u U : State} (hv : U.vm = u.vm) (hh : U.heap = u.heap) (h : pb_W2 D ad cs A E u) : pb_W2 D ad cs A E U := by
  obtain ⟨h1, h2, h3, h5, h6⟩ := h
  exact ⟨va_K.moved (by rw [hv]; exact Vm.Alike.refl _) h1, fun x hx => pb_nest_same hx hv.symm (h2 x hx), by rw [hh]; exact h3, by rw [hh]; exact h5, h6⟩
theorem pb_blind2 {D : va_G} {ad : Nat → Nat} {cs : Nat → ClassId} {A : Nat → Prop} {av : List Value} {E : List pb_E} : FrameBlind (pb_Pc2 D ad cs A av E) := fun a U g mk h => ⟨h.1, pb_W2_same (u := U) (U := U.calling g mk a) rfl rfl h.2⟩
theorem k_call (X : pb_X2 Γ cc own) {n idx maxL d MC' MS' MC MS : Nat} {y : MethodName} {bytes : ByteArray} {F : pb_F2} (hd : decode cc pc = .ok (.invokespecial idx, 3)) (hF : pb_Sound2 Γ.2.1 y bytes maxL d MC' MS' F) (hlk : Cond.methodLink own idx y ∈ pb_tbl ∨ ∃ host, Cond.methodLinkNest own idx y host ∈ pb_nests) (hin : Cond.instanceMethod y ∈ pb_tbl ∧ Cond.initialized y.cls ∈ pb_tbl) (hy1 : y.name = "<init>") (hdd : y.cls ≠ "java/lang/invoke/MethodHandle" ∧ y.cls ≠ "java/lang/invoke/VarHandle" ∧ (parseMethodDescriptor y.desc).map (fun d => d.parameters.length) = some n) (hR : (pb_rm2 d MC' MS').frames + 1 ≤ Γ.2.2.2.1.frames ∧ 8 + (maxL + 11) + (pb_rm2 d MC' MS').locals ≤ Γ.2.2.2.1.locals) (hRc : MC ≤ Γ.2.2.2.1.cells ∧ MS ≤ Γ.2.2.2.1.slots) (k0 : pb_Snd2 Γ (pc + 3) κ) : pb_Snd2 Γ pc (c_call n MC' MS' MC MS F κ) := by
  obtain ⟨p, l, e, R, s, m, args, below, meth, c, Q, nL, D, cs, A, ad0, n0, res⟩ := Γ
  obtain ⟨hx, hb, hml, hown, hts, hK, hN, hA⟩ := X
  intro lv st E kc ks ls H locs ad h hl hP hD hS hag hn
  unfold c_call at h
  cases hc : (Nat.ble n st.length && (pb_ok lv st E && (Nat.ble (kc + MC') MC && Nat.ble (ks + MS') MS))) with
  | false => rw [hc] at h; cases h
  | true =>
    rw [hc] at h
    simp only [Bool.and_eq_true] at hc
    obtain ⟨hnl, hok, h1, h2⟩ := hc
    have hnl := Nat.le_of_ble_eq_true hnl
    have h1 := Nat.le_of_ble_eq_true h1
    have h2 := Nat.le_of_ble_eq_true h2
    obtain ⟨o1, o2, o3⟩ := pb_ok_e hok
    simp only [cond_true] at h
    split at h
    · rename_i a r hdr
      cases hc8 : Nat.ble (pb_cat r) 8 with
      | false => rw [hc8] at h; cases h
      | true =>
        rw [hc8] at h
        have h8 := Nat.le_of_ble_eq_true hc8
        simp only [cond_true] at h
        obtain ⟨E', hE', h⟩ := Option.bind_eq_some_iff.mp h
        cases hcl : Nat.ble E.length E'.length with
        | false => rw [hcl] at h; cases h
        | true =>
          rw [hcl] at h
          have hEl := Nat.le_of_ble_eq_true hcl
          obtain ⟨hcode, hM⟩ := hF
          have hM := hM D ad cs A _ E E' hE'
          have hpre : PreS s H (pb_Pc2 D ad cs A (.ref a :: (st.take n).reverse) E) (.ref (ad a) :: (st.take n).reverse.map (pb_cv ad)) := ⟨pb_blind2, fun U hU hW => ⟨rfl, va_K.moved hW.alike hK, fun x hx => pb_nest_keep hx hW (hN x hx), by rw [hU]; exact fun q hq => hA q (Nat.le_trans hS.1 hq), by rw [hU]; exact hP, hD⟩⟩
          have hlen : ((st.take n).reverse.map (pb_cv ad)).length = n := by simp [hnl]
          have hst : st.map (pb_cv ad) = ((st.take n).reverse.map (pb_cv ad)).reverse ++ .ref (ad a) :: r.map (pb_cv ad) := by
            rw [pb_take_drop ad hnl, hdr]
            rfl
          have hroom : 2 * (F0 m pc ls (st.map (pb_cv ad))).monitorRoom + ((r.map (pb_cv ad)).map fun v => v.category).sum ≤ 8 := lv_room (by rw [pb_cv_sum]; exact h8)
          have hf : kc + MC' ≤ R.cells ∧ ks + MS' ≤ R.slots := ⟨Nat.le_trans h1 hRc.1, Nat.le_trans h2 hRc.2⟩
          have run : va_Run p l e R s m args below meth c H locs kc ks MC' MS' (F0 m pc ls (st.map (pb_cv ad))) (r.map (pb_cv ad)) (pb_Qc2 D ad cs A E.length E' (Value.ref (ad a) :: (st.take n).reverse.map (pb_cv ad)).toArray) A := by
            rcases hlk with hlk | ⟨host, hlk⟩
            · exact va_runI (n := n) ⟨hx, hb, hml, hown, hts⟩ hM ⟨callB_of n hts (pb_good hcode) rfl rfl rfl (hts _ hin.2) (hts _ hlk) hdd hR, hy1, hts _ hin.1⟩ hpre rfl hlen hl.1 hst hroom hd hf
            · exact va_runIN (n := n) ⟨hx, hb, hml, hown, hts⟩ hM ⟨va_cnB n hts (pb_good hcode) rfl rfl rfl (hN _ hlk) (hts _ hin.2) hdd hR, hy1, hts _ hin.1⟩ hpre rfl hlen hl.1 hst hroom hd hf
          intro T hT X
          obtain ⟨v, st₀, t, T', L, g0, X', hL, e1, e2, ⟨hv, ⟨ad', hag', hK1, hN1, hA1, hP1, hD1⟩, hFr⟩, stp⟩ := run T hT X
          cases hv
          have hz := hFr.1
          have hk := hFr.2
          rw [g0] at hz hk
          have hS1 : va_S A s.heap T'.heap (locs ++ L) := ⟨Nat.le_trans hS.1 (by rw [e1]; exact hz), fun q g1 g2 => by rw [e1, hk q (Nat.lt_of_lt_of_le g1 hS.1) g2]; exact hS.2.1 q g1 g2, fun q hq => by
            rcases List.mem_append.mp hq with g | g
            · exact hS.2.2 q g
            · exact hL q g⟩
          have o1r : r.all (pb_vok E.length) = true := by
            refine List.all_eq_true.mpr fun v hv => List.all_eq_true.mp o1 v ?_
            have : v ∈ st.drop n := by rw [hdr]; exact List.mem_cons_of_mem _ hv
            exact List.mem_of_mem_drop this
          have W1 := k0 lv r E' (kc + MC') (ks + MS') ls T'.heap (locs ++ L) ad' h (pb_lv_ag hag' hl o2) (by rw [e1]; exact hP1) hD1 hS1 (fun i hi => by rw [hag' i (hi.imp (fun z => Nat.lt_of_lt_of_le z hn) id)]; exact hag i hi) (Nat.le_trans hn hEl)
          rw [pb_cvs_ag hag' o1r] at W1
          obtain ⟨t2, a1, b1⟩ := W1 T' rfl X'
          exact ⟨t2, stp t2 a1, b1⟩
    · cases h
theorem k_vret (X : pb_X2 Γ cc own) {MC MS : Nat} (hE : match Γ with | (p, l, e, R, s, m, args, below, meth, c, Q, nL, D, cs, A, ad0, n0, res) => meth.locks = false ∧ meth.sig.returnType = none ∧ Q = MQ below (pb_Qc2 D ad0 cs A n0 res.1) args s MC MS A) (hd : decode cc pc = .ok (.return_, 1)) : pb_Snd2 Γ pc (c_vret MC MS) := by
  obtain ⟨p, l, e, R, s, m, args, below, meth, c, Q, nL, D, cs, A, ad0, n0, res⟩ := Γ
  obtain ⟨hx, hb, hml, hown, hts, hK, hN, hA⟩ := X
  obtain ⟨hlk, hr, rfl⟩ := hE
  intro lv st E kc ks ls H locs ad h hl hP hD hS hag hn
  unfold c_vret at h
  split at h
  · cases hc : (Nat.ble kc MC && Nat.ble ks MS) with
    | false => rw [hc] at h; cases h
    | true =>
      rw [hc] at h
      simp only [Bool.and_eq_true] at hc
      cases h
      refine W.widen (k := MC) (n := MS) (Nat.le_of_ble_eq_true hc.1) (Nat.le_of_ble_eq_true hc.2) ?_
      exact W.vret hx hb hr (fun t ht hW => ⟨rfl, ⟨ad, hag, va_K.moved hW.alike hK, fun x hx => pb_nest_keep hx hW (hN x hx), by rw [ht]; exact fun q hq => hA q (Nat.le_trans hS.1 hq), by rw [ht]; exact hP, hD⟩, hS.F ht⟩) hS.2.2 hd hlk
  · cases h
theorem k_end {KC KS : Nat} (hJ : match Γ with | (p, l, e, R, s, m, args, below, meth, c, Q, nL, D, cs, A, ad0, n0, res) => ∀ (ls : Array Slot) (H : Heap) (locs : List Loc) (ad : Nat → Nat), pb_lv ad ls nL res.2.1 → va_P D vwCl (pb_me cs ad res.1) H → va_D A (pb_me cs ad res.1) → va_S A s.heap H locs → (∀ i, i < n0 ∨ 200 ≤ i → ad i = ad0 i) → W p l e R s m args below meth c H locs KC KS Q (F0 m pc ls (res.2.2.map (pb_cv ad)))) : pb_Snd2 Γ pc (c_end KC KS) := by
  obtain ⟨p, l, e, R, s, m, args, below, meth, c, Q, nL, D, cs, A, ad0, n0, res⟩ := Γ
  intro lv st E kc ks ls H locs ad h hl hP hD hS hag hn
  unfold c_end at h
  cases hc : (Nat.ble kc KC && Nat.ble ks KS) with
  | false => rw [hc] at h; cases h
  | true =>
    rw [hc] at h
    simp only [Bool.and_eq_true] at hc
    cases h
    exact W.widen (k := KC) (n := KS) (Nat.le_of_ble_eq_true hc.1) (Nat.le_of_ble_eq_true hc.2) (hJ ls H locs ad hl hP hD hS hag)
end PB2
theorem pb_sound2_of {l : Launch} {y : MethodName} {cc : ByteArray} {maxL d MC MS : Nat} {κ : pb_C2} (hy : plainName y.cls = true) (hyn : y.name = "<init>") (hcode : Cond.code y cc maxL none ∈ pb_tbl)
    (body : ∀ Γ : pb_G2, Γ.2.1 = l → Γ.2.2.2.1 = pb_rm2 d MC MS → Γ.2.2.2.2.2.2.2.2.2.2.2.1 = maxL → pb_X2 Γ cc y.cls → (match Γ with | (p, l, e, R, s, m, args, below, meth, c, Q, nL, D, cs, A, ad0, n0, res) => meth.locks = false ∧ meth.sig.returnType = none ∧ Q = MQ below (pb_Qc2 D ad0 cs A n0 res.1) args s MC MS A) → Γ.2.2.2.2.2.2.2.2.1.name = "<init>" → pb_Snd2 Γ 0 κ) : pb_Sound2 l y cc maxL d MC MS (fun av E => bif Nat.ble (pb_cat av) maxL then (κ (pb_ini maxL av) [] E 0 0).map (·.1) else none) := by
  refine ⟨hcode, fun D ad cs A av E E' hr => ?_⟩
  cases hc : Nat.ble (pb_cat av) maxL with
  | false => simp only [hc] at hr; cases hr
  | true =>
    simp only [hc, cond_true] at hr
    obtain ⟨res, hres, hE⟩ := Option.map_eq_some_iff.mp hr
    subst hE
    have hlen : (lg_sl (av.map (pb_cv ad))).length ≤ maxL := by rw [pb_cat_len]; exact Nat.le_of_ble_eq_true hc
    refine Met.ofW (cc := cc) (maxL := maxL) (ret := none) hy rfl ?_
    intro p e s m args below meth c s₁ B hml hv
    obtain ⟨rfl, hK, hN, hA, hP, hD⟩ := hv
    have hts0 := atoms_spec (ws := .code y cc maxL none :: pb_tbl) B.pre
    have hown : s.vm.findClass y.cls = some m.cls := findClass_of_methodNamed B.named
    have hin : meth.name = "<init>" := (name_of_methodNamed B.named B.method).1.trans hyn
    have S := body (p, l, e, pb_rm2 d MC MS, s, m, (av.map (pb_cv ad)).toArray, below, meth, c, MQ below (pb_Qc2 D ad cs A E.length res.1) (av.map (pb_cv ad)).toArray s MC MS A, maxL, D, cs, A, ad, E.length, res) rfl rfl rfl ⟨B.exec, B.bytes, hml, hown, fun w hw => hts0 w (List.mem_cons_of_mem _ hw), hK, hN, hA⟩ ⟨B.notSynchronized, B.returns, rfl⟩ hin
    have hl := lv_entry (av.map (pb_cv ad)) (n := maxL) hlen
    rw [lg_entry_eq]
    have hl2 : pb_lv ad ((lg_sl (av.map (pb_cv ad)) ++ List.replicate (maxL - (lg_sl (av.map (pb_cv ad))).length) Slot.unset).toArray) maxL (pb_ini maxL av) := ⟨hl.1, hl.2.1, fun i v hi => by
      have := pb_ini_at ad av maxL 0 i v hi
      rw [Nat.zero_add] at this
      exact hl.2.2 _ this⟩
    exact S (pb_ini maxL av) [] E 0 0 _ s.heap [] ad hres hl2 hP hD va_S.rf (fun _ _ => rfl) (Nat.le_refl _)

