theorem m_1_24 : Cond.classLink RL 7 RX11 ∈ pb_tbl := pb_tm1 (i := 24) rfl rfl
theorem m_1_25 : Cond.instantiable RX11 14 ∈ pb_tbl := pb_tm1 (i := 25) rfl rfl
theorem m_1_26 : Cond.methodLink RL 9 yX11_init ∈ pb_tbl := pb_tm1 (i := 26) rfl rfl
theorem m_1_27 : Cond.instanceMethod yX11_init ∈ pb_tbl := pb_tm1 (i := 27) rfl rfl
theorem m_6_145 : Cond.classLink RL 10 RX12 ∈ pb_tbl := pb_tm6 (i := 145) rfl rfl
theorem m_6_146 : Cond.instantiable RX12 101 ∈ pb_tbl := pb_tm6 (i := 146) rfl rfl
theorem m_6_147 : Cond.methodLink RL 12 yX12_init ∈ pb_tbl := pb_tm6 (i := 147) rfl rfl
theorem m_6_148 : Cond.instanceMethod yX12_init ∈ pb_tbl := pb_tm6 (i := 148) rfl rfl
def pb_E0 : List pb_E := [
  .inr (11, [.int (0), .long (0), .long (1), .ref 1, .ref 5, .ref 21, .ref 25, .ref 31, .ref 39, .ref 45, .ref 51, .ref 54, .ref 57, .ref 61]),
  .inr (8, [.ref 2, .ref 3, .ref 4]),
  .inl (3, 240, (fun _ => 0), fun _ => 0),
  .inl (0, 4, (fun _ => 0), fun _ => 0),
  .inl (0, 4, (upd (upd (upd (upd (fun _ => 0) 0 (-1)) 1 (-1)) 2 (-1)) 3 (-1)), fun _ => 0),
  .inr (1, [.int (0), .ref 6, .ref 7, .int (0), .ref 8, .ref 9, .ref 10, .ref 11, .ref 12, .ref 13, .ref 14, .ref 15, .ref 16, .int (0), .ref 17, .ref 18, .ref 19, .ref 20, .int (0), .int (9999)]),
  .inl (0, 12, (fun _ => 0), fun _ => 0),
  .inl (0, 12, (fun _ => 0), fun _ => 0),
  .inl (0, 200, (fun _ => 0), fun _ => 0),
  .inl (0, 200, (fun _ => 0), fun _ => 0),
  .inl (0, 200, (fun _ => 0), fun _ => 0),
  .inl (0, 200, (fun _ => 0), fun _ => 0),
  .inl (1, 200, (fun _ => 0), fun _ => 0),
  .inl (0, 200, (fun _ => 0), fun _ => 0),
  .inl (3, 600, (fun _ => 0), fun _ => 0),
  .inl (0, 200, (fun _ => 0), fun _ => 0),
  .inl (0, 200, (fun _ => 0), fun _ => 0),
  .inl (0, 60, (fun _ => 0), fun _ => 0),
  .inl (0, 60, (fun _ => 0), fun _ => 0),
  .inl (0, 60, (fun _ => 0), fun _ => 0),
  .inl (3, 3, (fun _ => 0), fun _ => 0),
  .inr (5, [.ref 22, .int (0), .int (0), .int (0), .int (0), .int (0), .long (0), .int (0), .int (0), .int (0), .ref 23, .int (0), .ref 24, .int (0), .int (0), .int (0), .int (0), .int (0), .int (0)]),
  .inl (2, 600, (fun _ => 0), fun _ => 0),
  .inl (0, 32, (fun _ => 0), fun _ => 0),
  .inl (3, 600, (fun _ => 0), fun _ => 0),
  .inr (0, [.ref 5, .int (0), .ref 26, .ref 27, .ref 28, .ref 29, .ref 30, .int (0)]),
  .inl (3, 3000, (fun _ => 0), fun _ => 0),
  .inl (0, 5, (fun _ => 0), fun _ => 0),
  .inl (0, 1000, (fun _ => 0), fun _ => 0),
  .inl (0, 1000, (fun _ => 0), fun _ => 0),
  .inl (3, 64, (fun _ => 0), fun _ => 0),
  .inr (6, [.ref 5, .int (0), .ref 32, .ref 33, .ref 34, .int (0), .ref 35, .ref 36, .ref 37, .ref 38, .int (0), .int (0), .int (0)]),
  .inl (0, 40, (fun _ => 0), fun _ => 0),
  .inl (0, 40, (fun _ => 0), fun _ => 0),
  .inl (0, 40, (fun _ => 0), fun _ => 0),
  .inl (0, 9, (fun _ => 0), fun _ => 0),
  .inl (0, 63, (fun _ => 0), fun _ => 0),
  .inl (0, 9, (fun _ => 0), fun _ => 0),
  .inl (0, 9, (fun _ => 0), fun _ => 0),
  .inr (7, [.ref 5, .ref 25, .int (10), .ref 40, .ref 41, .ref 42, .ref 43, .ref 44, .int (0), .int (0)]),
  .inl (0, 16, (fun _ => 0), fun _ => 0),
  .inl (0, 16, (fun _ => 0), fun _ => 0),
  .inl (0, 16, (fun _ => 0), fun _ => 0),
  .inl (0, 1936, (fun _ => 0), fun _ => 0),
  .inl (3, 2001, (fun _ => 0), fun _ => 0),
  .inr (3, [.int (0), .ref 46, .ref 47, .ref 48, .ref 49, .ref 50]),
  .inl (0, 40, (fun _ => 0), fun _ => 0),
  .inl (0, 40, (fun _ => 0), fun _ => 0),
  .inl (0, 40, (fun _ => 0), fun _ => 0),
  .inl (0, 40, (fun _ => 0), fun _ => 0),
  .inl (0, 4, (upd (upd (upd (upd (fun _ => 0) 0 (30)) 1 (50)) 2 (70)) 3 (100)), fun _ => 0),
  .inr (4, [.ref 5, .ref 25, .int (3), .int (0), .ref 52, .ref 53]),
  .inl (0, 200, (fun _ => 0), fun _ => 0),
  .inl (0, 200, (fun _ => 0), fun _ => 0),
  .inr (9, [.ref 5, .ref 55, .ref 56, .int (0), .int (0), .int (0), .int (0)]),
  .inl (0, 8, (fun _ => 0), fun _ => 0),
  .inl (0, 520, (fun _ => 0), fun _ => 0),
  .inr (10, [.ref 5, .int (0), .ref 58, .ref 59, .ref 60]),
  .inl (0, 8, (fun _ => 0), fun _ => 0),
  .inl (0, 8, (fun _ => 0), fun _ => 0),
  .inl (0, 16, (fun _ => 0), fun _ => 0),
  .inr (2, [.ref 5, .ref 25, .int (0), .ref 62, .ref 63, .long (0), .long (0)]),
  .inl (0, 12, (fun _ => 0), fun _ => 0),
  .inl (0, 12, (fun _ => 0), fun _ => 0),
  .inr (12, [.int (0), .long (0), .long (1), .ref 65, .ref 66, .ref 67, .int (0), .int (0), .int (0), .int (0), .int (9999), .int (0), .ref 68, .ref 69, .ref 70, .ref 71, .ref 72, .ref 73, .ref 74, .ref 75, .ref 76, .ref 77, .ref 78, .ref 79, .ref 80, .ref 81, .ref 82, .ref 83, .int (0), .int (0), .int (0), .int (0), .int (0), .int (0), .int (-1), .int (-1), .int (0), .int (0), .int (0), .int (0), .ref 84, .ref 85, .ref 86, .ref 87, .ref 88, .ref 89, .ref 90, .ref 91, .ref 92, .ref 93, .ref 94, .ref 95, .ref 96, .ref 97, .ref 98, .ref 99, .ref 100, .ref 101, .int (-1), .ref 102, .ref 103, .int (0), .int (0), .int (0), .ref 104, .ref 105, .ref 106, .int (0), .ref 107, .ref 108, .ref 109, .int (0), .int (0), .int (0), .int (0), .int (0), .int (10), .int (3), .ref 110, .ref 111, .ref 112, .ref 113, .ref 114, .ref 115, .ref 116, .int (0), .ref 117, .ref 118, .ref 119, .ref 120, .ref 121, .ref 122, .ref 123, .ref 124, .ref 125, .ref 126, .ref 127, .int (0), .int (0), .ref 128, .ref 129]),
  .inl (0, 4, (fun _ => 0), fun _ => 0),
  .inl (0, 4, (upd (upd (upd (upd (fun _ => 0) 0 (-1)) 1 (-1)) 2 (-1)) 3 (-1)), fun _ => 0),
  .inl (3, 240, (fun _ => 0), fun _ => 0),
  .inl (0, 12, (fun _ => 0), fun _ => 0),
  .inl (0, 12, (fun _ => 0), fun _ => 0),
  .inl (0, 200, (fun _ => 0), fun _ => 0),
  .inl (0, 200, (fun _ => 0), fun _ => 0),
  .inl (0, 200, (fun _ => 0), fun _ => 0),
  .inl (0, 200, (fun _ => 0), fun _ => 0),
  .inl (0, 200, (fun _ => 0), fun _ => 0),
  .inl (0, 200, (fun _ => 0), fun _ => 0),
  .inl (0, 60, (fun _ => 0), fun _ => 0),
  .inl (0, 60, (fun _ => 0), fun _ => 0),
  .inl (0, 60, (fun _ => 0), fun _ => 0),
  .inl (3, 600, (fun _ => 0), fun _ => 0),
  .inl (3, 3, (fun _ => 0), fun _ => 0),
  .inl (1, 200, (fun _ => 0), fun _ => 0),
  .inl (2, 600, (fun _ => 0), fun _ => 0),
  .inl (2, 600, (fun _ => 0), fun _ => 0),
  .inl (0, 6, (fun _ => 0), fun _ => 0),
  .inl (0, 186, (fun _ => 0), fun _ => 0),
  .inl (0, 186, (fun _ => 0), fun _ => 0),
  .inl (0, 186, (fun _ => 0), fun _ => 0),
  .inl (0, 186, (fun _ => 0), fun _ => 0),
  .inl (0, 186, (fun _ => 0), fun _ => 0),
  .inl (0, 1500, (fun _ => 0), fun _ => 0),
  .inl (0, 1500, (fun _ => 0), fun _ => 0),
  .inl (0, 1500, (fun _ => 0), fun _ => 0),
  .inl (0, 1500, (fun _ => 0), fun _ => 0),
  .inl (0, 1500, (fun _ => 0), fun _ => 0),
  .inl (3, 1500, (fun _ => 0), fun _ => 0),
  .inl (1, 1500, (fun _ => 0), fun _ => 0),
  .inl (1, 1500, (fun _ => 0), fun _ => 0),
  .inl (0, 4000, (fun _ => 0), fun _ => 0),
  .inl (0, 4000, (fun _ => 0), fun _ => 0),
  .inl (0, 8, (fun _ => 0), fun _ => 0),
  .inl (0, 8, (fun _ => 0), fun _ => 0),
  .inl (3, 4, (fun _ => 0), fun _ => 0),
  .inl (3, 700, (fun _ => 0), fun _ => 0),
  .inl (0, 40, (fun _ => 0), fun _ => 0),
  .inl (0, 40, (fun _ => 0), fun _ => 0),
  .inl (0, 40, (fun _ => 0), fun _ => 0),
  .inl (0, 200, (fun _ => 0), fun _ => 0),
  .inl (0, 9, (fun _ => 0), fun _ => 0),
  .inl (0, 9, (fun _ => 0), fun _ => 0),
  .inl (0, 16, (fun _ => 0), fun _ => 0),
  .inl (0, 16, (fun _ => 0), fun _ => 0),
  .inl (0, 8320, (fun _ => 0), fun _ => 0),
  .inl (3, 2001, (fun _ => 0), fun _ => 0),
  .inl (3, 2001, (fun _ => 0), fun _ => 0),
  .inl (0, 16, (fun _ => 0), fun _ => 0),
  .inl (0, 16, (fun _ => 0), fun _ => 0),
  .inl (0, 40, (fun _ => 0), fun _ => 0),
  .inl (0, 40, (fun _ => 0), fun _ => 0),
  .inl (0, 40, (fun _ => 0), fun _ => 0),
  .inl (0, 40, (fun _ => 0), fun _ => 0),
  .inl (0, 4, (upd (upd (upd (upd (fun _ => 0) 0 (30)) 1 (50)) 2 (70)) 3 (100)), fun _ => 0),
  .inl (0, 200, (fun _ => 0), fun _ => 0),
  .inl (0, 200, (fun _ => 0), fun _ => 0),
  .inl (0, 8, (fun _ => 0), fun _ => 0),
  .inl (0, 8, (fun _ => 0), fun _ => 0),
  .inl (0, 8, (fun _ => 0), fun _ => 0),
  .inl (0, 8, (fun _ => 0), fun _ => 0),
  .inl (0, 12, (fun _ => 0), fun _ => 0),
  .inl (0, 12, (fun _ => 0), fun _ => 0)]
def B2_L_law : pb_C2 := (c_new 11 [.int 0, .long 0, .long 0, .null, .null, .null, .null, .null, .null, .null, .null, .null, .null, .null] 130 53173 (c_dup (c_call 0 63 14403 130 53173 F2_X11_init (c_astore 1 (c_new 12 [.int 0, .long 0, .long 0, .null, .null, .null, .int 0, .int 0, .int 0, .int 0, .int 0, .int 0, .null, .null, .null, .null, .null, .null, .null, .null, .null, .null, .null, .null, .null, .null, .null, .null, .int 0, .int 0, .int 0, .int 0, .int 0, .int 0, .int 0, .int 0, .int 0, .int 0, .int 0, .int 0, .null, .null, .null, .null, .null, .null, .null, .null, .null, .null, .null, .null, .null, .null, .null, .null, .null, .null, .int 0, .null, .null, .int 0, .int 0, .int 0, .null, .null, .null, .int 0, .null, .null, .null, .int 0, .int 0, .int 0, .int 0, .int 0, .int 0, .int 0, .null, .null, .null, .null, .null, .null, .null, .int 0, .null, .null, .null, .null, .null, .null, .null, .null, .null, .null, .null, .int 0, .int 0, .null, .null] 130 53173 (c_dup (c_call 0 65 38655 130 53173 F2_X12_init (c_astore 2 (c_const (.int 0) (c_istore 3 (c_end 130 53173)))))))))))
set_option maxRecDepth 1000000 in
set_option maxHeartbeats 8000000 in
theorem pb_made : B2_L_law (pb_ini 4 [.ref 340]) [] [] 0 0 = some (pb_E0, [some (.ref 340), some (.ref 0), some (.ref 64), some (.int 0)], []) := by rfl
def pb_wof (E : List pb_E) : pb_W := (fun i k => match E[i]? with
  | some (.inl (_, _, f, _)) => f k
  | some (.inr (_, vs)) => (match vs[k]? with
    | some (.int x) => x
    | _ => 0)
  | none => 0, fun i k => match E[i]? with
  | some (.inl (_, _, _, g)) => g k
  | some (.inr (_, vs)) => (match vs[k]? with
    | some (.long x) => x
    | _ => 0)
  | none => 0)
def pb_vsh (v : Value) : Nat ⊕ Bool := match v with
  | .ref a => .inl a
  | .int _ => .inr true
  | _ => .inr false
def pb_esh (x : pb_E) : pb_Sh := match x with
  | .inl (t, n, _, _) => .inl (t, n)
  | .inr (ci, vs) => .inr (ci, vs.map pb_vsh)
def pb_vgood (v : Value) : Bool := match v with
  | .ref _ => true
  | .int _ => true
  | .long _ => true
  | _ => false
def pb_egood (x : pb_E) : Bool := match x with
  | .inl _ => true
  | .inr (_, vs) => vs.all pb_vgood
theorem pb_me_mk {E : List pb_E} (hs : E.map pb_esh = pb_sh) (hg : E.all pb_egood = true) (cs : Nat → ClassId) (ad : Nat → Nat) : pb_me cs ad E = pb_mk cs ad (pb_wof E) := by
  apply List.ext_getElem?
  intro i
  simp only [pb_me, pb_mk, List.getElem?_mapIdx, ← hs, List.getElem?_map]
  cases hx : E[i]? with
  | none => rfl
  | some x =>
    simp only [Option.map_some]
    congr 2
    have hgx := List.all_eq_true.mp hg x (List.mem_of_getElem? hx)
    rcases x with ⟨t, n, f, g⟩ | ⟨ci, vs⟩
    · simp only [pb_ce, pb_esh, pb_ent, pb_wof, hx]
    · simp only [pb_ce, pb_esh, pb_ent]
      congr 2
      apply List.ext_getElem?
      intro k
      simp only [List.getElem?_map, List.getElem?_mapIdx]
      cases hv : vs[k]? with
      | none => rfl
      | some v =>
        have hgv := List.all_eq_true.mp (show vs.all pb_vgood = true from hgx) v (List.mem_of_getElem? hv)
        simp only [Option.map_some]
        cases v <;> simp [pb_vgood] at hgv <;> simp [pb_cv, pb_vsh, pb_fv, pb_wof, hx, hv]
/-- the world right behind the two constructors -/
def pb_w0 : pb_W := pb_wof pb_E0
set_option maxRecDepth 100000 in
theorem pb_E0_sh : pb_E0.map pb_esh = pb_sh := by rfl
set_option maxRecDepth 100000 in
theorem pb_E0_good : pb_E0.all pb_egood = true := by rfl
set_option maxRecDepth 100000 in
set_option maxHeartbeats 8000000 in
theorem S2_L_law {Γ : pb_G2} (hRm0 : Γ.2.2.2.1 = room_1) (hm : Γ.2.2.2.2.2.2.2.2.2.2.2.1 = 4) (X : pb_X2 Γ code RL) (hJ : match Γ with | (p, l, e, R, s, m, args, below, meth, c, Q, nL, D, cs, A, ad0, n0, res) => ∀ (ls : Array Slot) (H : Heap) (locs : List Loc) (ad : Nat → Nat), pb_lv ad ls nL res.2.1 → va_P D vwCl (pb_me cs ad res.1) H → va_D A (pb_me cs ad res.1) → va_S A s.heap H locs → (∀ i, i < n0 ∨ 200 ≤ i → ad i = ad0 i) → W p l e R s m args below meth c H locs 130 53173 Q (F0 m 18 ls (res.2.2.map (pb_cv ad)))) : pb_Snd2 Γ 0 B2_L_law := by
  have hnL : ∀ j, j < 4 → j < Γ.2.2.2.2.2.2.2.2.2.2.2.1 := fun j h => by rw [hm]; exact h
  have hRc : 130 ≤ Γ.2.2.2.1.cells ∧ 53173 ≤ Γ.2.2.2.1.slots := by rw [hRm0]; exact ⟨by decide, by decide⟩
  have hR : ∀ (d' mL MC' MS' : Nat), d' + 1 ≤ 2048 ∧ 8 + (mL + 11) + d' * 64 ≤ 84000 → (pb_rm2 d' MC' MS').frames + 1 ≤ Γ.2.2.2.1.frames ∧ 8 + (mL + 11) + (pb_rm2 d' MC' MS').locals ≤ Γ.2.2.2.1.locals := by rw [hRm0]; exact fun _ _ _ _ h => h
  exact (k_new (pc := 0) X dL_law_0 (ty := tyX11) rfl u_X11 tyX11_ok m_1_24 m_1_25 m_1_1 (by decide +kernel) rfl hRc (k_dup (pc := 3) X dL_law_3 (k_call (pc := 4) X dL_law_4 (S2_X11_init _) (Or.inl m_1_26) ⟨m_1_27, m_1_1⟩ rfl ⟨by decide +kernel, by decide +kernel, by decide +kernel⟩ (hR _ _ _ _ (by decide)) hRc (k_astore_n (pc := 7) X dL_law_7 rfl (hnL _ (by decide)) (k_new (pc := 8) X dL_law_8 (ty := tyX12) rfl u_X12 tyX12_ok m_6_145 m_6_146 m_1_13 (by decide +kernel) rfl hRc (k_dup (pc := 11) X dL_law_11 (k_call (pc := 12) X dL_law_12 (S2_X12_init _) (Or.inl m_6_147) ⟨m_6_148, m_1_13⟩ rfl ⟨by decide +kernel, by decide +kernel, by decide +kernel⟩ (hR _ _ _ _ (by decide)) hRc (k_astore_n (pc := 15) X dL_law_15 rfl (hnL _ (by decide)) (k_iconst (pc := 16) X dL_law_16 rfl (k_istore_n (pc := 17) X dL_law_17 rfl (hnL _ (by decide)) (k_end (pc := 18) hJ)))))))))))
