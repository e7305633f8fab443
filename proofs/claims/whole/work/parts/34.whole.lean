theorem pb_eqtL {args : Array Value} {s : State} {t : Term} {z : Int64} (h : (Cond.eq t (.long z)).before args s = true) : t.eval args s none [] s = some (.long z) := by
  cases hv : t.eval args s none [] s with
  | none => simp [Cond.before, Cond.holds, Cond.value, hv] at h
  | some w =>
    have hz : (Term.long z).eval args s none [] s = some (.long z) := rfl
    simp only [Cond.before, Cond.holds, Cond.value, hv, hz] at h
    cases w <;> simp_all
theorem pb_start_stat {s : State} {b : Nat} (hts : ∀ w ∈ lw_tbl, w.before #[Value.ref b] s = true) (hgv : (Jvm.Cond.and given_1 narrow_1).before #[Value.ref b] s = true) : ∃ ad0 : Nat → Nat, ad0 340 = b ∧ pb_stat ad0 (fun q => s.heap.size ≤ q) s s.heap := by
  have hs := flat_of_before _ hgv
  have hA : ∀ a : Nat, a < s.heap.size → ¬ (fun q : Nat => s.heap.size ≤ q) a := fun a h => Nat.not_le.mpr h
  have h1 : ∀ i, i < 3 → Cond.exactly (Term.string ((pb_srefs.getD i ("", 0, "", 0)).1) ((pb_srefs.getD i ("", 0, "", 0)).2.1)) "java/lang/String" ∈ flatC (Jvm.Cond.and given_1 narrow_1) := by decide +kernel
  have h2 : ∀ i, i < 3 → Cond.eq (.field (Term.string ((pb_srefs.getD i ("", 0, "", 0)).1) ((pb_srefs.getD i ("", 0, "", 0)).2.1)) "java/lang/String" "coder" "B") (.int 0) ∈ flatC (Jvm.Cond.and given_1 narrow_1) := by decide +kernel
  have h3 : ∀ i, i < 3 → Cond.arrayOf (.field (Term.string ((pb_srefs.getD i ("", 0, "", 0)).1) ((pb_srefs.getD i ("", 0, "", 0)).2.1)) "java/lang/String" "value" "[B") .byte ∈ flatC (Jvm.Cond.and given_1 narrow_1) := by decide +kernel
  have h4 : ∀ i, i < 3 → Cond.eq (.length (.field (Term.string ((pb_srefs.getD i ("", 0, "", 0)).1) ((pb_srefs.getD i ("", 0, "", 0)).2.1)) "java/lang/String" "value" "[B")) (.int (Int32.ofNat (pb_jsN.getD i 0))) ∈ flatC (Jvm.Cond.and given_1 narrow_1) := by decide +kernel
  have h5 : ∀ i, i < 3 → ∀ j, j < pb_jsN.getD i 0 → Cond.eq (.elem (.field (Term.string ((pb_srefs.getD i ("", 0, "", 0)).1) ((pb_srefs.getD i ("", 0, "", 0)).2.1)) "java/lang/String" "value" "[B") (.int (Int32.ofNat j))) (.int ((pb_strs.getD i []).getD j 0)) ∈ flatC (Jvm.Cond.and given_1 narrow_1) := by decide +kernel
  have h6 : ∀ i, i < 3 → ∀ j, j < 3 → i ≠ j → Cond.not (Cond.eq (Term.string ((pb_srefs.getD i ("", 0, "", 0)).1) ((pb_srefs.getD i ("", 0, "", 0)).2.1)) (Term.string ((pb_srefs.getD j ("", 0, "", 0)).1) ((pb_srefs.getD j ("", 0, "", 0)).2.1))) ∈ flatC (Jvm.Cond.and given_1 narrow_1) ∨ Cond.not (Cond.eq (Term.string ((pb_srefs.getD j ("", 0, "", 0)).1) ((pb_srefs.getD j ("", 0, "", 0)).2.1)) (Term.string ((pb_srefs.getD i ("", 0, "", 0)).1) ((pb_srefs.getD i ("", 0, "", 0)).2.1))) ∈ flatC (Jvm.Cond.and given_1 narrow_1) := by decide +kernel
  have hl3 : ∀ i, i < 3 → pb_jsN.getD i 0 < 2 ^ 31 := by decide +kernel
  obtain ⟨adK, adV, hS, hT⟩ := vk_Sof (N := 3) (tm := fun i => Term.string ((pb_srefs.getD i ("", 0, "", 0)).1) ((pb_srefs.getD i ("", 0, "", 0)).2.1)) (len := pb_jsN) (byt := pb_strs) (A := fun q => s.heap.size ≤ q) (args := #[Value.ref b]) (s := s) hl3 (fun i hi => hs _ (h1 i hi)) (fun i hi => hs _ (h2 i hi)) (fun i hi => hs _ (h3 i hi)) (fun i hi => hs _ (h4 i hi)) (fun i hi j hj => hs _ (h5 i hi j hj)) (fun i j hi hj hij => (h6 i hi j hj hij).imp (hs _) (hs _)) hA
  have k1 : Cond.arrayOf (.static "PennyBooks$Reader" "KEYWORDS" "[J") .long ∈ flatC (Jvm.Cond.and given_1 narrow_1) := by decide +kernel
  have k2 : Cond.eq (.length (.static "PennyBooks$Reader" "KEYWORDS" "[J")) (.int (Int32.ofNat 13)) ∈ flatC (Jvm.Cond.and given_1 narrow_1) := by decide +kernel
  have k3 : ∀ j, j < 13 → Cond.eq (.elem (.static "PennyBooks$Reader" "KEYWORDS" "[J") (.int (Int32.ofNat j))) (.long (pb_keys.getD j 0)) ∈ flatC (Jvm.Cond.and given_1 narrow_1) := by decide +kernel
  obtain ⟨kw, hkw, hkT⟩ := va_Tof (args := #[Value.ref b]) (s := s) (tm := .static "PennyBooks$Reader" "KEYWORDS" "[J") (ty := .long) (N := 13) (f := fun j => .long (pb_keys.getD j 0)) (A := fun q => s.heap.size ≤ q) (by decide) (hs _ k1) (va_eqt (hs _ k2)) (fun j hj => pb_eqtL (hs _ (k3 j hj))) hA
  have hkZ : va_Z "PennyBooks$Reader" "KEYWORDS" "[J" (.ref kw) (fun q => s.heap.size ≤ q) s s.heap := va_Zof (hts _ (by decide +kernel)) (hts _ (by decide +kernel)) hkw hA
  have hcZ : va_Z "java/lang/String" "COMPACT_STRINGS" "Z" (.int 1) (fun q => s.heap.size ≤ q) s s.heap := va_Zof (hts _ (by decide +kernel)) (hts _ (by decide +kernel)) (va_eqi (hs _ (by decide +kernel))) hA
  have hfZ : va_Zq "jdk/internal/util/Preconditions" "SIOOBE_FORMATTER" "Ljava/util/function/BiFunction;" (fun q => s.heap.size ≤ q) s s.heap := va_Zqof (hts _ (by decide +kernel)) (hts _ (by decide +kernel)) (hs _ (by decide +kernel)) hA
  refine ⟨fun k => if k = 340 then b else if k = 320 then kw else if 310 ≤ k then adV (k - 310) else if 300 ≤ k then adK (k - 300) else 0, rfl, ⟨?_, ?_⟩, ?_, hkZ, hkT, hcZ, hfZ⟩
  · intro i hi
    match i, hi with
    | 0, _ => exact hS.1 0 (by decide)
    | 1, _ => exact hS.1 1 (by decide)
    | 2, _ => exact hS.1 2 (by decide)
    | j + 3, h => exact absurd h (by show ¬ j + 3 < 3; omega)
  · intro i j hi hj he
    match i, hi, j, hj with
    | 0, _, 0, _ => rfl
    | 1, _, 1, _ => rfl
    | 2, _, 2, _ => rfl
    | 0, _, 1, _ => exact hS.2 0 1 (by decide) (by decide) he
    | 0, _, 2, _ => exact hS.2 0 2 (by decide) (by decide) he
    | 1, _, 0, _ => exact hS.2 1 0 (by decide) (by decide) he
    | 1, _, 2, _ => exact hS.2 1 2 (by decide) (by decide) he
    | 2, _, 0, _ => exact hS.2 2 0 (by decide) (by decide) he
    | 2, _, 1, _ => exact hS.2 2 1 (by decide) (by decide) he
    | k + 3, h, _, _ => exact absurd h (by show ¬ k + 3 < 3; omega)
    | _, _, k + 3, h => exact absurd h (by show ¬ k + 3 < 3; omega)
  · intro q hq
    rcases List.mem_cons.mp hq with rfl | hq
    · exact vk_R.of (hts _ (by decide +kernel)) (hT 0 (by decide))
    · rcases List.mem_cons.mp hq with rfl | hq
      · exact vk_R.of (hts _ (by decide +kernel)) (hT 1 (by decide))
      · rcases List.mem_cons.mp hq with rfl | hq
        · exact vk_R.of (hts _ (by decide +kernel)) (hT 2 (by decide))
        · cases hq
theorem law_key {p : Program} {l : Launch} {e : Env} {s : State} {m : MethodId} {below : List Frame} {meth : Method} {c : Code} {b L : Nat} {xs : Nat → Int32} (C0 : lw_At p s m meth c b L xs) {D : va_G} {ad : Nat → Nat} {cs : Nat → ClassId} (hK : va_K D vwCl (pb_tys cs) s) (hN : ∀ w ∈ pb_nests, va_Nw w s) (hZ : pb_stat ad (fun q => s.heap.size ≤ q) s s.heap) (had : ad 340 = b) (r : pb_R) : ∀ (n pc : Nat) (lv : pb_L) (st : List Value) (w : pb_W) (ls : Array Slot) (H : Heap) (locs : List Loc), pb_it (T_L_law L xs) n (pc, lv, st, w) = some r → pb_lv ad ls 4 lv → va_P D vwCl (pb_mk cs ad w) H → va_D (fun q => s.heap.size ≤ q) (pb_mk cs ad w) → va_S (fun q => s.heap.size ≤ q) s.heap H locs → W p l e room_1 s m #[Value.ref b] below meth c H locs 130 53173 (lw_Z below #[Value.ref b] s) (F0 m pc ls (st.map (pb_cv ad))) := by
  obtain ⟨hx, hb, hr, hml, hown, hts, hX, hbl, hlocks, hgv⟩ := C0
  intro n
  induction n with
  | zero => intro pc lv st w ls H locs h; cases h
  | succ n ih =>
    intro pc lv st w ls H locs h hl hP hD hS
    rw [pb_it] at h
    dsimp only at h
    have S := S_L_law (Γ := (p, l, e, room_1, s, m, #[Value.ref b], below, meth, c, lw_Z below #[Value.ref b] s, 4, D, ad, cs, (fun q => s.heap.size ≤ q), (fun o => match o with | .inl q => q = r | .inr z => pb_it (T_L_law L xs) n z = some r), 130, 53173)) (b := b) (L := L) (xs := xs) rfl rfl ⟨hx, hb, hml, hown, fun w hw => hts w (List.mem_filter.mp hw).1, hK, hN, fun q h => h, hZ, by decide, by decide⟩ hX hbl (Nat.not_le.mpr hbl) had ⟨rfl, rfl, rfl⟩ hlocks hr ⟨show 130 ≤ 600000 by decide, show 53173 ≤ 7302250 by decide⟩ (fun q h => h) (fun pc lv st w ls H locs hg hl hP hD hS => ih pc lv st w ls H locs hg hl hP hD hS) pc
    cases hT : T_L_law L xs pc lv st w with
    | none => rw [hT] at h; cases h
    | some o =>
      refine S lv st w o ls H locs hT ?_ hl hP hD hS
      rw [hT] at h
      rcases o with q | z
      · exact Option.some.inj h
      · exact h
theorem pb_stat_ag {ad ad' : Nat → Nat} {A : Nat → Prop} {U : State} {H : Heap} (h : ∀ i, 200 ≤ i → ad' i = ad i) (hz : pb_stat ad A U H) : pb_stat ad' A U H := by
  have e1 : (fun i => ad' (300 + i)) = fun i => ad (300 + i) := funext fun i => h _ (by omega)
  have e2 : (fun i => ad' (310 + i)) = fun i => ad (310 + i) := funext fun i => h _ (by omega)
  have e3 : ad' 320 = ad 320 := h _ (by omega)
  unfold pb_stat at hz ⊢
  rw [e1, e2, e3]
  refine ⟨hz.1, fun q hq => ?_, hz.2.2⟩
  rw [h _ (by omega)]
  exact hz.2.1 q hq
set_option maxRecDepth 100000 in
theorem whole_start_of (PURE : ∀ (L : Nat) (xs : Nat → Int32), L ≤ 4096 → ∃ r, pb_run (T_L_law L xs) (18, [some (.ref 340), some (.ref 0), some (.ref 64), some (.int 0)], [], pb_w0) = some r) {p : Program} {e : Env} {s : State} {m : MethodId} {below : List Frame} {meth : Method} {c : Code} (l : Launch) {b L : Nat} {xs : Nat → Int32} (hL : L ≤ 4096) (C0 : lw_At p s m meth c b L xs) : W p l e room_1 s m #[Value.ref b] below meth c s.heap [] 0 0 (lw_Z below #[Value.ref b] s) (entryFrame m ([Value.ref b] : List Value).toArray 4) := by
  obtain ⟨hx, hb, hr, hml, hown, hts, hX, hbl, hlocks, hgv⟩ := id C0
  have htp : ∀ w ∈ pb_tbl, w.before #[Value.ref b] s = true := fun w hw => hts w (List.mem_filter.mp hw).1
  obtain ⟨ad0, had0, hZ0⟩ := pb_start_stat hts hgv
  obtain ⟨c0, i0, hKn0⟩ := u_known (C := RX0) (T := TX0) (N := 8) (n := 8) htp u_X0 (htp (.instantiable RX0 8) m_1_221)
  obtain ⟨c1, i1, hKn1⟩ := u_known (C := RX1) (T := TX1) (N := 20) (n := 20) htp u_X1 (htp (.instantiable RX1 20) m_1_51)
  obtain ⟨c2, i2, hKn2⟩ := u_known (C := RX2) (T := TX2) (N := 7) (n := 7) htp u_X2 (htp (.instantiable RX2 7) m_2_210)
  obtain ⟨c3, i3, hKn3⟩ := u_known (C := RX3) (T := TX3) (N := 6) (n := 6) htp u_X3 (htp (.instantiable RX3 6) m_2_102)
  obtain ⟨c4, i4, hKn4⟩ := u_known (C := RX4) (T := TX4) (N := 6) (n := 6) htp u_X4 (htp (.instantiable RX4 6) m_2_128)
  obtain ⟨c5, i5, hKn5⟩ := u_known (C := RX5) (T := TX5) (N := 19) (n := 19) htp u_X5 (htp (.instantiable RX5 19) m_1_153)
  obtain ⟨c6, i6, hKn6⟩ := u_known (C := RX6) (T := TX6) (N := 13) (n := 13) htp u_X6 (htp (.instantiable RX6 13) m_2_13)
  obtain ⟨c7, i7, hKn7⟩ := u_known (C := RX7) (T := TX7) (N := 10) (n := 10) htp u_X7 (htp (.instantiable RX7 10) m_2_62)
  obtain ⟨c8, i8, hKn8⟩ := u_known (C := RX8) (T := TX8) (N := 3) (n := 3) htp u_X8 (htp (.instantiable RX8 3) m_1_33)
  obtain ⟨c9, i9, hKn9⟩ := u_known (C := RX9) (T := TX9) (N := 7) (n := 7) htp u_X9 (htp (.instantiable RX9 7) m_2_156)
  obtain ⟨c10, i10, hKn10⟩ := u_known (C := RX10) (T := TX10) (N := 5) (n := 5) htp u_X10 (htp (.instantiable RX10 5) m_2_186)
  obtain ⟨c11, i11, hKn11⟩ := u_known (C := RX11) (T := TX11) (N := 14) (n := 14) htp u_X11 (htp (.instantiable RX11 14) m_1_25)
  obtain ⟨c12, i12, hKn12⟩ := u_known (C := RX12) (T := TX12) (N := 101) (n := 101) htp u_X12 (htp (.instantiable RX12 101) m_6_146)
  obtain ⟨a0, ka0, ca0, ha0, hb0, hc0⟩ := Cond.arrayClass_spec (htp (.arrayClass .int) m_arr_int)
  obtain ⟨a1, ka1, ca1, ha1, hb1, hc1⟩ := Cond.arrayClass_spec (htp (.arrayClass .boolean) m_arr_boolean)
  obtain ⟨a2, ka2, ca2, ha2, hb2, hc2⟩ := Cond.arrayClass_spec (htp (.arrayClass .byte) m_arr_byte)
  obtain ⟨a3, ka3, ca3, ha3, hb3, hc3⟩ := Cond.arrayClass_spec (htp (.arrayClass .long) m_arr_long)
  have hN : ∀ w ∈ pb_nests, va_Nw w s := fun w hw => by
    have h2 := (List.mem_filter.mp hw).2
    have h1 := hts w (List.mem_filter.mp hw).1
    cases w <;> simp [pb_isNest] at h2 <;> exact va_tabs rfl (rfl : s.vm = s.vm) h1
  have hK : va_K (fun k => [c0, c1, c2, c3, c4, c5, c6, c7, c8, c9, c10, c11, c12].getD k c0, fun k => [i0, i1, i2, i3, i4, i5, i6, i7, i8, i9, i10, i11, i12].getD k i0) vwCl (pb_tys (fun t => [a0, a1, a2, a3].getD t a0)) s := by
    refine ⟨fun k q hq => ?_, fun k q hq => ?_⟩
    · match k, hq with
      | 0, hq => cases hq; exact hKn0
      | 1, hq => cases hq; exact hKn1
      | 2, hq => cases hq; exact hKn2
      | 3, hq => cases hq; exact hKn3
      | 4, hq => cases hq; exact hKn4
      | 5, hq => cases hq; exact hKn5
      | 6, hq => cases hq; exact hKn6
      | 7, hq => cases hq; exact hKn7
      | 8, hq => cases hq; exact hKn8
      | 9, hq => cases hq; exact hKn9
      | 10, hq => cases hq; exact hKn10
      | 11, hq => cases hq; exact hKn11
      | 12, hq => cases hq; exact hKn12
      | k + 13, hq => simp [vwCl] at hq
    · match k, hq with
      | 0, hq => cases hq; exact ⟨fun n z => ⟨fun k h => by (cases h), ka0, hb0, ca0, hc0⟩, ha0⟩
      | 1, hq => cases hq; exact ⟨fun n z => ⟨fun k h => by (cases h), ka1, hb1, ca1, hc1⟩, ha1⟩
      | 2, hq => cases hq; exact ⟨fun n z => ⟨fun k h => by (cases h), ka2, hb2, ca2, hc2⟩, ha2⟩
      | 3, hq => cases hq; exact ⟨fun n z => ⟨fun k h => by (cases h), ka3, hb3, ca3, hc3⟩, ha3⟩
      | k + 4, hq => simp [pb_tys] at hq
  obtain ⟨r, hrun⟩ := PURE L xs hL
  obtain ⟨n, hn⟩ := pb_run_iff.mp hrun
  generalize hD : ((fun k => [c0, c1, c2, c3, c4, c5, c6, c7, c8, c9, c10, c11, c12].getD k c0, fun k => [i0, i1, i2, i3, i4, i5, i6, i7, i8, i9, i10, i11, i12].getD k i0) : va_G) = D at hK
  generalize hcs : (fun t => [a0, a1, a2, a3].getD t a0) = cs at hK
  have S := S2_L_law (Γ := (p, l, e, room_1, s, m, #[Value.ref b], below, meth, c, lw_Z below #[Value.ref b] s, 4, D, cs, (fun q => s.heap.size ≤ q), ad0, 0, (pb_E0, [some (.ref 340), some (.ref 0), some (.ref 64), some (.int 0)], []))) rfl rfl ⟨hx, hb, hml, hown, htp, hK, hN, fun q h => h⟩ (fun ls H locs ad hl hP hD hS hag => by
    rw [pb_me_mk pb_E0_sh pb_E0_good] at hP hD
    exact law_key C0 hK hN (pb_stat_ag (fun i hi => hag i (Or.inr hi)) hZ0) ((hag 340 (Or.inr (by decide))).trans had0) r n 18 _ [] pb_w0 ls H locs hn hl hP hD hS)
  have hl := lv_entry ([Value.ref b]) (n := 4) (Nat.le_of_ble_eq_true rfl)
  rw [lg_entry_eq]
  have hl2 : pb_lv ad0 ((lg_sl [Value.ref b] ++ List.replicate (4 - (lg_sl [Value.ref b]).length) Slot.unset).toArray) 4 (pb_ini 4 [.ref 340]) := ⟨hl.1, hl.2.1, fun i v hi => by
    have := pb_ini_at ad0 [.ref 340] 4 0 i v hi
    rw [Nat.zero_add] at this
    have e0 : ([Value.ref 340].map (pb_cv ad0)) = [Value.ref b] := by simp [pb_cv, had0]
    rw [e0] at this
    exact hl.2.2 _ this⟩
  exact S (pb_ini 4 [.ref 340]) [] [] 0 0 _ s.heap [] ad0 pb_made hl2 (fun k q h => by simp [pb_me] at h) ⟨fun i j p q h => by simp [pb_me] at h, fun k q h => by simp [pb_me] at h⟩ va_S.rf (fun _ _ => rfl) (Nat.le_refl 0)
