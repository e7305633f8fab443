theorem pb_ldcwS {p : Program} {l : Launch} {e : Env} {R : Room} {s : State} {m : MethodId} {args : Array Value} {below : List Frame} {meth : Method} {c : Code} {T : State} {locs : List Loc} {cells slots : Nat} (X : Stand p l e R s m args below meth c T locs cells slots) (hexec : p.tables.exec = Jvm.exec) {own text : String} {index : Nat} {a : Addr} (hown : s.vm.findClass own = some m.cls)
    (hconst : (Cond.stringRef own index text).before args s = true) (hev : (Term.string own index).eval args s none [] s = some (.ref a)) {g : JFrame} (hg : g.method = m) (hdg : decode c.code g.pc = .ok (.ldc_w index, 3)) :
    ∀ target, Steps p.tables e below (T.setTop { g with pc := g.pc + 3, stack := .ref a :: g.stack }) target → Steps p.tables e below (T.setTop g) target := by
  obtain ⟨k, cf, i, a', hk, hcf, hcp, -, hr, hev'⟩ := Cond.stringRef_spec hown hconst
  cases hev.symm.trans hev'
  obtain ⟨k', hk', he⟩ := X.warmed.alike.2.2 _ _ hk
  have hr' : k'.resolved[index]? = some (some (.string a)) := by
    rcases X.warmed.entry hk hk' index with h | ⟨h, -⟩
    · rw [h]; exact hr
    · rw [hr] at h; cases h
  intro target hrest
  subst hg
  jvm_step X.here [hexec, hdg, ldc_w.wp_string (e := e) (s := T) (f := g) X.here.top hk' (by rw [he]; exact hcf) hcp hr']
  exact hrest
theorem s_ldcSw {Γ : pb_G} {cc : ByteArray} {own : String} {pc : Nat} {κ : pb_C} (X : pb_X Γ cc own) {n i : Nat} {tx : String} (hd : decode cc pc = .ok (.ldc_w n, 3)) (hc : (own, n, tx, i) ∈ pb_srefs) (k : pb_Snd Γ (pc + 3) κ) : pb_Snd Γ pc (i_const (.ref (300 + i)) κ) := by
  obtain ⟨p, l, e, R, s, m, args, below, meth, c, Q, nL, D, ad, cs, A, good, kc, ks⟩ := Γ
  obtain ⟨hx, hb, hml, hown, hts, hK, hN, hA, hZ, hkc⟩ := X
  intro lv st w o ls H locs h hg hl hP hD hS
  have hk := k lv (.ref (300 + i) :: st) w o ls H locs h hg hl hP hD hS
  have hr := hZ.2.1 _ hc
  intro T hT X
  obtain ⟨t, a1, b1⟩ := hk T hT X
  exact ⟨t, pb_ldcwS X hx hown hr.1 hr.2 (g := F0 m pc ls (st.map (pb_cv ad))) rfl (by rw [hb]; exact hd) t a1, b1⟩
