/-! ===== EDITION: both ===== -/
theorem ms_id (u : pb_W) : u = ms u (u.1 64) (u.1 98) (u.1 99) (u.1 100) (u.1 101) := by
  unfold ms
  rw [pw_Fid, show u.1 98 = u.1 98 from rfl, pw_Fid, pw_Fid, pw_Fid, pw_Fid]
theorem ms_83 (b : pb_W) (B S O P Q : Nat → Int32) (F : Nat → Int32) : pb_wF (ms b B S O P Q) 83 F = ms (pb_wF b 83 F) B S O P Q := by
  refine Prod.ext (funext fun d => ?_) rfl
  unfold ms
  rw [pw_F1, pw_F1, pw_F1, pw_F1, pw_F1, pw_F1, pw_F1, pw_F1, pw_F1, pw_F1, pw_F1, pw_F1]
  by_cases q : d = 83
  · subst q; rfl
  · rw [if_neg q, if_neg q]
theorem ed_ref {cb u w0 : pb_W} {T : Nat → Int32} {n n0 : Nat} {su br te : Int32} (hc22 : cb.1 22 = T) (hb : ∀ k, bY (T k)) (hC : CW cb T n 0 w0 0 su br te [] [] 0) (h82 : u.1 82 = T) (h28 : u.1 64 28 = nI n0) (hn : n ≤ n0) (hn0 : n0 ≤ 600) {E kE gE : Nat} (hE : E ≤ 4) (hkE : kE ≤ 1200) (hgE : gE ≤ 2400) (h37 : u.1 64 37 = nI E) (h38 : u.1 64 38 = nI gE) (h39 : u.1 64 39 = nI kE) : EdOut cb u E kE gE (crun 0 w0) (M_X12_edition [.ref 64, .int (nI n)] u) := by
  have E6 : pb_in (nI E) 6 := pn_in (by omega) (by decide)
  have Ec : (nI E).toNatClampNeg = E := nI_clamp (by omega)
  rw [e_X12_edition, if_neg (show ¬ nI n < (0 : Int32) from nI_nlt (b := 0) (Nat.zero_le n) (by omega)), h28, if_neg (show ¬ nI n0 < nI n from nI_nlt hn (by omega)), h37, if_neg (show ¬ nI E = (5 : Int32) from fun y => by have := (nI_eq (b := 5) (show E < 2 ^ 31 by omega) (by decide)).mp y; omega)]
  rw [show (0 : Int32) = nI 0 from rfl, ed_copy (by omega) n 0 (pb_wI u 64 29 (nI n)) (by omega) (fun k => by rw [show (pb_wI u 64 29 (nI n)).1 82 = u.1 82 from rfl, h82]; exact hb k), r_X12_edition_39, if_neg (show ¬ nI n < nI n from nI_nlt (Nat.le_refl n) (by omega))]
  rw [show (0 : Int32) = nI 0 from rfl]
  generalize hF : (fun k => if 0 ≤ k ∧ k < n then (pb_wI u 64 29 (nI n)).1 82 k else (pb_wI u 64 29 (nI n)).1 83 k) = F
  have F1 : ∀ k, k < n → F k = T k := by
    intro k hk
    rw [← hF]
    show (if 0 ≤ k ∧ k < n then u.1 82 k else u.1 83 k) = T k
    rw [if_pos ⟨Nat.zero_le k, hk⟩, h82]
  rw [show (pb_wF (pb_wI u 64 29 (nI n)) 83 F).1 64 37 = nI E from h37, if_pos E6, Ec, show (pb_wF (pb_wI u 64 29 (nI n)) 83 F).1 64 38 = nI gE from h38, show (pb_wF (pb_wI u 64 29 (nI n)) 83 F).1 64 39 = nI kE from h39]
  have W : pb_wI (pb_wI (pb_wI (pb_wI (pb_wI (pb_wF (pb_wI u 64 29 (nI n)) 83 F) 64 28 (nI 0)) 64 36 (nI 0)) 64 35 (-1 : Int32)) 64 32 (nI 0)) 84 E (nI 0) = ms (pb_wI (pb_wF u 83 F) 84 E (nI 0)) (upd (upd (upd (upd (upd (u.1 64) 29 (nI n)) 28 (nI 0)) 36 (nI 0)) 35 (-1)) 32 (nI 0)) (u.1 98) (u.1 99) (u.1 100) (u.1 101) := by
    have h := ms_id u
    rw [show pb_wI u 64 29 (nI n) = ms u (upd (u.1 64) 29 (nI n)) (u.1 98) (u.1 99) (u.1 100) (u.1 101) by
      conv => lhs; rw [h]
      rw [ms_B], ms_83, ms_B, ms_B, ms_B, ms_B, ms_b _ _ _ _ _ _ 84 _ _ (by decide)]
  rw [W]
  have X : TX (pb_wI (pb_wF u 83 F) 84 E (nI 0)) T n := ⟨by omega, fun k hk => F1 k hk, hb⟩
  obtain ⟨B', y1, y2, y3⟩ := ms_next (b := pb_wI (pb_wF u 83 F) 84 E (nI 0)) (n := n) (e := 0) (B := upd (upd (upd (upd (upd (u.1 64) 29 (nI n)) 28 (nI 0)) 36 (nI 0)) 35 (-1)) 32 (nI 0)) (S := u.1 98) (O := u.1 99) (P := u.1 100) (Q := u.1 101) X rfl rfl ⟨rfl, rfl⟩ (Nat.zero_le n)
  rw [y1, pb_bV_some, show (ms (pb_wI (pb_wF u 83 F) 84 E (nI 0)) B' (u.1 98) (u.1 99) (u.1 100) (u.1 101)).1 64 30 = nI (tyK (tK T n 0)) from y2.2.1]
  have SR := sim_rules (cb := cb) (rb0 := pb_wI (pb_wF u 83 F) 84 E (nI 0)) (E := E) (kE := kE) (gE := gE) (i0 := 0) (w0 := w0) (B0 := upd (upd (upd (upd (upd (u.1 64) 29 (nI n)) 28 (nI 0)) 36 (nI 0)) 35 (-1)) 32 (nI 0)) (S0 := u.1 98) (O0 := u.1 99) (P0 := u.1 100) (Q0 := u.1 101) X hc22 hE hkE hgE h37 rfl (n - 0) [] 0 0 kE gE w0 _ su br te B' (u.1 98) (u.1 99) (u.1 100) (u.1 101) rfl rfl (Nat.zero_le n) (Nat.le_refl 0) hC (Nat.le_refl 0) y2 ((y3 38 (by decide) (by decide) (by decide) (by decide)).trans h38) ((y3 39 (by decide) (by decide) (by decide) (by decide)).trans h39) (Nat.le_refl _) (Nat.le_refl _) (by show 2 * (kE - kE) ≤ 0; omega) (Nat.le_refl _) (by show (if E = E then nI 0 else _) = nI 0; exact if_pos rfl) (Nat.zero_le _) (sameO y3) ⟨fun _ _ _ => rfl, fun _ _ _ => rfl⟩ (fun _ _ => ⟨rfl, rfl⟩) (fun r hr => absurd hr (Nat.not_lt_zero r))
  have fin : ∀ R, EdOut cb (ms (pb_wI (pb_wF u 83 F) 84 E (nI 0)) (upd (upd (upd (upd (upd (u.1 64) 29 (nI n)) 28 (nI 0)) 36 (nI 0)) 35 (-1)) 32 (nI 0)) (u.1 98) (u.1 99) (u.1 100) (u.1 101)) E kE gE (crun 0 w0) R → EdOut cb u E kE gE (crun 0 w0) R := by
    intro R h
    have G : FE kE gE E u (ms (pb_wI (pb_wF u 83 F) 84 E (nI 0)) (upd (upd (upd (upd (upd (u.1 64) 29 (nI n)) 28 (nI 0)) 36 (nI 0)) 35 (-1)) 32 (nI 0)) (u.1 98) (u.1 99) (u.1 100) (u.1 101)) := by
      refine ⟨fun c j q => ?_, fun _ _ _ => rfl⟩
      unfold FEi at q
      rw [← W, pw_I1]
      by_cases c1 : c = 84
      · subst c1
        rw [if_pos rfl, pu_at, if_neg (by omega)]
        rfl
      · rw [if_neg c1, pw_I1]
        by_cases c2 : c = 64
        · subst c2
          rw [if_pos rfl, pu_at, if_neg (by omega), pw_I1, if_pos rfl, pu_at, if_neg (by omega), pw_I1, if_pos rfl, pu_at, if_neg (by omega), pw_I1, if_pos rfl, pu_at, if_neg (by omega), pw_F1, if_neg (by decide), pw_I1, if_pos rfl, pu_at, if_neg (by omega)]
        · rw [if_neg c2, pw_I1, if_neg c2, pw_I1, if_neg c2, pw_I1, if_neg c2, pw_F1, if_neg (by omega), pw_I1, if_neg c2]
    rcases h with ⟨kd, p, u', a1, a2, a3, a4, a5, a6, a7, a8, a9, a10, a11, a12, a13⟩ | ⟨rs, k', g', u', a1, a2, a3, a4, a5, a6, a7, a8, a9, a10, a11, a12, a13, a14, a15, a16, a17, a18, a19⟩
    · exact Or.inl ⟨kd, p, u', a1, a2, a3, a4, a5, a6, a7, a8, a9, a10, a11, a12, FE_tr G a13⟩
    · exact Or.inr ⟨rs, k', g', u', a1, a2, a3, a4, a5, a6, a7, a8, a9, a10, a11, a12, a13, a14, a15, a16, a17, a18, FE_tr G a19⟩
  refine fin _ ?_
  by_cases z : tK T n 0 = 15
  · rw [if_pos z] at SR
    rw [if_pos (show nI (tyK (tK T n 0)) = nI 0 by rw [ty_0.mpr z])]
    exact SR
  · rw [if_neg z] at SR
    have ty4 : tyK (tK T n 0) ≤ 4 := by unfold tyK; split; omega; split; omega; split; omega; split <;> omega
    rw [if_neg (show ¬ nI (tyK (tK T n 0)) = nI 0 from nI_ne0 (Nat.pos_of_ne_zero (fun y => z (ty_0.mp y))) (by omega))]
    exact SR
