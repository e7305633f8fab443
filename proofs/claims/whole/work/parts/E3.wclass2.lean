/-! ===== WEIGHTS: the class finds the nearest ===== -/
abbrev fI_wc : Nat → Nat → Prop := fun c k => (c = 57 ∧ k = 1) ∨ c = 58 ∨ c = 59 ∨ c = 60
abbrev fI_wd : Nat → Nat → Prop := fun c _ => c = 58 ∨ c = 59 ∨ c = 60
def FC (w : pb_W) (cl ld : Nat → Nat) (n : Nat) : Prop := ∀ f, f < n → w.1 6 f = nI (cl f) ∧ w.1 7 f = nI (ld f) ∧ cl f < 4 ∧ ld f < 4
theorem FC_fr {w v : pb_W} {cl ld : Nat → Nat} {n : Nat} (F : fr fI_wd fJ_no w v) (h : FC w cl ld n) : FC v cl ld n := fun f hf => by
  rw [F.1 6 f (by simp [fI_wd]), F.1 7 f (by simp [fI_wd])]
  exact h f hf
theorem Rb_le (cl ld : Nat → Nat) (M j : Nat) : ∀ f, 0 ≤ Rb cl ld M f j ∧ Rb cl ld M f j ≤ (M * f : Nat)
  | 0 => ⟨Int.le_refl 0, by simp [Rb]⟩
  | f + 1 => by
    obtain ⟨a, b⟩ := Rb_le cl ld M j f
    rw [Nat.mul_succ]
    show 0 ≤ Rb cl ld M f j + _ ∧ Rb cl ld M f j + _ ≤ _
    split <;> omega
theorem M_cell {v : pb_W} {cl ld : Nat → Nat} {n f : Nat} (h : FC v cl ld n) (hf : f < n) (hn : n ≤ 8) : M_X10_cellOf [.ref 57, .int (nI f)] v = some (some (.int (nI (4 * cl f + ld f))), v) := by
  obtain ⟨h1, h2, h3, h4⟩ := h f hf
  have f12 : pb_in (nI f) 12 := pn_in (by omega) (by decide)
  rw [e_X10_cellOf, if_pos f12, if_pos f12, nI_clamp (by omega), h1, h2, show (4 : Int32) = nI 4 from rfl, pn_mul, nI_add, Nat.mul_comm]
theorem cx_77 {n M f c l : Nat} {Lf R' : Nat → Int} {V0 : Int} (hn : n ≤ 8) (hM : M ≤ 4) (hf : f < n) (hc : c < 4) (hl : l < 4) (hV : -4000 ≤ V0 ∧ V0 ≤ 4000) (hb : ∀ t : Nat, t ≤ M → ∀ k, k < 8 → -200 ≤ dl Lf c l t k ∧ dl Lf c l t k ≤ 200) : ∀ r t v, t + r = M → LRw v (dl Lf c l t) R' → v.1 58 f = nI t → v.1 6 f = nI c → v.1 7 f = nI l → ∃ v', pb_run T_X10_findNearest (77, [some (.ref 57), some (.int (nI n)), some (.int (nI M)), some (.int (iI V0)), some (.int (nI f))], [], v) = pb_run T_X10_findNearest (48, [some (.ref 57), some (.int (nI n)), some (.int (nI M)), some (.int (iI V0)), some (.int (nI (f + 1)))], [], v') ∧ LRw v' (dl Lf c l (gT Lf R' c l V0 r t)) R' ∧ v'.1 58 f = nI (gT Lf R' c l V0 r t) ∧ (∀ g, g ≠ f → v'.1 58 g = v.1 58 g) ∧ fr fI_wd fJ_no v v' := by
  have f8 : pb_in (nI f) 8 := pn_in (by omega) (by decide)
  have f12 : pb_in (nI f) 12 := pn_in (by omega) (by decide)
  have fc : (nI f).toNatClampNeg = f := nI_clamp (by omega)
  have c8 : pb_in (nI c) 8 := pn_in (by omega) (by decide)
  have cc : (nI c).toNatClampNeg = c := nI_clamp (by omega)
  have l8 : pb_in (nI (4 + l)) 8 := pn_in (by omega) (by decide)
  have lc : (nI (4 + l)).toNatClampNeg = 4 + l := nI_clamp (by omega)
  have el : (4 : Int32) + nI l = nI (4 + l) := nI_add 4 l
  intro r
  induction r with
  | zero =>
    intro t v ht h h58 h6 h7
    refine ⟨v, ?_, h, h58, fun _ _ => rfl, fr_rf v⟩
    rw [r_X10_findNearest_77, if_pos f8, fc, h58, if_neg (show ¬ nI t < nI M from nI_nlt (by omega) (by omega)), nI_1]
  | succ r ih =>
    intro t v ht h h58 h6 h7
    have hR : ∀ j, j < 16 → 0 ≤ R' j ∧ R' j ≤ 32 := fun j hj => (h.2 j hj).2
    have vb := Vw_b (fun k hk => (h.1 k hk).2) hR
    have lt : iI V0 < iI (Vw (dl Lf c l t) R') ↔ V0 < Vw (dl Lf c l t) R' := iI_lt (by omega) (by omega) (by omega) (by omega)
    rw [r_X10_findNearest_77, if_pos f8, fc, h58, if_pos (show nI t < nI M from nI_lt (by omega) (by omega)), M_least h, pb_bI_some, nI_1, gT]
    by_cases q : V0 < Vw (dl Lf c l t) R'
    · rw [if_pos q, if_pos (lt.mpr q)]
      simp only [if_pos f8, if_pos f12, h6, h7, el, cc, lc, if_pos c8, if_pos l8, h58, nI_1]
      generalize hv' : pb_wI (pb_wI (pb_wI v 58 f (nI (t + 1))) 59 c (v.1 59 c - (1 : Int32))) 59 (4 + l) ((pb_wI (pb_wI v 58 f (nI (t + 1))) 59 c (v.1 59 c - (1 : Int32))).1 59 (4 + l) - (1 : Int32)) = v'
      have F : fr fI_wd fJ_no v v' := by
        rw [← hv']
        exact fr_I (fr_I (fr_I (fr_rf v) (by simp [fI_wd])) (by simp [fI_wd])) (by simp [fI_wd])
      have e59 : ∀ k, v'.1 59 k = if k = 4 + l then v.1 59 (4 + l) - 1 else if k = c then v.1 59 c - 1 else v.1 59 k := by
        intro k
        rw [← hv']
        show upd (upd (v.1 59) c (v.1 59 c - 1)) (4 + l) (upd (v.1 59) c (v.1 59 c - 1) (4 + l) - 1) k = _
        rw [pu_at, pu_at, pu_at, if_neg (show ¬ 4 + l = c by omega)]
      have e60 : v'.1 60 = v.1 60 := by rw [← hv']; rfl
      have e58 : ∀ g, v'.1 58 g = if g = f then nI (t + 1) else v.1 58 g := by
        intro g
        rw [← hv']
        rfl
      obtain ⟨x', a1, a2, a3, a4, a5⟩ := ih (t + 1) v' (by omega) ⟨fun k hk => by
          obtain ⟨g1, g2, g3⟩ := h.1 k hk
          have b := hb (t + 1) (by omega) k hk
          refine ⟨?_, b⟩
          rw [e59]
          have s : dl Lf c l ((t + 1 : Nat) : Int) k = dl Lf c l t k - (if k = c then 1 else 0) - (if k = 4 + l then 1 else 0) := by
            unfold dl
            split <;> split <;> omega
          rw [s]
          by_cases z1 : k = 4 + l
          · rw [if_pos z1, if_neg (show ¬ k = c by omega), if_pos z1, ← z1, g1, show (1 : Int32) = iI 1 from rfl, iI_sub, Int.sub_zero]
          · rw [if_neg z1, if_neg z1]
            by_cases z2 : k = c
            · rw [if_pos z2, if_pos z2, show v.1 59 c = v.1 59 k by rw [z2], g1, show (1 : Int32) = iI 1 from rfl, iI_sub, Int.sub_zero]
            · rw [if_neg z2, if_neg z2, g1, Int.sub_zero, Int.sub_zero], fun j hj => by rw [e60]; exact h.2 j hj⟩ (by rw [e58, if_pos rfl]) (by rw [F.1 6 f (by simp [fI_wd])]; exact h6) (by rw [F.1 7 f (by simp [fI_wd])]; exact h7)
      exact ⟨x', a1, a2, a3, fun g hg => (a4 g hg).trans (by rw [e58, if_neg hg]), fr_tr F a5⟩
    · rw [if_neg q, if_neg (fun z => q (lt.mp z))]
      exact ⟨v, rfl, h, h58, fun _ _ => rfl, fr_rf v⟩
theorem LgF_b {cl ld : Nat → Nat} {m : Nat → Int} {n M : Nat} {V0 : Int} (hM : M ≤ 4) : ∀ f k, m k - 8 * f ≤ LgF cl ld m n M V0 f k ∧ LgF cl ld m n M V0 f k ≤ m k
  | 0, k => ⟨by simp [LgF], Int.le_refl _⟩
  | f + 1, k => by
    obtain ⟨a, b⟩ := LgF_b (cl := cl) (ld := ld) (m := m) (n := n) (V0 := V0) hM f k
    have g := (gT_le (LgF cl ld m n M V0 f) (Rr cl ld M n (f + 1)) (cl f) (ld f) V0 M 0).2
    rw [LgF]
    unfold dl
    split <;> split <;> omega
theorem cx_48 {cl ld : Nat → Nat} {m : Nat → Int} {n M : Nat} {V0 : Int} (hn : n ≤ 8) (hM : M ≤ 4) (hm : ∀ k, k < 8 → 0 ≤ m k ∧ m k ≤ 100) (hV : -4000 ≤ V0 ∧ V0 ≤ 4000) : ∀ r f v, f + r = n → FC v cl ld n → LRw v (LgF cl ld m n M V0 f) (Rr cl ld M n f) → (∀ g, g < f → v.1 58 g = nI (wtF cl ld m n M V0 g)) → ∃ v', pb_run T_X10_findNearest (48, [some (.ref 57), some (.int (nI n)), some (.int (nI M)), some (.int (iI V0)), some (.int (nI f))], [], v) = some (some (.int (iI V0)), v') ∧ (∀ g, g < n → v'.1 58 g = nI (wtF cl ld m n M V0 g)) ∧ fr fI_wd fJ_no v v' := by
  intro r
  induction r with
  | zero =>
    intro f v hf hF h h58
    have hf : f = n := by omega
    subst hf
    refine ⟨v, ?_, h58, fr_rf v⟩
    rw [r_X10_findNearest_48, if_neg (show ¬ nI f < nI f from nI_nlt (Nat.le_refl _) (by omega))]
  | succ r ih =>
    intro f v hf hF h h58
    obtain ⟨c1, c2, c3, c4⟩ := hF f (by omega)
    have x16 : pb_in (nI (4 * cl f + ld f)) 16 := pn_in (by omega) (by decide)
    have xc : (nI (4 * cl f + ld f)).toNatClampNeg = 4 * cl f + ld f := nI_clamp (by omega)
    have f8 : pb_in (nI f) 8 := pn_in (by omega) (by decide)
    obtain ⟨r1, r2, r3⟩ := h.2 (4 * cl f + ld f) (by omega)
    rw [r_X10_findNearest_48, if_pos (show nI f < nI n from nI_lt (by omega) (by omega)), M_cell hF (by omega) hn, pb_bI_some, if_pos x16, if_pos x16, if_pos f8, xc, nI_clamp (show f < 2 ^ 31 by omega)]
    generalize hv1 : pb_wI (pb_wI v 60 (4 * cl f + ld f) (v.1 60 (4 * cl f + ld f) - nI M)) 58 f (0 : Int32) = v1
    have F1 : fr fI_wd fJ_no v v1 := by
      rw [← hv1]
      exact fr_I (fr_I (fr_rf v) (by simp [fI_wd])) (by simp [fI_wd])
    have e60 : ∀ j, v1.1 60 j = if j = 4 * cl f + ld f then v.1 60 (4 * cl f + ld f) - nI M else v.1 60 j := fun j => by rw [← hv1]; rfl
    have e59 : v1.1 59 = v.1 59 := by rw [← hv1]; rfl
    have e58 : ∀ g, v1.1 58 g = if g = f then 0 else v.1 58 g := fun g => by rw [← hv1]; rfl
    have Rb' : ∀ j, j < 16 → 0 ≤ Rr cl ld M n (f + 1) j ∧ Rr cl ld M n (f + 1) j ≤ 32 := fun j hj => by
      refine ⟨Rr_0 (by omega) j, ?_⟩
      have a := (h.2 j hj).2.2
      rw [Rr_s]
      unfold dr
      split <;> omega
    have h1 : LRw v1 (dl (LgF cl ld m n M V0 f) (cl f) (ld f) ((0 : Nat) : Int)) (Rr cl ld M n (f + 1)) := by
      rw [show ((0 : Nat) : Int) = 0 from rfl, dl_0]
      refine ⟨fun k hk => by rw [e59]; exact h.1 k hk, fun j hj => ⟨?_, Rb' j hj⟩⟩
      rw [e60, Rr_s]
      unfold dr
      by_cases z : j = 4 * cl f + ld f
      · rw [if_pos z, if_pos z, r1, iI_n (show M < 2 ^ 31 by omega), iI_sub, z]
      · rw [if_neg z, if_neg z, Int.sub_zero]
        exact (h.2 j hj).1
    obtain ⟨v2, a1, a2, a3, a4, a5⟩ := cx_77 (n := n) (M := M) (f := f) (c := cl f) (l := ld f) (Lf := LgF cl ld m n M V0 f) (R' := Rr cl ld M n (f + 1)) (V0 := V0) hn hM (by omega) c3 c4 hV (fun t ht k hk => by
      have b := LgF_b (cl := cl) (ld := ld) (m := m) (n := n) (V0 := V0) hM f k
      have d := hm k hk
      unfold dl
      split <;> split <;> omega) M 0 v1 (by omega) h1 (by rw [e58, if_pos rfl]; rfl) (by rw [F1.1 6 f (by simp [fI_wd])]; exact c1) (by rw [F1.1 7 f (by simp [fI_wd])]; exact c2)
    have F2 := fr_tr F1 a5
    obtain ⟨v', d1, d2, d3⟩ := ih (f + 1) v2 (by omega) (FC_fr F2 hF) a2 (fun g hg => by
      by_cases z : g = f
      · rw [z]; exact a3
      · rw [a4 g z, e58, if_neg z]
        exact h58 g (by omega))
    exact ⟨v', a1.trans d1, d2, fr_tr F2 d3⟩
theorem cx_15 {cl ld : Nat → Nat} {m : Nat → Int} {n M : Nat} (hn : n ≤ 8) (hM : M ≤ 4) (hm : ∀ k, k < 8 → 0 ≤ m k ∧ m k ≤ 100) : ∀ r f v, f + r = n → FC v cl ld n → (∀ k, k < 8 → v.1 59 k = iI (m k)) → (∀ j, j < 16 → v.1 60 j = iI (Rb cl ld M f j)) → ∃ v', pb_run T_X10_findNearest (15, [some (.ref 57), some (.int (nI n)), some (.int (nI M)), some (.int (nI f)), none], [], v) = some (some (.int (iI (Vw m (Rr cl ld M n 0)))), v') ∧ (∀ g, g < n → v'.1 58 g = nI (wtF cl ld m n M (Vw m (Rr cl ld M n 0)) g)) ∧ fr fI_wd fJ_no v v' := by
  intro r
  induction r with
  | zero =>
    intro f v hf hF h59 h60
    have hf : f = n := by omega
    subst hf
    have R0 : ∀ j, Rr cl ld M f 0 j = Rb cl ld M f j := fun j => by
      unfold Rr
      show Rb cl ld M f j - 0 = _
      omega
    have RB : ∀ j, 0 ≤ Rb cl ld M f j ∧ Rb cl ld M f j ≤ 32 := fun j => by
      have := Rb_le cl ld M j f
      have := Nat.mul_le_mul hM hn
      omega
    have LR : LRw v m (Rr cl ld M f 0) := ⟨fun k hk => ⟨h59 k hk, by have := hm k hk; omega, by have := hm k hk; omega⟩, fun j hj => by
      rw [R0]
      exact ⟨h60 j hj, RB j⟩⟩
    have vb := Vw_b (fun k hk => (LR.1 k hk).2) (fun j hj => (LR.2 j hj).2)
    obtain ⟨v', a1, a2, a3⟩ := cx_48 (cl := cl) (ld := ld) (m := m) (n := f) (M := M) (V0 := Vw m (Rr cl ld M f 0)) hn hM hm vb f 0 v (by omega) hF LR (fun g hg => absurd hg (Nat.not_lt_zero g))
    refine ⟨v', ?_, a2, a3⟩
    rw [r_X10_findNearest_15, if_neg (show ¬ nI f < nI f from nI_nlt (Nat.le_refl _) (by omega)), M_least LR, pb_bI_some]
    exact a1
  | succ r ih =>
    intro f v hf hF h59 h60
    obtain ⟨c1, c2, c3, c4⟩ := hF f (by omega)
    have x16 : pb_in (nI (4 * cl f + ld f)) 16 := pn_in (by omega) (by decide)
    have xc : (nI (4 * cl f + ld f)).toNatClampNeg = 4 * cl f + ld f := nI_clamp (by omega)
    rw [r_X10_findNearest_15, if_pos (show nI f < nI n from nI_lt (by omega) (by omega)), M_cell hF (by omega) hn, pb_bI_some, if_pos x16, if_pos x16, xc, nI_1]
    have F1 : fr fI_wd fJ_no v (pb_wI v 60 (4 * cl f + ld f) (v.1 60 (4 * cl f + ld f) + nI M)) := fr_I (fr_rf v) (by simp [fI_wd])
    obtain ⟨v', a1, a2, a3⟩ := ih (f + 1) (pb_wI v 60 (4 * cl f + ld f) (v.1 60 (4 * cl f + ld f) + nI M)) (by omega) (FC_fr F1 hF) h59 (fun j hj => by
      show upd (v.1 60) (4 * cl f + ld f) (v.1 60 (4 * cl f + ld f) + nI M) j = iI (Rb cl ld M f j + if j = 4 * cl f + ld f then (M : Int) else 0)
      rw [pu_at]
      by_cases z : j = 4 * cl f + ld f
      · rw [if_pos z, if_pos z, h60 _ (by omega), iI_n (show M < 2 ^ 31 by omega), iI_add, z]
      · rw [if_neg z, if_neg z, Int.add_zero]
        exact h60 j hj)
    exact ⟨v', a1, a2, fr_tr F1 a3⟩
theorem M_nearest {v : pb_W} {cl ld : Nat → Nat} {m : Nat → Int} {n M : Nat} (hn : n ≤ 8) (hM : M ≤ 4) (hm : ∀ k, k < 8 → 0 ≤ m k ∧ m k ≤ 100) (hF : FC v cl ld n) (h59 : ∀ k, k < 8 → v.1 59 k = iI (m k)) : ∃ v', M_X10_findNearest [.ref 57, .int (nI n), .int (nI M)] v = some (some (.int (iI (Vw m (Rr cl ld M n 0)))), v') ∧ (∀ g, g < n → v'.1 58 g = nI (wtF cl ld m n M (Vw m (Rr cl ld M n 0)) g)) ∧ v'.1 57 1 = nI n ∧ fr fI_wc fJ_no v v' := by
  rw [e_X10_findNearest, M_fill60, pb_bV_some]
  have F0 : fr fI_wc fJ_no v (pb_wF (pb_wI v 57 1 (nI n)) 60 (fun j => if j < 16 then 0 else (pb_wI v 57 1 (nI n)).1 60 j)) := fr_F (fr_I (fr_rf v) (by simp [fI_wc])) (fun k => by simp [fI_wc])
  have X := cx_15 (cl := cl) (ld := ld) (m := m) (n := n) (M := M) hn hM hm n 0 (pb_wF (pb_wI v 57 1 (nI n)) 60 (fun j => if j < 16 then 0 else (pb_wI v 57 1 (nI n)).1 60 j)) (by omega) (fun f hf => by rw [F0.1 6 f (by simp [fI_wc]), F0.1 7 f (by simp [fI_wc])]; exact hF f hf) h59 (fun j hj => by
    show (if j < 16 then (0 : Int32) else _) = iI 0
    rw [if_pos hj]
    rfl)
  obtain ⟨v', a1, a2, a3⟩ := X
  exact ⟨v', a1, a2, a3.1 57 1 (by simp [fI_wd]), fr_tr F0 (fr_mn a3 (fun c k q => Or.inr q) (fun c k q => q))⟩
