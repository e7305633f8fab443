/-! ===== EVALUATION: the reference sorts a line out ===== -/
abbrev fI_so : Nat → Nat → Prop := fun c k => c = 64 ∧ 61 ≤ k ∧ k ≤ 63
abbrev fJ_so : Nat → Nat → Prop := fun c _ => c = 102 ∨ c = 103
theorem RRep_I {w : pb_W} {x km gm : Nat} {r : Rl} {k : Nat} {v : Int32} (h : RRep w (w.1 98) (w.1 99) x r km gm) : RRep (pb_wI w 64 k v) ((pb_wI w 64 k v).1 98) ((pb_wI w 64 k v).1 99) x r km gm := RRep_fr h (fun c c1 c2 => by rw [pw_I1, if_neg (by omega)]) (fun c j c1 c2 _ => by rw [pw_I1, if_neg (by omega)]) (fun j _ => rfl) (Nat.le_refl _) (Nat.le_refl _) (fun j _ => ⟨rfl, rfl⟩)
theorem EvR_I {w : pb_W} {l k : Nat} {ev : Ev} {v : Int32} (h : EvR w l ev) : EvR (pb_wI w 64 k v) l ev := h
theorem pw_IG (w : pb_W) (c k d : Nat) (v : Int32) (K : Nat → Int64) : pb_wI (pb_wG w d K) c k v = pb_wG (pb_wI w c k v) d K := Prod.ext rfl rfl
theorem sort_end {w : pb_W} {l E i N : Nat} (hE : E ≤ 5) (hN : N < 2 ^ 31) (hi : i < 2 ^ 31) (h84 : w.1 84 E = nI N) (h : N ≤ i ∨ w.1 64 61 ≠ -1) : pb_run T_X12_sortOut (71, [some (.ref 64), some (.int (nI l)), some (.int (nI E)), some (.int (nI i)), none], [], w) = some (none, w) := by
  rw [r_X12_sortOut_71, if_pos (pn_in (show E < 6 by omega) (by decide)), nI_clamp (show E < 2 ^ 31 by omega), h84]
  by_cases q : i < N
  · rw [if_pos (nI_lt q hN), if_neg (h.resolve_left (by omega))]
  · rw [if_neg (nI_nlt (by omega) hi)]
theorem mx_sort_go {ev : Ev} {l E km gm : Nat} (hl : l < 200) (hE : E ≤ 4) (hkm : km ≤ 1500) (hgm : gm < 4000) : ∀ (rs : List Rl) (i : Nat) (w : pb_W) (K : Nat → Int64), i + rs.length ≤ 30 → w.1 84 E = nI (i + rs.length) → w.1 64 61 = -1 → w.1 64 62 = 0 → w.1 64 63 = 1 → EvR w l ev → (∀ r, r < rs.length → RRep w (w.1 98) (w.1 99) (30 * E + i + r) (rs.getD r dR) km gm) → ∃ w', pb_run T_X12_sortOut (71, [some (.ref 64), some (.int (nI l)), some (.int (nI E)), some (.int (nI i)), none], [], pb_wG w 103 K) = some (none, w') ∧ w'.1 64 61 = (vrd ev rs i).1 ∧ w'.1 64 62 = (vrd ev rs i).2.1 ∧ w'.1 64 63 = (vrd ev rs i).2.2 ∧ fr fI_so fJ_so w w'
  | [], i, w, K, h30, h84, h61, h62, h63, hv, hR => by
    refine ⟨pb_wG w 103 K, sort_end (N := i) (by omega) (by rw [List.length_nil] at h30; omega) (by rw [List.length_nil] at h30; omega) h84 (Or.inl (Nat.le_refl _)), h61, h62, h63, fr_G (fr_rf w) (fun k => by simp [fJ_so])⟩
  | r :: rs, i, w, K, h30, h84, h61, h62, h63, hv, hR => by
    rw [List.length_cons] at h30
    have x186 : pb_in (nI (30 * E + i)) 186 := pn_in (by omega) (by decide)
    have xc : (nI (30 * E + i)).toNatClampNeg = 30 * E + i := nI_clamp (by omega)
    have xe : (30 : Int32) * nI E + nI i = nI (30 * E + i) := by rw [show (30 : Int32) * nI E = nI (30 * E) from pn_mul 30 E, nI_add]
    have R0 := hR 0 (by rw [List.length_cons]; omega)
    have R0 : RRep w (w.1 98) (w.1 99) (30 * E + i) r km gm := R0
    have R0' := R0
    obtain ⟨f, h, a1, a2, a3, a4, a5, a6, a7, a8, a9, a10, a11, a12, a13, a14⟩ := R0
    obtain ⟨K1, m1⟩ := mx_holds hl hv hgm a13 (by omega) a8 K
    have eL : i + (r :: rs).length = i + 1 + rs.length := by rw [List.length_cons]; omega
    have e84 : (pb_wG w 103 K).1 84 E = nI (i + (r :: rs).length) := h84
    rw [r_X12_sortOut_71, if_pos (pn_in (show E < 6 by omega) (by decide)), nI_clamp (show E < 2 ^ 31 by omega), e84, if_pos (nI_lt (by rw [List.length_cons]; omega) (by rw [List.length_cons]; omega)), show (pb_wG w 103 K).1 64 61 = -1 from h61, if_pos rfl, xe]
    simp only [if_pos x186, xc]
    rw [show (pb_wG w 103 K).1 85 (30 * E + i) = nI f from a1, show (pb_wG w 103 K).1 86 (30 * E + i) = nI (f + r.1.length) from a2, m1, pb_bI_some, vrd, nI_1]
    cases ht : tv ev r.1 with
    | false =>
      rw [if_pos (show b01 false = 0 from rfl), if_neg (show ¬ false = true by decide)]
      refine mx_sort_go hl hE hkm hgm rs (i + 1) w K1 (by omega) (by rw [← eL]; exact h84) h61 h62 h63 hv (fun j hj => ?_)
      have := hR (j + 1) (by rw [List.length_cons]; omega)
      rw [show 30 * E + (i + 1) + j = 30 * E + i + (j + 1) by omega]
      exact this
    | true =>
      rw [if_neg (show ¬ b01 true = 0 by decide), if_pos rfl]
      have v1 : ∀ i', i' < 4 → (pb_wI w 64 61 (nI i)).2 102 i' = ev.1 i' := hv.1
      obtain ⟨K2, m2⟩ := mx_work (w := pb_wI w 64 61 (nI i)) v1 a11 a9 (by omega) K1
      have ik : nI i ≠ (-1 : Int32) := pn_m1 i (by omega)
      rw [pw_IG, show (pb_wG w 103 K1).1 87 (30 * E + i) = nI h from a3, show (pb_wG w 103 K1).1 88 (30 * E + i) = nI (h + r.2.1.length) from a4, m2, pb_bL_some, show (pb_wG (pb_wI w 64 61 (nI i)) 103 K2).1 88 (30 * E + i) = nI (h + r.2.1.length) from a4, show (pb_wG (pb_wI w 64 61 (nI i)) 103 K2).1 89 (30 * E + i) = nI (h + r.2.1.length + r.2.2.length) from a5, pw_IG]
      by_cases qu : r.2.2 = []
      · rw [if_pos qu, qu, if_neg (show ¬ nI (h + r.2.1.length) < nI (h + r.2.1.length + [].length) from nI_nlt (Nat.le_refl _) (by omega))]
        refine ⟨_, sort_end (N := i + (r :: rs).length) (by omega) (by rw [List.length_cons]; omega) (by omega) h84 (Or.inr ik), rfl, rfl, h63, ?_⟩
        exact fr_G (fr_I (fr_I (fr_rf w) (by simp [fI_so])) (by simp [fI_so])) (fun k => by simp [fJ_so])
      · have ul : 0 < r.2.2.length := List.length_pos_iff.mpr qu
        have hu := a12.resolve_left qu
        obtain ⟨K3, m3⟩ := mx_work (w := pb_wI (pb_wI w 64 61 (nI i)) 64 62 (clK (wv ev.1 r.2.1))) v1 hu a10 (by omega) K2
        unfold clK at m3
        rw [if_neg qu, if_pos (show nI (h + r.2.1.length) < nI (h + r.2.1.length + r.2.2.length) from nI_lt (by omega) (by omega)), m3, pb_bL_some, pw_IG]
        refine ⟨_, sort_end (N := i + (r :: rs).length) (by omega) (by rw [List.length_cons]; omega) (by omega) h84 (Or.inr ik), rfl, rfl, rfl, ?_⟩
        exact fr_G (fr_I (fr_I (fr_I (fr_rf w) (by simp [fI_so])) (by simp [fI_so])) (by simp [fI_so])) (fun k => by simp [fJ_so])
/-- what a line is, at some pence -/
def evp (w : pb_W) (l : Nat) (p : Int32) : Ev := (fun i => if i = 0 then p.toInt64 else if i = 1 then (w.1 9 l).toInt64 else if i = 2 then (w.1 9 l / (52 : Int32)).toInt64 else (w.1 10 l).toInt64, fun n => decide (w.2 14 (3 * l) = lN n ∨ w.2 14 (3 * l + 1) = lN n ∨ w.2 14 (3 * l + 2) = lN n), decide (w.1 12 l ≠ 0))
/-- lines as sorting needs them -/
def LSo (w : pb_W) (n : Nat) : Prop := w.1 71 = w.1 9 ∧ w.1 72 = w.1 10 ∧ w.1 81 = w.1 12 ∧ w.2 79 = w.2 14 ∧ ∀ k, k < n → w.1 12 k = 0 ∨ w.1 12 k = 1
theorem mx_sortOut {w : pb_W} {n l E : Nat} {Es : List (List Rl)} (hL : iv_L w) (hN : LN w n) (hS : LSo w n) (hl : l < n) (hE : EI w Es) (hEl : E < Es.length) : ∃ w', M_X12_sortOut [.ref 64, .int (nI l), .int (nI E)] w = some (none, w') ∧ w'.1 64 61 = (vrd (evp w l (w.1 16 l)) (Es.getD E []) 0).1 ∧ w'.1 64 62 = (vrd (evp w l (w.1 16 l)) (Es.getD E []) 0).2.1 ∧ w'.1 64 63 = (vrd (evp w l (w.1 16 l)) (Es.getD E []) 0).2.2 ∧ fr fI_so fJ_so w w' := by
  obtain ⟨k, g, b1, b2, b3, b4, b5, b6, b7, b8⟩ := hE
  obtain ⟨c1, c2, c3, c4, c5, c6⟩ := b8 E hEl
  have n2 := hN.le
  have l2 : pb_in (nI l) 200 := pn_in (by omega) (by decide)
  have lc : (nI l).toNatClampNeg = l := nI_clamp (by omega)
  rw [e_X12_sortOut, M_penceOf hL (fun m hm _ => by have := (nI_eq (by omega) (by omega)).mp (hN.n5.symm.trans hm); omega), pb_bI_some, if_pos l2, if_pos l2, if_pos l2, lc]
  obtain ⟨s1, s2, s3, s4, s5⟩ := hS
  generalize hw1 : pb_wI (pb_wI (pb_wI (pb_wL (pb_wL (pb_wL (pb_wL w 102 ((0 : Int32)).toNatClampNeg ((w.1 16 l).toInt64)) 102 ((1 : Int32)).toNatClampNeg ((w.1 71 l).toInt64)) 102 ((2 : Int32)).toNatClampNeg ((w.1 71 l / (52 : Int32)).toInt64)) 102 ((3 : Int32)).toNatClampNeg ((w.1 72 l).toInt64)) 64 61 (-1 : Int32)) 64 62 (0 : Int32)) 64 63 (1 : Int32) = w1
  have F : fr fI_so fJ_so w w1 := by
    rw [← hw1]
    exact fr_I (fr_I (fr_I (fr_L (fr_L (fr_L (fr_L (fr_rf w) (by simp [fJ_so])) (by simp [fJ_so])) (by simp [fJ_so])) (by simp [fJ_so])) (by simp [fI_so])) (by simp [fI_so])) (by simp [fI_so])
  have hv : EvR w1 l (evp w l (w.1 16 l)) := by
    refine ⟨fun i hi => ?_, fun m => ?_, ?_⟩
    · rw [← hw1]
      have : i = 0 ∨ i = 1 ∨ i = 2 ∨ i = 3 := by omega
      rcases this with rfl | rfl | rfl | rfl
      · rfl
      · show (w.1 71 l).toInt64 = (w.1 9 l).toInt64
        rw [s1]
      · show (w.1 71 l / (52 : Int32)).toInt64 = (w.1 9 l / (52 : Int32)).toInt64
        rw [s1]
      · show (w.1 72 l).toInt64 = (w.1 10 l).toInt64
        rw [s2]
    · rw [show w1.2 79 = w.2 79 from fr_2 F 79 (fun k => by simp [fJ_so]), s4]
      rfl
    · rw [show w1.1 81 = w.1 81 from fr_1 F 81 (fun k => by simp [fI_so]), s3]
      show w.1 12 l = b01 (decide (w.1 12 l ≠ 0))
      rcases s5 l hl with q | q
      · rw [q]; rfl
      · rw [q]; rfl
  obtain ⟨w', m1, m2, m3, m4, m5⟩ := mx_sort_go (ev := evp w l (w.1 16 l)) (l := l) (E := E) (km := k) (gm := g) (by omega) (by omega) (by omega) (by omega) (Es.getD E []) 0 w1 (w1.2 103) (by omega) (by rw [Nat.zero_add, ← c5]; exact F.1 84 E (by simp [fI_so])) (by rw [← hw1]; rfl) (by rw [← hw1]; rfl) (by rw [← hw1]; rfl) hv (fun r hr => RRep_fr (c6 r hr) (fun c c1 c2 => F.1 c _ (by show ¬ (_ ∧ _); omega)) (fun c j c1 c2 _ => F.1 c j (by show ¬ (_ ∧ _); omega)) (fun j _ => F.2 95 j (by simp [fJ_so])) (Nat.le_refl _) (Nat.le_refl _) (fun j _ => ⟨F.1 98 j (by simp [fI_so]), F.1 99 j (by simp [fI_so])⟩))
  rw [pw_G_self] at m1
  exact ⟨w', m1, m2, m3, m4, fr_tr F m5⟩
