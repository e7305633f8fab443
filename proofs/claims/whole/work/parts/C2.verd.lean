/-! ===== VERDICTS: packed and read again; all lines judged by an edition ===== -/
theorem i32_inj {a b : Int32} (h : a.toBitVec = b.toBitVec) : a = b := Int32.toBitVec_inj.mp h
theorem i32_tb (n : Nat) : (nI n).toBitVec = BitVec.ofNat 32 n := rfl
theorem i32_shl (n : Nat) {d : Nat} {D : Int32} (hD : D.toBitVec.smod 32 = BitVec.ofNat 32 d) (hd : d < 32) : nI n <<< D = nI (n * 2 ^ d) := by
  apply i32_inj
  rw [Int32.toBitVec_shiftLeft, i32_tb, i32_tb, hD]
  apply BitVec.eq_of_toNat_eq
  rw [BitVec.shiftLeft_eq', BitVec.toNat_shiftLeft, BitVec.toNat_ofNat, BitVec.toNat_ofNat, BitVec.toNat_ofNat, Nat.mod_eq_of_lt (show d < 2 ^ 32 by omega), Nat.shiftLeft_eq, Nat.mul_mod, Nat.mod_mod, ← Nat.mul_mod]
theorem i32_or {a b : Nat} (ha : a < 2 ^ 32) (hb : b < 2 ^ 32) : nI a ||| nI b = nI (a ||| b) := by
  apply i32_inj
  rw [Int32.toBitVec_or, i32_tb, i32_tb, i32_tb]
  apply BitVec.eq_of_toNat_eq
  rw [BitVec.toNat_or, BitVec.toNat_ofNat, BitVec.toNat_ofNat, BitVec.toNat_ofNat, Nat.mod_eq_of_lt ha, Nat.mod_eq_of_lt hb, Nat.mod_eq_of_lt (Nat.or_lt_two_pow ha hb)]
theorem i32_and {a b : Nat} (ha : a < 2 ^ 32) (hb : b < 2 ^ 32) : nI a &&& nI b = nI (a &&& b) := by
  apply i32_inj
  rw [Int32.toBitVec_and, i32_tb, i32_tb, i32_tb]
  apply BitVec.eq_of_toNat_eq
  rw [BitVec.toNat_and, BitVec.toNat_ofNat, BitVec.toNat_ofNat, BitVec.toNat_ofNat, Nat.mod_eq_of_lt ha, Nat.mod_eq_of_lt hb, Nat.mod_eq_of_lt (Nat.and_lt_two_pow _ hb)]
theorem i32_mask {n k : Nat} (hn : n < 2 ^ 32) (hk : k < 32) : nI n &&& nI (2 ^ k - 1) = nI (n % 2 ^ k) := by
  rw [i32_and hn (by have := wb_lt2 hk; omega), Nat.and_two_pow_sub_one_eq_mod]
theorem i32_shr {a d : Nat} {D : Int32} (hD : (D.toBitVec.smod 32).toNat = d) (h : a < 2 ^ 31) : nI a >>> D = nI (a / 2 ^ d) := by
  have hd : a / 2 ^ d ≤ a := Nat.div_le_self _ _
  apply Int32.toInt_inj.mp
  have e : (nI a >>> D).toInt = (nI a).toInt >>> d := by
    rw [← hD]
    exact BitVec.toInt_sshiftRight ..
  rw [e, Int.shiftRight_eq_div_pow, nI_toInt (by omega), nI_toInt (by omega)]
  rfl
/-- what a verdict can be -/
def VF (t : Int32 × Int32 × Int32) : Prop := ∃ r k u, r ≤ 31 ∧ k ≤ 15 ∧ 1 ≤ u ∧ u ≤ 1000 ∧ t.1 + 1 = nI r ∧ t.2.1 = nI k ∧ t.2.2 = nI u
theorem i64_nat {y : Int64} (h : 0 ≤ y.toInt) : y = lN y.toInt.toNat := by
  apply Int64.toInt_inj.mp
  have := y.toInt_lt
  rw [pf_lI (by omega)]
  omega
theorem i64_cl {a b : Nat} (hab : a ≤ b) (hb : b < 2 ^ 31) (x : Int64) : ∃ k, a ≤ k ∧ k ≤ b ∧ pb_maxL (lN a) (pb_minL (lN b) x) = lN k := by
  have ea := pf_lI (a := a) (by omega)
  have eb := pf_lI (a := b) (by omega)
  unfold pb_minL
  by_cases q : x < lN b
  · rw [if_pos q]
    unfold pb_maxL
    have q := Int64.lt_iff_toInt_lt.mp q
    by_cases p : x < lN a
    · rw [if_pos p]
      exact ⟨a, Nat.le_refl _, hab, rfl⟩
    · rw [if_neg p]
      have p : ¬ x.toInt < (lN a).toInt := fun z => p (Int64.lt_iff_toInt_lt.mpr z)
      exact ⟨x.toInt.toNat, by omega, by omega, i64_nat (by omega)⟩
  · rw [if_neg q]
    unfold pb_maxL
    by_cases p : lN b < lN a
    · rw [if_pos p]
      exact ⟨a, Nat.le_refl _, hab, rfl⟩
    · rw [if_neg p]
      exact ⟨b, hab, Nat.le_refl _, rfl⟩
theorem clK_in (x : Int64) : ∃ k, k ≤ 15 ∧ clK x = nI k := by
  obtain ⟨k, h1, h2, h3⟩ := i64_cl (a := 0) (b := 15) (by decide) (by decide) x
  refine ⟨k, h2, ?_⟩
  unfold clK
  rw [show (0 : Int64) = lN 0 from rfl, show (15 : Int64) = lN 15 from rfl, h3, lN_to32 (by omega)]
theorem clU_in (x : Int64) : ∃ k, 1 ≤ k ∧ k ≤ 1000 ∧ clU x = nI k := by
  obtain ⟨k, h1, h2, h3⟩ := i64_cl (a := 1) (b := 1000) (by decide) (by decide) x
  refine ⟨k, h1, h2, ?_⟩
  unfold clU
  rw [show (1 : Int64) = lN 1 from rfl, show (1000 : Int64) = lN 1000 from rfl, h3, lN_to32 (by omega)]
theorem vrd_VF (ev : Ev) : ∀ (rs : List Rl) (i : Nat), i + rs.length ≤ 30 → VF (vrd ev rs i)
  | [], i, h => by
    rw [vrd]
    exact ⟨0, 0, 1, by decide, by decide, by decide, by decide, by decide, rfl, rfl⟩
  | r :: rs, i, h => by
    rw [List.length_cons] at h
    rw [vrd]
    cases tv ev r.1 with
    | false => exact vrd_VF ev rs (i + 1) (by omega)
    | true =>
      obtain ⟨k, k1, k2⟩ := clK_in (wv ev.1 r.2.1)
      rw [if_pos rfl]
      by_cases q : r.2.2 = []
      · rw [if_pos q]
        exact ⟨i + 1, k, 1, by omega, k1, by decide, by decide, nI_1 i, k2, rfl⟩
      · rw [if_neg q]
        obtain ⟨u, u1, u2, u3⟩ := clU_in (wv ev.1 r.2.2)
        exact ⟨i + 1, k, u, by omega, k1, u1, u2, nI_1 i, k2, u3⟩
theorem pkv_n {t : Int32 × Int32 × Int32} {r k u : Nat} (hr : r ≤ 31) (hk : k ≤ 15) (hu : u ≤ 1000) (h1 : t.1 + 1 = nI r) (h2 : t.2.1 = nI k) (h3 : t.2.2 = nI u) : pkv t = nI (r * 2 ^ 14 + u * 2 ^ 4 + k) := by
  unfold pkv
  have o1 := Nat.two_pow_add_eq_or_of_lt (show u * 2 ^ 4 < 2 ^ 14 by omega) r
  have o2 := Nat.two_pow_add_eq_or_of_lt (show k < 2 ^ 4 by omega) (r * 2 ^ 10 + u)
  rw [h1, h2, h3, i32_shl r (d := 14) (by decide) (by decide), i32_shl u (d := 4) (by decide) (by decide), i32_or (by omega) (by omega), Nat.mul_comm r, ← o1, i32_or (by omega) (by omega), show 2 ^ 14 * r + u * 2 ^ 4 = 2 ^ 4 * (r * 2 ^ 10 + u) by omega, ← o2]
theorem slot_eq (E l : Nat) : nI E * (200 : Int32) + nI l = nI (200 * E + l) := by rw [show (200 : Int32) = nI 200 from rfl, pn_mul, nI_add, Nat.mul_comm]
theorem M_kindOf0 {w : pb_W} {E l : Nat} {t : Int32 × Int32 × Int32} (hE : E < 5) (hl : l < 200) (hv : VF t) (h : w.1 29 (200 * E + l) = pkv t) : M_X0_kindOf [.ref 25, .int (nI l), .int (nI E)] w = some (some (.int t.2.1), w) := by
  obtain ⟨r, k, u, v1, v2, v3, v4, v5, v6, v7⟩ := hv
  rw [e_X0_kindOf, slot_eq, if_pos (pn_in (show 200 * E + l < 1000 by omega) (by decide)), nI_clamp (show 200 * E + l < 2 ^ 31 by omega), h, pkv_n v1 v2 v4 v5 v6 v7, show (15 : Int32) = nI (2 ^ 4 - 1) from rfl, i32_mask (by omega) (by decide), show (r * 2 ^ 14 + u * 2 ^ 4 + k) % 2 ^ 4 = k by omega, v6]
theorem M_unitsOf0 {w : pb_W} {E l : Nat} {t : Int32 × Int32 × Int32} (hE : E < 5) (hl : l < 200) (hv : VF t) (h : w.1 29 (200 * E + l) = pkv t) : M_X0_unitsOf [.ref 25, .int (nI l), .int (nI E)] w = some (some (.int t.2.2), w) := by
  obtain ⟨r, k, u, v1, v2, v3, v4, v5, v6, v7⟩ := hv
  rw [e_X0_unitsOf, slot_eq, if_pos (pn_in (show 200 * E + l < 1000 by omega) (by decide)), nI_clamp (show 200 * E + l < 2 ^ 31 by omega), h, pkv_n v1 v2 v4 v5 v6 v7, i32_shr (d := 4) (by decide) (by omega), show (1023 : Int32) = nI (2 ^ 10 - 1) from rfl, i32_mask (by omega) (by decide), show (r * 2 ^ 14 + u * 2 ^ 4 + k) / 2 ^ 4 % 2 ^ 10 = u by omega, show (1 : Int32) = nI 1 from rfl, pn_max (by decide) (by omega), Nat.max_eq_right v3, v7]
theorem M_ruleOf0 {w : pb_W} {E l : Nat} {t : Int32 × Int32 × Int32} (hE : E < 5) (hl : l < 200) (hv : VF t) (h : w.1 29 (200 * E + l) = pkv t) : M_X0_ruleOf [.ref 25, .int (nI l), .int (nI E)] w = some (some (.int t.1), w) := by
  obtain ⟨r, k, u, v1, v2, v3, v4, v5, v6, v7⟩ := hv
  rw [e_X0_ruleOf, slot_eq, if_pos (pn_in (show 200 * E + l < 1000 by omega) (by decide)), nI_clamp (show 200 * E + l < 2 ^ 31 by omega), h, pkv_n v1 v2 v4 v5 v6 v7, i32_shr (d := 14) (by decide) (by omega), show (r * 2 ^ 14 + u * 2 ^ 4 + k) / 2 ^ 14 = r by omega, ← v5, Int32.add_sub_cancel]
/-- the cells that what was told lies in -/
abbrev nI_BS : Nat → Nat → Prop := fun c k => (5 ≤ c ∧ c ≤ 19) ∨ (c = 25 ∧ k = 1) ∨ c = 27 ∨ (c = 39 ∧ k = 2) ∨ (45 ≤ c ∧ c ≤ 50) ∨ (c = 51 ∧ k = 2) ∨ (61 ≤ c ∧ c ≤ 63) ∨ (c = 64 ∧ ((6 ≤ k ∧ k ≤ 11) ∨ (37 ≤ k ∧ k ≤ 39) ∨ k = 76 ∨ k = 77 ∨ k = 85 ∨ k = 98)) ∨ (68 ≤ c ∧ c ≤ 78) ∨ c = 81 ∨ (84 ≤ c ∧ c ≤ 99) ∨ (117 ≤ c ∧ c ≤ 121) ∨ c = 128 ∨ c = 129
abbrev nJ_BS : Nat → Nat → Prop := fun c _ => c = 14 ∨ c = 79 ∨ c = 26 ∨ c = 95
def SB (w v : pb_W) : Prop := (∀ c k, nI_BS c k → v.1 c k = w.1 c k) ∧ ∀ c k, nJ_BS c k → v.2 c k = w.2 c k
theorem SB.c {w v : pb_W} (h : SB w v) (c : Nat) (hc : ∀ k, nI_BS c k) : v.1 c = w.1 c := funext fun k => h.1 c k (hc k)
theorem SB.j {w v : pb_W} (h : SB w v) (c : Nat) (hc : ∀ k, nJ_BS c k) : v.2 c = w.2 c := funext fun k => h.2 c k (hc k)
theorem SB_rf (w : pb_W) : SB w w := ⟨fun _ _ _ => rfl, fun _ _ _ => rfl⟩
theorem SB_tr {w v u : pb_W} (h : SB w v) (h2 : SB v u) : SB w u := ⟨fun c k q => (h2.1 c k q).trans (h.1 c k q), fun c k q => (h2.2 c k q).trans (h.2 c k q)⟩
theorem SB_of {I J : Nat → Nat → Prop} {w v : pb_W} (h : fr I J w v) (hi : ∀ c k, I c k → ¬ nI_BS c k) (hj : ∀ c k, J c k → ¬ nJ_BS c k) : SB w v := ⟨fun c k q => h.1 c k (fun z => hi c k z q), fun c k q => h.2 c k (fun z => hj c k z q)⟩
theorem SB_fr {w v : pb_W} (h : SB w v) : fr (fun c k => ¬ nI_BS c k) (fun c k => ¬ nJ_BS c k) w v := ⟨fun c k q => h.1 c k (Classical.not_not.mp q), fun c k q => h.2 c k (Classical.not_not.mp q)⟩
theorem nB0 {c k : Nat} (h : 5 ≤ c ∧ c ≤ 19) : nI_BS c k := Or.inl h
theorem nB7 {k : Nat} (h : (6 ≤ k ∧ k ≤ 11) ∨ (37 ≤ k ∧ k ≤ 39) ∨ k = 76 ∨ k = 77 ∨ k = 85 ∨ k = 98) : nI_BS 64 k := Or.inr (Or.inr (Or.inr (Or.inr (Or.inr (Or.inr (Or.inr (Or.inl ⟨rfl, h⟩)))))))
theorem nB8 {c k : Nat} (h : 68 ≤ c ∧ c ≤ 78) : nI_BS c k := Or.inr (Or.inr (Or.inr (Or.inr (Or.inr (Or.inr (Or.inr (Or.inr (Or.inl h))))))))
theorem nB9 {c k : Nat} (h : c = 81) : nI_BS c k := Or.inr (Or.inr (Or.inr (Or.inr (Or.inr (Or.inr (Or.inr (Or.inr (Or.inr (Or.inl h)))))))))
theorem nB10 {c k : Nat} (h : 84 ≤ c ∧ c ≤ 99) : nI_BS c k := Or.inr (Or.inr (Or.inr (Or.inr (Or.inr (Or.inr (Or.inr (Or.inr (Or.inr (Or.inr (Or.inl h))))))))))
theorem SB_L {w v : pb_W} (h : SB w v) (hL : iv_L w) : iv_L v := iv_L_fr (SB_fr h) (fun k q z => z (nB0 (by omega))) (fun k q z => z (nB7 (Or.inl (by omega)))) (fun c q k z => z (by
  rcases q with q | q | q
  · exact nB0 (by omega)
  · exact nB8 (by omega)
  · exact nB9 q)) (fun c q k z => z (by
  rcases q with q | q
  · exact Or.inr (Or.inl q)
  · exact Or.inl q)) hL
theorem SB_N {w v : pb_W} {n : Nat} (h : SB w v) (hN : LN w n) : LN v n := LN_sv hN (h.c 5 (fun k => by simp [nI_BS])) (h.1 64 7 (by simp [nI_BS])) (h.1 64 10 (by simp [nI_BS])) (h.c 8 (fun k => by simp [nI_BS])) (h.c 9 (fun k => by simp [nI_BS])) (h.c 11 (fun k => by simp [nI_BS])) (h.c 13 (fun k => by simp [nI_BS])) (h.c 16 (fun k => by simp [nI_BS])) (h.c 70 (fun k => by simp [nI_BS])) (h.c 71 (fun k => by simp [nI_BS])) (h.c 74 (fun k => by simp [nI_BS])) (h.c 75 (fun k => by simp [nI_BS]))
theorem SB_E {w v : pb_W} {Es : List (List Rl)} (h : SB w v) (hE : EI w Es) : EI v Es := EI_up hE (fun c k q => h.1 c k (by
  rcases q with q | q | q | q
  · exact Or.inr (Or.inl q)
  · exact Or.inr (Or.inr (Or.inl q))
  · obtain ⟨rfl, q⟩ := q
    exact nB7 (Or.inr (Or.inl q))
  · exact nB10 q)) (fun c k q => h.2 c k (by
  rcases q with q | q
  · exact Or.inr (Or.inr (Or.inl q))
  · exact Or.inr (Or.inr (Or.inr q))))
theorem SB_S {w v : pb_W} (h : SB w v) : SV v w := ⟨h.1 5 19 (by simp [nI_BS]), h.c 8 (fun k => by simp [nI_BS]), h.c 9 (fun k => by simp [nI_BS]), h.c 12 (fun k => by simp [nI_BS]), h.c 13 (fun k => by simp [nI_BS]), h.c 16 (fun k => by simp [nI_BS])⟩
def BS (w : pb_W) (n : Nat) (Es : List (List Rl)) : Prop := iv_L w ∧ LN w n ∧ EI w Es
theorem SB_B {w v : pb_W} {n : Nat} {Es : List (List Rl)} (h : SB w v) (hB : BS w n Es) : BS v n Es := ⟨SB_L h hB.1, SB_N h hB.2.1, SB_E h hB.2.2⟩
def vv (w : pb_W) (Es : List (List Rl)) (E l : Nat) : Int32 × Int32 × Int32 := vrd (evp w l (w.1 16 l)) (Es.getD E []) 0
theorem SB_ev {w v : pb_W} (h : SB w v) (l : Nat) (p : Int32) : evp v l p = evp w l p := by
  unfold evp
  rw [h.c 9 (fun k => by simp [nI_BS]), h.c 10 (fun k => by simp [nI_BS]), h.c 12 (fun k => by simp [nI_BS]), h.j 14 (fun k => by simp [nJ_BS])]
theorem SB_vv {w v : pb_W} (h : SB w v) (Es : List (List Rl)) (E l : Nat) : vv v Es E l = vv w Es E l := by
  unfold vv
  rw [SB_ev h, h.c 16 (fun k => by simp [nI_BS])]
theorem vv_VF {w : pb_W} {n : Nat} {Es : List (List Rl)} (hB : BS w n Es) {E : Nat} (hE : E < Es.length) (l : Nat) : VF (vv w Es E l) := by
  obtain ⟨k, g, b1, b2, b3, b4, b5, b6, b7, b8⟩ := hB.2.2
  have := (b8 E hE).1
  exact vrd_VF _ _ 0 (by omega)
theorem BS_5 {w : pb_W} {n : Nat} {Es : List (List Rl)} (hB : BS w n Es) : Es.length ≤ 5 := by
  obtain ⟨k, g, b1, -⟩ := hB.2.2
  exact b1
theorem LSo_of {w : pb_W} {n : Nat} (hL : iv_L w) (hN : LN w n) : LSo w n := by
  obtain ⟨m, r, hm, hr, n5, n7, r13, r8, d9, d10, ⟨g70, g71, g72, g74, g81, g75, g79, g73, g76, g77, g78⟩, gl, gr, gp, hd, ha⟩ := hL
  have n2 := hN.le
  have e : n = m := (nI_eq (by omega) (by omega)).mp (hN.n5.symm.trans n5)
  subst e
  exact ⟨g71, g72, g81, g79, fun k hk => (gl k hk).2.2.2.2.1⟩
theorem so_SB {w v : pb_W} (h : fr fI_so fJ_so w v) : SB w v := SB_of h (fun c k q z => by simp only [fI_so] at q; simp only [nI_BS] at z; omega) (fun c k q z => by simp only [fJ_so] at q; simp only [nJ_BS] at z; omega)
theorem mx_sort {w : pb_W} {n l E : Nat} {Es : List (List Rl)} (hB : BS w n Es) (hl : l < n) (hE : E < Es.length) : ∃ w', M_X12_sortOut [.ref 64, .int (nI l), .int (nI E)] w = some (none, w') ∧ w'.1 64 61 = (vv w Es E l).1 ∧ w'.1 64 62 = (vv w Es E l).2.1 ∧ w'.1 64 63 = (vv w Es E l).2.2 ∧ fr fI_so fJ_so w w' := mx_sortOut hB.1 hB.2.1 (LSo_of hB.1 hB.2.1) hl hB.2.2 hE
theorem mx_kindOf {w : pb_W} {n l E : Nat} {Es : List (List Rl)} (hB : BS w n Es) (hl : l < n) (hE : E < Es.length) : ∃ w', M_X12_kindOf [.ref 64, .int (nI l), .int (nI E)] w = some (some (.int (vv w Es E l).2.1), w') ∧ w'.1 64 63 = (vv w Es E l).2.2 ∧ fr fI_so fJ_so w w' := by
  obtain ⟨w', a, b, c, d, e⟩ := mx_sort hB hl hE
  refine ⟨w', ?_, d, e⟩
  rw [e_X12_kindOf, a, pb_bV_some, c]
theorem M_pence12 {w : pb_W} {n l : Nat} {Es : List (List Rl)} (hB : BS w n Es) (hl : l < n) : M_X12_penceOf [.ref 64, .int (nI l)] w = some (some (.int (w.1 16 l)), w) := M_penceOf hB.1 (fun m hm _ => by have := hB.2.1.le; have := (nI_eq (by omega) (by omega)).mp (hB.2.1.n5.symm.trans hm); omega)
/-- verdicts that stand -/
def iv_J (w : pb_W) (Es : List (List Rl)) (n : Nat) : Prop := ∀ E l, E < 5 → l < 200 → w.1 28 (200 * E + l) = 0 ∨ (E < Es.length ∧ l < n ∧ w.1 29 (200 * E + l) = pkv (vrd (evp w l (w.1 28 (200 * E + l))) (Es.getD E []) 0))
def JV (w : pb_W) (Es : List (List Rl)) (n E : Nat) : Prop := ∀ l, l < n → w.1 29 (200 * E + l) = pkv (vv w Es E l)
abbrev fI_jb : Nat → Nat → Prop := fun c k => (c = 25 ∧ k = 7) ∨ c = 28 ∨ c = 29
theorem fr_mn {I J I' J' : Nat → Nat → Prop} {w v : pb_W} (h : fr I J w v) (hi : ∀ c k, I c k → I' c k) (hj : ∀ c k, J c k → J' c k) : fr I' J' w v := ⟨fun c k q => h.1 c k (fun z => q (hi c k z)), fun c k q => h.2 c k (fun z => q (hj c k z))⟩
theorem jb_SB {w v : pb_W} (h : fr fI_jb fJ_ju w v) : SB w v := SB_of h (fun c k q z => by simp only [fI_jb] at q; simp only [nI_BS] at z; omega) (fun c k q z => by simp only [fJ_ju] at q; simp only [nJ_BS] at z; omega)
theorem cx_judge {n E : Nat} {Es : List (List Rl)} (hE : E < Es.length) : ∀ (m i : Nat) (w : pb_W), i + m = n → BS w n Es → iv_J w Es n → (∀ l, l < i → w.1 29 (200 * E + l) = pkv (vv w Es E l)) → ∃ w', pb_run T_X0_judgeBy (18, [some (.ref 25), some (.int (nI E)), some (.int (nI i)), none], [], w) = some (some (.int 1), w') ∧ fr fI_jb fJ_ju w w' ∧ iv_J w' Es n ∧ JV w' Es n E ∧ ∀ E' l, E' ≠ E → l < 200 → w'.1 29 (200 * E' + l) = w.1 29 (200 * E' + l) := by
  intro m
  induction m with
  | zero =>
    intro i w hi hB hJ hV
    have n2 := hB.2.1.le
    refine ⟨w, ?_, fr_rf w, hJ, fun l hl => hV l (by omega), fun _ _ _ _ => rfl⟩
    rw [r_X0_judgeBy_18, hB.2.1.n5, if_neg (show ¬ nI i < nI n from nI_nlt (by omega) (by omega))]
  | succ m ih =>
    intro i w hi hB hJ hV
    have n2 := hB.2.1.le
    have e5 := BS_5 hB
    have s10 : pb_in (nI (200 * E + i)) 1000 := pn_in (by omega) (by decide)
    have i2 : pb_in (nI i) 200 := pn_in (by omega) (by decide)
    have sc : (nI (200 * E + i)).toNatClampNeg = 200 * E + i := nI_clamp (by omega)
    have ic : (nI i).toNatClampNeg = i := nI_clamp (by omega)
    obtain ⟨p1, p2, p3⟩ := hB.2.1.pc i (by omega)
    have p0 : w.1 16 i ≠ 0 := by
      rw [p1]
      exact fun z => by have := (nI_eq (b := 0) (by omega) (by decide)).mp z; omega
    rw [r_X0_judgeBy_18, hB.2.1.n5, if_pos (show nI i < nI n from nI_lt (by omega) (by omega)), slot_eq, if_pos s10, if_pos i2, if_pos i2, if_pos s10, sc, ic, nI_1]
    by_cases q : w.1 28 (200 * E + i) = w.1 16 i
    · rw [if_pos q]
      refine ih (i + 1) w (by omega) hB hJ (fun l hl => ?_)
      by_cases z : l < i
      · exact hV l z
      · have z : l = i := by omega
        subst z
        rcases hJ E l (by omega) (by omega) with y | ⟨-, -, y⟩
        · exact absurd (q.symm.trans y) p0
        · rw [y, q]; rfl
    · rw [if_neg q]
      have S1 : SB w (pb_wI w 28 (200 * E + i) (w.1 16 i)) := jb_SB (fr_I (fr_rf w) (by simp [fI_jb]))
      obtain ⟨w2, j1, j2⟩ := cx_judgeAnew (w := pb_wI w 28 (200 * E + i) (w.1 16 i)) (l := i) (E := E) (by omega) (SB_E S1 hB.2.2) hE
      have e1 : vrd (evp (pb_wI w 28 (200 * E + i) (w.1 16 i)) i ((pb_wI w 28 (200 * E + i) (w.1 16 i)).1 16 i)) (Es.getD E []) 0 = vv w Es E i := SB_vv S1 Es E i
      rw [e1] at j1
      rw [j1, pb_bI_some, if_pos s10]
      have F : fr fI_jb fJ_ju w (pb_wI w2 29 (200 * E + i) (pkv (vv w Es E i))) := fr_I (fr_tr (fr_I (c := 28) (k := 200 * E + i) (v := w.1 16 i) (fr_rf w) (by simp [fI_jb])) (fr_mn j2 (fun c k q => Or.inl q) (fun c k q => q))) (by simp [fI_jb])
      have S := jb_SB F
      have a28 : ∀ s, (pb_wI w2 29 (200 * E + i) (pkv (vv w Es E i))).1 28 s = if s = 200 * E + i then w.1 16 i else w.1 28 s := fun s => j2.1 28 s (by simp [fI_ju])
      have a29 : ∀ s, (pb_wI w2 29 (200 * E + i) (pkv (vv w Es E i))).1 29 s = if s = 200 * E + i then pkv (vv w Es E i) else w.1 29 s := fun s => by
        rw [pw_I1, if_pos rfl, pu_at]
        by_cases z : s = 200 * E + i
        · rw [if_pos z, if_pos z]
        · rw [if_neg z, if_neg z]
          exact j2.1 29 s (by simp [fI_ju])
      obtain ⟨w', c1, c2, c3, c4, c5⟩ := ih (i + 1) (pb_wI w2 29 (200 * E + i) (pkv (vv w Es E i))) (by omega) (SB_B S hB) (fun E' l h1 h2 => by
        rw [a28, a29, SB_ev S]
        by_cases z : 200 * E' + l = 200 * E + i
        · have z1 : E' = E := by omega
          have z2 : l = i := by omega
          subst z1 z2
          rw [if_pos rfl, if_pos rfl]
          exact Or.inr ⟨hE, by omega, rfl⟩
        · rw [if_neg z, if_neg z]
          exact hJ E' l h1 h2) (fun l hl => by
        rw [a29, SB_vv S]
        by_cases z : l = i
        · rw [if_pos (by omega), z]
        · rw [if_neg (by omega)]
          exact hV l (by omega))
      refine ⟨w', c1, fr_tr F c2, c3, c4, fun E' l h1 h2 => ?_⟩
      rw [c5 E' l h1 h2, a29, if_neg (by omega)]
theorem in_of {a : Int32} {n : Nat} (hn : n < 2 ^ 31) (h : ¬ a < 0 ∧ a < nI n) : ∃ l, l < n ∧ a = nI l := by
  have h1 : ¬ a.toInt < 0 := fun z => h.1 (Int32.lt_iff_toInt_lt.mpr (by rw [show (0 : Int32).toInt = 0 from rfl]; exact z))
  have h2 := Int32.lt_iff_toInt_lt.mp h.2
  rw [nI_toInt hn] at h2
  exact pn_inI ⟨by omega, h2⟩ hn
theorem M_judgeBy {w : pb_W} {n : Nat} {Es : List (List Rl)} (a : Int32) (hB : BS w n Es) (hJ : iv_J w Es n) : (¬ (¬ a < 0 ∧ a < nI Es.length) ∧ M_X0_judgeBy [.ref 25, .int a] w = some (some (.int 0), w)) ∨ ∃ E, E < Es.length ∧ a = nI E ∧ ∃ w', M_X0_judgeBy [.ref 25, .int a] w = some (some (.int 1), w') ∧ fr fI_jb fJ_ju w w' ∧ iv_J w' Es n ∧ JV w' Es n E ∧ ∀ E' l, E' ≠ E → l < 200 → w'.1 29 (200 * E' + l) = w.1 29 (200 * E' + l) := by
  have e5 := BS_5 hB
  have e1 : w.1 25 1 = nI Es.length := by
    obtain ⟨k, g, b1, b2, -⟩ := hB.2.2
    exact b2
  have C := e_X0_judgeBy a w
  rw [M_outside, pb_bI_some, e1] at C
  by_cases q : a < 0 ∨ nI Es.length - 1 < a
  · refine Or.inl ⟨fun z => ?_, ?_⟩
    · rcases q with q | q
      · exact z.1 q
      · exact (out_n (by omega) a).mp q z.2
    · rw [C, if_pos q, if_neg (show ¬ (1 : Int32) = 0 by decide)]
  · have q1 : ¬ a < 0 := fun z => q (Or.inl z)
    have q2 : a < nI Es.length := Classical.not_not.mp (fun z => q (Or.inr ((out_n (by omega) a).mpr z)))
    obtain ⟨E, hE, rfl⟩ := in_of (n := Es.length) (by omega) ⟨q1, q2⟩
    refine Or.inr ⟨E, hE, rfl, ?_⟩
    rw [C, if_neg q, if_pos rfl]
    exact cx_judge hE n 0 w (by omega) hB hJ (fun l hl => absurd hl (Nat.not_lt_zero l))
