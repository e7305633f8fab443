/-! ===== WAYS: things, the class ===== -/
abbrev TSt : Type := (Nat → Option Nat) × (Nat → Nat → Nat) × (Nat → Nat)
def kdN (w : pb_W) (Es : List (List Rl)) (E i : Nat) : Nat := (vv w Es E i).2.1.toNatClampNeg
def dsN (w : pb_W) (l i : Nat) : Nat := if wkN w l ≤ wkN w i then wkN w i - wkN w l else wkN w l - wkN w i
abbrev nrP (w : pb_W) (l i j : Nat) : Prop := dsN w l i < dsN w l j ∨ (dsN w l i = dsN w l j ∧ wkN w i < wkN w j)
abbrev thP (w : pb_W) (Es : List (List Rl)) (E l nr i : Nat) : Prop := wf w i (w.1 8 l) ∧ (0 < dsN w l i ∧ dsN w l i ≤ nr) ∧ 0 < kdN w Es E i
def nlT (w : pb_W) (l i : Nat) : Option Nat → Option Nat
  | none => some i
  | some j => if nrP w l i j then some i else some j
def stT (w : pb_W) (Es : List (List Rl)) (E l i : Nat) (s : TSt) : TSt := (fun k => if k = kdN w Es E i then nlT w l i (s.1 k) else s.1 k, fun k x => if k = kdN w Es E i ∧ x = wkN w i then s.2.1 k x + unN w Es E i else s.2.1 k x, fun k => if k = kdN w Es E i then min 20 (max (s.2.2 k) (s.2.1 k (wkN w i) + unN w Es E i)) else s.2.2 k)
def ths (w : pb_W) (Es : List (List Rl)) (E l nr : Nat) : Nat → TSt
  | 0 => (fun _ => none, fun _ _ => 0, fun _ => 0)
  | i + 1 => if thP w Es E l nr i then stT w Es E l i (ths w Es E l nr i) else ths w Es E l nr i
def prN (w : pb_W) (Es : List (List Rl)) (E j : Nat) : Nat := max 1 (pcN w j / unN w Es E j)
theorem ths_20 (w : pb_W) (Es : List (List Rl)) (E l nr : Nat) : ∀ i k, (ths w Es E l nr i).2.2 k ≤ 20
  | 0, k => Nat.zero_le _
  | i + 1, k => by
    have ih := ths_20 w Es E l nr i k
    rw [ths]
    split
    · show (if k = kdN w Es E i then _ else _) ≤ 20
      split
      · exact Nat.min_le_left _ _
      · exact ih
    · exact ih
theorem ths_u {w : pb_W} {n : Nat} {Es : List (List Rl)} (hB : BS w n Es) {E : Nat} (hE : E < Es.length) (l nr : Nat) : ∀ i k x, (ths w Es E l nr i).2.1 k x ≤ 1000 * i
  | 0, k, x => Nat.zero_le _
  | i + 1, k, x => by
    have ih := ths_u hB hE l nr i k x
    have := (un_in hB hE i).2.2
    rw [ths]
    split
    · show (if k = kdN w Es E i ∧ x = wkN w i then _ else _) ≤ _
      split
      · omega
      · omega
    · omega
theorem ths_n (w : pb_W) (Es : List (List Rl)) (E l nr : Nat) : ∀ i k j, (ths w Es E l nr i).1 k = some j → j < i
  | 0, k, j, h => by cases h
  | i + 1, k, j, h => by
    have ih := ths_n w Es E l nr i k
    rw [ths] at h
    split at h
    · have h : (if k = kdN w Es E i then nlT w l i ((ths w Es E l nr i).1 k) else (ths w Es E l nr i).1 k) = some j := h
      split at h
      · cases q : (ths w Es E l nr i).1 k with
        | none =>
          rw [q] at h
          injection h with h
          omega
        | some j' =>
          have := ih j' q
          rw [q] at h
          unfold nlT at h
          simp only at h
          split at h
          · injection h with h
            omega
          · injection h with h
            omega
      · have := ih j h
        omega
    · have := ih j h
      omega
theorem kd_in {w : pb_W} {n : Nat} {Es : List (List Rl)} (hB : BS w n Es) {E : Nat} (hE : E < Es.length) (i : Nat) : (vv w Es E i).2.1 = nI (kdN w Es E i) ∧ kdN w Es E i ≤ 15 := by
  obtain ⟨r, k, u, h1, h2, h3, h4, h5, h6, h7⟩ := vv_VF hB hE i
  have : kdN w Es E i = k := by unfold kdN; rw [h6, nI_clamp (by omega)]
  rw [this]
  exact ⟨h6, h2⟩
theorem abs_ds {a b : Nat} (ha : a < 2 ^ 30) (hb : b < 2 ^ 30) : pb_abs (nI a - nI b) = nI (if b ≤ a then a - b else b - a) := by
  unfold pb_abs
  by_cases q : b ≤ a
  · rw [if_pos q, nI_subN q, if_pos (nI_pos' (by omega))]
  · have e : ¬ (0 : Int32) ≤ nI a - nI b := by
      rw [iI_n (show a < 2 ^ 31 by omega), iI_n (show b < 2 ^ 31 by omega), iI_sub, pn_le, iI_toInt (by omega) (by omega), show (0 : Int32).toInt = 0 from rfl]
      omega
    rw [if_neg q, if_neg e, Int32.zero_sub, Int32.neg_sub, nI_subN (by omega)]
theorem ds_abs {w : pb_W} {n l i : Nat} (hN : LN w n) (hl : l < n) (hi : i < n) : pb_abs (w.1 9 i - w.1 9 l) = nI (dsN w l i) ∧ dsN w l i < 520 := by
  obtain ⟨a1, a2⟩ := hN.wk l hl
  obtain ⟨b1, b2⟩ := hN.wk i hi
  rw [a1, b1, abs_ds (by omega) (by omega)]
  refine ⟨rfl, ?_⟩
  unfold dsN
  split <;> omega
/-- the class's rows -/
def RC (w : pb_W) (Es : List (List Rl)) (E n wl : Nat) (A B C D : Nat → Int32) (s : TSt) : Prop := ∀ k, k < 16 → ((s.1 k = none ∧ A k = -1) ∨ ∃ j, s.1 k = some j ∧ j < n ∧ A k = nI j ∧ B k = nI (prN w Es E j)) ∧ C k = nI (s.2.2 k) ∧ ∀ x, x < 520 → wl ≤ x + 60 → x ≤ wl + 60 → D (121 * k + x + 60 - wl) = nI (s.2.1 k x)
theorem RC_step {w : pb_W} {Es : List (List Rl)} {E n wl l i : Nat} {A B C D A' B' : Nat → Int32} {s : TSt} (h : RC w Es E n wl A B C D s) (hi : i < n) (hw : wkN w i < 520) (h1 : wl ≤ wkN w i + 60) (h2 : wkN w i ≤ wl + 60) (hA : (A' = upd A (kdN w Es E i) (nI i) ∧ B' = upd B (kdN w Es E i) (nI (prN w Es E i)) ∧ nlT w l i (s.1 (kdN w Es E i)) = some i) ∨ (A' = A ∧ B' = B ∧ nlT w l i (s.1 (kdN w Es E i)) = s.1 (kdN w Es E i))) : RC w Es E n wl A' B' (upd C (kdN w Es E i) (nI (min 20 (max (s.2.2 (kdN w Es E i)) (s.2.1 (kdN w Es E i) (wkN w i) + unN w Es E i))))) (upd D (121 * kdN w Es E i + wkN w i + 60 - wl) (nI (s.2.1 (kdN w Es E i) (wkN w i) + unN w Es E i))) (stT w Es E l i s) := by
  intro k hk
  obtain ⟨g1, g2, g3⟩ := h k hk
  unfold stT
  refine ⟨?_, ?_, fun x hx x1 x2 => ?_⟩
  · by_cases q : k = kdN w Es E i
    · rcases hA with ⟨a1, a2, a3⟩ | ⟨a1, a2, a3⟩
      · refine Or.inr ⟨i, ?_, hi, ?_, ?_⟩
        · simp only [if_pos q]
          rw [q]; exact a3
        · rw [a1, pu_at, if_pos q]
        · rw [a2, pu_at, if_pos q]
      · simp only [if_pos q]
        rw [q, a3, a1, a2, ← q]
        exact g1
    · have e1 : A' k = A k := by
        rcases hA with ⟨a1, a2, a3⟩ | ⟨a1, a2, a3⟩
        · rw [a1, pu_at, if_neg q]
        · rw [a1]
      have e2 : B' k = B k := by
        rcases hA with ⟨a1, a2, a3⟩ | ⟨a1, a2, a3⟩
        · rw [a2, pu_at, if_neg q]
        · rw [a2]
      simp only [if_neg q]
      rw [e1, e2]
      exact g1
  · rw [pu_at]
    by_cases q : k = kdN w Es E i
    · simp only [if_pos q]
      rw [q]
    · simp only [if_neg q]
      exact g2
  · rw [pu_at]
    by_cases q : k = kdN w Es E i ∧ x = wkN w i
    · simp only [if_pos q]
      rw [if_pos (by rw [q.1, q.2]), q.1, q.2]
    · simp only [if_neg q]
      rw [if_neg (fun z => q (by omega))]
      exact g3 x hx x1 x2
abbrev fI_g : Nat → Nat → Prop := fun c _ => c = 40 ∨ c = 41 ∨ c = 42 ∨ c = 43
theorem g_SB {w v : pb_W} (h : fr fI_g fJ_no w v) : SB w v := SB_of h (fun c k q z => by simp only [fI_g] at q; simp only [nI_BS] at z; omega) (fun c k q z => q)
theorem M_nearer {v : pb_W} {n l i j : Nat} (hN : LN v n) (hl : l < n) (hi : i < n) (hj : j < n) : M_X7_isNearer [.ref 39, .int (nI i), .int (nI j), .int (nI l)] v = some (some (.int (if nrP v l i j then 1 else 0)), v) := by
  have n2 := hN.le
  obtain ⟨d1, d2⟩ := ds_abs hN hl hi
  obtain ⟨d3, d4⟩ := ds_abs hN hl hj
  obtain ⟨w1, w2⟩ := hN.wk i hi
  obtain ⟨w3, w4⟩ := hN.wk j hj
  have p1 : pb_in (nI i) 200 := pn_in (by omega) (by decide)
  have p2 : pb_in (nI j) 200 := pn_in (by omega) (by decide)
  have p3 : pb_in (nI l) 200 := pn_in (by omega) (by decide)
  rw [e_X7_isNearer, if_pos p3, if_pos p1, if_pos p2, if_pos p1, if_pos p2, nI_clamp (show i < 2 ^ 31 by omega), nI_clamp (show j < 2 ^ 31 by omega), nI_clamp (show l < 2 ^ 31 by omega), d1, d3, w1, w3, ite_lt (by omega) (by omega), ite_lt (by omega) (by omega)]
  have eq : nI (dsN v l i) = nI (dsN v l j) ↔ dsN v l i = dsN v l j := nI_eq (by omega) (by omega)
  by_cases q : dsN v l i < dsN v l j
  · rw [if_pos q, if_pos (Or.inl q)]
  · rw [if_neg q]
    by_cases p : dsN v l i = dsN v l j
    · rw [if_pos (eq.mpr p)]
      by_cases r : wkN v i < wkN v j
      · rw [if_pos r, if_pos (Or.inr ⟨p, r⟩)]
      · rw [if_neg r, if_neg (fun z => z.elim q (fun y => r y.2))]
    · rw [if_neg (fun z => p (eq.mp z)), if_neg (fun z => z.elim q (fun y => p y.1))]
theorem dsN_sb {w v : pb_W} (h : SB w v) (l i : Nat) : dsN v l i = dsN w l i := by
  unfold dsN
  rw [wkN_sv (SB_S h), wkN_sv (SB_S h)]
theorem cx_add {u v : pb_W} {n E l i : Nat} {Es : List (List Rl)} (hB : BS u n Es) (hE : E < Es.length) (V : JV u Es n E) (F : fr fI_g fJ_no u v) (hl : l < n) (hi : i < n) (h1 : wkN u l ≤ wkN u i + 60) (h2 : wkN u i ≤ wkN u l + 60) (hk : 1 ≤ kdN u Es E i) {s : TSt} (R : RC u Es E n (wkN u l) (v.1 40) (v.1 41) (v.1 42) (v.1 43) s) (hs20 : ∀ k, s.2.2 k ≤ 20) (hsu : ∀ k x, s.2.1 k x ≤ 1000 * 200) : ∃ v', M_X7_addThing [.ref 39, .int (nI l), .int (nI i), .int (nI E)] v = some (none, v') ∧ fr fI_g fJ_no u v' ∧ RC u Es E n (wkN u l) (v'.1 40) (v'.1 41) (v'.1 42) (v'.1 43) (stT u Es E l i s) := by
  have n2 := hB.2.1.le
  have e5 := BS_5 hB
  have S := g_SB F
  have hv := SB_B S hB
  have VF' := vv_VF hB hE i
  have h29 : v.1 29 (200 * E + i) = pkv (vv u Es E i) := (F.1 29 _ (by simp [fI_g])).trans (V i hi)
  obtain ⟨k1, k2⟩ := kd_in hB hE i
  obtain ⟨u1, u2, u3⟩ := un_in hB hE i
  obtain ⟨w1, w2⟩ := hB.2.1.wk i hi
  obtain ⟨w3, w4⟩ := hB.2.1.wk l hl
  obtain ⟨p1, p2, p3⟩ := hB.2.1.pc i hi
  have i2 : pb_in (nI i) 200 := pn_in (by omega) (by decide)
  have l2 : pb_in (nI l) 200 := pn_in (by omega) (by decide)
  have k16 : pb_in (nI (kdN u Es E i)) 16 := pn_in (by omega) (by decide)
  have kc : (nI (kdN u Es E i)).toNatClampNeg = kdN u Es E i := nI_clamp (by omega)
  have ix : nI (kdN u Es E i) * (121 : Int32) + v.1 9 i - v.1 9 l + (60 : Int32) = nI (121 * kdN u Es E i + wkN u i + 60 - wkN u l) := by
    rw [(SB_S S).s9, w1, w3, show (121 : Int32) = nI 121 from rfl, show (60 : Int32) = nI 60 from rfl, pn_mul, nI_add, nI_subN (by omega), nI_add]
    congr 1
    omega
  have ixb : 121 * kdN u Es E i + wkN u i + 60 - wkN u l < 1936 := by omega
  have ixi : pb_in (nI (121 * kdN u Es E i + wkN u i + 60 - wkN u l)) 1936 := pn_in ixb (by decide)
  have ixc : (nI (121 * kdN u Es E i + wkN u i + 60 - wkN u l)).toNatClampNeg = 121 * kdN u Es E i + wkN u i + 60 - wkN u l := nI_clamp (by omega)
  obtain ⟨r1, r2, r3⟩ := R (kdN u Es E i) (by omega)
  have r3 := r3 (wkN u i) w2 h1 h2
  have s20 := hs20 (kdN u Es E i)
  have su := hsu (kdN u Es E i) (wkN u i)
  generalize hK : kdN u Es E i = K at *
  generalize hX : 121 * K + wkN u i + 60 - wkN u l = X at *
  generalize hU : s.2.1 K (wkN u i) + unN u Es E i = U at *
  have eC : pb_min (20 : Int32) (pb_max (v.1 42 K) ((pb_wI v 43 X (nI U)).1 43 X)) = nI (min 20 (max (s.2.2 K) U)) := by
    rw [pw_I1, if_pos rfl, pu_at, if_pos rfl, r2, pn_max (by omega) (by omega), show (20 : Int32) = nI 20 from rfl, pn_min (by decide) (by omega)]
  have F1 : fr fI_g fJ_no u (pb_wI (pb_wI v 43 X (nI U)) 42 K (nI (min 20 (max (s.2.2 K) U)))) := fr_I (fr_I F (by simp [fI_g])) (by simp [fI_g])
  have st := RC_step (l := l) (i := i) (A' := v.1 40) (B' := v.1 41) R hi w2 h1 h2
  have st2 := RC_step (l := l) (i := i) (A' := upd (v.1 40) (kdN u Es E i) (nI i)) (B' := upd (v.1 41) (kdN u Es E i) (nI (prN u Es E i))) R hi w2 h1 h2
  rw [hK, hX, hU] at st st2
  have m1 : pb_max (1 : Int32) (nI (unN u Es E i)) = nI (unN u Es E i) := by rw [show (1 : Int32) = nI 1 from rfl, pn_max (by decide) (by omega), Nat.max_eq_right u2]
  have r120 : ∀ x : pb_W, SB u x → pb_run T_X7_addThing (120, [some (.ref 39), none, some (.int (nI i)), none, some (.int (nI K)), some (.int (nI (unN u Es E i))), none], [], x) = some (none, pb_wI (pb_wI x 40 K (nI i)) 41 K (nI (prN u Es E i))) := by
    intro x Sx
    have dl := Nat.div_le_self (pcN u i) (unN u Es E i)
    rw [r_X7_addThing_120, if_pos k16, if_pos i2, if_pos k16, m1, if_neg (show ¬ nI (unN u Es E i) = (0 : Int32) from fun z => by have := (nI_eq (b := 0) (by omega) (by decide)).mp z; omega), kc, nI_clamp (show i < 2 ^ 31 by omega), (SB_S Sx).s16, p1, pk_div (by omega) (by omega) (by omega), show (1 : Int32) = nI 1 from rfl, pn_max (by decide) (by omega)]
    rfl
  rw [e_X7_addThing, M_kindOf0 (by omega) (by omega) VF' h29, pb_bI_some, M_unitsOf0 (by omega) (by omega) VF' h29, pb_bI_some, if_pos i2, if_pos l2, nI_clamp (show i < 2 ^ 31 by omega), nI_clamp (show l < 2 ^ 31 by omega), k1, u1, ix]
  simp only [if_pos ixi, if_pos k16, kc, ixc]
  rw [r3, nI_add, hU, eC]
  rcases r1 with ⟨g1, g2⟩ | ⟨j, g1, g2, g3, g4⟩
  · rw [if_pos g2, r120 _ (g_SB F1)]
    refine ⟨_, rfl, fr_I (fr_I F1 (by simp [fI_g])) (by simp [fI_g]), ?_⟩
    exact st2 (Or.inl ⟨rfl, rfl, by rw [g1]; rfl⟩)
  · rw [if_neg (show ¬ v.1 40 K = -1 by rw [g3]; exact pn_m1 j (by omega)), g3, M_nearer (SB_N (g_SB F1) hB.2.1) hl hi g2, pb_bI_some]
    have nre : nrP (pb_wI (pb_wI v 43 X (nI U)) 42 K (nI (min 20 (max (s.2.2 K) U)))) l i j ↔ nrP u l i j := by
      unfold nrP
      rw [dsN_sb (g_SB F1), dsN_sb (g_SB F1), wkN_sv (SB_S (g_SB F1)), wkN_sv (SB_S (g_SB F1))]
    by_cases q : nrP u l i j
    · rw [if_pos (nre.mpr q), if_neg (show ¬ (1 : Int32) = 0 by decide), r120 _ (g_SB F1)]
      refine ⟨_, rfl, fr_I (fr_I F1 (by simp [fI_g])) (by simp [fI_g]), ?_⟩
      refine st2 (Or.inl ⟨rfl, rfl, ?_⟩)
      rw [g1]
      exact if_pos q
    · rw [if_neg (fun z => q (nre.mp z)), if_pos rfl]
      refine ⟨_, rfl, F1, ?_⟩
      refine st (Or.inr ⟨rfl, rfl, ?_⟩)
      rw [g1]
      exact if_neg q
theorem cx_th_go {u : pb_W} {n E l nr : Nat} {Es : List (List Rl)} (hB : BS u n Es) (hE : E < Es.length) (V : JV u Es n E) (hl : l < n) (hnr : nr ≤ 60) (h39 : u.1 39 2 = nI nr) : ∀ m i v, i + m = n → fr fI_g fJ_no u v → RC u Es E n (wkN u l) (v.1 40) (v.1 41) (v.1 42) (v.1 43) (ths u Es E l nr i) → ∃ v', pb_run T_X7_gatherThings (26, [some (.ref 39), some (.int (nI l)), some (.int (nI E)), some (.int (nI i)), none, none], [], v) = some (none, v') ∧ fr fI_g fJ_no u v' ∧ RC u Es E n (wkN u l) (v'.1 40) (v'.1 41) (v'.1 42) (v'.1 43) (ths u Es E l nr n) := by
  have n2 := hB.2.1.le
  have e5 := BS_5 hB
  have l2 : pb_in (nI l) 200 := pn_in (by omega) (by decide)
  have lc : (nI l).toNatClampNeg = l := nI_clamp (by omega)
  intro m
  induction m with
  | zero =>
    intro i v hi F R
    have hi : i = n := by omega
    subst hi
    refine ⟨v, ?_, F, R⟩
    rw [r_X7_gatherThings_26, (SB_N (g_SB F) hB.2.1).n5, if_neg (show ¬ nI i < nI i from nI_nlt (Nat.le_refl _) (by omega))]
  | succ m ih =>
    intro i v hi F R
    have S := g_SB F
    have hv := SB_B S hB
    have i2 : pb_in (nI i) 200 := pn_in (by omega) (by decide)
    have ic : (nI i).toNatClampNeg = i := nI_clamp (by omega)
    obtain ⟨d1, d2⟩ := ds_abs hB.2.1 hl (show i < n by omega)
    have ih0 := ih (i + 1)
    rw [ths] at ih0
    rw [r_X7_gatherThings_26, hv.2.1.n5, if_pos (show nI i < nI n from nI_lt (by omega) (by omega)), if_pos i2, if_pos l2, ic, lc, (SB_S S).s9, d1, S.1 39 2 (by simp [nI_BS]), h39, show (0 : Int32) = nI 0 from rfl, ite_lt (by decide) (by omega), ite_lt (by omega) (by omega)]
    have skip : ¬ thP u Es E l nr i → ∃ v', pb_run T_X7_gatherThings (26, [some (.ref 39), some (.int (nI l)), some (.int (nI E)), some (.int (nI (i + 1))), none, none], [], v) = some (none, v') ∧ fr fI_g fJ_no u v' ∧ RC u Es E n (wkN u l) (v'.1 40) (v'.1 41) (v'.1 42) (v'.1 43) (ths u Es E l nr n) := by
      intro z
      rw [if_neg z] at ih0
      exact ih0 v (by omega) F R
    have s0 : pb_run T_X7_gatherThings (80, [some (.ref 39), some (.int (nI l)), some (.int (nI E)), some (.int (nI i)), none, none], [.int (nI 0)], v) = pb_run T_X7_gatherThings (26, [some (.ref 39), some (.int (nI l)), some (.int (nI E)), some (.int (nI (i + 1))), none, none], [], v) := by
      rw [r_X7_gatherThings_80, if_pos (show nI 0 = (0 : Int32) from rfl), nI_1]
    by_cases q0 : 0 < dsN u l i
    · rw [if_pos q0]
      by_cases q1 : nr < dsN u l i
      · rw [if_pos q1, s0]
        exact skip (fun z => by have := z.2.1.2; omega)
      · rw [if_neg q1, r_X7_gatherThings_80, if_neg (show ¬ (1 : Int32) = 0 by decide), if_pos l2, lc, (SB_S S).s8, M_wentFrom2 (show i < 200 by omega), pb_bI_some, nI_1]
        simp only [wf_sv (SB_S S)]
        by_cases qf : wf u i (u.1 8 l)
        · have VF' := vv_VF hB hE i
          have h29 : v.1 29 (200 * E + i) = pkv (vv u Es E i) := (F.1 29 _ (by simp [fI_g])).trans (V i (by omega))
          obtain ⟨k1, k2⟩ := kd_in hB hE i
          rw [if_pos qf, if_neg (show ¬ (1 : Int32) = 0 by decide), M_kindOf0 (by omega) (by omega) VF' h29, pb_bI_some, k1]
          by_cases qk : 0 < kdN u Es E i
          · rw [if_pos (show (0 : Int32) < nI (kdN u Es E i) from nI_lt (a := 0) qk (by omega))]
            have tp : thP u Es E l nr i := ⟨qf, ⟨q0, by omega⟩, qk⟩
            rw [if_pos tp] at ih0
            have w520 := (hB.2.1.wk i (by omega)).2
            have dd : wkN u l ≤ wkN u i + 60 ∧ wkN u i ≤ wkN u l + 60 := by
              unfold dsN at q1
              split at q1 <;> omega
            obtain ⟨v', c1, c2, c3⟩ := cx_add hB hE V F hl (show i < n by omega) dd.1 dd.2 (by omega) R (ths_20 u Es E l nr i) (fun k x => by have := ths_u hB hE l nr i k x; omega)
            rw [c1, pb_bV_some]
            exact ih0 v' (by omega) c2 c3
          · rw [if_neg (show ¬ (0 : Int32) < nI (kdN u Es E i) from nI_nlt (a := 0) (by omega) (by decide))]
            exact skip (fun z => qk z.2.2)
        · rw [if_neg qf, if_pos rfl]
          exact skip (fun z => qf z.1)
    · rw [if_neg q0, s0]
      exact skip (fun z => q0 z.2.1.1)
theorem cx_th {u : pb_W} {n E l nr : Nat} {Es : List (List Rl)} (hB : BS u n Es) (hE : E < Es.length) (V : JV u Es n E) (hl : l < n) (hnr : nr ≤ 60) (h39 : u.1 39 2 = nI nr) : ∃ v', M_X7_gatherThings [.ref 39, .int (nI l), .int (nI E)] u = some (none, v') ∧ fr fI_g fJ_no u v' ∧ RC u Es E n (wkN u l) (v'.1 40) (v'.1 41) (v'.1 42) (v'.1 43) (ths u Es E l nr n) := by
  rw [e_X7_gatherThings, M_fill40, pb_bV_some, M_fill42, pb_bV_some, M_fill43, pb_bV_some]
  refine cx_th_go hB hE V hl hnr h39 n 0 _ (by omega) (fr_F (fr_F (fr_F (fr_rf u) (fun k => by simp [fI_g])) (fun k => by simp [fI_g])) (fun k => by simp [fI_g])) ?_
  intro k hk
  have w4 := (hB.2.1.wk l hl).2
  refine ⟨Or.inl ⟨rfl, ?_⟩, ?_, fun x hx x1 x2 => ?_⟩
  · show (if k < 16 then (-1 : Int32) else _) = -1
    rw [if_pos hk]
  · show (if k < 16 then (0 : Int32) else _) = nI 0
    rw [if_pos hk]
    rfl
  · show (if 121 * k + x + 60 - wkN u l < 1936 then (0 : Int32) else _) = nI 0
    rw [if_pos (by omega)]
    rfl
