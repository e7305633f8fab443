/-! ===== PRICE: families counted ===== -/
def bc1 (x : Int32) : Int32 := x - ((x.toUInt32 >>> ((1 : Int32).toUInt32 &&& Int32.toUInt32 31)).toInt32 &&& (1431655765 : Int32))
def bc2 (x : Int32) : Int32 := (x &&& (858993459 : Int32)) + ((x.toUInt32 >>> ((2 : Int32).toUInt32 &&& Int32.toUInt32 31)).toInt32 &&& (858993459 : Int32))
def bc3 (x : Int32) : Int32 := (x + (x.toUInt32 >>> ((4 : Int32).toUInt32 &&& Int32.toUInt32 31)).toInt32) &&& (252645135 : Int32)
def bc4 (x : Int32) : Int32 := x + (x.toUInt32 >>> ((8 : Int32).toUInt32 &&& Int32.toUInt32 31)).toInt32
def bc5 (x : Int32) : Int32 := (x + (x.toUInt32 >>> ((16 : Int32).toUInt32 &&& Int32.toUInt32 31)).toInt32) &&& (63 : Int32)
theorem bq_all : ∀ a, a < 64 → ∀ b, b < 64 → bc5 (bc4 (bc3 (bc2 (bc1 (nI (64 * a + b)))))) = nI (pcn (64 * a + b) 12) := by decide +kernel
theorem M_bitCount32 {S : Nat} (h : S < 4096) (w : pb_W) : M_J6_bitCount_0f7a4 [.int (nI S)] w = some (some (.int (nI (pcn S 12))), w) := by
  have e := bq_all (S / 64) (by omega) (S % 64) (by omega)
  rw [show 64 * (S / 64) + S % 64 = S by omega] at e
  rw [e_J6_bitCount_0f7a4, ← e]
  rfl
def unN (w : pb_W) (Es : List (List Rl)) (E i : Nat) : Nat := (vv w Es E i).2.2.toNatClampNeg
def fmN (w : pb_W) (i : Nat) : Nat := (w.1 8 i).toNatClampNeg
/-- rows, how many, which families -/
def prs (w : pb_W) (Es : List (List Rl)) (E : Nat) (kd yr : Int32) : Nat → PU × Nat × Nat
  | 0 => ((fun _ => 0, fun _ => 0), 0, 0)
  | i + 1 => if w.1 9 i / (52 : Int32) = yr ∧ (¬ w.1 5 19 < w.1 13 i ∧ w.1 12 i = 0) ∧ (vv w Es E i).2.1 = kd then (insP (pcN w i) (unN w Es E i) (prs w Es E kd yr i).2.1 (prs w Es E kd yr i).1, (prs w Es E kd yr i).2.1 + 1, (prs w Es E kd yr i).2.2 ||| 2 ^ fmN w i) else prs w Es E kd yr i
/-- families of lines are families -/
def LF (w : pb_W) (n : Nat) : Prop := ∃ nF, nF ≤ 12 ∧ w.1 5 0 = nI nF ∧ w.1 64 6 = nI nF ∧ ∀ k, k < n → fmN w k < nF ∧ w.1 8 k = nI (fmN w k)
theorem prs_le (w : pb_W) (Es : List (List Rl)) (E : Nat) (kd yr : Int32) : ∀ i, (prs w Es E kd yr i).2.1 ≤ i
  | 0 => Nat.le_refl 0
  | i + 1 => by
    have := prs_le w Es E kd yr i
    rw [prs]
    split
    · exact Nat.succ_le_succ this
    · omega
theorem prs_lt (w : pb_W) (Es : List (List Rl)) (E : Nat) (kd yr : Int32) {nF : Nat} : ∀ i, (∀ k, k < i → fmN w k < nF) → (prs w Es E kd yr i).2.2 < 2 ^ nF
  | 0, _ => Nat.two_pow_pos nF
  | i + 1, h => by
    have := prs_lt w Es E kd yr i (fun k hk => h k (by omega))
    rw [prs]
    split
    · exact Nat.or_lt_two_pow this (wb_lt2 (h i (by omega)))
    · exact this
theorem prs_sb {w v : pb_W} (h : SB w v) (Es : List (List Rl)) (E : Nat) (kd yr : Int32) : ∀ i, prs v Es E kd yr i = prs w Es E kd yr i
  | 0 => rfl
  | i + 1 => by
    rw [prs, prs, prs_sb h Es E kd yr i, unN, unN, SB_vv h, pcN_sv (SB_S h), (SB_S h).s9, (SB_S h).s19, (SB_S h).s13, (SB_S h).s12, fmN, fmN, (SB_S h).s8]
theorem un_in {w : pb_W} {n : Nat} {Es : List (List Rl)} (hB : BS w n Es) {E : Nat} (hE : E < Es.length) (i : Nat) : (vv w Es E i).2.2 = nI (unN w Es E i) ∧ 1 ≤ unN w Es E i ∧ unN w Es E i ≤ 1000 := by
  obtain ⟨r, k, u, h1, h2, h3, h4, h5, h6, h7⟩ := vv_VF hB hE i
  have : unN w Es E i = u := by unfold unN; rw [h7, nI_clamp (by omega)]
  rw [this]
  exact ⟨h7, h3, h4⟩
theorem pr_SB {w v : pb_W} (h : fr fI_pr fJ_no w v) : SB w v := SB_of h (fun c k q z => by simp only [fI_pr] at q; simp only [nI_BS] at z; omega) (fun c k q z => q)
theorem shl_fm : ∀ c, c < 12 → (1 : Int32) <<< (nI c &&& 31) = nI (2 ^ c) := by decide +kernel
theorem cx_gthr {u : pb_W} {n E : Nat} {Es : List (List Rl)} (hB : BS u n Es) (hE : E < Es.length) (V : JV u Es n E) (hLF : LF u n) (kd yr : Int32) : ∀ m i v, i + m = n → fr fI_pr fJ_no u v → FR (v.1 52) (v.1 53) (prs u Es E kd yr i).1 (prs u Es E kd yr i).2.1 → v.1 51 3 = nI (prs u Es E kd yr i).2.1 → ∃ v', pb_run T_X4_gather (11, [some (.ref 51), some (.int kd), some (.int yr), some (.int (nI E)), some (.int (nI (prs u Es E kd yr i).2.2)), some (.int (nI i)), none], [], v) = some (some (.int (if (prs u Es E kd yr n).2.1 = 0 then 6 else if nI (pcn (prs u Es E kd yr n).2.2 12) < u.1 51 2 then 7 else 0)), v') ∧ fr fI_pr fJ_no u v' ∧ FR (v'.1 52) (v'.1 53) (prs u Es E kd yr n).1 (prs u Es E kd yr n).2.1 ∧ v'.1 51 3 = nI (prs u Es E kd yr n).2.1 := by
  obtain ⟨nF, f1, f2, f3, f4⟩ := hLF
  have n2 := hB.2.1.le
  have e5 := BS_5 hB
  intro m
  induction m with
  | zero =>
    intro i v hi F R c3
    have S := pr_SB F
    have hi : i = n := by omega
    subst hi
    have cl := prs_le u Es E kd yr i
    have sl := prs_lt u Es E kd yr (nF := nF) i (fun k hk => (f4 k hk).1)
    have s12 : 2 ^ nF ≤ 2 ^ 12 := Nat.pow_le_pow_right (by decide) f1
    refine ⟨v, ?_, F, R, c3⟩
    rw [r_X4_gather_11, (SB_N S hB.2.1).n5, if_neg (show ¬ nI i < nI i from nI_nlt (Nat.le_refl _) (by omega)), c3, M_bitCount32 (by omega), pb_bI_some, S.1 51 2 (by simp [nI_BS])]
    by_cases q : (prs u Es E kd yr i).2.1 = 0
    · rw [if_pos (by rw [q]; rfl), if_pos q]
    · rw [if_neg (show ¬ nI (prs u Es E kd yr i).2.1 = (0 : Int32) from fun z => q ((nI_eq (b := 0) (by omega) (by decide)).mp z)), if_neg q]
      by_cases p : nI (pcn (prs u Es E kd yr i).2.2 12) < u.1 51 2
      · rw [if_pos p, if_pos p]
      · rw [if_neg p, if_neg p]
  | succ m ih =>
    intro i v hi F R c3
    have S := pr_SB F
    have hv := SB_B S hB
    have i2 : pb_in (nI i) 200 := pn_in (by omega) (by decide)
    have ic : (nI i).toNatClampNeg = i := nI_clamp (by omega)
    have cl := prs_le u Es E kd yr i
    have sl := prs_lt u Es E kd yr (nF := nF) i (fun k hk => (f4 k (by omega)).1)
    have s12 : 2 ^ nF ≤ 2 ^ 12 := Nat.pow_le_pow_right (by decide) f1
    obtain ⟨g1, g2⟩ := f4 i (by omega)
    have ih0 := ih (i + 1)
    rw [prs] at ih0
    rw [r_X4_gather_11, hv.2.1.n5, if_pos (show nI i < nI n from nI_lt (by omega) (by omega)), if_pos i2, ic, (SB_S S).s9]
    by_cases q9 : u.1 9 i / (52 : Int32) = yr
    · rw [if_pos q9, r_X4_gather_45, if_neg (show ¬ (1 : Int32) = 0 by decide), M_went1 (show i < 200 by omega), pb_bI_some, (SB_S S).s19, (SB_S S).s13, (SB_S S).s12, nI_1]
      by_cases qw : ¬ u.1 5 19 < u.1 13 i ∧ u.1 12 i = 0
      · have VF' := vv_VF hB hE i
        have h29 : v.1 29 (200 * E + i) = pkv (vv u Es E i) := (F.1 29 _ (by simp [fI_pr])).trans (V i (by omega))
        rw [if_pos qw, if_neg (show ¬ (1 : Int32) = 0 by decide), M_kindOf0 (by omega) (by omega) VF' h29, pb_bI_some, M_unitsOf0 (by omega) (by omega) VF' h29, pb_bI_some]
        by_cases qk : (vv u Es E i).2.1 = kd
        · rw [if_pos ⟨q9, qw, qk⟩] at ih0
          obtain ⟨u1, u2, u3⟩ := un_in hB hE i
          obtain ⟨p1, p2, p3⟩ := hB.2.1.pc i (by omega)
          obtain ⟨w', b1, b2, b3, b4⟩ := cx_ins (p := pcN u i) (u := unN u Es E i) (c := (prs u Es E kd yr i).2.1) p3 u2 u3 (by omega) (prs u Es E kd yr i).2.1 (prs u Es E kd yr i).1 v (Nat.le_refl _) (FR_HR R) c3
          have F' := fr_tr F b4
          rw [if_pos qk, if_pos i2, ic, (SB_S S).s16, p1, u1, e_X4_insert, c3, b1, pb_bV_some, if_pos i2, (SB_S (pr_SB F')).s8, g2, shl_fm _ (by omega), i32_or (by omega) (by have := wb_lt2 g1; omega)]
          exact ih0 w' (by omega) F' b2 b3
        · rw [if_neg (fun z => qk z.2.2)] at ih0
          rw [if_neg qk]
          exact ih0 v (by omega) F R c3
      · rw [if_neg (fun z => qw z.2.1)] at ih0
        rw [if_neg qw, if_pos rfl]
        exact ih0 v (by omega) F R c3
    · rw [if_neg (fun z => q9 z.1)] at ih0
      rw [if_neg q9, r_X4_gather_45, if_pos rfl, nI_1]
      exact ih0 v (by omega) F R c3
abbrev fI_pq : Nat → Nat → Prop := fun c k => (c = 64 ∧ 61 ≤ k ∧ k ≤ 63) ∨ c = 122 ∨ c = 123
theorem pq_SB {w v : pb_W} (h : fr fI_pq fJ_so w v) : SB w v := SB_of h (fun c k q z => by simp only [fI_pq] at q; simp only [nI_BS] at z; omega) (fun c k q z => by simp only [fJ_so] at q; simp only [nJ_BS] at z; omega)
theorem so_pq {w v : pb_W} (h : fr fI_so fJ_so w v) : fr fI_pq fJ_so w v := fr_mn h (fun c k q => Or.inl q) (fun c k q => q)
theorem pm_pq {w v : pb_W} (h : fr fI_pm fJ_no w v) : fr fI_pq fJ_so w v := fr_mn h (fun c k q => Or.inr q) (fun c k q => q.elim)
theorem mx_gthr {u : pb_W} {n E : Nat} {Es : List (List Rl)} (hB : BS u n Es) (hE : E < Es.length) (hLF : LF u n) (kd yr a4 : Int32) : ∀ m i v, i + m = n → SB u v → FR (v.1 122) (v.1 123) (prs u Es E kd yr i).1 (prs u Es E kd yr i).2.1 → ∃ v', pb_run T_X12_price (54, [some (.ref 64), some (.int kd), some (.int yr), some (.int (nI E)), some (.int a4), some (.int (nI (prs u Es E kd yr i).2.1)), some (.int (nI (prs u Es E kd yr i).2.2)), some (.int (nI i)), none, none, none], [], v) = (if (prs u Es E kd yr n).2.1 = 0 then some (some (.int (-1)), pb_wI v' 64 0 6) else pb_run T_X12_price (259, [some (.ref 64), none, none, none, some (.int a4), some (.int (nI (prs u Es E kd yr n).2.1)), some (.int (nI (prs u Es E kd yr n).2.2)), some (.int (0 : Int32)), some (.int (0 : Int32)), none, none], [], v')) ∧ fr fI_pq fJ_so v v' ∧ FR (v'.1 122) (v'.1 123) (prs u Es E kd yr n).1 (prs u Es E kd yr n).2.1 := by
  obtain ⟨nF, f1, f2, f3, f4⟩ := hLF
  have n2 := hB.2.1.le
  have e5 := BS_5 hB
  intro m
  induction m with
  | zero =>
    intro i v hi S R
    have hi : i = n := by omega
    subst hi
    have cl := prs_le u Es E kd yr i
    refine ⟨v, ?_, fr_rf v, R⟩
    rw [r_X12_price_54, (SB_N S hB.2.1).n7, if_neg (show ¬ nI i < nI i from nI_nlt (Nat.le_refl _) (by omega)), ite_ref]
    by_cases q : (prs u Es E kd yr i).2.1 = 0
    · rw [if_pos (show nI (prs u Es E kd yr i).2.1 = (0 : Int32) by rw [q]; rfl), if_pos q]
    · rw [if_neg (show ¬ nI (prs u Es E kd yr i).2.1 = (0 : Int32) from fun z => q ((nI_eq (b := 0) (by omega) (by decide)).mp z)), if_neg q]
  | succ m ih =>
    intro i v hi S R
    have hv := SB_B S hB
    have i2 : pb_in (nI i) 200 := pn_in (by omega) (by decide)
    have ic : (nI i).toNatClampNeg = i := nI_clamp (by omega)
    have cl := prs_le u Es E kd yr i
    have sl := prs_lt u Es E kd yr (nF := nF) i (fun k hk => (f4 k (by omega)).1)
    have s12 : 2 ^ nF ≤ 2 ^ 12 := Nat.pow_le_pow_right (by decide) f1
    obtain ⟨g1, g2⟩ := f4 i (by omega)
    have ih0 := ih (i + 1)
    rw [prs] at ih0
    rw [r_X12_price_54, hv.2.1.n7, if_pos (show nI i < nI n from nI_lt (by omega) (by omega)), if_pos i2, if_pos i2, ic, hv.2.1.g71, hv.2.1.g70, (SB_S S).s9, nI_1]
    by_cases q9 : u.1 9 i / (52 : Int32) = yr
    · rw [if_pos q9, M_went hv.1 (show i < 200 by omega), pb_bI_some]
      simp only [wf_sv (SB_S S), (SB_S S).s8]
      by_cases qw : ¬ u.1 5 19 < u.1 13 i ∧ u.1 12 i = 0
      · obtain ⟨v1, a1, a2, a3⟩ := mx_kindOf hv (show i < n by omega) hE
        have S1 := SB_tr S (so_SB a3)
        rw [SB_vv S] at a1 a2
        rw [if_pos (show wf u i (u.1 8 i) from ⟨rfl, qw⟩), if_neg (show ¬ (1 : Int32) = 0 by decide), a1, pb_bI_some]
        have R1 : FR (v1.1 122) (v1.1 123) (prs u Es E kd yr i).1 (prs u Es E kd yr i).2.1 := by
          rw [fr_1 a3 122 (fun k => by simp [fI_so]), fr_1 a3 123 (fun k => by simp [fI_so])]
          exact R
        by_cases qk : (vv u Es E i).2.1 = kd
        · rw [if_pos ⟨q9, qw, qk⟩] at ih0
          obtain ⟨u1, u2, u3⟩ := un_in hB hE i
          obtain ⟨p1, p2, p3⟩ := hB.2.1.pc i (by omega)
          obtain ⟨w', b1, b2, b3⟩ := mx_ins (p := pcN u i) (u := unN u Es E i) (c := (prs u Es E kd yr i).2.1) (i := i) p3 u2 u3 (by omega) (by omega) kd yr (nI E) a4 (nI (prs u Es E kd yr i).2.2) (prs u Es E kd yr i).2.1 (prs u Es E kd yr i).1 v1 (Nat.le_refl _) (FR_HR R1)
          have S2 := SB_tr S1 (pq_SB (pm_pq b3))
          rw [(SB_N S1 hB.2.1).g70, (SB_S S1).s8, g2, shl_fm _ (by omega), i32_or (by omega) (by have := wb_lt2 g1; omega)] at b1
          rw [if_pos qk, M_pence12 (SB_B S1 hB) (show i < n by omega), pb_bI_some, (SB_S S1).s16, p1, a2, u1, b1]
          obtain ⟨v', c1, c2, c3⟩ := ih0 w' (by omega) S2 b2
          exact ⟨v', c1, fr_tr (fr_tr (so_pq a3) (pm_pq b3)) c2, c3⟩
        · rw [if_neg (fun z => qk z.2.2)] at ih0
          rw [if_neg qk]
          obtain ⟨v', c1, c2, c3⟩ := ih0 v1 (by omega) S1 R1
          exact ⟨v', c1, fr_tr (so_pq a3) c2, c3⟩
      · rw [if_neg (fun z => qw z.2.1)] at ih0
        rw [if_neg (show ¬ wf u i (u.1 8 i) from fun z => qw z.2), if_pos rfl]
        exact ih0 v (by omega) S R
    · rw [if_neg (fun z => q9 z.1)] at ih0
      rw [if_neg q9]
      exact ih0 v (by omega) S R
theorem shr_fm : ∀ c, c < 12 → ((nI c &&& 31).toBitVec.smod 32).toNat = c := by decide +kernel
def plc (a4 : Int32) (c : Nat) : Nat := if a4 = 0 then 0 else if a4 = 1 then (c - 1) / 2 else c - 1
theorem mx_fam {u : pb_W} {nF S c : Nat} (hF : nF ≤ 12) (h6 : u.1 64 6 = nI nF) (hS : S < 2 ^ nF) (hc : 1 ≤ c) (hc2 : c ≤ 200) (a4 : Int32) : ∀ m f, f + m = nF → pb_run T_X12_price (259, [some (.ref 64), none, none, none, some (.int a4), some (.int (nI c)), some (.int (nI S)), some (.int (nI (pcn S f))), some (.int (nI f)), none, none], [], u) = (if nI (pcn S 12) < u.1 64 77 then some (some (.int (-1)), pb_wI u 64 0 7) else pb_run T_X12_price (330, [some (.ref 64), none, none, none, none, none, none, none, none, none, none], [.int (nI (plc a4 c))], u)) := by
  have s12 : 2 ^ nF ≤ 2 ^ 12 := Nat.pow_le_pow_right (by decide) hF
  intro m
  induction m with
  | zero =>
    intro f hf
    have hf : f = nF := by omega
    subst hf
    have e12 : pcn S 12 = pcn S f := by
      rw [show (12 : Nat) = f + (12 - f) by omega]
      refine pcn_hi S f (12 - f) (fun b h1 h2 => ?_)
      rw [Nat.div_eq_of_lt (Nat.lt_of_lt_of_le hS (Nat.pow_le_pow_right (by decide) h1))]
    have e1 : nI c - (1 : Int32) = nI (c - 1) := nI_subN (a := c) (b := 1) hc
    have e2 : nI (c - 1) / (2 : Int32) = nI ((c - 1) / 2) := pk_div (d := 2) (by omega) (by decide) (by decide)
    rw [r_X12_price_259, h6, if_neg (show ¬ nI f < nI f from nI_nlt (Nat.le_refl _) (by omega)), ite_ref, e12, e1, e2]
    by_cases q : nI (pcn S f) < u.1 64 77
    · rw [if_pos q, if_pos q]
    · rw [if_neg q, if_neg q]
      unfold plc
      by_cases q0 : a4 = 0
      · rw [if_pos q0, if_pos q0]; rfl
      · rw [if_neg q0, if_neg q0]
        by_cases q1 : a4 = 1
        · rw [if_pos q1, if_pos q1]
        · rw [if_neg q1, if_neg q1]
  | succ m ih =>
    intro f hf
    have ih := ih (f + 1) (by omega)
    rw [pcn] at ih
    rw [r_X12_price_259, h6, if_pos (show nI f < nI nF from nI_lt (by omega) (by omega)), i32_shr (shr_fm f (by omega)) (by omega), show (1 : Int32) = nI (2 ^ 1 - 1) from rfl, i32_mask (by have := Nat.div_le_self S (2 ^ f); omega) (by decide), nI_add, show nI (2 ^ 1 - 1) = (1 : Int32) from rfl, nI_1]
    exact ih
