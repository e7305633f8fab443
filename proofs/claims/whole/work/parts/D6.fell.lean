/-! ===== FELL: what a family turned by ===== -/
abbrev lI (z : Int) : Int64 := Int64.ofInt z
theorem lI_add (a b : Int) : lI a + lI b = lI (a + b) := (Int64.ofInt_add a b).symm
theorem lI_sub (a b : Int) : lI a - lI b = lI (a - b) := (Int64.ofInt_sub a b).symm
theorem lI_mul (a b : Int) : lI a * lI b = lI (a * b) := (Int64.ofInt_mul a b).symm
theorem lI_toInt {z : Int} (h1 : -2 ^ 63 ≤ z) (h2 : z < 2 ^ 63) : (lI z).toInt = z := Int64.toInt_ofInt_of_le h1 h2
theorem lI_n {n : Nat} (h : n < 2 ^ 63) : lN n = lI n := Int64.toInt_inj.mp (by rw [pf_lI h, lI_toInt (by omega) (by omega)])
theorem nI_lI {p : Nat} (h : p < 2 ^ 31) : (nI p).toInt64 = lI p := by rw [nI_to64 h, lI_n (by omega)]
theorem neg_lI {p : Nat} (h : p < 2 ^ 31) : (-nI p).toInt64 = lI (-(p : Int)) := by
  apply Int64.toInt_inj.mp
  rw [Int32.toInt_toInt64, iI_n h, ← Int32.ofInt_neg, iI_toInt (by omega) (by omega), lI_toInt (by omega) (by omega)]
def skN (w : pb_W) (Es : List (List Rl)) (E : Nat) (kd f wk : Int32) : Nat → Nat
  | 0 => 0
  | i + 1 => if wn w i f wk ∧ (kd = -1 ∨ (vv w Es E i).2.1 = kd) then skN w Es E kd f wk i + pcN w i else skN w Es E kd f wk i
theorem spk_sk {w : pb_W} {n : Nat} (hN : LN w n) (Es : List (List Rl)) (E : Nat) (kd f wk : Int32) : ∀ i, i ≤ n → spk w Es E kd f wk i = nI (skN w Es E kd f wk i) ∧ skN w Es E kd f wk i ≤ 20000 * i
  | 0, _ => ⟨rfl, Nat.zero_le _⟩
  | i + 1, h => by
    obtain ⟨s1, s2⟩ := spk_sk hN Es E kd f wk i (by omega)
    obtain ⟨p1, p2, p3⟩ := hN.pc i (by omega)
    rw [spk, skN]
    by_cases q : wn w i f wk ∧ (kd = -1 ∨ (vv w Es E i).2.1 = kd)
    · rw [if_pos q, if_pos q, s1, p1, nI_add]
      exact ⟨rfl, by omega⟩
    · rw [if_neg q, if_neg q]
      exact ⟨s1, by omega⟩
def dfS (w : pb_W) (Es : List (List Rl)) (E : Nat) (kd f : Int32) (lo m i : Nat) : Nat → Int
  | 0 => 0
  | j + 1 => dfS w Es E kd f lo m i j + if j < m then -(skN w Es E kd f (nI (lo + j)) i : Int) else (skN w Es E kd f (nI (lo + j)) i : Int)
abbrev tnP (w : pb_W) (Es : List (List Rl)) (E : Nat) (kd f : Int32) (lo j i : Nat) : Prop := wf w i f ∧ (kd = -1 ∨ (vv w Es E i).2.1 = kd) ∧ lo ≤ wkN w i ∧ wkN w i < lo + j
def tnS (w : pb_W) (Es : List (List Rl)) (E : Nat) (kd f : Int32) (lo m : Nat) : Nat → Int
  | 0 => 0
  | i + 1 => if tnP w Es E kd f lo (2 * m) i then tnS w Es E kd f lo m i + (if wkN w i < lo + m then -(pcN w i : Int) else (pcN w i : Int)) else tnS w Es E kd f lo m i
theorem df_step {w : pb_W} {n : Nat} (hN : LN w n) (Es : List (List Rl)) (E : Nat) (kd f : Int32) (lo m : Nat) {i : Nat} (hi : i < n) : ∀ j, lo + j ≤ 520 → dfS w Es E kd f lo m (i + 1) j = dfS w Es E kd f lo m i j + if tnP w Es E kd f lo j i then (if wkN w i < lo + m then -(pcN w i : Int) else (pcN w i : Int)) else 0
  | 0, _ => by
    rw [dfS, dfS, if_neg (fun z => by have := z.2.2; omega)]
    rfl
  | j + 1, h => by
    have ih := df_step hN Es E kd f lo m hi j (by omega)
    obtain ⟨w1, w2⟩ := hN.wk i hi
    have e9 : w.1 9 i = nI (lo + j) ↔ wkN w i = lo + j := by
      rw [w1]
      exact nI_eq (by omega) (by omega)
    rw [dfS, dfS, ih, skN]
    by_cases q : wkN w i = lo + j
    · by_cases c : wf w i f ∧ (kd = -1 ∨ (vv w Es E i).2.1 = kd)
      · have t : wn w i f (nI (lo + j)) ∧ (kd = -1 ∨ (vv w Es E i).2.1 = kd) := ⟨⟨e9.mpr q, c.1⟩, c.2⟩
        rw [if_neg (show ¬ tnP w Es E kd f lo j i from fun z => by have := z.2.2.2; omega), if_pos t, if_pos (show tnP w Es E kd f lo (j + 1) i from ⟨c.1, c.2, by omega, by omega⟩)]
        by_cases z : j < m
        · rw [if_pos z, if_pos z, if_pos (by omega)]
          omega
        · rw [if_neg z, if_neg z, if_neg (by omega)]
          omega
      · have t : ¬ (wn w i f (nI (lo + j)) ∧ (kd = -1 ∨ (vv w Es E i).2.1 = kd)) := fun z => c ⟨z.1.2, z.2⟩
        rw [if_neg (show ¬ tnP w Es E kd f lo j i from fun z => c ⟨z.1, z.2.1⟩), if_neg t, if_neg (show ¬ tnP w Es E kd f lo (j + 1) i from fun z => c ⟨z.1, z.2.1⟩)]
        omega
    · have t : ¬ (wn w i f (nI (lo + j)) ∧ (kd = -1 ∨ (vv w Es E i).2.1 = kd)) := fun z => q (e9.mp z.1.1)
      rw [if_neg t]
      by_cases c : tnP w Es E kd f lo j i
      · rw [if_pos c, if_pos (show tnP w Es E kd f lo (j + 1) i from ⟨c.1, c.2.1, c.2.2.1, by have := c.2.2.2; omega⟩)]
        omega
      · rw [if_neg c, if_neg (fun z : tnP w Es E kd f lo (j + 1) i => c ⟨z.1, z.2.1, z.2.2.1, by have := z.2.2.2; omega⟩)]
        omega
theorem df_0 (w : pb_W) (Es : List (List Rl)) (E : Nat) (kd f : Int32) (lo m : Nat) : ∀ j, dfS w Es E kd f lo m 0 j = 0
  | 0 => rfl
  | j + 1 => by
    rw [dfS, df_0 w Es E kd f lo m j, skN]
    split <;> rfl
theorem df_tn {w : pb_W} {n : Nat} (hN : LN w n) (Es : List (List Rl)) (E : Nat) (kd f : Int32) (lo m : Nat) (h : lo + 2 * m ≤ 520) : ∀ i, i ≤ n → dfS w Es E kd f lo m i (2 * m) = tnS w Es E kd f lo m i
  | 0, _ => df_0 w Es E kd f lo m (2 * m)
  | i + 1, hi => by
    rw [df_step hN Es E kd f lo m (show i < n by omega) (2 * m) h, df_tn hN Es E kd f lo m h i (by omega), tnS]
    by_cases c : tnP w Es E kd f lo (2 * m) i
    · rw [if_pos c, if_pos c]
    · rw [if_neg c, if_neg c, Int.add_zero]
theorem tn_le {w : pb_W} {n : Nat} (hN : LN w n) (Es : List (List Rl)) (E : Nat) (kd f : Int32) (lo m : Nat) : ∀ i, i ≤ n → -(20000 * i : Int) ≤ tnS w Es E kd f lo m i ∧ tnS w Es E kd f lo m i ≤ 20000 * i
  | 0, _ => ⟨by simp [tnS], by simp [tnS]⟩
  | i + 1, hi => by
    obtain ⟨a, b⟩ := tn_le hN Es E kd f lo m i (by omega)
    obtain ⟨p1, p2, p3⟩ := hN.pc i (by omega)
    rw [tnS]
    split
    · split <;> omega
    · omega
theorem tn_sb {w v : pb_W} (h : SB w v) (Es : List (List Rl)) (E : Nat) (kd f : Int32) (lo m : Nat) : ∀ i, tnS v Es E kd f lo m i = tnS w Es E kd f lo m i
  | 0 => rfl
  | i + 1 => by
    have e : tnP v Es E kd f lo (2 * m) i ↔ tnP w Es E kd f lo (2 * m) i := by
      unfold tnP
      rw [wf_sv (SB_S h), SB_vv h, wkN_sv (SB_S h)]
    rw [tnS, tnS, tn_sb h Es E kd f lo m i]
    by_cases q : tnP w Es E kd f lo (2 * m) i
    · rw [if_pos q, if_pos (e.mpr q), wkN_sv (SB_S h), pcN_sv (SB_S h)]
    · rw [if_neg q, if_neg (fun z => q (e.mp z))]
theorem cx_turn {u : pb_W} {n E : Nat} {Es : List (List Rl)} (hB : BS u n Es) (hE : E < Es.length) (V : JV u Es n E) (kd f : Int32) {lo m : Nat} (hm : 1 ≤ m) (hm2 : m ≤ 26) (h520 : lo + 2 * m ≤ 520) : ∀ r i, i + r = n → pb_run T_X2_turn (6, [some (.ref 61), some (.int f), some (.int (nI (lo + m))), some (.int kd), some (.int (nI E)), some (.int (nI m)), some (.long (lI (tnS u Es E kd f lo m i))), none, some (.int (nI i)), none, none], [], u) = some (some (.long (lI (tnS u Es E kd f lo m n))), u) := by
  have n2 := hB.2.1.le
  intro r
  induction r with
  | zero =>
    intro i hi
    rw [r_X2_turn_6, hB.2.1.n5, if_neg (show ¬ nI i < nI n from nI_nlt (by omega) (by omega)), show i = n by omega]
  | succ r ih =>
    intro i hi
    have ih := ih (i + 1) (by omega)
    rw [tnS] at ih
    obtain ⟨w1, w2⟩ := hB.2.1.wk i (by omega)
    obtain ⟨p1, p2, p3⟩ := hB.2.1.pc i (by omega)
    have i2 : pb_in (nI i) 200 := pn_in (by omega) (by decide)
    have x : nI (wkN u i) - nI (lo + m) = iI ((wkN u i : Int) - ((lo + m : Nat) : Int)) := by rw [iI_n (by omega), iI_n (by omega), iI_sub]
    have em : -nI m = iI (-(m : Int)) := by
      rw [iI_n (by omega)]
      exact (Int32.ofInt_neg (m : Int)).symm
    have e1 : nI m - (1 : Int32) = iI ((m : Int) - 1) := by rw [iI_n (by omega), show (1 : Int32) = iI 1 from rfl, iI_sub]
    have out : (iI ((wkN u i : Int) - ((lo + m : Nat) : Int)) < iI (-(m : Int)) ∨ iI ((m : Int) - 1) < iI ((wkN u i : Int) - ((lo + m : Nat) : Int))) ↔ ¬ (lo ≤ wkN u i ∧ wkN u i < lo + 2 * m) := by
      rw [iI_lt (by omega) (by omega) (by omega) (by omega), iI_lt (by omega) (by omega) (by omega) (by omega)]
      omega
    have sgn : iI ((wkN u i : Int) - ((lo + m : Nat) : Int)) < 0 ↔ wkN u i < lo + m := by
      rw [show (0 : Int32) = iI 0 from rfl, iI_lt (by omega) (by omega) (by omega) (by omega)]
      omega
    rw [r_X2_turn_6, hB.2.1.n5, if_pos (show nI i < nI n from nI_lt (by omega) (by omega)), if_pos i2, nI_clamp (by omega), w1, x, em, e1, M_outside, pb_bI_some]
    by_cases q : lo ≤ wkN u i ∧ wkN u i < lo + 2 * m
    · rw [if_neg (fun z => out.mp z q), if_pos rfl, r_X2_turn_52, if_neg (show ¬ (1 : Int32) = 0 by decide), M_wentFrom2 (show i < 200 by omega), pb_bI_some, nI_1]
      by_cases qf : wf u i f
      · rw [if_pos qf, if_neg (show ¬ (1 : Int32) = 0 by decide), M_isOn hB hE V (show i < n by omega), pb_bI_some]
        by_cases qk : kd = -1 ∨ (vv u Es E i).2.1 = kd
        · rw [if_pos (show tnP u Es E kd f lo (2 * m) i from ⟨qf, qk, q⟩)] at ih
          rw [if_pos qk, if_neg (show ¬ (1 : Int32) = 0 by decide), if_pos i2, if_pos i2, nI_clamp (by omega), p1]
          by_cases z : wkN u i < lo + m
          · rw [if_pos z] at ih
            rw [if_pos (sgn.mpr z), neg_lI (by omega), lI_add]
            exact ih
          · rw [if_neg z] at ih
            rw [if_neg (fun y => z (sgn.mp y)), nI_lI (by omega), lI_add]
            exact ih
        · rw [if_neg (fun z : tnP u Es E kd f lo (2 * m) i => qk z.2.1)] at ih
          rw [if_neg qk, if_pos rfl]
          exact ih
      · rw [if_neg (fun z : tnP u Es E kd f lo (2 * m) i => qf z.1)] at ih
        rw [if_neg qf, if_pos rfl]
        exact ih
    · rw [if_neg (fun z : tnP u Es E kd f lo (2 * m) i => q z.2.2)] at ih
      rw [if_pos (out.mpr q), if_neg (show ¬ (1 : Int32) = 0 by decide), r_X2_turn_52, if_pos rfl, nI_1]
      exact ih
theorem M_turn {u : pb_W} {n E : Nat} {Es : List (List Rl)} (hB : BS u n Es) (hE : E < Es.length) (V : JV u Es n E) (kd f : Int32) {lo m : Nat} (hm : 1 ≤ m) (hm2 : m ≤ 26) (h520 : lo + 2 * m ≤ 520) : M_X2_turn [.ref 61, .int f, .int (nI (lo + m)), .int kd, .int (nI E), .int (nI m)] u = some (some (.long (lI (tnS u Es E kd f lo m n))), u) := by
  rw [e_X2_turn]
  exact cx_turn hB hE V kd f hm hm2 h520 n 0 (by omega)
theorem mx_diff {u : pb_W} {n E : Nat} {Es : List (List Rl)} (hB : BS u n Es) (hE : E < Es.length) (kd f : Int32) {lo m : Nat} (hm2 : m ≤ 26) (h520 : lo + 2 * m ≤ 520) : ∀ r j v, j + r = 2 * m → SB u v → ∃ v', pb_run T_X12_differs (9, [some (.ref 64), some (.int f), some (.int (nI (lo + m))), some (.int kd), some (.int (nI E)), some (.int (nI m)), some (.long (lI (dfS u Es E kd f lo m n j))), none, some (.int (nI (lo + j)))], [], v) = some (some (.long (lI (dfS u Es E kd f lo m n (2 * m)))), v') ∧ fr fI_so fJ_so v v' := by
  intro r
  induction r with
  | zero =>
    intro j v hj S
    refine ⟨v, ?_, fr_rf v⟩
    rw [r_X12_differs_9, nI_add, if_neg (show ¬ nI (lo + j) < nI (lo + m + m) from nI_nlt (by omega) (by omega)), show j = 2 * m by omega]
  | succ r ih =>
    intro j v hj S
    obtain ⟨v1, a1, a2⟩ := M_spentOf12 hB hE S kd f (nI (lo + j))
    obtain ⟨s1, s2⟩ := spk_sk hB.2.1 Es E kd f (nI (lo + j)) n (Nat.le_refl n)
    have n2 := hB.2.1.le
    obtain ⟨v', b1, b2⟩ := ih (j + 1) v1 (by omega) (SB_tr S (so_SB a2))
    refine ⟨v', ?_, fr_tr a2 b2⟩
    rw [dfS] at b1
    rw [r_X12_differs_9, nI_add, if_pos (show nI (lo + j) < nI (lo + m + m) from nI_lt (by omega) (by omega)), ite_lt (show lo + j < 2 ^ 31 by omega) (show lo + m < 2 ^ 31 by omega), a1, pb_bI_some, pb_bI_some, s1, neg_lI (by omega), nI_lI (by omega), lI_add, lI_add, nI_1]
    by_cases q : j < m
    · rw [if_pos q] at b1
      rw [if_pos (show lo + j < lo + m by omega)]
      exact b1
    · rw [if_neg q] at b1
      rw [if_neg (show ¬ lo + j < lo + m by omega)]
      exact b1
theorem M_differs {u v : pb_W} {n E : Nat} {Es : List (List Rl)} (hB : BS u n Es) (hE : E < Es.length) (S : SB u v) (kd f : Int32) {lo m : Nat} (hm2 : m ≤ 26) (h520 : lo + 2 * m ≤ 520) : ∃ v', M_X12_differs [.ref 64, .int f, .int (nI (lo + m)), .int kd, .int (nI E), .int (nI m)] v = some (some (.long (lI (tnS u Es E kd f lo m n))), v') ∧ fr fI_so fJ_so v v' := by
  rw [e_X12_differs, nI_subN (show m ≤ lo + m by omega), show lo + m - m = lo by omega, ← df_tn hB.2.1 Es E kd f lo m h520 n (Nat.le_refl n)]
  exact mx_diff hB hE kd f hm2 h520 (2 * m) 0 v (by omega) S
