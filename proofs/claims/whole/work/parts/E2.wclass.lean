/-! ===== WEIGHTS: the class ===== -/
def pS (f : Nat → Int) : Nat → Int
  | 0 => 0
  | c + 1 => pS f c + f c
theorem pS_4 (f : Nat → Int) : pS f 4 = S4 f := by
  show 0 + f 0 + f 1 + f 2 + f 3 = _
  unfold S4
  omega
theorem ap8_p (L : Nat → Int) : pS (fun k => ((L k).natAbs : Int)) 8 = ap8 L := by
  show 0 + ((L 0).natAbs : Int) + (L 1).natAbs + (L 2).natAbs + (L 3).natAbs + (L 4).natAbs + (L 5).natAbs + (L 6).natAbs + (L 7).natAbs = _
  unfold ap8 S4
  show _ = ((L 0).natAbs : Int) + (L 1).natAbs + (L 2).natAbs + (L 3).natAbs + (((L 4).natAbs : Int) + (L 5).natAbs + (L 6).natAbs + (L 7).natAbs)
  omega
theorem pS_b {f : Nat → Int} {B : Int} : ∀ n, (∀ k, k < n → 0 ≤ f k ∧ f k ≤ B) → 0 ≤ pS f n ∧ pS f n ≤ B * n
  | 0, _ => ⟨Int.le_refl 0, by simp [pS]⟩
  | n + 1, h => by
    obtain ⟨a, b⟩ := pS_b n (fun k hk => h k (by omega))
    obtain ⟨c, d⟩ := h n (by omega)
    rw [pS]
    refine ⟨by omega, ?_⟩
    rw [show ((n + 1 : Nat) : Int) = n + 1 by omega, Int.mul_add, Int.mul_one]
    omega
theorem iI_abs {z : Int} (h1 : -2 ^ 30 ≤ z) (h2 : z ≤ 2 ^ 30) : pb_abs (iI z) = iI (z.natAbs : Int) := by
  unfold pb_abs
  by_cases q : 0 ≤ z
  · rw [if_pos (by rw [pn_le, iI_toInt (by omega) (by omega), show (0 : Int32).toInt = 0 from rfl]; exact q)]
    congr 1
    omega
  · rw [if_neg (by rw [pn_le, iI_toInt (by omega) (by omega), show (0 : Int32).toInt = 0 from rfl]; exact q), show (0 : Int32) = iI 0 from rfl, iI_sub]
    congr 1
    omega
theorem iI_max0 {z : Int} (h1 : -2 ^ 30 ≤ z) (h2 : z ≤ 2 ^ 30) : pb_max (0 : Int32) (iI z) = iI (max 0 z) := by
  unfold pb_max
  have q : (0 : Int32) < iI z ↔ 0 < z := by rw [show (0 : Int32) = iI 0 from rfl, iI_lt (by omega) (by omega) (by omega) (by omega)]
  by_cases h : 0 < z
  · rw [if_pos (q.mpr h)]
    congr 1
    omega
  · rw [if_neg (fun y => h (q.mp y)), show (0 : Int32) = iI 0 from rfl]
    congr 1
    omega
theorem iI_min {a b : Int} (a1 : -2 ^ 30 ≤ a) (a2 : a ≤ 2 ^ 30) (b1 : -2 ^ 30 ≤ b) (b2 : b ≤ 2 ^ 30) : pb_min (iI a) (iI b) = iI (min a b) := by
  unfold pb_min
  have q : iI b < iI a ↔ b < a := iI_lt (by omega) (by omega) (by omega) (by omega)
  by_cases h : b < a
  · rw [if_pos (q.mpr h)]
    congr 1
    omega
  · rw [if_neg (fun y => h (q.mp y))]
    congr 1
    omega
/-- what lies in the class's rows -/
def LRw (v : pb_W) (L R : Nat → Int) : Prop := (∀ k, k < 8 → v.1 59 k = iI (L k) ∧ -200 ≤ L k ∧ L k ≤ 200) ∧ ∀ j, j < 16 → v.1 60 j = iI (R j) ∧ 0 ≤ R j ∧ R j ≤ 32
theorem bitI {x c : Nat} (hx : x < 16) (hc : c < 4) : (nI x >>> (nI c &&& 31)) &&& (1 : Int32) = if x.testBit c = true then 1 else 0 := by
  rw [i32_shr (shr_fm c (by omega)) (by omega), show (1 : Int32) = nI (2 ^ 1 - 1) from rfl, i32_mask (by have := Nat.div_le_self x (2 ^ c); omega) (by decide)]
  have m := Nat.mod_lt (x / 2 ^ c) (show 0 < 2 by decide)
  by_cases q : x.testBit c = true
  · rw [if_pos q, show x / 2 ^ c % 2 ^ 1 = 1 from (tb_eq x c).mpr q]
  · rw [if_neg q, show x / 2 ^ c % 2 ^ 1 = 0 by
      have : ¬ x / 2 ^ c % 2 = 1 := fun z => q ((tb_eq x c).mp z)
      show x / 2 ^ c % 2 = 0
      omega]
    rfl
theorem cA_b {L : Nat → Int} (hL : ∀ k, k < 8 → -200 ≤ L k ∧ L k ≤ 200) (x : Nat) {c : Nat} (hc : c < 4) : 0 ≤ cA L x c ∧ cA L x c ≤ 200 := by
  have := hL c (by omega)
  unfold cA
  split <;> omega
theorem rch_b {R : Nat → Int} (hR : ∀ j, j < 16 → 0 ≤ R j ∧ R j ≤ 32) (x : Nat) {l : Nat} (hl : l < 4) : 0 ≤ rch R x l ∧ rch R x l ≤ 128 := by
  have h := pS_b (f := fun c => if x.testBit c = true then R (4 * c + l) else 0) (B := 32) 4 (fun c hc => by
    have := hR (4 * c + l) (by omega)
    show 0 ≤ (if x.testBit c = true then R (4 * c + l) else 0) ∧ (if x.testBit c = true then R (4 * c + l) else 0) ≤ 32
    split <;> omega)
  rw [pS_4] at h
  unfold rch
  exact ⟨h.1, by have := h.2; omega⟩
theorem cut_b {L R : Nat → Int} (hL : ∀ k, k < 8 → -200 ≤ L k ∧ L k ≤ 200) (hR : ∀ j, j < 16 → 0 ≤ R j ∧ R j ≤ 32) (x : Nat) : 0 ≤ cut L R x ∧ cut L R x ≤ 1600 := by
  have h1 := pS_b (f := cA L x) (B := 200) 4 (fun c hc => cA_b hL x hc)
  have h2 := pS_b (f := fun l => min (rch R x l) (max 0 (L (4 + l)))) (B := 200) 4 (fun l hl => by
    have := rch_b hR x hl
    have := hL (4 + l) (by omega)
    show 0 ≤ min (rch R x l) (max 0 (L (4 + l))) ∧ min (rch R x l) (max 0 (L (4 + l))) ≤ 200
    omega)
  rw [pS_4] at h1 h2
  unfold cut
  omega
theorem cx_reach {v : pb_W} {L R : Nat → Int} (h : LRw v L R) {x l : Nat} (hx : x < 16) (hl : l < 4) (a2 : Int32) : ∀ r c, c + r = 4 → pb_run T_X10_cutBehind (49, [some (.ref 57), some (.int (nI x)), some (.int a2), some (.int (nI l)), some (.int (iI (pS (fun c => if x.testBit c = true then R (4 * c + l) else 0) c))), some (.int (nI c))], [], v) = pb_run T_X10_cutBehind (38, [some (.ref 57), some (.int (nI x)), some (.int (a2 + iI (min (rch R x l) (max 0 (L (4 + l)))))), some (.int (nI (l + 1))), none, none], [], v) := by
  have hR : ∀ j, j < 16 → 0 ≤ R j ∧ R j ≤ 32 := fun j hj => (h.2 j hj).2
  intro r
  induction r with
  | zero =>
    intro c hc
    have hc : c = 4 := by omega
    subst hc
    have rb := rch_b hR x hl
    obtain ⟨l1, l2, l3⟩ := h.1 (4 + l) (by omega)
    rw [r_X10_cutBehind_49, if_neg (show ¬ nI 4 < (4 : Int32) by decide), show (4 : Int32) + nI l = nI (4 + l) from nI_add 4 l, if_pos (pn_in (show 4 + l < 8 by omega) (by decide)), nI_clamp (show 4 + l < 2 ^ 31 by omega), l1, iI_max0 (by omega) (by omega), pS_4, show S4 (fun c => if x.testBit c = true then R (4 * c + l) else 0) = rch R x l from rfl, iI_min (by omega) (by omega) (by omega) (by omega), nI_1]
  | succ r ih =>
    intro c hc
    have ih := ih (c + 1) (by omega)
    rw [pS] at ih
    obtain ⟨r1, r2, r3⟩ := h.2 (4 * c + l) (by omega)
    rw [r_X10_cutBehind_49, if_pos (show nI c < (4 : Int32) from nI_lt (b := 4) (by omega) (by decide)), show nI c * (4 : Int32) + nI l = nI (4 * c + l) by rw [show (4 : Int32) = nI 4 from rfl, pn_mul, nI_add, Nat.mul_comm], if_pos (pn_in (show 4 * c + l < 16 by omega) (by decide)), nI_clamp (show 4 * c + l < 2 ^ 31 by omega), r1, bitI hx (by omega), nI_1]
    refine Eq.trans ?_ ih
    congr 1
    by_cases q : x.testBit c = true
    · rw [if_pos q, if_pos q, Int32.one_mul, iI_add]
    · rw [if_neg q, if_neg q, Int32.zero_mul, Int32.add_zero, Int.add_zero]
theorem cx_cut2 {v : pb_W} {L R : Nat → Int} (h : LRw v L R) {x : Nat} (hx : x < 16) (z : Int) : ∀ r l, l + r = 4 → pb_run T_X10_cutBehind (38, [some (.ref 57), some (.int (nI x)), some (.int (iI (z + pS (fun l => min (rch R x l) (max 0 (L (4 + l)))) l))), some (.int (nI l)), none, none], [], v) = some (some (.int (iI (z + pS (fun l => min (rch R x l) (max 0 (L (4 + l)))) 4))), v) := by
  intro r
  induction r with
  | zero =>
    intro l hl
    have hl : l = 4 := by omega
    subst hl
    rw [r_X10_cutBehind_38, if_neg (show ¬ nI 4 < (4 : Int32) by decide)]
  | succ r ih =>
    intro l hl
    have ih := ih (l + 1) (by omega)
    rw [pS, ← Int.add_assoc, ← iI_add] at ih
    rw [r_X10_cutBehind_38, if_pos (show nI l < (4 : Int32) from nI_lt (b := 4) (by omega) (by decide))]
    exact (cx_reach h hx (show l < 4 by omega) _ 4 0 (by omega)).trans ih
theorem cx_cut1 {v : pb_W} {L R : Nat → Int} (h : LRw v L R) {x : Nat} (hx : x < 16) : ∀ r c, c + r = 4 → pb_run T_X10_cutBehind (4, [some (.ref 57), some (.int (nI x)), some (.int (iI (pS (cA L x) c))), some (.int (nI c)), none, none], [], v) = some (some (.int (iI (cut L R x))), v) := by
  intro r
  induction r with
  | zero =>
    intro c hc
    have hc : c = 4 := by omega
    subst hc
    have e := cx_cut2 h hx (pS (cA L x) 4) 4 0 (by omega)
    rw [show pS (fun l => min (rch R x l) (max 0 (L (4 + l)))) 0 = 0 from rfl, Int.add_zero, pS_4, pS_4] at e
    rw [r_X10_cutBehind_4, if_neg (show ¬ nI 4 < (4 : Int32) by decide), pS_4]
    exact e
  | succ r ih =>
    intro c hc
    have ih := ih (c + 1) (by omega)
    rw [pS] at ih
    obtain ⟨l1, l2, l3⟩ := h.1 c (by omega)
    rw [r_X10_cutBehind_4, if_pos (show nI c < (4 : Int32) from nI_lt (b := 4) (by omega) (by decide)), bitI hx (show c < 4 by omega), if_pos (pn_in (show c < 8 by omega) (by decide)), nI_clamp (show c < 2 ^ 31 by omega), l1, iI_max0 (by omega) (by omega), iI_add, nI_1]
    by_cases q : x.testBit c = true
    · rw [show cA L x c = 0 from if_pos q, Int.add_zero] at ih
      rw [if_pos q, if_neg (show ¬ (1 : Int32) = 0 by decide)]
      exact ih
    · rw [show cA L x c = max 0 (L c) from if_neg q] at ih
      rw [if_neg q, if_pos rfl]
      exact ih
theorem M_cutB {v : pb_W} {L R : Nat → Int} (h : LRw v L R) {x : Nat} (hx : x < 16) : M_X10_cutBehind [.ref 57, .int (nI x)] v = some (some (.int (iI (cut L R x))), v) := by
  rw [e_X10_cutBehind]
  exact cx_cut1 h hx 4 0 (by omega)
theorem ap8_b {L : Nat → Int} (hL : ∀ k, k < 8 → -200 ≤ L k ∧ L k ≤ 200) : 0 ≤ ap8 L ∧ ap8 L ≤ 1600 := by
  have h1 := pS_b (f := fun k => ((L k).natAbs : Int)) (B := 200) 8 (fun k hk => by
    have := hL k hk
    show 0 ≤ ((L k).natAbs : Int) ∧ ((L k).natAbs : Int) ≤ 200
    omega)
  rw [ap8_p] at h1
  omega
theorem fm_b {L R : Nat → Int} (hL : ∀ k, k < 8 → -200 ≤ L k ∧ L k ≤ 200) (hR : ∀ j, j < 16 → 0 ≤ R j ∧ R j ≤ 32) : ∀ x, 0 ≤ fm L R x ∧ fm L R x ≤ 1600
  | 0 => ap8_b hL
  | x + 1 => by
    have := fm_b hL hR x
    have := cut_b hL hR x
    rw [fm]
    omega
theorem cx_least2 {v : pb_W} {L R : Nat → Int} (h : LRw v L R) : ∀ r x, x + r = 16 → pb_run T_X10_leastUnlike (32, [some (.ref 57), some (.int (iI (ap8 L))), some (.int (iI (fm L R x))), some (.int (nI x))], [], v) = some (some (.int (iI (Vw L R))), v) := by
  have hL : ∀ k, k < 8 → -200 ≤ L k ∧ L k ≤ 200 := fun j hj => (h.1 j hj).2
  have hR : ∀ j, j < 16 → 0 ≤ R j ∧ R j ≤ 32 := fun j hj => (h.2 j hj).2
  intro r
  induction r with
  | zero =>
    intro x hx
    have hx : x = 16 := by omega
    subst hx
    rw [r_X10_leastUnlike_32, if_neg (show ¬ nI 16 < (16 : Int32) by decide), show (2 : Int32) = iI 2 from rfl, iI_mul, iI_sub]
    rfl
  | succ r ih =>
    intro x hx
    have ih := ih (x + 1) (by omega)
    rw [fm] at ih
    have a := fm_b hL hR x
    have b := cut_b hL hR x
    rw [r_X10_leastUnlike_32, if_pos (show nI x < (16 : Int32) from nI_lt (b := 16) (by omega) (by decide)), M_cutB h (by omega), pb_bI_some, iI_min (by omega) (by omega) (by omega) (by omega), nI_1]
    exact ih
theorem cx_least1 {v : pb_W} {L R : Nat → Int} (h : LRw v L R) : ∀ r k, k + r = 8 → pb_run T_X10_leastUnlike (4, [some (.ref 57), some (.int (iI (pS (fun k => ((L k).natAbs : Int)) k))), some (.int (nI k)), none], [], v) = some (some (.int (iI (Vw L R))), v) := by
  intro r
  induction r with
  | zero =>
    intro k hk
    have hk : k = 8 := by omega
    subst hk
    rw [r_X10_leastUnlike_4, if_neg (show ¬ nI 8 < (8 : Int32) by decide), ap8_p]
    exact cx_least2 h 16 0 (by omega)
  | succ r ih =>
    intro k hk
    have ih := ih (k + 1) (by omega)
    rw [pS] at ih
    obtain ⟨l1, l2, l3⟩ := h.1 k (by omega)
    rw [r_X10_leastUnlike_4, if_pos (show nI k < (8 : Int32) from nI_lt (b := 8) (by omega) (by decide)), if_pos (pn_in (show k < 8 by omega) (by decide)), nI_clamp (show k < 2 ^ 31 by omega), l1, iI_abs (by omega) (by omega), iI_add, nI_1]
    exact ih
theorem M_least {v : pb_W} {L R : Nat → Int} (h : LRw v L R) : M_X10_leastUnlike [.ref 57] v = some (some (.int (iI (Vw L R))), v) := by
  rw [e_X10_leastUnlike]
  exact cx_least1 h 8 0 (by omega)
theorem Vw_b {L R : Nat → Int} (hL : ∀ k, k < 8 → -200 ≤ L k ∧ L k ≤ 200) (hR : ∀ j, j < 16 → 0 ≤ R j ∧ R j ≤ 32) : -4000 ≤ Vw L R ∧ Vw L R ≤ 4000 := by
  have a := ap8_b hL
  have b := fm_b hL hR 16
  unfold Vw
  omega
/-- the least weight that serves -/
def gT (L R : Nat → Int) (c l : Nat) (V0 : Int) : Nat → Nat → Nat
  | 0, t => t
  | r + 1, t => if V0 < Vw (dl L c l t) R then gT L R c l V0 r (t + 1) else t
theorem gT_le (L R : Nat → Int) (c l : Nat) (V0 : Int) : ∀ r t, t ≤ gT L R c l V0 r t ∧ gT L R c l V0 r t ≤ t + r
  | 0, t => ⟨Nat.le_refl t, Nat.le_refl t⟩
  | r + 1, t => by
    have := gT_le L R c l V0 r (t + 1)
    rw [gT]
    split <;> omega
theorem gT_min (L R : Nat → Int) (c l : Nat) (V0 : Int) : ∀ (r t s : Nat), t ≤ s → s < gT L R c l V0 r t → V0 < Vw (dl L c l s) R
  | 0, t, s, h1, h2 => by
    rw [gT] at h2
    omega
  | r + 1, t, s, h1, h2 => by
    rw [gT] at h2
    by_cases q : V0 < Vw (dl L c l t) R
    · rw [if_pos q] at h2
      by_cases z : s = t
      · rw [z]; exact q
      · exact gT_min L R c l V0 r (t + 1) s (by omega) h2
    · rw [if_neg q] at h2
      omega
theorem gT_ok (L R : Nat → Int) (c l : Nat) (V0 : Int) : ∀ r t, (∃ s : Nat, t ≤ s ∧ s ≤ t + r ∧ Vw (dl L c l s) R ≤ V0) → Vw (dl L c l (gT L R c l V0 r t)) R ≤ V0
  | 0, t, ⟨s, h1, h2, h3⟩ => by
    rw [gT, show t = s by omega]
    exact h3
  | r + 1, t, ⟨s, h1, h2, h3⟩ => by
    rw [gT]
    by_cases q : V0 < Vw (dl L c l t) R
    · rw [if_pos q]
      refine gT_ok L R c l V0 r (t + 1) ⟨s, ?_, by omega, h3⟩
      by_cases z : s = t
      · rw [z] at h3
        omega
      · omega
    · rw [if_neg q]
      omega
def LgF (cl ld : Nat → Nat) (m : Nat → Int) (n M : Nat) (V0 : Int) : Nat → Nat → Int
  | 0 => m
  | f + 1 => dl (LgF cl ld m n M V0 f) (cl f) (ld f) (gT (LgF cl ld m n M V0 f) (Rr cl ld M n (f + 1)) (cl f) (ld f) V0 M 0)
def wtF (cl ld : Nat → Nat) (m : Nat → Int) (n M : Nat) (V0 : Int) (f : Nat) : Nat := gT (LgF cl ld m n M V0 f) (Rr cl ld M n (f + 1)) (cl f) (ld f) V0 M 0
theorem gr_mk {cl ld : Nat → Nat} {m : Nat → Int} {n M : Nat} {V0 : Int} (hc : ∀ f, f < n → cl f < 4 ∧ ld f < 4) (hV : V0 = Vw m (Rr cl ld M n 0)) : GR cl ld m n M V0 (wtF cl ld m n M V0) (LgF cl ld m n M V0) := by
  have key : ∀ f, f < n → Vw (LgF cl ld m n M V0 f) (Rr cl ld M n f) = V0 → Vw (LgF cl ld m n M V0 (f + 1)) (Rr cl ld M n (f + 1)) = V0 := by
    intro f hf e
    obtain ⟨c1, c2⟩ := hc f hf
    obtain ⟨v1, t, v2, v3⟩ := V_fam c1 c2 M (LgF cl ld m n M V0 f) (Rr cl ld M n f) (fun j _ => Rr_0 (by omega) j) (Rr_c hf)
    rw [← Rr_s] at v1 v3
    have g := gT_ok (LgF cl ld m n M V0 f) (Rr cl ld M n (f + 1)) (cl f) (ld f) V0 M 0 ⟨t, by omega, by omega, by omega⟩
    have b := v1 _ (show gT (LgF cl ld m n M V0 f) (Rr cl ld M n (f + 1)) (cl f) (ld f) V0 M 0 ≤ M by have := (gT_le (LgF cl ld m n M V0 f) (Rr cl ld M n (f + 1)) (cl f) (ld f) V0 M 0).2; omega)
    show Vw (dl (LgF cl ld m n M V0 f) (cl f) (ld f) _) _ = V0
    omega
  have all : ∀ f, f ≤ n → Vw (LgF cl ld m n M V0 f) (Rr cl ld M n f) = V0 := by
    intro f
    induction f with
    | zero => intro _; exact hV.symm
    | succ f ih => intro h; exact key f (by omega) (ih (by omega))
  refine ⟨rfl, fun f hf => ⟨?_, rfl, all (f + 1) (by omega), fun t ht => ?_⟩⟩
  · have := (gT_le (LgF cl ld m n M V0 f) (Rr cl ld M n (f + 1)) (cl f) (ld f) V0 M 0).2
    unfold wtF
    omega
  · exact gT_min _ _ _ _ _ M 0 t (by omega) ht
