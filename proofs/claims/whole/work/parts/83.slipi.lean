/-! ===== SLIPS: what a line's slips add ===== -/
def svt (p t : Nat) : Int := if p < t * 10 then 0 else (((p / t % 10 : Nat) : Int) - ((p / (t * 10) % 10 : Nat) : Int)) * 9 * (t : Int)
def sv (p x : Nat) : Int := if x = 1 then -(p : Int) else if x = 2 then (p : Int) else svt p (10 ^ (x - 3))
theorem svt_b {p t : Nat} (ht : t ≤ 1000) : -81000 ≤ svt p t ∧ svt p t ≤ 81000 := by
  unfold svt
  split
  · omega
  · have h1 := Nat.mod_lt (p / t) (show 10 > 0 by decide)
    have h2 := Nat.mod_lt (p / (t * 10)) (show 10 > 0 by decide)
    generalize p / t % 10 = a at *
    generalize p / (t * 10) % 10 = b at *
    have e : ((a : Int) - (b : Int)) * 9 * (t : Int) = ((a : Int) - b) * (9 * t) := by rw [Int.mul_assoc]
    rw [e]
    have l1 : (-9 : Int) ≤ (a : Int) - b := by omega
    have l2 : (a : Int) - b ≤ 9 := by omega
    have t0 : (0 : Int) ≤ 9 * (t : Int) := by omega
    have m1 := Int.mul_le_mul_of_nonneg_right l1 t0
    have m2 := Int.mul_le_mul_of_nonneg_right l2 t0
    constructor <;> omega
theorem pow_t {x : Nat} (h3 : 3 ≤ x) (h6 : x ≤ 6) : 1 ≤ 10 ^ (x - 3) ∧ 10 ^ (x - 3) ≤ 1000 := by
  have : x = 3 ∨ x = 4 ∨ x = 5 ∨ x = 6 := by omega
  rcases this with e | e | e | e <;> subst e <;> decide
theorem sv_b {p x : Nat} (hp : p ≤ 20000) (h1 : 1 ≤ x) (h6 : x ≤ 6) : -90000 ≤ sv p x ∧ sv p x ≤ 90000 := by
  unfold sv
  split
  · omega
  · split
    · omega
    · have := svt_b (p := p) (pow_t (x := x) (by omega) h6).2
      omega
theorem md10 {a : Nat} (ha : a < 2 ^ 31) : nI a - nI a / (10 : Int32) * (10 : Int32) = nI (a % 10) := by
  rw [show (10 : Int32) = nI 10 from rfl, pk_div ha (by decide) (by decide), pn_mul, nI_subN (by omega)]
  congr 1
  omega
theorem sv_e {p t : Nat} (hp : p ≤ 20000) (ht1 : 1 ≤ t) (ht : t ≤ 1000) (h : ¬ p < t * 10) : (nI (p / t % 10) - nI (p / (t * 10) % 10)) * (9 : Int32) * nI t = iI (svt p t) := by
  unfold svt
  rw [if_neg h, iI_n (show p / t % 10 < 2 ^ 31 by omega), iI_n (show p / (t * 10) % 10 < 2 ^ 31 by omega), iI_n (show t < 2 ^ 31 by omega), iI_sub, show (9 : Int32) = iI 9 by decide, iI_mul, iI_mul]
/-- what the class lists -/
theorem cx_list {b t x : Nat} {p : Nat} (hb : b + 6 < 63) (hp : p ≤ 20000) (ht1 : 1 ≤ t) (ht : t ≤ 1000) (hx : x < 7) (w : pb_W) : pb_run T_X6_listSlips (31, [some (.ref 31), some (.int (nI b)), some (.int (nI p)), some (.int (nI t)), some (.int (nI x)), none, none], [], w) = pb_run T_X6_listSlips (31, [some (.ref 31), some (.int (nI b)), some (.int (nI p)), some (.int (nI (t * 10))), some (.int (nI (x + 1))), none, none], [], pb_wI w 36 (b + x) (iI (svt p t))) := by
  have d1 : p / t ≤ p := Nat.div_le_self _ _
  have d2 : p / (t * 10) ≤ p := Nat.div_le_self _ _
  rw [r_X6_listSlips_31, if_pos (show nI x < (7 : Int32) from nI_lt (b := 7) hx (by decide)), show nI t * (10 : Int32) = nI (t * 10) from pn_mul t 10, if_neg (nI_ne0 (by omega) (by omega)), if_neg (nI_ne0 (by omega) (by omega)), nI_add, if_pos (pn_in (show b + x < 63 by omega) (by decide)), if_pos (pn_in (show b + x < 63 by omega) (by decide)), nI_clamp (show b + x < 2 ^ 31 by omega), nI_1, ite_lt (by omega) (by omega), pk_div (by omega) (by omega) (by omega), pk_div (by omega) (by omega) (by omega), md10 (by omega), md10 (by omega)]
  by_cases q : p < t * 10
  · rw [if_pos q]
    unfold svt
    rw [if_pos q]
    rfl
  · rw [if_neg q, sv_e hp ht1 ht q]
/-- the cell of what slips add, with one more line -/
def lsQ (Q : Nat → Int32) (b p : Nat) : Nat → Int32 := upd (upd (upd (upd (upd (upd (upd Q b (0 : Int32)) (b + 1) (iI (-(p : Int)))) (b + 2) (iI (p : Int))) (b + 3) (iI (svt p 1))) (b + 4) (iI (svt p 10))) (b + 5) (iI (svt p 100))) (b + 6) (iI (svt p 1000))
theorem lsQ_at (Q : Nat → Int32) (b p : Nat) : (∀ x, 1 ≤ x → x ≤ 6 → lsQ Q b p (b + x) = iI (sv p x)) ∧ ∀ k, k < b → lsQ Q b p k = Q k := by
  constructor
  · intro x h1 h6
    have : x = 1 ∨ x = 2 ∨ x = 3 ∨ x = 4 ∨ x = 5 ∨ x = 6 := by omega
    unfold lsQ
    rcases this with e | e | e | e | e | e <;> subst e <;> simp [pu_at, sv]
  · intro k hk
    unfold lsQ
    simp only [pu_at]
    rw [if_neg (by omega), if_neg (by omega), if_neg (by omega), if_neg (by omega), if_neg (by omega), if_neg (by omega), if_neg (by omega)]
theorem M_listSlips {b p : Nat} (hb : b + 6 < 63) (hp : p ≤ 20000) (w : pb_W) : M_X6_listSlips [.ref 31, .int (nI b), .int (nI p)] w = some (none, pb_wF w 36 (lsQ (w.1 36) b p)) := by
  have ng : -nI p = iI (-(p : Int)) := by rw [iI_n (by omega)]; exact (Int32.ofInt_neg _).symm
  have i2 : nI b + (2 : Int32) = nI (b + 2) := nI_add b 2
  rw [e_X6_listSlips, nI_1, i2, if_pos (pn_in (show b < 63 by omega) (by decide)), if_pos (pn_in (show b + 1 < 63 by omega) (by decide)), if_pos (pn_in (show b + 2 < 63 by omega) (by decide)), nI_clamp (show b < 2 ^ 31 by omega), nI_clamp (show b + 1 < 2 ^ 31 by omega), nI_clamp (show b + 2 < 2 ^ 31 by omega), ng, show (1 : Int32) = nI 1 from rfl, show (3 : Int32) = nI 3 from rfl, cx_list hb hp (by decide) (by decide) (by decide), cx_list hb hp (by decide) (by decide) (by decide), cx_list hb hp (by decide) (by decide) (by decide), cx_list hb hp (by decide) (by decide) (by decide), r_X6_listSlips_31, if_neg (show ¬ nI (3 + 1 + 1 + 1 + 1) < (7 : Int32) by decide)]
  congr 2
  refine Prod.ext (funext fun d => ?_) rfl
  by_cases d36 : d = 36
  · subst d36
    show upd (upd (upd (upd (upd (upd (upd (w.1 36) b (0 : Int32)) (b + 1) (iI (-(p : Int)))) (b + 2) (nI p)) (b + 3) (iI (svt p 1))) (b + 4) (iI (svt p 10))) (b + 5) (iI (svt p 100))) (b + 6) (iI (svt p 1000)) = lsQ (w.1 36) b p
    rw [iI_n (show p < 2 ^ 31 by omega)]
    rfl
  · simp [pw_I1, pw_F1, d36]
/-! the lines of a week -/
theorem gD1 (l r : List Nat) {j : Nat} (h : j < l.length) : (l ++ r).getD j 0 = l.getD j 0 := by rw [List.getD_eq_getElem?_getD, List.getD_eq_getElem?_getD, List.getElem?_append_left h]
theorem gD2 (l r : List Nat) {j : Nat} (h : l.length ≤ j) : (l ++ r).getD j 0 = r.getD (j - l.length) 0 := by rw [List.getD_eq_getElem?_getD, List.getD_eq_getElem?_getD, List.getElem?_append_right h]
def gat (w : pb_W) (f wk : Int32) : Nat → List Nat
  | 0 => []
  | i + 1 => if wn w i f wk then gat w f wk i ++ [i] else gat w f wk i
theorem gat_len (w : pb_W) (f wk : Int32) : ∀ i, (gat w f wk i).length ≤ i
  | 0 => Nat.le_refl 0
  | i + 1 => by
    have := gat_len w f wk i
    rw [gat]
    split
    · rw [List.length_append, List.length_singleton]; omega
    · omega
theorem gat_mono (w : pb_W) (f wk : Int32) (i : Nat) : ∀ j, (gat w f wk i).length ≤ (gat w f wk (i + j)).length
  | 0 => Nat.le_refl _
  | j + 1 => by
    have := gat_mono w f wk i j
    show _ ≤ (gat w f wk ((i + j) + 1)).length
    rw [gat]
    split
    · rw [List.length_append, List.length_singleton]; omega
    · exact this
theorem gat_get (w : pb_W) (f wk : Int32) : ∀ i j, j < (gat w f wk i).length → (gat w f wk i).getD j 0 < i ∧ wn w ((gat w f wk i).getD j 0) f wk
  | 0, j, h => by simp [gat] at h
  | i + 1, j, h => by
    rw [gat] at h ⊢
    by_cases t : wn w i f wk
    · rw [if_pos t] at h ⊢
      rw [List.length_append, List.length_singleton] at h
      by_cases q : j < (gat w f wk i).length
      · rw [gD1 _ _ q]
        obtain ⟨a, b⟩ := gat_get w f wk i j q
        exact ⟨by omega, b⟩
      · rw [gD2 _ _ (by omega), show j - (gat w f wk i).length = 0 by omega]
        exact ⟨by show i < i + 1; omega, t⟩
    · rw [if_neg t] at h ⊢
      obtain ⟨a, b⟩ := gat_get w f wk i j h
      exact ⟨by omega, b⟩
/-- where a line stands among them -/
theorem gat_at (w : pb_W) (f wk : Int32) {l : Nat} (hl : wn w l f wk) : ∀ i, l < i → ∃ j, j < (gat w f wk i).length ∧ (gat w f wk i).getD j 0 = l
  | 0, h => by omega
  | i + 1, h => by
    rw [gat]
    by_cases t : wn w i f wk
    · rw [if_pos t]
      by_cases q : l = i
      · refine ⟨(gat w f wk i).length, by rw [List.length_append, List.length_singleton]; omega, ?_⟩
        rw [gD2 _ _ (Nat.le_refl _), Nat.sub_self, q]
        rfl
      · obtain ⟨j, a, b⟩ := gat_at w f wk hl i (by omega)
        exact ⟨j, by rw [List.length_append, List.length_singleton]; omega, by rw [gD1 _ _ a]; exact b⟩
    · rw [if_neg t]
      refine gat_at w f wk hl i ?_
      rcases Nat.lt_or_ge l i with q | q
      · exact q
      · rw [show i = l by omega] at t
        exact absurd hl t
theorem gat_inj (w : pb_W) (f wk : Int32) : ∀ i j k, j < (gat w f wk i).length → k < (gat w f wk i).length → (gat w f wk i).getD j 0 = (gat w f wk i).getD k 0 → j = k
  | 0, j, k, h, _, _ => by simp [gat] at h
  | i + 1, j, k, h1, h2, e => by
    rw [gat] at h1 h2 e
    by_cases t : wn w i f wk
    · rw [if_pos t] at h1 h2 e
      rw [List.length_append, List.length_singleton] at h1 h2
      by_cases q : j < (gat w f wk i).length
      · rw [gD1 _ _ q] at e
        by_cases q2 : k < (gat w f wk i).length
        · rw [gD1 _ _ q2] at e
          exact gat_inj w f wk i j k q q2 e
        · rw [gD2 _ _ (by omega), show k - (gat w f wk i).length = 0 by omega] at e
          have := (gat_get w f wk i j q).1
          have e' : (gat w f wk i).getD j 0 = i := e
          omega
      · rw [gD2 _ _ (by omega), show j - (gat w f wk i).length = 0 by omega] at e
        by_cases q2 : k < (gat w f wk i).length
        · rw [gD1 _ _ q2] at e
          have := (gat_get w f wk i k q2).1
          have e' : i = (gat w f wk i).getD k 0 := e
          omega
        · omega
    · rw [if_neg t] at h1 h2 e
      exact gat_inj w f wk i j k h1 h2 e
theorem gat_sv {v w : pb_W} (h : SV v w) (f wk : Int32) : ∀ i, gat v f wk i = gat w f wk i
  | 0 => rfl
  | i + 1 => by
    rw [gat, gat, gat_sv h f wk i]
    by_cases p : wn w i f wk
    · rw [if_pos p, if_pos ((wn_sv h _ _ _).mpr p)]
    · rw [if_neg p, if_neg (fun q => p ((wn_sv h _ _ _).mp q))]
