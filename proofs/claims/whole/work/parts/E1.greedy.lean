/-! ===== WEIGHTS: family by family against row by row, pure ===== -/
def Rb (cl ld : Nat → Nat) (M : Nat) : Nat → Nat → Int
  | 0 => fun _ => 0
  | f + 1 => fun j => Rb cl ld M f j + if j = 4 * cl f + ld f then (M : Int) else 0
def Rr (cl ld : Nat → Nat) (M n f : Nat) : Nat → Int := fun j => Rb cl ld M n j - Rb cl ld M f j
theorem Rb_mono (cl ld : Nat → Nat) (M f j : Nat) : ∀ k, Rb cl ld M f j ≤ Rb cl ld M (f + k) j
  | 0 => Int.le_refl _
  | k + 1 => by
    have := Rb_mono cl ld M f j k
    show _ ≤ Rb cl ld M (f + k) j + _
    split <;> omega
theorem Rr_0 {cl ld : Nat → Nat} {M n f : Nat} (h : f ≤ n) (j : Nat) : 0 ≤ Rr cl ld M n f j := by
  have := Rb_mono cl ld M f j (n - f)
  rw [show f + (n - f) = n by omega] at this
  unfold Rr
  omega
theorem Rr_s (cl ld : Nat → Nat) (M n f : Nat) : Rr cl ld M n (f + 1) = dr (Rr cl ld M n f) (4 * cl f + ld f) M := by
  funext j
  show Rb cl ld M n j - (Rb cl ld M f j + (if j = 4 * cl f + ld f then (M : Int) else 0)) = Rb cl ld M n j - Rb cl ld M f j - (if j = 4 * cl f + ld f then (M : Int) else 0)
  omega
theorem Rr_c {cl ld : Nat → Nat} {M n f : Nat} (h : f < n) : (M : Int) ≤ Rr cl ld M n f (4 * cl f + ld f) := by
  have := Rb_mono cl ld M (f + 1) (4 * cl f + ld f) (n - (f + 1))
  rw [show f + 1 + (n - (f + 1)) = n by omega] at this
  have e : Rb cl ld M (f + 1) (4 * cl f + ld f) = Rb cl ld M f (4 * cl f + ld f) + M := by
    show Rb cl ld M f (4 * cl f + ld f) + (if 4 * cl f + ld f = 4 * cl f + ld f then (M : Int) else 0) = _
    rw [if_pos rfl]
  unfold Rr
  omega
theorem Rr_n (cl ld : Nat → Nat) (M n j : Nat) : Rr cl ld M n n j = 0 := by
  unfold Rr
  omega
def dig (n B f r : Nat) : Nat := r / B ^ (n - 1 - f) % B
def La (cl ld : Nat → Nat) (m : Nat → Int) (n B r : Nat) : Nat → Nat → Int
  | 0 => m
  | f + 1 => dl (La cl ld m n B r f) (cl f) (ld f) (dig n B f r)
def Uw (cl ld : Nat → Nat) (m : Nat → Int) (n B r : Nat) : Int := ap8 (La cl ld m n B r n)
theorem U_ge {cl ld : Nat → Nat} {m : Nat → Int} {n M : Nat} (hc : ∀ f, f < n → cl f < 4 ∧ ld f < 4) (r : Nat) : ∀ k f, f + k = n → Vw (La cl ld m n (M + 1) r f) (Rr cl ld M n f) ≤ Uw cl ld m n (M + 1) r
  | 0, f, h => by
    have h : f = n := by omega
    subst h
    rw [V_end _ (fun j _ => Rr_n cl ld M f j)]
    exact Int.le_refl _
  | k + 1, f, h => by
    have ih := U_ge hc r (M := M) (m := m) k (f + 1) (by omega)
    obtain ⟨c1, c2⟩ := hc f (by omega)
    have v := (V_fam c1 c2 M (La cl ld m n (M + 1) r f) (Rr cl ld M n f) (fun j _ => Rr_0 (by omega) j) (Rr_c (by omega))).1 (dig n (M + 1) f r) (by
      have := Nat.mod_lt (r / (M + 1) ^ (n - 1 - f)) (show 0 < M + 1 by omega)
      unfold dig
      omega)
    rw [← Rr_s] at v
    exact Int.le_trans v ih
/-- what the class finds, family by family -/
def GR (cl ld : Nat → Nat) (m : Nat → Int) (n M : Nat) (V0 : Int) (wt : Nat → Nat) (Lg : Nat → Nat → Int) : Prop := Lg 0 = m ∧ ∀ f, f < n → wt f ≤ M ∧ Lg (f + 1) = dl (Lg f) (cl f) (ld f) (wt f) ∧ Vw (Lg (f + 1)) (Rr cl ld M n (f + 1)) = V0 ∧ ∀ t : Nat, t < wt f → V0 < Vw (dl (Lg f) (cl f) (ld f) t) (Rr cl ld M n (f + 1))
def pw (B : Nat) (wt : Nat → Nat) : Nat → Nat
  | 0 => 0
  | f + 1 => pw B wt f * B + wt f
theorem div_s {n f B r : Nat} (h : f < n) : r / B ^ (n - 1 - f) / B = r / B ^ (n - f) := by
  rw [Nat.div_div_eq_div_mul, show B ^ (n - 1 - f) * B = B ^ (n - f) by rw [show n - f = n - 1 - f + 1 by omega, Nat.pow_succ]]
theorem gr_pre {cl ld : Nat → Nat} {m : Nat → Int} {n M : Nat} {V0 : Int} {wt : Nat → Nat} {Lg : Nat → Nat → Int} (h : GR cl ld m n M V0 wt Lg) {r : Nat} : ∀ f, f ≤ n → r / (M + 1) ^ (n - f) = pw (M + 1) wt f → La cl ld m n (M + 1) r f = Lg f
  | 0, _, _ => h.1.symm
  | f + 1, hf, e => by
    obtain ⟨h1, h2, -, -⟩ := h.2 f (by omega)
    have d := div_s (B := M + 1) (r := r) (show f < n by omega)
    rw [show n - (f + 1) = n - 1 - f by omega] at e
    rw [e, pw] at d
    have d1 : (pw (M + 1) wt f * (M + 1) + wt f) / (M + 1) = pw (M + 1) wt f := by
      rw [Nat.add_comm, Nat.add_mul_div_right _ _ (by omega), Nat.div_eq_of_lt (by omega), Nat.zero_add]
    have d2 : dig n (M + 1) f r = wt f := by
      unfold dig
      rw [e, pw, Nat.add_comm, Nat.add_mul_mod_self_right, Nat.mod_eq_of_lt (by omega)]
    rw [La, gr_pre h f (by omega) (by rw [← d, d1]), d2, h2]
theorem gr_lt {cl ld : Nat → Nat} {m : Nat → Int} {n M : Nat} {V0 : Int} {wt : Nat → Nat} {Lg : Nat → Nat → Int} (hc : ∀ f, f < n → cl f < 4 ∧ ld f < 4) (h : GR cl ld m n M V0 wt Lg) {r : Nat} : ∀ f, f ≤ n → r / (M + 1) ^ (n - f) < pw (M + 1) wt f → V0 < Uw cl ld m n (M + 1) r
  | 0, _, e => absurd e (Nat.not_lt_zero _)
  | f + 1, hf, e => by
    obtain ⟨h1, h2, h3, h4⟩ := h.2 f (by omega)
    have d := div_s (B := M + 1) (r := r) (show f < n by omega)
    rw [show n - (f + 1) = n - 1 - f by omega, pw] at e
    by_cases q : r / (M + 1) ^ (n - f) < pw (M + 1) wt f
    · exact gr_lt hc h f (by omega) q
    · have e2 : r / (M + 1) ^ (n - 1 - f) / (M + 1) < pw (M + 1) wt f + 1 := (Nat.div_lt_iff_lt_mul (by omega)).mpr (by
        rw [Nat.add_mul, Nat.one_mul]
        omega)
      have e3 : r / (M + 1) ^ (n - f) = pw (M + 1) wt f := by omega
      have dm := Nat.div_add_mod (r / (M + 1) ^ (n - 1 - f)) (M + 1)
      rw [d, e3] at dm
      have lt : dig n (M + 1) f r < wt f := by
        unfold dig
        rw [Nat.mul_comm] at dm
        omega
      have u := U_ge hc r (M := M) (m := m) (n - (f + 1)) (f + 1) (by omega)
      rw [La, gr_pre h f (by omega) e3] at u
      have := h4 _ lt
      omega
theorem pw_lt {B : Nat} {wt : Nat → Nat} (hB : 0 < B) : ∀ f, (∀ g, g < f → wt g < B) → pw B wt f < B ^ f
  | 0, _ => by
    show 0 < B ^ 0
    rw [Nat.pow_zero]
    decide
  | f + 1, h => by
    have ih := pw_lt hB f (fun g hg => h g (by omega))
    have w := h f (by omega)
    rw [pw, Nat.pow_succ]
    have := Nat.mul_le_mul_right B (show pw B wt f + 1 ≤ B ^ f by omega)
    rw [Nat.add_mul, Nat.one_mul] at this
    omega
theorem pw_div {B : Nat} {wt : Nat → Nat} (hB : 0 < B) (f : Nat) : ∀ k, (∀ g, g < f + k → wt g < B) → pw B wt (f + k) / B ^ k = pw B wt f
  | 0, _ => by rw [Nat.pow_zero, Nat.div_one]; rfl
  | k + 1, h => by
    have ih := pw_div hB f k (fun g hg => h g (by omega))
    rw [Nat.pow_succ, Nat.mul_comm, ← Nat.div_div_eq_div_mul]
    show (pw B wt (f + k) * B + wt (f + k)) / B / B ^ k = _
    rw [Nat.add_comm, Nat.add_mul_div_right _ _ hB, Nat.div_eq_of_lt (h (f + k) (by omega)), Nat.zero_add, ih]
theorem gr_dig {cl ld : Nat → Nat} {m : Nat → Int} {n M : Nat} {V0 : Int} {wt : Nat → Nat} {Lg : Nat → Nat → Int} (h : GR cl ld m n M V0 wt Lg) {f : Nat} (hf : f < n) : dig n (M + 1) f (pw (M + 1) wt n) = wt f := by
  have w : ∀ g, g < n → wt g < M + 1 := fun g hg => by have := (h.2 g hg).1; omega
  have d := pw_div (B := M + 1) (wt := wt) (by omega) (f + 1) (n - 1 - f) (fun g hg => w g (by omega))
  rw [show f + 1 + (n - 1 - f) = n by omega] at d
  unfold dig
  rw [d, pw, Nat.add_comm, Nat.add_mul_mod_self_right, Nat.mod_eq_of_lt (w f hf)]
theorem gr_at {cl ld : Nat → Nat} {m : Nat → Int} {n M : Nat} {V0 : Int} {wt : Nat → Nat} {Lg : Nat → Nat → Int} (hn : 1 ≤ n) (h : GR cl ld m n M V0 wt Lg) : Uw cl ld m n (M + 1) (pw (M + 1) wt n) = V0 := by
  have e := gr_pre h (r := pw (M + 1) wt n) n (Nat.le_refl n) (by rw [Nat.sub_self, Nat.pow_zero, Nat.div_one])
  obtain ⟨-, -, h3, -⟩ := h.2 (n - 1) (by omega)
  rw [show n - 1 + 1 = n by omega, V_end _ (fun j _ => Rr_n cl ld M n j)] at h3
  unfold Uw
  rw [e, h3]
/-- the first of the least, row by row -/
def bsw (U : Nat → Int) : Nat → Option (Int × Nat)
  | 0 => none
  | r + 1 => match bsw U r with
    | none => some (U r, r)
    | some b => if U r < b.1 then some (U r, r) else some b
theorem bsw_a {U : Nat → Int} {V0 : Int} {p : Nat} (h : ∀ r, r < p → V0 < U r) : ∀ r, r ≤ p → bsw U r = none ∨ ∃ b, bsw U r = some b ∧ V0 < b.1
  | 0, _ => Or.inl rfl
  | r + 1, hr => by
    have u := h r (by omega)
    refine Or.inr ?_
    rw [bsw]
    rcases bsw_a h r (by omega) with e | ⟨b, e, l⟩
    · rw [e]
      exact ⟨_, rfl, u⟩
    · rw [e]
      show ∃ b', (if U r < b.1 then some (U r, r) else some b) = some b' ∧ V0 < b'.1
      split
      · exact ⟨_, rfl, u⟩
      · exact ⟨_, rfl, l⟩
theorem bsw_z {U : Nat → Int} {V0 : Int} {p : Nat} (h : ∀ r, r < p → V0 < U r) (hp : U p = V0) (ha : ∀ r, V0 ≤ U r) : ∀ k, bsw U (p + 1 + k) = some (V0, p)
  | 0 => by
    show bsw U (p + 1) = _
    rw [bsw]
    rcases bsw_a h p (Nat.le_refl p) with e | ⟨b, e, l⟩
    · rw [e, hp]
    · rw [e]
      show (if U p < b.1 then some (U p, p) else some b) = _
      rw [if_pos (by omega), hp]
  | k + 1 => by
    have ih := bsw_z h hp ha k
    have := ha (p + 1 + k)
    show bsw U (p + 1 + k + 1) = _
    rw [bsw, ih]
    show (if U (p + 1 + k) < V0 then _ else _) = _
    rw [if_neg (by omega)]
theorem gr_end {cl ld : Nat → Nat} {m : Nat → Int} {n M : Nat} {V0 : Int} {wt : Nat → Nat} {Lg : Nat → Nat → Int} (hn : 1 ≤ n) (hc : ∀ f, f < n → cl f < 4 ∧ ld f < 4) (h : GR cl ld m n M V0 wt Lg) (hV : V0 = Vw m (Rr cl ld M n 0)) : bsw (Uw cl ld m n (M + 1)) ((M + 1) ^ n) = some (V0, pw (M + 1) wt n) := by
  have w : ∀ g, g < n → wt g < M + 1 := fun g hg => by have := (h.2 g hg).1; omega
  have pl := pw_lt (B := M + 1) (wt := wt) (by omega) n w
  have z := bsw_z (U := Uw cl ld m n (M + 1)) (V0 := V0) (p := pw (M + 1) wt n) (fun r hr => gr_lt hc h n (Nat.le_refl n) (by rw [Nat.sub_self, Nat.pow_zero, Nat.div_one]; exact hr)) (gr_at hn h) (fun r => by
    have := U_ge hc r (M := M) (m := m) n 0 (by omega)
    rw [hV]
    exact this) ((M + 1) ^ n - (pw (M + 1) wt n + 1))
  rw [show pw (M + 1) wt n + 1 + ((M + 1) ^ n - (pw (M + 1) wt n + 1)) = (M + 1) ^ n by omega] at z
  exact z
