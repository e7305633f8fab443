/-! ===== WAYS: counting, pure ===== -/
def sw (a : Nat → Nat) (p : Nat) : Nat → Nat → Nat
  | 0, s => a s
  | M + 1, s => sw a p M s + if (M + 1) * p ≤ s then a (s - (M + 1) * p) else 0
def fu (a : Nat → Nat) (p s : Nat) : Nat := sw a p s s
theorem sw_sat (a : Nat → Nat) {p s : Nat} (hp : 1 ≤ p) : ∀ m, sw a p (s + m) s = fu a p s
  | 0 => rfl
  | m + 1 => by
    have h : ¬ (s + m + 1) * p ≤ s := fun z => by
      have : (s + m + 1) * 1 ≤ (s + m + 1) * p := Nat.mul_le_mul_left _ hp
      omega
    show sw a p (s + m) s + (if (s + m + 1) * p ≤ s then a (s - (s + m + 1) * p) else 0) = _
    rw [if_neg h, sw_sat a hp m, Nat.add_zero]
theorem sw_ge (a : Nat → Nat) {p s M : Nat} (hp : 1 ≤ p) (h : s ≤ M) : sw a p M s = fu a p s := by
  have := sw_sat a (p := p) (s := s) hp (M - s)
  rw [show s + (M - s) = M by omega] at this
  exact this
theorem sw_shift (a : Nat → Nat) (p : Nat) {s : Nat} (h : p ≤ s) : ∀ M, sw a p (M + 1) s = a s + sw a p M (s - p)
  | 0 => by
    show a s + (if (0 + 1) * p ≤ s then a (s - (0 + 1) * p) else 0) = a s + a (s - p)
    rw [Nat.zero_add, Nat.one_mul, if_pos h]
  | M + 1 => by
    show sw a p (M + 1) s + (if (M + 1 + 1) * p ≤ s then a (s - (M + 1 + 1) * p) else 0) = a s + (sw a p M (s - p) + if (M + 1) * p ≤ s - p then a (s - p - (M + 1) * p) else 0)
    have e : (M + 1 + 1) * p = (M + 1) * p + p := Nat.succ_mul (M + 1) p
    rw [sw_shift a p h M, e]
    by_cases q : (M + 1) * p + p ≤ s
    · rw [if_pos q, if_pos (by omega), show s - ((M + 1) * p + p) = s - p - (M + 1) * p by omega]
      omega
    · rw [if_neg q, if_neg (by omega)]
      omega
theorem sw_small (a : Nat → Nat) {p s : Nat} (h : s < p) : ∀ M, sw a p M s = a s
  | 0 => rfl
  | M + 1 => by
    have : ¬ (M + 1) * p ≤ s := fun z => by
      have : 1 * p ≤ (M + 1) * p := Nat.mul_le_mul_right p (by omega)
      omega
    show sw a p M s + _ = _
    rw [if_neg this, sw_small a h M]
    rfl
theorem fu_rec (a : Nat → Nat) {p s : Nat} (hp : 1 ≤ p) (h : p ≤ s) : fu a p s = a s + fu a p (s - p) := by
  rw [← sw_ge a hp (show s ≤ (s - 1) + 1 by omega), sw_shift a p h, sw_ge a hp (show s - p ≤ s - 1 by omega)]
theorem fu_small (a : Nat → Nat) {p s : Nat} (h : s < p) : fu a p s = a s := sw_small a h s
theorem fu_sw (a : Nat → Nat) {p : Nat} (hp : 1 ≤ p) : ∀ M s, fu a p s = sw a p M s + if (M + 1) * p ≤ s then fu a p (s - (M + 1) * p) else 0
  | 0, s => by
    rw [Nat.zero_add, Nat.one_mul]
    by_cases q : p ≤ s
    · rw [if_pos q, fu_rec a hp q]
      rfl
    · rw [if_neg q, fu_small a (by omega)]
      rfl
  | M + 1, s => by
    have e : (M + 1 + 1) * p = (M + 1) * p + p := Nat.succ_mul (M + 1) p
    rw [fu_sw a hp M s]
    show _ = (sw a p M s + if (M + 1) * p ≤ s then a (s - (M + 1) * p) else 0) + _
    rw [e]
    by_cases q : (M + 1) * p ≤ s
    · rw [if_pos q, if_pos q]
      by_cases r : (M + 1) * p + p ≤ s
      · rw [if_pos r, fu_rec a hp (show p ≤ s - (M + 1) * p by omega), show s - (M + 1) * p - p = s - ((M + 1) * p + p) by omega]
        omega
      · rw [if_neg r, fu_small a (show s - (M + 1) * p < p by omega)]
        omega
    · rw [if_neg q, if_neg q, if_neg (by omega)]
theorem sw_le {a : Nat → Nat} {p B : Nat} (h : ∀ s, a s ≤ B) : ∀ M s, sw a p M s ≤ (M + 1) * B
  | 0, s => by rw [Nat.zero_add, Nat.one_mul]; exact h s
  | M + 1, s => by
    have h1 := sw_le h (p := p) M s
    have e : (M + 1 + 1) * B = (M + 1) * B + B := Nat.succ_mul (M + 1) B
    show sw a p M s + _ ≤ _
    rw [e]
    split
    · have := h (s - (M + 1) * p)
      omega
    · omega
theorem sw_ext {a b : Nat → Nat} (p : Nat) (s : Nat) (h : ∀ t, t ≤ s → a t = b t) : ∀ M, sw a p M s = sw b p M s
  | 0 => h s (Nat.le_refl s)
  | M + 1 => by
    show sw a p M s + _ = sw b p M s + _
    rw [sw_ext p s h M]
    split
    · rw [h _ (Nat.sub_le _ _)]
    · rfl
/-- ways with the kinds up to k; wo is left out -/
def cws (pr : Nat → Option Nat) (mo : Nat → Nat) (wo : Nat) : Nat → Nat → Nat
  | 0, s => if s = 0 then 1 else 0
  | k + 1, s => if k + 1 = wo then cws pr mo wo k s else match pr (k + 1) with
    | none => cws pr mo wo k s
    | some p => sw (cws pr mo wo k) p (mo (k + 1)) s
theorem cws_le {pr : Nat → Option Nat} {mo : Nat → Nat} (hm : ∀ k, mo k ≤ 20) (wo : Nat) : ∀ k s, cws pr mo wo k s ≤ 21 ^ (if 1 ≤ wo ∧ wo ≤ k then k - 1 else k)
  | 0, s => by
    rw [show (if 1 ≤ wo ∧ wo ≤ 0 then 0 - 1 else 0) = 0 from if_neg (by omega), cws]
    split
    · exact Nat.le_refl _
    · exact Nat.zero_le _
  | k + 1, s => by
    have ih := cws_le (pr := pr) hm wo k
    have P : ∀ x, 0 < 21 ^ x := fun x => Nat.pow_pos (by decide)
    rw [cws]
    by_cases q : k + 1 = wo
    · rw [if_pos q, if_pos (by omega)]
      have := ih s
      rw [if_neg (by omega)] at this
      exact this
    · rw [if_neg q]
      have e : 21 * 21 ^ (if 1 ≤ wo ∧ wo ≤ k then k - 1 else k) = 21 ^ (if 1 ≤ wo ∧ wo ≤ k + 1 then k + 1 - 1 else k + 1) := by
        by_cases z : 1 ≤ wo ∧ wo ≤ k
        · rw [if_pos z, if_pos (by omega), show k + 1 - 1 = (k - 1) + 1 by omega, Nat.pow_succ, Nat.mul_comm]
        · rw [if_neg z, if_neg (by omega), Nat.pow_succ, Nat.mul_comm]
      cases pr (k + 1) with
      | none =>
        have := ih s
        have := P (if 1 ≤ wo ∧ wo ≤ k then k - 1 else k)
        show cws pr mo wo k s ≤ _
        omega
      | some p =>
        have h1 := sw_le (a := cws pr mo wo k) (p := p) ih (mo (k + 1)) s
        have h2 := Nat.mul_le_mul_right (21 ^ (if 1 ≤ wo ∧ wo ≤ k then k - 1 else k)) (show mo (k + 1) + 1 ≤ 21 by have := hm (k + 1); omega)
        show sw (cws pr mo wo k) p (mo (k + 1)) s ≤ _
        omega
theorem cws_63 {pr : Nat → Option Nat} {mo : Nat → Nat} (hm : ∀ k, mo k ≤ 20) {wo : Nat} (h1 : 1 ≤ wo) (h2 : wo ≤ 15) (s : Nat) : cws pr mo wo 15 s < 2 ^ 63 := by
  have := cws_le (pr := pr) hm wo 15 s
  rw [if_pos ⟨h1, h2⟩] at this
  exact Nat.lt_of_le_of_lt this (by decide)
