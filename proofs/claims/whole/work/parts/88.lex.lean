/-! ===== TEXT: tokens, as both sides read them ===== -/
def bY (x : Int32) : Prop := -128 ≤ x.toInt ∧ x.toInt ≤ 127
def isWs (x : Int32) : Prop := x = 10 ∨ x = 32
def isLe (x : Int32) : Prop := ¬ x < 97 ∧ ¬ 122 < x
def isDi (x : Int32) : Prop := ¬ x < 48 ∧ ¬ 57 < x
/-- on while the bytes are of a sort -/
noncomputable def adv (p : Int32 → Prop) (T : Nat → Int32) (n : Nat) : Nat → Nat → Nat
  | 0, k => k
  | f + 1, k => @ite Nat (k < n ∧ p (T k)) (Classical.propDecidable _) (adv p T n f (k + 1)) k
theorem adv_go {p : Int32 → Prop} {T : Nat → Int32} {n f k : Nat} (h : k < n ∧ p (T k)) : adv p T n (f + 1) k = adv p T n f (k + 1) := if_pos h
theorem adv_no {p : Int32 → Prop} {T : Nat → Int32} {n f k : Nat} (h : ¬ (k < n ∧ p (T k))) : adv p T n f k = k := by
  cases f with
  | zero => rfl
  | succ f => exact if_neg h
theorem adv_le (p : Int32 → Prop) (T : Nat → Int32) (n : Nat) : ∀ f k, k ≤ adv p T n f k ∧ (k ≤ n → adv p T n f k ≤ n) ∧ ∀ j, k ≤ j → j < adv p T n f k → j < n ∧ p (T j)
  | 0, k => ⟨Nat.le_refl k, id, fun j a b => by rw [adv] at b; omega⟩
  | f + 1, k => by
    by_cases h : k < n ∧ p (T k)
    · obtain ⟨a, b, c⟩ := adv_le p T n f (k + 1)
      rw [adv_go h]
      refine ⟨by omega, fun _ => b (by omega), fun j h1 h2 => ?_⟩
      by_cases e : j = k
      · rw [e]; exact h
      · exact c j (by omega) h2
    · rw [adv_no h]
      exact ⟨Nat.le_refl k, id, fun j a b => by omega⟩
theorem adv_end (p : Int32 → Prop) (T : Nat → Int32) (n : Nat) : ∀ f k, n ≤ k + f → ¬ (adv p T n f k < n ∧ p (T (adv p T n f k)))
  | 0, k, h => by rw [adv]; omega
  | f + 1, k, h => by
    by_cases q : k < n ∧ p (T k)
    · rw [adv_go q]
      exact adv_end p T n f (k + 1) (by omega)
    · rw [adv_no q]
      exact q
/-- letters as numbers, and words -/
def lc (x : Int32) : Nat := x.toNatClampNeg - 96
def wls (T : Nat → Int32) (s : Nat) : Nat → List Nat
  | 0 => []
  | m + 1 => wls T s m ++ [lc (T (s + m))]
def enc (l : List Nat) : Nat := l.foldl (fun a d => a * 32 + d) 0
theorem enc_sn (l : List Nat) (d : Nat) : enc (l ++ [d]) = enc l * 32 + d := by simp [enc]
theorem wls_len (T : Nat → Int32) (s : Nat) : ∀ m, (wls T s m).length = m
  | 0 => rfl
  | m + 1 => by rw [wls, List.length_append, wls_len T s m]; rfl
theorem enc_inj : ∀ (m k : Nat) (a b : List Nat), a.length = m → b.length = k → (∀ d, d ∈ a → 1 ≤ d ∧ d ≤ 26) → (∀ d, d ∈ b → 1 ≤ d ∧ d ≤ 26) → enc a = enc b → a = b := by
  intro m
  induction m with
  | zero =>
    intro k a b ha hb _ h2 e
    have a0 : a = [] := List.eq_nil_of_length_eq_zero ha
    subst a0
    rcases List.eq_nil_or_concat b with q | ⟨l, d, q⟩
    · exact q.symm
    · exfalso
      rw [List.concat_eq_append] at q
      rw [q, enc_sn] at e
      have := h2 d (by rw [q]; simp)
      have e0 : enc [] = 0 := rfl
      omega
  | succ m ih =>
    intro k a b ha hb h1 h2 e
    rcases List.eq_nil_or_concat a with q | ⟨l, d, q⟩
    · rw [q] at ha; simp at ha
    · rw [List.concat_eq_append] at q
      subst q
      rcases List.eq_nil_or_concat b with q | ⟨l', d', q⟩
      · exfalso
        rw [q, enc_sn] at e
        have := h1 d (by simp)
        have e0 : enc [] = 0 := rfl
        omega
      · rw [List.concat_eq_append] at q
        subst q
        rw [enc_sn, enc_sn] at e
        have d1 := h1 d (by simp)
        have d2 := h2 d' (by simp)
        have ed : d = d' := by omega
        have el : enc l = enc l' := by omega
        rw [ed, ih l'.length l l' (by simpa using ha) rfl (fun x hx => h1 x (by simp [hx])) (fun x hx => h2 x (by simp [hx])) el]
def KL : List (List Nat) := [[9, 6], [20, 8, 5, 14], [11, 9, 14, 4], [21, 14, 9, 20, 19], [15, 18], [1, 14, 4], [14, 15, 20], [23, 15, 18, 4], [3, 1, 13, 5], [16, 5, 14, 3, 5], [23, 5, 5, 11], [25, 5, 1, 18], [19, 8, 15, 16]]
theorem KL_enc : ∀ i, i < 13 → pb_keys.getD i 0 = lN (enc (KL.getD i [])) ∧ enc (KL.getD i []) < 2 ^ 40 ∧ (∀ d, d ∈ KL.getD i [] → 1 ≤ d ∧ d ≤ 26) ∧ (KL.getD i []).length ≤ 5 := by decide +kernel
theorem KL_ne : ∀ i, i < 13 → ∀ j, j < 13 → KL.getD i [] = KL.getD j [] → i = j := by decide +kernel
/-- which word it is: its place among the thirteen, or 13 -/
def kwi (l : List Nat) : Nat → Nat → Nat
  | 0, i => i
  | f + 1, i => if KL.getD i [] = l then i else kwi l f (i + 1)
def kw (l : List Nat) : Nat := kwi l 13 0
theorem kwi_spec (l : List Nat) : ∀ f i, i + f = 13 → (kwi l f i = 13 ∧ ∀ j, i ≤ j → j < 13 → KL.getD j [] ≠ l) ∨ (i ≤ kwi l f i ∧ kwi l f i < 13 ∧ KL.getD (kwi l f i) [] = l)
  | 0, i, h => Or.inl ⟨by rw [kwi]; omega, fun j a b => by omega⟩
  | f + 1, i, h => by
    rw [kwi]
    by_cases q : KL.getD i [] = l
    · rw [if_pos q]
      exact Or.inr ⟨Nat.le_refl i, by omega, q⟩
    · rw [if_neg q]
      rcases kwi_spec l f (i + 1) (by omega) with ⟨a, b⟩ | ⟨a, b, c⟩
      · refine Or.inl ⟨a, fun j h1 h2 => ?_⟩
        by_cases e : j = i
        · rw [e]; exact q
        · exact b j (by omega) h2
      · exact Or.inr ⟨by omega, b, c⟩
theorem kw_spec (l : List Nat) : (kw l = 13 ∧ ∀ j, j < 13 → KL.getD j [] ≠ l) ∨ (kw l < 13 ∧ KL.getD (kw l) [] = l) := by
  rcases kwi_spec l 13 0 (by omega) with ⟨a, b⟩ | ⟨a, b, c⟩
  · exact Or.inl ⟨a, fun j h => b j (by omega) h⟩
  · exact Or.inr ⟨b, c⟩
def dval (T : Nat → Int32) (s : Nat) : Nat → Nat
  | 0 => 0
  | m + 1 => dval T s m * 10 + ((T (s + m)).toNatClampNeg - 48)
def sgnl : List Nat := [59, 60, 62, 61, 43, 45, 42, 47, 40, 41]
/-- where the token at e starts, where it stops, which it is (as the class numbers them), its value -/
noncomputable def tS (T : Nat → Int32) (n e : Nat) : Nat := adv isWs T n (n - e) e
noncomputable def tL (p : Int32 → Prop) (T : Nat → Int32) (n e : Nat) : Nat := adv p T n (n - tS T n e) (tS T n e)
noncomputable def tE (T : Nat → Int32) (n e : Nat) : Nat := @ite Nat (n ≤ tS T n e) (Classical.propDecidable _) (tS T n e) (@ite Nat (isLe (T (tS T n e))) (Classical.propDecidable _) (tL isLe T n e) (@ite Nat (isDi (T (tS T n e))) (Classical.propDecidable _) (tL isDi T n e) (tS T n e + 1)))
noncomputable def tK (T : Nat → Int32) (n e : Nat) : Nat := @ite Nat (n ≤ tS T n e) (Classical.propDecidable _) 15 (@ite Nat (isLe (T (tS T n e))) (Classical.propDecidable _) (kw (wls T (tS T n e) (tL isLe T n e - tS T n e))) (@ite Nat (isDi (T (tS T n e))) (Classical.propDecidable _) (if 5 < tL isDi T n e - tS T n e then 16 else 14) (if (T (tS T n e)).toNatClampNeg ∈ sgnl then (T (tS T n e)).toNatClampNeg else 16)))
noncomputable def tV (T : Nat → Int32) (n e : Nat) : Nat := @ite Nat (isLe (T (tS T n e))) (Classical.propDecidable _) (enc (wls T (tS T n e) (tL isLe T n e - tS T n e))) (dval T (tS T n e) (tL isDi T n e - tS T n e))
