/-! ===== SLIPS: what both searches are about ===== -/
def svm (A : Nat → Nat → Int) (v : Nat → Nat) : Nat → Int
  | 0 => 0
  | i + 1 => svm A v i + (if v i = 0 then 0 else A i (v i))
def nzm (v : Nat → Nat) : Nat → Nat
  | 0 => 0
  | i + 1 => nzm v i + (if v i = 0 then 0 else 1)
def okv (A : Nat → Nat → Int) (v : Nat → Nat) (n : Nat) : Prop := ∀ i, i < n → v i = 0 ∨ (v i ≤ 6 ∧ A i (v i) ≠ 0)
def exv (v u : Nat → Nat) (n : Nat) : Prop := ∀ i, i < n → v i = u i
/-- an explanation with k slips in all -/
def Mem (A : Nat → Nat → Int) (g : Nat) (out : Int) (k : Nat) (v : Nat → Nat) : Prop := okv A v g ∧ ∃ c : Int, nzm v g + c.natAbs = k ∧ out = svm A v g + 12 * c
def lxe (v v' : Nat → Nat) (n : Nat) : Prop := exv v v' n ∨ ∃ i, i < n ∧ exv v v' i ∧ v i < v' i
theorem svm_ex {A : Nat → Nat → Int} {v u : Nat → Nat} : ∀ n, exv v u n → svm A v n = svm A u n ∧ nzm v n = nzm u n
  | 0, _ => ⟨rfl, rfl⟩
  | n + 1, h => by
    obtain ⟨a, b⟩ := svm_ex n (fun i hi => h i (by omega))
    rw [svm, svm, nzm, nzm, a, b, h n (by omega)]
    exact ⟨rfl, rfl⟩
theorem okv_ex {A : Nat → Nat → Int} {v u : Nat → Nat} {n : Nat} (h : exv v u n) (o : okv A u n) : okv A v n := fun i hi => by rw [h i hi]; exact o i hi
theorem lxe_rf (v : Nat → Nat) (n : Nat) : lxe v v n := Or.inl fun _ _ => rfl
theorem lxe_tr {a b c : Nat → Nat} {n : Nat} (h : lxe a b n) (h2 : lxe b c n) : lxe a c n := by
  rcases h with h | ⟨i, li, e, l⟩
  · rcases h2 with h2 | ⟨j, lj, e2, l2⟩
    · exact Or.inl fun i hi => (h i hi).trans (h2 i hi)
    · exact Or.inr ⟨j, lj, fun i hi => (h i (by omega)).trans (e2 i hi), by rw [h j lj]; exact l2⟩
  · rcases h2 with h2 | ⟨j, lj, e2, l2⟩
    · exact Or.inr ⟨i, li, fun k hk => (e k hk).trans (h2 k (by omega)), by rw [← h2 i li]; exact l⟩
    · rcases Nat.lt_trichotomy i j with q | q | q
      · exact Or.inr ⟨i, li, fun k hk => (e k hk).trans (e2 k (by omega)), by rw [← e2 i q]; exact l⟩
      · subst q
        exact Or.inr ⟨i, li, fun k hk => (e k hk).trans (e2 k hk), by omega⟩
      · exact Or.inr ⟨j, lj, fun k hk => (e k (by omega)).trans (e2 k hk), by rw [e j q]; exact l2⟩
theorem lxe_as {a b : Nat → Nat} {n : Nat} (h : lxe a b n) (h2 : lxe b a n) : exv a b n := by
  rcases h with h | ⟨i, li, e, l⟩
  · exact h
  · rcases h2 with h2 | ⟨j, lj, e2, l2⟩
    · exact fun k hk => (h2 k hk).symm
    · rcases Nat.lt_trichotomy i j with q | q | q
      · have := e2 i q
        omega
      · subst q
        omega
      · have := e j q
        omega
/-- of two vectors one comes first -/
theorem lxe_tot (a b : Nat → Nat) : ∀ n, exv a b n ∨ (∃ i, i < n ∧ exv a b i ∧ a i < b i) ∨ ∃ i, i < n ∧ exv a b i ∧ b i < a i
  | 0 => Or.inl fun i hi => by omega
  | n + 1 => by
    rcases lxe_tot a b n with h | ⟨i, li, e, l⟩ | ⟨i, li, e, l⟩
    · rcases Nat.lt_trichotomy (a n) (b n) with q | q | q
      · exact Or.inr (Or.inl ⟨n, by omega, h, q⟩)
      · refine Or.inl fun i hi => ?_
        by_cases z : i = n
        · rw [z]; exact q
        · exact h i (by omega)
      · exact Or.inr (Or.inr ⟨n, by omega, h, q⟩)
    · exact Or.inr (Or.inl ⟨i, by omega, e, l⟩)
    · exact Or.inr (Or.inr ⟨i, by omega, e, l⟩)
/-- a sum over the six slips of a line, from x on -/
def sm6 (f : Nat → Nat) : Nat → Nat → Nat
  | 0, _ => 0
  | m + 1, x => f x + sm6 f m (x + 1)
theorem sm6_eq {f h : Nat → Nat} : ∀ m x, (∀ y, x ≤ y → y < x + m → f y = h y) → sm6 f m x = sm6 h m x
  | 0, _, _ => rfl
  | m + 1, x, e => by rw [sm6, sm6, e x (by omega) (by omega), sm6_eq m (x + 1) (fun y a b => e y (by omega) (by omega))]
theorem sm6_0 {f : Nat → Nat} (m x : Nat) (e : ∀ y, x ≤ y → y < x + m → f y = 0) : sm6 f m x = 0 := by
  rw [sm6_eq (h := fun _ => 0) m x e]
  clear e
  induction m generalizing x with
  | zero => rfl
  | succ m ih => rw [sm6, ih]
/-- how many the class meets -/
def cC (A : Nat → Nat → Int) : Nat → Nat → Nat → Int → Nat
  | 0, _, left, rest => if rest = -12 * left ∨ rest = 12 * left then 1 else 0
  | m + 1, at_, left, rest => cC A m (at_ + 1) left rest + (if left = 0 then 0 else sm6 (fun x => if A at_ x = 0 then 0 else cC A m (at_ + 1) (left - 1) (rest - A at_ x)) 6 1)
theorem cC_00 (A : Nat → Nat → Int) : ∀ m a (rest : Int), rest ≠ 0 → cC A m a 0 rest = 0
  | 0, _, rest, h => by
    rw [cC, if_neg]
    intro q
    rcases q with q | q <;> simp at q <;> exact h q
  | m + 1, a, rest, h => by
    rw [cC, cC_00 A m (a + 1) rest h, if_pos rfl]
/-- slips in all, where it is an explanation -/
def tot (out sum : Int) (j : Nat) (k : Nat) : Prop := ∃ c : Int, out - sum = 12 * c ∧ j + c.natAbs = k
theorem tot_u {out sum : Int} {j k k' : Nat} (h : tot out sum j k) (h' : tot out sum j k') : k = k' := by
  obtain ⟨c, a, b⟩ := h
  obtain ⟨c', a', b'⟩ := h'
  have : c = c' := by omega
  rw [this] at b
  omega
noncomputable def t1 (P : Prop) : Nat := @ite Nat P (Classical.propDecidable P) 1 0
theorem t1_pos {P : Prop} (h : P) : t1 P = 1 := if_pos h
theorem t1_neg {P : Prop} (h : ¬ P) : t1 P = 0 := if_neg h
/-- how many the reference looks at behind a node -/
noncomputable def kN (A : Nat → Nat → Int) (out : Int) (k : Nat) : Nat → Nat → Nat → Nat → Int → Nat
  | 0, _, _, _, _ => 0
  | _ + 1, 0, _, _, _ => 0
  | d + 1, m + 1, a, j, sum => sm6 (fun x => if A a x = 0 then 0 else t1 (tot out (sum + A a x) (j + 1) k) + kN A out k d m (a + 1) (j + 1) (sum + A a x)) 6 1 + kN A out k (d + 1) m (a + 1) j sum
theorem kN_hi (A : Nat → Nat → Int) (out : Int) {k : Nat} : ∀ m d a j sum, k ≤ j → kN A out k d m a j sum = 0
  | 0, 0, _, _, _, _ => rfl
  | 0, _ + 1, _, _, _, _ => rfl
  | _ + 1, 0, _, _, _, _ => rfl
  | m + 1, d + 1, a, j, sum, h => by
    rw [kN, kN_hi A out m (d + 1) (a + 1) j sum h, sm6_0 6 1]
    intro y _ _
    by_cases z : A a y = 0
    · rw [if_pos z]
    · rw [if_neg z, kN_hi A out m d (a + 1) (j + 1) _ (by omega), t1_neg]
      rintro ⟨c, p, q⟩
      omega
theorem kN_cC (A : Nat → Nat → Int) (out : Int) {k : Nat} : ∀ m d a j sum, j ≤ k → k ≤ j + d → t1 (tot out sum j k) + kN A out k d m a j sum = cC A m a (k - j) (out - sum) := by
  intro m
  induction m with
  | zero =>
    intro d a j sum h1 h2
    have z : kN A out k d 0 a j sum = 0 := by cases d <;> rfl
    rw [z, cC]
    by_cases t : tot out sum j k
    · rw [t1_pos t, if_pos]
      obtain ⟨c, p, q⟩ := t
      omega
    · rw [t1_neg t, if_neg]
      intro q
      rcases q with q | q
      · exact t ⟨-((k - j : Nat) : Int), by omega, by omega⟩
      · exact t ⟨((k - j : Nat) : Int), by omega, by omega⟩
  | succ m ih =>
    intro d a j sum h1 h2
    cases d with
    | zero =>
      have := ih 0 (a + 1) j sum h1 h2
      have z : kN A out k 0 m (a + 1) j sum = 0 := by cases m <;> rfl
      rw [z] at this
      rw [cC, if_pos (by omega), ← this]
      rfl
    | succ d =>
      have := ih (d + 1) (a + 1) j sum h1 h2
      rw [kN, cC, ← this]
      by_cases q : k - j = 0
      · rw [if_pos q, sm6_0 6 1]
        · omega
        · intro y _ _
          by_cases z : A a y = 0
          · rw [if_pos z]
          · rw [if_neg z, kN_hi A out m d (a + 1) (j + 1) _ (by omega), t1_neg]
            rintro ⟨c, p, r⟩
            omega
      · rw [if_neg q, sm6_eq (h := fun x => if A a x = 0 then 0 else cC A m (a + 1) (k - j - 1) (out - sum - A a x)) 6 1]
        · omega
        · intro y _ _
          by_cases z : A a y = 0
          · simp only [if_pos z]
          · simp only [if_neg z]
            rw [ih d (a + 1) (j + 1) (sum + A a y) (by omega) (by omega), show k - (j + 1) = k - j - 1 by omega, show out - (sum + A a y) = out - sum - A a y by omega]
