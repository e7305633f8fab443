/-! ===== WEIGHTS: the least cut, pure ===== -/
def S4 (f : Nat → Int) : Int := f 0 + f 1 + f 2 + f 3
theorem lt4 {i : Nat} (h : i < 4) : i = 0 ∨ i = 1 ∨ i = 2 ∨ i = 3 := by omega
theorem S4_d {f g : Nat → Int} {i : Nat} (hi : i < 4) (h : ∀ j, j < 4 → j ≠ i → f j = g j) : S4 f = S4 g + (f i - g i) := by
  unfold S4
  rcases lt4 hi with rfl | rfl | rfl | rfl
  · rw [h 1 (by omega) (by omega), h 2 (by omega) (by omega), h 3 (by omega) (by omega)]; omega
  · rw [h 0 (by omega) (by omega), h 2 (by omega) (by omega), h 3 (by omega) (by omega)]; omega
  · rw [h 0 (by omega) (by omega), h 1 (by omega) (by omega), h 3 (by omega) (by omega)]; omega
  · rw [h 0 (by omega) (by omega), h 1 (by omega) (by omega), h 2 (by omega) (by omega)]; omega
theorem S4_le {f g : Nat → Int} (h : ∀ j, j < 4 → f j ≤ g j) : S4 f ≤ S4 g := by
  unfold S4
  have := h 0 (by omega); have := h 1 (by omega); have := h 2 (by omega); have := h 3 (by omega)
  omega
theorem S4_le1 {f g : Nat → Int} {i : Nat} {d : Int} (hi : i < 4) (h : ∀ j, j < 4 → f j ≤ g j) (hd : f i + d ≤ g i) : S4 f + d ≤ S4 g := by
  unfold S4
  have := h 0 (by omega); have := h 1 (by omega); have := h 2 (by omega); have := h 3 (by omega)
  rcases lt4 hi with rfl | rfl | rfl | rfl <;> omega
theorem S4_add (f g : Nat → Int) : S4 f + S4 g = S4 (fun j => f j + g j) := by
  show f 0 + f 1 + f 2 + f 3 + (g 0 + g 1 + g 2 + g 3) = (f 0 + g 0) + (f 1 + g 1) + (f 2 + g 2) + (f 3 + g 3)
  omega
theorem S4_ext {f g : Nat → Int} (h : ∀ j, j < 4 → f j = g j) : S4 f = S4 g := by
  unfold S4
  rw [h 0 (by omega), h 1 (by omega), h 2 (by omega), h 3 (by omega)]
def cA (L : Nat → Int) (x c : Nat) : Int := if x.testBit c = true then 0 else max 0 (L c)
def rch (R : Nat → Int) (x l : Nat) : Int := S4 (fun c => if x.testBit c = true then R (4 * c + l) else 0)
def cut (L R : Nat → Int) (x : Nat) : Int := S4 (cA L x) + S4 (fun l => min (rch R x l) (max 0 (L (4 + l))))
def ap8 (L : Nat → Int) : Int := S4 (fun c => ((L c).natAbs : Int)) + S4 (fun l => ((L (4 + l)).natAbs : Int))
def dl (L : Nat → Int) (c l : Nat) (t : Int) : Nat → Int := fun k => L k - (if k = c then t else 0) - (if k = 4 + l then t else 0)
def dr (R : Nat → Int) (j : Nat) (t : Int) : Nat → Int := fun i => R i - if i = j then t else 0
theorem rch_dr (R : Nat → Int) {c l : Nat} (hc : c < 4) (hl : l < 4) (t : Int) (x : Nat) {l' : Nat} (hl' : l' < 4) : rch (dr R (4 * c + l) t) x l' = if l' = l then rch R x l - (if x.testBit c = true then t else 0) else rch R x l' := by
  by_cases q : l' = l
  · subst q
    rw [if_pos rfl]
    unfold rch
    rw [S4_d (f := fun c' => if x.testBit c' = true then dr R (4 * c + l') t (4 * c' + l') else 0) (g := fun c' => if x.testBit c' = true then R (4 * c' + l') else 0) hc (fun j hj hne => by
      show (if x.testBit j = true then dr R (4 * c + l') t (4 * j + l') else 0) = _
      unfold dr
      rw [if_neg (show ¬ 4 * j + l' = 4 * c + l' by omega), Int.sub_zero])]
    have e : dr R (4 * c + l') t (4 * c + l') = R (4 * c + l') - t := by unfold dr; rw [if_pos rfl]
    simp only [e]
    by_cases z : x.testBit c = true
    · rw [if_pos z, if_pos z, if_pos z]; omega
    · rw [if_neg z, if_neg z, if_neg z]; omega
  · rw [if_neg q]
    unfold rch
    refine S4_ext (fun j hj => ?_)
    show (if x.testBit j = true then dr R (4 * c + l) t (4 * j + l') else 0) = _
    unfold dr
    rw [if_neg (show ¬ 4 * j + l' = 4 * c + l by omega), Int.sub_zero]
theorem cut_dr (L R : Nat → Int) {c l : Nat} (hc : c < 4) (hl : l < 4) (x : Nat) : cut L (dr R (4 * c + l) 1) x = cut L R x + (min (rch R x l - (if x.testBit c = true then 1 else 0)) (max 0 (L (4 + l))) - min (rch R x l) (max 0 (L (4 + l)))) := by
  unfold cut
  rw [S4_d (f := fun l' => min (rch (dr R (4 * c + l) 1) x l') (max 0 (L (4 + l')))) (g := fun l' => min (rch R x l') (max 0 (L (4 + l')))) hl (fun j hj hne => by
    show min (rch (dr R (4 * c + l) 1) x j) _ = _
    rw [rch_dr R hc hl 1 x hj, if_neg hne])]
  simp only [rch_dr R hc hl 1 x hl, if_pos]
  omega
theorem dl_c (L : Nat → Int) {c l k : Nat} (t : Int) (hc : c < 4) (hk : k < 4) : dl L c l t k = L k - if k = c then t else 0 := by
  unfold dl
  rw [if_neg (show ¬ k = 4 + l by omega), Int.sub_zero]
theorem dl_l (L : Nat → Int) {c l k : Nat} (t : Int) (hc : c < 4) : dl L c l t (4 + k) = L (4 + k) - if k = l then t else 0 := by
  unfold dl
  rw [if_neg (show ¬ 4 + k = c by omega), Int.sub_zero]
  by_cases q : k = l
  · rw [if_pos (show 4 + k = 4 + l by omega), if_pos q]
  · rw [if_neg (show ¬ 4 + k = 4 + l by omega), if_neg q]
theorem cut_dl (L R : Nat → Int) {c l : Nat} (hc : c < 4) (hl : l < 4) (x : Nat) : cut (dl L c l 1) R x = cut L R x + ((if x.testBit c = true then 0 else max 0 (L c - 1)) - cA L x c) + (min (rch R x l) (max 0 (L (4 + l) - 1)) - min (rch R x l) (max 0 (L (4 + l)))) := by
  unfold cut
  rw [S4_d (f := fun l' => min (rch R x l') (max 0 (dl L c l 1 (4 + l')))) (g := fun l' => min (rch R x l') (max 0 (L (4 + l')))) hl (fun j hj hne => by
    show min (rch R x j) (max 0 (dl L c l 1 (4 + j))) = _
    rw [dl_l L 1 hc, if_neg hne, Int.sub_zero]), S4_d (f := cA (dl L c l 1) x) (g := cA L x) hc (fun j hj hne => by
    unfold cA
    rw [dl_c L 1 hc hj, if_neg hne, Int.sub_zero])]
  have e1 : cA (dl L c l 1) x c = if x.testBit c = true then 0 else max 0 (L c - 1) := by
    unfold cA
    rw [dl_c L 1 hc hc, if_pos rfl]
  have e2 : dl L c l 1 (4 + l) = L (4 + l) - 1 := by rw [dl_l L 1 hc, if_pos rfl]
  rw [e1]
  simp only [e2]
  omega
theorem rch_or (R : Nat → Int) (x y l : Nat) : rch R (x ||| y) l + rch R (x &&& y) l = rch R x l + rch R y l := by
  unfold rch
  rw [S4_add, S4_add]
  refine S4_ext (fun j hj => ?_)
  rw [Nat.testBit_or, Nat.testBit_and]
  cases x.testBit j <;> cases y.testBit j <;> simp
theorem rch_and {R : Nat → Int} (hR : ∀ j, j < 16 → 0 ≤ R j) (x y : Nat) {l : Nat} (hl : l < 4) : rch R (x &&& y) l ≤ rch R x l := by
  unfold rch
  refine S4_le (fun j hj => ?_)
  have := hR (4 * j + l) (by omega)
  rw [Nat.testBit_and]
  cases x.testBit j <;> cases y.testBit j <;> simp <;> omega
theorem rch_and1 {R : Nat → Int} (hR : ∀ j, j < 16 → 0 ≤ R j) {x y c l : Nat} (hc : c < 4) (hl : l < 4) (hx : x.testBit c = true) (hy : y.testBit c = false) : rch R (x &&& y) l + R (4 * c + l) ≤ rch R x l := by
  unfold rch
  refine S4_le1 hc (fun j hj => ?_) ?_
  · have := hR (4 * j + l) (by omega)
    rw [Nat.testBit_and]
    cases x.testBit j <;> cases y.testBit j <;> simp <;> omega
  · rw [Nat.testBit_and, hx, hy]
    simp
theorem rch_0 {R : Nat → Int} (hR : ∀ j, j < 16 → 0 ≤ R j) (x : Nat) {l : Nat} (hl : l < 4) : 0 ≤ rch R x l := by
  have h : S4 (fun _ => 0) ≤ rch R x l := by
    unfold rch
    refine S4_le (fun j hj => ?_)
    have := hR (4 * j + l) (by omega)
    show (0 : Int) ≤ if x.testBit j = true then R (4 * j + l) else 0
    split
    · exact this
    · exact Int.le_refl 0
  exact h
theorem cA_or (L : Nat → Int) (x y c : Nat) : cA L (x ||| y) c + cA L (x &&& y) c = cA L x c + cA L y c := by
  unfold cA
  rw [Nat.testBit_or, Nat.testBit_and]
  cases x.testBit c <;> cases y.testBit c <;> simp
theorem cut_sub {L R : Nat → Int} (hR : ∀ j, j < 16 → 0 ≤ R j) {x y c l : Nat} (hc : c < 4) (hl : l < 4) (hx : x.testBit c = true) (hy : y.testBit c = false) (h1 : rch R x l ≤ max 0 (L (4 + l))) (h2 : max 0 (L (4 + l)) ≤ rch R y l) : cut L R (x ||| y) + cut L R (x &&& y) + R (4 * c + l) ≤ cut L R x + cut L R y := by
  unfold cut
  have a : S4 (cA L (x ||| y)) + S4 (cA L (x &&& y)) = S4 (cA L x) + S4 (cA L y) := by
    rw [S4_add, S4_add]
    exact S4_ext (fun j _ => cA_or L x y j)
  have b : S4 (fun l' => min (rch R (x ||| y) l') (max 0 (L (4 + l'))) + min (rch R (x &&& y) l') (max 0 (L (4 + l')))) + R (4 * c + l) ≤ S4 (fun l' => min (rch R x l') (max 0 (L (4 + l'))) + min (rch R y l') (max 0 (L (4 + l')))) := by
    refine S4_le1 hl (fun j hj => ?_) ?_
    · have e := rch_or R x y j
      have f := rch_and hR x y hj
      have g := rch_and hR y x hj
      rw [Nat.and_comm] at g
      show min (rch R (x ||| y) j) _ + min (rch R (x &&& y) j) _ ≤ min (rch R x j) _ + min (rch R y j) _
      omega
    · have e := rch_or R x y l
      have f := rch_and1 hR hc hl hx hy
      have g := rch_and hR y x hl
      rw [Nat.and_comm] at g
      show min (rch R (x ||| y) l) _ + min (rch R (x &&& y) l) _ + _ ≤ min (rch R x l) _ + min (rch R y l) _
      omega
  rw [← S4_add, ← S4_add] at b
  omega
/-- the least of the cuts -/
def fm (L R : Nat → Int) : Nat → Int
  | 0 => ap8 L
  | x + 1 => min (fm L R x) (cut L R x)
theorem fm_le (L R : Nat → Int) : ∀ n x, x < n → fm L R n ≤ cut L R x
  | n + 1, x, h => by
    rw [fm]
    by_cases q : x = n
    · rw [q]; exact Int.min_le_right _ _
    · have := fm_le L R n x (by omega)
      have := Int.min_le_left (fm L R n) (cut L R n)
      omega
theorem fm_ap (L R : Nat → Int) : ∀ n, fm L R n = ap8 L ∨ ∃ x, x < n ∧ fm L R n = cut L R x
  | 0 => Or.inl rfl
  | n + 1 => by
    rw [fm]
    by_cases q : fm L R n ≤ cut L R n
    · rw [Int.min_eq_left q]
      rcases fm_ap L R n with h | ⟨x, h1, h2⟩
      · exact Or.inl h
      · exact Or.inr ⟨x, by omega, h2⟩
    · rw [Int.min_eq_right (by omega)]
      exact Or.inr ⟨n, by omega, rfl⟩
theorem cut_0 {L R : Nat → Int} : cut L R 0 ≤ ap8 L := by
  unfold cut ap8
  have a : S4 (cA L 0) ≤ S4 (fun c => ((L c).natAbs : Int)) := S4_le (fun j hj => by
    unfold cA
    rw [Nat.zero_testBit, if_neg (by decide)]
    show max 0 (L j) ≤ ((L j).natAbs : Int)
    omega)
  have b : S4 (fun l => min (rch R 0 l) (max 0 (L (4 + l)))) ≤ S4 (fun l => ((L (4 + l)).natAbs : Int)) := S4_le (fun j hj => by
    show min (rch R 0 j) (max 0 (L (4 + j))) ≤ ((L (4 + j)).natAbs : Int)
    omega)
  omega
theorem fm_ex (L R : Nat → Int) : ∃ x, x < 16 ∧ fm L R 16 = cut L R x := by
  rcases fm_ap L R 16 with h | h
  · refine ⟨0, by decide, ?_⟩
    have h1 := fm_le L R 16 0 (by decide)
    have h2 := cut_0 (L := L) (R := R)
    omega
  · exact h
def Vw (L R : Nat → Int) : Int := ap8 L - 2 * fm L R 16
theorem bit_m : ∀ c, c < 4 → ∀ j, j < 4 → (15 - 2 ^ c).testBit j = decide (j ≠ c) := by decide
/-- one unit more or less -/
theorem V_one {L R : Nat → Int} (hR : ∀ j, j < 16 → 0 ≤ R j) {c l : Nat} (hc : c < 4) (hl : l < 4) (h1 : 1 ≤ R (4 * c + l)) : Vw L R = min (Vw L (dr R (4 * c + l) 1)) (Vw (dl L c l 1) (dr R (4 * c + l) 1)) := by
  obtain ⟨x, x1, x2⟩ := fm_ex L R
  obtain ⟨x0, y1, y2⟩ := fm_ex L (dr R (4 * c + l) 1)
  obtain ⟨x', z1, z2⟩ := fm_ex (dl L c l 1) (dr R (4 * c + l) 1)
  have F := fm_le L R 16
  have F0 := fm_le L (dr R (4 * c + l) 1) 16
  have F1 := fm_le (dl L c l 1) (dr R (4 * c + l) 1) 16
  have D0 := cut_dr L R hc hl
  have D1 : ∀ y, cut (dl L c l 1) (dr R (4 * c + l) 1) y = cut L R y + ((if y.testBit c = true then 0 else max 0 (L c - 1)) - cA L y c) + (min (rch R y l - (if y.testBit c = true then 1 else 0)) (max 0 (L (4 + l) - 1)) - min (rch R y l) (max 0 (L (4 + l)))) := by
    intro y
    rw [cut_dl L (dr R (4 * c + l) 1) hc hl y, cut_dr L R hc hl y, rch_dr R hc hl 1 y hl, if_pos rfl]
    omega
  have eA : ap8 (dl L c l 1) = ap8 L + (((L c - 1).natAbs : Int) - (L c).natAbs) + (((L (4 + l) - 1).natAbs : Int) - (L (4 + l)).natAbs) := by
    unfold ap8
    rw [S4_d (f := fun c' => ((dl L c l 1 c').natAbs : Int)) (g := fun c' => ((L c').natAbs : Int)) hc (fun j hj hne => by
      show ((dl L c l 1 j).natAbs : Int) = _
      rw [dl_c L 1 hc hj, if_neg hne, Int.sub_zero]), S4_d (f := fun l' => ((dl L c l 1 (4 + l')).natAbs : Int)) (g := fun l' => ((L (4 + l')).natAbs : Int)) hl (fun j hj hne => by
      show ((dl L c l 1 (4 + j)).natAbs : Int) = _
      rw [dl_l L 1 hc, if_neg hne, Int.sub_zero])]
    have e1 : dl L c l 1 c = L c - 1 := by rw [dl_c L 1 hc hc, if_pos rfl]
    have e2 : dl L c l 1 (4 + l) = L (4 + l) - 1 := by rw [dl_l L 1 hc, if_pos rfl]
    simp only [e1, e2]
    omega
  unfold Vw
  rw [eA]
  have r0 : ∀ y, 0 ≤ rch R y l := fun y => rch_0 hR y hl
  have le0 : fm L (dr R (4 * c + l) 1) 16 ≤ fm L R 16 := by
    have a := F0 x x1
    have b := D0 x
    have d := r0 x
    split at b <;> omega
  by_cases pos : 1 ≤ L c ∧ 1 ≤ L (4 + l)
  · have le1 : 1 + fm (dl L c l 1) (dr R (4 * c + l) 1) 16 ≤ fm L R 16 := by
      have a := F1 x x1
      have b := D1 x
      have d := r0 x
      unfold cA at b
      split at b <;> omega
    have or : fm L R 16 ≤ fm L (dr R (4 * c + l) 1) 16 ∨ fm L R 16 ≤ 1 + fm (dl L c l 1) (dr R (4 * c + l) 1) 16 := by
      by_cases q : fm L R 16 ≤ fm L (dr R (4 * c + l) 1) 16
      · exact Or.inl q
      · refine Or.inr ?_
        have a := F x0 y1
        have b := D0 x0
        cases hx : x0.testBit c with
        | false =>
          rw [hx, if_neg (by decide)] at b
          omega
        | true =>
          rw [hx, if_pos rfl] at b
          have a' := F x' z1
          have b' := D1 x'
          unfold cA at b'
          cases hy : x'.testBit c with
          | true =>
            rw [hy, if_pos rfl, if_pos rfl, if_pos rfl] at b'
            omega
          | false =>
            rw [hy, if_neg (by decide), if_neg (by decide), if_neg (by decide)] at b'
            by_cases w : fm L R 16 ≤ 1 + fm (dl L c l 1) (dr R (4 * c + l) 1) 16
            · exact w
            · exfalso
              have s := cut_sub (L := L) hR hc hl hx hy (by omega) (by omega)
              have o1 := F (x0 ||| x') (Nat.or_lt_two_pow (n := 4) y1 z1)
              have o2 := F (x0 &&& x') (Nat.and_lt_two_pow (n := 4) _ z1)
              omega
    omega
  · have le1 : fm (dl L c l 1) (dr R (4 * c + l) 1) 16 ≤ fm L (dr R (4 * c + l) 1) 16 := by
      have a := F1 x0 y1
      have b := D1 x0
      have d := D0 x0
      unfold cA at b
      cases hx : x0.testBit c with
      | true =>
        rw [hx, if_pos rfl, if_pos rfl, if_pos rfl] at b
        rw [hx, if_pos rfl] at d
        omega
      | false =>
        rw [hx, if_neg (by decide), if_neg (by decide), if_neg (by decide)] at b
        rw [hx, if_neg (by decide)] at d
        omega
    have ge0 : fm L R 16 ≤ fm L (dr R (4 * c + l) 1) 16 := by
      by_cases q : L (4 + l) ≤ 0
      · have a := F x0 y1
        have b := D0 x0
        have d := r0 x0
        have e := rch_dr R hc hl 1 x0 hl
        rw [if_pos rfl] at e
        have e0 : 0 ≤ rch (dr R (4 * c + l) 1) x0 l := rch_0 (fun j hj => by
          unfold dr
          have := hR j hj
          split
          · rename_i z
            rw [z]; omega
          · omega) x0 hl
        split at b <;> split at e <;> first | omega | (exfalso; simp_all)
      · have lc : L c ≤ 0 := by omega
        have a := F (x0 &&& (15 - 2 ^ c)) (Nat.and_lt_two_pow (n := 4) _ (by have := Nat.two_pow_pos c; omega))
        have hm : (15 - 2 ^ c).testBit c = false := by rw [bit_m c hc c hc]; simp
        have ct : cut L R (x0 &&& (15 - 2 ^ c)) ≤ cut L (dr R (4 * c + l) 1) x0 := by
          unfold cut
          have p1 : S4 (cA L (x0 &&& (15 - 2 ^ c))) ≤ S4 (cA L x0) := S4_le (fun j hj => by
            unfold cA
            rw [Nat.testBit_and, bit_m c hc j hj]
            by_cases jc : j = c
            · subst jc
              simp only [ne_eq, not_true_eq_false, decide_false, Bool.and_false]
              rw [if_neg (by decide)]
              split <;> omega
            · simp [jc])
          have p2 : S4 (fun l' => min (rch R (x0 &&& (15 - 2 ^ c)) l') (max 0 (L (4 + l')))) ≤ S4 (fun l' => min (rch (dr R (4 * c + l) 1) x0 l') (max 0 (L (4 + l')))) := S4_le (fun j hj => by
            show min (rch R (x0 &&& (15 - 2 ^ c)) j) (max 0 (L (4 + j))) ≤ min (rch (dr R (4 * c + l) 1) x0 j) (max 0 (L (4 + j)))
            have u := rch_and hR x0 (15 - 2 ^ c) hj
            have v := rch_dr R hc hl 1 x0 hj
            by_cases jl : j = l
            · subst jl
              rw [if_pos rfl] at v
              cases hx : x0.testBit c with
              | true =>
                have w := rch_and1 hR hc hj hx hm
                rw [hx, if_pos rfl] at v
                omega
              | false =>
                rw [hx, if_neg (by decide)] at v
                omega
            · rw [if_neg jl] at v
              omega)
          omega
        omega
    omega
theorem dl_0 (L : Nat → Int) (c l : Nat) : dl L c l 0 = L := by
  funext k
  unfold dl
  split <;> split <;> omega
theorem dl_s (L : Nat → Int) (c l : Nat) (a b : Int) : dl (dl L c l a) c l b = dl L c l (a + b) := by
  funext k
  unfold dl
  split <;> split <;> omega
theorem dr_0 (R : Nat → Int) (j : Nat) : dr R j 0 = R := by
  funext k
  unfold dr
  split <;> omega
theorem dr_s (R : Nat → Int) (j : Nat) (a b : Int) : dr (dr R j a) j b = dr R j (a + b) := by
  funext k
  unfold dr
  split <;> omega
/-- a family's weight -/
theorem V_fam {c l : Nat} (hc : c < 4) (hl : l < 4) : ∀ (M : Nat) (L R : Nat → Int), (∀ j, j < 16 → 0 ≤ R j) → (M : Int) ≤ R (4 * c + l) → (∀ t : Nat, t ≤ M → Vw L R ≤ Vw (dl L c l t) (dr R (4 * c + l) M)) ∧ ∃ t : Nat, t ≤ M ∧ Vw L R = Vw (dl L c l t) (dr R (4 * c + l) M)
  | 0, L, R, hR, hM => by
    have e : Vw L R = Vw (dl L c l ((0 : Nat) : Int)) (dr R (4 * c + l) ((0 : Nat) : Int)) := by
      rw [show ((0 : Nat) : Int) = 0 from rfl, dl_0, dr_0]
    exact ⟨fun t ht => by rw [show t = 0 by omega]; exact Int.le_of_eq e, 0, Nat.le_refl 0, e⟩
  | M + 1, L, R, hR, hM => by
    have hR' : ∀ j, j < 16 → 0 ≤ dr R (4 * c + l) 1 j := fun j hj => by
      unfold dr
      have := hR j hj
      split
      · rename_i z
        rw [z]; omega
      · omega
    have hM' : (M : Int) ≤ dr R (4 * c + l) 1 (4 * c + l) := by
      unfold dr
      rw [if_pos rfl]; omega
    have eR : dr (dr R (4 * c + l) 1) (4 * c + l) M = dr R (4 * c + l) ((M + 1 : Nat) : Int) := by
      rw [dr_s]
      congr 1
      omega
    obtain ⟨a1, a2⟩ := V_fam hc hl M L (dr R (4 * c + l) 1) hR' hM'
    obtain ⟨b1, b2⟩ := V_fam hc hl M (dl L c l 1) (dr R (4 * c + l) 1) hR' hM'
    rw [eR] at a1 a2 b1 b2
    have s : ∀ t : Nat, dl (dl L c l 1) c l t = dl L c l ((t + 1 : Nat) : Int) := fun t => by
      rw [dl_s]
      congr 1
      omega
    have o := V_one hR hc hl (by omega) (L := L)
    constructor
    · intro t ht
      by_cases q : t ≤ M
      · have := a1 t q
        omega
      · have := b1 M (Nat.le_refl M)
        rw [s] at this
        rw [show t = M + 1 by omega]
        omega
    · by_cases q : Vw L (dr R (4 * c + l) 1) ≤ Vw (dl L c l 1) (dr R (4 * c + l) 1)
      · obtain ⟨t, t1, t2⟩ := a2
        exact ⟨t, by omega, by omega⟩
      · obtain ⟨t, t1, t2⟩ := b2
        rw [s] at t2
        exact ⟨t + 1, by omega, by omega⟩
theorem V_end (L : Nat → Int) {R : Nat → Int} (h : ∀ j, j < 16 → R j = 0) : Vw L R = ap8 L := by
  have r : ∀ x l, l < 4 → rch R x l = 0 := fun x l hl => by
    unfold rch S4
    simp only
    rw [h (4 * 0 + l) (by omega), h (4 * 1 + l) (by omega), h (4 * 2 + l) (by omega), h (4 * 3 + l) (by omega)]
    simp
  have c15 : cut L R 15 = 0 := by
    unfold cut
    have a : S4 (cA L 15) = S4 (fun _ => 0) := S4_ext (fun j hj => by
      unfold cA
      rcases lt4 hj with rfl | rfl | rfl | rfl <;> rw [if_pos (by decide)])
    have b : S4 (fun l => min (rch R 15 l) (max 0 (L (4 + l)))) = S4 (fun _ => 0) := S4_ext (fun j hj => by
      show min (rch R 15 j) (max 0 (L (4 + j))) = 0
      rw [r 15 j hj]
      omega)
    rw [a, b]
    rfl
  have f1 := fm_le L R 16 15 (by decide)
  obtain ⟨x, x1, x2⟩ := fm_ex L R
  have p : 0 ≤ cut L R x := by
    unfold cut
    have a : S4 (fun _ => 0) ≤ S4 (cA L x) := S4_le (fun j hj => by
      unfold cA
      show (0 : Int) ≤ _
      split <;> omega)
    have b : S4 (fun _ => 0) ≤ S4 (fun l => min (rch R x l) (max 0 (L (4 + l)))) := S4_le (fun j hj => by
      show (0 : Int) ≤ min (rch R x j) (max 0 (L (4 + j)))
      rw [r x j hj]
      omega)
    have z : S4 (fun _ => 0) = 0 := rfl
    omega
  unfold Vw
  omega
