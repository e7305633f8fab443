/-! ===== READER: a sum, class and reference in step ===== -/
/-- an item of a sum as the class writes it -/
def ic (p : Nat × Nat) : Int64 := if p.1 = 0 then stp 1 p.2 else if p.1 = 1 then stp (p.2 + 2) 0 else stp (opc p.1) 0
def fl (c : Nat) : List (Nat × Nat) := if c = 0 then [] else [(c, 0)]
/-- how high the numbers stand behind a sum, if they do -/
def hgt : List (Nat × Nat) → Nat → Option Nat
  | [], h => some h
  | p :: l, h => if p.1 < 2 then (if h < 20 ∧ p.2 < 100000 ∧ (p.1 = 0 ∨ p.2 < 4) then hgt l (h + 1) else none) else if 2 ≤ h ∧ p.1 < 100 then hgt l (h - 1) else none
theorem hgt_app : ∀ (a b : List (Nat × Nat)) (h : Nat), hgt (a ++ b) h = (hgt a h).bind (fun x => hgt b x)
  | [], b, h => rfl
  | p :: a, b, h => by
    rw [List.cons_append, hgt, hgt]
    by_cases q : p.1 < 2
    · rw [if_pos q, if_pos q]
      by_cases z : h < 20 ∧ p.2 < 100000 ∧ (p.1 = 0 ∨ p.2 < 4)
      · rw [if_pos z, if_pos z, hgt_app a b]
      · rw [if_neg z, if_neg z]
        rfl
    · rw [if_neg q, if_neg q]
      by_cases z : 2 ≤ h ∧ p.1 < 100
      · rw [if_pos z, if_pos z, hgt_app a b]
      · rw [if_neg z, if_neg z]
        rfl
def one01 (c : Nat) : Nat := if c = 0 then 0 else 1
def pnd : List (Nat × Nat) → Nat
  | [] => 0
  | p :: l => one01 p.1 + one01 p.2 + pnd l
theorem pnd_le : ∀ l : List (Nat × Nat), pnd l ≤ 2 * l.length
  | [] => Nat.le_refl 0
  | p :: l => by
    have := pnd_le l
    have a : one01 p.1 ≤ 1 := by unfold one01; split <;> omega
    have b : one01 p.2 ≤ 1 := by unfold one01; split <;> omega
    rw [pnd, List.length_cons]
    omega
theorem hgt_fl {l : List (Nat × Nat)} {c k : Nat} (h : hgt l 0 = some (one01 c + 1 + k)) (hc : c = 0 ∨ (2 ≤ c ∧ c < 100)) : hgt (l ++ fl c) 0 = some (1 + k) := by
  unfold fl
  by_cases q : c = 0
  · subst q
    rw [if_pos rfl, List.append_nil, h]
    rfl
  · have o : one01 c = 1 := if_neg q
    rw [if_neg q, hgt_app, h, o]
    show hgt [(c, 0)] (1 + 1 + k) = _
    rw [hgt, if_neg (by show ¬ c < 2; omega), if_pos (by show _ ∧ c < 100; omega), hgt]
    congr 1
    omega
/-- the signs as they lie -/
def seg (S O : Nat → Int32) (g : Nat) (l : List (Nat × Nat)) : Prop := ∀ j, j < l.length → S (g + j) = nI (l.getD j (0, 0)).1 ∧ O (g + j) = nI (l.getD j (0, 0)).2
theorem seg_push {S O : Nat → Int32} {g : Nat} {l : List (Nat × Nat)} (h : seg S O g l) (x y : Nat) : seg (upd S (g + l.length) (nI x)) (upd O (g + l.length) (nI y)) g (l ++ [(x, y)]) := by
  intro j hj
  rw [List.length_append, List.length_singleton] at hj
  rw [pu_at, pu_at]
  by_cases q : j = l.length
  · rw [if_pos (by omega), if_pos (by omega), gL2 _ _ _ (by omega), show j - l.length = 0 by omega]
    exact ⟨rfl, rfl⟩
  · rw [if_neg (by omega), if_neg (by omega), gL1 _ _ _ (by omega)]
    exact h j (by omega)
theorem map_ic_fl {c : Nat} (h : c = 0 ∨ 2 ≤ c) : (fl c).map ic = (itm c).map (fun x => stp x 0) := by
  unfold fl itm
  by_cases q : c = 0
  · rw [if_pos q, if_pos q]; rfl
  · rw [if_neg q, if_neg q]
    show [ic (c, 0)] = [stp (opc c) 0]
    unfold ic
    rw [if_neg q, if_neg (by show ¬ c = 1; omega)]
/-- the levels as the reference holds them -/
def lvs (P Q : Nat → Int32) (lv : List (Nat × Nat)) : Prop := ∀ d, d < lv.length → P d = nI (lv.reverse.getD d (0, 0)).1 ∧ Q d = nI (lv.reverse.getD d (0, 0)).2
theorem lvs_top {P Q : Nat → Int32} {p : Nat × Nat} {r : List (Nat × Nat)} (h : lvs P Q (p :: r)) : P r.length = nI p.1 ∧ Q r.length = nI p.2 ∧ lvs P Q r := by
  refine ⟨?_, ?_, fun d hd => ?_⟩
  · have := (h r.length (by rw [List.length_cons]; omega)).1
    rw [List.reverse_cons, gL2 _ _ _ (by rw [List.length_reverse]; omega), List.length_reverse, Nat.sub_self] at this
    exact this
  · have := (h r.length (by rw [List.length_cons]; omega)).2
    rw [List.reverse_cons, gL2 _ _ _ (by rw [List.length_reverse]; omega), List.length_reverse, Nat.sub_self] at this
    exact this
  · have := h d (by rw [List.length_cons]; omega)
    rw [List.reverse_cons, gL1 _ _ _ (by rw [List.length_reverse]; omega)] at this
    exact this
theorem lvs_set {P Q : Nat → Int32} {p : Nat × Nat} {r : List (Nat × Nat)} (h : lvs P Q r) (x y : Nat) (hp : P r.length = nI x) (hq : Q r.length = nI y) : lvs P Q ((x, y) :: r) := by
  intro d hd
  rw [List.length_cons] at hd
  rw [List.reverse_cons]
  by_cases q : d = r.length
  · rw [gL2 _ _ _ (by rw [List.length_reverse]; omega), List.length_reverse, show d - r.length = 0 by omega, q]
    exact ⟨hp, hq⟩
  · rw [gL1 _ _ _ (by rw [List.length_reverse]; omega)]
    exact h d (by omega)
theorem lvs_up {P Q P' Q' : Nat → Int32} {r : List (Nat × Nat)} (h : lvs P Q r) (hp : ∀ d, d < r.length → P' d = P d ∧ Q' d = Q d) : lvs P' Q' r := fun d hd => ⟨(hp d hd).1.trans (h d hd).1, (hp d hd).2.trans (h d hd).2⟩
/-- the frame of the reference's head in a sum -/
def frB (B B' : Nat → Int32) : Prop := ∀ k, k ≠ 30 → k ≠ 31 → k ≠ 32 → k ≠ 33 → k ≠ 35 → k ≠ 36 → k ≠ 38 → B' k = B k
theorem stk_top {a i : Nat} {r : List (Nat × Nat)} (bs : List Nat) : ∃ t, stkL ((a, i) :: r) ++ bs = itm i ++ (itm a ++ t) ∧ (r = [] → t = bs) ∧ (r ≠ [] → t = 0 :: (stkL r ++ bs)) := by
  cases r with
  | nil => exact ⟨bs, by rw [stkL, List.append_assoc], fun _ => rfl, fun q => absurd rfl q⟩
  | cons p r => exact ⟨0 :: (stkL (p :: r) ++ bs), by rw [stkL]; simp [List.append_assoc], fun q => absurd q (by simp), fun _ => rfl⟩
