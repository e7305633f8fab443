/-! the name behind word, as the reference reads it -/
theorem mx_name {b : pb_W} {T : Nat → Int32} {n : Nat} (hX : TX b T n) {s en : Nat} (hs : s ≤ en) (hen : en ≤ n) (hl : ∀ j, s ≤ j → j < en → isLe (T j)) (h8 : en - s ≤ 8) {k : Nat} (hk : k < 1500) (tk v : Int32) (h29 : b.1 64 29 = nI n) : ∀ f m, s + m + f = en → pb_run T_X12_name (46, [some (.ref 64), some (.int (nI k)), some (.long (lN (enc (wls T s m)))), none, some (.int (nI (s + m)))], [], mrd b tk (nI s) (nI en) v) = pb_bV (M_X12_next [.ref 64] (pb_wL (mrd b tk (nI s) (nI en) v) 95 k (lN (enc (wls T s (en - s)))))) fun w1 => some (some (.int (1 : Int32)), w1) := by
  have hn := hX.1
  intro f
  induction f with
  | zero =>
    intro m h
    rw [r_X12_name_46, show (mrd b tk (nI s) (nI en) v).1 64 32 = nI en from rfl, if_neg (nI_nlt (by omega) (by omega)), if_pos (pn_in hk (by decide)), nI_clamp (show k < 2 ^ 31 by omega), show m = en - s by omega]
  | succ f ih =>
    intro m h
    have le := hl (s + m) (by omega) (by omega)
    obtain ⟨l1, l2, l3⟩ := lc_n le
    have ea : atv T n (s + m) = nI (96 + lc (T (s + m))) := by
      unfold atv
      rw [if_pos (by omega)]
      exact le_bc (hX.2.2 _) le
    have lt := enc_lt m (fun j a c => hl j a (by omega))
    have p8 : 32 ^ m ≤ 32 ^ 7 := Nat.pow_le_pow_right (by decide) (by omega)
    have p : (32 : Nat) ^ 7 = 34359738368 := by decide
    have ev : lN (enc (wls T s m)) <<< (((5 : Int32)).toInt64 &&& 63) ||| ((nI (96 + lc (T (s + m))) - (97 : Int32)).toInt64 + (1 : Int64)) = lN (enc (wls T s (m + 1))) := by
      rw [show nI (96 + lc (T (s + m))) - (97 : Int32) = nI (96 + lc (T (s + m)) - 97) from nI_subN (b := 97) (by omega), nI_to64 (by omega), show (1 : Int64) = lN 1 from rfl, wb_add, show 96 + lc (T (s + m)) - 97 + 1 = lc (T (s + m)) by omega, show ((5 : Int32)).toInt64 &&& 63 = (nI 5).toInt64 &&& 63 from rfl, wb_shl _ (by decide), wb_or (by omega) (by omega), or5 (by omega), wls, enc_sn]
    rw [r_X12_name_46, show (mrd b tk (nI s) (nI en) v).1 64 32 = nI en from rfl, if_pos (nI_lt (by omega) (by omega)), M_at hn h29 hX.2.1 hX.2.2 tk (nI s) (nI en) v (by omega), pb_bI_some, ea, ev, nI_1]
    exact ih (m + 1) (by omega)
/-- where one lies -/
def ORep (b : pb_W) (S O : Nat → Int32) (k : Nat) (o : On) (gm : Nat) : Prop := b.1 97 k = nI (o_beg o) ∧ b.1 96 k = nI (o_neg o) ∧ b.1 90 k = nI (o_kind o) ∧ o_beg o ≤ 1 ∧ o_neg o ≤ 1 ∧ o_kind o ≤ 2 ∧ (o_kind o = 1 → b.2 95 k = lN (o_wd o) ∧ o_wd o < 2 ^ 40) ∧ (o_kind o = 0 → ∃ f, b.1 91 k = nI f ∧ b.1 92 k = nI (f + (o_l o).length) ∧ b.1 93 k = nI (f + (o_l o).length + (o_r o).length) ∧ b.1 94 k = nI (o_cm o) ∧ (o_cm o = 60 ∨ o_cm o = 61 ∨ o_cm o = 62) ∧ f + (o_l o).length + (o_r o).length ≤ gm ∧ seg S O f (o_l o) ∧ seg S O (f + (o_l o).length) (o_r o) ∧ hgt (o_l o) 0 = some 1 ∧ hgt (o_r o) 0 = some 1)
/-- the reference's base but for the place k of the ones -/
def frk (k : Nat) (b b' : pb_W) : Prop := (∀ c j, ¬ (90 ≤ c ∧ c ≤ 97 ∧ j = k) → b'.1 c j = b.1 c j) ∧ ∀ c j, ¬ (c = 95 ∧ j = k) → b'.2 c j = b.2 c j
theorem frk_rf (k : Nat) (b : pb_W) : frk k b b := ⟨fun _ _ _ => rfl, fun _ _ _ => rfl⟩
theorem frk_I {k c : Nat} {b b' : pb_W} (h : frk k b b') (hc : 90 ≤ c ∧ c ≤ 97) (x : Int32) : frk k b (pb_wI b' c k x) := by
  refine ⟨fun d j hd => ?_, h.2⟩
  rw [pw_I1]
  by_cases q : d = c
  · subst q
    rw [if_pos rfl, pu_at, if_neg (fun z => hd ⟨hc.1, hc.2, z⟩)]
    exact h.1 d j hd
  · rw [if_neg q]
    exact h.1 d j hd
theorem frk_L {k : Nat} {b b' : pb_W} (h : frk k b b') (x : Int64) : frk k b (pb_wL b' 95 k x) := by
  refine ⟨h.1, fun d j hd => ?_⟩
  rw [pw_L2]
  by_cases q : d = 95
  · subst q
    rw [if_pos rfl, pu_atL, if_neg (fun z => hd ⟨rfl, z⟩)]
    exact h.2 95 j hd
  · rw [if_neg q]
    exact h.2 d j hd
theorem frk_TX {k n : Nat} {b b' : pb_W} {T : Nat → Int32} (h : frk k b b') (hX : TX b T n) : TX b' T n := ⟨hX.1, fun j hj => (h.1 83 j (fun z => by omega)).trans (hX.2.1 j hj), hX.2.2⟩
abbrev frO (B B' : Nat → Int32) : Prop := ∀ k, k ≠ 30 → k ≠ 31 → k ≠ 32 → k ≠ 33 → k ≠ 35 → k ≠ 36 → k ≠ 38 → k ≠ 39 → B' k = B k
/-- how one ends -/
def OneOut (cb rb : pb_W) (T : Nat → Int32) (n : Nat) (ru : Nat) (bs : List Nat) (C : List Int64) (g k beg e i : Nat) (w : pb_W) (B S O : Nat → Int32) (R : Option pb_R) : Prop :=
    (∃ kd p rb' B' S' O' P' Q', 1 ≤ kd ∧ kd ≤ 5 ∧ Fail cb (crun i w) kd p ∧ R = some (some (.int 0), ms rb' B' S' O' P' Q') ∧ B' 36 = nI kd ∧ B' 35 = nI p ∧ frO B B' ∧ frk k rb rb' ∧ ∀ j, j < g → S' j = S j ∧ O' j = O j) ∨
    (∃ o e' i' w' rb' B' S' O' P' Q', crun i w = crun i' w' ∧ i' ≤ e' ∧ e ≤ e' ∧ e' ≤ n ∧ BO cb T n e' w' bs C o ru ∧ o_beg o = beg ∧ R = some (some (.int 1), ms rb' B' S' O' P' Q') ∧ MT T n e' B' ∧ B' 39 = nI (k + 1) ∧ (∃ g', g ≤ g' ∧ B' 38 = nI g' ∧ g' ≤ g + (bod o).length ∧ ORep rb' S' O' k o g') ∧ frO B B' ∧ frk k rb rb' ∧ (∀ j, j < g → S' j = S j ∧ O' j = O j) ∧ C.length + (bod o).length + bs.length + 1 ≤ e')
theorem one_122 {rb : pb_W} {B S O P Q : Nat → Int32} {k : Nat} (h39 : B 39 = nI k) : pb_run T_X12_one (122, [some (.ref 64), none, none, none], [.int (1 : Int32)], ms rb B S O P Q) = some (some (.int 1), ms rb (upd B 39 (nI (k + 1))) S O P Q) ∧ pb_run T_X12_one (122, [some (.ref 64), none, none, none], [.int (0 : Int32)], ms rb B S O P Q) = some (some (.int 0), ms rb B S O P Q) := by
  constructor
  · rw [r_X12_one_122, if_neg (show ¬ (1 : Int32) = 0 by decide), if_pos (Or.inr rfl), show (ms rb B S O P Q).1 64 39 = nI k from h39, nI_1, ms_B]
  · rw [r_X12_one_122, if_pos rfl, if_pos (Or.inl rfl)]
