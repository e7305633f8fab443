/-! ===== JUDGE: the class's steps ===== -/
def jw (b : pb_W) (K : Nat → Int64) (st : List Int64) : pb_W := pb_wI (pb_wG b 30 K) 25 7 (nI st.length)
theorem j_push {b : pb_W} {K : Nat → Int64} {st : List Int64} (hl : st.length < 64) (v : Int64) : M_X0_push [.ref 25, .long v] (jw b K st) = some (none, jw b (vp_updL K st.length v) (v :: st)) := by
  rw [e_X0_push, show (jw b K st).1 25 7 = nI st.length from rfl, if_pos (show nI st.length < (64 : Int32) from nI_lt (b := 64) hl (by decide)), if_pos (pn_in hl (by decide)), nI_clamp (show st.length < 2 ^ 31 by omega), nI_1]
  congr 2
  unfold jw
  rw [show pb_wL (pb_wI (pb_wG b 30 K) 25 7 (nI st.length)) 30 st.length v = pb_wI (pb_wL (pb_wG b 30 K) 30 st.length v) 25 7 (nI st.length) from Prod.ext rfl rfl, pw_GL, pw_I_I, List.length_cons]
theorem j_pop {b : pb_W} {K : Nat → Int64} {st : List Int64} {x : Int64} (hl : st.length < 64) (h : KS K (x :: st)) : M_X0_pop [.ref 25] (jw b K (x :: st)) = some (some (.long x), jw b K st) := by
  rw [e_X0_pop, show (jw b K (x :: st)).1 25 7 = nI (st.length + 1) from rfl, if_pos (show (0 : Int32) < nI (st.length + 1) from nI_lt (a := 0) (by omega) (by omega)), show nI (st.length + 1) - (1 : Int32) = nI st.length from nI_subN (a := st.length + 1) (b := 1) (by omega), if_pos (pn_in hl (by decide)), nI_clamp (show st.length < 2 ^ 31 by omega), show (jw b K (x :: st)).2 30 st.length = K st.length from rfl, (KS_top h).1]
  congr 2
  unfold jw
  rw [pw_I_I]
def b2l (b : Bool) : Int64 := if b then 1 else 0
def jv (s : Nat) (x y : Int64) : Int64 := if s = 20 then x &&& y else if s = 40 then b2l (decide (x < y)) else if s = 41 then b2l (decide (y < x)) else if s = 42 then b2l (decide (x = y)) else if s = 50 then x + y else if s = 51 then x - y else if s = 60 then x * y else if s = 61 then (if y = 0 then 0 else x / y) else x ||| y
abbrev isJ (s : Nat) : Prop := s = 10 ∨ s = 20 ∨ s = 40 ∨ s = 41 ∨ s = 42 ∨ s = 50 ∨ s = 51 ∨ s = 60 ∨ s = 61
theorem j_joined {s : Nat} (hs : isJ s) (x y : Int64) (w : pb_W) : M_X0_joined [.int (nI s), .long x, .long y] w = some (some (.long (jv s x y)), w) := by
  rw [e_X0_joined]
  unfold jv b2l
  rcases hs with rfl | rfl | rfl | rfl | rfl | rfl | rfl | rfl | rfl
  · rfl
  · rfl
  · rw [if_neg (show ¬ nI 40 = (20 : Int32) by decide), if_pos (show nI 40 = (40 : Int32) from rfl), if_neg (show ¬ (40 : Nat) = 20 by decide), if_pos rfl]
    by_cases z : x < y
    · rw [if_pos ((lg_lt0 _ _).mpr z), if_pos (decide_eq_true z)]
    · rw [if_neg (fun q => z ((lg_lt0 _ _).mp q)), if_neg (fun q => z (of_decide_eq_true q))]
  · rw [if_neg (show ¬ nI 41 = (20 : Int32) by decide), if_neg (show ¬ nI 41 = (40 : Int32) by decide), if_pos (show nI 41 = (41 : Int32) from rfl), if_neg (show ¬ (41 : Nat) = 20 by decide), if_neg (show ¬ (41 : Nat) = 40 by decide), if_pos rfl]
    by_cases z : y < x
    · rw [if_pos ((lg_gt _ _).mpr z), if_pos (decide_eq_true z)]
    · rw [if_neg (fun q => z ((lg_gt _ _).mp q)), if_neg (fun q => z (of_decide_eq_true q))]
  · rw [if_neg (show ¬ nI 42 = (20 : Int32) by decide), if_neg (show ¬ nI 42 = (40 : Int32) by decide), if_neg (show ¬ nI 42 = (41 : Int32) by decide), if_pos (show nI 42 = (42 : Int32) from rfl), if_neg (show ¬ (42 : Nat) = 20 by decide), if_neg (show ¬ (42 : Nat) = 40 by decide), if_neg (show ¬ (42 : Nat) = 41 by decide), if_pos rfl]
    by_cases z : x = y
    · rw [if_pos ((lg_eq0 _ _).mpr z), if_pos (decide_eq_true z)]
    · rw [if_neg (fun q => z ((lg_eq0 _ _).mp q)), if_neg (fun q => z (of_decide_eq_true q))]
  · rfl
  · rfl
  · rfl
  · rw [if_neg (show ¬ nI 61 = (20 : Int32) by decide), if_neg (show ¬ nI 61 = (40 : Int32) by decide), if_neg (show ¬ nI 61 = (41 : Int32) by decide), if_neg (show ¬ nI 61 = (42 : Int32) by decide), if_neg (show ¬ nI 61 = (50 : Int32) by decide), if_neg (show ¬ nI 61 = (51 : Int32) by decide), if_neg (show ¬ nI 61 = (60 : Int32) by decide), if_pos (show nI 61 = (61 : Int32) from rfl)]
    show _ = some (some (Value.long (if y = 0 then 0 else x / y)), w)
    by_cases z : y = 0
    · rw [if_pos ((lg_eq0 _ _).mpr z), if_pos z]
    · rw [if_neg (fun q => z ((lg_eq0 _ _).mp q)), if_neg z, if_neg z]
theorem j_tk_join {s : Nat} (hs : isJ s) (m : Int64) (l : Int32) (w : pb_W) : M_X0_take [.ref 25, .int (nI s), .long m, .int l] w = (pb_bL (M_X0_pop [.ref 25] w) fun x2 w1 => (pb_bL (M_X0_pop [.ref 25] w1) fun x4 w3 => (pb_bL (M_X0_joined [.int (nI s), .long x4, .long x2] w3) fun x6 w5 => (pb_bV (M_X0_push [.ref 25, .long x6] w5) fun w7 => (some (none, w7)))))) := by
  rw [e_X0_take]
  rcases hs with rfl | rfl | rfl | rfl | rfl | rfl | rfl | rfl | rfl <;> rfl
theorem j_tk_not (m : Int64) (l : Int32) (w : pb_W) : M_X0_take [.ref 25, .int (nI 30), .long m, .int l] w = (pb_bL (M_X0_pop [.ref 25] w) fun x9 w8 => (pb_bV (M_X0_push [.ref 25, .long ((1 : Int64) - x9)] w8) fun w10 => (some (none, w10)))) := by
  rw [e_X0_take]
  rfl
theorem j_tk_num (m : Int64) (l : Int32) (w : pb_W) : M_X0_take [.ref 25, .int (nI 1), .long m, .int l] w = (pb_bV (M_X0_push [.ref 25, .long m] w) fun w175 => (some (none, w175))) := by
  rw [e_X0_take]
  rfl
theorem j_tk_var {l : Nat} (hl : l < 200) {i : Nat} (hi : i < 4) (m : Int64) (w : pb_W) : M_X0_take [.ref 25, .int (nI (i + 2)), .long m, .int (nI l)] w = (pb_bV (M_X0_push [.ref 25, .long ((evp w l (w.1 16 l)).1 i)] w) fun w175 => (some (none, w175))) := by
  rw [e_X0_take]
  have l2 : pb_in (nI l) 200 := pn_in hl (by decide)
  have lc : (nI l).toNatClampNeg = l := nI_clamp (by omega)
  have : i = 0 ∨ i = 1 ∨ i = 2 ∨ i = 3 := by omega
  rcases this with rfl | rfl | rfl | rfl
  · rw [if_neg (show ¬ nI (0 + 2) = (1 : Int32) by decide), if_pos (show nI (0 + 2) = (1 : Int32) + 1 by decide), if_pos l2, lc]
    rfl
  · rw [if_neg (show ¬ nI (1 + 2) = (1 : Int32) by decide), if_neg (show ¬ nI (1 + 2) = (1 : Int32) + 1 by decide), if_pos (show nI (1 + 2) = (1 : Int32) + 1 + 1 by decide), if_pos l2, lc]
    rfl
  · rw [if_neg (show ¬ nI (2 + 2) = (1 : Int32) by decide), if_neg (show ¬ nI (2 + 2) = (1 : Int32) + 1 by decide), if_neg (show ¬ nI (2 + 2) = (1 : Int32) + 1 + 1 by decide), if_pos (show nI (2 + 2) = (1 : Int32) + 1 + 1 + 1 by decide), if_pos l2, lc]
    rfl
  · rw [if_neg (show ¬ nI (3 + 2) = (1 : Int32) by decide), if_neg (show ¬ nI (3 + 2) = (1 : Int32) + 1 by decide), if_neg (show ¬ nI (3 + 2) = (1 : Int32) + 1 + 1 by decide), if_neg (show ¬ nI (3 + 2) = (1 : Int32) + 1 + 1 + 1 by decide), if_pos (show nI (3 + 2) = (1 : Int32) + 1 + 1 + 1 + 1 by decide), if_pos l2, lc]
    rfl
theorem j_hasWord {l : Nat} (hl : l < 200) (n : Nat) (w : pb_W) : M_X1_hasWord [.ref 5, .int (nI l), .long (lN n)] w = some (some (.int (b01 ((evp w l (w.1 16 l)).2.1 n))), w) := by
  have e3 : nI l * (3 : Int32) = nI (3 * l) := by rw [show (3 : Int32) = nI 3 from rfl, pn_mul, Nat.mul_comm]
  have e31 : nI (3 * l) + (1 : Int32) = nI (3 * l + 1) := nI_add (3 * l) 1
  have e32 : nI (3 * l) + (2 : Int32) = nI (3 * l + 2) := nI_add (3 * l) 2
  rw [e_X1_hasWord, e3, e31, e32, if_pos (pn_in (show 3 * l < 600 by omega) (by decide)), if_pos (pn_in (show 3 * l + 1 < 600 by omega) (by decide)), if_pos (pn_in (show 3 * l + 2 < 600 by omega) (by decide)), nI_clamp (show 3 * l < 2 ^ 31 by omega), nI_clamp (show 3 * l + 1 < 2 ^ 31 by omega), nI_clamp (show 3 * l + 2 < 2 ^ 31 by omega)]
  show _ = some (some (Value.int (b01 (decide (w.2 14 (3 * l) = lN n ∨ w.2 14 (3 * l + 1) = lN n ∨ w.2 14 (3 * l + 2) = lN n)))), w)
  unfold b01
  by_cases a1 : w.2 14 (3 * l) = lN n
  · rw [if_pos ((lg_eq0 _ _).mpr a1), if_pos (decide_eq_true (Or.inl a1))]
  · rw [if_neg (fun z => a1 ((lg_eq0 _ _).mp z))]
    by_cases a2 : w.2 14 (3 * l + 1) = lN n
    · rw [if_pos ((lg_eq0 _ _).mpr a2), if_pos (decide_eq_true (Or.inr (Or.inl a2)))]
    · rw [if_neg (fun z => a2 ((lg_eq0 _ _).mp z))]
      by_cases a3 : w.2 14 (3 * l + 2) = lN n
      · rw [if_pos ((lg_eq0 _ _).mpr a3), if_pos (decide_eq_true (Or.inr (Or.inr a3)))]
      · rw [if_neg (fun z => a3 ((lg_eq0 _ _).mp z)), if_neg (fun z => by
          rcases of_decide_eq_true z with z | z | z
          · exact a1 z
          · exact a2 z
          · exact a3 z)]
theorem j_tk_word {l : Nat} (hl : l < 200) (n : Nat) (w : pb_W) : M_X0_take [.ref 25, .int (nI 6), .long (lN n), .int (nI l)] w = (pb_bV (M_X0_push [.ref 25, .long (b2l ((evp w l (w.1 16 l)).2.1 n))] w) fun w175 => (some (none, w175))) := by
  rw [e_X0_take, if_neg (show ¬ nI 6 = (1 : Int32) by decide), if_neg (show ¬ nI 6 = (1 : Int32) + 1 by decide), if_neg (show ¬ nI 6 = (1 : Int32) + 1 + 1 by decide), if_neg (show ¬ nI 6 = (1 : Int32) + 1 + 1 + 1 by decide), if_neg (show ¬ nI 6 = (1 : Int32) + 1 + 1 + 1 + 1 by decide), if_pos (show nI 6 = (1 : Int32) + 1 + 1 + 1 + 1 + 1 by decide), j_hasWord hl, pb_bI_some]
  cases (evp w l (w.1 16 l)).2.1 n <;> rfl
theorem j_tk_came {l : Nat} (hl : l < 200) (m : Int64) (w : pb_W) : M_X0_take [.ref 25, .int (nI 7), .long m, .int (nI l)] w = (pb_bV (M_X0_push [.ref 25, .long (b2l (evp w l (w.1 16 l)).2.2)] w) fun w175 => (some (none, w175))) := by
  have l2 : pb_in (nI l) 200 := pn_in hl (by decide)
  have lc : (nI l).toNatClampNeg = l := nI_clamp (by omega)
  rw [e_X0_take, if_neg (show ¬ nI 7 = (1 : Int32) by decide), if_neg (show ¬ nI 7 = (1 : Int32) + 1 by decide), if_neg (show ¬ nI 7 = (1 : Int32) + 1 + 1 by decide), if_neg (show ¬ nI 7 = (1 : Int32) + 1 + 1 + 1 by decide), if_neg (show ¬ nI 7 = (1 : Int32) + 1 + 1 + 1 + 1 by decide), if_neg (show ¬ nI 7 = (1 : Int32) + 1 + 1 + 1 + 1 + 1 by decide), if_pos (show nI 7 = (1 : Int32) + 1 + 1 + 1 + 1 + 1 + 1 by decide), if_pos l2, lc]
  show _ = (pb_bV (M_X0_push [.ref 25, .long (b2l (decide (w.1 12 l ≠ 0)))] w) fun w175 => (some (none, w175)))
  by_cases q : w.1 12 l = 0
  · rw [if_pos q, decide_eq_false (fun z => z q)]
    rfl
  · rw [if_neg q, decide_eq_true q]
    rfl
/-- the rest of the judging from a step on -/
noncomputable def jrun (l F L ru : Nat) (kd un : Int64) (p : Nat) (w : pb_W) : Option pb_R := pb_run T_X0_judgeAnew (33, [some (.ref 25), some (.int (nI l)), none, some (.int (nI F)), some (.int (nI L)), some (.int (nI ru)), some (.long kd), none, some (.long un), none, some (.int (nI p)), none, none, none], [], w)
theorem lN_to32 {s : Nat} (h : s < 2 ^ 32) : (lN s).toInt32 = nI s := by rw [lN_toI32, Nat.mod_eq_of_lt h]
theorem stp_lo {s m : Nat} (hs : s < 256) (hm : m < 2 ^ 50) : (stp s m &&& (255 : Int64)).toInt32 = nI s := by
  unfold stp
  rw [show (255 : Int64) = lN (2 ^ 8 - 1) from rfl, wb_mask (by omega) (by decide), show (m * 256 + s) % 2 ^ 8 = s by omega]
  exact lN_to32 (by omega)
theorem stp_hi {s m : Nat} (hs : s < 256) (hm : m < 2 ^ 50) : stp s m >>> (((8 : Int32)).toInt64 &&& 63) = lN m := by
  unfold stp
  rw [pf_shr (d := 8) (by decide) (by omega), show (m * 256 + s) / 2 ^ 8 = m by omega]
theorem j_step {l F L ru p : Nat} {kd un : Int64} {w : pb_W} {s m : Nat} (hp : p < L) (hL : L ≤ 3000) (hc : w.2 26 p = stp s m) (hs : s < 70) (hm : m < 2 ^ 50) : jrun l F L ru kd un p w = pb_bV (M_X0_take [.ref 25, .int (nI s), .long (lN m), .int (nI l)] w) fun w3 => jrun l F L ru kd un (p + 1) w3 := by
  unfold jrun
  have n7 : ∀ c : Nat, 70 ≤ c → c < 100 → ¬ nI s = nI c := fun c c1 c2 z => by have := (nI_eq (by omega) (by omega)).mp z; omega
  rw [r_X0_judgeAnew_33, if_pos (nI_lt hp (by omega)), if_pos (pn_in (show p < 3000 by omega) (by decide)), if_pos (pn_in (show p < 3000 by omega) (by decide)), nI_clamp (show p < 2 ^ 31 by omega), hc, stp_lo (by omega) hm, stp_hi (by omega) hm, if_neg (show ¬ nI s = (70 : Int32) from n7 70 (by decide) (by decide)), if_neg (show ¬ nI s = (71 : Int32) from n7 71 (by decide) (by decide)), if_neg (show ¬ nI s = (72 : Int32) from n7 72 (by decide) (by decide)), if_neg (show ¬ nI s = (73 : Int32) from n7 73 (by decide) (by decide)), nI_1]
