/-! the best change -/
theorem h_congr {v w : pb_W} {f : Int32} {lo hi lo' hi' n : Nat} (h : ∀ k, k < n → (hin v f lo hi k ↔ hin w f lo' hi' k)) (hd : ∀ k, hdN v k = hdN w k) : ∀ i, i ≤ n → htot v f lo hi i = htot w f lo' hi' i ∧ hmx v f lo hi i = hmx w f lo' hi' i ∧ ∀ x, hc v f lo hi x i = hc w f lo' hi' x i
  | 0, _ => ⟨rfl, rfl, fun _ => rfl⟩
  | i + 1, l => by
    obtain ⟨a, b, c⟩ := h_congr h hd i (by omega)
    have e := h i (by omega)
    rw [htot, htot, hmx, hmx, a, b, c, hd]
    by_cases t : hin w f lo' hi' i
    · have t' := e.mpr t
      rw [if_pos t, if_pos t', if_pos t, if_pos t']
      refine ⟨rfl, rfl, fun x => ?_⟩
      rw [hc, hc, c, hd]
      by_cases q : hdN w i = x
      · rw [if_pos ⟨t', q⟩, if_pos ⟨t, q⟩]
      · rw [if_neg (fun z => q z.2), if_neg (fun z => q z.2)]
    · have t' := fun z => t (e.mp z)
      rw [if_neg t, if_neg t', if_neg t, if_neg t']
      refine ⟨rfl, rfl, fun x => ?_⟩
      rw [hc, hc, c, if_neg (fun z => t' z.1), if_neg (fun z => t z.1)]
abbrev SH (v w : pb_W) : Prop := (v.1 5 19 = w.1 5 19) ∧ (v.1 8 = w.1 8) ∧ (v.1 9 = w.1 9) ∧ (v.1 11 = w.1 11) ∧ (v.1 13 = w.1 13)
theorem SH.s19 {v w : pb_W} (h : SH v w) : v.1 5 19 = w.1 5 19 := h.1
theorem SH.s8 {v w : pb_W} (h : SH v w) : v.1 8 = w.1 8 := h.2.1
theorem SH.s9 {v w : pb_W} (h : SH v w) : v.1 9 = w.1 9 := h.2.2.1
theorem SH.s11 {v w : pb_W} (h : SH v w) : v.1 11 = w.1 11 := h.2.2.2.1
theorem SH.s13 {v w : pb_W} (h : SH v w) : v.1 13 = w.1 13 := h.2.2.2.2
theorem hin_sh {v w : pb_W} (h : SH v w) (f : Int32) (lo hi k : Nat) : hin v f lo hi k ↔ hin w f lo hi k := by
  unfold hin uf wkN
  rw [h.s19, h.s8, h.s9, h.s13]
theorem hdN_sh {v w : pb_W} (h : SH v w) (k : Nat) : hdN v k = hdN w k := by unfold hdN; rw [h.s11]
theorem ulk_sh {v w : pb_W} (h : SH v w) (f : Int32) (lo hi n : Nat) : ulk v f lo hi n = ulk w f lo hi n := by
  obtain ⟨a, b, -⟩ := h_congr (v := v) (w := w) (f := f) (lo := lo) (hi := hi) (n := n) (fun k _ => hin_sh h f lo hi k) (hdN_sh h) n (Nat.le_refl n)
  unfold ulk
  rw [a, b]
/-- how many are unlike where the hand changes at x -/
def vat (w : pb_W) (f : Int32) (n x : Nat) : Option Nat := if htot w f 0 x n = 0 ∨ htot w f x 520 n = 0 then none else some (htot w f 0 x n - hmx w f 0 x n + (htot w f x 520 n - hmx w f x 520 n))
theorem vat_sh {v w : pb_W} (h : SH v w) (f : Int32) (n x : Nat) : vat v f n x = vat w f n x := by
  obtain ⟨a, b, -⟩ := h_congr (v := v) (w := w) (f := f) (lo := 0) (hi := x) (n := n) (fun k _ => hin_sh h f 0 x k) (hdN_sh h) n (Nat.le_refl n)
  obtain ⟨a', b', -⟩ := h_congr (v := v) (w := w) (f := f) (lo := x) (hi := 520) (n := n) (fun k _ => hin_sh h f x 520 k) (hdN_sh h) n (Nat.le_refl n)
  unfold vat
  rw [a, b, a', b']
def oI : Option Nat → Int32
  | none => -1
  | some m => nI m
theorem vat_le {w : pb_W} {n : Nat} (hN : LN w n) (f : Int32) {x m : Nat} (h : vat w f n x = some m) : m ≤ 400 := by
  have hn := hN.le
  obtain ⟨a, b, -⟩ := hc_fact hN f 0 x n (Nat.le_refl n)
  obtain ⟨a', b', -⟩ := hc_fact hN f x 520 n (Nat.le_refl n)
  unfold vat at h
  split at h
  · cases h
  · injection h with h
    omega
theorem vat_ulk {w : pb_W} {n : Nat} (hN : LN w n) (f : Int32) (x : Nat) : (if ulk w f 0 x n = -1 then (-1 : Int32) else if ulk w f x 520 n = -1 then -1 else ulk w f 0 x n + ulk w f x 520 n) = oI (vat w f n x) := by
  have hn := hN.le
  obtain ⟨a, b, -⟩ := hc_fact hN f 0 x n (Nat.le_refl n)
  obtain ⟨a', b', -⟩ := hc_fact hN f x 520 n (Nat.le_refl n)
  unfold ulk vat
  by_cases p : htot w f 0 x n = 0
  · rw [if_pos p, if_pos rfl, if_pos (Or.inl p)]
    rfl
  · rw [if_neg p, if_neg (pn_m1 _ (by omega))]
    by_cases q : htot w f x 520 n = 0
    · rw [if_pos q, if_pos rfl, if_pos (Or.inr q)]
      rfl
    · rw [if_neg q, if_neg (pn_m1 _ (by omega)), if_neg (fun z => z.elim p q), nI_add]
      rfl
theorem M_unlikeAt {w : pb_W} {n : Nat} (hN : LN w n) (f : Int32) {x : Nat} (l1 : 1 ≤ x) (l2 : x ≤ 520) : ∃ g, M_X9_unlikeAt [.ref 54, .int f, .int (nI x)] w = some (some (.int (oI (vat w f n x))), pb_wF w 55 g) := by
  obtain ⟨g1, e1⟩ := M_unl_c hN f (lo := 0) (to := x - 1) (by omega) (by omega)
  have hN' : LN (pb_wF w 55 g1) n := LN_sv hN rfl rfl rfl rfl rfl rfl rfl rfl rfl rfl rfl rfl
  obtain ⟨g2, e2⟩ := M_unl_c hN' f (lo := x) (to := 519) (by omega) (by omega)
  refine ⟨g2, ?_⟩
  rw [e_X9_unlikeAt, show nI x - (1 : Int32) = nI (x - 1) from nI_subN l1]
  rw [show M_X9_unlikeHands [.ref 54, .int f, .int (0 : Int32), .int (nI (x - 1))] w = _ from e1, pb_bI_some, show M_X9_unlikeHands [.ref 54, .int f, .int (nI x), .int (519 : Int32)] (pb_wF w 55 g1) = _ from e2, pb_bI_some, ulk_sh (v := pb_wF w 55 g1) (w := w) ⟨rfl, rfl, rfl, rfl, rfl⟩, show x - 1 + 1 = x by omega, pw_FF, ← vat_ulk hN f x]
  split
  · rfl
  · split
    · rfl
    · rfl
/-- the best so far: where, how many -/
def bsC : Option (Nat × Nat) → Nat → Option Nat → Option (Nat × Nat)
  | o, _, none => o
  | none, x, some m => some (x, m)
  | some (b, k), x, some m => if m < k ∨ m = k ∧ x < b then some (x, m) else some (b, k)
def goodS (V : Nat → Option Nat) (S : Nat → Prop) : Option (Nat × Nat) → Prop
  | none => ∀ x, S x → V x = none
  | some (b, m) => S b ∧ V b = some m ∧ ∀ x m', S x → V x = some m' → m < m' ∨ m = m' ∧ b ≤ x
theorem goodS_step {V : Nat → Option Nat} {S S' : Nat → Prop} {o : Option (Nat × Nat)} {x : Nat} (h : goodS V S o) (hS : ∀ y, S' y ↔ S y ∨ y = x) : goodS V S' (bsC o x (V x)) := by
  cases e : V x with
  | none =>
    cases o with
    | none =>
      intro y hy
      rcases (hS y).mp hy with q | q
      · exact h y q
      · rw [q]; exact e
    | some p =>
      obtain ⟨b, m⟩ := p
      refine ⟨(hS b).mpr (Or.inl h.1), h.2.1, fun y m' hy ey => ?_⟩
      rcases (hS y).mp hy with q | q
      · exact h.2.2 y m' q ey
      · rw [q, e] at ey; cases ey
  | some k =>
    cases o with
    | none =>
      refine ⟨(hS x).mpr (Or.inr rfl), e, fun y m' hy ey => ?_⟩
      rcases (hS y).mp hy with q | q
      · have := h y q
        rw [this] at ey; cases ey
      · rw [q, e] at ey
        injection ey with ey
        omega
    | some p =>
      obtain ⟨b, m⟩ := p
      obtain ⟨h1, h2, h3⟩ := h
      show goodS V S' (if k < m ∨ k = m ∧ x < b then some (x, k) else some (b, m))
      by_cases t : k < m ∨ k = m ∧ x < b
      · rw [if_pos t]
        refine ⟨(hS x).mpr (Or.inr rfl), e, fun y m' hy ey => ?_⟩
        rcases (hS y).mp hy with q | q
        · have := h3 y m' q ey
          omega
        · rw [q, e] at ey
          injection ey with ey
          omega
      · rw [if_neg t]
        refine ⟨(hS b).mpr (Or.inl h1), h2, fun y m' hy ey => ?_⟩
        rcases (hS y).mp hy with q | q
        · exact h3 y m' q ey
        · rw [q, e] at ey
          injection ey with ey
          omega
theorem goodS_uniq {V : Nat → Option Nat} {S T : Nat → Prop} {o p : Option (Nat × Nat)} (ho : goodS V S o) (hp : goodS V T p) (h1 : ∀ x m, S x → V x = some m → T x) (h2 : ∀ x m, T x → V x = some m → ∃ y, S y ∧ y ≤ x ∧ V y = some m) : o = p := by
  cases o with
  | none =>
    cases p with
    | none => rfl
    | some q =>
      obtain ⟨b, m⟩ := q
      obtain ⟨y, sy, -, vy⟩ := h2 b m hp.1 hp.2.1
      rw [ho y sy] at vy
      cases vy
  | some q =>
    obtain ⟨b, m⟩ := q
    obtain ⟨o1, o2, o3⟩ := ho
    cases p with
    | none =>
      rw [hp b (h1 b m o1 o2)] at o2
      cases o2
    | some r =>
      obtain ⟨c, k⟩ := r
      obtain ⟨p1, p2, p3⟩ := hp
      have a := p3 b m (h1 b m o1 o2) o2
      obtain ⟨y, sy, ly, vy⟩ := h2 c k p1 p2
      have d := o3 y k sy vy
      have e1 : b = c := by omega
      have e2 : m = k := by omega
      rw [e1, e2]
/-- of lines before x one is the last -/
theorem last_one {w : pb_W} {f : Int32} {n x : Nat} : ∀ d, (∃ k, k < n ∧ uf w k f ∧ wkN w k < x ∧ x - wkN w k ≤ d) → ∃ k, k < n ∧ uf w k f ∧ wkN w k < x ∧ ∀ j, j < n → uf w j f → wkN w j < x → wkN w j ≤ wkN w k := by
  intro d
  induction d with
  | zero =>
    rintro ⟨k, a, b, c, e⟩
    omega
  | succ d ih =>
    rintro ⟨k, a, b, c, e⟩
    by_cases h : ∃ j, j < n ∧ uf w j f ∧ wkN w j < x ∧ wkN w k < wkN w j
    · obtain ⟨j, ja, jb, jc, je⟩ := h
      exact ih ⟨j, ja, jb, jc, by omega⟩
    · refine ⟨k, a, b, c, fun j ja jb jc => ?_⟩
      rcases Nat.lt_or_ge (wkN w k) (wkN w j) with q | q
      · exact absurd ⟨j, ja, jb, jc, q⟩ h
      · exact q
theorem htot_pos {w : pb_W} {f : Int32} {lo hi : Nat} : ∀ i, htot w f lo hi i ≠ 0 → ∃ k, k < i ∧ hin w f lo hi k
  | 0, h => absurd rfl h
  | i + 1, h => by
    by_cases t : hin w f lo hi i
    · exact ⟨i, by omega, t⟩
    · rw [htot, if_neg t] at h
      obtain ⟨k, a, b⟩ := htot_pos i h
      exact ⟨k, by omega, b⟩
theorem vat_back {w : pb_W} {f : Int32} {n x m : Nat} (h : vat w f n x = some m) : ∃ k, k < n ∧ uf w k f ∧ wkN w k + 1 ≤ x ∧ vat w f n (wkN w k + 1) = some m := by
  have p : htot w f 0 x n ≠ 0 := by
    intro q
    unfold vat at h
    rw [if_pos (Or.inl q)] at h
    cases h
  obtain ⟨k0, a0, b0⟩ := htot_pos n p
  obtain ⟨k, a, b, c, e⟩ := last_one (w := w) (f := f) (n := n) (x := x) (x - wkN w k0) ⟨k0, a0, b0.1, b0.2.2, Nat.le_refl _⟩
  refine ⟨k, a, b, c, ?_⟩
  rw [← h]
  obtain ⟨p1, p2, -⟩ := h_congr (v := w) (w := w) (f := f) (lo := 0) (hi := wkN w k + 1) (lo' := 0) (hi' := x) (n := n) (fun j hj => by
    refine ⟨fun z => ⟨z.1, z.2.1, by have := z.2.2; omega⟩, fun z => ⟨z.1, z.2.1, by have := e j hj z.1 z.2.2; omega⟩⟩) (fun _ => rfl) n (Nat.le_refl n)
  obtain ⟨p3, p4, -⟩ := h_congr (v := w) (w := w) (f := f) (lo := wkN w k + 1) (hi := 520) (lo' := x) (hi' := 520) (n := n) (fun j hj => by
    refine ⟨fun z => ⟨z.1, ?_, z.2.2⟩, fun z => ⟨z.1, by have := z.2.1; omega, z.2.2⟩⟩
    rcases Nat.lt_or_ge (wkN w j) x with q | q
    · have := e j hj z.1 q
      have := z.2.1
      omega
    · exact q) (fun _ => rfl) n (Nat.le_refl n)
  unfold vat
  rw [p1, p2, p3, p4]
theorem vat_520 {w : pb_W} {f : Int32} {n x : Nat} (h : 520 ≤ x) : vat w f n x = none := by
  unfold vat
  rw [if_pos]
  refine Or.inr (Classical.byContradiction fun q => ?_)
  obtain ⟨k, a, b⟩ := htot_pos n q
  have := b.2
  omega
theorem ite_eqN {α : Type} {a b : Nat} (ha : a < 2 ^ 31) (hb : b < 2 ^ 31) (x y : α) : (if nI a = nI b then x else y) = if a = b then x else y := by
  by_cases h : a = b
  · rw [if_pos h, if_pos (by rw [h])]
  · rw [if_neg h, if_neg (fun q => h ((nI_eq ha hb).mp q))]
def oB (o : Option (Nat × Nat)) : Int32 := oI (o.map Prod.fst)
def oM (o : Option (Nat × Nat)) : Int32 := oI (o.map Prod.snd)
theorem cx_best {w : pb_W} {n : Nat} (hN : LN w n) (f a2 : Int32) : ∀ m i o g, i + m = n → goodS (vat w f n) (fun y => ∃ k, k < i ∧ uf w k f ∧ y = wkN w k + 1) o → ∃ o' g', goodS (vat w f n) (fun y => ∃ k, k < n ∧ uf w k f ∧ y = wkN w k + 1) o' ∧ pb_run T_X9_bestChange (8, [some (.ref 54), some (.int f), some (.int a2), some (.int (oB o)), some (.int (oM o)), some (.int (nI i)), none, none, none], [], pb_wF w 55 g) = some (some (.int (if a2 = 0 then oB o' else oM o')), pb_wF w 55 g') := by
  have hn := hN.le
  intro m
  induction m with
  | zero =>
    intro i o g hi ho
    have e : i = n := by omega
    subst e
    refine ⟨o, g, ho, ?_⟩
    rw [r_X9_bestChange_8, show (pb_wF w 55 g).1 5 3 = nI i from hN.n5, if_neg (show ¬ nI i < nI i from fun q => by rw [nI_ltI (by omega) (by omega)] at q; omega)]
    split <;> rfl
  | succ m ih =>
    intro i o g hi ho
    have i200 : pb_in (nI i) 200 := pn_in (by omega) (by decide)
    obtain ⟨ew, lw⟩ := hN.wk i (by omega)
    have hN' : LN (pb_wF w 55 g) n := LN_sv hN rfl rfl rfl rfl rfl rfl rfl rfl rfl rfl rfl rfl
    obtain ⟨g1, e1⟩ := M_unlikeAt hN' f (x := wkN w i + 1) (by omega) (by omega)
    rw [vat_sh (v := pb_wF w 55 g) (w := w) ⟨rfl, rfl, rfl, rfl, rfl⟩, pw_FF] at e1
    by_cases t : uf w i f
    · obtain ⟨o', g', y1, y2⟩ := ih (i + 1) (bsC o (wkN w i + 1) (vat w f n (wkN w i + 1))) g1 (by omega) (goodS_step ho (fun y => ⟨by
        rintro ⟨k, a, b, c⟩
        by_cases q : k = i
        · exact Or.inr (by rw [c, q])
        · exact Or.inl ⟨k, by omega, b, c⟩, by
        rintro (⟨k, a, b, c⟩ | q)
        · exact ⟨k, by omega, b, c⟩
        · exact ⟨i, by omega, t, q⟩⟩))
      refine ⟨o', g', y1, ?_⟩
      rw [← y2]
      rw [r_X9_bestChange_8, show (pb_wF w 55 g).1 5 3 = nI n from hN.n5, if_pos (show nI i < nI n from nI_lt (by omega) (by omega)), if_pos i200, nI_clamp (show i < 2 ^ 31 by omega), M_isKnown1 (show i < 200 by omega), pb_bI_some, if_pos (show (pb_wF w 55 g).1 8 i = f from t.1), if_neg (show ¬ (pb_wF w 55 g).1 5 19 < (pb_wF w 55 g).1 13 i from t.2), if_neg (show ¬ (1 : Int32) = 0 by decide), if_pos i200, show (pb_wF w 55 g).1 9 i = nI (wkN w i) from ew, nI_1, e1, pb_bI_some]
      simp only [r_X9_bestChange_100, nI_1, if_neg (show ¬ (1 : Int32) = 0 by decide), if_true, ite_true]
      cases ev : vat w f n (wkN w i + 1) with
      | none =>
        simp only [if_pos (show oI none = -1 from rfl), ite_self]
        cases o <;> rfl
      | some k =>
        have lk := vat_le hN f ev
        simp only [if_neg (show ¬ oI (some k) = -1 from pn_m1 k (by omega)), ite_self]
        cases o with
        | none =>
          rw [if_pos (show oM none = -1 from rfl)]
          rfl
        | some p =>
          obtain ⟨b, l⟩ := p
          have lb : b ≤ 520 := by
            obtain ⟨k', a', -, c'⟩ := ho.1
            have := (hN.wk k' (by omega)).2
            omega
          have ll := vat_le hN f ho.2.1
          rw [if_neg (show ¬ oM (some (b, l)) = -1 from pn_m1 l (by omega)), show oI (some k) = nI k from rfl, show oM (some (b, l)) = nI l from rfl, show oB (some (b, l)) = nI b from rfl, ite_lt (by omega) (by omega), ite_eqN (by omega) (by omega), ite_lt (by omega) (by omega)]
          show _ = pb_run T_X9_bestChange (8, [some (.ref 54), some (.int f), some (.int a2), some (.int (oB (if k < l ∨ k = l ∧ wkN w i + 1 < b then some (wkN w i + 1, k) else some (b, l)))), some (.int (oM (if k < l ∨ k = l ∧ wkN w i + 1 < b then some (wkN w i + 1, k) else some (b, l)))), some (.int (nI (i + 1))), none, none, none], [], pb_wF w 55 g1)
          by_cases q1 : k < l
          · rw [if_pos q1, if_pos (Or.inl q1)]
            rfl
          · rw [if_neg q1]
            by_cases q2 : k = l
            · rw [if_pos q2]
              by_cases q3 : wkN w i + 1 < b
              · rw [if_pos q3, if_pos (Or.inr ⟨q2, q3⟩)]
                rfl
              · rw [if_neg q3, if_neg (fun z => z.elim q1 (fun z => q3 z.2))]
                rfl
            · rw [if_neg q2, if_neg (fun z => z.elim q1 (fun z => q2 z.1))]
              rfl
    · obtain ⟨o', g', y1, y2⟩ := ih (i + 1) o g (by omega) (by
        have E : (fun y => ∃ k, k < i + 1 ∧ uf w k f ∧ y = wkN w k + 1) = (fun y => ∃ k, k < i ∧ uf w k f ∧ y = wkN w k + 1) := by
          funext y
          refine propext ⟨?_, ?_⟩
          · rintro ⟨k, a, b, c⟩
            by_cases q : k = i
            · rw [q] at b; exact absurd b t
            · exact ⟨k, by omega, b, c⟩
          · rintro ⟨k, a, b, c⟩
            exact ⟨k, by omega, b, c⟩
        rw [E]
        exact ho)
      refine ⟨o', g', y1, ?_⟩
      rw [← y2, r_X9_bestChange_8, show (pb_wF w 55 g).1 5 3 = nI n from hN.n5, if_pos (show nI i < nI n from nI_lt (by omega) (by omega)), if_pos i200, nI_clamp (show i < 2 ^ 31 by omega), M_isKnown1 (show i < 200 by omega), pb_bI_some, nI_1]
      by_cases q1 : w.1 8 i = f
      · by_cases q2 : w.1 5 19 < w.1 13 i
        · rw [if_pos (show (pb_wF w 55 g).1 8 i = f from q1), if_pos (show (pb_wF w 55 g).1 5 19 < (pb_wF w 55 g).1 13 i from q2), if_pos rfl]
        · exact absurd ⟨q1, q2⟩ t
      · rw [if_neg (show ¬ (pb_wF w 55 g).1 8 i = f from q1)]
