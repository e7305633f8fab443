/-! ===== SLIPS: the reference's look ===== -/
theorem iI_tdiv {a : Int} (h1 : -2 ^ 30 ≤ a) (h2 : a ≤ 2 ^ 30) : iI a / (12 : Int32) = iI (a.tdiv 12) ∧ (a.tdiv 12).natAbs = a.natAbs / 12 := by
  have n := Int.natAbs_tdiv a 12
  have n' : (a.tdiv 12).natAbs = a.natAbs / 12 := n
  refine ⟨?_, n'⟩
  apply Int32.toInt_inj.mp
  rw [Int32.toInt_div, iI_toInt (by omega) (by omega), iI_toInt (by omega) (by omega), show (12 : Int32).toInt = 12 by decide]
  exact Int.bmod_eq_of_le (by omega) (by omega)
theorem abs_iI {c : Int} (h1 : -2 ^ 30 ≤ c) (h2 : c ≤ 2 ^ 30) : pb_abs (iI c) = nI c.natAbs := by
  unfold pb_abs
  have z : (0 : Int32) = iI 0 := rfl
  rw [iI_n (show c.natAbs < 2 ^ 31 by omega)]
  by_cases q : 0 ≤ c
  · rw [if_pos (show (0 : Int32) ≤ iI c by rw [pn_le, iI_toInt (by omega) (by omega)]; exact q), show ((c.natAbs : Nat) : Int) = c by omega]
  · rw [if_neg (show ¬ (0 : Int32) ≤ iI c by rw [pn_le, iI_toInt (by omega) (by omega)]; exact q), z, iI_sub, show ((c.natAbs : Nat) : Int) = 0 - c by omega]
abbrev Sst : Type := Nat × Nat × (Nat → Int32) × Int32 × (Nat → Nat)
def mst (b : pb_W) (U Fi : Nat → Int32) (few riv c : Int32) : pb_W := pb_wI (pb_wI (pb_wI (pb_wF (pb_wF b 108 U) 109 Fi) 64 73 few) 64 74 riv) 64 75 c
def mS (b : pb_W) (U : Nat → Int32) (s : Sst) : pb_W := mst b U s.2.2.1 (nI s.1) (nI s.2.1) s.2.2.2.1
theorem mst_U (b : pb_W) (U Fi : Nat → Int32) (few riv c : Int32) (k : Nat) (v : Int32) : pb_wI (mst b U Fi few riv c) 108 k v = mst b (upd U k v) Fi few riv c := by
  refine Prod.ext (funext fun d => ?_) rfl
  by_cases d1 : d = 108
  · subst d1; rfl
  · simp [mst, pw_I1, pw_F1, d1]
theorem mst_F (b : pb_W) (U Fi : Nat → Int32) (few riv c : Int32) (k : Nat) (v : Int32) : pb_wI (mst b U Fi few riv c) 109 k v = mst b U (upd Fi k v) few riv c := by
  refine Prod.ext (funext fun d => ?_) rfl
  by_cases d1 : d = 109
  · subst d1; rfl
  · simp [mst, pw_I1, pw_F1, d1]
theorem mst_c (b : pb_W) (U Fi : Nat → Int32) (few riv c c' : Int32) : pb_wI (mst b U Fi few riv c) 64 75 c' = mst b U Fi few riv c' := by
  refine Prod.ext (funext fun d => funext fun k => ?_) rfl
  by_cases d1 : d = 64
  · subst d1
    show (if k = 75 then c' else if k = 75 then c else if k = 74 then riv else if k = 73 then few else b.1 64 k) = if k = 75 then c' else if k = 74 then riv else if k = 73 then few else b.1 64 k
    by_cases q : k = 75
    · simp only [if_pos q]
    · simp only [if_neg q]
  · simp [mst, pw_I1, pw_F1, d1]
theorem mst_fr (b : pb_W) (U Fi : Nat → Int32) (few riv c few' riv' : Int32) : pb_wI (pb_wI (mst b U Fi few riv c) 64 74 riv') 64 73 few' = mst b U Fi few' riv' c := by
  refine Prod.ext (funext fun d => funext fun k => ?_) rfl
  by_cases d1 : d = 64
  · subst d1
    show (if k = 73 then few' else if k = 74 then riv' else if k = 75 then c else if k = 74 then riv else if k = 73 then few else b.1 64 k) = if k = 75 then c else if k = 74 then riv' else if k = 73 then few' else b.1 64 k
    by_cases q : k = 73
    · subst q; rfl
    · by_cases q2 : k = 74
      · subst q2; rfl
      · simp only [if_neg q, if_neg q2]
  · simp [mst, pw_I1, pw_F1, d1]
/-- what the reference holds behind some looks -/
def RS (A : Nat → Nat → Int) (g : Nat) (out : Int) (s : Sst) (K : Nat → Nat) : Prop := s.1 ≤ 4 ∧ (s.1 = 4 → s.2.1 = 0 ∧ ∀ k, k ≤ 3 → K k = 0) ∧ (s.1 ≤ 3 → s.2.1 = K s.1 ∧ s.2.1 ≠ 0 ∧ (∀ k, k < s.1 → K k = 0) ∧ (∀ i, i < 9 → s.2.2.1 i = nI (s.2.2.2.2 i)) ∧ Mem A g out s.1 s.2.2.2.2 ∧ ∃ z : Int, s.2.2.2.1 = iI z ∧ out = svm A s.2.2.2.2 g + 12 * z)
def Cov (g : Nat) (s : Sst) (v : Nat → Nat) (k : Nat) : Prop := s.1 < k ∨ (s.1 = k ∧ lxe s.2.2.2.2 v g)
def mono (g : Nat) (s s' : Sst) : Prop := ∀ v k, k ≤ 3 → Cov g s v k → Cov g s' v k
theorem RS_K {A : Nat → Nat → Int} {g : Nat} {out : Int} {s : Sst} {K K' : Nat → Nat} (h : RS A g out s K) (e : ∀ k, k ≤ 3 → K' k = K k) : RS A g out s K' := by
  refine ⟨h.1, fun q => ⟨(h.2.1 q).1, fun k hk => (e k hk).trans ((h.2.1 q).2 k hk)⟩, fun q => ?_⟩
  obtain ⟨a, b, c, d⟩ := h.2.2 q
  exact ⟨a.trans (e _ q).symm, b, fun k hk => (e k (by omega)).trans (c k hk), d⟩
theorem mx_earlier {b : pb_W} {A : Nat → Nat → Int} {g : Nat} (hg : g ≤ 9) (h71 : b.1 64 71 = nI g) (u fv : Nat → Nat) (U Fi : Nat → Int32) (few riv c : Int32) (a1 : Int32) (hU : ∀ i, i < 9 → U i = nI (u i)) (hF : ∀ i, i < 9 → Fi i = nI (fv i)) (hu : okv A u g) (hf : okv A fv g) : ∀ m i, i + m = g → exv u fv i → (pb_run T_X12_isEarlier (2, [some (.ref 64), some (.int a1), some (.int (nI i))], [], mst b U Fi few riv c) = some (some (.int 1), mst b U Fi few riv c) ∧ lxe u fv g) ∨ (pb_run T_X12_isEarlier (2, [some (.ref 64), some (.int a1), some (.int (nI i))], [], mst b U Fi few riv c) = some (some (.int 0), mst b U Fi few riv c) ∧ lxe fv u g) := by
  intro m
  induction m with
  | zero =>
    intro i hi hx
    have e : i = g := by omega
    subst e
    rw [r_X12_isEarlier_2, show (mst b U Fi few riv c).1 64 71 = nI i from h71, if_neg (show ¬ nI i < nI i from fun q => by rw [nI_ltI (by omega) (by omega)] at q; omega)]
    by_cases q : a1 < (mst b U Fi few riv c).1 64 75
    · rw [if_pos q]
      exact Or.inl ⟨rfl, Or.inl hx⟩
    · rw [if_neg q]
      exact Or.inr ⟨rfl, Or.inl fun k hk => (hx k hk).symm⟩
  | succ m ih =>
    intro i hi hx
    have i9 : pb_in (nI i) 9 := pn_in (by omega) (by decide)
    have bu : u i ≤ 6 := (hu i (by omega)).elim (fun q => by omega) (fun q => q.1)
    have bf : fv i ≤ 6 := (hf i (by omega)).elim (fun q => by omega) (fun q => q.1)
    rw [r_X12_isEarlier_2, show (mst b U Fi few riv c).1 64 71 = nI g from h71, if_pos (show nI i < nI g from nI_lt (by omega) (by omega)), if_pos i9, if_pos i9, if_pos i9, if_pos i9, nI_clamp (show i < 2 ^ 31 by omega), nI_1, show (mst b U Fi few riv c).1 108 i = nI (u i) from hU i (by omega), show (mst b U Fi few riv c).1 109 i = nI (fv i) from hF i (by omega), ite_eqN (by omega) (by omega), ite_lt (by omega) (by omega)]
    rcases Nat.lt_trichotomy (u i) (fv i) with q | q | q
    · rw [if_neg (by omega), if_pos q]
      exact Or.inl ⟨rfl, Or.inr ⟨i, by omega, hx, q⟩⟩
    · rw [if_pos q]
      refine ih (i + 1) (by omega) (fun k hk => ?_)
      by_cases z : k = i
      · rw [z]; exact q
      · exact hx k (by omega)
    · rw [if_neg (by omega), if_neg (by omega)]
      exact Or.inr ⟨rfl, Or.inr ⟨i, by omega, fun k hk => (hx k hk).symm, q⟩⟩
theorem mx_copy {b : pb_W} (U : Nat → Int32) (few riv : Int32) (c a4 a5 : Int32) : ∀ m i Fi, i + m = 9 → (∀ k, k < i → Fi k = U k) → ∃ Fi', (∀ k, k < 9 → Fi' k = U k) ∧ pb_run T_X12_look (79, [some (.ref 64), none, none, none, some (.int a4), some (.int a5), some (.int (nI i))], [], mst b U Fi few riv c) = pb_run T_X12_look (112, [some (.ref 64), none, none, none, none, some (.int a5), none], [], mst b U Fi' few riv a4) := by
  intro m
  induction m with
  | zero =>
    intro i Fi hi h
    have e : i = 9 := by omega
    subst e
    refine ⟨Fi, h, ?_⟩
    rw [r_X12_look_79, if_neg (show ¬ nI 9 < (9 : Int32) by decide), mst_c]
  | succ m ih =>
    intro i Fi hi h
    have i9 : pb_in (nI i) 9 := pn_in (by omega) (by decide)
    obtain ⟨Fi', p, q⟩ := ih (i + 1) (upd Fi i (U i)) (by omega) (fun k hk => by
      rw [pu_at]
      by_cases z : k = i
      · rw [if_pos z, z]
      · rw [if_neg z]; exact h k (by omega))
    refine ⟨Fi', p, ?_⟩
    rw [r_X12_look_79, if_pos (show nI i < (9 : Int32) from nI_lt (b := 9) (by omega) (by decide)), if_pos i9, if_pos i9, nI_clamp (show i < 2 ^ 31 by omega), nI_1, mst_F, show (mst b U Fi few riv c).1 108 i = U i from rfl]
    exact q
theorem mx_look {b : pb_W} {A : Nat → Nat → Int} {g : Nat} {out : Int} (hg : g ≤ 9) (h71 : b.1 64 71 = nI g) (h72 : b.1 64 72 = iI out) (u : Nat → Nat) (U : Nat → Int32) (s : Sst) (K : Nat → Nat) (hU : ∀ i, i < 9 → U i = nI (u i)) (hu : okv A u g) (hj : nzm u g ≤ 3) (b1 : -6000000 ≤ out - svm A u g) (b2 : out - svm A u g ≤ 6000000) (hS : RS A g out s K) : ∃ s', M_X12_look [.ref 64, .int (iI (svm A u g)), .int (nI (nzm u g))] (mS b U s) = some (none, mS b U s') ∧ RS A g out s' (fun k => K k + t1 (tot out (svm A u g) (nzm u g) k)) ∧ mono g s s' ∧ ∀ k, k ≤ 3 → tot out (svm A u g) (nzm u g) k → Cov g s' u k := by
  obtain ⟨few, riv, Fi, c, fv⟩ := s
  obtain ⟨dE, dN⟩ := iI_tdiv (a := out - svm A u g) (by omega) (by omega)
  have k4 : few ≤ 4 := hS.1
  have skip : (∀ k, k ≤ 3 → k ≤ few → ¬ tot out (svm A u g) (nzm u g) k) → RS A g out (few, riv, Fi, c, fv) (fun k => K k + t1 (tot out (svm A u g) (nzm u g) k)) := by
    intro h
    refine ⟨hS.1, fun q => ⟨(hS.2.1 q).1, fun k hk => ?_⟩, fun q => ?_⟩
    · show K k + t1 _ = 0
      have q' : few = 4 := q
      rw [(hS.2.1 q).2 k hk, t1_neg (h k hk (by omega))]
    · obtain ⟨p1, p2, p3, p4⟩ := hS.2.2 q
      refine ⟨?_, p2, fun k hk => ?_, p4⟩
      · show riv = K few + t1 _
        rw [t1_neg (h few q (Nat.le_refl _)), Nat.add_zero]
        exact p1
      · show K k + t1 _ = 0
        have q' : few ≤ 3 := q
        have hk' : k < few := hk
        rw [p3 k hk, t1_neg (h k (by omega) (by omega))]
  have e72 : (mS b U (few, riv, Fi, c, fv)).1 64 72 = iI out := h72
  have e73 : (mS b U (few, riv, Fi, c, fv)).1 64 73 = nI few := rfl
  rw [e_X12_look, e72, iI_sub, dE, e73]
  have rem : (iI (out - svm A u g) - iI ((out - svm A u g).tdiv 12) * (12 : Int32) = 0) ↔ (out - svm A u g) - (out - svm A u g).tdiv 12 * 12 = 0 := by
    rw [show (12 : Int32) = iI 12 by decide, iI_mul, iI_sub, show (0 : Int32) = iI 0 from rfl]
    exact iI_eq (by omega) (by omega) (by omega) (by omega)
  by_cases hd : ∃ z : Int, out - svm A u g = 12 * z
  · obtain ⟨z, hz⟩ := hd
    have ez : (out - svm A u g).tdiv 12 = z := by rw [hz, Int.mul_tdiv_cancel_left _ (by decide)]
    rw [ez] at rem ⊢
    have tz : ∀ k, tot out (svm A u g) (nzm u g) k ↔ nzm u g + z.natAbs = k := by
      intro k
      refine ⟨fun ⟨z', p, q⟩ => ?_, fun q => ⟨z, hz, q⟩⟩
      have : z' = z := by omega
      rw [← this]
      exact q
    rw [if_pos (rem.mpr (by omega)), abs_iI (by omega) (by omega), nI_add]
    by_cases q1 : out - svm A u g < -36
    · rw [if_pos (show iI (out - svm A u g) < (-36 : Int32) from (iI_lt (b := -36) (by omega) (by omega) (by omega) (by omega)).mpr q1)]
      refine ⟨(few, riv, Fi, c, fv), rfl, skip (fun k hk _ t => ?_), fun v k _ h => h, fun k hk t => ?_⟩
      · have := (tz k).mp t
        omega
      · have := (tz k).mp t
        omega
    · rw [if_neg (show ¬ iI (out - svm A u g) < (-36 : Int32) from fun y => q1 ((iI_lt (b := -36) (by omega) (by omega) (by omega) (by omega)).mp y))]
      by_cases q2 : 36 < out - svm A u g
      · rw [if_pos (show (36 : Int32) < iI (out - svm A u g) from (iI_lt (a := 36) (by omega) (by omega) (by omega) (by omega)).mpr q2)]
        refine ⟨(few, riv, Fi, c, fv), rfl, skip (fun k hk _ t => ?_), fun v k _ h => h, fun k hk t => ?_⟩
        · have := (tz k).mp t
          omega
        · have := (tz k).mp t
          omega
      · rw [if_neg (show ¬ (36 : Int32) < iI (out - svm A u g) from fun y => q2 ((iI_lt (a := 36) (by omega) (by omega) (by omega) (by omega)).mp y))]
        by_cases q3 : 3 < nzm u g + z.natAbs
        · rw [if_pos (show (3 : Int32) < nI (nzm u g + z.natAbs) from nI_lt (a := 3) q3 (by omega))]
          refine ⟨(few, riv, Fi, c, fv), rfl, skip (fun k hk _ t => ?_), fun v k _ h => h, fun k hk t => ?_⟩
          · have := (tz k).mp t
            omega
          · have := (tz k).mp t
            omega
        · rw [if_neg (show ¬ (3 : Int32) < nI (nzm u g + z.natAbs) from nI_nlt (a := 3) (by omega) (by omega)), ite_lt (by omega) (by omega), ite_lt (by omega) (by omega)]
          by_cases q4 : few < nzm u g + z.natAbs
          · rw [if_pos q4]
            refine ⟨(few, riv, Fi, c, fv), rfl, skip (fun k hk hk2 t => ?_), fun v k _ h => h, fun k hk t => ?_⟩
            · have := (tz k).mp t
              omega
            · have := (tz k).mp t
              exact Or.inl (show few < k by omega)
          · rw [if_neg q4]
            generalize hal : nzm u g + z.natAbs = al at *
            have memU : Mem A g out al u := ⟨hu, z, hal, by omega⟩
            by_cases q5 : al < few
            · rw [if_pos q5]
              obtain ⟨Fi', hF', e⟩ := mx_copy (b := b) U (nI few) (nI riv) c (iI z) (nI al) 9 0 Fi (by omega) (fun k hk => by omega)
              refine ⟨(al, 1, Fi', iI z, u), ?_, ?_, ?_, ?_⟩
              · refine Eq.trans e ?_
                rw [r_X12_look_112, show (mst b U Fi' (nI few) (nI riv) (iI z)).1 64 73 = nI few from rfl, ite_lt (by omega) (by omega), if_pos q5, mst_fr]
                rfl
              · have K0 : ∀ k, k < few → k ≤ 3 → K k = 0 := by
                  intro k hk hk3
                  by_cases f4 : few = 4
                  · exact (hS.2.1 f4).2 k hk3
                  · exact (hS.2.2 (show few ≤ 3 by omega)).2.2.1 k hk
                refine ⟨show al ≤ 4 by omega, fun q => absurd q (show ¬ al = 4 by omega), fun q => ⟨?_, (by decide : (1 : Nat) ≠ 0), fun k hk => ?_, fun i hi => (hF' i hi).trans (hU i hi), memU, z, rfl, by show out = svm A u g + 12 * z; omega⟩⟩
                · show 1 = K al + t1 _
                  rw [K0 al q5 q, t1_pos ((tz al).mpr rfl)]
                · show K k + t1 _ = 0
                  have hk' : k < al := hk
                  rw [K0 k (by omega) (by omega), t1_neg (fun t => by have := (tz k).mp t; omega)]
              · intro v k hk h
                rcases h with h | ⟨h1, h2⟩
                · have h' : few < k := h
                  exact Or.inl (show al < k by omega)
                · have h' : few = k := h1
                  exact Or.inl (show al < k by omega)
              · intro k hk t
                have := (tz k).mp t
                exact Or.inr ⟨this, lxe_rf u g⟩
            · rw [if_neg q5]
              have ef : al = few := by omega
              obtain ⟨s1, s2, s3, s4, s5, s6⟩ := hS.2.2 (show few ≤ 3 by omega)
              have rest : ∀ fv' Fi' c', lxe fv' u g → lxe fv' fv g → (∀ i, i < 9 → Fi' i = nI (fv' i)) → Mem A g out al fv' → (∃ z : Int, c' = iI z ∧ out = svm A fv' g + 12 * z) → RS A g out (al, riv + 1, Fi', c', fv') (fun k => K k + t1 (tot out (svm A u g) (nzm u g) k)) ∧ mono g (few, riv, Fi, c, fv) (al, riv + 1, Fi', c', fv') ∧ ∀ k, k ≤ 3 → tot out (svm A u g) (nzm u g) k → Cov g (al, riv + 1, Fi', c', fv') u k := by
                intro fv' Fi' c' l1 l2 hFi hM hC
                refine ⟨⟨show al ≤ 4 by omega, fun q => absurd q (show ¬ al = 4 by omega), fun q => ⟨?_, (by omega : riv + 1 ≠ 0), fun k hk => ?_, hFi, hM, hC⟩⟩, ?_, ?_⟩
                · show riv + 1 = K al + t1 _
                  have s1' : riv = K few := s1
                  rw [t1_pos ((tz al).mpr rfl), s1', ef]
                · show K k + t1 _ = 0
                  have hk' : k < al := hk
                  rw [s3 k (show k < few by omega), t1_neg (fun t => by have := (tz k).mp t; omega)]
                · intro v k hk h
                  rcases h with h | ⟨h1, h2⟩
                  · have h' : few < k := h
                    exact Or.inl (show al < k by omega)
                  · have h' : few = k := h1
                    exact Or.inr ⟨show al = k by omega, lxe_tr l2 h2⟩
                · intro k hk t
                  have := (tz k).mp t
                  exact Or.inr ⟨this, l1⟩
              have tail : ∀ (Fi' : Nat → Int32) (c' : Int32) (fv' : Nat → Nat), pb_run T_X12_look (112, [some (.ref 64), none, none, none, none, some (.int (nI al)), none], [], mst b U Fi' (nI few) (nI riv) c') = some (none, mS b U (al, riv + 1, Fi', c', fv')) := by
                intro Fi' c' fv'
                rw [r_X12_look_112, show (mst b U Fi' (nI few) (nI riv) c').1 64 73 = nI few from rfl, show (mst b U Fi' (nI few) (nI riv) c').1 64 74 = nI riv from rfl, ite_lt (by omega) (by omega), if_neg q5, mst_fr, nI_1]
                rfl
              rcases mx_earlier (b := b) (A := A) hg h71 u fv U Fi (nI few) (nI riv) c (iI z) hU s4 hu s5.1 g 0 (by omega) (fun i hi => by omega) with ⟨r1, r2⟩ | ⟨r1, r2⟩
              · obtain ⟨Fi', hF', e⟩ := mx_copy (b := b) U (nI few) (nI riv) c (iI z) (nI al) 9 0 Fi (by omega) (fun k hk => by omega)
                refine ⟨(al, riv + 1, Fi', iI z, u), ?_, rest u Fi' (iI z) (lxe_rf u g) r2 (fun i hi => (hF' i hi).trans (hU i hi)) memU ⟨z, rfl, by omega⟩⟩
                rw [e_X12_isEarlier, show pb_run T_X12_isEarlier (2, [some (.ref 64), some (.int (iI z)), some (.int (0 : Int32))], [], mS b U (few, riv, Fi, c, fv)) = _ from r1, pb_bI_some, if_neg (show ¬ (1 : Int32) = 0 by decide)]
                exact Eq.trans e (tail Fi' (iI z) u)
              · refine ⟨(al, riv + 1, Fi, c, fv), ?_, rest fv Fi c r2 (lxe_rf fv g) s4 (by rw [ef]; exact s5) s6⟩
                rw [e_X12_isEarlier, show pb_run T_X12_isEarlier (2, [some (.ref 64), some (.int (iI z)), some (.int (0 : Int32))], [], mS b U (few, riv, Fi, c, fv)) = _ from r1, pb_bI_some, if_pos rfl]
                exact tail Fi c fv
  · rw [if_neg (fun q => hd ⟨(out - svm A u g).tdiv 12, by have := rem.mp q; omega⟩)]
    refine ⟨(few, riv, Fi, c, fv), rfl, skip (fun k hk _ t => ?_), fun v k _ h => h, fun k hk t => ?_⟩
    · obtain ⟨z, p, -⟩ := t
      exact hd ⟨z, p⟩
    · obtain ⟨z, p, -⟩ := t
      exact absurd ⟨z, p⟩ hd
