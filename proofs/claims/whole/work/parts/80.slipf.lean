/-! ===== SLIPS: the reference's loops ===== -/
theorem nzm_flat {v : Nat → Nat} {i : Nat} : ∀ j, nzm v (i + j) ≤ nzm v i → ∀ k, i ≤ k → k < i + j → v k = 0
  | 0, _, k, h1, h2 => by omega
  | j + 1, h, k, h1, h2 => by
    have m := nzm_mono v i j
    have e : nzm v (i + (j + 1)) = nzm v (i + j) + (if v (i + j) = 0 then 0 else 1) := by show nzm v ((i + j) + 1) = _; rw [nzm]
    rw [e] at h
    by_cases z : v (i + j) = 0
    · rw [if_pos z] at h
      by_cases q : k = i + j
      · rw [q]; exact z
      · exact nzm_flat j (by omega) k h1 (by omega)
    · rw [if_neg z] at h
      omega
theorem upv_full (A : Nat → Nat → Int) (u : Nat → Nat) {c x : Nat} (hc : u c = 0) (hx : x ≠ 0) : ∀ n, c < n → svm A (upv u c x) n = svm A u n + A c x ∧ nzm (upv u c x) n = nzm u n + 1
  | 0, h => by omega
  | n + 1, h => by
    by_cases q : c = n
    · subst q
      obtain ⟨p1, p2⟩ := upv_sv A u c x
      rw [if_neg hx] at p1 p2
      rw [p1, p2, svm, nzm, if_pos hc, if_pos hc, Int.add_zero, Nat.add_zero]
      exact ⟨rfl, rfl⟩
    · obtain ⟨p1, p2⟩ := upv_full A u hc hx n (by omega)
      rw [svm, nzm, svm, nzm, p1, p2, show upv u c x n = u n from if_neg (by omega)]
      constructor <;> omega
theorem upv_okg {A : Nat → Nat → Int} {u : Nat → Nat} {g c x : Nat} (h : okv A u g) (hx : x ≤ 6 ∧ A c x ≠ 0) : okv A (upv u c x) g := by
  intro i hi
  by_cases q : i = c
  · rw [q, upv_at]; exact Or.inr hx
  · rw [show upv u c x i = u i from if_neg q]
    exact h i hi
theorem mono_tr {g : Nat} {s1 s2 s3 : Sst} (h : mono g s1 s2) (h2 : mono g s2 s3) : mono g s1 s3 := fun v k hk q => h2 v k hk (h v k hk q)
theorem Cov_ex {g : Nat} {s : Sst} {v u : Nat → Nat} {k : Nat} (h : Cov g s u k) (e : exv v u g) : Cov g s v k := by
  rcases h with h | ⟨h1, h2⟩
  · exact Or.inl h
  · exact Or.inr ⟨h1, lxe_tr h2 (Or.inl fun i hi => (e i hi).symm)⟩
theorem tot_of {A : Nat → Nat → Int} {g : Nat} {out : Int} {k : Nat} {v u : Nat → Nat} (h : Mem A g out k v) (e : exv v u g) : tot out (svm A u g) (nzm u g) k := by
  obtain ⟨p, q⟩ := svm_ex (A := A) g e
  obtain ⟨-, c, c1, c2⟩ := h
  exact ⟨c, by rw [← p]; omega, by rw [← q]; exact c1⟩
theorem mx_node {b : pb_W} {A : Nat → Nat → Int} {g : Nat} {out : Int} (hg : g ≤ 9) (d j st : Nat) (sum : Int) (u : Nat → Nat) (runO : Nat → pb_W → Option pb_R) (runI : Nat → Nat → pb_W → Option pb_R) (fin : pb_W → Option pb_R) (hu0 : ∀ i, st ≤ i → i < 9 → u i = 0)
    (hO : ∀ c U s, st ≤ c → c < g → runO c (mS b U s) = runI c 1 (mS b U s))
    (hF : ∀ U s, runO g (mS b U s) = fin (mS b U s))
    (hE : ∀ c U s, st ≤ c → c < g → runI c 7 (mS b U s) = runO (c + 1) (mS b (upd U c (nI 0)) s))
    (hS : ∀ c x U s, st ≤ c → c < g → 1 ≤ x → x ≤ 6 → A c x = 0 → runI c x (mS b U s) = runI c (x + 1) (mS b U s))
    (hB : ∀ c x U s K, st ≤ c → c < g → 1 ≤ x → x ≤ 6 → A c x ≠ 0 → (∀ i, i < 9 → i ≠ c → U i = nI (u i)) → RS A g out s K → ∃ U' s', runI c x (mS b U s) = runI c (x + 1) (mS b U' s') ∧ (∀ i, i < 9 → i ≠ c → U' i = nI (u i)) ∧ RS A g out s' (fun k => K k + (t1 (tot out (sum + A c x) (j + 1) k) + kN A out k d (g - (c + 1)) (c + 1) (j + 1) (sum + A c x))) ∧ mono g s s' ∧ ∀ v k, k ≤ 3 → exv v (upv u c x) (c + 1) → Mem A g out k v → nzm v g ≤ j + 1 + d → Cov g s' v k) :
    ∀ m c U s K, c + m = g → st ≤ c → (∀ i, i < 9 → U i = nI (u i)) → RS A g out s K → ∃ U' s', runO c (mS b U s) = fin (mS b U' s') ∧ (∀ i, i < 9 → U' i = nI (u i)) ∧ RS A g out s' (fun k => K k + kN A out k (d + 1) m c j sum) ∧ mono g s s' ∧ ∀ v k, k ≤ 3 → exv v u c → Mem A g out k v → ¬ exv v u g → nzm v g ≤ j + 1 + d → Cov g s' v k := by
  intro m
  induction m with
  | zero =>
    intro c U s K hc hst hU hR
    have e : c = g := by omega
    subst e
    refine ⟨U, s, hF U s, hU, RS_K hR (fun k _ => by show K k + kN A out k (d + 1) 0 c j sum = K k; rw [kN]; rfl), fun v k _ h => h, fun v k _ h1 _ h2 => absurd h1 h2⟩
  | succ m ih =>
    intro c U s K hc hst hU hR
    have hm : g - (c + 1) = m := by omega
    have inner : ∀ q x U1 s1 K1, x + q = 7 → 1 ≤ x → (∀ i, i < 9 → i ≠ c → U1 i = nI (u i)) → RS A g out s1 K1 → ∃ U' s', runI c x (mS b U1 s1) = fin (mS b U' s') ∧ (∀ i, i < 9 → U' i = nI (u i)) ∧ RS A g out s' (fun k => K1 k + (sm6 (fun y => if A c y = 0 then 0 else t1 (tot out (sum + A c y) (j + 1) k) + kN A out k d m (c + 1) (j + 1) (sum + A c y)) q x + kN A out k (d + 1) m (c + 1) j sum)) ∧ mono g s1 s' ∧ ∀ v k, k ≤ 3 → exv v u c → v c = 0 ∨ x ≤ v c → Mem A g out k v → ¬ exv v u g → nzm v g ≤ j + 1 + d → Cov g s' v k := by
      intro q
      induction q with
      | zero =>
        intro x U1 s1 K1 hx _ p1 p2
        have e : x = 7 := by omega
        subst e
        obtain ⟨U', s', y1, y2, y3, y4, y5⟩ := ih (c + 1) (upd U1 c (nI 0)) s1 K1 (by omega) (by omega) (fun i hi => by
          rw [pu_at]
          by_cases z : i = c
          · rw [if_pos z, z, hu0 c hst (by omega)]
          · rw [if_neg z]; exact p1 i hi z) p2
        refine ⟨U', s', (hE c U1 s1 hst (by omega)).trans y1, y2, RS_K y3 (fun k _ => ?_), y4, fun v k hk e1 e2 e3 e4 e5 => ?_⟩
        · show K1 k + (sm6 _ 0 7 + kN A out k (d + 1) m (c + 1) j sum) = K1 k + kN A out k (d + 1) m (c + 1) j sum
          rw [sm6, Nat.zero_add]
        · refine y5 v k hk (fun i hi => ?_) e3 e4 e5
          by_cases z : i = c
          · have b6 : v c ≤ 6 := (e3.1 c (by omega)).elim (fun q => by omega) (fun q => q.1)
            rw [z, hu0 c hst (by omega)]
            omega
          · exact e1 i (by omega)
      | succ q ihq =>
        intro x U1 s1 K1 hx hx1 p1 p2
        by_cases w0 : A c x = 0
        · obtain ⟨U', s', y1, y2, y3, y4, y5⟩ := ihq (x + 1) U1 s1 K1 (by omega) (by omega) p1 p2
          refine ⟨U', s', (hS c x U1 s1 hst (by omega) hx1 (by omega) w0).trans y1, y2, RS_K y3 (fun k _ => ?_), y4, fun v k hk e1 e2 e3 e4 e5 => y5 v k hk e1 ?_ e3 e4 e5⟩
          · show K1 k + (sm6 _ (q + 1) x + _) = K1 k + (sm6 _ q (x + 1) + _)
            rw [sm6]
            simp only [if_pos w0]
            omega
          · rcases e2 with e2 | e2
            · exact Or.inl e2
            · rcases Nat.lt_or_ge x (v c) with z | z
              · exact Or.inr z
              · have : v c = x := by omega
                have o := (e3.1 c (by omega)).resolve_left (by omega)
                rw [this] at o
                exact absurd w0 o.2
        · obtain ⟨U2, s2, z1, z2, z3, z4, z5⟩ := hB c x U1 s1 K1 hst (by omega) hx1 (by omega) w0 p1 p2
          obtain ⟨U', s', y1, y2, y3, y4, y5⟩ := ihq (x + 1) U2 s2 _ (by omega) (by omega) z2 z3
          refine ⟨U', s', z1.trans y1, y2, RS_K y3 (fun k _ => ?_), mono_tr z4 y4, fun v k hk e1 e2 e3 e4 e5 => ?_⟩
          · show K1 k + (sm6 _ (q + 1) x + _) = K1 k + (t1 (tot out (sum + A c x) (j + 1) k) + kN A out k d (g - (c + 1)) (c + 1) (j + 1) (sum + A c x)) + (sm6 _ q (x + 1) + _)
            rw [sm6, hm]
            simp only [if_neg w0]
            omega
          · by_cases z : v c = x
            · refine y4 v k hk (z5 v k hk ?_ e3 e5)
              have := exv_up2 e1
              rw [z] at this
              exact this
            · exact y5 v k hk e1 (by omega) e3 e4 e5
    obtain ⟨U', s', y1, y2, y3, y4, y5⟩ := inner 6 1 U s K (by omega) (by omega) (fun i hi _ => hU i hi) hR
    refine ⟨U', s', (hO c U s hst (by omega)).trans y1, y2, RS_K y3 (fun k _ => ?_), y4, fun v k hk e1 e3 e4 e5 => y5 v k hk e1 (by omega) e3 e4 e5⟩
    show K k + kN A out k (d + 1) (m + 1) c j sum = _
    rw [kN]
/-- one slip more, looked at, and what lies behind it -/
theorem mx_body {b : pb_W} {A : Nat → Nat → Int} {g : Nat} {out : Int} (hg : g ≤ 9) (h71 : b.1 64 71 = nI g) (h72 : b.1 64 72 = iI out) (hB : ∀ i x, -90000 ≤ A i x ∧ A i x ≤ 90000) (d j : Nat) (sum : Int) (u : Nat → Nat) (hu : okv A u g) (hj : nzm u g = j) (hj2 : j ≤ 2) (hs : svm A u g = sum) (b1 : -5000000 ≤ out) (b2 : out ≤ 5000000) (bs1 : -90000 * (j : Int) ≤ sum) (bs2 : sum ≤ 90000 * (j : Int)) (c x : Nat) (U : Nat → Int32) (s : Sst) (K : Nat → Nat) (hc : c < g) (hx1 : 1 ≤ x) (hx6 : x ≤ 6) (hA : A c x ≠ 0) (hu0 : ∀ i, c ≤ i → i < 9 → u i = 0) (hU : ∀ i, i < 9 → i ≠ c → U i = nI (u i)) (hR : RS A g out s K) (nest : pb_W → Option pb_R) (fin : pb_W → Option pb_R)
    (hN : ∀ s1 K1, RS A g out s1 K1 → ∃ U' s', nest (mS b (upd U c (nI x)) s1) = fin (mS b U' s') ∧ (∀ i, i < 9 → U' i = nI (upv u c x i)) ∧ RS A g out s' (fun k => K1 k + kN A out k d (g - (c + 1)) (c + 1) (j + 1) (sum + A c x)) ∧ mono g s1 s' ∧ ∀ v k, k ≤ 3 → exv v (upv u c x) (c + 1) → Mem A g out k v → ¬ exv v (upv u c x) g → nzm v g ≤ j + 1 + d → Cov g s' v k) :
    ∃ U' s', (pb_bV (M_X12_look [.ref 64, .int (iI (sum + A c x)), .int (nI (j + 1))] (mS b (upd U c (nI x)) s)) nest) = fin (mS b U' s') ∧ (∀ i, i < 9 → i ≠ c → U' i = nI (u i)) ∧ RS A g out s' (fun k => K k + (t1 (tot out (sum + A c x) (j + 1) k) + kN A out k d (g - (c + 1)) (c + 1) (j + 1) (sum + A c x))) ∧ mono g s s' ∧ ∀ v k, k ≤ 3 → exv v (upv u c x) (c + 1) → Mem A g out k v → nzm v g ≤ j + 1 + d → Cov g s' v k := by
  obtain ⟨f1, f2⟩ := upv_full A u (hu0 c (Nat.le_refl _) (by omega)) (show x ≠ 0 by omega) g hc
  rw [hs] at f1
  rw [hj] at f2
  have bA := hB c x
  have hU' : ∀ i, i < 9 → upd U c (nI x) i = nI (upv u c x i) := by
    intro i hi
    rw [pu_at]
    by_cases z : i = c
    · rw [if_pos z, z, upv_at]
    · rw [if_neg z, hU i hi z, show upv u c x i = u i from if_neg z]
  obtain ⟨s1, l1, l2, l3, l4⟩ := mx_look hg h71 h72 (upv u c x) (upd U c (nI x)) s K hU' (upv_okg hu ⟨hx6, hA⟩) (by omega) (by rw [f1]; omega) (by rw [f1]; omega) hR
  rw [f1, f2] at l1 l2 l4
  obtain ⟨U', s', n1, n2, n3, n4, n5⟩ := hN s1 _ l2
  refine ⟨U', s', ?_, ?_, RS_K n3 (fun k _ => by omega), mono_tr l3 n4, ?_⟩
  · rw [l1, pb_bV_some]
    exact n1
  · intro i hi z
    rw [n2 i hi, show upv u c x i = u i from if_neg z]
  · intro v k hk e1 e2 e3
    by_cases e : exv v (upv u c x) g
    · refine n4 v k hk (Cov_ex (l4 k hk ?_) e)
      have := tot_of e2 e
      rw [f1, f2] at this
      exact this
    · exact n5 v k hk e1 e2 e e3
