/-! ===== the bits of a long, counted ===== -/
def pM1 : Nat → Nat
  | 0 => 0
  | k + 1 => 85 + 256 * pM1 k
def pM2 : Nat → Nat
  | 0 => 0
  | k + 1 => 51 + 256 * pM2 k
def pM3 : Nat → Nat
  | 0 => 0
  | k + 1 => 15 + 256 * pM3 k
theorem pp_split {d m x y : Nat} (hd : d < 256) (hm : m < 256) : (d + 256 * x) &&& (m + 256 * y) = (d &&& m) + 256 * (x &&& y) := by
  have h1 : ((d + 256 * x) &&& (m + 256 * y)) % 2 ^ 8 = d &&& m := by
    rw [Nat.and_mod_two_pow]
    have e1 : (d + 256 * x) % 2 ^ 8 = d := by omega
    have e2 : (m + 256 * y) % 2 ^ 8 = m := by omega
    rw [e1, e2]
  have h2 : ((d + 256 * x) &&& (m + 256 * y)) / 2 ^ 8 = x &&& y := by
    rw [← Nat.shiftRight_eq_div_pow, Nat.shiftRight_and_distrib, Nat.shiftRight_eq_div_pow, Nat.shiftRight_eq_div_pow]
    have e1 : (d + 256 * x) / 2 ^ 8 = x := by omega
    have e2 : (m + 256 * y) / 2 ^ 8 = y := by omega
    rw [e1, e2]
  have := Nat.div_add_mod ((d + 256 * x) &&& (m + 256 * y)) (2 ^ 8)
  omega
def pA (k x : Nat) : Nat := x - ((x / 2) &&& pM1 k)
def pB (k x : Nat) : Nat := (x &&& pM2 k) + ((x / 4) &&& pM2 k)
def pC (k x : Nat) : Nat := (x + x / 16) &&& pM3 k
def pA1 (d : Nat) : Nat := d - ((d / 2) &&& 85)
def pB1 (d : Nat) : Nat := (d &&& 51) + ((d / 4) &&& 51)
def pQ (d : Nat) : Nat := (pB1 (pA1 d) + pB1 (pA1 d) / 16) % 16
def p8 (d : Nat) : Nat := d % 2 + d / 2 % 2 + d / 4 % 2 + d / 8 % 2 + d / 16 % 2 + d / 32 % 2 + d / 64 % 2 + d / 128 % 2
theorem pp_byte : ∀ d, d < 256 → pB1 (pA1 d) ≤ 68 ∧ pB1 (pA1 d) % 16 ≤ 4 ∧ pQ d = p8 d ∧ pA1 d < 256 := by decide +kernel
theorem pp_b2 : ∀ d, d < 256 → ∀ b, b < 2 → ((d / 2 + 128 * b) &&& 85) = ((d / 2) &&& 85) := by decide +kernel
theorem pp_b4 : ∀ d, d < 256 → ∀ b, b < 4 → ((d / 4 + 64 * b) &&& 51) = ((d / 4) &&& 51) := by decide +kernel
theorem pA_s (k : Nat) {d : Nat} (x : Nat) (hd : d < 256) : pA (k + 1) (d + 256 * x) = pA1 d + 256 * pA k x := by
  unfold pA pA1
  have e : (d + 256 * x) / 2 = (d / 2 + 128 * (x % 2)) + 256 * (x / 2) := by omega
  rw [e, pM1, pp_split (by omega) (by omega), pp_b2 d hd _ (by omega)]
  have l1 : ((d / 2) &&& 85) ≤ d / 2 := Nat.and_le_left
  have l2 : ((x / 2) &&& pM1 k) ≤ x / 2 := Nat.and_le_left
  omega
theorem pB_s (k : Nat) {d : Nat} (x : Nat) (hd : d < 256) : pB (k + 1) (d + 256 * x) = pB1 d + 256 * pB k x := by
  unfold pB pB1
  have e : (d + 256 * x) / 4 = (d / 4 + 64 * (x % 4)) + 256 * (x / 4) := by omega
  rw [e, pM2, pp_split hd (by omega), pp_split (by omega) (by omega), pp_b4 d hd _ (by omega)]
  omega
theorem pC_s (k : Nat) {d : Nat} (x : Nat) (hd : d ≤ 68) (hx : x % 16 ≤ 4) : pC (k + 1) (d + 256 * x) = (d + d / 16) % 16 + 256 * pC k x := by
  unfold pC
  have e : d + 256 * x + (d + 256 * x) / 16 = (d + d / 16 + 16 * (x % 16)) + 256 * (x + x / 16) := by omega
  rw [e, pM3, pp_split (by omega) (by omega)]
  have : (d + d / 16 + 16 * (x % 16)) &&& 15 = (d + d / 16 + 16 * (x % 16)) % 2 ^ 4 := Nat.and_two_pow_sub_one_eq_mod _ 4
  rw [this]
  omega
theorem pBA (x : Nat) : ∀ k, (pB k (pA k x)) % 16 ≤ 4 ∧ 3 * pB k (pA k x) < 256 ^ k := by
  intro k
  induction k generalizing x with
  | zero => 
    have : pB 0 (pA 0 x) = 0 := by unfold pB; rw [pM2]; simp
    rw [this]
    decide
  | succ k ih =>
    obtain ⟨h1, h2⟩ := ih (x / 256)
    obtain ⟨b1, b2, b3, b4⟩ := pp_byte (x % 256) (by omega)
    have e : x = x % 256 + 256 * (x / 256) := by omega
    rw [e, pA_s k _ (by omega), pB_s k _ b4, Nat.pow_succ]
    omega
def pT (k x : Nat) : Nat := pC k (pB k (pA k x))
theorem pT_s (k x : Nat) : pT (k + 1) x = p8 (x % 256) + 256 * pT k (x / 256) := by
  obtain ⟨h1, h2⟩ := pBA (x / 256) k
  obtain ⟨b1, b2, b3, b4⟩ := pp_byte (x % 256) (by omega)
  have e : x = x % 256 + 256 * (x / 256) := by omega
  unfold pT
  conv => lhs; rw [e]
  rw [pA_s k _ (by omega), pB_s k _ b4, pC_s k _ b1 h1, ← b3]
  rfl
/-- how many of the first i bits are set -/
def pcn (x : Nat) : Nat → Nat
  | 0 => 0
  | i + 1 => pcn x i + x / 2 ^ i % 2
theorem pcn_8 (x : Nat) : ∀ m, pcn x (8 + m) = p8 (x % 256) + pcn (x / 256) m
  | 0 => by
    simp only [pcn, p8]
    omega
  | m + 1 => by
    show pcn x ((8 + m) + 1) = _
    rw [pcn, pcn, pcn_8 x m, Nat.pow_add, ← Nat.div_div_eq_div_mul]
    show _ + x / 256 / 2 ^ m % 2 = _
    omega
theorem p8_le (d : Nat) : p8 d ≤ 8 := by unfold p8; omega
theorem pT_0 (x : Nat) : pT 0 x = 0 := by unfold pT pC; rw [pM3]; simp
theorem pT_fin (x : Nat) : (pT 8 x < 2 ^ 60 ∧ ((pT 8 x + pT 8 x / 2 ^ 8 + (pT 8 x + pT 8 x / 2 ^ 8) / 2 ^ 16) + (pT 8 x + pT 8 x / 2 ^ 8 + (pT 8 x + pT 8 x / 2 ^ 8) / 2 ^ 16) / 2 ^ 32) % 128 = pcn x 64) := by
  have e : pcn x 64 = p8 (x % 256) + (p8 (x / 256 % 256) + (p8 (x / 256 / 256 % 256) + (p8 (x / 256 / 256 / 256 % 256) + (p8 (x / 256 / 256 / 256 / 256 % 256) + (p8 (x / 256 / 256 / 256 / 256 / 256 % 256) + (p8 (x / 256 / 256 / 256 / 256 / 256 / 256 % 256) + (p8 (x / 256 / 256 / 256 / 256 / 256 / 256 / 256 % 256) + 0))))))) := by
    rw [show (64 : Nat) = 8 + (8 + (8 + (8 + (8 + (8 + (8 + (8 + 0))))))) from rfl, pcn_8, pcn_8, pcn_8, pcn_8, pcn_8, pcn_8, pcn_8, pcn_8]
    rfl
  have t : pT 8 x = p8 (x % 256) + 256 * (p8 (x / 256 % 256) + 256 * (p8 (x / 256 / 256 % 256) + 256 * (p8 (x / 256 / 256 / 256 % 256) + 256 * (p8 (x / 256 / 256 / 256 / 256 % 256) + 256 * (p8 (x / 256 / 256 / 256 / 256 / 256 % 256) + 256 * (p8 (x / 256 / 256 / 256 / 256 / 256 / 256 % 256) + 256 * (p8 (x / 256 / 256 / 256 / 256 / 256 / 256 / 256 % 256) + 256 * 0))))))) := by
    rw [pT_s, pT_s, pT_s, pT_s, pT_s, pT_s, pT_s, pT_s, pT_0]
  have l0 := p8_le (x % 256)
  have l1 := p8_le (x / 256 % 256)
  have l2 := p8_le (x / 256 / 256 % 256)
  have l3 := p8_le (x / 256 / 256 / 256 % 256)
  have l4 := p8_le (x / 256 / 256 / 256 / 256 % 256)
  have l5 := p8_le (x / 256 / 256 / 256 / 256 / 256 % 256)
  have l6 := p8_le (x / 256 / 256 / 256 / 256 / 256 / 256 % 256)
  have l7 := p8_le (x / 256 / 256 / 256 / 256 / 256 / 256 / 256 % 256)
  rw [e, t]
  generalize p8 (x % 256) = a0 at *
  generalize p8 (x / 256 % 256) = a1 at *
  generalize p8 (x / 256 / 256 % 256) = a2 at *
  generalize p8 (x / 256 / 256 / 256 % 256) = a3 at *
  generalize p8 (x / 256 / 256 / 256 / 256 % 256) = a4 at *
  generalize p8 (x / 256 / 256 / 256 / 256 / 256 % 256) = a5 at *
  generalize p8 (x / 256 / 256 / 256 / 256 / 256 / 256 % 256) = a6 at *
  generalize p8 (x / 256 / 256 / 256 / 256 / 256 / 256 / 256 % 256) = a7 at *
  clear e t
  have d1 : (a0 + 256 * (a1 + 256 * (a2 + 256 * (a3 + 256 * (a4 + 256 * (a5 + 256 * (a6 + 256 * (a7 + 256 * 0)))))))) / 2 ^ 8 = a1 + 256 * (a2 + 256 * (a3 + 256 * (a4 + 256 * (a5 + 256 * (a6 + 256 * a7))))) := by omega
  rw [d1]
  have d2 : (a0 + 256 * (a1 + 256 * (a2 + 256 * (a3 + 256 * (a4 + 256 * (a5 + 256 * (a6 + 256 * (a7 + 256 * 0))))))) + (a1 + 256 * (a2 + 256 * (a3 + 256 * (a4 + 256 * (a5 + 256 * (a6 + 256 * a7))))))) / 2 ^ 16 = a2 + a3 + 256 * (a3 + a4 + 256 * (a4 + a5 + 256 * (a5 + a6 + 256 * (a6 + a7 + 256 * a7)))) := by omega
  rw [d2]
  constructor
  · omega
  · have d3 : (a0 + 256 * (a1 + 256 * (a2 + 256 * (a3 + 256 * (a4 + 256 * (a5 + 256 * (a6 + 256 * (a7 + 256 * 0))))))) + (a1 + 256 * (a2 + 256 * (a3 + 256 * (a4 + 256 * (a5 + 256 * (a6 + 256 * a7)))))) + (a2 + a3 + 256 * (a3 + a4 + 256 * (a4 + a5 + 256 * (a5 + a6 + 256 * (a6 + a7 + 256 * a7)))))) / 2 ^ 32 = a4 + a5 + (a6 + a7) + 256 * (a5 + a6 + a7 + 256 * (a6 + a7 + 256 * a7)) := by omega
    rw [d3]
    have e9 : a0 + 256 * (a1 + 256 * (a2 + 256 * (a3 + 256 * (a4 + 256 * (a5 + 256 * (a6 + 256 * (a7 + 256 * 0))))))) + (a1 + 256 * (a2 + 256 * (a3 + 256 * (a4 + 256 * (a5 + 256 * (a6 + 256 * a7)))))) + (a2 + a3 + 256 * (a3 + a4 + 256 * (a4 + a5 + 256 * (a5 + a6 + 256 * (a6 + a7 + 256 * a7))))) + (a4 + a5 + (a6 + a7) + 256 * (a5 + a6 + a7 + 256 * (a6 + a7 + 256 * a7))) = (a0 + (a1 + (a2 + (a3 + (a4 + (a5 + (a6 + (a7 + 0)))))))) + 128 * (2 * ((a1 + 256 * (a2 + 256 * (a3 + 256 * (a4 + 256 * (a5 + 256 * (a6 + 256 * a7)))))) + (a2 + 256 * (a3 + 256 * (a4 + 256 * (a5 + 256 * (a6 + 256 * a7))))) + (a3 + a4 + 256 * (a4 + a5 + 256 * (a5 + a6 + 256 * (a6 + a7 + 256 * a7)))) + (a5 + a6 + a7 + 256 * (a6 + a7 + 256 * a7)))) := by omega
    rw [e9, Nat.add_mul_mod_self_left, Nat.mod_eq_of_lt (by omega)]
theorem wb_add (a b : Nat) : lN a + lN b = lN (a + b) := by
  apply wb_inj
  rw [Int64.toBitVec_add, wb_tb, wb_tb, wb_tb, ← BitVec.ofNat_add]
theorem wb_sub {a b : Nat} (h : b ≤ a) : lN a - lN b = lN (a - b) := by
  have : lN a = lN (a - b) + lN b := by rw [wb_add, Nat.sub_add_cancel h]
  rw [this, Int64.add_sub_cancel]
theorem nI_and127 {n : Nat} (hn : n < 2 ^ 32) : nI n &&& 127 = nI (n % 128) := by
  apply Int32.toBitVec_inj.mp
  rw [Int32.toBitVec_and]
  show BitVec.ofNat 32 n &&& BitVec.ofNat 32 127 = BitVec.ofNat 32 (n % 128)
  apply BitVec.eq_of_toNat_eq
  rw [BitVec.toNat_and, BitVec.toNat_ofNat, BitVec.toNat_ofNat, BitVec.toNat_ofNat, Nat.mod_eq_of_lt hn, show 127 % 2 ^ 32 = 2 ^ 7 - 1 by decide, Nat.and_two_pow_sub_one_eq_mod, Nat.mod_eq_of_lt (show n % 128 < 2 ^ 32 by omega)]
theorem lN_toI32 (n : Nat) : (lN n).toInt32 = nI (n % 2 ^ 32) := by
  apply Int32.toBitVec_inj.mp
  apply BitVec.eq_of_toNat_eq
  show ((lN n).toBitVec.signExtend 32).toNat = (BitVec.ofNat 32 (n % 2 ^ 32)).toNat
  rw [wb_tb, BitVec.signExtend_eq_setWidth_of_le _ (by decide), BitVec.toNat_setWidth, BitVec.toNat_ofNat, BitVec.toNat_ofNat]
  omega
theorem M_bitCount {X : Nat} (hX : X < 2 ^ 64) (w : pb_W) : M_J13_bitCount_95d88 [.long (lN X)] w = some (some (.int (nI (pcn X 64))), w) := by
  obtain ⟨f1, f2⟩ := pT_fin X
  have m1 : (6148914691236517205 : Int64) = lN (pM1 8) := by decide +kernel
  have m2 : (3689348814741910323 : Int64) = lN (pM2 8) := by decide +kernel
  have m3 : (1085102592571150095 : Int64) = lN (pM3 8) := by decide +kernel
  have b1 : pM1 8 < 2 ^ 64 := by decide +kernel
  have b2 : pM2 8 < 2 ^ 64 := by decide +kernel
  have b3 : pM3 8 < 2 ^ 64 := by decide +kernel
  have S : ∀ (n k : Nat), n < 2 ^ 64 → k < 64 → ((lN n).toUInt64 >>> ((nI k).toInt64.toUInt64 &&& Int64.toUInt64 63)).toInt64 = lN (n / 2 ^ k) := fun n k h1 h2 => wb_shr h1 h2
  have A0 : pA 8 X ≤ X := Nat.sub_le _ _
  have B0 := (pBA X 8).2
  have eA : lN X - (((lN X).toUInt64 >>> (((1 : Int32)).toInt64.toUInt64 &&& Int64.toUInt64 63)).toInt64 &&& (6148914691236517205 : Int64)) = lN (pA 8 X) := by
    rw [show (((lN X).toUInt64 >>> (((1 : Int32)).toInt64.toUInt64 &&& Int64.toUInt64 63)).toInt64) = lN (X / 2 ^ 1) from S X 1 hX (by decide), m1, wb_and (by omega) b1, wb_sub (Nat.le_trans Nat.and_le_left (Nat.div_le_self _ _))]
    rfl
  have eB : (lN (pA 8 X) &&& (3689348814741910323 : Int64)) + (((lN (pA 8 X)).toUInt64 >>> (((2 : Int32)).toInt64.toUInt64 &&& Int64.toUInt64 63)).toInt64 &&& (3689348814741910323 : Int64)) = lN (pB 8 (pA 8 X)) := by
    rw [show (((lN (pA 8 X)).toUInt64 >>> (((2 : Int32)).toInt64.toUInt64 &&& Int64.toUInt64 63)).toInt64) = lN (pA 8 X / 2 ^ 2) from S _ 2 (by omega) (by decide), m2, wb_and (by omega) b2, wb_and (by omega) b2, wb_add]
    rfl
  have B1 : 3 * pB 8 (pA 8 X) < 2 ^ 64 := B0
  have eC : (lN (pB 8 (pA 8 X)) + (((lN (pB 8 (pA 8 X))).toUInt64 >>> (((4 : Int32)).toInt64.toUInt64 &&& Int64.toUInt64 63)).toInt64)) &&& (1085102592571150095 : Int64) = lN (pT 8 X) := by
    rw [show (((lN (pB 8 (pA 8 X))).toUInt64 >>> (((4 : Int32)).toInt64.toUInt64 &&& Int64.toUInt64 63)).toInt64) = lN (pB 8 (pA 8 X) / 2 ^ 4) from S _ 4 (by omega) (by decide), m3, wb_add, wb_and (by omega) b3]
    rfl
  have e8 : lN (pT 8 X) + (((lN (pT 8 X)).toUInt64 >>> (((8 : Int32)).toInt64.toUInt64 &&& Int64.toUInt64 63)).toInt64) = lN (pT 8 X + pT 8 X / 2 ^ 8) := by
    rw [show (((lN (pT 8 X)).toUInt64 >>> (((8 : Int32)).toInt64.toUInt64 &&& Int64.toUInt64 63)).toInt64) = lN (pT 8 X / 2 ^ 8) from S _ 8 (by omega) (by decide), wb_add]
  have e16 : ∀ y, y < 2 ^ 62 → lN y + (((lN y).toUInt64 >>> (((16 : Int32)).toInt64.toUInt64 &&& Int64.toUInt64 63)).toInt64) = lN (y + y / 2 ^ 16) := fun y hy => by
    rw [show (((lN y).toUInt64 >>> (((16 : Int32)).toInt64.toUInt64 &&& Int64.toUInt64 63)).toInt64) = lN (y / 2 ^ 16) from S _ 16 (by omega) (by decide), wb_add]
  have e32 : ∀ y, y < 2 ^ 63 → lN y + (((lN y).toUInt64 >>> (((32 : Int32)).toInt64.toUInt64 &&& Int64.toUInt64 63)).toInt64) = lN (y + y / 2 ^ 32) := fun y hy => by
    rw [show (((lN y).toUInt64 >>> (((32 : Int32)).toInt64.toUInt64 &&& Int64.toUInt64 63)).toInt64) = lN (y / 2 ^ 32) from S _ 32 (by omega) (by decide), wb_add]
  rw [e_J13_bitCount_95d88, eA, eB, eC, e8, e16 _ (by omega), e32 _ (by omega), lN_toI32, nI_and127 (by omega), Nat.mod_mod_of_dvd _ (show 128 ∣ 2 ^ 32 by decide), f2]
