/-! ===== PURE HALF. how many bits a long has ===== -/
def p4 (a : Nat) : Nat := a % 2 + a / 2 % 2 + a / 4 % 2 + a / 8 % 2
def e8 (y : Nat) : Nat := p4 (y % 16) + p4 (y / 16 % 16)
theorem p4_le (a : Nat) : p4 a ≤ 4 := by unfold p4; omega
theorem e8_le (a : Nat) : e8 a ≤ 8 := by unfold e8; have := p4_le (a % 16); have := p4_le (a / 16 % 16); omega
def rp (B : Nat) : Nat → Nat
  | 0 => 0
  | k + 1 => B * rp B k + 1
def P4 : Nat → Nat → Nat
  | 0, _ => 0
  | k + 1, x => 16 * P4 k (x / 16) + p4 (x % 16)
def T8 : Nat → Nat → Nat
  | 0, _ => 0
  | k + 1, x => 256 * T8 k (x / 256) + e8 x
theorem and_dig (j : Nat) {u v m c : Nat} (hv : v < 2 ^ j) (hc : c < 2 ^ j) : (2 ^ j * u + v) &&& (2 ^ j * m + c) = 2 ^ j * (u &&& m) + (v &&& c) := by
  apply Nat.eq_of_testBit_eq
  intro i
  have hvc : v &&& c < 2 ^ j := Nat.and_lt_two_pow _ hc
  rw [Nat.testBit_and, Nat.testBit_two_pow_mul_add _ hv, Nat.testBit_two_pow_mul_add _ hc, Nat.testBit_two_pow_mul_add _ hvc]
  split
  · rw [Nat.testBit_and]
  · rw [Nat.testBit_and]
theorem and16 {u v m c : Nat} (hv : v < 16) (hc : c < 16) : (16 * u + v) &&& (16 * m + c) = 16 * (u &&& m) + (v &&& c) := and_dig 4 hv hc
theorem and256 {u v m c : Nat} (hv : v < 256) (hc : c < 256) : (256 * u + v) &&& (256 * m + c) = 256 * (u &&& m) + (v &&& c) := and_dig 8 hv hc
theorem b5 : ∀ a, a < 16 → ∀ r, r < 2 → (8 * r + a / 2) &&& 5 = (a / 2) &&& 5 ∧ ((a / 2) &&& 5) ≤ a := by decide +kernel
theorem b3 : ∀ a, a < 16 → ∀ r, r < 4 → (4 * r + a / 4) &&& 3 = (a / 4) &&& 3 := by decide +kernel
theorem b4 : ∀ a, a < 16 → ((a - ((a / 2) &&& 5)) &&& 3) + (((a - ((a / 2) &&& 5)) / 4) &&& 3) = p4 a := by decide +kernel
theorem b15 : ∀ h, h < 9 → ∀ s, s < 16 → (16 * s + h) &&& 15 = h := by decide +kernel
/-- the first two stages, digit by digit -/
theorem st12 : ∀ k x : Nat, x < 16 ^ k → ((x / 2) &&& (5 * rp 16 k)) ≤ x ∧ ((x - ((x / 2) &&& (5 * rp 16 k))) &&& (3 * rp 16 k)) + (((x - ((x / 2) &&& (5 * rp 16 k))) / 4) &&& (3 * rp 16 k)) = P4 k x
  | 0, x, h => by simp [rp, P4]
  | k + 1, x, h => by
    have hq : x / 16 < 16 ^ k := by
      rw [Nat.pow_succ] at h
      omega
    obtain ⟨i1, i2⟩ := st12 k (x / 16) hq
    have ha : x % 16 < 16 := Nat.mod_lt _ (by omega)
    generalize hq' : x / 16 = q at *
    generalize ha' : x % 16 = a at *
    have hx : x = 16 * q + a := by omega
    have e1 : x / 2 = 16 * (q / 2) + (8 * (q % 2) + a / 2) := by omega
    have m5 : 5 * rp 16 (k + 1) = 16 * (5 * rp 16 k) + 5 := by rw [rp]; omega
    have m3 : 3 * rp 16 (k + 1) = 16 * (3 * rp 16 k) + 3 := by rw [rp]; omega
    obtain ⟨f1, f2⟩ := b5 a ha (q % 2) (by omega)
    have e2 : (x / 2) &&& (5 * rp 16 (k + 1)) = 16 * ((q / 2) &&& (5 * rp 16 k)) + ((a / 2) &&& 5) := by
      rw [e1, m5, and16 (by omega) (by omega), f1]
    rw [e2]
    refine ⟨by omega, ?_⟩
    have e3 : x - (16 * ((q / 2) &&& (5 * rp 16 k)) + ((a / 2) &&& 5)) = 16 * (q - ((q / 2) &&& (5 * rp 16 k))) + (a - ((a / 2) &&& 5)) := by omega
    rw [e3, m3]
    generalize hq1 : q - ((q / 2) &&& (5 * rp 16 k)) = q1 at *
    have h4 := b4 a ha
    have ha1 : a - ((a / 2) &&& 5) < 16 := by omega
    generalize a - ((a / 2) &&& 5) = a1 at *
    have e4 : (16 * q1 + a1) / 4 = 16 * (q1 / 4) + (4 * (q1 % 4) + a1 / 4) := by omega
    rw [e4, and16 ha1 (by omega), and16 (by omega) (by omega), b3 a1 ha1 (q1 % 4) (by omega), P4, hq', ha', ← i2, ← h4]
    omega
theorem P4_mod (k x : Nat) : P4 k x % 16 ≤ 4 := by
  cases k with
  | zero => simp [P4]
  | succ k => rw [P4]; have := p4_le (x % 16); omega
theorem st3 : ∀ k x : Nat, ((P4 (2 * k) x + P4 (2 * k) x / 16) &&& (15 * rp 256 k)) = T8 k x
  | 0, x => by simp [rp, P4, T8]
  | k + 1, x => by
    have ih := st3 k (x / 256)
    have e1 : P4 (2 * (k + 1)) x = 16 * (16 * P4 (2 * k) (x / 256) + p4 (x / 16 % 16)) + p4 (x % 16) := by
      rw [show 2 * (k + 1) = (2 * k + 1) + 1 from rfl, P4, P4, Nat.div_div_eq_div_mul]
    have hl := p4_le (x % 16)
    have hh := p4_le (x / 16 % 16)
    have hu := P4_mod (2 * k) (x / 256)
    have m : 15 * rp 256 (k + 1) = 256 * (15 * rp 256 k) + 15 := by rw [rp]; omega
    rw [e1, m, T8, ← ih, e8]
    generalize P4 (2 * k) (x / 256) = u at *
    generalize p4 (x % 16) = l at *
    generalize p4 (x / 16 % 16) = h at *
    have e2 : 16 * (16 * u + h) + l + (16 * (16 * u + h) + l) / 16 = 256 * (u + u / 16) + (16 * (h + u % 16) + (l + h)) := by omega
    rw [e2, and256 (by omega) (by omega), b15 (l + h) (by omega) (h + u % 16) (by omega)]
/-- the bits, one by one -/
def bcs (x : Nat) : Nat → Nat
  | 0 => 0
  | i + 1 => bcs x i + x / 2 ^ i % 2
theorem bcs8 (x i : Nat) : bcs x (i + 8) = bcs x i + e8 (x / 2 ^ i) := by
  have s : ∀ j, x / 2 ^ (i + j) = x / 2 ^ i / 2 ^ j := fun j => by rw [Nat.pow_add, Nat.div_div_eq_div_mul]
  show bcs x i + x / 2 ^ i % 2 + x / 2 ^ (i + 1) % 2 + x / 2 ^ (i + 2) % 2 + x / 2 ^ (i + 3) % 2 + x / 2 ^ (i + 4) % 2 + x / 2 ^ (i + 5) % 2 + x / 2 ^ (i + 6) % 2 + x / 2 ^ (i + 7) % 2 = _
  rw [s 1, s 2, s 3, s 4, s 5, s 6, s 7, e8, p4, p4]
  generalize x / 2 ^ i = y
  omega
theorem bcs64 (x : Nat) : bcs x 64 = e8 x + e8 (x / 256) + e8 (x / 256 / 256) + e8 (x / 256 / 256 / 256) + e8 (x / 256 / 256 / 256 / 256) + e8 (x / 256 / 256 / 256 / 256 / 256) + e8 (x / 256 / 256 / 256 / 256 / 256 / 256) + e8 (x / 256 / 256 / 256 / 256 / 256 / 256 / 256) := by
  have a : bcs x 8 = 0 + e8 (x / 2 ^ 0) := bcs8 x 0
  have b : bcs x 16 = bcs x 8 + e8 (x / 2 ^ 8) := bcs8 x 8
  have c : bcs x 24 = bcs x 16 + e8 (x / 2 ^ 16) := bcs8 x 16
  have d : bcs x 32 = bcs x 24 + e8 (x / 2 ^ 24) := bcs8 x 24
  have e : bcs x 40 = bcs x 32 + e8 (x / 2 ^ 32) := bcs8 x 32
  have f : bcs x 48 = bcs x 40 + e8 (x / 2 ^ 40) := bcs8 x 40
  have g : bcs x 56 = bcs x 48 + e8 (x / 2 ^ 48) := bcs8 x 48
  have h : bcs x 64 = bcs x 56 + e8 (x / 2 ^ 56) := bcs8 x 56
  rw [h, g, f, e, d, c, b, a]
  simp only [Nat.div_div_eq_div_mul, Nat.pow_zero, Nat.div_one, Nat.zero_add, Nat.reducePow, Nat.reduceMul]
theorem dv1 {A c : Nat} (h : c < 256) : (256 * A + c) / 256 = A := by omega
theorem dv2 {A c d : Nat} (h : c < 256) (h2 : d < 256) : (256 * (256 * A + c) + d) / 65536 = A := by omega
theorem dv4 {A c d e f : Nat} (h : c < 256) (h2 : d < 256) (h3 : e < 256) (h4 : f < 256) : (256 * (256 * (256 * (256 * A + c) + d) + e) + f) / 4294967296 = A := by omega
theorem md7 {A c : Nat} (h : c < 128) : (256 * A + c) % 128 = c := by omega
/-! from longs to numbers -/
def nL (y : Int64) : Nat := y.toBitVec.toNat
theorem nL_lt (y : Int64) : nL y < 2 ^ 64 := y.toBitVec.isLt
theorem nL_add (a b : Int64) : nL (a + b) = (nL a + nL b) % 2 ^ 64 := BitVec.toNat_add _ _
theorem nL_sub (a b : Int64) : nL (a - b) = (2 ^ 64 - nL b + nL a) % 2 ^ 64 := BitVec.toNat_sub _ _
theorem nL_and (a b : Int64) : nL (a &&& b) = nL a &&& nL b := BitVec.toNat_and _ _
theorem nL_or (a b : Int64) : nL (a ||| b) = nL a ||| nL b := BitVec.toNat_or _ _
theorem nL_xor (a b : Int64) : nL (a ^^^ b) = nL a ^^^ nL b := BitVec.toNat_xor _ _
theorem nL_inj {a b : Int64} (h : nL a = nL b) : a = b := Int64.toBitVec_inj.mp (BitVec.eq_of_toNat_eq h)
theorem nL_shr (a : Int64) (c : UInt64) : nL ((a.toUInt64 >>> c).toInt64) = nL a / 2 ^ (c.toNat % 64) := by
  show (a.toUInt64 >>> c).toNat = _
  rw [UInt64.toNat_shiftRight, Nat.shiftRight_eq_div_pow]
  rfl
def sB (y : Int64) (c : Int32) : Int64 := (((y : Int64).toUInt64 >>> (c.toInt64.toUInt64 &&& Int64.toUInt64 63)).toInt64)
def sB1 (y : Int64) : Int64 := y - (sB y 1 &&& (6148914691236517205 : Int64))
def sB2 (y : Int64) : Int64 := (y &&& (3689348814741910323 : Int64)) + (sB y 2 &&& (3689348814741910323 : Int64))
def sB3 (y : Int64) : Int64 := (y + sB y 4) &&& (1085102592571150095 : Int64)
def sB4 (y : Int64) (c : Int32) : Int64 := y + sB y c
theorem nL_sB (y : Int64) {c : Int32} {k : Nat} (h : (c.toInt64.toUInt64 &&& Int64.toUInt64 63).toNat % 64 = k) : nL (sB y c) = nL y / 2 ^ k := by
  rw [sB, nL_shr, h]
theorem mk5 : nL (6148914691236517205 : Int64) = 5 * rp 16 16 := by decide +kernel
theorem mk3 : nL (3689348814741910323 : Int64) = 3 * rp 16 16 := by decide +kernel
theorem mk15 : nL (1085102592571150095 : Int64) = 15 * rp 256 8 := by decide +kernel
theorem P4_lt : ∀ k x : Nat, 4 * P4 k x < 2 * 16 ^ k
  | 0, x => by simp [P4]
  | k + 1, x => by
    have ih := P4_lt k (x / 16)
    have h := p4_le (x % 16)
    rw [P4, Nat.pow_succ]
    omega
theorem and3_le (x : Nat) : x &&& (3 * rp 16 16) ≤ 3 * rp 16 16 := Nat.and_le_right
theorem nL_sB1 (y : Int64) : nL (sB1 y) = nL y - ((nL y / 2) &&& (5 * rp 16 16)) := by
  have h := (st12 16 (nL y) (nL_lt y)).1
  have hl := nL_lt y
  rw [sB1, nL_sub, nL_and, mk5, nL_sB y (k := 1) (by decide)]
  rw [show (2 : Nat) ^ 1 = 2 from rfl]
  generalize (nL y / 2) &&& (5 * rp 16 16) = t at *
  omega
theorem nL_sB2 (y : Int64) : nL (sB2 (sB1 y)) = P4 16 (nL y) := by
  have h := (st12 16 (nL y) (nL_lt y)).2
  have hp := P4_lt 16 (nL y)
  rw [sB2, nL_add, nL_and, nL_and, mk3, nL_sB _ (k := 2) (by decide), nL_sB1, show (2 : Nat) ^ 2 = 4 from rfl, h]
  exact Nat.mod_eq_of_lt (by omega)
theorem nL_sB3 (y : Int64) : nL (sB3 (sB2 (sB1 y))) = T8 8 (nL y) := by
  have h := st3 8 (nL y)
  have hp := P4_lt 16 (nL y)
  rw [sB3, nL_and, nL_add, mk15, nL_sB _ (k := 4) (by decide), nL_sB2, show (2 : Nat) ^ 4 = 16 from rfl, Nat.mod_eq_of_lt (by omega)]
  exact h
theorem nL_sB4 (y : Int64) {c : Int32} {k : Nat} (h : (c.toInt64.toUInt64 &&& Int64.toUInt64 63).toNat % 64 = k) (hk : nL y + nL y / 2 ^ k < 2 ^ 64) : nL (sB4 y c) = nL y + nL y / 2 ^ k := by
  rw [sB4, nL_add, nL_sB y h, Nat.mod_eq_of_lt hk]
theorem fe1 (c0 c1 c2 c3 c4 c5 c6 c7 : Nat) : 256 * (256 * (256 * (256 * (256 * (256 * (256 * (256 * 0 + c7) + c6) + c5) + c4) + c3) + c2) + c1) + c0 + (256 * (256 * (256 * (256 * (256 * (256 * (256 * 0 + c7) + c6) + c5) + c4) + c3) + c2) + c1) = 256 * (256 * (256 * (256 * (256 * (256 * (256 * c7 + (c6 + c7)) + (c5 + c6)) + (c4 + c5)) + (c3 + c4)) + (c2 + c3)) + (c1 + c2)) + (c0 + c1) := by omega
theorem fe2 (c0 c1 c2 c3 c4 c5 c6 c7 : Nat) : 256 * (256 * (256 * (256 * (256 * (256 * (256 * c7 + (c6 + c7)) + (c5 + c6)) + (c4 + c5)) + (c3 + c4)) + (c2 + c3)) + (c1 + c2)) + (c0 + c1) + (256 * (256 * (256 * (256 * (256 * c7 + (c6 + c7)) + (c5 + c6)) + (c4 + c5)) + (c3 + c4)) + (c2 + c3)) = 256 * (256 * (256 * (256 * (256 * (256 * (256 * c7 + (c6 + c7)) + (c5 + c6 + c7)) + (c4 + c5 + c6 + c7)) + (c3 + c4 + c5 + c6)) + (c2 + c3 + c4 + c5)) + (c1 + c2 + c3 + c4)) + (c0 + c1 + c2 + c3) := by omega
theorem fl1 {c0 c1 c2 c3 c4 c5 c6 c7 : Nat} (h0 : c0 ≤ 8) (h1 : c1 ≤ 8) (h2 : c2 ≤ 8) (h3 : c3 ≤ 8) (h4 : c4 ≤ 8) (h5 : c5 ≤ 8) (h6 : c6 ≤ 8) (h7 : c7 ≤ 8) : 256 * (256 * (256 * (256 * (256 * (256 * (256 * c7 + (c6 + c7)) + (c5 + c6)) + (c4 + c5)) + (c3 + c4)) + (c2 + c3)) + (c1 + c2)) + (c0 + c1) < 2 ^ 63 := by omega
theorem fl2 {c0 c1 c2 c3 c4 c5 c6 c7 : Nat} (h0 : c0 ≤ 8) (h1 : c1 ≤ 8) (h2 : c2 ≤ 8) (h3 : c3 ≤ 8) (h4 : c4 ≤ 8) (h5 : c5 ≤ 8) (h6 : c6 ≤ 8) (h7 : c7 ≤ 8) : 256 * (256 * (256 * (256 * (256 * (256 * (256 * c7 + (c6 + c7)) + (c5 + c6 + c7)) + (c4 + c5 + c6 + c7)) + (c3 + c4 + c5 + c6)) + (c2 + c3 + c4 + c5)) + (c1 + c2 + c3 + c4)) + (c0 + c1 + c2 + c3) < 2 ^ 63 := by omega
theorem fl3 {c0 c1 c2 c3 c4 c5 c6 c7 : Nat} (h0 : c0 ≤ 8) (h1 : c1 ≤ 8) (h2 : c2 ≤ 8) (h3 : c3 ≤ 8) (h4 : c4 ≤ 8) (h5 : c5 ≤ 8) (h6 : c6 ≤ 8) (h7 : c7 ≤ 8) : 256 * (256 * (256 * c7 + (c6 + c7)) + (c5 + c6 + c7)) + (c4 + c5 + c6 + c7) < 2 ^ 62 := by omega
theorem f64 {a : Nat} (h : a < 2 ^ 63) : a < 2 ^ 64 := by omega
theorem f64b {a b : Nat} (h : a < 2 ^ 63) (h2 : b < 2 ^ 62) : a + b < 2 ^ 64 := by omega
theorem md8 {A B u v : Nat} (h : u + v < 128) : (256 * A + u + (256 * B + v)) % 128 = u + v := by omega
theorem low7 (y : Int64) : (y.toInt32 &&& 127) = Int32.ofNat (nL y % 128) := by
  apply Int32.toBitVec_inj.mp
  apply BitVec.eq_of_toNat_eq
  rw [Int32.toBitVec_and, Int64.toBitVec_toInt32, BitVec.signExtend_eq_setWidth_of_le _ (by decide)]
  show (y.toBitVec.setWidth 32 &&& 127#32).toNat = (BitVec.ofNat 32 (nL y % 128)).toNat
  rw [BitVec.toNat_and, BitVec.toNat_setWidth, show (127#32).toNat = 2 ^ 7 - 1 from rfl, Nat.and_two_pow_sub_one_eq_mod, BitVec.toNat_ofNat]
  show nL y % 2 ^ 32 % 2 ^ 7 = nL y % 128 % 2 ^ 32
  omega
theorem T8_8 (x : Nat) : T8 8 x = 256 * (256 * (256 * (256 * (256 * (256 * (256 * (256 * 0 + e8 (x / 256 / 256 / 256 / 256 / 256 / 256 / 256)) + e8 (x / 256 / 256 / 256 / 256 / 256 / 256)) + e8 (x / 256 / 256 / 256 / 256 / 256)) + e8 (x / 256 / 256 / 256 / 256)) + e8 (x / 256 / 256 / 256)) + e8 (x / 256 / 256)) + e8 (x / 256)) + e8 x := rfl
theorem swar1 {z : Int64} {c0 c1 c2 c3 c4 c5 c6 c7 : Nat} (h0 : c0 ≤ 8) (h1 : c1 ≤ 8) (h2 : c2 ≤ 8) (h3 : c3 ≤ 8) (h4 : c4 ≤ 8) (h5 : c5 ≤ 8) (h6 : c6 ≤ 8) (h7 : c7 ≤ 8) (e : nL z = 256 * (256 * (256 * (256 * (256 * (256 * (256 * (256 * 0 + c7) + c6) + c5) + c4) + c3) + c2) + c1) + c0) : nL (sB4 (sB4 (sB4 z 8) 16) 32) % 128 = c0 + c1 + c2 + c3 + (c4 + c5 + c6 + c7) := by
  have a1 : nL z / 2 ^ 8 = 256 * (256 * (256 * (256 * (256 * (256 * (256 * 0 + c7) + c6) + c5) + c4) + c3) + c2) + c1 := by rw [e]; exact dv1 (Nat.lt_of_le_of_lt h0 (by decide))
  have a2 : nL (sB4 z 8) = 256 * (256 * (256 * (256 * (256 * (256 * (256 * c7 + (c6 + c7)) + (c5 + c6)) + (c4 + c5)) + (c3 + c4)) + (c2 + c3)) + (c1 + c2)) + (c0 + c1) := by
    have q := fe1 c0 c1 c2 c3 c4 c5 c6 c7
    have q : nL z + nL z / 2 ^ 8 = 256 * (256 * (256 * (256 * (256 * (256 * (256 * c7 + (c6 + c7)) + (c5 + c6)) + (c4 + c5)) + (c3 + c4)) + (c2 + c3)) + (c1 + c2)) + (c0 + c1) := by rw [a1, e]; exact q
    rw [nL_sB4 z (k := 8) (by decide) (by rw [q]; exact f64 (fl1 h0 h1 h2 h3 h4 h5 h6 h7)), q]
  have b1 : c1 + c2 < 256 := by clear a1 a2 e; omega
  have b2 : c0 + c1 < 256 := by clear a1 a2 e; omega
  have a3 : nL (sB4 z 8) / 2 ^ 16 = 256 * (256 * (256 * (256 * (256 * c7 + (c6 + c7)) + (c5 + c6)) + (c4 + c5)) + (c3 + c4)) + (c2 + c3) := by rw [a2]; exact dv2 b1 b2
  have a4 : nL (sB4 (sB4 z 8) 16) = 256 * (256 * (256 * (256 * (256 * (256 * (256 * c7 + (c6 + c7)) + (c5 + c6 + c7)) + (c4 + c5 + c6 + c7)) + (c3 + c4 + c5 + c6)) + (c2 + c3 + c4 + c5)) + (c1 + c2 + c3 + c4)) + (c0 + c1 + c2 + c3) := by
    have q := fe2 c0 c1 c2 c3 c4 c5 c6 c7
    have q : nL (sB4 z 8) + nL (sB4 z 8) / 2 ^ 16 = 256 * (256 * (256 * (256 * (256 * (256 * (256 * c7 + (c6 + c7)) + (c5 + c6 + c7)) + (c4 + c5 + c6 + c7)) + (c3 + c4 + c5 + c6)) + (c2 + c3 + c4 + c5)) + (c1 + c2 + c3 + c4)) + (c0 + c1 + c2 + c3) := by rw [a3, a2]; exact q
    rw [nL_sB4 _ (k := 16) (by decide) (by rw [q]; exact f64 (fl2 h0 h1 h2 h3 h4 h5 h6 h7)), q]
  have b4 : c0 + c1 + c2 + c3 < 256 := by clear a1 a2 a3 a4 e; omega
  have b5 : c1 + c2 + c3 + c4 < 256 := by clear a1 a2 a3 a4 e; omega
  have b6 : c2 + c3 + c4 + c5 < 256 := by clear a1 a2 a3 a4 e; omega
  have b7 : c3 + c4 + c5 + c6 < 256 := by clear a1 a2 a3 a4 e; omega
  have a5 : nL (sB4 (sB4 z 8) 16) / 2 ^ 32 = 256 * (256 * (256 * c7 + (c6 + c7)) + (c5 + c6 + c7)) + (c4 + c5 + c6 + c7) := by rw [a4]; exact dv4 b7 b6 b5 b4
  have b8 : c0 + c1 + c2 + c3 + (c4 + c5 + c6 + c7) < 128 := by clear a1 a2 a3 a4 a5 e; omega
  rw [nL_sB4 _ (k := 32) (by decide) (by rw [a5, a4]; exact f64b (fl2 h0 h1 h2 h3 h4 h5 h6 h7) (fl3 h0 h1 h2 h3 h4 h5 h6 h7)), a5, a4]
  exact md8 b8
theorem swar (y : Int64) : ((sB4 (sB4 (sB4 (sB3 (sB2 (sB1 y))) 8) 16) 32).toInt32 &&& 127) = Int32.ofNat (bcs (nL y) 64) := by
  rw [low7, bcs64, swar1 (e8_le _) (e8_le _) (e8_le _) (e8_le _) (e8_le _) (e8_le _) (e8_le _) (e8_le _) ((nL_sB3 y).trans (T8_8 (nL y)))]
  simp only [Nat.add_assoc]
/-! a bit of a long -/
theorem oneL : ∀ d, d < 64 → nL ((1 : Int64) <<< ((Int32.ofNat d).toInt64 &&& 63)) = 2 ^ d := by decide +kernel
theorem bitC (y : Int64) : f_J13_bitCount_95d88 y = some ((sB4 (sB4 (sB4 (sB3 (sB2 (sB1 y))) 8) 16) 32).toInt32 &&& 127) := rfl
theorem bitCount_n (y : Int64) : f_J13_bitCount_95d88 y = some (nI (bcs (nL y) 64)) := by rw [bitC, swar]; rfl
