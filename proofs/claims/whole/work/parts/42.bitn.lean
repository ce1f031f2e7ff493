/-! ===== PURE HALF. how many bits a long has ===== -/
def p4 (a : Nat) : Nat := a % 2 + a / 2 % 2 + a / 4 % 2 + a / 8 % 2
def e8 (y : Nat) : Nat := p4 (y % 16) + p4 (y / 16 % 16)
theorem p4_le (a : Nat) : p4 a ≤ 4 := by unfold p4; omega
theorem e8_le (a : Nat) : e8 a ≤ 8 := by unfold e8; have := p4_le (a % 16); have := p4_le (a / 16 % 16); omega
def rp (B : Nat) : Nat → Nat
  | 0 => 0
  | k + 1 => B * rp B k + 1
def P4 : Nat → Nat → Nat
  | 0, _ => 0
  | k + 1, x => 16 * P4 k (x / 16) + p4 (x % 16)
def T8 : Nat → Nat → Nat
  | 0, _ => 0
  | k + 1, x => 256 * T8 k (x / 256) + e8 x
theorem and_dig (j : Nat) {u v m c : Nat} (hv : v < 2 ^ j) (hc : c < 2 ^ j) : (2 ^ j * u + v) &&& (2 ^ j * m + c) = 2 ^ j * (u &&& m) + (v &&& c) := by
  apply Nat.eq_of_testBit_eq
  intro i
  have hvc : v &&& c < 2 ^ j := Nat.and_lt_two_pow _ hc
  rw [Nat.testBit_and, Nat.testBit_two_pow_mul_add _ hv, Nat.testBit_two_pow_mul_add _ hc, Nat.testBit_two_pow_mul_add _ hvc]
  split
  · rw [Nat.testBit_and]
  · rw [Nat.testBit_and]
theorem and16 {u v m c : Nat} (hv : v < 16) (hc : c < 16) : (16 * u + v) &&& (16 * m + c) = 16 * (u &&& m) + (v &&& c) := and_dig 4 hv hc
theorem and256 {u v m c : Nat} (hv : v < 256) (hc : c < 256) : (256 * u + v) &&& (256 * m + c) = 256 * (u &&& m) + (v &&& c) := and_dig 8 hv hc
theorem b5 : ∀ a, a < 16 → ∀ r, r < 2 → (8 * r + a / 2) &&& 5 = (a / 2) &&& 5 ∧ ((a / 2) &&& 5) ≤ a := by decide +kernel
theorem b3 : ∀ a, a < 16 → ∀ r, r < 4 → (4 * r + a / 4) &&& 3 = (a / 4) &&& 3 := by decide +kernel
theorem b4 : ∀ a, a < 16 → ((a - ((a / 2) &&& 5)) &&& 3) + (((a - ((a / 2) &&& 5)) / 4) &&& 3) = p4 a := by decide +kernel
theorem b15 : ∀ h, h < 9 → ∀ s, s < 16 → (16 * s + h) &&& 15 = h := by decide +kernel
/-- the first two stages, digit by digit -/
theorem st12 : ∀ k x : Nat, x < 16 ^ k → ((x / 2) &&& (5 * rp 16 k)) ≤ x ∧ ((x - ((x / 2) &&& (5 * rp 16 k))) &&& (3 * rp 16 k)) + (((x - ((x / 2) &&& (5 * rp 16 k))) / 4) &&& (3 * rp 16 k)) = P4 k x
  | 0, x, h => by simp [rp, P4]
  | k + 1, x, h => by
    have hq : x / 16 < 16 ^ k := by
      rw [Nat.pow_succ] at h
      omega
    obtain ⟨i1, i2⟩ := st12 k (x / 16) hq
    have ha : x % 16 < 16 := Nat.mod_lt _ (by omega)
    generalize hq' : x / 16 = q at *
    generalize ha' : x % 16 = a at *
    have hx : x = 16 * q + a := by omega
    have e1 : x / 2 = 16 * (q / 2) + (8 * (q % 2) + a / 2) := by omega
    have m5 : 5 * rp 16 (k + 1) = 16 * (5 * rp 16 k) + 5 := by rw [rp]; omega
    have m3 : 3 * rp 16 (k + 1) = 16 * (3 * rp 16 k) + 3 := by rw [rp]; omega
    obtain ⟨f1, f2⟩ := b5 a ha (q % 2) (by omega)
    have e2 : (x / 2) &&& (5 * rp 16 (k + 1)) = 16 * ((q / 2) &&& (5 * rp 16 k)) + ((a / 2) &&& 5) := by
      rw [e1, m5, and16 (by omega) (by omega), f1]
    rw [e2]
    refine ⟨by omega, ?_⟩
    have e3 : x - (16 * ((q / 2) &&& (5 * rp 16 k)) + ((a / 2) &&& 5)) = 16 * (q - ((q / 2) &&& (5 * rp 16 k))) + (a - ((a / 2) &&& 5)) := by omega
    rw [e3, m3]
    generalize hq1 : q - ((q / 2) &&& (5 * rp 16 k)) = q1 at *
    have h4 := b4 a ha
    have ha1 : a - ((a / 2) &&& 5) < 16 := by omega
    generalize a - ((a / 2) &&& 5) = a1 at *
    have e4 : (16 * q1 + a1) / 4 = 16 * (q1 / 4) + (4 * (q1 % 4) + a1 / 4) := by omega
    rw [e4, and16 ha1 (by omega), and16 (by omega) (by omega), b3 a1 ha1 (q1 % 4) (by omega), P4, hq', ha', ← i2, ← h4]
    omega
theorem P4_mod (k x : Nat) : P4 k x % 16 ≤ 4 := by
  cases k with
  | zero => simp [P4]
  | succ k => rw [P4]; have := p4_le (x % 16); omega
theorem st3 : ∀ k x : Nat, ((P4 (2 * k) x + P4 (2 * k) x / 16) &&& (15 * rp 256 k)) = T8 k x
  | 0, x => by simp [rp, P4, T8]
  | k + 1, x => by
    have ih := st3 k (x / 256)
    have e1 : P4 (2 * (k + 1)) x = 16 * (16 * P4 (2 * k) (x / 256) + p4 (x / 16 % 16)) + p4 (x % 16) := by
      rw [show 2 * (k + 1) = (2 * k + 1) + 1 from rfl, P4, P4, Nat.div_div_eq_div_mul]
    have hl := p4_le (x % 16)
    have hh := p4_le (x / 16 % 16)
    have hu := P4_mod (2 * k) (x / 256)
    have m : 15 * rp 256 (k + 1) = 256 * (15 * rp 256 k) + 15 := by rw [rp]; omega
    rw [e1, m, T8, ← ih, e8]
    generalize P4 (2 * k) (x / 256) = u at *
    generalize p4 (x % 16) = l at *
    generalize p4 (x / 16 % 16) = h at *
    have e2 : 16 * (16 * u + h) + l + (16 * (16 * u + h) + l) / 16 = 256 * (u + u / 16) + (16 * (h + u % 16) + (l + h)) := by omega
    rw [e2, and256 (by omega) (by omega), b15 (l + h) (by omega) (h + u % 16) (by omega)]
/-- the bits, one by one -/
def bcs (x : Nat) : Nat → Nat
  | 0 => 0
  | i + 1 => bcs x i + x / 2 ^ i % 2
theorem bcs8 (x i : Nat) : bcs x (i + 8) = bcs x i + e8 (x / 2 ^ i) := by
  have s : ∀ j, x / 2 ^ (i + j) = x / 2 ^ i / 2 ^ j := fun j => by rw [Nat.pow_add, Nat.div_div_eq_div_mul]
  show bcs x i + x / 2 ^ i % 2 + x / 2 ^ (i + 1) % 2 + x / 2 ^ (i + 2) % 2 + x / 2 ^ (i + 3) % 2 + x / 2 ^ (i + 4) % 2 + x / 2 ^ (i + 5) % 2 + x / 2 ^ (i + 6) % 2 + x / 2 ^ (i + 7) % 2 = _
  rw [s 1, s 2, s 3, s 4, s 5, s 6, s 7, e8, p4, p4]
  generalize x / 2 ^ i = y
  omega
theorem bcs64 (x : Nat) : bcs x 64 = e8 x + e8 (x / 256) + e8 (x / 256 / 256) + e8 (x / 256 / 256 / 256) + e8 (x / 256 / 256 / 256 / 256) + e8 (x / 256 / 256 / 256 / 256 / 256) + e8 (x / 256 / 256 / 256 / 256 / 256 / 256) + e8 (x / 256 / 256 / 256 / 256 / 256 / 256 / 256) := by
  have a := bcs8 x 0
  have b := bcs8 x 8
  have c := bcs8 x 16
  have d := bcs8 x 24
  have e := bcs8 x 32
  have f := bcs8 x 40
  have g := bcs8 x 48
  have h := bcs8 x 56
  simp only [Nat.div_div_eq_div_mul] at *
  simp only [bcs, Nat.pow_zero, Nat.div_one, Nat.zero_add, Nat.reduceAdd, Nat.reducePow, Nat.reduceMul] at a b c d e f g h ⊢
  omega
theorem fold8 {c0 c1 c2 c3 c4 c5 c6 c7 : Nat} (h0 : c0 ≤ 8) (h1 : c1 ≤ 8) (h2 : c2 ≤ 8) (h3 : c3 ≤ 8) (h4 : c4 ≤ 8) (h5 : c5 ≤ 8) (h6 : c6 ≤ 8) (h7 : c7 ≤ 8) :
    ∃ x4 x5 x6 : Nat, x4 = (256 * (256 * (256 * (256 * (256 * (256 * (256 * (256 * 0 + c7) + c6) + c5) + c4) + c3) + c2) + c1) + c0) + (256 * (256 * (256 * (256 * (256 * (256 * (256 * (256 * 0 + c7) + c6) + c5) + c4) + c3) + c2) + c1) + c0) / 256 ∧ x4 < 2 ^ 63 ∧ x5 = x4 + x4 / 65536 ∧ x5 < 2 ^ 63 ∧ x6 = x5 + x5 / 4294967296 ∧ x6 < 2 ^ 63 ∧ x6 % 128 = c0 + c1 + c2 + c3 + c4 + c5 + c6 + c7 := by
  refine ⟨_, _, _, rfl, by omega, rfl, by omega, rfl, by omega, ?_⟩
  have q1 : (256 * (256 * (256 * (256 * (256 * (256 * (256 * (256 * 0 + c7) + c6) + c5) + c4) + c3) + c2) + c1) + c0) / 256 = 256 * (256 * (256 * (256 * (256 * (256 * (256 * 0 + c7) + c6) + c5) + c4) + c3) + c2) + c1 := by omega
  rw [q1]
  have q2 : (256 * (256 * (256 * (256 * (256 * (256 * (256 * (256 * 0 + c7) + c6) + c5) + c4) + c3) + c2) + c1) + c0 + (256 * (256 * (256 * (256 * (256 * (256 * (256 * 0 + c7) + c6) + c5) + c4) + c3) + c2) + c1)) = 256 * (256 * (256 * (256 * (256 * (256 * (256 * c7 + (c6 + c7)) + (c5 + c6)) + (c4 + c5)) + (c3 + c4)) + (c2 + c3)) + (c1 + c2)) + (c0 + c1) := by omega
  rw [q2]
  have q3 : (256 * (256 * (256 * (256 * (256 * (256 * (256 * c7 + (c6 + c7)) + (c5 + c6)) + (c4 + c5)) + (c3 + c4)) + (c2 + c3)) + (c1 + c2)) + (c0 + c1)) / 65536 = 256 * (256 * (256 * (256 * (256 * c7 + (c6 + c7)) + (c5 + c6)) + (c4 + c5)) + (c3 + c4)) + (c2 + c3) := by omega
  rw [q3]
  have q4 : (256 * (256 * (256 * (256 * (256 * (256 * (256 * c7 + (c6 + c7)) + (c5 + c6)) + (c4 + c5)) + (c3 + c4)) + (c2 + c3)) + (c1 + c2)) + (c0 + c1) + (256 * (256 * (256 * (256 * (256 * c7 + (c6 + c7)) + (c5 + c6)) + (c4 + c5)) + (c3 + c4)) + (c2 + c3))) / 4294967296 = 256 * (256 * (256 * c7 + (c6 + c7)) + (c5 + c6 + c7)) + (c4 + c5 + c6 + c7) := by omega
  rw [q4]
  omega
