/-! ===== PURE HALF. fractions in lowest terms ===== -/
theorem euc {B : Nat} {body : Int32 × Int32 × Int32 → Option ((Int32 × Int32 × Int32) ⊕ Int32)} (hb : ∀ x y st : Nat, x < 2 ^ 31 → y < 2 ^ 31 → st < 1000 → body (nI x, nI y, nI st) = if B ≤ st then some (.inr (nI x)) else if y = 0 then some (.inr (nI x)) else some (.inl (nI y, nI (x % y), nI (st + 1)))) (hB : B ≤ 100) :
    ∀ (m fuel x y st : Nat), x < 2 ^ 31 → y ≤ x → x * y < 2 ^ m → st + m ≤ B → m < fuel → lp body fuel (nI x, nI y, nI st) = some (nI (Nat.gcd x y)) := by
  intro m
  induction m with
  | zero =>
    intro fuel x y st hx hyx hm hst hf
    have hy : y = 0 := by
      rcases Nat.eq_zero_or_pos y with h | h
      · exact h
      · have : 1 * 1 ≤ x * y := Nat.mul_le_mul (by omega) h
        omega
    subst hy
    obtain ⟨f', rfl⟩ : ∃ f', fuel = f' + 1 := ⟨fuel - 1, by omega⟩
    rw [lp_end (r := nI x), Nat.gcd_zero_right]
    rw [hb x 0 st hx (by omega) (by omega)]
    split <;> rfl
  | succ m ih =>
    intro fuel x y st hx hyx hm hst hf
    obtain ⟨f', rfl⟩ : ∃ f', fuel = f' + 1 := ⟨fuel - 1, by omega⟩
    by_cases hy : y = 0
    · subst hy
      rw [lp_end (r := nI x), Nat.gcd_zero_right]
      rw [hb x 0 st hx (by omega) (by omega)]
      split <;> rfl
    · have e := hb x y st hx (by omega) (by omega)
      rw [if_neg (by omega), if_neg hy] at e
      rw [lp_go e]
      have hr : x % y < y := Nat.mod_lt _ (by omega)
      have hd := Nat.div_add_mod x y
      have hq : 1 ≤ x / y := (Nat.le_div_iff_mul_le (by omega)).mpr (by omega)
      have h2 : y * 1 ≤ y * (x / y) := Nat.mul_le_mul_left y hq
      have h3 : 2 * (x % y) ≤ x := by omega
      have h4 : y * (x % y) < 2 ^ m := by
        have h5 : y * (2 * (x % y)) ≤ y * x := Nat.mul_le_mul_left y h3
        rw [Nat.mul_comm y x] at h5
        rw [Nat.mul_left_comm] at h5
        rw [Nat.pow_succ] at hm
        omega
      rw [ih f' y (x % y) (st + 1) (by omega) (by omega) h4 (by omega) (by omega)]
      rw [Nat.gcd_comm y (x % y), ← Nat.gcd_rec, Nat.gcd_comm]
theorem euc0 {B : Nat} {body : Int32 × Int32 × Int32 → Option ((Int32 × Int32 × Int32) ⊕ Int32)} (hb : ∀ x y st : Nat, x < 2 ^ 31 → y < 2 ^ 31 → st < 1000 → body (nI x, nI y, nI st) = if B ≤ st then some (.inr (nI x)) else if y = 0 then some (.inr (nI x)) else some (.inl (nI y, nI (x % y), nI (st + 1)))) (hB : B ≤ 100) (hB2 : 64 ≤ B) {a b : Nat} (ha : a < 2 ^ 31) (hbb : b < 2 ^ 31) : lp body fu (nI a, nI b, 0) = some (nI (Nat.gcd a b)) := by
  have prod : ∀ x y : Nat, x < 2 ^ 31 → y < 2 ^ 31 → x * y < 2 ^ 62 := fun x y hx hy => by
    have h1 : x * y ≤ x * 2 ^ 31 := Nat.mul_le_mul_left x (by omega)
    have h2 : x * 2 ^ 31 < 2 ^ 31 * 2 ^ 31 := Nat.mul_lt_mul_of_pos_right hx (by decide)
    have h3 : (2 : Nat) ^ 31 * 2 ^ 31 = 2 ^ 62 := by decide
    omega
  show lp body (999 + 1) (nI a, nI b, nI 0) = _
  by_cases h : b ≤ a
  · exact euc hb hB 62 1000 a b 0 ha h (prod a b ha hbb) (by omega) (by omega)
  · have e := hb a b 0 ha hbb (by omega)
    rw [if_neg (by omega), if_neg (by omega), Nat.mod_eq_of_lt (by omega)] at e
    rw [lp_go e, Nat.gcd_comm]
    exact euc hb hB 62 999 b a 1 hbb (by omega) (prod b a hbb ha) (by omega) (by omega)
theorem cd_body (x y st : Nat) (hx : x < 2 ^ 31) (hy : y < 2 ^ 31) (hst : st < 1000) : f_X4_commonDivisor_L7 (nI x, nI y, nI st) = if 64 ≤ st then some (.inr (nI x)) else if y = 0 then some (.inr (nI x)) else some (.inl (nI y, nI (x % y), nI (st + 1))) := by
  unfold f_X4_commonDivisor_L7
  have e1 : ((64 : Int32) ≤ nI st) ↔ 64 ≤ st := by rw [show (64 : Int32) = nI 64 from rfl, n_le (by omega) (by omega)]
  have e2 : (nI y = 0) ↔ y = 0 := by rw [show (0 : Int32) = nI 0 from rfl, n_eq hy (by omega)]
  simp only [e1, e2, nI_1]
  by_cases h1 : 64 ≤ st
  · simp only [if_pos h1]
  · by_cases h2 : y = 0
    · simp only [if_neg h1, if_pos h2]
    · simp only [if_neg h1, if_neg h2, pk_rem hx (by omega) hy]
theorem cm_body (x y st : Nat) (hx : x < 2 ^ 31) (hy : y < 2 ^ 31) (hst : st < 1000) : f_X5_common_L7 (nI x, nI y, nI st) = if 100 ≤ st then some (.inr (nI x)) else if y = 0 then some (.inr (nI x)) else some (.inl (nI y, nI (x % y), nI (st + 1))) := by
  unfold f_X5_common_L7
  have e1 : ((100 : Int32) ≤ nI st) ↔ 100 ≤ st := by rw [show (100 : Int32) = nI 100 from rfl, n_le (by omega) (by omega)]
  have e2 : (nI y = 0) ↔ y = 0 := by rw [show (0 : Int32) = nI 0 from rfl, n_eq hy (by omega)]
  simp only [e1, e2, nI_1]
  by_cases h1 : 100 ≤ st
  · simp only [if_pos h1]
  · by_cases h2 : y = 0
    · simp only [if_neg h1, if_pos h2]
    · simp only [if_neg h1, if_neg h2, pk_rem hx (by omega) hy]
theorem X4_cd {a b : Nat} (ha : a < 2 ^ 31) (hb : b < 2 ^ 31) : f_X4_commonDivisor (nI a) (nI b) = some (nI (Nat.gcd a b)) := by
  unfold f_X4_commonDivisor
  rw [euc0 cd_body (by omega) (by omega) ha hb]
  rfl
theorem X5_cm {a b : Nat} (ha : a < 2 ^ 31) (hb : b < 2 ^ 31) : f_X5_common (nI a) (nI b) = some (nI (Nat.gcd a b)) := by
  unfold f_X5_common
  rw [euc0 cm_body (by omega) (by omega) ha hb]
  rfl
theorem gcd_lt {a b : Nat} (ha : a < 2 ^ 31) (hb : b < 2 ^ 31) : Nat.gcd a b < 2 ^ 31 := by
  rcases Nat.eq_zero_or_pos a with h | h
  · rw [h, Nat.gcd_zero_left]; exact hb
  · exact Nat.lt_of_le_of_lt (Nat.gcd_le_left b h) ha
/-- what a fraction's parts are told as -/
def fUp (a b : Nat) : Nat := a / Nat.gcd a b
def fLo (a b : Nat) : Nat := if Nat.gcd a b = 0 then 1 else b / Nat.gcd a b
theorem X4_upper {a b : Nat} (ha : a < 2 ^ 31) (hb : b < 2 ^ 31) : f_X4_upper (nI a) (nI b) = some (nI (fUp a b)) := by
  unfold f_X4_upper
  have hg := gcd_lt ha hb
  have e2 : (nI (Nat.gcd a b) = 0) ↔ Nat.gcd a b = 0 := by rw [show (0 : Int32) = nI 0 from rfl, n_eq hg (by omega)]
  simp only [X4_cd ha hb, bd_some, e2, fUp]
  by_cases h : Nat.gcd a b = 0
  · simp only [if_pos h, h, Nat.div_zero]; rfl
  · simp only [if_neg h, pk_div ha (Nat.pos_of_ne_zero h) hg]
theorem X4_lower {a b : Nat} (ha : a < 2 ^ 31) (hb : b < 2 ^ 31) : f_X4_lower (nI a) (nI b) = some (nI (fLo a b)) := by
  unfold f_X4_lower
  have hg := gcd_lt ha hb
  have e2 : (nI (Nat.gcd a b) = 0) ↔ Nat.gcd a b = 0 := by rw [show (0 : Int32) = nI 0 from rfl, n_eq hg (by omega)]
  simp only [X4_cd ha hb, bd_some, e2, fLo]
  by_cases h : Nat.gcd a b = 0
  · simp only [if_pos h]; rfl
  · simp only [if_neg h, pk_div hb (Nat.pos_of_ne_zero h) hg]
theorem X4_part {a b w : Nat} (ha : a < 2 ^ 31) (hb : b < 2 ^ 31) (hw : w < 2 ^ 31) : f_X4_part (nI w) (nI a) (nI b) = some (nI (if w = 0 then fUp a b else fLo a b)) := by
  unfold f_X4_part
  have e2 : (nI w = 0) ↔ w = 0 := by rw [show (0 : Int32) = nI 0 from rfl, n_eq hw (by omega)]
  simp only [X4_upper ha hb, X4_lower ha hb, e2, bd_some]
  split <;> rfl
theorem X5_part {a b w : Nat} (ha : a < 2 ^ 31) (hb : b < 2 ^ 31) (hw : w < 2 ^ 31) (h0 : Nat.gcd a b ≠ 0) : f_X5_part (nI a) (nI b) (nI w) = some (nI (if w = 0 then fUp a b else fLo a b)) := by
  unfold f_X5_part
  have hg := gcd_lt ha hb
  have e2 : (nI w = 0) ↔ w = 0 := by rw [show (0 : Int32) = nI 0 from rfl, n_eq hw (by omega)]
  have e3 : (nI (Nat.gcd a b) = 0) ↔ Nat.gcd a b = 0 := by rw [show (0 : Int32) = nI 0 from rfl, n_eq hg (by omega)]
  simp only [X5_cm ha hb, bd_some, e2, e3, if_neg h0, fUp, fLo, pk_div ha (Nat.pos_of_ne_zero h0) hg, pk_div hb (Nat.pos_of_ne_zero h0) hg]
  split <;> rfl
