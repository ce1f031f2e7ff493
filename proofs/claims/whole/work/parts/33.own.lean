/-! ===== PURE HALF. who has a plot ===== -/
theorem fb_rng (x : Int32) : -2147483648 ≤ x.toInt ∧ x.toInt < 2147483648 := by
  have h1 := x.le_toInt
  have h2 := x.toInt_lt
  constructor <;> omega
theorem fb_bmod {z : Int} (h1 : -2147483648 ≤ z) (h2 : z < 2147483648) : z.bmod (2 ^ 32) = z := by
  rw [Int.bmod_eq_of_le_mul_two] <;> omega
theorem fb_addI {x y : Int32} (h1 : -2147483648 ≤ x.toInt + y.toInt) (h2 : x.toInt + y.toInt < 2147483648) : (x + y).toInt = x.toInt + y.toInt := by
  rw [Int32.toInt_add]; exact fb_bmod h1 h2
theorem fb_subI {x y : Int32} (h1 : -2147483648 ≤ x.toInt - y.toInt) (h2 : x.toInt - y.toInt < 2147483648) : (x - y).toInt = x.toInt - y.toInt := by
  rw [Int32.toInt_sub]; exact fb_bmod h1 h2
theorem fb_mulI {x y : Int32} (h1 : -2147483648 ≤ x.toInt * y.toInt) (h2 : x.toInt * y.toInt < 2147483648) : (x * y).toInt = x.toInt * y.toInt := by
  rw [Int32.toInt_mul]; exact fb_bmod h1 h2
theorem sq_35 {a : Int} (h1 : -35 ≤ a) (h2 : a ≤ 35) : 0 ≤ a * a ∧ a * a ≤ 1225 := by
  have h3 : 0 ≤ (35 - a) * (35 + a) := Int.mul_nonneg (by omega) (by omega)
  have h4 : (35 - a) * (35 + a) = 1225 - a * a := by
    rw [Int.sub_mul, Int.mul_add, Int.mul_add]
    have : a * 35 = 35 * a := Int.mul_comm _ _
    omega
  have h5 : 0 ≤ a * a := by
    rcases Int.le_total 0 a with h | h
    · exact Int.mul_nonneg h h
    · have := Int.mul_nonneg (show 0 ≤ -a by omega) (show 0 ≤ -a by omega)
      rw [Int.neg_mul_neg] at this
      exact this
  omega
def farS (S : SceneV) (g x y : Nat) : Int32 := (nI x - sPx S g) * (nI x - sPx S g) + (nI y - sPy S g) * (nI y - sPy S g)
def byS (S : SceneV) (g x y : Nat) : Int32 := farS S g x y - sRe S g
theorem d35 {p : Int32} {x : Nat} (hx : x < 16) (hp : plP p) : (nI x - p).toInt = (x : Int) - p.toInt ∧ -35 ≤ (nI x - p).toInt ∧ (nI x - p).toInt ≤ 35 := by
  have e : (nI x).toInt = x := nI_toInt (by omega)
  have h : (nI x - p).toInt = (x : Int) - p.toInt := by rw [fb_subI (by rw [e]; omega) (by rw [e]; omega), e]
  rw [h]
  omega
theorem sq_int {a : Int32} (h1 : -35 ≤ a.toInt) (h2 : a.toInt ≤ 35) : (a * a).toInt = a.toInt * a.toInt := by
  have := sq_35 h1 h2
  exact fb_mulI (by omega) (by omega)
theorem farS_int {S : SceneV} {n g x y : Nat} (hI : SI S n) (hg : g < n) (hx : x < 16) (hy : y < 16) : 0 ≤ (farS S g x y).toInt ∧ (farS S g x y).toInt ≤ 2450 := by
  obtain ⟨p1, p2⟩ := hI.2.2.2.1 g hg
  obtain ⟨-, a1, a2⟩ := d35 hx p1
  obtain ⟨-, b1, b2⟩ := d35 hy p2
  have q1 := sq_35 a1 a2
  have q2 := sq_35 b1 b2
  have e1 := sq_int a1 a2
  have e2 := sq_int b1 b2
  unfold farS
  rw [fb_addI (by omega) (by omega), e1, e2]
  omega
theorem byS_int {S : SceneV} {n g x y : Nat} (hI : SI S n) (hg : g < n) (hx : x < 16) (hy : y < 16) : -400 ≤ (byS S g x y).toInt ∧ (byS S g x y).toInt ≤ 2850 := by
  have h1 := farS_int hI hg hx hy
  have h2 := hI.2.2.2.2.1 g hg
  unfold byS
  rw [fb_subI (by omega) (by omega)]
  omega
/-- who has a plot by a set, of the first gauges; and how much is left there -/
def ow (S : SceneV) (s x y : Nat) : Nat → Int32 × Int32
  | 0 => (-1, 1000000000)
  | g + 1 => if s.testBit g = true ∧ byS S g x y < (ow S s x y g).2 then (nI g, byS S g x y) else ow S s x y g
/-- either nobody yet, or a gauge of the set with what it leaves -/
theorem ow_or (S : SceneV) (s x y : Nat) : ∀ n, (ow S s x y n = (-1, 1000000000) ∧ (∀ g, g < n → s.testBit g = true → ¬ byS S g x y < 1000000000)) ∨ ∃ g, g < n ∧ s.testBit g = true ∧ ow S s x y n = (nI g, byS S g x y)
  | 0 => Or.inl ⟨rfl, fun g h => by omega⟩
  | n + 1 => by
    rw [ow]
    split
    · rename_i h
      exact Or.inr ⟨n, by omega, h.1, rfl⟩
    · rename_i h
      rcases ow_or S s x y n with ⟨h1, h2⟩ | ⟨g, h1, h2, h3⟩
      · refine Or.inl ⟨h1, fun g hg hb => ?_⟩
        by_cases e : g = n
        · subst e
          rw [h1] at h
          exact fun q => h ⟨hb, q⟩
        · exact h2 g (by omega) hb
      · exact Or.inr ⟨g, by omega, h2, h3⟩
theorem big_int : (1000000000 : Int32).toInt = 1000000000 := by decide
theorem ow_some {S : SceneV} {m n s x y : Nat} (hI : SI S m) (hn : n ≤ m) (hx : x < 16) (hy : y < 16) : (ow S s x y n = (-1, 1000000000) ∧ ∀ g, g < n → s.testBit g = false) ∨ ∃ g, g < n ∧ s.testBit g = true ∧ ow S s x y n = (nI g, byS S g x y) := by
  rcases ow_or S s x y n with ⟨h1, h2⟩ | h
  · refine Or.inl ⟨h1, fun g hg => ?_⟩
    cases hb : s.testBit g with
    | false => rfl
    | true =>
      have h3 := h2 g hg hb
      rw [i_lt, big_int] at h3
      have := byS_int hI (show g < m by omega) hx hy
      omega
  · exact Or.inr h
theorem X5_far {S : SceneV} {n g x y : Nat} {M : ModelV} (hI : SI S n) (hM : MRel S n M) (hg : g < n) : f_X5_far M (nI g) (nI x) (nI y) = some (farS S g x y) := by
  have h8 := hI.1
  obtain ⟨e1, e2, -, -⟩ := hM.2.2 g hg
  unfold f_X5_far
  simp only [gd_t (ix_n (show g < 8 by omega) (by omega : (8 : Nat) ≤ 65536)), cl_n (show g < 65536 by omega), X5_square, bd_some, e1, e2]
  rfl
theorem X5_ownerOf {S : SceneV} {n s x y : Nat} {M : ModelV} (hI : SI S n) (hM : MRel S n M) (hs : s < 256) (hx : x < 16) (hy : y < 16) : f_X5_ownerOf M (nI s) (nI x) (nI y) = some (if (ow S s x y n).1 = -1 then -6 else (ow S s x y n).1) := by
  have h8 := hI.1
  have h := lp_F (body := f_X5_ownerOf_L10 M (nI s) (nI x) (nI y)) (fun i z => (z.1, z.2, nI i)) n (fun i => if (ow S s x y i).1 = -1 then ((-6 : Int32), (0 : Int32)) else ow S s x y i) (fun z => z.1) (fun i hi => by
    unfold f_X5_ownerOf_L10
    obtain ⟨-, -, e3, -⟩ := hM.2.2 i hi
    have c : ¬ M.2.2.1 ≤ nI i := by rw [hM.2.1, n_le (by omega) (by omega)]; omega
    have hb := byS_int hI hi hx hy
    have e4 : farS S i x y - M.2.2.2.2.2.1 i = byS S i x y := by rw [e3]; rfl
    have m1 : ¬ nI i = -1 := by rw [i_eq, nI_toInt (by omega)]; simp
    simp only [if_neg c, X5_far hI hM hi, bd_some, gd_t (ix_n (show i < 8 by omega) (by omega : (8 : Nat) ≤ 65536)), cl_n (show i < 65536 by omega), X5_has hs (show i < 8 by omega), b2i_0, e4, nI_1]
    rcases ow_some (s := s) hI (show i ≤ n by omega) hx hy with ⟨h1, -⟩ | ⟨g, h1, h2, h3⟩
    · have hlt : byS S i x y < 1000000000 := by rw [i_lt, big_int]; omega
      by_cases hbit : s.testBit i = false
      · simp only [h1, hbit, if_true, ow, Bool.false_eq_true, false_and, if_false, bd_some]
      · have hbit' : s.testBit i = true := eq_true_of_ne_false hbit
        have z6 : (-6 : Int32) < 0 := by decide
        simp only [h1, hbit', if_true, ow, Bool.true_eq_false, if_false, if_pos z6, hlt, and_self, bd_some, if_neg m1]
    · have m2 : ¬ nI g = -1 := by rw [i_eq, nI_toInt (by omega)]; simp
      have m3 : ¬ nI g < 0 := nI_pos (by omega)
      by_cases hbit : s.testBit i = false
      · simp only [h3, hbit, if_true, ow, Bool.false_eq_true, false_and, if_false, bd_some, if_neg m2]
      · have hbit' : s.testBit i = true := eq_true_of_ne_false hbit
        by_cases hle : byS S g x y ≤ byS S i x y
        · have hnl : ¬ byS S i x y < byS S g x y := by rw [i_lt]; rw [i_le] at hle; omega
          simp only [h3, hbit', ow, Bool.true_eq_false, if_false, if_neg m2, if_neg m3, if_pos hle, hnl, and_false, bd_some]
        · have hnl : byS S i x y < byS S g x y := by rw [i_lt]; rw [i_le] at hle; omega
          simp only [h3, hbit', ow, Bool.true_eq_false, if_false, if_neg m2, if_neg m3, if_neg hle, hnl, and_self, if_true, bd_some, if_neg m1]) (by
    unfold f_X5_ownerOf_L10
    have c : M.2.2.1 ≤ nI n := by rw [hM.2.1, n_le (by omega) (by omega)]; omega
    simp only [if_pos c]) fu 0 (by omega) (fu_lt (by omega))
  unfold f_X5_ownerOf
  rw [show lp (f_X5_ownerOf_L10 M (nI s) (nI x) (nI y)) fu ((-6), 0, 0) = _ from h]
  simp only [bd_some]
  split <;> rfl
