/-! ===== PURE HALF. neighbours ===== -/
theorem or_n (a b : Nat) : nI a ||| nI b = nI (a ||| b) := by
  apply Int32.toBitVec_inj.mp
  show BitVec.ofNat 32 a ||| BitVec.ofNat 32 b = BitVec.ofNat 32 (a ||| b)
  rw [BitVec.ofNat_or]
theorem n_bit0 : ∀ j, j < 8 → ((0 : Int32) ||| ((1 : Int32) <<< (nI j &&& 31))) = nI (2 ^ j) := by decide +kernel
theorem bit_eq {a b : Nat} (ha : a < 256) (hb : b < 256) (h : ∀ i, i < 8 → a.testBit i = b.testBit i) : a = b := by
  apply Nat.eq_of_testBit_eq
  intro i
  by_cases hi : i < 8
  · exact h i hi
  · have hp : (2 : Nat) ^ 8 ≤ 2 ^ i := Nat.pow_le_pow_right (by omega) (by omega)
    rw [Nat.testBit_lt_two_pow (Nat.lt_of_lt_of_le ha hp), Nat.testBit_lt_two_pow (Nat.lt_of_lt_of_le hb hp)]
theorem or_lt {a b : Nat} (ha : a < 256) (hb : b < 256) : a ||| b < 256 := Nat.or_lt_two_pow (n := 8) ha hb
/-- the owner at a place, as a set -/
def nb (S : SceneV) (n s : Nat) (X Y : Int32) : Nat := if oA S n s X Y = -1 then 0 else 2 ^ (oA S n s X Y).toNatClampNeg
theorem nb_lt {S : SceneV} {n s : Nat} (hI : SI S n) (X Y : Int32) : nb S n s X Y < 256 := by
  have h8 := hI.1
  unfold nb
  rcases oA_or (s := s) hI X Y with h | ⟨g, h1, -, h3⟩
  · rw [if_pos h]; omega
  · rw [h3, if_neg (n_m1 (by omega)), cl_n (by omega)]
    have : 2 ^ g ≤ 2 ^ 7 := Nat.pow_le_pow_right (by omega) (by omega)
    omega
theorem nb_bit {S : SceneV} {n s i : Nat} (hI : SI S n) (hi : i < 8) (X Y : Int32) : (nb S n s X Y).testBit i = decide (oA S n s X Y = nI i) := by
  have h8 := hI.1
  unfold nb
  rcases oA_or (s := s) hI X Y with h | ⟨g, h1, -, h3⟩
  · rw [if_pos h, h]
    simp [m1_n (show i < 65536 by omega)]
  · rw [h3, if_neg (n_m1 (by omega)), cl_n (by omega), Nat.testBit_two_pow]
    exact decide_eq_decide.mpr (by rw [n_eq (by omega) (by omega)])
theorem X0_ownersAt {S : SceneV} {n s : Nat} {V : CellV} (hI : SI S n) (hV : ∀ p, p < 256 → V.2.1 p = ownP S n s p) (X Y : Int32) : f_X0_ownersAt V X Y = some (nI (nb S n s X Y)) := by
  have h8 := hI.1
  unfold f_X0_ownersAt
  rw [X0_ownerAt hV]
  simp only [bd_some, nb]
  rcases oA_or (s := s) hI X Y with h | ⟨g, h1, -, h3⟩
  · rw [if_pos h, if_pos h]; rfl
  · rw [h3, if_neg (n_m1 (by omega)), if_neg (n_m1 (by omega)), cl_n (by omega)]
    unfold f_X4_with
    rw [n_bit0 g (by omega)]
    rfl
/-- what touches the plots of g among the first k -/
def tb (S : SceneV) (n s g : Nat) : Nat → Nat
  | 0 => 0
  | k + 1 => if ownP S n s k = nI g then (tb S n s g k ||| (nb S n s (nI (k % 16) - 1) (nI (k / 16)) ||| nb S n s (nI (k % 16) + 1) (nI (k / 16)))) ||| (nb S n s (nI (k % 16)) (nI (k / 16) - 1) ||| nb S n s (nI (k % 16)) (nI (k / 16) + 1)) else tb S n s g k
theorem tb_lt {S : SceneV} {n s g : Nat} (hI : SI S n) : ∀ k, tb S n s g k < 256
  | 0 => by show 0 < 256; omega
  | k + 1 => by
    rw [tb]
    split
    · exact or_lt (or_lt (tb_lt hI k) (or_lt (nb_lt hI _ _) (nb_lt hI _ _))) (or_lt (nb_lt hI _ _) (nb_lt hI _ _))
    · exact tb_lt hI k
theorem touch_in {S : SceneV} {n s g y : Nat} {V : CellV} (hI : SI S n) (hV : ∀ p, p < 256 → V.2.1 p = ownP S n s p) (hy : y < 16) : lp (f_X0_touching_L13 V (nI g) (nI y)) fu (nI (tb S n s g (y * 16)), 0) = some (nI (tb S n s g ((y + 1) * 16))) := by
  have q := lp_F (body := f_X0_touching_L13 V (nI g) (nI y)) (fun i z => (z, nI i)) 16 (fun i => nI (tb S n s g (y * 16 + i))) id (fun i hi => by
    obtain ⟨ex, ey⟩ := p_xy (y := y) hi
    unfold f_X0_touching_L13
    have c : ¬ (16 : Int32) ≤ nI i := by rw [show (16 : Int32) = nI 16 from rfl, n_le (by omega) (by omega)]; omega
    simp only [if_neg c, X0_ownerAt hV, X0_ownersAt hI hV, bd_some, or_n, oA_n hi hy]
    rw [← Nat.add_assoc, tb, ex, ey]
    by_cases ho : ownP S n s (y * 16 + i) = nI g
    · simp only [if_pos ho, bd_some, nI_1]
    · simp only [if_neg ho, bd_some, nI_1]) (by
    unfold f_X0_touching_L13
    have c : (16 : Int32) ≤ nI 16 := by decide
    simp only [if_pos c]; rfl) fu 0 (by omega) (fu_lt (by omega))
  rw [show (y + 1) * 16 = y * 16 + 16 by omega]
  exact q
theorem X0_touching {S : SceneV} {n s g : Nat} {V : CellV} (hI : SI S n) (hV : ∀ p, p < 256 → V.2.1 p = ownP S n s p) (hg : g < 8) : f_X0_touching V (nI g) = some (nI (tb S n s g 256 &&& (255 - 2 ^ g))) := by
  have q := lp_F (body := f_X0_touching_L4 V (nI g)) (fun i z => (z, nI i)) 16 (fun i => nI (tb S n s g (i * 16))) id (fun i hi => by
    unfold f_X0_touching_L4
    have c : ¬ (16 : Int32) ≤ nI i := by rw [show (16 : Int32) = nI 16 from rfl, n_le (by omega) (by omega)]; omega
    simp only [if_neg c, touch_in hI hV hi, bd_some, nI_1]) (by
    unfold f_X0_touching_L4
    have c : (16 : Int32) ≤ nI 16 := by decide
    simp only [if_pos c]; rfl) fu 0 (by omega) (fu_lt (by omega))
  unfold f_X0_touching
  rw [show lp (f_X0_touching_L4 V (nI g)) fu (0, 0) = _ from q]
  simp only [id, bd_some]
  rw [X4_without (tb_lt hI 256) hg]
  rfl
/-- plot k is g's and beside h's -/
abbrev nxP (S : SceneV) (n s g h k : Nat) : Prop := ownP S n s k = nI g ∧ (oA S n s (nI (k % 16) - 1) (nI (k / 16)) = nI h ∨ oA S n s (nI (k % 16) + 1) (nI (k / 16)) = nI h ∨ oA S n s (nI (k % 16)) (nI (k / 16) - 1) = nI h ∨ oA S n s (nI (k % 16)) (nI (k / 16) + 1) = nI h)
theorem tb_bit {S : SceneV} {n s g h : Nat} (hI : SI S n) (hh8 : h < 8) : ∀ k, (tb S n s g k).testBit h = true ↔ ∃ j, j < k ∧ nxP S n s g h j
  | 0 => by simp [tb]
  | k + 1 => by
    have ih := tb_bit (s := s) (g := g) hI hh8 k
    rw [tb]
    have split : (∃ j, j < k + 1 ∧ nxP S n s g h j) ↔ ((∃ j, j < k ∧ nxP S n s g h j) ∨ nxP S n s g h k) := by
      constructor
      · rintro ⟨j, hj, q⟩
        by_cases e : j = k
        · subst e; exact Or.inr q
        · exact Or.inl ⟨j, by omega, q⟩
      · rintro (⟨j, hj, q⟩ | q)
        · exact ⟨j, by omega, q⟩
        · exact ⟨k, by omega, q⟩
    rw [split]
    by_cases ho : ownP S n s k = nI g
    · rw [if_pos ho]
      simp only [Nat.testBit_or, nb_bit hI hh8, Bool.or_eq_true, decide_eq_true_eq, ih, nxP, ho, true_and]
      constructor
      · rintro ((q | q | q) | q | q) <;> simp [q]
      · rintro (q | q | q | q | q) <;> simp [q]
    · rw [if_neg ho, ih]
      simp only [nxP, ho, false_and, or_false]
/-! the reference: sides above 0 -/
def tN (S : SceneV) (n s g h k : Nat) : Nat := if ownP S n s k = nI g then (((if oA S n s (nI (k % 16) - 1) (nI (k / 16)) = nI h then 1 else 0) + (if oA S n s (nI (k % 16) + 1) (nI (k / 16)) = nI h then 1 else 0)) + (if oA S n s (nI (k % 16)) (nI (k / 16) - 1) = nI h then 1 else 0)) + (if oA S n s (nI (k % 16)) (nI (k / 16) + 1) = nI h then 1 else 0) else 0
def sN (t : Nat → Nat) : Nat → Nat
  | 0 => 0
  | k + 1 => sN t k + t k
theorem n_ite (c : Prop) (dc : Decidable c) : (@ite Int32 c dc 1 0) = nI (@ite Nat c dc 1 0) := by split <;> rfl
theorem tN_K {S : SceneV} {n s g h k : Nat} (hk : k < 256) : tK S n s (nI g) (nI h) k = nI (tN S n s g h k) := by
  unfold tK tm tN
  rw [oA_n (by omega) (by omega), Nat.div_add_mod' k 16]
  split
  · simp only [e1, n_ite, nI_add]
  · rfl
theorem tN_4 (S : SceneV) (n s g h k : Nat) : tN S n s g h k ≤ 4 := by
  unfold tN
  repeat' split
  all_goals omega
theorem tN_pos (S : SceneV) (n s g h k : Nat) : 0 < tN S n s g h k ↔ nxP S n s g h k := by
  unfold tN nxP
  by_cases h0 : ownP S n s k = nI g
  · rw [if_pos h0]
    by_cases h1 : oA S n s (nI (k % 16) - 1) (nI (k / 16)) = nI h <;> by_cases h2 : oA S n s (nI (k % 16) + 1) (nI (k / 16)) = nI h <;> by_cases h3 : oA S n s (nI (k % 16)) (nI (k / 16) - 1) = nI h <;> by_cases h4 : oA S n s (nI (k % 16)) (nI (k / 16) + 1) = nI h <;> simp [h0, h1, h2, h3, h4]
  · rw [if_neg h0]
    simp [h0]
theorem sK_N {S : SceneV} {n s g h : Nat} : ∀ k, k ≤ 256 → sK (tK S n s (nI g) (nI h)) k = nI (sN (tN S n s g h) k)
  | 0, _ => rfl
  | k + 1, hk => by rw [sK, sN, sK_N k (by omega), tN_K (by omega), nI_add]
theorem sN_le (S : SceneV) (n s g h : Nat) : ∀ k, sN (tN S n s g h) k ≤ 4 * k
  | 0 => Nat.le_refl _
  | k + 1 => by
    have h1 := sN_le S n s g h k
    have h2 := tN_4 S n s g h k
    rw [sN]; omega
theorem sN_pos (t : Nat → Nat) : ∀ k, 0 < sN t k ↔ ∃ j, j < k ∧ 0 < t j
  | 0 => by simp [sN]
  | k + 1 => by
    have ih := sN_pos t k
    rw [sN]
    constructor
    · intro q
      by_cases hq : 0 < t k
      · exact ⟨k, by omega, hq⟩
      · obtain ⟨j, h1, h2⟩ := ih.mp (by omega)
        exact ⟨j, by omega, h2⟩
    · rintro ⟨j, h1, h2⟩
      by_cases e : j = k
      · subst e; omega
      · have := ih.mpr ⟨j, by omega, h2⟩
        omega
theorem sides_pos {S : SceneV} {n s g h : Nat} : (0 : Int32) < sK (tK S n s (nI g) (nI h)) 256 ↔ ∃ j, j < 256 ∧ nxP S n s g h j := by
  have h1 := sN_le S n s g h 256
  rw [sK_N 256 (by omega), show (0 : Int32) = nI 0 from rfl, n_lt (by omega) (by omega), sN_pos]
  simp only [tN_pos]
