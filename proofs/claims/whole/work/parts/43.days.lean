/-! ===== PURE HALF. days out, days read, which gauge stands where ===== -/
theorem lg0 (x : Int64) : (lg_cmp x 0 = 0) ↔ x = 0 := by
  unfold lg_cmp
  split
  · rename_i h
    constructor
    · intro q; exact absurd q (by decide)
    · intro q; subst q; exact absurd h (by decide)
  · split
    · rename_i h; exact ⟨fun _ => h, fun _ => rfl⟩
    · rename_i h
      constructor
      · intro q; exact absurd q (by decide)
      · intro q; exact absurd q h
theorem and_2p (x d : Nat) : x &&& 2 ^ d = (x.testBit d).toNat * 2 ^ d := by
  apply Nat.eq_of_testBit_eq
  intro i
  rw [Nat.testBit_and, Nat.testBit_two_pow]
  by_cases h : d = i
  · subst h
    cases hb : x.testBit d <;> simp [Nat.testBit_two_pow]
  · cases hb : x.testBit d <;> simp [h, Nat.testBit_two_pow]
theorem oneN {d : Nat} (hd : d < 64) : nL ((1 : Int64) <<< ((nI d).toInt64 &&& 63)) = 2 ^ d := oneL d hd
theorem ob_n (w : Int64) {d : Nat} (hd : d < 64) : ob w d = (nL w).testBit d := by
  have e : nL (w &&& ((1 : Int64) <<< ((nI d).toInt64 &&& 63))) = ((nL w).testBit d).toNat * 2 ^ d := by
    rw [nL_and, oneN hd, and_2p]
  unfold ob
  by_cases h : (nL w).testBit d = true
  · rw [h] at e ⊢
    have h2 : ¬ lg_cmp (w &&& ((1 : Int64) <<< ((nI d).toInt64 &&& 63))) 0 = 0 := by
      rw [lg0]; intro q; rw [q] at e
      have : (0 : Nat) < 2 ^ d := Nat.two_pow_pos d
      have e2 : (0 : Nat) = 1 * 2 ^ d := e
      omega
    simp [h2]
  · have h' := eq_false_of_ne_true h
    rw [h'] at e ⊢
    have h2 : lg_cmp (w &&& ((1 : Int64) <<< ((nI d).toInt64 &&& 63))) 0 = 0 := by
      rw [lg0]; apply nL_inj; rw [e]; simp [nL]
    simp [h2]
theorem ob_0 {d : Nat} (hd : d < 64) : ob 0 d = false := by rw [ob_n 0 hd]; exact Nat.zero_testBit d
theorem ob_set (w : Int64) {d i : Nat} (hd : d < 64) (hi : i < 64) : ob (w ||| ((1 : Int64) <<< ((nI d).toInt64 &&& 63))) i = (ob w i || decide (i = d)) := by
  rw [ob_n _ hi, ob_n _ hi, nL_or, oneN hd, Nat.testBit_or, Nat.testBit_two_pow]
  congr 1
  by_cases h : i = d
  · subst h; simp
  · simp [h, Ne.symm h]
theorem nL_m1 : nL (-1 : Int64) = 2 ^ 64 - 1 := by decide
theorem ob_clr (w : Int64) {d i : Nat} (hd : d < 64) (hi : i < 64) : ob (w &&& (((1 : Int64) <<< ((nI d).toInt64 &&& 63)) ^^^ ((-1) : Int64))) i = (ob w i && !decide (i = d)) := by
  rw [ob_n _ hi, ob_n _ hi, nL_and, nL_xor, oneN hd, nL_m1, Nat.testBit_and, Nat.testBit_xor, Nat.testBit_two_pow, Nat.testBit_two_pow_sub_one]
  congr 1
  by_cases h : i = d
  · subst h; simp [hi]
  · simp [h, Ne.symm h, hi]
theorem bcs_s (x i : Nat) : bcs x (i + 1) = bcs x i + (x.testBit i).toNat := by
  rw [bcs, Nat.toNat_testBit]
theorem bcs_le (x : Nat) : ∀ i, bcs x i ≤ i
  | 0 => Nat.le_refl 0
  | i + 1 => by have := bcs_le x i; rw [bcs]; omega
theorem X1_daysOut (S : SceneV) {g : Nat} (hg : g < 8) : f_X1_daysOut S (nI g) = some (nI (bcs (nL (sOut S g)) 64)) := by
  unfold f_X1_daysOut
  rw [gd_t (ix_n hg (by omega)), cl_n (by omega), bitCount_n]
  rfl
theorem X5_daysOut {S : SceneV} {n g : Nat} {M : ModelV} (hI : SI S n) (hM : MRel S n M) (hg : g < n) : f_X5_daysOut M (nI g) = some (nI (bcs (nL (sOut S g)) 64)) := by
  have h8 := hI.1
  obtain ⟨-, -, -, hq⟩ := hM.2.2 g hg
  have h := lp_F (body := f_X5_daysOut_L4 M (nI g)) (fun i s => (s, nI i)) 64 (fun i => nI (bcs (nL (sOut S g)) i)) id (fun i hi => by
    unfold f_X5_daysOut_L4
    have c : ¬ (64 : Int32) ≤ nI i := by rw [show (64 : Int32) = nI 64 from rfl, n_le (by omega) (by omega)]; omega
    simp only [if_neg c, ix_day' (show g < 8 by omega) hi, gd_t (ix_n (show g * 64 + i < 512 by omega) (by omega : (512 : Nat) ≤ 65536)), cl_n (show g * 64 + i < 65536 by omega), (hq i hi).1, b2i_0, nI_1, bd_ite, ob_n _ hi, show nI (bcs (nL (sOut S g)) (i + 1)) = nI (bcs (nL (sOut S g)) i) + nI ((nL (sOut S g)).testBit i).toNat from by rw [bcs_s, nI_add]]
    by_cases h1 : (nL (sOut S g)).testBit i = false
    · rw [if_pos h1, h1]; rfl
    · rw [if_neg h1, eq_true_of_ne_false h1]; rfl) (by
    unfold f_X5_daysOut_L4
    have c : (64 : Int32) ≤ nI 64 := by decide
    simp only [if_pos c]; rfl) fu 0 (by omega) (fu_lt (by omega))
  unfold f_X5_daysOut
  rw [show lp (f_X5_daysOut_L4 M (nI g)) fu (0, 0) = some (nI (bcs (nL (sOut S g)) 64)) from h]
  rfl
/-- how many of the first days a gauge was read -/
def rdc (rd : Nat → Int32) (g : Nat) : Nat → Nat
  | 0 => 0
  | i + 1 => if rd (g * 64 + i) = -6 then rdc rd g i else rdc rd g i + 1
theorem X1_daysRead (S : SceneV) {g : Nat} (hg : g < 8) : f_X1_daysRead S (nI g) = some (nI (rdc (sRd S) g 64)) := by
  have h := lp_F (body := f_X1_daysRead_L4 S (nI g)) (fun i s => (s, nI i)) 64 (fun i => nI (rdc (sRd S) g i)) id (fun i hi => by
    unfold f_X1_daysRead_L4
    have c : ¬ (64 : Int32) ≤ nI i := by rw [show (64 : Int32) = nI 64 from rfl, n_le (by omega) (by omega)]; omega
    simp only [if_neg c, X1_readingOf S hg hi, bd_some, nI_1, rdc]
    by_cases h1 : S.2.2.2.2.2.2.2 (g * 64 + i) = -6
    · simp only [h1, reduceIte, bd_some]
    · simp only [h1, reduceIte, bd_some, nI_1]) (by
    unfold f_X1_daysRead_L4
    have c : (64 : Int32) ≤ nI 64 := by decide
    simp only [if_pos c]; rfl) fu 0 (by omega) (fu_lt (by omega))
  unfold f_X1_daysRead
  rw [show lp (f_X1_daysRead_L4 S (nI g)) fu (0, 0) = some (nI (rdc (sRd S) g 64)) from h]
  rfl
theorem X5_daysRead {S : SceneV} {n g : Nat} {M : ModelV} (hI : SI S n) (hM : MRel S n M) (hg : g < n) : f_X5_daysRead M (nI g) = some (nI (rdc (sRd S) g 64)) := by
  have h8 := hI.1
  obtain ⟨-, -, -, hq⟩ := hM.2.2 g hg
  have h := lp_F (body := f_X5_daysRead_L4 M (nI g)) (fun i s => (s, nI i)) 64 (fun i => nI (rdc (sRd S) g i)) id (fun i hi => by
    unfold f_X5_daysRead_L4
    have c : ¬ (64 : Int32) ≤ nI i := by rw [show (64 : Int32) = nI 64 from rfl, n_le (by omega) (by omega)]; omega
    simp only [if_neg c, ix_day' (show g < 8 by omega) hi, gd_t (ix_n (show g * 64 + i < 512 by omega) (by omega : (512 : Nat) ≤ 65536)), cl_n (show g * 64 + i < 65536 by omega), (hq i hi).2, rd_neg (hI.2.2.2.2.2.1 g i hg hi), nI_1, rdc]
    by_cases h1 : sRd S (g * 64 + i) = -6
    · simp only [h1, reduceIte, bd_some, Int32.add_zero]
    · simp only [h1, reduceIte, bd_some, nI_1]) (by
    unfold f_X5_daysRead_L4
    have c : (64 : Int32) ≤ nI 64 := by decide
    simp only [if_pos c]; rfl) fu 0 (by omega) (fu_lt (by omega))
  unfold f_X5_daysRead
  rw [show lp (f_X5_daysRead_L4 M (nI g)) fu (0, 0) = some (nI (rdc (sRd S) g 64)) from h]
  rfl
