/-! ===== PURE HALF. neighbours of the reference; plots in both; rain ===== -/
theorem nb_loop {S : SceneV} {n s g : Nat} {M : ModelV} (hI : SI S n) (hM : MRel S n M) (hs : s < 256) (hg : g < n) : lp (f_X5_neighbours_L37 M (nI g) (nI s)) fu (0, 0) = some (nI (tb S n s g 256 &&& (255 - 2 ^ g))) := by
  have h8 := hI.1
  have hb := tb_lt (s := s) (g := g) hI 256
  have hx := b_wolt _ hb g (by omega)
  have hxb := b_wob _ hb g (by omega)
  generalize hxe : (tb S n s g 256 &&& (255 - 2 ^ g)) = x at hx hxb ⊢
  have lt : ∀ m, x % 2 ^ m < 256 := fun m => Nat.lt_of_le_of_lt (Nat.mod_le _ _) hx
  have h := lp_F (body := f_X5_neighbours_L37 M (nI g) (nI s)) (fun i z => (z, nI i)) n (fun i => nI (x % 2 ^ i)) id (fun i hi => by
    have hi8 : i < 8 := by omega
    unfold f_X5_neighbours_L37
    have c : ¬ M.2.2.1 ≤ nI i := by rw [hM.2.1, n_le (by omega) (by omega)]; omega
    have hle : ∀ x : Int32, (x ≤ 0) ↔ ¬ (0 < x) := fun x => by rw [i_le, i_lt, t0]; omega
    simp only [if_neg c, X5_sides (hc := nI i) hI hM hs (show g < 8 by omega) (Or.inr ⟨i, hi8, rfl, rfl⟩), bd_some, hle, sides_pos, ← tb_bit hI hi8 256, n_eq (show i < 2 ^ 31 by omega) (show g < 2 ^ 31 by omega), nI_1]
    have step0 : x.testBit i = false → x % 2 ^ (i + 1) = x % 2 ^ i := fun hq => bit_eq (lt _) (lt _) (fun j hj => by
      rw [Nat.testBit_mod_two_pow, Nat.testBit_mod_two_pow]
      by_cases ej : j = i
      · subst ej; simp [hq]
      · have : (j < i + 1) ↔ j < i := by omega
        simp [this])
    by_cases e : i = g
    · have q := step0 (by rw [hxb i hi8]; simp [e])
      simp only [if_pos e, bd_some, Int32.or_zero, q]
    · simp only [if_neg e]
      by_cases ht : (tb S n s g 256).testBit i = true
      · have hq : x.testBit i = true := by rw [hxb i hi8, ht]; simp [e]
        have q : x % 2 ^ (i + 1) = x % 2 ^ i ||| 2 ^ i := bit_eq (lt _) (b_withlt _ (lt _) i hi8) (fun j hj => by
          rw [b_withb _ (lt _) i hi8 j hj, Nat.testBit_mod_two_pow, Nat.testBit_mod_two_pow]
          by_cases ej : j = i
          · subst ej; simp [hq]
          · have : (j < i + 1) ↔ j < i := by omega
            simp [ej, this])
        have hnn : ¬ ¬ ((tb S n s g 256).testBit i = true) := fun z => z ht
        simp only [if_neg hnn, bd_some, b_with _ (lt i) i hi8, q]
      · have q := step0 (by rw [hxb i hi8, eq_false_of_ne_true ht]; rfl)
        simp only [if_pos ht, bd_some, Int32.or_zero, q]) (by
    unfold f_X5_neighbours_L37
    have c : M.2.2.1 ≤ nI n := by rw [hM.2.1, n_le (by omega) (by omega)]; omega
    simp only [if_pos c]; rfl) fu 0 (by omega) (fu_lt (by omega))
  have e0 : x % 2 ^ 0 = 0 := by rw [Nat.pow_zero, Nat.mod_one]
  have eN : x % 2 ^ n = x := bit_eq (lt _) hx (fun i hi => by
    rw [Nat.testBit_mod_two_pow]
    by_cases hin : i < n
    · simp [hin]
    · have : (tb S n s g 256).testBit i = false := by
        apply eq_false_of_ne_true
        intro ht
        obtain ⟨j, -, -, hj⟩ := (tb_bit hI hi 256).mp ht
        have aux : ∀ X Y, oA S n s X Y = nI i → i < n := fun X Y q => by
          rcases oA_or (s := s) hI X Y with h | ⟨g', h1, -, h3⟩
          · rw [h] at q; exact absurd q (m1_n (by omega))
          · rw [h3] at q
            have := (n_eq (by omega) (by omega)).mp q
            omega
        rcases hj with q | q | q | q <;> exact hin (aux _ _ q)
      rw [hxb i hi, this]
      simp [hin])
  simp only [e0, eN] at h
  exact h
/-- how many of the first k plots are g's by the one and h's by the other -/
def c2 (O O2 : Nat → Int32) (g h : Int32) : Nat → Int32
  | 0 => 0
  | k + 1 => c2 O O2 g h k + (if O k = g ∧ O2 k = h then 1 else 0)
theorem X0_inBoth {S : SceneV} {n s s2 : Nat} {V V2 : CellV} (hV : ∀ p, p < 256 → V.2.1 p = ownP S n s p) (hV2 : ∀ p, p < 256 → V2.2.1 p = ownP S n s2 p) (g h : Int32) : f_X0_inBoth V V2 g h = some (c2 (ownP S n s) (ownP S n s2) g h 256) := by
  have q := lp_F (body := f_X0_inBoth_L6 V V2 g h) (fun i z => (z, nI i)) 256 (c2 (ownP S n s) (ownP S n s2) g h) id (fun i hi => by
    unfold f_X0_inBoth_L6
    have c : ¬ (256 : Int32) ≤ nI i := by rw [show (256 : Int32) = nI 256 from rfl, n_le (by omega) (by omega)]; omega
    simp only [if_neg c, gd_t (ix_n hi (by omega : (256 : Nat) ≤ 65536)), cl_n (show i < 65536 by omega), hV i hi, hV2 i hi, nI_1, c2]
    by_cases h1 : ownP S n s i = g
    · by_cases h2 : ownP S n s2 i = h
      · simp only [if_pos h1, if_pos h2, bd_some, h1, h2, and_self, reduceIte]
      · simp only [if_pos h1, if_neg h2, bd_some, h2, and_false, reduceIte, Int32.add_zero]
    · simp only [if_neg h1, bd_some, h1, false_and, reduceIte, Int32.add_zero]) (by
    unfold f_X0_inBoth_L6
    have c : (256 : Int32) ≤ nI 256 := by decide
    simp only [if_pos c]; rfl) fu 0 (by omega) (fu_lt (by omega))
  unfold f_X0_inBoth
  rw [show lp (f_X0_inBoth_L6 V V2 g h) fu (0, 0) = _ from q]
  rfl
theorem X5_sharedOf {S : SceneV} {n s g h : Nat} {M : ModelV} (hI : SI S n) (hM : MRel S n M) (hs : s < 256) (hg : g < 8) (hh8 : h < 8) : f_X5_sharedOf M (nI s) (nI g) (nI h) = some (c2 (ownP S n (s ||| 2 ^ g)) (ownP S n (s &&& (255 - 2 ^ g))) (nI g) (nI h) 256) := by
  have q := lp_F (body := f_X5_sharedOf_L6 M (nI s) (nI g) (nI h)) (fun i z => (z, nI i)) 256 (c2 (ownP S n (s ||| 2 ^ g)) (ownP S n (s &&& (255 - 2 ^ g))) (nI g) (nI h)) id (fun k hk => by
    obtain ⟨e1', e2'⟩ := k_xy hk
    have hx : k % 16 < 16 := by omega
    have hy : k / 16 < 16 := by omega
    unfold f_X5_sharedOf_L6
    have c : ¬ (256 : Int32) ≤ nI k := by rw [show (256 : Int32) = nI 256 from rfl, n_le (by omega) (by omega)]; omega
    simp only [if_neg c]
    rw [e2', e1', X5_isPlot hM hx hy, b_with s hs g hg, b_wo s hs g hg]
    simp only [bd_some, b2i_0, nI_1]
    cases hp : plB S (k % 16) (k / 16) with
    | false =>
      simp only [reduceIte, bd_some, c2, ownP_out hp, m1_n (show g < 65536 by omega), false_and]
    | true =>
      rw [X5_ownerOf' hI hM (b_withlt s hs g hg) hx hy hp, X5_ownerOf' hI hM (b_wolt s hs g hg) hx hy hp, ownP_k, ownP_k]
      simp only [Bool.true_eq_false, reduceIte, bd_some, m6_eq (show g < 65536 by omega), m6_eq (show h < 65536 by omega), c2]
      by_cases h1 : ownP S n (s ||| 2 ^ g) k = nI g
      · by_cases h2 : ownP S n (s &&& (255 - 2 ^ g)) k = nI h
        · simp only [if_pos h1, if_pos h2, bd_some, h1, h2, and_self, reduceIte]
        · simp only [if_pos h1, if_neg h2, bd_some, h2, and_false, reduceIte]
      · simp only [if_neg h1, bd_some, h1, false_and, reduceIte]) (by
    unfold f_X5_sharedOf_L6
    have c : (256 : Int32) ≤ nI 256 := by decide
    simp only [if_pos c]; rfl) fu 0 (by omega) (fu_lt (by omega))
  unfold f_X5_sharedOf
  rw [show lp (f_X5_sharedOf_L6 M (nI s) (nI g) (nI h)) fu (0, 0) = _ from q]
  rfl
