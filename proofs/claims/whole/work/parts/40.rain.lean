/-! ===== PURE HALF. rain, spread ===== -/
def cN (O : Nat → Int32) (g : Nat) : Nat → Nat
  | 0 => 0
  | k + 1 => cN O g k + (if O k = nI g then 1 else 0)
theorem cntP_N (O : Nat → Int32) (g : Nat) : ∀ k, cntP O g k = nI (cN O g k)
  | 0 => rfl
  | k + 1 => by rw [cntP, cN, cntP_N O g k, n_ite, nI_add]
theorem cN_le (O : Nat → Int32) (g : Nat) : ∀ k, cN O g k ≤ k
  | 0 => Nat.le_refl _
  | k + 1 => by
    have := cN_le O g k
    rw [cN]
    split <;> omega
theorem cN_pos (O : Nat → Int32) (g : Nat) : ∀ k, 0 < cN O g k → ∃ p, p < k ∧ O p = nI g
  | 0, h => by simp [cN] at h
  | k + 1, h => by
    rw [cN] at h
    by_cases e : O k = nI g
    · exact ⟨k, by omega, e⟩
    · rw [if_neg e] at h
      obtain ⟨p, h1, h2⟩ := cN_pos O g k (by omega)
      exact ⟨p, by omega, h2⟩
/-- only gauges of the set have plots -/
theorem cnt_bit {S : SceneV} {n s g : Nat} (hI : SI S n) (hg : g < 8) (h : 0 < cN (ownP S n s) g 256) : s.testBit g = true ∧ g < n := by
  have h8 := hI.1
  obtain ⟨p, h1, h2⟩ := cN_pos _ _ _ h
  rcases own_or (s := s) hI h1 with h3 | ⟨g', h4, h5, h6, -⟩
  · rw [h3] at h2; exact absurd h2 (m1_n (by omega))
  · rw [h6] at h2
    have := (n_eq (by omega) (by omega)).mp h2
    subst this
    exact ⟨h5, h4⟩
/-- plots times readings, of the first g gauges -/
def wtr (S : SceneV) (n s d : Nat) : Nat → Int32
  | 0 => 0
  | g + 1 => wtr S n s d g + (if s.testBit g = true then cntP (ownP S n s) g 256 * sRd S (g * 64 + d) else 0)
theorem rain_loop {n s d p : Nat} {R : RcV} (hI : SI R.1 n) (hp : p < 7) (hC : CR R.1 n s (R.2.2.2.2.1.2.2.2.2.2.2 p)) (hd : d < 64) : lp (f_X4_rainOn_L11 R (nI d) p) fu (0, 0) = some (wtr R.1 n s d n) := by
  have h8 := hI.1
  have h := lp_F (body := f_X4_rainOn_L11 R (nI d) p) (fun i z => (z, nI i)) n (wtr R.1 n s d) id (fun i hi => by
    have hi8 : i < 8 := by omega
    unfold f_X4_rainOn_L11
    have c : ¬ R.1.2.2.1 ≤ nI i := by rw [hI.2.1, n_le (by omega) (by omega)]; omega
    have hle := cN_le (ownP R.1 n s) i 256
    simp only [if_neg c, gd_t (decide_eq_true hp), gd_t (ix_n hi8 (by omega : (8 : Nat) ≤ 65536)), cl_n (show i < 65536 by omega), hC.2.2.1 i hi8, X1_readingOf R.1 hi8 hd, bd_some, nI_1, wtr]
    by_cases hz : 0 < cN (ownP R.1 n s) i 256
    · have q : ¬ cntP (ownP R.1 n s) i 256 ≤ 0 := by rw [cntP_N, show (0 : Int32) = nI 0 from rfl, n_le (by omega) (by omega)]; omega
      simp only [if_neg q, bd_some, (cnt_bit hI hi8 hz).1, reduceIte]
    · have e0 : cntP (ownP R.1 n s) i 256 = 0 := by rw [cntP_N, show cN (ownP R.1 n s) i 256 = 0 by omega]; rfl
      have q : cntP (ownP R.1 n s) i 256 ≤ 0 := by rw [e0]; decide
      rw [if_pos q, e0, Int32.zero_mul, ite_self, Int32.add_zero]
      rfl) (by
    unfold f_X4_rainOn_L11
    have c : R.1.2.2.1 ≤ nI n := by rw [hI.2.1, n_le (by omega) (by omega)]; omega
    simp only [if_pos c]; rfl) fu 0 (by omega) (fu_lt (by omega))
  exact h
theorem water_loop {S : SceneV} {n s d : Nat} {M : ModelV} (hI : SI S n) (hM : MRel S n M) (hs : s < 256) (hd : d < 64) : lp (f_X5_water_L11 M (nI d) (nI s)) fu (0, 0) = some (wtr S n s d n) := by
  have h8 := hI.1
  have h := lp_F (body := f_X5_water_L11 M (nI d) (nI s)) (fun i z => (z, nI i)) n (wtr S n s d) id (fun i hi => by
    have hi8 : i < 8 := by omega
    obtain ⟨-, -, -, hq⟩ := hM.2.2 i hi
    unfold f_X5_water_L11
    have c : ¬ M.2.2.1 ≤ nI i := by rw [hM.2.1, n_le (by omega) (by omega)]; omega
    simp only [if_neg c, X5_has hs hi8, X5_size hI hM hs hi8, ix_day' hi8 hd, gd_t (ix_n (show i * 64 + d < 512 by omega) (by omega : (512 : Nat) ≤ 65536)), cl_n (show i * 64 + d < 65536 by omega), (hq d hd).2, bd_some, b2i_0, nI_1, wtr]
    cases hb : s.testBit i <;> simp only [Bool.true_eq_false, Bool.false_eq_true, reduceIte, bd_some]) (by
    unfold f_X5_water_L11
    have c : M.2.2.1 ≤ nI n := by rw [hM.2.1, n_le (by omega) (by omega)]; omega
    simp only [if_pos c]; rfl) fu 0 (by omega) (fu_lt (by omega))
  exact h
/-! what the others have of the field -/
def oth (S : SceneV) (n s1 s2 d g : Nat) : Nat → Int32
  | 0 => 0
  | k + 1 => oth S n s1 s2 d g k + (if ownP S n s1 k = nI g ∧ ¬ ownP S n s2 k = -1 then sRd S ((ownP S n s2 k).toNatClampNeg * 64 + d) else 0)
theorem others_loop {n s1 s2 d g p3 p4 : Nat} {R : RcV} (hI : SI R.1 n) (h3 : p3 < 7) (h4 : p4 < 7) (hC3 : ∀ p, p < 256 → (R.2.2.2.2.1.2.2.2.2.2.2 p3).2.1 p = ownP R.1 n s1 p) (hC4 : ∀ p, p < 256 → (R.2.2.2.2.1.2.2.2.2.2.2 p4).2.1 p = ownP R.1 n s2 p) (hd : d < 64) : f_X4_rainOfOthers R (nI d) (nI g) p3 p4 = some (oth R.1 n s1 s2 d g 256) := by
  have h8 := hI.1
  have h := lp_F (body := f_X4_rainOfOthers_L6 R (nI d) (nI g) p3 p4) (fun i z => (z, nI i)) 256 (oth R.1 n s1 s2 d g) id (fun i hi => by
    unfold f_X4_rainOfOthers_L6
    have c : ¬ (256 : Int32) ≤ nI i := by rw [show (256 : Int32) = nI 256 from rfl, n_le (by omega) (by omega)]; omega
    simp only [if_neg c, gd_t (decide_eq_true h3), gd_t (decide_eq_true h4), gd_t (ix_n hi (by omega : (256 : Nat) ≤ 65536)), cl_n (show i < 65536 by omega), hC3 i hi, hC4 i hi, nI_1, oth]
    by_cases q1 : ownP R.1 n s1 i = nI g
    · rcases own_or (s := s2) hI hi with q2 | ⟨g', a1, -, a3, -⟩
      · simp only [if_pos q1, if_pos q2, bd_some, q2, not_true_eq_false, and_false, reduceIte, Int32.add_zero]
      · have q3 := n_m1 (show g' < 65536 by omega)
        simp only [if_pos q1, q1, a3, if_neg q3, X1_readingOf R.1 (show g' < 8 by omega) hd, bd_some, q3, not_false_eq_true, and_self, reduceIte, cl_n (show g' < 65536 by omega)]
    · simp only [if_neg q1, bd_some, q1, false_and, reduceIte, Int32.add_zero]) (by
    unfold f_X4_rainOfOthers_L6
    have c : (256 : Int32) ≤ nI 256 := by decide
    simp only [if_pos c]; rfl) fu 0 (by omega) (fu_lt (by omega))
  unfold f_X4_rainOfOthers
  rw [show lp (f_X4_rainOfOthers_L6 R (nI d) (nI g) p3 p4) fu (0, 0) = _ from h]
  rfl
/-- the same by gauges, of the first m of them, over the first k plots -/
def shw (S : SceneV) (O O2 : Nat → Int32) (s d g k : Nat) : Nat → Int32
  | 0 => 0
  | h + 1 => shw S O O2 s d g k h + (if h ≠ g ∧ s.testBit h = true then c2 O O2 (nI g) (nI h) k * sRd S (h * 64 + d) else 0)
theorem sharedW_loop {S : SceneV} {n s d g : Nat} {M : ModelV} (hI : SI S n) (hM : MRel S n M) (hs : s < 256) (hd : d < 64) (hg : g < 8) : lp (f_X5_sharedWater_L12 M (nI d) (nI g) (nI s)) fu (0, 0) = some (shw S (ownP S n (s ||| 2 ^ g)) (ownP S n (s &&& (255 - 2 ^ g))) s d g 256 n) := by
  have h8 := hI.1
  have h := lp_F (body := f_X5_sharedWater_L12 M (nI d) (nI g) (nI s)) (fun i z => (z, nI i)) n (shw S (ownP S n (s ||| 2 ^ g)) (ownP S n (s &&& (255 - 2 ^ g))) s d g 256) id (fun i hi => by
    have hi8 : i < 8 := by omega
    obtain ⟨-, -, -, hq⟩ := hM.2.2 i hi
    unfold f_X5_sharedWater_L12
    have c : ¬ M.2.2.1 ≤ nI i := by rw [hM.2.1, n_le (by omega) (by omega)]; omega
    simp only [if_neg c, X5_has hs hi8, X5_sharedOf hI hM hs hg hi8, ix_day' hi8 hd, gd_t (ix_n (show i * 64 + d < 512 by omega) (by omega : (512 : Nat) ≤ 65536)), cl_n (show i * 64 + d < 65536 by omega), (hq d hd).2, bd_some, b2i_0, nI_1, shw, n_eq (show i < 2 ^ 31 by omega) (show g < 2 ^ 31 by omega)]
    by_cases e : i = g
    · simp only [if_pos e, bd_some, ne_eq, e, not_true_eq_false, false_and, reduceIte]
    · cases hb : s.testBit i <;> simp only [if_neg e, ne_eq, e, not_false_eq_true, Bool.true_eq_false, Bool.false_eq_true, and_false, and_self, reduceIte, bd_some]) (by
    unfold f_X5_sharedWater_L12
    have c : M.2.2.1 ≤ nI n := by rw [hM.2.1, n_le (by omega) (by omega)]; omega
    simp only [if_pos c]; rfl) fu 0 (by omega) (fu_lt (by omega))
  exact h
theorem add_sw (a b c d : Int32) : (a + b) + (c + d) = (a + c) + (b + d) := by
  rw [Int32.add_assoc, Int32.add_assoc, ← Int32.add_assoc b, ← Int32.add_assoc c, Int32.add_comm b c]
/-- one plot more: its owner's reading more -/
theorem shw_k {S : SceneV} {O O2 : Nat → Int32} {s d g k h0 : Nat} (h1 : O k = nI g) (h2 : O2 k = nI h0) (h3 : h0 ≠ g) (h4 : s.testBit h0 = true) (h05 : h0 < 8) : ∀ m, m ≤ 8 → shw S O O2 s d g (k + 1) m = shw S O O2 s d g k m + (if h0 < m then sRd S (h0 * 64 + d) else 0)
  | 0, _ => by simp [shw]
  | m + 1, hm => by
    rw [shw, shw, shw_k h1 h2 h3 h4 h05 m (by omega)]
    by_cases e : m = h0
    · subst e
      have a1 : ¬ m < m := by omega
      have a2 : m < m + 1 := by omega
      rw [if_neg a1, if_pos a2, if_pos ⟨h3, h4⟩, if_pos ⟨h3, h4⟩, c2, h1, h2, if_pos ⟨rfl, rfl⟩, Int32.add_mul, Int32.one_mul, Int32.add_zero, Int32.add_assoc]
    · have a1 : (h0 < m + 1) ↔ h0 < m := by omega
      have a2 : ¬ nI h0 = nI m := fun q => e ((n_eq (by omega) (by omega)).mp q).symm
      simp only [a1, c2, h1, h2, a2, and_false, reduceIte, Int32.add_zero]
      rw [Int32.add_assoc, Int32.add_comm (if h0 < m then _ else _), ← Int32.add_assoc]
theorem shw_n {S : SceneV} {O O2 : Nat → Int32} {s d g k : Nat} (h : ∀ h, h < 8 → h ≠ g → s.testBit h = true → ¬ (O k = nI g ∧ O2 k = nI h)) : ∀ m, m ≤ 8 → shw S O O2 s d g (k + 1) m = shw S O O2 s d g k m
  | 0, _ => rfl
  | m + 1, hm => by
    rw [shw, shw, shw_n h m (by omega)]
    by_cases e : m ≠ g ∧ s.testBit m = true
    · rw [if_pos e, if_pos e, c2, if_neg (h m (by omega) e.1 e.2), Int32.add_zero]
    · rw [if_neg e, if_neg e]
theorem shw_0 (S : SceneV) (O O2 : Nat → Int32) (s d g : Nat) : ∀ m, shw S O O2 s d g 0 m = 0
  | 0 => rfl
  | m + 1 => by
    rw [shw, shw_0 S O O2 s d g m]
    simp only [c2, Int32.zero_mul]
    split <;> rfl
/-- by plots or by gauges: the same -/
theorem oth_shw {S : SceneV} {n s d g : Nat} (hI : SI S n) (hs : s < 256) (hg : g < 8) : ∀ k, k ≤ 256 → oth S n (s ||| 2 ^ g) (s &&& (255 - 2 ^ g)) d g k = shw S (ownP S n (s ||| 2 ^ g)) (ownP S n (s &&& (255 - 2 ^ g))) s d g k n
  | 0, _ => by rw [shw_0]; rfl
  | k + 1, hk => by
    have h8 := hI.1
    rw [oth, oth_shw hI hs hg k (by omega)]
    by_cases q1 : ownP S n (s ||| 2 ^ g) k = nI g
    · rcases own_or (s := s &&& (255 - 2 ^ g)) hI (show k < 256 by omega) with q2 | ⟨h0, a1, a2, a3, -⟩
      · rw [if_neg (fun z => z.2 q2), Int32.add_zero, shw_n (fun h hh8 _ _ z => by rw [q2] at z; exact m1_n (by omega) z.2) n h8]
      · have a4 : h0 ≠ g ∧ s.testBit h0 = true := by
          rw [b_wob s hs g hg h0 (by omega)] at a2
          simp only [Bool.and_eq_true, Bool.not_eq_true', decide_eq_false_iff_not] at a2
          exact ⟨a2.2, a2.1⟩
        rw [if_pos ⟨q1, by rw [a3]; exact n_m1 (by omega)⟩, a3, cl_n (by omega), shw_k q1 a3 a4.1 a4.2 (by omega) n h8, if_pos a1]
    · rw [if_neg (fun z => q1 z.1), Int32.add_zero, shw_n (fun _ _ _ _ z => q1 z.1) n h8]
/-! spread -/
def spr (f : Nat → Int32) : Nat → Int32
  | 0 => 0
  | g + 1 => spr f g + f g
theorem X0_farOfAll {f : Nat → Int32} {V : CellV} (hV : ∀ g, g < 8 → V.2.2.2 g = f g) : f_X0_farOfAll V = some (spr f 8) := by
  have h := lp_F (body := f_X0_farOfAll_L4 V) (fun i z => (z, nI i)) 8 (spr f) id (fun i hi => by
    unfold f_X0_farOfAll_L4
    have c : ¬ (8 : Int32) ≤ nI i := by rw [show (8 : Int32) = nI 8 from rfl, n_le (by omega) (by omega)]; omega
    simp only [if_neg c, gd_t (ix_n hi (by omega : (8 : Nat) ≤ 65536)), cl_n (show i < 65536 by omega), hV i hi, nI_1, spr]) (by
    unfold f_X0_farOfAll_L4
    have c : (8 : Int32) ≤ nI 8 := by decide
    simp only [if_pos c]; rfl) fu 0 (by omega) (fu_lt (by omega))
  unfold f_X0_farOfAll
  rw [show lp (f_X0_farOfAll_L4 V) fu (0, 0) = _ from h]
  rfl
theorem spread_loop {S : SceneV} {n s : Nat} {M : ModelV} (hI : SI S n) (hM : MRel S n M) (hs : s < 256) : lp (f_X5_spread_L33 M (nI s)) fu (0, 0) = some (spr (fun g => sumP (ownP S n s) (lefP S n s) (sRe S g) g 256) n) := by
  have h8 := hI.1
  have h := lp_F (body := f_X5_spread_L33 M (nI s)) (fun i z => (z, nI i)) n (spr (fun g => sumP (ownP S n s) (lefP S n s) (sRe S g) g 256)) id (fun i hi => by
    unfold f_X5_spread_L33
    have c : ¬ M.2.2.1 ≤ nI i := by rw [hM.2.1, n_le (by omega) (by omega)]; omega
    simp only [if_neg c, X5_farOf hI hM hs hi, bd_some, nI_1, spr]) (by
    unfold f_X5_spread_L33
    have c : M.2.2.1 ≤ nI n := by rw [hM.2.1, n_le (by omega) (by omega)]; omega
    simp only [if_pos c]; rfl) fu 0 (by omega) (fu_lt (by omega))
  exact h
theorem sum_no {S : SceneV} {n s g : Nat} (hI : SI S n) (hg : n ≤ g) (hg8 : g < 8) (re : Int32) : ∀ k, k ≤ 256 → sumP (ownP S n s) (lefP S n s) re g k = 0
  | 0, _ => rfl
  | k + 1, hk => by
    have h8 := hI.1
    rw [sumP, sum_no hI hg hg8 re k (by omega), if_neg ?_]
    · rfl
    · rcases own_or (s := s) hI (show k < 256 by omega) with h | ⟨g', h1, -, h3, -⟩
      · rw [h]; exact m1_n (by omega)
      · rw [h3, n_eq (by omega) (by omega)]; omega
theorem spr_8 {S : SceneV} {n s : Nat} (hI : SI S n) : ∀ m, n ≤ m → m ≤ 8 → spr (fun g => sumP (ownP S n s) (lefP S n s) (sRe S g) g 256) m = spr (fun g => sumP (ownP S n s) (lefP S n s) (sRe S g) g 256) n
  | 0, h, _ => by rw [show n = 0 by omega]
  | m + 1, h, h2 => by
    by_cases e : n = m + 1
    · rw [e]
    · rw [spr, spr_8 hI m (by omega) (by omega), sum_no hI (by omega) (by omega) _ 256 (by omega), Int32.add_zero]
